-- X1_begin
def rm_X1_begin : Room := { frames := 0, cells := 0, slots := 0, locals := 0 }
theorem fl_X1_begin_23 : Cond.fieldLink RX1 23 "PaperWalls$Hours" "known" "J" ∈ wsX1_begin := by decide +kernel
theorem fl_X1_begin_27 : Cond.fieldLink RX1 27 "PaperWalls$Hours" "size" "I" ∈ wsX1_begin := by decide +kernel
theorem in_X1_begin_X1 : ∀ x ∈ u_ws RX1 TX1 6, x ∈ wsX1_begin := by decide +kernel
def F_X1_begin (i : Nat) (S : Sg)  : Option Sg := nm (wL S (sb i + 8) 4 (0 : Int64)) (fun S1 => nm (wI S1 (sb i + 8) 5 (0 : Int32)) (fun S2 => some S2))
set_option maxHeartbeats 4000000 in
set_option maxRecDepth 100000 in
theorem c_X1_begin (l : Launch) (G : Gp) (hI : Gd G) {i : Nat} (hi : i < 5) {S : Sg} {S1 : Sg} (hF : F_X1_begin i S = some S1) : Met l yX1_begin wsX1_begin rm_X1_begin (va_Pc [.ref (G.2.1 (sb i + 8))] (PreW (wC G) S)) (va_Qv (fun u => u = S1) (PostW (wC G)) (AW (wC G))) 0 0 (AW (wC G)) := by
  rw [F_X1_begin] at hF
  refine met_v (cc := cX1_begin) (maxL := 1) (own := RX1) hI.1 (by decide) rfl rfl (Nat.le_of_ble_eq_true rfl) (fun X O hR => ?_)
  show Go X l rm_X1_begin (wC G) 1 0 [(0, .ref (G.2.1 (sb i + 8)))] [] S
  refine go_aload_n O dX1_begin_0 rfl 0 rfl ?_
  refine go_lconst (v := (0 : Int64)) O dX1_begin_1 (by decide) ?_
  obtain ⟨S1, eS1, hF⟩ := nm_s hF
  refine go_putL (k := (sb i + 8)) (j := 4) O (lt9 hI (sb_lt hi (by decide : 8 < 13))) (cv_hrs G hi (S.1 (sb i + 8)) (S.2 (sb i + 8))) rfl in_X1_begin_X1 (by decide) fl_X1_begin_23 rfl tyX1 tyX1_ok nmX1 rfl (by decide +kernel) (Nat.le_of_ble_eq_true rfl) (cv_hrs G hi (S.1 (sb i + 8)) (vp_updL (S.2 (sb i + 8)) 4 (0 : Int64))) dX1_begin_2 eS1 ?_
  refine go_aload_n O dX1_begin_5 rfl 0 rfl ?_
  refine go_iconst (v := (0 : Int32)) O dX1_begin_6 (by decide) ?_
  obtain ⟨S2, eS2, hF⟩ := nm_s hF
  refine go_putI (k := (sb i + 8)) (j := 5) O (lt9 hI (sb_lt hi (by decide : 8 < 13))) (cv_hrs G hi (S1.1 (sb i + 8)) (S1.2 (sb i + 8))) rfl in_X1_begin_X1 (by decide) fl_X1_begin_27 rfl tyX1 tyX1_ok nmX1 rfl (by decide +kernel) (Nat.le_of_ble_eq_true rfl) (cv_hrs G hi (upd (S1.1 (sb i + 8)) 5 (0 : Int32)) (S1.2 (sb i + 8))) dX1_begin_7 eS2 ?_
  exact ret_v hF (hR _ _ dX1_begin_10)
-- X1_become
def rm_X1_become : Room := { frames := 1, cells := 0, slots := 0, locals := 80 }
theorem fl_X1_become_9 : Cond.fieldLink RX1 9 "PaperWalls$Hours" "tellers" "[I" ∈ wsX1_become := by decide +kernel
theorem fl_X1_become_13 : Cond.fieldLink RX1 13 "PaperWalls$Hours" "things" "[I" ∈ wsX1_become := by decide +kernel
theorem fl_X1_become_16 : Cond.fieldLink RX1 16 "PaperWalls$Hours" "heardBy" "[I" ∈ wsX1_become := by decide +kernel
theorem fl_X1_become_19 : Cond.fieldLink RX1 19 "PaperWalls$Hours" "ahead" "[J" ∈ wsX1_become := by decide +kernel
theorem fl_X1_become_23 : Cond.fieldLink RX1 23 "PaperWalls$Hours" "known" "J" ∈ wsX1_become := by decide +kernel
theorem fl_X1_become_27 : Cond.fieldLink RX1 27 "PaperWalls$Hours" "size" "I" ∈ wsX1_become := by decide +kernel
theorem wd_X1_become_iss : Cond.initialized "java/lang/System" ∈ wsX1_become := by decide +kernel
theorem wd_X1_become_m31 : Cond.methodLink RX1 31 arraycopyName ∈ wsX1_become := by decide +kernel
theorem wd_X1_become_nat : Cond.native arraycopyName ∈ wsX1_become := by decide +kernel
theorem wd_X1_become_sac : Cond.static arraycopyName ∈ wsX1_become := by decide +kernel
theorem in_X1_become_X1 : ∀ x ∈ u_ws RX1 TX1 6, x ∈ wsX1_become := by decide +kernel
def F_X1_become (i : Nat) (j : Nat) (S : Sg)  : Option Sg := chk (cpB (0 : Int32) (0 : Int32) (40 : Int32) 40 40) (nm (cpI S (sb j + 9) (0 : Int32).toNatClampNeg (sb i + 9) (0 : Int32).toNatClampNeg (40 : Int32).toNatClampNeg) (fun S1 => chk (cpB (0 : Int32) (0 : Int32) (40 : Int32) 40 40) (nm (cpI S1 (sb j + 10) (0 : Int32).toNatClampNeg (sb i + 10) (0 : Int32).toNatClampNeg (40 : Int32).toNatClampNeg) (fun S3 => chk (cpB (0 : Int32) (0 : Int32) (40 : Int32) 40 40) (nm (cpI S3 (sb j + 11) (0 : Int32).toNatClampNeg (sb i + 11) (0 : Int32).toNatClampNeg (40 : Int32).toNatClampNeg) (fun S5 => chk (cpB (0 : Int32) (0 : Int32) (40 : Int32) 40 40) (nm (cpL S5 (sb j + 12) (0 : Int32).toNatClampNeg (sb i + 12) (0 : Int32).toNatClampNeg (40 : Int32).toNatClampNeg) (fun S7 => nm (wL S7 (sb i + 8) 4 (S7.2 (sb j + 8) 4)) (fun S9 => nm (wI S9 (sb i + 8) 5 (S9.1 (sb j + 8) 5)) (fun S10 => some S10))))))))))
set_option maxHeartbeats 4000000 in
set_option maxRecDepth 100000 in
theorem c_X1_become (l : Launch) (G : Gp) (hI : Gd G) {i : Nat} {j : Nat} (hi : i < 5) (hj : j < 5) {S : Sg} {S1 : Sg} (hF : F_X1_become i j S = some S1) : Met l yX1_become wsX1_become rm_X1_become (va_Pc [.ref (G.2.1 (sb i + 8)), .ref (G.2.1 (sb j + 8))] (PreW (wC G) S)) (va_Qv (fun u => u = S1) (PostW (wC G)) (AW (wC G))) 0 0 (AW (wC G)) := by
  rw [F_X1_become] at hF
  refine met_v (cc := cX1_become) (maxL := 2) (own := RX1) hI.1 (by decide) rfl rfl (Nat.le_of_ble_eq_true rfl) (fun X O hR => ?_)
  show Go X l rm_X1_become (wC G) 2 0 [(0, .ref (G.2.1 (sb i + 8))), (1, .ref (G.2.1 (sb j + 8)))] [] S
  refine go_aload_n O dX1_become_0 rfl 1 rfl ?_
  refine go_get (k := (sb j + 8)) (j := 0) O (lt9 hI (sb_lt hj (by decide : 8 < 13))) (cv_hrs G hj (S.1 (sb j + 8)) (S.2 (sb j + 8))) rfl in_X1_become_X1 (by decide) fl_X1_become_9 rfl rfl dX1_become_1 ?_
  refine go_iconst (v := (0 : Int32)) O dX1_become_4 (by decide) ?_
  refine go_aload_n O dX1_become_5 rfl 0 rfl ?_
  refine go_get (k := (sb i + 8)) (j := 0) O (lt9 hI (sb_lt hi (by decide : 8 < 13))) (cv_hrs G hi (S.1 (sb i + 8)) (S.2 (sb i + 8))) rfl in_X1_become_X1 (by decide) fl_X1_become_9 rfl rfl dX1_become_6 ?_
  refine go_iconst (v := (0 : Int32)) O dX1_become_9 (by decide) ?_
  refine go_bipush (v := (40 : Int32)) O dX1_become_10 (by decide) ?_
  obtain ⟨hc2, hF⟩ := chk_s hF
  obtain ⟨S1, eS1, hF⟩ := nm_s hF
  refine go_cpyI (k1 := (sb j + 9)) (k2 := (sb i + 9)) O wd_X1_become_m31 wd_X1_become_nat wd_X1_become_sac wd_X1_become_iss (lt9 hI (sb_lt hj (by decide : 9 < 13))) (lt9 hI (sb_lt hi (by decide : 9 < 13))) (cv_hra9 G hj (S.1 (sb j + 9)) (S.2 (sb j + 9))) (cv_hra9 G hi (S.1 (sb i + 9)) (S.2 (sb i + 9))) (cv_hra9 G hi (va_cpy (S.1 (sb j + 9)) (S.1 (sb i + 9)) (0 : Int32).toNatClampNeg (0 : Int32).toNatClampNeg (40 : Int32).toNatClampNeg) (S.2 (sb i + 9))) (cpB_s hc2).1 (cpB_s hc2).2.1 (cpB_s hc2).2.2.1 (cpB_s hc2).2.2.2.1 (cpB_s hc2).2.2.2.2 (by decide) (Nat.le_of_ble_eq_true rfl) dX1_become_12 eS1 ?_
  refine go_aload_n O dX1_become_15 rfl 1 rfl ?_
  refine go_get (k := (sb j + 8)) (j := 1) O (lt9 hI (sb_lt hj (by decide : 8 < 13))) (cv_hrs G hj (S1.1 (sb j + 8)) (S1.2 (sb j + 8))) rfl in_X1_become_X1 (by decide) fl_X1_become_13 rfl rfl dX1_become_16 ?_
  refine go_iconst (v := (0 : Int32)) O dX1_become_19 (by decide) ?_
  refine go_aload_n O dX1_become_20 rfl 0 rfl ?_
  refine go_get (k := (sb i + 8)) (j := 1) O (lt9 hI (sb_lt hi (by decide : 8 < 13))) (cv_hrs G hi (S1.1 (sb i + 8)) (S1.2 (sb i + 8))) rfl in_X1_become_X1 (by decide) fl_X1_become_13 rfl rfl dX1_become_21 ?_
  refine go_iconst (v := (0 : Int32)) O dX1_become_24 (by decide) ?_
  refine go_bipush (v := (40 : Int32)) O dX1_become_25 (by decide) ?_
  obtain ⟨hc4, hF⟩ := chk_s hF
  obtain ⟨S3, eS3, hF⟩ := nm_s hF
  refine go_cpyI (k1 := (sb j + 10)) (k2 := (sb i + 10)) O wd_X1_become_m31 wd_X1_become_nat wd_X1_become_sac wd_X1_become_iss (lt9 hI (sb_lt hj (by decide : 10 < 13))) (lt9 hI (sb_lt hi (by decide : 10 < 13))) (cv_hra10 G hj (S1.1 (sb j + 10)) (S1.2 (sb j + 10))) (cv_hra10 G hi (S1.1 (sb i + 10)) (S1.2 (sb i + 10))) (cv_hra10 G hi (va_cpy (S1.1 (sb j + 10)) (S1.1 (sb i + 10)) (0 : Int32).toNatClampNeg (0 : Int32).toNatClampNeg (40 : Int32).toNatClampNeg) (S1.2 (sb i + 10))) (cpB_s hc4).1 (cpB_s hc4).2.1 (cpB_s hc4).2.2.1 (cpB_s hc4).2.2.2.1 (cpB_s hc4).2.2.2.2 (by decide) (Nat.le_of_ble_eq_true rfl) dX1_become_27 eS3 ?_
  refine go_aload_n O dX1_become_30 rfl 1 rfl ?_
  refine go_get (k := (sb j + 8)) (j := 2) O (lt9 hI (sb_lt hj (by decide : 8 < 13))) (cv_hrs G hj (S3.1 (sb j + 8)) (S3.2 (sb j + 8))) rfl in_X1_become_X1 (by decide) fl_X1_become_16 rfl rfl dX1_become_31 ?_
  refine go_iconst (v := (0 : Int32)) O dX1_become_34 (by decide) ?_
  refine go_aload_n O dX1_become_35 rfl 0 rfl ?_
  refine go_get (k := (sb i + 8)) (j := 2) O (lt9 hI (sb_lt hi (by decide : 8 < 13))) (cv_hrs G hi (S3.1 (sb i + 8)) (S3.2 (sb i + 8))) rfl in_X1_become_X1 (by decide) fl_X1_become_16 rfl rfl dX1_become_36 ?_
  refine go_iconst (v := (0 : Int32)) O dX1_become_39 (by decide) ?_
  refine go_bipush (v := (40 : Int32)) O dX1_become_40 (by decide) ?_
  obtain ⟨hc6, hF⟩ := chk_s hF
  obtain ⟨S5, eS5, hF⟩ := nm_s hF
  refine go_cpyI (k1 := (sb j + 11)) (k2 := (sb i + 11)) O wd_X1_become_m31 wd_X1_become_nat wd_X1_become_sac wd_X1_become_iss (lt9 hI (sb_lt hj (by decide : 11 < 13))) (lt9 hI (sb_lt hi (by decide : 11 < 13))) (cv_hra11 G hj (S3.1 (sb j + 11)) (S3.2 (sb j + 11))) (cv_hra11 G hi (S3.1 (sb i + 11)) (S3.2 (sb i + 11))) (cv_hra11 G hi (va_cpy (S3.1 (sb j + 11)) (S3.1 (sb i + 11)) (0 : Int32).toNatClampNeg (0 : Int32).toNatClampNeg (40 : Int32).toNatClampNeg) (S3.2 (sb i + 11))) (cpB_s hc6).1 (cpB_s hc6).2.1 (cpB_s hc6).2.2.1 (cpB_s hc6).2.2.2.1 (cpB_s hc6).2.2.2.2 (by decide) (Nat.le_of_ble_eq_true rfl) dX1_become_42 eS5 ?_
  refine go_aload_n O dX1_become_45 rfl 1 rfl ?_
  refine go_get (k := (sb j + 8)) (j := 3) O (lt9 hI (sb_lt hj (by decide : 8 < 13))) (cv_hrs G hj (S5.1 (sb j + 8)) (S5.2 (sb j + 8))) rfl in_X1_become_X1 (by decide) fl_X1_become_19 rfl rfl dX1_become_46 ?_
  refine go_iconst (v := (0 : Int32)) O dX1_become_49 (by decide) ?_
  refine go_aload_n O dX1_become_50 rfl 0 rfl ?_
  refine go_get (k := (sb i + 8)) (j := 3) O (lt9 hI (sb_lt hi (by decide : 8 < 13))) (cv_hrs G hi (S5.1 (sb i + 8)) (S5.2 (sb i + 8))) rfl in_X1_become_X1 (by decide) fl_X1_become_19 rfl rfl dX1_become_51 ?_
  refine go_iconst (v := (0 : Int32)) O dX1_become_54 (by decide) ?_
  refine go_bipush (v := (40 : Int32)) O dX1_become_55 (by decide) ?_
  obtain ⟨hc8, hF⟩ := chk_s hF
  obtain ⟨S7, eS7, hF⟩ := nm_s hF
  refine go_cpyL (k1 := (sb j + 12)) (k2 := (sb i + 12)) O wd_X1_become_m31 wd_X1_become_nat wd_X1_become_sac wd_X1_become_iss (lt9 hI (sb_lt hj (by decide : 12 < 13))) (lt9 hI (sb_lt hi (by decide : 12 < 13))) (cv_hra12 G hj (S5.1 (sb j + 12)) (S5.2 (sb j + 12))) (cv_hra12 G hi (S5.1 (sb i + 12)) (S5.2 (sb i + 12))) (cv_hra12 G hi (S5.1 (sb i + 12)) (va_cpy (S5.2 (sb j + 12)) (S5.2 (sb i + 12)) (0 : Int32).toNatClampNeg (0 : Int32).toNatClampNeg (40 : Int32).toNatClampNeg)) (cpB_s hc8).1 (cpB_s hc8).2.1 (cpB_s hc8).2.2.1 (cpB_s hc8).2.2.2.1 (cpB_s hc8).2.2.2.2 (by decide) (Nat.le_of_ble_eq_true rfl) dX1_become_57 eS7 ?_
  refine go_aload_n O dX1_become_60 rfl 0 rfl ?_
  refine go_aload_n O dX1_become_61 rfl 1 rfl ?_
  refine go_get (k := (sb j + 8)) (j := 4) O (lt9 hI (sb_lt hj (by decide : 8 < 13))) (cv_hrs G hj (S7.1 (sb j + 8)) (S7.2 (sb j + 8))) rfl in_X1_become_X1 (by decide) fl_X1_become_23 rfl rfl dX1_become_62 ?_
  obtain ⟨S9, eS9, hF⟩ := nm_s hF
  refine go_putL (k := (sb i + 8)) (j := 4) O (lt9 hI (sb_lt hi (by decide : 8 < 13))) (cv_hrs G hi (S7.1 (sb i + 8)) (S7.2 (sb i + 8))) rfl in_X1_become_X1 (by decide) fl_X1_become_23 rfl tyX1 tyX1_ok nmX1 rfl (by decide +kernel) (Nat.le_of_ble_eq_true rfl) (cv_hrs G hi (S7.1 (sb i + 8)) (vp_updL (S7.2 (sb i + 8)) 4 (S7.2 (sb j + 8) 4))) dX1_become_65 eS9 ?_
  refine go_aload_n O dX1_become_68 rfl 0 rfl ?_
  refine go_aload_n O dX1_become_69 rfl 1 rfl ?_
  refine go_get (k := (sb j + 8)) (j := 5) O (lt9 hI (sb_lt hj (by decide : 8 < 13))) (cv_hrs G hj (S9.1 (sb j + 8)) (S9.2 (sb j + 8))) rfl in_X1_become_X1 (by decide) fl_X1_become_27 rfl rfl dX1_become_70 ?_
  obtain ⟨S10, eS10, hF⟩ := nm_s hF
  refine go_putI (k := (sb i + 8)) (j := 5) O (lt9 hI (sb_lt hi (by decide : 8 < 13))) (cv_hrs G hi (S9.1 (sb i + 8)) (S9.2 (sb i + 8))) rfl in_X1_become_X1 (by decide) fl_X1_become_27 rfl tyX1 tyX1_ok nmX1 rfl (by decide +kernel) (Nat.le_of_ble_eq_true rfl) (cv_hrs G hi (upd (S9.1 (sb i + 8)) 5 (S9.1 (sb j + 8) 5)) (S9.2 (sb i + 8))) dX1_become_73 eS10 ?_
  exact ret_v hF (hR _ _ dX1_become_76)
-- X1_whoKnow
def rm_X1_whoKnow : Room := { frames := 0, cells := 0, slots := 0, locals := 0 }
theorem fl_X1_whoKnow_23 : Cond.fieldLink RX1 23 "PaperWalls$Hours" "known" "J" ∈ wsX1_whoKnow := by decide +kernel
theorem in_X1_whoKnow_X1 : ∀ x ∈ u_ws RX1 TX1 6, x ∈ wsX1_whoKnow := by decide +kernel
def F_X1_whoKnow (i : Nat) (S : Sg) (a1 : Int32) : Option Int32 := some ((Int64.toInt32 (lushr (S.2 (sb i + 8) 4) ((8 : Int32) * a1))) &&& (255 : Int32))
set_option maxHeartbeats 4000000 in
set_option maxRecDepth 100000 in
theorem c_X1_whoKnow (l : Launch) (G : Gp) (hI : Gd G) {i : Nat} (hi : i < 5) {S : Sg} {a1 : Int32} {r : Int32} (hF : F_X1_whoKnow i S a1 = some r) : Met l yX1_whoKnow wsX1_whoKnow rm_X1_whoKnow (va_Pc [.ref (G.2.1 (sb i + 8)), .int a1] (PreW (wC G) S)) (va_Qi (fun r' u => r' = r ∧ u = S) (PostW (wC G)) (AW (wC G))) 0 0 (AW (wC G)) := by
  rw [F_X1_whoKnow] at hF
  refine met_i (cc := cX1_whoKnow) (maxL := 2) (own := RX1) hI.1 (by decide) rfl rfl (Nat.le_of_ble_eq_true rfl) (fun X O hR => ?_)
  show Go X l rm_X1_whoKnow (wC G) 2 0 [(0, .ref (G.2.1 (sb i + 8))), (1, .int a1)] [] S
  refine go_aload_n O dX1_whoKnow_0 rfl 0 rfl ?_
  refine go_get (k := (sb i + 8)) (j := 4) O (lt9 hI (sb_lt hi (by decide : 8 < 13))) (cv_hrs G hi (S.1 (sb i + 8)) (S.2 (sb i + 8))) rfl in_X1_whoKnow_X1 (by decide) fl_X1_whoKnow_23 rfl rfl dX1_whoKnow_1 ?_
  refine go_bipush (v := (8 : Int32)) O dX1_whoKnow_4 (by decide) ?_
  refine go_iload_n O dX1_whoKnow_6 rfl 1 rfl ?_
  refine go_imul O dX1_whoKnow_7 ?_
  refine go_lushr (v := lushr (S.2 (sb i + 8) 4) ((8 : Int32) * a1)) O dX1_whoKnow_8 rfl ?_
  refine go_l2i (v := Int64.toInt32 (lushr (S.2 (sb i + 8) 4) ((8 : Int32) * a1))) O dX1_whoKnow_9 rfl ?_
  refine go_sipush (v := (255 : Int32)) O dX1_whoKnow_10 (by decide) ?_
  refine go_iand O dX1_whoKnow_13 ?_
  exact ret_i hF (hR _ _ dX1_whoKnow_14)
-- X1_learn
def rm_X1_learn : Room := { frames := 0, cells := 0, slots := 0, locals := 0 }
theorem fl_X1_learn_23 : Cond.fieldLink RX1 23 "PaperWalls$Hours" "known" "J" ∈ wsX1_learn := by decide +kernel
theorem in_X1_learn_X1 : ∀ x ∈ u_ws RX1 TX1 6, x ∈ wsX1_learn := by decide +kernel
def F_X1_learn (i : Nat) (S : Sg) (a1 : Int32) (a2 : Int32) : Option Sg := nm (wL S (sb i + 8) 4 ((S.2 (sb i + 8) 4) ||| (lshl (Int32.toInt64 a2) ((8 : Int32) * a1)))) (fun S1 => some S1)
set_option maxHeartbeats 4000000 in
set_option maxRecDepth 100000 in
theorem c_X1_learn (l : Launch) (G : Gp) (hI : Gd G) {i : Nat} (hi : i < 5) {S : Sg} {a1 : Int32} {a2 : Int32} {S1 : Sg} (hF : F_X1_learn i S a1 a2 = some S1) : Met l yX1_learn wsX1_learn rm_X1_learn (va_Pc [.ref (G.2.1 (sb i + 8)), .int a1, .int a2] (PreW (wC G) S)) (va_Qv (fun u => u = S1) (PostW (wC G)) (AW (wC G))) 0 0 (AW (wC G)) := by
  rw [F_X1_learn] at hF
  refine met_v (cc := cX1_learn) (maxL := 3) (own := RX1) hI.1 (by decide) rfl rfl (Nat.le_of_ble_eq_true rfl) (fun X O hR => ?_)
  show Go X l rm_X1_learn (wC G) 3 0 [(0, .ref (G.2.1 (sb i + 8))), (1, .int a1), (2, .int a2)] [] S
  refine go_aload_n O dX1_learn_0 rfl 0 rfl ?_
  refine go_dup O dX1_learn_1 rfl ?_
  refine go_get (k := (sb i + 8)) (j := 4) O (lt9 hI (sb_lt hi (by decide : 8 < 13))) (cv_hrs G hi (S.1 (sb i + 8)) (S.2 (sb i + 8))) rfl in_X1_learn_X1 (by decide) fl_X1_learn_23 rfl rfl dX1_learn_2 ?_
  refine go_iload_n O dX1_learn_5 rfl 2 rfl ?_
  refine go_i2l (v := Int32.toInt64 a2) O dX1_learn_6 rfl ?_
  refine go_bipush (v := (8 : Int32)) O dX1_learn_7 (by decide) ?_
  refine go_iload_n O dX1_learn_9 rfl 1 rfl ?_
  refine go_imul O dX1_learn_10 ?_
  refine go_lshl (v := lshl (Int32.toInt64 a2) ((8 : Int32) * a1)) O dX1_learn_11 rfl ?_
  refine go_lor O dX1_learn_12 ?_
  obtain ⟨S1, eS1, hF⟩ := nm_s hF
  refine go_putL (k := (sb i + 8)) (j := 4) O (lt9 hI (sb_lt hi (by decide : 8 < 13))) (cv_hrs G hi (S.1 (sb i + 8)) (S.2 (sb i + 8))) rfl in_X1_learn_X1 (by decide) fl_X1_learn_23 rfl tyX1 tyX1_ok nmX1 rfl (by decide +kernel) (Nat.le_of_ble_eq_true rfl) (cv_hrs G hi (S.1 (sb i + 8)) (vp_updL (S.2 (sb i + 8)) 4 ((S.2 (sb i + 8) 4) ||| (lshl (Int32.toInt64 a2) ((8 : Int32) * a1))))) dX1_learn_13 eS1 ?_
  exact ret_v hF (hR _ _ dX1_learn_16)
-- X1_add
def rm_X1_add : Room := { frames := 1, cells := 0, slots := 0, locals := 22 }
theorem fl_X1_add_9 : Cond.fieldLink RX1 9 "PaperWalls$Hours" "tellers" "[I" ∈ wsX1_add := by decide +kernel
theorem fl_X1_add_13 : Cond.fieldLink RX1 13 "PaperWalls$Hours" "things" "[I" ∈ wsX1_add := by decide +kernel
theorem fl_X1_add_16 : Cond.fieldLink RX1 16 "PaperWalls$Hours" "heardBy" "[I" ∈ wsX1_add := by decide +kernel
theorem fl_X1_add_19 : Cond.fieldLink RX1 19 "PaperWalls$Hours" "ahead" "[J" ∈ wsX1_add := by decide +kernel
theorem fl_X1_add_23 : Cond.fieldLink RX1 23 "PaperWalls$Hours" "known" "J" ∈ wsX1_add := by decide +kernel
theorem fl_X1_add_27 : Cond.fieldLink RX1 27 "PaperWalls$Hours" "size" "I" ∈ wsX1_add := by decide +kernel
theorem in_X1_add_X1 : ∀ x ∈ u_ws RX1 TX1 6, x ∈ wsX1_add := by decide +kernel
def F_X1_add (i : Nat) (S : Sg) (a1 : Int32) (a2 : Int32) (a3 : Int32) : Option Sg := chk (inB (S.1 (sb i + 8) 5) 40) (nm (wI S (sb i + 9) (S.1 (sb i + 8) 5).toNatClampNeg a1) (fun S2 => chk (inB (S2.1 (sb i + 8) 5) 40) (nm (wI S2 (sb i + 10) (S2.1 (sb i + 8) 5).toNatClampNeg a2) (fun S4 => chk (inB (S4.1 (sb i + 8) 5) 40) (nm (wI S4 (sb i + 11) (S4.1 (sb i + 8) 5).toNatClampNeg a3) (fun S6 => chk (inB (S6.1 (sb i + 8) 5) 40) (nm (wL S6 (sb i + 12) (S6.1 (sb i + 8) 5).toNatClampNeg (S6.2 (sb i + 8) 4)) (fun S8 => nm (wI S8 (sb i + 8) 5 ((S8.1 (sb i + 8) 5) + (1 : Int32))) (fun S9 => bd (F_X1_learn i S9 a2 a3) (fun S11 => some S11))))))))))
set_option maxHeartbeats 4000000 in
set_option maxRecDepth 100000 in
theorem c_X1_add (l : Launch) (G : Gp) (hI : Gd G) {i : Nat} (hi : i < 5) {S : Sg} {a1 : Int32} {a2 : Int32} {a3 : Int32} {S1 : Sg} (hF : F_X1_add i S a1 a2 a3 = some S1) : Met l yX1_add wsX1_add rm_X1_add (va_Pc [.ref (G.2.1 (sb i + 8)), .int a1, .int a2, .int a3] (PreW (wC G) S)) (va_Qv (fun u => u = S1) (PostW (wC G)) (AW (wC G))) 0 0 (AW (wC G)) := by
  rw [F_X1_add] at hF
  refine met_v (cc := cX1_add) (maxL := 4) (own := RX1) hI.1 (by decide) rfl rfl (Nat.le_of_ble_eq_true rfl) (fun X O hR => ?_)
  show Go X l rm_X1_add (wC G) 4 0 [(0, .ref (G.2.1 (sb i + 8))), (1, .int a1), (2, .int a2), (3, .int a3)] [] S
  refine go_aload_n O dX1_add_0 rfl 0 rfl ?_
  refine go_get (k := (sb i + 8)) (j := 0) O (lt9 hI (sb_lt hi (by decide : 8 < 13))) (cv_hrs G hi (S.1 (sb i + 8)) (S.2 (sb i + 8))) rfl in_X1_add_X1 (by decide) fl_X1_add_9 rfl rfl dX1_add_1 ?_
  refine go_aload_n O dX1_add_4 rfl 0 rfl ?_
  refine go_get (k := (sb i + 8)) (j := 5) O (lt9 hI (sb_lt hi (by decide : 8 < 13))) (cv_hrs G hi (S.1 (sb i + 8)) (S.2 (sb i + 8))) rfl in_X1_add_X1 (by decide) fl_X1_add_27 rfl rfl dX1_add_5 ?_
  refine go_iload_n O dX1_add_8 rfl 1 rfl ?_
  obtain ⟨hb1, hF⟩ := chk_s hF
  obtain ⟨S2, eS2, hF⟩ := nm_s hF
  refine go_iast (k := (sb i + 9)) O (lt9 hI (sb_lt hi (by decide : 9 < 13))) (fun f => (cv_hra9 G hi f (S.2 (sb i + 9)))) (inB_in hb1) dX1_add_9 eS2 ?_
  refine go_aload_n O dX1_add_10 rfl 0 rfl ?_
  refine go_get (k := (sb i + 8)) (j := 1) O (lt9 hI (sb_lt hi (by decide : 8 < 13))) (cv_hrs G hi (S2.1 (sb i + 8)) (S2.2 (sb i + 8))) rfl in_X1_add_X1 (by decide) fl_X1_add_13 rfl rfl dX1_add_11 ?_
  refine go_aload_n O dX1_add_14 rfl 0 rfl ?_
  refine go_get (k := (sb i + 8)) (j := 5) O (lt9 hI (sb_lt hi (by decide : 8 < 13))) (cv_hrs G hi (S2.1 (sb i + 8)) (S2.2 (sb i + 8))) rfl in_X1_add_X1 (by decide) fl_X1_add_27 rfl rfl dX1_add_15 ?_
  refine go_iload_n O dX1_add_18 rfl 2 rfl ?_
  obtain ⟨hb3, hF⟩ := chk_s hF
  obtain ⟨S4, eS4, hF⟩ := nm_s hF
  refine go_iast (k := (sb i + 10)) O (lt9 hI (sb_lt hi (by decide : 10 < 13))) (fun f => (cv_hra10 G hi f (S2.2 (sb i + 10)))) (inB_in hb3) dX1_add_19 eS4 ?_
  refine go_aload_n O dX1_add_20 rfl 0 rfl ?_
  refine go_get (k := (sb i + 8)) (j := 2) O (lt9 hI (sb_lt hi (by decide : 8 < 13))) (cv_hrs G hi (S4.1 (sb i + 8)) (S4.2 (sb i + 8))) rfl in_X1_add_X1 (by decide) fl_X1_add_16 rfl rfl dX1_add_21 ?_
  refine go_aload_n O dX1_add_24 rfl 0 rfl ?_
  refine go_get (k := (sb i + 8)) (j := 5) O (lt9 hI (sb_lt hi (by decide : 8 < 13))) (cv_hrs G hi (S4.1 (sb i + 8)) (S4.2 (sb i + 8))) rfl in_X1_add_X1 (by decide) fl_X1_add_27 rfl rfl dX1_add_25 ?_
  refine go_iload_n O dX1_add_28 rfl 3 rfl ?_
  obtain ⟨hb5, hF⟩ := chk_s hF
  obtain ⟨S6, eS6, hF⟩ := nm_s hF
  refine go_iast (k := (sb i + 11)) O (lt9 hI (sb_lt hi (by decide : 11 < 13))) (fun f => (cv_hra11 G hi f (S4.2 (sb i + 11)))) (inB_in hb5) dX1_add_29 eS6 ?_
  refine go_aload_n O dX1_add_30 rfl 0 rfl ?_
  refine go_get (k := (sb i + 8)) (j := 3) O (lt9 hI (sb_lt hi (by decide : 8 < 13))) (cv_hrs G hi (S6.1 (sb i + 8)) (S6.2 (sb i + 8))) rfl in_X1_add_X1 (by decide) fl_X1_add_19 rfl rfl dX1_add_31 ?_
  refine go_aload_n O dX1_add_34 rfl 0 rfl ?_
  refine go_get (k := (sb i + 8)) (j := 5) O (lt9 hI (sb_lt hi (by decide : 8 < 13))) (cv_hrs G hi (S6.1 (sb i + 8)) (S6.2 (sb i + 8))) rfl in_X1_add_X1 (by decide) fl_X1_add_27 rfl rfl dX1_add_35 ?_
  refine go_aload_n O dX1_add_38 rfl 0 rfl ?_
  refine go_get (k := (sb i + 8)) (j := 4) O (lt9 hI (sb_lt hi (by decide : 8 < 13))) (cv_hrs G hi (S6.1 (sb i + 8)) (S6.2 (sb i + 8))) rfl in_X1_add_X1 (by decide) fl_X1_add_23 rfl rfl dX1_add_39 ?_
  obtain ⟨hb7, hF⟩ := chk_s hF
  obtain ⟨S8, eS8, hF⟩ := nm_s hF
  refine go_last (k := (sb i + 12)) O (lt9 hI (sb_lt hi (by decide : 12 < 13))) (fun f => (cv_hra12 G hi (S6.1 (sb i + 12)) f)) (inB_in hb7) dX1_add_42 eS8 ?_
  refine go_aload_n O dX1_add_43 rfl 0 rfl ?_
  refine go_dup O dX1_add_44 rfl ?_
  refine go_get (k := (sb i + 8)) (j := 5) O (lt9 hI (sb_lt hi (by decide : 8 < 13))) (cv_hrs G hi (S8.1 (sb i + 8)) (S8.2 (sb i + 8))) rfl in_X1_add_X1 (by decide) fl_X1_add_27 rfl rfl dX1_add_45 ?_
  refine go_iconst (v := (1 : Int32)) O dX1_add_48 (by decide) ?_
  refine go_iadd O dX1_add_49 ?_
  obtain ⟨S9, eS9, hF⟩ := nm_s hF
  refine go_putI (k := (sb i + 8)) (j := 5) O (lt9 hI (sb_lt hi (by decide : 8 < 13))) (cv_hrs G hi (S8.1 (sb i + 8)) (S8.2 (sb i + 8))) rfl in_X1_add_X1 (by decide) fl_X1_add_27 rfl tyX1 tyX1_ok nmX1 rfl (by decide +kernel) (Nat.le_of_ble_eq_true rfl) (cv_hrs G hi (upd (S8.1 (sb i + 8)) 5 ((S8.1 (sb i + 8) 5) + (1 : Int32))) (S8.2 (sb i + 8))) dX1_add_50 eS9 ?_
  refine go_aload_n O dX1_add_53 rfl 0 rfl ?_
  refine go_iload_n O dX1_add_54 rfl 2 rfl ?_
  refine go_iload_n O dX1_add_55 rfl 3 rfl ?_
  obtain ⟨S11, hA10, hF⟩ := bd_s hF
  refine go_callVv (As := [.int a2, .int a3]) (rest := []) (b := (sb i + 8)) O (c_X1_learn l G hI hi hA10) (fun s args hts => cwV 2 hts gX1_add_X1_learn rfl rfl rfl (by decide +kernel) ⟨Nat.le_of_ble_eq_true rfl, Nat.le_of_ble_eq_true rfl⟩) (lt9 hI (sb_lt hi (by decide : 8 < 13))) (cv_hrs G hi (S9.1 (sb i + 8)) (S9.2 (sb i + 8))) rfl rfl rfl rfl (Nat.le_of_ble_eq_true rfl) dX1_add_56 ?_
  exact ret_v hF (hR _ _ dX1_add_59)
-- X1_backTo
def rm_X1_backTo : Room := { frames := 0, cells := 0, slots := 0, locals := 0 }
theorem fl_X1_backTo_19 : Cond.fieldLink RX1 19 "PaperWalls$Hours" "ahead" "[J" ∈ wsX1_backTo := by decide +kernel
theorem fl_X1_backTo_23 : Cond.fieldLink RX1 23 "PaperWalls$Hours" "known" "J" ∈ wsX1_backTo := by decide +kernel
theorem fl_X1_backTo_27 : Cond.fieldLink RX1 27 "PaperWalls$Hours" "size" "I" ∈ wsX1_backTo := by decide +kernel
theorem in_X1_backTo_X1 : ∀ x ∈ u_ws RX1 TX1 6, x ∈ wsX1_backTo := by decide +kernel
def F_X1_backTo (i : Nat) (S : Sg) (a1 : Int32) : Option Sg := if (S.1 (sb i + 8) 5) ≤ a1 then (some S) else (chk (inB a1 40) (nm (wL S (sb i + 8) 4 (S.2 (sb i + 12) a1.toNatClampNeg)) (fun S2 => nm (wI S2 (sb i + 8) 5 a1) (fun S3 => some S3))))
set_option maxHeartbeats 4000000 in
set_option maxRecDepth 100000 in
theorem c_X1_backTo (l : Launch) (G : Gp) (hI : Gd G) {i : Nat} (hi : i < 5) {S : Sg} {a1 : Int32} {S1 : Sg} (hF : F_X1_backTo i S a1 = some S1) : Met l yX1_backTo wsX1_backTo rm_X1_backTo (va_Pc [.ref (G.2.1 (sb i + 8)), .int a1] (PreW (wC G) S)) (va_Qv (fun u => u = S1) (PostW (wC G)) (AW (wC G))) 0 0 (AW (wC G)) := by
  rw [F_X1_backTo] at hF
  refine met_v (cc := cX1_backTo) (maxL := 2) (own := RX1) hI.1 (by decide) rfl rfl (Nat.le_of_ble_eq_true rfl) (fun X O hR => ?_)
  show Go X l rm_X1_backTo (wC G) 2 0 [(0, .ref (G.2.1 (sb i + 8))), (1, .int a1)] [] S
  refine go_iload_n O dX1_backTo_0 rfl 1 rfl ?_
  refine go_aload_n O dX1_backTo_1 rfl 0 rfl ?_
  refine go_get (k := (sb i + 8)) (j := 5) O (lt9 hI (sb_lt hi (by decide : 8 < 13))) (cv_hrs G hi (S.1 (sb i + 8)) (S.2 (sb i + 8))) rfl in_X1_backTo_X1 (by decide) fl_X1_backTo_27 rfl rfl dX1_backTo_2 ?_
  refine go_icmp_ge (tgt := 23) O dX1_backTo_5 (by decide) (fun hc4 => ?_) (fun hc4 => ?_)
  · replace hF := it_t hc4 hF
    exact ret_v hF (hR _ _ dX1_backTo_23)
  · replace hF := it_f hc4 hF
    refine go_aload_n O dX1_backTo_8 rfl 0 rfl ?_
    refine go_aload_n O dX1_backTo_9 rfl 0 rfl ?_
    refine go_get (k := (sb i + 8)) (j := 3) O (lt9 hI (sb_lt hi (by decide : 8 < 13))) (cv_hrs G hi (S.1 (sb i + 8)) (S.2 (sb i + 8))) rfl in_X1_backTo_X1 (by decide) fl_X1_backTo_19 rfl rfl dX1_backTo_10 ?_
    refine go_iload_n O dX1_backTo_13 rfl 1 rfl ?_
    obtain ⟨hb1, hF⟩ := chk_s hF
    refine go_lald (k := (sb i + 12)) O (lt9 hI (sb_lt hi (by decide : 12 < 13))) (cv_hra12 G hi (S.1 (sb i + 12)) (S.2 (sb i + 12))) (inB_in hb1) dX1_backTo_14 ?_
    obtain ⟨S2, eS2, hF⟩ := nm_s hF
    refine go_putL (k := (sb i + 8)) (j := 4) O (lt9 hI (sb_lt hi (by decide : 8 < 13))) (cv_hrs G hi (S.1 (sb i + 8)) (S.2 (sb i + 8))) rfl in_X1_backTo_X1 (by decide) fl_X1_backTo_23 rfl tyX1 tyX1_ok nmX1 rfl (by decide +kernel) (Nat.le_of_ble_eq_true rfl) (cv_hrs G hi (S.1 (sb i + 8)) (vp_updL (S.2 (sb i + 8)) 4 (S.2 (sb i + 12) a1.toNatClampNeg))) dX1_backTo_15 eS2 ?_
    refine go_aload_n O dX1_backTo_18 rfl 0 rfl ?_
    refine go_iload_n O dX1_backTo_19 rfl 1 rfl ?_
    obtain ⟨S3, eS3, hF⟩ := nm_s hF
    refine go_putI (k := (sb i + 8)) (j := 5) O (lt9 hI (sb_lt hi (by decide : 8 < 13))) (cv_hrs G hi (S2.1 (sb i + 8)) (S2.2 (sb i + 8))) rfl in_X1_backTo_X1 (by decide) fl_X1_backTo_27 rfl tyX1 tyX1_ok nmX1 rfl (by decide +kernel) (Nat.le_of_ble_eq_true rfl) (cv_hrs G hi (upd (S2.1 (sb i + 8)) 5 a1) (S2.2 (sb i + 8))) dX1_backTo_20 eS3 ?_
    exact ret_v hF (hR _ _ dX1_backTo_23)
-- X1_showed
def rm_X1_showed : Room := { frames := 0, cells := 0, slots := 0, locals := 0 }
theorem fl_X1_showed_9 : Cond.fieldLink RX1 9 "PaperWalls$Hours" "tellers" "[I" ∈ wsX1_showed := by decide +kernel
theorem fl_X1_showed_16 : Cond.fieldLink RX1 16 "PaperWalls$Hours" "heardBy" "[I" ∈ wsX1_showed := by decide +kernel
theorem in_X1_showed_X1 : ∀ x ∈ u_ws RX1 TX1 6, x ∈ wsX1_showed := by decide +kernel
def F_X1_showed (i : Nat) (S : Sg) (a1 : Int32) (a2 : Int32) (a3 : Int32) (a4 : Int32) : Option Int32 := chk (inB a1 40) (bd (if (((S.1 (sb i + 11) a1.toNatClampNeg) >>> (a2 &&& 31)) &&& (1 : Int32)) = 0 then (some (0 : Int32)) else (some (1 : Int32))) (fun x2 => chk (inB a1 40) (bd (if (((S.1 (sb i + 11) a1.toNatClampNeg) >>> (a3 &&& 31)) &&& (1 : Int32)) = 0 then (some (0 : Int32)) else (some (1 : Int32))) (fun x7 => if x2 = 0 then (chk (inB a1 40) (if (S.1 (sb i + 9) a1.toNatClampNeg) = a2 then (if x7 = 0 then (chk (inB a1 40) (if (S.1 (sb i + 9) a1.toNatClampNeg) = a3 then (if x2 = 0 then (some (0 : Int32)) else (some (1 : Int32))) else (some (0 : Int32)))) else (some (1 : Int32))) else (chk (inB a1 40) (if (S.1 (sb i + 9) a1.toNatClampNeg) = a3 then (if x2 = 0 then (some (0 : Int32)) else (some (1 : Int32))) else (some (0 : Int32)))))) else (if x7 = 0 then (chk (inB a1 40) (if (S.1 (sb i + 9) a1.toNatClampNeg) = a2 then (if x7 = 0 then (chk (inB a1 40) (if (S.1 (sb i + 9) a1.toNatClampNeg) = a3 then (if x2 = 0 then (some (0 : Int32)) else (some (1 : Int32))) else (some (0 : Int32)))) else (some (1 : Int32))) else (chk (inB a1 40) (if (S.1 (sb i + 9) a1.toNatClampNeg) = a3 then (if x2 = 0 then (some (0 : Int32)) else (some (1 : Int32))) else (some (0 : Int32)))))) else (if a4 = 0 then (chk (inB a1 40) (if (S.1 (sb i + 9) a1.toNatClampNeg) = a2 then (if x7 = 0 then (chk (inB a1 40) (if (S.1 (sb i + 9) a1.toNatClampNeg) = a3 then (if x2 = 0 then (some (0 : Int32)) else (some (1 : Int32))) else (some (0 : Int32)))) else (some (1 : Int32))) else (chk (inB a1 40) (if (S.1 (sb i + 9) a1.toNatClampNeg) = a3 then (if x2 = 0 then (some (0 : Int32)) else (some (1 : Int32))) else (some (0 : Int32)))))) else (some (1 : Int32))))))))
set_option maxHeartbeats 4000000 in
set_option maxRecDepth 100000 in
theorem c_X1_showed (l : Launch) (G : Gp) (hI : Gd G) {i : Nat} (hi : i < 5) {S : Sg} {a1 : Int32} {a2 : Int32} {a3 : Int32} {a4 : Int32} {r : Int32} (hF : F_X1_showed i S a1 a2 a3 a4 = some r) : Met l yX1_showed wsX1_showed rm_X1_showed (va_Pc [.ref (G.2.1 (sb i + 8)), .int a1, .int a2, .int a3, .int a4] (PreW (wC G) S)) (va_Qi (fun r' u => r' = r ∧ u = S) (PostW (wC G)) (AW (wC G))) 0 0 (AW (wC G)) := by
  rw [F_X1_showed] at hF
  refine met_z (cc := cX1_showed) (maxL := 7) (own := RX1) hI.1 (by decide) rfl rfl (Nat.le_of_ble_eq_true rfl) (fun X O hR => ?_)
  show Go X l rm_X1_showed (wC G) 7 0 [(0, .ref (G.2.1 (sb i + 8))), (1, .int a1), (2, .int a2), (3, .int a3), (4, .int a4)] [] S
  refine go_aload_n O dX1_showed_0 rfl 0 rfl ?_
  refine go_get (k := (sb i + 8)) (j := 2) O (lt9 hI (sb_lt hi (by decide : 8 < 13))) (cv_hrs G hi (S.1 (sb i + 8)) (S.2 (sb i + 8))) rfl in_X1_showed_X1 (by decide) fl_X1_showed_16 rfl rfl dX1_showed_1 ?_
  refine go_iload_n O dX1_showed_4 rfl 1 rfl ?_
  obtain ⟨hb1, hF⟩ := chk_s hF
  refine go_iald (k := (sb i + 11)) O (lt9 hI (sb_lt hi (by decide : 11 < 13))) (cv_hra11 G hi (S.1 (sb i + 11)) (S.2 (sb i + 11))) (inB_in hb1) dX1_showed_5 ?_
  refine go_iload_n O dX1_showed_6 rfl 2 rfl ?_
  refine go_ishr O dX1_showed_7 ?_
  refine go_iconst (v := (1 : Int32)) O dX1_showed_8 (by decide) ?_
  refine go_iand O dX1_showed_9 ?_
  obtain ⟨x2, hA4, hF⟩ := bd_s hF
  have J3 : Go X l rm_X1_showed (wC G) 7 18 [(0, .ref (G.2.1 (sb i + 8))), (1, .int a1), (2, .int a2), (3, .int a3), (4, .int a4)] [.int x2] S := by
    refine go_istore (ls' := [(5, .int x2), (0, .ref (G.2.1 (sb i + 8))), (1, .int a1), (2, .int a2), (3, .int a3), (4, .int a4)]) O dX1_showed_18 (by decide) rfl ?_
    refine go_aload_n O dX1_showed_20 rfl 1 rfl ?_
    refine go_get (k := (sb i + 8)) (j := 2) O (lt9 hI (sb_lt hi (by decide : 8 < 13))) (cv_hrs G hi (S.1 (sb i + 8)) (S.2 (sb i + 8))) rfl in_X1_showed_X1 (by decide) fl_X1_showed_16 rfl rfl dX1_showed_21 ?_
    refine go_iload_n O dX1_showed_24 rfl 2 rfl ?_
    obtain ⟨hb6, hF⟩ := chk_s hF
    refine go_iald (k := (sb i + 11)) O (lt9 hI (sb_lt hi (by decide : 11 < 13))) (cv_hra11 G hi (S.1 (sb i + 11)) (S.2 (sb i + 11))) (inB_in hb6) dX1_showed_25 ?_
    refine go_iload_n O dX1_showed_26 rfl 4 rfl ?_
    refine go_ishr O dX1_showed_27 ?_
    refine go_iconst (v := (1 : Int32)) O dX1_showed_28 (by decide) ?_
    refine go_iand O dX1_showed_29 ?_
    obtain ⟨x7, hA9, hF⟩ := bd_s hF
    have J8 : Go X l rm_X1_showed (wC G) 7 38 [(0, .ref (G.2.1 (sb i + 8))), (1, .int a1), (2, .int a2), (3, .int a3), (4, .int a4), (5, .int x2)] [.int x7] S := by
      refine go_istore (ls' := [(6, .int x7), (0, .ref (G.2.1 (sb i + 8))), (1, .int a1), (2, .int a2), (3, .int a3), (4, .int a4), (5, .int x2)]) O dX1_showed_38 (by decide) rfl ?_
      refine go_iload O dX1_showed_40 6 rfl ?_
      refine go_if_eq (tgt := 55) O dX1_showed_42 (by decide) (fun hc40 => ?_) (fun hc40 => ?_)
      · replace hF := it_t hc40 hF
        refine go_aload_n O dX1_showed_55 rfl 1 rfl ?_
        refine go_get (k := (sb i + 8)) (j := 0) O (lt9 hI (sb_lt hi (by decide : 8 < 13))) (cv_hrs G hi (S.1 (sb i + 8)) (S.2 (sb i + 8))) rfl in_X1_showed_X1 (by decide) fl_X1_showed_9 rfl rfl dX1_showed_56 ?_
        refine go_iload_n O dX1_showed_59 rfl 2 rfl ?_
        obtain ⟨hb11, hF⟩ := chk_s hF
        refine go_iald (k := (sb i + 9)) O (lt9 hI (sb_lt hi (by decide : 9 < 13))) (cv_hra9 G hi (S.1 (sb i + 9)) (S.2 (sb i + 9))) (inB_in hb11) dX1_showed_60 ?_
        refine go_iload_n O dX1_showed_61 rfl 3 rfl ?_
        refine go_icmp_ne (tgt := 70) O dX1_showed_62 (by decide) (fun hc19 => ?_) (fun hc19 => ?_)
        · replace hF := it_f hc19 hF
          refine go_aload_n O dX1_showed_70 rfl 1 rfl ?_
          refine go_get (k := (sb i + 8)) (j := 0) O (lt9 hI (sb_lt hi (by decide : 8 < 13))) (cv_hrs G hi (S.1 (sb i + 8)) (S.2 (sb i + 8))) rfl in_X1_showed_X1 (by decide) fl_X1_showed_9 rfl rfl dX1_showed_71 ?_
          refine go_iload_n O dX1_showed_74 rfl 2 rfl ?_
          obtain ⟨hb12, hF⟩ := chk_s hF
          refine go_iald (k := (sb i + 9)) O (lt9 hI (sb_lt hi (by decide : 9 < 13))) (cv_hra9 G hi (S.1 (sb i + 9)) (S.2 (sb i + 9))) (inB_in hb12) dX1_showed_75 ?_
          refine go_iload_n O dX1_showed_76 rfl 4 rfl ?_
          refine go_icmp_ne (tgt := 89) O dX1_showed_77 (by decide) (fun hc14 => ?_) (fun hc14 => ?_)
          · replace hF := it_f hc14 hF
            refine go_iconst (v := (0 : Int32)) O dX1_showed_89 (by decide) ?_
            exact ret_z hF (fun hz => hR _ _ hz dX1_showed_90) (show vp_nar .boolean (0 : Int32) = (0 : Int32) by decide)
          · replace hF := it_t hc14 hF
            refine go_iload O dX1_showed_80 6 rfl ?_
            refine go_if_eq (tgt := 89) O dX1_showed_82 (by decide) (fun hc13 => ?_) (fun hc13 => ?_)
            · replace hF := it_t hc13 hF
              refine go_iconst (v := (0 : Int32)) O dX1_showed_89 (by decide) ?_
              exact ret_z hF (fun hz => hR _ _ hz dX1_showed_90) (show vp_nar .boolean (0 : Int32) = (0 : Int32) by decide)
            · replace hF := it_f hc13 hF
              refine go_iconst (v := (1 : Int32)) O dX1_showed_85 (by decide) ?_
              refine go_goto (tgt := 90) O dX1_showed_86 (by decide) ?_
              exact ret_z hF (fun hz => hR _ _ hz dX1_showed_90) (show vp_nar .boolean (1 : Int32) = (1 : Int32) by decide)
        · replace hF := it_t hc19 hF
          refine go_iload O dX1_showed_65 0 rfl ?_
          refine go_if_ne (tgt := 85) O dX1_showed_67 (by decide) (fun hc18 => ?_) (fun hc18 => ?_)
          · replace hF := it_f hc18 hF
            refine go_iconst (v := (1 : Int32)) O dX1_showed_85 (by decide) ?_
            refine go_goto (tgt := 90) O dX1_showed_86 (by decide) ?_
            exact ret_z hF (fun hz => hR _ _ hz dX1_showed_90) (show vp_nar .boolean (1 : Int32) = (1 : Int32) by decide)
          · replace hF := it_t hc18 hF
            refine go_aload_n O dX1_showed_70 rfl 1 rfl ?_
            refine go_get (k := (sb i + 8)) (j := 0) O (lt9 hI (sb_lt hi (by decide : 8 < 13))) (cv_hrs G hi (S.1 (sb i + 8)) (S.2 (sb i + 8))) rfl in_X1_showed_X1 (by decide) fl_X1_showed_9 rfl rfl dX1_showed_71 ?_
            refine go_iload_n O dX1_showed_74 rfl 2 rfl ?_
            obtain ⟨hb15, hF⟩ := chk_s hF
            refine go_iald (k := (sb i + 9)) O (lt9 hI (sb_lt hi (by decide : 9 < 13))) (cv_hra9 G hi (S.1 (sb i + 9)) (S.2 (sb i + 9))) (inB_in hb15) dX1_showed_75 ?_
            refine go_iload_n O dX1_showed_76 rfl 4 rfl ?_
            refine go_icmp_ne (tgt := 89) O dX1_showed_77 (by decide) (fun hc17 => ?_) (fun hc17 => ?_)
            · replace hF := it_f hc17 hF
              refine go_iconst (v := (0 : Int32)) O dX1_showed_89 (by decide) ?_
              exact ret_z hF (fun hz => hR _ _ hz dX1_showed_90) (show vp_nar .boolean (0 : Int32) = (0 : Int32) by decide)
            · replace hF := it_t hc17 hF
              refine go_iload O dX1_showed_80 6 rfl ?_
              refine go_if_eq (tgt := 89) O dX1_showed_82 (by decide) (fun hc16 => ?_) (fun hc16 => ?_)
              · replace hF := it_t hc16 hF
                refine go_iconst (v := (0 : Int32)) O dX1_showed_89 (by decide) ?_
                exact ret_z hF (fun hz => hR _ _ hz dX1_showed_90) (show vp_nar .boolean (0 : Int32) = (0 : Int32) by decide)
              · replace hF := it_f hc16 hF
                refine go_iconst (v := (1 : Int32)) O dX1_showed_85 (by decide) ?_
                refine go_goto (tgt := 90) O dX1_showed_86 (by decide) ?_
                exact ret_z hF (fun hz => hR _ _ hz dX1_showed_90) (show vp_nar .boolean (1 : Int32) = (1 : Int32) by decide)
      · replace hF := it_f hc40 hF
        refine go_iload O dX1_showed_45 0 rfl ?_
        refine go_if_eq (tgt := 55) O dX1_showed_47 (by decide) (fun hc39 => ?_) (fun hc39 => ?_)
        · replace hF := it_t hc39 hF
          refine go_aload_n O dX1_showed_55 rfl 1 rfl ?_
          refine go_get (k := (sb i + 8)) (j := 0) O (lt9 hI (sb_lt hi (by decide : 8 < 13))) (cv_hrs G hi (S.1 (sb i + 8)) (S.2 (sb i + 8))) rfl in_X1_showed_X1 (by decide) fl_X1_showed_9 rfl rfl dX1_showed_56 ?_
          refine go_iload_n O dX1_showed_59 rfl 2 rfl ?_
          obtain ⟨hb20, hF⟩ := chk_s hF
          refine go_iald (k := (sb i + 9)) O (lt9 hI (sb_lt hi (by decide : 9 < 13))) (cv_hra9 G hi (S.1 (sb i + 9)) (S.2 (sb i + 9))) (inB_in hb20) dX1_showed_60 ?_
          refine go_iload_n O dX1_showed_61 rfl 3 rfl ?_
          refine go_icmp_ne (tgt := 70) O dX1_showed_62 (by decide) (fun hc28 => ?_) (fun hc28 => ?_)
          · replace hF := it_f hc28 hF
            refine go_aload_n O dX1_showed_70 rfl 1 rfl ?_
            refine go_get (k := (sb i + 8)) (j := 0) O (lt9 hI (sb_lt hi (by decide : 8 < 13))) (cv_hrs G hi (S.1 (sb i + 8)) (S.2 (sb i + 8))) rfl in_X1_showed_X1 (by decide) fl_X1_showed_9 rfl rfl dX1_showed_71 ?_
            refine go_iload_n O dX1_showed_74 rfl 2 rfl ?_
            obtain ⟨hb21, hF⟩ := chk_s hF
            refine go_iald (k := (sb i + 9)) O (lt9 hI (sb_lt hi (by decide : 9 < 13))) (cv_hra9 G hi (S.1 (sb i + 9)) (S.2 (sb i + 9))) (inB_in hb21) dX1_showed_75 ?_
            refine go_iload_n O dX1_showed_76 rfl 4 rfl ?_
            refine go_icmp_ne (tgt := 89) O dX1_showed_77 (by decide) (fun hc23 => ?_) (fun hc23 => ?_)
            · replace hF := it_f hc23 hF
              refine go_iconst (v := (0 : Int32)) O dX1_showed_89 (by decide) ?_
              exact ret_z hF (fun hz => hR _ _ hz dX1_showed_90) (show vp_nar .boolean (0 : Int32) = (0 : Int32) by decide)
            · replace hF := it_t hc23 hF
              refine go_iload O dX1_showed_80 6 rfl ?_
              refine go_if_eq (tgt := 89) O dX1_showed_82 (by decide) (fun hc22 => ?_) (fun hc22 => ?_)
              · replace hF := it_t hc22 hF
                refine go_iconst (v := (0 : Int32)) O dX1_showed_89 (by decide) ?_
                exact ret_z hF (fun hz => hR _ _ hz dX1_showed_90) (show vp_nar .boolean (0 : Int32) = (0 : Int32) by decide)
              · replace hF := it_f hc22 hF
                refine go_iconst (v := (1 : Int32)) O dX1_showed_85 (by decide) ?_
                refine go_goto (tgt := 90) O dX1_showed_86 (by decide) ?_
                exact ret_z hF (fun hz => hR _ _ hz dX1_showed_90) (show vp_nar .boolean (1 : Int32) = (1 : Int32) by decide)
          · replace hF := it_t hc28 hF
            refine go_iload O dX1_showed_65 0 rfl ?_
            refine go_if_ne (tgt := 85) O dX1_showed_67 (by decide) (fun hc27 => ?_) (fun hc27 => ?_)
            · replace hF := it_f hc27 hF
              refine go_iconst (v := (1 : Int32)) O dX1_showed_85 (by decide) ?_
              refine go_goto (tgt := 90) O dX1_showed_86 (by decide) ?_
              exact ret_z hF (fun hz => hR _ _ hz dX1_showed_90) (show vp_nar .boolean (1 : Int32) = (1 : Int32) by decide)
            · replace hF := it_t hc27 hF
              refine go_aload_n O dX1_showed_70 rfl 1 rfl ?_
              refine go_get (k := (sb i + 8)) (j := 0) O (lt9 hI (sb_lt hi (by decide : 8 < 13))) (cv_hrs G hi (S.1 (sb i + 8)) (S.2 (sb i + 8))) rfl in_X1_showed_X1 (by decide) fl_X1_showed_9 rfl rfl dX1_showed_71 ?_
              refine go_iload_n O dX1_showed_74 rfl 2 rfl ?_
              obtain ⟨hb24, hF⟩ := chk_s hF
              refine go_iald (k := (sb i + 9)) O (lt9 hI (sb_lt hi (by decide : 9 < 13))) (cv_hra9 G hi (S.1 (sb i + 9)) (S.2 (sb i + 9))) (inB_in hb24) dX1_showed_75 ?_
              refine go_iload_n O dX1_showed_76 rfl 4 rfl ?_
              refine go_icmp_ne (tgt := 89) O dX1_showed_77 (by decide) (fun hc26 => ?_) (fun hc26 => ?_)
              · replace hF := it_f hc26 hF
                refine go_iconst (v := (0 : Int32)) O dX1_showed_89 (by decide) ?_
                exact ret_z hF (fun hz => hR _ _ hz dX1_showed_90) (show vp_nar .boolean (0 : Int32) = (0 : Int32) by decide)
              · replace hF := it_t hc26 hF
                refine go_iload O dX1_showed_80 6 rfl ?_
                refine go_if_eq (tgt := 89) O dX1_showed_82 (by decide) (fun hc25 => ?_) (fun hc25 => ?_)
                · replace hF := it_t hc25 hF
                  refine go_iconst (v := (0 : Int32)) O dX1_showed_89 (by decide) ?_
                  exact ret_z hF (fun hz => hR _ _ hz dX1_showed_90) (show vp_nar .boolean (0 : Int32) = (0 : Int32) by decide)
                · replace hF := it_f hc25 hF
                  refine go_iconst (v := (1 : Int32)) O dX1_showed_85 (by decide) ?_
                  refine go_goto (tgt := 90) O dX1_showed_86 (by decide) ?_
                  exact ret_z hF (fun hz => hR _ _ hz dX1_showed_90) (show vp_nar .boolean (1 : Int32) = (1 : Int32) by decide)
        · replace hF := it_f hc39 hF
          refine go_iload O dX1_showed_50 5 rfl ?_
          refine go_if_ne (tgt := 85) O dX1_showed_52 (by decide) (fun hc38 => ?_) (fun hc38 => ?_)
          · replace hF := it_f hc38 hF
            refine go_iconst (v := (1 : Int32)) O dX1_showed_85 (by decide) ?_
            refine go_goto (tgt := 90) O dX1_showed_86 (by decide) ?_
            exact ret_z hF (fun hz => hR _ _ hz dX1_showed_90) (show vp_nar .boolean (1 : Int32) = (1 : Int32) by decide)
          · replace hF := it_t hc38 hF
            refine go_aload_n O dX1_showed_55 rfl 1 rfl ?_
            refine go_get (k := (sb i + 8)) (j := 0) O (lt9 hI (sb_lt hi (by decide : 8 < 13))) (cv_hrs G hi (S.1 (sb i + 8)) (S.2 (sb i + 8))) rfl in_X1_showed_X1 (by decide) fl_X1_showed_9 rfl rfl dX1_showed_56 ?_
            refine go_iload_n O dX1_showed_59 rfl 2 rfl ?_
            obtain ⟨hb29, hF⟩ := chk_s hF
            refine go_iald (k := (sb i + 9)) O (lt9 hI (sb_lt hi (by decide : 9 < 13))) (cv_hra9 G hi (S.1 (sb i + 9)) (S.2 (sb i + 9))) (inB_in hb29) dX1_showed_60 ?_
            refine go_iload_n O dX1_showed_61 rfl 3 rfl ?_
            refine go_icmp_ne (tgt := 70) O dX1_showed_62 (by decide) (fun hc37 => ?_) (fun hc37 => ?_)
            · replace hF := it_f hc37 hF
              refine go_aload_n O dX1_showed_70 rfl 1 rfl ?_
              refine go_get (k := (sb i + 8)) (j := 0) O (lt9 hI (sb_lt hi (by decide : 8 < 13))) (cv_hrs G hi (S.1 (sb i + 8)) (S.2 (sb i + 8))) rfl in_X1_showed_X1 (by decide) fl_X1_showed_9 rfl rfl dX1_showed_71 ?_
              refine go_iload_n O dX1_showed_74 rfl 2 rfl ?_
              obtain ⟨hb30, hF⟩ := chk_s hF
              refine go_iald (k := (sb i + 9)) O (lt9 hI (sb_lt hi (by decide : 9 < 13))) (cv_hra9 G hi (S.1 (sb i + 9)) (S.2 (sb i + 9))) (inB_in hb30) dX1_showed_75 ?_
              refine go_iload_n O dX1_showed_76 rfl 4 rfl ?_
              refine go_icmp_ne (tgt := 89) O dX1_showed_77 (by decide) (fun hc32 => ?_) (fun hc32 => ?_)
              · replace hF := it_f hc32 hF
                refine go_iconst (v := (0 : Int32)) O dX1_showed_89 (by decide) ?_
                exact ret_z hF (fun hz => hR _ _ hz dX1_showed_90) (show vp_nar .boolean (0 : Int32) = (0 : Int32) by decide)
              · replace hF := it_t hc32 hF
                refine go_iload O dX1_showed_80 6 rfl ?_
                refine go_if_eq (tgt := 89) O dX1_showed_82 (by decide) (fun hc31 => ?_) (fun hc31 => ?_)
                · replace hF := it_t hc31 hF
                  refine go_iconst (v := (0 : Int32)) O dX1_showed_89 (by decide) ?_
                  exact ret_z hF (fun hz => hR _ _ hz dX1_showed_90) (show vp_nar .boolean (0 : Int32) = (0 : Int32) by decide)
                · replace hF := it_f hc31 hF
                  refine go_iconst (v := (1 : Int32)) O dX1_showed_85 (by decide) ?_
                  refine go_goto (tgt := 90) O dX1_showed_86 (by decide) ?_
                  exact ret_z hF (fun hz => hR _ _ hz dX1_showed_90) (show vp_nar .boolean (1 : Int32) = (1 : Int32) by decide)
            · replace hF := it_t hc37 hF
              refine go_iload O dX1_showed_65 0 rfl ?_
              refine go_if_ne (tgt := 85) O dX1_showed_67 (by decide) (fun hc36 => ?_) (fun hc36 => ?_)
              · replace hF := it_f hc36 hF
                refine go_iconst (v := (1 : Int32)) O dX1_showed_85 (by decide) ?_
                refine go_goto (tgt := 90) O dX1_showed_86 (by decide) ?_
                exact ret_z hF (fun hz => hR _ _ hz dX1_showed_90) (show vp_nar .boolean (1 : Int32) = (1 : Int32) by decide)
              · replace hF := it_t hc36 hF
                refine go_aload_n O dX1_showed_70 rfl 1 rfl ?_
                refine go_get (k := (sb i + 8)) (j := 0) O (lt9 hI (sb_lt hi (by decide : 8 < 13))) (cv_hrs G hi (S.1 (sb i + 8)) (S.2 (sb i + 8))) rfl in_X1_showed_X1 (by decide) fl_X1_showed_9 rfl rfl dX1_showed_71 ?_
                refine go_iload_n O dX1_showed_74 rfl 2 rfl ?_
                obtain ⟨hb33, hF⟩ := chk_s hF
                refine go_iald (k := (sb i + 9)) O (lt9 hI (sb_lt hi (by decide : 9 < 13))) (cv_hra9 G hi (S.1 (sb i + 9)) (S.2 (sb i + 9))) (inB_in hb33) dX1_showed_75 ?_
                refine go_iload_n O dX1_showed_76 rfl 4 rfl ?_
                refine go_icmp_ne (tgt := 89) O dX1_showed_77 (by decide) (fun hc35 => ?_) (fun hc35 => ?_)
                · replace hF := it_f hc35 hF
                  refine go_iconst (v := (0 : Int32)) O dX1_showed_89 (by decide) ?_
                  exact ret_z hF (fun hz => hR _ _ hz dX1_showed_90) (show vp_nar .boolean (0 : Int32) = (0 : Int32) by decide)
                · replace hF := it_t hc35 hF
                  refine go_iload O dX1_showed_80 6 rfl ?_
                  refine go_if_eq (tgt := 89) O dX1_showed_82 (by decide) (fun hc34 => ?_) (fun hc34 => ?_)
                  · replace hF := it_t hc34 hF
                    refine go_iconst (v := (0 : Int32)) O dX1_showed_89 (by decide) ?_
                    exact ret_z hF (fun hz => hR _ _ hz dX1_showed_90) (show vp_nar .boolean (0 : Int32) = (0 : Int32) by decide)
                  · replace hF := it_f hc34 hF
                    refine go_iconst (v := (1 : Int32)) O dX1_showed_85 (by decide) ?_
                    refine go_goto (tgt := 90) O dX1_showed_86 (by decide) ?_
                    exact ret_z hF (fun hz => hR _ _ hz dX1_showed_90) (show vp_nar .boolean (1 : Int32) = (1 : Int32) by decide)
    replace hF := hA9
    refine go_if_eq (tgt := 37) O dX1_showed_30 (by decide) (fun hc10 => ?_) (fun hc10 => ?_)
    · replace hF := it_t hc10 hF
      refine go_iconst (v := (0 : Int32)) O dX1_showed_37 (by decide) ?_
      refine go_perm (ls' := [(0, .ref (G.2.1 (sb i + 8))), (1, .int a1), (2, .int a2), (3, .int a3), (4, .int a4), (5, .int x2)]) [1, 2, 3, 4, 5, 0] rfl ?_
      exact jn (P := fun q => Go X l rm_X1_showed (wC G) 7 38 [(0, .ref (G.2.1 (sb i + 8))), (1, .int a1), (2, .int a2), (3, .int a3), (4, .int a4), (5, .int x2)] [.int q] S) hF J8
    · replace hF := it_f hc10 hF
      refine go_iconst (v := (1 : Int32)) O dX1_showed_33 (by decide) ?_
      refine go_goto (tgt := 38) O dX1_showed_34 (by decide) ?_
      refine go_perm (ls' := [(0, .ref (G.2.1 (sb i + 8))), (1, .int a1), (2, .int a2), (3, .int a3), (4, .int a4), (5, .int x2)]) [1, 2, 3, 4, 5, 0] rfl ?_
      exact jn (P := fun q => Go X l rm_X1_showed (wC G) 7 38 [(0, .ref (G.2.1 (sb i + 8))), (1, .int a1), (2, .int a2), (3, .int a3), (4, .int a4), (5, .int x2)] [.int q] S) hF J8
  replace hF := hA4
  refine go_if_eq (tgt := 17) O dX1_showed_10 (by decide) (fun hc5 => ?_) (fun hc5 => ?_)
  · replace hF := it_t hc5 hF
    refine go_iconst (v := (0 : Int32)) O dX1_showed_17 (by decide) ?_
    exact jn (P := fun q => Go X l rm_X1_showed (wC G) 7 18 [(0, .ref (G.2.1 (sb i + 8))), (1, .int a1), (2, .int a2), (3, .int a3), (4, .int a4)] [.int q] S) hF J3
  · replace hF := it_f hc5 hF
    refine go_iconst (v := (1 : Int32)) O dX1_showed_13 (by decide) ?_
    refine go_goto (tgt := 18) O dX1_showed_14 (by decide) ?_
    exact jn (P := fun q => Go X l rm_X1_showed (wC G) 7 18 [(0, .ref (G.2.1 (sb i + 8))), (1, .int a1), (2, .int a2), (3, .int a3), (4, .int a4)] [.int q] S) hF J3
-- X2_isOf
def rm_X2_isOf : Room := { frames := 0, cells := 0, slots := 0, locals := 0 }
theorem fl_X2_isOf_9 : Cond.fieldLink RX2 9 "PaperWalls$Kinds" "WIDER" "[I" ∈ wsX2_isOf := by decide +kernel
def F_X2_isOf  (S : Sg) (a0 : Int32) (a1 : Int32) : Option Int32 := if a0 = a1 then (some (1 : Int32)) else (chk (inB a0 6) (if (skv 1 a0.toNatClampNeg) = a1 then (some (1 : Int32)) else (some (0 : Int32))))
set_option maxHeartbeats 4000000 in
set_option maxRecDepth 100000 in
theorem c_X2_isOf (l : Launch) (G : Gp) (hI : Gd G)  {S : Sg} {a0 : Int32} {a1 : Int32} {r : Int32} (hF : F_X2_isOf S a0 a1 = some r) : Met l yX2_isOf wsX2_isOf rm_X2_isOf (va_Pc [.int a0, .int a1] (PreW (wC G) S)) (va_Qi (fun r' u => r' = r ∧ u = S) (PostW (wC G)) (AW (wC G))) 0 0 (AW (wC G)) := by
  rw [F_X2_isOf] at hF
  refine met_z (cc := cX2_isOf) (maxL := 2) (own := RX2) hI.1 (by decide) rfl rfl (Nat.le_of_ble_eq_true rfl) (fun X O hR => ?_)
  show Go X l rm_X2_isOf (wC G) 2 0 [(0, .int a0), (1, .int a1)] [] S
  refine go_iload_n O dX2_isOf_0 rfl 0 rfl ?_
  refine go_iload_n O dX2_isOf_1 rfl 1 rfl ?_
  refine go_icmp_eq (tgt := 14) O dX2_isOf_2 (by decide) (fun hc3 => ?_) (fun hc3 => ?_)
  · replace hF := it_t hc3 hF
    refine go_iconst (v := (1 : Int32)) O dX2_isOf_14 (by decide) ?_
    refine go_goto (tgt := 19) O dX2_isOf_15 (by decide) ?_
    exact ret_z hF (fun hz => hR _ _ hz dX2_isOf_19) (show vp_nar .boolean (1 : Int32) = (1 : Int32) by decide)
  · replace hF := it_f hc3 hF
    refine go_gets (v := 1) O (by decide) fl_X2_isOf_9 dX2_isOf_5 ?_
    refine go_iload_n O dX2_isOf_8 rfl 0 rfl ?_
    obtain ⟨hb1, hF⟩ := chk_s hF
    refine go_sald (v := 1) O (by decide : (1 : Nat) < 5) (inB_in hb1) dX2_isOf_9 ?_
    refine go_iload_n O dX2_isOf_10 rfl 1 rfl ?_
    refine go_icmp_ne (tgt := 18) O dX2_isOf_11 (by decide) (fun hc2 => ?_) (fun hc2 => ?_)
    · replace hF := it_f hc2 hF
      refine go_iconst (v := (0 : Int32)) O dX2_isOf_18 (by decide) ?_
      exact ret_z hF (fun hz => hR _ _ hz dX2_isOf_19) (show vp_nar .boolean (0 : Int32) = (0 : Int32) by decide)
    · replace hF := it_t hc2 hF
      refine go_iconst (v := (1 : Int32)) O dX2_isOf_14 (by decide) ?_
      refine go_goto (tgt := 19) O dX2_isOf_15 (by decide) ?_
      exact ret_z hF (fun hz => hR _ _ hz dX2_isOf_19) (show vp_nar .boolean (1 : Int32) = (1 : Int32) by decide)
-- X2_isEnough
def rm_X2_isEnough : Room := { frames := 0, cells := 0, slots := 0, locals := 0 }
theorem fl_X2_isEnough_15 : Cond.fieldLink RX2 15 "PaperWalls$Kinds" "LEAST" "[I" ∈ wsX2_isEnough := by decide +kernel
def F_X2_isEnough  (S : Sg) (a0 : Int32) (a1 : Int32) (a2 : Int32) : Option Int32 := bd (if a2 < a1 then (some (1 : Int32)) else (if a0 = (5 : Int32) then (if a1 = a2 then (some (1 : Int32)) else (some (0 : Int32))) else (some (0 : Int32)))) (fun x1 => if x1 = 0 then (some (0 : Int32)) else (chk (inB a0 6) (if a1 < (skv 4 a0.toNatClampNeg) then (some (0 : Int32)) else (some (1 : Int32)))))
set_option maxHeartbeats 4000000 in
set_option maxRecDepth 100000 in
theorem c_X2_isEnough (l : Launch) (G : Gp) (hI : Gd G)  {S : Sg} {a0 : Int32} {a1 : Int32} {a2 : Int32} {r : Int32} (hF : F_X2_isEnough S a0 a1 a2 = some r) : Met l yX2_isEnough wsX2_isEnough rm_X2_isEnough (va_Pc [.int a0, .int a1, .int a2] (PreW (wC G) S)) (va_Qi (fun r' u => r' = r ∧ u = S) (PostW (wC G)) (AW (wC G))) 0 0 (AW (wC G)) := by
  rw [F_X2_isEnough] at hF
  refine met_z (cc := cX2_isEnough) (maxL := 4) (own := RX2) hI.1 (by decide) rfl rfl (Nat.le_of_ble_eq_true rfl) (fun X O hR => ?_)
  show Go X l rm_X2_isEnough (wC G) 4 0 [(0, .int a0), (1, .int a1), (2, .int a2)] [] S
  refine go_iload_n O dX2_isEnough_0 rfl 1 rfl ?_
  refine go_iload_n O dX2_isEnough_1 rfl 2 rfl ?_
  obtain ⟨x1, hA3, hF⟩ := bd_s hF
  have J2 : Go X l rm_X2_isEnough (wC G) 4 20 [(0, .int a0), (1, .int a1)] [.int x1] S := by
    refine go_istore_n (ls' := [(3, .int x1), (0, .int a0), (1, .int a1)]) O dX2_isEnough_20 rfl (by decide) rfl ?_
    refine go_iload_n O dX2_isEnough_21 rfl 0 rfl ?_
    refine go_if_eq (tgt := 38) O dX2_isEnough_22 (by decide) (fun hc9 => ?_) (fun hc9 => ?_)
    · replace hF := it_t hc9 hF
      refine go_iconst (v := (0 : Int32)) O dX2_isEnough_38 (by decide) ?_
      exact ret_z hF (fun hz => hR _ _ hz dX2_isEnough_39) (show vp_nar .boolean (0 : Int32) = (0 : Int32) by decide)
    · replace hF := it_f hc9 hF
      refine go_iload_n O dX2_isEnough_25 rfl 2 rfl ?_
      refine go_gets (v := 4) O (by decide) fl_X2_isEnough_15 dX2_isEnough_26 ?_
      refine go_iload_n O dX2_isEnough_29 rfl 1 rfl ?_
      obtain ⟨hb7, hF⟩ := chk_s hF
      refine go_sald (v := 4) O (by decide : (4 : Nat) < 5) (inB_in hb7) dX2_isEnough_30 ?_
      refine go_icmp_lt (tgt := 38) O dX2_isEnough_31 (by decide) (fun hc8 => ?_) (fun hc8 => ?_)
      · replace hF := it_t hc8 hF
        refine go_iconst (v := (0 : Int32)) O dX2_isEnough_38 (by decide) ?_
        exact ret_z hF (fun hz => hR _ _ hz dX2_isEnough_39) (show vp_nar .boolean (0 : Int32) = (0 : Int32) by decide)
      · replace hF := it_f hc8 hF
        refine go_iconst (v := (1 : Int32)) O dX2_isEnough_34 (by decide) ?_
        refine go_goto (tgt := 39) O dX2_isEnough_35 (by decide) ?_
        exact ret_z hF (fun hz => hR _ _ hz dX2_isEnough_39) (show vp_nar .boolean (1 : Int32) = (1 : Int32) by decide)
  replace hF := hA3
  refine go_icmp_gt (tgt := 15) O dX2_isEnough_2 (by decide) (fun hc6 => ?_) (fun hc6 => ?_)
  · replace hF := it_t hc6 hF
    refine go_iconst (v := (1 : Int32)) O dX2_isEnough_15 (by decide) ?_
    refine go_goto (tgt := 20) O dX2_isEnough_16 (by decide) ?_
    refine go_perm (ls' := [(0, .int a0), (1, .int a1)]) [0, 1] rfl ?_
    exact jn (P := fun q => Go X l rm_X2_isEnough (wC G) 4 20 [(0, .int a0), (1, .int a1)] [.int q] S) hF J2
  · replace hF := it_f hc6 hF
    refine go_iload_n O dX2_isEnough_5 rfl 0 rfl ?_
    refine go_iconst (v := (5 : Int32)) O dX2_isEnough_6 (by decide) ?_
    refine go_icmp_ne (tgt := 19) O dX2_isEnough_7 (by decide) (fun hc5 => ?_) (fun hc5 => ?_)
    · replace hF := it_f hc5 hF
      refine go_iconst (v := (0 : Int32)) O dX2_isEnough_19 (by decide) ?_
      refine go_perm (ls' := [(0, .int a0), (1, .int a1)]) [0, 1] rfl ?_
      exact jn (P := fun q => Go X l rm_X2_isEnough (wC G) 4 20 [(0, .int a0), (1, .int a1)] [.int q] S) hF J2
    · replace hF := it_t hc5 hF
      refine go_iload_n O dX2_isEnough_10 rfl 1 rfl ?_
      refine go_iload_n O dX2_isEnough_11 rfl 2 rfl ?_
      refine go_icmp_ne (tgt := 19) O dX2_isEnough_12 (by decide) (fun hc4 => ?_) (fun hc4 => ?_)
      · replace hF := it_f hc4 hF
        refine go_iconst (v := (0 : Int32)) O dX2_isEnough_19 (by decide) ?_
        refine go_perm (ls' := [(0, .int a0), (1, .int a1)]) [0, 1] rfl ?_
        exact jn (P := fun q => Go X l rm_X2_isEnough (wC G) 4 20 [(0, .int a0), (1, .int a1)] [.int q] S) hF J2
      · replace hF := it_t hc4 hF
        refine go_iconst (v := (1 : Int32)) O dX2_isEnough_15 (by decide) ?_
        refine go_goto (tgt := 20) O dX2_isEnough_16 (by decide) ?_
        refine go_perm (ls' := [(0, .int a0), (1, .int a1)]) [0, 1] rfl ?_
        exact jn (P := fun q => Go X l rm_X2_isEnough (wC G) 4 20 [(0, .int a0), (1, .int a1)] [.int q] S) hF J2
-- X2_byLetter
def rm_X2_byLetter : Room := { frames := 0, cells := 0, slots := 0, locals := 0 }
theorem fl_X2_byLetter_18 : Cond.fieldLink RX2 18 "PaperWalls$Kinds" "LETTERS" "[I" ∈ wsX2_byLetter := by decide +kernel
def T_X2_byLetter_2  (S : Sg) (p0 : Int32) : Nat → Int32 → Option ((Unit) ⊕ (Int32))
  | 0, _ => none
  | n + 1, p1 => if (6 : Int32) ≤ p1 then (some (.inl ())) else (chk (inB p1 6) (if (skv 0 p1.toNatClampNeg) = p0 then (some (.inr p1)) else (T_X2_byLetter_2 S p0 n (p1 + (1 : Int32)))))
set_option maxHeartbeats 4000000 in
set_option maxRecDepth 100000 in
theorem lt_X2_byLetter_2 {X : XT} (l : Launch) (G : Gp) (hI : Gd G)  {S : Sg} {p0 : Int32} (O : Ok X (wC G) cX2_byLetter RX2 wsX2_byLetter 2) : ∀ (n : Nat) (p1 : Int32)  (q : ((Unit) ⊕ (Int32))), T_X2_byLetter_2 S p0 n p1  = some q → (q = .inl () → Go X l rm_X2_byLetter (wC G) 2 25 [] [] S) → (∀ (r : Int32), q = .inr r → ∀ pc ls, decode cX2_byLetter pc = .ok (.ireturn, 1) → Go X l rm_X2_byLetter (wC G) 2 pc ls [.int r] S) → Go X l rm_X2_byLetter (wC G) 2 2 [(0, .int p0), (1, .int p1)] [] S := by
  intro n
  induction n with
  | zero =>
    intro p1  q hF
    cases hF
  | succ n ih =>
    intro p1  q hF hE hR
    rw [T_X2_byLetter_2] at hF
    refine go_iload_n O dX2_byLetter_2 rfl 1 rfl ?_
    refine go_bipush (v := (6 : Int32)) O dX2_byLetter_3 (by decide) ?_
    refine go_icmp_ge (tgt := 25) O dX2_byLetter_5 (by decide) (fun hc3 => ?_) (fun hc3 => ?_)
    · replace hF := it_t hc3 hF
      refine go_perm (ls' := []) [] rfl ?_
      exact ret_q hF (fun hq => hE  hq)
    · replace hF := it_f hc3 hF
      refine go_gets (v := 0) O (by decide) fl_X2_byLetter_18 dX2_byLetter_8 ?_
      refine go_iload_n O dX2_byLetter_11 rfl 1 rfl ?_
      obtain ⟨hb1, hF⟩ := chk_s hF
      refine go_sald (v := 0) O (by decide : (0 : Nat) < 5) (inB_in hb1) dX2_byLetter_12 ?_
      refine go_iload_n O dX2_byLetter_13 rfl 0 rfl ?_
      refine go_icmp_ne (tgt := 19) O dX2_byLetter_14 (by decide) (fun hc2 => ?_) (fun hc2 => ?_)
      · replace hF := it_f hc2 hF
        refine go_iinc (d := (1 : Int32)) (ls' := [(1, .int (p1 + (1 : Int32))), (0, .int p0)]) O dX2_byLetter_19 1 rfl (by decide) (by decide) rfl ?_
        refine go_goto (tgt := 2) O dX2_byLetter_22 (by decide) ?_
        refine go_perm (ls' := [(0, .int p0), (1, .int (p1 + (1 : Int32)))]) [1, 0] rfl ?_
        exact ih _ _ hF hE hR
      · replace hF := it_t hc2 hF
        refine go_iload_n O dX2_byLetter_17 rfl 1 rfl ?_
        exact ret_q hF (fun hq => hR _ hq _ _ dX2_byLetter_18)
def F_X2_byLetter  (S : Sg) (a0 : Int32) : Option Int32 := bd (T_X2_byLetter_2 S a0 FU (0 : Int32)) (fun q => match q with | .inl () => some (-9 : Int32) | .inr r => some r)
set_option maxHeartbeats 4000000 in
set_option maxRecDepth 100000 in
theorem c_X2_byLetter (l : Launch) (G : Gp) (hI : Gd G)  {S : Sg} {a0 : Int32} {r : Int32} (hF : F_X2_byLetter S a0 = some r) : Met l yX2_byLetter wsX2_byLetter rm_X2_byLetter (va_Pc [.int a0] (PreW (wC G) S)) (va_Qi (fun r' u => r' = r ∧ u = S) (PostW (wC G)) (AW (wC G))) 0 0 (AW (wC G)) := by
  rw [F_X2_byLetter] at hF
  refine met_i (cc := cX2_byLetter) (maxL := 2) (own := RX2) hI.1 (by decide) rfl rfl (Nat.le_of_ble_eq_true rfl) (fun X O hR => ?_)
  show Go X l rm_X2_byLetter (wC G) 2 0 [(0, .int a0)] [] S
  refine go_iconst (v := (0 : Int32)) O dX2_byLetter_0 (by decide) ?_
  refine go_istore_n (ls' := [(1, .int (0 : Int32)), (0, .int a0)]) O dX2_byLetter_1 rfl (by decide) rfl ?_
  refine go_perm (ls' := [(0, .int a0), (1, .int (0 : Int32))]) [1, 0] rfl ?_
  obtain ⟨q5, hA4, hF⟩ := bd_s hF
  refine lt_X2_byLetter_2 l G hI  O _ _ _ hA4 (fun hq => ?_) ?_
  · subst hq
    refine go_bipush (v := (-9 : Int32)) O dX2_byLetter_25 (by decide) ?_
    exact ret_i hF (hR _ _ dX2_byLetter_27)
  · intro r hq pc ls hd
    subst hq
    exact ret_i hF (hR _ _ hd)
-- J6_bitCount_0f7a4
def rm_J6_bitCount_0f7a4 : Room := { frames := 0, cells := 0, slots := 0, locals := 0 }
theorem wd_J6_bitCount_0f7a4_c265 : Cond.constant RJ6 265 (1431655765) ∈ wsJ6_bitCount_0f7a4 := by decide +kernel
theorem wd_J6_bitCount_0f7a4_c266 : Cond.constant RJ6 266 (858993459) ∈ wsJ6_bitCount_0f7a4 := by decide +kernel
theorem wd_J6_bitCount_0f7a4_c267 : Cond.constant RJ6 267 (252645135) ∈ wsJ6_bitCount_0f7a4 := by decide +kernel
def F_J6_bitCount_0f7a4  (S : Sg) (a0 : Int32) : Option Int32 := nm (a0 - ((iushr a0 (1 : Int32)) &&& (1431655765 : Int32))) (fun x1 => nm ((x1 &&& (858993459 : Int32)) + ((iushr x1 (2 : Int32)) &&& (858993459 : Int32))) (fun x2 => nm ((x2 + (iushr x2 (4 : Int32))) &&& (252645135 : Int32)) (fun x3 => nm (x3 + (iushr x3 (8 : Int32))) (fun x4 => nm (x4 + (iushr x4 (16 : Int32))) (fun x5 => some (x5 &&& (63 : Int32)))))))
set_option maxHeartbeats 4000000 in
set_option maxRecDepth 100000 in
theorem c_J6_bitCount_0f7a4 (l : Launch) (G : Gp) (hI : Gd G)  {S : Sg} {a0 : Int32} {r : Int32} (hF : F_J6_bitCount_0f7a4 S a0 = some r) : Met l yJ6_bitCount_0f7a4 wsJ6_bitCount_0f7a4 rm_J6_bitCount_0f7a4 (va_Pc [.int a0] (PreW (wC G) S)) (va_Qi (fun r' u => r' = r ∧ u = S) (PostW (wC G)) (AW (wC G))) 0 0 (AW (wC G)) := by
  rw [F_J6_bitCount_0f7a4] at hF
  refine met_i (cc := cJ6_bitCount_0f7a4) (maxL := 1) (own := RJ6) hI.1 (by decide) rfl rfl (Nat.le_of_ble_eq_true rfl) (fun X O hR => ?_)
  show Go X l rm_J6_bitCount_0f7a4 (wC G) 1 0 [(0, .int a0)] [] S
  refine go_iload_n O dJ6_bitCount_0f7a4_0 rfl 0 rfl ?_
  refine go_iload_n O dJ6_bitCount_0f7a4_1 rfl 0 rfl ?_
  refine go_iconst (v := (1 : Int32)) O dJ6_bitCount_0f7a4_2 (by decide) ?_
  refine go_iushr (v := iushr a0 (1 : Int32)) O dJ6_bitCount_0f7a4_3 rfl ?_
  refine go_ldcw (v := (1431655765 : Int32)) O dJ6_bitCount_0f7a4_4 wd_J6_bitCount_0f7a4_c265 ?_
  refine go_iand O dJ6_bitCount_0f7a4_7 ?_
  refine go_isub O dJ6_bitCount_0f7a4_8 ?_
  obtain ⟨x1, ex1, hF⟩ := nm_s hF
  refine go_topi ex1 ?_
  refine go_istore_n (ls' := [(0, .int x1)]) O dJ6_bitCount_0f7a4_9 rfl (by decide) rfl ?_
  refine go_iload_n O dJ6_bitCount_0f7a4_10 rfl 0 rfl ?_
  refine go_ldcw (v := (858993459 : Int32)) O dJ6_bitCount_0f7a4_11 wd_J6_bitCount_0f7a4_c266 ?_
  refine go_iand O dJ6_bitCount_0f7a4_14 ?_
  refine go_iload_n O dJ6_bitCount_0f7a4_15 rfl 0 rfl ?_
  refine go_iconst (v := (2 : Int32)) O dJ6_bitCount_0f7a4_16 (by decide) ?_
  refine go_iushr (v := iushr x1 (2 : Int32)) O dJ6_bitCount_0f7a4_17 rfl ?_
  refine go_ldcw (v := (858993459 : Int32)) O dJ6_bitCount_0f7a4_18 wd_J6_bitCount_0f7a4_c266 ?_
  refine go_iand O dJ6_bitCount_0f7a4_21 ?_
  refine go_iadd O dJ6_bitCount_0f7a4_22 ?_
  obtain ⟨x2, ex2, hF⟩ := nm_s hF
  refine go_topi ex2 ?_
  refine go_istore_n (ls' := [(0, .int x2)]) O dJ6_bitCount_0f7a4_23 rfl (by decide) rfl ?_
  refine go_iload_n O dJ6_bitCount_0f7a4_24 rfl 0 rfl ?_
  refine go_iload_n O dJ6_bitCount_0f7a4_25 rfl 0 rfl ?_
  refine go_iconst (v := (4 : Int32)) O dJ6_bitCount_0f7a4_26 (by decide) ?_
  refine go_iushr (v := iushr x2 (4 : Int32)) O dJ6_bitCount_0f7a4_27 rfl ?_
  refine go_iadd O dJ6_bitCount_0f7a4_28 ?_
  refine go_ldcw (v := (252645135 : Int32)) O dJ6_bitCount_0f7a4_29 wd_J6_bitCount_0f7a4_c267 ?_
  refine go_iand O dJ6_bitCount_0f7a4_32 ?_
  obtain ⟨x3, ex3, hF⟩ := nm_s hF
  refine go_topi ex3 ?_
  refine go_istore_n (ls' := [(0, .int x3)]) O dJ6_bitCount_0f7a4_33 rfl (by decide) rfl ?_
  refine go_iload_n O dJ6_bitCount_0f7a4_34 rfl 0 rfl ?_
  refine go_iload_n O dJ6_bitCount_0f7a4_35 rfl 0 rfl ?_
  refine go_bipush (v := (8 : Int32)) O dJ6_bitCount_0f7a4_36 (by decide) ?_
  refine go_iushr (v := iushr x3 (8 : Int32)) O dJ6_bitCount_0f7a4_38 rfl ?_
  refine go_iadd O dJ6_bitCount_0f7a4_39 ?_
  obtain ⟨x4, ex4, hF⟩ := nm_s hF
  refine go_topi ex4 ?_
  refine go_istore_n (ls' := [(0, .int x4)]) O dJ6_bitCount_0f7a4_40 rfl (by decide) rfl ?_
  refine go_iload_n O dJ6_bitCount_0f7a4_41 rfl 0 rfl ?_
  refine go_iload_n O dJ6_bitCount_0f7a4_42 rfl 0 rfl ?_
  refine go_bipush (v := (16 : Int32)) O dJ6_bitCount_0f7a4_43 (by decide) ?_
  refine go_iushr (v := iushr x4 (16 : Int32)) O dJ6_bitCount_0f7a4_45 rfl ?_
  refine go_iadd O dJ6_bitCount_0f7a4_46 ?_
  obtain ⟨x5, ex5, hF⟩ := nm_s hF
  refine go_topi ex5 ?_
  refine go_istore_n (ls' := [(0, .int x5)]) O dJ6_bitCount_0f7a4_47 rfl (by decide) rfl ?_
  refine go_iload_n O dJ6_bitCount_0f7a4_48 rfl 0 rfl ?_
  refine go_bipush (v := (63 : Int32)) O dJ6_bitCount_0f7a4_49 (by decide) ?_
  refine go_iand O dJ6_bitCount_0f7a4_51 ?_
  exact ret_i hF (hR _ _ dJ6_bitCount_0f7a4_52)
-- X4_isMissing
def rm_X4_isMissing : Room := { frames := 0, cells := 0, slots := 0, locals := 0 }
theorem fl_X4_isMissing_13 : Cond.fieldLink RX4 13 "PaperWalls$Row" "size" "I" ∈ wsX4_isMissing := by decide +kernel
theorem in_X4_isMissing_X4 : ∀ x ∈ u_ws RX4 TX4 2, x ∈ wsX4_isMissing := by decide +kernel
def F_X4_isMissing (u : Nat) (S : Sg)  : Option Int32 := if 0 ≤ (S.1 (14 + 2 * u) 1) then (some (0 : Int32)) else (some (1 : Int32))
set_option maxHeartbeats 4000000 in
set_option maxRecDepth 100000 in
theorem c_X4_isMissing (l : Launch) (G : Gp) (hI : Gd G) {u : Nat} (hu : u < 6) {S : Sg} {r : Int32} (hF : F_X4_isMissing u S = some r) : Met l yX4_isMissing wsX4_isMissing rm_X4_isMissing (va_Pc [.ref (G.2.1 (14 + 2 * u))] (PreW (wC G) S)) (va_Qi (fun r' u => r' = r ∧ u = S) (PostW (wC G)) (AW (wC G))) 0 0 (AW (wC G)) := by
  rw [F_X4_isMissing] at hF
  refine met_z (cc := cX4_isMissing) (maxL := 1) (own := RX4) hI.1 (by decide) rfl rfl (Nat.le_of_ble_eq_true rfl) (fun X O hR => ?_)
  show Go X l rm_X4_isMissing (wC G) 1 0 [(0, .ref (G.2.1 (14 + 2 * u)))] [] S
  refine go_aload_n O dX4_isMissing_0 rfl 0 rfl ?_
  refine go_get (k := (14 + 2 * u)) (j := 1) O (lt9 hI (row_lt hu)) (cv_row G hu (S.1 (14 + 2 * u)) (S.2 (14 + 2 * u))) rfl in_X4_isMissing_X4 (by decide) fl_X4_isMissing_13 rfl rfl dX4_isMissing_1 ?_
  refine go_if_ge (tgt := 11) O dX4_isMissing_4 (by decide) (fun hc1 => ?_) (fun hc1 => ?_)
  · replace hF := it_t hc1 hF
    refine go_iconst (v := (0 : Int32)) O dX4_isMissing_11 (by decide) ?_
    exact ret_z hF (fun hz => hR _ _ hz dX4_isMissing_12) (show vp_nar .boolean (0 : Int32) = (0 : Int32) by decide)
  · replace hF := it_f hc1 hF
    refine go_iconst (v := (1 : Int32)) O dX4_isMissing_7 (by decide) ?_
    refine go_goto (tgt := 12) O dX4_isMissing_8 (by decide) ?_
    exact ret_z hF (fun hz => hR _ _ hz dX4_isMissing_12) (show vp_nar .boolean (1 : Int32) = (1 : Int32) by decide)
-- X4_has
def rm_X4_has : Room := { frames := 0, cells := 0, slots := 0, locals := 0 }
theorem fl_X4_has_13 : Cond.fieldLink RX4 13 "PaperWalls$Row" "size" "I" ∈ wsX4_has := by decide +kernel
theorem in_X4_has_X4 : ∀ x ∈ u_ws RX4 TX4 2, x ∈ wsX4_has := by decide +kernel
def F_X4_has (u : Nat) (S : Sg) (a1 : Int32) : Option Int32 := if a1 < 0 then (some (0 : Int32)) else (if (S.1 (14 + 2 * u) 1) ≤ a1 then (some (0 : Int32)) else (some (1 : Int32)))
set_option maxHeartbeats 4000000 in
set_option maxRecDepth 100000 in
theorem c_X4_has (l : Launch) (G : Gp) (hI : Gd G) {u : Nat} (hu : u < 6) {S : Sg} {a1 : Int32} {r : Int32} (hF : F_X4_has u S a1 = some r) : Met l yX4_has wsX4_has rm_X4_has (va_Pc [.ref (G.2.1 (14 + 2 * u)), .int a1] (PreW (wC G) S)) (va_Qi (fun r' u => r' = r ∧ u = S) (PostW (wC G)) (AW (wC G))) 0 0 (AW (wC G)) := by
  rw [F_X4_has] at hF
  refine met_z (cc := cX4_has) (maxL := 2) (own := RX4) hI.1 (by decide) rfl rfl (Nat.le_of_ble_eq_true rfl) (fun X O hR => ?_)
  show Go X l rm_X4_has (wC G) 2 0 [(0, .ref (G.2.1 (14 + 2 * u))), (1, .int a1)] [] S
  refine go_iload_n O dX4_has_0 rfl 1 rfl ?_
  refine go_if_lt (tgt := 16) O dX4_has_1 (by decide) (fun hc2 => ?_) (fun hc2 => ?_)
  · replace hF := it_t hc2 hF
    refine go_iconst (v := (0 : Int32)) O dX4_has_16 (by decide) ?_
    exact ret_z hF (fun hz => hR _ _ hz dX4_has_17) (show vp_nar .boolean (0 : Int32) = (0 : Int32) by decide)
  · replace hF := it_f hc2 hF
    refine go_iload_n O dX4_has_4 rfl 1 rfl ?_
    refine go_aload_n O dX4_has_5 rfl 0 rfl ?_
    refine go_get (k := (14 + 2 * u)) (j := 1) O (lt9 hI (row_lt hu)) (cv_row G hu (S.1 (14 + 2 * u)) (S.2 (14 + 2 * u))) rfl in_X4_has_X4 (by decide) fl_X4_has_13 rfl rfl dX4_has_6 ?_
    refine go_icmp_ge (tgt := 16) O dX4_has_9 (by decide) (fun hc1 => ?_) (fun hc1 => ?_)
    · replace hF := it_t hc1 hF
      refine go_iconst (v := (0 : Int32)) O dX4_has_16 (by decide) ?_
      exact ret_z hF (fun hz => hR _ _ hz dX4_has_17) (show vp_nar .boolean (0 : Int32) = (0 : Int32) by decide)
    · replace hF := it_f hc1 hF
      refine go_iconst (v := (1 : Int32)) O dX4_has_12 (by decide) ?_
      refine go_goto (tgt := 17) O dX4_has_13 (by decide) ?_
      exact ret_z hF (fun hz => hR _ _ hz dX4_has_17) (show vp_nar .boolean (1 : Int32) = (1 : Int32) by decide)
-- X4_begin
def rm_X4_begin : Room := { frames := 0, cells := 0, slots := 0, locals := 0 }
theorem fl_X4_begin_9 : Cond.fieldLink RX4 9 "PaperWalls$Row" "ints" "[I" ∈ wsX4_begin := by decide +kernel
theorem fl_X4_begin_13 : Cond.fieldLink RX4 13 "PaperWalls$Row" "size" "I" ∈ wsX4_begin := by decide +kernel
theorem in_X4_begin_X4 : ∀ x ∈ u_ws RX4 TX4 2, x ∈ wsX4_begin := by decide +kernel
def T_X4_begin_7 (u : Nat)   : Nat → Int32 → Sg → Option (Sg)
  | 0, _, _ => none
  | n + 1, p2, S => if (40 : Int32) ≤ p2 then (some S) else (chk (inB p2 40) (nm (wI S (14 + 2 * u + 1) p2.toNatClampNeg (0 : Int32)) (fun S4 => T_X4_begin_7 u n (p2 + (1 : Int32)) S4)))
set_option maxHeartbeats 4000000 in
set_option maxRecDepth 100000 in
theorem lt_X4_begin_7 {X : XT} (l : Launch) (G : Gp) (hI : Gd G) {u : Nat} (hu : u < 6)  (O : Ok X (wC G) cX4_begin RX4 wsX4_begin 3) : ∀ (n : Nat) (p2 : Int32) (S : Sg) (q : (Sg)), T_X4_begin_7 u n p2 S = some q → (Go X l rm_X4_begin (wC G) 3 26 [] [] q) → Go X l rm_X4_begin (wC G) 3 7 [(0, .ref (G.2.1 (14 + 2 * u))), (2, .int p2)] [] S := by
  intro n
  induction n with
  | zero =>
    intro p2 S q hF
    cases hF
  | succ n ih =>
    intro p2 S q hF hE
    rw [T_X4_begin_7] at hF
    refine go_iload_n O dX4_begin_7 rfl 1 rfl ?_
    refine go_bipush (v := (40 : Int32)) O dX4_begin_8 (by decide) ?_
    refine go_icmp_ge (tgt := 26) O dX4_begin_10 (by decide) (fun hc5 => ?_) (fun hc5 => ?_)
    · replace hF := it_t hc5 hF
      refine go_perm (ls' := []) [] rfl ?_
      exact jn (P := fun q => Go X l rm_X4_begin (wC G) 3 26 [] [] q) hF hE
    · replace hF := it_f hc5 hF
      refine go_aload_n O dX4_begin_13 rfl 0 rfl ?_
      refine go_get (k := (14 + 2 * u)) (j := 0) O (lt9 hI (row_lt hu)) (cv_row G hu (S.1 (14 + 2 * u)) (S.2 (14 + 2 * u))) rfl in_X4_begin_X4 (by decide) fl_X4_begin_9 rfl rfl dX4_begin_14 ?_
      refine go_iload_n O dX4_begin_17 rfl 1 rfl ?_
      refine go_iconst (v := (0 : Int32)) O dX4_begin_18 (by decide) ?_
      obtain ⟨hb3, hF⟩ := chk_s hF
      obtain ⟨S4, eS4, hF⟩ := nm_s hF
      refine go_iast (k := (14 + 2 * u + 1)) O (lt9 hI (row_lt1 hu)) (fun f => (cv_rowA G hu f (S.2 (14 + 2 * u + 1)))) (inB_in hb3) dX4_begin_19 eS4 ?_
      refine go_iinc (d := (1 : Int32)) (ls' := [(2, .int (p2 + (1 : Int32))), (0, .ref (G.2.1 (14 + 2 * u)))]) O dX4_begin_20 1 rfl (by decide) (by decide) rfl ?_
      refine go_goto (tgt := 7) O dX4_begin_23 (by decide) ?_
      refine go_perm (ls' := [(0, .ref (G.2.1 (14 + 2 * u))), (2, .int (p2 + (1 : Int32)))]) [1, 0] rfl ?_
      exact ih _ _ _ hF hE
def F_X4_begin (u : Nat) (S : Sg) (a1 : Int32) : Option Sg := nm (wI S (14 + 2 * u) 1 a1) (fun S1 => bd (T_X4_begin_7 u FU (0 : Int32) S1) (fun S2 => some S2))
set_option maxHeartbeats 4000000 in
set_option maxRecDepth 100000 in
theorem c_X4_begin (l : Launch) (G : Gp) (hI : Gd G) {u : Nat} (hu : u < 6) {S : Sg} {a1 : Int32} {S1 : Sg} (hF : F_X4_begin u S a1 = some S1) : Met l yX4_begin wsX4_begin rm_X4_begin (va_Pc [.ref (G.2.1 (14 + 2 * u)), .int a1] (PreW (wC G) S)) (va_Qv (fun u => u = S1) (PostW (wC G)) (AW (wC G))) 0 0 (AW (wC G)) := by
  rw [F_X4_begin] at hF
  refine met_v (cc := cX4_begin) (maxL := 3) (own := RX4) hI.1 (by decide) rfl rfl (Nat.le_of_ble_eq_true rfl) (fun X O hR => ?_)
  show Go X l rm_X4_begin (wC G) 3 0 [(0, .ref (G.2.1 (14 + 2 * u))), (1, .int a1)] [] S
  refine go_aload_n O dX4_begin_0 rfl 0 rfl ?_
  refine go_iload_n O dX4_begin_1 rfl 1 rfl ?_
  obtain ⟨S1, eS1, hF⟩ := nm_s hF
  refine go_putI (k := (14 + 2 * u)) (j := 1) O (lt9 hI (row_lt hu)) (cv_row G hu (S.1 (14 + 2 * u)) (S.2 (14 + 2 * u))) rfl in_X4_begin_X4 (by decide) fl_X4_begin_13 rfl tyX4 tyX4_ok nmX4 rfl (by decide +kernel) (Nat.le_of_ble_eq_true rfl) (cv_row G hu (upd (S.1 (14 + 2 * u)) 1 a1) (S.2 (14 + 2 * u))) dX4_begin_2 eS1 ?_
  refine go_iconst (v := (0 : Int32)) O dX4_begin_5 (by decide) ?_
  refine go_istore_n (ls' := [(2, .int (0 : Int32)), (0, .ref (G.2.1 (14 + 2 * u))), (1, .int a1)]) O dX4_begin_6 rfl (by decide) rfl ?_
  refine go_perm (ls' := [(0, .ref (G.2.1 (14 + 2 * u))), (2, .int (0 : Int32))]) [1, 0] rfl ?_
  obtain ⟨S2, hA6, hF⟩ := bd_s hF
  refine lt_X4_begin_7 l G hI hu O _ _ _ _ hA6 ?_
  exact ret_v hF (hR _ _ dX4_begin_26)
-- X4_fill
def rm_X4_fill : Room := { frames := 1, cells := 0, slots := 0, locals := 80 }
theorem fl_X4_fill_9 : Cond.fieldLink RX4 9 "PaperWalls$Row" "ints" "[I" ∈ wsX4_fill := by decide +kernel
theorem wd_X4_fill_iss : Cond.initialized "java/lang/System" ∈ wsX4_fill := by decide +kernel
theorem wd_X4_fill_m21 : Cond.methodLink RX4 21 arraycopyName ∈ wsX4_fill := by decide +kernel
theorem wd_X4_fill_nat : Cond.native arraycopyName ∈ wsX4_fill := by decide +kernel
theorem wd_X4_fill_sac : Cond.static arraycopyName ∈ wsX4_fill := by decide +kernel
theorem in_X4_fill_X4 : ∀ x ∈ u_ws RX4 TX4 2, x ∈ wsX4_fill := by decide +kernel
def F_X4_fill (u : Nat) (k : Nat) (kn : Nat) (S : Sg) (a2 : Int32) : Option Sg := bd (F_X4_begin u S a2) (fun S2 => chk (cpB (0 : Int32) (0 : Int32) a2 kn 40) (nm (cpI S2 k (0 : Int32).toNatClampNeg (14 + 2 * u + 1) (0 : Int32).toNatClampNeg a2.toNatClampNeg) (fun S3 => some S3)))
set_option maxHeartbeats 4000000 in
set_option maxRecDepth 100000 in
theorem c_X4_fill (l : Launch) (G : Gp) (hI : Gd G) {u : Nat} {k : Nat} {kn : Nat} (hu : u < 6) (hk : k < 99) (hcv : ∀ f h, cvC G k f h = .inl (G.2.2.1 0, kn, .inl f)) {S : Sg} {a2 : Int32} {S1 : Sg} (hF : F_X4_fill u k kn S a2 = some S1) : Met l yX4_fill wsX4_fill rm_X4_fill (va_Pc [.ref (G.2.1 (14 + 2 * u)), .ref (G.2.1 k), .int a2] (PreW (wC G) S)) (va_Qv (fun u => u = S1) (PostW (wC G)) (AW (wC G))) 0 0 (AW (wC G)) := by
  rw [F_X4_fill] at hF
  refine met_v (cc := cX4_fill) (maxL := 3) (own := RX4) hI.1 (by decide) rfl rfl (Nat.le_of_ble_eq_true rfl) (fun X O hR => ?_)
  show Go X l rm_X4_fill (wC G) 3 0 [(0, .ref (G.2.1 (14 + 2 * u))), (1, .ref (G.2.1 k)), (2, .int a2)] [] S
  refine go_aload_n O dX4_fill_0 rfl 0 rfl ?_
  refine go_iload_n O dX4_fill_1 rfl 2 rfl ?_
  obtain ⟨S2, hA1, hF⟩ := bd_s hF
  refine go_callVv (As := [.int a2]) (rest := []) (b := (14 + 2 * u)) O (c_X4_begin l G hI hu hA1) (fun s args hts => cwV 1 hts gX4_fill_X4_begin rfl rfl rfl (by decide +kernel) ⟨Nat.le_of_ble_eq_true rfl, Nat.le_of_ble_eq_true rfl⟩) (lt9 hI (row_lt hu)) (cv_row G hu (S.1 (14 + 2 * u)) (S.2 (14 + 2 * u))) rfl rfl rfl rfl (Nat.le_of_ble_eq_true rfl) dX4_fill_2 ?_
  refine go_aload_n O dX4_fill_5 rfl 1 rfl ?_
  refine go_iconst (v := (0 : Int32)) O dX4_fill_6 (by decide) ?_
  refine go_aload_n O dX4_fill_7 rfl 0 rfl ?_
  refine go_get (k := (14 + 2 * u)) (j := 0) O (lt9 hI (row_lt hu)) (cv_row G hu (S2.1 (14 + 2 * u)) (S2.2 (14 + 2 * u))) rfl in_X4_fill_X4 (by decide) fl_X4_fill_9 rfl rfl dX4_fill_8 ?_
  refine go_iconst (v := (0 : Int32)) O dX4_fill_11 (by decide) ?_
  refine go_iload_n O dX4_fill_12 rfl 2 rfl ?_
  obtain ⟨hc4, hF⟩ := chk_s hF
  obtain ⟨S3, eS3, hF⟩ := nm_s hF
  refine go_cpyI (k1 := k) (k2 := (14 + 2 * u + 1)) O wd_X4_fill_m21 wd_X4_fill_nat wd_X4_fill_sac wd_X4_fill_iss (lt9 hI hk) (lt9 hI (row_lt1 hu)) (hcv (S2.1 k) (S2.2 k)) (cv_rowA G hu (S2.1 (14 + 2 * u + 1)) (S2.2 (14 + 2 * u + 1))) (cv_rowA G hu (va_cpy (S2.1 k) (S2.1 (14 + 2 * u + 1)) (0 : Int32).toNatClampNeg (0 : Int32).toNatClampNeg a2.toNatClampNeg) (S2.2 (14 + 2 * u + 1))) (cpB_s hc4).1 (cpB_s hc4).2.1 (cpB_s hc4).2.2.1 (cpB_s hc4).2.2.2.1 (cpB_s hc4).2.2.2.2 (by decide) (Nat.le_of_ble_eq_true rfl) dX4_fill_13 eS3 ?_
  exact ret_v hF (hR _ _ dX4_fill_16)
-- X5_begin
def rm_X5_begin : Room := { frames := 0, cells := 0, slots := 0, locals := 0 }
theorem fl_X5_begin_9 : Cond.fieldLink RX5 9 "PaperWalls$Shares" "of" "[I" ∈ wsX5_begin := by decide +kernel
theorem fl_X5_begin_15 : Cond.fieldLink RX5 15 "PaperWalls$Shares" "size" "I" ∈ wsX5_begin := by decide +kernel
theorem in_X5_begin_X5 : ∀ x ∈ u_ws RX5 TX5 2, x ∈ wsX5_begin := by decide +kernel
def T_X5_begin_7   (p1 : Int32) (p2 : Int32) : Nat → Int32 → Sg → Option (Sg)
  | 0, _, _ => none
  | n + 1, p3, S => if p1 ≤ p3 then (some S) else (bd (if p3 = (p1 - (1 : Int32)) then (some p2) else (some (0 : Int32))) (fun x3 => chk (inB p3 6) (nm (wI S 13 p3.toNatClampNeg x3) (fun S8 => T_X5_begin_7 p1 p2 n (p3 + (1 : Int32)) S8))))
set_option maxHeartbeats 4000000 in
set_option maxRecDepth 100000 in
theorem lt_X5_begin_7 {X : XT} (l : Launch) (G : Gp) (hI : Gd G)   {p1 : Int32} {p2 : Int32} (O : Ok X (wC G) cX5_begin RX5 wsX5_begin 4) : ∀ (n : Nat) (p3 : Int32) (S : Sg) (q : (Sg)), T_X5_begin_7 p1 p2 n p3 S = some q → (Go X l rm_X5_begin (wC G) 4 36 [] [] q) → Go X l rm_X5_begin (wC G) 4 7 [(0, .ref (G.2.1 12)), (1, .int p1), (2, .int p2), (3, .int p3)] [] S := by
  intro n
  induction n with
  | zero =>
    intro p3 S q hF
    cases hF
  | succ n ih =>
    intro p3 S q hF hE
    rw [T_X5_begin_7] at hF
    refine go_iload_n O dX5_begin_7 rfl 3 rfl ?_
    refine go_iload_n O dX5_begin_8 rfl 1 rfl ?_
    refine go_icmp_ge (tgt := 36) O dX5_begin_9 (by decide) (fun hc9 => ?_) (fun hc9 => ?_)
    · replace hF := it_t hc9 hF
      refine go_perm (ls' := []) [] rfl ?_
      exact jn (P := fun q => Go X l rm_X5_begin (wC G) 4 36 [] [] q) hF hE
    · replace hF := it_f hc9 hF
      refine go_aload_n O dX5_begin_12 rfl 0 rfl ?_
      refine go_get (k := 12) (j := 0) O (lt9 hI (by decide : (12 : Nat) < 99)) (cv_shr G (S.1 12) (S.2 12)) rfl in_X5_begin_X5 (by decide) fl_X5_begin_9 rfl rfl dX5_begin_13 ?_
      refine go_iload_n O dX5_begin_16 rfl 3 rfl ?_
      refine go_iload_n O dX5_begin_17 rfl 3 rfl ?_
      refine go_iload_n O dX5_begin_18 rfl 1 rfl ?_
      refine go_iconst (v := (1 : Int32)) O dX5_begin_19 (by decide) ?_
      refine go_isub O dX5_begin_20 ?_
      obtain ⟨x3, hA5, hF⟩ := bd_s hF
      have J4 : Go X l rm_X5_begin (wC G) 4 29 [(0, .ref (G.2.1 12)), (1, .int p1), (2, .int p2), (3, .int p3)] [.int x3, .int p3, .ref (G.2.1 13)] S := by
        obtain ⟨hb7, hF⟩ := chk_s hF
        obtain ⟨S8, eS8, hF⟩ := nm_s hF
        refine go_iast (k := 13) O (lt9 hI (by decide : (13 : Nat) < 99)) (fun f => (cv_of G f (S.2 13))) (inB_in hb7) dX5_begin_29 eS8 ?_
        refine go_iinc (d := (1 : Int32)) (ls' := [(3, .int (p3 + (1 : Int32))), (0, .ref (G.2.1 12)), (1, .int p1), (2, .int p2)]) O dX5_begin_30 3 rfl (by decide) (by decide) rfl ?_
        refine go_goto (tgt := 7) O dX5_begin_33 (by decide) ?_
        refine go_perm (ls' := [(0, .ref (G.2.1 12)), (1, .int p1), (2, .int p2), (3, .int (p3 + (1 : Int32)))]) [1, 2, 3, 0] rfl ?_
        exact ih _ _ _ hF hE
      replace hF := hA5
      refine go_icmp_ne (tgt := 28) O dX5_begin_21 (by decide) (fun hc6 => ?_) (fun hc6 => ?_)
      · replace hF := it_f hc6 hF
        refine go_iconst (v := (0 : Int32)) O dX5_begin_28 (by decide) ?_
        exact jn (P := fun q => Go X l rm_X5_begin (wC G) 4 29 [(0, .ref (G.2.1 12)), (1, .int p1), (2, .int p2), (3, .int p3)] [.int q, .int p3, .ref (G.2.1 13)] S) hF J4
      · replace hF := it_t hc6 hF
        refine go_iload_n O dX5_begin_24 rfl 2 rfl ?_
        refine go_goto (tgt := 29) O dX5_begin_25 (by decide) ?_
        exact jn (P := fun q => Go X l rm_X5_begin (wC G) 4 29 [(0, .ref (G.2.1 12)), (1, .int p1), (2, .int p2), (3, .int p3)] [.int q, .int p3, .ref (G.2.1 13)] S) hF J4
def F_X5_begin  (S : Sg) (a1 : Int32) (a2 : Int32) : Option Sg := nm (wI S 12 1 a1) (fun S1 => bd (T_X5_begin_7 a1 a2 FU (0 : Int32) S1) (fun S2 => some S2))
set_option maxHeartbeats 4000000 in
set_option maxRecDepth 100000 in
theorem c_X5_begin (l : Launch) (G : Gp) (hI : Gd G)  {S : Sg} {a1 : Int32} {a2 : Int32} {S1 : Sg} (hF : F_X5_begin S a1 a2 = some S1) : Met l yX5_begin wsX5_begin rm_X5_begin (va_Pc [.ref (G.2.1 12), .int a1, .int a2] (PreW (wC G) S)) (va_Qv (fun u => u = S1) (PostW (wC G)) (AW (wC G))) 0 0 (AW (wC G)) := by
  rw [F_X5_begin] at hF
  refine met_v (cc := cX5_begin) (maxL := 4) (own := RX5) hI.1 (by decide) rfl rfl (Nat.le_of_ble_eq_true rfl) (fun X O hR => ?_)
  show Go X l rm_X5_begin (wC G) 4 0 [(0, .ref (G.2.1 12)), (1, .int a1), (2, .int a2)] [] S
  refine go_aload_n O dX5_begin_0 rfl 0 rfl ?_
  refine go_iload_n O dX5_begin_1 rfl 1 rfl ?_
  obtain ⟨S1, eS1, hF⟩ := nm_s hF
  refine go_putI (k := 12) (j := 1) O (lt9 hI (by decide : (12 : Nat) < 99)) (cv_shr G (S.1 12) (S.2 12)) rfl in_X5_begin_X5 (by decide) fl_X5_begin_15 rfl tyX5 tyX5_ok nmX5 rfl (by decide +kernel) (Nat.le_of_ble_eq_true rfl) (cv_shr G (upd (S.1 12) 1 a1) (S.2 12)) dX5_begin_2 eS1 ?_
  refine go_iconst (v := (0 : Int32)) O dX5_begin_5 (by decide) ?_
  refine go_istore_n (ls' := [(3, .int (0 : Int32)), (0, .ref (G.2.1 12)), (1, .int a1), (2, .int a2)]) O dX5_begin_6 rfl (by decide) rfl ?_
  refine go_perm (ls' := [(0, .ref (G.2.1 12)), (1, .int a1), (2, .int a2), (3, .int (0 : Int32))]) [1, 2, 3, 0] rfl ?_
  obtain ⟨S2, hA10, hF⟩ := bd_s hF
  refine lt_X5_begin_7 l G hI  O _ _ _ _ hA10 ?_
  exact ret_v hF (hR _ _ dX5_begin_36)
-- X5_advance
def rm_X5_advance : Room := { frames := 0, cells := 0, slots := 0, locals := 0 }
theorem fl_X5_advance_9 : Cond.fieldLink RX5 9 "PaperWalls$Shares" "of" "[I" ∈ wsX5_advance := by decide +kernel
theorem fl_X5_advance_15 : Cond.fieldLink RX5 15 "PaperWalls$Shares" "size" "I" ∈ wsX5_advance := by decide +kernel
theorem in_X5_advance_X5 : ∀ x ∈ u_ws RX5 TX5 2, x ∈ wsX5_advance := by decide +kernel
def T_X5_advance_7  (S : Sg)  : Nat → Int32 → Option (Int32)
  | 0, _ => none
  | n + 1, p1 => if p1 ≤ 0 then (some p1) else (chk (inB p1 6) (if (S.1 13 p1.toNatClampNeg) = 0 then (T_X5_advance_7 S n (p1 + (-1 : Int32))) else (some p1)))
set_option maxHeartbeats 4000000 in
set_option maxRecDepth 100000 in
theorem lt_X5_advance_7 {X : XT} (l : Launch) (G : Gp) (hI : Gd G)  {S : Sg} (O : Ok X (wC G) cX5_advance RX5 wsX5_advance 3) : ∀ (n : Nat) (p1 : Int32)  (q : (Int32)), T_X5_advance_7 S n p1  = some q → (Go X l rm_X5_advance (wC G) 3 26 [(0, .ref (G.2.1 12)), (1, .int q)] [] S) → Go X l rm_X5_advance (wC G) 3 7 [(0, .ref (G.2.1 12)), (1, .int p1)] [] S := by
  intro n
  induction n with
  | zero =>
    intro p1  q hF
    cases hF
  | succ n ih =>
    intro p1  q hF hE
    rw [T_X5_advance_7] at hF
    refine go_iload_n O dX5_advance_7 rfl 1 rfl ?_
    refine go_if_le (tgt := 26) O dX5_advance_8 (by decide) (fun hc5 => ?_) (fun hc5 => ?_)
    · replace hF := it_t hc5 hF
      exact jn (P := fun q => Go X l rm_X5_advance (wC G) 3 26 [(0, .ref (G.2.1 12)), (1, .int q)] [] S) hF hE
    · replace hF := it_f hc5 hF
      refine go_aload_n O dX5_advance_11 rfl 0 rfl ?_
      refine go_get (k := 12) (j := 0) O (lt9 hI (by decide : (12 : Nat) < 99)) (cv_shr G (S.1 12) (S.2 12)) rfl in_X5_advance_X5 (by decide) fl_X5_advance_9 rfl rfl dX5_advance_12 ?_
      refine go_iload_n O dX5_advance_15 rfl 1 rfl ?_
      obtain ⟨hb3, hF⟩ := chk_s hF
      refine go_iald (k := 13) O (lt9 hI (by decide : (13 : Nat) < 99)) (cv_of G (S.1 13) (S.2 13)) (inB_in hb3) dX5_advance_16 ?_
      refine go_if_ne (tgt := 26) O dX5_advance_17 (by decide) (fun hc4 => ?_) (fun hc4 => ?_)
      · replace hF := it_f hc4 hF
        exact jn (P := fun q => Go X l rm_X5_advance (wC G) 3 26 [(0, .ref (G.2.1 12)), (1, .int q)] [] S) hF hE
      · replace hF := it_t hc4 hF
        refine go_iinc (d := (-1 : Int32)) (ls' := [(1, .int (p1 + (-1 : Int32))), (0, .ref (G.2.1 12))]) O dX5_advance_20 1 rfl (by decide) (by decide) rfl ?_
        refine go_goto (tgt := 7) O dX5_advance_23 (by decide) ?_
        refine go_perm (ls' := [(0, .ref (G.2.1 12)), (1, .int (p1 + (-1 : Int32)))]) [1, 0] rfl ?_
        exact ih _ _ hF hE
def F_X5_advance  (S : Sg)  : Option (Int32 × Sg) := nm ((S.1 12 1) - (1 : Int32)) (fun x1 => bd (T_X5_advance_7 S FU x1) (fun x2 => if 0 < x2 then (chk (inB x2 6) (nm ((S.1 13 x2.toNatClampNeg) - (1 : Int32)) (fun x8 => chk (inB x2 6) (nm (wI S 13 x2.toNatClampNeg (0 : Int32)) (fun S10 => chk (inB (x2 - (1 : Int32)) 6) (chk (inB (x2 - (1 : Int32)) 6) (nm (wI S10 13 (x2 - (1 : Int32)).toNatClampNeg ((S10.1 13 (x2 - (1 : Int32)).toNatClampNeg) + (1 : Int32))) (fun S13 => chk (inB ((S13.1 12 1) - (1 : Int32)) 6) (nm (wI S13 13 ((S13.1 12 1) - (1 : Int32)).toNatClampNeg x8) (fun S15 => some ((1 : Int32), S15))))))))))) else (some ((0 : Int32), S))))
set_option maxHeartbeats 4000000 in
set_option maxRecDepth 100000 in
theorem c_X5_advance (l : Launch) (G : Gp) (hI : Gd G)  {S : Sg} {r : Int32} {S1 : Sg} (hF : F_X5_advance S = some (r, S1)) : Met l yX5_advance wsX5_advance rm_X5_advance (va_Pc [.ref (G.2.1 12)] (PreW (wC G) S)) (va_Qi (fun r' u => r' = r ∧ u = S1) (PostW (wC G)) (AW (wC G))) 0 0 (AW (wC G)) := by
  rw [F_X5_advance] at hF
  refine met_z (cc := cX5_advance) (maxL := 3) (own := RX5) hI.1 (by decide) rfl rfl (Nat.le_of_ble_eq_true rfl) (fun X O hR => ?_)
  show Go X l rm_X5_advance (wC G) 3 0 [(0, .ref (G.2.1 12))] [] S
  refine go_aload_n O dX5_advance_0 rfl 0 rfl ?_
  refine go_get (k := 12) (j := 1) O (lt9 hI (by decide : (12 : Nat) < 99)) (cv_shr G (S.1 12) (S.2 12)) rfl in_X5_advance_X5 (by decide) fl_X5_advance_15 rfl rfl dX5_advance_1 ?_
  refine go_iconst (v := (1 : Int32)) O dX5_advance_4 (by decide) ?_
  refine go_isub O dX5_advance_5 ?_
  obtain ⟨x1, ex1, hF⟩ := nm_s hF
  refine go_topi ex1 ?_
  refine go_istore_n (ls' := [(1, .int x1), (0, .ref (G.2.1 12))]) O dX5_advance_6 rfl (by decide) rfl ?_
  refine go_perm (ls' := [(0, .ref (G.2.1 12)), (1, .int x1)]) [1, 0] rfl ?_
  obtain ⟨x2, hA6, hF⟩ := bd_s hF
  refine lt_X5_advance_7 l G hI  O _ _ _ hA6 ?_
  refine go_iload_n O dX5_advance_26 rfl 1 rfl ?_
  refine go_if_gt (tgt := 32) O dX5_advance_27 (by decide) (fun hc16 => ?_) (fun hc16 => ?_)
  · replace hF := it_t hc16 hF
    refine go_aload_n O dX5_advance_32 rfl 0 rfl ?_
    refine go_get (k := 12) (j := 0) O (lt9 hI (by decide : (12 : Nat) < 99)) (cv_shr G (S.1 12) (S.2 12)) rfl in_X5_advance_X5 (by decide) fl_X5_advance_9 rfl rfl dX5_advance_33 ?_
    refine go_iload_n O dX5_advance_36 rfl 1 rfl ?_
    obtain ⟨hb7, hF⟩ := chk_s hF
    refine go_iald (k := 13) O (lt9 hI (by decide : (13 : Nat) < 99)) (cv_of G (S.1 13) (S.2 13)) (inB_in hb7) dX5_advance_37 ?_
    refine go_iconst (v := (1 : Int32)) O dX5_advance_38 (by decide) ?_
    refine go_isub O dX5_advance_39 ?_
    obtain ⟨x8, ex8, hF⟩ := nm_s hF
    refine go_topi ex8 ?_
    refine go_istore_n (ls' := [(2, .int x8), (0, .ref (G.2.1 12)), (1, .int x2)]) O dX5_advance_40 rfl (by decide) rfl ?_
    refine go_aload_n O dX5_advance_41 rfl 1 rfl ?_
    refine go_get (k := 12) (j := 0) O (lt9 hI (by decide : (12 : Nat) < 99)) (cv_shr G (S.1 12) (S.2 12)) rfl in_X5_advance_X5 (by decide) fl_X5_advance_9 rfl rfl dX5_advance_42 ?_
    refine go_iload_n O dX5_advance_45 rfl 2 rfl ?_
    refine go_iconst (v := (0 : Int32)) O dX5_advance_46 (by decide) ?_
    obtain ⟨hb9, hF⟩ := chk_s hF
    obtain ⟨S10, eS10, hF⟩ := nm_s hF
    refine go_iast (k := 13) O (lt9 hI (by decide : (13 : Nat) < 99)) (fun f => (cv_of G f (S.2 13))) (inB_in hb9) dX5_advance_47 eS10 ?_
    refine go_aload_n O dX5_advance_48 rfl 1 rfl ?_
    refine go_get (k := 12) (j := 0) O (lt9 hI (by decide : (12 : Nat) < 99)) (cv_shr G (S10.1 12) (S10.2 12)) rfl in_X5_advance_X5 (by decide) fl_X5_advance_9 rfl rfl dX5_advance_49 ?_
    refine go_iload_n O dX5_advance_52 rfl 2 rfl ?_
    refine go_iconst (v := (1 : Int32)) O dX5_advance_53 (by decide) ?_
    refine go_isub O dX5_advance_54 ?_
    refine go_dup2 O dX5_advance_55 rfl rfl ?_
    obtain ⟨hb11, hF⟩ := chk_s hF
    refine go_iald (k := 13) O (lt9 hI (by decide : (13 : Nat) < 99)) (cv_of G (S10.1 13) (S10.2 13)) (inB_in hb11) dX5_advance_56 ?_
    refine go_iconst (v := (1 : Int32)) O dX5_advance_57 (by decide) ?_
    refine go_iadd O dX5_advance_58 ?_
    obtain ⟨hb12, hF⟩ := chk_s hF
    obtain ⟨S13, eS13, hF⟩ := nm_s hF
    refine go_iast (k := 13) O (lt9 hI (by decide : (13 : Nat) < 99)) (fun f => (cv_of G f (S10.2 13))) (inB_in hb12) dX5_advance_59 eS13 ?_
    refine go_aload_n O dX5_advance_60 rfl 1 rfl ?_
    refine go_get (k := 12) (j := 0) O (lt9 hI (by decide : (12 : Nat) < 99)) (cv_shr G (S13.1 12) (S13.2 12)) rfl in_X5_advance_X5 (by decide) fl_X5_advance_9 rfl rfl dX5_advance_61 ?_
    refine go_aload_n O dX5_advance_64 rfl 1 rfl ?_
    refine go_get (k := 12) (j := 1) O (lt9 hI (by decide : (12 : Nat) < 99)) (cv_shr G (S13.1 12) (S13.2 12)) rfl in_X5_advance_X5 (by decide) fl_X5_advance_15 rfl rfl dX5_advance_65 ?_
    refine go_iconst (v := (1 : Int32)) O dX5_advance_68 (by decide) ?_
    refine go_isub O dX5_advance_69 ?_
    refine go_iload_n O dX5_advance_70 rfl 0 rfl ?_
    obtain ⟨hb14, hF⟩ := chk_s hF
    obtain ⟨S15, eS15, hF⟩ := nm_s hF
    refine go_iast (k := 13) O (lt9 hI (by decide : (13 : Nat) < 99)) (fun f => (cv_of G f (S13.2 13))) (inB_in hb14) dX5_advance_71 eS15 ?_
    refine go_iconst (v := (1 : Int32)) O dX5_advance_72 (by decide) ?_
    exact ret_wz hF (fun hz => hR _ _ hz dX5_advance_73) (show vp_nar .boolean (1 : Int32) = (1 : Int32) by decide)
  · replace hF := it_f hc16 hF
    refine go_iconst (v := (0 : Int32)) O dX5_advance_30 (by decide) ?_
    exact ret_wz hF (fun hz => hR _ _ hz dX5_advance_31) (show vp_nar .boolean (0 : Int32) = (0 : Int32) by decide)
-- X7_has
def rm_X7_has : Room := { frames := 0, cells := 0, slots := 0, locals := 0 }
theorem fl_X7_has_13 : Cond.fieldLink RX7 13 "PaperWalls$Text" "size" "I" ∈ wsX7_has := by decide +kernel
theorem in_X7_has_X7 : ∀ x ∈ u_ws RX7 TX7 2, x ∈ wsX7_has := by decide +kernel
def F_X7_has (t : Nat) (S : Sg) (a1 : Int32) : Option Int32 := if a1 < 0 then (some (0 : Int32)) else (if (S.1 (26 + 2 * t) 1) ≤ a1 then (some (0 : Int32)) else (some (1 : Int32)))
set_option maxHeartbeats 4000000 in
set_option maxRecDepth 100000 in
theorem c_X7_has (l : Launch) (G : Gp) (hI : Gd G) {t : Nat} (ht : t < 4) {S : Sg} {a1 : Int32} {r : Int32} (hF : F_X7_has t S a1 = some r) : Met l yX7_has wsX7_has rm_X7_has (va_Pc [.ref (G.2.1 (26 + 2 * t)), .int a1] (PreW (wC G) S)) (va_Qi (fun r' u => r' = r ∧ u = S) (PostW (wC G)) (AW (wC G))) 0 0 (AW (wC G)) := by
  rw [F_X7_has] at hF
  refine met_z (cc := cX7_has) (maxL := 2) (own := RX7) hI.1 (by decide) rfl rfl (Nat.le_of_ble_eq_true rfl) (fun X O hR => ?_)
  show Go X l rm_X7_has (wC G) 2 0 [(0, .ref (G.2.1 (26 + 2 * t))), (1, .int a1)] [] S
  refine go_iload_n O dX7_has_0 rfl 1 rfl ?_
  refine go_if_lt (tgt := 16) O dX7_has_1 (by decide) (fun hc2 => ?_) (fun hc2 => ?_)
  · replace hF := it_t hc2 hF
    refine go_iconst (v := (0 : Int32)) O dX7_has_16 (by decide) ?_
    exact ret_z hF (fun hz => hR _ _ hz dX7_has_17) (show vp_nar .boolean (0 : Int32) = (0 : Int32) by decide)
  · replace hF := it_f hc2 hF
    refine go_iload_n O dX7_has_4 rfl 1 rfl ?_
    refine go_aload_n O dX7_has_5 rfl 0 rfl ?_
    refine go_get (k := (26 + 2 * t)) (j := 1) O (lt9 hI (txt_lt ht)) (cv_txt G ht (S.1 (26 + 2 * t)) (S.2 (26 + 2 * t))) rfl in_X7_has_X7 (by decide) fl_X7_has_13 rfl rfl dX7_has_6 ?_
    refine go_icmp_ge (tgt := 16) O dX7_has_9 (by decide) (fun hc1 => ?_) (fun hc1 => ?_)
    · replace hF := it_t hc1 hF
      refine go_iconst (v := (0 : Int32)) O dX7_has_16 (by decide) ?_
      exact ret_z hF (fun hz => hR _ _ hz dX7_has_17) (show vp_nar .boolean (0 : Int32) = (0 : Int32) by decide)
    · replace hF := it_f hc1 hF
      refine go_iconst (v := (1 : Int32)) O dX7_has_12 (by decide) ?_
      refine go_goto (tgt := 17) O dX7_has_13 (by decide) ?_
      exact ret_z hF (fun hz => hR _ _ hz dX7_has_17) (show vp_nar .boolean (1 : Int32) = (1 : Int32) by decide)
-- X7_sign
def rm_X7_sign : Room := { frames := 1, cells := 0, slots := 0, locals := 21 }
theorem fl_X7_sign_9 : Cond.fieldLink RX7 9 "PaperWalls$Text" "bytes" "[B" ∈ wsX7_sign := by decide +kernel
theorem in_X7_sign_X7 : ∀ x ∈ u_ws RX7 TX7 2, x ∈ wsX7_sign := by decide +kernel
def F_X7_sign (t : Nat) (S : Sg) (a1 : Int32) : Option Int32 := bd (F_X7_has t S a1) (fun x2 => if x2 = 0 then (some (1000 : Int32)) else (chk (inB a1 80) (some (S.1 (26 + 2 * t + 1) a1.toNatClampNeg))))
set_option maxHeartbeats 4000000 in
set_option maxRecDepth 100000 in
theorem c_X7_sign (l : Launch) (G : Gp) (hI : Gd G) {t : Nat} (ht : t < 4) {S : Sg} {a1 : Int32} {r : Int32} (hF : F_X7_sign t S a1 = some r) : Met l yX7_sign wsX7_sign rm_X7_sign (va_Pc [.ref (G.2.1 (26 + 2 * t)), .int a1] (PreW (wC G) S)) (va_Qi (fun r' u => r' = r ∧ u = S) (PostW (wC G)) (AW (wC G))) 0 0 (AW (wC G)) := by
  rw [F_X7_sign] at hF
  refine met_i (cc := cX7_sign) (maxL := 2) (own := RX7) hI.1 (by decide) rfl rfl (Nat.le_of_ble_eq_true rfl) (fun X O hR => ?_)
  show Go X l rm_X7_sign (wC G) 2 0 [(0, .ref (G.2.1 (26 + 2 * t))), (1, .int a1)] [] S
  refine go_aload_n O dX7_sign_0 rfl 0 rfl ?_
  refine go_iload_n O dX7_sign_1 rfl 1 rfl ?_
  obtain ⟨x2, hA1, hF⟩ := bd_s hF
  refine go_callVi (As := [.int a1]) (rest := []) (b := (26 + 2 * t)) O (c_X7_has l G hI ht hA1) (fun s args hts => cwV 1 hts gX7_sign_X7_has rfl rfl rfl (by decide +kernel) ⟨Nat.le_of_ble_eq_true rfl, Nat.le_of_ble_eq_true rfl⟩) (lt9 hI (txt_lt ht)) (cv_txt G ht (S.1 (26 + 2 * t)) (S.2 (26 + 2 * t))) rfl rfl rfl rfl (Nat.le_of_ble_eq_true rfl) dX7_sign_2 ?_
  refine go_if_eq (tgt := 17) O dX7_sign_5 (by decide) (fun hc4 => ?_) (fun hc4 => ?_)
  · replace hF := it_t hc4 hF
    refine go_sipush (v := (1000 : Int32)) O dX7_sign_17 (by decide) ?_
    exact ret_i hF (hR _ _ dX7_sign_20)
  · replace hF := it_f hc4 hF
    refine go_aload_n O dX7_sign_8 rfl 0 rfl ?_
    refine go_get (k := (26 + 2 * t)) (j := 0) O (lt9 hI (txt_lt ht)) (cv_txt G ht (S.1 (26 + 2 * t)) (S.2 (26 + 2 * t))) rfl in_X7_sign_X7 (by decide) fl_X7_sign_9 rfl rfl dX7_sign_9 ?_
    refine go_iload_n O dX7_sign_12 rfl 1 rfl ?_
    obtain ⟨hb3, hF⟩ := chk_s hF
    refine go_bald (k := (26 + 2 * t + 1)) O (lt9 hI (txt_lt1 ht)) (cv_txtA G ht (S.1 (26 + 2 * t + 1)) (S.2 (26 + 2 * t + 1))) (inB_in hb3) dX7_sign_13 ?_
    refine go_goto (tgt := 20) O dX7_sign_14 (by decide) ?_
    exact ret_i hF (hR _ _ dX7_sign_20)
-- X7_pastBlanks
def rm_X7_pastBlanks : Room := { frames := 2, cells := 0, slots := 0, locals := 42 }
theorem fl_X7_pastBlanks_13 : Cond.fieldLink RX7 13 "PaperWalls$Text" "size" "I" ∈ wsX7_pastBlanks := by decide +kernel
theorem in_X7_pastBlanks_X7 : ∀ x ∈ u_ws RX7 TX7 2, x ∈ wsX7_pastBlanks := by decide +kernel
def T_X7_pastBlanks_2 (t : Nat) (S : Sg)  : Nat → Int32 → Option (Int32)
  | 0, _ => none
  | n + 1, p2 => if (S.1 (26 + 2 * t) 1) ≤ p2 then (some p2) else (bd (F_X7_sign t S p2) (fun x3 => if x3 = (32 : Int32) then (T_X7_pastBlanks_2 t S n (p2 + (1 : Int32))) else (some p2)))
set_option maxHeartbeats 4000000 in
set_option maxRecDepth 100000 in
theorem lt_X7_pastBlanks_2 {X : XT} (l : Launch) (G : Gp) (hI : Gd G) {t : Nat} (ht : t < 4) {S : Sg} (O : Ok X (wC G) cX7_pastBlanks RX7 wsX7_pastBlanks 3) : ∀ (n : Nat) (p2 : Int32)  (q : (Int32)), T_X7_pastBlanks_2 t S n p2  = some q → (Go X l rm_X7_pastBlanks (wC G) 3 26 [(2, .int q)] [] S) → Go X l rm_X7_pastBlanks (wC G) 3 2 [(0, .ref (G.2.1 (26 + 2 * t))), (2, .int p2)] [] S := by
  intro n
  induction n with
  | zero =>
    intro p2  q hF
    cases hF
  | succ n ih =>
    intro p2  q hF hE
    rw [T_X7_pastBlanks_2] at hF
    refine go_iload_n O dX7_pastBlanks_2 rfl 1 rfl ?_
    refine go_aload_n O dX7_pastBlanks_3 rfl 0 rfl ?_
    refine go_get (k := (26 + 2 * t)) (j := 1) O (lt9 hI (txt_lt ht)) (cv_txt G ht (S.1 (26 + 2 * t)) (S.2 (26 + 2 * t))) rfl in_X7_pastBlanks_X7 (by decide) fl_X7_pastBlanks_13 rfl rfl dX7_pastBlanks_4 ?_
    refine go_icmp_ge (tgt := 26) O dX7_pastBlanks_7 (by decide) (fun hc5 => ?_) (fun hc5 => ?_)
    · replace hF := it_t hc5 hF
      refine go_perm (ls' := [(2, .int p2)]) [1] rfl ?_
      exact jn (P := fun q => Go X l rm_X7_pastBlanks (wC G) 3 26 [(2, .int q)] [] S) hF hE
    · replace hF := it_f hc5 hF
      refine go_aload_n O dX7_pastBlanks_10 rfl 0 rfl ?_
      refine go_iload_n O dX7_pastBlanks_11 rfl 1 rfl ?_
      obtain ⟨x3, hA2, hF⟩ := bd_s hF
      refine go_callVi (As := [.int p2]) (rest := []) (b := (26 + 2 * t)) O (c_X7_sign l G hI ht hA2) (fun s args hts => cwV 1 hts gX7_pastBlanks_X7_sign rfl rfl rfl (by decide +kernel) ⟨Nat.le_of_ble_eq_true rfl, Nat.le_of_ble_eq_true rfl⟩) (lt9 hI (txt_lt ht)) (cv_txt G ht (S.1 (26 + 2 * t)) (S.2 (26 + 2 * t))) rfl rfl rfl rfl (Nat.le_of_ble_eq_true rfl) dX7_pastBlanks_12 ?_
      refine go_bipush (v := (32 : Int32)) O dX7_pastBlanks_15 (by decide) ?_
      refine go_icmp_ne (tgt := 26) O dX7_pastBlanks_17 (by decide) (fun hc4 => ?_) (fun hc4 => ?_)
      · replace hF := it_f hc4 hF
        refine go_perm (ls' := [(2, .int p2)]) [1] rfl ?_
        exact jn (P := fun q => Go X l rm_X7_pastBlanks (wC G) 3 26 [(2, .int q)] [] S) hF hE
      · replace hF := it_t hc4 hF
        refine go_iinc (d := (1 : Int32)) (ls' := [(2, .int (p2 + (1 : Int32))), (0, .ref (G.2.1 (26 + 2 * t)))]) O dX7_pastBlanks_20 1 rfl (by decide) (by decide) rfl ?_
        refine go_goto (tgt := 2) O dX7_pastBlanks_23 (by decide) ?_
        refine go_perm (ls' := [(0, .ref (G.2.1 (26 + 2 * t))), (2, .int (p2 + (1 : Int32)))]) [1, 0] rfl ?_
        exact ih _ _ hF hE
def F_X7_pastBlanks (t : Nat) (S : Sg) (a1 : Int32) : Option Int32 := bd (T_X7_pastBlanks_2 t S FU a1) (fun x1 => some x1)
set_option maxHeartbeats 4000000 in
set_option maxRecDepth 100000 in
theorem c_X7_pastBlanks (l : Launch) (G : Gp) (hI : Gd G) {t : Nat} (ht : t < 4) {S : Sg} {a1 : Int32} {r : Int32} (hF : F_X7_pastBlanks t S a1 = some r) : Met l yX7_pastBlanks wsX7_pastBlanks rm_X7_pastBlanks (va_Pc [.ref (G.2.1 (26 + 2 * t)), .int a1] (PreW (wC G) S)) (va_Qi (fun r' u => r' = r ∧ u = S) (PostW (wC G)) (AW (wC G))) 0 0 (AW (wC G)) := by
  rw [F_X7_pastBlanks] at hF
  refine met_i (cc := cX7_pastBlanks) (maxL := 3) (own := RX7) hI.1 (by decide) rfl rfl (Nat.le_of_ble_eq_true rfl) (fun X O hR => ?_)
  show Go X l rm_X7_pastBlanks (wC G) 3 0 [(0, .ref (G.2.1 (26 + 2 * t))), (1, .int a1)] [] S
  refine go_iload_n O dX7_pastBlanks_0 rfl 1 rfl ?_
  refine go_istore_n (ls' := [(2, .int a1), (0, .ref (G.2.1 (26 + 2 * t))), (1, .int a1)]) O dX7_pastBlanks_1 rfl (by decide) rfl ?_
  refine go_perm (ls' := [(0, .ref (G.2.1 (26 + 2 * t))), (2, .int a1)]) [1, 0] rfl ?_
  obtain ⟨x1, hA6, hF⟩ := bd_s hF
  refine lt_X7_pastBlanks_2 l G hI ht O _ _ _ hA6 ?_
  refine go_iload_n O dX7_pastBlanks_26 rfl 0 rfl ?_
  exact ret_i hF (hR _ _ dX7_pastBlanks_27)
-- X7_isFigure
def rm_X7_isFigure : Room := { frames := 2, cells := 0, slots := 0, locals := 42 }
def F_X7_isFigure (t : Nat) (S : Sg) (a1 : Int32) : Option Int32 := bd (F_X7_sign t S a1) (fun x2 => if x2 < (48 : Int32) then (some (0 : Int32)) else (bd (F_X7_sign t S a1) (fun x4 => if (57 : Int32) < x4 then (some (0 : Int32)) else (some (1 : Int32)))))
set_option maxHeartbeats 4000000 in
set_option maxRecDepth 100000 in
theorem c_X7_isFigure (l : Launch) (G : Gp) (hI : Gd G) {t : Nat} (ht : t < 4) {S : Sg} {a1 : Int32} {r : Int32} (hF : F_X7_isFigure t S a1 = some r) : Met l yX7_isFigure wsX7_isFigure rm_X7_isFigure (va_Pc [.ref (G.2.1 (26 + 2 * t)), .int a1] (PreW (wC G) S)) (va_Qi (fun r' u => r' = r ∧ u = S) (PostW (wC G)) (AW (wC G))) 0 0 (AW (wC G)) := by
  rw [F_X7_isFigure] at hF
  refine met_z (cc := cX7_isFigure) (maxL := 2) (own := RX7) hI.1 (by decide) rfl rfl (Nat.le_of_ble_eq_true rfl) (fun X O hR => ?_)
  show Go X l rm_X7_isFigure (wC G) 2 0 [(0, .ref (G.2.1 (26 + 2 * t))), (1, .int a1)] [] S
  refine go_aload_n O dX7_isFigure_0 rfl 0 rfl ?_
  refine go_iload_n O dX7_isFigure_1 rfl 1 rfl ?_
  obtain ⟨x2, hA1, hF⟩ := bd_s hF
  refine go_callVi (As := [.int a1]) (rest := []) (b := (26 + 2 * t)) O (c_X7_sign l G hI ht hA1) (fun s args hts => cwV 1 hts gX7_isFigure_X7_sign rfl rfl rfl (by decide +kernel) ⟨Nat.le_of_ble_eq_true rfl, Nat.le_of_ble_eq_true rfl⟩) (lt9 hI (txt_lt ht)) (cv_txt G ht (S.1 (26 + 2 * t)) (S.2 (26 + 2 * t))) rfl rfl rfl rfl (Nat.le_of_ble_eq_true rfl) dX7_isFigure_2 ?_
  refine go_bipush (v := (48 : Int32)) O dX7_isFigure_5 (by decide) ?_
  refine go_icmp_lt (tgt := 24) O dX7_isFigure_7 (by decide) (fun hc6 => ?_) (fun hc6 => ?_)
  · replace hF := it_t hc6 hF
    refine go_iconst (v := (0 : Int32)) O dX7_isFigure_24 (by decide) ?_
    exact ret_z hF (fun hz => hR _ _ hz dX7_isFigure_25) (show vp_nar .boolean (0 : Int32) = (0 : Int32) by decide)
  · replace hF := it_f hc6 hF
    refine go_aload_n O dX7_isFigure_10 rfl 0 rfl ?_
    refine go_iload_n O dX7_isFigure_11 rfl 1 rfl ?_
    obtain ⟨x4, hA3, hF⟩ := bd_s hF
    refine go_callVi (As := [.int a1]) (rest := []) (b := (26 + 2 * t)) O (c_X7_sign l G hI ht hA3) (fun s args hts => cwV 1 hts gX7_isFigure_X7_sign rfl rfl rfl (by decide +kernel) ⟨Nat.le_of_ble_eq_true rfl, Nat.le_of_ble_eq_true rfl⟩) (lt9 hI (txt_lt ht)) (cv_txt G ht (S.1 (26 + 2 * t)) (S.2 (26 + 2 * t))) rfl rfl rfl rfl (Nat.le_of_ble_eq_true rfl) dX7_isFigure_12 ?_
    refine go_bipush (v := (57 : Int32)) O dX7_isFigure_15 (by decide) ?_
    refine go_icmp_gt (tgt := 24) O dX7_isFigure_17 (by decide) (fun hc5 => ?_) (fun hc5 => ?_)
    · replace hF := it_t hc5 hF
      refine go_iconst (v := (0 : Int32)) O dX7_isFigure_24 (by decide) ?_
      exact ret_z hF (fun hz => hR _ _ hz dX7_isFigure_25) (show vp_nar .boolean (0 : Int32) = (0 : Int32) by decide)
    · replace hF := it_f hc5 hF
      refine go_iconst (v := (1 : Int32)) O dX7_isFigure_20 (by decide) ?_
      refine go_goto (tgt := 25) O dX7_isFigure_21 (by decide) ?_
      exact ret_z hF (fun hz => hR _ _ hz dX7_isFigure_25) (show vp_nar .boolean (1 : Int32) = (1 : Int32) by decide)
-- X7_isMissing
def rm_X7_isMissing : Room := { frames := 0, cells := 0, slots := 0, locals := 0 }
theorem fl_X7_isMissing_13 : Cond.fieldLink RX7 13 "PaperWalls$Text" "size" "I" ∈ wsX7_isMissing := by decide +kernel
theorem in_X7_isMissing_X7 : ∀ x ∈ u_ws RX7 TX7 2, x ∈ wsX7_isMissing := by decide +kernel
def F_X7_isMissing (t : Nat) (S : Sg)  : Option Int32 := if 0 ≤ (S.1 (26 + 2 * t) 1) then (some (0 : Int32)) else (some (1 : Int32))
set_option maxHeartbeats 4000000 in
set_option maxRecDepth 100000 in
theorem c_X7_isMissing (l : Launch) (G : Gp) (hI : Gd G) {t : Nat} (ht : t < 4) {S : Sg} {r : Int32} (hF : F_X7_isMissing t S = some r) : Met l yX7_isMissing wsX7_isMissing rm_X7_isMissing (va_Pc [.ref (G.2.1 (26 + 2 * t))] (PreW (wC G) S)) (va_Qi (fun r' u => r' = r ∧ u = S) (PostW (wC G)) (AW (wC G))) 0 0 (AW (wC G)) := by
  rw [F_X7_isMissing] at hF
  refine met_z (cc := cX7_isMissing) (maxL := 1) (own := RX7) hI.1 (by decide) rfl rfl (Nat.le_of_ble_eq_true rfl) (fun X O hR => ?_)
  show Go X l rm_X7_isMissing (wC G) 1 0 [(0, .ref (G.2.1 (26 + 2 * t)))] [] S
  refine go_aload_n O dX7_isMissing_0 rfl 0 rfl ?_
  refine go_get (k := (26 + 2 * t)) (j := 1) O (lt9 hI (txt_lt ht)) (cv_txt G ht (S.1 (26 + 2 * t)) (S.2 (26 + 2 * t))) rfl in_X7_isMissing_X7 (by decide) fl_X7_isMissing_13 rfl rfl dX7_isMissing_1 ?_
  refine go_if_ge (tgt := 11) O dX7_isMissing_4 (by decide) (fun hc1 => ?_) (fun hc1 => ?_)
  · replace hF := it_t hc1 hF
    refine go_iconst (v := (0 : Int32)) O dX7_isMissing_11 (by decide) ?_
    exact ret_z hF (fun hz => hR _ _ hz dX7_isMissing_12) (show vp_nar .boolean (0 : Int32) = (0 : Int32) by decide)
  · replace hF := it_f hc1 hF
    refine go_iconst (v := (1 : Int32)) O dX7_isMissing_7 (by decide) ?_
    refine go_goto (tgt := 12) O dX7_isMissing_8 (by decide) ?_
    exact ret_z hF (fun hz => hR _ _ hz dX7_isMissing_12) (show vp_nar .boolean (1 : Int32) = (1 : Int32) by decide)
-- X7_begin
def rm_X7_begin : Room := { frames := 0, cells := 0, slots := 0, locals := 0 }
theorem fl_X7_begin_9 : Cond.fieldLink RX7 9 "PaperWalls$Text" "bytes" "[B" ∈ wsX7_begin := by decide +kernel
theorem fl_X7_begin_13 : Cond.fieldLink RX7 13 "PaperWalls$Text" "size" "I" ∈ wsX7_begin := by decide +kernel
theorem in_X7_begin_X7 : ∀ x ∈ u_ws RX7 TX7 2, x ∈ wsX7_begin := by decide +kernel
def T_X7_begin_7 (t : Nat)   : Nat → Int32 → Sg → Option (Sg)
  | 0, _, _ => none
  | n + 1, p2, S => if (80 : Int32) ≤ p2 then (some S) else (chk (inB p2 80) (nm (wI S (26 + 2 * t + 1) p2.toNatClampNeg (vp_nar .byte (32 : Int32))) (fun S4 => T_X7_begin_7 t n (p2 + (1 : Int32)) S4)))
set_option maxHeartbeats 4000000 in
set_option maxRecDepth 100000 in
theorem lt_X7_begin_7 {X : XT} (l : Launch) (G : Gp) (hI : Gd G) {t : Nat} (ht : t < 4)  (O : Ok X (wC G) cX7_begin RX7 wsX7_begin 3) : ∀ (n : Nat) (p2 : Int32) (S : Sg) (q : (Sg)), T_X7_begin_7 t n p2 S = some q → (Go X l rm_X7_begin (wC G) 3 27 [] [] q) → Go X l rm_X7_begin (wC G) 3 7 [(0, .ref (G.2.1 (26 + 2 * t))), (2, .int p2)] [] S := by
  intro n
  induction n with
  | zero =>
    intro p2 S q hF
    cases hF
  | succ n ih =>
    intro p2 S q hF hE
    rw [T_X7_begin_7] at hF
    refine go_iload_n O dX7_begin_7 rfl 1 rfl ?_
    refine go_bipush (v := (80 : Int32)) O dX7_begin_8 (by decide) ?_
    refine go_icmp_ge (tgt := 27) O dX7_begin_10 (by decide) (fun hc5 => ?_) (fun hc5 => ?_)
    · replace hF := it_t hc5 hF
      refine go_perm (ls' := []) [] rfl ?_
      exact jn (P := fun q => Go X l rm_X7_begin (wC G) 3 27 [] [] q) hF hE
    · replace hF := it_f hc5 hF
      refine go_aload_n O dX7_begin_13 rfl 0 rfl ?_
      refine go_get (k := (26 + 2 * t)) (j := 0) O (lt9 hI (txt_lt ht)) (cv_txt G ht (S.1 (26 + 2 * t)) (S.2 (26 + 2 * t))) rfl in_X7_begin_X7 (by decide) fl_X7_begin_9 rfl rfl dX7_begin_14 ?_
      refine go_iload_n O dX7_begin_17 rfl 1 rfl ?_
      refine go_bipush (v := (32 : Int32)) O dX7_begin_18 (by decide) ?_
      obtain ⟨hb3, hF⟩ := chk_s hF
      obtain ⟨S4, eS4, hF⟩ := nm_s hF
      refine go_bast (k := (26 + 2 * t + 1)) O (lt9 hI (txt_lt1 ht)) (fun f => (cv_txtA G ht f (S.2 (26 + 2 * t + 1)))) (inB_in hb3) dX7_begin_20 eS4 ?_
      refine go_iinc (d := (1 : Int32)) (ls' := [(2, .int (p2 + (1 : Int32))), (0, .ref (G.2.1 (26 + 2 * t)))]) O dX7_begin_21 1 rfl (by decide) (by decide) rfl ?_
      refine go_goto (tgt := 7) O dX7_begin_24 (by decide) ?_
      refine go_perm (ls' := [(0, .ref (G.2.1 (26 + 2 * t))), (2, .int (p2 + (1 : Int32)))]) [1, 0] rfl ?_
      exact ih _ _ _ hF hE
def F_X7_begin (t : Nat) (S : Sg) (a1 : Int32) : Option Sg := nm (wI S (26 + 2 * t) 1 a1) (fun S1 => bd (T_X7_begin_7 t FU (0 : Int32) S1) (fun S2 => some S2))
set_option maxHeartbeats 4000000 in
set_option maxRecDepth 100000 in
theorem c_X7_begin (l : Launch) (G : Gp) (hI : Gd G) {t : Nat} (ht : t < 4) {S : Sg} {a1 : Int32} {S1 : Sg} (hF : F_X7_begin t S a1 = some S1) : Met l yX7_begin wsX7_begin rm_X7_begin (va_Pc [.ref (G.2.1 (26 + 2 * t)), .int a1] (PreW (wC G) S)) (va_Qv (fun u => u = S1) (PostW (wC G)) (AW (wC G))) 0 0 (AW (wC G)) := by
  rw [F_X7_begin] at hF
  refine met_v (cc := cX7_begin) (maxL := 3) (own := RX7) hI.1 (by decide) rfl rfl (Nat.le_of_ble_eq_true rfl) (fun X O hR => ?_)
  show Go X l rm_X7_begin (wC G) 3 0 [(0, .ref (G.2.1 (26 + 2 * t))), (1, .int a1)] [] S
  refine go_aload_n O dX7_begin_0 rfl 0 rfl ?_
  refine go_iload_n O dX7_begin_1 rfl 1 rfl ?_
  obtain ⟨S1, eS1, hF⟩ := nm_s hF
  refine go_putI (k := (26 + 2 * t)) (j := 1) O (lt9 hI (txt_lt ht)) (cv_txt G ht (S.1 (26 + 2 * t)) (S.2 (26 + 2 * t))) rfl in_X7_begin_X7 (by decide) fl_X7_begin_13 rfl tyX7 tyX7_ok nmX7 rfl (by decide +kernel) (Nat.le_of_ble_eq_true rfl) (cv_txt G ht (upd (S.1 (26 + 2 * t)) 1 a1) (S.2 (26 + 2 * t))) dX7_begin_2 eS1 ?_
  refine go_iconst (v := (0 : Int32)) O dX7_begin_5 (by decide) ?_
  refine go_istore_n (ls' := [(2, .int (0 : Int32)), (0, .ref (G.2.1 (26 + 2 * t))), (1, .int a1)]) O dX7_begin_6 rfl (by decide) rfl ?_
  refine go_perm (ls' := [(0, .ref (G.2.1 (26 + 2 * t))), (2, .int (0 : Int32))]) [1, 0] rfl ?_
  obtain ⟨S2, hA6, hF⟩ := bd_s hF
  refine lt_X7_begin_7 l G hI ht O _ _ _ _ hA6 ?_
  exact ret_v hF (hR _ _ dX7_begin_27)
