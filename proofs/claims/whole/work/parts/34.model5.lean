-- X9_keep
def rm_X9_keep : Room := { frames := 2, cells := 0, slots := 0, locals := 50 }
theorem fl_X9_keep_83 : Cond.fieldLink RX9 83 "PaperWallsModel" "isKept" "[Z" ∈ wsX9_keep := by decide +kernel
theorem fl_X9_keep_86 : Cond.fieldLink RX9 86 "PaperWallsModel" "kept" "[I" ∈ wsX9_keep := by decide +kernel
theorem fl_X9_keep_153 : Cond.fieldLink RX9 153 "PaperWallsModel" "people" "I" ∈ wsX9_keep := by decide +kernel
theorem fl_X9_keep_159 : Cond.fieldLink RX9 159 "PaperWallsModel" "hours" "I" ∈ wsX9_keep := by decide +kernel
theorem wd_X9_keep_c219 : Cond.constantLong RX9 219 (2) ∈ wsX9_keep := by decide +kernel
theorem in_X9_keep_X9 : ∀ x ∈ u_ws RX9 TX9 36, x ∈ wsX9_keep := by decide +kernel
def T_X9_keep_26   (p1 : Int32) : Nat → Int32 → Sg → Option (Sg)
  | 0, _, _ => none
  | n + 1, p2, S => if (488 : Int32) ≤ p2 then (some S) else (bd (F_X9_carried S p2 (0 : Int32) (0 : Int32)) (fun (x5, S6) => chk (inB (((488 : Int32) * p1) + p2) 1464) (nm (wI S6 26 (((488 : Int32) * p1) + p2).toNatClampNeg x5) (fun S8 => T_X9_keep_26 p1 n (p2 + (1 : Int32)) S8))))
set_option maxHeartbeats 4000000 in
set_option maxRecDepth 100000 in
theorem lt_X9_keep_26 {X : XT} (l : Launch) (G : Gp) (hI : Ij (wM G))   {p1 : Int32} (O : Ok X (wM G) cX9_keep RX9 wsX9_keep 3) : ∀ (n : Nat) (p2 : Int32) (S : Sg) (q : (Sg)), T_X9_keep_26 p1 n p2 S = some q → (Go X l rm_X9_keep (wM G) 3 58 [(0, .ref (G.2.1 0)), (1, .int p1)] [] q) → Go X l rm_X9_keep (wM G) 3 26 [(0, .ref (G.2.1 0)), (1, .int p1), (2, .int p2)] [] S := by
  intro n
  induction n with
  | zero =>
    intro p2 S q hF
    cases hF
  | succ n ih =>
    intro p2 S q hF hE
    rw [T_X9_keep_26] at hF
    refine go_iload_n O dX9_keep_26 rfl 2 rfl ?_
    refine go_sipush (v := (488 : Int32)) O dX9_keep_27 (by decide) ?_
    refine go_icmp_ge (tgt := 58) O dX9_keep_30 (by decide) (fun hc9 => ?_) (fun hc9 => ?_)
    · replace hF := it_t hc9 hF
      refine go_perm (ls' := [(0, .ref (G.2.1 0)), (1, .int p1)]) [0, 1] rfl ?_
      exact jn (P := fun q => Go X l rm_X9_keep (wM G) 3 58 [(0, .ref (G.2.1 0)), (1, .int p1)] [] q) hF hE
    · replace hF := it_f hc9 hF
      refine go_aload_n O dX9_keep_33 rfl 0 rfl ?_
      refine go_get (k := 0) (j := 34) O (by decide : (0 : Nat) < 27) (cm_obj G (S.1 0) (S.2 0)) rfl in_X9_keep_X9 (by decide) fl_X9_keep_86 rfl rfl dX9_keep_34 ?_
      refine go_sipush (v := (488 : Int32)) O dX9_keep_37 (by decide) ?_
      refine go_iload_n O dX9_keep_40 rfl 1 rfl ?_
      refine go_imul O dX9_keep_41 ?_
      refine go_iload_n O dX9_keep_42 rfl 2 rfl ?_
      refine go_iadd O dX9_keep_43 ?_
      refine go_aload_n O dX9_keep_44 rfl 0 rfl ?_
      refine go_iload_n O dX9_keep_45 rfl 2 rfl ?_
      refine go_iconst (v := (0 : Int32)) O dX9_keep_46 (by decide) ?_
      refine go_iconst (v := (0 : Int32)) O dX9_keep_47 (by decide) ?_
      obtain ⟨⟨x5, S6⟩, hA4, hF⟩ := bd_s hF
      refine go_callVi (As := [.int p2, .int (0 : Int32), .int (0 : Int32)]) (rest := [.int (((488 : Int32) * p1) + p2), .ref (G.2.1 26)]) (b := 0) O (c_X9_carried l G hI hA4) (fun s args hts => cwV 3 hts gX9_keep_X9_carried rfl rfl rfl (by decide +kernel) ⟨Nat.le_of_ble_eq_true rfl, Nat.le_of_ble_eq_true rfl⟩) (by decide : (0 : Nat) < 27) (cm_obj G (S.1 0) (S.2 0)) rfl rfl rfl rfl (Nat.le_of_ble_eq_true rfl) dX9_keep_48 ?_
      obtain ⟨hb7, hF⟩ := chk_s hF
      obtain ⟨S8, eS8, hF⟩ := nm_s hF
      refine go_iast (k := 26) O (by decide : (26 : Nat) < 27) (fun f => (cm_26 G f (S6.2 26))) (inB_in hb7) dX9_keep_51 eS8 ?_
      refine go_iinc (d := (1 : Int32)) (ls' := [(2, .int (p2 + (1 : Int32))), (0, .ref (G.2.1 0)), (1, .int p1)]) O dX9_keep_52 2 rfl (by decide) (by decide) rfl ?_
      refine go_goto (tgt := 26) O dX9_keep_55 (by decide) ?_
      refine go_perm (ls' := [(0, .ref (G.2.1 0)), (1, .int p1), (2, .int (p2 + (1 : Int32)))]) [1, 2, 0] rfl ?_
      exact ih _ _ _ hF hE
def F_X9_keep  (S : Sg) (a1 : Int32) : Option (Int32 × Sg) := bd (F_X9_in S (Int32.toInt64 a1) (0 : Int64) (2 : Int64)) (fun x2 => if x2 = 0 then (some ((-1 : Int32), S)) else (if (S.1 0 7) = 0 then (some ((-4 : Int32), S)) else (bd (T_X9_keep_26 a1 FU (0 : Int32) S) (fun S3 => chk (inB a1 3) (nm (wI S3 25 a1.toNatClampNeg (vp_nar .boolean (1 : Int32))) (fun S12 => some (S12.1 0 16, S12)))))))
set_option maxHeartbeats 4000000 in
set_option maxRecDepth 100000 in
theorem c_X9_keep (l : Launch) (G : Gp) (hI : Ij (wM G))  {S : Sg} {a1 : Int32} {r : Int32} {S1 : Sg} (hF : F_X9_keep S a1 = some (r, S1)) : Met l yX9_keep wsX9_keep rm_X9_keep (va_Pc [.ref (G.2.1 0), .int a1] (PreW (wM G) S)) (va_Qi (fun r' u => r' = r ∧ u = S1) (PostW (wM G)) (AW (wM G))) 0 0 (AW (wM G)) := by
  rw [F_X9_keep] at hF
  refine met_i (cc := cX9_keep) (maxL := 3) (own := RX9) hI (by decide) rfl rfl (Nat.le_of_ble_eq_true rfl) (fun X O hR => ?_)
  show Go X l rm_X9_keep (wM G) 3 0 [(0, .ref (G.2.1 0)), (1, .int a1)] [] S
  refine go_iload_n O dX9_keep_0 rfl 1 rfl ?_
  refine go_i2l (v := Int32.toInt64 a1) O dX9_keep_1 rfl ?_
  refine go_lconst (v := (0 : Int64)) O dX9_keep_2 (by decide) ?_
  refine go_ldc2 (v := (2 : Int64)) O dX9_keep_3 wd_X9_keep_c219 ?_
  obtain ⟨x2, hA1, hF⟩ := bd_s hF
  refine go_callSi (As := [.long (Int32.toInt64 a1), .long (0 : Int64), .long (2 : Int64)]) (rest := []) O (c_X9_in l G hI hA1) (fun s args hts => va_cwS 3 hts gX9_keep_X9_in rfl rfl rfl (by decide +kernel) ⟨Nat.le_of_ble_eq_true rfl, Nat.le_of_ble_eq_true rfl⟩) rfl rfl (Nat.le_of_ble_eq_true rfl) dX9_keep_6 ?_
  refine go_if_ne (tgt := 14) O dX9_keep_9 (by decide) (fun hc14 => ?_) (fun hc14 => ?_)
  · replace hF := it_f hc14 hF
    refine go_aload_n O dX9_keep_14 rfl 0 rfl ?_
    refine go_get (k := 0) (j := 7) O (by decide : (0 : Nat) < 27) (cm_obj G (S.1 0) (S.2 0)) rfl in_X9_keep_X9 (by decide) fl_X9_keep_153 rfl rfl dX9_keep_15 ?_
    refine go_if_ne (tgt := 24) O dX9_keep_18 (by decide) (fun hc13 => ?_) (fun hc13 => ?_)
    · replace hF := it_f hc13 hF
      refine go_iconst (v := (0 : Int32)) O dX9_keep_24 (by decide) ?_
      refine go_istore_n (ls' := [(2, .int (0 : Int32)), (0, .ref (G.2.1 0)), (1, .int a1)]) O dX9_keep_25 rfl (by decide) rfl ?_
      refine go_perm (ls' := [(0, .ref (G.2.1 0)), (1, .int a1), (2, .int (0 : Int32))]) [1, 2, 0] rfl ?_
      obtain ⟨S3, hA10, hF⟩ := bd_s hF
      refine lt_X9_keep_26 l G hI  O _ _ _ _ hA10 ?_
      refine go_aload_n O dX9_keep_58 rfl 0 rfl ?_
      refine go_get (k := 0) (j := 33) O (by decide : (0 : Nat) < 27) (cm_obj G (S3.1 0) (S3.2 0)) rfl in_X9_keep_X9 (by decide) fl_X9_keep_83 rfl rfl dX9_keep_59 ?_
      refine go_iload_n O dX9_keep_62 rfl 1 rfl ?_
      refine go_iconst (v := (1 : Int32)) O dX9_keep_63 (by decide) ?_
      obtain ⟨hb11, hF⟩ := chk_s hF
      obtain ⟨S12, eS12, hF⟩ := nm_s hF
      refine go_zast (k := 25) O (by decide : (25 : Nat) < 27) (fun f => (cm_25 G f (S3.2 25))) (inB_in hb11) dX9_keep_64 eS12 ?_
      refine go_aload_n O dX9_keep_65 rfl 0 rfl ?_
      refine go_get (k := 0) (j := 16) O (by decide : (0 : Nat) < 27) (cm_obj G (S12.1 0) (S12.2 0)) rfl in_X9_keep_X9 (by decide) fl_X9_keep_159 rfl rfl dX9_keep_66 ?_
      exact ret_wi hF (hR _ _ dX9_keep_69)
    · replace hF := it_t hc13 hF
      refine go_bipush (v := (-4 : Int32)) O dX9_keep_21 (by decide) ?_
      exact ret_wi hF (hR _ _ dX9_keep_23)
  · replace hF := it_t hc14 hF
    refine go_iconst (v := (-1 : Int32)) O dX9_keep_12 (by decide) ?_
    exact ret_wi hF (hR _ _ dX9_keep_13)
-- X9_on
def rm_X9_on : Room := { frames := 2, cells := 0, slots := 0, locals := 50 }
theorem fl_X9_on_83 : Cond.fieldLink RX9 83 "PaperWallsModel" "isKept" "[Z" ∈ wsX9_on := by decide +kernel
theorem fl_X9_on_86 : Cond.fieldLink RX9 86 "PaperWallsModel" "kept" "[I" ∈ wsX9_on := by decide +kernel
theorem fl_X9_on_159 : Cond.fieldLink RX9 159 "PaperWallsModel" "hours" "I" ∈ wsX9_on := by decide +kernel
theorem wd_X9_on_c219 : Cond.constantLong RX9 219 (2) ∈ wsX9_on := by decide +kernel
theorem in_X9_on_X9 : ∀ x ∈ u_ws RX9 TX9 36, x ∈ wsX9_on := by decide +kernel
def T_X9_on_31   (p1 : Int32) : Nat → Int32 → Sg → Option (Sg)
  | 0, _, _ => none
  | n + 1, p2, S => if (488 : Int32) ≤ p2 then (some S) else (chk (inB (((488 : Int32) * p1) + p2) 1464) (bd (F_X9_carried S p2 (S.1 26 (((488 : Int32) * p1) + p2).toNatClampNeg) (1 : Int32)) (fun (x7, S8) => T_X9_on_31 p1 n (p2 + (1 : Int32)) S8)))
set_option maxHeartbeats 4000000 in
set_option maxRecDepth 100000 in
theorem lt_X9_on_31 {X : XT} (l : Launch) (G : Gp) (hI : Ij (wM G))   {p1 : Int32} (O : Ok X (wM G) cX9_on RX9 wsX9_on 3) : ∀ (n : Nat) (p2 : Int32) (S : Sg) (q : (Sg)), T_X9_on_31 p1 n p2 S = some q → (Go X l rm_X9_on (wM G) 3 63 [(0, .ref (G.2.1 0))] [] q) → Go X l rm_X9_on (wM G) 3 31 [(0, .ref (G.2.1 0)), (1, .int p1), (2, .int p2)] [] S := by
  intro n
  induction n with
  | zero =>
    intro p2 S q hF
    cases hF
  | succ n ih =>
    intro p2 S q hF hE
    rw [T_X9_on_31] at hF
    refine go_iload_n O dX9_on_31 rfl 2 rfl ?_
    refine go_sipush (v := (488 : Int32)) O dX9_on_32 (by decide) ?_
    refine go_icmp_ge (tgt := 63) O dX9_on_35 (by decide) (fun hc9 => ?_) (fun hc9 => ?_)
    · replace hF := it_t hc9 hF
      refine go_perm (ls' := [(0, .ref (G.2.1 0))]) [0] rfl ?_
      exact jn (P := fun q => Go X l rm_X9_on (wM G) 3 63 [(0, .ref (G.2.1 0))] [] q) hF hE
    · replace hF := it_f hc9 hF
      refine go_aload_n O dX9_on_38 rfl 0 rfl ?_
      refine go_iload_n O dX9_on_39 rfl 2 rfl ?_
      refine go_aload_n O dX9_on_40 rfl 0 rfl ?_
      refine go_get (k := 0) (j := 34) O (by decide : (0 : Nat) < 27) (cm_obj G (S.1 0) (S.2 0)) rfl in_X9_on_X9 (by decide) fl_X9_on_86 rfl rfl dX9_on_41 ?_
      refine go_sipush (v := (488 : Int32)) O dX9_on_44 (by decide) ?_
      refine go_iload_n O dX9_on_47 rfl 1 rfl ?_
      refine go_imul O dX9_on_48 ?_
      refine go_iload_n O dX9_on_49 rfl 2 rfl ?_
      refine go_iadd O dX9_on_50 ?_
      obtain ⟨hb5, hF⟩ := chk_s hF
      refine go_iald (k := 26) O (by decide : (26 : Nat) < 27) (cm_26 G (S.1 26) (S.2 26)) (inB_in hb5) dX9_on_51 ?_
      refine go_iconst (v := (1 : Int32)) O dX9_on_52 (by decide) ?_
      obtain ⟨⟨x7, S8⟩, hA6, hF⟩ := bd_s hF
      refine go_callVi (As := [.int p2, .int (S.1 26 (((488 : Int32) * p1) + p2).toNatClampNeg), .int (1 : Int32)]) (rest := []) (b := 0) O (c_X9_carried l G hI hA6) (fun s args hts => cwV 3 hts gX9_on_X9_carried rfl rfl rfl (by decide +kernel) ⟨Nat.le_of_ble_eq_true rfl, Nat.le_of_ble_eq_true rfl⟩) (by decide : (0 : Nat) < 27) (cm_obj G (S.1 0) (S.2 0)) rfl rfl rfl rfl (Nat.le_of_ble_eq_true rfl) dX9_on_53 ?_
      refine go_pop O dX9_on_56 rfl ?_
      refine go_iinc (d := (1 : Int32)) (ls' := [(2, .int (p2 + (1 : Int32))), (0, .ref (G.2.1 0)), (1, .int p1)]) O dX9_on_57 2 rfl (by decide) (by decide) rfl ?_
      refine go_goto (tgt := 31) O dX9_on_60 (by decide) ?_
      refine go_perm (ls' := [(0, .ref (G.2.1 0)), (1, .int p1), (2, .int (p2 + (1 : Int32)))]) [1, 2, 0] rfl ?_
      exact ih _ _ _ hF hE
def F_X9_on  (S : Sg) (a1 : Int32) : Option (Int32 × Sg) := bd (F_X9_in S (Int32.toInt64 a1) (0 : Int64) (2 : Int64)) (fun x2 => if x2 = 0 then (some ((-1 : Int32), S)) else (chk (inB a1 3) (if (S.1 25 a1.toNatClampNeg) = 0 then (bd (F_X9_find S (1 : Int32)) (fun (x12, S13) => some (x12, S13))) else (bd (T_X9_on_31 a1 FU (0 : Int32) S) (fun S4 => some (S4.1 0 16, S4))))))
set_option maxHeartbeats 4000000 in
set_option maxRecDepth 100000 in
theorem c_X9_on (l : Launch) (G : Gp) (hI : Ij (wM G))  {S : Sg} {a1 : Int32} {r : Int32} {S1 : Sg} (hF : F_X9_on S a1 = some (r, S1)) : Met l yX9_on wsX9_on rm_X9_on (va_Pc [.ref (G.2.1 0), .int a1] (PreW (wM G) S)) (va_Qi (fun r' u => r' = r ∧ u = S1) (PostW (wM G)) (AW (wM G))) 0 0 (AW (wM G)) := by
  rw [F_X9_on] at hF
  refine met_i (cc := cX9_on) (maxL := 3) (own := RX9) hI (by decide) rfl rfl (Nat.le_of_ble_eq_true rfl) (fun X O hR => ?_)
  show Go X l rm_X9_on (wM G) 3 0 [(0, .ref (G.2.1 0)), (1, .int a1)] [] S
  refine go_iload_n O dX9_on_0 rfl 1 rfl ?_
  refine go_i2l (v := Int32.toInt64 a1) O dX9_on_1 rfl ?_
  refine go_lconst (v := (0 : Int64)) O dX9_on_2 (by decide) ?_
  refine go_ldc2 (v := (2 : Int64)) O dX9_on_3 wd_X9_on_c219 ?_
  obtain ⟨x2, hA1, hF⟩ := bd_s hF
  refine go_callSi (As := [.long (Int32.toInt64 a1), .long (0 : Int64), .long (2 : Int64)]) (rest := []) O (c_X9_in l G hI hA1) (fun s args hts => va_cwS 3 hts gX9_on_X9_in rfl rfl rfl (by decide +kernel) ⟨Nat.le_of_ble_eq_true rfl, Nat.le_of_ble_eq_true rfl⟩) rfl rfl (Nat.le_of_ble_eq_true rfl) dX9_on_6 ?_
  refine go_if_ne (tgt := 14) O dX9_on_9 (by decide) (fun hc15 => ?_) (fun hc15 => ?_)
  · replace hF := it_f hc15 hF
    refine go_aload_n O dX9_on_14 rfl 0 rfl ?_
    refine go_get (k := 0) (j := 33) O (by decide : (0 : Nat) < 27) (cm_obj G (S.1 0) (S.2 0)) rfl in_X9_on_X9 (by decide) fl_X9_on_83 rfl rfl dX9_on_15 ?_
    refine go_iload_n O dX9_on_18 rfl 1 rfl ?_
    obtain ⟨hb3, hF⟩ := chk_s hF
    refine go_zald (k := 25) O (by decide : (25 : Nat) < 27) (cm_25 G (S.1 25) (S.2 25)) (inB_in hb3) dX9_on_19 ?_
    refine go_if_ne (tgt := 29) O dX9_on_20 (by decide) (fun hc14 => ?_) (fun hc14 => ?_)
    · replace hF := it_f hc14 hF
      refine go_iconst (v := (0 : Int32)) O dX9_on_29 (by decide) ?_
      refine go_istore_n (ls' := [(2, .int (0 : Int32)), (0, .ref (G.2.1 0)), (1, .int a1)]) O dX9_on_30 rfl (by decide) rfl ?_
      refine go_perm (ls' := [(0, .ref (G.2.1 0)), (1, .int a1), (2, .int (0 : Int32))]) [1, 2, 0] rfl ?_
      obtain ⟨S4, hA10, hF⟩ := bd_s hF
      refine lt_X9_on_31 l G hI  O _ _ _ _ hA10 ?_
      refine go_aload_n O dX9_on_63 rfl 0 rfl ?_
      refine go_get (k := 0) (j := 16) O (by decide : (0 : Nat) < 27) (cm_obj G (S4.1 0) (S4.2 0)) rfl in_X9_on_X9 (by decide) fl_X9_on_159 rfl rfl dX9_on_64 ?_
      exact ret_wi hF (hR _ _ dX9_on_67)
    · replace hF := it_t hc14 hF
      refine go_aload_n O dX9_on_23 rfl 0 rfl ?_
      refine go_iconst (v := (1 : Int32)) O dX9_on_24 (by decide) ?_
      obtain ⟨⟨x12, S13⟩, hA11, hF⟩ := bd_s hF
      refine go_callVi (As := [.int (1 : Int32)]) (rest := []) (b := 0) O (c_X9_find l G hI hA11) (fun s args hts => cwV 1 hts gX9_on_X9_find rfl rfl rfl (by decide +kernel) ⟨Nat.le_of_ble_eq_true rfl, Nat.le_of_ble_eq_true rfl⟩) (by decide : (0 : Nat) < 27) (cm_obj G (S.1 0) (S.2 0)) rfl rfl rfl rfl (Nat.le_of_ble_eq_true rfl) dX9_on_25 ?_
      exact ret_wi hF (hR _ _ dX9_on_28)
  · replace hF := it_t hc15 hF
    refine go_iconst (v := (-1 : Int32)) O dX9_on_12 (by decide) ?_
    exact ret_wi hF (hR _ _ dX9_on_13)
-- X9_nights
def rm_X9_nights : Room := { frames := 5, cells := 0, slots := 0, locals := 115 }
theorem fl_X9_nights_153 : Cond.fieldLink RX9 153 "PaperWallsModel" "people" "I" ∈ wsX9_nights := by decide +kernel
theorem wd_X9_nights_c266 : Cond.constantLong RX9 266 (60) ∈ wsX9_nights := by decide +kernel
theorem wd_X9_nights_c268 : Cond.constantLong RX9 268 (2147483646) ∈ wsX9_nights := by decide +kernel
theorem wd_X9_nights_c270 : Cond.constantLong RX9 270 (48271) ∈ wsX9_nights := by decide +kernel
theorem wd_X9_nights_c272 : Cond.constantLong RX9 272 (2147483647) ∈ wsX9_nights := by decide +kernel
theorem in_X9_nights_X9 : ∀ x ∈ u_ws RX9 TX9 36, x ∈ wsX9_nights := by decide +kernel
def T_X9_nights_59  (S : Sg) (p1 : Int32) (p2 : Int32) : Nat → Int64 → Int32 → Int32 → Int32 → Option (Int32 × Int32)
  | 0, _, _, _, _ => none
  | n + 1, p5, p7, p8, p9 => if p2 ≤ p9 then (some (p7, p8)) else (nm ((p5 * (48271 : Int64)) - (p5 * (48271 : Int64)) / (2147483647 : Int64) * (2147483647 : Int64)) (fun x11 => chk (nzJ (Int32.toInt64 (S.1 0 7))) (nm (Int64.toInt32 (x11 - x11 / (Int32.toInt64 (S.1 0 7)) * (Int32.toInt64 (S.1 0 7)))) (fun x13 => bd (F_X9_isSafe S p1 ((1 : Int32) <<< (x13 &&& 31))) (fun x15 => bd (if x15 = 0 then (some (0 : Int32)) else (some (1 : Int32))) (fun x16 => nm (p7 + x16) (fun x20 => bd (if x15 = 0 then (some p8) else (some x13)) (fun x21 => T_X9_nights_59 S p1 p2 n x11 x20 x21 (p9 + (1 : Int32))))))))))
set_option maxHeartbeats 4000000 in
set_option maxRecDepth 100000 in
theorem lt_X9_nights_59 {X : XT} (l : Launch) (G : Gp) (hI : Ij (wM G))  {S : Sg} {p1 : Int32} {p2 : Int32} (O : Ok X (wM G) cX9_nights RX9 wsX9_nights 12) : ∀ (n : Nat) (p5 : Int64) (p7 : Int32) (p8 : Int32) (p9 : Int32)  (q : (Int32 × Int32)), T_X9_nights_59 S p1 p2 n p5 p7 p8 p9  = some q → (Go X l rm_X9_nights (wM G) 12 134 [(0, .ref (G.2.1 0)), (7, .int q.1), (8, .int q.2)] [] S) → Go X l rm_X9_nights (wM G) 12 59 [(0, .ref (G.2.1 0)), (1, .int p1), (2, .int p2), (5, .long p5), (7, .int p7), (8, .int p8), (9, .int p9)] [] S := by
  intro n
  induction n with
  | zero =>
    intro p5 p7 p8 p9  q hF
    cases hF
  | succ n ih =>
    intro p5 p7 p8 p9  q hF hE
    rw [T_X9_nights_59] at hF
    refine go_iload O dX9_nights_59 6 rfl ?_
    refine go_iload_n O dX9_nights_61 rfl 2 rfl ?_
    refine go_icmp_ge (tgt := 134) O dX9_nights_62 (by decide) (fun hc25 => ?_) (fun hc25 => ?_)
    · replace hF := it_t hc25 hF
      refine go_perm (ls' := [(0, .ref (G.2.1 0)), (7, .int p7), (8, .int p8)]) [0, 4, 5] rfl ?_
      exact jn (P := fun q => Go X l rm_X9_nights (wM G) 12 134 [(0, .ref (G.2.1 0)), (7, .int q.1), (8, .int q.2)] [] S) hF hE
    · replace hF := it_f hc25 hF
      refine go_lload O dX9_nights_65 3 rfl ?_
      refine go_ldc2 (v := (48271 : Int64)) O dX9_nights_67 wd_X9_nights_c270 ?_
      refine go_lmul O dX9_nights_70 ?_
      refine go_ldc2 (v := (2147483647 : Int64)) O dX9_nights_71 wd_X9_nights_c272 ?_
      refine go_lrem O dX9_nights_74 (by decide) ?_
      obtain ⟨x11, ex11, hF⟩ := nm_s hF
      refine go_topl ex11 ?_
      refine go_lstore (ls' := [(5, .long x11), (0, .ref (G.2.1 0)), (1, .int p1), (2, .int p2), (7, .int p7), (8, .int p8), (9, .int p9)]) O dX9_nights_75 (by decide) rfl ?_
      refine go_lload O dX9_nights_77 0 rfl ?_
      refine go_aload_n O dX9_nights_79 rfl 1 rfl ?_
      refine go_get (k := 0) (j := 7) O (by decide : (0 : Nat) < 27) (cm_obj G (S.1 0) (S.2 0)) rfl in_X9_nights_X9 (by decide) fl_X9_nights_153 rfl rfl dX9_nights_80 ?_
      refine go_i2l (v := Int32.toInt64 (S.1 0 7)) O dX9_nights_83 rfl ?_
      obtain ⟨hz12, hF⟩ := chk_s hF
      refine go_lrem O dX9_nights_84 (nzJ_s hz12) ?_
      refine go_l2i (v := Int64.toInt32 (x11 - x11 / (Int32.toInt64 (S.1 0 7)) * (Int32.toInt64 (S.1 0 7)))) O dX9_nights_85 rfl ?_
      obtain ⟨x13, ex13, hF⟩ := nm_s hF
      refine go_topi ex13 ?_
      refine go_istore (ls' := [(10, .int x13), (5, .long x11), (0, .ref (G.2.1 0)), (1, .int p1), (2, .int p2), (7, .int p7), (8, .int p8), (9, .int p9)]) O dX9_nights_86 (by decide) rfl ?_
      refine go_aload_n O dX9_nights_88 rfl 2 rfl ?_
      refine go_iload_n O dX9_nights_89 rfl 3 rfl ?_
      refine go_iconst (v := (1 : Int32)) O dX9_nights_90 (by decide) ?_
      refine go_iload O dX9_nights_91 0 rfl ?_
      refine go_ishl O dX9_nights_93 ?_
      obtain ⟨x15, hA14, hF⟩ := bd_s hF
      refine go_callVi (As := [.int p1, .int ((1 : Int32) <<< (x13 &&& 31))]) (rest := []) (b := 0) O (c_X9_isSafe l G hI hA14) (fun s args hts => cwV 2 hts gX9_nights_X9_isSafe rfl rfl rfl (by decide +kernel) ⟨Nat.le_of_ble_eq_true rfl, Nat.le_of_ble_eq_true rfl⟩) (by decide : (0 : Nat) < 27) (cm_obj G (S.1 0) (S.2 0)) rfl rfl rfl rfl (Nat.le_of_ble_eq_true rfl) dX9_nights_94 ?_
      refine go_istore (ls' := [(11, .int x15), (10, .int x13), (5, .long x11), (0, .ref (G.2.1 0)), (1, .int p1), (2, .int p2), (7, .int p7), (8, .int p8), (9, .int p9)]) O dX9_nights_97 (by decide) rfl ?_
      refine go_iload O dX9_nights_99 6 rfl ?_
      refine go_iload O dX9_nights_101 0 rfl ?_
      obtain ⟨x16, hA18, hF⟩ := bd_s hF
      have J17 : Go X l rm_X9_nights (wM G) 12 111 [(0, .ref (G.2.1 0)), (1, .int p1), (2, .int p2), (5, .long x11), (8, .int p8), (9, .int p9), (10, .int x13), (11, .int x15)] [.int x16, .int p7] S := by
        refine go_iadd O dX9_nights_111 ?_
        obtain ⟨x20, ex20, hF⟩ := nm_s hF
        refine go_topi ex20 ?_
        refine go_istore (ls' := [(7, .int x20), (0, .ref (G.2.1 0)), (1, .int p1), (2, .int p2), (5, .long x11), (8, .int p8), (9, .int p9), (10, .int x13), (11, .int x15)]) O dX9_nights_112 (by decide) rfl ?_
        refine go_iload O dX9_nights_114 8 rfl ?_
        obtain ⟨x21, hA23, hF⟩ := bd_s hF
        have J22 : Go X l rm_X9_nights (wM G) 12 126 [(0, .ref (G.2.1 0)), (1, .int p1), (2, .int p2), (5, .long x11), (7, .int x20), (9, .int p9)] [.int x21] S := by
          refine go_istore (ls' := [(8, .int x21), (0, .ref (G.2.1 0)), (1, .int p1), (2, .int p2), (5, .long x11), (7, .int x20), (9, .int p9)]) O dX9_nights_126 (by decide) rfl ?_
          refine go_iinc (d := (1 : Int32)) (ls' := [(9, .int (p9 + (1 : Int32))), (8, .int x21), (0, .ref (G.2.1 0)), (1, .int p1), (2, .int p2), (5, .long x11), (7, .int x20)]) O dX9_nights_128 6 rfl (by decide) (by decide) rfl ?_
          refine go_goto (tgt := 59) O dX9_nights_131 (by decide) ?_
          refine go_perm (ls' := [(0, .ref (G.2.1 0)), (1, .int p1), (2, .int p2), (5, .long x11), (7, .int x20), (8, .int x21), (9, .int (p9 + (1 : Int32)))]) [2, 3, 4, 5, 6, 1, 0] rfl ?_
          exact ih _ _ _ _ _ hF hE
        replace hF := hA23
        refine go_if_eq (tgt := 124) O dX9_nights_116 (by decide) (fun hc24 => ?_) (fun hc24 => ?_)
        · replace hF := it_t hc24 hF
          refine go_iload O dX9_nights_124 5 rfl ?_
          refine go_perm (ls' := [(0, .ref (G.2.1 0)), (1, .int p1), (2, .int p2), (5, .long x11), (7, .int x20), (9, .int p9)]) [1, 2, 3, 4, 0, 6] rfl ?_
          exact jn (P := fun q => Go X l rm_X9_nights (wM G) 12 126 [(0, .ref (G.2.1 0)), (1, .int p1), (2, .int p2), (5, .long x11), (7, .int x20), (9, .int p9)] [.int q] S) hF J22
        · replace hF := it_f hc24 hF
          refine go_iload O dX9_nights_119 7 rfl ?_
          refine go_goto (tgt := 126) O dX9_nights_121 (by decide) ?_
          refine go_perm (ls' := [(0, .ref (G.2.1 0)), (1, .int p1), (2, .int p2), (5, .long x11), (7, .int x20), (9, .int p9)]) [1, 2, 3, 4, 0, 6] rfl ?_
          exact jn (P := fun q => Go X l rm_X9_nights (wM G) 12 126 [(0, .ref (G.2.1 0)), (1, .int p1), (2, .int p2), (5, .long x11), (7, .int x20), (9, .int p9)] [.int q] S) hF J22
      replace hF := hA18
      refine go_if_eq (tgt := 110) O dX9_nights_103 (by decide) (fun hc19 => ?_) (fun hc19 => ?_)
      · replace hF := it_t hc19 hF
        refine go_iconst (v := (0 : Int32)) O dX9_nights_110 (by decide) ?_
        refine go_perm (ls' := [(0, .ref (G.2.1 0)), (1, .int p1), (2, .int p2), (5, .long x11), (8, .int p8), (9, .int p9), (10, .int x13), (11, .int x15)]) [3, 4, 5, 2, 7, 8, 1, 0] rfl ?_
        exact jn (P := fun q => Go X l rm_X9_nights (wM G) 12 111 [(0, .ref (G.2.1 0)), (1, .int p1), (2, .int p2), (5, .long x11), (8, .int p8), (9, .int p9), (10, .int x13), (11, .int x15)] [.int q, .int p7] S) hF J17
      · replace hF := it_f hc19 hF
        refine go_iconst (v := (1 : Int32)) O dX9_nights_106 (by decide) ?_
        refine go_goto (tgt := 111) O dX9_nights_107 (by decide) ?_
        refine go_perm (ls' := [(0, .ref (G.2.1 0)), (1, .int p1), (2, .int p2), (5, .long x11), (8, .int p8), (9, .int p9), (10, .int x13), (11, .int x15)]) [3, 4, 5, 2, 7, 8, 1, 0] rfl ?_
        exact jn (P := fun q => Go X l rm_X9_nights (wM G) 12 111 [(0, .ref (G.2.1 0)), (1, .int p1), (2, .int p2), (5, .long x11), (8, .int p8), (9, .int p9), (10, .int x13), (11, .int x15)] [.int q, .int p7] S) hF J17
def F_X9_nights  (S : Sg) (a1 : Int32) (a2 : Int32) (a3 : Int32) : Option (Int32 × Sg) := if a1 < 0 then (some ((-1 : Int32), S)) else (bd (F_X9_in S (Int32.toInt64 a2) (1 : Int64) (60 : Int64)) (fun x2 => if x2 = 0 then (some ((-1 : Int32), S)) else (bd (F_X9_in S (Int32.toInt64 a3) (1 : Int64) (2147483646 : Int64)) (fun x4 => if x4 = 0 then (some ((-1 : Int32), S)) else (bd (F_X9_lacksTalk S a1) (fun (x6, S7) => if 0 ≤ x6 then (nm (Int32.toInt64 a3) (fun x8 => bd (T_X9_nights_59 S7 a1 a2 FU x8 (0 : Int32) (-9 : Int32) (0 : Int32)) (fun (x9, x10) => bd (F_X9_say S7 x9 x10) (fun (x28, S29) => some (x28, S29))))) else (some (x6, S7))))))))
set_option maxHeartbeats 4000000 in
set_option maxRecDepth 100000 in
theorem c_X9_nights (l : Launch) (G : Gp) (hI : Ij (wM G))  {S : Sg} {a1 : Int32} {a2 : Int32} {a3 : Int32} {r : Int32} {S1 : Sg} (hF : F_X9_nights S a1 a2 a3 = some (r, S1)) : Met l yX9_nights wsX9_nights rm_X9_nights (va_Pc [.ref (G.2.1 0), .int a1, .int a2, .int a3] (PreW (wM G) S)) (va_Qi (fun r' u => r' = r ∧ u = S1) (PostW (wM G)) (AW (wM G))) 0 0 (AW (wM G)) := by
  rw [F_X9_nights] at hF
  refine met_i (cc := cX9_nights) (maxL := 12) (own := RX9) hI (by decide) rfl rfl (Nat.le_of_ble_eq_true rfl) (fun X O hR => ?_)
  show Go X l rm_X9_nights (wM G) 12 0 [(0, .ref (G.2.1 0)), (1, .int a1), (2, .int a2), (3, .int a3)] [] S
  refine go_iload_n O dX9_nights_0 rfl 1 rfl ?_
  refine go_if_lt (tgt := 28) O dX9_nights_1 (by decide) (fun hc33 => ?_) (fun hc33 => ?_)
  · replace hF := it_t hc33 hF
    refine go_iconst (v := (-1 : Int32)) O dX9_nights_28 (by decide) ?_
    exact ret_wi hF (hR _ _ dX9_nights_29)
  · replace hF := it_f hc33 hF
    refine go_iload_n O dX9_nights_4 rfl 2 rfl ?_
    refine go_i2l (v := Int32.toInt64 a2) O dX9_nights_5 rfl ?_
    refine go_lconst (v := (1 : Int64)) O dX9_nights_6 (by decide) ?_
    refine go_ldc2 (v := (60 : Int64)) O dX9_nights_7 wd_X9_nights_c266 ?_
    obtain ⟨x2, hA1, hF⟩ := bd_s hF
    refine go_callSi (As := [.long (Int32.toInt64 a2), .long (1 : Int64), .long (60 : Int64)]) (rest := []) O (c_X9_in l G hI hA1) (fun s args hts => va_cwS 3 hts gX9_nights_X9_in rfl rfl rfl (by decide +kernel) ⟨Nat.le_of_ble_eq_true rfl, Nat.le_of_ble_eq_true rfl⟩) rfl rfl (Nat.le_of_ble_eq_true rfl) dX9_nights_10 ?_
    refine go_if_eq (tgt := 28) O dX9_nights_13 (by decide) (fun hc32 => ?_) (fun hc32 => ?_)
    · replace hF := it_t hc32 hF
      refine go_iconst (v := (-1 : Int32)) O dX9_nights_28 (by decide) ?_
      exact ret_wi hF (hR _ _ dX9_nights_29)
    · replace hF := it_f hc32 hF
      refine go_iload_n O dX9_nights_16 rfl 3 rfl ?_
      refine go_i2l (v := Int32.toInt64 a3) O dX9_nights_17 rfl ?_
      refine go_lconst (v := (1 : Int64)) O dX9_nights_18 (by decide) ?_
      refine go_ldc2 (v := (2147483646 : Int64)) O dX9_nights_19 wd_X9_nights_c268 ?_
      obtain ⟨x4, hA3, hF⟩ := bd_s hF
      refine go_callSi (As := [.long (Int32.toInt64 a3), .long (1 : Int64), .long (2147483646 : Int64)]) (rest := []) O (c_X9_in l G hI hA3) (fun s args hts => va_cwS 3 hts gX9_nights_X9_in rfl rfl rfl (by decide +kernel) ⟨Nat.le_of_ble_eq_true rfl, Nat.le_of_ble_eq_true rfl⟩) rfl rfl (Nat.le_of_ble_eq_true rfl) dX9_nights_22 ?_
      refine go_if_ne (tgt := 30) O dX9_nights_25 (by decide) (fun hc31 => ?_) (fun hc31 => ?_)
      · replace hF := it_f hc31 hF
        refine go_aload_n O dX9_nights_30 rfl 0 rfl ?_
        refine go_iload_n O dX9_nights_31 rfl 1 rfl ?_
        obtain ⟨⟨x6, S7⟩, hA5, hF⟩ := bd_s hF
        refine go_callVi (As := [.int a1]) (rest := []) (b := 0) O (c_X9_lacksTalk l G hI hA5) (fun s args hts => cwV 1 hts gX9_nights_X9_lacksTalk rfl rfl rfl (by decide +kernel) ⟨Nat.le_of_ble_eq_true rfl, Nat.le_of_ble_eq_true rfl⟩) (by decide : (0 : Nat) < 27) (cm_obj G (S.1 0) (S.2 0)) rfl rfl rfl rfl (Nat.le_of_ble_eq_true rfl) dX9_nights_32 ?_
        refine go_istore (ls' := [(4, .int x6), (0, .ref (G.2.1 0)), (1, .int a1), (2, .int a2), (3, .int a3)]) O dX9_nights_35 (by decide) rfl ?_
        refine go_iload O dX9_nights_37 0 rfl ?_
        refine go_if_ge (tgt := 45) O dX9_nights_39 (by decide) (fun hc30 => ?_) (fun hc30 => ?_)
        · replace hF := it_t hc30 hF
          refine go_iload_n O dX9_nights_45 rfl 4 rfl ?_
          refine go_i2l (v := Int32.toInt64 a3) O dX9_nights_46 rfl ?_
          obtain ⟨x8, ex8, hF⟩ := nm_s hF
          refine go_topl ex8 ?_
          refine go_lstore (ls' := [(5, .long x8), (4, .int x6), (0, .ref (G.2.1 0)), (1, .int a1), (2, .int a2), (3, .int a3)]) O dX9_nights_47 (by decide) rfl ?_
          refine go_iconst (v := (0 : Int32)) O dX9_nights_49 (by decide) ?_
          refine go_istore (ls' := [(7, .int (0 : Int32)), (5, .long x8), (4, .int x6), (0, .ref (G.2.1 0)), (1, .int a1), (2, .int a2), (3, .int a3)]) O dX9_nights_50 (by decide) rfl ?_
          refine go_bipush (v := (-9 : Int32)) O dX9_nights_52 (by decide) ?_
          refine go_istore (ls' := [(8, .int (-9 : Int32)), (7, .int (0 : Int32)), (5, .long x8), (4, .int x6), (0, .ref (G.2.1 0)), (1, .int a1), (2, .int a2), (3, .int a3)]) O dX9_nights_54 (by decide) rfl ?_
          refine go_iconst (v := (0 : Int32)) O dX9_nights_56 (by decide) ?_
          refine go_istore (ls' := [(9, .int (0 : Int32)), (8, .int (-9 : Int32)), (7, .int (0 : Int32)), (5, .long x8), (4, .int x6), (0, .ref (G.2.1 0)), (1, .int a1), (2, .int a2), (3, .int a3)]) O dX9_nights_57 (by decide) rfl ?_
          refine go_perm (ls' := [(0, .ref (G.2.1 0)), (1, .int a1), (2, .int a2), (5, .long x8), (7, .int (0 : Int32)), (8, .int (-9 : Int32)), (9, .int (0 : Int32))]) [5, 6, 7, 3, 2, 1, 0] rfl ?_
          obtain ⟨⟨x9, x10⟩, hA26, hF⟩ := bd_s hF
          refine lt_X9_nights_59 l G hI  O _ _ _ _ _ _ hA26 ?_
          refine go_aload_n O dX9_nights_134 rfl 0 rfl ?_
          refine go_iload O dX9_nights_135 1 rfl ?_
          refine go_iload O dX9_nights_137 2 rfl ?_
          obtain ⟨⟨x28, S29⟩, hA27, hF⟩ := bd_s hF
          refine go_callVi (As := [.int x9, .int x10]) (rest := []) (b := 0) O (c_X9_say l G hI hA27) (fun s args hts => cwV 2 hts gX9_nights_X9_say rfl rfl rfl (by decide +kernel) ⟨Nat.le_of_ble_eq_true rfl, Nat.le_of_ble_eq_true rfl⟩) (by decide : (0 : Nat) < 27) (cm_obj G (S7.1 0) (S7.2 0)) rfl rfl rfl rfl (Nat.le_of_ble_eq_true rfl) dX9_nights_139 ?_
          exact ret_wi hF (hR _ _ dX9_nights_142)
        · replace hF := it_f hc30 hF
          refine go_iload O dX9_nights_42 0 rfl ?_
          exact ret_wi hF (hR _ _ dX9_nights_44)
      · replace hF := it_t hc31 hF
        refine go_iconst (v := (-1 : Int32)) O dX9_nights_28 (by decide) ?_
        exact ret_wi hF (hR _ _ dX9_nights_29)
-- X9_asked
def rm_X9_asked : Room := { frames := 0, cells := 0, slots := 0, locals := 0 }
theorem fl_X9_asked_93 : Cond.fieldLink RX9 93 "PaperWallsModel" "told" "I" ∈ wsX9_asked := by decide +kernel
theorem in_X9_asked_X9 : ∀ x ∈ u_ws RX9 TX9 36, x ∈ wsX9_asked := by decide +kernel
def F_X9_asked  (S : Sg)  : Option Int32 := some (S.1 0 17)
set_option maxHeartbeats 4000000 in
set_option maxRecDepth 100000 in
theorem c_X9_asked (l : Launch) (G : Gp) (hI : Ij (wM G))  {S : Sg} {r : Int32} (hF : F_X9_asked S = some r) : Met l yX9_asked wsX9_asked rm_X9_asked (va_Pc [.ref (G.2.1 0)] (PreW (wM G) S)) (va_Qi (fun r' u => r' = r ∧ u = S) (PostW (wM G)) (AW (wM G))) 0 0 (AW (wM G)) := by
  rw [F_X9_asked] at hF
  refine met_i (cc := cX9_asked) (maxL := 1) (own := RX9) hI (by decide) rfl rfl (Nat.le_of_ble_eq_true rfl) (fun X O hR => ?_)
  show Go X l rm_X9_asked (wM G) 1 0 [(0, .ref (G.2.1 0))] [] S
  refine go_aload_n O dX9_asked_0 rfl 0 rfl ?_
  refine go_get (k := 0) (j := 17) O (by decide : (0 : Nat) < 27) (cm_obj G (S.1 0) (S.2 0)) rfl in_X9_asked_X9 (by decide) fl_X9_asked_93 rfl rfl dX9_asked_1 ?_
  exact ret_i hF (hR _ _ dX9_asked_4)
-- X9_common
def rm_X9_common : Room := { frames := 0, cells := 0, slots := 0, locals := 0 }
def T_X9_common_6  (S : Sg)  : Nat → Int64 → Int64 → Option (Int64)
  | 0, _, _ => none
  | n + 1, p4, p6 => if (lg_cmp p6 (0 : Int64)) = 0 then (some p4) else (chk (nzJ p6) (nm (p4 - p4 / p6 * p6) (fun x3 => T_X9_common_6 S n p6 x3)))
set_option maxHeartbeats 4000000 in
set_option maxRecDepth 100000 in
theorem lt_X9_common_6 {X : XT} (l : Launch) (G : Gp) (hI : Ij (wM G))  {S : Sg} (O : Ok X (wM G) cX9_common RX9 wsX9_common 10) : ∀ (n : Nat) (p4 : Int64) (p6 : Int64)  (q : (Int64)), T_X9_common_6 S n p4 p6  = some q → (Go X l rm_X9_common (wM G) 10 31 [(4, .long q)] [] S) → Go X l rm_X9_common (wM G) 10 6 [(4, .long p4), (6, .long p6)] [] S := by
  intro n
  induction n with
  | zero =>
    intro p4 p6  q hF
    cases hF
  | succ n ih =>
    intro p4 p6  q hF hE
    rw [T_X9_common_6] at hF
    refine go_lload O dX9_common_6 1 rfl ?_
    refine go_lconst (v := (0 : Int64)) O dX9_common_8 (by decide) ?_
    refine go_lcmp O dX9_common_9 ?_
    refine go_if_eq (tgt := 31) O dX9_common_10 (by decide) (fun hc4 => ?_) (fun hc4 => ?_)
    · replace hF := it_t hc4 hF
      refine go_perm (ls' := [(4, .long p4)]) [0] rfl ?_
      exact jn (P := fun q => Go X l rm_X9_common (wM G) 10 31 [(4, .long q)] [] S) hF hE
    · replace hF := it_f hc4 hF
      refine go_lload O dX9_common_13 0 rfl ?_
      refine go_lload O dX9_common_15 1 rfl ?_
      obtain ⟨hz2, hF⟩ := chk_s hF
      refine go_lrem O dX9_common_17 (nzJ_s hz2) ?_
      obtain ⟨x3, ex3, hF⟩ := nm_s hF
      refine go_topl ex3 ?_
      refine go_lstore (ls' := [(8, .long x3), (4, .long p4), (6, .long p6)]) O dX9_common_18 (by decide) rfl ?_
      refine go_lload O dX9_common_20 2 rfl ?_
      refine go_lstore (ls' := [(4, .long p6), (8, .long x3), (6, .long p6)]) O dX9_common_22 (by decide) rfl ?_
      refine go_lload O dX9_common_24 1 rfl ?_
      refine go_lstore (ls' := [(6, .long x3), (4, .long p6), (8, .long x3)]) O dX9_common_26 (by decide) rfl ?_
      refine go_goto (tgt := 6) O dX9_common_28 (by decide) ?_
      refine go_perm (ls' := [(4, .long p6), (6, .long x3)]) [1, 0] rfl ?_
      exact ih _ _ _ hF hE
def F_X9_common  (S : Sg) (a0 : Int64) (a2 : Int64) : Option Int64 := bd (T_X9_common_6 S FU a0 a2) (fun x1 => some x1)
set_option maxHeartbeats 4000000 in
set_option maxRecDepth 100000 in
theorem c_X9_common (l : Launch) (G : Gp) (hI : Ij (wM G))  {S : Sg} {a0 : Int64} {a2 : Int64} {r : Int64} (hF : F_X9_common S a0 a2 = some r) : Met l yX9_common wsX9_common rm_X9_common (va_Pc [.long a0, .long a2] (PreW (wM G) S)) (va_Ql (fun r' u => r' = r ∧ u = S) (PostW (wM G)) (AW (wM G))) 0 0 (AW (wM G)) := by
  rw [F_X9_common] at hF
  refine met_l (cc := cX9_common) (maxL := 10) (own := RX9) hI (by decide) rfl rfl (Nat.le_of_ble_eq_true rfl) (fun X O hR => ?_)
  show Go X l rm_X9_common (wM G) 10 0 [(0, .long a0), (2, .long a2)] [] S
  refine go_lload_n O dX9_common_0 rfl 0 rfl ?_
  refine go_lstore (ls' := [(4, .long a0), (0, .long a0), (2, .long a2)]) O dX9_common_1 (by decide) rfl ?_
  refine go_lload_n O dX9_common_3 rfl 2 rfl ?_
  refine go_lstore (ls' := [(6, .long a2), (4, .long a0), (0, .long a0), (2, .long a2)]) O dX9_common_4 (by decide) rfl ?_
  refine go_perm (ls' := [(4, .long a0), (6, .long a2)]) [1, 0] rfl ?_
  obtain ⟨x1, hA5, hF⟩ := bd_s hF
  refine lt_X9_common_6 l G hI  O _ _ _ _ hA5 ?_
  refine go_lload O dX9_common_31 0 rfl ?_
  exact ret_l hF (hR _ _ dX9_common_33)
-- X9_part
def rm_X9_part : Room := { frames := 4, cells := 0, slots := 0, locals := 90 }
theorem fl_X9_part_153 : Cond.fieldLink RX9 153 "PaperWallsModel" "people" "I" ∈ wsX9_part := by decide +kernel
theorem in_X9_part_X9 : ∀ x ∈ u_ws RX9 TX9 36, x ∈ wsX9_part := by decide +kernel
def T_X9_part_22  (S : Sg) (p1 : Int32) : Nat → Int32 → Int32 → Option (Int32)
  | 0, _, _ => none
  | n + 1, p2, p3 => if (S.1 0 7) ≤ p3 then (some p2) else (bd (F_X9_heardBy S p3 (0 : Int32)) (fun x3 => bd (F_X9_ones S x3) (fun x5 => nm (p2 + x5) (fun x6 => T_X9_part_22 S p1 n x6 (p3 + (1 : Int32))))))
set_option maxHeartbeats 4000000 in
set_option maxRecDepth 100000 in
theorem lt_X9_part_22 {X : XT} (l : Launch) (G : Gp) (hI : Ij (wM G))  {S : Sg} {p1 : Int32} (O : Ok X (wM G) cX9_part RX9 wsX9_part 7) : ∀ (n : Nat) (p2 : Int32) (p3 : Int32)  (q : (Int32)), T_X9_part_22 S p1 n p2 p3  = some q → (Go X l rm_X9_part (wM G) 7 48 [(0, .ref (G.2.1 0)), (1, .int p1), (2, .int q)] [] S) → Go X l rm_X9_part (wM G) 7 22 [(0, .ref (G.2.1 0)), (1, .int p1), (2, .int p2), (3, .int p3)] [] S := by
  intro n
  induction n with
  | zero =>
    intro p2 p3  q hF
    cases hF
  | succ n ih =>
    intro p2 p3  q hF hE
    rw [T_X9_part_22] at hF
    refine go_iload_n O dX9_part_22 rfl 3 rfl ?_
    refine go_aload_n O dX9_part_23 rfl 0 rfl ?_
    refine go_get (k := 0) (j := 7) O (by decide : (0 : Nat) < 27) (cm_obj G (S.1 0) (S.2 0)) rfl in_X9_part_X9 (by decide) fl_X9_part_153 rfl rfl dX9_part_24 ?_
    refine go_icmp_ge (tgt := 48) O dX9_part_27 (by decide) (fun hc7 => ?_) (fun hc7 => ?_)
    · replace hF := it_t hc7 hF
      refine go_perm (ls' := [(0, .ref (G.2.1 0)), (1, .int p1), (2, .int p2)]) [0, 1, 2] rfl ?_
      exact jn (P := fun q => Go X l rm_X9_part (wM G) 7 48 [(0, .ref (G.2.1 0)), (1, .int p1), (2, .int q)] [] S) hF hE
    · replace hF := it_f hc7 hF
      refine go_iload_n O dX9_part_30 rfl 2 rfl ?_
      refine go_aload_n O dX9_part_31 rfl 0 rfl ?_
      refine go_iload_n O dX9_part_32 rfl 3 rfl ?_
      refine go_iconst (v := (0 : Int32)) O dX9_part_33 (by decide) ?_
      obtain ⟨x3, hA2, hF⟩ := bd_s hF
      refine go_callVi (As := [.int p3, .int (0 : Int32)]) (rest := [.int p2]) (b := 0) O (c_X9_heardBy l G hI hA2) (fun s args hts => cwV 2 hts gX9_part_X9_heardBy rfl rfl rfl (by decide +kernel) ⟨Nat.le_of_ble_eq_true rfl, Nat.le_of_ble_eq_true rfl⟩) (by decide : (0 : Nat) < 27) (cm_obj G (S.1 0) (S.2 0)) rfl rfl rfl rfl (Nat.le_of_ble_eq_true rfl) dX9_part_34 ?_
      obtain ⟨x5, hA4, hF⟩ := bd_s hF
      refine go_callSi (As := [.int x3]) (rest := [.int p2]) O (c_X9_ones l G hI hA4) (fun s args hts => va_cwS 1 hts gX9_part_X9_ones rfl rfl rfl (by decide +kernel) ⟨Nat.le_of_ble_eq_true rfl, Nat.le_of_ble_eq_true rfl⟩) rfl rfl (Nat.le_of_ble_eq_true rfl) dX9_part_37 ?_
      refine go_iadd O dX9_part_40 ?_
      obtain ⟨x6, ex6, hF⟩ := nm_s hF
      refine go_topi ex6 ?_
      refine go_istore_n (ls' := [(2, .int x6), (0, .ref (G.2.1 0)), (1, .int p1), (3, .int p3)]) O dX9_part_41 rfl (by decide) rfl ?_
      refine go_iinc (d := (1 : Int32)) (ls' := [(3, .int (p3 + (1 : Int32))), (2, .int x6), (0, .ref (G.2.1 0)), (1, .int p1)]) O dX9_part_42 3 rfl (by decide) (by decide) rfl ?_
      refine go_goto (tgt := 22) O dX9_part_45 (by decide) ?_
      refine go_perm (ls' := [(0, .ref (G.2.1 0)), (1, .int p1), (2, .int x6), (3, .int (p3 + (1 : Int32)))]) [2, 3, 1, 0] rfl ?_
      exact ih _ _ _ hF hE
def F_X9_part  (S : Sg) (a1 : Int32) : Option Int64 := if (2 : Int32) ≤ (S.1 0 7) then (bd (T_X9_part_22 S a1 FU (0 : Int32) (0 : Int32)) (fun x1 => nm ((Int32.toInt64 (S.1 0 7)) * ((Int32.toInt64 (S.1 0 7)) - (1 : Int64))) (fun x9 => bd (F_X9_common S (Int32.toInt64 x1) x9) (fun x11 => if a1 = 0 then (chk (nzJ x11) (some (x9 / x11))) else (chk (nzJ x11) (some ((Int32.toInt64 x1) / x11))))))) else (if a1 = 0 then (some (1 : Int64)) else (some (0 : Int64)))
set_option maxHeartbeats 4000000 in
set_option maxRecDepth 100000 in
theorem c_X9_part (l : Launch) (G : Gp) (hI : Ij (wM G))  {S : Sg} {a1 : Int32} {r : Int64} (hF : F_X9_part S a1 = some r) : Met l yX9_part wsX9_part rm_X9_part (va_Pc [.ref (G.2.1 0), .int a1] (PreW (wM G) S)) (va_Ql (fun r' u => r' = r ∧ u = S) (PostW (wM G)) (AW (wM G))) 0 0 (AW (wM G)) := by
  rw [F_X9_part] at hF
  refine met_l (cc := cX9_part) (maxL := 7) (own := RX9) hI (by decide) rfl rfl (Nat.le_of_ble_eq_true rfl) (fun X O hR => ?_)
  show Go X l rm_X9_part (wM G) 7 0 [(0, .ref (G.2.1 0)), (1, .int a1)] [] S
  refine go_aload_n O dX9_part_0 rfl 0 rfl ?_
  refine go_get (k := 0) (j := 7) O (by decide : (0 : Nat) < 27) (cm_obj G (S.1 0) (S.2 0)) rfl in_X9_part_X9 (by decide) fl_X9_part_153 rfl rfl dX9_part_1 ?_
  refine go_iconst (v := (2 : Int32)) O dX9_part_4 (by decide) ?_
  refine go_icmp_ge (tgt := 18) O dX9_part_5 (by decide) (fun hc16 => ?_) (fun hc16 => ?_)
  · replace hF := it_t hc16 hF
    refine go_iconst (v := (0 : Int32)) O dX9_part_18 (by decide) ?_
    refine go_istore_n (ls' := [(2, .int (0 : Int32)), (0, .ref (G.2.1 0)), (1, .int a1)]) O dX9_part_19 rfl (by decide) rfl ?_
    refine go_iconst (v := (0 : Int32)) O dX9_part_20 (by decide) ?_
    refine go_istore_n (ls' := [(3, .int (0 : Int32)), (2, .int (0 : Int32)), (0, .ref (G.2.1 0)), (1, .int a1)]) O dX9_part_21 rfl (by decide) rfl ?_
    refine go_perm (ls' := [(0, .ref (G.2.1 0)), (1, .int a1), (2, .int (0 : Int32)), (3, .int (0 : Int32))]) [2, 3, 1, 0] rfl ?_
    obtain ⟨x1, hA8, hF⟩ := bd_s hF
    refine lt_X9_part_22 l G hI  O _ _ _ _ hA8 ?_
    refine go_aload_n O dX9_part_48 rfl 0 rfl ?_
    refine go_get (k := 0) (j := 7) O (by decide : (0 : Nat) < 27) (cm_obj G (S.1 0) (S.2 0)) rfl in_X9_part_X9 (by decide) fl_X9_part_153 rfl rfl dX9_part_49 ?_
    refine go_i2l (v := Int32.toInt64 (S.1 0 7)) O dX9_part_52 rfl ?_
    refine go_aload_n O dX9_part_53 rfl 0 rfl ?_
    refine go_get (k := 0) (j := 7) O (by decide : (0 : Nat) < 27) (cm_obj G (S.1 0) (S.2 0)) rfl in_X9_part_X9 (by decide) fl_X9_part_153 rfl rfl dX9_part_54 ?_
    refine go_i2l (v := Int32.toInt64 (S.1 0 7)) O dX9_part_57 rfl ?_
    refine go_lconst (v := (1 : Int64)) O dX9_part_58 (by decide) ?_
    refine go_lsub O dX9_part_59 ?_
    refine go_lmul O dX9_part_60 ?_
    obtain ⟨x9, ex9, hF⟩ := nm_s hF
    refine go_topl ex9 ?_
    refine go_lstore_n (ls' := [(3, .long x9), (0, .ref (G.2.1 0)), (1, .int a1), (2, .int x1)]) O dX9_part_61 rfl (by decide) rfl ?_
    refine go_iload_n O dX9_part_62 rfl 3 rfl ?_
    refine go_i2l (v := Int32.toInt64 x1) O dX9_part_63 rfl ?_
    refine go_lload_n O dX9_part_64 rfl 0 rfl ?_
    obtain ⟨x11, hA10, hF⟩ := bd_s hF
    refine go_callSl (As := [.long (Int32.toInt64 x1), .long x9]) (rest := []) O (c_X9_common l G hI hA10) (fun s args hts => va_cwS 2 hts gX9_part_X9_common rfl rfl rfl (by decide +kernel) ⟨Nat.le_of_ble_eq_true rfl, Nat.le_of_ble_eq_true rfl⟩) rfl rfl (Nat.le_of_ble_eq_true rfl) dX9_part_65 ?_
    refine go_lstore (ls' := [(5, .long x11), (3, .long x9), (0, .ref (G.2.1 0)), (1, .int a1), (2, .int x1)]) O dX9_part_68 (by decide) rfl ?_
    refine go_iload_n O dX9_part_70 rfl 3 rfl ?_
    refine go_if_eq (tgt := 82) O dX9_part_71 (by decide) (fun hc14 => ?_) (fun hc14 => ?_)
    · replace hF := it_t hc14 hF
      refine go_lload_n O dX9_part_82 rfl 1 rfl ?_
      refine go_lload O dX9_part_83 0 rfl ?_
      obtain ⟨hz12, hF⟩ := chk_s hF
      refine go_ldiv O dX9_part_85 (nzJ_s hz12) ?_
      exact ret_l hF (hR _ _ dX9_part_86)
    · replace hF := it_f hc14 hF
      refine go_iload_n O dX9_part_74 rfl 4 rfl ?_
      refine go_i2l (v := Int32.toInt64 x1) O dX9_part_75 rfl ?_
      refine go_lload O dX9_part_76 0 rfl ?_
      obtain ⟨hz13, hF⟩ := chk_s hF
      refine go_ldiv O dX9_part_78 (nzJ_s hz13) ?_
      refine go_goto (tgt := 86) O dX9_part_79 (by decide) ?_
      exact ret_l hF (hR _ _ dX9_part_86)
  · replace hF := it_f hc16 hF
    refine go_iload_n O dX9_part_8 rfl 1 rfl ?_
    refine go_if_eq (tgt := 16) O dX9_part_9 (by decide) (fun hc15 => ?_) (fun hc15 => ?_)
    · replace hF := it_t hc15 hF
      refine go_lconst (v := (1 : Int64)) O dX9_part_16 (by decide) ?_
      exact ret_l hF (hR _ _ dX9_part_17)
    · replace hF := it_f hc15 hF
      refine go_lconst (v := (0 : Int64)) O dX9_part_12 (by decide) ?_
      refine go_goto (tgt := 17) O dX9_part_13 (by decide) ?_
      exact ret_l hF (hR _ _ dX9_part_17)
-- X9_upper
def rm_X9_upper : Room := { frames := 5, cells := 0, slots := 0, locals := 116 }
def F_X9_upper  (S : Sg)  : Option Int64 := bd (F_X9_part S (1 : Int32)) (fun x2 => some x2)
set_option maxHeartbeats 4000000 in
set_option maxRecDepth 100000 in
theorem c_X9_upper (l : Launch) (G : Gp) (hI : Ij (wM G))  {S : Sg} {r : Int64} (hF : F_X9_upper S = some r) : Met l yX9_upper wsX9_upper rm_X9_upper (va_Pc [.ref (G.2.1 0)] (PreW (wM G) S)) (va_Ql (fun r' u => r' = r ∧ u = S) (PostW (wM G)) (AW (wM G))) 0 0 (AW (wM G)) := by
  rw [F_X9_upper] at hF
  refine met_l (cc := cX9_upper) (maxL := 1) (own := RX9) hI (by decide) rfl rfl (Nat.le_of_ble_eq_true rfl) (fun X O hR => ?_)
  show Go X l rm_X9_upper (wM G) 1 0 [(0, .ref (G.2.1 0))] [] S
  refine go_aload_n O dX9_upper_0 rfl 0 rfl ?_
  refine go_iconst (v := (1 : Int32)) O dX9_upper_1 (by decide) ?_
  obtain ⟨x2, hA1, hF⟩ := bd_s hF
  refine go_callVl (As := [.int (1 : Int32)]) (rest := []) (b := 0) O (c_X9_part l G hI hA1) (fun s args hts => cwV 1 hts gX9_upper_X9_part rfl rfl rfl (by decide +kernel) ⟨Nat.le_of_ble_eq_true rfl, Nat.le_of_ble_eq_true rfl⟩) (by decide : (0 : Nat) < 27) (cm_obj G (S.1 0) (S.2 0)) rfl rfl rfl rfl (Nat.le_of_ble_eq_true rfl) dX9_upper_2 ?_
  exact ret_l hF (hR _ _ dX9_upper_5)
-- X9_lower
def rm_X9_lower : Room := { frames := 5, cells := 0, slots := 0, locals := 116 }
def F_X9_lower  (S : Sg)  : Option Int64 := bd (F_X9_part S (0 : Int32)) (fun x2 => some x2)
set_option maxHeartbeats 4000000 in
set_option maxRecDepth 100000 in
theorem c_X9_lower (l : Launch) (G : Gp) (hI : Ij (wM G))  {S : Sg} {r : Int64} (hF : F_X9_lower S = some r) : Met l yX9_lower wsX9_lower rm_X9_lower (va_Pc [.ref (G.2.1 0)] (PreW (wM G) S)) (va_Ql (fun r' u => r' = r ∧ u = S) (PostW (wM G)) (AW (wM G))) 0 0 (AW (wM G)) := by
  rw [F_X9_lower] at hF
  refine met_l (cc := cX9_lower) (maxL := 1) (own := RX9) hI (by decide) rfl rfl (Nat.le_of_ble_eq_true rfl) (fun X O hR => ?_)
  show Go X l rm_X9_lower (wM G) 1 0 [(0, .ref (G.2.1 0))] [] S
  refine go_aload_n O dX9_lower_0 rfl 0 rfl ?_
  refine go_iconst (v := (0 : Int32)) O dX9_lower_1 (by decide) ?_
  obtain ⟨x2, hA1, hF⟩ := bd_s hF
  refine go_callVl (As := [.int (0 : Int32)]) (rest := []) (b := 0) O (c_X9_part l G hI hA1) (fun s args hts => cwV 1 hts gX9_lower_X9_part rfl rfl rfl (by decide +kernel) ⟨Nat.le_of_ble_eq_true rfl, Nat.le_of_ble_eq_true rfl⟩) (by decide : (0 : Nat) < 27) (cm_obj G (S.1 0) (S.2 0)) rfl rfl rfl rfl (Nat.le_of_ble_eq_true rfl) dX9_lower_2 ?_
  exact ret_l hF (hR _ _ dX9_lower_5)
-- X9_manyOf
def rm_X9_manyOf : Room := { frames := 1, cells := 0, slots := 0, locals := 21 }
theorem fl_X9_manyOf_22 : Cond.fieldLink RX9 22 "PaperWallsModel" "kinds" "[I" ∈ wsX9_manyOf := by decide +kernel
theorem fl_X9_manyOf_153 : Cond.fieldLink RX9 153 "PaperWallsModel" "people" "I" ∈ wsX9_manyOf := by decide +kernel
theorem in_X9_manyOf_X9 : ∀ x ∈ u_ws RX9 TX9 36, x ∈ wsX9_manyOf := by decide +kernel
def T_X9_manyOf_4  (S : Sg) (p1 : Int32) : Nat → Int32 → Int32 → Option (Int32)
  | 0, _, _ => none
  | n + 1, p2, p3 => if (S.1 0 7) ≤ p3 then (some p2) else (chk (inB p3 7) (bd (F_X9_isKind S (S.1 5 p3.toNatClampNeg) p1) (fun x4 => bd (if x4 = 0 then (some (0 : Int32)) else (some (1 : Int32))) (fun x5 => nm (p2 + x5) (fun x9 => T_X9_manyOf_4 S p1 n x9 (p3 + (1 : Int32)))))))
set_option maxHeartbeats 4000000 in
set_option maxRecDepth 100000 in
theorem lt_X9_manyOf_4 {X : XT} (l : Launch) (G : Gp) (hI : Ij (wM G))  {S : Sg} {p1 : Int32} (O : Ok X (wM G) cX9_manyOf RX9 wsX9_manyOf 4) : ∀ (n : Nat) (p2 : Int32) (p3 : Int32)  (q : (Int32)), T_X9_manyOf_4 S p1 n p2 p3  = some q → (Go X l rm_X9_manyOf (wM G) 4 39 [(2, .int q)] [] S) → Go X l rm_X9_manyOf (wM G) 4 4 [(0, .ref (G.2.1 0)), (1, .int p1), (2, .int p2), (3, .int p3)] [] S := by
  intro n
  induction n with
  | zero =>
    intro p2 p3  q hF
    cases hF
  | succ n ih =>
    intro p2 p3  q hF hE
    rw [T_X9_manyOf_4] at hF
    refine go_iload_n O dX9_manyOf_4 rfl 3 rfl ?_
    refine go_aload_n O dX9_manyOf_5 rfl 0 rfl ?_
    refine go_get (k := 0) (j := 7) O (by decide : (0 : Nat) < 27) (cm_obj G (S.1 0) (S.2 0)) rfl in_X9_manyOf_X9 (by decide) fl_X9_manyOf_153 rfl rfl dX9_manyOf_6 ?_
    refine go_icmp_ge (tgt := 39) O dX9_manyOf_9 (by decide) (fun hc10 => ?_) (fun hc10 => ?_)
    · replace hF := it_t hc10 hF
      refine go_perm (ls' := [(2, .int p2)]) [2] rfl ?_
      exact jn (P := fun q => Go X l rm_X9_manyOf (wM G) 4 39 [(2, .int q)] [] S) hF hE
    · replace hF := it_f hc10 hF
      refine go_iload_n O dX9_manyOf_12 rfl 2 rfl ?_
      refine go_aload_n O dX9_manyOf_13 rfl 0 rfl ?_
      refine go_get (k := 0) (j := 4) O (by decide : (0 : Nat) < 27) (cm_obj G (S.1 0) (S.2 0)) rfl in_X9_manyOf_X9 (by decide) fl_X9_manyOf_22 rfl rfl dX9_manyOf_14 ?_
      refine go_iload_n O dX9_manyOf_17 rfl 3 rfl ?_
      obtain ⟨hb2, hF⟩ := chk_s hF
      refine go_iald (k := 5) O (by decide : (5 : Nat) < 27) (cm_5 G (S.1 5) (S.2 5)) (inB_in hb2) dX9_manyOf_18 ?_
      refine go_iload_n O dX9_manyOf_19 rfl 1 rfl ?_
      obtain ⟨x4, hA3, hF⟩ := bd_s hF
      refine go_callSi (As := [.int (S.1 5 p3.toNatClampNeg), .int p1]) (rest := [.int p2]) O (c_X9_isKind l G hI hA3) (fun s args hts => va_cwS 2 hts gX9_manyOf_X9_isKind rfl rfl rfl (by decide +kernel) ⟨Nat.le_of_ble_eq_true rfl, Nat.le_of_ble_eq_true rfl⟩) rfl rfl (Nat.le_of_ble_eq_true rfl) dX9_manyOf_20 ?_
      obtain ⟨x5, hA7, hF⟩ := bd_s hF
      have J6 : Go X l rm_X9_manyOf (wM G) 4 31 [(0, .ref (G.2.1 0)), (1, .int p1), (3, .int p3)] [.int x5, .int p2] S := by
        refine go_iadd O dX9_manyOf_31 ?_
        obtain ⟨x9, ex9, hF⟩ := nm_s hF
        refine go_topi ex9 ?_
        refine go_istore_n (ls' := [(2, .int x9), (0, .ref (G.2.1 0)), (1, .int p1), (3, .int p3)]) O dX9_manyOf_32 rfl (by decide) rfl ?_
        refine go_iinc (d := (1 : Int32)) (ls' := [(3, .int (p3 + (1 : Int32))), (2, .int x9), (0, .ref (G.2.1 0)), (1, .int p1)]) O dX9_manyOf_33 3 rfl (by decide) (by decide) rfl ?_
        refine go_goto (tgt := 4) O dX9_manyOf_36 (by decide) ?_
        refine go_perm (ls' := [(0, .ref (G.2.1 0)), (1, .int p1), (2, .int x9), (3, .int (p3 + (1 : Int32)))]) [2, 3, 1, 0] rfl ?_
        exact ih _ _ _ hF hE
      replace hF := hA7
      refine go_if_eq (tgt := 30) O dX9_manyOf_23 (by decide) (fun hc8 => ?_) (fun hc8 => ?_)
      · replace hF := it_t hc8 hF
        refine go_iconst (v := (0 : Int32)) O dX9_manyOf_30 (by decide) ?_
        refine go_perm (ls' := [(0, .ref (G.2.1 0)), (1, .int p1), (3, .int p3)]) [0, 1, 3] rfl ?_
        exact jn (P := fun q => Go X l rm_X9_manyOf (wM G) 4 31 [(0, .ref (G.2.1 0)), (1, .int p1), (3, .int p3)] [.int q, .int p2] S) hF J6
      · replace hF := it_f hc8 hF
        refine go_iconst (v := (1 : Int32)) O dX9_manyOf_26 (by decide) ?_
        refine go_goto (tgt := 31) O dX9_manyOf_27 (by decide) ?_
        refine go_perm (ls' := [(0, .ref (G.2.1 0)), (1, .int p1), (3, .int p3)]) [0, 1, 3] rfl ?_
        exact jn (P := fun q => Go X l rm_X9_manyOf (wM G) 4 31 [(0, .ref (G.2.1 0)), (1, .int p1), (3, .int p3)] [.int q, .int p2] S) hF J6
def F_X9_manyOf  (S : Sg) (a1 : Int32) : Option Int32 := bd (T_X9_manyOf_4 S a1 FU (0 : Int32) (0 : Int32)) (fun x1 => some x1)
set_option maxHeartbeats 4000000 in
set_option maxRecDepth 100000 in
theorem c_X9_manyOf (l : Launch) (G : Gp) (hI : Ij (wM G))  {S : Sg} {a1 : Int32} {r : Int32} (hF : F_X9_manyOf S a1 = some r) : Met l yX9_manyOf wsX9_manyOf rm_X9_manyOf (va_Pc [.ref (G.2.1 0), .int a1] (PreW (wM G) S)) (va_Qi (fun r' u => r' = r ∧ u = S) (PostW (wM G)) (AW (wM G))) 0 0 (AW (wM G)) := by
  rw [F_X9_manyOf] at hF
  refine met_i (cc := cX9_manyOf) (maxL := 4) (own := RX9) hI (by decide) rfl rfl (Nat.le_of_ble_eq_true rfl) (fun X O hR => ?_)
  show Go X l rm_X9_manyOf (wM G) 4 0 [(0, .ref (G.2.1 0)), (1, .int a1)] [] S
  refine go_iconst (v := (0 : Int32)) O dX9_manyOf_0 (by decide) ?_
  refine go_istore_n (ls' := [(2, .int (0 : Int32)), (0, .ref (G.2.1 0)), (1, .int a1)]) O dX9_manyOf_1 rfl (by decide) rfl ?_
  refine go_iconst (v := (0 : Int32)) O dX9_manyOf_2 (by decide) ?_
  refine go_istore_n (ls' := [(3, .int (0 : Int32)), (2, .int (0 : Int32)), (0, .ref (G.2.1 0)), (1, .int a1)]) O dX9_manyOf_3 rfl (by decide) rfl ?_
  refine go_perm (ls' := [(0, .ref (G.2.1 0)), (1, .int a1), (2, .int (0 : Int32)), (3, .int (0 : Int32))]) [2, 3, 1, 0] rfl ?_
  obtain ⟨x1, hA11, hF⟩ := bd_s hF
  refine lt_X9_manyOf_4 l G hI  O _ _ _ _ hA11 ?_
  refine go_iload_n O dX9_manyOf_39 rfl 0 rfl ?_
  exact ret_i hF (hR _ _ dX9_manyOf_40)
-- X9_there
def rm_X9_there : Room := { frames := 0, cells := 0, slots := 0, locals := 0 }
def T_X9_there_4 (k : Nat) (kn : Nat) (S : Sg)  : Nat → Int32 → Int32 → Option (Int32)
  | 0, _, _ => none
  | n + 1, p1, p2 => if (Int32.ofNat kn) ≤ p2 then (some p1) else (chk (inB p2 kn) (bd (if (S.1 k p2.toNatClampNeg) < 0 then (some (0 : Int32)) else (some (1 : Int32))) (fun x3 => nm (p1 + x3) (fun x7 => T_X9_there_4 k kn S n x7 (p2 + (1 : Int32))))))
set_option maxHeartbeats 4000000 in
set_option maxRecDepth 100000 in
theorem lt_X9_there_4 {X : XT} (l : Launch) (G : Gp) (hI : Ij (wM G)) {k : Nat} {kn : Nat} (hk : k < 27) (hcv : ∀ f h, cvM G k f h = .inl (G.2.2.1 0, kn, .inl f)) {S : Sg} (O : Ok X (wM G) cX9_there RX9 wsX9_there 3) : ∀ (n : Nat) (p1 : Int32) (p2 : Int32)  (q : (Int32)), T_X9_there_4 k kn S n p1 p2  = some q → (Go X l rm_X9_there (wM G) 3 30 [(1, .int q)] [] S) → Go X l rm_X9_there (wM G) 3 4 [(0, .ref (G.2.1 k)), (1, .int p1), (2, .int p2)] [] S := by
  intro n
  induction n with
  | zero =>
    intro p1 p2  q hF
    cases hF
  | succ n ih =>
    intro p1 p2  q hF hE
    rw [T_X9_there_4] at hF
    refine go_iload_n O dX9_there_4 rfl 2 rfl ?_
    refine go_aload_n O dX9_there_5 rfl 0 rfl ?_
    refine go_alen (n := 0) (k := k) (v := Int32.ofNat kn) O hk (hcv (S.1 k) (S.2 k)) 0 rfl rfl dX9_there_6 ?_
    refine go_icmp_ge (tgt := 30) O dX9_there_7 (by decide) (fun hc8 => ?_) (fun hc8 => ?_)
    · replace hF := it_t hc8 hF
      refine go_perm (ls' := [(1, .int p1)]) [1] rfl ?_
      exact jn (P := fun q => Go X l rm_X9_there (wM G) 3 30 [(1, .int q)] [] S) hF hE
    · replace hF := it_f hc8 hF
      refine go_iload_n O dX9_there_10 rfl 1 rfl ?_
      refine go_aload_n O dX9_there_11 rfl 0 rfl ?_
      refine go_iload_n O dX9_there_12 rfl 2 rfl ?_
      obtain ⟨hb2, hF⟩ := chk_s hF
      refine go_iald (k := k) O hk (hcv (S.1 k) (S.2 k)) (inB_in hb2) dX9_there_13 ?_
      obtain ⟨x3, hA5, hF⟩ := bd_s hF
      have J4 : Go X l rm_X9_there (wM G) 3 22 [(0, .ref (G.2.1 k)), (2, .int p2)] [.int x3, .int p1] S := by
        refine go_iadd O dX9_there_22 ?_
        obtain ⟨x7, ex7, hF⟩ := nm_s hF
        refine go_topi ex7 ?_
        refine go_istore_n (ls' := [(1, .int x7), (0, .ref (G.2.1 k)), (2, .int p2)]) O dX9_there_23 rfl (by decide) rfl ?_
        refine go_iinc (d := (1 : Int32)) (ls' := [(2, .int (p2 + (1 : Int32))), (1, .int x7), (0, .ref (G.2.1 k))]) O dX9_there_24 2 rfl (by decide) (by decide) rfl ?_
        refine go_goto (tgt := 4) O dX9_there_27 (by decide) ?_
        refine go_perm (ls' := [(0, .ref (G.2.1 k)), (1, .int x7), (2, .int (p2 + (1 : Int32)))]) [2, 1, 0] rfl ?_
        exact ih _ _ _ hF hE
      replace hF := hA5
      refine go_if_lt (tgt := 21) O dX9_there_14 (by decide) (fun hc6 => ?_) (fun hc6 => ?_)
      · replace hF := it_t hc6 hF
        refine go_iconst (v := (0 : Int32)) O dX9_there_21 (by decide) ?_
        refine go_perm (ls' := [(0, .ref (G.2.1 k)), (2, .int p2)]) [0, 2] rfl ?_
        exact jn (P := fun q => Go X l rm_X9_there (wM G) 3 22 [(0, .ref (G.2.1 k)), (2, .int p2)] [.int q, .int p1] S) hF J4
      · replace hF := it_f hc6 hF
        refine go_iconst (v := (1 : Int32)) O dX9_there_17 (by decide) ?_
        refine go_goto (tgt := 22) O dX9_there_18 (by decide) ?_
        refine go_perm (ls' := [(0, .ref (G.2.1 k)), (2, .int p2)]) [0, 2] rfl ?_
        exact jn (P := fun q => Go X l rm_X9_there (wM G) 3 22 [(0, .ref (G.2.1 k)), (2, .int p2)] [.int q, .int p1] S) hF J4
def F_X9_there (k : Nat) (kn : Nat) (S : Sg)  : Option Int32 := bd (T_X9_there_4 k kn S FU (0 : Int32) (0 : Int32)) (fun x1 => some x1)
set_option maxHeartbeats 4000000 in
set_option maxRecDepth 100000 in
theorem c_X9_there (l : Launch) (G : Gp) (hI : Ij (wM G)) {k : Nat} {kn : Nat} (hk : k < 27) (hcv : ∀ f h, cvM G k f h = .inl (G.2.2.1 0, kn, .inl f)) {S : Sg} {r : Int32} (hF : F_X9_there k kn S = some r) : Met l yX9_there wsX9_there rm_X9_there (va_Pc [.ref (G.2.1 k)] (PreW (wM G) S)) (va_Qi (fun r' u => r' = r ∧ u = S) (PostW (wM G)) (AW (wM G))) 0 0 (AW (wM G)) := by
  rw [F_X9_there] at hF
  refine met_i (cc := cX9_there) (maxL := 3) (own := RX9) hI (by decide) rfl rfl (Nat.le_of_ble_eq_true rfl) (fun X O hR => ?_)
  show Go X l rm_X9_there (wM G) 3 0 [(0, .ref (G.2.1 k))] [] S
  refine go_iconst (v := (0 : Int32)) O dX9_there_0 (by decide) ?_
  refine go_istore_n (ls' := [(1, .int (0 : Int32)), (0, .ref (G.2.1 k))]) O dX9_there_1 rfl (by decide) rfl ?_
  refine go_iconst (v := (0 : Int32)) O dX9_there_2 (by decide) ?_
  refine go_istore_n (ls' := [(2, .int (0 : Int32)), (1, .int (0 : Int32)), (0, .ref (G.2.1 k))]) O dX9_there_3 rfl (by decide) rfl ?_
  refine go_perm (ls' := [(0, .ref (G.2.1 k)), (1, .int (0 : Int32)), (2, .int (0 : Int32))]) [2, 1, 0] rfl ?_
  obtain ⟨x1, hA9, hF⟩ := bd_s hF
  refine lt_X9_there_4 l G hI hk hcv O _ _ _ _ hA9 ?_
  refine go_iload_n O dX9_there_30 rfl 0 rfl ?_
  exact ret_i hF (hR _ _ dX9_there_31)
-- X9_count
def rm_X9_count : Room := { frames := 2, cells := 0, slots := 0, locals := 44 }
theorem fl_X9_count_7 : Cond.fieldLink RX9 7 "PaperWallsModel" "rowSizes" "[I" ∈ wsX9_count := by decide +kernel
theorem fl_X9_count_16 : Cond.fieldLink RX9 16 "PaperWallsModel" "textSizes" "[I" ∈ wsX9_count := by decide +kernel
theorem fl_X9_count_83 : Cond.fieldLink RX9 83 "PaperWallsModel" "isKept" "[Z" ∈ wsX9_count := by decide +kernel
theorem fl_X9_count_150 : Cond.fieldLink RX9 150 "PaperWallsModel" "walls" "I" ∈ wsX9_count := by decide +kernel
theorem fl_X9_count_153 : Cond.fieldLink RX9 153 "PaperWallsModel" "people" "I" ∈ wsX9_count := by decide +kernel
theorem fl_X9_count_156 : Cond.fieldLink RX9 156 "PaperWallsModel" "talkMany" "I" ∈ wsX9_count := by decide +kernel
theorem fl_X9_count_159 : Cond.fieldLink RX9 159 "PaperWallsModel" "hours" "I" ∈ wsX9_count := by decide +kernel
theorem in_X9_count_X9 : ∀ x ∈ u_ws RX9 TX9 36, x ∈ wsX9_count := by decide +kernel
def F_X9_count  (S : Sg) (a1 : Int32) : Option Int32 := if a1 = (0 : Int32) then (some (S.1 0 7)) else (if a1 = (1 : Int32) then (some (S.1 0 8)) else (if a1 = (2 : Int32) then (some (S.1 0 10)) else (if a1 = (3 : Int32) then (some (S.1 0 16)) else (if a1 = (4 : Int32) then (bd (F_X9_manyOf S (1 : Int32)) (fun x7 => some x7)) else (if a1 = (5 : Int32) then (bd (F_X9_manyOf S (2 : Int32)) (fun x10 => some x10)) else (if a1 = (6 : Int32) then (bd (F_X9_there 1 6 S) (fun x13 => some x13)) else (if a1 = (7 : Int32) then (bd (F_X9_there 3 4 S) (fun x16 => some x16)) else (if a1 = (8 : Int32) then (chk (inB (0 : Int32) 3) (bd (if (S.1 25 (0 : Int32).toNatClampNeg) = 0 then (some (0 : Int32)) else (some (1 : Int32))) (fun x19 => chk (inB (1 : Int32) 3) (bd (if (S.1 25 (1 : Int32).toNatClampNeg) = 0 then (some (0 : Int32)) else (some (1 : Int32))) (fun x24 => chk (inB (2 : Int32) 3) (bd (if (S.1 25 (2 : Int32).toNatClampNeg) = 0 then (some (0 : Int32)) else (some (1 : Int32))) (fun x29 => some ((x19 + x24) + x29)))))))) else (some (-1 : Int32))))))))))
set_option maxHeartbeats 4000000 in
set_option maxRecDepth 100000 in
theorem c_X9_count (l : Launch) (G : Gp) (hI : Ij (wM G))  {S : Sg} {a1 : Int32} {r : Int32} (hF : F_X9_count S a1 = some r) : Met l yX9_count wsX9_count rm_X9_count (va_Pc [.ref (G.2.1 0), .int a1] (PreW (wM G) S)) (va_Qi (fun r' u => r' = r ∧ u = S) (PostW (wM G)) (AW (wM G))) 0 0 (AW (wM G)) := by
  rw [F_X9_count] at hF
  refine met_i (cc := cX9_count) (maxL := 2) (own := RX9) hI (by decide) rfl rfl (Nat.le_of_ble_eq_true rfl) (fun X O hR => ?_)
  show Go X l rm_X9_count (wM G) 2 0 [(0, .ref (G.2.1 0)), (1, .int a1)] [] S
  refine go_iload_n O dX9_count_0 rfl 1 rfl ?_
  by_cases hs1 : a1 = (0 : Int32)
  · replace hF := it_t hs1 hF
    refine go_tblIn (tgt := 52) (off := 51) O dX9_count_1 (by rw [hs1]; decide) (by rw [hs1]; decide) (by rw [hs1]; rfl) (by decide) ?_
    refine go_aload_n O dX9_count_52 rfl 0 rfl ?_
    refine go_get (k := 0) (j := 7) O (by decide : (0 : Nat) < 27) (cm_obj G (S.1 0) (S.2 0)) rfl in_X9_count_X9 (by decide) fl_X9_count_153 rfl rfl dX9_count_53 ?_
    exact ret_i hF (hR _ _ dX9_count_56)
  replace hF := it_f hs1 hF
  by_cases hs2 : a1 = (1 : Int32)
  · replace hF := it_t hs2 hF
    refine go_tblIn (tgt := 57) (off := 56) O dX9_count_1 (by rw [hs2]; decide) (by rw [hs2]; decide) (by rw [hs2]; rfl) (by decide) ?_
    refine go_aload_n O dX9_count_57 rfl 0 rfl ?_
    refine go_get (k := 0) (j := 8) O (by decide : (0 : Nat) < 27) (cm_obj G (S.1 0) (S.2 0)) rfl in_X9_count_X9 (by decide) fl_X9_count_150 rfl rfl dX9_count_58 ?_
    exact ret_i hF (hR _ _ dX9_count_61)
  replace hF := it_f hs2 hF
  by_cases hs3 : a1 = (2 : Int32)
  · replace hF := it_t hs3 hF
    refine go_tblIn (tgt := 62) (off := 61) O dX9_count_1 (by rw [hs3]; decide) (by rw [hs3]; decide) (by rw [hs3]; rfl) (by decide) ?_
    refine go_aload_n O dX9_count_62 rfl 0 rfl ?_
    refine go_get (k := 0) (j := 10) O (by decide : (0 : Nat) < 27) (cm_obj G (S.1 0) (S.2 0)) rfl in_X9_count_X9 (by decide) fl_X9_count_156 rfl rfl dX9_count_63 ?_
    exact ret_i hF (hR _ _ dX9_count_66)
  replace hF := it_f hs3 hF
  by_cases hs4 : a1 = (3 : Int32)
  · replace hF := it_t hs4 hF
    refine go_tblIn (tgt := 67) (off := 66) O dX9_count_1 (by rw [hs4]; decide) (by rw [hs4]; decide) (by rw [hs4]; rfl) (by decide) ?_
    refine go_aload_n O dX9_count_67 rfl 0 rfl ?_
    refine go_get (k := 0) (j := 16) O (by decide : (0 : Nat) < 27) (cm_obj G (S.1 0) (S.2 0)) rfl in_X9_count_X9 (by decide) fl_X9_count_159 rfl rfl dX9_count_68 ?_
    exact ret_i hF (hR _ _ dX9_count_71)
  replace hF := it_f hs4 hF
  by_cases hs5 : a1 = (4 : Int32)
  · replace hF := it_t hs5 hF
    refine go_tblIn (tgt := 72) (off := 71) O dX9_count_1 (by rw [hs5]; decide) (by rw [hs5]; decide) (by rw [hs5]; rfl) (by decide) ?_
    refine go_aload_n O dX9_count_72 rfl 0 rfl ?_
    refine go_iconst (v := (1 : Int32)) O dX9_count_73 (by decide) ?_
    obtain ⟨x7, hA6, hF⟩ := bd_s hF
    refine go_callVi (As := [.int (1 : Int32)]) (rest := []) (b := 0) O (c_X9_manyOf l G hI hA6) (fun s args hts => cwV 1 hts gX9_count_X9_manyOf rfl rfl rfl (by decide +kernel) ⟨Nat.le_of_ble_eq_true rfl, Nat.le_of_ble_eq_true rfl⟩) (by decide : (0 : Nat) < 27) (cm_obj G (S.1 0) (S.2 0)) rfl rfl rfl rfl (Nat.le_of_ble_eq_true rfl) dX9_count_74 ?_
    exact ret_i hF (hR _ _ dX9_count_77)
  replace hF := it_f hs5 hF
  by_cases hs8 : a1 = (5 : Int32)
  · replace hF := it_t hs8 hF
    refine go_tblIn (tgt := 78) (off := 77) O dX9_count_1 (by rw [hs8]; decide) (by rw [hs8]; decide) (by rw [hs8]; rfl) (by decide) ?_
    refine go_aload_n O dX9_count_78 rfl 0 rfl ?_
    refine go_iconst (v := (2 : Int32)) O dX9_count_79 (by decide) ?_
    obtain ⟨x10, hA9, hF⟩ := bd_s hF
    refine go_callVi (As := [.int (2 : Int32)]) (rest := []) (b := 0) O (c_X9_manyOf l G hI hA9) (fun s args hts => cwV 1 hts gX9_count_X9_manyOf rfl rfl rfl (by decide +kernel) ⟨Nat.le_of_ble_eq_true rfl, Nat.le_of_ble_eq_true rfl⟩) (by decide : (0 : Nat) < 27) (cm_obj G (S.1 0) (S.2 0)) rfl rfl rfl rfl (Nat.le_of_ble_eq_true rfl) dX9_count_80 ?_
    exact ret_i hF (hR _ _ dX9_count_83)
  replace hF := it_f hs8 hF
  by_cases hs11 : a1 = (6 : Int32)
  · replace hF := it_t hs11 hF
    refine go_tblIn (tgt := 84) (off := 83) O dX9_count_1 (by rw [hs11]; decide) (by rw [hs11]; decide) (by rw [hs11]; rfl) (by decide) ?_
    refine go_aload_n O dX9_count_84 rfl 0 rfl ?_
    refine go_get (k := 0) (j := 0) O (by decide : (0 : Nat) < 27) (cm_obj G (S.1 0) (S.2 0)) rfl in_X9_count_X9 (by decide) fl_X9_count_7 rfl rfl dX9_count_85 ?_
    obtain ⟨x13, hA12, hF⟩ := bd_s hF
    refine go_callSi (As := [.ref (G.2.1 1)]) (rest := []) O (c_X9_there l G hI (by decide : (1 : Nat) < 27) (fun f h => (cm_1 G f h)) hA12) (fun s args hts => va_cwS 1 hts gX9_count_X9_there rfl rfl rfl (by decide +kernel) ⟨Nat.le_of_ble_eq_true rfl, Nat.le_of_ble_eq_true rfl⟩) rfl rfl (Nat.le_of_ble_eq_true rfl) dX9_count_88 ?_
    exact ret_i hF (hR _ _ dX9_count_91)
  replace hF := it_f hs11 hF
  by_cases hs14 : a1 = (7 : Int32)
  · replace hF := it_t hs14 hF
    refine go_tblIn (tgt := 92) (off := 91) O dX9_count_1 (by rw [hs14]; decide) (by rw [hs14]; decide) (by rw [hs14]; rfl) (by decide) ?_
    refine go_aload_n O dX9_count_92 rfl 0 rfl ?_
    refine go_get (k := 0) (j := 2) O (by decide : (0 : Nat) < 27) (cm_obj G (S.1 0) (S.2 0)) rfl in_X9_count_X9 (by decide) fl_X9_count_16 rfl rfl dX9_count_93 ?_
    obtain ⟨x16, hA15, hF⟩ := bd_s hF
    refine go_callSi (As := [.ref (G.2.1 3)]) (rest := []) O (c_X9_there l G hI (by decide : (3 : Nat) < 27) (fun f h => (cm_3 G f h)) hA15) (fun s args hts => va_cwS 1 hts gX9_count_X9_there rfl rfl rfl (by decide +kernel) ⟨Nat.le_of_ble_eq_true rfl, Nat.le_of_ble_eq_true rfl⟩) rfl rfl (Nat.le_of_ble_eq_true rfl) dX9_count_96 ?_
    exact ret_i hF (hR _ _ dX9_count_99)
  replace hF := it_f hs14 hF
  by_cases hs17 : a1 = (8 : Int32)
  · replace hF := it_t hs17 hF
    refine go_tblIn (tgt := 100) (off := 99) O dX9_count_1 (by rw [hs17]; decide) (by rw [hs17]; decide) (by rw [hs17]; rfl) (by decide) ?_
    refine go_aload_n O dX9_count_100 rfl 0 rfl ?_
    refine go_get (k := 0) (j := 33) O (by decide : (0 : Nat) < 27) (cm_obj G (S.1 0) (S.2 0)) rfl in_X9_count_X9 (by decide) fl_X9_count_83 rfl rfl dX9_count_101 ?_
    refine go_iconst (v := (0 : Int32)) O dX9_count_104 (by decide) ?_
    obtain ⟨hb18, hF⟩ := chk_s hF
    refine go_zald (k := 25) O (by decide : (25 : Nat) < 27) (cm_25 G (S.1 25) (S.2 25)) (inB_in hb18) dX9_count_105 ?_
    obtain ⟨x19, hA21, hF⟩ := bd_s hF
    have J20 : Go X l rm_X9_count (wM G) 2 114 [(0, .ref (G.2.1 0))] [.int x19] S := by
      refine go_aload_n O dX9_count_114 rfl 0 rfl ?_
      refine go_get (k := 0) (j := 33) O (by decide : (0 : Nat) < 27) (cm_obj G (S.1 0) (S.2 0)) rfl in_X9_count_X9 (by decide) fl_X9_count_83 rfl rfl dX9_count_115 ?_
      refine go_iconst (v := (1 : Int32)) O dX9_count_118 (by decide) ?_
      obtain ⟨hb23, hF⟩ := chk_s hF
      refine go_zald (k := 25) O (by decide : (25 : Nat) < 27) (cm_25 G (S.1 25) (S.2 25)) (inB_in hb23) dX9_count_119 ?_
      obtain ⟨x24, hA26, hF⟩ := bd_s hF
      have J25 : Go X l rm_X9_count (wM G) 2 128 [(0, .ref (G.2.1 0))] [.int x24, .int x19] S := by
        refine go_iadd O dX9_count_128 ?_
        refine go_aload_n O dX9_count_129 rfl 0 rfl ?_
        refine go_get (k := 0) (j := 33) O (by decide : (0 : Nat) < 27) (cm_obj G (S.1 0) (S.2 0)) rfl in_X9_count_X9 (by decide) fl_X9_count_83 rfl rfl dX9_count_130 ?_
        refine go_iconst (v := (2 : Int32)) O dX9_count_133 (by decide) ?_
        obtain ⟨hb28, hF⟩ := chk_s hF
        refine go_zald (k := 25) O (by decide : (25 : Nat) < 27) (cm_25 G (S.1 25) (S.2 25)) (inB_in hb28) dX9_count_134 ?_
        obtain ⟨x29, hA31, hF⟩ := bd_s hF
        have J30 : Go X l rm_X9_count (wM G) 2 143 [] [.int x29, .int (x19 + x24)] S := by
          refine go_iadd O dX9_count_143 ?_
          exact ret_i hF (hR _ _ dX9_count_144)
        replace hF := hA31
        refine go_if_eq (tgt := 142) O dX9_count_135 (by decide) (fun hc32 => ?_) (fun hc32 => ?_)
        · replace hF := it_t hc32 hF
          refine go_iconst (v := (0 : Int32)) O dX9_count_142 (by decide) ?_
          refine go_perm (ls' := []) [] rfl ?_
          exact jn (P := fun q => Go X l rm_X9_count (wM G) 2 143 [] [.int q, .int (x19 + x24)] S) hF J30
        · replace hF := it_f hc32 hF
          refine go_iconst (v := (1 : Int32)) O dX9_count_138 (by decide) ?_
          refine go_goto (tgt := 143) O dX9_count_139 (by decide) ?_
          refine go_perm (ls' := []) [] rfl ?_
          exact jn (P := fun q => Go X l rm_X9_count (wM G) 2 143 [] [.int q, .int (x19 + x24)] S) hF J30
      replace hF := hA26
      refine go_if_eq (tgt := 127) O dX9_count_120 (by decide) (fun hc27 => ?_) (fun hc27 => ?_)
      · replace hF := it_t hc27 hF
        refine go_iconst (v := (0 : Int32)) O dX9_count_127 (by decide) ?_
        exact jn (P := fun q => Go X l rm_X9_count (wM G) 2 128 [(0, .ref (G.2.1 0))] [.int q, .int x19] S) hF J25
      · replace hF := it_f hc27 hF
        refine go_iconst (v := (1 : Int32)) O dX9_count_123 (by decide) ?_
        refine go_goto (tgt := 128) O dX9_count_124 (by decide) ?_
        exact jn (P := fun q => Go X l rm_X9_count (wM G) 2 128 [(0, .ref (G.2.1 0))] [.int q, .int x19] S) hF J25
    replace hF := hA21
    refine go_if_eq (tgt := 113) O dX9_count_106 (by decide) (fun hc22 => ?_) (fun hc22 => ?_)
    · replace hF := it_t hc22 hF
      refine go_iconst (v := (0 : Int32)) O dX9_count_113 (by decide) ?_
      refine go_perm (ls' := [(0, .ref (G.2.1 0))]) [0] rfl ?_
      exact jn (P := fun q => Go X l rm_X9_count (wM G) 2 114 [(0, .ref (G.2.1 0))] [.int q] S) hF J20
    · replace hF := it_f hc22 hF
      refine go_iconst (v := (1 : Int32)) O dX9_count_109 (by decide) ?_
      refine go_goto (tgt := 114) O dX9_count_110 (by decide) ?_
      refine go_perm (ls' := [(0, .ref (G.2.1 0))]) [0] rfl ?_
      exact jn (P := fun q => Go X l rm_X9_count (wM G) 2 114 [(0, .ref (G.2.1 0))] [.int q] S) hF J20
  replace hF := it_f hs17 hF
  refine go_tblOut (tgt := 145) O dX9_count_1 (by have t0 := ne_toInt hs1 (k := 0) (by decide); have t1 := ne_toInt hs2 (k := 1) (by decide); have t2 := ne_toInt hs3 (k := 2) (by decide); have t3 := ne_toInt hs4 (k := 3) (by decide); have t4 := ne_toInt hs5 (k := 4) (by decide); have t5 := ne_toInt hs8 (k := 5) (by decide); have t6 := ne_toInt hs11 (k := 6) (by decide); have t7 := ne_toInt hs14 (k := 7) (by decide); have t8 := ne_toInt hs17 (k := 8) (by decide); omega) (by decide) ?_
  refine go_iconst (v := (-1 : Int32)) O dX9_count_145 (by decide) ?_
  exact ret_i hF (hR _ _ dX9_count_146)
-- X9_finding
def rm_X9_finding : Room := { frames := 0, cells := 0, slots := 0, locals := 0 }
theorem fl_X9_finding_89 : Cond.fieldLink RX9 89 "PaperWallsModel" "found" "I" ∈ wsX9_finding := by decide +kernel
theorem in_X9_finding_X9 : ∀ x ∈ u_ws RX9 TX9 36, x ∈ wsX9_finding := by decide +kernel
def F_X9_finding  (S : Sg)  : Option Int32 := some (S.1 0 18)
set_option maxHeartbeats 4000000 in
set_option maxRecDepth 100000 in
theorem c_X9_finding (l : Launch) (G : Gp) (hI : Ij (wM G))  {S : Sg} {r : Int32} (hF : F_X9_finding S = some r) : Met l yX9_finding wsX9_finding rm_X9_finding (va_Pc [.ref (G.2.1 0)] (PreW (wM G) S)) (va_Qi (fun r' u => r' = r ∧ u = S) (PostW (wM G)) (AW (wM G))) 0 0 (AW (wM G)) := by
  rw [F_X9_finding] at hF
  refine met_i (cc := cX9_finding) (maxL := 1) (own := RX9) hI (by decide) rfl rfl (Nat.le_of_ble_eq_true rfl) (fun X O hR => ?_)
  show Go X l rm_X9_finding (wM G) 1 0 [(0, .ref (G.2.1 0))] [] S
  refine go_aload_n O dX9_finding_0 rfl 0 rfl ?_
  refine go_get (k := 0) (j := 18) O (by decide : (0 : Nat) < 27) (cm_obj G (S.1 0) (S.2 0)) rfl in_X9_finding_X9 (by decide) fl_X9_finding_89 rfl rfl dX9_finding_1 ?_
  exact ret_i hF (hR _ _ dX9_finding_4)
-- X9_findings
def rm_X9_findings : Room := { frames := 1, cells := 0, slots := 0, locals := 25 }
theorem fl_X9_findings_49 : Cond.fieldLink RX9 49 "PaperWallsModel" "finds" "[I" ∈ wsX9_findings := by decide +kernel
theorem wd_X9_findings_c96 : Cond.constantLong RX9 96 (5) ∈ wsX9_findings := by decide +kernel
theorem in_X9_findings_X9 : ∀ x ∈ u_ws RX9 TX9 36, x ∈ wsX9_findings := by decide +kernel
def F_X9_findings  (S : Sg) (a1 : Int32) : Option Int32 := bd (F_X9_in S (Int32.toInt64 a1) (1 : Int64) (5 : Int64)) (fun x2 => if x2 = 0 then (some (-1 : Int32)) else (chk (inB a1 6) (some (S.1 14 a1.toNatClampNeg))))
set_option maxHeartbeats 4000000 in
set_option maxRecDepth 100000 in
theorem c_X9_findings (l : Launch) (G : Gp) (hI : Ij (wM G))  {S : Sg} {a1 : Int32} {r : Int32} (hF : F_X9_findings S a1 = some r) : Met l yX9_findings wsX9_findings rm_X9_findings (va_Pc [.ref (G.2.1 0), .int a1] (PreW (wM G) S)) (va_Qi (fun r' u => r' = r ∧ u = S) (PostW (wM G)) (AW (wM G))) 0 0 (AW (wM G)) := by
  rw [F_X9_findings] at hF
  refine met_i (cc := cX9_findings) (maxL := 2) (own := RX9) hI (by decide) rfl rfl (Nat.le_of_ble_eq_true rfl) (fun X O hR => ?_)
  show Go X l rm_X9_findings (wM G) 2 0 [(0, .ref (G.2.1 0)), (1, .int a1)] [] S
  refine go_iload_n O dX9_findings_0 rfl 1 rfl ?_
  refine go_i2l (v := Int32.toInt64 a1) O dX9_findings_1 rfl ?_
  refine go_lconst (v := (1 : Int64)) O dX9_findings_2 (by decide) ?_
  refine go_ldc2 (v := (5 : Int64)) O dX9_findings_3 wd_X9_findings_c96 ?_
  obtain ⟨x2, hA1, hF⟩ := bd_s hF
  refine go_callSi (As := [.long (Int32.toInt64 a1), .long (1 : Int64), .long (5 : Int64)]) (rest := []) O (c_X9_in l G hI hA1) (fun s args hts => va_cwS 3 hts gX9_findings_X9_in rfl rfl rfl (by decide +kernel) ⟨Nat.le_of_ble_eq_true rfl, Nat.le_of_ble_eq_true rfl⟩) rfl rfl (Nat.le_of_ble_eq_true rfl) dX9_findings_6 ?_
  refine go_if_eq (tgt := 21) O dX9_findings_9 (by decide) (fun hc4 => ?_) (fun hc4 => ?_)
  · replace hF := it_t hc4 hF
    refine go_iconst (v := (-1 : Int32)) O dX9_findings_21 (by decide) ?_
    exact ret_i hF (hR _ _ dX9_findings_22)
  · replace hF := it_f hc4 hF
    refine go_aload_n O dX9_findings_12 rfl 0 rfl ?_
    refine go_get (k := 0) (j := 19) O (by decide : (0 : Nat) < 27) (cm_obj G (S.1 0) (S.2 0)) rfl in_X9_findings_X9 (by decide) fl_X9_findings_49 rfl rfl dX9_findings_13 ?_
    refine go_iload_n O dX9_findings_16 rfl 1 rfl ?_
    obtain ⟨hb3, hF⟩ := chk_s hF
    refine go_iald (k := 14) O (by decide : (14 : Nat) < 27) (cm_14 G (S.1 14) (S.2 14)) (inB_in hb3) dX9_findings_17 ?_
    refine go_goto (tgt := 22) O dX9_findings_18 (by decide) ?_
    exact ret_i hF (hR _ _ dX9_findings_22)
-- X9_mix
def rm_X9_mix : Room := { frames := 0, cells := 0, slots := 0, locals := 0 }
theorem fl_X9_mix_291 : Cond.fieldLink RX9 291 "PaperWallsModel" "sum" "J" ∈ wsX9_mix := by decide +kernel
theorem wd_X9_mix_c289 : Cond.constantLong RX9 289 (31) ∈ wsX9_mix := by decide +kernel
theorem in_X9_mix_X9 : ∀ x ∈ u_ws RX9 TX9 36, x ∈ wsX9_mix := by decide +kernel
def F_X9_mix  (S : Sg) (a1 : Int64) : Option Sg := nm (wL S 0 35 (((31 : Int64) * (S.2 0 35)) + a1)) (fun S1 => some S1)
set_option maxHeartbeats 4000000 in
set_option maxRecDepth 100000 in
theorem c_X9_mix (l : Launch) (G : Gp) (hI : Ij (wM G))  {S : Sg} {a1 : Int64} {S1 : Sg} (hF : F_X9_mix S a1 = some S1) : Met l yX9_mix wsX9_mix rm_X9_mix (va_Pc [.ref (G.2.1 0), .long a1] (PreW (wM G) S)) (va_Qv (fun u => u = S1) (PostW (wM G)) (AW (wM G))) 0 0 (AW (wM G)) := by
  rw [F_X9_mix] at hF
  refine met_v (cc := cX9_mix) (maxL := 3) (own := RX9) hI (by decide) rfl rfl (Nat.le_of_ble_eq_true rfl) (fun X O hR => ?_)
  show Go X l rm_X9_mix (wM G) 3 0 [(0, .ref (G.2.1 0)), (1, .long a1)] [] S
  refine go_aload_n O dX9_mix_0 rfl 0 rfl ?_
  refine go_ldc2 (v := (31 : Int64)) O dX9_mix_1 wd_X9_mix_c289 ?_
  refine go_aload_n O dX9_mix_4 rfl 0 rfl ?_
  refine go_get (k := 0) (j := 35) O (by decide : (0 : Nat) < 27) (cm_obj G (S.1 0) (S.2 0)) rfl in_X9_mix_X9 (by decide) fl_X9_mix_291 rfl rfl dX9_mix_5 ?_
  refine go_lmul O dX9_mix_8 ?_
  refine go_lload_n O dX9_mix_9 rfl 1 rfl ?_
  refine go_ladd O dX9_mix_10 ?_
  obtain ⟨S1, eS1, hF⟩ := nm_s hF
  refine go_putL (k := 0) (j := 35) O (by decide : (0 : Nat) < 27) (cm_obj G (S.1 0) (S.2 0)) rfl in_X9_mix_X9 (by decide) fl_X9_mix_291 rfl tyX9 tyX9_ok nmX9 rfl (by decide +kernel) (Nat.le_of_ble_eq_true rfl) (cm_obj G (S.1 0) (vp_updL (S.2 0) 35 (((31 : Int64) * (S.2 0 35)) + a1))) dX9_mix_11 eS1 ?_
  exact ret_v hF (hR _ _ dX9_mix_14)
-- X9_digest
def rm_X9_digest : Room := { frames := 3, cells := 0, slots := 0, locals := 65 }
theorem fl_X9_digest_7 : Cond.fieldLink RX9 7 "PaperWallsModel" "rowSizes" "[I" ∈ wsX9_digest := by decide +kernel
theorem fl_X9_digest_13 : Cond.fieldLink RX9 13 "PaperWallsModel" "rows" "[I" ∈ wsX9_digest := by decide +kernel
theorem fl_X9_digest_16 : Cond.fieldLink RX9 16 "PaperWallsModel" "textSizes" "[I" ∈ wsX9_digest := by decide +kernel
theorem fl_X9_digest_19 : Cond.fieldLink RX9 19 "PaperWallsModel" "texts" "[I" ∈ wsX9_digest := by decide +kernel
theorem fl_X9_digest_28 : Cond.fieldLink RX9 28 "PaperWallsModel" "layers" "[I" ∈ wsX9_digest := by decide +kernel
theorem fl_X9_digest_31 : Cond.fieldLink RX9 31 "PaperWallsModel" "talks" "[I" ∈ wsX9_digest := by decide +kernel
theorem fl_X9_digest_37 : Cond.fieldLink RX9 37 "PaperWallsModel" "tellers" "[I" ∈ wsX9_digest := by decide +kernel
theorem fl_X9_digest_40 : Cond.fieldLink RX9 40 "PaperWallsModel" "things" "[I" ∈ wsX9_digest := by decide +kernel
theorem fl_X9_digest_83 : Cond.fieldLink RX9 83 "PaperWallsModel" "isKept" "[Z" ∈ wsX9_digest := by decide +kernel
theorem fl_X9_digest_86 : Cond.fieldLink RX9 86 "PaperWallsModel" "kept" "[I" ∈ wsX9_digest := by decide +kernel
theorem fl_X9_digest_150 : Cond.fieldLink RX9 150 "PaperWallsModel" "walls" "I" ∈ wsX9_digest := by decide +kernel
theorem fl_X9_digest_153 : Cond.fieldLink RX9 153 "PaperWallsModel" "people" "I" ∈ wsX9_digest := by decide +kernel
theorem fl_X9_digest_156 : Cond.fieldLink RX9 156 "PaperWallsModel" "talkMany" "I" ∈ wsX9_digest := by decide +kernel
theorem fl_X9_digest_159 : Cond.fieldLink RX9 159 "PaperWallsModel" "hours" "I" ∈ wsX9_digest := by decide +kernel
theorem fl_X9_digest_291 : Cond.fieldLink RX9 291 "PaperWallsModel" "sum" "J" ∈ wsX9_digest := by decide +kernel
theorem wd_X9_digest_c295 : Cond.constantLong RX9 295 (17) ∈ wsX9_digest := by decide +kernel
theorem wd_X9_digest_c304 : Cond.constantLong RX9 304 (10) ∈ wsX9_digest := by decide +kernel
theorem wd_X9_digest_c306 : Cond.constantLong RX9 306 (-1) ∈ wsX9_digest := by decide +kernel
theorem in_X9_digest_X9 : ∀ x ∈ u_ws RX9 TX9 36, x ∈ wsX9_digest := by decide +kernel
def T_X9_digest_9    : Nat → Int32 → Sg → Option (Sg)
  | 0, _, _ => none
  | n + 1, p1, S => if (9 : Int32) ≤ p1 then (some S) else (bd (F_X9_count S p1) (fun x4 => bd (F_X9_mix S (Int32.toInt64 x4)) (fun S6 => T_X9_digest_9 n (p1 + (1 : Int32)) S6)))
set_option maxHeartbeats 4000000 in
set_option maxRecDepth 100000 in
theorem lt_X9_digest_9 {X : XT} (l : Launch) (G : Gp) (hI : Ij (wM G))   (O : Ok X (wM G) cX9_digest RX9 wsX9_digest 3) : ∀ (n : Nat) (p1 : Int32) (S : Sg) (q : (Sg)), T_X9_digest_9 n p1 S = some q → (Go X l rm_X9_digest (wM G) 3 31 [(0, .ref (G.2.1 0))] [] q) → Go X l rm_X9_digest (wM G) 3 9 [(0, .ref (G.2.1 0)), (1, .int p1)] [] S := by
  intro n
  induction n with
  | zero =>
    intro p1 S q hF
    cases hF
  | succ n ih =>
    intro p1 S q hF hE
    rw [T_X9_digest_9] at hF
    refine go_iload_n O dX9_digest_9 rfl 1 rfl ?_
    refine go_bipush (v := (9 : Int32)) O dX9_digest_10 (by decide) ?_
    refine go_icmp_ge (tgt := 31) O dX9_digest_12 (by decide) (fun hc7 => ?_) (fun hc7 => ?_)
    · replace hF := it_t hc7 hF
      refine go_perm (ls' := [(0, .ref (G.2.1 0))]) [0] rfl ?_
      exact jn (P := fun q => Go X l rm_X9_digest (wM G) 3 31 [(0, .ref (G.2.1 0))] [] q) hF hE
    · replace hF := it_f hc7 hF
      refine go_aload_n O dX9_digest_15 rfl 0 rfl ?_
      refine go_aload_n O dX9_digest_16 rfl 0 rfl ?_
      refine go_iload_n O dX9_digest_17 rfl 1 rfl ?_
      obtain ⟨x4, hA3, hF⟩ := bd_s hF
      refine go_callVi (As := [.int p1]) (rest := [.ref (G.2.1 0)]) (b := 0) O (c_X9_count l G hI hA3) (fun s args hts => cwV 1 hts gX9_digest_X9_count rfl rfl rfl (by decide +kernel) ⟨Nat.le_of_ble_eq_true rfl, Nat.le_of_ble_eq_true rfl⟩) (by decide : (0 : Nat) < 27) (cm_obj G (S.1 0) (S.2 0)) rfl rfl rfl rfl (Nat.le_of_ble_eq_true rfl) dX9_digest_18 ?_
      refine go_i2l (v := Int32.toInt64 x4) O dX9_digest_21 rfl ?_
      obtain ⟨S6, hA5, hF⟩ := bd_s hF
      refine go_callVv (As := [.long (Int32.toInt64 x4)]) (rest := []) (b := 0) O (c_X9_mix l G hI hA5) (fun s args hts => cwV 1 hts gX9_digest_X9_mix rfl rfl rfl (by decide +kernel) ⟨Nat.le_of_ble_eq_true rfl, Nat.le_of_ble_eq_true rfl⟩) (by decide : (0 : Nat) < 27) (cm_obj G (S.1 0) (S.2 0)) rfl rfl rfl rfl (Nat.le_of_ble_eq_true rfl) dX9_digest_22 ?_
      refine go_iinc (d := (1 : Int32)) (ls' := [(1, .int (p1 + (1 : Int32))), (0, .ref (G.2.1 0))]) O dX9_digest_25 1 rfl (by decide) (by decide) rfl ?_
      refine go_goto (tgt := 9) O dX9_digest_28 (by decide) ?_
      refine go_perm (ls' := [(0, .ref (G.2.1 0)), (1, .int (p1 + (1 : Int32)))]) [1, 0] rfl ?_
      exact ih _ _ _ hF hE
def T_X9_digest_33    : Nat → Int32 → Sg → Option (Sg)
  | 0, _, _ => none
  | n + 1, p1, S => if (S.1 0 8) ≤ p1 then (some S) else (chk (inB p1 6) (bd (F_X9_mix S (Int32.toInt64 (S.1 7 p1.toNatClampNeg))) (fun S12 => T_X9_digest_33 n (p1 + (1 : Int32)) S12)))
set_option maxHeartbeats 4000000 in
set_option maxRecDepth 100000 in
theorem lt_X9_digest_33 {X : XT} (l : Launch) (G : Gp) (hI : Ij (wM G))   (O : Ok X (wM G) cX9_digest RX9 wsX9_digest 3) : ∀ (n : Nat) (p1 : Int32) (S : Sg) (q : (Sg)), T_X9_digest_33 n p1 S = some q → (Go X l rm_X9_digest (wM G) 3 58 [(0, .ref (G.2.1 0))] [] q) → Go X l rm_X9_digest (wM G) 3 33 [(0, .ref (G.2.1 0)), (1, .int p1)] [] S := by
  intro n
  induction n with
  | zero =>
    intro p1 S q hF
    cases hF
  | succ n ih =>
    intro p1 S q hF hE
    rw [T_X9_digest_33] at hF
    refine go_iload_n O dX9_digest_33 rfl 1 rfl ?_
    refine go_aload_n O dX9_digest_34 rfl 0 rfl ?_
    refine go_get (k := 0) (j := 8) O (by decide : (0 : Nat) < 27) (cm_obj G (S.1 0) (S.2 0)) rfl in_X9_digest_X9 (by decide) fl_X9_digest_150 rfl rfl dX9_digest_35 ?_
    refine go_icmp_ge (tgt := 58) O dX9_digest_38 (by decide) (fun hc13 => ?_) (fun hc13 => ?_)
    · replace hF := it_t hc13 hF
      refine go_perm (ls' := [(0, .ref (G.2.1 0))]) [0] rfl ?_
      exact jn (P := fun q => Go X l rm_X9_digest (wM G) 3 58 [(0, .ref (G.2.1 0))] [] q) hF hE
    · replace hF := it_f hc13 hF
      refine go_aload_n O dX9_digest_41 rfl 0 rfl ?_
      refine go_aload_n O dX9_digest_42 rfl 0 rfl ?_
      refine go_get (k := 0) (j := 6) O (by decide : (0 : Nat) < 27) (cm_obj G (S.1 0) (S.2 0)) rfl in_X9_digest_X9 (by decide) fl_X9_digest_28 rfl rfl dX9_digest_43 ?_
      refine go_iload_n O dX9_digest_46 rfl 1 rfl ?_
      obtain ⟨hb10, hF⟩ := chk_s hF
      refine go_iald (k := 7) O (by decide : (7 : Nat) < 27) (cm_7 G (S.1 7) (S.2 7)) (inB_in hb10) dX9_digest_47 ?_
      refine go_i2l (v := Int32.toInt64 (S.1 7 p1.toNatClampNeg)) O dX9_digest_48 rfl ?_
      obtain ⟨S12, hA11, hF⟩ := bd_s hF
      refine go_callVv (As := [.long (Int32.toInt64 (S.1 7 p1.toNatClampNeg))]) (rest := []) (b := 0) O (c_X9_mix l G hI hA11) (fun s args hts => cwV 1 hts gX9_digest_X9_mix rfl rfl rfl (by decide +kernel) ⟨Nat.le_of_ble_eq_true rfl, Nat.le_of_ble_eq_true rfl⟩) (by decide : (0 : Nat) < 27) (cm_obj G (S.1 0) (S.2 0)) rfl rfl rfl rfl (Nat.le_of_ble_eq_true rfl) dX9_digest_49 ?_
      refine go_iinc (d := (1 : Int32)) (ls' := [(1, .int (p1 + (1 : Int32))), (0, .ref (G.2.1 0))]) O dX9_digest_52 1 rfl (by decide) (by decide) rfl ?_
      refine go_goto (tgt := 33) O dX9_digest_55 (by decide) ?_
      refine go_perm (ls' := [(0, .ref (G.2.1 0)), (1, .int (p1 + (1 : Int32)))]) [1, 0] rfl ?_
      exact ih _ _ _ hF hE
def T_X9_digest_60    : Nat → Int32 → Sg → Option (Sg)
  | 0, _, _ => none
  | n + 1, p1, S => if ((5 : Int32) * (S.1 0 7)) ≤ p1 then (some S) else (bd (F_X9_personOf S (p1 / (5 : Int32)) (p1 - p1 / (5 : Int32) * (5 : Int32))) (fun x17 => bd (F_X9_mix S (Int32.toInt64 x17)) (fun S19 => T_X9_digest_60 n (p1 + (1 : Int32)) S19)))
set_option maxHeartbeats 4000000 in
set_option maxRecDepth 100000 in
theorem lt_X9_digest_60 {X : XT} (l : Launch) (G : Gp) (hI : Ij (wM G))   (O : Ok X (wM G) cX9_digest RX9 wsX9_digest 3) : ∀ (n : Nat) (p1 : Int32) (S : Sg) (q : (Sg)), T_X9_digest_60 n p1 S = some q → (Go X l rm_X9_digest (wM G) 3 91 [(0, .ref (G.2.1 0))] [] q) → Go X l rm_X9_digest (wM G) 3 60 [(0, .ref (G.2.1 0)), (1, .int p1)] [] S := by
  intro n
  induction n with
  | zero =>
    intro p1 S q hF
    cases hF
  | succ n ih =>
    intro p1 S q hF hE
    rw [T_X9_digest_60] at hF
    refine go_iload_n O dX9_digest_60 rfl 1 rfl ?_
    refine go_iconst (v := (5 : Int32)) O dX9_digest_61 (by decide) ?_
    refine go_aload_n O dX9_digest_62 rfl 0 rfl ?_
    refine go_get (k := 0) (j := 7) O (by decide : (0 : Nat) < 27) (cm_obj G (S.1 0) (S.2 0)) rfl in_X9_digest_X9 (by decide) fl_X9_digest_153 rfl rfl dX9_digest_63 ?_
    refine go_imul O dX9_digest_66 ?_
    refine go_icmp_ge (tgt := 91) O dX9_digest_67 (by decide) (fun hc20 => ?_) (fun hc20 => ?_)
    · replace hF := it_t hc20 hF
      refine go_perm (ls' := [(0, .ref (G.2.1 0))]) [0] rfl ?_
      exact jn (P := fun q => Go X l rm_X9_digest (wM G) 3 91 [(0, .ref (G.2.1 0))] [] q) hF hE
    · replace hF := it_f hc20 hF
      refine go_aload_n O dX9_digest_70 rfl 0 rfl ?_
      refine go_aload_n O dX9_digest_71 rfl 0 rfl ?_
      refine go_iload_n O dX9_digest_72 rfl 1 rfl ?_
      refine go_iconst (v := (5 : Int32)) O dX9_digest_73 (by decide) ?_
      refine go_idiv O dX9_digest_74 (by decide) ?_
      refine go_iload_n O dX9_digest_75 rfl 1 rfl ?_
      refine go_iconst (v := (5 : Int32)) O dX9_digest_76 (by decide) ?_
      refine go_irem O dX9_digest_77 (by decide) ?_
      obtain ⟨x17, hA16, hF⟩ := bd_s hF
      refine go_callVi (As := [.int (p1 / (5 : Int32)), .int (p1 - p1 / (5 : Int32) * (5 : Int32))]) (rest := [.ref (G.2.1 0)]) (b := 0) O (c_X9_personOf l G hI hA16) (fun s args hts => cwV 2 hts gX9_digest_X9_personOf rfl rfl rfl (by decide +kernel) ⟨Nat.le_of_ble_eq_true rfl, Nat.le_of_ble_eq_true rfl⟩) (by decide : (0 : Nat) < 27) (cm_obj G (S.1 0) (S.2 0)) rfl rfl rfl rfl (Nat.le_of_ble_eq_true rfl) dX9_digest_78 ?_
      refine go_i2l (v := Int32.toInt64 x17) O dX9_digest_81 rfl ?_
      obtain ⟨S19, hA18, hF⟩ := bd_s hF
      refine go_callVv (As := [.long (Int32.toInt64 x17)]) (rest := []) (b := 0) O (c_X9_mix l G hI hA18) (fun s args hts => cwV 1 hts gX9_digest_X9_mix rfl rfl rfl (by decide +kernel) ⟨Nat.le_of_ble_eq_true rfl, Nat.le_of_ble_eq_true rfl⟩) (by decide : (0 : Nat) < 27) (cm_obj G (S.1 0) (S.2 0)) rfl rfl rfl rfl (Nat.le_of_ble_eq_true rfl) dX9_digest_82 ?_
      refine go_iinc (d := (1 : Int32)) (ls' := [(1, .int (p1 + (1 : Int32))), (0, .ref (G.2.1 0))]) O dX9_digest_85 1 rfl (by decide) (by decide) rfl ?_
      refine go_goto (tgt := 60) O dX9_digest_88 (by decide) ?_
      refine go_perm (ls' := [(0, .ref (G.2.1 0)), (1, .int (p1 + (1 : Int32)))]) [1, 0] rfl ?_
      exact ih _ _ _ hF hE
def T_X9_digest_93    : Nat → Int32 → Sg → Option (Sg)
  | 0, _, _ => none
  | n + 1, p1, S => if ((3 : Int32) * (S.1 0 10)) ≤ p1 then (some S) else (chk (inB p1 24) (bd (F_X9_mix S (Int32.toInt64 (S.1 8 p1.toNatClampNeg))) (fun S25 => T_X9_digest_93 n (p1 + (1 : Int32)) S25)))
set_option maxHeartbeats 4000000 in
set_option maxRecDepth 100000 in
theorem lt_X9_digest_93 {X : XT} (l : Launch) (G : Gp) (hI : Ij (wM G))   (O : Ok X (wM G) cX9_digest RX9 wsX9_digest 3) : ∀ (n : Nat) (p1 : Int32) (S : Sg) (q : (Sg)), T_X9_digest_93 n p1 S = some q → (Go X l rm_X9_digest (wM G) 3 120 [(0, .ref (G.2.1 0))] [] q) → Go X l rm_X9_digest (wM G) 3 93 [(0, .ref (G.2.1 0)), (1, .int p1)] [] S := by
  intro n
  induction n with
  | zero =>
    intro p1 S q hF
    cases hF
  | succ n ih =>
    intro p1 S q hF hE
    rw [T_X9_digest_93] at hF
    refine go_iload_n O dX9_digest_93 rfl 1 rfl ?_
    refine go_iconst (v := (3 : Int32)) O dX9_digest_94 (by decide) ?_
    refine go_aload_n O dX9_digest_95 rfl 0 rfl ?_
    refine go_get (k := 0) (j := 10) O (by decide : (0 : Nat) < 27) (cm_obj G (S.1 0) (S.2 0)) rfl in_X9_digest_X9 (by decide) fl_X9_digest_156 rfl rfl dX9_digest_96 ?_
    refine go_imul O dX9_digest_99 ?_
    refine go_icmp_ge (tgt := 120) O dX9_digest_100 (by decide) (fun hc26 => ?_) (fun hc26 => ?_)
    · replace hF := it_t hc26 hF
      refine go_perm (ls' := [(0, .ref (G.2.1 0))]) [0] rfl ?_
      exact jn (P := fun q => Go X l rm_X9_digest (wM G) 3 120 [(0, .ref (G.2.1 0))] [] q) hF hE
    · replace hF := it_f hc26 hF
      refine go_aload_n O dX9_digest_103 rfl 0 rfl ?_
      refine go_aload_n O dX9_digest_104 rfl 0 rfl ?_
      refine go_get (k := 0) (j := 9) O (by decide : (0 : Nat) < 27) (cm_obj G (S.1 0) (S.2 0)) rfl in_X9_digest_X9 (by decide) fl_X9_digest_31 rfl rfl dX9_digest_105 ?_
      refine go_iload_n O dX9_digest_108 rfl 1 rfl ?_
      obtain ⟨hb23, hF⟩ := chk_s hF
      refine go_iald (k := 8) O (by decide : (8 : Nat) < 27) (cm_8 G (S.1 8) (S.2 8)) (inB_in hb23) dX9_digest_109 ?_
      refine go_i2l (v := Int32.toInt64 (S.1 8 p1.toNatClampNeg)) O dX9_digest_110 rfl ?_
      obtain ⟨S25, hA24, hF⟩ := bd_s hF
      refine go_callVv (As := [.long (Int32.toInt64 (S.1 8 p1.toNatClampNeg))]) (rest := []) (b := 0) O (c_X9_mix l G hI hA24) (fun s args hts => cwV 1 hts gX9_digest_X9_mix rfl rfl rfl (by decide +kernel) ⟨Nat.le_of_ble_eq_true rfl, Nat.le_of_ble_eq_true rfl⟩) (by decide : (0 : Nat) < 27) (cm_obj G (S.1 0) (S.2 0)) rfl rfl rfl rfl (Nat.le_of_ble_eq_true rfl) dX9_digest_111 ?_
      refine go_iinc (d := (1 : Int32)) (ls' := [(1, .int (p1 + (1 : Int32))), (0, .ref (G.2.1 0))]) O dX9_digest_114 1 rfl (by decide) (by decide) rfl ?_
      refine go_goto (tgt := 93) O dX9_digest_117 (by decide) ?_
      refine go_perm (ls' := [(0, .ref (G.2.1 0)), (1, .int (p1 + (1 : Int32)))]) [1, 0] rfl ?_
      exact ih _ _ _ hF hE
def T_X9_digest_122    : Nat → Int32 → Sg → Option (Sg)
  | 0, _, _ => none
  | n + 1, p1, S => if (S.1 0 16) ≤ p1 then (some S) else (chk (inB p1 40) (chk (inB p1 40) (bd (F_X9_mix S (((10 : Int64) * (Int32.toInt64 (S.1 10 p1.toNatClampNeg))) + (Int32.toInt64 (S.1 11 p1.toNatClampNeg)))) (fun S32 => T_X9_digest_122 n (p1 + (1 : Int32)) S32))))
set_option maxHeartbeats 4000000 in
set_option maxRecDepth 100000 in
theorem lt_X9_digest_122 {X : XT} (l : Launch) (G : Gp) (hI : Ij (wM G))   (O : Ok X (wM G) cX9_digest RX9 wsX9_digest 3) : ∀ (n : Nat) (p1 : Int32) (S : Sg) (q : (Sg)), T_X9_digest_122 n p1 S = some q → (Go X l rm_X9_digest (wM G) 3 159 [(0, .ref (G.2.1 0))] [] q) → Go X l rm_X9_digest (wM G) 3 122 [(0, .ref (G.2.1 0)), (1, .int p1)] [] S := by
  intro n
  induction n with
  | zero =>
    intro p1 S q hF
    cases hF
  | succ n ih =>
    intro p1 S q hF hE
    rw [T_X9_digest_122] at hF
    refine go_iload_n O dX9_digest_122 rfl 1 rfl ?_
    refine go_aload_n O dX9_digest_123 rfl 0 rfl ?_
    refine go_get (k := 0) (j := 16) O (by decide : (0 : Nat) < 27) (cm_obj G (S.1 0) (S.2 0)) rfl in_X9_digest_X9 (by decide) fl_X9_digest_159 rfl rfl dX9_digest_124 ?_
    refine go_icmp_ge (tgt := 159) O dX9_digest_127 (by decide) (fun hc33 => ?_) (fun hc33 => ?_)
    · replace hF := it_t hc33 hF
      refine go_perm (ls' := [(0, .ref (G.2.1 0))]) [0] rfl ?_
      exact jn (P := fun q => Go X l rm_X9_digest (wM G) 3 159 [(0, .ref (G.2.1 0))] [] q) hF hE
    · replace hF := it_f hc33 hF
      refine go_aload_n O dX9_digest_130 rfl 0 rfl ?_
      refine go_ldc2 (v := (10 : Int64)) O dX9_digest_131 wd_X9_digest_c304 ?_
      refine go_aload_n O dX9_digest_134 rfl 0 rfl ?_
      refine go_get (k := 0) (j := 12) O (by decide : (0 : Nat) < 27) (cm_obj G (S.1 0) (S.2 0)) rfl in_X9_digest_X9 (by decide) fl_X9_digest_37 rfl rfl dX9_digest_135 ?_
      refine go_iload_n O dX9_digest_138 rfl 1 rfl ?_
      obtain ⟨hb29, hF⟩ := chk_s hF
      refine go_iald (k := 10) O (by decide : (10 : Nat) < 27) (cm_10 G (S.1 10) (S.2 10)) (inB_in hb29) dX9_digest_139 ?_
      refine go_i2l (v := Int32.toInt64 (S.1 10 p1.toNatClampNeg)) O dX9_digest_140 rfl ?_
      refine go_lmul O dX9_digest_141 ?_
      refine go_aload_n O dX9_digest_142 rfl 0 rfl ?_
      refine go_get (k := 0) (j := 13) O (by decide : (0 : Nat) < 27) (cm_obj G (S.1 0) (S.2 0)) rfl in_X9_digest_X9 (by decide) fl_X9_digest_40 rfl rfl dX9_digest_143 ?_
      refine go_iload_n O dX9_digest_146 rfl 1 rfl ?_
      obtain ⟨hb30, hF⟩ := chk_s hF
      refine go_iald (k := 11) O (by decide : (11 : Nat) < 27) (cm_11 G (S.1 11) (S.2 11)) (inB_in hb30) dX9_digest_147 ?_
      refine go_i2l (v := Int32.toInt64 (S.1 11 p1.toNatClampNeg)) O dX9_digest_148 rfl ?_
      refine go_ladd O dX9_digest_149 ?_
      obtain ⟨S32, hA31, hF⟩ := bd_s hF
      refine go_callVv (As := [.long (((10 : Int64) * (Int32.toInt64 (S.1 10 p1.toNatClampNeg))) + (Int32.toInt64 (S.1 11 p1.toNatClampNeg)))]) (rest := []) (b := 0) O (c_X9_mix l G hI hA31) (fun s args hts => cwV 1 hts gX9_digest_X9_mix rfl rfl rfl (by decide +kernel) ⟨Nat.le_of_ble_eq_true rfl, Nat.le_of_ble_eq_true rfl⟩) (by decide : (0 : Nat) < 27) (cm_obj G (S.1 0) (S.2 0)) rfl rfl rfl rfl (Nat.le_of_ble_eq_true rfl) dX9_digest_150 ?_
      refine go_iinc (d := (1 : Int32)) (ls' := [(1, .int (p1 + (1 : Int32))), (0, .ref (G.2.1 0))]) O dX9_digest_153 1 rfl (by decide) (by decide) rfl ?_
      refine go_goto (tgt := 122) O dX9_digest_156 (by decide) ?_
      refine go_perm (ls' := [(0, .ref (G.2.1 0)), (1, .int (p1 + (1 : Int32)))]) [1, 0] rfl ?_
      exact ih _ _ _ hF hE
def T_X9_digest_161    : Nat → Int32 → Sg → Option (Sg)
  | 0, _, _ => none
  | n + 1, p1, S => if (3 : Int32) ≤ p1 then (some S) else (chk (inB p1 3) (bd (if (S.1 25 p1.toNatClampNeg) = 0 then (some (-1 : Int64)) else (chk (inB (((488 : Int32) * p1) + (486 : Int32)) 1464) (some (Int32.toInt64 (S.1 26 (((488 : Int32) * p1) + (486 : Int32)).toNatClampNeg))))) (fun x37 => bd (F_X9_mix S x37) (fun S43 => T_X9_digest_161 n (p1 + (1 : Int32)) S43))))
set_option maxHeartbeats 4000000 in
set_option maxRecDepth 100000 in
theorem lt_X9_digest_161 {X : XT} (l : Launch) (G : Gp) (hI : Ij (wM G))   (O : Ok X (wM G) cX9_digest RX9 wsX9_digest 3) : ∀ (n : Nat) (p1 : Int32) (S : Sg) (q : (Sg)), T_X9_digest_161 n p1 S = some q → (Go X l rm_X9_digest (wM G) 3 206 [(0, .ref (G.2.1 0))] [] q) → Go X l rm_X9_digest (wM G) 3 161 [(0, .ref (G.2.1 0)), (1, .int p1)] [] S := by
  intro n
  induction n with
  | zero =>
    intro p1 S q hF
    cases hF
  | succ n ih =>
    intro p1 S q hF hE
    rw [T_X9_digest_161] at hF
    refine go_iload_n O dX9_digest_161 rfl 1 rfl ?_
    refine go_iconst (v := (3 : Int32)) O dX9_digest_162 (by decide) ?_
    refine go_icmp_ge (tgt := 206) O dX9_digest_163 (by decide) (fun hc44 => ?_) (fun hc44 => ?_)
    · replace hF := it_t hc44 hF
      refine go_perm (ls' := [(0, .ref (G.2.1 0))]) [0] rfl ?_
      exact jn (P := fun q => Go X l rm_X9_digest (wM G) 3 206 [(0, .ref (G.2.1 0))] [] q) hF hE
    · replace hF := it_f hc44 hF
      refine go_aload_n O dX9_digest_166 rfl 0 rfl ?_
      refine go_aload_n O dX9_digest_167 rfl 0 rfl ?_
      refine go_get (k := 0) (j := 33) O (by decide : (0 : Nat) < 27) (cm_obj G (S.1 0) (S.2 0)) rfl in_X9_digest_X9 (by decide) fl_X9_digest_83 rfl rfl dX9_digest_168 ?_
      refine go_iload_n O dX9_digest_171 rfl 1 rfl ?_
      obtain ⟨hb36, hF⟩ := chk_s hF
      refine go_zald (k := 25) O (by decide : (25 : Nat) < 27) (cm_25 G (S.1 25) (S.2 25)) (inB_in hb36) dX9_digest_172 ?_
      obtain ⟨x37, hA39, hF⟩ := bd_s hF
      have J38 : Go X l rm_X9_digest (wM G) 3 197 [(0, .ref (G.2.1 0)), (1, .int p1)] [.long x37, .ref (G.2.1 0)] S := by
        obtain ⟨S43, hA42, hF⟩ := bd_s hF
        refine go_callVv (As := [.long x37]) (rest := []) (b := 0) O (c_X9_mix l G hI hA42) (fun s args hts => cwV 1 hts gX9_digest_X9_mix rfl rfl rfl (by decide +kernel) ⟨Nat.le_of_ble_eq_true rfl, Nat.le_of_ble_eq_true rfl⟩) (by decide : (0 : Nat) < 27) (cm_obj G (S.1 0) (S.2 0)) rfl rfl rfl rfl (Nat.le_of_ble_eq_true rfl) dX9_digest_197 ?_
        refine go_iinc (d := (1 : Int32)) (ls' := [(1, .int (p1 + (1 : Int32))), (0, .ref (G.2.1 0))]) O dX9_digest_200 1 rfl (by decide) (by decide) rfl ?_
        refine go_goto (tgt := 161) O dX9_digest_203 (by decide) ?_
        refine go_perm (ls' := [(0, .ref (G.2.1 0)), (1, .int (p1 + (1 : Int32)))]) [1, 0] rfl ?_
        exact ih _ _ _ hF hE
      replace hF := hA39
      refine go_if_eq (tgt := 194) O dX9_digest_173 (by decide) (fun hc41 => ?_) (fun hc41 => ?_)
      · replace hF := it_t hc41 hF
        refine go_ldc2 (v := (-1 : Int64)) O dX9_digest_194 wd_X9_digest_c306 ?_
        exact jn (P := fun q => Go X l rm_X9_digest (wM G) 3 197 [(0, .ref (G.2.1 0)), (1, .int p1)] [.long q, .ref (G.2.1 0)] S) hF J38
      · replace hF := it_f hc41 hF
        refine go_aload_n O dX9_digest_176 rfl 0 rfl ?_
        refine go_get (k := 0) (j := 34) O (by decide : (0 : Nat) < 27) (cm_obj G (S.1 0) (S.2 0)) rfl in_X9_digest_X9 (by decide) fl_X9_digest_86 rfl rfl dX9_digest_177 ?_
        refine go_sipush (v := (488 : Int32)) O dX9_digest_180 (by decide) ?_
        refine go_iload_n O dX9_digest_183 rfl 1 rfl ?_
        refine go_imul O dX9_digest_184 ?_
        refine go_sipush (v := (486 : Int32)) O dX9_digest_185 (by decide) ?_
        refine go_iadd O dX9_digest_188 ?_
        obtain ⟨hb40, hF⟩ := chk_s hF
        refine go_iald (k := 26) O (by decide : (26 : Nat) < 27) (cm_26 G (S.1 26) (S.2 26)) (inB_in hb40) dX9_digest_189 ?_
        refine go_i2l (v := Int32.toInt64 (S.1 26 (((488 : Int32) * p1) + (486 : Int32)).toNatClampNeg)) O dX9_digest_190 rfl ?_
        refine go_goto (tgt := 197) O dX9_digest_191 (by decide) ?_
        exact jn (P := fun q => Go X l rm_X9_digest (wM G) 3 197 [(0, .ref (G.2.1 0)), (1, .int p1)] [.long q, .ref (G.2.1 0)] S) hF J38
def T_X9_digest_227   (p1 : Int32) : Nat → Int32 → Sg → Option (Sg)
  | 0, _, _ => none
  | n + 1, p2, S => chk (inB p1 6) (if (S.1 1 p1.toNatClampNeg) ≤ p2 then (some S) else (chk (inB (((40 : Int32) * p1) + p2) 240) (bd (F_X9_mix S (Int32.toInt64 (S.1 2 (((40 : Int32) * p1) + p2).toNatClampNeg))) (fun S54 => T_X9_digest_227 p1 n (p2 + (1 : Int32)) S54))))
set_option maxHeartbeats 4000000 in
set_option maxRecDepth 100000 in
theorem lt_X9_digest_227 {X : XT} (l : Launch) (G : Gp) (hI : Ij (wM G))   {p1 : Int32} (O : Ok X (wM G) cX9_digest RX9 wsX9_digest 3) : ∀ (n : Nat) (p2 : Int32) (S : Sg) (q : (Sg)), T_X9_digest_227 p1 n p2 S = some q → (Go X l rm_X9_digest (wM G) 3 259 [(0, .ref (G.2.1 0)), (1, .int p1)] [] q) → Go X l rm_X9_digest (wM G) 3 227 [(0, .ref (G.2.1 0)), (1, .int p1), (2, .int p2)] [] S := by
  intro n
  induction n with
  | zero =>
    intro p2 S q hF
    cases hF
  | succ n ih =>
    intro p2 S q hF hE
    rw [T_X9_digest_227] at hF
    refine go_iload_n O dX9_digest_227 rfl 2 rfl ?_
    refine go_aload_n O dX9_digest_228 rfl 0 rfl ?_
    refine go_get (k := 0) (j := 0) O (by decide : (0 : Nat) < 27) (cm_obj G (S.1 0) (S.2 0)) rfl in_X9_digest_X9 (by decide) fl_X9_digest_7 rfl rfl dX9_digest_229 ?_
    refine go_iload_n O dX9_digest_232 rfl 1 rfl ?_
    obtain ⟨hb51, hF⟩ := chk_s hF
    refine go_iald (k := 1) O (by decide : (1 : Nat) < 27) (cm_1 G (S.1 1) (S.2 1)) (inB_in hb51) dX9_digest_233 ?_
    refine go_icmp_ge (tgt := 259) O dX9_digest_234 (by decide) (fun hc55 => ?_) (fun hc55 => ?_)
    · replace hF := it_t hc55 hF
      refine go_perm (ls' := [(0, .ref (G.2.1 0)), (1, .int p1)]) [0, 1] rfl ?_
      exact jn (P := fun q => Go X l rm_X9_digest (wM G) 3 259 [(0, .ref (G.2.1 0)), (1, .int p1)] [] q) hF hE
    · replace hF := it_f hc55 hF
      refine go_aload_n O dX9_digest_237 rfl 0 rfl ?_
      refine go_aload_n O dX9_digest_238 rfl 0 rfl ?_
      refine go_get (k := 0) (j := 1) O (by decide : (0 : Nat) < 27) (cm_obj G (S.1 0) (S.2 0)) rfl in_X9_digest_X9 (by decide) fl_X9_digest_13 rfl rfl dX9_digest_239 ?_
      refine go_bipush (v := (40 : Int32)) O dX9_digest_242 (by decide) ?_
      refine go_iload_n O dX9_digest_244 rfl 1 rfl ?_
      refine go_imul O dX9_digest_245 ?_
      refine go_iload_n O dX9_digest_246 rfl 2 rfl ?_
      refine go_iadd O dX9_digest_247 ?_
      obtain ⟨hb52, hF⟩ := chk_s hF
      refine go_iald (k := 2) O (by decide : (2 : Nat) < 27) (cm_2 G (S.1 2) (S.2 2)) (inB_in hb52) dX9_digest_248 ?_
      refine go_i2l (v := Int32.toInt64 (S.1 2 (((40 : Int32) * p1) + p2).toNatClampNeg)) O dX9_digest_249 rfl ?_
      obtain ⟨S54, hA53, hF⟩ := bd_s hF
      refine go_callVv (As := [.long (Int32.toInt64 (S.1 2 (((40 : Int32) * p1) + p2).toNatClampNeg))]) (rest := []) (b := 0) O (c_X9_mix l G hI hA53) (fun s args hts => cwV 1 hts gX9_digest_X9_mix rfl rfl rfl (by decide +kernel) ⟨Nat.le_of_ble_eq_true rfl, Nat.le_of_ble_eq_true rfl⟩) (by decide : (0 : Nat) < 27) (cm_obj G (S.1 0) (S.2 0)) rfl rfl rfl rfl (Nat.le_of_ble_eq_true rfl) dX9_digest_250 ?_
      refine go_iinc (d := (1 : Int32)) (ls' := [(2, .int (p2 + (1 : Int32))), (0, .ref (G.2.1 0)), (1, .int p1)]) O dX9_digest_253 2 rfl (by decide) (by decide) rfl ?_
      refine go_goto (tgt := 227) O dX9_digest_256 (by decide) ?_
      refine go_perm (ls' := [(0, .ref (G.2.1 0)), (1, .int p1), (2, .int (p2 + (1 : Int32)))]) [1, 2, 0] rfl ?_
      exact ih _ _ _ hF hE
def T_X9_digest_208    : Nat → Int32 → Sg → Option (Sg)
  | 0, _, _ => none
  | n + 1, p1, S => if (6 : Int32) ≤ p1 then (some S) else (chk (inB p1 6) (bd (F_X9_mix S (Int32.toInt64 (S.1 1 p1.toNatClampNeg))) (fun S49 => bd (T_X9_digest_227 p1 FU (0 : Int32) S49) (fun S50 => T_X9_digest_208 n (p1 + (1 : Int32)) S50))))
set_option maxHeartbeats 4000000 in
set_option maxRecDepth 100000 in
theorem lt_X9_digest_208 {X : XT} (l : Launch) (G : Gp) (hI : Ij (wM G))   (O : Ok X (wM G) cX9_digest RX9 wsX9_digest 3) : ∀ (n : Nat) (p1 : Int32) (S : Sg) (q : (Sg)), T_X9_digest_208 n p1 S = some q → (Go X l rm_X9_digest (wM G) 3 265 [(0, .ref (G.2.1 0))] [] q) → Go X l rm_X9_digest (wM G) 3 208 [(0, .ref (G.2.1 0)), (1, .int p1)] [] S := by
  intro n
  induction n with
  | zero =>
    intro p1 S q hF
    cases hF
  | succ n ih =>
    intro p1 S q hF hE
    rw [T_X9_digest_208] at hF
    refine go_iload_n O dX9_digest_208 rfl 1 rfl ?_
    refine go_bipush (v := (6 : Int32)) O dX9_digest_209 (by decide) ?_
    refine go_icmp_ge (tgt := 265) O dX9_digest_211 (by decide) (fun hc57 => ?_) (fun hc57 => ?_)
    · replace hF := it_t hc57 hF
      refine go_perm (ls' := [(0, .ref (G.2.1 0))]) [0] rfl ?_
      exact jn (P := fun q => Go X l rm_X9_digest (wM G) 3 265 [(0, .ref (G.2.1 0))] [] q) hF hE
    · replace hF := it_f hc57 hF
      refine go_aload_n O dX9_digest_214 rfl 0 rfl ?_
      refine go_aload_n O dX9_digest_215 rfl 0 rfl ?_
      refine go_get (k := 0) (j := 0) O (by decide : (0 : Nat) < 27) (cm_obj G (S.1 0) (S.2 0)) rfl in_X9_digest_X9 (by decide) fl_X9_digest_7 rfl rfl dX9_digest_216 ?_
      refine go_iload_n O dX9_digest_219 rfl 1 rfl ?_
      obtain ⟨hb47, hF⟩ := chk_s hF
      refine go_iald (k := 1) O (by decide : (1 : Nat) < 27) (cm_1 G (S.1 1) (S.2 1)) (inB_in hb47) dX9_digest_220 ?_
      refine go_i2l (v := Int32.toInt64 (S.1 1 p1.toNatClampNeg)) O dX9_digest_221 rfl ?_
      obtain ⟨S49, hA48, hF⟩ := bd_s hF
      refine go_callVv (As := [.long (Int32.toInt64 (S.1 1 p1.toNatClampNeg))]) (rest := []) (b := 0) O (c_X9_mix l G hI hA48) (fun s args hts => cwV 1 hts gX9_digest_X9_mix rfl rfl rfl (by decide +kernel) ⟨Nat.le_of_ble_eq_true rfl, Nat.le_of_ble_eq_true rfl⟩) (by decide : (0 : Nat) < 27) (cm_obj G (S.1 0) (S.2 0)) rfl rfl rfl rfl (Nat.le_of_ble_eq_true rfl) dX9_digest_222 ?_
      refine go_iconst (v := (0 : Int32)) O dX9_digest_225 (by decide) ?_
      refine go_istore_n (ls' := [(2, .int (0 : Int32)), (0, .ref (G.2.1 0)), (1, .int p1)]) O dX9_digest_226 rfl (by decide) rfl ?_
      refine go_perm (ls' := [(0, .ref (G.2.1 0)), (1, .int p1), (2, .int (0 : Int32))]) [1, 2, 0] rfl ?_
      obtain ⟨S50, hA56, hF⟩ := bd_s hF
      refine lt_X9_digest_227 l G hI  O _ _ _ _ hA56 ?_
      refine go_iinc (d := (1 : Int32)) (ls' := [(1, .int (p1 + (1 : Int32))), (0, .ref (G.2.1 0))]) O dX9_digest_259 1 rfl (by decide) (by decide) rfl ?_
      refine go_goto (tgt := 208) O dX9_digest_262 (by decide) ?_
      refine go_perm (ls' := [(0, .ref (G.2.1 0)), (1, .int (p1 + (1 : Int32)))]) [1, 0] rfl ?_
      exact ih _ _ _ hF hE
def T_X9_digest_285   (p1 : Int32) : Nat → Int32 → Sg → Option (Sg)
  | 0, _, _ => none
  | n + 1, p2, S => chk (inB p1 4) (if (S.1 3 p1.toNatClampNeg) ≤ p2 then (some S) else (chk (inB (((80 : Int32) * p1) + p2) 320) (bd (F_X9_mix S (Int32.toInt64 (S.1 4 (((80 : Int32) * p1) + p2).toNatClampNeg))) (fun S67 => T_X9_digest_285 p1 n (p2 + (1 : Int32)) S67))))
set_option maxHeartbeats 4000000 in
set_option maxRecDepth 100000 in
theorem lt_X9_digest_285 {X : XT} (l : Launch) (G : Gp) (hI : Ij (wM G))   {p1 : Int32} (O : Ok X (wM G) cX9_digest RX9 wsX9_digest 3) : ∀ (n : Nat) (p2 : Int32) (S : Sg) (q : (Sg)), T_X9_digest_285 p1 n p2 S = some q → (Go X l rm_X9_digest (wM G) 3 317 [(0, .ref (G.2.1 0)), (1, .int p1)] [] q) → Go X l rm_X9_digest (wM G) 3 285 [(0, .ref (G.2.1 0)), (1, .int p1), (2, .int p2)] [] S := by
  intro n
  induction n with
  | zero =>
    intro p2 S q hF
    cases hF
  | succ n ih =>
    intro p2 S q hF hE
    rw [T_X9_digest_285] at hF
    refine go_iload_n O dX9_digest_285 rfl 2 rfl ?_
    refine go_aload_n O dX9_digest_286 rfl 0 rfl ?_
    refine go_get (k := 0) (j := 2) O (by decide : (0 : Nat) < 27) (cm_obj G (S.1 0) (S.2 0)) rfl in_X9_digest_X9 (by decide) fl_X9_digest_16 rfl rfl dX9_digest_287 ?_
    refine go_iload_n O dX9_digest_290 rfl 1 rfl ?_
    obtain ⟨hb64, hF⟩ := chk_s hF
    refine go_iald (k := 3) O (by decide : (3 : Nat) < 27) (cm_3 G (S.1 3) (S.2 3)) (inB_in hb64) dX9_digest_291 ?_
    refine go_icmp_ge (tgt := 317) O dX9_digest_292 (by decide) (fun hc68 => ?_) (fun hc68 => ?_)
    · replace hF := it_t hc68 hF
      refine go_perm (ls' := [(0, .ref (G.2.1 0)), (1, .int p1)]) [0, 1] rfl ?_
      exact jn (P := fun q => Go X l rm_X9_digest (wM G) 3 317 [(0, .ref (G.2.1 0)), (1, .int p1)] [] q) hF hE
    · replace hF := it_f hc68 hF
      refine go_aload_n O dX9_digest_295 rfl 0 rfl ?_
      refine go_aload_n O dX9_digest_296 rfl 0 rfl ?_
      refine go_get (k := 0) (j := 3) O (by decide : (0 : Nat) < 27) (cm_obj G (S.1 0) (S.2 0)) rfl in_X9_digest_X9 (by decide) fl_X9_digest_19 rfl rfl dX9_digest_297 ?_
      refine go_bipush (v := (80 : Int32)) O dX9_digest_300 (by decide) ?_
      refine go_iload_n O dX9_digest_302 rfl 1 rfl ?_
      refine go_imul O dX9_digest_303 ?_
      refine go_iload_n O dX9_digest_304 rfl 2 rfl ?_
      refine go_iadd O dX9_digest_305 ?_
      obtain ⟨hb65, hF⟩ := chk_s hF
      refine go_iald (k := 4) O (by decide : (4 : Nat) < 27) (cm_4 G (S.1 4) (S.2 4)) (inB_in hb65) dX9_digest_306 ?_
      refine go_i2l (v := Int32.toInt64 (S.1 4 (((80 : Int32) * p1) + p2).toNatClampNeg)) O dX9_digest_307 rfl ?_
      obtain ⟨S67, hA66, hF⟩ := bd_s hF
      refine go_callVv (As := [.long (Int32.toInt64 (S.1 4 (((80 : Int32) * p1) + p2).toNatClampNeg))]) (rest := []) (b := 0) O (c_X9_mix l G hI hA66) (fun s args hts => cwV 1 hts gX9_digest_X9_mix rfl rfl rfl (by decide +kernel) ⟨Nat.le_of_ble_eq_true rfl, Nat.le_of_ble_eq_true rfl⟩) (by decide : (0 : Nat) < 27) (cm_obj G (S.1 0) (S.2 0)) rfl rfl rfl rfl (Nat.le_of_ble_eq_true rfl) dX9_digest_308 ?_
      refine go_iinc (d := (1 : Int32)) (ls' := [(2, .int (p2 + (1 : Int32))), (0, .ref (G.2.1 0)), (1, .int p1)]) O dX9_digest_311 2 rfl (by decide) (by decide) rfl ?_
      refine go_goto (tgt := 285) O dX9_digest_314 (by decide) ?_
      refine go_perm (ls' := [(0, .ref (G.2.1 0)), (1, .int p1), (2, .int (p2 + (1 : Int32)))]) [1, 2, 0] rfl ?_
      exact ih _ _ _ hF hE
def T_X9_digest_267    : Nat → Int32 → Sg → Option (Sg)
  | 0, _, _ => none
  | n + 1, p1, S => if (4 : Int32) ≤ p1 then (some S) else (chk (inB p1 4) (bd (F_X9_mix S (Int32.toInt64 (S.1 3 p1.toNatClampNeg))) (fun S62 => bd (T_X9_digest_285 p1 FU (0 : Int32) S62) (fun S63 => T_X9_digest_267 n (p1 + (1 : Int32)) S63))))
set_option maxHeartbeats 4000000 in
set_option maxRecDepth 100000 in
theorem lt_X9_digest_267 {X : XT} (l : Launch) (G : Gp) (hI : Ij (wM G))   (O : Ok X (wM G) cX9_digest RX9 wsX9_digest 3) : ∀ (n : Nat) (p1 : Int32) (S : Sg) (q : (Sg)), T_X9_digest_267 n p1 S = some q → (Go X l rm_X9_digest (wM G) 3 323 [(0, .ref (G.2.1 0))] [] q) → Go X l rm_X9_digest (wM G) 3 267 [(0, .ref (G.2.1 0)), (1, .int p1)] [] S := by
  intro n
  induction n with
  | zero =>
    intro p1 S q hF
    cases hF
  | succ n ih =>
    intro p1 S q hF hE
    rw [T_X9_digest_267] at hF
    refine go_iload_n O dX9_digest_267 rfl 1 rfl ?_
    refine go_iconst (v := (4 : Int32)) O dX9_digest_268 (by decide) ?_
    refine go_icmp_ge (tgt := 323) O dX9_digest_269 (by decide) (fun hc70 => ?_) (fun hc70 => ?_)
    · replace hF := it_t hc70 hF
      refine go_perm (ls' := [(0, .ref (G.2.1 0))]) [0] rfl ?_
      exact jn (P := fun q => Go X l rm_X9_digest (wM G) 3 323 [(0, .ref (G.2.1 0))] [] q) hF hE
    · replace hF := it_f hc70 hF
      refine go_aload_n O dX9_digest_272 rfl 0 rfl ?_
      refine go_aload_n O dX9_digest_273 rfl 0 rfl ?_
      refine go_get (k := 0) (j := 2) O (by decide : (0 : Nat) < 27) (cm_obj G (S.1 0) (S.2 0)) rfl in_X9_digest_X9 (by decide) fl_X9_digest_16 rfl rfl dX9_digest_274 ?_
      refine go_iload_n O dX9_digest_277 rfl 1 rfl ?_
      obtain ⟨hb60, hF⟩ := chk_s hF
      refine go_iald (k := 3) O (by decide : (3 : Nat) < 27) (cm_3 G (S.1 3) (S.2 3)) (inB_in hb60) dX9_digest_278 ?_
      refine go_i2l (v := Int32.toInt64 (S.1 3 p1.toNatClampNeg)) O dX9_digest_279 rfl ?_
      obtain ⟨S62, hA61, hF⟩ := bd_s hF
      refine go_callVv (As := [.long (Int32.toInt64 (S.1 3 p1.toNatClampNeg))]) (rest := []) (b := 0) O (c_X9_mix l G hI hA61) (fun s args hts => cwV 1 hts gX9_digest_X9_mix rfl rfl rfl (by decide +kernel) ⟨Nat.le_of_ble_eq_true rfl, Nat.le_of_ble_eq_true rfl⟩) (by decide : (0 : Nat) < 27) (cm_obj G (S.1 0) (S.2 0)) rfl rfl rfl rfl (Nat.le_of_ble_eq_true rfl) dX9_digest_280 ?_
      refine go_iconst (v := (0 : Int32)) O dX9_digest_283 (by decide) ?_
      refine go_istore_n (ls' := [(2, .int (0 : Int32)), (0, .ref (G.2.1 0)), (1, .int p1)]) O dX9_digest_284 rfl (by decide) rfl ?_
      refine go_perm (ls' := [(0, .ref (G.2.1 0)), (1, .int p1), (2, .int (0 : Int32))]) [1, 2, 0] rfl ?_
      obtain ⟨S63, hA69, hF⟩ := bd_s hF
      refine lt_X9_digest_285 l G hI  O _ _ _ _ hA69 ?_
      refine go_iinc (d := (1 : Int32)) (ls' := [(1, .int (p1 + (1 : Int32))), (0, .ref (G.2.1 0))]) O dX9_digest_317 1 rfl (by decide) (by decide) rfl ?_
      refine go_goto (tgt := 267) O dX9_digest_320 (by decide) ?_
      refine go_perm (ls' := [(0, .ref (G.2.1 0)), (1, .int (p1 + (1 : Int32)))]) [1, 0] rfl ?_
      exact ih _ _ _ hF hE
def F_X9_digest  (S : Sg)  : Option (Int64 × Sg) := nm (wL S 0 35 (17 : Int64)) (fun S1 => bd (T_X9_digest_9 FU (0 : Int32) S1) (fun S2 => bd (T_X9_digest_33 FU (0 : Int32) S2) (fun S9 => bd (T_X9_digest_60 FU (0 : Int32) S9) (fun S15 => bd (T_X9_digest_93 FU (0 : Int32) S15) (fun S22 => bd (T_X9_digest_122 FU (0 : Int32) S22) (fun S28 => bd (T_X9_digest_161 FU (0 : Int32) S28) (fun S35 => bd (T_X9_digest_208 FU (0 : Int32) S35) (fun S46 => bd (T_X9_digest_267 FU (0 : Int32) S46) (fun S59 => some (S59.2 0 35, S59))))))))))
set_option maxHeartbeats 4000000 in
set_option maxRecDepth 100000 in
theorem c_X9_digest (l : Launch) (G : Gp) (hI : Ij (wM G))  {S : Sg} {r : Int64} {S1 : Sg} (hF : F_X9_digest S = some (r, S1)) : Met l yX9_digest wsX9_digest rm_X9_digest (va_Pc [.ref (G.2.1 0)] (PreW (wM G) S)) (va_Ql (fun r' u => r' = r ∧ u = S1) (PostW (wM G)) (AW (wM G))) 0 0 (AW (wM G)) := by
  rw [F_X9_digest] at hF
  refine met_l (cc := cX9_digest) (maxL := 3) (own := RX9) hI (by decide) rfl rfl (Nat.le_of_ble_eq_true rfl) (fun X O hR => ?_)
  show Go X l rm_X9_digest (wM G) 3 0 [(0, .ref (G.2.1 0))] [] S
  refine go_aload_n O dX9_digest_0 rfl 0 rfl ?_
  refine go_ldc2 (v := (17 : Int64)) O dX9_digest_1 wd_X9_digest_c295 ?_
  obtain ⟨S1, eS1, hF⟩ := nm_s hF
  refine go_putL (k := 0) (j := 35) O (by decide : (0 : Nat) < 27) (cm_obj G (S.1 0) (S.2 0)) rfl in_X9_digest_X9 (by decide) fl_X9_digest_291 rfl tyX9 tyX9_ok nmX9 rfl (by decide +kernel) (Nat.le_of_ble_eq_true rfl) (cm_obj G (S.1 0) (vp_updL (S.2 0) 35 (17 : Int64))) dX9_digest_4 eS1 ?_
  refine go_iconst (v := (0 : Int32)) O dX9_digest_7 (by decide) ?_
  refine go_istore_n (ls' := [(1, .int (0 : Int32)), (0, .ref (G.2.1 0))]) O dX9_digest_8 rfl (by decide) rfl ?_
  refine go_perm (ls' := [(0, .ref (G.2.1 0)), (1, .int (0 : Int32))]) [1, 0] rfl ?_
  obtain ⟨S2, hA8, hF⟩ := bd_s hF
  refine lt_X9_digest_9 l G hI  O _ _ _ _ hA8 ?_
  refine go_iconst (v := (0 : Int32)) O dX9_digest_31 (by decide) ?_
  refine go_istore_n (ls' := [(1, .int (0 : Int32)), (0, .ref (G.2.1 0))]) O dX9_digest_32 rfl (by decide) rfl ?_
  refine go_perm (ls' := [(0, .ref (G.2.1 0)), (1, .int (0 : Int32))]) [1, 0] rfl ?_
  obtain ⟨S9, hA14, hF⟩ := bd_s hF
  refine lt_X9_digest_33 l G hI  O _ _ _ _ hA14 ?_
  refine go_iconst (v := (0 : Int32)) O dX9_digest_58 (by decide) ?_
  refine go_istore_n (ls' := [(1, .int (0 : Int32)), (0, .ref (G.2.1 0))]) O dX9_digest_59 rfl (by decide) rfl ?_
  refine go_perm (ls' := [(0, .ref (G.2.1 0)), (1, .int (0 : Int32))]) [1, 0] rfl ?_
  obtain ⟨S15, hA21, hF⟩ := bd_s hF
  refine lt_X9_digest_60 l G hI  O _ _ _ _ hA21 ?_
  refine go_iconst (v := (0 : Int32)) O dX9_digest_91 (by decide) ?_
  refine go_istore_n (ls' := [(1, .int (0 : Int32)), (0, .ref (G.2.1 0))]) O dX9_digest_92 rfl (by decide) rfl ?_
  refine go_perm (ls' := [(0, .ref (G.2.1 0)), (1, .int (0 : Int32))]) [1, 0] rfl ?_
  obtain ⟨S22, hA27, hF⟩ := bd_s hF
  refine lt_X9_digest_93 l G hI  O _ _ _ _ hA27 ?_
  refine go_iconst (v := (0 : Int32)) O dX9_digest_120 (by decide) ?_
  refine go_istore_n (ls' := [(1, .int (0 : Int32)), (0, .ref (G.2.1 0))]) O dX9_digest_121 rfl (by decide) rfl ?_
  refine go_perm (ls' := [(0, .ref (G.2.1 0)), (1, .int (0 : Int32))]) [1, 0] rfl ?_
  obtain ⟨S28, hA34, hF⟩ := bd_s hF
  refine lt_X9_digest_122 l G hI  O _ _ _ _ hA34 ?_
  refine go_iconst (v := (0 : Int32)) O dX9_digest_159 (by decide) ?_
  refine go_istore_n (ls' := [(1, .int (0 : Int32)), (0, .ref (G.2.1 0))]) O dX9_digest_160 rfl (by decide) rfl ?_
  refine go_perm (ls' := [(0, .ref (G.2.1 0)), (1, .int (0 : Int32))]) [1, 0] rfl ?_
  obtain ⟨S35, hA45, hF⟩ := bd_s hF
  refine lt_X9_digest_161 l G hI  O _ _ _ _ hA45 ?_
  refine go_iconst (v := (0 : Int32)) O dX9_digest_206 (by decide) ?_
  refine go_istore_n (ls' := [(1, .int (0 : Int32)), (0, .ref (G.2.1 0))]) O dX9_digest_207 rfl (by decide) rfl ?_
  refine go_perm (ls' := [(0, .ref (G.2.1 0)), (1, .int (0 : Int32))]) [1, 0] rfl ?_
  obtain ⟨S46, hA58, hF⟩ := bd_s hF
  refine lt_X9_digest_208 l G hI  O _ _ _ _ hA58 ?_
  refine go_iconst (v := (0 : Int32)) O dX9_digest_265 (by decide) ?_
  refine go_istore_n (ls' := [(1, .int (0 : Int32)), (0, .ref (G.2.1 0))]) O dX9_digest_266 rfl (by decide) rfl ?_
  refine go_perm (ls' := [(0, .ref (G.2.1 0)), (1, .int (0 : Int32))]) [1, 0] rfl ?_
  obtain ⟨S59, hA71, hF⟩ := bd_s hF
  refine lt_X9_digest_267 l G hI  O _ _ _ _ hA71 ?_
  refine go_aload_n O dX9_digest_323 rfl 0 rfl ?_
  refine go_get (k := 0) (j := 35) O (by decide : (0 : Nat) < 27) (cm_obj G (S59.1 0) (S59.2 0)) rfl in_X9_digest_X9 (by decide) fl_X9_digest_291 rfl rfl dX9_digest_324 ?_
  exact ret_wl hF (hR _ _ dX9_digest_327)
