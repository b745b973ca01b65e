-- X0_place
def rm_X0_place (d : Nat) : Room := { frames := 5 + d, cells := 0, slots := 0, locals := 146 + 40 * d }
theorem fl_X0_place_11 : Cond.fieldLink RX0 11 "PaperWalls$Change" "whose" "[I" ∈ wsX0_place := by decide +kernel
theorem fl_X0_place_17 : Cond.fieldLink RX0 17 "PaperWalls$Change" "best" "[I" ∈ wsX0_place := by decide +kernel
theorem fl_X0_place_20 : Cond.fieldLink RX0 20 "PaperWalls$Change" "most" "I" ∈ wsX0_place := by decide +kernel
theorem fl_X0_place_41 : Cond.fieldLink RX0 41 "PaperWalls$Street" "people" "I" ∈ wsX0_place := by decide +kernel
theorem fl_X0_place_50 : Cond.fieldLink RX0 50 "PaperWalls$Street" "rooms" "[I" ∈ wsX0_place := by decide +kernel
theorem wd_X0_place_iss : Cond.initialized "java/lang/System" ∈ wsX0_place := by decide +kernel
theorem wd_X0_place_m44 : Cond.methodLink RX0 44 arraycopyName ∈ wsX0_place := by decide +kernel
theorem wd_X0_place_nat : Cond.native arraycopyName ∈ wsX0_place := by decide +kernel
theorem wd_X0_place_sac : Cond.static arraycopyName ∈ wsX0_place := by decide +kernel
theorem in_X0_place_X0 : ∀ x ∈ u_ws RX0 TX0 3, x ∈ wsX0_place := by decide +kernel
theorem in_X0_place_X6 : ∀ x ∈ u_ws RX6 TX6 11, x ∈ wsX0_place := by decide +kernel
def T_X0_place_49 (i : Nat) (j : Nat) (dd : Nat) (rec : Sg → Int32 → Int32 → Int32 → Option Sg)  (p3 : Int32) (p4 : Int32) (p5 : Int32) : Nat → Int32 → Sg → Option (Sg)
  | 0, _, _ => none
  | n + 1, p6, S => if (S.1 (sb i) 9) ≤ p6 then (some S) else (bd (if ((p4 >>> (p6 &&& 31)) &&& (1 : Int32)) = 0 then (some S) else (chk (inB p3 7) (nm (wI S 10 p3.toNatClampNeg p6) (fun S8 => chk (inB p6 7) (chk (inB p3 7) (nm (wI S8 (sb j + 4) p3.toNatClampNeg (S8.1 (sb i + 4) p6.toNatClampNeg)) (fun S11 => bd (F_X6_stillSafe j S11 p5 p3) (fun x13 => bd (rec S11 (p3 + (1 : Int32)) (p4 &&& (((1 : Int32) <<< (p6 &&& 31)) ^^^ (-1 : Int32))) x13) (fun S15 => some S15))))))))) (fun S4 => T_X0_place_49 i j dd rec p3 p4 p5 n (p6 + (1 : Int32)) S4))
set_option maxHeartbeats 4000000 in
set_option maxRecDepth 100000 in
theorem lt_X0_place_49 {X : XT} (l : Launch) (G : Gp) (hI : Ij (wC G)) {i : Nat} {j : Nat} {dd : Nat} {rec : Sg → Int32 → Int32 → Int32 → Option Sg} (hi : i < 5) (hj : j < 5) (hrec : ∀ (S : Sg) (a3 a4 a5 : Int32) (S1 : Sg), rec S a3 a4 a5 = some S1 → Met l yX0_place wsX0_place (rm_X0_place dd) (va_Pc [.ref (G.2.1 9), .ref (G.2.1 (sb i)), .ref (G.2.1 (sb j)), .int a3, .int a4, .int a5] (PreW (wC G) S)) (va_Qv (fun u => u = S1) (PostW (wC G)) (AW (wC G))) 0 0 (AW (wC G)))  {p3 : Int32} {p4 : Int32} {p5 : Int32} (O : Ok X (wC G) cX0_place RX0 wsX0_place 7) : ∀ (n : Nat) (p6 : Int32) (S : Sg) (q : (Sg)), T_X0_place_49 i j dd rec p3 p4 p5 n p6 S = some q → (Go X l (rm_X0_place (dd + 1)) (wC G) 7 120 [] [] q) → Go X l (rm_X0_place (dd + 1)) (wC G) 7 49 [(0, .ref (G.2.1 9)), (1, .ref (G.2.1 (sb i))), (2, .ref (G.2.1 (sb j))), (3, .int p3), (4, .int p4), (5, .int p5), (6, .int p6)] [] S := by
  intro n
  induction n with
  | zero =>
    intro p6 S q hF
    cases hF
  | succ n ih =>
    intro p6 S q hF hE
    rw [T_X0_place_49] at hF
    refine go_iload O dX0_place_49 6 rfl ?_
    refine go_aload_n O dX0_place_51 rfl 1 rfl ?_
    refine go_get (k := (sb i)) (j := 9) O (sb_lt0 hi) (cv_st G hi (S.1 (sb i)) (S.2 (sb i))) rfl in_X0_place_X6 (by decide) fl_X0_place_41 rfl rfl dX0_place_52 ?_
    refine go_icmp_ge (tgt := 120) O dX0_place_55 (by decide) (fun hc17 => ?_) (fun hc17 => ?_)
    · replace hF := it_t hc17 hF
      refine go_perm (ls' := []) [] rfl ?_
      exact jn (P := fun q => Go X l (rm_X0_place (dd + 1)) (wC G) 7 120 [] [] q) hF hE
    · replace hF := it_f hc17 hF
      refine go_iload O dX0_place_58 4 rfl ?_
      refine go_iload O dX0_place_60 6 rfl ?_
      refine go_ishr O dX0_place_62 ?_
      refine go_iconst (v := (1 : Int32)) O dX0_place_63 (by decide) ?_
      refine go_iand O dX0_place_64 ?_
      obtain ⟨S4, hA6, hF⟩ := bd_s hF
      have J5 : Go X l (rm_X0_place (dd + 1)) (wC G) 7 114 [(0, .ref (G.2.1 9)), (1, .ref (G.2.1 (sb i))), (2, .ref (G.2.1 (sb j))), (3, .int p3), (4, .int p4), (5, .int p5), (6, .int p6)] [] S4 := by
        refine go_iinc (d := (1 : Int32)) (ls' := [(6, .int (p6 + (1 : Int32))), (0, .ref (G.2.1 9)), (1, .ref (G.2.1 (sb i))), (2, .ref (G.2.1 (sb j))), (3, .int p3), (4, .int p4), (5, .int p5)]) O dX0_place_114 6 rfl (by decide) (by decide) rfl ?_
        refine go_goto (tgt := 49) O dX0_place_117 (by decide) ?_
        refine go_perm (ls' := [(0, .ref (G.2.1 9)), (1, .ref (G.2.1 (sb i))), (2, .ref (G.2.1 (sb j))), (3, .int p3), (4, .int p4), (5, .int p5), (6, .int (p6 + (1 : Int32)))]) [1, 2, 3, 4, 5, 6, 0] rfl ?_
        exact ih _ _ _ hF hE
      replace hF := hA6
      refine go_if_eq (tgt := 114) O dX0_place_65 (by decide) (fun hc16 => ?_) (fun hc16 => ?_)
      · replace hF := it_t hc16 hF
        exact jn (P := fun q => Go X l (rm_X0_place (dd + 1)) (wC G) 7 114 [(0, .ref (G.2.1 9)), (1, .ref (G.2.1 (sb i))), (2, .ref (G.2.1 (sb j))), (3, .int p3), (4, .int p4), (5, .int p5), (6, .int p6)] [] q) hF J5
      · replace hF := it_f hc16 hF
        refine go_aload_n O dX0_place_68 rfl 0 rfl ?_
        refine go_get (k := 9) (j := 0) O (by decide : (9 : Nat) < 99) (cv_chg G (S.1 9) (S.2 9)) rfl in_X0_place_X0 (by decide) fl_X0_place_11 rfl rfl dX0_place_69 ?_
        refine go_iload_n O dX0_place_72 rfl 3 rfl ?_
        refine go_iload O dX0_place_73 6 rfl ?_
        obtain ⟨hb7, hF⟩ := chk_s hF
        obtain ⟨S8, eS8, hF⟩ := nm_s hF
        refine go_iast (k := 10) O (by decide : (10 : Nat) < 99) (fun f => (cv_who G f (S.2 10))) (inB_in hb7) dX0_place_75 eS8 ?_
        refine go_aload_n O dX0_place_76 rfl 2 rfl ?_
        refine go_get (k := (sb j)) (j := 3) O (sb_lt0 hj) (cv_st G hj (S8.1 (sb j)) (S8.2 (sb j))) rfl in_X0_place_X6 (by decide) fl_X0_place_50 rfl rfl dX0_place_77 ?_
        refine go_iload_n O dX0_place_80 rfl 3 rfl ?_
        refine go_aload_n O dX0_place_81 rfl 1 rfl ?_
        refine go_get (k := (sb i)) (j := 3) O (sb_lt0 hi) (cv_st G hi (S8.1 (sb i)) (S8.2 (sb i))) rfl in_X0_place_X6 (by decide) fl_X0_place_50 rfl rfl dX0_place_82 ?_
        refine go_iload O dX0_place_85 6 rfl ?_
        obtain ⟨hb9, hF⟩ := chk_s hF
        refine go_iald (k := (sb i + 4)) O (sb_lt hi (by decide : 4 < 13)) (cv_sta4 G hi (S8.1 (sb i + 4)) (S8.2 (sb i + 4))) (inB_in hb9) dX0_place_87 ?_
        obtain ⟨hb10, hF⟩ := chk_s hF
        obtain ⟨S11, eS11, hF⟩ := nm_s hF
        refine go_iast (k := (sb j + 4)) O (sb_lt hj (by decide : 4 < 13)) (fun f => (cv_sta4 G hj f (S8.2 (sb j + 4)))) (inB_in hb10) dX0_place_88 eS11 ?_
        refine go_aload_n O dX0_place_89 rfl 0 rfl ?_
        refine go_aload_n O dX0_place_90 rfl 1 rfl ?_
        refine go_aload_n O dX0_place_91 rfl 2 rfl ?_
        refine go_iload_n O dX0_place_92 rfl 3 rfl ?_
        refine go_iconst (v := (1 : Int32)) O dX0_place_93 (by decide) ?_
        refine go_iadd O dX0_place_94 ?_
        refine go_iload O dX0_place_95 4 rfl ?_
        refine go_iconst (v := (1 : Int32)) O dX0_place_97 (by decide) ?_
        refine go_iload O dX0_place_98 6 rfl ?_
        refine go_ishl O dX0_place_100 ?_
        refine go_iconst (v := (-1 : Int32)) O dX0_place_101 (by decide) ?_
        refine go_ixor O dX0_place_102 ?_
        refine go_iand O dX0_place_103 ?_
        refine go_aload_n O dX0_place_104 rfl 2 rfl ?_
        refine go_iload O dX0_place_105 5 rfl ?_
        refine go_iload_n O dX0_place_107 rfl 3 rfl ?_
        obtain ⟨x13, hA12, hF⟩ := bd_s hF
        refine go_callVi (As := [.int p5, .int p3]) (rest := [.int (p4 &&& (((1 : Int32) <<< (p6 &&& 31)) ^^^ (-1 : Int32))), .int (p3 + (1 : Int32)), .ref (G.2.1 (sb j)), .ref (G.2.1 (sb i)), .ref (G.2.1 9)]) (b := (sb j)) O (c_X6_stillSafe l G hI hj hA12) (fun s args hts => cwV 2 hts gX0_place_X6_stillSafe rfl rfl rfl (by decide +kernel) ⟨by simp only [rm_X6_stillSafe, rm_X0_place]; omega, by simp only [rm_X6_stillSafe, rm_X0_place]; omega⟩) (sb_lt0 hj) (cv_st G hj (S11.1 (sb j)) (S11.2 (sb j))) rfl rfl rfl rfl (Nat.le_of_ble_eq_true rfl) dX0_place_108 ?_
        obtain ⟨S15, hA14, hF⟩ := bd_s hF
        refine go_callSv (As := [.ref (G.2.1 9), .ref (G.2.1 (sb i)), .ref (G.2.1 (sb j)), .int (p3 + (1 : Int32)), .int (p4 &&& (((1 : Int32) <<< (p6 &&& 31)) ^^^ (-1 : Int32))), .int x13]) (rest := []) O (hrec _ _ _ _ _ hA14) (fun s args hts => va_cwS 6 hts gX0_place_X0_place rfl rfl rfl (by decide +kernel) ⟨by simp only [rm_X0_place, rm_X0_place]; omega, by simp only [rm_X0_place, rm_X0_place]; omega⟩) rfl rfl (Nat.le_of_ble_eq_true rfl) dX0_place_111 ?_
        exact jn (P := fun q => Go X l (rm_X0_place (dd + 1)) (wC G) 7 114 [(0, .ref (G.2.1 9)), (1, .ref (G.2.1 (sb i))), (2, .ref (G.2.1 (sb j))), (3, .int p3), (4, .int p4), (5, .int p5), (6, .int p6)] [] q) hF J5
def F_X0_place_b (i : Nat) (j : Nat) (dd : Nat) (rec : Sg → Int32 → Int32 → Int32 → Option Sg) (S : Sg) (a3 : Int32) (a4 : Int32) (a5 : Int32) : Option Sg := bd (F_J6_bitCount_0f7a4 S a5) (fun x2 => if (S.1 9 2) < x2 then (if a3 < (S.1 (sb i) 9) then (bd (T_X0_place_49 i j dd rec a3 a4 a5 FU (0 : Int32) S) (fun S3 => some S3)) else (bd (F_J6_bitCount_0f7a4 S a5) (fun x20 => nm (wI S 9 2 x20) (fun S21 => chk (cpB (0 : Int32) (0 : Int32) (7 : Int32) 7 7) (nm (cpI S21 10 (0 : Int32).toNatClampNeg 11 (0 : Int32).toNatClampNeg (7 : Int32).toNatClampNeg) (fun S22 => some S22)))))) else (some S))
set_option maxHeartbeats 4000000 in
set_option maxRecDepth 100000 in
theorem c_X0_place_b (l : Launch) (G : Gp) (hI : Ij (wC G)) {i : Nat} {j : Nat} {dd : Nat} {rec : Sg → Int32 → Int32 → Int32 → Option Sg} (hi : i < 5) (hj : j < 5) (hrec : ∀ (S : Sg) (a3 a4 a5 : Int32) (S1 : Sg), rec S a3 a4 a5 = some S1 → Met l yX0_place wsX0_place (rm_X0_place dd) (va_Pc [.ref (G.2.1 9), .ref (G.2.1 (sb i)), .ref (G.2.1 (sb j)), .int a3, .int a4, .int a5] (PreW (wC G) S)) (va_Qv (fun u => u = S1) (PostW (wC G)) (AW (wC G))) 0 0 (AW (wC G))) {S : Sg} {a3 : Int32} {a4 : Int32} {a5 : Int32} {S1 : Sg} (hF : F_X0_place_b i j dd rec S a3 a4 a5 = some S1) : Met l yX0_place wsX0_place (rm_X0_place (dd + 1)) (va_Pc [.ref (G.2.1 9), .ref (G.2.1 (sb i)), .ref (G.2.1 (sb j)), .int a3, .int a4, .int a5] (PreW (wC G) S)) (va_Qv (fun u => u = S1) (PostW (wC G)) (AW (wC G))) 0 0 (AW (wC G)) := by
  rw [F_X0_place_b] at hF
  refine met_v (cc := cX0_place) (maxL := 7) (own := RX0) hI (by decide) rfl rfl (Nat.le_of_ble_eq_true rfl) (fun X O hR => ?_)
  show Go X l (rm_X0_place (dd + 1)) (wC G) 7 0 [(0, .ref (G.2.1 9)), (1, .ref (G.2.1 (sb i))), (2, .ref (G.2.1 (sb j))), (3, .int a3), (4, .int a4), (5, .int a5)] [] S
  refine go_iload O dX0_place_0 5 rfl ?_
  obtain ⟨x2, hA1, hF⟩ := bd_s hF
  refine go_callSi (As := [.int a5]) (rest := []) O (c_J6_bitCount_0f7a4 l G hI hA1) (fun s args hts => va_cwS 1 hts gX0_place_J6_bitCount_0f7a4 rfl rfl rfl (by decide +kernel) ⟨by simp only [rm_J6_bitCount_0f7a4, rm_X0_place]; omega, by simp only [rm_J6_bitCount_0f7a4, rm_X0_place]; omega⟩) rfl rfl (Nat.le_of_ble_eq_true rfl) dX0_place_2 ?_
  refine go_aload_n O dX0_place_5 rfl 0 rfl ?_
  refine go_get (k := 9) (j := 2) O (by decide : (9 : Nat) < 99) (cv_chg G (S.1 9) (S.2 9)) rfl in_X0_place_X0 (by decide) fl_X0_place_20 rfl rfl dX0_place_6 ?_
  refine go_icmp_gt (tgt := 13) O dX0_place_9 (by decide) (fun hc25 => ?_) (fun hc25 => ?_)
  · replace hF := it_t hc25 hF
    refine go_iload_n O dX0_place_13 rfl 3 rfl ?_
    refine go_aload_n O dX0_place_14 rfl 1 rfl ?_
    refine go_get (k := (sb i)) (j := 9) O (sb_lt0 hi) (cv_st G hi (S.1 (sb i)) (S.2 (sb i))) rfl in_X0_place_X6 (by decide) fl_X0_place_41 rfl rfl dX0_place_15 ?_
    refine go_icmp_lt (tgt := 46) O dX0_place_18 (by decide) (fun hc24 => ?_) (fun hc24 => ?_)
    · replace hF := it_t hc24 hF
      refine go_iconst (v := (0 : Int32)) O dX0_place_46 (by decide) ?_
      refine go_istore (ls' := [(6, .int (0 : Int32)), (0, .ref (G.2.1 9)), (1, .ref (G.2.1 (sb i))), (2, .ref (G.2.1 (sb j))), (3, .int a3), (4, .int a4), (5, .int a5)]) O dX0_place_47 (by decide) rfl ?_
      refine go_perm (ls' := [(0, .ref (G.2.1 9)), (1, .ref (G.2.1 (sb i))), (2, .ref (G.2.1 (sb j))), (3, .int a3), (4, .int a4), (5, .int a5), (6, .int (0 : Int32))]) [1, 2, 3, 4, 5, 6, 0] rfl ?_
      obtain ⟨S3, hA18, hF⟩ := bd_s hF
      refine lt_X0_place_49 l G hI hi hj hrec O _ _ _ _ hA18 ?_
      exact ret_v hF (hR _ _ dX0_place_120)
    · replace hF := it_f hc24 hF
      refine go_aload_n O dX0_place_21 rfl 0 rfl ?_
      refine go_iload O dX0_place_22 5 rfl ?_
      obtain ⟨x20, hA19, hF⟩ := bd_s hF
      refine go_callSi (As := [.int a5]) (rest := [.ref (G.2.1 9)]) O (c_J6_bitCount_0f7a4 l G hI hA19) (fun s args hts => va_cwS 1 hts gX0_place_J6_bitCount_0f7a4 rfl rfl rfl (by decide +kernel) ⟨by simp only [rm_J6_bitCount_0f7a4, rm_X0_place]; omega, by simp only [rm_J6_bitCount_0f7a4, rm_X0_place]; omega⟩) rfl rfl (Nat.le_of_ble_eq_true rfl) dX0_place_24 ?_
      obtain ⟨S21, eS21, hF⟩ := nm_s hF
      refine go_putI (k := 9) (j := 2) O (by decide : (9 : Nat) < 99) (cv_chg G (S.1 9) (S.2 9)) rfl in_X0_place_X0 (by decide) fl_X0_place_20 rfl tyX0 tyX0_ok nmX0 rfl (by decide +kernel) (Nat.le_of_ble_eq_true rfl) (cv_chg G (upd (S.1 9) 2 x20) (S.2 9)) dX0_place_27 eS21 ?_
      refine go_aload_n O dX0_place_30 rfl 0 rfl ?_
      refine go_get (k := 9) (j := 0) O (by decide : (9 : Nat) < 99) (cv_chg G (S21.1 9) (S21.2 9)) rfl in_X0_place_X0 (by decide) fl_X0_place_11 rfl rfl dX0_place_31 ?_
      refine go_iconst (v := (0 : Int32)) O dX0_place_34 (by decide) ?_
      refine go_aload_n O dX0_place_35 rfl 0 rfl ?_
      refine go_get (k := 9) (j := 1) O (by decide : (9 : Nat) < 99) (cv_chg G (S21.1 9) (S21.2 9)) rfl in_X0_place_X0 (by decide) fl_X0_place_17 rfl rfl dX0_place_36 ?_
      refine go_iconst (v := (0 : Int32)) O dX0_place_39 (by decide) ?_
      refine go_bipush (v := (7 : Int32)) O dX0_place_40 (by decide) ?_
      obtain ⟨hc23, hF⟩ := chk_s hF
      obtain ⟨S22, eS22, hF⟩ := nm_s hF
      refine go_cpyI (k1 := 10) (k2 := 11) O wd_X0_place_m44 wd_X0_place_nat wd_X0_place_sac wd_X0_place_iss (by decide : (10 : Nat) < 99) (by decide : (11 : Nat) < 99) (cv_who G (S21.1 10) (S21.2 10)) (cv_best G (S21.1 11) (S21.2 11)) (cv_best G (va_cpy (S21.1 10) (S21.1 11) (0 : Int32).toNatClampNeg (0 : Int32).toNatClampNeg (7 : Int32).toNatClampNeg) (S21.2 11)) (cpB_s hc23).1 (cpB_s hc23).2.1 (cpB_s hc23).2.2.1 (cpB_s hc23).2.2.2.1 (cpB_s hc23).2.2.2.2 (by simp only [rm_X0_place]; omega) (Nat.le_trans (Nat.le_of_ble_eq_true rfl : _ ≤ 80) (by simp only [rm_X0_place]; omega)) dX0_place_42 eS22 ?_
      exact ret_v hF (hR _ _ dX0_place_45)
  · replace hF := it_f hc25 hF
    exact ret_v hF (hR _ _ dX0_place_12)
def F_X0_place (i j : Nat) : Nat → Sg → Int32 → Int32 → Int32 → Option Sg
  | 0 => fun _ _ _ _ => none
  | d + 1 => F_X0_place_b i j d (F_X0_place i j d)
theorem c_X0_place (l : Launch) (G : Gp) (hI : Ij (wC G)) {i j : Nat} (hi : i < 5) (hj : j < 5) : ∀ (d : Nat) (S : Sg) (a3 a4 a5 : Int32) (S1 : Sg), F_X0_place i j d S a3 a4 a5 = some S1 → Met l yX0_place wsX0_place (rm_X0_place d) (va_Pc [.ref (G.2.1 9), .ref (G.2.1 (sb i)), .ref (G.2.1 (sb j)), .int a3, .int a4, .int a5] (PreW (wC G) S)) (va_Qv (fun u => u = S1) (PostW (wC G)) (AW (wC G))) 0 0 (AW (wC G)) := by
  intro d
  induction d with
  | zero =>
    intro S a3 a4 a5 S1 hF
    cases hF
  | succ d ih =>
    intro S a3 a4 a5 S1 hF
    exact c_X0_place_b l G hI hi hj ih hF
-- X0_search
def rm_X0_search : Room := { frames := 15, cells := 0, slots := 0, locals := 532 }
theorem fl_X0_search_20 : Cond.fieldLink RX0 20 "PaperWalls$Change" "most" "I" ∈ wsX0_search := by decide +kernel
theorem in_X0_search_X0 : ∀ x ∈ u_ws RX0 TX0 3, x ∈ wsX0_search := by decide +kernel
def F_X0_search (i : Nat) (j : Nat) (S : Sg)  : Option Sg := nm (wI S 9 2 (-9 : Int32)) (fun S1 => bd (F_X6_everyone i S1) (fun x3 => bd (F_X6_everyTalk i S1) (fun x5 => bd (F_X0_place i j 9 S1 (0 : Int32) x3 x5) (fun S7 => some S7))))
set_option maxHeartbeats 4000000 in
set_option maxRecDepth 100000 in
theorem c_X0_search (l : Launch) (G : Gp) (hI : Ij (wC G)) {i : Nat} {j : Nat} (hi : i < 5) (hj : j < 5) {S : Sg} {S1 : Sg} (hF : F_X0_search i j S = some S1) : Met l yX0_search wsX0_search rm_X0_search (va_Pc [.ref (G.2.1 9), .ref (G.2.1 (sb i)), .ref (G.2.1 (sb j))] (PreW (wC G) S)) (va_Qv (fun u => u = S1) (PostW (wC G)) (AW (wC G))) 0 0 (AW (wC G)) := by
  rw [F_X0_search] at hF
  refine met_v (cc := cX0_search) (maxL := 3) (own := RX0) hI (by decide) rfl rfl (Nat.le_of_ble_eq_true rfl) (fun X O hR => ?_)
  show Go X l rm_X0_search (wC G) 3 0 [(0, .ref (G.2.1 9)), (1, .ref (G.2.1 (sb i))), (2, .ref (G.2.1 (sb j)))] [] S
  refine go_aload_n O dX0_search_0 rfl 0 rfl ?_
  refine go_bipush (v := (-9 : Int32)) O dX0_search_1 (by decide) ?_
  obtain ⟨S1, eS1, hF⟩ := nm_s hF
  refine go_putI (k := 9) (j := 2) O (by decide : (9 : Nat) < 99) (cv_chg G (S.1 9) (S.2 9)) rfl in_X0_search_X0 (by decide) fl_X0_search_20 rfl tyX0 tyX0_ok nmX0 rfl (by decide +kernel) (Nat.le_of_ble_eq_true rfl) (cv_chg G (upd (S.1 9) 2 (-9 : Int32)) (S.2 9)) dX0_search_3 eS1 ?_
  refine go_aload_n O dX0_search_6 rfl 0 rfl ?_
  refine go_aload_n O dX0_search_7 rfl 1 rfl ?_
  refine go_aload_n O dX0_search_8 rfl 2 rfl ?_
  refine go_iconst (v := (0 : Int32)) O dX0_search_9 (by decide) ?_
  refine go_aload_n O dX0_search_10 rfl 1 rfl ?_
  obtain ⟨x3, hA2, hF⟩ := bd_s hF
  refine go_callVi (As := []) (rest := [.int (0 : Int32), .ref (G.2.1 (sb j)), .ref (G.2.1 (sb i)), .ref (G.2.1 9)]) (b := (sb i)) O (c_X6_everyone l G hI hi hA2) (fun s args hts => cwV 0 hts gX0_search_X6_everyone rfl rfl rfl (by decide +kernel) ⟨Nat.le_of_ble_eq_true rfl, Nat.le_of_ble_eq_true rfl⟩) (sb_lt0 hi) (cv_st G hi (S1.1 (sb i)) (S1.2 (sb i))) rfl rfl rfl rfl (Nat.le_of_ble_eq_true rfl) dX0_search_11 ?_
  refine go_aload_n O dX0_search_14 rfl 1 rfl ?_
  obtain ⟨x5, hA4, hF⟩ := bd_s hF
  refine go_callVi (As := []) (rest := [.int x3, .int (0 : Int32), .ref (G.2.1 (sb j)), .ref (G.2.1 (sb i)), .ref (G.2.1 9)]) (b := (sb i)) O (c_X6_everyTalk l G hI hi hA4) (fun s args hts => cwV 0 hts gX0_search_X6_everyTalk rfl rfl rfl (by decide +kernel) ⟨Nat.le_of_ble_eq_true rfl, Nat.le_of_ble_eq_true rfl⟩) (sb_lt0 hi) (cv_st G hi (S1.1 (sb i)) (S1.2 (sb i))) rfl rfl rfl rfl (Nat.le_of_ble_eq_true rfl) dX0_search_15 ?_
  obtain ⟨S7, hA6, hF⟩ := bd_s hF
  refine go_callSv (As := [.ref (G.2.1 9), .ref (G.2.1 (sb i)), .ref (G.2.1 (sb j)), .int (0 : Int32), .int x3, .int x5]) (rest := []) O (c_X0_place l G hI hi hj 9 _ _ _ _ _ hA6) (fun s args hts => va_cwS 6 hts gX0_search_X0_place rfl rfl rfl (by decide +kernel) ⟨Nat.le_of_ble_eq_true rfl, Nat.le_of_ble_eq_true rfl⟩) rfl rfl (Nat.le_of_ble_eq_true rfl) dX0_search_18 ?_
  exact ret_v hF (hR _ _ dX0_search_21)
