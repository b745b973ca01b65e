-- X8_cover
def rm_X8_cover : Room := { frames := 5, cells := 0, slots := 0, locals := 142 }
theorem fl_X8_cover_24 : Cond.fieldLink RX8 24 "PaperWalls" "now" "LPaperWalls$Street;" ∈ wsX8_cover := by decide +kernel
theorem fl_X8_cover_202 : Cond.fieldLink RX8 202 "PaperWalls$Street" "talks" "I" ∈ wsX8_cover := by decide +kernel
theorem in_X8_cover_X6 : ∀ x ∈ u_ws RX6 TX6 11, x ∈ wsX8_cover := by decide +kernel
theorem in_X8_cover_X8 : ∀ x ∈ u_ws RX8 TX8 12, x ∈ wsX8_cover := by decide +kernel
def T_X8_cover_28  (S : Sg) (p1 : Int32) : Nat → Int32 → Int32 → Option (Int32)
  | 0, _, _ => none
  | n + 1, p2, p3 => bd (F_X6_everyone 0 S) (fun x3 => if x3 < p3 then (some p2) else (bd (F_X8_isFewer S p3 p2) (fun x5 => bd (if x5 = 0 then (some p2) else (bd (F_X6_isSafe 0 S p1 p3) (fun x10 => if x10 = 0 then (some p2) else (some p3)))) (fun x6 => T_X8_cover_28 S p1 n x6 (p3 + (1 : Int32))))))
set_option maxHeartbeats 4000000 in
set_option maxRecDepth 100000 in
theorem lt_X8_cover_28 {X : XT} (l : Launch) (G : Gp) (hI : Gd G)  {S : Sg} {p1 : Int32} (O : Ok X (wC G) cX8_cover RX8 wsX8_cover 4) : ∀ (n : Nat) (p2 : Int32) (p3 : Int32)  (q : (Int32)), T_X8_cover_28 S p1 n p2 p3  = some q → (Go X l rm_X8_cover (wC G) 4 67 [(0, .ref (G.2.1 0)), (2, .int q)] [] S) → Go X l rm_X8_cover (wC G) 4 28 [(0, .ref (G.2.1 0)), (1, .int p1), (2, .int p2), (3, .int p3)] [] S := by
  intro n
  induction n with
  | zero =>
    intro p2 p3  q hF
    cases hF
  | succ n ih =>
    intro p2 p3  q hF hE
    rw [T_X8_cover_28] at hF
    refine go_iload_n O dX8_cover_28 rfl 3 rfl ?_
    refine go_aload_n O dX8_cover_29 rfl 0 rfl ?_
    refine go_get (k := 0) (j := 2) O (lt9 hI (by decide : (0 : Nat) < 99)) (cv_pw G (S.1 0) (S.2 0)) rfl in_X8_cover_X8 (by decide) fl_X8_cover_24 rfl rfl dX8_cover_30 ?_
    obtain ⟨x3, hA2, hF⟩ := bd_s hF
    refine go_callVi (As := []) (rest := [.int p3]) (b := (sb 0)) O (c_X6_everyone l G hI (by decide : (0 : Nat) < 5) hA2) (fun s args hts => cwV 0 hts gX8_cover_X6_everyone rfl rfl rfl (by decide +kernel) ⟨Nat.le_of_ble_eq_true rfl, Nat.le_of_ble_eq_true rfl⟩) (lt9 hI (sb_lt0 (by decide : (0 : Nat) < 5))) (cv_st G (by decide : (0 : Nat) < 5) (S.1 (sb 0)) (S.2 (sb 0))) rfl rfl rfl rfl (Nat.le_of_ble_eq_true rfl) dX8_cover_33 ?_
    refine go_icmp_gt (tgt := 67) O dX8_cover_36 (by decide) (fun hc13 => ?_) (fun hc13 => ?_)
    · replace hF := it_t hc13 hF
      refine go_perm (ls' := [(0, .ref (G.2.1 0)), (2, .int p2)]) [0, 2] rfl ?_
      exact jn (P := fun q => Go X l rm_X8_cover (wC G) 4 67 [(0, .ref (G.2.1 0)), (2, .int q)] [] S) hF hE
    · replace hF := it_f hc13 hF
      refine go_iload_n O dX8_cover_39 rfl 3 rfl ?_
      refine go_iload_n O dX8_cover_40 rfl 2 rfl ?_
      obtain ⟨x5, hA4, hF⟩ := bd_s hF
      refine go_callSi (As := [.int p3, .int p2]) (rest := []) O (c_X8_isFewer l G hI hA4) (fun s args hts => va_cwS 2 hts gX8_cover_X8_isFewer rfl rfl rfl (by decide +kernel) ⟨Nat.le_of_ble_eq_true rfl, Nat.le_of_ble_eq_true rfl⟩) rfl rfl (Nat.le_of_ble_eq_true rfl) dX8_cover_41 ?_
      obtain ⟨x6, hA8, hF⟩ := bd_s hF
      have J7 : Go X l rm_X8_cover (wC G) 4 61 [(0, .ref (G.2.1 0)), (1, .int p1), (2, .int x6), (3, .int p3)] [] S := by
        refine go_iinc (d := (1 : Int32)) (ls' := [(3, .int (p3 + (1 : Int32))), (0, .ref (G.2.1 0)), (1, .int p1), (2, .int x6)]) O dX8_cover_61 3 rfl (by decide) (by decide) rfl ?_
        refine go_goto (tgt := 28) O dX8_cover_64 (by decide) ?_
        refine go_perm (ls' := [(0, .ref (G.2.1 0)), (1, .int p1), (2, .int x6), (3, .int (p3 + (1 : Int32)))]) [1, 2, 3, 0] rfl ?_
        exact ih _ _ _ hF hE
      replace hF := hA8
      refine go_if_eq (tgt := 61) O dX8_cover_44 (by decide) (fun hc12 => ?_) (fun hc12 => ?_)
      · replace hF := it_t hc12 hF
        exact jn (P := fun q => Go X l rm_X8_cover (wC G) 4 61 [(0, .ref (G.2.1 0)), (1, .int p1), (2, .int q), (3, .int p3)] [] S) hF J7
      · replace hF := it_f hc12 hF
        refine go_aload_n O dX8_cover_47 rfl 0 rfl ?_
        refine go_get (k := 0) (j := 2) O (lt9 hI (by decide : (0 : Nat) < 99)) (cv_pw G (S.1 0) (S.2 0)) rfl in_X8_cover_X8 (by decide) fl_X8_cover_24 rfl rfl dX8_cover_48 ?_
        refine go_iload_n O dX8_cover_51 rfl 1 rfl ?_
        refine go_iload_n O dX8_cover_52 rfl 3 rfl ?_
        obtain ⟨x10, hA9, hF⟩ := bd_s hF
        refine go_callVi (As := [.int p1, .int p3]) (rest := []) (b := (sb 0)) O (c_X6_isSafe l G hI (by decide : (0 : Nat) < 5) hA9) (fun s args hts => cwV 2 hts gX8_cover_X6_isSafe rfl rfl rfl (by decide +kernel) ⟨Nat.le_of_ble_eq_true rfl, Nat.le_of_ble_eq_true rfl⟩) (lt9 hI (sb_lt0 (by decide : (0 : Nat) < 5))) (cv_st G (by decide : (0 : Nat) < 5) (S.1 (sb 0)) (S.2 (sb 0))) rfl rfl rfl rfl (Nat.le_of_ble_eq_true rfl) dX8_cover_53 ?_
        refine go_if_eq (tgt := 61) O dX8_cover_56 (by decide) (fun hc11 => ?_) (fun hc11 => ?_)
        · replace hF := it_t hc11 hF
          exact jn (P := fun q => Go X l rm_X8_cover (wC G) 4 61 [(0, .ref (G.2.1 0)), (1, .int p1), (2, .int q), (3, .int p3)] [] S) hF J7
        · replace hF := it_f hc11 hF
          refine go_iload_n O dX8_cover_59 rfl 3 rfl ?_
          refine go_istore_n (ls' := [(2, .int p3), (0, .ref (G.2.1 0)), (1, .int p1), (3, .int p3)]) O dX8_cover_60 rfl (by decide) rfl ?_
          refine go_perm (ls' := [(0, .ref (G.2.1 0)), (1, .int p1), (2, .int p3), (3, .int p3)]) [1, 2, 0, 3] rfl ?_
          exact jn (P := fun q => Go X l rm_X8_cover (wC G) 4 61 [(0, .ref (G.2.1 0)), (1, .int p1), (2, .int q), (3, .int p3)] [] S) hF J7
def F_X8_cover  (S : Sg) (a1 : Int32) : Option (Int32 × Sg) := if 0 ≤ a1 then (if a1 < (S.1 (sb 0) 10) then (bd (T_X8_cover_28 S a1 FU (-9 : Int32) (0 : Int32)) (fun x1 => bd (F_X8_tellSet S x1) (fun (x16, S17) => some (x16, S17)))) else (bd (F_X8_find S (2 : Int32)) (fun (x19, S20) => some (x19, S20)))) else (some ((-1 : Int32), S))
set_option maxHeartbeats 4000000 in
set_option maxRecDepth 100000 in
theorem c_X8_cover (l : Launch) (G : Gp) (hI : Gd G)  {S : Sg} {a1 : Int32} {r : Int32} {S1 : Sg} (hF : F_X8_cover S a1 = some (r, S1)) : Met l yX8_cover wsX8_cover rm_X8_cover (va_Pc [.ref (G.2.1 0), .int a1] (PreW (wC G) S)) (va_Qi (fun r' u => r' = r ∧ u = S1) (PostW (wC G)) (AW (wC G))) 0 0 (AW (wC G)) := by
  rw [F_X8_cover] at hF
  refine met_i (cc := cX8_cover) (maxL := 4) (own := RX8) hI.1 (by decide) rfl rfl (Nat.le_of_ble_eq_true rfl) (fun X O hR => ?_)
  show Go X l rm_X8_cover (wC G) 4 0 [(0, .ref (G.2.1 0)), (1, .int a1)] [] S
  refine go_iload_n O dX8_cover_0 rfl 1 rfl ?_
  refine go_if_ge (tgt := 6) O dX8_cover_1 (by decide) (fun hc22 => ?_) (fun hc22 => ?_)
  · replace hF := it_t hc22 hF
    refine go_iload_n O dX8_cover_6 rfl 1 rfl ?_
    refine go_aload_n O dX8_cover_7 rfl 0 rfl ?_
    refine go_get (k := 0) (j := 2) O (lt9 hI (by decide : (0 : Nat) < 99)) (cv_pw G (S.1 0) (S.2 0)) rfl in_X8_cover_X8 (by decide) fl_X8_cover_24 rfl rfl dX8_cover_8 ?_
    refine go_get (k := (sb 0)) (j := 10) O (lt9 hI (sb_lt0 (by decide : (0 : Nat) < 5))) (cv_st G (by decide : (0 : Nat) < 5) (S.1 (sb 0)) (S.2 (sb 0))) rfl in_X8_cover_X6 (by decide) fl_X8_cover_202 rfl rfl dX8_cover_11 ?_
    refine go_icmp_lt (tgt := 23) O dX8_cover_14 (by decide) (fun hc21 => ?_) (fun hc21 => ?_)
    · replace hF := it_t hc21 hF
      refine go_bipush (v := (-9 : Int32)) O dX8_cover_23 (by decide) ?_
      refine go_istore_n (ls' := [(2, .int (-9 : Int32)), (0, .ref (G.2.1 0)), (1, .int a1)]) O dX8_cover_25 rfl (by decide) rfl ?_
      refine go_iconst (v := (0 : Int32)) O dX8_cover_26 (by decide) ?_
      refine go_istore_n (ls' := [(3, .int (0 : Int32)), (2, .int (-9 : Int32)), (0, .ref (G.2.1 0)), (1, .int a1)]) O dX8_cover_27 rfl (by decide) rfl ?_
      refine go_perm (ls' := [(0, .ref (G.2.1 0)), (1, .int a1), (2, .int (-9 : Int32)), (3, .int (0 : Int32))]) [2, 3, 1, 0] rfl ?_
      obtain ⟨x1, hA14, hF⟩ := bd_s hF
      refine lt_X8_cover_28 l G hI  O _ _ _ _ hA14 ?_
      refine go_aload_n O dX8_cover_67 rfl 0 rfl ?_
      refine go_iload_n O dX8_cover_68 rfl 1 rfl ?_
      obtain ⟨⟨x16, S17⟩, hA15, hF⟩ := bd_s hF
      refine go_callVi (As := [.int x1]) (rest := []) (b := 0) O (c_X8_tellSet l G hI hA15) (fun s args hts => cwV 1 hts gX8_cover_X8_tellSet rfl rfl rfl (by decide +kernel) ⟨Nat.le_of_ble_eq_true rfl, Nat.le_of_ble_eq_true rfl⟩) (lt9 hI (by decide : (0 : Nat) < 99)) (cv_pw G (S.1 0) (S.2 0)) rfl rfl rfl rfl (Nat.le_of_ble_eq_true rfl) dX8_cover_69 ?_
      exact ret_wi hF (hR _ _ dX8_cover_72)
    · replace hF := it_f hc21 hF
      refine go_aload_n O dX8_cover_17 rfl 0 rfl ?_
      refine go_iconst (v := (2 : Int32)) O dX8_cover_18 (by decide) ?_
      obtain ⟨⟨x19, S20⟩, hA18, hF⟩ := bd_s hF
      refine go_callVi (As := [.int (2 : Int32)]) (rest := []) (b := 0) O (c_X8_find l G hI hA18) (fun s args hts => cwV 1 hts gX8_cover_X8_find rfl rfl rfl (by decide +kernel) ⟨Nat.le_of_ble_eq_true rfl, Nat.le_of_ble_eq_true rfl⟩) (lt9 hI (by decide : (0 : Nat) < 99)) (cv_pw G (S.1 0) (S.2 0)) rfl rfl rfl rfl (Nat.le_of_ble_eq_true rfl) dX8_cover_19 ?_
      exact ret_wi hF (hR _ _ dX8_cover_22)
  · replace hF := it_f hc22 hF
    refine go_iconst (v := (-1 : Int32)) O dX8_cover_4 (by decide) ?_
    exact ret_wi hF (hR _ _ dX8_cover_5)
-- X8_beside
def rm_X8_beside : Room := { frames := 5, cells := 0, slots := 0, locals := 145 }
theorem fl_X8_beside_24 : Cond.fieldLink RX8 24 "PaperWalls" "now" "LPaperWalls$Street;" ∈ wsX8_beside := by decide +kernel
theorem in_X8_beside_X8 : ∀ x ∈ u_ws RX8 TX8 12, x ∈ wsX8_beside := by decide +kernel
def F_X8_beside  (S : Sg) (a1 : Int32) : Option Int32 := if a1 < 0 then (some (-1 : Int32)) else (bd (F_X6_everyTalk 0 S) (fun x2 => if a1 ≤ x2 then (bd (F_X6_goTogether 0 S a1) (fun x4 => if x4 = 0 then (some (0 : Int32)) else (some (1 : Int32)))) else (some (-1 : Int32))))
set_option maxHeartbeats 4000000 in
set_option maxRecDepth 100000 in
theorem c_X8_beside (l : Launch) (G : Gp) (hI : Gd G)  {S : Sg} {a1 : Int32} {r : Int32} (hF : F_X8_beside S a1 = some r) : Met l yX8_beside wsX8_beside rm_X8_beside (va_Pc [.ref (G.2.1 0), .int a1] (PreW (wC G) S)) (va_Qi (fun r' u => r' = r ∧ u = S) (PostW (wC G)) (AW (wC G))) 0 0 (AW (wC G)) := by
  rw [F_X8_beside] at hF
  refine met_i (cc := cX8_beside) (maxL := 2) (own := RX8) hI.1 (by decide) rfl rfl (Nat.le_of_ble_eq_true rfl) (fun X O hR => ?_)
  show Go X l rm_X8_beside (wC G) 2 0 [(0, .ref (G.2.1 0)), (1, .int a1)] [] S
  refine go_iload_n O dX8_beside_0 rfl 1 rfl ?_
  refine go_if_lt (tgt := 15) O dX8_beside_1 (by decide) (fun hc7 => ?_) (fun hc7 => ?_)
  · replace hF := it_t hc7 hF
    refine go_iconst (v := (-1 : Int32)) O dX8_beside_15 (by decide) ?_
    exact ret_i hF (hR _ _ dX8_beside_16)
  · replace hF := it_f hc7 hF
    refine go_iload_n O dX8_beside_4 rfl 1 rfl ?_
    refine go_aload_n O dX8_beside_5 rfl 0 rfl ?_
    refine go_get (k := 0) (j := 2) O (lt9 hI (by decide : (0 : Nat) < 99)) (cv_pw G (S.1 0) (S.2 0)) rfl in_X8_beside_X8 (by decide) fl_X8_beside_24 rfl rfl dX8_beside_6 ?_
    obtain ⟨x2, hA1, hF⟩ := bd_s hF
    refine go_callVi (As := []) (rest := [.int a1]) (b := (sb 0)) O (c_X6_everyTalk l G hI (by decide : (0 : Nat) < 5) hA1) (fun s args hts => cwV 0 hts gX8_beside_X6_everyTalk rfl rfl rfl (by decide +kernel) ⟨Nat.le_of_ble_eq_true rfl, Nat.le_of_ble_eq_true rfl⟩) (lt9 hI (sb_lt0 (by decide : (0 : Nat) < 5))) (cv_st G (by decide : (0 : Nat) < 5) (S.1 (sb 0)) (S.2 (sb 0))) rfl rfl rfl rfl (Nat.le_of_ble_eq_true rfl) dX8_beside_9 ?_
    refine go_icmp_le (tgt := 17) O dX8_beside_12 (by decide) (fun hc6 => ?_) (fun hc6 => ?_)
    · replace hF := it_t hc6 hF
      refine go_aload_n O dX8_beside_17 rfl 0 rfl ?_
      refine go_get (k := 0) (j := 2) O (lt9 hI (by decide : (0 : Nat) < 99)) (cv_pw G (S.1 0) (S.2 0)) rfl in_X8_beside_X8 (by decide) fl_X8_beside_24 rfl rfl dX8_beside_18 ?_
      refine go_iload_n O dX8_beside_21 rfl 1 rfl ?_
      obtain ⟨x4, hA3, hF⟩ := bd_s hF
      refine go_callVi (As := [.int a1]) (rest := []) (b := (sb 0)) O (c_X6_goTogether l G hI (by decide : (0 : Nat) < 5) hA3) (fun s args hts => cwV 1 hts gX8_beside_X6_goTogether rfl rfl rfl (by decide +kernel) ⟨Nat.le_of_ble_eq_true rfl, Nat.le_of_ble_eq_true rfl⟩) (lt9 hI (sb_lt0 (by decide : (0 : Nat) < 5))) (cv_st G (by decide : (0 : Nat) < 5) (S.1 (sb 0)) (S.2 (sb 0))) rfl rfl rfl rfl (Nat.le_of_ble_eq_true rfl) dX8_beside_22 ?_
      refine go_if_eq (tgt := 32) O dX8_beside_25 (by decide) (fun hc5 => ?_) (fun hc5 => ?_)
      · replace hF := it_t hc5 hF
        refine go_iconst (v := (0 : Int32)) O dX8_beside_32 (by decide) ?_
        exact ret_i hF (hR _ _ dX8_beside_33)
      · replace hF := it_f hc5 hF
        refine go_iconst (v := (1 : Int32)) O dX8_beside_28 (by decide) ?_
        refine go_goto (tgt := 33) O dX8_beside_29 (by decide) ?_
        exact ret_i hF (hR _ _ dX8_beside_33)
    · replace hF := it_f hc6 hF
      refine go_iconst (v := (-1 : Int32)) O dX8_beside_15 (by decide) ?_
      exact ret_i hF (hR _ _ dX8_beside_16)
-- X8_turns
def rm_X8_turns : Room := { frames := 6, cells := 0, slots := 0, locals := 167 }
theorem fl_X8_turns_24 : Cond.fieldLink RX8 24 "PaperWalls" "now" "LPaperWalls$Street;" ∈ wsX8_turns := by decide +kernel
theorem fl_X8_turns_42 : Cond.fieldLink RX8 42 "PaperWalls" "plan" "LPaperWalls$Plan;" ∈ wsX8_turns := by decide +kernel
theorem fl_X8_turns_92 : Cond.fieldLink RX8 92 "PaperWalls" "told" "I" ∈ wsX8_turns := by decide +kernel
theorem in_X8_turns_X8 : ∀ x ∈ u_ws RX8 TX8 12, x ∈ wsX8_turns := by decide +kernel
def F_X8_turns  (S : Sg)  : Option (Int32 × Sg) := bd (F_X3_draw 0 S) (fun S2 => bd (F_X3_hours 0 S2) (fun x4 => if x4 = (-9 : Int32) then (some ((-9 : Int32), S2)) else (bd (F_X3_firstHour 0 S2) (fun x6 => nm (wI S2 0 10 x6) (fun S7 => some (x4, S7))))))
set_option maxHeartbeats 4000000 in
set_option maxRecDepth 100000 in
theorem c_X8_turns (l : Launch) (G : Gp) (hI : Gd G)  {S : Sg} {r : Int32} {S1 : Sg} (hF : F_X8_turns S = some (r, S1)) : Met l yX8_turns wsX8_turns rm_X8_turns (va_Pc [.ref (G.2.1 0)] (PreW (wC G) S)) (va_Qi (fun r' u => r' = r ∧ u = S1) (PostW (wC G)) (AW (wC G))) 0 0 (AW (wC G)) := by
  rw [F_X8_turns] at hF
  refine met_i (cc := cX8_turns) (maxL := 2) (own := RX8) hI.1 (by decide) rfl rfl (Nat.le_of_ble_eq_true rfl) (fun X O hR => ?_)
  show Go X l rm_X8_turns (wC G) 2 0 [(0, .ref (G.2.1 0))] [] S
  refine go_aload_n O dX8_turns_0 rfl 0 rfl ?_
  refine go_get (k := 0) (j := 6) O (lt9 hI (by decide : (0 : Nat) < 99)) (cv_pw G (S.1 0) (S.2 0)) rfl in_X8_turns_X8 (by decide) fl_X8_turns_42 rfl rfl dX8_turns_1 ?_
  refine go_aload_n O dX8_turns_4 rfl 0 rfl ?_
  refine go_get (k := 0) (j := 2) O (lt9 hI (by decide : (0 : Nat) < 99)) (cv_pw G (S.1 0) (S.2 0)) rfl in_X8_turns_X8 (by decide) fl_X8_turns_24 rfl rfl dX8_turns_5 ?_
  obtain ⟨S2, hA1, hF⟩ := bd_s hF
  refine go_callVv (As := [.ref (G.2.1 (sb 0))]) (rest := []) (b := 6) O (c_X3_draw l G hI (by decide : (0 : Nat) < 5) hA1) (fun s args hts => cwV 1 hts gX8_turns_X3_draw rfl rfl rfl (by decide +kernel) ⟨Nat.le_of_ble_eq_true rfl, Nat.le_of_ble_eq_true rfl⟩) (lt9 hI (by decide : (6 : Nat) < 99)) (cv_plan G (S.1 6) (S.2 6)) rfl rfl rfl rfl (Nat.le_of_ble_eq_true rfl) dX8_turns_8 ?_
  refine go_aload_n O dX8_turns_11 rfl 0 rfl ?_
  refine go_get (k := 0) (j := 6) O (lt9 hI (by decide : (0 : Nat) < 99)) (cv_pw G (S2.1 0) (S2.2 0)) rfl in_X8_turns_X8 (by decide) fl_X8_turns_42 rfl rfl dX8_turns_12 ?_
  refine go_aload_n O dX8_turns_15 rfl 0 rfl ?_
  refine go_get (k := 0) (j := 2) O (lt9 hI (by decide : (0 : Nat) < 99)) (cv_pw G (S2.1 0) (S2.2 0)) rfl in_X8_turns_X8 (by decide) fl_X8_turns_24 rfl rfl dX8_turns_16 ?_
  obtain ⟨x4, hA3, hF⟩ := bd_s hF
  refine go_callVi (As := [.ref (G.2.1 (sb 0))]) (rest := []) (b := 6) O (c_X3_hours l G hI (by decide : (0 : Nat) < 5) hA3) (fun s args hts => cwV 1 hts gX8_turns_X3_hours rfl rfl rfl (by decide +kernel) ⟨Nat.le_of_ble_eq_true rfl, Nat.le_of_ble_eq_true rfl⟩) (lt9 hI (by decide : (6 : Nat) < 99)) (cv_plan G (S2.1 6) (S2.2 6)) rfl rfl rfl rfl (Nat.le_of_ble_eq_true rfl) dX8_turns_19 ?_
  refine go_istore_n (ls' := [(1, .int x4), (0, .ref (G.2.1 0))]) O dX8_turns_22 rfl (by decide) rfl ?_
  refine go_iload_n O dX8_turns_23 rfl 0 rfl ?_
  refine go_bipush (v := (-9 : Int32)) O dX8_turns_24 (by decide) ?_
  refine go_icmp_ne (tgt := 32) O dX8_turns_26 (by decide) (fun hc8 => ?_) (fun hc8 => ?_)
  · replace hF := it_f hc8 hF
    refine go_aload_n O dX8_turns_32 rfl 1 rfl ?_
    refine go_aload_n O dX8_turns_33 rfl 1 rfl ?_
    refine go_get (k := 0) (j := 6) O (lt9 hI (by decide : (0 : Nat) < 99)) (cv_pw G (S2.1 0) (S2.2 0)) rfl in_X8_turns_X8 (by decide) fl_X8_turns_42 rfl rfl dX8_turns_34 ?_
    refine go_aload_n O dX8_turns_37 rfl 1 rfl ?_
    refine go_get (k := 0) (j := 2) O (lt9 hI (by decide : (0 : Nat) < 99)) (cv_pw G (S2.1 0) (S2.2 0)) rfl in_X8_turns_X8 (by decide) fl_X8_turns_24 rfl rfl dX8_turns_38 ?_
    obtain ⟨x6, hA5, hF⟩ := bd_s hF
    refine go_callVi (As := [.ref (G.2.1 (sb 0))]) (rest := [.ref (G.2.1 0)]) (b := 6) O (c_X3_firstHour l G hI (by decide : (0 : Nat) < 5) hA5) (fun s args hts => cwV 1 hts gX8_turns_X3_firstHour rfl rfl rfl (by decide +kernel) ⟨Nat.le_of_ble_eq_true rfl, Nat.le_of_ble_eq_true rfl⟩) (lt9 hI (by decide : (6 : Nat) < 99)) (cv_plan G (S2.1 6) (S2.2 6)) rfl rfl rfl rfl (Nat.le_of_ble_eq_true rfl) dX8_turns_41 ?_
    obtain ⟨S7, eS7, hF⟩ := nm_s hF
    refine go_putI (k := 0) (j := 10) O (lt9 hI (by decide : (0 : Nat) < 99)) (cv_pw G (S2.1 0) (S2.2 0)) rfl in_X8_turns_X8 (by decide) fl_X8_turns_92 rfl tyX8 tyX8_ok nmX8 rfl (by decide +kernel) (Nat.le_of_ble_eq_true rfl) (cv_pw G (upd (S2.1 0) 10 x6) (S2.2 0)) dX8_turns_44 eS7 ?_
    refine go_iload_n O dX8_turns_47 rfl 0 rfl ?_
    exact ret_wi hF (hR _ _ dX8_turns_48)
  · replace hF := it_t hc8 hF
    refine go_bipush (v := (-9 : Int32)) O dX8_turns_29 (by decide) ?_
    exact ret_wi hF (hR _ _ dX8_turns_31)
-- X8_most
def rm_X8_most : Room := { frames := 6, cells := 0, slots := 0, locals := 167 }
theorem fl_X8_most_24 : Cond.fieldLink RX8 24 "PaperWalls" "now" "LPaperWalls$Street;" ∈ wsX8_most := by decide +kernel
theorem fl_X8_most_42 : Cond.fieldLink RX8 42 "PaperWalls" "plan" "LPaperWalls$Plan;" ∈ wsX8_most := by decide +kernel
theorem in_X8_most_X8 : ∀ x ∈ u_ws RX8 TX8 12, x ∈ wsX8_most := by decide +kernel
def F_X8_most  (S : Sg)  : Option (Int32 × Sg) := bd (F_X3_draw 0 S) (fun S2 => bd (F_X3_largest 0 S2) (fun x4 => bd (F_X8_tellSet S2 x4) (fun (x6, S7) => some (x6, S7))))
set_option maxHeartbeats 4000000 in
set_option maxRecDepth 100000 in
theorem c_X8_most (l : Launch) (G : Gp) (hI : Gd G)  {S : Sg} {r : Int32} {S1 : Sg} (hF : F_X8_most S = some (r, S1)) : Met l yX8_most wsX8_most rm_X8_most (va_Pc [.ref (G.2.1 0)] (PreW (wC G) S)) (va_Qi (fun r' u => r' = r ∧ u = S1) (PostW (wC G)) (AW (wC G))) 0 0 (AW (wC G)) := by
  rw [F_X8_most] at hF
  refine met_i (cc := cX8_most) (maxL := 1) (own := RX8) hI.1 (by decide) rfl rfl (Nat.le_of_ble_eq_true rfl) (fun X O hR => ?_)
  show Go X l rm_X8_most (wC G) 1 0 [(0, .ref (G.2.1 0))] [] S
  refine go_aload_n O dX8_most_0 rfl 0 rfl ?_
  refine go_get (k := 0) (j := 6) O (lt9 hI (by decide : (0 : Nat) < 99)) (cv_pw G (S.1 0) (S.2 0)) rfl in_X8_most_X8 (by decide) fl_X8_most_42 rfl rfl dX8_most_1 ?_
  refine go_aload_n O dX8_most_4 rfl 0 rfl ?_
  refine go_get (k := 0) (j := 2) O (lt9 hI (by decide : (0 : Nat) < 99)) (cv_pw G (S.1 0) (S.2 0)) rfl in_X8_most_X8 (by decide) fl_X8_most_24 rfl rfl dX8_most_5 ?_
  obtain ⟨S2, hA1, hF⟩ := bd_s hF
  refine go_callVv (As := [.ref (G.2.1 (sb 0))]) (rest := []) (b := 6) O (c_X3_draw l G hI (by decide : (0 : Nat) < 5) hA1) (fun s args hts => cwV 1 hts gX8_most_X3_draw rfl rfl rfl (by decide +kernel) ⟨Nat.le_of_ble_eq_true rfl, Nat.le_of_ble_eq_true rfl⟩) (lt9 hI (by decide : (6 : Nat) < 99)) (cv_plan G (S.1 6) (S.2 6)) rfl rfl rfl rfl (Nat.le_of_ble_eq_true rfl) dX8_most_8 ?_
  refine go_aload_n O dX8_most_11 rfl 0 rfl ?_
  refine go_aload_n O dX8_most_12 rfl 0 rfl ?_
  refine go_get (k := 0) (j := 6) O (lt9 hI (by decide : (0 : Nat) < 99)) (cv_pw G (S2.1 0) (S2.2 0)) rfl in_X8_most_X8 (by decide) fl_X8_most_42 rfl rfl dX8_most_13 ?_
  refine go_aload_n O dX8_most_16 rfl 0 rfl ?_
  refine go_get (k := 0) (j := 2) O (lt9 hI (by decide : (0 : Nat) < 99)) (cv_pw G (S2.1 0) (S2.2 0)) rfl in_X8_most_X8 (by decide) fl_X8_most_24 rfl rfl dX8_most_17 ?_
  obtain ⟨x4, hA3, hF⟩ := bd_s hF
  refine go_callVi (As := [.ref (G.2.1 (sb 0))]) (rest := [.ref (G.2.1 0)]) (b := 6) O (c_X3_largest l G hI (by decide : (0 : Nat) < 5) hA3) (fun s args hts => cwV 1 hts gX8_most_X3_largest rfl rfl rfl (by decide +kernel) ⟨Nat.le_of_ble_eq_true rfl, Nat.le_of_ble_eq_true rfl⟩) (lt9 hI (by decide : (6 : Nat) < 99)) (cv_plan G (S2.1 6) (S2.2 6)) rfl rfl rfl rfl (Nat.le_of_ble_eq_true rfl) dX8_most_20 ?_
  obtain ⟨⟨x6, S7⟩, hA5, hF⟩ := bd_s hF
  refine go_callVi (As := [.int x4]) (rest := []) (b := 0) O (c_X8_tellSet l G hI hA5) (fun s args hts => cwV 1 hts gX8_most_X8_tellSet rfl rfl rfl (by decide +kernel) ⟨Nat.le_of_ble_eq_true rfl, Nat.le_of_ble_eq_true rfl⟩) (lt9 hI (by decide : (0 : Nat) < 99)) (cv_pw G (S2.1 0) (S2.2 0)) rfl rfl rfl rfl (Nat.le_of_ble_eq_true rfl) dX8_most_23 ?_
  exact ret_wi hF (hR _ _ dX8_most_26)
-- X8_isSafeByPasting
def rm_X8_isSafeByPasting : Room := { frames := 5, cells := 0, slots := 0, locals := 142 }
theorem fl_X8_isSafeByPasting_24 : Cond.fieldLink RX8 24 "PaperWalls" "now" "LPaperWalls$Street;" ∈ wsX8_isSafeByPasting := by decide +kernel
theorem fl_X8_isSafeByPasting_28 : Cond.fieldLink RX8 28 "PaperWalls" "trial" "LPaperWalls$Street;" ∈ wsX8_isSafeByPasting := by decide +kernel
theorem fl_X8_isSafeByPasting_56 : Cond.fieldLink RX8 56 "PaperWalls" "shares" "LPaperWalls$Shares;" ∈ wsX8_isSafeByPasting := by decide +kernel
theorem fl_X8_isSafeByPasting_165 : Cond.fieldLink RX8 165 "PaperWalls$Street" "walls" "I" ∈ wsX8_isSafeByPasting := by decide +kernel
theorem fl_X8_isSafeByPasting_168 : Cond.fieldLink RX8 168 "PaperWalls$Street" "layers" "[I" ∈ wsX8_isSafeByPasting := by decide +kernel
theorem fl_X8_isSafeByPasting_260 : Cond.fieldLink RX8 260 "PaperWalls$Shares" "of" "[I" ∈ wsX8_isSafeByPasting := by decide +kernel
theorem in_X8_isSafeByPasting_X5 : ∀ x ∈ u_ws RX5 TX5 2, x ∈ wsX8_isSafeByPasting := by decide +kernel
theorem in_X8_isSafeByPasting_X6 : ∀ x ∈ u_ws RX6 TX6 11, x ∈ wsX8_isSafeByPasting := by decide +kernel
theorem in_X8_isSafeByPasting_X8 : ∀ x ∈ u_ws RX8 TX8 12, x ∈ wsX8_isSafeByPasting := by decide +kernel
def T_X8_isSafeByPasting_27   (p1 : Int32) (p3 : Int32) : Nat → Int32 → Sg → Option (Sg)
  | 0, _, _ => none
  | n + 1, p4, S => if (S.1 (sb 0) 8) ≤ p4 then (some S) else (chk (inB p4 6) (chk (inB p4 6) (chk (inB p4 6) (nm (wI S (sb 1 + 1) p4.toNatClampNeg ((S.1 (sb 0 + 1) p4.toNatClampNeg) + (S.1 13 p4.toNatClampNeg))) (fun S8 => T_X8_isSafeByPasting_27 p1 p3 n (p4 + (1 : Int32)) S8)))))
set_option maxHeartbeats 4000000 in
set_option maxRecDepth 100000 in
theorem lt_X8_isSafeByPasting_27 {X : XT} (l : Launch) (G : Gp) (hI : Gd G)   {p1 : Int32} {p3 : Int32} (O : Ok X (wC G) cX8_isSafeByPasting RX8 wsX8_isSafeByPasting 5) : ∀ (n : Nat) (p4 : Int32) (S : Sg) (q : (Sg)), T_X8_isSafeByPasting_27 p1 p3 n p4 S = some q → (Go X l rm_X8_isSafeByPasting (wC G) 5 76 [(0, .ref (G.2.1 0)), (1, .int p1), (3, .int p3)] [] q) → Go X l rm_X8_isSafeByPasting (wC G) 5 27 [(0, .ref (G.2.1 0)), (1, .int p1), (3, .int p3), (4, .int p4)] [] S := by
  intro n
  induction n with
  | zero =>
    intro p4 S q hF
    cases hF
  | succ n ih =>
    intro p4 S q hF hE
    rw [T_X8_isSafeByPasting_27] at hF
    refine go_iload O dX8_isSafeByPasting_27 3 rfl ?_
    refine go_aload_n O dX8_isSafeByPasting_29 rfl 0 rfl ?_
    refine go_get (k := 0) (j := 2) O (lt9 hI (by decide : (0 : Nat) < 99)) (cv_pw G (S.1 0) (S.2 0)) rfl in_X8_isSafeByPasting_X8 (by decide) fl_X8_isSafeByPasting_24 rfl rfl dX8_isSafeByPasting_30 ?_
    refine go_get (k := (sb 0)) (j := 8) O (lt9 hI (sb_lt0 (by decide : (0 : Nat) < 5))) (cv_st G (by decide : (0 : Nat) < 5) (S.1 (sb 0)) (S.2 (sb 0))) rfl in_X8_isSafeByPasting_X6 (by decide) fl_X8_isSafeByPasting_165 rfl rfl dX8_isSafeByPasting_33 ?_
    refine go_icmp_ge (tgt := 76) O dX8_isSafeByPasting_36 (by decide) (fun hc9 => ?_) (fun hc9 => ?_)
    · replace hF := it_t hc9 hF
      refine go_perm (ls' := [(0, .ref (G.2.1 0)), (1, .int p1), (3, .int p3)]) [0, 1, 2] rfl ?_
      exact jn (P := fun q => Go X l rm_X8_isSafeByPasting (wC G) 5 76 [(0, .ref (G.2.1 0)), (1, .int p1), (3, .int p3)] [] q) hF hE
    · replace hF := it_f hc9 hF
      refine go_aload_n O dX8_isSafeByPasting_39 rfl 0 rfl ?_
      refine go_get (k := 0) (j := 3) O (lt9 hI (by decide : (0 : Nat) < 99)) (cv_pw G (S.1 0) (S.2 0)) rfl in_X8_isSafeByPasting_X8 (by decide) fl_X8_isSafeByPasting_28 rfl rfl dX8_isSafeByPasting_40 ?_
      refine go_get (k := (sb 1)) (j := 0) O (lt9 hI (sb_lt0 (by decide : (1 : Nat) < 5))) (cv_st G (by decide : (1 : Nat) < 5) (S.1 (sb 1)) (S.2 (sb 1))) rfl in_X8_isSafeByPasting_X6 (by decide) fl_X8_isSafeByPasting_168 rfl rfl dX8_isSafeByPasting_43 ?_
      refine go_iload O dX8_isSafeByPasting_46 3 rfl ?_
      refine go_aload_n O dX8_isSafeByPasting_48 rfl 0 rfl ?_
      refine go_get (k := 0) (j := 2) O (lt9 hI (by decide : (0 : Nat) < 99)) (cv_pw G (S.1 0) (S.2 0)) rfl in_X8_isSafeByPasting_X8 (by decide) fl_X8_isSafeByPasting_24 rfl rfl dX8_isSafeByPasting_49 ?_
      refine go_get (k := (sb 0)) (j := 0) O (lt9 hI (sb_lt0 (by decide : (0 : Nat) < 5))) (cv_st G (by decide : (0 : Nat) < 5) (S.1 (sb 0)) (S.2 (sb 0))) rfl in_X8_isSafeByPasting_X6 (by decide) fl_X8_isSafeByPasting_168 rfl rfl dX8_isSafeByPasting_52 ?_
      refine go_iload O dX8_isSafeByPasting_55 3 rfl ?_
      obtain ⟨hb5, hF⟩ := chk_s hF
      refine go_iald (k := (sb 0 + 1)) O (lt9 hI (sb_lt (by decide : (0 : Nat) < 5) (by decide : 1 < 13))) (cv_sta1 G (by decide : (0 : Nat) < 5) (S.1 (sb 0 + 1)) (S.2 (sb 0 + 1))) (inB_in hb5) dX8_isSafeByPasting_57 ?_
      refine go_aload_n O dX8_isSafeByPasting_58 rfl 0 rfl ?_
      refine go_get (k := 0) (j := 8) O (lt9 hI (by decide : (0 : Nat) < 99)) (cv_pw G (S.1 0) (S.2 0)) rfl in_X8_isSafeByPasting_X8 (by decide) fl_X8_isSafeByPasting_56 rfl rfl dX8_isSafeByPasting_59 ?_
      refine go_get (k := 12) (j := 0) O (lt9 hI (by decide : (12 : Nat) < 99)) (cv_shr G (S.1 12) (S.2 12)) rfl in_X8_isSafeByPasting_X5 (by decide) fl_X8_isSafeByPasting_260 rfl rfl dX8_isSafeByPasting_62 ?_
      refine go_iload O dX8_isSafeByPasting_65 3 rfl ?_
      obtain ⟨hb6, hF⟩ := chk_s hF
      refine go_iald (k := 13) O (lt9 hI (by decide : (13 : Nat) < 99)) (cv_of G (S.1 13) (S.2 13)) (inB_in hb6) dX8_isSafeByPasting_67 ?_
      refine go_iadd O dX8_isSafeByPasting_68 ?_
      obtain ⟨hb7, hF⟩ := chk_s hF
      obtain ⟨S8, eS8, hF⟩ := nm_s hF
      refine go_iast (k := (sb 1 + 1)) O (lt9 hI (sb_lt (by decide : (1 : Nat) < 5) (by decide : 1 < 13))) (fun f => (cv_sta1 G (by decide : (1 : Nat) < 5) f (S.2 (sb 1 + 1)))) (inB_in hb7) dX8_isSafeByPasting_69 eS8 ?_
      refine go_iinc (d := (1 : Int32)) (ls' := [(4, .int (p4 + (1 : Int32))), (0, .ref (G.2.1 0)), (1, .int p1), (3, .int p3)]) O dX8_isSafeByPasting_70 3 rfl (by decide) (by decide) rfl ?_
      refine go_goto (tgt := 27) O dX8_isSafeByPasting_73 (by decide) ?_
      refine go_perm (ls' := [(0, .ref (G.2.1 0)), (1, .int p1), (3, .int p3), (4, .int (p4 + (1 : Int32)))]) [1, 2, 3, 0] rfl ?_
      exact ih _ _ _ hF hE
def T_X8_isSafeByPasting_17   (p1 : Int32) : Nat → Int32 → Sg → Option ((Sg) ⊕ (Int32 × Sg))
  | 0, _, _ => none
  | n + 1, p3, S => if (1000 : Int32) ≤ p3 then (some (.inl S)) else (bd (T_X8_isSafeByPasting_27 p1 p3 FU (0 : Int32) S) (fun S4 => bd (F_X6_measure 1 S4) (fun S12 => bd (F_X6_isSafe 1 S12 p1 (0 : Int32)) (fun x14 => if x14 = 0 then (bd (F_X5_advance S12) (fun (x16, S17) => if x16 = 0 then (some (.inr ((0 : Int32), S17))) else (T_X8_isSafeByPasting_17 p1 n (p3 + (1 : Int32)) S17))) else (some (.inr ((1 : Int32), S12)))))))
set_option maxHeartbeats 4000000 in
set_option maxRecDepth 100000 in
theorem lt_X8_isSafeByPasting_17 {X : XT} (l : Launch) (G : Gp) (hI : Gd G)   {p1 : Int32} (O : Ok X (wC G) cX8_isSafeByPasting RX8 wsX8_isSafeByPasting 5) : ∀ (n : Nat) (p3 : Int32) (S : Sg) (q : ((Sg) ⊕ (Int32 × Sg))), T_X8_isSafeByPasting_17 p1 n p3 S = some q → (∀ (S9 : Sg), q = .inl S9 → Go X l rm_X8_isSafeByPasting (wC G) 5 115 [] [] S9) → (∀ (rS : Int32 × Sg), q = .inr rS → ∀ pc ls (hz : vp_nar .boolean rS.1 = rS.1), decode cX8_isSafeByPasting pc = .ok (.ireturn, 1) → Go X l rm_X8_isSafeByPasting (wC G) 5 pc ls [.int rS.1] rS.2) → Go X l rm_X8_isSafeByPasting (wC G) 5 17 [(0, .ref (G.2.1 0)), (1, .int p1), (3, .int p3)] [] S := by
  intro n
  induction n with
  | zero =>
    intro p3 S q hF
    cases hF
  | succ n ih =>
    intro p3 S q hF hE hR
    rw [T_X8_isSafeByPasting_17] at hF
    refine go_iload_n O dX8_isSafeByPasting_17 rfl 2 rfl ?_
    refine go_sipush (v := (1000 : Int32)) O dX8_isSafeByPasting_18 (by decide) ?_
    refine go_icmp_ge (tgt := 115) O dX8_isSafeByPasting_21 (by decide) (fun hc20 => ?_) (fun hc20 => ?_)
    · replace hF := it_t hc20 hF
      refine go_perm (ls' := []) [] rfl ?_
      exact ret_q hF (fun hq => hE _ hq)
    · replace hF := it_f hc20 hF
      refine go_iconst (v := (0 : Int32)) O dX8_isSafeByPasting_24 (by decide) ?_
      refine go_istore (ls' := [(4, .int (0 : Int32)), (0, .ref (G.2.1 0)), (1, .int p1), (3, .int p3)]) O dX8_isSafeByPasting_25 (by decide) rfl ?_
      refine go_perm (ls' := [(0, .ref (G.2.1 0)), (1, .int p1), (3, .int p3), (4, .int (0 : Int32))]) [1, 2, 3, 0] rfl ?_
      obtain ⟨S4, hA10, hF⟩ := bd_s hF
      refine lt_X8_isSafeByPasting_27 l G hI  O _ _ _ _ hA10 ?_
      refine go_aload_n O dX8_isSafeByPasting_76 rfl 0 rfl ?_
      refine go_get (k := 0) (j := 3) O (lt9 hI (by decide : (0 : Nat) < 99)) (cv_pw G (S4.1 0) (S4.2 0)) rfl in_X8_isSafeByPasting_X8 (by decide) fl_X8_isSafeByPasting_28 rfl rfl dX8_isSafeByPasting_77 ?_
      obtain ⟨S12, hA11, hF⟩ := bd_s hF
      refine go_callVv (As := []) (rest := []) (b := (sb 1)) O (c_X6_measure l G hI (by decide : (1 : Nat) < 5) hA11) (fun s args hts => cwV 0 hts gX8_isSafeByPasting_X6_measure rfl rfl rfl (by decide +kernel) ⟨Nat.le_of_ble_eq_true rfl, Nat.le_of_ble_eq_true rfl⟩) (lt9 hI (sb_lt0 (by decide : (1 : Nat) < 5))) (cv_st G (by decide : (1 : Nat) < 5) (S4.1 (sb 1)) (S4.2 (sb 1))) rfl rfl rfl rfl (Nat.le_of_ble_eq_true rfl) dX8_isSafeByPasting_80 ?_
      refine go_aload_n O dX8_isSafeByPasting_83 rfl 0 rfl ?_
      refine go_get (k := 0) (j := 3) O (lt9 hI (by decide : (0 : Nat) < 99)) (cv_pw G (S12.1 0) (S12.2 0)) rfl in_X8_isSafeByPasting_X8 (by decide) fl_X8_isSafeByPasting_28 rfl rfl dX8_isSafeByPasting_84 ?_
      refine go_iload_n O dX8_isSafeByPasting_87 rfl 1 rfl ?_
      refine go_iconst (v := (0 : Int32)) O dX8_isSafeByPasting_88 (by decide) ?_
      obtain ⟨x14, hA13, hF⟩ := bd_s hF
      refine go_callVi (As := [.int p1, .int (0 : Int32)]) (rest := []) (b := (sb 1)) O (c_X6_isSafe l G hI (by decide : (1 : Nat) < 5) hA13) (fun s args hts => cwV 2 hts gX8_isSafeByPasting_X6_isSafe rfl rfl rfl (by decide +kernel) ⟨Nat.le_of_ble_eq_true rfl, Nat.le_of_ble_eq_true rfl⟩) (lt9 hI (sb_lt0 (by decide : (1 : Nat) < 5))) (cv_st G (by decide : (1 : Nat) < 5) (S12.1 (sb 1)) (S12.2 (sb 1))) rfl rfl rfl rfl (Nat.le_of_ble_eq_true rfl) dX8_isSafeByPasting_89 ?_
      refine go_if_eq (tgt := 97) O dX8_isSafeByPasting_92 (by decide) (fun hc19 => ?_) (fun hc19 => ?_)
      · replace hF := it_t hc19 hF
        refine go_aload_n O dX8_isSafeByPasting_97 rfl 0 rfl ?_
        refine go_get (k := 0) (j := 8) O (lt9 hI (by decide : (0 : Nat) < 99)) (cv_pw G (S12.1 0) (S12.2 0)) rfl in_X8_isSafeByPasting_X8 (by decide) fl_X8_isSafeByPasting_56 rfl rfl dX8_isSafeByPasting_98 ?_
        obtain ⟨⟨x16, S17⟩, hA15, hF⟩ := bd_s hF
        refine go_callVi (As := []) (rest := []) (b := 12) O (c_X5_advance l G hI hA15) (fun s args hts => cwV 0 hts gX8_isSafeByPasting_X5_advance rfl rfl rfl (by decide +kernel) ⟨Nat.le_of_ble_eq_true rfl, Nat.le_of_ble_eq_true rfl⟩) (lt9 hI (by decide : (12 : Nat) < 99)) (cv_shr G (S12.1 12) (S12.2 12)) rfl rfl rfl rfl (Nat.le_of_ble_eq_true rfl) dX8_isSafeByPasting_101 ?_
        refine go_if_ne (tgt := 109) O dX8_isSafeByPasting_104 (by decide) (fun hc18 => ?_) (fun hc18 => ?_)
        · replace hF := it_f hc18 hF
          refine go_iinc (d := (1 : Int32)) (ls' := [(3, .int (p3 + (1 : Int32))), (0, .ref (G.2.1 0)), (1, .int p1)]) O dX8_isSafeByPasting_109 2 rfl (by decide) (by decide) rfl ?_
          refine go_goto (tgt := 17) O dX8_isSafeByPasting_112 (by decide) ?_
          refine go_perm (ls' := [(0, .ref (G.2.1 0)), (1, .int p1), (3, .int (p3 + (1 : Int32)))]) [1, 2, 0] rfl ?_
          exact ih _ _ _ hF hE hR
        · replace hF := it_t hc18 hF
          refine go_iconst (v := (0 : Int32)) O dX8_isSafeByPasting_107 (by decide) ?_
          exact ret_q hF (fun hq => hR _ hq _ _ (show vp_nar .boolean (0 : Int32) = (0 : Int32) by decide) dX8_isSafeByPasting_108)
      · replace hF := it_f hc19 hF
        refine go_iconst (v := (1 : Int32)) O dX8_isSafeByPasting_95 (by decide) ?_
        exact ret_q hF (fun hq => hR _ hq _ _ (show vp_nar .boolean (1 : Int32) = (1 : Int32) by decide) dX8_isSafeByPasting_96)
def F_X8_isSafeByPasting  (S : Sg) (a1 : Int32) (a2 : Int32) : Option (Int32 × Sg) := bd (F_X5_begin S (S.1 (sb 0) 8) a2) (fun S2 => bd (T_X8_isSafeByPasting_17 a1 FU (0 : Int32) S2) (fun q => match q with | .inl S3 => some ((0 : Int32), S3) | .inr r => some r))
set_option maxHeartbeats 4000000 in
set_option maxRecDepth 100000 in
theorem c_X8_isSafeByPasting (l : Launch) (G : Gp) (hI : Gd G)  {S : Sg} {a1 : Int32} {a2 : Int32} {r : Int32} {S1 : Sg} (hF : F_X8_isSafeByPasting S a1 a2 = some (r, S1)) : Met l yX8_isSafeByPasting wsX8_isSafeByPasting rm_X8_isSafeByPasting (va_Pc [.ref (G.2.1 0), .int a1, .int a2] (PreW (wC G) S)) (va_Qi (fun r' u => r' = r ∧ u = S1) (PostW (wC G)) (AW (wC G))) 0 0 (AW (wC G)) := by
  rw [F_X8_isSafeByPasting] at hF
  refine met_z (cc := cX8_isSafeByPasting) (maxL := 5) (own := RX8) hI.1 (by decide) rfl rfl (Nat.le_of_ble_eq_true rfl) (fun X O hR => ?_)
  show Go X l rm_X8_isSafeByPasting (wC G) 5 0 [(0, .ref (G.2.1 0)), (1, .int a1), (2, .int a2)] [] S
  refine go_aload_n O dX8_isSafeByPasting_0 rfl 0 rfl ?_
  refine go_get (k := 0) (j := 8) O (lt9 hI (by decide : (0 : Nat) < 99)) (cv_pw G (S.1 0) (S.2 0)) rfl in_X8_isSafeByPasting_X8 (by decide) fl_X8_isSafeByPasting_56 rfl rfl dX8_isSafeByPasting_1 ?_
  refine go_aload_n O dX8_isSafeByPasting_4 rfl 0 rfl ?_
  refine go_get (k := 0) (j := 2) O (lt9 hI (by decide : (0 : Nat) < 99)) (cv_pw G (S.1 0) (S.2 0)) rfl in_X8_isSafeByPasting_X8 (by decide) fl_X8_isSafeByPasting_24 rfl rfl dX8_isSafeByPasting_5 ?_
  refine go_get (k := (sb 0)) (j := 8) O (lt9 hI (sb_lt0 (by decide : (0 : Nat) < 5))) (cv_st G (by decide : (0 : Nat) < 5) (S.1 (sb 0)) (S.2 (sb 0))) rfl in_X8_isSafeByPasting_X6 (by decide) fl_X8_isSafeByPasting_165 rfl rfl dX8_isSafeByPasting_8 ?_
  refine go_iload_n O dX8_isSafeByPasting_11 rfl 2 rfl ?_
  obtain ⟨S2, hA1, hF⟩ := bd_s hF
  refine go_callVv (As := [.int (S.1 (sb 0) 8), .int a2]) (rest := []) (b := 12) O (c_X5_begin l G hI hA1) (fun s args hts => cwV 2 hts gX8_isSafeByPasting_X5_begin rfl rfl rfl (by decide +kernel) ⟨Nat.le_of_ble_eq_true rfl, Nat.le_of_ble_eq_true rfl⟩) (lt9 hI (by decide : (12 : Nat) < 99)) (cv_shr G (S.1 12) (S.2 12)) rfl rfl rfl rfl (Nat.le_of_ble_eq_true rfl) dX8_isSafeByPasting_12 ?_
  refine go_iconst (v := (0 : Int32)) O dX8_isSafeByPasting_15 (by decide) ?_
  refine go_istore_n (ls' := [(3, .int (0 : Int32)), (0, .ref (G.2.1 0)), (1, .int a1), (2, .int a2)]) O dX8_isSafeByPasting_16 rfl (by decide) rfl ?_
  refine go_perm (ls' := [(0, .ref (G.2.1 0)), (1, .int a1), (3, .int (0 : Int32))]) [1, 2, 0] rfl ?_
  obtain ⟨q22, hA21, hF⟩ := bd_s hF
  refine lt_X8_isSafeByPasting_17 l G hI  O _ _ _ _ hA21 (fun S3 hq => ?_) ?_
  · subst hq
    refine go_iconst (v := (0 : Int32)) O dX8_isSafeByPasting_115 (by decide) ?_
    exact ret_wz hF (fun hz => hR _ _ hz dX8_isSafeByPasting_116) (show vp_nar .boolean (0 : Int32) = (0 : Int32) by decide)
  · intro r hq pc ls hz hd
    subst hq
    exact ret_pz hF (fun hz => hR _ _ hz hd) hz
-- X8_paste
def rm_X8_paste : Room := { frames := 6, cells := 0, slots := 0, locals := 166 }
theorem fl_X8_paste_11 : Cond.fieldLink RX8 11 "PaperWalls" "rows" "[LPaperWalls$Row;" ∈ wsX8_paste := by decide +kernel
theorem fl_X8_paste_24 : Cond.fieldLink RX8 24 "PaperWalls" "now" "LPaperWalls$Street;" ∈ wsX8_paste := by decide +kernel
theorem fl_X8_paste_28 : Cond.fieldLink RX8 28 "PaperWalls" "trial" "LPaperWalls$Street;" ∈ wsX8_paste := by decide +kernel
theorem fl_X8_paste_56 : Cond.fieldLink RX8 56 "PaperWalls" "shares" "LPaperWalls$Shares;" ∈ wsX8_paste := by decide +kernel
theorem fl_X8_paste_165 : Cond.fieldLink RX8 165 "PaperWalls$Street" "walls" "I" ∈ wsX8_paste := by decide +kernel
theorem fl_X8_paste_202 : Cond.fieldLink RX8 202 "PaperWalls$Street" "talks" "I" ∈ wsX8_paste := by decide +kernel
theorem fl_X8_paste_260 : Cond.fieldLink RX8 260 "PaperWalls$Shares" "of" "[I" ∈ wsX8_paste := by decide +kernel
theorem in_X8_paste_X5 : ∀ x ∈ u_ws RX5 TX5 2, x ∈ wsX8_paste := by decide +kernel
theorem in_X8_paste_X6 : ∀ x ∈ u_ws RX6 TX6 11, x ∈ wsX8_paste := by decide +kernel
theorem in_X8_paste_X8 : ∀ x ∈ u_ws RX8 TX8 12, x ∈ wsX8_paste := by decide +kernel
def T_X8_paste_43   (p1 : Int32) (p2 : Int32) : Nat → Int32 → Sg → Option ((Sg) ⊕ (Int32 × Sg))
  | 0, _, _ => none
  | n + 1, p3, S => if (6 : Int32) < p3 then (some (.inl S)) else (bd (F_X8_isSafeByPasting S p1 p3) (fun (x7, S8) => if x7 = 0 then (T_X8_paste_43 p1 p2 n (p3 + (1 : Int32)) S8) else (chk (inB p2 6) (bd (F_X4_fill (p2).toNatClampNeg 13 6 S8 (S8.1 (sb 0) 8)) (fun S11 => some (.inr (p3, S11)))))))
set_option maxHeartbeats 4000000 in
set_option maxRecDepth 100000 in
theorem lt_X8_paste_43 {X : XT} (l : Launch) (G : Gp) (hI : Gd G)   {p1 : Int32} {p2 : Int32} (O : Ok X (wC G) cX8_paste RX8 wsX8_paste 4) : ∀ (n : Nat) (p3 : Int32) (S : Sg) (q : ((Sg) ⊕ (Int32 × Sg))), T_X8_paste_43 p1 p2 n p3 S = some q → (∀ (S9 : Sg), q = .inl S9 → Go X l rm_X8_paste (wC G) 4 89 [] [] S9) → (∀ (rS : Int32 × Sg), q = .inr rS → ∀ pc ls, decode cX8_paste pc = .ok (.ireturn, 1) → Go X l rm_X8_paste (wC G) 4 pc ls [.int rS.1] rS.2) → Go X l rm_X8_paste (wC G) 4 43 [(0, .ref (G.2.1 0)), (1, .int p1), (2, .int p2), (3, .int p3)] [] S := by
  intro n
  induction n with
  | zero =>
    intro p3 S q hF
    cases hF
  | succ n ih =>
    intro p3 S q hF hE hR
    rw [T_X8_paste_43] at hF
    refine go_iload_n O dX8_paste_43 rfl 3 rfl ?_
    refine go_bipush (v := (6 : Int32)) O dX8_paste_44 (by decide) ?_
    refine go_icmp_gt (tgt := 89) O dX8_paste_46 (by decide) (fun hc13 => ?_) (fun hc13 => ?_)
    · replace hF := it_t hc13 hF
      refine go_perm (ls' := []) [] rfl ?_
      exact ret_q hF (fun hq => hE _ hq)
    · replace hF := it_f hc13 hF
      refine go_aload_n O dX8_paste_49 rfl 0 rfl ?_
      refine go_iload_n O dX8_paste_50 rfl 1 rfl ?_
      refine go_iload_n O dX8_paste_51 rfl 3 rfl ?_
      obtain ⟨⟨x7, S8⟩, hA6, hF⟩ := bd_s hF
      refine go_callVi (As := [.int p1, .int p3]) (rest := []) (b := 0) O (c_X8_isSafeByPasting l G hI hA6) (fun s args hts => cwV 2 hts gX8_paste_X8_isSafeByPasting rfl rfl rfl (by decide +kernel) ⟨Nat.le_of_ble_eq_true rfl, Nat.le_of_ble_eq_true rfl⟩) (lt9 hI (by decide : (0 : Nat) < 99)) (cv_pw G (S.1 0) (S.2 0)) rfl rfl rfl rfl (Nat.le_of_ble_eq_true rfl) dX8_paste_52 ?_
      refine go_if_eq (tgt := 83) O dX8_paste_55 (by decide) (fun hc12 => ?_) (fun hc12 => ?_)
      · replace hF := it_t hc12 hF
        refine go_iinc (d := (1 : Int32)) (ls' := [(3, .int (p3 + (1 : Int32))), (0, .ref (G.2.1 0)), (1, .int p1), (2, .int p2)]) O dX8_paste_83 3 rfl (by decide) (by decide) rfl ?_
        refine go_goto (tgt := 43) O dX8_paste_86 (by decide) ?_
        refine go_perm (ls' := [(0, .ref (G.2.1 0)), (1, .int p1), (2, .int p2), (3, .int (p3 + (1 : Int32)))]) [1, 2, 3, 0] rfl ?_
        exact ih _ _ _ hF hE hR
      · replace hF := it_f hc12 hF
        refine go_aload_n O dX8_paste_58 rfl 0 rfl ?_
        refine go_get (k := 0) (j := 0) O (lt9 hI (by decide : (0 : Nat) < 99)) (cv_pw G (S8.1 0) (S8.2 0)) rfl in_X8_paste_X8 (by decide) fl_X8_paste_11 rfl rfl dX8_paste_59 ?_
        refine go_iload_n O dX8_paste_62 rfl 2 rfl ?_
        obtain ⟨hb9, hF⟩ := chk_s hF
        refine go_aldq (k := 1) (t0 := 4) O (lt9 hI (by decide : (1 : Nat) < 99)) (cv_rows G (S8.1 1) (S8.2 1)) rfl (inB_in hb9) dX8_paste_63 (v := .ref (G.2.1 (14 + 2 * (p2).toNatClampNeg))) rfl ?_
        refine go_aload_n O dX8_paste_64 rfl 0 rfl ?_
        refine go_get (k := 0) (j := 8) O (lt9 hI (by decide : (0 : Nat) < 99)) (cv_pw G (S8.1 0) (S8.2 0)) rfl in_X8_paste_X8 (by decide) fl_X8_paste_56 rfl rfl dX8_paste_65 ?_
        refine go_get (k := 12) (j := 0) O (lt9 hI (by decide : (12 : Nat) < 99)) (cv_shr G (S8.1 12) (S8.2 12)) rfl in_X8_paste_X5 (by decide) fl_X8_paste_260 rfl rfl dX8_paste_68 ?_
        refine go_aload_n O dX8_paste_71 rfl 0 rfl ?_
        refine go_get (k := 0) (j := 2) O (lt9 hI (by decide : (0 : Nat) < 99)) (cv_pw G (S8.1 0) (S8.2 0)) rfl in_X8_paste_X8 (by decide) fl_X8_paste_24 rfl rfl dX8_paste_72 ?_
        refine go_get (k := (sb 0)) (j := 8) O (lt9 hI (sb_lt0 (by decide : (0 : Nat) < 5))) (cv_st G (by decide : (0 : Nat) < 5) (S8.1 (sb 0)) (S8.2 (sb 0))) rfl in_X8_paste_X6 (by decide) fl_X8_paste_165 rfl rfl dX8_paste_75 ?_
        obtain ⟨S11, hA10, hF⟩ := bd_s hF
        refine go_callVv (As := [.ref (G.2.1 13), .int (S8.1 (sb 0) 8)]) (rest := []) (b := (14 + 2 * (p2).toNatClampNeg)) O (c_X4_fill l G hI (inB_lt hb9) (by decide : (13 : Nat) < 99) (fun f h => (cv_of G f h)) hA10) (fun s args hts => cwV 2 hts gX8_paste_X4_fill rfl rfl rfl (by decide +kernel) ⟨Nat.le_of_ble_eq_true rfl, Nat.le_of_ble_eq_true rfl⟩) (lt9 hI (row_lt (inB_lt hb9))) (cv_row G (inB_lt hb9) (S8.1 (14 + 2 * (p2).toNatClampNeg)) (S8.2 (14 + 2 * (p2).toNatClampNeg))) rfl rfl rfl rfl (Nat.le_of_ble_eq_true rfl) dX8_paste_78 ?_
        refine go_iload_n O dX8_paste_81 rfl 3 rfl ?_
        exact ret_q hF (fun hq => hR _ hq _ _ dX8_paste_82)
def F_X8_paste  (S : Sg) (a1 : Int32) (a2 : Int32) : Option (Int32 × Sg) := if a1 < 0 then (some ((-1 : Int32), S)) else (bd (F_X8_isRow S a2) (fun x2 => if x2 = 0 then (some ((-1 : Int32), S)) else (if a1 < (S.1 (sb 0) 10) then (bd (F_X6_become 1 0 S) (fun S4 => bd (T_X8_paste_43 a1 a2 FU (0 : Int32) S4) (fun q => match q with | .inl S5 => some ((-9 : Int32), S5) | .inr r => some r))) else (bd (F_X8_find S (2 : Int32)) (fun (x17, S18) => some (x17, S18))))))
set_option maxHeartbeats 4000000 in
set_option maxRecDepth 100000 in
theorem c_X8_paste (l : Launch) (G : Gp) (hI : Gd G)  {S : Sg} {a1 : Int32} {a2 : Int32} {r : Int32} {S1 : Sg} (hF : F_X8_paste S a1 a2 = some (r, S1)) : Met l yX8_paste wsX8_paste rm_X8_paste (va_Pc [.ref (G.2.1 0), .int a1, .int a2] (PreW (wC G) S)) (va_Qi (fun r' u => r' = r ∧ u = S1) (PostW (wC G)) (AW (wC G))) 0 0 (AW (wC G)) := by
  rw [F_X8_paste] at hF
  refine met_i (cc := cX8_paste) (maxL := 4) (own := RX8) hI.1 (by decide) rfl rfl (Nat.le_of_ble_eq_true rfl) (fun X O hR => ?_)
  show Go X l rm_X8_paste (wC G) 4 0 [(0, .ref (G.2.1 0)), (1, .int a1), (2, .int a2)] [] S
  refine go_iload_n O dX8_paste_0 rfl 1 rfl ?_
  refine go_if_lt (tgt := 11) O dX8_paste_1 (by decide) (fun hc21 => ?_) (fun hc21 => ?_)
  · replace hF := it_t hc21 hF
    refine go_iconst (v := (-1 : Int32)) O dX8_paste_11 (by decide) ?_
    exact ret_wi hF (hR _ _ dX8_paste_12)
  · replace hF := it_f hc21 hF
    refine go_iload_n O dX8_paste_4 rfl 2 rfl ?_
    obtain ⟨x2, hA1, hF⟩ := bd_s hF
    refine go_callSi (As := [.int a2]) (rest := []) O (c_X8_isRow l G hI hA1) (fun s args hts => va_cwS 1 hts gX8_paste_X8_isRow rfl rfl rfl (by decide +kernel) ⟨Nat.le_of_ble_eq_true rfl, Nat.le_of_ble_eq_true rfl⟩) rfl rfl (Nat.le_of_ble_eq_true rfl) dX8_paste_5 ?_
    refine go_if_ne (tgt := 13) O dX8_paste_8 (by decide) (fun hc20 => ?_) (fun hc20 => ?_)
    · replace hF := it_f hc20 hF
      refine go_iload_n O dX8_paste_13 rfl 1 rfl ?_
      refine go_aload_n O dX8_paste_14 rfl 0 rfl ?_
      refine go_get (k := 0) (j := 2) O (lt9 hI (by decide : (0 : Nat) < 99)) (cv_pw G (S.1 0) (S.2 0)) rfl in_X8_paste_X8 (by decide) fl_X8_paste_24 rfl rfl dX8_paste_15 ?_
      refine go_get (k := (sb 0)) (j := 10) O (lt9 hI (sb_lt0 (by decide : (0 : Nat) < 5))) (cv_st G (by decide : (0 : Nat) < 5) (S.1 (sb 0)) (S.2 (sb 0))) rfl in_X8_paste_X6 (by decide) fl_X8_paste_202 rfl rfl dX8_paste_18 ?_
      refine go_icmp_lt (tgt := 30) O dX8_paste_21 (by decide) (fun hc19 => ?_) (fun hc19 => ?_)
      · replace hF := it_t hc19 hF
        refine go_aload_n O dX8_paste_30 rfl 0 rfl ?_
        refine go_get (k := 0) (j := 3) O (lt9 hI (by decide : (0 : Nat) < 99)) (cv_pw G (S.1 0) (S.2 0)) rfl in_X8_paste_X8 (by decide) fl_X8_paste_28 rfl rfl dX8_paste_31 ?_
        refine go_aload_n O dX8_paste_34 rfl 0 rfl ?_
        refine go_get (k := 0) (j := 2) O (lt9 hI (by decide : (0 : Nat) < 99)) (cv_pw G (S.1 0) (S.2 0)) rfl in_X8_paste_X8 (by decide) fl_X8_paste_24 rfl rfl dX8_paste_35 ?_
        obtain ⟨S4, hA3, hF⟩ := bd_s hF
        refine go_callVv (As := [.ref (G.2.1 (sb 0))]) (rest := []) (b := (sb 1)) O (c_X6_become l G hI (by decide : (1 : Nat) < 5) (by decide : (0 : Nat) < 5) hA3) (fun s args hts => cwV 1 hts gX8_paste_X6_become rfl rfl rfl (by decide +kernel) ⟨Nat.le_of_ble_eq_true rfl, Nat.le_of_ble_eq_true rfl⟩) (lt9 hI (sb_lt0 (by decide : (1 : Nat) < 5))) (cv_st G (by decide : (1 : Nat) < 5) (S.1 (sb 1)) (S.2 (sb 1))) rfl rfl rfl rfl (Nat.le_of_ble_eq_true rfl) dX8_paste_38 ?_
        refine go_iconst (v := (0 : Int32)) O dX8_paste_41 (by decide) ?_
        refine go_istore_n (ls' := [(3, .int (0 : Int32)), (0, .ref (G.2.1 0)), (1, .int a1), (2, .int a2)]) O dX8_paste_42 rfl (by decide) rfl ?_
        refine go_perm (ls' := [(0, .ref (G.2.1 0)), (1, .int a1), (2, .int a2), (3, .int (0 : Int32))]) [1, 2, 3, 0] rfl ?_
        obtain ⟨q15, hA14, hF⟩ := bd_s hF
        refine lt_X8_paste_43 l G hI  O _ _ _ _ hA14 (fun S5 hq => ?_) ?_
        · subst hq
          refine go_bipush (v := (-9 : Int32)) O dX8_paste_89 (by decide) ?_
          exact ret_wi hF (hR _ _ dX8_paste_91)
        · intro r hq pc ls hd
          subst hq
          exact ret_pi hF (hR _ _ hd)
      · replace hF := it_f hc19 hF
        refine go_aload_n O dX8_paste_24 rfl 0 rfl ?_
        refine go_iconst (v := (2 : Int32)) O dX8_paste_25 (by decide) ?_
        obtain ⟨⟨x17, S18⟩, hA16, hF⟩ := bd_s hF
        refine go_callVi (As := [.int (2 : Int32)]) (rest := []) (b := 0) O (c_X8_find l G hI hA16) (fun s args hts => cwV 1 hts gX8_paste_X8_find rfl rfl rfl (by decide +kernel) ⟨Nat.le_of_ble_eq_true rfl, Nat.le_of_ble_eq_true rfl⟩) (lt9 hI (by decide : (0 : Nat) < 99)) (cv_pw G (S.1 0) (S.2 0)) rfl rfl rfl rfl (Nat.le_of_ble_eq_true rfl) dX8_paste_26 ?_
        exact ret_wi hF (hR _ _ dX8_paste_29)
    · replace hF := it_t hc20 hF
      refine go_iconst (v := (-1 : Int32)) O dX8_paste_11 (by decide) ?_
      exact ret_wi hF (hR _ _ dX8_paste_12)
-- X8_tearOff
def rm_X8_tearOff : Room := { frames := 2, cells := 0, slots := 0, locals := 62 }
theorem fl_X8_tearOff_24 : Cond.fieldLink RX8 24 "PaperWalls" "now" "LPaperWalls$Street;" ∈ wsX8_tearOff := by decide +kernel
theorem fl_X8_tearOff_92 : Cond.fieldLink RX8 92 "PaperWalls" "told" "I" ∈ wsX8_tearOff := by decide +kernel
theorem fl_X8_tearOff_142 : Cond.fieldLink RX8 142 "PaperWalls$Street" "kinds" "[I" ∈ wsX8_tearOff := by decide +kernel
theorem fl_X8_tearOff_168 : Cond.fieldLink RX8 168 "PaperWalls$Street" "layers" "[I" ∈ wsX8_tearOff := by decide +kernel
theorem fl_X8_tearOff_177 : Cond.fieldLink RX8 177 "PaperWalls$Street" "rooms" "[I" ∈ wsX8_tearOff := by decide +kernel
theorem fl_X8_tearOff_263 : Cond.fieldLink RX8 263 "PaperWalls$Kinds" "LEAST" "[I" ∈ wsX8_tearOff := by decide +kernel
theorem wd_X8_tearOff_im : Cond.initialized "java/lang/Math" ∈ wsX8_tearOff := by decide +kernel
theorem wd_X8_tearOff_kmax : Cond.code Lib.Math.max.name Lib.Math.max.code 2 (some .int) ∈ wsX8_tearOff := by decide +kernel
theorem wd_X8_tearOff_kmin : Cond.code Lib.Math.min.name Lib.Math.min.code 2 (some .int) ∈ wsX8_tearOff := by decide +kernel
theorem wd_X8_tearOff_m266 : Cond.methodLink RX8 266 Lib.Math.min.name ∈ wsX8_tearOff := by decide +kernel
theorem wd_X8_tearOff_m271 : Cond.methodLink RX8 271 Lib.Math.max.name ∈ wsX8_tearOff := by decide +kernel
theorem wd_X8_tearOff_smax : Cond.static Lib.Math.max.name ∈ wsX8_tearOff := by decide +kernel
theorem wd_X8_tearOff_smin : Cond.static Lib.Math.min.name ∈ wsX8_tearOff := by decide +kernel
theorem in_X8_tearOff_X6 : ∀ x ∈ u_ws RX6 TX6 11, x ∈ wsX8_tearOff := by decide +kernel
theorem in_X8_tearOff_X8 : ∀ x ∈ u_ws RX8 TX8 12, x ∈ wsX8_tearOff := by decide +kernel
def T_X8_tearOff_105  (S : Sg) (p3 : Int32) (p5 : Int32) : Nat → Int32 → Option ((Unit) ⊕ (Int32 × Sg))
  | 0, _ => none
  | n + 1, p6 => if p5 ≤ p6 then (some (.inl ())) else (chk (inB p6 6) (if (S.1 (sb 0 + 1) p6.toNatClampNeg) < p3 then (T_X8_tearOff_105 S p3 p5 n (p6 + (1 : Int32))) else (nm (wI S 0 10 p6) (fun S20 => some (.inr (p3, S20))))))
set_option maxHeartbeats 4000000 in
set_option maxRecDepth 100000 in
theorem lt_X8_tearOff_105 {X : XT} (l : Launch) (G : Gp) (hI : Gd G)  {S : Sg} {p3 : Int32} {p5 : Int32} (O : Ok X (wC G) cX8_tearOff RX8 wsX8_tearOff 7) : ∀ (n : Nat) (p6 : Int32)  (q : ((Unit) ⊕ (Int32 × Sg))), T_X8_tearOff_105 S p3 p5 n p6  = some q → (q = .inl () → Go X l rm_X8_tearOff (wC G) 7 140 [] [] S) → (∀ (rS : Int32 × Sg), q = .inr rS → ∀ pc ls, decode cX8_tearOff pc = .ok (.ireturn, 1) → Go X l rm_X8_tearOff (wC G) 7 pc ls [.int rS.1] rS.2) → Go X l rm_X8_tearOff (wC G) 7 105 [(0, .ref (G.2.1 0)), (3, .int p3), (5, .int p5), (6, .int p6)] [] S := by
  intro n
  induction n with
  | zero =>
    intro p6  q hF
    cases hF
  | succ n ih =>
    intro p6  q hF hE hR
    rw [T_X8_tearOff_105] at hF
    refine go_iload O dX8_tearOff_105 3 rfl ?_
    refine go_iload O dX8_tearOff_107 2 rfl ?_
    refine go_icmp_ge (tgt := 140) O dX8_tearOff_109 (by decide) (fun hc22 => ?_) (fun hc22 => ?_)
    · replace hF := it_t hc22 hF
      refine go_perm (ls' := []) [] rfl ?_
      exact ret_q hF (fun hq => hE  hq)
    · replace hF := it_f hc22 hF
      refine go_aload_n O dX8_tearOff_112 rfl 0 rfl ?_
      refine go_get (k := 0) (j := 2) O (lt9 hI (by decide : (0 : Nat) < 99)) (cv_pw G (S.1 0) (S.2 0)) rfl in_X8_tearOff_X8 (by decide) fl_X8_tearOff_24 rfl rfl dX8_tearOff_113 ?_
      refine go_get (k := (sb 0)) (j := 0) O (lt9 hI (sb_lt0 (by decide : (0 : Nat) < 5))) (cv_st G (by decide : (0 : Nat) < 5) (S.1 (sb 0)) (S.2 (sb 0))) rfl in_X8_tearOff_X6 (by decide) fl_X8_tearOff_168 rfl rfl dX8_tearOff_116 ?_
      refine go_iload O dX8_tearOff_119 3 rfl ?_
      obtain ⟨hb19, hF⟩ := chk_s hF
      refine go_iald (k := (sb 0 + 1)) O (lt9 hI (sb_lt (by decide : (0 : Nat) < 5) (by decide : 1 < 13))) (cv_sta1 G (by decide : (0 : Nat) < 5) (S.1 (sb 0 + 1)) (S.2 (sb 0 + 1))) (inB_in hb19) dX8_tearOff_121 ?_
      refine go_iload_n O dX8_tearOff_122 rfl 1 rfl ?_
      refine go_icmp_lt (tgt := 134) O dX8_tearOff_123 (by decide) (fun hc21 => ?_) (fun hc21 => ?_)
      · replace hF := it_t hc21 hF
        refine go_iinc (d := (1 : Int32)) (ls' := [(6, .int (p6 + (1 : Int32))), (0, .ref (G.2.1 0)), (3, .int p3), (5, .int p5)]) O dX8_tearOff_134 3 rfl (by decide) (by decide) rfl ?_
        refine go_goto (tgt := 105) O dX8_tearOff_137 (by decide) ?_
        refine go_perm (ls' := [(0, .ref (G.2.1 0)), (3, .int p3), (5, .int p5), (6, .int (p6 + (1 : Int32)))]) [1, 2, 3, 0] rfl ?_
        exact ih _ _ hF hE hR
      · replace hF := it_f hc21 hF
        refine go_aload_n O dX8_tearOff_126 rfl 0 rfl ?_
        refine go_iload O dX8_tearOff_127 3 rfl ?_
        obtain ⟨S20, eS20, hF⟩ := nm_s hF
        refine go_putI (k := 0) (j := 10) O (lt9 hI (by decide : (0 : Nat) < 99)) (cv_pw G (S.1 0) (S.2 0)) rfl in_X8_tearOff_X8 (by decide) fl_X8_tearOff_92 rfl tyX8 tyX8_ok nmX8 rfl (by decide +kernel) (Nat.le_of_ble_eq_true rfl) (cv_pw G (upd (S.1 0) 10 p6) (S.2 0)) dX8_tearOff_129 eS20 ?_
        refine go_iload_n O dX8_tearOff_132 rfl 1 rfl ?_
        exact ret_q hF (fun hq => hR _ hq _ _ dX8_tearOff_133)
def F_X8_tearOff  (S : Sg) (a1 : Int32) (a2 : Int32) : Option (Int32 × Sg) := bd (F_X8_areTwo S a1 a2) (fun x2 => if x2 = 0 then (some ((-1 : Int32), S)) else (chk (inB a1 7) (chk (inB (S.1 (sb 0 + 3) a1.toNatClampNeg) 6) (chk (inB a1 7) (bd (F_X6_comesTo 0 S (S.1 (sb 0 + 4) a1.toNatClampNeg) a2) (fun x7 => nm ((skv 4 (S.1 (sb 0 + 3) a1.toNatClampNeg).toNatClampNeg) - x7) (fun x8 => if 0 < x8 then (chk (inB a1 7) (chk (inB a2 7) (nm (S.1 (sb 0 + 4) a2.toNatClampNeg) (fun x11 => nm (S.1 (sb 0 + 4) a1.toNatClampNeg) (fun x12 => nm (if x11 < x12 then x11 else x12) (fun x13 => chk (inB a1 7) (chk (inB a2 7) (nm (S.1 (sb 0 + 4) a2.toNatClampNeg) (fun x16 => nm (S.1 (sb 0 + 4) a1.toNatClampNeg) (fun x17 => nm (if x17 < x16 then x16 else x17) (fun x18 => bd (T_X8_tearOff_105 S x8 x18 FU x13) (fun q => match q with | .inl () => some ((-9 : Int32), S) | .inr r => some r)))))))))))) else (nm (wI S 0 10 (-9 : Int32)) (fun S25 => some ((0 : Int32), S25))))))))))
set_option maxHeartbeats 4000000 in
set_option maxRecDepth 100000 in
theorem c_X8_tearOff (l : Launch) (G : Gp) (hI : Gd G)  {S : Sg} {a1 : Int32} {a2 : Int32} {r : Int32} {S1 : Sg} (hF : F_X8_tearOff S a1 a2 = some (r, S1)) : Met l yX8_tearOff wsX8_tearOff rm_X8_tearOff (va_Pc [.ref (G.2.1 0), .int a1, .int a2] (PreW (wC G) S)) (va_Qi (fun r' u => r' = r ∧ u = S1) (PostW (wC G)) (AW (wC G))) 0 0 (AW (wC G)) := by
  rw [F_X8_tearOff] at hF
  refine met_i (cc := cX8_tearOff) (maxL := 7) (own := RX8) hI.1 (by decide) rfl rfl (Nat.le_of_ble_eq_true rfl) (fun X O hR => ?_)
  show Go X l rm_X8_tearOff (wC G) 7 0 [(0, .ref (G.2.1 0)), (1, .int a1), (2, .int a2)] [] S
  refine go_aload_n O dX8_tearOff_0 rfl 0 rfl ?_
  refine go_iload_n O dX8_tearOff_1 rfl 1 rfl ?_
  refine go_iload_n O dX8_tearOff_2 rfl 2 rfl ?_
  obtain ⟨x2, hA1, hF⟩ := bd_s hF
  refine go_callVi (As := [.int a1, .int a2]) (rest := []) (b := 0) O (c_X8_areTwo l G hI hA1) (fun s args hts => cwV 2 hts gX8_tearOff_X8_areTwo rfl rfl rfl (by decide +kernel) ⟨Nat.le_of_ble_eq_true rfl, Nat.le_of_ble_eq_true rfl⟩) (lt9 hI (by decide : (0 : Nat) < 99)) (cv_pw G (S.1 0) (S.2 0)) rfl rfl rfl rfl (Nat.le_of_ble_eq_true rfl) dX8_tearOff_3 ?_
  refine go_if_ne (tgt := 11) O dX8_tearOff_6 (by decide) (fun hc27 => ?_) (fun hc27 => ?_)
  · replace hF := it_f hc27 hF
    refine go_gets (v := 4) O (by decide) fl_X8_tearOff_263 dX8_tearOff_11 ?_
    refine go_aload_n O dX8_tearOff_14 rfl 0 rfl ?_
    refine go_get (k := 0) (j := 2) O (lt9 hI (by decide : (0 : Nat) < 99)) (cv_pw G (S.1 0) (S.2 0)) rfl in_X8_tearOff_X8 (by decide) fl_X8_tearOff_24 rfl rfl dX8_tearOff_15 ?_
    refine go_get (k := (sb 0)) (j := 2) O (lt9 hI (sb_lt0 (by decide : (0 : Nat) < 5))) (cv_st G (by decide : (0 : Nat) < 5) (S.1 (sb 0)) (S.2 (sb 0))) rfl in_X8_tearOff_X6 (by decide) fl_X8_tearOff_142 rfl rfl dX8_tearOff_18 ?_
    refine go_iload_n O dX8_tearOff_21 rfl 1 rfl ?_
    obtain ⟨hb3, hF⟩ := chk_s hF
    refine go_iald (k := (sb 0 + 3)) O (lt9 hI (sb_lt (by decide : (0 : Nat) < 5) (by decide : 3 < 13))) (cv_sta3 G (by decide : (0 : Nat) < 5) (S.1 (sb 0 + 3)) (S.2 (sb 0 + 3))) (inB_in hb3) dX8_tearOff_22 ?_
    obtain ⟨hb4, hF⟩ := chk_s hF
    refine go_sald (v := 4) O (by decide : (4 : Nat) < 5) (inB_in hb4) dX8_tearOff_23 ?_
    refine go_aload_n O dX8_tearOff_24 rfl 0 rfl ?_
    refine go_get (k := 0) (j := 2) O (lt9 hI (by decide : (0 : Nat) < 99)) (cv_pw G (S.1 0) (S.2 0)) rfl in_X8_tearOff_X8 (by decide) fl_X8_tearOff_24 rfl rfl dX8_tearOff_25 ?_
    refine go_aload_n O dX8_tearOff_28 rfl 0 rfl ?_
    refine go_get (k := 0) (j := 2) O (lt9 hI (by decide : (0 : Nat) < 99)) (cv_pw G (S.1 0) (S.2 0)) rfl in_X8_tearOff_X8 (by decide) fl_X8_tearOff_24 rfl rfl dX8_tearOff_29 ?_
    refine go_get (k := (sb 0)) (j := 3) O (lt9 hI (sb_lt0 (by decide : (0 : Nat) < 5))) (cv_st G (by decide : (0 : Nat) < 5) (S.1 (sb 0)) (S.2 (sb 0))) rfl in_X8_tearOff_X6 (by decide) fl_X8_tearOff_177 rfl rfl dX8_tearOff_32 ?_
    refine go_iload_n O dX8_tearOff_35 rfl 1 rfl ?_
    obtain ⟨hb5, hF⟩ := chk_s hF
    refine go_iald (k := (sb 0 + 4)) O (lt9 hI (sb_lt (by decide : (0 : Nat) < 5) (by decide : 4 < 13))) (cv_sta4 G (by decide : (0 : Nat) < 5) (S.1 (sb 0 + 4)) (S.2 (sb 0 + 4))) (inB_in hb5) dX8_tearOff_36 ?_
    refine go_iload_n O dX8_tearOff_37 rfl 2 rfl ?_
    obtain ⟨x7, hA6, hF⟩ := bd_s hF
    refine go_callVi (As := [.int (S.1 (sb 0 + 4) a1.toNatClampNeg), .int a2]) (rest := [.int (skv 4 (S.1 (sb 0 + 3) a1.toNatClampNeg).toNatClampNeg)]) (b := (sb 0)) O (c_X6_comesTo l G hI (by decide : (0 : Nat) < 5) hA6) (fun s args hts => cwV 2 hts gX8_tearOff_X6_comesTo rfl rfl rfl (by decide +kernel) ⟨Nat.le_of_ble_eq_true rfl, Nat.le_of_ble_eq_true rfl⟩) (lt9 hI (sb_lt0 (by decide : (0 : Nat) < 5))) (cv_st G (by decide : (0 : Nat) < 5) (S.1 (sb 0)) (S.2 (sb 0))) rfl rfl rfl rfl (Nat.le_of_ble_eq_true rfl) dX8_tearOff_38 ?_
    refine go_isub O dX8_tearOff_41 ?_
    obtain ⟨x8, ex8, hF⟩ := nm_s hF
    refine go_topi ex8 ?_
    refine go_istore_n (ls' := [(3, .int x8), (0, .ref (G.2.1 0)), (1, .int a1), (2, .int a2)]) O dX8_tearOff_42 rfl (by decide) rfl ?_
    refine go_iload_n O dX8_tearOff_43 rfl 0 rfl ?_
    refine go_if_gt (tgt := 55) O dX8_tearOff_44 (by decide) (fun hc26 => ?_) (fun hc26 => ?_)
    · replace hF := it_t hc26 hF
      refine go_aload_n O dX8_tearOff_55 rfl 1 rfl ?_
      refine go_get (k := 0) (j := 2) O (lt9 hI (by decide : (0 : Nat) < 99)) (cv_pw G (S.1 0) (S.2 0)) rfl in_X8_tearOff_X8 (by decide) fl_X8_tearOff_24 rfl rfl dX8_tearOff_56 ?_
      refine go_get (k := (sb 0)) (j := 3) O (lt9 hI (sb_lt0 (by decide : (0 : Nat) < 5))) (cv_st G (by decide : (0 : Nat) < 5) (S.1 (sb 0)) (S.2 (sb 0))) rfl in_X8_tearOff_X6 (by decide) fl_X8_tearOff_177 rfl rfl dX8_tearOff_59 ?_
      refine go_iload_n O dX8_tearOff_62 rfl 2 rfl ?_
      obtain ⟨hb9, hF⟩ := chk_s hF
      refine go_iald (k := (sb 0 + 4)) O (lt9 hI (sb_lt (by decide : (0 : Nat) < 5) (by decide : 4 < 13))) (cv_sta4 G (by decide : (0 : Nat) < 5) (S.1 (sb 0 + 4)) (S.2 (sb 0 + 4))) (inB_in hb9) dX8_tearOff_63 ?_
      refine go_aload_n O dX8_tearOff_64 rfl 1 rfl ?_
      refine go_get (k := 0) (j := 2) O (lt9 hI (by decide : (0 : Nat) < 99)) (cv_pw G (S.1 0) (S.2 0)) rfl in_X8_tearOff_X8 (by decide) fl_X8_tearOff_24 rfl rfl dX8_tearOff_65 ?_
      refine go_get (k := (sb 0)) (j := 3) O (lt9 hI (sb_lt0 (by decide : (0 : Nat) < 5))) (cv_st G (by decide : (0 : Nat) < 5) (S.1 (sb 0)) (S.2 (sb 0))) rfl in_X8_tearOff_X6 (by decide) fl_X8_tearOff_177 rfl rfl dX8_tearOff_68 ?_
      refine go_iload_n O dX8_tearOff_71 rfl 3 rfl ?_
      obtain ⟨hb10, hF⟩ := chk_s hF
      refine go_iald (k := (sb 0 + 4)) O (lt9 hI (sb_lt (by decide : (0 : Nat) < 5) (by decide : 4 < 13))) (cv_sta4 G (by decide : (0 : Nat) < 5) (S.1 (sb 0 + 4)) (S.2 (sb 0 + 4))) (inB_in hb10) dX8_tearOff_72 ?_
      obtain ⟨x11, ex11, hF⟩ := nm_s hF
      refine go_topi ex11 ?_
      obtain ⟨x12, ex12, hF⟩ := nm_s hF
      refine go_top2i ex12 ?_
      obtain ⟨x13, ex13, hF⟩ := nm_s hF
      refine go_mmin (v := x13) O wd_X8_tearOff_m266 wd_X8_tearOff_smin wd_X8_tearOff_im wd_X8_tearOff_kmin (by decide) (Nat.le_of_ble_eq_true rfl) ex13.symm dX8_tearOff_73 ?_
      refine go_istore (ls' := [(4, .int x13), (3, .int x8), (0, .ref (G.2.1 0)), (1, .int a1), (2, .int a2)]) O dX8_tearOff_76 (by decide) rfl ?_
      refine go_aload_n O dX8_tearOff_78 rfl 2 rfl ?_
      refine go_get (k := 0) (j := 2) O (lt9 hI (by decide : (0 : Nat) < 99)) (cv_pw G (S.1 0) (S.2 0)) rfl in_X8_tearOff_X8 (by decide) fl_X8_tearOff_24 rfl rfl dX8_tearOff_79 ?_
      refine go_get (k := (sb 0)) (j := 3) O (lt9 hI (sb_lt0 (by decide : (0 : Nat) < 5))) (cv_st G (by decide : (0 : Nat) < 5) (S.1 (sb 0)) (S.2 (sb 0))) rfl in_X8_tearOff_X6 (by decide) fl_X8_tearOff_177 rfl rfl dX8_tearOff_82 ?_
      refine go_iload_n O dX8_tearOff_85 rfl 3 rfl ?_
      obtain ⟨hb14, hF⟩ := chk_s hF
      refine go_iald (k := (sb 0 + 4)) O (lt9 hI (sb_lt (by decide : (0 : Nat) < 5) (by decide : 4 < 13))) (cv_sta4 G (by decide : (0 : Nat) < 5) (S.1 (sb 0 + 4)) (S.2 (sb 0 + 4))) (inB_in hb14) dX8_tearOff_86 ?_
      refine go_aload_n O dX8_tearOff_87 rfl 2 rfl ?_
      refine go_get (k := 0) (j := 2) O (lt9 hI (by decide : (0 : Nat) < 99)) (cv_pw G (S.1 0) (S.2 0)) rfl in_X8_tearOff_X8 (by decide) fl_X8_tearOff_24 rfl rfl dX8_tearOff_88 ?_
      refine go_get (k := (sb 0)) (j := 3) O (lt9 hI (sb_lt0 (by decide : (0 : Nat) < 5))) (cv_st G (by decide : (0 : Nat) < 5) (S.1 (sb 0)) (S.2 (sb 0))) rfl in_X8_tearOff_X6 (by decide) fl_X8_tearOff_177 rfl rfl dX8_tearOff_91 ?_
      refine go_iload_n O dX8_tearOff_94 rfl 4 rfl ?_
      obtain ⟨hb15, hF⟩ := chk_s hF
      refine go_iald (k := (sb 0 + 4)) O (lt9 hI (sb_lt (by decide : (0 : Nat) < 5) (by decide : 4 < 13))) (cv_sta4 G (by decide : (0 : Nat) < 5) (S.1 (sb 0 + 4)) (S.2 (sb 0 + 4))) (inB_in hb15) dX8_tearOff_95 ?_
      obtain ⟨x16, ex16, hF⟩ := nm_s hF
      refine go_topi ex16 ?_
      obtain ⟨x17, ex17, hF⟩ := nm_s hF
      refine go_top2i ex17 ?_
      obtain ⟨x18, ex18, hF⟩ := nm_s hF
      refine go_mmax (v := x18) O wd_X8_tearOff_m271 wd_X8_tearOff_smax wd_X8_tearOff_im wd_X8_tearOff_kmax (by decide) (Nat.le_of_ble_eq_true rfl) ex18.symm dX8_tearOff_96 ?_
      refine go_istore (ls' := [(5, .int x18), (4, .int x13), (3, .int x8), (0, .ref (G.2.1 0)), (1, .int a1), (2, .int a2)]) O dX8_tearOff_99 (by decide) rfl ?_
      refine go_iload O dX8_tearOff_101 1 rfl ?_
      refine go_istore (ls' := [(6, .int x13), (5, .int x18), (4, .int x13), (3, .int x8), (0, .ref (G.2.1 0)), (1, .int a1), (2, .int a2)]) O dX8_tearOff_103 (by decide) rfl ?_
      refine go_perm (ls' := [(0, .ref (G.2.1 0)), (3, .int x8), (5, .int x18), (6, .int x13)]) [4, 3, 1, 0] rfl ?_
      obtain ⟨q24, hA23, hF⟩ := bd_s hF
      refine lt_X8_tearOff_105 l G hI  O _ _ _ hA23 (fun hq => ?_) ?_
      · subst hq
        refine go_bipush (v := (-9 : Int32)) O dX8_tearOff_140 (by decide) ?_
        exact ret_wi hF (hR _ _ dX8_tearOff_142)
      · intro r hq pc ls hd
        subst hq
        exact ret_pi hF (hR _ _ hd)
    · replace hF := it_f hc26 hF
      refine go_aload_n O dX8_tearOff_47 rfl 1 rfl ?_
      refine go_bipush (v := (-9 : Int32)) O dX8_tearOff_48 (by decide) ?_
      obtain ⟨S25, eS25, hF⟩ := nm_s hF
      refine go_putI (k := 0) (j := 10) O (lt9 hI (by decide : (0 : Nat) < 99)) (cv_pw G (S.1 0) (S.2 0)) rfl in_X8_tearOff_X8 (by decide) fl_X8_tearOff_92 rfl tyX8 tyX8_ok nmX8 rfl (by decide +kernel) (Nat.le_of_ble_eq_true rfl) (cv_pw G (upd (S.1 0) 10 (-9 : Int32)) (S.2 0)) dX8_tearOff_50 eS25 ?_
      refine go_iconst (v := (0 : Int32)) O dX8_tearOff_53 (by decide) ?_
      exact ret_wi hF (hR _ _ dX8_tearOff_54)
  · replace hF := it_t hc27 hF
    refine go_iconst (v := (-1 : Int32)) O dX8_tearOff_9 (by decide) ?_
    exact ret_wi hF (hR _ _ dX8_tearOff_10)
-- X8_isThing
def rm_X8_isThing : Room := { frames := 0, cells := 0, slots := 0, locals := 0 }
def F_X8_isThing  (S : Sg) (a0 : Int32) : Option Int32 := if a0 < 0 then (some (0 : Int32)) else (if (8 : Int32) ≤ a0 then (some (0 : Int32)) else (some (1 : Int32)))
set_option maxHeartbeats 4000000 in
set_option maxRecDepth 100000 in
theorem c_X8_isThing (l : Launch) (G : Gp) (hI : Gd G)  {S : Sg} {a0 : Int32} {r : Int32} (hF : F_X8_isThing S a0 = some r) : Met l yX8_isThing wsX8_isThing rm_X8_isThing (va_Pc [.int a0] (PreW (wC G) S)) (va_Qi (fun r' u => r' = r ∧ u = S) (PostW (wC G)) (AW (wC G))) 0 0 (AW (wC G)) := by
  rw [F_X8_isThing] at hF
  refine met_z (cc := cX8_isThing) (maxL := 1) (own := RX8) hI.1 (by decide) rfl rfl (Nat.le_of_ble_eq_true rfl) (fun X O hR => ?_)
  show Go X l rm_X8_isThing (wC G) 1 0 [(0, .int a0)] [] S
  refine go_iload_n O dX8_isThing_0 rfl 0 rfl ?_
  refine go_if_lt (tgt := 14) O dX8_isThing_1 (by decide) (fun hc2 => ?_) (fun hc2 => ?_)
  · replace hF := it_t hc2 hF
    refine go_iconst (v := (0 : Int32)) O dX8_isThing_14 (by decide) ?_
    exact ret_z hF (fun hz => hR _ _ hz dX8_isThing_15) (show vp_nar .boolean (0 : Int32) = (0 : Int32) by decide)
  · replace hF := it_f hc2 hF
    refine go_iload_n O dX8_isThing_4 rfl 0 rfl ?_
    refine go_bipush (v := (8 : Int32)) O dX8_isThing_5 (by decide) ?_
    refine go_icmp_ge (tgt := 14) O dX8_isThing_7 (by decide) (fun hc1 => ?_) (fun hc1 => ?_)
    · replace hF := it_t hc1 hF
      refine go_iconst (v := (0 : Int32)) O dX8_isThing_14 (by decide) ?_
      exact ret_z hF (fun hz => hR _ _ hz dX8_isThing_15) (show vp_nar .boolean (0 : Int32) = (0 : Int32) by decide)
    · replace hF := it_f hc1 hF
      refine go_iconst (v := (1 : Int32)) O dX8_isThing_10 (by decide) ?_
      refine go_goto (tgt := 15) O dX8_isThing_11 (by decide) ?_
      exact ret_z hF (fun hz => hR _ _ hz dX8_isThing_15) (show vp_nar .boolean (1 : Int32) = (1 : Int32) by decide)
-- X8_comes
def rm_X8_comes : Room := { frames := 1, cells := 0, slots := 0, locals := 22 }
theorem fl_X8_comes_24 : Cond.fieldLink RX8 24 "PaperWalls" "now" "LPaperWalls$Street;" ∈ wsX8_comes := by decide +kernel
theorem fl_X8_comes_281 : Cond.fieldLink RX8 281 "PaperWalls$Street" "hours" "LPaperWalls$Hours;" ∈ wsX8_comes := by decide +kernel
theorem in_X8_comes_X6 : ∀ x ∈ u_ws RX6 TX6 11, x ∈ wsX8_comes := by decide +kernel
theorem in_X8_comes_X8 : ∀ x ∈ u_ws RX8 TX8 12, x ∈ wsX8_comes := by decide +kernel
def F_X8_comes  (S : Sg) (a1 : Int32) (a2 : Int32) : Option (Int32 × Sg) := bd (F_X8_isOne S a1) (fun x2 => if x2 = 0 then (some ((-1 : Int32), S)) else (bd (F_X8_isThing S a2) (fun x4 => if x4 = 0 then (some ((-1 : Int32), S)) else (bd (F_X1_learn 0 S a2 ((1 : Int32) <<< (a1 &&& 31))) (fun S6 => bd (F_X1_whoKnow 0 S6 a2) (fun x8 => bd (F_J6_bitCount_0f7a4 S6 x8) (fun x10 => some (x10, S6))))))))
set_option maxHeartbeats 4000000 in
set_option maxRecDepth 100000 in
theorem c_X8_comes (l : Launch) (G : Gp) (hI : Gd G)  {S : Sg} {a1 : Int32} {a2 : Int32} {r : Int32} {S1 : Sg} (hF : F_X8_comes S a1 a2 = some (r, S1)) : Met l yX8_comes wsX8_comes rm_X8_comes (va_Pc [.ref (G.2.1 0), .int a1, .int a2] (PreW (wC G) S)) (va_Qi (fun r' u => r' = r ∧ u = S1) (PostW (wC G)) (AW (wC G))) 0 0 (AW (wC G)) := by
  rw [F_X8_comes] at hF
  refine met_i (cc := cX8_comes) (maxL := 3) (own := RX8) hI.1 (by decide) rfl rfl (Nat.le_of_ble_eq_true rfl) (fun X O hR => ?_)
  show Go X l rm_X8_comes (wC G) 3 0 [(0, .ref (G.2.1 0)), (1, .int a1), (2, .int a2)] [] S
  refine go_aload_n O dX8_comes_0 rfl 0 rfl ?_
  refine go_iload_n O dX8_comes_1 rfl 1 rfl ?_
  obtain ⟨x2, hA1, hF⟩ := bd_s hF
  refine go_callVi (As := [.int a1]) (rest := []) (b := 0) O (c_X8_isOne l G hI hA1) (fun s args hts => cwV 1 hts gX8_comes_X8_isOne rfl rfl rfl (by decide +kernel) ⟨Nat.le_of_ble_eq_true rfl, Nat.le_of_ble_eq_true rfl⟩) (lt9 hI (by decide : (0 : Nat) < 99)) (cv_pw G (S.1 0) (S.2 0)) rfl rfl rfl rfl (Nat.le_of_ble_eq_true rfl) dX8_comes_2 ?_
  refine go_if_eq (tgt := 15) O dX8_comes_5 (by decide) (fun hc12 => ?_) (fun hc12 => ?_)
  · replace hF := it_t hc12 hF
    refine go_iconst (v := (-1 : Int32)) O dX8_comes_15 (by decide) ?_
    exact ret_wi hF (hR _ _ dX8_comes_16)
  · replace hF := it_f hc12 hF
    refine go_iload_n O dX8_comes_8 rfl 2 rfl ?_
    obtain ⟨x4, hA3, hF⟩ := bd_s hF
    refine go_callSi (As := [.int a2]) (rest := []) O (c_X8_isThing l G hI hA3) (fun s args hts => va_cwS 1 hts gX8_comes_X8_isThing rfl rfl rfl (by decide +kernel) ⟨Nat.le_of_ble_eq_true rfl, Nat.le_of_ble_eq_true rfl⟩) rfl rfl (Nat.le_of_ble_eq_true rfl) dX8_comes_9 ?_
    refine go_if_ne (tgt := 17) O dX8_comes_12 (by decide) (fun hc11 => ?_) (fun hc11 => ?_)
    · replace hF := it_f hc11 hF
      refine go_aload_n O dX8_comes_17 rfl 0 rfl ?_
      refine go_get (k := 0) (j := 2) O (lt9 hI (by decide : (0 : Nat) < 99)) (cv_pw G (S.1 0) (S.2 0)) rfl in_X8_comes_X8 (by decide) fl_X8_comes_24 rfl rfl dX8_comes_18 ?_
      refine go_get (k := (sb 0)) (j := 7) O (lt9 hI (sb_lt0 (by decide : (0 : Nat) < 5))) (cv_st G (by decide : (0 : Nat) < 5) (S.1 (sb 0)) (S.2 (sb 0))) rfl in_X8_comes_X6 (by decide) fl_X8_comes_281 rfl rfl dX8_comes_21 ?_
      refine go_iload_n O dX8_comes_24 rfl 2 rfl ?_
      refine go_iconst (v := (1 : Int32)) O dX8_comes_25 (by decide) ?_
      refine go_iload_n O dX8_comes_26 rfl 1 rfl ?_
      refine go_ishl O dX8_comes_27 ?_
      obtain ⟨S6, hA5, hF⟩ := bd_s hF
      refine go_callVv (As := [.int a2, .int ((1 : Int32) <<< (a1 &&& 31))]) (rest := []) (b := (sb 0 + 8)) O (c_X1_learn l G hI (by decide : (0 : Nat) < 5) hA5) (fun s args hts => cwV 2 hts gX8_comes_X1_learn rfl rfl rfl (by decide +kernel) ⟨Nat.le_of_ble_eq_true rfl, Nat.le_of_ble_eq_true rfl⟩) (lt9 hI (sb_lt (by decide : (0 : Nat) < 5) (by decide : 8 < 13))) (cv_hrs G (by decide : (0 : Nat) < 5) (S.1 (sb 0 + 8)) (S.2 (sb 0 + 8))) rfl rfl rfl rfl (Nat.le_of_ble_eq_true rfl) dX8_comes_28 ?_
      refine go_aload_n O dX8_comes_31 rfl 0 rfl ?_
      refine go_get (k := 0) (j := 2) O (lt9 hI (by decide : (0 : Nat) < 99)) (cv_pw G (S6.1 0) (S6.2 0)) rfl in_X8_comes_X8 (by decide) fl_X8_comes_24 rfl rfl dX8_comes_32 ?_
      refine go_get (k := (sb 0)) (j := 7) O (lt9 hI (sb_lt0 (by decide : (0 : Nat) < 5))) (cv_st G (by decide : (0 : Nat) < 5) (S6.1 (sb 0)) (S6.2 (sb 0))) rfl in_X8_comes_X6 (by decide) fl_X8_comes_281 rfl rfl dX8_comes_35 ?_
      refine go_iload_n O dX8_comes_38 rfl 2 rfl ?_
      obtain ⟨x8, hA7, hF⟩ := bd_s hF
      refine go_callVi (As := [.int a2]) (rest := []) (b := (sb 0 + 8)) O (c_X1_whoKnow l G hI (by decide : (0 : Nat) < 5) hA7) (fun s args hts => cwV 1 hts gX8_comes_X1_whoKnow rfl rfl rfl (by decide +kernel) ⟨Nat.le_of_ble_eq_true rfl, Nat.le_of_ble_eq_true rfl⟩) (lt9 hI (sb_lt (by decide : (0 : Nat) < 5) (by decide : 8 < 13))) (cv_hrs G (by decide : (0 : Nat) < 5) (S6.1 (sb 0 + 8)) (S6.2 (sb 0 + 8))) rfl rfl rfl rfl (Nat.le_of_ble_eq_true rfl) dX8_comes_39 ?_
      obtain ⟨x10, hA9, hF⟩ := bd_s hF
      refine go_callSi (As := [.int x8]) (rest := []) O (c_J6_bitCount_0f7a4 l G hI hA9) (fun s args hts => va_cwS 1 hts gX8_comes_J6_bitCount_0f7a4 rfl rfl rfl (by decide +kernel) ⟨Nat.le_of_ble_eq_true rfl, Nat.le_of_ble_eq_true rfl⟩) rfl rfl (Nat.le_of_ble_eq_true rfl) dX8_comes_42 ?_
      exact ret_wi hF (hR _ _ dX8_comes_45)
    · replace hF := it_t hc11 hF
      refine go_iconst (v := (-1 : Int32)) O dX8_comes_15 (by decide) ?_
      exact ret_wi hF (hR _ _ dX8_comes_16)
-- X8_tell
def rm_X8_tell : Room := { frames := 4, cells := 0, slots := 0, locals := 117 }
theorem fl_X8_tell_24 : Cond.fieldLink RX8 24 "PaperWalls" "now" "LPaperWalls$Street;" ∈ wsX8_tell := by decide +kernel
theorem fl_X8_tell_281 : Cond.fieldLink RX8 281 "PaperWalls$Street" "hours" "LPaperWalls$Hours;" ∈ wsX8_tell := by decide +kernel
theorem fl_X8_tell_293 : Cond.fieldLink RX8 293 "PaperWalls$Hours" "size" "I" ∈ wsX8_tell := by decide +kernel
theorem in_X8_tell_X1 : ∀ x ∈ u_ws RX1 TX1 6, x ∈ wsX8_tell := by decide +kernel
theorem in_X8_tell_X6 : ∀ x ∈ u_ws RX6 TX6 11, x ∈ wsX8_tell := by decide +kernel
theorem in_X8_tell_X8 : ∀ x ∈ u_ws RX8 TX8 12, x ∈ wsX8_tell := by decide +kernel
def F_X8_tell  (S : Sg) (a1 : Int32) (a2 : Int32) : Option (Int32 × Sg) := bd (F_X8_isOne S a1) (fun x2 => if x2 = 0 then (some ((-1 : Int32), S)) else (bd (F_X8_isThing S a2) (fun x4 => if x4 = 0 then (some ((-1 : Int32), S)) else (bd (F_X1_whoKnow 0 S a2) (fun x6 => if ((x6 >>> (a1 &&& 31)) &&& (1 : Int32)) = 0 then (some ((-4 : Int32), S)) else (if (S.1 (sb 0 + 8) 5) < (40 : Int32) then (bd (F_X6_whoHear 0 S a1 (0 : Int32)) (fun x8 => bd (F_X1_add 0 S a1 a2 x8) (fun S10 => bd (F_X1_whoKnow 0 S10 a2) (fun x12 => some (x12, S10))))) else (some ((-2 : Int32), S))))))))
set_option maxHeartbeats 4000000 in
set_option maxRecDepth 100000 in
theorem c_X8_tell (l : Launch) (G : Gp) (hI : Gd G)  {S : Sg} {a1 : Int32} {a2 : Int32} {r : Int32} {S1 : Sg} (hF : F_X8_tell S a1 a2 = some (r, S1)) : Met l yX8_tell wsX8_tell rm_X8_tell (va_Pc [.ref (G.2.1 0), .int a1, .int a2] (PreW (wC G) S)) (va_Qi (fun r' u => r' = r ∧ u = S1) (PostW (wC G)) (AW (wC G))) 0 0 (AW (wC G)) := by
  rw [F_X8_tell] at hF
  refine met_i (cc := cX8_tell) (maxL := 3) (own := RX8) hI.1 (by decide) rfl rfl (Nat.le_of_ble_eq_true rfl) (fun X O hR => ?_)
  show Go X l rm_X8_tell (wC G) 3 0 [(0, .ref (G.2.1 0)), (1, .int a1), (2, .int a2)] [] S
  refine go_aload_n O dX8_tell_0 rfl 0 rfl ?_
  refine go_iload_n O dX8_tell_1 rfl 1 rfl ?_
  obtain ⟨x2, hA1, hF⟩ := bd_s hF
  refine go_callVi (As := [.int a1]) (rest := []) (b := 0) O (c_X8_isOne l G hI hA1) (fun s args hts => cwV 1 hts gX8_tell_X8_isOne rfl rfl rfl (by decide +kernel) ⟨Nat.le_of_ble_eq_true rfl, Nat.le_of_ble_eq_true rfl⟩) (lt9 hI (by decide : (0 : Nat) < 99)) (cv_pw G (S.1 0) (S.2 0)) rfl rfl rfl rfl (Nat.le_of_ble_eq_true rfl) dX8_tell_2 ?_
  refine go_if_eq (tgt := 15) O dX8_tell_5 (by decide) (fun hc16 => ?_) (fun hc16 => ?_)
  · replace hF := it_t hc16 hF
    refine go_iconst (v := (-1 : Int32)) O dX8_tell_15 (by decide) ?_
    exact ret_wi hF (hR _ _ dX8_tell_16)
  · replace hF := it_f hc16 hF
    refine go_iload_n O dX8_tell_8 rfl 2 rfl ?_
    obtain ⟨x4, hA3, hF⟩ := bd_s hF
    refine go_callSi (As := [.int a2]) (rest := []) O (c_X8_isThing l G hI hA3) (fun s args hts => va_cwS 1 hts gX8_tell_X8_isThing rfl rfl rfl (by decide +kernel) ⟨Nat.le_of_ble_eq_true rfl, Nat.le_of_ble_eq_true rfl⟩) rfl rfl (Nat.le_of_ble_eq_true rfl) dX8_tell_9 ?_
    refine go_if_ne (tgt := 17) O dX8_tell_12 (by decide) (fun hc15 => ?_) (fun hc15 => ?_)
    · replace hF := it_f hc15 hF
      refine go_aload_n O dX8_tell_17 rfl 0 rfl ?_
      refine go_get (k := 0) (j := 2) O (lt9 hI (by decide : (0 : Nat) < 99)) (cv_pw G (S.1 0) (S.2 0)) rfl in_X8_tell_X8 (by decide) fl_X8_tell_24 rfl rfl dX8_tell_18 ?_
      refine go_get (k := (sb 0)) (j := 7) O (lt9 hI (sb_lt0 (by decide : (0 : Nat) < 5))) (cv_st G (by decide : (0 : Nat) < 5) (S.1 (sb 0)) (S.2 (sb 0))) rfl in_X8_tell_X6 (by decide) fl_X8_tell_281 rfl rfl dX8_tell_21 ?_
      refine go_iload_n O dX8_tell_24 rfl 2 rfl ?_
      obtain ⟨x6, hA5, hF⟩ := bd_s hF
      refine go_callVi (As := [.int a2]) (rest := []) (b := (sb 0 + 8)) O (c_X1_whoKnow l G hI (by decide : (0 : Nat) < 5) hA5) (fun s args hts => cwV 1 hts gX8_tell_X1_whoKnow rfl rfl rfl (by decide +kernel) ⟨Nat.le_of_ble_eq_true rfl, Nat.le_of_ble_eq_true rfl⟩) (lt9 hI (sb_lt (by decide : (0 : Nat) < 5) (by decide : 8 < 13))) (cv_hrs G (by decide : (0 : Nat) < 5) (S.1 (sb 0 + 8)) (S.2 (sb 0 + 8))) rfl rfl rfl rfl (Nat.le_of_ble_eq_true rfl) dX8_tell_25 ?_
      refine go_iload_n O dX8_tell_28 rfl 1 rfl ?_
      refine go_ishr O dX8_tell_29 ?_
      refine go_iconst (v := (1 : Int32)) O dX8_tell_30 (by decide) ?_
      refine go_iand O dX8_tell_31 ?_
      refine go_if_ne (tgt := 38) O dX8_tell_32 (by decide) (fun hc14 => ?_) (fun hc14 => ?_)
      · replace hF := it_f hc14 hF
        refine go_aload_n O dX8_tell_38 rfl 0 rfl ?_
        refine go_get (k := 0) (j := 2) O (lt9 hI (by decide : (0 : Nat) < 99)) (cv_pw G (S.1 0) (S.2 0)) rfl in_X8_tell_X8 (by decide) fl_X8_tell_24 rfl rfl dX8_tell_39 ?_
        refine go_get (k := (sb 0)) (j := 7) O (lt9 hI (sb_lt0 (by decide : (0 : Nat) < 5))) (cv_st G (by decide : (0 : Nat) < 5) (S.1 (sb 0)) (S.2 (sb 0))) rfl in_X8_tell_X6 (by decide) fl_X8_tell_281 rfl rfl dX8_tell_42 ?_
        refine go_get (k := (sb 0 + 8)) (j := 5) O (lt9 hI (sb_lt (by decide : (0 : Nat) < 5) (by decide : 8 < 13))) (cv_hrs G (by decide : (0 : Nat) < 5) (S.1 (sb 0 + 8)) (S.2 (sb 0 + 8))) rfl in_X8_tell_X1 (by decide) fl_X8_tell_293 rfl rfl dX8_tell_45 ?_
        refine go_bipush (v := (40 : Int32)) O dX8_tell_48 (by decide) ?_
        refine go_icmp_lt (tgt := 56) O dX8_tell_50 (by decide) (fun hc13 => ?_) (fun hc13 => ?_)
        · replace hF := it_t hc13 hF
          refine go_aload_n O dX8_tell_56 rfl 0 rfl ?_
          refine go_get (k := 0) (j := 2) O (lt9 hI (by decide : (0 : Nat) < 99)) (cv_pw G (S.1 0) (S.2 0)) rfl in_X8_tell_X8 (by decide) fl_X8_tell_24 rfl rfl dX8_tell_57 ?_
          refine go_get (k := (sb 0)) (j := 7) O (lt9 hI (sb_lt0 (by decide : (0 : Nat) < 5))) (cv_st G (by decide : (0 : Nat) < 5) (S.1 (sb 0)) (S.2 (sb 0))) rfl in_X8_tell_X6 (by decide) fl_X8_tell_281 rfl rfl dX8_tell_60 ?_
          refine go_iload_n O dX8_tell_63 rfl 1 rfl ?_
          refine go_iload_n O dX8_tell_64 rfl 2 rfl ?_
          refine go_aload_n O dX8_tell_65 rfl 0 rfl ?_
          refine go_get (k := 0) (j := 2) O (lt9 hI (by decide : (0 : Nat) < 99)) (cv_pw G (S.1 0) (S.2 0)) rfl in_X8_tell_X8 (by decide) fl_X8_tell_24 rfl rfl dX8_tell_66 ?_
          refine go_iload_n O dX8_tell_69 rfl 1 rfl ?_
          refine go_iconst (v := (0 : Int32)) O dX8_tell_70 (by decide) ?_
          obtain ⟨x8, hA7, hF⟩ := bd_s hF
          refine go_callVi (As := [.int a1, .int (0 : Int32)]) (rest := [.int a2, .int a1, .ref (G.2.1 (sb 0 + 8))]) (b := (sb 0)) O (c_X6_whoHear l G hI (by decide : (0 : Nat) < 5) hA7) (fun s args hts => cwV 2 hts gX8_tell_X6_whoHear rfl rfl rfl (by decide +kernel) ⟨Nat.le_of_ble_eq_true rfl, Nat.le_of_ble_eq_true rfl⟩) (lt9 hI (sb_lt0 (by decide : (0 : Nat) < 5))) (cv_st G (by decide : (0 : Nat) < 5) (S.1 (sb 0)) (S.2 (sb 0))) rfl rfl rfl rfl (Nat.le_of_ble_eq_true rfl) dX8_tell_71 ?_
          obtain ⟨S10, hA9, hF⟩ := bd_s hF
          refine go_callVv (As := [.int a1, .int a2, .int x8]) (rest := []) (b := (sb 0 + 8)) O (c_X1_add l G hI (by decide : (0 : Nat) < 5) hA9) (fun s args hts => cwV 3 hts gX8_tell_X1_add rfl rfl rfl (by decide +kernel) ⟨Nat.le_of_ble_eq_true rfl, Nat.le_of_ble_eq_true rfl⟩) (lt9 hI (sb_lt (by decide : (0 : Nat) < 5) (by decide : 8 < 13))) (cv_hrs G (by decide : (0 : Nat) < 5) (S.1 (sb 0 + 8)) (S.2 (sb 0 + 8))) rfl rfl rfl rfl (Nat.le_of_ble_eq_true rfl) dX8_tell_74 ?_
          refine go_aload_n O dX8_tell_77 rfl 0 rfl ?_
          refine go_get (k := 0) (j := 2) O (lt9 hI (by decide : (0 : Nat) < 99)) (cv_pw G (S10.1 0) (S10.2 0)) rfl in_X8_tell_X8 (by decide) fl_X8_tell_24 rfl rfl dX8_tell_78 ?_
          refine go_get (k := (sb 0)) (j := 7) O (lt9 hI (sb_lt0 (by decide : (0 : Nat) < 5))) (cv_st G (by decide : (0 : Nat) < 5) (S10.1 (sb 0)) (S10.2 (sb 0))) rfl in_X8_tell_X6 (by decide) fl_X8_tell_281 rfl rfl dX8_tell_81 ?_
          refine go_iload_n O dX8_tell_84 rfl 2 rfl ?_
          obtain ⟨x12, hA11, hF⟩ := bd_s hF
          refine go_callVi (As := [.int a2]) (rest := []) (b := (sb 0 + 8)) O (c_X1_whoKnow l G hI (by decide : (0 : Nat) < 5) hA11) (fun s args hts => cwV 1 hts gX8_tell_X1_whoKnow rfl rfl rfl (by decide +kernel) ⟨Nat.le_of_ble_eq_true rfl, Nat.le_of_ble_eq_true rfl⟩) (lt9 hI (sb_lt (by decide : (0 : Nat) < 5) (by decide : 8 < 13))) (cv_hrs G (by decide : (0 : Nat) < 5) (S10.1 (sb 0 + 8)) (S10.2 (sb 0 + 8))) rfl rfl rfl rfl (Nat.le_of_ble_eq_true rfl) dX8_tell_85 ?_
          exact ret_wi hF (hR _ _ dX8_tell_88)
        · replace hF := it_f hc13 hF
          refine go_bipush (v := (-2 : Int32)) O dX8_tell_53 (by decide) ?_
          exact ret_wi hF (hR _ _ dX8_tell_55)
      · replace hF := it_t hc14 hF
        refine go_bipush (v := (-4 : Int32)) O dX8_tell_35 (by decide) ?_
        exact ret_wi hF (hR _ _ dX8_tell_37)
    · replace hF := it_t hc15 hF
      refine go_iconst (v := (-1 : Int32)) O dX8_tell_15 (by decide) ?_
      exact ret_wi hF (hR _ _ dX8_tell_16)
-- X8_undo
def rm_X8_undo : Room := { frames := 1, cells := 0, slots := 0, locals := 21 }
theorem fl_X8_undo_24 : Cond.fieldLink RX8 24 "PaperWalls" "now" "LPaperWalls$Street;" ∈ wsX8_undo := by decide +kernel
theorem fl_X8_undo_281 : Cond.fieldLink RX8 281 "PaperWalls$Street" "hours" "LPaperWalls$Hours;" ∈ wsX8_undo := by decide +kernel
theorem fl_X8_undo_293 : Cond.fieldLink RX8 293 "PaperWalls$Hours" "size" "I" ∈ wsX8_undo := by decide +kernel
theorem in_X8_undo_X1 : ∀ x ∈ u_ws RX1 TX1 6, x ∈ wsX8_undo := by decide +kernel
theorem in_X8_undo_X6 : ∀ x ∈ u_ws RX6 TX6 11, x ∈ wsX8_undo := by decide +kernel
theorem in_X8_undo_X8 : ∀ x ∈ u_ws RX8 TX8 12, x ∈ wsX8_undo := by decide +kernel
def F_X8_undo  (S : Sg) (a1 : Int32) : Option (Int32 × Sg) := if a1 < 0 then (some ((-1 : Int32), S)) else (if a1 ≤ (S.1 (sb 0 + 8) 5) then (nm ((S.1 (sb 0 + 8) 5) - a1) (fun x1 => bd (F_X1_backTo 0 S a1) (fun S3 => some (x1, S3)))) else (some ((-1 : Int32), S)))
set_option maxHeartbeats 4000000 in
set_option maxRecDepth 100000 in
theorem c_X8_undo (l : Launch) (G : Gp) (hI : Gd G)  {S : Sg} {a1 : Int32} {r : Int32} {S1 : Sg} (hF : F_X8_undo S a1 = some (r, S1)) : Met l yX8_undo wsX8_undo rm_X8_undo (va_Pc [.ref (G.2.1 0), .int a1] (PreW (wC G) S)) (va_Qi (fun r' u => r' = r ∧ u = S1) (PostW (wC G)) (AW (wC G))) 0 0 (AW (wC G)) := by
  rw [F_X8_undo] at hF
  refine met_i (cc := cX8_undo) (maxL := 3) (own := RX8) hI.1 (by decide) rfl rfl (Nat.le_of_ble_eq_true rfl) (fun X O hR => ?_)
  show Go X l rm_X8_undo (wC G) 3 0 [(0, .ref (G.2.1 0)), (1, .int a1)] [] S
  refine go_iload_n O dX8_undo_0 rfl 1 rfl ?_
  refine go_if_lt (tgt := 18) O dX8_undo_1 (by decide) (fun hc5 => ?_) (fun hc5 => ?_)
  · replace hF := it_t hc5 hF
    refine go_iconst (v := (-1 : Int32)) O dX8_undo_18 (by decide) ?_
    exact ret_wi hF (hR _ _ dX8_undo_19)
  · replace hF := it_f hc5 hF
    refine go_iload_n O dX8_undo_4 rfl 1 rfl ?_
    refine go_aload_n O dX8_undo_5 rfl 0 rfl ?_
    refine go_get (k := 0) (j := 2) O (lt9 hI (by decide : (0 : Nat) < 99)) (cv_pw G (S.1 0) (S.2 0)) rfl in_X8_undo_X8 (by decide) fl_X8_undo_24 rfl rfl dX8_undo_6 ?_
    refine go_get (k := (sb 0)) (j := 7) O (lt9 hI (sb_lt0 (by decide : (0 : Nat) < 5))) (cv_st G (by decide : (0 : Nat) < 5) (S.1 (sb 0)) (S.2 (sb 0))) rfl in_X8_undo_X6 (by decide) fl_X8_undo_281 rfl rfl dX8_undo_9 ?_
    refine go_get (k := (sb 0 + 8)) (j := 5) O (lt9 hI (sb_lt (by decide : (0 : Nat) < 5) (by decide : 8 < 13))) (cv_hrs G (by decide : (0 : Nat) < 5) (S.1 (sb 0 + 8)) (S.2 (sb 0 + 8))) rfl in_X8_undo_X1 (by decide) fl_X8_undo_293 rfl rfl dX8_undo_12 ?_
    refine go_icmp_le (tgt := 20) O dX8_undo_15 (by decide) (fun hc4 => ?_) (fun hc4 => ?_)
    · replace hF := it_t hc4 hF
      refine go_aload_n O dX8_undo_20 rfl 0 rfl ?_
      refine go_get (k := 0) (j := 2) O (lt9 hI (by decide : (0 : Nat) < 99)) (cv_pw G (S.1 0) (S.2 0)) rfl in_X8_undo_X8 (by decide) fl_X8_undo_24 rfl rfl dX8_undo_21 ?_
      refine go_get (k := (sb 0)) (j := 7) O (lt9 hI (sb_lt0 (by decide : (0 : Nat) < 5))) (cv_st G (by decide : (0 : Nat) < 5) (S.1 (sb 0)) (S.2 (sb 0))) rfl in_X8_undo_X6 (by decide) fl_X8_undo_281 rfl rfl dX8_undo_24 ?_
      refine go_get (k := (sb 0 + 8)) (j := 5) O (lt9 hI (sb_lt (by decide : (0 : Nat) < 5) (by decide : 8 < 13))) (cv_hrs G (by decide : (0 : Nat) < 5) (S.1 (sb 0 + 8)) (S.2 (sb 0 + 8))) rfl in_X8_undo_X1 (by decide) fl_X8_undo_293 rfl rfl dX8_undo_27 ?_
      refine go_iload_n O dX8_undo_30 rfl 1 rfl ?_
      refine go_isub O dX8_undo_31 ?_
      obtain ⟨x1, ex1, hF⟩ := nm_s hF
      refine go_topi ex1 ?_
      refine go_istore_n (ls' := [(2, .int x1), (0, .ref (G.2.1 0)), (1, .int a1)]) O dX8_undo_32 rfl (by decide) rfl ?_
      refine go_aload_n O dX8_undo_33 rfl 1 rfl ?_
      refine go_get (k := 0) (j := 2) O (lt9 hI (by decide : (0 : Nat) < 99)) (cv_pw G (S.1 0) (S.2 0)) rfl in_X8_undo_X8 (by decide) fl_X8_undo_24 rfl rfl dX8_undo_34 ?_
      refine go_get (k := (sb 0)) (j := 7) O (lt9 hI (sb_lt0 (by decide : (0 : Nat) < 5))) (cv_st G (by decide : (0 : Nat) < 5) (S.1 (sb 0)) (S.2 (sb 0))) rfl in_X8_undo_X6 (by decide) fl_X8_undo_281 rfl rfl dX8_undo_37 ?_
      refine go_iload_n O dX8_undo_40 rfl 2 rfl ?_
      obtain ⟨S3, hA2, hF⟩ := bd_s hF
      refine go_callVv (As := [.int a1]) (rest := []) (b := (sb 0 + 8)) O (c_X1_backTo l G hI (by decide : (0 : Nat) < 5) hA2) (fun s args hts => cwV 1 hts gX8_undo_X1_backTo rfl rfl rfl (by decide +kernel) ⟨Nat.le_of_ble_eq_true rfl, Nat.le_of_ble_eq_true rfl⟩) (lt9 hI (sb_lt (by decide : (0 : Nat) < 5) (by decide : 8 < 13))) (cv_hrs G (by decide : (0 : Nat) < 5) (S.1 (sb 0 + 8)) (S.2 (sb 0 + 8))) rfl rfl rfl rfl (Nat.le_of_ble_eq_true rfl) dX8_undo_41 ?_
      refine go_iload_n O dX8_undo_44 rfl 0 rfl ?_
      exact ret_wi hF (hR _ _ dX8_undo_45)
    · replace hF := it_f hc4 hF
      refine go_iconst (v := (-1 : Int32)) O dX8_undo_18 (by decide) ?_
      exact ret_wi hF (hR _ _ dX8_undo_19)
-- X8_know
def rm_X8_know : Room := { frames := 1, cells := 0, slots := 0, locals := 21 }
theorem fl_X8_know_24 : Cond.fieldLink RX8 24 "PaperWalls" "now" "LPaperWalls$Street;" ∈ wsX8_know := by decide +kernel
theorem fl_X8_know_281 : Cond.fieldLink RX8 281 "PaperWalls$Street" "hours" "LPaperWalls$Hours;" ∈ wsX8_know := by decide +kernel
theorem in_X8_know_X6 : ∀ x ∈ u_ws RX6 TX6 11, x ∈ wsX8_know := by decide +kernel
theorem in_X8_know_X8 : ∀ x ∈ u_ws RX8 TX8 12, x ∈ wsX8_know := by decide +kernel
def F_X8_know  (S : Sg) (a1 : Int32) : Option Int32 := bd (F_X8_isThing S a1) (fun x2 => if x2 = 0 then (some (-1 : Int32)) else (bd (F_X1_whoKnow 0 S a1) (fun x4 => some x4)))
set_option maxHeartbeats 4000000 in
set_option maxRecDepth 100000 in
theorem c_X8_know (l : Launch) (G : Gp) (hI : Gd G)  {S : Sg} {a1 : Int32} {r : Int32} (hF : F_X8_know S a1 = some r) : Met l yX8_know wsX8_know rm_X8_know (va_Pc [.ref (G.2.1 0), .int a1] (PreW (wC G) S)) (va_Qi (fun r' u => r' = r ∧ u = S) (PostW (wC G)) (AW (wC G))) 0 0 (AW (wC G)) := by
  rw [F_X8_know] at hF
  refine met_i (cc := cX8_know) (maxL := 2) (own := RX8) hI.1 (by decide) rfl rfl (Nat.le_of_ble_eq_true rfl) (fun X O hR => ?_)
  show Go X l rm_X8_know (wC G) 2 0 [(0, .ref (G.2.1 0)), (1, .int a1)] [] S
  refine go_iload_n O dX8_know_0 rfl 1 rfl ?_
  obtain ⟨x2, hA1, hF⟩ := bd_s hF
  refine go_callSi (As := [.int a1]) (rest := []) O (c_X8_isThing l G hI hA1) (fun s args hts => va_cwS 1 hts gX8_know_X8_isThing rfl rfl rfl (by decide +kernel) ⟨Nat.le_of_ble_eq_true rfl, Nat.le_of_ble_eq_true rfl⟩) rfl rfl (Nat.le_of_ble_eq_true rfl) dX8_know_1 ?_
  refine go_if_ne (tgt := 9) O dX8_know_4 (by decide) (fun hc5 => ?_) (fun hc5 => ?_)
  · replace hF := it_f hc5 hF
    refine go_aload_n O dX8_know_9 rfl 0 rfl ?_
    refine go_get (k := 0) (j := 2) O (lt9 hI (by decide : (0 : Nat) < 99)) (cv_pw G (S.1 0) (S.2 0)) rfl in_X8_know_X8 (by decide) fl_X8_know_24 rfl rfl dX8_know_10 ?_
    refine go_get (k := (sb 0)) (j := 7) O (lt9 hI (sb_lt0 (by decide : (0 : Nat) < 5))) (cv_st G (by decide : (0 : Nat) < 5) (S.1 (sb 0)) (S.2 (sb 0))) rfl in_X8_know_X6 (by decide) fl_X8_know_281 rfl rfl dX8_know_13 ?_
    refine go_iload_n O dX8_know_16 rfl 1 rfl ?_
    obtain ⟨x4, hA3, hF⟩ := bd_s hF
    refine go_callVi (As := [.int a1]) (rest := []) (b := (sb 0 + 8)) O (c_X1_whoKnow l G hI (by decide : (0 : Nat) < 5) hA3) (fun s args hts => cwV 1 hts gX8_know_X1_whoKnow rfl rfl rfl (by decide +kernel) ⟨Nat.le_of_ble_eq_true rfl, Nat.le_of_ble_eq_true rfl⟩) (lt9 hI (sb_lt (by decide : (0 : Nat) < 5) (by decide : 8 < 13))) (cv_hrs G (by decide : (0 : Nat) < 5) (S.1 (sb 0 + 8)) (S.2 (sb 0 + 8))) rfl rfl rfl rfl (Nat.le_of_ble_eq_true rfl) dX8_know_17 ?_
    exact ret_i hF (hR _ _ dX8_know_20)
  · replace hF := it_t hc5 hF
    refine go_iconst (v := (-1 : Int32)) O dX8_know_7 (by decide) ?_
    exact ret_i hF (hR _ _ dX8_know_8)
-- X8_knowsThat
def rm_X8_knowsThat : Room := { frames := 3, cells := 0, slots := 0, locals := 84 }
theorem fl_X8_knowsThat_24 : Cond.fieldLink RX8 24 "PaperWalls" "now" "LPaperWalls$Street;" ∈ wsX8_knowsThat := by decide +kernel
theorem fl_X8_knowsThat_281 : Cond.fieldLink RX8 281 "PaperWalls$Street" "hours" "LPaperWalls$Hours;" ∈ wsX8_knowsThat := by decide +kernel
theorem fl_X8_knowsThat_293 : Cond.fieldLink RX8 293 "PaperWalls$Hours" "size" "I" ∈ wsX8_knowsThat := by decide +kernel
theorem fl_X8_knowsThat_301 : Cond.fieldLink RX8 301 "PaperWalls$Hours" "things" "[I" ∈ wsX8_knowsThat := by decide +kernel
theorem in_X8_knowsThat_X1 : ∀ x ∈ u_ws RX1 TX1 6, x ∈ wsX8_knowsThat := by decide +kernel
theorem in_X8_knowsThat_X6 : ∀ x ∈ u_ws RX6 TX6 11, x ∈ wsX8_knowsThat := by decide +kernel
theorem in_X8_knowsThat_X8 : ∀ x ∈ u_ws RX8 TX8 12, x ∈ wsX8_knowsThat := by decide +kernel
def T_X8_knowsThat_32  (S : Sg) (p1 : Int32) (p2 : Int32) (p3 : Int32) (p4 : Int32) : Nat → Int32 → Option ((Unit) ⊕ (Int32))
  | 0, _ => none
  | n + 1, p5 => if (S.1 (sb 0 + 8) 5) ≤ p5 then (some (.inl ())) else (chk (inB p5 40) (if (S.1 (sb 0 + 10) p5.toNatClampNeg) = p3 then (bd (F_X1_showed 0 S p5 p1 p2 p4) (fun x9 => if x9 = 0 then (T_X8_knowsThat_32 S p1 p2 p3 p4 n (p5 + (1 : Int32))) else (some (.inr (1 : Int32))))) else (T_X8_knowsThat_32 S p1 p2 p3 p4 n (p5 + (1 : Int32)))))
set_option maxHeartbeats 4000000 in
set_option maxRecDepth 100000 in
theorem lt_X8_knowsThat_32 {X : XT} (l : Launch) (G : Gp) (hI : Gd G)  {S : Sg} {p1 : Int32} {p2 : Int32} {p3 : Int32} {p4 : Int32} (O : Ok X (wC G) cX8_knowsThat RX8 wsX8_knowsThat 6) : ∀ (n : Nat) (p5 : Int32)  (q : ((Unit) ⊕ (Int32))), T_X8_knowsThat_32 S p1 p2 p3 p4 n p5  = some q → (q = .inl () → Go X l rm_X8_knowsThat (wC G) 6 91 [] [] S) → (∀ (r : Int32), q = .inr r → ∀ pc ls, decode cX8_knowsThat pc = .ok (.ireturn, 1) → Go X l rm_X8_knowsThat (wC G) 6 pc ls [.int r] S) → Go X l rm_X8_knowsThat (wC G) 6 32 [(0, .ref (G.2.1 0)), (1, .int p1), (2, .int p2), (3, .int p3), (4, .int p4), (5, .int p5)] [] S := by
  intro n
  induction n with
  | zero =>
    intro p5  q hF
    cases hF
  | succ n ih =>
    intro p5  q hF hE hR
    rw [T_X8_knowsThat_32] at hF
    refine go_iload O dX8_knowsThat_32 5 rfl ?_
    refine go_aload_n O dX8_knowsThat_34 rfl 0 rfl ?_
    refine go_get (k := 0) (j := 2) O (lt9 hI (by decide : (0 : Nat) < 99)) (cv_pw G (S.1 0) (S.2 0)) rfl in_X8_knowsThat_X8 (by decide) fl_X8_knowsThat_24 rfl rfl dX8_knowsThat_35 ?_
    refine go_get (k := (sb 0)) (j := 7) O (lt9 hI (sb_lt0 (by decide : (0 : Nat) < 5))) (cv_st G (by decide : (0 : Nat) < 5) (S.1 (sb 0)) (S.2 (sb 0))) rfl in_X8_knowsThat_X6 (by decide) fl_X8_knowsThat_281 rfl rfl dX8_knowsThat_38 ?_
    refine go_get (k := (sb 0 + 8)) (j := 5) O (lt9 hI (sb_lt (by decide : (0 : Nat) < 5) (by decide : 8 < 13))) (cv_hrs G (by decide : (0 : Nat) < 5) (S.1 (sb 0 + 8)) (S.2 (sb 0 + 8))) rfl in_X8_knowsThat_X1 (by decide) fl_X8_knowsThat_293 rfl rfl dX8_knowsThat_41 ?_
    refine go_icmp_ge (tgt := 91) O dX8_knowsThat_44 (by decide) (fun hc12 => ?_) (fun hc12 => ?_)
    · replace hF := it_t hc12 hF
      refine go_perm (ls' := []) [] rfl ?_
      exact ret_q hF (fun hq => hE  hq)
    · replace hF := it_f hc12 hF
      refine go_aload_n O dX8_knowsThat_47 rfl 0 rfl ?_
      refine go_get (k := 0) (j := 2) O (lt9 hI (by decide : (0 : Nat) < 99)) (cv_pw G (S.1 0) (S.2 0)) rfl in_X8_knowsThat_X8 (by decide) fl_X8_knowsThat_24 rfl rfl dX8_knowsThat_48 ?_
      refine go_get (k := (sb 0)) (j := 7) O (lt9 hI (sb_lt0 (by decide : (0 : Nat) < 5))) (cv_st G (by decide : (0 : Nat) < 5) (S.1 (sb 0)) (S.2 (sb 0))) rfl in_X8_knowsThat_X6 (by decide) fl_X8_knowsThat_281 rfl rfl dX8_knowsThat_51 ?_
      refine go_get (k := (sb 0 + 8)) (j := 1) O (lt9 hI (sb_lt (by decide : (0 : Nat) < 5) (by decide : 8 < 13))) (cv_hrs G (by decide : (0 : Nat) < 5) (S.1 (sb 0 + 8)) (S.2 (sb 0 + 8))) rfl in_X8_knowsThat_X1 (by decide) fl_X8_knowsThat_301 rfl rfl dX8_knowsThat_54 ?_
      refine go_iload O dX8_knowsThat_57 5 rfl ?_
      obtain ⟨hb7, hF⟩ := chk_s hF
      refine go_iald (k := (sb 0 + 10)) O (lt9 hI (sb_lt (by decide : (0 : Nat) < 5) (by decide : 10 < 13))) (cv_hra10 G (by decide : (0 : Nat) < 5) (S.1 (sb 0 + 10)) (S.2 (sb 0 + 10))) (inB_in hb7) dX8_knowsThat_59 ?_
      refine go_iload_n O dX8_knowsThat_60 rfl 3 rfl ?_
      refine go_icmp_ne (tgt := 85) O dX8_knowsThat_61 (by decide) (fun hc11 => ?_) (fun hc11 => ?_)
      · replace hF := it_f hc11 hF
        refine go_iinc (d := (1 : Int32)) (ls' := [(5, .int (p5 + (1 : Int32))), (0, .ref (G.2.1 0)), (1, .int p1), (2, .int p2), (3, .int p3), (4, .int p4)]) O dX8_knowsThat_85 5 rfl (by decide) (by decide) rfl ?_
        refine go_goto (tgt := 32) O dX8_knowsThat_88 (by decide) ?_
        refine go_perm (ls' := [(0, .ref (G.2.1 0)), (1, .int p1), (2, .int p2), (3, .int p3), (4, .int p4), (5, .int (p5 + (1 : Int32)))]) [1, 2, 3, 4, 5, 0] rfl ?_
        exact ih _ _ hF hE hR
      · replace hF := it_t hc11 hF
        refine go_aload_n O dX8_knowsThat_64 rfl 0 rfl ?_
        refine go_get (k := 0) (j := 2) O (lt9 hI (by decide : (0 : Nat) < 99)) (cv_pw G (S.1 0) (S.2 0)) rfl in_X8_knowsThat_X8 (by decide) fl_X8_knowsThat_24 rfl rfl dX8_knowsThat_65 ?_
        refine go_get (k := (sb 0)) (j := 7) O (lt9 hI (sb_lt0 (by decide : (0 : Nat) < 5))) (cv_st G (by decide : (0 : Nat) < 5) (S.1 (sb 0)) (S.2 (sb 0))) rfl in_X8_knowsThat_X6 (by decide) fl_X8_knowsThat_281 rfl rfl dX8_knowsThat_68 ?_
        refine go_iload O dX8_knowsThat_71 5 rfl ?_
        refine go_iload_n O dX8_knowsThat_73 rfl 1 rfl ?_
        refine go_iload_n O dX8_knowsThat_74 rfl 2 rfl ?_
        refine go_iload O dX8_knowsThat_75 4 rfl ?_
        obtain ⟨x9, hA8, hF⟩ := bd_s hF
        refine go_callVi (As := [.int p5, .int p1, .int p2, .int p4]) (rest := []) (b := (sb 0 + 8)) O (c_X1_showed l G hI (by decide : (0 : Nat) < 5) hA8) (fun s args hts => cwV 4 hts gX8_knowsThat_X1_showed rfl rfl rfl (by decide +kernel) ⟨Nat.le_of_ble_eq_true rfl, Nat.le_of_ble_eq_true rfl⟩) (lt9 hI (sb_lt (by decide : (0 : Nat) < 5) (by decide : 8 < 13))) (cv_hrs G (by decide : (0 : Nat) < 5) (S.1 (sb 0 + 8)) (S.2 (sb 0 + 8))) rfl rfl rfl rfl (Nat.le_of_ble_eq_true rfl) dX8_knowsThat_77 ?_
        refine go_if_eq (tgt := 85) O dX8_knowsThat_80 (by decide) (fun hc10 => ?_) (fun hc10 => ?_)
        · replace hF := it_t hc10 hF
          refine go_iinc (d := (1 : Int32)) (ls' := [(5, .int (p5 + (1 : Int32))), (0, .ref (G.2.1 0)), (1, .int p1), (2, .int p2), (3, .int p3), (4, .int p4)]) O dX8_knowsThat_85 5 rfl (by decide) (by decide) rfl ?_
          refine go_goto (tgt := 32) O dX8_knowsThat_88 (by decide) ?_
          refine go_perm (ls' := [(0, .ref (G.2.1 0)), (1, .int p1), (2, .int p2), (3, .int p3), (4, .int p4), (5, .int (p5 + (1 : Int32)))]) [1, 2, 3, 4, 5, 0] rfl ?_
          exact ih _ _ hF hE hR
        · replace hF := it_f hc10 hF
          refine go_iconst (v := (1 : Int32)) O dX8_knowsThat_83 (by decide) ?_
          exact ret_q hF (fun hq => hR _ hq _ _ dX8_knowsThat_84)
def F_X8_knowsThat  (S : Sg) (a1 : Int32) (a2 : Int32) (a3 : Int32) : Option Int32 := bd (F_X8_areTwo S a1 a2) (fun x2 => if x2 = 0 then (some (-1 : Int32)) else (bd (F_X8_isThing S a3) (fun x4 => if x4 = 0 then (some (-1 : Int32)) else (bd (F_X6_isHeardBy 0 S a1 a2) (fun x6 => bd (T_X8_knowsThat_32 S a1 a2 a3 x6 FU (0 : Int32)) (fun q => match q with | .inl () => some (0 : Int32) | .inr r => some r))))))
set_option maxHeartbeats 4000000 in
set_option maxRecDepth 100000 in
theorem c_X8_knowsThat (l : Launch) (G : Gp) (hI : Gd G)  {S : Sg} {a1 : Int32} {a2 : Int32} {a3 : Int32} {r : Int32} (hF : F_X8_knowsThat S a1 a2 a3 = some r) : Met l yX8_knowsThat wsX8_knowsThat rm_X8_knowsThat (va_Pc [.ref (G.2.1 0), .int a1, .int a2, .int a3] (PreW (wC G) S)) (va_Qi (fun r' u => r' = r ∧ u = S) (PostW (wC G)) (AW (wC G))) 0 0 (AW (wC G)) := by
  rw [F_X8_knowsThat] at hF
  refine met_i (cc := cX8_knowsThat) (maxL := 6) (own := RX8) hI.1 (by decide) rfl rfl (Nat.le_of_ble_eq_true rfl) (fun X O hR => ?_)
  show Go X l rm_X8_knowsThat (wC G) 6 0 [(0, .ref (G.2.1 0)), (1, .int a1), (2, .int a2), (3, .int a3)] [] S
  refine go_aload_n O dX8_knowsThat_0 rfl 0 rfl ?_
  refine go_iload_n O dX8_knowsThat_1 rfl 1 rfl ?_
  refine go_iload_n O dX8_knowsThat_2 rfl 2 rfl ?_
  obtain ⟨x2, hA1, hF⟩ := bd_s hF
  refine go_callVi (As := [.int a1, .int a2]) (rest := []) (b := 0) O (c_X8_areTwo l G hI hA1) (fun s args hts => cwV 2 hts gX8_knowsThat_X8_areTwo rfl rfl rfl (by decide +kernel) ⟨Nat.le_of_ble_eq_true rfl, Nat.le_of_ble_eq_true rfl⟩) (lt9 hI (by decide : (0 : Nat) < 99)) (cv_pw G (S.1 0) (S.2 0)) rfl rfl rfl rfl (Nat.le_of_ble_eq_true rfl) dX8_knowsThat_3 ?_
  refine go_if_eq (tgt := 16) O dX8_knowsThat_6 (by decide) (fun hc16 => ?_) (fun hc16 => ?_)
  · replace hF := it_t hc16 hF
    refine go_iconst (v := (-1 : Int32)) O dX8_knowsThat_16 (by decide) ?_
    exact ret_i hF (hR _ _ dX8_knowsThat_17)
  · replace hF := it_f hc16 hF
    refine go_iload_n O dX8_knowsThat_9 rfl 3 rfl ?_
    obtain ⟨x4, hA3, hF⟩ := bd_s hF
    refine go_callSi (As := [.int a3]) (rest := []) O (c_X8_isThing l G hI hA3) (fun s args hts => va_cwS 1 hts gX8_knowsThat_X8_isThing rfl rfl rfl (by decide +kernel) ⟨Nat.le_of_ble_eq_true rfl, Nat.le_of_ble_eq_true rfl⟩) rfl rfl (Nat.le_of_ble_eq_true rfl) dX8_knowsThat_10 ?_
    refine go_if_ne (tgt := 18) O dX8_knowsThat_13 (by decide) (fun hc15 => ?_) (fun hc15 => ?_)
    · replace hF := it_f hc15 hF
      refine go_aload_n O dX8_knowsThat_18 rfl 0 rfl ?_
      refine go_get (k := 0) (j := 2) O (lt9 hI (by decide : (0 : Nat) < 99)) (cv_pw G (S.1 0) (S.2 0)) rfl in_X8_knowsThat_X8 (by decide) fl_X8_knowsThat_24 rfl rfl dX8_knowsThat_19 ?_
      refine go_iload_n O dX8_knowsThat_22 rfl 1 rfl ?_
      refine go_iload_n O dX8_knowsThat_23 rfl 2 rfl ?_
      obtain ⟨x6, hA5, hF⟩ := bd_s hF
      refine go_callVi (As := [.int a1, .int a2]) (rest := []) (b := (sb 0)) O (c_X6_isHeardBy l G hI (by decide : (0 : Nat) < 5) hA5) (fun s args hts => cwV 2 hts gX8_knowsThat_X6_isHeardBy rfl rfl rfl (by decide +kernel) ⟨Nat.le_of_ble_eq_true rfl, Nat.le_of_ble_eq_true rfl⟩) (lt9 hI (sb_lt0 (by decide : (0 : Nat) < 5))) (cv_st G (by decide : (0 : Nat) < 5) (S.1 (sb 0)) (S.2 (sb 0))) rfl rfl rfl rfl (Nat.le_of_ble_eq_true rfl) dX8_knowsThat_24 ?_
      refine go_istore (ls' := [(4, .int x6), (0, .ref (G.2.1 0)), (1, .int a1), (2, .int a2), (3, .int a3)]) O dX8_knowsThat_27 (by decide) rfl ?_
      refine go_iconst (v := (0 : Int32)) O dX8_knowsThat_29 (by decide) ?_
      refine go_istore (ls' := [(5, .int (0 : Int32)), (4, .int x6), (0, .ref (G.2.1 0)), (1, .int a1), (2, .int a2), (3, .int a3)]) O dX8_knowsThat_30 (by decide) rfl ?_
      refine go_perm (ls' := [(0, .ref (G.2.1 0)), (1, .int a1), (2, .int a2), (3, .int a3), (4, .int x6), (5, .int (0 : Int32))]) [2, 3, 4, 5, 1, 0] rfl ?_
      obtain ⟨q14, hA13, hF⟩ := bd_s hF
      refine lt_X8_knowsThat_32 l G hI  O _ _ _ hA13 (fun hq => ?_) ?_
      · subst hq
        refine go_iconst (v := (0 : Int32)) O dX8_knowsThat_91 (by decide) ?_
        exact ret_i hF (hR _ _ dX8_knowsThat_92)
      · intro r hq pc ls hd
        subst hq
        exact ret_i hF (hR _ _ hd)
    · replace hF := it_t hc15 hF
      refine go_iconst (v := (-1 : Int32)) O dX8_knowsThat_16 (by decide) ?_
      exact ret_i hF (hR _ _ dX8_knowsThat_17)
