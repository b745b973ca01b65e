-- X9_in
def rm_X9_in : Room := { frames := 0, cells := 0, slots := 0, locals := 0 }
def F_X9_in  (S : Sg) (a0 : Int64) (a2 : Int64) (a4 : Int64) : Option Int32 := if (lg_cmp a0 a2) < 0 then (some (0 : Int32)) else (if 0 < (lg_cmp a0 a4) then (some (0 : Int32)) else (some (1 : Int32)))
set_option maxHeartbeats 4000000 in
set_option maxRecDepth 100000 in
theorem c_X9_in (l : Launch) (G : Gp) (hI : Ij (wM G))  {S : Sg} {a0 : Int64} {a2 : Int64} {a4 : Int64} {r : Int32} (hF : F_X9_in S a0 a2 a4 = some r) : Met l yX9_in wsX9_in rm_X9_in (va_Pc [.long a0, .long a2, .long a4] (PreW (wM G) S)) (va_Qi (fun r' u => r' = r ∧ u = S) (PostW (wM G)) (AW (wM G))) 0 0 (AW (wM G)) := by
  rw [F_X9_in] at hF
  refine met_z (cc := cX9_in) (maxL := 6) (own := RX9) hI (by decide) rfl rfl (Nat.le_of_ble_eq_true rfl) (fun X O hR => ?_)
  show Go X l rm_X9_in (wM G) 6 0 [(0, .long a0), (2, .long a2), (4, .long a4)] [] S
  refine go_lload_n O dX9_in_0 rfl 0 rfl ?_
  refine go_lload_n O dX9_in_1 rfl 1 rfl ?_
  refine go_lcmp O dX9_in_2 ?_
  refine go_if_lt (tgt := 17) O dX9_in_3 (by decide) (fun hc2 => ?_) (fun hc2 => ?_)
  · replace hF := it_t hc2 hF
    refine go_iconst (v := (0 : Int32)) O dX9_in_17 (by decide) ?_
    exact ret_z hF (fun hz => hR _ _ hz dX9_in_18) (show vp_nar .boolean (0 : Int32) = (0 : Int32) by decide)
  · replace hF := it_f hc2 hF
    refine go_lload_n O dX9_in_6 rfl 0 rfl ?_
    refine go_lload O dX9_in_7 2 rfl ?_
    refine go_lcmp O dX9_in_9 ?_
    refine go_if_gt (tgt := 17) O dX9_in_10 (by decide) (fun hc1 => ?_) (fun hc1 => ?_)
    · replace hF := it_t hc1 hF
      refine go_iconst (v := (0 : Int32)) O dX9_in_17 (by decide) ?_
      exact ret_z hF (fun hz => hR _ _ hz dX9_in_18) (show vp_nar .boolean (0 : Int32) = (0 : Int32) by decide)
    · replace hF := it_f hc1 hF
      refine go_iconst (v := (1 : Int32)) O dX9_in_13 (by decide) ?_
      refine go_goto (tgt := 18) O dX9_in_14 (by decide) ?_
      exact ret_z hF (fun hz => hR _ _ hz dX9_in_18) (show vp_nar .boolean (1 : Int32) = (1 : Int32) by decide)
-- X9_has
def rm_X9_has : Room := { frames := 0, cells := 0, slots := 0, locals := 0 }
def F_X9_has  (S : Sg) (a0 : Int32) (a1 : Int32) : Option Int32 := if ((a0 >>> (a1 &&& 31)) &&& (1 : Int32)) = (1 : Int32) then (some (1 : Int32)) else (some (0 : Int32))
set_option maxHeartbeats 4000000 in
set_option maxRecDepth 100000 in
theorem c_X9_has (l : Launch) (G : Gp) (hI : Ij (wM G))  {S : Sg} {a0 : Int32} {a1 : Int32} {r : Int32} (hF : F_X9_has S a0 a1 = some r) : Met l yX9_has wsX9_has rm_X9_has (va_Pc [.int a0, .int a1] (PreW (wM G) S)) (va_Qi (fun r' u => r' = r ∧ u = S) (PostW (wM G)) (AW (wM G))) 0 0 (AW (wM G)) := by
  rw [F_X9_has] at hF
  refine met_z (cc := cX9_has) (maxL := 2) (own := RX9) hI (by decide) rfl rfl (Nat.le_of_ble_eq_true rfl) (fun X O hR => ?_)
  show Go X l rm_X9_has (wM G) 2 0 [(0, .int a0), (1, .int a1)] [] S
  refine go_iload_n O dX9_has_0 rfl 0 rfl ?_
  refine go_iload_n O dX9_has_1 rfl 1 rfl ?_
  refine go_ishr O dX9_has_2 ?_
  refine go_iconst (v := (1 : Int32)) O dX9_has_3 (by decide) ?_
  refine go_iand O dX9_has_4 ?_
  refine go_iconst (v := (1 : Int32)) O dX9_has_5 (by decide) ?_
  refine go_icmp_ne (tgt := 13) O dX9_has_6 (by decide) (fun hc1 => ?_) (fun hc1 => ?_)
  · replace hF := it_f hc1 hF
    refine go_iconst (v := (0 : Int32)) O dX9_has_13 (by decide) ?_
    exact ret_z hF (fun hz => hR _ _ hz dX9_has_14) (show vp_nar .boolean (0 : Int32) = (0 : Int32) by decide)
  · replace hF := it_t hc1 hF
    refine go_iconst (v := (1 : Int32)) O dX9_has_9 (by decide) ?_
    refine go_goto (tgt := 14) O dX9_has_10 (by decide) ?_
    exact ret_z hF (fun hz => hR _ _ hz dX9_has_14) (show vp_nar .boolean (1 : Int32) = (1 : Int32) by decide)
-- X9_ones
def rm_X9_ones : Room := { frames := 0, cells := 0, slots := 0, locals := 0 }
def T_X9_ones_4  (S : Sg)  : Nat → Int32 → Int32 → Option (Int32)
  | 0, _, _ => none
  | n + 1, p1, p2 => if p2 = 0 then (some p1) else (nm (p2 &&& (p2 - (1 : Int32))) (fun x2 => T_X9_ones_4 S n (p1 + (1 : Int32)) x2))
set_option maxHeartbeats 4000000 in
set_option maxRecDepth 100000 in
theorem lt_X9_ones_4 {X : XT} (l : Launch) (G : Gp) (hI : Ij (wM G))  {S : Sg} (O : Ok X (wM G) cX9_ones RX9 wsX9_ones 3) : ∀ (n : Nat) (p1 : Int32) (p2 : Int32)  (q : (Int32)), T_X9_ones_4 S n p1 p2  = some q → (Go X l rm_X9_ones (wM G) 3 20 [(1, .int q)] [] S) → Go X l rm_X9_ones (wM G) 3 4 [(1, .int p1), (2, .int p2)] [] S := by
  intro n
  induction n with
  | zero =>
    intro p1 p2  q hF
    cases hF
  | succ n ih =>
    intro p1 p2  q hF hE
    rw [T_X9_ones_4] at hF
    refine go_iload_n O dX9_ones_4 rfl 1 rfl ?_
    refine go_if_eq (tgt := 20) O dX9_ones_5 (by decide) (fun hc3 => ?_) (fun hc3 => ?_)
    · replace hF := it_t hc3 hF
      refine go_perm (ls' := [(1, .int p1)]) [0] rfl ?_
      exact jn (P := fun q => Go X l rm_X9_ones (wM G) 3 20 [(1, .int q)] [] S) hF hE
    · replace hF := it_f hc3 hF
      refine go_iinc (d := (1 : Int32)) (ls' := [(1, .int (p1 + (1 : Int32))), (2, .int p2)]) O dX9_ones_8 0 rfl (by decide) (by decide) rfl ?_
      refine go_iload_n O dX9_ones_11 rfl 1 rfl ?_
      refine go_iload_n O dX9_ones_12 rfl 1 rfl ?_
      refine go_iconst (v := (1 : Int32)) O dX9_ones_13 (by decide) ?_
      refine go_isub O dX9_ones_14 ?_
      refine go_iand O dX9_ones_15 ?_
      obtain ⟨x2, ex2, hF⟩ := nm_s hF
      refine go_topi ex2 ?_
      refine go_istore_n (ls' := [(2, .int x2), (1, .int (p1 + (1 : Int32)))]) O dX9_ones_16 rfl (by decide) rfl ?_
      refine go_goto (tgt := 4) O dX9_ones_17 (by decide) ?_
      refine go_perm (ls' := [(1, .int (p1 + (1 : Int32))), (2, .int x2)]) [1, 0] rfl ?_
      exact ih _ _ _ hF hE
def F_X9_ones  (S : Sg) (a0 : Int32) : Option Int32 := bd (T_X9_ones_4 S FU (0 : Int32) a0) (fun x1 => some x1)
set_option maxHeartbeats 4000000 in
set_option maxRecDepth 100000 in
theorem c_X9_ones (l : Launch) (G : Gp) (hI : Ij (wM G))  {S : Sg} {a0 : Int32} {r : Int32} (hF : F_X9_ones S a0 = some r) : Met l yX9_ones wsX9_ones rm_X9_ones (va_Pc [.int a0] (PreW (wM G) S)) (va_Qi (fun r' u => r' = r ∧ u = S) (PostW (wM G)) (AW (wM G))) 0 0 (AW (wM G)) := by
  rw [F_X9_ones] at hF
  refine met_i (cc := cX9_ones) (maxL := 3) (own := RX9) hI (by decide) rfl rfl (Nat.le_of_ble_eq_true rfl) (fun X O hR => ?_)
  show Go X l rm_X9_ones (wM G) 3 0 [(0, .int a0)] [] S
  refine go_iconst (v := (0 : Int32)) O dX9_ones_0 (by decide) ?_
  refine go_istore_n (ls' := [(1, .int (0 : Int32)), (0, .int a0)]) O dX9_ones_1 rfl (by decide) rfl ?_
  refine go_iload_n O dX9_ones_2 rfl 1 rfl ?_
  refine go_istore_n (ls' := [(2, .int a0), (1, .int (0 : Int32)), (0, .int a0)]) O dX9_ones_3 rfl (by decide) rfl ?_
  refine go_perm (ls' := [(1, .int (0 : Int32)), (2, .int a0)]) [1, 0] rfl ?_
  obtain ⟨x1, hA4, hF⟩ := bd_s hF
  refine lt_X9_ones_4 l G hI  O _ _ _ _ hA4 ?_
  refine go_iload_n O dX9_ones_20 rfl 0 rfl ?_
  exact ret_i hF (hR _ _ dX9_ones_21)
-- X9_find
def rm_X9_find : Room := { frames := 0, cells := 0, slots := 0, locals := 0 }
theorem fl_X9_find_49 : Cond.fieldLink RX9 49 "PaperWallsModel" "finds" "[I" ∈ wsX9_find := by decide +kernel
theorem fl_X9_find_89 : Cond.fieldLink RX9 89 "PaperWallsModel" "found" "I" ∈ wsX9_find := by decide +kernel
theorem in_X9_find_X9 : ∀ x ∈ u_ws RX9 TX9 36, x ∈ wsX9_find := by decide +kernel
def F_X9_find  (S : Sg) (a1 : Int32) : Option (Int32 × Sg) := nm (wI S 0 18 a1) (fun S1 => chk (inB a1 6) (chk (inB a1 6) (nm (wI S1 14 a1.toNatClampNeg ((S1.1 14 a1.toNatClampNeg) + (1 : Int32))) (fun S4 => some ((-3 : Int32), S4)))))
set_option maxHeartbeats 4000000 in
set_option maxRecDepth 100000 in
theorem c_X9_find (l : Launch) (G : Gp) (hI : Ij (wM G))  {S : Sg} {a1 : Int32} {r : Int32} {S1 : Sg} (hF : F_X9_find S a1 = some (r, S1)) : Met l yX9_find wsX9_find rm_X9_find (va_Pc [.ref (G.2.1 0), .int a1] (PreW (wM G) S)) (va_Qi (fun r' u => r' = r ∧ u = S1) (PostW (wM G)) (AW (wM G))) 0 0 (AW (wM G)) := by
  rw [F_X9_find] at hF
  refine met_i (cc := cX9_find) (maxL := 2) (own := RX9) hI (by decide) rfl rfl (Nat.le_of_ble_eq_true rfl) (fun X O hR => ?_)
  show Go X l rm_X9_find (wM G) 2 0 [(0, .ref (G.2.1 0)), (1, .int a1)] [] S
  refine go_aload_n O dX9_find_0 rfl 0 rfl ?_
  refine go_iload_n O dX9_find_1 rfl 1 rfl ?_
  obtain ⟨S1, eS1, hF⟩ := nm_s hF
  refine go_putI (k := 0) (j := 18) O (by decide : (0 : Nat) < 27) (cm_obj G (S.1 0) (S.2 0)) rfl in_X9_find_X9 (by decide) fl_X9_find_89 rfl tyX9 tyX9_ok nmX9 rfl (by decide +kernel) (Nat.le_of_ble_eq_true rfl) (cm_obj G (upd (S.1 0) 18 a1) (S.2 0)) dX9_find_2 eS1 ?_
  refine go_aload_n O dX9_find_5 rfl 0 rfl ?_
  refine go_get (k := 0) (j := 19) O (by decide : (0 : Nat) < 27) (cm_obj G (S1.1 0) (S1.2 0)) rfl in_X9_find_X9 (by decide) fl_X9_find_49 rfl rfl dX9_find_6 ?_
  refine go_iload_n O dX9_find_9 rfl 1 rfl ?_
  refine go_dup2 O dX9_find_10 rfl rfl ?_
  obtain ⟨hb2, hF⟩ := chk_s hF
  refine go_iald (k := 14) O (by decide : (14 : Nat) < 27) (cm_14 G (S1.1 14) (S1.2 14)) (inB_in hb2) dX9_find_11 ?_
  refine go_iconst (v := (1 : Int32)) O dX9_find_12 (by decide) ?_
  refine go_iadd O dX9_find_13 ?_
  obtain ⟨hb3, hF⟩ := chk_s hF
  obtain ⟨S4, eS4, hF⟩ := nm_s hF
  refine go_iast (k := 14) O (by decide : (14 : Nat) < 27) (fun f => (cm_14 G f (S1.2 14))) (inB_in hb3) dX9_find_14 eS4 ?_
  refine go_bipush (v := (-3 : Int32)) O dX9_find_15 (by decide) ?_
  exact ret_wi hF (hR _ _ dX9_find_17)
-- X9_say
def rm_X9_say : Room := { frames := 0, cells := 0, slots := 0, locals := 0 }
theorem fl_X9_say_93 : Cond.fieldLink RX9 93 "PaperWallsModel" "told" "I" ∈ wsX9_say := by decide +kernel
theorem in_X9_say_X9 : ∀ x ∈ u_ws RX9 TX9 36, x ∈ wsX9_say := by decide +kernel
def F_X9_say  (S : Sg) (a1 : Int32) (a2 : Int32) : Option (Int32 × Sg) := nm (wI S 0 17 a2) (fun S1 => some (a1, S1))
set_option maxHeartbeats 4000000 in
set_option maxRecDepth 100000 in
theorem c_X9_say (l : Launch) (G : Gp) (hI : Ij (wM G))  {S : Sg} {a1 : Int32} {a2 : Int32} {r : Int32} {S1 : Sg} (hF : F_X9_say S a1 a2 = some (r, S1)) : Met l yX9_say wsX9_say rm_X9_say (va_Pc [.ref (G.2.1 0), .int a1, .int a2] (PreW (wM G) S)) (va_Qi (fun r' u => r' = r ∧ u = S1) (PostW (wM G)) (AW (wM G))) 0 0 (AW (wM G)) := by
  rw [F_X9_say] at hF
  refine met_i (cc := cX9_say) (maxL := 3) (own := RX9) hI (by decide) rfl rfl (Nat.le_of_ble_eq_true rfl) (fun X O hR => ?_)
  show Go X l rm_X9_say (wM G) 3 0 [(0, .ref (G.2.1 0)), (1, .int a1), (2, .int a2)] [] S
  refine go_aload_n O dX9_say_0 rfl 0 rfl ?_
  refine go_iload_n O dX9_say_1 rfl 2 rfl ?_
  obtain ⟨S1, eS1, hF⟩ := nm_s hF
  refine go_putI (k := 0) (j := 17) O (by decide : (0 : Nat) < 27) (cm_obj G (S.1 0) (S.2 0)) rfl in_X9_say_X9 (by decide) fl_X9_say_93 rfl tyX9 tyX9_ok nmX9 rfl (by decide +kernel) (Nat.le_of_ble_eq_true rfl) (cm_obj G (upd (S.1 0) 17 a2) (S.2 0)) dX9_say_2 eS1 ?_
  refine go_iload_n O dX9_say_5 rfl 1 rfl ?_
  exact ret_wi hF (hR _ _ dX9_say_6)
-- X9_isRow
def rm_X9_isRow : Room := { frames := 1, cells := 0, slots := 0, locals := 25 }
theorem wd_X9_isRow_c96 : Cond.constantLong RX9 96 (5) ∈ wsX9_isRow := by decide +kernel
def F_X9_isRow  (S : Sg) (a0 : Int32) : Option Int32 := bd (F_X9_in S (Int32.toInt64 a0) (0 : Int64) (5 : Int64)) (fun x2 => chk (zB x2) (some x2))
set_option maxHeartbeats 4000000 in
set_option maxRecDepth 100000 in
theorem c_X9_isRow (l : Launch) (G : Gp) (hI : Ij (wM G))  {S : Sg} {a0 : Int32} {r : Int32} (hF : F_X9_isRow S a0 = some r) : Met l yX9_isRow wsX9_isRow rm_X9_isRow (va_Pc [.int a0] (PreW (wM G) S)) (va_Qi (fun r' u => r' = r ∧ u = S) (PostW (wM G)) (AW (wM G))) 0 0 (AW (wM G)) := by
  rw [F_X9_isRow] at hF
  refine met_z (cc := cX9_isRow) (maxL := 1) (own := RX9) hI (by decide) rfl rfl (Nat.le_of_ble_eq_true rfl) (fun X O hR => ?_)
  show Go X l rm_X9_isRow (wM G) 1 0 [(0, .int a0)] [] S
  refine go_iload_n O dX9_isRow_0 rfl 0 rfl ?_
  refine go_i2l (v := Int32.toInt64 a0) O dX9_isRow_1 rfl ?_
  refine go_lconst (v := (0 : Int64)) O dX9_isRow_2 (by decide) ?_
  refine go_ldc2 (v := (5 : Int64)) O dX9_isRow_3 wd_X9_isRow_c96 ?_
  obtain ⟨x2, hA1, hF⟩ := bd_s hF
  refine go_callSi (As := [.long (Int32.toInt64 a0), .long (0 : Int64), .long (5 : Int64)]) (rest := []) O (c_X9_in l G hI hA1) (fun s args hts => va_cwS 3 hts gX9_isRow_X9_in rfl rfl rfl (by decide +kernel) ⟨Nat.le_of_ble_eq_true rfl, Nat.le_of_ble_eq_true rfl⟩) rfl rfl (Nat.le_of_ble_eq_true rfl) dX9_isRow_6 ?_
  obtain ⟨hz3, hF⟩ := chk_s hF
  exact ret_z hF (fun hz => hR _ _ hz dX9_isRow_9) (zB_s hz3)
-- X9_isText
def rm_X9_isText : Room := { frames := 1, cells := 0, slots := 0, locals := 25 }
theorem wd_X9_isText_c102 : Cond.constantLong RX9 102 (3) ∈ wsX9_isText := by decide +kernel
def F_X9_isText  (S : Sg) (a0 : Int32) : Option Int32 := bd (F_X9_in S (Int32.toInt64 a0) (0 : Int64) (3 : Int64)) (fun x2 => chk (zB x2) (some x2))
set_option maxHeartbeats 4000000 in
set_option maxRecDepth 100000 in
theorem c_X9_isText (l : Launch) (G : Gp) (hI : Ij (wM G))  {S : Sg} {a0 : Int32} {r : Int32} (hF : F_X9_isText S a0 = some r) : Met l yX9_isText wsX9_isText rm_X9_isText (va_Pc [.int a0] (PreW (wM G) S)) (va_Qi (fun r' u => r' = r ∧ u = S) (PostW (wM G)) (AW (wM G))) 0 0 (AW (wM G)) := by
  rw [F_X9_isText] at hF
  refine met_z (cc := cX9_isText) (maxL := 1) (own := RX9) hI (by decide) rfl rfl (Nat.le_of_ble_eq_true rfl) (fun X O hR => ?_)
  show Go X l rm_X9_isText (wM G) 1 0 [(0, .int a0)] [] S
  refine go_iload_n O dX9_isText_0 rfl 0 rfl ?_
  refine go_i2l (v := Int32.toInt64 a0) O dX9_isText_1 rfl ?_
  refine go_lconst (v := (0 : Int64)) O dX9_isText_2 (by decide) ?_
  refine go_ldc2 (v := (3 : Int64)) O dX9_isText_3 wd_X9_isText_c102 ?_
  obtain ⟨x2, hA1, hF⟩ := bd_s hF
  refine go_callSi (As := [.long (Int32.toInt64 a0), .long (0 : Int64), .long (3 : Int64)]) (rest := []) O (c_X9_in l G hI hA1) (fun s args hts => va_cwS 3 hts gX9_isText_X9_in rfl rfl rfl (by decide +kernel) ⟨Nat.le_of_ble_eq_true rfl, Nat.le_of_ble_eq_true rfl⟩) rfl rfl (Nat.le_of_ble_eq_true rfl) dX9_isText_6 ?_
  obtain ⟨hz3, hF⟩ := chk_s hF
  exact ret_z hF (fun hz => hR _ _ hz dX9_isText_9) (zB_s hz3)
-- X9_row
def rm_X9_row : Room := { frames := 2, cells := 0, slots := 0, locals := 45 }
theorem fl_X9_row_7 : Cond.fieldLink RX9 7 "PaperWallsModel" "rowSizes" "[I" ∈ wsX9_row := by decide +kernel
theorem fl_X9_row_13 : Cond.fieldLink RX9 13 "PaperWallsModel" "rows" "[I" ∈ wsX9_row := by decide +kernel
theorem in_X9_row_X9 : ∀ x ∈ u_ws RX9 TX9 36, x ∈ wsX9_row := by decide +kernel
def T_X9_row_34   (p1 : Int32) (p2 : Int32) : Nat → Int32 → Sg → Option (Sg)
  | 0, _, _ => none
  | n + 1, p3, S => if (40 : Int32) ≤ p3 then (some S) else (chk (inB (((40 : Int32) * p1) + p3) 240) (nm (wI S 2 (((40 : Int32) * p1) + p3).toNatClampNeg (0 : Int32)) (fun S7 => T_X9_row_34 p1 p2 n (p3 + (1 : Int32)) S7)))
set_option maxHeartbeats 4000000 in
set_option maxRecDepth 100000 in
theorem lt_X9_row_34 {X : XT} (l : Launch) (G : Gp) (hI : Ij (wM G))   {p1 : Int32} {p2 : Int32} (O : Ok X (wM G) cX9_row RX9 wsX9_row 4) : ∀ (n : Nat) (p3 : Int32) (S : Sg) (q : (Sg)), T_X9_row_34 p1 p2 n p3 S = some q → (Go X l rm_X9_row (wM G) 4 58 [(2, .int p2)] [] q) → Go X l rm_X9_row (wM G) 4 34 [(0, .ref (G.2.1 0)), (1, .int p1), (2, .int p2), (3, .int p3)] [] S := by
  intro n
  induction n with
  | zero =>
    intro p3 S q hF
    cases hF
  | succ n ih =>
    intro p3 S q hF hE
    rw [T_X9_row_34] at hF
    refine go_iload_n O dX9_row_34 rfl 3 rfl ?_
    refine go_bipush (v := (40 : Int32)) O dX9_row_35 (by decide) ?_
    refine go_icmp_ge (tgt := 58) O dX9_row_37 (by decide) (fun hc8 => ?_) (fun hc8 => ?_)
    · replace hF := it_t hc8 hF
      refine go_perm (ls' := [(2, .int p2)]) [2] rfl ?_
      exact jn (P := fun q => Go X l rm_X9_row (wM G) 4 58 [(2, .int p2)] [] q) hF hE
    · replace hF := it_f hc8 hF
      refine go_aload_n O dX9_row_40 rfl 0 rfl ?_
      refine go_get (k := 0) (j := 1) O (by decide : (0 : Nat) < 27) (cm_obj G (S.1 0) (S.2 0)) rfl in_X9_row_X9 (by decide) fl_X9_row_13 rfl rfl dX9_row_41 ?_
      refine go_bipush (v := (40 : Int32)) O dX9_row_44 (by decide) ?_
      refine go_iload_n O dX9_row_46 rfl 1 rfl ?_
      refine go_imul O dX9_row_47 ?_
      refine go_iload_n O dX9_row_48 rfl 3 rfl ?_
      refine go_iadd O dX9_row_49 ?_
      refine go_iconst (v := (0 : Int32)) O dX9_row_50 (by decide) ?_
      obtain ⟨hb6, hF⟩ := chk_s hF
      obtain ⟨S7, eS7, hF⟩ := nm_s hF
      refine go_iast (k := 2) O (by decide : (2 : Nat) < 27) (fun f => (cm_2 G f (S.2 2))) (inB_in hb6) dX9_row_51 eS7 ?_
      refine go_iinc (d := (1 : Int32)) (ls' := [(3, .int (p3 + (1 : Int32))), (0, .ref (G.2.1 0)), (1, .int p1), (2, .int p2)]) O dX9_row_52 3 rfl (by decide) (by decide) rfl ?_
      refine go_goto (tgt := 34) O dX9_row_55 (by decide) ?_
      refine go_perm (ls' := [(0, .ref (G.2.1 0)), (1, .int p1), (2, .int p2), (3, .int (p3 + (1 : Int32)))]) [1, 2, 3, 0] rfl ?_
      exact ih _ _ _ hF hE
def F_X9_row  (S : Sg) (a1 : Int32) (a2 : Int32) : Option (Int32 × Sg) := bd (F_X9_isRow S a1) (fun x2 => if x2 = 0 then (some ((-1 : Int32), S)) else (if a2 ≤ (40 : Int32) then (if 0 ≤ a2 then (chk (inB a1 6) (nm (wI S 1 a1.toNatClampNeg a2) (fun S4 => bd (T_X9_row_34 a1 a2 FU (0 : Int32) S4) (fun S5 => some (a2, S5))))) else (bd (F_X9_find S (5 : Int32)) (fun (x11, S12) => some (x11, S12)))) else (some ((-1 : Int32), S))))
set_option maxHeartbeats 4000000 in
set_option maxRecDepth 100000 in
theorem c_X9_row (l : Launch) (G : Gp) (hI : Ij (wM G))  {S : Sg} {a1 : Int32} {a2 : Int32} {r : Int32} {S1 : Sg} (hF : F_X9_row S a1 a2 = some (r, S1)) : Met l yX9_row wsX9_row rm_X9_row (va_Pc [.ref (G.2.1 0), .int a1, .int a2] (PreW (wM G) S)) (va_Qi (fun r' u => r' = r ∧ u = S1) (PostW (wM G)) (AW (wM G))) 0 0 (AW (wM G)) := by
  rw [F_X9_row] at hF
  refine met_i (cc := cX9_row) (maxL := 4) (own := RX9) hI (by decide) rfl rfl (Nat.le_of_ble_eq_true rfl) (fun X O hR => ?_)
  show Go X l rm_X9_row (wM G) 4 0 [(0, .ref (G.2.1 0)), (1, .int a1), (2, .int a2)] [] S
  refine go_iload_n O dX9_row_0 rfl 1 rfl ?_
  obtain ⟨x2, hA1, hF⟩ := bd_s hF
  refine go_callSi (As := [.int a1]) (rest := []) O (c_X9_isRow l G hI hA1) (fun s args hts => va_cwS 1 hts gX9_row_X9_isRow rfl rfl rfl (by decide +kernel) ⟨Nat.le_of_ble_eq_true rfl, Nat.le_of_ble_eq_true rfl⟩) rfl rfl (Nat.le_of_ble_eq_true rfl) dX9_row_1 ?_
  refine go_if_eq (tgt := 13) O dX9_row_4 (by decide) (fun hc15 => ?_) (fun hc15 => ?_)
  · replace hF := it_t hc15 hF
    refine go_iconst (v := (-1 : Int32)) O dX9_row_13 (by decide) ?_
    exact ret_wi hF (hR _ _ dX9_row_14)
  · replace hF := it_f hc15 hF
    refine go_iload_n O dX9_row_7 rfl 2 rfl ?_
    refine go_bipush (v := (40 : Int32)) O dX9_row_8 (by decide) ?_
    refine go_icmp_le (tgt := 15) O dX9_row_10 (by decide) (fun hc14 => ?_) (fun hc14 => ?_)
    · replace hF := it_t hc14 hF
      refine go_iload_n O dX9_row_15 rfl 2 rfl ?_
      refine go_if_ge (tgt := 25) O dX9_row_16 (by decide) (fun hc13 => ?_) (fun hc13 => ?_)
      · replace hF := it_t hc13 hF
        refine go_aload_n O dX9_row_25 rfl 0 rfl ?_
        refine go_get (k := 0) (j := 0) O (by decide : (0 : Nat) < 27) (cm_obj G (S.1 0) (S.2 0)) rfl in_X9_row_X9 (by decide) fl_X9_row_7 rfl rfl dX9_row_26 ?_
        refine go_iload_n O dX9_row_29 rfl 1 rfl ?_
        refine go_iload_n O dX9_row_30 rfl 2 rfl ?_
        obtain ⟨hb3, hF⟩ := chk_s hF
        obtain ⟨S4, eS4, hF⟩ := nm_s hF
        refine go_iast (k := 1) O (by decide : (1 : Nat) < 27) (fun f => (cm_1 G f (S.2 1))) (inB_in hb3) dX9_row_31 eS4 ?_
        refine go_iconst (v := (0 : Int32)) O dX9_row_32 (by decide) ?_
        refine go_istore_n (ls' := [(3, .int (0 : Int32)), (0, .ref (G.2.1 0)), (1, .int a1), (2, .int a2)]) O dX9_row_33 rfl (by decide) rfl ?_
        refine go_perm (ls' := [(0, .ref (G.2.1 0)), (1, .int a1), (2, .int a2), (3, .int (0 : Int32))]) [1, 2, 3, 0] rfl ?_
        obtain ⟨S5, hA9, hF⟩ := bd_s hF
        refine lt_X9_row_34 l G hI  O _ _ _ _ hA9 ?_
        refine go_iload_n O dX9_row_58 rfl 0 rfl ?_
        exact ret_wi hF (hR _ _ dX9_row_59)
      · replace hF := it_f hc13 hF
        refine go_aload_n O dX9_row_19 rfl 0 rfl ?_
        refine go_iconst (v := (5 : Int32)) O dX9_row_20 (by decide) ?_
        obtain ⟨⟨x11, S12⟩, hA10, hF⟩ := bd_s hF
        refine go_callVi (As := [.int (5 : Int32)]) (rest := []) (b := 0) O (c_X9_find l G hI hA10) (fun s args hts => cwV 1 hts gX9_row_X9_find rfl rfl rfl (by decide +kernel) ⟨Nat.le_of_ble_eq_true rfl, Nat.le_of_ble_eq_true rfl⟩) (by decide : (0 : Nat) < 27) (cm_obj G (S.1 0) (S.2 0)) rfl rfl rfl rfl (Nat.le_of_ble_eq_true rfl) dX9_row_21 ?_
        exact ret_wi hF (hR _ _ dX9_row_24)
    · replace hF := it_f hc14 hF
      refine go_iconst (v := (-1 : Int32)) O dX9_row_13 (by decide) ?_
      exact ret_wi hF (hR _ _ dX9_row_14)
-- X9_lacksPlace
def rm_X9_lacksPlace : Room := { frames := 2, cells := 0, slots := 0, locals := 45 }
theorem fl_X9_lacksPlace_7 : Cond.fieldLink RX9 7 "PaperWallsModel" "rowSizes" "[I" ∈ wsX9_lacksPlace := by decide +kernel
theorem in_X9_lacksPlace_X9 : ∀ x ∈ u_ws RX9 TX9 36, x ∈ wsX9_lacksPlace := by decide +kernel
def F_X9_lacksPlace  (S : Sg) (a1 : Int32) (a2 : Int32) : Option (Int32 × Sg) := bd (F_X9_isRow S a1) (fun x2 => if x2 = 0 then (some ((-1 : Int32), S)) else (chk (inB a1 6) (if 0 ≤ (S.1 1 a1.toNatClampNeg) then (chk (inB a1 6) (bd (F_X9_in S (Int32.toInt64 a2) (0 : Int64) (Int32.toInt64 ((S.1 1 a1.toNatClampNeg) - (1 : Int32)))) (fun x6 => if x6 = 0 then (bd (F_X9_find S (2 : Int32)) (fun (x8, S9) => some (x8, S9))) else (some ((0 : Int32), S))))) else (bd (F_X9_find S (1 : Int32)) (fun (x12, S13) => some (x12, S13))))))
set_option maxHeartbeats 4000000 in
set_option maxRecDepth 100000 in
theorem c_X9_lacksPlace (l : Launch) (G : Gp) (hI : Ij (wM G))  {S : Sg} {a1 : Int32} {a2 : Int32} {r : Int32} {S1 : Sg} (hF : F_X9_lacksPlace S a1 a2 = some (r, S1)) : Met l yX9_lacksPlace wsX9_lacksPlace rm_X9_lacksPlace (va_Pc [.ref (G.2.1 0), .int a1, .int a2] (PreW (wM G) S)) (va_Qi (fun r' u => r' = r ∧ u = S1) (PostW (wM G)) (AW (wM G))) 0 0 (AW (wM G)) := by
  rw [F_X9_lacksPlace] at hF
  refine met_i (cc := cX9_lacksPlace) (maxL := 3) (own := RX9) hI (by decide) rfl rfl (Nat.le_of_ble_eq_true rfl) (fun X O hR => ?_)
  show Go X l rm_X9_lacksPlace (wM G) 3 0 [(0, .ref (G.2.1 0)), (1, .int a1), (2, .int a2)] [] S
  refine go_iload_n O dX9_lacksPlace_0 rfl 1 rfl ?_
  obtain ⟨x2, hA1, hF⟩ := bd_s hF
  refine go_callSi (As := [.int a1]) (rest := []) O (c_X9_isRow l G hI hA1) (fun s args hts => va_cwS 1 hts gX9_lacksPlace_X9_isRow rfl rfl rfl (by decide +kernel) ⟨Nat.le_of_ble_eq_true rfl, Nat.le_of_ble_eq_true rfl⟩) rfl rfl (Nat.le_of_ble_eq_true rfl) dX9_lacksPlace_1 ?_
  refine go_if_ne (tgt := 9) O dX9_lacksPlace_4 (by decide) (fun hc15 => ?_) (fun hc15 => ?_)
  · replace hF := it_f hc15 hF
    refine go_aload_n O dX9_lacksPlace_9 rfl 0 rfl ?_
    refine go_get (k := 0) (j := 0) O (by decide : (0 : Nat) < 27) (cm_obj G (S.1 0) (S.2 0)) rfl in_X9_lacksPlace_X9 (by decide) fl_X9_lacksPlace_7 rfl rfl dX9_lacksPlace_10 ?_
    refine go_iload_n O dX9_lacksPlace_13 rfl 1 rfl ?_
    obtain ⟨hb3, hF⟩ := chk_s hF
    refine go_iald (k := 1) O (by decide : (1 : Nat) < 27) (cm_1 G (S.1 1) (S.2 1)) (inB_in hb3) dX9_lacksPlace_14 ?_
    refine go_if_ge (tgt := 24) O dX9_lacksPlace_15 (by decide) (fun hc14 => ?_) (fun hc14 => ?_)
    · replace hF := it_t hc14 hF
      refine go_iload_n O dX9_lacksPlace_24 rfl 2 rfl ?_
      refine go_i2l (v := Int32.toInt64 a2) O dX9_lacksPlace_25 rfl ?_
      refine go_lconst (v := (0 : Int64)) O dX9_lacksPlace_26 (by decide) ?_
      refine go_aload_n O dX9_lacksPlace_27 rfl 0 rfl ?_
      refine go_get (k := 0) (j := 0) O (by decide : (0 : Nat) < 27) (cm_obj G (S.1 0) (S.2 0)) rfl in_X9_lacksPlace_X9 (by decide) fl_X9_lacksPlace_7 rfl rfl dX9_lacksPlace_28 ?_
      refine go_iload_n O dX9_lacksPlace_31 rfl 1 rfl ?_
      obtain ⟨hb4, hF⟩ := chk_s hF
      refine go_iald (k := 1) O (by decide : (1 : Nat) < 27) (cm_1 G (S.1 1) (S.2 1)) (inB_in hb4) dX9_lacksPlace_32 ?_
      refine go_iconst (v := (1 : Int32)) O dX9_lacksPlace_33 (by decide) ?_
      refine go_isub O dX9_lacksPlace_34 ?_
      refine go_i2l (v := Int32.toInt64 ((S.1 1 a1.toNatClampNeg) - (1 : Int32))) O dX9_lacksPlace_35 rfl ?_
      obtain ⟨x6, hA5, hF⟩ := bd_s hF
      refine go_callSi (As := [.long (Int32.toInt64 a2), .long (0 : Int64), .long (Int32.toInt64 ((S.1 1 a1.toNatClampNeg) - (1 : Int32)))]) (rest := []) O (c_X9_in l G hI hA5) (fun s args hts => va_cwS 3 hts gX9_lacksPlace_X9_in rfl rfl rfl (by decide +kernel) ⟨Nat.le_of_ble_eq_true rfl, Nat.le_of_ble_eq_true rfl⟩) rfl rfl (Nat.le_of_ble_eq_true rfl) dX9_lacksPlace_36 ?_
      refine go_if_eq (tgt := 46) O dX9_lacksPlace_39 (by decide) (fun hc10 => ?_) (fun hc10 => ?_)
      · replace hF := it_t hc10 hF
        refine go_aload_n O dX9_lacksPlace_46 rfl 0 rfl ?_
        refine go_iconst (v := (2 : Int32)) O dX9_lacksPlace_47 (by decide) ?_
        obtain ⟨⟨x8, S9⟩, hA7, hF⟩ := bd_s hF
        refine go_callVi (As := [.int (2 : Int32)]) (rest := []) (b := 0) O (c_X9_find l G hI hA7) (fun s args hts => cwV 1 hts gX9_lacksPlace_X9_find rfl rfl rfl (by decide +kernel) ⟨Nat.le_of_ble_eq_true rfl, Nat.le_of_ble_eq_true rfl⟩) (by decide : (0 : Nat) < 27) (cm_obj G (S.1 0) (S.2 0)) rfl rfl rfl rfl (Nat.le_of_ble_eq_true rfl) dX9_lacksPlace_48 ?_
        exact ret_wi hF (hR _ _ dX9_lacksPlace_51)
      · replace hF := it_f hc10 hF
        refine go_iconst (v := (0 : Int32)) O dX9_lacksPlace_42 (by decide) ?_
        refine go_goto (tgt := 51) O dX9_lacksPlace_43 (by decide) ?_
        exact ret_wi hF (hR _ _ dX9_lacksPlace_51)
    · replace hF := it_f hc14 hF
      refine go_aload_n O dX9_lacksPlace_18 rfl 0 rfl ?_
      refine go_iconst (v := (1 : Int32)) O dX9_lacksPlace_19 (by decide) ?_
      obtain ⟨⟨x12, S13⟩, hA11, hF⟩ := bd_s hF
      refine go_callVi (As := [.int (1 : Int32)]) (rest := []) (b := 0) O (c_X9_find l G hI hA11) (fun s args hts => cwV 1 hts gX9_lacksPlace_X9_find rfl rfl rfl (by decide +kernel) ⟨Nat.le_of_ble_eq_true rfl, Nat.le_of_ble_eq_true rfl⟩) (by decide : (0 : Nat) < 27) (cm_obj G (S.1 0) (S.2 0)) rfl rfl rfl rfl (Nat.le_of_ble_eq_true rfl) dX9_lacksPlace_20 ?_
      exact ret_wi hF (hR _ _ dX9_lacksPlace_23)
  · replace hF := it_t hc15 hF
    refine go_iconst (v := (-1 : Int32)) O dX9_lacksPlace_7 (by decide) ?_
    exact ret_wi hF (hR _ _ dX9_lacksPlace_8)
-- X9_lay
def rm_X9_lay : Room := { frames := 3, cells := 0, slots := 0, locals := 67 }
theorem fl_X9_lay_13 : Cond.fieldLink RX9 13 "PaperWallsModel" "rows" "[I" ∈ wsX9_lay := by decide +kernel
theorem in_X9_lay_X9 : ∀ x ∈ u_ws RX9 TX9 36, x ∈ wsX9_lay := by decide +kernel
def F_X9_lay  (S : Sg) (a1 : Int32) (a2 : Int32) (a3 : Int32) : Option (Int32 × Sg) := bd (F_X9_lacksPlace S a1 a2) (fun (x2, S3) => if 0 ≤ x2 then (chk (inB (((40 : Int32) * a1) + a2) 240) (nm (S3.1 2 (((40 : Int32) * a1) + a2).toNatClampNeg) (fun x5 => chk (inB (((40 : Int32) * a1) + a2) 240) (nm (wI S3 2 (((40 : Int32) * a1) + a2).toNatClampNeg a3) (fun S7 => bd (F_X9_say S7 (1 : Int32) x5) (fun (x9, S10) => some (x9, S10))))))) else (some (x2, S3)))
set_option maxHeartbeats 4000000 in
set_option maxRecDepth 100000 in
theorem c_X9_lay (l : Launch) (G : Gp) (hI : Ij (wM G))  {S : Sg} {a1 : Int32} {a2 : Int32} {a3 : Int32} {r : Int32} {S1 : Sg} (hF : F_X9_lay S a1 a2 a3 = some (r, S1)) : Met l yX9_lay wsX9_lay rm_X9_lay (va_Pc [.ref (G.2.1 0), .int a1, .int a2, .int a3] (PreW (wM G) S)) (va_Qi (fun r' u => r' = r ∧ u = S1) (PostW (wM G)) (AW (wM G))) 0 0 (AW (wM G)) := by
  rw [F_X9_lay] at hF
  refine met_i (cc := cX9_lay) (maxL := 6) (own := RX9) hI (by decide) rfl rfl (Nat.le_of_ble_eq_true rfl) (fun X O hR => ?_)
  show Go X l rm_X9_lay (wM G) 6 0 [(0, .ref (G.2.1 0)), (1, .int a1), (2, .int a2), (3, .int a3)] [] S
  refine go_aload_n O dX9_lay_0 rfl 0 rfl ?_
  refine go_iload_n O dX9_lay_1 rfl 1 rfl ?_
  refine go_iload_n O dX9_lay_2 rfl 2 rfl ?_
  obtain ⟨⟨x2, S3⟩, hA1, hF⟩ := bd_s hF
  refine go_callVi (As := [.int a1, .int a2]) (rest := []) (b := 0) O (c_X9_lacksPlace l G hI hA1) (fun s args hts => cwV 2 hts gX9_lay_X9_lacksPlace rfl rfl rfl (by decide +kernel) ⟨Nat.le_of_ble_eq_true rfl, Nat.le_of_ble_eq_true rfl⟩) (by decide : (0 : Nat) < 27) (cm_obj G (S.1 0) (S.2 0)) rfl rfl rfl rfl (Nat.le_of_ble_eq_true rfl) dX9_lay_3 ?_
  refine go_istore (ls' := [(4, .int x2), (0, .ref (G.2.1 0)), (1, .int a1), (2, .int a2), (3, .int a3)]) O dX9_lay_6 (by decide) rfl ?_
  refine go_iload O dX9_lay_8 0 rfl ?_
  refine go_if_ge (tgt := 16) O dX9_lay_10 (by decide) (fun hc11 => ?_) (fun hc11 => ?_)
  · replace hF := it_t hc11 hF
    refine go_aload_n O dX9_lay_16 rfl 1 rfl ?_
    refine go_get (k := 0) (j := 1) O (by decide : (0 : Nat) < 27) (cm_obj G (S3.1 0) (S3.2 0)) rfl in_X9_lay_X9 (by decide) fl_X9_lay_13 rfl rfl dX9_lay_17 ?_
    refine go_bipush (v := (40 : Int32)) O dX9_lay_20 (by decide) ?_
    refine go_iload_n O dX9_lay_22 rfl 2 rfl ?_
    refine go_imul O dX9_lay_23 ?_
    refine go_iload_n O dX9_lay_24 rfl 3 rfl ?_
    refine go_iadd O dX9_lay_25 ?_
    obtain ⟨hb4, hF⟩ := chk_s hF
    refine go_iald (k := 2) O (by decide : (2 : Nat) < 27) (cm_2 G (S3.1 2) (S3.2 2)) (inB_in hb4) dX9_lay_26 ?_
    obtain ⟨x5, ex5, hF⟩ := nm_s hF
    refine go_topi ex5 ?_
    refine go_istore (ls' := [(5, .int x5), (4, .int x2), (0, .ref (G.2.1 0)), (1, .int a1), (2, .int a2), (3, .int a3)]) O dX9_lay_27 (by decide) rfl ?_
    refine go_aload_n O dX9_lay_29 rfl 2 rfl ?_
    refine go_get (k := 0) (j := 1) O (by decide : (0 : Nat) < 27) (cm_obj G (S3.1 0) (S3.2 0)) rfl in_X9_lay_X9 (by decide) fl_X9_lay_13 rfl rfl dX9_lay_30 ?_
    refine go_bipush (v := (40 : Int32)) O dX9_lay_33 (by decide) ?_
    refine go_iload_n O dX9_lay_35 rfl 3 rfl ?_
    refine go_imul O dX9_lay_36 ?_
    refine go_iload_n O dX9_lay_37 rfl 4 rfl ?_
    refine go_iadd O dX9_lay_38 ?_
    refine go_iload_n O dX9_lay_39 rfl 5 rfl ?_
    obtain ⟨hb6, hF⟩ := chk_s hF
    obtain ⟨S7, eS7, hF⟩ := nm_s hF
    refine go_iast (k := 2) O (by decide : (2 : Nat) < 27) (fun f => (cm_2 G f (S3.2 2))) (inB_in hb6) dX9_lay_40 eS7 ?_
    refine go_aload_n O dX9_lay_41 rfl 2 rfl ?_
    refine go_iconst (v := (1 : Int32)) O dX9_lay_42 (by decide) ?_
    refine go_iload O dX9_lay_43 0 rfl ?_
    obtain ⟨⟨x9, S10⟩, hA8, hF⟩ := bd_s hF
    refine go_callVi (As := [.int (1 : Int32), .int x5]) (rest := []) (b := 0) O (c_X9_say l G hI hA8) (fun s args hts => cwV 2 hts gX9_lay_X9_say rfl rfl rfl (by decide +kernel) ⟨Nat.le_of_ble_eq_true rfl, Nat.le_of_ble_eq_true rfl⟩) (by decide : (0 : Nat) < 27) (cm_obj G (S7.1 0) (S7.2 0)) rfl rfl rfl rfl (Nat.le_of_ble_eq_true rfl) dX9_lay_45 ?_
    exact ret_wi hF (hR _ _ dX9_lay_48)
  · replace hF := it_f hc11 hF
    refine go_iload O dX9_lay_13 0 rfl ?_
    exact ret_wi hF (hR _ _ dX9_lay_15)
-- X9_at
def rm_X9_at : Room := { frames := 3, cells := 0, slots := 0, locals := 67 }
theorem fl_X9_at_13 : Cond.fieldLink RX9 13 "PaperWallsModel" "rows" "[I" ∈ wsX9_at := by decide +kernel
theorem in_X9_at_X9 : ∀ x ∈ u_ws RX9 TX9 36, x ∈ wsX9_at := by decide +kernel
def F_X9_at  (S : Sg) (a1 : Int32) (a2 : Int32) : Option (Int32 × Sg) := bd (F_X9_lacksPlace S a1 a2) (fun (x2, S3) => if 0 ≤ x2 then (chk (inB (((40 : Int32) * a1) + a2) 240) (bd (F_X9_say S3 (1 : Int32) (S3.1 2 (((40 : Int32) * a1) + a2).toNatClampNeg)) (fun (x6, S7) => some (x6, S7)))) else (some (x2, S3)))
set_option maxHeartbeats 4000000 in
set_option maxRecDepth 100000 in
theorem c_X9_at (l : Launch) (G : Gp) (hI : Ij (wM G))  {S : Sg} {a1 : Int32} {a2 : Int32} {r : Int32} {S1 : Sg} (hF : F_X9_at S a1 a2 = some (r, S1)) : Met l yX9_at wsX9_at rm_X9_at (va_Pc [.ref (G.2.1 0), .int a1, .int a2] (PreW (wM G) S)) (va_Qi (fun r' u => r' = r ∧ u = S1) (PostW (wM G)) (AW (wM G))) 0 0 (AW (wM G)) := by
  rw [F_X9_at] at hF
  refine met_i (cc := cX9_at) (maxL := 4) (own := RX9) hI (by decide) rfl rfl (Nat.le_of_ble_eq_true rfl) (fun X O hR => ?_)
  show Go X l rm_X9_at (wM G) 4 0 [(0, .ref (G.2.1 0)), (1, .int a1), (2, .int a2)] [] S
  refine go_aload_n O dX9_at_0 rfl 0 rfl ?_
  refine go_iload_n O dX9_at_1 rfl 1 rfl ?_
  refine go_iload_n O dX9_at_2 rfl 2 rfl ?_
  obtain ⟨⟨x2, S3⟩, hA1, hF⟩ := bd_s hF
  refine go_callVi (As := [.int a1, .int a2]) (rest := []) (b := 0) O (c_X9_lacksPlace l G hI hA1) (fun s args hts => cwV 2 hts gX9_at_X9_lacksPlace rfl rfl rfl (by decide +kernel) ⟨Nat.le_of_ble_eq_true rfl, Nat.le_of_ble_eq_true rfl⟩) (by decide : (0 : Nat) < 27) (cm_obj G (S.1 0) (S.2 0)) rfl rfl rfl rfl (Nat.le_of_ble_eq_true rfl) dX9_at_3 ?_
  refine go_istore_n (ls' := [(3, .int x2), (0, .ref (G.2.1 0)), (1, .int a1), (2, .int a2)]) O dX9_at_6 rfl (by decide) rfl ?_
  refine go_iload_n O dX9_at_7 rfl 0 rfl ?_
  refine go_if_ge (tgt := 15) O dX9_at_8 (by decide) (fun hc8 => ?_) (fun hc8 => ?_)
  · replace hF := it_t hc8 hF
    refine go_aload_n O dX9_at_15 rfl 1 rfl ?_
    refine go_iconst (v := (1 : Int32)) O dX9_at_16 (by decide) ?_
    refine go_aload_n O dX9_at_17 rfl 1 rfl ?_
    refine go_get (k := 0) (j := 1) O (by decide : (0 : Nat) < 27) (cm_obj G (S3.1 0) (S3.2 0)) rfl in_X9_at_X9 (by decide) fl_X9_at_13 rfl rfl dX9_at_18 ?_
    refine go_bipush (v := (40 : Int32)) O dX9_at_21 (by decide) ?_
    refine go_iload_n O dX9_at_23 rfl 2 rfl ?_
    refine go_imul O dX9_at_24 ?_
    refine go_iload_n O dX9_at_25 rfl 3 rfl ?_
    refine go_iadd O dX9_at_26 ?_
    obtain ⟨hb4, hF⟩ := chk_s hF
    refine go_iald (k := 2) O (by decide : (2 : Nat) < 27) (cm_2 G (S3.1 2) (S3.2 2)) (inB_in hb4) dX9_at_27 ?_
    obtain ⟨⟨x6, S7⟩, hA5, hF⟩ := bd_s hF
    refine go_callVi (As := [.int (1 : Int32), .int (S3.1 2 (((40 : Int32) * a1) + a2).toNatClampNeg)]) (rest := []) (b := 0) O (c_X9_say l G hI hA5) (fun s args hts => cwV 2 hts gX9_at_X9_say rfl rfl rfl (by decide +kernel) ⟨Nat.le_of_ble_eq_true rfl, Nat.le_of_ble_eq_true rfl⟩) (by decide : (0 : Nat) < 27) (cm_obj G (S3.1 0) (S3.2 0)) rfl rfl rfl rfl (Nat.le_of_ble_eq_true rfl) dX9_at_28 ?_
    exact ret_wi hF (hR _ _ dX9_at_31)
  · replace hF := it_f hc8 hF
    refine go_iload_n O dX9_at_11 rfl 0 rfl ?_
    refine go_goto (tgt := 31) O dX9_at_12 (by decide) ?_
    exact ret_wi hF (hR _ _ dX9_at_31)
-- X9_tear
def rm_X9_tear : Room := { frames := 2, cells := 0, slots := 0, locals := 45 }
theorem fl_X9_tear_7 : Cond.fieldLink RX9 7 "PaperWallsModel" "rowSizes" "[I" ∈ wsX9_tear := by decide +kernel
theorem in_X9_tear_X9 : ∀ x ∈ u_ws RX9 TX9 36, x ∈ wsX9_tear := by decide +kernel
def F_X9_tear  (S : Sg) (a1 : Int32) : Option (Int32 × Sg) := bd (F_X9_isRow S a1) (fun x2 => if x2 = 0 then (some ((-1 : Int32), S)) else (chk (inB a1 6) (if 0 ≤ (S.1 1 a1.toNatClampNeg) then (chk (inB a1 6) (nm (wI S 1 a1.toNatClampNeg (-1 : Int32)) (fun S5 => some ((1 : Int32), S5)))) else (bd (F_X9_find S (1 : Int32)) (fun (x7, S8) => some (x7, S8))))))
set_option maxHeartbeats 4000000 in
set_option maxRecDepth 100000 in
theorem c_X9_tear (l : Launch) (G : Gp) (hI : Ij (wM G))  {S : Sg} {a1 : Int32} {r : Int32} {S1 : Sg} (hF : F_X9_tear S a1 = some (r, S1)) : Met l yX9_tear wsX9_tear rm_X9_tear (va_Pc [.ref (G.2.1 0), .int a1] (PreW (wM G) S)) (va_Qi (fun r' u => r' = r ∧ u = S1) (PostW (wM G)) (AW (wM G))) 0 0 (AW (wM G)) := by
  rw [F_X9_tear] at hF
  refine met_i (cc := cX9_tear) (maxL := 2) (own := RX9) hI (by decide) rfl rfl (Nat.le_of_ble_eq_true rfl) (fun X O hR => ?_)
  show Go X l rm_X9_tear (wM G) 2 0 [(0, .ref (G.2.1 0)), (1, .int a1)] [] S
  refine go_iload_n O dX9_tear_0 rfl 1 rfl ?_
  obtain ⟨x2, hA1, hF⟩ := bd_s hF
  refine go_callSi (As := [.int a1]) (rest := []) O (c_X9_isRow l G hI hA1) (fun s args hts => va_cwS 1 hts gX9_tear_X9_isRow rfl rfl rfl (by decide +kernel) ⟨Nat.le_of_ble_eq_true rfl, Nat.le_of_ble_eq_true rfl⟩) rfl rfl (Nat.le_of_ble_eq_true rfl) dX9_tear_1 ?_
  refine go_if_ne (tgt := 9) O dX9_tear_4 (by decide) (fun hc10 => ?_) (fun hc10 => ?_)
  · replace hF := it_f hc10 hF
    refine go_aload_n O dX9_tear_9 rfl 0 rfl ?_
    refine go_get (k := 0) (j := 0) O (by decide : (0 : Nat) < 27) (cm_obj G (S.1 0) (S.2 0)) rfl in_X9_tear_X9 (by decide) fl_X9_tear_7 rfl rfl dX9_tear_10 ?_
    refine go_iload_n O dX9_tear_13 rfl 1 rfl ?_
    obtain ⟨hb3, hF⟩ := chk_s hF
    refine go_iald (k := 1) O (by decide : (1 : Nat) < 27) (cm_1 G (S.1 1) (S.2 1)) (inB_in hb3) dX9_tear_14 ?_
    refine go_if_ge (tgt := 24) O dX9_tear_15 (by decide) (fun hc9 => ?_) (fun hc9 => ?_)
    · replace hF := it_t hc9 hF
      refine go_aload_n O dX9_tear_24 rfl 0 rfl ?_
      refine go_get (k := 0) (j := 0) O (by decide : (0 : Nat) < 27) (cm_obj G (S.1 0) (S.2 0)) rfl in_X9_tear_X9 (by decide) fl_X9_tear_7 rfl rfl dX9_tear_25 ?_
      refine go_iload_n O dX9_tear_28 rfl 1 rfl ?_
      refine go_iconst (v := (-1 : Int32)) O dX9_tear_29 (by decide) ?_
      obtain ⟨hb4, hF⟩ := chk_s hF
      obtain ⟨S5, eS5, hF⟩ := nm_s hF
      refine go_iast (k := 1) O (by decide : (1 : Nat) < 27) (fun f => (cm_1 G f (S.2 1))) (inB_in hb4) dX9_tear_30 eS5 ?_
      refine go_iconst (v := (1 : Int32)) O dX9_tear_31 (by decide) ?_
      exact ret_wi hF (hR _ _ dX9_tear_32)
    · replace hF := it_f hc9 hF
      refine go_aload_n O dX9_tear_18 rfl 0 rfl ?_
      refine go_iconst (v := (1 : Int32)) O dX9_tear_19 (by decide) ?_
      obtain ⟨⟨x7, S8⟩, hA6, hF⟩ := bd_s hF
      refine go_callVi (As := [.int (1 : Int32)]) (rest := []) (b := 0) O (c_X9_find l G hI hA6) (fun s args hts => cwV 1 hts gX9_tear_X9_find rfl rfl rfl (by decide +kernel) ⟨Nat.le_of_ble_eq_true rfl, Nat.le_of_ble_eq_true rfl⟩) (by decide : (0 : Nat) < 27) (cm_obj G (S.1 0) (S.2 0)) rfl rfl rfl rfl (Nat.le_of_ble_eq_true rfl) dX9_tear_20 ?_
      exact ret_wi hF (hR _ _ dX9_tear_23)
  · replace hF := it_t hc10 hF
    refine go_iconst (v := (-1 : Int32)) O dX9_tear_7 (by decide) ?_
    exact ret_wi hF (hR _ _ dX9_tear_8)
-- X9_copy
def rm_X9_copy : Room := { frames := 2, cells := 0, slots := 0, locals := 45 }
theorem fl_X9_copy_7 : Cond.fieldLink RX9 7 "PaperWallsModel" "rowSizes" "[I" ∈ wsX9_copy := by decide +kernel
theorem fl_X9_copy_13 : Cond.fieldLink RX9 13 "PaperWallsModel" "rows" "[I" ∈ wsX9_copy := by decide +kernel
theorem fl_X9_copy_52 : Cond.fieldLink RX9 52 "PaperWallsModel" "moved" "[I" ∈ wsX9_copy := by decide +kernel
theorem in_X9_copy_X9 : ∀ x ∈ u_ws RX9 TX9 36, x ∈ wsX9_copy := by decide +kernel
def T_X9_copy_101   (p1 : Int32) (p2 : Int32) (p3 : Int32) (p4 : Int32) (p5 : Int32) : Nat → Int32 → Sg → Option (Sg)
  | 0, _, _ => none
  | n + 1, p6, S => if p5 ≤ p6 then (some S) else (chk (inB ((((40 : Int32) * p1) + p2) + p6) 240) (chk (inB p6 40) (nm (wI S 15 p6.toNatClampNeg (S.1 2 ((((40 : Int32) * p1) + p2) + p6).toNatClampNeg)) (fun S22 => T_X9_copy_101 p1 p2 p3 p4 p5 n (p6 + (1 : Int32)) S22))))
set_option maxHeartbeats 4000000 in
set_option maxRecDepth 100000 in
theorem lt_X9_copy_101 {X : XT} (l : Launch) (G : Gp) (hI : Ij (wM G))   {p1 : Int32} {p2 : Int32} {p3 : Int32} {p4 : Int32} {p5 : Int32} (O : Ok X (wM G) cX9_copy RX9 wsX9_copy 7) : ∀ (n : Nat) (p6 : Int32) (S : Sg) (q : (Sg)), T_X9_copy_101 p1 p2 p3 p4 p5 n p6 S = some q → (Go X l rm_X9_copy (wM G) 7 135 [(0, .ref (G.2.1 0)), (3, .int p3), (4, .int p4), (5, .int p5)] [] q) → Go X l rm_X9_copy (wM G) 7 101 [(0, .ref (G.2.1 0)), (1, .int p1), (2, .int p2), (3, .int p3), (4, .int p4), (5, .int p5), (6, .int p6)] [] S := by
  intro n
  induction n with
  | zero =>
    intro p6 S q hF
    cases hF
  | succ n ih =>
    intro p6 S q hF hE
    rw [T_X9_copy_101] at hF
    refine go_iload O dX9_copy_101 6 rfl ?_
    refine go_iload O dX9_copy_103 5 rfl ?_
    refine go_icmp_ge (tgt := 135) O dX9_copy_105 (by decide) (fun hc23 => ?_) (fun hc23 => ?_)
    · replace hF := it_t hc23 hF
      refine go_perm (ls' := [(0, .ref (G.2.1 0)), (3, .int p3), (4, .int p4), (5, .int p5)]) [0, 3, 4, 5] rfl ?_
      exact jn (P := fun q => Go X l rm_X9_copy (wM G) 7 135 [(0, .ref (G.2.1 0)), (3, .int p3), (4, .int p4), (5, .int p5)] [] q) hF hE
    · replace hF := it_f hc23 hF
      refine go_aload_n O dX9_copy_108 rfl 0 rfl ?_
      refine go_get (k := 0) (j := 20) O (by decide : (0 : Nat) < 27) (cm_obj G (S.1 0) (S.2 0)) rfl in_X9_copy_X9 (by decide) fl_X9_copy_52 rfl rfl dX9_copy_109 ?_
      refine go_iload O dX9_copy_112 6 rfl ?_
      refine go_aload_n O dX9_copy_114 rfl 0 rfl ?_
      refine go_get (k := 0) (j := 1) O (by decide : (0 : Nat) < 27) (cm_obj G (S.1 0) (S.2 0)) rfl in_X9_copy_X9 (by decide) fl_X9_copy_13 rfl rfl dX9_copy_115 ?_
      refine go_bipush (v := (40 : Int32)) O dX9_copy_118 (by decide) ?_
      refine go_iload_n O dX9_copy_120 rfl 1 rfl ?_
      refine go_imul O dX9_copy_121 ?_
      refine go_iload_n O dX9_copy_122 rfl 2 rfl ?_
      refine go_iadd O dX9_copy_123 ?_
      refine go_iload O dX9_copy_124 6 rfl ?_
      refine go_iadd O dX9_copy_126 ?_
      obtain ⟨hb20, hF⟩ := chk_s hF
      refine go_iald (k := 2) O (by decide : (2 : Nat) < 27) (cm_2 G (S.1 2) (S.2 2)) (inB_in hb20) dX9_copy_127 ?_
      obtain ⟨hb21, hF⟩ := chk_s hF
      obtain ⟨S22, eS22, hF⟩ := nm_s hF
      refine go_iast (k := 15) O (by decide : (15 : Nat) < 27) (fun f => (cm_15 G f (S.2 15))) (inB_in hb21) dX9_copy_128 eS22 ?_
      refine go_iinc (d := (1 : Int32)) (ls' := [(6, .int (p6 + (1 : Int32))), (0, .ref (G.2.1 0)), (1, .int p1), (2, .int p2), (3, .int p3), (4, .int p4), (5, .int p5)]) O dX9_copy_129 6 rfl (by decide) (by decide) rfl ?_
      refine go_goto (tgt := 101) O dX9_copy_132 (by decide) ?_
      refine go_perm (ls' := [(0, .ref (G.2.1 0)), (1, .int p1), (2, .int p2), (3, .int p3), (4, .int p4), (5, .int p5), (6, .int (p6 + (1 : Int32)))]) [1, 2, 3, 4, 5, 6, 0] rfl ?_
      exact ih _ _ _ hF hE
def T_X9_copy_138   (p3 : Int32) (p4 : Int32) (p5 : Int32) : Nat → Int32 → Sg → Option (Sg)
  | 0, _, _ => none
  | n + 1, p6, S => if p5 ≤ p6 then (some S) else (chk (inB p6 40) (chk (inB ((((40 : Int32) * p3) + p4) + p6) 240) (nm (wI S 2 ((((40 : Int32) * p3) + p4) + p6).toNatClampNeg (S.1 15 p6.toNatClampNeg)) (fun S28 => T_X9_copy_138 p3 p4 p5 n (p6 + (1 : Int32)) S28))))
set_option maxHeartbeats 4000000 in
set_option maxRecDepth 100000 in
theorem lt_X9_copy_138 {X : XT} (l : Launch) (G : Gp) (hI : Ij (wM G))   {p3 : Int32} {p4 : Int32} {p5 : Int32} (O : Ok X (wM G) cX9_copy RX9 wsX9_copy 7) : ∀ (n : Nat) (p6 : Int32) (S : Sg) (q : (Sg)), T_X9_copy_138 p3 p4 p5 n p6 S = some q → (Go X l rm_X9_copy (wM G) 7 173 [] [] q) → Go X l rm_X9_copy (wM G) 7 138 [(0, .ref (G.2.1 0)), (3, .int p3), (4, .int p4), (5, .int p5), (6, .int p6)] [] S := by
  intro n
  induction n with
  | zero =>
    intro p6 S q hF
    cases hF
  | succ n ih =>
    intro p6 S q hF hE
    rw [T_X9_copy_138] at hF
    refine go_iload O dX9_copy_138 4 rfl ?_
    refine go_iload O dX9_copy_140 3 rfl ?_
    refine go_icmp_ge (tgt := 173) O dX9_copy_142 (by decide) (fun hc29 => ?_) (fun hc29 => ?_)
    · replace hF := it_t hc29 hF
      refine go_perm (ls' := []) [] rfl ?_
      exact jn (P := fun q => Go X l rm_X9_copy (wM G) 7 173 [] [] q) hF hE
    · replace hF := it_f hc29 hF
      refine go_aload_n O dX9_copy_145 rfl 0 rfl ?_
      refine go_get (k := 0) (j := 1) O (by decide : (0 : Nat) < 27) (cm_obj G (S.1 0) (S.2 0)) rfl in_X9_copy_X9 (by decide) fl_X9_copy_13 rfl rfl dX9_copy_146 ?_
      refine go_bipush (v := (40 : Int32)) O dX9_copy_149 (by decide) ?_
      refine go_iload_n O dX9_copy_151 rfl 1 rfl ?_
      refine go_imul O dX9_copy_152 ?_
      refine go_iload O dX9_copy_153 2 rfl ?_
      refine go_iadd O dX9_copy_155 ?_
      refine go_iload O dX9_copy_156 4 rfl ?_
      refine go_iadd O dX9_copy_158 ?_
      refine go_aload_n O dX9_copy_159 rfl 0 rfl ?_
      refine go_get (k := 0) (j := 20) O (by decide : (0 : Nat) < 27) (cm_obj G (S.1 0) (S.2 0)) rfl in_X9_copy_X9 (by decide) fl_X9_copy_52 rfl rfl dX9_copy_160 ?_
      refine go_iload O dX9_copy_163 4 rfl ?_
      obtain ⟨hb26, hF⟩ := chk_s hF
      refine go_iald (k := 15) O (by decide : (15 : Nat) < 27) (cm_15 G (S.1 15) (S.2 15)) (inB_in hb26) dX9_copy_165 ?_
      obtain ⟨hb27, hF⟩ := chk_s hF
      obtain ⟨S28, eS28, hF⟩ := nm_s hF
      refine go_iast (k := 2) O (by decide : (2 : Nat) < 27) (fun f => (cm_2 G f (S.2 2))) (inB_in hb27) dX9_copy_166 eS28 ?_
      refine go_iinc (d := (1 : Int32)) (ls' := [(6, .int (p6 + (1 : Int32))), (0, .ref (G.2.1 0)), (3, .int p3), (4, .int p4), (5, .int p5)]) O dX9_copy_167 4 rfl (by decide) (by decide) rfl ?_
      refine go_goto (tgt := 138) O dX9_copy_170 (by decide) ?_
      refine go_perm (ls' := [(0, .ref (G.2.1 0)), (3, .int p3), (4, .int p4), (5, .int p5), (6, .int (p6 + (1 : Int32)))]) [1, 2, 3, 4, 0] rfl ?_
      exact ih _ _ _ hF hE
def F_X9_copy  (S : Sg) (a1 : Int32) (a2 : Int32) (a3 : Int32) (a4 : Int32) (a5 : Int32) : Option (Int32 × Sg) := bd (F_X9_isRow S a1) (fun x2 => if x2 = 0 then (some ((-1 : Int32), S)) else (bd (F_X9_isRow S a3) (fun x4 => if x4 = 0 then (some ((-1 : Int32), S)) else (if 0 ≤ a5 then (chk (inB a1 6) (if (S.1 1 a1.toNatClampNeg) < 0 then (bd (F_X9_find S (1 : Int32)) (fun (x7, S8) => some (x7, S8))) else (chk (inB a3 6) (if 0 ≤ (S.1 1 a3.toNatClampNeg) then (chk (inB a1 6) (bd (F_X9_in S (Int32.toInt64 a2) (0 : Int64) ((Int32.toInt64 (S.1 1 a1.toNatClampNeg)) - (Int32.toInt64 a5))) (fun x12 => if x12 = 0 then (bd (F_X9_find S (2 : Int32)) (fun (x14, S15) => some (x14, S15))) else (chk (inB a3 6) (bd (F_X9_in S (Int32.toInt64 a4) (0 : Int64) ((Int32.toInt64 (S.1 1 a3.toNatClampNeg)) - (Int32.toInt64 a5))) (fun x18 => if x18 = 0 then (bd (F_X9_find S (2 : Int32)) (fun (x32, S33) => some (x32, S33))) else (bd (T_X9_copy_101 a1 a2 a3 a4 a5 FU (0 : Int32) S) (fun S19 => bd (T_X9_copy_138 a3 a4 a5 FU (0 : Int32) S19) (fun S25 => some ((1 : Int32), S25)))))))))) else (bd (F_X9_find S (1 : Int32)) (fun (x37, S38) => some (x37, S38))))))) else (bd (F_X9_find S (5 : Int32)) (fun (x42, S43) => some (x42, S43)))))))
set_option maxHeartbeats 4000000 in
set_option maxRecDepth 100000 in
theorem c_X9_copy (l : Launch) (G : Gp) (hI : Ij (wM G))  {S : Sg} {a1 : Int32} {a2 : Int32} {a3 : Int32} {a4 : Int32} {a5 : Int32} {r : Int32} {S1 : Sg} (hF : F_X9_copy S a1 a2 a3 a4 a5 = some (r, S1)) : Met l yX9_copy wsX9_copy rm_X9_copy (va_Pc [.ref (G.2.1 0), .int a1, .int a2, .int a3, .int a4, .int a5] (PreW (wM G) S)) (va_Qi (fun r' u => r' = r ∧ u = S1) (PostW (wM G)) (AW (wM G))) 0 0 (AW (wM G)) := by
  rw [F_X9_copy] at hF
  refine met_i (cc := cX9_copy) (maxL := 7) (own := RX9) hI (by decide) rfl rfl (Nat.le_of_ble_eq_true rfl) (fun X O hR => ?_)
  show Go X l rm_X9_copy (wM G) 7 0 [(0, .ref (G.2.1 0)), (1, .int a1), (2, .int a2), (3, .int a3), (4, .int a4), (5, .int a5)] [] S
  refine go_iload_n O dX9_copy_0 rfl 1 rfl ?_
  obtain ⟨x2, hA1, hF⟩ := bd_s hF
  refine go_callSi (As := [.int a1]) (rest := []) O (c_X9_isRow l G hI hA1) (fun s args hts => va_cwS 1 hts gX9_copy_X9_isRow rfl rfl rfl (by decide +kernel) ⟨Nat.le_of_ble_eq_true rfl, Nat.le_of_ble_eq_true rfl⟩) rfl rfl (Nat.le_of_ble_eq_true rfl) dX9_copy_1 ?_
  refine go_if_eq (tgt := 14) O dX9_copy_4 (by decide) (fun hc46 => ?_) (fun hc46 => ?_)
  · replace hF := it_t hc46 hF
    refine go_iconst (v := (-1 : Int32)) O dX9_copy_14 (by decide) ?_
    exact ret_wi hF (hR _ _ dX9_copy_15)
  · replace hF := it_f hc46 hF
    refine go_iload_n O dX9_copy_7 rfl 3 rfl ?_
    obtain ⟨x4, hA3, hF⟩ := bd_s hF
    refine go_callSi (As := [.int a3]) (rest := []) O (c_X9_isRow l G hI hA3) (fun s args hts => va_cwS 1 hts gX9_copy_X9_isRow rfl rfl rfl (by decide +kernel) ⟨Nat.le_of_ble_eq_true rfl, Nat.le_of_ble_eq_true rfl⟩) rfl rfl (Nat.le_of_ble_eq_true rfl) dX9_copy_8 ?_
    refine go_if_ne (tgt := 16) O dX9_copy_11 (by decide) (fun hc45 => ?_) (fun hc45 => ?_)
    · replace hF := it_f hc45 hF
      refine go_iload O dX9_copy_16 5 rfl ?_
      refine go_if_ge (tgt := 27) O dX9_copy_18 (by decide) (fun hc44 => ?_) (fun hc44 => ?_)
      · replace hF := it_t hc44 hF
        refine go_aload_n O dX9_copy_27 rfl 0 rfl ?_
        refine go_get (k := 0) (j := 0) O (by decide : (0 : Nat) < 27) (cm_obj G (S.1 0) (S.2 0)) rfl in_X9_copy_X9 (by decide) fl_X9_copy_7 rfl rfl dX9_copy_28 ?_
        refine go_iload_n O dX9_copy_31 rfl 1 rfl ?_
        obtain ⟨hb5, hF⟩ := chk_s hF
        refine go_iald (k := 1) O (by decide : (1 : Nat) < 27) (cm_1 G (S.1 1) (S.2 1)) (inB_in hb5) dX9_copy_32 ?_
        refine go_if_lt (tgt := 45) O dX9_copy_33 (by decide) (fun hc40 => ?_) (fun hc40 => ?_)
        · replace hF := it_t hc40 hF
          refine go_aload_n O dX9_copy_45 rfl 0 rfl ?_
          refine go_iconst (v := (1 : Int32)) O dX9_copy_46 (by decide) ?_
          obtain ⟨⟨x7, S8⟩, hA6, hF⟩ := bd_s hF
          refine go_callVi (As := [.int (1 : Int32)]) (rest := []) (b := 0) O (c_X9_find l G hI hA6) (fun s args hts => cwV 1 hts gX9_copy_X9_find rfl rfl rfl (by decide +kernel) ⟨Nat.le_of_ble_eq_true rfl, Nat.le_of_ble_eq_true rfl⟩) (by decide : (0 : Nat) < 27) (cm_obj G (S.1 0) (S.2 0)) rfl rfl rfl rfl (Nat.le_of_ble_eq_true rfl) dX9_copy_47 ?_
          exact ret_wi hF (hR _ _ dX9_copy_50)
        · replace hF := it_f hc40 hF
          refine go_aload_n O dX9_copy_36 rfl 0 rfl ?_
          refine go_get (k := 0) (j := 0) O (by decide : (0 : Nat) < 27) (cm_obj G (S.1 0) (S.2 0)) rfl in_X9_copy_X9 (by decide) fl_X9_copy_7 rfl rfl dX9_copy_37 ?_
          refine go_iload_n O dX9_copy_40 rfl 3 rfl ?_
          obtain ⟨hb9, hF⟩ := chk_s hF
          refine go_iald (k := 1) O (by decide : (1 : Nat) < 27) (cm_1 G (S.1 1) (S.2 1)) (inB_in hb9) dX9_copy_41 ?_
          refine go_if_ge (tgt := 51) O dX9_copy_42 (by decide) (fun hc39 => ?_) (fun hc39 => ?_)
          · replace hF := it_t hc39 hF
            refine go_iload_n O dX9_copy_51 rfl 2 rfl ?_
            refine go_i2l (v := Int32.toInt64 a2) O dX9_copy_52 rfl ?_
            refine go_lconst (v := (0 : Int64)) O dX9_copy_53 (by decide) ?_
            refine go_aload_n O dX9_copy_54 rfl 0 rfl ?_
            refine go_get (k := 0) (j := 0) O (by decide : (0 : Nat) < 27) (cm_obj G (S.1 0) (S.2 0)) rfl in_X9_copy_X9 (by decide) fl_X9_copy_7 rfl rfl dX9_copy_55 ?_
            refine go_iload_n O dX9_copy_58 rfl 1 rfl ?_
            obtain ⟨hb10, hF⟩ := chk_s hF
            refine go_iald (k := 1) O (by decide : (1 : Nat) < 27) (cm_1 G (S.1 1) (S.2 1)) (inB_in hb10) dX9_copy_59 ?_
            refine go_i2l (v := Int32.toInt64 (S.1 1 a1.toNatClampNeg)) O dX9_copy_60 rfl ?_
            refine go_iload O dX9_copy_61 5 rfl ?_
            refine go_i2l (v := Int32.toInt64 a5) O dX9_copy_63 rfl ?_
            refine go_lsub O dX9_copy_64 ?_
            obtain ⟨x12, hA11, hF⟩ := bd_s hF
            refine go_callSi (As := [.long (Int32.toInt64 a2), .long (0 : Int64), .long ((Int32.toInt64 (S.1 1 a1.toNatClampNeg)) - (Int32.toInt64 a5))]) (rest := []) O (c_X9_in l G hI hA11) (fun s args hts => va_cwS 3 hts gX9_copy_X9_in rfl rfl rfl (by decide +kernel) ⟨Nat.le_of_ble_eq_true rfl, Nat.le_of_ble_eq_true rfl⟩) rfl rfl (Nat.le_of_ble_eq_true rfl) dX9_copy_65 ?_
            refine go_if_eq (tgt := 92) O dX9_copy_68 (by decide) (fun hc35 => ?_) (fun hc35 => ?_)
            · replace hF := it_t hc35 hF
              refine go_aload_n O dX9_copy_92 rfl 0 rfl ?_
              refine go_iconst (v := (2 : Int32)) O dX9_copy_93 (by decide) ?_
              obtain ⟨⟨x14, S15⟩, hA13, hF⟩ := bd_s hF
              refine go_callVi (As := [.int (2 : Int32)]) (rest := []) (b := 0) O (c_X9_find l G hI hA13) (fun s args hts => cwV 1 hts gX9_copy_X9_find rfl rfl rfl (by decide +kernel) ⟨Nat.le_of_ble_eq_true rfl, Nat.le_of_ble_eq_true rfl⟩) (by decide : (0 : Nat) < 27) (cm_obj G (S.1 0) (S.2 0)) rfl rfl rfl rfl (Nat.le_of_ble_eq_true rfl) dX9_copy_94 ?_
              exact ret_wi hF (hR _ _ dX9_copy_97)
            · replace hF := it_f hc35 hF
              refine go_iload O dX9_copy_71 4 rfl ?_
              refine go_i2l (v := Int32.toInt64 a4) O dX9_copy_73 rfl ?_
              refine go_lconst (v := (0 : Int64)) O dX9_copy_74 (by decide) ?_
              refine go_aload_n O dX9_copy_75 rfl 0 rfl ?_
              refine go_get (k := 0) (j := 0) O (by decide : (0 : Nat) < 27) (cm_obj G (S.1 0) (S.2 0)) rfl in_X9_copy_X9 (by decide) fl_X9_copy_7 rfl rfl dX9_copy_76 ?_
              refine go_iload_n O dX9_copy_79 rfl 3 rfl ?_
              obtain ⟨hb16, hF⟩ := chk_s hF
              refine go_iald (k := 1) O (by decide : (1 : Nat) < 27) (cm_1 G (S.1 1) (S.2 1)) (inB_in hb16) dX9_copy_80 ?_
              refine go_i2l (v := Int32.toInt64 (S.1 1 a3.toNatClampNeg)) O dX9_copy_81 rfl ?_
              refine go_iload O dX9_copy_82 5 rfl ?_
              refine go_i2l (v := Int32.toInt64 a5) O dX9_copy_84 rfl ?_
              refine go_lsub O dX9_copy_85 ?_
              obtain ⟨x18, hA17, hF⟩ := bd_s hF
              refine go_callSi (As := [.long (Int32.toInt64 a4), .long (0 : Int64), .long ((Int32.toInt64 (S.1 1 a3.toNatClampNeg)) - (Int32.toInt64 a5))]) (rest := []) O (c_X9_in l G hI hA17) (fun s args hts => va_cwS 3 hts gX9_copy_X9_in rfl rfl rfl (by decide +kernel) ⟨Nat.le_of_ble_eq_true rfl, Nat.le_of_ble_eq_true rfl⟩) rfl rfl (Nat.le_of_ble_eq_true rfl) dX9_copy_86 ?_
              refine go_if_ne (tgt := 98) O dX9_copy_89 (by decide) (fun hc34 => ?_) (fun hc34 => ?_)
              · replace hF := it_f hc34 hF
                refine go_iconst (v := (0 : Int32)) O dX9_copy_98 (by decide) ?_
                refine go_istore (ls' := [(6, .int (0 : Int32)), (0, .ref (G.2.1 0)), (1, .int a1), (2, .int a2), (3, .int a3), (4, .int a4), (5, .int a5)]) O dX9_copy_99 (by decide) rfl ?_
                refine go_perm (ls' := [(0, .ref (G.2.1 0)), (1, .int a1), (2, .int a2), (3, .int a3), (4, .int a4), (5, .int a5), (6, .int (0 : Int32))]) [1, 2, 3, 4, 5, 6, 0] rfl ?_
                obtain ⟨S19, hA24, hF⟩ := bd_s hF
                refine lt_X9_copy_101 l G hI  O _ _ _ _ hA24 ?_
                refine go_iconst (v := (0 : Int32)) O dX9_copy_135 (by decide) ?_
                refine go_istore (ls' := [(6, .int (0 : Int32)), (0, .ref (G.2.1 0)), (3, .int a3), (4, .int a4), (5, .int a5)]) O dX9_copy_136 (by decide) rfl ?_
                refine go_perm (ls' := [(0, .ref (G.2.1 0)), (3, .int a3), (4, .int a4), (5, .int a5), (6, .int (0 : Int32))]) [1, 2, 3, 4, 0] rfl ?_
                obtain ⟨S25, hA30, hF⟩ := bd_s hF
                refine lt_X9_copy_138 l G hI  O _ _ _ _ hA30 ?_
                refine go_iconst (v := (1 : Int32)) O dX9_copy_173 (by decide) ?_
                exact ret_wi hF (hR _ _ dX9_copy_174)
              · replace hF := it_t hc34 hF
                refine go_aload_n O dX9_copy_92 rfl 0 rfl ?_
                refine go_iconst (v := (2 : Int32)) O dX9_copy_93 (by decide) ?_
                obtain ⟨⟨x32, S33⟩, hA31, hF⟩ := bd_s hF
                refine go_callVi (As := [.int (2 : Int32)]) (rest := []) (b := 0) O (c_X9_find l G hI hA31) (fun s args hts => cwV 1 hts gX9_copy_X9_find rfl rfl rfl (by decide +kernel) ⟨Nat.le_of_ble_eq_true rfl, Nat.le_of_ble_eq_true rfl⟩) (by decide : (0 : Nat) < 27) (cm_obj G (S.1 0) (S.2 0)) rfl rfl rfl rfl (Nat.le_of_ble_eq_true rfl) dX9_copy_94 ?_
                exact ret_wi hF (hR _ _ dX9_copy_97)
          · replace hF := it_f hc39 hF
            refine go_aload_n O dX9_copy_45 rfl 0 rfl ?_
            refine go_iconst (v := (1 : Int32)) O dX9_copy_46 (by decide) ?_
            obtain ⟨⟨x37, S38⟩, hA36, hF⟩ := bd_s hF
            refine go_callVi (As := [.int (1 : Int32)]) (rest := []) (b := 0) O (c_X9_find l G hI hA36) (fun s args hts => cwV 1 hts gX9_copy_X9_find rfl rfl rfl (by decide +kernel) ⟨Nat.le_of_ble_eq_true rfl, Nat.le_of_ble_eq_true rfl⟩) (by decide : (0 : Nat) < 27) (cm_obj G (S.1 0) (S.2 0)) rfl rfl rfl rfl (Nat.le_of_ble_eq_true rfl) dX9_copy_47 ?_
            exact ret_wi hF (hR _ _ dX9_copy_50)
      · replace hF := it_f hc44 hF
        refine go_aload_n O dX9_copy_21 rfl 0 rfl ?_
        refine go_iconst (v := (5 : Int32)) O dX9_copy_22 (by decide) ?_
        obtain ⟨⟨x42, S43⟩, hA41, hF⟩ := bd_s hF
        refine go_callVi (As := [.int (5 : Int32)]) (rest := []) (b := 0) O (c_X9_find l G hI hA41) (fun s args hts => cwV 1 hts gX9_copy_X9_find rfl rfl rfl (by decide +kernel) ⟨Nat.le_of_ble_eq_true rfl, Nat.le_of_ble_eq_true rfl⟩) (by decide : (0 : Nat) < 27) (cm_obj G (S.1 0) (S.2 0)) rfl rfl rfl rfl (Nat.le_of_ble_eq_true rfl) dX9_copy_23 ?_
        exact ret_wi hF (hR _ _ dX9_copy_26)
    · replace hF := it_t hc45 hF
      refine go_iconst (v := (-1 : Int32)) O dX9_copy_14 (by decide) ?_
      exact ret_wi hF (hR _ _ dX9_copy_15)
-- X9_mean
def rm_X9_mean : Room := { frames := 2, cells := 0, slots := 0, locals := 45 }
theorem fl_X9_mean_7 : Cond.fieldLink RX9 7 "PaperWallsModel" "rowSizes" "[I" ∈ wsX9_mean := by decide +kernel
theorem fl_X9_mean_13 : Cond.fieldLink RX9 13 "PaperWallsModel" "rows" "[I" ∈ wsX9_mean := by decide +kernel
theorem in_X9_mean_X9 : ∀ x ∈ u_ws RX9 TX9 36, x ∈ wsX9_mean := by decide +kernel
def T_X9_mean_44  (S : Sg) (p1 : Int32) : Nat → Int64 → Int32 → Option (Int64)
  | 0, _, _ => none
  | n + 1, p2, p4 => chk (inB p1 6) (if (S.1 1 p1.toNatClampNeg) ≤ p4 then (some p2) else (chk (inB (((40 : Int32) * p1) + p4) 240) (nm (p2 + (Int32.toInt64 (S.1 2 (((40 : Int32) * p1) + p4).toNatClampNeg))) (fun x8 => T_X9_mean_44 S p1 n x8 (p4 + (1 : Int32))))))
set_option maxHeartbeats 4000000 in
set_option maxRecDepth 100000 in
theorem lt_X9_mean_44 {X : XT} (l : Launch) (G : Gp) (hI : Ij (wM G))  {S : Sg} {p1 : Int32} (O : Ok X (wM G) cX9_mean RX9 wsX9_mean 5) : ∀ (n : Nat) (p2 : Int64) (p4 : Int32)  (q : (Int64)), T_X9_mean_44 S p1 n p2 p4  = some q → (Go X l rm_X9_mean (wM G) 5 77 [(0, .ref (G.2.1 0)), (1, .int p1), (2, .long q)] [] S) → Go X l rm_X9_mean (wM G) 5 44 [(0, .ref (G.2.1 0)), (1, .int p1), (2, .long p2), (4, .int p4)] [] S := by
  intro n
  induction n with
  | zero =>
    intro p2 p4  q hF
    cases hF
  | succ n ih =>
    intro p2 p4  q hF hE
    rw [T_X9_mean_44] at hF
    refine go_iload O dX9_mean_44 3 rfl ?_
    refine go_aload_n O dX9_mean_46 rfl 0 rfl ?_
    refine go_get (k := 0) (j := 0) O (by decide : (0 : Nat) < 27) (cm_obj G (S.1 0) (S.2 0)) rfl in_X9_mean_X9 (by decide) fl_X9_mean_7 rfl rfl dX9_mean_47 ?_
    refine go_iload_n O dX9_mean_50 rfl 1 rfl ?_
    obtain ⟨hb6, hF⟩ := chk_s hF
    refine go_iald (k := 1) O (by decide : (1 : Nat) < 27) (cm_1 G (S.1 1) (S.2 1)) (inB_in hb6) dX9_mean_51 ?_
    refine go_icmp_ge (tgt := 77) O dX9_mean_52 (by decide) (fun hc9 => ?_) (fun hc9 => ?_)
    · replace hF := it_t hc9 hF
      refine go_perm (ls' := [(0, .ref (G.2.1 0)), (1, .int p1), (2, .long p2)]) [0, 1, 2] rfl ?_
      exact jn (P := fun q => Go X l rm_X9_mean (wM G) 5 77 [(0, .ref (G.2.1 0)), (1, .int p1), (2, .long q)] [] S) hF hE
    · replace hF := it_f hc9 hF
      refine go_lload_n O dX9_mean_55 rfl 2 rfl ?_
      refine go_aload_n O dX9_mean_56 rfl 0 rfl ?_
      refine go_get (k := 0) (j := 1) O (by decide : (0 : Nat) < 27) (cm_obj G (S.1 0) (S.2 0)) rfl in_X9_mean_X9 (by decide) fl_X9_mean_13 rfl rfl dX9_mean_57 ?_
      refine go_bipush (v := (40 : Int32)) O dX9_mean_60 (by decide) ?_
      refine go_iload_n O dX9_mean_62 rfl 1 rfl ?_
      refine go_imul O dX9_mean_63 ?_
      refine go_iload O dX9_mean_64 3 rfl ?_
      refine go_iadd O dX9_mean_66 ?_
      obtain ⟨hb7, hF⟩ := chk_s hF
      refine go_iald (k := 2) O (by decide : (2 : Nat) < 27) (cm_2 G (S.1 2) (S.2 2)) (inB_in hb7) dX9_mean_67 ?_
      refine go_i2l (v := Int32.toInt64 (S.1 2 (((40 : Int32) * p1) + p4).toNatClampNeg)) O dX9_mean_68 rfl ?_
      refine go_ladd O dX9_mean_69 ?_
      obtain ⟨x8, ex8, hF⟩ := nm_s hF
      refine go_topl ex8 ?_
      refine go_lstore_n (ls' := [(2, .long x8), (0, .ref (G.2.1 0)), (1, .int p1), (4, .int p4)]) O dX9_mean_70 rfl (by decide) rfl ?_
      refine go_iinc (d := (1 : Int32)) (ls' := [(4, .int (p4 + (1 : Int32))), (2, .long x8), (0, .ref (G.2.1 0)), (1, .int p1)]) O dX9_mean_71 3 rfl (by decide) (by decide) rfl ?_
      refine go_goto (tgt := 44) O dX9_mean_74 (by decide) ?_
      refine go_perm (ls' := [(0, .ref (G.2.1 0)), (1, .int p1), (2, .long x8), (4, .int (p4 + (1 : Int32)))]) [2, 3, 1, 0] rfl ?_
      exact ih _ _ _ hF hE
def F_X9_mean  (S : Sg) (a1 : Int32) : Option (Int32 × Sg) := bd (F_X9_isRow S a1) (fun x2 => if x2 = 0 then (some ((-1 : Int32), S)) else (chk (inB a1 6) (if 0 ≤ (S.1 1 a1.toNatClampNeg) then (chk (inB a1 6) (if (S.1 1 a1.toNatClampNeg) = 0 then (bd (F_X9_find S (4 : Int32)) (fun (x17, S18) => some (x17, S18))) else (bd (T_X9_mean_44 S a1 FU (0 : Int64) (0 : Int32)) (fun x5 => chk (inB a1 6) (chk (nzJ (Int32.toInt64 (S.1 1 a1.toNatClampNeg))) (bd (F_X9_say S (1 : Int32) (Int64.toInt32 (x5 / (Int32.toInt64 (S.1 1 a1.toNatClampNeg))))) (fun (x14, S15) => some (x14, S15)))))))) else (bd (F_X9_find S (1 : Int32)) (fun (x21, S22) => some (x21, S22))))))
set_option maxHeartbeats 4000000 in
set_option maxRecDepth 100000 in
theorem c_X9_mean (l : Launch) (G : Gp) (hI : Ij (wM G))  {S : Sg} {a1 : Int32} {r : Int32} {S1 : Sg} (hF : F_X9_mean S a1 = some (r, S1)) : Met l yX9_mean wsX9_mean rm_X9_mean (va_Pc [.ref (G.2.1 0), .int a1] (PreW (wM G) S)) (va_Qi (fun r' u => r' = r ∧ u = S1) (PostW (wM G)) (AW (wM G))) 0 0 (AW (wM G)) := by
  rw [F_X9_mean] at hF
  refine met_i (cc := cX9_mean) (maxL := 5) (own := RX9) hI (by decide) rfl rfl (Nat.le_of_ble_eq_true rfl) (fun X O hR => ?_)
  show Go X l rm_X9_mean (wM G) 5 0 [(0, .ref (G.2.1 0)), (1, .int a1)] [] S
  refine go_iload_n O dX9_mean_0 rfl 1 rfl ?_
  obtain ⟨x2, hA1, hF⟩ := bd_s hF
  refine go_callSi (As := [.int a1]) (rest := []) O (c_X9_isRow l G hI hA1) (fun s args hts => va_cwS 1 hts gX9_mean_X9_isRow rfl rfl rfl (by decide +kernel) ⟨Nat.le_of_ble_eq_true rfl, Nat.le_of_ble_eq_true rfl⟩) rfl rfl (Nat.le_of_ble_eq_true rfl) dX9_mean_1 ?_
  refine go_if_ne (tgt := 9) O dX9_mean_4 (by decide) (fun hc24 => ?_) (fun hc24 => ?_)
  · replace hF := it_f hc24 hF
    refine go_aload_n O dX9_mean_9 rfl 0 rfl ?_
    refine go_get (k := 0) (j := 0) O (by decide : (0 : Nat) < 27) (cm_obj G (S.1 0) (S.2 0)) rfl in_X9_mean_X9 (by decide) fl_X9_mean_7 rfl rfl dX9_mean_10 ?_
    refine go_iload_n O dX9_mean_13 rfl 1 rfl ?_
    obtain ⟨hb3, hF⟩ := chk_s hF
    refine go_iald (k := 1) O (by decide : (1 : Nat) < 27) (cm_1 G (S.1 1) (S.2 1)) (inB_in hb3) dX9_mean_14 ?_
    refine go_if_ge (tgt := 24) O dX9_mean_15 (by decide) (fun hc23 => ?_) (fun hc23 => ?_)
    · replace hF := it_t hc23 hF
      refine go_aload_n O dX9_mean_24 rfl 0 rfl ?_
      refine go_get (k := 0) (j := 0) O (by decide : (0 : Nat) < 27) (cm_obj G (S.1 0) (S.2 0)) rfl in_X9_mean_X9 (by decide) fl_X9_mean_7 rfl rfl dX9_mean_25 ?_
      refine go_iload_n O dX9_mean_28 rfl 1 rfl ?_
      obtain ⟨hb4, hF⟩ := chk_s hF
      refine go_iald (k := 1) O (by decide : (1 : Nat) < 27) (cm_1 G (S.1 1) (S.2 1)) (inB_in hb4) dX9_mean_29 ?_
      refine go_if_ne (tgt := 39) O dX9_mean_30 (by decide) (fun hc19 => ?_) (fun hc19 => ?_)
      · replace hF := it_f hc19 hF
        refine go_lconst (v := (0 : Int64)) O dX9_mean_39 (by decide) ?_
        refine go_lstore_n (ls' := [(2, .long (0 : Int64)), (0, .ref (G.2.1 0)), (1, .int a1)]) O dX9_mean_40 rfl (by decide) rfl ?_
        refine go_iconst (v := (0 : Int32)) O dX9_mean_41 (by decide) ?_
        refine go_istore (ls' := [(4, .int (0 : Int32)), (2, .long (0 : Int64)), (0, .ref (G.2.1 0)), (1, .int a1)]) O dX9_mean_42 (by decide) rfl ?_
        refine go_perm (ls' := [(0, .ref (G.2.1 0)), (1, .int a1), (2, .long (0 : Int64)), (4, .int (0 : Int32))]) [2, 3, 1, 0] rfl ?_
        obtain ⟨x5, hA10, hF⟩ := bd_s hF
        refine lt_X9_mean_44 l G hI  O _ _ _ _ hA10 ?_
        refine go_aload_n O dX9_mean_77 rfl 0 rfl ?_
        refine go_iconst (v := (1 : Int32)) O dX9_mean_78 (by decide) ?_
        refine go_lload_n O dX9_mean_79 rfl 2 rfl ?_
        refine go_aload_n O dX9_mean_80 rfl 0 rfl ?_
        refine go_get (k := 0) (j := 0) O (by decide : (0 : Nat) < 27) (cm_obj G (S.1 0) (S.2 0)) rfl in_X9_mean_X9 (by decide) fl_X9_mean_7 rfl rfl dX9_mean_81 ?_
        refine go_iload_n O dX9_mean_84 rfl 1 rfl ?_
        obtain ⟨hb11, hF⟩ := chk_s hF
        refine go_iald (k := 1) O (by decide : (1 : Nat) < 27) (cm_1 G (S.1 1) (S.2 1)) (inB_in hb11) dX9_mean_85 ?_
        refine go_i2l (v := Int32.toInt64 (S.1 1 a1.toNatClampNeg)) O dX9_mean_86 rfl ?_
        obtain ⟨hz12, hF⟩ := chk_s hF
        refine go_ldiv O dX9_mean_87 (nzJ_s hz12) ?_
        refine go_l2i (v := Int64.toInt32 (x5 / (Int32.toInt64 (S.1 1 a1.toNatClampNeg)))) O dX9_mean_88 rfl ?_
        obtain ⟨⟨x14, S15⟩, hA13, hF⟩ := bd_s hF
        refine go_callVi (As := [.int (1 : Int32), .int (Int64.toInt32 (x5 / (Int32.toInt64 (S.1 1 a1.toNatClampNeg))))]) (rest := []) (b := 0) O (c_X9_say l G hI hA13) (fun s args hts => cwV 2 hts gX9_mean_X9_say rfl rfl rfl (by decide +kernel) ⟨Nat.le_of_ble_eq_true rfl, Nat.le_of_ble_eq_true rfl⟩) (by decide : (0 : Nat) < 27) (cm_obj G (S.1 0) (S.2 0)) rfl rfl rfl rfl (Nat.le_of_ble_eq_true rfl) dX9_mean_89 ?_
        exact ret_wi hF (hR _ _ dX9_mean_92)
      · replace hF := it_t hc19 hF
        refine go_aload_n O dX9_mean_33 rfl 0 rfl ?_
        refine go_iconst (v := (4 : Int32)) O dX9_mean_34 (by decide) ?_
        obtain ⟨⟨x17, S18⟩, hA16, hF⟩ := bd_s hF
        refine go_callVi (As := [.int (4 : Int32)]) (rest := []) (b := 0) O (c_X9_find l G hI hA16) (fun s args hts => cwV 1 hts gX9_mean_X9_find rfl rfl rfl (by decide +kernel) ⟨Nat.le_of_ble_eq_true rfl, Nat.le_of_ble_eq_true rfl⟩) (by decide : (0 : Nat) < 27) (cm_obj G (S.1 0) (S.2 0)) rfl rfl rfl rfl (Nat.le_of_ble_eq_true rfl) dX9_mean_35 ?_
        exact ret_wi hF (hR _ _ dX9_mean_38)
    · replace hF := it_f hc23 hF
      refine go_aload_n O dX9_mean_18 rfl 0 rfl ?_
      refine go_iconst (v := (1 : Int32)) O dX9_mean_19 (by decide) ?_
      obtain ⟨⟨x21, S22⟩, hA20, hF⟩ := bd_s hF
      refine go_callVi (As := [.int (1 : Int32)]) (rest := []) (b := 0) O (c_X9_find l G hI hA20) (fun s args hts => cwV 1 hts gX9_mean_X9_find rfl rfl rfl (by decide +kernel) ⟨Nat.le_of_ble_eq_true rfl, Nat.le_of_ble_eq_true rfl⟩) (by decide : (0 : Nat) < 27) (cm_obj G (S.1 0) (S.2 0)) rfl rfl rfl rfl (Nat.le_of_ble_eq_true rfl) dX9_mean_20 ?_
      exact ret_wi hF (hR _ _ dX9_mean_23)
  · replace hF := it_t hc24 hF
    refine go_iconst (v := (-1 : Int32)) O dX9_mean_7 (by decide) ?_
    exact ret_wi hF (hR _ _ dX9_mean_8)
-- X9_text
def rm_X9_text : Room := { frames := 2, cells := 0, slots := 0, locals := 45 }
theorem fl_X9_text_16 : Cond.fieldLink RX9 16 "PaperWallsModel" "textSizes" "[I" ∈ wsX9_text := by decide +kernel
theorem fl_X9_text_19 : Cond.fieldLink RX9 19 "PaperWallsModel" "texts" "[I" ∈ wsX9_text := by decide +kernel
theorem in_X9_text_X9 : ∀ x ∈ u_ws RX9 TX9 36, x ∈ wsX9_text := by decide +kernel
def T_X9_text_34   (p1 : Int32) (p2 : Int32) : Nat → Int32 → Sg → Option (Sg)
  | 0, _, _ => none
  | n + 1, p3, S => if (80 : Int32) ≤ p3 then (some S) else (chk (inB (((80 : Int32) * p1) + p3) 320) (nm (wI S 4 (((80 : Int32) * p1) + p3).toNatClampNeg (32 : Int32)) (fun S7 => T_X9_text_34 p1 p2 n (p3 + (1 : Int32)) S7)))
set_option maxHeartbeats 4000000 in
set_option maxRecDepth 100000 in
theorem lt_X9_text_34 {X : XT} (l : Launch) (G : Gp) (hI : Ij (wM G))   {p1 : Int32} {p2 : Int32} (O : Ok X (wM G) cX9_text RX9 wsX9_text 4) : ∀ (n : Nat) (p3 : Int32) (S : Sg) (q : (Sg)), T_X9_text_34 p1 p2 n p3 S = some q → (Go X l rm_X9_text (wM G) 4 59 [(2, .int p2)] [] q) → Go X l rm_X9_text (wM G) 4 34 [(0, .ref (G.2.1 0)), (1, .int p1), (2, .int p2), (3, .int p3)] [] S := by
  intro n
  induction n with
  | zero =>
    intro p3 S q hF
    cases hF
  | succ n ih =>
    intro p3 S q hF hE
    rw [T_X9_text_34] at hF
    refine go_iload_n O dX9_text_34 rfl 3 rfl ?_
    refine go_bipush (v := (80 : Int32)) O dX9_text_35 (by decide) ?_
    refine go_icmp_ge (tgt := 59) O dX9_text_37 (by decide) (fun hc8 => ?_) (fun hc8 => ?_)
    · replace hF := it_t hc8 hF
      refine go_perm (ls' := [(2, .int p2)]) [2] rfl ?_
      exact jn (P := fun q => Go X l rm_X9_text (wM G) 4 59 [(2, .int p2)] [] q) hF hE
    · replace hF := it_f hc8 hF
      refine go_aload_n O dX9_text_40 rfl 0 rfl ?_
      refine go_get (k := 0) (j := 3) O (by decide : (0 : Nat) < 27) (cm_obj G (S.1 0) (S.2 0)) rfl in_X9_text_X9 (by decide) fl_X9_text_19 rfl rfl dX9_text_41 ?_
      refine go_bipush (v := (80 : Int32)) O dX9_text_44 (by decide) ?_
      refine go_iload_n O dX9_text_46 rfl 1 rfl ?_
      refine go_imul O dX9_text_47 ?_
      refine go_iload_n O dX9_text_48 rfl 3 rfl ?_
      refine go_iadd O dX9_text_49 ?_
      refine go_bipush (v := (32 : Int32)) O dX9_text_50 (by decide) ?_
      obtain ⟨hb6, hF⟩ := chk_s hF
      obtain ⟨S7, eS7, hF⟩ := nm_s hF
      refine go_iast (k := 4) O (by decide : (4 : Nat) < 27) (fun f => (cm_4 G f (S.2 4))) (inB_in hb6) dX9_text_52 eS7 ?_
      refine go_iinc (d := (1 : Int32)) (ls' := [(3, .int (p3 + (1 : Int32))), (0, .ref (G.2.1 0)), (1, .int p1), (2, .int p2)]) O dX9_text_53 3 rfl (by decide) (by decide) rfl ?_
      refine go_goto (tgt := 34) O dX9_text_56 (by decide) ?_
      refine go_perm (ls' := [(0, .ref (G.2.1 0)), (1, .int p1), (2, .int p2), (3, .int (p3 + (1 : Int32)))]) [1, 2, 3, 0] rfl ?_
      exact ih _ _ _ hF hE
def F_X9_text  (S : Sg) (a1 : Int32) (a2 : Int32) : Option (Int32 × Sg) := bd (F_X9_isText S a1) (fun x2 => if x2 = 0 then (some ((-1 : Int32), S)) else (if a2 ≤ (80 : Int32) then (if 0 ≤ a2 then (chk (inB a1 4) (nm (wI S 3 a1.toNatClampNeg a2) (fun S4 => bd (T_X9_text_34 a1 a2 FU (0 : Int32) S4) (fun S5 => some (a2, S5))))) else (bd (F_X9_find S (5 : Int32)) (fun (x11, S12) => some (x11, S12)))) else (some ((-1 : Int32), S))))
set_option maxHeartbeats 4000000 in
set_option maxRecDepth 100000 in
theorem c_X9_text (l : Launch) (G : Gp) (hI : Ij (wM G))  {S : Sg} {a1 : Int32} {a2 : Int32} {r : Int32} {S1 : Sg} (hF : F_X9_text S a1 a2 = some (r, S1)) : Met l yX9_text wsX9_text rm_X9_text (va_Pc [.ref (G.2.1 0), .int a1, .int a2] (PreW (wM G) S)) (va_Qi (fun r' u => r' = r ∧ u = S1) (PostW (wM G)) (AW (wM G))) 0 0 (AW (wM G)) := by
  rw [F_X9_text] at hF
  refine met_i (cc := cX9_text) (maxL := 4) (own := RX9) hI (by decide) rfl rfl (Nat.le_of_ble_eq_true rfl) (fun X O hR => ?_)
  show Go X l rm_X9_text (wM G) 4 0 [(0, .ref (G.2.1 0)), (1, .int a1), (2, .int a2)] [] S
  refine go_iload_n O dX9_text_0 rfl 1 rfl ?_
  obtain ⟨x2, hA1, hF⟩ := bd_s hF
  refine go_callSi (As := [.int a1]) (rest := []) O (c_X9_isText l G hI hA1) (fun s args hts => va_cwS 1 hts gX9_text_X9_isText rfl rfl rfl (by decide +kernel) ⟨Nat.le_of_ble_eq_true rfl, Nat.le_of_ble_eq_true rfl⟩) rfl rfl (Nat.le_of_ble_eq_true rfl) dX9_text_1 ?_
  refine go_if_eq (tgt := 13) O dX9_text_4 (by decide) (fun hc15 => ?_) (fun hc15 => ?_)
  · replace hF := it_t hc15 hF
    refine go_iconst (v := (-1 : Int32)) O dX9_text_13 (by decide) ?_
    exact ret_wi hF (hR _ _ dX9_text_14)
  · replace hF := it_f hc15 hF
    refine go_iload_n O dX9_text_7 rfl 2 rfl ?_
    refine go_bipush (v := (80 : Int32)) O dX9_text_8 (by decide) ?_
    refine go_icmp_le (tgt := 15) O dX9_text_10 (by decide) (fun hc14 => ?_) (fun hc14 => ?_)
    · replace hF := it_t hc14 hF
      refine go_iload_n O dX9_text_15 rfl 2 rfl ?_
      refine go_if_ge (tgt := 25) O dX9_text_16 (by decide) (fun hc13 => ?_) (fun hc13 => ?_)
      · replace hF := it_t hc13 hF
        refine go_aload_n O dX9_text_25 rfl 0 rfl ?_
        refine go_get (k := 0) (j := 2) O (by decide : (0 : Nat) < 27) (cm_obj G (S.1 0) (S.2 0)) rfl in_X9_text_X9 (by decide) fl_X9_text_16 rfl rfl dX9_text_26 ?_
        refine go_iload_n O dX9_text_29 rfl 1 rfl ?_
        refine go_iload_n O dX9_text_30 rfl 2 rfl ?_
        obtain ⟨hb3, hF⟩ := chk_s hF
        obtain ⟨S4, eS4, hF⟩ := nm_s hF
        refine go_iast (k := 3) O (by decide : (3 : Nat) < 27) (fun f => (cm_3 G f (S.2 3))) (inB_in hb3) dX9_text_31 eS4 ?_
        refine go_iconst (v := (0 : Int32)) O dX9_text_32 (by decide) ?_
        refine go_istore_n (ls' := [(3, .int (0 : Int32)), (0, .ref (G.2.1 0)), (1, .int a1), (2, .int a2)]) O dX9_text_33 rfl (by decide) rfl ?_
        refine go_perm (ls' := [(0, .ref (G.2.1 0)), (1, .int a1), (2, .int a2), (3, .int (0 : Int32))]) [1, 2, 3, 0] rfl ?_
        obtain ⟨S5, hA9, hF⟩ := bd_s hF
        refine lt_X9_text_34 l G hI  O _ _ _ _ hA9 ?_
        refine go_iload_n O dX9_text_59 rfl 0 rfl ?_
        exact ret_wi hF (hR _ _ dX9_text_60)
      · replace hF := it_f hc13 hF
        refine go_aload_n O dX9_text_19 rfl 0 rfl ?_
        refine go_iconst (v := (5 : Int32)) O dX9_text_20 (by decide) ?_
        obtain ⟨⟨x11, S12⟩, hA10, hF⟩ := bd_s hF
        refine go_callVi (As := [.int (5 : Int32)]) (rest := []) (b := 0) O (c_X9_find l G hI hA10) (fun s args hts => cwV 1 hts gX9_text_X9_find rfl rfl rfl (by decide +kernel) ⟨Nat.le_of_ble_eq_true rfl, Nat.le_of_ble_eq_true rfl⟩) (by decide : (0 : Nat) < 27) (cm_obj G (S.1 0) (S.2 0)) rfl rfl rfl rfl (Nat.le_of_ble_eq_true rfl) dX9_text_21 ?_
        exact ret_wi hF (hR _ _ dX9_text_24)
    · replace hF := it_f hc14 hF
      refine go_iconst (v := (-1 : Int32)) O dX9_text_13 (by decide) ?_
      exact ret_wi hF (hR _ _ dX9_text_14)
-- X9_put
def rm_X9_put : Room := { frames := 2, cells := 0, slots := 0, locals := 45 }
theorem fl_X9_put_16 : Cond.fieldLink RX9 16 "PaperWallsModel" "textSizes" "[I" ∈ wsX9_put := by decide +kernel
theorem fl_X9_put_19 : Cond.fieldLink RX9 19 "PaperWallsModel" "texts" "[I" ∈ wsX9_put := by decide +kernel
theorem in_X9_put_X9 : ∀ x ∈ u_ws RX9 TX9 36, x ∈ wsX9_put := by decide +kernel
def F_X9_put  (S : Sg) (a1 : Int32) (a2 : Int32) (a3 : Int32) : Option (Int32 × Sg) := bd (F_X9_isText S a1) (fun x2 => if x2 = 0 then (some ((-1 : Int32), S)) else (chk (inB a1 4) (if 0 ≤ (S.1 3 a1.toNatClampNeg) then (chk (inB a1 4) (bd (F_X9_in S (Int32.toInt64 a2) (0 : Int64) (Int32.toInt64 ((S.1 3 a1.toNatClampNeg) - (1 : Int32)))) (fun x6 => if x6 = 0 then (bd (F_X9_find S (2 : Int32)) (fun (x12, S13) => some (x12, S13))) else (chk (inB (((80 : Int32) * a1) + a2) 320) (nm (S.1 4 (((80 : Int32) * a1) + a2).toNatClampNeg) (fun x8 => chk (inB (((80 : Int32) * a1) + a2) 320) (nm (wI S 4 (((80 : Int32) * a1) + a2).toNatClampNeg ((a3 <<< ((24 : Int32) &&& 31)) >>> ((24 : Int32) &&& 31))) (fun S10 => some (x8 + (1000 : Int32), S10))))))))) else (bd (F_X9_find S (1 : Int32)) (fun (x16, S17) => some (x16, S17))))))
set_option maxHeartbeats 4000000 in
set_option maxRecDepth 100000 in
theorem c_X9_put (l : Launch) (G : Gp) (hI : Ij (wM G))  {S : Sg} {a1 : Int32} {a2 : Int32} {a3 : Int32} {r : Int32} {S1 : Sg} (hF : F_X9_put S a1 a2 a3 = some (r, S1)) : Met l yX9_put wsX9_put rm_X9_put (va_Pc [.ref (G.2.1 0), .int a1, .int a2, .int a3] (PreW (wM G) S)) (va_Qi (fun r' u => r' = r ∧ u = S1) (PostW (wM G)) (AW (wM G))) 0 0 (AW (wM G)) := by
  rw [F_X9_put] at hF
  refine met_i (cc := cX9_put) (maxL := 5) (own := RX9) hI (by decide) rfl rfl (Nat.le_of_ble_eq_true rfl) (fun X O hR => ?_)
  show Go X l rm_X9_put (wM G) 5 0 [(0, .ref (G.2.1 0)), (1, .int a1), (2, .int a2), (3, .int a3)] [] S
  refine go_iload_n O dX9_put_0 rfl 1 rfl ?_
  obtain ⟨x2, hA1, hF⟩ := bd_s hF
  refine go_callSi (As := [.int a1]) (rest := []) O (c_X9_isText l G hI hA1) (fun s args hts => va_cwS 1 hts gX9_put_X9_isText rfl rfl rfl (by decide +kernel) ⟨Nat.le_of_ble_eq_true rfl, Nat.le_of_ble_eq_true rfl⟩) rfl rfl (Nat.le_of_ble_eq_true rfl) dX9_put_1 ?_
  refine go_if_ne (tgt := 9) O dX9_put_4 (by decide) (fun hc19 => ?_) (fun hc19 => ?_)
  · replace hF := it_f hc19 hF
    refine go_aload_n O dX9_put_9 rfl 0 rfl ?_
    refine go_get (k := 0) (j := 2) O (by decide : (0 : Nat) < 27) (cm_obj G (S.1 0) (S.2 0)) rfl in_X9_put_X9 (by decide) fl_X9_put_16 rfl rfl dX9_put_10 ?_
    refine go_iload_n O dX9_put_13 rfl 1 rfl ?_
    obtain ⟨hb3, hF⟩ := chk_s hF
    refine go_iald (k := 3) O (by decide : (3 : Nat) < 27) (cm_3 G (S.1 3) (S.2 3)) (inB_in hb3) dX9_put_14 ?_
    refine go_if_ge (tgt := 24) O dX9_put_15 (by decide) (fun hc18 => ?_) (fun hc18 => ?_)
    · replace hF := it_t hc18 hF
      refine go_iload_n O dX9_put_24 rfl 2 rfl ?_
      refine go_i2l (v := Int32.toInt64 a2) O dX9_put_25 rfl ?_
      refine go_lconst (v := (0 : Int64)) O dX9_put_26 (by decide) ?_
      refine go_aload_n O dX9_put_27 rfl 0 rfl ?_
      refine go_get (k := 0) (j := 2) O (by decide : (0 : Nat) < 27) (cm_obj G (S.1 0) (S.2 0)) rfl in_X9_put_X9 (by decide) fl_X9_put_16 rfl rfl dX9_put_28 ?_
      refine go_iload_n O dX9_put_31 rfl 1 rfl ?_
      obtain ⟨hb4, hF⟩ := chk_s hF
      refine go_iald (k := 3) O (by decide : (3 : Nat) < 27) (cm_3 G (S.1 3) (S.2 3)) (inB_in hb4) dX9_put_32 ?_
      refine go_iconst (v := (1 : Int32)) O dX9_put_33 (by decide) ?_
      refine go_isub O dX9_put_34 ?_
      refine go_i2l (v := Int32.toInt64 ((S.1 3 a1.toNatClampNeg) - (1 : Int32))) O dX9_put_35 rfl ?_
      obtain ⟨x6, hA5, hF⟩ := bd_s hF
      refine go_callSi (As := [.long (Int32.toInt64 a2), .long (0 : Int64), .long (Int32.toInt64 ((S.1 3 a1.toNatClampNeg) - (1 : Int32)))]) (rest := []) O (c_X9_in l G hI hA5) (fun s args hts => va_cwS 3 hts gX9_put_X9_in rfl rfl rfl (by decide +kernel) ⟨Nat.le_of_ble_eq_true rfl, Nat.le_of_ble_eq_true rfl⟩) rfl rfl (Nat.le_of_ble_eq_true rfl) dX9_put_36 ?_
      refine go_if_ne (tgt := 48) O dX9_put_39 (by decide) (fun hc14 => ?_) (fun hc14 => ?_)
      · replace hF := it_f hc14 hF
        refine go_aload_n O dX9_put_48 rfl 0 rfl ?_
        refine go_get (k := 0) (j := 3) O (by decide : (0 : Nat) < 27) (cm_obj G (S.1 0) (S.2 0)) rfl in_X9_put_X9 (by decide) fl_X9_put_19 rfl rfl dX9_put_49 ?_
        refine go_bipush (v := (80 : Int32)) O dX9_put_52 (by decide) ?_
        refine go_iload_n O dX9_put_54 rfl 1 rfl ?_
        refine go_imul O dX9_put_55 ?_
        refine go_iload_n O dX9_put_56 rfl 2 rfl ?_
        refine go_iadd O dX9_put_57 ?_
        obtain ⟨hb7, hF⟩ := chk_s hF
        refine go_iald (k := 4) O (by decide : (4 : Nat) < 27) (cm_4 G (S.1 4) (S.2 4)) (inB_in hb7) dX9_put_58 ?_
        obtain ⟨x8, ex8, hF⟩ := nm_s hF
        refine go_topi ex8 ?_
        refine go_istore (ls' := [(4, .int x8), (0, .ref (G.2.1 0)), (1, .int a1), (2, .int a2), (3, .int a3)]) O dX9_put_59 (by decide) rfl ?_
        refine go_aload_n O dX9_put_61 rfl 1 rfl ?_
        refine go_get (k := 0) (j := 3) O (by decide : (0 : Nat) < 27) (cm_obj G (S.1 0) (S.2 0)) rfl in_X9_put_X9 (by decide) fl_X9_put_19 rfl rfl dX9_put_62 ?_
        refine go_bipush (v := (80 : Int32)) O dX9_put_65 (by decide) ?_
        refine go_iload_n O dX9_put_67 rfl 2 rfl ?_
        refine go_imul O dX9_put_68 ?_
        refine go_iload_n O dX9_put_69 rfl 3 rfl ?_
        refine go_iadd O dX9_put_70 ?_
        refine go_iload_n O dX9_put_71 rfl 4 rfl ?_
        refine go_bipush (v := (24 : Int32)) O dX9_put_72 (by decide) ?_
        refine go_ishl O dX9_put_74 ?_
        refine go_bipush (v := (24 : Int32)) O dX9_put_75 (by decide) ?_
        refine go_ishr O dX9_put_77 ?_
        obtain ⟨hb9, hF⟩ := chk_s hF
        obtain ⟨S10, eS10, hF⟩ := nm_s hF
        refine go_iast (k := 4) O (by decide : (4 : Nat) < 27) (fun f => (cm_4 G f (S.2 4))) (inB_in hb9) dX9_put_78 eS10 ?_
        refine go_iload O dX9_put_79 0 rfl ?_
        refine go_sipush (v := (1000 : Int32)) O dX9_put_81 (by decide) ?_
        refine go_iadd O dX9_put_84 ?_
        exact ret_wi hF (hR _ _ dX9_put_85)
      · replace hF := it_t hc14 hF
        refine go_aload_n O dX9_put_42 rfl 0 rfl ?_
        refine go_iconst (v := (2 : Int32)) O dX9_put_43 (by decide) ?_
        obtain ⟨⟨x12, S13⟩, hA11, hF⟩ := bd_s hF
        refine go_callVi (As := [.int (2 : Int32)]) (rest := []) (b := 0) O (c_X9_find l G hI hA11) (fun s args hts => cwV 1 hts gX9_put_X9_find rfl rfl rfl (by decide +kernel) ⟨Nat.le_of_ble_eq_true rfl, Nat.le_of_ble_eq_true rfl⟩) (by decide : (0 : Nat) < 27) (cm_obj G (S.1 0) (S.2 0)) rfl rfl rfl rfl (Nat.le_of_ble_eq_true rfl) dX9_put_44 ?_
        exact ret_wi hF (hR _ _ dX9_put_47)
    · replace hF := it_f hc18 hF
      refine go_aload_n O dX9_put_18 rfl 0 rfl ?_
      refine go_iconst (v := (1 : Int32)) O dX9_put_19 (by decide) ?_
      obtain ⟨⟨x16, S17⟩, hA15, hF⟩ := bd_s hF
      refine go_callVi (As := [.int (1 : Int32)]) (rest := []) (b := 0) O (c_X9_find l G hI hA15) (fun s args hts => cwV 1 hts gX9_put_X9_find rfl rfl rfl (by decide +kernel) ⟨Nat.le_of_ble_eq_true rfl, Nat.le_of_ble_eq_true rfl⟩) (by decide : (0 : Nat) < 27) (cm_obj G (S.1 0) (S.2 0)) rfl rfl rfl rfl (Nat.le_of_ble_eq_true rfl) dX9_put_20 ?_
      exact ret_wi hF (hR _ _ dX9_put_23)
  · replace hF := it_t hc19 hF
    refine go_iconst (v := (-1 : Int32)) O dX9_put_7 (by decide) ?_
    exact ret_wi hF (hR _ _ dX9_put_8)
-- X9_nextByte
def rm_X9_nextByte : Room := { frames := 0, cells := 0, slots := 0, locals := 0 }
theorem fl_X9_nextByte_16 : Cond.fieldLink RX9 16 "PaperWallsModel" "textSizes" "[I" ∈ wsX9_nextByte := by decide +kernel
theorem fl_X9_nextByte_19 : Cond.fieldLink RX9 19 "PaperWallsModel" "texts" "[I" ∈ wsX9_nextByte := by decide +kernel
theorem fl_X9_nextByte_122 : Cond.fieldLink RX9 122 "PaperWallsModel" "place" "I" ∈ wsX9_nextByte := by decide +kernel
theorem in_X9_nextByte_X9 : ∀ x ∈ u_ws RX9 TX9 36, x ∈ wsX9_nextByte := by decide +kernel
def T_X9_nextByte_0   (p1 : Int32) : Nat → Sg → Option (Sg)
  | 0, _ => none
  | n + 1, S => chk (inB p1 4) (if (S.1 3 p1.toNatClampNeg) ≤ (S.1 0 21) then (some S) else (chk (inB (((80 : Int32) * p1) + (S.1 0 21)) 320) (if (S.1 4 (((80 : Int32) * p1) + (S.1 0 21)).toNatClampNeg) = (32 : Int32) then (nm (wI S 0 21 ((S.1 0 21) + (1 : Int32))) (fun S4 => T_X9_nextByte_0 p1 n S4)) else (some S))))
set_option maxHeartbeats 4000000 in
set_option maxRecDepth 100000 in
theorem lt_X9_nextByte_0 {X : XT} (l : Launch) (G : Gp) (hI : Ij (wM G))   {p1 : Int32} (O : Ok X (wM G) cX9_nextByte RX9 wsX9_nextByte 2) : ∀ (n : Nat)  (S : Sg) (q : (Sg)), T_X9_nextByte_0 p1 n  S = some q → (Go X l rm_X9_nextByte (wM G) 2 45 [(0, .ref (G.2.1 0)), (1, .int p1)] [] q) → Go X l rm_X9_nextByte (wM G) 2 0 [(0, .ref (G.2.1 0)), (1, .int p1)] [] S := by
  intro n
  induction n with
  | zero =>
    intro  S q hF
    cases hF
  | succ n ih =>
    intro  S q hF hE
    rw [T_X9_nextByte_0] at hF
    refine go_aload_n O dX9_nextByte_0 rfl 0 rfl ?_
    refine go_get (k := 0) (j := 21) O (by decide : (0 : Nat) < 27) (cm_obj G (S.1 0) (S.2 0)) rfl in_X9_nextByte_X9 (by decide) fl_X9_nextByte_122 rfl rfl dX9_nextByte_1 ?_
    refine go_aload_n O dX9_nextByte_4 rfl 0 rfl ?_
    refine go_get (k := 0) (j := 2) O (by decide : (0 : Nat) < 27) (cm_obj G (S.1 0) (S.2 0)) rfl in_X9_nextByte_X9 (by decide) fl_X9_nextByte_16 rfl rfl dX9_nextByte_5 ?_
    refine go_iload_n O dX9_nextByte_8 rfl 1 rfl ?_
    obtain ⟨hb2, hF⟩ := chk_s hF
    refine go_iald (k := 3) O (by decide : (3 : Nat) < 27) (cm_3 G (S.1 3) (S.2 3)) (inB_in hb2) dX9_nextByte_9 ?_
    refine go_icmp_ge (tgt := 45) O dX9_nextByte_10 (by decide) (fun hc6 => ?_) (fun hc6 => ?_)
    · replace hF := it_t hc6 hF
      exact jn (P := fun q => Go X l rm_X9_nextByte (wM G) 2 45 [(0, .ref (G.2.1 0)), (1, .int p1)] [] q) hF hE
    · replace hF := it_f hc6 hF
      refine go_aload_n O dX9_nextByte_13 rfl 0 rfl ?_
      refine go_get (k := 0) (j := 3) O (by decide : (0 : Nat) < 27) (cm_obj G (S.1 0) (S.2 0)) rfl in_X9_nextByte_X9 (by decide) fl_X9_nextByte_19 rfl rfl dX9_nextByte_14 ?_
      refine go_bipush (v := (80 : Int32)) O dX9_nextByte_17 (by decide) ?_
      refine go_iload_n O dX9_nextByte_19 rfl 1 rfl ?_
      refine go_imul O dX9_nextByte_20 ?_
      refine go_aload_n O dX9_nextByte_21 rfl 0 rfl ?_
      refine go_get (k := 0) (j := 21) O (by decide : (0 : Nat) < 27) (cm_obj G (S.1 0) (S.2 0)) rfl in_X9_nextByte_X9 (by decide) fl_X9_nextByte_122 rfl rfl dX9_nextByte_22 ?_
      refine go_iadd O dX9_nextByte_25 ?_
      obtain ⟨hb3, hF⟩ := chk_s hF
      refine go_iald (k := 4) O (by decide : (4 : Nat) < 27) (cm_4 G (S.1 4) (S.2 4)) (inB_in hb3) dX9_nextByte_26 ?_
      refine go_bipush (v := (32 : Int32)) O dX9_nextByte_27 (by decide) ?_
      refine go_icmp_ne (tgt := 45) O dX9_nextByte_29 (by decide) (fun hc5 => ?_) (fun hc5 => ?_)
      · replace hF := it_f hc5 hF
        exact jn (P := fun q => Go X l rm_X9_nextByte (wM G) 2 45 [(0, .ref (G.2.1 0)), (1, .int p1)] [] q) hF hE
      · replace hF := it_t hc5 hF
        refine go_aload_n O dX9_nextByte_32 rfl 0 rfl ?_
        refine go_dup O dX9_nextByte_33 rfl ?_
        refine go_get (k := 0) (j := 21) O (by decide : (0 : Nat) < 27) (cm_obj G (S.1 0) (S.2 0)) rfl in_X9_nextByte_X9 (by decide) fl_X9_nextByte_122 rfl rfl dX9_nextByte_34 ?_
        refine go_iconst (v := (1 : Int32)) O dX9_nextByte_37 (by decide) ?_
        refine go_iadd O dX9_nextByte_38 ?_
        obtain ⟨S4, eS4, hF⟩ := nm_s hF
        refine go_putI (k := 0) (j := 21) O (by decide : (0 : Nat) < 27) (cm_obj G (S.1 0) (S.2 0)) rfl in_X9_nextByte_X9 (by decide) fl_X9_nextByte_122 rfl tyX9 tyX9_ok nmX9 rfl (by decide +kernel) (Nat.le_of_ble_eq_true rfl) (cm_obj G (upd (S.1 0) 21 ((S.1 0 21) + (1 : Int32))) (S.2 0)) dX9_nextByte_39 eS4 ?_
        refine go_goto (tgt := 0) O dX9_nextByte_42 (by decide) ?_
        exact ih _ _ hF hE
def F_X9_nextByte  (S : Sg) (a1 : Int32) : Option (Int32 × Sg) := bd (T_X9_nextByte_0 a1 FU S) (fun S1 => chk (inB a1 4) (if (S1.1 3 a1.toNatClampNeg) ≤ (S1.1 0 21) then (some ((-9 : Int32), S1)) else (chk (inB (((80 : Int32) * a1) + (S1.1 0 21)) 320) (some (S1.1 4 (((80 : Int32) * a1) + (S1.1 0 21)).toNatClampNeg, S1)))))
set_option maxHeartbeats 4000000 in
set_option maxRecDepth 100000 in
theorem c_X9_nextByte (l : Launch) (G : Gp) (hI : Ij (wM G))  {S : Sg} {a1 : Int32} {r : Int32} {S1 : Sg} (hF : F_X9_nextByte S a1 = some (r, S1)) : Met l yX9_nextByte wsX9_nextByte rm_X9_nextByte (va_Pc [.ref (G.2.1 0), .int a1] (PreW (wM G) S)) (va_Qi (fun r' u => r' = r ∧ u = S1) (PostW (wM G)) (AW (wM G))) 0 0 (AW (wM G)) := by
  rw [F_X9_nextByte] at hF
  refine met_i (cc := cX9_nextByte) (maxL := 2) (own := RX9) hI (by decide) rfl rfl (Nat.le_of_ble_eq_true rfl) (fun X O hR => ?_)
  show Go X l rm_X9_nextByte (wM G) 2 0 [(0, .ref (G.2.1 0)), (1, .int a1)] [] S
  obtain ⟨S1, hA7, hF⟩ := bd_s hF
  refine lt_X9_nextByte_0 l G hI  O _ _ _ hA7 ?_
  refine go_aload_n O dX9_nextByte_45 rfl 0 rfl ?_
  refine go_get (k := 0) (j := 21) O (by decide : (0 : Nat) < 27) (cm_obj G (S1.1 0) (S1.2 0)) rfl in_X9_nextByte_X9 (by decide) fl_X9_nextByte_122 rfl rfl dX9_nextByte_46 ?_
  refine go_aload_n O dX9_nextByte_49 rfl 0 rfl ?_
  refine go_get (k := 0) (j := 2) O (by decide : (0 : Nat) < 27) (cm_obj G (S1.1 0) (S1.2 0)) rfl in_X9_nextByte_X9 (by decide) fl_X9_nextByte_16 rfl rfl dX9_nextByte_50 ?_
  refine go_iload_n O dX9_nextByte_53 rfl 1 rfl ?_
  obtain ⟨hb8, hF⟩ := chk_s hF
  refine go_iald (k := 3) O (by decide : (3 : Nat) < 27) (cm_3 G (S1.1 3) (S1.2 3)) (inB_in hb8) dX9_nextByte_54 ?_
  refine go_icmp_ge (tgt := 75) O dX9_nextByte_55 (by decide) (fun hc10 => ?_) (fun hc10 => ?_)
  · replace hF := it_t hc10 hF
    refine go_bipush (v := (-9 : Int32)) O dX9_nextByte_75 (by decide) ?_
    exact ret_wi hF (hR _ _ dX9_nextByte_77)
  · replace hF := it_f hc10 hF
    refine go_aload_n O dX9_nextByte_58 rfl 0 rfl ?_
    refine go_get (k := 0) (j := 3) O (by decide : (0 : Nat) < 27) (cm_obj G (S1.1 0) (S1.2 0)) rfl in_X9_nextByte_X9 (by decide) fl_X9_nextByte_19 rfl rfl dX9_nextByte_59 ?_
    refine go_bipush (v := (80 : Int32)) O dX9_nextByte_62 (by decide) ?_
    refine go_iload_n O dX9_nextByte_64 rfl 1 rfl ?_
    refine go_imul O dX9_nextByte_65 ?_
    refine go_aload_n O dX9_nextByte_66 rfl 0 rfl ?_
    refine go_get (k := 0) (j := 21) O (by decide : (0 : Nat) < 27) (cm_obj G (S1.1 0) (S1.2 0)) rfl in_X9_nextByte_X9 (by decide) fl_X9_nextByte_122 rfl rfl dX9_nextByte_67 ?_
    refine go_iadd O dX9_nextByte_70 ?_
    obtain ⟨hb9, hF⟩ := chk_s hF
    refine go_iald (k := 4) O (by decide : (4 : Nat) < 27) (cm_4 G (S1.1 4) (S1.2 4)) (inB_in hb9) dX9_nextByte_71 ?_
    refine go_goto (tgt := 77) O dX9_nextByte_72 (by decide) ?_
    exact ret_wi hF (hR _ _ dX9_nextByte_77)
-- X9_byteAt
def rm_X9_byteAt : Room := { frames := 0, cells := 0, slots := 0, locals := 0 }
theorem fl_X9_byteAt_16 : Cond.fieldLink RX9 16 "PaperWallsModel" "textSizes" "[I" ∈ wsX9_byteAt := by decide +kernel
theorem fl_X9_byteAt_19 : Cond.fieldLink RX9 19 "PaperWallsModel" "texts" "[I" ∈ wsX9_byteAt := by decide +kernel
theorem fl_X9_byteAt_122 : Cond.fieldLink RX9 122 "PaperWallsModel" "place" "I" ∈ wsX9_byteAt := by decide +kernel
theorem in_X9_byteAt_X9 : ∀ x ∈ u_ws RX9 TX9 36, x ∈ wsX9_byteAt := by decide +kernel
def F_X9_byteAt  (S : Sg) (a1 : Int32) : Option Int32 := chk (inB a1 4) (if (S.1 3 a1.toNatClampNeg) ≤ (S.1 0 21) then (some (-9 : Int32)) else (chk (inB (((80 : Int32) * a1) + (S.1 0 21)) 320) (some (S.1 4 (((80 : Int32) * a1) + (S.1 0 21)).toNatClampNeg))))
set_option maxHeartbeats 4000000 in
set_option maxRecDepth 100000 in
theorem c_X9_byteAt (l : Launch) (G : Gp) (hI : Ij (wM G))  {S : Sg} {a1 : Int32} {r : Int32} (hF : F_X9_byteAt S a1 = some r) : Met l yX9_byteAt wsX9_byteAt rm_X9_byteAt (va_Pc [.ref (G.2.1 0), .int a1] (PreW (wM G) S)) (va_Qi (fun r' u => r' = r ∧ u = S) (PostW (wM G)) (AW (wM G))) 0 0 (AW (wM G)) := by
  rw [F_X9_byteAt] at hF
  refine met_i (cc := cX9_byteAt) (maxL := 2) (own := RX9) hI (by decide) rfl rfl (Nat.le_of_ble_eq_true rfl) (fun X O hR => ?_)
  show Go X l rm_X9_byteAt (wM G) 2 0 [(0, .ref (G.2.1 0)), (1, .int a1)] [] S
  refine go_aload_n O dX9_byteAt_0 rfl 0 rfl ?_
  refine go_get (k := 0) (j := 21) O (by decide : (0 : Nat) < 27) (cm_obj G (S.1 0) (S.2 0)) rfl in_X9_byteAt_X9 (by decide) fl_X9_byteAt_122 rfl rfl dX9_byteAt_1 ?_
  refine go_aload_n O dX9_byteAt_4 rfl 0 rfl ?_
  refine go_get (k := 0) (j := 2) O (by decide : (0 : Nat) < 27) (cm_obj G (S.1 0) (S.2 0)) rfl in_X9_byteAt_X9 (by decide) fl_X9_byteAt_16 rfl rfl dX9_byteAt_5 ?_
  refine go_iload_n O dX9_byteAt_8 rfl 1 rfl ?_
  obtain ⟨hb1, hF⟩ := chk_s hF
  refine go_iald (k := 3) O (by decide : (3 : Nat) < 27) (cm_3 G (S.1 3) (S.2 3)) (inB_in hb1) dX9_byteAt_9 ?_
  refine go_icmp_ge (tgt := 30) O dX9_byteAt_10 (by decide) (fun hc3 => ?_) (fun hc3 => ?_)
  · replace hF := it_t hc3 hF
    refine go_bipush (v := (-9 : Int32)) O dX9_byteAt_30 (by decide) ?_
    exact ret_i hF (hR _ _ dX9_byteAt_32)
  · replace hF := it_f hc3 hF
    refine go_aload_n O dX9_byteAt_13 rfl 0 rfl ?_
    refine go_get (k := 0) (j := 3) O (by decide : (0 : Nat) < 27) (cm_obj G (S.1 0) (S.2 0)) rfl in_X9_byteAt_X9 (by decide) fl_X9_byteAt_19 rfl rfl dX9_byteAt_14 ?_
    refine go_bipush (v := (80 : Int32)) O dX9_byteAt_17 (by decide) ?_
    refine go_iload_n O dX9_byteAt_19 rfl 1 rfl ?_
    refine go_imul O dX9_byteAt_20 ?_
    refine go_aload_n O dX9_byteAt_21 rfl 0 rfl ?_
    refine go_get (k := 0) (j := 21) O (by decide : (0 : Nat) < 27) (cm_obj G (S.1 0) (S.2 0)) rfl in_X9_byteAt_X9 (by decide) fl_X9_byteAt_122 rfl rfl dX9_byteAt_22 ?_
    refine go_iadd O dX9_byteAt_25 ?_
    obtain ⟨hb2, hF⟩ := chk_s hF
    refine go_iald (k := 4) O (by decide : (4 : Nat) < 27) (cm_4 G (S.1 4) (S.2 4)) (inB_in hb2) dX9_byteAt_26 ?_
    refine go_goto (tgt := 32) O dX9_byteAt_27 (by decide) ?_
    exact ret_i hF (hR _ _ dX9_byteAt_32)
-- X9_kindOf
def rm_X9_kindOf : Room := { frames := 0, cells := 0, slots := 0, locals := 0 }
def F_X9_kindOf  (S : Sg) (a0 : Int32) : Option Int32 := if a0 = (111 : Int32) then (some (0 : Int32)) else (if a0 = (108 : Int32) then (some (1 : Int32)) else (if a0 = (119 : Int32) then (some (2 : Int32)) else (if a0 = (100 : Int32) then (some (3 : Int32)) else (if a0 = (115 : Int32) then (some (4 : Int32)) else (if a0 = (105 : Int32) then (some (5 : Int32)) else (some (-1 : Int32)))))))
set_option maxHeartbeats 4000000 in
set_option maxRecDepth 100000 in
theorem c_X9_kindOf (l : Launch) (G : Gp) (hI : Ij (wM G))  {S : Sg} {a0 : Int32} {r : Int32} (hF : F_X9_kindOf S a0 = some r) : Met l yX9_kindOf wsX9_kindOf rm_X9_kindOf (va_Pc [.int a0] (PreW (wM G) S)) (va_Qi (fun r' u => r' = r ∧ u = S) (PostW (wM G)) (AW (wM G))) 0 0 (AW (wM G)) := by
  rw [F_X9_kindOf] at hF
  refine met_i (cc := cX9_kindOf) (maxL := 1) (own := RX9) hI (by decide) rfl rfl (Nat.le_of_ble_eq_true rfl) (fun X O hR => ?_)
  show Go X l rm_X9_kindOf (wM G) 1 0 [(0, .int a0)] [] S
  refine go_iload_n O dX9_kindOf_0 rfl 0 rfl ?_
  refine go_bipush (v := (111 : Int32)) O dX9_kindOf_1 (by decide) ?_
  refine go_icmp_ne (tgt := 10) O dX9_kindOf_3 (by decide) (fun hc6 => ?_) (fun hc6 => ?_)
  · replace hF := it_f hc6 hF
    refine go_iload_n O dX9_kindOf_10 rfl 0 rfl ?_
    refine go_bipush (v := (108 : Int32)) O dX9_kindOf_11 (by decide) ?_
    refine go_icmp_ne (tgt := 20) O dX9_kindOf_13 (by decide) (fun hc5 => ?_) (fun hc5 => ?_)
    · replace hF := it_f hc5 hF
      refine go_iload_n O dX9_kindOf_20 rfl 0 rfl ?_
      refine go_bipush (v := (119 : Int32)) O dX9_kindOf_21 (by decide) ?_
      refine go_icmp_ne (tgt := 30) O dX9_kindOf_23 (by decide) (fun hc4 => ?_) (fun hc4 => ?_)
      · replace hF := it_f hc4 hF
        refine go_iload_n O dX9_kindOf_30 rfl 0 rfl ?_
        refine go_bipush (v := (100 : Int32)) O dX9_kindOf_31 (by decide) ?_
        refine go_icmp_ne (tgt := 40) O dX9_kindOf_33 (by decide) (fun hc3 => ?_) (fun hc3 => ?_)
        · replace hF := it_f hc3 hF
          refine go_iload_n O dX9_kindOf_40 rfl 0 rfl ?_
          refine go_bipush (v := (115 : Int32)) O dX9_kindOf_41 (by decide) ?_
          refine go_icmp_ne (tgt := 50) O dX9_kindOf_43 (by decide) (fun hc2 => ?_) (fun hc2 => ?_)
          · replace hF := it_f hc2 hF
            refine go_iload_n O dX9_kindOf_50 rfl 0 rfl ?_
            refine go_bipush (v := (105 : Int32)) O dX9_kindOf_51 (by decide) ?_
            refine go_icmp_ne (tgt := 60) O dX9_kindOf_53 (by decide) (fun hc1 => ?_) (fun hc1 => ?_)
            · replace hF := it_f hc1 hF
              refine go_iconst (v := (-1 : Int32)) O dX9_kindOf_60 (by decide) ?_
              exact ret_i hF (hR _ _ dX9_kindOf_61)
            · replace hF := it_t hc1 hF
              refine go_iconst (v := (5 : Int32)) O dX9_kindOf_56 (by decide) ?_
              refine go_goto (tgt := 61) O dX9_kindOf_57 (by decide) ?_
              exact ret_i hF (hR _ _ dX9_kindOf_61)
          · replace hF := it_t hc2 hF
            refine go_iconst (v := (4 : Int32)) O dX9_kindOf_46 (by decide) ?_
            refine go_goto (tgt := 61) O dX9_kindOf_47 (by decide) ?_
            exact ret_i hF (hR _ _ dX9_kindOf_61)
        · replace hF := it_t hc3 hF
          refine go_iconst (v := (3 : Int32)) O dX9_kindOf_36 (by decide) ?_
          refine go_goto (tgt := 61) O dX9_kindOf_37 (by decide) ?_
          exact ret_i hF (hR _ _ dX9_kindOf_61)
      · replace hF := it_t hc4 hF
        refine go_iconst (v := (2 : Int32)) O dX9_kindOf_26 (by decide) ?_
        refine go_goto (tgt := 61) O dX9_kindOf_27 (by decide) ?_
        exact ret_i hF (hR _ _ dX9_kindOf_61)
    · replace hF := it_t hc5 hF
      refine go_iconst (v := (1 : Int32)) O dX9_kindOf_16 (by decide) ?_
      refine go_goto (tgt := 61) O dX9_kindOf_17 (by decide) ?_
      exact ret_i hF (hR _ _ dX9_kindOf_61)
  · replace hF := it_t hc6 hF
    refine go_iconst (v := (0 : Int32)) O dX9_kindOf_6 (by decide) ?_
    refine go_goto (tgt := 61) O dX9_kindOf_7 (by decide) ?_
    exact ret_i hF (hR _ _ dX9_kindOf_61)
-- X9_readPaper
def rm_X9_readPaper : Room := { frames := 1, cells := 0, slots := 0, locals := 25 }
theorem fl_X9_readPaper_55 : Cond.fieldLink RX9 55 "PaperWallsModel" "readLayers" "[I" ∈ wsX9_readPaper := by decide +kernel
theorem fl_X9_readPaper_122 : Cond.fieldLink RX9 122 "PaperWallsModel" "place" "I" ∈ wsX9_readPaper := by decide +kernel
theorem fl_X9_readPaper_135 : Cond.fieldLink RX9 135 "PaperWallsModel" "readWalls" "I" ∈ wsX9_readPaper := by decide +kernel
theorem wd_X9_readPaper_c131 : Cond.constantLong RX9 131 (48) ∈ wsX9_readPaper := by decide +kernel
theorem wd_X9_readPaper_c133 : Cond.constantLong RX9 133 (57) ∈ wsX9_readPaper := by decide +kernel
theorem in_X9_readPaper_X9 : ∀ x ∈ u_ws RX9 TX9 36, x ∈ wsX9_readPaper := by decide +kernel
def T_X9_readPaper_22   (p1 : Int32) : Nat → Sg → Option (Sg)
  | 0, _ => none
  | n + 1, S => bd (F_X9_byteAt S p1) (fun x7 => bd (F_X9_in S (Int32.toInt64 x7) (48 : Int64) (57 : Int64)) (fun x9 => if x9 = 0 then (some S) else (if (6 : Int32) ≤ (S.1 0 25) then (some S) else (bd (F_X9_byteAt S p1) (fun x11 => chk (inB (S.1 0 25) 6) (nm (wI S 16 (S.1 0 25).toNatClampNeg (x11 - (48 : Int32))) (fun S13 => nm (wI S13 0 25 ((S13.1 0 25) + (1 : Int32))) (fun S14 => nm (wI S14 0 21 ((S14.1 0 21) + (1 : Int32))) (fun S15 => T_X9_readPaper_22 p1 n S15)))))))))
set_option maxHeartbeats 4000000 in
set_option maxRecDepth 100000 in
theorem lt_X9_readPaper_22 {X : XT} (l : Launch) (G : Gp) (hI : Ij (wM G))   {p1 : Int32} (O : Ok X (wM G) cX9_readPaper RX9 wsX9_readPaper 2) : ∀ (n : Nat)  (S : Sg) (q : (Sg)), T_X9_readPaper_22 p1 n  S = some q → (Go X l rm_X9_readPaper (wM G) 2 89 [(0, .ref (G.2.1 0))] [] q) → Go X l rm_X9_readPaper (wM G) 2 22 [(0, .ref (G.2.1 0)), (1, .int p1)] [] S := by
  intro n
  induction n with
  | zero =>
    intro  S q hF
    cases hF
  | succ n ih =>
    intro  S q hF hE
    rw [T_X9_readPaper_22] at hF
    refine go_aload_n O dX9_readPaper_22 rfl 0 rfl ?_
    refine go_iload_n O dX9_readPaper_23 rfl 1 rfl ?_
    obtain ⟨x7, hA6, hF⟩ := bd_s hF
    refine go_callVi (As := [.int p1]) (rest := []) (b := 0) O (c_X9_byteAt l G hI hA6) (fun s args hts => cwV 1 hts gX9_readPaper_X9_byteAt rfl rfl rfl (by decide +kernel) ⟨Nat.le_of_ble_eq_true rfl, Nat.le_of_ble_eq_true rfl⟩) (by decide : (0 : Nat) < 27) (cm_obj G (S.1 0) (S.2 0)) rfl rfl rfl rfl (Nat.le_of_ble_eq_true rfl) dX9_readPaper_24 ?_
    refine go_i2l (v := Int32.toInt64 x7) O dX9_readPaper_27 rfl ?_
    refine go_ldc2 (v := (48 : Int64)) O dX9_readPaper_28 wd_X9_readPaper_c131 ?_
    refine go_ldc2 (v := (57 : Int64)) O dX9_readPaper_31 wd_X9_readPaper_c133 ?_
    obtain ⟨x9, hA8, hF⟩ := bd_s hF
    refine go_callSi (As := [.long (Int32.toInt64 x7), .long (48 : Int64), .long (57 : Int64)]) (rest := []) O (c_X9_in l G hI hA8) (fun s args hts => va_cwS 3 hts gX9_readPaper_X9_in rfl rfl rfl (by decide +kernel) ⟨Nat.le_of_ble_eq_true rfl, Nat.le_of_ble_eq_true rfl⟩) rfl rfl (Nat.le_of_ble_eq_true rfl) dX9_readPaper_34 ?_
    refine go_if_eq (tgt := 89) O dX9_readPaper_37 (by decide) (fun hc17 => ?_) (fun hc17 => ?_)
    · replace hF := it_t hc17 hF
      refine go_perm (ls' := [(0, .ref (G.2.1 0))]) [0] rfl ?_
      exact jn (P := fun q => Go X l rm_X9_readPaper (wM G) 2 89 [(0, .ref (G.2.1 0))] [] q) hF hE
    · replace hF := it_f hc17 hF
      refine go_aload_n O dX9_readPaper_40 rfl 0 rfl ?_
      refine go_get (k := 0) (j := 25) O (by decide : (0 : Nat) < 27) (cm_obj G (S.1 0) (S.2 0)) rfl in_X9_readPaper_X9 (by decide) fl_X9_readPaper_135 rfl rfl dX9_readPaper_41 ?_
      refine go_bipush (v := (6 : Int32)) O dX9_readPaper_44 (by decide) ?_
      refine go_icmp_ge (tgt := 89) O dX9_readPaper_46 (by decide) (fun hc16 => ?_) (fun hc16 => ?_)
      · replace hF := it_t hc16 hF
        refine go_perm (ls' := [(0, .ref (G.2.1 0))]) [0] rfl ?_
        exact jn (P := fun q => Go X l rm_X9_readPaper (wM G) 2 89 [(0, .ref (G.2.1 0))] [] q) hF hE
      · replace hF := it_f hc16 hF
        refine go_aload_n O dX9_readPaper_49 rfl 0 rfl ?_
        refine go_get (k := 0) (j := 22) O (by decide : (0 : Nat) < 27) (cm_obj G (S.1 0) (S.2 0)) rfl in_X9_readPaper_X9 (by decide) fl_X9_readPaper_55 rfl rfl dX9_readPaper_50 ?_
        refine go_aload_n O dX9_readPaper_53 rfl 0 rfl ?_
        refine go_get (k := 0) (j := 25) O (by decide : (0 : Nat) < 27) (cm_obj G (S.1 0) (S.2 0)) rfl in_X9_readPaper_X9 (by decide) fl_X9_readPaper_135 rfl rfl dX9_readPaper_54 ?_
        refine go_aload_n O dX9_readPaper_57 rfl 0 rfl ?_
        refine go_iload_n O dX9_readPaper_58 rfl 1 rfl ?_
        obtain ⟨x11, hA10, hF⟩ := bd_s hF
        refine go_callVi (As := [.int p1]) (rest := [.int (S.1 0 25), .ref (G.2.1 16)]) (b := 0) O (c_X9_byteAt l G hI hA10) (fun s args hts => cwV 1 hts gX9_readPaper_X9_byteAt rfl rfl rfl (by decide +kernel) ⟨Nat.le_of_ble_eq_true rfl, Nat.le_of_ble_eq_true rfl⟩) (by decide : (0 : Nat) < 27) (cm_obj G (S.1 0) (S.2 0)) rfl rfl rfl rfl (Nat.le_of_ble_eq_true rfl) dX9_readPaper_59 ?_
        refine go_bipush (v := (48 : Int32)) O dX9_readPaper_62 (by decide) ?_
        refine go_isub O dX9_readPaper_64 ?_
        obtain ⟨hb12, hF⟩ := chk_s hF
        obtain ⟨S13, eS13, hF⟩ := nm_s hF
        refine go_iast (k := 16) O (by decide : (16 : Nat) < 27) (fun f => (cm_16 G f (S.2 16))) (inB_in hb12) dX9_readPaper_65 eS13 ?_
        refine go_aload_n O dX9_readPaper_66 rfl 0 rfl ?_
        refine go_dup O dX9_readPaper_67 rfl ?_
        refine go_get (k := 0) (j := 25) O (by decide : (0 : Nat) < 27) (cm_obj G (S13.1 0) (S13.2 0)) rfl in_X9_readPaper_X9 (by decide) fl_X9_readPaper_135 rfl rfl dX9_readPaper_68 ?_
        refine go_iconst (v := (1 : Int32)) O dX9_readPaper_71 (by decide) ?_
        refine go_iadd O dX9_readPaper_72 ?_
        obtain ⟨S14, eS14, hF⟩ := nm_s hF
        refine go_putI (k := 0) (j := 25) O (by decide : (0 : Nat) < 27) (cm_obj G (S13.1 0) (S13.2 0)) rfl in_X9_readPaper_X9 (by decide) fl_X9_readPaper_135 rfl tyX9 tyX9_ok nmX9 rfl (by decide +kernel) (Nat.le_of_ble_eq_true rfl) (cm_obj G (upd (S13.1 0) 25 ((S13.1 0 25) + (1 : Int32))) (S13.2 0)) dX9_readPaper_73 eS14 ?_
        refine go_aload_n O dX9_readPaper_76 rfl 0 rfl ?_
        refine go_dup O dX9_readPaper_77 rfl ?_
        refine go_get (k := 0) (j := 21) O (by decide : (0 : Nat) < 27) (cm_obj G (S14.1 0) (S14.2 0)) rfl in_X9_readPaper_X9 (by decide) fl_X9_readPaper_122 rfl rfl dX9_readPaper_78 ?_
        refine go_iconst (v := (1 : Int32)) O dX9_readPaper_81 (by decide) ?_
        refine go_iadd O dX9_readPaper_82 ?_
        obtain ⟨S15, eS15, hF⟩ := nm_s hF
        refine go_putI (k := 0) (j := 21) O (by decide : (0 : Nat) < 27) (cm_obj G (S14.1 0) (S14.2 0)) rfl in_X9_readPaper_X9 (by decide) fl_X9_readPaper_122 rfl tyX9 tyX9_ok nmX9 rfl (by decide +kernel) (Nat.le_of_ble_eq_true rfl) (cm_obj G (upd (S14.1 0) 21 ((S14.1 0 21) + (1 : Int32))) (S14.2 0)) dX9_readPaper_83 eS15 ?_
        refine go_goto (tgt := 22) O dX9_readPaper_86 (by decide) ?_
        exact ih _ _ hF hE
def F_X9_readPaper  (S : Sg) (a1 : Int32) : Option (Int32 × Sg) := bd (F_X9_nextByte S a1) (fun (x2, S3) => if x2 = (112 : Int32) then (nm (wI S3 0 21 ((S3.1 0 21) + (1 : Int32))) (fun S4 => bd (T_X9_readPaper_22 a1 FU S4) (fun S5 => if (S5.1 0 25) ≤ 0 then (some ((0 : Int32), S5)) else (some ((1 : Int32), S5))))) else (some ((0 : Int32), S3)))
set_option maxHeartbeats 4000000 in
set_option maxRecDepth 100000 in
theorem c_X9_readPaper (l : Launch) (G : Gp) (hI : Ij (wM G))  {S : Sg} {a1 : Int32} {r : Int32} {S1 : Sg} (hF : F_X9_readPaper S a1 = some (r, S1)) : Met l yX9_readPaper wsX9_readPaper rm_X9_readPaper (va_Pc [.ref (G.2.1 0), .int a1] (PreW (wM G) S)) (va_Qi (fun r' u => r' = r ∧ u = S1) (PostW (wM G)) (AW (wM G))) 0 0 (AW (wM G)) := by
  rw [F_X9_readPaper] at hF
  refine met_z (cc := cX9_readPaper) (maxL := 2) (own := RX9) hI (by decide) rfl rfl (Nat.le_of_ble_eq_true rfl) (fun X O hR => ?_)
  show Go X l rm_X9_readPaper (wM G) 2 0 [(0, .ref (G.2.1 0)), (1, .int a1)] [] S
  refine go_aload_n O dX9_readPaper_0 rfl 0 rfl ?_
  refine go_iload_n O dX9_readPaper_1 rfl 1 rfl ?_
  obtain ⟨⟨x2, S3⟩, hA1, hF⟩ := bd_s hF
  refine go_callVi (As := [.int a1]) (rest := []) (b := 0) O (c_X9_nextByte l G hI hA1) (fun s args hts => cwV 1 hts gX9_readPaper_X9_nextByte rfl rfl rfl (by decide +kernel) ⟨Nat.le_of_ble_eq_true rfl, Nat.le_of_ble_eq_true rfl⟩) (by decide : (0 : Nat) < 27) (cm_obj G (S.1 0) (S.2 0)) rfl rfl rfl rfl (Nat.le_of_ble_eq_true rfl) dX9_readPaper_2 ?_
  refine go_bipush (v := (112 : Int32)) O dX9_readPaper_5 (by decide) ?_
  refine go_icmp_eq (tgt := 12) O dX9_readPaper_7 (by decide) (fun hc20 => ?_) (fun hc20 => ?_)
  · replace hF := it_t hc20 hF
    refine go_aload_n O dX9_readPaper_12 rfl 0 rfl ?_
    refine go_dup O dX9_readPaper_13 rfl ?_
    refine go_get (k := 0) (j := 21) O (by decide : (0 : Nat) < 27) (cm_obj G (S3.1 0) (S3.2 0)) rfl in_X9_readPaper_X9 (by decide) fl_X9_readPaper_122 rfl rfl dX9_readPaper_14 ?_
    refine go_iconst (v := (1 : Int32)) O dX9_readPaper_17 (by decide) ?_
    refine go_iadd O dX9_readPaper_18 ?_
    obtain ⟨S4, eS4, hF⟩ := nm_s hF
    refine go_putI (k := 0) (j := 21) O (by decide : (0 : Nat) < 27) (cm_obj G (S3.1 0) (S3.2 0)) rfl in_X9_readPaper_X9 (by decide) fl_X9_readPaper_122 rfl tyX9 tyX9_ok nmX9 rfl (by decide +kernel) (Nat.le_of_ble_eq_true rfl) (cm_obj G (upd (S3.1 0) 21 ((S3.1 0 21) + (1 : Int32))) (S3.2 0)) dX9_readPaper_19 eS4 ?_
    obtain ⟨S5, hA18, hF⟩ := bd_s hF
    refine lt_X9_readPaper_22 l G hI  O _ _ _ hA18 ?_
    refine go_aload_n O dX9_readPaper_89 rfl 0 rfl ?_
    refine go_get (k := 0) (j := 25) O (by decide : (0 : Nat) < 27) (cm_obj G (S5.1 0) (S5.2 0)) rfl in_X9_readPaper_X9 (by decide) fl_X9_readPaper_135 rfl rfl dX9_readPaper_90 ?_
    refine go_if_le (tgt := 100) O dX9_readPaper_93 (by decide) (fun hc19 => ?_) (fun hc19 => ?_)
    · replace hF := it_t hc19 hF
      refine go_iconst (v := (0 : Int32)) O dX9_readPaper_100 (by decide) ?_
      exact ret_wz hF (fun hz => hR _ _ hz dX9_readPaper_101) (show vp_nar .boolean (0 : Int32) = (0 : Int32) by decide)
    · replace hF := it_f hc19 hF
      refine go_iconst (v := (1 : Int32)) O dX9_readPaper_96 (by decide) ?_
      refine go_goto (tgt := 101) O dX9_readPaper_97 (by decide) ?_
      exact ret_wz hF (fun hz => hR _ _ hz dX9_readPaper_101) (show vp_nar .boolean (1 : Int32) = (1 : Int32) by decide)
  · replace hF := it_f hc20 hF
    refine go_iconst (v := (0 : Int32)) O dX9_readPaper_10 (by decide) ?_
    exact ret_wz hF (fun hz => hR _ _ hz dX9_readPaper_11) (show vp_nar .boolean (0 : Int32) = (0 : Int32) by decide)
-- X9_readStreet
def rm_X9_readStreet : Room := { frames := 2, cells := 0, slots := 0, locals := 46 }
theorem fl_X9_readStreet_16 : Cond.fieldLink RX9 16 "PaperWallsModel" "textSizes" "[I" ∈ wsX9_readStreet := by decide +kernel
theorem fl_X9_readStreet_58 : Cond.fieldLink RX9 58 "PaperWallsModel" "readKinds" "[I" ∈ wsX9_readStreet := by decide +kernel
theorem fl_X9_readStreet_61 : Cond.fieldLink RX9 61 "PaperWallsModel" "readRooms" "[I" ∈ wsX9_readStreet := by decide +kernel
theorem fl_X9_readStreet_122 : Cond.fieldLink RX9 122 "PaperWallsModel" "place" "I" ∈ wsX9_readStreet := by decide +kernel
theorem fl_X9_readStreet_135 : Cond.fieldLink RX9 135 "PaperWallsModel" "readWalls" "I" ∈ wsX9_readStreet := by decide +kernel
theorem fl_X9_readStreet_138 : Cond.fieldLink RX9 138 "PaperWallsModel" "readPeople" "I" ∈ wsX9_readStreet := by decide +kernel
theorem wd_X9_readStreet_c131 : Cond.constantLong RX9 131 (48) ∈ wsX9_readStreet := by decide +kernel
theorem in_X9_readStreet_X9 : ∀ x ∈ u_ws RX9 TX9 36, x ∈ wsX9_readStreet := by decide +kernel
def T_X9_readStreet_25   (p1 : Int32) : Nat → Sg → Option ((Sg) ⊕ (Int32 × Sg))
  | 0, _ => none
  | n + 1, S => bd (F_X9_nextByte S p1) (fun (x9, S10) => if x9 = (-9 : Int32) then (chk (inB p1 4) (if (S10.1 3 p1.toNatClampNeg) ≤ (S10.1 0 21) then (some (.inl S10)) else (bd (F_X9_nextByte S10 p1) (fun (x34, S35) => bd (F_X9_kindOf S35 x34) (fun x37 => if x37 < 0 then (some (.inr ((0 : Int32), S35))) else (if (S35.1 0 26) = (7 : Int32) then (some (.inr ((0 : Int32), S35))) else (nm (wI S35 0 21 ((S35.1 0 21) + (1 : Int32))) (fun S38 => bd (F_X9_byteAt S38 p1) (fun x40 => bd (F_X9_in S38 (Int32.toInt64 x40) (48 : Int64) (Int32.toInt64 ((48 : Int32) + (S38.1 0 25)))) (fun x42 => if x42 = 0 then (some (.inr ((0 : Int32), S38))) else (chk (inB (S38.1 0 26) 7) (nm (wI S38 17 (S38.1 0 26).toNatClampNeg x37) (fun S44 => bd (F_X9_byteAt S44 p1) (fun x46 => chk (inB (S44.1 0 26) 7) (nm (wI S44 18 (S44.1 0 26).toNatClampNeg (x46 - (48 : Int32))) (fun S48 => nm (wI S48 0 26 ((S48.1 0 26) + (1 : Int32))) (fun S49 => nm (wI S49 0 21 ((S49.1 0 21) + (1 : Int32))) (fun S50 => T_X9_readStreet_25 p1 n S50)))))))))))))))))) else (bd (F_X9_nextByte S10 p1) (fun (x12, S13) => bd (F_X9_kindOf S13 x12) (fun x15 => if x15 < 0 then (some (.inr ((0 : Int32), S13))) else (if (S13.1 0 26) = (7 : Int32) then (some (.inr ((0 : Int32), S13))) else (nm (wI S13 0 21 ((S13.1 0 21) + (1 : Int32))) (fun S16 => bd (F_X9_byteAt S16 p1) (fun x18 => bd (F_X9_in S16 (Int32.toInt64 x18) (48 : Int64) (Int32.toInt64 ((48 : Int32) + (S16.1 0 25)))) (fun x20 => if x20 = 0 then (some (.inr ((0 : Int32), S16))) else (chk (inB (S16.1 0 26) 7) (nm (wI S16 17 (S16.1 0 26).toNatClampNeg x15) (fun S22 => bd (F_X9_byteAt S22 p1) (fun x24 => chk (inB (S22.1 0 26) 7) (nm (wI S22 18 (S22.1 0 26).toNatClampNeg (x24 - (48 : Int32))) (fun S26 => nm (wI S26 0 26 ((S26.1 0 26) + (1 : Int32))) (fun S27 => nm (wI S27 0 21 ((S27.1 0 21) + (1 : Int32))) (fun S28 => T_X9_readStreet_25 p1 n S28)))))))))))))))))
set_option maxHeartbeats 4000000 in
set_option maxRecDepth 100000 in
theorem lt_X9_readStreet_25 {X : XT} (l : Launch) (G : Gp) (hI : Ij (wM G))   {p1 : Int32} (O : Ok X (wM G) cX9_readStreet RX9 wsX9_readStreet 3) : ∀ (n : Nat)  (S : Sg) (q : ((Sg) ⊕ (Int32 × Sg))), T_X9_readStreet_25 p1 n  S = some q → (∀ (S9 : Sg), q = .inl S9 → Go X l rm_X9_readStreet (wM G) 3 157 [] [] S9) → (∀ (rS : Int32 × Sg), q = .inr rS → ∀ pc ls (hz : vp_nar .boolean rS.1 = rS.1), decode cX9_readStreet pc = .ok (.ireturn, 1) → Go X l rm_X9_readStreet (wM G) 3 pc ls [.int rS.1] rS.2) → Go X l rm_X9_readStreet (wM G) 3 25 [(0, .ref (G.2.1 0)), (1, .int p1)] [] S := by
  intro n
  induction n with
  | zero =>
    intro  S q hF
    cases hF
  | succ n ih =>
    intro  S q hF hE hR
    rw [T_X9_readStreet_25] at hF
    refine go_aload_n O dX9_readStreet_25 rfl 0 rfl ?_
    refine go_iload_n O dX9_readStreet_26 rfl 1 rfl ?_
    obtain ⟨⟨x9, S10⟩, hA8, hF⟩ := bd_s hF
    refine go_callVi (As := [.int p1]) (rest := []) (b := 0) O (c_X9_nextByte l G hI hA8) (fun s args hts => cwV 1 hts gX9_readStreet_X9_nextByte rfl rfl rfl (by decide +kernel) ⟨Nat.le_of_ble_eq_true rfl, Nat.le_of_ble_eq_true rfl⟩) (by decide : (0 : Nat) < 27) (cm_obj G (S.1 0) (S.2 0)) rfl rfl rfl rfl (Nat.le_of_ble_eq_true rfl) dX9_readStreet_27 ?_
    refine go_bipush (v := (-9 : Int32)) O dX9_readStreet_30 (by decide) ?_
    refine go_icmp_ne (tgt := 48) O dX9_readStreet_32 (by decide) (fun hc55 => ?_) (fun hc55 => ?_)
    · replace hF := it_f hc55 hF
      refine go_aload_n O dX9_readStreet_48 rfl 0 rfl ?_
      refine go_iload_n O dX9_readStreet_49 rfl 1 rfl ?_
      obtain ⟨⟨x12, S13⟩, hA11, hF⟩ := bd_s hF
      refine go_callVi (As := [.int p1]) (rest := []) (b := 0) O (c_X9_nextByte l G hI hA11) (fun s args hts => cwV 1 hts gX9_readStreet_X9_nextByte rfl rfl rfl (by decide +kernel) ⟨Nat.le_of_ble_eq_true rfl, Nat.le_of_ble_eq_true rfl⟩) (by decide : (0 : Nat) < 27) (cm_obj G (S10.1 0) (S10.2 0)) rfl rfl rfl rfl (Nat.le_of_ble_eq_true rfl) dX9_readStreet_50 ?_
      obtain ⟨x15, hA14, hF⟩ := bd_s hF
      refine go_callSi (As := [.int x12]) (rest := []) O (c_X9_kindOf l G hI hA14) (fun s args hts => va_cwS 1 hts gX9_readStreet_X9_kindOf rfl rfl rfl (by decide +kernel) ⟨Nat.le_of_ble_eq_true rfl, Nat.le_of_ble_eq_true rfl⟩) rfl rfl (Nat.le_of_ble_eq_true rfl) dX9_readStreet_53 ?_
      refine go_istore_n (ls' := [(2, .int x15), (0, .ref (G.2.1 0)), (1, .int p1)]) O dX9_readStreet_56 rfl (by decide) rfl ?_
      refine go_iload_n O dX9_readStreet_57 rfl 0 rfl ?_
      refine go_if_lt (tgt := 70) O dX9_readStreet_58 (by decide) (fun hc31 => ?_) (fun hc31 => ?_)
      · replace hF := it_t hc31 hF
        refine go_iconst (v := (0 : Int32)) O dX9_readStreet_70 (by decide) ?_
        exact ret_q hF (fun hq => hR _ hq _ _ (show vp_nar .boolean (0 : Int32) = (0 : Int32) by decide) dX9_readStreet_71)
      · replace hF := it_f hc31 hF
        refine go_aload_n O dX9_readStreet_61 rfl 1 rfl ?_
        refine go_get (k := 0) (j := 26) O (by decide : (0 : Nat) < 27) (cm_obj G (S13.1 0) (S13.2 0)) rfl in_X9_readStreet_X9 (by decide) fl_X9_readStreet_138 rfl rfl dX9_readStreet_62 ?_
        refine go_bipush (v := (7 : Int32)) O dX9_readStreet_65 (by decide) ?_
        refine go_icmp_ne (tgt := 72) O dX9_readStreet_67 (by decide) (fun hc30 => ?_) (fun hc30 => ?_)
        · replace hF := it_f hc30 hF
          refine go_aload_n O dX9_readStreet_72 rfl 1 rfl ?_
          refine go_dup O dX9_readStreet_73 rfl ?_
          refine go_get (k := 0) (j := 21) O (by decide : (0 : Nat) < 27) (cm_obj G (S13.1 0) (S13.2 0)) rfl in_X9_readStreet_X9 (by decide) fl_X9_readStreet_122 rfl rfl dX9_readStreet_74 ?_
          refine go_iconst (v := (1 : Int32)) O dX9_readStreet_77 (by decide) ?_
          refine go_iadd O dX9_readStreet_78 ?_
          obtain ⟨S16, eS16, hF⟩ := nm_s hF
          refine go_putI (k := 0) (j := 21) O (by decide : (0 : Nat) < 27) (cm_obj G (S13.1 0) (S13.2 0)) rfl in_X9_readStreet_X9 (by decide) fl_X9_readStreet_122 rfl tyX9 tyX9_ok nmX9 rfl (by decide +kernel) (Nat.le_of_ble_eq_true rfl) (cm_obj G (upd (S13.1 0) 21 ((S13.1 0 21) + (1 : Int32))) (S13.2 0)) dX9_readStreet_79 eS16 ?_
          refine go_aload_n O dX9_readStreet_82 rfl 1 rfl ?_
          refine go_iload_n O dX9_readStreet_83 rfl 2 rfl ?_
          obtain ⟨x18, hA17, hF⟩ := bd_s hF
          refine go_callVi (As := [.int p1]) (rest := []) (b := 0) O (c_X9_byteAt l G hI hA17) (fun s args hts => cwV 1 hts gX9_readStreet_X9_byteAt rfl rfl rfl (by decide +kernel) ⟨Nat.le_of_ble_eq_true rfl, Nat.le_of_ble_eq_true rfl⟩) (by decide : (0 : Nat) < 27) (cm_obj G (S16.1 0) (S16.2 0)) rfl rfl rfl rfl (Nat.le_of_ble_eq_true rfl) dX9_readStreet_84 ?_
          refine go_i2l (v := Int32.toInt64 x18) O dX9_readStreet_87 rfl ?_
          refine go_ldc2 (v := (48 : Int64)) O dX9_readStreet_88 wd_X9_readStreet_c131 ?_
          refine go_bipush (v := (48 : Int32)) O dX9_readStreet_91 (by decide) ?_
          refine go_aload_n O dX9_readStreet_93 rfl 1 rfl ?_
          refine go_get (k := 0) (j := 25) O (by decide : (0 : Nat) < 27) (cm_obj G (S16.1 0) (S16.2 0)) rfl in_X9_readStreet_X9 (by decide) fl_X9_readStreet_135 rfl rfl dX9_readStreet_94 ?_
          refine go_iadd O dX9_readStreet_97 ?_
          refine go_i2l (v := Int32.toInt64 ((48 : Int32) + (S16.1 0 25))) O dX9_readStreet_98 rfl ?_
          obtain ⟨x20, hA19, hF⟩ := bd_s hF
          refine go_callSi (As := [.long (Int32.toInt64 x18), .long (48 : Int64), .long (Int32.toInt64 ((48 : Int32) + (S16.1 0 25)))]) (rest := []) O (c_X9_in l G hI hA19) (fun s args hts => va_cwS 3 hts gX9_readStreet_X9_in rfl rfl rfl (by decide +kernel) ⟨Nat.le_of_ble_eq_true rfl, Nat.le_of_ble_eq_true rfl⟩) rfl rfl (Nat.le_of_ble_eq_true rfl) dX9_readStreet_99 ?_
          refine go_if_ne (tgt := 107) O dX9_readStreet_102 (by decide) (fun hc29 => ?_) (fun hc29 => ?_)
          · replace hF := it_f hc29 hF
            refine go_aload_n O dX9_readStreet_107 rfl 1 rfl ?_
            refine go_get (k := 0) (j := 23) O (by decide : (0 : Nat) < 27) (cm_obj G (S16.1 0) (S16.2 0)) rfl in_X9_readStreet_X9 (by decide) fl_X9_readStreet_58 rfl rfl dX9_readStreet_108 ?_
            refine go_aload_n O dX9_readStreet_111 rfl 1 rfl ?_
            refine go_get (k := 0) (j := 26) O (by decide : (0 : Nat) < 27) (cm_obj G (S16.1 0) (S16.2 0)) rfl in_X9_readStreet_X9 (by decide) fl_X9_readStreet_138 rfl rfl dX9_readStreet_112 ?_
            refine go_iload_n O dX9_readStreet_115 rfl 0 rfl ?_
            obtain ⟨hb21, hF⟩ := chk_s hF
            obtain ⟨S22, eS22, hF⟩ := nm_s hF
            refine go_iast (k := 17) O (by decide : (17 : Nat) < 27) (fun f => (cm_17 G f (S16.2 17))) (inB_in hb21) dX9_readStreet_116 eS22 ?_
            refine go_aload_n O dX9_readStreet_117 rfl 1 rfl ?_
            refine go_get (k := 0) (j := 24) O (by decide : (0 : Nat) < 27) (cm_obj G (S22.1 0) (S22.2 0)) rfl in_X9_readStreet_X9 (by decide) fl_X9_readStreet_61 rfl rfl dX9_readStreet_118 ?_
            refine go_aload_n O dX9_readStreet_121 rfl 1 rfl ?_
            refine go_get (k := 0) (j := 26) O (by decide : (0 : Nat) < 27) (cm_obj G (S22.1 0) (S22.2 0)) rfl in_X9_readStreet_X9 (by decide) fl_X9_readStreet_138 rfl rfl dX9_readStreet_122 ?_
            refine go_aload_n O dX9_readStreet_125 rfl 1 rfl ?_
            refine go_iload_n O dX9_readStreet_126 rfl 2 rfl ?_
            obtain ⟨x24, hA23, hF⟩ := bd_s hF
            refine go_callVi (As := [.int p1]) (rest := [.int (S22.1 0 26), .ref (G.2.1 18)]) (b := 0) O (c_X9_byteAt l G hI hA23) (fun s args hts => cwV 1 hts gX9_readStreet_X9_byteAt rfl rfl rfl (by decide +kernel) ⟨Nat.le_of_ble_eq_true rfl, Nat.le_of_ble_eq_true rfl⟩) (by decide : (0 : Nat) < 27) (cm_obj G (S22.1 0) (S22.2 0)) rfl rfl rfl rfl (Nat.le_of_ble_eq_true rfl) dX9_readStreet_127 ?_
            refine go_bipush (v := (48 : Int32)) O dX9_readStreet_130 (by decide) ?_
            refine go_isub O dX9_readStreet_132 ?_
            obtain ⟨hb25, hF⟩ := chk_s hF
            obtain ⟨S26, eS26, hF⟩ := nm_s hF
            refine go_iast (k := 18) O (by decide : (18 : Nat) < 27) (fun f => (cm_18 G f (S22.2 18))) (inB_in hb25) dX9_readStreet_133 eS26 ?_
            refine go_aload_n O dX9_readStreet_134 rfl 1 rfl ?_
            refine go_dup O dX9_readStreet_135 rfl ?_
            refine go_get (k := 0) (j := 26) O (by decide : (0 : Nat) < 27) (cm_obj G (S26.1 0) (S26.2 0)) rfl in_X9_readStreet_X9 (by decide) fl_X9_readStreet_138 rfl rfl dX9_readStreet_136 ?_
            refine go_iconst (v := (1 : Int32)) O dX9_readStreet_139 (by decide) ?_
            refine go_iadd O dX9_readStreet_140 ?_
            obtain ⟨S27, eS27, hF⟩ := nm_s hF
            refine go_putI (k := 0) (j := 26) O (by decide : (0 : Nat) < 27) (cm_obj G (S26.1 0) (S26.2 0)) rfl in_X9_readStreet_X9 (by decide) fl_X9_readStreet_138 rfl tyX9 tyX9_ok nmX9 rfl (by decide +kernel) (Nat.le_of_ble_eq_true rfl) (cm_obj G (upd (S26.1 0) 26 ((S26.1 0 26) + (1 : Int32))) (S26.2 0)) dX9_readStreet_141 eS27 ?_
            refine go_aload_n O dX9_readStreet_144 rfl 1 rfl ?_
            refine go_dup O dX9_readStreet_145 rfl ?_
            refine go_get (k := 0) (j := 21) O (by decide : (0 : Nat) < 27) (cm_obj G (S27.1 0) (S27.2 0)) rfl in_X9_readStreet_X9 (by decide) fl_X9_readStreet_122 rfl rfl dX9_readStreet_146 ?_
            refine go_iconst (v := (1 : Int32)) O dX9_readStreet_149 (by decide) ?_
            refine go_iadd O dX9_readStreet_150 ?_
            obtain ⟨S28, eS28, hF⟩ := nm_s hF
            refine go_putI (k := 0) (j := 21) O (by decide : (0 : Nat) < 27) (cm_obj G (S27.1 0) (S27.2 0)) rfl in_X9_readStreet_X9 (by decide) fl_X9_readStreet_122 rfl tyX9 tyX9_ok nmX9 rfl (by decide +kernel) (Nat.le_of_ble_eq_true rfl) (cm_obj G (upd (S27.1 0) 21 ((S27.1 0 21) + (1 : Int32))) (S27.2 0)) dX9_readStreet_151 eS28 ?_
            refine go_goto (tgt := 25) O dX9_readStreet_154 (by decide) ?_
            refine go_perm (ls' := [(0, .ref (G.2.1 0)), (1, .int p1)]) [1, 2] rfl ?_
            exact ih _ _ hF hE hR
          · replace hF := it_t hc29 hF
            refine go_iconst (v := (0 : Int32)) O dX9_readStreet_105 (by decide) ?_
            exact ret_q hF (fun hq => hR _ hq _ _ (show vp_nar .boolean (0 : Int32) = (0 : Int32) by decide) dX9_readStreet_106)
        · replace hF := it_t hc30 hF
          refine go_iconst (v := (0 : Int32)) O dX9_readStreet_70 (by decide) ?_
          exact ret_q hF (fun hq => hR _ hq _ _ (show vp_nar .boolean (0 : Int32) = (0 : Int32) by decide) dX9_readStreet_71)
    · replace hF := it_t hc55 hF
      refine go_aload_n O dX9_readStreet_35 rfl 0 rfl ?_
      refine go_get (k := 0) (j := 21) O (by decide : (0 : Nat) < 27) (cm_obj G (S10.1 0) (S10.2 0)) rfl in_X9_readStreet_X9 (by decide) fl_X9_readStreet_122 rfl rfl dX9_readStreet_36 ?_
      refine go_aload_n O dX9_readStreet_39 rfl 0 rfl ?_
      refine go_get (k := 0) (j := 2) O (by decide : (0 : Nat) < 27) (cm_obj G (S10.1 0) (S10.2 0)) rfl in_X9_readStreet_X9 (by decide) fl_X9_readStreet_16 rfl rfl dX9_readStreet_40 ?_
      refine go_iload_n O dX9_readStreet_43 rfl 1 rfl ?_
      obtain ⟨hb32, hF⟩ := chk_s hF
      refine go_iald (k := 3) O (by decide : (3 : Nat) < 27) (cm_3 G (S10.1 3) (S10.2 3)) (inB_in hb32) dX9_readStreet_44 ?_
      refine go_icmp_ge (tgt := 157) O dX9_readStreet_45 (by decide) (fun hc54 => ?_) (fun hc54 => ?_)
      · replace hF := it_t hc54 hF
        refine go_perm (ls' := []) [] rfl ?_
        exact ret_q hF (fun hq => hE _ hq)
      · replace hF := it_f hc54 hF
        refine go_aload_n O dX9_readStreet_48 rfl 0 rfl ?_
        refine go_iload_n O dX9_readStreet_49 rfl 1 rfl ?_
        obtain ⟨⟨x34, S35⟩, hA33, hF⟩ := bd_s hF
        refine go_callVi (As := [.int p1]) (rest := []) (b := 0) O (c_X9_nextByte l G hI hA33) (fun s args hts => cwV 1 hts gX9_readStreet_X9_nextByte rfl rfl rfl (by decide +kernel) ⟨Nat.le_of_ble_eq_true rfl, Nat.le_of_ble_eq_true rfl⟩) (by decide : (0 : Nat) < 27) (cm_obj G (S10.1 0) (S10.2 0)) rfl rfl rfl rfl (Nat.le_of_ble_eq_true rfl) dX9_readStreet_50 ?_
        obtain ⟨x37, hA36, hF⟩ := bd_s hF
        refine go_callSi (As := [.int x34]) (rest := []) O (c_X9_kindOf l G hI hA36) (fun s args hts => va_cwS 1 hts gX9_readStreet_X9_kindOf rfl rfl rfl (by decide +kernel) ⟨Nat.le_of_ble_eq_true rfl, Nat.le_of_ble_eq_true rfl⟩) rfl rfl (Nat.le_of_ble_eq_true rfl) dX9_readStreet_53 ?_
        refine go_istore_n (ls' := [(2, .int x37), (0, .ref (G.2.1 0)), (1, .int p1)]) O dX9_readStreet_56 rfl (by decide) rfl ?_
        refine go_iload_n O dX9_readStreet_57 rfl 0 rfl ?_
        refine go_if_lt (tgt := 70) O dX9_readStreet_58 (by decide) (fun hc53 => ?_) (fun hc53 => ?_)
        · replace hF := it_t hc53 hF
          refine go_iconst (v := (0 : Int32)) O dX9_readStreet_70 (by decide) ?_
          exact ret_q hF (fun hq => hR _ hq _ _ (show vp_nar .boolean (0 : Int32) = (0 : Int32) by decide) dX9_readStreet_71)
        · replace hF := it_f hc53 hF
          refine go_aload_n O dX9_readStreet_61 rfl 1 rfl ?_
          refine go_get (k := 0) (j := 26) O (by decide : (0 : Nat) < 27) (cm_obj G (S35.1 0) (S35.2 0)) rfl in_X9_readStreet_X9 (by decide) fl_X9_readStreet_138 rfl rfl dX9_readStreet_62 ?_
          refine go_bipush (v := (7 : Int32)) O dX9_readStreet_65 (by decide) ?_
          refine go_icmp_ne (tgt := 72) O dX9_readStreet_67 (by decide) (fun hc52 => ?_) (fun hc52 => ?_)
          · replace hF := it_f hc52 hF
            refine go_aload_n O dX9_readStreet_72 rfl 1 rfl ?_
            refine go_dup O dX9_readStreet_73 rfl ?_
            refine go_get (k := 0) (j := 21) O (by decide : (0 : Nat) < 27) (cm_obj G (S35.1 0) (S35.2 0)) rfl in_X9_readStreet_X9 (by decide) fl_X9_readStreet_122 rfl rfl dX9_readStreet_74 ?_
            refine go_iconst (v := (1 : Int32)) O dX9_readStreet_77 (by decide) ?_
            refine go_iadd O dX9_readStreet_78 ?_
            obtain ⟨S38, eS38, hF⟩ := nm_s hF
            refine go_putI (k := 0) (j := 21) O (by decide : (0 : Nat) < 27) (cm_obj G (S35.1 0) (S35.2 0)) rfl in_X9_readStreet_X9 (by decide) fl_X9_readStreet_122 rfl tyX9 tyX9_ok nmX9 rfl (by decide +kernel) (Nat.le_of_ble_eq_true rfl) (cm_obj G (upd (S35.1 0) 21 ((S35.1 0 21) + (1 : Int32))) (S35.2 0)) dX9_readStreet_79 eS38 ?_
            refine go_aload_n O dX9_readStreet_82 rfl 1 rfl ?_
            refine go_iload_n O dX9_readStreet_83 rfl 2 rfl ?_
            obtain ⟨x40, hA39, hF⟩ := bd_s hF
            refine go_callVi (As := [.int p1]) (rest := []) (b := 0) O (c_X9_byteAt l G hI hA39) (fun s args hts => cwV 1 hts gX9_readStreet_X9_byteAt rfl rfl rfl (by decide +kernel) ⟨Nat.le_of_ble_eq_true rfl, Nat.le_of_ble_eq_true rfl⟩) (by decide : (0 : Nat) < 27) (cm_obj G (S38.1 0) (S38.2 0)) rfl rfl rfl rfl (Nat.le_of_ble_eq_true rfl) dX9_readStreet_84 ?_
            refine go_i2l (v := Int32.toInt64 x40) O dX9_readStreet_87 rfl ?_
            refine go_ldc2 (v := (48 : Int64)) O dX9_readStreet_88 wd_X9_readStreet_c131 ?_
            refine go_bipush (v := (48 : Int32)) O dX9_readStreet_91 (by decide) ?_
            refine go_aload_n O dX9_readStreet_93 rfl 1 rfl ?_
            refine go_get (k := 0) (j := 25) O (by decide : (0 : Nat) < 27) (cm_obj G (S38.1 0) (S38.2 0)) rfl in_X9_readStreet_X9 (by decide) fl_X9_readStreet_135 rfl rfl dX9_readStreet_94 ?_
            refine go_iadd O dX9_readStreet_97 ?_
            refine go_i2l (v := Int32.toInt64 ((48 : Int32) + (S38.1 0 25))) O dX9_readStreet_98 rfl ?_
            obtain ⟨x42, hA41, hF⟩ := bd_s hF
            refine go_callSi (As := [.long (Int32.toInt64 x40), .long (48 : Int64), .long (Int32.toInt64 ((48 : Int32) + (S38.1 0 25)))]) (rest := []) O (c_X9_in l G hI hA41) (fun s args hts => va_cwS 3 hts gX9_readStreet_X9_in rfl rfl rfl (by decide +kernel) ⟨Nat.le_of_ble_eq_true rfl, Nat.le_of_ble_eq_true rfl⟩) rfl rfl (Nat.le_of_ble_eq_true rfl) dX9_readStreet_99 ?_
            refine go_if_ne (tgt := 107) O dX9_readStreet_102 (by decide) (fun hc51 => ?_) (fun hc51 => ?_)
            · replace hF := it_f hc51 hF
              refine go_aload_n O dX9_readStreet_107 rfl 1 rfl ?_
              refine go_get (k := 0) (j := 23) O (by decide : (0 : Nat) < 27) (cm_obj G (S38.1 0) (S38.2 0)) rfl in_X9_readStreet_X9 (by decide) fl_X9_readStreet_58 rfl rfl dX9_readStreet_108 ?_
              refine go_aload_n O dX9_readStreet_111 rfl 1 rfl ?_
              refine go_get (k := 0) (j := 26) O (by decide : (0 : Nat) < 27) (cm_obj G (S38.1 0) (S38.2 0)) rfl in_X9_readStreet_X9 (by decide) fl_X9_readStreet_138 rfl rfl dX9_readStreet_112 ?_
              refine go_iload_n O dX9_readStreet_115 rfl 0 rfl ?_
              obtain ⟨hb43, hF⟩ := chk_s hF
              obtain ⟨S44, eS44, hF⟩ := nm_s hF
              refine go_iast (k := 17) O (by decide : (17 : Nat) < 27) (fun f => (cm_17 G f (S38.2 17))) (inB_in hb43) dX9_readStreet_116 eS44 ?_
              refine go_aload_n O dX9_readStreet_117 rfl 1 rfl ?_
              refine go_get (k := 0) (j := 24) O (by decide : (0 : Nat) < 27) (cm_obj G (S44.1 0) (S44.2 0)) rfl in_X9_readStreet_X9 (by decide) fl_X9_readStreet_61 rfl rfl dX9_readStreet_118 ?_
              refine go_aload_n O dX9_readStreet_121 rfl 1 rfl ?_
              refine go_get (k := 0) (j := 26) O (by decide : (0 : Nat) < 27) (cm_obj G (S44.1 0) (S44.2 0)) rfl in_X9_readStreet_X9 (by decide) fl_X9_readStreet_138 rfl rfl dX9_readStreet_122 ?_
              refine go_aload_n O dX9_readStreet_125 rfl 1 rfl ?_
              refine go_iload_n O dX9_readStreet_126 rfl 2 rfl ?_
              obtain ⟨x46, hA45, hF⟩ := bd_s hF
              refine go_callVi (As := [.int p1]) (rest := [.int (S44.1 0 26), .ref (G.2.1 18)]) (b := 0) O (c_X9_byteAt l G hI hA45) (fun s args hts => cwV 1 hts gX9_readStreet_X9_byteAt rfl rfl rfl (by decide +kernel) ⟨Nat.le_of_ble_eq_true rfl, Nat.le_of_ble_eq_true rfl⟩) (by decide : (0 : Nat) < 27) (cm_obj G (S44.1 0) (S44.2 0)) rfl rfl rfl rfl (Nat.le_of_ble_eq_true rfl) dX9_readStreet_127 ?_
              refine go_bipush (v := (48 : Int32)) O dX9_readStreet_130 (by decide) ?_
              refine go_isub O dX9_readStreet_132 ?_
              obtain ⟨hb47, hF⟩ := chk_s hF
              obtain ⟨S48, eS48, hF⟩ := nm_s hF
              refine go_iast (k := 18) O (by decide : (18 : Nat) < 27) (fun f => (cm_18 G f (S44.2 18))) (inB_in hb47) dX9_readStreet_133 eS48 ?_
              refine go_aload_n O dX9_readStreet_134 rfl 1 rfl ?_
              refine go_dup O dX9_readStreet_135 rfl ?_
              refine go_get (k := 0) (j := 26) O (by decide : (0 : Nat) < 27) (cm_obj G (S48.1 0) (S48.2 0)) rfl in_X9_readStreet_X9 (by decide) fl_X9_readStreet_138 rfl rfl dX9_readStreet_136 ?_
              refine go_iconst (v := (1 : Int32)) O dX9_readStreet_139 (by decide) ?_
              refine go_iadd O dX9_readStreet_140 ?_
              obtain ⟨S49, eS49, hF⟩ := nm_s hF
              refine go_putI (k := 0) (j := 26) O (by decide : (0 : Nat) < 27) (cm_obj G (S48.1 0) (S48.2 0)) rfl in_X9_readStreet_X9 (by decide) fl_X9_readStreet_138 rfl tyX9 tyX9_ok nmX9 rfl (by decide +kernel) (Nat.le_of_ble_eq_true rfl) (cm_obj G (upd (S48.1 0) 26 ((S48.1 0 26) + (1 : Int32))) (S48.2 0)) dX9_readStreet_141 eS49 ?_
              refine go_aload_n O dX9_readStreet_144 rfl 1 rfl ?_
              refine go_dup O dX9_readStreet_145 rfl ?_
              refine go_get (k := 0) (j := 21) O (by decide : (0 : Nat) < 27) (cm_obj G (S49.1 0) (S49.2 0)) rfl in_X9_readStreet_X9 (by decide) fl_X9_readStreet_122 rfl rfl dX9_readStreet_146 ?_
              refine go_iconst (v := (1 : Int32)) O dX9_readStreet_149 (by decide) ?_
              refine go_iadd O dX9_readStreet_150 ?_
              obtain ⟨S50, eS50, hF⟩ := nm_s hF
              refine go_putI (k := 0) (j := 21) O (by decide : (0 : Nat) < 27) (cm_obj G (S49.1 0) (S49.2 0)) rfl in_X9_readStreet_X9 (by decide) fl_X9_readStreet_122 rfl tyX9 tyX9_ok nmX9 rfl (by decide +kernel) (Nat.le_of_ble_eq_true rfl) (cm_obj G (upd (S49.1 0) 21 ((S49.1 0 21) + (1 : Int32))) (S49.2 0)) dX9_readStreet_151 eS50 ?_
              refine go_goto (tgt := 25) O dX9_readStreet_154 (by decide) ?_
              refine go_perm (ls' := [(0, .ref (G.2.1 0)), (1, .int p1)]) [1, 2] rfl ?_
              exact ih _ _ hF hE hR
            · replace hF := it_t hc51 hF
              refine go_iconst (v := (0 : Int32)) O dX9_readStreet_105 (by decide) ?_
              exact ret_q hF (fun hq => hR _ hq _ _ (show vp_nar .boolean (0 : Int32) = (0 : Int32) by decide) dX9_readStreet_106)
          · replace hF := it_t hc52 hF
            refine go_iconst (v := (0 : Int32)) O dX9_readStreet_70 (by decide) ?_
            exact ret_q hF (fun hq => hR _ hq _ _ (show vp_nar .boolean (0 : Int32) = (0 : Int32) by decide) dX9_readStreet_71)
def F_X9_readStreet  (S : Sg) (a1 : Int32) : Option (Int32 × Sg) := nm (wI S 0 21 (0 : Int32)) (fun S1 => nm (wI S1 0 25 (0 : Int32)) (fun S2 => nm (wI S2 0 26 (0 : Int32)) (fun S3 => bd (F_X9_readPaper S3 a1) (fun (x5, S6) => if x5 = 0 then (some ((0 : Int32), S6)) else (bd (T_X9_readStreet_25 a1 FU S6) (fun q => match q with | .inl S7 => some ((1 : Int32), S7) | .inr r => some r))))))
set_option maxHeartbeats 4000000 in
set_option maxRecDepth 100000 in
theorem c_X9_readStreet (l : Launch) (G : Gp) (hI : Ij (wM G))  {S : Sg} {a1 : Int32} {r : Int32} {S1 : Sg} (hF : F_X9_readStreet S a1 = some (r, S1)) : Met l yX9_readStreet wsX9_readStreet rm_X9_readStreet (va_Pc [.ref (G.2.1 0), .int a1] (PreW (wM G) S)) (va_Qi (fun r' u => r' = r ∧ u = S1) (PostW (wM G)) (AW (wM G))) 0 0 (AW (wM G)) := by
  rw [F_X9_readStreet] at hF
  refine met_z (cc := cX9_readStreet) (maxL := 3) (own := RX9) hI (by decide) rfl rfl (Nat.le_of_ble_eq_true rfl) (fun X O hR => ?_)
  show Go X l rm_X9_readStreet (wM G) 3 0 [(0, .ref (G.2.1 0)), (1, .int a1)] [] S
  refine go_aload_n O dX9_readStreet_0 rfl 0 rfl ?_
  refine go_iconst (v := (0 : Int32)) O dX9_readStreet_1 (by decide) ?_
  obtain ⟨S1, eS1, hF⟩ := nm_s hF
  refine go_putI (k := 0) (j := 21) O (by decide : (0 : Nat) < 27) (cm_obj G (S.1 0) (S.2 0)) rfl in_X9_readStreet_X9 (by decide) fl_X9_readStreet_122 rfl tyX9 tyX9_ok nmX9 rfl (by decide +kernel) (Nat.le_of_ble_eq_true rfl) (cm_obj G (upd (S.1 0) 21 (0 : Int32)) (S.2 0)) dX9_readStreet_2 eS1 ?_
  refine go_aload_n O dX9_readStreet_5 rfl 0 rfl ?_
  refine go_iconst (v := (0 : Int32)) O dX9_readStreet_6 (by decide) ?_
  obtain ⟨S2, eS2, hF⟩ := nm_s hF
  refine go_putI (k := 0) (j := 25) O (by decide : (0 : Nat) < 27) (cm_obj G (S1.1 0) (S1.2 0)) rfl in_X9_readStreet_X9 (by decide) fl_X9_readStreet_135 rfl tyX9 tyX9_ok nmX9 rfl (by decide +kernel) (Nat.le_of_ble_eq_true rfl) (cm_obj G (upd (S1.1 0) 25 (0 : Int32)) (S1.2 0)) dX9_readStreet_7 eS2 ?_
  refine go_aload_n O dX9_readStreet_10 rfl 0 rfl ?_
  refine go_iconst (v := (0 : Int32)) O dX9_readStreet_11 (by decide) ?_
  obtain ⟨S3, eS3, hF⟩ := nm_s hF
  refine go_putI (k := 0) (j := 26) O (by decide : (0 : Nat) < 27) (cm_obj G (S2.1 0) (S2.2 0)) rfl in_X9_readStreet_X9 (by decide) fl_X9_readStreet_138 rfl tyX9 tyX9_ok nmX9 rfl (by decide +kernel) (Nat.le_of_ble_eq_true rfl) (cm_obj G (upd (S2.1 0) 26 (0 : Int32)) (S2.2 0)) dX9_readStreet_12 eS3 ?_
  refine go_aload_n O dX9_readStreet_15 rfl 0 rfl ?_
  refine go_iload_n O dX9_readStreet_16 rfl 1 rfl ?_
  obtain ⟨⟨x5, S6⟩, hA4, hF⟩ := bd_s hF
  refine go_callVi (As := [.int a1]) (rest := []) (b := 0) O (c_X9_readPaper l G hI hA4) (fun s args hts => cwV 1 hts gX9_readStreet_X9_readPaper rfl rfl rfl (by decide +kernel) ⟨Nat.le_of_ble_eq_true rfl, Nat.le_of_ble_eq_true rfl⟩) (by decide : (0 : Nat) < 27) (cm_obj G (S3.1 0) (S3.2 0)) rfl rfl rfl rfl (Nat.le_of_ble_eq_true rfl) dX9_readStreet_17 ?_
  refine go_if_ne (tgt := 25) O dX9_readStreet_20 (by decide) (fun hc58 => ?_) (fun hc58 => ?_)
  · replace hF := it_f hc58 hF
    obtain ⟨q57, hA56, hF⟩ := bd_s hF
    refine lt_X9_readStreet_25 l G hI  O _ _ _ hA56 (fun S7 hq => ?_) ?_
    · subst hq
      refine go_iconst (v := (1 : Int32)) O dX9_readStreet_157 (by decide) ?_
      exact ret_wz hF (fun hz => hR _ _ hz dX9_readStreet_158) (show vp_nar .boolean (1 : Int32) = (1 : Int32) by decide)
    · intro r hq pc ls hz hd
      subst hq
      exact ret_pz hF (fun hz => hR _ _ hz hd) hz
  · replace hF := it_t hc58 hF
    refine go_iconst (v := (0 : Int32)) O dX9_readStreet_23 (by decide) ?_
    exact ret_wz hF (fun hz => hR _ _ hz dX9_readStreet_24) (show vp_nar .boolean (0 : Int32) = (0 : Int32) by decide)
-- X9_fault
def rm_X9_fault : Room := { frames := 3, cells := 0, slots := 0, locals := 68 }
theorem fl_X9_fault_16 : Cond.fieldLink RX9 16 "PaperWallsModel" "textSizes" "[I" ∈ wsX9_fault := by decide +kernel
theorem fl_X9_fault_122 : Cond.fieldLink RX9 122 "PaperWallsModel" "place" "I" ∈ wsX9_fault := by decide +kernel
theorem in_X9_fault_X9 : ∀ x ∈ u_ws RX9 TX9 36, x ∈ wsX9_fault := by decide +kernel
def F_X9_fault  (S : Sg) (a1 : Int32) : Option (Int32 × Sg) := bd (F_X9_isText S a1) (fun x2 => if x2 = 0 then (some ((-1 : Int32), S)) else (chk (inB a1 4) (if 0 ≤ (S.1 3 a1.toNatClampNeg) then (bd (F_X9_readStreet S a1) (fun (x5, S6) => if x5 = 0 then (some (S6.1 0 21, S6)) else (some ((-9 : Int32), S6)))) else (bd (F_X9_find S (1 : Int32)) (fun (x9, S10) => some (x9, S10))))))
set_option maxHeartbeats 4000000 in
set_option maxRecDepth 100000 in
theorem c_X9_fault (l : Launch) (G : Gp) (hI : Ij (wM G))  {S : Sg} {a1 : Int32} {r : Int32} {S1 : Sg} (hF : F_X9_fault S a1 = some (r, S1)) : Met l yX9_fault wsX9_fault rm_X9_fault (va_Pc [.ref (G.2.1 0), .int a1] (PreW (wM G) S)) (va_Qi (fun r' u => r' = r ∧ u = S1) (PostW (wM G)) (AW (wM G))) 0 0 (AW (wM G)) := by
  rw [F_X9_fault] at hF
  refine met_i (cc := cX9_fault) (maxL := 2) (own := RX9) hI (by decide) rfl rfl (Nat.le_of_ble_eq_true rfl) (fun X O hR => ?_)
  show Go X l rm_X9_fault (wM G) 2 0 [(0, .ref (G.2.1 0)), (1, .int a1)] [] S
  refine go_iload_n O dX9_fault_0 rfl 1 rfl ?_
  obtain ⟨x2, hA1, hF⟩ := bd_s hF
  refine go_callSi (As := [.int a1]) (rest := []) O (c_X9_isText l G hI hA1) (fun s args hts => va_cwS 1 hts gX9_fault_X9_isText rfl rfl rfl (by decide +kernel) ⟨Nat.le_of_ble_eq_true rfl, Nat.le_of_ble_eq_true rfl⟩) rfl rfl (Nat.le_of_ble_eq_true rfl) dX9_fault_1 ?_
  refine go_if_ne (tgt := 9) O dX9_fault_4 (by decide) (fun hc12 => ?_) (fun hc12 => ?_)
  · replace hF := it_f hc12 hF
    refine go_aload_n O dX9_fault_9 rfl 0 rfl ?_
    refine go_get (k := 0) (j := 2) O (by decide : (0 : Nat) < 27) (cm_obj G (S.1 0) (S.2 0)) rfl in_X9_fault_X9 (by decide) fl_X9_fault_16 rfl rfl dX9_fault_10 ?_
    refine go_iload_n O dX9_fault_13 rfl 1 rfl ?_
    obtain ⟨hb3, hF⟩ := chk_s hF
    refine go_iald (k := 3) O (by decide : (3 : Nat) < 27) (cm_3 G (S.1 3) (S.2 3)) (inB_in hb3) dX9_fault_14 ?_
    refine go_if_ge (tgt := 24) O dX9_fault_15 (by decide) (fun hc11 => ?_) (fun hc11 => ?_)
    · replace hF := it_t hc11 hF
      refine go_aload_n O dX9_fault_24 rfl 0 rfl ?_
      refine go_iload_n O dX9_fault_25 rfl 1 rfl ?_
      obtain ⟨⟨x5, S6⟩, hA4, hF⟩ := bd_s hF
      refine go_callVi (As := [.int a1]) (rest := []) (b := 0) O (c_X9_readStreet l G hI hA4) (fun s args hts => cwV 1 hts gX9_fault_X9_readStreet rfl rfl rfl (by decide +kernel) ⟨Nat.le_of_ble_eq_true rfl, Nat.le_of_ble_eq_true rfl⟩) (by decide : (0 : Nat) < 27) (cm_obj G (S.1 0) (S.2 0)) rfl rfl rfl rfl (Nat.le_of_ble_eq_true rfl) dX9_fault_26 ?_
      refine go_if_eq (tgt := 37) O dX9_fault_29 (by decide) (fun hc7 => ?_) (fun hc7 => ?_)
      · replace hF := it_t hc7 hF
        refine go_aload_n O dX9_fault_37 rfl 0 rfl ?_
        refine go_get (k := 0) (j := 21) O (by decide : (0 : Nat) < 27) (cm_obj G (S6.1 0) (S6.2 0)) rfl in_X9_fault_X9 (by decide) fl_X9_fault_122 rfl rfl dX9_fault_38 ?_
        exact ret_wi hF (hR _ _ dX9_fault_41)
      · replace hF := it_f hc7 hF
        refine go_bipush (v := (-9 : Int32)) O dX9_fault_32 (by decide) ?_
        refine go_goto (tgt := 41) O dX9_fault_34 (by decide) ?_
        exact ret_wi hF (hR _ _ dX9_fault_41)
    · replace hF := it_f hc11 hF
      refine go_aload_n O dX9_fault_18 rfl 0 rfl ?_
      refine go_iconst (v := (1 : Int32)) O dX9_fault_19 (by decide) ?_
      obtain ⟨⟨x9, S10⟩, hA8, hF⟩ := bd_s hF
      refine go_callVi (As := [.int (1 : Int32)]) (rest := []) (b := 0) O (c_X9_find l G hI hA8) (fun s args hts => cwV 1 hts gX9_fault_X9_find rfl rfl rfl (by decide +kernel) ⟨Nat.le_of_ble_eq_true rfl, Nat.le_of_ble_eq_true rfl⟩) (by decide : (0 : Nat) < 27) (cm_obj G (S.1 0) (S.2 0)) rfl rfl rfl rfl (Nat.le_of_ble_eq_true rfl) dX9_fault_20 ?_
      exact ret_wi hF (hR _ _ dX9_fault_23)
  · replace hF := it_t hc12 hF
    refine go_iconst (v := (-1 : Int32)) O dX9_fault_7 (by decide) ?_
    exact ret_wi hF (hR _ _ dX9_fault_8)
-- X9_street
def rm_X9_street : Room := { frames := 3, cells := 0, slots := 0, locals := 68 }
theorem fl_X9_street_16 : Cond.fieldLink RX9 16 "PaperWallsModel" "textSizes" "[I" ∈ wsX9_street := by decide +kernel
theorem fl_X9_street_22 : Cond.fieldLink RX9 22 "PaperWallsModel" "kinds" "[I" ∈ wsX9_street := by decide +kernel
theorem fl_X9_street_25 : Cond.fieldLink RX9 25 "PaperWallsModel" "where" "[I" ∈ wsX9_street := by decide +kernel
theorem fl_X9_street_28 : Cond.fieldLink RX9 28 "PaperWallsModel" "layers" "[I" ∈ wsX9_street := by decide +kernel
theorem fl_X9_street_34 : Cond.fieldLink RX9 34 "PaperWallsModel" "known" "[I" ∈ wsX9_street := by decide +kernel
theorem fl_X9_street_55 : Cond.fieldLink RX9 55 "PaperWallsModel" "readLayers" "[I" ∈ wsX9_street := by decide +kernel
theorem fl_X9_street_58 : Cond.fieldLink RX9 58 "PaperWallsModel" "readKinds" "[I" ∈ wsX9_street := by decide +kernel
theorem fl_X9_street_61 : Cond.fieldLink RX9 61 "PaperWallsModel" "readRooms" "[I" ∈ wsX9_street := by decide +kernel
theorem fl_X9_street_83 : Cond.fieldLink RX9 83 "PaperWallsModel" "isKept" "[Z" ∈ wsX9_street := by decide +kernel
theorem fl_X9_street_135 : Cond.fieldLink RX9 135 "PaperWallsModel" "readWalls" "I" ∈ wsX9_street := by decide +kernel
theorem fl_X9_street_138 : Cond.fieldLink RX9 138 "PaperWallsModel" "readPeople" "I" ∈ wsX9_street := by decide +kernel
theorem fl_X9_street_150 : Cond.fieldLink RX9 150 "PaperWallsModel" "walls" "I" ∈ wsX9_street := by decide +kernel
theorem fl_X9_street_153 : Cond.fieldLink RX9 153 "PaperWallsModel" "people" "I" ∈ wsX9_street := by decide +kernel
theorem fl_X9_street_156 : Cond.fieldLink RX9 156 "PaperWallsModel" "talkMany" "I" ∈ wsX9_street := by decide +kernel
theorem fl_X9_street_159 : Cond.fieldLink RX9 159 "PaperWallsModel" "hours" "I" ∈ wsX9_street := by decide +kernel
theorem in_X9_street_X9 : ∀ x ∈ u_ws RX9 TX9 36, x ∈ wsX9_street := by decide +kernel
def T_X9_street_63    : Nat → Int32 → Sg → Option (Sg)
  | 0, _, _ => none
  | n + 1, p2, S => if (S.1 0 8) ≤ p2 then (some S) else (chk (inB p2 6) (chk (inB p2 6) (nm (wI S 7 p2.toNatClampNeg (S.1 16 p2.toNatClampNeg)) (fun S14 => T_X9_street_63 n (p2 + (1 : Int32)) S14))))
set_option maxHeartbeats 4000000 in
set_option maxRecDepth 100000 in
theorem lt_X9_street_63 {X : XT} (l : Launch) (G : Gp) (hI : Ij (wM G))   (O : Ok X (wM G) cX9_street RX9 wsX9_street 3) : ∀ (n : Nat) (p2 : Int32) (S : Sg) (q : (Sg)), T_X9_street_63 n p2 S = some q → (Go X l rm_X9_street (wM G) 3 89 [(0, .ref (G.2.1 0))] [] q) → Go X l rm_X9_street (wM G) 3 63 [(0, .ref (G.2.1 0)), (2, .int p2)] [] S := by
  intro n
  induction n with
  | zero =>
    intro p2 S q hF
    cases hF
  | succ n ih =>
    intro p2 S q hF hE
    rw [T_X9_street_63] at hF
    refine go_iload_n O dX9_street_63 rfl 1 rfl ?_
    refine go_aload_n O dX9_street_64 rfl 0 rfl ?_
    refine go_get (k := 0) (j := 8) O (by decide : (0 : Nat) < 27) (cm_obj G (S.1 0) (S.2 0)) rfl in_X9_street_X9 (by decide) fl_X9_street_150 rfl rfl dX9_street_65 ?_
    refine go_icmp_ge (tgt := 89) O dX9_street_68 (by decide) (fun hc15 => ?_) (fun hc15 => ?_)
    · replace hF := it_t hc15 hF
      refine go_perm (ls' := [(0, .ref (G.2.1 0))]) [0] rfl ?_
      exact jn (P := fun q => Go X l rm_X9_street (wM G) 3 89 [(0, .ref (G.2.1 0))] [] q) hF hE
    · replace hF := it_f hc15 hF
      refine go_aload_n O dX9_street_71 rfl 0 rfl ?_
      refine go_get (k := 0) (j := 6) O (by decide : (0 : Nat) < 27) (cm_obj G (S.1 0) (S.2 0)) rfl in_X9_street_X9 (by decide) fl_X9_street_28 rfl rfl dX9_street_72 ?_
      refine go_iload_n O dX9_street_75 rfl 1 rfl ?_
      refine go_aload_n O dX9_street_76 rfl 0 rfl ?_
      refine go_get (k := 0) (j := 22) O (by decide : (0 : Nat) < 27) (cm_obj G (S.1 0) (S.2 0)) rfl in_X9_street_X9 (by decide) fl_X9_street_55 rfl rfl dX9_street_77 ?_
      refine go_iload_n O dX9_street_80 rfl 1 rfl ?_
      obtain ⟨hb12, hF⟩ := chk_s hF
      refine go_iald (k := 16) O (by decide : (16 : Nat) < 27) (cm_16 G (S.1 16) (S.2 16)) (inB_in hb12) dX9_street_81 ?_
      obtain ⟨hb13, hF⟩ := chk_s hF
      obtain ⟨S14, eS14, hF⟩ := nm_s hF
      refine go_iast (k := 7) O (by decide : (7 : Nat) < 27) (fun f => (cm_7 G f (S.2 7))) (inB_in hb13) dX9_street_82 eS14 ?_
      refine go_iinc (d := (1 : Int32)) (ls' := [(2, .int (p2 + (1 : Int32))), (0, .ref (G.2.1 0))]) O dX9_street_83 1 rfl (by decide) (by decide) rfl ?_
      refine go_goto (tgt := 63) O dX9_street_86 (by decide) ?_
      refine go_perm (ls' := [(0, .ref (G.2.1 0)), (2, .int (p2 + (1 : Int32)))]) [1, 0] rfl ?_
      exact ih _ _ _ hF hE
def T_X9_street_91    : Nat → Int32 → Sg → Option (Sg)
  | 0, _, _ => none
  | n + 1, p2, S => if (S.1 0 7) ≤ p2 then (some S) else (chk (inB p2 7) (chk (inB p2 7) (nm (wI S 5 p2.toNatClampNeg (S.1 17 p2.toNatClampNeg)) (fun S20 => chk (inB p2 7) (chk (inB p2 7) (nm (wI S20 6 p2.toNatClampNeg (S20.1 18 p2.toNatClampNeg)) (fun S23 => T_X9_street_91 n (p2 + (1 : Int32)) S23)))))))
set_option maxHeartbeats 4000000 in
set_option maxRecDepth 100000 in
theorem lt_X9_street_91 {X : XT} (l : Launch) (G : Gp) (hI : Ij (wM G))   (O : Ok X (wM G) cX9_street RX9 wsX9_street 3) : ∀ (n : Nat) (p2 : Int32) (S : Sg) (q : (Sg)), T_X9_street_91 n p2 S = some q → (Go X l rm_X9_street (wM G) 3 129 [(0, .ref (G.2.1 0))] [] q) → Go X l rm_X9_street (wM G) 3 91 [(0, .ref (G.2.1 0)), (2, .int p2)] [] S := by
  intro n
  induction n with
  | zero =>
    intro p2 S q hF
    cases hF
  | succ n ih =>
    intro p2 S q hF hE
    rw [T_X9_street_91] at hF
    refine go_iload_n O dX9_street_91 rfl 1 rfl ?_
    refine go_aload_n O dX9_street_92 rfl 0 rfl ?_
    refine go_get (k := 0) (j := 7) O (by decide : (0 : Nat) < 27) (cm_obj G (S.1 0) (S.2 0)) rfl in_X9_street_X9 (by decide) fl_X9_street_153 rfl rfl dX9_street_93 ?_
    refine go_icmp_ge (tgt := 129) O dX9_street_96 (by decide) (fun hc24 => ?_) (fun hc24 => ?_)
    · replace hF := it_t hc24 hF
      refine go_perm (ls' := [(0, .ref (G.2.1 0))]) [0] rfl ?_
      exact jn (P := fun q => Go X l rm_X9_street (wM G) 3 129 [(0, .ref (G.2.1 0))] [] q) hF hE
    · replace hF := it_f hc24 hF
      refine go_aload_n O dX9_street_99 rfl 0 rfl ?_
      refine go_get (k := 0) (j := 4) O (by decide : (0 : Nat) < 27) (cm_obj G (S.1 0) (S.2 0)) rfl in_X9_street_X9 (by decide) fl_X9_street_22 rfl rfl dX9_street_100 ?_
      refine go_iload_n O dX9_street_103 rfl 1 rfl ?_
      refine go_aload_n O dX9_street_104 rfl 0 rfl ?_
      refine go_get (k := 0) (j := 23) O (by decide : (0 : Nat) < 27) (cm_obj G (S.1 0) (S.2 0)) rfl in_X9_street_X9 (by decide) fl_X9_street_58 rfl rfl dX9_street_105 ?_
      refine go_iload_n O dX9_street_108 rfl 1 rfl ?_
      obtain ⟨hb18, hF⟩ := chk_s hF
      refine go_iald (k := 17) O (by decide : (17 : Nat) < 27) (cm_17 G (S.1 17) (S.2 17)) (inB_in hb18) dX9_street_109 ?_
      obtain ⟨hb19, hF⟩ := chk_s hF
      obtain ⟨S20, eS20, hF⟩ := nm_s hF
      refine go_iast (k := 5) O (by decide : (5 : Nat) < 27) (fun f => (cm_5 G f (S.2 5))) (inB_in hb19) dX9_street_110 eS20 ?_
      refine go_aload_n O dX9_street_111 rfl 0 rfl ?_
      refine go_get (k := 0) (j := 5) O (by decide : (0 : Nat) < 27) (cm_obj G (S20.1 0) (S20.2 0)) rfl in_X9_street_X9 (by decide) fl_X9_street_25 rfl rfl dX9_street_112 ?_
      refine go_iload_n O dX9_street_115 rfl 1 rfl ?_
      refine go_aload_n O dX9_street_116 rfl 0 rfl ?_
      refine go_get (k := 0) (j := 24) O (by decide : (0 : Nat) < 27) (cm_obj G (S20.1 0) (S20.2 0)) rfl in_X9_street_X9 (by decide) fl_X9_street_61 rfl rfl dX9_street_117 ?_
      refine go_iload_n O dX9_street_120 rfl 1 rfl ?_
      obtain ⟨hb21, hF⟩ := chk_s hF
      refine go_iald (k := 18) O (by decide : (18 : Nat) < 27) (cm_18 G (S20.1 18) (S20.2 18)) (inB_in hb21) dX9_street_121 ?_
      obtain ⟨hb22, hF⟩ := chk_s hF
      obtain ⟨S23, eS23, hF⟩ := nm_s hF
      refine go_iast (k := 6) O (by decide : (6 : Nat) < 27) (fun f => (cm_6 G f (S20.2 6))) (inB_in hb22) dX9_street_122 eS23 ?_
      refine go_iinc (d := (1 : Int32)) (ls' := [(2, .int (p2 + (1 : Int32))), (0, .ref (G.2.1 0))]) O dX9_street_123 1 rfl (by decide) (by decide) rfl ?_
      refine go_goto (tgt := 91) O dX9_street_126 (by decide) ?_
      refine go_perm (ls' := [(0, .ref (G.2.1 0)), (2, .int (p2 + (1 : Int32)))]) [1, 0] rfl ?_
      exact ih _ _ _ hF hE
def T_X9_street_131    : Nat → Int32 → Sg → Option (Sg)
  | 0, _, _ => none
  | n + 1, p2, S => if (8 : Int32) ≤ p2 then (some S) else (chk (inB p2 8) (nm (wI S 9 p2.toNatClampNeg (0 : Int32)) (fun S28 => T_X9_street_131 n (p2 + (1 : Int32)) S28)))
set_option maxHeartbeats 4000000 in
set_option maxRecDepth 100000 in
theorem lt_X9_street_131 {X : XT} (l : Launch) (G : Gp) (hI : Ij (wM G))   (O : Ok X (wM G) cX9_street RX9 wsX9_street 3) : ∀ (n : Nat) (p2 : Int32) (S : Sg) (q : (Sg)), T_X9_street_131 n p2 S = some q → (Go X l rm_X9_street (wM G) 3 150 [(0, .ref (G.2.1 0))] [] q) → Go X l rm_X9_street (wM G) 3 131 [(0, .ref (G.2.1 0)), (2, .int p2)] [] S := by
  intro n
  induction n with
  | zero =>
    intro p2 S q hF
    cases hF
  | succ n ih =>
    intro p2 S q hF hE
    rw [T_X9_street_131] at hF
    refine go_iload_n O dX9_street_131 rfl 1 rfl ?_
    refine go_bipush (v := (8 : Int32)) O dX9_street_132 (by decide) ?_
    refine go_icmp_ge (tgt := 150) O dX9_street_134 (by decide) (fun hc29 => ?_) (fun hc29 => ?_)
    · replace hF := it_t hc29 hF
      refine go_perm (ls' := [(0, .ref (G.2.1 0))]) [0] rfl ?_
      exact jn (P := fun q => Go X l rm_X9_street (wM G) 3 150 [(0, .ref (G.2.1 0))] [] q) hF hE
    · replace hF := it_f hc29 hF
      refine go_aload_n O dX9_street_137 rfl 0 rfl ?_
      refine go_get (k := 0) (j := 11) O (by decide : (0 : Nat) < 27) (cm_obj G (S.1 0) (S.2 0)) rfl in_X9_street_X9 (by decide) fl_X9_street_34 rfl rfl dX9_street_138 ?_
      refine go_iload_n O dX9_street_141 rfl 1 rfl ?_
      refine go_iconst (v := (0 : Int32)) O dX9_street_142 (by decide) ?_
      obtain ⟨hb27, hF⟩ := chk_s hF
      obtain ⟨S28, eS28, hF⟩ := nm_s hF
      refine go_iast (k := 9) O (by decide : (9 : Nat) < 27) (fun f => (cm_9 G f (S.2 9))) (inB_in hb27) dX9_street_143 eS28 ?_
      refine go_iinc (d := (1 : Int32)) (ls' := [(2, .int (p2 + (1 : Int32))), (0, .ref (G.2.1 0))]) O dX9_street_144 1 rfl (by decide) (by decide) rfl ?_
      refine go_goto (tgt := 131) O dX9_street_147 (by decide) ?_
      refine go_perm (ls' := [(0, .ref (G.2.1 0)), (2, .int (p2 + (1 : Int32)))]) [1, 0] rfl ?_
      exact ih _ _ _ hF hE
def T_X9_street_152    : Nat → Int32 → Sg → Option (Sg)
  | 0, _, _ => none
  | n + 1, p2, S => if (3 : Int32) ≤ p2 then (some S) else (chk (inB p2 3) (nm (wI S 25 p2.toNatClampNeg (vp_nar .boolean (0 : Int32))) (fun S33 => T_X9_street_152 n (p2 + (1 : Int32)) S33)))
set_option maxHeartbeats 4000000 in
set_option maxRecDepth 100000 in
theorem lt_X9_street_152 {X : XT} (l : Launch) (G : Gp) (hI : Ij (wM G))   (O : Ok X (wM G) cX9_street RX9 wsX9_street 3) : ∀ (n : Nat) (p2 : Int32) (S : Sg) (q : (Sg)), T_X9_street_152 n p2 S = some q → (Go X l rm_X9_street (wM G) 3 170 [(0, .ref (G.2.1 0))] [] q) → Go X l rm_X9_street (wM G) 3 152 [(0, .ref (G.2.1 0)), (2, .int p2)] [] S := by
  intro n
  induction n with
  | zero =>
    intro p2 S q hF
    cases hF
  | succ n ih =>
    intro p2 S q hF hE
    rw [T_X9_street_152] at hF
    refine go_iload_n O dX9_street_152 rfl 1 rfl ?_
    refine go_iconst (v := (3 : Int32)) O dX9_street_153 (by decide) ?_
    refine go_icmp_ge (tgt := 170) O dX9_street_154 (by decide) (fun hc34 => ?_) (fun hc34 => ?_)
    · replace hF := it_t hc34 hF
      refine go_perm (ls' := [(0, .ref (G.2.1 0))]) [0] rfl ?_
      exact jn (P := fun q => Go X l rm_X9_street (wM G) 3 170 [(0, .ref (G.2.1 0))] [] q) hF hE
    · replace hF := it_f hc34 hF
      refine go_aload_n O dX9_street_157 rfl 0 rfl ?_
      refine go_get (k := 0) (j := 33) O (by decide : (0 : Nat) < 27) (cm_obj G (S.1 0) (S.2 0)) rfl in_X9_street_X9 (by decide) fl_X9_street_83 rfl rfl dX9_street_158 ?_
      refine go_iload_n O dX9_street_161 rfl 1 rfl ?_
      refine go_iconst (v := (0 : Int32)) O dX9_street_162 (by decide) ?_
      obtain ⟨hb32, hF⟩ := chk_s hF
      obtain ⟨S33, eS33, hF⟩ := nm_s hF
      refine go_zast (k := 25) O (by decide : (25 : Nat) < 27) (fun f => (cm_25 G f (S.2 25))) (inB_in hb32) dX9_street_163 eS33 ?_
      refine go_iinc (d := (1 : Int32)) (ls' := [(2, .int (p2 + (1 : Int32))), (0, .ref (G.2.1 0))]) O dX9_street_164 1 rfl (by decide) (by decide) rfl ?_
      refine go_goto (tgt := 152) O dX9_street_167 (by decide) ?_
      refine go_perm (ls' := [(0, .ref (G.2.1 0)), (2, .int (p2 + (1 : Int32)))]) [1, 0] rfl ?_
      exact ih _ _ _ hF hE
def F_X9_street  (S : Sg) (a1 : Int32) : Option (Int32 × Sg) := bd (F_X9_isText S a1) (fun x2 => if x2 = 0 then (some ((-1 : Int32), S)) else (chk (inB a1 4) (if 0 ≤ (S.1 3 a1.toNatClampNeg) then (bd (F_X9_readStreet S a1) (fun (x5, S6) => if x5 = 0 then (some ((-4 : Int32), S6)) else (nm (wI S6 0 8 (S6.1 0 25)) (fun S7 => nm (wI S7 0 7 (S7.1 0 26)) (fun S8 => nm (wI S8 0 10 (0 : Int32)) (fun S9 => nm (wI S9 0 16 (0 : Int32)) (fun S10 => bd (T_X9_street_63 FU (0 : Int32) S10) (fun S11 => bd (T_X9_street_91 FU (0 : Int32) S11) (fun S17 => bd (T_X9_street_131 FU (0 : Int32) S17) (fun S26 => bd (T_X9_street_152 FU (0 : Int32) S26) (fun S31 => some (S31.1 0 7, S31)))))))))))) else (bd (F_X9_find S (1 : Int32)) (fun (x38, S39) => some (x38, S39))))))
set_option maxHeartbeats 4000000 in
set_option maxRecDepth 100000 in
theorem c_X9_street (l : Launch) (G : Gp) (hI : Ij (wM G))  {S : Sg} {a1 : Int32} {r : Int32} {S1 : Sg} (hF : F_X9_street S a1 = some (r, S1)) : Met l yX9_street wsX9_street rm_X9_street (va_Pc [.ref (G.2.1 0), .int a1] (PreW (wM G) S)) (va_Qi (fun r' u => r' = r ∧ u = S1) (PostW (wM G)) (AW (wM G))) 0 0 (AW (wM G)) := by
  rw [F_X9_street] at hF
  refine met_i (cc := cX9_street) (maxL := 3) (own := RX9) hI (by decide) rfl rfl (Nat.le_of_ble_eq_true rfl) (fun X O hR => ?_)
  show Go X l rm_X9_street (wM G) 3 0 [(0, .ref (G.2.1 0)), (1, .int a1)] [] S
  refine go_iload_n O dX9_street_0 rfl 1 rfl ?_
  obtain ⟨x2, hA1, hF⟩ := bd_s hF
  refine go_callSi (As := [.int a1]) (rest := []) O (c_X9_isText l G hI hA1) (fun s args hts => va_cwS 1 hts gX9_street_X9_isText rfl rfl rfl (by decide +kernel) ⟨Nat.le_of_ble_eq_true rfl, Nat.le_of_ble_eq_true rfl⟩) rfl rfl (Nat.le_of_ble_eq_true rfl) dX9_street_1 ?_
  refine go_if_ne (tgt := 9) O dX9_street_4 (by decide) (fun hc41 => ?_) (fun hc41 => ?_)
  · replace hF := it_f hc41 hF
    refine go_aload_n O dX9_street_9 rfl 0 rfl ?_
    refine go_get (k := 0) (j := 2) O (by decide : (0 : Nat) < 27) (cm_obj G (S.1 0) (S.2 0)) rfl in_X9_street_X9 (by decide) fl_X9_street_16 rfl rfl dX9_street_10 ?_
    refine go_iload_n O dX9_street_13 rfl 1 rfl ?_
    obtain ⟨hb3, hF⟩ := chk_s hF
    refine go_iald (k := 3) O (by decide : (3 : Nat) < 27) (cm_3 G (S.1 3) (S.2 3)) (inB_in hb3) dX9_street_14 ?_
    refine go_if_ge (tgt := 24) O dX9_street_15 (by decide) (fun hc40 => ?_) (fun hc40 => ?_)
    · replace hF := it_t hc40 hF
      refine go_aload_n O dX9_street_24 rfl 0 rfl ?_
      refine go_iload_n O dX9_street_25 rfl 1 rfl ?_
      obtain ⟨⟨x5, S6⟩, hA4, hF⟩ := bd_s hF
      refine go_callVi (As := [.int a1]) (rest := []) (b := 0) O (c_X9_readStreet l G hI hA4) (fun s args hts => cwV 1 hts gX9_street_X9_readStreet rfl rfl rfl (by decide +kernel) ⟨Nat.le_of_ble_eq_true rfl, Nat.le_of_ble_eq_true rfl⟩) (by decide : (0 : Nat) < 27) (cm_obj G (S.1 0) (S.2 0)) rfl rfl rfl rfl (Nat.le_of_ble_eq_true rfl) dX9_street_26 ?_
      refine go_if_ne (tgt := 35) O dX9_street_29 (by decide) (fun hc36 => ?_) (fun hc36 => ?_)
      · replace hF := it_f hc36 hF
        refine go_aload_n O dX9_street_35 rfl 0 rfl ?_
        refine go_aload_n O dX9_street_36 rfl 0 rfl ?_
        refine go_get (k := 0) (j := 25) O (by decide : (0 : Nat) < 27) (cm_obj G (S6.1 0) (S6.2 0)) rfl in_X9_street_X9 (by decide) fl_X9_street_135 rfl rfl dX9_street_37 ?_
        obtain ⟨S7, eS7, hF⟩ := nm_s hF
        refine go_putI (k := 0) (j := 8) O (by decide : (0 : Nat) < 27) (cm_obj G (S6.1 0) (S6.2 0)) rfl in_X9_street_X9 (by decide) fl_X9_street_150 rfl tyX9 tyX9_ok nmX9 rfl (by decide +kernel) (Nat.le_of_ble_eq_true rfl) (cm_obj G (upd (S6.1 0) 8 (S6.1 0 25)) (S6.2 0)) dX9_street_40 eS7 ?_
        refine go_aload_n O dX9_street_43 rfl 0 rfl ?_
        refine go_aload_n O dX9_street_44 rfl 0 rfl ?_
        refine go_get (k := 0) (j := 26) O (by decide : (0 : Nat) < 27) (cm_obj G (S7.1 0) (S7.2 0)) rfl in_X9_street_X9 (by decide) fl_X9_street_138 rfl rfl dX9_street_45 ?_
        obtain ⟨S8, eS8, hF⟩ := nm_s hF
        refine go_putI (k := 0) (j := 7) O (by decide : (0 : Nat) < 27) (cm_obj G (S7.1 0) (S7.2 0)) rfl in_X9_street_X9 (by decide) fl_X9_street_153 rfl tyX9 tyX9_ok nmX9 rfl (by decide +kernel) (Nat.le_of_ble_eq_true rfl) (cm_obj G (upd (S7.1 0) 7 (S7.1 0 26)) (S7.2 0)) dX9_street_48 eS8 ?_
        refine go_aload_n O dX9_street_51 rfl 0 rfl ?_
        refine go_iconst (v := (0 : Int32)) O dX9_street_52 (by decide) ?_
        obtain ⟨S9, eS9, hF⟩ := nm_s hF
        refine go_putI (k := 0) (j := 10) O (by decide : (0 : Nat) < 27) (cm_obj G (S8.1 0) (S8.2 0)) rfl in_X9_street_X9 (by decide) fl_X9_street_156 rfl tyX9 tyX9_ok nmX9 rfl (by decide +kernel) (Nat.le_of_ble_eq_true rfl) (cm_obj G (upd (S8.1 0) 10 (0 : Int32)) (S8.2 0)) dX9_street_53 eS9 ?_
        refine go_aload_n O dX9_street_56 rfl 0 rfl ?_
        refine go_iconst (v := (0 : Int32)) O dX9_street_57 (by decide) ?_
        obtain ⟨S10, eS10, hF⟩ := nm_s hF
        refine go_putI (k := 0) (j := 16) O (by decide : (0 : Nat) < 27) (cm_obj G (S9.1 0) (S9.2 0)) rfl in_X9_street_X9 (by decide) fl_X9_street_159 rfl tyX9 tyX9_ok nmX9 rfl (by decide +kernel) (Nat.le_of_ble_eq_true rfl) (cm_obj G (upd (S9.1 0) 16 (0 : Int32)) (S9.2 0)) dX9_street_58 eS10 ?_
        refine go_iconst (v := (0 : Int32)) O dX9_street_61 (by decide) ?_
        refine go_istore_n (ls' := [(2, .int (0 : Int32)), (0, .ref (G.2.1 0)), (1, .int a1)]) O dX9_street_62 rfl (by decide) rfl ?_
        refine go_perm (ls' := [(0, .ref (G.2.1 0)), (2, .int (0 : Int32))]) [1, 0] rfl ?_
        obtain ⟨S11, hA16, hF⟩ := bd_s hF
        refine lt_X9_street_63 l G hI  O _ _ _ _ hA16 ?_
        refine go_iconst (v := (0 : Int32)) O dX9_street_89 (by decide) ?_
        refine go_istore_n (ls' := [(2, .int (0 : Int32)), (0, .ref (G.2.1 0))]) O dX9_street_90 rfl (by decide) rfl ?_
        refine go_perm (ls' := [(0, .ref (G.2.1 0)), (2, .int (0 : Int32))]) [1, 0] rfl ?_
        obtain ⟨S17, hA25, hF⟩ := bd_s hF
        refine lt_X9_street_91 l G hI  O _ _ _ _ hA25 ?_
        refine go_iconst (v := (0 : Int32)) O dX9_street_129 (by decide) ?_
        refine go_istore_n (ls' := [(2, .int (0 : Int32)), (0, .ref (G.2.1 0))]) O dX9_street_130 rfl (by decide) rfl ?_
        refine go_perm (ls' := [(0, .ref (G.2.1 0)), (2, .int (0 : Int32))]) [1, 0] rfl ?_
        obtain ⟨S26, hA30, hF⟩ := bd_s hF
        refine lt_X9_street_131 l G hI  O _ _ _ _ hA30 ?_
        refine go_iconst (v := (0 : Int32)) O dX9_street_150 (by decide) ?_
        refine go_istore_n (ls' := [(2, .int (0 : Int32)), (0, .ref (G.2.1 0))]) O dX9_street_151 rfl (by decide) rfl ?_
        refine go_perm (ls' := [(0, .ref (G.2.1 0)), (2, .int (0 : Int32))]) [1, 0] rfl ?_
        obtain ⟨S31, hA35, hF⟩ := bd_s hF
        refine lt_X9_street_152 l G hI  O _ _ _ _ hA35 ?_
        refine go_aload_n O dX9_street_170 rfl 0 rfl ?_
        refine go_get (k := 0) (j := 7) O (by decide : (0 : Nat) < 27) (cm_obj G (S31.1 0) (S31.2 0)) rfl in_X9_street_X9 (by decide) fl_X9_street_153 rfl rfl dX9_street_171 ?_
        exact ret_wi hF (hR _ _ dX9_street_174)
      · replace hF := it_t hc36 hF
        refine go_bipush (v := (-4 : Int32)) O dX9_street_32 (by decide) ?_
        exact ret_wi hF (hR _ _ dX9_street_34)
    · replace hF := it_f hc40 hF
      refine go_aload_n O dX9_street_18 rfl 0 rfl ?_
      refine go_iconst (v := (1 : Int32)) O dX9_street_19 (by decide) ?_
      obtain ⟨⟨x38, S39⟩, hA37, hF⟩ := bd_s hF
      refine go_callVi (As := [.int (1 : Int32)]) (rest := []) (b := 0) O (c_X9_find l G hI hA37) (fun s args hts => cwV 1 hts gX9_street_X9_find rfl rfl rfl (by decide +kernel) ⟨Nat.le_of_ble_eq_true rfl, Nat.le_of_ble_eq_true rfl⟩) (by decide : (0 : Nat) < 27) (cm_obj G (S.1 0) (S.2 0)) rfl rfl rfl rfl (Nat.le_of_ble_eq_true rfl) dX9_street_20 ?_
      exact ret_wi hF (hR _ _ dX9_street_23)
  · replace hF := it_t hc41 hF
    refine go_iconst (v := (-1 : Int32)) O dX9_street_7 (by decide) ?_
    exact ret_wi hF (hR _ _ dX9_street_8)
