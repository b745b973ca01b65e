-- X8_isRow
def rm_X8_isRow : Room := { frames := 0, cells := 0, slots := 0, locals := 0 }
def F_X8_isRow  (S : Sg) (a0 : Int32) : Option Int32 := if a0 < 0 then (some (0 : Int32)) else (if (6 : Int32) ≤ a0 then (some (0 : Int32)) else (some (1 : Int32)))
set_option maxHeartbeats 4000000 in
set_option maxRecDepth 100000 in
theorem c_X8_isRow (l : Launch) (G : Gp) (hI : Ij (wC G))  {S : Sg} {a0 : Int32} {r : Int32} (hF : F_X8_isRow S a0 = some r) : Met l yX8_isRow wsX8_isRow rm_X8_isRow (va_Pc [.int a0] (PreW (wC G) S)) (va_Qi (fun r' u => r' = r ∧ u = S) (PostW (wC G)) (AW (wC G))) 0 0 (AW (wC G)) := by
  rw [F_X8_isRow] at hF
  refine met_z (cc := cX8_isRow) (maxL := 1) (own := RX8) hI (by decide) rfl rfl (Nat.le_of_ble_eq_true rfl) (fun X O hR => ?_)
  show Go X l rm_X8_isRow (wC G) 1 0 [(0, .int a0)] [] S
  refine go_iload_n O dX8_isRow_0 rfl 0 rfl ?_
  refine go_if_lt (tgt := 14) O dX8_isRow_1 (by decide) (fun hc2 => ?_) (fun hc2 => ?_)
  · replace hF := it_t hc2 hF
    refine go_iconst (v := (0 : Int32)) O dX8_isRow_14 (by decide) ?_
    exact ret_z hF (fun hz => hR _ _ hz dX8_isRow_15) (by decide)
  · replace hF := it_f hc2 hF
    refine go_iload_n O dX8_isRow_4 rfl 0 rfl ?_
    refine go_bipush (v := (6 : Int32)) O dX8_isRow_5 (by decide) ?_
    refine go_icmp_ge (tgt := 14) O dX8_isRow_7 (by decide) (fun hc1 => ?_) (fun hc1 => ?_)
    · replace hF := it_t hc1 hF
      refine go_iconst (v := (0 : Int32)) O dX8_isRow_14 (by decide) ?_
      exact ret_z hF (fun hz => hR _ _ hz dX8_isRow_15) (by decide)
    · replace hF := it_f hc1 hF
      refine go_iconst (v := (1 : Int32)) O dX8_isRow_10 (by decide) ?_
      refine go_goto (tgt := 15) O dX8_isRow_11 (by decide) ?_
      exact ret_z hF (fun hz => hR _ _ hz dX8_isRow_15) (by decide)
-- X8_find
def rm_X8_find : Room := { frames := 0, cells := 0, slots := 0, locals := 0 }
theorem fl_X8_find_60 : Cond.fieldLink RX8 60 "PaperWalls" "tally" "[I" ∈ wsX8_find := by decide +kernel
theorem fl_X8_find_340 : Cond.fieldLink RX8 340 "PaperWalls" "latest" "I" ∈ wsX8_find := by decide +kernel
theorem in_X8_find_X8 : ∀ x ∈ u_ws RX8 TX8 12, x ∈ wsX8_find := by decide +kernel
def F_X8_find  (S : Sg) (a1 : Int32) : Option (Int32 × Sg) := nm (wI S 0 11 a1) (fun S1 => chk (inB a1 6) (chk (inB a1 6) (nm (wI S1 5 a1.toNatClampNeg ((S1.1 5 a1.toNatClampNeg) + (1 : Int32))) (fun S4 => some ((-3 : Int32), S4)))))
set_option maxHeartbeats 4000000 in
set_option maxRecDepth 100000 in
theorem c_X8_find (l : Launch) (G : Gp) (hI : Ij (wC G))  {S : Sg} {a1 : Int32} {r : Int32} {S1 : Sg} (hF : F_X8_find S a1 = some (r, S1)) : Met l yX8_find wsX8_find rm_X8_find (va_Pc [.ref (G.2.1 0), .int a1] (PreW (wC G) S)) (va_Qi (fun r' u => r' = r ∧ u = S1) (PostW (wC G)) (AW (wC G))) 0 0 (AW (wC G)) := by
  rw [F_X8_find] at hF
  refine met_i (cc := cX8_find) (maxL := 2) (own := RX8) hI (by decide) rfl rfl (Nat.le_of_ble_eq_true rfl) (fun X O hR => ?_)
  show Go X l rm_X8_find (wC G) 2 0 [(0, .ref (G.2.1 0)), (1, .int a1)] [] S
  refine go_aload_n O dX8_find_0 rfl 0 rfl ?_
  refine go_iload_n O dX8_find_1 rfl 1 rfl ?_
  obtain ⟨S1, eS1, hF⟩ := nm_s hF
  refine go_putI (k := 0) (j := 11) O (by decide : (0 : Nat) < 99) (cv_pw G (S.1 0) (S.2 0)) rfl in_X8_find_X8 (by decide) fl_X8_find_340 rfl tyX8 tyX8_ok nmX8 rfl (by decide +kernel) (Nat.le_of_ble_eq_true rfl) (cv_pw G (upd (S.1 0) 11 a1) (S.2 0)) dX8_find_2 eS1 ?_
  refine go_aload_n O dX8_find_5 rfl 0 rfl ?_
  refine go_get (k := 0) (j := 9) O (by decide : (0 : Nat) < 99) (cv_pw G (S1.1 0) (S1.2 0)) rfl in_X8_find_X8 (by decide) fl_X8_find_60 rfl rfl dX8_find_6 ?_
  refine go_iload_n O dX8_find_9 rfl 1 rfl ?_
  refine go_dup2 O dX8_find_10 rfl rfl ?_
  obtain ⟨hb2, hF⟩ := chk_s hF
  refine go_iald (k := 5) O (by decide : (5 : Nat) < 99) (cv_tally G (S1.1 5) (S1.2 5)) (inB_in hb2) dX8_find_11 ?_
  refine go_iconst (v := (1 : Int32)) O dX8_find_12 (by decide) ?_
  refine go_iadd O dX8_find_13 ?_
  obtain ⟨hb3, hF⟩ := chk_s hF
  obtain ⟨S4, eS4, hF⟩ := nm_s hF
  refine go_iast (k := 5) O (by decide : (5 : Nat) < 99) (fun f => (cv_tally G f (S1.2 5))) (inB_in hb3) dX8_find_14 eS4 ?_
  refine go_bipush (v := (-3 : Int32)) O dX8_find_15 (by decide) ?_
  exact ret_wi hF (hR _ _ dX8_find_17)
-- X8_row
def rm_X8_row : Room := { frames := 1, cells := 0, slots := 0, locals := 22 }
theorem fl_X8_row_11 : Cond.fieldLink RX8 11 "PaperWalls" "rows" "[LPaperWalls$Row;" ∈ wsX8_row := by decide +kernel
theorem in_X8_row_X8 : ∀ x ∈ u_ws RX8 TX8 12, x ∈ wsX8_row := by decide +kernel
def F_X8_row  (S : Sg) (a1 : Int32) (a2 : Int32) : Option (Int32 × Sg) := bd (F_X8_isRow S a1) (fun x2 => if x2 = 0 then (some ((-1 : Int32), S)) else (if a2 ≤ (40 : Int32) then (if 0 ≤ a2 then (chk (inB a1 6) (bd (F_X4_begin (a1).toNatClampNeg S a2) (fun S5 => some (a2, S5)))) else (bd (F_X8_find S (5 : Int32)) (fun (x7, S8) => some (x7, S8)))) else (some ((-1 : Int32), S))))
set_option maxHeartbeats 4000000 in
set_option maxRecDepth 100000 in
theorem c_X8_row (l : Launch) (G : Gp) (hI : Ij (wC G))  {S : Sg} {a1 : Int32} {a2 : Int32} {r : Int32} {S1 : Sg} (hF : F_X8_row S a1 a2 = some (r, S1)) : Met l yX8_row wsX8_row rm_X8_row (va_Pc [.ref (G.2.1 0), .int a1, .int a2] (PreW (wC G) S)) (va_Qi (fun r' u => r' = r ∧ u = S1) (PostW (wC G)) (AW (wC G))) 0 0 (AW (wC G)) := by
  rw [F_X8_row] at hF
  refine met_i (cc := cX8_row) (maxL := 3) (own := RX8) hI (by decide) rfl rfl (Nat.le_of_ble_eq_true rfl) (fun X O hR => ?_)
  show Go X l rm_X8_row (wC G) 3 0 [(0, .ref (G.2.1 0)), (1, .int a1), (2, .int a2)] [] S
  refine go_iload_n O dX8_row_0 rfl 1 rfl ?_
  obtain ⟨x2, hA1, hF⟩ := bd_s hF
  refine go_callSi (As := [.int a1]) (rest := []) O (c_X8_isRow l G hI hA1) (fun s args hts => va_cwS 1 hts gX8_row_X8_isRow rfl rfl rfl (by decide +kernel) ⟨Nat.le_of_ble_eq_true rfl, Nat.le_of_ble_eq_true rfl⟩) rfl rfl (Nat.le_of_ble_eq_true rfl) dX8_row_1 ?_
  refine go_if_eq (tgt := 13) O dX8_row_4 (by decide) (fun hc11 => ?_) (fun hc11 => ?_)
  · replace hF := it_t hc11 hF
    refine go_iconst (v := (-1 : Int32)) O dX8_row_13 (by decide) ?_
    exact ret_wi hF (hR _ _ dX8_row_14)
  · replace hF := it_f hc11 hF
    refine go_iload_n O dX8_row_7 rfl 2 rfl ?_
    refine go_bipush (v := (40 : Int32)) O dX8_row_8 (by decide) ?_
    refine go_icmp_le (tgt := 15) O dX8_row_10 (by decide) (fun hc10 => ?_) (fun hc10 => ?_)
    · replace hF := it_t hc10 hF
      refine go_iload_n O dX8_row_15 rfl 2 rfl ?_
      refine go_if_ge (tgt := 25) O dX8_row_16 (by decide) (fun hc9 => ?_) (fun hc9 => ?_)
      · replace hF := it_t hc9 hF
        refine go_aload_n O dX8_row_25 rfl 0 rfl ?_
        refine go_get (k := 0) (j := 0) O (by decide : (0 : Nat) < 99) (cv_pw G (S.1 0) (S.2 0)) rfl in_X8_row_X8 (by decide) fl_X8_row_11 rfl rfl dX8_row_26 ?_
        refine go_iload_n O dX8_row_29 rfl 1 rfl ?_
        obtain ⟨hb3, hF⟩ := chk_s hF
        refine go_aldq (k := 1) (t0 := 4) O (by decide : (1 : Nat) < 99) (cv_rows G (S.1 1) (S.2 1)) rfl (inB_in hb3) dX8_row_30 (v := .ref (G.2.1 (14 + 2 * (a1).toNatClampNeg))) rfl ?_
        refine go_iload_n O dX8_row_31 rfl 2 rfl ?_
        obtain ⟨S5, hA4, hF⟩ := bd_s hF
        refine go_callVv (As := [.int a2]) (rest := []) (b := (14 + 2 * (a1).toNatClampNeg)) O (c_X4_begin l G hI (inB_lt hb3) hA4) (fun s args hts => cwV 1 hts gX8_row_X4_begin rfl rfl rfl (by decide +kernel) ⟨Nat.le_of_ble_eq_true rfl, Nat.le_of_ble_eq_true rfl⟩) (row_lt (inB_lt hb3)) (cv_row G (inB_lt hb3) (S.1 (14 + 2 * (a1).toNatClampNeg)) (S.2 (14 + 2 * (a1).toNatClampNeg))) rfl rfl rfl rfl (Nat.le_of_ble_eq_true rfl) dX8_row_32 ?_
        refine go_iload_n O dX8_row_35 rfl 2 rfl ?_
        exact ret_wi hF (hR _ _ dX8_row_36)
      · replace hF := it_f hc9 hF
        refine go_aload_n O dX8_row_19 rfl 0 rfl ?_
        refine go_iconst (v := (5 : Int32)) O dX8_row_20 (by decide) ?_
        obtain ⟨⟨x7, S8⟩, hA6, hF⟩ := bd_s hF
        refine go_callVi (As := [.int (5 : Int32)]) (rest := []) (b := 0) O (c_X8_find l G hI hA6) (fun s args hts => cwV 1 hts gX8_row_X8_find rfl rfl rfl (by decide +kernel) ⟨Nat.le_of_ble_eq_true rfl, Nat.le_of_ble_eq_true rfl⟩) (by decide : (0 : Nat) < 99) (cv_pw G (S.1 0) (S.2 0)) rfl rfl rfl rfl (Nat.le_of_ble_eq_true rfl) dX8_row_21 ?_
        exact ret_wi hF (hR _ _ dX8_row_24)
    · replace hF := it_f hc10 hF
      refine go_iconst (v := (-1 : Int32)) O dX8_row_13 (by decide) ?_
      exact ret_wi hF (hR _ _ dX8_row_14)
-- X8_at
def rm_X8_at : Room := { frames := 1, cells := 0, slots := 0, locals := 21 }
theorem fl_X8_at_11 : Cond.fieldLink RX8 11 "PaperWalls" "rows" "[LPaperWalls$Row;" ∈ wsX8_at := by decide +kernel
theorem fl_X8_at_82 : Cond.fieldLink RX8 82 "PaperWalls$Row" "ints" "[I" ∈ wsX8_at := by decide +kernel
theorem fl_X8_at_92 : Cond.fieldLink RX8 92 "PaperWalls" "told" "I" ∈ wsX8_at := by decide +kernel
theorem in_X8_at_X4 : ∀ x ∈ u_ws RX4 TX4 2, x ∈ wsX8_at := by decide +kernel
theorem in_X8_at_X8 : ∀ x ∈ u_ws RX8 TX8 12, x ∈ wsX8_at := by decide +kernel
def F_X8_at  (S : Sg) (a1 : Int32) (a2 : Int32) : Option (Int32 × Sg) := bd (F_X8_isRow S a1) (fun x2 => if x2 = 0 then (some ((-1 : Int32), S)) else (chk (inB a1 6) (bd (F_X4_isMissing (a1).toNatClampNeg S) (fun x5 => if x5 = 0 then (bd (F_X4_has (a1).toNatClampNeg S a2) (fun x7 => if x7 = 0 then (bd (F_X8_find S (2 : Int32)) (fun (x11, S12) => some (x11, S12))) else (chk (inB a2 40) (nm (wI S 0 10 (S.1 (14 + 2 * (a1).toNatClampNeg + 1) a2.toNatClampNeg)) (fun S9 => some ((1 : Int32), S9)))))) else (bd (F_X8_find S (1 : Int32)) (fun (x15, S16) => some (x15, S16)))))))
set_option maxHeartbeats 4000000 in
set_option maxRecDepth 100000 in
theorem c_X8_at (l : Launch) (G : Gp) (hI : Ij (wC G))  {S : Sg} {a1 : Int32} {a2 : Int32} {r : Int32} {S1 : Sg} (hF : F_X8_at S a1 a2 = some (r, S1)) : Met l yX8_at wsX8_at rm_X8_at (va_Pc [.ref (G.2.1 0), .int a1, .int a2] (PreW (wC G) S)) (va_Qi (fun r' u => r' = r ∧ u = S1) (PostW (wC G)) (AW (wC G))) 0 0 (AW (wC G)) := by
  rw [F_X8_at] at hF
  refine met_i (cc := cX8_at) (maxL := 4) (own := RX8) hI (by decide) rfl rfl (Nat.le_of_ble_eq_true rfl) (fun X O hR => ?_)
  show Go X l rm_X8_at (wC G) 4 0 [(0, .ref (G.2.1 0)), (1, .int a1), (2, .int a2)] [] S
  refine go_iload_n O dX8_at_0 rfl 1 rfl ?_
  obtain ⟨x2, hA1, hF⟩ := bd_s hF
  refine go_callSi (As := [.int a1]) (rest := []) O (c_X8_isRow l G hI hA1) (fun s args hts => va_cwS 1 hts gX8_at_X8_isRow rfl rfl rfl (by decide +kernel) ⟨Nat.le_of_ble_eq_true rfl, Nat.le_of_ble_eq_true rfl⟩) rfl rfl (Nat.le_of_ble_eq_true rfl) dX8_at_1 ?_
  refine go_if_ne (tgt := 9) O dX8_at_4 (by decide) (fun hc18 => ?_) (fun hc18 => ?_)
  · replace hF := it_f hc18 hF
    refine go_aload_n O dX8_at_9 rfl 0 rfl ?_
    refine go_get (k := 0) (j := 0) O (by decide : (0 : Nat) < 99) (cv_pw G (S.1 0) (S.2 0)) rfl in_X8_at_X8 (by decide) fl_X8_at_11 rfl rfl dX8_at_10 ?_
    refine go_iload_n O dX8_at_13 rfl 1 rfl ?_
    obtain ⟨hb3, hF⟩ := chk_s hF
    refine go_aldq (k := 1) (t0 := 4) O (by decide : (1 : Nat) < 99) (cv_rows G (S.1 1) (S.2 1)) rfl (inB_in hb3) dX8_at_14 (v := .ref (G.2.1 (14 + 2 * (a1).toNatClampNeg))) rfl ?_
    refine go_astore_n (ls' := [(3, .ref (G.2.1 (14 + 2 * (a1).toNatClampNeg))), (0, .ref (G.2.1 0)), (1, .int a1), (2, .int a2)]) O dX8_at_15 rfl (by decide) rfl ?_
    refine go_aload_n O dX8_at_16 rfl 0 rfl ?_
    obtain ⟨x5, hA4, hF⟩ := bd_s hF
    refine go_callVi (As := []) (rest := []) (b := (14 + 2 * (a1).toNatClampNeg)) O (c_X4_isMissing l G hI (inB_lt hb3) hA4) (fun s args hts => cwV 0 hts gX8_at_X4_isMissing rfl rfl rfl (by decide +kernel) ⟨Nat.le_of_ble_eq_true rfl, Nat.le_of_ble_eq_true rfl⟩) (row_lt (inB_lt hb3)) (cv_row G (inB_lt hb3) (S.1 (14 + 2 * (a1).toNatClampNeg)) (S.2 (14 + 2 * (a1).toNatClampNeg))) rfl rfl rfl rfl (Nat.le_of_ble_eq_true rfl) dX8_at_17 ?_
    refine go_if_eq (tgt := 29) O dX8_at_20 (by decide) (fun hc17 => ?_) (fun hc17 => ?_)
    · replace hF := it_t hc17 hF
      refine go_aload_n O dX8_at_29 rfl 0 rfl ?_
      refine go_iload_n O dX8_at_30 rfl 3 rfl ?_
      obtain ⟨x7, hA6, hF⟩ := bd_s hF
      refine go_callVi (As := [.int a2]) (rest := []) (b := (14 + 2 * (a1).toNatClampNeg)) O (c_X4_has l G hI (inB_lt hb3) hA6) (fun s args hts => cwV 1 hts gX8_at_X4_has rfl rfl rfl (by decide +kernel) ⟨Nat.le_of_ble_eq_true rfl, Nat.le_of_ble_eq_true rfl⟩) (row_lt (inB_lt hb3)) (cv_row G (inB_lt hb3) (S.1 (14 + 2 * (a1).toNatClampNeg)) (S.2 (14 + 2 * (a1).toNatClampNeg))) rfl rfl rfl rfl (Nat.le_of_ble_eq_true rfl) dX8_at_31 ?_
      refine go_if_ne (tgt := 43) O dX8_at_34 (by decide) (fun hc13 => ?_) (fun hc13 => ?_)
      · replace hF := it_f hc13 hF
        refine go_aload_n O dX8_at_43 rfl 1 rfl ?_
        refine go_aload_n O dX8_at_44 rfl 0 rfl ?_
        refine go_get (k := (14 + 2 * (a1).toNatClampNeg)) (j := 0) O (row_lt (inB_lt hb3)) (cv_row G (inB_lt hb3) (S.1 (14 + 2 * (a1).toNatClampNeg)) (S.2 (14 + 2 * (a1).toNatClampNeg))) rfl in_X8_at_X4 (by decide) fl_X8_at_82 rfl rfl dX8_at_45 ?_
        refine go_iload_n O dX8_at_48 rfl 3 rfl ?_
        obtain ⟨hb8, hF⟩ := chk_s hF
        refine go_iald (k := (14 + 2 * (a1).toNatClampNeg + 1)) O (row_lt1 (inB_lt hb3)) (cv_rowA G (inB_lt hb3) (S.1 (14 + 2 * (a1).toNatClampNeg + 1)) (S.2 (14 + 2 * (a1).toNatClampNeg + 1))) (inB_in hb8) dX8_at_49 ?_
        obtain ⟨S9, eS9, hF⟩ := nm_s hF
        refine go_putI (k := 0) (j := 10) O (by decide : (0 : Nat) < 99) (cv_pw G (S.1 0) (S.2 0)) rfl in_X8_at_X8 (by decide) fl_X8_at_92 rfl tyX8 tyX8_ok nmX8 rfl (by decide +kernel) (Nat.le_of_ble_eq_true rfl) (cv_pw G (upd (S.1 0) 10 (S.1 (14 + 2 * (a1).toNatClampNeg + 1) a2.toNatClampNeg)) (S.2 0)) dX8_at_50 eS9 ?_
        refine go_iconst (v := (1 : Int32)) O dX8_at_53 (by decide) ?_
        exact ret_wi hF (hR _ _ dX8_at_54)
      · replace hF := it_t hc13 hF
        refine go_aload_n O dX8_at_37 rfl 1 rfl ?_
        refine go_iconst (v := (2 : Int32)) O dX8_at_38 (by decide) ?_
        obtain ⟨⟨x11, S12⟩, hA10, hF⟩ := bd_s hF
        refine go_callVi (As := [.int (2 : Int32)]) (rest := []) (b := 0) O (c_X8_find l G hI hA10) (fun s args hts => cwV 1 hts gX8_at_X8_find rfl rfl rfl (by decide +kernel) ⟨Nat.le_of_ble_eq_true rfl, Nat.le_of_ble_eq_true rfl⟩) (by decide : (0 : Nat) < 99) (cv_pw G (S.1 0) (S.2 0)) rfl rfl rfl rfl (Nat.le_of_ble_eq_true rfl) dX8_at_39 ?_
        exact ret_wi hF (hR _ _ dX8_at_42)
    · replace hF := it_f hc17 hF
      refine go_aload_n O dX8_at_23 rfl 1 rfl ?_
      refine go_iconst (v := (1 : Int32)) O dX8_at_24 (by decide) ?_
      obtain ⟨⟨x15, S16⟩, hA14, hF⟩ := bd_s hF
      refine go_callVi (As := [.int (1 : Int32)]) (rest := []) (b := 0) O (c_X8_find l G hI hA14) (fun s args hts => cwV 1 hts gX8_at_X8_find rfl rfl rfl (by decide +kernel) ⟨Nat.le_of_ble_eq_true rfl, Nat.le_of_ble_eq_true rfl⟩) (by decide : (0 : Nat) < 99) (cv_pw G (S.1 0) (S.2 0)) rfl rfl rfl rfl (Nat.le_of_ble_eq_true rfl) dX8_at_25 ?_
      exact ret_wi hF (hR _ _ dX8_at_28)
  · replace hF := it_t hc18 hF
    refine go_iconst (v := (-1 : Int32)) O dX8_at_7 (by decide) ?_
    exact ret_wi hF (hR _ _ dX8_at_8)
-- X8_lay
def rm_X8_lay : Room := { frames := 2, cells := 0, slots := 0, locals := 44 }
theorem fl_X8_lay_11 : Cond.fieldLink RX8 11 "PaperWalls" "rows" "[LPaperWalls$Row;" ∈ wsX8_lay := by decide +kernel
theorem fl_X8_lay_82 : Cond.fieldLink RX8 82 "PaperWalls$Row" "ints" "[I" ∈ wsX8_lay := by decide +kernel
theorem in_X8_lay_X4 : ∀ x ∈ u_ws RX4 TX4 2, x ∈ wsX8_lay := by decide +kernel
theorem in_X8_lay_X8 : ∀ x ∈ u_ws RX8 TX8 12, x ∈ wsX8_lay := by decide +kernel
def F_X8_lay  (S : Sg) (a1 : Int32) (a2 : Int32) (a3 : Int32) : Option (Int32 × Sg) := bd (F_X8_at S a1 a2) (fun (x2, S3) => bd (if x2 = (1 : Int32) then (chk (inB a1 6) (chk (inB a2 40) (nm (wI S3 (14 + 2 * (a1).toNatClampNeg + 1) a2.toNatClampNeg a3) (fun S9 => some S9)))) else (some S3)) (fun S4 => some (x2, S4)))
set_option maxHeartbeats 4000000 in
set_option maxRecDepth 100000 in
theorem c_X8_lay (l : Launch) (G : Gp) (hI : Ij (wC G))  {S : Sg} {a1 : Int32} {a2 : Int32} {a3 : Int32} {r : Int32} {S1 : Sg} (hF : F_X8_lay S a1 a2 a3 = some (r, S1)) : Met l yX8_lay wsX8_lay rm_X8_lay (va_Pc [.ref (G.2.1 0), .int a1, .int a2, .int a3] (PreW (wC G) S)) (va_Qi (fun r' u => r' = r ∧ u = S1) (PostW (wC G)) (AW (wC G))) 0 0 (AW (wC G)) := by
  rw [F_X8_lay] at hF
  refine met_i (cc := cX8_lay) (maxL := 5) (own := RX8) hI (by decide) rfl rfl (Nat.le_of_ble_eq_true rfl) (fun X O hR => ?_)
  show Go X l rm_X8_lay (wC G) 5 0 [(0, .ref (G.2.1 0)), (1, .int a1), (2, .int a2), (3, .int a3)] [] S
  refine go_aload_n O dX8_lay_0 rfl 0 rfl ?_
  refine go_iload_n O dX8_lay_1 rfl 1 rfl ?_
  refine go_iload_n O dX8_lay_2 rfl 2 rfl ?_
  obtain ⟨⟨x2, S3⟩, hA1, hF⟩ := bd_s hF
  refine go_callVi (As := [.int a1, .int a2]) (rest := []) (b := 0) O (c_X8_at l G hI hA1) (fun s args hts => cwV 2 hts gX8_lay_X8_at rfl rfl rfl (by decide +kernel) ⟨Nat.le_of_ble_eq_true rfl, Nat.le_of_ble_eq_true rfl⟩) (by decide : (0 : Nat) < 99) (cv_pw G (S.1 0) (S.2 0)) rfl rfl rfl rfl (Nat.le_of_ble_eq_true rfl) dX8_lay_3 ?_
  refine go_istore (ls' := [(4, .int x2), (0, .ref (G.2.1 0)), (1, .int a1), (2, .int a2), (3, .int a3)]) O dX8_lay_6 (by decide) rfl ?_
  refine go_iload O dX8_lay_8 0 rfl ?_
  refine go_iconst (v := (1 : Int32)) O dX8_lay_10 (by decide) ?_
  obtain ⟨S4, hA6, hF⟩ := bd_s hF
  have J5 : Go X l rm_X8_lay (wC G) 5 26 [(4, .int x2)] [] S4 := by
    refine go_iload O dX8_lay_26 0 rfl ?_
    exact ret_wi hF (hR _ _ dX8_lay_28)
  replace hF := hA6
  refine go_icmp_ne (tgt := 26) O dX8_lay_11 (by decide) (fun hc10 => ?_) (fun hc10 => ?_)
  · replace hF := it_f hc10 hF
    refine go_perm (ls' := [(4, .int x2)]) [0] rfl ?_
    exact jn (P := fun q => Go X l rm_X8_lay (wC G) 5 26 [(4, .int x2)] [] q) hF J5
  · replace hF := it_t hc10 hF
    refine go_aload_n O dX8_lay_14 rfl 1 rfl ?_
    refine go_get (k := 0) (j := 0) O (by decide : (0 : Nat) < 99) (cv_pw G (S3.1 0) (S3.2 0)) rfl in_X8_lay_X8 (by decide) fl_X8_lay_11 rfl rfl dX8_lay_15 ?_
    refine go_iload_n O dX8_lay_18 rfl 2 rfl ?_
    obtain ⟨hb7, hF⟩ := chk_s hF
    refine go_aldq (k := 1) (t0 := 4) O (by decide : (1 : Nat) < 99) (cv_rows G (S3.1 1) (S3.2 1)) rfl (inB_in hb7) dX8_lay_19 (v := .ref (G.2.1 (14 + 2 * (a1).toNatClampNeg))) rfl ?_
    refine go_get (k := (14 + 2 * (a1).toNatClampNeg)) (j := 0) O (row_lt (inB_lt hb7)) (cv_row G (inB_lt hb7) (S3.1 (14 + 2 * (a1).toNatClampNeg)) (S3.2 (14 + 2 * (a1).toNatClampNeg))) rfl in_X8_lay_X4 (by decide) fl_X8_lay_82 rfl rfl dX8_lay_20 ?_
    refine go_iload_n O dX8_lay_23 rfl 3 rfl ?_
    refine go_iload_n O dX8_lay_24 rfl 4 rfl ?_
    obtain ⟨hb8, hF⟩ := chk_s hF
    obtain ⟨S9, eS9, hF⟩ := nm_s hF
    refine go_iast (k := (14 + 2 * (a1).toNatClampNeg + 1)) O (row_lt1 (inB_lt hb7)) (fun f => (cv_rowA G (inB_lt hb7) f (S3.2 (14 + 2 * (a1).toNatClampNeg + 1)))) (inB_in hb8) dX8_lay_25 eS9 ?_
    refine go_perm (ls' := [(4, .int x2)]) [0] rfl ?_
    exact jn (P := fun q => Go X l rm_X8_lay (wC G) 5 26 [(4, .int x2)] [] q) hF J5
-- X8_tear
def rm_X8_tear : Room := { frames := 1, cells := 0, slots := 0, locals := 21 }
theorem fl_X8_tear_11 : Cond.fieldLink RX8 11 "PaperWalls" "rows" "[LPaperWalls$Row;" ∈ wsX8_tear := by decide +kernel
theorem fl_X8_tear_96 : Cond.fieldLink RX8 96 "PaperWalls$Row" "size" "I" ∈ wsX8_tear := by decide +kernel
theorem in_X8_tear_X4 : ∀ x ∈ u_ws RX4 TX4 2, x ∈ wsX8_tear := by decide +kernel
theorem in_X8_tear_X8 : ∀ x ∈ u_ws RX8 TX8 12, x ∈ wsX8_tear := by decide +kernel
def F_X8_tear  (S : Sg) (a1 : Int32) : Option (Int32 × Sg) := bd (F_X8_isRow S a1) (fun x2 => if x2 = 0 then (some ((-1 : Int32), S)) else (chk (inB a1 6) (bd (F_X4_isMissing (a1).toNatClampNeg S) (fun x5 => if x5 = 0 then (chk (inB a1 6) (nm (wI S (14 + 2 * (a1).toNatClampNeg) 1 (-1 : Int32)) (fun S7 => some ((1 : Int32), S7)))) else (bd (F_X8_find S (1 : Int32)) (fun (x9, S10) => some (x9, S10)))))))
set_option maxHeartbeats 4000000 in
set_option maxRecDepth 100000 in
theorem c_X8_tear (l : Launch) (G : Gp) (hI : Ij (wC G))  {S : Sg} {a1 : Int32} {r : Int32} {S1 : Sg} (hF : F_X8_tear S a1 = some (r, S1)) : Met l yX8_tear wsX8_tear rm_X8_tear (va_Pc [.ref (G.2.1 0), .int a1] (PreW (wC G) S)) (va_Qi (fun r' u => r' = r ∧ u = S1) (PostW (wC G)) (AW (wC G))) 0 0 (AW (wC G)) := by
  rw [F_X8_tear] at hF
  refine met_i (cc := cX8_tear) (maxL := 2) (own := RX8) hI (by decide) rfl rfl (Nat.le_of_ble_eq_true rfl) (fun X O hR => ?_)
  show Go X l rm_X8_tear (wC G) 2 0 [(0, .ref (G.2.1 0)), (1, .int a1)] [] S
  refine go_iload_n O dX8_tear_0 rfl 1 rfl ?_
  obtain ⟨x2, hA1, hF⟩ := bd_s hF
  refine go_callSi (As := [.int a1]) (rest := []) O (c_X8_isRow l G hI hA1) (fun s args hts => va_cwS 1 hts gX8_tear_X8_isRow rfl rfl rfl (by decide +kernel) ⟨Nat.le_of_ble_eq_true rfl, Nat.le_of_ble_eq_true rfl⟩) rfl rfl (Nat.le_of_ble_eq_true rfl) dX8_tear_1 ?_
  refine go_if_ne (tgt := 9) O dX8_tear_4 (by decide) (fun hc12 => ?_) (fun hc12 => ?_)
  · replace hF := it_f hc12 hF
    refine go_aload_n O dX8_tear_9 rfl 0 rfl ?_
    refine go_get (k := 0) (j := 0) O (by decide : (0 : Nat) < 99) (cv_pw G (S.1 0) (S.2 0)) rfl in_X8_tear_X8 (by decide) fl_X8_tear_11 rfl rfl dX8_tear_10 ?_
    refine go_iload_n O dX8_tear_13 rfl 1 rfl ?_
    obtain ⟨hb3, hF⟩ := chk_s hF
    refine go_aldq (k := 1) (t0 := 4) O (by decide : (1 : Nat) < 99) (cv_rows G (S.1 1) (S.2 1)) rfl (inB_in hb3) dX8_tear_14 (v := .ref (G.2.1 (14 + 2 * (a1).toNatClampNeg))) rfl ?_
    obtain ⟨x5, hA4, hF⟩ := bd_s hF
    refine go_callVi (As := []) (rest := []) (b := (14 + 2 * (a1).toNatClampNeg)) O (c_X4_isMissing l G hI (inB_lt hb3) hA4) (fun s args hts => cwV 0 hts gX8_tear_X4_isMissing rfl rfl rfl (by decide +kernel) ⟨Nat.le_of_ble_eq_true rfl, Nat.le_of_ble_eq_true rfl⟩) (row_lt (inB_lt hb3)) (cv_row G (inB_lt hb3) (S.1 (14 + 2 * (a1).toNatClampNeg)) (S.2 (14 + 2 * (a1).toNatClampNeg))) rfl rfl rfl rfl (Nat.le_of_ble_eq_true rfl) dX8_tear_15 ?_
    refine go_if_eq (tgt := 27) O dX8_tear_18 (by decide) (fun hc11 => ?_) (fun hc11 => ?_)
    · replace hF := it_t hc11 hF
      refine go_aload_n O dX8_tear_27 rfl 0 rfl ?_
      refine go_get (k := 0) (j := 0) O (by decide : (0 : Nat) < 99) (cv_pw G (S.1 0) (S.2 0)) rfl in_X8_tear_X8 (by decide) fl_X8_tear_11 rfl rfl dX8_tear_28 ?_
      refine go_iload_n O dX8_tear_31 rfl 1 rfl ?_
      obtain ⟨hb6, hF⟩ := chk_s hF
      refine go_aldq (k := 1) (t0 := 4) O (by decide : (1 : Nat) < 99) (cv_rows G (S.1 1) (S.2 1)) rfl (inB_in hb6) dX8_tear_32 (v := .ref (G.2.1 (14 + 2 * (a1).toNatClampNeg))) rfl ?_
      refine go_iconst (v := (-1 : Int32)) O dX8_tear_33 (by decide) ?_
      obtain ⟨S7, eS7, hF⟩ := nm_s hF
      refine go_putI (k := (14 + 2 * (a1).toNatClampNeg)) (j := 1) O (row_lt (inB_lt hb6)) (cv_row G (inB_lt hb6) (S.1 (14 + 2 * (a1).toNatClampNeg)) (S.2 (14 + 2 * (a1).toNatClampNeg))) rfl in_X8_tear_X4 (by decide) fl_X8_tear_96 rfl tyX4 tyX4_ok nmX4 rfl (by decide +kernel) (Nat.le_of_ble_eq_true rfl) (cv_row G (inB_lt hb6) (upd (S.1 (14 + 2 * (a1).toNatClampNeg)) 1 (-1 : Int32)) (S.2 (14 + 2 * (a1).toNatClampNeg))) dX8_tear_34 eS7 ?_
      refine go_iconst (v := (1 : Int32)) O dX8_tear_37 (by decide) ?_
      exact ret_wi hF (hR _ _ dX8_tear_38)
    · replace hF := it_f hc11 hF
      refine go_aload_n O dX8_tear_21 rfl 0 rfl ?_
      refine go_iconst (v := (1 : Int32)) O dX8_tear_22 (by decide) ?_
      obtain ⟨⟨x9, S10⟩, hA8, hF⟩ := bd_s hF
      refine go_callVi (As := [.int (1 : Int32)]) (rest := []) (b := 0) O (c_X8_find l G hI hA8) (fun s args hts => cwV 1 hts gX8_tear_X8_find rfl rfl rfl (by decide +kernel) ⟨Nat.le_of_ble_eq_true rfl, Nat.le_of_ble_eq_true rfl⟩) (by decide : (0 : Nat) < 99) (cv_pw G (S.1 0) (S.2 0)) rfl rfl rfl rfl (Nat.le_of_ble_eq_true rfl) dX8_tear_23 ?_
      exact ret_wi hF (hR _ _ dX8_tear_26)
  · replace hF := it_t hc12 hF
    refine go_iconst (v := (-1 : Int32)) O dX8_tear_7 (by decide) ?_
    exact ret_wi hF (hR _ _ dX8_tear_8)
-- X8_copy
def rm_X8_copy : Room := { frames := 1, cells := 0, slots := 0, locals := 80 }
theorem fl_X8_copy_11 : Cond.fieldLink RX8 11 "PaperWalls" "rows" "[LPaperWalls$Row;" ∈ wsX8_copy := by decide +kernel
theorem fl_X8_copy_82 : Cond.fieldLink RX8 82 "PaperWalls$Row" "ints" "[I" ∈ wsX8_copy := by decide +kernel
theorem wd_X8_copy_iss : Cond.initialized "java/lang/System" ∈ wsX8_copy := by decide +kernel
theorem wd_X8_copy_m103 : Cond.methodLink RX8 103 arraycopyName ∈ wsX8_copy := by decide +kernel
theorem wd_X8_copy_nat : Cond.native arraycopyName ∈ wsX8_copy := by decide +kernel
theorem wd_X8_copy_sac : Cond.static arraycopyName ∈ wsX8_copy := by decide +kernel
theorem in_X8_copy_X4 : ∀ x ∈ u_ws RX4 TX4 2, x ∈ wsX8_copy := by decide +kernel
theorem in_X8_copy_X8 : ∀ x ∈ u_ws RX8 TX8 12, x ∈ wsX8_copy := by decide +kernel
def F_X8_copy  (S : Sg) (a1 : Int32) (a2 : Int32) (a3 : Int32) (a4 : Int32) (a5 : Int32) : Option (Int32 × Sg) := bd (F_X8_isRow S a1) (fun x2 => if x2 = 0 then (some ((-1 : Int32), S)) else (bd (F_X8_isRow S a3) (fun x4 => if x4 = 0 then (some ((-1 : Int32), S)) else (if 0 ≤ a5 then (chk (inB a1 6) (bd (F_X4_isMissing (a1).toNatClampNeg S) (fun x7 => if x7 = 0 then (chk (inB a3 6) (bd (F_X4_isMissing (a3).toNatClampNeg S) (fun x13 => if x13 = 0 then (chk (inB a1 6) (bd (F_X4_holds (a1).toNatClampNeg S a2 a5) (fun x16 => if x16 = 0 then (bd (F_X8_find S (2 : Int32)) (fun (x18, S19) => some (x18, S19))) else (chk (inB a3 6) (bd (F_X4_holds (a3).toNatClampNeg S a4 a5) (fun x22 => if x22 = 0 then (bd (F_X8_find S (2 : Int32)) (fun (x28, S29) => some (x28, S29))) else (chk (inB a1 6) (chk (inB a3 6) (chk (cpB a2 a4 a5 40 40) (nm (cpI S (14 + 2 * (a1).toNatClampNeg + 1) a2.toNatClampNeg (14 + 2 * (a3).toNatClampNeg + 1) a4.toNatClampNeg a5.toNatClampNeg) (fun S25 => some ((1 : Int32), S25)))))))))))) else (bd (F_X8_find S (1 : Int32)) (fun (x33, S34) => some (x33, S34)))))) else (bd (F_X8_find S (1 : Int32)) (fun (x9, S10) => some (x9, S10)))))) else (bd (F_X8_find S (5 : Int32)) (fun (x38, S39) => some (x38, S39)))))))
set_option maxHeartbeats 4000000 in
set_option maxRecDepth 100000 in
theorem c_X8_copy (l : Launch) (G : Gp) (hI : Ij (wC G))  {S : Sg} {a1 : Int32} {a2 : Int32} {a3 : Int32} {a4 : Int32} {a5 : Int32} {r : Int32} {S1 : Sg} (hF : F_X8_copy S a1 a2 a3 a4 a5 = some (r, S1)) : Met l yX8_copy wsX8_copy rm_X8_copy (va_Pc [.ref (G.2.1 0), .int a1, .int a2, .int a3, .int a4, .int a5] (PreW (wC G) S)) (va_Qi (fun r' u => r' = r ∧ u = S1) (PostW (wC G)) (AW (wC G))) 0 0 (AW (wC G)) := by
  rw [F_X8_copy] at hF
  refine met_i (cc := cX8_copy) (maxL := 6) (own := RX8) hI (by decide) rfl rfl (Nat.le_of_ble_eq_true rfl) (fun X O hR => ?_)
  show Go X l rm_X8_copy (wC G) 6 0 [(0, .ref (G.2.1 0)), (1, .int a1), (2, .int a2), (3, .int a3), (4, .int a4), (5, .int a5)] [] S
  refine go_iload_n O dX8_copy_0 rfl 1 rfl ?_
  obtain ⟨x2, hA1, hF⟩ := bd_s hF
  refine go_callSi (As := [.int a1]) (rest := []) O (c_X8_isRow l G hI hA1) (fun s args hts => va_cwS 1 hts gX8_copy_X8_isRow rfl rfl rfl (by decide +kernel) ⟨Nat.le_of_ble_eq_true rfl, Nat.le_of_ble_eq_true rfl⟩) rfl rfl (Nat.le_of_ble_eq_true rfl) dX8_copy_1 ?_
  refine go_if_eq (tgt := 14) O dX8_copy_4 (by decide) (fun hc42 => ?_) (fun hc42 => ?_)
  · replace hF := it_t hc42 hF
    refine go_iconst (v := (-1 : Int32)) O dX8_copy_14 (by decide) ?_
    exact ret_wi hF (hR _ _ dX8_copy_15)
  · replace hF := it_f hc42 hF
    refine go_iload_n O dX8_copy_7 rfl 3 rfl ?_
    obtain ⟨x4, hA3, hF⟩ := bd_s hF
    refine go_callSi (As := [.int a3]) (rest := []) O (c_X8_isRow l G hI hA3) (fun s args hts => va_cwS 1 hts gX8_copy_X8_isRow rfl rfl rfl (by decide +kernel) ⟨Nat.le_of_ble_eq_true rfl, Nat.le_of_ble_eq_true rfl⟩) rfl rfl (Nat.le_of_ble_eq_true rfl) dX8_copy_8 ?_
    refine go_if_ne (tgt := 16) O dX8_copy_11 (by decide) (fun hc41 => ?_) (fun hc41 => ?_)
    · replace hF := it_f hc41 hF
      refine go_iload O dX8_copy_16 5 rfl ?_
      refine go_if_ge (tgt := 27) O dX8_copy_18 (by decide) (fun hc40 => ?_) (fun hc40 => ?_)
      · replace hF := it_t hc40 hF
        refine go_aload_n O dX8_copy_27 rfl 0 rfl ?_
        refine go_get (k := 0) (j := 0) O (by decide : (0 : Nat) < 99) (cv_pw G (S.1 0) (S.2 0)) rfl in_X8_copy_X8 (by decide) fl_X8_copy_11 rfl rfl dX8_copy_28 ?_
        refine go_iload_n O dX8_copy_31 rfl 1 rfl ?_
        obtain ⟨hb5, hF⟩ := chk_s hF
        refine go_aldq (k := 1) (t0 := 4) O (by decide : (1 : Nat) < 99) (cv_rows G (S.1 1) (S.2 1)) rfl (inB_in hb5) dX8_copy_32 (v := .ref (G.2.1 (14 + 2 * (a1).toNatClampNeg))) rfl ?_
        obtain ⟨x7, hA6, hF⟩ := bd_s hF
        refine go_callVi (As := []) (rest := []) (b := (14 + 2 * (a1).toNatClampNeg)) O (c_X4_isMissing l G hI (inB_lt hb5) hA6) (fun s args hts => cwV 0 hts gX8_copy_X4_isMissing rfl rfl rfl (by decide +kernel) ⟨Nat.le_of_ble_eq_true rfl, Nat.le_of_ble_eq_true rfl⟩) (row_lt (inB_lt hb5)) (cv_row G (inB_lt hb5) (S.1 (14 + 2 * (a1).toNatClampNeg)) (S.2 (14 + 2 * (a1).toNatClampNeg))) rfl rfl rfl rfl (Nat.le_of_ble_eq_true rfl) dX8_copy_33 ?_
        refine go_if_ne (tgt := 51) O dX8_copy_36 (by decide) (fun hc36 => ?_) (fun hc36 => ?_)
        · replace hF := it_f hc36 hF
          refine go_aload_n O dX8_copy_51 rfl 0 rfl ?_
          refine go_iconst (v := (1 : Int32)) O dX8_copy_52 (by decide) ?_
          obtain ⟨⟨x9, S10⟩, hA8, hF⟩ := bd_s hF
          refine go_callVi (As := [.int (1 : Int32)]) (rest := []) (b := 0) O (c_X8_find l G hI hA8) (fun s args hts => cwV 1 hts gX8_copy_X8_find rfl rfl rfl (by decide +kernel) ⟨Nat.le_of_ble_eq_true rfl, Nat.le_of_ble_eq_true rfl⟩) (by decide : (0 : Nat) < 99) (cv_pw G (S.1 0) (S.2 0)) rfl rfl rfl rfl (Nat.le_of_ble_eq_true rfl) dX8_copy_53 ?_
          exact ret_wi hF (hR _ _ dX8_copy_56)
        · replace hF := it_t hc36 hF
          refine go_aload_n O dX8_copy_39 rfl 0 rfl ?_
          refine go_get (k := 0) (j := 0) O (by decide : (0 : Nat) < 99) (cv_pw G (S.1 0) (S.2 0)) rfl in_X8_copy_X8 (by decide) fl_X8_copy_11 rfl rfl dX8_copy_40 ?_
          refine go_iload_n O dX8_copy_43 rfl 3 rfl ?_
          obtain ⟨hb11, hF⟩ := chk_s hF
          refine go_aldq (k := 1) (t0 := 4) O (by decide : (1 : Nat) < 99) (cv_rows G (S.1 1) (S.2 1)) rfl (inB_in hb11) dX8_copy_44 (v := .ref (G.2.1 (14 + 2 * (a3).toNatClampNeg))) rfl ?_
          obtain ⟨x13, hA12, hF⟩ := bd_s hF
          refine go_callVi (As := []) (rest := []) (b := (14 + 2 * (a3).toNatClampNeg)) O (c_X4_isMissing l G hI (inB_lt hb11) hA12) (fun s args hts => cwV 0 hts gX8_copy_X4_isMissing rfl rfl rfl (by decide +kernel) ⟨Nat.le_of_ble_eq_true rfl, Nat.le_of_ble_eq_true rfl⟩) (row_lt (inB_lt hb11)) (cv_row G (inB_lt hb11) (S.1 (14 + 2 * (a3).toNatClampNeg)) (S.2 (14 + 2 * (a3).toNatClampNeg))) rfl rfl rfl rfl (Nat.le_of_ble_eq_true rfl) dX8_copy_45 ?_
          refine go_if_eq (tgt := 57) O dX8_copy_48 (by decide) (fun hc35 => ?_) (fun hc35 => ?_)
          · replace hF := it_t hc35 hF
            refine go_aload_n O dX8_copy_57 rfl 0 rfl ?_
            refine go_get (k := 0) (j := 0) O (by decide : (0 : Nat) < 99) (cv_pw G (S.1 0) (S.2 0)) rfl in_X8_copy_X8 (by decide) fl_X8_copy_11 rfl rfl dX8_copy_58 ?_
            refine go_iload_n O dX8_copy_61 rfl 1 rfl ?_
            obtain ⟨hb14, hF⟩ := chk_s hF
            refine go_aldq (k := 1) (t0 := 4) O (by decide : (1 : Nat) < 99) (cv_rows G (S.1 1) (S.2 1)) rfl (inB_in hb14) dX8_copy_62 (v := .ref (G.2.1 (14 + 2 * (a1).toNatClampNeg))) rfl ?_
            refine go_iload_n O dX8_copy_63 rfl 2 rfl ?_
            refine go_iload O dX8_copy_64 5 rfl ?_
            obtain ⟨x16, hA15, hF⟩ := bd_s hF
            refine go_callVi (As := [.int a2, .int a5]) (rest := []) (b := (14 + 2 * (a1).toNatClampNeg)) O (c_X4_holds l G hI (inB_lt hb14) hA15) (fun s args hts => cwV 2 hts gX8_copy_X4_holds rfl rfl rfl (by decide +kernel) ⟨Nat.le_of_ble_eq_true rfl, Nat.le_of_ble_eq_true rfl⟩) (row_lt (inB_lt hb14)) (cv_row G (inB_lt hb14) (S.1 (14 + 2 * (a1).toNatClampNeg)) (S.2 (14 + 2 * (a1).toNatClampNeg))) rfl rfl rfl rfl (Nat.le_of_ble_eq_true rfl) dX8_copy_66 ?_
            refine go_if_eq (tgt := 88) O dX8_copy_69 (by decide) (fun hc31 => ?_) (fun hc31 => ?_)
            · replace hF := it_t hc31 hF
              refine go_aload_n O dX8_copy_88 rfl 0 rfl ?_
              refine go_iconst (v := (2 : Int32)) O dX8_copy_89 (by decide) ?_
              obtain ⟨⟨x18, S19⟩, hA17, hF⟩ := bd_s hF
              refine go_callVi (As := [.int (2 : Int32)]) (rest := []) (b := 0) O (c_X8_find l G hI hA17) (fun s args hts => cwV 1 hts gX8_copy_X8_find rfl rfl rfl (by decide +kernel) ⟨Nat.le_of_ble_eq_true rfl, Nat.le_of_ble_eq_true rfl⟩) (by decide : (0 : Nat) < 99) (cv_pw G (S.1 0) (S.2 0)) rfl rfl rfl rfl (Nat.le_of_ble_eq_true rfl) dX8_copy_90 ?_
              exact ret_wi hF (hR _ _ dX8_copy_93)
            · replace hF := it_f hc31 hF
              refine go_aload_n O dX8_copy_72 rfl 0 rfl ?_
              refine go_get (k := 0) (j := 0) O (by decide : (0 : Nat) < 99) (cv_pw G (S.1 0) (S.2 0)) rfl in_X8_copy_X8 (by decide) fl_X8_copy_11 rfl rfl dX8_copy_73 ?_
              refine go_iload_n O dX8_copy_76 rfl 3 rfl ?_
              obtain ⟨hb20, hF⟩ := chk_s hF
              refine go_aldq (k := 1) (t0 := 4) O (by decide : (1 : Nat) < 99) (cv_rows G (S.1 1) (S.2 1)) rfl (inB_in hb20) dX8_copy_77 (v := .ref (G.2.1 (14 + 2 * (a3).toNatClampNeg))) rfl ?_
              refine go_iload O dX8_copy_78 4 rfl ?_
              refine go_iload O dX8_copy_80 5 rfl ?_
              obtain ⟨x22, hA21, hF⟩ := bd_s hF
              refine go_callVi (As := [.int a4, .int a5]) (rest := []) (b := (14 + 2 * (a3).toNatClampNeg)) O (c_X4_holds l G hI (inB_lt hb20) hA21) (fun s args hts => cwV 2 hts gX8_copy_X4_holds rfl rfl rfl (by decide +kernel) ⟨Nat.le_of_ble_eq_true rfl, Nat.le_of_ble_eq_true rfl⟩) (row_lt (inB_lt hb20)) (cv_row G (inB_lt hb20) (S.1 (14 + 2 * (a3).toNatClampNeg)) (S.2 (14 + 2 * (a3).toNatClampNeg))) rfl rfl rfl rfl (Nat.le_of_ble_eq_true rfl) dX8_copy_82 ?_
              refine go_if_ne (tgt := 94) O dX8_copy_85 (by decide) (fun hc30 => ?_) (fun hc30 => ?_)
              · replace hF := it_f hc30 hF
                refine go_aload_n O dX8_copy_94 rfl 0 rfl ?_
                refine go_get (k := 0) (j := 0) O (by decide : (0 : Nat) < 99) (cv_pw G (S.1 0) (S.2 0)) rfl in_X8_copy_X8 (by decide) fl_X8_copy_11 rfl rfl dX8_copy_95 ?_
                refine go_iload_n O dX8_copy_98 rfl 1 rfl ?_
                obtain ⟨hb23, hF⟩ := chk_s hF
                refine go_aldq (k := 1) (t0 := 4) O (by decide : (1 : Nat) < 99) (cv_rows G (S.1 1) (S.2 1)) rfl (inB_in hb23) dX8_copy_99 (v := .ref (G.2.1 (14 + 2 * (a1).toNatClampNeg))) rfl ?_
                refine go_get (k := (14 + 2 * (a1).toNatClampNeg)) (j := 0) O (row_lt (inB_lt hb23)) (cv_row G (inB_lt hb23) (S.1 (14 + 2 * (a1).toNatClampNeg)) (S.2 (14 + 2 * (a1).toNatClampNeg))) rfl in_X8_copy_X4 (by decide) fl_X8_copy_82 rfl rfl dX8_copy_100 ?_
                refine go_iload_n O dX8_copy_103 rfl 2 rfl ?_
                refine go_aload_n O dX8_copy_104 rfl 0 rfl ?_
                refine go_get (k := 0) (j := 0) O (by decide : (0 : Nat) < 99) (cv_pw G (S.1 0) (S.2 0)) rfl in_X8_copy_X8 (by decide) fl_X8_copy_11 rfl rfl dX8_copy_105 ?_
                refine go_iload_n O dX8_copy_108 rfl 3 rfl ?_
                obtain ⟨hb24, hF⟩ := chk_s hF
                refine go_aldq (k := 1) (t0 := 4) O (by decide : (1 : Nat) < 99) (cv_rows G (S.1 1) (S.2 1)) rfl (inB_in hb24) dX8_copy_109 (v := .ref (G.2.1 (14 + 2 * (a3).toNatClampNeg))) rfl ?_
                refine go_get (k := (14 + 2 * (a3).toNatClampNeg)) (j := 0) O (row_lt (inB_lt hb24)) (cv_row G (inB_lt hb24) (S.1 (14 + 2 * (a3).toNatClampNeg)) (S.2 (14 + 2 * (a3).toNatClampNeg))) rfl in_X8_copy_X4 (by decide) fl_X8_copy_82 rfl rfl dX8_copy_110 ?_
                refine go_iload O dX8_copy_113 4 rfl ?_
                refine go_iload O dX8_copy_115 5 rfl ?_
                obtain ⟨hc26, hF⟩ := chk_s hF
                obtain ⟨S25, eS25, hF⟩ := nm_s hF
                refine go_cpyI (k1 := (14 + 2 * (a1).toNatClampNeg + 1)) (k2 := (14 + 2 * (a3).toNatClampNeg + 1)) O wd_X8_copy_m103 wd_X8_copy_nat wd_X8_copy_sac wd_X8_copy_iss (row_lt1 (inB_lt hb23)) (row_lt1 (inB_lt hb24)) (cv_rowA G (inB_lt hb23) (S.1 (14 + 2 * (a1).toNatClampNeg + 1)) (S.2 (14 + 2 * (a1).toNatClampNeg + 1))) (cv_rowA G (inB_lt hb24) (S.1 (14 + 2 * (a3).toNatClampNeg + 1)) (S.2 (14 + 2 * (a3).toNatClampNeg + 1))) (cv_rowA G (inB_lt hb24) (va_cpy (S.1 (14 + 2 * (a1).toNatClampNeg + 1)) (S.1 (14 + 2 * (a3).toNatClampNeg + 1)) a2.toNatClampNeg a4.toNatClampNeg a5.toNatClampNeg) (S.2 (14 + 2 * (a3).toNatClampNeg + 1))) (cpB_s hc26).1 (cpB_s hc26).2.1 (cpB_s hc26).2.2.1 (cpB_s hc26).2.2.2.1 (cpB_s hc26).2.2.2.2 (by decide) (Nat.le_of_ble_eq_true rfl) dX8_copy_117 eS25 ?_
                refine go_iconst (v := (1 : Int32)) O dX8_copy_120 (by decide) ?_
                exact ret_wi hF (hR _ _ dX8_copy_121)
              · replace hF := it_t hc30 hF
                refine go_aload_n O dX8_copy_88 rfl 0 rfl ?_
                refine go_iconst (v := (2 : Int32)) O dX8_copy_89 (by decide) ?_
                obtain ⟨⟨x28, S29⟩, hA27, hF⟩ := bd_s hF
                refine go_callVi (As := [.int (2 : Int32)]) (rest := []) (b := 0) O (c_X8_find l G hI hA27) (fun s args hts => cwV 1 hts gX8_copy_X8_find rfl rfl rfl (by decide +kernel) ⟨Nat.le_of_ble_eq_true rfl, Nat.le_of_ble_eq_true rfl⟩) (by decide : (0 : Nat) < 99) (cv_pw G (S.1 0) (S.2 0)) rfl rfl rfl rfl (Nat.le_of_ble_eq_true rfl) dX8_copy_90 ?_
                exact ret_wi hF (hR _ _ dX8_copy_93)
          · replace hF := it_f hc35 hF
            refine go_aload_n O dX8_copy_51 rfl 0 rfl ?_
            refine go_iconst (v := (1 : Int32)) O dX8_copy_52 (by decide) ?_
            obtain ⟨⟨x33, S34⟩, hA32, hF⟩ := bd_s hF
            refine go_callVi (As := [.int (1 : Int32)]) (rest := []) (b := 0) O (c_X8_find l G hI hA32) (fun s args hts => cwV 1 hts gX8_copy_X8_find rfl rfl rfl (by decide +kernel) ⟨Nat.le_of_ble_eq_true rfl, Nat.le_of_ble_eq_true rfl⟩) (by decide : (0 : Nat) < 99) (cv_pw G (S.1 0) (S.2 0)) rfl rfl rfl rfl (Nat.le_of_ble_eq_true rfl) dX8_copy_53 ?_
            exact ret_wi hF (hR _ _ dX8_copy_56)
      · replace hF := it_f hc40 hF
        refine go_aload_n O dX8_copy_21 rfl 0 rfl ?_
        refine go_iconst (v := (5 : Int32)) O dX8_copy_22 (by decide) ?_
        obtain ⟨⟨x38, S39⟩, hA37, hF⟩ := bd_s hF
        refine go_callVi (As := [.int (5 : Int32)]) (rest := []) (b := 0) O (c_X8_find l G hI hA37) (fun s args hts => cwV 1 hts gX8_copy_X8_find rfl rfl rfl (by decide +kernel) ⟨Nat.le_of_ble_eq_true rfl, Nat.le_of_ble_eq_true rfl⟩) (by decide : (0 : Nat) < 99) (cv_pw G (S.1 0) (S.2 0)) rfl rfl rfl rfl (Nat.le_of_ble_eq_true rfl) dX8_copy_23 ?_
        exact ret_wi hF (hR _ _ dX8_copy_26)
    · replace hF := it_t hc41 hF
      refine go_iconst (v := (-1 : Int32)) O dX8_copy_14 (by decide) ?_
      exact ret_wi hF (hR _ _ dX8_copy_15)
-- X8_mean
def rm_X8_mean : Room := { frames := 1, cells := 0, slots := 0, locals := 23 }
theorem fl_X8_mean_11 : Cond.fieldLink RX8 11 "PaperWalls" "rows" "[LPaperWalls$Row;" ∈ wsX8_mean := by decide +kernel
theorem fl_X8_mean_92 : Cond.fieldLink RX8 92 "PaperWalls" "told" "I" ∈ wsX8_mean := by decide +kernel
theorem fl_X8_mean_96 : Cond.fieldLink RX8 96 "PaperWalls$Row" "size" "I" ∈ wsX8_mean := by decide +kernel
theorem in_X8_mean_X4 : ∀ x ∈ u_ws RX4 TX4 2, x ∈ wsX8_mean := by decide +kernel
theorem in_X8_mean_X8 : ∀ x ∈ u_ws RX8 TX8 12, x ∈ wsX8_mean := by decide +kernel
def F_X8_mean  (S : Sg) (a1 : Int32) : Option (Int32 × Sg) := bd (F_X8_isRow S a1) (fun x2 => if x2 = 0 then (some ((-1 : Int32), S)) else (chk (inB a1 6) (bd (F_X4_isMissing (a1).toNatClampNeg S) (fun x5 => if x5 = 0 then (if (S.1 (14 + 2 * (a1).toNatClampNeg) 1) = 0 then (bd (F_X8_find S (4 : Int32)) (fun (x11, S12) => some (x11, S12))) else (bd (F_X4_sum (a1).toNatClampNeg S) (fun x7 => chk (nzJ (Int32.toInt64 (S.1 (14 + 2 * (a1).toNatClampNeg) 1))) (nm (wI S 0 10 (Int64.toInt32 (x7 / (Int32.toInt64 (S.1 (14 + 2 * (a1).toNatClampNeg) 1))))) (fun S9 => some ((1 : Int32), S9)))))) else (bd (F_X8_find S (1 : Int32)) (fun (x15, S16) => some (x15, S16)))))))
set_option maxHeartbeats 4000000 in
set_option maxRecDepth 100000 in
theorem c_X8_mean (l : Launch) (G : Gp) (hI : Ij (wC G))  {S : Sg} {a1 : Int32} {r : Int32} {S1 : Sg} (hF : F_X8_mean S a1 = some (r, S1)) : Met l yX8_mean wsX8_mean rm_X8_mean (va_Pc [.ref (G.2.1 0), .int a1] (PreW (wC G) S)) (va_Qi (fun r' u => r' = r ∧ u = S1) (PostW (wC G)) (AW (wC G))) 0 0 (AW (wC G)) := by
  rw [F_X8_mean] at hF
  refine met_i (cc := cX8_mean) (maxL := 3) (own := RX8) hI (by decide) rfl rfl (Nat.le_of_ble_eq_true rfl) (fun X O hR => ?_)
  show Go X l rm_X8_mean (wC G) 3 0 [(0, .ref (G.2.1 0)), (1, .int a1)] [] S
  refine go_iload_n O dX8_mean_0 rfl 1 rfl ?_
  obtain ⟨x2, hA1, hF⟩ := bd_s hF
  refine go_callSi (As := [.int a1]) (rest := []) O (c_X8_isRow l G hI hA1) (fun s args hts => va_cwS 1 hts gX8_mean_X8_isRow rfl rfl rfl (by decide +kernel) ⟨Nat.le_of_ble_eq_true rfl, Nat.le_of_ble_eq_true rfl⟩) rfl rfl (Nat.le_of_ble_eq_true rfl) dX8_mean_1 ?_
  refine go_if_ne (tgt := 9) O dX8_mean_4 (by decide) (fun hc18 => ?_) (fun hc18 => ?_)
  · replace hF := it_f hc18 hF
    refine go_aload_n O dX8_mean_9 rfl 0 rfl ?_
    refine go_get (k := 0) (j := 0) O (by decide : (0 : Nat) < 99) (cv_pw G (S.1 0) (S.2 0)) rfl in_X8_mean_X8 (by decide) fl_X8_mean_11 rfl rfl dX8_mean_10 ?_
    refine go_iload_n O dX8_mean_13 rfl 1 rfl ?_
    obtain ⟨hb3, hF⟩ := chk_s hF
    refine go_aldq (k := 1) (t0 := 4) O (by decide : (1 : Nat) < 99) (cv_rows G (S.1 1) (S.2 1)) rfl (inB_in hb3) dX8_mean_14 (v := .ref (G.2.1 (14 + 2 * (a1).toNatClampNeg))) rfl ?_
    refine go_astore_n (ls' := [(2, .ref (G.2.1 (14 + 2 * (a1).toNatClampNeg))), (0, .ref (G.2.1 0)), (1, .int a1)]) O dX8_mean_15 rfl (by decide) rfl ?_
    refine go_aload_n O dX8_mean_16 rfl 0 rfl ?_
    obtain ⟨x5, hA4, hF⟩ := bd_s hF
    refine go_callVi (As := []) (rest := []) (b := (14 + 2 * (a1).toNatClampNeg)) O (c_X4_isMissing l G hI (inB_lt hb3) hA4) (fun s args hts => cwV 0 hts gX8_mean_X4_isMissing rfl rfl rfl (by decide +kernel) ⟨Nat.le_of_ble_eq_true rfl, Nat.le_of_ble_eq_true rfl⟩) (row_lt (inB_lt hb3)) (cv_row G (inB_lt hb3) (S.1 (14 + 2 * (a1).toNatClampNeg)) (S.2 (14 + 2 * (a1).toNatClampNeg))) rfl rfl rfl rfl (Nat.le_of_ble_eq_true rfl) dX8_mean_17 ?_
    refine go_if_eq (tgt := 29) O dX8_mean_20 (by decide) (fun hc17 => ?_) (fun hc17 => ?_)
    · replace hF := it_t hc17 hF
      refine go_aload_n O dX8_mean_29 rfl 0 rfl ?_
      refine go_get (k := (14 + 2 * (a1).toNatClampNeg)) (j := 1) O (row_lt (inB_lt hb3)) (cv_row G (inB_lt hb3) (S.1 (14 + 2 * (a1).toNatClampNeg)) (S.2 (14 + 2 * (a1).toNatClampNeg))) rfl in_X8_mean_X4 (by decide) fl_X8_mean_96 rfl rfl dX8_mean_30 ?_
      refine go_if_ne (tgt := 42) O dX8_mean_33 (by decide) (fun hc13 => ?_) (fun hc13 => ?_)
      · replace hF := it_f hc13 hF
        refine go_aload_n O dX8_mean_42 rfl 1 rfl ?_
        refine go_aload_n O dX8_mean_43 rfl 0 rfl ?_
        obtain ⟨x7, hA6, hF⟩ := bd_s hF
        refine go_callVl (As := []) (rest := [.ref (G.2.1 0)]) (b := (14 + 2 * (a1).toNatClampNeg)) O (c_X4_sum l G hI (inB_lt hb3) hA6) (fun s args hts => cwV 0 hts gX8_mean_X4_sum rfl rfl rfl (by decide +kernel) ⟨Nat.le_of_ble_eq_true rfl, Nat.le_of_ble_eq_true rfl⟩) (row_lt (inB_lt hb3)) (cv_row G (inB_lt hb3) (S.1 (14 + 2 * (a1).toNatClampNeg)) (S.2 (14 + 2 * (a1).toNatClampNeg))) rfl rfl rfl rfl (Nat.le_of_ble_eq_true rfl) dX8_mean_44 ?_
        refine go_aload_n O dX8_mean_47 rfl 0 rfl ?_
        refine go_get (k := (14 + 2 * (a1).toNatClampNeg)) (j := 1) O (row_lt (inB_lt hb3)) (cv_row G (inB_lt hb3) (S.1 (14 + 2 * (a1).toNatClampNeg)) (S.2 (14 + 2 * (a1).toNatClampNeg))) rfl in_X8_mean_X4 (by decide) fl_X8_mean_96 rfl rfl dX8_mean_48 ?_
        refine go_i2l (v := Int32.toInt64 (S.1 (14 + 2 * (a1).toNatClampNeg) 1)) O dX8_mean_51 rfl ?_
        obtain ⟨hz8, hF⟩ := chk_s hF
        refine go_ldiv O dX8_mean_52 (nzJ_s hz8) ?_
        refine go_l2i (v := Int64.toInt32 (x7 / (Int32.toInt64 (S.1 (14 + 2 * (a1).toNatClampNeg) 1)))) O dX8_mean_53 rfl ?_
        obtain ⟨S9, eS9, hF⟩ := nm_s hF
        refine go_putI (k := 0) (j := 10) O (by decide : (0 : Nat) < 99) (cv_pw G (S.1 0) (S.2 0)) rfl in_X8_mean_X8 (by decide) fl_X8_mean_92 rfl tyX8 tyX8_ok nmX8 rfl (by decide +kernel) (Nat.le_of_ble_eq_true rfl) (cv_pw G (upd (S.1 0) 10 (Int64.toInt32 (x7 / (Int32.toInt64 (S.1 (14 + 2 * (a1).toNatClampNeg) 1))))) (S.2 0)) dX8_mean_54 eS9 ?_
        refine go_iconst (v := (1 : Int32)) O dX8_mean_57 (by decide) ?_
        exact ret_wi hF (hR _ _ dX8_mean_58)
      · replace hF := it_t hc13 hF
        refine go_aload_n O dX8_mean_36 rfl 1 rfl ?_
        refine go_iconst (v := (4 : Int32)) O dX8_mean_37 (by decide) ?_
        obtain ⟨⟨x11, S12⟩, hA10, hF⟩ := bd_s hF
        refine go_callVi (As := [.int (4 : Int32)]) (rest := []) (b := 0) O (c_X8_find l G hI hA10) (fun s args hts => cwV 1 hts gX8_mean_X8_find rfl rfl rfl (by decide +kernel) ⟨Nat.le_of_ble_eq_true rfl, Nat.le_of_ble_eq_true rfl⟩) (by decide : (0 : Nat) < 99) (cv_pw G (S.1 0) (S.2 0)) rfl rfl rfl rfl (Nat.le_of_ble_eq_true rfl) dX8_mean_38 ?_
        exact ret_wi hF (hR _ _ dX8_mean_41)
    · replace hF := it_f hc17 hF
      refine go_aload_n O dX8_mean_23 rfl 1 rfl ?_
      refine go_iconst (v := (1 : Int32)) O dX8_mean_24 (by decide) ?_
      obtain ⟨⟨x15, S16⟩, hA14, hF⟩ := bd_s hF
      refine go_callVi (As := [.int (1 : Int32)]) (rest := []) (b := 0) O (c_X8_find l G hI hA14) (fun s args hts => cwV 1 hts gX8_mean_X8_find rfl rfl rfl (by decide +kernel) ⟨Nat.le_of_ble_eq_true rfl, Nat.le_of_ble_eq_true rfl⟩) (by decide : (0 : Nat) < 99) (cv_pw G (S.1 0) (S.2 0)) rfl rfl rfl rfl (Nat.le_of_ble_eq_true rfl) dX8_mean_25 ?_
      exact ret_wi hF (hR _ _ dX8_mean_28)
  · replace hF := it_t hc18 hF
    refine go_iconst (v := (-1 : Int32)) O dX8_mean_7 (by decide) ?_
    exact ret_wi hF (hR _ _ dX8_mean_8)
-- X8_isText
def rm_X8_isText : Room := { frames := 0, cells := 0, slots := 0, locals := 0 }
def F_X8_isText  (S : Sg) (a0 : Int32) : Option Int32 := if a0 < 0 then (some (0 : Int32)) else (if (4 : Int32) ≤ a0 then (some (0 : Int32)) else (some (1 : Int32)))
set_option maxHeartbeats 4000000 in
set_option maxRecDepth 100000 in
theorem c_X8_isText (l : Launch) (G : Gp) (hI : Ij (wC G))  {S : Sg} {a0 : Int32} {r : Int32} (hF : F_X8_isText S a0 = some r) : Met l yX8_isText wsX8_isText rm_X8_isText (va_Pc [.int a0] (PreW (wC G) S)) (va_Qi (fun r' u => r' = r ∧ u = S) (PostW (wC G)) (AW (wC G))) 0 0 (AW (wC G)) := by
  rw [F_X8_isText] at hF
  refine met_z (cc := cX8_isText) (maxL := 1) (own := RX8) hI (by decide) rfl rfl (Nat.le_of_ble_eq_true rfl) (fun X O hR => ?_)
  show Go X l rm_X8_isText (wC G) 1 0 [(0, .int a0)] [] S
  refine go_iload_n O dX8_isText_0 rfl 0 rfl ?_
  refine go_if_lt (tgt := 13) O dX8_isText_1 (by decide) (fun hc2 => ?_) (fun hc2 => ?_)
  · replace hF := it_t hc2 hF
    refine go_iconst (v := (0 : Int32)) O dX8_isText_13 (by decide) ?_
    exact ret_z hF (fun hz => hR _ _ hz dX8_isText_14) (by decide)
  · replace hF := it_f hc2 hF
    refine go_iload_n O dX8_isText_4 rfl 0 rfl ?_
    refine go_iconst (v := (4 : Int32)) O dX8_isText_5 (by decide) ?_
    refine go_icmp_ge (tgt := 13) O dX8_isText_6 (by decide) (fun hc1 => ?_) (fun hc1 => ?_)
    · replace hF := it_t hc1 hF
      refine go_iconst (v := (0 : Int32)) O dX8_isText_13 (by decide) ?_
      exact ret_z hF (fun hz => hR _ _ hz dX8_isText_14) (by decide)
    · replace hF := it_f hc1 hF
      refine go_iconst (v := (1 : Int32)) O dX8_isText_9 (by decide) ?_
      refine go_goto (tgt := 14) O dX8_isText_10 (by decide) ?_
      exact ret_z hF (fun hz => hR _ _ hz dX8_isText_14) (by decide)
-- X8_text
def rm_X8_text : Room := { frames := 1, cells := 0, slots := 0, locals := 22 }
theorem fl_X8_text_17 : Cond.fieldLink RX8 17 "PaperWalls" "texts" "[LPaperWalls$Text;" ∈ wsX8_text := by decide +kernel
theorem in_X8_text_X8 : ∀ x ∈ u_ws RX8 TX8 12, x ∈ wsX8_text := by decide +kernel
def F_X8_text  (S : Sg) (a1 : Int32) (a2 : Int32) : Option (Int32 × Sg) := bd (F_X8_isText S a1) (fun x2 => if x2 = 0 then (some ((-1 : Int32), S)) else (if a2 ≤ (80 : Int32) then (if 0 ≤ a2 then (chk (inB a1 4) (bd (F_X7_begin (a1).toNatClampNeg S a2) (fun S5 => some (a2, S5)))) else (bd (F_X8_find S (5 : Int32)) (fun (x7, S8) => some (x7, S8)))) else (some ((-1 : Int32), S))))
set_option maxHeartbeats 4000000 in
set_option maxRecDepth 100000 in
theorem c_X8_text (l : Launch) (G : Gp) (hI : Ij (wC G))  {S : Sg} {a1 : Int32} {a2 : Int32} {r : Int32} {S1 : Sg} (hF : F_X8_text S a1 a2 = some (r, S1)) : Met l yX8_text wsX8_text rm_X8_text (va_Pc [.ref (G.2.1 0), .int a1, .int a2] (PreW (wC G) S)) (va_Qi (fun r' u => r' = r ∧ u = S1) (PostW (wC G)) (AW (wC G))) 0 0 (AW (wC G)) := by
  rw [F_X8_text] at hF
  refine met_i (cc := cX8_text) (maxL := 3) (own := RX8) hI (by decide) rfl rfl (Nat.le_of_ble_eq_true rfl) (fun X O hR => ?_)
  show Go X l rm_X8_text (wC G) 3 0 [(0, .ref (G.2.1 0)), (1, .int a1), (2, .int a2)] [] S
  refine go_iload_n O dX8_text_0 rfl 1 rfl ?_
  obtain ⟨x2, hA1, hF⟩ := bd_s hF
  refine go_callSi (As := [.int a1]) (rest := []) O (c_X8_isText l G hI hA1) (fun s args hts => va_cwS 1 hts gX8_text_X8_isText rfl rfl rfl (by decide +kernel) ⟨Nat.le_of_ble_eq_true rfl, Nat.le_of_ble_eq_true rfl⟩) rfl rfl (Nat.le_of_ble_eq_true rfl) dX8_text_1 ?_
  refine go_if_eq (tgt := 13) O dX8_text_4 (by decide) (fun hc11 => ?_) (fun hc11 => ?_)
  · replace hF := it_t hc11 hF
    refine go_iconst (v := (-1 : Int32)) O dX8_text_13 (by decide) ?_
    exact ret_wi hF (hR _ _ dX8_text_14)
  · replace hF := it_f hc11 hF
    refine go_iload_n O dX8_text_7 rfl 2 rfl ?_
    refine go_bipush (v := (80 : Int32)) O dX8_text_8 (by decide) ?_
    refine go_icmp_le (tgt := 15) O dX8_text_10 (by decide) (fun hc10 => ?_) (fun hc10 => ?_)
    · replace hF := it_t hc10 hF
      refine go_iload_n O dX8_text_15 rfl 2 rfl ?_
      refine go_if_ge (tgt := 25) O dX8_text_16 (by decide) (fun hc9 => ?_) (fun hc9 => ?_)
      · replace hF := it_t hc9 hF
        refine go_aload_n O dX8_text_25 rfl 0 rfl ?_
        refine go_get (k := 0) (j := 1) O (by decide : (0 : Nat) < 99) (cv_pw G (S.1 0) (S.2 0)) rfl in_X8_text_X8 (by decide) fl_X8_text_17 rfl rfl dX8_text_26 ?_
        refine go_iload_n O dX8_text_29 rfl 1 rfl ?_
        obtain ⟨hb3, hF⟩ := chk_s hF
        refine go_aldq (k := 2) (t0 := 5) O (by decide : (2 : Nat) < 99) (cv_texts G (S.1 2) (S.2 2)) rfl (inB_in hb3) dX8_text_30 (v := .ref (G.2.1 (26 + 2 * (a1).toNatClampNeg))) rfl ?_
        refine go_iload_n O dX8_text_31 rfl 2 rfl ?_
        obtain ⟨S5, hA4, hF⟩ := bd_s hF
        refine go_callVv (As := [.int a2]) (rest := []) (b := (26 + 2 * (a1).toNatClampNeg)) O (c_X7_begin l G hI (inB_lt hb3) hA4) (fun s args hts => cwV 1 hts gX8_text_X7_begin rfl rfl rfl (by decide +kernel) ⟨Nat.le_of_ble_eq_true rfl, Nat.le_of_ble_eq_true rfl⟩) (txt_lt (inB_lt hb3)) (cv_txt G (inB_lt hb3) (S.1 (26 + 2 * (a1).toNatClampNeg)) (S.2 (26 + 2 * (a1).toNatClampNeg))) rfl rfl rfl rfl (Nat.le_of_ble_eq_true rfl) dX8_text_32 ?_
        refine go_iload_n O dX8_text_35 rfl 2 rfl ?_
        exact ret_wi hF (hR _ _ dX8_text_36)
      · replace hF := it_f hc9 hF
        refine go_aload_n O dX8_text_19 rfl 0 rfl ?_
        refine go_iconst (v := (5 : Int32)) O dX8_text_20 (by decide) ?_
        obtain ⟨⟨x7, S8⟩, hA6, hF⟩ := bd_s hF
        refine go_callVi (As := [.int (5 : Int32)]) (rest := []) (b := 0) O (c_X8_find l G hI hA6) (fun s args hts => cwV 1 hts gX8_text_X8_find rfl rfl rfl (by decide +kernel) ⟨Nat.le_of_ble_eq_true rfl, Nat.le_of_ble_eq_true rfl⟩) (by decide : (0 : Nat) < 99) (cv_pw G (S.1 0) (S.2 0)) rfl rfl rfl rfl (Nat.le_of_ble_eq_true rfl) dX8_text_21 ?_
        exact ret_wi hF (hR _ _ dX8_text_24)
    · replace hF := it_f hc10 hF
      refine go_iconst (v := (-1 : Int32)) O dX8_text_13 (by decide) ?_
      exact ret_wi hF (hR _ _ dX8_text_14)
-- X8_put
def rm_X8_put : Room := { frames := 1, cells := 0, slots := 0, locals := 21 }
theorem fl_X8_put_17 : Cond.fieldLink RX8 17 "PaperWalls" "texts" "[LPaperWalls$Text;" ∈ wsX8_put := by decide +kernel
theorem fl_X8_put_119 : Cond.fieldLink RX8 119 "PaperWalls$Text" "bytes" "[B" ∈ wsX8_put := by decide +kernel
theorem in_X8_put_X7 : ∀ x ∈ u_ws RX7 TX7 2, x ∈ wsX8_put := by decide +kernel
theorem in_X8_put_X8 : ∀ x ∈ u_ws RX8 TX8 12, x ∈ wsX8_put := by decide +kernel
def F_X8_put  (S : Sg) (a1 : Int32) (a2 : Int32) (a3 : Int32) : Option (Int32 × Sg) := bd (F_X8_isText S a1) (fun x2 => if x2 = 0 then (some ((-1 : Int32), S)) else (chk (inB a1 4) (bd (F_X7_isMissing (a1).toNatClampNeg S) (fun x5 => if x5 = 0 then (bd (F_X7_has (a1).toNatClampNeg S a2) (fun x7 => if x7 = 0 then (bd (F_X8_find S (2 : Int32)) (fun (x13, S14) => some (x13, S14))) else (chk (inB a2 80) (nm (S.1 (26 + 2 * (a1).toNatClampNeg + 1) a2.toNatClampNeg) (fun x9 => chk (inB a2 80) (nm (wI S (26 + 2 * (a1).toNatClampNeg + 1) a2.toNatClampNeg (vp_nar .byte (vp_nar .byte a3))) (fun S11 => some (x9 + (1000 : Int32), S11)))))))) else (bd (F_X8_find S (1 : Int32)) (fun (x17, S18) => some (x17, S18)))))))
set_option maxHeartbeats 4000000 in
set_option maxRecDepth 100000 in
theorem c_X8_put (l : Launch) (G : Gp) (hI : Ij (wC G))  {S : Sg} {a1 : Int32} {a2 : Int32} {a3 : Int32} {r : Int32} {S1 : Sg} (hF : F_X8_put S a1 a2 a3 = some (r, S1)) : Met l yX8_put wsX8_put rm_X8_put (va_Pc [.ref (G.2.1 0), .int a1, .int a2, .int a3] (PreW (wC G) S)) (va_Qi (fun r' u => r' = r ∧ u = S1) (PostW (wC G)) (AW (wC G))) 0 0 (AW (wC G)) := by
  rw [F_X8_put] at hF
  refine met_i (cc := cX8_put) (maxL := 6) (own := RX8) hI (by decide) rfl rfl (Nat.le_of_ble_eq_true rfl) (fun X O hR => ?_)
  show Go X l rm_X8_put (wC G) 6 0 [(0, .ref (G.2.1 0)), (1, .int a1), (2, .int a2), (3, .int a3)] [] S
  refine go_iload_n O dX8_put_0 rfl 1 rfl ?_
  obtain ⟨x2, hA1, hF⟩ := bd_s hF
  refine go_callSi (As := [.int a1]) (rest := []) O (c_X8_isText l G hI hA1) (fun s args hts => va_cwS 1 hts gX8_put_X8_isText rfl rfl rfl (by decide +kernel) ⟨Nat.le_of_ble_eq_true rfl, Nat.le_of_ble_eq_true rfl⟩) rfl rfl (Nat.le_of_ble_eq_true rfl) dX8_put_1 ?_
  refine go_if_ne (tgt := 9) O dX8_put_4 (by decide) (fun hc20 => ?_) (fun hc20 => ?_)
  · replace hF := it_f hc20 hF
    refine go_aload_n O dX8_put_9 rfl 0 rfl ?_
    refine go_get (k := 0) (j := 1) O (by decide : (0 : Nat) < 99) (cv_pw G (S.1 0) (S.2 0)) rfl in_X8_put_X8 (by decide) fl_X8_put_17 rfl rfl dX8_put_10 ?_
    refine go_iload_n O dX8_put_13 rfl 1 rfl ?_
    obtain ⟨hb3, hF⟩ := chk_s hF
    refine go_aldq (k := 2) (t0 := 5) O (by decide : (2 : Nat) < 99) (cv_texts G (S.1 2) (S.2 2)) rfl (inB_in hb3) dX8_put_14 (v := .ref (G.2.1 (26 + 2 * (a1).toNatClampNeg))) rfl ?_
    refine go_astore (ls' := [(4, .ref (G.2.1 (26 + 2 * (a1).toNatClampNeg))), (0, .ref (G.2.1 0)), (1, .int a1), (2, .int a2), (3, .int a3)]) O dX8_put_15 (by decide) rfl ?_
    refine go_aload O dX8_put_17 0 rfl ?_
    obtain ⟨x5, hA4, hF⟩ := bd_s hF
    refine go_callVi (As := []) (rest := []) (b := (26 + 2 * (a1).toNatClampNeg)) O (c_X7_isMissing l G hI (inB_lt hb3) hA4) (fun s args hts => cwV 0 hts gX8_put_X7_isMissing rfl rfl rfl (by decide +kernel) ⟨Nat.le_of_ble_eq_true rfl, Nat.le_of_ble_eq_true rfl⟩) (txt_lt (inB_lt hb3)) (cv_txt G (inB_lt hb3) (S.1 (26 + 2 * (a1).toNatClampNeg)) (S.2 (26 + 2 * (a1).toNatClampNeg))) rfl rfl rfl rfl (Nat.le_of_ble_eq_true rfl) dX8_put_19 ?_
    refine go_if_eq (tgt := 31) O dX8_put_22 (by decide) (fun hc19 => ?_) (fun hc19 => ?_)
    · replace hF := it_t hc19 hF
      refine go_aload O dX8_put_31 0 rfl ?_
      refine go_iload_n O dX8_put_33 rfl 3 rfl ?_
      obtain ⟨x7, hA6, hF⟩ := bd_s hF
      refine go_callVi (As := [.int a2]) (rest := []) (b := (26 + 2 * (a1).toNatClampNeg)) O (c_X7_has l G hI (inB_lt hb3) hA6) (fun s args hts => cwV 1 hts gX8_put_X7_has rfl rfl rfl (by decide +kernel) ⟨Nat.le_of_ble_eq_true rfl, Nat.le_of_ble_eq_true rfl⟩) (txt_lt (inB_lt hb3)) (cv_txt G (inB_lt hb3) (S.1 (26 + 2 * (a1).toNatClampNeg)) (S.2 (26 + 2 * (a1).toNatClampNeg))) rfl rfl rfl rfl (Nat.le_of_ble_eq_true rfl) dX8_put_34 ?_
      refine go_if_ne (tgt := 46) O dX8_put_37 (by decide) (fun hc15 => ?_) (fun hc15 => ?_)
      · replace hF := it_f hc15 hF
        refine go_aload O dX8_put_46 0 rfl ?_
        refine go_get (k := (26 + 2 * (a1).toNatClampNeg)) (j := 0) O (txt_lt (inB_lt hb3)) (cv_txt G (inB_lt hb3) (S.1 (26 + 2 * (a1).toNatClampNeg)) (S.2 (26 + 2 * (a1).toNatClampNeg))) rfl in_X8_put_X7 (by decide) fl_X8_put_119 rfl rfl dX8_put_48 ?_
        refine go_iload_n O dX8_put_51 rfl 3 rfl ?_
        obtain ⟨hb8, hF⟩ := chk_s hF
        refine go_bald (k := (26 + 2 * (a1).toNatClampNeg + 1)) O (txt_lt1 (inB_lt hb3)) (cv_txtA G (inB_lt hb3) (S.1 (26 + 2 * (a1).toNatClampNeg + 1)) (S.2 (26 + 2 * (a1).toNatClampNeg + 1))) (inB_in hb8) dX8_put_52 ?_
        obtain ⟨x9, ex9, hF⟩ := nm_s hF
        refine go_topi ex9 ?_
        refine go_istore (ls' := [(5, .int x9), (4, .ref (G.2.1 (26 + 2 * (a1).toNatClampNeg))), (0, .ref (G.2.1 0)), (1, .int a1), (2, .int a2), (3, .int a3)]) O dX8_put_53 (by decide) rfl ?_
        refine go_aload O dX8_put_55 1 rfl ?_
        refine go_get (k := (26 + 2 * (a1).toNatClampNeg)) (j := 0) O (txt_lt (inB_lt hb3)) (cv_txt G (inB_lt hb3) (S.1 (26 + 2 * (a1).toNatClampNeg)) (S.2 (26 + 2 * (a1).toNatClampNeg))) rfl in_X8_put_X7 (by decide) fl_X8_put_119 rfl rfl dX8_put_57 ?_
        refine go_iload_n O dX8_put_60 rfl 4 rfl ?_
        refine go_iload_n O dX8_put_61 rfl 5 rfl ?_
        refine go_i2b (v := vp_nar .byte a3) O dX8_put_62 (vp_nar_byte _).symm ?_
        obtain ⟨hb10, hF⟩ := chk_s hF
        obtain ⟨S11, eS11, hF⟩ := nm_s hF
        refine go_bast (k := (26 + 2 * (a1).toNatClampNeg + 1)) O (txt_lt1 (inB_lt hb3)) (fun f => (cv_txtA G (inB_lt hb3) f (S.2 (26 + 2 * (a1).toNatClampNeg + 1)))) (inB_in hb10) dX8_put_63 eS11 ?_
        refine go_iload O dX8_put_64 0 rfl ?_
        refine go_sipush (v := (1000 : Int32)) O dX8_put_66 (by decide) ?_
        refine go_iadd O dX8_put_69 ?_
        exact ret_wi hF (hR _ _ dX8_put_70)
      · replace hF := it_t hc15 hF
        refine go_aload_n O dX8_put_40 rfl 1 rfl ?_
        refine go_iconst (v := (2 : Int32)) O dX8_put_41 (by decide) ?_
        obtain ⟨⟨x13, S14⟩, hA12, hF⟩ := bd_s hF
        refine go_callVi (As := [.int (2 : Int32)]) (rest := []) (b := 0) O (c_X8_find l G hI hA12) (fun s args hts => cwV 1 hts gX8_put_X8_find rfl rfl rfl (by decide +kernel) ⟨Nat.le_of_ble_eq_true rfl, Nat.le_of_ble_eq_true rfl⟩) (by decide : (0 : Nat) < 99) (cv_pw G (S.1 0) (S.2 0)) rfl rfl rfl rfl (Nat.le_of_ble_eq_true rfl) dX8_put_42 ?_
        exact ret_wi hF (hR _ _ dX8_put_45)
    · replace hF := it_f hc19 hF
      refine go_aload_n O dX8_put_25 rfl 1 rfl ?_
      refine go_iconst (v := (1 : Int32)) O dX8_put_26 (by decide) ?_
      obtain ⟨⟨x17, S18⟩, hA16, hF⟩ := bd_s hF
      refine go_callVi (As := [.int (1 : Int32)]) (rest := []) (b := 0) O (c_X8_find l G hI hA16) (fun s args hts => cwV 1 hts gX8_put_X8_find rfl rfl rfl (by decide +kernel) ⟨Nat.le_of_ble_eq_true rfl, Nat.le_of_ble_eq_true rfl⟩) (by decide : (0 : Nat) < 99) (cv_pw G (S.1 0) (S.2 0)) rfl rfl rfl rfl (Nat.le_of_ble_eq_true rfl) dX8_put_27 ?_
      exact ret_wi hF (hR _ _ dX8_put_30)
  · replace hF := it_t hc20 hF
    refine go_iconst (v := (-1 : Int32)) O dX8_put_7 (by decide) ?_
    exact ret_wi hF (hR _ _ dX8_put_8)
-- X8_fault
def rm_X8_fault : Room := { frames := 5, cells := 0, slots := 0, locals := 111 }
theorem fl_X8_fault_17 : Cond.fieldLink RX8 17 "PaperWalls" "texts" "[LPaperWalls$Text;" ∈ wsX8_fault := by decide +kernel
theorem fl_X8_fault_28 : Cond.fieldLink RX8 28 "PaperWalls" "trial" "LPaperWalls$Street;" ∈ wsX8_fault := by decide +kernel
theorem in_X8_fault_X8 : ∀ x ∈ u_ws RX8 TX8 12, x ∈ wsX8_fault := by decide +kernel
def F_X8_fault  (S : Sg) (a1 : Int32) : Option (Int32 × Sg) := bd (F_X8_isText S a1) (fun x2 => if x2 = 0 then (some ((-1 : Int32), S)) else (chk (inB a1 4) (bd (F_X7_isMissing (a1).toNatClampNeg S) (fun x5 => if x5 = 0 then (chk (inB a1 4) (bd (F_X6_readFrom 1 (a1).toNatClampNeg S) (fun (x8, S9) => some (x8, S9)))) else (bd (F_X8_find S (1 : Int32)) (fun (x11, S12) => some (x11, S12)))))))
set_option maxHeartbeats 4000000 in
set_option maxRecDepth 100000 in
theorem c_X8_fault (l : Launch) (G : Gp) (hI : Ij (wC G))  {S : Sg} {a1 : Int32} {r : Int32} {S1 : Sg} (hF : F_X8_fault S a1 = some (r, S1)) : Met l yX8_fault wsX8_fault rm_X8_fault (va_Pc [.ref (G.2.1 0), .int a1] (PreW (wC G) S)) (va_Qi (fun r' u => r' = r ∧ u = S1) (PostW (wC G)) (AW (wC G))) 0 0 (AW (wC G)) := by
  rw [F_X8_fault] at hF
  refine met_i (cc := cX8_fault) (maxL := 2) (own := RX8) hI (by decide) rfl rfl (Nat.le_of_ble_eq_true rfl) (fun X O hR => ?_)
  show Go X l rm_X8_fault (wC G) 2 0 [(0, .ref (G.2.1 0)), (1, .int a1)] [] S
  refine go_iload_n O dX8_fault_0 rfl 1 rfl ?_
  obtain ⟨x2, hA1, hF⟩ := bd_s hF
  refine go_callSi (As := [.int a1]) (rest := []) O (c_X8_isText l G hI hA1) (fun s args hts => va_cwS 1 hts gX8_fault_X8_isText rfl rfl rfl (by decide +kernel) ⟨Nat.le_of_ble_eq_true rfl, Nat.le_of_ble_eq_true rfl⟩) rfl rfl (Nat.le_of_ble_eq_true rfl) dX8_fault_1 ?_
  refine go_if_ne (tgt := 9) O dX8_fault_4 (by decide) (fun hc14 => ?_) (fun hc14 => ?_)
  · replace hF := it_f hc14 hF
    refine go_aload_n O dX8_fault_9 rfl 0 rfl ?_
    refine go_get (k := 0) (j := 1) O (by decide : (0 : Nat) < 99) (cv_pw G (S.1 0) (S.2 0)) rfl in_X8_fault_X8 (by decide) fl_X8_fault_17 rfl rfl dX8_fault_10 ?_
    refine go_iload_n O dX8_fault_13 rfl 1 rfl ?_
    obtain ⟨hb3, hF⟩ := chk_s hF
    refine go_aldq (k := 2) (t0 := 5) O (by decide : (2 : Nat) < 99) (cv_texts G (S.1 2) (S.2 2)) rfl (inB_in hb3) dX8_fault_14 (v := .ref (G.2.1 (26 + 2 * (a1).toNatClampNeg))) rfl ?_
    obtain ⟨x5, hA4, hF⟩ := bd_s hF
    refine go_callVi (As := []) (rest := []) (b := (26 + 2 * (a1).toNatClampNeg)) O (c_X7_isMissing l G hI (inB_lt hb3) hA4) (fun s args hts => cwV 0 hts gX8_fault_X7_isMissing rfl rfl rfl (by decide +kernel) ⟨Nat.le_of_ble_eq_true rfl, Nat.le_of_ble_eq_true rfl⟩) (txt_lt (inB_lt hb3)) (cv_txt G (inB_lt hb3) (S.1 (26 + 2 * (a1).toNatClampNeg)) (S.2 (26 + 2 * (a1).toNatClampNeg))) rfl rfl rfl rfl (Nat.le_of_ble_eq_true rfl) dX8_fault_15 ?_
    refine go_if_eq (tgt := 27) O dX8_fault_18 (by decide) (fun hc13 => ?_) (fun hc13 => ?_)
    · replace hF := it_t hc13 hF
      refine go_aload_n O dX8_fault_27 rfl 0 rfl ?_
      refine go_get (k := 0) (j := 3) O (by decide : (0 : Nat) < 99) (cv_pw G (S.1 0) (S.2 0)) rfl in_X8_fault_X8 (by decide) fl_X8_fault_28 rfl rfl dX8_fault_28 ?_
      refine go_aload_n O dX8_fault_31 rfl 0 rfl ?_
      refine go_get (k := 0) (j := 1) O (by decide : (0 : Nat) < 99) (cv_pw G (S.1 0) (S.2 0)) rfl in_X8_fault_X8 (by decide) fl_X8_fault_17 rfl rfl dX8_fault_32 ?_
      refine go_iload_n O dX8_fault_35 rfl 1 rfl ?_
      obtain ⟨hb6, hF⟩ := chk_s hF
      refine go_aldq (k := 2) (t0 := 5) O (by decide : (2 : Nat) < 99) (cv_texts G (S.1 2) (S.2 2)) rfl (inB_in hb6) dX8_fault_36 (v := .ref (G.2.1 (26 + 2 * (a1).toNatClampNeg))) rfl ?_
      obtain ⟨⟨x8, S9⟩, hA7, hF⟩ := bd_s hF
      refine go_callVi (As := [.ref (G.2.1 (26 + 2 * (a1).toNatClampNeg))]) (rest := []) (b := (sb 1)) O (c_X6_readFrom l G hI (by decide : (1 : Nat) < 5) (inB_lt hb6) hA7) (fun s args hts => cwV 1 hts gX8_fault_X6_readFrom rfl rfl rfl (by decide +kernel) ⟨Nat.le_of_ble_eq_true rfl, Nat.le_of_ble_eq_true rfl⟩) (sb_lt0 (by decide : (1 : Nat) < 5)) (cv_st G (by decide : (1 : Nat) < 5) (S.1 (sb 1)) (S.2 (sb 1))) rfl rfl rfl rfl (Nat.le_of_ble_eq_true rfl) dX8_fault_37 ?_
      exact ret_wi hF (hR _ _ dX8_fault_40)
    · replace hF := it_f hc13 hF
      refine go_aload_n O dX8_fault_21 rfl 0 rfl ?_
      refine go_iconst (v := (1 : Int32)) O dX8_fault_22 (by decide) ?_
      obtain ⟨⟨x11, S12⟩, hA10, hF⟩ := bd_s hF
      refine go_callVi (As := [.int (1 : Int32)]) (rest := []) (b := 0) O (c_X8_find l G hI hA10) (fun s args hts => cwV 1 hts gX8_fault_X8_find rfl rfl rfl (by decide +kernel) ⟨Nat.le_of_ble_eq_true rfl, Nat.le_of_ble_eq_true rfl⟩) (by decide : (0 : Nat) < 99) (cv_pw G (S.1 0) (S.2 0)) rfl rfl rfl rfl (Nat.le_of_ble_eq_true rfl) dX8_fault_23 ?_
      exact ret_wi hF (hR _ _ dX8_fault_26)
  · replace hF := it_t hc14 hF
    refine go_iconst (v := (-1 : Int32)) O dX8_fault_7 (by decide) ?_
    exact ret_wi hF (hR _ _ dX8_fault_8)
-- X8_street
def rm_X8_street : Room := { frames := 5, cells := 0, slots := 0, locals := 122 }
theorem fl_X8_street_17 : Cond.fieldLink RX8 17 "PaperWalls" "texts" "[LPaperWalls$Text;" ∈ wsX8_street := by decide +kernel
theorem fl_X8_street_24 : Cond.fieldLink RX8 24 "PaperWalls" "now" "LPaperWalls$Street;" ∈ wsX8_street := by decide +kernel
theorem fl_X8_street_28 : Cond.fieldLink RX8 28 "PaperWalls" "trial" "LPaperWalls$Street;" ∈ wsX8_street := by decide +kernel
theorem fl_X8_street_35 : Cond.fieldLink RX8 35 "PaperWalls" "isKept" "[Z" ∈ wsX8_street := by decide +kernel
theorem fl_X8_street_131 : Cond.fieldLink RX8 131 "PaperWalls$Street" "people" "I" ∈ wsX8_street := by decide +kernel
theorem in_X8_street_X6 : ∀ x ∈ u_ws RX6 TX6 11, x ∈ wsX8_street := by decide +kernel
theorem in_X8_street_X8 : ∀ x ∈ u_ws RX8 TX8 12, x ∈ wsX8_street := by decide +kernel
def T_X8_street_61    : Nat → Int32 → Sg → Option (Sg)
  | 0, _, _ => none
  | n + 1, p2, S => if (3 : Int32) ≤ p2 then (some S) else (chk (inB p2 3) (nm (wI S 4 p2.toNatClampNeg (vp_nar .boolean (0 : Int32))) (fun S14 => T_X8_street_61 n (p2 + (1 : Int32)) S14)))
set_option maxHeartbeats 4000000 in
set_option maxRecDepth 100000 in
theorem lt_X8_street_61 {X : XT} (l : Launch) (G : Gp) (hI : Ij (wC G))   (O : Ok X (wC G) cX8_street RX8 wsX8_street 3) : ∀ (n : Nat) (p2 : Int32) (S : Sg) (q : (Sg)), T_X8_street_61 n p2 S = some q → (Go X l rm_X8_street (wC G) 3 79 [(0, .ref (G.2.1 0))] [] q) → Go X l rm_X8_street (wC G) 3 61 [(0, .ref (G.2.1 0)), (2, .int p2)] [] S := by
  intro n
  induction n with
  | zero =>
    intro p2 S q hF
    cases hF
  | succ n ih =>
    intro p2 S q hF hE
    rw [T_X8_street_61] at hF
    refine go_iload_n O dX8_street_61 rfl 1 rfl ?_
    refine go_iconst (v := (3 : Int32)) O dX8_street_62 (by decide) ?_
    refine go_icmp_ge (tgt := 79) O dX8_street_63 (by decide) (fun hc15 => ?_) (fun hc15 => ?_)
    · replace hF := it_t hc15 hF
      refine go_perm (ls' := [(0, .ref (G.2.1 0))]) [0] rfl ?_
      exact jn (P := fun q => Go X l rm_X8_street (wC G) 3 79 [(0, .ref (G.2.1 0))] [] q) hF hE
    · replace hF := it_f hc15 hF
      refine go_aload_n O dX8_street_66 rfl 0 rfl ?_
      refine go_get (k := 0) (j := 5) O (by decide : (0 : Nat) < 99) (cv_pw G (S.1 0) (S.2 0)) rfl in_X8_street_X8 (by decide) fl_X8_street_35 rfl rfl dX8_street_67 ?_
      refine go_iload_n O dX8_street_70 rfl 1 rfl ?_
      refine go_iconst (v := (0 : Int32)) O dX8_street_71 (by decide) ?_
      obtain ⟨hb13, hF⟩ := chk_s hF
      obtain ⟨S14, eS14, hF⟩ := nm_s hF
      refine go_zast (k := 4) O (by decide : (4 : Nat) < 99) (fun f => (cv_kept G f (S.2 4))) (inB_in hb13) dX8_street_72 eS14 ?_
      refine go_iinc (d := (1 : Int32)) (ls' := [(2, .int (p2 + (1 : Int32))), (0, .ref (G.2.1 0))]) O dX8_street_73 1 rfl (by decide) (by decide) rfl ?_
      refine go_goto (tgt := 61) O dX8_street_76 (by decide) ?_
      refine go_perm (ls' := [(0, .ref (G.2.1 0)), (2, .int (p2 + (1 : Int32)))]) [1, 0] rfl ?_
      exact ih _ _ _ hF hE
def F_X8_street  (S : Sg) (a1 : Int32) : Option (Int32 × Sg) := bd (F_X8_isText S a1) (fun x2 => if x2 = 0 then (some ((-1 : Int32), S)) else (chk (inB a1 4) (bd (F_X7_isMissing (a1).toNatClampNeg S) (fun x5 => if x5 = 0 then (chk (inB a1 4) (bd (F_X6_readFrom 1 (a1).toNatClampNeg S) (fun (x8, S9) => if x8 = (-9 : Int32) then (bd (F_X6_become 0 1 S9) (fun S11 => bd (T_X8_street_61 FU (0 : Int32) S11) (fun S12 => some (S12.1 (sb 0) 9, S12)))) else (some ((-4 : Int32), S9))))) else (bd (F_X8_find S (1 : Int32)) (fun (x19, S20) => some (x19, S20)))))))
set_option maxHeartbeats 4000000 in
set_option maxRecDepth 100000 in
theorem c_X8_street (l : Launch) (G : Gp) (hI : Ij (wC G))  {S : Sg} {a1 : Int32} {r : Int32} {S1 : Sg} (hF : F_X8_street S a1 = some (r, S1)) : Met l yX8_street wsX8_street rm_X8_street (va_Pc [.ref (G.2.1 0), .int a1] (PreW (wC G) S)) (va_Qi (fun r' u => r' = r ∧ u = S1) (PostW (wC G)) (AW (wC G))) 0 0 (AW (wC G)) := by
  rw [F_X8_street] at hF
  refine met_i (cc := cX8_street) (maxL := 3) (own := RX8) hI (by decide) rfl rfl (Nat.le_of_ble_eq_true rfl) (fun X O hR => ?_)
  show Go X l rm_X8_street (wC G) 3 0 [(0, .ref (G.2.1 0)), (1, .int a1)] [] S
  refine go_iload_n O dX8_street_0 rfl 1 rfl ?_
  obtain ⟨x2, hA1, hF⟩ := bd_s hF
  refine go_callSi (As := [.int a1]) (rest := []) O (c_X8_isText l G hI hA1) (fun s args hts => va_cwS 1 hts gX8_street_X8_isText rfl rfl rfl (by decide +kernel) ⟨Nat.le_of_ble_eq_true rfl, Nat.le_of_ble_eq_true rfl⟩) rfl rfl (Nat.le_of_ble_eq_true rfl) dX8_street_1 ?_
  refine go_if_ne (tgt := 9) O dX8_street_4 (by decide) (fun hc22 => ?_) (fun hc22 => ?_)
  · replace hF := it_f hc22 hF
    refine go_aload_n O dX8_street_9 rfl 0 rfl ?_
    refine go_get (k := 0) (j := 1) O (by decide : (0 : Nat) < 99) (cv_pw G (S.1 0) (S.2 0)) rfl in_X8_street_X8 (by decide) fl_X8_street_17 rfl rfl dX8_street_10 ?_
    refine go_iload_n O dX8_street_13 rfl 1 rfl ?_
    obtain ⟨hb3, hF⟩ := chk_s hF
    refine go_aldq (k := 2) (t0 := 5) O (by decide : (2 : Nat) < 99) (cv_texts G (S.1 2) (S.2 2)) rfl (inB_in hb3) dX8_street_14 (v := .ref (G.2.1 (26 + 2 * (a1).toNatClampNeg))) rfl ?_
    obtain ⟨x5, hA4, hF⟩ := bd_s hF
    refine go_callVi (As := []) (rest := []) (b := (26 + 2 * (a1).toNatClampNeg)) O (c_X7_isMissing l G hI (inB_lt hb3) hA4) (fun s args hts => cwV 0 hts gX8_street_X7_isMissing rfl rfl rfl (by decide +kernel) ⟨Nat.le_of_ble_eq_true rfl, Nat.le_of_ble_eq_true rfl⟩) (txt_lt (inB_lt hb3)) (cv_txt G (inB_lt hb3) (S.1 (26 + 2 * (a1).toNatClampNeg)) (S.2 (26 + 2 * (a1).toNatClampNeg))) rfl rfl rfl rfl (Nat.le_of_ble_eq_true rfl) dX8_street_15 ?_
    refine go_if_eq (tgt := 27) O dX8_street_18 (by decide) (fun hc21 => ?_) (fun hc21 => ?_)
    · replace hF := it_t hc21 hF
      refine go_aload_n O dX8_street_27 rfl 0 rfl ?_
      refine go_get (k := 0) (j := 3) O (by decide : (0 : Nat) < 99) (cv_pw G (S.1 0) (S.2 0)) rfl in_X8_street_X8 (by decide) fl_X8_street_28 rfl rfl dX8_street_28 ?_
      refine go_aload_n O dX8_street_31 rfl 0 rfl ?_
      refine go_get (k := 0) (j := 1) O (by decide : (0 : Nat) < 99) (cv_pw G (S.1 0) (S.2 0)) rfl in_X8_street_X8 (by decide) fl_X8_street_17 rfl rfl dX8_street_32 ?_
      refine go_iload_n O dX8_street_35 rfl 1 rfl ?_
      obtain ⟨hb6, hF⟩ := chk_s hF
      refine go_aldq (k := 2) (t0 := 5) O (by decide : (2 : Nat) < 99) (cv_texts G (S.1 2) (S.2 2)) rfl (inB_in hb6) dX8_street_36 (v := .ref (G.2.1 (26 + 2 * (a1).toNatClampNeg))) rfl ?_
      obtain ⟨⟨x8, S9⟩, hA7, hF⟩ := bd_s hF
      refine go_callVi (As := [.ref (G.2.1 (26 + 2 * (a1).toNatClampNeg))]) (rest := []) (b := (sb 1)) O (c_X6_readFrom l G hI (by decide : (1 : Nat) < 5) (inB_lt hb6) hA7) (fun s args hts => cwV 1 hts gX8_street_X6_readFrom rfl rfl rfl (by decide +kernel) ⟨Nat.le_of_ble_eq_true rfl, Nat.le_of_ble_eq_true rfl⟩) (sb_lt0 (by decide : (1 : Nat) < 5)) (cv_st G (by decide : (1 : Nat) < 5) (S.1 (sb 1)) (S.2 (sb 1))) rfl rfl rfl rfl (Nat.le_of_ble_eq_true rfl) dX8_street_37 ?_
      refine go_bipush (v := (-9 : Int32)) O dX8_street_40 (by decide) ?_
      refine go_icmp_eq (tgt := 48) O dX8_street_42 (by decide) (fun hc17 => ?_) (fun hc17 => ?_)
      · replace hF := it_t hc17 hF
        refine go_aload_n O dX8_street_48 rfl 0 rfl ?_
        refine go_get (k := 0) (j := 2) O (by decide : (0 : Nat) < 99) (cv_pw G (S9.1 0) (S9.2 0)) rfl in_X8_street_X8 (by decide) fl_X8_street_24 rfl rfl dX8_street_49 ?_
        refine go_aload_n O dX8_street_52 rfl 0 rfl ?_
        refine go_get (k := 0) (j := 3) O (by decide : (0 : Nat) < 99) (cv_pw G (S9.1 0) (S9.2 0)) rfl in_X8_street_X8 (by decide) fl_X8_street_28 rfl rfl dX8_street_53 ?_
        obtain ⟨S11, hA10, hF⟩ := bd_s hF
        refine go_callVv (As := [.ref (G.2.1 (sb 1))]) (rest := []) (b := (sb 0)) O (c_X6_become l G hI (by decide : (0 : Nat) < 5) (by decide : (1 : Nat) < 5) hA10) (fun s args hts => cwV 1 hts gX8_street_X6_become rfl rfl rfl (by decide +kernel) ⟨Nat.le_of_ble_eq_true rfl, Nat.le_of_ble_eq_true rfl⟩) (sb_lt0 (by decide : (0 : Nat) < 5)) (cv_st G (by decide : (0 : Nat) < 5) (S9.1 (sb 0)) (S9.2 (sb 0))) rfl rfl rfl rfl (Nat.le_of_ble_eq_true rfl) dX8_street_56 ?_
        refine go_iconst (v := (0 : Int32)) O dX8_street_59 (by decide) ?_
        refine go_istore_n (ls' := [(2, .int (0 : Int32)), (0, .ref (G.2.1 0)), (1, .int a1)]) O dX8_street_60 rfl (by decide) rfl ?_
        refine go_perm (ls' := [(0, .ref (G.2.1 0)), (2, .int (0 : Int32))]) [1, 0] rfl ?_
        obtain ⟨S12, hA16, hF⟩ := bd_s hF
        refine lt_X8_street_61 l G hI  O _ _ _ _ hA16 ?_
        refine go_aload_n O dX8_street_79 rfl 0 rfl ?_
        refine go_get (k := 0) (j := 2) O (by decide : (0 : Nat) < 99) (cv_pw G (S12.1 0) (S12.2 0)) rfl in_X8_street_X8 (by decide) fl_X8_street_24 rfl rfl dX8_street_80 ?_
        refine go_get (k := (sb 0)) (j := 9) O (sb_lt0 (by decide : (0 : Nat) < 5)) (cv_st G (by decide : (0 : Nat) < 5) (S12.1 (sb 0)) (S12.2 (sb 0))) rfl in_X8_street_X6 (by decide) fl_X8_street_131 rfl rfl dX8_street_83 ?_
        exact ret_wi hF (hR _ _ dX8_street_86)
      · replace hF := it_f hc17 hF
        refine go_bipush (v := (-4 : Int32)) O dX8_street_45 (by decide) ?_
        exact ret_wi hF (hR _ _ dX8_street_47)
    · replace hF := it_f hc21 hF
      refine go_aload_n O dX8_street_21 rfl 0 rfl ?_
      refine go_iconst (v := (1 : Int32)) O dX8_street_22 (by decide) ?_
      obtain ⟨⟨x19, S20⟩, hA18, hF⟩ := bd_s hF
      refine go_callVi (As := [.int (1 : Int32)]) (rest := []) (b := 0) O (c_X8_find l G hI hA18) (fun s args hts => cwV 1 hts gX8_street_X8_find rfl rfl rfl (by decide +kernel) ⟨Nat.le_of_ble_eq_true rfl, Nat.le_of_ble_eq_true rfl⟩) (by decide : (0 : Nat) < 99) (cv_pw G (S.1 0) (S.2 0)) rfl rfl rfl rfl (Nat.le_of_ble_eq_true rfl) dX8_street_23 ?_
      exact ret_wi hF (hR _ _ dX8_street_26)
  · replace hF := it_t hc22 hF
    refine go_iconst (v := (-1 : Int32)) O dX8_street_7 (by decide) ?_
    exact ret_wi hF (hR _ _ dX8_street_8)
-- X8_isOne
def rm_X8_isOne : Room := { frames := 0, cells := 0, slots := 0, locals := 0 }
theorem fl_X8_isOne_24 : Cond.fieldLink RX8 24 "PaperWalls" "now" "LPaperWalls$Street;" ∈ wsX8_isOne := by decide +kernel
theorem fl_X8_isOne_131 : Cond.fieldLink RX8 131 "PaperWalls$Street" "people" "I" ∈ wsX8_isOne := by decide +kernel
theorem in_X8_isOne_X6 : ∀ x ∈ u_ws RX6 TX6 11, x ∈ wsX8_isOne := by decide +kernel
theorem in_X8_isOne_X8 : ∀ x ∈ u_ws RX8 TX8 12, x ∈ wsX8_isOne := by decide +kernel
def F_X8_isOne  (S : Sg) (a1 : Int32) : Option Int32 := if a1 < 0 then (some (0 : Int32)) else (if (S.1 (sb 0) 9) ≤ a1 then (some (0 : Int32)) else (some (1 : Int32)))
set_option maxHeartbeats 4000000 in
set_option maxRecDepth 100000 in
theorem c_X8_isOne (l : Launch) (G : Gp) (hI : Ij (wC G))  {S : Sg} {a1 : Int32} {r : Int32} (hF : F_X8_isOne S a1 = some r) : Met l yX8_isOne wsX8_isOne rm_X8_isOne (va_Pc [.ref (G.2.1 0), .int a1] (PreW (wC G) S)) (va_Qi (fun r' u => r' = r ∧ u = S) (PostW (wC G)) (AW (wC G))) 0 0 (AW (wC G)) := by
  rw [F_X8_isOne] at hF
  refine met_z (cc := cX8_isOne) (maxL := 2) (own := RX8) hI (by decide) rfl rfl (Nat.le_of_ble_eq_true rfl) (fun X O hR => ?_)
  show Go X l rm_X8_isOne (wC G) 2 0 [(0, .ref (G.2.1 0)), (1, .int a1)] [] S
  refine go_iload_n O dX8_isOne_0 rfl 1 rfl ?_
  refine go_if_lt (tgt := 19) O dX8_isOne_1 (by decide) (fun hc2 => ?_) (fun hc2 => ?_)
  · replace hF := it_t hc2 hF
    refine go_iconst (v := (0 : Int32)) O dX8_isOne_19 (by decide) ?_
    exact ret_z hF (fun hz => hR _ _ hz dX8_isOne_20) (by decide)
  · replace hF := it_f hc2 hF
    refine go_iload_n O dX8_isOne_4 rfl 1 rfl ?_
    refine go_aload_n O dX8_isOne_5 rfl 0 rfl ?_
    refine go_get (k := 0) (j := 2) O (by decide : (0 : Nat) < 99) (cv_pw G (S.1 0) (S.2 0)) rfl in_X8_isOne_X8 (by decide) fl_X8_isOne_24 rfl rfl dX8_isOne_6 ?_
    refine go_get (k := (sb 0)) (j := 9) O (sb_lt0 (by decide : (0 : Nat) < 5)) (cv_st G (by decide : (0 : Nat) < 5) (S.1 (sb 0)) (S.2 (sb 0))) rfl in_X8_isOne_X6 (by decide) fl_X8_isOne_131 rfl rfl dX8_isOne_9 ?_
    refine go_icmp_ge (tgt := 19) O dX8_isOne_12 (by decide) (fun hc1 => ?_) (fun hc1 => ?_)
    · replace hF := it_t hc1 hF
      refine go_iconst (v := (0 : Int32)) O dX8_isOne_19 (by decide) ?_
      exact ret_z hF (fun hz => hR _ _ hz dX8_isOne_20) (by decide)
    · replace hF := it_f hc1 hF
      refine go_iconst (v := (1 : Int32)) O dX8_isOne_15 (by decide) ?_
      refine go_goto (tgt := 20) O dX8_isOne_16 (by decide) ?_
      exact ret_z hF (fun hz => hR _ _ hz dX8_isOne_20) (by decide)
-- X8_person
def rm_X8_person : Room := { frames := 3, cells := 0, slots := 0, locals := 66 }
theorem fl_X8_person_24 : Cond.fieldLink RX8 24 "PaperWalls" "now" "LPaperWalls$Street;" ∈ wsX8_person := by decide +kernel
theorem fl_X8_person_92 : Cond.fieldLink RX8 92 "PaperWalls" "told" "I" ∈ wsX8_person := by decide +kernel
theorem in_X8_person_X8 : ∀ x ∈ u_ws RX8 TX8 12, x ∈ wsX8_person := by decide +kernel
def F_X8_person  (S : Sg) (a1 : Int32) (a2 : Int32) : Option (Int32 × Sg) := bd (F_X8_isOne S a1) (fun x2 => if x2 = 0 then (some ((-1 : Int32), S)) else (if a2 < 0 then (some ((-1 : Int32), S)) else (if a2 < (5 : Int32) then (bd (F_X6_trait 0 S a1 a2) (fun x4 => nm (wI S 0 10 x4) (fun S5 => some ((1 : Int32), S5)))) else (some ((-1 : Int32), S)))))
set_option maxHeartbeats 4000000 in
set_option maxRecDepth 100000 in
theorem c_X8_person (l : Launch) (G : Gp) (hI : Ij (wC G))  {S : Sg} {a1 : Int32} {a2 : Int32} {r : Int32} {S1 : Sg} (hF : F_X8_person S a1 a2 = some (r, S1)) : Met l yX8_person wsX8_person rm_X8_person (va_Pc [.ref (G.2.1 0), .int a1, .int a2] (PreW (wC G) S)) (va_Qi (fun r' u => r' = r ∧ u = S1) (PostW (wC G)) (AW (wC G))) 0 0 (AW (wC G)) := by
  rw [F_X8_person] at hF
  refine met_i (cc := cX8_person) (maxL := 3) (own := RX8) hI (by decide) rfl rfl (Nat.le_of_ble_eq_true rfl) (fun X O hR => ?_)
  show Go X l rm_X8_person (wC G) 3 0 [(0, .ref (G.2.1 0)), (1, .int a1), (2, .int a2)] [] S
  refine go_aload_n O dX8_person_0 rfl 0 rfl ?_
  refine go_iload_n O dX8_person_1 rfl 1 rfl ?_
  obtain ⟨x2, hA1, hF⟩ := bd_s hF
  refine go_callVi (As := [.int a1]) (rest := []) (b := 0) O (c_X8_isOne l G hI hA1) (fun s args hts => cwV 1 hts gX8_person_X8_isOne rfl rfl rfl (by decide +kernel) ⟨Nat.le_of_ble_eq_true rfl, Nat.le_of_ble_eq_true rfl⟩) (by decide : (0 : Nat) < 99) (cv_pw G (S.1 0) (S.2 0)) rfl rfl rfl rfl (Nat.le_of_ble_eq_true rfl) dX8_person_2 ?_
  refine go_if_eq (tgt := 17) O dX8_person_5 (by decide) (fun hc8 => ?_) (fun hc8 => ?_)
  · replace hF := it_t hc8 hF
    refine go_iconst (v := (-1 : Int32)) O dX8_person_17 (by decide) ?_
    exact ret_wi hF (hR _ _ dX8_person_18)
  · replace hF := it_f hc8 hF
    refine go_iload_n O dX8_person_8 rfl 2 rfl ?_
    refine go_if_lt (tgt := 17) O dX8_person_9 (by decide) (fun hc7 => ?_) (fun hc7 => ?_)
    · replace hF := it_t hc7 hF
      refine go_iconst (v := (-1 : Int32)) O dX8_person_17 (by decide) ?_
      exact ret_wi hF (hR _ _ dX8_person_18)
    · replace hF := it_f hc7 hF
      refine go_iload_n O dX8_person_12 rfl 2 rfl ?_
      refine go_iconst (v := (5 : Int32)) O dX8_person_13 (by decide) ?_
      refine go_icmp_lt (tgt := 19) O dX8_person_14 (by decide) (fun hc6 => ?_) (fun hc6 => ?_)
      · replace hF := it_t hc6 hF
        refine go_aload_n O dX8_person_19 rfl 0 rfl ?_
        refine go_aload_n O dX8_person_20 rfl 0 rfl ?_
        refine go_get (k := 0) (j := 2) O (by decide : (0 : Nat) < 99) (cv_pw G (S.1 0) (S.2 0)) rfl in_X8_person_X8 (by decide) fl_X8_person_24 rfl rfl dX8_person_21 ?_
        refine go_iload_n O dX8_person_24 rfl 1 rfl ?_
        refine go_iload_n O dX8_person_25 rfl 2 rfl ?_
        obtain ⟨x4, hA3, hF⟩ := bd_s hF
        refine go_callVi (As := [.int a1, .int a2]) (rest := [.ref (G.2.1 0)]) (b := (sb 0)) O (c_X6_trait l G hI (by decide : (0 : Nat) < 5) hA3) (fun s args hts => cwV 2 hts gX8_person_X6_trait rfl rfl rfl (by decide +kernel) ⟨Nat.le_of_ble_eq_true rfl, Nat.le_of_ble_eq_true rfl⟩) (sb_lt0 (by decide : (0 : Nat) < 5)) (cv_st G (by decide : (0 : Nat) < 5) (S.1 (sb 0)) (S.2 (sb 0))) rfl rfl rfl rfl (Nat.le_of_ble_eq_true rfl) dX8_person_26 ?_
        obtain ⟨S5, eS5, hF⟩ := nm_s hF
        refine go_putI (k := 0) (j := 10) O (by decide : (0 : Nat) < 99) (cv_pw G (S.1 0) (S.2 0)) rfl in_X8_person_X8 (by decide) fl_X8_person_92 rfl tyX8 tyX8_ok nmX8 rfl (by decide +kernel) (Nat.le_of_ble_eq_true rfl) (cv_pw G (upd (S.1 0) 10 x4) (S.2 0)) dX8_person_29 eS5 ?_
        refine go_iconst (v := (1 : Int32)) O dX8_person_32 (by decide) ?_
        exact ret_wi hF (hR _ _ dX8_person_33)
      · replace hF := it_f hc6 hF
        refine go_iconst (v := (-1 : Int32)) O dX8_person_17 (by decide) ?_
        exact ret_wi hF (hR _ _ dX8_person_18)
-- X8_mark
def rm_X8_mark : Room := { frames := 4, cells := 0, slots := 0, locals := 117 }
theorem fl_X8_mark_24 : Cond.fieldLink RX8 24 "PaperWalls" "now" "LPaperWalls$Street;" ∈ wsX8_mark := by decide +kernel
theorem fl_X8_mark_142 : Cond.fieldLink RX8 142 "PaperWalls$Street" "kinds" "[I" ∈ wsX8_mark := by decide +kernel
theorem in_X8_mark_X6 : ∀ x ∈ u_ws RX6 TX6 11, x ∈ wsX8_mark := by decide +kernel
theorem in_X8_mark_X8 : ∀ x ∈ u_ws RX8 TX8 12, x ∈ wsX8_mark := by decide +kernel
def F_X8_mark  (S : Sg) (a1 : Int32) (a2 : Int32) : Option (Int32 × Sg) := bd (F_X8_isOne S a1) (fun x2 => if x2 = 0 then (some ((-1 : Int32), S)) else (if a2 ≤ 0 then (some ((-1 : Int32), S)) else (if a2 < (6 : Int32) then (chk (inB a1 7) (bd (F_X2_isOf S (S.1 (sb 0 + 3) a1.toNatClampNeg) a2) (fun x5 => if x5 = 0 then (bd (F_X8_find S (3 : Int32)) (fun (x25, S26) => some (x25, S26))) else (if a2 = (1 : Int32) then (bd (F_X6_whoHear 0 S a1 (0 : Int32)) (fun x8 => bd (F_J6_bitCount_0f7a4 S x8) (fun x10 => some (x10, S)))) else (if a2 = (2 : Int32) then (bd (F_X6_othersIn 0 S a1) (fun x13 => some (x13, S))) else (if a2 = (3 : Int32) then (bd (F_X6_howManyHeardAs 0 S a1 (3 : Int32)) (fun x16 => some (x16, S))) else (if a2 = (4 : Int32) then (bd (F_X6_songIn 0 S (0 : Int32) ((1 : Int32) <<< (a1 &&& 31))) (fun x19 => some (x19, S))) else (bd (F_X6_howManyHeardAs 0 S a1 (5 : Int32)) (fun x21 => bd (F_X6_howManyHeardAs 0 S a1 (0 : Int32)) (fun x23 => some (x21 - x23, S))))))))))) else (some ((-1 : Int32), S)))))
set_option maxHeartbeats 4000000 in
set_option maxRecDepth 100000 in
theorem c_X8_mark (l : Launch) (G : Gp) (hI : Ij (wC G))  {S : Sg} {a1 : Int32} {a2 : Int32} {r : Int32} {S1 : Sg} (hF : F_X8_mark S a1 a2 = some (r, S1)) : Met l yX8_mark wsX8_mark rm_X8_mark (va_Pc [.ref (G.2.1 0), .int a1, .int a2] (PreW (wC G) S)) (va_Qi (fun r' u => r' = r ∧ u = S1) (PostW (wC G)) (AW (wC G))) 0 0 (AW (wC G)) := by
  rw [F_X8_mark] at hF
  refine met_i (cc := cX8_mark) (maxL := 3) (own := RX8) hI (by decide) rfl rfl (Nat.le_of_ble_eq_true rfl) (fun X O hR => ?_)
  show Go X l rm_X8_mark (wC G) 3 0 [(0, .ref (G.2.1 0)), (1, .int a1), (2, .int a2)] [] S
  refine go_aload_n O dX8_mark_0 rfl 0 rfl ?_
  refine go_iload_n O dX8_mark_1 rfl 1 rfl ?_
  obtain ⟨x2, hA1, hF⟩ := bd_s hF
  refine go_callVi (As := [.int a1]) (rest := []) (b := 0) O (c_X8_isOne l G hI hA1) (fun s args hts => cwV 1 hts gX8_mark_X8_isOne rfl rfl rfl (by decide +kernel) ⟨Nat.le_of_ble_eq_true rfl, Nat.le_of_ble_eq_true rfl⟩) (by decide : (0 : Nat) < 99) (cv_pw G (S.1 0) (S.2 0)) rfl rfl rfl rfl (Nat.le_of_ble_eq_true rfl) dX8_mark_2 ?_
  refine go_if_eq (tgt := 18) O dX8_mark_5 (by decide) (fun hc30 => ?_) (fun hc30 => ?_)
  · replace hF := it_t hc30 hF
    refine go_iconst (v := (-1 : Int32)) O dX8_mark_18 (by decide) ?_
    exact ret_wi hF (hR _ _ dX8_mark_19)
  · replace hF := it_f hc30 hF
    refine go_iload_n O dX8_mark_8 rfl 2 rfl ?_
    refine go_if_le (tgt := 18) O dX8_mark_9 (by decide) (fun hc29 => ?_) (fun hc29 => ?_)
    · replace hF := it_t hc29 hF
      refine go_iconst (v := (-1 : Int32)) O dX8_mark_18 (by decide) ?_
      exact ret_wi hF (hR _ _ dX8_mark_19)
    · replace hF := it_f hc29 hF
      refine go_iload_n O dX8_mark_12 rfl 2 rfl ?_
      refine go_bipush (v := (6 : Int32)) O dX8_mark_13 (by decide) ?_
      refine go_icmp_lt (tgt := 20) O dX8_mark_15 (by decide) (fun hc28 => ?_) (fun hc28 => ?_)
      · replace hF := it_t hc28 hF
        refine go_aload_n O dX8_mark_20 rfl 0 rfl ?_
        refine go_get (k := 0) (j := 2) O (by decide : (0 : Nat) < 99) (cv_pw G (S.1 0) (S.2 0)) rfl in_X8_mark_X8 (by decide) fl_X8_mark_24 rfl rfl dX8_mark_21 ?_
        refine go_get (k := (sb 0)) (j := 2) O (sb_lt0 (by decide : (0 : Nat) < 5)) (cv_st G (by decide : (0 : Nat) < 5) (S.1 (sb 0)) (S.2 (sb 0))) rfl in_X8_mark_X6 (by decide) fl_X8_mark_142 rfl rfl dX8_mark_24 ?_
        refine go_iload_n O dX8_mark_27 rfl 1 rfl ?_
        obtain ⟨hb3, hF⟩ := chk_s hF
        refine go_iald (k := (sb 0 + 3)) O (sb_lt (by decide : (0 : Nat) < 5) (by decide : 3 < 13)) (cv_sta3 G (by decide : (0 : Nat) < 5) (S.1 (sb 0 + 3)) (S.2 (sb 0 + 3))) (inB_in hb3) dX8_mark_28 ?_
        refine go_iload_n O dX8_mark_29 rfl 2 rfl ?_
        obtain ⟨x5, hA4, hF⟩ := bd_s hF
        refine go_callSi (As := [.int (S.1 (sb 0 + 3) a1.toNatClampNeg), .int a2]) (rest := []) O (c_X2_isOf l G hI hA4) (fun s args hts => va_cwS 2 hts gX8_mark_X2_isOf rfl rfl rfl (by decide +kernel) ⟨Nat.le_of_ble_eq_true rfl, Nat.le_of_ble_eq_true rfl⟩) rfl rfl (Nat.le_of_ble_eq_true rfl) dX8_mark_30 ?_
        refine go_if_ne (tgt := 42) O dX8_mark_33 (by decide) (fun hc27 => ?_) (fun hc27 => ?_)
        · replace hF := it_f hc27 hF
          refine go_iload_n O dX8_mark_42 rfl 2 rfl ?_
          by_cases hs6 : a2 = (1 : Int32)
          · replace hF := it_t hs6 hF
            refine go_tblIn (tgt := 72) (off := 29) O dX8_mark_43 (by rw [hs6]; decide) (by rw [hs6]; decide) (by rw [hs6]; rfl) (by decide) ?_
            refine go_aload_n O dX8_mark_72 rfl 0 rfl ?_
            refine go_get (k := 0) (j := 2) O (by decide : (0 : Nat) < 99) (cv_pw G (S.1 0) (S.2 0)) rfl in_X8_mark_X8 (by decide) fl_X8_mark_24 rfl rfl dX8_mark_73 ?_
            refine go_iload_n O dX8_mark_76 rfl 1 rfl ?_
            refine go_iconst (v := (0 : Int32)) O dX8_mark_77 (by decide) ?_
            obtain ⟨x8, hA7, hF⟩ := bd_s hF
            refine go_callVi (As := [.int a1, .int (0 : Int32)]) (rest := []) (b := (sb 0)) O (c_X6_whoHear l G hI (by decide : (0 : Nat) < 5) hA7) (fun s args hts => cwV 2 hts gX8_mark_X6_whoHear rfl rfl rfl (by decide +kernel) ⟨Nat.le_of_ble_eq_true rfl, Nat.le_of_ble_eq_true rfl⟩) (sb_lt0 (by decide : (0 : Nat) < 5)) (cv_st G (by decide : (0 : Nat) < 5) (S.1 (sb 0)) (S.2 (sb 0))) rfl rfl rfl rfl (Nat.le_of_ble_eq_true rfl) dX8_mark_78 ?_
            obtain ⟨x10, hA9, hF⟩ := bd_s hF
            refine go_callSi (As := [.int x8]) (rest := []) O (c_J6_bitCount_0f7a4 l G hI hA9) (fun s args hts => va_cwS 1 hts gX8_mark_J6_bitCount_0f7a4 rfl rfl rfl (by decide +kernel) ⟨Nat.le_of_ble_eq_true rfl, Nat.le_of_ble_eq_true rfl⟩) rfl rfl (Nat.le_of_ble_eq_true rfl) dX8_mark_81 ?_
            exact ret_wi hF (hR _ _ dX8_mark_84)
          replace hF := it_f hs6 hF
          by_cases hs11 : a2 = (2 : Int32)
          · replace hF := it_t hs11 hF
            refine go_tblIn (tgt := 85) (off := 42) O dX8_mark_43 (by rw [hs11]; decide) (by rw [hs11]; decide) (by rw [hs11]; rfl) (by decide) ?_
            refine go_aload_n O dX8_mark_85 rfl 0 rfl ?_
            refine go_get (k := 0) (j := 2) O (by decide : (0 : Nat) < 99) (cv_pw G (S.1 0) (S.2 0)) rfl in_X8_mark_X8 (by decide) fl_X8_mark_24 rfl rfl dX8_mark_86 ?_
            refine go_iload_n O dX8_mark_89 rfl 1 rfl ?_
            obtain ⟨x13, hA12, hF⟩ := bd_s hF
            refine go_callVi (As := [.int a1]) (rest := []) (b := (sb 0)) O (c_X6_othersIn l G hI (by decide : (0 : Nat) < 5) hA12) (fun s args hts => cwV 1 hts gX8_mark_X6_othersIn rfl rfl rfl (by decide +kernel) ⟨Nat.le_of_ble_eq_true rfl, Nat.le_of_ble_eq_true rfl⟩) (sb_lt0 (by decide : (0 : Nat) < 5)) (cv_st G (by decide : (0 : Nat) < 5) (S.1 (sb 0)) (S.2 (sb 0))) rfl rfl rfl rfl (Nat.le_of_ble_eq_true rfl) dX8_mark_90 ?_
            exact ret_wi hF (hR _ _ dX8_mark_93)
          replace hF := it_f hs11 hF
          by_cases hs14 : a2 = (3 : Int32)
          · replace hF := it_t hs14 hF
            refine go_tblIn (tgt := 94) (off := 51) O dX8_mark_43 (by rw [hs14]; decide) (by rw [hs14]; decide) (by rw [hs14]; rfl) (by decide) ?_
            refine go_aload_n O dX8_mark_94 rfl 0 rfl ?_
            refine go_get (k := 0) (j := 2) O (by decide : (0 : Nat) < 99) (cv_pw G (S.1 0) (S.2 0)) rfl in_X8_mark_X8 (by decide) fl_X8_mark_24 rfl rfl dX8_mark_95 ?_
            refine go_iload_n O dX8_mark_98 rfl 1 rfl ?_
            refine go_iconst (v := (3 : Int32)) O dX8_mark_99 (by decide) ?_
            obtain ⟨x16, hA15, hF⟩ := bd_s hF
            refine go_callVi (As := [.int a1, .int (3 : Int32)]) (rest := []) (b := (sb 0)) O (c_X6_howManyHeardAs l G hI (by decide : (0 : Nat) < 5) hA15) (fun s args hts => cwV 2 hts gX8_mark_X6_howManyHeardAs rfl rfl rfl (by decide +kernel) ⟨Nat.le_of_ble_eq_true rfl, Nat.le_of_ble_eq_true rfl⟩) (sb_lt0 (by decide : (0 : Nat) < 5)) (cv_st G (by decide : (0 : Nat) < 5) (S.1 (sb 0)) (S.2 (sb 0))) rfl rfl rfl rfl (Nat.le_of_ble_eq_true rfl) dX8_mark_100 ?_
            exact ret_wi hF (hR _ _ dX8_mark_103)
          replace hF := it_f hs14 hF
          by_cases hs17 : a2 = (4 : Int32)
          · replace hF := it_t hs17 hF
            refine go_tblIn (tgt := 104) (off := 61) O dX8_mark_43 (by rw [hs17]; decide) (by rw [hs17]; decide) (by rw [hs17]; rfl) (by decide) ?_
            refine go_aload_n O dX8_mark_104 rfl 0 rfl ?_
            refine go_get (k := 0) (j := 2) O (by decide : (0 : Nat) < 99) (cv_pw G (S.1 0) (S.2 0)) rfl in_X8_mark_X8 (by decide) fl_X8_mark_24 rfl rfl dX8_mark_105 ?_
            refine go_iconst (v := (0 : Int32)) O dX8_mark_108 (by decide) ?_
            refine go_iconst (v := (1 : Int32)) O dX8_mark_109 (by decide) ?_
            refine go_iload_n O dX8_mark_110 rfl 1 rfl ?_
            refine go_ishl O dX8_mark_111 ?_
            obtain ⟨x19, hA18, hF⟩ := bd_s hF
            refine go_callVi (As := [.int (0 : Int32), .int ((1 : Int32) <<< (a1 &&& 31))]) (rest := []) (b := (sb 0)) O (c_X6_songIn l G hI (by decide : (0 : Nat) < 5) hA18) (fun s args hts => cwV 2 hts gX8_mark_X6_songIn rfl rfl rfl (by decide +kernel) ⟨Nat.le_of_ble_eq_true rfl, Nat.le_of_ble_eq_true rfl⟩) (sb_lt0 (by decide : (0 : Nat) < 5)) (cv_st G (by decide : (0 : Nat) < 5) (S.1 (sb 0)) (S.2 (sb 0))) rfl rfl rfl rfl (Nat.le_of_ble_eq_true rfl) dX8_mark_112 ?_
            exact ret_wi hF (hR _ _ dX8_mark_115)
          replace hF := it_f hs17 hF
          refine go_tblOut (tgt := 116) O dX8_mark_43 (by have t0 := ne_toInt hs6 (k := 1) (by decide); have t1 := ne_toInt hs11 (k := 2) (by decide); have t2 := ne_toInt hs14 (k := 3) (by decide); have t3 := ne_toInt hs17 (k := 4) (by decide); omega) (by decide) ?_
          refine go_aload_n O dX8_mark_116 rfl 0 rfl ?_
          refine go_get (k := 0) (j := 2) O (by decide : (0 : Nat) < 99) (cv_pw G (S.1 0) (S.2 0)) rfl in_X8_mark_X8 (by decide) fl_X8_mark_24 rfl rfl dX8_mark_117 ?_
          refine go_iload_n O dX8_mark_120 rfl 1 rfl ?_
          refine go_iconst (v := (5 : Int32)) O dX8_mark_121 (by decide) ?_
          obtain ⟨x21, hA20, hF⟩ := bd_s hF
          refine go_callVi (As := [.int a1, .int (5 : Int32)]) (rest := []) (b := (sb 0)) O (c_X6_howManyHeardAs l G hI (by decide : (0 : Nat) < 5) hA20) (fun s args hts => cwV 2 hts gX8_mark_X6_howManyHeardAs rfl rfl rfl (by decide +kernel) ⟨Nat.le_of_ble_eq_true rfl, Nat.le_of_ble_eq_true rfl⟩) (sb_lt0 (by decide : (0 : Nat) < 5)) (cv_st G (by decide : (0 : Nat) < 5) (S.1 (sb 0)) (S.2 (sb 0))) rfl rfl rfl rfl (Nat.le_of_ble_eq_true rfl) dX8_mark_122 ?_
          refine go_aload_n O dX8_mark_125 rfl 0 rfl ?_
          refine go_get (k := 0) (j := 2) O (by decide : (0 : Nat) < 99) (cv_pw G (S.1 0) (S.2 0)) rfl in_X8_mark_X8 (by decide) fl_X8_mark_24 rfl rfl dX8_mark_126 ?_
          refine go_iload_n O dX8_mark_129 rfl 1 rfl ?_
          refine go_iconst (v := (0 : Int32)) O dX8_mark_130 (by decide) ?_
          obtain ⟨x23, hA22, hF⟩ := bd_s hF
          refine go_callVi (As := [.int a1, .int (0 : Int32)]) (rest := [.int x21]) (b := (sb 0)) O (c_X6_howManyHeardAs l G hI (by decide : (0 : Nat) < 5) hA22) (fun s args hts => cwV 2 hts gX8_mark_X6_howManyHeardAs rfl rfl rfl (by decide +kernel) ⟨Nat.le_of_ble_eq_true rfl, Nat.le_of_ble_eq_true rfl⟩) (sb_lt0 (by decide : (0 : Nat) < 5)) (cv_st G (by decide : (0 : Nat) < 5) (S.1 (sb 0)) (S.2 (sb 0))) rfl rfl rfl rfl (Nat.le_of_ble_eq_true rfl) dX8_mark_131 ?_
          refine go_isub O dX8_mark_134 ?_
          exact ret_wi hF (hR _ _ dX8_mark_135)
        · replace hF := it_t hc27 hF
          refine go_aload_n O dX8_mark_36 rfl 0 rfl ?_
          refine go_iconst (v := (3 : Int32)) O dX8_mark_37 (by decide) ?_
          obtain ⟨⟨x25, S26⟩, hA24, hF⟩ := bd_s hF
          refine go_callVi (As := [.int (3 : Int32)]) (rest := []) (b := 0) O (c_X8_find l G hI hA24) (fun s args hts => cwV 1 hts gX8_mark_X8_find rfl rfl rfl (by decide +kernel) ⟨Nat.le_of_ble_eq_true rfl, Nat.le_of_ble_eq_true rfl⟩) (by decide : (0 : Nat) < 99) (cv_pw G (S.1 0) (S.2 0)) rfl rfl rfl rfl (Nat.le_of_ble_eq_true rfl) dX8_mark_38 ?_
          exact ret_wi hF (hR _ _ dX8_mark_41)
      · replace hF := it_f hc28 hF
        refine go_iconst (v := (-1 : Int32)) O dX8_mark_18 (by decide) ?_
        exact ret_wi hF (hR _ _ dX8_mark_19)
-- X8_wall
def rm_X8_wall : Room := { frames := 1, cells := 0, slots := 0, locals := 21 }
theorem fl_X8_wall_24 : Cond.fieldLink RX8 24 "PaperWalls" "now" "LPaperWalls$Street;" ∈ wsX8_wall := by decide +kernel
theorem fl_X8_wall_165 : Cond.fieldLink RX8 165 "PaperWalls$Street" "walls" "I" ∈ wsX8_wall := by decide +kernel
theorem fl_X8_wall_168 : Cond.fieldLink RX8 168 "PaperWalls$Street" "layers" "[I" ∈ wsX8_wall := by decide +kernel
theorem in_X8_wall_X6 : ∀ x ∈ u_ws RX6 TX6 11, x ∈ wsX8_wall := by decide +kernel
theorem in_X8_wall_X8 : ∀ x ∈ u_ws RX8 TX8 12, x ∈ wsX8_wall := by decide +kernel
def F_X8_wall  (S : Sg) (a1 : Int32) (a2 : Int32) : Option (Int32 × Sg) := if a1 < 0 then (some ((-1 : Int32), S)) else (if (S.1 (sb 0) 8) ≤ a1 then (some ((-1 : Int32), S)) else (if a2 < 0 then (some ((-1 : Int32), S)) else (if a2 ≤ (20 : Int32) then (chk (inB a1 6) (nm (S.1 (sb 0 + 1) a1.toNatClampNeg) (fun x2 => chk (inB a1 6) (nm (wI S (sb 0 + 1) a1.toNatClampNeg a2) (fun S4 => bd (F_X6_measure 0 S4) (fun S6 => some (x2, S6))))))) else (some ((-1 : Int32), S)))))
set_option maxHeartbeats 4000000 in
set_option maxRecDepth 100000 in
theorem c_X8_wall (l : Launch) (G : Gp) (hI : Ij (wC G))  {S : Sg} {a1 : Int32} {a2 : Int32} {r : Int32} {S1 : Sg} (hF : F_X8_wall S a1 a2 = some (r, S1)) : Met l yX8_wall wsX8_wall rm_X8_wall (va_Pc [.ref (G.2.1 0), .int a1, .int a2] (PreW (wC G) S)) (va_Qi (fun r' u => r' = r ∧ u = S1) (PostW (wC G)) (AW (wC G))) 0 0 (AW (wC G)) := by
  rw [F_X8_wall] at hF
  refine met_i (cc := cX8_wall) (maxL := 4) (own := RX8) hI (by decide) rfl rfl (Nat.le_of_ble_eq_true rfl) (fun X O hR => ?_)
  show Go X l rm_X8_wall (wC G) 4 0 [(0, .ref (G.2.1 0)), (1, .int a1), (2, .int a2)] [] S
  refine go_iload_n O dX8_wall_0 rfl 1 rfl ?_
  refine go_if_lt (tgt := 25) O dX8_wall_1 (by decide) (fun hc10 => ?_) (fun hc10 => ?_)
  · replace hF := it_t hc10 hF
    refine go_iconst (v := (-1 : Int32)) O dX8_wall_25 (by decide) ?_
    exact ret_wi hF (hR _ _ dX8_wall_26)
  · replace hF := it_f hc10 hF
    refine go_iload_n O dX8_wall_4 rfl 1 rfl ?_
    refine go_aload_n O dX8_wall_5 rfl 0 rfl ?_
    refine go_get (k := 0) (j := 2) O (by decide : (0 : Nat) < 99) (cv_pw G (S.1 0) (S.2 0)) rfl in_X8_wall_X8 (by decide) fl_X8_wall_24 rfl rfl dX8_wall_6 ?_
    refine go_get (k := (sb 0)) (j := 8) O (sb_lt0 (by decide : (0 : Nat) < 5)) (cv_st G (by decide : (0 : Nat) < 5) (S.1 (sb 0)) (S.2 (sb 0))) rfl in_X8_wall_X6 (by decide) fl_X8_wall_165 rfl rfl dX8_wall_9 ?_
    refine go_icmp_ge (tgt := 25) O dX8_wall_12 (by decide) (fun hc9 => ?_) (fun hc9 => ?_)
    · replace hF := it_t hc9 hF
      refine go_iconst (v := (-1 : Int32)) O dX8_wall_25 (by decide) ?_
      exact ret_wi hF (hR _ _ dX8_wall_26)
    · replace hF := it_f hc9 hF
      refine go_iload_n O dX8_wall_15 rfl 2 rfl ?_
      refine go_if_lt (tgt := 25) O dX8_wall_16 (by decide) (fun hc8 => ?_) (fun hc8 => ?_)
      · replace hF := it_t hc8 hF
        refine go_iconst (v := (-1 : Int32)) O dX8_wall_25 (by decide) ?_
        exact ret_wi hF (hR _ _ dX8_wall_26)
      · replace hF := it_f hc8 hF
        refine go_iload_n O dX8_wall_19 rfl 2 rfl ?_
        refine go_bipush (v := (20 : Int32)) O dX8_wall_20 (by decide) ?_
        refine go_icmp_le (tgt := 27) O dX8_wall_22 (by decide) (fun hc7 => ?_) (fun hc7 => ?_)
        · replace hF := it_t hc7 hF
          refine go_aload_n O dX8_wall_27 rfl 0 rfl ?_
          refine go_get (k := 0) (j := 2) O (by decide : (0 : Nat) < 99) (cv_pw G (S.1 0) (S.2 0)) rfl in_X8_wall_X8 (by decide) fl_X8_wall_24 rfl rfl dX8_wall_28 ?_
          refine go_get (k := (sb 0)) (j := 0) O (sb_lt0 (by decide : (0 : Nat) < 5)) (cv_st G (by decide : (0 : Nat) < 5) (S.1 (sb 0)) (S.2 (sb 0))) rfl in_X8_wall_X6 (by decide) fl_X8_wall_168 rfl rfl dX8_wall_31 ?_
          refine go_iload_n O dX8_wall_34 rfl 1 rfl ?_
          obtain ⟨hb1, hF⟩ := chk_s hF
          refine go_iald (k := (sb 0 + 1)) O (sb_lt (by decide : (0 : Nat) < 5) (by decide : 1 < 13)) (cv_sta1 G (by decide : (0 : Nat) < 5) (S.1 (sb 0 + 1)) (S.2 (sb 0 + 1))) (inB_in hb1) dX8_wall_35 ?_
          obtain ⟨x2, ex2, hF⟩ := nm_s hF
          refine go_topi ex2 ?_
          refine go_istore_n (ls' := [(3, .int x2), (0, .ref (G.2.1 0)), (1, .int a1), (2, .int a2)]) O dX8_wall_36 rfl (by decide) rfl ?_
          refine go_aload_n O dX8_wall_37 rfl 1 rfl ?_
          refine go_get (k := 0) (j := 2) O (by decide : (0 : Nat) < 99) (cv_pw G (S.1 0) (S.2 0)) rfl in_X8_wall_X8 (by decide) fl_X8_wall_24 rfl rfl dX8_wall_38 ?_
          refine go_get (k := (sb 0)) (j := 0) O (sb_lt0 (by decide : (0 : Nat) < 5)) (cv_st G (by decide : (0 : Nat) < 5) (S.1 (sb 0)) (S.2 (sb 0))) rfl in_X8_wall_X6 (by decide) fl_X8_wall_168 rfl rfl dX8_wall_41 ?_
          refine go_iload_n O dX8_wall_44 rfl 2 rfl ?_
          refine go_iload_n O dX8_wall_45 rfl 3 rfl ?_
          obtain ⟨hb3, hF⟩ := chk_s hF
          obtain ⟨S4, eS4, hF⟩ := nm_s hF
          refine go_iast (k := (sb 0 + 1)) O (sb_lt (by decide : (0 : Nat) < 5) (by decide : 1 < 13)) (fun f => (cv_sta1 G (by decide : (0 : Nat) < 5) f (S.2 (sb 0 + 1)))) (inB_in hb3) dX8_wall_46 eS4 ?_
          refine go_aload_n O dX8_wall_47 rfl 1 rfl ?_
          refine go_get (k := 0) (j := 2) O (by decide : (0 : Nat) < 99) (cv_pw G (S4.1 0) (S4.2 0)) rfl in_X8_wall_X8 (by decide) fl_X8_wall_24 rfl rfl dX8_wall_48 ?_
          obtain ⟨S6, hA5, hF⟩ := bd_s hF
          refine go_callVv (As := []) (rest := []) (b := (sb 0)) O (c_X6_measure l G hI (by decide : (0 : Nat) < 5) hA5) (fun s args hts => cwV 0 hts gX8_wall_X6_measure rfl rfl rfl (by decide +kernel) ⟨Nat.le_of_ble_eq_true rfl, Nat.le_of_ble_eq_true rfl⟩) (sb_lt0 (by decide : (0 : Nat) < 5)) (cv_st G (by decide : (0 : Nat) < 5) (S4.1 (sb 0)) (S4.2 (sb 0))) rfl rfl rfl rfl (Nat.le_of_ble_eq_true rfl) dX8_wall_51 ?_
          refine go_iload_n O dX8_wall_54 rfl 0 rfl ?_
          exact ret_wi hF (hR _ _ dX8_wall_55)
        · replace hF := it_f hc7 hF
          refine go_iconst (v := (-1 : Int32)) O dX8_wall_25 (by decide) ?_
          exact ret_wi hF (hR _ _ dX8_wall_26)
-- X8_isRoom
def rm_X8_isRoom : Room := { frames := 0, cells := 0, slots := 0, locals := 0 }
theorem fl_X8_isRoom_24 : Cond.fieldLink RX8 24 "PaperWalls" "now" "LPaperWalls$Street;" ∈ wsX8_isRoom := by decide +kernel
theorem fl_X8_isRoom_165 : Cond.fieldLink RX8 165 "PaperWalls$Street" "walls" "I" ∈ wsX8_isRoom := by decide +kernel
theorem in_X8_isRoom_X6 : ∀ x ∈ u_ws RX6 TX6 11, x ∈ wsX8_isRoom := by decide +kernel
theorem in_X8_isRoom_X8 : ∀ x ∈ u_ws RX8 TX8 12, x ∈ wsX8_isRoom := by decide +kernel
def F_X8_isRoom  (S : Sg) (a1 : Int32) : Option Int32 := if (S.1 (sb 0) 8) ≤ 0 then (some (0 : Int32)) else (if a1 < 0 then (some (0 : Int32)) else (if (S.1 (sb 0) 8) < a1 then (some (0 : Int32)) else (some (1 : Int32))))
set_option maxHeartbeats 4000000 in
set_option maxRecDepth 100000 in
theorem c_X8_isRoom (l : Launch) (G : Gp) (hI : Ij (wC G))  {S : Sg} {a1 : Int32} {r : Int32} (hF : F_X8_isRoom S a1 = some r) : Met l yX8_isRoom wsX8_isRoom rm_X8_isRoom (va_Pc [.ref (G.2.1 0), .int a1] (PreW (wC G) S)) (va_Qi (fun r' u => r' = r ∧ u = S) (PostW (wC G)) (AW (wC G))) 0 0 (AW (wC G)) := by
  rw [F_X8_isRoom] at hF
  refine met_z (cc := cX8_isRoom) (maxL := 2) (own := RX8) hI (by decide) rfl rfl (Nat.le_of_ble_eq_true rfl) (fun X O hR => ?_)
  show Go X l rm_X8_isRoom (wC G) 2 0 [(0, .ref (G.2.1 0)), (1, .int a1)] [] S
  refine go_aload_n O dX8_isRoom_0 rfl 0 rfl ?_
  refine go_get (k := 0) (j := 2) O (by decide : (0 : Nat) < 99) (cv_pw G (S.1 0) (S.2 0)) rfl in_X8_isRoom_X8 (by decide) fl_X8_isRoom_24 rfl rfl dX8_isRoom_1 ?_
  refine go_get (k := (sb 0)) (j := 8) O (sb_lt0 (by decide : (0 : Nat) < 5)) (cv_st G (by decide : (0 : Nat) < 5) (S.1 (sb 0)) (S.2 (sb 0))) rfl in_X8_isRoom_X6 (by decide) fl_X8_isRoom_165 rfl rfl dX8_isRoom_4 ?_
  refine go_if_le (tgt := 29) O dX8_isRoom_7 (by decide) (fun hc3 => ?_) (fun hc3 => ?_)
  · replace hF := it_t hc3 hF
    refine go_iconst (v := (0 : Int32)) O dX8_isRoom_29 (by decide) ?_
    exact ret_z hF (fun hz => hR _ _ hz dX8_isRoom_30) (by decide)
  · replace hF := it_f hc3 hF
    refine go_iload_n O dX8_isRoom_10 rfl 1 rfl ?_
    refine go_if_lt (tgt := 29) O dX8_isRoom_11 (by decide) (fun hc2 => ?_) (fun hc2 => ?_)
    · replace hF := it_t hc2 hF
      refine go_iconst (v := (0 : Int32)) O dX8_isRoom_29 (by decide) ?_
      exact ret_z hF (fun hz => hR _ _ hz dX8_isRoom_30) (by decide)
    · replace hF := it_f hc2 hF
      refine go_iload_n O dX8_isRoom_14 rfl 1 rfl ?_
      refine go_aload_n O dX8_isRoom_15 rfl 0 rfl ?_
      refine go_get (k := 0) (j := 2) O (by decide : (0 : Nat) < 99) (cv_pw G (S.1 0) (S.2 0)) rfl in_X8_isRoom_X8 (by decide) fl_X8_isRoom_24 rfl rfl dX8_isRoom_16 ?_
      refine go_get (k := (sb 0)) (j := 8) O (sb_lt0 (by decide : (0 : Nat) < 5)) (cv_st G (by decide : (0 : Nat) < 5) (S.1 (sb 0)) (S.2 (sb 0))) rfl in_X8_isRoom_X6 (by decide) fl_X8_isRoom_165 rfl rfl dX8_isRoom_19 ?_
      refine go_icmp_gt (tgt := 29) O dX8_isRoom_22 (by decide) (fun hc1 => ?_) (fun hc1 => ?_)
      · replace hF := it_t hc1 hF
        refine go_iconst (v := (0 : Int32)) O dX8_isRoom_29 (by decide) ?_
        exact ret_z hF (fun hz => hR _ _ hz dX8_isRoom_30) (by decide)
      · replace hF := it_f hc1 hF
        refine go_iconst (v := (1 : Int32)) O dX8_isRoom_25 (by decide) ?_
        refine go_goto (tgt := 30) O dX8_isRoom_26 (by decide) ?_
        exact ret_z hF (fun hz => hR _ _ hz dX8_isRoom_30) (by decide)
-- X8_move
def rm_X8_move : Room := { frames := 1, cells := 0, slots := 0, locals := 21 }
theorem fl_X8_move_24 : Cond.fieldLink RX8 24 "PaperWalls" "now" "LPaperWalls$Street;" ∈ wsX8_move := by decide +kernel
theorem fl_X8_move_177 : Cond.fieldLink RX8 177 "PaperWalls$Street" "rooms" "[I" ∈ wsX8_move := by decide +kernel
theorem in_X8_move_X6 : ∀ x ∈ u_ws RX6 TX6 11, x ∈ wsX8_move := by decide +kernel
theorem in_X8_move_X8 : ∀ x ∈ u_ws RX8 TX8 12, x ∈ wsX8_move := by decide +kernel
def F_X8_move  (S : Sg) (a1 : Int32) (a2 : Int32) : Option (Int32 × Sg) := bd (F_X8_isOne S a1) (fun x2 => if x2 = 0 then (some ((-1 : Int32), S)) else (bd (F_X8_isRoom S a2) (fun x4 => if x4 = 0 then (some ((-1 : Int32), S)) else (chk (inB a1 7) (nm (S.1 (sb 0 + 4) a1.toNatClampNeg) (fun x6 => chk (inB a1 7) (nm (wI S (sb 0 + 4) a1.toNatClampNeg a2) (fun S8 => some (x6, S8)))))))))
set_option maxHeartbeats 4000000 in
set_option maxRecDepth 100000 in
theorem c_X8_move (l : Launch) (G : Gp) (hI : Ij (wC G))  {S : Sg} {a1 : Int32} {a2 : Int32} {r : Int32} {S1 : Sg} (hF : F_X8_move S a1 a2 = some (r, S1)) : Met l yX8_move wsX8_move rm_X8_move (va_Pc [.ref (G.2.1 0), .int a1, .int a2] (PreW (wC G) S)) (va_Qi (fun r' u => r' = r ∧ u = S1) (PostW (wC G)) (AW (wC G))) 0 0 (AW (wC G)) := by
  rw [F_X8_move] at hF
  refine met_i (cc := cX8_move) (maxL := 4) (own := RX8) hI (by decide) rfl rfl (Nat.le_of_ble_eq_true rfl) (fun X O hR => ?_)
  show Go X l rm_X8_move (wC G) 4 0 [(0, .ref (G.2.1 0)), (1, .int a1), (2, .int a2)] [] S
  refine go_aload_n O dX8_move_0 rfl 0 rfl ?_
  refine go_iload_n O dX8_move_1 rfl 1 rfl ?_
  obtain ⟨x2, hA1, hF⟩ := bd_s hF
  refine go_callVi (As := [.int a1]) (rest := []) (b := 0) O (c_X8_isOne l G hI hA1) (fun s args hts => cwV 1 hts gX8_move_X8_isOne rfl rfl rfl (by decide +kernel) ⟨Nat.le_of_ble_eq_true rfl, Nat.le_of_ble_eq_true rfl⟩) (by decide : (0 : Nat) < 99) (cv_pw G (S.1 0) (S.2 0)) rfl rfl rfl rfl (Nat.le_of_ble_eq_true rfl) dX8_move_2 ?_
  refine go_if_eq (tgt := 16) O dX8_move_5 (by decide) (fun hc10 => ?_) (fun hc10 => ?_)
  · replace hF := it_t hc10 hF
    refine go_iconst (v := (-1 : Int32)) O dX8_move_16 (by decide) ?_
    exact ret_wi hF (hR _ _ dX8_move_17)
  · replace hF := it_f hc10 hF
    refine go_aload_n O dX8_move_8 rfl 0 rfl ?_
    refine go_iload_n O dX8_move_9 rfl 2 rfl ?_
    obtain ⟨x4, hA3, hF⟩ := bd_s hF
    refine go_callVi (As := [.int a2]) (rest := []) (b := 0) O (c_X8_isRoom l G hI hA3) (fun s args hts => cwV 1 hts gX8_move_X8_isRoom rfl rfl rfl (by decide +kernel) ⟨Nat.le_of_ble_eq_true rfl, Nat.le_of_ble_eq_true rfl⟩) (by decide : (0 : Nat) < 99) (cv_pw G (S.1 0) (S.2 0)) rfl rfl rfl rfl (Nat.le_of_ble_eq_true rfl) dX8_move_10 ?_
    refine go_if_ne (tgt := 18) O dX8_move_13 (by decide) (fun hc9 => ?_) (fun hc9 => ?_)
    · replace hF := it_f hc9 hF
      refine go_aload_n O dX8_move_18 rfl 0 rfl ?_
      refine go_get (k := 0) (j := 2) O (by decide : (0 : Nat) < 99) (cv_pw G (S.1 0) (S.2 0)) rfl in_X8_move_X8 (by decide) fl_X8_move_24 rfl rfl dX8_move_19 ?_
      refine go_get (k := (sb 0)) (j := 3) O (sb_lt0 (by decide : (0 : Nat) < 5)) (cv_st G (by decide : (0 : Nat) < 5) (S.1 (sb 0)) (S.2 (sb 0))) rfl in_X8_move_X6 (by decide) fl_X8_move_177 rfl rfl dX8_move_22 ?_
      refine go_iload_n O dX8_move_25 rfl 1 rfl ?_
      obtain ⟨hb5, hF⟩ := chk_s hF
      refine go_iald (k := (sb 0 + 4)) O (sb_lt (by decide : (0 : Nat) < 5) (by decide : 4 < 13)) (cv_sta4 G (by decide : (0 : Nat) < 5) (S.1 (sb 0 + 4)) (S.2 (sb 0 + 4))) (inB_in hb5) dX8_move_26 ?_
      obtain ⟨x6, ex6, hF⟩ := nm_s hF
      refine go_topi ex6 ?_
      refine go_istore_n (ls' := [(3, .int x6), (0, .ref (G.2.1 0)), (1, .int a1), (2, .int a2)]) O dX8_move_27 rfl (by decide) rfl ?_
      refine go_aload_n O dX8_move_28 rfl 1 rfl ?_
      refine go_get (k := 0) (j := 2) O (by decide : (0 : Nat) < 99) (cv_pw G (S.1 0) (S.2 0)) rfl in_X8_move_X8 (by decide) fl_X8_move_24 rfl rfl dX8_move_29 ?_
      refine go_get (k := (sb 0)) (j := 3) O (sb_lt0 (by decide : (0 : Nat) < 5)) (cv_st G (by decide : (0 : Nat) < 5) (S.1 (sb 0)) (S.2 (sb 0))) rfl in_X8_move_X6 (by decide) fl_X8_move_177 rfl rfl dX8_move_32 ?_
      refine go_iload_n O dX8_move_35 rfl 2 rfl ?_
      refine go_iload_n O dX8_move_36 rfl 3 rfl ?_
      obtain ⟨hb7, hF⟩ := chk_s hF
      obtain ⟨S8, eS8, hF⟩ := nm_s hF
      refine go_iast (k := (sb 0 + 4)) O (sb_lt (by decide : (0 : Nat) < 5) (by decide : 4 < 13)) (fun f => (cv_sta4 G (by decide : (0 : Nat) < 5) f (S.2 (sb 0 + 4)))) (inB_in hb7) dX8_move_37 eS8 ?_
      refine go_iload_n O dX8_move_38 rfl 0 rfl ?_
      exact ret_wi hF (hR _ _ dX8_move_39)
    · replace hF := it_t hc9 hF
      refine go_iconst (v := (-1 : Int32)) O dX8_move_16 (by decide) ?_
      exact ret_wi hF (hR _ _ dX8_move_17)
-- X8_areTwo
def rm_X8_areTwo : Room := { frames := 1, cells := 0, slots := 0, locals := 21 }
def F_X8_areTwo  (S : Sg) (a1 : Int32) (a2 : Int32) : Option Int32 := bd (F_X8_isOne S a1) (fun x2 => if x2 = 0 then (some (0 : Int32)) else (bd (F_X8_isOne S a2) (fun x4 => if x4 = 0 then (some (0 : Int32)) else (if a1 = a2 then (some (0 : Int32)) else (some (1 : Int32))))))
set_option maxHeartbeats 4000000 in
set_option maxRecDepth 100000 in
theorem c_X8_areTwo (l : Launch) (G : Gp) (hI : Ij (wC G))  {S : Sg} {a1 : Int32} {a2 : Int32} {r : Int32} (hF : F_X8_areTwo S a1 a2 = some r) : Met l yX8_areTwo wsX8_areTwo rm_X8_areTwo (va_Pc [.ref (G.2.1 0), .int a1, .int a2] (PreW (wC G) S)) (va_Qi (fun r' u => r' = r ∧ u = S) (PostW (wC G)) (AW (wC G))) 0 0 (AW (wC G)) := by
  rw [F_X8_areTwo] at hF
  refine met_z (cc := cX8_areTwo) (maxL := 3) (own := RX8) hI (by decide) rfl rfl (Nat.le_of_ble_eq_true rfl) (fun X O hR => ?_)
  show Go X l rm_X8_areTwo (wC G) 3 0 [(0, .ref (G.2.1 0)), (1, .int a1), (2, .int a2)] [] S
  refine go_aload_n O dX8_areTwo_0 rfl 0 rfl ?_
  refine go_iload_n O dX8_areTwo_1 rfl 1 rfl ?_
  obtain ⟨x2, hA1, hF⟩ := bd_s hF
  refine go_callVi (As := [.int a1]) (rest := []) (b := 0) O (c_X8_isOne l G hI hA1) (fun s args hts => cwV 1 hts gX8_areTwo_X8_isOne rfl rfl rfl (by decide +kernel) ⟨Nat.le_of_ble_eq_true rfl, Nat.le_of_ble_eq_true rfl⟩) (by decide : (0 : Nat) < 99) (cv_pw G (S.1 0) (S.2 0)) rfl rfl rfl rfl (Nat.le_of_ble_eq_true rfl) dX8_areTwo_2 ?_
  refine go_if_eq (tgt := 25) O dX8_areTwo_5 (by decide) (fun hc7 => ?_) (fun hc7 => ?_)
  · replace hF := it_t hc7 hF
    refine go_iconst (v := (0 : Int32)) O dX8_areTwo_25 (by decide) ?_
    exact ret_z hF (fun hz => hR _ _ hz dX8_areTwo_26) (by decide)
  · replace hF := it_f hc7 hF
    refine go_aload_n O dX8_areTwo_8 rfl 0 rfl ?_
    refine go_iload_n O dX8_areTwo_9 rfl 2 rfl ?_
    obtain ⟨x4, hA3, hF⟩ := bd_s hF
    refine go_callVi (As := [.int a2]) (rest := []) (b := 0) O (c_X8_isOne l G hI hA3) (fun s args hts => cwV 1 hts gX8_areTwo_X8_isOne rfl rfl rfl (by decide +kernel) ⟨Nat.le_of_ble_eq_true rfl, Nat.le_of_ble_eq_true rfl⟩) (by decide : (0 : Nat) < 99) (cv_pw G (S.1 0) (S.2 0)) rfl rfl rfl rfl (Nat.le_of_ble_eq_true rfl) dX8_areTwo_10 ?_
    refine go_if_eq (tgt := 25) O dX8_areTwo_13 (by decide) (fun hc6 => ?_) (fun hc6 => ?_)
    · replace hF := it_t hc6 hF
      refine go_iconst (v := (0 : Int32)) O dX8_areTwo_25 (by decide) ?_
      exact ret_z hF (fun hz => hR _ _ hz dX8_areTwo_26) (by decide)
    · replace hF := it_f hc6 hF
      refine go_iload_n O dX8_areTwo_16 rfl 1 rfl ?_
      refine go_iload_n O dX8_areTwo_17 rfl 2 rfl ?_
      refine go_icmp_eq (tgt := 25) O dX8_areTwo_18 (by decide) (fun hc5 => ?_) (fun hc5 => ?_)
      · replace hF := it_t hc5 hF
        refine go_iconst (v := (0 : Int32)) O dX8_areTwo_25 (by decide) ?_
        exact ret_z hF (fun hz => hR _ _ hz dX8_areTwo_26) (by decide)
      · replace hF := it_f hc5 hF
        refine go_iconst (v := (1 : Int32)) O dX8_areTwo_21 (by decide) ?_
        refine go_goto (tgt := 26) O dX8_areTwo_22 (by decide) ?_
        exact ret_z hF (fun hz => hR _ _ hz dX8_areTwo_26) (by decide)
-- X8_hears
def rm_X8_hears : Room := { frames := 3, cells := 0, slots := 0, locals := 84 }
theorem fl_X8_hears_24 : Cond.fieldLink RX8 24 "PaperWalls" "now" "LPaperWalls$Street;" ∈ wsX8_hears := by decide +kernel
theorem fl_X8_hears_92 : Cond.fieldLink RX8 92 "PaperWalls" "told" "I" ∈ wsX8_hears := by decide +kernel
theorem fl_X8_hears_177 : Cond.fieldLink RX8 177 "PaperWalls$Street" "rooms" "[I" ∈ wsX8_hears := by decide +kernel
theorem in_X8_hears_X6 : ∀ x ∈ u_ws RX6 TX6 11, x ∈ wsX8_hears := by decide +kernel
theorem in_X8_hears_X8 : ∀ x ∈ u_ws RX8 TX8 12, x ∈ wsX8_hears := by decide +kernel
def F_X8_hears  (S : Sg) (a1 : Int32) (a2 : Int32) : Option (Int32 × Sg) := bd (F_X8_areTwo S a1 a2) (fun x2 => if x2 = 0 then (some ((-1 : Int32), S)) else (chk (inB a1 7) (bd (F_X6_comesTo 0 S (S.1 (sb 0 + 4) a1.toNatClampNeg) a2) (fun x5 => nm (wI S 0 10 x5) (fun S6 => bd (F_X6_isHeardBy 0 S6 a1 a2) (fun x8 => if x8 = 0 then (some ((0 : Int32), S6)) else (some ((1 : Int32), S6))))))))
set_option maxHeartbeats 4000000 in
set_option maxRecDepth 100000 in
theorem c_X8_hears (l : Launch) (G : Gp) (hI : Ij (wC G))  {S : Sg} {a1 : Int32} {a2 : Int32} {r : Int32} {S1 : Sg} (hF : F_X8_hears S a1 a2 = some (r, S1)) : Met l yX8_hears wsX8_hears rm_X8_hears (va_Pc [.ref (G.2.1 0), .int a1, .int a2] (PreW (wC G) S)) (va_Qi (fun r' u => r' = r ∧ u = S1) (PostW (wC G)) (AW (wC G))) 0 0 (AW (wC G)) := by
  rw [F_X8_hears] at hF
  refine met_i (cc := cX8_hears) (maxL := 3) (own := RX8) hI (by decide) rfl rfl (Nat.le_of_ble_eq_true rfl) (fun X O hR => ?_)
  show Go X l rm_X8_hears (wC G) 3 0 [(0, .ref (G.2.1 0)), (1, .int a1), (2, .int a2)] [] S
  refine go_aload_n O dX8_hears_0 rfl 0 rfl ?_
  refine go_iload_n O dX8_hears_1 rfl 1 rfl ?_
  refine go_iload_n O dX8_hears_2 rfl 2 rfl ?_
  obtain ⟨x2, hA1, hF⟩ := bd_s hF
  refine go_callVi (As := [.int a1, .int a2]) (rest := []) (b := 0) O (c_X8_areTwo l G hI hA1) (fun s args hts => cwV 2 hts gX8_hears_X8_areTwo rfl rfl rfl (by decide +kernel) ⟨Nat.le_of_ble_eq_true rfl, Nat.le_of_ble_eq_true rfl⟩) (by decide : (0 : Nat) < 99) (cv_pw G (S.1 0) (S.2 0)) rfl rfl rfl rfl (Nat.le_of_ble_eq_true rfl) dX8_hears_3 ?_
  refine go_if_ne (tgt := 11) O dX8_hears_6 (by decide) (fun hc10 => ?_) (fun hc10 => ?_)
  · replace hF := it_f hc10 hF
    refine go_aload_n O dX8_hears_11 rfl 0 rfl ?_
    refine go_aload_n O dX8_hears_12 rfl 0 rfl ?_
    refine go_get (k := 0) (j := 2) O (by decide : (0 : Nat) < 99) (cv_pw G (S.1 0) (S.2 0)) rfl in_X8_hears_X8 (by decide) fl_X8_hears_24 rfl rfl dX8_hears_13 ?_
    refine go_aload_n O dX8_hears_16 rfl 0 rfl ?_
    refine go_get (k := 0) (j := 2) O (by decide : (0 : Nat) < 99) (cv_pw G (S.1 0) (S.2 0)) rfl in_X8_hears_X8 (by decide) fl_X8_hears_24 rfl rfl dX8_hears_17 ?_
    refine go_get (k := (sb 0)) (j := 3) O (sb_lt0 (by decide : (0 : Nat) < 5)) (cv_st G (by decide : (0 : Nat) < 5) (S.1 (sb 0)) (S.2 (sb 0))) rfl in_X8_hears_X6 (by decide) fl_X8_hears_177 rfl rfl dX8_hears_20 ?_
    refine go_iload_n O dX8_hears_23 rfl 1 rfl ?_
    obtain ⟨hb3, hF⟩ := chk_s hF
    refine go_iald (k := (sb 0 + 4)) O (sb_lt (by decide : (0 : Nat) < 5) (by decide : 4 < 13)) (cv_sta4 G (by decide : (0 : Nat) < 5) (S.1 (sb 0 + 4)) (S.2 (sb 0 + 4))) (inB_in hb3) dX8_hears_24 ?_
    refine go_iload_n O dX8_hears_25 rfl 2 rfl ?_
    obtain ⟨x5, hA4, hF⟩ := bd_s hF
    refine go_callVi (As := [.int (S.1 (sb 0 + 4) a1.toNatClampNeg), .int a2]) (rest := [.ref (G.2.1 0)]) (b := (sb 0)) O (c_X6_comesTo l G hI (by decide : (0 : Nat) < 5) hA4) (fun s args hts => cwV 2 hts gX8_hears_X6_comesTo rfl rfl rfl (by decide +kernel) ⟨Nat.le_of_ble_eq_true rfl, Nat.le_of_ble_eq_true rfl⟩) (sb_lt0 (by decide : (0 : Nat) < 5)) (cv_st G (by decide : (0 : Nat) < 5) (S.1 (sb 0)) (S.2 (sb 0))) rfl rfl rfl rfl (Nat.le_of_ble_eq_true rfl) dX8_hears_26 ?_
    obtain ⟨S6, eS6, hF⟩ := nm_s hF
    refine go_putI (k := 0) (j := 10) O (by decide : (0 : Nat) < 99) (cv_pw G (S.1 0) (S.2 0)) rfl in_X8_hears_X8 (by decide) fl_X8_hears_92 rfl tyX8 tyX8_ok nmX8 rfl (by decide +kernel) (Nat.le_of_ble_eq_true rfl) (cv_pw G (upd (S.1 0) 10 x5) (S.2 0)) dX8_hears_29 eS6 ?_
    refine go_aload_n O dX8_hears_32 rfl 0 rfl ?_
    refine go_get (k := 0) (j := 2) O (by decide : (0 : Nat) < 99) (cv_pw G (S6.1 0) (S6.2 0)) rfl in_X8_hears_X8 (by decide) fl_X8_hears_24 rfl rfl dX8_hears_33 ?_
    refine go_iload_n O dX8_hears_36 rfl 1 rfl ?_
    refine go_iload_n O dX8_hears_37 rfl 2 rfl ?_
    obtain ⟨x8, hA7, hF⟩ := bd_s hF
    refine go_callVi (As := [.int a1, .int a2]) (rest := []) (b := (sb 0)) O (c_X6_isHeardBy l G hI (by decide : (0 : Nat) < 5) hA7) (fun s args hts => cwV 2 hts gX8_hears_X6_isHeardBy rfl rfl rfl (by decide +kernel) ⟨Nat.le_of_ble_eq_true rfl, Nat.le_of_ble_eq_true rfl⟩) (sb_lt0 (by decide : (0 : Nat) < 5)) (cv_st G (by decide : (0 : Nat) < 5) (S6.1 (sb 0)) (S6.2 (sb 0))) rfl rfl rfl rfl (Nat.le_of_ble_eq_true rfl) dX8_hears_38 ?_
    refine go_if_eq (tgt := 48) O dX8_hears_41 (by decide) (fun hc9 => ?_) (fun hc9 => ?_)
    · replace hF := it_t hc9 hF
      refine go_iconst (v := (0 : Int32)) O dX8_hears_48 (by decide) ?_
      exact ret_wi hF (hR _ _ dX8_hears_49)
    · replace hF := it_f hc9 hF
      refine go_iconst (v := (1 : Int32)) O dX8_hears_44 (by decide) ?_
      refine go_goto (tgt := 49) O dX8_hears_45 (by decide) ?_
      exact ret_wi hF (hR _ _ dX8_hears_49)
  · replace hF := it_t hc10 hF
    refine go_iconst (v := (-1 : Int32)) O dX8_hears_9 (by decide) ?_
    exact ret_wi hF (hR _ _ dX8_hears_10)
-- X8_isSet
def rm_X8_isSet : Room := { frames := 1, cells := 0, slots := 0, locals := 20 }
theorem fl_X8_isSet_24 : Cond.fieldLink RX8 24 "PaperWalls" "now" "LPaperWalls$Street;" ∈ wsX8_isSet := by decide +kernel
theorem in_X8_isSet_X8 : ∀ x ∈ u_ws RX8 TX8 12, x ∈ wsX8_isSet := by decide +kernel
def F_X8_isSet  (S : Sg) (a1 : Int32) : Option Int32 := if a1 < 0 then (some (0 : Int32)) else (bd (F_X6_everyone 0 S) (fun x2 => if x2 < a1 then (some (0 : Int32)) else (some (1 : Int32))))
set_option maxHeartbeats 4000000 in
set_option maxRecDepth 100000 in
theorem c_X8_isSet (l : Launch) (G : Gp) (hI : Ij (wC G))  {S : Sg} {a1 : Int32} {r : Int32} (hF : F_X8_isSet S a1 = some r) : Met l yX8_isSet wsX8_isSet rm_X8_isSet (va_Pc [.ref (G.2.1 0), .int a1] (PreW (wC G) S)) (va_Qi (fun r' u => r' = r ∧ u = S) (PostW (wC G)) (AW (wC G))) 0 0 (AW (wC G)) := by
  rw [F_X8_isSet] at hF
  refine met_z (cc := cX8_isSet) (maxL := 2) (own := RX8) hI (by decide) rfl rfl (Nat.le_of_ble_eq_true rfl) (fun X O hR => ?_)
  show Go X l rm_X8_isSet (wC G) 2 0 [(0, .ref (G.2.1 0)), (1, .int a1)] [] S
  refine go_iload_n O dX8_isSet_0 rfl 1 rfl ?_
  refine go_if_lt (tgt := 19) O dX8_isSet_1 (by decide) (fun hc4 => ?_) (fun hc4 => ?_)
  · replace hF := it_t hc4 hF
    refine go_iconst (v := (0 : Int32)) O dX8_isSet_19 (by decide) ?_
    exact ret_z hF (fun hz => hR _ _ hz dX8_isSet_20) (by decide)
  · replace hF := it_f hc4 hF
    refine go_iload_n O dX8_isSet_4 rfl 1 rfl ?_
    refine go_aload_n O dX8_isSet_5 rfl 0 rfl ?_
    refine go_get (k := 0) (j := 2) O (by decide : (0 : Nat) < 99) (cv_pw G (S.1 0) (S.2 0)) rfl in_X8_isSet_X8 (by decide) fl_X8_isSet_24 rfl rfl dX8_isSet_6 ?_
    obtain ⟨x2, hA1, hF⟩ := bd_s hF
    refine go_callVi (As := []) (rest := [.int a1]) (b := (sb 0)) O (c_X6_everyone l G hI (by decide : (0 : Nat) < 5) hA1) (fun s args hts => cwV 0 hts gX8_isSet_X6_everyone rfl rfl rfl (by decide +kernel) ⟨Nat.le_of_ble_eq_true rfl, Nat.le_of_ble_eq_true rfl⟩) (sb_lt0 (by decide : (0 : Nat) < 5)) (cv_st G (by decide : (0 : Nat) < 5) (S.1 (sb 0)) (S.2 (sb 0))) rfl rfl rfl rfl (Nat.le_of_ble_eq_true rfl) dX8_isSet_9 ?_
    refine go_icmp_gt (tgt := 19) O dX8_isSet_12 (by decide) (fun hc3 => ?_) (fun hc3 => ?_)
    · replace hF := it_t hc3 hF
      refine go_iconst (v := (0 : Int32)) O dX8_isSet_19 (by decide) ?_
      exact ret_z hF (fun hz => hR _ _ hz dX8_isSet_20) (by decide)
    · replace hF := it_f hc3 hF
      refine go_iconst (v := (1 : Int32)) O dX8_isSet_15 (by decide) ?_
      refine go_goto (tgt := 20) O dX8_isSet_16 (by decide) ?_
      exact ret_z hF (fun hz => hR _ _ hz dX8_isSet_20) (by decide)
-- X8_heard
def rm_X8_heard : Room := { frames := 4, cells := 0, slots := 0, locals := 117 }
theorem fl_X8_heard_24 : Cond.fieldLink RX8 24 "PaperWalls" "now" "LPaperWalls$Street;" ∈ wsX8_heard := by decide +kernel
theorem in_X8_heard_X8 : ∀ x ∈ u_ws RX8 TX8 12, x ∈ wsX8_heard := by decide +kernel
def F_X8_heard  (S : Sg) (a1 : Int32) (a2 : Int32) : Option Int32 := bd (F_X8_isOne S a1) (fun x2 => if x2 = 0 then (some (-1 : Int32)) else (bd (F_X8_isSet S a2) (fun x4 => if x4 = 0 then (some (-1 : Int32)) else (if ((a2 >>> (a1 &&& 31)) &&& (1 : Int32)) = 0 then (bd (F_X6_whoHear 0 S a1 a2) (fun x6 => some x6)) else (some (-1 : Int32))))))
set_option maxHeartbeats 4000000 in
set_option maxRecDepth 100000 in
theorem c_X8_heard (l : Launch) (G : Gp) (hI : Ij (wC G))  {S : Sg} {a1 : Int32} {a2 : Int32} {r : Int32} (hF : F_X8_heard S a1 a2 = some r) : Met l yX8_heard wsX8_heard rm_X8_heard (va_Pc [.ref (G.2.1 0), .int a1, .int a2] (PreW (wC G) S)) (va_Qi (fun r' u => r' = r ∧ u = S) (PostW (wC G)) (AW (wC G))) 0 0 (AW (wC G)) := by
  rw [F_X8_heard] at hF
  refine met_i (cc := cX8_heard) (maxL := 3) (own := RX8) hI (by decide) rfl rfl (Nat.le_of_ble_eq_true rfl) (fun X O hR => ?_)
  show Go X l rm_X8_heard (wC G) 3 0 [(0, .ref (G.2.1 0)), (1, .int a1), (2, .int a2)] [] S
  refine go_aload_n O dX8_heard_0 rfl 0 rfl ?_
  refine go_iload_n O dX8_heard_1 rfl 1 rfl ?_
  obtain ⟨x2, hA1, hF⟩ := bd_s hF
  refine go_callVi (As := [.int a1]) (rest := []) (b := 0) O (c_X8_isOne l G hI hA1) (fun s args hts => cwV 1 hts gX8_heard_X8_isOne rfl rfl rfl (by decide +kernel) ⟨Nat.le_of_ble_eq_true rfl, Nat.le_of_ble_eq_true rfl⟩) (by decide : (0 : Nat) < 99) (cv_pw G (S.1 0) (S.2 0)) rfl rfl rfl rfl (Nat.le_of_ble_eq_true rfl) dX8_heard_2 ?_
  refine go_if_eq (tgt := 24) O dX8_heard_5 (by decide) (fun hc9 => ?_) (fun hc9 => ?_)
  · replace hF := it_t hc9 hF
    refine go_iconst (v := (-1 : Int32)) O dX8_heard_24 (by decide) ?_
    exact ret_i hF (hR _ _ dX8_heard_25)
  · replace hF := it_f hc9 hF
    refine go_aload_n O dX8_heard_8 rfl 0 rfl ?_
    refine go_iload_n O dX8_heard_9 rfl 2 rfl ?_
    obtain ⟨x4, hA3, hF⟩ := bd_s hF
    refine go_callVi (As := [.int a2]) (rest := []) (b := 0) O (c_X8_isSet l G hI hA3) (fun s args hts => cwV 1 hts gX8_heard_X8_isSet rfl rfl rfl (by decide +kernel) ⟨Nat.le_of_ble_eq_true rfl, Nat.le_of_ble_eq_true rfl⟩) (by decide : (0 : Nat) < 99) (cv_pw G (S.1 0) (S.2 0)) rfl rfl rfl rfl (Nat.le_of_ble_eq_true rfl) dX8_heard_10 ?_
    refine go_if_eq (tgt := 24) O dX8_heard_13 (by decide) (fun hc8 => ?_) (fun hc8 => ?_)
    · replace hF := it_t hc8 hF
      refine go_iconst (v := (-1 : Int32)) O dX8_heard_24 (by decide) ?_
      exact ret_i hF (hR _ _ dX8_heard_25)
    · replace hF := it_f hc8 hF
      refine go_iload_n O dX8_heard_16 rfl 2 rfl ?_
      refine go_iload_n O dX8_heard_17 rfl 1 rfl ?_
      refine go_ishr O dX8_heard_18 ?_
      refine go_iconst (v := (1 : Int32)) O dX8_heard_19 (by decide) ?_
      refine go_iand O dX8_heard_20 ?_
      refine go_if_eq (tgt := 26) O dX8_heard_21 (by decide) (fun hc7 => ?_) (fun hc7 => ?_)
      · replace hF := it_t hc7 hF
        refine go_aload_n O dX8_heard_26 rfl 0 rfl ?_
        refine go_get (k := 0) (j := 2) O (by decide : (0 : Nat) < 99) (cv_pw G (S.1 0) (S.2 0)) rfl in_X8_heard_X8 (by decide) fl_X8_heard_24 rfl rfl dX8_heard_27 ?_
        refine go_iload_n O dX8_heard_30 rfl 1 rfl ?_
        refine go_iload_n O dX8_heard_31 rfl 2 rfl ?_
        obtain ⟨x6, hA5, hF⟩ := bd_s hF
        refine go_callVi (As := [.int a1, .int a2]) (rest := []) (b := (sb 0)) O (c_X6_whoHear l G hI (by decide : (0 : Nat) < 5) hA5) (fun s args hts => cwV 2 hts gX8_heard_X6_whoHear rfl rfl rfl (by decide +kernel) ⟨Nat.le_of_ble_eq_true rfl, Nat.le_of_ble_eq_true rfl⟩) (sb_lt0 (by decide : (0 : Nat) < 5)) (cv_st G (by decide : (0 : Nat) < 5) (S.1 (sb 0)) (S.2 (sb 0))) rfl rfl rfl rfl (Nat.le_of_ble_eq_true rfl) dX8_heard_32 ?_
        exact ret_i hF (hR _ _ dX8_heard_35)
      · replace hF := it_f hc7 hF
        refine go_iconst (v := (-1 : Int32)) O dX8_heard_24 (by decide) ?_
        exact ret_i hF (hR _ _ dX8_heard_25)
-- X8_noise
def rm_X8_noise : Room := { frames := 3, cells := 0, slots := 0, locals := 88 }
theorem fl_X8_noise_24 : Cond.fieldLink RX8 24 "PaperWalls" "now" "LPaperWalls$Street;" ∈ wsX8_noise := by decide +kernel
theorem in_X8_noise_X8 : ∀ x ∈ u_ws RX8 TX8 12, x ∈ wsX8_noise := by decide +kernel
def F_X8_noise  (S : Sg) (a1 : Int32) (a2 : Int32) : Option Int32 := bd (F_X8_isRoom S a1) (fun x2 => if x2 = 0 then (some (-1 : Int32)) else (bd (F_X8_isSet S a2) (fun x4 => if x4 = 0 then (some (-1 : Int32)) else (bd (F_X6_songIn 0 S a1 a2) (fun x6 => some x6)))))
set_option maxHeartbeats 4000000 in
set_option maxRecDepth 100000 in
theorem c_X8_noise (l : Launch) (G : Gp) (hI : Ij (wC G))  {S : Sg} {a1 : Int32} {a2 : Int32} {r : Int32} (hF : F_X8_noise S a1 a2 = some r) : Met l yX8_noise wsX8_noise rm_X8_noise (va_Pc [.ref (G.2.1 0), .int a1, .int a2] (PreW (wC G) S)) (va_Qi (fun r' u => r' = r ∧ u = S) (PostW (wC G)) (AW (wC G))) 0 0 (AW (wC G)) := by
  rw [F_X8_noise] at hF
  refine met_i (cc := cX8_noise) (maxL := 3) (own := RX8) hI (by decide) rfl rfl (Nat.le_of_ble_eq_true rfl) (fun X O hR => ?_)
  show Go X l rm_X8_noise (wC G) 3 0 [(0, .ref (G.2.1 0)), (1, .int a1), (2, .int a2)] [] S
  refine go_aload_n O dX8_noise_0 rfl 0 rfl ?_
  refine go_iload_n O dX8_noise_1 rfl 1 rfl ?_
  obtain ⟨x2, hA1, hF⟩ := bd_s hF
  refine go_callVi (As := [.int a1]) (rest := []) (b := 0) O (c_X8_isRoom l G hI hA1) (fun s args hts => cwV 1 hts gX8_noise_X8_isRoom rfl rfl rfl (by decide +kernel) ⟨Nat.le_of_ble_eq_true rfl, Nat.le_of_ble_eq_true rfl⟩) (by decide : (0 : Nat) < 99) (cv_pw G (S.1 0) (S.2 0)) rfl rfl rfl rfl (Nat.le_of_ble_eq_true rfl) dX8_noise_2 ?_
  refine go_if_eq (tgt := 16) O dX8_noise_5 (by decide) (fun hc8 => ?_) (fun hc8 => ?_)
  · replace hF := it_t hc8 hF
    refine go_iconst (v := (-1 : Int32)) O dX8_noise_16 (by decide) ?_
    exact ret_i hF (hR _ _ dX8_noise_17)
  · replace hF := it_f hc8 hF
    refine go_aload_n O dX8_noise_8 rfl 0 rfl ?_
    refine go_iload_n O dX8_noise_9 rfl 2 rfl ?_
    obtain ⟨x4, hA3, hF⟩ := bd_s hF
    refine go_callVi (As := [.int a2]) (rest := []) (b := 0) O (c_X8_isSet l G hI hA3) (fun s args hts => cwV 1 hts gX8_noise_X8_isSet rfl rfl rfl (by decide +kernel) ⟨Nat.le_of_ble_eq_true rfl, Nat.le_of_ble_eq_true rfl⟩) (by decide : (0 : Nat) < 99) (cv_pw G (S.1 0) (S.2 0)) rfl rfl rfl rfl (Nat.le_of_ble_eq_true rfl) dX8_noise_10 ?_
    refine go_if_ne (tgt := 18) O dX8_noise_13 (by decide) (fun hc7 => ?_) (fun hc7 => ?_)
    · replace hF := it_f hc7 hF
      refine go_aload_n O dX8_noise_18 rfl 0 rfl ?_
      refine go_get (k := 0) (j := 2) O (by decide : (0 : Nat) < 99) (cv_pw G (S.1 0) (S.2 0)) rfl in_X8_noise_X8 (by decide) fl_X8_noise_24 rfl rfl dX8_noise_19 ?_
      refine go_iload_n O dX8_noise_22 rfl 1 rfl ?_
      refine go_iload_n O dX8_noise_23 rfl 2 rfl ?_
      obtain ⟨x6, hA5, hF⟩ := bd_s hF
      refine go_callVi (As := [.int a1, .int a2]) (rest := []) (b := (sb 0)) O (c_X6_songIn l G hI (by decide : (0 : Nat) < 5) hA5) (fun s args hts => cwV 2 hts gX8_noise_X6_songIn rfl rfl rfl (by decide +kernel) ⟨Nat.le_of_ble_eq_true rfl, Nat.le_of_ble_eq_true rfl⟩) (sb_lt0 (by decide : (0 : Nat) < 5)) (cv_st G (by decide : (0 : Nat) < 5) (S.1 (sb 0)) (S.2 (sb 0))) rfl rfl rfl rfl (Nat.le_of_ble_eq_true rfl) dX8_noise_24 ?_
      exact ret_i hF (hR _ _ dX8_noise_27)
    · replace hF := it_t hc7 hF
      refine go_iconst (v := (-1 : Int32)) O dX8_noise_16 (by decide) ?_
      exact ret_i hF (hR _ _ dX8_noise_17)
-- X8_isFewer
def rm_X8_isFewer : Room := { frames := 1, cells := 0, slots := 0, locals := 20 }
def F_X8_isFewer  (S : Sg) (a0 : Int32) (a1 : Int32) : Option Int32 := if a1 = (-9 : Int32) then (some (1 : Int32)) else (bd (F_J6_bitCount_0f7a4 S a0) (fun x2 => bd (F_J6_bitCount_0f7a4 S a1) (fun x4 => if x4 ≤ x2 then (some (0 : Int32)) else (some (1 : Int32)))))
set_option maxHeartbeats 4000000 in
set_option maxRecDepth 100000 in
theorem c_X8_isFewer (l : Launch) (G : Gp) (hI : Ij (wC G))  {S : Sg} {a0 : Int32} {a1 : Int32} {r : Int32} (hF : F_X8_isFewer S a0 a1 = some r) : Met l yX8_isFewer wsX8_isFewer rm_X8_isFewer (va_Pc [.int a0, .int a1] (PreW (wC G) S)) (va_Qi (fun r' u => r' = r ∧ u = S) (PostW (wC G)) (AW (wC G))) 0 0 (AW (wC G)) := by
  rw [F_X8_isFewer] at hF
  refine met_z (cc := cX8_isFewer) (maxL := 2) (own := RX8) hI (by decide) rfl rfl (Nat.le_of_ble_eq_true rfl) (fun X O hR => ?_)
  show Go X l rm_X8_isFewer (wC G) 2 0 [(0, .int a0), (1, .int a1)] [] S
  refine go_iload_n O dX8_isFewer_0 rfl 1 rfl ?_
  refine go_bipush (v := (-9 : Int32)) O dX8_isFewer_1 (by decide) ?_
  refine go_icmp_eq (tgt := 17) O dX8_isFewer_3 (by decide) (fun hc6 => ?_) (fun hc6 => ?_)
  · replace hF := it_t hc6 hF
    refine go_iconst (v := (1 : Int32)) O dX8_isFewer_17 (by decide) ?_
    refine go_goto (tgt := 22) O dX8_isFewer_18 (by decide) ?_
    exact ret_z hF (fun hz => hR _ _ hz dX8_isFewer_22) (by decide)
  · replace hF := it_f hc6 hF
    refine go_iload_n O dX8_isFewer_6 rfl 0 rfl ?_
    obtain ⟨x2, hA1, hF⟩ := bd_s hF
    refine go_callSi (As := [.int a0]) (rest := []) O (c_J6_bitCount_0f7a4 l G hI hA1) (fun s args hts => va_cwS 1 hts gX8_isFewer_J6_bitCount_0f7a4 rfl rfl rfl (by decide +kernel) ⟨Nat.le_of_ble_eq_true rfl, Nat.le_of_ble_eq_true rfl⟩) rfl rfl (Nat.le_of_ble_eq_true rfl) dX8_isFewer_7 ?_
    refine go_iload_n O dX8_isFewer_10 rfl 1 rfl ?_
    obtain ⟨x4, hA3, hF⟩ := bd_s hF
    refine go_callSi (As := [.int a1]) (rest := [.int x2]) O (c_J6_bitCount_0f7a4 l G hI hA3) (fun s args hts => va_cwS 1 hts gX8_isFewer_J6_bitCount_0f7a4 rfl rfl rfl (by decide +kernel) ⟨Nat.le_of_ble_eq_true rfl, Nat.le_of_ble_eq_true rfl⟩) rfl rfl (Nat.le_of_ble_eq_true rfl) dX8_isFewer_11 ?_
    refine go_icmp_ge (tgt := 21) O dX8_isFewer_14 (by decide) (fun hc5 => ?_) (fun hc5 => ?_)
    · replace hF := it_t hc5 hF
      refine go_iconst (v := (0 : Int32)) O dX8_isFewer_21 (by decide) ?_
      exact ret_z hF (fun hz => hR _ _ hz dX8_isFewer_22) (by decide)
    · replace hF := it_f hc5 hF
      refine go_iconst (v := (1 : Int32)) O dX8_isFewer_17 (by decide) ?_
      refine go_goto (tgt := 22) O dX8_isFewer_18 (by decide) ?_
      exact ret_z hF (fun hz => hR _ _ hz dX8_isFewer_22) (by decide)
-- X8_tellSet
def rm_X8_tellSet : Room := { frames := 1, cells := 0, slots := 0, locals := 20 }
theorem fl_X8_tellSet_92 : Cond.fieldLink RX8 92 "PaperWalls" "told" "I" ∈ wsX8_tellSet := by decide +kernel
theorem in_X8_tellSet_X8 : ∀ x ∈ u_ws RX8 TX8 12, x ∈ wsX8_tellSet := by decide +kernel
def F_X8_tellSet  (S : Sg) (a1 : Int32) : Option (Int32 × Sg) := if a1 = (-9 : Int32) then (some ((-9 : Int32), S)) else (nm (wI S 0 10 a1) (fun S1 => bd (F_J6_bitCount_0f7a4 S1 a1) (fun x3 => some (x3, S1))))
set_option maxHeartbeats 4000000 in
set_option maxRecDepth 100000 in
theorem c_X8_tellSet (l : Launch) (G : Gp) (hI : Ij (wC G))  {S : Sg} {a1 : Int32} {r : Int32} {S1 : Sg} (hF : F_X8_tellSet S a1 = some (r, S1)) : Met l yX8_tellSet wsX8_tellSet rm_X8_tellSet (va_Pc [.ref (G.2.1 0), .int a1] (PreW (wC G) S)) (va_Qi (fun r' u => r' = r ∧ u = S1) (PostW (wC G)) (AW (wC G))) 0 0 (AW (wC G)) := by
  rw [F_X8_tellSet] at hF
  refine met_i (cc := cX8_tellSet) (maxL := 2) (own := RX8) hI (by decide) rfl rfl (Nat.le_of_ble_eq_true rfl) (fun X O hR => ?_)
  show Go X l rm_X8_tellSet (wC G) 2 0 [(0, .ref (G.2.1 0)), (1, .int a1)] [] S
  refine go_iload_n O dX8_tellSet_0 rfl 1 rfl ?_
  refine go_bipush (v := (-9 : Int32)) O dX8_tellSet_1 (by decide) ?_
  refine go_icmp_ne (tgt := 9) O dX8_tellSet_3 (by decide) (fun hc4 => ?_) (fun hc4 => ?_)
  · replace hF := it_f hc4 hF
    refine go_aload_n O dX8_tellSet_9 rfl 0 rfl ?_
    refine go_iload_n O dX8_tellSet_10 rfl 1 rfl ?_
    obtain ⟨S1, eS1, hF⟩ := nm_s hF
    refine go_putI (k := 0) (j := 10) O (by decide : (0 : Nat) < 99) (cv_pw G (S.1 0) (S.2 0)) rfl in_X8_tellSet_X8 (by decide) fl_X8_tellSet_92 rfl tyX8 tyX8_ok nmX8 rfl (by decide +kernel) (Nat.le_of_ble_eq_true rfl) (cv_pw G (upd (S.1 0) 10 a1) (S.2 0)) dX8_tellSet_11 eS1 ?_
    refine go_iload_n O dX8_tellSet_14 rfl 1 rfl ?_
    obtain ⟨x3, hA2, hF⟩ := bd_s hF
    refine go_callSi (As := [.int a1]) (rest := []) O (c_J6_bitCount_0f7a4 l G hI hA2) (fun s args hts => va_cwS 1 hts gX8_tellSet_J6_bitCount_0f7a4 rfl rfl rfl (by decide +kernel) ⟨Nat.le_of_ble_eq_true rfl, Nat.le_of_ble_eq_true rfl⟩) rfl rfl (Nat.le_of_ble_eq_true rfl) dX8_tellSet_15 ?_
    exact ret_wi hF (hR _ _ dX8_tellSet_18)
  · replace hF := it_t hc4 hF
    refine go_bipush (v := (-9 : Int32)) O dX8_tellSet_6 (by decide) ?_
    exact ret_wi hF (hR _ _ dX8_tellSet_8)
-- X8_hush
def rm_X8_hush : Room := { frames := 4, cells := 0, slots := 0, locals := 117 }
theorem fl_X8_hush_24 : Cond.fieldLink RX8 24 "PaperWalls" "now" "LPaperWalls$Street;" ∈ wsX8_hush := by decide +kernel
theorem in_X8_hush_X8 : ∀ x ∈ u_ws RX8 TX8 12, x ∈ wsX8_hush := by decide +kernel
def T_X8_hush_15  (S : Sg) (p1 : Int32) : Nat → Int32 → Int32 → Option (Int32)
  | 0, _, _ => none
  | n + 1, p2, p3 => bd (F_X6_everyone 0 S) (fun x5 => if x5 < p3 then (some p2) else (bd (if ((p3 >>> (p1 &&& 31)) &&& (1 : Int32)) = 0 then (bd (F_X8_isFewer S p3 p2) (fun x10 => if x10 = 0 then (some p2) else (bd (F_X6_whoHear 0 S p1 p3) (fun x12 => if x12 = 0 then (some p3) else (some p2))))) else (some p2)) (fun x6 => T_X8_hush_15 S p1 n x6 (p3 + (1 : Int32)))))
set_option maxHeartbeats 4000000 in
set_option maxRecDepth 100000 in
theorem lt_X8_hush_15 {X : XT} (l : Launch) (G : Gp) (hI : Ij (wC G))  {S : Sg} {p1 : Int32} (O : Ok X (wC G) cX8_hush RX8 wsX8_hush 4) : ∀ (n : Nat) (p2 : Int32) (p3 : Int32)  (q : (Int32)), T_X8_hush_15 S p1 n p2 p3  = some q → (Go X l rm_X8_hush (wC G) 4 62 [(0, .ref (G.2.1 0)), (2, .int q)] [] S) → Go X l rm_X8_hush (wC G) 4 15 [(0, .ref (G.2.1 0)), (1, .int p1), (2, .int p2), (3, .int p3)] [] S := by
  intro n
  induction n with
  | zero =>
    intro p2 p3  q hF
    cases hF
  | succ n ih =>
    intro p2 p3  q hF hE
    rw [T_X8_hush_15] at hF
    refine go_iload_n O dX8_hush_15 rfl 3 rfl ?_
    refine go_aload_n O dX8_hush_16 rfl 0 rfl ?_
    refine go_get (k := 0) (j := 2) O (by decide : (0 : Nat) < 99) (cv_pw G (S.1 0) (S.2 0)) rfl in_X8_hush_X8 (by decide) fl_X8_hush_24 rfl rfl dX8_hush_17 ?_
    obtain ⟨x5, hA4, hF⟩ := bd_s hF
    refine go_callVi (As := []) (rest := [.int p3]) (b := (sb 0)) O (c_X6_everyone l G hI (by decide : (0 : Nat) < 5) hA4) (fun s args hts => cwV 0 hts gX8_hush_X6_everyone rfl rfl rfl (by decide +kernel) ⟨Nat.le_of_ble_eq_true rfl, Nat.le_of_ble_eq_true rfl⟩) (sb_lt0 (by decide : (0 : Nat) < 5)) (cv_st G (by decide : (0 : Nat) < 5) (S.1 (sb 0)) (S.2 (sb 0))) rfl rfl rfl rfl (Nat.le_of_ble_eq_true rfl) dX8_hush_20 ?_
    refine go_icmp_gt (tgt := 62) O dX8_hush_23 (by decide) (fun hc16 => ?_) (fun hc16 => ?_)
    · replace hF := it_t hc16 hF
      refine go_perm (ls' := [(0, .ref (G.2.1 0)), (2, .int p2)]) [0, 2] rfl ?_
      exact jn (P := fun q => Go X l rm_X8_hush (wC G) 4 62 [(0, .ref (G.2.1 0)), (2, .int q)] [] S) hF hE
    · replace hF := it_f hc16 hF
      refine go_iload_n O dX8_hush_26 rfl 3 rfl ?_
      refine go_iload_n O dX8_hush_27 rfl 1 rfl ?_
      refine go_ishr O dX8_hush_28 ?_
      refine go_iconst (v := (1 : Int32)) O dX8_hush_29 (by decide) ?_
      refine go_iand O dX8_hush_30 ?_
      obtain ⟨x6, hA8, hF⟩ := bd_s hF
      have J7 : Go X l rm_X8_hush (wC G) 4 56 [(0, .ref (G.2.1 0)), (1, .int p1), (2, .int x6), (3, .int p3)] [] S := by
        refine go_iinc (d := (1 : Int32)) (ls' := [(3, .int (p3 + (1 : Int32))), (0, .ref (G.2.1 0)), (1, .int p1), (2, .int x6)]) O dX8_hush_56 3 rfl (by decide) (by decide) rfl ?_
        refine go_goto (tgt := 15) O dX8_hush_59 (by decide) ?_
        refine go_perm (ls' := [(0, .ref (G.2.1 0)), (1, .int p1), (2, .int x6), (3, .int (p3 + (1 : Int32)))]) [1, 2, 3, 0] rfl ?_
        exact ih _ _ _ hF hE
      replace hF := hA8
      refine go_if_ne (tgt := 56) O dX8_hush_31 (by decide) (fun hc15 => ?_) (fun hc15 => ?_)
      · replace hF := it_f hc15 hF
        exact jn (P := fun q => Go X l rm_X8_hush (wC G) 4 56 [(0, .ref (G.2.1 0)), (1, .int p1), (2, .int q), (3, .int p3)] [] S) hF J7
      · replace hF := it_t hc15 hF
        refine go_iload_n O dX8_hush_34 rfl 3 rfl ?_
        refine go_iload_n O dX8_hush_35 rfl 2 rfl ?_
        obtain ⟨x10, hA9, hF⟩ := bd_s hF
        refine go_callSi (As := [.int p3, .int p2]) (rest := []) O (c_X8_isFewer l G hI hA9) (fun s args hts => va_cwS 2 hts gX8_hush_X8_isFewer rfl rfl rfl (by decide +kernel) ⟨Nat.le_of_ble_eq_true rfl, Nat.le_of_ble_eq_true rfl⟩) rfl rfl (Nat.le_of_ble_eq_true rfl) dX8_hush_36 ?_
        refine go_if_eq (tgt := 56) O dX8_hush_39 (by decide) (fun hc14 => ?_) (fun hc14 => ?_)
        · replace hF := it_t hc14 hF
          exact jn (P := fun q => Go X l rm_X8_hush (wC G) 4 56 [(0, .ref (G.2.1 0)), (1, .int p1), (2, .int q), (3, .int p3)] [] S) hF J7
        · replace hF := it_f hc14 hF
          refine go_aload_n O dX8_hush_42 rfl 0 rfl ?_
          refine go_get (k := 0) (j := 2) O (by decide : (0 : Nat) < 99) (cv_pw G (S.1 0) (S.2 0)) rfl in_X8_hush_X8 (by decide) fl_X8_hush_24 rfl rfl dX8_hush_43 ?_
          refine go_iload_n O dX8_hush_46 rfl 1 rfl ?_
          refine go_iload_n O dX8_hush_47 rfl 3 rfl ?_
          obtain ⟨x12, hA11, hF⟩ := bd_s hF
          refine go_callVi (As := [.int p1, .int p3]) (rest := []) (b := (sb 0)) O (c_X6_whoHear l G hI (by decide : (0 : Nat) < 5) hA11) (fun s args hts => cwV 2 hts gX8_hush_X6_whoHear rfl rfl rfl (by decide +kernel) ⟨Nat.le_of_ble_eq_true rfl, Nat.le_of_ble_eq_true rfl⟩) (sb_lt0 (by decide : (0 : Nat) < 5)) (cv_st G (by decide : (0 : Nat) < 5) (S.1 (sb 0)) (S.2 (sb 0))) rfl rfl rfl rfl (Nat.le_of_ble_eq_true rfl) dX8_hush_48 ?_
          refine go_if_ne (tgt := 56) O dX8_hush_51 (by decide) (fun hc13 => ?_) (fun hc13 => ?_)
          · replace hF := it_f hc13 hF
            exact jn (P := fun q => Go X l rm_X8_hush (wC G) 4 56 [(0, .ref (G.2.1 0)), (1, .int p1), (2, .int q), (3, .int p3)] [] S) hF J7
          · replace hF := it_t hc13 hF
            refine go_iload_n O dX8_hush_54 rfl 3 rfl ?_
            refine go_istore_n (ls' := [(2, .int p3), (0, .ref (G.2.1 0)), (1, .int p1), (3, .int p3)]) O dX8_hush_55 rfl (by decide) rfl ?_
            refine go_perm (ls' := [(0, .ref (G.2.1 0)), (1, .int p1), (2, .int p3), (3, .int p3)]) [1, 2, 0, 3] rfl ?_
            exact jn (P := fun q => Go X l rm_X8_hush (wC G) 4 56 [(0, .ref (G.2.1 0)), (1, .int p1), (2, .int q), (3, .int p3)] [] S) hF J7
def F_X8_hush  (S : Sg) (a1 : Int32) : Option (Int32 × Sg) := bd (F_X8_isOne S a1) (fun x2 => if x2 = 0 then (some ((-1 : Int32), S)) else (bd (T_X8_hush_15 S a1 FU (-9 : Int32) (0 : Int32)) (fun x3 => bd (F_X8_tellSet S x3) (fun (x19, S20) => some (x19, S20)))))
set_option maxHeartbeats 4000000 in
set_option maxRecDepth 100000 in
theorem c_X8_hush (l : Launch) (G : Gp) (hI : Ij (wC G))  {S : Sg} {a1 : Int32} {r : Int32} {S1 : Sg} (hF : F_X8_hush S a1 = some (r, S1)) : Met l yX8_hush wsX8_hush rm_X8_hush (va_Pc [.ref (G.2.1 0), .int a1] (PreW (wC G) S)) (va_Qi (fun r' u => r' = r ∧ u = S1) (PostW (wC G)) (AW (wC G))) 0 0 (AW (wC G)) := by
  rw [F_X8_hush] at hF
  refine met_i (cc := cX8_hush) (maxL := 4) (own := RX8) hI (by decide) rfl rfl (Nat.le_of_ble_eq_true rfl) (fun X O hR => ?_)
  show Go X l rm_X8_hush (wC G) 4 0 [(0, .ref (G.2.1 0)), (1, .int a1)] [] S
  refine go_aload_n O dX8_hush_0 rfl 0 rfl ?_
  refine go_iload_n O dX8_hush_1 rfl 1 rfl ?_
  obtain ⟨x2, hA1, hF⟩ := bd_s hF
  refine go_callVi (As := [.int a1]) (rest := []) (b := 0) O (c_X8_isOne l G hI hA1) (fun s args hts => cwV 1 hts gX8_hush_X8_isOne rfl rfl rfl (by decide +kernel) ⟨Nat.le_of_ble_eq_true rfl, Nat.le_of_ble_eq_true rfl⟩) (by decide : (0 : Nat) < 99) (cv_pw G (S.1 0) (S.2 0)) rfl rfl rfl rfl (Nat.le_of_ble_eq_true rfl) dX8_hush_2 ?_
  refine go_if_ne (tgt := 10) O dX8_hush_5 (by decide) (fun hc21 => ?_) (fun hc21 => ?_)
  · replace hF := it_f hc21 hF
    refine go_bipush (v := (-9 : Int32)) O dX8_hush_10 (by decide) ?_
    refine go_istore_n (ls' := [(2, .int (-9 : Int32)), (0, .ref (G.2.1 0)), (1, .int a1)]) O dX8_hush_12 rfl (by decide) rfl ?_
    refine go_iconst (v := (0 : Int32)) O dX8_hush_13 (by decide) ?_
    refine go_istore_n (ls' := [(3, .int (0 : Int32)), (2, .int (-9 : Int32)), (0, .ref (G.2.1 0)), (1, .int a1)]) O dX8_hush_14 rfl (by decide) rfl ?_
    refine go_perm (ls' := [(0, .ref (G.2.1 0)), (1, .int a1), (2, .int (-9 : Int32)), (3, .int (0 : Int32))]) [2, 3, 1, 0] rfl ?_
    obtain ⟨x3, hA17, hF⟩ := bd_s hF
    refine lt_X8_hush_15 l G hI  O _ _ _ _ hA17 ?_
    refine go_aload_n O dX8_hush_62 rfl 0 rfl ?_
    refine go_iload_n O dX8_hush_63 rfl 1 rfl ?_
    obtain ⟨⟨x19, S20⟩, hA18, hF⟩ := bd_s hF
    refine go_callVi (As := [.int x3]) (rest := []) (b := 0) O (c_X8_tellSet l G hI hA18) (fun s args hts => cwV 1 hts gX8_hush_X8_tellSet rfl rfl rfl (by decide +kernel) ⟨Nat.le_of_ble_eq_true rfl, Nat.le_of_ble_eq_true rfl⟩) (by decide : (0 : Nat) < 99) (cv_pw G (S.1 0) (S.2 0)) rfl rfl rfl rfl (Nat.le_of_ble_eq_true rfl) dX8_hush_64 ?_
    exact ret_wi hF (hR _ _ dX8_hush_67)
  · replace hF := it_t hc21 hF
    refine go_iconst (v := (-1 : Int32)) O dX8_hush_8 (by decide) ?_
    exact ret_wi hF (hR _ _ dX8_hush_9)
