-- X8_isRow
def rm_X8_isRow : Room := { frames := 0, cells := 0, slots := 0, locals := 0 }
def F_X8_isRow  (S : Sg) (a0 : Int32) : Option Int32 := if a0 < 0 then (some (0 : Int32)) else (if (6 : Int32) ≤ a0 then (some (0 : Int32)) else (some (1 : Int32)))
set_option maxHeartbeats 4000000 in
set_option maxRecDepth 100000 in
theorem c_X8_isRow (l : Launch) (G : Gp) (hI : Gd G)  {S : Sg} {a0 : Int32} {r : Int32} (hF : F_X8_isRow S a0 = some r) : Met l yX8_isRow wsX8_isRow rm_X8_isRow (va_Pc [.int a0] (PreW (wC G) S)) (va_Qi (fun r' u => r' = r ∧ u = S) (PostW (wC G)) (AW (wC G))) 0 0 (AW (wC G)) := by
  rw [F_X8_isRow] at hF
  refine met_z (cc := cX8_isRow) (maxL := 1) (own := RX8) hI.1 (by decide) rfl rfl (Nat.le_of_ble_eq_true rfl) (fun X O hR => ?_)
  show Go X l rm_X8_isRow (wC G) 1 0 [(0, .int a0)] [] S
  refine go_iload_n O dX8_isRow_0 rfl 0 rfl ?_
  refine go_if_lt (tgt := 14) O dX8_isRow_1 (by decide) (fun hc2 => ?_) (fun hc2 => ?_)
  · replace hF := it_t hc2 hF
    refine go_iconst (v := (0 : Int32)) O dX8_isRow_14 (by decide) ?_
    exact ret_z hF (fun hz => hR _ _ hz dX8_isRow_15) (show vp_nar .boolean (0 : Int32) = (0 : Int32) by decide)
  · replace hF := it_f hc2 hF
    refine go_iload_n O dX8_isRow_4 rfl 0 rfl ?_
    refine go_bipush (v := (6 : Int32)) O dX8_isRow_5 (by decide) ?_
    refine go_icmp_ge (tgt := 14) O dX8_isRow_7 (by decide) (fun hc1 => ?_) (fun hc1 => ?_)
    · replace hF := it_t hc1 hF
      refine go_iconst (v := (0 : Int32)) O dX8_isRow_14 (by decide) ?_
      exact ret_z hF (fun hz => hR _ _ hz dX8_isRow_15) (show vp_nar .boolean (0 : Int32) = (0 : Int32) by decide)
    · replace hF := it_f hc1 hF
      refine go_iconst (v := (1 : Int32)) O dX8_isRow_10 (by decide) ?_
      refine go_goto (tgt := 15) O dX8_isRow_11 (by decide) ?_
      exact ret_z hF (fun hz => hR _ _ hz dX8_isRow_15) (show vp_nar .boolean (1 : Int32) = (1 : Int32) by decide)
-- X8_find
def rm_X8_find : Room := { frames := 0, cells := 0, slots := 0, locals := 0 }
theorem fl_X8_find_60 : Cond.fieldLink RX8 60 "PaperWalls" "tally" "[I" ∈ wsX8_find := by decide +kernel
theorem fl_X8_find_340 : Cond.fieldLink RX8 340 "PaperWalls" "latest" "I" ∈ wsX8_find := by decide +kernel
theorem in_X8_find_X8 : ∀ x ∈ u_ws RX8 TX8 12, x ∈ wsX8_find := by decide +kernel
def F_X8_find  (S : Sg) (a1 : Int32) : Option (Int32 × Sg) := nm (wI S 0 11 a1) (fun S1 => chk (inB a1 6) (chk (inB a1 6) (nm (wI S1 5 a1.toNatClampNeg ((S1.1 5 a1.toNatClampNeg) + (1 : Int32))) (fun S4 => some ((-3 : Int32), S4)))))
set_option maxHeartbeats 4000000 in
set_option maxRecDepth 100000 in
theorem c_X8_find (l : Launch) (G : Gp) (hI : Gd G)  {S : Sg} {a1 : Int32} {r : Int32} {S1 : Sg} (hF : F_X8_find S a1 = some (r, S1)) : Met l yX8_find wsX8_find rm_X8_find (va_Pc [.ref (G.2.1 0), .int a1] (PreW (wC G) S)) (va_Qi (fun r' u => r' = r ∧ u = S1) (PostW (wC G)) (AW (wC G))) 0 0 (AW (wC G)) := by
  rw [F_X8_find] at hF
  refine met_i (cc := cX8_find) (maxL := 2) (own := RX8) hI.1 (by decide) rfl rfl (Nat.le_of_ble_eq_true rfl) (fun X O hR => ?_)
  show Go X l rm_X8_find (wC G) 2 0 [(0, .ref (G.2.1 0)), (1, .int a1)] [] S
  refine go_aload_n O dX8_find_0 rfl 0 rfl ?_
  refine go_iload_n O dX8_find_1 rfl 1 rfl ?_
  obtain ⟨S1, eS1, hF⟩ := nm_s hF
  refine go_putI (k := 0) (j := 11) O (lt9 hI (by decide : (0 : Nat) < 99)) (cv_pw G (S.1 0) (S.2 0)) rfl in_X8_find_X8 (by decide) fl_X8_find_340 rfl tyX8 tyX8_ok nmX8 rfl (by decide +kernel) (Nat.le_of_ble_eq_true rfl) (cv_pw G (upd (S.1 0) 11 a1) (S.2 0)) dX8_find_2 eS1 ?_
  refine go_aload_n O dX8_find_5 rfl 0 rfl ?_
  refine go_get (k := 0) (j := 9) O (lt9 hI (by decide : (0 : Nat) < 99)) (cv_pw G (S1.1 0) (S1.2 0)) rfl in_X8_find_X8 (by decide) fl_X8_find_60 rfl rfl dX8_find_6 ?_
  refine go_iload_n O dX8_find_9 rfl 1 rfl ?_
  refine go_dup2 O dX8_find_10 rfl rfl ?_
  obtain ⟨hb2, hF⟩ := chk_s hF
  refine go_iald (k := 5) O (lt9 hI (by decide : (5 : Nat) < 99)) (cv_tally G (S1.1 5) (S1.2 5)) (inB_in hb2) dX8_find_11 ?_
  refine go_iconst (v := (1 : Int32)) O dX8_find_12 (by decide) ?_
  refine go_iadd O dX8_find_13 ?_
  obtain ⟨hb3, hF⟩ := chk_s hF
  obtain ⟨S4, eS4, hF⟩ := nm_s hF
  refine go_iast (k := 5) O (lt9 hI (by decide : (5 : Nat) < 99)) (fun f => (cv_tally G f (S1.2 5))) (inB_in hb3) dX8_find_14 eS4 ?_
  refine go_bipush (v := (-3 : Int32)) O dX8_find_15 (by decide) ?_
  exact ret_wi hF (hR _ _ dX8_find_17)
-- X8_at
def rm_X8_at : Room := { frames := 1, cells := 0, slots := 0, locals := 21 }
theorem fl_X8_at_11 : Cond.fieldLink RX8 11 "PaperWalls" "rows" "[LPaperWalls$Row;" ∈ wsX8_at := by decide +kernel
theorem fl_X8_at_82 : Cond.fieldLink RX8 82 "PaperWalls$Row" "ints" "[I" ∈ wsX8_at := by decide +kernel
theorem fl_X8_at_92 : Cond.fieldLink RX8 92 "PaperWalls" "told" "I" ∈ wsX8_at := by decide +kernel
theorem in_X8_at_X4 : ∀ x ∈ u_ws RX4 TX4 2, x ∈ wsX8_at := by decide +kernel
theorem in_X8_at_X8 : ∀ x ∈ u_ws RX8 TX8 12, x ∈ wsX8_at := by decide +kernel
def F_X8_at  (S : Sg) (a1 : Int32) (a2 : Int32) : Option (Int32 × Sg) := bd (F_X8_isRow S a1) (fun x2 => if x2 = 0 then (some ((-1 : Int32), S)) else (chk (inB a1 6) (bd (F_X4_isMissing (a1).toNatClampNeg S) (fun x5 => if x5 = 0 then (bd (F_X4_has (a1).toNatClampNeg S a2) (fun x7 => if x7 = 0 then (bd (F_X8_find S (2 : Int32)) (fun (x11, S12) => some (x11, S12))) else (chk (inB a2 40) (nm (wI S 0 10 (S.1 (14 + 2 * (a1).toNatClampNeg + 1) a2.toNatClampNeg)) (fun S9 => some ((1 : Int32), S9)))))) else (bd (F_X8_find S (1 : Int32)) (fun (x15, S16) => some (x15, S16)))))))
set_option maxHeartbeats 4000000 in
set_option maxRecDepth 100000 in
theorem c_X8_at (l : Launch) (G : Gp) (hI : Gd G)  {S : Sg} {a1 : Int32} {a2 : Int32} {r : Int32} {S1 : Sg} (hF : F_X8_at S a1 a2 = some (r, S1)) : Met l yX8_at wsX8_at rm_X8_at (va_Pc [.ref (G.2.1 0), .int a1, .int a2] (PreW (wC G) S)) (va_Qi (fun r' u => r' = r ∧ u = S1) (PostW (wC G)) (AW (wC G))) 0 0 (AW (wC G)) := by
  rw [F_X8_at] at hF
  refine met_i (cc := cX8_at) (maxL := 4) (own := RX8) hI.1 (by decide) rfl rfl (Nat.le_of_ble_eq_true rfl) (fun X O hR => ?_)
  show Go X l rm_X8_at (wC G) 4 0 [(0, .ref (G.2.1 0)), (1, .int a1), (2, .int a2)] [] S
  refine go_iload_n O dX8_at_0 rfl 1 rfl ?_
  obtain ⟨x2, hA1, hF⟩ := bd_s hF
  refine go_callSi (As := [.int a1]) (rest := []) O (c_X8_isRow l G hI hA1) (fun s args hts => va_cwS 1 hts gX8_at_X8_isRow rfl rfl rfl (by decide +kernel) ⟨Nat.le_of_ble_eq_true rfl, Nat.le_of_ble_eq_true rfl⟩) rfl rfl (Nat.le_of_ble_eq_true rfl) dX8_at_1 ?_
  refine go_if_ne (tgt := 9) O dX8_at_4 (by decide) (fun hc18 => ?_) (fun hc18 => ?_)
  · replace hF := it_f hc18 hF
    refine go_aload_n O dX8_at_9 rfl 0 rfl ?_
    refine go_get (k := 0) (j := 0) O (lt9 hI (by decide : (0 : Nat) < 99)) (cv_pw G (S.1 0) (S.2 0)) rfl in_X8_at_X8 (by decide) fl_X8_at_11 rfl rfl dX8_at_10 ?_
    refine go_iload_n O dX8_at_13 rfl 1 rfl ?_
    obtain ⟨hb3, hF⟩ := chk_s hF
    refine go_aldq (k := 1) (t0 := 4) O (lt9 hI (by decide : (1 : Nat) < 99)) (cv_rows G (S.1 1) (S.2 1)) rfl (inB_in hb3) dX8_at_14 (v := .ref (G.2.1 (14 + 2 * (a1).toNatClampNeg))) rfl ?_
    refine go_astore_n (ls' := [(3, .ref (G.2.1 (14 + 2 * (a1).toNatClampNeg))), (0, .ref (G.2.1 0)), (1, .int a1), (2, .int a2)]) O dX8_at_15 rfl (by decide) rfl ?_
    refine go_aload_n O dX8_at_16 rfl 0 rfl ?_
    obtain ⟨x5, hA4, hF⟩ := bd_s hF
    refine go_callVi (As := []) (rest := []) (b := (14 + 2 * (a1).toNatClampNeg)) O (c_X4_isMissing l G hI (inB_lt hb3) hA4) (fun s args hts => cwV 0 hts gX8_at_X4_isMissing rfl rfl rfl (by decide +kernel) ⟨Nat.le_of_ble_eq_true rfl, Nat.le_of_ble_eq_true rfl⟩) (lt9 hI (row_lt (inB_lt hb3))) (cv_row G (inB_lt hb3) (S.1 (14 + 2 * (a1).toNatClampNeg)) (S.2 (14 + 2 * (a1).toNatClampNeg))) rfl rfl rfl rfl (Nat.le_of_ble_eq_true rfl) dX8_at_17 ?_
    refine go_if_eq (tgt := 29) O dX8_at_20 (by decide) (fun hc17 => ?_) (fun hc17 => ?_)
    · replace hF := it_t hc17 hF
      refine go_aload_n O dX8_at_29 rfl 0 rfl ?_
      refine go_iload_n O dX8_at_30 rfl 3 rfl ?_
      obtain ⟨x7, hA6, hF⟩ := bd_s hF
      refine go_callVi (As := [.int a2]) (rest := []) (b := (14 + 2 * (a1).toNatClampNeg)) O (c_X4_has l G hI (inB_lt hb3) hA6) (fun s args hts => cwV 1 hts gX8_at_X4_has rfl rfl rfl (by decide +kernel) ⟨Nat.le_of_ble_eq_true rfl, Nat.le_of_ble_eq_true rfl⟩) (lt9 hI (row_lt (inB_lt hb3))) (cv_row G (inB_lt hb3) (S.1 (14 + 2 * (a1).toNatClampNeg)) (S.2 (14 + 2 * (a1).toNatClampNeg))) rfl rfl rfl rfl (Nat.le_of_ble_eq_true rfl) dX8_at_31 ?_
      refine go_if_ne (tgt := 43) O dX8_at_34 (by decide) (fun hc13 => ?_) (fun hc13 => ?_)
      · replace hF := it_f hc13 hF
        refine go_aload_n O dX8_at_43 rfl 1 rfl ?_
        refine go_aload_n O dX8_at_44 rfl 0 rfl ?_
        refine go_get (k := (14 + 2 * (a1).toNatClampNeg)) (j := 0) O (lt9 hI (row_lt (inB_lt hb3))) (cv_row G (inB_lt hb3) (S.1 (14 + 2 * (a1).toNatClampNeg)) (S.2 (14 + 2 * (a1).toNatClampNeg))) rfl in_X8_at_X4 (by decide) fl_X8_at_82 rfl rfl dX8_at_45 ?_
        refine go_iload_n O dX8_at_48 rfl 3 rfl ?_
        obtain ⟨hb8, hF⟩ := chk_s hF
        refine go_iald (k := (14 + 2 * (a1).toNatClampNeg + 1)) O (lt9 hI (row_lt1 (inB_lt hb3))) (cv_rowA G (inB_lt hb3) (S.1 (14 + 2 * (a1).toNatClampNeg + 1)) (S.2 (14 + 2 * (a1).toNatClampNeg + 1))) (inB_in hb8) dX8_at_49 ?_
        obtain ⟨S9, eS9, hF⟩ := nm_s hF
        refine go_putI (k := 0) (j := 10) O (lt9 hI (by decide : (0 : Nat) < 99)) (cv_pw G (S.1 0) (S.2 0)) rfl in_X8_at_X8 (by decide) fl_X8_at_92 rfl tyX8 tyX8_ok nmX8 rfl (by decide +kernel) (Nat.le_of_ble_eq_true rfl) (cv_pw G (upd (S.1 0) 10 (S.1 (14 + 2 * (a1).toNatClampNeg + 1) a2.toNatClampNeg)) (S.2 0)) dX8_at_50 eS9 ?_
        refine go_iconst (v := (1 : Int32)) O dX8_at_53 (by decide) ?_
        exact ret_wi hF (hR _ _ dX8_at_54)
      · replace hF := it_t hc13 hF
        refine go_aload_n O dX8_at_37 rfl 1 rfl ?_
        refine go_iconst (v := (2 : Int32)) O dX8_at_38 (by decide) ?_
        obtain ⟨⟨x11, S12⟩, hA10, hF⟩ := bd_s hF
        refine go_callVi (As := [.int (2 : Int32)]) (rest := []) (b := 0) O (c_X8_find l G hI hA10) (fun s args hts => cwV 1 hts gX8_at_X8_find rfl rfl rfl (by decide +kernel) ⟨Nat.le_of_ble_eq_true rfl, Nat.le_of_ble_eq_true rfl⟩) (lt9 hI (by decide : (0 : Nat) < 99)) (cv_pw G (S.1 0) (S.2 0)) rfl rfl rfl rfl (Nat.le_of_ble_eq_true rfl) dX8_at_39 ?_
        exact ret_wi hF (hR _ _ dX8_at_42)
    · replace hF := it_f hc17 hF
      refine go_aload_n O dX8_at_23 rfl 1 rfl ?_
      refine go_iconst (v := (1 : Int32)) O dX8_at_24 (by decide) ?_
      obtain ⟨⟨x15, S16⟩, hA14, hF⟩ := bd_s hF
      refine go_callVi (As := [.int (1 : Int32)]) (rest := []) (b := 0) O (c_X8_find l G hI hA14) (fun s args hts => cwV 1 hts gX8_at_X8_find rfl rfl rfl (by decide +kernel) ⟨Nat.le_of_ble_eq_true rfl, Nat.le_of_ble_eq_true rfl⟩) (lt9 hI (by decide : (0 : Nat) < 99)) (cv_pw G (S.1 0) (S.2 0)) rfl rfl rfl rfl (Nat.le_of_ble_eq_true rfl) dX8_at_25 ?_
      exact ret_wi hF (hR _ _ dX8_at_28)
  · replace hF := it_t hc18 hF
    refine go_iconst (v := (-1 : Int32)) O dX8_at_7 (by decide) ?_
    exact ret_wi hF (hR _ _ dX8_at_8)
-- X8_isText
def rm_X8_isText : Room := { frames := 0, cells := 0, slots := 0, locals := 0 }
def F_X8_isText  (S : Sg) (a0 : Int32) : Option Int32 := if a0 < 0 then (some (0 : Int32)) else (if (4 : Int32) ≤ a0 then (some (0 : Int32)) else (some (1 : Int32)))
set_option maxHeartbeats 4000000 in
set_option maxRecDepth 100000 in
theorem c_X8_isText (l : Launch) (G : Gp) (hI : Gd G)  {S : Sg} {a0 : Int32} {r : Int32} (hF : F_X8_isText S a0 = some r) : Met l yX8_isText wsX8_isText rm_X8_isText (va_Pc [.int a0] (PreW (wC G) S)) (va_Qi (fun r' u => r' = r ∧ u = S) (PostW (wC G)) (AW (wC G))) 0 0 (AW (wC G)) := by
  rw [F_X8_isText] at hF
  refine met_z (cc := cX8_isText) (maxL := 1) (own := RX8) hI.1 (by decide) rfl rfl (Nat.le_of_ble_eq_true rfl) (fun X O hR => ?_)
  show Go X l rm_X8_isText (wC G) 1 0 [(0, .int a0)] [] S
  refine go_iload_n O dX8_isText_0 rfl 0 rfl ?_
  refine go_if_lt (tgt := 13) O dX8_isText_1 (by decide) (fun hc2 => ?_) (fun hc2 => ?_)
  · replace hF := it_t hc2 hF
    refine go_iconst (v := (0 : Int32)) O dX8_isText_13 (by decide) ?_
    exact ret_z hF (fun hz => hR _ _ hz dX8_isText_14) (show vp_nar .boolean (0 : Int32) = (0 : Int32) by decide)
  · replace hF := it_f hc2 hF
    refine go_iload_n O dX8_isText_4 rfl 0 rfl ?_
    refine go_iconst (v := (4 : Int32)) O dX8_isText_5 (by decide) ?_
    refine go_icmp_ge (tgt := 13) O dX8_isText_6 (by decide) (fun hc1 => ?_) (fun hc1 => ?_)
    · replace hF := it_t hc1 hF
      refine go_iconst (v := (0 : Int32)) O dX8_isText_13 (by decide) ?_
      exact ret_z hF (fun hz => hR _ _ hz dX8_isText_14) (show vp_nar .boolean (0 : Int32) = (0 : Int32) by decide)
    · replace hF := it_f hc1 hF
      refine go_iconst (v := (1 : Int32)) O dX8_isText_9 (by decide) ?_
      refine go_goto (tgt := 14) O dX8_isText_10 (by decide) ?_
      exact ret_z hF (fun hz => hR _ _ hz dX8_isText_14) (show vp_nar .boolean (1 : Int32) = (1 : Int32) by decide)
-- X8_text
def rm_X8_text : Room := { frames := 1, cells := 0, slots := 0, locals := 22 }
theorem fl_X8_text_17 : Cond.fieldLink RX8 17 "PaperWalls" "texts" "[LPaperWalls$Text;" ∈ wsX8_text := by decide +kernel
theorem in_X8_text_X8 : ∀ x ∈ u_ws RX8 TX8 12, x ∈ wsX8_text := by decide +kernel
def F_X8_text  (S : Sg) (a1 : Int32) (a2 : Int32) : Option (Int32 × Sg) := bd (F_X8_isText S a1) (fun x2 => if x2 = 0 then (some ((-1 : Int32), S)) else (if a2 ≤ (80 : Int32) then (if 0 ≤ a2 then (chk (inB a1 4) (bd (F_X7_begin (a1).toNatClampNeg S a2) (fun S5 => some (a2, S5)))) else (bd (F_X8_find S (5 : Int32)) (fun (x7, S8) => some (x7, S8)))) else (some ((-1 : Int32), S))))
set_option maxHeartbeats 4000000 in
set_option maxRecDepth 100000 in
theorem c_X8_text (l : Launch) (G : Gp) (hI : Gd G)  {S : Sg} {a1 : Int32} {a2 : Int32} {r : Int32} {S1 : Sg} (hF : F_X8_text S a1 a2 = some (r, S1)) : Met l yX8_text wsX8_text rm_X8_text (va_Pc [.ref (G.2.1 0), .int a1, .int a2] (PreW (wC G) S)) (va_Qi (fun r' u => r' = r ∧ u = S1) (PostW (wC G)) (AW (wC G))) 0 0 (AW (wC G)) := by
  rw [F_X8_text] at hF
  refine met_i (cc := cX8_text) (maxL := 3) (own := RX8) hI.1 (by decide) rfl rfl (Nat.le_of_ble_eq_true rfl) (fun X O hR => ?_)
  show Go X l rm_X8_text (wC G) 3 0 [(0, .ref (G.2.1 0)), (1, .int a1), (2, .int a2)] [] S
  refine go_iload_n O dX8_text_0 rfl 1 rfl ?_
  obtain ⟨x2, hA1, hF⟩ := bd_s hF
  refine go_callSi (As := [.int a1]) (rest := []) O (c_X8_isText l G hI hA1) (fun s args hts => va_cwS 1 hts gX8_text_X8_isText rfl rfl rfl (by decide +kernel) ⟨Nat.le_of_ble_eq_true rfl, Nat.le_of_ble_eq_true rfl⟩) rfl rfl (Nat.le_of_ble_eq_true rfl) dX8_text_1 ?_
  refine go_if_eq (tgt := 13) O dX8_text_4 (by decide) (fun hc11 => ?_) (fun hc11 => ?_)
  · replace hF := it_t hc11 hF
    refine go_iconst (v := (-1 : Int32)) O dX8_text_13 (by decide) ?_
    exact ret_wi hF (hR _ _ dX8_text_14)
  · replace hF := it_f hc11 hF
    refine go_iload_n O dX8_text_7 rfl 2 rfl ?_
    refine go_bipush (v := (80 : Int32)) O dX8_text_8 (by decide) ?_
    refine go_icmp_le (tgt := 15) O dX8_text_10 (by decide) (fun hc10 => ?_) (fun hc10 => ?_)
    · replace hF := it_t hc10 hF
      refine go_iload_n O dX8_text_15 rfl 2 rfl ?_
      refine go_if_ge (tgt := 25) O dX8_text_16 (by decide) (fun hc9 => ?_) (fun hc9 => ?_)
      · replace hF := it_t hc9 hF
        refine go_aload_n O dX8_text_25 rfl 0 rfl ?_
        refine go_get (k := 0) (j := 1) O (lt9 hI (by decide : (0 : Nat) < 99)) (cv_pw G (S.1 0) (S.2 0)) rfl in_X8_text_X8 (by decide) fl_X8_text_17 rfl rfl dX8_text_26 ?_
        refine go_iload_n O dX8_text_29 rfl 1 rfl ?_
        obtain ⟨hb3, hF⟩ := chk_s hF
        refine go_aldq (k := 2) (t0 := 5) O (lt9 hI (by decide : (2 : Nat) < 99)) (cv_texts G (S.1 2) (S.2 2)) rfl (inB_in hb3) dX8_text_30 (v := .ref (G.2.1 (26 + 2 * (a1).toNatClampNeg))) rfl ?_
        refine go_iload_n O dX8_text_31 rfl 2 rfl ?_
        obtain ⟨S5, hA4, hF⟩ := bd_s hF
        refine go_callVv (As := [.int a2]) (rest := []) (b := (26 + 2 * (a1).toNatClampNeg)) O (c_X7_begin l G hI (inB_lt hb3) hA4) (fun s args hts => cwV 1 hts gX8_text_X7_begin rfl rfl rfl (by decide +kernel) ⟨Nat.le_of_ble_eq_true rfl, Nat.le_of_ble_eq_true rfl⟩) (lt9 hI (txt_lt (inB_lt hb3))) (cv_txt G (inB_lt hb3) (S.1 (26 + 2 * (a1).toNatClampNeg)) (S.2 (26 + 2 * (a1).toNatClampNeg))) rfl rfl rfl rfl (Nat.le_of_ble_eq_true rfl) dX8_text_32 ?_
        refine go_iload_n O dX8_text_35 rfl 2 rfl ?_
        exact ret_wi hF (hR _ _ dX8_text_36)
      · replace hF := it_f hc9 hF
        refine go_aload_n O dX8_text_19 rfl 0 rfl ?_
        refine go_iconst (v := (5 : Int32)) O dX8_text_20 (by decide) ?_
        obtain ⟨⟨x7, S8⟩, hA6, hF⟩ := bd_s hF
        refine go_callVi (As := [.int (5 : Int32)]) (rest := []) (b := 0) O (c_X8_find l G hI hA6) (fun s args hts => cwV 1 hts gX8_text_X8_find rfl rfl rfl (by decide +kernel) ⟨Nat.le_of_ble_eq_true rfl, Nat.le_of_ble_eq_true rfl⟩) (lt9 hI (by decide : (0 : Nat) < 99)) (cv_pw G (S.1 0) (S.2 0)) rfl rfl rfl rfl (Nat.le_of_ble_eq_true rfl) dX8_text_21 ?_
        exact ret_wi hF (hR _ _ dX8_text_24)
    · replace hF := it_f hc10 hF
      refine go_iconst (v := (-1 : Int32)) O dX8_text_13 (by decide) ?_
      exact ret_wi hF (hR _ _ dX8_text_14)
-- X8_put
def rm_X8_put : Room := { frames := 1, cells := 0, slots := 0, locals := 21 }
theorem fl_X8_put_17 : Cond.fieldLink RX8 17 "PaperWalls" "texts" "[LPaperWalls$Text;" ∈ wsX8_put := by decide +kernel
theorem fl_X8_put_119 : Cond.fieldLink RX8 119 "PaperWalls$Text" "bytes" "[B" ∈ wsX8_put := by decide +kernel
theorem in_X8_put_X7 : ∀ x ∈ u_ws RX7 TX7 2, x ∈ wsX8_put := by decide +kernel
theorem in_X8_put_X8 : ∀ x ∈ u_ws RX8 TX8 12, x ∈ wsX8_put := by decide +kernel
def F_X8_put  (S : Sg) (a1 : Int32) (a2 : Int32) (a3 : Int32) : Option (Int32 × Sg) := bd (F_X8_isText S a1) (fun x2 => if x2 = 0 then (some ((-1 : Int32), S)) else (chk (inB a1 4) (bd (F_X7_isMissing (a1).toNatClampNeg S) (fun x5 => if x5 = 0 then (bd (F_X7_has (a1).toNatClampNeg S a2) (fun x7 => if x7 = 0 then (bd (F_X8_find S (2 : Int32)) (fun (x13, S14) => some (x13, S14))) else (chk (inB a2 80) (nm (S.1 (26 + 2 * (a1).toNatClampNeg + 1) a2.toNatClampNeg) (fun x9 => chk (inB a2 80) (nm (wI S (26 + 2 * (a1).toNatClampNeg + 1) a2.toNatClampNeg (vp_nar .byte (vp_nar .byte a3))) (fun S11 => some (x9 + (1000 : Int32), S11)))))))) else (bd (F_X8_find S (1 : Int32)) (fun (x17, S18) => some (x17, S18)))))))
set_option maxHeartbeats 4000000 in
set_option maxRecDepth 100000 in
theorem c_X8_put (l : Launch) (G : Gp) (hI : Gd G)  {S : Sg} {a1 : Int32} {a2 : Int32} {a3 : Int32} {r : Int32} {S1 : Sg} (hF : F_X8_put S a1 a2 a3 = some (r, S1)) : Met l yX8_put wsX8_put rm_X8_put (va_Pc [.ref (G.2.1 0), .int a1, .int a2, .int a3] (PreW (wC G) S)) (va_Qi (fun r' u => r' = r ∧ u = S1) (PostW (wC G)) (AW (wC G))) 0 0 (AW (wC G)) := by
  rw [F_X8_put] at hF
  refine met_i (cc := cX8_put) (maxL := 6) (own := RX8) hI.1 (by decide) rfl rfl (Nat.le_of_ble_eq_true rfl) (fun X O hR => ?_)
  show Go X l rm_X8_put (wC G) 6 0 [(0, .ref (G.2.1 0)), (1, .int a1), (2, .int a2), (3, .int a3)] [] S
  refine go_iload_n O dX8_put_0 rfl 1 rfl ?_
  obtain ⟨x2, hA1, hF⟩ := bd_s hF
  refine go_callSi (As := [.int a1]) (rest := []) O (c_X8_isText l G hI hA1) (fun s args hts => va_cwS 1 hts gX8_put_X8_isText rfl rfl rfl (by decide +kernel) ⟨Nat.le_of_ble_eq_true rfl, Nat.le_of_ble_eq_true rfl⟩) rfl rfl (Nat.le_of_ble_eq_true rfl) dX8_put_1 ?_
  refine go_if_ne (tgt := 9) O dX8_put_4 (by decide) (fun hc20 => ?_) (fun hc20 => ?_)
  · replace hF := it_f hc20 hF
    refine go_aload_n O dX8_put_9 rfl 0 rfl ?_
    refine go_get (k := 0) (j := 1) O (lt9 hI (by decide : (0 : Nat) < 99)) (cv_pw G (S.1 0) (S.2 0)) rfl in_X8_put_X8 (by decide) fl_X8_put_17 rfl rfl dX8_put_10 ?_
    refine go_iload_n O dX8_put_13 rfl 1 rfl ?_
    obtain ⟨hb3, hF⟩ := chk_s hF
    refine go_aldq (k := 2) (t0 := 5) O (lt9 hI (by decide : (2 : Nat) < 99)) (cv_texts G (S.1 2) (S.2 2)) rfl (inB_in hb3) dX8_put_14 (v := .ref (G.2.1 (26 + 2 * (a1).toNatClampNeg))) rfl ?_
    refine go_astore (ls' := [(4, .ref (G.2.1 (26 + 2 * (a1).toNatClampNeg))), (0, .ref (G.2.1 0)), (1, .int a1), (2, .int a2), (3, .int a3)]) O dX8_put_15 (by decide) rfl ?_
    refine go_aload O dX8_put_17 0 rfl ?_
    obtain ⟨x5, hA4, hF⟩ := bd_s hF
    refine go_callVi (As := []) (rest := []) (b := (26 + 2 * (a1).toNatClampNeg)) O (c_X7_isMissing l G hI (inB_lt hb3) hA4) (fun s args hts => cwV 0 hts gX8_put_X7_isMissing rfl rfl rfl (by decide +kernel) ⟨Nat.le_of_ble_eq_true rfl, Nat.le_of_ble_eq_true rfl⟩) (lt9 hI (txt_lt (inB_lt hb3))) (cv_txt G (inB_lt hb3) (S.1 (26 + 2 * (a1).toNatClampNeg)) (S.2 (26 + 2 * (a1).toNatClampNeg))) rfl rfl rfl rfl (Nat.le_of_ble_eq_true rfl) dX8_put_19 ?_
    refine go_if_eq (tgt := 31) O dX8_put_22 (by decide) (fun hc19 => ?_) (fun hc19 => ?_)
    · replace hF := it_t hc19 hF
      refine go_aload O dX8_put_31 0 rfl ?_
      refine go_iload_n O dX8_put_33 rfl 3 rfl ?_
      obtain ⟨x7, hA6, hF⟩ := bd_s hF
      refine go_callVi (As := [.int a2]) (rest := []) (b := (26 + 2 * (a1).toNatClampNeg)) O (c_X7_has l G hI (inB_lt hb3) hA6) (fun s args hts => cwV 1 hts gX8_put_X7_has rfl rfl rfl (by decide +kernel) ⟨Nat.le_of_ble_eq_true rfl, Nat.le_of_ble_eq_true rfl⟩) (lt9 hI (txt_lt (inB_lt hb3))) (cv_txt G (inB_lt hb3) (S.1 (26 + 2 * (a1).toNatClampNeg)) (S.2 (26 + 2 * (a1).toNatClampNeg))) rfl rfl rfl rfl (Nat.le_of_ble_eq_true rfl) dX8_put_34 ?_
      refine go_if_ne (tgt := 46) O dX8_put_37 (by decide) (fun hc15 => ?_) (fun hc15 => ?_)
      · replace hF := it_f hc15 hF
        refine go_aload O dX8_put_46 0 rfl ?_
        refine go_get (k := (26 + 2 * (a1).toNatClampNeg)) (j := 0) O (lt9 hI (txt_lt (inB_lt hb3))) (cv_txt G (inB_lt hb3) (S.1 (26 + 2 * (a1).toNatClampNeg)) (S.2 (26 + 2 * (a1).toNatClampNeg))) rfl in_X8_put_X7 (by decide) fl_X8_put_119 rfl rfl dX8_put_48 ?_
        refine go_iload_n O dX8_put_51 rfl 3 rfl ?_
        obtain ⟨hb8, hF⟩ := chk_s hF
        refine go_bald (k := (26 + 2 * (a1).toNatClampNeg + 1)) O (lt9 hI (txt_lt1 (inB_lt hb3))) (cv_txtA G (inB_lt hb3) (S.1 (26 + 2 * (a1).toNatClampNeg + 1)) (S.2 (26 + 2 * (a1).toNatClampNeg + 1))) (inB_in hb8) dX8_put_52 ?_
        obtain ⟨x9, ex9, hF⟩ := nm_s hF
        refine go_topi ex9 ?_
        refine go_istore (ls' := [(5, .int x9), (4, .ref (G.2.1 (26 + 2 * (a1).toNatClampNeg))), (0, .ref (G.2.1 0)), (1, .int a1), (2, .int a2), (3, .int a3)]) O dX8_put_53 (by decide) rfl ?_
        refine go_aload O dX8_put_55 1 rfl ?_
        refine go_get (k := (26 + 2 * (a1).toNatClampNeg)) (j := 0) O (lt9 hI (txt_lt (inB_lt hb3))) (cv_txt G (inB_lt hb3) (S.1 (26 + 2 * (a1).toNatClampNeg)) (S.2 (26 + 2 * (a1).toNatClampNeg))) rfl in_X8_put_X7 (by decide) fl_X8_put_119 rfl rfl dX8_put_57 ?_
        refine go_iload_n O dX8_put_60 rfl 4 rfl ?_
        refine go_iload_n O dX8_put_61 rfl 5 rfl ?_
        refine go_i2b (v := vp_nar .byte a3) O dX8_put_62 (vp_nar_byte _).symm ?_
        obtain ⟨hb10, hF⟩ := chk_s hF
        obtain ⟨S11, eS11, hF⟩ := nm_s hF
        refine go_bast (k := (26 + 2 * (a1).toNatClampNeg + 1)) O (lt9 hI (txt_lt1 (inB_lt hb3))) (fun f => (cv_txtA G (inB_lt hb3) f (S.2 (26 + 2 * (a1).toNatClampNeg + 1)))) (inB_in hb10) dX8_put_63 eS11 ?_
        refine go_iload O dX8_put_64 0 rfl ?_
        refine go_sipush (v := (1000 : Int32)) O dX8_put_66 (by decide) ?_
        refine go_iadd O dX8_put_69 ?_
        exact ret_wi hF (hR _ _ dX8_put_70)
      · replace hF := it_t hc15 hF
        refine go_aload_n O dX8_put_40 rfl 1 rfl ?_
        refine go_iconst (v := (2 : Int32)) O dX8_put_41 (by decide) ?_
        obtain ⟨⟨x13, S14⟩, hA12, hF⟩ := bd_s hF
        refine go_callVi (As := [.int (2 : Int32)]) (rest := []) (b := 0) O (c_X8_find l G hI hA12) (fun s args hts => cwV 1 hts gX8_put_X8_find rfl rfl rfl (by decide +kernel) ⟨Nat.le_of_ble_eq_true rfl, Nat.le_of_ble_eq_true rfl⟩) (lt9 hI (by decide : (0 : Nat) < 99)) (cv_pw G (S.1 0) (S.2 0)) rfl rfl rfl rfl (Nat.le_of_ble_eq_true rfl) dX8_put_42 ?_
        exact ret_wi hF (hR _ _ dX8_put_45)
    · replace hF := it_f hc19 hF
      refine go_aload_n O dX8_put_25 rfl 1 rfl ?_
      refine go_iconst (v := (1 : Int32)) O dX8_put_26 (by decide) ?_
      obtain ⟨⟨x17, S18⟩, hA16, hF⟩ := bd_s hF
      refine go_callVi (As := [.int (1 : Int32)]) (rest := []) (b := 0) O (c_X8_find l G hI hA16) (fun s args hts => cwV 1 hts gX8_put_X8_find rfl rfl rfl (by decide +kernel) ⟨Nat.le_of_ble_eq_true rfl, Nat.le_of_ble_eq_true rfl⟩) (lt9 hI (by decide : (0 : Nat) < 99)) (cv_pw G (S.1 0) (S.2 0)) rfl rfl rfl rfl (Nat.le_of_ble_eq_true rfl) dX8_put_27 ?_
      exact ret_wi hF (hR _ _ dX8_put_30)
  · replace hF := it_t hc20 hF
    refine go_iconst (v := (-1 : Int32)) O dX8_put_7 (by decide) ?_
    exact ret_wi hF (hR _ _ dX8_put_8)
-- X8_fault
def rm_X8_fault : Room := { frames := 5, cells := 0, slots := 0, locals := 111 }
theorem fl_X8_fault_17 : Cond.fieldLink RX8 17 "PaperWalls" "texts" "[LPaperWalls$Text;" ∈ wsX8_fault := by decide +kernel
theorem fl_X8_fault_28 : Cond.fieldLink RX8 28 "PaperWalls" "trial" "LPaperWalls$Street;" ∈ wsX8_fault := by decide +kernel
theorem in_X8_fault_X8 : ∀ x ∈ u_ws RX8 TX8 12, x ∈ wsX8_fault := by decide +kernel
def F_X8_fault  (S : Sg) (a1 : Int32) : Option (Int32 × Sg) := bd (F_X8_isText S a1) (fun x2 => if x2 = 0 then (some ((-1 : Int32), S)) else (chk (inB a1 4) (bd (F_X7_isMissing (a1).toNatClampNeg S) (fun x5 => if x5 = 0 then (chk (inB a1 4) (bd (F_X6_readFrom 1 (a1).toNatClampNeg S) (fun (x8, S9) => some (x8, S9)))) else (bd (F_X8_find S (1 : Int32)) (fun (x11, S12) => some (x11, S12)))))))
set_option maxHeartbeats 4000000 in
set_option maxRecDepth 100000 in
theorem c_X8_fault (l : Launch) (G : Gp) (hI : Gd G)  {S : Sg} {a1 : Int32} {r : Int32} {S1 : Sg} (hF : F_X8_fault S a1 = some (r, S1)) : Met l yX8_fault wsX8_fault rm_X8_fault (va_Pc [.ref (G.2.1 0), .int a1] (PreW (wC G) S)) (va_Qi (fun r' u => r' = r ∧ u = S1) (PostW (wC G)) (AW (wC G))) 0 0 (AW (wC G)) := by
  rw [F_X8_fault] at hF
  refine met_i (cc := cX8_fault) (maxL := 2) (own := RX8) hI.1 (by decide) rfl rfl (Nat.le_of_ble_eq_true rfl) (fun X O hR => ?_)
  show Go X l rm_X8_fault (wC G) 2 0 [(0, .ref (G.2.1 0)), (1, .int a1)] [] S
  refine go_iload_n O dX8_fault_0 rfl 1 rfl ?_
  obtain ⟨x2, hA1, hF⟩ := bd_s hF
  refine go_callSi (As := [.int a1]) (rest := []) O (c_X8_isText l G hI hA1) (fun s args hts => va_cwS 1 hts gX8_fault_X8_isText rfl rfl rfl (by decide +kernel) ⟨Nat.le_of_ble_eq_true rfl, Nat.le_of_ble_eq_true rfl⟩) rfl rfl (Nat.le_of_ble_eq_true rfl) dX8_fault_1 ?_
  refine go_if_ne (tgt := 9) O dX8_fault_4 (by decide) (fun hc14 => ?_) (fun hc14 => ?_)
  · replace hF := it_f hc14 hF
    refine go_aload_n O dX8_fault_9 rfl 0 rfl ?_
    refine go_get (k := 0) (j := 1) O (lt9 hI (by decide : (0 : Nat) < 99)) (cv_pw G (S.1 0) (S.2 0)) rfl in_X8_fault_X8 (by decide) fl_X8_fault_17 rfl rfl dX8_fault_10 ?_
    refine go_iload_n O dX8_fault_13 rfl 1 rfl ?_
    obtain ⟨hb3, hF⟩ := chk_s hF
    refine go_aldq (k := 2) (t0 := 5) O (lt9 hI (by decide : (2 : Nat) < 99)) (cv_texts G (S.1 2) (S.2 2)) rfl (inB_in hb3) dX8_fault_14 (v := .ref (G.2.1 (26 + 2 * (a1).toNatClampNeg))) rfl ?_
    obtain ⟨x5, hA4, hF⟩ := bd_s hF
    refine go_callVi (As := []) (rest := []) (b := (26 + 2 * (a1).toNatClampNeg)) O (c_X7_isMissing l G hI (inB_lt hb3) hA4) (fun s args hts => cwV 0 hts gX8_fault_X7_isMissing rfl rfl rfl (by decide +kernel) ⟨Nat.le_of_ble_eq_true rfl, Nat.le_of_ble_eq_true rfl⟩) (lt9 hI (txt_lt (inB_lt hb3))) (cv_txt G (inB_lt hb3) (S.1 (26 + 2 * (a1).toNatClampNeg)) (S.2 (26 + 2 * (a1).toNatClampNeg))) rfl rfl rfl rfl (Nat.le_of_ble_eq_true rfl) dX8_fault_15 ?_
    refine go_if_eq (tgt := 27) O dX8_fault_18 (by decide) (fun hc13 => ?_) (fun hc13 => ?_)
    · replace hF := it_t hc13 hF
      refine go_aload_n O dX8_fault_27 rfl 0 rfl ?_
      refine go_get (k := 0) (j := 3) O (lt9 hI (by decide : (0 : Nat) < 99)) (cv_pw G (S.1 0) (S.2 0)) rfl in_X8_fault_X8 (by decide) fl_X8_fault_28 rfl rfl dX8_fault_28 ?_
      refine go_aload_n O dX8_fault_31 rfl 0 rfl ?_
      refine go_get (k := 0) (j := 1) O (lt9 hI (by decide : (0 : Nat) < 99)) (cv_pw G (S.1 0) (S.2 0)) rfl in_X8_fault_X8 (by decide) fl_X8_fault_17 rfl rfl dX8_fault_32 ?_
      refine go_iload_n O dX8_fault_35 rfl 1 rfl ?_
      obtain ⟨hb6, hF⟩ := chk_s hF
      refine go_aldq (k := 2) (t0 := 5) O (lt9 hI (by decide : (2 : Nat) < 99)) (cv_texts G (S.1 2) (S.2 2)) rfl (inB_in hb6) dX8_fault_36 (v := .ref (G.2.1 (26 + 2 * (a1).toNatClampNeg))) rfl ?_
      obtain ⟨⟨x8, S9⟩, hA7, hF⟩ := bd_s hF
      refine go_callVi (As := [.ref (G.2.1 (26 + 2 * (a1).toNatClampNeg))]) (rest := []) (b := (sb 1)) O (c_X6_readFrom l G hI (by decide : (1 : Nat) < 5) (inB_lt hb6) hA7) (fun s args hts => cwV 1 hts gX8_fault_X6_readFrom rfl rfl rfl (by decide +kernel) ⟨Nat.le_of_ble_eq_true rfl, Nat.le_of_ble_eq_true rfl⟩) (lt9 hI (sb_lt0 (by decide : (1 : Nat) < 5))) (cv_st G (by decide : (1 : Nat) < 5) (S.1 (sb 1)) (S.2 (sb 1))) rfl rfl rfl rfl (Nat.le_of_ble_eq_true rfl) dX8_fault_37 ?_
      exact ret_wi hF (hR _ _ dX8_fault_40)
    · replace hF := it_f hc13 hF
      refine go_aload_n O dX8_fault_21 rfl 0 rfl ?_
      refine go_iconst (v := (1 : Int32)) O dX8_fault_22 (by decide) ?_
      obtain ⟨⟨x11, S12⟩, hA10, hF⟩ := bd_s hF
      refine go_callVi (As := [.int (1 : Int32)]) (rest := []) (b := 0) O (c_X8_find l G hI hA10) (fun s args hts => cwV 1 hts gX8_fault_X8_find rfl rfl rfl (by decide +kernel) ⟨Nat.le_of_ble_eq_true rfl, Nat.le_of_ble_eq_true rfl⟩) (lt9 hI (by decide : (0 : Nat) < 99)) (cv_pw G (S.1 0) (S.2 0)) rfl rfl rfl rfl (Nat.le_of_ble_eq_true rfl) dX8_fault_23 ?_
      exact ret_wi hF (hR _ _ dX8_fault_26)
  · replace hF := it_t hc14 hF
    refine go_iconst (v := (-1 : Int32)) O dX8_fault_7 (by decide) ?_
    exact ret_wi hF (hR _ _ dX8_fault_8)
-- X8_street
def rm_X8_street : Room := { frames := 5, cells := 0, slots := 0, locals := 122 }
theorem fl_X8_street_17 : Cond.fieldLink RX8 17 "PaperWalls" "texts" "[LPaperWalls$Text;" ∈ wsX8_street := by decide +kernel
theorem fl_X8_street_24 : Cond.fieldLink RX8 24 "PaperWalls" "now" "LPaperWalls$Street;" ∈ wsX8_street := by decide +kernel
theorem fl_X8_street_28 : Cond.fieldLink RX8 28 "PaperWalls" "trial" "LPaperWalls$Street;" ∈ wsX8_street := by decide +kernel
theorem fl_X8_street_35 : Cond.fieldLink RX8 35 "PaperWalls" "isKept" "[Z" ∈ wsX8_street := by decide +kernel
theorem fl_X8_street_131 : Cond.fieldLink RX8 131 "PaperWalls$Street" "people" "I" ∈ wsX8_street := by decide +kernel
theorem in_X8_street_X6 : ∀ x ∈ u_ws RX6 TX6 11, x ∈ wsX8_street := by decide +kernel
theorem in_X8_street_X8 : ∀ x ∈ u_ws RX8 TX8 12, x ∈ wsX8_street := by decide +kernel
def T_X8_street_61    : Nat → Int32 → Sg → Option (Sg)
  | 0, _, _ => none
  | n + 1, p2, S => if (3 : Int32) ≤ p2 then (some S) else (chk (inB p2 3) (nm (wI S 4 p2.toNatClampNeg (vp_nar .boolean (0 : Int32))) (fun S14 => T_X8_street_61 n (p2 + (1 : Int32)) S14)))
set_option maxHeartbeats 4000000 in
set_option maxRecDepth 100000 in
theorem lt_X8_street_61 {X : XT} (l : Launch) (G : Gp) (hI : Gd G)   (O : Ok X (wC G) cX8_street RX8 wsX8_street 3) : ∀ (n : Nat) (p2 : Int32) (S : Sg) (q : (Sg)), T_X8_street_61 n p2 S = some q → (Go X l rm_X8_street (wC G) 3 79 [(0, .ref (G.2.1 0))] [] q) → Go X l rm_X8_street (wC G) 3 61 [(0, .ref (G.2.1 0)), (2, .int p2)] [] S := by
  intro n
  induction n with
  | zero =>
    intro p2 S q hF
    cases hF
  | succ n ih =>
    intro p2 S q hF hE
    rw [T_X8_street_61] at hF
    refine go_iload_n O dX8_street_61 rfl 1 rfl ?_
    refine go_iconst (v := (3 : Int32)) O dX8_street_62 (by decide) ?_
    refine go_icmp_ge (tgt := 79) O dX8_street_63 (by decide) (fun hc15 => ?_) (fun hc15 => ?_)
    · replace hF := it_t hc15 hF
      refine go_perm (ls' := [(0, .ref (G.2.1 0))]) [0] rfl ?_
      exact jn (P := fun q => Go X l rm_X8_street (wC G) 3 79 [(0, .ref (G.2.1 0))] [] q) hF hE
    · replace hF := it_f hc15 hF
      refine go_aload_n O dX8_street_66 rfl 0 rfl ?_
      refine go_get (k := 0) (j := 5) O (lt9 hI (by decide : (0 : Nat) < 99)) (cv_pw G (S.1 0) (S.2 0)) rfl in_X8_street_X8 (by decide) fl_X8_street_35 rfl rfl dX8_street_67 ?_
      refine go_iload_n O dX8_street_70 rfl 1 rfl ?_
      refine go_iconst (v := (0 : Int32)) O dX8_street_71 (by decide) ?_
      obtain ⟨hb13, hF⟩ := chk_s hF
      obtain ⟨S14, eS14, hF⟩ := nm_s hF
      refine go_zast (k := 4) O (lt9 hI (by decide : (4 : Nat) < 99)) (fun f => (cv_kept G f (S.2 4))) (inB_in hb13) dX8_street_72 eS14 ?_
      refine go_iinc (d := (1 : Int32)) (ls' := [(2, .int (p2 + (1 : Int32))), (0, .ref (G.2.1 0))]) O dX8_street_73 1 rfl (by decide) (by decide) rfl ?_
      refine go_goto (tgt := 61) O dX8_street_76 (by decide) ?_
      refine go_perm (ls' := [(0, .ref (G.2.1 0)), (2, .int (p2 + (1 : Int32)))]) [1, 0] rfl ?_
      exact ih _ _ _ hF hE
def F_X8_street  (S : Sg) (a1 : Int32) : Option (Int32 × Sg) := bd (F_X8_isText S a1) (fun x2 => if x2 = 0 then (some ((-1 : Int32), S)) else (chk (inB a1 4) (bd (F_X7_isMissing (a1).toNatClampNeg S) (fun x5 => if x5 = 0 then (chk (inB a1 4) (bd (F_X6_readFrom 1 (a1).toNatClampNeg S) (fun (x8, S9) => if x8 = (-9 : Int32) then (bd (F_X6_become 0 1 S9) (fun S11 => bd (T_X8_street_61 FU (0 : Int32) S11) (fun S12 => some (S12.1 (sb 0) 9, S12)))) else (some ((-4 : Int32), S9))))) else (bd (F_X8_find S (1 : Int32)) (fun (x19, S20) => some (x19, S20)))))))
set_option maxHeartbeats 4000000 in
set_option maxRecDepth 100000 in
theorem c_X8_street (l : Launch) (G : Gp) (hI : Gd G)  {S : Sg} {a1 : Int32} {r : Int32} {S1 : Sg} (hF : F_X8_street S a1 = some (r, S1)) : Met l yX8_street wsX8_street rm_X8_street (va_Pc [.ref (G.2.1 0), .int a1] (PreW (wC G) S)) (va_Qi (fun r' u => r' = r ∧ u = S1) (PostW (wC G)) (AW (wC G))) 0 0 (AW (wC G)) := by
  rw [F_X8_street] at hF
  refine met_i (cc := cX8_street) (maxL := 3) (own := RX8) hI.1 (by decide) rfl rfl (Nat.le_of_ble_eq_true rfl) (fun X O hR => ?_)
  show Go X l rm_X8_street (wC G) 3 0 [(0, .ref (G.2.1 0)), (1, .int a1)] [] S
  refine go_iload_n O dX8_street_0 rfl 1 rfl ?_
  obtain ⟨x2, hA1, hF⟩ := bd_s hF
  refine go_callSi (As := [.int a1]) (rest := []) O (c_X8_isText l G hI hA1) (fun s args hts => va_cwS 1 hts gX8_street_X8_isText rfl rfl rfl (by decide +kernel) ⟨Nat.le_of_ble_eq_true rfl, Nat.le_of_ble_eq_true rfl⟩) rfl rfl (Nat.le_of_ble_eq_true rfl) dX8_street_1 ?_
  refine go_if_ne (tgt := 9) O dX8_street_4 (by decide) (fun hc22 => ?_) (fun hc22 => ?_)
  · replace hF := it_f hc22 hF
    refine go_aload_n O dX8_street_9 rfl 0 rfl ?_
    refine go_get (k := 0) (j := 1) O (lt9 hI (by decide : (0 : Nat) < 99)) (cv_pw G (S.1 0) (S.2 0)) rfl in_X8_street_X8 (by decide) fl_X8_street_17 rfl rfl dX8_street_10 ?_
    refine go_iload_n O dX8_street_13 rfl 1 rfl ?_
    obtain ⟨hb3, hF⟩ := chk_s hF
    refine go_aldq (k := 2) (t0 := 5) O (lt9 hI (by decide : (2 : Nat) < 99)) (cv_texts G (S.1 2) (S.2 2)) rfl (inB_in hb3) dX8_street_14 (v := .ref (G.2.1 (26 + 2 * (a1).toNatClampNeg))) rfl ?_
    obtain ⟨x5, hA4, hF⟩ := bd_s hF
    refine go_callVi (As := []) (rest := []) (b := (26 + 2 * (a1).toNatClampNeg)) O (c_X7_isMissing l G hI (inB_lt hb3) hA4) (fun s args hts => cwV 0 hts gX8_street_X7_isMissing rfl rfl rfl (by decide +kernel) ⟨Nat.le_of_ble_eq_true rfl, Nat.le_of_ble_eq_true rfl⟩) (lt9 hI (txt_lt (inB_lt hb3))) (cv_txt G (inB_lt hb3) (S.1 (26 + 2 * (a1).toNatClampNeg)) (S.2 (26 + 2 * (a1).toNatClampNeg))) rfl rfl rfl rfl (Nat.le_of_ble_eq_true rfl) dX8_street_15 ?_
    refine go_if_eq (tgt := 27) O dX8_street_18 (by decide) (fun hc21 => ?_) (fun hc21 => ?_)
    · replace hF := it_t hc21 hF
      refine go_aload_n O dX8_street_27 rfl 0 rfl ?_
      refine go_get (k := 0) (j := 3) O (lt9 hI (by decide : (0 : Nat) < 99)) (cv_pw G (S.1 0) (S.2 0)) rfl in_X8_street_X8 (by decide) fl_X8_street_28 rfl rfl dX8_street_28 ?_
      refine go_aload_n O dX8_street_31 rfl 0 rfl ?_
      refine go_get (k := 0) (j := 1) O (lt9 hI (by decide : (0 : Nat) < 99)) (cv_pw G (S.1 0) (S.2 0)) rfl in_X8_street_X8 (by decide) fl_X8_street_17 rfl rfl dX8_street_32 ?_
      refine go_iload_n O dX8_street_35 rfl 1 rfl ?_
      obtain ⟨hb6, hF⟩ := chk_s hF
      refine go_aldq (k := 2) (t0 := 5) O (lt9 hI (by decide : (2 : Nat) < 99)) (cv_texts G (S.1 2) (S.2 2)) rfl (inB_in hb6) dX8_street_36 (v := .ref (G.2.1 (26 + 2 * (a1).toNatClampNeg))) rfl ?_
      obtain ⟨⟨x8, S9⟩, hA7, hF⟩ := bd_s hF
      refine go_callVi (As := [.ref (G.2.1 (26 + 2 * (a1).toNatClampNeg))]) (rest := []) (b := (sb 1)) O (c_X6_readFrom l G hI (by decide : (1 : Nat) < 5) (inB_lt hb6) hA7) (fun s args hts => cwV 1 hts gX8_street_X6_readFrom rfl rfl rfl (by decide +kernel) ⟨Nat.le_of_ble_eq_true rfl, Nat.le_of_ble_eq_true rfl⟩) (lt9 hI (sb_lt0 (by decide : (1 : Nat) < 5))) (cv_st G (by decide : (1 : Nat) < 5) (S.1 (sb 1)) (S.2 (sb 1))) rfl rfl rfl rfl (Nat.le_of_ble_eq_true rfl) dX8_street_37 ?_
      refine go_bipush (v := (-9 : Int32)) O dX8_street_40 (by decide) ?_
      refine go_icmp_eq (tgt := 48) O dX8_street_42 (by decide) (fun hc17 => ?_) (fun hc17 => ?_)
      · replace hF := it_t hc17 hF
        refine go_aload_n O dX8_street_48 rfl 0 rfl ?_
        refine go_get (k := 0) (j := 2) O (lt9 hI (by decide : (0 : Nat) < 99)) (cv_pw G (S9.1 0) (S9.2 0)) rfl in_X8_street_X8 (by decide) fl_X8_street_24 rfl rfl dX8_street_49 ?_
        refine go_aload_n O dX8_street_52 rfl 0 rfl ?_
        refine go_get (k := 0) (j := 3) O (lt9 hI (by decide : (0 : Nat) < 99)) (cv_pw G (S9.1 0) (S9.2 0)) rfl in_X8_street_X8 (by decide) fl_X8_street_28 rfl rfl dX8_street_53 ?_
        obtain ⟨S11, hA10, hF⟩ := bd_s hF
        refine go_callVv (As := [.ref (G.2.1 (sb 1))]) (rest := []) (b := (sb 0)) O (c_X6_become l G hI (by decide : (0 : Nat) < 5) (by decide : (1 : Nat) < 5) hA10) (fun s args hts => cwV 1 hts gX8_street_X6_become rfl rfl rfl (by decide +kernel) ⟨Nat.le_of_ble_eq_true rfl, Nat.le_of_ble_eq_true rfl⟩) (lt9 hI (sb_lt0 (by decide : (0 : Nat) < 5))) (cv_st G (by decide : (0 : Nat) < 5) (S9.1 (sb 0)) (S9.2 (sb 0))) rfl rfl rfl rfl (Nat.le_of_ble_eq_true rfl) dX8_street_56 ?_
        refine go_iconst (v := (0 : Int32)) O dX8_street_59 (by decide) ?_
        refine go_istore_n (ls' := [(2, .int (0 : Int32)), (0, .ref (G.2.1 0)), (1, .int a1)]) O dX8_street_60 rfl (by decide) rfl ?_
        refine go_perm (ls' := [(0, .ref (G.2.1 0)), (2, .int (0 : Int32))]) [1, 0] rfl ?_
        obtain ⟨S12, hA16, hF⟩ := bd_s hF
        refine lt_X8_street_61 l G hI  O _ _ _ _ hA16 ?_
        refine go_aload_n O dX8_street_79 rfl 0 rfl ?_
        refine go_get (k := 0) (j := 2) O (lt9 hI (by decide : (0 : Nat) < 99)) (cv_pw G (S12.1 0) (S12.2 0)) rfl in_X8_street_X8 (by decide) fl_X8_street_24 rfl rfl dX8_street_80 ?_
        refine go_get (k := (sb 0)) (j := 9) O (lt9 hI (sb_lt0 (by decide : (0 : Nat) < 5))) (cv_st G (by decide : (0 : Nat) < 5) (S12.1 (sb 0)) (S12.2 (sb 0))) rfl in_X8_street_X6 (by decide) fl_X8_street_131 rfl rfl dX8_street_83 ?_
        exact ret_wi hF (hR _ _ dX8_street_86)
      · replace hF := it_f hc17 hF
        refine go_bipush (v := (-4 : Int32)) O dX8_street_45 (by decide) ?_
        exact ret_wi hF (hR _ _ dX8_street_47)
    · replace hF := it_f hc21 hF
      refine go_aload_n O dX8_street_21 rfl 0 rfl ?_
      refine go_iconst (v := (1 : Int32)) O dX8_street_22 (by decide) ?_
      obtain ⟨⟨x19, S20⟩, hA18, hF⟩ := bd_s hF
      refine go_callVi (As := [.int (1 : Int32)]) (rest := []) (b := 0) O (c_X8_find l G hI hA18) (fun s args hts => cwV 1 hts gX8_street_X8_find rfl rfl rfl (by decide +kernel) ⟨Nat.le_of_ble_eq_true rfl, Nat.le_of_ble_eq_true rfl⟩) (lt9 hI (by decide : (0 : Nat) < 99)) (cv_pw G (S.1 0) (S.2 0)) rfl rfl rfl rfl (Nat.le_of_ble_eq_true rfl) dX8_street_23 ?_
      exact ret_wi hF (hR _ _ dX8_street_26)
  · replace hF := it_t hc22 hF
    refine go_iconst (v := (-1 : Int32)) O dX8_street_7 (by decide) ?_
    exact ret_wi hF (hR _ _ dX8_street_8)
-- X8_wall
def rm_X8_wall : Room := { frames := 1, cells := 0, slots := 0, locals := 21 }
theorem fl_X8_wall_24 : Cond.fieldLink RX8 24 "PaperWalls" "now" "LPaperWalls$Street;" ∈ wsX8_wall := by decide +kernel
theorem fl_X8_wall_165 : Cond.fieldLink RX8 165 "PaperWalls$Street" "walls" "I" ∈ wsX8_wall := by decide +kernel
theorem fl_X8_wall_168 : Cond.fieldLink RX8 168 "PaperWalls$Street" "layers" "[I" ∈ wsX8_wall := by decide +kernel
theorem in_X8_wall_X6 : ∀ x ∈ u_ws RX6 TX6 11, x ∈ wsX8_wall := by decide +kernel
theorem in_X8_wall_X8 : ∀ x ∈ u_ws RX8 TX8 12, x ∈ wsX8_wall := by decide +kernel
def F_X8_wall  (S : Sg) (a1 : Int32) (a2 : Int32) : Option (Int32 × Sg) := if a1 < 0 then (some ((-1 : Int32), S)) else (if (S.1 (sb 0) 8) ≤ a1 then (some ((-1 : Int32), S)) else (if a2 < 0 then (some ((-1 : Int32), S)) else (if a2 ≤ (20 : Int32) then (chk (inB a1 6) (nm (S.1 (sb 0 + 1) a1.toNatClampNeg) (fun x2 => chk (inB a1 6) (nm (wI S (sb 0 + 1) a1.toNatClampNeg a2) (fun S4 => bd (F_X6_measure 0 S4) (fun S6 => some (x2, S6))))))) else (some ((-1 : Int32), S)))))
set_option maxHeartbeats 4000000 in
set_option maxRecDepth 100000 in
theorem c_X8_wall (l : Launch) (G : Gp) (hI : Gd G)  {S : Sg} {a1 : Int32} {a2 : Int32} {r : Int32} {S1 : Sg} (hF : F_X8_wall S a1 a2 = some (r, S1)) : Met l yX8_wall wsX8_wall rm_X8_wall (va_Pc [.ref (G.2.1 0), .int a1, .int a2] (PreW (wC G) S)) (va_Qi (fun r' u => r' = r ∧ u = S1) (PostW (wC G)) (AW (wC G))) 0 0 (AW (wC G)) := by
  rw [F_X8_wall] at hF
  refine met_i (cc := cX8_wall) (maxL := 4) (own := RX8) hI.1 (by decide) rfl rfl (Nat.le_of_ble_eq_true rfl) (fun X O hR => ?_)
  show Go X l rm_X8_wall (wC G) 4 0 [(0, .ref (G.2.1 0)), (1, .int a1), (2, .int a2)] [] S
  refine go_iload_n O dX8_wall_0 rfl 1 rfl ?_
  refine go_if_lt (tgt := 25) O dX8_wall_1 (by decide) (fun hc10 => ?_) (fun hc10 => ?_)
  · replace hF := it_t hc10 hF
    refine go_iconst (v := (-1 : Int32)) O dX8_wall_25 (by decide) ?_
    exact ret_wi hF (hR _ _ dX8_wall_26)
  · replace hF := it_f hc10 hF
    refine go_iload_n O dX8_wall_4 rfl 1 rfl ?_
    refine go_aload_n O dX8_wall_5 rfl 0 rfl ?_
    refine go_get (k := 0) (j := 2) O (lt9 hI (by decide : (0 : Nat) < 99)) (cv_pw G (S.1 0) (S.2 0)) rfl in_X8_wall_X8 (by decide) fl_X8_wall_24 rfl rfl dX8_wall_6 ?_
    refine go_get (k := (sb 0)) (j := 8) O (lt9 hI (sb_lt0 (by decide : (0 : Nat) < 5))) (cv_st G (by decide : (0 : Nat) < 5) (S.1 (sb 0)) (S.2 (sb 0))) rfl in_X8_wall_X6 (by decide) fl_X8_wall_165 rfl rfl dX8_wall_9 ?_
    refine go_icmp_ge (tgt := 25) O dX8_wall_12 (by decide) (fun hc9 => ?_) (fun hc9 => ?_)
    · replace hF := it_t hc9 hF
      refine go_iconst (v := (-1 : Int32)) O dX8_wall_25 (by decide) ?_
      exact ret_wi hF (hR _ _ dX8_wall_26)
    · replace hF := it_f hc9 hF
      refine go_iload_n O dX8_wall_15 rfl 2 rfl ?_
      refine go_if_lt (tgt := 25) O dX8_wall_16 (by decide) (fun hc8 => ?_) (fun hc8 => ?_)
      · replace hF := it_t hc8 hF
        refine go_iconst (v := (-1 : Int32)) O dX8_wall_25 (by decide) ?_
        exact ret_wi hF (hR _ _ dX8_wall_26)
      · replace hF := it_f hc8 hF
        refine go_iload_n O dX8_wall_19 rfl 2 rfl ?_
        refine go_bipush (v := (20 : Int32)) O dX8_wall_20 (by decide) ?_
        refine go_icmp_le (tgt := 27) O dX8_wall_22 (by decide) (fun hc7 => ?_) (fun hc7 => ?_)
        · replace hF := it_t hc7 hF
          refine go_aload_n O dX8_wall_27 rfl 0 rfl ?_
          refine go_get (k := 0) (j := 2) O (lt9 hI (by decide : (0 : Nat) < 99)) (cv_pw G (S.1 0) (S.2 0)) rfl in_X8_wall_X8 (by decide) fl_X8_wall_24 rfl rfl dX8_wall_28 ?_
          refine go_get (k := (sb 0)) (j := 0) O (lt9 hI (sb_lt0 (by decide : (0 : Nat) < 5))) (cv_st G (by decide : (0 : Nat) < 5) (S.1 (sb 0)) (S.2 (sb 0))) rfl in_X8_wall_X6 (by decide) fl_X8_wall_168 rfl rfl dX8_wall_31 ?_
          refine go_iload_n O dX8_wall_34 rfl 1 rfl ?_
          obtain ⟨hb1, hF⟩ := chk_s hF
          refine go_iald (k := (sb 0 + 1)) O (lt9 hI (sb_lt (by decide : (0 : Nat) < 5) (by decide : 1 < 13))) (cv_sta1 G (by decide : (0 : Nat) < 5) (S.1 (sb 0 + 1)) (S.2 (sb 0 + 1))) (inB_in hb1) dX8_wall_35 ?_
          obtain ⟨x2, ex2, hF⟩ := nm_s hF
          refine go_topi ex2 ?_
          refine go_istore_n (ls' := [(3, .int x2), (0, .ref (G.2.1 0)), (1, .int a1), (2, .int a2)]) O dX8_wall_36 rfl (by decide) rfl ?_
          refine go_aload_n O dX8_wall_37 rfl 1 rfl ?_
          refine go_get (k := 0) (j := 2) O (lt9 hI (by decide : (0 : Nat) < 99)) (cv_pw G (S.1 0) (S.2 0)) rfl in_X8_wall_X8 (by decide) fl_X8_wall_24 rfl rfl dX8_wall_38 ?_
          refine go_get (k := (sb 0)) (j := 0) O (lt9 hI (sb_lt0 (by decide : (0 : Nat) < 5))) (cv_st G (by decide : (0 : Nat) < 5) (S.1 (sb 0)) (S.2 (sb 0))) rfl in_X8_wall_X6 (by decide) fl_X8_wall_168 rfl rfl dX8_wall_41 ?_
          refine go_iload_n O dX8_wall_44 rfl 2 rfl ?_
          refine go_iload_n O dX8_wall_45 rfl 3 rfl ?_
          obtain ⟨hb3, hF⟩ := chk_s hF
          obtain ⟨S4, eS4, hF⟩ := nm_s hF
          refine go_iast (k := (sb 0 + 1)) O (lt9 hI (sb_lt (by decide : (0 : Nat) < 5) (by decide : 1 < 13))) (fun f => (cv_sta1 G (by decide : (0 : Nat) < 5) f (S.2 (sb 0 + 1)))) (inB_in hb3) dX8_wall_46 eS4 ?_
          refine go_aload_n O dX8_wall_47 rfl 1 rfl ?_
          refine go_get (k := 0) (j := 2) O (lt9 hI (by decide : (0 : Nat) < 99)) (cv_pw G (S4.1 0) (S4.2 0)) rfl in_X8_wall_X8 (by decide) fl_X8_wall_24 rfl rfl dX8_wall_48 ?_
          obtain ⟨S6, hA5, hF⟩ := bd_s hF
          refine go_callVv (As := []) (rest := []) (b := (sb 0)) O (c_X6_measure l G hI (by decide : (0 : Nat) < 5) hA5) (fun s args hts => cwV 0 hts gX8_wall_X6_measure rfl rfl rfl (by decide +kernel) ⟨Nat.le_of_ble_eq_true rfl, Nat.le_of_ble_eq_true rfl⟩) (lt9 hI (sb_lt0 (by decide : (0 : Nat) < 5))) (cv_st G (by decide : (0 : Nat) < 5) (S4.1 (sb 0)) (S4.2 (sb 0))) rfl rfl rfl rfl (Nat.le_of_ble_eq_true rfl) dX8_wall_51 ?_
          refine go_iload_n O dX8_wall_54 rfl 0 rfl ?_
          exact ret_wi hF (hR _ _ dX8_wall_55)
        · replace hF := it_f hc7 hF
          refine go_iconst (v := (-1 : Int32)) O dX8_wall_25 (by decide) ?_
          exact ret_wi hF (hR _ _ dX8_wall_26)
-- X8_isOne
def rm_X8_isOne : Room := { frames := 0, cells := 0, slots := 0, locals := 0 }
theorem fl_X8_isOne_24 : Cond.fieldLink RX8 24 "PaperWalls" "now" "LPaperWalls$Street;" ∈ wsX8_isOne := by decide +kernel
theorem fl_X8_isOne_131 : Cond.fieldLink RX8 131 "PaperWalls$Street" "people" "I" ∈ wsX8_isOne := by decide +kernel
theorem in_X8_isOne_X6 : ∀ x ∈ u_ws RX6 TX6 11, x ∈ wsX8_isOne := by decide +kernel
theorem in_X8_isOne_X8 : ∀ x ∈ u_ws RX8 TX8 12, x ∈ wsX8_isOne := by decide +kernel
def F_X8_isOne  (S : Sg) (a1 : Int32) : Option Int32 := if a1 < 0 then (some (0 : Int32)) else (if (S.1 (sb 0) 9) ≤ a1 then (some (0 : Int32)) else (some (1 : Int32)))
set_option maxHeartbeats 4000000 in
set_option maxRecDepth 100000 in
theorem c_X8_isOne (l : Launch) (G : Gp) (hI : Gd G)  {S : Sg} {a1 : Int32} {r : Int32} (hF : F_X8_isOne S a1 = some r) : Met l yX8_isOne wsX8_isOne rm_X8_isOne (va_Pc [.ref (G.2.1 0), .int a1] (PreW (wC G) S)) (va_Qi (fun r' u => r' = r ∧ u = S) (PostW (wC G)) (AW (wC G))) 0 0 (AW (wC G)) := by
  rw [F_X8_isOne] at hF
  refine met_z (cc := cX8_isOne) (maxL := 2) (own := RX8) hI.1 (by decide) rfl rfl (Nat.le_of_ble_eq_true rfl) (fun X O hR => ?_)
  show Go X l rm_X8_isOne (wC G) 2 0 [(0, .ref (G.2.1 0)), (1, .int a1)] [] S
  refine go_iload_n O dX8_isOne_0 rfl 1 rfl ?_
  refine go_if_lt (tgt := 19) O dX8_isOne_1 (by decide) (fun hc2 => ?_) (fun hc2 => ?_)
  · replace hF := it_t hc2 hF
    refine go_iconst (v := (0 : Int32)) O dX8_isOne_19 (by decide) ?_
    exact ret_z hF (fun hz => hR _ _ hz dX8_isOne_20) (show vp_nar .boolean (0 : Int32) = (0 : Int32) by decide)
  · replace hF := it_f hc2 hF
    refine go_iload_n O dX8_isOne_4 rfl 1 rfl ?_
    refine go_aload_n O dX8_isOne_5 rfl 0 rfl ?_
    refine go_get (k := 0) (j := 2) O (lt9 hI (by decide : (0 : Nat) < 99)) (cv_pw G (S.1 0) (S.2 0)) rfl in_X8_isOne_X8 (by decide) fl_X8_isOne_24 rfl rfl dX8_isOne_6 ?_
    refine go_get (k := (sb 0)) (j := 9) O (lt9 hI (sb_lt0 (by decide : (0 : Nat) < 5))) (cv_st G (by decide : (0 : Nat) < 5) (S.1 (sb 0)) (S.2 (sb 0))) rfl in_X8_isOne_X6 (by decide) fl_X8_isOne_131 rfl rfl dX8_isOne_9 ?_
    refine go_icmp_ge (tgt := 19) O dX8_isOne_12 (by decide) (fun hc1 => ?_) (fun hc1 => ?_)
    · replace hF := it_t hc1 hF
      refine go_iconst (v := (0 : Int32)) O dX8_isOne_19 (by decide) ?_
      exact ret_z hF (fun hz => hR _ _ hz dX8_isOne_20) (show vp_nar .boolean (0 : Int32) = (0 : Int32) by decide)
    · replace hF := it_f hc1 hF
      refine go_iconst (v := (1 : Int32)) O dX8_isOne_15 (by decide) ?_
      refine go_goto (tgt := 20) O dX8_isOne_16 (by decide) ?_
      exact ret_z hF (fun hz => hR _ _ hz dX8_isOne_20) (show vp_nar .boolean (1 : Int32) = (1 : Int32) by decide)
-- X8_areTwo
def rm_X8_areTwo : Room := { frames := 1, cells := 0, slots := 0, locals := 21 }
def F_X8_areTwo  (S : Sg) (a1 : Int32) (a2 : Int32) : Option Int32 := bd (F_X8_isOne S a1) (fun x2 => if x2 = 0 then (some (0 : Int32)) else (bd (F_X8_isOne S a2) (fun x4 => if x4 = 0 then (some (0 : Int32)) else (if a1 = a2 then (some (0 : Int32)) else (some (1 : Int32))))))
set_option maxHeartbeats 4000000 in
set_option maxRecDepth 100000 in
theorem c_X8_areTwo (l : Launch) (G : Gp) (hI : Gd G)  {S : Sg} {a1 : Int32} {a2 : Int32} {r : Int32} (hF : F_X8_areTwo S a1 a2 = some r) : Met l yX8_areTwo wsX8_areTwo rm_X8_areTwo (va_Pc [.ref (G.2.1 0), .int a1, .int a2] (PreW (wC G) S)) (va_Qi (fun r' u => r' = r ∧ u = S) (PostW (wC G)) (AW (wC G))) 0 0 (AW (wC G)) := by
  rw [F_X8_areTwo] at hF
  refine met_z (cc := cX8_areTwo) (maxL := 3) (own := RX8) hI.1 (by decide) rfl rfl (Nat.le_of_ble_eq_true rfl) (fun X O hR => ?_)
  show Go X l rm_X8_areTwo (wC G) 3 0 [(0, .ref (G.2.1 0)), (1, .int a1), (2, .int a2)] [] S
  refine go_aload_n O dX8_areTwo_0 rfl 0 rfl ?_
  refine go_iload_n O dX8_areTwo_1 rfl 1 rfl ?_
  obtain ⟨x2, hA1, hF⟩ := bd_s hF
  refine go_callVi (As := [.int a1]) (rest := []) (b := 0) O (c_X8_isOne l G hI hA1) (fun s args hts => cwV 1 hts gX8_areTwo_X8_isOne rfl rfl rfl (by decide +kernel) ⟨Nat.le_of_ble_eq_true rfl, Nat.le_of_ble_eq_true rfl⟩) (lt9 hI (by decide : (0 : Nat) < 99)) (cv_pw G (S.1 0) (S.2 0)) rfl rfl rfl rfl (Nat.le_of_ble_eq_true rfl) dX8_areTwo_2 ?_
  refine go_if_eq (tgt := 25) O dX8_areTwo_5 (by decide) (fun hc7 => ?_) (fun hc7 => ?_)
  · replace hF := it_t hc7 hF
    refine go_iconst (v := (0 : Int32)) O dX8_areTwo_25 (by decide) ?_
    exact ret_z hF (fun hz => hR _ _ hz dX8_areTwo_26) (show vp_nar .boolean (0 : Int32) = (0 : Int32) by decide)
  · replace hF := it_f hc7 hF
    refine go_aload_n O dX8_areTwo_8 rfl 0 rfl ?_
    refine go_iload_n O dX8_areTwo_9 rfl 2 rfl ?_
    obtain ⟨x4, hA3, hF⟩ := bd_s hF
    refine go_callVi (As := [.int a2]) (rest := []) (b := 0) O (c_X8_isOne l G hI hA3) (fun s args hts => cwV 1 hts gX8_areTwo_X8_isOne rfl rfl rfl (by decide +kernel) ⟨Nat.le_of_ble_eq_true rfl, Nat.le_of_ble_eq_true rfl⟩) (lt9 hI (by decide : (0 : Nat) < 99)) (cv_pw G (S.1 0) (S.2 0)) rfl rfl rfl rfl (Nat.le_of_ble_eq_true rfl) dX8_areTwo_10 ?_
    refine go_if_eq (tgt := 25) O dX8_areTwo_13 (by decide) (fun hc6 => ?_) (fun hc6 => ?_)
    · replace hF := it_t hc6 hF
      refine go_iconst (v := (0 : Int32)) O dX8_areTwo_25 (by decide) ?_
      exact ret_z hF (fun hz => hR _ _ hz dX8_areTwo_26) (show vp_nar .boolean (0 : Int32) = (0 : Int32) by decide)
    · replace hF := it_f hc6 hF
      refine go_iload_n O dX8_areTwo_16 rfl 1 rfl ?_
      refine go_iload_n O dX8_areTwo_17 rfl 2 rfl ?_
      refine go_icmp_eq (tgt := 25) O dX8_areTwo_18 (by decide) (fun hc5 => ?_) (fun hc5 => ?_)
      · replace hF := it_t hc5 hF
        refine go_iconst (v := (0 : Int32)) O dX8_areTwo_25 (by decide) ?_
        exact ret_z hF (fun hz => hR _ _ hz dX8_areTwo_26) (show vp_nar .boolean (0 : Int32) = (0 : Int32) by decide)
      · replace hF := it_f hc5 hF
        refine go_iconst (v := (1 : Int32)) O dX8_areTwo_21 (by decide) ?_
        refine go_goto (tgt := 26) O dX8_areTwo_22 (by decide) ?_
        exact ret_z hF (fun hz => hR _ _ hz dX8_areTwo_26) (show vp_nar .boolean (1 : Int32) = (1 : Int32) by decide)
-- X8_hears
def rm_X8_hears : Room := { frames := 3, cells := 0, slots := 0, locals := 84 }
theorem fl_X8_hears_24 : Cond.fieldLink RX8 24 "PaperWalls" "now" "LPaperWalls$Street;" ∈ wsX8_hears := by decide +kernel
theorem fl_X8_hears_92 : Cond.fieldLink RX8 92 "PaperWalls" "told" "I" ∈ wsX8_hears := by decide +kernel
theorem fl_X8_hears_177 : Cond.fieldLink RX8 177 "PaperWalls$Street" "rooms" "[I" ∈ wsX8_hears := by decide +kernel
theorem in_X8_hears_X6 : ∀ x ∈ u_ws RX6 TX6 11, x ∈ wsX8_hears := by decide +kernel
theorem in_X8_hears_X8 : ∀ x ∈ u_ws RX8 TX8 12, x ∈ wsX8_hears := by decide +kernel
def F_X8_hears  (S : Sg) (a1 : Int32) (a2 : Int32) : Option (Int32 × Sg) := bd (F_X8_areTwo S a1 a2) (fun x2 => if x2 = 0 then (some ((-1 : Int32), S)) else (chk (inB a1 7) (bd (F_X6_comesTo 0 S (S.1 (sb 0 + 4) a1.toNatClampNeg) a2) (fun x5 => nm (wI S 0 10 x5) (fun S6 => bd (F_X6_isHeardBy 0 S6 a1 a2) (fun x8 => if x8 = 0 then (some ((0 : Int32), S6)) else (some ((1 : Int32), S6))))))))
set_option maxHeartbeats 4000000 in
set_option maxRecDepth 100000 in
theorem c_X8_hears (l : Launch) (G : Gp) (hI : Gd G)  {S : Sg} {a1 : Int32} {a2 : Int32} {r : Int32} {S1 : Sg} (hF : F_X8_hears S a1 a2 = some (r, S1)) : Met l yX8_hears wsX8_hears rm_X8_hears (va_Pc [.ref (G.2.1 0), .int a1, .int a2] (PreW (wC G) S)) (va_Qi (fun r' u => r' = r ∧ u = S1) (PostW (wC G)) (AW (wC G))) 0 0 (AW (wC G)) := by
  rw [F_X8_hears] at hF
  refine met_i (cc := cX8_hears) (maxL := 3) (own := RX8) hI.1 (by decide) rfl rfl (Nat.le_of_ble_eq_true rfl) (fun X O hR => ?_)
  show Go X l rm_X8_hears (wC G) 3 0 [(0, .ref (G.2.1 0)), (1, .int a1), (2, .int a2)] [] S
  refine go_aload_n O dX8_hears_0 rfl 0 rfl ?_
  refine go_iload_n O dX8_hears_1 rfl 1 rfl ?_
  refine go_iload_n O dX8_hears_2 rfl 2 rfl ?_
  obtain ⟨x2, hA1, hF⟩ := bd_s hF
  refine go_callVi (As := [.int a1, .int a2]) (rest := []) (b := 0) O (c_X8_areTwo l G hI hA1) (fun s args hts => cwV 2 hts gX8_hears_X8_areTwo rfl rfl rfl (by decide +kernel) ⟨Nat.le_of_ble_eq_true rfl, Nat.le_of_ble_eq_true rfl⟩) (lt9 hI (by decide : (0 : Nat) < 99)) (cv_pw G (S.1 0) (S.2 0)) rfl rfl rfl rfl (Nat.le_of_ble_eq_true rfl) dX8_hears_3 ?_
  refine go_if_ne (tgt := 11) O dX8_hears_6 (by decide) (fun hc10 => ?_) (fun hc10 => ?_)
  · replace hF := it_f hc10 hF
    refine go_aload_n O dX8_hears_11 rfl 0 rfl ?_
    refine go_aload_n O dX8_hears_12 rfl 0 rfl ?_
    refine go_get (k := 0) (j := 2) O (lt9 hI (by decide : (0 : Nat) < 99)) (cv_pw G (S.1 0) (S.2 0)) rfl in_X8_hears_X8 (by decide) fl_X8_hears_24 rfl rfl dX8_hears_13 ?_
    refine go_aload_n O dX8_hears_16 rfl 0 rfl ?_
    refine go_get (k := 0) (j := 2) O (lt9 hI (by decide : (0 : Nat) < 99)) (cv_pw G (S.1 0) (S.2 0)) rfl in_X8_hears_X8 (by decide) fl_X8_hears_24 rfl rfl dX8_hears_17 ?_
    refine go_get (k := (sb 0)) (j := 3) O (lt9 hI (sb_lt0 (by decide : (0 : Nat) < 5))) (cv_st G (by decide : (0 : Nat) < 5) (S.1 (sb 0)) (S.2 (sb 0))) rfl in_X8_hears_X6 (by decide) fl_X8_hears_177 rfl rfl dX8_hears_20 ?_
    refine go_iload_n O dX8_hears_23 rfl 1 rfl ?_
    obtain ⟨hb3, hF⟩ := chk_s hF
    refine go_iald (k := (sb 0 + 4)) O (lt9 hI (sb_lt (by decide : (0 : Nat) < 5) (by decide : 4 < 13))) (cv_sta4 G (by decide : (0 : Nat) < 5) (S.1 (sb 0 + 4)) (S.2 (sb 0 + 4))) (inB_in hb3) dX8_hears_24 ?_
    refine go_iload_n O dX8_hears_25 rfl 2 rfl ?_
    obtain ⟨x5, hA4, hF⟩ := bd_s hF
    refine go_callVi (As := [.int (S.1 (sb 0 + 4) a1.toNatClampNeg), .int a2]) (rest := [.ref (G.2.1 0)]) (b := (sb 0)) O (c_X6_comesTo l G hI (by decide : (0 : Nat) < 5) hA4) (fun s args hts => cwV 2 hts gX8_hears_X6_comesTo rfl rfl rfl (by decide +kernel) ⟨Nat.le_of_ble_eq_true rfl, Nat.le_of_ble_eq_true rfl⟩) (lt9 hI (sb_lt0 (by decide : (0 : Nat) < 5))) (cv_st G (by decide : (0 : Nat) < 5) (S.1 (sb 0)) (S.2 (sb 0))) rfl rfl rfl rfl (Nat.le_of_ble_eq_true rfl) dX8_hears_26 ?_
    obtain ⟨S6, eS6, hF⟩ := nm_s hF
    refine go_putI (k := 0) (j := 10) O (lt9 hI (by decide : (0 : Nat) < 99)) (cv_pw G (S.1 0) (S.2 0)) rfl in_X8_hears_X8 (by decide) fl_X8_hears_92 rfl tyX8 tyX8_ok nmX8 rfl (by decide +kernel) (Nat.le_of_ble_eq_true rfl) (cv_pw G (upd (S.1 0) 10 x5) (S.2 0)) dX8_hears_29 eS6 ?_
    refine go_aload_n O dX8_hears_32 rfl 0 rfl ?_
    refine go_get (k := 0) (j := 2) O (lt9 hI (by decide : (0 : Nat) < 99)) (cv_pw G (S6.1 0) (S6.2 0)) rfl in_X8_hears_X8 (by decide) fl_X8_hears_24 rfl rfl dX8_hears_33 ?_
    refine go_iload_n O dX8_hears_36 rfl 1 rfl ?_
    refine go_iload_n O dX8_hears_37 rfl 2 rfl ?_
    obtain ⟨x8, hA7, hF⟩ := bd_s hF
    refine go_callVi (As := [.int a1, .int a2]) (rest := []) (b := (sb 0)) O (c_X6_isHeardBy l G hI (by decide : (0 : Nat) < 5) hA7) (fun s args hts => cwV 2 hts gX8_hears_X6_isHeardBy rfl rfl rfl (by decide +kernel) ⟨Nat.le_of_ble_eq_true rfl, Nat.le_of_ble_eq_true rfl⟩) (lt9 hI (sb_lt0 (by decide : (0 : Nat) < 5))) (cv_st G (by decide : (0 : Nat) < 5) (S6.1 (sb 0)) (S6.2 (sb 0))) rfl rfl rfl rfl (Nat.le_of_ble_eq_true rfl) dX8_hears_38 ?_
    refine go_if_eq (tgt := 48) O dX8_hears_41 (by decide) (fun hc9 => ?_) (fun hc9 => ?_)
    · replace hF := it_t hc9 hF
      refine go_iconst (v := (0 : Int32)) O dX8_hears_48 (by decide) ?_
      exact ret_wi hF (hR _ _ dX8_hears_49)
    · replace hF := it_f hc9 hF
      refine go_iconst (v := (1 : Int32)) O dX8_hears_44 (by decide) ?_
      refine go_goto (tgt := 49) O dX8_hears_45 (by decide) ?_
      exact ret_wi hF (hR _ _ dX8_hears_49)
  · replace hF := it_t hc10 hF
    refine go_iconst (v := (-1 : Int32)) O dX8_hears_9 (by decide) ?_
    exact ret_wi hF (hR _ _ dX8_hears_10)
-- X8_isSet
def rm_X8_isSet : Room := { frames := 1, cells := 0, slots := 0, locals := 20 }
theorem fl_X8_isSet_24 : Cond.fieldLink RX8 24 "PaperWalls" "now" "LPaperWalls$Street;" ∈ wsX8_isSet := by decide +kernel
theorem in_X8_isSet_X8 : ∀ x ∈ u_ws RX8 TX8 12, x ∈ wsX8_isSet := by decide +kernel
def F_X8_isSet  (S : Sg) (a1 : Int32) : Option Int32 := if a1 < 0 then (some (0 : Int32)) else (bd (F_X6_everyone 0 S) (fun x2 => if x2 < a1 then (some (0 : Int32)) else (some (1 : Int32))))
set_option maxHeartbeats 4000000 in
set_option maxRecDepth 100000 in
theorem c_X8_isSet (l : Launch) (G : Gp) (hI : Gd G)  {S : Sg} {a1 : Int32} {r : Int32} (hF : F_X8_isSet S a1 = some r) : Met l yX8_isSet wsX8_isSet rm_X8_isSet (va_Pc [.ref (G.2.1 0), .int a1] (PreW (wC G) S)) (va_Qi (fun r' u => r' = r ∧ u = S) (PostW (wC G)) (AW (wC G))) 0 0 (AW (wC G)) := by
  rw [F_X8_isSet] at hF
  refine met_z (cc := cX8_isSet) (maxL := 2) (own := RX8) hI.1 (by decide) rfl rfl (Nat.le_of_ble_eq_true rfl) (fun X O hR => ?_)
  show Go X l rm_X8_isSet (wC G) 2 0 [(0, .ref (G.2.1 0)), (1, .int a1)] [] S
  refine go_iload_n O dX8_isSet_0 rfl 1 rfl ?_
  refine go_if_lt (tgt := 19) O dX8_isSet_1 (by decide) (fun hc4 => ?_) (fun hc4 => ?_)
  · replace hF := it_t hc4 hF
    refine go_iconst (v := (0 : Int32)) O dX8_isSet_19 (by decide) ?_
    exact ret_z hF (fun hz => hR _ _ hz dX8_isSet_20) (show vp_nar .boolean (0 : Int32) = (0 : Int32) by decide)
  · replace hF := it_f hc4 hF
    refine go_iload_n O dX8_isSet_4 rfl 1 rfl ?_
    refine go_aload_n O dX8_isSet_5 rfl 0 rfl ?_
    refine go_get (k := 0) (j := 2) O (lt9 hI (by decide : (0 : Nat) < 99)) (cv_pw G (S.1 0) (S.2 0)) rfl in_X8_isSet_X8 (by decide) fl_X8_isSet_24 rfl rfl dX8_isSet_6 ?_
    obtain ⟨x2, hA1, hF⟩ := bd_s hF
    refine go_callVi (As := []) (rest := [.int a1]) (b := (sb 0)) O (c_X6_everyone l G hI (by decide : (0 : Nat) < 5) hA1) (fun s args hts => cwV 0 hts gX8_isSet_X6_everyone rfl rfl rfl (by decide +kernel) ⟨Nat.le_of_ble_eq_true rfl, Nat.le_of_ble_eq_true rfl⟩) (lt9 hI (sb_lt0 (by decide : (0 : Nat) < 5))) (cv_st G (by decide : (0 : Nat) < 5) (S.1 (sb 0)) (S.2 (sb 0))) rfl rfl rfl rfl (Nat.le_of_ble_eq_true rfl) dX8_isSet_9 ?_
    refine go_icmp_gt (tgt := 19) O dX8_isSet_12 (by decide) (fun hc3 => ?_) (fun hc3 => ?_)
    · replace hF := it_t hc3 hF
      refine go_iconst (v := (0 : Int32)) O dX8_isSet_19 (by decide) ?_
      exact ret_z hF (fun hz => hR _ _ hz dX8_isSet_20) (show vp_nar .boolean (0 : Int32) = (0 : Int32) by decide)
    · replace hF := it_f hc3 hF
      refine go_iconst (v := (1 : Int32)) O dX8_isSet_15 (by decide) ?_
      refine go_goto (tgt := 20) O dX8_isSet_16 (by decide) ?_
      exact ret_z hF (fun hz => hR _ _ hz dX8_isSet_20) (show vp_nar .boolean (1 : Int32) = (1 : Int32) by decide)
-- X8_heard
def rm_X8_heard : Room := { frames := 4, cells := 0, slots := 0, locals := 117 }
theorem fl_X8_heard_24 : Cond.fieldLink RX8 24 "PaperWalls" "now" "LPaperWalls$Street;" ∈ wsX8_heard := by decide +kernel
theorem in_X8_heard_X8 : ∀ x ∈ u_ws RX8 TX8 12, x ∈ wsX8_heard := by decide +kernel
def F_X8_heard  (S : Sg) (a1 : Int32) (a2 : Int32) : Option Int32 := bd (F_X8_isOne S a1) (fun x2 => if x2 = 0 then (some (-1 : Int32)) else (bd (F_X8_isSet S a2) (fun x4 => if x4 = 0 then (some (-1 : Int32)) else (if ((a2 >>> (a1 &&& 31)) &&& (1 : Int32)) = 0 then (bd (F_X6_whoHear 0 S a1 a2) (fun x6 => some x6)) else (some (-1 : Int32))))))
set_option maxHeartbeats 4000000 in
set_option maxRecDepth 100000 in
theorem c_X8_heard (l : Launch) (G : Gp) (hI : Gd G)  {S : Sg} {a1 : Int32} {a2 : Int32} {r : Int32} (hF : F_X8_heard S a1 a2 = some r) : Met l yX8_heard wsX8_heard rm_X8_heard (va_Pc [.ref (G.2.1 0), .int a1, .int a2] (PreW (wC G) S)) (va_Qi (fun r' u => r' = r ∧ u = S) (PostW (wC G)) (AW (wC G))) 0 0 (AW (wC G)) := by
  rw [F_X8_heard] at hF
  refine met_i (cc := cX8_heard) (maxL := 3) (own := RX8) hI.1 (by decide) rfl rfl (Nat.le_of_ble_eq_true rfl) (fun X O hR => ?_)
  show Go X l rm_X8_heard (wC G) 3 0 [(0, .ref (G.2.1 0)), (1, .int a1), (2, .int a2)] [] S
  refine go_aload_n O dX8_heard_0 rfl 0 rfl ?_
  refine go_iload_n O dX8_heard_1 rfl 1 rfl ?_
  obtain ⟨x2, hA1, hF⟩ := bd_s hF
  refine go_callVi (As := [.int a1]) (rest := []) (b := 0) O (c_X8_isOne l G hI hA1) (fun s args hts => cwV 1 hts gX8_heard_X8_isOne rfl rfl rfl (by decide +kernel) ⟨Nat.le_of_ble_eq_true rfl, Nat.le_of_ble_eq_true rfl⟩) (lt9 hI (by decide : (0 : Nat) < 99)) (cv_pw G (S.1 0) (S.2 0)) rfl rfl rfl rfl (Nat.le_of_ble_eq_true rfl) dX8_heard_2 ?_
  refine go_if_eq (tgt := 24) O dX8_heard_5 (by decide) (fun hc9 => ?_) (fun hc9 => ?_)
  · replace hF := it_t hc9 hF
    refine go_iconst (v := (-1 : Int32)) O dX8_heard_24 (by decide) ?_
    exact ret_i hF (hR _ _ dX8_heard_25)
  · replace hF := it_f hc9 hF
    refine go_aload_n O dX8_heard_8 rfl 0 rfl ?_
    refine go_iload_n O dX8_heard_9 rfl 2 rfl ?_
    obtain ⟨x4, hA3, hF⟩ := bd_s hF
    refine go_callVi (As := [.int a2]) (rest := []) (b := 0) O (c_X8_isSet l G hI hA3) (fun s args hts => cwV 1 hts gX8_heard_X8_isSet rfl rfl rfl (by decide +kernel) ⟨Nat.le_of_ble_eq_true rfl, Nat.le_of_ble_eq_true rfl⟩) (lt9 hI (by decide : (0 : Nat) < 99)) (cv_pw G (S.1 0) (S.2 0)) rfl rfl rfl rfl (Nat.le_of_ble_eq_true rfl) dX8_heard_10 ?_
    refine go_if_eq (tgt := 24) O dX8_heard_13 (by decide) (fun hc8 => ?_) (fun hc8 => ?_)
    · replace hF := it_t hc8 hF
      refine go_iconst (v := (-1 : Int32)) O dX8_heard_24 (by decide) ?_
      exact ret_i hF (hR _ _ dX8_heard_25)
    · replace hF := it_f hc8 hF
      refine go_iload_n O dX8_heard_16 rfl 2 rfl ?_
      refine go_iload_n O dX8_heard_17 rfl 1 rfl ?_
      refine go_ishr O dX8_heard_18 ?_
      refine go_iconst (v := (1 : Int32)) O dX8_heard_19 (by decide) ?_
      refine go_iand O dX8_heard_20 ?_
      refine go_if_eq (tgt := 26) O dX8_heard_21 (by decide) (fun hc7 => ?_) (fun hc7 => ?_)
      · replace hF := it_t hc7 hF
        refine go_aload_n O dX8_heard_26 rfl 0 rfl ?_
        refine go_get (k := 0) (j := 2) O (lt9 hI (by decide : (0 : Nat) < 99)) (cv_pw G (S.1 0) (S.2 0)) rfl in_X8_heard_X8 (by decide) fl_X8_heard_24 rfl rfl dX8_heard_27 ?_
        refine go_iload_n O dX8_heard_30 rfl 1 rfl ?_
        refine go_iload_n O dX8_heard_31 rfl 2 rfl ?_
        obtain ⟨x6, hA5, hF⟩ := bd_s hF
        refine go_callVi (As := [.int a1, .int a2]) (rest := []) (b := (sb 0)) O (c_X6_whoHear l G hI (by decide : (0 : Nat) < 5) hA5) (fun s args hts => cwV 2 hts gX8_heard_X6_whoHear rfl rfl rfl (by decide +kernel) ⟨Nat.le_of_ble_eq_true rfl, Nat.le_of_ble_eq_true rfl⟩) (lt9 hI (sb_lt0 (by decide : (0 : Nat) < 5))) (cv_st G (by decide : (0 : Nat) < 5) (S.1 (sb 0)) (S.2 (sb 0))) rfl rfl rfl rfl (Nat.le_of_ble_eq_true rfl) dX8_heard_32 ?_
        exact ret_i hF (hR _ _ dX8_heard_35)
      · replace hF := it_f hc7 hF
        refine go_iconst (v := (-1 : Int32)) O dX8_heard_24 (by decide) ?_
        exact ret_i hF (hR _ _ dX8_heard_25)
-- X8_isFewer
def rm_X8_isFewer : Room := { frames := 1, cells := 0, slots := 0, locals := 20 }
def F_X8_isFewer  (S : Sg) (a0 : Int32) (a1 : Int32) : Option Int32 := if a1 = (-9 : Int32) then (some (1 : Int32)) else (bd (F_J6_bitCount_0f7a4 S a0) (fun x2 => bd (F_J6_bitCount_0f7a4 S a1) (fun x4 => if x4 ≤ x2 then (some (0 : Int32)) else (some (1 : Int32)))))
set_option maxHeartbeats 4000000 in
set_option maxRecDepth 100000 in
theorem c_X8_isFewer (l : Launch) (G : Gp) (hI : Gd G)  {S : Sg} {a0 : Int32} {a1 : Int32} {r : Int32} (hF : F_X8_isFewer S a0 a1 = some r) : Met l yX8_isFewer wsX8_isFewer rm_X8_isFewer (va_Pc [.int a0, .int a1] (PreW (wC G) S)) (va_Qi (fun r' u => r' = r ∧ u = S) (PostW (wC G)) (AW (wC G))) 0 0 (AW (wC G)) := by
  rw [F_X8_isFewer] at hF
  refine met_z (cc := cX8_isFewer) (maxL := 2) (own := RX8) hI.1 (by decide) rfl rfl (Nat.le_of_ble_eq_true rfl) (fun X O hR => ?_)
  show Go X l rm_X8_isFewer (wC G) 2 0 [(0, .int a0), (1, .int a1)] [] S
  refine go_iload_n O dX8_isFewer_0 rfl 1 rfl ?_
  refine go_bipush (v := (-9 : Int32)) O dX8_isFewer_1 (by decide) ?_
  refine go_icmp_eq (tgt := 17) O dX8_isFewer_3 (by decide) (fun hc6 => ?_) (fun hc6 => ?_)
  · replace hF := it_t hc6 hF
    refine go_iconst (v := (1 : Int32)) O dX8_isFewer_17 (by decide) ?_
    refine go_goto (tgt := 22) O dX8_isFewer_18 (by decide) ?_
    exact ret_z hF (fun hz => hR _ _ hz dX8_isFewer_22) (show vp_nar .boolean (1 : Int32) = (1 : Int32) by decide)
  · replace hF := it_f hc6 hF
    refine go_iload_n O dX8_isFewer_6 rfl 0 rfl ?_
    obtain ⟨x2, hA1, hF⟩ := bd_s hF
    refine go_callSi (As := [.int a0]) (rest := []) O (c_J6_bitCount_0f7a4 l G hI hA1) (fun s args hts => va_cwS 1 hts gX8_isFewer_J6_bitCount_0f7a4 rfl rfl rfl (by decide +kernel) ⟨Nat.le_of_ble_eq_true rfl, Nat.le_of_ble_eq_true rfl⟩) rfl rfl (Nat.le_of_ble_eq_true rfl) dX8_isFewer_7 ?_
    refine go_iload_n O dX8_isFewer_10 rfl 1 rfl ?_
    obtain ⟨x4, hA3, hF⟩ := bd_s hF
    refine go_callSi (As := [.int a1]) (rest := [.int x2]) O (c_J6_bitCount_0f7a4 l G hI hA3) (fun s args hts => va_cwS 1 hts gX8_isFewer_J6_bitCount_0f7a4 rfl rfl rfl (by decide +kernel) ⟨Nat.le_of_ble_eq_true rfl, Nat.le_of_ble_eq_true rfl⟩) rfl rfl (Nat.le_of_ble_eq_true rfl) dX8_isFewer_11 ?_
    refine go_icmp_ge (tgt := 21) O dX8_isFewer_14 (by decide) (fun hc5 => ?_) (fun hc5 => ?_)
    · replace hF := it_t hc5 hF
      refine go_iconst (v := (0 : Int32)) O dX8_isFewer_21 (by decide) ?_
      exact ret_z hF (fun hz => hR _ _ hz dX8_isFewer_22) (show vp_nar .boolean (0 : Int32) = (0 : Int32) by decide)
    · replace hF := it_f hc5 hF
      refine go_iconst (v := (1 : Int32)) O dX8_isFewer_17 (by decide) ?_
      refine go_goto (tgt := 22) O dX8_isFewer_18 (by decide) ?_
      exact ret_z hF (fun hz => hR _ _ hz dX8_isFewer_22) (show vp_nar .boolean (1 : Int32) = (1 : Int32) by decide)
-- X8_tellSet
def rm_X8_tellSet : Room := { frames := 1, cells := 0, slots := 0, locals := 20 }
theorem fl_X8_tellSet_92 : Cond.fieldLink RX8 92 "PaperWalls" "told" "I" ∈ wsX8_tellSet := by decide +kernel
theorem in_X8_tellSet_X8 : ∀ x ∈ u_ws RX8 TX8 12, x ∈ wsX8_tellSet := by decide +kernel
def F_X8_tellSet  (S : Sg) (a1 : Int32) : Option (Int32 × Sg) := if a1 = (-9 : Int32) then (some ((-9 : Int32), S)) else (nm (wI S 0 10 a1) (fun S1 => bd (F_J6_bitCount_0f7a4 S1 a1) (fun x3 => some (x3, S1))))
set_option maxHeartbeats 4000000 in
set_option maxRecDepth 100000 in
theorem c_X8_tellSet (l : Launch) (G : Gp) (hI : Gd G)  {S : Sg} {a1 : Int32} {r : Int32} {S1 : Sg} (hF : F_X8_tellSet S a1 = some (r, S1)) : Met l yX8_tellSet wsX8_tellSet rm_X8_tellSet (va_Pc [.ref (G.2.1 0), .int a1] (PreW (wC G) S)) (va_Qi (fun r' u => r' = r ∧ u = S1) (PostW (wC G)) (AW (wC G))) 0 0 (AW (wC G)) := by
  rw [F_X8_tellSet] at hF
  refine met_i (cc := cX8_tellSet) (maxL := 2) (own := RX8) hI.1 (by decide) rfl rfl (Nat.le_of_ble_eq_true rfl) (fun X O hR => ?_)
  show Go X l rm_X8_tellSet (wC G) 2 0 [(0, .ref (G.2.1 0)), (1, .int a1)] [] S
  refine go_iload_n O dX8_tellSet_0 rfl 1 rfl ?_
  refine go_bipush (v := (-9 : Int32)) O dX8_tellSet_1 (by decide) ?_
  refine go_icmp_ne (tgt := 9) O dX8_tellSet_3 (by decide) (fun hc4 => ?_) (fun hc4 => ?_)
  · replace hF := it_f hc4 hF
    refine go_aload_n O dX8_tellSet_9 rfl 0 rfl ?_
    refine go_iload_n O dX8_tellSet_10 rfl 1 rfl ?_
    obtain ⟨S1, eS1, hF⟩ := nm_s hF
    refine go_putI (k := 0) (j := 10) O (lt9 hI (by decide : (0 : Nat) < 99)) (cv_pw G (S.1 0) (S.2 0)) rfl in_X8_tellSet_X8 (by decide) fl_X8_tellSet_92 rfl tyX8 tyX8_ok nmX8 rfl (by decide +kernel) (Nat.le_of_ble_eq_true rfl) (cv_pw G (upd (S.1 0) 10 a1) (S.2 0)) dX8_tellSet_11 eS1 ?_
    refine go_iload_n O dX8_tellSet_14 rfl 1 rfl ?_
    obtain ⟨x3, hA2, hF⟩ := bd_s hF
    refine go_callSi (As := [.int a1]) (rest := []) O (c_J6_bitCount_0f7a4 l G hI hA2) (fun s args hts => va_cwS 1 hts gX8_tellSet_J6_bitCount_0f7a4 rfl rfl rfl (by decide +kernel) ⟨Nat.le_of_ble_eq_true rfl, Nat.le_of_ble_eq_true rfl⟩) rfl rfl (Nat.le_of_ble_eq_true rfl) dX8_tellSet_15 ?_
    exact ret_wi hF (hR _ _ dX8_tellSet_18)
  · replace hF := it_t hc4 hF
    refine go_bipush (v := (-9 : Int32)) O dX8_tellSet_6 (by decide) ?_
    exact ret_wi hF (hR _ _ dX8_tellSet_8)
-- X8_hush
def rm_X8_hush : Room := { frames := 4, cells := 0, slots := 0, locals := 117 }
theorem fl_X8_hush_24 : Cond.fieldLink RX8 24 "PaperWalls" "now" "LPaperWalls$Street;" ∈ wsX8_hush := by decide +kernel
theorem in_X8_hush_X8 : ∀ x ∈ u_ws RX8 TX8 12, x ∈ wsX8_hush := by decide +kernel
def T_X8_hush_15  (S : Sg) (p1 : Int32) : Nat → Int32 → Int32 → Option (Int32)
  | 0, _, _ => none
  | n + 1, p2, p3 => bd (F_X6_everyone 0 S) (fun x5 => if x5 < p3 then (some p2) else (bd (if ((p3 >>> (p1 &&& 31)) &&& (1 : Int32)) = 0 then (bd (F_X8_isFewer S p3 p2) (fun x10 => if x10 = 0 then (some p2) else (bd (F_X6_whoHear 0 S p1 p3) (fun x12 => if x12 = 0 then (some p3) else (some p2))))) else (some p2)) (fun x6 => T_X8_hush_15 S p1 n x6 (p3 + (1 : Int32)))))
set_option maxHeartbeats 4000000 in
set_option maxRecDepth 100000 in
theorem lt_X8_hush_15 {X : XT} (l : Launch) (G : Gp) (hI : Gd G)  {S : Sg} {p1 : Int32} (O : Ok X (wC G) cX8_hush RX8 wsX8_hush 4) : ∀ (n : Nat) (p2 : Int32) (p3 : Int32)  (q : (Int32)), T_X8_hush_15 S p1 n p2 p3  = some q → (Go X l rm_X8_hush (wC G) 4 62 [(0, .ref (G.2.1 0)), (2, .int q)] [] S) → Go X l rm_X8_hush (wC G) 4 15 [(0, .ref (G.2.1 0)), (1, .int p1), (2, .int p2), (3, .int p3)] [] S := by
  intro n
  induction n with
  | zero =>
    intro p2 p3  q hF
    cases hF
  | succ n ih =>
    intro p2 p3  q hF hE
    rw [T_X8_hush_15] at hF
    refine go_iload_n O dX8_hush_15 rfl 3 rfl ?_
    refine go_aload_n O dX8_hush_16 rfl 0 rfl ?_
    refine go_get (k := 0) (j := 2) O (lt9 hI (by decide : (0 : Nat) < 99)) (cv_pw G (S.1 0) (S.2 0)) rfl in_X8_hush_X8 (by decide) fl_X8_hush_24 rfl rfl dX8_hush_17 ?_
    obtain ⟨x5, hA4, hF⟩ := bd_s hF
    refine go_callVi (As := []) (rest := [.int p3]) (b := (sb 0)) O (c_X6_everyone l G hI (by decide : (0 : Nat) < 5) hA4) (fun s args hts => cwV 0 hts gX8_hush_X6_everyone rfl rfl rfl (by decide +kernel) ⟨Nat.le_of_ble_eq_true rfl, Nat.le_of_ble_eq_true rfl⟩) (lt9 hI (sb_lt0 (by decide : (0 : Nat) < 5))) (cv_st G (by decide : (0 : Nat) < 5) (S.1 (sb 0)) (S.2 (sb 0))) rfl rfl rfl rfl (Nat.le_of_ble_eq_true rfl) dX8_hush_20 ?_
    refine go_icmp_gt (tgt := 62) O dX8_hush_23 (by decide) (fun hc16 => ?_) (fun hc16 => ?_)
    · replace hF := it_t hc16 hF
      refine go_perm (ls' := [(0, .ref (G.2.1 0)), (2, .int p2)]) [0, 2] rfl ?_
      exact jn (P := fun q => Go X l rm_X8_hush (wC G) 4 62 [(0, .ref (G.2.1 0)), (2, .int q)] [] S) hF hE
    · replace hF := it_f hc16 hF
      refine go_iload_n O dX8_hush_26 rfl 3 rfl ?_
      refine go_iload_n O dX8_hush_27 rfl 1 rfl ?_
      refine go_ishr O dX8_hush_28 ?_
      refine go_iconst (v := (1 : Int32)) O dX8_hush_29 (by decide) ?_
      refine go_iand O dX8_hush_30 ?_
      obtain ⟨x6, hA8, hF⟩ := bd_s hF
      have J7 : Go X l rm_X8_hush (wC G) 4 56 [(0, .ref (G.2.1 0)), (1, .int p1), (2, .int x6), (3, .int p3)] [] S := by
        refine go_iinc (d := (1 : Int32)) (ls' := [(3, .int (p3 + (1 : Int32))), (0, .ref (G.2.1 0)), (1, .int p1), (2, .int x6)]) O dX8_hush_56 3 rfl (by decide) (by decide) rfl ?_
        refine go_goto (tgt := 15) O dX8_hush_59 (by decide) ?_
        refine go_perm (ls' := [(0, .ref (G.2.1 0)), (1, .int p1), (2, .int x6), (3, .int (p3 + (1 : Int32)))]) [1, 2, 3, 0] rfl ?_
        exact ih _ _ _ hF hE
      replace hF := hA8
      refine go_if_ne (tgt := 56) O dX8_hush_31 (by decide) (fun hc15 => ?_) (fun hc15 => ?_)
      · replace hF := it_f hc15 hF
        exact jn (P := fun q => Go X l rm_X8_hush (wC G) 4 56 [(0, .ref (G.2.1 0)), (1, .int p1), (2, .int q), (3, .int p3)] [] S) hF J7
      · replace hF := it_t hc15 hF
        refine go_iload_n O dX8_hush_34 rfl 3 rfl ?_
        refine go_iload_n O dX8_hush_35 rfl 2 rfl ?_
        obtain ⟨x10, hA9, hF⟩ := bd_s hF
        refine go_callSi (As := [.int p3, .int p2]) (rest := []) O (c_X8_isFewer l G hI hA9) (fun s args hts => va_cwS 2 hts gX8_hush_X8_isFewer rfl rfl rfl (by decide +kernel) ⟨Nat.le_of_ble_eq_true rfl, Nat.le_of_ble_eq_true rfl⟩) rfl rfl (Nat.le_of_ble_eq_true rfl) dX8_hush_36 ?_
        refine go_if_eq (tgt := 56) O dX8_hush_39 (by decide) (fun hc14 => ?_) (fun hc14 => ?_)
        · replace hF := it_t hc14 hF
          exact jn (P := fun q => Go X l rm_X8_hush (wC G) 4 56 [(0, .ref (G.2.1 0)), (1, .int p1), (2, .int q), (3, .int p3)] [] S) hF J7
        · replace hF := it_f hc14 hF
          refine go_aload_n O dX8_hush_42 rfl 0 rfl ?_
          refine go_get (k := 0) (j := 2) O (lt9 hI (by decide : (0 : Nat) < 99)) (cv_pw G (S.1 0) (S.2 0)) rfl in_X8_hush_X8 (by decide) fl_X8_hush_24 rfl rfl dX8_hush_43 ?_
          refine go_iload_n O dX8_hush_46 rfl 1 rfl ?_
          refine go_iload_n O dX8_hush_47 rfl 3 rfl ?_
          obtain ⟨x12, hA11, hF⟩ := bd_s hF
          refine go_callVi (As := [.int p1, .int p3]) (rest := []) (b := (sb 0)) O (c_X6_whoHear l G hI (by decide : (0 : Nat) < 5) hA11) (fun s args hts => cwV 2 hts gX8_hush_X6_whoHear rfl rfl rfl (by decide +kernel) ⟨Nat.le_of_ble_eq_true rfl, Nat.le_of_ble_eq_true rfl⟩) (lt9 hI (sb_lt0 (by decide : (0 : Nat) < 5))) (cv_st G (by decide : (0 : Nat) < 5) (S.1 (sb 0)) (S.2 (sb 0))) rfl rfl rfl rfl (Nat.le_of_ble_eq_true rfl) dX8_hush_48 ?_
          refine go_if_ne (tgt := 56) O dX8_hush_51 (by decide) (fun hc13 => ?_) (fun hc13 => ?_)
          · replace hF := it_f hc13 hF
            exact jn (P := fun q => Go X l rm_X8_hush (wC G) 4 56 [(0, .ref (G.2.1 0)), (1, .int p1), (2, .int q), (3, .int p3)] [] S) hF J7
          · replace hF := it_t hc13 hF
            refine go_iload_n O dX8_hush_54 rfl 3 rfl ?_
            refine go_istore_n (ls' := [(2, .int p3), (0, .ref (G.2.1 0)), (1, .int p1), (3, .int p3)]) O dX8_hush_55 rfl (by decide) rfl ?_
            refine go_perm (ls' := [(0, .ref (G.2.1 0)), (1, .int p1), (2, .int p3), (3, .int p3)]) [1, 2, 0, 3] rfl ?_
            exact jn (P := fun q => Go X l rm_X8_hush (wC G) 4 56 [(0, .ref (G.2.1 0)), (1, .int p1), (2, .int q), (3, .int p3)] [] S) hF J7
def F_X8_hush  (S : Sg) (a1 : Int32) : Option (Int32 × Sg) := bd (F_X8_isOne S a1) (fun x2 => if x2 = 0 then (some ((-1 : Int32), S)) else (bd (T_X8_hush_15 S a1 FU (-9 : Int32) (0 : Int32)) (fun x3 => bd (F_X8_tellSet S x3) (fun (x19, S20) => some (x19, S20)))))
set_option maxHeartbeats 4000000 in
set_option maxRecDepth 100000 in
theorem c_X8_hush (l : Launch) (G : Gp) (hI : Gd G)  {S : Sg} {a1 : Int32} {r : Int32} {S1 : Sg} (hF : F_X8_hush S a1 = some (r, S1)) : Met l yX8_hush wsX8_hush rm_X8_hush (va_Pc [.ref (G.2.1 0), .int a1] (PreW (wC G) S)) (va_Qi (fun r' u => r' = r ∧ u = S1) (PostW (wC G)) (AW (wC G))) 0 0 (AW (wC G)) := by
  rw [F_X8_hush] at hF
  refine met_i (cc := cX8_hush) (maxL := 4) (own := RX8) hI.1 (by decide) rfl rfl (Nat.le_of_ble_eq_true rfl) (fun X O hR => ?_)
  show Go X l rm_X8_hush (wC G) 4 0 [(0, .ref (G.2.1 0)), (1, .int a1)] [] S
  refine go_aload_n O dX8_hush_0 rfl 0 rfl ?_
  refine go_iload_n O dX8_hush_1 rfl 1 rfl ?_
  obtain ⟨x2, hA1, hF⟩ := bd_s hF
  refine go_callVi (As := [.int a1]) (rest := []) (b := 0) O (c_X8_isOne l G hI hA1) (fun s args hts => cwV 1 hts gX8_hush_X8_isOne rfl rfl rfl (by decide +kernel) ⟨Nat.le_of_ble_eq_true rfl, Nat.le_of_ble_eq_true rfl⟩) (lt9 hI (by decide : (0 : Nat) < 99)) (cv_pw G (S.1 0) (S.2 0)) rfl rfl rfl rfl (Nat.le_of_ble_eq_true rfl) dX8_hush_2 ?_
  refine go_if_ne (tgt := 10) O dX8_hush_5 (by decide) (fun hc21 => ?_) (fun hc21 => ?_)
  · replace hF := it_f hc21 hF
    refine go_bipush (v := (-9 : Int32)) O dX8_hush_10 (by decide) ?_
    refine go_istore_n (ls' := [(2, .int (-9 : Int32)), (0, .ref (G.2.1 0)), (1, .int a1)]) O dX8_hush_12 rfl (by decide) rfl ?_
    refine go_iconst (v := (0 : Int32)) O dX8_hush_13 (by decide) ?_
    refine go_istore_n (ls' := [(3, .int (0 : Int32)), (2, .int (-9 : Int32)), (0, .ref (G.2.1 0)), (1, .int a1)]) O dX8_hush_14 rfl (by decide) rfl ?_
    refine go_perm (ls' := [(0, .ref (G.2.1 0)), (1, .int a1), (2, .int (-9 : Int32)), (3, .int (0 : Int32))]) [2, 3, 1, 0] rfl ?_
    obtain ⟨x3, hA17, hF⟩ := bd_s hF
    refine lt_X8_hush_15 l G hI  O _ _ _ _ hA17 ?_
    refine go_aload_n O dX8_hush_62 rfl 0 rfl ?_
    refine go_iload_n O dX8_hush_63 rfl 1 rfl ?_
    obtain ⟨⟨x19, S20⟩, hA18, hF⟩ := bd_s hF
    refine go_callVi (As := [.int x3]) (rest := []) (b := 0) O (c_X8_tellSet l G hI hA18) (fun s args hts => cwV 1 hts gX8_hush_X8_tellSet rfl rfl rfl (by decide +kernel) ⟨Nat.le_of_ble_eq_true rfl, Nat.le_of_ble_eq_true rfl⟩) (lt9 hI (by decide : (0 : Nat) < 99)) (cv_pw G (S.1 0) (S.2 0)) rfl rfl rfl rfl (Nat.le_of_ble_eq_true rfl) dX8_hush_64 ?_
    exact ret_wi hF (hR _ _ dX8_hush_67)
  · replace hF := it_t hc21 hF
    refine go_iconst (v := (-1 : Int32)) O dX8_hush_8 (by decide) ?_
    exact ret_wi hF (hR _ _ dX8_hush_9)
-- X8_talk
def rm_X8_talk : Room := { frames := 2, cells := 0, slots := 0, locals := 43 }
theorem fl_X8_talk_24 : Cond.fieldLink RX8 24 "PaperWalls" "now" "LPaperWalls$Street;" ∈ wsX8_talk := by decide +kernel
theorem fl_X8_talk_202 : Cond.fieldLink RX8 202 "PaperWalls$Street" "talks" "I" ∈ wsX8_talk := by decide +kernel
theorem in_X8_talk_X6 : ∀ x ∈ u_ws RX6 TX6 11, x ∈ wsX8_talk := by decide +kernel
theorem in_X8_talk_X8 : ∀ x ∈ u_ws RX8 TX8 12, x ∈ wsX8_talk := by decide +kernel
def F_X8_talk  (S : Sg) (a1 : Int32) (a2 : Int32) (a3 : Int32) : Option (Int32 × Sg) := bd (F_X8_areTwo S a1 a2) (fun x2 => if x2 = 0 then (some ((-1 : Int32), S)) else (bd (F_X8_isSet S a3) (fun x4 => if x4 = 0 then (some ((-1 : Int32), S)) else (if ((a3 >>> (a1 &&& 31)) &&& (1 : Int32)) = 0 then (if ((a3 >>> (a2 &&& 31)) &&& (1 : Int32)) = 0 then (if (S.1 (sb 0) 10) < (8 : Int32) then (bd (F_X6_addTalk 0 S a1 a2 a3) (fun (x6, S7) => some (x6, S7))) else (some ((-2 : Int32), S))) else (some ((-1 : Int32), S))) else (some ((-1 : Int32), S))))))
set_option maxHeartbeats 4000000 in
set_option maxRecDepth 100000 in
theorem c_X8_talk (l : Launch) (G : Gp) (hI : Gd G)  {S : Sg} {a1 : Int32} {a2 : Int32} {a3 : Int32} {r : Int32} {S1 : Sg} (hF : F_X8_talk S a1 a2 a3 = some (r, S1)) : Met l yX8_talk wsX8_talk rm_X8_talk (va_Pc [.ref (G.2.1 0), .int a1, .int a2, .int a3] (PreW (wC G) S)) (va_Qi (fun r' u => r' = r ∧ u = S1) (PostW (wC G)) (AW (wC G))) 0 0 (AW (wC G)) := by
  rw [F_X8_talk] at hF
  refine met_i (cc := cX8_talk) (maxL := 4) (own := RX8) hI.1 (by decide) rfl rfl (Nat.le_of_ble_eq_true rfl) (fun X O hR => ?_)
  show Go X l rm_X8_talk (wC G) 4 0 [(0, .ref (G.2.1 0)), (1, .int a1), (2, .int a2), (3, .int a3)] [] S
  refine go_aload_n O dX8_talk_0 rfl 0 rfl ?_
  refine go_iload_n O dX8_talk_1 rfl 1 rfl ?_
  refine go_iload_n O dX8_talk_2 rfl 2 rfl ?_
  obtain ⟨x2, hA1, hF⟩ := bd_s hF
  refine go_callVi (As := [.int a1, .int a2]) (rest := []) (b := 0) O (c_X8_areTwo l G hI hA1) (fun s args hts => cwV 2 hts gX8_talk_X8_areTwo rfl rfl rfl (by decide +kernel) ⟨Nat.le_of_ble_eq_true rfl, Nat.le_of_ble_eq_true rfl⟩) (lt9 hI (by decide : (0 : Nat) < 99)) (cv_pw G (S.1 0) (S.2 0)) rfl rfl rfl rfl (Nat.le_of_ble_eq_true rfl) dX8_talk_3 ?_
  refine go_if_eq (tgt := 33) O dX8_talk_6 (by decide) (fun hc12 => ?_) (fun hc12 => ?_)
  · replace hF := it_t hc12 hF
    refine go_iconst (v := (-1 : Int32)) O dX8_talk_33 (by decide) ?_
    exact ret_wi hF (hR _ _ dX8_talk_34)
  · replace hF := it_f hc12 hF
    refine go_aload_n O dX8_talk_9 rfl 0 rfl ?_
    refine go_iload_n O dX8_talk_10 rfl 3 rfl ?_
    obtain ⟨x4, hA3, hF⟩ := bd_s hF
    refine go_callVi (As := [.int a3]) (rest := []) (b := 0) O (c_X8_isSet l G hI hA3) (fun s args hts => cwV 1 hts gX8_talk_X8_isSet rfl rfl rfl (by decide +kernel) ⟨Nat.le_of_ble_eq_true rfl, Nat.le_of_ble_eq_true rfl⟩) (lt9 hI (by decide : (0 : Nat) < 99)) (cv_pw G (S.1 0) (S.2 0)) rfl rfl rfl rfl (Nat.le_of_ble_eq_true rfl) dX8_talk_11 ?_
    refine go_if_eq (tgt := 33) O dX8_talk_14 (by decide) (fun hc11 => ?_) (fun hc11 => ?_)
    · replace hF := it_t hc11 hF
      refine go_iconst (v := (-1 : Int32)) O dX8_talk_33 (by decide) ?_
      exact ret_wi hF (hR _ _ dX8_talk_34)
    · replace hF := it_f hc11 hF
      refine go_iload_n O dX8_talk_17 rfl 3 rfl ?_
      refine go_iload_n O dX8_talk_18 rfl 1 rfl ?_
      refine go_ishr O dX8_talk_19 ?_
      refine go_iconst (v := (1 : Int32)) O dX8_talk_20 (by decide) ?_
      refine go_iand O dX8_talk_21 ?_
      refine go_if_ne (tgt := 33) O dX8_talk_22 (by decide) (fun hc10 => ?_) (fun hc10 => ?_)
      · replace hF := it_f hc10 hF
        refine go_iconst (v := (-1 : Int32)) O dX8_talk_33 (by decide) ?_
        exact ret_wi hF (hR _ _ dX8_talk_34)
      · replace hF := it_t hc10 hF
        refine go_iload_n O dX8_talk_25 rfl 3 rfl ?_
        refine go_iload_n O dX8_talk_26 rfl 2 rfl ?_
        refine go_ishr O dX8_talk_27 ?_
        refine go_iconst (v := (1 : Int32)) O dX8_talk_28 (by decide) ?_
        refine go_iand O dX8_talk_29 ?_
        refine go_if_eq (tgt := 35) O dX8_talk_30 (by decide) (fun hc9 => ?_) (fun hc9 => ?_)
        · replace hF := it_t hc9 hF
          refine go_aload_n O dX8_talk_35 rfl 0 rfl ?_
          refine go_get (k := 0) (j := 2) O (lt9 hI (by decide : (0 : Nat) < 99)) (cv_pw G (S.1 0) (S.2 0)) rfl in_X8_talk_X8 (by decide) fl_X8_talk_24 rfl rfl dX8_talk_36 ?_
          refine go_get (k := (sb 0)) (j := 10) O (lt9 hI (sb_lt0 (by decide : (0 : Nat) < 5))) (cv_st G (by decide : (0 : Nat) < 5) (S.1 (sb 0)) (S.2 (sb 0))) rfl in_X8_talk_X6 (by decide) fl_X8_talk_202 rfl rfl dX8_talk_39 ?_
          refine go_bipush (v := (8 : Int32)) O dX8_talk_42 (by decide) ?_
          refine go_icmp_lt (tgt := 50) O dX8_talk_44 (by decide) (fun hc8 => ?_) (fun hc8 => ?_)
          · replace hF := it_t hc8 hF
            refine go_aload_n O dX8_talk_50 rfl 0 rfl ?_
            refine go_get (k := 0) (j := 2) O (lt9 hI (by decide : (0 : Nat) < 99)) (cv_pw G (S.1 0) (S.2 0)) rfl in_X8_talk_X8 (by decide) fl_X8_talk_24 rfl rfl dX8_talk_51 ?_
            refine go_iload_n O dX8_talk_54 rfl 1 rfl ?_
            refine go_iload_n O dX8_talk_55 rfl 2 rfl ?_
            refine go_iload_n O dX8_talk_56 rfl 3 rfl ?_
            obtain ⟨⟨x6, S7⟩, hA5, hF⟩ := bd_s hF
            refine go_callVi (As := [.int a1, .int a2, .int a3]) (rest := []) (b := (sb 0)) O (c_X6_addTalk l G hI (by decide : (0 : Nat) < 5) hA5) (fun s args hts => cwV 3 hts gX8_talk_X6_addTalk rfl rfl rfl (by decide +kernel) ⟨Nat.le_of_ble_eq_true rfl, Nat.le_of_ble_eq_true rfl⟩) (lt9 hI (sb_lt0 (by decide : (0 : Nat) < 5))) (cv_st G (by decide : (0 : Nat) < 5) (S.1 (sb 0)) (S.2 (sb 0))) rfl rfl rfl rfl (Nat.le_of_ble_eq_true rfl) dX8_talk_57 ?_
            exact ret_wi hF (hR _ _ dX8_talk_60)
          · replace hF := it_f hc8 hF
            refine go_bipush (v := (-2 : Int32)) O dX8_talk_47 (by decide) ?_
            exact ret_wi hF (hR _ _ dX8_talk_49)
        · replace hF := it_f hc9 hF
          refine go_iconst (v := (-1 : Int32)) O dX8_talk_33 (by decide) ?_
          exact ret_wi hF (hR _ _ dX8_talk_34)
-- X8_safe
def rm_X8_safe : Room := { frames := 5, cells := 0, slots := 0, locals := 142 }
theorem fl_X8_safe_24 : Cond.fieldLink RX8 24 "PaperWalls" "now" "LPaperWalls$Street;" ∈ wsX8_safe := by decide +kernel
theorem fl_X8_safe_92 : Cond.fieldLink RX8 92 "PaperWalls" "told" "I" ∈ wsX8_safe := by decide +kernel
theorem fl_X8_safe_202 : Cond.fieldLink RX8 202 "PaperWalls$Street" "talks" "I" ∈ wsX8_safe := by decide +kernel
theorem fl_X8_safe_212 : Cond.fieldLink RX8 212 "PaperWalls$Street" "speaker" "[I" ∈ wsX8_safe := by decide +kernel
theorem fl_X8_safe_215 : Cond.fieldLink RX8 215 "PaperWalls$Street" "barred" "[I" ∈ wsX8_safe := by decide +kernel
theorem in_X8_safe_X6 : ∀ x ∈ u_ws RX6 TX6 11, x ∈ wsX8_safe := by decide +kernel
theorem in_X8_safe_X8 : ∀ x ∈ u_ws RX8 TX8 12, x ∈ wsX8_safe := by decide +kernel
def F_X8_safe  (S : Sg) (a1 : Int32) (a2 : Int32) : Option (Int32 × Sg) := if a1 < 0 then (some ((-1 : Int32), S)) else (bd (F_X8_isSet S a2) (fun x2 => if x2 = 0 then (some ((-1 : Int32), S)) else (if a1 < (S.1 (sb 0) 10) then (chk (inB a1 8) (bd (F_X6_whoHear 0 S (S.1 (sb 0 + 5) a1.toNatClampNeg) a2) (fun x5 => chk (inB a1 8) (nm (wI S 0 10 (x5 &&& (S.1 (sb 0 + 7) a1.toNatClampNeg))) (fun S7 => bd (F_X6_isSafe 0 S7 a1 a2) (fun x9 => if x9 = 0 then (some ((0 : Int32), S7)) else (some ((1 : Int32), S7)))))))) else (bd (F_X8_find S (2 : Int32)) (fun (x12, S13) => some (x12, S13))))))
set_option maxHeartbeats 4000000 in
set_option maxRecDepth 100000 in
theorem c_X8_safe (l : Launch) (G : Gp) (hI : Gd G)  {S : Sg} {a1 : Int32} {a2 : Int32} {r : Int32} {S1 : Sg} (hF : F_X8_safe S a1 a2 = some (r, S1)) : Met l yX8_safe wsX8_safe rm_X8_safe (va_Pc [.ref (G.2.1 0), .int a1, .int a2] (PreW (wC G) S)) (va_Qi (fun r' u => r' = r ∧ u = S1) (PostW (wC G)) (AW (wC G))) 0 0 (AW (wC G)) := by
  rw [F_X8_safe] at hF
  refine met_i (cc := cX8_safe) (maxL := 3) (own := RX8) hI.1 (by decide) rfl rfl (Nat.le_of_ble_eq_true rfl) (fun X O hR => ?_)
  show Go X l rm_X8_safe (wC G) 3 0 [(0, .ref (G.2.1 0)), (1, .int a1), (2, .int a2)] [] S
  refine go_iload_n O dX8_safe_0 rfl 1 rfl ?_
  refine go_if_lt (tgt := 12) O dX8_safe_1 (by decide) (fun hc16 => ?_) (fun hc16 => ?_)
  · replace hF := it_t hc16 hF
    refine go_iconst (v := (-1 : Int32)) O dX8_safe_12 (by decide) ?_
    exact ret_wi hF (hR _ _ dX8_safe_13)
  · replace hF := it_f hc16 hF
    refine go_aload_n O dX8_safe_4 rfl 0 rfl ?_
    refine go_iload_n O dX8_safe_5 rfl 2 rfl ?_
    obtain ⟨x2, hA1, hF⟩ := bd_s hF
    refine go_callVi (As := [.int a2]) (rest := []) (b := 0) O (c_X8_isSet l G hI hA1) (fun s args hts => cwV 1 hts gX8_safe_X8_isSet rfl rfl rfl (by decide +kernel) ⟨Nat.le_of_ble_eq_true rfl, Nat.le_of_ble_eq_true rfl⟩) (lt9 hI (by decide : (0 : Nat) < 99)) (cv_pw G (S.1 0) (S.2 0)) rfl rfl rfl rfl (Nat.le_of_ble_eq_true rfl) dX8_safe_6 ?_
    refine go_if_ne (tgt := 14) O dX8_safe_9 (by decide) (fun hc15 => ?_) (fun hc15 => ?_)
    · replace hF := it_f hc15 hF
      refine go_iload_n O dX8_safe_14 rfl 1 rfl ?_
      refine go_aload_n O dX8_safe_15 rfl 0 rfl ?_
      refine go_get (k := 0) (j := 2) O (lt9 hI (by decide : (0 : Nat) < 99)) (cv_pw G (S.1 0) (S.2 0)) rfl in_X8_safe_X8 (by decide) fl_X8_safe_24 rfl rfl dX8_safe_16 ?_
      refine go_get (k := (sb 0)) (j := 10) O (lt9 hI (sb_lt0 (by decide : (0 : Nat) < 5))) (cv_st G (by decide : (0 : Nat) < 5) (S.1 (sb 0)) (S.2 (sb 0))) rfl in_X8_safe_X6 (by decide) fl_X8_safe_202 rfl rfl dX8_safe_19 ?_
      refine go_icmp_lt (tgt := 31) O dX8_safe_22 (by decide) (fun hc14 => ?_) (fun hc14 => ?_)
      · replace hF := it_t hc14 hF
        refine go_aload_n O dX8_safe_31 rfl 0 rfl ?_
        refine go_aload_n O dX8_safe_32 rfl 0 rfl ?_
        refine go_get (k := 0) (j := 2) O (lt9 hI (by decide : (0 : Nat) < 99)) (cv_pw G (S.1 0) (S.2 0)) rfl in_X8_safe_X8 (by decide) fl_X8_safe_24 rfl rfl dX8_safe_33 ?_
        refine go_aload_n O dX8_safe_36 rfl 0 rfl ?_
        refine go_get (k := 0) (j := 2) O (lt9 hI (by decide : (0 : Nat) < 99)) (cv_pw G (S.1 0) (S.2 0)) rfl in_X8_safe_X8 (by decide) fl_X8_safe_24 rfl rfl dX8_safe_37 ?_
        refine go_get (k := (sb 0)) (j := 4) O (lt9 hI (sb_lt0 (by decide : (0 : Nat) < 5))) (cv_st G (by decide : (0 : Nat) < 5) (S.1 (sb 0)) (S.2 (sb 0))) rfl in_X8_safe_X6 (by decide) fl_X8_safe_212 rfl rfl dX8_safe_40 ?_
        refine go_iload_n O dX8_safe_43 rfl 1 rfl ?_
        obtain ⟨hb3, hF⟩ := chk_s hF
        refine go_iald (k := (sb 0 + 5)) O (lt9 hI (sb_lt (by decide : (0 : Nat) < 5) (by decide : 5 < 13))) (cv_sta5 G (by decide : (0 : Nat) < 5) (S.1 (sb 0 + 5)) (S.2 (sb 0 + 5))) (inB_in hb3) dX8_safe_44 ?_
        refine go_iload_n O dX8_safe_45 rfl 2 rfl ?_
        obtain ⟨x5, hA4, hF⟩ := bd_s hF
        refine go_callVi (As := [.int (S.1 (sb 0 + 5) a1.toNatClampNeg), .int a2]) (rest := [.ref (G.2.1 0)]) (b := (sb 0)) O (c_X6_whoHear l G hI (by decide : (0 : Nat) < 5) hA4) (fun s args hts => cwV 2 hts gX8_safe_X6_whoHear rfl rfl rfl (by decide +kernel) ⟨Nat.le_of_ble_eq_true rfl, Nat.le_of_ble_eq_true rfl⟩) (lt9 hI (sb_lt0 (by decide : (0 : Nat) < 5))) (cv_st G (by decide : (0 : Nat) < 5) (S.1 (sb 0)) (S.2 (sb 0))) rfl rfl rfl rfl (Nat.le_of_ble_eq_true rfl) dX8_safe_46 ?_
        refine go_aload_n O dX8_safe_49 rfl 0 rfl ?_
        refine go_get (k := 0) (j := 2) O (lt9 hI (by decide : (0 : Nat) < 99)) (cv_pw G (S.1 0) (S.2 0)) rfl in_X8_safe_X8 (by decide) fl_X8_safe_24 rfl rfl dX8_safe_50 ?_
        refine go_get (k := (sb 0)) (j := 6) O (lt9 hI (sb_lt0 (by decide : (0 : Nat) < 5))) (cv_st G (by decide : (0 : Nat) < 5) (S.1 (sb 0)) (S.2 (sb 0))) rfl in_X8_safe_X6 (by decide) fl_X8_safe_215 rfl rfl dX8_safe_53 ?_
        refine go_iload_n O dX8_safe_56 rfl 1 rfl ?_
        obtain ⟨hb6, hF⟩ := chk_s hF
        refine go_iald (k := (sb 0 + 7)) O (lt9 hI (sb_lt (by decide : (0 : Nat) < 5) (by decide : 7 < 13))) (cv_sta7 G (by decide : (0 : Nat) < 5) (S.1 (sb 0 + 7)) (S.2 (sb 0 + 7))) (inB_in hb6) dX8_safe_57 ?_
        refine go_iand O dX8_safe_58 ?_
        obtain ⟨S7, eS7, hF⟩ := nm_s hF
        refine go_putI (k := 0) (j := 10) O (lt9 hI (by decide : (0 : Nat) < 99)) (cv_pw G (S.1 0) (S.2 0)) rfl in_X8_safe_X8 (by decide) fl_X8_safe_92 rfl tyX8 tyX8_ok nmX8 rfl (by decide +kernel) (Nat.le_of_ble_eq_true rfl) (cv_pw G (upd (S.1 0) 10 (x5 &&& (S.1 (sb 0 + 7) a1.toNatClampNeg))) (S.2 0)) dX8_safe_59 eS7 ?_
        refine go_aload_n O dX8_safe_62 rfl 0 rfl ?_
        refine go_get (k := 0) (j := 2) O (lt9 hI (by decide : (0 : Nat) < 99)) (cv_pw G (S7.1 0) (S7.2 0)) rfl in_X8_safe_X8 (by decide) fl_X8_safe_24 rfl rfl dX8_safe_63 ?_
        refine go_iload_n O dX8_safe_66 rfl 1 rfl ?_
        refine go_iload_n O dX8_safe_67 rfl 2 rfl ?_
        obtain ⟨x9, hA8, hF⟩ := bd_s hF
        refine go_callVi (As := [.int a1, .int a2]) (rest := []) (b := (sb 0)) O (c_X6_isSafe l G hI (by decide : (0 : Nat) < 5) hA8) (fun s args hts => cwV 2 hts gX8_safe_X6_isSafe rfl rfl rfl (by decide +kernel) ⟨Nat.le_of_ble_eq_true rfl, Nat.le_of_ble_eq_true rfl⟩) (lt9 hI (sb_lt0 (by decide : (0 : Nat) < 5))) (cv_st G (by decide : (0 : Nat) < 5) (S7.1 (sb 0)) (S7.2 (sb 0))) rfl rfl rfl rfl (Nat.le_of_ble_eq_true rfl) dX8_safe_68 ?_
        refine go_if_eq (tgt := 78) O dX8_safe_71 (by decide) (fun hc10 => ?_) (fun hc10 => ?_)
        · replace hF := it_t hc10 hF
          refine go_iconst (v := (0 : Int32)) O dX8_safe_78 (by decide) ?_
          exact ret_wi hF (hR _ _ dX8_safe_79)
        · replace hF := it_f hc10 hF
          refine go_iconst (v := (1 : Int32)) O dX8_safe_74 (by decide) ?_
          refine go_goto (tgt := 79) O dX8_safe_75 (by decide) ?_
          exact ret_wi hF (hR _ _ dX8_safe_79)
      · replace hF := it_f hc14 hF
        refine go_aload_n O dX8_safe_25 rfl 0 rfl ?_
        refine go_iconst (v := (2 : Int32)) O dX8_safe_26 (by decide) ?_
        obtain ⟨⟨x12, S13⟩, hA11, hF⟩ := bd_s hF
        refine go_callVi (As := [.int (2 : Int32)]) (rest := []) (b := 0) O (c_X8_find l G hI hA11) (fun s args hts => cwV 1 hts gX8_safe_X8_find rfl rfl rfl (by decide +kernel) ⟨Nat.le_of_ble_eq_true rfl, Nat.le_of_ble_eq_true rfl⟩) (lt9 hI (by decide : (0 : Nat) < 99)) (cv_pw G (S.1 0) (S.2 0)) rfl rfl rfl rfl (Nat.le_of_ble_eq_true rfl) dX8_safe_27 ?_
        exact ret_wi hF (hR _ _ dX8_safe_30)
    · replace hF := it_t hc15 hF
      refine go_iconst (v := (-1 : Int32)) O dX8_safe_12 (by decide) ?_
      exact ret_wi hF (hR _ _ dX8_safe_13)
