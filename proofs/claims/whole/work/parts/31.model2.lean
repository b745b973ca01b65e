-- X9_isOne
def rm_X9_isOne : Room := { frames := 1, cells := 0, slots := 0, locals := 25 }
theorem fl_X9_isOne_153 : Cond.fieldLink RX9 153 "PaperWallsModel" "people" "I" ∈ wsX9_isOne := by decide +kernel
theorem in_X9_isOne_X9 : ∀ x ∈ u_ws RX9 TX9 36, x ∈ wsX9_isOne := by decide +kernel
def F_X9_isOne  (S : Sg) (a1 : Int32) : Option Int32 := bd (F_X9_in S (Int32.toInt64 a1) (0 : Int64) (Int32.toInt64 ((S.1 0 7) - (1 : Int32)))) (fun x2 => chk (zB x2) (some x2))
set_option maxHeartbeats 4000000 in
set_option maxRecDepth 100000 in
theorem c_X9_isOne (l : Launch) (G : Gp) (hI : Ij (wM G))  {S : Sg} {a1 : Int32} {r : Int32} (hF : F_X9_isOne S a1 = some r) : Met l yX9_isOne wsX9_isOne rm_X9_isOne (va_Pc [.ref (G.2.1 0), .int a1] (PreW (wM G) S)) (va_Qi (fun r' u => r' = r ∧ u = S) (PostW (wM G)) (AW (wM G))) 0 0 (AW (wM G)) := by
  rw [F_X9_isOne] at hF
  refine met_z (cc := cX9_isOne) (maxL := 2) (own := RX9) hI (by decide) rfl rfl (Nat.le_of_ble_eq_true rfl) (fun X O hR => ?_)
  show Go X l rm_X9_isOne (wM G) 2 0 [(0, .ref (G.2.1 0)), (1, .int a1)] [] S
  refine go_iload_n O dX9_isOne_0 rfl 1 rfl ?_
  refine go_i2l (v := Int32.toInt64 a1) O dX9_isOne_1 rfl ?_
  refine go_lconst (v := (0 : Int64)) O dX9_isOne_2 (by decide) ?_
  refine go_aload_n O dX9_isOne_3 rfl 0 rfl ?_
  refine go_get (k := 0) (j := 7) O (by decide : (0 : Nat) < 27) (cm_obj G (S.1 0) (S.2 0)) rfl in_X9_isOne_X9 (by decide) fl_X9_isOne_153 rfl rfl dX9_isOne_4 ?_
  refine go_iconst (v := (1 : Int32)) O dX9_isOne_7 (by decide) ?_
  refine go_isub O dX9_isOne_8 ?_
  refine go_i2l (v := Int32.toInt64 ((S.1 0 7) - (1 : Int32))) O dX9_isOne_9 rfl ?_
  obtain ⟨x2, hA1, hF⟩ := bd_s hF
  refine go_callSi (As := [.long (Int32.toInt64 a1), .long (0 : Int64), .long (Int32.toInt64 ((S.1 0 7) - (1 : Int32)))]) (rest := []) O (c_X9_in l G hI hA1) (fun s args hts => va_cwS 3 hts gX9_isOne_X9_in rfl rfl rfl (by decide +kernel) ⟨Nat.le_of_ble_eq_true rfl, Nat.le_of_ble_eq_true rfl⟩) rfl rfl (Nat.le_of_ble_eq_true rfl) dX9_isOne_10 ?_
  obtain ⟨hz3, hF⟩ := chk_s hF
  exact ret_z hF (fun hz => hR _ _ hz dX9_isOne_13) (zB_s hz3)
-- X9_isRoom
def rm_X9_isRoom : Room := { frames := 1, cells := 0, slots := 0, locals := 25 }
theorem fl_X9_isRoom_150 : Cond.fieldLink RX9 150 "PaperWallsModel" "walls" "I" ∈ wsX9_isRoom := by decide +kernel
theorem in_X9_isRoom_X9 : ∀ x ∈ u_ws RX9 TX9 36, x ∈ wsX9_isRoom := by decide +kernel
def F_X9_isRoom  (S : Sg) (a1 : Int32) : Option Int32 := if (S.1 0 8) ≤ 0 then (some (0 : Int32)) else (bd (F_X9_in S (Int32.toInt64 a1) (0 : Int64) (Int32.toInt64 (S.1 0 8))) (fun x2 => if x2 = 0 then (some (0 : Int32)) else (some (1 : Int32))))
set_option maxHeartbeats 4000000 in
set_option maxRecDepth 100000 in
theorem c_X9_isRoom (l : Launch) (G : Gp) (hI : Ij (wM G))  {S : Sg} {a1 : Int32} {r : Int32} (hF : F_X9_isRoom S a1 = some r) : Met l yX9_isRoom wsX9_isRoom rm_X9_isRoom (va_Pc [.ref (G.2.1 0), .int a1] (PreW (wM G) S)) (va_Qi (fun r' u => r' = r ∧ u = S) (PostW (wM G)) (AW (wM G))) 0 0 (AW (wM G)) := by
  rw [F_X9_isRoom] at hF
  refine met_z (cc := cX9_isRoom) (maxL := 2) (own := RX9) hI (by decide) rfl rfl (Nat.le_of_ble_eq_true rfl) (fun X O hR => ?_)
  show Go X l rm_X9_isRoom (wM G) 2 0 [(0, .ref (G.2.1 0)), (1, .int a1)] [] S
  refine go_aload_n O dX9_isRoom_0 rfl 0 rfl ?_
  refine go_get (k := 0) (j := 8) O (by decide : (0 : Nat) < 27) (cm_obj G (S.1 0) (S.2 0)) rfl in_X9_isRoom_X9 (by decide) fl_X9_isRoom_150 rfl rfl dX9_isRoom_1 ?_
  refine go_if_le (tgt := 25) O dX9_isRoom_4 (by decide) (fun hc4 => ?_) (fun hc4 => ?_)
  · replace hF := it_t hc4 hF
    refine go_iconst (v := (0 : Int32)) O dX9_isRoom_25 (by decide) ?_
    exact ret_z hF (fun hz => hR _ _ hz dX9_isRoom_26) (show vp_nar .boolean (0 : Int32) = (0 : Int32) by decide)
  · replace hF := it_f hc4 hF
    refine go_iload_n O dX9_isRoom_7 rfl 1 rfl ?_
    refine go_i2l (v := Int32.toInt64 a1) O dX9_isRoom_8 rfl ?_
    refine go_lconst (v := (0 : Int64)) O dX9_isRoom_9 (by decide) ?_
    refine go_aload_n O dX9_isRoom_10 rfl 0 rfl ?_
    refine go_get (k := 0) (j := 8) O (by decide : (0 : Nat) < 27) (cm_obj G (S.1 0) (S.2 0)) rfl in_X9_isRoom_X9 (by decide) fl_X9_isRoom_150 rfl rfl dX9_isRoom_11 ?_
    refine go_i2l (v := Int32.toInt64 (S.1 0 8)) O dX9_isRoom_14 rfl ?_
    obtain ⟨x2, hA1, hF⟩ := bd_s hF
    refine go_callSi (As := [.long (Int32.toInt64 a1), .long (0 : Int64), .long (Int32.toInt64 (S.1 0 8))]) (rest := []) O (c_X9_in l G hI hA1) (fun s args hts => va_cwS 3 hts gX9_isRoom_X9_in rfl rfl rfl (by decide +kernel) ⟨Nat.le_of_ble_eq_true rfl, Nat.le_of_ble_eq_true rfl⟩) rfl rfl (Nat.le_of_ble_eq_true rfl) dX9_isRoom_15 ?_
    refine go_if_eq (tgt := 25) O dX9_isRoom_18 (by decide) (fun hc3 => ?_) (fun hc3 => ?_)
    · replace hF := it_t hc3 hF
      refine go_iconst (v := (0 : Int32)) O dX9_isRoom_25 (by decide) ?_
      exact ret_z hF (fun hz => hR _ _ hz dX9_isRoom_26) (show vp_nar .boolean (0 : Int32) = (0 : Int32) by decide)
    · replace hF := it_f hc3 hF
      refine go_iconst (v := (1 : Int32)) O dX9_isRoom_21 (by decide) ?_
      refine go_goto (tgt := 26) O dX9_isRoom_22 (by decide) ?_
      exact ret_z hF (fun hz => hR _ _ hz dX9_isRoom_26) (show vp_nar .boolean (1 : Int32) = (1 : Int32) by decide)
-- X9_isSet
def rm_X9_isSet : Room := { frames := 1, cells := 0, slots := 0, locals := 25 }
theorem fl_X9_isSet_153 : Cond.fieldLink RX9 153 "PaperWallsModel" "people" "I" ∈ wsX9_isSet := by decide +kernel
theorem in_X9_isSet_X9 : ∀ x ∈ u_ws RX9 TX9 36, x ∈ wsX9_isSet := by decide +kernel
def F_X9_isSet  (S : Sg) (a1 : Int32) : Option Int32 := bd (F_X9_in S (Int32.toInt64 a1) (0 : Int64) (Int32.toInt64 (((1 : Int32) <<< ((S.1 0 7) &&& 31)) - (1 : Int32)))) (fun x2 => chk (zB x2) (some x2))
set_option maxHeartbeats 4000000 in
set_option maxRecDepth 100000 in
theorem c_X9_isSet (l : Launch) (G : Gp) (hI : Ij (wM G))  {S : Sg} {a1 : Int32} {r : Int32} (hF : F_X9_isSet S a1 = some r) : Met l yX9_isSet wsX9_isSet rm_X9_isSet (va_Pc [.ref (G.2.1 0), .int a1] (PreW (wM G) S)) (va_Qi (fun r' u => r' = r ∧ u = S) (PostW (wM G)) (AW (wM G))) 0 0 (AW (wM G)) := by
  rw [F_X9_isSet] at hF
  refine met_z (cc := cX9_isSet) (maxL := 2) (own := RX9) hI (by decide) rfl rfl (Nat.le_of_ble_eq_true rfl) (fun X O hR => ?_)
  show Go X l rm_X9_isSet (wM G) 2 0 [(0, .ref (G.2.1 0)), (1, .int a1)] [] S
  refine go_iload_n O dX9_isSet_0 rfl 1 rfl ?_
  refine go_i2l (v := Int32.toInt64 a1) O dX9_isSet_1 rfl ?_
  refine go_lconst (v := (0 : Int64)) O dX9_isSet_2 (by decide) ?_
  refine go_iconst (v := (1 : Int32)) O dX9_isSet_3 (by decide) ?_
  refine go_aload_n O dX9_isSet_4 rfl 0 rfl ?_
  refine go_get (k := 0) (j := 7) O (by decide : (0 : Nat) < 27) (cm_obj G (S.1 0) (S.2 0)) rfl in_X9_isSet_X9 (by decide) fl_X9_isSet_153 rfl rfl dX9_isSet_5 ?_
  refine go_ishl O dX9_isSet_8 ?_
  refine go_iconst (v := (1 : Int32)) O dX9_isSet_9 (by decide) ?_
  refine go_isub O dX9_isSet_10 ?_
  refine go_i2l (v := Int32.toInt64 (((1 : Int32) <<< ((S.1 0 7) &&& 31)) - (1 : Int32))) O dX9_isSet_11 rfl ?_
  obtain ⟨x2, hA1, hF⟩ := bd_s hF
  refine go_callSi (As := [.long (Int32.toInt64 a1), .long (0 : Int64), .long (Int32.toInt64 (((1 : Int32) <<< ((S.1 0 7) &&& 31)) - (1 : Int32)))]) (rest := []) O (c_X9_in l G hI hA1) (fun s args hts => va_cwS 3 hts gX9_isSet_X9_in rfl rfl rfl (by decide +kernel) ⟨Nat.le_of_ble_eq_true rfl, Nat.le_of_ble_eq_true rfl⟩) rfl rfl (Nat.le_of_ble_eq_true rfl) dX9_isSet_12 ?_
  obtain ⟨hz3, hF⟩ := chk_s hF
  exact ret_z hF (fun hz => hR _ _ hz dX9_isSet_15) (zB_s hz3)
-- X9_speaks
def rm_X9_speaks : Room := { frames := 0, cells := 0, slots := 0, locals := 0 }
def F_X9_speaks  (S : Sg) (a0 : Int32) : Option Int32 := if a0 = (1 : Int32) then (some (8 : Int32)) else (if a0 = (4 : Int32) then (some (8 : Int32)) else (if a0 = (2 : Int32) then (some (2 : Int32)) else (if a0 = (5 : Int32) then (some (2 : Int32)) else (some (5 : Int32)))))
set_option maxHeartbeats 4000000 in
set_option maxRecDepth 100000 in
theorem c_X9_speaks (l : Launch) (G : Gp) (hI : Ij (wM G))  {S : Sg} {a0 : Int32} {r : Int32} (hF : F_X9_speaks S a0 = some r) : Met l yX9_speaks wsX9_speaks rm_X9_speaks (va_Pc [.int a0] (PreW (wM G) S)) (va_Qi (fun r' u => r' = r ∧ u = S) (PostW (wM G)) (AW (wM G))) 0 0 (AW (wM G)) := by
  rw [F_X9_speaks] at hF
  refine met_i (cc := cX9_speaks) (maxL := 1) (own := RX9) hI (by decide) rfl rfl (Nat.le_of_ble_eq_true rfl) (fun X O hR => ?_)
  show Go X l rm_X9_speaks (wM G) 1 0 [(0, .int a0)] [] S
  refine go_iload_n O dX9_speaks_0 rfl 0 rfl ?_
  refine go_iconst (v := (1 : Int32)) O dX9_speaks_1 (by decide) ?_
  refine go_icmp_eq (tgt := 10) O dX9_speaks_2 (by decide) (fun hc4 => ?_) (fun hc4 => ?_)
  · replace hF := it_t hc4 hF
    refine go_bipush (v := (8 : Int32)) O dX9_speaks_10 (by decide) ?_
    refine go_goto (tgt := 30) O dX9_speaks_12 (by decide) ?_
    exact ret_i hF (hR _ _ dX9_speaks_30)
  · replace hF := it_f hc4 hF
    refine go_iload_n O dX9_speaks_5 rfl 0 rfl ?_
    refine go_iconst (v := (4 : Int32)) O dX9_speaks_6 (by decide) ?_
    refine go_icmp_ne (tgt := 15) O dX9_speaks_7 (by decide) (fun hc3 => ?_) (fun hc3 => ?_)
    · replace hF := it_f hc3 hF
      refine go_iload_n O dX9_speaks_15 rfl 0 rfl ?_
      refine go_iconst (v := (2 : Int32)) O dX9_speaks_16 (by decide) ?_
      refine go_icmp_eq (tgt := 25) O dX9_speaks_17 (by decide) (fun hc2 => ?_) (fun hc2 => ?_)
      · replace hF := it_t hc2 hF
        refine go_iconst (v := (2 : Int32)) O dX9_speaks_25 (by decide) ?_
        refine go_goto (tgt := 30) O dX9_speaks_26 (by decide) ?_
        exact ret_i hF (hR _ _ dX9_speaks_30)
      · replace hF := it_f hc2 hF
        refine go_iload_n O dX9_speaks_20 rfl 0 rfl ?_
        refine go_iconst (v := (5 : Int32)) O dX9_speaks_21 (by decide) ?_
        refine go_icmp_ne (tgt := 29) O dX9_speaks_22 (by decide) (fun hc1 => ?_) (fun hc1 => ?_)
        · replace hF := it_f hc1 hF
          refine go_iconst (v := (5 : Int32)) O dX9_speaks_29 (by decide) ?_
          exact ret_i hF (hR _ _ dX9_speaks_30)
        · replace hF := it_t hc1 hF
          refine go_iconst (v := (2 : Int32)) O dX9_speaks_25 (by decide) ?_
          refine go_goto (tgt := 30) O dX9_speaks_26 (by decide) ?_
          exact ret_i hF (hR _ _ dX9_speaks_30)
    · replace hF := it_t hc3 hF
      refine go_bipush (v := (8 : Int32)) O dX9_speaks_10 (by decide) ?_
      refine go_goto (tgt := 30) O dX9_speaks_12 (by decide) ?_
      exact ret_i hF (hR _ _ dX9_speaks_30)
-- X9_sings
def rm_X9_sings : Room := { frames := 1, cells := 0, slots := 0, locals := 20 }
def F_X9_sings  (S : Sg) (a0 : Int32) : Option Int32 := if a0 = (4 : Int32) then (some (10 : Int32)) else (bd (F_X9_speaks S a0) (fun x2 => some x2))
set_option maxHeartbeats 4000000 in
set_option maxRecDepth 100000 in
theorem c_X9_sings (l : Launch) (G : Gp) (hI : Ij (wM G))  {S : Sg} {a0 : Int32} {r : Int32} (hF : F_X9_sings S a0 = some r) : Met l yX9_sings wsX9_sings rm_X9_sings (va_Pc [.int a0] (PreW (wM G) S)) (va_Qi (fun r' u => r' = r ∧ u = S) (PostW (wM G)) (AW (wM G))) 0 0 (AW (wM G)) := by
  rw [F_X9_sings] at hF
  refine met_i (cc := cX9_sings) (maxL := 1) (own := RX9) hI (by decide) rfl rfl (Nat.le_of_ble_eq_true rfl) (fun X O hR => ?_)
  show Go X l rm_X9_sings (wM G) 1 0 [(0, .int a0)] [] S
  refine go_iload_n O dX9_sings_0 rfl 0 rfl ?_
  refine go_iconst (v := (4 : Int32)) O dX9_sings_1 (by decide) ?_
  refine go_icmp_ne (tgt := 10) O dX9_sings_2 (by decide) (fun hc3 => ?_) (fun hc3 => ?_)
  · replace hF := it_f hc3 hF
    refine go_iload_n O dX9_sings_10 rfl 0 rfl ?_
    obtain ⟨x2, hA1, hF⟩ := bd_s hF
    refine go_callSi (As := [.int a0]) (rest := []) O (c_X9_speaks l G hI hA1) (fun s args hts => va_cwS 1 hts gX9_sings_X9_speaks rfl rfl rfl (by decide +kernel) ⟨Nat.le_of_ble_eq_true rfl, Nat.le_of_ble_eq_true rfl⟩) rfl rfl (Nat.le_of_ble_eq_true rfl) dX9_sings_11 ?_
    exact ret_i hF (hR _ _ dX9_sings_14)
  · replace hF := it_t hc3 hF
    refine go_bipush (v := (10 : Int32)) O dX9_sings_5 (by decide) ?_
    refine go_goto (tgt := 14) O dX9_sings_7 (by decide) ?_
    exact ret_i hF (hR _ _ dX9_sings_14)
-- X9_between
def rm_X9_between : Room := { frames := 0, cells := 0, slots := 0, locals := 0 }
theorem fl_X9_between_28 : Cond.fieldLink RX9 28 "PaperWallsModel" "layers" "[I" ∈ wsX9_between := by decide +kernel
theorem in_X9_between_X9 : ∀ x ∈ u_ws RX9 TX9 36, x ∈ wsX9_between := by decide +kernel
def T_X9_between_29  (S : Sg) (p4 : Int32) : Nat → Int32 → Int32 → Option (Int32)
  | 0, _, _ => none
  | n + 1, p5, p6 => if p4 ≤ p6 then (some p5) else (chk (inB p6 6) (nm (p5 + (S.1 7 p6.toNatClampNeg)) (fun x11 => T_X9_between_29 S p4 n x11 (p6 + (1 : Int32)))))
set_option maxHeartbeats 4000000 in
set_option maxRecDepth 100000 in
theorem lt_X9_between_29 {X : XT} (l : Launch) (G : Gp) (hI : Ij (wM G))  {S : Sg} {p4 : Int32} (O : Ok X (wM G) cX9_between RX9 wsX9_between 7) : ∀ (n : Nat) (p5 : Int32) (p6 : Int32)  (q : (Int32)), T_X9_between_29 S p4 n p5 p6  = some q → (Go X l rm_X9_between (wM G) 7 54 [(5, .int q)] [] S) → Go X l rm_X9_between (wM G) 7 29 [(0, .ref (G.2.1 0)), (4, .int p4), (5, .int p5), (6, .int p6)] [] S := by
  intro n
  induction n with
  | zero =>
    intro p5 p6  q hF
    cases hF
  | succ n ih =>
    intro p5 p6  q hF hE
    rw [T_X9_between_29] at hF
    refine go_iload O dX9_between_29 3 rfl ?_
    refine go_iload O dX9_between_31 1 rfl ?_
    refine go_icmp_ge (tgt := 54) O dX9_between_33 (by decide) (fun hc12 => ?_) (fun hc12 => ?_)
    · replace hF := it_t hc12 hF
      refine go_perm (ls' := [(5, .int p5)]) [2] rfl ?_
      exact jn (P := fun q => Go X l rm_X9_between (wM G) 7 54 [(5, .int q)] [] S) hF hE
    · replace hF := it_f hc12 hF
      refine go_iload O dX9_between_36 2 rfl ?_
      refine go_aload_n O dX9_between_38 rfl 0 rfl ?_
      refine go_get (k := 0) (j := 6) O (by decide : (0 : Nat) < 27) (cm_obj G (S.1 0) (S.2 0)) rfl in_X9_between_X9 (by decide) fl_X9_between_28 rfl rfl dX9_between_39 ?_
      refine go_iload O dX9_between_42 3 rfl ?_
      obtain ⟨hb10, hF⟩ := chk_s hF
      refine go_iald (k := 7) O (by decide : (7 : Nat) < 27) (cm_7 G (S.1 7) (S.2 7)) (inB_in hb10) dX9_between_44 ?_
      refine go_iadd O dX9_between_45 ?_
      obtain ⟨x11, ex11, hF⟩ := nm_s hF
      refine go_topi ex11 ?_
      refine go_istore (ls' := [(5, .int x11), (0, .ref (G.2.1 0)), (4, .int p4), (6, .int p6)]) O dX9_between_46 (by decide) rfl ?_
      refine go_iinc (d := (1 : Int32)) (ls' := [(6, .int (p6 + (1 : Int32))), (5, .int x11), (0, .ref (G.2.1 0)), (4, .int p4)]) O dX9_between_48 3 rfl (by decide) (by decide) rfl ?_
      refine go_goto (tgt := 29) O dX9_between_51 (by decide) ?_
      refine go_perm (ls' := [(0, .ref (G.2.1 0)), (4, .int p4), (5, .int x11), (6, .int (p6 + (1 : Int32)))]) [2, 3, 1, 0] rfl ?_
      exact ih _ _ _ hF hE
def F_X9_between  (S : Sg) (a1 : Int32) (a2 : Int32) : Option Int32 := bd (if a2 ≤ a1 then (some a2) else (some a1)) (fun x1 => bd (if a2 ≤ a1 then (some a1) else (some a2)) (fun x5 => bd (T_X9_between_29 S x5 FU (0 : Int32) x1) (fun x9 => some x9)))
set_option maxHeartbeats 4000000 in
set_option maxRecDepth 100000 in
theorem c_X9_between (l : Launch) (G : Gp) (hI : Ij (wM G))  {S : Sg} {a1 : Int32} {a2 : Int32} {r : Int32} (hF : F_X9_between S a1 a2 = some r) : Met l yX9_between wsX9_between rm_X9_between (va_Pc [.ref (G.2.1 0), .int a1, .int a2] (PreW (wM G) S)) (va_Qi (fun r' u => r' = r ∧ u = S) (PostW (wM G)) (AW (wM G))) 0 0 (AW (wM G)) := by
  rw [F_X9_between] at hF
  refine met_i (cc := cX9_between) (maxL := 7) (own := RX9) hI (by decide) rfl rfl (Nat.le_of_ble_eq_true rfl) (fun X O hR => ?_)
  show Go X l rm_X9_between (wM G) 7 0 [(0, .ref (G.2.1 0)), (1, .int a1), (2, .int a2)] [] S
  refine go_iload_n O dX9_between_0 rfl 1 rfl ?_
  refine go_iload_n O dX9_between_1 rfl 2 rfl ?_
  obtain ⟨x1, hA3, hF⟩ := bd_s hF
  have J2 : Go X l rm_X9_between (wM G) 7 10 [(0, .ref (G.2.1 0)), (1, .int a1), (2, .int a2)] [.int x1] S := by
    refine go_istore_n (ls' := [(3, .int x1), (0, .ref (G.2.1 0)), (1, .int a1), (2, .int a2)]) O dX9_between_10 rfl (by decide) rfl ?_
    refine go_iload_n O dX9_between_11 rfl 2 rfl ?_
    refine go_iload_n O dX9_between_12 rfl 3 rfl ?_
    obtain ⟨x5, hA7, hF⟩ := bd_s hF
    have J6 : Go X l rm_X9_between (wM G) 7 21 [(0, .ref (G.2.1 0)), (3, .int x1)] [.int x5] S := by
      refine go_istore (ls' := [(4, .int x5), (0, .ref (G.2.1 0)), (3, .int x1)]) O dX9_between_21 (by decide) rfl ?_
      refine go_iconst (v := (0 : Int32)) O dX9_between_23 (by decide) ?_
      refine go_istore (ls' := [(5, .int (0 : Int32)), (4, .int x5), (0, .ref (G.2.1 0)), (3, .int x1)]) O dX9_between_24 (by decide) rfl ?_
      refine go_iload_n O dX9_between_26 rfl 3 rfl ?_
      refine go_istore (ls' := [(6, .int x1), (5, .int (0 : Int32)), (4, .int x5), (0, .ref (G.2.1 0)), (3, .int x1)]) O dX9_between_27 (by decide) rfl ?_
      refine go_perm (ls' := [(0, .ref (G.2.1 0)), (4, .int x5), (5, .int (0 : Int32)), (6, .int x1)]) [3, 2, 1, 0] rfl ?_
      obtain ⟨x9, hA13, hF⟩ := bd_s hF
      refine lt_X9_between_29 l G hI  O _ _ _ _ hA13 ?_
      refine go_iload O dX9_between_54 0 rfl ?_
      exact ret_i hF (hR _ _ dX9_between_56)
    replace hF := hA7
    refine go_icmp_ge (tgt := 20) O dX9_between_13 (by decide) (fun hc8 => ?_) (fun hc8 => ?_)
    · replace hF := it_t hc8 hF
      refine go_iload_n O dX9_between_20 rfl 2 rfl ?_
      refine go_perm (ls' := [(0, .ref (G.2.1 0)), (3, .int x1)]) [1, 0] rfl ?_
      exact jn (P := fun q => Go X l rm_X9_between (wM G) 7 21 [(0, .ref (G.2.1 0)), (3, .int x1)] [.int q] S) hF J6
    · replace hF := it_f hc8 hF
      refine go_iload_n O dX9_between_16 rfl 3 rfl ?_
      refine go_goto (tgt := 21) O dX9_between_17 (by decide) ?_
      refine go_perm (ls' := [(0, .ref (G.2.1 0)), (3, .int x1)]) [1, 0] rfl ?_
      exact jn (P := fun q => Go X l rm_X9_between (wM G) 7 21 [(0, .ref (G.2.1 0)), (3, .int x1)] [.int q] S) hF J6
  replace hF := hA3
  refine go_icmp_ge (tgt := 9) O dX9_between_2 (by decide) (fun hc4 => ?_) (fun hc4 => ?_)
  · replace hF := it_t hc4 hF
    refine go_iload_n O dX9_between_9 rfl 2 rfl ?_
    exact jn (P := fun q => Go X l rm_X9_between (wM G) 7 10 [(0, .ref (G.2.1 0)), (1, .int a1), (2, .int a2)] [.int q] S) hF J2
  · replace hF := it_f hc4 hF
    refine go_iload_n O dX9_between_5 rfl 1 rfl ?_
    refine go_goto (tgt := 10) O dX9_between_6 (by decide) ?_
    exact jn (P := fun q => Go X l rm_X9_between (wM G) 7 10 [(0, .ref (G.2.1 0)), (1, .int a1), (2, .int a2)] [.int q] S) hF J2
-- X9_noiseIn
def rm_X9_noiseIn : Room := { frames := 2, cells := 0, slots := 0, locals := 40 }
theorem fl_X9_noiseIn_22 : Cond.fieldLink RX9 22 "PaperWallsModel" "kinds" "[I" ∈ wsX9_noiseIn := by decide +kernel
theorem fl_X9_noiseIn_25 : Cond.fieldLink RX9 25 "PaperWallsModel" "where" "[I" ∈ wsX9_noiseIn := by decide +kernel
theorem fl_X9_noiseIn_153 : Cond.fieldLink RX9 153 "PaperWallsModel" "people" "I" ∈ wsX9_noiseIn := by decide +kernel
theorem in_X9_noiseIn_X9 : ∀ x ∈ u_ws RX9 TX9 36, x ∈ wsX9_noiseIn := by decide +kernel
def T_X9_noiseIn_5  (S : Sg) (p1 : Int32) (p2 : Int32) : Nat → Int32 → Int32 → Option (Int32)
  | 0, _, _ => none
  | n + 1, p3, p4 => if (S.1 0 7) ≤ p4 then (some p3) else (bd (F_X9_has S p2 p4) (fun x3 => bd (if x3 = 0 then (some (0 : Int32)) else (chk (inB p4 7) (bd (F_X9_sings S (S.1 5 p4.toNatClampNeg)) (fun x9 => chk (inB p4 7) (bd (F_X9_between S (S.1 6 p4.toNatClampNeg) p1) (fun x12 => some (x9 - x12))))))) (fun x4 => bd (if x4 ≤ p3 then (some p3) else (some x4)) (fun x14 => T_X9_noiseIn_5 S p1 p2 n x14 (p4 + (1 : Int32))))))
set_option maxHeartbeats 4000000 in
set_option maxRecDepth 100000 in
theorem lt_X9_noiseIn_5 {X : XT} (l : Launch) (G : Gp) (hI : Ij (wM G))  {S : Sg} {p1 : Int32} {p2 : Int32} (O : Ok X (wM G) cX9_noiseIn RX9 wsX9_noiseIn 6) : ∀ (n : Nat) (p3 : Int32) (p4 : Int32)  (q : (Int32)), T_X9_noiseIn_5 S p1 p2 n p3 p4  = some q → (Go X l rm_X9_noiseIn (wM G) 6 71 [(3, .int q)] [] S) → Go X l rm_X9_noiseIn (wM G) 6 5 [(0, .ref (G.2.1 0)), (1, .int p1), (2, .int p2), (3, .int p3), (4, .int p4)] [] S := by
  intro n
  induction n with
  | zero =>
    intro p3 p4  q hF
    cases hF
  | succ n ih =>
    intro p3 p4  q hF hE
    rw [T_X9_noiseIn_5] at hF
    refine go_iload O dX9_noiseIn_5 4 rfl ?_
    refine go_aload_n O dX9_noiseIn_7 rfl 0 rfl ?_
    refine go_get (k := 0) (j := 7) O (by decide : (0 : Nat) < 27) (cm_obj G (S.1 0) (S.2 0)) rfl in_X9_noiseIn_X9 (by decide) fl_X9_noiseIn_153 rfl rfl dX9_noiseIn_8 ?_
    refine go_icmp_ge (tgt := 71) O dX9_noiseIn_11 (by decide) (fun hc18 => ?_) (fun hc18 => ?_)
    · replace hF := it_t hc18 hF
      refine go_perm (ls' := [(3, .int p3)]) [3] rfl ?_
      exact jn (P := fun q => Go X l rm_X9_noiseIn (wM G) 6 71 [(3, .int q)] [] S) hF hE
    · replace hF := it_f hc18 hF
      refine go_iload_n O dX9_noiseIn_14 rfl 2 rfl ?_
      refine go_iload O dX9_noiseIn_15 4 rfl ?_
      obtain ⟨x3, hA2, hF⟩ := bd_s hF
      refine go_callSi (As := [.int p2, .int p4]) (rest := []) O (c_X9_has l G hI hA2) (fun s args hts => va_cwS 2 hts gX9_noiseIn_X9_has rfl rfl rfl (by decide +kernel) ⟨Nat.le_of_ble_eq_true rfl, Nat.le_of_ble_eq_true rfl⟩) rfl rfl (Nat.le_of_ble_eq_true rfl) dX9_noiseIn_17 ?_
      obtain ⟨x4, hA6, hF⟩ := bd_s hF
      have J5 : Go X l rm_X9_noiseIn (wM G) 6 50 [(0, .ref (G.2.1 0)), (1, .int p1), (2, .int p2), (3, .int p3), (4, .int p4)] [.int x4] S := by
        refine go_istore (ls' := [(5, .int x4), (0, .ref (G.2.1 0)), (1, .int p1), (2, .int p2), (3, .int p3), (4, .int p4)]) O dX9_noiseIn_50 (by decide) rfl ?_
        refine go_iload O dX9_noiseIn_52 0 rfl ?_
        refine go_iload_n O dX9_noiseIn_54 rfl 4 rfl ?_
        obtain ⟨x14, hA16, hF⟩ := bd_s hF
        have J15 : Go X l rm_X9_noiseIn (wM G) 6 64 [(0, .ref (G.2.1 0)), (1, .int p1), (2, .int p2), (4, .int p4)] [.int x14] S := by
          refine go_istore_n (ls' := [(3, .int x14), (0, .ref (G.2.1 0)), (1, .int p1), (2, .int p2), (4, .int p4)]) O dX9_noiseIn_64 rfl (by decide) rfl ?_
          refine go_iinc (d := (1 : Int32)) (ls' := [(4, .int (p4 + (1 : Int32))), (3, .int x14), (0, .ref (G.2.1 0)), (1, .int p1), (2, .int p2)]) O dX9_noiseIn_65 4 rfl (by decide) (by decide) rfl ?_
          refine go_goto (tgt := 5) O dX9_noiseIn_68 (by decide) ?_
          refine go_perm (ls' := [(0, .ref (G.2.1 0)), (1, .int p1), (2, .int p2), (3, .int x14), (4, .int (p4 + (1 : Int32)))]) [2, 3, 4, 1, 0] rfl ?_
          exact ih _ _ _ hF hE
        replace hF := hA16
        refine go_icmp_le (tgt := 63) O dX9_noiseIn_55 (by decide) (fun hc17 => ?_) (fun hc17 => ?_)
        · replace hF := it_t hc17 hF
          refine go_iload_n O dX9_noiseIn_63 rfl 4 rfl ?_
          refine go_perm (ls' := [(0, .ref (G.2.1 0)), (1, .int p1), (2, .int p2), (4, .int p4)]) [1, 2, 3, 5] rfl ?_
          exact jn (P := fun q => Go X l rm_X9_noiseIn (wM G) 6 64 [(0, .ref (G.2.1 0)), (1, .int p1), (2, .int p2), (4, .int p4)] [.int q] S) hF J15
        · replace hF := it_f hc17 hF
          refine go_iload O dX9_noiseIn_58 0 rfl ?_
          refine go_goto (tgt := 64) O dX9_noiseIn_60 (by decide) ?_
          refine go_perm (ls' := [(0, .ref (G.2.1 0)), (1, .int p1), (2, .int p2), (4, .int p4)]) [1, 2, 3, 5] rfl ?_
          exact jn (P := fun q => Go X l rm_X9_noiseIn (wM G) 6 64 [(0, .ref (G.2.1 0)), (1, .int p1), (2, .int p2), (4, .int p4)] [.int q] S) hF J15
      replace hF := hA6
      refine go_if_eq (tgt := 49) O dX9_noiseIn_20 (by decide) (fun hc13 => ?_) (fun hc13 => ?_)
      · replace hF := it_t hc13 hF
        refine go_iconst (v := (0 : Int32)) O dX9_noiseIn_49 (by decide) ?_
        exact jn (P := fun q => Go X l rm_X9_noiseIn (wM G) 6 50 [(0, .ref (G.2.1 0)), (1, .int p1), (2, .int p2), (3, .int p3), (4, .int p4)] [.int q] S) hF J5
      · replace hF := it_f hc13 hF
        refine go_aload_n O dX9_noiseIn_23 rfl 0 rfl ?_
        refine go_get (k := 0) (j := 4) O (by decide : (0 : Nat) < 27) (cm_obj G (S.1 0) (S.2 0)) rfl in_X9_noiseIn_X9 (by decide) fl_X9_noiseIn_22 rfl rfl dX9_noiseIn_24 ?_
        refine go_iload O dX9_noiseIn_27 4 rfl ?_
        obtain ⟨hb7, hF⟩ := chk_s hF
        refine go_iald (k := 5) O (by decide : (5 : Nat) < 27) (cm_5 G (S.1 5) (S.2 5)) (inB_in hb7) dX9_noiseIn_29 ?_
        obtain ⟨x9, hA8, hF⟩ := bd_s hF
        refine go_callSi (As := [.int (S.1 5 p4.toNatClampNeg)]) (rest := []) O (c_X9_sings l G hI hA8) (fun s args hts => va_cwS 1 hts gX9_noiseIn_X9_sings rfl rfl rfl (by decide +kernel) ⟨Nat.le_of_ble_eq_true rfl, Nat.le_of_ble_eq_true rfl⟩) rfl rfl (Nat.le_of_ble_eq_true rfl) dX9_noiseIn_30 ?_
        refine go_aload_n O dX9_noiseIn_33 rfl 0 rfl ?_
        refine go_aload_n O dX9_noiseIn_34 rfl 0 rfl ?_
        refine go_get (k := 0) (j := 5) O (by decide : (0 : Nat) < 27) (cm_obj G (S.1 0) (S.2 0)) rfl in_X9_noiseIn_X9 (by decide) fl_X9_noiseIn_25 rfl rfl dX9_noiseIn_35 ?_
        refine go_iload O dX9_noiseIn_38 4 rfl ?_
        obtain ⟨hb10, hF⟩ := chk_s hF
        refine go_iald (k := 6) O (by decide : (6 : Nat) < 27) (cm_6 G (S.1 6) (S.2 6)) (inB_in hb10) dX9_noiseIn_40 ?_
        refine go_iload_n O dX9_noiseIn_41 rfl 1 rfl ?_
        obtain ⟨x12, hA11, hF⟩ := bd_s hF
        refine go_callVi (As := [.int (S.1 6 p4.toNatClampNeg), .int p1]) (rest := [.int x9]) (b := 0) O (c_X9_between l G hI hA11) (fun s args hts => cwV 2 hts gX9_noiseIn_X9_between rfl rfl rfl (by decide +kernel) ⟨Nat.le_of_ble_eq_true rfl, Nat.le_of_ble_eq_true rfl⟩) (by decide : (0 : Nat) < 27) (cm_obj G (S.1 0) (S.2 0)) rfl rfl rfl rfl (Nat.le_of_ble_eq_true rfl) dX9_noiseIn_42 ?_
        refine go_isub O dX9_noiseIn_45 ?_
        refine go_goto (tgt := 50) O dX9_noiseIn_46 (by decide) ?_
        exact jn (P := fun q => Go X l rm_X9_noiseIn (wM G) 6 50 [(0, .ref (G.2.1 0)), (1, .int p1), (2, .int p2), (3, .int p3), (4, .int p4)] [.int q] S) hF J5
def F_X9_noiseIn  (S : Sg) (a1 : Int32) (a2 : Int32) : Option Int32 := bd (T_X9_noiseIn_5 S a1 a2 FU (0 : Int32) (0 : Int32)) (fun x1 => some x1)
set_option maxHeartbeats 4000000 in
set_option maxRecDepth 100000 in
theorem c_X9_noiseIn (l : Launch) (G : Gp) (hI : Ij (wM G))  {S : Sg} {a1 : Int32} {a2 : Int32} {r : Int32} (hF : F_X9_noiseIn S a1 a2 = some r) : Met l yX9_noiseIn wsX9_noiseIn rm_X9_noiseIn (va_Pc [.ref (G.2.1 0), .int a1, .int a2] (PreW (wM G) S)) (va_Qi (fun r' u => r' = r ∧ u = S) (PostW (wM G)) (AW (wM G))) 0 0 (AW (wM G)) := by
  rw [F_X9_noiseIn] at hF
  refine met_i (cc := cX9_noiseIn) (maxL := 6) (own := RX9) hI (by decide) rfl rfl (Nat.le_of_ble_eq_true rfl) (fun X O hR => ?_)
  show Go X l rm_X9_noiseIn (wM G) 6 0 [(0, .ref (G.2.1 0)), (1, .int a1), (2, .int a2)] [] S
  refine go_iconst (v := (0 : Int32)) O dX9_noiseIn_0 (by decide) ?_
  refine go_istore_n (ls' := [(3, .int (0 : Int32)), (0, .ref (G.2.1 0)), (1, .int a1), (2, .int a2)]) O dX9_noiseIn_1 rfl (by decide) rfl ?_
  refine go_iconst (v := (0 : Int32)) O dX9_noiseIn_2 (by decide) ?_
  refine go_istore (ls' := [(4, .int (0 : Int32)), (3, .int (0 : Int32)), (0, .ref (G.2.1 0)), (1, .int a1), (2, .int a2)]) O dX9_noiseIn_3 (by decide) rfl ?_
  refine go_perm (ls' := [(0, .ref (G.2.1 0)), (1, .int a1), (2, .int a2), (3, .int (0 : Int32)), (4, .int (0 : Int32))]) [2, 3, 4, 1, 0] rfl ?_
  obtain ⟨x1, hA19, hF⟩ := bd_s hF
  refine lt_X9_noiseIn_5 l G hI  O _ _ _ _ hA19 ?_
  refine go_iload_n O dX9_noiseIn_71 rfl 0 rfl ?_
  exact ret_i hF (hR _ _ dX9_noiseIn_72)
-- X9_isHeard
def rm_X9_isHeard : Room := { frames := 0, cells := 0, slots := 0, locals := 0 }
def F_X9_isHeard  (S : Sg) (a0 : Int32) (a1 : Int32) (a2 : Int32) : Option Int32 := if a0 = (5 : Int32) then (if a1 < a2 then (some (0 : Int32)) else (some (1 : Int32))) else (if a1 ≤ a2 then (some (0 : Int32)) else (bd (if a0 = (3 : Int32) then (some (4 : Int32)) else (some (1 : Int32))) (fun x1 => if a1 < x1 then (some (0 : Int32)) else (some (1 : Int32)))))
set_option maxHeartbeats 4000000 in
set_option maxRecDepth 100000 in
theorem c_X9_isHeard (l : Launch) (G : Gp) (hI : Ij (wM G))  {S : Sg} {a0 : Int32} {a1 : Int32} {a2 : Int32} {r : Int32} (hF : F_X9_isHeard S a0 a1 a2 = some r) : Met l yX9_isHeard wsX9_isHeard rm_X9_isHeard (va_Pc [.int a0, .int a1, .int a2] (PreW (wM G) S)) (va_Qi (fun r' u => r' = r ∧ u = S) (PostW (wM G)) (AW (wM G))) 0 0 (AW (wM G)) := by
  rw [F_X9_isHeard] at hF
  refine met_z (cc := cX9_isHeard) (maxL := 3) (own := RX9) hI (by decide) rfl rfl (Nat.le_of_ble_eq_true rfl) (fun X O hR => ?_)
  show Go X l rm_X9_isHeard (wM G) 3 0 [(0, .int a0), (1, .int a1), (2, .int a2)] [] S
  refine go_iload_n O dX9_isHeard_0 rfl 0 rfl ?_
  refine go_iconst (v := (5 : Int32)) O dX9_isHeard_1 (by decide) ?_
  refine go_icmp_ne (tgt := 18) O dX9_isHeard_2 (by decide) (fun hc8 => ?_) (fun hc8 => ?_)
  · replace hF := it_f hc8 hF
    refine go_iload_n O dX9_isHeard_18 rfl 1 rfl ?_
    refine go_iload_n O dX9_isHeard_19 rfl 2 rfl ?_
    refine go_icmp_le (tgt := 41) O dX9_isHeard_20 (by decide) (fun hc6 => ?_) (fun hc6 => ?_)
    · replace hF := it_t hc6 hF
      refine go_iconst (v := (0 : Int32)) O dX9_isHeard_41 (by decide) ?_
      exact ret_z hF (fun hz => hR _ _ hz dX9_isHeard_42) (show vp_nar .boolean (0 : Int32) = (0 : Int32) by decide)
    · replace hF := it_f hc6 hF
      refine go_iload_n O dX9_isHeard_23 rfl 1 rfl ?_
      refine go_iload_n O dX9_isHeard_24 rfl 0 rfl ?_
      refine go_iconst (v := (3 : Int32)) O dX9_isHeard_25 (by decide) ?_
      obtain ⟨x1, hA3, hF⟩ := bd_s hF
      have J2 : Go X l rm_X9_isHeard (wM G) 3 34 [] [.int x1, .int a1] S := by
        refine go_icmp_lt (tgt := 41) O dX9_isHeard_34 (by decide) (fun hc5 => ?_) (fun hc5 => ?_)
        · replace hF := it_t hc5 hF
          refine go_iconst (v := (0 : Int32)) O dX9_isHeard_41 (by decide) ?_
          exact ret_z hF (fun hz => hR _ _ hz dX9_isHeard_42) (show vp_nar .boolean (0 : Int32) = (0 : Int32) by decide)
        · replace hF := it_f hc5 hF
          refine go_iconst (v := (1 : Int32)) O dX9_isHeard_37 (by decide) ?_
          refine go_goto (tgt := 42) O dX9_isHeard_38 (by decide) ?_
          exact ret_z hF (fun hz => hR _ _ hz dX9_isHeard_42) (show vp_nar .boolean (1 : Int32) = (1 : Int32) by decide)
      replace hF := hA3
      refine go_icmp_ne (tgt := 33) O dX9_isHeard_26 (by decide) (fun hc4 => ?_) (fun hc4 => ?_)
      · replace hF := it_f hc4 hF
        refine go_iconst (v := (1 : Int32)) O dX9_isHeard_33 (by decide) ?_
        refine go_perm (ls' := []) [] rfl ?_
        exact jn (P := fun q => Go X l rm_X9_isHeard (wM G) 3 34 [] [.int q, .int a1] S) hF J2
      · replace hF := it_t hc4 hF
        refine go_iconst (v := (4 : Int32)) O dX9_isHeard_29 (by decide) ?_
        refine go_goto (tgt := 34) O dX9_isHeard_30 (by decide) ?_
        refine go_perm (ls' := []) [] rfl ?_
        exact jn (P := fun q => Go X l rm_X9_isHeard (wM G) 3 34 [] [.int q, .int a1] S) hF J2
  · replace hF := it_t hc8 hF
    refine go_iload_n O dX9_isHeard_5 rfl 1 rfl ?_
    refine go_iload_n O dX9_isHeard_6 rfl 2 rfl ?_
    refine go_icmp_lt (tgt := 14) O dX9_isHeard_7 (by decide) (fun hc7 => ?_) (fun hc7 => ?_)
    · replace hF := it_t hc7 hF
      refine go_iconst (v := (0 : Int32)) O dX9_isHeard_14 (by decide) ?_
      refine go_goto (tgt := 42) O dX9_isHeard_15 (by decide) ?_
      exact ret_z hF (fun hz => hR _ _ hz dX9_isHeard_42) (show vp_nar .boolean (0 : Int32) = (0 : Int32) by decide)
    · replace hF := it_f hc7 hF
      refine go_iconst (v := (1 : Int32)) O dX9_isHeard_10 (by decide) ?_
      refine go_goto (tgt := 42) O dX9_isHeard_11 (by decide) ?_
      exact ret_z hF (fun hz => hR _ _ hz dX9_isHeard_42) (show vp_nar .boolean (1 : Int32) = (1 : Int32) by decide)
-- X9_comesTo
def rm_X9_comesTo : Room := { frames := 1, cells := 0, slots := 0, locals := 26 }
theorem fl_X9_comesTo_22 : Cond.fieldLink RX9 22 "PaperWallsModel" "kinds" "[I" ∈ wsX9_comesTo := by decide +kernel
theorem fl_X9_comesTo_25 : Cond.fieldLink RX9 25 "PaperWallsModel" "where" "[I" ∈ wsX9_comesTo := by decide +kernel
theorem in_X9_comesTo_X9 : ∀ x ∈ u_ws RX9 TX9 36, x ∈ wsX9_comesTo := by decide +kernel
def F_X9_comesTo  (S : Sg) (a1 : Int32) (a2 : Int32) : Option Int32 := chk (inB a2 7) (bd (F_X9_speaks S (S.1 5 a2.toNatClampNeg)) (fun x3 => chk (inB a2 7) (bd (F_X9_between S (S.1 6 a2.toNatClampNeg) a1) (fun x6 => some (x3 - x6)))))
set_option maxHeartbeats 4000000 in
set_option maxRecDepth 100000 in
theorem c_X9_comesTo (l : Launch) (G : Gp) (hI : Ij (wM G))  {S : Sg} {a1 : Int32} {a2 : Int32} {r : Int32} (hF : F_X9_comesTo S a1 a2 = some r) : Met l yX9_comesTo wsX9_comesTo rm_X9_comesTo (va_Pc [.ref (G.2.1 0), .int a1, .int a2] (PreW (wM G) S)) (va_Qi (fun r' u => r' = r ∧ u = S) (PostW (wM G)) (AW (wM G))) 0 0 (AW (wM G)) := by
  rw [F_X9_comesTo] at hF
  refine met_i (cc := cX9_comesTo) (maxL := 3) (own := RX9) hI (by decide) rfl rfl (Nat.le_of_ble_eq_true rfl) (fun X O hR => ?_)
  show Go X l rm_X9_comesTo (wM G) 3 0 [(0, .ref (G.2.1 0)), (1, .int a1), (2, .int a2)] [] S
  refine go_aload_n O dX9_comesTo_0 rfl 0 rfl ?_
  refine go_get (k := 0) (j := 4) O (by decide : (0 : Nat) < 27) (cm_obj G (S.1 0) (S.2 0)) rfl in_X9_comesTo_X9 (by decide) fl_X9_comesTo_22 rfl rfl dX9_comesTo_1 ?_
  refine go_iload_n O dX9_comesTo_4 rfl 2 rfl ?_
  obtain ⟨hb1, hF⟩ := chk_s hF
  refine go_iald (k := 5) O (by decide : (5 : Nat) < 27) (cm_5 G (S.1 5) (S.2 5)) (inB_in hb1) dX9_comesTo_5 ?_
  obtain ⟨x3, hA2, hF⟩ := bd_s hF
  refine go_callSi (As := [.int (S.1 5 a2.toNatClampNeg)]) (rest := []) O (c_X9_speaks l G hI hA2) (fun s args hts => va_cwS 1 hts gX9_comesTo_X9_speaks rfl rfl rfl (by decide +kernel) ⟨Nat.le_of_ble_eq_true rfl, Nat.le_of_ble_eq_true rfl⟩) rfl rfl (Nat.le_of_ble_eq_true rfl) dX9_comesTo_6 ?_
  refine go_aload_n O dX9_comesTo_9 rfl 0 rfl ?_
  refine go_aload_n O dX9_comesTo_10 rfl 0 rfl ?_
  refine go_get (k := 0) (j := 5) O (by decide : (0 : Nat) < 27) (cm_obj G (S.1 0) (S.2 0)) rfl in_X9_comesTo_X9 (by decide) fl_X9_comesTo_25 rfl rfl dX9_comesTo_11 ?_
  refine go_iload_n O dX9_comesTo_14 rfl 2 rfl ?_
  obtain ⟨hb4, hF⟩ := chk_s hF
  refine go_iald (k := 6) O (by decide : (6 : Nat) < 27) (cm_6 G (S.1 6) (S.2 6)) (inB_in hb4) dX9_comesTo_15 ?_
  refine go_iload_n O dX9_comesTo_16 rfl 1 rfl ?_
  obtain ⟨x6, hA5, hF⟩ := bd_s hF
  refine go_callVi (As := [.int (S.1 6 a2.toNatClampNeg), .int a1]) (rest := [.int x3]) (b := 0) O (c_X9_between l G hI hA5) (fun s args hts => cwV 2 hts gX9_comesTo_X9_between rfl rfl rfl (by decide +kernel) ⟨Nat.le_of_ble_eq_true rfl, Nat.le_of_ble_eq_true rfl⟩) (by decide : (0 : Nat) < 27) (cm_obj G (S.1 0) (S.2 0)) rfl rfl rfl rfl (Nat.le_of_ble_eq_true rfl) dX9_comesTo_17 ?_
  refine go_isub O dX9_comesTo_20 ?_
  exact ret_i hF (hR _ _ dX9_comesTo_21)
-- X9_heardBy
def rm_X9_heardBy : Room := { frames := 3, cells := 0, slots := 0, locals := 65 }
theorem fl_X9_heardBy_22 : Cond.fieldLink RX9 22 "PaperWallsModel" "kinds" "[I" ∈ wsX9_heardBy := by decide +kernel
theorem fl_X9_heardBy_25 : Cond.fieldLink RX9 25 "PaperWallsModel" "where" "[I" ∈ wsX9_heardBy := by decide +kernel
theorem fl_X9_heardBy_153 : Cond.fieldLink RX9 153 "PaperWallsModel" "people" "I" ∈ wsX9_heardBy := by decide +kernel
theorem in_X9_heardBy_X9 : ∀ x ∈ u_ws RX9 TX9 36, x ∈ wsX9_heardBy := by decide +kernel
def T_X9_heardBy_5  (S : Sg) (p1 : Int32) (p2 : Int32) : Nat → Int32 → Int32 → Option (Int32)
  | 0, _, _ => none
  | n + 1, p3, p4 => if (S.1 0 7) ≤ p4 then (some p3) else (bd (if p4 = p1 then (some (0 : Int32)) else (bd (F_X9_has S p2 p4) (fun x6 => if x6 = 0 then (chk (inB p4 7) (chk (inB p4 7) (bd (F_X9_comesTo S (S.1 6 p4.toNatClampNeg) p1) (fun x10 => chk (inB p4 7) (bd (F_X9_noiseIn S (S.1 6 p4.toNatClampNeg) p2) (fun x13 => bd (F_X9_isHeard S (S.1 5 p4.toNatClampNeg) x10 x13) (fun x15 => if x15 = 0 then (some (0 : Int32)) else (some (1 : Int32))))))))) else (some (0 : Int32))))) (fun x2 => bd (if x2 = 0 then (some (0 : Int32)) else (some ((1 : Int32) <<< (p4 &&& 31)))) (fun x19 => nm (p3 ||| x19) (fun x23 => T_X9_heardBy_5 S p1 p2 n x23 (p4 + (1 : Int32))))))
set_option maxHeartbeats 4000000 in
set_option maxRecDepth 100000 in
theorem lt_X9_heardBy_5 {X : XT} (l : Launch) (G : Gp) (hI : Ij (wM G))  {S : Sg} {p1 : Int32} {p2 : Int32} (O : Ok X (wM G) cX9_heardBy RX9 wsX9_heardBy 6) : ∀ (n : Nat) (p3 : Int32) (p4 : Int32)  (q : (Int32)), T_X9_heardBy_5 S p1 p2 n p3 p4  = some q → (Go X l rm_X9_heardBy (wM G) 6 95 [(3, .int q)] [] S) → Go X l rm_X9_heardBy (wM G) 6 5 [(0, .ref (G.2.1 0)), (1, .int p1), (2, .int p2), (3, .int p3), (4, .int p4)] [] S := by
  intro n
  induction n with
  | zero =>
    intro p3 p4  q hF
    cases hF
  | succ n ih =>
    intro p3 p4  q hF hE
    rw [T_X9_heardBy_5] at hF
    refine go_iload O dX9_heardBy_5 4 rfl ?_
    refine go_aload_n O dX9_heardBy_7 rfl 0 rfl ?_
    refine go_get (k := 0) (j := 7) O (by decide : (0 : Nat) < 27) (cm_obj G (S.1 0) (S.2 0)) rfl in_X9_heardBy_X9 (by decide) fl_X9_heardBy_153 rfl rfl dX9_heardBy_8 ?_
    refine go_icmp_ge (tgt := 95) O dX9_heardBy_11 (by decide) (fun hc24 => ?_) (fun hc24 => ?_)
    · replace hF := it_t hc24 hF
      refine go_perm (ls' := [(3, .int p3)]) [3] rfl ?_
      exact jn (P := fun q => Go X l rm_X9_heardBy (wM G) 6 95 [(3, .int q)] [] S) hF hE
    · replace hF := it_f hc24 hF
      refine go_iload O dX9_heardBy_14 4 rfl ?_
      refine go_iload_n O dX9_heardBy_16 rfl 1 rfl ?_
      obtain ⟨x2, hA4, hF⟩ := bd_s hF
      have J3 : Go X l rm_X9_heardBy (wM G) 6 71 [(0, .ref (G.2.1 0)), (1, .int p1), (2, .int p2), (3, .int p3), (4, .int p4)] [.int x2] S := by
        refine go_istore (ls' := [(5, .int x2), (0, .ref (G.2.1 0)), (1, .int p1), (2, .int p2), (3, .int p3), (4, .int p4)]) O dX9_heardBy_71 (by decide) rfl ?_
        refine go_iload_n O dX9_heardBy_73 rfl 4 rfl ?_
        refine go_iload O dX9_heardBy_74 0 rfl ?_
        obtain ⟨x19, hA21, hF⟩ := bd_s hF
        have J20 : Go X l rm_X9_heardBy (wM G) 6 87 [(0, .ref (G.2.1 0)), (1, .int p1), (2, .int p2), (4, .int p4)] [.int x19, .int p3] S := by
          refine go_ior O dX9_heardBy_87 ?_
          obtain ⟨x23, ex23, hF⟩ := nm_s hF
          refine go_topi ex23 ?_
          refine go_istore_n (ls' := [(3, .int x23), (0, .ref (G.2.1 0)), (1, .int p1), (2, .int p2), (4, .int p4)]) O dX9_heardBy_88 rfl (by decide) rfl ?_
          refine go_iinc (d := (1 : Int32)) (ls' := [(4, .int (p4 + (1 : Int32))), (3, .int x23), (0, .ref (G.2.1 0)), (1, .int p1), (2, .int p2)]) O dX9_heardBy_89 4 rfl (by decide) (by decide) rfl ?_
          refine go_goto (tgt := 5) O dX9_heardBy_92 (by decide) ?_
          refine go_perm (ls' := [(0, .ref (G.2.1 0)), (1, .int p1), (2, .int p2), (3, .int x23), (4, .int (p4 + (1 : Int32)))]) [2, 3, 4, 1, 0] rfl ?_
          exact ih _ _ _ hF hE
        replace hF := hA21
        refine go_if_eq (tgt := 86) O dX9_heardBy_76 (by decide) (fun hc22 => ?_) (fun hc22 => ?_)
        · replace hF := it_t hc22 hF
          refine go_iconst (v := (0 : Int32)) O dX9_heardBy_86 (by decide) ?_
          refine go_perm (ls' := [(0, .ref (G.2.1 0)), (1, .int p1), (2, .int p2), (4, .int p4)]) [1, 2, 3, 5] rfl ?_
          exact jn (P := fun q => Go X l rm_X9_heardBy (wM G) 6 87 [(0, .ref (G.2.1 0)), (1, .int p1), (2, .int p2), (4, .int p4)] [.int q, .int p3] S) hF J20
        · replace hF := it_f hc22 hF
          refine go_iconst (v := (1 : Int32)) O dX9_heardBy_79 (by decide) ?_
          refine go_iload O dX9_heardBy_80 5 rfl ?_
          refine go_ishl O dX9_heardBy_82 ?_
          refine go_goto (tgt := 87) O dX9_heardBy_83 (by decide) ?_
          refine go_perm (ls' := [(0, .ref (G.2.1 0)), (1, .int p1), (2, .int p2), (4, .int p4)]) [1, 2, 3, 5] rfl ?_
          exact jn (P := fun q => Go X l rm_X9_heardBy (wM G) 6 87 [(0, .ref (G.2.1 0)), (1, .int p1), (2, .int p2), (4, .int p4)] [.int q, .int p3] S) hF J20
      replace hF := hA4
      refine go_icmp_eq (tgt := 70) O dX9_heardBy_17 (by decide) (fun hc18 => ?_) (fun hc18 => ?_)
      · replace hF := it_t hc18 hF
        refine go_iconst (v := (0 : Int32)) O dX9_heardBy_70 (by decide) ?_
        exact jn (P := fun q => Go X l rm_X9_heardBy (wM G) 6 71 [(0, .ref (G.2.1 0)), (1, .int p1), (2, .int p2), (3, .int p3), (4, .int p4)] [.int q] S) hF J3
      · replace hF := it_f hc18 hF
        refine go_iload_n O dX9_heardBy_20 rfl 2 rfl ?_
        refine go_iload O dX9_heardBy_21 4 rfl ?_
        obtain ⟨x6, hA5, hF⟩ := bd_s hF
        refine go_callSi (As := [.int p2, .int p4]) (rest := []) O (c_X9_has l G hI hA5) (fun s args hts => va_cwS 2 hts gX9_heardBy_X9_has rfl rfl rfl (by decide +kernel) ⟨Nat.le_of_ble_eq_true rfl, Nat.le_of_ble_eq_true rfl⟩) rfl rfl (Nat.le_of_ble_eq_true rfl) dX9_heardBy_23 ?_
        refine go_if_ne (tgt := 70) O dX9_heardBy_26 (by decide) (fun hc17 => ?_) (fun hc17 => ?_)
        · replace hF := it_f hc17 hF
          refine go_iconst (v := (0 : Int32)) O dX9_heardBy_70 (by decide) ?_
          exact jn (P := fun q => Go X l rm_X9_heardBy (wM G) 6 71 [(0, .ref (G.2.1 0)), (1, .int p1), (2, .int p2), (3, .int p3), (4, .int p4)] [.int q] S) hF J3
        · replace hF := it_t hc17 hF
          refine go_aload_n O dX9_heardBy_29 rfl 0 rfl ?_
          refine go_get (k := 0) (j := 4) O (by decide : (0 : Nat) < 27) (cm_obj G (S.1 0) (S.2 0)) rfl in_X9_heardBy_X9 (by decide) fl_X9_heardBy_22 rfl rfl dX9_heardBy_30 ?_
          refine go_iload O dX9_heardBy_33 4 rfl ?_
          obtain ⟨hb7, hF⟩ := chk_s hF
          refine go_iald (k := 5) O (by decide : (5 : Nat) < 27) (cm_5 G (S.1 5) (S.2 5)) (inB_in hb7) dX9_heardBy_35 ?_
          refine go_aload_n O dX9_heardBy_36 rfl 0 rfl ?_
          refine go_aload_n O dX9_heardBy_37 rfl 0 rfl ?_
          refine go_get (k := 0) (j := 5) O (by decide : (0 : Nat) < 27) (cm_obj G (S.1 0) (S.2 0)) rfl in_X9_heardBy_X9 (by decide) fl_X9_heardBy_25 rfl rfl dX9_heardBy_38 ?_
          refine go_iload O dX9_heardBy_41 4 rfl ?_
          obtain ⟨hb8, hF⟩ := chk_s hF
          refine go_iald (k := 6) O (by decide : (6 : Nat) < 27) (cm_6 G (S.1 6) (S.2 6)) (inB_in hb8) dX9_heardBy_43 ?_
          refine go_iload_n O dX9_heardBy_44 rfl 1 rfl ?_
          obtain ⟨x10, hA9, hF⟩ := bd_s hF
          refine go_callVi (As := [.int (S.1 6 p4.toNatClampNeg), .int p1]) (rest := [.int (S.1 5 p4.toNatClampNeg)]) (b := 0) O (c_X9_comesTo l G hI hA9) (fun s args hts => cwV 2 hts gX9_heardBy_X9_comesTo rfl rfl rfl (by decide +kernel) ⟨Nat.le_of_ble_eq_true rfl, Nat.le_of_ble_eq_true rfl⟩) (by decide : (0 : Nat) < 27) (cm_obj G (S.1 0) (S.2 0)) rfl rfl rfl rfl (Nat.le_of_ble_eq_true rfl) dX9_heardBy_45 ?_
          refine go_aload_n O dX9_heardBy_48 rfl 0 rfl ?_
          refine go_aload_n O dX9_heardBy_49 rfl 0 rfl ?_
          refine go_get (k := 0) (j := 5) O (by decide : (0 : Nat) < 27) (cm_obj G (S.1 0) (S.2 0)) rfl in_X9_heardBy_X9 (by decide) fl_X9_heardBy_25 rfl rfl dX9_heardBy_50 ?_
          refine go_iload O dX9_heardBy_53 4 rfl ?_
          obtain ⟨hb11, hF⟩ := chk_s hF
          refine go_iald (k := 6) O (by decide : (6 : Nat) < 27) (cm_6 G (S.1 6) (S.2 6)) (inB_in hb11) dX9_heardBy_55 ?_
          refine go_iload_n O dX9_heardBy_56 rfl 2 rfl ?_
          obtain ⟨x13, hA12, hF⟩ := bd_s hF
          refine go_callVi (As := [.int (S.1 6 p4.toNatClampNeg), .int p2]) (rest := [.int x10, .int (S.1 5 p4.toNatClampNeg)]) (b := 0) O (c_X9_noiseIn l G hI hA12) (fun s args hts => cwV 2 hts gX9_heardBy_X9_noiseIn rfl rfl rfl (by decide +kernel) ⟨Nat.le_of_ble_eq_true rfl, Nat.le_of_ble_eq_true rfl⟩) (by decide : (0 : Nat) < 27) (cm_obj G (S.1 0) (S.2 0)) rfl rfl rfl rfl (Nat.le_of_ble_eq_true rfl) dX9_heardBy_57 ?_
          obtain ⟨x15, hA14, hF⟩ := bd_s hF
          refine go_callSi (As := [.int (S.1 5 p4.toNatClampNeg), .int x10, .int x13]) (rest := []) O (c_X9_isHeard l G hI hA14) (fun s args hts => va_cwS 3 hts gX9_heardBy_X9_isHeard rfl rfl rfl (by decide +kernel) ⟨Nat.le_of_ble_eq_true rfl, Nat.le_of_ble_eq_true rfl⟩) rfl rfl (Nat.le_of_ble_eq_true rfl) dX9_heardBy_60 ?_
          refine go_if_eq (tgt := 70) O dX9_heardBy_63 (by decide) (fun hc16 => ?_) (fun hc16 => ?_)
          · replace hF := it_t hc16 hF
            refine go_iconst (v := (0 : Int32)) O dX9_heardBy_70 (by decide) ?_
            exact jn (P := fun q => Go X l rm_X9_heardBy (wM G) 6 71 [(0, .ref (G.2.1 0)), (1, .int p1), (2, .int p2), (3, .int p3), (4, .int p4)] [.int q] S) hF J3
          · replace hF := it_f hc16 hF
            refine go_iconst (v := (1 : Int32)) O dX9_heardBy_66 (by decide) ?_
            refine go_goto (tgt := 71) O dX9_heardBy_67 (by decide) ?_
            exact jn (P := fun q => Go X l rm_X9_heardBy (wM G) 6 71 [(0, .ref (G.2.1 0)), (1, .int p1), (2, .int p2), (3, .int p3), (4, .int p4)] [.int q] S) hF J3
def F_X9_heardBy  (S : Sg) (a1 : Int32) (a2 : Int32) : Option Int32 := bd (T_X9_heardBy_5 S a1 a2 FU (0 : Int32) (0 : Int32)) (fun x1 => some x1)
set_option maxHeartbeats 4000000 in
set_option maxRecDepth 100000 in
theorem c_X9_heardBy (l : Launch) (G : Gp) (hI : Ij (wM G))  {S : Sg} {a1 : Int32} {a2 : Int32} {r : Int32} (hF : F_X9_heardBy S a1 a2 = some r) : Met l yX9_heardBy wsX9_heardBy rm_X9_heardBy (va_Pc [.ref (G.2.1 0), .int a1, .int a2] (PreW (wM G) S)) (va_Qi (fun r' u => r' = r ∧ u = S) (PostW (wM G)) (AW (wM G))) 0 0 (AW (wM G)) := by
  rw [F_X9_heardBy] at hF
  refine met_i (cc := cX9_heardBy) (maxL := 6) (own := RX9) hI (by decide) rfl rfl (Nat.le_of_ble_eq_true rfl) (fun X O hR => ?_)
  show Go X l rm_X9_heardBy (wM G) 6 0 [(0, .ref (G.2.1 0)), (1, .int a1), (2, .int a2)] [] S
  refine go_iconst (v := (0 : Int32)) O dX9_heardBy_0 (by decide) ?_
  refine go_istore_n (ls' := [(3, .int (0 : Int32)), (0, .ref (G.2.1 0)), (1, .int a1), (2, .int a2)]) O dX9_heardBy_1 rfl (by decide) rfl ?_
  refine go_iconst (v := (0 : Int32)) O dX9_heardBy_2 (by decide) ?_
  refine go_istore (ls' := [(4, .int (0 : Int32)), (3, .int (0 : Int32)), (0, .ref (G.2.1 0)), (1, .int a1), (2, .int a2)]) O dX9_heardBy_3 (by decide) rfl ?_
  refine go_perm (ls' := [(0, .ref (G.2.1 0)), (1, .int a1), (2, .int a2), (3, .int (0 : Int32)), (4, .int (0 : Int32))]) [2, 3, 4, 1, 0] rfl ?_
  obtain ⟨x1, hA25, hF⟩ := bd_s hF
  refine lt_X9_heardBy_5 l G hI  O _ _ _ _ hA25 ?_
  refine go_iload_n O dX9_heardBy_95 rfl 0 rfl ?_
  exact ret_i hF (hR _ _ dX9_heardBy_96)
-- X9_doesHear
def rm_X9_doesHear : Room := { frames := 4, cells := 0, slots := 0, locals := 90 }
def F_X9_doesHear  (S : Sg) (a1 : Int32) (a2 : Int32) : Option Int32 := bd (F_X9_heardBy S a2 (0 : Int32)) (fun x2 => bd (F_X9_has S x2 a1) (fun x4 => chk (zB x4) (some x4)))
set_option maxHeartbeats 4000000 in
set_option maxRecDepth 100000 in
theorem c_X9_doesHear (l : Launch) (G : Gp) (hI : Ij (wM G))  {S : Sg} {a1 : Int32} {a2 : Int32} {r : Int32} (hF : F_X9_doesHear S a1 a2 = some r) : Met l yX9_doesHear wsX9_doesHear rm_X9_doesHear (va_Pc [.ref (G.2.1 0), .int a1, .int a2] (PreW (wM G) S)) (va_Qi (fun r' u => r' = r ∧ u = S) (PostW (wM G)) (AW (wM G))) 0 0 (AW (wM G)) := by
  rw [F_X9_doesHear] at hF
  refine met_z (cc := cX9_doesHear) (maxL := 3) (own := RX9) hI (by decide) rfl rfl (Nat.le_of_ble_eq_true rfl) (fun X O hR => ?_)
  show Go X l rm_X9_doesHear (wM G) 3 0 [(0, .ref (G.2.1 0)), (1, .int a1), (2, .int a2)] [] S
  refine go_aload_n O dX9_doesHear_0 rfl 0 rfl ?_
  refine go_iload_n O dX9_doesHear_1 rfl 2 rfl ?_
  refine go_iconst (v := (0 : Int32)) O dX9_doesHear_2 (by decide) ?_
  obtain ⟨x2, hA1, hF⟩ := bd_s hF
  refine go_callVi (As := [.int a2, .int (0 : Int32)]) (rest := []) (b := 0) O (c_X9_heardBy l G hI hA1) (fun s args hts => cwV 2 hts gX9_doesHear_X9_heardBy rfl rfl rfl (by decide +kernel) ⟨Nat.le_of_ble_eq_true rfl, Nat.le_of_ble_eq_true rfl⟩) (by decide : (0 : Nat) < 27) (cm_obj G (S.1 0) (S.2 0)) rfl rfl rfl rfl (Nat.le_of_ble_eq_true rfl) dX9_doesHear_3 ?_
  refine go_iload_n O dX9_doesHear_6 rfl 1 rfl ?_
  obtain ⟨x4, hA3, hF⟩ := bd_s hF
  refine go_callSi (As := [.int x2, .int a1]) (rest := []) O (c_X9_has l G hI hA3) (fun s args hts => va_cwS 2 hts gX9_doesHear_X9_has rfl rfl rfl (by decide +kernel) ⟨Nat.le_of_ble_eq_true rfl, Nat.le_of_ble_eq_true rfl⟩) rfl rfl (Nat.le_of_ble_eq_true rfl) dX9_doesHear_7 ?_
  obtain ⟨hz5, hF⟩ := chk_s hF
  exact ret_z hF (fun hz => hR _ _ hz dX9_doesHear_10) (zB_s hz5)
-- X9_personOf
def rm_X9_personOf : Room := { frames := 2, cells := 0, slots := 0, locals := 40 }
theorem fl_X9_personOf_22 : Cond.fieldLink RX9 22 "PaperWallsModel" "kinds" "[I" ∈ wsX9_personOf := by decide +kernel
theorem fl_X9_personOf_25 : Cond.fieldLink RX9 25 "PaperWallsModel" "where" "[I" ∈ wsX9_personOf := by decide +kernel
theorem fl_X9_personOf_34 : Cond.fieldLink RX9 34 "PaperWallsModel" "known" "[I" ∈ wsX9_personOf := by decide +kernel
theorem in_X9_personOf_X9 : ∀ x ∈ u_ws RX9 TX9 36, x ∈ wsX9_personOf := by decide +kernel
def T_X9_personOf_5  (S : Sg) (p1 : Int32) (p2 : Int32) : Nat → Int32 → Int32 → Option (Int32)
  | 0, _, _ => none
  | n + 1, p3, p4 => if (8 : Int32) ≤ p4 then (some p3) else (chk (inB p4 8) (bd (F_X9_has S (S.1 9 p4.toNatClampNeg) p1) (fun x4 => bd (if x4 = 0 then (some (0 : Int32)) else (some ((1 : Int32) <<< (p4 &&& 31)))) (fun x5 => nm (p3 ||| x5) (fun x9 => T_X9_personOf_5 S p1 p2 n x9 (p4 + (1 : Int32)))))))
set_option maxHeartbeats 4000000 in
set_option maxRecDepth 100000 in
theorem lt_X9_personOf_5 {X : XT} (l : Launch) (G : Gp) (hI : Ij (wM G))  {S : Sg} {p1 : Int32} {p2 : Int32} (O : Ok X (wM G) cX9_personOf RX9 wsX9_personOf 5) : ∀ (n : Nat) (p3 : Int32) (p4 : Int32)  (q : (Int32)), T_X9_personOf_5 S p1 p2 n p3 p4  = some q → (Go X l rm_X9_personOf (wM G) 5 43 [(0, .ref (G.2.1 0)), (1, .int p1), (2, .int p2), (3, .int q)] [] S) → Go X l rm_X9_personOf (wM G) 5 5 [(0, .ref (G.2.1 0)), (1, .int p1), (2, .int p2), (3, .int p3), (4, .int p4)] [] S := by
  intro n
  induction n with
  | zero =>
    intro p3 p4  q hF
    cases hF
  | succ n ih =>
    intro p3 p4  q hF hE
    rw [T_X9_personOf_5] at hF
    refine go_iload O dX9_personOf_5 4 rfl ?_
    refine go_bipush (v := (8 : Int32)) O dX9_personOf_7 (by decide) ?_
    refine go_icmp_ge (tgt := 43) O dX9_personOf_9 (by decide) (fun hc10 => ?_) (fun hc10 => ?_)
    · replace hF := it_t hc10 hF
      refine go_perm (ls' := [(0, .ref (G.2.1 0)), (1, .int p1), (2, .int p2), (3, .int p3)]) [0, 1, 2, 3] rfl ?_
      exact jn (P := fun q => Go X l rm_X9_personOf (wM G) 5 43 [(0, .ref (G.2.1 0)), (1, .int p1), (2, .int p2), (3, .int q)] [] S) hF hE
    · replace hF := it_f hc10 hF
      refine go_iload_n O dX9_personOf_12 rfl 3 rfl ?_
      refine go_aload_n O dX9_personOf_13 rfl 0 rfl ?_
      refine go_get (k := 0) (j := 11) O (by decide : (0 : Nat) < 27) (cm_obj G (S.1 0) (S.2 0)) rfl in_X9_personOf_X9 (by decide) fl_X9_personOf_34 rfl rfl dX9_personOf_14 ?_
      refine go_iload O dX9_personOf_17 4 rfl ?_
      obtain ⟨hb2, hF⟩ := chk_s hF
      refine go_iald (k := 9) O (by decide : (9 : Nat) < 27) (cm_9 G (S.1 9) (S.2 9)) (inB_in hb2) dX9_personOf_19 ?_
      refine go_iload_n O dX9_personOf_20 rfl 1 rfl ?_
      obtain ⟨x4, hA3, hF⟩ := bd_s hF
      refine go_callSi (As := [.int (S.1 9 p4.toNatClampNeg), .int p1]) (rest := [.int p3]) O (c_X9_has l G hI hA3) (fun s args hts => va_cwS 2 hts gX9_personOf_X9_has rfl rfl rfl (by decide +kernel) ⟨Nat.le_of_ble_eq_true rfl, Nat.le_of_ble_eq_true rfl⟩) rfl rfl (Nat.le_of_ble_eq_true rfl) dX9_personOf_21 ?_
      obtain ⟨x5, hA7, hF⟩ := bd_s hF
      have J6 : Go X l rm_X9_personOf (wM G) 5 35 [(0, .ref (G.2.1 0)), (1, .int p1), (2, .int p2), (4, .int p4)] [.int x5, .int p3] S := by
        refine go_ior O dX9_personOf_35 ?_
        obtain ⟨x9, ex9, hF⟩ := nm_s hF
        refine go_topi ex9 ?_
        refine go_istore_n (ls' := [(3, .int x9), (0, .ref (G.2.1 0)), (1, .int p1), (2, .int p2), (4, .int p4)]) O dX9_personOf_36 rfl (by decide) rfl ?_
        refine go_iinc (d := (1 : Int32)) (ls' := [(4, .int (p4 + (1 : Int32))), (3, .int x9), (0, .ref (G.2.1 0)), (1, .int p1), (2, .int p2)]) O dX9_personOf_37 4 rfl (by decide) (by decide) rfl ?_
        refine go_goto (tgt := 5) O dX9_personOf_40 (by decide) ?_
        refine go_perm (ls' := [(0, .ref (G.2.1 0)), (1, .int p1), (2, .int p2), (3, .int x9), (4, .int (p4 + (1 : Int32)))]) [2, 3, 4, 1, 0] rfl ?_
        exact ih _ _ _ hF hE
      replace hF := hA7
      refine go_if_eq (tgt := 34) O dX9_personOf_24 (by decide) (fun hc8 => ?_) (fun hc8 => ?_)
      · replace hF := it_t hc8 hF
        refine go_iconst (v := (0 : Int32)) O dX9_personOf_34 (by decide) ?_
        refine go_perm (ls' := [(0, .ref (G.2.1 0)), (1, .int p1), (2, .int p2), (4, .int p4)]) [0, 1, 2, 4] rfl ?_
        exact jn (P := fun q => Go X l rm_X9_personOf (wM G) 5 35 [(0, .ref (G.2.1 0)), (1, .int p1), (2, .int p2), (4, .int p4)] [.int q, .int p3] S) hF J6
      · replace hF := it_f hc8 hF
        refine go_iconst (v := (1 : Int32)) O dX9_personOf_27 (by decide) ?_
        refine go_iload O dX9_personOf_28 4 rfl ?_
        refine go_ishl O dX9_personOf_30 ?_
        refine go_goto (tgt := 35) O dX9_personOf_31 (by decide) ?_
        refine go_perm (ls' := [(0, .ref (G.2.1 0)), (1, .int p1), (2, .int p2), (4, .int p4)]) [0, 1, 2, 4] rfl ?_
        exact jn (P := fun q => Go X l rm_X9_personOf (wM G) 5 35 [(0, .ref (G.2.1 0)), (1, .int p1), (2, .int p2), (4, .int p4)] [.int q, .int p3] S) hF J6
def F_X9_personOf  (S : Sg) (a1 : Int32) (a2 : Int32) : Option Int32 := bd (T_X9_personOf_5 S a1 a2 FU (0 : Int32) (0 : Int32)) (fun x1 => if a2 = 0 then (chk (inB a1 7) (some (S.1 5 a1.toNatClampNeg))) else (if a2 = (1 : Int32) then (chk (inB a1 7) (some (S.1 6 a1.toNatClampNeg))) else (if a2 = (2 : Int32) then (chk (inB a1 7) (bd (F_X9_speaks S (S.1 5 a1.toNatClampNeg)) (fun x18 => some x18))) else (if a2 = (3 : Int32) then (chk (inB a1 7) (bd (F_X9_sings S (S.1 5 a1.toNatClampNeg)) (fun x14 => some x14))) else (some x1)))))
set_option maxHeartbeats 4000000 in
set_option maxRecDepth 100000 in
theorem c_X9_personOf (l : Launch) (G : Gp) (hI : Ij (wM G))  {S : Sg} {a1 : Int32} {a2 : Int32} {r : Int32} (hF : F_X9_personOf S a1 a2 = some r) : Met l yX9_personOf wsX9_personOf rm_X9_personOf (va_Pc [.ref (G.2.1 0), .int a1, .int a2] (PreW (wM G) S)) (va_Qi (fun r' u => r' = r ∧ u = S) (PostW (wM G)) (AW (wM G))) 0 0 (AW (wM G)) := by
  rw [F_X9_personOf] at hF
  refine met_i (cc := cX9_personOf) (maxL := 5) (own := RX9) hI (by decide) rfl rfl (Nat.le_of_ble_eq_true rfl) (fun X O hR => ?_)
  show Go X l rm_X9_personOf (wM G) 5 0 [(0, .ref (G.2.1 0)), (1, .int a1), (2, .int a2)] [] S
  refine go_iconst (v := (0 : Int32)) O dX9_personOf_0 (by decide) ?_
  refine go_istore_n (ls' := [(3, .int (0 : Int32)), (0, .ref (G.2.1 0)), (1, .int a1), (2, .int a2)]) O dX9_personOf_1 rfl (by decide) rfl ?_
  refine go_iconst (v := (0 : Int32)) O dX9_personOf_2 (by decide) ?_
  refine go_istore (ls' := [(4, .int (0 : Int32)), (3, .int (0 : Int32)), (0, .ref (G.2.1 0)), (1, .int a1), (2, .int a2)]) O dX9_personOf_3 (by decide) rfl ?_
  refine go_perm (ls' := [(0, .ref (G.2.1 0)), (1, .int a1), (2, .int a2), (3, .int (0 : Int32)), (4, .int (0 : Int32))]) [2, 3, 4, 1, 0] rfl ?_
  obtain ⟨x1, hA11, hF⟩ := bd_s hF
  refine lt_X9_personOf_5 l G hI  O _ _ _ _ hA11 ?_
  refine go_iload_n O dX9_personOf_43 rfl 2 rfl ?_
  refine go_if_ne (tgt := 56) O dX9_personOf_44 (by decide) (fun hc23 => ?_) (fun hc23 => ?_)
  · replace hF := it_f hc23 hF
    refine go_iload_n O dX9_personOf_56 rfl 2 rfl ?_
    refine go_iconst (v := (1 : Int32)) O dX9_personOf_57 (by decide) ?_
    refine go_icmp_ne (tgt := 70) O dX9_personOf_58 (by decide) (fun hc21 => ?_) (fun hc21 => ?_)
    · replace hF := it_f hc21 hF
      refine go_iload_n O dX9_personOf_70 rfl 2 rfl ?_
      refine go_iconst (v := (2 : Int32)) O dX9_personOf_71 (by decide) ?_
      refine go_icmp_ne (tgt := 87) O dX9_personOf_72 (by decide) (fun hc19 => ?_) (fun hc19 => ?_)
      · replace hF := it_f hc19 hF
        refine go_iload_n O dX9_personOf_87 rfl 2 rfl ?_
        refine go_iconst (v := (3 : Int32)) O dX9_personOf_88 (by decide) ?_
        refine go_icmp_ne (tgt := 104) O dX9_personOf_89 (by decide) (fun hc15 => ?_) (fun hc15 => ?_)
        · replace hF := it_f hc15 hF
          refine go_iload_n O dX9_personOf_104 rfl 3 rfl ?_
          exact ret_i hF (hR _ _ dX9_personOf_105)
        · replace hF := it_t hc15 hF
          refine go_aload_n O dX9_personOf_92 rfl 0 rfl ?_
          refine go_get (k := 0) (j := 4) O (by decide : (0 : Nat) < 27) (cm_obj G (S.1 0) (S.2 0)) rfl in_X9_personOf_X9 (by decide) fl_X9_personOf_22 rfl rfl dX9_personOf_93 ?_
          refine go_iload_n O dX9_personOf_96 rfl 1 rfl ?_
          obtain ⟨hb12, hF⟩ := chk_s hF
          refine go_iald (k := 5) O (by decide : (5 : Nat) < 27) (cm_5 G (S.1 5) (S.2 5)) (inB_in hb12) dX9_personOf_97 ?_
          obtain ⟨x14, hA13, hF⟩ := bd_s hF
          refine go_callSi (As := [.int (S.1 5 a1.toNatClampNeg)]) (rest := []) O (c_X9_sings l G hI hA13) (fun s args hts => va_cwS 1 hts gX9_personOf_X9_sings rfl rfl rfl (by decide +kernel) ⟨Nat.le_of_ble_eq_true rfl, Nat.le_of_ble_eq_true rfl⟩) rfl rfl (Nat.le_of_ble_eq_true rfl) dX9_personOf_98 ?_
          refine go_goto (tgt := 105) O dX9_personOf_101 (by decide) ?_
          exact ret_i hF (hR _ _ dX9_personOf_105)
      · replace hF := it_t hc19 hF
        refine go_aload_n O dX9_personOf_75 rfl 0 rfl ?_
        refine go_get (k := 0) (j := 4) O (by decide : (0 : Nat) < 27) (cm_obj G (S.1 0) (S.2 0)) rfl in_X9_personOf_X9 (by decide) fl_X9_personOf_22 rfl rfl dX9_personOf_76 ?_
        refine go_iload_n O dX9_personOf_79 rfl 1 rfl ?_
        obtain ⟨hb16, hF⟩ := chk_s hF
        refine go_iald (k := 5) O (by decide : (5 : Nat) < 27) (cm_5 G (S.1 5) (S.2 5)) (inB_in hb16) dX9_personOf_80 ?_
        obtain ⟨x18, hA17, hF⟩ := bd_s hF
        refine go_callSi (As := [.int (S.1 5 a1.toNatClampNeg)]) (rest := []) O (c_X9_speaks l G hI hA17) (fun s args hts => va_cwS 1 hts gX9_personOf_X9_speaks rfl rfl rfl (by decide +kernel) ⟨Nat.le_of_ble_eq_true rfl, Nat.le_of_ble_eq_true rfl⟩) rfl rfl (Nat.le_of_ble_eq_true rfl) dX9_personOf_81 ?_
        refine go_goto (tgt := 105) O dX9_personOf_84 (by decide) ?_
        exact ret_i hF (hR _ _ dX9_personOf_105)
    · replace hF := it_t hc21 hF
      refine go_aload_n O dX9_personOf_61 rfl 0 rfl ?_
      refine go_get (k := 0) (j := 5) O (by decide : (0 : Nat) < 27) (cm_obj G (S.1 0) (S.2 0)) rfl in_X9_personOf_X9 (by decide) fl_X9_personOf_25 rfl rfl dX9_personOf_62 ?_
      refine go_iload_n O dX9_personOf_65 rfl 1 rfl ?_
      obtain ⟨hb20, hF⟩ := chk_s hF
      refine go_iald (k := 6) O (by decide : (6 : Nat) < 27) (cm_6 G (S.1 6) (S.2 6)) (inB_in hb20) dX9_personOf_66 ?_
      refine go_goto (tgt := 105) O dX9_personOf_67 (by decide) ?_
      exact ret_i hF (hR _ _ dX9_personOf_105)
  · replace hF := it_t hc23 hF
    refine go_aload_n O dX9_personOf_47 rfl 0 rfl ?_
    refine go_get (k := 0) (j := 4) O (by decide : (0 : Nat) < 27) (cm_obj G (S.1 0) (S.2 0)) rfl in_X9_personOf_X9 (by decide) fl_X9_personOf_22 rfl rfl dX9_personOf_48 ?_
    refine go_iload_n O dX9_personOf_51 rfl 1 rfl ?_
    obtain ⟨hb22, hF⟩ := chk_s hF
    refine go_iald (k := 5) O (by decide : (5 : Nat) < 27) (cm_5 G (S.1 5) (S.2 5)) (inB_in hb22) dX9_personOf_52 ?_
    refine go_goto (tgt := 105) O dX9_personOf_53 (by decide) ?_
    exact ret_i hF (hR _ _ dX9_personOf_105)
-- X9_person
def rm_X9_person : Room := { frames := 3, cells := 0, slots := 0, locals := 64 }
theorem wd_X9_person_c191 : Cond.constantLong RX9 191 (4) ∈ wsX9_person := by decide +kernel
def F_X9_person  (S : Sg) (a1 : Int32) (a2 : Int32) : Option (Int32 × Sg) := bd (F_X9_isOne S a1) (fun x2 => if x2 = 0 then (some ((-1 : Int32), S)) else (bd (F_X9_in S (Int32.toInt64 a2) (0 : Int64) (4 : Int64)) (fun x4 => if x4 = 0 then (some ((-1 : Int32), S)) else (bd (F_X9_personOf S a1 a2) (fun x6 => bd (F_X9_say S (1 : Int32) x6) (fun (x8, S9) => some (x8, S9)))))))
set_option maxHeartbeats 4000000 in
set_option maxRecDepth 100000 in
theorem c_X9_person (l : Launch) (G : Gp) (hI : Ij (wM G))  {S : Sg} {a1 : Int32} {a2 : Int32} {r : Int32} {S1 : Sg} (hF : F_X9_person S a1 a2 = some (r, S1)) : Met l yX9_person wsX9_person rm_X9_person (va_Pc [.ref (G.2.1 0), .int a1, .int a2] (PreW (wM G) S)) (va_Qi (fun r' u => r' = r ∧ u = S1) (PostW (wM G)) (AW (wM G))) 0 0 (AW (wM G)) := by
  rw [F_X9_person] at hF
  refine met_i (cc := cX9_person) (maxL := 3) (own := RX9) hI (by decide) rfl rfl (Nat.le_of_ble_eq_true rfl) (fun X O hR => ?_)
  show Go X l rm_X9_person (wM G) 3 0 [(0, .ref (G.2.1 0)), (1, .int a1), (2, .int a2)] [] S
  refine go_aload_n O dX9_person_0 rfl 0 rfl ?_
  refine go_iload_n O dX9_person_1 rfl 1 rfl ?_
  obtain ⟨x2, hA1, hF⟩ := bd_s hF
  refine go_callVi (As := [.int a1]) (rest := []) (b := 0) O (c_X9_isOne l G hI hA1) (fun s args hts => cwV 1 hts gX9_person_X9_isOne rfl rfl rfl (by decide +kernel) ⟨Nat.le_of_ble_eq_true rfl, Nat.le_of_ble_eq_true rfl⟩) (by decide : (0 : Nat) < 27) (cm_obj G (S.1 0) (S.2 0)) rfl rfl rfl rfl (Nat.le_of_ble_eq_true rfl) dX9_person_2 ?_
  refine go_if_eq (tgt := 20) O dX9_person_5 (by decide) (fun hc11 => ?_) (fun hc11 => ?_)
  · replace hF := it_t hc11 hF
    refine go_iconst (v := (-1 : Int32)) O dX9_person_20 (by decide) ?_
    exact ret_wi hF (hR _ _ dX9_person_21)
  · replace hF := it_f hc11 hF
    refine go_iload_n O dX9_person_8 rfl 2 rfl ?_
    refine go_i2l (v := Int32.toInt64 a2) O dX9_person_9 rfl ?_
    refine go_lconst (v := (0 : Int64)) O dX9_person_10 (by decide) ?_
    refine go_ldc2 (v := (4 : Int64)) O dX9_person_11 wd_X9_person_c191 ?_
    obtain ⟨x4, hA3, hF⟩ := bd_s hF
    refine go_callSi (As := [.long (Int32.toInt64 a2), .long (0 : Int64), .long (4 : Int64)]) (rest := []) O (c_X9_in l G hI hA3) (fun s args hts => va_cwS 3 hts gX9_person_X9_in rfl rfl rfl (by decide +kernel) ⟨Nat.le_of_ble_eq_true rfl, Nat.le_of_ble_eq_true rfl⟩) rfl rfl (Nat.le_of_ble_eq_true rfl) dX9_person_14 ?_
    refine go_if_ne (tgt := 22) O dX9_person_17 (by decide) (fun hc10 => ?_) (fun hc10 => ?_)
    · replace hF := it_f hc10 hF
      refine go_aload_n O dX9_person_22 rfl 0 rfl ?_
      refine go_iconst (v := (1 : Int32)) O dX9_person_23 (by decide) ?_
      refine go_aload_n O dX9_person_24 rfl 0 rfl ?_
      refine go_iload_n O dX9_person_25 rfl 1 rfl ?_
      refine go_iload_n O dX9_person_26 rfl 2 rfl ?_
      obtain ⟨x6, hA5, hF⟩ := bd_s hF
      refine go_callVi (As := [.int a1, .int a2]) (rest := [.int (1 : Int32), .ref (G.2.1 0)]) (b := 0) O (c_X9_personOf l G hI hA5) (fun s args hts => cwV 2 hts gX9_person_X9_personOf rfl rfl rfl (by decide +kernel) ⟨Nat.le_of_ble_eq_true rfl, Nat.le_of_ble_eq_true rfl⟩) (by decide : (0 : Nat) < 27) (cm_obj G (S.1 0) (S.2 0)) rfl rfl rfl rfl (Nat.le_of_ble_eq_true rfl) dX9_person_27 ?_
      obtain ⟨⟨x8, S9⟩, hA7, hF⟩ := bd_s hF
      refine go_callVi (As := [.int (1 : Int32), .int x6]) (rest := []) (b := 0) O (c_X9_say l G hI hA7) (fun s args hts => cwV 2 hts gX9_person_X9_say rfl rfl rfl (by decide +kernel) ⟨Nat.le_of_ble_eq_true rfl, Nat.le_of_ble_eq_true rfl⟩) (by decide : (0 : Nat) < 27) (cm_obj G (S.1 0) (S.2 0)) rfl rfl rfl rfl (Nat.le_of_ble_eq_true rfl) dX9_person_30 ?_
      exact ret_wi hF (hR _ _ dX9_person_33)
    · replace hF := it_t hc10 hF
      refine go_iconst (v := (-1 : Int32)) O dX9_person_20 (by decide) ?_
      exact ret_wi hF (hR _ _ dX9_person_21)
-- X9_isKind
def rm_X9_isKind : Room := { frames := 0, cells := 0, slots := 0, locals := 0 }
def F_X9_isKind  (S : Sg) (a0 : Int32) (a1 : Int32) : Option Int32 := if a0 = a1 then (some (1 : Int32)) else (if a0 = (4 : Int32) then (if a1 = (1 : Int32) then (some (1 : Int32)) else (if a0 = (5 : Int32) then (if a1 = (2 : Int32) then (some (1 : Int32)) else (some (0 : Int32))) else (some (0 : Int32)))) else (if a0 = (5 : Int32) then (if a1 = (2 : Int32) then (some (1 : Int32)) else (some (0 : Int32))) else (some (0 : Int32))))
set_option maxHeartbeats 4000000 in
set_option maxRecDepth 100000 in
theorem c_X9_isKind (l : Launch) (G : Gp) (hI : Ij (wM G))  {S : Sg} {a0 : Int32} {a1 : Int32} {r : Int32} (hF : F_X9_isKind S a0 a1 = some r) : Met l yX9_isKind wsX9_isKind rm_X9_isKind (va_Pc [.int a0, .int a1] (PreW (wM G) S)) (va_Qi (fun r' u => r' = r ∧ u = S) (PostW (wM G)) (AW (wM G))) 0 0 (AW (wM G)) := by
  rw [F_X9_isKind] at hF
  refine met_z (cc := cX9_isKind) (maxL := 2) (own := RX9) hI (by decide) rfl rfl (Nat.le_of_ble_eq_true rfl) (fun X O hR => ?_)
  show Go X l rm_X9_isKind (wM G) 2 0 [(0, .int a0), (1, .int a1)] [] S
  refine go_iload_n O dX9_isKind_0 rfl 0 rfl ?_
  refine go_iload_n O dX9_isKind_1 rfl 1 rfl ?_
  refine go_icmp_eq (tgt := 25) O dX9_isKind_2 (by decide) (fun hc7 => ?_) (fun hc7 => ?_)
  · replace hF := it_t hc7 hF
    refine go_iconst (v := (1 : Int32)) O dX9_isKind_25 (by decide) ?_
    refine go_goto (tgt := 30) O dX9_isKind_26 (by decide) ?_
    exact ret_z hF (fun hz => hR _ _ hz dX9_isKind_30) (show vp_nar .boolean (1 : Int32) = (1 : Int32) by decide)
  · replace hF := it_f hc7 hF
    refine go_iload_n O dX9_isKind_5 rfl 0 rfl ?_
    refine go_iconst (v := (4 : Int32)) O dX9_isKind_6 (by decide) ?_
    refine go_icmp_ne (tgt := 15) O dX9_isKind_7 (by decide) (fun hc6 => ?_) (fun hc6 => ?_)
    · replace hF := it_f hc6 hF
      refine go_iload_n O dX9_isKind_15 rfl 0 rfl ?_
      refine go_iconst (v := (5 : Int32)) O dX9_isKind_16 (by decide) ?_
      refine go_icmp_ne (tgt := 29) O dX9_isKind_17 (by decide) (fun hc2 => ?_) (fun hc2 => ?_)
      · replace hF := it_f hc2 hF
        refine go_iconst (v := (0 : Int32)) O dX9_isKind_29 (by decide) ?_
        exact ret_z hF (fun hz => hR _ _ hz dX9_isKind_30) (show vp_nar .boolean (0 : Int32) = (0 : Int32) by decide)
      · replace hF := it_t hc2 hF
        refine go_iload_n O dX9_isKind_20 rfl 1 rfl ?_
        refine go_iconst (v := (2 : Int32)) O dX9_isKind_21 (by decide) ?_
        refine go_icmp_ne (tgt := 29) O dX9_isKind_22 (by decide) (fun hc1 => ?_) (fun hc1 => ?_)
        · replace hF := it_f hc1 hF
          refine go_iconst (v := (0 : Int32)) O dX9_isKind_29 (by decide) ?_
          exact ret_z hF (fun hz => hR _ _ hz dX9_isKind_30) (show vp_nar .boolean (0 : Int32) = (0 : Int32) by decide)
        · replace hF := it_t hc1 hF
          refine go_iconst (v := (1 : Int32)) O dX9_isKind_25 (by decide) ?_
          refine go_goto (tgt := 30) O dX9_isKind_26 (by decide) ?_
          exact ret_z hF (fun hz => hR _ _ hz dX9_isKind_30) (show vp_nar .boolean (1 : Int32) = (1 : Int32) by decide)
    · replace hF := it_t hc6 hF
      refine go_iload_n O dX9_isKind_10 rfl 1 rfl ?_
      refine go_iconst (v := (1 : Int32)) O dX9_isKind_11 (by decide) ?_
      refine go_icmp_eq (tgt := 25) O dX9_isKind_12 (by decide) (fun hc5 => ?_) (fun hc5 => ?_)
      · replace hF := it_t hc5 hF
        refine go_iconst (v := (1 : Int32)) O dX9_isKind_25 (by decide) ?_
        refine go_goto (tgt := 30) O dX9_isKind_26 (by decide) ?_
        exact ret_z hF (fun hz => hR _ _ hz dX9_isKind_30) (show vp_nar .boolean (1 : Int32) = (1 : Int32) by decide)
      · replace hF := it_f hc5 hF
        refine go_iload_n O dX9_isKind_15 rfl 0 rfl ?_
        refine go_iconst (v := (5 : Int32)) O dX9_isKind_16 (by decide) ?_
        refine go_icmp_ne (tgt := 29) O dX9_isKind_17 (by decide) (fun hc4 => ?_) (fun hc4 => ?_)
        · replace hF := it_f hc4 hF
          refine go_iconst (v := (0 : Int32)) O dX9_isKind_29 (by decide) ?_
          exact ret_z hF (fun hz => hR _ _ hz dX9_isKind_30) (show vp_nar .boolean (0 : Int32) = (0 : Int32) by decide)
        · replace hF := it_t hc4 hF
          refine go_iload_n O dX9_isKind_20 rfl 1 rfl ?_
          refine go_iconst (v := (2 : Int32)) O dX9_isKind_21 (by decide) ?_
          refine go_icmp_ne (tgt := 29) O dX9_isKind_22 (by decide) (fun hc3 => ?_) (fun hc3 => ?_)
          · replace hF := it_f hc3 hF
            refine go_iconst (v := (0 : Int32)) O dX9_isKind_29 (by decide) ?_
            exact ret_z hF (fun hz => hR _ _ hz dX9_isKind_30) (show vp_nar .boolean (0 : Int32) = (0 : Int32) by decide)
          · replace hF := it_t hc3 hF
            refine go_iconst (v := (1 : Int32)) O dX9_isKind_25 (by decide) ?_
            refine go_goto (tgt := 30) O dX9_isKind_26 (by decide) ?_
            exact ret_z hF (fun hz => hR _ _ hz dX9_isKind_30) (show vp_nar .boolean (1 : Int32) = (1 : Int32) by decide)
-- X9_manyHeard
def rm_X9_manyHeard : Room := { frames := 5, cells := 0, slots := 0, locals := 112 }
theorem fl_X9_manyHeard_153 : Cond.fieldLink RX9 153 "PaperWallsModel" "people" "I" ∈ wsX9_manyHeard := by decide +kernel
theorem in_X9_manyHeard_X9 : ∀ x ∈ u_ws RX9 TX9 36, x ∈ wsX9_manyHeard := by decide +kernel
def T_X9_manyHeard_4  (S : Sg) (p1 : Int32) : Nat → Int32 → Int32 → Option (Int32)
  | 0, _, _ => none
  | n + 1, p2, p3 => if (S.1 0 7) ≤ p3 then (some p2) else (bd (if p3 = p1 then (some (0 : Int32)) else (bd (F_X9_doesHear S p1 p3) (fun x6 => if x6 = 0 then (some (0 : Int32)) else (some (1 : Int32))))) (fun x2 => nm (p2 + x2) (fun x9 => T_X9_manyHeard_4 S p1 n x9 (p3 + (1 : Int32)))))
set_option maxHeartbeats 4000000 in
set_option maxRecDepth 100000 in
theorem lt_X9_manyHeard_4 {X : XT} (l : Launch) (G : Gp) (hI : Ij (wM G))  {S : Sg} {p1 : Int32} (O : Ok X (wM G) cX9_manyHeard RX9 wsX9_manyHeard 4) : ∀ (n : Nat) (p2 : Int32) (p3 : Int32)  (q : (Int32)), T_X9_manyHeard_4 S p1 n p2 p3  = some q → (Go X l rm_X9_manyHeard (wM G) 4 40 [(2, .int q)] [] S) → Go X l rm_X9_manyHeard (wM G) 4 4 [(0, .ref (G.2.1 0)), (1, .int p1), (2, .int p2), (3, .int p3)] [] S := by
  intro n
  induction n with
  | zero =>
    intro p2 p3  q hF
    cases hF
  | succ n ih =>
    intro p2 p3  q hF hE
    rw [T_X9_manyHeard_4] at hF
    refine go_iload_n O dX9_manyHeard_4 rfl 3 rfl ?_
    refine go_aload_n O dX9_manyHeard_5 rfl 0 rfl ?_
    refine go_get (k := 0) (j := 7) O (by decide : (0 : Nat) < 27) (cm_obj G (S.1 0) (S.2 0)) rfl in_X9_manyHeard_X9 (by decide) fl_X9_manyHeard_153 rfl rfl dX9_manyHeard_6 ?_
    refine go_icmp_ge (tgt := 40) O dX9_manyHeard_9 (by decide) (fun hc10 => ?_) (fun hc10 => ?_)
    · replace hF := it_t hc10 hF
      refine go_perm (ls' := [(2, .int p2)]) [2] rfl ?_
      exact jn (P := fun q => Go X l rm_X9_manyHeard (wM G) 4 40 [(2, .int q)] [] S) hF hE
    · replace hF := it_f hc10 hF
      refine go_iload_n O dX9_manyHeard_12 rfl 2 rfl ?_
      refine go_iload_n O dX9_manyHeard_13 rfl 3 rfl ?_
      refine go_iload_n O dX9_manyHeard_14 rfl 1 rfl ?_
      obtain ⟨x2, hA4, hF⟩ := bd_s hF
      have J3 : Go X l rm_X9_manyHeard (wM G) 4 32 [(0, .ref (G.2.1 0)), (1, .int p1), (3, .int p3)] [.int x2, .int p2] S := by
        refine go_iadd O dX9_manyHeard_32 ?_
        obtain ⟨x9, ex9, hF⟩ := nm_s hF
        refine go_topi ex9 ?_
        refine go_istore_n (ls' := [(2, .int x9), (0, .ref (G.2.1 0)), (1, .int p1), (3, .int p3)]) O dX9_manyHeard_33 rfl (by decide) rfl ?_
        refine go_iinc (d := (1 : Int32)) (ls' := [(3, .int (p3 + (1 : Int32))), (2, .int x9), (0, .ref (G.2.1 0)), (1, .int p1)]) O dX9_manyHeard_34 3 rfl (by decide) (by decide) rfl ?_
        refine go_goto (tgt := 4) O dX9_manyHeard_37 (by decide) ?_
        refine go_perm (ls' := [(0, .ref (G.2.1 0)), (1, .int p1), (2, .int x9), (3, .int (p3 + (1 : Int32)))]) [2, 3, 1, 0] rfl ?_
        exact ih _ _ _ hF hE
      replace hF := hA4
      refine go_icmp_eq (tgt := 31) O dX9_manyHeard_15 (by decide) (fun hc8 => ?_) (fun hc8 => ?_)
      · replace hF := it_t hc8 hF
        refine go_iconst (v := (0 : Int32)) O dX9_manyHeard_31 (by decide) ?_
        refine go_perm (ls' := [(0, .ref (G.2.1 0)), (1, .int p1), (3, .int p3)]) [0, 1, 3] rfl ?_
        exact jn (P := fun q => Go X l rm_X9_manyHeard (wM G) 4 32 [(0, .ref (G.2.1 0)), (1, .int p1), (3, .int p3)] [.int q, .int p2] S) hF J3
      · replace hF := it_f hc8 hF
        refine go_aload_n O dX9_manyHeard_18 rfl 0 rfl ?_
        refine go_iload_n O dX9_manyHeard_19 rfl 1 rfl ?_
        refine go_iload_n O dX9_manyHeard_20 rfl 3 rfl ?_
        obtain ⟨x6, hA5, hF⟩ := bd_s hF
        refine go_callVi (As := [.int p1, .int p3]) (rest := [.int p2]) (b := 0) O (c_X9_doesHear l G hI hA5) (fun s args hts => cwV 2 hts gX9_manyHeard_X9_doesHear rfl rfl rfl (by decide +kernel) ⟨Nat.le_of_ble_eq_true rfl, Nat.le_of_ble_eq_true rfl⟩) (by decide : (0 : Nat) < 27) (cm_obj G (S.1 0) (S.2 0)) rfl rfl rfl rfl (Nat.le_of_ble_eq_true rfl) dX9_manyHeard_21 ?_
        refine go_if_eq (tgt := 31) O dX9_manyHeard_24 (by decide) (fun hc7 => ?_) (fun hc7 => ?_)
        · replace hF := it_t hc7 hF
          refine go_iconst (v := (0 : Int32)) O dX9_manyHeard_31 (by decide) ?_
          refine go_perm (ls' := [(0, .ref (G.2.1 0)), (1, .int p1), (3, .int p3)]) [0, 1, 3] rfl ?_
          exact jn (P := fun q => Go X l rm_X9_manyHeard (wM G) 4 32 [(0, .ref (G.2.1 0)), (1, .int p1), (3, .int p3)] [.int q, .int p2] S) hF J3
        · replace hF := it_f hc7 hF
          refine go_iconst (v := (1 : Int32)) O dX9_manyHeard_27 (by decide) ?_
          refine go_goto (tgt := 32) O dX9_manyHeard_28 (by decide) ?_
          refine go_perm (ls' := [(0, .ref (G.2.1 0)), (1, .int p1), (3, .int p3)]) [0, 1, 3] rfl ?_
          exact jn (P := fun q => Go X l rm_X9_manyHeard (wM G) 4 32 [(0, .ref (G.2.1 0)), (1, .int p1), (3, .int p3)] [.int q, .int p2] S) hF J3
def F_X9_manyHeard  (S : Sg) (a1 : Int32) : Option Int32 := bd (T_X9_manyHeard_4 S a1 FU (0 : Int32) (0 : Int32)) (fun x1 => some x1)
set_option maxHeartbeats 4000000 in
set_option maxRecDepth 100000 in
theorem c_X9_manyHeard (l : Launch) (G : Gp) (hI : Ij (wM G))  {S : Sg} {a1 : Int32} {r : Int32} (hF : F_X9_manyHeard S a1 = some r) : Met l yX9_manyHeard wsX9_manyHeard rm_X9_manyHeard (va_Pc [.ref (G.2.1 0), .int a1] (PreW (wM G) S)) (va_Qi (fun r' u => r' = r ∧ u = S) (PostW (wM G)) (AW (wM G))) 0 0 (AW (wM G)) := by
  rw [F_X9_manyHeard] at hF
  refine met_i (cc := cX9_manyHeard) (maxL := 4) (own := RX9) hI (by decide) rfl rfl (Nat.le_of_ble_eq_true rfl) (fun X O hR => ?_)
  show Go X l rm_X9_manyHeard (wM G) 4 0 [(0, .ref (G.2.1 0)), (1, .int a1)] [] S
  refine go_iconst (v := (0 : Int32)) O dX9_manyHeard_0 (by decide) ?_
  refine go_istore_n (ls' := [(2, .int (0 : Int32)), (0, .ref (G.2.1 0)), (1, .int a1)]) O dX9_manyHeard_1 rfl (by decide) rfl ?_
  refine go_iconst (v := (0 : Int32)) O dX9_manyHeard_2 (by decide) ?_
  refine go_istore_n (ls' := [(3, .int (0 : Int32)), (2, .int (0 : Int32)), (0, .ref (G.2.1 0)), (1, .int a1)]) O dX9_manyHeard_3 rfl (by decide) rfl ?_
  refine go_perm (ls' := [(0, .ref (G.2.1 0)), (1, .int a1), (2, .int (0 : Int32)), (3, .int (0 : Int32))]) [2, 3, 1, 0] rfl ?_
  obtain ⟨x1, hA11, hF⟩ := bd_s hF
  refine lt_X9_manyHeard_4 l G hI  O _ _ _ _ hA11 ?_
  refine go_iload_n O dX9_manyHeard_40 rfl 0 rfl ?_
  exact ret_i hF (hR _ _ dX9_manyHeard_41)
-- X9_mark
def rm_X9_mark : Room := { frames := 6, cells := 0, slots := 0, locals := 135 }
theorem fl_X9_mark_22 : Cond.fieldLink RX9 22 "PaperWallsModel" "kinds" "[I" ∈ wsX9_mark := by decide +kernel
theorem fl_X9_mark_25 : Cond.fieldLink RX9 25 "PaperWallsModel" "where" "[I" ∈ wsX9_mark := by decide +kernel
theorem fl_X9_mark_153 : Cond.fieldLink RX9 153 "PaperWallsModel" "people" "I" ∈ wsX9_mark := by decide +kernel
theorem wd_X9_mark_c96 : Cond.constantLong RX9 96 (5) ∈ wsX9_mark := by decide +kernel
theorem in_X9_mark_X9 : ∀ x ∈ u_ws RX9 TX9 36, x ∈ wsX9_mark := by decide +kernel
def T_X9_mark_86  (S : Sg) (p1 : Int32) (p2 : Int32) : Nat → Int32 → Int32 → Option (Int32)
  | 0, _, _ => none
  | n + 1, p3, p4 => if (S.1 0 7) ≤ p4 then (some p3) else (bd (if p2 = (2 : Int32) then (chk (inB p4 7) (chk (inB p1 7) (if (S.1 6 p4.toNatClampNeg) = (S.1 6 p1.toNatClampNeg) then (some (1 : Int32)) else (some (0 : Int32))))) else (bd (F_X9_doesHear S p1 p4) (fun x13 => if x13 = 0 then (some (0 : Int32)) else (chk (inB p1 7) (bd (F_X9_comesTo S (S.1 6 p1.toNatClampNeg) p4) (fun x16 => bd (F_X9_isHeard S (0 : Int32) x16 (0 : Int32)) (fun x18 => if x18 = 0 then (some (1 : Int32)) else (some (0 : Int32))))))))) (fun x9 => bd (if p4 = p1 then (some (0 : Int32)) else (if x9 = 0 then (some (0 : Int32)) else (some (1 : Int32)))) (fun x25 => nm (p3 + x25) (fun x30 => T_X9_mark_86 S p1 p2 n x30 (p4 + (1 : Int32))))))
set_option maxHeartbeats 4000000 in
set_option maxRecDepth 100000 in
theorem lt_X9_mark_86 {X : XT} (l : Launch) (G : Gp) (hI : Ij (wM G))  {S : Sg} {p1 : Int32} {p2 : Int32} (O : Ok X (wM G) cX9_mark RX9 wsX9_mark 6) : ∀ (n : Nat) (p3 : Int32) (p4 : Int32)  (q : (Int32)), T_X9_mark_86 S p1 p2 n p3 p4  = some q → (Go X l rm_X9_mark (wM G) 6 186 [(3, .int q)] [] S) → Go X l rm_X9_mark (wM G) 6 86 [(0, .ref (G.2.1 0)), (1, .int p1), (2, .int p2), (3, .int p3), (4, .int p4)] [] S := by
  intro n
  induction n with
  | zero =>
    intro p3 p4  q hF
    cases hF
  | succ n ih =>
    intro p3 p4  q hF hE
    rw [T_X9_mark_86] at hF
    refine go_iload O dX9_mark_86 4 rfl ?_
    refine go_aload_n O dX9_mark_88 rfl 0 rfl ?_
    refine go_get (k := 0) (j := 7) O (by decide : (0 : Nat) < 27) (cm_obj G (S.1 0) (S.2 0)) rfl in_X9_mark_X9 (by decide) fl_X9_mark_153 rfl rfl dX9_mark_89 ?_
    refine go_icmp_ge (tgt := 186) O dX9_mark_92 (by decide) (fun hc31 => ?_) (fun hc31 => ?_)
    · replace hF := it_t hc31 hF
      refine go_perm (ls' := [(3, .int p3)]) [3] rfl ?_
      exact jn (P := fun q => Go X l rm_X9_mark (wM G) 6 186 [(3, .int q)] [] S) hF hE
    · replace hF := it_f hc31 hF
      refine go_iload_n O dX9_mark_95 rfl 2 rfl ?_
      refine go_iconst (v := (2 : Int32)) O dX9_mark_96 (by decide) ?_
      obtain ⟨x9, hA11, hF⟩ := bd_s hF
      have J10 : Go X l rm_X9_mark (wM G) 6 159 [(0, .ref (G.2.1 0)), (1, .int p1), (2, .int p2), (3, .int p3), (4, .int p4)] [.int x9] S := by
        refine go_istore (ls' := [(5, .int x9), (0, .ref (G.2.1 0)), (1, .int p1), (2, .int p2), (3, .int p3), (4, .int p4)]) O dX9_mark_159 (by decide) rfl ?_
        refine go_iload_n O dX9_mark_161 rfl 4 rfl ?_
        refine go_iload O dX9_mark_162 5 rfl ?_
        refine go_iload_n O dX9_mark_164 rfl 2 rfl ?_
        obtain ⟨x25, hA27, hF⟩ := bd_s hF
        have J26 : Go X l rm_X9_mark (wM G) 6 178 [(0, .ref (G.2.1 0)), (1, .int p1), (2, .int p2), (4, .int p4)] [.int x25, .int p3] S := by
          refine go_iadd O dX9_mark_178 ?_
          obtain ⟨x30, ex30, hF⟩ := nm_s hF
          refine go_topi ex30 ?_
          refine go_istore_n (ls' := [(3, .int x30), (0, .ref (G.2.1 0)), (1, .int p1), (2, .int p2), (4, .int p4)]) O dX9_mark_179 rfl (by decide) rfl ?_
          refine go_iinc (d := (1 : Int32)) (ls' := [(4, .int (p4 + (1 : Int32))), (3, .int x30), (0, .ref (G.2.1 0)), (1, .int p1), (2, .int p2)]) O dX9_mark_180 4 rfl (by decide) (by decide) rfl ?_
          refine go_goto (tgt := 86) O dX9_mark_183 (by decide) ?_
          refine go_perm (ls' := [(0, .ref (G.2.1 0)), (1, .int p1), (2, .int p2), (3, .int x30), (4, .int (p4 + (1 : Int32)))]) [2, 3, 4, 1, 0] rfl ?_
          exact ih _ _ _ hF hE
        replace hF := hA27
        refine go_icmp_eq (tgt := 177) O dX9_mark_165 (by decide) (fun hc29 => ?_) (fun hc29 => ?_)
        · replace hF := it_t hc29 hF
          refine go_iconst (v := (0 : Int32)) O dX9_mark_177 (by decide) ?_
          refine go_perm (ls' := [(0, .ref (G.2.1 0)), (1, .int p1), (2, .int p2), (4, .int p4)]) [1, 2, 3, 5] rfl ?_
          exact jn (P := fun q => Go X l rm_X9_mark (wM G) 6 178 [(0, .ref (G.2.1 0)), (1, .int p1), (2, .int p2), (4, .int p4)] [.int q, .int p3] S) hF J26
        · replace hF := it_f hc29 hF
          refine go_iload O dX9_mark_168 0 rfl ?_
          refine go_if_eq (tgt := 177) O dX9_mark_170 (by decide) (fun hc28 => ?_) (fun hc28 => ?_)
          · replace hF := it_t hc28 hF
            refine go_iconst (v := (0 : Int32)) O dX9_mark_177 (by decide) ?_
            refine go_perm (ls' := [(0, .ref (G.2.1 0)), (1, .int p1), (2, .int p2), (4, .int p4)]) [1, 2, 3, 5] rfl ?_
            exact jn (P := fun q => Go X l rm_X9_mark (wM G) 6 178 [(0, .ref (G.2.1 0)), (1, .int p1), (2, .int p2), (4, .int p4)] [.int q, .int p3] S) hF J26
          · replace hF := it_f hc28 hF
            refine go_iconst (v := (1 : Int32)) O dX9_mark_173 (by decide) ?_
            refine go_goto (tgt := 178) O dX9_mark_174 (by decide) ?_
            refine go_perm (ls' := [(0, .ref (G.2.1 0)), (1, .int p1), (2, .int p2), (4, .int p4)]) [1, 2, 3, 5] rfl ?_
            exact jn (P := fun q => Go X l rm_X9_mark (wM G) 6 178 [(0, .ref (G.2.1 0)), (1, .int p1), (2, .int p2), (4, .int p4)] [.int q, .int p3] S) hF J26
      replace hF := hA11
      refine go_icmp_ne (tgt := 124) O dX9_mark_97 (by decide) (fun hc24 => ?_) (fun hc24 => ?_)
      · replace hF := it_f hc24 hF
        refine go_aload_n O dX9_mark_124 rfl 0 rfl ?_
        refine go_iload_n O dX9_mark_125 rfl 1 rfl ?_
        refine go_iload O dX9_mark_126 4 rfl ?_
        obtain ⟨x13, hA12, hF⟩ := bd_s hF
        refine go_callVi (As := [.int p1, .int p4]) (rest := []) (b := 0) O (c_X9_doesHear l G hI hA12) (fun s args hts => cwV 2 hts gX9_mark_X9_doesHear rfl rfl rfl (by decide +kernel) ⟨Nat.le_of_ble_eq_true rfl, Nat.le_of_ble_eq_true rfl⟩) (by decide : (0 : Nat) < 27) (cm_obj G (S.1 0) (S.2 0)) rfl rfl rfl rfl (Nat.le_of_ble_eq_true rfl) dX9_mark_128 ?_
        refine go_if_eq (tgt := 158) O dX9_mark_131 (by decide) (fun hc20 => ?_) (fun hc20 => ?_)
        · replace hF := it_t hc20 hF
          refine go_iconst (v := (0 : Int32)) O dX9_mark_158 (by decide) ?_
          exact jn (P := fun q => Go X l rm_X9_mark (wM G) 6 159 [(0, .ref (G.2.1 0)), (1, .int p1), (2, .int p2), (3, .int p3), (4, .int p4)] [.int q] S) hF J10
        · replace hF := it_f hc20 hF
          refine go_iconst (v := (0 : Int32)) O dX9_mark_134 (by decide) ?_
          refine go_aload_n O dX9_mark_135 rfl 0 rfl ?_
          refine go_aload_n O dX9_mark_136 rfl 0 rfl ?_
          refine go_get (k := 0) (j := 5) O (by decide : (0 : Nat) < 27) (cm_obj G (S.1 0) (S.2 0)) rfl in_X9_mark_X9 (by decide) fl_X9_mark_25 rfl rfl dX9_mark_137 ?_
          refine go_iload_n O dX9_mark_140 rfl 1 rfl ?_
          obtain ⟨hb14, hF⟩ := chk_s hF
          refine go_iald (k := 6) O (by decide : (6 : Nat) < 27) (cm_6 G (S.1 6) (S.2 6)) (inB_in hb14) dX9_mark_141 ?_
          refine go_iload O dX9_mark_142 4 rfl ?_
          obtain ⟨x16, hA15, hF⟩ := bd_s hF
          refine go_callVi (As := [.int (S.1 6 p1.toNatClampNeg), .int p4]) (rest := [.int (0 : Int32)]) (b := 0) O (c_X9_comesTo l G hI hA15) (fun s args hts => cwV 2 hts gX9_mark_X9_comesTo rfl rfl rfl (by decide +kernel) ⟨Nat.le_of_ble_eq_true rfl, Nat.le_of_ble_eq_true rfl⟩) (by decide : (0 : Nat) < 27) (cm_obj G (S.1 0) (S.2 0)) rfl rfl rfl rfl (Nat.le_of_ble_eq_true rfl) dX9_mark_144 ?_
          refine go_iconst (v := (0 : Int32)) O dX9_mark_147 (by decide) ?_
          obtain ⟨x18, hA17, hF⟩ := bd_s hF
          refine go_callSi (As := [.int (0 : Int32), .int x16, .int (0 : Int32)]) (rest := []) O (c_X9_isHeard l G hI hA17) (fun s args hts => va_cwS 3 hts gX9_mark_X9_isHeard rfl rfl rfl (by decide +kernel) ⟨Nat.le_of_ble_eq_true rfl, Nat.le_of_ble_eq_true rfl⟩) rfl rfl (Nat.le_of_ble_eq_true rfl) dX9_mark_148 ?_
          refine go_if_ne (tgt := 158) O dX9_mark_151 (by decide) (fun hc19 => ?_) (fun hc19 => ?_)
          · replace hF := it_f hc19 hF
            refine go_iconst (v := (0 : Int32)) O dX9_mark_158 (by decide) ?_
            exact jn (P := fun q => Go X l rm_X9_mark (wM G) 6 159 [(0, .ref (G.2.1 0)), (1, .int p1), (2, .int p2), (3, .int p3), (4, .int p4)] [.int q] S) hF J10
          · replace hF := it_t hc19 hF
            refine go_iconst (v := (1 : Int32)) O dX9_mark_154 (by decide) ?_
            refine go_goto (tgt := 159) O dX9_mark_155 (by decide) ?_
            exact jn (P := fun q => Go X l rm_X9_mark (wM G) 6 159 [(0, .ref (G.2.1 0)), (1, .int p1), (2, .int p2), (3, .int p3), (4, .int p4)] [.int q] S) hF J10
      · replace hF := it_t hc24 hF
        refine go_aload_n O dX9_mark_100 rfl 0 rfl ?_
        refine go_get (k := 0) (j := 5) O (by decide : (0 : Nat) < 27) (cm_obj G (S.1 0) (S.2 0)) rfl in_X9_mark_X9 (by decide) fl_X9_mark_25 rfl rfl dX9_mark_101 ?_
        refine go_iload O dX9_mark_104 4 rfl ?_
        obtain ⟨hb21, hF⟩ := chk_s hF
        refine go_iald (k := 6) O (by decide : (6 : Nat) < 27) (cm_6 G (S.1 6) (S.2 6)) (inB_in hb21) dX9_mark_106 ?_
        refine go_aload_n O dX9_mark_107 rfl 0 rfl ?_
        refine go_get (k := 0) (j := 5) O (by decide : (0 : Nat) < 27) (cm_obj G (S.1 0) (S.2 0)) rfl in_X9_mark_X9 (by decide) fl_X9_mark_25 rfl rfl dX9_mark_108 ?_
        refine go_iload_n O dX9_mark_111 rfl 1 rfl ?_
        obtain ⟨hb22, hF⟩ := chk_s hF
        refine go_iald (k := 6) O (by decide : (6 : Nat) < 27) (cm_6 G (S.1 6) (S.2 6)) (inB_in hb22) dX9_mark_112 ?_
        refine go_icmp_ne (tgt := 120) O dX9_mark_113 (by decide) (fun hc23 => ?_) (fun hc23 => ?_)
        · replace hF := it_f hc23 hF
          refine go_iconst (v := (0 : Int32)) O dX9_mark_120 (by decide) ?_
          refine go_goto (tgt := 159) O dX9_mark_121 (by decide) ?_
          exact jn (P := fun q => Go X l rm_X9_mark (wM G) 6 159 [(0, .ref (G.2.1 0)), (1, .int p1), (2, .int p2), (3, .int p3), (4, .int p4)] [.int q] S) hF J10
        · replace hF := it_t hc23 hF
          refine go_iconst (v := (1 : Int32)) O dX9_mark_116 (by decide) ?_
          refine go_goto (tgt := 159) O dX9_mark_117 (by decide) ?_
          exact jn (P := fun q => Go X l rm_X9_mark (wM G) 6 159 [(0, .ref (G.2.1 0)), (1, .int p1), (2, .int p2), (3, .int p3), (4, .int p4)] [.int q] S) hF J10
def F_X9_mark  (S : Sg) (a1 : Int32) (a2 : Int32) : Option (Int32 × Sg) := bd (F_X9_isOne S a1) (fun x2 => if x2 = 0 then (some ((-1 : Int32), S)) else (bd (F_X9_in S (Int32.toInt64 a2) (1 : Int64) (5 : Int64)) (fun x4 => if x4 = 0 then (some ((-1 : Int32), S)) else (chk (inB a1 7) (bd (F_X9_isKind S (S.1 5 a1.toNatClampNeg) a2) (fun x7 => if x7 = 0 then (bd (F_X9_find S (3 : Int32)) (fun (x45, S46) => some (x45, S46))) else (if a2 = (1 : Int32) then (bd (F_X9_heardBy S a1 (0 : Int32)) (fun x40 => bd (F_X9_ones S x40) (fun x42 => some (x42, S)))) else (if a2 = (4 : Int32) then (bd (F_X9_noiseIn S (0 : Int32) ((1 : Int32) <<< (a1 &&& 31))) (fun x37 => some (x37, S))) else (if a2 = (3 : Int32) then (bd (F_X9_manyHeard S a1) (fun x34 => some (x34, S))) else (bd (T_X9_mark_86 S a1 a2 FU (0 : Int32) (0 : Int32)) (fun x8 => some (x8, S))))))))))))
set_option maxHeartbeats 4000000 in
set_option maxRecDepth 100000 in
theorem c_X9_mark (l : Launch) (G : Gp) (hI : Ij (wM G))  {S : Sg} {a1 : Int32} {a2 : Int32} {r : Int32} {S1 : Sg} (hF : F_X9_mark S a1 a2 = some (r, S1)) : Met l yX9_mark wsX9_mark rm_X9_mark (va_Pc [.ref (G.2.1 0), .int a1, .int a2] (PreW (wM G) S)) (va_Qi (fun r' u => r' = r ∧ u = S1) (PostW (wM G)) (AW (wM G))) 0 0 (AW (wM G)) := by
  rw [F_X9_mark] at hF
  refine met_i (cc := cX9_mark) (maxL := 6) (own := RX9) hI (by decide) rfl rfl (Nat.le_of_ble_eq_true rfl) (fun X O hR => ?_)
  show Go X l rm_X9_mark (wM G) 6 0 [(0, .ref (G.2.1 0)), (1, .int a1), (2, .int a2)] [] S
  refine go_aload_n O dX9_mark_0 rfl 0 rfl ?_
  refine go_iload_n O dX9_mark_1 rfl 1 rfl ?_
  obtain ⟨x2, hA1, hF⟩ := bd_s hF
  refine go_callVi (As := [.int a1]) (rest := []) (b := 0) O (c_X9_isOne l G hI hA1) (fun s args hts => cwV 1 hts gX9_mark_X9_isOne rfl rfl rfl (by decide +kernel) ⟨Nat.le_of_ble_eq_true rfl, Nat.le_of_ble_eq_true rfl⟩) (by decide : (0 : Nat) < 27) (cm_obj G (S.1 0) (S.2 0)) rfl rfl rfl rfl (Nat.le_of_ble_eq_true rfl) dX9_mark_2 ?_
  refine go_if_eq (tgt := 20) O dX9_mark_5 (by decide) (fun hc49 => ?_) (fun hc49 => ?_)
  · replace hF := it_t hc49 hF
    refine go_iconst (v := (-1 : Int32)) O dX9_mark_20 (by decide) ?_
    exact ret_wi hF (hR _ _ dX9_mark_21)
  · replace hF := it_f hc49 hF
    refine go_iload_n O dX9_mark_8 rfl 2 rfl ?_
    refine go_i2l (v := Int32.toInt64 a2) O dX9_mark_9 rfl ?_
    refine go_lconst (v := (1 : Int64)) O dX9_mark_10 (by decide) ?_
    refine go_ldc2 (v := (5 : Int64)) O dX9_mark_11 wd_X9_mark_c96 ?_
    obtain ⟨x4, hA3, hF⟩ := bd_s hF
    refine go_callSi (As := [.long (Int32.toInt64 a2), .long (1 : Int64), .long (5 : Int64)]) (rest := []) O (c_X9_in l G hI hA3) (fun s args hts => va_cwS 3 hts gX9_mark_X9_in rfl rfl rfl (by decide +kernel) ⟨Nat.le_of_ble_eq_true rfl, Nat.le_of_ble_eq_true rfl⟩) rfl rfl (Nat.le_of_ble_eq_true rfl) dX9_mark_14 ?_
    refine go_if_ne (tgt := 22) O dX9_mark_17 (by decide) (fun hc48 => ?_) (fun hc48 => ?_)
    · replace hF := it_f hc48 hF
      refine go_aload_n O dX9_mark_22 rfl 0 rfl ?_
      refine go_get (k := 0) (j := 4) O (by decide : (0 : Nat) < 27) (cm_obj G (S.1 0) (S.2 0)) rfl in_X9_mark_X9 (by decide) fl_X9_mark_22 rfl rfl dX9_mark_23 ?_
      refine go_iload_n O dX9_mark_26 rfl 1 rfl ?_
      obtain ⟨hb5, hF⟩ := chk_s hF
      refine go_iald (k := 5) O (by decide : (5 : Nat) < 27) (cm_5 G (S.1 5) (S.2 5)) (inB_in hb5) dX9_mark_27 ?_
      refine go_iload_n O dX9_mark_28 rfl 2 rfl ?_
      obtain ⟨x7, hA6, hF⟩ := bd_s hF
      refine go_callSi (As := [.int (S.1 5 a1.toNatClampNeg), .int a2]) (rest := []) O (c_X9_isKind l G hI hA6) (fun s args hts => va_cwS 2 hts gX9_mark_X9_isKind rfl rfl rfl (by decide +kernel) ⟨Nat.le_of_ble_eq_true rfl, Nat.le_of_ble_eq_true rfl⟩) rfl rfl (Nat.le_of_ble_eq_true rfl) dX9_mark_29 ?_
      refine go_if_ne (tgt := 41) O dX9_mark_32 (by decide) (fun hc47 => ?_) (fun hc47 => ?_)
      · replace hF := it_f hc47 hF
        refine go_iload_n O dX9_mark_41 rfl 2 rfl ?_
        refine go_iconst (v := (1 : Int32)) O dX9_mark_42 (by decide) ?_
        refine go_icmp_ne (tgt := 56) O dX9_mark_43 (by decide) (fun hc43 => ?_) (fun hc43 => ?_)
        · replace hF := it_f hc43 hF
          refine go_iload_n O dX9_mark_56 rfl 2 rfl ?_
          refine go_iconst (v := (4 : Int32)) O dX9_mark_57 (by decide) ?_
          refine go_icmp_ne (tgt := 70) O dX9_mark_58 (by decide) (fun hc38 => ?_) (fun hc38 => ?_)
          · replace hF := it_f hc38 hF
            refine go_iload_n O dX9_mark_70 rfl 2 rfl ?_
            refine go_iconst (v := (3 : Int32)) O dX9_mark_71 (by decide) ?_
            refine go_icmp_ne (tgt := 81) O dX9_mark_72 (by decide) (fun hc35 => ?_) (fun hc35 => ?_)
            · replace hF := it_f hc35 hF
              refine go_iconst (v := (0 : Int32)) O dX9_mark_81 (by decide) ?_
              refine go_istore_n (ls' := [(3, .int (0 : Int32)), (0, .ref (G.2.1 0)), (1, .int a1), (2, .int a2)]) O dX9_mark_82 rfl (by decide) rfl ?_
              refine go_iconst (v := (0 : Int32)) O dX9_mark_83 (by decide) ?_
              refine go_istore (ls' := [(4, .int (0 : Int32)), (3, .int (0 : Int32)), (0, .ref (G.2.1 0)), (1, .int a1), (2, .int a2)]) O dX9_mark_84 (by decide) rfl ?_
              refine go_perm (ls' := [(0, .ref (G.2.1 0)), (1, .int a1), (2, .int a2), (3, .int (0 : Int32)), (4, .int (0 : Int32))]) [2, 3, 4, 1, 0] rfl ?_
              obtain ⟨x8, hA32, hF⟩ := bd_s hF
              refine lt_X9_mark_86 l G hI  O _ _ _ _ hA32 ?_
              refine go_iload_n O dX9_mark_186 rfl 0 rfl ?_
              exact ret_wi hF (hR _ _ dX9_mark_187)
            · replace hF := it_t hc35 hF
              refine go_aload_n O dX9_mark_75 rfl 0 rfl ?_
              refine go_iload_n O dX9_mark_76 rfl 1 rfl ?_
              obtain ⟨x34, hA33, hF⟩ := bd_s hF
              refine go_callVi (As := [.int a1]) (rest := []) (b := 0) O (c_X9_manyHeard l G hI hA33) (fun s args hts => cwV 1 hts gX9_mark_X9_manyHeard rfl rfl rfl (by decide +kernel) ⟨Nat.le_of_ble_eq_true rfl, Nat.le_of_ble_eq_true rfl⟩) (by decide : (0 : Nat) < 27) (cm_obj G (S.1 0) (S.2 0)) rfl rfl rfl rfl (Nat.le_of_ble_eq_true rfl) dX9_mark_77 ?_
              exact ret_wi hF (hR _ _ dX9_mark_80)
          · replace hF := it_t hc38 hF
            refine go_aload_n O dX9_mark_61 rfl 0 rfl ?_
            refine go_iconst (v := (0 : Int32)) O dX9_mark_62 (by decide) ?_
            refine go_iconst (v := (1 : Int32)) O dX9_mark_63 (by decide) ?_
            refine go_iload_n O dX9_mark_64 rfl 1 rfl ?_
            refine go_ishl O dX9_mark_65 ?_
            obtain ⟨x37, hA36, hF⟩ := bd_s hF
            refine go_callVi (As := [.int (0 : Int32), .int ((1 : Int32) <<< (a1 &&& 31))]) (rest := []) (b := 0) O (c_X9_noiseIn l G hI hA36) (fun s args hts => cwV 2 hts gX9_mark_X9_noiseIn rfl rfl rfl (by decide +kernel) ⟨Nat.le_of_ble_eq_true rfl, Nat.le_of_ble_eq_true rfl⟩) (by decide : (0 : Nat) < 27) (cm_obj G (S.1 0) (S.2 0)) rfl rfl rfl rfl (Nat.le_of_ble_eq_true rfl) dX9_mark_66 ?_
            exact ret_wi hF (hR _ _ dX9_mark_69)
        · replace hF := it_t hc43 hF
          refine go_aload_n O dX9_mark_46 rfl 0 rfl ?_
          refine go_iload_n O dX9_mark_47 rfl 1 rfl ?_
          refine go_iconst (v := (0 : Int32)) O dX9_mark_48 (by decide) ?_
          obtain ⟨x40, hA39, hF⟩ := bd_s hF
          refine go_callVi (As := [.int a1, .int (0 : Int32)]) (rest := []) (b := 0) O (c_X9_heardBy l G hI hA39) (fun s args hts => cwV 2 hts gX9_mark_X9_heardBy rfl rfl rfl (by decide +kernel) ⟨Nat.le_of_ble_eq_true rfl, Nat.le_of_ble_eq_true rfl⟩) (by decide : (0 : Nat) < 27) (cm_obj G (S.1 0) (S.2 0)) rfl rfl rfl rfl (Nat.le_of_ble_eq_true rfl) dX9_mark_49 ?_
          obtain ⟨x42, hA41, hF⟩ := bd_s hF
          refine go_callSi (As := [.int x40]) (rest := []) O (c_X9_ones l G hI hA41) (fun s args hts => va_cwS 1 hts gX9_mark_X9_ones rfl rfl rfl (by decide +kernel) ⟨Nat.le_of_ble_eq_true rfl, Nat.le_of_ble_eq_true rfl⟩) rfl rfl (Nat.le_of_ble_eq_true rfl) dX9_mark_52 ?_
          exact ret_wi hF (hR _ _ dX9_mark_55)
      · replace hF := it_t hc47 hF
        refine go_aload_n O dX9_mark_35 rfl 0 rfl ?_
        refine go_iconst (v := (3 : Int32)) O dX9_mark_36 (by decide) ?_
        obtain ⟨⟨x45, S46⟩, hA44, hF⟩ := bd_s hF
        refine go_callVi (As := [.int (3 : Int32)]) (rest := []) (b := 0) O (c_X9_find l G hI hA44) (fun s args hts => cwV 1 hts gX9_mark_X9_find rfl rfl rfl (by decide +kernel) ⟨Nat.le_of_ble_eq_true rfl, Nat.le_of_ble_eq_true rfl⟩) (by decide : (0 : Nat) < 27) (cm_obj G (S.1 0) (S.2 0)) rfl rfl rfl rfl (Nat.le_of_ble_eq_true rfl) dX9_mark_37 ?_
        exact ret_wi hF (hR _ _ dX9_mark_40)
    · replace hF := it_t hc48 hF
      refine go_iconst (v := (-1 : Int32)) O dX9_mark_20 (by decide) ?_
      exact ret_wi hF (hR _ _ dX9_mark_21)
-- X9_wall
def rm_X9_wall : Room := { frames := 1, cells := 0, slots := 0, locals := 25 }
theorem fl_X9_wall_28 : Cond.fieldLink RX9 28 "PaperWallsModel" "layers" "[I" ∈ wsX9_wall := by decide +kernel
theorem fl_X9_wall_150 : Cond.fieldLink RX9 150 "PaperWallsModel" "walls" "I" ∈ wsX9_wall := by decide +kernel
theorem wd_X9_wall_c208 : Cond.constantLong RX9 208 (20) ∈ wsX9_wall := by decide +kernel
theorem in_X9_wall_X9 : ∀ x ∈ u_ws RX9 TX9 36, x ∈ wsX9_wall := by decide +kernel
def F_X9_wall  (S : Sg) (a1 : Int32) (a2 : Int32) : Option (Int32 × Sg) := bd (F_X9_in S (Int32.toInt64 a1) (0 : Int64) (Int32.toInt64 ((S.1 0 8) - (1 : Int32)))) (fun x2 => if x2 = 0 then (some ((-1 : Int32), S)) else (bd (F_X9_in S (Int32.toInt64 a2) (0 : Int64) (20 : Int64)) (fun x4 => if x4 = 0 then (some ((-1 : Int32), S)) else (chk (inB a1 6) (nm (S.1 7 a1.toNatClampNeg) (fun x6 => chk (inB a1 6) (nm (wI S 7 a1.toNatClampNeg a2) (fun S8 => some (x6, S8)))))))))
set_option maxHeartbeats 4000000 in
set_option maxRecDepth 100000 in
theorem c_X9_wall (l : Launch) (G : Gp) (hI : Ij (wM G))  {S : Sg} {a1 : Int32} {a2 : Int32} {r : Int32} {S1 : Sg} (hF : F_X9_wall S a1 a2 = some (r, S1)) : Met l yX9_wall wsX9_wall rm_X9_wall (va_Pc [.ref (G.2.1 0), .int a1, .int a2] (PreW (wM G) S)) (va_Qi (fun r' u => r' = r ∧ u = S1) (PostW (wM G)) (AW (wM G))) 0 0 (AW (wM G)) := by
  rw [F_X9_wall] at hF
  refine met_i (cc := cX9_wall) (maxL := 4) (own := RX9) hI (by decide) rfl rfl (Nat.le_of_ble_eq_true rfl) (fun X O hR => ?_)
  show Go X l rm_X9_wall (wM G) 4 0 [(0, .ref (G.2.1 0)), (1, .int a1), (2, .int a2)] [] S
  refine go_iload_n O dX9_wall_0 rfl 1 rfl ?_
  refine go_i2l (v := Int32.toInt64 a1) O dX9_wall_1 rfl ?_
  refine go_lconst (v := (0 : Int64)) O dX9_wall_2 (by decide) ?_
  refine go_aload_n O dX9_wall_3 rfl 0 rfl ?_
  refine go_get (k := 0) (j := 8) O (by decide : (0 : Nat) < 27) (cm_obj G (S.1 0) (S.2 0)) rfl in_X9_wall_X9 (by decide) fl_X9_wall_150 rfl rfl dX9_wall_4 ?_
  refine go_iconst (v := (1 : Int32)) O dX9_wall_7 (by decide) ?_
  refine go_isub O dX9_wall_8 ?_
  refine go_i2l (v := Int32.toInt64 ((S.1 0 8) - (1 : Int32))) O dX9_wall_9 rfl ?_
  obtain ⟨x2, hA1, hF⟩ := bd_s hF
  refine go_callSi (As := [.long (Int32.toInt64 a1), .long (0 : Int64), .long (Int32.toInt64 ((S.1 0 8) - (1 : Int32)))]) (rest := []) O (c_X9_in l G hI hA1) (fun s args hts => va_cwS 3 hts gX9_wall_X9_in rfl rfl rfl (by decide +kernel) ⟨Nat.le_of_ble_eq_true rfl, Nat.le_of_ble_eq_true rfl⟩) rfl rfl (Nat.le_of_ble_eq_true rfl) dX9_wall_10 ?_
  refine go_if_eq (tgt := 28) O dX9_wall_13 (by decide) (fun hc10 => ?_) (fun hc10 => ?_)
  · replace hF := it_t hc10 hF
    refine go_iconst (v := (-1 : Int32)) O dX9_wall_28 (by decide) ?_
    exact ret_wi hF (hR _ _ dX9_wall_29)
  · replace hF := it_f hc10 hF
    refine go_iload_n O dX9_wall_16 rfl 2 rfl ?_
    refine go_i2l (v := Int32.toInt64 a2) O dX9_wall_17 rfl ?_
    refine go_lconst (v := (0 : Int64)) O dX9_wall_18 (by decide) ?_
    refine go_ldc2 (v := (20 : Int64)) O dX9_wall_19 wd_X9_wall_c208 ?_
    obtain ⟨x4, hA3, hF⟩ := bd_s hF
    refine go_callSi (As := [.long (Int32.toInt64 a2), .long (0 : Int64), .long (20 : Int64)]) (rest := []) O (c_X9_in l G hI hA3) (fun s args hts => va_cwS 3 hts gX9_wall_X9_in rfl rfl rfl (by decide +kernel) ⟨Nat.le_of_ble_eq_true rfl, Nat.le_of_ble_eq_true rfl⟩) rfl rfl (Nat.le_of_ble_eq_true rfl) dX9_wall_22 ?_
    refine go_if_ne (tgt := 30) O dX9_wall_25 (by decide) (fun hc9 => ?_) (fun hc9 => ?_)
    · replace hF := it_f hc9 hF
      refine go_aload_n O dX9_wall_30 rfl 0 rfl ?_
      refine go_get (k := 0) (j := 6) O (by decide : (0 : Nat) < 27) (cm_obj G (S.1 0) (S.2 0)) rfl in_X9_wall_X9 (by decide) fl_X9_wall_28 rfl rfl dX9_wall_31 ?_
      refine go_iload_n O dX9_wall_34 rfl 1 rfl ?_
      obtain ⟨hb5, hF⟩ := chk_s hF
      refine go_iald (k := 7) O (by decide : (7 : Nat) < 27) (cm_7 G (S.1 7) (S.2 7)) (inB_in hb5) dX9_wall_35 ?_
      obtain ⟨x6, ex6, hF⟩ := nm_s hF
      refine go_topi ex6 ?_
      refine go_istore_n (ls' := [(3, .int x6), (0, .ref (G.2.1 0)), (1, .int a1), (2, .int a2)]) O dX9_wall_36 rfl (by decide) rfl ?_
      refine go_aload_n O dX9_wall_37 rfl 1 rfl ?_
      refine go_get (k := 0) (j := 6) O (by decide : (0 : Nat) < 27) (cm_obj G (S.1 0) (S.2 0)) rfl in_X9_wall_X9 (by decide) fl_X9_wall_28 rfl rfl dX9_wall_38 ?_
      refine go_iload_n O dX9_wall_41 rfl 2 rfl ?_
      refine go_iload_n O dX9_wall_42 rfl 3 rfl ?_
      obtain ⟨hb7, hF⟩ := chk_s hF
      obtain ⟨S8, eS8, hF⟩ := nm_s hF
      refine go_iast (k := 7) O (by decide : (7 : Nat) < 27) (fun f => (cm_7 G f (S.2 7))) (inB_in hb7) dX9_wall_43 eS8 ?_
      refine go_iload_n O dX9_wall_44 rfl 0 rfl ?_
      exact ret_wi hF (hR _ _ dX9_wall_45)
    · replace hF := it_t hc9 hF
      refine go_iconst (v := (-1 : Int32)) O dX9_wall_28 (by decide) ?_
      exact ret_wi hF (hR _ _ dX9_wall_29)
-- X9_move
def rm_X9_move : Room := { frames := 2, cells := 0, slots := 0, locals := 46 }
theorem fl_X9_move_25 : Cond.fieldLink RX9 25 "PaperWallsModel" "where" "[I" ∈ wsX9_move := by decide +kernel
theorem in_X9_move_X9 : ∀ x ∈ u_ws RX9 TX9 36, x ∈ wsX9_move := by decide +kernel
def F_X9_move  (S : Sg) (a1 : Int32) (a2 : Int32) : Option (Int32 × Sg) := bd (F_X9_isOne S a1) (fun x2 => if x2 = 0 then (some ((-1 : Int32), S)) else (bd (F_X9_isRoom S a2) (fun x4 => if x4 = 0 then (some ((-1 : Int32), S)) else (chk (inB a1 7) (nm (S.1 6 a1.toNatClampNeg) (fun x6 => chk (inB a1 7) (nm (wI S 6 a1.toNatClampNeg a2) (fun S8 => some (x6, S8)))))))))
set_option maxHeartbeats 4000000 in
set_option maxRecDepth 100000 in
theorem c_X9_move (l : Launch) (G : Gp) (hI : Ij (wM G))  {S : Sg} {a1 : Int32} {a2 : Int32} {r : Int32} {S1 : Sg} (hF : F_X9_move S a1 a2 = some (r, S1)) : Met l yX9_move wsX9_move rm_X9_move (va_Pc [.ref (G.2.1 0), .int a1, .int a2] (PreW (wM G) S)) (va_Qi (fun r' u => r' = r ∧ u = S1) (PostW (wM G)) (AW (wM G))) 0 0 (AW (wM G)) := by
  rw [F_X9_move] at hF
  refine met_i (cc := cX9_move) (maxL := 4) (own := RX9) hI (by decide) rfl rfl (Nat.le_of_ble_eq_true rfl) (fun X O hR => ?_)
  show Go X l rm_X9_move (wM G) 4 0 [(0, .ref (G.2.1 0)), (1, .int a1), (2, .int a2)] [] S
  refine go_aload_n O dX9_move_0 rfl 0 rfl ?_
  refine go_iload_n O dX9_move_1 rfl 1 rfl ?_
  obtain ⟨x2, hA1, hF⟩ := bd_s hF
  refine go_callVi (As := [.int a1]) (rest := []) (b := 0) O (c_X9_isOne l G hI hA1) (fun s args hts => cwV 1 hts gX9_move_X9_isOne rfl rfl rfl (by decide +kernel) ⟨Nat.le_of_ble_eq_true rfl, Nat.le_of_ble_eq_true rfl⟩) (by decide : (0 : Nat) < 27) (cm_obj G (S.1 0) (S.2 0)) rfl rfl rfl rfl (Nat.le_of_ble_eq_true rfl) dX9_move_2 ?_
  refine go_if_eq (tgt := 16) O dX9_move_5 (by decide) (fun hc10 => ?_) (fun hc10 => ?_)
  · replace hF := it_t hc10 hF
    refine go_iconst (v := (-1 : Int32)) O dX9_move_16 (by decide) ?_
    exact ret_wi hF (hR _ _ dX9_move_17)
  · replace hF := it_f hc10 hF
    refine go_aload_n O dX9_move_8 rfl 0 rfl ?_
    refine go_iload_n O dX9_move_9 rfl 2 rfl ?_
    obtain ⟨x4, hA3, hF⟩ := bd_s hF
    refine go_callVi (As := [.int a2]) (rest := []) (b := 0) O (c_X9_isRoom l G hI hA3) (fun s args hts => cwV 1 hts gX9_move_X9_isRoom rfl rfl rfl (by decide +kernel) ⟨Nat.le_of_ble_eq_true rfl, Nat.le_of_ble_eq_true rfl⟩) (by decide : (0 : Nat) < 27) (cm_obj G (S.1 0) (S.2 0)) rfl rfl rfl rfl (Nat.le_of_ble_eq_true rfl) dX9_move_10 ?_
    refine go_if_ne (tgt := 18) O dX9_move_13 (by decide) (fun hc9 => ?_) (fun hc9 => ?_)
    · replace hF := it_f hc9 hF
      refine go_aload_n O dX9_move_18 rfl 0 rfl ?_
      refine go_get (k := 0) (j := 5) O (by decide : (0 : Nat) < 27) (cm_obj G (S.1 0) (S.2 0)) rfl in_X9_move_X9 (by decide) fl_X9_move_25 rfl rfl dX9_move_19 ?_
      refine go_iload_n O dX9_move_22 rfl 1 rfl ?_
      obtain ⟨hb5, hF⟩ := chk_s hF
      refine go_iald (k := 6) O (by decide : (6 : Nat) < 27) (cm_6 G (S.1 6) (S.2 6)) (inB_in hb5) dX9_move_23 ?_
      obtain ⟨x6, ex6, hF⟩ := nm_s hF
      refine go_topi ex6 ?_
      refine go_istore_n (ls' := [(3, .int x6), (0, .ref (G.2.1 0)), (1, .int a1), (2, .int a2)]) O dX9_move_24 rfl (by decide) rfl ?_
      refine go_aload_n O dX9_move_25 rfl 1 rfl ?_
      refine go_get (k := 0) (j := 5) O (by decide : (0 : Nat) < 27) (cm_obj G (S.1 0) (S.2 0)) rfl in_X9_move_X9 (by decide) fl_X9_move_25 rfl rfl dX9_move_26 ?_
      refine go_iload_n O dX9_move_29 rfl 2 rfl ?_
      refine go_iload_n O dX9_move_30 rfl 3 rfl ?_
      obtain ⟨hb7, hF⟩ := chk_s hF
      obtain ⟨S8, eS8, hF⟩ := nm_s hF
      refine go_iast (k := 6) O (by decide : (6 : Nat) < 27) (fun f => (cm_6 G f (S.2 6))) (inB_in hb7) dX9_move_31 eS8 ?_
      refine go_iload_n O dX9_move_32 rfl 0 rfl ?_
      exact ret_wi hF (hR _ _ dX9_move_33)
    · replace hF := it_t hc9 hF
      refine go_iconst (v := (-1 : Int32)) O dX9_move_16 (by decide) ?_
      exact ret_wi hF (hR _ _ dX9_move_17)
-- X9_areTwo
def rm_X9_areTwo : Room := { frames := 2, cells := 0, slots := 0, locals := 46 }
def F_X9_areTwo  (S : Sg) (a1 : Int32) (a2 : Int32) : Option Int32 := bd (F_X9_isOne S a1) (fun x2 => if x2 = 0 then (some (0 : Int32)) else (bd (F_X9_isOne S a2) (fun x4 => if x4 = 0 then (some (0 : Int32)) else (if a1 = a2 then (some (0 : Int32)) else (some (1 : Int32))))))
set_option maxHeartbeats 4000000 in
set_option maxRecDepth 100000 in
theorem c_X9_areTwo (l : Launch) (G : Gp) (hI : Ij (wM G))  {S : Sg} {a1 : Int32} {a2 : Int32} {r : Int32} (hF : F_X9_areTwo S a1 a2 = some r) : Met l yX9_areTwo wsX9_areTwo rm_X9_areTwo (va_Pc [.ref (G.2.1 0), .int a1, .int a2] (PreW (wM G) S)) (va_Qi (fun r' u => r' = r ∧ u = S) (PostW (wM G)) (AW (wM G))) 0 0 (AW (wM G)) := by
  rw [F_X9_areTwo] at hF
  refine met_z (cc := cX9_areTwo) (maxL := 3) (own := RX9) hI (by decide) rfl rfl (Nat.le_of_ble_eq_true rfl) (fun X O hR => ?_)
  show Go X l rm_X9_areTwo (wM G) 3 0 [(0, .ref (G.2.1 0)), (1, .int a1), (2, .int a2)] [] S
  refine go_aload_n O dX9_areTwo_0 rfl 0 rfl ?_
  refine go_iload_n O dX9_areTwo_1 rfl 1 rfl ?_
  obtain ⟨x2, hA1, hF⟩ := bd_s hF
  refine go_callVi (As := [.int a1]) (rest := []) (b := 0) O (c_X9_isOne l G hI hA1) (fun s args hts => cwV 1 hts gX9_areTwo_X9_isOne rfl rfl rfl (by decide +kernel) ⟨Nat.le_of_ble_eq_true rfl, Nat.le_of_ble_eq_true rfl⟩) (by decide : (0 : Nat) < 27) (cm_obj G (S.1 0) (S.2 0)) rfl rfl rfl rfl (Nat.le_of_ble_eq_true rfl) dX9_areTwo_2 ?_
  refine go_if_eq (tgt := 25) O dX9_areTwo_5 (by decide) (fun hc7 => ?_) (fun hc7 => ?_)
  · replace hF := it_t hc7 hF
    refine go_iconst (v := (0 : Int32)) O dX9_areTwo_25 (by decide) ?_
    exact ret_z hF (fun hz => hR _ _ hz dX9_areTwo_26) (show vp_nar .boolean (0 : Int32) = (0 : Int32) by decide)
  · replace hF := it_f hc7 hF
    refine go_aload_n O dX9_areTwo_8 rfl 0 rfl ?_
    refine go_iload_n O dX9_areTwo_9 rfl 2 rfl ?_
    obtain ⟨x4, hA3, hF⟩ := bd_s hF
    refine go_callVi (As := [.int a2]) (rest := []) (b := 0) O (c_X9_isOne l G hI hA3) (fun s args hts => cwV 1 hts gX9_areTwo_X9_isOne rfl rfl rfl (by decide +kernel) ⟨Nat.le_of_ble_eq_true rfl, Nat.le_of_ble_eq_true rfl⟩) (by decide : (0 : Nat) < 27) (cm_obj G (S.1 0) (S.2 0)) rfl rfl rfl rfl (Nat.le_of_ble_eq_true rfl) dX9_areTwo_10 ?_
    refine go_if_eq (tgt := 25) O dX9_areTwo_13 (by decide) (fun hc6 => ?_) (fun hc6 => ?_)
    · replace hF := it_t hc6 hF
      refine go_iconst (v := (0 : Int32)) O dX9_areTwo_25 (by decide) ?_
      exact ret_z hF (fun hz => hR _ _ hz dX9_areTwo_26) (show vp_nar .boolean (0 : Int32) = (0 : Int32) by decide)
    · replace hF := it_f hc6 hF
      refine go_iload_n O dX9_areTwo_16 rfl 1 rfl ?_
      refine go_iload_n O dX9_areTwo_17 rfl 2 rfl ?_
      refine go_icmp_eq (tgt := 25) O dX9_areTwo_18 (by decide) (fun hc5 => ?_) (fun hc5 => ?_)
      · replace hF := it_t hc5 hF
        refine go_iconst (v := (0 : Int32)) O dX9_areTwo_25 (by decide) ?_
        exact ret_z hF (fun hz => hR _ _ hz dX9_areTwo_26) (show vp_nar .boolean (0 : Int32) = (0 : Int32) by decide)
      · replace hF := it_f hc5 hF
        refine go_iconst (v := (1 : Int32)) O dX9_areTwo_21 (by decide) ?_
        refine go_goto (tgt := 26) O dX9_areTwo_22 (by decide) ?_
        exact ret_z hF (fun hz => hR _ _ hz dX9_areTwo_26) (show vp_nar .boolean (1 : Int32) = (1 : Int32) by decide)
-- X9_hears
def rm_X9_hears : Room := { frames := 5, cells := 0, slots := 0, locals := 112 }
theorem fl_X9_hears_25 : Cond.fieldLink RX9 25 "PaperWallsModel" "where" "[I" ∈ wsX9_hears := by decide +kernel
theorem in_X9_hears_X9 : ∀ x ∈ u_ws RX9 TX9 36, x ∈ wsX9_hears := by decide +kernel
def F_X9_hears  (S : Sg) (a1 : Int32) (a2 : Int32) : Option (Int32 × Sg) := bd (F_X9_areTwo S a1 a2) (fun x2 => if x2 = 0 then (some ((-1 : Int32), S)) else (bd (F_X9_doesHear S a1 a2) (fun x4 => bd (if x4 = 0 then (some (0 : Int32)) else (some (1 : Int32))) (fun x5 => chk (inB a1 7) (bd (F_X9_comesTo S (S.1 6 a1.toNatClampNeg) a2) (fun x11 => bd (F_X9_say S x5 x11) (fun (x13, S14) => some (x13, S14))))))))
set_option maxHeartbeats 4000000 in
set_option maxRecDepth 100000 in
theorem c_X9_hears (l : Launch) (G : Gp) (hI : Ij (wM G))  {S : Sg} {a1 : Int32} {a2 : Int32} {r : Int32} {S1 : Sg} (hF : F_X9_hears S a1 a2 = some (r, S1)) : Met l yX9_hears wsX9_hears rm_X9_hears (va_Pc [.ref (G.2.1 0), .int a1, .int a2] (PreW (wM G) S)) (va_Qi (fun r' u => r' = r ∧ u = S1) (PostW (wM G)) (AW (wM G))) 0 0 (AW (wM G)) := by
  rw [F_X9_hears] at hF
  refine met_i (cc := cX9_hears) (maxL := 3) (own := RX9) hI (by decide) rfl rfl (Nat.le_of_ble_eq_true rfl) (fun X O hR => ?_)
  show Go X l rm_X9_hears (wM G) 3 0 [(0, .ref (G.2.1 0)), (1, .int a1), (2, .int a2)] [] S
  refine go_aload_n O dX9_hears_0 rfl 0 rfl ?_
  refine go_iload_n O dX9_hears_1 rfl 1 rfl ?_
  refine go_iload_n O dX9_hears_2 rfl 2 rfl ?_
  obtain ⟨x2, hA1, hF⟩ := bd_s hF
  refine go_callVi (As := [.int a1, .int a2]) (rest := []) (b := 0) O (c_X9_areTwo l G hI hA1) (fun s args hts => cwV 2 hts gX9_hears_X9_areTwo rfl rfl rfl (by decide +kernel) ⟨Nat.le_of_ble_eq_true rfl, Nat.le_of_ble_eq_true rfl⟩) (by decide : (0 : Nat) < 27) (cm_obj G (S.1 0) (S.2 0)) rfl rfl rfl rfl (Nat.le_of_ble_eq_true rfl) dX9_hears_3 ?_
  refine go_if_ne (tgt := 11) O dX9_hears_6 (by decide) (fun hc15 => ?_) (fun hc15 => ?_)
  · replace hF := it_f hc15 hF
    refine go_aload_n O dX9_hears_11 rfl 0 rfl ?_
    refine go_aload_n O dX9_hears_12 rfl 0 rfl ?_
    refine go_iload_n O dX9_hears_13 rfl 1 rfl ?_
    refine go_iload_n O dX9_hears_14 rfl 2 rfl ?_
    obtain ⟨x4, hA3, hF⟩ := bd_s hF
    refine go_callVi (As := [.int a1, .int a2]) (rest := [.ref (G.2.1 0)]) (b := 0) O (c_X9_doesHear l G hI hA3) (fun s args hts => cwV 2 hts gX9_hears_X9_doesHear rfl rfl rfl (by decide +kernel) ⟨Nat.le_of_ble_eq_true rfl, Nat.le_of_ble_eq_true rfl⟩) (by decide : (0 : Nat) < 27) (cm_obj G (S.1 0) (S.2 0)) rfl rfl rfl rfl (Nat.le_of_ble_eq_true rfl) dX9_hears_15 ?_
    obtain ⟨x5, hA7, hF⟩ := bd_s hF
    have J6 : Go X l rm_X9_hears (wM G) 3 26 [(0, .ref (G.2.1 0)), (1, .int a1), (2, .int a2)] [.int x5, .ref (G.2.1 0)] S := by
      refine go_aload_n O dX9_hears_26 rfl 0 rfl ?_
      refine go_aload_n O dX9_hears_27 rfl 0 rfl ?_
      refine go_get (k := 0) (j := 5) O (by decide : (0 : Nat) < 27) (cm_obj G (S.1 0) (S.2 0)) rfl in_X9_hears_X9 (by decide) fl_X9_hears_25 rfl rfl dX9_hears_28 ?_
      refine go_iload_n O dX9_hears_31 rfl 1 rfl ?_
      obtain ⟨hb9, hF⟩ := chk_s hF
      refine go_iald (k := 6) O (by decide : (6 : Nat) < 27) (cm_6 G (S.1 6) (S.2 6)) (inB_in hb9) dX9_hears_32 ?_
      refine go_iload_n O dX9_hears_33 rfl 2 rfl ?_
      obtain ⟨x11, hA10, hF⟩ := bd_s hF
      refine go_callVi (As := [.int (S.1 6 a1.toNatClampNeg), .int a2]) (rest := [.int x5, .ref (G.2.1 0)]) (b := 0) O (c_X9_comesTo l G hI hA10) (fun s args hts => cwV 2 hts gX9_hears_X9_comesTo rfl rfl rfl (by decide +kernel) ⟨Nat.le_of_ble_eq_true rfl, Nat.le_of_ble_eq_true rfl⟩) (by decide : (0 : Nat) < 27) (cm_obj G (S.1 0) (S.2 0)) rfl rfl rfl rfl (Nat.le_of_ble_eq_true rfl) dX9_hears_34 ?_
      obtain ⟨⟨x13, S14⟩, hA12, hF⟩ := bd_s hF
      refine go_callVi (As := [.int x5, .int x11]) (rest := []) (b := 0) O (c_X9_say l G hI hA12) (fun s args hts => cwV 2 hts gX9_hears_X9_say rfl rfl rfl (by decide +kernel) ⟨Nat.le_of_ble_eq_true rfl, Nat.le_of_ble_eq_true rfl⟩) (by decide : (0 : Nat) < 27) (cm_obj G (S.1 0) (S.2 0)) rfl rfl rfl rfl (Nat.le_of_ble_eq_true rfl) dX9_hears_37 ?_
      exact ret_wi hF (hR _ _ dX9_hears_40)
    replace hF := hA7
    refine go_if_eq (tgt := 25) O dX9_hears_18 (by decide) (fun hc8 => ?_) (fun hc8 => ?_)
    · replace hF := it_t hc8 hF
      refine go_iconst (v := (0 : Int32)) O dX9_hears_25 (by decide) ?_
      exact jn (P := fun q => Go X l rm_X9_hears (wM G) 3 26 [(0, .ref (G.2.1 0)), (1, .int a1), (2, .int a2)] [.int q, .ref (G.2.1 0)] S) hF J6
    · replace hF := it_f hc8 hF
      refine go_iconst (v := (1 : Int32)) O dX9_hears_21 (by decide) ?_
      refine go_goto (tgt := 26) O dX9_hears_22 (by decide) ?_
      exact jn (P := fun q => Go X l rm_X9_hears (wM G) 3 26 [(0, .ref (G.2.1 0)), (1, .int a1), (2, .int a2)] [.int q, .ref (G.2.1 0)] S) hF J6
  · replace hF := it_t hc15 hF
    refine go_iconst (v := (-1 : Int32)) O dX9_hears_9 (by decide) ?_
    exact ret_wi hF (hR _ _ dX9_hears_10)
-- X9_heard
def rm_X9_heard : Room := { frames := 4, cells := 0, slots := 0, locals := 90 }
def F_X9_heard  (S : Sg) (a1 : Int32) (a2 : Int32) : Option Int32 := bd (F_X9_isOne S a1) (fun x2 => if x2 = 0 then (some (-1 : Int32)) else (bd (F_X9_isSet S a2) (fun x4 => if x4 = 0 then (some (-1 : Int32)) else (bd (F_X9_has S a2 a1) (fun x6 => if x6 = 0 then (bd (F_X9_heardBy S a1 a2) (fun x8 => some x8)) else (some (-1 : Int32)))))))
set_option maxHeartbeats 4000000 in
set_option maxRecDepth 100000 in
theorem c_X9_heard (l : Launch) (G : Gp) (hI : Ij (wM G))  {S : Sg} {a1 : Int32} {a2 : Int32} {r : Int32} (hF : F_X9_heard S a1 a2 = some r) : Met l yX9_heard wsX9_heard rm_X9_heard (va_Pc [.ref (G.2.1 0), .int a1, .int a2] (PreW (wM G) S)) (va_Qi (fun r' u => r' = r ∧ u = S) (PostW (wM G)) (AW (wM G))) 0 0 (AW (wM G)) := by
  rw [F_X9_heard] at hF
  refine met_i (cc := cX9_heard) (maxL := 3) (own := RX9) hI (by decide) rfl rfl (Nat.le_of_ble_eq_true rfl) (fun X O hR => ?_)
  show Go X l rm_X9_heard (wM G) 3 0 [(0, .ref (G.2.1 0)), (1, .int a1), (2, .int a2)] [] S
  refine go_aload_n O dX9_heard_0 rfl 0 rfl ?_
  refine go_iload_n O dX9_heard_1 rfl 1 rfl ?_
  obtain ⟨x2, hA1, hF⟩ := bd_s hF
  refine go_callVi (As := [.int a1]) (rest := []) (b := 0) O (c_X9_isOne l G hI hA1) (fun s args hts => cwV 1 hts gX9_heard_X9_isOne rfl rfl rfl (by decide +kernel) ⟨Nat.le_of_ble_eq_true rfl, Nat.le_of_ble_eq_true rfl⟩) (by decide : (0 : Nat) < 27) (cm_obj G (S.1 0) (S.2 0)) rfl rfl rfl rfl (Nat.le_of_ble_eq_true rfl) dX9_heard_2 ?_
  refine go_if_eq (tgt := 33) O dX9_heard_5 (by decide) (fun hc11 => ?_) (fun hc11 => ?_)
  · replace hF := it_t hc11 hF
    refine go_iconst (v := (-1 : Int32)) O dX9_heard_33 (by decide) ?_
    exact ret_i hF (hR _ _ dX9_heard_34)
  · replace hF := it_f hc11 hF
    refine go_aload_n O dX9_heard_8 rfl 0 rfl ?_
    refine go_iload_n O dX9_heard_9 rfl 2 rfl ?_
    obtain ⟨x4, hA3, hF⟩ := bd_s hF
    refine go_callVi (As := [.int a2]) (rest := []) (b := 0) O (c_X9_isSet l G hI hA3) (fun s args hts => cwV 1 hts gX9_heard_X9_isSet rfl rfl rfl (by decide +kernel) ⟨Nat.le_of_ble_eq_true rfl, Nat.le_of_ble_eq_true rfl⟩) (by decide : (0 : Nat) < 27) (cm_obj G (S.1 0) (S.2 0)) rfl rfl rfl rfl (Nat.le_of_ble_eq_true rfl) dX9_heard_10 ?_
    refine go_if_eq (tgt := 33) O dX9_heard_13 (by decide) (fun hc10 => ?_) (fun hc10 => ?_)
    · replace hF := it_t hc10 hF
      refine go_iconst (v := (-1 : Int32)) O dX9_heard_33 (by decide) ?_
      exact ret_i hF (hR _ _ dX9_heard_34)
    · replace hF := it_f hc10 hF
      refine go_iload_n O dX9_heard_16 rfl 2 rfl ?_
      refine go_iload_n O dX9_heard_17 rfl 1 rfl ?_
      obtain ⟨x6, hA5, hF⟩ := bd_s hF
      refine go_callSi (As := [.int a2, .int a1]) (rest := []) O (c_X9_has l G hI hA5) (fun s args hts => va_cwS 2 hts gX9_heard_X9_has rfl rfl rfl (by decide +kernel) ⟨Nat.le_of_ble_eq_true rfl, Nat.le_of_ble_eq_true rfl⟩) rfl rfl (Nat.le_of_ble_eq_true rfl) dX9_heard_18 ?_
      refine go_if_ne (tgt := 33) O dX9_heard_21 (by decide) (fun hc9 => ?_) (fun hc9 => ?_)
      · replace hF := it_f hc9 hF
        refine go_iconst (v := (-1 : Int32)) O dX9_heard_33 (by decide) ?_
        exact ret_i hF (hR _ _ dX9_heard_34)
      · replace hF := it_t hc9 hF
        refine go_aload_n O dX9_heard_24 rfl 0 rfl ?_
        refine go_iload_n O dX9_heard_25 rfl 1 rfl ?_
        refine go_iload_n O dX9_heard_26 rfl 2 rfl ?_
        obtain ⟨x8, hA7, hF⟩ := bd_s hF
        refine go_callVi (As := [.int a1, .int a2]) (rest := []) (b := 0) O (c_X9_heardBy l G hI hA7) (fun s args hts => cwV 2 hts gX9_heard_X9_heardBy rfl rfl rfl (by decide +kernel) ⟨Nat.le_of_ble_eq_true rfl, Nat.le_of_ble_eq_true rfl⟩) (by decide : (0 : Nat) < 27) (cm_obj G (S.1 0) (S.2 0)) rfl rfl rfl rfl (Nat.le_of_ble_eq_true rfl) dX9_heard_27 ?_
        refine go_goto (tgt := 34) O dX9_heard_30 (by decide) ?_
        exact ret_i hF (hR _ _ dX9_heard_34)
-- X9_noise
def rm_X9_noise : Room := { frames := 3, cells := 0, slots := 0, locals := 65 }
def F_X9_noise  (S : Sg) (a1 : Int32) (a2 : Int32) : Option Int32 := bd (F_X9_isRoom S a1) (fun x2 => if x2 = 0 then (some (-1 : Int32)) else (bd (F_X9_isSet S a2) (fun x4 => if x4 = 0 then (some (-1 : Int32)) else (bd (F_X9_noiseIn S a1 a2) (fun x6 => some x6)))))
set_option maxHeartbeats 4000000 in
set_option maxRecDepth 100000 in
theorem c_X9_noise (l : Launch) (G : Gp) (hI : Ij (wM G))  {S : Sg} {a1 : Int32} {a2 : Int32} {r : Int32} (hF : F_X9_noise S a1 a2 = some r) : Met l yX9_noise wsX9_noise rm_X9_noise (va_Pc [.ref (G.2.1 0), .int a1, .int a2] (PreW (wM G) S)) (va_Qi (fun r' u => r' = r ∧ u = S) (PostW (wM G)) (AW (wM G))) 0 0 (AW (wM G)) := by
  rw [F_X9_noise] at hF
  refine met_i (cc := cX9_noise) (maxL := 3) (own := RX9) hI (by decide) rfl rfl (Nat.le_of_ble_eq_true rfl) (fun X O hR => ?_)
  show Go X l rm_X9_noise (wM G) 3 0 [(0, .ref (G.2.1 0)), (1, .int a1), (2, .int a2)] [] S
  refine go_aload_n O dX9_noise_0 rfl 0 rfl ?_
  refine go_iload_n O dX9_noise_1 rfl 1 rfl ?_
  obtain ⟨x2, hA1, hF⟩ := bd_s hF
  refine go_callVi (As := [.int a1]) (rest := []) (b := 0) O (c_X9_isRoom l G hI hA1) (fun s args hts => cwV 1 hts gX9_noise_X9_isRoom rfl rfl rfl (by decide +kernel) ⟨Nat.le_of_ble_eq_true rfl, Nat.le_of_ble_eq_true rfl⟩) (by decide : (0 : Nat) < 27) (cm_obj G (S.1 0) (S.2 0)) rfl rfl rfl rfl (Nat.le_of_ble_eq_true rfl) dX9_noise_2 ?_
  refine go_if_eq (tgt := 25) O dX9_noise_5 (by decide) (fun hc8 => ?_) (fun hc8 => ?_)
  · replace hF := it_t hc8 hF
    refine go_iconst (v := (-1 : Int32)) O dX9_noise_25 (by decide) ?_
    exact ret_i hF (hR _ _ dX9_noise_26)
  · replace hF := it_f hc8 hF
    refine go_aload_n O dX9_noise_8 rfl 0 rfl ?_
    refine go_iload_n O dX9_noise_9 rfl 2 rfl ?_
    obtain ⟨x4, hA3, hF⟩ := bd_s hF
    refine go_callVi (As := [.int a2]) (rest := []) (b := 0) O (c_X9_isSet l G hI hA3) (fun s args hts => cwV 1 hts gX9_noise_X9_isSet rfl rfl rfl (by decide +kernel) ⟨Nat.le_of_ble_eq_true rfl, Nat.le_of_ble_eq_true rfl⟩) (by decide : (0 : Nat) < 27) (cm_obj G (S.1 0) (S.2 0)) rfl rfl rfl rfl (Nat.le_of_ble_eq_true rfl) dX9_noise_10 ?_
    refine go_if_eq (tgt := 25) O dX9_noise_13 (by decide) (fun hc7 => ?_) (fun hc7 => ?_)
    · replace hF := it_t hc7 hF
      refine go_iconst (v := (-1 : Int32)) O dX9_noise_25 (by decide) ?_
      exact ret_i hF (hR _ _ dX9_noise_26)
    · replace hF := it_f hc7 hF
      refine go_aload_n O dX9_noise_16 rfl 0 rfl ?_
      refine go_iload_n O dX9_noise_17 rfl 1 rfl ?_
      refine go_iload_n O dX9_noise_18 rfl 2 rfl ?_
      obtain ⟨x6, hA5, hF⟩ := bd_s hF
      refine go_callVi (As := [.int a1, .int a2]) (rest := []) (b := 0) O (c_X9_noiseIn l G hI hA5) (fun s args hts => cwV 2 hts gX9_noise_X9_noiseIn rfl rfl rfl (by decide +kernel) ⟨Nat.le_of_ble_eq_true rfl, Nat.le_of_ble_eq_true rfl⟩) (by decide : (0 : Nat) < 27) (cm_obj G (S.1 0) (S.2 0)) rfl rfl rfl rfl (Nat.le_of_ble_eq_true rfl) dX9_noise_19 ?_
      refine go_goto (tgt := 26) O dX9_noise_22 (by decide) ?_
      exact ret_i hF (hR _ _ dX9_noise_26)
-- X9_hush
def rm_X9_hush : Room := { frames := 4, cells := 0, slots := 0, locals := 90 }
theorem fl_X9_hush_153 : Cond.fieldLink RX9 153 "PaperWallsModel" "people" "I" ∈ wsX9_hush := by decide +kernel
theorem in_X9_hush_X9 : ∀ x ∈ u_ws RX9 TX9 36, x ∈ wsX9_hush := by decide +kernel
def T_X9_hush_15  (S : Sg) (p1 : Int32) : Nat → Int32 → Int32 → Option (Int32)
  | 0, _, _ => none
  | n + 1, p2, p3 => if ((1 : Int32) <<< ((S.1 0 7) &&& 31)) ≤ p3 then (some p2) else (bd (if p2 = (-9 : Int32) then (some (1 : Int32)) else (bd (F_X9_ones S p3) (fun x8 => bd (F_X9_ones S p2) (fun x10 => if x10 ≤ x8 then (some (0 : Int32)) else (some (1 : Int32)))))) (fun x4 => bd (if x4 = 0 then (some p2) else (bd (F_X9_has S p3 p1) (fun x17 => if x17 = 0 then (bd (F_X9_heardBy S p1 p3) (fun x19 => if x19 = 0 then (some p3) else (some p2))) else (some p2)))) (fun x13 => T_X9_hush_15 S p1 n x13 (p3 + (1 : Int32)))))
set_option maxHeartbeats 4000000 in
set_option maxRecDepth 100000 in
theorem lt_X9_hush_15 {X : XT} (l : Launch) (G : Gp) (hI : Ij (wM G))  {S : Sg} {p1 : Int32} (O : Ok X (wM G) cX9_hush RX9 wsX9_hush 5) : ∀ (n : Nat) (p2 : Int32) (p3 : Int32)  (q : (Int32)), T_X9_hush_15 S p1 n p2 p3  = some q → (Go X l rm_X9_hush (wM G) 5 83 [(0, .ref (G.2.1 0)), (2, .int q)] [] S) → Go X l rm_X9_hush (wM G) 5 15 [(0, .ref (G.2.1 0)), (1, .int p1), (2, .int p2), (3, .int p3)] [] S := by
  intro n
  induction n with
  | zero =>
    intro p2 p3  q hF
    cases hF
  | succ n ih =>
    intro p2 p3  q hF hE
    rw [T_X9_hush_15] at hF
    refine go_iload_n O dX9_hush_15 rfl 3 rfl ?_
    refine go_iconst (v := (1 : Int32)) O dX9_hush_16 (by decide) ?_
    refine go_aload_n O dX9_hush_17 rfl 0 rfl ?_
    refine go_get (k := 0) (j := 7) O (by decide : (0 : Nat) < 27) (cm_obj G (S.1 0) (S.2 0)) rfl in_X9_hush_X9 (by decide) fl_X9_hush_153 rfl rfl dX9_hush_18 ?_
    refine go_ishl O dX9_hush_21 ?_
    refine go_icmp_ge (tgt := 83) O dX9_hush_22 (by decide) (fun hc23 => ?_) (fun hc23 => ?_)
    · replace hF := it_t hc23 hF
      refine go_perm (ls' := [(0, .ref (G.2.1 0)), (2, .int p2)]) [0, 2] rfl ?_
      exact jn (P := fun q => Go X l rm_X9_hush (wM G) 5 83 [(0, .ref (G.2.1 0)), (2, .int q)] [] S) hF hE
    · replace hF := it_f hc23 hF
      refine go_iload_n O dX9_hush_25 rfl 2 rfl ?_
      refine go_bipush (v := (-9 : Int32)) O dX9_hush_26 (by decide) ?_
      obtain ⟨x4, hA6, hF⟩ := bd_s hF
      have J5 : Go X l rm_X9_hush (wM G) 5 47 [(0, .ref (G.2.1 0)), (1, .int p1), (2, .int p2), (3, .int p3)] [.int x4] S := by
        refine go_istore (ls' := [(4, .int x4), (0, .ref (G.2.1 0)), (1, .int p1), (2, .int p2), (3, .int p3)]) O dX9_hush_47 (by decide) rfl ?_
        refine go_iload O dX9_hush_49 0 rfl ?_
        obtain ⟨x13, hA15, hF⟩ := bd_s hF
        have J14 : Go X l rm_X9_hush (wM G) 5 76 [(0, .ref (G.2.1 0)), (1, .int p1), (3, .int p3)] [.int x13] S := by
          refine go_istore_n (ls' := [(2, .int x13), (0, .ref (G.2.1 0)), (1, .int p1), (3, .int p3)]) O dX9_hush_76 rfl (by decide) rfl ?_
          refine go_iinc (d := (1 : Int32)) (ls' := [(3, .int (p3 + (1 : Int32))), (2, .int x13), (0, .ref (G.2.1 0)), (1, .int p1)]) O dX9_hush_77 3 rfl (by decide) (by decide) rfl ?_
          refine go_goto (tgt := 15) O dX9_hush_80 (by decide) ?_
          refine go_perm (ls' := [(0, .ref (G.2.1 0)), (1, .int p1), (2, .int x13), (3, .int (p3 + (1 : Int32)))]) [2, 3, 1, 0] rfl ?_
          exact ih _ _ _ hF hE
        replace hF := hA15
        refine go_if_eq (tgt := 75) O dX9_hush_51 (by decide) (fun hc22 => ?_) (fun hc22 => ?_)
        · replace hF := it_t hc22 hF
          refine go_iload_n O dX9_hush_75 rfl 3 rfl ?_
          refine go_perm (ls' := [(0, .ref (G.2.1 0)), (1, .int p1), (3, .int p3)]) [1, 2, 4] rfl ?_
          exact jn (P := fun q => Go X l rm_X9_hush (wM G) 5 76 [(0, .ref (G.2.1 0)), (1, .int p1), (3, .int p3)] [.int q] S) hF J14
        · replace hF := it_f hc22 hF
          refine go_iload_n O dX9_hush_54 rfl 4 rfl ?_
          refine go_iload_n O dX9_hush_55 rfl 2 rfl ?_
          obtain ⟨x17, hA16, hF⟩ := bd_s hF
          refine go_callSi (As := [.int p3, .int p1]) (rest := []) O (c_X9_has l G hI hA16) (fun s args hts => va_cwS 2 hts gX9_hush_X9_has rfl rfl rfl (by decide +kernel) ⟨Nat.le_of_ble_eq_true rfl, Nat.le_of_ble_eq_true rfl⟩) rfl rfl (Nat.le_of_ble_eq_true rfl) dX9_hush_56 ?_
          refine go_if_ne (tgt := 75) O dX9_hush_59 (by decide) (fun hc21 => ?_) (fun hc21 => ?_)
          · replace hF := it_f hc21 hF
            refine go_iload_n O dX9_hush_75 rfl 3 rfl ?_
            refine go_perm (ls' := [(0, .ref (G.2.1 0)), (1, .int p1), (3, .int p3)]) [1, 2, 4] rfl ?_
            exact jn (P := fun q => Go X l rm_X9_hush (wM G) 5 76 [(0, .ref (G.2.1 0)), (1, .int p1), (3, .int p3)] [.int q] S) hF J14
          · replace hF := it_t hc21 hF
            refine go_aload_n O dX9_hush_62 rfl 1 rfl ?_
            refine go_iload_n O dX9_hush_63 rfl 2 rfl ?_
            refine go_iload_n O dX9_hush_64 rfl 4 rfl ?_
            obtain ⟨x19, hA18, hF⟩ := bd_s hF
            refine go_callVi (As := [.int p1, .int p3]) (rest := []) (b := 0) O (c_X9_heardBy l G hI hA18) (fun s args hts => cwV 2 hts gX9_hush_X9_heardBy rfl rfl rfl (by decide +kernel) ⟨Nat.le_of_ble_eq_true rfl, Nat.le_of_ble_eq_true rfl⟩) (by decide : (0 : Nat) < 27) (cm_obj G (S.1 0) (S.2 0)) rfl rfl rfl rfl (Nat.le_of_ble_eq_true rfl) dX9_hush_65 ?_
            refine go_if_ne (tgt := 75) O dX9_hush_68 (by decide) (fun hc20 => ?_) (fun hc20 => ?_)
            · replace hF := it_f hc20 hF
              refine go_iload_n O dX9_hush_75 rfl 3 rfl ?_
              refine go_perm (ls' := [(0, .ref (G.2.1 0)), (1, .int p1), (3, .int p3)]) [1, 2, 4] rfl ?_
              exact jn (P := fun q => Go X l rm_X9_hush (wM G) 5 76 [(0, .ref (G.2.1 0)), (1, .int p1), (3, .int p3)] [.int q] S) hF J14
            · replace hF := it_t hc20 hF
              refine go_iload_n O dX9_hush_71 rfl 4 rfl ?_
              refine go_goto (tgt := 76) O dX9_hush_72 (by decide) ?_
              refine go_perm (ls' := [(0, .ref (G.2.1 0)), (1, .int p1), (3, .int p3)]) [1, 2, 4] rfl ?_
              exact jn (P := fun q => Go X l rm_X9_hush (wM G) 5 76 [(0, .ref (G.2.1 0)), (1, .int p1), (3, .int p3)] [.int q] S) hF J14
      replace hF := hA6
      refine go_icmp_eq (tgt := 42) O dX9_hush_28 (by decide) (fun hc12 => ?_) (fun hc12 => ?_)
      · replace hF := it_t hc12 hF
        refine go_iconst (v := (1 : Int32)) O dX9_hush_42 (by decide) ?_
        refine go_goto (tgt := 47) O dX9_hush_43 (by decide) ?_
        exact jn (P := fun q => Go X l rm_X9_hush (wM G) 5 47 [(0, .ref (G.2.1 0)), (1, .int p1), (2, .int p2), (3, .int p3)] [.int q] S) hF J5
      · replace hF := it_f hc12 hF
        refine go_iload_n O dX9_hush_31 rfl 3 rfl ?_
        obtain ⟨x8, hA7, hF⟩ := bd_s hF
        refine go_callSi (As := [.int p3]) (rest := []) O (c_X9_ones l G hI hA7) (fun s args hts => va_cwS 1 hts gX9_hush_X9_ones rfl rfl rfl (by decide +kernel) ⟨Nat.le_of_ble_eq_true rfl, Nat.le_of_ble_eq_true rfl⟩) rfl rfl (Nat.le_of_ble_eq_true rfl) dX9_hush_32 ?_
        refine go_iload_n O dX9_hush_35 rfl 2 rfl ?_
        obtain ⟨x10, hA9, hF⟩ := bd_s hF
        refine go_callSi (As := [.int p2]) (rest := [.int x8]) O (c_X9_ones l G hI hA9) (fun s args hts => va_cwS 1 hts gX9_hush_X9_ones rfl rfl rfl (by decide +kernel) ⟨Nat.le_of_ble_eq_true rfl, Nat.le_of_ble_eq_true rfl⟩) rfl rfl (Nat.le_of_ble_eq_true rfl) dX9_hush_36 ?_
        refine go_icmp_ge (tgt := 46) O dX9_hush_39 (by decide) (fun hc11 => ?_) (fun hc11 => ?_)
        · replace hF := it_t hc11 hF
          refine go_iconst (v := (0 : Int32)) O dX9_hush_46 (by decide) ?_
          exact jn (P := fun q => Go X l rm_X9_hush (wM G) 5 47 [(0, .ref (G.2.1 0)), (1, .int p1), (2, .int p2), (3, .int p3)] [.int q] S) hF J5
        · replace hF := it_f hc11 hF
          refine go_iconst (v := (1 : Int32)) O dX9_hush_42 (by decide) ?_
          refine go_goto (tgt := 47) O dX9_hush_43 (by decide) ?_
          exact jn (P := fun q => Go X l rm_X9_hush (wM G) 5 47 [(0, .ref (G.2.1 0)), (1, .int p1), (2, .int p2), (3, .int p3)] [.int q] S) hF J5
def F_X9_hush  (S : Sg) (a1 : Int32) : Option (Int32 × Sg) := bd (F_X9_isOne S a1) (fun x2 => if x2 = 0 then (some ((-1 : Int32), S)) else (bd (T_X9_hush_15 S a1 FU (-9 : Int32) (0 : Int32)) (fun x3 => if x3 = (-9 : Int32) then (some ((-9 : Int32), S)) else (bd (F_X9_ones S x3) (fun x26 => bd (F_X9_say S x26 x3) (fun (x28, S29) => some (x28, S29)))))))
set_option maxHeartbeats 4000000 in
set_option maxRecDepth 100000 in
theorem c_X9_hush (l : Launch) (G : Gp) (hI : Ij (wM G))  {S : Sg} {a1 : Int32} {r : Int32} {S1 : Sg} (hF : F_X9_hush S a1 = some (r, S1)) : Met l yX9_hush wsX9_hush rm_X9_hush (va_Pc [.ref (G.2.1 0), .int a1] (PreW (wM G) S)) (va_Qi (fun r' u => r' = r ∧ u = S1) (PostW (wM G)) (AW (wM G))) 0 0 (AW (wM G)) := by
  rw [F_X9_hush] at hF
  refine met_i (cc := cX9_hush) (maxL := 5) (own := RX9) hI (by decide) rfl rfl (Nat.le_of_ble_eq_true rfl) (fun X O hR => ?_)
  show Go X l rm_X9_hush (wM G) 5 0 [(0, .ref (G.2.1 0)), (1, .int a1)] [] S
  refine go_aload_n O dX9_hush_0 rfl 0 rfl ?_
  refine go_iload_n O dX9_hush_1 rfl 1 rfl ?_
  obtain ⟨x2, hA1, hF⟩ := bd_s hF
  refine go_callVi (As := [.int a1]) (rest := []) (b := 0) O (c_X9_isOne l G hI hA1) (fun s args hts => cwV 1 hts gX9_hush_X9_isOne rfl rfl rfl (by decide +kernel) ⟨Nat.le_of_ble_eq_true rfl, Nat.le_of_ble_eq_true rfl⟩) (by decide : (0 : Nat) < 27) (cm_obj G (S.1 0) (S.2 0)) rfl rfl rfl rfl (Nat.le_of_ble_eq_true rfl) dX9_hush_2 ?_
  refine go_if_ne (tgt := 10) O dX9_hush_5 (by decide) (fun hc31 => ?_) (fun hc31 => ?_)
  · replace hF := it_f hc31 hF
    refine go_bipush (v := (-9 : Int32)) O dX9_hush_10 (by decide) ?_
    refine go_istore_n (ls' := [(2, .int (-9 : Int32)), (0, .ref (G.2.1 0)), (1, .int a1)]) O dX9_hush_12 rfl (by decide) rfl ?_
    refine go_iconst (v := (0 : Int32)) O dX9_hush_13 (by decide) ?_
    refine go_istore_n (ls' := [(3, .int (0 : Int32)), (2, .int (-9 : Int32)), (0, .ref (G.2.1 0)), (1, .int a1)]) O dX9_hush_14 rfl (by decide) rfl ?_
    refine go_perm (ls' := [(0, .ref (G.2.1 0)), (1, .int a1), (2, .int (-9 : Int32)), (3, .int (0 : Int32))]) [2, 3, 1, 0] rfl ?_
    obtain ⟨x3, hA24, hF⟩ := bd_s hF
    refine lt_X9_hush_15 l G hI  O _ _ _ _ hA24 ?_
    refine go_iload_n O dX9_hush_83 rfl 1 rfl ?_
    refine go_bipush (v := (-9 : Int32)) O dX9_hush_84 (by decide) ?_
    refine go_icmp_ne (tgt := 94) O dX9_hush_86 (by decide) (fun hc30 => ?_) (fun hc30 => ?_)
    · replace hF := it_f hc30 hF
      refine go_aload_n O dX9_hush_94 rfl 0 rfl ?_
      refine go_iload_n O dX9_hush_95 rfl 1 rfl ?_
      obtain ⟨x26, hA25, hF⟩ := bd_s hF
      refine go_callSi (As := [.int x3]) (rest := [.ref (G.2.1 0)]) O (c_X9_ones l G hI hA25) (fun s args hts => va_cwS 1 hts gX9_hush_X9_ones rfl rfl rfl (by decide +kernel) ⟨Nat.le_of_ble_eq_true rfl, Nat.le_of_ble_eq_true rfl⟩) rfl rfl (Nat.le_of_ble_eq_true rfl) dX9_hush_96 ?_
      refine go_iload_n O dX9_hush_99 rfl 1 rfl ?_
      obtain ⟨⟨x28, S29⟩, hA27, hF⟩ := bd_s hF
      refine go_callVi (As := [.int x26, .int x3]) (rest := []) (b := 0) O (c_X9_say l G hI hA27) (fun s args hts => cwV 2 hts gX9_hush_X9_say rfl rfl rfl (by decide +kernel) ⟨Nat.le_of_ble_eq_true rfl, Nat.le_of_ble_eq_true rfl⟩) (by decide : (0 : Nat) < 27) (cm_obj G (S.1 0) (S.2 0)) rfl rfl rfl rfl (Nat.le_of_ble_eq_true rfl) dX9_hush_100 ?_
      exact ret_wi hF (hR _ _ dX9_hush_103)
    · replace hF := it_t hc30 hF
      refine go_bipush (v := (-9 : Int32)) O dX9_hush_89 (by decide) ?_
      refine go_goto (tgt := 103) O dX9_hush_91 (by decide) ?_
      exact ret_wi hF (hR _ _ dX9_hush_103)
  · replace hF := it_t hc31 hF
    refine go_iconst (v := (-1 : Int32)) O dX9_hush_8 (by decide) ?_
    exact ret_wi hF (hR _ _ dX9_hush_9)
-- X9_talk
def rm_X9_talk : Room := { frames := 3, cells := 0, slots := 0, locals := 68 }
theorem fl_X9_talk_31 : Cond.fieldLink RX9 31 "PaperWallsModel" "talks" "[I" ∈ wsX9_talk := by decide +kernel
theorem fl_X9_talk_156 : Cond.fieldLink RX9 156 "PaperWallsModel" "talkMany" "I" ∈ wsX9_talk := by decide +kernel
theorem in_X9_talk_X9 : ∀ x ∈ u_ws RX9 TX9 36, x ∈ wsX9_talk := by decide +kernel
def F_X9_talk  (S : Sg) (a1 : Int32) (a2 : Int32) (a3 : Int32) : Option (Int32 × Sg) := bd (F_X9_areTwo S a1 a2) (fun x2 => if x2 = 0 then (some ((-1 : Int32), S)) else (bd (F_X9_isSet S a3) (fun x4 => if x4 = 0 then (some ((-1 : Int32), S)) else (bd (F_X9_has S a3 a1) (fun x6 => if x6 = 0 then (bd (F_X9_has S a3 a2) (fun x8 => if x8 = 0 then (if (S.1 0 10) = (8 : Int32) then (some ((-2 : Int32), S)) else (chk (inB ((3 : Int32) * (S.1 0 10)) 24) (nm (wI S 8 ((3 : Int32) * (S.1 0 10)).toNatClampNeg a1) (fun S10 => chk (inB (((3 : Int32) * (S10.1 0 10)) + (1 : Int32)) 24) (nm (wI S10 8 (((3 : Int32) * (S10.1 0 10)) + (1 : Int32)).toNatClampNeg a2) (fun S12 => chk (inB (((3 : Int32) * (S12.1 0 10)) + (2 : Int32)) 24) (nm (wI S12 8 (((3 : Int32) * (S12.1 0 10)) + (2 : Int32)).toNatClampNeg a3) (fun S14 => nm (wI S14 0 10 ((S14.1 0 10) + (1 : Int32))) (fun S15 => some ((S15.1 0 10) - (1 : Int32), S15)))))))))) else (some ((-1 : Int32), S)))) else (some ((-1 : Int32), S)))))))
set_option maxHeartbeats 4000000 in
set_option maxRecDepth 100000 in
theorem c_X9_talk (l : Launch) (G : Gp) (hI : Ij (wM G))  {S : Sg} {a1 : Int32} {a2 : Int32} {a3 : Int32} {r : Int32} {S1 : Sg} (hF : F_X9_talk S a1 a2 a3 = some (r, S1)) : Met l yX9_talk wsX9_talk rm_X9_talk (va_Pc [.ref (G.2.1 0), .int a1, .int a2, .int a3] (PreW (wM G) S)) (va_Qi (fun r' u => r' = r ∧ u = S1) (PostW (wM G)) (AW (wM G))) 0 0 (AW (wM G)) := by
  rw [F_X9_talk] at hF
  refine met_i (cc := cX9_talk) (maxL := 4) (own := RX9) hI (by decide) rfl rfl (Nat.le_of_ble_eq_true rfl) (fun X O hR => ?_)
  show Go X l rm_X9_talk (wM G) 4 0 [(0, .ref (G.2.1 0)), (1, .int a1), (2, .int a2), (3, .int a3)] [] S
  refine go_aload_n O dX9_talk_0 rfl 0 rfl ?_
  refine go_iload_n O dX9_talk_1 rfl 1 rfl ?_
  refine go_iload_n O dX9_talk_2 rfl 2 rfl ?_
  obtain ⟨x2, hA1, hF⟩ := bd_s hF
  refine go_callVi (As := [.int a1, .int a2]) (rest := []) (b := 0) O (c_X9_areTwo l G hI hA1) (fun s args hts => cwV 2 hts gX9_talk_X9_areTwo rfl rfl rfl (by decide +kernel) ⟨Nat.le_of_ble_eq_true rfl, Nat.le_of_ble_eq_true rfl⟩) (by decide : (0 : Nat) < 27) (cm_obj G (S.1 0) (S.2 0)) rfl rfl rfl rfl (Nat.le_of_ble_eq_true rfl) dX9_talk_3 ?_
  refine go_if_eq (tgt := 33) O dX9_talk_6 (by decide) (fun hc20 => ?_) (fun hc20 => ?_)
  · replace hF := it_t hc20 hF
    refine go_iconst (v := (-1 : Int32)) O dX9_talk_33 (by decide) ?_
    exact ret_wi hF (hR _ _ dX9_talk_34)
  · replace hF := it_f hc20 hF
    refine go_aload_n O dX9_talk_9 rfl 0 rfl ?_
    refine go_iload_n O dX9_talk_10 rfl 3 rfl ?_
    obtain ⟨x4, hA3, hF⟩ := bd_s hF
    refine go_callVi (As := [.int a3]) (rest := []) (b := 0) O (c_X9_isSet l G hI hA3) (fun s args hts => cwV 1 hts gX9_talk_X9_isSet rfl rfl rfl (by decide +kernel) ⟨Nat.le_of_ble_eq_true rfl, Nat.le_of_ble_eq_true rfl⟩) (by decide : (0 : Nat) < 27) (cm_obj G (S.1 0) (S.2 0)) rfl rfl rfl rfl (Nat.le_of_ble_eq_true rfl) dX9_talk_11 ?_
    refine go_if_eq (tgt := 33) O dX9_talk_14 (by decide) (fun hc19 => ?_) (fun hc19 => ?_)
    · replace hF := it_t hc19 hF
      refine go_iconst (v := (-1 : Int32)) O dX9_talk_33 (by decide) ?_
      exact ret_wi hF (hR _ _ dX9_talk_34)
    · replace hF := it_f hc19 hF
      refine go_iload_n O dX9_talk_17 rfl 3 rfl ?_
      refine go_iload_n O dX9_talk_18 rfl 1 rfl ?_
      obtain ⟨x6, hA5, hF⟩ := bd_s hF
      refine go_callSi (As := [.int a3, .int a1]) (rest := []) O (c_X9_has l G hI hA5) (fun s args hts => va_cwS 2 hts gX9_talk_X9_has rfl rfl rfl (by decide +kernel) ⟨Nat.le_of_ble_eq_true rfl, Nat.le_of_ble_eq_true rfl⟩) rfl rfl (Nat.le_of_ble_eq_true rfl) dX9_talk_19 ?_
      refine go_if_ne (tgt := 33) O dX9_talk_22 (by decide) (fun hc18 => ?_) (fun hc18 => ?_)
      · replace hF := it_f hc18 hF
        refine go_iconst (v := (-1 : Int32)) O dX9_talk_33 (by decide) ?_
        exact ret_wi hF (hR _ _ dX9_talk_34)
      · replace hF := it_t hc18 hF
        refine go_iload_n O dX9_talk_25 rfl 3 rfl ?_
        refine go_iload_n O dX9_talk_26 rfl 2 rfl ?_
        obtain ⟨x8, hA7, hF⟩ := bd_s hF
        refine go_callSi (As := [.int a3, .int a2]) (rest := []) O (c_X9_has l G hI hA7) (fun s args hts => va_cwS 2 hts gX9_talk_X9_has rfl rfl rfl (by decide +kernel) ⟨Nat.le_of_ble_eq_true rfl, Nat.le_of_ble_eq_true rfl⟩) rfl rfl (Nat.le_of_ble_eq_true rfl) dX9_talk_27 ?_
        refine go_if_eq (tgt := 35) O dX9_talk_30 (by decide) (fun hc17 => ?_) (fun hc17 => ?_)
        · replace hF := it_t hc17 hF
          refine go_aload_n O dX9_talk_35 rfl 0 rfl ?_
          refine go_get (k := 0) (j := 10) O (by decide : (0 : Nat) < 27) (cm_obj G (S.1 0) (S.2 0)) rfl in_X9_talk_X9 (by decide) fl_X9_talk_156 rfl rfl dX9_talk_36 ?_
          refine go_bipush (v := (8 : Int32)) O dX9_talk_39 (by decide) ?_
          refine go_icmp_ne (tgt := 47) O dX9_talk_41 (by decide) (fun hc16 => ?_) (fun hc16 => ?_)
          · replace hF := it_f hc16 hF
            refine go_aload_n O dX9_talk_47 rfl 0 rfl ?_
            refine go_get (k := 0) (j := 9) O (by decide : (0 : Nat) < 27) (cm_obj G (S.1 0) (S.2 0)) rfl in_X9_talk_X9 (by decide) fl_X9_talk_31 rfl rfl dX9_talk_48 ?_
            refine go_iconst (v := (3 : Int32)) O dX9_talk_51 (by decide) ?_
            refine go_aload_n O dX9_talk_52 rfl 0 rfl ?_
            refine go_get (k := 0) (j := 10) O (by decide : (0 : Nat) < 27) (cm_obj G (S.1 0) (S.2 0)) rfl in_X9_talk_X9 (by decide) fl_X9_talk_156 rfl rfl dX9_talk_53 ?_
            refine go_imul O dX9_talk_56 ?_
            refine go_iload_n O dX9_talk_57 rfl 1 rfl ?_
            obtain ⟨hb9, hF⟩ := chk_s hF
            obtain ⟨S10, eS10, hF⟩ := nm_s hF
            refine go_iast (k := 8) O (by decide : (8 : Nat) < 27) (fun f => (cm_8 G f (S.2 8))) (inB_in hb9) dX9_talk_58 eS10 ?_
            refine go_aload_n O dX9_talk_59 rfl 0 rfl ?_
            refine go_get (k := 0) (j := 9) O (by decide : (0 : Nat) < 27) (cm_obj G (S10.1 0) (S10.2 0)) rfl in_X9_talk_X9 (by decide) fl_X9_talk_31 rfl rfl dX9_talk_60 ?_
            refine go_iconst (v := (3 : Int32)) O dX9_talk_63 (by decide) ?_
            refine go_aload_n O dX9_talk_64 rfl 0 rfl ?_
            refine go_get (k := 0) (j := 10) O (by decide : (0 : Nat) < 27) (cm_obj G (S10.1 0) (S10.2 0)) rfl in_X9_talk_X9 (by decide) fl_X9_talk_156 rfl rfl dX9_talk_65 ?_
            refine go_imul O dX9_talk_68 ?_
            refine go_iconst (v := (1 : Int32)) O dX9_talk_69 (by decide) ?_
            refine go_iadd O dX9_talk_70 ?_
            refine go_iload_n O dX9_talk_71 rfl 2 rfl ?_
            obtain ⟨hb11, hF⟩ := chk_s hF
            obtain ⟨S12, eS12, hF⟩ := nm_s hF
            refine go_iast (k := 8) O (by decide : (8 : Nat) < 27) (fun f => (cm_8 G f (S10.2 8))) (inB_in hb11) dX9_talk_72 eS12 ?_
            refine go_aload_n O dX9_talk_73 rfl 0 rfl ?_
            refine go_get (k := 0) (j := 9) O (by decide : (0 : Nat) < 27) (cm_obj G (S12.1 0) (S12.2 0)) rfl in_X9_talk_X9 (by decide) fl_X9_talk_31 rfl rfl dX9_talk_74 ?_
            refine go_iconst (v := (3 : Int32)) O dX9_talk_77 (by decide) ?_
            refine go_aload_n O dX9_talk_78 rfl 0 rfl ?_
            refine go_get (k := 0) (j := 10) O (by decide : (0 : Nat) < 27) (cm_obj G (S12.1 0) (S12.2 0)) rfl in_X9_talk_X9 (by decide) fl_X9_talk_156 rfl rfl dX9_talk_79 ?_
            refine go_imul O dX9_talk_82 ?_
            refine go_iconst (v := (2 : Int32)) O dX9_talk_83 (by decide) ?_
            refine go_iadd O dX9_talk_84 ?_
            refine go_iload_n O dX9_talk_85 rfl 3 rfl ?_
            obtain ⟨hb13, hF⟩ := chk_s hF
            obtain ⟨S14, eS14, hF⟩ := nm_s hF
            refine go_iast (k := 8) O (by decide : (8 : Nat) < 27) (fun f => (cm_8 G f (S12.2 8))) (inB_in hb13) dX9_talk_86 eS14 ?_
            refine go_aload_n O dX9_talk_87 rfl 0 rfl ?_
            refine go_dup O dX9_talk_88 rfl ?_
            refine go_get (k := 0) (j := 10) O (by decide : (0 : Nat) < 27) (cm_obj G (S14.1 0) (S14.2 0)) rfl in_X9_talk_X9 (by decide) fl_X9_talk_156 rfl rfl dX9_talk_89 ?_
            refine go_iconst (v := (1 : Int32)) O dX9_talk_92 (by decide) ?_
            refine go_iadd O dX9_talk_93 ?_
            obtain ⟨S15, eS15, hF⟩ := nm_s hF
            refine go_putI (k := 0) (j := 10) O (by decide : (0 : Nat) < 27) (cm_obj G (S14.1 0) (S14.2 0)) rfl in_X9_talk_X9 (by decide) fl_X9_talk_156 rfl tyX9 tyX9_ok nmX9 rfl (by decide +kernel) (Nat.le_of_ble_eq_true rfl) (cm_obj G (upd (S14.1 0) 10 ((S14.1 0 10) + (1 : Int32))) (S14.2 0)) dX9_talk_94 eS15 ?_
            refine go_aload_n O dX9_talk_97 rfl 0 rfl ?_
            refine go_get (k := 0) (j := 10) O (by decide : (0 : Nat) < 27) (cm_obj G (S15.1 0) (S15.2 0)) rfl in_X9_talk_X9 (by decide) fl_X9_talk_156 rfl rfl dX9_talk_98 ?_
            refine go_iconst (v := (1 : Int32)) O dX9_talk_101 (by decide) ?_
            refine go_isub O dX9_talk_102 ?_
            exact ret_wi hF (hR _ _ dX9_talk_103)
          · replace hF := it_t hc16 hF
            refine go_bipush (v := (-2 : Int32)) O dX9_talk_44 (by decide) ?_
            exact ret_wi hF (hR _ _ dX9_talk_46)
        · replace hF := it_f hc17 hF
          refine go_iconst (v := (-1 : Int32)) O dX9_talk_33 (by decide) ?_
          exact ret_wi hF (hR _ _ dX9_talk_34)
-- X9_off
def rm_X9_off : Room := { frames := 1, cells := 0, slots := 0, locals := 25 }
theorem fl_X9_off_156 : Cond.fieldLink RX9 156 "PaperWallsModel" "talkMany" "I" ∈ wsX9_off := by decide +kernel
theorem in_X9_off_X9 : ∀ x ∈ u_ws RX9 TX9 36, x ∈ wsX9_off := by decide +kernel
def F_X9_off  (S : Sg) (a1 : Int32) : Option (Int32 × Sg) := bd (F_X9_in S (Int32.toInt64 a1) (0 : Int64) (Int32.toInt64 (S.1 0 10))) (fun x2 => if x2 = 0 then (some ((-1 : Int32), S)) else (nm ((S.1 0 10) - a1) (fun x3 => nm (wI S 0 10 a1) (fun S4 => some (x3, S4)))))
set_option maxHeartbeats 4000000 in
set_option maxRecDepth 100000 in
theorem c_X9_off (l : Launch) (G : Gp) (hI : Ij (wM G))  {S : Sg} {a1 : Int32} {r : Int32} {S1 : Sg} (hF : F_X9_off S a1 = some (r, S1)) : Met l yX9_off wsX9_off rm_X9_off (va_Pc [.ref (G.2.1 0), .int a1] (PreW (wM G) S)) (va_Qi (fun r' u => r' = r ∧ u = S1) (PostW (wM G)) (AW (wM G))) 0 0 (AW (wM G)) := by
  rw [F_X9_off] at hF
  refine met_i (cc := cX9_off) (maxL := 3) (own := RX9) hI (by decide) rfl rfl (Nat.le_of_ble_eq_true rfl) (fun X O hR => ?_)
  show Go X l rm_X9_off (wM G) 3 0 [(0, .ref (G.2.1 0)), (1, .int a1)] [] S
  refine go_iload_n O dX9_off_0 rfl 1 rfl ?_
  refine go_i2l (v := Int32.toInt64 a1) O dX9_off_1 rfl ?_
  refine go_lconst (v := (0 : Int64)) O dX9_off_2 (by decide) ?_
  refine go_aload_n O dX9_off_3 rfl 0 rfl ?_
  refine go_get (k := 0) (j := 10) O (by decide : (0 : Nat) < 27) (cm_obj G (S.1 0) (S.2 0)) rfl in_X9_off_X9 (by decide) fl_X9_off_156 rfl rfl dX9_off_4 ?_
  refine go_i2l (v := Int32.toInt64 (S.1 0 10)) O dX9_off_7 rfl ?_
  obtain ⟨x2, hA1, hF⟩ := bd_s hF
  refine go_callSi (As := [.long (Int32.toInt64 a1), .long (0 : Int64), .long (Int32.toInt64 (S.1 0 10))]) (rest := []) O (c_X9_in l G hI hA1) (fun s args hts => va_cwS 3 hts gX9_off_X9_in rfl rfl rfl (by decide +kernel) ⟨Nat.le_of_ble_eq_true rfl, Nat.le_of_ble_eq_true rfl⟩) rfl rfl (Nat.le_of_ble_eq_true rfl) dX9_off_8 ?_
  refine go_if_ne (tgt := 16) O dX9_off_11 (by decide) (fun hc5 => ?_) (fun hc5 => ?_)
  · replace hF := it_f hc5 hF
    refine go_aload_n O dX9_off_16 rfl 0 rfl ?_
    refine go_get (k := 0) (j := 10) O (by decide : (0 : Nat) < 27) (cm_obj G (S.1 0) (S.2 0)) rfl in_X9_off_X9 (by decide) fl_X9_off_156 rfl rfl dX9_off_17 ?_
    refine go_iload_n O dX9_off_20 rfl 1 rfl ?_
    refine go_isub O dX9_off_21 ?_
    obtain ⟨x3, ex3, hF⟩ := nm_s hF
    refine go_topi ex3 ?_
    refine go_istore_n (ls' := [(2, .int x3), (0, .ref (G.2.1 0)), (1, .int a1)]) O dX9_off_22 rfl (by decide) rfl ?_
    refine go_aload_n O dX9_off_23 rfl 1 rfl ?_
    refine go_iload_n O dX9_off_24 rfl 2 rfl ?_
    obtain ⟨S4, eS4, hF⟩ := nm_s hF
    refine go_putI (k := 0) (j := 10) O (by decide : (0 : Nat) < 27) (cm_obj G (S.1 0) (S.2 0)) rfl in_X9_off_X9 (by decide) fl_X9_off_156 rfl tyX9 tyX9_ok nmX9 rfl (by decide +kernel) (Nat.le_of_ble_eq_true rfl) (cm_obj G (upd (S.1 0) 10 a1) (S.2 0)) dX9_off_25 eS4 ?_
    refine go_iload_n O dX9_off_28 rfl 0 rfl ?_
    exact ret_wi hF (hR _ _ dX9_off_29)
  · replace hF := it_t hc5 hF
    refine go_iconst (v := (-1 : Int32)) O dX9_off_14 (by decide) ?_
    exact ret_wi hF (hR _ _ dX9_off_15)
-- X9_lacksTalk
def rm_X9_lacksTalk : Room := { frames := 1, cells := 0, slots := 0, locals := 21 }
theorem fl_X9_lacksTalk_156 : Cond.fieldLink RX9 156 "PaperWallsModel" "talkMany" "I" ∈ wsX9_lacksTalk := by decide +kernel
theorem in_X9_lacksTalk_X9 : ∀ x ∈ u_ws RX9 TX9 36, x ∈ wsX9_lacksTalk := by decide +kernel
def F_X9_lacksTalk  (S : Sg) (a1 : Int32) : Option (Int32 × Sg) := if 0 ≤ a1 then (if (S.1 0 10) ≤ a1 then (bd (F_X9_find S (2 : Int32)) (fun (x2, S3) => some (x2, S3))) else (some ((0 : Int32), S))) else (some ((-1 : Int32), S))
set_option maxHeartbeats 4000000 in
set_option maxRecDepth 100000 in
theorem c_X9_lacksTalk (l : Launch) (G : Gp) (hI : Ij (wM G))  {S : Sg} {a1 : Int32} {r : Int32} {S1 : Sg} (hF : F_X9_lacksTalk S a1 = some (r, S1)) : Met l yX9_lacksTalk wsX9_lacksTalk rm_X9_lacksTalk (va_Pc [.ref (G.2.1 0), .int a1] (PreW (wM G) S)) (va_Qi (fun r' u => r' = r ∧ u = S1) (PostW (wM G)) (AW (wM G))) 0 0 (AW (wM G)) := by
  rw [F_X9_lacksTalk] at hF
  refine met_i (cc := cX9_lacksTalk) (maxL := 2) (own := RX9) hI (by decide) rfl rfl (Nat.le_of_ble_eq_true rfl) (fun X O hR => ?_)
  show Go X l rm_X9_lacksTalk (wM G) 2 0 [(0, .ref (G.2.1 0)), (1, .int a1)] [] S
  refine go_iload_n O dX9_lacksTalk_0 rfl 1 rfl ?_
  refine go_if_ge (tgt := 8) O dX9_lacksTalk_1 (by decide) (fun hc5 => ?_) (fun hc5 => ?_)
  · replace hF := it_t hc5 hF
    refine go_iload_n O dX9_lacksTalk_8 rfl 1 rfl ?_
    refine go_aload_n O dX9_lacksTalk_9 rfl 0 rfl ?_
    refine go_get (k := 0) (j := 10) O (by decide : (0 : Nat) < 27) (cm_obj G (S.1 0) (S.2 0)) rfl in_X9_lacksTalk_X9 (by decide) fl_X9_lacksTalk_156 rfl rfl dX9_lacksTalk_10 ?_
    refine go_icmp_ge (tgt := 20) O dX9_lacksTalk_13 (by decide) (fun hc4 => ?_) (fun hc4 => ?_)
    · replace hF := it_t hc4 hF
      refine go_aload_n O dX9_lacksTalk_20 rfl 0 rfl ?_
      refine go_iconst (v := (2 : Int32)) O dX9_lacksTalk_21 (by decide) ?_
      obtain ⟨⟨x2, S3⟩, hA1, hF⟩ := bd_s hF
      refine go_callVi (As := [.int (2 : Int32)]) (rest := []) (b := 0) O (c_X9_find l G hI hA1) (fun s args hts => cwV 1 hts gX9_lacksTalk_X9_find rfl rfl rfl (by decide +kernel) ⟨Nat.le_of_ble_eq_true rfl, Nat.le_of_ble_eq_true rfl⟩) (by decide : (0 : Nat) < 27) (cm_obj G (S.1 0) (S.2 0)) rfl rfl rfl rfl (Nat.le_of_ble_eq_true rfl) dX9_lacksTalk_22 ?_
      exact ret_wi hF (hR _ _ dX9_lacksTalk_25)
    · replace hF := it_f hc4 hF
      refine go_iconst (v := (0 : Int32)) O dX9_lacksTalk_16 (by decide) ?_
      refine go_goto (tgt := 25) O dX9_lacksTalk_17 (by decide) ?_
      exact ret_wi hF (hR _ _ dX9_lacksTalk_25)
  · replace hF := it_f hc5 hF
    refine go_iconst (v := (-1 : Int32)) O dX9_lacksTalk_4 (by decide) ?_
    refine go_goto (tgt := 25) O dX9_lacksTalk_5 (by decide) ?_
    exact ret_wi hF (hR _ _ dX9_lacksTalk_25)
-- X9_about
def rm_X9_about : Room := { frames := 2, cells := 0, slots := 0, locals := 42 }
theorem fl_X9_about_31 : Cond.fieldLink RX9 31 "PaperWallsModel" "talks" "[I" ∈ wsX9_about := by decide +kernel
theorem wd_X9_about_c219 : Cond.constantLong RX9 219 (2) ∈ wsX9_about := by decide +kernel
theorem in_X9_about_X9 : ∀ x ∈ u_ws RX9 TX9 36, x ∈ wsX9_about := by decide +kernel
def F_X9_about  (S : Sg) (a1 : Int32) (a2 : Int32) : Option (Int32 × Sg) := if a1 < 0 then (some ((-1 : Int32), S)) else (bd (F_X9_in S (Int32.toInt64 a2) (0 : Int64) (2 : Int64)) (fun x2 => if x2 = 0 then (some ((-1 : Int32), S)) else (bd (F_X9_lacksTalk S a1) (fun (x4, S5) => if 0 ≤ x4 then (chk (inB (((3 : Int32) * a1) + a2) 24) (bd (F_X9_say S5 (1 : Int32) (S5.1 8 (((3 : Int32) * a1) + a2).toNatClampNeg)) (fun (x8, S9) => some (x8, S9)))) else (some (x4, S5))))))
set_option maxHeartbeats 4000000 in
set_option maxRecDepth 100000 in
theorem c_X9_about (l : Launch) (G : Gp) (hI : Ij (wM G))  {S : Sg} {a1 : Int32} {a2 : Int32} {r : Int32} {S1 : Sg} (hF : F_X9_about S a1 a2 = some (r, S1)) : Met l yX9_about wsX9_about rm_X9_about (va_Pc [.ref (G.2.1 0), .int a1, .int a2] (PreW (wM G) S)) (va_Qi (fun r' u => r' = r ∧ u = S1) (PostW (wM G)) (AW (wM G))) 0 0 (AW (wM G)) := by
  rw [F_X9_about] at hF
  refine met_i (cc := cX9_about) (maxL := 4) (own := RX9) hI (by decide) rfl rfl (Nat.le_of_ble_eq_true rfl) (fun X O hR => ?_)
  show Go X l rm_X9_about (wM G) 4 0 [(0, .ref (G.2.1 0)), (1, .int a1), (2, .int a2)] [] S
  refine go_iload_n O dX9_about_0 rfl 1 rfl ?_
  refine go_if_lt (tgt := 16) O dX9_about_1 (by decide) (fun hc12 => ?_) (fun hc12 => ?_)
  · replace hF := it_t hc12 hF
    refine go_iconst (v := (-1 : Int32)) O dX9_about_16 (by decide) ?_
    exact ret_wi hF (hR _ _ dX9_about_17)
  · replace hF := it_f hc12 hF
    refine go_iload_n O dX9_about_4 rfl 2 rfl ?_
    refine go_i2l (v := Int32.toInt64 a2) O dX9_about_5 rfl ?_
    refine go_lconst (v := (0 : Int64)) O dX9_about_6 (by decide) ?_
    refine go_ldc2 (v := (2 : Int64)) O dX9_about_7 wd_X9_about_c219 ?_
    obtain ⟨x2, hA1, hF⟩ := bd_s hF
    refine go_callSi (As := [.long (Int32.toInt64 a2), .long (0 : Int64), .long (2 : Int64)]) (rest := []) O (c_X9_in l G hI hA1) (fun s args hts => va_cwS 3 hts gX9_about_X9_in rfl rfl rfl (by decide +kernel) ⟨Nat.le_of_ble_eq_true rfl, Nat.le_of_ble_eq_true rfl⟩) rfl rfl (Nat.le_of_ble_eq_true rfl) dX9_about_10 ?_
    refine go_if_ne (tgt := 18) O dX9_about_13 (by decide) (fun hc11 => ?_) (fun hc11 => ?_)
    · replace hF := it_f hc11 hF
      refine go_aload_n O dX9_about_18 rfl 0 rfl ?_
      refine go_iload_n O dX9_about_19 rfl 1 rfl ?_
      obtain ⟨⟨x4, S5⟩, hA3, hF⟩ := bd_s hF
      refine go_callVi (As := [.int a1]) (rest := []) (b := 0) O (c_X9_lacksTalk l G hI hA3) (fun s args hts => cwV 1 hts gX9_about_X9_lacksTalk rfl rfl rfl (by decide +kernel) ⟨Nat.le_of_ble_eq_true rfl, Nat.le_of_ble_eq_true rfl⟩) (by decide : (0 : Nat) < 27) (cm_obj G (S.1 0) (S.2 0)) rfl rfl rfl rfl (Nat.le_of_ble_eq_true rfl) dX9_about_20 ?_
      refine go_istore_n (ls' := [(3, .int x4), (0, .ref (G.2.1 0)), (1, .int a1), (2, .int a2)]) O dX9_about_23 rfl (by decide) rfl ?_
      refine go_iload_n O dX9_about_24 rfl 0 rfl ?_
      refine go_if_ge (tgt := 32) O dX9_about_25 (by decide) (fun hc10 => ?_) (fun hc10 => ?_)
      · replace hF := it_t hc10 hF
        refine go_aload_n O dX9_about_32 rfl 1 rfl ?_
        refine go_iconst (v := (1 : Int32)) O dX9_about_33 (by decide) ?_
        refine go_aload_n O dX9_about_34 rfl 1 rfl ?_
        refine go_get (k := 0) (j := 9) O (by decide : (0 : Nat) < 27) (cm_obj G (S5.1 0) (S5.2 0)) rfl in_X9_about_X9 (by decide) fl_X9_about_31 rfl rfl dX9_about_35 ?_
        refine go_iconst (v := (3 : Int32)) O dX9_about_38 (by decide) ?_
        refine go_iload_n O dX9_about_39 rfl 2 rfl ?_
        refine go_imul O dX9_about_40 ?_
        refine go_iload_n O dX9_about_41 rfl 3 rfl ?_
        refine go_iadd O dX9_about_42 ?_
        obtain ⟨hb6, hF⟩ := chk_s hF
        refine go_iald (k := 8) O (by decide : (8 : Nat) < 27) (cm_8 G (S5.1 8) (S5.2 8)) (inB_in hb6) dX9_about_43 ?_
        obtain ⟨⟨x8, S9⟩, hA7, hF⟩ := bd_s hF
        refine go_callVi (As := [.int (1 : Int32), .int (S5.1 8 (((3 : Int32) * a1) + a2).toNatClampNeg)]) (rest := []) (b := 0) O (c_X9_say l G hI hA7) (fun s args hts => cwV 2 hts gX9_about_X9_say rfl rfl rfl (by decide +kernel) ⟨Nat.le_of_ble_eq_true rfl, Nat.le_of_ble_eq_true rfl⟩) (by decide : (0 : Nat) < 27) (cm_obj G (S5.1 0) (S5.2 0)) rfl rfl rfl rfl (Nat.le_of_ble_eq_true rfl) dX9_about_44 ?_
        exact ret_wi hF (hR _ _ dX9_about_47)
      · replace hF := it_f hc10 hF
        refine go_iload_n O dX9_about_28 rfl 0 rfl ?_
        refine go_goto (tgt := 47) O dX9_about_29 (by decide) ?_
        exact ret_wi hF (hR _ _ dX9_about_47)
    · replace hF := it_t hc11 hF
      refine go_iconst (v := (-1 : Int32)) O dX9_about_16 (by decide) ?_
      exact ret_wi hF (hR _ _ dX9_about_17)
-- X9_isSafe
def rm_X9_isSafe : Room := { frames := 4, cells := 0, slots := 0, locals := 90 }
theorem fl_X9_isSafe_31 : Cond.fieldLink RX9 31 "PaperWallsModel" "talks" "[I" ∈ wsX9_isSafe := by decide +kernel
theorem in_X9_isSafe_X9 : ∀ x ∈ u_ws RX9 TX9 36, x ∈ wsX9_isSafe := by decide +kernel
def F_X9_isSafe  (S : Sg) (a1 : Int32) (a2 : Int32) : Option Int32 := chk (inB ((3 : Int32) * a1) 24) (nm (S.1 8 ((3 : Int32) * a1).toNatClampNeg) (fun x2 => chk (inB (((3 : Int32) * a1) + (1 : Int32)) 24) (nm (S.1 8 (((3 : Int32) * a1) + (1 : Int32)).toNatClampNeg) (fun x4 => bd (F_X9_heardBy S x2 a2) (fun x6 => bd (F_X9_has S a2 x2) (fun x8 => if x8 = 0 then (bd (F_X9_has S a2 x4) (fun x10 => if x10 = 0 then (bd (F_X9_has S x6 x4) (fun x12 => if x12 = 0 then (some (0 : Int32)) else (chk (inB (((3 : Int32) * a1) + (2 : Int32)) 24) (if (x6 &&& (S.1 8 (((3 : Int32) * a1) + (2 : Int32)).toNatClampNeg)) = 0 then (some (1 : Int32)) else (some (0 : Int32)))))) else (some (0 : Int32)))) else (some (0 : Int32))))))))
set_option maxHeartbeats 4000000 in
set_option maxRecDepth 100000 in
theorem c_X9_isSafe (l : Launch) (G : Gp) (hI : Ij (wM G))  {S : Sg} {a1 : Int32} {a2 : Int32} {r : Int32} (hF : F_X9_isSafe S a1 a2 = some r) : Met l yX9_isSafe wsX9_isSafe rm_X9_isSafe (va_Pc [.ref (G.2.1 0), .int a1, .int a2] (PreW (wM G) S)) (va_Qi (fun r' u => r' = r ∧ u = S) (PostW (wM G)) (AW (wM G))) 0 0 (AW (wM G)) := by
  rw [F_X9_isSafe] at hF
  refine met_z (cc := cX9_isSafe) (maxL := 6) (own := RX9) hI (by decide) rfl rfl (Nat.le_of_ble_eq_true rfl) (fun X O hR => ?_)
  show Go X l rm_X9_isSafe (wM G) 6 0 [(0, .ref (G.2.1 0)), (1, .int a1), (2, .int a2)] [] S
  refine go_aload_n O dX9_isSafe_0 rfl 0 rfl ?_
  refine go_get (k := 0) (j := 9) O (by decide : (0 : Nat) < 27) (cm_obj G (S.1 0) (S.2 0)) rfl in_X9_isSafe_X9 (by decide) fl_X9_isSafe_31 rfl rfl dX9_isSafe_1 ?_
  refine go_iconst (v := (3 : Int32)) O dX9_isSafe_4 (by decide) ?_
  refine go_iload_n O dX9_isSafe_5 rfl 1 rfl ?_
  refine go_imul O dX9_isSafe_6 ?_
  obtain ⟨hb1, hF⟩ := chk_s hF
  refine go_iald (k := 8) O (by decide : (8 : Nat) < 27) (cm_8 G (S.1 8) (S.2 8)) (inB_in hb1) dX9_isSafe_7 ?_
  obtain ⟨x2, ex2, hF⟩ := nm_s hF
  refine go_topi ex2 ?_
  refine go_istore_n (ls' := [(3, .int x2), (0, .ref (G.2.1 0)), (1, .int a1), (2, .int a2)]) O dX9_isSafe_8 rfl (by decide) rfl ?_
  refine go_aload_n O dX9_isSafe_9 rfl 1 rfl ?_
  refine go_get (k := 0) (j := 9) O (by decide : (0 : Nat) < 27) (cm_obj G (S.1 0) (S.2 0)) rfl in_X9_isSafe_X9 (by decide) fl_X9_isSafe_31 rfl rfl dX9_isSafe_10 ?_
  refine go_iconst (v := (3 : Int32)) O dX9_isSafe_13 (by decide) ?_
  refine go_iload_n O dX9_isSafe_14 rfl 2 rfl ?_
  refine go_imul O dX9_isSafe_15 ?_
  refine go_iconst (v := (1 : Int32)) O dX9_isSafe_16 (by decide) ?_
  refine go_iadd O dX9_isSafe_17 ?_
  obtain ⟨hb3, hF⟩ := chk_s hF
  refine go_iald (k := 8) O (by decide : (8 : Nat) < 27) (cm_8 G (S.1 8) (S.2 8)) (inB_in hb3) dX9_isSafe_18 ?_
  obtain ⟨x4, ex4, hF⟩ := nm_s hF
  refine go_topi ex4 ?_
  refine go_istore (ls' := [(4, .int x4), (3, .int x2), (0, .ref (G.2.1 0)), (1, .int a1), (2, .int a2)]) O dX9_isSafe_19 (by decide) rfl ?_
  refine go_aload_n O dX9_isSafe_21 rfl 2 rfl ?_
  refine go_iload_n O dX9_isSafe_22 rfl 1 rfl ?_
  refine go_iload_n O dX9_isSafe_23 rfl 4 rfl ?_
  obtain ⟨x6, hA5, hF⟩ := bd_s hF
  refine go_callVi (As := [.int x2, .int a2]) (rest := []) (b := 0) O (c_X9_heardBy l G hI hA5) (fun s args hts => cwV 2 hts gX9_isSafe_X9_heardBy rfl rfl rfl (by decide +kernel) ⟨Nat.le_of_ble_eq_true rfl, Nat.le_of_ble_eq_true rfl⟩) (by decide : (0 : Nat) < 27) (cm_obj G (S.1 0) (S.2 0)) rfl rfl rfl rfl (Nat.le_of_ble_eq_true rfl) dX9_isSafe_24 ?_
  refine go_istore (ls' := [(5, .int x6), (4, .int x4), (3, .int x2), (0, .ref (G.2.1 0)), (1, .int a1), (2, .int a2)]) O dX9_isSafe_27 (by decide) rfl ?_
  refine go_iload_n O dX9_isSafe_29 rfl 5 rfl ?_
  refine go_iload_n O dX9_isSafe_30 rfl 2 rfl ?_
  obtain ⟨x8, hA7, hF⟩ := bd_s hF
  refine go_callSi (As := [.int a2, .int x2]) (rest := []) O (c_X9_has l G hI hA7) (fun s args hts => va_cwS 2 hts gX9_isSafe_X9_has rfl rfl rfl (by decide +kernel) ⟨Nat.le_of_ble_eq_true rfl, Nat.le_of_ble_eq_true rfl⟩) rfl rfl (Nat.le_of_ble_eq_true rfl) dX9_isSafe_31 ?_
  refine go_if_ne (tgt := 76) O dX9_isSafe_34 (by decide) (fun hc17 => ?_) (fun hc17 => ?_)
  · replace hF := it_f hc17 hF
    refine go_iconst (v := (0 : Int32)) O dX9_isSafe_76 (by decide) ?_
    exact ret_z hF (fun hz => hR _ _ hz dX9_isSafe_77) (show vp_nar .boolean (0 : Int32) = (0 : Int32) by decide)
  · replace hF := it_t hc17 hF
    refine go_iload_n O dX9_isSafe_37 rfl 5 rfl ?_
    refine go_iload O dX9_isSafe_38 1 rfl ?_
    obtain ⟨x10, hA9, hF⟩ := bd_s hF
    refine go_callSi (As := [.int a2, .int x4]) (rest := []) O (c_X9_has l G hI hA9) (fun s args hts => va_cwS 2 hts gX9_isSafe_X9_has rfl rfl rfl (by decide +kernel) ⟨Nat.le_of_ble_eq_true rfl, Nat.le_of_ble_eq_true rfl⟩) rfl rfl (Nat.le_of_ble_eq_true rfl) dX9_isSafe_40 ?_
    refine go_if_ne (tgt := 76) O dX9_isSafe_43 (by decide) (fun hc16 => ?_) (fun hc16 => ?_)
    · replace hF := it_f hc16 hF
      refine go_iconst (v := (0 : Int32)) O dX9_isSafe_76 (by decide) ?_
      exact ret_z hF (fun hz => hR _ _ hz dX9_isSafe_77) (show vp_nar .boolean (0 : Int32) = (0 : Int32) by decide)
    · replace hF := it_t hc16 hF
      refine go_iload O dX9_isSafe_46 0 rfl ?_
      refine go_iload O dX9_isSafe_48 1 rfl ?_
      obtain ⟨x12, hA11, hF⟩ := bd_s hF
      refine go_callSi (As := [.int x6, .int x4]) (rest := []) O (c_X9_has l G hI hA11) (fun s args hts => va_cwS 2 hts gX9_isSafe_X9_has rfl rfl rfl (by decide +kernel) ⟨Nat.le_of_ble_eq_true rfl, Nat.le_of_ble_eq_true rfl⟩) rfl rfl (Nat.le_of_ble_eq_true rfl) dX9_isSafe_50 ?_
      refine go_if_eq (tgt := 76) O dX9_isSafe_53 (by decide) (fun hc15 => ?_) (fun hc15 => ?_)
      · replace hF := it_t hc15 hF
        refine go_iconst (v := (0 : Int32)) O dX9_isSafe_76 (by decide) ?_
        exact ret_z hF (fun hz => hR _ _ hz dX9_isSafe_77) (show vp_nar .boolean (0 : Int32) = (0 : Int32) by decide)
      · replace hF := it_f hc15 hF
        refine go_iload O dX9_isSafe_56 0 rfl ?_
        refine go_aload_n O dX9_isSafe_58 rfl 3 rfl ?_
        refine go_get (k := 0) (j := 9) O (by decide : (0 : Nat) < 27) (cm_obj G (S.1 0) (S.2 0)) rfl in_X9_isSafe_X9 (by decide) fl_X9_isSafe_31 rfl rfl dX9_isSafe_59 ?_
        refine go_iconst (v := (3 : Int32)) O dX9_isSafe_62 (by decide) ?_
        refine go_iload_n O dX9_isSafe_63 rfl 4 rfl ?_
        refine go_imul O dX9_isSafe_64 ?_
        refine go_iconst (v := (2 : Int32)) O dX9_isSafe_65 (by decide) ?_
        refine go_iadd O dX9_isSafe_66 ?_
        obtain ⟨hb13, hF⟩ := chk_s hF
        refine go_iald (k := 8) O (by decide : (8 : Nat) < 27) (cm_8 G (S.1 8) (S.2 8)) (inB_in hb13) dX9_isSafe_67 ?_
        refine go_iand O dX9_isSafe_68 ?_
        refine go_if_ne (tgt := 76) O dX9_isSafe_69 (by decide) (fun hc14 => ?_) (fun hc14 => ?_)
        · replace hF := it_f hc14 hF
          refine go_iconst (v := (0 : Int32)) O dX9_isSafe_76 (by decide) ?_
          exact ret_z hF (fun hz => hR _ _ hz dX9_isSafe_77) (show vp_nar .boolean (0 : Int32) = (0 : Int32) by decide)
        · replace hF := it_t hc14 hF
          refine go_iconst (v := (1 : Int32)) O dX9_isSafe_72 (by decide) ?_
          refine go_goto (tgt := 77) O dX9_isSafe_73 (by decide) ?_
          exact ret_z hF (fun hz => hR _ _ hz dX9_isSafe_77) (show vp_nar .boolean (1 : Int32) = (1 : Int32) by decide)
