-- X8_spread
def rm_X8_spread : Room := { frames := 4, cells := 0, slots := 0, locals := 117 }
theorem fl_X8_spread_24 : Cond.fieldLink RX8 24 "PaperWalls" "now" "LPaperWalls$Street;" ∈ wsX8_spread := by decide +kernel
theorem fl_X8_spread_131 : Cond.fieldLink RX8 131 "PaperWalls$Street" "people" "I" ∈ wsX8_spread := by decide +kernel
theorem fl_X8_spread_281 : Cond.fieldLink RX8 281 "PaperWalls$Street" "hours" "LPaperWalls$Hours;" ∈ wsX8_spread := by decide +kernel
theorem in_X8_spread_X6 : ∀ x ∈ u_ws RX6 TX6 11, x ∈ wsX8_spread := by decide +kernel
theorem in_X8_spread_X8 : ∀ x ∈ u_ws RX8 TX8 12, x ∈ wsX8_spread := by decide +kernel
def T_X8_spread_46  (S : Sg) (p2 : Int32) (p4 : Int32) (p5 : Int32) : Nat → Int32 → Int32 → Option (Int32)
  | 0, _, _ => none
  | n + 1, p3, p6 => if (S.1 (sb 0) 9) ≤ p6 then (some p3) else (bd (if ((p5 >>> (p6 &&& 31)) &&& (1 : Int32)) = 0 then (some p3) else (bd (F_X6_whoHear 0 S p6 (0 : Int32)) (fun x11 => nm (p3 ||| x11) (fun x12 => some x12)))) (fun x7 => T_X8_spread_46 S p2 p4 p5 n x7 (p6 + (1 : Int32))))
set_option maxHeartbeats 4000000 in
set_option maxRecDepth 100000 in
theorem lt_X8_spread_46 {X : XT} (l : Launch) (G : Gp) (hI : Gd G)  {S : Sg} {p2 : Int32} {p4 : Int32} {p5 : Int32} (O : Ok X (wC G) cX8_spread RX8 wsX8_spread 7) : ∀ (n : Nat) (p3 : Int32) (p6 : Int32)  (q : (Int32)), T_X8_spread_46 S p2 p4 p5 n p3 p6  = some q → (Go X l rm_X8_spread (wC G) 7 87 [(0, .ref (G.2.1 0)), (2, .int p2), (3, .int q), (4, .int p4)] [] S) → Go X l rm_X8_spread (wC G) 7 46 [(0, .ref (G.2.1 0)), (2, .int p2), (3, .int p3), (4, .int p4), (5, .int p5), (6, .int p6)] [] S := by
  intro n
  induction n with
  | zero =>
    intro p3 p6  q hF
    cases hF
  | succ n ih =>
    intro p3 p6  q hF hE
    rw [T_X8_spread_46] at hF
    refine go_iload O dX8_spread_46 5 rfl ?_
    refine go_aload_n O dX8_spread_48 rfl 0 rfl ?_
    refine go_get (k := 0) (j := 2) O (lt9 hI (by decide : (0 : Nat) < 99)) (cv_pw G (S.1 0) (S.2 0)) rfl in_X8_spread_X8 (by decide) fl_X8_spread_24 rfl rfl dX8_spread_49 ?_
    refine go_get (k := (sb 0)) (j := 9) O (lt9 hI (sb_lt0 (by decide : (0 : Nat) < 5))) (cv_st G (by decide : (0 : Nat) < 5) (S.1 (sb 0)) (S.2 (sb 0))) rfl in_X8_spread_X6 (by decide) fl_X8_spread_131 rfl rfl dX8_spread_52 ?_
    refine go_icmp_ge (tgt := 87) O dX8_spread_55 (by decide) (fun hc14 => ?_) (fun hc14 => ?_)
    · replace hF := it_t hc14 hF
      refine go_perm (ls' := [(0, .ref (G.2.1 0)), (2, .int p2), (3, .int p3), (4, .int p4)]) [0, 1, 2, 3] rfl ?_
      exact jn (P := fun q => Go X l rm_X8_spread (wC G) 7 87 [(0, .ref (G.2.1 0)), (2, .int p2), (3, .int q), (4, .int p4)] [] S) hF hE
    · replace hF := it_f hc14 hF
      refine go_iload O dX8_spread_58 4 rfl ?_
      refine go_iload O dX8_spread_60 5 rfl ?_
      refine go_ishr O dX8_spread_62 ?_
      refine go_iconst (v := (1 : Int32)) O dX8_spread_63 (by decide) ?_
      refine go_iand O dX8_spread_64 ?_
      obtain ⟨x7, hA9, hF⟩ := bd_s hF
      have J8 : Go X l rm_X8_spread (wC G) 7 81 [(0, .ref (G.2.1 0)), (2, .int p2), (3, .int x7), (4, .int p4), (5, .int p5), (6, .int p6)] [] S := by
        refine go_iinc (d := (1 : Int32)) (ls' := [(6, .int (p6 + (1 : Int32))), (0, .ref (G.2.1 0)), (2, .int p2), (3, .int x7), (4, .int p4), (5, .int p5)]) O dX8_spread_81 5 rfl (by decide) (by decide) rfl ?_
        refine go_goto (tgt := 46) O dX8_spread_84 (by decide) ?_
        refine go_perm (ls' := [(0, .ref (G.2.1 0)), (2, .int p2), (3, .int x7), (4, .int p4), (5, .int p5), (6, .int (p6 + (1 : Int32)))]) [1, 2, 3, 4, 5, 0] rfl ?_
        exact ih _ _ _ hF hE
      replace hF := hA9
      refine go_if_eq (tgt := 81) O dX8_spread_65 (by decide) (fun hc13 => ?_) (fun hc13 => ?_)
      · replace hF := it_t hc13 hF
        exact jn (P := fun q => Go X l rm_X8_spread (wC G) 7 81 [(0, .ref (G.2.1 0)), (2, .int p2), (3, .int q), (4, .int p4), (5, .int p5), (6, .int p6)] [] S) hF J8
      · replace hF := it_f hc13 hF
        refine go_iload_n O dX8_spread_68 rfl 2 rfl ?_
        refine go_aload_n O dX8_spread_69 rfl 0 rfl ?_
        refine go_get (k := 0) (j := 2) O (lt9 hI (by decide : (0 : Nat) < 99)) (cv_pw G (S.1 0) (S.2 0)) rfl in_X8_spread_X8 (by decide) fl_X8_spread_24 rfl rfl dX8_spread_70 ?_
        refine go_iload O dX8_spread_73 5 rfl ?_
        refine go_iconst (v := (0 : Int32)) O dX8_spread_75 (by decide) ?_
        obtain ⟨x11, hA10, hF⟩ := bd_s hF
        refine go_callVi (As := [.int p6, .int (0 : Int32)]) (rest := [.int p3]) (b := (sb 0)) O (c_X6_whoHear l G hI (by decide : (0 : Nat) < 5) hA10) (fun s args hts => cwV 2 hts gX8_spread_X6_whoHear rfl rfl rfl (by decide +kernel) ⟨Nat.le_of_ble_eq_true rfl, Nat.le_of_ble_eq_true rfl⟩) (lt9 hI (sb_lt0 (by decide : (0 : Nat) < 5))) (cv_st G (by decide : (0 : Nat) < 5) (S.1 (sb 0)) (S.2 (sb 0))) rfl rfl rfl rfl (Nat.le_of_ble_eq_true rfl) dX8_spread_76 ?_
        refine go_ior O dX8_spread_79 ?_
        obtain ⟨x12, ex12, hF⟩ := nm_s hF
        refine go_topi ex12 ?_
        refine go_istore_n (ls' := [(3, .int x12), (0, .ref (G.2.1 0)), (2, .int p2), (4, .int p4), (5, .int p5), (6, .int p6)]) O dX8_spread_80 rfl (by decide) rfl ?_
        refine go_perm (ls' := [(0, .ref (G.2.1 0)), (2, .int p2), (3, .int x12), (4, .int p4), (5, .int p5), (6, .int p6)]) [1, 2, 0, 3, 4, 5] rfl ?_
        exact jn (P := fun q => Go X l rm_X8_spread (wC G) 7 81 [(0, .ref (G.2.1 0)), (2, .int p2), (3, .int q), (4, .int p4), (5, .int p5), (6, .int p6)] [] S) hF J8
def T_X8_spread_34  (S : Sg) (p2 : Int32) : Nat → Int32 → Int32 → Option (Int32)
  | 0, _, _ => none
  | n + 1, p3, p4 => if p2 ≤ p4 then (some p3) else (bd (T_X8_spread_46 S p2 p4 p3 FU p3 (0 : Int32)) (fun x6 => T_X8_spread_34 S p2 n x6 (p4 + (1 : Int32))))
set_option maxHeartbeats 4000000 in
set_option maxRecDepth 100000 in
theorem lt_X8_spread_34 {X : XT} (l : Launch) (G : Gp) (hI : Gd G)  {S : Sg} {p2 : Int32} (O : Ok X (wC G) cX8_spread RX8 wsX8_spread 7) : ∀ (n : Nat) (p3 : Int32) (p4 : Int32)  (q : (Int32)), T_X8_spread_34 S p2 n p3 p4  = some q → (Go X l rm_X8_spread (wC G) 7 93 [(3, .int q)] [] S) → Go X l rm_X8_spread (wC G) 7 34 [(0, .ref (G.2.1 0)), (2, .int p2), (3, .int p3), (4, .int p4)] [] S := by
  intro n
  induction n with
  | zero =>
    intro p3 p4  q hF
    cases hF
  | succ n ih =>
    intro p3 p4  q hF hE
    rw [T_X8_spread_34] at hF
    refine go_iload O dX8_spread_34 3 rfl ?_
    refine go_iload_n O dX8_spread_36 rfl 1 rfl ?_
    refine go_icmp_ge (tgt := 93) O dX8_spread_37 (by decide) (fun hc16 => ?_) (fun hc16 => ?_)
    · replace hF := it_t hc16 hF
      refine go_perm (ls' := [(3, .int p3)]) [2] rfl ?_
      exact jn (P := fun q => Go X l rm_X8_spread (wC G) 7 93 [(3, .int q)] [] S) hF hE
    · replace hF := it_f hc16 hF
      refine go_iload_n O dX8_spread_40 rfl 2 rfl ?_
      refine go_istore (ls' := [(5, .int p3), (0, .ref (G.2.1 0)), (2, .int p2), (3, .int p3), (4, .int p4)]) O dX8_spread_41 (by decide) rfl ?_
      refine go_iconst (v := (0 : Int32)) O dX8_spread_43 (by decide) ?_
      refine go_istore (ls' := [(6, .int (0 : Int32)), (5, .int p3), (0, .ref (G.2.1 0)), (2, .int p2), (3, .int p3), (4, .int p4)]) O dX8_spread_44 (by decide) rfl ?_
      refine go_perm (ls' := [(0, .ref (G.2.1 0)), (2, .int p2), (3, .int p3), (4, .int p4), (5, .int p3), (6, .int (0 : Int32))]) [2, 3, 4, 5, 1, 0] rfl ?_
      obtain ⟨x6, hA15, hF⟩ := bd_s hF
      refine lt_X8_spread_46 l G hI  O _ _ _ _ hA15 ?_
      refine go_iinc (d := (1 : Int32)) (ls' := [(4, .int (p4 + (1 : Int32))), (0, .ref (G.2.1 0)), (2, .int p2), (3, .int x6)]) O dX8_spread_87 3 rfl (by decide) (by decide) rfl ?_
      refine go_goto (tgt := 34) O dX8_spread_90 (by decide) ?_
      refine go_perm (ls' := [(0, .ref (G.2.1 0)), (2, .int p2), (3, .int x6), (4, .int (p4 + (1 : Int32)))]) [1, 2, 3, 0] rfl ?_
      exact ih _ _ _ hF hE
def F_X8_spread  (S : Sg) (a1 : Int32) (a2 : Int32) : Option Int32 := bd (F_X8_isThing S a1) (fun x2 => if x2 = 0 then (some (-1 : Int32)) else (if a2 < 0 then (some (-1 : Int32)) else (if a2 ≤ (20 : Int32) then (bd (F_X1_whoKnow 0 S a1) (fun x4 => bd (T_X8_spread_34 S a2 FU x4 (0 : Int32)) (fun x5 => some x5))) else (some (-1 : Int32)))))
set_option maxHeartbeats 4000000 in
set_option maxRecDepth 100000 in
theorem c_X8_spread (l : Launch) (G : Gp) (hI : Gd G)  {S : Sg} {a1 : Int32} {a2 : Int32} {r : Int32} (hF : F_X8_spread S a1 a2 = some r) : Met l yX8_spread wsX8_spread rm_X8_spread (va_Pc [.ref (G.2.1 0), .int a1, .int a2] (PreW (wC G) S)) (va_Qi (fun r' u => r' = r ∧ u = S) (PostW (wC G)) (AW (wC G))) 0 0 (AW (wC G)) := by
  rw [F_X8_spread] at hF
  refine met_i (cc := cX8_spread) (maxL := 7) (own := RX8) hI.1 (by decide) rfl rfl (Nat.le_of_ble_eq_true rfl) (fun X O hR => ?_)
  show Go X l rm_X8_spread (wC G) 7 0 [(0, .ref (G.2.1 0)), (1, .int a1), (2, .int a2)] [] S
  refine go_iload_n O dX8_spread_0 rfl 1 rfl ?_
  obtain ⟨x2, hA1, hF⟩ := bd_s hF
  refine go_callSi (As := [.int a1]) (rest := []) O (c_X8_isThing l G hI hA1) (fun s args hts => va_cwS 1 hts gX8_spread_X8_isThing rfl rfl rfl (by decide +kernel) ⟨Nat.le_of_ble_eq_true rfl, Nat.le_of_ble_eq_true rfl⟩) rfl rfl (Nat.le_of_ble_eq_true rfl) dX8_spread_1 ?_
  refine go_if_eq (tgt := 17) O dX8_spread_4 (by decide) (fun hc20 => ?_) (fun hc20 => ?_)
  · replace hF := it_t hc20 hF
    refine go_iconst (v := (-1 : Int32)) O dX8_spread_17 (by decide) ?_
    exact ret_i hF (hR _ _ dX8_spread_18)
  · replace hF := it_f hc20 hF
    refine go_iload_n O dX8_spread_7 rfl 2 rfl ?_
    refine go_if_lt (tgt := 17) O dX8_spread_8 (by decide) (fun hc19 => ?_) (fun hc19 => ?_)
    · replace hF := it_t hc19 hF
      refine go_iconst (v := (-1 : Int32)) O dX8_spread_17 (by decide) ?_
      exact ret_i hF (hR _ _ dX8_spread_18)
    · replace hF := it_f hc19 hF
      refine go_iload_n O dX8_spread_11 rfl 2 rfl ?_
      refine go_bipush (v := (20 : Int32)) O dX8_spread_12 (by decide) ?_
      refine go_icmp_le (tgt := 19) O dX8_spread_14 (by decide) (fun hc18 => ?_) (fun hc18 => ?_)
      · replace hF := it_t hc18 hF
        refine go_aload_n O dX8_spread_19 rfl 0 rfl ?_
        refine go_get (k := 0) (j := 2) O (lt9 hI (by decide : (0 : Nat) < 99)) (cv_pw G (S.1 0) (S.2 0)) rfl in_X8_spread_X8 (by decide) fl_X8_spread_24 rfl rfl dX8_spread_20 ?_
        refine go_get (k := (sb 0)) (j := 7) O (lt9 hI (sb_lt0 (by decide : (0 : Nat) < 5))) (cv_st G (by decide : (0 : Nat) < 5) (S.1 (sb 0)) (S.2 (sb 0))) rfl in_X8_spread_X6 (by decide) fl_X8_spread_281 rfl rfl dX8_spread_23 ?_
        refine go_iload_n O dX8_spread_26 rfl 1 rfl ?_
        obtain ⟨x4, hA3, hF⟩ := bd_s hF
        refine go_callVi (As := [.int a1]) (rest := []) (b := (sb 0 + 8)) O (c_X1_whoKnow l G hI (by decide : (0 : Nat) < 5) hA3) (fun s args hts => cwV 1 hts gX8_spread_X1_whoKnow rfl rfl rfl (by decide +kernel) ⟨Nat.le_of_ble_eq_true rfl, Nat.le_of_ble_eq_true rfl⟩) (lt9 hI (sb_lt (by decide : (0 : Nat) < 5) (by decide : 8 < 13))) (cv_hrs G (by decide : (0 : Nat) < 5) (S.1 (sb 0 + 8)) (S.2 (sb 0 + 8))) rfl rfl rfl rfl (Nat.le_of_ble_eq_true rfl) dX8_spread_27 ?_
        refine go_istore_n (ls' := [(3, .int x4), (0, .ref (G.2.1 0)), (1, .int a1), (2, .int a2)]) O dX8_spread_30 rfl (by decide) rfl ?_
        refine go_iconst (v := (0 : Int32)) O dX8_spread_31 (by decide) ?_
        refine go_istore (ls' := [(4, .int (0 : Int32)), (3, .int x4), (0, .ref (G.2.1 0)), (1, .int a1), (2, .int a2)]) O dX8_spread_32 (by decide) rfl ?_
        refine go_perm (ls' := [(0, .ref (G.2.1 0)), (2, .int a2), (3, .int x4), (4, .int (0 : Int32))]) [2, 4, 1, 0] rfl ?_
        obtain ⟨x5, hA17, hF⟩ := bd_s hF
        refine lt_X8_spread_34 l G hI  O _ _ _ _ hA17 ?_
        refine go_iload_n O dX8_spread_93 rfl 0 rfl ?_
        exact ret_i hF (hR _ _ dX8_spread_94)
      · replace hF := it_f hc18 hF
        refine go_iconst (v := (-1 : Int32)) O dX8_spread_17 (by decide) ?_
        exact ret_i hF (hR _ _ dX8_spread_18)
-- X8_leak
def rm_X8_leak : Room := { frames := 5, cells := 0, slots := 0, locals := 138 }
theorem fl_X8_leak_24 : Cond.fieldLink RX8 24 "PaperWalls" "now" "LPaperWalls$Street;" ∈ wsX8_leak := by decide +kernel
theorem fl_X8_leak_131 : Cond.fieldLink RX8 131 "PaperWalls$Street" "people" "I" ∈ wsX8_leak := by decide +kernel
theorem in_X8_leak_X6 : ∀ x ∈ u_ws RX6 TX6 11, x ∈ wsX8_leak := by decide +kernel
theorem in_X8_leak_X8 : ∀ x ∈ u_ws RX8 TX8 12, x ∈ wsX8_leak := by decide +kernel
def T_X8_leak_14  (S : Sg) (p1 : Int32) : Nat → Int32 → Int32 → Option (Int32)
  | 0, _, _ => none
  | n + 1, p2, p3 => if (S.1 (sb 0) 9) ≤ p3 then (some p2) else (bd (F_X6_circleOf 0 S p3) (fun x5 => bd (if x5 = p1 then (nm (p2 ||| ((1 : Int32) <<< (p3 &&& 31))) (fun x9 => some x9)) else (some p2)) (fun x6 => T_X8_leak_14 S p1 n x6 (p3 + (1 : Int32)))))
set_option maxHeartbeats 4000000 in
set_option maxRecDepth 100000 in
theorem lt_X8_leak_14 {X : XT} (l : Launch) (G : Gp) (hI : Gd G)  {S : Sg} {p1 : Int32} (O : Ok X (wC G) cX8_leak RX8 wsX8_leak 4) : ∀ (n : Nat) (p2 : Int32) (p3 : Int32)  (q : (Int32)), T_X8_leak_14 S p1 n p2 p3  = some q → (Go X l rm_X8_leak (wC G) 4 49 [(2, .int q)] [] S) → Go X l rm_X8_leak (wC G) 4 14 [(0, .ref (G.2.1 0)), (1, .int p1), (2, .int p2), (3, .int p3)] [] S := by
  intro n
  induction n with
  | zero =>
    intro p2 p3  q hF
    cases hF
  | succ n ih =>
    intro p2 p3  q hF hE
    rw [T_X8_leak_14] at hF
    refine go_iload_n O dX8_leak_14 rfl 3 rfl ?_
    refine go_aload_n O dX8_leak_15 rfl 0 rfl ?_
    refine go_get (k := 0) (j := 2) O (lt9 hI (by decide : (0 : Nat) < 99)) (cv_pw G (S.1 0) (S.2 0)) rfl in_X8_leak_X8 (by decide) fl_X8_leak_24 rfl rfl dX8_leak_16 ?_
    refine go_get (k := (sb 0)) (j := 9) O (lt9 hI (sb_lt0 (by decide : (0 : Nat) < 5))) (cv_st G (by decide : (0 : Nat) < 5) (S.1 (sb 0)) (S.2 (sb 0))) rfl in_X8_leak_X6 (by decide) fl_X8_leak_131 rfl rfl dX8_leak_19 ?_
    refine go_icmp_ge (tgt := 49) O dX8_leak_22 (by decide) (fun hc11 => ?_) (fun hc11 => ?_)
    · replace hF := it_t hc11 hF
      refine go_perm (ls' := [(2, .int p2)]) [2] rfl ?_
      exact jn (P := fun q => Go X l rm_X8_leak (wC G) 4 49 [(2, .int q)] [] S) hF hE
    · replace hF := it_f hc11 hF
      refine go_aload_n O dX8_leak_25 rfl 0 rfl ?_
      refine go_get (k := 0) (j := 2) O (lt9 hI (by decide : (0 : Nat) < 99)) (cv_pw G (S.1 0) (S.2 0)) rfl in_X8_leak_X8 (by decide) fl_X8_leak_24 rfl rfl dX8_leak_26 ?_
      refine go_iload_n O dX8_leak_29 rfl 3 rfl ?_
      obtain ⟨x5, hA4, hF⟩ := bd_s hF
      refine go_callVi (As := [.int p3]) (rest := []) (b := (sb 0)) O (c_X6_circleOf l G hI (by decide : (0 : Nat) < 5) hA4) (fun s args hts => cwV 1 hts gX8_leak_X6_circleOf rfl rfl rfl (by decide +kernel) ⟨Nat.le_of_ble_eq_true rfl, Nat.le_of_ble_eq_true rfl⟩) (lt9 hI (sb_lt0 (by decide : (0 : Nat) < 5))) (cv_st G (by decide : (0 : Nat) < 5) (S.1 (sb 0)) (S.2 (sb 0))) rfl rfl rfl rfl (Nat.le_of_ble_eq_true rfl) dX8_leak_30 ?_
      refine go_iload_n O dX8_leak_33 rfl 1 rfl ?_
      obtain ⟨x6, hA8, hF⟩ := bd_s hF
      have J7 : Go X l rm_X8_leak (wC G) 4 43 [(0, .ref (G.2.1 0)), (1, .int p1), (2, .int x6), (3, .int p3)] [] S := by
        refine go_iinc (d := (1 : Int32)) (ls' := [(3, .int (p3 + (1 : Int32))), (0, .ref (G.2.1 0)), (1, .int p1), (2, .int x6)]) O dX8_leak_43 3 rfl (by decide) (by decide) rfl ?_
        refine go_goto (tgt := 14) O dX8_leak_46 (by decide) ?_
        refine go_perm (ls' := [(0, .ref (G.2.1 0)), (1, .int p1), (2, .int x6), (3, .int (p3 + (1 : Int32)))]) [1, 2, 3, 0] rfl ?_
        exact ih _ _ _ hF hE
      replace hF := hA8
      refine go_icmp_ne (tgt := 43) O dX8_leak_34 (by decide) (fun hc10 => ?_) (fun hc10 => ?_)
      · replace hF := it_f hc10 hF
        exact jn (P := fun q => Go X l rm_X8_leak (wC G) 4 43 [(0, .ref (G.2.1 0)), (1, .int p1), (2, .int q), (3, .int p3)] [] S) hF J7
      · replace hF := it_t hc10 hF
        refine go_iload_n O dX8_leak_37 rfl 2 rfl ?_
        refine go_iconst (v := (1 : Int32)) O dX8_leak_38 (by decide) ?_
        refine go_iload_n O dX8_leak_39 rfl 3 rfl ?_
        refine go_ishl O dX8_leak_40 ?_
        refine go_ior O dX8_leak_41 ?_
        obtain ⟨x9, ex9, hF⟩ := nm_s hF
        refine go_topi ex9 ?_
        refine go_istore_n (ls' := [(2, .int x9), (0, .ref (G.2.1 0)), (1, .int p1), (3, .int p3)]) O dX8_leak_42 rfl (by decide) rfl ?_
        refine go_perm (ls' := [(0, .ref (G.2.1 0)), (1, .int p1), (2, .int x9), (3, .int p3)]) [1, 2, 0, 3] rfl ?_
        exact jn (P := fun q => Go X l rm_X8_leak (wC G) 4 43 [(0, .ref (G.2.1 0)), (1, .int p1), (2, .int q), (3, .int p3)] [] S) hF J7
def F_X8_leak  (S : Sg) (a1 : Int32) : Option Int32 := bd (F_X8_isSet S a1) (fun x2 => if x2 = 0 then (some (-1 : Int32)) else (bd (T_X8_leak_14 S a1 FU (0 : Int32) (0 : Int32)) (fun x3 => some x3)))
set_option maxHeartbeats 4000000 in
set_option maxRecDepth 100000 in
theorem c_X8_leak (l : Launch) (G : Gp) (hI : Gd G)  {S : Sg} {a1 : Int32} {r : Int32} (hF : F_X8_leak S a1 = some r) : Met l yX8_leak wsX8_leak rm_X8_leak (va_Pc [.ref (G.2.1 0), .int a1] (PreW (wC G) S)) (va_Qi (fun r' u => r' = r ∧ u = S) (PostW (wC G)) (AW (wC G))) 0 0 (AW (wC G)) := by
  rw [F_X8_leak] at hF
  refine met_i (cc := cX8_leak) (maxL := 4) (own := RX8) hI.1 (by decide) rfl rfl (Nat.le_of_ble_eq_true rfl) (fun X O hR => ?_)
  show Go X l rm_X8_leak (wC G) 4 0 [(0, .ref (G.2.1 0)), (1, .int a1)] [] S
  refine go_aload_n O dX8_leak_0 rfl 0 rfl ?_
  refine go_iload_n O dX8_leak_1 rfl 1 rfl ?_
  obtain ⟨x2, hA1, hF⟩ := bd_s hF
  refine go_callVi (As := [.int a1]) (rest := []) (b := 0) O (c_X8_isSet l G hI hA1) (fun s args hts => cwV 1 hts gX8_leak_X8_isSet rfl rfl rfl (by decide +kernel) ⟨Nat.le_of_ble_eq_true rfl, Nat.le_of_ble_eq_true rfl⟩) (lt9 hI (by decide : (0 : Nat) < 99)) (cv_pw G (S.1 0) (S.2 0)) rfl rfl rfl rfl (Nat.le_of_ble_eq_true rfl) dX8_leak_2 ?_
  refine go_if_ne (tgt := 10) O dX8_leak_5 (by decide) (fun hc13 => ?_) (fun hc13 => ?_)
  · replace hF := it_f hc13 hF
    refine go_iconst (v := (0 : Int32)) O dX8_leak_10 (by decide) ?_
    refine go_istore_n (ls' := [(2, .int (0 : Int32)), (0, .ref (G.2.1 0)), (1, .int a1)]) O dX8_leak_11 rfl (by decide) rfl ?_
    refine go_iconst (v := (0 : Int32)) O dX8_leak_12 (by decide) ?_
    refine go_istore_n (ls' := [(3, .int (0 : Int32)), (2, .int (0 : Int32)), (0, .ref (G.2.1 0)), (1, .int a1)]) O dX8_leak_13 rfl (by decide) rfl ?_
    refine go_perm (ls' := [(0, .ref (G.2.1 0)), (1, .int a1), (2, .int (0 : Int32)), (3, .int (0 : Int32))]) [2, 3, 1, 0] rfl ?_
    obtain ⟨x3, hA12, hF⟩ := bd_s hF
    refine lt_X8_leak_14 l G hI  O _ _ _ _ hA12 ?_
    refine go_iload_n O dX8_leak_49 rfl 0 rfl ?_
    exact ret_i hF (hR _ _ dX8_leak_50)
  · replace hF := it_t hc13 hF
    refine go_iconst (v := (-1 : Int32)) O dX8_leak_8 (by decide) ?_
    exact ret_i hF (hR _ _ dX8_leak_9)
-- X8_leaks
def rm_X8_leaks : Room := { frames := 5, cells := 0, slots := 0, locals := 138 }
theorem fl_X8_leaks_24 : Cond.fieldLink RX8 24 "PaperWalls" "now" "LPaperWalls$Street;" ∈ wsX8_leaks := by decide +kernel
theorem fl_X8_leaks_131 : Cond.fieldLink RX8 131 "PaperWalls$Street" "people" "I" ∈ wsX8_leaks := by decide +kernel
theorem in_X8_leaks_X6 : ∀ x ∈ u_ws RX6 TX6 11, x ∈ wsX8_leaks := by decide +kernel
theorem in_X8_leaks_X8 : ∀ x ∈ u_ws RX8 TX8 12, x ∈ wsX8_leaks := by decide +kernel
def T_X8_leaks_38  (S : Sg) (p1 : Int32) (p3 : Int32) (p4 : Int32) : Nat → Int32 → Int32 → Option (Int32)
  | 0, _, _ => none
  | n + 1, p2, p5 => if (S.1 (sb 0) 9) ≤ p5 then (some p2) else (bd (if ((p4 >>> (p5 &&& 31)) &&& (1 : Int32)) = 0 then (some p2) else (bd (F_X6_circleOf 0 S p5) (fun x11 => if (p4 ||| x11) = p1 then (some (p2 + (1 : Int32))) else (some p2)))) (fun x7 => T_X8_leaks_38 S p1 p3 p4 n x7 (p5 + (1 : Int32))))
set_option maxHeartbeats 4000000 in
set_option maxRecDepth 100000 in
theorem lt_X8_leaks_38 {X : XT} (l : Launch) (G : Gp) (hI : Gd G)  {S : Sg} {p1 : Int32} {p3 : Int32} {p4 : Int32} (O : Ok X (wC G) cX8_leaks RX8 wsX8_leaks 6) : ∀ (n : Nat) (p2 : Int32) (p5 : Int32)  (q : (Int32)), T_X8_leaks_38 S p1 p3 p4 n p2 p5  = some q → (Go X l rm_X8_leaks (wC G) 6 85 [(0, .ref (G.2.1 0)), (1, .int p1), (2, .int q), (3, .int p3)] [] S) → Go X l rm_X8_leaks (wC G) 6 38 [(0, .ref (G.2.1 0)), (1, .int p1), (2, .int p2), (3, .int p3), (4, .int p4), (5, .int p5)] [] S := by
  intro n
  induction n with
  | zero =>
    intro p2 p5  q hF
    cases hF
  | succ n ih =>
    intro p2 p5  q hF hE
    rw [T_X8_leaks_38] at hF
    refine go_iload O dX8_leaks_38 5 rfl ?_
    refine go_aload_n O dX8_leaks_40 rfl 0 rfl ?_
    refine go_get (k := 0) (j := 2) O (lt9 hI (by decide : (0 : Nat) < 99)) (cv_pw G (S.1 0) (S.2 0)) rfl in_X8_leaks_X8 (by decide) fl_X8_leaks_24 rfl rfl dX8_leaks_41 ?_
    refine go_get (k := (sb 0)) (j := 9) O (lt9 hI (sb_lt0 (by decide : (0 : Nat) < 5))) (cv_st G (by decide : (0 : Nat) < 5) (S.1 (sb 0)) (S.2 (sb 0))) rfl in_X8_leaks_X6 (by decide) fl_X8_leaks_131 rfl rfl dX8_leaks_44 ?_
    refine go_icmp_ge (tgt := 85) O dX8_leaks_47 (by decide) (fun hc14 => ?_) (fun hc14 => ?_)
    · replace hF := it_t hc14 hF
      refine go_perm (ls' := [(0, .ref (G.2.1 0)), (1, .int p1), (2, .int p2), (3, .int p3)]) [0, 1, 2, 3] rfl ?_
      exact jn (P := fun q => Go X l rm_X8_leaks (wC G) 6 85 [(0, .ref (G.2.1 0)), (1, .int p1), (2, .int q), (3, .int p3)] [] S) hF hE
    · replace hF := it_f hc14 hF
      refine go_iload O dX8_leaks_50 4 rfl ?_
      refine go_iload O dX8_leaks_52 5 rfl ?_
      refine go_ishr O dX8_leaks_54 ?_
      refine go_iconst (v := (1 : Int32)) O dX8_leaks_55 (by decide) ?_
      refine go_iand O dX8_leaks_56 ?_
      obtain ⟨x7, hA9, hF⟩ := bd_s hF
      have J8 : Go X l rm_X8_leaks (wC G) 6 79 [(0, .ref (G.2.1 0)), (1, .int p1), (2, .int x7), (3, .int p3), (4, .int p4), (5, .int p5)] [] S := by
        refine go_iinc (d := (1 : Int32)) (ls' := [(5, .int (p5 + (1 : Int32))), (0, .ref (G.2.1 0)), (1, .int p1), (2, .int x7), (3, .int p3), (4, .int p4)]) O dX8_leaks_79 5 rfl (by decide) (by decide) rfl ?_
        refine go_goto (tgt := 38) O dX8_leaks_82 (by decide) ?_
        refine go_perm (ls' := [(0, .ref (G.2.1 0)), (1, .int p1), (2, .int x7), (3, .int p3), (4, .int p4), (5, .int (p5 + (1 : Int32)))]) [1, 2, 3, 4, 5, 0] rfl ?_
        exact ih _ _ _ hF hE
      replace hF := hA9
      refine go_if_eq (tgt := 79) O dX8_leaks_57 (by decide) (fun hc13 => ?_) (fun hc13 => ?_)
      · replace hF := it_t hc13 hF
        exact jn (P := fun q => Go X l rm_X8_leaks (wC G) 6 79 [(0, .ref (G.2.1 0)), (1, .int p1), (2, .int q), (3, .int p3), (4, .int p4), (5, .int p5)] [] S) hF J8
      · replace hF := it_f hc13 hF
        refine go_iload O dX8_leaks_60 4 rfl ?_
        refine go_aload_n O dX8_leaks_62 rfl 0 rfl ?_
        refine go_get (k := 0) (j := 2) O (lt9 hI (by decide : (0 : Nat) < 99)) (cv_pw G (S.1 0) (S.2 0)) rfl in_X8_leaks_X8 (by decide) fl_X8_leaks_24 rfl rfl dX8_leaks_63 ?_
        refine go_iload O dX8_leaks_66 5 rfl ?_
        obtain ⟨x11, hA10, hF⟩ := bd_s hF
        refine go_callVi (As := [.int p5]) (rest := [.int p4]) (b := (sb 0)) O (c_X6_circleOf l G hI (by decide : (0 : Nat) < 5) hA10) (fun s args hts => cwV 1 hts gX8_leaks_X6_circleOf rfl rfl rfl (by decide +kernel) ⟨Nat.le_of_ble_eq_true rfl, Nat.le_of_ble_eq_true rfl⟩) (lt9 hI (sb_lt0 (by decide : (0 : Nat) < 5))) (cv_st G (by decide : (0 : Nat) < 5) (S.1 (sb 0)) (S.2 (sb 0))) rfl rfl rfl rfl (Nat.le_of_ble_eq_true rfl) dX8_leaks_68 ?_
        refine go_ior O dX8_leaks_71 ?_
        refine go_iload_n O dX8_leaks_72 rfl 1 rfl ?_
        refine go_icmp_ne (tgt := 79) O dX8_leaks_73 (by decide) (fun hc12 => ?_) (fun hc12 => ?_)
        · replace hF := it_f hc12 hF
          exact jn (P := fun q => Go X l rm_X8_leaks (wC G) 6 79 [(0, .ref (G.2.1 0)), (1, .int p1), (2, .int q), (3, .int p3), (4, .int p4), (5, .int p5)] [] S) hF J8
        · replace hF := it_t hc12 hF
          refine go_iinc (d := (1 : Int32)) (ls' := [(2, .int (p2 + (1 : Int32))), (0, .ref (G.2.1 0)), (1, .int p1), (3, .int p3), (4, .int p4), (5, .int p5)]) O dX8_leaks_76 2 rfl (by decide) (by decide) rfl ?_
          refine go_perm (ls' := [(0, .ref (G.2.1 0)), (1, .int p1), (2, .int (p2 + (1 : Int32))), (3, .int p3), (4, .int p4), (5, .int p5)]) [1, 2, 0, 3, 4, 5] rfl ?_
          exact jn (P := fun q => Go X l rm_X8_leaks (wC G) 6 79 [(0, .ref (G.2.1 0)), (1, .int p1), (2, .int q), (3, .int p3), (4, .int p4), (5, .int p5)] [] S) hF J8
def T_X8_leaks_14  (S : Sg) (p1 : Int32) : Nat → Int32 → Int32 → Option (Int32)
  | 0, _, _ => none
  | n + 1, p2, p3 => if (S.1 (sb 0) 9) ≤ p3 then (some p2) else (bd (F_X6_circleOf 0 S p3) (fun x5 => bd (T_X8_leaks_38 S p1 p3 x5 FU p2 (0 : Int32)) (fun x6 => T_X8_leaks_14 S p1 n x6 (p3 + (1 : Int32)))))
set_option maxHeartbeats 4000000 in
set_option maxRecDepth 100000 in
theorem lt_X8_leaks_14 {X : XT} (l : Launch) (G : Gp) (hI : Gd G)  {S : Sg} {p1 : Int32} (O : Ok X (wC G) cX8_leaks RX8 wsX8_leaks 6) : ∀ (n : Nat) (p2 : Int32) (p3 : Int32)  (q : (Int32)), T_X8_leaks_14 S p1 n p2 p3  = some q → (Go X l rm_X8_leaks (wC G) 6 91 [(2, .int q)] [] S) → Go X l rm_X8_leaks (wC G) 6 14 [(0, .ref (G.2.1 0)), (1, .int p1), (2, .int p2), (3, .int p3)] [] S := by
  intro n
  induction n with
  | zero =>
    intro p2 p3  q hF
    cases hF
  | succ n ih =>
    intro p2 p3  q hF hE
    rw [T_X8_leaks_14] at hF
    refine go_iload_n O dX8_leaks_14 rfl 3 rfl ?_
    refine go_aload_n O dX8_leaks_15 rfl 0 rfl ?_
    refine go_get (k := 0) (j := 2) O (lt9 hI (by decide : (0 : Nat) < 99)) (cv_pw G (S.1 0) (S.2 0)) rfl in_X8_leaks_X8 (by decide) fl_X8_leaks_24 rfl rfl dX8_leaks_16 ?_
    refine go_get (k := (sb 0)) (j := 9) O (lt9 hI (sb_lt0 (by decide : (0 : Nat) < 5))) (cv_st G (by decide : (0 : Nat) < 5) (S.1 (sb 0)) (S.2 (sb 0))) rfl in_X8_leaks_X6 (by decide) fl_X8_leaks_131 rfl rfl dX8_leaks_19 ?_
    refine go_icmp_ge (tgt := 91) O dX8_leaks_22 (by decide) (fun hc16 => ?_) (fun hc16 => ?_)
    · replace hF := it_t hc16 hF
      refine go_perm (ls' := [(2, .int p2)]) [2] rfl ?_
      exact jn (P := fun q => Go X l rm_X8_leaks (wC G) 6 91 [(2, .int q)] [] S) hF hE
    · replace hF := it_f hc16 hF
      refine go_aload_n O dX8_leaks_25 rfl 0 rfl ?_
      refine go_get (k := 0) (j := 2) O (lt9 hI (by decide : (0 : Nat) < 99)) (cv_pw G (S.1 0) (S.2 0)) rfl in_X8_leaks_X8 (by decide) fl_X8_leaks_24 rfl rfl dX8_leaks_26 ?_
      refine go_iload_n O dX8_leaks_29 rfl 3 rfl ?_
      obtain ⟨x5, hA4, hF⟩ := bd_s hF
      refine go_callVi (As := [.int p3]) (rest := []) (b := (sb 0)) O (c_X6_circleOf l G hI (by decide : (0 : Nat) < 5) hA4) (fun s args hts => cwV 1 hts gX8_leaks_X6_circleOf rfl rfl rfl (by decide +kernel) ⟨Nat.le_of_ble_eq_true rfl, Nat.le_of_ble_eq_true rfl⟩) (lt9 hI (sb_lt0 (by decide : (0 : Nat) < 5))) (cv_st G (by decide : (0 : Nat) < 5) (S.1 (sb 0)) (S.2 (sb 0))) rfl rfl rfl rfl (Nat.le_of_ble_eq_true rfl) dX8_leaks_30 ?_
      refine go_istore (ls' := [(4, .int x5), (0, .ref (G.2.1 0)), (1, .int p1), (2, .int p2), (3, .int p3)]) O dX8_leaks_33 (by decide) rfl ?_
      refine go_iconst (v := (0 : Int32)) O dX8_leaks_35 (by decide) ?_
      refine go_istore (ls' := [(5, .int (0 : Int32)), (4, .int x5), (0, .ref (G.2.1 0)), (1, .int p1), (2, .int p2), (3, .int p3)]) O dX8_leaks_36 (by decide) rfl ?_
      refine go_perm (ls' := [(0, .ref (G.2.1 0)), (1, .int p1), (2, .int p2), (3, .int p3), (4, .int x5), (5, .int (0 : Int32))]) [2, 3, 4, 5, 1, 0] rfl ?_
      obtain ⟨x6, hA15, hF⟩ := bd_s hF
      refine lt_X8_leaks_38 l G hI  O _ _ _ _ hA15 ?_
      refine go_iinc (d := (1 : Int32)) (ls' := [(3, .int (p3 + (1 : Int32))), (0, .ref (G.2.1 0)), (1, .int p1), (2, .int x6)]) O dX8_leaks_85 3 rfl (by decide) (by decide) rfl ?_
      refine go_goto (tgt := 14) O dX8_leaks_88 (by decide) ?_
      refine go_perm (ls' := [(0, .ref (G.2.1 0)), (1, .int p1), (2, .int x6), (3, .int (p3 + (1 : Int32)))]) [1, 2, 3, 0] rfl ?_
      exact ih _ _ _ hF hE
def F_X8_leaks  (S : Sg) (a1 : Int32) : Option Int32 := bd (F_X8_isSet S a1) (fun x2 => if x2 = 0 then (some (-1 : Int32)) else (bd (T_X8_leaks_14 S a1 FU (0 : Int32) (0 : Int32)) (fun x3 => some x3)))
set_option maxHeartbeats 4000000 in
set_option maxRecDepth 100000 in
theorem c_X8_leaks (l : Launch) (G : Gp) (hI : Gd G)  {S : Sg} {a1 : Int32} {r : Int32} (hF : F_X8_leaks S a1 = some r) : Met l yX8_leaks wsX8_leaks rm_X8_leaks (va_Pc [.ref (G.2.1 0), .int a1] (PreW (wC G) S)) (va_Qi (fun r' u => r' = r ∧ u = S) (PostW (wC G)) (AW (wC G))) 0 0 (AW (wC G)) := by
  rw [F_X8_leaks] at hF
  refine met_i (cc := cX8_leaks) (maxL := 6) (own := RX8) hI.1 (by decide) rfl rfl (Nat.le_of_ble_eq_true rfl) (fun X O hR => ?_)
  show Go X l rm_X8_leaks (wC G) 6 0 [(0, .ref (G.2.1 0)), (1, .int a1)] [] S
  refine go_aload_n O dX8_leaks_0 rfl 0 rfl ?_
  refine go_iload_n O dX8_leaks_1 rfl 1 rfl ?_
  obtain ⟨x2, hA1, hF⟩ := bd_s hF
  refine go_callVi (As := [.int a1]) (rest := []) (b := 0) O (c_X8_isSet l G hI hA1) (fun s args hts => cwV 1 hts gX8_leaks_X8_isSet rfl rfl rfl (by decide +kernel) ⟨Nat.le_of_ble_eq_true rfl, Nat.le_of_ble_eq_true rfl⟩) (lt9 hI (by decide : (0 : Nat) < 99)) (cv_pw G (S.1 0) (S.2 0)) rfl rfl rfl rfl (Nat.le_of_ble_eq_true rfl) dX8_leaks_2 ?_
  refine go_if_ne (tgt := 10) O dX8_leaks_5 (by decide) (fun hc18 => ?_) (fun hc18 => ?_)
  · replace hF := it_f hc18 hF
    refine go_iconst (v := (0 : Int32)) O dX8_leaks_10 (by decide) ?_
    refine go_istore_n (ls' := [(2, .int (0 : Int32)), (0, .ref (G.2.1 0)), (1, .int a1)]) O dX8_leaks_11 rfl (by decide) rfl ?_
    refine go_iconst (v := (0 : Int32)) O dX8_leaks_12 (by decide) ?_
    refine go_istore_n (ls' := [(3, .int (0 : Int32)), (2, .int (0 : Int32)), (0, .ref (G.2.1 0)), (1, .int a1)]) O dX8_leaks_13 rfl (by decide) rfl ?_
    refine go_perm (ls' := [(0, .ref (G.2.1 0)), (1, .int a1), (2, .int (0 : Int32)), (3, .int (0 : Int32))]) [2, 3, 1, 0] rfl ?_
    obtain ⟨x3, hA17, hF⟩ := bd_s hF
    refine lt_X8_leaks_14 l G hI  O _ _ _ _ hA17 ?_
    refine go_iload_n O dX8_leaks_91 rfl 0 rfl ?_
    exact ret_i hF (hR _ _ dX8_leaks_92)
  · replace hF := it_t hc18 hF
    refine go_iconst (v := (-1 : Int32)) O dX8_leaks_8 (by decide) ?_
    exact ret_i hF (hR _ _ dX8_leaks_9)
-- X8_isPlace
def rm_X8_isPlace : Room := { frames := 0, cells := 0, slots := 0, locals := 0 }
def F_X8_isPlace  (S : Sg) (a0 : Int32) : Option Int32 := if a0 < 0 then (some (0 : Int32)) else (if (3 : Int32) ≤ a0 then (some (0 : Int32)) else (some (1 : Int32)))
set_option maxHeartbeats 4000000 in
set_option maxRecDepth 100000 in
theorem c_X8_isPlace (l : Launch) (G : Gp) (hI : Gd G)  {S : Sg} {a0 : Int32} {r : Int32} (hF : F_X8_isPlace S a0 = some r) : Met l yX8_isPlace wsX8_isPlace rm_X8_isPlace (va_Pc [.int a0] (PreW (wC G) S)) (va_Qi (fun r' u => r' = r ∧ u = S) (PostW (wC G)) (AW (wC G))) 0 0 (AW (wC G)) := by
  rw [F_X8_isPlace] at hF
  refine met_z (cc := cX8_isPlace) (maxL := 1) (own := RX8) hI.1 (by decide) rfl rfl (Nat.le_of_ble_eq_true rfl) (fun X O hR => ?_)
  show Go X l rm_X8_isPlace (wC G) 1 0 [(0, .int a0)] [] S
  refine go_iload_n O dX8_isPlace_0 rfl 0 rfl ?_
  refine go_if_lt (tgt := 13) O dX8_isPlace_1 (by decide) (fun hc2 => ?_) (fun hc2 => ?_)
  · replace hF := it_t hc2 hF
    refine go_iconst (v := (0 : Int32)) O dX8_isPlace_13 (by decide) ?_
    exact ret_z hF (fun hz => hR _ _ hz dX8_isPlace_14) (show vp_nar .boolean (0 : Int32) = (0 : Int32) by decide)
  · replace hF := it_f hc2 hF
    refine go_iload_n O dX8_isPlace_4 rfl 0 rfl ?_
    refine go_iconst (v := (3 : Int32)) O dX8_isPlace_5 (by decide) ?_
    refine go_icmp_ge (tgt := 13) O dX8_isPlace_6 (by decide) (fun hc1 => ?_) (fun hc1 => ?_)
    · replace hF := it_t hc1 hF
      refine go_iconst (v := (0 : Int32)) O dX8_isPlace_13 (by decide) ?_
      exact ret_z hF (fun hz => hR _ _ hz dX8_isPlace_14) (show vp_nar .boolean (0 : Int32) = (0 : Int32) by decide)
    · replace hF := it_f hc1 hF
      refine go_iconst (v := (1 : Int32)) O dX8_isPlace_9 (by decide) ?_
      refine go_goto (tgt := 14) O dX8_isPlace_10 (by decide) ?_
      exact ret_z hF (fun hz => hR _ _ hz dX8_isPlace_14) (show vp_nar .boolean (1 : Int32) = (1 : Int32) by decide)
-- X8_keep
def rm_X8_keep : Room := { frames := 3, cells := 0, slots := 0, locals := 122 }
theorem fl_X8_keep_24 : Cond.fieldLink RX8 24 "PaperWalls" "now" "LPaperWalls$Street;" ∈ wsX8_keep := by decide +kernel
theorem fl_X8_keep_31 : Cond.fieldLink RX8 31 "PaperWalls" "places" "[LPaperWalls$Street;" ∈ wsX8_keep := by decide +kernel
theorem fl_X8_keep_35 : Cond.fieldLink RX8 35 "PaperWalls" "isKept" "[Z" ∈ wsX8_keep := by decide +kernel
theorem fl_X8_keep_131 : Cond.fieldLink RX8 131 "PaperWalls$Street" "people" "I" ∈ wsX8_keep := by decide +kernel
theorem fl_X8_keep_281 : Cond.fieldLink RX8 281 "PaperWalls$Street" "hours" "LPaperWalls$Hours;" ∈ wsX8_keep := by decide +kernel
theorem fl_X8_keep_293 : Cond.fieldLink RX8 293 "PaperWalls$Hours" "size" "I" ∈ wsX8_keep := by decide +kernel
theorem in_X8_keep_X1 : ∀ x ∈ u_ws RX1 TX1 6, x ∈ wsX8_keep := by decide +kernel
theorem in_X8_keep_X6 : ∀ x ∈ u_ws RX6 TX6 11, x ∈ wsX8_keep := by decide +kernel
theorem in_X8_keep_X8 : ∀ x ∈ u_ws RX8 TX8 12, x ∈ wsX8_keep := by decide +kernel
def F_X8_keep  (S : Sg) (a1 : Int32) : Option (Int32 × Sg) := bd (F_X8_isPlace S a1) (fun x2 => if x2 = 0 then (some ((-1 : Int32), S)) else (if (S.1 (sb 0) 9) = 0 then (some ((-4 : Int32), S)) else (chk (inB a1 3) (bd (F_X6_become (2 + (a1).toNatClampNeg) 0 S) (fun S5 => chk (inB a1 3) (nm (wI S5 4 a1.toNatClampNeg (vp_nar .boolean (1 : Int32))) (fun S7 => some (S7.1 (sb 0 + 8) 5, S7))))))))
set_option maxHeartbeats 4000000 in
set_option maxRecDepth 100000 in
theorem c_X8_keep (l : Launch) (G : Gp) (hI : Gd G)  {S : Sg} {a1 : Int32} {r : Int32} {S1 : Sg} (hF : F_X8_keep S a1 = some (r, S1)) : Met l yX8_keep wsX8_keep rm_X8_keep (va_Pc [.ref (G.2.1 0), .int a1] (PreW (wC G) S)) (va_Qi (fun r' u => r' = r ∧ u = S1) (PostW (wC G)) (AW (wC G))) 0 0 (AW (wC G)) := by
  rw [F_X8_keep] at hF
  refine met_i (cc := cX8_keep) (maxL := 2) (own := RX8) hI.1 (by decide) rfl rfl (Nat.le_of_ble_eq_true rfl) (fun X O hR => ?_)
  show Go X l rm_X8_keep (wC G) 2 0 [(0, .ref (G.2.1 0)), (1, .int a1)] [] S
  refine go_iload_n O dX8_keep_0 rfl 1 rfl ?_
  obtain ⟨x2, hA1, hF⟩ := bd_s hF
  refine go_callSi (As := [.int a1]) (rest := []) O (c_X8_isPlace l G hI hA1) (fun s args hts => va_cwS 1 hts gX8_keep_X8_isPlace rfl rfl rfl (by decide +kernel) ⟨Nat.le_of_ble_eq_true rfl, Nat.le_of_ble_eq_true rfl⟩) rfl rfl (Nat.le_of_ble_eq_true rfl) dX8_keep_1 ?_
  refine go_if_ne (tgt := 9) O dX8_keep_4 (by decide) (fun hc9 => ?_) (fun hc9 => ?_)
  · replace hF := it_f hc9 hF
    refine go_aload_n O dX8_keep_9 rfl 0 rfl ?_
    refine go_get (k := 0) (j := 2) O (lt9 hI (by decide : (0 : Nat) < 99)) (cv_pw G (S.1 0) (S.2 0)) rfl in_X8_keep_X8 (by decide) fl_X8_keep_24 rfl rfl dX8_keep_10 ?_
    refine go_get (k := (sb 0)) (j := 9) O (lt9 hI (sb_lt0 (by decide : (0 : Nat) < 5))) (cv_st G (by decide : (0 : Nat) < 5) (S.1 (sb 0)) (S.2 (sb 0))) rfl in_X8_keep_X6 (by decide) fl_X8_keep_131 rfl rfl dX8_keep_13 ?_
    refine go_if_ne (tgt := 22) O dX8_keep_16 (by decide) (fun hc8 => ?_) (fun hc8 => ?_)
    · replace hF := it_f hc8 hF
      refine go_aload_n O dX8_keep_22 rfl 0 rfl ?_
      refine go_get (k := 0) (j := 4) O (lt9 hI (by decide : (0 : Nat) < 99)) (cv_pw G (S.1 0) (S.2 0)) rfl in_X8_keep_X8 (by decide) fl_X8_keep_31 rfl rfl dX8_keep_23 ?_
      refine go_iload_n O dX8_keep_26 rfl 1 rfl ?_
      obtain ⟨hb3, hF⟩ := chk_s hF
      refine go_aldq (k := 3) (t0 := 6) O (lt9 hI (by decide : (3 : Nat) < 99)) (cv_places G (S.1 3) (S.2 3)) rfl (inB_in hb3) dX8_keep_27 (v := .ref (G.2.1 (sb (2 + (a1).toNatClampNeg)))) rfl ?_
      refine go_aload_n O dX8_keep_28 rfl 0 rfl ?_
      refine go_get (k := 0) (j := 2) O (lt9 hI (by decide : (0 : Nat) < 99)) (cv_pw G (S.1 0) (S.2 0)) rfl in_X8_keep_X8 (by decide) fl_X8_keep_24 rfl rfl dX8_keep_29 ?_
      obtain ⟨S5, hA4, hF⟩ := bd_s hF
      refine go_callVv (As := [.ref (G.2.1 (sb 0))]) (rest := []) (b := (sb (2 + (a1).toNatClampNeg))) O (c_X6_become l G hI (pl_lt (inB_lt hb3)) (by decide : (0 : Nat) < 5) hA4) (fun s args hts => cwV 1 hts gX8_keep_X6_become rfl rfl rfl (by decide +kernel) ⟨Nat.le_of_ble_eq_true rfl, Nat.le_of_ble_eq_true rfl⟩) (lt9 hI (sb_lt0 (pl_lt (inB_lt hb3)))) (cv_st G (pl_lt (inB_lt hb3)) (S.1 (sb (2 + (a1).toNatClampNeg))) (S.2 (sb (2 + (a1).toNatClampNeg)))) rfl rfl rfl rfl (Nat.le_of_ble_eq_true rfl) dX8_keep_32 ?_
      refine go_aload_n O dX8_keep_35 rfl 0 rfl ?_
      refine go_get (k := 0) (j := 5) O (lt9 hI (by decide : (0 : Nat) < 99)) (cv_pw G (S5.1 0) (S5.2 0)) rfl in_X8_keep_X8 (by decide) fl_X8_keep_35 rfl rfl dX8_keep_36 ?_
      refine go_iload_n O dX8_keep_39 rfl 1 rfl ?_
      refine go_iconst (v := (1 : Int32)) O dX8_keep_40 (by decide) ?_
      obtain ⟨hb6, hF⟩ := chk_s hF
      obtain ⟨S7, eS7, hF⟩ := nm_s hF
      refine go_zast (k := 4) O (lt9 hI (by decide : (4 : Nat) < 99)) (fun f => (cv_kept G f (S5.2 4))) (inB_in hb6) dX8_keep_41 eS7 ?_
      refine go_aload_n O dX8_keep_42 rfl 0 rfl ?_
      refine go_get (k := 0) (j := 2) O (lt9 hI (by decide : (0 : Nat) < 99)) (cv_pw G (S7.1 0) (S7.2 0)) rfl in_X8_keep_X8 (by decide) fl_X8_keep_24 rfl rfl dX8_keep_43 ?_
      refine go_get (k := (sb 0)) (j := 7) O (lt9 hI (sb_lt0 (by decide : (0 : Nat) < 5))) (cv_st G (by decide : (0 : Nat) < 5) (S7.1 (sb 0)) (S7.2 (sb 0))) rfl in_X8_keep_X6 (by decide) fl_X8_keep_281 rfl rfl dX8_keep_46 ?_
      refine go_get (k := (sb 0 + 8)) (j := 5) O (lt9 hI (sb_lt (by decide : (0 : Nat) < 5) (by decide : 8 < 13))) (cv_hrs G (by decide : (0 : Nat) < 5) (S7.1 (sb 0 + 8)) (S7.2 (sb 0 + 8))) rfl in_X8_keep_X1 (by decide) fl_X8_keep_293 rfl rfl dX8_keep_49 ?_
      exact ret_wi hF (hR _ _ dX8_keep_52)
    · replace hF := it_t hc8 hF
      refine go_bipush (v := (-4 : Int32)) O dX8_keep_19 (by decide) ?_
      exact ret_wi hF (hR _ _ dX8_keep_21)
  · replace hF := it_t hc9 hF
    refine go_iconst (v := (-1 : Int32)) O dX8_keep_7 (by decide) ?_
    exact ret_wi hF (hR _ _ dX8_keep_8)
-- X8_on
def rm_X8_on : Room := { frames := 3, cells := 0, slots := 0, locals := 122 }
theorem fl_X8_on_24 : Cond.fieldLink RX8 24 "PaperWalls" "now" "LPaperWalls$Street;" ∈ wsX8_on := by decide +kernel
theorem fl_X8_on_31 : Cond.fieldLink RX8 31 "PaperWalls" "places" "[LPaperWalls$Street;" ∈ wsX8_on := by decide +kernel
theorem fl_X8_on_35 : Cond.fieldLink RX8 35 "PaperWalls" "isKept" "[Z" ∈ wsX8_on := by decide +kernel
theorem fl_X8_on_281 : Cond.fieldLink RX8 281 "PaperWalls$Street" "hours" "LPaperWalls$Hours;" ∈ wsX8_on := by decide +kernel
theorem fl_X8_on_293 : Cond.fieldLink RX8 293 "PaperWalls$Hours" "size" "I" ∈ wsX8_on := by decide +kernel
theorem in_X8_on_X1 : ∀ x ∈ u_ws RX1 TX1 6, x ∈ wsX8_on := by decide +kernel
theorem in_X8_on_X6 : ∀ x ∈ u_ws RX6 TX6 11, x ∈ wsX8_on := by decide +kernel
theorem in_X8_on_X8 : ∀ x ∈ u_ws RX8 TX8 12, x ∈ wsX8_on := by decide +kernel
def F_X8_on  (S : Sg) (a1 : Int32) : Option (Int32 × Sg) := bd (F_X8_isPlace S a1) (fun x2 => if x2 = 0 then (some ((-1 : Int32), S)) else (chk (inB a1 3) (if (S.1 4 a1.toNatClampNeg) = 0 then (bd (F_X8_find S (1 : Int32)) (fun (x8, S9) => some (x8, S9))) else (chk (inB a1 3) (bd (F_X6_become 0 (2 + (a1).toNatClampNeg) S) (fun S6 => some (S6.1 (sb 0 + 8) 5, S6)))))))
set_option maxHeartbeats 4000000 in
set_option maxRecDepth 100000 in
theorem c_X8_on (l : Launch) (G : Gp) (hI : Gd G)  {S : Sg} {a1 : Int32} {r : Int32} {S1 : Sg} (hF : F_X8_on S a1 = some (r, S1)) : Met l yX8_on wsX8_on rm_X8_on (va_Pc [.ref (G.2.1 0), .int a1] (PreW (wC G) S)) (va_Qi (fun r' u => r' = r ∧ u = S1) (PostW (wC G)) (AW (wC G))) 0 0 (AW (wC G)) := by
  rw [F_X8_on] at hF
  refine met_i (cc := cX8_on) (maxL := 2) (own := RX8) hI.1 (by decide) rfl rfl (Nat.le_of_ble_eq_true rfl) (fun X O hR => ?_)
  show Go X l rm_X8_on (wC G) 2 0 [(0, .ref (G.2.1 0)), (1, .int a1)] [] S
  refine go_iload_n O dX8_on_0 rfl 1 rfl ?_
  obtain ⟨x2, hA1, hF⟩ := bd_s hF
  refine go_callSi (As := [.int a1]) (rest := []) O (c_X8_isPlace l G hI hA1) (fun s args hts => va_cwS 1 hts gX8_on_X8_isPlace rfl rfl rfl (by decide +kernel) ⟨Nat.le_of_ble_eq_true rfl, Nat.le_of_ble_eq_true rfl⟩) rfl rfl (Nat.le_of_ble_eq_true rfl) dX8_on_1 ?_
  refine go_if_ne (tgt := 9) O dX8_on_4 (by decide) (fun hc11 => ?_) (fun hc11 => ?_)
  · replace hF := it_f hc11 hF
    refine go_aload_n O dX8_on_9 rfl 0 rfl ?_
    refine go_get (k := 0) (j := 5) O (lt9 hI (by decide : (0 : Nat) < 99)) (cv_pw G (S.1 0) (S.2 0)) rfl in_X8_on_X8 (by decide) fl_X8_on_35 rfl rfl dX8_on_10 ?_
    refine go_iload_n O dX8_on_13 rfl 1 rfl ?_
    obtain ⟨hb3, hF⟩ := chk_s hF
    refine go_zald (k := 4) O (lt9 hI (by decide : (4 : Nat) < 99)) (cv_kept G (S.1 4) (S.2 4)) (inB_in hb3) dX8_on_14 ?_
    refine go_if_ne (tgt := 24) O dX8_on_15 (by decide) (fun hc10 => ?_) (fun hc10 => ?_)
    · replace hF := it_f hc10 hF
      refine go_aload_n O dX8_on_24 rfl 0 rfl ?_
      refine go_get (k := 0) (j := 2) O (lt9 hI (by decide : (0 : Nat) < 99)) (cv_pw G (S.1 0) (S.2 0)) rfl in_X8_on_X8 (by decide) fl_X8_on_24 rfl rfl dX8_on_25 ?_
      refine go_aload_n O dX8_on_28 rfl 0 rfl ?_
      refine go_get (k := 0) (j := 4) O (lt9 hI (by decide : (0 : Nat) < 99)) (cv_pw G (S.1 0) (S.2 0)) rfl in_X8_on_X8 (by decide) fl_X8_on_31 rfl rfl dX8_on_29 ?_
      refine go_iload_n O dX8_on_32 rfl 1 rfl ?_
      obtain ⟨hb4, hF⟩ := chk_s hF
      refine go_aldq (k := 3) (t0 := 6) O (lt9 hI (by decide : (3 : Nat) < 99)) (cv_places G (S.1 3) (S.2 3)) rfl (inB_in hb4) dX8_on_33 (v := .ref (G.2.1 (sb (2 + (a1).toNatClampNeg)))) rfl ?_
      obtain ⟨S6, hA5, hF⟩ := bd_s hF
      refine go_callVv (As := [.ref (G.2.1 (sb (2 + (a1).toNatClampNeg)))]) (rest := []) (b := (sb 0)) O (c_X6_become l G hI (by decide : (0 : Nat) < 5) (pl_lt (inB_lt hb4)) hA5) (fun s args hts => cwV 1 hts gX8_on_X6_become rfl rfl rfl (by decide +kernel) ⟨Nat.le_of_ble_eq_true rfl, Nat.le_of_ble_eq_true rfl⟩) (lt9 hI (sb_lt0 (by decide : (0 : Nat) < 5))) (cv_st G (by decide : (0 : Nat) < 5) (S.1 (sb 0)) (S.2 (sb 0))) rfl rfl rfl rfl (Nat.le_of_ble_eq_true rfl) dX8_on_34 ?_
      refine go_aload_n O dX8_on_37 rfl 0 rfl ?_
      refine go_get (k := 0) (j := 2) O (lt9 hI (by decide : (0 : Nat) < 99)) (cv_pw G (S6.1 0) (S6.2 0)) rfl in_X8_on_X8 (by decide) fl_X8_on_24 rfl rfl dX8_on_38 ?_
      refine go_get (k := (sb 0)) (j := 7) O (lt9 hI (sb_lt0 (by decide : (0 : Nat) < 5))) (cv_st G (by decide : (0 : Nat) < 5) (S6.1 (sb 0)) (S6.2 (sb 0))) rfl in_X8_on_X6 (by decide) fl_X8_on_281 rfl rfl dX8_on_41 ?_
      refine go_get (k := (sb 0 + 8)) (j := 5) O (lt9 hI (sb_lt (by decide : (0 : Nat) < 5) (by decide : 8 < 13))) (cv_hrs G (by decide : (0 : Nat) < 5) (S6.1 (sb 0 + 8)) (S6.2 (sb 0 + 8))) rfl in_X8_on_X1 (by decide) fl_X8_on_293 rfl rfl dX8_on_44 ?_
      exact ret_wi hF (hR _ _ dX8_on_47)
    · replace hF := it_t hc10 hF
      refine go_aload_n O dX8_on_18 rfl 0 rfl ?_
      refine go_iconst (v := (1 : Int32)) O dX8_on_19 (by decide) ?_
      obtain ⟨⟨x8, S9⟩, hA7, hF⟩ := bd_s hF
      refine go_callVi (As := [.int (1 : Int32)]) (rest := []) (b := 0) O (c_X8_find l G hI hA7) (fun s args hts => cwV 1 hts gX8_on_X8_find rfl rfl rfl (by decide +kernel) ⟨Nat.le_of_ble_eq_true rfl, Nat.le_of_ble_eq_true rfl⟩) (lt9 hI (by decide : (0 : Nat) < 99)) (cv_pw G (S.1 0) (S.2 0)) rfl rfl rfl rfl (Nat.le_of_ble_eq_true rfl) dX8_on_20 ?_
      exact ret_wi hF (hR _ _ dX8_on_23)
  · replace hF := it_t hc11 hF
    refine go_iconst (v := (-1 : Int32)) O dX8_on_7 (by decide) ?_
    exact ret_wi hF (hR _ _ dX8_on_8)
-- X8_asked
def rm_X8_asked : Room := { frames := 0, cells := 0, slots := 0, locals := 0 }
theorem fl_X8_asked_92 : Cond.fieldLink RX8 92 "PaperWalls" "told" "I" ∈ wsX8_asked := by decide +kernel
theorem in_X8_asked_X8 : ∀ x ∈ u_ws RX8 TX8 12, x ∈ wsX8_asked := by decide +kernel
def F_X8_asked  (S : Sg)  : Option Int32 := some (S.1 0 10)
set_option maxHeartbeats 4000000 in
set_option maxRecDepth 100000 in
theorem c_X8_asked (l : Launch) (G : Gp) (hI : Gd G)  {S : Sg} {r : Int32} (hF : F_X8_asked S = some r) : Met l yX8_asked wsX8_asked rm_X8_asked (va_Pc [.ref (G.2.1 0)] (PreW (wC G) S)) (va_Qi (fun r' u => r' = r ∧ u = S) (PostW (wC G)) (AW (wC G))) 0 0 (AW (wC G)) := by
  rw [F_X8_asked] at hF
  refine met_i (cc := cX8_asked) (maxL := 1) (own := RX8) hI.1 (by decide) rfl rfl (Nat.le_of_ble_eq_true rfl) (fun X O hR => ?_)
  show Go X l rm_X8_asked (wC G) 1 0 [(0, .ref (G.2.1 0))] [] S
  refine go_aload_n O dX8_asked_0 rfl 0 rfl ?_
  refine go_get (k := 0) (j := 10) O (lt9 hI (by decide : (0 : Nat) < 99)) (cv_pw G (S.1 0) (S.2 0)) rfl in_X8_asked_X8 (by decide) fl_X8_asked_92 rfl rfl dX8_asked_1 ?_
  exact ret_i hF (hR _ _ dX8_asked_4)
-- X8_commonDivisor
def rm_X8_commonDivisor : Room := { frames := 1, cells := 0, slots := 0, locals := 40 }
theorem wd_X8_commonDivisor_im : Cond.initialized "java/lang/Math" ∈ wsX8_commonDivisor := by decide +kernel
theorem wd_X8_commonDivisor_kmax : Cond.code Lib.Math.max.name Lib.Math.max.code 2 (some .int) ∈ wsX8_commonDivisor := by decide +kernel
theorem wd_X8_commonDivisor_m271 : Cond.methodLink RX8 271 Lib.Math.max.name ∈ wsX8_commonDivisor := by decide +kernel
theorem wd_X8_commonDivisor_smax : Cond.static Lib.Math.max.name ∈ wsX8_commonDivisor := by decide +kernel
def T_X8_commonDivisor_8  (S : Sg) (p0 : Int32) (p1 : Int32) : Nat → Int32 → Option ((Unit) ⊕ (Int32))
  | 0, _ => none
  | n + 1, p3 => if p3 ≤ (1 : Int32) then (some (.inl ())) else (chk (nzI p3) (if (p0 - p0 / p3 * p3) = 0 then (chk (nzI p3) (if (p1 - p1 / p3 * p3) = 0 then (some (.inr p3)) else (T_X8_commonDivisor_8 S p0 p1 n (p3 + (-1 : Int32))))) else (T_X8_commonDivisor_8 S p0 p1 n (p3 + (-1 : Int32)))))
set_option maxHeartbeats 4000000 in
set_option maxRecDepth 100000 in
theorem lt_X8_commonDivisor_8 {X : XT} (l : Launch) (G : Gp) (hI : Gd G)  {S : Sg} {p0 : Int32} {p1 : Int32} (O : Ok X (wC G) cX8_commonDivisor RX8 wsX8_commonDivisor 4) : ∀ (n : Nat) (p3 : Int32)  (q : ((Unit) ⊕ (Int32))), T_X8_commonDivisor_8 S p0 p1 n p3  = some q → (q = .inl () → Go X l rm_X8_commonDivisor (wC G) 4 33 [] [] S) → (∀ (r : Int32), q = .inr r → ∀ pc ls, decode cX8_commonDivisor pc = .ok (.ireturn, 1) → Go X l rm_X8_commonDivisor (wC G) 4 pc ls [.int r] S) → Go X l rm_X8_commonDivisor (wC G) 4 8 [(0, .int p0), (1, .int p1), (3, .int p3)] [] S := by
  intro n
  induction n with
  | zero =>
    intro p3  q hF
    cases hF
  | succ n ih =>
    intro p3  q hF hE hR
    rw [T_X8_commonDivisor_8] at hF
    refine go_iload_n O dX8_commonDivisor_8 rfl 2 rfl ?_
    refine go_iconst (v := (1 : Int32)) O dX8_commonDivisor_9 (by decide) ?_
    refine go_icmp_le (tgt := 33) O dX8_commonDivisor_10 (by decide) (fun hc6 => ?_) (fun hc6 => ?_)
    · replace hF := it_t hc6 hF
      refine go_perm (ls' := []) [] rfl ?_
      exact ret_q hF (fun hq => hE  hq)
    · replace hF := it_f hc6 hF
      refine go_iload_n O dX8_commonDivisor_13 rfl 0 rfl ?_
      refine go_iload_n O dX8_commonDivisor_14 rfl 2 rfl ?_
      obtain ⟨hz2, hF⟩ := chk_s hF
      refine go_irem O dX8_commonDivisor_15 (nzI_s hz2) ?_
      refine go_if_ne (tgt := 27) O dX8_commonDivisor_16 (by decide) (fun hc5 => ?_) (fun hc5 => ?_)
      · replace hF := it_f hc5 hF
        refine go_iinc (d := (-1 : Int32)) (ls' := [(3, .int (p3 + (-1 : Int32))), (0, .int p0), (1, .int p1)]) O dX8_commonDivisor_27 2 rfl (by decide) (by decide) rfl ?_
        refine go_goto (tgt := 8) O dX8_commonDivisor_30 (by decide) ?_
        refine go_perm (ls' := [(0, .int p0), (1, .int p1), (3, .int (p3 + (-1 : Int32)))]) [1, 2, 0] rfl ?_
        exact ih _ _ hF hE hR
      · replace hF := it_t hc5 hF
        refine go_iload_n O dX8_commonDivisor_19 rfl 1 rfl ?_
        refine go_iload_n O dX8_commonDivisor_20 rfl 2 rfl ?_
        obtain ⟨hz3, hF⟩ := chk_s hF
        refine go_irem O dX8_commonDivisor_21 (nzI_s hz3) ?_
        refine go_if_ne (tgt := 27) O dX8_commonDivisor_22 (by decide) (fun hc4 => ?_) (fun hc4 => ?_)
        · replace hF := it_f hc4 hF
          refine go_iinc (d := (-1 : Int32)) (ls' := [(3, .int (p3 + (-1 : Int32))), (0, .int p0), (1, .int p1)]) O dX8_commonDivisor_27 2 rfl (by decide) (by decide) rfl ?_
          refine go_goto (tgt := 8) O dX8_commonDivisor_30 (by decide) ?_
          refine go_perm (ls' := [(0, .int p0), (1, .int p1), (3, .int (p3 + (-1 : Int32)))]) [1, 2, 0] rfl ?_
          exact ih _ _ hF hE hR
        · replace hF := it_t hc4 hF
          refine go_iload_n O dX8_commonDivisor_25 rfl 2 rfl ?_
          exact ret_q hF (fun hq => hR _ hq _ _ dX8_commonDivisor_26)
def F_X8_commonDivisor  (S : Sg) (a0 : Int32) (a1 : Int32) : Option Int32 := nm (if a0 < a1 then a1 else a0) (fun x1 => bd (T_X8_commonDivisor_8 S a0 a1 FU x1) (fun q => match q with | .inl () => some (1 : Int32) | .inr r => some r))
set_option maxHeartbeats 4000000 in
set_option maxRecDepth 100000 in
theorem c_X8_commonDivisor (l : Launch) (G : Gp) (hI : Gd G)  {S : Sg} {a0 : Int32} {a1 : Int32} {r : Int32} (hF : F_X8_commonDivisor S a0 a1 = some r) : Met l yX8_commonDivisor wsX8_commonDivisor rm_X8_commonDivisor (va_Pc [.int a0, .int a1] (PreW (wC G) S)) (va_Qi (fun r' u => r' = r ∧ u = S) (PostW (wC G)) (AW (wC G))) 0 0 (AW (wC G)) := by
  rw [F_X8_commonDivisor] at hF
  refine met_i (cc := cX8_commonDivisor) (maxL := 4) (own := RX8) hI.1 (by decide) rfl rfl (Nat.le_of_ble_eq_true rfl) (fun X O hR => ?_)
  show Go X l rm_X8_commonDivisor (wC G) 4 0 [(0, .int a0), (1, .int a1)] [] S
  refine go_iload_n O dX8_commonDivisor_0 rfl 0 rfl ?_
  refine go_iload_n O dX8_commonDivisor_1 rfl 1 rfl ?_
  obtain ⟨x1, ex1, hF⟩ := nm_s hF
  refine go_mmax (v := x1) O wd_X8_commonDivisor_m271 wd_X8_commonDivisor_smax wd_X8_commonDivisor_im wd_X8_commonDivisor_kmax (by decide) (Nat.le_of_ble_eq_true rfl) ex1.symm dX8_commonDivisor_2 ?_
  refine go_istore_n (ls' := [(2, .int x1), (0, .int a0), (1, .int a1)]) O dX8_commonDivisor_5 rfl (by decide) rfl ?_
  refine go_iload_n O dX8_commonDivisor_6 rfl 0 rfl ?_
  refine go_istore_n (ls' := [(3, .int x1), (2, .int x1), (0, .int a0), (1, .int a1)]) O dX8_commonDivisor_7 rfl (by decide) rfl ?_
  refine go_perm (ls' := [(0, .int a0), (1, .int a1), (3, .int x1)]) [2, 3, 0] rfl ?_
  obtain ⟨q8, hA7, hF⟩ := bd_s hF
  refine lt_X8_commonDivisor_8 l G hI  O _ _ _ hA7 (fun hq => ?_) ?_
  · subst hq
    refine go_iconst (v := (1 : Int32)) O dX8_commonDivisor_33 (by decide) ?_
    exact ret_i hF (hR _ _ dX8_commonDivisor_34)
  · intro r hq pc ls hd
    subst hq
    exact ret_i hF (hR _ _ hd)
-- X8_upper
def rm_X8_upper : Room := { frames := 5, cells := 0, slots := 0, locals := 139 }
theorem fl_X8_upper_24 : Cond.fieldLink RX8 24 "PaperWalls" "now" "LPaperWalls$Street;" ∈ wsX8_upper := by decide +kernel
theorem in_X8_upper_X8 : ∀ x ∈ u_ws RX8 TX8 12, x ∈ wsX8_upper := by decide +kernel
def F_X8_upper  (S : Sg)  : Option Int64 := bd (F_X6_heardPairs 0 S) (fun x2 => bd (F_X6_pairs 0 S) (fun x4 => bd (F_X8_commonDivisor S x2 x4) (fun x6 => chk (nzI x6) (some (Int32.toInt64 (x2 / x6))))))
set_option maxHeartbeats 4000000 in
set_option maxRecDepth 100000 in
theorem c_X8_upper (l : Launch) (G : Gp) (hI : Gd G)  {S : Sg} {r : Int64} (hF : F_X8_upper S = some r) : Met l yX8_upper wsX8_upper rm_X8_upper (va_Pc [.ref (G.2.1 0)] (PreW (wC G) S)) (va_Ql (fun r' u => r' = r ∧ u = S) (PostW (wC G)) (AW (wC G))) 0 0 (AW (wC G)) := by
  rw [F_X8_upper] at hF
  refine met_l (cc := cX8_upper) (maxL := 2) (own := RX8) hI.1 (by decide) rfl rfl (Nat.le_of_ble_eq_true rfl) (fun X O hR => ?_)
  show Go X l rm_X8_upper (wC G) 2 0 [(0, .ref (G.2.1 0))] [] S
  refine go_aload_n O dX8_upper_0 rfl 0 rfl ?_
  refine go_get (k := 0) (j := 2) O (lt9 hI (by decide : (0 : Nat) < 99)) (cv_pw G (S.1 0) (S.2 0)) rfl in_X8_upper_X8 (by decide) fl_X8_upper_24 rfl rfl dX8_upper_1 ?_
  obtain ⟨x2, hA1, hF⟩ := bd_s hF
  refine go_callVi (As := []) (rest := []) (b := (sb 0)) O (c_X6_heardPairs l G hI (by decide : (0 : Nat) < 5) hA1) (fun s args hts => cwV 0 hts gX8_upper_X6_heardPairs rfl rfl rfl (by decide +kernel) ⟨Nat.le_of_ble_eq_true rfl, Nat.le_of_ble_eq_true rfl⟩) (lt9 hI (sb_lt0 (by decide : (0 : Nat) < 5))) (cv_st G (by decide : (0 : Nat) < 5) (S.1 (sb 0)) (S.2 (sb 0))) rfl rfl rfl rfl (Nat.le_of_ble_eq_true rfl) dX8_upper_4 ?_
  refine go_istore_n (ls' := [(1, .int x2), (0, .ref (G.2.1 0))]) O dX8_upper_7 rfl (by decide) rfl ?_
  refine go_iload_n O dX8_upper_8 rfl 0 rfl ?_
  refine go_iload_n O dX8_upper_9 rfl 0 rfl ?_
  refine go_aload_n O dX8_upper_10 rfl 1 rfl ?_
  refine go_get (k := 0) (j := 2) O (lt9 hI (by decide : (0 : Nat) < 99)) (cv_pw G (S.1 0) (S.2 0)) rfl in_X8_upper_X8 (by decide) fl_X8_upper_24 rfl rfl dX8_upper_11 ?_
  obtain ⟨x4, hA3, hF⟩ := bd_s hF
  refine go_callVi (As := []) (rest := [.int x2, .int x2]) (b := (sb 0)) O (c_X6_pairs l G hI (by decide : (0 : Nat) < 5) hA3) (fun s args hts => cwV 0 hts gX8_upper_X6_pairs rfl rfl rfl (by decide +kernel) ⟨Nat.le_of_ble_eq_true rfl, Nat.le_of_ble_eq_true rfl⟩) (lt9 hI (sb_lt0 (by decide : (0 : Nat) < 5))) (cv_st G (by decide : (0 : Nat) < 5) (S.1 (sb 0)) (S.2 (sb 0))) rfl rfl rfl rfl (Nat.le_of_ble_eq_true rfl) dX8_upper_14 ?_
  obtain ⟨x6, hA5, hF⟩ := bd_s hF
  refine go_callSi (As := [.int x2, .int x4]) (rest := [.int x2]) O (c_X8_commonDivisor l G hI hA5) (fun s args hts => va_cwS 2 hts gX8_upper_X8_commonDivisor rfl rfl rfl (by decide +kernel) ⟨Nat.le_of_ble_eq_true rfl, Nat.le_of_ble_eq_true rfl⟩) rfl rfl (Nat.le_of_ble_eq_true rfl) dX8_upper_17 ?_
  obtain ⟨hz7, hF⟩ := chk_s hF
  refine go_idiv O dX8_upper_20 (nzI_s hz7) ?_
  refine go_i2l (v := Int32.toInt64 (x2 / x6)) O dX8_upper_21 rfl ?_
  exact ret_l hF (hR _ _ dX8_upper_22)
-- X8_lower
def rm_X8_lower : Room := { frames := 5, cells := 0, slots := 0, locals := 139 }
theorem fl_X8_lower_24 : Cond.fieldLink RX8 24 "PaperWalls" "now" "LPaperWalls$Street;" ∈ wsX8_lower := by decide +kernel
theorem in_X8_lower_X8 : ∀ x ∈ u_ws RX8 TX8 12, x ∈ wsX8_lower := by decide +kernel
def F_X8_lower  (S : Sg)  : Option Int64 := bd (F_X6_pairs 0 S) (fun x2 => if x2 = 0 then (some (1 : Int64)) else (bd (F_X6_heardPairs 0 S) (fun x4 => bd (F_X8_commonDivisor S x4 x2) (fun x6 => chk (nzI x6) (some (Int32.toInt64 (x2 / x6)))))))
set_option maxHeartbeats 4000000 in
set_option maxRecDepth 100000 in
theorem c_X8_lower (l : Launch) (G : Gp) (hI : Gd G)  {S : Sg} {r : Int64} (hF : F_X8_lower S = some r) : Met l yX8_lower wsX8_lower rm_X8_lower (va_Pc [.ref (G.2.1 0)] (PreW (wC G) S)) (va_Ql (fun r' u => r' = r ∧ u = S) (PostW (wC G)) (AW (wC G))) 0 0 (AW (wC G)) := by
  rw [F_X8_lower] at hF
  refine met_l (cc := cX8_lower) (maxL := 2) (own := RX8) hI.1 (by decide) rfl rfl (Nat.le_of_ble_eq_true rfl) (fun X O hR => ?_)
  show Go X l rm_X8_lower (wC G) 2 0 [(0, .ref (G.2.1 0))] [] S
  refine go_aload_n O dX8_lower_0 rfl 0 rfl ?_
  refine go_get (k := 0) (j := 2) O (lt9 hI (by decide : (0 : Nat) < 99)) (cv_pw G (S.1 0) (S.2 0)) rfl in_X8_lower_X8 (by decide) fl_X8_lower_24 rfl rfl dX8_lower_1 ?_
  obtain ⟨x2, hA1, hF⟩ := bd_s hF
  refine go_callVi (As := []) (rest := []) (b := (sb 0)) O (c_X6_pairs l G hI (by decide : (0 : Nat) < 5) hA1) (fun s args hts => cwV 0 hts gX8_lower_X6_pairs rfl rfl rfl (by decide +kernel) ⟨Nat.le_of_ble_eq_true rfl, Nat.le_of_ble_eq_true rfl⟩) (lt9 hI (sb_lt0 (by decide : (0 : Nat) < 5))) (cv_st G (by decide : (0 : Nat) < 5) (S.1 (sb 0)) (S.2 (sb 0))) rfl rfl rfl rfl (Nat.le_of_ble_eq_true rfl) dX8_lower_4 ?_
  refine go_istore_n (ls' := [(1, .int x2), (0, .ref (G.2.1 0))]) O dX8_lower_7 rfl (by decide) rfl ?_
  refine go_iload_n O dX8_lower_8 rfl 0 rfl ?_
  refine go_if_ne (tgt := 16) O dX8_lower_9 (by decide) (fun hc8 => ?_) (fun hc8 => ?_)
  · replace hF := it_f hc8 hF
    refine go_iload_n O dX8_lower_16 rfl 0 rfl ?_
    refine go_aload_n O dX8_lower_17 rfl 1 rfl ?_
    refine go_get (k := 0) (j := 2) O (lt9 hI (by decide : (0 : Nat) < 99)) (cv_pw G (S.1 0) (S.2 0)) rfl in_X8_lower_X8 (by decide) fl_X8_lower_24 rfl rfl dX8_lower_18 ?_
    obtain ⟨x4, hA3, hF⟩ := bd_s hF
    refine go_callVi (As := []) (rest := [.int x2]) (b := (sb 0)) O (c_X6_heardPairs l G hI (by decide : (0 : Nat) < 5) hA3) (fun s args hts => cwV 0 hts gX8_lower_X6_heardPairs rfl rfl rfl (by decide +kernel) ⟨Nat.le_of_ble_eq_true rfl, Nat.le_of_ble_eq_true rfl⟩) (lt9 hI (sb_lt0 (by decide : (0 : Nat) < 5))) (cv_st G (by decide : (0 : Nat) < 5) (S.1 (sb 0)) (S.2 (sb 0))) rfl rfl rfl rfl (Nat.le_of_ble_eq_true rfl) dX8_lower_21 ?_
    refine go_iload_n O dX8_lower_24 rfl 0 rfl ?_
    obtain ⟨x6, hA5, hF⟩ := bd_s hF
    refine go_callSi (As := [.int x4, .int x2]) (rest := [.int x2]) O (c_X8_commonDivisor l G hI hA5) (fun s args hts => va_cwS 2 hts gX8_lower_X8_commonDivisor rfl rfl rfl (by decide +kernel) ⟨Nat.le_of_ble_eq_true rfl, Nat.le_of_ble_eq_true rfl⟩) rfl rfl (Nat.le_of_ble_eq_true rfl) dX8_lower_25 ?_
    obtain ⟨hz7, hF⟩ := chk_s hF
    refine go_idiv O dX8_lower_28 (nzI_s hz7) ?_
    refine go_i2l (v := Int32.toInt64 (x2 / x6)) O dX8_lower_29 rfl ?_
    exact ret_l hF (hR _ _ dX8_lower_30)
  · replace hF := it_t hc8 hF
    refine go_lconst (v := (1 : Int64)) O dX8_lower_12 (by decide) ?_
    refine go_goto (tgt := 30) O dX8_lower_13 (by decide) ?_
    exact ret_l hF (hR _ _ dX8_lower_30)
-- X8_howManyRows
def rm_X8_howManyRows : Room := { frames := 1, cells := 0, slots := 0, locals := 20 }
theorem fl_X8_howManyRows_11 : Cond.fieldLink RX8 11 "PaperWalls" "rows" "[LPaperWalls$Row;" ∈ wsX8_howManyRows := by decide +kernel
theorem in_X8_howManyRows_X8 : ∀ x ∈ u_ws RX8 TX8 12, x ∈ wsX8_howManyRows := by decide +kernel
def T_X8_howManyRows_4  (S : Sg)  : Nat → Int32 → Int32 → Option (Int32)
  | 0, _, _ => none
  | n + 1, p1, p2 => if (6 : Int32) ≤ p2 then (some p1) else (chk (inB p2 6) (bd (F_X4_isMissing (p2).toNatClampNeg S) (fun x4 => bd (if x4 = 0 then (some (1 : Int32)) else (some (0 : Int32))) (fun x5 => nm (p1 + x5) (fun x9 => T_X8_howManyRows_4 S n x9 (p2 + (1 : Int32)))))))
set_option maxHeartbeats 4000000 in
set_option maxRecDepth 100000 in
theorem lt_X8_howManyRows_4 {X : XT} (l : Launch) (G : Gp) (hI : Gd G)  {S : Sg} (O : Ok X (wC G) cX8_howManyRows RX8 wsX8_howManyRows 3) : ∀ (n : Nat) (p1 : Int32) (p2 : Int32)  (q : (Int32)), T_X8_howManyRows_4 S n p1 p2  = some q → (Go X l rm_X8_howManyRows (wC G) 3 36 [(1, .int q)] [] S) → Go X l rm_X8_howManyRows (wC G) 3 4 [(0, .ref (G.2.1 0)), (1, .int p1), (2, .int p2)] [] S := by
  intro n
  induction n with
  | zero =>
    intro p1 p2  q hF
    cases hF
  | succ n ih =>
    intro p1 p2  q hF hE
    rw [T_X8_howManyRows_4] at hF
    refine go_iload_n O dX8_howManyRows_4 rfl 2 rfl ?_
    refine go_bipush (v := (6 : Int32)) O dX8_howManyRows_5 (by decide) ?_
    refine go_icmp_ge (tgt := 36) O dX8_howManyRows_7 (by decide) (fun hc10 => ?_) (fun hc10 => ?_)
    · replace hF := it_t hc10 hF
      refine go_perm (ls' := [(1, .int p1)]) [1] rfl ?_
      exact jn (P := fun q => Go X l rm_X8_howManyRows (wC G) 3 36 [(1, .int q)] [] S) hF hE
    · replace hF := it_f hc10 hF
      refine go_iload_n O dX8_howManyRows_10 rfl 1 rfl ?_
      refine go_aload_n O dX8_howManyRows_11 rfl 0 rfl ?_
      refine go_get (k := 0) (j := 0) O (lt9 hI (by decide : (0 : Nat) < 99)) (cv_pw G (S.1 0) (S.2 0)) rfl in_X8_howManyRows_X8 (by decide) fl_X8_howManyRows_11 rfl rfl dX8_howManyRows_12 ?_
      refine go_iload_n O dX8_howManyRows_15 rfl 2 rfl ?_
      obtain ⟨hb2, hF⟩ := chk_s hF
      refine go_aldq (k := 1) (t0 := 4) O (lt9 hI (by decide : (1 : Nat) < 99)) (cv_rows G (S.1 1) (S.2 1)) rfl (inB_in hb2) dX8_howManyRows_16 (v := .ref (G.2.1 (14 + 2 * (p2).toNatClampNeg))) rfl ?_
      obtain ⟨x4, hA3, hF⟩ := bd_s hF
      refine go_callVi (As := []) (rest := [.int p1]) (b := (14 + 2 * (p2).toNatClampNeg)) O (c_X4_isMissing l G hI (inB_lt hb2) hA3) (fun s args hts => cwV 0 hts gX8_howManyRows_X4_isMissing rfl rfl rfl (by decide +kernel) ⟨Nat.le_of_ble_eq_true rfl, Nat.le_of_ble_eq_true rfl⟩) (lt9 hI (row_lt (inB_lt hb2))) (cv_row G (inB_lt hb2) (S.1 (14 + 2 * (p2).toNatClampNeg)) (S.2 (14 + 2 * (p2).toNatClampNeg))) rfl rfl rfl rfl (Nat.le_of_ble_eq_true rfl) dX8_howManyRows_17 ?_
      obtain ⟨x5, hA7, hF⟩ := bd_s hF
      have J6 : Go X l rm_X8_howManyRows (wC G) 3 28 [(0, .ref (G.2.1 0)), (2, .int p2)] [.int x5, .int p1] S := by
        refine go_iadd O dX8_howManyRows_28 ?_
        obtain ⟨x9, ex9, hF⟩ := nm_s hF
        refine go_topi ex9 ?_
        refine go_istore_n (ls' := [(1, .int x9), (0, .ref (G.2.1 0)), (2, .int p2)]) O dX8_howManyRows_29 rfl (by decide) rfl ?_
        refine go_iinc (d := (1 : Int32)) (ls' := [(2, .int (p2 + (1 : Int32))), (1, .int x9), (0, .ref (G.2.1 0))]) O dX8_howManyRows_30 2 rfl (by decide) (by decide) rfl ?_
        refine go_goto (tgt := 4) O dX8_howManyRows_33 (by decide) ?_
        refine go_perm (ls' := [(0, .ref (G.2.1 0)), (1, .int x9), (2, .int (p2 + (1 : Int32)))]) [2, 1, 0] rfl ?_
        exact ih _ _ _ hF hE
      replace hF := hA7
      refine go_if_eq (tgt := 27) O dX8_howManyRows_20 (by decide) (fun hc8 => ?_) (fun hc8 => ?_)
      · replace hF := it_t hc8 hF
        refine go_iconst (v := (1 : Int32)) O dX8_howManyRows_27 (by decide) ?_
        refine go_perm (ls' := [(0, .ref (G.2.1 0)), (2, .int p2)]) [0, 2] rfl ?_
        exact jn (P := fun q => Go X l rm_X8_howManyRows (wC G) 3 28 [(0, .ref (G.2.1 0)), (2, .int p2)] [.int q, .int p1] S) hF J6
      · replace hF := it_f hc8 hF
        refine go_iconst (v := (0 : Int32)) O dX8_howManyRows_23 (by decide) ?_
        refine go_goto (tgt := 28) O dX8_howManyRows_24 (by decide) ?_
        refine go_perm (ls' := [(0, .ref (G.2.1 0)), (2, .int p2)]) [0, 2] rfl ?_
        exact jn (P := fun q => Go X l rm_X8_howManyRows (wC G) 3 28 [(0, .ref (G.2.1 0)), (2, .int p2)] [.int q, .int p1] S) hF J6
def F_X8_howManyRows  (S : Sg)  : Option Int32 := bd (T_X8_howManyRows_4 S FU (0 : Int32) (0 : Int32)) (fun x1 => some x1)
set_option maxHeartbeats 4000000 in
set_option maxRecDepth 100000 in
theorem c_X8_howManyRows (l : Launch) (G : Gp) (hI : Gd G)  {S : Sg} {r : Int32} (hF : F_X8_howManyRows S = some r) : Met l yX8_howManyRows wsX8_howManyRows rm_X8_howManyRows (va_Pc [.ref (G.2.1 0)] (PreW (wC G) S)) (va_Qi (fun r' u => r' = r ∧ u = S) (PostW (wC G)) (AW (wC G))) 0 0 (AW (wC G)) := by
  rw [F_X8_howManyRows] at hF
  refine met_i (cc := cX8_howManyRows) (maxL := 3) (own := RX8) hI.1 (by decide) rfl rfl (Nat.le_of_ble_eq_true rfl) (fun X O hR => ?_)
  show Go X l rm_X8_howManyRows (wC G) 3 0 [(0, .ref (G.2.1 0))] [] S
  refine go_iconst (v := (0 : Int32)) O dX8_howManyRows_0 (by decide) ?_
  refine go_istore_n (ls' := [(1, .int (0 : Int32)), (0, .ref (G.2.1 0))]) O dX8_howManyRows_1 rfl (by decide) rfl ?_
  refine go_iconst (v := (0 : Int32)) O dX8_howManyRows_2 (by decide) ?_
  refine go_istore_n (ls' := [(2, .int (0 : Int32)), (1, .int (0 : Int32)), (0, .ref (G.2.1 0))]) O dX8_howManyRows_3 rfl (by decide) rfl ?_
  refine go_perm (ls' := [(0, .ref (G.2.1 0)), (1, .int (0 : Int32)), (2, .int (0 : Int32))]) [2, 1, 0] rfl ?_
  obtain ⟨x1, hA11, hF⟩ := bd_s hF
  refine lt_X8_howManyRows_4 l G hI  O _ _ _ _ hA11 ?_
  refine go_iload_n O dX8_howManyRows_36 rfl 0 rfl ?_
  exact ret_i hF (hR _ _ dX8_howManyRows_37)
-- X8_howManyTexts
def rm_X8_howManyTexts : Room := { frames := 1, cells := 0, slots := 0, locals := 20 }
theorem fl_X8_howManyTexts_17 : Cond.fieldLink RX8 17 "PaperWalls" "texts" "[LPaperWalls$Text;" ∈ wsX8_howManyTexts := by decide +kernel
theorem in_X8_howManyTexts_X8 : ∀ x ∈ u_ws RX8 TX8 12, x ∈ wsX8_howManyTexts := by decide +kernel
def T_X8_howManyTexts_4  (S : Sg)  : Nat → Int32 → Int32 → Option (Int32)
  | 0, _, _ => none
  | n + 1, p1, p2 => if (4 : Int32) ≤ p2 then (some p1) else (chk (inB p2 4) (bd (F_X7_isMissing (p2).toNatClampNeg S) (fun x4 => bd (if x4 = 0 then (some (1 : Int32)) else (some (0 : Int32))) (fun x5 => nm (p1 + x5) (fun x9 => T_X8_howManyTexts_4 S n x9 (p2 + (1 : Int32)))))))
set_option maxHeartbeats 4000000 in
set_option maxRecDepth 100000 in
theorem lt_X8_howManyTexts_4 {X : XT} (l : Launch) (G : Gp) (hI : Gd G)  {S : Sg} (O : Ok X (wC G) cX8_howManyTexts RX8 wsX8_howManyTexts 3) : ∀ (n : Nat) (p1 : Int32) (p2 : Int32)  (q : (Int32)), T_X8_howManyTexts_4 S n p1 p2  = some q → (Go X l rm_X8_howManyTexts (wC G) 3 35 [(1, .int q)] [] S) → Go X l rm_X8_howManyTexts (wC G) 3 4 [(0, .ref (G.2.1 0)), (1, .int p1), (2, .int p2)] [] S := by
  intro n
  induction n with
  | zero =>
    intro p1 p2  q hF
    cases hF
  | succ n ih =>
    intro p1 p2  q hF hE
    rw [T_X8_howManyTexts_4] at hF
    refine go_iload_n O dX8_howManyTexts_4 rfl 2 rfl ?_
    refine go_iconst (v := (4 : Int32)) O dX8_howManyTexts_5 (by decide) ?_
    refine go_icmp_ge (tgt := 35) O dX8_howManyTexts_6 (by decide) (fun hc10 => ?_) (fun hc10 => ?_)
    · replace hF := it_t hc10 hF
      refine go_perm (ls' := [(1, .int p1)]) [1] rfl ?_
      exact jn (P := fun q => Go X l rm_X8_howManyTexts (wC G) 3 35 [(1, .int q)] [] S) hF hE
    · replace hF := it_f hc10 hF
      refine go_iload_n O dX8_howManyTexts_9 rfl 1 rfl ?_
      refine go_aload_n O dX8_howManyTexts_10 rfl 0 rfl ?_
      refine go_get (k := 0) (j := 1) O (lt9 hI (by decide : (0 : Nat) < 99)) (cv_pw G (S.1 0) (S.2 0)) rfl in_X8_howManyTexts_X8 (by decide) fl_X8_howManyTexts_17 rfl rfl dX8_howManyTexts_11 ?_
      refine go_iload_n O dX8_howManyTexts_14 rfl 2 rfl ?_
      obtain ⟨hb2, hF⟩ := chk_s hF
      refine go_aldq (k := 2) (t0 := 5) O (lt9 hI (by decide : (2 : Nat) < 99)) (cv_texts G (S.1 2) (S.2 2)) rfl (inB_in hb2) dX8_howManyTexts_15 (v := .ref (G.2.1 (26 + 2 * (p2).toNatClampNeg))) rfl ?_
      obtain ⟨x4, hA3, hF⟩ := bd_s hF
      refine go_callVi (As := []) (rest := [.int p1]) (b := (26 + 2 * (p2).toNatClampNeg)) O (c_X7_isMissing l G hI (inB_lt hb2) hA3) (fun s args hts => cwV 0 hts gX8_howManyTexts_X7_isMissing rfl rfl rfl (by decide +kernel) ⟨Nat.le_of_ble_eq_true rfl, Nat.le_of_ble_eq_true rfl⟩) (lt9 hI (txt_lt (inB_lt hb2))) (cv_txt G (inB_lt hb2) (S.1 (26 + 2 * (p2).toNatClampNeg)) (S.2 (26 + 2 * (p2).toNatClampNeg))) rfl rfl rfl rfl (Nat.le_of_ble_eq_true rfl) dX8_howManyTexts_16 ?_
      obtain ⟨x5, hA7, hF⟩ := bd_s hF
      have J6 : Go X l rm_X8_howManyTexts (wC G) 3 27 [(0, .ref (G.2.1 0)), (2, .int p2)] [.int x5, .int p1] S := by
        refine go_iadd O dX8_howManyTexts_27 ?_
        obtain ⟨x9, ex9, hF⟩ := nm_s hF
        refine go_topi ex9 ?_
        refine go_istore_n (ls' := [(1, .int x9), (0, .ref (G.2.1 0)), (2, .int p2)]) O dX8_howManyTexts_28 rfl (by decide) rfl ?_
        refine go_iinc (d := (1 : Int32)) (ls' := [(2, .int (p2 + (1 : Int32))), (1, .int x9), (0, .ref (G.2.1 0))]) O dX8_howManyTexts_29 2 rfl (by decide) (by decide) rfl ?_
        refine go_goto (tgt := 4) O dX8_howManyTexts_32 (by decide) ?_
        refine go_perm (ls' := [(0, .ref (G.2.1 0)), (1, .int x9), (2, .int (p2 + (1 : Int32)))]) [2, 1, 0] rfl ?_
        exact ih _ _ _ hF hE
      replace hF := hA7
      refine go_if_eq (tgt := 26) O dX8_howManyTexts_19 (by decide) (fun hc8 => ?_) (fun hc8 => ?_)
      · replace hF := it_t hc8 hF
        refine go_iconst (v := (1 : Int32)) O dX8_howManyTexts_26 (by decide) ?_
        refine go_perm (ls' := [(0, .ref (G.2.1 0)), (2, .int p2)]) [0, 2] rfl ?_
        exact jn (P := fun q => Go X l rm_X8_howManyTexts (wC G) 3 27 [(0, .ref (G.2.1 0)), (2, .int p2)] [.int q, .int p1] S) hF J6
      · replace hF := it_f hc8 hF
        refine go_iconst (v := (0 : Int32)) O dX8_howManyTexts_22 (by decide) ?_
        refine go_goto (tgt := 27) O dX8_howManyTexts_23 (by decide) ?_
        refine go_perm (ls' := [(0, .ref (G.2.1 0)), (2, .int p2)]) [0, 2] rfl ?_
        exact jn (P := fun q => Go X l rm_X8_howManyTexts (wC G) 3 27 [(0, .ref (G.2.1 0)), (2, .int p2)] [.int q, .int p1] S) hF J6
def F_X8_howManyTexts  (S : Sg)  : Option Int32 := bd (T_X8_howManyTexts_4 S FU (0 : Int32) (0 : Int32)) (fun x1 => some x1)
set_option maxHeartbeats 4000000 in
set_option maxRecDepth 100000 in
theorem c_X8_howManyTexts (l : Launch) (G : Gp) (hI : Gd G)  {S : Sg} {r : Int32} (hF : F_X8_howManyTexts S = some r) : Met l yX8_howManyTexts wsX8_howManyTexts rm_X8_howManyTexts (va_Pc [.ref (G.2.1 0)] (PreW (wC G) S)) (va_Qi (fun r' u => r' = r ∧ u = S) (PostW (wC G)) (AW (wC G))) 0 0 (AW (wC G)) := by
  rw [F_X8_howManyTexts] at hF
  refine met_i (cc := cX8_howManyTexts) (maxL := 3) (own := RX8) hI.1 (by decide) rfl rfl (Nat.le_of_ble_eq_true rfl) (fun X O hR => ?_)
  show Go X l rm_X8_howManyTexts (wC G) 3 0 [(0, .ref (G.2.1 0))] [] S
  refine go_iconst (v := (0 : Int32)) O dX8_howManyTexts_0 (by decide) ?_
  refine go_istore_n (ls' := [(1, .int (0 : Int32)), (0, .ref (G.2.1 0))]) O dX8_howManyTexts_1 rfl (by decide) rfl ?_
  refine go_iconst (v := (0 : Int32)) O dX8_howManyTexts_2 (by decide) ?_
  refine go_istore_n (ls' := [(2, .int (0 : Int32)), (1, .int (0 : Int32)), (0, .ref (G.2.1 0))]) O dX8_howManyTexts_3 rfl (by decide) rfl ?_
  refine go_perm (ls' := [(0, .ref (G.2.1 0)), (1, .int (0 : Int32)), (2, .int (0 : Int32))]) [2, 1, 0] rfl ?_
  obtain ⟨x1, hA11, hF⟩ := bd_s hF
  refine lt_X8_howManyTexts_4 l G hI  O _ _ _ _ hA11 ?_
  refine go_iload_n O dX8_howManyTexts_35 rfl 0 rfl ?_
  exact ret_i hF (hR _ _ dX8_howManyTexts_36)
-- X8_howManyKept
def rm_X8_howManyKept : Room := { frames := 0, cells := 0, slots := 0, locals := 0 }
theorem fl_X8_howManyKept_35 : Cond.fieldLink RX8 35 "PaperWalls" "isKept" "[Z" ∈ wsX8_howManyKept := by decide +kernel
theorem in_X8_howManyKept_X8 : ∀ x ∈ u_ws RX8 TX8 12, x ∈ wsX8_howManyKept := by decide +kernel
def T_X8_howManyKept_4  (S : Sg)  : Nat → Int32 → Int32 → Option (Int32)
  | 0, _, _ => none
  | n + 1, p1, p2 => if (3 : Int32) ≤ p2 then (some p1) else (chk (inB p2 3) (bd (if (S.1 4 p2.toNatClampNeg) = 0 then (some (0 : Int32)) else (some (1 : Int32))) (fun x3 => nm (p1 + x3) (fun x7 => T_X8_howManyKept_4 S n x7 (p2 + (1 : Int32))))))
set_option maxHeartbeats 4000000 in
set_option maxRecDepth 100000 in
theorem lt_X8_howManyKept_4 {X : XT} (l : Launch) (G : Gp) (hI : Gd G)  {S : Sg} (O : Ok X (wC G) cX8_howManyKept RX8 wsX8_howManyKept 3) : ∀ (n : Nat) (p1 : Int32) (p2 : Int32)  (q : (Int32)), T_X8_howManyKept_4 S n p1 p2  = some q → (Go X l rm_X8_howManyKept (wC G) 3 32 [(1, .int q)] [] S) → Go X l rm_X8_howManyKept (wC G) 3 4 [(0, .ref (G.2.1 0)), (1, .int p1), (2, .int p2)] [] S := by
  intro n
  induction n with
  | zero =>
    intro p1 p2  q hF
    cases hF
  | succ n ih =>
    intro p1 p2  q hF hE
    rw [T_X8_howManyKept_4] at hF
    refine go_iload_n O dX8_howManyKept_4 rfl 2 rfl ?_
    refine go_iconst (v := (3 : Int32)) O dX8_howManyKept_5 (by decide) ?_
    refine go_icmp_ge (tgt := 32) O dX8_howManyKept_6 (by decide) (fun hc8 => ?_) (fun hc8 => ?_)
    · replace hF := it_t hc8 hF
      refine go_perm (ls' := [(1, .int p1)]) [1] rfl ?_
      exact jn (P := fun q => Go X l rm_X8_howManyKept (wC G) 3 32 [(1, .int q)] [] S) hF hE
    · replace hF := it_f hc8 hF
      refine go_iload_n O dX8_howManyKept_9 rfl 1 rfl ?_
      refine go_aload_n O dX8_howManyKept_10 rfl 0 rfl ?_
      refine go_get (k := 0) (j := 5) O (lt9 hI (by decide : (0 : Nat) < 99)) (cv_pw G (S.1 0) (S.2 0)) rfl in_X8_howManyKept_X8 (by decide) fl_X8_howManyKept_35 rfl rfl dX8_howManyKept_11 ?_
      refine go_iload_n O dX8_howManyKept_14 rfl 2 rfl ?_
      obtain ⟨hb2, hF⟩ := chk_s hF
      refine go_zald (k := 4) O (lt9 hI (by decide : (4 : Nat) < 99)) (cv_kept G (S.1 4) (S.2 4)) (inB_in hb2) dX8_howManyKept_15 ?_
      obtain ⟨x3, hA5, hF⟩ := bd_s hF
      have J4 : Go X l rm_X8_howManyKept (wC G) 3 24 [(0, .ref (G.2.1 0)), (2, .int p2)] [.int x3, .int p1] S := by
        refine go_iadd O dX8_howManyKept_24 ?_
        obtain ⟨x7, ex7, hF⟩ := nm_s hF
        refine go_topi ex7 ?_
        refine go_istore_n (ls' := [(1, .int x7), (0, .ref (G.2.1 0)), (2, .int p2)]) O dX8_howManyKept_25 rfl (by decide) rfl ?_
        refine go_iinc (d := (1 : Int32)) (ls' := [(2, .int (p2 + (1 : Int32))), (1, .int x7), (0, .ref (G.2.1 0))]) O dX8_howManyKept_26 2 rfl (by decide) (by decide) rfl ?_
        refine go_goto (tgt := 4) O dX8_howManyKept_29 (by decide) ?_
        refine go_perm (ls' := [(0, .ref (G.2.1 0)), (1, .int x7), (2, .int (p2 + (1 : Int32)))]) [2, 1, 0] rfl ?_
        exact ih _ _ _ hF hE
      replace hF := hA5
      refine go_if_eq (tgt := 23) O dX8_howManyKept_16 (by decide) (fun hc6 => ?_) (fun hc6 => ?_)
      · replace hF := it_t hc6 hF
        refine go_iconst (v := (0 : Int32)) O dX8_howManyKept_23 (by decide) ?_
        refine go_perm (ls' := [(0, .ref (G.2.1 0)), (2, .int p2)]) [0, 2] rfl ?_
        exact jn (P := fun q => Go X l rm_X8_howManyKept (wC G) 3 24 [(0, .ref (G.2.1 0)), (2, .int p2)] [.int q, .int p1] S) hF J4
      · replace hF := it_f hc6 hF
        refine go_iconst (v := (1 : Int32)) O dX8_howManyKept_19 (by decide) ?_
        refine go_goto (tgt := 24) O dX8_howManyKept_20 (by decide) ?_
        refine go_perm (ls' := [(0, .ref (G.2.1 0)), (2, .int p2)]) [0, 2] rfl ?_
        exact jn (P := fun q => Go X l rm_X8_howManyKept (wC G) 3 24 [(0, .ref (G.2.1 0)), (2, .int p2)] [.int q, .int p1] S) hF J4
def F_X8_howManyKept  (S : Sg)  : Option Int32 := bd (T_X8_howManyKept_4 S FU (0 : Int32) (0 : Int32)) (fun x1 => some x1)
set_option maxHeartbeats 4000000 in
set_option maxRecDepth 100000 in
theorem c_X8_howManyKept (l : Launch) (G : Gp) (hI : Gd G)  {S : Sg} {r : Int32} (hF : F_X8_howManyKept S = some r) : Met l yX8_howManyKept wsX8_howManyKept rm_X8_howManyKept (va_Pc [.ref (G.2.1 0)] (PreW (wC G) S)) (va_Qi (fun r' u => r' = r ∧ u = S) (PostW (wC G)) (AW (wC G))) 0 0 (AW (wC G)) := by
  rw [F_X8_howManyKept] at hF
  refine met_i (cc := cX8_howManyKept) (maxL := 3) (own := RX8) hI.1 (by decide) rfl rfl (Nat.le_of_ble_eq_true rfl) (fun X O hR => ?_)
  show Go X l rm_X8_howManyKept (wC G) 3 0 [(0, .ref (G.2.1 0))] [] S
  refine go_iconst (v := (0 : Int32)) O dX8_howManyKept_0 (by decide) ?_
  refine go_istore_n (ls' := [(1, .int (0 : Int32)), (0, .ref (G.2.1 0))]) O dX8_howManyKept_1 rfl (by decide) rfl ?_
  refine go_iconst (v := (0 : Int32)) O dX8_howManyKept_2 (by decide) ?_
  refine go_istore_n (ls' := [(2, .int (0 : Int32)), (1, .int (0 : Int32)), (0, .ref (G.2.1 0))]) O dX8_howManyKept_3 rfl (by decide) rfl ?_
  refine go_perm (ls' := [(0, .ref (G.2.1 0)), (1, .int (0 : Int32)), (2, .int (0 : Int32))]) [2, 1, 0] rfl ?_
  obtain ⟨x1, hA9, hF⟩ := bd_s hF
  refine lt_X8_howManyKept_4 l G hI  O _ _ _ _ hA9 ?_
  refine go_iload_n O dX8_howManyKept_32 rfl 0 rfl ?_
  exact ret_i hF (hR _ _ dX8_howManyKept_33)
-- X8_count
def rm_X8_count : Room := { frames := 2, cells := 0, slots := 0, locals := 44 }
theorem fl_X8_count_24 : Cond.fieldLink RX8 24 "PaperWalls" "now" "LPaperWalls$Street;" ∈ wsX8_count := by decide +kernel
theorem fl_X8_count_131 : Cond.fieldLink RX8 131 "PaperWalls$Street" "people" "I" ∈ wsX8_count := by decide +kernel
theorem fl_X8_count_165 : Cond.fieldLink RX8 165 "PaperWalls$Street" "walls" "I" ∈ wsX8_count := by decide +kernel
theorem fl_X8_count_202 : Cond.fieldLink RX8 202 "PaperWalls$Street" "talks" "I" ∈ wsX8_count := by decide +kernel
theorem fl_X8_count_281 : Cond.fieldLink RX8 281 "PaperWalls$Street" "hours" "LPaperWalls$Hours;" ∈ wsX8_count := by decide +kernel
theorem fl_X8_count_293 : Cond.fieldLink RX8 293 "PaperWalls$Hours" "size" "I" ∈ wsX8_count := by decide +kernel
theorem in_X8_count_X1 : ∀ x ∈ u_ws RX1 TX1 6, x ∈ wsX8_count := by decide +kernel
theorem in_X8_count_X6 : ∀ x ∈ u_ws RX6 TX6 11, x ∈ wsX8_count := by decide +kernel
theorem in_X8_count_X8 : ∀ x ∈ u_ws RX8 TX8 12, x ∈ wsX8_count := by decide +kernel
def F_X8_count  (S : Sg) (a1 : Int32) : Option Int32 := if a1 = (0 : Int32) then (some (S.1 (sb 0) 9)) else (if a1 = (1 : Int32) then (some (S.1 (sb 0) 8)) else (if a1 = (2 : Int32) then (some (S.1 (sb 0) 10)) else (if a1 = (3 : Int32) then (some (S.1 (sb 0 + 8) 5)) else (if a1 = (4 : Int32) then (bd (F_X6_howManyOf 0 S (1 : Int32)) (fun x7 => some x7)) else (if a1 = (5 : Int32) then (bd (F_X6_howManyOf 0 S (2 : Int32)) (fun x10 => some x10)) else (if a1 = (6 : Int32) then (bd (F_X8_howManyRows S) (fun x13 => some x13)) else (if a1 = (7 : Int32) then (bd (F_X8_howManyTexts S) (fun x16 => some x16)) else (if a1 = (8 : Int32) then (bd (F_X8_howManyKept S) (fun x19 => some x19)) else (some (-1 : Int32))))))))))
set_option maxHeartbeats 4000000 in
set_option maxRecDepth 100000 in
theorem c_X8_count (l : Launch) (G : Gp) (hI : Gd G)  {S : Sg} {a1 : Int32} {r : Int32} (hF : F_X8_count S a1 = some r) : Met l yX8_count wsX8_count rm_X8_count (va_Pc [.ref (G.2.1 0), .int a1] (PreW (wC G) S)) (va_Qi (fun r' u => r' = r ∧ u = S) (PostW (wC G)) (AW (wC G))) 0 0 (AW (wC G)) := by
  rw [F_X8_count] at hF
  refine met_i (cc := cX8_count) (maxL := 2) (own := RX8) hI.1 (by decide) rfl rfl (Nat.le_of_ble_eq_true rfl) (fun X O hR => ?_)
  show Go X l rm_X8_count (wC G) 2 0 [(0, .ref (G.2.1 0)), (1, .int a1)] [] S
  refine go_iload_n O dX8_count_0 rfl 1 rfl ?_
  by_cases hs1 : a1 = (0 : Int32)
  · replace hF := it_t hs1 hF
    refine go_tblIn (tgt := 52) (off := 51) O dX8_count_1 (by rw [hs1]; decide) (by rw [hs1]; decide) (by rw [hs1]; rfl) (by decide) ?_
    refine go_aload_n O dX8_count_52 rfl 0 rfl ?_
    refine go_get (k := 0) (j := 2) O (lt9 hI (by decide : (0 : Nat) < 99)) (cv_pw G (S.1 0) (S.2 0)) rfl in_X8_count_X8 (by decide) fl_X8_count_24 rfl rfl dX8_count_53 ?_
    refine go_get (k := (sb 0)) (j := 9) O (lt9 hI (sb_lt0 (by decide : (0 : Nat) < 5))) (cv_st G (by decide : (0 : Nat) < 5) (S.1 (sb 0)) (S.2 (sb 0))) rfl in_X8_count_X6 (by decide) fl_X8_count_131 rfl rfl dX8_count_56 ?_
    exact ret_i hF (hR _ _ dX8_count_59)
  replace hF := it_f hs1 hF
  by_cases hs2 : a1 = (1 : Int32)
  · replace hF := it_t hs2 hF
    refine go_tblIn (tgt := 60) (off := 59) O dX8_count_1 (by rw [hs2]; decide) (by rw [hs2]; decide) (by rw [hs2]; rfl) (by decide) ?_
    refine go_aload_n O dX8_count_60 rfl 0 rfl ?_
    refine go_get (k := 0) (j := 2) O (lt9 hI (by decide : (0 : Nat) < 99)) (cv_pw G (S.1 0) (S.2 0)) rfl in_X8_count_X8 (by decide) fl_X8_count_24 rfl rfl dX8_count_61 ?_
    refine go_get (k := (sb 0)) (j := 8) O (lt9 hI (sb_lt0 (by decide : (0 : Nat) < 5))) (cv_st G (by decide : (0 : Nat) < 5) (S.1 (sb 0)) (S.2 (sb 0))) rfl in_X8_count_X6 (by decide) fl_X8_count_165 rfl rfl dX8_count_64 ?_
    exact ret_i hF (hR _ _ dX8_count_67)
  replace hF := it_f hs2 hF
  by_cases hs3 : a1 = (2 : Int32)
  · replace hF := it_t hs3 hF
    refine go_tblIn (tgt := 68) (off := 67) O dX8_count_1 (by rw [hs3]; decide) (by rw [hs3]; decide) (by rw [hs3]; rfl) (by decide) ?_
    refine go_aload_n O dX8_count_68 rfl 0 rfl ?_
    refine go_get (k := 0) (j := 2) O (lt9 hI (by decide : (0 : Nat) < 99)) (cv_pw G (S.1 0) (S.2 0)) rfl in_X8_count_X8 (by decide) fl_X8_count_24 rfl rfl dX8_count_69 ?_
    refine go_get (k := (sb 0)) (j := 10) O (lt9 hI (sb_lt0 (by decide : (0 : Nat) < 5))) (cv_st G (by decide : (0 : Nat) < 5) (S.1 (sb 0)) (S.2 (sb 0))) rfl in_X8_count_X6 (by decide) fl_X8_count_202 rfl rfl dX8_count_72 ?_
    exact ret_i hF (hR _ _ dX8_count_75)
  replace hF := it_f hs3 hF
  by_cases hs4 : a1 = (3 : Int32)
  · replace hF := it_t hs4 hF
    refine go_tblIn (tgt := 76) (off := 75) O dX8_count_1 (by rw [hs4]; decide) (by rw [hs4]; decide) (by rw [hs4]; rfl) (by decide) ?_
    refine go_aload_n O dX8_count_76 rfl 0 rfl ?_
    refine go_get (k := 0) (j := 2) O (lt9 hI (by decide : (0 : Nat) < 99)) (cv_pw G (S.1 0) (S.2 0)) rfl in_X8_count_X8 (by decide) fl_X8_count_24 rfl rfl dX8_count_77 ?_
    refine go_get (k := (sb 0)) (j := 7) O (lt9 hI (sb_lt0 (by decide : (0 : Nat) < 5))) (cv_st G (by decide : (0 : Nat) < 5) (S.1 (sb 0)) (S.2 (sb 0))) rfl in_X8_count_X6 (by decide) fl_X8_count_281 rfl rfl dX8_count_80 ?_
    refine go_get (k := (sb 0 + 8)) (j := 5) O (lt9 hI (sb_lt (by decide : (0 : Nat) < 5) (by decide : 8 < 13))) (cv_hrs G (by decide : (0 : Nat) < 5) (S.1 (sb 0 + 8)) (S.2 (sb 0 + 8))) rfl in_X8_count_X1 (by decide) fl_X8_count_293 rfl rfl dX8_count_83 ?_
    exact ret_i hF (hR _ _ dX8_count_86)
  replace hF := it_f hs4 hF
  by_cases hs5 : a1 = (4 : Int32)
  · replace hF := it_t hs5 hF
    refine go_tblIn (tgt := 87) (off := 86) O dX8_count_1 (by rw [hs5]; decide) (by rw [hs5]; decide) (by rw [hs5]; rfl) (by decide) ?_
    refine go_aload_n O dX8_count_87 rfl 0 rfl ?_
    refine go_get (k := 0) (j := 2) O (lt9 hI (by decide : (0 : Nat) < 99)) (cv_pw G (S.1 0) (S.2 0)) rfl in_X8_count_X8 (by decide) fl_X8_count_24 rfl rfl dX8_count_88 ?_
    refine go_iconst (v := (1 : Int32)) O dX8_count_91 (by decide) ?_
    obtain ⟨x7, hA6, hF⟩ := bd_s hF
    refine go_callVi (As := [.int (1 : Int32)]) (rest := []) (b := (sb 0)) O (c_X6_howManyOf l G hI (by decide : (0 : Nat) < 5) hA6) (fun s args hts => cwV 1 hts gX8_count_X6_howManyOf rfl rfl rfl (by decide +kernel) ⟨Nat.le_of_ble_eq_true rfl, Nat.le_of_ble_eq_true rfl⟩) (lt9 hI (sb_lt0 (by decide : (0 : Nat) < 5))) (cv_st G (by decide : (0 : Nat) < 5) (S.1 (sb 0)) (S.2 (sb 0))) rfl rfl rfl rfl (Nat.le_of_ble_eq_true rfl) dX8_count_92 ?_
    exact ret_i hF (hR _ _ dX8_count_95)
  replace hF := it_f hs5 hF
  by_cases hs8 : a1 = (5 : Int32)
  · replace hF := it_t hs8 hF
    refine go_tblIn (tgt := 96) (off := 95) O dX8_count_1 (by rw [hs8]; decide) (by rw [hs8]; decide) (by rw [hs8]; rfl) (by decide) ?_
    refine go_aload_n O dX8_count_96 rfl 0 rfl ?_
    refine go_get (k := 0) (j := 2) O (lt9 hI (by decide : (0 : Nat) < 99)) (cv_pw G (S.1 0) (S.2 0)) rfl in_X8_count_X8 (by decide) fl_X8_count_24 rfl rfl dX8_count_97 ?_
    refine go_iconst (v := (2 : Int32)) O dX8_count_100 (by decide) ?_
    obtain ⟨x10, hA9, hF⟩ := bd_s hF
    refine go_callVi (As := [.int (2 : Int32)]) (rest := []) (b := (sb 0)) O (c_X6_howManyOf l G hI (by decide : (0 : Nat) < 5) hA9) (fun s args hts => cwV 1 hts gX8_count_X6_howManyOf rfl rfl rfl (by decide +kernel) ⟨Nat.le_of_ble_eq_true rfl, Nat.le_of_ble_eq_true rfl⟩) (lt9 hI (sb_lt0 (by decide : (0 : Nat) < 5))) (cv_st G (by decide : (0 : Nat) < 5) (S.1 (sb 0)) (S.2 (sb 0))) rfl rfl rfl rfl (Nat.le_of_ble_eq_true rfl) dX8_count_101 ?_
    exact ret_i hF (hR _ _ dX8_count_104)
  replace hF := it_f hs8 hF
  by_cases hs11 : a1 = (6 : Int32)
  · replace hF := it_t hs11 hF
    refine go_tblIn (tgt := 105) (off := 104) O dX8_count_1 (by rw [hs11]; decide) (by rw [hs11]; decide) (by rw [hs11]; rfl) (by decide) ?_
    refine go_aload_n O dX8_count_105 rfl 0 rfl ?_
    obtain ⟨x13, hA12, hF⟩ := bd_s hF
    refine go_callVi (As := []) (rest := []) (b := 0) O (c_X8_howManyRows l G hI hA12) (fun s args hts => cwV 0 hts gX8_count_X8_howManyRows rfl rfl rfl (by decide +kernel) ⟨Nat.le_of_ble_eq_true rfl, Nat.le_of_ble_eq_true rfl⟩) (lt9 hI (by decide : (0 : Nat) < 99)) (cv_pw G (S.1 0) (S.2 0)) rfl rfl rfl rfl (Nat.le_of_ble_eq_true rfl) dX8_count_106 ?_
    exact ret_i hF (hR _ _ dX8_count_109)
  replace hF := it_f hs11 hF
  by_cases hs14 : a1 = (7 : Int32)
  · replace hF := it_t hs14 hF
    refine go_tblIn (tgt := 110) (off := 109) O dX8_count_1 (by rw [hs14]; decide) (by rw [hs14]; decide) (by rw [hs14]; rfl) (by decide) ?_
    refine go_aload_n O dX8_count_110 rfl 0 rfl ?_
    obtain ⟨x16, hA15, hF⟩ := bd_s hF
    refine go_callVi (As := []) (rest := []) (b := 0) O (c_X8_howManyTexts l G hI hA15) (fun s args hts => cwV 0 hts gX8_count_X8_howManyTexts rfl rfl rfl (by decide +kernel) ⟨Nat.le_of_ble_eq_true rfl, Nat.le_of_ble_eq_true rfl⟩) (lt9 hI (by decide : (0 : Nat) < 99)) (cv_pw G (S.1 0) (S.2 0)) rfl rfl rfl rfl (Nat.le_of_ble_eq_true rfl) dX8_count_111 ?_
    exact ret_i hF (hR _ _ dX8_count_114)
  replace hF := it_f hs14 hF
  by_cases hs17 : a1 = (8 : Int32)
  · replace hF := it_t hs17 hF
    refine go_tblIn (tgt := 115) (off := 114) O dX8_count_1 (by rw [hs17]; decide) (by rw [hs17]; decide) (by rw [hs17]; rfl) (by decide) ?_
    refine go_aload_n O dX8_count_115 rfl 0 rfl ?_
    obtain ⟨x19, hA18, hF⟩ := bd_s hF
    refine go_callVi (As := []) (rest := []) (b := 0) O (c_X8_howManyKept l G hI hA18) (fun s args hts => cwV 0 hts gX8_count_X8_howManyKept rfl rfl rfl (by decide +kernel) ⟨Nat.le_of_ble_eq_true rfl, Nat.le_of_ble_eq_true rfl⟩) (lt9 hI (by decide : (0 : Nat) < 99)) (cv_pw G (S.1 0) (S.2 0)) rfl rfl rfl rfl (Nat.le_of_ble_eq_true rfl) dX8_count_116 ?_
    exact ret_i hF (hR _ _ dX8_count_119)
  replace hF := it_f hs17 hF
  refine go_tblOut (tgt := 120) O dX8_count_1 (by have t0 := ne_toInt hs1 (k := 0) (by decide); have t1 := ne_toInt hs2 (k := 1) (by decide); have t2 := ne_toInt hs3 (k := 2) (by decide); have t3 := ne_toInt hs4 (k := 3) (by decide); have t4 := ne_toInt hs5 (k := 4) (by decide); have t5 := ne_toInt hs8 (k := 5) (by decide); have t6 := ne_toInt hs11 (k := 6) (by decide); have t7 := ne_toInt hs14 (k := 7) (by decide); have t8 := ne_toInt hs17 (k := 8) (by decide); omega) (by decide) ?_
  refine go_iconst (v := (-1 : Int32)) O dX8_count_120 (by decide) ?_
  exact ret_i hF (hR _ _ dX8_count_121)
