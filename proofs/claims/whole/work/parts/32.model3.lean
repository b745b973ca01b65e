-- X9_safe
def rm_X9_safe : Room := { frames := 5, cells := 0, slots := 0, locals := 115 }
theorem fl_X9_safe_31 : Cond.fieldLink RX9 31 "PaperWallsModel" "talks" "[I" ∈ wsX9_safe := by decide +kernel
theorem in_X9_safe_X9 : ∀ x ∈ u_ws RX9 TX9 36, x ∈ wsX9_safe := by decide +kernel
def F_X9_safe  (S : Sg) (a1 : Int32) (a2 : Int32) : Option (Int32 × Sg) := if a1 < 0 then (some ((-1 : Int32), S)) else (bd (F_X9_isSet S a2) (fun x2 => if x2 = 0 then (some ((-1 : Int32), S)) else (bd (F_X9_lacksTalk S a1) (fun (x4, S5) => if 0 ≤ x4 then (bd (F_X9_isSafe S5 a1 a2) (fun x7 => bd (if x7 = 0 then (some (0 : Int32)) else (some (1 : Int32))) (fun x8 => chk (inB ((3 : Int32) * a1) 24) (bd (F_X9_heardBy S5 (S5.1 8 ((3 : Int32) * a1).toNatClampNeg) a2) (fun x14 => chk (inB (((3 : Int32) * a1) + (2 : Int32)) 24) (bd (F_X9_say S5 x8 (x14 &&& (S5.1 8 (((3 : Int32) * a1) + (2 : Int32)).toNatClampNeg))) (fun (x17, S18) => some (x17, S18)))))))) else (some (x4, S5))))))
set_option maxHeartbeats 4000000 in
set_option maxRecDepth 100000 in
theorem c_X9_safe (l : Launch) (G : Gp) (hI : Ij (wM G))  {S : Sg} {a1 : Int32} {a2 : Int32} {r : Int32} {S1 : Sg} (hF : F_X9_safe S a1 a2 = some (r, S1)) : Met l yX9_safe wsX9_safe rm_X9_safe (va_Pc [.ref (G.2.1 0), .int a1, .int a2] (PreW (wM G) S)) (va_Qi (fun r' u => r' = r ∧ u = S1) (PostW (wM G)) (AW (wM G))) 0 0 (AW (wM G)) := by
  rw [F_X9_safe] at hF
  refine met_i (cc := cX9_safe) (maxL := 4) (own := RX9) hI (by decide) rfl rfl (Nat.le_of_ble_eq_true rfl) (fun X O hR => ?_)
  show Go X l rm_X9_safe (wM G) 4 0 [(0, .ref (G.2.1 0)), (1, .int a1), (2, .int a2)] [] S
  refine go_iload_n O dX9_safe_0 rfl 1 rfl ?_
  refine go_if_lt (tgt := 12) O dX9_safe_1 (by decide) (fun hc21 => ?_) (fun hc21 => ?_)
  · replace hF := it_t hc21 hF
    refine go_iconst (v := (-1 : Int32)) O dX9_safe_12 (by decide) ?_
    exact ret_wi hF (hR _ _ dX9_safe_13)
  · replace hF := it_f hc21 hF
    refine go_aload_n O dX9_safe_4 rfl 0 rfl ?_
    refine go_iload_n O dX9_safe_5 rfl 2 rfl ?_
    obtain ⟨x2, hA1, hF⟩ := bd_s hF
    refine go_callVi (As := [.int a2]) (rest := []) (b := 0) O (c_X9_isSet l G hI hA1) (fun s args hts => cwV 1 hts gX9_safe_X9_isSet rfl rfl rfl (by decide +kernel) ⟨Nat.le_of_ble_eq_true rfl, Nat.le_of_ble_eq_true rfl⟩) (by decide : (0 : Nat) < 27) (cm_obj G (S.1 0) (S.2 0)) rfl rfl rfl rfl (Nat.le_of_ble_eq_true rfl) dX9_safe_6 ?_
    refine go_if_ne (tgt := 14) O dX9_safe_9 (by decide) (fun hc20 => ?_) (fun hc20 => ?_)
    · replace hF := it_f hc20 hF
      refine go_aload_n O dX9_safe_14 rfl 0 rfl ?_
      refine go_iload_n O dX9_safe_15 rfl 1 rfl ?_
      obtain ⟨⟨x4, S5⟩, hA3, hF⟩ := bd_s hF
      refine go_callVi (As := [.int a1]) (rest := []) (b := 0) O (c_X9_lacksTalk l G hI hA3) (fun s args hts => cwV 1 hts gX9_safe_X9_lacksTalk rfl rfl rfl (by decide +kernel) ⟨Nat.le_of_ble_eq_true rfl, Nat.le_of_ble_eq_true rfl⟩) (by decide : (0 : Nat) < 27) (cm_obj G (S.1 0) (S.2 0)) rfl rfl rfl rfl (Nat.le_of_ble_eq_true rfl) dX9_safe_16 ?_
      refine go_istore_n (ls' := [(3, .int x4), (0, .ref (G.2.1 0)), (1, .int a1), (2, .int a2)]) O dX9_safe_19 rfl (by decide) rfl ?_
      refine go_iload_n O dX9_safe_20 rfl 0 rfl ?_
      refine go_if_ge (tgt := 28) O dX9_safe_21 (by decide) (fun hc19 => ?_) (fun hc19 => ?_)
      · replace hF := it_t hc19 hF
        refine go_aload_n O dX9_safe_28 rfl 1 rfl ?_
        refine go_aload_n O dX9_safe_29 rfl 1 rfl ?_
        refine go_iload_n O dX9_safe_30 rfl 2 rfl ?_
        refine go_iload_n O dX9_safe_31 rfl 3 rfl ?_
        obtain ⟨x7, hA6, hF⟩ := bd_s hF
        refine go_callVi (As := [.int a1, .int a2]) (rest := [.ref (G.2.1 0)]) (b := 0) O (c_X9_isSafe l G hI hA6) (fun s args hts => cwV 2 hts gX9_safe_X9_isSafe rfl rfl rfl (by decide +kernel) ⟨Nat.le_of_ble_eq_true rfl, Nat.le_of_ble_eq_true rfl⟩) (by decide : (0 : Nat) < 27) (cm_obj G (S5.1 0) (S5.2 0)) rfl rfl rfl rfl (Nat.le_of_ble_eq_true rfl) dX9_safe_32 ?_
        obtain ⟨x8, hA10, hF⟩ := bd_s hF
        have J9 : Go X l rm_X9_safe (wM G) 4 43 [(0, .ref (G.2.1 0)), (1, .int a1), (2, .int a2)] [.int x8, .ref (G.2.1 0)] S5 := by
          refine go_aload_n O dX9_safe_43 rfl 0 rfl ?_
          refine go_aload_n O dX9_safe_44 rfl 0 rfl ?_
          refine go_get (k := 0) (j := 9) O (by decide : (0 : Nat) < 27) (cm_obj G (S5.1 0) (S5.2 0)) rfl in_X9_safe_X9 (by decide) fl_X9_safe_31 rfl rfl dX9_safe_45 ?_
          refine go_iconst (v := (3 : Int32)) O dX9_safe_48 (by decide) ?_
          refine go_iload_n O dX9_safe_49 rfl 1 rfl ?_
          refine go_imul O dX9_safe_50 ?_
          obtain ⟨hb12, hF⟩ := chk_s hF
          refine go_iald (k := 8) O (by decide : (8 : Nat) < 27) (cm_8 G (S5.1 8) (S5.2 8)) (inB_in hb12) dX9_safe_51 ?_
          refine go_iload_n O dX9_safe_52 rfl 2 rfl ?_
          obtain ⟨x14, hA13, hF⟩ := bd_s hF
          refine go_callVi (As := [.int (S5.1 8 ((3 : Int32) * a1).toNatClampNeg), .int a2]) (rest := [.int x8, .ref (G.2.1 0)]) (b := 0) O (c_X9_heardBy l G hI hA13) (fun s args hts => cwV 2 hts gX9_safe_X9_heardBy rfl rfl rfl (by decide +kernel) ⟨Nat.le_of_ble_eq_true rfl, Nat.le_of_ble_eq_true rfl⟩) (by decide : (0 : Nat) < 27) (cm_obj G (S5.1 0) (S5.2 0)) rfl rfl rfl rfl (Nat.le_of_ble_eq_true rfl) dX9_safe_53 ?_
          refine go_aload_n O dX9_safe_56 rfl 0 rfl ?_
          refine go_get (k := 0) (j := 9) O (by decide : (0 : Nat) < 27) (cm_obj G (S5.1 0) (S5.2 0)) rfl in_X9_safe_X9 (by decide) fl_X9_safe_31 rfl rfl dX9_safe_57 ?_
          refine go_iconst (v := (3 : Int32)) O dX9_safe_60 (by decide) ?_
          refine go_iload_n O dX9_safe_61 rfl 1 rfl ?_
          refine go_imul O dX9_safe_62 ?_
          refine go_iconst (v := (2 : Int32)) O dX9_safe_63 (by decide) ?_
          refine go_iadd O dX9_safe_64 ?_
          obtain ⟨hb15, hF⟩ := chk_s hF
          refine go_iald (k := 8) O (by decide : (8 : Nat) < 27) (cm_8 G (S5.1 8) (S5.2 8)) (inB_in hb15) dX9_safe_65 ?_
          refine go_iand O dX9_safe_66 ?_
          obtain ⟨⟨x17, S18⟩, hA16, hF⟩ := bd_s hF
          refine go_callVi (As := [.int x8, .int (x14 &&& (S5.1 8 (((3 : Int32) * a1) + (2 : Int32)).toNatClampNeg))]) (rest := []) (b := 0) O (c_X9_say l G hI hA16) (fun s args hts => cwV 2 hts gX9_safe_X9_say rfl rfl rfl (by decide +kernel) ⟨Nat.le_of_ble_eq_true rfl, Nat.le_of_ble_eq_true rfl⟩) (by decide : (0 : Nat) < 27) (cm_obj G (S5.1 0) (S5.2 0)) rfl rfl rfl rfl (Nat.le_of_ble_eq_true rfl) dX9_safe_67 ?_
          exact ret_wi hF (hR _ _ dX9_safe_70)
        replace hF := hA10
        refine go_if_eq (tgt := 42) O dX9_safe_35 (by decide) (fun hc11 => ?_) (fun hc11 => ?_)
        · replace hF := it_t hc11 hF
          refine go_iconst (v := (0 : Int32)) O dX9_safe_42 (by decide) ?_
          refine go_perm (ls' := [(0, .ref (G.2.1 0)), (1, .int a1), (2, .int a2)]) [1, 2, 3] rfl ?_
          exact jn (P := fun q => Go X l rm_X9_safe (wM G) 4 43 [(0, .ref (G.2.1 0)), (1, .int a1), (2, .int a2)] [.int q, .ref (G.2.1 0)] S5) hF J9
        · replace hF := it_f hc11 hF
          refine go_iconst (v := (1 : Int32)) O dX9_safe_38 (by decide) ?_
          refine go_goto (tgt := 43) O dX9_safe_39 (by decide) ?_
          refine go_perm (ls' := [(0, .ref (G.2.1 0)), (1, .int a1), (2, .int a2)]) [1, 2, 3] rfl ?_
          exact jn (P := fun q => Go X l rm_X9_safe (wM G) 4 43 [(0, .ref (G.2.1 0)), (1, .int a1), (2, .int a2)] [.int q, .ref (G.2.1 0)] S5) hF J9
      · replace hF := it_f hc19 hF
        refine go_iload_n O dX9_safe_24 rfl 0 rfl ?_
        refine go_goto (tgt := 70) O dX9_safe_25 (by decide) ?_
        exact ret_wi hF (hR _ _ dX9_safe_70)
    · replace hF := it_t hc20 hF
      refine go_iconst (v := (-1 : Int32)) O dX9_safe_12 (by decide) ?_
      exact ret_wi hF (hR _ _ dX9_safe_13)
-- X9_cover
def rm_X9_cover : Room := { frames := 5, cells := 0, slots := 0, locals := 115 }
theorem fl_X9_cover_153 : Cond.fieldLink RX9 153 "PaperWallsModel" "people" "I" ∈ wsX9_cover := by decide +kernel
theorem in_X9_cover_X9 : ∀ x ∈ u_ws RX9 TX9 36, x ∈ wsX9_cover := by decide +kernel
def T_X9_cover_18  (S : Sg) (p1 : Int32) : Nat → Int32 → Int32 → Option (Int32)
  | 0, _, _ => none
  | n + 1, p3, p4 => if ((1 : Int32) <<< ((S.1 0 7) &&& 31)) ≤ p4 then (some p3) else (bd (if p3 = (-9 : Int32) then (some (1 : Int32)) else (bd (F_X9_ones S p4) (fun x9 => bd (F_X9_ones S p3) (fun x11 => if x11 ≤ x9 then (some (0 : Int32)) else (some (1 : Int32)))))) (fun x5 => bd (if x5 = 0 then (some p3) else (bd (F_X9_isSafe S p1 p4) (fun x18 => if x18 = 0 then (some p3) else (some p4)))) (fun x14 => T_X9_cover_18 S p1 n x14 (p4 + (1 : Int32)))))
set_option maxHeartbeats 4000000 in
set_option maxRecDepth 100000 in
theorem lt_X9_cover_18 {X : XT} (l : Launch) (G : Gp) (hI : Ij (wM G))  {S : Sg} {p1 : Int32} (O : Ok X (wM G) cX9_cover RX9 wsX9_cover 6) : ∀ (n : Nat) (p3 : Int32) (p4 : Int32)  (q : (Int32)), T_X9_cover_18 S p1 n p3 p4  = some q → (Go X l rm_X9_cover (wM G) 6 82 [(0, .ref (G.2.1 0)), (3, .int q)] [] S) → Go X l rm_X9_cover (wM G) 6 18 [(0, .ref (G.2.1 0)), (1, .int p1), (3, .int p3), (4, .int p4)] [] S := by
  intro n
  induction n with
  | zero =>
    intro p3 p4  q hF
    cases hF
  | succ n ih =>
    intro p3 p4  q hF hE
    rw [T_X9_cover_18] at hF
    refine go_iload O dX9_cover_18 3 rfl ?_
    refine go_iconst (v := (1 : Int32)) O dX9_cover_20 (by decide) ?_
    refine go_aload_n O dX9_cover_21 rfl 0 rfl ?_
    refine go_get (k := 0) (j := 7) O (by decide : (0 : Nat) < 27) (cm_obj G (S.1 0) (S.2 0)) rfl in_X9_cover_X9 (by decide) fl_X9_cover_153 rfl rfl dX9_cover_22 ?_
    refine go_ishl O dX9_cover_25 ?_
    refine go_icmp_ge (tgt := 82) O dX9_cover_26 (by decide) (fun hc21 => ?_) (fun hc21 => ?_)
    · replace hF := it_t hc21 hF
      refine go_perm (ls' := [(0, .ref (G.2.1 0)), (3, .int p3)]) [0, 2] rfl ?_
      exact jn (P := fun q => Go X l rm_X9_cover (wM G) 6 82 [(0, .ref (G.2.1 0)), (3, .int q)] [] S) hF hE
    · replace hF := it_f hc21 hF
      refine go_iload_n O dX9_cover_29 rfl 2 rfl ?_
      refine go_bipush (v := (-9 : Int32)) O dX9_cover_30 (by decide) ?_
      obtain ⟨x5, hA7, hF⟩ := bd_s hF
      have J6 : Go X l rm_X9_cover (wM G) 6 52 [(0, .ref (G.2.1 0)), (1, .int p1), (3, .int p3), (4, .int p4)] [.int x5] S := by
        refine go_istore (ls' := [(5, .int x5), (0, .ref (G.2.1 0)), (1, .int p1), (3, .int p3), (4, .int p4)]) O dX9_cover_52 (by decide) rfl ?_
        refine go_iload O dX9_cover_54 0 rfl ?_
        obtain ⟨x14, hA16, hF⟩ := bd_s hF
        have J15 : Go X l rm_X9_cover (wM G) 6 75 [(0, .ref (G.2.1 0)), (1, .int p1), (4, .int p4)] [.int x14] S := by
          refine go_istore_n (ls' := [(3, .int x14), (0, .ref (G.2.1 0)), (1, .int p1), (4, .int p4)]) O dX9_cover_75 rfl (by decide) rfl ?_
          refine go_iinc (d := (1 : Int32)) (ls' := [(4, .int (p4 + (1 : Int32))), (3, .int x14), (0, .ref (G.2.1 0)), (1, .int p1)]) O dX9_cover_76 3 rfl (by decide) (by decide) rfl ?_
          refine go_goto (tgt := 18) O dX9_cover_79 (by decide) ?_
          refine go_perm (ls' := [(0, .ref (G.2.1 0)), (1, .int p1), (3, .int x14), (4, .int (p4 + (1 : Int32)))]) [2, 3, 1, 0] rfl ?_
          exact ih _ _ _ hF hE
        replace hF := hA16
        refine go_if_eq (tgt := 74) O dX9_cover_56 (by decide) (fun hc20 => ?_) (fun hc20 => ?_)
        · replace hF := it_t hc20 hF
          refine go_iload_n O dX9_cover_74 rfl 3 rfl ?_
          refine go_perm (ls' := [(0, .ref (G.2.1 0)), (1, .int p1), (4, .int p4)]) [1, 2, 4] rfl ?_
          exact jn (P := fun q => Go X l rm_X9_cover (wM G) 6 75 [(0, .ref (G.2.1 0)), (1, .int p1), (4, .int p4)] [.int q] S) hF J15
        · replace hF := it_f hc20 hF
          refine go_aload_n O dX9_cover_59 rfl 1 rfl ?_
          refine go_iload_n O dX9_cover_60 rfl 2 rfl ?_
          refine go_iload O dX9_cover_61 4 rfl ?_
          obtain ⟨x18, hA17, hF⟩ := bd_s hF
          refine go_callVi (As := [.int p1, .int p4]) (rest := []) (b := 0) O (c_X9_isSafe l G hI hA17) (fun s args hts => cwV 2 hts gX9_cover_X9_isSafe rfl rfl rfl (by decide +kernel) ⟨Nat.le_of_ble_eq_true rfl, Nat.le_of_ble_eq_true rfl⟩) (by decide : (0 : Nat) < 27) (cm_obj G (S.1 0) (S.2 0)) rfl rfl rfl rfl (Nat.le_of_ble_eq_true rfl) dX9_cover_63 ?_
          refine go_if_eq (tgt := 74) O dX9_cover_66 (by decide) (fun hc19 => ?_) (fun hc19 => ?_)
          · replace hF := it_t hc19 hF
            refine go_iload_n O dX9_cover_74 rfl 3 rfl ?_
            refine go_perm (ls' := [(0, .ref (G.2.1 0)), (1, .int p1), (4, .int p4)]) [1, 2, 4] rfl ?_
            exact jn (P := fun q => Go X l rm_X9_cover (wM G) 6 75 [(0, .ref (G.2.1 0)), (1, .int p1), (4, .int p4)] [.int q] S) hF J15
          · replace hF := it_f hc19 hF
            refine go_iload O dX9_cover_69 4 rfl ?_
            refine go_goto (tgt := 75) O dX9_cover_71 (by decide) ?_
            refine go_perm (ls' := [(0, .ref (G.2.1 0)), (1, .int p1), (4, .int p4)]) [1, 2, 4] rfl ?_
            exact jn (P := fun q => Go X l rm_X9_cover (wM G) 6 75 [(0, .ref (G.2.1 0)), (1, .int p1), (4, .int p4)] [.int q] S) hF J15
      replace hF := hA7
      refine go_icmp_eq (tgt := 47) O dX9_cover_32 (by decide) (fun hc13 => ?_) (fun hc13 => ?_)
      · replace hF := it_t hc13 hF
        refine go_iconst (v := (1 : Int32)) O dX9_cover_47 (by decide) ?_
        refine go_goto (tgt := 52) O dX9_cover_48 (by decide) ?_
        exact jn (P := fun q => Go X l rm_X9_cover (wM G) 6 52 [(0, .ref (G.2.1 0)), (1, .int p1), (3, .int p3), (4, .int p4)] [.int q] S) hF J6
      · replace hF := it_f hc13 hF
        refine go_iload O dX9_cover_35 3 rfl ?_
        obtain ⟨x9, hA8, hF⟩ := bd_s hF
        refine go_callSi (As := [.int p4]) (rest := []) O (c_X9_ones l G hI hA8) (fun s args hts => va_cwS 1 hts gX9_cover_X9_ones rfl rfl rfl (by decide +kernel) ⟨Nat.le_of_ble_eq_true rfl, Nat.le_of_ble_eq_true rfl⟩) rfl rfl (Nat.le_of_ble_eq_true rfl) dX9_cover_37 ?_
        refine go_iload_n O dX9_cover_40 rfl 2 rfl ?_
        obtain ⟨x11, hA10, hF⟩ := bd_s hF
        refine go_callSi (As := [.int p3]) (rest := [.int x9]) O (c_X9_ones l G hI hA10) (fun s args hts => va_cwS 1 hts gX9_cover_X9_ones rfl rfl rfl (by decide +kernel) ⟨Nat.le_of_ble_eq_true rfl, Nat.le_of_ble_eq_true rfl⟩) rfl rfl (Nat.le_of_ble_eq_true rfl) dX9_cover_41 ?_
        refine go_icmp_ge (tgt := 51) O dX9_cover_44 (by decide) (fun hc12 => ?_) (fun hc12 => ?_)
        · replace hF := it_t hc12 hF
          refine go_iconst (v := (0 : Int32)) O dX9_cover_51 (by decide) ?_
          exact jn (P := fun q => Go X l rm_X9_cover (wM G) 6 52 [(0, .ref (G.2.1 0)), (1, .int p1), (3, .int p3), (4, .int p4)] [.int q] S) hF J6
        · replace hF := it_f hc12 hF
          refine go_iconst (v := (1 : Int32)) O dX9_cover_47 (by decide) ?_
          refine go_goto (tgt := 52) O dX9_cover_48 (by decide) ?_
          exact jn (P := fun q => Go X l rm_X9_cover (wM G) 6 52 [(0, .ref (G.2.1 0)), (1, .int p1), (3, .int p3), (4, .int p4)] [.int q] S) hF J6
def F_X9_cover  (S : Sg) (a1 : Int32) : Option (Int32 × Sg) := bd (F_X9_lacksTalk S a1) (fun (x2, S3) => if 0 ≤ x2 then (bd (T_X9_cover_18 S3 a1 FU (-9 : Int32) (0 : Int32)) (fun x4 => if x4 = (-9 : Int32) then (some ((-9 : Int32), S3)) else (bd (F_X9_ones S3 x4) (fun x24 => bd (F_X9_say S3 x24 x4) (fun (x26, S27) => some (x26, S27)))))) else (some (x2, S3)))
set_option maxHeartbeats 4000000 in
set_option maxRecDepth 100000 in
theorem c_X9_cover (l : Launch) (G : Gp) (hI : Ij (wM G))  {S : Sg} {a1 : Int32} {r : Int32} {S1 : Sg} (hF : F_X9_cover S a1 = some (r, S1)) : Met l yX9_cover wsX9_cover rm_X9_cover (va_Pc [.ref (G.2.1 0), .int a1] (PreW (wM G) S)) (va_Qi (fun r' u => r' = r ∧ u = S1) (PostW (wM G)) (AW (wM G))) 0 0 (AW (wM G)) := by
  rw [F_X9_cover] at hF
  refine met_i (cc := cX9_cover) (maxL := 6) (own := RX9) hI (by decide) rfl rfl (Nat.le_of_ble_eq_true rfl) (fun X O hR => ?_)
  show Go X l rm_X9_cover (wM G) 6 0 [(0, .ref (G.2.1 0)), (1, .int a1)] [] S
  refine go_aload_n O dX9_cover_0 rfl 0 rfl ?_
  refine go_iload_n O dX9_cover_1 rfl 1 rfl ?_
  obtain ⟨⟨x2, S3⟩, hA1, hF⟩ := bd_s hF
  refine go_callVi (As := [.int a1]) (rest := []) (b := 0) O (c_X9_lacksTalk l G hI hA1) (fun s args hts => cwV 1 hts gX9_cover_X9_lacksTalk rfl rfl rfl (by decide +kernel) ⟨Nat.le_of_ble_eq_true rfl, Nat.le_of_ble_eq_true rfl⟩) (by decide : (0 : Nat) < 27) (cm_obj G (S.1 0) (S.2 0)) rfl rfl rfl rfl (Nat.le_of_ble_eq_true rfl) dX9_cover_2 ?_
  refine go_istore_n (ls' := [(2, .int x2), (0, .ref (G.2.1 0)), (1, .int a1)]) O dX9_cover_5 rfl (by decide) rfl ?_
  refine go_iload_n O dX9_cover_6 rfl 0 rfl ?_
  refine go_if_ge (tgt := 12) O dX9_cover_7 (by decide) (fun hc29 => ?_) (fun hc29 => ?_)
  · replace hF := it_t hc29 hF
    refine go_bipush (v := (-9 : Int32)) O dX9_cover_12 (by decide) ?_
    refine go_istore_n (ls' := [(3, .int (-9 : Int32)), (2, .int x2), (0, .ref (G.2.1 0)), (1, .int a1)]) O dX9_cover_14 rfl (by decide) rfl ?_
    refine go_iconst (v := (0 : Int32)) O dX9_cover_15 (by decide) ?_
    refine go_istore (ls' := [(4, .int (0 : Int32)), (3, .int (-9 : Int32)), (2, .int x2), (0, .ref (G.2.1 0)), (1, .int a1)]) O dX9_cover_16 (by decide) rfl ?_
    refine go_perm (ls' := [(0, .ref (G.2.1 0)), (1, .int a1), (3, .int (-9 : Int32)), (4, .int (0 : Int32))]) [3, 4, 1, 0] rfl ?_
    obtain ⟨x4, hA22, hF⟩ := bd_s hF
    refine lt_X9_cover_18 l G hI  O _ _ _ _ hA22 ?_
    refine go_iload_n O dX9_cover_82 rfl 1 rfl ?_
    refine go_bipush (v := (-9 : Int32)) O dX9_cover_83 (by decide) ?_
    refine go_icmp_ne (tgt := 93) O dX9_cover_85 (by decide) (fun hc28 => ?_) (fun hc28 => ?_)
    · replace hF := it_f hc28 hF
      refine go_aload_n O dX9_cover_93 rfl 0 rfl ?_
      refine go_iload_n O dX9_cover_94 rfl 1 rfl ?_
      obtain ⟨x24, hA23, hF⟩ := bd_s hF
      refine go_callSi (As := [.int x4]) (rest := [.ref (G.2.1 0)]) O (c_X9_ones l G hI hA23) (fun s args hts => va_cwS 1 hts gX9_cover_X9_ones rfl rfl rfl (by decide +kernel) ⟨Nat.le_of_ble_eq_true rfl, Nat.le_of_ble_eq_true rfl⟩) rfl rfl (Nat.le_of_ble_eq_true rfl) dX9_cover_95 ?_
      refine go_iload_n O dX9_cover_98 rfl 1 rfl ?_
      obtain ⟨⟨x26, S27⟩, hA25, hF⟩ := bd_s hF
      refine go_callVi (As := [.int x24, .int x4]) (rest := []) (b := 0) O (c_X9_say l G hI hA25) (fun s args hts => cwV 2 hts gX9_cover_X9_say rfl rfl rfl (by decide +kernel) ⟨Nat.le_of_ble_eq_true rfl, Nat.le_of_ble_eq_true rfl⟩) (by decide : (0 : Nat) < 27) (cm_obj G (S3.1 0) (S3.2 0)) rfl rfl rfl rfl (Nat.le_of_ble_eq_true rfl) dX9_cover_99 ?_
      exact ret_wi hF (hR _ _ dX9_cover_102)
    · replace hF := it_t hc28 hF
      refine go_bipush (v := (-9 : Int32)) O dX9_cover_88 (by decide) ?_
      refine go_goto (tgt := 102) O dX9_cover_90 (by decide) ?_
      exact ret_wi hF (hR _ _ dX9_cover_102)
  · replace hF := it_f hc29 hF
    refine go_iload_n O dX9_cover_10 rfl 0 rfl ?_
    exact ret_wi hF (hR _ _ dX9_cover_11)
-- X9_noiseOf
def rm_X9_noiseOf : Room := { frames := 2, cells := 0, slots := 0, locals := 48 }
theorem fl_X9_noiseOf_31 : Cond.fieldLink RX9 31 "PaperWallsModel" "talks" "[I" ∈ wsX9_noiseOf := by decide +kernel
theorem fl_X9_noiseOf_156 : Cond.fieldLink RX9 156 "PaperWallsModel" "talkMany" "I" ∈ wsX9_noiseOf := by decide +kernel
theorem in_X9_noiseOf_X9 : ∀ x ∈ u_ws RX9 TX9 36, x ∈ wsX9_noiseOf := by decide +kernel
def T_X9_noiseOf_6  (S : Sg) (p1 : Int32) (p2 : Int32) (p3 : Int32) : Nat → Int32 → Int32 → Option (Int32)
  | 0, _, _ => none
  | n + 1, p4, p5 => if (S.1 0 10) ≤ p5 then (some p4) else (bd (F_X9_has S p2 p5) (fun x3 => bd (if x3 = 0 then (some (0 : Int32)) else (if p5 = p3 then (some (0 : Int32)) else (chk (inB ((3 : Int32) * p5) 24) (bd (F_X9_comesTo S p1 (S.1 8 ((3 : Int32) * p5).toNatClampNeg)) (fun x9 => some x9))))) (fun x4 => bd (if x4 ≤ p4 then (some p4) else (some x4)) (fun x12 => T_X9_noiseOf_6 S p1 p2 p3 n x12 (p5 + (1 : Int32))))))
set_option maxHeartbeats 4000000 in
set_option maxRecDepth 100000 in
theorem lt_X9_noiseOf_6 {X : XT} (l : Launch) (G : Gp) (hI : Ij (wM G))  {S : Sg} {p1 : Int32} {p2 : Int32} {p3 : Int32} (O : Ok X (wM G) cX9_noiseOf RX9 wsX9_noiseOf 7) : ∀ (n : Nat) (p4 : Int32) (p5 : Int32)  (q : (Int32)), T_X9_noiseOf_6 S p1 p2 p3 n p4 p5  = some q → (Go X l rm_X9_noiseOf (wM G) 7 72 [(4, .int q)] [] S) → Go X l rm_X9_noiseOf (wM G) 7 6 [(0, .ref (G.2.1 0)), (1, .int p1), (2, .int p2), (3, .int p3), (4, .int p4), (5, .int p5)] [] S := by
  intro n
  induction n with
  | zero =>
    intro p4 p5  q hF
    cases hF
  | succ n ih =>
    intro p4 p5  q hF hE
    rw [T_X9_noiseOf_6] at hF
    refine go_iload O dX9_noiseOf_6 5 rfl ?_
    refine go_aload_n O dX9_noiseOf_8 rfl 0 rfl ?_
    refine go_get (k := 0) (j := 10) O (by decide : (0 : Nat) < 27) (cm_obj G (S.1 0) (S.2 0)) rfl in_X9_noiseOf_X9 (by decide) fl_X9_noiseOf_156 rfl rfl dX9_noiseOf_9 ?_
    refine go_icmp_ge (tgt := 72) O dX9_noiseOf_12 (by decide) (fun hc16 => ?_) (fun hc16 => ?_)
    · replace hF := it_t hc16 hF
      refine go_perm (ls' := [(4, .int p4)]) [4] rfl ?_
      exact jn (P := fun q => Go X l rm_X9_noiseOf (wM G) 7 72 [(4, .int q)] [] S) hF hE
    · replace hF := it_f hc16 hF
      refine go_iload_n O dX9_noiseOf_15 rfl 2 rfl ?_
      refine go_iload O dX9_noiseOf_16 5 rfl ?_
      obtain ⟨x3, hA2, hF⟩ := bd_s hF
      refine go_callSi (As := [.int p2, .int p5]) (rest := []) O (c_X9_has l G hI hA2) (fun s args hts => va_cwS 2 hts gX9_noiseOf_X9_has rfl rfl rfl (by decide +kernel) ⟨Nat.le_of_ble_eq_true rfl, Nat.le_of_ble_eq_true rfl⟩) rfl rfl (Nat.le_of_ble_eq_true rfl) dX9_noiseOf_18 ?_
      obtain ⟨x4, hA6, hF⟩ := bd_s hF
      have J5 : Go X l rm_X9_noiseOf (wM G) 7 48 [(0, .ref (G.2.1 0)), (1, .int p1), (2, .int p2), (3, .int p3), (4, .int p4), (5, .int p5)] [.int x4] S := by
        refine go_istore (ls' := [(6, .int x4), (0, .ref (G.2.1 0)), (1, .int p1), (2, .int p2), (3, .int p3), (4, .int p4), (5, .int p5)]) O dX9_noiseOf_48 (by decide) rfl ?_
        refine go_iload O dX9_noiseOf_50 0 rfl ?_
        refine go_iload O dX9_noiseOf_52 5 rfl ?_
        obtain ⟨x12, hA14, hF⟩ := bd_s hF
        have J13 : Go X l rm_X9_noiseOf (wM G) 7 64 [(0, .ref (G.2.1 0)), (1, .int p1), (2, .int p2), (3, .int p3), (5, .int p5)] [.int x12] S := by
          refine go_istore (ls' := [(4, .int x12), (0, .ref (G.2.1 0)), (1, .int p1), (2, .int p2), (3, .int p3), (5, .int p5)]) O dX9_noiseOf_64 (by decide) rfl ?_
          refine go_iinc (d := (1 : Int32)) (ls' := [(5, .int (p5 + (1 : Int32))), (4, .int x12), (0, .ref (G.2.1 0)), (1, .int p1), (2, .int p2), (3, .int p3)]) O dX9_noiseOf_66 5 rfl (by decide) (by decide) rfl ?_
          refine go_goto (tgt := 6) O dX9_noiseOf_69 (by decide) ?_
          refine go_perm (ls' := [(0, .ref (G.2.1 0)), (1, .int p1), (2, .int p2), (3, .int p3), (4, .int x12), (5, .int (p5 + (1 : Int32)))]) [2, 3, 4, 5, 1, 0] rfl ?_
          exact ih _ _ _ hF hE
        replace hF := hA14
        refine go_icmp_le (tgt := 62) O dX9_noiseOf_54 (by decide) (fun hc15 => ?_) (fun hc15 => ?_)
        · replace hF := it_t hc15 hF
          refine go_iload O dX9_noiseOf_62 5 rfl ?_
          refine go_perm (ls' := [(0, .ref (G.2.1 0)), (1, .int p1), (2, .int p2), (3, .int p3), (5, .int p5)]) [1, 2, 3, 4, 6] rfl ?_
          exact jn (P := fun q => Go X l rm_X9_noiseOf (wM G) 7 64 [(0, .ref (G.2.1 0)), (1, .int p1), (2, .int p2), (3, .int p3), (5, .int p5)] [.int q] S) hF J13
        · replace hF := it_f hc15 hF
          refine go_iload O dX9_noiseOf_57 0 rfl ?_
          refine go_goto (tgt := 64) O dX9_noiseOf_59 (by decide) ?_
          refine go_perm (ls' := [(0, .ref (G.2.1 0)), (1, .int p1), (2, .int p2), (3, .int p3), (5, .int p5)]) [1, 2, 3, 4, 6] rfl ?_
          exact jn (P := fun q => Go X l rm_X9_noiseOf (wM G) 7 64 [(0, .ref (G.2.1 0)), (1, .int p1), (2, .int p2), (3, .int p3), (5, .int p5)] [.int q] S) hF J13
      replace hF := hA6
      refine go_if_eq (tgt := 47) O dX9_noiseOf_21 (by decide) (fun hc11 => ?_) (fun hc11 => ?_)
      · replace hF := it_t hc11 hF
        refine go_iconst (v := (0 : Int32)) O dX9_noiseOf_47 (by decide) ?_
        exact jn (P := fun q => Go X l rm_X9_noiseOf (wM G) 7 48 [(0, .ref (G.2.1 0)), (1, .int p1), (2, .int p2), (3, .int p3), (4, .int p4), (5, .int p5)] [.int q] S) hF J5
      · replace hF := it_f hc11 hF
        refine go_iload O dX9_noiseOf_24 5 rfl ?_
        refine go_iload_n O dX9_noiseOf_26 rfl 3 rfl ?_
        refine go_icmp_eq (tgt := 47) O dX9_noiseOf_27 (by decide) (fun hc10 => ?_) (fun hc10 => ?_)
        · replace hF := it_t hc10 hF
          refine go_iconst (v := (0 : Int32)) O dX9_noiseOf_47 (by decide) ?_
          exact jn (P := fun q => Go X l rm_X9_noiseOf (wM G) 7 48 [(0, .ref (G.2.1 0)), (1, .int p1), (2, .int p2), (3, .int p3), (4, .int p4), (5, .int p5)] [.int q] S) hF J5
        · replace hF := it_f hc10 hF
          refine go_aload_n O dX9_noiseOf_30 rfl 0 rfl ?_
          refine go_iload_n O dX9_noiseOf_31 rfl 1 rfl ?_
          refine go_aload_n O dX9_noiseOf_32 rfl 0 rfl ?_
          refine go_get (k := 0) (j := 9) O (by decide : (0 : Nat) < 27) (cm_obj G (S.1 0) (S.2 0)) rfl in_X9_noiseOf_X9 (by decide) fl_X9_noiseOf_31 rfl rfl dX9_noiseOf_33 ?_
          refine go_iconst (v := (3 : Int32)) O dX9_noiseOf_36 (by decide) ?_
          refine go_iload O dX9_noiseOf_37 5 rfl ?_
          refine go_imul O dX9_noiseOf_39 ?_
          obtain ⟨hb7, hF⟩ := chk_s hF
          refine go_iald (k := 8) O (by decide : (8 : Nat) < 27) (cm_8 G (S.1 8) (S.2 8)) (inB_in hb7) dX9_noiseOf_40 ?_
          obtain ⟨x9, hA8, hF⟩ := bd_s hF
          refine go_callVi (As := [.int p1, .int (S.1 8 ((3 : Int32) * p5).toNatClampNeg)]) (rest := []) (b := 0) O (c_X9_comesTo l G hI hA8) (fun s args hts => cwV 2 hts gX9_noiseOf_X9_comesTo rfl rfl rfl (by decide +kernel) ⟨Nat.le_of_ble_eq_true rfl, Nat.le_of_ble_eq_true rfl⟩) (by decide : (0 : Nat) < 27) (cm_obj G (S.1 0) (S.2 0)) rfl rfl rfl rfl (Nat.le_of_ble_eq_true rfl) dX9_noiseOf_41 ?_
          refine go_goto (tgt := 48) O dX9_noiseOf_44 (by decide) ?_
          exact jn (P := fun q => Go X l rm_X9_noiseOf (wM G) 7 48 [(0, .ref (G.2.1 0)), (1, .int p1), (2, .int p2), (3, .int p3), (4, .int p4), (5, .int p5)] [.int q] S) hF J5
def F_X9_noiseOf  (S : Sg) (a1 : Int32) (a2 : Int32) (a3 : Int32) : Option Int32 := bd (T_X9_noiseOf_6 S a1 a2 a3 FU (0 : Int32) (0 : Int32)) (fun x1 => some x1)
set_option maxHeartbeats 4000000 in
set_option maxRecDepth 100000 in
theorem c_X9_noiseOf (l : Launch) (G : Gp) (hI : Ij (wM G))  {S : Sg} {a1 : Int32} {a2 : Int32} {a3 : Int32} {r : Int32} (hF : F_X9_noiseOf S a1 a2 a3 = some r) : Met l yX9_noiseOf wsX9_noiseOf rm_X9_noiseOf (va_Pc [.ref (G.2.1 0), .int a1, .int a2, .int a3] (PreW (wM G) S)) (va_Qi (fun r' u => r' = r ∧ u = S) (PostW (wM G)) (AW (wM G))) 0 0 (AW (wM G)) := by
  rw [F_X9_noiseOf] at hF
  refine met_i (cc := cX9_noiseOf) (maxL := 7) (own := RX9) hI (by decide) rfl rfl (Nat.le_of_ble_eq_true rfl) (fun X O hR => ?_)
  show Go X l rm_X9_noiseOf (wM G) 7 0 [(0, .ref (G.2.1 0)), (1, .int a1), (2, .int a2), (3, .int a3)] [] S
  refine go_iconst (v := (0 : Int32)) O dX9_noiseOf_0 (by decide) ?_
  refine go_istore (ls' := [(4, .int (0 : Int32)), (0, .ref (G.2.1 0)), (1, .int a1), (2, .int a2), (3, .int a3)]) O dX9_noiseOf_1 (by decide) rfl ?_
  refine go_iconst (v := (0 : Int32)) O dX9_noiseOf_3 (by decide) ?_
  refine go_istore (ls' := [(5, .int (0 : Int32)), (4, .int (0 : Int32)), (0, .ref (G.2.1 0)), (1, .int a1), (2, .int a2), (3, .int a3)]) O dX9_noiseOf_4 (by decide) rfl ?_
  refine go_perm (ls' := [(0, .ref (G.2.1 0)), (1, .int a1), (2, .int a2), (3, .int a3), (4, .int (0 : Int32)), (5, .int (0 : Int32))]) [2, 3, 4, 5, 1, 0] rfl ?_
  obtain ⟨x1, hA17, hF⟩ := bd_s hF
  refine lt_X9_noiseOf_6 l G hI  O _ _ _ _ hA17 ?_
  refine go_iload O dX9_noiseOf_72 0 rfl ?_
  exact ret_i hF (hR _ _ dX9_noiseOf_74)
-- X9_areBeside
def rm_X9_areBeside : Room := { frames := 3, cells := 0, slots := 0, locals := 74 }
theorem fl_X9_areBeside_22 : Cond.fieldLink RX9 22 "PaperWallsModel" "kinds" "[I" ∈ wsX9_areBeside := by decide +kernel
theorem fl_X9_areBeside_25 : Cond.fieldLink RX9 25 "PaperWallsModel" "where" "[I" ∈ wsX9_areBeside := by decide +kernel
theorem fl_X9_areBeside_31 : Cond.fieldLink RX9 31 "PaperWallsModel" "talks" "[I" ∈ wsX9_areBeside := by decide +kernel
theorem fl_X9_areBeside_153 : Cond.fieldLink RX9 153 "PaperWallsModel" "people" "I" ∈ wsX9_areBeside := by decide +kernel
theorem fl_X9_areBeside_156 : Cond.fieldLink RX9 156 "PaperWallsModel" "talkMany" "I" ∈ wsX9_areBeside := by decide +kernel
theorem in_X9_areBeside_X9 : ∀ x ∈ u_ws RX9 TX9 36, x ∈ wsX9_areBeside := by decide +kernel
def T_X9_areBeside_92  (S : Sg) (p1 : Int32) (p2 : Int32) (p4 : Int32) (p5 : Int32) (p6 : Int32) : Nat → Int32 → Int32 → Option (Int32)
  | 0, _, _ => none
  | n + 1, p3, p7 => if (S.1 0 7) ≤ p7 then (some p3) else (if p3 = 0 then (some p3) else (bd (if p7 = p5 then (some (0 : Int32)) else (chk (inB p7 7) (chk (inB p7 7) (bd (F_X9_comesTo S (S.1 6 p7.toNatClampNeg) p5) (fun x29 => chk (inB p7 7) (bd (F_X9_noiseOf S (S.1 6 p7.toNatClampNeg) p1 p4) (fun x32 => bd (F_X9_isHeard S (S.1 5 p7.toNatClampNeg) x29 x32) (fun x34 => if x34 = 0 then (some (0 : Int32)) else (some (1 : Int32)))))))))) (fun x23 => bd (if p7 = p6 then (some x23) else (if x23 = 0 then (some (1 : Int32)) else (chk (inB (((3 : Int32) * p4) + (2 : Int32)) 24) (bd (F_X9_has S (S.1 8 (((3 : Int32) * p4) + (2 : Int32)).toNatClampNeg) p7) (fun x42 => if x42 = 0 then (some (1 : Int32)) else (some (0 : Int32))))))) (fun x37 => T_X9_areBeside_92 S p1 p2 p4 p5 p6 n x37 (p7 + (1 : Int32))))))
set_option maxHeartbeats 4000000 in
set_option maxRecDepth 100000 in
theorem lt_X9_areBeside_92 {X : XT} (l : Launch) (G : Gp) (hI : Ij (wM G))  {S : Sg} {p1 : Int32} {p2 : Int32} {p4 : Int32} {p5 : Int32} {p6 : Int32} (O : Ok X (wM G) cX9_areBeside RX9 wsX9_areBeside 9) : ∀ (n : Nat) (p3 : Int32) (p7 : Int32)  (q : (Int32)), T_X9_areBeside_92 S p1 p2 p4 p5 p6 n p3 p7  = some q → (Go X l rm_X9_areBeside (wM G) 9 207 [(0, .ref (G.2.1 0)), (1, .int p1), (2, .int p2), (3, .int q), (4, .int p4)] [] S) → Go X l rm_X9_areBeside (wM G) 9 92 [(0, .ref (G.2.1 0)), (1, .int p1), (2, .int p2), (3, .int p3), (4, .int p4), (5, .int p5), (6, .int p6), (7, .int p7)] [] S := by
  intro n
  induction n with
  | zero =>
    intro p3 p7  q hF
    cases hF
  | succ n ih =>
    intro p3 p7  q hF hE
    rw [T_X9_areBeside_92] at hF
    refine go_iload O dX9_areBeside_92 7 rfl ?_
    refine go_aload_n O dX9_areBeside_94 rfl 0 rfl ?_
    refine go_get (k := 0) (j := 7) O (by decide : (0 : Nat) < 27) (cm_obj G (S.1 0) (S.2 0)) rfl in_X9_areBeside_X9 (by decide) fl_X9_areBeside_153 rfl rfl dX9_areBeside_95 ?_
    refine go_icmp_ge (tgt := 207) O dX9_areBeside_98 (by decide) (fun hc47 => ?_) (fun hc47 => ?_)
    · replace hF := it_t hc47 hF
      refine go_perm (ls' := [(0, .ref (G.2.1 0)), (1, .int p1), (2, .int p2), (3, .int p3), (4, .int p4)]) [0, 1, 2, 3, 4] rfl ?_
      exact jn (P := fun q => Go X l rm_X9_areBeside (wM G) 9 207 [(0, .ref (G.2.1 0)), (1, .int p1), (2, .int p2), (3, .int q), (4, .int p4)] [] S) hF hE
    · replace hF := it_f hc47 hF
      refine go_iload_n O dX9_areBeside_101 rfl 3 rfl ?_
      refine go_if_eq (tgt := 207) O dX9_areBeside_102 (by decide) (fun hc46 => ?_) (fun hc46 => ?_)
      · replace hF := it_t hc46 hF
        refine go_perm (ls' := [(0, .ref (G.2.1 0)), (1, .int p1), (2, .int p2), (3, .int p3), (4, .int p4)]) [0, 1, 2, 3, 4] rfl ?_
        exact jn (P := fun q => Go X l rm_X9_areBeside (wM G) 9 207 [(0, .ref (G.2.1 0)), (1, .int p1), (2, .int p2), (3, .int q), (4, .int p4)] [] S) hF hE
      · replace hF := it_f hc46 hF
        refine go_iload O dX9_areBeside_105 7 rfl ?_
        refine go_iload O dX9_areBeside_107 5 rfl ?_
        obtain ⟨x23, hA25, hF⟩ := bd_s hF
        have J24 : Go X l rm_X9_areBeside (wM G) 9 157 [(0, .ref (G.2.1 0)), (1, .int p1), (2, .int p2), (4, .int p4), (5, .int p5), (6, .int p6), (7, .int p7)] [.int x23] S := by
          refine go_istore (ls' := [(8, .int x23), (0, .ref (G.2.1 0)), (1, .int p1), (2, .int p2), (4, .int p4), (5, .int p5), (6, .int p6), (7, .int p7)]) O dX9_areBeside_157 (by decide) rfl ?_
          refine go_iload O dX9_areBeside_159 7 rfl ?_
          refine go_iload O dX9_areBeside_161 6 rfl ?_
          obtain ⟨x37, hA39, hF⟩ := bd_s hF
          have J38 : Go X l rm_X9_areBeside (wM G) 9 200 [(0, .ref (G.2.1 0)), (1, .int p1), (2, .int p2), (4, .int p4), (5, .int p5), (6, .int p6), (7, .int p7)] [.int x37] S := by
            refine go_istore_n (ls' := [(3, .int x37), (0, .ref (G.2.1 0)), (1, .int p1), (2, .int p2), (4, .int p4), (5, .int p5), (6, .int p6), (7, .int p7)]) O dX9_areBeside_200 rfl (by decide) rfl ?_
            refine go_iinc (d := (1 : Int32)) (ls' := [(7, .int (p7 + (1 : Int32))), (3, .int x37), (0, .ref (G.2.1 0)), (1, .int p1), (2, .int p2), (4, .int p4), (5, .int p5), (6, .int p6)]) O dX9_areBeside_201 7 rfl (by decide) (by decide) rfl ?_
            refine go_goto (tgt := 92) O dX9_areBeside_204 (by decide) ?_
            refine go_perm (ls' := [(0, .ref (G.2.1 0)), (1, .int p1), (2, .int p2), (3, .int x37), (4, .int p4), (5, .int p5), (6, .int p6), (7, .int (p7 + (1 : Int32)))]) [2, 3, 4, 1, 5, 6, 7, 0] rfl ?_
            exact ih _ _ _ hF hE
          replace hF := hA39
          refine go_icmp_ne (tgt := 171) O dX9_areBeside_163 (by decide) (fun hc45 => ?_) (fun hc45 => ?_)
          · replace hF := it_f hc45 hF
            refine go_iload O dX9_areBeside_171 0 rfl ?_
            refine go_if_eq (tgt := 195) O dX9_areBeside_173 (by decide) (fun hc44 => ?_) (fun hc44 => ?_)
            · replace hF := it_t hc44 hF
              refine go_iconst (v := (1 : Int32)) O dX9_areBeside_195 (by decide) ?_
              refine go_goto (tgt := 200) O dX9_areBeside_196 (by decide) ?_
              refine go_perm (ls' := [(0, .ref (G.2.1 0)), (1, .int p1), (2, .int p2), (4, .int p4), (5, .int p5), (6, .int p6), (7, .int p7)]) [1, 2, 3, 4, 5, 6, 7] rfl ?_
              exact jn (P := fun q => Go X l rm_X9_areBeside (wM G) 9 200 [(0, .ref (G.2.1 0)), (1, .int p1), (2, .int p2), (4, .int p4), (5, .int p5), (6, .int p6), (7, .int p7)] [.int q] S) hF J38
            · replace hF := it_f hc44 hF
              refine go_aload_n O dX9_areBeside_176 rfl 1 rfl ?_
              refine go_get (k := 0) (j := 9) O (by decide : (0 : Nat) < 27) (cm_obj G (S.1 0) (S.2 0)) rfl in_X9_areBeside_X9 (by decide) fl_X9_areBeside_31 rfl rfl dX9_areBeside_177 ?_
              refine go_iconst (v := (3 : Int32)) O dX9_areBeside_180 (by decide) ?_
              refine go_iload O dX9_areBeside_181 4 rfl ?_
              refine go_imul O dX9_areBeside_183 ?_
              refine go_iconst (v := (2 : Int32)) O dX9_areBeside_184 (by decide) ?_
              refine go_iadd O dX9_areBeside_185 ?_
              obtain ⟨hb40, hF⟩ := chk_s hF
              refine go_iald (k := 8) O (by decide : (8 : Nat) < 27) (cm_8 G (S.1 8) (S.2 8)) (inB_in hb40) dX9_areBeside_186 ?_
              refine go_iload O dX9_areBeside_187 7 rfl ?_
              obtain ⟨x42, hA41, hF⟩ := bd_s hF
              refine go_callSi (As := [.int (S.1 8 (((3 : Int32) * p4) + (2 : Int32)).toNatClampNeg), .int p7]) (rest := []) O (c_X9_has l G hI hA41) (fun s args hts => va_cwS 2 hts gX9_areBeside_X9_has rfl rfl rfl (by decide +kernel) ⟨Nat.le_of_ble_eq_true rfl, Nat.le_of_ble_eq_true rfl⟩) rfl rfl (Nat.le_of_ble_eq_true rfl) dX9_areBeside_189 ?_
              refine go_if_ne (tgt := 199) O dX9_areBeside_192 (by decide) (fun hc43 => ?_) (fun hc43 => ?_)
              · replace hF := it_f hc43 hF
                refine go_iconst (v := (0 : Int32)) O dX9_areBeside_199 (by decide) ?_
                refine go_perm (ls' := [(0, .ref (G.2.1 0)), (1, .int p1), (2, .int p2), (4, .int p4), (5, .int p5), (6, .int p6), (7, .int p7)]) [1, 2, 3, 4, 5, 6, 7] rfl ?_
                exact jn (P := fun q => Go X l rm_X9_areBeside (wM G) 9 200 [(0, .ref (G.2.1 0)), (1, .int p1), (2, .int p2), (4, .int p4), (5, .int p5), (6, .int p6), (7, .int p7)] [.int q] S) hF J38
              · replace hF := it_t hc43 hF
                refine go_iconst (v := (1 : Int32)) O dX9_areBeside_195 (by decide) ?_
                refine go_goto (tgt := 200) O dX9_areBeside_196 (by decide) ?_
                refine go_perm (ls' := [(0, .ref (G.2.1 0)), (1, .int p1), (2, .int p2), (4, .int p4), (5, .int p5), (6, .int p6), (7, .int p7)]) [1, 2, 3, 4, 5, 6, 7] rfl ?_
                exact jn (P := fun q => Go X l rm_X9_areBeside (wM G) 9 200 [(0, .ref (G.2.1 0)), (1, .int p1), (2, .int p2), (4, .int p4), (5, .int p5), (6, .int p6), (7, .int p7)] [.int q] S) hF J38
          · replace hF := it_t hc45 hF
            refine go_iload O dX9_areBeside_166 0 rfl ?_
            refine go_goto (tgt := 200) O dX9_areBeside_168 (by decide) ?_
            refine go_perm (ls' := [(0, .ref (G.2.1 0)), (1, .int p1), (2, .int p2), (4, .int p4), (5, .int p5), (6, .int p6), (7, .int p7)]) [1, 2, 3, 4, 5, 6, 7] rfl ?_
            exact jn (P := fun q => Go X l rm_X9_areBeside (wM G) 9 200 [(0, .ref (G.2.1 0)), (1, .int p1), (2, .int p2), (4, .int p4), (5, .int p5), (6, .int p6), (7, .int p7)] [.int q] S) hF J38
        replace hF := hA25
        refine go_icmp_eq (tgt := 156) O dX9_areBeside_109 (by decide) (fun hc36 => ?_) (fun hc36 => ?_)
        · replace hF := it_t hc36 hF
          refine go_iconst (v := (0 : Int32)) O dX9_areBeside_156 (by decide) ?_
          refine go_perm (ls' := [(0, .ref (G.2.1 0)), (1, .int p1), (2, .int p2), (4, .int p4), (5, .int p5), (6, .int p6), (7, .int p7)]) [0, 1, 2, 4, 5, 6, 7] rfl ?_
          exact jn (P := fun q => Go X l rm_X9_areBeside (wM G) 9 157 [(0, .ref (G.2.1 0)), (1, .int p1), (2, .int p2), (4, .int p4), (5, .int p5), (6, .int p6), (7, .int p7)] [.int q] S) hF J24
        · replace hF := it_f hc36 hF
          refine go_aload_n O dX9_areBeside_112 rfl 0 rfl ?_
          refine go_get (k := 0) (j := 4) O (by decide : (0 : Nat) < 27) (cm_obj G (S.1 0) (S.2 0)) rfl in_X9_areBeside_X9 (by decide) fl_X9_areBeside_22 rfl rfl dX9_areBeside_113 ?_
          refine go_iload O dX9_areBeside_116 7 rfl ?_
          obtain ⟨hb26, hF⟩ := chk_s hF
          refine go_iald (k := 5) O (by decide : (5 : Nat) < 27) (cm_5 G (S.1 5) (S.2 5)) (inB_in hb26) dX9_areBeside_118 ?_
          refine go_aload_n O dX9_areBeside_119 rfl 0 rfl ?_
          refine go_aload_n O dX9_areBeside_120 rfl 0 rfl ?_
          refine go_get (k := 0) (j := 5) O (by decide : (0 : Nat) < 27) (cm_obj G (S.1 0) (S.2 0)) rfl in_X9_areBeside_X9 (by decide) fl_X9_areBeside_25 rfl rfl dX9_areBeside_121 ?_
          refine go_iload O dX9_areBeside_124 7 rfl ?_
          obtain ⟨hb27, hF⟩ := chk_s hF
          refine go_iald (k := 6) O (by decide : (6 : Nat) < 27) (cm_6 G (S.1 6) (S.2 6)) (inB_in hb27) dX9_areBeside_126 ?_
          refine go_iload O dX9_areBeside_127 5 rfl ?_
          obtain ⟨x29, hA28, hF⟩ := bd_s hF
          refine go_callVi (As := [.int (S.1 6 p7.toNatClampNeg), .int p5]) (rest := [.int (S.1 5 p7.toNatClampNeg)]) (b := 0) O (c_X9_comesTo l G hI hA28) (fun s args hts => cwV 2 hts gX9_areBeside_X9_comesTo rfl rfl rfl (by decide +kernel) ⟨Nat.le_of_ble_eq_true rfl, Nat.le_of_ble_eq_true rfl⟩) (by decide : (0 : Nat) < 27) (cm_obj G (S.1 0) (S.2 0)) rfl rfl rfl rfl (Nat.le_of_ble_eq_true rfl) dX9_areBeside_129 ?_
          refine go_aload_n O dX9_areBeside_132 rfl 0 rfl ?_
          refine go_aload_n O dX9_areBeside_133 rfl 0 rfl ?_
          refine go_get (k := 0) (j := 5) O (by decide : (0 : Nat) < 27) (cm_obj G (S.1 0) (S.2 0)) rfl in_X9_areBeside_X9 (by decide) fl_X9_areBeside_25 rfl rfl dX9_areBeside_134 ?_
          refine go_iload O dX9_areBeside_137 7 rfl ?_
          obtain ⟨hb30, hF⟩ := chk_s hF
          refine go_iald (k := 6) O (by decide : (6 : Nat) < 27) (cm_6 G (S.1 6) (S.2 6)) (inB_in hb30) dX9_areBeside_139 ?_
          refine go_iload_n O dX9_areBeside_140 rfl 1 rfl ?_
          refine go_iload O dX9_areBeside_141 4 rfl ?_
          obtain ⟨x32, hA31, hF⟩ := bd_s hF
          refine go_callVi (As := [.int (S.1 6 p7.toNatClampNeg), .int p1, .int p4]) (rest := [.int x29, .int (S.1 5 p7.toNatClampNeg)]) (b := 0) O (c_X9_noiseOf l G hI hA31) (fun s args hts => cwV 3 hts gX9_areBeside_X9_noiseOf rfl rfl rfl (by decide +kernel) ⟨Nat.le_of_ble_eq_true rfl, Nat.le_of_ble_eq_true rfl⟩) (by decide : (0 : Nat) < 27) (cm_obj G (S.1 0) (S.2 0)) rfl rfl rfl rfl (Nat.le_of_ble_eq_true rfl) dX9_areBeside_143 ?_
          obtain ⟨x34, hA33, hF⟩ := bd_s hF
          refine go_callSi (As := [.int (S.1 5 p7.toNatClampNeg), .int x29, .int x32]) (rest := []) O (c_X9_isHeard l G hI hA33) (fun s args hts => va_cwS 3 hts gX9_areBeside_X9_isHeard rfl rfl rfl (by decide +kernel) ⟨Nat.le_of_ble_eq_true rfl, Nat.le_of_ble_eq_true rfl⟩) rfl rfl (Nat.le_of_ble_eq_true rfl) dX9_areBeside_146 ?_
          refine go_if_eq (tgt := 156) O dX9_areBeside_149 (by decide) (fun hc35 => ?_) (fun hc35 => ?_)
          · replace hF := it_t hc35 hF
            refine go_iconst (v := (0 : Int32)) O dX9_areBeside_156 (by decide) ?_
            refine go_perm (ls' := [(0, .ref (G.2.1 0)), (1, .int p1), (2, .int p2), (4, .int p4), (5, .int p5), (6, .int p6), (7, .int p7)]) [0, 1, 2, 4, 5, 6, 7] rfl ?_
            exact jn (P := fun q => Go X l rm_X9_areBeside (wM G) 9 157 [(0, .ref (G.2.1 0)), (1, .int p1), (2, .int p2), (4, .int p4), (5, .int p5), (6, .int p6), (7, .int p7)] [.int q] S) hF J24
          · replace hF := it_f hc35 hF
            refine go_iconst (v := (1 : Int32)) O dX9_areBeside_152 (by decide) ?_
            refine go_goto (tgt := 157) O dX9_areBeside_153 (by decide) ?_
            refine go_perm (ls' := [(0, .ref (G.2.1 0)), (1, .int p1), (2, .int p2), (4, .int p4), (5, .int p5), (6, .int p6), (7, .int p7)]) [0, 1, 2, 4, 5, 6, 7] rfl ?_
            exact jn (P := fun q => Go X l rm_X9_areBeside (wM G) 9 157 [(0, .ref (G.2.1 0)), (1, .int p1), (2, .int p2), (4, .int p4), (5, .int p5), (6, .int p6), (7, .int p7)] [.int q] S) hF J24
def T_X9_areBeside_7  (S : Sg) (p1 : Int32) : Nat → Int32 → Int32 → Int32 → Option (Int32)
  | 0, _, _, _ => none
  | n + 1, p2, p3, p4 => if (S.1 0 10) ≤ p4 then (some p3) else (if p3 = 0 then (some p3) else (bd (F_X9_has S p1 p4) (fun x3 => bd (if x3 = 0 then (some (p2, p3)) else (chk (inB ((3 : Int32) * p4) 24) (nm (S.1 8 ((3 : Int32) * p4).toNatClampNeg) (fun x9 => chk (inB (((3 : Int32) * p4) + (1 : Int32)) 24) (nm (S.1 8 (((3 : Int32) * p4) + (1 : Int32)).toNatClampNeg) (fun x11 => bd (F_X9_has S p2 x9) (fun x13 => bd (if x13 = 0 then (bd (F_X9_has S p2 x11) (fun x18 => if x18 = 0 then (some (1 : Int32)) else (some (0 : Int32)))) else (some (0 : Int32))) (fun x14 => nm (p2 ||| (((1 : Int32) <<< (x9 &&& 31)) ||| ((1 : Int32) <<< (x11 &&& 31)))) (fun x21 => bd (T_X9_areBeside_92 S p1 x21 p4 x9 x11 FU x14 (0 : Int32)) (fun x22 => some (x21, x22))))))))))) (fun (x4, x5) => T_X9_areBeside_7 S p1 n x4 x5 (p4 + (1 : Int32))))))
set_option maxHeartbeats 4000000 in
set_option maxRecDepth 100000 in
theorem lt_X9_areBeside_7 {X : XT} (l : Launch) (G : Gp) (hI : Ij (wM G))  {S : Sg} {p1 : Int32} (O : Ok X (wM G) cX9_areBeside RX9 wsX9_areBeside 9) : ∀ (n : Nat) (p2 : Int32) (p3 : Int32) (p4 : Int32)  (q : (Int32)), T_X9_areBeside_7 S p1 n p2 p3 p4  = some q → (Go X l rm_X9_areBeside (wM G) 9 213 [(3, .int q)] [] S) → Go X l rm_X9_areBeside (wM G) 9 7 [(0, .ref (G.2.1 0)), (1, .int p1), (2, .int p2), (3, .int p3), (4, .int p4)] [] S := by
  intro n
  induction n with
  | zero =>
    intro p2 p3 p4  q hF
    cases hF
  | succ n ih =>
    intro p2 p3 p4  q hF hE
    rw [T_X9_areBeside_7] at hF
    refine go_iload O dX9_areBeside_7 4 rfl ?_
    refine go_aload_n O dX9_areBeside_9 rfl 0 rfl ?_
    refine go_get (k := 0) (j := 10) O (by decide : (0 : Nat) < 27) (cm_obj G (S.1 0) (S.2 0)) rfl in_X9_areBeside_X9 (by decide) fl_X9_areBeside_156 rfl rfl dX9_areBeside_10 ?_
    refine go_icmp_ge (tgt := 213) O dX9_areBeside_13 (by decide) (fun hc51 => ?_) (fun hc51 => ?_)
    · replace hF := it_t hc51 hF
      refine go_perm (ls' := [(3, .int p3)]) [3] rfl ?_
      exact jn (P := fun q => Go X l rm_X9_areBeside (wM G) 9 213 [(3, .int q)] [] S) hF hE
    · replace hF := it_f hc51 hF
      refine go_iload_n O dX9_areBeside_16 rfl 3 rfl ?_
      refine go_if_eq (tgt := 213) O dX9_areBeside_17 (by decide) (fun hc50 => ?_) (fun hc50 => ?_)
      · replace hF := it_t hc50 hF
        refine go_perm (ls' := [(3, .int p3)]) [3] rfl ?_
        exact jn (P := fun q => Go X l rm_X9_areBeside (wM G) 9 213 [(3, .int q)] [] S) hF hE
      · replace hF := it_f hc50 hF
        refine go_iload_n O dX9_areBeside_20 rfl 1 rfl ?_
        refine go_iload O dX9_areBeside_21 4 rfl ?_
        obtain ⟨x3, hA2, hF⟩ := bd_s hF
        refine go_callSi (As := [.int p1, .int p4]) (rest := []) O (c_X9_has l G hI hA2) (fun s args hts => va_cwS 2 hts gX9_areBeside_X9_has rfl rfl rfl (by decide +kernel) ⟨Nat.le_of_ble_eq_true rfl, Nat.le_of_ble_eq_true rfl⟩) rfl rfl (Nat.le_of_ble_eq_true rfl) dX9_areBeside_23 ?_
        obtain ⟨⟨x4, x5⟩, hA7, hF⟩ := bd_s hF
        have J6 : Go X l rm_X9_areBeside (wM G) 9 207 [(0, .ref (G.2.1 0)), (1, .int p1), (2, .int x4), (3, .int x5), (4, .int p4)] [] S := by
          refine go_iinc (d := (1 : Int32)) (ls' := [(4, .int (p4 + (1 : Int32))), (0, .ref (G.2.1 0)), (1, .int p1), (2, .int x4), (3, .int x5)]) O dX9_areBeside_207 4 rfl (by decide) (by decide) rfl ?_
          refine go_goto (tgt := 7) O dX9_areBeside_210 (by decide) ?_
          refine go_perm (ls' := [(0, .ref (G.2.1 0)), (1, .int p1), (2, .int x4), (3, .int x5), (4, .int (p4 + (1 : Int32)))]) [1, 2, 3, 4, 0] rfl ?_
          exact ih _ _ _ _ hF hE
        replace hF := hA7
        refine go_if_eq (tgt := 207) O dX9_areBeside_26 (by decide) (fun hc49 => ?_) (fun hc49 => ?_)
        · replace hF := it_t hc49 hF
          exact jn (P := fun q => Go X l rm_X9_areBeside (wM G) 9 207 [(0, .ref (G.2.1 0)), (1, .int p1), (2, .int q.1), (3, .int q.2), (4, .int p4)] [] S) hF J6
        · replace hF := it_f hc49 hF
          refine go_aload_n O dX9_areBeside_29 rfl 0 rfl ?_
          refine go_get (k := 0) (j := 9) O (by decide : (0 : Nat) < 27) (cm_obj G (S.1 0) (S.2 0)) rfl in_X9_areBeside_X9 (by decide) fl_X9_areBeside_31 rfl rfl dX9_areBeside_30 ?_
          refine go_iconst (v := (3 : Int32)) O dX9_areBeside_33 (by decide) ?_
          refine go_iload O dX9_areBeside_34 4 rfl ?_
          refine go_imul O dX9_areBeside_36 ?_
          obtain ⟨hb8, hF⟩ := chk_s hF
          refine go_iald (k := 8) O (by decide : (8 : Nat) < 27) (cm_8 G (S.1 8) (S.2 8)) (inB_in hb8) dX9_areBeside_37 ?_
          obtain ⟨x9, ex9, hF⟩ := nm_s hF
          refine go_topi ex9 ?_
          refine go_istore (ls' := [(5, .int x9), (0, .ref (G.2.1 0)), (1, .int p1), (2, .int p2), (3, .int p3), (4, .int p4)]) O dX9_areBeside_38 (by decide) rfl ?_
          refine go_aload_n O dX9_areBeside_40 rfl 1 rfl ?_
          refine go_get (k := 0) (j := 9) O (by decide : (0 : Nat) < 27) (cm_obj G (S.1 0) (S.2 0)) rfl in_X9_areBeside_X9 (by decide) fl_X9_areBeside_31 rfl rfl dX9_areBeside_41 ?_
          refine go_iconst (v := (3 : Int32)) O dX9_areBeside_44 (by decide) ?_
          refine go_iload O dX9_areBeside_45 5 rfl ?_
          refine go_imul O dX9_areBeside_47 ?_
          refine go_iconst (v := (1 : Int32)) O dX9_areBeside_48 (by decide) ?_
          refine go_iadd O dX9_areBeside_49 ?_
          obtain ⟨hb10, hF⟩ := chk_s hF
          refine go_iald (k := 8) O (by decide : (8 : Nat) < 27) (cm_8 G (S.1 8) (S.2 8)) (inB_in hb10) dX9_areBeside_50 ?_
          obtain ⟨x11, ex11, hF⟩ := nm_s hF
          refine go_topi ex11 ?_
          refine go_istore (ls' := [(6, .int x11), (5, .int x9), (0, .ref (G.2.1 0)), (1, .int p1), (2, .int p2), (3, .int p3), (4, .int p4)]) O dX9_areBeside_51 (by decide) rfl ?_
          refine go_iload_n O dX9_areBeside_53 rfl 4 rfl ?_
          refine go_iload O dX9_areBeside_54 1 rfl ?_
          obtain ⟨x13, hA12, hF⟩ := bd_s hF
          refine go_callSi (As := [.int p2, .int x9]) (rest := []) O (c_X9_has l G hI hA12) (fun s args hts => va_cwS 2 hts gX9_areBeside_X9_has rfl rfl rfl (by decide +kernel) ⟨Nat.le_of_ble_eq_true rfl, Nat.le_of_ble_eq_true rfl⟩) rfl rfl (Nat.le_of_ble_eq_true rfl) dX9_areBeside_56 ?_
          obtain ⟨x14, hA16, hF⟩ := bd_s hF
          have J15 : Go X l rm_X9_areBeside (wM G) 9 76 [(0, .ref (G.2.1 0)), (1, .int p1), (2, .int p2), (4, .int p4), (5, .int x9), (6, .int x11)] [.int x14] S := by
            refine go_istore_n (ls' := [(3, .int x14), (0, .ref (G.2.1 0)), (1, .int p1), (2, .int p2), (4, .int p4), (5, .int x9), (6, .int x11)]) O dX9_areBeside_76 rfl (by decide) rfl ?_
            refine go_iload_n O dX9_areBeside_77 rfl 3 rfl ?_
            refine go_iconst (v := (1 : Int32)) O dX9_areBeside_78 (by decide) ?_
            refine go_iload O dX9_areBeside_79 5 rfl ?_
            refine go_ishl O dX9_areBeside_81 ?_
            refine go_iconst (v := (1 : Int32)) O dX9_areBeside_82 (by decide) ?_
            refine go_iload O dX9_areBeside_83 6 rfl ?_
            refine go_ishl O dX9_areBeside_85 ?_
            refine go_ior O dX9_areBeside_86 ?_
            refine go_ior O dX9_areBeside_87 ?_
            obtain ⟨x21, ex21, hF⟩ := nm_s hF
            refine go_topi ex21 ?_
            refine go_istore_n (ls' := [(2, .int x21), (3, .int x14), (0, .ref (G.2.1 0)), (1, .int p1), (4, .int p4), (5, .int x9), (6, .int x11)]) O dX9_areBeside_88 rfl (by decide) rfl ?_
            refine go_iconst (v := (0 : Int32)) O dX9_areBeside_89 (by decide) ?_
            refine go_istore (ls' := [(7, .int (0 : Int32)), (2, .int x21), (3, .int x14), (0, .ref (G.2.1 0)), (1, .int p1), (4, .int p4), (5, .int x9), (6, .int x11)]) O dX9_areBeside_90 (by decide) rfl ?_
            refine go_perm (ls' := [(0, .ref (G.2.1 0)), (1, .int p1), (2, .int x21), (3, .int x14), (4, .int p4), (5, .int x9), (6, .int x11), (7, .int (0 : Int32))]) [3, 4, 1, 2, 5, 6, 7, 0] rfl ?_
            obtain ⟨x22, hA48, hF⟩ := bd_s hF
            refine lt_X9_areBeside_92 l G hI  O _ _ _ _ hA48 ?_
            exact jn (P := fun q => Go X l rm_X9_areBeside (wM G) 9 207 [(0, .ref (G.2.1 0)), (1, .int p1), (2, .int q.1), (3, .int q.2), (4, .int p4)] [] S) hF J6
          replace hF := hA16
          refine go_if_ne (tgt := 75) O dX9_areBeside_59 (by decide) (fun hc20 => ?_) (fun hc20 => ?_)
          · replace hF := it_f hc20 hF
            refine go_iconst (v := (0 : Int32)) O dX9_areBeside_75 (by decide) ?_
            refine go_perm (ls' := [(0, .ref (G.2.1 0)), (1, .int p1), (2, .int p2), (4, .int p4), (5, .int x9), (6, .int x11)]) [2, 3, 4, 6, 1, 0] rfl ?_
            exact jn (P := fun q => Go X l rm_X9_areBeside (wM G) 9 76 [(0, .ref (G.2.1 0)), (1, .int p1), (2, .int p2), (4, .int p4), (5, .int x9), (6, .int x11)] [.int q] S) hF J15
          · replace hF := it_t hc20 hF
            refine go_iload_n O dX9_areBeside_62 rfl 4 rfl ?_
            refine go_iload O dX9_areBeside_63 0 rfl ?_
            obtain ⟨x18, hA17, hF⟩ := bd_s hF
            refine go_callSi (As := [.int p2, .int x11]) (rest := []) O (c_X9_has l G hI hA17) (fun s args hts => va_cwS 2 hts gX9_areBeside_X9_has rfl rfl rfl (by decide +kernel) ⟨Nat.le_of_ble_eq_true rfl, Nat.le_of_ble_eq_true rfl⟩) rfl rfl (Nat.le_of_ble_eq_true rfl) dX9_areBeside_65 ?_
            refine go_if_ne (tgt := 75) O dX9_areBeside_68 (by decide) (fun hc19 => ?_) (fun hc19 => ?_)
            · replace hF := it_f hc19 hF
              refine go_iconst (v := (0 : Int32)) O dX9_areBeside_75 (by decide) ?_
              refine go_perm (ls' := [(0, .ref (G.2.1 0)), (1, .int p1), (2, .int p2), (4, .int p4), (5, .int x9), (6, .int x11)]) [2, 3, 4, 6, 1, 0] rfl ?_
              exact jn (P := fun q => Go X l rm_X9_areBeside (wM G) 9 76 [(0, .ref (G.2.1 0)), (1, .int p1), (2, .int p2), (4, .int p4), (5, .int x9), (6, .int x11)] [.int q] S) hF J15
            · replace hF := it_t hc19 hF
              refine go_iconst (v := (1 : Int32)) O dX9_areBeside_71 (by decide) ?_
              refine go_goto (tgt := 76) O dX9_areBeside_72 (by decide) ?_
              refine go_perm (ls' := [(0, .ref (G.2.1 0)), (1, .int p1), (2, .int p2), (4, .int p4), (5, .int x9), (6, .int x11)]) [2, 3, 4, 6, 1, 0] rfl ?_
              exact jn (P := fun q => Go X l rm_X9_areBeside (wM G) 9 76 [(0, .ref (G.2.1 0)), (1, .int p1), (2, .int p2), (4, .int p4), (5, .int x9), (6, .int x11)] [.int q] S) hF J15
def F_X9_areBeside  (S : Sg) (a1 : Int32) : Option Int32 := bd (T_X9_areBeside_7 S a1 FU (0 : Int32) (1 : Int32) (0 : Int32)) (fun x1 => chk (zB x1) (some x1))
set_option maxHeartbeats 4000000 in
set_option maxRecDepth 100000 in
theorem c_X9_areBeside (l : Launch) (G : Gp) (hI : Ij (wM G))  {S : Sg} {a1 : Int32} {r : Int32} (hF : F_X9_areBeside S a1 = some r) : Met l yX9_areBeside wsX9_areBeside rm_X9_areBeside (va_Pc [.ref (G.2.1 0), .int a1] (PreW (wM G) S)) (va_Qi (fun r' u => r' = r ∧ u = S) (PostW (wM G)) (AW (wM G))) 0 0 (AW (wM G)) := by
  rw [F_X9_areBeside] at hF
  refine met_z (cc := cX9_areBeside) (maxL := 9) (own := RX9) hI (by decide) rfl rfl (Nat.le_of_ble_eq_true rfl) (fun X O hR => ?_)
  show Go X l rm_X9_areBeside (wM G) 9 0 [(0, .ref (G.2.1 0)), (1, .int a1)] [] S
  refine go_iconst (v := (0 : Int32)) O dX9_areBeside_0 (by decide) ?_
  refine go_istore_n (ls' := [(2, .int (0 : Int32)), (0, .ref (G.2.1 0)), (1, .int a1)]) O dX9_areBeside_1 rfl (by decide) rfl ?_
  refine go_iconst (v := (1 : Int32)) O dX9_areBeside_2 (by decide) ?_
  refine go_istore_n (ls' := [(3, .int (1 : Int32)), (2, .int (0 : Int32)), (0, .ref (G.2.1 0)), (1, .int a1)]) O dX9_areBeside_3 rfl (by decide) rfl ?_
  refine go_iconst (v := (0 : Int32)) O dX9_areBeside_4 (by decide) ?_
  refine go_istore (ls' := [(4, .int (0 : Int32)), (3, .int (1 : Int32)), (2, .int (0 : Int32)), (0, .ref (G.2.1 0)), (1, .int a1)]) O dX9_areBeside_5 (by decide) rfl ?_
  refine go_perm (ls' := [(0, .ref (G.2.1 0)), (1, .int a1), (2, .int (0 : Int32)), (3, .int (1 : Int32)), (4, .int (0 : Int32))]) [3, 4, 2, 1, 0] rfl ?_
  obtain ⟨x1, hA52, hF⟩ := bd_s hF
  refine lt_X9_areBeside_7 l G hI  O _ _ _ _ _ hA52 ?_
  refine go_iload_n O dX9_areBeside_213 rfl 0 rfl ?_
  obtain ⟨hz53, hF⟩ := chk_s hF
  exact ret_z hF (fun hz => hR _ _ hz dX9_areBeside_214) (zB_s hz53)
-- X9_beside
def rm_X9_beside : Room := { frames := 4, cells := 0, slots := 0, locals := 102 }
theorem fl_X9_beside_156 : Cond.fieldLink RX9 156 "PaperWallsModel" "talkMany" "I" ∈ wsX9_beside := by decide +kernel
theorem in_X9_beside_X9 : ∀ x ∈ u_ws RX9 TX9 36, x ∈ wsX9_beside := by decide +kernel
def F_X9_beside  (S : Sg) (a1 : Int32) : Option Int32 := bd (F_X9_in S (Int32.toInt64 a1) (0 : Int64) (Int32.toInt64 (((1 : Int32) <<< ((S.1 0 10) &&& 31)) - (1 : Int32)))) (fun x2 => if x2 = 0 then (some (-1 : Int32)) else (bd (F_X9_areBeside S a1) (fun x4 => if x4 = 0 then (some (0 : Int32)) else (some (1 : Int32)))))
set_option maxHeartbeats 4000000 in
set_option maxRecDepth 100000 in
theorem c_X9_beside (l : Launch) (G : Gp) (hI : Ij (wM G))  {S : Sg} {a1 : Int32} {r : Int32} (hF : F_X9_beside S a1 = some r) : Met l yX9_beside wsX9_beside rm_X9_beside (va_Pc [.ref (G.2.1 0), .int a1] (PreW (wM G) S)) (va_Qi (fun r' u => r' = r ∧ u = S) (PostW (wM G)) (AW (wM G))) 0 0 (AW (wM G)) := by
  rw [F_X9_beside] at hF
  refine met_i (cc := cX9_beside) (maxL := 2) (own := RX9) hI (by decide) rfl rfl (Nat.le_of_ble_eq_true rfl) (fun X O hR => ?_)
  show Go X l rm_X9_beside (wM G) 2 0 [(0, .ref (G.2.1 0)), (1, .int a1)] [] S
  refine go_iload_n O dX9_beside_0 rfl 1 rfl ?_
  refine go_i2l (v := Int32.toInt64 a1) O dX9_beside_1 rfl ?_
  refine go_lconst (v := (0 : Int64)) O dX9_beside_2 (by decide) ?_
  refine go_iconst (v := (1 : Int32)) O dX9_beside_3 (by decide) ?_
  refine go_aload_n O dX9_beside_4 rfl 0 rfl ?_
  refine go_get (k := 0) (j := 10) O (by decide : (0 : Nat) < 27) (cm_obj G (S.1 0) (S.2 0)) rfl in_X9_beside_X9 (by decide) fl_X9_beside_156 rfl rfl dX9_beside_5 ?_
  refine go_ishl O dX9_beside_8 ?_
  refine go_iconst (v := (1 : Int32)) O dX9_beside_9 (by decide) ?_
  refine go_isub O dX9_beside_10 ?_
  refine go_i2l (v := Int32.toInt64 (((1 : Int32) <<< ((S.1 0 10) &&& 31)) - (1 : Int32))) O dX9_beside_11 rfl ?_
  obtain ⟨x2, hA1, hF⟩ := bd_s hF
  refine go_callSi (As := [.long (Int32.toInt64 a1), .long (0 : Int64), .long (Int32.toInt64 (((1 : Int32) <<< ((S.1 0 10) &&& 31)) - (1 : Int32)))]) (rest := []) O (c_X9_in l G hI hA1) (fun s args hts => va_cwS 3 hts gX9_beside_X9_in rfl rfl rfl (by decide +kernel) ⟨Nat.le_of_ble_eq_true rfl, Nat.le_of_ble_eq_true rfl⟩) rfl rfl (Nat.le_of_ble_eq_true rfl) dX9_beside_12 ?_
  refine go_if_ne (tgt := 22) O dX9_beside_15 (by decide) (fun hc6 => ?_) (fun hc6 => ?_)
  · replace hF := it_f hc6 hF
    refine go_aload_n O dX9_beside_22 rfl 0 rfl ?_
    refine go_iload_n O dX9_beside_23 rfl 1 rfl ?_
    obtain ⟨x4, hA3, hF⟩ := bd_s hF
    refine go_callVi (As := [.int a1]) (rest := []) (b := 0) O (c_X9_areBeside l G hI hA3) (fun s args hts => cwV 1 hts gX9_beside_X9_areBeside rfl rfl rfl (by decide +kernel) ⟨Nat.le_of_ble_eq_true rfl, Nat.le_of_ble_eq_true rfl⟩) (by decide : (0 : Nat) < 27) (cm_obj G (S.1 0) (S.2 0)) rfl rfl rfl rfl (Nat.le_of_ble_eq_true rfl) dX9_beside_24 ?_
    refine go_if_eq (tgt := 34) O dX9_beside_27 (by decide) (fun hc5 => ?_) (fun hc5 => ?_)
    · replace hF := it_t hc5 hF
      refine go_iconst (v := (0 : Int32)) O dX9_beside_34 (by decide) ?_
      exact ret_i hF (hR _ _ dX9_beside_35)
    · replace hF := it_f hc5 hF
      refine go_iconst (v := (1 : Int32)) O dX9_beside_30 (by decide) ?_
      refine go_goto (tgt := 35) O dX9_beside_31 (by decide) ?_
      exact ret_i hF (hR _ _ dX9_beside_35)
  · replace hF := it_t hc6 hF
    refine go_iconst (v := (-1 : Int32)) O dX9_beside_18 (by decide) ?_
    refine go_goto (tgt := 35) O dX9_beside_19 (by decide) ?_
    exact ret_i hF (hR _ _ dX9_beside_35)
-- X9_turns
def rm_X9_turns : Room := { frames := 4, cells := 0, slots := 0, locals := 102 }
theorem fl_X9_turns_64 : Cond.fieldLink RX9 64 "PaperWallsModel" "besides" "[Z" ∈ wsX9_turns := by decide +kernel
theorem fl_X9_turns_68 : Cond.fieldLink RX9 68 "PaperWallsModel" "fewest" "[I" ∈ wsX9_turns := by decide +kernel
theorem fl_X9_turns_156 : Cond.fieldLink RX9 156 "PaperWallsModel" "talkMany" "I" ∈ wsX9_turns := by decide +kernel
theorem in_X9_turns_X9 : ∀ x ∈ u_ws RX9 TX9 36, x ∈ wsX9_turns := by decide +kernel
def T_X9_turns_45   (p1 : Int32) (p2 : Int32) : Nat → Int32 → Sg → Option (Sg)
  | 0, _, _ => none
  | n + 1, p3, S => if p3 = 0 then (some S) else (bd (if ((p3 &&& p2) &&& (-p2)) = 0 then (some S) else (chk (inB p3 256) (if (S.1 19 p3.toNatClampNeg) = 0 then (some S) else (chk (inB (p2 &&& (p3 ^^^ (-1 : Int32))) 256) (nm ((1 : Int32) + (S.1 20 (p2 &&& (p3 ^^^ (-1 : Int32))).toNatClampNeg)) (fun x19 => chk (inB p2 256) (bd (if (S.1 20 p2.toNatClampNeg) ≤ x19 then (chk (inB p2 256) (some (S.1 20 p2.toNatClampNeg))) else (some x19)) (fun x21 => chk (inB p2 256) (nm (wI S 20 p2.toNatClampNeg x21) (fun S27 => some S27)))))))))) (fun S14 => nm ((p3 - (1 : Int32)) &&& p2) (fun x30 => T_X9_turns_45 p1 p2 n x30 S14)))
set_option maxHeartbeats 4000000 in
set_option maxRecDepth 100000 in
theorem lt_X9_turns_45 {X : XT} (l : Launch) (G : Gp) (hI : Ij (wM G))   {p1 : Int32} {p2 : Int32} (O : Ok X (wM G) cX9_turns RX9 wsX9_turns 5) : ∀ (n : Nat) (p3 : Int32) (S : Sg) (q : (Sg)), T_X9_turns_45 p1 p2 n p3 S = some q → (Go X l rm_X9_turns (wM G) 5 118 [(0, .ref (G.2.1 0)), (1, .int p1), (2, .int p2)] [] q) → Go X l rm_X9_turns (wM G) 5 45 [(0, .ref (G.2.1 0)), (1, .int p1), (2, .int p2), (3, .int p3)] [] S := by
  intro n
  induction n with
  | zero =>
    intro p3 S q hF
    cases hF
  | succ n ih =>
    intro p3 S q hF hE
    rw [T_X9_turns_45] at hF
    refine go_iload_n O dX9_turns_45 rfl 3 rfl ?_
    refine go_if_eq (tgt := 118) O dX9_turns_46 (by decide) (fun hc31 => ?_) (fun hc31 => ?_)
    · replace hF := it_t hc31 hF
      refine go_perm (ls' := [(0, .ref (G.2.1 0)), (1, .int p1), (2, .int p2)]) [0, 1, 2] rfl ?_
      exact jn (P := fun q => Go X l rm_X9_turns (wM G) 5 118 [(0, .ref (G.2.1 0)), (1, .int p1), (2, .int p2)] [] q) hF hE
    · replace hF := it_f hc31 hF
      refine go_iload_n O dX9_turns_49 rfl 3 rfl ?_
      refine go_iload_n O dX9_turns_50 rfl 2 rfl ?_
      refine go_iand O dX9_turns_51 ?_
      refine go_iload_n O dX9_turns_52 rfl 2 rfl ?_
      refine go_ineg O dX9_turns_53 ?_
      refine go_iand O dX9_turns_54 ?_
      obtain ⟨S14, hA16, hF⟩ := bd_s hF
      have J15 : Go X l rm_X9_turns (wM G) 5 109 [(0, .ref (G.2.1 0)), (1, .int p1), (2, .int p2), (3, .int p3)] [] S14 := by
        refine go_iload_n O dX9_turns_109 rfl 3 rfl ?_
        refine go_iconst (v := (1 : Int32)) O dX9_turns_110 (by decide) ?_
        refine go_isub O dX9_turns_111 ?_
        refine go_iload_n O dX9_turns_112 rfl 2 rfl ?_
        refine go_iand O dX9_turns_113 ?_
        obtain ⟨x30, ex30, hF⟩ := nm_s hF
        refine go_topi ex30 ?_
        refine go_istore_n (ls' := [(3, .int x30), (0, .ref (G.2.1 0)), (1, .int p1), (2, .int p2)]) O dX9_turns_114 rfl (by decide) rfl ?_
        refine go_goto (tgt := 45) O dX9_turns_115 (by decide) ?_
        refine go_perm (ls' := [(0, .ref (G.2.1 0)), (1, .int p1), (2, .int p2), (3, .int x30)]) [1, 2, 3, 0] rfl ?_
        exact ih _ _ _ hF hE
      replace hF := hA16
      refine go_if_eq (tgt := 109) O dX9_turns_55 (by decide) (fun hc29 => ?_) (fun hc29 => ?_)
      · replace hF := it_t hc29 hF
        exact jn (P := fun q => Go X l rm_X9_turns (wM G) 5 109 [(0, .ref (G.2.1 0)), (1, .int p1), (2, .int p2), (3, .int p3)] [] q) hF J15
      · replace hF := it_f hc29 hF
        refine go_aload_n O dX9_turns_58 rfl 0 rfl ?_
        refine go_get (k := 0) (j := 27) O (by decide : (0 : Nat) < 27) (cm_obj G (S.1 0) (S.2 0)) rfl in_X9_turns_X9 (by decide) fl_X9_turns_64 rfl rfl dX9_turns_59 ?_
        refine go_iload_n O dX9_turns_62 rfl 3 rfl ?_
        obtain ⟨hb17, hF⟩ := chk_s hF
        refine go_zald (k := 19) O (by decide : (19 : Nat) < 27) (cm_19 G (S.1 19) (S.2 19)) (inB_in hb17) dX9_turns_63 ?_
        refine go_if_eq (tgt := 109) O dX9_turns_64 (by decide) (fun hc28 => ?_) (fun hc28 => ?_)
        · replace hF := it_t hc28 hF
          exact jn (P := fun q => Go X l rm_X9_turns (wM G) 5 109 [(0, .ref (G.2.1 0)), (1, .int p1), (2, .int p2), (3, .int p3)] [] q) hF J15
        · replace hF := it_f hc28 hF
          refine go_iconst (v := (1 : Int32)) O dX9_turns_67 (by decide) ?_
          refine go_aload_n O dX9_turns_68 rfl 0 rfl ?_
          refine go_get (k := 0) (j := 28) O (by decide : (0 : Nat) < 27) (cm_obj G (S.1 0) (S.2 0)) rfl in_X9_turns_X9 (by decide) fl_X9_turns_68 rfl rfl dX9_turns_69 ?_
          refine go_iload_n O dX9_turns_72 rfl 2 rfl ?_
          refine go_iload_n O dX9_turns_73 rfl 3 rfl ?_
          refine go_iconst (v := (-1 : Int32)) O dX9_turns_74 (by decide) ?_
          refine go_ixor O dX9_turns_75 ?_
          refine go_iand O dX9_turns_76 ?_
          obtain ⟨hb18, hF⟩ := chk_s hF
          refine go_iald (k := 20) O (by decide : (20 : Nat) < 27) (cm_20 G (S.1 20) (S.2 20)) (inB_in hb18) dX9_turns_77 ?_
          refine go_iadd O dX9_turns_78 ?_
          obtain ⟨x19, ex19, hF⟩ := nm_s hF
          refine go_topi ex19 ?_
          refine go_istore (ls' := [(4, .int x19), (0, .ref (G.2.1 0)), (1, .int p1), (2, .int p2), (3, .int p3)]) O dX9_turns_79 (by decide) rfl ?_
          refine go_aload_n O dX9_turns_81 rfl 1 rfl ?_
          refine go_get (k := 0) (j := 28) O (by decide : (0 : Nat) < 27) (cm_obj G (S.1 0) (S.2 0)) rfl in_X9_turns_X9 (by decide) fl_X9_turns_68 rfl rfl dX9_turns_82 ?_
          refine go_iload_n O dX9_turns_85 rfl 3 rfl ?_
          refine go_iload O dX9_turns_86 0 rfl ?_
          refine go_aload_n O dX9_turns_88 rfl 1 rfl ?_
          refine go_get (k := 0) (j := 28) O (by decide : (0 : Nat) < 27) (cm_obj G (S.1 0) (S.2 0)) rfl in_X9_turns_X9 (by decide) fl_X9_turns_68 rfl rfl dX9_turns_89 ?_
          refine go_iload_n O dX9_turns_92 rfl 3 rfl ?_
          obtain ⟨hb20, hF⟩ := chk_s hF
          refine go_iald (k := 20) O (by decide : (20 : Nat) < 27) (cm_20 G (S.1 20) (S.2 20)) (inB_in hb20) dX9_turns_93 ?_
          obtain ⟨x21, hA23, hF⟩ := bd_s hF
          have J22 : Go X l rm_X9_turns (wM G) 5 108 [(0, .ref (G.2.1 0)), (1, .int p1), (2, .int p2), (3, .int p3)] [.int x21, .int p2, .ref (G.2.1 20)] S := by
            obtain ⟨hb26, hF⟩ := chk_s hF
            obtain ⟨S27, eS27, hF⟩ := nm_s hF
            refine go_iast (k := 20) O (by decide : (20 : Nat) < 27) (fun f => (cm_20 G f (S.2 20))) (inB_in hb26) dX9_turns_108 eS27 ?_
            exact jn (P := fun q => Go X l rm_X9_turns (wM G) 5 109 [(0, .ref (G.2.1 0)), (1, .int p1), (2, .int p2), (3, .int p3)] [] q) hF J15
          replace hF := hA23
          refine go_icmp_ge (tgt := 102) O dX9_turns_94 (by decide) (fun hc25 => ?_) (fun hc25 => ?_)
          · replace hF := it_t hc25 hF
            refine go_aload_n O dX9_turns_102 rfl 1 rfl ?_
            refine go_get (k := 0) (j := 28) O (by decide : (0 : Nat) < 27) (cm_obj G (S.1 0) (S.2 0)) rfl in_X9_turns_X9 (by decide) fl_X9_turns_68 rfl rfl dX9_turns_103 ?_
            refine go_iload_n O dX9_turns_106 rfl 3 rfl ?_
            obtain ⟨hb24, hF⟩ := chk_s hF
            refine go_iald (k := 20) O (by decide : (20 : Nat) < 27) (cm_20 G (S.1 20) (S.2 20)) (inB_in hb24) dX9_turns_107 ?_
            refine go_perm (ls' := [(0, .ref (G.2.1 0)), (1, .int p1), (2, .int p2), (3, .int p3)]) [1, 2, 3, 4] rfl ?_
            exact jn (P := fun q => Go X l rm_X9_turns (wM G) 5 108 [(0, .ref (G.2.1 0)), (1, .int p1), (2, .int p2), (3, .int p3)] [.int q, .int p2, .ref (G.2.1 20)] S) hF J22
          · replace hF := it_f hc25 hF
            refine go_iload O dX9_turns_97 0 rfl ?_
            refine go_goto (tgt := 108) O dX9_turns_99 (by decide) ?_
            refine go_perm (ls' := [(0, .ref (G.2.1 0)), (1, .int p1), (2, .int p2), (3, .int p3)]) [1, 2, 3, 4] rfl ?_
            exact jn (P := fun q => Go X l rm_X9_turns (wM G) 5 108 [(0, .ref (G.2.1 0)), (1, .int p1), (2, .int p2), (3, .int p3)] [.int q, .int p2, .ref (G.2.1 20)] S) hF J22
def T_X9_turns_11   (p1 : Int32) : Nat → Int32 → Sg → Option (Sg)
  | 0, _, _ => none
  | n + 1, p2, S => if p1 < p2 then (some S) else (bd (F_X9_areBeside S p2) (fun x4 => chk (inB p2 256) (nm (wI S 19 p2.toNatClampNeg (vp_nar .boolean x4)) (fun S6 => bd (if p2 = 0 then (some (0 : Int32)) else (some (100 : Int32))) (fun x7 => chk (inB p2 256) (nm (wI S6 20 p2.toNatClampNeg x7) (fun S12 => bd (T_X9_turns_45 p1 p2 FU p2 S12) (fun S13 => T_X9_turns_11 p1 n (p2 + (1 : Int32)) S13))))))))
set_option maxHeartbeats 4000000 in
set_option maxRecDepth 100000 in
theorem lt_X9_turns_11 {X : XT} (l : Launch) (G : Gp) (hI : Ij (wM G))   {p1 : Int32} (O : Ok X (wM G) cX9_turns RX9 wsX9_turns 5) : ∀ (n : Nat) (p2 : Int32) (S : Sg) (q : (Sg)), T_X9_turns_11 p1 n p2 S = some q → (Go X l rm_X9_turns (wM G) 5 124 [(0, .ref (G.2.1 0)), (1, .int p1)] [] q) → Go X l rm_X9_turns (wM G) 5 11 [(0, .ref (G.2.1 0)), (1, .int p1), (2, .int p2)] [] S := by
  intro n
  induction n with
  | zero =>
    intro p2 S q hF
    cases hF
  | succ n ih =>
    intro p2 S q hF hE
    rw [T_X9_turns_11] at hF
    refine go_iload_n O dX9_turns_11 rfl 2 rfl ?_
    refine go_iload_n O dX9_turns_12 rfl 1 rfl ?_
    refine go_icmp_gt (tgt := 124) O dX9_turns_13 (by decide) (fun hc33 => ?_) (fun hc33 => ?_)
    · replace hF := it_t hc33 hF
      refine go_perm (ls' := [(0, .ref (G.2.1 0)), (1, .int p1)]) [0, 1] rfl ?_
      exact jn (P := fun q => Go X l rm_X9_turns (wM G) 5 124 [(0, .ref (G.2.1 0)), (1, .int p1)] [] q) hF hE
    · replace hF := it_f hc33 hF
      refine go_aload_n O dX9_turns_16 rfl 0 rfl ?_
      refine go_get (k := 0) (j := 27) O (by decide : (0 : Nat) < 27) (cm_obj G (S.1 0) (S.2 0)) rfl in_X9_turns_X9 (by decide) fl_X9_turns_64 rfl rfl dX9_turns_17 ?_
      refine go_iload_n O dX9_turns_20 rfl 2 rfl ?_
      refine go_aload_n O dX9_turns_21 rfl 0 rfl ?_
      refine go_iload_n O dX9_turns_22 rfl 2 rfl ?_
      obtain ⟨x4, hA3, hF⟩ := bd_s hF
      refine go_callVi (As := [.int p2]) (rest := [.int p2, .ref (G.2.1 19)]) (b := 0) O (c_X9_areBeside l G hI hA3) (fun s args hts => cwV 1 hts gX9_turns_X9_areBeside rfl rfl rfl (by decide +kernel) ⟨Nat.le_of_ble_eq_true rfl, Nat.le_of_ble_eq_true rfl⟩) (by decide : (0 : Nat) < 27) (cm_obj G (S.1 0) (S.2 0)) rfl rfl rfl rfl (Nat.le_of_ble_eq_true rfl) dX9_turns_23 ?_
      obtain ⟨hb5, hF⟩ := chk_s hF
      obtain ⟨S6, eS6, hF⟩ := nm_s hF
      refine go_zast (k := 19) O (by decide : (19 : Nat) < 27) (fun f => (cm_19 G f (S.2 19))) (inB_in hb5) dX9_turns_26 eS6 ?_
      refine go_aload_n O dX9_turns_27 rfl 0 rfl ?_
      refine go_get (k := 0) (j := 28) O (by decide : (0 : Nat) < 27) (cm_obj G (S6.1 0) (S6.2 0)) rfl in_X9_turns_X9 (by decide) fl_X9_turns_68 rfl rfl dX9_turns_28 ?_
      refine go_iload_n O dX9_turns_31 rfl 2 rfl ?_
      refine go_iload_n O dX9_turns_32 rfl 2 rfl ?_
      obtain ⟨x7, hA9, hF⟩ := bd_s hF
      have J8 : Go X l rm_X9_turns (wM G) 5 42 [(0, .ref (G.2.1 0)), (1, .int p1), (2, .int p2)] [.int x7, .int p2, .ref (G.2.1 20)] S6 := by
        obtain ⟨hb11, hF⟩ := chk_s hF
        obtain ⟨S12, eS12, hF⟩ := nm_s hF
        refine go_iast (k := 20) O (by decide : (20 : Nat) < 27) (fun f => (cm_20 G f (S6.2 20))) (inB_in hb11) dX9_turns_42 eS12 ?_
        refine go_iload_n O dX9_turns_43 rfl 2 rfl ?_
        refine go_istore_n (ls' := [(3, .int p2), (0, .ref (G.2.1 0)), (1, .int p1), (2, .int p2)]) O dX9_turns_44 rfl (by decide) rfl ?_
        refine go_perm (ls' := [(0, .ref (G.2.1 0)), (1, .int p1), (2, .int p2), (3, .int p2)]) [1, 2, 3, 0] rfl ?_
        obtain ⟨S13, hA32, hF⟩ := bd_s hF
        refine lt_X9_turns_45 l G hI  O _ _ _ _ hA32 ?_
        refine go_iinc (d := (1 : Int32)) (ls' := [(2, .int (p2 + (1 : Int32))), (0, .ref (G.2.1 0)), (1, .int p1)]) O dX9_turns_118 2 rfl (by decide) (by decide) rfl ?_
        refine go_goto (tgt := 11) O dX9_turns_121 (by decide) ?_
        refine go_perm (ls' := [(0, .ref (G.2.1 0)), (1, .int p1), (2, .int (p2 + (1 : Int32)))]) [1, 2, 0] rfl ?_
        exact ih _ _ _ hF hE
      replace hF := hA9
      refine go_if_ne (tgt := 40) O dX9_turns_33 (by decide) (fun hc10 => ?_) (fun hc10 => ?_)
      · replace hF := it_f hc10 hF
        refine go_bipush (v := (100 : Int32)) O dX9_turns_40 (by decide) ?_
        exact jn (P := fun q => Go X l rm_X9_turns (wM G) 5 42 [(0, .ref (G.2.1 0)), (1, .int p1), (2, .int p2)] [.int q, .int p2, .ref (G.2.1 20)] S6) hF J8
      · replace hF := it_t hc10 hF
        refine go_iconst (v := (0 : Int32)) O dX9_turns_36 (by decide) ?_
        refine go_goto (tgt := 42) O dX9_turns_37 (by decide) ?_
        exact jn (P := fun q => Go X l rm_X9_turns (wM G) 5 42 [(0, .ref (G.2.1 0)), (1, .int p1), (2, .int p2)] [.int q, .int p2, .ref (G.2.1 20)] S6) hF J8
def T_X9_turns_142  (S : Sg) (p1 : Int32) : Nat → Int32 → Int32 → Option (Int32)
  | 0, _, _ => none
  | n + 1, p2, p3 => if p3 = 0 then (some p2) else (bd (F_X9_has S p3 (0 : Int32)) (fun x38 => bd (if x38 = 0 then (some p2) else (chk (inB p3 256) (if (S.1 19 p3.toNatClampNeg) = 0 then (some p2) else (chk (inB (p1 &&& (p3 ^^^ (-1 : Int32))) 256) (chk (inB p1 256) (if ((1 : Int32) + (S.1 20 (p1 &&& (p3 ^^^ (-1 : Int32))).toNatClampNeg)) = (S.1 20 p1.toNatClampNeg) then (some p3) else (some p2))))))) (fun x39 => nm ((p3 - (1 : Int32)) &&& p1) (fun x48 => T_X9_turns_142 S p1 n x39 x48))))
set_option maxHeartbeats 4000000 in
set_option maxRecDepth 100000 in
theorem lt_X9_turns_142 {X : XT} (l : Launch) (G : Gp) (hI : Ij (wM G))  {S : Sg} {p1 : Int32} (O : Ok X (wM G) cX9_turns RX9 wsX9_turns 5) : ∀ (n : Nat) (p2 : Int32) (p3 : Int32)  (q : (Int32)), T_X9_turns_142 S p1 n p2 p3  = some q → (Go X l rm_X9_turns (wM G) 5 199 [(0, .ref (G.2.1 0)), (1, .int p1), (2, .int q)] [] S) → Go X l rm_X9_turns (wM G) 5 142 [(0, .ref (G.2.1 0)), (1, .int p1), (2, .int p2), (3, .int p3)] [] S := by
  intro n
  induction n with
  | zero =>
    intro p2 p3  q hF
    cases hF
  | succ n ih =>
    intro p2 p3  q hF hE
    rw [T_X9_turns_142] at hF
    refine go_iload_n O dX9_turns_142 rfl 3 rfl ?_
    refine go_if_eq (tgt := 199) O dX9_turns_143 (by decide) (fun hc49 => ?_) (fun hc49 => ?_)
    · replace hF := it_t hc49 hF
      refine go_perm (ls' := [(0, .ref (G.2.1 0)), (1, .int p1), (2, .int p2)]) [0, 1, 2] rfl ?_
      exact jn (P := fun q => Go X l rm_X9_turns (wM G) 5 199 [(0, .ref (G.2.1 0)), (1, .int p1), (2, .int q)] [] S) hF hE
    · replace hF := it_f hc49 hF
      refine go_iload_n O dX9_turns_146 rfl 3 rfl ?_
      refine go_iconst (v := (0 : Int32)) O dX9_turns_147 (by decide) ?_
      obtain ⟨x38, hA37, hF⟩ := bd_s hF
      refine go_callSi (As := [.int p3, .int (0 : Int32)]) (rest := []) O (c_X9_has l G hI hA37) (fun s args hts => va_cwS 2 hts gX9_turns_X9_has rfl rfl rfl (by decide +kernel) ⟨Nat.le_of_ble_eq_true rfl, Nat.le_of_ble_eq_true rfl⟩) rfl rfl (Nat.le_of_ble_eq_true rfl) dX9_turns_148 ?_
      obtain ⟨x39, hA41, hF⟩ := bd_s hF
      have J40 : Go X l rm_X9_turns (wM G) 5 189 [(0, .ref (G.2.1 0)), (1, .int p1), (3, .int p3)] [.int x39] S := by
        refine go_istore_n (ls' := [(2, .int x39), (0, .ref (G.2.1 0)), (1, .int p1), (3, .int p3)]) O dX9_turns_189 rfl (by decide) rfl ?_
        refine go_iload_n O dX9_turns_190 rfl 3 rfl ?_
        refine go_iconst (v := (1 : Int32)) O dX9_turns_191 (by decide) ?_
        refine go_isub O dX9_turns_192 ?_
        refine go_iload_n O dX9_turns_193 rfl 2 rfl ?_
        refine go_iand O dX9_turns_194 ?_
        obtain ⟨x48, ex48, hF⟩ := nm_s hF
        refine go_topi ex48 ?_
        refine go_istore_n (ls' := [(3, .int x48), (2, .int x39), (0, .ref (G.2.1 0)), (1, .int p1)]) O dX9_turns_195 rfl (by decide) rfl ?_
        refine go_goto (tgt := 142) O dX9_turns_196 (by decide) ?_
        refine go_perm (ls' := [(0, .ref (G.2.1 0)), (1, .int p1), (2, .int x39), (3, .int x48)]) [2, 3, 1, 0] rfl ?_
        exact ih _ _ _ hF hE
      replace hF := hA41
      refine go_if_eq (tgt := 188) O dX9_turns_151 (by decide) (fun hc47 => ?_) (fun hc47 => ?_)
      · replace hF := it_t hc47 hF
        refine go_iload_n O dX9_turns_188 rfl 2 rfl ?_
        refine go_perm (ls' := [(0, .ref (G.2.1 0)), (1, .int p1), (3, .int p3)]) [0, 1, 3] rfl ?_
        exact jn (P := fun q => Go X l rm_X9_turns (wM G) 5 189 [(0, .ref (G.2.1 0)), (1, .int p1), (3, .int p3)] [.int q] S) hF J40
      · replace hF := it_f hc47 hF
        refine go_aload_n O dX9_turns_154 rfl 0 rfl ?_
        refine go_get (k := 0) (j := 27) O (by decide : (0 : Nat) < 27) (cm_obj G (S.1 0) (S.2 0)) rfl in_X9_turns_X9 (by decide) fl_X9_turns_64 rfl rfl dX9_turns_155 ?_
        refine go_iload_n O dX9_turns_158 rfl 3 rfl ?_
        obtain ⟨hb42, hF⟩ := chk_s hF
        refine go_zald (k := 19) O (by decide : (19 : Nat) < 27) (cm_19 G (S.1 19) (S.2 19)) (inB_in hb42) dX9_turns_159 ?_
        refine go_if_eq (tgt := 188) O dX9_turns_160 (by decide) (fun hc46 => ?_) (fun hc46 => ?_)
        · replace hF := it_t hc46 hF
          refine go_iload_n O dX9_turns_188 rfl 2 rfl ?_
          refine go_perm (ls' := [(0, .ref (G.2.1 0)), (1, .int p1), (3, .int p3)]) [0, 1, 3] rfl ?_
          exact jn (P := fun q => Go X l rm_X9_turns (wM G) 5 189 [(0, .ref (G.2.1 0)), (1, .int p1), (3, .int p3)] [.int q] S) hF J40
        · replace hF := it_f hc46 hF
          refine go_iconst (v := (1 : Int32)) O dX9_turns_163 (by decide) ?_
          refine go_aload_n O dX9_turns_164 rfl 0 rfl ?_
          refine go_get (k := 0) (j := 28) O (by decide : (0 : Nat) < 27) (cm_obj G (S.1 0) (S.2 0)) rfl in_X9_turns_X9 (by decide) fl_X9_turns_68 rfl rfl dX9_turns_165 ?_
          refine go_iload_n O dX9_turns_168 rfl 1 rfl ?_
          refine go_iload_n O dX9_turns_169 rfl 3 rfl ?_
          refine go_iconst (v := (-1 : Int32)) O dX9_turns_170 (by decide) ?_
          refine go_ixor O dX9_turns_171 ?_
          refine go_iand O dX9_turns_172 ?_
          obtain ⟨hb43, hF⟩ := chk_s hF
          refine go_iald (k := 20) O (by decide : (20 : Nat) < 27) (cm_20 G (S.1 20) (S.2 20)) (inB_in hb43) dX9_turns_173 ?_
          refine go_iadd O dX9_turns_174 ?_
          refine go_aload_n O dX9_turns_175 rfl 0 rfl ?_
          refine go_get (k := 0) (j := 28) O (by decide : (0 : Nat) < 27) (cm_obj G (S.1 0) (S.2 0)) rfl in_X9_turns_X9 (by decide) fl_X9_turns_68 rfl rfl dX9_turns_176 ?_
          refine go_iload_n O dX9_turns_179 rfl 1 rfl ?_
          obtain ⟨hb44, hF⟩ := chk_s hF
          refine go_iald (k := 20) O (by decide : (20 : Nat) < 27) (cm_20 G (S.1 20) (S.2 20)) (inB_in hb44) dX9_turns_180 ?_
          refine go_icmp_ne (tgt := 188) O dX9_turns_181 (by decide) (fun hc45 => ?_) (fun hc45 => ?_)
          · replace hF := it_f hc45 hF
            refine go_iload_n O dX9_turns_188 rfl 2 rfl ?_
            refine go_perm (ls' := [(0, .ref (G.2.1 0)), (1, .int p1), (3, .int p3)]) [0, 1, 3] rfl ?_
            exact jn (P := fun q => Go X l rm_X9_turns (wM G) 5 189 [(0, .ref (G.2.1 0)), (1, .int p1), (3, .int p3)] [.int q] S) hF J40
          · replace hF := it_t hc45 hF
            refine go_iload_n O dX9_turns_184 rfl 3 rfl ?_
            refine go_goto (tgt := 189) O dX9_turns_185 (by decide) ?_
            refine go_perm (ls' := [(0, .ref (G.2.1 0)), (1, .int p1), (3, .int p3)]) [0, 1, 3] rfl ?_
            exact jn (P := fun q => Go X l rm_X9_turns (wM G) 5 189 [(0, .ref (G.2.1 0)), (1, .int p1), (3, .int p3)] [.int q] S) hF J40
def F_X9_turns  (S : Sg)  : Option (Int32 × Sg) := nm (((1 : Int32) <<< ((S.1 0 10) &&& 31)) - (1 : Int32)) (fun x1 => bd (T_X9_turns_11 x1 FU (0 : Int32) S) (fun S2 => chk (inB x1 256) (if (S2.1 20 x1.toNatClampNeg) < (100 : Int32) then (bd (T_X9_turns_142 S2 x1 FU (0 : Int32) x1) (fun x36 => chk (inB x1 256) (bd (F_X9_say S2 (S2.1 20 x1.toNatClampNeg) x36) (fun (x53, S54) => some (x53, S54))))) else (some ((-9 : Int32), S2)))))
set_option maxHeartbeats 4000000 in
set_option maxRecDepth 100000 in
theorem c_X9_turns (l : Launch) (G : Gp) (hI : Ij (wM G))  {S : Sg} {r : Int32} {S1 : Sg} (hF : F_X9_turns S = some (r, S1)) : Met l yX9_turns wsX9_turns rm_X9_turns (va_Pc [.ref (G.2.1 0)] (PreW (wM G) S)) (va_Qi (fun r' u => r' = r ∧ u = S1) (PostW (wM G)) (AW (wM G))) 0 0 (AW (wM G)) := by
  rw [F_X9_turns] at hF
  refine met_i (cc := cX9_turns) (maxL := 5) (own := RX9) hI (by decide) rfl rfl (Nat.le_of_ble_eq_true rfl) (fun X O hR => ?_)
  show Go X l rm_X9_turns (wM G) 5 0 [(0, .ref (G.2.1 0))] [] S
  refine go_iconst (v := (1 : Int32)) O dX9_turns_0 (by decide) ?_
  refine go_aload_n O dX9_turns_1 rfl 0 rfl ?_
  refine go_get (k := 0) (j := 10) O (by decide : (0 : Nat) < 27) (cm_obj G (S.1 0) (S.2 0)) rfl in_X9_turns_X9 (by decide) fl_X9_turns_156 rfl rfl dX9_turns_2 ?_
  refine go_ishl O dX9_turns_5 ?_
  refine go_iconst (v := (1 : Int32)) O dX9_turns_6 (by decide) ?_
  refine go_isub O dX9_turns_7 ?_
  obtain ⟨x1, ex1, hF⟩ := nm_s hF
  refine go_topi ex1 ?_
  refine go_istore_n (ls' := [(1, .int x1), (0, .ref (G.2.1 0))]) O dX9_turns_8 rfl (by decide) rfl ?_
  refine go_iconst (v := (0 : Int32)) O dX9_turns_9 (by decide) ?_
  refine go_istore_n (ls' := [(2, .int (0 : Int32)), (1, .int x1), (0, .ref (G.2.1 0))]) O dX9_turns_10 rfl (by decide) rfl ?_
  refine go_perm (ls' := [(0, .ref (G.2.1 0)), (1, .int x1), (2, .int (0 : Int32))]) [2, 1, 0] rfl ?_
  obtain ⟨S2, hA34, hF⟩ := bd_s hF
  refine lt_X9_turns_11 l G hI  O _ _ _ _ hA34 ?_
  refine go_aload_n O dX9_turns_124 rfl 0 rfl ?_
  refine go_get (k := 0) (j := 28) O (by decide : (0 : Nat) < 27) (cm_obj G (S2.1 0) (S2.2 0)) rfl in_X9_turns_X9 (by decide) fl_X9_turns_68 rfl rfl dX9_turns_125 ?_
  refine go_iload_n O dX9_turns_128 rfl 1 rfl ?_
  obtain ⟨hb35, hF⟩ := chk_s hF
  refine go_iald (k := 20) O (by decide : (20 : Nat) < 27) (cm_20 G (S2.1 20) (S2.2 20)) (inB_in hb35) dX9_turns_129 ?_
  refine go_bipush (v := (100 : Int32)) O dX9_turns_130 (by decide) ?_
  refine go_icmp_lt (tgt := 138) O dX9_turns_132 (by decide) (fun hc55 => ?_) (fun hc55 => ?_)
  · replace hF := it_t hc55 hF
    refine go_iconst (v := (0 : Int32)) O dX9_turns_138 (by decide) ?_
    refine go_istore_n (ls' := [(2, .int (0 : Int32)), (0, .ref (G.2.1 0)), (1, .int x1)]) O dX9_turns_139 rfl (by decide) rfl ?_
    refine go_iload_n O dX9_turns_140 rfl 2 rfl ?_
    refine go_istore_n (ls' := [(3, .int x1), (2, .int (0 : Int32)), (0, .ref (G.2.1 0)), (1, .int x1)]) O dX9_turns_141 rfl (by decide) rfl ?_
    refine go_perm (ls' := [(0, .ref (G.2.1 0)), (1, .int x1), (2, .int (0 : Int32)), (3, .int x1)]) [2, 3, 1, 0] rfl ?_
    obtain ⟨x36, hA50, hF⟩ := bd_s hF
    refine lt_X9_turns_142 l G hI  O _ _ _ _ hA50 ?_
    refine go_aload_n O dX9_turns_199 rfl 0 rfl ?_
    refine go_aload_n O dX9_turns_200 rfl 0 rfl ?_
    refine go_get (k := 0) (j := 28) O (by decide : (0 : Nat) < 27) (cm_obj G (S2.1 0) (S2.2 0)) rfl in_X9_turns_X9 (by decide) fl_X9_turns_68 rfl rfl dX9_turns_201 ?_
    refine go_iload_n O dX9_turns_204 rfl 1 rfl ?_
    obtain ⟨hb51, hF⟩ := chk_s hF
    refine go_iald (k := 20) O (by decide : (20 : Nat) < 27) (cm_20 G (S2.1 20) (S2.2 20)) (inB_in hb51) dX9_turns_205 ?_
    refine go_iload_n O dX9_turns_206 rfl 2 rfl ?_
    obtain ⟨⟨x53, S54⟩, hA52, hF⟩ := bd_s hF
    refine go_callVi (As := [.int (S2.1 20 x1.toNatClampNeg), .int x36]) (rest := []) (b := 0) O (c_X9_say l G hI hA52) (fun s args hts => cwV 2 hts gX9_turns_X9_say rfl rfl rfl (by decide +kernel) ⟨Nat.le_of_ble_eq_true rfl, Nat.le_of_ble_eq_true rfl⟩) (by decide : (0 : Nat) < 27) (cm_obj G (S2.1 0) (S2.2 0)) rfl rfl rfl rfl (Nat.le_of_ble_eq_true rfl) dX9_turns_207 ?_
    exact ret_wi hF (hR _ _ dX9_turns_210)
  · replace hF := it_f hc55 hF
    refine go_bipush (v := (-9 : Int32)) O dX9_turns_135 (by decide) ?_
    exact ret_wi hF (hR _ _ dX9_turns_137)
-- X9_most
def rm_X9_most : Room := { frames := 4, cells := 0, slots := 0, locals := 102 }
theorem fl_X9_most_156 : Cond.fieldLink RX9 156 "PaperWallsModel" "talkMany" "I" ∈ wsX9_most := by decide +kernel
theorem in_X9_most_X9 : ∀ x ∈ u_ws RX9 TX9 36, x ∈ wsX9_most := by decide +kernel
def T_X9_most_4  (S : Sg)  : Nat → Int32 → Int32 → Option (Int32)
  | 0, _, _ => none
  | n + 1, p1, p2 => if ((1 : Int32) <<< ((S.1 0 10) &&& 31)) ≤ p2 then (some p1) else (bd (F_X9_ones S p2) (fun x3 => bd (F_X9_ones S p1) (fun x5 => bd (if x3 ≤ x5 then (some p1) else (bd (F_X9_areBeside S p2) (fun x10 => if x10 = 0 then (some p1) else (some p2)))) (fun x6 => T_X9_most_4 S n x6 (p2 + (1 : Int32))))))
set_option maxHeartbeats 4000000 in
set_option maxRecDepth 100000 in
theorem lt_X9_most_4 {X : XT} (l : Launch) (G : Gp) (hI : Ij (wM G))  {S : Sg} (O : Ok X (wM G) cX9_most RX9 wsX9_most 3) : ∀ (n : Nat) (p1 : Int32) (p2 : Int32)  (q : (Int32)), T_X9_most_4 S n p1 p2  = some q → (Go X l rm_X9_most (wM G) 3 45 [(0, .ref (G.2.1 0)), (1, .int q)] [] S) → Go X l rm_X9_most (wM G) 3 4 [(0, .ref (G.2.1 0)), (1, .int p1), (2, .int p2)] [] S := by
  intro n
  induction n with
  | zero =>
    intro p1 p2  q hF
    cases hF
  | succ n ih =>
    intro p1 p2  q hF hE
    rw [T_X9_most_4] at hF
    refine go_iload_n O dX9_most_4 rfl 2 rfl ?_
    refine go_iconst (v := (1 : Int32)) O dX9_most_5 (by decide) ?_
    refine go_aload_n O dX9_most_6 rfl 0 rfl ?_
    refine go_get (k := 0) (j := 10) O (by decide : (0 : Nat) < 27) (cm_obj G (S.1 0) (S.2 0)) rfl in_X9_most_X9 (by decide) fl_X9_most_156 rfl rfl dX9_most_7 ?_
    refine go_ishl O dX9_most_10 ?_
    refine go_icmp_ge (tgt := 45) O dX9_most_11 (by decide) (fun hc13 => ?_) (fun hc13 => ?_)
    · replace hF := it_t hc13 hF
      refine go_perm (ls' := [(0, .ref (G.2.1 0)), (1, .int p1)]) [0, 1] rfl ?_
      exact jn (P := fun q => Go X l rm_X9_most (wM G) 3 45 [(0, .ref (G.2.1 0)), (1, .int q)] [] S) hF hE
    · replace hF := it_f hc13 hF
      refine go_iload_n O dX9_most_14 rfl 2 rfl ?_
      obtain ⟨x3, hA2, hF⟩ := bd_s hF
      refine go_callSi (As := [.int p2]) (rest := []) O (c_X9_ones l G hI hA2) (fun s args hts => va_cwS 1 hts gX9_most_X9_ones rfl rfl rfl (by decide +kernel) ⟨Nat.le_of_ble_eq_true rfl, Nat.le_of_ble_eq_true rfl⟩) rfl rfl (Nat.le_of_ble_eq_true rfl) dX9_most_15 ?_
      refine go_iload_n O dX9_most_18 rfl 1 rfl ?_
      obtain ⟨x5, hA4, hF⟩ := bd_s hF
      refine go_callSi (As := [.int p1]) (rest := [.int x3]) O (c_X9_ones l G hI hA4) (fun s args hts => va_cwS 1 hts gX9_most_X9_ones rfl rfl rfl (by decide +kernel) ⟨Nat.le_of_ble_eq_true rfl, Nat.le_of_ble_eq_true rfl⟩) rfl rfl (Nat.le_of_ble_eq_true rfl) dX9_most_19 ?_
      obtain ⟨x6, hA8, hF⟩ := bd_s hF
      have J7 : Go X l rm_X9_most (wM G) 3 38 [(0, .ref (G.2.1 0)), (2, .int p2)] [.int x6] S := by
        refine go_istore_n (ls' := [(1, .int x6), (0, .ref (G.2.1 0)), (2, .int p2)]) O dX9_most_38 rfl (by decide) rfl ?_
        refine go_iinc (d := (1 : Int32)) (ls' := [(2, .int (p2 + (1 : Int32))), (1, .int x6), (0, .ref (G.2.1 0))]) O dX9_most_39 2 rfl (by decide) (by decide) rfl ?_
        refine go_goto (tgt := 4) O dX9_most_42 (by decide) ?_
        refine go_perm (ls' := [(0, .ref (G.2.1 0)), (1, .int x6), (2, .int (p2 + (1 : Int32)))]) [2, 1, 0] rfl ?_
        exact ih _ _ _ hF hE
      replace hF := hA8
      refine go_icmp_le (tgt := 37) O dX9_most_22 (by decide) (fun hc12 => ?_) (fun hc12 => ?_)
      · replace hF := it_t hc12 hF
        refine go_iload_n O dX9_most_37 rfl 1 rfl ?_
        refine go_perm (ls' := [(0, .ref (G.2.1 0)), (2, .int p2)]) [0, 2] rfl ?_
        exact jn (P := fun q => Go X l rm_X9_most (wM G) 3 38 [(0, .ref (G.2.1 0)), (2, .int p2)] [.int q] S) hF J7
      · replace hF := it_f hc12 hF
        refine go_aload_n O dX9_most_25 rfl 0 rfl ?_
        refine go_iload_n O dX9_most_26 rfl 2 rfl ?_
        obtain ⟨x10, hA9, hF⟩ := bd_s hF
        refine go_callVi (As := [.int p2]) (rest := []) (b := 0) O (c_X9_areBeside l G hI hA9) (fun s args hts => cwV 1 hts gX9_most_X9_areBeside rfl rfl rfl (by decide +kernel) ⟨Nat.le_of_ble_eq_true rfl, Nat.le_of_ble_eq_true rfl⟩) (by decide : (0 : Nat) < 27) (cm_obj G (S.1 0) (S.2 0)) rfl rfl rfl rfl (Nat.le_of_ble_eq_true rfl) dX9_most_27 ?_
        refine go_if_eq (tgt := 37) O dX9_most_30 (by decide) (fun hc11 => ?_) (fun hc11 => ?_)
        · replace hF := it_t hc11 hF
          refine go_iload_n O dX9_most_37 rfl 1 rfl ?_
          refine go_perm (ls' := [(0, .ref (G.2.1 0)), (2, .int p2)]) [0, 2] rfl ?_
          exact jn (P := fun q => Go X l rm_X9_most (wM G) 3 38 [(0, .ref (G.2.1 0)), (2, .int p2)] [.int q] S) hF J7
        · replace hF := it_f hc11 hF
          refine go_iload_n O dX9_most_33 rfl 2 rfl ?_
          refine go_goto (tgt := 38) O dX9_most_34 (by decide) ?_
          refine go_perm (ls' := [(0, .ref (G.2.1 0)), (2, .int p2)]) [0, 2] rfl ?_
          exact jn (P := fun q => Go X l rm_X9_most (wM G) 3 38 [(0, .ref (G.2.1 0)), (2, .int p2)] [.int q] S) hF J7
def F_X9_most  (S : Sg)  : Option (Int32 × Sg) := bd (T_X9_most_4 S FU (0 : Int32) (0 : Int32)) (fun x1 => bd (F_X9_ones S x1) (fun x16 => bd (F_X9_say S x16 x1) (fun (x18, S19) => some (x18, S19))))
set_option maxHeartbeats 4000000 in
set_option maxRecDepth 100000 in
theorem c_X9_most (l : Launch) (G : Gp) (hI : Ij (wM G))  {S : Sg} {r : Int32} {S1 : Sg} (hF : F_X9_most S = some (r, S1)) : Met l yX9_most wsX9_most rm_X9_most (va_Pc [.ref (G.2.1 0)] (PreW (wM G) S)) (va_Qi (fun r' u => r' = r ∧ u = S1) (PostW (wM G)) (AW (wM G))) 0 0 (AW (wM G)) := by
  rw [F_X9_most] at hF
  refine met_i (cc := cX9_most) (maxL := 3) (own := RX9) hI (by decide) rfl rfl (Nat.le_of_ble_eq_true rfl) (fun X O hR => ?_)
  show Go X l rm_X9_most (wM G) 3 0 [(0, .ref (G.2.1 0))] [] S
  refine go_iconst (v := (0 : Int32)) O dX9_most_0 (by decide) ?_
  refine go_istore_n (ls' := [(1, .int (0 : Int32)), (0, .ref (G.2.1 0))]) O dX9_most_1 rfl (by decide) rfl ?_
  refine go_iconst (v := (0 : Int32)) O dX9_most_2 (by decide) ?_
  refine go_istore_n (ls' := [(2, .int (0 : Int32)), (1, .int (0 : Int32)), (0, .ref (G.2.1 0))]) O dX9_most_3 rfl (by decide) rfl ?_
  refine go_perm (ls' := [(0, .ref (G.2.1 0)), (1, .int (0 : Int32)), (2, .int (0 : Int32))]) [2, 1, 0] rfl ?_
  obtain ⟨x1, hA14, hF⟩ := bd_s hF
  refine lt_X9_most_4 l G hI  O _ _ _ _ hA14 ?_
  refine go_aload_n O dX9_most_45 rfl 0 rfl ?_
  refine go_iload_n O dX9_most_46 rfl 1 rfl ?_
  obtain ⟨x16, hA15, hF⟩ := bd_s hF
  refine go_callSi (As := [.int x1]) (rest := [.ref (G.2.1 0)]) O (c_X9_ones l G hI hA15) (fun s args hts => va_cwS 1 hts gX9_most_X9_ones rfl rfl rfl (by decide +kernel) ⟨Nat.le_of_ble_eq_true rfl, Nat.le_of_ble_eq_true rfl⟩) rfl rfl (Nat.le_of_ble_eq_true rfl) dX9_most_47 ?_
  refine go_iload_n O dX9_most_50 rfl 1 rfl ?_
  obtain ⟨⟨x18, S19⟩, hA17, hF⟩ := bd_s hF
  refine go_callVi (As := [.int x16, .int x1]) (rest := []) (b := 0) O (c_X9_say l G hI hA17) (fun s args hts => cwV 2 hts gX9_most_X9_say rfl rfl rfl (by decide +kernel) ⟨Nat.le_of_ble_eq_true rfl, Nat.le_of_ble_eq_true rfl⟩) (by decide : (0 : Nat) < 27) (cm_obj G (S.1 0) (S.2 0)) rfl rfl rfl rfl (Nat.le_of_ble_eq_true rfl) dX9_most_51 ?_
  exact ret_wi hF (hR _ _ dX9_most_54)
-- X9_safeSet
def rm_X9_safeSet : Room := { frames := 5, cells := 0, slots := 0, locals := 115 }
theorem fl_X9_safeSet_156 : Cond.fieldLink RX9 156 "PaperWallsModel" "talkMany" "I" ∈ wsX9_safeSet := by decide +kernel
theorem in_X9_safeSet_X9 : ∀ x ∈ u_ws RX9 TX9 36, x ∈ wsX9_safeSet := by decide +kernel
def T_X9_safeSet_4  (S : Sg)  : Nat → Int32 → Int32 → Option (Int32)
  | 0, _, _ => none
  | n + 1, p1, p2 => if (S.1 0 10) ≤ p2 then (some p1) else (bd (F_X9_isSafe S p2 (0 : Int32)) (fun x3 => bd (if x3 = 0 then (some (0 : Int32)) else (some ((1 : Int32) <<< (p2 &&& 31)))) (fun x4 => nm (p1 ||| x4) (fun x8 => T_X9_safeSet_4 S n x8 (p2 + (1 : Int32))))))
set_option maxHeartbeats 4000000 in
set_option maxRecDepth 100000 in
theorem lt_X9_safeSet_4 {X : XT} (l : Launch) (G : Gp) (hI : Ij (wM G))  {S : Sg} (O : Ok X (wM G) cX9_safeSet RX9 wsX9_safeSet 3) : ∀ (n : Nat) (p1 : Int32) (p2 : Int32)  (q : (Int32)), T_X9_safeSet_4 S n p1 p2  = some q → (Go X l rm_X9_safeSet (wM G) 3 37 [(1, .int q)] [] S) → Go X l rm_X9_safeSet (wM G) 3 4 [(0, .ref (G.2.1 0)), (1, .int p1), (2, .int p2)] [] S := by
  intro n
  induction n with
  | zero =>
    intro p1 p2  q hF
    cases hF
  | succ n ih =>
    intro p1 p2  q hF hE
    rw [T_X9_safeSet_4] at hF
    refine go_iload_n O dX9_safeSet_4 rfl 2 rfl ?_
    refine go_aload_n O dX9_safeSet_5 rfl 0 rfl ?_
    refine go_get (k := 0) (j := 10) O (by decide : (0 : Nat) < 27) (cm_obj G (S.1 0) (S.2 0)) rfl in_X9_safeSet_X9 (by decide) fl_X9_safeSet_156 rfl rfl dX9_safeSet_6 ?_
    refine go_icmp_ge (tgt := 37) O dX9_safeSet_9 (by decide) (fun hc9 => ?_) (fun hc9 => ?_)
    · replace hF := it_t hc9 hF
      refine go_perm (ls' := [(1, .int p1)]) [1] rfl ?_
      exact jn (P := fun q => Go X l rm_X9_safeSet (wM G) 3 37 [(1, .int q)] [] S) hF hE
    · replace hF := it_f hc9 hF
      refine go_iload_n O dX9_safeSet_12 rfl 1 rfl ?_
      refine go_aload_n O dX9_safeSet_13 rfl 0 rfl ?_
      refine go_iload_n O dX9_safeSet_14 rfl 2 rfl ?_
      refine go_iconst (v := (0 : Int32)) O dX9_safeSet_15 (by decide) ?_
      obtain ⟨x3, hA2, hF⟩ := bd_s hF
      refine go_callVi (As := [.int p2, .int (0 : Int32)]) (rest := [.int p1]) (b := 0) O (c_X9_isSafe l G hI hA2) (fun s args hts => cwV 2 hts gX9_safeSet_X9_isSafe rfl rfl rfl (by decide +kernel) ⟨Nat.le_of_ble_eq_true rfl, Nat.le_of_ble_eq_true rfl⟩) (by decide : (0 : Nat) < 27) (cm_obj G (S.1 0) (S.2 0)) rfl rfl rfl rfl (Nat.le_of_ble_eq_true rfl) dX9_safeSet_16 ?_
      obtain ⟨x4, hA6, hF⟩ := bd_s hF
      have J5 : Go X l rm_X9_safeSet (wM G) 3 29 [(0, .ref (G.2.1 0)), (2, .int p2)] [.int x4, .int p1] S := by
        refine go_ior O dX9_safeSet_29 ?_
        obtain ⟨x8, ex8, hF⟩ := nm_s hF
        refine go_topi ex8 ?_
        refine go_istore_n (ls' := [(1, .int x8), (0, .ref (G.2.1 0)), (2, .int p2)]) O dX9_safeSet_30 rfl (by decide) rfl ?_
        refine go_iinc (d := (1 : Int32)) (ls' := [(2, .int (p2 + (1 : Int32))), (1, .int x8), (0, .ref (G.2.1 0))]) O dX9_safeSet_31 2 rfl (by decide) (by decide) rfl ?_
        refine go_goto (tgt := 4) O dX9_safeSet_34 (by decide) ?_
        refine go_perm (ls' := [(0, .ref (G.2.1 0)), (1, .int x8), (2, .int (p2 + (1 : Int32)))]) [2, 1, 0] rfl ?_
        exact ih _ _ _ hF hE
      replace hF := hA6
      refine go_if_eq (tgt := 28) O dX9_safeSet_19 (by decide) (fun hc7 => ?_) (fun hc7 => ?_)
      · replace hF := it_t hc7 hF
        refine go_iconst (v := (0 : Int32)) O dX9_safeSet_28 (by decide) ?_
        refine go_perm (ls' := [(0, .ref (G.2.1 0)), (2, .int p2)]) [0, 2] rfl ?_
        exact jn (P := fun q => Go X l rm_X9_safeSet (wM G) 3 29 [(0, .ref (G.2.1 0)), (2, .int p2)] [.int q, .int p1] S) hF J5
      · replace hF := it_f hc7 hF
        refine go_iconst (v := (1 : Int32)) O dX9_safeSet_22 (by decide) ?_
        refine go_iload_n O dX9_safeSet_23 rfl 2 rfl ?_
        refine go_ishl O dX9_safeSet_24 ?_
        refine go_goto (tgt := 29) O dX9_safeSet_25 (by decide) ?_
        refine go_perm (ls' := [(0, .ref (G.2.1 0)), (2, .int p2)]) [0, 2] rfl ?_
        exact jn (P := fun q => Go X l rm_X9_safeSet (wM G) 3 29 [(0, .ref (G.2.1 0)), (2, .int p2)] [.int q, .int p1] S) hF J5
def F_X9_safeSet  (S : Sg)  : Option Int32 := bd (T_X9_safeSet_4 S FU (0 : Int32) (0 : Int32)) (fun x1 => some x1)
set_option maxHeartbeats 4000000 in
set_option maxRecDepth 100000 in
theorem c_X9_safeSet (l : Launch) (G : Gp) (hI : Ij (wM G))  {S : Sg} {r : Int32} (hF : F_X9_safeSet S = some r) : Met l yX9_safeSet wsX9_safeSet rm_X9_safeSet (va_Pc [.ref (G.2.1 0)] (PreW (wM G) S)) (va_Qi (fun r' u => r' = r ∧ u = S) (PostW (wM G)) (AW (wM G))) 0 0 (AW (wM G)) := by
  rw [F_X9_safeSet] at hF
  refine met_i (cc := cX9_safeSet) (maxL := 3) (own := RX9) hI (by decide) rfl rfl (Nat.le_of_ble_eq_true rfl) (fun X O hR => ?_)
  show Go X l rm_X9_safeSet (wM G) 3 0 [(0, .ref (G.2.1 0))] [] S
  refine go_iconst (v := (0 : Int32)) O dX9_safeSet_0 (by decide) ?_
  refine go_istore_n (ls' := [(1, .int (0 : Int32)), (0, .ref (G.2.1 0))]) O dX9_safeSet_1 rfl (by decide) rfl ?_
  refine go_iconst (v := (0 : Int32)) O dX9_safeSet_2 (by decide) ?_
  refine go_istore_n (ls' := [(2, .int (0 : Int32)), (1, .int (0 : Int32)), (0, .ref (G.2.1 0))]) O dX9_safeSet_3 rfl (by decide) rfl ?_
  refine go_perm (ls' := [(0, .ref (G.2.1 0)), (1, .int (0 : Int32)), (2, .int (0 : Int32))]) [2, 1, 0] rfl ?_
  obtain ⟨x1, hA10, hF⟩ := bd_s hF
  refine lt_X9_safeSet_4 l G hI  O _ _ _ _ hA10 ?_
  refine go_iload_n O dX9_safeSet_37 rfl 0 rfl ?_
  exact ret_i hF (hR _ _ dX9_safeSet_38)
-- X9_safes
def rm_X9_safes : Room := { frames := 6, cells := 0, slots := 0, locals := 137 }
def F_X9_safes  (S : Sg)  : Option (Int32 × Sg) := bd (F_X9_safeSet S) (fun x2 => bd (F_X9_ones S x2) (fun x4 => bd (F_X9_say S x4 x2) (fun (x6, S7) => some (x6, S7))))
set_option maxHeartbeats 4000000 in
set_option maxRecDepth 100000 in
theorem c_X9_safes (l : Launch) (G : Gp) (hI : Ij (wM G))  {S : Sg} {r : Int32} {S1 : Sg} (hF : F_X9_safes S = some (r, S1)) : Met l yX9_safes wsX9_safes rm_X9_safes (va_Pc [.ref (G.2.1 0)] (PreW (wM G) S)) (va_Qi (fun r' u => r' = r ∧ u = S1) (PostW (wM G)) (AW (wM G))) 0 0 (AW (wM G)) := by
  rw [F_X9_safes] at hF
  refine met_i (cc := cX9_safes) (maxL := 2) (own := RX9) hI (by decide) rfl rfl (Nat.le_of_ble_eq_true rfl) (fun X O hR => ?_)
  show Go X l rm_X9_safes (wM G) 2 0 [(0, .ref (G.2.1 0))] [] S
  refine go_aload_n O dX9_safes_0 rfl 0 rfl ?_
  obtain ⟨x2, hA1, hF⟩ := bd_s hF
  refine go_callVi (As := []) (rest := []) (b := 0) O (c_X9_safeSet l G hI hA1) (fun s args hts => cwV 0 hts gX9_safes_X9_safeSet rfl rfl rfl (by decide +kernel) ⟨Nat.le_of_ble_eq_true rfl, Nat.le_of_ble_eq_true rfl⟩) (by decide : (0 : Nat) < 27) (cm_obj G (S.1 0) (S.2 0)) rfl rfl rfl rfl (Nat.le_of_ble_eq_true rfl) dX9_safes_1 ?_
  refine go_istore_n (ls' := [(1, .int x2), (0, .ref (G.2.1 0))]) O dX9_safes_4 rfl (by decide) rfl ?_
  refine go_aload_n O dX9_safes_5 rfl 1 rfl ?_
  refine go_iload_n O dX9_safes_6 rfl 0 rfl ?_
  obtain ⟨x4, hA3, hF⟩ := bd_s hF
  refine go_callSi (As := [.int x2]) (rest := [.ref (G.2.1 0)]) O (c_X9_ones l G hI hA3) (fun s args hts => va_cwS 1 hts gX9_safes_X9_ones rfl rfl rfl (by decide +kernel) ⟨Nat.le_of_ble_eq_true rfl, Nat.le_of_ble_eq_true rfl⟩) rfl rfl (Nat.le_of_ble_eq_true rfl) dX9_safes_7 ?_
  refine go_iload_n O dX9_safes_10 rfl 0 rfl ?_
  obtain ⟨⟨x6, S7⟩, hA5, hF⟩ := bd_s hF
  refine go_callVi (As := [.int x4, .int x2]) (rest := []) (b := 0) O (c_X9_say l G hI hA5) (fun s args hts => cwV 2 hts gX9_safes_X9_say rfl rfl rfl (by decide +kernel) ⟨Nat.le_of_ble_eq_true rfl, Nat.le_of_ble_eq_true rfl⟩) (by decide : (0 : Nat) < 27) (cm_obj G (S.1 0) (S.2 0)) rfl rfl rfl rfl (Nat.le_of_ble_eq_true rfl) dX9_safes_11 ?_
  exact ret_wi hF (hR _ _ dX9_safes_14)
-- X9_nextOrder
def rm_X9_nextOrder : Room := { frames := 0, cells := 0, slots := 0, locals := 0 }
theorem fl_X9_nextOrder_71 : Cond.fieldLink RX9 71 "PaperWallsModel" "order" "[I" ∈ wsX9_nextOrder := by decide +kernel
theorem fl_X9_nextOrder_153 : Cond.fieldLink RX9 153 "PaperWallsModel" "people" "I" ∈ wsX9_nextOrder := by decide +kernel
theorem in_X9_nextOrder_X9 : ∀ x ∈ u_ws RX9 TX9 36, x ∈ wsX9_nextOrder := by decide +kernel
def T_X9_nextOrder_7  (S : Sg)  : Nat → Int32 → Option (Int32)
  | 0, _ => none
  | n + 1, p1 => if p1 < 0 then (some p1) else (chk (inB p1 7) (chk (inB (p1 + (1 : Int32)) 7) (if (S.1 21 p1.toNatClampNeg) ≤ (S.1 21 (p1 + (1 : Int32)).toNatClampNeg) then (some p1) else (T_X9_nextOrder_7 S n (p1 + (-1 : Int32))))))
set_option maxHeartbeats 4000000 in
set_option maxRecDepth 100000 in
theorem lt_X9_nextOrder_7 {X : XT} (l : Launch) (G : Gp) (hI : Ij (wM G))  {S : Sg} (O : Ok X (wM G) cX9_nextOrder RX9 wsX9_nextOrder 6) : ∀ (n : Nat) (p1 : Int32)  (q : (Int32)), T_X9_nextOrder_7 S n p1  = some q → (Go X l rm_X9_nextOrder (wM G) 6 34 [(0, .ref (G.2.1 0)), (1, .int q)] [] S) → Go X l rm_X9_nextOrder (wM G) 6 7 [(0, .ref (G.2.1 0)), (1, .int p1)] [] S := by
  intro n
  induction n with
  | zero =>
    intro p1  q hF
    cases hF
  | succ n ih =>
    intro p1  q hF hE
    rw [T_X9_nextOrder_7] at hF
    refine go_iload_n O dX9_nextOrder_7 rfl 1 rfl ?_
    refine go_if_lt (tgt := 34) O dX9_nextOrder_8 (by decide) (fun hc6 => ?_) (fun hc6 => ?_)
    · replace hF := it_t hc6 hF
      exact jn (P := fun q => Go X l rm_X9_nextOrder (wM G) 6 34 [(0, .ref (G.2.1 0)), (1, .int q)] [] S) hF hE
    · replace hF := it_f hc6 hF
      refine go_aload_n O dX9_nextOrder_11 rfl 0 rfl ?_
      refine go_get (k := 0) (j := 29) O (by decide : (0 : Nat) < 27) (cm_obj G (S.1 0) (S.2 0)) rfl in_X9_nextOrder_X9 (by decide) fl_X9_nextOrder_71 rfl rfl dX9_nextOrder_12 ?_
      refine go_iload_n O dX9_nextOrder_15 rfl 1 rfl ?_
      obtain ⟨hb3, hF⟩ := chk_s hF
      refine go_iald (k := 21) O (by decide : (21 : Nat) < 27) (cm_21 G (S.1 21) (S.2 21)) (inB_in hb3) dX9_nextOrder_16 ?_
      refine go_aload_n O dX9_nextOrder_17 rfl 0 rfl ?_
      refine go_get (k := 0) (j := 29) O (by decide : (0 : Nat) < 27) (cm_obj G (S.1 0) (S.2 0)) rfl in_X9_nextOrder_X9 (by decide) fl_X9_nextOrder_71 rfl rfl dX9_nextOrder_18 ?_
      refine go_iload_n O dX9_nextOrder_21 rfl 1 rfl ?_
      refine go_iconst (v := (1 : Int32)) O dX9_nextOrder_22 (by decide) ?_
      refine go_iadd O dX9_nextOrder_23 ?_
      obtain ⟨hb4, hF⟩ := chk_s hF
      refine go_iald (k := 21) O (by decide : (21 : Nat) < 27) (cm_21 G (S.1 21) (S.2 21)) (inB_in hb4) dX9_nextOrder_24 ?_
      refine go_icmp_le (tgt := 34) O dX9_nextOrder_25 (by decide) (fun hc5 => ?_) (fun hc5 => ?_)
      · replace hF := it_t hc5 hF
        exact jn (P := fun q => Go X l rm_X9_nextOrder (wM G) 6 34 [(0, .ref (G.2.1 0)), (1, .int q)] [] S) hF hE
      · replace hF := it_f hc5 hF
        refine go_iinc (d := (-1 : Int32)) (ls' := [(1, .int (p1 + (-1 : Int32))), (0, .ref (G.2.1 0))]) O dX9_nextOrder_28 1 rfl (by decide) (by decide) rfl ?_
        refine go_goto (tgt := 7) O dX9_nextOrder_31 (by decide) ?_
        refine go_perm (ls' := [(0, .ref (G.2.1 0)), (1, .int (p1 + (-1 : Int32)))]) [1, 0] rfl ?_
        exact ih _ _ hF hE
def T_X9_nextOrder_47  (S : Sg) (p1 : Int32) : Nat → Int32 → Option (Int32)
  | 0, _ => none
  | n + 1, p2 => chk (inB p2 7) (chk (inB p1 7) (if (S.1 21 p1.toNatClampNeg) ≤ (S.1 21 p2.toNatClampNeg) then (some p2) else (T_X9_nextOrder_47 S p1 n (p2 + (-1 : Int32)))))
set_option maxHeartbeats 4000000 in
set_option maxRecDepth 100000 in
theorem lt_X9_nextOrder_47 {X : XT} (l : Launch) (G : Gp) (hI : Ij (wM G))  {S : Sg} {p1 : Int32} (O : Ok X (wM G) cX9_nextOrder RX9 wsX9_nextOrder 6) : ∀ (n : Nat) (p2 : Int32)  (q : (Int32)), T_X9_nextOrder_47 S p1 n p2  = some q → (Go X l rm_X9_nextOrder (wM G) 6 68 [(0, .ref (G.2.1 0)), (1, .int p1), (2, .int q)] [] S) → Go X l rm_X9_nextOrder (wM G) 6 47 [(0, .ref (G.2.1 0)), (1, .int p1), (2, .int p2)] [] S := by
  intro n
  induction n with
  | zero =>
    intro p2  q hF
    cases hF
  | succ n ih =>
    intro p2  q hF hE
    rw [T_X9_nextOrder_47] at hF
    refine go_aload_n O dX9_nextOrder_47 rfl 0 rfl ?_
    refine go_get (k := 0) (j := 29) O (by decide : (0 : Nat) < 27) (cm_obj G (S.1 0) (S.2 0)) rfl in_X9_nextOrder_X9 (by decide) fl_X9_nextOrder_71 rfl rfl dX9_nextOrder_48 ?_
    refine go_iload_n O dX9_nextOrder_51 rfl 2 rfl ?_
    obtain ⟨hb10, hF⟩ := chk_s hF
    refine go_iald (k := 21) O (by decide : (21 : Nat) < 27) (cm_21 G (S.1 21) (S.2 21)) (inB_in hb10) dX9_nextOrder_52 ?_
    refine go_aload_n O dX9_nextOrder_53 rfl 0 rfl ?_
    refine go_get (k := 0) (j := 29) O (by decide : (0 : Nat) < 27) (cm_obj G (S.1 0) (S.2 0)) rfl in_X9_nextOrder_X9 (by decide) fl_X9_nextOrder_71 rfl rfl dX9_nextOrder_54 ?_
    refine go_iload_n O dX9_nextOrder_57 rfl 1 rfl ?_
    obtain ⟨hb11, hF⟩ := chk_s hF
    refine go_iald (k := 21) O (by decide : (21 : Nat) < 27) (cm_21 G (S.1 21) (S.2 21)) (inB_in hb11) dX9_nextOrder_58 ?_
    refine go_icmp_ge (tgt := 68) O dX9_nextOrder_59 (by decide) (fun hc12 => ?_) (fun hc12 => ?_)
    · replace hF := it_t hc12 hF
      exact jn (P := fun q => Go X l rm_X9_nextOrder (wM G) 6 68 [(0, .ref (G.2.1 0)), (1, .int p1), (2, .int q)] [] S) hF hE
    · replace hF := it_f hc12 hF
      refine go_iinc (d := (-1 : Int32)) (ls' := [(2, .int (p2 + (-1 : Int32))), (0, .ref (G.2.1 0)), (1, .int p1)]) O dX9_nextOrder_62 2 rfl (by decide) (by decide) rfl ?_
      refine go_goto (tgt := 47) O dX9_nextOrder_65 (by decide) ?_
      refine go_perm (ls' := [(0, .ref (G.2.1 0)), (1, .int p1), (2, .int (p2 + (-1 : Int32)))]) [1, 2, 0] rfl ?_
      exact ih _ _ hF hE
def T_X9_nextOrder_107    : Nat → Int32 → Int32 → Sg → Option (Sg)
  | 0, _, _, _ => none
  | n + 1, p4, p5, S => if p4 ≤ p5 then (some S) else (chk (inB p5 7) (nm (S.1 21 p5.toNatClampNeg) (fun x25 => chk (inB p4 7) (chk (inB p5 7) (nm (wI S 21 p5.toNatClampNeg (S.1 21 p4.toNatClampNeg)) (fun S28 => chk (inB p4 7) (nm (wI S28 21 p4.toNatClampNeg x25) (fun S30 => T_X9_nextOrder_107 n (p4 + (-1 : Int32)) (p5 + (1 : Int32)) S30))))))))
set_option maxHeartbeats 4000000 in
set_option maxRecDepth 100000 in
theorem lt_X9_nextOrder_107 {X : XT} (l : Launch) (G : Gp) (hI : Ij (wM G))   (O : Ok X (wM G) cX9_nextOrder RX9 wsX9_nextOrder 6) : ∀ (n : Nat) (p4 : Int32) (p5 : Int32) (S : Sg) (q : (Sg)), T_X9_nextOrder_107 n p4 p5 S = some q → (Go X l rm_X9_nextOrder (wM G) 6 153 [] [] q) → Go X l rm_X9_nextOrder (wM G) 6 107 [(0, .ref (G.2.1 0)), (4, .int p4), (5, .int p5)] [] S := by
  intro n
  induction n with
  | zero =>
    intro p4 p5 S q hF
    cases hF
  | succ n ih =>
    intro p4 p5 S q hF hE
    rw [T_X9_nextOrder_107] at hF
    refine go_iload O dX9_nextOrder_107 2 rfl ?_
    refine go_iload O dX9_nextOrder_109 1 rfl ?_
    refine go_icmp_ge (tgt := 153) O dX9_nextOrder_111 (by decide) (fun hc31 => ?_) (fun hc31 => ?_)
    · replace hF := it_t hc31 hF
      refine go_perm (ls' := []) [] rfl ?_
      exact jn (P := fun q => Go X l rm_X9_nextOrder (wM G) 6 153 [] [] q) hF hE
    · replace hF := it_f hc31 hF
      refine go_aload_n O dX9_nextOrder_114 rfl 0 rfl ?_
      refine go_get (k := 0) (j := 29) O (by decide : (0 : Nat) < 27) (cm_obj G (S.1 0) (S.2 0)) rfl in_X9_nextOrder_X9 (by decide) fl_X9_nextOrder_71 rfl rfl dX9_nextOrder_115 ?_
      refine go_iload O dX9_nextOrder_118 2 rfl ?_
      obtain ⟨hb24, hF⟩ := chk_s hF
      refine go_iald (k := 21) O (by decide : (21 : Nat) < 27) (cm_21 G (S.1 21) (S.2 21)) (inB_in hb24) dX9_nextOrder_120 ?_
      obtain ⟨x25, ex25, hF⟩ := nm_s hF
      refine go_topi ex25 ?_
      refine go_istore_n (ls' := [(3, .int x25), (0, .ref (G.2.1 0)), (4, .int p4), (5, .int p5)]) O dX9_nextOrder_121 rfl (by decide) rfl ?_
      refine go_aload_n O dX9_nextOrder_122 rfl 1 rfl ?_
      refine go_get (k := 0) (j := 29) O (by decide : (0 : Nat) < 27) (cm_obj G (S.1 0) (S.2 0)) rfl in_X9_nextOrder_X9 (by decide) fl_X9_nextOrder_71 rfl rfl dX9_nextOrder_123 ?_
      refine go_iload O dX9_nextOrder_126 3 rfl ?_
      refine go_aload_n O dX9_nextOrder_128 rfl 1 rfl ?_
      refine go_get (k := 0) (j := 29) O (by decide : (0 : Nat) < 27) (cm_obj G (S.1 0) (S.2 0)) rfl in_X9_nextOrder_X9 (by decide) fl_X9_nextOrder_71 rfl rfl dX9_nextOrder_129 ?_
      refine go_iload O dX9_nextOrder_132 2 rfl ?_
      obtain ⟨hb26, hF⟩ := chk_s hF
      refine go_iald (k := 21) O (by decide : (21 : Nat) < 27) (cm_21 G (S.1 21) (S.2 21)) (inB_in hb26) dX9_nextOrder_134 ?_
      obtain ⟨hb27, hF⟩ := chk_s hF
      obtain ⟨S28, eS28, hF⟩ := nm_s hF
      refine go_iast (k := 21) O (by decide : (21 : Nat) < 27) (fun f => (cm_21 G f (S.2 21))) (inB_in hb27) dX9_nextOrder_135 eS28 ?_
      refine go_aload_n O dX9_nextOrder_136 rfl 1 rfl ?_
      refine go_get (k := 0) (j := 29) O (by decide : (0 : Nat) < 27) (cm_obj G (S28.1 0) (S28.2 0)) rfl in_X9_nextOrder_X9 (by decide) fl_X9_nextOrder_71 rfl rfl dX9_nextOrder_137 ?_
      refine go_iload O dX9_nextOrder_140 2 rfl ?_
      refine go_iload_n O dX9_nextOrder_142 rfl 0 rfl ?_
      obtain ⟨hb29, hF⟩ := chk_s hF
      obtain ⟨S30, eS30, hF⟩ := nm_s hF
      refine go_iast (k := 21) O (by decide : (21 : Nat) < 27) (fun f => (cm_21 G f (S28.2 21))) (inB_in hb29) dX9_nextOrder_143 eS30 ?_
      refine go_iinc (d := (-1 : Int32)) (ls' := [(4, .int (p4 + (-1 : Int32))), (3, .int x25), (0, .ref (G.2.1 0)), (5, .int p5)]) O dX9_nextOrder_144 2 rfl (by decide) (by decide) rfl ?_
      refine go_iinc (d := (1 : Int32)) (ls' := [(5, .int (p5 + (1 : Int32))), (4, .int (p4 + (-1 : Int32))), (3, .int x25), (0, .ref (G.2.1 0))]) O dX9_nextOrder_147 3 rfl (by decide) (by decide) rfl ?_
      refine go_goto (tgt := 107) O dX9_nextOrder_150 (by decide) ?_
      refine go_perm (ls' := [(0, .ref (G.2.1 0)), (4, .int (p4 + (-1 : Int32))), (5, .int (p5 + (1 : Int32)))]) [3, 1, 0] rfl ?_
      exact ih _ _ _ _ hF hE
def F_X9_nextOrder  (S : Sg)  : Option (Int32 × Sg) := nm ((S.1 0 7) - (2 : Int32)) (fun x1 => bd (T_X9_nextOrder_7 S FU x1) (fun x2 => if 0 ≤ x2 then (nm ((S.1 0 7) - (1 : Int32)) (fun x8 => bd (T_X9_nextOrder_47 S x2 FU x8) (fun x9 => chk (inB x2 7) (nm (S.1 21 x2.toNatClampNeg) (fun x15 => chk (inB x9 7) (chk (inB x2 7) (nm (wI S 21 x2.toNatClampNeg (S.1 21 x9.toNatClampNeg)) (fun S18 => chk (inB x9 7) (nm (wI S18 21 x9.toNatClampNeg x15) (fun S20 => nm ((S20.1 0 7) - (1 : Int32)) (fun x21 => nm (x2 + (1 : Int32)) (fun x22 => bd (T_X9_nextOrder_107 FU x21 x22 S20) (fun S23 => some ((1 : Int32), S23)))))))))))))) else (some ((0 : Int32), S))))
set_option maxHeartbeats 4000000 in
set_option maxRecDepth 100000 in
theorem c_X9_nextOrder (l : Launch) (G : Gp) (hI : Ij (wM G))  {S : Sg} {r : Int32} {S1 : Sg} (hF : F_X9_nextOrder S = some (r, S1)) : Met l yX9_nextOrder wsX9_nextOrder rm_X9_nextOrder (va_Pc [.ref (G.2.1 0)] (PreW (wM G) S)) (va_Qi (fun r' u => r' = r ∧ u = S1) (PostW (wM G)) (AW (wM G))) 0 0 (AW (wM G)) := by
  rw [F_X9_nextOrder] at hF
  refine met_z (cc := cX9_nextOrder) (maxL := 6) (own := RX9) hI (by decide) rfl rfl (Nat.le_of_ble_eq_true rfl) (fun X O hR => ?_)
  show Go X l rm_X9_nextOrder (wM G) 6 0 [(0, .ref (G.2.1 0))] [] S
  refine go_aload_n O dX9_nextOrder_0 rfl 0 rfl ?_
  refine go_get (k := 0) (j := 7) O (by decide : (0 : Nat) < 27) (cm_obj G (S.1 0) (S.2 0)) rfl in_X9_nextOrder_X9 (by decide) fl_X9_nextOrder_153 rfl rfl dX9_nextOrder_1 ?_
  refine go_iconst (v := (2 : Int32)) O dX9_nextOrder_4 (by decide) ?_
  refine go_isub O dX9_nextOrder_5 ?_
  obtain ⟨x1, ex1, hF⟩ := nm_s hF
  refine go_topi ex1 ?_
  refine go_istore_n (ls' := [(1, .int x1), (0, .ref (G.2.1 0))]) O dX9_nextOrder_6 rfl (by decide) rfl ?_
  refine go_perm (ls' := [(0, .ref (G.2.1 0)), (1, .int x1)]) [1, 0] rfl ?_
  obtain ⟨x2, hA7, hF⟩ := bd_s hF
  refine lt_X9_nextOrder_7 l G hI  O _ _ _ hA7 ?_
  refine go_iload_n O dX9_nextOrder_34 rfl 1 rfl ?_
  refine go_if_ge (tgt := 40) O dX9_nextOrder_35 (by decide) (fun hc33 => ?_) (fun hc33 => ?_)
  · replace hF := it_t hc33 hF
    refine go_aload_n O dX9_nextOrder_40 rfl 0 rfl ?_
    refine go_get (k := 0) (j := 7) O (by decide : (0 : Nat) < 27) (cm_obj G (S.1 0) (S.2 0)) rfl in_X9_nextOrder_X9 (by decide) fl_X9_nextOrder_153 rfl rfl dX9_nextOrder_41 ?_
    refine go_iconst (v := (1 : Int32)) O dX9_nextOrder_44 (by decide) ?_
    refine go_isub O dX9_nextOrder_45 ?_
    obtain ⟨x8, ex8, hF⟩ := nm_s hF
    refine go_topi ex8 ?_
    refine go_istore_n (ls' := [(2, .int x8), (0, .ref (G.2.1 0)), (1, .int x2)]) O dX9_nextOrder_46 rfl (by decide) rfl ?_
    refine go_perm (ls' := [(0, .ref (G.2.1 0)), (1, .int x2), (2, .int x8)]) [1, 2, 0] rfl ?_
    obtain ⟨x9, hA13, hF⟩ := bd_s hF
    refine lt_X9_nextOrder_47 l G hI  O _ _ _ hA13 ?_
    refine go_aload_n O dX9_nextOrder_68 rfl 0 rfl ?_
    refine go_get (k := 0) (j := 29) O (by decide : (0 : Nat) < 27) (cm_obj G (S.1 0) (S.2 0)) rfl in_X9_nextOrder_X9 (by decide) fl_X9_nextOrder_71 rfl rfl dX9_nextOrder_69 ?_
    refine go_iload_n O dX9_nextOrder_72 rfl 1 rfl ?_
    obtain ⟨hb14, hF⟩ := chk_s hF
    refine go_iald (k := 21) O (by decide : (21 : Nat) < 27) (cm_21 G (S.1 21) (S.2 21)) (inB_in hb14) dX9_nextOrder_73 ?_
    obtain ⟨x15, ex15, hF⟩ := nm_s hF
    refine go_topi ex15 ?_
    refine go_istore_n (ls' := [(3, .int x15), (0, .ref (G.2.1 0)), (1, .int x2), (2, .int x9)]) O dX9_nextOrder_74 rfl (by decide) rfl ?_
    refine go_aload_n O dX9_nextOrder_75 rfl 1 rfl ?_
    refine go_get (k := 0) (j := 29) O (by decide : (0 : Nat) < 27) (cm_obj G (S.1 0) (S.2 0)) rfl in_X9_nextOrder_X9 (by decide) fl_X9_nextOrder_71 rfl rfl dX9_nextOrder_76 ?_
    refine go_iload_n O dX9_nextOrder_79 rfl 2 rfl ?_
    refine go_aload_n O dX9_nextOrder_80 rfl 1 rfl ?_
    refine go_get (k := 0) (j := 29) O (by decide : (0 : Nat) < 27) (cm_obj G (S.1 0) (S.2 0)) rfl in_X9_nextOrder_X9 (by decide) fl_X9_nextOrder_71 rfl rfl dX9_nextOrder_81 ?_
    refine go_iload_n O dX9_nextOrder_84 rfl 3 rfl ?_
    obtain ⟨hb16, hF⟩ := chk_s hF
    refine go_iald (k := 21) O (by decide : (21 : Nat) < 27) (cm_21 G (S.1 21) (S.2 21)) (inB_in hb16) dX9_nextOrder_85 ?_
    obtain ⟨hb17, hF⟩ := chk_s hF
    obtain ⟨S18, eS18, hF⟩ := nm_s hF
    refine go_iast (k := 21) O (by decide : (21 : Nat) < 27) (fun f => (cm_21 G f (S.2 21))) (inB_in hb17) dX9_nextOrder_86 eS18 ?_
    refine go_aload_n O dX9_nextOrder_87 rfl 1 rfl ?_
    refine go_get (k := 0) (j := 29) O (by decide : (0 : Nat) < 27) (cm_obj G (S18.1 0) (S18.2 0)) rfl in_X9_nextOrder_X9 (by decide) fl_X9_nextOrder_71 rfl rfl dX9_nextOrder_88 ?_
    refine go_iload_n O dX9_nextOrder_91 rfl 3 rfl ?_
    refine go_iload_n O dX9_nextOrder_92 rfl 0 rfl ?_
    obtain ⟨hb19, hF⟩ := chk_s hF
    obtain ⟨S20, eS20, hF⟩ := nm_s hF
    refine go_iast (k := 21) O (by decide : (21 : Nat) < 27) (fun f => (cm_21 G f (S18.2 21))) (inB_in hb19) dX9_nextOrder_93 eS20 ?_
    refine go_aload_n O dX9_nextOrder_94 rfl 1 rfl ?_
    refine go_get (k := 0) (j := 7) O (by decide : (0 : Nat) < 27) (cm_obj G (S20.1 0) (S20.2 0)) rfl in_X9_nextOrder_X9 (by decide) fl_X9_nextOrder_153 rfl rfl dX9_nextOrder_95 ?_
    refine go_iconst (v := (1 : Int32)) O dX9_nextOrder_98 (by decide) ?_
    refine go_isub O dX9_nextOrder_99 ?_
    obtain ⟨x21, ex21, hF⟩ := nm_s hF
    refine go_topi ex21 ?_
    refine go_istore (ls' := [(4, .int x21), (3, .int x15), (0, .ref (G.2.1 0)), (1, .int x2), (2, .int x9)]) O dX9_nextOrder_100 (by decide) rfl ?_
    refine go_iload_n O dX9_nextOrder_102 rfl 3 rfl ?_
    refine go_iconst (v := (1 : Int32)) O dX9_nextOrder_103 (by decide) ?_
    refine go_iadd O dX9_nextOrder_104 ?_
    obtain ⟨x22, ex22, hF⟩ := nm_s hF
    refine go_topi ex22 ?_
    refine go_istore (ls' := [(5, .int x22), (4, .int x21), (3, .int x15), (0, .ref (G.2.1 0)), (1, .int x2), (2, .int x9)]) O dX9_nextOrder_105 (by decide) rfl ?_
    refine go_perm (ls' := [(0, .ref (G.2.1 0)), (4, .int x21), (5, .int x22)]) [3, 1, 0] rfl ?_
    obtain ⟨S23, hA32, hF⟩ := bd_s hF
    refine lt_X9_nextOrder_107 l G hI  O _ _ _ _ _ hA32 ?_
    refine go_iconst (v := (1 : Int32)) O dX9_nextOrder_153 (by decide) ?_
    exact ret_wz hF (fun hz => hR _ _ hz dX9_nextOrder_154) (show vp_nar .boolean (1 : Int32) = (1 : Int32) by decide)
  · replace hF := it_f hc33 hF
    refine go_iconst (v := (0 : Int32)) O dX9_nextOrder_38 (by decide) ?_
    exact ret_wz hF (fun hz => hR _ _ hz dX9_nextOrder_39) (show vp_nar .boolean (0 : Int32) = (0 : Int32) by decide)
-- X9_rooms
def rm_X9_rooms : Room := { frames := 6, cells := 0, slots := 0, locals := 137 }
theorem fl_X9_rooms_13 : Cond.fieldLink RX9 13 "PaperWallsModel" "rows" "[I" ∈ wsX9_rooms := by decide +kernel
theorem fl_X9_rooms_25 : Cond.fieldLink RX9 25 "PaperWallsModel" "where" "[I" ∈ wsX9_rooms := by decide +kernel
theorem fl_X9_rooms_71 : Cond.fieldLink RX9 71 "PaperWallsModel" "order" "[I" ∈ wsX9_rooms := by decide +kernel
theorem fl_X9_rooms_74 : Cond.fieldLink RX9 74 "PaperWallsModel" "best" "[I" ∈ wsX9_rooms := by decide +kernel
theorem fl_X9_rooms_77 : Cond.fieldLink RX9 77 "PaperWallsModel" "had" "[I" ∈ wsX9_rooms := by decide +kernel
theorem fl_X9_rooms_153 : Cond.fieldLink RX9 153 "PaperWallsModel" "people" "I" ∈ wsX9_rooms := by decide +kernel
theorem in_X9_rooms_X9 : ∀ x ∈ u_ws RX9 TX9 36, x ∈ wsX9_rooms := by decide +kernel
def T_X9_rooms_21   (p1 : Int32) : Nat → Int32 → Sg → Option (Sg)
  | 0, _, _ => none
  | n + 1, p2, S => if (S.1 0 7) ≤ p2 then (some S) else (chk (inB p2 7) (nm (wI S 21 p2.toNatClampNeg p2) (fun S5 => chk (inB p2 7) (chk (inB p2 7) (nm (wI S5 23 p2.toNatClampNeg (S5.1 6 p2.toNatClampNeg)) (fun S8 => T_X9_rooms_21 p1 n (p2 + (1 : Int32)) S8))))))
set_option maxHeartbeats 4000000 in
set_option maxRecDepth 100000 in
theorem lt_X9_rooms_21 {X : XT} (l : Launch) (G : Gp) (hI : Ij (wM G))   {p1 : Int32} (O : Ok X (wM G) cX9_rooms RX9 wsX9_rooms 6) : ∀ (n : Nat) (p2 : Int32) (S : Sg) (q : (Sg)), T_X9_rooms_21 p1 n p2 S = some q → (Go X l rm_X9_rooms (wM G) 6 54 [(0, .ref (G.2.1 0)), (1, .int p1)] [] q) → Go X l rm_X9_rooms (wM G) 6 21 [(0, .ref (G.2.1 0)), (1, .int p1), (2, .int p2)] [] S := by
  intro n
  induction n with
  | zero =>
    intro p2 S q hF
    cases hF
  | succ n ih =>
    intro p2 S q hF hE
    rw [T_X9_rooms_21] at hF
    refine go_iload_n O dX9_rooms_21 rfl 2 rfl ?_
    refine go_aload_n O dX9_rooms_22 rfl 0 rfl ?_
    refine go_get (k := 0) (j := 7) O (by decide : (0 : Nat) < 27) (cm_obj G (S.1 0) (S.2 0)) rfl in_X9_rooms_X9 (by decide) fl_X9_rooms_153 rfl rfl dX9_rooms_23 ?_
    refine go_icmp_ge (tgt := 54) O dX9_rooms_26 (by decide) (fun hc9 => ?_) (fun hc9 => ?_)
    · replace hF := it_t hc9 hF
      refine go_perm (ls' := [(0, .ref (G.2.1 0)), (1, .int p1)]) [0, 1] rfl ?_
      exact jn (P := fun q => Go X l rm_X9_rooms (wM G) 6 54 [(0, .ref (G.2.1 0)), (1, .int p1)] [] q) hF hE
    · replace hF := it_f hc9 hF
      refine go_aload_n O dX9_rooms_29 rfl 0 rfl ?_
      refine go_get (k := 0) (j := 29) O (by decide : (0 : Nat) < 27) (cm_obj G (S.1 0) (S.2 0)) rfl in_X9_rooms_X9 (by decide) fl_X9_rooms_71 rfl rfl dX9_rooms_30 ?_
      refine go_iload_n O dX9_rooms_33 rfl 2 rfl ?_
      refine go_iload_n O dX9_rooms_34 rfl 2 rfl ?_
      obtain ⟨hb4, hF⟩ := chk_s hF
      obtain ⟨S5, eS5, hF⟩ := nm_s hF
      refine go_iast (k := 21) O (by decide : (21 : Nat) < 27) (fun f => (cm_21 G f (S.2 21))) (inB_in hb4) dX9_rooms_35 eS5 ?_
      refine go_aload_n O dX9_rooms_36 rfl 0 rfl ?_
      refine go_get (k := 0) (j := 31) O (by decide : (0 : Nat) < 27) (cm_obj G (S5.1 0) (S5.2 0)) rfl in_X9_rooms_X9 (by decide) fl_X9_rooms_77 rfl rfl dX9_rooms_37 ?_
      refine go_iload_n O dX9_rooms_40 rfl 2 rfl ?_
      refine go_aload_n O dX9_rooms_41 rfl 0 rfl ?_
      refine go_get (k := 0) (j := 5) O (by decide : (0 : Nat) < 27) (cm_obj G (S5.1 0) (S5.2 0)) rfl in_X9_rooms_X9 (by decide) fl_X9_rooms_25 rfl rfl dX9_rooms_42 ?_
      refine go_iload_n O dX9_rooms_45 rfl 2 rfl ?_
      obtain ⟨hb6, hF⟩ := chk_s hF
      refine go_iald (k := 6) O (by decide : (6 : Nat) < 27) (cm_6 G (S5.1 6) (S5.2 6)) (inB_in hb6) dX9_rooms_46 ?_
      obtain ⟨hb7, hF⟩ := chk_s hF
      obtain ⟨S8, eS8, hF⟩ := nm_s hF
      refine go_iast (k := 23) O (by decide : (23 : Nat) < 27) (fun f => (cm_23 G f (S5.2 23))) (inB_in hb7) dX9_rooms_47 eS8 ?_
      refine go_iinc (d := (1 : Int32)) (ls' := [(2, .int (p2 + (1 : Int32))), (0, .ref (G.2.1 0)), (1, .int p1)]) O dX9_rooms_48 2 rfl (by decide) (by decide) rfl ?_
      refine go_goto (tgt := 21) O dX9_rooms_51 (by decide) ?_
      refine go_perm (ls' := [(0, .ref (G.2.1 0)), (1, .int p1), (2, .int (p2 + (1 : Int32)))]) [1, 2, 0] rfl ?_
      exact ih _ _ _ hF hE
def T_X9_rooms_65   (p1 : Int32) (p2 : Int32) : Nat → Int32 → Sg → Option (Sg)
  | 0, _, _ => none
  | n + 1, p4, S => if (S.1 0 7) ≤ p4 then (some S) else (chk (inB p4 7) (chk (inB (S.1 21 p4.toNatClampNeg) 7) (chk (inB p4 7) (nm (wI S 6 p4.toNatClampNeg (S.1 23 (S.1 21 p4.toNatClampNeg).toNatClampNeg)) (fun S17 => T_X9_rooms_65 p1 p2 n (p4 + (1 : Int32)) S17)))))
set_option maxHeartbeats 4000000 in
set_option maxRecDepth 100000 in
theorem lt_X9_rooms_65 {X : XT} (l : Launch) (G : Gp) (hI : Ij (wM G))   {p1 : Int32} {p2 : Int32} (O : Ok X (wM G) cX9_rooms RX9 wsX9_rooms 6) : ∀ (n : Nat) (p4 : Int32) (S : Sg) (q : (Sg)), T_X9_rooms_65 p1 p2 n p4 S = some q → (Go X l rm_X9_rooms (wM G) 6 99 [(0, .ref (G.2.1 0)), (1, .int p1), (2, .int p2)] [] q) → Go X l rm_X9_rooms (wM G) 6 65 [(0, .ref (G.2.1 0)), (1, .int p1), (2, .int p2), (4, .int p4)] [] S := by
  intro n
  induction n with
  | zero =>
    intro p4 S q hF
    cases hF
  | succ n ih =>
    intro p4 S q hF hE
    rw [T_X9_rooms_65] at hF
    refine go_iload O dX9_rooms_65 3 rfl ?_
    refine go_aload_n O dX9_rooms_67 rfl 0 rfl ?_
    refine go_get (k := 0) (j := 7) O (by decide : (0 : Nat) < 27) (cm_obj G (S.1 0) (S.2 0)) rfl in_X9_rooms_X9 (by decide) fl_X9_rooms_153 rfl rfl dX9_rooms_68 ?_
    refine go_icmp_ge (tgt := 99) O dX9_rooms_71 (by decide) (fun hc18 => ?_) (fun hc18 => ?_)
    · replace hF := it_t hc18 hF
      refine go_perm (ls' := [(0, .ref (G.2.1 0)), (1, .int p1), (2, .int p2)]) [0, 1, 2] rfl ?_
      exact jn (P := fun q => Go X l rm_X9_rooms (wM G) 6 99 [(0, .ref (G.2.1 0)), (1, .int p1), (2, .int p2)] [] q) hF hE
    · replace hF := it_f hc18 hF
      refine go_aload_n O dX9_rooms_74 rfl 0 rfl ?_
      refine go_get (k := 0) (j := 5) O (by decide : (0 : Nat) < 27) (cm_obj G (S.1 0) (S.2 0)) rfl in_X9_rooms_X9 (by decide) fl_X9_rooms_25 rfl rfl dX9_rooms_75 ?_
      refine go_iload O dX9_rooms_78 3 rfl ?_
      refine go_aload_n O dX9_rooms_80 rfl 0 rfl ?_
      refine go_get (k := 0) (j := 31) O (by decide : (0 : Nat) < 27) (cm_obj G (S.1 0) (S.2 0)) rfl in_X9_rooms_X9 (by decide) fl_X9_rooms_77 rfl rfl dX9_rooms_81 ?_
      refine go_aload_n O dX9_rooms_84 rfl 0 rfl ?_
      refine go_get (k := 0) (j := 29) O (by decide : (0 : Nat) < 27) (cm_obj G (S.1 0) (S.2 0)) rfl in_X9_rooms_X9 (by decide) fl_X9_rooms_71 rfl rfl dX9_rooms_85 ?_
      refine go_iload O dX9_rooms_88 3 rfl ?_
      obtain ⟨hb14, hF⟩ := chk_s hF
      refine go_iald (k := 21) O (by decide : (21 : Nat) < 27) (cm_21 G (S.1 21) (S.2 21)) (inB_in hb14) dX9_rooms_90 ?_
      obtain ⟨hb15, hF⟩ := chk_s hF
      refine go_iald (k := 23) O (by decide : (23 : Nat) < 27) (cm_23 G (S.1 23) (S.2 23)) (inB_in hb15) dX9_rooms_91 ?_
      obtain ⟨hb16, hF⟩ := chk_s hF
      obtain ⟨S17, eS17, hF⟩ := nm_s hF
      refine go_iast (k := 6) O (by decide : (6 : Nat) < 27) (fun f => (cm_6 G f (S.2 6))) (inB_in hb16) dX9_rooms_92 eS17 ?_
      refine go_iinc (d := (1 : Int32)) (ls' := [(4, .int (p4 + (1 : Int32))), (0, .ref (G.2.1 0)), (1, .int p1), (2, .int p2)]) O dX9_rooms_93 3 rfl (by decide) (by decide) rfl ?_
      refine go_goto (tgt := 65) O dX9_rooms_96 (by decide) ?_
      refine go_perm (ls' := [(0, .ref (G.2.1 0)), (1, .int p1), (2, .int p2), (4, .int (p4 + (1 : Int32)))]) [1, 2, 3, 0] rfl ?_
      exact ih _ _ _ hF hE
def T_X9_rooms_111   (p1 : Int32) (p2 : Int32) (p4 : Int32) : Nat → Int32 → Sg → Option (Sg)
  | 0, _, _ => none
  | n + 1, p5, S => if (S.1 0 7) ≤ p5 then (some S) else (if p4 ≤ p2 then (some S) else (chk (inB p5 7) (chk (inB p5 7) (nm (wI S 22 p5.toNatClampNeg (S.1 21 p5.toNatClampNeg)) (fun S27 => T_X9_rooms_111 p1 p2 p4 n (p5 + (1 : Int32)) S27)))))
set_option maxHeartbeats 4000000 in
set_option maxRecDepth 100000 in
theorem lt_X9_rooms_111 {X : XT} (l : Launch) (G : Gp) (hI : Ij (wM G))   {p1 : Int32} {p2 : Int32} {p4 : Int32} (O : Ok X (wM G) cX9_rooms RX9 wsX9_rooms 6) : ∀ (n : Nat) (p5 : Int32) (S : Sg) (q : (Sg)), T_X9_rooms_111 p1 p2 p4 n p5 S = some q → (Go X l rm_X9_rooms (wM G) 6 146 [(0, .ref (G.2.1 0)), (1, .int p1), (2, .int p2), (4, .int p4)] [] q) → Go X l rm_X9_rooms (wM G) 6 111 [(0, .ref (G.2.1 0)), (1, .int p1), (2, .int p2), (4, .int p4), (5, .int p5)] [] S := by
  intro n
  induction n with
  | zero =>
    intro p5 S q hF
    cases hF
  | succ n ih =>
    intro p5 S q hF hE
    rw [T_X9_rooms_111] at hF
    refine go_iload O dX9_rooms_111 4 rfl ?_
    refine go_aload_n O dX9_rooms_113 rfl 0 rfl ?_
    refine go_get (k := 0) (j := 7) O (by decide : (0 : Nat) < 27) (cm_obj G (S.1 0) (S.2 0)) rfl in_X9_rooms_X9 (by decide) fl_X9_rooms_153 rfl rfl dX9_rooms_114 ?_
    refine go_icmp_ge (tgt := 146) O dX9_rooms_117 (by decide) (fun hc29 => ?_) (fun hc29 => ?_)
    · replace hF := it_t hc29 hF
      refine go_perm (ls' := [(0, .ref (G.2.1 0)), (1, .int p1), (2, .int p2), (4, .int p4)]) [0, 1, 2, 3] rfl ?_
      exact jn (P := fun q => Go X l rm_X9_rooms (wM G) 6 146 [(0, .ref (G.2.1 0)), (1, .int p1), (2, .int p2), (4, .int p4)] [] q) hF hE
    · replace hF := it_f hc29 hF
      refine go_iload O dX9_rooms_120 3 rfl ?_
      refine go_iload_n O dX9_rooms_122 rfl 2 rfl ?_
      refine go_icmp_le (tgt := 146) O dX9_rooms_123 (by decide) (fun hc28 => ?_) (fun hc28 => ?_)
      · replace hF := it_t hc28 hF
        refine go_perm (ls' := [(0, .ref (G.2.1 0)), (1, .int p1), (2, .int p2), (4, .int p4)]) [0, 1, 2, 3] rfl ?_
        exact jn (P := fun q => Go X l rm_X9_rooms (wM G) 6 146 [(0, .ref (G.2.1 0)), (1, .int p1), (2, .int p2), (4, .int p4)] [] q) hF hE
      · replace hF := it_f hc28 hF
        refine go_aload_n O dX9_rooms_126 rfl 0 rfl ?_
        refine go_get (k := 0) (j := 30) O (by decide : (0 : Nat) < 27) (cm_obj G (S.1 0) (S.2 0)) rfl in_X9_rooms_X9 (by decide) fl_X9_rooms_74 rfl rfl dX9_rooms_127 ?_
        refine go_iload O dX9_rooms_130 4 rfl ?_
        refine go_aload_n O dX9_rooms_132 rfl 0 rfl ?_
        refine go_get (k := 0) (j := 29) O (by decide : (0 : Nat) < 27) (cm_obj G (S.1 0) (S.2 0)) rfl in_X9_rooms_X9 (by decide) fl_X9_rooms_71 rfl rfl dX9_rooms_133 ?_
        refine go_iload O dX9_rooms_136 4 rfl ?_
        obtain ⟨hb25, hF⟩ := chk_s hF
        refine go_iald (k := 21) O (by decide : (21 : Nat) < 27) (cm_21 G (S.1 21) (S.2 21)) (inB_in hb25) dX9_rooms_138 ?_
        obtain ⟨hb26, hF⟩ := chk_s hF
        obtain ⟨S27, eS27, hF⟩ := nm_s hF
        refine go_iast (k := 22) O (by decide : (22 : Nat) < 27) (fun f => (cm_22 G f (S.2 22))) (inB_in hb26) dX9_rooms_139 eS27 ?_
        refine go_iinc (d := (1 : Int32)) (ls' := [(5, .int (p5 + (1 : Int32))), (0, .ref (G.2.1 0)), (1, .int p1), (2, .int p2), (4, .int p4)]) O dX9_rooms_140 4 rfl (by decide) (by decide) rfl ?_
        refine go_goto (tgt := 111) O dX9_rooms_143 (by decide) ?_
        refine go_perm (ls' := [(0, .ref (G.2.1 0)), (1, .int p1), (2, .int p2), (4, .int p4), (5, .int (p5 + (1 : Int32)))]) [1, 2, 3, 4, 0] rfl ?_
        exact ih _ _ _ hF hE
def T_X9_rooms_58   (p1 : Int32) : Nat → Int32 → Int32 → Sg → Option (Int32 × Sg)
  | 0, _, _, _ => none
  | n + 1, p2, p3, S => if p3 = 0 then (some (p2, S)) else (bd (T_X9_rooms_65 p1 p2 FU (0 : Int32) S) (fun S13 => bd (F_X9_safeSet S13) (fun x21 => bd (F_X9_ones S13 x21) (fun x23 => bd (T_X9_rooms_111 p1 p2 x23 FU (0 : Int32) S13) (fun S24 => bd (if x23 ≤ p2 then (some p2) else (some x23)) (fun x31 => bd (F_X9_nextOrder S24) (fun (x36, S37) => T_X9_rooms_58 p1 n x31 x36 S37)))))))
set_option maxHeartbeats 4000000 in
set_option maxRecDepth 100000 in
theorem lt_X9_rooms_58 {X : XT} (l : Launch) (G : Gp) (hI : Ij (wM G))   {p1 : Int32} (O : Ok X (wM G) cX9_rooms RX9 wsX9_rooms 6) : ∀ (n : Nat) (p2 : Int32) (p3 : Int32) (S : Sg) (q : (Int32 × Sg)), T_X9_rooms_58 p1 n p2 p3 S = some q → (Go X l rm_X9_rooms (wM G) 6 167 [(0, .ref (G.2.1 0)), (1, .int p1), (2, .int q.1)] [] q.2) → Go X l rm_X9_rooms (wM G) 6 58 [(0, .ref (G.2.1 0)), (1, .int p1), (2, .int p2), (3, .int p3)] [] S := by
  intro n
  induction n with
  | zero =>
    intro p2 p3 S q hF
    cases hF
  | succ n ih =>
    intro p2 p3 S q hF hE
    rw [T_X9_rooms_58] at hF
    refine go_iload_n O dX9_rooms_58 rfl 3 rfl ?_
    refine go_if_eq (tgt := 167) O dX9_rooms_59 (by decide) (fun hc38 => ?_) (fun hc38 => ?_)
    · replace hF := it_t hc38 hF
      refine go_perm (ls' := [(0, .ref (G.2.1 0)), (1, .int p1), (2, .int p2)]) [0, 1, 2] rfl ?_
      exact jn (P := fun q => Go X l rm_X9_rooms (wM G) 6 167 [(0, .ref (G.2.1 0)), (1, .int p1), (2, .int q.1)] [] q.2) hF hE
    · replace hF := it_f hc38 hF
      refine go_iconst (v := (0 : Int32)) O dX9_rooms_62 (by decide) ?_
      refine go_istore (ls' := [(4, .int (0 : Int32)), (0, .ref (G.2.1 0)), (1, .int p1), (2, .int p2), (3, .int p3)]) O dX9_rooms_63 (by decide) rfl ?_
      refine go_perm (ls' := [(0, .ref (G.2.1 0)), (1, .int p1), (2, .int p2), (4, .int (0 : Int32))]) [1, 2, 3, 0] rfl ?_
      obtain ⟨S13, hA19, hF⟩ := bd_s hF
      refine lt_X9_rooms_65 l G hI  O _ _ _ _ hA19 ?_
      refine go_aload_n O dX9_rooms_99 rfl 0 rfl ?_
      obtain ⟨x21, hA20, hF⟩ := bd_s hF
      refine go_callVi (As := []) (rest := []) (b := 0) O (c_X9_safeSet l G hI hA20) (fun s args hts => cwV 0 hts gX9_rooms_X9_safeSet rfl rfl rfl (by decide +kernel) ⟨Nat.le_of_ble_eq_true rfl, Nat.le_of_ble_eq_true rfl⟩) (by decide : (0 : Nat) < 27) (cm_obj G (S13.1 0) (S13.2 0)) rfl rfl rfl rfl (Nat.le_of_ble_eq_true rfl) dX9_rooms_100 ?_
      obtain ⟨x23, hA22, hF⟩ := bd_s hF
      refine go_callSi (As := [.int x21]) (rest := []) O (c_X9_ones l G hI hA22) (fun s args hts => va_cwS 1 hts gX9_rooms_X9_ones rfl rfl rfl (by decide +kernel) ⟨Nat.le_of_ble_eq_true rfl, Nat.le_of_ble_eq_true rfl⟩) rfl rfl (Nat.le_of_ble_eq_true rfl) dX9_rooms_103 ?_
      refine go_istore (ls' := [(4, .int x23), (0, .ref (G.2.1 0)), (1, .int p1), (2, .int p2)]) O dX9_rooms_106 (by decide) rfl ?_
      refine go_iconst (v := (0 : Int32)) O dX9_rooms_108 (by decide) ?_
      refine go_istore (ls' := [(5, .int (0 : Int32)), (4, .int x23), (0, .ref (G.2.1 0)), (1, .int p1), (2, .int p2)]) O dX9_rooms_109 (by decide) rfl ?_
      refine go_perm (ls' := [(0, .ref (G.2.1 0)), (1, .int p1), (2, .int p2), (4, .int x23), (5, .int (0 : Int32))]) [2, 3, 4, 1, 0] rfl ?_
      obtain ⟨S24, hA30, hF⟩ := bd_s hF
      refine lt_X9_rooms_111 l G hI  O _ _ _ _ hA30 ?_
      refine go_iload O dX9_rooms_146 3 rfl ?_
      refine go_iload_n O dX9_rooms_148 rfl 2 rfl ?_
      obtain ⟨x31, hA33, hF⟩ := bd_s hF
      have J32 : Go X l rm_X9_rooms (wM G) 6 158 [(0, .ref (G.2.1 0)), (1, .int p1)] [.int x31] S24 := by
        refine go_istore_n (ls' := [(2, .int x31), (0, .ref (G.2.1 0)), (1, .int p1)]) O dX9_rooms_158 rfl (by decide) rfl ?_
        refine go_aload_n O dX9_rooms_159 rfl 1 rfl ?_
        obtain ⟨⟨x36, S37⟩, hA35, hF⟩ := bd_s hF
        refine go_callVi (As := []) (rest := []) (b := 0) O (c_X9_nextOrder l G hI hA35) (fun s args hts => cwV 0 hts gX9_rooms_X9_nextOrder rfl rfl rfl (by decide +kernel) ⟨Nat.le_of_ble_eq_true rfl, Nat.le_of_ble_eq_true rfl⟩) (by decide : (0 : Nat) < 27) (cm_obj G (S24.1 0) (S24.2 0)) rfl rfl rfl rfl (Nat.le_of_ble_eq_true rfl) dX9_rooms_160 ?_
        refine go_istore_n (ls' := [(3, .int x36), (2, .int x31), (0, .ref (G.2.1 0)), (1, .int p1)]) O dX9_rooms_163 rfl (by decide) rfl ?_
        refine go_goto (tgt := 58) O dX9_rooms_164 (by decide) ?_
        refine go_perm (ls' := [(0, .ref (G.2.1 0)), (1, .int p1), (2, .int x31), (3, .int x36)]) [2, 3, 1, 0] rfl ?_
        exact ih _ _ _ _ hF hE
      replace hF := hA33
      refine go_icmp_le (tgt := 157) O dX9_rooms_149 (by decide) (fun hc34 => ?_) (fun hc34 => ?_)
      · replace hF := it_t hc34 hF
        refine go_iload_n O dX9_rooms_157 rfl 2 rfl ?_
        refine go_perm (ls' := [(0, .ref (G.2.1 0)), (1, .int p1)]) [0, 1] rfl ?_
        exact jn (P := fun q => Go X l rm_X9_rooms (wM G) 6 158 [(0, .ref (G.2.1 0)), (1, .int p1)] [.int q] S24) hF J32
      · replace hF := it_f hc34 hF
        refine go_iload O dX9_rooms_152 3 rfl ?_
        refine go_goto (tgt := 158) O dX9_rooms_154 (by decide) ?_
        refine go_perm (ls' := [(0, .ref (G.2.1 0)), (1, .int p1)]) [0, 1] rfl ?_
        exact jn (P := fun q => Go X l rm_X9_rooms (wM G) 6 158 [(0, .ref (G.2.1 0)), (1, .int p1)] [.int q] S24) hF J32
def T_X9_rooms_180   (p1 : Int32) (p2 : Int32) : Nat → Int32 → Sg → Option (Sg)
  | 0, _, _ => none
  | n + 1, p4, S => if (S.1 0 7) ≤ p4 then (some S) else (chk (inB p4 7) (chk (inB p4 7) (nm (wI S 6 p4.toNatClampNeg (S.1 23 p4.toNatClampNeg)) (fun S46 => chk (inB p4 7) (chk (inB (((40 : Int32) * p1) + p4) 240) (nm (wI S46 2 (((40 : Int32) * p1) + p4).toNatClampNeg (S46.1 22 p4.toNatClampNeg)) (fun S49 => T_X9_rooms_180 p1 p2 n (p4 + (1 : Int32)) S49)))))))
set_option maxHeartbeats 4000000 in
set_option maxRecDepth 100000 in
theorem lt_X9_rooms_180 {X : XT} (l : Launch) (G : Gp) (hI : Ij (wM G))   {p1 : Int32} {p2 : Int32} (O : Ok X (wM G) cX9_rooms RX9 wsX9_rooms 6) : ∀ (n : Nat) (p4 : Int32) (S : Sg) (q : (Sg)), T_X9_rooms_180 p1 p2 n p4 S = some q → (Go X l rm_X9_rooms (wM G) 6 228 [(2, .int p2)] [] q) → Go X l rm_X9_rooms (wM G) 6 180 [(0, .ref (G.2.1 0)), (1, .int p1), (2, .int p2), (4, .int p4)] [] S := by
  intro n
  induction n with
  | zero =>
    intro p4 S q hF
    cases hF
  | succ n ih =>
    intro p4 S q hF hE
    rw [T_X9_rooms_180] at hF
    refine go_iload O dX9_rooms_180 3 rfl ?_
    refine go_aload_n O dX9_rooms_182 rfl 0 rfl ?_
    refine go_get (k := 0) (j := 7) O (by decide : (0 : Nat) < 27) (cm_obj G (S.1 0) (S.2 0)) rfl in_X9_rooms_X9 (by decide) fl_X9_rooms_153 rfl rfl dX9_rooms_183 ?_
    refine go_icmp_ge (tgt := 228) O dX9_rooms_186 (by decide) (fun hc50 => ?_) (fun hc50 => ?_)
    · replace hF := it_t hc50 hF
      refine go_perm (ls' := [(2, .int p2)]) [2] rfl ?_
      exact jn (P := fun q => Go X l rm_X9_rooms (wM G) 6 228 [(2, .int p2)] [] q) hF hE
    · replace hF := it_f hc50 hF
      refine go_aload_n O dX9_rooms_189 rfl 0 rfl ?_
      refine go_get (k := 0) (j := 5) O (by decide : (0 : Nat) < 27) (cm_obj G (S.1 0) (S.2 0)) rfl in_X9_rooms_X9 (by decide) fl_X9_rooms_25 rfl rfl dX9_rooms_190 ?_
      refine go_iload O dX9_rooms_193 3 rfl ?_
      refine go_aload_n O dX9_rooms_195 rfl 0 rfl ?_
      refine go_get (k := 0) (j := 31) O (by decide : (0 : Nat) < 27) (cm_obj G (S.1 0) (S.2 0)) rfl in_X9_rooms_X9 (by decide) fl_X9_rooms_77 rfl rfl dX9_rooms_196 ?_
      refine go_iload O dX9_rooms_199 3 rfl ?_
      obtain ⟨hb44, hF⟩ := chk_s hF
      refine go_iald (k := 23) O (by decide : (23 : Nat) < 27) (cm_23 G (S.1 23) (S.2 23)) (inB_in hb44) dX9_rooms_201 ?_
      obtain ⟨hb45, hF⟩ := chk_s hF
      obtain ⟨S46, eS46, hF⟩ := nm_s hF
      refine go_iast (k := 6) O (by decide : (6 : Nat) < 27) (fun f => (cm_6 G f (S.2 6))) (inB_in hb45) dX9_rooms_202 eS46 ?_
      refine go_aload_n O dX9_rooms_203 rfl 0 rfl ?_
      refine go_get (k := 0) (j := 1) O (by decide : (0 : Nat) < 27) (cm_obj G (S46.1 0) (S46.2 0)) rfl in_X9_rooms_X9 (by decide) fl_X9_rooms_13 rfl rfl dX9_rooms_204 ?_
      refine go_bipush (v := (40 : Int32)) O dX9_rooms_207 (by decide) ?_
      refine go_iload_n O dX9_rooms_209 rfl 1 rfl ?_
      refine go_imul O dX9_rooms_210 ?_
      refine go_iload O dX9_rooms_211 3 rfl ?_
      refine go_iadd O dX9_rooms_213 ?_
      refine go_aload_n O dX9_rooms_214 rfl 0 rfl ?_
      refine go_get (k := 0) (j := 30) O (by decide : (0 : Nat) < 27) (cm_obj G (S46.1 0) (S46.2 0)) rfl in_X9_rooms_X9 (by decide) fl_X9_rooms_74 rfl rfl dX9_rooms_215 ?_
      refine go_iload O dX9_rooms_218 3 rfl ?_
      obtain ⟨hb47, hF⟩ := chk_s hF
      refine go_iald (k := 22) O (by decide : (22 : Nat) < 27) (cm_22 G (S46.1 22) (S46.2 22)) (inB_in hb47) dX9_rooms_220 ?_
      obtain ⟨hb48, hF⟩ := chk_s hF
      obtain ⟨S49, eS49, hF⟩ := nm_s hF
      refine go_iast (k := 2) O (by decide : (2 : Nat) < 27) (fun f => (cm_2 G f (S46.2 2))) (inB_in hb48) dX9_rooms_221 eS49 ?_
      refine go_iinc (d := (1 : Int32)) (ls' := [(4, .int (p4 + (1 : Int32))), (0, .ref (G.2.1 0)), (1, .int p1), (2, .int p2)]) O dX9_rooms_222 3 rfl (by decide) (by decide) rfl ?_
      refine go_goto (tgt := 180) O dX9_rooms_225 (by decide) ?_
      refine go_perm (ls' := [(0, .ref (G.2.1 0)), (1, .int p1), (2, .int p2), (4, .int (p4 + (1 : Int32)))]) [1, 2, 3, 0] rfl ?_
      exact ih _ _ _ hF hE
def F_X9_rooms  (S : Sg) (a1 : Int32) : Option (Int32 × Sg) := bd (F_X9_isRow S a1) (fun x2 => if x2 = 0 then (some ((-1 : Int32), S)) else (if (S.1 0 7) = 0 then (some ((-4 : Int32), S)) else (bd (T_X9_rooms_21 a1 FU (0 : Int32) S) (fun S3 => bd (T_X9_rooms_58 a1 FU (-1 : Int32) (1 : Int32) S3) (fun (x11, S12) => bd (F_X9_row S12 a1 (S12.1 0 7)) (fun (x41, S42) => bd (T_X9_rooms_180 a1 x11 FU (0 : Int32) S42) (fun S43 => some (x11, S43))))))))
set_option maxHeartbeats 4000000 in
set_option maxRecDepth 100000 in
theorem c_X9_rooms (l : Launch) (G : Gp) (hI : Ij (wM G))  {S : Sg} {a1 : Int32} {r : Int32} {S1 : Sg} (hF : F_X9_rooms S a1 = some (r, S1)) : Met l yX9_rooms wsX9_rooms rm_X9_rooms (va_Pc [.ref (G.2.1 0), .int a1] (PreW (wM G) S)) (va_Qi (fun r' u => r' = r ∧ u = S1) (PostW (wM G)) (AW (wM G))) 0 0 (AW (wM G)) := by
  rw [F_X9_rooms] at hF
  refine met_i (cc := cX9_rooms) (maxL := 6) (own := RX9) hI (by decide) rfl rfl (Nat.le_of_ble_eq_true rfl) (fun X O hR => ?_)
  show Go X l rm_X9_rooms (wM G) 6 0 [(0, .ref (G.2.1 0)), (1, .int a1)] [] S
  refine go_iload_n O dX9_rooms_0 rfl 1 rfl ?_
  obtain ⟨x2, hA1, hF⟩ := bd_s hF
  refine go_callSi (As := [.int a1]) (rest := []) O (c_X9_isRow l G hI hA1) (fun s args hts => va_cwS 1 hts gX9_rooms_X9_isRow rfl rfl rfl (by decide +kernel) ⟨Nat.le_of_ble_eq_true rfl, Nat.le_of_ble_eq_true rfl⟩) rfl rfl (Nat.le_of_ble_eq_true rfl) dX9_rooms_1 ?_
  refine go_if_ne (tgt := 9) O dX9_rooms_4 (by decide) (fun hc53 => ?_) (fun hc53 => ?_)
  · replace hF := it_f hc53 hF
    refine go_aload_n O dX9_rooms_9 rfl 0 rfl ?_
    refine go_get (k := 0) (j := 7) O (by decide : (0 : Nat) < 27) (cm_obj G (S.1 0) (S.2 0)) rfl in_X9_rooms_X9 (by decide) fl_X9_rooms_153 rfl rfl dX9_rooms_10 ?_
    refine go_if_ne (tgt := 19) O dX9_rooms_13 (by decide) (fun hc52 => ?_) (fun hc52 => ?_)
    · replace hF := it_f hc52 hF
      refine go_iconst (v := (0 : Int32)) O dX9_rooms_19 (by decide) ?_
      refine go_istore_n (ls' := [(2, .int (0 : Int32)), (0, .ref (G.2.1 0)), (1, .int a1)]) O dX9_rooms_20 rfl (by decide) rfl ?_
      refine go_perm (ls' := [(0, .ref (G.2.1 0)), (1, .int a1), (2, .int (0 : Int32))]) [1, 2, 0] rfl ?_
      obtain ⟨S3, hA10, hF⟩ := bd_s hF
      refine lt_X9_rooms_21 l G hI  O _ _ _ _ hA10 ?_
      refine go_iconst (v := (-1 : Int32)) O dX9_rooms_54 (by decide) ?_
      refine go_istore_n (ls' := [(2, .int (-1 : Int32)), (0, .ref (G.2.1 0)), (1, .int a1)]) O dX9_rooms_55 rfl (by decide) rfl ?_
      refine go_iconst (v := (1 : Int32)) O dX9_rooms_56 (by decide) ?_
      refine go_istore_n (ls' := [(3, .int (1 : Int32)), (2, .int (-1 : Int32)), (0, .ref (G.2.1 0)), (1, .int a1)]) O dX9_rooms_57 rfl (by decide) rfl ?_
      refine go_perm (ls' := [(0, .ref (G.2.1 0)), (1, .int a1), (2, .int (-1 : Int32)), (3, .int (1 : Int32))]) [2, 3, 1, 0] rfl ?_
      obtain ⟨⟨x11, S12⟩, hA39, hF⟩ := bd_s hF
      refine lt_X9_rooms_58 l G hI  O _ _ _ _ _ hA39 ?_
      refine go_aload_n O dX9_rooms_167 rfl 0 rfl ?_
      refine go_iload_n O dX9_rooms_168 rfl 1 rfl ?_
      refine go_aload_n O dX9_rooms_169 rfl 0 rfl ?_
      refine go_get (k := 0) (j := 7) O (by decide : (0 : Nat) < 27) (cm_obj G (S12.1 0) (S12.2 0)) rfl in_X9_rooms_X9 (by decide) fl_X9_rooms_153 rfl rfl dX9_rooms_170 ?_
      obtain ⟨⟨x41, S42⟩, hA40, hF⟩ := bd_s hF
      refine go_callVi (As := [.int a1, .int (S12.1 0 7)]) (rest := []) (b := 0) O (c_X9_row l G hI hA40) (fun s args hts => cwV 2 hts gX9_rooms_X9_row rfl rfl rfl (by decide +kernel) ⟨Nat.le_of_ble_eq_true rfl, Nat.le_of_ble_eq_true rfl⟩) (by decide : (0 : Nat) < 27) (cm_obj G (S12.1 0) (S12.2 0)) rfl rfl rfl rfl (Nat.le_of_ble_eq_true rfl) dX9_rooms_173 ?_
      refine go_pop O dX9_rooms_176 rfl ?_
      refine go_iconst (v := (0 : Int32)) O dX9_rooms_177 (by decide) ?_
      refine go_istore (ls' := [(4, .int (0 : Int32)), (0, .ref (G.2.1 0)), (1, .int a1), (2, .int x11)]) O dX9_rooms_178 (by decide) rfl ?_
      refine go_perm (ls' := [(0, .ref (G.2.1 0)), (1, .int a1), (2, .int x11), (4, .int (0 : Int32))]) [1, 2, 3, 0] rfl ?_
      obtain ⟨S43, hA51, hF⟩ := bd_s hF
      refine lt_X9_rooms_180 l G hI  O _ _ _ _ hA51 ?_
      refine go_iload_n O dX9_rooms_228 rfl 0 rfl ?_
      exact ret_wi hF (hR _ _ dX9_rooms_229)
    · replace hF := it_t hc52 hF
      refine go_bipush (v := (-4 : Int32)) O dX9_rooms_16 (by decide) ?_
      exact ret_wi hF (hR _ _ dX9_rooms_18)
  · replace hF := it_t hc53 hF
    refine go_iconst (v := (-1 : Int32)) O dX9_rooms_7 (by decide) ?_
    exact ret_wi hF (hR _ _ dX9_rooms_8)
-- X9_change
def rm_X9_change : Room := { frames := 0, cells := 0, slots := 0, locals := 0 }
theorem fl_X9_change_25 : Cond.fieldLink RX9 25 "PaperWallsModel" "where" "[I" ∈ wsX9_change := by decide +kernel
theorem in_X9_change_X9 : ∀ x ∈ u_ws RX9 TX9 36, x ∈ wsX9_change := by decide +kernel
def F_X9_change  (S : Sg) (a1 : Int32) (a2 : Int32) : Option Sg := chk (inB a1 7) (nm (S.1 6 a1.toNatClampNeg) (fun x2 => chk (inB a2 7) (chk (inB a1 7) (nm (wI S 6 a1.toNatClampNeg (S.1 6 a2.toNatClampNeg)) (fun S5 => chk (inB a2 7) (nm (wI S5 6 a2.toNatClampNeg x2) (fun S7 => some S7)))))))
set_option maxHeartbeats 4000000 in
set_option maxRecDepth 100000 in
theorem c_X9_change (l : Launch) (G : Gp) (hI : Ij (wM G))  {S : Sg} {a1 : Int32} {a2 : Int32} {S1 : Sg} (hF : F_X9_change S a1 a2 = some S1) : Met l yX9_change wsX9_change rm_X9_change (va_Pc [.ref (G.2.1 0), .int a1, .int a2] (PreW (wM G) S)) (va_Qv (fun u => u = S1) (PostW (wM G)) (AW (wM G))) 0 0 (AW (wM G)) := by
  rw [F_X9_change] at hF
  refine met_v (cc := cX9_change) (maxL := 4) (own := RX9) hI (by decide) rfl rfl (Nat.le_of_ble_eq_true rfl) (fun X O hR => ?_)
  show Go X l rm_X9_change (wM G) 4 0 [(0, .ref (G.2.1 0)), (1, .int a1), (2, .int a2)] [] S
  refine go_aload_n O dX9_change_0 rfl 0 rfl ?_
  refine go_get (k := 0) (j := 5) O (by decide : (0 : Nat) < 27) (cm_obj G (S.1 0) (S.2 0)) rfl in_X9_change_X9 (by decide) fl_X9_change_25 rfl rfl dX9_change_1 ?_
  refine go_iload_n O dX9_change_4 rfl 1 rfl ?_
  obtain ⟨hb1, hF⟩ := chk_s hF
  refine go_iald (k := 6) O (by decide : (6 : Nat) < 27) (cm_6 G (S.1 6) (S.2 6)) (inB_in hb1) dX9_change_5 ?_
  obtain ⟨x2, ex2, hF⟩ := nm_s hF
  refine go_topi ex2 ?_
  refine go_istore_n (ls' := [(3, .int x2), (0, .ref (G.2.1 0)), (1, .int a1), (2, .int a2)]) O dX9_change_6 rfl (by decide) rfl ?_
  refine go_aload_n O dX9_change_7 rfl 1 rfl ?_
  refine go_get (k := 0) (j := 5) O (by decide : (0 : Nat) < 27) (cm_obj G (S.1 0) (S.2 0)) rfl in_X9_change_X9 (by decide) fl_X9_change_25 rfl rfl dX9_change_8 ?_
  refine go_iload_n O dX9_change_11 rfl 2 rfl ?_
  refine go_aload_n O dX9_change_12 rfl 1 rfl ?_
  refine go_get (k := 0) (j := 5) O (by decide : (0 : Nat) < 27) (cm_obj G (S.1 0) (S.2 0)) rfl in_X9_change_X9 (by decide) fl_X9_change_25 rfl rfl dX9_change_13 ?_
  refine go_iload_n O dX9_change_16 rfl 3 rfl ?_
  obtain ⟨hb3, hF⟩ := chk_s hF
  refine go_iald (k := 6) O (by decide : (6 : Nat) < 27) (cm_6 G (S.1 6) (S.2 6)) (inB_in hb3) dX9_change_17 ?_
  obtain ⟨hb4, hF⟩ := chk_s hF
  obtain ⟨S5, eS5, hF⟩ := nm_s hF
  refine go_iast (k := 6) O (by decide : (6 : Nat) < 27) (fun f => (cm_6 G f (S.2 6))) (inB_in hb4) dX9_change_18 eS5 ?_
  refine go_aload_n O dX9_change_19 rfl 1 rfl ?_
  refine go_get (k := 0) (j := 5) O (by decide : (0 : Nat) < 27) (cm_obj G (S5.1 0) (S5.2 0)) rfl in_X9_change_X9 (by decide) fl_X9_change_25 rfl rfl dX9_change_20 ?_
  refine go_iload_n O dX9_change_23 rfl 3 rfl ?_
  refine go_iload_n O dX9_change_24 rfl 0 rfl ?_
  obtain ⟨hb6, hF⟩ := chk_s hF
  obtain ⟨S7, eS7, hF⟩ := nm_s hF
  refine go_iast (k := 6) O (by decide : (6 : Nat) < 27) (fun f => (cm_6 G f (S5.2 6))) (inB_in hb6) dX9_change_25 eS7 ?_
  exact ret_v hF (hR _ _ dX9_change_26)
-- X9_swap
def rm_X9_swap : Room := { frames := 6, cells := 0, slots := 0, locals := 137 }
theorem fl_X9_swap_153 : Cond.fieldLink RX9 153 "PaperWallsModel" "people" "I" ∈ wsX9_swap := by decide +kernel
theorem in_X9_swap_X9 : ∀ x ∈ u_ws RX9 TX9 36, x ∈ wsX9_swap := by decide +kernel
def T_X9_swap_26   (p3 : Int32) : Nat → Int32 → Int32 → Int32 → Sg → Option (Int32 × Int32 × Sg)
  | 0, _, _, _, _ => none
  | n + 1, p1, p2, p4, S => if (S.1 0 7) ≤ p4 then (some (p1, p2, S)) else (bd (F_X9_change S p3 p4) (fun S13 => bd (F_X9_safeSet S13) (fun x15 => bd (F_X9_ones S13 x15) (fun x17 => bd (F_X9_change S13 p3 p4) (fun S19 => bd (if x17 ≤ p1 then (some p2) else (some (((10 : Int32) * p3) + p4))) (fun x20 => bd (if x17 ≤ p1 then (some p1) else (some x17)) (fun x24 => T_X9_swap_26 p3 n x24 x20 (p4 + (1 : Int32)) S19)))))))
set_option maxHeartbeats 4000000 in
set_option maxRecDepth 100000 in
theorem lt_X9_swap_26 {X : XT} (l : Launch) (G : Gp) (hI : Ij (wM G))   {p3 : Int32} (O : Ok X (wM G) cX9_swap RX9 wsX9_swap 6) : ∀ (n : Nat) (p1 : Int32) (p2 : Int32) (p4 : Int32) (S : Sg) (q : (Int32 × Int32 × Sg)), T_X9_swap_26 p3 n p1 p2 p4 S = some q → (Go X l rm_X9_swap (wM G) 6 95 [(0, .ref (G.2.1 0)), (1, .int q.1), (2, .int q.2.1), (3, .int p3)] [] q.2.2) → Go X l rm_X9_swap (wM G) 6 26 [(0, .ref (G.2.1 0)), (1, .int p1), (2, .int p2), (3, .int p3), (4, .int p4)] [] S := by
  intro n
  induction n with
  | zero =>
    intro p1 p2 p4 S q hF
    cases hF
  | succ n ih =>
    intro p1 p2 p4 S q hF hE
    rw [T_X9_swap_26] at hF
    refine go_iload O dX9_swap_26 4 rfl ?_
    refine go_aload_n O dX9_swap_28 rfl 0 rfl ?_
    refine go_get (k := 0) (j := 7) O (by decide : (0 : Nat) < 27) (cm_obj G (S.1 0) (S.2 0)) rfl in_X9_swap_X9 (by decide) fl_X9_swap_153 rfl rfl dX9_swap_29 ?_
    refine go_icmp_ge (tgt := 95) O dX9_swap_32 (by decide) (fun hc28 => ?_) (fun hc28 => ?_)
    · replace hF := it_t hc28 hF
      refine go_perm (ls' := [(0, .ref (G.2.1 0)), (1, .int p1), (2, .int p2), (3, .int p3)]) [0, 1, 2, 3] rfl ?_
      exact jn (P := fun q => Go X l rm_X9_swap (wM G) 6 95 [(0, .ref (G.2.1 0)), (1, .int q.1), (2, .int q.2.1), (3, .int p3)] [] q.2.2) hF hE
    · replace hF := it_f hc28 hF
      refine go_aload_n O dX9_swap_35 rfl 0 rfl ?_
      refine go_iload_n O dX9_swap_36 rfl 3 rfl ?_
      refine go_iload O dX9_swap_37 4 rfl ?_
      obtain ⟨S13, hA12, hF⟩ := bd_s hF
      refine go_callVv (As := [.int p3, .int p4]) (rest := []) (b := 0) O (c_X9_change l G hI hA12) (fun s args hts => cwV 2 hts gX9_swap_X9_change rfl rfl rfl (by decide +kernel) ⟨Nat.le_of_ble_eq_true rfl, Nat.le_of_ble_eq_true rfl⟩) (by decide : (0 : Nat) < 27) (cm_obj G (S.1 0) (S.2 0)) rfl rfl rfl rfl (Nat.le_of_ble_eq_true rfl) dX9_swap_39 ?_
      refine go_aload_n O dX9_swap_42 rfl 0 rfl ?_
      obtain ⟨x15, hA14, hF⟩ := bd_s hF
      refine go_callVi (As := []) (rest := []) (b := 0) O (c_X9_safeSet l G hI hA14) (fun s args hts => cwV 0 hts gX9_swap_X9_safeSet rfl rfl rfl (by decide +kernel) ⟨Nat.le_of_ble_eq_true rfl, Nat.le_of_ble_eq_true rfl⟩) (by decide : (0 : Nat) < 27) (cm_obj G (S13.1 0) (S13.2 0)) rfl rfl rfl rfl (Nat.le_of_ble_eq_true rfl) dX9_swap_43 ?_
      obtain ⟨x17, hA16, hF⟩ := bd_s hF
      refine go_callSi (As := [.int x15]) (rest := []) O (c_X9_ones l G hI hA16) (fun s args hts => va_cwS 1 hts gX9_swap_X9_ones rfl rfl rfl (by decide +kernel) ⟨Nat.le_of_ble_eq_true rfl, Nat.le_of_ble_eq_true rfl⟩) rfl rfl (Nat.le_of_ble_eq_true rfl) dX9_swap_46 ?_
      refine go_istore (ls' := [(5, .int x17), (0, .ref (G.2.1 0)), (1, .int p1), (2, .int p2), (3, .int p3), (4, .int p4)]) O dX9_swap_49 (by decide) rfl ?_
      refine go_aload_n O dX9_swap_51 rfl 1 rfl ?_
      refine go_iload_n O dX9_swap_52 rfl 4 rfl ?_
      refine go_iload O dX9_swap_53 5 rfl ?_
      obtain ⟨S19, hA18, hF⟩ := bd_s hF
      refine go_callVv (As := [.int p3, .int p4]) (rest := []) (b := 0) O (c_X9_change l G hI hA18) (fun s args hts => cwV 2 hts gX9_swap_X9_change rfl rfl rfl (by decide +kernel) ⟨Nat.le_of_ble_eq_true rfl, Nat.le_of_ble_eq_true rfl⟩) (by decide : (0 : Nat) < 27) (cm_obj G (S13.1 0) (S13.2 0)) rfl rfl rfl rfl (Nat.le_of_ble_eq_true rfl) dX9_swap_55 ?_
      refine go_iload O dX9_swap_58 0 rfl ?_
      refine go_iload_n O dX9_swap_60 rfl 2 rfl ?_
      obtain ⟨x20, hA22, hF⟩ := bd_s hF
      have J21 : Go X l rm_X9_swap (wM G) 6 75 [(0, .ref (G.2.1 0)), (1, .int p1), (3, .int p3), (4, .int p4), (5, .int x17)] [.int x20] S19 := by
        refine go_istore_n (ls' := [(2, .int x20), (0, .ref (G.2.1 0)), (1, .int p1), (3, .int p3), (4, .int p4), (5, .int x17)]) O dX9_swap_75 rfl (by decide) rfl ?_
        refine go_iload O dX9_swap_76 5 rfl ?_
        refine go_iload_n O dX9_swap_78 rfl 2 rfl ?_
        obtain ⟨x24, hA26, hF⟩ := bd_s hF
        have J25 : Go X l rm_X9_swap (wM G) 6 88 [(0, .ref (G.2.1 0)), (2, .int x20), (3, .int p3), (4, .int p4)] [.int x24] S19 := by
          refine go_istore_n (ls' := [(1, .int x24), (0, .ref (G.2.1 0)), (2, .int x20), (3, .int p3), (4, .int p4)]) O dX9_swap_88 rfl (by decide) rfl ?_
          refine go_iinc (d := (1 : Int32)) (ls' := [(4, .int (p4 + (1 : Int32))), (1, .int x24), (0, .ref (G.2.1 0)), (2, .int x20), (3, .int p3)]) O dX9_swap_89 4 rfl (by decide) (by decide) rfl ?_
          refine go_goto (tgt := 26) O dX9_swap_92 (by decide) ?_
          refine go_perm (ls' := [(0, .ref (G.2.1 0)), (1, .int x24), (2, .int x20), (3, .int p3), (4, .int (p4 + (1 : Int32)))]) [2, 1, 3, 4, 0] rfl ?_
          exact ih _ _ _ _ _ hF hE
        replace hF := hA26
        refine go_icmp_le (tgt := 87) O dX9_swap_79 (by decide) (fun hc27 => ?_) (fun hc27 => ?_)
        · replace hF := it_t hc27 hF
          refine go_iload_n O dX9_swap_87 rfl 2 rfl ?_
          refine go_perm (ls' := [(0, .ref (G.2.1 0)), (2, .int x20), (3, .int p3), (4, .int p4)]) [1, 0, 3, 4] rfl ?_
          exact jn (P := fun q => Go X l rm_X9_swap (wM G) 6 88 [(0, .ref (G.2.1 0)), (2, .int x20), (3, .int p3), (4, .int p4)] [.int q] S19) hF J25
        · replace hF := it_f hc27 hF
          refine go_iload O dX9_swap_82 5 rfl ?_
          refine go_goto (tgt := 88) O dX9_swap_84 (by decide) ?_
          refine go_perm (ls' := [(0, .ref (G.2.1 0)), (2, .int x20), (3, .int p3), (4, .int p4)]) [1, 0, 3, 4] rfl ?_
          exact jn (P := fun q => Go X l rm_X9_swap (wM G) 6 88 [(0, .ref (G.2.1 0)), (2, .int x20), (3, .int p3), (4, .int p4)] [.int q] S19) hF J25
      replace hF := hA22
      refine go_icmp_le (tgt := 74) O dX9_swap_61 (by decide) (fun hc23 => ?_) (fun hc23 => ?_)
      · replace hF := it_t hc23 hF
        refine go_iload_n O dX9_swap_74 rfl 3 rfl ?_
        refine go_perm (ls' := [(0, .ref (G.2.1 0)), (1, .int p1), (3, .int p3), (4, .int p4), (5, .int x17)]) [1, 2, 4, 5, 0] rfl ?_
        exact jn (P := fun q => Go X l rm_X9_swap (wM G) 6 75 [(0, .ref (G.2.1 0)), (1, .int p1), (3, .int p3), (4, .int p4), (5, .int x17)] [.int q] S19) hF J21
      · replace hF := it_f hc23 hF
        refine go_bipush (v := (10 : Int32)) O dX9_swap_64 (by decide) ?_
        refine go_iload_n O dX9_swap_66 rfl 4 rfl ?_
        refine go_imul O dX9_swap_67 ?_
        refine go_iload O dX9_swap_68 5 rfl ?_
        refine go_iadd O dX9_swap_70 ?_
        refine go_goto (tgt := 75) O dX9_swap_71 (by decide) ?_
        refine go_perm (ls' := [(0, .ref (G.2.1 0)), (1, .int p1), (3, .int p3), (4, .int p4), (5, .int x17)]) [1, 2, 4, 5, 0] rfl ?_
        exact jn (P := fun q => Go X l rm_X9_swap (wM G) 6 75 [(0, .ref (G.2.1 0)), (1, .int p1), (3, .int p3), (4, .int p4), (5, .int x17)] [.int q] S19) hF J21
def T_X9_swap_13    : Nat → Int32 → Int32 → Int32 → Sg → Option (Int32 × Int32 × Sg)
  | 0, _, _, _, _ => none
  | n + 1, p1, p2, p3, S => if (S.1 0 7) ≤ p3 then (some (p1, p2, S)) else (nm (p3 + (1 : Int32)) (fun x8 => bd (T_X9_swap_26 p3 FU p1 p2 x8 S) (fun (x9, x10, S11) => T_X9_swap_13 n x9 x10 (p3 + (1 : Int32)) S11)))
set_option maxHeartbeats 4000000 in
set_option maxRecDepth 100000 in
theorem lt_X9_swap_13 {X : XT} (l : Launch) (G : Gp) (hI : Ij (wM G))   (O : Ok X (wM G) cX9_swap RX9 wsX9_swap 6) : ∀ (n : Nat) (p1 : Int32) (p2 : Int32) (p3 : Int32) (S : Sg) (q : (Int32 × Int32 × Sg)), T_X9_swap_13 n p1 p2 p3 S = some q → (Go X l rm_X9_swap (wM G) 6 101 [(0, .ref (G.2.1 0)), (1, .int q.1), (2, .int q.2.1)] [] q.2.2) → Go X l rm_X9_swap (wM G) 6 13 [(0, .ref (G.2.1 0)), (1, .int p1), (2, .int p2), (3, .int p3)] [] S := by
  intro n
  induction n with
  | zero =>
    intro p1 p2 p3 S q hF
    cases hF
  | succ n ih =>
    intro p1 p2 p3 S q hF hE
    rw [T_X9_swap_13] at hF
    refine go_iload_n O dX9_swap_13 rfl 3 rfl ?_
    refine go_aload_n O dX9_swap_14 rfl 0 rfl ?_
    refine go_get (k := 0) (j := 7) O (by decide : (0 : Nat) < 27) (cm_obj G (S.1 0) (S.2 0)) rfl in_X9_swap_X9 (by decide) fl_X9_swap_153 rfl rfl dX9_swap_15 ?_
    refine go_icmp_ge (tgt := 101) O dX9_swap_18 (by decide) (fun hc30 => ?_) (fun hc30 => ?_)
    · replace hF := it_t hc30 hF
      refine go_perm (ls' := [(0, .ref (G.2.1 0)), (1, .int p1), (2, .int p2)]) [0, 1, 2] rfl ?_
      exact jn (P := fun q => Go X l rm_X9_swap (wM G) 6 101 [(0, .ref (G.2.1 0)), (1, .int q.1), (2, .int q.2.1)] [] q.2.2) hF hE
    · replace hF := it_f hc30 hF
      refine go_iload_n O dX9_swap_21 rfl 3 rfl ?_
      refine go_iconst (v := (1 : Int32)) O dX9_swap_22 (by decide) ?_
      refine go_iadd O dX9_swap_23 ?_
      obtain ⟨x8, ex8, hF⟩ := nm_s hF
      refine go_topi ex8 ?_
      refine go_istore (ls' := [(4, .int x8), (0, .ref (G.2.1 0)), (1, .int p1), (2, .int p2), (3, .int p3)]) O dX9_swap_24 (by decide) rfl ?_
      refine go_perm (ls' := [(0, .ref (G.2.1 0)), (1, .int p1), (2, .int p2), (3, .int p3), (4, .int x8)]) [1, 2, 3, 4, 0] rfl ?_
      obtain ⟨⟨x9, x10, S11⟩, hA29, hF⟩ := bd_s hF
      refine lt_X9_swap_26 l G hI  O _ _ _ _ _ _ hA29 ?_
      refine go_iinc (d := (1 : Int32)) (ls' := [(3, .int (p3 + (1 : Int32))), (0, .ref (G.2.1 0)), (1, .int x9), (2, .int x10)]) O dX9_swap_95 3 rfl (by decide) (by decide) rfl ?_
      refine go_goto (tgt := 13) O dX9_swap_98 (by decide) ?_
      refine go_perm (ls' := [(0, .ref (G.2.1 0)), (1, .int x9), (2, .int x10), (3, .int (p3 + (1 : Int32)))]) [1, 2, 3, 0] rfl ?_
      exact ih _ _ _ _ _ hF hE
def F_X9_swap  (S : Sg)  : Option (Int32 × Sg) := bd (F_X9_safeSet S) (fun x2 => bd (F_X9_ones S x2) (fun x4 => bd (T_X9_swap_13 FU x4 (-9 : Int32) (0 : Int32) S) (fun (x5, x6, S7) => if x6 = (-9 : Int32) then (some ((-9 : Int32), S7)) else (bd (F_X9_say S7 x6 x5) (fun (x33, S34) => some (x33, S34))))))
set_option maxHeartbeats 4000000 in
set_option maxRecDepth 100000 in
theorem c_X9_swap (l : Launch) (G : Gp) (hI : Ij (wM G))  {S : Sg} {r : Int32} {S1 : Sg} (hF : F_X9_swap S = some (r, S1)) : Met l yX9_swap wsX9_swap rm_X9_swap (va_Pc [.ref (G.2.1 0)] (PreW (wM G) S)) (va_Qi (fun r' u => r' = r ∧ u = S1) (PostW (wM G)) (AW (wM G))) 0 0 (AW (wM G)) := by
  rw [F_X9_swap] at hF
  refine met_i (cc := cX9_swap) (maxL := 6) (own := RX9) hI (by decide) rfl rfl (Nat.le_of_ble_eq_true rfl) (fun X O hR => ?_)
  show Go X l rm_X9_swap (wM G) 6 0 [(0, .ref (G.2.1 0))] [] S
  refine go_aload_n O dX9_swap_0 rfl 0 rfl ?_
  obtain ⟨x2, hA1, hF⟩ := bd_s hF
  refine go_callVi (As := []) (rest := []) (b := 0) O (c_X9_safeSet l G hI hA1) (fun s args hts => cwV 0 hts gX9_swap_X9_safeSet rfl rfl rfl (by decide +kernel) ⟨Nat.le_of_ble_eq_true rfl, Nat.le_of_ble_eq_true rfl⟩) (by decide : (0 : Nat) < 27) (cm_obj G (S.1 0) (S.2 0)) rfl rfl rfl rfl (Nat.le_of_ble_eq_true rfl) dX9_swap_1 ?_
  obtain ⟨x4, hA3, hF⟩ := bd_s hF
  refine go_callSi (As := [.int x2]) (rest := []) O (c_X9_ones l G hI hA3) (fun s args hts => va_cwS 1 hts gX9_swap_X9_ones rfl rfl rfl (by decide +kernel) ⟨Nat.le_of_ble_eq_true rfl, Nat.le_of_ble_eq_true rfl⟩) rfl rfl (Nat.le_of_ble_eq_true rfl) dX9_swap_4 ?_
  refine go_istore_n (ls' := [(1, .int x4), (0, .ref (G.2.1 0))]) O dX9_swap_7 rfl (by decide) rfl ?_
  refine go_bipush (v := (-9 : Int32)) O dX9_swap_8 (by decide) ?_
  refine go_istore_n (ls' := [(2, .int (-9 : Int32)), (1, .int x4), (0, .ref (G.2.1 0))]) O dX9_swap_10 rfl (by decide) rfl ?_
  refine go_iconst (v := (0 : Int32)) O dX9_swap_11 (by decide) ?_
  refine go_istore_n (ls' := [(3, .int (0 : Int32)), (2, .int (-9 : Int32)), (1, .int x4), (0, .ref (G.2.1 0))]) O dX9_swap_12 rfl (by decide) rfl ?_
  refine go_perm (ls' := [(0, .ref (G.2.1 0)), (1, .int x4), (2, .int (-9 : Int32)), (3, .int (0 : Int32))]) [3, 2, 1, 0] rfl ?_
  obtain ⟨⟨x5, x6, S7⟩, hA31, hF⟩ := bd_s hF
  refine lt_X9_swap_13 l G hI  O _ _ _ _ _ _ hA31 ?_
  refine go_iload_n O dX9_swap_101 rfl 2 rfl ?_
  refine go_bipush (v := (-9 : Int32)) O dX9_swap_102 (by decide) ?_
  refine go_icmp_ne (tgt := 112) O dX9_swap_104 (by decide) (fun hc35 => ?_) (fun hc35 => ?_)
  · replace hF := it_f hc35 hF
    refine go_aload_n O dX9_swap_112 rfl 0 rfl ?_
    refine go_iload_n O dX9_swap_113 rfl 2 rfl ?_
    refine go_iload_n O dX9_swap_114 rfl 1 rfl ?_
    obtain ⟨⟨x33, S34⟩, hA32, hF⟩ := bd_s hF
    refine go_callVi (As := [.int x6, .int x5]) (rest := []) (b := 0) O (c_X9_say l G hI hA32) (fun s args hts => cwV 2 hts gX9_swap_X9_say rfl rfl rfl (by decide +kernel) ⟨Nat.le_of_ble_eq_true rfl, Nat.le_of_ble_eq_true rfl⟩) (by decide : (0 : Nat) < 27) (cm_obj G (S7.1 0) (S7.2 0)) rfl rfl rfl rfl (Nat.le_of_ble_eq_true rfl) dX9_swap_115 ?_
    exact ret_wi hF (hR _ _ dX9_swap_118)
  · replace hF := it_t hc35 hF
    refine go_bipush (v := (-9 : Int32)) O dX9_swap_107 (by decide) ?_
    refine go_goto (tgt := 118) O dX9_swap_109 (by decide) ?_
    exact ret_wi hF (hR _ _ dX9_swap_118)
-- X9_nextPasted
def rm_X9_nextPasted : Room := { frames := 0, cells := 0, slots := 0, locals := 0 }
theorem fl_X9_nextPasted_80 : Cond.fieldLink RX9 80 "PaperWallsModel" "pasted" "[I" ∈ wsX9_nextPasted := by decide +kernel
theorem fl_X9_nextPasted_150 : Cond.fieldLink RX9 150 "PaperWallsModel" "walls" "I" ∈ wsX9_nextPasted := by decide +kernel
theorem in_X9_nextPasted_X9 : ∀ x ∈ u_ws RX9 TX9 36, x ∈ wsX9_nextPasted := by decide +kernel
def T_X9_nextPasted_19  (S : Sg)  : Nat → Int32 → Int32 → Option (Int32 × Int32)
  | 0, _, _ => none
  | n + 1, p1, p2 => if p2 < 0 then (some (p1, p2)) else (if p1 = 0 then (chk (inB p2 6) (nm (p1 + (S.1 24 p2.toNatClampNeg)) (fun x7 => T_X9_nextPasted_19 S n x7 (p2 + (-1 : Int32))))) else (some (p1, p2)))
set_option maxHeartbeats 4000000 in
set_option maxRecDepth 100000 in
theorem lt_X9_nextPasted_19 {X : XT} (l : Launch) (G : Gp) (hI : Ij (wM G))  {S : Sg} (O : Ok X (wM G) cX9_nextPasted RX9 wsX9_nextPasted 4) : ∀ (n : Nat) (p1 : Int32) (p2 : Int32)  (q : (Int32 × Int32)), T_X9_nextPasted_19 S n p1 p2  = some q → (Go X l rm_X9_nextPasted (wM G) 4 42 [(0, .ref (G.2.1 0)), (1, .int q.1), (2, .int q.2)] [] S) → Go X l rm_X9_nextPasted (wM G) 4 19 [(0, .ref (G.2.1 0)), (1, .int p1), (2, .int p2)] [] S := by
  intro n
  induction n with
  | zero =>
    intro p1 p2  q hF
    cases hF
  | succ n ih =>
    intro p1 p2  q hF hE
    rw [T_X9_nextPasted_19] at hF
    refine go_iload_n O dX9_nextPasted_19 rfl 2 rfl ?_
    refine go_if_lt (tgt := 42) O dX9_nextPasted_20 (by decide) (fun hc9 => ?_) (fun hc9 => ?_)
    · replace hF := it_t hc9 hF
      exact jn (P := fun q => Go X l rm_X9_nextPasted (wM G) 4 42 [(0, .ref (G.2.1 0)), (1, .int q.1), (2, .int q.2)] [] S) hF hE
    · replace hF := it_f hc9 hF
      refine go_iload_n O dX9_nextPasted_23 rfl 1 rfl ?_
      refine go_if_ne (tgt := 42) O dX9_nextPasted_24 (by decide) (fun hc8 => ?_) (fun hc8 => ?_)
      · replace hF := it_f hc8 hF
        exact jn (P := fun q => Go X l rm_X9_nextPasted (wM G) 4 42 [(0, .ref (G.2.1 0)), (1, .int q.1), (2, .int q.2)] [] S) hF hE
      · replace hF := it_t hc8 hF
        refine go_iload_n O dX9_nextPasted_27 rfl 1 rfl ?_
        refine go_aload_n O dX9_nextPasted_28 rfl 0 rfl ?_
        refine go_get (k := 0) (j := 32) O (by decide : (0 : Nat) < 27) (cm_obj G (S.1 0) (S.2 0)) rfl in_X9_nextPasted_X9 (by decide) fl_X9_nextPasted_80 rfl rfl dX9_nextPasted_29 ?_
        refine go_iload_n O dX9_nextPasted_32 rfl 2 rfl ?_
        obtain ⟨hb6, hF⟩ := chk_s hF
        refine go_iald (k := 24) O (by decide : (24 : Nat) < 27) (cm_24 G (S.1 24) (S.2 24)) (inB_in hb6) dX9_nextPasted_33 ?_
        refine go_iadd O dX9_nextPasted_34 ?_
        obtain ⟨x7, ex7, hF⟩ := nm_s hF
        refine go_topi ex7 ?_
        refine go_istore_n (ls' := [(1, .int x7), (0, .ref (G.2.1 0)), (2, .int p2)]) O dX9_nextPasted_35 rfl (by decide) rfl ?_
        refine go_iinc (d := (-1 : Int32)) (ls' := [(2, .int (p2 + (-1 : Int32))), (1, .int x7), (0, .ref (G.2.1 0))]) O dX9_nextPasted_36 2 rfl (by decide) (by decide) rfl ?_
        refine go_goto (tgt := 19) O dX9_nextPasted_39 (by decide) ?_
        refine go_perm (ls' := [(0, .ref (G.2.1 0)), (1, .int x7), (2, .int (p2 + (-1 : Int32)))]) [2, 1, 0] rfl ?_
        exact ih _ _ _ hF hE
def T_X9_nextPasted_66   (p1 : Int32) : Nat → Int32 → Sg → Option (Sg)
  | 0, _, _ => none
  | n + 1, p3, S => if (S.1 0 8) ≤ p3 then (some S) else (bd (if p3 = ((S.1 0 8) - (1 : Int32)) then (some (p1 - (1 : Int32))) else (some (0 : Int32))) (fun x16 => chk (inB p3 6) (nm (wI S 24 p3.toNatClampNeg x16) (fun S21 => T_X9_nextPasted_66 p1 n (p3 + (1 : Int32)) S21))))
set_option maxHeartbeats 4000000 in
set_option maxRecDepth 100000 in
theorem lt_X9_nextPasted_66 {X : XT} (l : Launch) (G : Gp) (hI : Ij (wM G))   {p1 : Int32} (O : Ok X (wM G) cX9_nextPasted RX9 wsX9_nextPasted 4) : ∀ (n : Nat) (p3 : Int32) (S : Sg) (q : (Sg)), T_X9_nextPasted_66 p1 n p3 S = some q → (Go X l rm_X9_nextPasted (wM G) 4 103 [] [] q) → Go X l rm_X9_nextPasted (wM G) 4 66 [(0, .ref (G.2.1 0)), (1, .int p1), (3, .int p3)] [] S := by
  intro n
  induction n with
  | zero =>
    intro p3 S q hF
    cases hF
  | succ n ih =>
    intro p3 S q hF hE
    rw [T_X9_nextPasted_66] at hF
    refine go_iload_n O dX9_nextPasted_66 rfl 2 rfl ?_
    refine go_aload_n O dX9_nextPasted_67 rfl 0 rfl ?_
    refine go_get (k := 0) (j := 8) O (by decide : (0 : Nat) < 27) (cm_obj G (S.1 0) (S.2 0)) rfl in_X9_nextPasted_X9 (by decide) fl_X9_nextPasted_150 rfl rfl dX9_nextPasted_68 ?_
    refine go_icmp_ge (tgt := 103) O dX9_nextPasted_71 (by decide) (fun hc22 => ?_) (fun hc22 => ?_)
    · replace hF := it_t hc22 hF
      refine go_perm (ls' := []) [] rfl ?_
      exact jn (P := fun q => Go X l rm_X9_nextPasted (wM G) 4 103 [] [] q) hF hE
    · replace hF := it_f hc22 hF
      refine go_aload_n O dX9_nextPasted_74 rfl 0 rfl ?_
      refine go_get (k := 0) (j := 32) O (by decide : (0 : Nat) < 27) (cm_obj G (S.1 0) (S.2 0)) rfl in_X9_nextPasted_X9 (by decide) fl_X9_nextPasted_80 rfl rfl dX9_nextPasted_75 ?_
      refine go_iload_n O dX9_nextPasted_78 rfl 2 rfl ?_
      refine go_iload_n O dX9_nextPasted_79 rfl 2 rfl ?_
      refine go_aload_n O dX9_nextPasted_80 rfl 0 rfl ?_
      refine go_get (k := 0) (j := 8) O (by decide : (0 : Nat) < 27) (cm_obj G (S.1 0) (S.2 0)) rfl in_X9_nextPasted_X9 (by decide) fl_X9_nextPasted_150 rfl rfl dX9_nextPasted_81 ?_
      refine go_iconst (v := (1 : Int32)) O dX9_nextPasted_84 (by decide) ?_
      refine go_isub O dX9_nextPasted_85 ?_
      obtain ⟨x16, hA18, hF⟩ := bd_s hF
      have J17 : Go X l rm_X9_nextPasted (wM G) 4 96 [(0, .ref (G.2.1 0)), (1, .int p1), (3, .int p3)] [.int x16, .int p3, .ref (G.2.1 24)] S := by
        obtain ⟨hb20, hF⟩ := chk_s hF
        obtain ⟨S21, eS21, hF⟩ := nm_s hF
        refine go_iast (k := 24) O (by decide : (24 : Nat) < 27) (fun f => (cm_24 G f (S.2 24))) (inB_in hb20) dX9_nextPasted_96 eS21 ?_
        refine go_iinc (d := (1 : Int32)) (ls' := [(3, .int (p3 + (1 : Int32))), (0, .ref (G.2.1 0)), (1, .int p1)]) O dX9_nextPasted_97 2 rfl (by decide) (by decide) rfl ?_
        refine go_goto (tgt := 66) O dX9_nextPasted_100 (by decide) ?_
        refine go_perm (ls' := [(0, .ref (G.2.1 0)), (1, .int p1), (3, .int (p3 + (1 : Int32)))]) [1, 2, 0] rfl ?_
        exact ih _ _ _ hF hE
      replace hF := hA18
      refine go_icmp_ne (tgt := 95) O dX9_nextPasted_86 (by decide) (fun hc19 => ?_) (fun hc19 => ?_)
      · replace hF := it_f hc19 hF
        refine go_iconst (v := (0 : Int32)) O dX9_nextPasted_95 (by decide) ?_
        exact jn (P := fun q => Go X l rm_X9_nextPasted (wM G) 4 96 [(0, .ref (G.2.1 0)), (1, .int p1), (3, .int p3)] [.int q, .int p3, .ref (G.2.1 24)] S) hF J17
      · replace hF := it_t hc19 hF
        refine go_iload_n O dX9_nextPasted_89 rfl 1 rfl ?_
        refine go_iconst (v := (1 : Int32)) O dX9_nextPasted_90 (by decide) ?_
        refine go_isub O dX9_nextPasted_91 ?_
        refine go_goto (tgt := 96) O dX9_nextPasted_92 (by decide) ?_
        exact jn (P := fun q => Go X l rm_X9_nextPasted (wM G) 4 96 [(0, .ref (G.2.1 0)), (1, .int p1), (3, .int p3)] [.int q, .int p3, .ref (G.2.1 24)] S) hF J17
def F_X9_nextPasted  (S : Sg)  : Option (Int32 × Sg) := chk (inB ((S.1 0 8) - (1 : Int32)) 6) (nm (S.1 24 ((S.1 0 8) - (1 : Int32)).toNatClampNeg) (fun x2 => nm ((S.1 0 8) - (2 : Int32)) (fun x3 => bd (T_X9_nextPasted_19 S FU x2 x3) (fun (x4, x5) => if x5 < 0 then (some ((0 : Int32), S)) else (if x4 = 0 then (some ((0 : Int32), S)) else (chk (inB x5 6) (chk (inB x5 6) (nm (wI S 24 x5.toNatClampNeg ((S.1 24 x5.toNatClampNeg) + (1 : Int32))) (fun S13 => nm (x5 + (1 : Int32)) (fun x14 => bd (T_X9_nextPasted_66 x4 FU x14 S13) (fun S15 => some ((1 : Int32), S15))))))))))))
set_option maxHeartbeats 4000000 in
set_option maxRecDepth 100000 in
theorem c_X9_nextPasted (l : Launch) (G : Gp) (hI : Ij (wM G))  {S : Sg} {r : Int32} {S1 : Sg} (hF : F_X9_nextPasted S = some (r, S1)) : Met l yX9_nextPasted wsX9_nextPasted rm_X9_nextPasted (va_Pc [.ref (G.2.1 0)] (PreW (wM G) S)) (va_Qi (fun r' u => r' = r ∧ u = S1) (PostW (wM G)) (AW (wM G))) 0 0 (AW (wM G)) := by
  rw [F_X9_nextPasted] at hF
  refine met_z (cc := cX9_nextPasted) (maxL := 4) (own := RX9) hI (by decide) rfl rfl (Nat.le_of_ble_eq_true rfl) (fun X O hR => ?_)
  show Go X l rm_X9_nextPasted (wM G) 4 0 [(0, .ref (G.2.1 0))] [] S
  refine go_aload_n O dX9_nextPasted_0 rfl 0 rfl ?_
  refine go_get (k := 0) (j := 32) O (by decide : (0 : Nat) < 27) (cm_obj G (S.1 0) (S.2 0)) rfl in_X9_nextPasted_X9 (by decide) fl_X9_nextPasted_80 rfl rfl dX9_nextPasted_1 ?_
  refine go_aload_n O dX9_nextPasted_4 rfl 0 rfl ?_
  refine go_get (k := 0) (j := 8) O (by decide : (0 : Nat) < 27) (cm_obj G (S.1 0) (S.2 0)) rfl in_X9_nextPasted_X9 (by decide) fl_X9_nextPasted_150 rfl rfl dX9_nextPasted_5 ?_
  refine go_iconst (v := (1 : Int32)) O dX9_nextPasted_8 (by decide) ?_
  refine go_isub O dX9_nextPasted_9 ?_
  obtain ⟨hb1, hF⟩ := chk_s hF
  refine go_iald (k := 24) O (by decide : (24 : Nat) < 27) (cm_24 G (S.1 24) (S.2 24)) (inB_in hb1) dX9_nextPasted_10 ?_
  obtain ⟨x2, ex2, hF⟩ := nm_s hF
  refine go_topi ex2 ?_
  refine go_istore_n (ls' := [(1, .int x2), (0, .ref (G.2.1 0))]) O dX9_nextPasted_11 rfl (by decide) rfl ?_
  refine go_aload_n O dX9_nextPasted_12 rfl 1 rfl ?_
  refine go_get (k := 0) (j := 8) O (by decide : (0 : Nat) < 27) (cm_obj G (S.1 0) (S.2 0)) rfl in_X9_nextPasted_X9 (by decide) fl_X9_nextPasted_150 rfl rfl dX9_nextPasted_13 ?_
  refine go_iconst (v := (2 : Int32)) O dX9_nextPasted_16 (by decide) ?_
  refine go_isub O dX9_nextPasted_17 ?_
  obtain ⟨x3, ex3, hF⟩ := nm_s hF
  refine go_topi ex3 ?_
  refine go_istore_n (ls' := [(2, .int x3), (1, .int x2), (0, .ref (G.2.1 0))]) O dX9_nextPasted_18 rfl (by decide) rfl ?_
  refine go_perm (ls' := [(0, .ref (G.2.1 0)), (1, .int x2), (2, .int x3)]) [2, 1, 0] rfl ?_
  obtain ⟨⟨x4, x5⟩, hA10, hF⟩ := bd_s hF
  refine lt_X9_nextPasted_19 l G hI  O _ _ _ _ hA10 ?_
  refine go_iload_n O dX9_nextPasted_42 rfl 2 rfl ?_
  refine go_if_lt (tgt := 50) O dX9_nextPasted_43 (by decide) (fun hc25 => ?_) (fun hc25 => ?_)
  · replace hF := it_t hc25 hF
    refine go_iconst (v := (0 : Int32)) O dX9_nextPasted_50 (by decide) ?_
    exact ret_wz hF (fun hz => hR _ _ hz dX9_nextPasted_51) (show vp_nar .boolean (0 : Int32) = (0 : Int32) by decide)
  · replace hF := it_f hc25 hF
    refine go_iload_n O dX9_nextPasted_46 rfl 1 rfl ?_
    refine go_if_ne (tgt := 52) O dX9_nextPasted_47 (by decide) (fun hc24 => ?_) (fun hc24 => ?_)
    · replace hF := it_f hc24 hF
      refine go_aload_n O dX9_nextPasted_52 rfl 0 rfl ?_
      refine go_get (k := 0) (j := 32) O (by decide : (0 : Nat) < 27) (cm_obj G (S.1 0) (S.2 0)) rfl in_X9_nextPasted_X9 (by decide) fl_X9_nextPasted_80 rfl rfl dX9_nextPasted_53 ?_
      refine go_iload_n O dX9_nextPasted_56 rfl 2 rfl ?_
      refine go_dup2 O dX9_nextPasted_57 rfl rfl ?_
      obtain ⟨hb11, hF⟩ := chk_s hF
      refine go_iald (k := 24) O (by decide : (24 : Nat) < 27) (cm_24 G (S.1 24) (S.2 24)) (inB_in hb11) dX9_nextPasted_58 ?_
      refine go_iconst (v := (1 : Int32)) O dX9_nextPasted_59 (by decide) ?_
      refine go_iadd O dX9_nextPasted_60 ?_
      obtain ⟨hb12, hF⟩ := chk_s hF
      obtain ⟨S13, eS13, hF⟩ := nm_s hF
      refine go_iast (k := 24) O (by decide : (24 : Nat) < 27) (fun f => (cm_24 G f (S.2 24))) (inB_in hb12) dX9_nextPasted_61 eS13 ?_
      refine go_iload_n O dX9_nextPasted_62 rfl 2 rfl ?_
      refine go_iconst (v := (1 : Int32)) O dX9_nextPasted_63 (by decide) ?_
      refine go_iadd O dX9_nextPasted_64 ?_
      obtain ⟨x14, ex14, hF⟩ := nm_s hF
      refine go_topi ex14 ?_
      refine go_istore_n (ls' := [(3, .int x14), (0, .ref (G.2.1 0)), (1, .int x4), (2, .int x5)]) O dX9_nextPasted_65 rfl (by decide) rfl ?_
      refine go_perm (ls' := [(0, .ref (G.2.1 0)), (1, .int x4), (3, .int x14)]) [1, 2, 0] rfl ?_
      obtain ⟨S15, hA23, hF⟩ := bd_s hF
      refine lt_X9_nextPasted_66 l G hI  O _ _ _ _ hA23 ?_
      refine go_iconst (v := (1 : Int32)) O dX9_nextPasted_103 (by decide) ?_
      exact ret_wz hF (fun hz => hR _ _ hz dX9_nextPasted_104) (show vp_nar .boolean (1 : Int32) = (1 : Int32) by decide)
    · replace hF := it_t hc24 hF
      refine go_iconst (v := (0 : Int32)) O dX9_nextPasted_50 (by decide) ?_
      exact ret_wz hF (fun hz => hR _ _ hz dX9_nextPasted_51) (show vp_nar .boolean (0 : Int32) = (0 : Int32) by decide)
