-- X3_fewestOf
def rm_X3_fewestOf : Room := { frames := 1, cells := 0, slots := 0, locals := 40 }
theorem fl_X3_fewestOf_13 : Cond.fieldLink RX3 13 "PaperWalls$Plan" "together" "[Z" ∈ wsX3_fewestOf := by decide +kernel
theorem fl_X3_fewestOf_17 : Cond.fieldLink RX3 17 "PaperWalls$Plan" "fewest" "[I" ∈ wsX3_fewestOf := by decide +kernel
theorem wd_X3_fewestOf_im : Cond.initialized "java/lang/Math" ∈ wsX3_fewestOf := by decide +kernel
theorem wd_X3_fewestOf_kmin : Cond.code Lib.Math.min.name Lib.Math.min.code 2 (some .int) ∈ wsX3_fewestOf := by decide +kernel
theorem wd_X3_fewestOf_m33 : Cond.methodLink RX3 33 Lib.Math.min.name ∈ wsX3_fewestOf := by decide +kernel
theorem wd_X3_fewestOf_smin : Cond.static Lib.Math.min.name ∈ wsX3_fewestOf := by decide +kernel
theorem in_X3_fewestOf_X3 : ∀ x ∈ u_ws RX3 TX3 2, x ∈ wsX3_fewestOf := by decide +kernel
def T_X3_fewestOf_11  (S : Sg) (p1 : Int32) (p2 : Int32) : Nat → Int32 → Int32 → Option (Int32)
  | 0, _, _ => none
  | n + 1, p3, p4 => if p4 ≤ 0 then (some p3) else (bd (if (p4 &&& p2) = 0 then (some p3) else (chk (inB p4 256) (if (S.1 7 p4.toNatClampNeg) = 0 then (some p3) else (chk (inB (p1 &&& (p4 ^^^ (-1 : Int32))) 256) (nm ((1 : Int32) + (S.1 8 (p1 &&& (p4 ^^^ (-1 : Int32))).toNatClampNeg)) (fun x8 => nm (if x8 < p3 then x8 else p3) (fun x9 => some x9))))))) (fun x3 => nm ((p4 - (1 : Int32)) &&& p1) (fun x12 => T_X3_fewestOf_11 S p1 p2 n x3 x12)))
set_option maxHeartbeats 4000000 in
set_option maxRecDepth 100000 in
theorem lt_X3_fewestOf_11 {X : XT} (l : Launch) (G : Gp) (hI : Gd G)  {S : Sg} {p1 : Int32} {p2 : Int32} (O : Ok X (wC G) cX3_fewestOf RX3 wsX3_fewestOf 5) : ∀ (n : Nat) (p3 : Int32) (p4 : Int32)  (q : (Int32)), T_X3_fewestOf_11 S p1 p2 n p3 p4  = some q → (Go X l rm_X3_fewestOf (wC G) 5 62 [(3, .int q)] [] S) → Go X l rm_X3_fewestOf (wC G) 5 11 [(0, .ref (G.2.1 6)), (1, .int p1), (2, .int p2), (3, .int p3), (4, .int p4)] [] S := by
  intro n
  induction n with
  | zero =>
    intro p3 p4  q hF
    cases hF
  | succ n ih =>
    intro p3 p4  q hF hE
    rw [T_X3_fewestOf_11] at hF
    refine go_iload O dX3_fewestOf_11 4 rfl ?_
    refine go_if_le (tgt := 62) O dX3_fewestOf_13 (by decide) (fun hc13 => ?_) (fun hc13 => ?_)
    · replace hF := it_t hc13 hF
      refine go_perm (ls' := [(3, .int p3)]) [3] rfl ?_
      exact jn (P := fun q => Go X l rm_X3_fewestOf (wC G) 5 62 [(3, .int q)] [] S) hF hE
    · replace hF := it_f hc13 hF
      refine go_iload O dX3_fewestOf_16 4 rfl ?_
      refine go_iload_n O dX3_fewestOf_18 rfl 2 rfl ?_
      refine go_iand O dX3_fewestOf_19 ?_
      obtain ⟨x3, hA5, hF⟩ := bd_s hF
      have J4 : Go X l rm_X3_fewestOf (wC G) 5 51 [(0, .ref (G.2.1 6)), (1, .int p1), (2, .int p2), (3, .int x3), (4, .int p4)] [] S := by
        refine go_iload O dX3_fewestOf_51 4 rfl ?_
        refine go_iconst (v := (1 : Int32)) O dX3_fewestOf_53 (by decide) ?_
        refine go_isub O dX3_fewestOf_54 ?_
        refine go_iload_n O dX3_fewestOf_55 rfl 1 rfl ?_
        refine go_iand O dX3_fewestOf_56 ?_
        obtain ⟨x12, ex12, hF⟩ := nm_s hF
        refine go_topi ex12 ?_
        refine go_istore (ls' := [(4, .int x12), (0, .ref (G.2.1 6)), (1, .int p1), (2, .int p2), (3, .int x3)]) O dX3_fewestOf_57 (by decide) rfl ?_
        refine go_goto (tgt := 11) O dX3_fewestOf_59 (by decide) ?_
        refine go_perm (ls' := [(0, .ref (G.2.1 6)), (1, .int p1), (2, .int p2), (3, .int x3), (4, .int x12)]) [1, 2, 3, 4, 0] rfl ?_
        exact ih _ _ _ hF hE
      replace hF := hA5
      refine go_if_eq (tgt := 51) O dX3_fewestOf_20 (by decide) (fun hc11 => ?_) (fun hc11 => ?_)
      · replace hF := it_t hc11 hF
        exact jn (P := fun q => Go X l rm_X3_fewestOf (wC G) 5 51 [(0, .ref (G.2.1 6)), (1, .int p1), (2, .int p2), (3, .int q), (4, .int p4)] [] S) hF J4
      · replace hF := it_f hc11 hF
        refine go_aload_n O dX3_fewestOf_23 rfl 0 rfl ?_
        refine go_get (k := 6) (j := 0) O (lt9 hI (by decide : (6 : Nat) < 99)) (cv_plan G (S.1 6) (S.2 6)) rfl in_X3_fewestOf_X3 (by decide) fl_X3_fewestOf_13 rfl rfl dX3_fewestOf_24 ?_
        refine go_iload O dX3_fewestOf_27 4 rfl ?_
        obtain ⟨hb6, hF⟩ := chk_s hF
        refine go_zald (k := 7) O (lt9 hI (by decide : (7 : Nat) < 99)) (cv_tog G (S.1 7) (S.2 7)) (inB_in hb6) dX3_fewestOf_29 ?_
        refine go_if_eq (tgt := 51) O dX3_fewestOf_30 (by decide) (fun hc10 => ?_) (fun hc10 => ?_)
        · replace hF := it_t hc10 hF
          exact jn (P := fun q => Go X l rm_X3_fewestOf (wC G) 5 51 [(0, .ref (G.2.1 6)), (1, .int p1), (2, .int p2), (3, .int q), (4, .int p4)] [] S) hF J4
        · replace hF := it_f hc10 hF
          refine go_iload_n O dX3_fewestOf_33 rfl 3 rfl ?_
          refine go_iconst (v := (1 : Int32)) O dX3_fewestOf_34 (by decide) ?_
          refine go_aload_n O dX3_fewestOf_35 rfl 0 rfl ?_
          refine go_get (k := 6) (j := 1) O (lt9 hI (by decide : (6 : Nat) < 99)) (cv_plan G (S.1 6) (S.2 6)) rfl in_X3_fewestOf_X3 (by decide) fl_X3_fewestOf_17 rfl rfl dX3_fewestOf_36 ?_
          refine go_iload_n O dX3_fewestOf_39 rfl 1 rfl ?_
          refine go_iload O dX3_fewestOf_40 4 rfl ?_
          refine go_iconst (v := (-1 : Int32)) O dX3_fewestOf_42 (by decide) ?_
          refine go_ixor O dX3_fewestOf_43 ?_
          refine go_iand O dX3_fewestOf_44 ?_
          obtain ⟨hb7, hF⟩ := chk_s hF
          refine go_iald (k := 8) O (lt9 hI (by decide : (8 : Nat) < 99)) (cv_few G (S.1 8) (S.2 8)) (inB_in hb7) dX3_fewestOf_45 ?_
          refine go_iadd O dX3_fewestOf_46 ?_
          obtain ⟨x8, ex8, hF⟩ := nm_s hF
          refine go_topi ex8 ?_
          obtain ⟨x9, ex9, hF⟩ := nm_s hF
          refine go_mmin (v := x9) O wd_X3_fewestOf_m33 wd_X3_fewestOf_smin wd_X3_fewestOf_im wd_X3_fewestOf_kmin (by decide) (Nat.le_of_ble_eq_true rfl) ex9.symm dX3_fewestOf_47 ?_
          refine go_istore_n (ls' := [(3, .int x9), (0, .ref (G.2.1 6)), (1, .int p1), (2, .int p2), (4, .int p4)]) O dX3_fewestOf_50 rfl (by decide) rfl ?_
          refine go_perm (ls' := [(0, .ref (G.2.1 6)), (1, .int p1), (2, .int p2), (3, .int x9), (4, .int p4)]) [1, 2, 3, 0, 4] rfl ?_
          exact jn (P := fun q => Go X l rm_X3_fewestOf (wC G) 5 51 [(0, .ref (G.2.1 6)), (1, .int p1), (2, .int p2), (3, .int q), (4, .int p4)] [] S) hF J4
def F_X3_fewestOf  (S : Sg) (a1 : Int32) : Option Int32 := nm (a1 &&& (-a1)) (fun x1 => bd (T_X3_fewestOf_11 S a1 x1 FU (100 : Int32) a1) (fun x2 => some x2))
set_option maxHeartbeats 4000000 in
set_option maxRecDepth 100000 in
theorem c_X3_fewestOf (l : Launch) (G : Gp) (hI : Gd G)  {S : Sg} {a1 : Int32} {r : Int32} (hF : F_X3_fewestOf S a1 = some r) : Met l yX3_fewestOf wsX3_fewestOf rm_X3_fewestOf (va_Pc [.ref (G.2.1 6), .int a1] (PreW (wC G) S)) (va_Qi (fun r' u => r' = r ∧ u = S) (PostW (wC G)) (AW (wC G))) 0 0 (AW (wC G)) := by
  rw [F_X3_fewestOf] at hF
  refine met_i (cc := cX3_fewestOf) (maxL := 5) (own := RX3) hI.1 (by decide) rfl rfl (Nat.le_of_ble_eq_true rfl) (fun X O hR => ?_)
  show Go X l rm_X3_fewestOf (wC G) 5 0 [(0, .ref (G.2.1 6)), (1, .int a1)] [] S
  refine go_iload_n O dX3_fewestOf_0 rfl 1 rfl ?_
  refine go_iload_n O dX3_fewestOf_1 rfl 1 rfl ?_
  refine go_ineg O dX3_fewestOf_2 ?_
  refine go_iand O dX3_fewestOf_3 ?_
  obtain ⟨x1, ex1, hF⟩ := nm_s hF
  refine go_topi ex1 ?_
  refine go_istore_n (ls' := [(2, .int x1), (0, .ref (G.2.1 6)), (1, .int a1)]) O dX3_fewestOf_4 rfl (by decide) rfl ?_
  refine go_bipush (v := (100 : Int32)) O dX3_fewestOf_5 (by decide) ?_
  refine go_istore_n (ls' := [(3, .int (100 : Int32)), (2, .int x1), (0, .ref (G.2.1 6)), (1, .int a1)]) O dX3_fewestOf_7 rfl (by decide) rfl ?_
  refine go_iload_n O dX3_fewestOf_8 rfl 3 rfl ?_
  refine go_istore (ls' := [(4, .int a1), (3, .int (100 : Int32)), (2, .int x1), (0, .ref (G.2.1 6)), (1, .int a1)]) O dX3_fewestOf_9 (by decide) rfl ?_
  refine go_perm (ls' := [(0, .ref (G.2.1 6)), (1, .int a1), (2, .int x1), (3, .int (100 : Int32)), (4, .int a1)]) [3, 4, 2, 1, 0] rfl ?_
  obtain ⟨x2, hA14, hF⟩ := bd_s hF
  refine lt_X3_fewestOf_11 l G hI  O _ _ _ _ hA14 ?_
  refine go_iload_n O dX3_fewestOf_62 rfl 0 rfl ?_
  exact ret_i hF (hR _ _ dX3_fewestOf_63)
-- X3_draw
def rm_X3_draw : Room := { frames := 5, cells := 0, slots := 0, locals := 145 }
theorem fl_X3_draw_13 : Cond.fieldLink RX3 13 "PaperWalls$Plan" "together" "[Z" ∈ wsX3_draw := by decide +kernel
theorem fl_X3_draw_17 : Cond.fieldLink RX3 17 "PaperWalls$Plan" "fewest" "[I" ∈ wsX3_draw := by decide +kernel
theorem in_X3_draw_X3 : ∀ x ∈ u_ws RX3 TX3 2, x ∈ wsX3_draw := by decide +kernel
def T_X3_draw_2 (i : Nat)   : Nat → Int32 → Sg → Option (Sg)
  | 0, _, _ => none
  | n + 1, p2, S => bd (F_X6_everyTalk i S) (fun x3 => if x3 < p2 then (some S) else (bd (F_X6_goTogether i S p2) (fun x5 => chk (inB p2 256) (nm (wI S 7 p2.toNatClampNeg (vp_nar .boolean x5)) (fun S7 => bd (if p2 = 0 then (some (0 : Int32)) else (bd (F_X3_fewestOf S7 p2) (fun x12 => some x12))) (fun x8 => chk (inB p2 256) (nm (wI S7 8 p2.toNatClampNeg x8) (fun S15 => T_X3_draw_2 i n (p2 + (1 : Int32)) S15))))))))
set_option maxHeartbeats 4000000 in
set_option maxRecDepth 100000 in
theorem lt_X3_draw_2 {X : XT} (l : Launch) (G : Gp) (hI : Gd G) {i : Nat} (hi : i < 5)  (O : Ok X (wC G) cX3_draw RX3 wsX3_draw 3) : ∀ (n : Nat) (p2 : Int32) (S : Sg) (q : (Sg)), T_X3_draw_2 i n p2 S = some q → (Go X l rm_X3_draw (wC G) 3 46 [] [] q) → Go X l rm_X3_draw (wC G) 3 2 [(0, .ref (G.2.1 6)), (1, .ref (G.2.1 (sb i))), (2, .int p2)] [] S := by
  intro n
  induction n with
  | zero =>
    intro p2 S q hF
    cases hF
  | succ n ih =>
    intro p2 S q hF hE
    rw [T_X3_draw_2] at hF
    refine go_iload_n O dX3_draw_2 rfl 2 rfl ?_
    refine go_aload_n O dX3_draw_3 rfl 1 rfl ?_
    obtain ⟨x3, hA2, hF⟩ := bd_s hF
    refine go_callVi (As := []) (rest := [.int p2]) (b := (sb i)) O (c_X6_everyTalk l G hI hi hA2) (fun s args hts => cwV 0 hts gX3_draw_X6_everyTalk rfl rfl rfl (by decide +kernel) ⟨Nat.le_of_ble_eq_true rfl, Nat.le_of_ble_eq_true rfl⟩) (lt9 hI (sb_lt0 hi)) (cv_st G hi (S.1 (sb i)) (S.2 (sb i))) rfl rfl rfl rfl (Nat.le_of_ble_eq_true rfl) dX3_draw_4 ?_
    refine go_icmp_gt (tgt := 46) O dX3_draw_7 (by decide) (fun hc16 => ?_) (fun hc16 => ?_)
    · replace hF := it_t hc16 hF
      refine go_perm (ls' := []) [] rfl ?_
      exact jn (P := fun q => Go X l rm_X3_draw (wC G) 3 46 [] [] q) hF hE
    · replace hF := it_f hc16 hF
      refine go_aload_n O dX3_draw_10 rfl 0 rfl ?_
      refine go_get (k := 6) (j := 0) O (lt9 hI (by decide : (6 : Nat) < 99)) (cv_plan G (S.1 6) (S.2 6)) rfl in_X3_draw_X3 (by decide) fl_X3_draw_13 rfl rfl dX3_draw_11 ?_
      refine go_iload_n O dX3_draw_14 rfl 2 rfl ?_
      refine go_aload_n O dX3_draw_15 rfl 1 rfl ?_
      refine go_iload_n O dX3_draw_16 rfl 2 rfl ?_
      obtain ⟨x5, hA4, hF⟩ := bd_s hF
      refine go_callVi (As := [.int p2]) (rest := [.int p2, .ref (G.2.1 7)]) (b := (sb i)) O (c_X6_goTogether l G hI hi hA4) (fun s args hts => cwV 1 hts gX3_draw_X6_goTogether rfl rfl rfl (by decide +kernel) ⟨Nat.le_of_ble_eq_true rfl, Nat.le_of_ble_eq_true rfl⟩) (lt9 hI (sb_lt0 hi)) (cv_st G hi (S.1 (sb i)) (S.2 (sb i))) rfl rfl rfl rfl (Nat.le_of_ble_eq_true rfl) dX3_draw_17 ?_
      obtain ⟨hb6, hF⟩ := chk_s hF
      obtain ⟨S7, eS7, hF⟩ := nm_s hF
      refine go_zast (k := 7) O (lt9 hI (by decide : (7 : Nat) < 99)) (fun f => (cv_tog G f (S.2 7))) (inB_in hb6) dX3_draw_20 eS7 ?_
      refine go_aload_n O dX3_draw_21 rfl 0 rfl ?_
      refine go_get (k := 6) (j := 1) O (lt9 hI (by decide : (6 : Nat) < 99)) (cv_plan G (S7.1 6) (S7.2 6)) rfl in_X3_draw_X3 (by decide) fl_X3_draw_17 rfl rfl dX3_draw_22 ?_
      refine go_iload_n O dX3_draw_25 rfl 2 rfl ?_
      refine go_iload_n O dX3_draw_26 rfl 2 rfl ?_
      obtain ⟨x8, hA10, hF⟩ := bd_s hF
      have J9 : Go X l rm_X3_draw (wC G) 3 39 [(0, .ref (G.2.1 6)), (1, .ref (G.2.1 (sb i))), (2, .int p2)] [.int x8, .int p2, .ref (G.2.1 8)] S7 := by
        obtain ⟨hb14, hF⟩ := chk_s hF
        obtain ⟨S15, eS15, hF⟩ := nm_s hF
        refine go_iast (k := 8) O (lt9 hI (by decide : (8 : Nat) < 99)) (fun f => (cv_few G f (S7.2 8))) (inB_in hb14) dX3_draw_39 eS15 ?_
        refine go_iinc (d := (1 : Int32)) (ls' := [(2, .int (p2 + (1 : Int32))), (0, .ref (G.2.1 6)), (1, .ref (G.2.1 (sb i)))]) O dX3_draw_40 2 rfl (by decide) (by decide) rfl ?_
        refine go_goto (tgt := 2) O dX3_draw_43 (by decide) ?_
        refine go_perm (ls' := [(0, .ref (G.2.1 6)), (1, .ref (G.2.1 (sb i))), (2, .int (p2 + (1 : Int32)))]) [1, 2, 0] rfl ?_
        exact ih _ _ _ hF hE
      replace hF := hA10
      refine go_if_ne (tgt := 34) O dX3_draw_27 (by decide) (fun hc13 => ?_) (fun hc13 => ?_)
      · replace hF := it_f hc13 hF
        refine go_aload_n O dX3_draw_34 rfl 0 rfl ?_
        refine go_iload_n O dX3_draw_35 rfl 2 rfl ?_
        obtain ⟨x12, hA11, hF⟩ := bd_s hF
        refine go_callVi (As := [.int p2]) (rest := [.int p2, .ref (G.2.1 8)]) (b := 6) O (c_X3_fewestOf l G hI hA11) (fun s args hts => cwV 1 hts gX3_draw_X3_fewestOf rfl rfl rfl (by decide +kernel) ⟨Nat.le_of_ble_eq_true rfl, Nat.le_of_ble_eq_true rfl⟩) (lt9 hI (by decide : (6 : Nat) < 99)) (cv_plan G (S7.1 6) (S7.2 6)) rfl rfl rfl rfl (Nat.le_of_ble_eq_true rfl) dX3_draw_36 ?_
        exact jn (P := fun q => Go X l rm_X3_draw (wC G) 3 39 [(0, .ref (G.2.1 6)), (1, .ref (G.2.1 (sb i))), (2, .int p2)] [.int q, .int p2, .ref (G.2.1 8)] S7) hF J9
      · replace hF := it_t hc13 hF
        refine go_iconst (v := (0 : Int32)) O dX3_draw_30 (by decide) ?_
        refine go_goto (tgt := 39) O dX3_draw_31 (by decide) ?_
        exact jn (P := fun q => Go X l rm_X3_draw (wC G) 3 39 [(0, .ref (G.2.1 6)), (1, .ref (G.2.1 (sb i))), (2, .int p2)] [.int q, .int p2, .ref (G.2.1 8)] S7) hF J9
def F_X3_draw (i : Nat) (S : Sg)  : Option Sg := bd (T_X3_draw_2 i FU (0 : Int32) S) (fun S1 => some S1)
set_option maxHeartbeats 4000000 in
set_option maxRecDepth 100000 in
theorem c_X3_draw (l : Launch) (G : Gp) (hI : Gd G) {i : Nat} (hi : i < 5) {S : Sg} {S1 : Sg} (hF : F_X3_draw i S = some S1) : Met l yX3_draw wsX3_draw rm_X3_draw (va_Pc [.ref (G.2.1 6), .ref (G.2.1 (sb i))] (PreW (wC G) S)) (va_Qv (fun u => u = S1) (PostW (wC G)) (AW (wC G))) 0 0 (AW (wC G)) := by
  rw [F_X3_draw] at hF
  refine met_v (cc := cX3_draw) (maxL := 3) (own := RX3) hI.1 (by decide) rfl rfl (Nat.le_of_ble_eq_true rfl) (fun X O hR => ?_)
  show Go X l rm_X3_draw (wC G) 3 0 [(0, .ref (G.2.1 6)), (1, .ref (G.2.1 (sb i)))] [] S
  refine go_iconst (v := (0 : Int32)) O dX3_draw_0 (by decide) ?_
  refine go_istore_n (ls' := [(2, .int (0 : Int32)), (0, .ref (G.2.1 6)), (1, .ref (G.2.1 (sb i)))]) O dX3_draw_1 rfl (by decide) rfl ?_
  refine go_perm (ls' := [(0, .ref (G.2.1 6)), (1, .ref (G.2.1 (sb i))), (2, .int (0 : Int32))]) [1, 2, 0] rfl ?_
  obtain ⟨S1, hA17, hF⟩ := bd_s hF
  refine lt_X3_draw_2 l G hI hi O _ _ _ _ hA17 ?_
  exact ret_v hF (hR _ _ dX3_draw_46)
-- X3_hours
def rm_X3_hours : Room := { frames := 1, cells := 0, slots := 0, locals := 20 }
theorem fl_X3_hours_17 : Cond.fieldLink RX3 17 "PaperWalls$Plan" "fewest" "[I" ∈ wsX3_hours := by decide +kernel
theorem in_X3_hours_X3 : ∀ x ∈ u_ws RX3 TX3 2, x ∈ wsX3_hours := by decide +kernel
def F_X3_hours (i : Nat) (S : Sg)  : Option Int32 := bd (F_X6_everyTalk i S) (fun x2 => chk (inB x2 256) (nm (S.1 8 x2.toNatClampNeg) (fun x4 => if (100 : Int32) ≤ x4 then (some (-9 : Int32)) else (some x4))))
set_option maxHeartbeats 4000000 in
set_option maxRecDepth 100000 in
theorem c_X3_hours (l : Launch) (G : Gp) (hI : Gd G) {i : Nat} (hi : i < 5) {S : Sg} {r : Int32} (hF : F_X3_hours i S = some r) : Met l yX3_hours wsX3_hours rm_X3_hours (va_Pc [.ref (G.2.1 6), .ref (G.2.1 (sb i))] (PreW (wC G) S)) (va_Qi (fun r' u => r' = r ∧ u = S) (PostW (wC G)) (AW (wC G))) 0 0 (AW (wC G)) := by
  rw [F_X3_hours] at hF
  refine met_i (cc := cX3_hours) (maxL := 3) (own := RX3) hI.1 (by decide) rfl rfl (Nat.le_of_ble_eq_true rfl) (fun X O hR => ?_)
  show Go X l rm_X3_hours (wC G) 3 0 [(0, .ref (G.2.1 6)), (1, .ref (G.2.1 (sb i)))] [] S
  refine go_aload_n O dX3_hours_0 rfl 0 rfl ?_
  refine go_get (k := 6) (j := 1) O (lt9 hI (by decide : (6 : Nat) < 99)) (cv_plan G (S.1 6) (S.2 6)) rfl in_X3_hours_X3 (by decide) fl_X3_hours_17 rfl rfl dX3_hours_1 ?_
  refine go_aload_n O dX3_hours_4 rfl 1 rfl ?_
  obtain ⟨x2, hA1, hF⟩ := bd_s hF
  refine go_callVi (As := []) (rest := [.ref (G.2.1 8)]) (b := (sb i)) O (c_X6_everyTalk l G hI hi hA1) (fun s args hts => cwV 0 hts gX3_hours_X6_everyTalk rfl rfl rfl (by decide +kernel) ⟨Nat.le_of_ble_eq_true rfl, Nat.le_of_ble_eq_true rfl⟩) (lt9 hI (sb_lt0 hi)) (cv_st G hi (S.1 (sb i)) (S.2 (sb i))) rfl rfl rfl rfl (Nat.le_of_ble_eq_true rfl) dX3_hours_5 ?_
  obtain ⟨hb3, hF⟩ := chk_s hF
  refine go_iald (k := 8) O (lt9 hI (by decide : (8 : Nat) < 99)) (cv_few G (S.1 8) (S.2 8)) (inB_in hb3) dX3_hours_8 ?_
  obtain ⟨x4, ex4, hF⟩ := nm_s hF
  refine go_topi ex4 ?_
  refine go_istore_n (ls' := [(2, .int x4), (0, .ref (G.2.1 6)), (1, .ref (G.2.1 (sb i)))]) O dX3_hours_9 rfl (by decide) rfl ?_
  refine go_iload_n O dX3_hours_10 rfl 0 rfl ?_
  refine go_bipush (v := (100 : Int32)) O dX3_hours_11 (by decide) ?_
  refine go_icmp_ge (tgt := 20) O dX3_hours_13 (by decide) (fun hc5 => ?_) (fun hc5 => ?_)
  · replace hF := it_t hc5 hF
    refine go_bipush (v := (-9 : Int32)) O dX3_hours_20 (by decide) ?_
    exact ret_i hF (hR _ _ dX3_hours_22)
  · replace hF := it_f hc5 hF
    refine go_iload_n O dX3_hours_16 rfl 0 rfl ?_
    refine go_goto (tgt := 22) O dX3_hours_17 (by decide) ?_
    exact ret_i hF (hR _ _ dX3_hours_22)
-- X3_firstHour
def rm_X3_firstHour : Room := { frames := 1, cells := 0, slots := 0, locals := 20 }
theorem fl_X3_firstHour_13 : Cond.fieldLink RX3 13 "PaperWalls$Plan" "together" "[Z" ∈ wsX3_firstHour := by decide +kernel
theorem fl_X3_firstHour_17 : Cond.fieldLink RX3 17 "PaperWalls$Plan" "fewest" "[I" ∈ wsX3_firstHour := by decide +kernel
theorem in_X3_firstHour_X3 : ∀ x ∈ u_ws RX3 TX3 2, x ∈ wsX3_firstHour := by decide +kernel
def T_X3_firstHour_7 (i : Nat) (S : Sg) (p2 : Int32) : Nat → Int32 → Option ((Unit) ⊕ (Int32))
  | 0, _ => none
  | n + 1, p3 => if p2 < p3 then (some (.inl ())) else (chk (inB p3 256) (if (S.1 7 p3.toNatClampNeg) = 0 then (T_X3_firstHour_7 i S p2 n (p3 + (2 : Int32))) else (chk (inB (p2 &&& (p3 ^^^ (-1 : Int32))) 256) (chk (inB p2 256) (if ((1 : Int32) + (S.1 8 (p2 &&& (p3 ^^^ (-1 : Int32))).toNatClampNeg)) = (S.1 8 p2.toNatClampNeg) then (some (.inr p3)) else (T_X3_firstHour_7 i S p2 n (p3 + (2 : Int32))))))))
set_option maxHeartbeats 4000000 in
set_option maxRecDepth 100000 in
theorem lt_X3_firstHour_7 {X : XT} (l : Launch) (G : Gp) (hI : Gd G) {i : Nat} (hi : i < 5) {S : Sg} {p2 : Int32} (O : Ok X (wC G) cX3_firstHour RX3 wsX3_firstHour 4) : ∀ (n : Nat) (p3 : Int32)  (q : ((Unit) ⊕ (Int32))), T_X3_firstHour_7 i S p2 n p3  = some q → (q = .inl () → Go X l rm_X3_firstHour (wC G) 4 50 [] [] S) → (∀ (r : Int32), q = .inr r → ∀ pc ls, decode cX3_firstHour pc = .ok (.ireturn, 1) → Go X l rm_X3_firstHour (wC G) 4 pc ls [.int r] S) → Go X l rm_X3_firstHour (wC G) 4 7 [(0, .ref (G.2.1 6)), (2, .int p2), (3, .int p3)] [] S := by
  intro n
  induction n with
  | zero =>
    intro p3  q hF
    cases hF
  | succ n ih =>
    intro p3  q hF hE hR
    rw [T_X3_firstHour_7] at hF
    refine go_iload_n O dX3_firstHour_7 rfl 2 rfl ?_
    refine go_iload_n O dX3_firstHour_8 rfl 1 rfl ?_
    refine go_icmp_gt (tgt := 50) O dX3_firstHour_9 (by decide) (fun hc8 => ?_) (fun hc8 => ?_)
    · replace hF := it_t hc8 hF
      refine go_perm (ls' := []) [] rfl ?_
      exact ret_q hF (fun hq => hE  hq)
    · replace hF := it_f hc8 hF
      refine go_aload_n O dX3_firstHour_12 rfl 0 rfl ?_
      refine go_get (k := 6) (j := 0) O (lt9 hI (by decide : (6 : Nat) < 99)) (cv_plan G (S.1 6) (S.2 6)) rfl in_X3_firstHour_X3 (by decide) fl_X3_firstHour_13 rfl rfl dX3_firstHour_13 ?_
      refine go_iload_n O dX3_firstHour_16 rfl 2 rfl ?_
      obtain ⟨hb3, hF⟩ := chk_s hF
      refine go_zald (k := 7) O (lt9 hI (by decide : (7 : Nat) < 99)) (cv_tog G (S.1 7) (S.2 7)) (inB_in hb3) dX3_firstHour_17 ?_
      refine go_if_eq (tgt := 44) O dX3_firstHour_18 (by decide) (fun hc7 => ?_) (fun hc7 => ?_)
      · replace hF := it_t hc7 hF
        refine go_iinc (d := (2 : Int32)) (ls' := [(3, .int (p3 + (2 : Int32))), (0, .ref (G.2.1 6)), (2, .int p2)]) O dX3_firstHour_44 2 rfl (by decide) (by decide) rfl ?_
        refine go_goto (tgt := 7) O dX3_firstHour_47 (by decide) ?_
        refine go_perm (ls' := [(0, .ref (G.2.1 6)), (2, .int p2), (3, .int (p3 + (2 : Int32)))]) [1, 2, 0] rfl ?_
        exact ih _ _ hF hE hR
      · replace hF := it_f hc7 hF
        refine go_iconst (v := (1 : Int32)) O dX3_firstHour_21 (by decide) ?_
        refine go_aload_n O dX3_firstHour_22 rfl 0 rfl ?_
        refine go_get (k := 6) (j := 1) O (lt9 hI (by decide : (6 : Nat) < 99)) (cv_plan G (S.1 6) (S.2 6)) rfl in_X3_firstHour_X3 (by decide) fl_X3_firstHour_17 rfl rfl dX3_firstHour_23 ?_
        refine go_iload_n O dX3_firstHour_26 rfl 1 rfl ?_
        refine go_iload_n O dX3_firstHour_27 rfl 2 rfl ?_
        refine go_iconst (v := (-1 : Int32)) O dX3_firstHour_28 (by decide) ?_
        refine go_ixor O dX3_firstHour_29 ?_
        refine go_iand O dX3_firstHour_30 ?_
        obtain ⟨hb4, hF⟩ := chk_s hF
        refine go_iald (k := 8) O (lt9 hI (by decide : (8 : Nat) < 99)) (cv_few G (S.1 8) (S.2 8)) (inB_in hb4) dX3_firstHour_31 ?_
        refine go_iadd O dX3_firstHour_32 ?_
        refine go_aload_n O dX3_firstHour_33 rfl 0 rfl ?_
        refine go_get (k := 6) (j := 1) O (lt9 hI (by decide : (6 : Nat) < 99)) (cv_plan G (S.1 6) (S.2 6)) rfl in_X3_firstHour_X3 (by decide) fl_X3_firstHour_17 rfl rfl dX3_firstHour_34 ?_
        refine go_iload_n O dX3_firstHour_37 rfl 1 rfl ?_
        obtain ⟨hb5, hF⟩ := chk_s hF
        refine go_iald (k := 8) O (lt9 hI (by decide : (8 : Nat) < 99)) (cv_few G (S.1 8) (S.2 8)) (inB_in hb5) dX3_firstHour_38 ?_
        refine go_icmp_ne (tgt := 44) O dX3_firstHour_39 (by decide) (fun hc6 => ?_) (fun hc6 => ?_)
        · replace hF := it_f hc6 hF
          refine go_iinc (d := (2 : Int32)) (ls' := [(3, .int (p3 + (2 : Int32))), (0, .ref (G.2.1 6)), (2, .int p2)]) O dX3_firstHour_44 2 rfl (by decide) (by decide) rfl ?_
          refine go_goto (tgt := 7) O dX3_firstHour_47 (by decide) ?_
          refine go_perm (ls' := [(0, .ref (G.2.1 6)), (2, .int p2), (3, .int (p3 + (2 : Int32)))]) [1, 2, 0] rfl ?_
          exact ih _ _ hF hE hR
        · replace hF := it_t hc6 hF
          refine go_iload_n O dX3_firstHour_42 rfl 2 rfl ?_
          exact ret_q hF (fun hq => hR _ hq _ _ dX3_firstHour_43)
def F_X3_firstHour (i : Nat) (S : Sg)  : Option Int32 := bd (F_X6_everyTalk i S) (fun x2 => bd (T_X3_firstHour_7 i S x2 FU (1 : Int32)) (fun q => match q with | .inl () => some (0 : Int32) | .inr r => some r))
set_option maxHeartbeats 4000000 in
set_option maxRecDepth 100000 in
theorem c_X3_firstHour (l : Launch) (G : Gp) (hI : Gd G) {i : Nat} (hi : i < 5) {S : Sg} {r : Int32} (hF : F_X3_firstHour i S = some r) : Met l yX3_firstHour wsX3_firstHour rm_X3_firstHour (va_Pc [.ref (G.2.1 6), .ref (G.2.1 (sb i))] (PreW (wC G) S)) (va_Qi (fun r' u => r' = r ∧ u = S) (PostW (wC G)) (AW (wC G))) 0 0 (AW (wC G)) := by
  rw [F_X3_firstHour] at hF
  refine met_i (cc := cX3_firstHour) (maxL := 4) (own := RX3) hI.1 (by decide) rfl rfl (Nat.le_of_ble_eq_true rfl) (fun X O hR => ?_)
  show Go X l rm_X3_firstHour (wC G) 4 0 [(0, .ref (G.2.1 6)), (1, .ref (G.2.1 (sb i)))] [] S
  refine go_aload_n O dX3_firstHour_0 rfl 1 rfl ?_
  obtain ⟨x2, hA1, hF⟩ := bd_s hF
  refine go_callVi (As := []) (rest := []) (b := (sb i)) O (c_X6_everyTalk l G hI hi hA1) (fun s args hts => cwV 0 hts gX3_firstHour_X6_everyTalk rfl rfl rfl (by decide +kernel) ⟨Nat.le_of_ble_eq_true rfl, Nat.le_of_ble_eq_true rfl⟩) (lt9 hI (sb_lt0 hi)) (cv_st G hi (S.1 (sb i)) (S.2 (sb i))) rfl rfl rfl rfl (Nat.le_of_ble_eq_true rfl) dX3_firstHour_1 ?_
  refine go_istore_n (ls' := [(2, .int x2), (0, .ref (G.2.1 6)), (1, .ref (G.2.1 (sb i)))]) O dX3_firstHour_4 rfl (by decide) rfl ?_
  refine go_iconst (v := (1 : Int32)) O dX3_firstHour_5 (by decide) ?_
  refine go_istore_n (ls' := [(3, .int (1 : Int32)), (2, .int x2), (0, .ref (G.2.1 6)), (1, .ref (G.2.1 (sb i)))]) O dX3_firstHour_6 rfl (by decide) rfl ?_
  refine go_perm (ls' := [(0, .ref (G.2.1 6)), (2, .int x2), (3, .int (1 : Int32))]) [2, 1, 0] rfl ?_
  obtain ⟨q10, hA9, hF⟩ := bd_s hF
  refine lt_X3_firstHour_7 l G hI hi O _ _ _ hA9 (fun hq => ?_) ?_
  · subst hq
    refine go_iconst (v := (0 : Int32)) O dX3_firstHour_50 (by decide) ?_
    exact ret_i hF (hR _ _ dX3_firstHour_51)
  · intro r hq pc ls hd
    subst hq
    exact ret_i hF (hR _ _ hd)
-- X3_largest
def rm_X3_largest : Room := { frames := 1, cells := 0, slots := 0, locals := 20 }
theorem fl_X3_largest_13 : Cond.fieldLink RX3 13 "PaperWalls$Plan" "together" "[Z" ∈ wsX3_largest := by decide +kernel
theorem in_X3_largest_X3 : ∀ x ∈ u_ws RX3 TX3 2, x ∈ wsX3_largest := by decide +kernel
def T_X3_largest_4 (i : Nat) (S : Sg)  : Nat → Int32 → Int32 → Option (Int32)
  | 0, _, _ => none
  | n + 1, p2, p3 => bd (F_X6_everyTalk i S) (fun x3 => if x3 < p3 then (some p2) else (chk (inB p3 256) (bd (if (S.1 7 p3.toNatClampNeg) = 0 then (some p2) else (bd (F_J6_bitCount_0f7a4 S p3) (fun x9 => bd (F_J6_bitCount_0f7a4 S p2) (fun x11 => if x9 ≤ x11 then (some p2) else (some p3))))) (fun x5 => T_X3_largest_4 i S n x5 (p3 + (1 : Int32))))))
set_option maxHeartbeats 4000000 in
set_option maxRecDepth 100000 in
theorem lt_X3_largest_4 {X : XT} (l : Launch) (G : Gp) (hI : Gd G) {i : Nat} (hi : i < 5) {S : Sg} (O : Ok X (wC G) cX3_largest RX3 wsX3_largest 4) : ∀ (n : Nat) (p2 : Int32) (p3 : Int32)  (q : (Int32)), T_X3_largest_4 i S n p2 p3  = some q → (Go X l rm_X3_largest (wC G) 4 40 [(2, .int q)] [] S) → Go X l rm_X3_largest (wC G) 4 4 [(0, .ref (G.2.1 6)), (1, .ref (G.2.1 (sb i))), (2, .int p2), (3, .int p3)] [] S := by
  intro n
  induction n with
  | zero =>
    intro p2 p3  q hF
    cases hF
  | succ n ih =>
    intro p2 p3  q hF hE
    rw [T_X3_largest_4] at hF
    refine go_iload_n O dX3_largest_4 rfl 3 rfl ?_
    refine go_aload_n O dX3_largest_5 rfl 1 rfl ?_
    obtain ⟨x3, hA2, hF⟩ := bd_s hF
    refine go_callVi (As := []) (rest := [.int p3]) (b := (sb i)) O (c_X6_everyTalk l G hI hi hA2) (fun s args hts => cwV 0 hts gX3_largest_X6_everyTalk rfl rfl rfl (by decide +kernel) ⟨Nat.le_of_ble_eq_true rfl, Nat.le_of_ble_eq_true rfl⟩) (lt9 hI (sb_lt0 hi)) (cv_st G hi (S.1 (sb i)) (S.2 (sb i))) rfl rfl rfl rfl (Nat.le_of_ble_eq_true rfl) dX3_largest_6 ?_
    refine go_icmp_gt (tgt := 40) O dX3_largest_9 (by decide) (fun hc14 => ?_) (fun hc14 => ?_)
    · replace hF := it_t hc14 hF
      refine go_perm (ls' := [(2, .int p2)]) [2] rfl ?_
      exact jn (P := fun q => Go X l rm_X3_largest (wC G) 4 40 [(2, .int q)] [] S) hF hE
    · replace hF := it_f hc14 hF
      refine go_aload_n O dX3_largest_12 rfl 0 rfl ?_
      refine go_get (k := 6) (j := 0) O (lt9 hI (by decide : (6 : Nat) < 99)) (cv_plan G (S.1 6) (S.2 6)) rfl in_X3_largest_X3 (by decide) fl_X3_largest_13 rfl rfl dX3_largest_13 ?_
      refine go_iload_n O dX3_largest_16 rfl 3 rfl ?_
      obtain ⟨hb4, hF⟩ := chk_s hF
      refine go_zald (k := 7) O (lt9 hI (by decide : (7 : Nat) < 99)) (cv_tog G (S.1 7) (S.2 7)) (inB_in hb4) dX3_largest_17 ?_
      obtain ⟨x5, hA7, hF⟩ := bd_s hF
      have J6 : Go X l rm_X3_largest (wC G) 4 34 [(0, .ref (G.2.1 6)), (1, .ref (G.2.1 (sb i))), (2, .int x5), (3, .int p3)] [] S := by
        refine go_iinc (d := (1 : Int32)) (ls' := [(3, .int (p3 + (1 : Int32))), (0, .ref (G.2.1 6)), (1, .ref (G.2.1 (sb i))), (2, .int x5)]) O dX3_largest_34 3 rfl (by decide) (by decide) rfl ?_
        refine go_goto (tgt := 4) O dX3_largest_37 (by decide) ?_
        refine go_perm (ls' := [(0, .ref (G.2.1 6)), (1, .ref (G.2.1 (sb i))), (2, .int x5), (3, .int (p3 + (1 : Int32)))]) [1, 2, 3, 0] rfl ?_
        exact ih _ _ _ hF hE
      replace hF := hA7
      refine go_if_eq (tgt := 34) O dX3_largest_18 (by decide) (fun hc13 => ?_) (fun hc13 => ?_)
      · replace hF := it_t hc13 hF
        exact jn (P := fun q => Go X l rm_X3_largest (wC G) 4 34 [(0, .ref (G.2.1 6)), (1, .ref (G.2.1 (sb i))), (2, .int q), (3, .int p3)] [] S) hF J6
      · replace hF := it_f hc13 hF
        refine go_iload_n O dX3_largest_21 rfl 3 rfl ?_
        obtain ⟨x9, hA8, hF⟩ := bd_s hF
        refine go_callSi (As := [.int p3]) (rest := []) O (c_J6_bitCount_0f7a4 l G hI hA8) (fun s args hts => va_cwS 1 hts gX3_largest_J6_bitCount_0f7a4 rfl rfl rfl (by decide +kernel) ⟨Nat.le_of_ble_eq_true rfl, Nat.le_of_ble_eq_true rfl⟩) rfl rfl (Nat.le_of_ble_eq_true rfl) dX3_largest_22 ?_
        refine go_iload_n O dX3_largest_25 rfl 2 rfl ?_
        obtain ⟨x11, hA10, hF⟩ := bd_s hF
        refine go_callSi (As := [.int p2]) (rest := [.int x9]) O (c_J6_bitCount_0f7a4 l G hI hA10) (fun s args hts => va_cwS 1 hts gX3_largest_J6_bitCount_0f7a4 rfl rfl rfl (by decide +kernel) ⟨Nat.le_of_ble_eq_true rfl, Nat.le_of_ble_eq_true rfl⟩) rfl rfl (Nat.le_of_ble_eq_true rfl) dX3_largest_26 ?_
        refine go_icmp_le (tgt := 34) O dX3_largest_29 (by decide) (fun hc12 => ?_) (fun hc12 => ?_)
        · replace hF := it_t hc12 hF
          exact jn (P := fun q => Go X l rm_X3_largest (wC G) 4 34 [(0, .ref (G.2.1 6)), (1, .ref (G.2.1 (sb i))), (2, .int q), (3, .int p3)] [] S) hF J6
        · replace hF := it_f hc12 hF
          refine go_iload_n O dX3_largest_32 rfl 3 rfl ?_
          refine go_istore_n (ls' := [(2, .int p3), (0, .ref (G.2.1 6)), (1, .ref (G.2.1 (sb i))), (3, .int p3)]) O dX3_largest_33 rfl (by decide) rfl ?_
          refine go_perm (ls' := [(0, .ref (G.2.1 6)), (1, .ref (G.2.1 (sb i))), (2, .int p3), (3, .int p3)]) [1, 2, 0, 3] rfl ?_
          exact jn (P := fun q => Go X l rm_X3_largest (wC G) 4 34 [(0, .ref (G.2.1 6)), (1, .ref (G.2.1 (sb i))), (2, .int q), (3, .int p3)] [] S) hF J6
def F_X3_largest (i : Nat) (S : Sg)  : Option Int32 := bd (T_X3_largest_4 i S FU (0 : Int32) (0 : Int32)) (fun x1 => some x1)
set_option maxHeartbeats 4000000 in
set_option maxRecDepth 100000 in
theorem c_X3_largest (l : Launch) (G : Gp) (hI : Gd G) {i : Nat} (hi : i < 5) {S : Sg} {r : Int32} (hF : F_X3_largest i S = some r) : Met l yX3_largest wsX3_largest rm_X3_largest (va_Pc [.ref (G.2.1 6), .ref (G.2.1 (sb i))] (PreW (wC G) S)) (va_Qi (fun r' u => r' = r ∧ u = S) (PostW (wC G)) (AW (wC G))) 0 0 (AW (wC G)) := by
  rw [F_X3_largest] at hF
  refine met_i (cc := cX3_largest) (maxL := 4) (own := RX3) hI.1 (by decide) rfl rfl (Nat.le_of_ble_eq_true rfl) (fun X O hR => ?_)
  show Go X l rm_X3_largest (wC G) 4 0 [(0, .ref (G.2.1 6)), (1, .ref (G.2.1 (sb i)))] [] S
  refine go_iconst (v := (0 : Int32)) O dX3_largest_0 (by decide) ?_
  refine go_istore_n (ls' := [(2, .int (0 : Int32)), (0, .ref (G.2.1 6)), (1, .ref (G.2.1 (sb i)))]) O dX3_largest_1 rfl (by decide) rfl ?_
  refine go_iconst (v := (0 : Int32)) O dX3_largest_2 (by decide) ?_
  refine go_istore_n (ls' := [(3, .int (0 : Int32)), (2, .int (0 : Int32)), (0, .ref (G.2.1 6)), (1, .ref (G.2.1 (sb i)))]) O dX3_largest_3 rfl (by decide) rfl ?_
  refine go_perm (ls' := [(0, .ref (G.2.1 6)), (1, .ref (G.2.1 (sb i))), (2, .int (0 : Int32)), (3, .int (0 : Int32))]) [2, 3, 1, 0] rfl ?_
  obtain ⟨x1, hA15, hF⟩ := bd_s hF
  refine lt_X3_largest_4 l G hI hi O _ _ _ _ hA15 ?_
  refine go_iload_n O dX3_largest_40 rfl 0 rfl ?_
  exact ret_i hF (hR _ _ dX3_largest_41)
