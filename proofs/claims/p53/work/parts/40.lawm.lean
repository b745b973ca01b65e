-- L_cell
def rm_L_cell : Room := { frames := 0, cells := 0, slots := 0, locals := 0 }
theorem wd_L_cell_c7 : Cond.constant RL 7 (625341585) ∈ wsL_cell := by decide +kernel
def F_L_cell (Ln : Nat) (xs : Nat → Int32) (S : Sg) (a1 : Int32) : Option Int32 := if (Int32.ofNat Ln) ≤ a1 then (some ((625341585 : Int32) * (a1 + (3 : Int32)))) else (chk (inB a1 Ln) (some (xs a1.toNatClampNeg)))
set_option maxHeartbeats 4000000 in
set_option maxRecDepth 100000 in
theorem c_L_cell (l : Launch) (G : Gp) (hI : Gd G) {Ln : Nat} {xs : Nat → Int32} (hL : gL G = Ln) (hxs : gx G = xs) {S : Sg} {a1 : Int32} {r : Int32} (hF : F_L_cell Ln xs S a1 = some r) : Met l yL_cell wsL_cell rm_L_cell (va_Pc [.ref (gb G), .int a1] (PreW (wC G) S)) (va_Qi (fun r' u => r' = r ∧ u = S) (PostW (wC G)) (AW (wC G))) 0 0 (AW (wC G)) := by
  rw [F_L_cell] at hF
  refine met_i (cc := cL_cell) (maxL := 2) (own := RL) hI.1 (by decide) rfl rfl (Nat.le_of_ble_eq_true rfl) (fun X O hR => ?_)
  show Go X l rm_L_cell (wC G) 2 0 [(0, .ref (gb G)), (1, .int a1)] [] S
  refine go_iload_n O dL_cell_0 rfl 1 rfl ?_
  refine go_aload_n O dL_cell_1 rfl 0 rfl ?_
  refine go_slen O hL dL_cell_2 ?_
  refine go_icmp_ge (tgt := 12) O dL_cell_3 (by decide) (fun hc2 => ?_) (fun hc2 => ?_)
  · replace hF := it_t hc2 hF
    refine go_ldc (v := (625341585 : Int32)) O dL_cell_12 wd_L_cell_c7 ?_
    refine go_iload_n O dL_cell_14 rfl 1 rfl ?_
    refine go_iconst (v := (3 : Int32)) O dL_cell_15 (by decide) ?_
    refine go_iadd O dL_cell_16 ?_
    refine go_imul O dL_cell_17 ?_
    exact ret_i hF (hR _ _ dL_cell_18)
  · replace hF := it_f hc2 hF
    refine go_aload_n O dL_cell_6 rfl 0 rfl ?_
    refine go_iload_n O dL_cell_7 rfl 1 rfl ?_
    obtain ⟨hb1, hF⟩ := chk_s hF
    refine go_sld O hL hxs (inB_in hb1) dL_cell_8 ?_
    refine go_goto (tgt := 18) O dL_cell_9 (by decide) ?_
    exact ret_i hF (hR _ _ dL_cell_18)
-- L_some
def rm_L_some : Room := { frames := 0, cells := 0, slots := 0, locals := 0 }
theorem wd_L_some_c8 : Cond.constant RL 8 (2147483647) ∈ wsL_some := by decide +kernel
def F_L_some  (S : Sg) (a0 : Int32) (a1 : Int32) : Option Int32 := chk (nzI a1) (some ((a0 &&& (2147483647 : Int32)) - (a0 &&& (2147483647 : Int32)) / a1 * a1))
set_option maxHeartbeats 4000000 in
set_option maxRecDepth 100000 in
theorem c_L_some (l : Launch) (G : Gp) (hI : Gd G)  {S : Sg} {a0 : Int32} {a1 : Int32} {r : Int32} (hF : F_L_some S a0 a1 = some r) : Met l yL_some wsL_some rm_L_some (va_Pc [.int a0, .int a1] (PreW (wC G) S)) (va_Qi (fun r' u => r' = r ∧ u = S) (PostW (wC G)) (AW (wC G))) 0 0 (AW (wC G)) := by
  rw [F_L_some] at hF
  refine met_i (cc := cL_some) (maxL := 2) (own := RL) hI.1 (by decide) rfl rfl (Nat.le_of_ble_eq_true rfl) (fun X O hR => ?_)
  show Go X l rm_L_some (wC G) 2 0 [(0, .int a0), (1, .int a1)] [] S
  refine go_iload_n O dL_some_0 rfl 0 rfl ?_
  refine go_ldc (v := (2147483647 : Int32)) O dL_some_1 wd_L_some_c8 ?_
  refine go_iand O dL_some_3 ?_
  refine go_iload_n O dL_some_4 rfl 1 rfl ?_
  obtain ⟨hz1, hF⟩ := chk_s hF
  refine go_irem O dL_some_5 (nzI_s hz1) ?_
  exact ret_i hF (hR _ _ dL_some_6)
-- L_size
def rm_L_size : Room := { frames := 0, cells := 0, slots := 0, locals := 0 }
def T_L_size_4  (S : Sg) (p0 : Int32) : Nat → Int32 → Int32 → Option (Int32)
  | 0, _, _ => none
  | n + 1, p1, p2 => if (8 : Int32) ≤ p2 then (some p1) else (nm (p1 + ((p0 >>> (p2 &&& 31)) &&& (1 : Int32))) (fun x2 => T_L_size_4 S p0 n x2 (p2 + (1 : Int32))))
set_option maxHeartbeats 4000000 in
set_option maxRecDepth 100000 in
theorem lt_L_size_4 {X : XT} (l : Launch) (G : Gp) (hI : Gd G)  {S : Sg} {p0 : Int32} (O : Ok X (wC G) cL_size RL wsL_size 3) : ∀ (n : Nat) (p1 : Int32) (p2 : Int32)  (q : (Int32)), T_L_size_4 S p0 n p1 p2  = some q → (Go X l rm_L_size (wC G) 3 24 [(1, .int q)] [] S) → Go X l rm_L_size (wC G) 3 4 [(0, .int p0), (1, .int p1), (2, .int p2)] [] S := by
  intro n
  induction n with
  | zero =>
    intro p1 p2  q hF
    cases hF
  | succ n ih =>
    intro p1 p2  q hF hE
    rw [T_L_size_4] at hF
    refine go_iload_n O dL_size_4 rfl 2 rfl ?_
    refine go_bipush (v := (8 : Int32)) O dL_size_5 (by decide) ?_
    refine go_icmp_ge (tgt := 24) O dL_size_7 (by decide) (fun hc3 => ?_) (fun hc3 => ?_)
    · replace hF := it_t hc3 hF
      refine go_perm (ls' := [(1, .int p1)]) [1] rfl ?_
      exact jn (P := fun q => Go X l rm_L_size (wC G) 3 24 [(1, .int q)] [] S) hF hE
    · replace hF := it_f hc3 hF
      refine go_iload_n O dL_size_10 rfl 1 rfl ?_
      refine go_iload_n O dL_size_11 rfl 0 rfl ?_
      refine go_iload_n O dL_size_12 rfl 2 rfl ?_
      refine go_ishr O dL_size_13 ?_
      refine go_iconst (v := (1 : Int32)) O dL_size_14 (by decide) ?_
      refine go_iand O dL_size_15 ?_
      refine go_iadd O dL_size_16 ?_
      obtain ⟨x2, ex2, hF⟩ := nm_s hF
      refine go_topi ex2 ?_
      refine go_istore_n (ls' := [(1, .int x2), (0, .int p0), (2, .int p2)]) O dL_size_17 rfl (by decide) rfl ?_
      refine go_iinc (d := (1 : Int32)) (ls' := [(2, .int (p2 + (1 : Int32))), (1, .int x2), (0, .int p0)]) O dL_size_18 2 rfl (by decide) (by decide) rfl ?_
      refine go_goto (tgt := 4) O dL_size_21 (by decide) ?_
      refine go_perm (ls' := [(0, .int p0), (1, .int x2), (2, .int (p2 + (1 : Int32)))]) [2, 1, 0] rfl ?_
      exact ih _ _ _ hF hE
def F_L_size  (S : Sg) (a0 : Int32) : Option Int32 := bd (T_L_size_4 S a0 FU (0 : Int32) (0 : Int32)) (fun x1 => some x1)
set_option maxHeartbeats 4000000 in
set_option maxRecDepth 100000 in
theorem c_L_size (l : Launch) (G : Gp) (hI : Gd G)  {S : Sg} {a0 : Int32} {r : Int32} (hF : F_L_size S a0 = some r) : Met l yL_size wsL_size rm_L_size (va_Pc [.int a0] (PreW (wC G) S)) (va_Qi (fun r' u => r' = r ∧ u = S) (PostW (wC G)) (AW (wC G))) 0 0 (AW (wC G)) := by
  rw [F_L_size] at hF
  refine met_i (cc := cL_size) (maxL := 3) (own := RL) hI.1 (by decide) rfl rfl (Nat.le_of_ble_eq_true rfl) (fun X O hR => ?_)
  show Go X l rm_L_size (wC G) 3 0 [(0, .int a0)] [] S
  refine go_iconst (v := (0 : Int32)) O dL_size_0 (by decide) ?_
  refine go_istore_n (ls' := [(1, .int (0 : Int32)), (0, .int a0)]) O dL_size_1 rfl (by decide) rfl ?_
  refine go_iconst (v := (0 : Int32)) O dL_size_2 (by decide) ?_
  refine go_istore_n (ls' := [(2, .int (0 : Int32)), (1, .int (0 : Int32)), (0, .int a0)]) O dL_size_3 rfl (by decide) rfl ?_
  refine go_perm (ls' := [(0, .int a0), (1, .int (0 : Int32)), (2, .int (0 : Int32))]) [2, 1, 0] rfl ?_
  obtain ⟨x1, hA4, hF⟩ := bd_s hF
  refine lt_L_size_4 l G hI  O _ _ _ _ hA4 ?_
  refine go_iload_n O dL_size_24 rfl 0 rfl ?_
  exact ret_i hF (hR _ _ dL_size_25)
-- L_letter
def rm_L_letter : Room := { frames := 0, cells := 0, slots := 0, locals := 0 }
def F_L_letter  (S : Sg) (a0 : Int32) : Option Int32 := if a0 = 0 then (some (111 : Int32)) else (if a0 = (1 : Int32) then (some (108 : Int32)) else (if a0 = (2 : Int32) then (some (119 : Int32)) else (if a0 = (3 : Int32) then (some (100 : Int32)) else (if a0 = (4 : Int32) then (some (115 : Int32)) else (some (105 : Int32))))))
set_option maxHeartbeats 4000000 in
set_option maxRecDepth 100000 in
theorem c_L_letter (l : Launch) (G : Gp) (hI : Gd G)  {S : Sg} {a0 : Int32} {r : Int32} (hF : F_L_letter S a0 = some r) : Met l yL_letter wsL_letter rm_L_letter (va_Pc [.int a0] (PreW (wC G) S)) (va_Qi (fun r' u => r' = r ∧ u = S) (PostW (wC G)) (AW (wC G))) 0 0 (AW (wC G)) := by
  rw [F_L_letter] at hF
  refine met_i (cc := cL_letter) (maxL := 1) (own := RL) hI.1 (by decide) rfl rfl (Nat.le_of_ble_eq_true rfl) (fun X O hR => ?_)
  show Go X l rm_L_letter (wC G) 1 0 [(0, .int a0)] [] S
  refine go_iload_n O dL_letter_0 rfl 0 rfl ?_
  refine go_if_ne (tgt := 9) O dL_letter_1 (by decide) (fun hc5 => ?_) (fun hc5 => ?_)
  · replace hF := it_f hc5 hF
    refine go_iload_n O dL_letter_9 rfl 0 rfl ?_
    refine go_iconst (v := (1 : Int32)) O dL_letter_10 (by decide) ?_
    refine go_icmp_ne (tgt := 19) O dL_letter_11 (by decide) (fun hc4 => ?_) (fun hc4 => ?_)
    · replace hF := it_f hc4 hF
      refine go_iload_n O dL_letter_19 rfl 0 rfl ?_
      refine go_iconst (v := (2 : Int32)) O dL_letter_20 (by decide) ?_
      refine go_icmp_ne (tgt := 29) O dL_letter_21 (by decide) (fun hc3 => ?_) (fun hc3 => ?_)
      · replace hF := it_f hc3 hF
        refine go_iload_n O dL_letter_29 rfl 0 rfl ?_
        refine go_iconst (v := (3 : Int32)) O dL_letter_30 (by decide) ?_
        refine go_icmp_ne (tgt := 39) O dL_letter_31 (by decide) (fun hc2 => ?_) (fun hc2 => ?_)
        · replace hF := it_f hc2 hF
          refine go_iload_n O dL_letter_39 rfl 0 rfl ?_
          refine go_iconst (v := (4 : Int32)) O dL_letter_40 (by decide) ?_
          refine go_icmp_ne (tgt := 49) O dL_letter_41 (by decide) (fun hc1 => ?_) (fun hc1 => ?_)
          · replace hF := it_f hc1 hF
            refine go_bipush (v := (105 : Int32)) O dL_letter_49 (by decide) ?_
            exact ret_i hF (hR _ _ dL_letter_51)
          · replace hF := it_t hc1 hF
            refine go_bipush (v := (115 : Int32)) O dL_letter_44 (by decide) ?_
            refine go_goto (tgt := 51) O dL_letter_46 (by decide) ?_
            exact ret_i hF (hR _ _ dL_letter_51)
        · replace hF := it_t hc2 hF
          refine go_bipush (v := (100 : Int32)) O dL_letter_34 (by decide) ?_
          refine go_goto (tgt := 51) O dL_letter_36 (by decide) ?_
          exact ret_i hF (hR _ _ dL_letter_51)
      · replace hF := it_t hc3 hF
        refine go_bipush (v := (119 : Int32)) O dL_letter_24 (by decide) ?_
        refine go_goto (tgt := 51) O dL_letter_26 (by decide) ?_
        exact ret_i hF (hR _ _ dL_letter_51)
    · replace hF := it_t hc4 hF
      refine go_bipush (v := (108 : Int32)) O dL_letter_14 (by decide) ?_
      refine go_goto (tgt := 51) O dL_letter_16 (by decide) ?_
      exact ret_i hF (hR _ _ dL_letter_51)
  · replace hF := it_t hc5 hF
    refine go_bipush (v := (111 : Int32)) O dL_letter_4 (by decide) ?_
    refine go_goto (tgt := 51) O dL_letter_6 (by decide) ?_
    exact ret_i hF (hR _ _ dL_letter_51)
-- L_talks
def rm_L_talks : Room := { frames := 3, cells := 0, slots := 0, locals := 66 }
def T_L_talks_31 (Ln : Nat) (xs : Nat → Int32)  (p2 : Int32) (p6 : Int32) : Nat → Int32 → Int32 → Sg → Option (Int32 × Sg)
  | 0, _, _, _ => none
  | n + 1, p7, p8, S => if p6 ≤ p8 then (some (p7, S)) else (if p7 = 0 then (some (p7, S)) else (bd (F_L_cell Ln xs S ((p2 + (1 : Int32)) + p8)) (fun x13 => chk (inB (0 : Int32) 4) (bd (F_L_some S x13 (S.1 102 (0 : Int32).toNatClampNeg)) (fun x16 => chk (inB (0 : Int32) 4) (bd (F_L_some S (x13 >>> ((3 : Int32) &&& 31)) ((S.1 102 (0 : Int32).toNatClampNeg) - (1 : Int32))) (fun x19 => chk (inB (0 : Int32) 4) (chk (nzI (S.1 102 (0 : Int32).toNatClampNeg)) (nm (((x16 + (1 : Int32)) + x19) - ((x16 + (1 : Int32)) + x19) / (S.1 102 (0 : Int32).toNatClampNeg) * (S.1 102 (0 : Int32).toNatClampNeg)) (fun x22 => chk (inB (0 : Int32) 4) (bd (F_L_some S (x13 >>> ((6 : Int32) &&& 31)) ((1 : Int32) <<< ((S.1 102 (0 : Int32).toNatClampNeg) &&& 31))) (fun x25 => chk (inB (0 : Int32) 4) (bd (F_L_some S (x13 >>> ((13 : Int32) &&& 31)) ((1 : Int32) <<< ((S.1 102 (0 : Int32).toNatClampNeg) &&& 31))) (fun x28 => nm (((x25 &&& x28) &&& (((1 : Int32) <<< (x16 &&& 31)) ^^^ (-1 : Int32))) &&& (((1 : Int32) <<< (x22 &&& 31)) ^^^ (-1 : Int32))) (fun x29 => chk (inB ((3 : Int32) * p8) 24) (nm (wI S 103 ((3 : Int32) * p8).toNatClampNeg x16) (fun S31 => chk (inB (((3 : Int32) * p8) + (1 : Int32)) 24) (nm (wI S31 103 (((3 : Int32) * p8) + (1 : Int32)).toNatClampNeg x22) (fun S33 => chk (inB (((3 : Int32) * p8) + (2 : Int32)) 24) (nm (wI S33 103 (((3 : Int32) * p8) + (2 : Int32)).toNatClampNeg x29) (fun S35 => bd (F_X8_talk S35 x16 x22 x29) (fun (x37, S38) => bd (if x37 = p8 then (some (1 : Int32)) else (some (0 : Int32))) (fun x39 => T_L_talks_31 Ln xs p2 p6 n x39 (p8 + (1 : Int32)) S38)))))))))))))))))))))))
set_option maxHeartbeats 4000000 in
set_option maxRecDepth 100000 in
theorem lt_L_talks_31 {X : XT} (l : Launch) (G : Gp) (hI : Gd G) {Ln : Nat} {xs : Nat → Int32} (hL : gL G = Ln) (hxs : gx G = xs) (hT : 104 ≤ nn G)  {p2 : Int32} {p6 : Int32} (O : Ok X (wC G) cL_talks RL wsL_talks 13) : ∀ (n : Nat) (p7 : Int32) (p8 : Int32) (S : Sg) (q : (Int32 × Sg)), T_L_talks_31 Ln xs p2 p6 n p7 p8 S = some q → (Go X l rm_L_talks (wC G) 13 190 [(3, .ref (G.2.1 102)), (6, .int p6), (7, .int q.1)] [] q.2) → Go X l rm_L_talks (wC G) 13 31 [(0, .ref (G.2.1 0)), (1, .ref (gb G)), (2, .int p2), (3, .ref (G.2.1 102)), (4, .ref (G.2.1 103)), (6, .int p6), (7, .int p7), (8, .int p8)] [] S := by
  intro n
  induction n with
  | zero =>
    intro p7 p8 S q hF
    cases hF
  | succ n ih =>
    intro p7 p8 S q hF hE
    rw [T_L_talks_31] at hF
    refine go_iload O dL_talks_31 7 rfl ?_
    refine go_iload O dL_talks_33 5 rfl ?_
    refine go_icmp_ge (tgt := 190) O dL_talks_35 (by decide) (fun hc44 => ?_) (fun hc44 => ?_)
    · replace hF := it_t hc44 hF
      refine go_perm (ls' := [(3, .ref (G.2.1 102)), (6, .int p6), (7, .int p7)]) [3, 5, 6] rfl ?_
      exact jn (P := fun q => Go X l rm_L_talks (wC G) 13 190 [(3, .ref (G.2.1 102)), (6, .int p6), (7, .int q.1)] [] q.2) hF hE
    · replace hF := it_f hc44 hF
      refine go_iload O dL_talks_38 6 rfl ?_
      refine go_if_eq (tgt := 190) O dL_talks_40 (by decide) (fun hc43 => ?_) (fun hc43 => ?_)
      · replace hF := it_t hc43 hF
        refine go_perm (ls' := [(3, .ref (G.2.1 102)), (6, .int p6), (7, .int p7)]) [3, 5, 6] rfl ?_
        exact jn (P := fun q => Go X l rm_L_talks (wC G) 13 190 [(3, .ref (G.2.1 102)), (6, .int p6), (7, .int q.1)] [] q.2) hF hE
      · replace hF := it_f hc43 hF
        refine go_aload_n O dL_talks_43 rfl 1 rfl ?_
        refine go_iload_n O dL_talks_44 rfl 2 rfl ?_
        refine go_iconst (v := (1 : Int32)) O dL_talks_45 (by decide) ?_
        refine go_iadd O dL_talks_46 ?_
        refine go_iload O dL_talks_47 7 rfl ?_
        refine go_iadd O dL_talks_49 ?_
        obtain ⟨x13, hA12, hF⟩ := bd_s hF
        refine go_callSi (As := [.ref (gb G), .int ((p2 + (1 : Int32)) + p8)]) (rest := []) O (c_L_cell l G hI hL hxs hA12) (fun s args hts => va_cwS 2 hts gL_talks_L_cell rfl rfl rfl (by decide +kernel) ⟨Nat.le_of_ble_eq_true rfl, Nat.le_of_ble_eq_true rfl⟩) rfl rfl (Nat.le_of_ble_eq_true rfl) dL_talks_50 ?_
        refine go_istore (ls' := [(9, .int x13), (0, .ref (G.2.1 0)), (1, .ref (gb G)), (2, .int p2), (3, .ref (G.2.1 102)), (4, .ref (G.2.1 103)), (6, .int p6), (7, .int p7), (8, .int p8)]) O dL_talks_53 (by decide) rfl ?_
        refine go_iload O dL_talks_55 0 rfl ?_
        refine go_aload_n O dL_talks_57 rfl 4 rfl ?_
        refine go_iconst (v := (0 : Int32)) O dL_talks_58 (by decide) ?_
        obtain ⟨hb14, hF⟩ := chk_s hF
        refine go_iald (k := 102) O (lt4 hT (by decide : (102 : Nat) < 104)) (cv_l102 G (S.1 102) (S.2 102)) (inB_in hb14) dL_talks_59 ?_
        obtain ⟨x16, hA15, hF⟩ := bd_s hF
        refine go_callSi (As := [.int x13, .int (S.1 102 (0 : Int32).toNatClampNeg)]) (rest := []) O (c_L_some l G hI hA15) (fun s args hts => va_cwS 2 hts gL_talks_L_some rfl rfl rfl (by decide +kernel) ⟨Nat.le_of_ble_eq_true rfl, Nat.le_of_ble_eq_true rfl⟩) rfl rfl (Nat.le_of_ble_eq_true rfl) dL_talks_60 ?_
        refine go_istore (ls' := [(10, .int x16), (9, .int x13), (0, .ref (G.2.1 0)), (1, .ref (gb G)), (2, .int p2), (3, .ref (G.2.1 102)), (4, .ref (G.2.1 103)), (6, .int p6), (7, .int p7), (8, .int p8)]) O dL_talks_63 (by decide) rfl ?_
        refine go_iload O dL_talks_65 0 rfl ?_
        refine go_iconst (v := (1 : Int32)) O dL_talks_67 (by decide) ?_
        refine go_iadd O dL_talks_68 ?_
        refine go_iload O dL_talks_69 1 rfl ?_
        refine go_iconst (v := (3 : Int32)) O dL_talks_71 (by decide) ?_
        refine go_ishr O dL_talks_72 ?_
        refine go_aload_n O dL_talks_73 rfl 5 rfl ?_
        refine go_iconst (v := (0 : Int32)) O dL_talks_74 (by decide) ?_
        obtain ⟨hb17, hF⟩ := chk_s hF
        refine go_iald (k := 102) O (lt4 hT (by decide : (102 : Nat) < 104)) (cv_l102 G (S.1 102) (S.2 102)) (inB_in hb17) dL_talks_75 ?_
        refine go_iconst (v := (1 : Int32)) O dL_talks_76 (by decide) ?_
        refine go_isub O dL_talks_77 ?_
        obtain ⟨x19, hA18, hF⟩ := bd_s hF
        refine go_callSi (As := [.int (x13 >>> ((3 : Int32) &&& 31)), .int ((S.1 102 (0 : Int32).toNatClampNeg) - (1 : Int32))]) (rest := [.int (x16 + (1 : Int32))]) O (c_L_some l G hI hA18) (fun s args hts => va_cwS 2 hts gL_talks_L_some rfl rfl rfl (by decide +kernel) ⟨Nat.le_of_ble_eq_true rfl, Nat.le_of_ble_eq_true rfl⟩) rfl rfl (Nat.le_of_ble_eq_true rfl) dL_talks_78 ?_
        refine go_iadd O dL_talks_81 ?_
        refine go_aload_n O dL_talks_82 rfl 5 rfl ?_
        refine go_iconst (v := (0 : Int32)) O dL_talks_83 (by decide) ?_
        obtain ⟨hb20, hF⟩ := chk_s hF
        refine go_iald (k := 102) O (lt4 hT (by decide : (102 : Nat) < 104)) (cv_l102 G (S.1 102) (S.2 102)) (inB_in hb20) dL_talks_84 ?_
        obtain ⟨hz21, hF⟩ := chk_s hF
        refine go_irem O dL_talks_85 (nzI_s hz21) ?_
        obtain ⟨x22, ex22, hF⟩ := nm_s hF
        refine go_topi ex22 ?_
        refine go_istore (ls' := [(11, .int x22), (10, .int x16), (9, .int x13), (0, .ref (G.2.1 0)), (1, .ref (gb G)), (2, .int p2), (3, .ref (G.2.1 102)), (4, .ref (G.2.1 103)), (6, .int p6), (7, .int p7), (8, .int p8)]) O dL_talks_86 (by decide) rfl ?_
        refine go_iload O dL_talks_88 2 rfl ?_
        refine go_bipush (v := (6 : Int32)) O dL_talks_90 (by decide) ?_
        refine go_ishr O dL_talks_92 ?_
        refine go_iconst (v := (1 : Int32)) O dL_talks_93 (by decide) ?_
        refine go_aload_n O dL_talks_94 rfl 6 rfl ?_
        refine go_iconst (v := (0 : Int32)) O dL_talks_95 (by decide) ?_
        obtain ⟨hb23, hF⟩ := chk_s hF
        refine go_iald (k := 102) O (lt4 hT (by decide : (102 : Nat) < 104)) (cv_l102 G (S.1 102) (S.2 102)) (inB_in hb23) dL_talks_96 ?_
        refine go_ishl O dL_talks_97 ?_
        obtain ⟨x25, hA24, hF⟩ := bd_s hF
        refine go_callSi (As := [.int (x13 >>> ((6 : Int32) &&& 31)), .int ((1 : Int32) <<< ((S.1 102 (0 : Int32).toNatClampNeg) &&& 31))]) (rest := []) O (c_L_some l G hI hA24) (fun s args hts => va_cwS 2 hts gL_talks_L_some rfl rfl rfl (by decide +kernel) ⟨Nat.le_of_ble_eq_true rfl, Nat.le_of_ble_eq_true rfl⟩) rfl rfl (Nat.le_of_ble_eq_true rfl) dL_talks_98 ?_
        refine go_iload O dL_talks_101 2 rfl ?_
        refine go_bipush (v := (13 : Int32)) O dL_talks_103 (by decide) ?_
        refine go_ishr O dL_talks_105 ?_
        refine go_iconst (v := (1 : Int32)) O dL_talks_106 (by decide) ?_
        refine go_aload_n O dL_talks_107 rfl 6 rfl ?_
        refine go_iconst (v := (0 : Int32)) O dL_talks_108 (by decide) ?_
        obtain ⟨hb26, hF⟩ := chk_s hF
        refine go_iald (k := 102) O (lt4 hT (by decide : (102 : Nat) < 104)) (cv_l102 G (S.1 102) (S.2 102)) (inB_in hb26) dL_talks_109 ?_
        refine go_ishl O dL_talks_110 ?_
        obtain ⟨x28, hA27, hF⟩ := bd_s hF
        refine go_callSi (As := [.int (x13 >>> ((13 : Int32) &&& 31)), .int ((1 : Int32) <<< ((S.1 102 (0 : Int32).toNatClampNeg) &&& 31))]) (rest := [.int x25]) O (c_L_some l G hI hA27) (fun s args hts => va_cwS 2 hts gL_talks_L_some rfl rfl rfl (by decide +kernel) ⟨Nat.le_of_ble_eq_true rfl, Nat.le_of_ble_eq_true rfl⟩) rfl rfl (Nat.le_of_ble_eq_true rfl) dL_talks_111 ?_
        refine go_iand O dL_talks_114 ?_
        refine go_iconst (v := (1 : Int32)) O dL_talks_115 (by decide) ?_
        refine go_iload O dL_talks_116 1 rfl ?_
        refine go_ishl O dL_talks_118 ?_
        refine go_iconst (v := (-1 : Int32)) O dL_talks_119 (by decide) ?_
        refine go_ixor O dL_talks_120 ?_
        refine go_iand O dL_talks_121 ?_
        refine go_iconst (v := (1 : Int32)) O dL_talks_122 (by decide) ?_
        refine go_iload O dL_talks_123 0 rfl ?_
        refine go_ishl O dL_talks_125 ?_
        refine go_iconst (v := (-1 : Int32)) O dL_talks_126 (by decide) ?_
        refine go_ixor O dL_talks_127 ?_
        refine go_iand O dL_talks_128 ?_
        obtain ⟨x29, ex29, hF⟩ := nm_s hF
        refine go_topi ex29 ?_
        refine go_istore (ls' := [(12, .int x29), (11, .int x22), (10, .int x16), (9, .int x13), (0, .ref (G.2.1 0)), (1, .ref (gb G)), (2, .int p2), (3, .ref (G.2.1 102)), (4, .ref (G.2.1 103)), (6, .int p6), (7, .int p7), (8, .int p8)]) O dL_talks_129 (by decide) rfl ?_
        refine go_aload O dL_talks_131 8 rfl ?_
        refine go_iconst (v := (3 : Int32)) O dL_talks_133 (by decide) ?_
        refine go_iload O dL_talks_134 11 rfl ?_
        refine go_imul O dL_talks_136 ?_
        refine go_iload O dL_talks_137 2 rfl ?_
        obtain ⟨hb30, hF⟩ := chk_s hF
        obtain ⟨S31, eS31, hF⟩ := nm_s hF
        refine go_iast (k := 103) O (lt4 hT (by decide : (103 : Nat) < 104)) (fun f => (cv_l103 G f (S.2 103))) (inB_in hb30) dL_talks_139 eS31 ?_
        refine go_aload O dL_talks_140 8 rfl ?_
        refine go_iconst (v := (3 : Int32)) O dL_talks_142 (by decide) ?_
        refine go_iload O dL_talks_143 11 rfl ?_
        refine go_imul O dL_talks_145 ?_
        refine go_iconst (v := (1 : Int32)) O dL_talks_146 (by decide) ?_
        refine go_iadd O dL_talks_147 ?_
        refine go_iload O dL_talks_148 1 rfl ?_
        obtain ⟨hb32, hF⟩ := chk_s hF
        obtain ⟨S33, eS33, hF⟩ := nm_s hF
        refine go_iast (k := 103) O (lt4 hT (by decide : (103 : Nat) < 104)) (fun f => (cv_l103 G f (S31.2 103))) (inB_in hb32) dL_talks_150 eS33 ?_
        refine go_aload O dL_talks_151 8 rfl ?_
        refine go_iconst (v := (3 : Int32)) O dL_talks_153 (by decide) ?_
        refine go_iload O dL_talks_154 11 rfl ?_
        refine go_imul O dL_talks_156 ?_
        refine go_iconst (v := (2 : Int32)) O dL_talks_157 (by decide) ?_
        refine go_iadd O dL_talks_158 ?_
        refine go_iload O dL_talks_159 0 rfl ?_
        obtain ⟨hb34, hF⟩ := chk_s hF
        obtain ⟨S35, eS35, hF⟩ := nm_s hF
        refine go_iast (k := 103) O (lt4 hT (by decide : (103 : Nat) < 104)) (fun f => (cv_l103 G f (S33.2 103))) (inB_in hb34) dL_talks_161 eS35 ?_
        refine go_aload_n O dL_talks_162 rfl 4 rfl ?_
        refine go_iload O dL_talks_163 2 rfl ?_
        refine go_iload O dL_talks_165 1 rfl ?_
        refine go_iload O dL_talks_167 0 rfl ?_
        obtain ⟨⟨x37, S38⟩, hA36, hF⟩ := bd_s hF
        refine go_callVi (As := [.int x16, .int x22, .int x29]) (rest := []) (b := 0) O (c_X8_talk l G hI hA36) (fun s args hts => cwV 3 hts gL_talks_X8_talk rfl rfl rfl (by decide +kernel) ⟨Nat.le_of_ble_eq_true rfl, Nat.le_of_ble_eq_true rfl⟩) (lt9 hI (by decide : (0 : Nat) < 99)) (cv_pw G (S35.1 0) (S35.2 0)) rfl rfl rfl rfl (Nat.le_of_ble_eq_true rfl) dL_talks_169 ?_
        refine go_iload O dL_talks_172 11 rfl ?_
        obtain ⟨x39, hA41, hF⟩ := bd_s hF
        have J40 : Go X l rm_L_talks (wC G) 13 182 [(0, .ref (G.2.1 0)), (1, .ref (gb G)), (2, .int p2), (3, .ref (G.2.1 102)), (4, .ref (G.2.1 103)), (6, .int p6), (8, .int p8)] [.int x39] S38 := by
          refine go_istore (ls' := [(7, .int x39), (0, .ref (G.2.1 0)), (1, .ref (gb G)), (2, .int p2), (3, .ref (G.2.1 102)), (4, .ref (G.2.1 103)), (6, .int p6), (8, .int p8)]) O dL_talks_182 (by decide) rfl ?_
          refine go_iinc (d := (1 : Int32)) (ls' := [(8, .int (p8 + (1 : Int32))), (7, .int x39), (0, .ref (G.2.1 0)), (1, .ref (gb G)), (2, .int p2), (3, .ref (G.2.1 102)), (4, .ref (G.2.1 103)), (6, .int p6)]) O dL_talks_184 7 rfl (by decide) (by decide) rfl ?_
          refine go_goto (tgt := 31) O dL_talks_187 (by decide) ?_
          refine go_perm (ls' := [(0, .ref (G.2.1 0)), (1, .ref (gb G)), (2, .int p2), (3, .ref (G.2.1 102)), (4, .ref (G.2.1 103)), (6, .int p6), (7, .int x39), (8, .int (p8 + (1 : Int32)))]) [2, 3, 4, 5, 6, 7, 1, 0] rfl ?_
          exact ih _ _ _ _ hF hE
        replace hF := hA41
        refine go_icmp_ne (tgt := 181) O dL_talks_174 (by decide) (fun hc42 => ?_) (fun hc42 => ?_)
        · replace hF := it_f hc42 hF
          refine go_iconst (v := (0 : Int32)) O dL_talks_181 (by decide) ?_
          refine go_perm (ls' := [(0, .ref (G.2.1 0)), (1, .ref (gb G)), (2, .int p2), (3, .ref (G.2.1 102)), (4, .ref (G.2.1 103)), (6, .int p6), (8, .int p8)]) [4, 5, 6, 7, 8, 9, 11] rfl ?_
          exact jn (P := fun q => Go X l rm_L_talks (wC G) 13 182 [(0, .ref (G.2.1 0)), (1, .ref (gb G)), (2, .int p2), (3, .ref (G.2.1 102)), (4, .ref (G.2.1 103)), (6, .int p6), (8, .int p8)] [.int q] S38) hF J40
        · replace hF := it_t hc42 hF
          refine go_iconst (v := (1 : Int32)) O dL_talks_177 (by decide) ?_
          refine go_goto (tgt := 182) O dL_talks_178 (by decide) ?_
          refine go_perm (ls' := [(0, .ref (G.2.1 0)), (1, .ref (gb G)), (2, .int p2), (3, .ref (G.2.1 102)), (4, .ref (G.2.1 103)), (6, .int p6), (8, .int p8)]) [4, 5, 6, 7, 8, 9, 11] rfl ?_
          exact jn (P := fun q => Go X l rm_L_talks (wC G) 13 182 [(0, .ref (G.2.1 0)), (1, .ref (gb G)), (2, .int p2), (3, .ref (G.2.1 102)), (4, .ref (G.2.1 103)), (6, .int p6), (8, .int p8)] [.int q] S38) hF J40
def F_L_talks (Ln : Nat) (xs : Nat → Int32) (S : Sg) (a2 : Int32) (a5 : Int32) : Option (Int32 × Sg) := chk (inB (0 : Int32) 4) (bd (if (2 : Int32) ≤ (S.1 102 (0 : Int32).toNatClampNeg) then (bd (F_L_cell Ln xs S a2) (fun x6 => bd (F_L_some S x6 (a5 + (1 : Int32))) (fun x8 => some x8))) else (some (0 : Int32))) (fun x2 => bd (T_L_talks_31 Ln xs a2 x2 FU (1 : Int32) (0 : Int32) S) (fun (x10, S11) => chk (inB (2 : Int32) 4) (nm (wI S11 102 (2 : Int32).toNatClampNeg x2) (fun S47 => chk (zB x10) (some (x10, S47)))))))
set_option maxHeartbeats 4000000 in
set_option maxRecDepth 100000 in
theorem c_L_talks (l : Launch) (G : Gp) (hI : Gd G) {Ln : Nat} {xs : Nat → Int32} (hL : gL G = Ln) (hxs : gx G = xs) (hT : 104 ≤ nn G) {S : Sg} {a2 : Int32} {a5 : Int32} {r : Int32} {S1 : Sg} (hF : F_L_talks Ln xs S a2 a5 = some (r, S1)) : Met l yL_talks wsL_talks rm_L_talks (va_Pc [.ref (G.2.1 0), .ref (gb G), .int a2, .ref (G.2.1 102), .ref (G.2.1 103), .int a5] (PreW (wC G) S)) (va_Qi (fun r' u => r' = r ∧ u = S1) (PostW (wC G)) (AW (wC G))) 0 0 (AW (wC G)) := by
  rw [F_L_talks] at hF
  refine met_z (cc := cL_talks) (maxL := 13) (own := RL) hI.1 (by decide) rfl rfl (Nat.le_of_ble_eq_true rfl) (fun X O hR => ?_)
  show Go X l rm_L_talks (wC G) 13 0 [(0, .ref (G.2.1 0)), (1, .ref (gb G)), (2, .int a2), (3, .ref (G.2.1 102)), (4, .ref (G.2.1 103)), (5, .int a5)] [] S
  refine go_aload_n O dL_talks_0 rfl 3 rfl ?_
  refine go_iconst (v := (0 : Int32)) O dL_talks_1 (by decide) ?_
  obtain ⟨hb1, hF⟩ := chk_s hF
  refine go_iald (k := 102) O (lt4 hT (by decide : (102 : Nat) < 104)) (cv_l102 G (S.1 102) (S.2 102)) (inB_in hb1) dL_talks_2 ?_
  refine go_iconst (v := (2 : Int32)) O dL_talks_3 (by decide) ?_
  obtain ⟨x2, hA4, hF⟩ := bd_s hF
  have J3 : Go X l rm_L_talks (wC G) 13 23 [(0, .ref (G.2.1 0)), (1, .ref (gb G)), (2, .int a2), (3, .ref (G.2.1 102)), (4, .ref (G.2.1 103))] [.int x2] S := by
    refine go_istore (ls' := [(6, .int x2), (0, .ref (G.2.1 0)), (1, .ref (gb G)), (2, .int a2), (3, .ref (G.2.1 102)), (4, .ref (G.2.1 103))]) O dL_talks_23 (by decide) rfl ?_
    refine go_iconst (v := (1 : Int32)) O dL_talks_25 (by decide) ?_
    refine go_istore (ls' := [(7, .int (1 : Int32)), (6, .int x2), (0, .ref (G.2.1 0)), (1, .ref (gb G)), (2, .int a2), (3, .ref (G.2.1 102)), (4, .ref (G.2.1 103))]) O dL_talks_26 (by decide) rfl ?_
    refine go_iconst (v := (0 : Int32)) O dL_talks_28 (by decide) ?_
    refine go_istore (ls' := [(8, .int (0 : Int32)), (7, .int (1 : Int32)), (6, .int x2), (0, .ref (G.2.1 0)), (1, .ref (gb G)), (2, .int a2), (3, .ref (G.2.1 102)), (4, .ref (G.2.1 103))]) O dL_talks_29 (by decide) rfl ?_
    refine go_perm (ls' := [(0, .ref (G.2.1 0)), (1, .ref (gb G)), (2, .int a2), (3, .ref (G.2.1 102)), (4, .ref (G.2.1 103)), (6, .int x2), (7, .int (1 : Int32)), (8, .int (0 : Int32))]) [3, 4, 5, 6, 7, 2, 1, 0] rfl ?_
    obtain ⟨⟨x10, S11⟩, hA45, hF⟩ := bd_s hF
    refine lt_L_talks_31 l G hI hL hxs hT O _ _ _ _ _ hA45 ?_
    refine go_aload_n O dL_talks_190 rfl 0 rfl ?_
    refine go_iconst (v := (2 : Int32)) O dL_talks_191 (by decide) ?_
    refine go_iload O dL_talks_192 1 rfl ?_
    obtain ⟨hb46, hF⟩ := chk_s hF
    obtain ⟨S47, eS47, hF⟩ := nm_s hF
    refine go_iast (k := 102) O (lt4 hT (by decide : (102 : Nat) < 104)) (fun f => (cv_l102 G f (S11.2 102))) (inB_in hb46) dL_talks_194 eS47 ?_
    refine go_iload O dL_talks_195 2 rfl ?_
    obtain ⟨hz48, hF⟩ := chk_s hF
    exact ret_wz hF (fun hz => hR _ _ hz dL_talks_197) (zB_s hz48)
  replace hF := hA4
  refine go_icmp_ge (tgt := 11) O dL_talks_4 (by decide) (fun hc9 => ?_) (fun hc9 => ?_)
  · replace hF := it_t hc9 hF
    refine go_aload_n O dL_talks_11 rfl 1 rfl ?_
    refine go_iload_n O dL_talks_12 rfl 2 rfl ?_
    obtain ⟨x6, hA5, hF⟩ := bd_s hF
    refine go_callSi (As := [.ref (gb G), .int a2]) (rest := []) O (c_L_cell l G hI hL hxs hA5) (fun s args hts => va_cwS 2 hts gL_talks_L_cell rfl rfl rfl (by decide +kernel) ⟨Nat.le_of_ble_eq_true rfl, Nat.le_of_ble_eq_true rfl⟩) rfl rfl (Nat.le_of_ble_eq_true rfl) dL_talks_13 ?_
    refine go_iload O dL_talks_16 5 rfl ?_
    refine go_iconst (v := (1 : Int32)) O dL_talks_18 (by decide) ?_
    refine go_iadd O dL_talks_19 ?_
    obtain ⟨x8, hA7, hF⟩ := bd_s hF
    refine go_callSi (As := [.int x6, .int (a5 + (1 : Int32))]) (rest := []) O (c_L_some l G hI hA7) (fun s args hts => va_cwS 2 hts gL_talks_L_some rfl rfl rfl (by decide +kernel) ⟨Nat.le_of_ble_eq_true rfl, Nat.le_of_ble_eq_true rfl⟩) rfl rfl (Nat.le_of_ble_eq_true rfl) dL_talks_20 ?_
    refine go_perm (ls' := [(0, .ref (G.2.1 0)), (1, .ref (gb G)), (2, .int a2), (3, .ref (G.2.1 102)), (4, .ref (G.2.1 103))]) [0, 1, 2, 3, 4] rfl ?_
    exact jn (P := fun q => Go X l rm_L_talks (wC G) 13 23 [(0, .ref (G.2.1 0)), (1, .ref (gb G)), (2, .int a2), (3, .ref (G.2.1 102)), (4, .ref (G.2.1 103))] [.int q] S) hF J3
  · replace hF := it_f hc9 hF
    refine go_iconst (v := (0 : Int32)) O dL_talks_7 (by decide) ?_
    refine go_goto (tgt := 23) O dL_talks_8 (by decide) ?_
    refine go_perm (ls' := [(0, .ref (G.2.1 0)), (1, .ref (gb G)), (2, .int a2), (3, .ref (G.2.1 102)), (4, .ref (G.2.1 103))]) [0, 1, 2, 3, 4] rfl ?_
    exact jn (P := fun q => Go X l rm_L_talks (wC G) 13 23 [(0, .ref (G.2.1 0)), (1, .ref (gb G)), (2, .int a2), (3, .ref (G.2.1 102)), (4, .ref (G.2.1 103))] [.int q] S) hF J3
-- L_build
def rm_L_build : Room := { frames := 6, cells := 1, slots := 40, locals := 144 }
theorem wd_L_build_ai : Cond.arrayClass .int ∈ wsL_build := by decide +kernel
def T_L_build_86 (Ln : Nat) (xs : Nat → Int32)  (p2 : Int32) (p9 : Int32) (p10 : Int32) (p12 : Int32) : Nat → Int32 → Sg → Option (Sg)
  | 0, _, _ => none
  | n + 1, p13, S => if (6 : Int32) ≤ p13 then (some S) else (chk (inB p13 6) (nm (wI S 101 p13.toNatClampNeg (0 : Int32)) (fun S23 => T_L_build_86 Ln xs p2 p9 p10 p12 n (p13 + (1 : Int32)) S23)))
set_option maxHeartbeats 4000000 in
set_option maxRecDepth 100000 in
theorem lt_L_build_86 {X : XT} (l : Launch) (G : Gp) (hI : Gd G) {Ln : Nat} {xs : Nat → Int32} (hL : gL G = Ln) (hxs : gx G = xs) (hT : 104 ≤ nn G) (hU : 105 ≤ nn G)  {p2 : Int32} {p9 : Int32} {p10 : Int32} {p12 : Int32} (O : Ok X (wC G) cL_build RL wsL_build 15) : ∀ (n : Nat) (p13 : Int32) (S : Sg) (q : (Sg)), T_L_build_86 Ln xs p2 p9 p10 p12 n p13 S = some q → (Go X l rm_L_build (wC G) 15 105 [(0, .ref (G.2.1 0)), (1, .ref (gb G)), (2, .int p2), (3, .ref (G.2.1 99)), (4, .ref (G.2.1 100)), (5, .ref (G.2.1 101)), (6, .ref (G.2.1 102)), (9, .int p9), (10, .int p10), (11, .ref (G.2.1 104)), (12, .int p12)] [] q) → Go X l rm_L_build (wC G) 15 86 [(0, .ref (G.2.1 0)), (1, .ref (gb G)), (2, .int p2), (3, .ref (G.2.1 99)), (4, .ref (G.2.1 100)), (5, .ref (G.2.1 101)), (6, .ref (G.2.1 102)), (9, .int p9), (10, .int p10), (11, .ref (G.2.1 104)), (12, .int p12), (13, .int p13)] [] S := by
  intro n
  induction n with
  | zero =>
    intro p13 S q hF
    cases hF
  | succ n ih =>
    intro p13 S q hF hE
    rw [T_L_build_86] at hF
    refine go_iload O dL_build_86 11 rfl ?_
    refine go_bipush (v := (6 : Int32)) O dL_build_88 (by decide) ?_
    refine go_icmp_ge (tgt := 105) O dL_build_90 (by decide) (fun hc24 => ?_) (fun hc24 => ?_)
    · replace hF := it_t hc24 hF
      refine go_perm (ls' := [(0, .ref (G.2.1 0)), (1, .ref (gb G)), (2, .int p2), (3, .ref (G.2.1 99)), (4, .ref (G.2.1 100)), (5, .ref (G.2.1 101)), (6, .ref (G.2.1 102)), (9, .int p9), (10, .int p10), (11, .ref (G.2.1 104)), (12, .int p12)]) [0, 1, 2, 3, 4, 5, 6, 7, 8, 9, 10] rfl ?_
      exact jn (P := fun q => Go X l rm_L_build (wC G) 15 105 [(0, .ref (G.2.1 0)), (1, .ref (gb G)), (2, .int p2), (3, .ref (G.2.1 99)), (4, .ref (G.2.1 100)), (5, .ref (G.2.1 101)), (6, .ref (G.2.1 102)), (9, .int p9), (10, .int p10), (11, .ref (G.2.1 104)), (12, .int p12)] [] q) hF hE
    · replace hF := it_f hc24 hF
      refine go_aload O dL_build_93 5 rfl ?_
      refine go_iload O dL_build_95 11 rfl ?_
      refine go_iconst (v := (0 : Int32)) O dL_build_97 (by decide) ?_
      obtain ⟨hb22, hF⟩ := chk_s hF
      obtain ⟨S23, eS23, hF⟩ := nm_s hF
      refine go_iast (k := 101) O (lt4 hT (by decide : (101 : Nat) < 104)) (fun f => (cv_l101 G f (S.2 101))) (inB_in hb22) dL_build_98 eS23 ?_
      refine go_iinc (d := (1 : Int32)) (ls' := [(13, .int (p13 + (1 : Int32))), (0, .ref (G.2.1 0)), (1, .ref (gb G)), (2, .int p2), (3, .ref (G.2.1 99)), (4, .ref (G.2.1 100)), (5, .ref (G.2.1 101)), (6, .ref (G.2.1 102)), (9, .int p9), (10, .int p10), (11, .ref (G.2.1 104)), (12, .int p12)]) O dL_build_99 11 rfl (by decide) (by decide) rfl ?_
      refine go_goto (tgt := 86) O dL_build_102 (by decide) ?_
      refine go_perm (ls' := [(0, .ref (G.2.1 0)), (1, .ref (gb G)), (2, .int p2), (3, .ref (G.2.1 99)), (4, .ref (G.2.1 100)), (5, .ref (G.2.1 101)), (6, .ref (G.2.1 102)), (9, .int p9), (10, .int p10), (11, .ref (G.2.1 104)), (12, .int p12), (13, .int (p13 + (1 : Int32)))]) [1, 2, 3, 4, 5, 6, 7, 8, 9, 10, 11, 0] rfl ?_
      exact ih _ _ _ hF hE
def T_L_build_108 (Ln : Nat) (xs : Nat → Int32)  (p2 : Int32) (p9 : Int32) (p10 : Int32) : Nat → Int32 → Int32 → Sg → Option (Int32 × Sg)
  | 0, _, _, _ => none
  | n + 1, p12, p13, S => chk (inB (1 : Int32) 4) (if (S.1 102 (1 : Int32).toNatClampNeg) ≤ p13 then (some (p12, S)) else (bd (F_L_some S (p9 >>> (((8 : Int32) + ((3 : Int32) * p13)) &&& 31)) p10) (fun x30 => chk (inB p13 6) (nm (wI S 101 p13.toNatClampNeg x30) (fun S32 => chk (inB p13 6) (chk (inB p12 40) (nm (wI S32 104 p12.toNatClampNeg ((48 : Int32) + (S32.1 101 p13.toNatClampNeg))) (fun S35 => nm (p12 + (1 : Int32)) (fun x36 => T_L_build_108 Ln xs p2 p9 p10 n x36 (p13 + (1 : Int32)) S35)))))))))
set_option maxHeartbeats 4000000 in
set_option maxRecDepth 100000 in
theorem lt_L_build_108 {X : XT} (l : Launch) (G : Gp) (hI : Gd G) {Ln : Nat} {xs : Nat → Int32} (hL : gL G = Ln) (hxs : gx G = xs) (hT : 104 ≤ nn G) (hU : 105 ≤ nn G)  {p2 : Int32} {p9 : Int32} {p10 : Int32} (O : Ok X (wC G) cL_build RL wsL_build 15) : ∀ (n : Nat) (p12 : Int32) (p13 : Int32) (S : Sg) (q : (Int32 × Sg)), T_L_build_108 Ln xs p2 p9 p10 n p12 p13 S = some q → (Go X l rm_L_build (wC G) 15 162 [(0, .ref (G.2.1 0)), (1, .ref (gb G)), (2, .int p2), (3, .ref (G.2.1 99)), (4, .ref (G.2.1 100)), (6, .ref (G.2.1 102)), (11, .ref (G.2.1 104)), (12, .int q.1)] [] q.2) → Go X l rm_L_build (wC G) 15 108 [(0, .ref (G.2.1 0)), (1, .ref (gb G)), (2, .int p2), (3, .ref (G.2.1 99)), (4, .ref (G.2.1 100)), (5, .ref (G.2.1 101)), (6, .ref (G.2.1 102)), (9, .int p9), (10, .int p10), (11, .ref (G.2.1 104)), (12, .int p12), (13, .int p13)] [] S := by
  intro n
  induction n with
  | zero =>
    intro p12 p13 S q hF
    cases hF
  | succ n ih =>
    intro p12 p13 S q hF hE
    rw [T_L_build_108] at hF
    refine go_iload O dL_build_108 11 rfl ?_
    refine go_aload O dL_build_110 6 rfl ?_
    refine go_iconst (v := (1 : Int32)) O dL_build_112 (by decide) ?_
    obtain ⟨hb28, hF⟩ := chk_s hF
    refine go_iald (k := 102) O (lt4 hT (by decide : (102 : Nat) < 104)) (cv_l102 G (S.1 102) (S.2 102)) (inB_in hb28) dL_build_113 ?_
    refine go_icmp_ge (tgt := 162) O dL_build_114 (by decide) (fun hc37 => ?_) (fun hc37 => ?_)
    · replace hF := it_t hc37 hF
      refine go_perm (ls' := [(0, .ref (G.2.1 0)), (1, .ref (gb G)), (2, .int p2), (3, .ref (G.2.1 99)), (4, .ref (G.2.1 100)), (6, .ref (G.2.1 102)), (11, .ref (G.2.1 104)), (12, .int p12)]) [0, 1, 2, 3, 4, 6, 9, 10] rfl ?_
      exact jn (P := fun q => Go X l rm_L_build (wC G) 15 162 [(0, .ref (G.2.1 0)), (1, .ref (gb G)), (2, .int p2), (3, .ref (G.2.1 99)), (4, .ref (G.2.1 100)), (6, .ref (G.2.1 102)), (11, .ref (G.2.1 104)), (12, .int q.1)] [] q.2) hF hE
    · replace hF := it_f hc37 hF
      refine go_aload O dL_build_117 5 rfl ?_
      refine go_iload O dL_build_119 11 rfl ?_
      refine go_iload O dL_build_121 7 rfl ?_
      refine go_bipush (v := (8 : Int32)) O dL_build_123 (by decide) ?_
      refine go_iconst (v := (3 : Int32)) O dL_build_125 (by decide) ?_
      refine go_iload O dL_build_126 11 rfl ?_
      refine go_imul O dL_build_128 ?_
      refine go_iadd O dL_build_129 ?_
      refine go_ishr O dL_build_130 ?_
      refine go_iload O dL_build_131 8 rfl ?_
      obtain ⟨x30, hA29, hF⟩ := bd_s hF
      refine go_callSi (As := [.int (p9 >>> (((8 : Int32) + ((3 : Int32) * p13)) &&& 31)), .int p10]) (rest := [.int p13, .ref (G.2.1 101)]) O (c_L_some l G hI hA29) (fun s args hts => va_cwS 2 hts gL_build_L_some rfl rfl rfl (by decide +kernel) ⟨Nat.le_of_ble_eq_true rfl, Nat.le_of_ble_eq_true rfl⟩) rfl rfl (Nat.le_of_ble_eq_true rfl) dL_build_133 ?_
      obtain ⟨hb31, hF⟩ := chk_s hF
      obtain ⟨S32, eS32, hF⟩ := nm_s hF
      refine go_iast (k := 101) O (lt4 hT (by decide : (101 : Nat) < 104)) (fun f => (cv_l101 G f (S.2 101))) (inB_in hb31) dL_build_136 eS32 ?_
      refine go_aload O dL_build_137 9 rfl ?_
      refine go_iload O dL_build_139 10 rfl ?_
      refine go_bipush (v := (48 : Int32)) O dL_build_141 (by decide) ?_
      refine go_aload O dL_build_143 5 rfl ?_
      refine go_iload O dL_build_145 11 rfl ?_
      obtain ⟨hb33, hF⟩ := chk_s hF
      refine go_iald (k := 101) O (lt4 hT (by decide : (101 : Nat) < 104)) (cv_l101 G (S32.1 101) (S32.2 101)) (inB_in hb33) dL_build_147 ?_
      refine go_iadd O dL_build_148 ?_
      obtain ⟨hb34, hF⟩ := chk_s hF
      obtain ⟨S35, eS35, hF⟩ := nm_s hF
      refine go_iast (k := 104) O (lt5 hU (by decide : (104 : Nat) < 105)) (fun f => (cv_l104 G f (S32.2 104))) (inB_in hb34) dL_build_149 eS35 ?_
      refine go_iload O dL_build_150 10 rfl ?_
      refine go_iconst (v := (1 : Int32)) O dL_build_152 (by decide) ?_
      refine go_iadd O dL_build_153 ?_
      obtain ⟨x36, ex36, hF⟩ := nm_s hF
      refine go_topi ex36 ?_
      refine go_istore (ls' := [(12, .int x36), (0, .ref (G.2.1 0)), (1, .ref (gb G)), (2, .int p2), (3, .ref (G.2.1 99)), (4, .ref (G.2.1 100)), (5, .ref (G.2.1 101)), (6, .ref (G.2.1 102)), (9, .int p9), (10, .int p10), (11, .ref (G.2.1 104)), (13, .int p13)]) O dL_build_154 (by decide) rfl ?_
      refine go_iinc (d := (1 : Int32)) (ls' := [(13, .int (p13 + (1 : Int32))), (12, .int x36), (0, .ref (G.2.1 0)), (1, .ref (gb G)), (2, .int p2), (3, .ref (G.2.1 99)), (4, .ref (G.2.1 100)), (5, .ref (G.2.1 101)), (6, .ref (G.2.1 102)), (9, .int p9), (10, .int p10), (11, .ref (G.2.1 104))]) O dL_build_156 11 rfl (by decide) (by decide) rfl ?_
      refine go_goto (tgt := 108) O dL_build_159 (by decide) ?_
      refine go_perm (ls' := [(0, .ref (G.2.1 0)), (1, .ref (gb G)), (2, .int p2), (3, .ref (G.2.1 99)), (4, .ref (G.2.1 100)), (5, .ref (G.2.1 101)), (6, .ref (G.2.1 102)), (9, .int p9), (10, .int p10), (11, .ref (G.2.1 104)), (12, .int x36), (13, .int (p13 + (1 : Int32)))]) [2, 3, 4, 5, 6, 7, 8, 9, 10, 11, 1, 0] rfl ?_
      exact ih _ _ _ _ hF hE
def T_L_build_165 (Ln : Nat) (xs : Nat → Int32)  (p2 : Int32) : Nat → Int32 → Int32 → Sg → Option (Int32 × Sg)
  | 0, _, _, _ => none
  | n + 1, p12, p13, S => chk (inB (0 : Int32) 4) (if (S.1 102 (0 : Int32).toNatClampNeg) ≤ p13 then (some (p12, S)) else (bd (F_L_cell Ln xs S ((p2 + (1 : Int32)) + p13)) (fun x43 => bd (F_L_some S x43 (3 : Int32)) (fun x45 => bd (if x45 = 0 then (some (0 : Int32)) else (bd (F_L_some S (x43 >>> ((2 : Int32) &&& 31)) (6 : Int32)) (fun x50 => some x50))) (fun x46 => chk (inB p13 7) (nm (wI S 99 p13.toNatClampNeg x46) (fun S53 => chk (inB (1 : Int32) 4) (bd (F_L_some S53 (x43 >>> ((5 : Int32) &&& 31)) ((S53.1 102 (1 : Int32).toNatClampNeg) + (1 : Int32))) (fun x56 => chk (inB p13 7) (nm (wI S53 100 p13.toNatClampNeg x56) (fun S58 => bd (F_L_some S58 (x43 >>> ((9 : Int32) &&& 31)) (2 : Int32)) (fun x60 => bd (if x60 = 0 then (chk (inB p12 40) (nm (wI S58 104 p12.toNatClampNeg (32 : Int32)) (fun S66 => nm (p12 + (1 : Int32)) (fun x67 => some (x67, S66))))) else (some (p12, S58))) (fun (x61, S62) => chk (inB p13 7) (bd (F_L_letter S62 (S62.1 99 p13.toNatClampNeg)) (fun x71 => chk (inB x61 40) (nm (wI S62 104 x61.toNatClampNeg x71) (fun S73 => chk (inB p13 7) (chk (inB (x61 + (1 : Int32)) 40) (nm (wI S73 104 (x61 + (1 : Int32)).toNatClampNeg ((48 : Int32) + (S73.1 100 p13.toNatClampNeg))) (fun S76 => nm (x61 + (2 : Int32)) (fun x77 => T_L_build_165 Ln xs p2 n x77 (p13 + (1 : Int32)) S76)))))))))))))))))))))
set_option maxHeartbeats 4000000 in
set_option maxRecDepth 100000 in
theorem lt_L_build_165 {X : XT} (l : Launch) (G : Gp) (hI : Gd G) {Ln : Nat} {xs : Nat → Int32} (hL : gL G = Ln) (hxs : gx G = xs) (hT : 104 ≤ nn G) (hU : 105 ≤ nn G)  {p2 : Int32} (O : Ok X (wC G) cL_build RL wsL_build 15) : ∀ (n : Nat) (p12 : Int32) (p13 : Int32) (S : Sg) (q : (Int32 × Sg)), T_L_build_165 Ln xs p2 n p12 p13 S = some q → (Go X l rm_L_build (wC G) 15 294 [(0, .ref (G.2.1 0)), (6, .ref (G.2.1 102)), (11, .ref (G.2.1 104)), (12, .int q.1)] [] q.2) → Go X l rm_L_build (wC G) 15 165 [(0, .ref (G.2.1 0)), (1, .ref (gb G)), (2, .int p2), (3, .ref (G.2.1 99)), (4, .ref (G.2.1 100)), (6, .ref (G.2.1 102)), (11, .ref (G.2.1 104)), (12, .int p12), (13, .int p13)] [] S := by
  intro n
  induction n with
  | zero =>
    intro p12 p13 S q hF
    cases hF
  | succ n ih =>
    intro p12 p13 S q hF hE
    rw [T_L_build_165] at hF
    refine go_iload O dL_build_165 8 rfl ?_
    refine go_aload O dL_build_167 5 rfl ?_
    refine go_iconst (v := (0 : Int32)) O dL_build_169 (by decide) ?_
    obtain ⟨hb41, hF⟩ := chk_s hF
    refine go_iald (k := 102) O (lt4 hT (by decide : (102 : Nat) < 104)) (cv_l102 G (S.1 102) (S.2 102)) (inB_in hb41) dL_build_170 ?_
    refine go_icmp_ge (tgt := 294) O dL_build_171 (by decide) (fun hc78 => ?_) (fun hc78 => ?_)
    · replace hF := it_t hc78 hF
      refine go_perm (ls' := [(0, .ref (G.2.1 0)), (6, .ref (G.2.1 102)), (11, .ref (G.2.1 104)), (12, .int p12)]) [0, 5, 6, 7] rfl ?_
      exact jn (P := fun q => Go X l rm_L_build (wC G) 15 294 [(0, .ref (G.2.1 0)), (6, .ref (G.2.1 102)), (11, .ref (G.2.1 104)), (12, .int q.1)] [] q.2) hF hE
    · replace hF := it_f hc78 hF
      refine go_aload_n O dL_build_174 rfl 1 rfl ?_
      refine go_iload_n O dL_build_175 rfl 2 rfl ?_
      refine go_iconst (v := (1 : Int32)) O dL_build_176 (by decide) ?_
      refine go_iadd O dL_build_177 ?_
      refine go_iload O dL_build_178 8 rfl ?_
      refine go_iadd O dL_build_180 ?_
      obtain ⟨x43, hA42, hF⟩ := bd_s hF
      refine go_callSi (As := [.ref (gb G), .int ((p2 + (1 : Int32)) + p13)]) (rest := []) O (c_L_cell l G hI hL hxs hA42) (fun s args hts => va_cwS 2 hts gL_build_L_cell rfl rfl rfl (by decide +kernel) ⟨Nat.le_of_ble_eq_true rfl, Nat.le_of_ble_eq_true rfl⟩) rfl rfl (Nat.le_of_ble_eq_true rfl) dL_build_181 ?_
      refine go_istore (ls' := [(14, .int x43), (0, .ref (G.2.1 0)), (1, .ref (gb G)), (2, .int p2), (3, .ref (G.2.1 99)), (4, .ref (G.2.1 100)), (6, .ref (G.2.1 102)), (11, .ref (G.2.1 104)), (12, .int p12), (13, .int p13)]) O dL_build_184 (by decide) rfl ?_
      refine go_aload_n O dL_build_186 rfl 4 rfl ?_
      refine go_iload O dL_build_187 9 rfl ?_
      refine go_iload O dL_build_189 0 rfl ?_
      refine go_iconst (v := (3 : Int32)) O dL_build_191 (by decide) ?_
      obtain ⟨x45, hA44, hF⟩ := bd_s hF
      refine go_callSi (As := [.int x43, .int (3 : Int32)]) (rest := [.int p13, .ref (G.2.1 99)]) O (c_L_some l G hI hA44) (fun s args hts => va_cwS 2 hts gL_build_L_some rfl rfl rfl (by decide +kernel) ⟨Nat.le_of_ble_eq_true rfl, Nat.le_of_ble_eq_true rfl⟩) rfl rfl (Nat.le_of_ble_eq_true rfl) dL_build_192 ?_
      obtain ⟨x46, hA48, hF⟩ := bd_s hF
      have J47 : Go X l rm_L_build (wC G) 15 211 [(0, .ref (G.2.1 0)), (1, .ref (gb G)), (2, .int p2), (3, .ref (G.2.1 99)), (4, .ref (G.2.1 100)), (6, .ref (G.2.1 102)), (11, .ref (G.2.1 104)), (12, .int p12), (13, .int p13), (14, .int x43)] [.int x46, .int p13, .ref (G.2.1 99)] S := by
        obtain ⟨hb52, hF⟩ := chk_s hF
        obtain ⟨S53, eS53, hF⟩ := nm_s hF
        refine go_iast (k := 99) O (lt4 hT (by decide : (99 : Nat) < 104)) (fun f => (cv_l99 G f (S.2 99))) (inB_in hb52) dL_build_211 eS53 ?_
        refine go_aload O dL_build_212 4 rfl ?_
        refine go_iload O dL_build_214 8 rfl ?_
        refine go_iload O dL_build_216 9 rfl ?_
        refine go_iconst (v := (5 : Int32)) O dL_build_218 (by decide) ?_
        refine go_ishr O dL_build_219 ?_
        refine go_aload O dL_build_220 5 rfl ?_
        refine go_iconst (v := (1 : Int32)) O dL_build_222 (by decide) ?_
        obtain ⟨hb54, hF⟩ := chk_s hF
        refine go_iald (k := 102) O (lt4 hT (by decide : (102 : Nat) < 104)) (cv_l102 G (S53.1 102) (S53.2 102)) (inB_in hb54) dL_build_223 ?_
        refine go_iconst (v := (1 : Int32)) O dL_build_224 (by decide) ?_
        refine go_iadd O dL_build_225 ?_
        obtain ⟨x56, hA55, hF⟩ := bd_s hF
        refine go_callSi (As := [.int (x43 >>> ((5 : Int32) &&& 31)), .int ((S53.1 102 (1 : Int32).toNatClampNeg) + (1 : Int32))]) (rest := [.int p13, .ref (G.2.1 100)]) O (c_L_some l G hI hA55) (fun s args hts => va_cwS 2 hts gL_build_L_some rfl rfl rfl (by decide +kernel) ⟨Nat.le_of_ble_eq_true rfl, Nat.le_of_ble_eq_true rfl⟩) rfl rfl (Nat.le_of_ble_eq_true rfl) dL_build_226 ?_
        obtain ⟨hb57, hF⟩ := chk_s hF
        obtain ⟨S58, eS58, hF⟩ := nm_s hF
        refine go_iast (k := 100) O (lt4 hT (by decide : (100 : Nat) < 104)) (fun f => (cv_l100 G f (S53.2 100))) (inB_in hb57) dL_build_229 eS58 ?_
        refine go_iload O dL_build_230 9 rfl ?_
        refine go_bipush (v := (9 : Int32)) O dL_build_232 (by decide) ?_
        refine go_ishr O dL_build_234 ?_
        refine go_iconst (v := (2 : Int32)) O dL_build_235 (by decide) ?_
        obtain ⟨x60, hA59, hF⟩ := bd_s hF
        refine go_callSi (As := [.int (x43 >>> ((9 : Int32) &&& 31)), .int (2 : Int32)]) (rest := []) O (c_L_some l G hI hA59) (fun s args hts => va_cwS 2 hts gL_build_L_some rfl rfl rfl (by decide +kernel) ⟨Nat.le_of_ble_eq_true rfl, Nat.le_of_ble_eq_true rfl⟩) rfl rfl (Nat.le_of_ble_eq_true rfl) dL_build_236 ?_
        obtain ⟨⟨x61, S62⟩, hA64, hF⟩ := bd_s hF
        have J63 : Go X l rm_L_build (wC G) 15 255 [(0, .ref (G.2.1 0)), (1, .ref (gb G)), (2, .int p2), (3, .ref (G.2.1 99)), (4, .ref (G.2.1 100)), (6, .ref (G.2.1 102)), (11, .ref (G.2.1 104)), (12, .int x61), (13, .int p13)] [] S62 := by
          refine go_aload O dL_build_255 6 rfl ?_
          refine go_iload O dL_build_257 7 rfl ?_
          refine go_aload_n O dL_build_259 rfl 3 rfl ?_
          refine go_iload O dL_build_260 8 rfl ?_
          obtain ⟨hb69, hF⟩ := chk_s hF
          refine go_iald (k := 99) O (lt4 hT (by decide : (99 : Nat) < 104)) (cv_l99 G (S62.1 99) (S62.2 99)) (inB_in hb69) dL_build_262 ?_
          obtain ⟨x71, hA70, hF⟩ := bd_s hF
          refine go_callSi (As := [.int (S62.1 99 p13.toNatClampNeg)]) (rest := [.int x61, .ref (G.2.1 104)]) O (c_L_letter l G hI hA70) (fun s args hts => va_cwS 1 hts gL_build_L_letter rfl rfl rfl (by decide +kernel) ⟨Nat.le_of_ble_eq_true rfl, Nat.le_of_ble_eq_true rfl⟩) rfl rfl (Nat.le_of_ble_eq_true rfl) dL_build_263 ?_
          obtain ⟨hb72, hF⟩ := chk_s hF
          obtain ⟨S73, eS73, hF⟩ := nm_s hF
          refine go_iast (k := 104) O (lt5 hU (by decide : (104 : Nat) < 105)) (fun f => (cv_l104 G f (S62.2 104))) (inB_in hb72) dL_build_266 eS73 ?_
          refine go_aload O dL_build_267 6 rfl ?_
          refine go_iload O dL_build_269 7 rfl ?_
          refine go_iconst (v := (1 : Int32)) O dL_build_271 (by decide) ?_
          refine go_iadd O dL_build_272 ?_
          refine go_bipush (v := (48 : Int32)) O dL_build_273 (by decide) ?_
          refine go_aload O dL_build_275 4 rfl ?_
          refine go_iload O dL_build_277 8 rfl ?_
          obtain ⟨hb74, hF⟩ := chk_s hF
          refine go_iald (k := 100) O (lt4 hT (by decide : (100 : Nat) < 104)) (cv_l100 G (S73.1 100) (S73.2 100)) (inB_in hb74) dL_build_279 ?_
          refine go_iadd O dL_build_280 ?_
          obtain ⟨hb75, hF⟩ := chk_s hF
          obtain ⟨S76, eS76, hF⟩ := nm_s hF
          refine go_iast (k := 104) O (lt5 hU (by decide : (104 : Nat) < 105)) (fun f => (cv_l104 G f (S73.2 104))) (inB_in hb75) dL_build_281 eS76 ?_
          refine go_iload O dL_build_282 7 rfl ?_
          refine go_iconst (v := (2 : Int32)) O dL_build_284 (by decide) ?_
          refine go_iadd O dL_build_285 ?_
          obtain ⟨x77, ex77, hF⟩ := nm_s hF
          refine go_topi ex77 ?_
          refine go_istore (ls' := [(12, .int x77), (0, .ref (G.2.1 0)), (1, .ref (gb G)), (2, .int p2), (3, .ref (G.2.1 99)), (4, .ref (G.2.1 100)), (6, .ref (G.2.1 102)), (11, .ref (G.2.1 104)), (13, .int p13)]) O dL_build_286 (by decide) rfl ?_
          refine go_iinc (d := (1 : Int32)) (ls' := [(13, .int (p13 + (1 : Int32))), (12, .int x77), (0, .ref (G.2.1 0)), (1, .ref (gb G)), (2, .int p2), (3, .ref (G.2.1 99)), (4, .ref (G.2.1 100)), (6, .ref (G.2.1 102)), (11, .ref (G.2.1 104))]) O dL_build_288 8 rfl (by decide) (by decide) rfl ?_
          refine go_goto (tgt := 165) O dL_build_291 (by decide) ?_
          refine go_perm (ls' := [(0, .ref (G.2.1 0)), (1, .ref (gb G)), (2, .int p2), (3, .ref (G.2.1 99)), (4, .ref (G.2.1 100)), (6, .ref (G.2.1 102)), (11, .ref (G.2.1 104)), (12, .int x77), (13, .int (p13 + (1 : Int32)))]) [2, 3, 4, 5, 6, 7, 8, 1, 0] rfl ?_
          exact ih _ _ _ _ hF hE
        replace hF := hA64
        refine go_if_ne (tgt := 255) O dL_build_239 (by decide) (fun hc68 => ?_) (fun hc68 => ?_)
        · replace hF := it_f hc68 hF
          refine go_perm (ls' := [(0, .ref (G.2.1 0)), (1, .ref (gb G)), (2, .int p2), (3, .ref (G.2.1 99)), (4, .ref (G.2.1 100)), (6, .ref (G.2.1 102)), (11, .ref (G.2.1 104)), (12, .int p12), (13, .int p13)]) [0, 1, 2, 3, 4, 5, 6, 7, 8] rfl ?_
          exact jn (P := fun q => Go X l rm_L_build (wC G) 15 255 [(0, .ref (G.2.1 0)), (1, .ref (gb G)), (2, .int p2), (3, .ref (G.2.1 99)), (4, .ref (G.2.1 100)), (6, .ref (G.2.1 102)), (11, .ref (G.2.1 104)), (12, .int q.1), (13, .int p13)] [] q.2) hF J63
        · replace hF := it_t hc68 hF
          refine go_aload O dL_build_242 6 rfl ?_
          refine go_iload O dL_build_244 7 rfl ?_
          refine go_bipush (v := (32 : Int32)) O dL_build_246 (by decide) ?_
          obtain ⟨hb65, hF⟩ := chk_s hF
          obtain ⟨S66, eS66, hF⟩ := nm_s hF
          refine go_iast (k := 104) O (lt5 hU (by decide : (104 : Nat) < 105)) (fun f => (cv_l104 G f (S58.2 104))) (inB_in hb65) dL_build_248 eS66 ?_
          refine go_iload O dL_build_249 7 rfl ?_
          refine go_iconst (v := (1 : Int32)) O dL_build_251 (by decide) ?_
          refine go_iadd O dL_build_252 ?_
          obtain ⟨x67, ex67, hF⟩ := nm_s hF
          refine go_topi ex67 ?_
          refine go_istore (ls' := [(12, .int x67), (0, .ref (G.2.1 0)), (1, .ref (gb G)), (2, .int p2), (3, .ref (G.2.1 99)), (4, .ref (G.2.1 100)), (6, .ref (G.2.1 102)), (11, .ref (G.2.1 104)), (13, .int p13), (14, .int x43)]) O dL_build_253 (by decide) rfl ?_
          refine go_perm (ls' := [(0, .ref (G.2.1 0)), (1, .ref (gb G)), (2, .int p2), (3, .ref (G.2.1 99)), (4, .ref (G.2.1 100)), (6, .ref (G.2.1 102)), (11, .ref (G.2.1 104)), (12, .int x67), (13, .int p13)]) [1, 2, 3, 4, 5, 6, 7, 0, 8] rfl ?_
          exact jn (P := fun q => Go X l rm_L_build (wC G) 15 255 [(0, .ref (G.2.1 0)), (1, .ref (gb G)), (2, .int p2), (3, .ref (G.2.1 99)), (4, .ref (G.2.1 100)), (6, .ref (G.2.1 102)), (11, .ref (G.2.1 104)), (12, .int q.1), (13, .int p13)] [] q.2) hF J63
      replace hF := hA48
      refine go_if_ne (tgt := 202) O dL_build_195 (by decide) (fun hc51 => ?_) (fun hc51 => ?_)
      · replace hF := it_f hc51 hF
        refine go_iload O dL_build_202 0 rfl ?_
        refine go_iconst (v := (2 : Int32)) O dL_build_204 (by decide) ?_
        refine go_ishr O dL_build_205 ?_
        refine go_bipush (v := (6 : Int32)) O dL_build_206 (by decide) ?_
        obtain ⟨x50, hA49, hF⟩ := bd_s hF
        refine go_callSi (As := [.int (x43 >>> ((2 : Int32) &&& 31)), .int (6 : Int32)]) (rest := [.int p13, .ref (G.2.1 99)]) O (c_L_some l G hI hA49) (fun s args hts => va_cwS 2 hts gL_build_L_some rfl rfl rfl (by decide +kernel) ⟨Nat.le_of_ble_eq_true rfl, Nat.le_of_ble_eq_true rfl⟩) rfl rfl (Nat.le_of_ble_eq_true rfl) dL_build_208 ?_
        refine go_perm (ls' := [(0, .ref (G.2.1 0)), (1, .ref (gb G)), (2, .int p2), (3, .ref (G.2.1 99)), (4, .ref (G.2.1 100)), (6, .ref (G.2.1 102)), (11, .ref (G.2.1 104)), (12, .int p12), (13, .int p13), (14, .int x43)]) [1, 2, 3, 4, 5, 6, 7, 8, 9, 0] rfl ?_
        exact jn (P := fun q => Go X l rm_L_build (wC G) 15 211 [(0, .ref (G.2.1 0)), (1, .ref (gb G)), (2, .int p2), (3, .ref (G.2.1 99)), (4, .ref (G.2.1 100)), (6, .ref (G.2.1 102)), (11, .ref (G.2.1 104)), (12, .int p12), (13, .int p13), (14, .int x43)] [.int q, .int p13, .ref (G.2.1 99)] S) hF J47
      · replace hF := it_t hc51 hF
        refine go_iconst (v := (0 : Int32)) O dL_build_198 (by decide) ?_
        refine go_goto (tgt := 211) O dL_build_199 (by decide) ?_
        refine go_perm (ls' := [(0, .ref (G.2.1 0)), (1, .ref (gb G)), (2, .int p2), (3, .ref (G.2.1 99)), (4, .ref (G.2.1 100)), (6, .ref (G.2.1 102)), (11, .ref (G.2.1 104)), (12, .int p12), (13, .int p13), (14, .int x43)]) [1, 2, 3, 4, 5, 6, 7, 8, 9, 0] rfl ?_
        exact jn (P := fun q => Go X l rm_L_build (wC G) 15 211 [(0, .ref (G.2.1 0)), (1, .ref (gb G)), (2, .int p2), (3, .ref (G.2.1 99)), (4, .ref (G.2.1 100)), (6, .ref (G.2.1 102)), (11, .ref (G.2.1 104)), (12, .int p12), (13, .int p13), (14, .int x43)] [.int q, .int p13, .ref (G.2.1 99)] S) hF J47
def T_L_build_316 (Ln : Nat) (xs : Nat → Int32)  (p12 : Int32) : Nat → Int32 → Int32 → Sg → Option (Int32 × Sg)
  | 0, _, _, _ => none
  | n + 1, p13, p14, S => if p12 ≤ p14 then (some (p13, S)) else (if p13 = 0 then (some (p13, S)) else (chk (inB p14 40) (bd (F_X8_put S (0 : Int32) p14 (S.1 104 p14.toNatClampNeg)) (fun (x91, S92) => bd (if x91 = (1032 : Int32) then (some (1 : Int32)) else (some (0 : Int32))) (fun x93 => T_L_build_316 Ln xs p12 n x93 (p14 + (1 : Int32)) S92)))))
set_option maxHeartbeats 4000000 in
set_option maxRecDepth 100000 in
theorem lt_L_build_316 {X : XT} (l : Launch) (G : Gp) (hI : Gd G) {Ln : Nat} {xs : Nat → Int32} (hL : gL G = Ln) (hxs : gx G = xs) (hT : 104 ≤ nn G) (hU : 105 ≤ nn G)  {p12 : Int32} (O : Ok X (wC G) cL_build RL wsL_build 15) : ∀ (n : Nat) (p13 : Int32) (p14 : Int32) (S : Sg) (q : (Int32 × Sg)), T_L_build_316 Ln xs p12 n p13 p14 S = some q → (Go X l rm_L_build (wC G) 15 359 [(0, .ref (G.2.1 0)), (6, .ref (G.2.1 102)), (13, .int q.1)] [] q.2) → Go X l rm_L_build (wC G) 15 316 [(0, .ref (G.2.1 0)), (6, .ref (G.2.1 102)), (11, .ref (G.2.1 104)), (12, .int p12), (13, .int p13), (14, .int p14)] [] S := by
  intro n
  induction n with
  | zero =>
    intro p13 p14 S q hF
    cases hF
  | succ n ih =>
    intro p13 p14 S q hF hE
    rw [T_L_build_316] at hF
    refine go_iload O dL_build_316 5 rfl ?_
    refine go_iload O dL_build_318 3 rfl ?_
    refine go_icmp_ge (tgt := 359) O dL_build_320 (by decide) (fun hc98 => ?_) (fun hc98 => ?_)
    · replace hF := it_t hc98 hF
      refine go_perm (ls' := [(0, .ref (G.2.1 0)), (6, .ref (G.2.1 102)), (13, .int p13)]) [0, 1, 4] rfl ?_
      exact jn (P := fun q => Go X l rm_L_build (wC G) 15 359 [(0, .ref (G.2.1 0)), (6, .ref (G.2.1 102)), (13, .int q.1)] [] q.2) hF hE
    · replace hF := it_f hc98 hF
      refine go_iload O dL_build_323 4 rfl ?_
      refine go_if_eq (tgt := 359) O dL_build_325 (by decide) (fun hc97 => ?_) (fun hc97 => ?_)
      · replace hF := it_t hc97 hF
        refine go_perm (ls' := [(0, .ref (G.2.1 0)), (6, .ref (G.2.1 102)), (13, .int p13)]) [0, 1, 4] rfl ?_
        exact jn (P := fun q => Go X l rm_L_build (wC G) 15 359 [(0, .ref (G.2.1 0)), (6, .ref (G.2.1 102)), (13, .int q.1)] [] q.2) hF hE
      · replace hF := it_f hc97 hF
        refine go_aload_n O dL_build_328 rfl 0 rfl ?_
        refine go_iconst (v := (0 : Int32)) O dL_build_329 (by decide) ?_
        refine go_iload O dL_build_330 5 rfl ?_
        refine go_aload O dL_build_332 2 rfl ?_
        refine go_iload O dL_build_334 5 rfl ?_
        obtain ⟨hb89, hF⟩ := chk_s hF
        refine go_iald (k := 104) O (lt5 hU (by decide : (104 : Nat) < 105)) (cv_l104 G (S.1 104) (S.2 104)) (inB_in hb89) dL_build_336 ?_
        obtain ⟨⟨x91, S92⟩, hA90, hF⟩ := bd_s hF
        refine go_callVi (As := [.int (0 : Int32), .int p14, .int (S.1 104 p14.toNatClampNeg)]) (rest := []) (b := 0) O (c_X8_put l G hI hA90) (fun s args hts => cwV 3 hts gL_build_X8_put rfl rfl rfl (by decide +kernel) ⟨Nat.le_of_ble_eq_true rfl, Nat.le_of_ble_eq_true rfl⟩) (lt9 hI (by decide : (0 : Nat) < 99)) (cv_pw G (S.1 0) (S.2 0)) rfl rfl rfl rfl (Nat.le_of_ble_eq_true rfl) dL_build_337 ?_
        refine go_sipush (v := (1032 : Int32)) O dL_build_340 (by decide) ?_
        obtain ⟨x93, hA95, hF⟩ := bd_s hF
        have J94 : Go X l rm_L_build (wC G) 15 351 [(0, .ref (G.2.1 0)), (6, .ref (G.2.1 102)), (11, .ref (G.2.1 104)), (12, .int p12), (14, .int p14)] [.int x93] S92 := by
          refine go_istore (ls' := [(13, .int x93), (0, .ref (G.2.1 0)), (6, .ref (G.2.1 102)), (11, .ref (G.2.1 104)), (12, .int p12), (14, .int p14)]) O dL_build_351 (by decide) rfl ?_
          refine go_iinc (d := (1 : Int32)) (ls' := [(14, .int (p14 + (1 : Int32))), (13, .int x93), (0, .ref (G.2.1 0)), (6, .ref (G.2.1 102)), (11, .ref (G.2.1 104)), (12, .int p12)]) O dL_build_353 5 rfl (by decide) (by decide) rfl ?_
          refine go_goto (tgt := 316) O dL_build_356 (by decide) ?_
          refine go_perm (ls' := [(0, .ref (G.2.1 0)), (6, .ref (G.2.1 102)), (11, .ref (G.2.1 104)), (12, .int p12), (13, .int x93), (14, .int (p14 + (1 : Int32)))]) [2, 3, 4, 5, 1, 0] rfl ?_
          exact ih _ _ _ _ hF hE
        replace hF := hA95
        refine go_icmp_ne (tgt := 350) O dL_build_343 (by decide) (fun hc96 => ?_) (fun hc96 => ?_)
        · replace hF := it_f hc96 hF
          refine go_iconst (v := (0 : Int32)) O dL_build_350 (by decide) ?_
          refine go_perm (ls' := [(0, .ref (G.2.1 0)), (6, .ref (G.2.1 102)), (11, .ref (G.2.1 104)), (12, .int p12), (14, .int p14)]) [0, 1, 2, 3, 5] rfl ?_
          exact jn (P := fun q => Go X l rm_L_build (wC G) 15 351 [(0, .ref (G.2.1 0)), (6, .ref (G.2.1 102)), (11, .ref (G.2.1 104)), (12, .int p12), (14, .int p14)] [.int q] S92) hF J94
        · replace hF := it_t hc96 hF
          refine go_iconst (v := (1 : Int32)) O dL_build_346 (by decide) ?_
          refine go_goto (tgt := 351) O dL_build_347 (by decide) ?_
          refine go_perm (ls' := [(0, .ref (G.2.1 0)), (6, .ref (G.2.1 102)), (11, .ref (G.2.1 104)), (12, .int p12), (14, .int p14)]) [0, 1, 2, 3, 5] rfl ?_
          exact jn (P := fun q => Go X l rm_L_build (wC G) 15 351 [(0, .ref (G.2.1 0)), (6, .ref (G.2.1 102)), (11, .ref (G.2.1 104)), (12, .int p12), (14, .int p14)] [.int q] S92) hF J94
def F_L_build (Ln : Nat) (xs : Nat → Int32) (S : Sg) (a2 : Int32) (a7 : Int32) (a8 : Int32) : Option (Int32 × Sg) := bd (F_L_cell Ln xs S a2) (fun x2 => bd (F_L_some S x2 ((a8 - a7) + (1 : Int32))) (fun x4 => chk (inB (0 : Int32) 4) (nm (wI S 102 (0 : Int32).toNatClampNeg (a7 + x4)) (fun S6 => bd (F_L_some S6 (x2 >>> ((3 : Int32) &&& 31)) (6 : Int32)) (fun x8 => chk (inB (1 : Int32) 4) (nm (wI S6 102 (1 : Int32).toNatClampNeg ((1 : Int32) + x8)) (fun S10 => bd (F_L_some S10 (x2 >>> ((6 : Int32) &&& 31)) (3 : Int32)) (fun x12 => bd (if x12 = 0 then (some (10 : Int32)) else (some (4 : Int32))) (fun x13 => nm (zS S10 104) (fun S17 => chk (inB (0 : Int32) 40) (nm (wI S17 104 (0 : Int32).toNatClampNeg (112 : Int32)) (fun S19 => nm ((0 : Int32) + (1 : Int32)) (fun x20 => bd (T_L_build_86 Ln xs a2 x2 x13 x20 FU (0 : Int32) S19) (fun S21 => bd (T_L_build_108 Ln xs a2 x2 x13 FU x20 (0 : Int32) S21) (fun (x26, S27) => bd (T_L_build_165 Ln xs a2 FU x26 (0 : Int32) S27) (fun (x39, S40) => bd (F_X8_text S40 (0 : Int32) x39) (fun (x81, S82) => bd (if x81 = x39 then (some (1 : Int32)) else (some (0 : Int32))) (fun x83 => bd (T_L_build_316 Ln xs x39 FU x83 (0 : Int32) S82) (fun (x87, S88) => if x87 = 0 then (some ((0 : Int32), S88)) else (bd (F_X8_fault S88 (0 : Int32)) (fun (x101, S102) => if x101 = (-9 : Int32) then (bd (F_X8_street S102 (0 : Int32)) (fun (x104, S105) => chk (inB (0 : Int32) 4) (if x104 = (S105.1 102 (0 : Int32).toNatClampNeg) then (bd (F_X8_count S105 (0 : Int32)) (fun x108 => chk (inB (0 : Int32) 4) (if x108 = (S105.1 102 (0 : Int32).toNatClampNeg) then (bd (F_X8_count S105 (1 : Int32)) (fun x111 => chk (inB (1 : Int32) 4) (if x111 = (S105.1 102 (1 : Int32).toNatClampNeg) then (some ((1 : Int32), S105)) else (some ((0 : Int32), S105))))) else (some ((0 : Int32), S105))))) else (some ((0 : Int32), S105))))) else (some ((0 : Int32), S102)))))))))))))))))))))))
set_option maxHeartbeats 4000000 in
set_option maxRecDepth 100000 in
theorem c_L_build (l : Launch) (G : Gp) (hI : Gd G) {Ln : Nat} {xs : Nat → Int32} (hL : gL G = Ln) (hxs : gx G = xs) (hT : 104 ≤ nn G) (hnn : nn G = 104) {S : Sg} {a2 : Int32} {a7 : Int32} {a8 : Int32} {r : Int32} {S1 : Sg} (hF : F_L_build Ln xs S a2 a7 a8 = some (r, S1)) (sz : Nat) : Met l yL_build wsL_build rm_L_build (va_Pc [.ref (G.2.1 0), .ref (gb G), .int a2, .ref (G.2.1 99), .ref (G.2.1 100), .ref (G.2.1 101), .ref (G.2.1 102), .int a7, .int a8] (PreB G S sz)) (QB G S1 r sz) 1 40 (AB G sz) := by
  rw [F_L_build] at hF
  refine met_B (cc := cL_build) (maxL := 15) (own := RL) hI.1 (by decide) rfl rfl (Nat.le_of_ble_eq_true rfl) (by decide) (by decide) (fun X O hB hRm hR => ?_)
  show Go X l rm_L_build (wC G) 15 0 [(0, .ref (G.2.1 0)), (1, .ref (gb G)), (2, .int a2), (3, .ref (G.2.1 99)), (4, .ref (G.2.1 100)), (5, .ref (G.2.1 101)), (6, .ref (G.2.1 102)), (7, .int a7), (8, .int a8)] [] S
  refine go_aload_n O dL_build_0 rfl 1 rfl ?_
  refine go_iload_n O dL_build_1 rfl 2 rfl ?_
  obtain ⟨x2, hA1, hF⟩ := bd_s hF
  refine go_callSi (As := [.ref (gb G), .int a2]) (rest := []) O (c_L_cell l G hI hL hxs hA1) (fun s args hts => va_cwS 2 hts gL_build_L_cell rfl rfl rfl (by decide +kernel) ⟨Nat.le_of_ble_eq_true rfl, Nat.le_of_ble_eq_true rfl⟩) rfl rfl (Nat.le_of_ble_eq_true rfl) dL_build_2 ?_
  refine go_istore (ls' := [(9, .int x2), (0, .ref (G.2.1 0)), (1, .ref (gb G)), (2, .int a2), (3, .ref (G.2.1 99)), (4, .ref (G.2.1 100)), (5, .ref (G.2.1 101)), (6, .ref (G.2.1 102)), (7, .int a7), (8, .int a8)]) O dL_build_5 (by decide) rfl ?_
  refine go_aload O dL_build_7 7 rfl ?_
  refine go_iconst (v := (0 : Int32)) O dL_build_9 (by decide) ?_
  refine go_iload O dL_build_10 8 rfl ?_
  refine go_iload O dL_build_12 0 rfl ?_
  refine go_iload O dL_build_14 9 rfl ?_
  refine go_iload O dL_build_16 8 rfl ?_
  refine go_isub O dL_build_18 ?_
  refine go_iconst (v := (1 : Int32)) O dL_build_19 (by decide) ?_
  refine go_iadd O dL_build_20 ?_
  obtain ⟨x4, hA3, hF⟩ := bd_s hF
  refine go_callSi (As := [.int x2, .int ((a8 - a7) + (1 : Int32))]) (rest := [.int a7, .int (0 : Int32), .ref (G.2.1 102)]) O (c_L_some l G hI hA3) (fun s args hts => va_cwS 2 hts gL_build_L_some rfl rfl rfl (by decide +kernel) ⟨Nat.le_of_ble_eq_true rfl, Nat.le_of_ble_eq_true rfl⟩) rfl rfl (Nat.le_of_ble_eq_true rfl) dL_build_21 ?_
  refine go_iadd O dL_build_24 ?_
  obtain ⟨hb5, hF⟩ := chk_s hF
  obtain ⟨S6, eS6, hF⟩ := nm_s hF
  refine go_iast (k := 102) O (lt4 hT (by decide : (102 : Nat) < 104)) (fun f => (cv_l102 G f (S.2 102))) (inB_in hb5) dL_build_25 eS6 ?_
  refine go_aload O dL_build_26 7 rfl ?_
  refine go_iconst (v := (1 : Int32)) O dL_build_28 (by decide) ?_
  refine go_iconst (v := (1 : Int32)) O dL_build_29 (by decide) ?_
  refine go_iload O dL_build_30 0 rfl ?_
  refine go_iconst (v := (3 : Int32)) O dL_build_32 (by decide) ?_
  refine go_ishr O dL_build_33 ?_
  refine go_bipush (v := (6 : Int32)) O dL_build_34 (by decide) ?_
  obtain ⟨x8, hA7, hF⟩ := bd_s hF
  refine go_callSi (As := [.int (x2 >>> ((3 : Int32) &&& 31)), .int (6 : Int32)]) (rest := [.int (1 : Int32), .int (1 : Int32), .ref (G.2.1 102)]) O (c_L_some l G hI hA7) (fun s args hts => va_cwS 2 hts gL_build_L_some rfl rfl rfl (by decide +kernel) ⟨Nat.le_of_ble_eq_true rfl, Nat.le_of_ble_eq_true rfl⟩) rfl rfl (Nat.le_of_ble_eq_true rfl) dL_build_36 ?_
  refine go_iadd O dL_build_39 ?_
  obtain ⟨hb9, hF⟩ := chk_s hF
  obtain ⟨S10, eS10, hF⟩ := nm_s hF
  refine go_iast (k := 102) O (lt4 hT (by decide : (102 : Nat) < 104)) (fun f => (cv_l102 G f (S6.2 102))) (inB_in hb9) dL_build_40 eS10 ?_
  refine go_iload O dL_build_41 0 rfl ?_
  refine go_bipush (v := (6 : Int32)) O dL_build_43 (by decide) ?_
  refine go_ishr O dL_build_45 ?_
  refine go_iconst (v := (3 : Int32)) O dL_build_46 (by decide) ?_
  obtain ⟨x12, hA11, hF⟩ := bd_s hF
  refine go_callSi (As := [.int (x2 >>> ((6 : Int32) &&& 31)), .int (3 : Int32)]) (rest := []) O (c_L_some l G hI hA11) (fun s args hts => va_cwS 2 hts gL_build_L_some rfl rfl rfl (by decide +kernel) ⟨Nat.le_of_ble_eq_true rfl, Nat.le_of_ble_eq_true rfl⟩) rfl rfl (Nat.le_of_ble_eq_true rfl) dL_build_47 ?_
  obtain ⟨x13, hA15, hF⟩ := bd_s hF
  have J14 : Go X l rm_L_build (wC G) 15 59 [(0, .ref (G.2.1 0)), (1, .ref (gb G)), (2, .int a2), (3, .ref (G.2.1 99)), (4, .ref (G.2.1 100)), (5, .ref (G.2.1 101)), (6, .ref (G.2.1 102)), (9, .int x2)] [.int x13] S10 := by
    refine go_istore (ls' := [(10, .int x13), (0, .ref (G.2.1 0)), (1, .ref (gb G)), (2, .int a2), (3, .ref (G.2.1 99)), (4, .ref (G.2.1 100)), (5, .ref (G.2.1 101)), (6, .ref (G.2.1 102)), (9, .int x2)]) O dL_build_59 (by decide) rfl ?_
    refine go_bipush (v := (40 : Int32)) O dL_build_61 (by decide) ?_
    obtain ⟨S17, eS17, hF⟩ := nm_s hF
    refine go_newa (st := []) (sz := 40) (n := 104) (fun G => [(10, .int x13), (0, .ref (G.2.1 0)), (1, .ref (gb G)), (2, .int a2), (3, .ref (G.2.1 99)), (4, .ref (G.2.1 100)), (5, .ref (G.2.1 101)), (6, .ref (G.2.1 102)), (9, .int x2)]) (fun G => []) O hB hRm (by decide) hnn rfl (by decide) rfl wd_L_build_ai dL_build_63 (fun q => rfl) (fun q => rfl) (fun q hIq O hB => ?_)
    replace hR := hR q O
    have hI : Gd (ext G 104 q) := ⟨hIq, (by decide : 99 ≤ 105)⟩
    have hT : 104 ≤ nn (ext G 104 q) := (by decide : 104 ≤ 105)
    have hU : 105 ≤ nn (ext G 104 q) := (by decide : 105 ≤ 105)
    have hL : gL (ext G 104 q) = Ln := hL
    have hxs : gx (ext G 104 q) = xs := hxs
    generalize ext G 104 q = G at O hR hI hT hU hL hxs hIq ⊢
    generalize upX X 40 = X at O hR hB ⊢
    rw [← eS17]
    show Go X l rm_L_build (wC G) 15 65 [(10, .int x13), (0, .ref (G.2.1 0)), (1, .ref (gb G)), (2, .int a2), (3, .ref (G.2.1 99)), (4, .ref (G.2.1 100)), (5, .ref (G.2.1 101)), (6, .ref (G.2.1 102)), (9, .int x2)] [.ref (G.2.1 104)] S17
    refine go_astore (ls' := [(11, .ref (G.2.1 104)), (10, .int x13), (0, .ref (G.2.1 0)), (1, .ref (gb G)), (2, .int a2), (3, .ref (G.2.1 99)), (4, .ref (G.2.1 100)), (5, .ref (G.2.1 101)), (6, .ref (G.2.1 102)), (9, .int x2)]) O dL_build_65 (by decide) rfl ?_
    refine go_iconst (v := (0 : Int32)) O dL_build_67 (by decide) ?_
    refine go_istore (ls' := [(12, .int (0 : Int32)), (11, .ref (G.2.1 104)), (10, .int x13), (0, .ref (G.2.1 0)), (1, .ref (gb G)), (2, .int a2), (3, .ref (G.2.1 99)), (4, .ref (G.2.1 100)), (5, .ref (G.2.1 101)), (6, .ref (G.2.1 102)), (9, .int x2)]) O dL_build_68 (by decide) rfl ?_
    refine go_aload O dL_build_70 1 rfl ?_
    refine go_iload O dL_build_72 0 rfl ?_
    refine go_bipush (v := (112 : Int32)) O dL_build_74 (by decide) ?_
    obtain ⟨hb18, hF⟩ := chk_s hF
    obtain ⟨S19, eS19, hF⟩ := nm_s hF
    refine go_iast (k := 104) O (lt5 hU (by decide : (104 : Nat) < 105)) (fun f => (cv_l104 G f (S17.2 104))) (inB_in hb18) dL_build_76 eS19 ?_
    refine go_iload O dL_build_77 0 rfl ?_
    refine go_iconst (v := (1 : Int32)) O dL_build_79 (by decide) ?_
    refine go_iadd O dL_build_80 ?_
    obtain ⟨x20, ex20, hF⟩ := nm_s hF
    refine go_topi ex20 ?_
    refine go_istore (ls' := [(12, .int x20), (11, .ref (G.2.1 104)), (10, .int x13), (0, .ref (G.2.1 0)), (1, .ref (gb G)), (2, .int a2), (3, .ref (G.2.1 99)), (4, .ref (G.2.1 100)), (5, .ref (G.2.1 101)), (6, .ref (G.2.1 102)), (9, .int x2)]) O dL_build_81 (by decide) rfl ?_
    refine go_iconst (v := (0 : Int32)) O dL_build_83 (by decide) ?_
    refine go_istore (ls' := [(13, .int (0 : Int32)), (12, .int x20), (11, .ref (G.2.1 104)), (10, .int x13), (0, .ref (G.2.1 0)), (1, .ref (gb G)), (2, .int a2), (3, .ref (G.2.1 99)), (4, .ref (G.2.1 100)), (5, .ref (G.2.1 101)), (6, .ref (G.2.1 102)), (9, .int x2)]) O dL_build_84 (by decide) rfl ?_
    refine go_perm (ls' := [(0, .ref (G.2.1 0)), (1, .ref (gb G)), (2, .int a2), (3, .ref (G.2.1 99)), (4, .ref (G.2.1 100)), (5, .ref (G.2.1 101)), (6, .ref (G.2.1 102)), (9, .int x2), (10, .int x13), (11, .ref (G.2.1 104)), (12, .int x20), (13, .int (0 : Int32))]) [4, 5, 6, 7, 8, 9, 10, 11, 3, 2, 1, 0] rfl ?_
    obtain ⟨S21, hA25, hF⟩ := bd_s hF
    refine lt_L_build_86 l G hI hL hxs hT hU O _ _ _ _ hA25 ?_
    refine go_iconst (v := (0 : Int32)) O dL_build_105 (by decide) ?_
    refine go_istore (ls' := [(13, .int (0 : Int32)), (0, .ref (G.2.1 0)), (1, .ref (gb G)), (2, .int a2), (3, .ref (G.2.1 99)), (4, .ref (G.2.1 100)), (5, .ref (G.2.1 101)), (6, .ref (G.2.1 102)), (9, .int x2), (10, .int x13), (11, .ref (G.2.1 104)), (12, .int x20)]) O dL_build_106 (by decide) rfl ?_
    refine go_perm (ls' := [(0, .ref (G.2.1 0)), (1, .ref (gb G)), (2, .int a2), (3, .ref (G.2.1 99)), (4, .ref (G.2.1 100)), (5, .ref (G.2.1 101)), (6, .ref (G.2.1 102)), (9, .int x2), (10, .int x13), (11, .ref (G.2.1 104)), (12, .int x20), (13, .int (0 : Int32))]) [1, 2, 3, 4, 5, 6, 7, 8, 9, 10, 11, 0] rfl ?_
    obtain ⟨⟨x26, S27⟩, hA38, hF⟩ := bd_s hF
    refine lt_L_build_108 l G hI hL hxs hT hU O _ _ _ _ _ hA38 ?_
    refine go_iconst (v := (0 : Int32)) O dL_build_162 (by decide) ?_
    refine go_istore (ls' := [(13, .int (0 : Int32)), (0, .ref (G.2.1 0)), (1, .ref (gb G)), (2, .int a2), (3, .ref (G.2.1 99)), (4, .ref (G.2.1 100)), (6, .ref (G.2.1 102)), (11, .ref (G.2.1 104)), (12, .int x26)]) O dL_build_163 (by decide) rfl ?_
    refine go_perm (ls' := [(0, .ref (G.2.1 0)), (1, .ref (gb G)), (2, .int a2), (3, .ref (G.2.1 99)), (4, .ref (G.2.1 100)), (6, .ref (G.2.1 102)), (11, .ref (G.2.1 104)), (12, .int x26), (13, .int (0 : Int32))]) [1, 2, 3, 4, 5, 6, 7, 8, 0] rfl ?_
    obtain ⟨⟨x39, S40⟩, hA79, hF⟩ := bd_s hF
    refine lt_L_build_165 l G hI hL hxs hT hU O _ _ _ _ _ hA79 ?_
    refine go_aload_n O dL_build_294 rfl 0 rfl ?_
    refine go_iconst (v := (0 : Int32)) O dL_build_295 (by decide) ?_
    refine go_iload O dL_build_296 3 rfl ?_
    obtain ⟨⟨x81, S82⟩, hA80, hF⟩ := bd_s hF
    refine go_callVi (As := [.int (0 : Int32), .int x39]) (rest := []) (b := 0) O (c_X8_text l G hI hA80) (fun s args hts => cwV 2 hts gL_build_X8_text rfl rfl rfl (by decide +kernel) ⟨Nat.le_of_ble_eq_true rfl, Nat.le_of_ble_eq_true rfl⟩) (lt9 hI (by decide : (0 : Nat) < 99)) (cv_pw G (S40.1 0) (S40.2 0)) rfl rfl rfl rfl (Nat.le_of_ble_eq_true rfl) dL_build_298 ?_
    refine go_iload O dL_build_301 3 rfl ?_
    obtain ⟨x83, hA85, hF⟩ := bd_s hF
    have J84 : Go X l rm_L_build (wC G) 15 311 [(0, .ref (G.2.1 0)), (6, .ref (G.2.1 102)), (11, .ref (G.2.1 104)), (12, .int x39)] [.int x83] S82 := by
      refine go_istore (ls' := [(13, .int x83), (0, .ref (G.2.1 0)), (6, .ref (G.2.1 102)), (11, .ref (G.2.1 104)), (12, .int x39)]) O dL_build_311 (by decide) rfl ?_
      refine go_iconst (v := (0 : Int32)) O dL_build_313 (by decide) ?_
      refine go_istore (ls' := [(14, .int (0 : Int32)), (13, .int x83), (0, .ref (G.2.1 0)), (6, .ref (G.2.1 102)), (11, .ref (G.2.1 104)), (12, .int x39)]) O dL_build_314 (by decide) rfl ?_
      refine go_perm (ls' := [(0, .ref (G.2.1 0)), (6, .ref (G.2.1 102)), (11, .ref (G.2.1 104)), (12, .int x39), (13, .int x83), (14, .int (0 : Int32))]) [2, 3, 4, 5, 1, 0] rfl ?_
      obtain ⟨⟨x87, S88⟩, hA99, hF⟩ := bd_s hF
      refine lt_L_build_316 l G hI hL hxs hT hU O _ _ _ _ _ hA99 ?_
      refine go_iload O dL_build_359 2 rfl ?_
      refine go_if_eq (tgt := 414) O dL_build_361 (by decide) (fun hc117 => ?_) (fun hc117 => ?_)
      · replace hF := it_t hc117 hF
        refine go_iconst (v := (0 : Int32)) O dL_build_414 (by decide) ?_
        exact ret_wz hF (fun hz => hR _ _ hz dL_build_415) (show vp_nar .boolean (0 : Int32) = (0 : Int32) by decide)
      · replace hF := it_f hc117 hF
        refine go_aload_n O dL_build_364 rfl 0 rfl ?_
        refine go_iconst (v := (0 : Int32)) O dL_build_365 (by decide) ?_
        obtain ⟨⟨x101, S102⟩, hA100, hF⟩ := bd_s hF
        refine go_callVi (As := [.int (0 : Int32)]) (rest := []) (b := 0) O (c_X8_fault l G hI hA100) (fun s args hts => cwV 1 hts gL_build_X8_fault rfl rfl rfl (by decide +kernel) ⟨Nat.le_of_ble_eq_true rfl, Nat.le_of_ble_eq_true rfl⟩) (lt9 hI (by decide : (0 : Nat) < 99)) (cv_pw G (S88.1 0) (S88.2 0)) rfl rfl rfl rfl (Nat.le_of_ble_eq_true rfl) dL_build_366 ?_
        refine go_bipush (v := (-9 : Int32)) O dL_build_369 (by decide) ?_
        refine go_icmp_ne (tgt := 414) O dL_build_371 (by decide) (fun hc116 => ?_) (fun hc116 => ?_)
        · replace hF := it_f hc116 hF
          refine go_iconst (v := (0 : Int32)) O dL_build_414 (by decide) ?_
          exact ret_wz hF (fun hz => hR _ _ hz dL_build_415) (show vp_nar .boolean (0 : Int32) = (0 : Int32) by decide)
        · replace hF := it_t hc116 hF
          refine go_aload_n O dL_build_374 rfl 0 rfl ?_
          refine go_iconst (v := (0 : Int32)) O dL_build_375 (by decide) ?_
          obtain ⟨⟨x104, S105⟩, hA103, hF⟩ := bd_s hF
          refine go_callVi (As := [.int (0 : Int32)]) (rest := []) (b := 0) O (c_X8_street l G hI hA103) (fun s args hts => cwV 1 hts gL_build_X8_street rfl rfl rfl (by decide +kernel) ⟨Nat.le_of_ble_eq_true rfl, Nat.le_of_ble_eq_true rfl⟩) (lt9 hI (by decide : (0 : Nat) < 99)) (cv_pw G (S102.1 0) (S102.2 0)) rfl rfl rfl rfl (Nat.le_of_ble_eq_true rfl) dL_build_376 ?_
          refine go_aload O dL_build_379 1 rfl ?_
          refine go_iconst (v := (0 : Int32)) O dL_build_381 (by decide) ?_
          obtain ⟨hb106, hF⟩ := chk_s hF
          refine go_iald (k := 102) O (lt4 hT (by decide : (102 : Nat) < 104)) (cv_l102 G (S105.1 102) (S105.2 102)) (inB_in hb106) dL_build_382 ?_
          refine go_icmp_ne (tgt := 414) O dL_build_383 (by decide) (fun hc115 => ?_) (fun hc115 => ?_)
          · replace hF := it_f hc115 hF
            refine go_iconst (v := (0 : Int32)) O dL_build_414 (by decide) ?_
            exact ret_wz hF (fun hz => hR _ _ hz dL_build_415) (show vp_nar .boolean (0 : Int32) = (0 : Int32) by decide)
          · replace hF := it_t hc115 hF
            refine go_aload_n O dL_build_386 rfl 0 rfl ?_
            refine go_iconst (v := (0 : Int32)) O dL_build_387 (by decide) ?_
            obtain ⟨x108, hA107, hF⟩ := bd_s hF
            refine go_callVi (As := [.int (0 : Int32)]) (rest := []) (b := 0) O (c_X8_count l G hI hA107) (fun s args hts => cwV 1 hts gL_build_X8_count rfl rfl rfl (by decide +kernel) ⟨Nat.le_of_ble_eq_true rfl, Nat.le_of_ble_eq_true rfl⟩) (lt9 hI (by decide : (0 : Nat) < 99)) (cv_pw G (S105.1 0) (S105.2 0)) rfl rfl rfl rfl (Nat.le_of_ble_eq_true rfl) dL_build_388 ?_
            refine go_aload O dL_build_391 1 rfl ?_
            refine go_iconst (v := (0 : Int32)) O dL_build_393 (by decide) ?_
            obtain ⟨hb109, hF⟩ := chk_s hF
            refine go_iald (k := 102) O (lt4 hT (by decide : (102 : Nat) < 104)) (cv_l102 G (S105.1 102) (S105.2 102)) (inB_in hb109) dL_build_394 ?_
            refine go_icmp_ne (tgt := 414) O dL_build_395 (by decide) (fun hc114 => ?_) (fun hc114 => ?_)
            · replace hF := it_f hc114 hF
              refine go_iconst (v := (0 : Int32)) O dL_build_414 (by decide) ?_
              exact ret_wz hF (fun hz => hR _ _ hz dL_build_415) (show vp_nar .boolean (0 : Int32) = (0 : Int32) by decide)
            · replace hF := it_t hc114 hF
              refine go_aload_n O dL_build_398 rfl 0 rfl ?_
              refine go_iconst (v := (1 : Int32)) O dL_build_399 (by decide) ?_
              obtain ⟨x111, hA110, hF⟩ := bd_s hF
              refine go_callVi (As := [.int (1 : Int32)]) (rest := []) (b := 0) O (c_X8_count l G hI hA110) (fun s args hts => cwV 1 hts gL_build_X8_count rfl rfl rfl (by decide +kernel) ⟨Nat.le_of_ble_eq_true rfl, Nat.le_of_ble_eq_true rfl⟩) (lt9 hI (by decide : (0 : Nat) < 99)) (cv_pw G (S105.1 0) (S105.2 0)) rfl rfl rfl rfl (Nat.le_of_ble_eq_true rfl) dL_build_400 ?_
              refine go_aload O dL_build_403 1 rfl ?_
              refine go_iconst (v := (1 : Int32)) O dL_build_405 (by decide) ?_
              obtain ⟨hb112, hF⟩ := chk_s hF
              refine go_iald (k := 102) O (lt4 hT (by decide : (102 : Nat) < 104)) (cv_l102 G (S105.1 102) (S105.2 102)) (inB_in hb112) dL_build_406 ?_
              refine go_icmp_ne (tgt := 414) O dL_build_407 (by decide) (fun hc113 => ?_) (fun hc113 => ?_)
              · replace hF := it_f hc113 hF
                refine go_iconst (v := (0 : Int32)) O dL_build_414 (by decide) ?_
                exact ret_wz hF (fun hz => hR _ _ hz dL_build_415) (show vp_nar .boolean (0 : Int32) = (0 : Int32) by decide)
              · replace hF := it_t hc113 hF
                refine go_iconst (v := (1 : Int32)) O dL_build_410 (by decide) ?_
                refine go_goto (tgt := 415) O dL_build_411 (by decide) ?_
                exact ret_wz hF (fun hz => hR _ _ hz dL_build_415) (show vp_nar .boolean (1 : Int32) = (1 : Int32) by decide)
    replace hF := hA85
    refine go_icmp_ne (tgt := 310) O dL_build_303 (by decide) (fun hc86 => ?_) (fun hc86 => ?_)
    · replace hF := it_f hc86 hF
      refine go_iconst (v := (0 : Int32)) O dL_build_310 (by decide) ?_
      exact jn (P := fun q => Go X l rm_L_build (wC G) 15 311 [(0, .ref (G.2.1 0)), (6, .ref (G.2.1 102)), (11, .ref (G.2.1 104)), (12, .int x39)] [.int q] S82) hF J84
    · replace hF := it_t hc86 hF
      refine go_iconst (v := (1 : Int32)) O dL_build_306 (by decide) ?_
      refine go_goto (tgt := 311) O dL_build_307 (by decide) ?_
      exact jn (P := fun q => Go X l rm_L_build (wC G) 15 311 [(0, .ref (G.2.1 0)), (6, .ref (G.2.1 102)), (11, .ref (G.2.1 104)), (12, .int x39)] [.int q] S82) hF J84
  replace hF := hA15
  refine go_if_ne (tgt := 58) O dL_build_50 (by decide) (fun hc16 => ?_) (fun hc16 => ?_)
  · replace hF := it_f hc16 hF
    refine go_iconst (v := (4 : Int32)) O dL_build_58 (by decide) ?_
    refine go_perm (ls' := [(0, .ref (G.2.1 0)), (1, .ref (gb G)), (2, .int a2), (3, .ref (G.2.1 99)), (4, .ref (G.2.1 100)), (5, .ref (G.2.1 101)), (6, .ref (G.2.1 102)), (9, .int x2)]) [1, 2, 3, 4, 5, 6, 7, 0] rfl ?_
    exact jn (P := fun q => Go X l rm_L_build (wC G) 15 59 [(0, .ref (G.2.1 0)), (1, .ref (gb G)), (2, .int a2), (3, .ref (G.2.1 99)), (4, .ref (G.2.1 100)), (5, .ref (G.2.1 101)), (6, .ref (G.2.1 102)), (9, .int x2)] [.int q] S10) hF J14
  · replace hF := it_t hc16 hF
    refine go_bipush (v := (10 : Int32)) O dL_build_53 (by decide) ?_
    refine go_goto (tgt := 59) O dL_build_55 (by decide) ?_
    refine go_perm (ls' := [(0, .ref (G.2.1 0)), (1, .ref (gb G)), (2, .int a2), (3, .ref (G.2.1 99)), (4, .ref (G.2.1 100)), (5, .ref (G.2.1 101)), (6, .ref (G.2.1 102)), (9, .int x2)]) [1, 2, 3, 4, 5, 6, 7, 0] rfl ?_
    exact jn (P := fun q => Go X l rm_L_build (wC G) 15 59 [(0, .ref (G.2.1 0)), (1, .ref (gb G)), (2, .int a2), (3, .ref (G.2.1 99)), (4, .ref (G.2.1 100)), (5, .ref (G.2.1 101)), (6, .ref (G.2.1 102)), (9, .int x2)] [.int q] S10) hF J14
