-- X9_isSafePasted
def rm_X9_isSafePasted : Room := { frames := 5, cells := 0, slots := 0, locals := 115 }
theorem fl_X9_isSafePasted_28 : Cond.fieldLink RX9 28 "PaperWallsModel" "layers" "[I" ∈ wsX9_isSafePasted := by decide +kernel
theorem fl_X9_isSafePasted_80 : Cond.fieldLink RX9 80 "PaperWallsModel" "pasted" "[I" ∈ wsX9_isSafePasted := by decide +kernel
theorem fl_X9_isSafePasted_150 : Cond.fieldLink RX9 150 "PaperWallsModel" "walls" "I" ∈ wsX9_isSafePasted := by decide +kernel
theorem in_X9_isSafePasted_X9 : ∀ x ∈ u_ws RX9 TX9 36, x ∈ wsX9_isSafePasted := by decide +kernel
def T_X9_isSafePasted_2   (p1 : Int32) : Nat → Int32 → Sg → Option (Sg)
  | 0, _, _ => none
  | n + 1, p2, S => if (S.1 0 8) ≤ p2 then (some S) else (chk (inB p2 6) (chk (inB p2 6) (chk (inB p2 6) (nm (wI S 7 p2.toNatClampNeg ((S.1 7 p2.toNatClampNeg) + (S.1 24 p2.toNatClampNeg))) (fun S5 => T_X9_isSafePasted_2 p1 n (p2 + (1 : Int32)) S5)))))
set_option maxHeartbeats 4000000 in
set_option maxRecDepth 100000 in
theorem lt_X9_isSafePasted_2 {X : XT} (l : Launch) (G : Gp) (hI : Ij (wM G))   {p1 : Int32} (O : Ok X (wM G) cX9_isSafePasted RX9 wsX9_isSafePasted 4) : ∀ (n : Nat) (p2 : Int32) (S : Sg) (q : (Sg)), T_X9_isSafePasted_2 p1 n p2 S = some q → (Go X l rm_X9_isSafePasted (wM G) 4 31 [(0, .ref (G.2.1 0)), (1, .int p1)] [] q) → Go X l rm_X9_isSafePasted (wM G) 4 2 [(0, .ref (G.2.1 0)), (1, .int p1), (2, .int p2)] [] S := by
  intro n
  induction n with
  | zero =>
    intro p2 S q hF
    cases hF
  | succ n ih =>
    intro p2 S q hF hE
    rw [T_X9_isSafePasted_2] at hF
    refine go_iload_n O dX9_isSafePasted_2 rfl 2 rfl ?_
    refine go_aload_n O dX9_isSafePasted_3 rfl 0 rfl ?_
    refine go_get (k := 0) (j := 8) O (by decide : (0 : Nat) < 27) (cm_obj G (S.1 0) (S.2 0)) rfl in_X9_isSafePasted_X9 (by decide) fl_X9_isSafePasted_150 rfl rfl dX9_isSafePasted_4 ?_
    refine go_icmp_ge (tgt := 31) O dX9_isSafePasted_7 (by decide) (fun hc6 => ?_) (fun hc6 => ?_)
    · replace hF := it_t hc6 hF
      refine go_perm (ls' := [(0, .ref (G.2.1 0)), (1, .int p1)]) [0, 1] rfl ?_
      exact jn (P := fun q => Go X l rm_X9_isSafePasted (wM G) 4 31 [(0, .ref (G.2.1 0)), (1, .int p1)] [] q) hF hE
    · replace hF := it_f hc6 hF
      refine go_aload_n O dX9_isSafePasted_10 rfl 0 rfl ?_
      refine go_get (k := 0) (j := 6) O (by decide : (0 : Nat) < 27) (cm_obj G (S.1 0) (S.2 0)) rfl in_X9_isSafePasted_X9 (by decide) fl_X9_isSafePasted_28 rfl rfl dX9_isSafePasted_11 ?_
      refine go_iload_n O dX9_isSafePasted_14 rfl 2 rfl ?_
      refine go_dup2 O dX9_isSafePasted_15 rfl rfl ?_
      obtain ⟨hb2, hF⟩ := chk_s hF
      refine go_iald (k := 7) O (by decide : (7 : Nat) < 27) (cm_7 G (S.1 7) (S.2 7)) (inB_in hb2) dX9_isSafePasted_16 ?_
      refine go_aload_n O dX9_isSafePasted_17 rfl 0 rfl ?_
      refine go_get (k := 0) (j := 32) O (by decide : (0 : Nat) < 27) (cm_obj G (S.1 0) (S.2 0)) rfl in_X9_isSafePasted_X9 (by decide) fl_X9_isSafePasted_80 rfl rfl dX9_isSafePasted_18 ?_
      refine go_iload_n O dX9_isSafePasted_21 rfl 2 rfl ?_
      obtain ⟨hb3, hF⟩ := chk_s hF
      refine go_iald (k := 24) O (by decide : (24 : Nat) < 27) (cm_24 G (S.1 24) (S.2 24)) (inB_in hb3) dX9_isSafePasted_22 ?_
      refine go_iadd O dX9_isSafePasted_23 ?_
      obtain ⟨hb4, hF⟩ := chk_s hF
      obtain ⟨S5, eS5, hF⟩ := nm_s hF
      refine go_iast (k := 7) O (by decide : (7 : Nat) < 27) (fun f => (cm_7 G f (S.2 7))) (inB_in hb4) dX9_isSafePasted_24 eS5 ?_
      refine go_iinc (d := (1 : Int32)) (ls' := [(2, .int (p2 + (1 : Int32))), (0, .ref (G.2.1 0)), (1, .int p1)]) O dX9_isSafePasted_25 2 rfl (by decide) (by decide) rfl ?_
      refine go_goto (tgt := 2) O dX9_isSafePasted_28 (by decide) ?_
      refine go_perm (ls' := [(0, .ref (G.2.1 0)), (1, .int p1), (2, .int (p2 + (1 : Int32)))]) [1, 2, 0] rfl ?_
      exact ih _ _ _ hF hE
def T_X9_isSafePasted_40   (p2 : Int32) : Nat → Int32 → Sg → Option (Sg)
  | 0, _, _ => none
  | n + 1, p3, S => if (S.1 0 8) ≤ p3 then (some S) else (chk (inB p3 6) (chk (inB p3 6) (chk (inB p3 6) (nm (wI S 7 p3.toNatClampNeg ((S.1 7 p3.toNatClampNeg) - (S.1 24 p3.toNatClampNeg))) (fun S14 => T_X9_isSafePasted_40 p2 n (p3 + (1 : Int32)) S14)))))
set_option maxHeartbeats 4000000 in
set_option maxRecDepth 100000 in
theorem lt_X9_isSafePasted_40 {X : XT} (l : Launch) (G : Gp) (hI : Ij (wM G))   {p2 : Int32} (O : Ok X (wM G) cX9_isSafePasted RX9 wsX9_isSafePasted 4) : ∀ (n : Nat) (p3 : Int32) (S : Sg) (q : (Sg)), T_X9_isSafePasted_40 p2 n p3 S = some q → (Go X l rm_X9_isSafePasted (wM G) 4 69 [(2, .int p2)] [] q) → Go X l rm_X9_isSafePasted (wM G) 4 40 [(0, .ref (G.2.1 0)), (2, .int p2), (3, .int p3)] [] S := by
  intro n
  induction n with
  | zero =>
    intro p3 S q hF
    cases hF
  | succ n ih =>
    intro p3 S q hF hE
    rw [T_X9_isSafePasted_40] at hF
    refine go_iload_n O dX9_isSafePasted_40 rfl 2 rfl ?_
    refine go_aload_n O dX9_isSafePasted_41 rfl 0 rfl ?_
    refine go_get (k := 0) (j := 8) O (by decide : (0 : Nat) < 27) (cm_obj G (S.1 0) (S.2 0)) rfl in_X9_isSafePasted_X9 (by decide) fl_X9_isSafePasted_150 rfl rfl dX9_isSafePasted_42 ?_
    refine go_icmp_ge (tgt := 69) O dX9_isSafePasted_45 (by decide) (fun hc15 => ?_) (fun hc15 => ?_)
    · replace hF := it_t hc15 hF
      refine go_perm (ls' := [(2, .int p2)]) [1] rfl ?_
      exact jn (P := fun q => Go X l rm_X9_isSafePasted (wM G) 4 69 [(2, .int p2)] [] q) hF hE
    · replace hF := it_f hc15 hF
      refine go_aload_n O dX9_isSafePasted_48 rfl 0 rfl ?_
      refine go_get (k := 0) (j := 6) O (by decide : (0 : Nat) < 27) (cm_obj G (S.1 0) (S.2 0)) rfl in_X9_isSafePasted_X9 (by decide) fl_X9_isSafePasted_28 rfl rfl dX9_isSafePasted_49 ?_
      refine go_iload_n O dX9_isSafePasted_52 rfl 2 rfl ?_
      refine go_dup2 O dX9_isSafePasted_53 rfl rfl ?_
      obtain ⟨hb11, hF⟩ := chk_s hF
      refine go_iald (k := 7) O (by decide : (7 : Nat) < 27) (cm_7 G (S.1 7) (S.2 7)) (inB_in hb11) dX9_isSafePasted_54 ?_
      refine go_aload_n O dX9_isSafePasted_55 rfl 0 rfl ?_
      refine go_get (k := 0) (j := 32) O (by decide : (0 : Nat) < 27) (cm_obj G (S.1 0) (S.2 0)) rfl in_X9_isSafePasted_X9 (by decide) fl_X9_isSafePasted_80 rfl rfl dX9_isSafePasted_56 ?_
      refine go_iload_n O dX9_isSafePasted_59 rfl 2 rfl ?_
      obtain ⟨hb12, hF⟩ := chk_s hF
      refine go_iald (k := 24) O (by decide : (24 : Nat) < 27) (cm_24 G (S.1 24) (S.2 24)) (inB_in hb12) dX9_isSafePasted_60 ?_
      refine go_isub O dX9_isSafePasted_61 ?_
      obtain ⟨hb13, hF⟩ := chk_s hF
      obtain ⟨S14, eS14, hF⟩ := nm_s hF
      refine go_iast (k := 7) O (by decide : (7 : Nat) < 27) (fun f => (cm_7 G f (S.2 7))) (inB_in hb13) dX9_isSafePasted_62 eS14 ?_
      refine go_iinc (d := (1 : Int32)) (ls' := [(3, .int (p3 + (1 : Int32))), (0, .ref (G.2.1 0)), (2, .int p2)]) O dX9_isSafePasted_63 2 rfl (by decide) (by decide) rfl ?_
      refine go_goto (tgt := 40) O dX9_isSafePasted_66 (by decide) ?_
      refine go_perm (ls' := [(0, .ref (G.2.1 0)), (2, .int p2), (3, .int (p3 + (1 : Int32)))]) [1, 2, 0] rfl ?_
      exact ih _ _ _ hF hE
def F_X9_isSafePasted  (S : Sg) (a1 : Int32) : Option (Int32 × Sg) := bd (T_X9_isSafePasted_2 a1 FU (0 : Int32) S) (fun S1 => bd (F_X9_isSafe S1 a1 (0 : Int32)) (fun x9 => bd (T_X9_isSafePasted_40 x9 FU (0 : Int32) S1) (fun S10 => chk (zB x9) (some (x9, S10)))))
set_option maxHeartbeats 4000000 in
set_option maxRecDepth 100000 in
theorem c_X9_isSafePasted (l : Launch) (G : Gp) (hI : Ij (wM G))  {S : Sg} {a1 : Int32} {r : Int32} {S1 : Sg} (hF : F_X9_isSafePasted S a1 = some (r, S1)) : Met l yX9_isSafePasted wsX9_isSafePasted rm_X9_isSafePasted (va_Pc [.ref (G.2.1 0), .int a1] (PreW (wM G) S)) (va_Qi (fun r' u => r' = r ∧ u = S1) (PostW (wM G)) (AW (wM G))) 0 0 (AW (wM G)) := by
  rw [F_X9_isSafePasted] at hF
  refine met_z (cc := cX9_isSafePasted) (maxL := 4) (own := RX9) hI (by decide) rfl rfl (Nat.le_of_ble_eq_true rfl) (fun X O hR => ?_)
  show Go X l rm_X9_isSafePasted (wM G) 4 0 [(0, .ref (G.2.1 0)), (1, .int a1)] [] S
  refine go_iconst (v := (0 : Int32)) O dX9_isSafePasted_0 (by decide) ?_
  refine go_istore_n (ls' := [(2, .int (0 : Int32)), (0, .ref (G.2.1 0)), (1, .int a1)]) O dX9_isSafePasted_1 rfl (by decide) rfl ?_
  refine go_perm (ls' := [(0, .ref (G.2.1 0)), (1, .int a1), (2, .int (0 : Int32))]) [1, 2, 0] rfl ?_
  obtain ⟨S1, hA7, hF⟩ := bd_s hF
  refine lt_X9_isSafePasted_2 l G hI  O _ _ _ _ hA7 ?_
  refine go_aload_n O dX9_isSafePasted_31 rfl 0 rfl ?_
  refine go_iload_n O dX9_isSafePasted_32 rfl 1 rfl ?_
  refine go_iconst (v := (0 : Int32)) O dX9_isSafePasted_33 (by decide) ?_
  obtain ⟨x9, hA8, hF⟩ := bd_s hF
  refine go_callVi (As := [.int a1, .int (0 : Int32)]) (rest := []) (b := 0) O (c_X9_isSafe l G hI hA8) (fun s args hts => cwV 2 hts gX9_isSafePasted_X9_isSafe rfl rfl rfl (by decide +kernel) ⟨Nat.le_of_ble_eq_true rfl, Nat.le_of_ble_eq_true rfl⟩) (by decide : (0 : Nat) < 27) (cm_obj G (S1.1 0) (S1.2 0)) rfl rfl rfl rfl (Nat.le_of_ble_eq_true rfl) dX9_isSafePasted_34 ?_
  refine go_istore_n (ls' := [(2, .int x9), (0, .ref (G.2.1 0)), (1, .int a1)]) O dX9_isSafePasted_37 rfl (by decide) rfl ?_
  refine go_iconst (v := (0 : Int32)) O dX9_isSafePasted_38 (by decide) ?_
  refine go_istore_n (ls' := [(3, .int (0 : Int32)), (2, .int x9), (0, .ref (G.2.1 0)), (1, .int a1)]) O dX9_isSafePasted_39 rfl (by decide) rfl ?_
  refine go_perm (ls' := [(0, .ref (G.2.1 0)), (2, .int x9), (3, .int (0 : Int32))]) [2, 1, 0] rfl ?_
  obtain ⟨S10, hA16, hF⟩ := bd_s hF
  refine lt_X9_isSafePasted_40 l G hI  O _ _ _ _ hA16 ?_
  refine go_iload_n O dX9_isSafePasted_69 rfl 0 rfl ?_
  obtain ⟨hz17, hF⟩ := chk_s hF
  exact ret_wz hF (fun hz => hR _ _ hz dX9_isSafePasted_70) (zB_s hz17)
-- X9_paste
def rm_X9_paste : Room := { frames := 6, cells := 0, slots := 0, locals := 138 }
theorem fl_X9_paste_13 : Cond.fieldLink RX9 13 "PaperWallsModel" "rows" "[I" ∈ wsX9_paste := by decide +kernel
theorem fl_X9_paste_80 : Cond.fieldLink RX9 80 "PaperWallsModel" "pasted" "[I" ∈ wsX9_paste := by decide +kernel
theorem fl_X9_paste_150 : Cond.fieldLink RX9 150 "PaperWallsModel" "walls" "I" ∈ wsX9_paste := by decide +kernel
theorem in_X9_paste_X9 : ∀ x ∈ u_ws RX9 TX9 36, x ∈ wsX9_paste := by decide +kernel
def T_X9_paste_38   (p1 : Int32) (p2 : Int32) (p4 : Int32) : Nat → Int32 → Sg → Option (Sg)
  | 0, _, _ => none
  | n + 1, p5, S => if (S.1 0 8) ≤ p5 then (some S) else (bd (if p5 = ((S.1 0 8) - (1 : Int32)) then (some p4) else (some (0 : Int32))) (fun x8 => chk (inB p5 6) (nm (wI S 24 p5.toNatClampNeg x8) (fun S13 => T_X9_paste_38 p1 p2 p4 n (p5 + (1 : Int32)) S13))))
set_option maxHeartbeats 4000000 in
set_option maxRecDepth 100000 in
theorem lt_X9_paste_38 {X : XT} (l : Launch) (G : Gp) (hI : Ij (wM G))   {p1 : Int32} {p2 : Int32} {p4 : Int32} (O : Ok X (wM G) cX9_paste RX9 wsX9_paste 7) : ∀ (n : Nat) (p5 : Int32) (S : Sg) (q : (Sg)), T_X9_paste_38 p1 p2 p4 n p5 S = some q → (Go X l rm_X9_paste (wM G) 7 77 [(0, .ref (G.2.1 0)), (1, .int p1), (2, .int p2), (4, .int p4)] [] q) → Go X l rm_X9_paste (wM G) 7 38 [(0, .ref (G.2.1 0)), (1, .int p1), (2, .int p2), (4, .int p4), (5, .int p5)] [] S := by
  intro n
  induction n with
  | zero =>
    intro p5 S q hF
    cases hF
  | succ n ih =>
    intro p5 S q hF hE
    rw [T_X9_paste_38] at hF
    refine go_iload O dX9_paste_38 4 rfl ?_
    refine go_aload_n O dX9_paste_40 rfl 0 rfl ?_
    refine go_get (k := 0) (j := 8) O (by decide : (0 : Nat) < 27) (cm_obj G (S.1 0) (S.2 0)) rfl in_X9_paste_X9 (by decide) fl_X9_paste_150 rfl rfl dX9_paste_41 ?_
    refine go_icmp_ge (tgt := 77) O dX9_paste_44 (by decide) (fun hc14 => ?_) (fun hc14 => ?_)
    · replace hF := it_t hc14 hF
      refine go_perm (ls' := [(0, .ref (G.2.1 0)), (1, .int p1), (2, .int p2), (4, .int p4)]) [0, 1, 2, 3] rfl ?_
      exact jn (P := fun q => Go X l rm_X9_paste (wM G) 7 77 [(0, .ref (G.2.1 0)), (1, .int p1), (2, .int p2), (4, .int p4)] [] q) hF hE
    · replace hF := it_f hc14 hF
      refine go_aload_n O dX9_paste_47 rfl 0 rfl ?_
      refine go_get (k := 0) (j := 32) O (by decide : (0 : Nat) < 27) (cm_obj G (S.1 0) (S.2 0)) rfl in_X9_paste_X9 (by decide) fl_X9_paste_80 rfl rfl dX9_paste_48 ?_
      refine go_iload O dX9_paste_51 4 rfl ?_
      refine go_iload O dX9_paste_53 4 rfl ?_
      refine go_aload_n O dX9_paste_55 rfl 0 rfl ?_
      refine go_get (k := 0) (j := 8) O (by decide : (0 : Nat) < 27) (cm_obj G (S.1 0) (S.2 0)) rfl in_X9_paste_X9 (by decide) fl_X9_paste_150 rfl rfl dX9_paste_56 ?_
      refine go_iconst (v := (1 : Int32)) O dX9_paste_59 (by decide) ?_
      refine go_isub O dX9_paste_60 ?_
      obtain ⟨x8, hA10, hF⟩ := bd_s hF
      have J9 : Go X l rm_X9_paste (wM G) 7 70 [(0, .ref (G.2.1 0)), (1, .int p1), (2, .int p2), (4, .int p4), (5, .int p5)] [.int x8, .int p5, .ref (G.2.1 24)] S := by
        obtain ⟨hb12, hF⟩ := chk_s hF
        obtain ⟨S13, eS13, hF⟩ := nm_s hF
        refine go_iast (k := 24) O (by decide : (24 : Nat) < 27) (fun f => (cm_24 G f (S.2 24))) (inB_in hb12) dX9_paste_70 eS13 ?_
        refine go_iinc (d := (1 : Int32)) (ls' := [(5, .int (p5 + (1 : Int32))), (0, .ref (G.2.1 0)), (1, .int p1), (2, .int p2), (4, .int p4)]) O dX9_paste_71 4 rfl (by decide) (by decide) rfl ?_
        refine go_goto (tgt := 38) O dX9_paste_74 (by decide) ?_
        refine go_perm (ls' := [(0, .ref (G.2.1 0)), (1, .int p1), (2, .int p2), (4, .int p4), (5, .int (p5 + (1 : Int32)))]) [1, 2, 3, 4, 0] rfl ?_
        exact ih _ _ _ hF hE
      replace hF := hA10
      refine go_icmp_ne (tgt := 69) O dX9_paste_61 (by decide) (fun hc11 => ?_) (fun hc11 => ?_)
      · replace hF := it_f hc11 hF
        refine go_iconst (v := (0 : Int32)) O dX9_paste_69 (by decide) ?_
        exact jn (P := fun q => Go X l rm_X9_paste (wM G) 7 70 [(0, .ref (G.2.1 0)), (1, .int p1), (2, .int p2), (4, .int p4), (5, .int p5)] [.int q, .int p5, .ref (G.2.1 24)] S) hF J9
      · replace hF := it_t hc11 hF
        refine go_iload O dX9_paste_64 3 rfl ?_
        refine go_goto (tgt := 70) O dX9_paste_66 (by decide) ?_
        exact jn (P := fun q => Go X l rm_X9_paste (wM G) 7 70 [(0, .ref (G.2.1 0)), (1, .int p1), (2, .int p2), (4, .int p4), (5, .int p5)] [.int q, .int p5, .ref (G.2.1 24)] S) hF J9
def T_X9_paste_106   (p2 : Int32) (p4 : Int32) : Nat → Int32 → Sg → Option (Sg)
  | 0, _, _ => none
  | n + 1, p6, S => if (S.1 0 8) ≤ p6 then (some S) else (chk (inB p6 6) (chk (inB (((40 : Int32) * p2) + p6) 240) (nm (wI S 2 (((40 : Int32) * p2) + p6).toNatClampNeg (S.1 24 p6.toNatClampNeg)) (fun S29 => T_X9_paste_106 p2 p4 n (p6 + (1 : Int32)) S29))))
set_option maxHeartbeats 4000000 in
set_option maxRecDepth 100000 in
theorem lt_X9_paste_106 {X : XT} (l : Launch) (G : Gp) (hI : Ij (wM G))   {p2 : Int32} {p4 : Int32} (O : Ok X (wM G) cX9_paste RX9 wsX9_paste 7) : ∀ (n : Nat) (p6 : Int32) (S : Sg) (q : (Sg)), T_X9_paste_106 p2 p4 n p6 S = some q → (Go X l rm_X9_paste (wM G) 7 140 [(4, .int p4)] [] q) → Go X l rm_X9_paste (wM G) 7 106 [(0, .ref (G.2.1 0)), (2, .int p2), (4, .int p4), (6, .int p6)] [] S := by
  intro n
  induction n with
  | zero =>
    intro p6 S q hF
    cases hF
  | succ n ih =>
    intro p6 S q hF hE
    rw [T_X9_paste_106] at hF
    refine go_iload O dX9_paste_106 3 rfl ?_
    refine go_aload_n O dX9_paste_108 rfl 0 rfl ?_
    refine go_get (k := 0) (j := 8) O (by decide : (0 : Nat) < 27) (cm_obj G (S.1 0) (S.2 0)) rfl in_X9_paste_X9 (by decide) fl_X9_paste_150 rfl rfl dX9_paste_109 ?_
    refine go_icmp_ge (tgt := 140) O dX9_paste_112 (by decide) (fun hc30 => ?_) (fun hc30 => ?_)
    · replace hF := it_t hc30 hF
      refine go_perm (ls' := [(4, .int p4)]) [2] rfl ?_
      exact jn (P := fun q => Go X l rm_X9_paste (wM G) 7 140 [(4, .int p4)] [] q) hF hE
    · replace hF := it_f hc30 hF
      refine go_aload_n O dX9_paste_115 rfl 0 rfl ?_
      refine go_get (k := 0) (j := 1) O (by decide : (0 : Nat) < 27) (cm_obj G (S.1 0) (S.2 0)) rfl in_X9_paste_X9 (by decide) fl_X9_paste_13 rfl rfl dX9_paste_116 ?_
      refine go_bipush (v := (40 : Int32)) O dX9_paste_119 (by decide) ?_
      refine go_iload_n O dX9_paste_121 rfl 1 rfl ?_
      refine go_imul O dX9_paste_122 ?_
      refine go_iload O dX9_paste_123 3 rfl ?_
      refine go_iadd O dX9_paste_125 ?_
      refine go_aload_n O dX9_paste_126 rfl 0 rfl ?_
      refine go_get (k := 0) (j := 32) O (by decide : (0 : Nat) < 27) (cm_obj G (S.1 0) (S.2 0)) rfl in_X9_paste_X9 (by decide) fl_X9_paste_80 rfl rfl dX9_paste_127 ?_
      refine go_iload O dX9_paste_130 3 rfl ?_
      obtain ⟨hb27, hF⟩ := chk_s hF
      refine go_iald (k := 24) O (by decide : (24 : Nat) < 27) (cm_24 G (S.1 24) (S.2 24)) (inB_in hb27) dX9_paste_132 ?_
      obtain ⟨hb28, hF⟩ := chk_s hF
      obtain ⟨S29, eS29, hF⟩ := nm_s hF
      refine go_iast (k := 2) O (by decide : (2 : Nat) < 27) (fun f => (cm_2 G f (S.2 2))) (inB_in hb28) dX9_paste_133 eS29 ?_
      refine go_iinc (d := (1 : Int32)) (ls' := [(6, .int (p6 + (1 : Int32))), (0, .ref (G.2.1 0)), (2, .int p2), (4, .int p4)]) O dX9_paste_134 3 rfl (by decide) (by decide) rfl ?_
      refine go_goto (tgt := 106) O dX9_paste_137 (by decide) ?_
      refine go_perm (ls' := [(0, .ref (G.2.1 0)), (2, .int p2), (4, .int p4), (6, .int (p6 + (1 : Int32)))]) [1, 2, 3, 0] rfl ?_
      exact ih _ _ _ hF hE
def T_X9_paste_80   (p1 : Int32) (p2 : Int32) (p4 : Int32) : Nat → Int32 → Sg → Option ((Sg) ⊕ (Int32 × Sg))
  | 0, _, _ => none
  | n + 1, p5, S => if p5 = 0 then (some (.inl S)) else (bd (F_X9_isSafePasted S p1) (fun (x18, S19) => if x18 = 0 then (bd (F_X9_nextPasted S19) (fun (x21, S22) => T_X9_paste_80 p1 p2 p4 n x21 S22)) else (bd (F_X9_row S19 p2 (S19.1 0 8)) (fun (x24, S25) => bd (T_X9_paste_106 p2 p4 FU (0 : Int32) S25) (fun S26 => some (.inr (p4, S26)))))))
set_option maxHeartbeats 4000000 in
set_option maxRecDepth 100000 in
theorem lt_X9_paste_80 {X : XT} (l : Launch) (G : Gp) (hI : Ij (wM G))   {p1 : Int32} {p2 : Int32} {p4 : Int32} (O : Ok X (wM G) cX9_paste RX9 wsX9_paste 7) : ∀ (n : Nat) (p5 : Int32) (S : Sg) (q : ((Sg) ⊕ (Int32 × Sg))), T_X9_paste_80 p1 p2 p4 n p5 S = some q → (∀ (S9 : Sg), q = .inl S9 → Go X l rm_X9_paste (wM G) 7 152 [(0, .ref (G.2.1 0)), (1, .int p1), (2, .int p2), (4, .int p4)] [] S9) → (∀ (rS : Int32 × Sg), q = .inr rS → ∀ pc ls, decode cX9_paste pc = .ok (.ireturn, 1) → Go X l rm_X9_paste (wM G) 7 pc ls [.int rS.1] rS.2) → Go X l rm_X9_paste (wM G) 7 80 [(0, .ref (G.2.1 0)), (1, .int p1), (2, .int p2), (4, .int p4), (5, .int p5)] [] S := by
  intro n
  induction n with
  | zero =>
    intro p5 S q hF
    cases hF
  | succ n ih =>
    intro p5 S q hF hE hR
    rw [T_X9_paste_80] at hF
    refine go_iload O dX9_paste_80 4 rfl ?_
    refine go_if_eq (tgt := 152) O dX9_paste_82 (by decide) (fun hc33 => ?_) (fun hc33 => ?_)
    · replace hF := it_t hc33 hF
      refine go_perm (ls' := [(0, .ref (G.2.1 0)), (1, .int p1), (2, .int p2), (4, .int p4)]) [0, 1, 2, 3] rfl ?_
      exact ret_q hF (fun hq => hE _ hq)
    · replace hF := it_f hc33 hF
      refine go_aload_n O dX9_paste_85 rfl 0 rfl ?_
      refine go_iload_n O dX9_paste_86 rfl 1 rfl ?_
      obtain ⟨⟨x18, S19⟩, hA17, hF⟩ := bd_s hF
      refine go_callVi (As := [.int p1]) (rest := []) (b := 0) O (c_X9_isSafePasted l G hI hA17) (fun s args hts => cwV 1 hts gX9_paste_X9_isSafePasted rfl rfl rfl (by decide +kernel) ⟨Nat.le_of_ble_eq_true rfl, Nat.le_of_ble_eq_true rfl⟩) (by decide : (0 : Nat) < 27) (cm_obj G (S.1 0) (S.2 0)) rfl rfl rfl rfl (Nat.le_of_ble_eq_true rfl) dX9_paste_87 ?_
      refine go_if_eq (tgt := 143) O dX9_paste_90 (by decide) (fun hc32 => ?_) (fun hc32 => ?_)
      · replace hF := it_t hc32 hF
        refine go_aload_n O dX9_paste_143 rfl 0 rfl ?_
        obtain ⟨⟨x21, S22⟩, hA20, hF⟩ := bd_s hF
        refine go_callVi (As := []) (rest := []) (b := 0) O (c_X9_nextPasted l G hI hA20) (fun s args hts => cwV 0 hts gX9_paste_X9_nextPasted rfl rfl rfl (by decide +kernel) ⟨Nat.le_of_ble_eq_true rfl, Nat.le_of_ble_eq_true rfl⟩) (by decide : (0 : Nat) < 27) (cm_obj G (S19.1 0) (S19.2 0)) rfl rfl rfl rfl (Nat.le_of_ble_eq_true rfl) dX9_paste_144 ?_
        refine go_istore (ls' := [(5, .int x21), (0, .ref (G.2.1 0)), (1, .int p1), (2, .int p2), (4, .int p4)]) O dX9_paste_147 (by decide) rfl ?_
        refine go_goto (tgt := 80) O dX9_paste_149 (by decide) ?_
        refine go_perm (ls' := [(0, .ref (G.2.1 0)), (1, .int p1), (2, .int p2), (4, .int p4), (5, .int x21)]) [1, 2, 3, 4, 0] rfl ?_
        exact ih _ _ _ hF hE hR
      · replace hF := it_f hc32 hF
        refine go_aload_n O dX9_paste_93 rfl 0 rfl ?_
        refine go_iload_n O dX9_paste_94 rfl 2 rfl ?_
        refine go_aload_n O dX9_paste_95 rfl 0 rfl ?_
        refine go_get (k := 0) (j := 8) O (by decide : (0 : Nat) < 27) (cm_obj G (S19.1 0) (S19.2 0)) rfl in_X9_paste_X9 (by decide) fl_X9_paste_150 rfl rfl dX9_paste_96 ?_
        obtain ⟨⟨x24, S25⟩, hA23, hF⟩ := bd_s hF
        refine go_callVi (As := [.int p2, .int (S19.1 0 8)]) (rest := []) (b := 0) O (c_X9_row l G hI hA23) (fun s args hts => cwV 2 hts gX9_paste_X9_row rfl rfl rfl (by decide +kernel) ⟨Nat.le_of_ble_eq_true rfl, Nat.le_of_ble_eq_true rfl⟩) (by decide : (0 : Nat) < 27) (cm_obj G (S19.1 0) (S19.2 0)) rfl rfl rfl rfl (Nat.le_of_ble_eq_true rfl) dX9_paste_99 ?_
        refine go_pop O dX9_paste_102 rfl ?_
        refine go_iconst (v := (0 : Int32)) O dX9_paste_103 (by decide) ?_
        refine go_istore (ls' := [(6, .int (0 : Int32)), (0, .ref (G.2.1 0)), (1, .int p1), (2, .int p2), (4, .int p4), (5, .int p5)]) O dX9_paste_104 (by decide) rfl ?_
        refine go_perm (ls' := [(0, .ref (G.2.1 0)), (2, .int p2), (4, .int p4), (6, .int (0 : Int32))]) [1, 3, 4, 0] rfl ?_
        obtain ⟨S26, hA31, hF⟩ := bd_s hF
        refine lt_X9_paste_106 l G hI  O _ _ _ _ hA31 ?_
        refine go_iload O dX9_paste_140 0 rfl ?_
        exact ret_q hF (fun hq => hR _ hq _ _ dX9_paste_142)
def T_X9_paste_28   (p1 : Int32) (p2 : Int32) : Nat → Int32 → Sg → Option ((Sg) ⊕ (Int32 × Sg))
  | 0, _, _ => none
  | n + 1, p4, S => if (6 : Int32) < p4 then (some (.inl S)) else (bd (T_X9_paste_38 p1 p2 p4 FU (0 : Int32) S) (fun S7 => bd (T_X9_paste_80 p1 p2 p4 FU (1 : Int32) S7) (fun q => match q with | .inl S16 => T_X9_paste_28 p1 p2 n (p4 + (1 : Int32)) S16 | .inr r => some (.inr r))))
set_option maxHeartbeats 4000000 in
set_option maxRecDepth 100000 in
theorem lt_X9_paste_28 {X : XT} (l : Launch) (G : Gp) (hI : Ij (wM G))   {p1 : Int32} {p2 : Int32} (O : Ok X (wM G) cX9_paste RX9 wsX9_paste 7) : ∀ (n : Nat) (p4 : Int32) (S : Sg) (q : ((Sg) ⊕ (Int32 × Sg))), T_X9_paste_28 p1 p2 n p4 S = some q → (∀ (S9 : Sg), q = .inl S9 → Go X l rm_X9_paste (wM G) 7 158 [] [] S9) → (∀ (rS : Int32 × Sg), q = .inr rS → ∀ pc ls, decode cX9_paste pc = .ok (.ireturn, 1) → Go X l rm_X9_paste (wM G) 7 pc ls [.int rS.1] rS.2) → Go X l rm_X9_paste (wM G) 7 28 [(0, .ref (G.2.1 0)), (1, .int p1), (2, .int p2), (4, .int p4)] [] S := by
  intro n
  induction n with
  | zero =>
    intro p4 S q hF
    cases hF
  | succ n ih =>
    intro p4 S q hF hE hR
    rw [T_X9_paste_28] at hF
    refine go_iload O dX9_paste_28 3 rfl ?_
    refine go_bipush (v := (6 : Int32)) O dX9_paste_30 (by decide) ?_
    refine go_icmp_gt (tgt := 158) O dX9_paste_32 (by decide) (fun hc36 => ?_) (fun hc36 => ?_)
    · replace hF := it_t hc36 hF
      refine go_perm (ls' := []) [] rfl ?_
      exact ret_q hF (fun hq => hE _ hq)
    · replace hF := it_f hc36 hF
      refine go_iconst (v := (0 : Int32)) O dX9_paste_35 (by decide) ?_
      refine go_istore (ls' := [(5, .int (0 : Int32)), (0, .ref (G.2.1 0)), (1, .int p1), (2, .int p2), (4, .int p4)]) O dX9_paste_36 (by decide) rfl ?_
      refine go_perm (ls' := [(0, .ref (G.2.1 0)), (1, .int p1), (2, .int p2), (4, .int p4), (5, .int (0 : Int32))]) [1, 2, 3, 4, 0] rfl ?_
      obtain ⟨S7, hA15, hF⟩ := bd_s hF
      refine lt_X9_paste_38 l G hI  O _ _ _ _ hA15 ?_
      refine go_iconst (v := (1 : Int32)) O dX9_paste_77 (by decide) ?_
      refine go_istore (ls' := [(5, .int (1 : Int32)), (0, .ref (G.2.1 0)), (1, .int p1), (2, .int p2), (4, .int p4)]) O dX9_paste_78 (by decide) rfl ?_
      refine go_perm (ls' := [(0, .ref (G.2.1 0)), (1, .int p1), (2, .int p2), (4, .int p4), (5, .int (1 : Int32))]) [1, 2, 3, 4, 0] rfl ?_
      obtain ⟨q35, hA34, hF⟩ := bd_s hF
      refine lt_X9_paste_80 l G hI  O _ _ _ _ hA34 (fun S16 hq => ?_) ?_
      · subst hq
        refine go_iinc (d := (1 : Int32)) (ls' := [(4, .int (p4 + (1 : Int32))), (0, .ref (G.2.1 0)), (1, .int p1), (2, .int p2)]) O dX9_paste_152 3 rfl (by decide) (by decide) rfl ?_
        refine go_goto (tgt := 28) O dX9_paste_155 (by decide) ?_
        refine go_perm (ls' := [(0, .ref (G.2.1 0)), (1, .int p1), (2, .int p2), (4, .int (p4 + (1 : Int32)))]) [1, 2, 3, 0] rfl ?_
        exact ih _ _ _ hF hE hR
      · intro r hq pc ls hd
        subst hq
        exact ret_q hF (fun hq => hR _ hq _ _ hd)
def F_X9_paste  (S : Sg) (a1 : Int32) (a2 : Int32) : Option (Int32 × Sg) := if a1 < 0 then (some ((-1 : Int32), S)) else (bd (F_X9_isRow S a2) (fun x2 => if x2 = 0 then (some ((-1 : Int32), S)) else (bd (F_X9_lacksTalk S a1) (fun (x4, S5) => if 0 ≤ x4 then (bd (T_X9_paste_28 a1 a2 FU (0 : Int32) S5) (fun q => match q with | .inl S6 => some ((-9 : Int32), S6) | .inr r => some r)) else (some (x4, S5))))))
set_option maxHeartbeats 4000000 in
set_option maxRecDepth 100000 in
theorem c_X9_paste (l : Launch) (G : Gp) (hI : Ij (wM G))  {S : Sg} {a1 : Int32} {a2 : Int32} {r : Int32} {S1 : Sg} (hF : F_X9_paste S a1 a2 = some (r, S1)) : Met l yX9_paste wsX9_paste rm_X9_paste (va_Pc [.ref (G.2.1 0), .int a1, .int a2] (PreW (wM G) S)) (va_Qi (fun r' u => r' = r ∧ u = S1) (PostW (wM G)) (AW (wM G))) 0 0 (AW (wM G)) := by
  rw [F_X9_paste] at hF
  refine met_i (cc := cX9_paste) (maxL := 7) (own := RX9) hI (by decide) rfl rfl (Nat.le_of_ble_eq_true rfl) (fun X O hR => ?_)
  show Go X l rm_X9_paste (wM G) 7 0 [(0, .ref (G.2.1 0)), (1, .int a1), (2, .int a2)] [] S
  refine go_iload_n O dX9_paste_0 rfl 1 rfl ?_
  refine go_if_lt (tgt := 11) O dX9_paste_1 (by decide) (fun hc41 => ?_) (fun hc41 => ?_)
  · replace hF := it_t hc41 hF
    refine go_iconst (v := (-1 : Int32)) O dX9_paste_11 (by decide) ?_
    exact ret_wi hF (hR _ _ dX9_paste_12)
  · replace hF := it_f hc41 hF
    refine go_iload_n O dX9_paste_4 rfl 2 rfl ?_
    obtain ⟨x2, hA1, hF⟩ := bd_s hF
    refine go_callSi (As := [.int a2]) (rest := []) O (c_X9_isRow l G hI hA1) (fun s args hts => va_cwS 1 hts gX9_paste_X9_isRow rfl rfl rfl (by decide +kernel) ⟨Nat.le_of_ble_eq_true rfl, Nat.le_of_ble_eq_true rfl⟩) rfl rfl (Nat.le_of_ble_eq_true rfl) dX9_paste_5 ?_
    refine go_if_ne (tgt := 13) O dX9_paste_8 (by decide) (fun hc40 => ?_) (fun hc40 => ?_)
    · replace hF := it_f hc40 hF
      refine go_aload_n O dX9_paste_13 rfl 0 rfl ?_
      refine go_iload_n O dX9_paste_14 rfl 1 rfl ?_
      obtain ⟨⟨x4, S5⟩, hA3, hF⟩ := bd_s hF
      refine go_callVi (As := [.int a1]) (rest := []) (b := 0) O (c_X9_lacksTalk l G hI hA3) (fun s args hts => cwV 1 hts gX9_paste_X9_lacksTalk rfl rfl rfl (by decide +kernel) ⟨Nat.le_of_ble_eq_true rfl, Nat.le_of_ble_eq_true rfl⟩) (by decide : (0 : Nat) < 27) (cm_obj G (S.1 0) (S.2 0)) rfl rfl rfl rfl (Nat.le_of_ble_eq_true rfl) dX9_paste_15 ?_
      refine go_istore_n (ls' := [(3, .int x4), (0, .ref (G.2.1 0)), (1, .int a1), (2, .int a2)]) O dX9_paste_18 rfl (by decide) rfl ?_
      refine go_iload_n O dX9_paste_19 rfl 0 rfl ?_
      refine go_if_ge (tgt := 25) O dX9_paste_20 (by decide) (fun hc39 => ?_) (fun hc39 => ?_)
      · replace hF := it_t hc39 hF
        refine go_iconst (v := (0 : Int32)) O dX9_paste_25 (by decide) ?_
        refine go_istore (ls' := [(4, .int (0 : Int32)), (3, .int x4), (0, .ref (G.2.1 0)), (1, .int a1), (2, .int a2)]) O dX9_paste_26 (by decide) rfl ?_
        refine go_perm (ls' := [(0, .ref (G.2.1 0)), (1, .int a1), (2, .int a2), (4, .int (0 : Int32))]) [2, 3, 4, 0] rfl ?_
        obtain ⟨q38, hA37, hF⟩ := bd_s hF
        refine lt_X9_paste_28 l G hI  O _ _ _ _ hA37 (fun S6 hq => ?_) ?_
        · subst hq
          refine go_bipush (v := (-9 : Int32)) O dX9_paste_158 (by decide) ?_
          exact ret_wi hF (hR _ _ dX9_paste_160)
        · intro r hq pc ls hd
          subst hq
          exact ret_pi hF (hR _ _ hd)
      · replace hF := it_f hc39 hF
        refine go_iload_n O dX9_paste_23 rfl 0 rfl ?_
        exact ret_wi hF (hR _ _ dX9_paste_24)
    · replace hF := it_t hc40 hF
      refine go_iconst (v := (-1 : Int32)) O dX9_paste_11 (by decide) ?_
      exact ret_wi hF (hR _ _ dX9_paste_12)
-- X9_tearOff
def rm_X9_tearOff : Room := { frames := 5, cells := 0, slots := 0, locals := 112 }
theorem fl_X9_tearOff_28 : Cond.fieldLink RX9 28 "PaperWallsModel" "layers" "[I" ∈ wsX9_tearOff := by decide +kernel
theorem fl_X9_tearOff_150 : Cond.fieldLink RX9 150 "PaperWallsModel" "walls" "I" ∈ wsX9_tearOff := by decide +kernel
theorem in_X9_tearOff_X9 : ∀ x ∈ u_ws RX9 TX9 36, x ∈ wsX9_tearOff := by decide +kernel
def T_X9_tearOff_59   (p1 : Int32) (p2 : Int32) (p5 : Int32) (p6 : Int32) : Nat → Int32 → Int32 → Int32 → Sg → Option (Int32 × Int32 × Sg)
  | 0, _, _, _, _ => none
  | n + 1, p3, p4, p7, S => if p6 < p7 then (some (p3, p4, S)) else (if p3 ≤ p7 then (some (p3, p4, S)) else (chk (inB p5 6) (nm (wI S 7 p5.toNatClampNeg (p6 - p7)) (fun S14 => bd (F_X9_doesHear S14 p1 p2) (fun x16 => bd (if x16 = 0 then (some (p3, p4)) else (some (p7, p5))) (fun (x17, x18) => T_X9_tearOff_59 p1 p2 p5 p6 n x17 x18 (p7 + (1 : Int32)) S14))))))
set_option maxHeartbeats 4000000 in
set_option maxRecDepth 100000 in
theorem lt_X9_tearOff_59 {X : XT} (l : Launch) (G : Gp) (hI : Ij (wM G))   {p1 : Int32} {p2 : Int32} {p5 : Int32} {p6 : Int32} (O : Ok X (wM G) cX9_tearOff RX9 wsX9_tearOff 8) : ∀ (n : Nat) (p3 : Int32) (p4 : Int32) (p7 : Int32) (S : Sg) (q : (Int32 × Int32 × Sg)), T_X9_tearOff_59 p1 p2 p5 p6 n p3 p4 p7 S = some q → (Go X l rm_X9_tearOff (wM G) 8 106 [(0, .ref (G.2.1 0)), (1, .int p1), (2, .int p2), (3, .int q.1), (4, .int q.2.1), (5, .int p5), (6, .int p6)] [] q.2.2) → Go X l rm_X9_tearOff (wM G) 8 59 [(0, .ref (G.2.1 0)), (1, .int p1), (2, .int p2), (3, .int p3), (4, .int p4), (5, .int p5), (6, .int p6), (7, .int p7)] [] S := by
  intro n
  induction n with
  | zero =>
    intro p3 p4 p7 S q hF
    cases hF
  | succ n ih =>
    intro p3 p4 p7 S q hF hE
    rw [T_X9_tearOff_59] at hF
    refine go_iload O dX9_tearOff_59 7 rfl ?_
    refine go_iload O dX9_tearOff_61 6 rfl ?_
    refine go_icmp_gt (tgt := 106) O dX9_tearOff_63 (by decide) (fun hc23 => ?_) (fun hc23 => ?_)
    · replace hF := it_t hc23 hF
      refine go_perm (ls' := [(0, .ref (G.2.1 0)), (1, .int p1), (2, .int p2), (3, .int p3), (4, .int p4), (5, .int p5), (6, .int p6)]) [0, 1, 2, 3, 4, 5, 6] rfl ?_
      exact jn (P := fun q => Go X l rm_X9_tearOff (wM G) 8 106 [(0, .ref (G.2.1 0)), (1, .int p1), (2, .int p2), (3, .int q.1), (4, .int q.2.1), (5, .int p5), (6, .int p6)] [] q.2.2) hF hE
    · replace hF := it_f hc23 hF
      refine go_iload O dX9_tearOff_66 7 rfl ?_
      refine go_iload_n O dX9_tearOff_68 rfl 3 rfl ?_
      refine go_icmp_ge (tgt := 106) O dX9_tearOff_69 (by decide) (fun hc22 => ?_) (fun hc22 => ?_)
      · replace hF := it_t hc22 hF
        refine go_perm (ls' := [(0, .ref (G.2.1 0)), (1, .int p1), (2, .int p2), (3, .int p3), (4, .int p4), (5, .int p5), (6, .int p6)]) [0, 1, 2, 3, 4, 5, 6] rfl ?_
        exact jn (P := fun q => Go X l rm_X9_tearOff (wM G) 8 106 [(0, .ref (G.2.1 0)), (1, .int p1), (2, .int p2), (3, .int q.1), (4, .int q.2.1), (5, .int p5), (6, .int p6)] [] q.2.2) hF hE
      · replace hF := it_f hc22 hF
        refine go_aload_n O dX9_tearOff_72 rfl 0 rfl ?_
        refine go_get (k := 0) (j := 6) O (by decide : (0 : Nat) < 27) (cm_obj G (S.1 0) (S.2 0)) rfl in_X9_tearOff_X9 (by decide) fl_X9_tearOff_28 rfl rfl dX9_tearOff_73 ?_
        refine go_iload O dX9_tearOff_76 5 rfl ?_
        refine go_iload O dX9_tearOff_78 6 rfl ?_
        refine go_iload O dX9_tearOff_80 7 rfl ?_
        refine go_isub O dX9_tearOff_82 ?_
        obtain ⟨hb13, hF⟩ := chk_s hF
        obtain ⟨S14, eS14, hF⟩ := nm_s hF
        refine go_iast (k := 7) O (by decide : (7 : Nat) < 27) (fun f => (cm_7 G f (S.2 7))) (inB_in hb13) dX9_tearOff_83 eS14 ?_
        refine go_aload_n O dX9_tearOff_84 rfl 0 rfl ?_
        refine go_iload_n O dX9_tearOff_85 rfl 1 rfl ?_
        refine go_iload_n O dX9_tearOff_86 rfl 2 rfl ?_
        obtain ⟨x16, hA15, hF⟩ := bd_s hF
        refine go_callVi (As := [.int p1, .int p2]) (rest := []) (b := 0) O (c_X9_doesHear l G hI hA15) (fun s args hts => cwV 2 hts gX9_tearOff_X9_doesHear rfl rfl rfl (by decide +kernel) ⟨Nat.le_of_ble_eq_true rfl, Nat.le_of_ble_eq_true rfl⟩) (by decide : (0 : Nat) < 27) (cm_obj G (S14.1 0) (S14.2 0)) rfl rfl rfl rfl (Nat.le_of_ble_eq_true rfl) dX9_tearOff_87 ?_
        obtain ⟨⟨x17, x18⟩, hA20, hF⟩ := bd_s hF
        have J19 : Go X l rm_X9_tearOff (wM G) 8 100 [(0, .ref (G.2.1 0)), (1, .int p1), (2, .int p2), (3, .int x17), (4, .int x18), (5, .int p5), (6, .int p6), (7, .int p7)] [] S14 := by
          refine go_iinc (d := (1 : Int32)) (ls' := [(7, .int (p7 + (1 : Int32))), (0, .ref (G.2.1 0)), (1, .int p1), (2, .int p2), (3, .int x17), (4, .int x18), (5, .int p5), (6, .int p6)]) O dX9_tearOff_100 7 rfl (by decide) (by decide) rfl ?_
          refine go_goto (tgt := 59) O dX9_tearOff_103 (by decide) ?_
          refine go_perm (ls' := [(0, .ref (G.2.1 0)), (1, .int p1), (2, .int p2), (3, .int x17), (4, .int x18), (5, .int p5), (6, .int p6), (7, .int (p7 + (1 : Int32)))]) [1, 2, 3, 4, 5, 6, 7, 0] rfl ?_
          exact ih _ _ _ _ _ hF hE
        replace hF := hA20
        refine go_if_eq (tgt := 100) O dX9_tearOff_90 (by decide) (fun hc21 => ?_) (fun hc21 => ?_)
        · replace hF := it_t hc21 hF
          exact jn (P := fun q => Go X l rm_X9_tearOff (wM G) 8 100 [(0, .ref (G.2.1 0)), (1, .int p1), (2, .int p2), (3, .int q.1), (4, .int q.2), (5, .int p5), (6, .int p6), (7, .int p7)] [] S14) hF J19
        · replace hF := it_f hc21 hF
          refine go_iload O dX9_tearOff_93 7 rfl ?_
          refine go_istore_n (ls' := [(3, .int p7), (0, .ref (G.2.1 0)), (1, .int p1), (2, .int p2), (4, .int p4), (5, .int p5), (6, .int p6), (7, .int p7)]) O dX9_tearOff_95 rfl (by decide) rfl ?_
          refine go_iload O dX9_tearOff_96 5 rfl ?_
          refine go_istore (ls' := [(4, .int p5), (3, .int p7), (0, .ref (G.2.1 0)), (1, .int p1), (2, .int p2), (5, .int p5), (6, .int p6), (7, .int p7)]) O dX9_tearOff_98 (by decide) rfl ?_
          refine go_perm (ls' := [(0, .ref (G.2.1 0)), (1, .int p1), (2, .int p2), (3, .int p7), (4, .int p5), (5, .int p5), (6, .int p6), (7, .int p7)]) [2, 3, 4, 1, 0, 5, 6, 7] rfl ?_
          exact jn (P := fun q => Go X l rm_X9_tearOff (wM G) 8 100 [(0, .ref (G.2.1 0)), (1, .int p1), (2, .int p2), (3, .int q.1), (4, .int q.2), (5, .int p5), (6, .int p6), (7, .int p7)] [] S14) hF J19
def T_X9_tearOff_38   (p1 : Int32) (p2 : Int32) : Nat → Int32 → Int32 → Int32 → Sg → Option (Int32 × Int32 × Sg)
  | 0, _, _, _, _ => none
  | n + 1, p3, p4, p5, S => if (S.1 0 8) ≤ p5 then (some (p3, p4, S)) else (chk (inB p5 6) (nm (S.1 7 p5.toNatClampNeg) (fun x9 => bd (T_X9_tearOff_59 p1 p2 p5 x9 FU p3 p4 (1 : Int32) S) (fun (x10, x11, S12) => chk (inB p5 6) (nm (wI S12 7 p5.toNatClampNeg x9) (fun S26 => T_X9_tearOff_38 p1 p2 n x10 x11 (p5 + (1 : Int32)) S26))))))
set_option maxHeartbeats 4000000 in
set_option maxRecDepth 100000 in
theorem lt_X9_tearOff_38 {X : XT} (l : Launch) (G : Gp) (hI : Ij (wM G))   {p1 : Int32} {p2 : Int32} (O : Ok X (wM G) cX9_tearOff RX9 wsX9_tearOff 8) : ∀ (n : Nat) (p3 : Int32) (p4 : Int32) (p5 : Int32) (S : Sg) (q : (Int32 × Int32 × Sg)), T_X9_tearOff_38 p1 p2 n p3 p4 p5 S = some q → (Go X l rm_X9_tearOff (wM G) 8 121 [(0, .ref (G.2.1 0)), (3, .int q.1), (4, .int q.2.1)] [] q.2.2) → Go X l rm_X9_tearOff (wM G) 8 38 [(0, .ref (G.2.1 0)), (1, .int p1), (2, .int p2), (3, .int p3), (4, .int p4), (5, .int p5)] [] S := by
  intro n
  induction n with
  | zero =>
    intro p3 p4 p5 S q hF
    cases hF
  | succ n ih =>
    intro p3 p4 p5 S q hF hE
    rw [T_X9_tearOff_38] at hF
    refine go_iload O dX9_tearOff_38 5 rfl ?_
    refine go_aload_n O dX9_tearOff_40 rfl 0 rfl ?_
    refine go_get (k := 0) (j := 8) O (by decide : (0 : Nat) < 27) (cm_obj G (S.1 0) (S.2 0)) rfl in_X9_tearOff_X9 (by decide) fl_X9_tearOff_150 rfl rfl dX9_tearOff_41 ?_
    refine go_icmp_ge (tgt := 121) O dX9_tearOff_44 (by decide) (fun hc27 => ?_) (fun hc27 => ?_)
    · replace hF := it_t hc27 hF
      refine go_perm (ls' := [(0, .ref (G.2.1 0)), (3, .int p3), (4, .int p4)]) [0, 3, 4] rfl ?_
      exact jn (P := fun q => Go X l rm_X9_tearOff (wM G) 8 121 [(0, .ref (G.2.1 0)), (3, .int q.1), (4, .int q.2.1)] [] q.2.2) hF hE
    · replace hF := it_f hc27 hF
      refine go_aload_n O dX9_tearOff_47 rfl 0 rfl ?_
      refine go_get (k := 0) (j := 6) O (by decide : (0 : Nat) < 27) (cm_obj G (S.1 0) (S.2 0)) rfl in_X9_tearOff_X9 (by decide) fl_X9_tearOff_28 rfl rfl dX9_tearOff_48 ?_
      refine go_iload O dX9_tearOff_51 5 rfl ?_
      obtain ⟨hb8, hF⟩ := chk_s hF
      refine go_iald (k := 7) O (by decide : (7 : Nat) < 27) (cm_7 G (S.1 7) (S.2 7)) (inB_in hb8) dX9_tearOff_53 ?_
      obtain ⟨x9, ex9, hF⟩ := nm_s hF
      refine go_topi ex9 ?_
      refine go_istore (ls' := [(6, .int x9), (0, .ref (G.2.1 0)), (1, .int p1), (2, .int p2), (3, .int p3), (4, .int p4), (5, .int p5)]) O dX9_tearOff_54 (by decide) rfl ?_
      refine go_iconst (v := (1 : Int32)) O dX9_tearOff_56 (by decide) ?_
      refine go_istore (ls' := [(7, .int (1 : Int32)), (6, .int x9), (0, .ref (G.2.1 0)), (1, .int p1), (2, .int p2), (3, .int p3), (4, .int p4), (5, .int p5)]) O dX9_tearOff_57 (by decide) rfl ?_
      refine go_perm (ls' := [(0, .ref (G.2.1 0)), (1, .int p1), (2, .int p2), (3, .int p3), (4, .int p4), (5, .int p5), (6, .int x9), (7, .int (1 : Int32))]) [2, 3, 4, 5, 6, 7, 1, 0] rfl ?_
      obtain ⟨⟨x10, x11, S12⟩, hA24, hF⟩ := bd_s hF
      refine lt_X9_tearOff_59 l G hI  O _ _ _ _ _ _ hA24 ?_
      refine go_aload_n O dX9_tearOff_106 rfl 0 rfl ?_
      refine go_get (k := 0) (j := 6) O (by decide : (0 : Nat) < 27) (cm_obj G (S12.1 0) (S12.2 0)) rfl in_X9_tearOff_X9 (by decide) fl_X9_tearOff_28 rfl rfl dX9_tearOff_107 ?_
      refine go_iload O dX9_tearOff_110 5 rfl ?_
      refine go_iload O dX9_tearOff_112 6 rfl ?_
      obtain ⟨hb25, hF⟩ := chk_s hF
      obtain ⟨S26, eS26, hF⟩ := nm_s hF
      refine go_iast (k := 7) O (by decide : (7 : Nat) < 27) (fun f => (cm_7 G f (S12.2 7))) (inB_in hb25) dX9_tearOff_114 eS26 ?_
      refine go_iinc (d := (1 : Int32)) (ls' := [(5, .int (p5 + (1 : Int32))), (0, .ref (G.2.1 0)), (1, .int p1), (2, .int p2), (3, .int x10), (4, .int x11), (6, .int x9)]) O dX9_tearOff_115 5 rfl (by decide) (by decide) rfl ?_
      refine go_goto (tgt := 38) O dX9_tearOff_118 (by decide) ?_
      refine go_perm (ls' := [(0, .ref (G.2.1 0)), (1, .int p1), (2, .int p2), (3, .int x10), (4, .int x11), (5, .int (p5 + (1 : Int32)))]) [1, 2, 3, 4, 5, 0] rfl ?_
      exact ih _ _ _ _ _ hF hE
def F_X9_tearOff  (S : Sg) (a1 : Int32) (a2 : Int32) : Option (Int32 × Sg) := bd (F_X9_areTwo S a1 a2) (fun x2 => if x2 = 0 then (some ((-1 : Int32), S)) else (bd (F_X9_doesHear S a1 a2) (fun x4 => if x4 = 0 then (bd (T_X9_tearOff_38 a1 a2 FU (100 : Int32) (-9 : Int32) (0 : Int32) S) (fun (x5, x6, S7) => if 0 ≤ x6 then (bd (F_X9_say S7 x5 x6) (fun (x30, S31) => some (x30, S31))) else (some ((-9 : Int32), S7)))) else (bd (F_X9_say S (0 : Int32) (-9 : Int32)) (fun (x34, S35) => some (x34, S35))))))
set_option maxHeartbeats 4000000 in
set_option maxRecDepth 100000 in
theorem c_X9_tearOff (l : Launch) (G : Gp) (hI : Ij (wM G))  {S : Sg} {a1 : Int32} {a2 : Int32} {r : Int32} {S1 : Sg} (hF : F_X9_tearOff S a1 a2 = some (r, S1)) : Met l yX9_tearOff wsX9_tearOff rm_X9_tearOff (va_Pc [.ref (G.2.1 0), .int a1, .int a2] (PreW (wM G) S)) (va_Qi (fun r' u => r' = r ∧ u = S1) (PostW (wM G)) (AW (wM G))) 0 0 (AW (wM G)) := by
  rw [F_X9_tearOff] at hF
  refine met_i (cc := cX9_tearOff) (maxL := 8) (own := RX9) hI (by decide) rfl rfl (Nat.le_of_ble_eq_true rfl) (fun X O hR => ?_)
  show Go X l rm_X9_tearOff (wM G) 8 0 [(0, .ref (G.2.1 0)), (1, .int a1), (2, .int a2)] [] S
  refine go_aload_n O dX9_tearOff_0 rfl 0 rfl ?_
  refine go_iload_n O dX9_tearOff_1 rfl 1 rfl ?_
  refine go_iload_n O dX9_tearOff_2 rfl 2 rfl ?_
  obtain ⟨x2, hA1, hF⟩ := bd_s hF
  refine go_callVi (As := [.int a1, .int a2]) (rest := []) (b := 0) O (c_X9_areTwo l G hI hA1) (fun s args hts => cwV 2 hts gX9_tearOff_X9_areTwo rfl rfl rfl (by decide +kernel) ⟨Nat.le_of_ble_eq_true rfl, Nat.le_of_ble_eq_true rfl⟩) (by decide : (0 : Nat) < 27) (cm_obj G (S.1 0) (S.2 0)) rfl rfl rfl rfl (Nat.le_of_ble_eq_true rfl) dX9_tearOff_3 ?_
  refine go_if_ne (tgt := 11) O dX9_tearOff_6 (by decide) (fun hc37 => ?_) (fun hc37 => ?_)
  · replace hF := it_f hc37 hF
    refine go_aload_n O dX9_tearOff_11 rfl 0 rfl ?_
    refine go_iload_n O dX9_tearOff_12 rfl 1 rfl ?_
    refine go_iload_n O dX9_tearOff_13 rfl 2 rfl ?_
    obtain ⟨x4, hA3, hF⟩ := bd_s hF
    refine go_callVi (As := [.int a1, .int a2]) (rest := []) (b := 0) O (c_X9_doesHear l G hI hA3) (fun s args hts => cwV 2 hts gX9_tearOff_X9_doesHear rfl rfl rfl (by decide +kernel) ⟨Nat.le_of_ble_eq_true rfl, Nat.le_of_ble_eq_true rfl⟩) (by decide : (0 : Nat) < 27) (cm_obj G (S.1 0) (S.2 0)) rfl rfl rfl rfl (Nat.le_of_ble_eq_true rfl) dX9_tearOff_14 ?_
    refine go_if_eq (tgt := 28) O dX9_tearOff_17 (by decide) (fun hc36 => ?_) (fun hc36 => ?_)
    · replace hF := it_t hc36 hF
      refine go_bipush (v := (100 : Int32)) O dX9_tearOff_28 (by decide) ?_
      refine go_istore_n (ls' := [(3, .int (100 : Int32)), (0, .ref (G.2.1 0)), (1, .int a1), (2, .int a2)]) O dX9_tearOff_30 rfl (by decide) rfl ?_
      refine go_bipush (v := (-9 : Int32)) O dX9_tearOff_31 (by decide) ?_
      refine go_istore (ls' := [(4, .int (-9 : Int32)), (3, .int (100 : Int32)), (0, .ref (G.2.1 0)), (1, .int a1), (2, .int a2)]) O dX9_tearOff_33 (by decide) rfl ?_
      refine go_iconst (v := (0 : Int32)) O dX9_tearOff_35 (by decide) ?_
      refine go_istore (ls' := [(5, .int (0 : Int32)), (4, .int (-9 : Int32)), (3, .int (100 : Int32)), (0, .ref (G.2.1 0)), (1, .int a1), (2, .int a2)]) O dX9_tearOff_36 (by decide) rfl ?_
      refine go_perm (ls' := [(0, .ref (G.2.1 0)), (1, .int a1), (2, .int a2), (3, .int (100 : Int32)), (4, .int (-9 : Int32)), (5, .int (0 : Int32))]) [3, 4, 5, 2, 1, 0] rfl ?_
      obtain ⟨⟨x5, x6, S7⟩, hA28, hF⟩ := bd_s hF
      refine lt_X9_tearOff_38 l G hI  O _ _ _ _ _ _ hA28 ?_
      refine go_iload O dX9_tearOff_121 2 rfl ?_
      refine go_if_ge (tgt := 131) O dX9_tearOff_123 (by decide) (fun hc32 => ?_) (fun hc32 => ?_)
      · replace hF := it_t hc32 hF
        refine go_aload_n O dX9_tearOff_131 rfl 0 rfl ?_
        refine go_iload_n O dX9_tearOff_132 rfl 1 rfl ?_
        refine go_iload O dX9_tearOff_133 2 rfl ?_
        obtain ⟨⟨x30, S31⟩, hA29, hF⟩ := bd_s hF
        refine go_callVi (As := [.int x5, .int x6]) (rest := []) (b := 0) O (c_X9_say l G hI hA29) (fun s args hts => cwV 2 hts gX9_tearOff_X9_say rfl rfl rfl (by decide +kernel) ⟨Nat.le_of_ble_eq_true rfl, Nat.le_of_ble_eq_true rfl⟩) (by decide : (0 : Nat) < 27) (cm_obj G (S7.1 0) (S7.2 0)) rfl rfl rfl rfl (Nat.le_of_ble_eq_true rfl) dX9_tearOff_135 ?_
        exact ret_wi hF (hR _ _ dX9_tearOff_138)
      · replace hF := it_f hc32 hF
        refine go_bipush (v := (-9 : Int32)) O dX9_tearOff_126 (by decide) ?_
        refine go_goto (tgt := 138) O dX9_tearOff_128 (by decide) ?_
        exact ret_wi hF (hR _ _ dX9_tearOff_138)
    · replace hF := it_f hc36 hF
      refine go_aload_n O dX9_tearOff_20 rfl 0 rfl ?_
      refine go_iconst (v := (0 : Int32)) O dX9_tearOff_21 (by decide) ?_
      refine go_bipush (v := (-9 : Int32)) O dX9_tearOff_22 (by decide) ?_
      obtain ⟨⟨x34, S35⟩, hA33, hF⟩ := bd_s hF
      refine go_callVi (As := [.int (0 : Int32), .int (-9 : Int32)]) (rest := []) (b := 0) O (c_X9_say l G hI hA33) (fun s args hts => cwV 2 hts gX9_tearOff_X9_say rfl rfl rfl (by decide +kernel) ⟨Nat.le_of_ble_eq_true rfl, Nat.le_of_ble_eq_true rfl⟩) (by decide : (0 : Nat) < 27) (cm_obj G (S.1 0) (S.2 0)) rfl rfl rfl rfl (Nat.le_of_ble_eq_true rfl) dX9_tearOff_24 ?_
      exact ret_wi hF (hR _ _ dX9_tearOff_27)
  · replace hF := it_t hc37 hF
    refine go_iconst (v := (-1 : Int32)) O dX9_tearOff_9 (by decide) ?_
    exact ret_wi hF (hR _ _ dX9_tearOff_10)
-- X9_rent
def rm_X9_rent : Room := { frames := 2, cells := 0, slots := 0, locals := 48 }
theorem fl_X9_rent_153 : Cond.fieldLink RX9 153 "PaperWallsModel" "people" "I" ∈ wsX9_rent := by decide +kernel
theorem in_X9_rent_X9 : ∀ x ∈ u_ws RX9 TX9 36, x ∈ wsX9_rent := by decide +kernel
def T_X9_rent_15  (S : Sg) (p1 : Int32) : Nat → Int32 → Int32 → Option (Int32)
  | 0, _, _ => none
  | n + 1, p2, p3 => if (S.1 0 7) ≤ p3 then (some p2) else (bd (F_X9_comesTo S p1 p3) (fun x5 => bd (F_X9_isHeard S (0 : Int32) x5 (0 : Int32)) (fun x7 => bd (if x7 = 0 then (some (0 : Int32)) else (some (2 : Int32))) (fun x8 => nm (p2 - x8) (fun x12 => T_X9_rent_15 S p1 n x12 (p3 + (1 : Int32)))))))
set_option maxHeartbeats 4000000 in
set_option maxRecDepth 100000 in
theorem lt_X9_rent_15 {X : XT} (l : Launch) (G : Gp) (hI : Ij (wM G))  {S : Sg} {p1 : Int32} (O : Ok X (wM G) cX9_rent RX9 wsX9_rent 4) : ∀ (n : Nat) (p2 : Int32) (p3 : Int32)  (q : (Int32)), T_X9_rent_15 S p1 n p2 p3  = some q → (Go X l rm_X9_rent (wM G) 4 51 [(2, .int q)] [] S) → Go X l rm_X9_rent (wM G) 4 15 [(0, .ref (G.2.1 0)), (1, .int p1), (2, .int p2), (3, .int p3)] [] S := by
  intro n
  induction n with
  | zero =>
    intro p2 p3  q hF
    cases hF
  | succ n ih =>
    intro p2 p3  q hF hE
    rw [T_X9_rent_15] at hF
    refine go_iload_n O dX9_rent_15 rfl 3 rfl ?_
    refine go_aload_n O dX9_rent_16 rfl 0 rfl ?_
    refine go_get (k := 0) (j := 7) O (by decide : (0 : Nat) < 27) (cm_obj G (S.1 0) (S.2 0)) rfl in_X9_rent_X9 (by decide) fl_X9_rent_153 rfl rfl dX9_rent_17 ?_
    refine go_icmp_ge (tgt := 51) O dX9_rent_20 (by decide) (fun hc13 => ?_) (fun hc13 => ?_)
    · replace hF := it_t hc13 hF
      refine go_perm (ls' := [(2, .int p2)]) [2] rfl ?_
      exact jn (P := fun q => Go X l rm_X9_rent (wM G) 4 51 [(2, .int q)] [] S) hF hE
    · replace hF := it_f hc13 hF
      refine go_iload_n O dX9_rent_23 rfl 2 rfl ?_
      refine go_iconst (v := (0 : Int32)) O dX9_rent_24 (by decide) ?_
      refine go_aload_n O dX9_rent_25 rfl 0 rfl ?_
      refine go_iload_n O dX9_rent_26 rfl 1 rfl ?_
      refine go_iload_n O dX9_rent_27 rfl 3 rfl ?_
      obtain ⟨x5, hA4, hF⟩ := bd_s hF
      refine go_callVi (As := [.int p1, .int p3]) (rest := [.int (0 : Int32), .int p2]) (b := 0) O (c_X9_comesTo l G hI hA4) (fun s args hts => cwV 2 hts gX9_rent_X9_comesTo rfl rfl rfl (by decide +kernel) ⟨Nat.le_of_ble_eq_true rfl, Nat.le_of_ble_eq_true rfl⟩) (by decide : (0 : Nat) < 27) (cm_obj G (S.1 0) (S.2 0)) rfl rfl rfl rfl (Nat.le_of_ble_eq_true rfl) dX9_rent_28 ?_
      refine go_iconst (v := (0 : Int32)) O dX9_rent_31 (by decide) ?_
      obtain ⟨x7, hA6, hF⟩ := bd_s hF
      refine go_callSi (As := [.int (0 : Int32), .int x5, .int (0 : Int32)]) (rest := [.int p2]) O (c_X9_isHeard l G hI hA6) (fun s args hts => va_cwS 3 hts gX9_rent_X9_isHeard rfl rfl rfl (by decide +kernel) ⟨Nat.le_of_ble_eq_true rfl, Nat.le_of_ble_eq_true rfl⟩) rfl rfl (Nat.le_of_ble_eq_true rfl) dX9_rent_32 ?_
      obtain ⟨x8, hA10, hF⟩ := bd_s hF
      have J9 : Go X l rm_X9_rent (wM G) 4 43 [(0, .ref (G.2.1 0)), (1, .int p1), (3, .int p3)] [.int x8, .int p2] S := by
        refine go_isub O dX9_rent_43 ?_
        obtain ⟨x12, ex12, hF⟩ := nm_s hF
        refine go_topi ex12 ?_
        refine go_istore_n (ls' := [(2, .int x12), (0, .ref (G.2.1 0)), (1, .int p1), (3, .int p3)]) O dX9_rent_44 rfl (by decide) rfl ?_
        refine go_iinc (d := (1 : Int32)) (ls' := [(3, .int (p3 + (1 : Int32))), (2, .int x12), (0, .ref (G.2.1 0)), (1, .int p1)]) O dX9_rent_45 3 rfl (by decide) (by decide) rfl ?_
        refine go_goto (tgt := 15) O dX9_rent_48 (by decide) ?_
        refine go_perm (ls' := [(0, .ref (G.2.1 0)), (1, .int p1), (2, .int x12), (3, .int (p3 + (1 : Int32)))]) [2, 3, 1, 0] rfl ?_
        exact ih _ _ _ hF hE
      replace hF := hA10
      refine go_if_eq (tgt := 42) O dX9_rent_35 (by decide) (fun hc11 => ?_) (fun hc11 => ?_)
      · replace hF := it_t hc11 hF
        refine go_iconst (v := (0 : Int32)) O dX9_rent_42 (by decide) ?_
        refine go_perm (ls' := [(0, .ref (G.2.1 0)), (1, .int p1), (3, .int p3)]) [0, 1, 3] rfl ?_
        exact jn (P := fun q => Go X l rm_X9_rent (wM G) 4 43 [(0, .ref (G.2.1 0)), (1, .int p1), (3, .int p3)] [.int q, .int p2] S) hF J9
      · replace hF := it_f hc11 hF
        refine go_iconst (v := (2 : Int32)) O dX9_rent_38 (by decide) ?_
        refine go_goto (tgt := 43) O dX9_rent_39 (by decide) ?_
        refine go_perm (ls' := [(0, .ref (G.2.1 0)), (1, .int p1), (3, .int p3)]) [0, 1, 3] rfl ?_
        exact jn (P := fun q => Go X l rm_X9_rent (wM G) 4 43 [(0, .ref (G.2.1 0)), (1, .int p1), (3, .int p3)] [.int q, .int p2] S) hF J9
def F_X9_rent  (S : Sg) (a1 : Int32) : Option Int32 := bd (F_X9_isRoom S a1) (fun x2 => if x2 = 0 then (some (-1 : Int32)) else (bd (T_X9_rent_15 S a1 FU (20 : Int32) (0 : Int32)) (fun x3 => if 0 ≤ x3 then (some x3) else (some (0 : Int32)))))
set_option maxHeartbeats 4000000 in
set_option maxRecDepth 100000 in
theorem c_X9_rent (l : Launch) (G : Gp) (hI : Ij (wM G))  {S : Sg} {a1 : Int32} {r : Int32} (hF : F_X9_rent S a1 = some r) : Met l yX9_rent wsX9_rent rm_X9_rent (va_Pc [.ref (G.2.1 0), .int a1] (PreW (wM G) S)) (va_Qi (fun r' u => r' = r ∧ u = S) (PostW (wM G)) (AW (wM G))) 0 0 (AW (wM G)) := by
  rw [F_X9_rent] at hF
  refine met_i (cc := cX9_rent) (maxL := 4) (own := RX9) hI (by decide) rfl rfl (Nat.le_of_ble_eq_true rfl) (fun X O hR => ?_)
  show Go X l rm_X9_rent (wM G) 4 0 [(0, .ref (G.2.1 0)), (1, .int a1)] [] S
  refine go_aload_n O dX9_rent_0 rfl 0 rfl ?_
  refine go_iload_n O dX9_rent_1 rfl 1 rfl ?_
  obtain ⟨x2, hA1, hF⟩ := bd_s hF
  refine go_callVi (As := [.int a1]) (rest := []) (b := 0) O (c_X9_isRoom l G hI hA1) (fun s args hts => cwV 1 hts gX9_rent_X9_isRoom rfl rfl rfl (by decide +kernel) ⟨Nat.le_of_ble_eq_true rfl, Nat.le_of_ble_eq_true rfl⟩) (by decide : (0 : Nat) < 27) (cm_obj G (S.1 0) (S.2 0)) rfl rfl rfl rfl (Nat.le_of_ble_eq_true rfl) dX9_rent_2 ?_
  refine go_if_ne (tgt := 10) O dX9_rent_5 (by decide) (fun hc16 => ?_) (fun hc16 => ?_)
  · replace hF := it_f hc16 hF
    refine go_bipush (v := (20 : Int32)) O dX9_rent_10 (by decide) ?_
    refine go_istore_n (ls' := [(2, .int (20 : Int32)), (0, .ref (G.2.1 0)), (1, .int a1)]) O dX9_rent_12 rfl (by decide) rfl ?_
    refine go_iconst (v := (0 : Int32)) O dX9_rent_13 (by decide) ?_
    refine go_istore_n (ls' := [(3, .int (0 : Int32)), (2, .int (20 : Int32)), (0, .ref (G.2.1 0)), (1, .int a1)]) O dX9_rent_14 rfl (by decide) rfl ?_
    refine go_perm (ls' := [(0, .ref (G.2.1 0)), (1, .int a1), (2, .int (20 : Int32)), (3, .int (0 : Int32))]) [2, 3, 1, 0] rfl ?_
    obtain ⟨x3, hA14, hF⟩ := bd_s hF
    refine lt_X9_rent_15 l G hI  O _ _ _ _ hA14 ?_
    refine go_iload_n O dX9_rent_51 rfl 0 rfl ?_
    refine go_if_ge (tgt := 59) O dX9_rent_52 (by decide) (fun hc15 => ?_) (fun hc15 => ?_)
    · replace hF := it_t hc15 hF
      refine go_iload_n O dX9_rent_59 rfl 0 rfl ?_
      exact ret_i hF (hR _ _ dX9_rent_60)
    · replace hF := it_f hc15 hF
      refine go_iconst (v := (0 : Int32)) O dX9_rent_55 (by decide) ?_
      refine go_goto (tgt := 60) O dX9_rent_56 (by decide) ?_
      exact ret_i hF (hR _ _ dX9_rent_60)
  · replace hF := it_t hc16 hF
    refine go_iconst (v := (-1 : Int32)) O dX9_rent_8 (by decide) ?_
    exact ret_i hF (hR _ _ dX9_rent_9)
-- X9_isThing
def rm_X9_isThing : Room := { frames := 1, cells := 0, slots := 0, locals := 25 }
theorem wd_X9_isThing_c255 : Cond.constantLong RX9 255 (7) ∈ wsX9_isThing := by decide +kernel
def F_X9_isThing  (S : Sg) (a0 : Int32) : Option Int32 := bd (F_X9_in S (Int32.toInt64 a0) (0 : Int64) (7 : Int64)) (fun x2 => chk (zB x2) (some x2))
set_option maxHeartbeats 4000000 in
set_option maxRecDepth 100000 in
theorem c_X9_isThing (l : Launch) (G : Gp) (hI : Ij (wM G))  {S : Sg} {a0 : Int32} {r : Int32} (hF : F_X9_isThing S a0 = some r) : Met l yX9_isThing wsX9_isThing rm_X9_isThing (va_Pc [.int a0] (PreW (wM G) S)) (va_Qi (fun r' u => r' = r ∧ u = S) (PostW (wM G)) (AW (wM G))) 0 0 (AW (wM G)) := by
  rw [F_X9_isThing] at hF
  refine met_z (cc := cX9_isThing) (maxL := 1) (own := RX9) hI (by decide) rfl rfl (Nat.le_of_ble_eq_true rfl) (fun X O hR => ?_)
  show Go X l rm_X9_isThing (wM G) 1 0 [(0, .int a0)] [] S
  refine go_iload_n O dX9_isThing_0 rfl 0 rfl ?_
  refine go_i2l (v := Int32.toInt64 a0) O dX9_isThing_1 rfl ?_
  refine go_lconst (v := (0 : Int64)) O dX9_isThing_2 (by decide) ?_
  refine go_ldc2 (v := (7 : Int64)) O dX9_isThing_3 wd_X9_isThing_c255 ?_
  obtain ⟨x2, hA1, hF⟩ := bd_s hF
  refine go_callSi (As := [.long (Int32.toInt64 a0), .long (0 : Int64), .long (7 : Int64)]) (rest := []) O (c_X9_in l G hI hA1) (fun s args hts => va_cwS 3 hts gX9_isThing_X9_in rfl rfl rfl (by decide +kernel) ⟨Nat.le_of_ble_eq_true rfl, Nat.le_of_ble_eq_true rfl⟩) rfl rfl (Nat.le_of_ble_eq_true rfl) dX9_isThing_6 ?_
  obtain ⟨hz3, hF⟩ := chk_s hF
  exact ret_z hF (fun hz => hR _ _ hz dX9_isThing_9) (zB_s hz3)
-- X9_comes
def rm_X9_comes : Room := { frames := 2, cells := 0, slots := 0, locals := 46 }
theorem fl_X9_comes_34 : Cond.fieldLink RX9 34 "PaperWallsModel" "known" "[I" ∈ wsX9_comes := by decide +kernel
theorem in_X9_comes_X9 : ∀ x ∈ u_ws RX9 TX9 36, x ∈ wsX9_comes := by decide +kernel
def F_X9_comes  (S : Sg) (a1 : Int32) (a2 : Int32) : Option (Int32 × Sg) := bd (F_X9_isOne S a1) (fun x2 => if x2 = 0 then (some ((-1 : Int32), S)) else (bd (F_X9_isThing S a2) (fun x4 => if x4 = 0 then (some ((-1 : Int32), S)) else (chk (inB a2 8) (chk (inB a2 8) (nm (wI S 9 a2.toNatClampNeg ((S.1 9 a2.toNatClampNeg) ||| ((1 : Int32) <<< (a1 &&& 31)))) (fun S7 => chk (inB a2 8) (bd (F_X9_ones S7 (S7.1 9 a2.toNatClampNeg)) (fun x10 => some (x10, S7))))))))))
set_option maxHeartbeats 4000000 in
set_option maxRecDepth 100000 in
theorem c_X9_comes (l : Launch) (G : Gp) (hI : Ij (wM G))  {S : Sg} {a1 : Int32} {a2 : Int32} {r : Int32} {S1 : Sg} (hF : F_X9_comes S a1 a2 = some (r, S1)) : Met l yX9_comes wsX9_comes rm_X9_comes (va_Pc [.ref (G.2.1 0), .int a1, .int a2] (PreW (wM G) S)) (va_Qi (fun r' u => r' = r ∧ u = S1) (PostW (wM G)) (AW (wM G))) 0 0 (AW (wM G)) := by
  rw [F_X9_comes] at hF
  refine met_i (cc := cX9_comes) (maxL := 3) (own := RX9) hI (by decide) rfl rfl (Nat.le_of_ble_eq_true rfl) (fun X O hR => ?_)
  show Go X l rm_X9_comes (wM G) 3 0 [(0, .ref (G.2.1 0)), (1, .int a1), (2, .int a2)] [] S
  refine go_aload_n O dX9_comes_0 rfl 0 rfl ?_
  refine go_iload_n O dX9_comes_1 rfl 1 rfl ?_
  obtain ⟨x2, hA1, hF⟩ := bd_s hF
  refine go_callVi (As := [.int a1]) (rest := []) (b := 0) O (c_X9_isOne l G hI hA1) (fun s args hts => cwV 1 hts gX9_comes_X9_isOne rfl rfl rfl (by decide +kernel) ⟨Nat.le_of_ble_eq_true rfl, Nat.le_of_ble_eq_true rfl⟩) (by decide : (0 : Nat) < 27) (cm_obj G (S.1 0) (S.2 0)) rfl rfl rfl rfl (Nat.le_of_ble_eq_true rfl) dX9_comes_2 ?_
  refine go_if_eq (tgt := 15) O dX9_comes_5 (by decide) (fun hc12 => ?_) (fun hc12 => ?_)
  · replace hF := it_t hc12 hF
    refine go_iconst (v := (-1 : Int32)) O dX9_comes_15 (by decide) ?_
    exact ret_wi hF (hR _ _ dX9_comes_16)
  · replace hF := it_f hc12 hF
    refine go_iload_n O dX9_comes_8 rfl 2 rfl ?_
    obtain ⟨x4, hA3, hF⟩ := bd_s hF
    refine go_callSi (As := [.int a2]) (rest := []) O (c_X9_isThing l G hI hA3) (fun s args hts => va_cwS 1 hts gX9_comes_X9_isThing rfl rfl rfl (by decide +kernel) ⟨Nat.le_of_ble_eq_true rfl, Nat.le_of_ble_eq_true rfl⟩) rfl rfl (Nat.le_of_ble_eq_true rfl) dX9_comes_9 ?_
    refine go_if_ne (tgt := 17) O dX9_comes_12 (by decide) (fun hc11 => ?_) (fun hc11 => ?_)
    · replace hF := it_f hc11 hF
      refine go_aload_n O dX9_comes_17 rfl 0 rfl ?_
      refine go_get (k := 0) (j := 11) O (by decide : (0 : Nat) < 27) (cm_obj G (S.1 0) (S.2 0)) rfl in_X9_comes_X9 (by decide) fl_X9_comes_34 rfl rfl dX9_comes_18 ?_
      refine go_iload_n O dX9_comes_21 rfl 2 rfl ?_
      refine go_dup2 O dX9_comes_22 rfl rfl ?_
      obtain ⟨hb5, hF⟩ := chk_s hF
      refine go_iald (k := 9) O (by decide : (9 : Nat) < 27) (cm_9 G (S.1 9) (S.2 9)) (inB_in hb5) dX9_comes_23 ?_
      refine go_iconst (v := (1 : Int32)) O dX9_comes_24 (by decide) ?_
      refine go_iload_n O dX9_comes_25 rfl 1 rfl ?_
      refine go_ishl O dX9_comes_26 ?_
      refine go_ior O dX9_comes_27 ?_
      obtain ⟨hb6, hF⟩ := chk_s hF
      obtain ⟨S7, eS7, hF⟩ := nm_s hF
      refine go_iast (k := 9) O (by decide : (9 : Nat) < 27) (fun f => (cm_9 G f (S.2 9))) (inB_in hb6) dX9_comes_28 eS7 ?_
      refine go_aload_n O dX9_comes_29 rfl 0 rfl ?_
      refine go_get (k := 0) (j := 11) O (by decide : (0 : Nat) < 27) (cm_obj G (S7.1 0) (S7.2 0)) rfl in_X9_comes_X9 (by decide) fl_X9_comes_34 rfl rfl dX9_comes_30 ?_
      refine go_iload_n O dX9_comes_33 rfl 2 rfl ?_
      obtain ⟨hb8, hF⟩ := chk_s hF
      refine go_iald (k := 9) O (by decide : (9 : Nat) < 27) (cm_9 G (S7.1 9) (S7.2 9)) (inB_in hb8) dX9_comes_34 ?_
      obtain ⟨x10, hA9, hF⟩ := bd_s hF
      refine go_callSi (As := [.int (S7.1 9 a2.toNatClampNeg)]) (rest := []) O (c_X9_ones l G hI hA9) (fun s args hts => va_cwS 1 hts gX9_comes_X9_ones rfl rfl rfl (by decide +kernel) ⟨Nat.le_of_ble_eq_true rfl, Nat.le_of_ble_eq_true rfl⟩) rfl rfl (Nat.le_of_ble_eq_true rfl) dX9_comes_35 ?_
      exact ret_wi hF (hR _ _ dX9_comes_38)
    · replace hF := it_t hc11 hF
      refine go_iconst (v := (-1 : Int32)) O dX9_comes_15 (by decide) ?_
      exact ret_wi hF (hR _ _ dX9_comes_16)
-- X9_tell
def rm_X9_tell : Room := { frames := 4, cells := 0, slots := 0, locals := 90 }
theorem fl_X9_tell_34 : Cond.fieldLink RX9 34 "PaperWallsModel" "known" "[I" ∈ wsX9_tell := by decide +kernel
theorem fl_X9_tell_37 : Cond.fieldLink RX9 37 "PaperWallsModel" "tellers" "[I" ∈ wsX9_tell := by decide +kernel
theorem fl_X9_tell_40 : Cond.fieldLink RX9 40 "PaperWallsModel" "things" "[I" ∈ wsX9_tell := by decide +kernel
theorem fl_X9_tell_43 : Cond.fieldLink RX9 43 "PaperWallsModel" "hearers" "[I" ∈ wsX9_tell := by decide +kernel
theorem fl_X9_tell_46 : Cond.fieldLink RX9 46 "PaperWallsModel" "ahead" "[I" ∈ wsX9_tell := by decide +kernel
theorem fl_X9_tell_159 : Cond.fieldLink RX9 159 "PaperWallsModel" "hours" "I" ∈ wsX9_tell := by decide +kernel
theorem in_X9_tell_X9 : ∀ x ∈ u_ws RX9 TX9 36, x ∈ wsX9_tell := by decide +kernel
def T_X9_tell_47   (p1 : Int32) (p2 : Int32) : Nat → Int32 → Sg → Option (Sg)
  | 0, _, _ => none
  | n + 1, p3, S => if (8 : Int32) ≤ p3 then (some S) else (chk (inB p3 8) (chk (inB (((8 : Int32) * (S.1 0 16)) + p3) 320) (nm (wI S 13 (((8 : Int32) * (S.1 0 16)) + p3).toNatClampNeg (S.1 9 p3.toNatClampNeg)) (fun S11 => T_X9_tell_47 p1 p2 n (p3 + (1 : Int32)) S11))))
set_option maxHeartbeats 4000000 in
set_option maxRecDepth 100000 in
theorem lt_X9_tell_47 {X : XT} (l : Launch) (G : Gp) (hI : Ij (wM G))   {p1 : Int32} {p2 : Int32} (O : Ok X (wM G) cX9_tell RX9 wsX9_tell 4) : ∀ (n : Nat) (p3 : Int32) (S : Sg) (q : (Sg)), T_X9_tell_47 p1 p2 n p3 S = some q → (Go X l rm_X9_tell (wM G) 4 79 [(0, .ref (G.2.1 0)), (1, .int p1), (2, .int p2)] [] q) → Go X l rm_X9_tell (wM G) 4 47 [(0, .ref (G.2.1 0)), (1, .int p1), (2, .int p2), (3, .int p3)] [] S := by
  intro n
  induction n with
  | zero =>
    intro p3 S q hF
    cases hF
  | succ n ih =>
    intro p3 S q hF hE
    rw [T_X9_tell_47] at hF
    refine go_iload_n O dX9_tell_47 rfl 3 rfl ?_
    refine go_bipush (v := (8 : Int32)) O dX9_tell_48 (by decide) ?_
    refine go_icmp_ge (tgt := 79) O dX9_tell_50 (by decide) (fun hc12 => ?_) (fun hc12 => ?_)
    · replace hF := it_t hc12 hF
      refine go_perm (ls' := [(0, .ref (G.2.1 0)), (1, .int p1), (2, .int p2)]) [0, 1, 2] rfl ?_
      exact jn (P := fun q => Go X l rm_X9_tell (wM G) 4 79 [(0, .ref (G.2.1 0)), (1, .int p1), (2, .int p2)] [] q) hF hE
    · replace hF := it_f hc12 hF
      refine go_aload_n O dX9_tell_53 rfl 0 rfl ?_
      refine go_get (k := 0) (j := 15) O (by decide : (0 : Nat) < 27) (cm_obj G (S.1 0) (S.2 0)) rfl in_X9_tell_X9 (by decide) fl_X9_tell_46 rfl rfl dX9_tell_54 ?_
      refine go_bipush (v := (8 : Int32)) O dX9_tell_57 (by decide) ?_
      refine go_aload_n O dX9_tell_59 rfl 0 rfl ?_
      refine go_get (k := 0) (j := 16) O (by decide : (0 : Nat) < 27) (cm_obj G (S.1 0) (S.2 0)) rfl in_X9_tell_X9 (by decide) fl_X9_tell_159 rfl rfl dX9_tell_60 ?_
      refine go_imul O dX9_tell_63 ?_
      refine go_iload_n O dX9_tell_64 rfl 3 rfl ?_
      refine go_iadd O dX9_tell_65 ?_
      refine go_aload_n O dX9_tell_66 rfl 0 rfl ?_
      refine go_get (k := 0) (j := 11) O (by decide : (0 : Nat) < 27) (cm_obj G (S.1 0) (S.2 0)) rfl in_X9_tell_X9 (by decide) fl_X9_tell_34 rfl rfl dX9_tell_67 ?_
      refine go_iload_n O dX9_tell_70 rfl 3 rfl ?_
      obtain ⟨hb9, hF⟩ := chk_s hF
      refine go_iald (k := 9) O (by decide : (9 : Nat) < 27) (cm_9 G (S.1 9) (S.2 9)) (inB_in hb9) dX9_tell_71 ?_
      obtain ⟨hb10, hF⟩ := chk_s hF
      obtain ⟨S11, eS11, hF⟩ := nm_s hF
      refine go_iast (k := 13) O (by decide : (13 : Nat) < 27) (fun f => (cm_13 G f (S.2 13))) (inB_in hb10) dX9_tell_72 eS11 ?_
      refine go_iinc (d := (1 : Int32)) (ls' := [(3, .int (p3 + (1 : Int32))), (0, .ref (G.2.1 0)), (1, .int p1), (2, .int p2)]) O dX9_tell_73 3 rfl (by decide) (by decide) rfl ?_
      refine go_goto (tgt := 47) O dX9_tell_76 (by decide) ?_
      refine go_perm (ls' := [(0, .ref (G.2.1 0)), (1, .int p1), (2, .int p2), (3, .int (p3 + (1 : Int32)))]) [1, 2, 3, 0] rfl ?_
      exact ih _ _ _ hF hE
def F_X9_tell  (S : Sg) (a1 : Int32) (a2 : Int32) : Option (Int32 × Sg) := bd (F_X9_isOne S a1) (fun x2 => if x2 = 0 then (some ((-1 : Int32), S)) else (bd (F_X9_isThing S a2) (fun x4 => if x4 = 0 then (some ((-1 : Int32), S)) else (chk (inB a2 8) (bd (F_X9_has S (S.1 9 a2.toNatClampNeg) a1) (fun x7 => if x7 = 0 then (some ((-4 : Int32), S)) else (if (S.1 0 16) = (40 : Int32) then (some ((-2 : Int32), S)) else (bd (T_X9_tell_47 a1 a2 FU (0 : Int32) S) (fun S8 => chk (inB (S8.1 0 16) 40) (nm (wI S8 10 (S8.1 0 16).toNatClampNeg a1) (fun S15 => chk (inB (S15.1 0 16) 40) (nm (wI S15 11 (S15.1 0 16).toNatClampNeg a2) (fun S17 => bd (F_X9_heardBy S17 a1 (0 : Int32)) (fun x19 => chk (inB (S17.1 0 16) 40) (nm (wI S17 12 (S17.1 0 16).toNatClampNeg x19) (fun S21 => chk (inB a2 8) (chk (inB (S21.1 0 16) 40) (chk (inB a2 8) (nm (wI S21 9 a2.toNatClampNeg ((S21.1 9 a2.toNatClampNeg) ||| (S21.1 12 (S21.1 0 16).toNatClampNeg))) (fun S25 => nm (wI S25 0 16 ((S25.1 0 16) + (1 : Int32))) (fun S26 => chk (inB a2 8) (some (S26.1 9 a2.toNatClampNeg, S26)))))))))))))))))))))))
set_option maxHeartbeats 4000000 in
set_option maxRecDepth 100000 in
theorem c_X9_tell (l : Launch) (G : Gp) (hI : Ij (wM G))  {S : Sg} {a1 : Int32} {a2 : Int32} {r : Int32} {S1 : Sg} (hF : F_X9_tell S a1 a2 = some (r, S1)) : Met l yX9_tell wsX9_tell rm_X9_tell (va_Pc [.ref (G.2.1 0), .int a1, .int a2] (PreW (wM G) S)) (va_Qi (fun r' u => r' = r ∧ u = S1) (PostW (wM G)) (AW (wM G))) 0 0 (AW (wM G)) := by
  rw [F_X9_tell] at hF
  refine met_i (cc := cX9_tell) (maxL := 4) (own := RX9) hI (by decide) rfl rfl (Nat.le_of_ble_eq_true rfl) (fun X O hR => ?_)
  show Go X l rm_X9_tell (wM G) 4 0 [(0, .ref (G.2.1 0)), (1, .int a1), (2, .int a2)] [] S
  refine go_aload_n O dX9_tell_0 rfl 0 rfl ?_
  refine go_iload_n O dX9_tell_1 rfl 1 rfl ?_
  obtain ⟨x2, hA1, hF⟩ := bd_s hF
  refine go_callVi (As := [.int a1]) (rest := []) (b := 0) O (c_X9_isOne l G hI hA1) (fun s args hts => cwV 1 hts gX9_tell_X9_isOne rfl rfl rfl (by decide +kernel) ⟨Nat.le_of_ble_eq_true rfl, Nat.le_of_ble_eq_true rfl⟩) (by decide : (0 : Nat) < 27) (cm_obj G (S.1 0) (S.2 0)) rfl rfl rfl rfl (Nat.le_of_ble_eq_true rfl) dX9_tell_2 ?_
  refine go_if_eq (tgt := 15) O dX9_tell_5 (by decide) (fun hc31 => ?_) (fun hc31 => ?_)
  · replace hF := it_t hc31 hF
    refine go_iconst (v := (-1 : Int32)) O dX9_tell_15 (by decide) ?_
    exact ret_wi hF (hR _ _ dX9_tell_16)
  · replace hF := it_f hc31 hF
    refine go_iload_n O dX9_tell_8 rfl 2 rfl ?_
    obtain ⟨x4, hA3, hF⟩ := bd_s hF
    refine go_callSi (As := [.int a2]) (rest := []) O (c_X9_isThing l G hI hA3) (fun s args hts => va_cwS 1 hts gX9_tell_X9_isThing rfl rfl rfl (by decide +kernel) ⟨Nat.le_of_ble_eq_true rfl, Nat.le_of_ble_eq_true rfl⟩) rfl rfl (Nat.le_of_ble_eq_true rfl) dX9_tell_9 ?_
    refine go_if_ne (tgt := 17) O dX9_tell_12 (by decide) (fun hc30 => ?_) (fun hc30 => ?_)
    · replace hF := it_f hc30 hF
      refine go_aload_n O dX9_tell_17 rfl 0 rfl ?_
      refine go_get (k := 0) (j := 11) O (by decide : (0 : Nat) < 27) (cm_obj G (S.1 0) (S.2 0)) rfl in_X9_tell_X9 (by decide) fl_X9_tell_34 rfl rfl dX9_tell_18 ?_
      refine go_iload_n O dX9_tell_21 rfl 2 rfl ?_
      obtain ⟨hb5, hF⟩ := chk_s hF
      refine go_iald (k := 9) O (by decide : (9 : Nat) < 27) (cm_9 G (S.1 9) (S.2 9)) (inB_in hb5) dX9_tell_22 ?_
      refine go_iload_n O dX9_tell_23 rfl 1 rfl ?_
      obtain ⟨x7, hA6, hF⟩ := bd_s hF
      refine go_callSi (As := [.int (S.1 9 a2.toNatClampNeg), .int a1]) (rest := []) O (c_X9_has l G hI hA6) (fun s args hts => va_cwS 2 hts gX9_tell_X9_has rfl rfl rfl (by decide +kernel) ⟨Nat.le_of_ble_eq_true rfl, Nat.le_of_ble_eq_true rfl⟩) rfl rfl (Nat.le_of_ble_eq_true rfl) dX9_tell_24 ?_
      refine go_if_ne (tgt := 33) O dX9_tell_27 (by decide) (fun hc29 => ?_) (fun hc29 => ?_)
      · replace hF := it_f hc29 hF
        refine go_aload_n O dX9_tell_33 rfl 0 rfl ?_
        refine go_get (k := 0) (j := 16) O (by decide : (0 : Nat) < 27) (cm_obj G (S.1 0) (S.2 0)) rfl in_X9_tell_X9 (by decide) fl_X9_tell_159 rfl rfl dX9_tell_34 ?_
        refine go_bipush (v := (40 : Int32)) O dX9_tell_37 (by decide) ?_
        refine go_icmp_ne (tgt := 45) O dX9_tell_39 (by decide) (fun hc28 => ?_) (fun hc28 => ?_)
        · replace hF := it_f hc28 hF
          refine go_iconst (v := (0 : Int32)) O dX9_tell_45 (by decide) ?_
          refine go_istore_n (ls' := [(3, .int (0 : Int32)), (0, .ref (G.2.1 0)), (1, .int a1), (2, .int a2)]) O dX9_tell_46 rfl (by decide) rfl ?_
          refine go_perm (ls' := [(0, .ref (G.2.1 0)), (1, .int a1), (2, .int a2), (3, .int (0 : Int32))]) [1, 2, 3, 0] rfl ?_
          obtain ⟨S8, hA13, hF⟩ := bd_s hF
          refine lt_X9_tell_47 l G hI  O _ _ _ _ hA13 ?_
          refine go_aload_n O dX9_tell_79 rfl 0 rfl ?_
          refine go_get (k := 0) (j := 12) O (by decide : (0 : Nat) < 27) (cm_obj G (S8.1 0) (S8.2 0)) rfl in_X9_tell_X9 (by decide) fl_X9_tell_37 rfl rfl dX9_tell_80 ?_
          refine go_aload_n O dX9_tell_83 rfl 0 rfl ?_
          refine go_get (k := 0) (j := 16) O (by decide : (0 : Nat) < 27) (cm_obj G (S8.1 0) (S8.2 0)) rfl in_X9_tell_X9 (by decide) fl_X9_tell_159 rfl rfl dX9_tell_84 ?_
          refine go_iload_n O dX9_tell_87 rfl 1 rfl ?_
          obtain ⟨hb14, hF⟩ := chk_s hF
          obtain ⟨S15, eS15, hF⟩ := nm_s hF
          refine go_iast (k := 10) O (by decide : (10 : Nat) < 27) (fun f => (cm_10 G f (S8.2 10))) (inB_in hb14) dX9_tell_88 eS15 ?_
          refine go_aload_n O dX9_tell_89 rfl 0 rfl ?_
          refine go_get (k := 0) (j := 13) O (by decide : (0 : Nat) < 27) (cm_obj G (S15.1 0) (S15.2 0)) rfl in_X9_tell_X9 (by decide) fl_X9_tell_40 rfl rfl dX9_tell_90 ?_
          refine go_aload_n O dX9_tell_93 rfl 0 rfl ?_
          refine go_get (k := 0) (j := 16) O (by decide : (0 : Nat) < 27) (cm_obj G (S15.1 0) (S15.2 0)) rfl in_X9_tell_X9 (by decide) fl_X9_tell_159 rfl rfl dX9_tell_94 ?_
          refine go_iload_n O dX9_tell_97 rfl 2 rfl ?_
          obtain ⟨hb16, hF⟩ := chk_s hF
          obtain ⟨S17, eS17, hF⟩ := nm_s hF
          refine go_iast (k := 11) O (by decide : (11 : Nat) < 27) (fun f => (cm_11 G f (S15.2 11))) (inB_in hb16) dX9_tell_98 eS17 ?_
          refine go_aload_n O dX9_tell_99 rfl 0 rfl ?_
          refine go_get (k := 0) (j := 14) O (by decide : (0 : Nat) < 27) (cm_obj G (S17.1 0) (S17.2 0)) rfl in_X9_tell_X9 (by decide) fl_X9_tell_43 rfl rfl dX9_tell_100 ?_
          refine go_aload_n O dX9_tell_103 rfl 0 rfl ?_
          refine go_get (k := 0) (j := 16) O (by decide : (0 : Nat) < 27) (cm_obj G (S17.1 0) (S17.2 0)) rfl in_X9_tell_X9 (by decide) fl_X9_tell_159 rfl rfl dX9_tell_104 ?_
          refine go_aload_n O dX9_tell_107 rfl 0 rfl ?_
          refine go_iload_n O dX9_tell_108 rfl 1 rfl ?_
          refine go_iconst (v := (0 : Int32)) O dX9_tell_109 (by decide) ?_
          obtain ⟨x19, hA18, hF⟩ := bd_s hF
          refine go_callVi (As := [.int a1, .int (0 : Int32)]) (rest := [.int (S17.1 0 16), .ref (G.2.1 12)]) (b := 0) O (c_X9_heardBy l G hI hA18) (fun s args hts => cwV 2 hts gX9_tell_X9_heardBy rfl rfl rfl (by decide +kernel) ⟨Nat.le_of_ble_eq_true rfl, Nat.le_of_ble_eq_true rfl⟩) (by decide : (0 : Nat) < 27) (cm_obj G (S17.1 0) (S17.2 0)) rfl rfl rfl rfl (Nat.le_of_ble_eq_true rfl) dX9_tell_110 ?_
          obtain ⟨hb20, hF⟩ := chk_s hF
          obtain ⟨S21, eS21, hF⟩ := nm_s hF
          refine go_iast (k := 12) O (by decide : (12 : Nat) < 27) (fun f => (cm_12 G f (S17.2 12))) (inB_in hb20) dX9_tell_113 eS21 ?_
          refine go_aload_n O dX9_tell_114 rfl 0 rfl ?_
          refine go_get (k := 0) (j := 11) O (by decide : (0 : Nat) < 27) (cm_obj G (S21.1 0) (S21.2 0)) rfl in_X9_tell_X9 (by decide) fl_X9_tell_34 rfl rfl dX9_tell_115 ?_
          refine go_iload_n O dX9_tell_118 rfl 2 rfl ?_
          refine go_dup2 O dX9_tell_119 rfl rfl ?_
          obtain ⟨hb22, hF⟩ := chk_s hF
          refine go_iald (k := 9) O (by decide : (9 : Nat) < 27) (cm_9 G (S21.1 9) (S21.2 9)) (inB_in hb22) dX9_tell_120 ?_
          refine go_aload_n O dX9_tell_121 rfl 0 rfl ?_
          refine go_get (k := 0) (j := 14) O (by decide : (0 : Nat) < 27) (cm_obj G (S21.1 0) (S21.2 0)) rfl in_X9_tell_X9 (by decide) fl_X9_tell_43 rfl rfl dX9_tell_122 ?_
          refine go_aload_n O dX9_tell_125 rfl 0 rfl ?_
          refine go_get (k := 0) (j := 16) O (by decide : (0 : Nat) < 27) (cm_obj G (S21.1 0) (S21.2 0)) rfl in_X9_tell_X9 (by decide) fl_X9_tell_159 rfl rfl dX9_tell_126 ?_
          obtain ⟨hb23, hF⟩ := chk_s hF
          refine go_iald (k := 12) O (by decide : (12 : Nat) < 27) (cm_12 G (S21.1 12) (S21.2 12)) (inB_in hb23) dX9_tell_129 ?_
          refine go_ior O dX9_tell_130 ?_
          obtain ⟨hb24, hF⟩ := chk_s hF
          obtain ⟨S25, eS25, hF⟩ := nm_s hF
          refine go_iast (k := 9) O (by decide : (9 : Nat) < 27) (fun f => (cm_9 G f (S21.2 9))) (inB_in hb24) dX9_tell_131 eS25 ?_
          refine go_aload_n O dX9_tell_132 rfl 0 rfl ?_
          refine go_dup O dX9_tell_133 rfl ?_
          refine go_get (k := 0) (j := 16) O (by decide : (0 : Nat) < 27) (cm_obj G (S25.1 0) (S25.2 0)) rfl in_X9_tell_X9 (by decide) fl_X9_tell_159 rfl rfl dX9_tell_134 ?_
          refine go_iconst (v := (1 : Int32)) O dX9_tell_137 (by decide) ?_
          refine go_iadd O dX9_tell_138 ?_
          obtain ⟨S26, eS26, hF⟩ := nm_s hF
          refine go_putI (k := 0) (j := 16) O (by decide : (0 : Nat) < 27) (cm_obj G (S25.1 0) (S25.2 0)) rfl in_X9_tell_X9 (by decide) fl_X9_tell_159 rfl tyX9 tyX9_ok nmX9 rfl (by decide +kernel) (Nat.le_of_ble_eq_true rfl) (cm_obj G (upd (S25.1 0) 16 ((S25.1 0 16) + (1 : Int32))) (S25.2 0)) dX9_tell_139 eS26 ?_
          refine go_aload_n O dX9_tell_142 rfl 0 rfl ?_
          refine go_get (k := 0) (j := 11) O (by decide : (0 : Nat) < 27) (cm_obj G (S26.1 0) (S26.2 0)) rfl in_X9_tell_X9 (by decide) fl_X9_tell_34 rfl rfl dX9_tell_143 ?_
          refine go_iload_n O dX9_tell_146 rfl 2 rfl ?_
          obtain ⟨hb27, hF⟩ := chk_s hF
          refine go_iald (k := 9) O (by decide : (9 : Nat) < 27) (cm_9 G (S26.1 9) (S26.2 9)) (inB_in hb27) dX9_tell_147 ?_
          exact ret_wi hF (hR _ _ dX9_tell_148)
        · replace hF := it_t hc28 hF
          refine go_bipush (v := (-2 : Int32)) O dX9_tell_42 (by decide) ?_
          exact ret_wi hF (hR _ _ dX9_tell_44)
      · replace hF := it_t hc29 hF
        refine go_bipush (v := (-4 : Int32)) O dX9_tell_30 (by decide) ?_
        exact ret_wi hF (hR _ _ dX9_tell_32)
    · replace hF := it_t hc30 hF
      refine go_iconst (v := (-1 : Int32)) O dX9_tell_15 (by decide) ?_
      exact ret_wi hF (hR _ _ dX9_tell_16)
-- X9_undo
def rm_X9_undo : Room := { frames := 1, cells := 0, slots := 0, locals := 25 }
theorem fl_X9_undo_34 : Cond.fieldLink RX9 34 "PaperWallsModel" "known" "[I" ∈ wsX9_undo := by decide +kernel
theorem fl_X9_undo_46 : Cond.fieldLink RX9 46 "PaperWallsModel" "ahead" "[I" ∈ wsX9_undo := by decide +kernel
theorem fl_X9_undo_159 : Cond.fieldLink RX9 159 "PaperWallsModel" "hours" "I" ∈ wsX9_undo := by decide +kernel
theorem in_X9_undo_X9 : ∀ x ∈ u_ws RX9 TX9 36, x ∈ wsX9_undo := by decide +kernel
def T_X9_undo_25   (p1 : Int32) (p2 : Int32) : Nat → Int32 → Sg → Option (Sg)
  | 0, _, _ => none
  | n + 1, p3, S => if (8 : Int32) ≤ p3 then (some S) else (if p2 ≤ 0 then (some S) else (chk (inB (((8 : Int32) * p1) + p3) 320) (chk (inB p3 8) (nm (wI S 9 p3.toNatClampNeg (S.1 13 (((8 : Int32) * p1) + p3).toNatClampNeg)) (fun S7 => T_X9_undo_25 p1 p2 n (p3 + (1 : Int32)) S7)))))
set_option maxHeartbeats 4000000 in
set_option maxRecDepth 100000 in
theorem lt_X9_undo_25 {X : XT} (l : Launch) (G : Gp) (hI : Ij (wM G))   {p1 : Int32} {p2 : Int32} (O : Ok X (wM G) cX9_undo RX9 wsX9_undo 4) : ∀ (n : Nat) (p3 : Int32) (S : Sg) (q : (Sg)), T_X9_undo_25 p1 p2 n p3 S = some q → (Go X l rm_X9_undo (wM G) 4 58 [(0, .ref (G.2.1 0)), (1, .int p1), (2, .int p2)] [] q) → Go X l rm_X9_undo (wM G) 4 25 [(0, .ref (G.2.1 0)), (1, .int p1), (2, .int p2), (3, .int p3)] [] S := by
  intro n
  induction n with
  | zero =>
    intro p3 S q hF
    cases hF
  | succ n ih =>
    intro p3 S q hF hE
    rw [T_X9_undo_25] at hF
    refine go_iload_n O dX9_undo_25 rfl 3 rfl ?_
    refine go_bipush (v := (8 : Int32)) O dX9_undo_26 (by decide) ?_
    refine go_icmp_ge (tgt := 58) O dX9_undo_28 (by decide) (fun hc9 => ?_) (fun hc9 => ?_)
    · replace hF := it_t hc9 hF
      refine go_perm (ls' := [(0, .ref (G.2.1 0)), (1, .int p1), (2, .int p2)]) [0, 1, 2] rfl ?_
      exact jn (P := fun q => Go X l rm_X9_undo (wM G) 4 58 [(0, .ref (G.2.1 0)), (1, .int p1), (2, .int p2)] [] q) hF hE
    · replace hF := it_f hc9 hF
      refine go_iload_n O dX9_undo_31 rfl 2 rfl ?_
      refine go_if_le (tgt := 58) O dX9_undo_32 (by decide) (fun hc8 => ?_) (fun hc8 => ?_)
      · replace hF := it_t hc8 hF
        refine go_perm (ls' := [(0, .ref (G.2.1 0)), (1, .int p1), (2, .int p2)]) [0, 1, 2] rfl ?_
        exact jn (P := fun q => Go X l rm_X9_undo (wM G) 4 58 [(0, .ref (G.2.1 0)), (1, .int p1), (2, .int p2)] [] q) hF hE
      · replace hF := it_f hc8 hF
        refine go_aload_n O dX9_undo_35 rfl 0 rfl ?_
        refine go_get (k := 0) (j := 11) O (by decide : (0 : Nat) < 27) (cm_obj G (S.1 0) (S.2 0)) rfl in_X9_undo_X9 (by decide) fl_X9_undo_34 rfl rfl dX9_undo_36 ?_
        refine go_iload_n O dX9_undo_39 rfl 3 rfl ?_
        refine go_aload_n O dX9_undo_40 rfl 0 rfl ?_
        refine go_get (k := 0) (j := 15) O (by decide : (0 : Nat) < 27) (cm_obj G (S.1 0) (S.2 0)) rfl in_X9_undo_X9 (by decide) fl_X9_undo_46 rfl rfl dX9_undo_41 ?_
        refine go_bipush (v := (8 : Int32)) O dX9_undo_44 (by decide) ?_
        refine go_iload_n O dX9_undo_46 rfl 1 rfl ?_
        refine go_imul O dX9_undo_47 ?_
        refine go_iload_n O dX9_undo_48 rfl 3 rfl ?_
        refine go_iadd O dX9_undo_49 ?_
        obtain ⟨hb5, hF⟩ := chk_s hF
        refine go_iald (k := 13) O (by decide : (13 : Nat) < 27) (cm_13 G (S.1 13) (S.2 13)) (inB_in hb5) dX9_undo_50 ?_
        obtain ⟨hb6, hF⟩ := chk_s hF
        obtain ⟨S7, eS7, hF⟩ := nm_s hF
        refine go_iast (k := 9) O (by decide : (9 : Nat) < 27) (fun f => (cm_9 G f (S.2 9))) (inB_in hb6) dX9_undo_51 eS7 ?_
        refine go_iinc (d := (1 : Int32)) (ls' := [(3, .int (p3 + (1 : Int32))), (0, .ref (G.2.1 0)), (1, .int p1), (2, .int p2)]) O dX9_undo_52 3 rfl (by decide) (by decide) rfl ?_
        refine go_goto (tgt := 25) O dX9_undo_55 (by decide) ?_
        refine go_perm (ls' := [(0, .ref (G.2.1 0)), (1, .int p1), (2, .int p2), (3, .int (p3 + (1 : Int32)))]) [1, 2, 3, 0] rfl ?_
        exact ih _ _ _ hF hE
def F_X9_undo  (S : Sg) (a1 : Int32) : Option (Int32 × Sg) := bd (F_X9_in S (Int32.toInt64 a1) (0 : Int64) (Int32.toInt64 (S.1 0 16))) (fun x2 => if x2 = 0 then (some ((-1 : Int32), S)) else (nm ((S.1 0 16) - a1) (fun x3 => bd (T_X9_undo_25 a1 x3 FU (0 : Int32) S) (fun S4 => nm (wI S4 0 16 a1) (fun S11 => some (x3, S11))))))
set_option maxHeartbeats 4000000 in
set_option maxRecDepth 100000 in
theorem c_X9_undo (l : Launch) (G : Gp) (hI : Ij (wM G))  {S : Sg} {a1 : Int32} {r : Int32} {S1 : Sg} (hF : F_X9_undo S a1 = some (r, S1)) : Met l yX9_undo wsX9_undo rm_X9_undo (va_Pc [.ref (G.2.1 0), .int a1] (PreW (wM G) S)) (va_Qi (fun r' u => r' = r ∧ u = S1) (PostW (wM G)) (AW (wM G))) 0 0 (AW (wM G)) := by
  rw [F_X9_undo] at hF
  refine met_i (cc := cX9_undo) (maxL := 4) (own := RX9) hI (by decide) rfl rfl (Nat.le_of_ble_eq_true rfl) (fun X O hR => ?_)
  show Go X l rm_X9_undo (wM G) 4 0 [(0, .ref (G.2.1 0)), (1, .int a1)] [] S
  refine go_iload_n O dX9_undo_0 rfl 1 rfl ?_
  refine go_i2l (v := Int32.toInt64 a1) O dX9_undo_1 rfl ?_
  refine go_lconst (v := (0 : Int64)) O dX9_undo_2 (by decide) ?_
  refine go_aload_n O dX9_undo_3 rfl 0 rfl ?_
  refine go_get (k := 0) (j := 16) O (by decide : (0 : Nat) < 27) (cm_obj G (S.1 0) (S.2 0)) rfl in_X9_undo_X9 (by decide) fl_X9_undo_159 rfl rfl dX9_undo_4 ?_
  refine go_i2l (v := Int32.toInt64 (S.1 0 16)) O dX9_undo_7 rfl ?_
  obtain ⟨x2, hA1, hF⟩ := bd_s hF
  refine go_callSi (As := [.long (Int32.toInt64 a1), .long (0 : Int64), .long (Int32.toInt64 (S.1 0 16))]) (rest := []) O (c_X9_in l G hI hA1) (fun s args hts => va_cwS 3 hts gX9_undo_X9_in rfl rfl rfl (by decide +kernel) ⟨Nat.le_of_ble_eq_true rfl, Nat.le_of_ble_eq_true rfl⟩) rfl rfl (Nat.le_of_ble_eq_true rfl) dX9_undo_8 ?_
  refine go_if_ne (tgt := 16) O dX9_undo_11 (by decide) (fun hc12 => ?_) (fun hc12 => ?_)
  · replace hF := it_f hc12 hF
    refine go_aload_n O dX9_undo_16 rfl 0 rfl ?_
    refine go_get (k := 0) (j := 16) O (by decide : (0 : Nat) < 27) (cm_obj G (S.1 0) (S.2 0)) rfl in_X9_undo_X9 (by decide) fl_X9_undo_159 rfl rfl dX9_undo_17 ?_
    refine go_iload_n O dX9_undo_20 rfl 1 rfl ?_
    refine go_isub O dX9_undo_21 ?_
    obtain ⟨x3, ex3, hF⟩ := nm_s hF
    refine go_topi ex3 ?_
    refine go_istore_n (ls' := [(2, .int x3), (0, .ref (G.2.1 0)), (1, .int a1)]) O dX9_undo_22 rfl (by decide) rfl ?_
    refine go_iconst (v := (0 : Int32)) O dX9_undo_23 (by decide) ?_
    refine go_istore_n (ls' := [(3, .int (0 : Int32)), (2, .int x3), (0, .ref (G.2.1 0)), (1, .int a1)]) O dX9_undo_24 rfl (by decide) rfl ?_
    refine go_perm (ls' := [(0, .ref (G.2.1 0)), (1, .int a1), (2, .int x3), (3, .int (0 : Int32))]) [2, 3, 1, 0] rfl ?_
    obtain ⟨S4, hA10, hF⟩ := bd_s hF
    refine lt_X9_undo_25 l G hI  O _ _ _ _ hA10 ?_
    refine go_aload_n O dX9_undo_58 rfl 0 rfl ?_
    refine go_iload_n O dX9_undo_59 rfl 1 rfl ?_
    obtain ⟨S11, eS11, hF⟩ := nm_s hF
    refine go_putI (k := 0) (j := 16) O (by decide : (0 : Nat) < 27) (cm_obj G (S4.1 0) (S4.2 0)) rfl in_X9_undo_X9 (by decide) fl_X9_undo_159 rfl tyX9 tyX9_ok nmX9 rfl (by decide +kernel) (Nat.le_of_ble_eq_true rfl) (cm_obj G (upd (S4.1 0) 16 a1) (S4.2 0)) dX9_undo_60 eS11 ?_
    refine go_iload_n O dX9_undo_63 rfl 2 rfl ?_
    exact ret_wi hF (hR _ _ dX9_undo_64)
  · replace hF := it_t hc12 hF
    refine go_iconst (v := (-1 : Int32)) O dX9_undo_14 (by decide) ?_
    exact ret_wi hF (hR _ _ dX9_undo_15)
-- X9_know
def rm_X9_know : Room := { frames := 2, cells := 0, slots := 0, locals := 45 }
theorem fl_X9_know_34 : Cond.fieldLink RX9 34 "PaperWallsModel" "known" "[I" ∈ wsX9_know := by decide +kernel
theorem in_X9_know_X9 : ∀ x ∈ u_ws RX9 TX9 36, x ∈ wsX9_know := by decide +kernel
def F_X9_know  (S : Sg) (a1 : Int32) : Option Int32 := bd (F_X9_isThing S a1) (fun x2 => if x2 = 0 then (some (-1 : Int32)) else (chk (inB a1 8) (some (S.1 9 a1.toNatClampNeg))))
set_option maxHeartbeats 4000000 in
set_option maxRecDepth 100000 in
theorem c_X9_know (l : Launch) (G : Gp) (hI : Ij (wM G))  {S : Sg} {a1 : Int32} {r : Int32} (hF : F_X9_know S a1 = some r) : Met l yX9_know wsX9_know rm_X9_know (va_Pc [.ref (G.2.1 0), .int a1] (PreW (wM G) S)) (va_Qi (fun r' u => r' = r ∧ u = S) (PostW (wM G)) (AW (wM G))) 0 0 (AW (wM G)) := by
  rw [F_X9_know] at hF
  refine met_i (cc := cX9_know) (maxL := 2) (own := RX9) hI (by decide) rfl rfl (Nat.le_of_ble_eq_true rfl) (fun X O hR => ?_)
  show Go X l rm_X9_know (wM G) 2 0 [(0, .ref (G.2.1 0)), (1, .int a1)] [] S
  refine go_iload_n O dX9_know_0 rfl 1 rfl ?_
  obtain ⟨x2, hA1, hF⟩ := bd_s hF
  refine go_callSi (As := [.int a1]) (rest := []) O (c_X9_isThing l G hI hA1) (fun s args hts => va_cwS 1 hts gX9_know_X9_isThing rfl rfl rfl (by decide +kernel) ⟨Nat.le_of_ble_eq_true rfl, Nat.le_of_ble_eq_true rfl⟩) rfl rfl (Nat.le_of_ble_eq_true rfl) dX9_know_1 ?_
  refine go_if_eq (tgt := 16) O dX9_know_4 (by decide) (fun hc4 => ?_) (fun hc4 => ?_)
  · replace hF := it_t hc4 hF
    refine go_iconst (v := (-1 : Int32)) O dX9_know_16 (by decide) ?_
    exact ret_i hF (hR _ _ dX9_know_17)
  · replace hF := it_f hc4 hF
    refine go_aload_n O dX9_know_7 rfl 0 rfl ?_
    refine go_get (k := 0) (j := 11) O (by decide : (0 : Nat) < 27) (cm_obj G (S.1 0) (S.2 0)) rfl in_X9_know_X9 (by decide) fl_X9_know_34 rfl rfl dX9_know_8 ?_
    refine go_iload_n O dX9_know_11 rfl 1 rfl ?_
    obtain ⟨hb3, hF⟩ := chk_s hF
    refine go_iald (k := 9) O (by decide : (9 : Nat) < 27) (cm_9 G (S.1 9) (S.2 9)) (inB_in hb3) dX9_know_12 ?_
    refine go_goto (tgt := 17) O dX9_know_13 (by decide) ?_
    exact ret_i hF (hR _ _ dX9_know_17)
-- X9_knowsThat
def rm_X9_knowsThat : Room := { frames := 5, cells := 0, slots := 0, locals := 112 }
theorem fl_X9_knowsThat_37 : Cond.fieldLink RX9 37 "PaperWallsModel" "tellers" "[I" ∈ wsX9_knowsThat := by decide +kernel
theorem fl_X9_knowsThat_40 : Cond.fieldLink RX9 40 "PaperWallsModel" "things" "[I" ∈ wsX9_knowsThat := by decide +kernel
theorem fl_X9_knowsThat_43 : Cond.fieldLink RX9 43 "PaperWallsModel" "hearers" "[I" ∈ wsX9_knowsThat := by decide +kernel
theorem fl_X9_knowsThat_159 : Cond.fieldLink RX9 159 "PaperWallsModel" "hours" "I" ∈ wsX9_knowsThat := by decide +kernel
theorem in_X9_knowsThat_X9 : ∀ x ∈ u_ws RX9 TX9 36, x ∈ wsX9_knowsThat := by decide +kernel
def T_X9_knowsThat_32  (S : Sg) (p1 : Int32) (p2 : Int32) (p3 : Int32) (p5 : Int32) : Nat → Int32 → Int32 → Option (Int32)
  | 0, _, _ => none
  | n + 1, p4, p6 => if (S.1 0 16) ≤ p6 then (some p4) else (chk (inB p6 40) (bd (F_X9_has S (S.1 12 p6.toNatClampNeg) p1) (fun x10 => bd (if x10 = 0 then (some (0 : Int32)) else (chk (inB p6 40) (bd (F_X9_has S (S.1 12 p6.toNatClampNeg) p2) (fun x16 => if x16 = 0 then (some (0 : Int32)) else (if p5 = 0 then (some (0 : Int32)) else (some (1 : Int32))))))) (fun x11 => chk (inB p6 40) (bd (if (S.1 10 p6.toNatClampNeg) = p1 then (chk (inB p6 40) (bd (F_X9_has S (S.1 12 p6.toNatClampNeg) p2) (fun x32 => if x32 = 0 then (chk (inB p6 40) (if (S.1 10 p6.toNatClampNeg) = p2 then (chk (inB p6 40) (bd (F_X9_has S (S.1 12 p6.toNatClampNeg) p1) (fun x36 => if x36 = 0 then (some (0 : Int32)) else (some (1 : Int32))))) else (some (0 : Int32)))) else (some (1 : Int32))))) else (chk (inB p6 40) (if (S.1 10 p6.toNatClampNeg) = p2 then (chk (inB p6 40) (bd (F_X9_has S (S.1 12 p6.toNatClampNeg) p1) (fun x27 => if x27 = 0 then (some (0 : Int32)) else (some (1 : Int32))))) else (some (0 : Int32))))) (fun x21 => bd (if p4 = 0 then (chk (inB p6 40) (if (S.1 11 p6.toNatClampNeg) = p3 then (if x11 = 0 then (if x21 = 0 then (some (0 : Int32)) else (some (1 : Int32))) else (some (1 : Int32))) else (some (0 : Int32)))) else (some (1 : Int32))) (fun x41 => T_X9_knowsThat_32 S p1 p2 p3 p5 n x41 (p6 + (1 : Int32)))))))))
set_option maxHeartbeats 4000000 in
set_option maxRecDepth 100000 in
theorem lt_X9_knowsThat_32 {X : XT} (l : Launch) (G : Gp) (hI : Ij (wM G))  {S : Sg} {p1 : Int32} {p2 : Int32} {p3 : Int32} {p5 : Int32} (O : Ok X (wM G) cX9_knowsThat RX9 wsX9_knowsThat 9) : ∀ (n : Nat) (p4 : Int32) (p6 : Int32)  (q : (Int32)), T_X9_knowsThat_32 S p1 p2 p3 p5 n p4 p6  = some q → (Go X l rm_X9_knowsThat (wM G) 9 177 [(4, .int q)] [] S) → Go X l rm_X9_knowsThat (wM G) 9 32 [(0, .ref (G.2.1 0)), (1, .int p1), (2, .int p2), (3, .int p3), (4, .int p4), (5, .int p5), (6, .int p6)] [] S := by
  intro n
  induction n with
  | zero =>
    intro p4 p6  q hF
    cases hF
  | succ n ih =>
    intro p4 p6  q hF hE
    rw [T_X9_knowsThat_32] at hF
    refine go_iload O dX9_knowsThat_32 6 rfl ?_
    refine go_aload_n O dX9_knowsThat_34 rfl 0 rfl ?_
    refine go_get (k := 0) (j := 16) O (by decide : (0 : Nat) < 27) (cm_obj G (S.1 0) (S.2 0)) rfl in_X9_knowsThat_X9 (by decide) fl_X9_knowsThat_159 rfl rfl dX9_knowsThat_35 ?_
    refine go_icmp_ge (tgt := 177) O dX9_knowsThat_38 (by decide) (fun hc49 => ?_) (fun hc49 => ?_)
    · replace hF := it_t hc49 hF
      refine go_perm (ls' := [(4, .int p4)]) [4] rfl ?_
      exact jn (P := fun q => Go X l rm_X9_knowsThat (wM G) 9 177 [(4, .int q)] [] S) hF hE
    · replace hF := it_f hc49 hF
      refine go_aload_n O dX9_knowsThat_41 rfl 0 rfl ?_
      refine go_get (k := 0) (j := 14) O (by decide : (0 : Nat) < 27) (cm_obj G (S.1 0) (S.2 0)) rfl in_X9_knowsThat_X9 (by decide) fl_X9_knowsThat_43 rfl rfl dX9_knowsThat_42 ?_
      refine go_iload O dX9_knowsThat_45 6 rfl ?_
      obtain ⟨hb8, hF⟩ := chk_s hF
      refine go_iald (k := 12) O (by decide : (12 : Nat) < 27) (cm_12 G (S.1 12) (S.2 12)) (inB_in hb8) dX9_knowsThat_47 ?_
      refine go_iload_n O dX9_knowsThat_48 rfl 1 rfl ?_
      obtain ⟨x10, hA9, hF⟩ := bd_s hF
      refine go_callSi (As := [.int (S.1 12 p6.toNatClampNeg), .int p1]) (rest := []) O (c_X9_has l G hI hA9) (fun s args hts => va_cwS 2 hts gX9_knowsThat_X9_has rfl rfl rfl (by decide +kernel) ⟨Nat.le_of_ble_eq_true rfl, Nat.le_of_ble_eq_true rfl⟩) rfl rfl (Nat.le_of_ble_eq_true rfl) dX9_knowsThat_49 ?_
      obtain ⟨x11, hA13, hF⟩ := bd_s hF
      have J12 : Go X l rm_X9_knowsThat (wM G) 9 79 [(0, .ref (G.2.1 0)), (1, .int p1), (2, .int p2), (3, .int p3), (4, .int p4), (5, .int p5), (6, .int p6)] [.int x11] S := by
        refine go_istore (ls' := [(7, .int x11), (0, .ref (G.2.1 0)), (1, .int p1), (2, .int p2), (3, .int p3), (4, .int p4), (5, .int p5), (6, .int p6)]) O dX9_knowsThat_79 (by decide) rfl ?_
        refine go_aload_n O dX9_knowsThat_81 rfl 1 rfl ?_
        refine go_get (k := 0) (j := 12) O (by decide : (0 : Nat) < 27) (cm_obj G (S.1 0) (S.2 0)) rfl in_X9_knowsThat_X9 (by decide) fl_X9_knowsThat_37 rfl rfl dX9_knowsThat_82 ?_
        refine go_iload O dX9_knowsThat_85 7 rfl ?_
        obtain ⟨hb20, hF⟩ := chk_s hF
        refine go_iald (k := 10) O (by decide : (10 : Nat) < 27) (cm_10 G (S.1 10) (S.2 10)) (inB_in hb20) dX9_knowsThat_87 ?_
        refine go_iload_n O dX9_knowsThat_88 rfl 2 rfl ?_
        obtain ⟨x21, hA23, hF⟩ := bd_s hF
        have J22 : Go X l rm_X9_knowsThat (wM G) 9 136 [(0, .ref (G.2.1 0)), (1, .int p1), (2, .int p2), (3, .int p3), (4, .int p4), (5, .int p5), (6, .int p6), (7, .int x11)] [.int x21] S := by
          refine go_istore (ls' := [(8, .int x21), (0, .ref (G.2.1 0)), (1, .int p1), (2, .int p2), (3, .int p3), (4, .int p4), (5, .int p5), (6, .int p6), (7, .int x11)]) O dX9_knowsThat_136 (by decide) rfl ?_
          refine go_iload O dX9_knowsThat_138 5 rfl ?_
          obtain ⟨x41, hA43, hF⟩ := bd_s hF
          have J42 : Go X l rm_X9_knowsThat (wM G) 9 169 [(0, .ref (G.2.1 0)), (1, .int p1), (2, .int p2), (3, .int p3), (5, .int p5), (6, .int p6)] [.int x41] S := by
            refine go_istore (ls' := [(4, .int x41), (0, .ref (G.2.1 0)), (1, .int p1), (2, .int p2), (3, .int p3), (5, .int p5), (6, .int p6)]) O dX9_knowsThat_169 (by decide) rfl ?_
            refine go_iinc (d := (1 : Int32)) (ls' := [(6, .int (p6 + (1 : Int32))), (4, .int x41), (0, .ref (G.2.1 0)), (1, .int p1), (2, .int p2), (3, .int p3), (5, .int p5)]) O dX9_knowsThat_171 6 rfl (by decide) (by decide) rfl ?_
            refine go_goto (tgt := 32) O dX9_knowsThat_174 (by decide) ?_
            refine go_perm (ls' := [(0, .ref (G.2.1 0)), (1, .int p1), (2, .int p2), (3, .int p3), (4, .int x41), (5, .int p5), (6, .int (p6 + (1 : Int32)))]) [2, 3, 4, 5, 1, 6, 0] rfl ?_
            exact ih _ _ _ hF hE
          replace hF := hA43
          refine go_if_ne (tgt := 164) O dX9_knowsThat_140 (by decide) (fun hc48 => ?_) (fun hc48 => ?_)
          · replace hF := it_f hc48 hF
            refine go_iconst (v := (1 : Int32)) O dX9_knowsThat_164 (by decide) ?_
            refine go_goto (tgt := 169) O dX9_knowsThat_165 (by decide) ?_
            refine go_perm (ls' := [(0, .ref (G.2.1 0)), (1, .int p1), (2, .int p2), (3, .int p3), (5, .int p5), (6, .int p6)]) [1, 2, 3, 4, 6, 7] rfl ?_
            exact jn (P := fun q => Go X l rm_X9_knowsThat (wM G) 9 169 [(0, .ref (G.2.1 0)), (1, .int p1), (2, .int p2), (3, .int p3), (5, .int p5), (6, .int p6)] [.int q] S) hF J42
          · replace hF := it_t hc48 hF
            refine go_aload_n O dX9_knowsThat_143 rfl 1 rfl ?_
            refine go_get (k := 0) (j := 13) O (by decide : (0 : Nat) < 27) (cm_obj G (S.1 0) (S.2 0)) rfl in_X9_knowsThat_X9 (by decide) fl_X9_knowsThat_40 rfl rfl dX9_knowsThat_144 ?_
            refine go_iload O dX9_knowsThat_147 7 rfl ?_
            obtain ⟨hb44, hF⟩ := chk_s hF
            refine go_iald (k := 11) O (by decide : (11 : Nat) < 27) (cm_11 G (S.1 11) (S.2 11)) (inB_in hb44) dX9_knowsThat_149 ?_
            refine go_iload_n O dX9_knowsThat_150 rfl 4 rfl ?_
            refine go_icmp_ne (tgt := 168) O dX9_knowsThat_151 (by decide) (fun hc47 => ?_) (fun hc47 => ?_)
            · replace hF := it_f hc47 hF
              refine go_iconst (v := (0 : Int32)) O dX9_knowsThat_168 (by decide) ?_
              refine go_perm (ls' := [(0, .ref (G.2.1 0)), (1, .int p1), (2, .int p2), (3, .int p3), (5, .int p5), (6, .int p6)]) [1, 2, 3, 4, 6, 7] rfl ?_
              exact jn (P := fun q => Go X l rm_X9_knowsThat (wM G) 9 169 [(0, .ref (G.2.1 0)), (1, .int p1), (2, .int p2), (3, .int p3), (5, .int p5), (6, .int p6)] [.int q] S) hF J42
            · replace hF := it_t hc47 hF
              refine go_iload O dX9_knowsThat_154 8 rfl ?_
              refine go_if_ne (tgt := 164) O dX9_knowsThat_156 (by decide) (fun hc46 => ?_) (fun hc46 => ?_)
              · replace hF := it_f hc46 hF
                refine go_iconst (v := (1 : Int32)) O dX9_knowsThat_164 (by decide) ?_
                refine go_goto (tgt := 169) O dX9_knowsThat_165 (by decide) ?_
                refine go_perm (ls' := [(0, .ref (G.2.1 0)), (1, .int p1), (2, .int p2), (3, .int p3), (5, .int p5), (6, .int p6)]) [1, 2, 3, 4, 6, 7] rfl ?_
                exact jn (P := fun q => Go X l rm_X9_knowsThat (wM G) 9 169 [(0, .ref (G.2.1 0)), (1, .int p1), (2, .int p2), (3, .int p3), (5, .int p5), (6, .int p6)] [.int q] S) hF J42
              · replace hF := it_t hc46 hF
                refine go_iload O dX9_knowsThat_159 0 rfl ?_
                refine go_if_eq (tgt := 168) O dX9_knowsThat_161 (by decide) (fun hc45 => ?_) (fun hc45 => ?_)
                · replace hF := it_t hc45 hF
                  refine go_iconst (v := (0 : Int32)) O dX9_knowsThat_168 (by decide) ?_
                  refine go_perm (ls' := [(0, .ref (G.2.1 0)), (1, .int p1), (2, .int p2), (3, .int p3), (5, .int p5), (6, .int p6)]) [1, 2, 3, 4, 6, 7] rfl ?_
                  exact jn (P := fun q => Go X l rm_X9_knowsThat (wM G) 9 169 [(0, .ref (G.2.1 0)), (1, .int p1), (2, .int p2), (3, .int p3), (5, .int p5), (6, .int p6)] [.int q] S) hF J42
                · replace hF := it_f hc45 hF
                  refine go_iconst (v := (1 : Int32)) O dX9_knowsThat_164 (by decide) ?_
                  refine go_goto (tgt := 169) O dX9_knowsThat_165 (by decide) ?_
                  refine go_perm (ls' := [(0, .ref (G.2.1 0)), (1, .int p1), (2, .int p2), (3, .int p3), (5, .int p5), (6, .int p6)]) [1, 2, 3, 4, 6, 7] rfl ?_
                  exact jn (P := fun q => Go X l rm_X9_knowsThat (wM G) 9 169 [(0, .ref (G.2.1 0)), (1, .int p1), (2, .int p2), (3, .int p3), (5, .int p5), (6, .int p6)] [.int q] S) hF J42
        replace hF := hA23
        refine go_icmp_ne (tgt := 106) O dX9_knowsThat_89 (by decide) (fun hc40 => ?_) (fun hc40 => ?_)
        · replace hF := it_f hc40 hF
          refine go_aload_n O dX9_knowsThat_106 rfl 1 rfl ?_
          refine go_get (k := 0) (j := 12) O (by decide : (0 : Nat) < 27) (cm_obj G (S.1 0) (S.2 0)) rfl in_X9_knowsThat_X9 (by decide) fl_X9_knowsThat_37 rfl rfl dX9_knowsThat_107 ?_
          refine go_iload O dX9_knowsThat_110 7 rfl ?_
          obtain ⟨hb24, hF⟩ := chk_s hF
          refine go_iald (k := 10) O (by decide : (10 : Nat) < 27) (cm_10 G (S.1 10) (S.2 10)) (inB_in hb24) dX9_knowsThat_112 ?_
          refine go_iload_n O dX9_knowsThat_113 rfl 3 rfl ?_
          refine go_icmp_ne (tgt := 135) O dX9_knowsThat_114 (by decide) (fun hc29 => ?_) (fun hc29 => ?_)
          · replace hF := it_f hc29 hF
            refine go_iconst (v := (0 : Int32)) O dX9_knowsThat_135 (by decide) ?_
            refine go_perm (ls' := [(0, .ref (G.2.1 0)), (1, .int p1), (2, .int p2), (3, .int p3), (4, .int p4), (5, .int p5), (6, .int p6), (7, .int x11)]) [1, 2, 3, 4, 5, 6, 7, 0] rfl ?_
            exact jn (P := fun q => Go X l rm_X9_knowsThat (wM G) 9 136 [(0, .ref (G.2.1 0)), (1, .int p1), (2, .int p2), (3, .int p3), (4, .int p4), (5, .int p5), (6, .int p6), (7, .int x11)] [.int q] S) hF J22
          · replace hF := it_t hc29 hF
            refine go_aload_n O dX9_knowsThat_117 rfl 1 rfl ?_
            refine go_get (k := 0) (j := 14) O (by decide : (0 : Nat) < 27) (cm_obj G (S.1 0) (S.2 0)) rfl in_X9_knowsThat_X9 (by decide) fl_X9_knowsThat_43 rfl rfl dX9_knowsThat_118 ?_
            refine go_iload O dX9_knowsThat_121 7 rfl ?_
            obtain ⟨hb25, hF⟩ := chk_s hF
            refine go_iald (k := 12) O (by decide : (12 : Nat) < 27) (cm_12 G (S.1 12) (S.2 12)) (inB_in hb25) dX9_knowsThat_123 ?_
            refine go_iload_n O dX9_knowsThat_124 rfl 2 rfl ?_
            obtain ⟨x27, hA26, hF⟩ := bd_s hF
            refine go_callSi (As := [.int (S.1 12 p6.toNatClampNeg), .int p1]) (rest := []) O (c_X9_has l G hI hA26) (fun s args hts => va_cwS 2 hts gX9_knowsThat_X9_has rfl rfl rfl (by decide +kernel) ⟨Nat.le_of_ble_eq_true rfl, Nat.le_of_ble_eq_true rfl⟩) rfl rfl (Nat.le_of_ble_eq_true rfl) dX9_knowsThat_125 ?_
            refine go_if_eq (tgt := 135) O dX9_knowsThat_128 (by decide) (fun hc28 => ?_) (fun hc28 => ?_)
            · replace hF := it_t hc28 hF
              refine go_iconst (v := (0 : Int32)) O dX9_knowsThat_135 (by decide) ?_
              refine go_perm (ls' := [(0, .ref (G.2.1 0)), (1, .int p1), (2, .int p2), (3, .int p3), (4, .int p4), (5, .int p5), (6, .int p6), (7, .int x11)]) [1, 2, 3, 4, 5, 6, 7, 0] rfl ?_
              exact jn (P := fun q => Go X l rm_X9_knowsThat (wM G) 9 136 [(0, .ref (G.2.1 0)), (1, .int p1), (2, .int p2), (3, .int p3), (4, .int p4), (5, .int p5), (6, .int p6), (7, .int x11)] [.int q] S) hF J22
            · replace hF := it_f hc28 hF
              refine go_iconst (v := (1 : Int32)) O dX9_knowsThat_131 (by decide) ?_
              refine go_goto (tgt := 136) O dX9_knowsThat_132 (by decide) ?_
              refine go_perm (ls' := [(0, .ref (G.2.1 0)), (1, .int p1), (2, .int p2), (3, .int p3), (4, .int p4), (5, .int p5), (6, .int p6), (7, .int x11)]) [1, 2, 3, 4, 5, 6, 7, 0] rfl ?_
              exact jn (P := fun q => Go X l rm_X9_knowsThat (wM G) 9 136 [(0, .ref (G.2.1 0)), (1, .int p1), (2, .int p2), (3, .int p3), (4, .int p4), (5, .int p5), (6, .int p6), (7, .int x11)] [.int q] S) hF J22
        · replace hF := it_t hc40 hF
          refine go_aload_n O dX9_knowsThat_92 rfl 1 rfl ?_
          refine go_get (k := 0) (j := 14) O (by decide : (0 : Nat) < 27) (cm_obj G (S.1 0) (S.2 0)) rfl in_X9_knowsThat_X9 (by decide) fl_X9_knowsThat_43 rfl rfl dX9_knowsThat_93 ?_
          refine go_iload O dX9_knowsThat_96 7 rfl ?_
          obtain ⟨hb30, hF⟩ := chk_s hF
          refine go_iald (k := 12) O (by decide : (12 : Nat) < 27) (cm_12 G (S.1 12) (S.2 12)) (inB_in hb30) dX9_knowsThat_98 ?_
          refine go_iload_n O dX9_knowsThat_99 rfl 3 rfl ?_
          obtain ⟨x32, hA31, hF⟩ := bd_s hF
          refine go_callSi (As := [.int (S.1 12 p6.toNatClampNeg), .int p2]) (rest := []) O (c_X9_has l G hI hA31) (fun s args hts => va_cwS 2 hts gX9_knowsThat_X9_has rfl rfl rfl (by decide +kernel) ⟨Nat.le_of_ble_eq_true rfl, Nat.le_of_ble_eq_true rfl⟩) rfl rfl (Nat.le_of_ble_eq_true rfl) dX9_knowsThat_100 ?_
          refine go_if_ne (tgt := 131) O dX9_knowsThat_103 (by decide) (fun hc39 => ?_) (fun hc39 => ?_)
          · replace hF := it_f hc39 hF
            refine go_iconst (v := (1 : Int32)) O dX9_knowsThat_131 (by decide) ?_
            refine go_goto (tgt := 136) O dX9_knowsThat_132 (by decide) ?_
            refine go_perm (ls' := [(0, .ref (G.2.1 0)), (1, .int p1), (2, .int p2), (3, .int p3), (4, .int p4), (5, .int p5), (6, .int p6), (7, .int x11)]) [1, 2, 3, 4, 5, 6, 7, 0] rfl ?_
            exact jn (P := fun q => Go X l rm_X9_knowsThat (wM G) 9 136 [(0, .ref (G.2.1 0)), (1, .int p1), (2, .int p2), (3, .int p3), (4, .int p4), (5, .int p5), (6, .int p6), (7, .int x11)] [.int q] S) hF J22
          · replace hF := it_t hc39 hF
            refine go_aload_n O dX9_knowsThat_106 rfl 1 rfl ?_
            refine go_get (k := 0) (j := 12) O (by decide : (0 : Nat) < 27) (cm_obj G (S.1 0) (S.2 0)) rfl in_X9_knowsThat_X9 (by decide) fl_X9_knowsThat_37 rfl rfl dX9_knowsThat_107 ?_
            refine go_iload O dX9_knowsThat_110 7 rfl ?_
            obtain ⟨hb33, hF⟩ := chk_s hF
            refine go_iald (k := 10) O (by decide : (10 : Nat) < 27) (cm_10 G (S.1 10) (S.2 10)) (inB_in hb33) dX9_knowsThat_112 ?_
            refine go_iload_n O dX9_knowsThat_113 rfl 3 rfl ?_
            refine go_icmp_ne (tgt := 135) O dX9_knowsThat_114 (by decide) (fun hc38 => ?_) (fun hc38 => ?_)
            · replace hF := it_f hc38 hF
              refine go_iconst (v := (0 : Int32)) O dX9_knowsThat_135 (by decide) ?_
              refine go_perm (ls' := [(0, .ref (G.2.1 0)), (1, .int p1), (2, .int p2), (3, .int p3), (4, .int p4), (5, .int p5), (6, .int p6), (7, .int x11)]) [1, 2, 3, 4, 5, 6, 7, 0] rfl ?_
              exact jn (P := fun q => Go X l rm_X9_knowsThat (wM G) 9 136 [(0, .ref (G.2.1 0)), (1, .int p1), (2, .int p2), (3, .int p3), (4, .int p4), (5, .int p5), (6, .int p6), (7, .int x11)] [.int q] S) hF J22
            · replace hF := it_t hc38 hF
              refine go_aload_n O dX9_knowsThat_117 rfl 1 rfl ?_
              refine go_get (k := 0) (j := 14) O (by decide : (0 : Nat) < 27) (cm_obj G (S.1 0) (S.2 0)) rfl in_X9_knowsThat_X9 (by decide) fl_X9_knowsThat_43 rfl rfl dX9_knowsThat_118 ?_
              refine go_iload O dX9_knowsThat_121 7 rfl ?_
              obtain ⟨hb34, hF⟩ := chk_s hF
              refine go_iald (k := 12) O (by decide : (12 : Nat) < 27) (cm_12 G (S.1 12) (S.2 12)) (inB_in hb34) dX9_knowsThat_123 ?_
              refine go_iload_n O dX9_knowsThat_124 rfl 2 rfl ?_
              obtain ⟨x36, hA35, hF⟩ := bd_s hF
              refine go_callSi (As := [.int (S.1 12 p6.toNatClampNeg), .int p1]) (rest := []) O (c_X9_has l G hI hA35) (fun s args hts => va_cwS 2 hts gX9_knowsThat_X9_has rfl rfl rfl (by decide +kernel) ⟨Nat.le_of_ble_eq_true rfl, Nat.le_of_ble_eq_true rfl⟩) rfl rfl (Nat.le_of_ble_eq_true rfl) dX9_knowsThat_125 ?_
              refine go_if_eq (tgt := 135) O dX9_knowsThat_128 (by decide) (fun hc37 => ?_) (fun hc37 => ?_)
              · replace hF := it_t hc37 hF
                refine go_iconst (v := (0 : Int32)) O dX9_knowsThat_135 (by decide) ?_
                refine go_perm (ls' := [(0, .ref (G.2.1 0)), (1, .int p1), (2, .int p2), (3, .int p3), (4, .int p4), (5, .int p5), (6, .int p6), (7, .int x11)]) [1, 2, 3, 4, 5, 6, 7, 0] rfl ?_
                exact jn (P := fun q => Go X l rm_X9_knowsThat (wM G) 9 136 [(0, .ref (G.2.1 0)), (1, .int p1), (2, .int p2), (3, .int p3), (4, .int p4), (5, .int p5), (6, .int p6), (7, .int x11)] [.int q] S) hF J22
              · replace hF := it_f hc37 hF
                refine go_iconst (v := (1 : Int32)) O dX9_knowsThat_131 (by decide) ?_
                refine go_goto (tgt := 136) O dX9_knowsThat_132 (by decide) ?_
                refine go_perm (ls' := [(0, .ref (G.2.1 0)), (1, .int p1), (2, .int p2), (3, .int p3), (4, .int p4), (5, .int p5), (6, .int p6), (7, .int x11)]) [1, 2, 3, 4, 5, 6, 7, 0] rfl ?_
                exact jn (P := fun q => Go X l rm_X9_knowsThat (wM G) 9 136 [(0, .ref (G.2.1 0)), (1, .int p1), (2, .int p2), (3, .int p3), (4, .int p4), (5, .int p5), (6, .int p6), (7, .int x11)] [.int q] S) hF J22
      replace hF := hA13
      refine go_if_eq (tgt := 78) O dX9_knowsThat_52 (by decide) (fun hc19 => ?_) (fun hc19 => ?_)
      · replace hF := it_t hc19 hF
        refine go_iconst (v := (0 : Int32)) O dX9_knowsThat_78 (by decide) ?_
        exact jn (P := fun q => Go X l rm_X9_knowsThat (wM G) 9 79 [(0, .ref (G.2.1 0)), (1, .int p1), (2, .int p2), (3, .int p3), (4, .int p4), (5, .int p5), (6, .int p6)] [.int q] S) hF J12
      · replace hF := it_f hc19 hF
        refine go_aload_n O dX9_knowsThat_55 rfl 0 rfl ?_
        refine go_get (k := 0) (j := 14) O (by decide : (0 : Nat) < 27) (cm_obj G (S.1 0) (S.2 0)) rfl in_X9_knowsThat_X9 (by decide) fl_X9_knowsThat_43 rfl rfl dX9_knowsThat_56 ?_
        refine go_iload O dX9_knowsThat_59 6 rfl ?_
        obtain ⟨hb14, hF⟩ := chk_s hF
        refine go_iald (k := 12) O (by decide : (12 : Nat) < 27) (cm_12 G (S.1 12) (S.2 12)) (inB_in hb14) dX9_knowsThat_61 ?_
        refine go_iload_n O dX9_knowsThat_62 rfl 2 rfl ?_
        obtain ⟨x16, hA15, hF⟩ := bd_s hF
        refine go_callSi (As := [.int (S.1 12 p6.toNatClampNeg), .int p2]) (rest := []) O (c_X9_has l G hI hA15) (fun s args hts => va_cwS 2 hts gX9_knowsThat_X9_has rfl rfl rfl (by decide +kernel) ⟨Nat.le_of_ble_eq_true rfl, Nat.le_of_ble_eq_true rfl⟩) rfl rfl (Nat.le_of_ble_eq_true rfl) dX9_knowsThat_63 ?_
        refine go_if_eq (tgt := 78) O dX9_knowsThat_66 (by decide) (fun hc18 => ?_) (fun hc18 => ?_)
        · replace hF := it_t hc18 hF
          refine go_iconst (v := (0 : Int32)) O dX9_knowsThat_78 (by decide) ?_
          exact jn (P := fun q => Go X l rm_X9_knowsThat (wM G) 9 79 [(0, .ref (G.2.1 0)), (1, .int p1), (2, .int p2), (3, .int p3), (4, .int p4), (5, .int p5), (6, .int p6)] [.int q] S) hF J12
        · replace hF := it_f hc18 hF
          refine go_iload O dX9_knowsThat_69 5 rfl ?_
          refine go_if_eq (tgt := 78) O dX9_knowsThat_71 (by decide) (fun hc17 => ?_) (fun hc17 => ?_)
          · replace hF := it_t hc17 hF
            refine go_iconst (v := (0 : Int32)) O dX9_knowsThat_78 (by decide) ?_
            exact jn (P := fun q => Go X l rm_X9_knowsThat (wM G) 9 79 [(0, .ref (G.2.1 0)), (1, .int p1), (2, .int p2), (3, .int p3), (4, .int p4), (5, .int p5), (6, .int p6)] [.int q] S) hF J12
          · replace hF := it_f hc17 hF
            refine go_iconst (v := (1 : Int32)) O dX9_knowsThat_74 (by decide) ?_
            refine go_goto (tgt := 79) O dX9_knowsThat_75 (by decide) ?_
            exact jn (P := fun q => Go X l rm_X9_knowsThat (wM G) 9 79 [(0, .ref (G.2.1 0)), (1, .int p1), (2, .int p2), (3, .int p3), (4, .int p4), (5, .int p5), (6, .int p6)] [.int q] S) hF J12
def F_X9_knowsThat  (S : Sg) (a1 : Int32) (a2 : Int32) (a3 : Int32) : Option Int32 := bd (F_X9_areTwo S a1 a2) (fun x2 => if x2 = 0 then (some (-1 : Int32)) else (bd (F_X9_isThing S a3) (fun x4 => if x4 = 0 then (some (-1 : Int32)) else (bd (F_X9_doesHear S a1 a2) (fun x6 => bd (T_X9_knowsThat_32 S a1 a2 a3 x6 FU (0 : Int32) (0 : Int32)) (fun x7 => if x7 = 0 then (some (0 : Int32)) else (some (1 : Int32))))))))
set_option maxHeartbeats 4000000 in
set_option maxRecDepth 100000 in
theorem c_X9_knowsThat (l : Launch) (G : Gp) (hI : Ij (wM G))  {S : Sg} {a1 : Int32} {a2 : Int32} {a3 : Int32} {r : Int32} (hF : F_X9_knowsThat S a1 a2 a3 = some r) : Met l yX9_knowsThat wsX9_knowsThat rm_X9_knowsThat (va_Pc [.ref (G.2.1 0), .int a1, .int a2, .int a3] (PreW (wM G) S)) (va_Qi (fun r' u => r' = r ∧ u = S) (PostW (wM G)) (AW (wM G))) 0 0 (AW (wM G)) := by
  rw [F_X9_knowsThat] at hF
  refine met_i (cc := cX9_knowsThat) (maxL := 9) (own := RX9) hI (by decide) rfl rfl (Nat.le_of_ble_eq_true rfl) (fun X O hR => ?_)
  show Go X l rm_X9_knowsThat (wM G) 9 0 [(0, .ref (G.2.1 0)), (1, .int a1), (2, .int a2), (3, .int a3)] [] S
  refine go_aload_n O dX9_knowsThat_0 rfl 0 rfl ?_
  refine go_iload_n O dX9_knowsThat_1 rfl 1 rfl ?_
  refine go_iload_n O dX9_knowsThat_2 rfl 2 rfl ?_
  obtain ⟨x2, hA1, hF⟩ := bd_s hF
  refine go_callVi (As := [.int a1, .int a2]) (rest := []) (b := 0) O (c_X9_areTwo l G hI hA1) (fun s args hts => cwV 2 hts gX9_knowsThat_X9_areTwo rfl rfl rfl (by decide +kernel) ⟨Nat.le_of_ble_eq_true rfl, Nat.le_of_ble_eq_true rfl⟩) (by decide : (0 : Nat) < 27) (cm_obj G (S.1 0) (S.2 0)) rfl rfl rfl rfl (Nat.le_of_ble_eq_true rfl) dX9_knowsThat_3 ?_
  refine go_if_eq (tgt := 16) O dX9_knowsThat_6 (by decide) (fun hc53 => ?_) (fun hc53 => ?_)
  · replace hF := it_t hc53 hF
    refine go_iconst (v := (-1 : Int32)) O dX9_knowsThat_16 (by decide) ?_
    exact ret_i hF (hR _ _ dX9_knowsThat_17)
  · replace hF := it_f hc53 hF
    refine go_iload_n O dX9_knowsThat_9 rfl 3 rfl ?_
    obtain ⟨x4, hA3, hF⟩ := bd_s hF
    refine go_callSi (As := [.int a3]) (rest := []) O (c_X9_isThing l G hI hA3) (fun s args hts => va_cwS 1 hts gX9_knowsThat_X9_isThing rfl rfl rfl (by decide +kernel) ⟨Nat.le_of_ble_eq_true rfl, Nat.le_of_ble_eq_true rfl⟩) rfl rfl (Nat.le_of_ble_eq_true rfl) dX9_knowsThat_10 ?_
    refine go_if_ne (tgt := 18) O dX9_knowsThat_13 (by decide) (fun hc52 => ?_) (fun hc52 => ?_)
    · replace hF := it_f hc52 hF
      refine go_iconst (v := (0 : Int32)) O dX9_knowsThat_18 (by decide) ?_
      refine go_istore (ls' := [(4, .int (0 : Int32)), (0, .ref (G.2.1 0)), (1, .int a1), (2, .int a2), (3, .int a3)]) O dX9_knowsThat_19 (by decide) rfl ?_
      refine go_aload_n O dX9_knowsThat_21 rfl 1 rfl ?_
      refine go_iload_n O dX9_knowsThat_22 rfl 2 rfl ?_
      refine go_iload_n O dX9_knowsThat_23 rfl 3 rfl ?_
      obtain ⟨x6, hA5, hF⟩ := bd_s hF
      refine go_callVi (As := [.int a1, .int a2]) (rest := []) (b := 0) O (c_X9_doesHear l G hI hA5) (fun s args hts => cwV 2 hts gX9_knowsThat_X9_doesHear rfl rfl rfl (by decide +kernel) ⟨Nat.le_of_ble_eq_true rfl, Nat.le_of_ble_eq_true rfl⟩) (by decide : (0 : Nat) < 27) (cm_obj G (S.1 0) (S.2 0)) rfl rfl rfl rfl (Nat.le_of_ble_eq_true rfl) dX9_knowsThat_24 ?_
      refine go_istore (ls' := [(5, .int x6), (4, .int (0 : Int32)), (0, .ref (G.2.1 0)), (1, .int a1), (2, .int a2), (3, .int a3)]) O dX9_knowsThat_27 (by decide) rfl ?_
      refine go_iconst (v := (0 : Int32)) O dX9_knowsThat_29 (by decide) ?_
      refine go_istore (ls' := [(6, .int (0 : Int32)), (5, .int x6), (4, .int (0 : Int32)), (0, .ref (G.2.1 0)), (1, .int a1), (2, .int a2), (3, .int a3)]) O dX9_knowsThat_30 (by decide) rfl ?_
      refine go_perm (ls' := [(0, .ref (G.2.1 0)), (1, .int a1), (2, .int a2), (3, .int a3), (4, .int (0 : Int32)), (5, .int x6), (6, .int (0 : Int32))]) [3, 4, 5, 6, 2, 1, 0] rfl ?_
      obtain ⟨x7, hA50, hF⟩ := bd_s hF
      refine lt_X9_knowsThat_32 l G hI  O _ _ _ _ hA50 ?_
      refine go_iload O dX9_knowsThat_177 0 rfl ?_
      refine go_if_eq (tgt := 186) O dX9_knowsThat_179 (by decide) (fun hc51 => ?_) (fun hc51 => ?_)
      · replace hF := it_t hc51 hF
        refine go_iconst (v := (0 : Int32)) O dX9_knowsThat_186 (by decide) ?_
        exact ret_i hF (hR _ _ dX9_knowsThat_187)
      · replace hF := it_f hc51 hF
        refine go_iconst (v := (1 : Int32)) O dX9_knowsThat_182 (by decide) ?_
        refine go_goto (tgt := 187) O dX9_knowsThat_183 (by decide) ?_
        exact ret_i hF (hR _ _ dX9_knowsThat_187)
    · replace hF := it_t hc52 hF
      refine go_iconst (v := (-1 : Int32)) O dX9_knowsThat_16 (by decide) ?_
      exact ret_i hF (hR _ _ dX9_knowsThat_17)
-- X9_spread
def rm_X9_spread : Room := { frames := 4, cells := 0, slots := 0, locals := 90 }
theorem fl_X9_spread_34 : Cond.fieldLink RX9 34 "PaperWallsModel" "known" "[I" ∈ wsX9_spread := by decide +kernel
theorem fl_X9_spread_153 : Cond.fieldLink RX9 153 "PaperWallsModel" "people" "I" ∈ wsX9_spread := by decide +kernel
theorem wd_X9_spread_c208 : Cond.constantLong RX9 208 (20) ∈ wsX9_spread := by decide +kernel
theorem in_X9_spread_X9 : ∀ x ∈ u_ws RX9 TX9 36, x ∈ wsX9_spread := by decide +kernel
def T_X9_spread_43  (S : Sg) (p2 : Int32) (p3 : Int32) (p4 : Int32) : Nat → Int32 → Int32 → Option (Int32)
  | 0, _, _ => none
  | n + 1, p5, p6 => if (S.1 0 7) ≤ p6 then (some p5) else (bd (F_X9_has S p3 p6) (fun x10 => bd (if x10 = 0 then (some (0 : Int32)) else (bd (F_X9_heardBy S p6 (0 : Int32)) (fun x15 => some x15))) (fun x11 => nm (p5 ||| x11) (fun x17 => T_X9_spread_43 S p2 p3 p4 n x17 (p6 + (1 : Int32))))))
set_option maxHeartbeats 4000000 in
set_option maxRecDepth 100000 in
theorem lt_X9_spread_43 {X : XT} (l : Launch) (G : Gp) (hI : Ij (wM G))  {S : Sg} {p2 : Int32} {p3 : Int32} {p4 : Int32} (O : Ok X (wM G) cX9_spread RX9 wsX9_spread 7) : ∀ (n : Nat) (p5 : Int32) (p6 : Int32)  (q : (Int32)), T_X9_spread_43 S p2 p3 p4 n p5 p6  = some q → (Go X l rm_X9_spread (wM G) 7 83 [(0, .ref (G.2.1 0)), (2, .int p2), (4, .int p4), (5, .int q)] [] S) → Go X l rm_X9_spread (wM G) 7 43 [(0, .ref (G.2.1 0)), (2, .int p2), (3, .int p3), (4, .int p4), (5, .int p5), (6, .int p6)] [] S := by
  intro n
  induction n with
  | zero =>
    intro p5 p6  q hF
    cases hF
  | succ n ih =>
    intro p5 p6  q hF hE
    rw [T_X9_spread_43] at hF
    refine go_iload O dX9_spread_43 5 rfl ?_
    refine go_aload_n O dX9_spread_45 rfl 0 rfl ?_
    refine go_get (k := 0) (j := 7) O (by decide : (0 : Nat) < 27) (cm_obj G (S.1 0) (S.2 0)) rfl in_X9_spread_X9 (by decide) fl_X9_spread_153 rfl rfl dX9_spread_46 ?_
    refine go_icmp_ge (tgt := 83) O dX9_spread_49 (by decide) (fun hc18 => ?_) (fun hc18 => ?_)
    · replace hF := it_t hc18 hF
      refine go_perm (ls' := [(0, .ref (G.2.1 0)), (2, .int p2), (4, .int p4), (5, .int p5)]) [0, 1, 3, 4] rfl ?_
      exact jn (P := fun q => Go X l rm_X9_spread (wM G) 7 83 [(0, .ref (G.2.1 0)), (2, .int p2), (4, .int p4), (5, .int q)] [] S) hF hE
    · replace hF := it_f hc18 hF
      refine go_iload O dX9_spread_52 4 rfl ?_
      refine go_iload_n O dX9_spread_54 rfl 2 rfl ?_
      refine go_iload O dX9_spread_55 5 rfl ?_
      obtain ⟨x10, hA9, hF⟩ := bd_s hF
      refine go_callSi (As := [.int p3, .int p6]) (rest := [.int p5]) O (c_X9_has l G hI hA9) (fun s args hts => va_cwS 2 hts gX9_spread_X9_has rfl rfl rfl (by decide +kernel) ⟨Nat.le_of_ble_eq_true rfl, Nat.le_of_ble_eq_true rfl⟩) rfl rfl (Nat.le_of_ble_eq_true rfl) dX9_spread_57 ?_
      obtain ⟨x11, hA13, hF⟩ := bd_s hF
      have J12 : Go X l rm_X9_spread (wM G) 7 74 [(0, .ref (G.2.1 0)), (2, .int p2), (3, .int p3), (4, .int p4), (6, .int p6)] [.int x11, .int p5] S := by
        refine go_ior O dX9_spread_74 ?_
        obtain ⟨x17, ex17, hF⟩ := nm_s hF
        refine go_topi ex17 ?_
        refine go_istore (ls' := [(5, .int x17), (0, .ref (G.2.1 0)), (2, .int p2), (3, .int p3), (4, .int p4), (6, .int p6)]) O dX9_spread_75 (by decide) rfl ?_
        refine go_iinc (d := (1 : Int32)) (ls' := [(6, .int (p6 + (1 : Int32))), (5, .int x17), (0, .ref (G.2.1 0)), (2, .int p2), (3, .int p3), (4, .int p4)]) O dX9_spread_77 5 rfl (by decide) (by decide) rfl ?_
        refine go_goto (tgt := 43) O dX9_spread_80 (by decide) ?_
        refine go_perm (ls' := [(0, .ref (G.2.1 0)), (2, .int p2), (3, .int p3), (4, .int p4), (5, .int x17), (6, .int (p6 + (1 : Int32)))]) [2, 3, 4, 5, 1, 0] rfl ?_
        exact ih _ _ _ hF hE
      replace hF := hA13
      refine go_if_eq (tgt := 73) O dX9_spread_60 (by decide) (fun hc16 => ?_) (fun hc16 => ?_)
      · replace hF := it_t hc16 hF
        refine go_iconst (v := (0 : Int32)) O dX9_spread_73 (by decide) ?_
        refine go_perm (ls' := [(0, .ref (G.2.1 0)), (2, .int p2), (3, .int p3), (4, .int p4), (6, .int p6)]) [0, 1, 2, 3, 5] rfl ?_
        exact jn (P := fun q => Go X l rm_X9_spread (wM G) 7 74 [(0, .ref (G.2.1 0)), (2, .int p2), (3, .int p3), (4, .int p4), (6, .int p6)] [.int q, .int p5] S) hF J12
      · replace hF := it_f hc16 hF
        refine go_aload_n O dX9_spread_63 rfl 0 rfl ?_
        refine go_iload O dX9_spread_64 5 rfl ?_
        refine go_iconst (v := (0 : Int32)) O dX9_spread_66 (by decide) ?_
        obtain ⟨x15, hA14, hF⟩ := bd_s hF
        refine go_callVi (As := [.int p6, .int (0 : Int32)]) (rest := [.int p5]) (b := 0) O (c_X9_heardBy l G hI hA14) (fun s args hts => cwV 2 hts gX9_spread_X9_heardBy rfl rfl rfl (by decide +kernel) ⟨Nat.le_of_ble_eq_true rfl, Nat.le_of_ble_eq_true rfl⟩) (by decide : (0 : Nat) < 27) (cm_obj G (S.1 0) (S.2 0)) rfl rfl rfl rfl (Nat.le_of_ble_eq_true rfl) dX9_spread_67 ?_
        refine go_goto (tgt := 74) O dX9_spread_70 (by decide) ?_
        refine go_perm (ls' := [(0, .ref (G.2.1 0)), (2, .int p2), (3, .int p3), (4, .int p4), (6, .int p6)]) [0, 1, 2, 3, 5] rfl ?_
        exact jn (P := fun q => Go X l rm_X9_spread (wM G) 7 74 [(0, .ref (G.2.1 0)), (2, .int p2), (3, .int p3), (4, .int p4), (6, .int p6)] [.int q, .int p5] S) hF J12
def T_X9_spread_31  (S : Sg) (p2 : Int32) : Nat → Int32 → Int32 → Option (Int32)
  | 0, _, _ => none
  | n + 1, p3, p4 => if p2 ≤ p4 then (some p3) else (bd (T_X9_spread_43 S p2 p3 p4 FU p3 (0 : Int32)) (fun x8 => T_X9_spread_31 S p2 n x8 (p4 + (1 : Int32))))
set_option maxHeartbeats 4000000 in
set_option maxRecDepth 100000 in
theorem lt_X9_spread_31 {X : XT} (l : Launch) (G : Gp) (hI : Ij (wM G))  {S : Sg} {p2 : Int32} (O : Ok X (wM G) cX9_spread RX9 wsX9_spread 7) : ∀ (n : Nat) (p3 : Int32) (p4 : Int32)  (q : (Int32)), T_X9_spread_31 S p2 n p3 p4  = some q → (Go X l rm_X9_spread (wM G) 7 92 [(3, .int q)] [] S) → Go X l rm_X9_spread (wM G) 7 31 [(0, .ref (G.2.1 0)), (2, .int p2), (3, .int p3), (4, .int p4)] [] S := by
  intro n
  induction n with
  | zero =>
    intro p3 p4  q hF
    cases hF
  | succ n ih =>
    intro p3 p4  q hF hE
    rw [T_X9_spread_31] at hF
    refine go_iload O dX9_spread_31 3 rfl ?_
    refine go_iload_n O dX9_spread_33 rfl 1 rfl ?_
    refine go_icmp_ge (tgt := 92) O dX9_spread_34 (by decide) (fun hc20 => ?_) (fun hc20 => ?_)
    · replace hF := it_t hc20 hF
      refine go_perm (ls' := [(3, .int p3)]) [2] rfl ?_
      exact jn (P := fun q => Go X l rm_X9_spread (wM G) 7 92 [(3, .int q)] [] S) hF hE
    · replace hF := it_f hc20 hF
      refine go_iload_n O dX9_spread_37 rfl 2 rfl ?_
      refine go_istore (ls' := [(5, .int p3), (0, .ref (G.2.1 0)), (2, .int p2), (3, .int p3), (4, .int p4)]) O dX9_spread_38 (by decide) rfl ?_
      refine go_iconst (v := (0 : Int32)) O dX9_spread_40 (by decide) ?_
      refine go_istore (ls' := [(6, .int (0 : Int32)), (5, .int p3), (0, .ref (G.2.1 0)), (2, .int p2), (3, .int p3), (4, .int p4)]) O dX9_spread_41 (by decide) rfl ?_
      refine go_perm (ls' := [(0, .ref (G.2.1 0)), (2, .int p2), (3, .int p3), (4, .int p4), (5, .int p3), (6, .int (0 : Int32))]) [2, 3, 4, 5, 1, 0] rfl ?_
      obtain ⟨x8, hA19, hF⟩ := bd_s hF
      refine lt_X9_spread_43 l G hI  O _ _ _ _ hA19 ?_
      refine go_iload O dX9_spread_83 3 rfl ?_
      refine go_istore_n (ls' := [(3, .int x8), (0, .ref (G.2.1 0)), (2, .int p2), (4, .int p4), (5, .int x8)]) O dX9_spread_85 rfl (by decide) rfl ?_
      refine go_iinc (d := (1 : Int32)) (ls' := [(4, .int (p4 + (1 : Int32))), (3, .int x8), (0, .ref (G.2.1 0)), (2, .int p2), (5, .int x8)]) O dX9_spread_86 3 rfl (by decide) (by decide) rfl ?_
      refine go_goto (tgt := 31) O dX9_spread_89 (by decide) ?_
      refine go_perm (ls' := [(0, .ref (G.2.1 0)), (2, .int p2), (3, .int x8), (4, .int (p4 + (1 : Int32)))]) [2, 3, 1, 0] rfl ?_
      exact ih _ _ _ hF hE
def F_X9_spread  (S : Sg) (a1 : Int32) (a2 : Int32) : Option Int32 := bd (F_X9_isThing S a1) (fun x2 => if x2 = 0 then (some (-1 : Int32)) else (bd (F_X9_in S (Int32.toInt64 a2) (0 : Int64) (20 : Int64)) (fun x4 => if x4 = 0 then (some (-1 : Int32)) else (chk (inB a1 8) (nm (S.1 9 a1.toNatClampNeg) (fun x6 => bd (T_X9_spread_31 S a2 FU x6 (0 : Int32)) (fun x7 => some x7)))))))
set_option maxHeartbeats 4000000 in
set_option maxRecDepth 100000 in
theorem c_X9_spread (l : Launch) (G : Gp) (hI : Ij (wM G))  {S : Sg} {a1 : Int32} {a2 : Int32} {r : Int32} (hF : F_X9_spread S a1 a2 = some r) : Met l yX9_spread wsX9_spread rm_X9_spread (va_Pc [.ref (G.2.1 0), .int a1, .int a2] (PreW (wM G) S)) (va_Qi (fun r' u => r' = r ∧ u = S) (PostW (wM G)) (AW (wM G))) 0 0 (AW (wM G)) := by
  rw [F_X9_spread] at hF
  refine met_i (cc := cX9_spread) (maxL := 7) (own := RX9) hI (by decide) rfl rfl (Nat.le_of_ble_eq_true rfl) (fun X O hR => ?_)
  show Go X l rm_X9_spread (wM G) 7 0 [(0, .ref (G.2.1 0)), (1, .int a1), (2, .int a2)] [] S
  refine go_iload_n O dX9_spread_0 rfl 1 rfl ?_
  obtain ⟨x2, hA1, hF⟩ := bd_s hF
  refine go_callSi (As := [.int a1]) (rest := []) O (c_X9_isThing l G hI hA1) (fun s args hts => va_cwS 1 hts gX9_spread_X9_isThing rfl rfl rfl (by decide +kernel) ⟨Nat.le_of_ble_eq_true rfl, Nat.le_of_ble_eq_true rfl⟩) rfl rfl (Nat.le_of_ble_eq_true rfl) dX9_spread_1 ?_
  refine go_if_eq (tgt := 19) O dX9_spread_4 (by decide) (fun hc23 => ?_) (fun hc23 => ?_)
  · replace hF := it_t hc23 hF
    refine go_iconst (v := (-1 : Int32)) O dX9_spread_19 (by decide) ?_
    exact ret_i hF (hR _ _ dX9_spread_20)
  · replace hF := it_f hc23 hF
    refine go_iload_n O dX9_spread_7 rfl 2 rfl ?_
    refine go_i2l (v := Int32.toInt64 a2) O dX9_spread_8 rfl ?_
    refine go_lconst (v := (0 : Int64)) O dX9_spread_9 (by decide) ?_
    refine go_ldc2 (v := (20 : Int64)) O dX9_spread_10 wd_X9_spread_c208 ?_
    obtain ⟨x4, hA3, hF⟩ := bd_s hF
    refine go_callSi (As := [.long (Int32.toInt64 a2), .long (0 : Int64), .long (20 : Int64)]) (rest := []) O (c_X9_in l G hI hA3) (fun s args hts => va_cwS 3 hts gX9_spread_X9_in rfl rfl rfl (by decide +kernel) ⟨Nat.le_of_ble_eq_true rfl, Nat.le_of_ble_eq_true rfl⟩) rfl rfl (Nat.le_of_ble_eq_true rfl) dX9_spread_13 ?_
    refine go_if_ne (tgt := 21) O dX9_spread_16 (by decide) (fun hc22 => ?_) (fun hc22 => ?_)
    · replace hF := it_f hc22 hF
      refine go_aload_n O dX9_spread_21 rfl 0 rfl ?_
      refine go_get (k := 0) (j := 11) O (by decide : (0 : Nat) < 27) (cm_obj G (S.1 0) (S.2 0)) rfl in_X9_spread_X9 (by decide) fl_X9_spread_34 rfl rfl dX9_spread_22 ?_
      refine go_iload_n O dX9_spread_25 rfl 1 rfl ?_
      obtain ⟨hb5, hF⟩ := chk_s hF
      refine go_iald (k := 9) O (by decide : (9 : Nat) < 27) (cm_9 G (S.1 9) (S.2 9)) (inB_in hb5) dX9_spread_26 ?_
      obtain ⟨x6, ex6, hF⟩ := nm_s hF
      refine go_topi ex6 ?_
      refine go_istore_n (ls' := [(3, .int x6), (0, .ref (G.2.1 0)), (1, .int a1), (2, .int a2)]) O dX9_spread_27 rfl (by decide) rfl ?_
      refine go_iconst (v := (0 : Int32)) O dX9_spread_28 (by decide) ?_
      refine go_istore (ls' := [(4, .int (0 : Int32)), (3, .int x6), (0, .ref (G.2.1 0)), (1, .int a1), (2, .int a2)]) O dX9_spread_29 (by decide) rfl ?_
      refine go_perm (ls' := [(0, .ref (G.2.1 0)), (2, .int a2), (3, .int x6), (4, .int (0 : Int32))]) [2, 4, 1, 0] rfl ?_
      obtain ⟨x7, hA21, hF⟩ := bd_s hF
      refine lt_X9_spread_31 l G hI  O _ _ _ _ hA21 ?_
      refine go_iload_n O dX9_spread_92 rfl 0 rfl ?_
      exact ret_i hF (hR _ _ dX9_spread_93)
    · replace hF := it_t hc22 hF
      refine go_iconst (v := (-1 : Int32)) O dX9_spread_19 (by decide) ?_
      exact ret_i hF (hR _ _ dX9_spread_20)
-- X9_leak
def rm_X9_leak : Room := { frames := 4, cells := 0, slots := 0, locals := 90 }
theorem fl_X9_leak_153 : Cond.fieldLink RX9 153 "PaperWallsModel" "people" "I" ∈ wsX9_leak := by decide +kernel
theorem in_X9_leak_X9 : ∀ x ∈ u_ws RX9 TX9 36, x ∈ wsX9_leak := by decide +kernel
def T_X9_leak_14  (S : Sg) (p1 : Int32) : Nat → Int32 → Int32 → Option (Int32)
  | 0, _, _ => none
  | n + 1, p2, p3 => if (S.1 0 7) ≤ p3 then (some p2) else (bd (F_X9_has S p1 p3) (fun x5 => bd (if x5 = 0 then (some (0 : Int32)) else (bd (F_X9_heardBy S p3 (0 : Int32)) (fun x10 => if x10 = (p1 &&& (((1 : Int32) <<< (p3 &&& 31)) ^^^ (-1 : Int32))) then (some ((1 : Int32) <<< (p3 &&& 31))) else (some (0 : Int32))))) (fun x6 => nm (p2 ||| x6) (fun x13 => T_X9_leak_14 S p1 n x13 (p3 + (1 : Int32))))))
set_option maxHeartbeats 4000000 in
set_option maxRecDepth 100000 in
theorem lt_X9_leak_14 {X : XT} (l : Launch) (G : Gp) (hI : Ij (wM G))  {S : Sg} {p1 : Int32} (O : Ok X (wM G) cX9_leak RX9 wsX9_leak 4) : ∀ (n : Nat) (p2 : Int32) (p3 : Int32)  (q : (Int32)), T_X9_leak_14 S p1 n p2 p3  = some q → (Go X l rm_X9_leak (wM G) 4 62 [(2, .int q)] [] S) → Go X l rm_X9_leak (wM G) 4 14 [(0, .ref (G.2.1 0)), (1, .int p1), (2, .int p2), (3, .int p3)] [] S := by
  intro n
  induction n with
  | zero =>
    intro p2 p3  q hF
    cases hF
  | succ n ih =>
    intro p2 p3  q hF hE
    rw [T_X9_leak_14] at hF
    refine go_iload_n O dX9_leak_14 rfl 3 rfl ?_
    refine go_aload_n O dX9_leak_15 rfl 0 rfl ?_
    refine go_get (k := 0) (j := 7) O (by decide : (0 : Nat) < 27) (cm_obj G (S.1 0) (S.2 0)) rfl in_X9_leak_X9 (by decide) fl_X9_leak_153 rfl rfl dX9_leak_16 ?_
    refine go_icmp_ge (tgt := 62) O dX9_leak_19 (by decide) (fun hc14 => ?_) (fun hc14 => ?_)
    · replace hF := it_t hc14 hF
      refine go_perm (ls' := [(2, .int p2)]) [2] rfl ?_
      exact jn (P := fun q => Go X l rm_X9_leak (wM G) 4 62 [(2, .int q)] [] S) hF hE
    · replace hF := it_f hc14 hF
      refine go_iload_n O dX9_leak_22 rfl 2 rfl ?_
      refine go_iload_n O dX9_leak_23 rfl 1 rfl ?_
      refine go_iload_n O dX9_leak_24 rfl 3 rfl ?_
      obtain ⟨x5, hA4, hF⟩ := bd_s hF
      refine go_callSi (As := [.int p1, .int p3]) (rest := [.int p2]) O (c_X9_has l G hI hA4) (fun s args hts => va_cwS 2 hts gX9_leak_X9_has rfl rfl rfl (by decide +kernel) ⟨Nat.le_of_ble_eq_true rfl, Nat.le_of_ble_eq_true rfl⟩) rfl rfl (Nat.le_of_ble_eq_true rfl) dX9_leak_25 ?_
      obtain ⟨x6, hA8, hF⟩ := bd_s hF
      have J7 : Go X l rm_X9_leak (wM G) 4 54 [(0, .ref (G.2.1 0)), (1, .int p1), (3, .int p3)] [.int x6, .int p2] S := by
        refine go_ior O dX9_leak_54 ?_
        obtain ⟨x13, ex13, hF⟩ := nm_s hF
        refine go_topi ex13 ?_
        refine go_istore_n (ls' := [(2, .int x13), (0, .ref (G.2.1 0)), (1, .int p1), (3, .int p3)]) O dX9_leak_55 rfl (by decide) rfl ?_
        refine go_iinc (d := (1 : Int32)) (ls' := [(3, .int (p3 + (1 : Int32))), (2, .int x13), (0, .ref (G.2.1 0)), (1, .int p1)]) O dX9_leak_56 3 rfl (by decide) (by decide) rfl ?_
        refine go_goto (tgt := 14) O dX9_leak_59 (by decide) ?_
        refine go_perm (ls' := [(0, .ref (G.2.1 0)), (1, .int p1), (2, .int x13), (3, .int (p3 + (1 : Int32)))]) [2, 3, 1, 0] rfl ?_
        exact ih _ _ _ hF hE
      replace hF := hA8
      refine go_if_eq (tgt := 53) O dX9_leak_28 (by decide) (fun hc12 => ?_) (fun hc12 => ?_)
      · replace hF := it_t hc12 hF
        refine go_iconst (v := (0 : Int32)) O dX9_leak_53 (by decide) ?_
        refine go_perm (ls' := [(0, .ref (G.2.1 0)), (1, .int p1), (3, .int p3)]) [0, 1, 3] rfl ?_
        exact jn (P := fun q => Go X l rm_X9_leak (wM G) 4 54 [(0, .ref (G.2.1 0)), (1, .int p1), (3, .int p3)] [.int q, .int p2] S) hF J7
      · replace hF := it_f hc12 hF
        refine go_aload_n O dX9_leak_31 rfl 0 rfl ?_
        refine go_iload_n O dX9_leak_32 rfl 3 rfl ?_
        refine go_iconst (v := (0 : Int32)) O dX9_leak_33 (by decide) ?_
        obtain ⟨x10, hA9, hF⟩ := bd_s hF
        refine go_callVi (As := [.int p3, .int (0 : Int32)]) (rest := [.int p2]) (b := 0) O (c_X9_heardBy l G hI hA9) (fun s args hts => cwV 2 hts gX9_leak_X9_heardBy rfl rfl rfl (by decide +kernel) ⟨Nat.le_of_ble_eq_true rfl, Nat.le_of_ble_eq_true rfl⟩) (by decide : (0 : Nat) < 27) (cm_obj G (S.1 0) (S.2 0)) rfl rfl rfl rfl (Nat.le_of_ble_eq_true rfl) dX9_leak_34 ?_
        refine go_iload_n O dX9_leak_37 rfl 1 rfl ?_
        refine go_iconst (v := (1 : Int32)) O dX9_leak_38 (by decide) ?_
        refine go_iload_n O dX9_leak_39 rfl 3 rfl ?_
        refine go_ishl O dX9_leak_40 ?_
        refine go_iconst (v := (-1 : Int32)) O dX9_leak_41 (by decide) ?_
        refine go_ixor O dX9_leak_42 ?_
        refine go_iand O dX9_leak_43 ?_
        refine go_icmp_ne (tgt := 53) O dX9_leak_44 (by decide) (fun hc11 => ?_) (fun hc11 => ?_)
        · replace hF := it_f hc11 hF
          refine go_iconst (v := (0 : Int32)) O dX9_leak_53 (by decide) ?_
          refine go_perm (ls' := [(0, .ref (G.2.1 0)), (1, .int p1), (3, .int p3)]) [0, 1, 3] rfl ?_
          exact jn (P := fun q => Go X l rm_X9_leak (wM G) 4 54 [(0, .ref (G.2.1 0)), (1, .int p1), (3, .int p3)] [.int q, .int p2] S) hF J7
        · replace hF := it_t hc11 hF
          refine go_iconst (v := (1 : Int32)) O dX9_leak_47 (by decide) ?_
          refine go_iload_n O dX9_leak_48 rfl 3 rfl ?_
          refine go_ishl O dX9_leak_49 ?_
          refine go_goto (tgt := 54) O dX9_leak_50 (by decide) ?_
          refine go_perm (ls' := [(0, .ref (G.2.1 0)), (1, .int p1), (3, .int p3)]) [0, 1, 3] rfl ?_
          exact jn (P := fun q => Go X l rm_X9_leak (wM G) 4 54 [(0, .ref (G.2.1 0)), (1, .int p1), (3, .int p3)] [.int q, .int p2] S) hF J7
def F_X9_leak  (S : Sg) (a1 : Int32) : Option Int32 := bd (F_X9_isSet S a1) (fun x2 => if x2 = 0 then (some (-1 : Int32)) else (bd (T_X9_leak_14 S a1 FU (0 : Int32) (0 : Int32)) (fun x3 => some x3)))
set_option maxHeartbeats 4000000 in
set_option maxRecDepth 100000 in
theorem c_X9_leak (l : Launch) (G : Gp) (hI : Ij (wM G))  {S : Sg} {a1 : Int32} {r : Int32} (hF : F_X9_leak S a1 = some r) : Met l yX9_leak wsX9_leak rm_X9_leak (va_Pc [.ref (G.2.1 0), .int a1] (PreW (wM G) S)) (va_Qi (fun r' u => r' = r ∧ u = S) (PostW (wM G)) (AW (wM G))) 0 0 (AW (wM G)) := by
  rw [F_X9_leak] at hF
  refine met_i (cc := cX9_leak) (maxL := 4) (own := RX9) hI (by decide) rfl rfl (Nat.le_of_ble_eq_true rfl) (fun X O hR => ?_)
  show Go X l rm_X9_leak (wM G) 4 0 [(0, .ref (G.2.1 0)), (1, .int a1)] [] S
  refine go_aload_n O dX9_leak_0 rfl 0 rfl ?_
  refine go_iload_n O dX9_leak_1 rfl 1 rfl ?_
  obtain ⟨x2, hA1, hF⟩ := bd_s hF
  refine go_callVi (As := [.int a1]) (rest := []) (b := 0) O (c_X9_isSet l G hI hA1) (fun s args hts => cwV 1 hts gX9_leak_X9_isSet rfl rfl rfl (by decide +kernel) ⟨Nat.le_of_ble_eq_true rfl, Nat.le_of_ble_eq_true rfl⟩) (by decide : (0 : Nat) < 27) (cm_obj G (S.1 0) (S.2 0)) rfl rfl rfl rfl (Nat.le_of_ble_eq_true rfl) dX9_leak_2 ?_
  refine go_if_ne (tgt := 10) O dX9_leak_5 (by decide) (fun hc16 => ?_) (fun hc16 => ?_)
  · replace hF := it_f hc16 hF
    refine go_iconst (v := (0 : Int32)) O dX9_leak_10 (by decide) ?_
    refine go_istore_n (ls' := [(2, .int (0 : Int32)), (0, .ref (G.2.1 0)), (1, .int a1)]) O dX9_leak_11 rfl (by decide) rfl ?_
    refine go_iconst (v := (0 : Int32)) O dX9_leak_12 (by decide) ?_
    refine go_istore_n (ls' := [(3, .int (0 : Int32)), (2, .int (0 : Int32)), (0, .ref (G.2.1 0)), (1, .int a1)]) O dX9_leak_13 rfl (by decide) rfl ?_
    refine go_perm (ls' := [(0, .ref (G.2.1 0)), (1, .int a1), (2, .int (0 : Int32)), (3, .int (0 : Int32))]) [2, 3, 1, 0] rfl ?_
    obtain ⟨x3, hA15, hF⟩ := bd_s hF
    refine lt_X9_leak_14 l G hI  O _ _ _ _ hA15 ?_
    refine go_iload_n O dX9_leak_62 rfl 0 rfl ?_
    exact ret_i hF (hR _ _ dX9_leak_63)
  · replace hF := it_t hc16 hF
    refine go_iconst (v := (-1 : Int32)) O dX9_leak_8 (by decide) ?_
    exact ret_i hF (hR _ _ dX9_leak_9)
-- X9_leaks
def rm_X9_leaks : Room := { frames := 4, cells := 0, slots := 0, locals := 90 }
theorem fl_X9_leaks_153 : Cond.fieldLink RX9 153 "PaperWallsModel" "people" "I" ∈ wsX9_leaks := by decide +kernel
theorem in_X9_leaks_X9 : ∀ x ∈ u_ws RX9 TX9 36, x ∈ wsX9_leaks := by decide +kernel
def T_X9_leaks_37  (S : Sg) (p1 : Int32) (p3 : Int32) (p4 : Int32) : Nat → Int32 → Int32 → Option (Int32)
  | 0, _, _ => none
  | n + 1, p2, p5 => if (S.1 0 7) ≤ p5 then (some p2) else (bd (F_X9_has S p4 p5) (fun x9 => bd (if x9 = 0 then (some (0 : Int32)) else (bd (F_X9_heardBy S p5 (0 : Int32)) (fun x14 => if (p4 ||| x14) = p1 then (some (1 : Int32)) else (some (0 : Int32))))) (fun x10 => nm (p2 + x10) (fun x17 => T_X9_leaks_37 S p1 p3 p4 n x17 (p5 + (1 : Int32))))))
set_option maxHeartbeats 4000000 in
set_option maxRecDepth 100000 in
theorem lt_X9_leaks_37 {X : XT} (l : Launch) (G : Gp) (hI : Ij (wM G))  {S : Sg} {p1 : Int32} {p3 : Int32} {p4 : Int32} (O : Ok X (wM G) cX9_leaks RX9 wsX9_leaks 6) : ∀ (n : Nat) (p2 : Int32) (p5 : Int32)  (q : (Int32)), T_X9_leaks_37 S p1 p3 p4 n p2 p5  = some q → (Go X l rm_X9_leaks (wM G) 6 84 [(0, .ref (G.2.1 0)), (1, .int p1), (2, .int q), (3, .int p3)] [] S) → Go X l rm_X9_leaks (wM G) 6 37 [(0, .ref (G.2.1 0)), (1, .int p1), (2, .int p2), (3, .int p3), (4, .int p4), (5, .int p5)] [] S := by
  intro n
  induction n with
  | zero =>
    intro p2 p5  q hF
    cases hF
  | succ n ih =>
    intro p2 p5  q hF hE
    rw [T_X9_leaks_37] at hF
    refine go_iload O dX9_leaks_37 5 rfl ?_
    refine go_aload_n O dX9_leaks_39 rfl 0 rfl ?_
    refine go_get (k := 0) (j := 7) O (by decide : (0 : Nat) < 27) (cm_obj G (S.1 0) (S.2 0)) rfl in_X9_leaks_X9 (by decide) fl_X9_leaks_153 rfl rfl dX9_leaks_40 ?_
    refine go_icmp_ge (tgt := 84) O dX9_leaks_43 (by decide) (fun hc18 => ?_) (fun hc18 => ?_)
    · replace hF := it_t hc18 hF
      refine go_perm (ls' := [(0, .ref (G.2.1 0)), (1, .int p1), (2, .int p2), (3, .int p3)]) [0, 1, 2, 3] rfl ?_
      exact jn (P := fun q => Go X l rm_X9_leaks (wM G) 6 84 [(0, .ref (G.2.1 0)), (1, .int p1), (2, .int q), (3, .int p3)] [] S) hF hE
    · replace hF := it_f hc18 hF
      refine go_iload_n O dX9_leaks_46 rfl 2 rfl ?_
      refine go_iload O dX9_leaks_47 4 rfl ?_
      refine go_iload O dX9_leaks_49 5 rfl ?_
      obtain ⟨x9, hA8, hF⟩ := bd_s hF
      refine go_callSi (As := [.int p4, .int p5]) (rest := [.int p2]) O (c_X9_has l G hI hA8) (fun s args hts => va_cwS 2 hts gX9_leaks_X9_has rfl rfl rfl (by decide +kernel) ⟨Nat.le_of_ble_eq_true rfl, Nat.le_of_ble_eq_true rfl⟩) rfl rfl (Nat.le_of_ble_eq_true rfl) dX9_leaks_51 ?_
      obtain ⟨x10, hA12, hF⟩ := bd_s hF
      have J11 : Go X l rm_X9_leaks (wM G) 6 76 [(0, .ref (G.2.1 0)), (1, .int p1), (3, .int p3), (4, .int p4), (5, .int p5)] [.int x10, .int p2] S := by
        refine go_iadd O dX9_leaks_76 ?_
        obtain ⟨x17, ex17, hF⟩ := nm_s hF
        refine go_topi ex17 ?_
        refine go_istore_n (ls' := [(2, .int x17), (0, .ref (G.2.1 0)), (1, .int p1), (3, .int p3), (4, .int p4), (5, .int p5)]) O dX9_leaks_77 rfl (by decide) rfl ?_
        refine go_iinc (d := (1 : Int32)) (ls' := [(5, .int (p5 + (1 : Int32))), (2, .int x17), (0, .ref (G.2.1 0)), (1, .int p1), (3, .int p3), (4, .int p4)]) O dX9_leaks_78 5 rfl (by decide) (by decide) rfl ?_
        refine go_goto (tgt := 37) O dX9_leaks_81 (by decide) ?_
        refine go_perm (ls' := [(0, .ref (G.2.1 0)), (1, .int p1), (2, .int x17), (3, .int p3), (4, .int p4), (5, .int (p5 + (1 : Int32)))]) [2, 3, 1, 4, 5, 0] rfl ?_
        exact ih _ _ _ hF hE
      replace hF := hA12
      refine go_if_eq (tgt := 75) O dX9_leaks_54 (by decide) (fun hc16 => ?_) (fun hc16 => ?_)
      · replace hF := it_t hc16 hF
        refine go_iconst (v := (0 : Int32)) O dX9_leaks_75 (by decide) ?_
        refine go_perm (ls' := [(0, .ref (G.2.1 0)), (1, .int p1), (3, .int p3), (4, .int p4), (5, .int p5)]) [0, 1, 3, 4, 5] rfl ?_
        exact jn (P := fun q => Go X l rm_X9_leaks (wM G) 6 76 [(0, .ref (G.2.1 0)), (1, .int p1), (3, .int p3), (4, .int p4), (5, .int p5)] [.int q, .int p2] S) hF J11
      · replace hF := it_f hc16 hF
        refine go_iload O dX9_leaks_57 4 rfl ?_
        refine go_aload_n O dX9_leaks_59 rfl 0 rfl ?_
        refine go_iload O dX9_leaks_60 5 rfl ?_
        refine go_iconst (v := (0 : Int32)) O dX9_leaks_62 (by decide) ?_
        obtain ⟨x14, hA13, hF⟩ := bd_s hF
        refine go_callVi (As := [.int p5, .int (0 : Int32)]) (rest := [.int p4, .int p2]) (b := 0) O (c_X9_heardBy l G hI hA13) (fun s args hts => cwV 2 hts gX9_leaks_X9_heardBy rfl rfl rfl (by decide +kernel) ⟨Nat.le_of_ble_eq_true rfl, Nat.le_of_ble_eq_true rfl⟩) (by decide : (0 : Nat) < 27) (cm_obj G (S.1 0) (S.2 0)) rfl rfl rfl rfl (Nat.le_of_ble_eq_true rfl) dX9_leaks_63 ?_
        refine go_ior O dX9_leaks_66 ?_
        refine go_iload_n O dX9_leaks_67 rfl 1 rfl ?_
        refine go_icmp_ne (tgt := 75) O dX9_leaks_68 (by decide) (fun hc15 => ?_) (fun hc15 => ?_)
        · replace hF := it_f hc15 hF
          refine go_iconst (v := (0 : Int32)) O dX9_leaks_75 (by decide) ?_
          refine go_perm (ls' := [(0, .ref (G.2.1 0)), (1, .int p1), (3, .int p3), (4, .int p4), (5, .int p5)]) [0, 1, 3, 4, 5] rfl ?_
          exact jn (P := fun q => Go X l rm_X9_leaks (wM G) 6 76 [(0, .ref (G.2.1 0)), (1, .int p1), (3, .int p3), (4, .int p4), (5, .int p5)] [.int q, .int p2] S) hF J11
        · replace hF := it_t hc15 hF
          refine go_iconst (v := (1 : Int32)) O dX9_leaks_71 (by decide) ?_
          refine go_goto (tgt := 76) O dX9_leaks_72 (by decide) ?_
          refine go_perm (ls' := [(0, .ref (G.2.1 0)), (1, .int p1), (3, .int p3), (4, .int p4), (5, .int p5)]) [0, 1, 3, 4, 5] rfl ?_
          exact jn (P := fun q => Go X l rm_X9_leaks (wM G) 6 76 [(0, .ref (G.2.1 0)), (1, .int p1), (3, .int p3), (4, .int p4), (5, .int p5)] [.int q, .int p2] S) hF J11
def T_X9_leaks_14  (S : Sg) (p1 : Int32) : Nat → Int32 → Int32 → Option (Int32)
  | 0, _, _ => none
  | n + 1, p2, p3 => if (S.1 0 7) ≤ p3 then (some p2) else (bd (F_X9_heardBy S p3 (0 : Int32)) (fun x5 => nm (x5 ||| ((1 : Int32) <<< (p3 &&& 31))) (fun x6 => bd (T_X9_leaks_37 S p1 p3 x6 FU p2 (0 : Int32)) (fun x7 => T_X9_leaks_14 S p1 n x7 (p3 + (1 : Int32))))))
set_option maxHeartbeats 4000000 in
set_option maxRecDepth 100000 in
theorem lt_X9_leaks_14 {X : XT} (l : Launch) (G : Gp) (hI : Ij (wM G))  {S : Sg} {p1 : Int32} (O : Ok X (wM G) cX9_leaks RX9 wsX9_leaks 6) : ∀ (n : Nat) (p2 : Int32) (p3 : Int32)  (q : (Int32)), T_X9_leaks_14 S p1 n p2 p3  = some q → (Go X l rm_X9_leaks (wM G) 6 90 [(2, .int q)] [] S) → Go X l rm_X9_leaks (wM G) 6 14 [(0, .ref (G.2.1 0)), (1, .int p1), (2, .int p2), (3, .int p3)] [] S := by
  intro n
  induction n with
  | zero =>
    intro p2 p3  q hF
    cases hF
  | succ n ih =>
    intro p2 p3  q hF hE
    rw [T_X9_leaks_14] at hF
    refine go_iload_n O dX9_leaks_14 rfl 3 rfl ?_
    refine go_aload_n O dX9_leaks_15 rfl 0 rfl ?_
    refine go_get (k := 0) (j := 7) O (by decide : (0 : Nat) < 27) (cm_obj G (S.1 0) (S.2 0)) rfl in_X9_leaks_X9 (by decide) fl_X9_leaks_153 rfl rfl dX9_leaks_16 ?_
    refine go_icmp_ge (tgt := 90) O dX9_leaks_19 (by decide) (fun hc20 => ?_) (fun hc20 => ?_)
    · replace hF := it_t hc20 hF
      refine go_perm (ls' := [(2, .int p2)]) [2] rfl ?_
      exact jn (P := fun q => Go X l rm_X9_leaks (wM G) 6 90 [(2, .int q)] [] S) hF hE
    · replace hF := it_f hc20 hF
      refine go_aload_n O dX9_leaks_22 rfl 0 rfl ?_
      refine go_iload_n O dX9_leaks_23 rfl 3 rfl ?_
      refine go_iconst (v := (0 : Int32)) O dX9_leaks_24 (by decide) ?_
      obtain ⟨x5, hA4, hF⟩ := bd_s hF
      refine go_callVi (As := [.int p3, .int (0 : Int32)]) (rest := []) (b := 0) O (c_X9_heardBy l G hI hA4) (fun s args hts => cwV 2 hts gX9_leaks_X9_heardBy rfl rfl rfl (by decide +kernel) ⟨Nat.le_of_ble_eq_true rfl, Nat.le_of_ble_eq_true rfl⟩) (by decide : (0 : Nat) < 27) (cm_obj G (S.1 0) (S.2 0)) rfl rfl rfl rfl (Nat.le_of_ble_eq_true rfl) dX9_leaks_25 ?_
      refine go_iconst (v := (1 : Int32)) O dX9_leaks_28 (by decide) ?_
      refine go_iload_n O dX9_leaks_29 rfl 3 rfl ?_
      refine go_ishl O dX9_leaks_30 ?_
      refine go_ior O dX9_leaks_31 ?_
      obtain ⟨x6, ex6, hF⟩ := nm_s hF
      refine go_topi ex6 ?_
      refine go_istore (ls' := [(4, .int x6), (0, .ref (G.2.1 0)), (1, .int p1), (2, .int p2), (3, .int p3)]) O dX9_leaks_32 (by decide) rfl ?_
      refine go_iconst (v := (0 : Int32)) O dX9_leaks_34 (by decide) ?_
      refine go_istore (ls' := [(5, .int (0 : Int32)), (4, .int x6), (0, .ref (G.2.1 0)), (1, .int p1), (2, .int p2), (3, .int p3)]) O dX9_leaks_35 (by decide) rfl ?_
      refine go_perm (ls' := [(0, .ref (G.2.1 0)), (1, .int p1), (2, .int p2), (3, .int p3), (4, .int x6), (5, .int (0 : Int32))]) [2, 3, 4, 5, 1, 0] rfl ?_
      obtain ⟨x7, hA19, hF⟩ := bd_s hF
      refine lt_X9_leaks_37 l G hI  O _ _ _ _ hA19 ?_
      refine go_iinc (d := (1 : Int32)) (ls' := [(3, .int (p3 + (1 : Int32))), (0, .ref (G.2.1 0)), (1, .int p1), (2, .int x7)]) O dX9_leaks_84 3 rfl (by decide) (by decide) rfl ?_
      refine go_goto (tgt := 14) O dX9_leaks_87 (by decide) ?_
      refine go_perm (ls' := [(0, .ref (G.2.1 0)), (1, .int p1), (2, .int x7), (3, .int (p3 + (1 : Int32)))]) [1, 2, 3, 0] rfl ?_
      exact ih _ _ _ hF hE
def F_X9_leaks  (S : Sg) (a1 : Int32) : Option Int32 := bd (F_X9_isSet S a1) (fun x2 => if x2 = 0 then (some (-1 : Int32)) else (bd (T_X9_leaks_14 S a1 FU (0 : Int32) (0 : Int32)) (fun x3 => some x3)))
set_option maxHeartbeats 4000000 in
set_option maxRecDepth 100000 in
theorem c_X9_leaks (l : Launch) (G : Gp) (hI : Ij (wM G))  {S : Sg} {a1 : Int32} {r : Int32} (hF : F_X9_leaks S a1 = some r) : Met l yX9_leaks wsX9_leaks rm_X9_leaks (va_Pc [.ref (G.2.1 0), .int a1] (PreW (wM G) S)) (va_Qi (fun r' u => r' = r ∧ u = S) (PostW (wM G)) (AW (wM G))) 0 0 (AW (wM G)) := by
  rw [F_X9_leaks] at hF
  refine met_i (cc := cX9_leaks) (maxL := 6) (own := RX9) hI (by decide) rfl rfl (Nat.le_of_ble_eq_true rfl) (fun X O hR => ?_)
  show Go X l rm_X9_leaks (wM G) 6 0 [(0, .ref (G.2.1 0)), (1, .int a1)] [] S
  refine go_aload_n O dX9_leaks_0 rfl 0 rfl ?_
  refine go_iload_n O dX9_leaks_1 rfl 1 rfl ?_
  obtain ⟨x2, hA1, hF⟩ := bd_s hF
  refine go_callVi (As := [.int a1]) (rest := []) (b := 0) O (c_X9_isSet l G hI hA1) (fun s args hts => cwV 1 hts gX9_leaks_X9_isSet rfl rfl rfl (by decide +kernel) ⟨Nat.le_of_ble_eq_true rfl, Nat.le_of_ble_eq_true rfl⟩) (by decide : (0 : Nat) < 27) (cm_obj G (S.1 0) (S.2 0)) rfl rfl rfl rfl (Nat.le_of_ble_eq_true rfl) dX9_leaks_2 ?_
  refine go_if_ne (tgt := 10) O dX9_leaks_5 (by decide) (fun hc22 => ?_) (fun hc22 => ?_)
  · replace hF := it_f hc22 hF
    refine go_iconst (v := (0 : Int32)) O dX9_leaks_10 (by decide) ?_
    refine go_istore_n (ls' := [(2, .int (0 : Int32)), (0, .ref (G.2.1 0)), (1, .int a1)]) O dX9_leaks_11 rfl (by decide) rfl ?_
    refine go_iconst (v := (0 : Int32)) O dX9_leaks_12 (by decide) ?_
    refine go_istore_n (ls' := [(3, .int (0 : Int32)), (2, .int (0 : Int32)), (0, .ref (G.2.1 0)), (1, .int a1)]) O dX9_leaks_13 rfl (by decide) rfl ?_
    refine go_perm (ls' := [(0, .ref (G.2.1 0)), (1, .int a1), (2, .int (0 : Int32)), (3, .int (0 : Int32))]) [2, 3, 1, 0] rfl ?_
    obtain ⟨x3, hA21, hF⟩ := bd_s hF
    refine lt_X9_leaks_14 l G hI  O _ _ _ _ hA21 ?_
    refine go_iload_n O dX9_leaks_90 rfl 0 rfl ?_
    exact ret_i hF (hR _ _ dX9_leaks_91)
  · replace hF := it_t hc22 hF
    refine go_iconst (v := (-1 : Int32)) O dX9_leaks_8 (by decide) ?_
    exact ret_i hF (hR _ _ dX9_leaks_9)
-- X9_carried
def rm_X9_carried : Room := { frames := 1, cells := 0, slots := 0, locals := 25 }
theorem fl_X9_carried_25 : Cond.fieldLink RX9 25 "PaperWallsModel" "where" "[I" ∈ wsX9_carried := by decide +kernel
theorem fl_X9_carried_28 : Cond.fieldLink RX9 28 "PaperWallsModel" "layers" "[I" ∈ wsX9_carried := by decide +kernel
theorem fl_X9_carried_31 : Cond.fieldLink RX9 31 "PaperWallsModel" "talks" "[I" ∈ wsX9_carried := by decide +kernel
theorem fl_X9_carried_34 : Cond.fieldLink RX9 34 "PaperWallsModel" "known" "[I" ∈ wsX9_carried := by decide +kernel
theorem fl_X9_carried_37 : Cond.fieldLink RX9 37 "PaperWallsModel" "tellers" "[I" ∈ wsX9_carried := by decide +kernel
theorem fl_X9_carried_40 : Cond.fieldLink RX9 40 "PaperWallsModel" "things" "[I" ∈ wsX9_carried := by decide +kernel
theorem fl_X9_carried_43 : Cond.fieldLink RX9 43 "PaperWallsModel" "hearers" "[I" ∈ wsX9_carried := by decide +kernel
theorem fl_X9_carried_46 : Cond.fieldLink RX9 46 "PaperWallsModel" "ahead" "[I" ∈ wsX9_carried := by decide +kernel
theorem fl_X9_carried_156 : Cond.fieldLink RX9 156 "PaperWallsModel" "talkMany" "I" ∈ wsX9_carried := by decide +kernel
theorem fl_X9_carried_159 : Cond.fieldLink RX9 159 "PaperWallsModel" "hours" "I" ∈ wsX9_carried := by decide +kernel
theorem wd_X9_carried_c255 : Cond.constantLong RX9 255 (7) ∈ wsX9_carried := by decide +kernel
theorem wd_X9_carried_c260 : Cond.constantLong RX9 260 (12) ∈ wsX9_carried := by decide +kernel
theorem in_X9_carried_X9 : ∀ x ∈ u_ws RX9 TX9 36, x ∈ wsX9_carried := by decide +kernel
def F_X9_carried  (S : Sg) (a1 : Int32) (a2 : Int32) (a3 : Int32) : Option (Int32 × Sg) := if (21 : Int32) ≤ a1 then (if (45 : Int32) ≤ a1 then (if (165 : Int32) ≤ a1 then (if (485 : Int32) ≤ a1 then (bd (if a3 = 0 then (some (S.1 0 10)) else (if a1 = (485 : Int32) then (some a2) else (some (S.1 0 10)))) (fun x1 => nm (wI S 0 10 x1) (fun S6 => bd (if a3 = 0 then (some (S6.1 0 16)) else (if a1 = (486 : Int32) then (some a2) else (some (S6.1 0 16)))) (fun x7 => nm (wI S6 0 16 x7) (fun S12 => if a1 = (485 : Int32) then (some (S12.1 0 10, S12)) else (if a1 = (486 : Int32) then (some (S12.1 0 16, S12)) else (some ((0 : Int32), S12)))))))) else (bd (if a3 = 0 then (chk (inB (a1 - (165 : Int32)) 320) (some (S.1 13 (a1 - (165 : Int32)).toNatClampNeg))) else (some a2)) (fun x15 => chk (inB (a1 - (165 : Int32)) 320) (nm (wI S 13 (a1 - (165 : Int32)).toNatClampNeg x15) (fun S21 => chk (inB (a1 - (165 : Int32)) 320) (some (S21.1 13 (a1 - (165 : Int32)).toNatClampNeg, S21))))))) else (nm ((a1 - (45 : Int32)) - (a1 - (45 : Int32)) / (40 : Int32) * (40 : Int32)) (fun x24 => nm ((a1 - (45 : Int32)) / (40 : Int32)) (fun x25 => bd (if a3 = 0 then (chk (inB x24 40) (some (S.1 10 x24.toNatClampNeg))) else (if x25 = 0 then (some a2) else (chk (inB x24 40) (some (S.1 10 x24.toNatClampNeg))))) (fun x26 => chk (inB x24 40) (nm (wI S 10 x24.toNatClampNeg x26) (fun S34 => bd (if a3 = 0 then (chk (inB x24 40) (some (S34.1 11 x24.toNatClampNeg))) else (if x25 = (1 : Int32) then (some a2) else (chk (inB x24 40) (some (S34.1 11 x24.toNatClampNeg))))) (fun x35 => chk (inB x24 40) (nm (wI S34 11 x24.toNatClampNeg x35) (fun S43 => bd (if a3 = 0 then (chk (inB x24 40) (some (S43.1 12 x24.toNatClampNeg))) else (if x25 = (2 : Int32) then (some a2) else (chk (inB x24 40) (some (S43.1 12 x24.toNatClampNeg))))) (fun x44 => chk (inB x24 40) (nm (wI S43 12 x24.toNatClampNeg x44) (fun S52 => if x25 = 0 then (chk (inB x24 40) (some (S52.1 10 x24.toNatClampNeg, S52))) else (if x25 = (1 : Int32) then (chk (inB x24 40) (some (S52.1 11 x24.toNatClampNeg, S52))) else (chk (inB x24 40) (some (S52.1 12 x24.toNatClampNeg, S52))))))))))))))))) else (bd (if a3 = 0 then (chk (inB (a1 - (21 : Int32)) 24) (some (S.1 8 (a1 - (21 : Int32)).toNatClampNeg))) else (some a2)) (fun x59 => chk (inB (a1 - (21 : Int32)) 24) (nm (wI S 8 (a1 - (21 : Int32)).toNatClampNeg x59) (fun S65 => chk (inB (a1 - (21 : Int32)) 24) (some (S65.1 8 (a1 - (21 : Int32)).toNatClampNeg, S65))))))) else (nm (a1 - a1 / (7 : Int32) * (7 : Int32)) (fun x68 => bd (if a3 = 0 then (chk (inB x68 7) (some (S.1 6 x68.toNatClampNeg))) else (if (7 : Int32) ≤ a1 then (chk (inB x68 7) (some (S.1 6 x68.toNatClampNeg))) else (some a2))) (fun x69 => chk (inB x68 7) (nm (wI S 6 x68.toNatClampNeg x69) (fun S77 => bd (if a3 = 0 then (chk (inB (a1 - a1 / (6 : Int32) * (6 : Int32)) 6) (some (S77.1 7 (a1 - a1 / (6 : Int32) * (6 : Int32)).toNatClampNeg))) else (bd (F_X9_in S77 (Int32.toInt64 a1) (7 : Int64) (12 : Int64)) (fun x83 => if x83 = 0 then (chk (inB (a1 - a1 / (6 : Int32) * (6 : Int32)) 6) (some (S77.1 7 (a1 - a1 / (6 : Int32) * (6 : Int32)).toNatClampNeg))) else (some a2)))) (fun x78 => chk (inB (a1 - a1 / (6 : Int32) * (6 : Int32)) 6) (nm (wI S77 7 (a1 - a1 / (6 : Int32) * (6 : Int32)).toNatClampNeg x78) (fun S88 => bd (if a3 = 0 then (chk (inB (a1 - a1 / (8 : Int32) * (8 : Int32)) 8) (some (S88.1 9 (a1 - a1 / (8 : Int32) * (8 : Int32)).toNatClampNeg))) else (if a1 ≤ (12 : Int32) then (chk (inB (a1 - a1 / (8 : Int32) * (8 : Int32)) 8) (some (S88.1 9 (a1 - a1 / (8 : Int32) * (8 : Int32)).toNatClampNeg))) else (some a2))) (fun x89 => chk (inB (a1 - a1 / (8 : Int32) * (8 : Int32)) 8) (nm (wI S88 9 (a1 - a1 / (8 : Int32) * (8 : Int32)).toNatClampNeg x89) (fun S97 => if (7 : Int32) ≤ a1 then (if (13 : Int32) ≤ a1 then (chk (inB (a1 - a1 / (8 : Int32) * (8 : Int32)) 8) (some (S97.1 9 (a1 - a1 / (8 : Int32) * (8 : Int32)).toNatClampNeg, S97))) else (chk (inB (a1 - a1 / (6 : Int32) * (6 : Int32)) 6) (some (S97.1 7 (a1 - a1 / (6 : Int32) * (6 : Int32)).toNatClampNeg, S97)))) else (chk (inB x68 7) (some (S97.1 6 x68.toNatClampNeg, S97))))))))))))))
set_option maxHeartbeats 4000000 in
set_option maxRecDepth 100000 in
theorem c_X9_carried (l : Launch) (G : Gp) (hI : Ij (wM G))  {S : Sg} {a1 : Int32} {a2 : Int32} {a3 : Int32} {r : Int32} {S1 : Sg} (hF : F_X9_carried S a1 a2 a3 = some (r, S1)) : Met l yX9_carried wsX9_carried rm_X9_carried (va_Pc [.ref (G.2.1 0), .int a1, .int a2, .int a3] (PreW (wM G) S)) (va_Qi (fun r' u => r' = r ∧ u = S1) (PostW (wM G)) (AW (wM G))) 0 0 (AW (wM G)) := by
  rw [F_X9_carried] at hF
  refine met_i (cc := cX9_carried) (maxL := 6) (own := RX9) hI (by decide) rfl rfl (Nat.le_of_ble_eq_true rfl) (fun X O hR => ?_)
  show Go X l rm_X9_carried (wM G) 6 0 [(0, .ref (G.2.1 0)), (1, .int a1), (2, .int a2), (3, .int a3)] [] S
  refine go_iload_n O dX9_carried_0 rfl 1 rfl ?_
  refine go_bipush (v := (21 : Int32)) O dX9_carried_1 (by decide) ?_
  refine go_icmp_ge (tgt := 156) O dX9_carried_3 (by decide) (fun hc103 => ?_) (fun hc103 => ?_)
  · replace hF := it_t hc103 hF
    refine go_iload_n O dX9_carried_156 rfl 1 rfl ?_
    refine go_bipush (v := (45 : Int32)) O dX9_carried_157 (by decide) ?_
    refine go_icmp_ge (tgt := 198) O dX9_carried_159 (by decide) (fun hc67 => ?_) (fun hc67 => ?_)
    · replace hF := it_t hc67 hF
      refine go_iload_n O dX9_carried_198 rfl 1 rfl ?_
      refine go_sipush (v := (165 : Int32)) O dX9_carried_199 (by decide) ?_
      refine go_icmp_ge (tgt := 345) O dX9_carried_202 (by decide) (fun hc58 => ?_) (fun hc58 => ?_)
      · replace hF := it_t hc58 hF
        refine go_iload_n O dX9_carried_345 rfl 1 rfl ?_
        refine go_sipush (v := (485 : Int32)) O dX9_carried_346 (by decide) ?_
        refine go_icmp_ge (tgt := 391) O dX9_carried_349 (by decide) (fun hc23 => ?_) (fun hc23 => ?_)
        · replace hF := it_t hc23 hF
          refine go_aload_n O dX9_carried_391 rfl 0 rfl ?_
          refine go_iload_n O dX9_carried_392 rfl 3 rfl ?_
          obtain ⟨x1, hA3, hF⟩ := bd_s hF
          have J2 : Go X l rm_X9_carried (wM G) 6 411 [(0, .ref (G.2.1 0)), (1, .int a1), (2, .int a2), (3, .int a3)] [.int x1, .ref (G.2.1 0)] S := by
            obtain ⟨S6, eS6, hF⟩ := nm_s hF
            refine go_putI (k := 0) (j := 10) O (by decide : (0 : Nat) < 27) (cm_obj G (S.1 0) (S.2 0)) rfl in_X9_carried_X9 (by decide) fl_X9_carried_156 rfl tyX9 tyX9_ok nmX9 rfl (by decide +kernel) (Nat.le_of_ble_eq_true rfl) (cm_obj G (upd (S.1 0) 10 x1) (S.2 0)) dX9_carried_411 eS6 ?_
            refine go_aload_n O dX9_carried_414 rfl 0 rfl ?_
            refine go_iload_n O dX9_carried_415 rfl 3 rfl ?_
            obtain ⟨x7, hA9, hF⟩ := bd_s hF
            have J8 : Go X l rm_X9_carried (wM G) 6 434 [(0, .ref (G.2.1 0)), (1, .int a1)] [.int x7, .ref (G.2.1 0)] S6 := by
              obtain ⟨S12, eS12, hF⟩ := nm_s hF
              refine go_putI (k := 0) (j := 16) O (by decide : (0 : Nat) < 27) (cm_obj G (S6.1 0) (S6.2 0)) rfl in_X9_carried_X9 (by decide) fl_X9_carried_159 rfl tyX9 tyX9_ok nmX9 rfl (by decide +kernel) (Nat.le_of_ble_eq_true rfl) (cm_obj G (upd (S6.1 0) 16 x7) (S6.2 0)) dX9_carried_434 eS12 ?_
              refine go_iload_n O dX9_carried_437 rfl 1 rfl ?_
              refine go_sipush (v := (485 : Int32)) O dX9_carried_438 (by decide) ?_
              refine go_icmp_ne (tgt := 451) O dX9_carried_441 (by decide) (fun hc14 => ?_) (fun hc14 => ?_)
              · replace hF := it_f hc14 hF
                refine go_iload_n O dX9_carried_451 rfl 1 rfl ?_
                refine go_sipush (v := (486 : Int32)) O dX9_carried_452 (by decide) ?_
                refine go_icmp_ne (tgt := 465) O dX9_carried_455 (by decide) (fun hc13 => ?_) (fun hc13 => ?_)
                · replace hF := it_f hc13 hF
                  refine go_iconst (v := (0 : Int32)) O dX9_carried_465 (by decide) ?_
                  exact ret_wi hF (hR _ _ dX9_carried_466)
                · replace hF := it_t hc13 hF
                  refine go_aload_n O dX9_carried_458 rfl 0 rfl ?_
                  refine go_get (k := 0) (j := 16) O (by decide : (0 : Nat) < 27) (cm_obj G (S12.1 0) (S12.2 0)) rfl in_X9_carried_X9 (by decide) fl_X9_carried_159 rfl rfl dX9_carried_459 ?_
                  refine go_goto (tgt := 466) O dX9_carried_462 (by decide) ?_
                  exact ret_wi hF (hR _ _ dX9_carried_466)
              · replace hF := it_t hc14 hF
                refine go_aload_n O dX9_carried_444 rfl 0 rfl ?_
                refine go_get (k := 0) (j := 10) O (by decide : (0 : Nat) < 27) (cm_obj G (S12.1 0) (S12.2 0)) rfl in_X9_carried_X9 (by decide) fl_X9_carried_156 rfl rfl dX9_carried_445 ?_
                refine go_goto (tgt := 466) O dX9_carried_448 (by decide) ?_
                exact ret_wi hF (hR _ _ dX9_carried_466)
            replace hF := hA9
            refine go_if_eq (tgt := 430) O dX9_carried_416 (by decide) (fun hc11 => ?_) (fun hc11 => ?_)
            · replace hF := it_t hc11 hF
              refine go_aload_n O dX9_carried_430 rfl 0 rfl ?_
              refine go_get (k := 0) (j := 16) O (by decide : (0 : Nat) < 27) (cm_obj G (S6.1 0) (S6.2 0)) rfl in_X9_carried_X9 (by decide) fl_X9_carried_159 rfl rfl dX9_carried_431 ?_
              refine go_perm (ls' := [(0, .ref (G.2.1 0)), (1, .int a1)]) [0, 1] rfl ?_
              exact jn (P := fun q => Go X l rm_X9_carried (wM G) 6 434 [(0, .ref (G.2.1 0)), (1, .int a1)] [.int q, .ref (G.2.1 0)] S6) hF J8
            · replace hF := it_f hc11 hF
              refine go_iload_n O dX9_carried_419 rfl 1 rfl ?_
              refine go_sipush (v := (486 : Int32)) O dX9_carried_420 (by decide) ?_
              refine go_icmp_ne (tgt := 430) O dX9_carried_423 (by decide) (fun hc10 => ?_) (fun hc10 => ?_)
              · replace hF := it_f hc10 hF
                refine go_aload_n O dX9_carried_430 rfl 0 rfl ?_
                refine go_get (k := 0) (j := 16) O (by decide : (0 : Nat) < 27) (cm_obj G (S6.1 0) (S6.2 0)) rfl in_X9_carried_X9 (by decide) fl_X9_carried_159 rfl rfl dX9_carried_431 ?_
                refine go_perm (ls' := [(0, .ref (G.2.1 0)), (1, .int a1)]) [0, 1] rfl ?_
                exact jn (P := fun q => Go X l rm_X9_carried (wM G) 6 434 [(0, .ref (G.2.1 0)), (1, .int a1)] [.int q, .ref (G.2.1 0)] S6) hF J8
              · replace hF := it_t hc10 hF
                refine go_iload_n O dX9_carried_426 rfl 2 rfl ?_
                refine go_goto (tgt := 434) O dX9_carried_427 (by decide) ?_
                refine go_perm (ls' := [(0, .ref (G.2.1 0)), (1, .int a1)]) [0, 1] rfl ?_
                exact jn (P := fun q => Go X l rm_X9_carried (wM G) 6 434 [(0, .ref (G.2.1 0)), (1, .int a1)] [.int q, .ref (G.2.1 0)] S6) hF J8
          replace hF := hA3
          refine go_if_eq (tgt := 407) O dX9_carried_393 (by decide) (fun hc5 => ?_) (fun hc5 => ?_)
          · replace hF := it_t hc5 hF
            refine go_aload_n O dX9_carried_407 rfl 0 rfl ?_
            refine go_get (k := 0) (j := 10) O (by decide : (0 : Nat) < 27) (cm_obj G (S.1 0) (S.2 0)) rfl in_X9_carried_X9 (by decide) fl_X9_carried_156 rfl rfl dX9_carried_408 ?_
            exact jn (P := fun q => Go X l rm_X9_carried (wM G) 6 411 [(0, .ref (G.2.1 0)), (1, .int a1), (2, .int a2), (3, .int a3)] [.int q, .ref (G.2.1 0)] S) hF J2
          · replace hF := it_f hc5 hF
            refine go_iload_n O dX9_carried_396 rfl 1 rfl ?_
            refine go_sipush (v := (485 : Int32)) O dX9_carried_397 (by decide) ?_
            refine go_icmp_ne (tgt := 407) O dX9_carried_400 (by decide) (fun hc4 => ?_) (fun hc4 => ?_)
            · replace hF := it_f hc4 hF
              refine go_aload_n O dX9_carried_407 rfl 0 rfl ?_
              refine go_get (k := 0) (j := 10) O (by decide : (0 : Nat) < 27) (cm_obj G (S.1 0) (S.2 0)) rfl in_X9_carried_X9 (by decide) fl_X9_carried_156 rfl rfl dX9_carried_408 ?_
              exact jn (P := fun q => Go X l rm_X9_carried (wM G) 6 411 [(0, .ref (G.2.1 0)), (1, .int a1), (2, .int a2), (3, .int a3)] [.int q, .ref (G.2.1 0)] S) hF J2
            · replace hF := it_t hc4 hF
              refine go_iload_n O dX9_carried_403 rfl 2 rfl ?_
              refine go_goto (tgt := 411) O dX9_carried_404 (by decide) ?_
              exact jn (P := fun q => Go X l rm_X9_carried (wM G) 6 411 [(0, .ref (G.2.1 0)), (1, .int a1), (2, .int a2), (3, .int a3)] [.int q, .ref (G.2.1 0)] S) hF J2
        · replace hF := it_f hc23 hF
          refine go_aload_n O dX9_carried_352 rfl 0 rfl ?_
          refine go_get (k := 0) (j := 15) O (by decide : (0 : Nat) < 27) (cm_obj G (S.1 0) (S.2 0)) rfl in_X9_carried_X9 (by decide) fl_X9_carried_46 rfl rfl dX9_carried_353 ?_
          refine go_iload_n O dX9_carried_356 rfl 1 rfl ?_
          refine go_sipush (v := (165 : Int32)) O dX9_carried_357 (by decide) ?_
          refine go_isub O dX9_carried_360 ?_
          refine go_iload_n O dX9_carried_361 rfl 3 rfl ?_
          obtain ⟨x15, hA17, hF⟩ := bd_s hF
          have J16 : Go X l rm_X9_carried (wM G) 6 379 [(0, .ref (G.2.1 0)), (1, .int a1)] [.int x15, .int (a1 - (165 : Int32)), .ref (G.2.1 13)] S := by
            obtain ⟨hb20, hF⟩ := chk_s hF
            obtain ⟨S21, eS21, hF⟩ := nm_s hF
            refine go_iast (k := 13) O (by decide : (13 : Nat) < 27) (fun f => (cm_13 G f (S.2 13))) (inB_in hb20) dX9_carried_379 eS21 ?_
            refine go_aload_n O dX9_carried_380 rfl 0 rfl ?_
            refine go_get (k := 0) (j := 15) O (by decide : (0 : Nat) < 27) (cm_obj G (S21.1 0) (S21.2 0)) rfl in_X9_carried_X9 (by decide) fl_X9_carried_46 rfl rfl dX9_carried_381 ?_
            refine go_iload_n O dX9_carried_384 rfl 1 rfl ?_
            refine go_sipush (v := (165 : Int32)) O dX9_carried_385 (by decide) ?_
            refine go_isub O dX9_carried_388 ?_
            obtain ⟨hb22, hF⟩ := chk_s hF
            refine go_iald (k := 13) O (by decide : (13 : Nat) < 27) (cm_13 G (S21.1 13) (S21.2 13)) (inB_in hb22) dX9_carried_389 ?_
            exact ret_wi hF (hR _ _ dX9_carried_390)
          replace hF := hA17
          refine go_if_eq (tgt := 369) O dX9_carried_362 (by decide) (fun hc19 => ?_) (fun hc19 => ?_)
          · replace hF := it_t hc19 hF
            refine go_aload_n O dX9_carried_369 rfl 0 rfl ?_
            refine go_get (k := 0) (j := 15) O (by decide : (0 : Nat) < 27) (cm_obj G (S.1 0) (S.2 0)) rfl in_X9_carried_X9 (by decide) fl_X9_carried_46 rfl rfl dX9_carried_370 ?_
            refine go_iload_n O dX9_carried_373 rfl 1 rfl ?_
            refine go_sipush (v := (165 : Int32)) O dX9_carried_374 (by decide) ?_
            refine go_isub O dX9_carried_377 ?_
            obtain ⟨hb18, hF⟩ := chk_s hF
            refine go_iald (k := 13) O (by decide : (13 : Nat) < 27) (cm_13 G (S.1 13) (S.2 13)) (inB_in hb18) dX9_carried_378 ?_
            refine go_perm (ls' := [(0, .ref (G.2.1 0)), (1, .int a1)]) [0, 1] rfl ?_
            exact jn (P := fun q => Go X l rm_X9_carried (wM G) 6 379 [(0, .ref (G.2.1 0)), (1, .int a1)] [.int q, .int (a1 - (165 : Int32)), .ref (G.2.1 13)] S) hF J16
          · replace hF := it_f hc19 hF
            refine go_iload_n O dX9_carried_365 rfl 2 rfl ?_
            refine go_goto (tgt := 379) O dX9_carried_366 (by decide) ?_
            refine go_perm (ls' := [(0, .ref (G.2.1 0)), (1, .int a1)]) [0, 1] rfl ?_
            exact jn (P := fun q => Go X l rm_X9_carried (wM G) 6 379 [(0, .ref (G.2.1 0)), (1, .int a1)] [.int q, .int (a1 - (165 : Int32)), .ref (G.2.1 13)] S) hF J16
      · replace hF := it_f hc58 hF
        refine go_iload_n O dX9_carried_205 rfl 1 rfl ?_
        refine go_bipush (v := (45 : Int32)) O dX9_carried_206 (by decide) ?_
        refine go_isub O dX9_carried_208 ?_
        refine go_bipush (v := (40 : Int32)) O dX9_carried_209 (by decide) ?_
        refine go_irem O dX9_carried_211 (by decide) ?_
        obtain ⟨x24, ex24, hF⟩ := nm_s hF
        refine go_topi ex24 ?_
        refine go_istore (ls' := [(4, .int x24), (0, .ref (G.2.1 0)), (1, .int a1), (2, .int a2), (3, .int a3)]) O dX9_carried_212 (by decide) rfl ?_
        refine go_iload_n O dX9_carried_214 rfl 2 rfl ?_
        refine go_bipush (v := (45 : Int32)) O dX9_carried_215 (by decide) ?_
        refine go_isub O dX9_carried_217 ?_
        refine go_bipush (v := (40 : Int32)) O dX9_carried_218 (by decide) ?_
        refine go_idiv O dX9_carried_220 (by decide) ?_
        obtain ⟨x25, ex25, hF⟩ := nm_s hF
        refine go_topi ex25 ?_
        refine go_istore (ls' := [(5, .int x25), (4, .int x24), (0, .ref (G.2.1 0)), (1, .int a1), (2, .int a2), (3, .int a3)]) O dX9_carried_221 (by decide) rfl ?_
        refine go_aload_n O dX9_carried_223 rfl 2 rfl ?_
        refine go_get (k := 0) (j := 12) O (by decide : (0 : Nat) < 27) (cm_obj G (S.1 0) (S.2 0)) rfl in_X9_carried_X9 (by decide) fl_X9_carried_37 rfl rfl dX9_carried_224 ?_
        refine go_iload O dX9_carried_227 1 rfl ?_
        refine go_iload_n O dX9_carried_229 rfl 5 rfl ?_
        obtain ⟨x26, hA28, hF⟩ := bd_s hF
        have J27 : Go X l rm_X9_carried (wM G) 6 249 [(0, .ref (G.2.1 0)), (2, .int a2), (3, .int a3), (4, .int x24), (5, .int x25)] [.int x26, .int x24, .ref (G.2.1 10)] S := by
          obtain ⟨hb33, hF⟩ := chk_s hF
          obtain ⟨S34, eS34, hF⟩ := nm_s hF
          refine go_iast (k := 10) O (by decide : (10 : Nat) < 27) (fun f => (cm_10 G f (S.2 10))) (inB_in hb33) dX9_carried_249 eS34 ?_
          refine go_aload_n O dX9_carried_250 rfl 0 rfl ?_
          refine go_get (k := 0) (j := 13) O (by decide : (0 : Nat) < 27) (cm_obj G (S34.1 0) (S34.2 0)) rfl in_X9_carried_X9 (by decide) fl_X9_carried_40 rfl rfl dX9_carried_251 ?_
          refine go_iload O dX9_carried_254 3 rfl ?_
          refine go_iload_n O dX9_carried_256 rfl 2 rfl ?_
          obtain ⟨x35, hA37, hF⟩ := bd_s hF
          have J36 : Go X l rm_X9_carried (wM G) 6 277 [(0, .ref (G.2.1 0)), (2, .int a2), (3, .int a3), (4, .int x24), (5, .int x25)] [.int x35, .int x24, .ref (G.2.1 11)] S34 := by
            obtain ⟨hb42, hF⟩ := chk_s hF
            obtain ⟨S43, eS43, hF⟩ := nm_s hF
            refine go_iast (k := 11) O (by decide : (11 : Nat) < 27) (fun f => (cm_11 G f (S34.2 11))) (inB_in hb42) dX9_carried_277 eS43 ?_
            refine go_aload_n O dX9_carried_278 rfl 0 rfl ?_
            refine go_get (k := 0) (j := 14) O (by decide : (0 : Nat) < 27) (cm_obj G (S43.1 0) (S43.2 0)) rfl in_X9_carried_X9 (by decide) fl_X9_carried_43 rfl rfl dX9_carried_279 ?_
            refine go_iload O dX9_carried_282 3 rfl ?_
            refine go_iload_n O dX9_carried_284 rfl 2 rfl ?_
            obtain ⟨x44, hA46, hF⟩ := bd_s hF
            have J45 : Go X l rm_X9_carried (wM G) 6 305 [(0, .ref (G.2.1 0)), (4, .int x24), (5, .int x25)] [.int x44, .int x24, .ref (G.2.1 12)] S43 := by
              obtain ⟨hb51, hF⟩ := chk_s hF
              obtain ⟨S52, eS52, hF⟩ := nm_s hF
              refine go_iast (k := 12) O (by decide : (12 : Nat) < 27) (fun f => (cm_12 G f (S43.2 12))) (inB_in hb51) dX9_carried_305 eS52 ?_
              refine go_iload O dX9_carried_306 2 rfl ?_
              refine go_if_ne (tgt := 321) O dX9_carried_308 (by decide) (fun hc57 => ?_) (fun hc57 => ?_)
              · replace hF := it_f hc57 hF
                refine go_iload O dX9_carried_321 2 rfl ?_
                refine go_iconst (v := (1 : Int32)) O dX9_carried_323 (by decide) ?_
                refine go_icmp_ne (tgt := 337) O dX9_carried_324 (by decide) (fun hc55 => ?_) (fun hc55 => ?_)
                · replace hF := it_f hc55 hF
                  refine go_aload_n O dX9_carried_337 rfl 0 rfl ?_
                  refine go_get (k := 0) (j := 14) O (by decide : (0 : Nat) < 27) (cm_obj G (S52.1 0) (S52.2 0)) rfl in_X9_carried_X9 (by decide) fl_X9_carried_43 rfl rfl dX9_carried_338 ?_
                  refine go_iload O dX9_carried_341 1 rfl ?_
                  obtain ⟨hb53, hF⟩ := chk_s hF
                  refine go_iald (k := 12) O (by decide : (12 : Nat) < 27) (cm_12 G (S52.1 12) (S52.2 12)) (inB_in hb53) dX9_carried_343 ?_
                  exact ret_wi hF (hR _ _ dX9_carried_344)
                · replace hF := it_t hc55 hF
                  refine go_aload_n O dX9_carried_327 rfl 0 rfl ?_
                  refine go_get (k := 0) (j := 13) O (by decide : (0 : Nat) < 27) (cm_obj G (S52.1 0) (S52.2 0)) rfl in_X9_carried_X9 (by decide) fl_X9_carried_40 rfl rfl dX9_carried_328 ?_
                  refine go_iload O dX9_carried_331 1 rfl ?_
                  obtain ⟨hb54, hF⟩ := chk_s hF
                  refine go_iald (k := 11) O (by decide : (11 : Nat) < 27) (cm_11 G (S52.1 11) (S52.2 11)) (inB_in hb54) dX9_carried_333 ?_
                  refine go_goto (tgt := 344) O dX9_carried_334 (by decide) ?_
                  exact ret_wi hF (hR _ _ dX9_carried_344)
              · replace hF := it_t hc57 hF
                refine go_aload_n O dX9_carried_311 rfl 0 rfl ?_
                refine go_get (k := 0) (j := 12) O (by decide : (0 : Nat) < 27) (cm_obj G (S52.1 0) (S52.2 0)) rfl in_X9_carried_X9 (by decide) fl_X9_carried_37 rfl rfl dX9_carried_312 ?_
                refine go_iload O dX9_carried_315 1 rfl ?_
                obtain ⟨hb56, hF⟩ := chk_s hF
                refine go_iald (k := 10) O (by decide : (10 : Nat) < 27) (cm_10 G (S52.1 10) (S52.2 10)) (inB_in hb56) dX9_carried_317 ?_
                refine go_goto (tgt := 344) O dX9_carried_318 (by decide) ?_
                exact ret_wi hF (hR _ _ dX9_carried_344)
            replace hF := hA46
            refine go_if_eq (tgt := 298) O dX9_carried_285 (by decide) (fun hc50 => ?_) (fun hc50 => ?_)
            · replace hF := it_t hc50 hF
              refine go_aload_n O dX9_carried_298 rfl 0 rfl ?_
              refine go_get (k := 0) (j := 14) O (by decide : (0 : Nat) < 27) (cm_obj G (S43.1 0) (S43.2 0)) rfl in_X9_carried_X9 (by decide) fl_X9_carried_43 rfl rfl dX9_carried_299 ?_
              refine go_iload O dX9_carried_302 3 rfl ?_
              obtain ⟨hb47, hF⟩ := chk_s hF
              refine go_iald (k := 12) O (by decide : (12 : Nat) < 27) (cm_12 G (S43.1 12) (S43.2 12)) (inB_in hb47) dX9_carried_304 ?_
              refine go_perm (ls' := [(0, .ref (G.2.1 0)), (4, .int x24), (5, .int x25)]) [0, 3, 4] rfl ?_
              exact jn (P := fun q => Go X l rm_X9_carried (wM G) 6 305 [(0, .ref (G.2.1 0)), (4, .int x24), (5, .int x25)] [.int q, .int x24, .ref (G.2.1 12)] S43) hF J45
            · replace hF := it_f hc50 hF
              refine go_iload O dX9_carried_288 4 rfl ?_
              refine go_iconst (v := (2 : Int32)) O dX9_carried_290 (by decide) ?_
              refine go_icmp_ne (tgt := 298) O dX9_carried_291 (by decide) (fun hc49 => ?_) (fun hc49 => ?_)
              · replace hF := it_f hc49 hF
                refine go_aload_n O dX9_carried_298 rfl 0 rfl ?_
                refine go_get (k := 0) (j := 14) O (by decide : (0 : Nat) < 27) (cm_obj G (S43.1 0) (S43.2 0)) rfl in_X9_carried_X9 (by decide) fl_X9_carried_43 rfl rfl dX9_carried_299 ?_
                refine go_iload O dX9_carried_302 3 rfl ?_
                obtain ⟨hb48, hF⟩ := chk_s hF
                refine go_iald (k := 12) O (by decide : (12 : Nat) < 27) (cm_12 G (S43.1 12) (S43.2 12)) (inB_in hb48) dX9_carried_304 ?_
                refine go_perm (ls' := [(0, .ref (G.2.1 0)), (4, .int x24), (5, .int x25)]) [0, 3, 4] rfl ?_
                exact jn (P := fun q => Go X l rm_X9_carried (wM G) 6 305 [(0, .ref (G.2.1 0)), (4, .int x24), (5, .int x25)] [.int q, .int x24, .ref (G.2.1 12)] S43) hF J45
              · replace hF := it_t hc49 hF
                refine go_iload_n O dX9_carried_294 rfl 1 rfl ?_
                refine go_goto (tgt := 305) O dX9_carried_295 (by decide) ?_
                refine go_perm (ls' := [(0, .ref (G.2.1 0)), (4, .int x24), (5, .int x25)]) [0, 3, 4] rfl ?_
                exact jn (P := fun q => Go X l rm_X9_carried (wM G) 6 305 [(0, .ref (G.2.1 0)), (4, .int x24), (5, .int x25)] [.int q, .int x24, .ref (G.2.1 12)] S43) hF J45
          replace hF := hA37
          refine go_if_eq (tgt := 270) O dX9_carried_257 (by decide) (fun hc41 => ?_) (fun hc41 => ?_)
          · replace hF := it_t hc41 hF
            refine go_aload_n O dX9_carried_270 rfl 0 rfl ?_
            refine go_get (k := 0) (j := 13) O (by decide : (0 : Nat) < 27) (cm_obj G (S34.1 0) (S34.2 0)) rfl in_X9_carried_X9 (by decide) fl_X9_carried_40 rfl rfl dX9_carried_271 ?_
            refine go_iload O dX9_carried_274 3 rfl ?_
            obtain ⟨hb38, hF⟩ := chk_s hF
            refine go_iald (k := 11) O (by decide : (11 : Nat) < 27) (cm_11 G (S34.1 11) (S34.2 11)) (inB_in hb38) dX9_carried_276 ?_
            exact jn (P := fun q => Go X l rm_X9_carried (wM G) 6 277 [(0, .ref (G.2.1 0)), (2, .int a2), (3, .int a3), (4, .int x24), (5, .int x25)] [.int q, .int x24, .ref (G.2.1 11)] S34) hF J36
          · replace hF := it_f hc41 hF
            refine go_iload O dX9_carried_260 4 rfl ?_
            refine go_iconst (v := (1 : Int32)) O dX9_carried_262 (by decide) ?_
            refine go_icmp_ne (tgt := 270) O dX9_carried_263 (by decide) (fun hc40 => ?_) (fun hc40 => ?_)
            · replace hF := it_f hc40 hF
              refine go_aload_n O dX9_carried_270 rfl 0 rfl ?_
              refine go_get (k := 0) (j := 13) O (by decide : (0 : Nat) < 27) (cm_obj G (S34.1 0) (S34.2 0)) rfl in_X9_carried_X9 (by decide) fl_X9_carried_40 rfl rfl dX9_carried_271 ?_
              refine go_iload O dX9_carried_274 3 rfl ?_
              obtain ⟨hb39, hF⟩ := chk_s hF
              refine go_iald (k := 11) O (by decide : (11 : Nat) < 27) (cm_11 G (S34.1 11) (S34.2 11)) (inB_in hb39) dX9_carried_276 ?_
              exact jn (P := fun q => Go X l rm_X9_carried (wM G) 6 277 [(0, .ref (G.2.1 0)), (2, .int a2), (3, .int a3), (4, .int x24), (5, .int x25)] [.int q, .int x24, .ref (G.2.1 11)] S34) hF J36
            · replace hF := it_t hc40 hF
              refine go_iload_n O dX9_carried_266 rfl 1 rfl ?_
              refine go_goto (tgt := 277) O dX9_carried_267 (by decide) ?_
              exact jn (P := fun q => Go X l rm_X9_carried (wM G) 6 277 [(0, .ref (G.2.1 0)), (2, .int a2), (3, .int a3), (4, .int x24), (5, .int x25)] [.int q, .int x24, .ref (G.2.1 11)] S34) hF J36
        replace hF := hA28
        refine go_if_eq (tgt := 242) O dX9_carried_230 (by decide) (fun hc32 => ?_) (fun hc32 => ?_)
        · replace hF := it_t hc32 hF
          refine go_aload_n O dX9_carried_242 rfl 2 rfl ?_
          refine go_get (k := 0) (j := 12) O (by decide : (0 : Nat) < 27) (cm_obj G (S.1 0) (S.2 0)) rfl in_X9_carried_X9 (by decide) fl_X9_carried_37 rfl rfl dX9_carried_243 ?_
          refine go_iload O dX9_carried_246 1 rfl ?_
          obtain ⟨hb29, hF⟩ := chk_s hF
          refine go_iald (k := 10) O (by decide : (10 : Nat) < 27) (cm_10 G (S.1 10) (S.2 10)) (inB_in hb29) dX9_carried_248 ?_
          refine go_perm (ls' := [(0, .ref (G.2.1 0)), (2, .int a2), (3, .int a3), (4, .int x24), (5, .int x25)]) [2, 4, 5, 1, 0] rfl ?_
          exact jn (P := fun q => Go X l rm_X9_carried (wM G) 6 249 [(0, .ref (G.2.1 0)), (2, .int a2), (3, .int a3), (4, .int x24), (5, .int x25)] [.int q, .int x24, .ref (G.2.1 10)] S) hF J27
        · replace hF := it_f hc32 hF
          refine go_iload O dX9_carried_233 0 rfl ?_
          refine go_if_ne (tgt := 242) O dX9_carried_235 (by decide) (fun hc31 => ?_) (fun hc31 => ?_)
          · replace hF := it_f hc31 hF
            refine go_aload_n O dX9_carried_242 rfl 2 rfl ?_
            refine go_get (k := 0) (j := 12) O (by decide : (0 : Nat) < 27) (cm_obj G (S.1 0) (S.2 0)) rfl in_X9_carried_X9 (by decide) fl_X9_carried_37 rfl rfl dX9_carried_243 ?_
            refine go_iload O dX9_carried_246 1 rfl ?_
            obtain ⟨hb30, hF⟩ := chk_s hF
            refine go_iald (k := 10) O (by decide : (10 : Nat) < 27) (cm_10 G (S.1 10) (S.2 10)) (inB_in hb30) dX9_carried_248 ?_
            refine go_perm (ls' := [(0, .ref (G.2.1 0)), (2, .int a2), (3, .int a3), (4, .int x24), (5, .int x25)]) [2, 4, 5, 1, 0] rfl ?_
            exact jn (P := fun q => Go X l rm_X9_carried (wM G) 6 249 [(0, .ref (G.2.1 0)), (2, .int a2), (3, .int a3), (4, .int x24), (5, .int x25)] [.int q, .int x24, .ref (G.2.1 10)] S) hF J27
          · replace hF := it_t hc31 hF
            refine go_iload_n O dX9_carried_238 rfl 4 rfl ?_
            refine go_goto (tgt := 249) O dX9_carried_239 (by decide) ?_
            refine go_perm (ls' := [(0, .ref (G.2.1 0)), (2, .int a2), (3, .int a3), (4, .int x24), (5, .int x25)]) [2, 4, 5, 1, 0] rfl ?_
            exact jn (P := fun q => Go X l rm_X9_carried (wM G) 6 249 [(0, .ref (G.2.1 0)), (2, .int a2), (3, .int a3), (4, .int x24), (5, .int x25)] [.int q, .int x24, .ref (G.2.1 10)] S) hF J27
    · replace hF := it_f hc67 hF
      refine go_aload_n O dX9_carried_162 rfl 0 rfl ?_
      refine go_get (k := 0) (j := 9) O (by decide : (0 : Nat) < 27) (cm_obj G (S.1 0) (S.2 0)) rfl in_X9_carried_X9 (by decide) fl_X9_carried_31 rfl rfl dX9_carried_163 ?_
      refine go_iload_n O dX9_carried_166 rfl 1 rfl ?_
      refine go_bipush (v := (21 : Int32)) O dX9_carried_167 (by decide) ?_
      refine go_isub O dX9_carried_169 ?_
      refine go_iload_n O dX9_carried_170 rfl 3 rfl ?_
      obtain ⟨x59, hA61, hF⟩ := bd_s hF
      have J60 : Go X l rm_X9_carried (wM G) 6 187 [(0, .ref (G.2.1 0)), (1, .int a1)] [.int x59, .int (a1 - (21 : Int32)), .ref (G.2.1 8)] S := by
        obtain ⟨hb64, hF⟩ := chk_s hF
        obtain ⟨S65, eS65, hF⟩ := nm_s hF
        refine go_iast (k := 8) O (by decide : (8 : Nat) < 27) (fun f => (cm_8 G f (S.2 8))) (inB_in hb64) dX9_carried_187 eS65 ?_
        refine go_aload_n O dX9_carried_188 rfl 0 rfl ?_
        refine go_get (k := 0) (j := 9) O (by decide : (0 : Nat) < 27) (cm_obj G (S65.1 0) (S65.2 0)) rfl in_X9_carried_X9 (by decide) fl_X9_carried_31 rfl rfl dX9_carried_189 ?_
        refine go_iload_n O dX9_carried_192 rfl 1 rfl ?_
        refine go_bipush (v := (21 : Int32)) O dX9_carried_193 (by decide) ?_
        refine go_isub O dX9_carried_195 ?_
        obtain ⟨hb66, hF⟩ := chk_s hF
        refine go_iald (k := 8) O (by decide : (8 : Nat) < 27) (cm_8 G (S65.1 8) (S65.2 8)) (inB_in hb66) dX9_carried_196 ?_
        exact ret_wi hF (hR _ _ dX9_carried_197)
      replace hF := hA61
      refine go_if_eq (tgt := 178) O dX9_carried_171 (by decide) (fun hc63 => ?_) (fun hc63 => ?_)
      · replace hF := it_t hc63 hF
        refine go_aload_n O dX9_carried_178 rfl 0 rfl ?_
        refine go_get (k := 0) (j := 9) O (by decide : (0 : Nat) < 27) (cm_obj G (S.1 0) (S.2 0)) rfl in_X9_carried_X9 (by decide) fl_X9_carried_31 rfl rfl dX9_carried_179 ?_
        refine go_iload_n O dX9_carried_182 rfl 1 rfl ?_
        refine go_bipush (v := (21 : Int32)) O dX9_carried_183 (by decide) ?_
        refine go_isub O dX9_carried_185 ?_
        obtain ⟨hb62, hF⟩ := chk_s hF
        refine go_iald (k := 8) O (by decide : (8 : Nat) < 27) (cm_8 G (S.1 8) (S.2 8)) (inB_in hb62) dX9_carried_186 ?_
        refine go_perm (ls' := [(0, .ref (G.2.1 0)), (1, .int a1)]) [0, 1] rfl ?_
        exact jn (P := fun q => Go X l rm_X9_carried (wM G) 6 187 [(0, .ref (G.2.1 0)), (1, .int a1)] [.int q, .int (a1 - (21 : Int32)), .ref (G.2.1 8)] S) hF J60
      · replace hF := it_f hc63 hF
        refine go_iload_n O dX9_carried_174 rfl 2 rfl ?_
        refine go_goto (tgt := 187) O dX9_carried_175 (by decide) ?_
        refine go_perm (ls' := [(0, .ref (G.2.1 0)), (1, .int a1)]) [0, 1] rfl ?_
        exact jn (P := fun q => Go X l rm_X9_carried (wM G) 6 187 [(0, .ref (G.2.1 0)), (1, .int a1)] [.int q, .int (a1 - (21 : Int32)), .ref (G.2.1 8)] S) hF J60
  · replace hF := it_f hc103 hF
    refine go_iload_n O dX9_carried_6 rfl 1 rfl ?_
    refine go_bipush (v := (7 : Int32)) O dX9_carried_7 (by decide) ?_
    refine go_irem O dX9_carried_9 (by decide) ?_
    obtain ⟨x68, ex68, hF⟩ := nm_s hF
    refine go_topi ex68 ?_
    refine go_istore (ls' := [(4, .int x68), (0, .ref (G.2.1 0)), (1, .int a1), (2, .int a2), (3, .int a3)]) O dX9_carried_10 (by decide) rfl ?_
    refine go_aload_n O dX9_carried_12 rfl 1 rfl ?_
    refine go_get (k := 0) (j := 5) O (by decide : (0 : Nat) < 27) (cm_obj G (S.1 0) (S.2 0)) rfl in_X9_carried_X9 (by decide) fl_X9_carried_25 rfl rfl dX9_carried_13 ?_
    refine go_iload O dX9_carried_16 0 rfl ?_
    refine go_iload_n O dX9_carried_18 rfl 4 rfl ?_
    obtain ⟨x69, hA71, hF⟩ := bd_s hF
    have J70 : Go X l rm_X9_carried (wM G) 6 39 [(0, .ref (G.2.1 0)), (1, .int a1), (2, .int a2), (3, .int a3), (4, .int x68)] [.int x69, .int x68, .ref (G.2.1 6)] S := by
      obtain ⟨hb76, hF⟩ := chk_s hF
      obtain ⟨S77, eS77, hF⟩ := nm_s hF
      refine go_iast (k := 6) O (by decide : (6 : Nat) < 27) (fun f => (cm_6 G f (S.2 6))) (inB_in hb76) dX9_carried_39 eS77 ?_
      refine go_aload_n O dX9_carried_40 rfl 0 rfl ?_
      refine go_get (k := 0) (j := 6) O (by decide : (0 : Nat) < 27) (cm_obj G (S77.1 0) (S77.2 0)) rfl in_X9_carried_X9 (by decide) fl_X9_carried_28 rfl rfl dX9_carried_41 ?_
      refine go_iload_n O dX9_carried_44 rfl 1 rfl ?_
      refine go_bipush (v := (6 : Int32)) O dX9_carried_45 (by decide) ?_
      refine go_irem O dX9_carried_47 (by decide) ?_
      refine go_iload_n O dX9_carried_48 rfl 3 rfl ?_
      obtain ⟨x78, hA80, hF⟩ := bd_s hF
      have J79 : Go X l rm_X9_carried (wM G) 6 79 [(0, .ref (G.2.1 0)), (1, .int a1), (2, .int a2), (3, .int a3), (4, .int x68)] [.int x78, .int (a1 - a1 / (6 : Int32) * (6 : Int32)), .ref (G.2.1 7)] S77 := by
        obtain ⟨hb87, hF⟩ := chk_s hF
        obtain ⟨S88, eS88, hF⟩ := nm_s hF
        refine go_iast (k := 7) O (by decide : (7 : Nat) < 27) (fun f => (cm_7 G f (S77.2 7))) (inB_in hb87) dX9_carried_79 eS88 ?_
        refine go_aload_n O dX9_carried_80 rfl 0 rfl ?_
        refine go_get (k := 0) (j := 11) O (by decide : (0 : Nat) < 27) (cm_obj G (S88.1 0) (S88.2 0)) rfl in_X9_carried_X9 (by decide) fl_X9_carried_34 rfl rfl dX9_carried_81 ?_
        refine go_iload_n O dX9_carried_84 rfl 1 rfl ?_
        refine go_bipush (v := (8 : Int32)) O dX9_carried_85 (by decide) ?_
        refine go_irem O dX9_carried_87 (by decide) ?_
        refine go_iload_n O dX9_carried_88 rfl 3 rfl ?_
        obtain ⟨x89, hA91, hF⟩ := bd_s hF
        have J90 : Go X l rm_X9_carried (wM G) 6 111 [(0, .ref (G.2.1 0)), (1, .int a1), (4, .int x68)] [.int x89, .int (a1 - a1 / (8 : Int32) * (8 : Int32)), .ref (G.2.1 9)] S88 := by
          obtain ⟨hb96, hF⟩ := chk_s hF
          obtain ⟨S97, eS97, hF⟩ := nm_s hF
          refine go_iast (k := 9) O (by decide : (9 : Nat) < 27) (fun f => (cm_9 G f (S88.2 9))) (inB_in hb96) dX9_carried_111 eS97 ?_
          refine go_iload_n O dX9_carried_112 rfl 1 rfl ?_
          refine go_bipush (v := (7 : Int32)) O dX9_carried_113 (by decide) ?_
          refine go_icmp_ge (tgt := 128) O dX9_carried_115 (by decide) (fun hc102 => ?_) (fun hc102 => ?_)
          · replace hF := it_t hc102 hF
            refine go_iload_n O dX9_carried_128 rfl 1 rfl ?_
            refine go_bipush (v := (13 : Int32)) O dX9_carried_129 (by decide) ?_
            refine go_icmp_ge (tgt := 146) O dX9_carried_131 (by decide) (fun hc100 => ?_) (fun hc100 => ?_)
            · replace hF := it_t hc100 hF
              refine go_aload_n O dX9_carried_146 rfl 0 rfl ?_
              refine go_get (k := 0) (j := 11) O (by decide : (0 : Nat) < 27) (cm_obj G (S97.1 0) (S97.2 0)) rfl in_X9_carried_X9 (by decide) fl_X9_carried_34 rfl rfl dX9_carried_147 ?_
              refine go_iload_n O dX9_carried_150 rfl 1 rfl ?_
              refine go_bipush (v := (8 : Int32)) O dX9_carried_151 (by decide) ?_
              refine go_irem O dX9_carried_153 (by decide) ?_
              obtain ⟨hb98, hF⟩ := chk_s hF
              refine go_iald (k := 9) O (by decide : (9 : Nat) < 27) (cm_9 G (S97.1 9) (S97.2 9)) (inB_in hb98) dX9_carried_154 ?_
              exact ret_wi hF (hR _ _ dX9_carried_155)
            · replace hF := it_f hc100 hF
              refine go_aload_n O dX9_carried_134 rfl 0 rfl ?_
              refine go_get (k := 0) (j := 6) O (by decide : (0 : Nat) < 27) (cm_obj G (S97.1 0) (S97.2 0)) rfl in_X9_carried_X9 (by decide) fl_X9_carried_28 rfl rfl dX9_carried_135 ?_
              refine go_iload_n O dX9_carried_138 rfl 1 rfl ?_
              refine go_bipush (v := (6 : Int32)) O dX9_carried_139 (by decide) ?_
              refine go_irem O dX9_carried_141 (by decide) ?_
              obtain ⟨hb99, hF⟩ := chk_s hF
              refine go_iald (k := 7) O (by decide : (7 : Nat) < 27) (cm_7 G (S97.1 7) (S97.2 7)) (inB_in hb99) dX9_carried_142 ?_
              refine go_goto (tgt := 155) O dX9_carried_143 (by decide) ?_
              exact ret_wi hF (hR _ _ dX9_carried_155)
          · replace hF := it_f hc102 hF
            refine go_aload_n O dX9_carried_118 rfl 0 rfl ?_
            refine go_get (k := 0) (j := 5) O (by decide : (0 : Nat) < 27) (cm_obj G (S97.1 0) (S97.2 0)) rfl in_X9_carried_X9 (by decide) fl_X9_carried_25 rfl rfl dX9_carried_119 ?_
            refine go_iload O dX9_carried_122 2 rfl ?_
            obtain ⟨hb101, hF⟩ := chk_s hF
            refine go_iald (k := 6) O (by decide : (6 : Nat) < 27) (cm_6 G (S97.1 6) (S97.2 6)) (inB_in hb101) dX9_carried_124 ?_
            refine go_goto (tgt := 155) O dX9_carried_125 (by decide) ?_
            exact ret_wi hF (hR _ _ dX9_carried_155)
        replace hF := hA91
        refine go_if_eq (tgt := 102) O dX9_carried_89 (by decide) (fun hc95 => ?_) (fun hc95 => ?_)
        · replace hF := it_t hc95 hF
          refine go_aload_n O dX9_carried_102 rfl 0 rfl ?_
          refine go_get (k := 0) (j := 11) O (by decide : (0 : Nat) < 27) (cm_obj G (S88.1 0) (S88.2 0)) rfl in_X9_carried_X9 (by decide) fl_X9_carried_34 rfl rfl dX9_carried_103 ?_
          refine go_iload_n O dX9_carried_106 rfl 1 rfl ?_
          refine go_bipush (v := (8 : Int32)) O dX9_carried_107 (by decide) ?_
          refine go_irem O dX9_carried_109 (by decide) ?_
          obtain ⟨hb92, hF⟩ := chk_s hF
          refine go_iald (k := 9) O (by decide : (9 : Nat) < 27) (cm_9 G (S88.1 9) (S88.2 9)) (inB_in hb92) dX9_carried_110 ?_
          refine go_perm (ls' := [(0, .ref (G.2.1 0)), (1, .int a1), (4, .int x68)]) [0, 1, 4] rfl ?_
          exact jn (P := fun q => Go X l rm_X9_carried (wM G) 6 111 [(0, .ref (G.2.1 0)), (1, .int a1), (4, .int x68)] [.int q, .int (a1 - a1 / (8 : Int32) * (8 : Int32)), .ref (G.2.1 9)] S88) hF J90
        · replace hF := it_f hc95 hF
          refine go_iload_n O dX9_carried_92 rfl 1 rfl ?_
          refine go_bipush (v := (12 : Int32)) O dX9_carried_93 (by decide) ?_
          refine go_icmp_le (tgt := 102) O dX9_carried_95 (by decide) (fun hc94 => ?_) (fun hc94 => ?_)
          · replace hF := it_t hc94 hF
            refine go_aload_n O dX9_carried_102 rfl 0 rfl ?_
            refine go_get (k := 0) (j := 11) O (by decide : (0 : Nat) < 27) (cm_obj G (S88.1 0) (S88.2 0)) rfl in_X9_carried_X9 (by decide) fl_X9_carried_34 rfl rfl dX9_carried_103 ?_
            refine go_iload_n O dX9_carried_106 rfl 1 rfl ?_
            refine go_bipush (v := (8 : Int32)) O dX9_carried_107 (by decide) ?_
            refine go_irem O dX9_carried_109 (by decide) ?_
            obtain ⟨hb93, hF⟩ := chk_s hF
            refine go_iald (k := 9) O (by decide : (9 : Nat) < 27) (cm_9 G (S88.1 9) (S88.2 9)) (inB_in hb93) dX9_carried_110 ?_
            refine go_perm (ls' := [(0, .ref (G.2.1 0)), (1, .int a1), (4, .int x68)]) [0, 1, 4] rfl ?_
            exact jn (P := fun q => Go X l rm_X9_carried (wM G) 6 111 [(0, .ref (G.2.1 0)), (1, .int a1), (4, .int x68)] [.int q, .int (a1 - a1 / (8 : Int32) * (8 : Int32)), .ref (G.2.1 9)] S88) hF J90
          · replace hF := it_f hc94 hF
            refine go_iload_n O dX9_carried_98 rfl 2 rfl ?_
            refine go_goto (tgt := 111) O dX9_carried_99 (by decide) ?_
            refine go_perm (ls' := [(0, .ref (G.2.1 0)), (1, .int a1), (4, .int x68)]) [0, 1, 4] rfl ?_
            exact jn (P := fun q => Go X l rm_X9_carried (wM G) 6 111 [(0, .ref (G.2.1 0)), (1, .int a1), (4, .int x68)] [.int q, .int (a1 - a1 / (8 : Int32) * (8 : Int32)), .ref (G.2.1 9)] S88) hF J90
      replace hF := hA80
      refine go_if_eq (tgt := 70) O dX9_carried_49 (by decide) (fun hc86 => ?_) (fun hc86 => ?_)
      · replace hF := it_t hc86 hF
        refine go_aload_n O dX9_carried_70 rfl 0 rfl ?_
        refine go_get (k := 0) (j := 6) O (by decide : (0 : Nat) < 27) (cm_obj G (S77.1 0) (S77.2 0)) rfl in_X9_carried_X9 (by decide) fl_X9_carried_28 rfl rfl dX9_carried_71 ?_
        refine go_iload_n O dX9_carried_74 rfl 1 rfl ?_
        refine go_bipush (v := (6 : Int32)) O dX9_carried_75 (by decide) ?_
        refine go_irem O dX9_carried_77 (by decide) ?_
        obtain ⟨hb81, hF⟩ := chk_s hF
        refine go_iald (k := 7) O (by decide : (7 : Nat) < 27) (cm_7 G (S77.1 7) (S77.2 7)) (inB_in hb81) dX9_carried_78 ?_
        exact jn (P := fun q => Go X l rm_X9_carried (wM G) 6 79 [(0, .ref (G.2.1 0)), (1, .int a1), (2, .int a2), (3, .int a3), (4, .int x68)] [.int q, .int (a1 - a1 / (6 : Int32) * (6 : Int32)), .ref (G.2.1 7)] S77) hF J79
      · replace hF := it_f hc86 hF
        refine go_iload_n O dX9_carried_52 rfl 1 rfl ?_
        refine go_i2l (v := Int32.toInt64 a1) O dX9_carried_53 rfl ?_
        refine go_ldc2 (v := (7 : Int64)) O dX9_carried_54 wd_X9_carried_c255 ?_
        refine go_ldc2 (v := (12 : Int64)) O dX9_carried_57 wd_X9_carried_c260 ?_
        obtain ⟨x83, hA82, hF⟩ := bd_s hF
        refine go_callSi (As := [.long (Int32.toInt64 a1), .long (7 : Int64), .long (12 : Int64)]) (rest := [.int (a1 - a1 / (6 : Int32) * (6 : Int32)), .ref (G.2.1 7)]) O (c_X9_in l G hI hA82) (fun s args hts => va_cwS 3 hts gX9_carried_X9_in rfl rfl rfl (by decide +kernel) ⟨Nat.le_of_ble_eq_true rfl, Nat.le_of_ble_eq_true rfl⟩) rfl rfl (Nat.le_of_ble_eq_true rfl) dX9_carried_60 ?_
        refine go_if_eq (tgt := 70) O dX9_carried_63 (by decide) (fun hc85 => ?_) (fun hc85 => ?_)
        · replace hF := it_t hc85 hF
          refine go_aload_n O dX9_carried_70 rfl 0 rfl ?_
          refine go_get (k := 0) (j := 6) O (by decide : (0 : Nat) < 27) (cm_obj G (S77.1 0) (S77.2 0)) rfl in_X9_carried_X9 (by decide) fl_X9_carried_28 rfl rfl dX9_carried_71 ?_
          refine go_iload_n O dX9_carried_74 rfl 1 rfl ?_
          refine go_bipush (v := (6 : Int32)) O dX9_carried_75 (by decide) ?_
          refine go_irem O dX9_carried_77 (by decide) ?_
          obtain ⟨hb84, hF⟩ := chk_s hF
          refine go_iald (k := 7) O (by decide : (7 : Nat) < 27) (cm_7 G (S77.1 7) (S77.2 7)) (inB_in hb84) dX9_carried_78 ?_
          exact jn (P := fun q => Go X l rm_X9_carried (wM G) 6 79 [(0, .ref (G.2.1 0)), (1, .int a1), (2, .int a2), (3, .int a3), (4, .int x68)] [.int q, .int (a1 - a1 / (6 : Int32) * (6 : Int32)), .ref (G.2.1 7)] S77) hF J79
        · replace hF := it_f hc85 hF
          refine go_iload_n O dX9_carried_66 rfl 2 rfl ?_
          refine go_goto (tgt := 79) O dX9_carried_67 (by decide) ?_
          exact jn (P := fun q => Go X l rm_X9_carried (wM G) 6 79 [(0, .ref (G.2.1 0)), (1, .int a1), (2, .int a2), (3, .int a3), (4, .int x68)] [.int q, .int (a1 - a1 / (6 : Int32) * (6 : Int32)), .ref (G.2.1 7)] S77) hF J79
    replace hF := hA71
    refine go_if_eq (tgt := 32) O dX9_carried_19 (by decide) (fun hc75 => ?_) (fun hc75 => ?_)
    · replace hF := it_t hc75 hF
      refine go_aload_n O dX9_carried_32 rfl 1 rfl ?_
      refine go_get (k := 0) (j := 5) O (by decide : (0 : Nat) < 27) (cm_obj G (S.1 0) (S.2 0)) rfl in_X9_carried_X9 (by decide) fl_X9_carried_25 rfl rfl dX9_carried_33 ?_
      refine go_iload O dX9_carried_36 0 rfl ?_
      obtain ⟨hb72, hF⟩ := chk_s hF
      refine go_iald (k := 6) O (by decide : (6 : Nat) < 27) (cm_6 G (S.1 6) (S.2 6)) (inB_in hb72) dX9_carried_38 ?_
      refine go_perm (ls' := [(0, .ref (G.2.1 0)), (1, .int a1), (2, .int a2), (3, .int a3), (4, .int x68)]) [1, 2, 3, 4, 0] rfl ?_
      exact jn (P := fun q => Go X l rm_X9_carried (wM G) 6 39 [(0, .ref (G.2.1 0)), (1, .int a1), (2, .int a2), (3, .int a3), (4, .int x68)] [.int q, .int x68, .ref (G.2.1 6)] S) hF J70
    · replace hF := it_f hc75 hF
      refine go_iload_n O dX9_carried_22 rfl 2 rfl ?_
      refine go_bipush (v := (7 : Int32)) O dX9_carried_23 (by decide) ?_
      refine go_icmp_ge (tgt := 32) O dX9_carried_25 (by decide) (fun hc74 => ?_) (fun hc74 => ?_)
      · replace hF := it_t hc74 hF
        refine go_aload_n O dX9_carried_32 rfl 1 rfl ?_
        refine go_get (k := 0) (j := 5) O (by decide : (0 : Nat) < 27) (cm_obj G (S.1 0) (S.2 0)) rfl in_X9_carried_X9 (by decide) fl_X9_carried_25 rfl rfl dX9_carried_33 ?_
        refine go_iload O dX9_carried_36 0 rfl ?_
        obtain ⟨hb73, hF⟩ := chk_s hF
        refine go_iald (k := 6) O (by decide : (6 : Nat) < 27) (cm_6 G (S.1 6) (S.2 6)) (inB_in hb73) dX9_carried_38 ?_
        refine go_perm (ls' := [(0, .ref (G.2.1 0)), (1, .int a1), (2, .int a2), (3, .int a3), (4, .int x68)]) [1, 2, 3, 4, 0] rfl ?_
        exact jn (P := fun q => Go X l rm_X9_carried (wM G) 6 39 [(0, .ref (G.2.1 0)), (1, .int a1), (2, .int a2), (3, .int a3), (4, .int x68)] [.int q, .int x68, .ref (G.2.1 6)] S) hF J70
      · replace hF := it_f hc74 hF
        refine go_iload_n O dX9_carried_28 rfl 3 rfl ?_
        refine go_goto (tgt := 39) O dX9_carried_29 (by decide) ?_
        refine go_perm (ls' := [(0, .ref (G.2.1 0)), (1, .int a1), (2, .int a2), (3, .int a3), (4, .int x68)]) [1, 2, 3, 4, 0] rfl ?_
        exact jn (P := fun q => Go X l rm_X9_carried (wM G) 6 39 [(0, .ref (G.2.1 0)), (1, .int a1), (2, .int a2), (3, .int a3), (4, .int x68)] [.int q, .int x68, .ref (G.2.1 6)] S) hF J70
