/-! ===== rooms changed: all orders ===== -/
def roL (a : AS) (l : List Nat) : Nat → Nat := fun x => aR a (l.getD x 0)
theorem roL_le {a : AS} (w : WG a) {l : List Nat} (x : Nat) : roL a l x ≤ aW a := w.2.2.2.2.2 _
def stp (a : AS) (bo : Int × List Nat) (l : List Nat) : Int × List Nat := if bo.1 < (pc (sft (rmA a (roL a l))) : Int) then ((pc (sft (rmA a (roL a l))) : Int), l) else bo
/-! the other side -/
def rI (a : AS) (μ : Sg) (l : List Nat) (S : Sg) : Prop := lsM 21 l S ∧ (∀ j, j < aP a → S.1 23 j = zI (aR a j)) ∧ (∀ c n, c ≠ 6 → c ≠ 21 → c ≠ 22 → c ≠ 23 → S.1 c n = μ.1 c n) ∧ ∀ n, aP a ≤ n → S.1 6 n = μ.1 6 n
def oI (a : AS) (k : Nat) (b : Int) (o : List Nat) (S : Sg) : Prop := 0 ≤ b → o.length = aP a ∧ lsM k o S
/-- one order tried -/
theorem f9_one {a : AS} (w : WG a) (wt : WT a) {μ : Sg} (mg : MG μ a) (mt : MT μ a) (hP0 : 0 < aP a) {p1 : Int32} {l : List Nat} (hl : l.length = aP a ∧ ∀ y, y ∈ l → y < aP a) {b : Int} {o : List Nat} {S : Sg} (hb1 : -1 ≤ b) (hb2 : b ≤ 8) (hI : rI a μ l S) (hO : oI a 22 b o S) :
    ∃ S1 S2, T_X9_rooms_65 p1 (zI b) FU 0 S = some S1 ∧ F_X9_safeSet S1 = some (sft (rmA a (roL a l))) ∧ T_X9_rooms_111 p1 (zI b) (zI (pc (sft (rmA a (roL a l))))) FU 0 S1 = some S2 ∧ rI a μ l S2 ∧ oI a 22 (stp a (b, o) l).1 (stp a (b, o) l).2 S2 ∧ -1 ≤ (stp a (b, o) l).1 ∧ (stp a (b, o) l).1 ≤ 8 ∧ (if zI ((pc (sft (rmA a (roL a l))) : Nat) : Int) ≤ zI b then some (zI b) else some (zI ((pc (sft (rmA a (roL a l))) : Nat) : Int))) = some (zI (stp a (b, o) l).1) := by
  have wP := w.1
  have w' := rmA_w w (ρ := roL a l) (fun x => roL_le w x)
  have wt' : WT (rmA a (roL a l)) := wt
  obtain ⟨i1, i2, i3, i4⟩ := hI
  have gb := getD_b hP0 hl.2
  let S1 := wr 6 0 (fun j => zI ((roL a l j : Nat) : Int)) S (aP a)
  have k1 : T_X9_rooms_65 p1 (zI b) FU 0 S = some S1 := by
    refine loopE (fun n x => T_X9_rooms_65 p1 (zI b) n (zI x) (wr 6 0 (fun j => zI ((roL a l j : Nat) : Int)) S x)) (aP a) (some S1) (by omega) (fun n => ?_) (fun n x hx => ?_)
    · simp only [T_X9_rooms_65]
      rw [wr_n (.inl (by decide)), i3 _ _ (by decide) (by decide) (by decide) (by decide), mg.1, if_le_t (by omega) (by omega)]
    · have g1 := gb x
      simp only [T_X9_rooms_65]
      rw [wr_n (c := 0) (.inl (by decide)), i3 0 _ (by decide) (by decide) (by decide) (by decide), mg.1, if_le_f hx (by omega), chk_N (by omega) (by omega), z_tnN (by omega), wr_n (.inl (by decide)), i1 x (by omega), chk_N (by omega) (by omega), chk_N (by omega) (by omega), z_tnN (by omega), wr_n (.inl (by decide)), i2 _ g1, nm, zS, wr, Nat.zero_add]; rfl
  have o1 : ∀ c n, c ≠ 6 → S1.1 c n = S.1 c n := fun c n hc => wr_n (.inl hc)
  have mg1 : MG S1 (rmA a (roL a l)) := ⟨(o1 _ _ (by decide)).trans ((i3 _ _ (by decide) (by decide) (by decide) (by decide)).trans mg.1), (o1 _ _ (by decide)).trans ((i3 _ _ (by decide) (by decide) (by decide) (by decide)).trans mg.2.1), fun j hj => (o1 _ _ (by decide)).trans ((i3 _ _ (by decide) (by decide) (by decide) (by decide)).trans (mg.2.2.1 j hj)), fun j hj => (o1 _ _ (by decide)).trans ((i3 _ _ (by decide) (by decide) (by decide) (by decide)).trans (mg.2.2.2.1 j hj)), fun j hj => wr_e0 hj⟩
  have mt1 : MT S1 (rmA a (roL a l)) := MT_k (fun c n q => (o1 _ _ (by omega)).trans (i3 _ _ (by omega) (by omega) (by omega) (by omega))) mt
  have hS1 : rI a μ l S1 := ⟨fun j hj => (o1 _ _ (by decide)).trans (i1 j hj), fun j hj => (o1 _ _ (by decide)).trans (i2 j hj), fun c n q1 q2 q3 q4 => (o1 _ _ q1).trans (i3 c n q1 q2 q3 q4), fun n hn => (wr_n (by omega)).trans (i4 n hn)⟩
  have m7 : S1.1 0 7 = zI (aP a) := mg1.1
  have hpc := pc_le (sft (rmA a (roL a l)))
  by_cases q : b < (pc (sft (rmA a (roL a l))) : Int)
  · let S2 := wr 22 0 (fun j => zI ((l.getD j 0 : Nat) : Int)) S1 (aP a)
    have o2 : ∀ c n, c ≠ 22 → S2.1 c n = S1.1 c n := fun c n hc => wr_n (.inl hc)
    refine ⟨S1, S2, k1, f9_sft mg1 mt1 w' wt', ?_, ⟨fun j hj => (o2 _ _ (by decide)).trans (hS1.1 j hj), fun j hj => (o2 _ _ (by decide)).trans (hS1.2.1 j hj), fun c n q1 q2 q3 q4 => (o2 _ _ q3).trans (hS1.2.2.1 c n q1 q2 q3 q4), fun n hn => (o2 _ _ (by decide)).trans (hS1.2.2.2 n hn)⟩, ?_, ?_, ?_, ?_⟩
    · refine loopE (fun n x => T_X9_rooms_111 p1 (zI b) (zI (pc (sft (rmA a (roL a l))))) n (zI x) (wr 22 0 (fun j => zI ((l.getD j 0 : Nat) : Int)) S1 x)) (aP a) (some S2) (by omega) (fun n => ?_) (fun n x hx => ?_)
      · simp only [T_X9_rooms_111]
        rw [wr_n (.inl (by decide)), m7, if_le_t (Nat.le_refl _) (by omega)]
      · simp only [T_X9_rooms_111]
        rw [wr_n (c := 0) (.inl (by decide)), m7, if_le_f hx (by omega), if_leZ (by omega) (by omega) (by omega) (by omega), if_neg (by omega), chk_N (by omega) (by omega), chk_N (by omega) (by omega), z_tnN (by omega), wr_n (.inl (by decide)), hS1.1 x (by omega), nm, zS, wr, Nat.zero_add]
    · unfold stp
      rw [if_pos q]
      exact fun _ => ⟨hl.1, fun j hj => wr_e0 (by have hj : j < l.length := hj; omega)⟩
    · unfold stp
      rw [if_pos q]
      show (-1 : Int) ≤ (pc (sft (rmA a (roL a l))) : Int)
      omega
    · unfold stp
      rw [if_pos q]
      show (pc (sft (rmA a (roL a l))) : Int) ≤ 8
      omega
    · unfold stp
      rw [if_pos q, if_leZ (by omega) (by omega) (by omega) (by omega), if_neg (by omega)]
  · refine ⟨S1, S1, k1, f9_sft mg1 mt1 w' wt', ?_, hS1, ?_, ?_, ?_, ?_⟩
    · refine loop0 (fun n x => T_X9_rooms_111 p1 (zI b) (zI (pc (sft (rmA a (roL a l))))) n (zI x) S1) (aP a) (some S1) (by omega) (fun n x hx => .inl ?_)
      simp only [T_X9_rooms_111]
      rw [if_leZ (a := (pc (sft (rmA a (roL a l))) : Int)) (b := b) (by omega) (by omega) (by omega) (by omega), if_pos (c := (pc (sft (rmA a (roL a l))) : Int) ≤ b) (by omega), ite_self]
    · unfold stp
      rw [if_neg q]
      exact fun hb => ⟨(hO hb).1, fun j hj => (o1 _ _ (by decide)).trans ((hO hb).2 j hj)⟩
    · unfold stp
      rw [if_neg q]; exact hb1
    · unfold stp
      rw [if_neg q]; exact hb2
    · unfold stp
      rw [if_neg q, if_leZ (by omega) (by omega) (by omega) (by omega), if_pos (by omega)]
theorem f9_rl {a : AS} (w : WG a) (wt : WT a) {μ : Sg} (mg : MG μ a) (mt : MT μ a) (hP0 : 0 < aP a) {p1 : Int32} : ∀ (t : List (List Nat)) (l : List Nat), chL (l :: t) = true → (∀ x, x ∈ l :: t → x.length = aP a ∧ ∀ y, y ∈ x → y < aP a) → ∀ f, t.length + 1 < f → ∀ (b : Int) (o : List Nat) (S : Sg), -1 ≤ b → b ≤ 8 → rI a μ l S → oI a 22 b o S →
    ∃ S' l', T_X9_rooms_58 p1 f (zI b) 1 S = some (zI ((l :: t).foldl (stp a) (b, o)).1, S') ∧ rI a μ l' S' ∧ oI a 22 ((l :: t).foldl (stp a) (b, o)).1 ((l :: t).foldl (stp a) (b, o)).2 S' := by
  have wP := w.1
  have start : ∀ (l : List Nat), (l.length = aP a ∧ ∀ y, y ∈ l → y < aP a) → ∀ f (b : Int) (o : List Nat) (S : Sg), -1 ≤ b → b ≤ 8 → rI a μ l S → oI a 22 b o S → ∃ S2, T_X9_rooms_58 p1 (f + 1) (zI b) 1 S = bd (F_X9_nextOrder S2) (fun (x36, S37) => T_X9_rooms_58 p1 f (zI (stp a (b, o) l).1) x36 S37) ∧ rI a μ l S2 ∧ oI a 22 (stp a (b, o) l).1 (stp a (b, o) l).2 S2 ∧ -1 ≤ (stp a (b, o) l).1 ∧ (stp a (b, o) l).1 ≤ 8 := by
    intro l hl f b o S hb1 hb2 hI hO
    obtain ⟨S1, S2, k1, k2, k3, k4, k5, k6, k7, k8⟩ := f9_one w wt mg mt hP0 (p1 := p1) hl hb1 hb2 hI hO
    refine ⟨S2, ?_, k4, k5, k6, k7⟩
    simp only [T_X9_rooms_58]
    rw [if_neg (by decide), k1, bd_some, k2, bd_some, f_ones (sft_sub (a := rmA a (roL a l)) wt), bd_some, k3, bd_some, k8, bd_some]
  have ord : ∀ (l : List Nat), (l.length = aP a ∧ ∀ y, y ∈ l → y < aP a) → ∀ S, rI a μ l S → S.1 0 7 = zI (l.length : Int) ∧ ∀ j, l.getD j 0 < 7 := fun l hl S hI => ⟨by rw [hI.2.2.1 _ _ (by decide) (by decide) (by decide) (by decide), mg.1, hl.1], fun j => by have := getD_b hP0 hl.2 j; omega⟩
  have mv : ∀ (l l' : List Nat) S S', rI a μ l S → lsM 21 l' S' → o21 S S' → rI a μ l' S' := fun l l' S S' hI h1 h2 => ⟨h1, fun j hj => (h2 _ _ (by decide)).trans (hI.2.1 j hj), fun c n q1 q2 q3 q4 => (h2 _ _ q2).trans (hI.2.2.1 c n q1 q2 q3 q4), fun n hn => (h2 _ _ (by decide)).trans (hI.2.2.2 n hn)⟩
  intro t
  induction t with
  | nil =>
    intro l hc hm f hf b o S hb1 hb2 hI hO
    have hl := hm l (List.mem_singleton.mpr rfl)
    obtain ⟨f, rfl⟩ : ∃ g, f = g + 1 := ⟨f - 1, by omega⟩
    obtain ⟨S2, k1, k2, k3, k4, k5⟩ := start l hl f b o S hb1 hb2 hI hO
    obtain ⟨h7, hb7⟩ := ord l hl S2 k2
    have hn : nxL l = none := by
      have : decide (nxL l = none) = true := hc
      exact of_decide_eq_true this
    obtain ⟨S', g1, g2, g3⟩ := (f9_order (by omega) (by omega) h7 k2.1 hb7).1 hn
    refine ⟨S', l, ?_, mv l l S2 S' k2 g2 g3, fun hb => ⟨(k3 hb).1, fun j hj => (g3 _ _ (by decide)).trans ((k3 hb).2 j hj)⟩⟩
    rw [k1, g1, bd_some]
    show T_X9_rooms_58 p1 f (zI (stp a (b, o) l).1) 0 S' = _
    obtain ⟨f, rfl⟩ : ∃ g, f = g + 1 := ⟨f - 1, by omega⟩
    simp only [T_X9_rooms_58]
    rw [if_pos trivial]; rfl
  | cons l2 t ih =>
    intro l hc hm f hf b o S hb1 hb2 hI hO
    have hl := hm l List.mem_cons_self
    obtain ⟨f, rfl⟩ : ∃ g, f = g + 1 := ⟨f - 1, by omega⟩
    obtain ⟨S2, k1, k2, k3, k4, k5⟩ := start l hl f b o S hb1 hb2 hI hO
    obtain ⟨h7, hb7⟩ := ord l hl S2 k2
    have hc2 : (decide (nxL l = some l2) && chL (l2 :: t)) = true := hc
    rw [Bool.and_eq_true, decide_eq_true_eq] at hc2
    obtain ⟨S', g1, g2, g3⟩ := (f9_order (by omega) (by omega) h7 k2.1 hb7).2 l2 hc2.1
    obtain ⟨S'', l', e1, e2, e3⟩ := ih l2 hc2.2 (fun x hx => hm x (List.mem_cons_of_mem _ hx)) f (by rw [List.length_cons] at hf; omega) (stp a (b, o) l).1 (stp a (b, o) l).2 S' k4 k5 (mv l l2 S2 S' k2 g2 g3) (fun hb => ⟨(k3 hb).1, fun j hj => (g3 _ _ (by decide)).trans ((k3 hb).2 j hj)⟩)
    refine ⟨S'', l', ?_, e2, e3⟩
    rw [k1, g1, bd_some]
    exact e1
/-! this side -/
def cI (a : AS) (σ : Sg) (d : Nat) (pre : List Nat) (b : Int) (o : List Nat) (ρ : Nat → Nat) (S : Sg) : Prop := (CG 0 S a ∧ CG 1 S (rmA a ρ) ∧ CT 1 S a ∧ smS σ S ∧ RD S) ∧ (∀ x, ρ x ≤ aW a) ∧ (∀ x, x < d → ρ x = aR a (pre.getD x 0)) ∧ S.1 9 2 = zI b ∧ oI a 11 b o S ∧ (∀ x, x < d → S.1 10 x = zI ((pre.getD x 0 : Nat) : Int)) ∧ (b = -9 ∨ 0 ≤ b) ∧ b ≤ 8
theorem fold_none {a : AS} {b : Int} {o : List Nat} : ∀ L : List (List Nat), (∀ l, l ∈ L → (pc (sft (rmA a (roL a l))) : Int) ≤ b) → L.foldl (stp a) (b, o) = (b, o)
  | [], _ => rfl
  | l :: t, h => by
    have h1 := h l List.mem_cons_self
    have e : stp a (b, o) l = (b, o) := by unfold stp; rw [if_neg (by show ¬ b < _; omega)]
    rw [List.foldl_cons, e]
    exact fold_none t (fun x hx => h x (List.mem_cons_of_mem _ hx))
theorem getD_app {p s : List Nat} {x : Nat} (h : x < p.length) : (p ++ s).getD x 0 = p.getD x 0 := by
  rw [List.getD_eq_getElem?_getD, List.getD_eq_getElem?_getD, List.getElem?_append_left h]
theorem getD_last {p : List Nat} {x : Nat} : (p ++ [x]).getD p.length 0 = x := by
  rw [List.getD_eq_getElem?_getD, List.getElem?_append_right (Nat.le_refl _), Nat.sub_self]; rfl
/-- below a node no order is better than what still is safe -/
theorem node_le {a : AS} (w : WG a) (wt : WT a) {d n : Nat} (hd : d + n = aP a) {pre : List Nat} (hp : pre.length = d) {ρ : Nat → Nat} (hρ : ∀ x, x < d → ρ x = aR a (pre.getD x 0)) {av : Nat → Bool} {l : List Nat} (hl : l ∈ (lvB (aP a) n av).map (fun s => pre ++ s)) : pc (sft (rmA a (roL a l))) ≤ pc (stS a ρ d) := by
  rw [List.mem_map] at hl
  obtain ⟨s, _, rfl⟩ := hl
  rw [← stS_sft w wt (fun x => roL_le w x)]
  refine Nat.le_trans (stS_mono wt (d := d) (by omega)) ?_
  rw [stS_cg (ρ := roL a (pre ++ s)) (ρ' := ρ) (fun x hx => by
    unfold roL
    rw [hρ x hx, getD_app (by omega)])]
  exact Nat.le_refl _
def lvF (P n : Nat) (av : Nat → Bool) (a : Nat) : List (List Nat) := if av a = true then (lvB P n (fun x => av x && !decide (x = a))).map (fun l => a :: l) else []
theorem lvB_s {P n : Nat} {av : Nat → Bool} : lvB P (n + 1) av = (List.range P).flatMap (lvF P n av) := rfl
theorem f0_place {a : AS} (w : WG a) (wt : WT a) {σ : Sg} : ∀ n d, d + n = aP a → ∀ D, n < D → ∀ (pre : List Nat) (av : Nat → Bool) (A : Int32) (b : Int) (o : List Nat) (ρ : Nat → Nat) (S : Sg), pre.length = d → (∀ x, x < aP a → tb A x = av x) → cI a σ d pre b o ρ S →
    ∃ S' ρ', F_X0_place 0 1 D S (zI d) A (stS a ρ d) = some S' ∧ cI a σ d pre (((lvB (aP a) n av).map (fun s => pre ++ s)).foldl (stp a) (b, o)).1 (((lvB (aP a) n av).map (fun s => pre ++ s)).foldl (stp a) (b, o)).2 ρ' S' := by
  have wP := w.1
  have wT := wt.1
  have sub8s : ∀ ρ d, sub 8 (stS a ρ d) := fun ρ d => sub_mono wT (sub_orU (by omega))
  intro n
  induction n with
  | zero =>
    intro d hd D hD pre av A b o ρ S hp hA hI
    obtain ⟨D, rfl⟩ : ∃ g, D = g + 1 := ⟨D - 1, by omega⟩
    obtain ⟨⟨c0, c1, ct1, ss, rd⟩, h1, h2, h3, h4, h5, h6, h7⟩ := id hI
    have hpc := pc_le (stS a ρ d)
    show ∃ S' ρ', F_X0_place_b 0 1 D (F_X0_place 0 1 D) S (zI d) A (stS a ρ d) = some S' ∧ _
    unfold F_X0_place_b
    rw [f_bc (sub8s ρ d), bd_some, bd_some, h3, if_ltZ (by omega) (by omega) (by omega) (by omega), c0.1, if_ltZ (by omega) (by omega) (by omega) (by omega), if_neg (c := (d : Int) < aP a) (by omega)]
    by_cases q : b < (pc (stS a ρ d) : Int)
    · have e1 : sft (rmA a (roL a (pre ++ []))) = stS a ρ d := by
        rw [← stS_sft w wt (fun x => roL_le w x), show aP a = d by omega]
        exact stS_cg (fun x hx => by unfold roL; rw [h2 x hx, List.append_nil])
      have ef : ((lvB (aP a) 0 av).map (fun s => pre ++ s)).foldl (stp a) (b, o) = ((pc (stS a ρ d) : Int), pre ++ []) := by
        show stp a (b, o) (pre ++ []) = _
        unfold stp
        rw [e1, if_pos q]
      rw [ef, if_pos q, nm, show (7 : Int32) = zI ((7 : Nat) : Int) from rfl, show (0 : Int32) = zI ((0 : Nat) : Int) from rfl, cpB_N (by omega) (by omega) (by decide) (by decide), z_tnN (by omega), z_tnN (by omega), nm]
      have s8 : ∀ lo hi, 11 < lo ∨ hi ≤ 9 → sm lo hi S (cpI (wI S 9 2 (zI (pc (stS a ρ d)))) 10 0 11 0 7) := fun lo hi q => sm_tr (sm_wI (by omega)) (cpI_sm (by omega))
      refine ⟨_, ρ, rfl, ⟨CG_sm (s8 _ _ (by decide)) c0, CG_sm (s8 _ _ (by decide)) c1, CT_sm (s8 _ _ (by decide)) ct1, smS_tr ss ⟨s8 _ _ (by decide), s8 _ _ (by decide), s8 _ _ (by decide)⟩, ((s8 49 50 (by decide) 49 (by decide) (by decide) 0).1).trans rd⟩, h1, h2, ?_, fun _ => ⟨by show (pre ++ []).length = _; rw [List.append_nil, hp]; omega, fun j hj => ?_⟩, fun x hx => ?_, .inr (by show (0 : Int) ≤ (pc (stS a ρ d) : Int); omega), by show (pc (stS a ρ d) : Int) ≤ 8; omega⟩
      · rw [cpI_n (.inl (by decide)), wI_eq]
      · have hj : j < (pre ++ []).length := hj
        rw [List.append_nil] at hj
        show _ = zI (((pre ++ []).getD j 0 : Nat) : Int)
        rw [cpI_e (by omega), wI_ne (.inl (by decide)), h5 j (by omega), List.append_nil]
      · rw [cpI_n (.inl (by decide)), wI_ne (.inl (by decide)), h5 x hx]
    · have ef : ((lvB (aP a) 0 av).map (fun s => pre ++ s)).foldl (stp a) (b, o) = (b, o) := fold_none _ (fun l hl => by have := node_le w wt hd hp h2 hl; omega)
      rw [ef, if_neg q]
      exact ⟨S, ρ, rfl, hI⟩
  | succ n ih =>
    intro d hd D hD pre av A b o ρ S hp hA hI
    obtain ⟨D, rfl⟩ : ∃ g, D = g + 1 := ⟨D - 1, by omega⟩
    obtain ⟨⟨c0, c1, ct1, ss, rd⟩, h1, h2, h3, h4, h5, h6, h7⟩ := id hI
    have hpc := pc_le (stS a ρ d)
    have e34 : sb 0 = 34 := rfl
    have e47 : sb 1 = 47 := rfl
    show ∃ S' ρ', F_X0_place_b 0 1 D (F_X0_place 0 1 D) S (zI d) A (stS a ρ d) = some S' ∧ _
    unfold F_X0_place_b
    rw [f_bc (sub8s ρ d), bd_some, h3, if_ltZ (by omega) (by omega) (by omega) (by omega), c0.1, if_ltZ (by omega) (by omega) (by omega) (by omega), if_pos (c := (d : Int) < aP a) (by omega)]
    by_cases q : b < (pc (stS a ρ d) : Int)
    case neg =>
      have ef : ((lvB (aP a) (n + 1) av).map (fun s => pre ++ s)).foldl (stp a) (b, o) = (b, o) := fold_none _ (fun l hl => by have := node_le w wt hd hp h2 hl; omega)
      rw [ef, if_neg q]
      exact ⟨S, ρ, rfl, hI⟩
    rw [if_pos q, lvB_s]
    let bo : Nat → Int × List Nat := fun x => (((List.range x).flatMap (lvF (aP a) n av)).map (fun s => pre ++ s)).foldl (stp a) (b, o)
    have steps : ∀ x, x ≤ aP a → ∃ f Sx ρx, f + x = FU ∧ T_X0_place_49 0 1 D (F_X0_place 0 1 D) (zI d) A (stS a ρ d) FU 0 S = T_X0_place_49 0 1 D (F_X0_place 0 1 D) (zI d) A (stS a ρ d) f (zI x) Sx ∧ cI a σ d pre (bo x).1 (bo x).2 ρx Sx := by
      intro x
      induction x with
      | zero => exact fun _ => ⟨FU, S, ρ, rfl, rfl, hI⟩
      | succ x ihx =>
        intro hx
        obtain ⟨f, Sx, ρx, f1, f2, f3⟩ := ihx (by omega)
        have hFU : FU = 20000 := rfl
        obtain ⟨f, rfl⟩ : ∃ g, f = g + 1 := ⟨f - 1, by omega⟩
        obtain ⟨⟨d0, d1, dt1, dss, drd⟩, g1, g2, g3, g4, g5, g6, g7⟩ := f3
        have ebo : bo (x + 1) = ((lvF (aP a) n av x).map (fun s => pre ++ s)).foldl (stp a) (bo x) := by
          show (((List.range (x + 1)).flatMap (lvF (aP a) n av)).map (fun s => pre ++ s)).foldl (stp a) (b, o) = _
          rw [List.range_succ, List.flatMap_append, List.map_append, List.foldl_append, List.flatMap_singleton]
        rw [ebo, f2]
        simp only [T_X0_place_49]
        rw [d0.1, if_le_f (by omega) (by omega), has_if (by omega), hA x (by omega), zS]
        unfold lvF
        cases hav : av x
        · rw [if_neg (by decide), if_neg (by decide), bd_some]
          exact ⟨f, Sx, ρx, by omega, by rw [zS], ⟨d0, d1, dt1, dss, drd⟩, g1, g2, g3, g4, g5, g6, g7⟩
        · rw [if_pos rfl, if_pos rfl, chk_N (by omega) (by omega), z_tnN (by omega), nm, chk_N (by omega) (by omega), chk_N (by omega) (by omega), z_tnN (by omega), nm, wI_ne (c := sb 0 + 4) (.inl (by decide)), d0.2.2.2.2.2 x (by omega)]
          let ρ2 : Nat → Nat := fun y => if y = d then aR a x else ρx y
          let S2 := wI (wI Sx 10 d (zI x)) (sb 1 + 4) d (zI ((aR a x : Nat) : Int))
          have r1 : ∀ y, ρ2 y ≤ aW a := fun y => by
            show (if y = d then aR a x else ρx y) ≤ aW a
            split
            · exact w.2.2.2.2.2 x
            · exact g1 y
          have o2 : ∀ c k, c ≠ 10 → c ≠ 51 → S2.1 c k = Sx.1 c k := fun c k q1 q2 => by
            show (wI (wI Sx 10 d _) 51 d _).1 c k = _
            rw [wI_ne (.inl q2), wI_ne (.inl q1)]
          have cg1 : CG 1 S2 (rmA a ρ2) := ⟨(o2 _ _ (by decide) (by decide)).trans d1.1, (o2 _ _ (by decide) (by decide)).trans d1.2.1, fun j hj => (o2 _ _ (by decide) (by decide)).trans (d1.2.2.1 j hj), fun j hj => by
            rw [aD_cg (a' := rmA a ρ2) (a := rmA a ρx) (fun _ => rfl)]
            exact (o2 _ _ (by decide) (by decide)).trans (d1.2.2.2.1 j hj), fun j hj => (o2 _ _ (by decide) (by decide)).trans (d1.2.2.2.2.1 j hj), fun j hj => by
            have h51 := d1.2.2.2.2.2 j hj
            show (wI (wI Sx 10 d _) 51 d _).1 51 j = zI ((if j = d then aR a x else ρx j : Nat) : Int)
            rw [wI_1, if_pos rfl, wI_ne (.inl (by decide))]
            by_cases e : j = d
            · rw [if_pos e, if_pos e]
            · rw [if_neg e, if_neg e]; exact h51⟩
          have ct2 : CT 1 S2 a := CT_k (fun c k q => o2 _ _ (by omega) (by omega)) dt1
          have est : stS a ρ d = stS a ρ2 d := stS_cg (fun y hy => by
            show ρ y = if y = d then aR a x else ρx y
            rw [if_neg (by omega), g2 y hy, h2 y hy])
          have hrec := ih (d + 1) (by omega) D (by omega) (pre ++ [x]) (fun y => av y && !decide (y = x)) (A &&& (((1 : Int32) <<< (zI (x : Int) &&& 31)) ^^^ (-1 : Int32))) (bo x).1 (bo x).2 ρ2 S2 (by rw [List.length_append, hp]; rfl) (fun y hy => by
            rw [tb_and, tb_not (by omega), tb_one (by omega) (by omega), hA y hy]) ⟨⟨CG_k (fun c k q => o2 _ _ (by omega) (by omega)) d0, cg1, ct2, smS_tr dss ⟨sm_tr (sm_wI (by decide)) (sm_wI (by decide)), sm_tr (sm_wI (by decide)) (sm_wI (by decide)), sm_tr (sm_wI (by decide)) (sm_wI (by decide))⟩, (o2 49 0 (by decide) (by decide)).trans drd⟩, r1, fun y hy => by
            show (if y = d then aR a x else ρx y) = aR a ((pre ++ [x]).getD y 0)
            by_cases e : y = d
            · rw [if_pos e, e, ← hp, getD_last]
            · rw [if_neg e, getD_app (by omega)]; exact g2 y (by omega), (o2 _ _ (by decide) (by decide)).trans g3, fun hb => ⟨(g4 hb).1, fun j hj => (o2 _ _ (by decide) (by decide)).trans ((g4 hb).2 j hj)⟩, fun y hy => by
            show (wI (wI Sx 10 d _) 51 d _).1 10 y = _
            rw [wI_ne (.inl (by decide)), wI_1, if_pos rfl]
            by_cases e : y = d
            · rw [if_pos e, e, ← hp, getD_last]
            · rw [if_neg e, getD_app (by omega)]; exact g5 y (by omega), g6, g7⟩
          obtain ⟨S3, ρ3, k1, ⟨j0, l1, l2, l3, l4, l5, l6, l7⟩⟩ := hrec
          have ef : ((lvB (aP a) n (fun y => av y && !decide (y = x))).map (fun s => (pre ++ [x]) ++ s)) = (((lvB (aP a) n (fun y => av y && !decide (y = x))).map (fun l => x :: l)).map (fun s => pre ++ s)) := by
            rw [List.map_map]
            refine List.map_congr_left (fun s _ => ?_)
            show (pre ++ [x]) ++ s = pre ++ (x :: s)
            rw [List.append_assoc]; rfl
          rw [ef] at l3 l4 l6 l7
          refine ⟨f, S3, ρ3, by omega, ?_, j0, l1, fun y hy => by rw [l2 y (by omega), getD_app (by omega)], l3, l4, fun y hy => by rw [l5 y (by omega), getD_app (by omega)], l6, l7⟩
          show bd (bd (F_X6_stillSafe 1 S2 (stS a ρ d) (zI d)) _) _ = _
          rw [est, f6_still w wt r1 cg1 ct2 (by omega), bd_some, zS, k1, bd_some, bd_some]
    obtain ⟨f, S', ρ', f1, f2, f3⟩ := steps (aP a) (Nat.le_refl _)
    have hFU : FU = 20000 := rfl
    obtain ⟨f, rfl⟩ : ∃ g, f = g + 1 := ⟨f - 1, by omega⟩
    refine ⟨S', ρ', ?_, f3⟩
    rw [f2]
    simp only [T_X0_place_49]
    rw [f3.1.1.1, if_le_t (Nat.le_refl _) (by omega), bd_some]
theorem fold_neg {a : AS} {b : Int} {o : List Nat} (hb : b < 0) {l : List Nat} {t : List (List Nat)} : (l :: t).foldl (stp a) (b, o) = (l :: t).foldl (stp a) (-1, []) := by
  have e : ∀ b o, b < 0 → stp a (b, o) l = ((pc (sft (rmA a (roL a l))) : Int), l) := fun b o hb => by
    unfold stp
    rw [if_pos (by show b < _; omega)]
  rw [List.foldl_cons, List.foldl_cons, e b o hb, e (-1) [] (by decide)]
theorem fold_b {a : AS} : ∀ (L : List (List Nat)) (bo : Int × List Nat), bo.1 ≤ (L.foldl (stp a) bo).1
  | [], _ => Int.le_refl _
  | l :: t, bo => by
    rw [List.foldl_cons]
    have h1 := fold_b (a := a) t (stp a bo l)
    have h2 : bo.1 ≤ (stp a bo l).1 := by
      unfold stp
      split
      · next h => exact Int.le_of_lt h
      · exact Int.le_refl _
    omega
theorem fold_0 {a : AS} {l : List Nat} {t : List (List Nat)} : 0 ≤ ((l :: t).foldl (stp a) (-1, [])).1 := by
  have h := fold_b (a := a) t (stp a (-1, []) l)
  have e : stp a (-1, []) l = ((pc (sft (rmA a (roL a l))) : Int), l) := by
    unfold stp
    rw [if_pos (by show (-1 : Int) < _; omega)]
  rw [List.foldl_cons]
  rw [e] at h ⊢
  have h : (pc (sft (rmA a (roL a l))) : Int) ≤ _ := h
  omega
theorem hd_all : ∀ P, P < 8 → (lvB P P (fun _ => true)).head? = some (List.range P) := by decide +kernel
theorem ln_all : ∀ P, P < 8 → (lvB P P (fun _ => true)).length < 6000 := by
  have : ∀ P, P < 8 → decide ((lvB P P (fun _ => true)).length < 6000) = true := by decide +kernel
  exact fun P hP => of_decide_eq_true (this P hP)
def w23 (S : Sg) : Nat → Sg
  | 0 => S
  | n + 1 => wI (wI (w23 S n) 21 n (zI n)) 23 n (S.1 6 n)
theorem w23_o {S : Sg} {c k : Nat} (h : c ≠ 21) (h2 : c ≠ 23) : ∀ n, (w23 S n).1 c k = S.1 c k
  | 0 => rfl
  | n + 1 => by rw [w23, wI_ne (.inl h2), wI_ne (.inl h), w23_o h h2 n]
theorem w23_e {S : Sg} {k : Nat} : ∀ n, k < n → (w23 S n).1 21 k = zI k ∧ (w23 S n).1 23 k = S.1 6 k
  | 0, h => absurd h (Nat.not_lt_zero _)
  | n + 1, h => by
    have a1 : (w23 S (n + 1)).1 21 k = if k = n then zI n else (w23 S n).1 21 k := by rw [w23, wI_ne (.inl (by decide)), wI_1, if_pos rfl]
    have a2 : (w23 S (n + 1)).1 23 k = if k = n then S.1 6 n else (w23 S n).1 23 k := by rw [w23, wI_1, if_pos rfl, wI_ne (.inl (by decide))]
    rw [a1, a2]
    by_cases e : k = n
    · rw [if_pos e, if_pos e, e]; exact ⟨rfl, rfl⟩
    · rw [if_neg e, if_neg e]; exact w23_e n (by omega)
def w62 (u : Nat) (S : Sg) : Nat → Sg
  | 0 => S
  | n + 1 => wI (wI (w62 u S n) 6 n (S.1 23 n)) 2 (40 * u + n) (S.1 22 n)
theorem w62_o {u : Nat} {S : Sg} {c k : Nat} (h : c ≠ 6) (h2 : c ≠ 2) : ∀ n, (w62 u S n).1 c k = S.1 c k
  | 0 => rfl
  | n + 1 => by rw [w62, wI_ne (.inl h2), wI_ne (.inl h), w62_o h h2 n]
theorem w62_6 {u : Nat} {S : Sg} {k : Nat} : ∀ n, (w62 u S n).1 6 k = if k < n then S.1 23 k else S.1 6 k
  | 0 => by rw [if_neg (Nat.not_lt_zero _)]; rfl
  | n + 1 => by
    rw [w62, wI_ne (.inl (by decide)), wI_1, if_pos rfl, w62_6 n]
    by_cases e : k = n
    · rw [if_pos e, if_pos (by omega), e]
    · rw [if_neg e]
      by_cases e2 : k < n
      · rw [if_pos e2, if_pos (by omega)]
      · rw [if_neg e2, if_neg (by omega)]
theorem w62_2 {u : Nat} {S : Sg} {k : Nat} : ∀ n, (w62 u S n).1 2 k = if 40 * u ≤ k ∧ k < 40 * u + n then S.1 22 (k - 40 * u) else S.1 2 k
  | 0 => by rw [if_neg (by omega)]; rfl
  | n + 1 => by
    rw [w62, wI_1, if_pos rfl, wI_ne (.inl (by decide)), w62_2 n]
    by_cases e : k = 40 * u + n
    · rw [if_pos e, if_pos (by omega), e, show 40 * u + n - 40 * u = n by omega]
    · rw [if_neg e]
      by_cases e2 : 40 * u ≤ k ∧ k < 40 * u + n
      · rw [if_pos e2, if_pos (by omega)]
      · rw [if_neg e2, if_neg (by omega)]
theorem s_rooms : st_rooms R := by
  intro σ μ a1 h
  obtain ⟨x, hx1, hx2, rfl⟩ := arg a1
  obtain ⟨a, ⟨wg, wt, wh⟩, ⟨cg, ct, ch⟩, ⟨mg, mt, mh⟩⟩ := h.1
  have wP := wg.1
  have wT := wt.1
  have e34 : sb 0 = 34 := rfl
  have e47 : sb 1 = 47 := rfl
  unfold F_X8_rooms F_X9_rooms
  rw [f8_isRow ⟨hx1, hx2⟩, f9_isRow ⟨hx1, hx2⟩, bd_some, bd_some, cg.1, mg.1, if_eq0 (by omega) (by omega), if_eq0 (by omega) (by omega)]
  cases e : inZ 0 5 x
  · exact ⟨-1, σ, μ, rfl, rfl, h⟩
  obtain ⟨u, rfl, hu'⟩ := inZ_n e
  have hu : u < 6 := by omega
  rw [t0, t0]
  by_cases q : (aP a : Int) = 0
  · rw [if_pos q, if_pos q]
    exact ⟨-4, σ, μ, rfl, rfl, h⟩
  rw [if_neg q, if_neg q]
  have hP0 : 0 < aP a := by omega
  -- the list of all orders
  have hch := ch_all (aP a) (by omega)
  have hmem := fun l hl => lvB_m (P := aP a) (aP a) (fun _ => true) l hl
  -- this side
  obtain ⟨b1, b2, b3⟩ := C_bec (S := σ) (i := 1) (j := 0) (by decide) wg wt wh ⟨cg, ct, ch⟩
  have sS : smS σ (bec 1 0 σ) := ⟨bec_sm (by decide), bec_sm (by decide), bec_sm (by decide)⟩
  let S0 := wI (bec 1 0 σ) 9 2 (-9)
  have s0 : ∀ lo hi, 9 < lo ∨ hi ≤ 9 → sm lo hi (bec 1 0 σ) S0 := fun lo hi q => sm_wI q
  have cg0 : CG 0 S0 a := CG_sm (s0 _ _ (by decide)) (CG_sm (sm_in sS.2.1 (by decide) (by decide)) cg)
  have hI : cI a σ 0 [] (-9) [] (aR a) S0 := ⟨⟨cg0, CG_sm (s0 _ _ (by decide)) (CG_a (a := a) rfl rfl (fun _ => rfl) (fun _ => rfl) (fun _ => rfl) b1), CT_sm (s0 _ _ (by decide)) b2, smS_tr sS ⟨s0 _ _ (by decide), s0 _ _ (by decide), s0 _ _ (by decide)⟩, ((s0 49 50 (by decide) 49 (by decide) (by decide) 0).1).trans (b1.2.2.2.1 0 (Nat.zero_le _))⟩, fun x => wg.2.2.2.2.2 x, fun x hx => absurd hx (Nat.not_lt_zero _), wI_eq, fun hb => absurd hb (by decide), fun x hx => absurd hx (Nat.not_lt_zero _), .inl rfl, by decide⟩
  have eS : stS a (aR a) 0 = ((1 : Int32) <<< (zI (aT a) &&& 31)) - 1 := by
    refine tb_ext fun j hj => ?_
    unfold stS
    rw [tb_orU _ (by omega) j hj, tb_all (by omega)]
    unfold cnd
    rw [if_neg (Nat.not_lt_zero _), Bool.and_true]
  obtain ⟨S', ρ', k1, ⟨⟨d0, d1, dt1, dss, drd⟩, g1, g2, g3, g4, g5, g6, g7⟩⟩ := f0_place wg wt (σ := σ) (aP a) 0 (by omega) 9 (by omega) [] (fun _ => true) (((1 : Int32) <<< (zI (aP a) &&& 31)) - 1) (-9) [] (aR a) S0 rfl (fun x hx => by rw [tb_all (by omega), decide_eq_true hx]) hI
  rw [eS] at k1
  have emap : ((lvB (aP a) (aP a) (fun _ => true)).map (fun s => [] ++ s)) = lvB (aP a) (aP a) (fun _ => true) := by
    rw [show (fun s : List Nat => [] ++ s) = id from rfl, List.map_id]
  rw [emap] at g3 g4 g6 g7
  -- the other side
  let T0 := w23 μ (aP a)
  have t0o : ∀ c k, c ≠ 21 → c ≠ 23 → T0.1 c k = μ.1 c k := fun c k q1 q2 => w23_o q1 q2 _
  have m1 : T_X9_rooms_21 (zI u) FU 0 μ = some T0 := by
    refine loopE (fun n x => T_X9_rooms_21 (zI u) n (zI x) (w23 μ x)) (aP a) (some T0) (by omega) (fun n => ?_) (fun n x hx => ?_)
    · simp only [T_X9_rooms_21]
      rw [w23_o (by decide) (by decide), mg.1, if_le_t (Nat.le_refl _) (by omega)]
    · have cx : ∀ {α : Type} (K : Option α), chk (inB (zI (x : Int)) 7) K = K := fun K => chk_N (by omega) (by omega)
      simp only [T_X9_rooms_21, cx, nm]
      rw [w23_o (by decide) (by decide), mg.1, if_le_f hx (by omega), z_tnN (by omega), wI_ne (c := 6) (.inl (by decide)), w23_o (by decide) (by decide), zS, w23]
  have hhd := hd_all (aP a) (by omega)
  have hln := ln_all (aP a) (by omega)
  generalize lvB (aP a) (aP a) (fun _ => true) = LL at hch hmem g3 g4 g6 g7 hhd hln
  cases LL with
  | nil => cases hhd
  | cons l0 t =>
  have el0 : l0 = List.range (aP a) := by
    have : some l0 = some (List.range (aP a)) := hhd
    cases this; rfl
  have hI9 : rI a μ l0 T0 := ⟨fun j hj => by
    rw [el0, List.length_range] at hj
    rw [el0, (w23_e (aP a) hj).1, List.getD_eq_getElem?_getD, List.getElem?_range hj]; rfl, fun j hj => by rw [(w23_e (aP a) hj).2, mg.2.2.2.2 j hj], fun c n q1 q2 q3 q4 => t0o c n q2 q4, fun n _ => t0o _ _ (by decide) (by decide)⟩
  have hFU : FU = 20000 := rfl
  obtain ⟨S12, l', m2, ⟨n1, n2, n3, n4⟩, n5⟩ := f9_rl wg wt mg mt hP0 (p1 := zI u) t l0 hch hmem FU (by rw [List.length_cons] at hln; omega) (-1) [] T0 (by decide) (by decide) hI9 (fun hb => absurd hb (by decide))
  have hb0 := fold_0 (a := a) (l := l0) (t := t)
  rw [fold_neg (a := a) (b := -9) (o := []) (by decide) (l := l0) (t := t)] at g3 g4 g6 g7
  generalize (l0 :: t).foldl (stp a) (-1, []) = res at g3 g4 g6 g7 m2 n5 hb0
  obtain ⟨B, o⟩ := res
  have hb0 : 0 ≤ B := hb0
  have g3 : S'.1 9 2 = zI B := g3
  have n5 := n5 hb0
  have g4 := g4 hb0
  -- what is left
  let S22 := rw9 u (aP a) S12
  let M := w62 u S22 (aP a)
  have s22o : ∀ c k, c ≠ 1 → c ≠ 2 → S22.1 c k = S12.1 c k := fun c k q1 q2 => rw9_o q1 q2
  have m12 : S12.1 0 7 = zI (aP a) := (n3 _ _ (by decide) (by decide) (by decide) (by decide)).trans mg.1
  have m3 : T_X9_rooms_180 (zI u) (zI B) FU 0 S22 = some M := by
    refine loopE (fun n x => T_X9_rooms_180 (zI u) (zI B) n (zI x) (w62 u S22 x)) (aP a) (some M) (by omega) (fun n => ?_) (fun n x hx => ?_)
    · simp only [T_X9_rooms_180]
      rw [w62_o (by decide) (by decide), s22o _ _ (by decide) (by decide), m12, if_le_t (Nat.le_refl _) (by omega)]
    · have cx : ∀ {α : Type} (K : Option α), chk (inB (zI (x : Int)) 7) K = K := fun K => chk_N (by omega) (by omega)
      simp only [T_X9_rooms_180, cx, nm]
      rw [w62_o (by decide) (by decide), s22o _ _ (by decide) (by decide), m12, if_le_f hx (by omega), zMA (m := 40) (c := 40) rfl, chk_N (by omega) (by omega), z_tnN (by omega), z_tnN (by omega), w62_o (by decide) (by decide), wI_ne (c := 22) (.inl (by decide)), w62_o (by decide) (by decide), zS, w62]
  let Mx : Sg := (fun c n => if c = 1 ∨ c = 2 then μ.1 c n else M.1 c n, M.2)
  have mo : ∀ c n, c ≠ 1 → c ≠ 2 → c ≠ 21 → c ≠ 22 → c ≠ 23 → M.1 c n = μ.1 c n := fun c n q1 q2 q3 q4 q5 => by
    by_cases q6 : c = 6
    · subst q6
      show (w62 u S22 (aP a)).1 6 n = _
      rw [w62_6]
      by_cases e : n < aP a
      · rw [if_pos e, s22o _ _ (by decide) (by decide), n2 n e, mg.2.2.2.2 n e]
      · rw [if_neg e, s22o _ _ (by decide) (by decide), n4 n (by omega)]
    · show (w62 u S22 (aP a)).1 c n = _
      rw [w62_o q6 q2, s22o _ _ q1 q2, n3 c n q6 q3 q4 q5]
  have mx : ∀ c n, c ≠ 21 → c ≠ 22 → c ≠ 23 → Mx.1 c n = μ.1 c n := fun c n q3 q4 q5 => by
    show (if c = 1 ∨ c = 2 then μ.1 c n else M.1 c n) = _
    by_cases e : c = 1 ∨ c = 2
    · rw [if_pos e]
    · rw [if_neg e]; exact mo c n (by omega) (by omega) q3 q4 q5
  have hRx : R S' Mx := R_scr h dss ⟨fun j _ _ _ => mx _ _ (by decide) (by decide) (by decide), fun c q1 q2 n => mx _ _ (by omega) (by omega) (by omega), fun c q1 q2 n => mx _ _ (by omega) (by omega) (by omega)⟩ drd
  rw [f6_bec (by decide), bd_some, F_X0_search, nm, show F_X6_everyone 0 (wI (bec 1 0 σ) 9 2 (-9)) = _ from f6_all cg0, bd_some, show F_X6_everyTalk 0 (wI (bec 1 0 σ) 9 2 (-9)) = _ from f6_allT (CT_sm (s0 _ _ (by decide)) (CT_sm (sm_in sS.2.1 (by decide) (by decide)) ct)), bd_some, show F_X0_place 0 1 9 (wI (bec 1 0 σ) 9 2 (-9)) 0 (((1 : Int32) <<< (zI (aP a) &&& 31)) - 1) (((1 : Int32) <<< (zI (aT a) &&& 31)) - 1) = _ from k1, bd_some, bd_some, chk_N (by omega) (by omega), z_tnN (by omega), d0.1, F_X4_fill, f4_begin, bd_some, show (0 : Int32) = zI ((0 : Nat) : Int) from rfl, cpB_N (by omega) (by omega) (by decide) (by decide), z_tnN (by omega), z_tnN (by omega), nm, bd_some]
  show ∃ r σ1 μ1, _ ∧ (bd (T_X9_rooms_21 (zI u) FU 0 μ) _ = _) ∧ _
  rw [m1, bd_some]
  show ∃ r σ1 μ1, _ ∧ (bd (T_X9_rooms_58 (zI u) FU (zI (-1)) 1 T0) _ = _) ∧ _
  rw [m2, bd_some]
  show ∃ r σ1 μ1, _ ∧ (bd (F_X9_row S12 (zI u) (S12.1 0 7)) _ = _) ∧ _
  rw [m12, f9_row hu (by omega), bd_some]
  show ∃ r σ1 μ1, _ ∧ (bd (T_X9_rooms_180 (zI u) (zI B) FU 0 S22) _ = _) ∧ _
  rw [m3, bd_some]
  have e9 : (cpI (rw8 u (aP a) S') 11 0 (14 + 2 * u + 1) 0 (aP a)).1 9 2 = zI B := by
    rw [cpI_n (by omega), (rw8_sm (lo := 9) (hi := 10) (by omega) 9 (by decide) (by decide) 2).1]; exact g3
  refine ⟨zI B, cpI (rw8 u (aP a) S') 11 0 (14 + 2 * u + 1) 0 (aP a), M, by rw [e9], rfl, R_rows hRx (sm_tr (rw8_sm (by omega)) (cpI_sm (by omega))) (sm_tr (rw8_sm (by omega)) (cpI_sm (by omega))) (fun c n q1 q2 _ => ?_) (fun r hr => ?_)⟩
  · show M.1 c n = (if c = 1 ∨ c = 2 then μ.1 c n else M.1 c n)
    rw [if_neg (by omega)]
  · have s12 : ∀ c n, c = 1 ∨ c = 2 → S12.1 c n = μ.1 c n := fun c n q => n3 c n (by omega) (by omega) (by omega) (by omega)
    have hrr : RR S' S12 := RR_cg hRx.2.2.1 (sm_rfl _ _ _) (fun n => by rw [s12 1 n (.inl rfl)]; exact (mx 1 n (by decide) (by decide) (by decide)).symm) (fun n => by rw [s12 2 n (.inr rfl)]; exact (mx 2 n (by decide) (by decide) (by decide)).symm)
    obtain ⟨⟨z, z1, z2, z3, z4⟩, h2⟩ := (RR_row hrr hu (n := aP a) (by omega)) r hr
    refine ⟨⟨z, z1, z2, ?_, ?_⟩, fun j hj => ?_⟩
    · rw [cpI_n (by omega)]; exact z3
    · exact (w62_o (by decide) (by decide) _).trans z4
    · show _ = (w62 u S22 (aP a)).1 2 (40 * r + j)
      rw [w62_2]
      by_cases q : r = u ∧ j < aP a
      · rw [q.1, cpI_e q.2, if_pos (by omega), s22o _ _ (by decide) (by decide), show 40 * u + j - 40 * u = j by omega, (rw8_sm (u := u) (n := aP a) (lo := 11) (hi := 12) (by omega) 11 (by decide) (by decide) j).1]
        have l1 : o.length = aP a := n5.1
        rw [g4.2 j (by show j < o.length; omega), n5.2 j (by show j < o.length; omega)]
      · rw [cpI_n (by omega), if_neg (by omega)]
        exact h2 j hj
