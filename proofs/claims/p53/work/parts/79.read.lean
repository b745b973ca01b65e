/-! ===== the street read out of its text ===== -/
def ps (W : Nat) (β : Nat → Nat) : Nat → Nat
  | 0 => 1 + W
  | n + 1 => ps W β n + β n + 2
def ltr (k : Nat) : Int := if k = 0 then 111 else if k = 1 then 108 else if k = 2 then 119 else if k = 3 then 100 else if k = 4 then 115 else 105
def txt (W P : Nat) (d κ r β : Nat → Nat) (b : Nat → Int) : Prop := b 0 = 112 ∧ (∀ i, i < W → b (1 + i) = 48 + d i) ∧ ∀ x, x < P → (β x = 1 → b (ps W β x) = 32) ∧ b (ps W β x + β x) = ltr (κ x) ∧ b (ps W β x + β x + 1) = 48 + r x
def bnd (W P : Nat) (d κ r β : Nat → Nat) : Prop := (1 ≤ W ∧ W ≤ 6) ∧ (1 ≤ P ∧ P ≤ 7) ∧ (∀ i, d i ≤ 9) ∧ (∀ x, κ x < 6) ∧ (∀ x, r x ≤ W) ∧ ∀ x, β x ≤ 1
theorem ps_le {W : Nat} {β : Nat → Nat} (hβ : ∀ x, β x ≤ 1) : ∀ n, ps W β n ≤ 1 + W + 3 * n
  | 0 => Nat.le_refl _
  | n + 1 => by
    have := ps_le (W := W) hβ n
    have := hβ n
    rw [ps]; omega
theorem ps_up {W : Nat} {β : Nat → Nat} {m : Nat} : ∀ n, m ≤ n → ps W β m ≤ ps W β n
  | 0, h => by rw [Nat.le_zero.mp h]; exact Nat.le_refl _
  | n + 1, h => by
    rcases Nat.lt_or_ge m (n + 1) with q | q
    · have := ps_up (W := W) (β := β) n (Nat.le_of_lt_succ q)
      rw [ps]; omega
    · rw [show m = n + 1 by omega]; exact Nat.le_refl _
theorem ps_ge {W : Nat} {β : Nat → Nat} : ∀ n, 1 + W + 2 * n ≤ ps W β n
  | 0 => Nat.le_refl _
  | n + 1 => by have := ps_ge (W := W) (β := β) n; rw [ps]; omega
theorem ltr_b (k : Nat) : 100 ≤ ltr k ∧ ltr k ≤ 119 := by unfold ltr; repeat' split <;> try omega
theorem ltr_k : ∀ k, k < 6 → knd (ltr k) = k := by decide
section RD
variable {W P : Nat} {d κ r β : Nat → Nat} {b : Nat → Int}
theorem bl_ps (ht : txt W P d κ r β b) (hb : bnd W P d κ r β) {x : Nat} (hx : x ≤ P) : bl (ps W β P) b 80 (ps W β x) = ps W β x + if x < P then β x else 0 := by
  rw [bl]
  by_cases h : x < P
  · have h1 := ps_up (W := W) (β := β) (m := x + 1) P (by omega)
    rw [ps] at h1
    have hl := ltr_b (κ x)
    have hβ := hb.2.2.2.2.2 x
    obtain ⟨t1, t2, t3⟩ := ht.2.2 x h
    rw [if_pos h]
    by_cases q : β x = 1
    · rw [if_pos ⟨by omega, t1 q⟩, q, bl, if_neg]
      rintro ⟨-, e⟩
      rw [q] at t2
      omega
    · have q0 : β x = 0 := by omega
      rw [q0, Nat.add_zero] at t2
      rw [if_neg, q0, Nat.add_zero]
      rintro ⟨-, e⟩
      omega
  · have e : x = P := by omega
    rw [e, if_neg (fun q => Nat.lt_irrefl _ q.1), if_neg (Nat.lt_irrefl _), Nat.add_zero]
theorem rdw {σ : Sg} (hby : byB b) (ht : txt W P d κ r β b) (hb : bnd W P d κ r β) (tI : txI 0 (ps W β P) b σ) : ∀ (e w : Nat), w + e = W → ∀ f, e < f → ∀ S : Sg, fS σ S → S.1 47 8 = zI w → S.1 47 9 = 0 → (∀ j, j < w → S.1 48 j = zI (d j)) →
    ∃ S', T_X6_readFrom_43 1 0 f (zI ((1 + w : Nat) : Int)) S = some (zI ((1 + W : Nat) : Int), S') ∧ fS σ S' ∧ S'.1 47 8 = zI W ∧ S'.1 47 9 = 0 ∧ ∀ j, j < W → S'.1 48 j = zI (d j) := by
  obtain ⟨⟨bW, bW2⟩, ⟨bP, bP2⟩, bd9, bκ, br, bβ⟩ := hb
  have hL := ps_le (W := W) bβ P
  have hL2 := ps_ge (W := W) (β := β) P
  intro e
  induction e with
  | zero =>
    intro w hw f hf S hS h8 h9 hd
    obtain ⟨f, rfl⟩ : ∃ x, f = x + 1 := ⟨f - 1, by omega⟩
    have ew : w = W := by omega
    subst ew
    have tS := fS_tx (by decide) hS tI
    refine ⟨S, ?_, hS, h8, h9, hd⟩
    simp only [T_X6_readFrom_43]
    rw [show S.1 (sb 1) 8 = zI w from h8, show (6 : Int32) = zI ((6 : Nat) : Int) from rfl]
    by_cases q : 6 ≤ w
    · rw [if_le_t q (by omega)]
    · have e0 : sg (ps w β P) b (1 + w) = b (1 + w) := if_pos (by omega)
      have hl := ltr_b (κ 0)
      have t := ht.2.2 0 (by omega)
      have hx : b (1 + w) < 48 ∨ 57 < b (1 + w) := by
        rcases Nat.lt_or_ge 0 (β 0) with c | c
        · have := t.1 (by have := bβ 0; omega)
          rw [ps] at this
          omega
        · have c0 : β 0 = 0 := by omega
          have := t.2.1
          rw [ps, c0, Nat.add_zero] at this
          omega
      rw [if_le_f (by omega) (by omega), f7_fig hby tS (by omega) (by omega), bd_some, e0, inZ_no hx, f0]
  | succ e ih =>
    intro w hw f hf S hS h8 h9 hd
    obtain ⟨f, rfl⟩ : ∃ x, f = x + 1 := ⟨f - 1, by omega⟩
    have tS := fS_tx (by decide) hS tI
    have e0 : sg (ps W β P) b (1 + w) = 48 + d w := by
      rw [← ht.2.1 w (by omega)]
      exact if_pos (by omega)
    have hdw := bd9 w
    have h8' : S.1 (sb 1) 8 = zI w := h8
    simp only [T_X6_readFrom_43, nm]
    rw [h8', show (6 : Int32) = zI ((6 : Nat) : Int) from rfl, if_le_f (by omega) (by omega), f7_fig hby tS (by omega) (by omega), bd_some, e0, inZ_y (by omega), t0, f7_sign tS (by omega) (by omega), bd_some, e0, chk_N (by omega) (by omega), z_tnN (by omega), show (48 : Int32) = zI 48 from rfl, z_sub, show (48 + (d w : Int) - 48) = d w by omega, zSu]
    have e8 : (wI S (sb 1 + 1) w (zI (d w))).1 (sb 1) 8 = zI w := (wI_ne (.inl (by decide))).trans h8
    rw [e8, zSu]
    have g1 : fS σ (wI (wI S (sb 1 + 1) w (zI (d w))) (sb 1) 8 (zI ((w + 1 : Nat) : Int))) := fS_wI (fS_wI hS (by show 47 ≤ 48 ∧ 48 < 60; decide) ⟨.inl (by decide), by decide, .inl (by decide)⟩) (by show 47 ≤ 47 ∧ 47 < 60; decide) ⟨.inr (by decide), by decide, .inl (by decide)⟩
    have := ih (w + 1) (by omega) f (by omega) _ g1 wI_eq ((wI_ne (.inr (by decide))).trans ((wI_ne (.inl (by decide))).trans h9)) (fun j hj => by
      rw [wI_ne (.inl (by decide))]
      by_cases q : j = w
      · rw [q]; exact wI_eq
      · rw [wI_ne (.inr q)]; exact hd j (by omega))
    rw [show (1 + (w + 1) : Nat) = 1 + w + 1 by omega] at this
    exact this
theorem rdp {σ : Sg} (hby : byB b) (ht : txt W P d κ r β b) (hb : bnd W P d κ r β) (tI : txI 0 (ps W β P) b σ) : ∀ (e k : Nat), k + e = P → ∀ f, e < f → ∀ S : Sg, fS σ S → S.1 47 8 = zI W → S.1 47 9 = zI k → (∀ x, x < k → S.1 50 x = zI (κ x) ∧ S.1 51 x = zI (r x)) →
    ∃ S', T_X6_readPeople_6 1 0 f (zI ((ps W β k + (if k < P then β k else 0) : Nat) : Int)) S = some (.inl (zI ((ps W β P : Nat) : Int), S')) ∧ fS σ S' ∧ S'.1 47 8 = zI W ∧ S'.1 47 9 = zI P ∧ (∀ x, x < P → S'.1 50 x = zI (κ x) ∧ S'.1 51 x = zI (r x)) ∧ (∀ n, S'.1 48 n = S.1 48 n) ∧ ∀ n, S'.1 49 n = S.1 49 n := by
  have hb' := hb
  obtain ⟨⟨bW, bW2⟩, ⟨bP, bP2⟩, bd9, bκ, br, bβ⟩ := hb'
  have hL := ps_le (W := W) bβ P
  intro e
  induction e with
  | zero =>
    intro k hk f hf S hS h8 h9 hp
    obtain ⟨f, rfl⟩ : ∃ x, f = x + 1 := ⟨f - 1, by omega⟩
    have ek : k = P := by omega
    subst ek
    have tS := fS_tx (by decide) hS tI
    refine ⟨S, ?_, hS, h8, h9, hp, fun _ => rfl, fun _ => rfl⟩
    have e0 : ps W β k + (if k < k then β k else 0) = ps W β k := by rw [if_neg (Nat.lt_irrefl _)]; rfl
    simp only [T_X6_readPeople_6]
    rw [e0, tS.1, if_le_t (Nat.le_refl _) (by omega)]
  | succ e ih =>
    intro k hk f hf S hS h8 h9 hp
    obtain ⟨f, rfl⟩ : ∃ x, f = x + 1 := ⟨f - 1, by omega⟩
    have hkP : k < P := by omega
    have h1 := ps_up (W := W) (β := β) (m := k + 1) P (by omega)
    rw [ps] at h1
    have tS := fS_tx (by decide) hS tI
    obtain ⟨t1, t2, t3⟩ := ht.2.2 k hkP
    have hl := ltr_b (κ k)
    have hκ := bκ k
    have hr := br k
    have hβ := bβ k
    have e1 : sg (ps W β P) b (ps W β k + β k) = ltr (κ k) := by rw [← t2]; exact if_pos (by omega)
    have e2 : sg (ps W β P) b (ps W β k + β k + 1) = 48 + r k := by rw [← t3]; exact if_pos (by omega)
    have h9' : S.1 (sb 1) 9 = zI k := h9
    have h8' : S.1 (sb 1) 8 = zI W := h8
    have hk6 : ¬ zI ((κ k : Nat) : Int) = -9 := ne9 (by omega)
    have e47 : sb 1 = 47 := rfl
    simp only [T_X6_readPeople_6, nm]
    rw [if_pos hkP, tS.1, if_le_f (by omega) (by omega), h9', show (7 : Int32) = zI ((7 : Nat) : Int) from rfl, if_le_f (by omega) (by omega), f7_sign tS (by omega) (by omega), bd_some, e1, f2_byL (by omega) (by omega), ltr_k _ hκ, if_neg (by omega), bd_some, if_neg hk6, zSu, f7_sign tS (by omega) (by omega), bd_some, e2, show (48 : Int32) = zI 48 from rfl, z_sub, show (48 + (r k : Int) - 48) = r k by omega, if_lt0 (by omega) (by omega), if_neg (by omega), h8', if_le_t hr (by omega), chk_N (by omega) (by omega), z_tnN (by omega)]
    have g9 : (wI S (sb 1 + 3) k (zI (κ k))).1 (sb 1) 9 = zI k := (wI_ne (.inl (by decide))).trans h9
    rw [g9, chk_N (by omega) (by omega), z_tnN (by omega)]
    have g9' : (wI (wI S (sb 1 + 3) k (zI (κ k))) (sb 1 + 4) k (zI (r k))).1 (sb 1) 9 = zI k := (wI_ne (.inl (by decide))).trans g9
    rw [g9', zSu]
    have g1 : fS σ (wI (wI (wI S (sb 1 + 3) k (zI (κ k))) (sb 1 + 4) k (zI (r k))) (sb 1) 9 (zI ((k + 1 : Nat) : Int))) := fS_wI (fS_wI (fS_wI hS (by show 47 ≤ 50 ∧ 50 < 60; decide) ⟨.inl (by decide), by decide, .inl (by decide)⟩) (by show 47 ≤ 51 ∧ 51 < 60; decide) ⟨.inl (by decide), by decide, .inl (by decide)⟩) (by show 47 ≤ 47 ∧ 47 < 60; decide) ⟨.inr (by decide), by decide, .inl (by decide)⟩
    have o : ∀ c n, c ≠ 50 → c ≠ 51 → (c ≠ 47 ∨ n ≠ 9) → (wI (wI (wI S (sb 1 + 3) k (zI (κ k))) (sb 1 + 4) k (zI (r k))) (sb 1) 9 (zI ((k + 1 : Nat) : Int))).1 c n = S.1 c n := fun c n q1 q2 q3 => by rw [wI_ne (by omega), wI_ne (by omega), wI_ne (by omega)]
    have tS1 := fS_tx (by decide) g1 tI
    rw [show zI ((ps W β k + β k : Nat) : Int) + 2 = zI ((ps W β (k + 1) : Nat) : Int) by rw [zN2, z_add, ps]; exact congrArg zI (by push_cast; rfl), f7_blanks hby tS1 (by omega) (by rw [ps]; omega), bd_some, bl_ps ht hb (by omega)]
    obtain ⟨S', j1, j2, j3, j4, j5, j6, j7⟩ := ih (k + 1) (by omega) f (by omega) _ g1 ((o _ _ (by decide) (by decide) (.inr (by decide))).trans h8) wI_eq (fun x hx => by
      rw [wI_ne (.inl (by decide)), wI_ne (k := sb 1) (.inl (by decide))]
      by_cases q : x = k
      · rw [q]
        refine ⟨?_, wI_eq⟩
        rw [wI_ne (.inl (by decide))]
        exact wI_eq
      · rw [wI_ne (.inl (by decide)), wI_ne (.inr q), wI_ne (.inr q), wI_ne (.inl (by decide))]
        exact hp x (by omega))
    exact ⟨S', j1, j2, j3, j4, j5, fun n => (j6 n).trans (o _ _ (by decide) (by decide) (.inl (by decide))), fun n => (j7 n).trans (o _ _ (by decide) (by decide) (.inl (by decide)))⟩
theorem rd_all {σ : Sg} (hD : σ.1 49 0 = 0) (hby : byB b) (ht : txt W P d κ r β b) (hb : bnd W P d κ r β) (tI : txI 0 (ps W β P) b σ) : ∃ S', F_X6_readFrom 1 0 σ = some (-9, S') ∧ fS σ S' ∧ CG 1 S' (newA P W d κ r) ∧ CT 1 S' (newA P W d κ r) ∧ CH 1 S' (newA P W d κ r) := by
  have hb' := hb
  obtain ⟨⟨bW, bW2⟩, ⟨bP, bP2⟩, bd9, bκ, br, bβ⟩ := hb'
  have hL := ps_le (W := W) bβ P
  have hL2 := ps_ge (W := W) (β := β) P
  let S5 := wI (wL (wI (wI (wI σ 47 8 0) 47 9 0) 47 10 0) 55 4 0) 55 5 0
  have s5 : ∀ lo hi, 55 < lo ∨ hi ≤ 47 → sm lo hi σ S5 := fun lo hi q => sm_tr (sm_tr (sm_tr (sm_tr (sm_wI (by omega)) (sm_wI (by omega))) (sm_wI (by omega))) (sm_wL (by omega))) (sm_wI (by omega))
  have b5 : B1 S5 := by
    refine ⟨?_, wI_eq, ?_, ?_⟩
    · show (wI (wL (wI (wI (wI σ 47 8 0) 47 9 0) 47 10 0) 55 4 0) 55 5 0).1 47 10 = 0
      rw [wI_ne (.inl (by decide)), wL_1, wI_eq]
    · show (wI (wL (wI (wI (wI σ 47 8 0) 47 9 0) 47 10 0) 55 4 0) 55 5 0).2 55 4 = 0
      rw [wI_2, wL_2, if_pos rfl, if_pos rfl]
    · show (wI (wL (wI (wI (wI σ 47 8 0) 47 9 0) 47 10 0) 55 4 0) 55 5 0).1 49 0 = 0
      rw [wI_ne (.inl (by decide)), wL_1, wI_ne (.inl (by decide)), wI_ne (.inl (by decide)), wI_ne (.inl (by decide))]
      exact hD
  have hS5 : fS σ S5 := ⟨s5 _ _ (by decide), s5 _ _ (by decide), b5⟩
  have p8 : S5.1 47 8 = zI ((0 : Nat) : Int) := by
    show (wI (wL (wI (wI (wI σ 47 8 0) 47 9 0) 47 10 0) 55 4 0) 55 5 0).1 47 8 = 0
    rw [wI_ne (.inl (by decide)), wL_1, wI_ne (.inr (by decide)), wI_ne (.inr (by decide)), wI_eq]
  have p9 : S5.1 47 9 = zI ((0 : Nat) : Int) := by
    show (wI (wL (wI (wI (wI σ 47 8 0) 47 9 0) 47 10 0) 55 4 0) 55 5 0).1 47 9 = 0
    rw [wI_ne (.inl (by decide)), wL_1, wI_ne (.inr (by decide)), wI_eq]
  have tS5 := fS_tx (by decide) hS5 tI
  have k0 : F_X7_pastBlanks 0 S5 (zI ((0 : Nat) : Int)) = some (zI ((0 : Nat) : Int)) := by
    rw [f7_blanks hby tS5 (by omega) (p := 0) (by decide), bl, if_neg]
    rintro ⟨-, e⟩
    rw [ht.1] at e
    exact absurd e (by decide)
  have k1 : F_X7_sign 0 S5 (zI ((0 : Nat) : Int)) = some (zI 112) := by
    rw [f7_sign tS5 (by omega) (by omega), sg, if_pos (by omega), ht.1]
  obtain ⟨S6, w1, w2, w3, w4, w5⟩ := rdw hby ht hb tI W 0 (by omega) FU (by unfold FU; omega) S5 hS5 p8 p9 (fun j hj => absurd hj (Nat.not_lt_zero _))
  have hm := f6_measure (i := 1) (W := W) (S := S6) (L := d) (D := Dn d) bW2 w3 w5 w2.2.2.2.2.2 (fun _ => rfl)
  have m47 : ∀ c n, c ≠ 49 ∨ n = 0 → (msr 1 (Dn d) S6 W).1 c n = S6.1 c n := fun c n q => msr_o (by show c ≠ 49 ∨ n = 0; exact q) _
  have msm : ∀ lo hi, 49 < lo ∨ hi ≤ 49 → sm lo hi S6 (msr 1 (Dn d) S6 W) := fun lo hi q => msr_sm (by show 49 < lo ∨ hi ≤ 49; exact q) _
  have hS7 : fS σ (msr 1 (Dn d) S6 W) := ⟨sm_tr w2.1 (msm _ _ (by decide)), sm_tr w2.2.1 (msm _ _ (by decide)), (m47 47 10 (.inl (by decide))).trans w2.2.2.1, (m47 55 5 (.inl (by decide))).trans w2.2.2.2.1, by rw [(msm 50 60 (by decide) 55 (by decide) (by decide) 4).2]; exact w2.2.2.2.2.1, (m47 49 0 (.inr rfl)).trans w2.2.2.2.2.2⟩
  have tS7 := fS_tx (by decide) hS7 tI
  obtain ⟨S8, q1, q2, q3, q4, q5, q6, q7⟩ := rdp hby ht hb tI P 0 (by omega) FU (by unfold FU; omega) (msr 1 (Dn d) S6 W) hS7 ((m47 47 8 (.inl (by decide))).trans w3) ((m47 47 9 (.inl (by decide))).trans w4) (fun x hx => absurd hx (Nat.not_lt_zero _))
  have tS8 := fS_tx (by decide) q2 tI
  have hW0 : ¬ (msr 1 (Dn d) S6 W).1 (sb 1) 8 = 0 := by
    rw [show (msr 1 (Dn d) S6 W).1 (sb 1) 8 = zI W from (m47 47 8 (.inl (by decide))).trans w3]
    exact z_ne0 (by omega) (by omega)
  refine ⟨S8, ?_, q2, ?_, ?_, ?_⟩
  · unfold F_X6_readFrom F_X1_begin
    simp only [nm]
    show bd (some S5) (fun S5 => bd (F_X7_pastBlanks 0 S5 (zI ((0 : Nat) : Int))) (fun x7 => bd (F_X7_sign 0 S5 x7) (fun x9 => if x9 = (112 : Int32) then (bd (T_X6_readFrom_43 1 0 FU (x7 + (1 : Int32)) S5) (fun (x10, S11) => bd (F_X6_measure 1 S11) (fun S23 => if (S23.1 (sb 1) 8) = 0 then (some (x10, S23)) else (bd (F_X6_readPeople 1 0 S23 x10) (fun (x25, S26) => some (x25, S26)))))) else (some (x7, S5))))) = _
    rw [bd_some, k0, bd_some, k1, bd_some, if_pos (show zI 112 = (112 : Int32) from rfl), zSu, show T_X6_readFrom_43 1 0 FU (zI ((0 + 1 : Nat) : Int)) S5 = _ from w1, bd_some]
    dsimp only
    rw [hm, bd_some, if_neg hW0, F_X6_readPeople, show (1 + W : Nat) = ps W β 0 from rfl, f7_blanks hby tS7 (by omega) (by rw [ps]; omega), bd_some, bl_ps ht hb (Nat.zero_le _), q1, bd_some]
    dsimp only
    rw [tS8.1, if_le_t (Nat.le_refl _) (by omega), bd_some]
  · refine ⟨q4, q3, fun j hj => ?_, fun m hm' => ?_, fun x hx => (q5 x hx).1, fun x hx => (q5 x hx).2⟩
    · exact (q6 j).trans ((m47 48 j (.inl (by decide))).trans (w5 j hj))
    · rw [newA_D]
      exact (q7 m).trans (msr_d (i := 1) w2.2.2.2.2.2 W m hm')
  · exact ⟨q2.2.2.1, fun k hk => absurd hk (Nat.not_lt_zero _), fun k hk => absurd hk (Nat.not_lt_zero _), fun k hk => absurd hk (Nat.not_lt_zero _)⟩
  · refine ⟨q2.2.2.2.1, fun k hk => absurd hk (Nat.not_lt_zero _), fun k hk => absurd hk (Nat.not_lt_zero _), fun k hk => absurd hk (Nat.not_lt_zero _), fun k hk => absurd hk (Nat.not_lt_zero _), ?_⟩
    rw [show S8.2 (sb 1 + 8) 4 = 0 from q2.2.2.2.2.1]
    exact pk_0
theorem newA_w (hb : bnd W P d κ r β) : wf (newA P W d κ r) := by
  obtain ⟨⟨bW, bW2⟩, ⟨bP, bP2⟩, bd9, bκ, br, bβ⟩ := hb
  refine ⟨⟨bP2, bW2, fun _ => bW, fun j => Nat.le_trans (bd9 j) (by decide), bκ, br⟩, ⟨Nat.zero_le _, fun k hk => absurd hk (Nat.not_lt_zero _)⟩, ⟨Nat.zero_le _, fun h hh => absurd hh (Nat.not_lt_zero _), fun t => sub_0 _, fun j => Nat.le_trans (bd9 j) (by decide)⟩⟩
theorem m_fault {σ : Sg} (hD : σ.1 49 0 = 0) (hby : byB b) (ht : txt W P d κ r β b) (hb : bnd W P d κ r β) (tI : txI 0 (ps W β P) b σ) : ∃ S', F_X8_fault σ 0 = some (-9, S') ∧ fS σ S' := by
  have hL := ps_le (W := W) hb.2.2.2.2.2 P
  have hP := hb.2.1.2
  have hW := hb.1.2
  obtain ⟨S', k1, k2, -⟩ := rd_all hD hby ht hb tI
  refine ⟨S', ?_, k2⟩
  unfold F_X8_fault
  rw [show (0 : Int32) = zI ((0 : Nat) : Int) from rfl, f8_isText ⟨by omega, by omega⟩, bd_some, inZ_y (by omega), ← zN0, t0, zN0, chk_N (by omega) (by omega), z_tnN (by omega), f7_miss tI.1 (by omega) (by omega), bd_some, decide_eq_false (by omega), if_pos (show bI false = zI ((0 : Nat) : Int) from rfl), chk_N (by omega) (by omega), k1, bd_some]
theorem m_street {σ : Sg} (hD : σ.1 49 0 = 0) (hby : byB b) (ht : txt W P d κ r β b) (hb : bnd W P d κ r β) (tI : txI 0 (ps W β P) b σ) : ∃ S', F_X8_street σ 0 = some (zI P, S') ∧ Nw (newA P W d κ r) S' ∧ sm 99 105 σ S' := by
  have hL := ps_le (W := W) hb.2.2.2.2.2 P
  have hP := hb.2.1.2
  have hW := hb.1.2
  obtain ⟨S1, k1, k2, c1, c2, c3⟩ := rd_all hD hby ht hb tI
  have w := newA_w hb
  have n2 := C_bec (S := S1) (i := 0) (j := 1) (by decide) w.1 w.2.1 w.2.2 ⟨c1, c2, c3⟩
  have s2 : ∀ lo hi, 47 ≤ lo → sm lo hi S1 (bec 0 1 S1) := fun lo hi q => bec_sm (.inl q)
  have lp : ∃ S3, T_X8_street_61 FU 0 (bec 0 1 S1) = some S3 ∧ sm 5 105 (bec 0 1 S1) S3 := by
    have e0 : ∀ x : Int32, vp_nar .boolean (0 : Int32) = 0 := fun _ => by rw [nar_b]; decide
    refine ⟨wr 4 0 (fun _ => 0) (bec 0 1 S1) 3, ?_, wr_sm (by decide) _⟩
    refine loopE (fun n x => T_X8_street_61 n (zI x) (wr 4 0 (fun _ => 0) (bec 0 1 S1) x)) 3 _ (by decide) (fun n => ?_) (fun n x hx => ?_)
    · simp only [T_X8_street_61]
      rw [show (3 : Int32) = zI ((3 : Nat) : Int) from rfl, if_le_t (by omega) (by omega)]
    · simp only [T_X8_street_61]
      rw [show (3 : Int32) = zI ((3 : Nat) : Int) from rfl, if_le_f hx (by omega), chk_N (by omega) (by omega), z_tnN (by omega), nm, zSu, wr, Nat.zero_add, e0 0]
  obtain ⟨S3, k3, s3⟩ := lp
  have n3 : Nw (newA P W d κ r) S3 := Nw_s n2 (sm_in s3 (by decide) (by decide))
  refine ⟨S3, ?_, n3, sm_tr (sm_tr (sm_in k2.2.1 (by decide) (by decide)) (s2 _ _ (by decide))) (sm_in s3 (by decide) (by decide))⟩
  unfold F_X8_street
  rw [show (0 : Int32) = zI ((0 : Nat) : Int) from rfl, f8_isText ⟨by omega, by omega⟩, bd_some, inZ_y (by omega), ← zN0, t0, zN0, chk_N (by omega) (by omega), z_tnN (by omega), f7_miss tI.1 (by omega) (by omega), bd_some, decide_eq_false (by omega), if_pos (show bI false = zI ((0 : Nat) : Int) from rfl), chk_N (by omega) (by omega), k1, bd_some]
  dsimp only
  rw [if_pos rfl, f6_become (by decide), bd_some, show T_X8_street_61 FU (zI ((0 : Nat) : Int)) (be2 0 1 (be1 0 1 S1)) = _ from k3, bd_some]
  show some (S3.1 (sb 0) 9, S3) = _
  rw [n3.1.1]
  rfl
end RD
