/-! ===== layers torn off ===== -/
def tea (a : AS) (w k : Nat) : AS := setN a 1 (fun j => if j = w then aL a w - k else aL a j)
theorem tea_L {a : AS} {w k j : Nat} : aL (tea a w k) j = if j = w then aL a w - k else aL a j := rfl
theorem tea_D {a : AS} {w k : Nat} (hk : k ≤ aL a w) : ∀ n, aD (tea a w k) n + (if w < n then k else 0) = aD a n
  | 0 => by rw [if_neg (by omega)]; rfl
  | n + 1 => by
    have ih := tea_D hk n
    rw [aD, aD, tea_L]
    by_cases h1 : n = w
    · subst h1
      rw [if_neg (by omega)] at ih
      rw [if_pos rfl, if_pos (by omega)]
      omega
    · rw [if_neg h1]
      by_cases h2 : w < n
      · rw [if_pos h2] at ih
        rw [if_pos (by omega)]
        omega
      · rw [if_neg h2] at ih
        rw [if_neg (by omega)]
        omega
theorem tea_w {a : AS} {w k : Nat} (h : WG a) : WG (tea a w k) := ⟨h.1, h.2.1, h.2.2.1, fun j => by
  rw [tea_L]
  have := h.2.2.2.1 j
  have := h.2.2.2.1 w
  split <;> omega, h.2.2.2.2.1, h.2.2.2.2.2⟩
def bet (r q w : Nat) : Bool := decide (r ≤ w ∧ w < q ∨ q ≤ w ∧ w < r)
theorem tea_com {a : AS} {w k r f : Nat} (hk : k ≤ aL a w) : com (tea a w k) r f = com a r f + (if bet r (aR a f) w = true then (k : Int) else 0) := by
  have h1 := tea_D hk r
  have h2 := tea_D hk (aR a f)
  have m1 : r ≤ aR a f → aD a r ≤ aD a (aR a f) := fun h => aD_mono (aR a f) h
  have m2 : aR a f ≤ r → aD a (aR a f) ≤ aD a r := fun h => aD_mono r h
  have m3 : r ≤ aR a f → aD (tea a w k) r ≤ aD (tea a w k) (aR a f) := fun h => aD_mono (aR a f) h
  have m4 : aR a f ≤ r → aD (tea a w k) (aR a f) ≤ aD (tea a w k) r := fun h => aD_mono r h
  unfold com dst bet
  rw [show aR (tea a w k) f = aR a f from rfl, show aK (tea a w k) f = aK a f from rfl]
  by_cases c1 : w < r
  · rw [if_pos c1] at h1
    by_cases c2 : w < aR a f
    · rw [if_pos c2] at h2
      rw [if_neg (c := decide _ = true) (by rw [decide_eq_true_eq]; omega)]
      split <;> split <;> omega
    · rw [if_neg c2] at h2
      rw [if_pos (c := decide _ = true) (by rw [decide_eq_true_eq]; omega)]
      split <;> split <;> omega
  · rw [if_neg c1] at h1
    by_cases c2 : w < aR a f
    · rw [if_pos c2] at h2
      rw [if_pos (c := decide _ = true) (by rw [decide_eq_true_eq]; omega)]
      split <;> split <;> omega
    · rw [if_neg c2] at h2
      rw [if_neg (c := decide _ = true) (by rw [decide_eq_true_eq]; omega)]
      split <;> split <;> omega
theorem sk45 : ∀ k, k < 6 → (k = 5 → sk 4 k = 0) ∧ (k ≠ 5 → 1 ≤ sk 4 k) := by decide
theorem hea_4 {k : Nat} {c : Int} (hk : k < 6) : hea k c 0 = decide (sk 4 k ≤ c) := by
  obtain ⟨h1, h2⟩ := sk45 k hk
  unfold hea
  by_cases e : k = 5
  · rw [if_pos e, h1 e]
  · rw [if_neg e]
    by_cases q : sk 4 k ≤ c
    · rw [decide_eq_true q, decide_eq_true (p := 0 < c) (by have := h2 e; omega)]; rfl
    · rw [decide_eq_false q, Bool.and_false]
/-- one wall tried -/
theorem f9_t1 {a : AS} (w : WG a) {μ : Sg} (mg : MG μ a) {m n v : Nat} (hm : m < aP a) (hn : n < aP a) (hmn : m ≠ n) (hv : v < aW a) {X : Nat} (hX : (X : Int) = sk 4 (aK a m) - com a (aR a m) n) (hX0 : 0 < X) :
    ∀ d k, k + d = aL a v + 1 → 0 < k → (bet (aR a m) (aR a n) v = true → k ≤ X) → ∀ f, d < f → ∀ (b : Nat) (q : Int32) (S : Sg), b ≤ 100 → (∀ c j, c ≠ 7 ∨ j ≠ v → S.1 c j = μ.1 c j) →
    ∃ S', T_X9_tearOff_59 (zI m) (zI n) (zI v) (zI (aL a v)) f (zI b) q (zI k) S = some (if bet (aR a m) (aR a n) v = true ∧ X ≤ aL a v ∧ X < b then zI X else zI b, if bet (aR a m) (aR a n) v = true ∧ X ≤ aL a v ∧ X < b then zI v else q, S') ∧ ∀ c j, c ≠ 7 ∨ j ≠ v → S'.1 c j = μ.1 c j := by
  have wP := w.1
  have wW := w.2.1
  have wL := w.2.2.2.1 v
  intro d
  induction d with
  | zero =>
    intro k hk hk0 hb f hf b q S hb1 hS
    obtain ⟨f, rfl⟩ : ∃ g, f = g + 1 := ⟨f - 1, by omega⟩
    refine ⟨S, ?_, hS⟩
    simp only [T_X9_tearOff_59]
    rw [if_ltZ (by omega) (by omega) (by omega) (by omega), if_pos (by omega), if_neg (fun h => by have := hb h.1; omega), if_neg (fun h => by have := hb h.1; omega)]
  | succ d ih =>
    intro k hk hk0 hb f hf b q S hb1 hS
    obtain ⟨f, rfl⟩ : ∃ g, f = g + 1 := ⟨f - 1, by omega⟩
    simp only [T_X9_tearOff_59]
    rw [if_ltZ (by omega) (by omega) (by omega) (by omega), if_neg (by omega), if_leZ (by omega) (by omega) (by omega) (by omega)]
    by_cases q1 : (b : Int) ≤ k
    · rw [if_pos q1, if_neg (fun h => by have := hb h.1; omega), if_neg (fun h => by have := hb h.1; omega)]
      exact ⟨S, rfl, hS⟩
    · have mg' : MG (wI S 7 v (zI ((aL a v : Int) - k))) (tea a v k) := by
        refine ⟨(wI_ne (.inl (by decide))).trans ((hS _ _ (.inl (by decide))).trans mg.1), (wI_ne (.inl (by decide))).trans ((hS _ _ (.inl (by decide))).trans mg.2.1), fun j hj => ?_, fun j hj => (wI_ne (.inl (by decide))).trans ((hS _ _ (.inl (by decide))).trans (mg.2.2.2.1 j hj)), fun j hj => (wI_ne (.inl (by decide))).trans ((hS _ _ (.inl (by decide))).trans (mg.2.2.2.2 j hj))⟩
        rw [tea_L, wI_1, if_pos rfl]
        by_cases e : j = v
        · rw [if_pos e, if_pos e]; exact congrArg zI (by omega)
        · rw [if_neg e, if_neg e, hS _ _ (.inr e)]; exact mg.2.2.1 j hj
      have hS' : ∀ c j, c ≠ 7 ∨ j ≠ v → (wI S 7 v (zI ((aL a v : Int) - k))).1 c j = μ.1 c j := fun c j hc => (wI_ne hc).trans (hS c j hc)
      have hh : hr1 (tea a v k) m n = decide (sk 4 (aK a m) ≤ com a (aR a m) n + (if bet (aR a m) (aR a n) v = true then (k : Int) else 0)) := by
        unfold hr1
        rw [show aK (tea a v k) m = aK a m from rfl, show aR (tea a v k) m = aR a m from rfl, hea_4 (w.2.2.2.2.1 m), tea_com (by omega)]
      rw [if_neg q1, chk_N (by omega) (by omega), z_tnN (by omega), nm, z_sub, f9_does mg' (tea_w w) hm hn, decide_eq_true hmn, Bool.true_and, bd_some, bI_z, hh, zS]
      by_cases q2 : bet (aR a m) (aR a n) v = true
      · have hbk := hb q2
        rw [if_pos (c := bet _ _ _ = true) q2]
        by_cases q3 : k = X
        · rw [if_pos (c := decide _ = true) (by rw [decide_eq_true_eq]; omega), bd_some]
          refine ⟨wI S 7 v (zI ((aL a v : Int) - k)), ?_, hS'⟩
          obtain ⟨f, rfl⟩ : ∃ g, f = g + 1 := ⟨f - 1, by omega⟩
          simp only [T_X9_tearOff_59]
          rw [if_pos (c := _ ∧ _) ⟨q2, by omega, by omega⟩, if_pos (c := _ ∧ _) ⟨q2, by omega, by omega⟩, if_le_t (m := k) (n := k + 1) (by omega) (by omega), ite_self, q3]
        · rw [if_neg (c := decide _ = true) (by rw [decide_eq_true_eq]; omega), bd_some]
          exact ih (k + 1) (by omega) (by omega) (fun _ => by omega) f (by omega) b q _ hb1 hS'
      · rw [if_neg (c := bet _ _ _ = true) q2, if_neg (c := decide _ = true) (by rw [decide_eq_true_eq]; omega), bd_some]
        have := ih (k + 1) (by omega) (by omega) (fun h => absurd h q2) f (by omega) b q _ hb1 hS'
        exact this
/-- the first that has it, or none -/
theorem frs {p : Nat → Bool} : ∀ n, (∀ j, j < n → p j = false) ∨ ∃ k, k < n ∧ p k = true ∧ ∀ j, j < k → p j = false
  | 0 => .inl (fun j hj => absurd hj (Nat.not_lt_zero _))
  | n + 1 => by
    rcases frs (p := p) n with h | ⟨k, h1, h2, h3⟩
    · cases e : p n
      · refine .inl (fun j hj => ?_)
        by_cases q : j = n
        · rw [q]; exact e
        · exact h j (by omega)
      · exact .inr ⟨n, by omega, e, h⟩
    · exact .inr ⟨k, by omega, h2, h3⟩
def fnd (a : AS) (m n X : Nat) (w : Nat) : Bool := bet (aR a m) (aR a n) w && decide (X ≤ aL a w)
theorem fnd_iff {a : AS} {m n X w : Nat} : fnd a m n X w = true ↔ bet (aR a m) (aR a n) w = true ∧ X ≤ aL a w := by
  unfold fnd
  rw [Bool.and_eq_true, decide_eq_true_eq]
/-- all walls tried, after one was found: nothing changes -/
theorem f9_t2 {a : AS} (w : WG a) {μ : Sg} (mg : MG μ a) {m n : Nat} (hm : m < aP a) (hn : n < aP a) (hmn : m ≠ n) {X : Nat} (hX : (X : Int) = sk 4 (aK a m) - com a (aR a m) n) (hX0 : 0 < X) {b : Nat} {q : Int32} (hb : b ≤ 100) :
    ∀ d v, v + d = aW a → (∀ j, v ≤ j → j < aW a → (fnd a m n X j = true → ¬ X < b)) → ∀ f, d < f → ∀ S : Sg, eqM μ S → ∃ S', T_X9_tearOff_38 (zI m) (zI n) f (zI b) q (zI v) S = some (zI b, q, S') ∧ eqM μ S' := by
  have wW := w.2.1
  intro d
  induction d with
  | zero =>
    intro v hv hN f hf S hS
    obtain ⟨f, rfl⟩ : ∃ g, f = g + 1 := ⟨f - 1, by omega⟩
    simp only [T_X9_tearOff_38]
    rw [(MG_e hS mg).2.1, if_le_t (by omega) (by omega)]
    exact ⟨S, rfl, hS⟩
  | succ d ih =>
    intro v hv hN f hf S hS
    obtain ⟨f, rfl⟩ : ∃ g, f = g + 1 := ⟨f - 1, by omega⟩
    have wL := w.2.2.2.1 v
    simp only [T_X9_tearOff_38]
    rw [(MG_e hS mg).2.1, if_le_f (by omega) (by omega), chk_N (by omega) (by omega), z_tnN (by omega), (MG_e hS mg).2.2.1 v (by omega), nm, zN1]
    obtain ⟨S', k1, k2⟩ := f9_t1 w mg hm hn hmn (v := v) (by omega) hX hX0 (aL a v) 1 (by omega) (by decide) (fun _ => hX0) FU (by unfold FU; omega) b q S hb (fun c j _ => hS c j)
    have hno : ¬ (bet (aR a m) (aR a n) v = true ∧ X ≤ aL a v ∧ X < b) := fun h => hN v (Nat.le_refl _) (by omega) (fnd_iff.mpr ⟨h.1, h.2.1⟩) h.2.2
    rw [if_neg hno, if_neg hno] at k1
    rw [k1, bd_some]
    show ∃ S'_1, chk (inB (zI v) 6) (nm (wI S' 7 v (zI (aL a v))) (fun S26 => T_X9_tearOff_38 (zI m) (zI n) f (zI b) q (zI v + zI ((1 : Nat) : Int)) S26)) = _ ∧ _
    rw [chk_N (by omega) (by omega), nm, ← zN1, zS]
    exact ih (v + 1) (by omega) (fun j h1 h2 => hN j (by omega) h2) f (by omega) _ (fun c j => by
      by_cases e : c = 7 ∧ j = v
      · rw [e.1, e.2, wI_eq, mg.2.2.1 v (by omega)]
      · rw [wI_ne (by omega), k2 c j (by omega)])
theorem f9_t3 {a : AS} (w : WG a) {μ : Sg} (mg : MG μ a) {m n : Nat} (hm : m < aP a) (hn : n < aP a) (hmn : m ≠ n) {X : Nat} (hX : (X : Int) = sk 4 (aK a m) - com a (aR a m) n) (hX0 : 0 < X) {p : Nat} (hp : p < aW a) (hf1 : fnd a m n X p = true) (hf2 : ∀ j, j < p → fnd a m n X j = false) :
    ∀ d v, v + d = p → ∀ f, d + aW a < f → ∀ S : Sg, eqM μ S → ∃ S', T_X9_tearOff_38 (zI m) (zI n) f (zI ((100 : Nat) : Int)) (-9) (zI v) S = some (zI X, zI p, S') ∧ eqM μ S' := by
  have wW := w.2.1
  have hpX := (fnd_iff.mp hf1).2
  have wLp := w.2.2.2.1 p
  intro d
  induction d with
  | zero =>
    intro v hv f hf S hS
    obtain ⟨f, rfl⟩ : ∃ g, f = g + 1 := ⟨f - 1, by omega⟩
    have ev : v = p := by omega
    subst ev
    simp only [T_X9_tearOff_38]
    rw [(MG_e hS mg).2.1, if_le_f (by omega) (by omega), chk_N (by omega) (by omega), z_tnN (by omega), (MG_e hS mg).2.2.1 v (by omega), nm, zN1]
    obtain ⟨S', k1, k2⟩ := f9_t1 w mg hm hn hmn (v := v) (by omega) hX hX0 (aL a v) 1 (by omega) (by decide) (fun _ => hX0) FU (by unfold FU; omega) 100 (-9) S (by decide) (fun c j _ => hS c j)
    have hyes : bet (aR a m) (aR a n) v = true ∧ X ≤ aL a v ∧ X < 100 := ⟨(fnd_iff.mp hf1).1, hpX, by omega⟩
    rw [if_pos hyes, if_pos hyes] at k1
    rw [k1, bd_some]
    show ∃ S'_1, chk (inB (zI v) 6) (nm (wI S' 7 v (zI (aL a v))) (fun S26 => T_X9_tearOff_38 (zI m) (zI n) f (zI X) (zI v) (zI v + zI ((1 : Nat) : Int)) S26)) = _ ∧ _
    rw [chk_N (by omega) (by omega), nm, ← zN1, zS]
    exact f9_t2 w mg hm hn hmn hX hX0 (by omega) (aW a - (v + 1)) (v + 1) (by omega) (fun j _ _ _ => by omega) f (by omega) _ (fun c j => by
      by_cases e : c = 7 ∧ j = v
      · rw [e.1, e.2, wI_eq, mg.2.2.1 v (by omega)]
      · rw [wI_ne (by omega), k2 c j (by omega)])
  | succ d ih =>
    intro v hv f hf S hS
    obtain ⟨f, rfl⟩ : ∃ g, f = g + 1 := ⟨f - 1, by omega⟩
    have wL := w.2.2.2.1 v
    simp only [T_X9_tearOff_38]
    rw [(MG_e hS mg).2.1, if_le_f (by omega) (by omega), chk_N (by omega) (by omega), z_tnN (by omega), (MG_e hS mg).2.2.1 v (by omega), nm, zN1]
    obtain ⟨S', k1, k2⟩ := f9_t1 w mg hm hn hmn (v := v) (by omega) hX hX0 (aL a v) 1 (by omega) (by decide) (fun _ => hX0) FU (by unfold FU; omega) 100 (-9) S (by decide) (fun c j _ => hS c j)
    have hno : ¬ (bet (aR a m) (aR a n) v = true ∧ X ≤ aL a v ∧ X < 100) := fun h => by
      have h1 := hf2 v (by omega)
      rw [fnd_iff.mpr ⟨h.1, h.2.1⟩] at h1
      cases h1
    rw [if_neg hno, if_neg hno] at k1
    rw [k1, bd_some]
    show ∃ S'_1, chk (inB (zI v) 6) (nm (wI S' 7 v (zI (aL a v))) (fun S26 => T_X9_tearOff_38 (zI m) (zI n) f (zI ((100 : Nat) : Int)) (-9) (zI v + zI ((1 : Nat) : Int)) S26)) = _ ∧ _
    rw [chk_N (by omega) (by omega), nm, ← zN1, zS]
    exact ih (v + 1) (by omega) f (by omega) _ (fun c j => by
      by_cases e : c = 7 ∧ j = v
      · rw [e.1, e.2, wI_eq, mg.2.2.1 v (by omega)]
      · rw [wI_ne (by omega), k2 c j (by omega)])
/-- the scan between the two rooms -/
theorem f8_t {a : AS} (w : WG a) {S : Sg} (cg : CG 0 S a) {X lo hi : Nat} (hX : X < 1000) (hh : hi ≤ aW a) {p : Nat} (hp : p < hi) (hf1 : X ≤ aL a p) (hf2 : ∀ j, lo ≤ j → j < p → ¬ X ≤ aL a j) : ∀ d v, v + d = p → lo ≤ v → ∀ f, d < f → T_X8_tearOff_105 S (zI X) (zI hi) f (zI v) = some (.inr (zI X, wI S 0 10 (zI p))) := by
  have wW := w.2.1
  intro d
  induction d with
  | zero =>
    intro v hv hlo f hf
    obtain ⟨f, rfl⟩ : ∃ g, f = g + 1 := ⟨f - 1, by omega⟩
    have ev : v = p := by omega
    subst ev
    have wL := w.2.2.2.1 v
    simp only [T_X8_tearOff_105]
    rw [if_le_f hp (by omega), chk_N (by omega) (by omega), z_tnN (by omega), cg.2.2.1 v (by omega), if_ltZ (by omega) (by omega) (by omega) (by omega), if_neg (by omega), nm]
  | succ d ih =>
    intro v hv hlo f hf
    obtain ⟨f, rfl⟩ : ∃ g, f = g + 1 := ⟨f - 1, by omega⟩
    have wL := w.2.2.2.1 v
    have := hf2 v hlo (by omega)
    simp only [T_X8_tearOff_105]
    rw [if_le_f (by omega) (by omega), chk_N (by omega) (by omega), z_tnN (by omega), cg.2.2.1 v (by omega), if_ltZ (by omega) (by omega) (by omega) (by omega), if_pos (by omega), zS]
    exact ih (v + 1) (by omega) (by omega) f (by omega)
theorem f8_t0 {a : AS} (w : WG a) {S : Sg} (cg : CG 0 S a) {X lo hi : Nat} (hX : X < 1000) (hh : hi ≤ aW a) (hf2 : ∀ j, lo ≤ j → j < hi → ¬ X ≤ aL a j) : ∀ d v, v + d = hi → lo ≤ v → ∀ f, d < f → T_X8_tearOff_105 S (zI X) (zI hi) f (zI v) = some (.inl ()) := by
  have wW := w.2.1
  intro d
  induction d with
  | zero =>
    intro v hv hlo f hf
    obtain ⟨f, rfl⟩ : ∃ g, f = g + 1 := ⟨f - 1, by omega⟩
    simp only [T_X8_tearOff_105]
    rw [if_le_t (by omega) (by omega)]
  | succ d ih =>
    intro v hv hlo f hf
    obtain ⟨f, rfl⟩ : ∃ g, f = g + 1 := ⟨f - 1, by omega⟩
    have wL := w.2.2.2.1 v
    have := hf2 v hlo (by omega)
    simp only [T_X8_tearOff_105]
    rw [if_le_f (by omega) (by omega), chk_N (by omega) (by omega), z_tnN (by omega), cg.2.2.1 v (by omega), if_ltZ (by omega) (by omega) (by omega) (by omega), if_pos (by omega), zS]
    exact ih (v + 1) (by omega) (by omega) f (by omega)
theorem s_tearOff : st_tearOff R := by
  intro σ μ a1 a2 h
  obtain ⟨x, hx1, hx2, rfl⟩ := arg a1
  obtain ⟨y, hy1, hy2, rfl⟩ := arg a2
  obtain ⟨a, ⟨wg, wt, wh⟩, ⟨cg, ct, ch⟩, ⟨mg, mt, mh⟩⟩ := h.1
  have wP := wg.1
  have wW := wg.2.1
  unfold F_X8_tearOff F_X9_tearOff
  rw [f8_two cg wg ⟨hx1, hx2⟩ ⟨hy1, hy2⟩, f9_two mg wg ⟨hx1, hx2⟩ ⟨hy1, hy2⟩, bd_some, bd_some]
  cases e : twB a x y
  · exact ⟨-1, σ, μ, rfl, rfl, h⟩
  obtain ⟨m, n, rfl, rfl, hm, hn, hmn⟩ := twB_t e
  have wK := wg.2.2.2.2.1 m
  have wRm := wg.2.2.2.2.2 m
  have wRn := wg.2.2.2.2.2 n
  have hc := com_b wg (f := n) wRm
  have h4 := sk_b4 wK
  have cm : ∀ {α : Type} (K : Option α), chk (inB (zI m) 7) K = K := fun K => chk_N (by omega) (by omega)
  have cn : ∀ {α : Type} (K : Option α), chk (inB (zI n) 7) K = K := fun K => chk_N (by omega) (by omega)
  have hh : hr1 a m n = decide (sk 4 (aK a m) ≤ com a (aR a m) n) := hea_4 wK
  simp only [cm, cn]
  rw [t0, t0, z_tnN (by omega), z_tnN (by omega), cg.2.2.2.2.1 m hm, cg.2.2.2.2.2 m hm, cg.2.2.2.2.2 n hn, chk_N wK (by omega), z_tnN (by omega), f6_com cg wg wRm hn, bd_some, sk_z, z_sub, f9_does mg wg hm hn, bd_some, decide_eq_true hmn, Bool.true_and, hh, bI_z, nm, if_0lt (by omega) (by omega)]
  by_cases q : sk 4 (aK a m) ≤ com a (aR a m) n
  · rw [if_neg (by omega), decide_eq_true q, if_pos rfl, nm, f9_say, bd_some]
    exact ⟨0, _, _, rfl, rfl, R_told h _⟩
  obtain ⟨X, hX⟩ : ∃ X : Nat, (X : Int) = sk 4 (aK a m) - com a (aR a m) n := ⟨(sk 4 (aK a m) - com a (aR a m) n).toNat, by omega⟩
  rw [if_pos (by omega), decide_eq_false q, if_neg (by decide), ← hX]
  have emin : (if zI (aR a n) < zI (aR a m) then zI (aR a n) else zI (aR a m)) = zI ((min (aR a m) (aR a n) : Nat) : Int) := by
    rw [if_ltZ (by omega) (by omega) (by omega) (by omega)]
    by_cases c : (aR a n : Int) < aR a m
    · rw [if_pos c]; exact congrArg zI (by omega)
    · rw [if_neg c]; exact congrArg zI (by omega)
  have emax : (if zI (aR a m) < zI (aR a n) then zI (aR a n) else zI (aR a m)) = zI ((max (aR a m) (aR a n) : Nat) : Int) := by
    rw [if_ltZ (by omega) (by omega) (by omega) (by omega)]
    by_cases c : (aR a m : Int) < aR a n
    · rw [if_pos c]; exact congrArg zI (by omega)
    · rw [if_neg c]; exact congrArg zI (by omega)
  simp only [nm]
  rw [emin, emax, show (100 : Int32) = zI ((100 : Nat) : Int) from rfl]
  have hbet : ∀ w, bet (aR a m) (aR a n) w = true ↔ min (aR a m) (aR a n) ≤ w ∧ w < max (aR a m) (aR a n) := fun w => by
    unfold bet
    rw [decide_eq_true_eq]
    omega
  rcases frs (p := fnd a m n X) (aW a) with hn' | ⟨p, hp, hp1, hp2⟩
  · have k8 := f8_t0 wg cg (X := X) (lo := min (aR a m) (aR a n)) (hi := max (aR a m) (aR a n)) (by omega) (by omega) (fun j h1 h2 h3 => by
      have := hn' j (by omega)
      rw [fnd_iff.mpr ⟨(hbet j).mpr ⟨h1, h2⟩, h3⟩] at this
      cases this) (max (aR a m) (aR a n) - min (aR a m) (aR a n)) (min (aR a m) (aR a n)) (by omega) (Nat.le_refl _) FU (by unfold FU; omega)
    obtain ⟨S', k9, k10⟩ := f9_t2 wg mg hm hn hmn hX (by omega) (b := 100) (q := -9) (by decide) (aW a) 0 (by omega) (fun j _ h2 h3 => by rw [hn' j h2] at h3; cases h3) FU (by unfold FU; omega) μ (fun _ _ => rfl)
    rw [k8, bd_some, show (0 : Int32) = zI ((0 : Nat) : Int) from rfl, k9, bd_some]
    refine ⟨-9, σ, S', rfl, ?_, R_scr h (smS_rfl _) (eqM_N k10) h.2.2.2.2.1⟩
    show (if zI ((0 : Nat) : Int) ≤ -9 then _ else _) = _
    rw [if_neg (by decide)]
  · have hpf := fnd_iff.mp hp1
    have hpb := (hbet p).mp hpf.1
    have wLp := wg.2.2.2.1 p
    have k8 := f8_t wg cg (X := X) (lo := min (aR a m) (aR a n)) (hi := max (aR a m) (aR a n)) (by omega) (by omega) hpb.2 hpf.2 (fun j h1 h2 h3 => by
      have := hp2 j h2
      rw [fnd_iff.mpr ⟨(hbet j).mpr ⟨h1, by omega⟩, h3⟩] at this
      cases this) (p - min (aR a m) (aR a n)) (min (aR a m) (aR a n)) (by omega) (Nat.le_refl _) FU (by unfold FU; omega)
    obtain ⟨S', k9, k10⟩ := f9_t3 wg mg hm hn hmn hX (by omega) hp hp1 hp2 p 0 (by omega) FU (by unfold FU; omega) μ (fun _ _ => rfl)
    rw [k8, bd_some, show (0 : Int32) = zI ((0 : Nat) : Int) from rfl, k9, bd_some]
    refine ⟨zI X, _, wI S' 0 17 (zI p), rfl, ?_, R_told (R_scr h (smS_rfl _) (eqM_N k10) h.2.2.2.2.1) _⟩
    show (if zI ((0 : Nat) : Int) ≤ zI (p : Int) then bd (F_X9_say S' (zI X) (zI p)) _ else _) = _
    rw [if_le_t (by omega) (by omega), f9_say, bd_some]
