def tea (a : AS) (w k : Nat) : AS := setN a 1 (fun j => if j = w then aL a w - k else aL a j)
theorem tea_L {a : AS} {w k j : Nat} : aL (tea a w k) j = if j = w then aL a w - k else aL a j := rfl
theorem tea_D {a : AS} {w k : Nat} (hk : k ≤ aL a w) : ∀ n, aD (tea a w k) n + (if w < n then k else 0) = aD a n
  | 0 => by rw [if_neg (by omega)]; rfl
  | n + 1 => by
    have ih := tea_D hk n
    rw [aD, aD, tea_L]
    by_cases h1 : n = w
    · subst h1
      rw [if_neg (by omega)] at ih
      rw [if_pos rfl, if_pos (by omega)]
      omega
    · rw [if_neg h1]
      by_cases h2 : w < n
      · rw [if_pos h2] at ih
        rw [if_pos (by omega)]
        omega
      · rw [if_neg h2] at ih
        rw [if_neg (by omega)]
        omega
theorem tea_w {a : AS} {w k : Nat} (h : WG a) : WG (tea a w k) := ⟨h.1, h.2.1, h.2.2.1, fun j => by
  rw [tea_L]
  have := h.2.2.2.1 j
  have := h.2.2.2.1 w
  split <;> omega, h.2.2.2.2.1, h.2.2.2.2.2⟩
def bet (r q w : Nat) : Bool := decide (r ≤ w ∧ w < q ∨ q ≤ w ∧ w < r)
theorem tea_com {a : AS} {w k r f : Nat} (hk : k ≤ aL a w) : com (tea a w k) r f = com a r f + (if bet r (aR a f) w = true then (k : Int) else 0) := by
  have h1 := tea_D hk r
  have h2 := tea_D hk (aR a f)
  have m1 : r ≤ aR a f → aD a r ≤ aD a (aR a f) := fun h => aD_mono (aR a f) h
  have m2 : aR a f ≤ r → aD a (aR a f) ≤ aD a r := fun h => aD_mono r h
  have m3 : r ≤ aR a f → aD (tea a w k) r ≤ aD (tea a w k) (aR a f) := fun h => aD_mono (aR a f) h
  have m4 : aR a f ≤ r → aD (tea a w k) (aR a f) ≤ aD (tea a w k) r := fun h => aD_mono r h
  unfold com dst bet
  rw [show aR (tea a w k) f = aR a f from rfl, show aK (tea a w k) f = aK a f from rfl]
  by_cases c1 : w < r
  · rw [if_pos c1] at h1
    by_cases c2 : w < aR a f
    · rw [if_pos c2] at h2
      rw [if_neg (c := decide _ = true) (by rw [decide_eq_true_eq]; omega)]
      split <;> split <;> omega
    · rw [if_neg c2] at h2
      rw [if_pos (c := decide _ = true) (by rw [decide_eq_true_eq]; omega)]
      split <;> split <;> omega
  · rw [if_neg c1] at h1
    by_cases c2 : w < aR a f
    · rw [if_pos c2] at h2
      rw [if_pos (c := decide _ = true) (by rw [decide_eq_true_eq]; omega)]
      split <;> split <;> omega
    · rw [if_neg c2] at h2
      rw [if_neg (c := decide _ = true) (by rw [decide_eq_true_eq]; omega)]
      split <;> split <;> omega
theorem sk45 : ∀ k, k < 6 → (k = 5 → sk 4 k = 0) ∧ (k ≠ 5 → 1 ≤ sk 4 k) := by decide
theorem hea_4 {k : Nat} {c : Int} (hk : k < 6) : hea k c 0 = decide (sk 4 k ≤ c) := by
  obtain ⟨h1, h2⟩ := sk45 k hk
  unfold hea
  by_cases e : k = 5
  · rw [if_pos e, h1 e]
  · rw [if_neg e]
    by_cases q : sk 4 k ≤ c
    · rw [decide_eq_true q, decide_eq_true (p := 0 < c) (by have := h2 e; omega)]; rfl
    · rw [decide_eq_false q, Bool.and_false]
/-- the first that has it, or none -/
theorem frs {p : Nat → Bool} : ∀ n, (∀ j, j < n → p j = false) ∨ ∃ k, k < n ∧ p k = true ∧ ∀ j, j < k → p j = false
  | 0 => .inl (fun j hj => absurd hj (Nat.not_lt_zero _))
  | n + 1 => by
    rcases frs (p := p) n with h | ⟨k, h1, h2, h3⟩
    · cases e : p n
      · refine .inl (fun j hj => ?_)
        by_cases q : j = n
        · rw [q]; exact e
        · exact h j (by omega)
      · exact .inr ⟨n, by omega, e, h⟩
    · exact .inr ⟨k, by omega, h2, h3⟩
/-- the scan between the two rooms -/
theorem f8_t {a : AS} (w : WG a) {S : Sg} (cg : CG 0 S a) {X lo hi : Nat} (hX : X < 1000) (hh : hi ≤ aW a) {p : Nat} (hp : p < hi) (hf1 : X ≤ aL a p) (hf2 : ∀ j, lo ≤ j → j < p → ¬ X ≤ aL a j) : ∀ d v, v + d = p → lo ≤ v → ∀ f, d < f → T_X8_tearOff_105 S (zI X) (zI hi) f (zI v) = some (.inr (zI X, wI S 0 10 (zI p))) := by
  have wW := w.2.1
  intro d
  induction d with
  | zero =>
    intro v hv hlo f hf
    obtain ⟨f, rfl⟩ : ∃ g, f = g + 1 := ⟨f - 1, by omega⟩
    have ev : v = p := by omega
    subst ev
    have wL := w.2.2.2.1 v
    simp only [T_X8_tearOff_105]
    rw [if_le_f hp (by omega), chk_N (by omega) (by omega), z_tnN (by omega), cg.2.2.1 v (by omega), if_ltZ (by omega) (by omega) (by omega) (by omega), if_neg (by omega), nm]
  | succ d ih =>
    intro v hv hlo f hf
    obtain ⟨f, rfl⟩ : ∃ g, f = g + 1 := ⟨f - 1, by omega⟩
    have wL := w.2.2.2.1 v
    have := hf2 v hlo (by omega)
    simp only [T_X8_tearOff_105]
    rw [if_le_f (by omega) (by omega), chk_N (by omega) (by omega), z_tnN (by omega), cg.2.2.1 v (by omega), if_ltZ (by omega) (by omega) (by omega) (by omega), if_pos (by omega), zSu]
    exact ih (v + 1) (by omega) (by omega) f (by omega)
theorem f8_t0 {a : AS} (w : WG a) {S : Sg} (cg : CG 0 S a) {X lo hi : Nat} (hX : X < 1000) (hh : hi ≤ aW a) (hf2 : ∀ j, lo ≤ j → j < hi → ¬ X ≤ aL a j) : ∀ d v, v + d = hi → lo ≤ v → ∀ f, d < f → T_X8_tearOff_105 S (zI X) (zI hi) f (zI v) = some (.inl ()) := by
  have wW := w.2.1
  intro d
  induction d with
  | zero =>
    intro v hv hlo f hf
    obtain ⟨f, rfl⟩ : ∃ g, f = g + 1 := ⟨f - 1, by omega⟩
    simp only [T_X8_tearOff_105]
    rw [if_le_t (by omega) (by omega)]
  | succ d ih =>
    intro v hv hlo f hf
    obtain ⟨f, rfl⟩ : ∃ g, f = g + 1 := ⟨f - 1, by omega⟩
    have wL := w.2.2.2.1 v
    have := hf2 v hlo (by omega)
    simp only [T_X8_tearOff_105]
    rw [if_le_f (by omega) (by omega), chk_N (by omega) (by omega), z_tnN (by omega), cg.2.2.1 v (by omega), if_ltZ (by omega) (by omega) (by omega) (by omega), if_pos (by omega), zSu]
    exact ih (v + 1) (by omega) (by omega) f (by omega)
