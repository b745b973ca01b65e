theorem lou_up {a : AS} {v r : Nat} {s : Int32} : ∀ n, 0 ≤ lou a v r s n ∧ (∀ x, x < n → tb s x = true → sk v (aK a x) - dst a r (aR a x) ≤ lou a v r s n) ∧ (lou a v r s n = 0 ∨ ∃ x, x < n ∧ tb s x = true ∧ lou a v r s n = sk v (aK a x) - dst a r (aR a x))
  | 0 => by
    rw [lou]
    exact ⟨by decide, fun x h => absurd h (Nat.not_lt_zero _), .inl rfl⟩
  | n + 1 => by
    obtain ⟨h0, h1, h2⟩ := lou_up (a := a) (v := v) (r := r) (s := s) n
    rw [lou]
    by_cases hs : tb s n = true
    · rw [if_pos hs]
      by_cases hl : lou a v r s n < sk v (aK a n) - dst a r (aR a n)
      · rw [if_pos hl]
        refine ⟨by omega, fun x hx hb => ?_, .inr ⟨n, by omega, hs, rfl⟩⟩
        rcases Nat.lt_or_ge x n with q | q
        · have := h1 x q hb; omega
        · rw [show x = n by omega]; exact Int.le_refl _
      · rw [if_neg hl]
        refine ⟨h0, fun x hx hb => ?_, ?_⟩
        · rcases Nat.lt_or_ge x n with q | q
          · exact h1 x q hb
          · rw [show x = n by omega]; omega
        · rcases h2 with h2 | ⟨x, q1, q2, q3⟩
          · exact .inl h2
          · exact .inr ⟨x, by omega, q2, q3⟩
    · rw [if_neg hs]
      refine ⟨h0, fun x hx hb => ?_, ?_⟩
      · rcases Nat.lt_or_ge x n with q | q
        · exact h1 x q hb
        · exact absurd (show tb s n = true by rw [show n = x by omega]; exact hb) hs
      · rcases h2 with h2 | ⟨x, q1, q2, q3⟩
        · exact .inl h2
        · exact .inr ⟨x, by omega, q2, q3⟩
theorem nof_up {a : AS} {r : Nat} {s : Int32} {b : Nat} : ∀ n, 0 ≤ nof a r s b n ∧ (∀ x, x < n → tb s x = true → x ≠ b → com a r (aS a x) ≤ nof a r s b n) ∧ (nof a r s b n = 0 ∨ ∃ x, x < n ∧ tb s x = true ∧ x ≠ b ∧ nof a r s b n = com a r (aS a x))
  | 0 => by
    rw [nof]
    exact ⟨by decide, fun x h => absurd h (Nat.not_lt_zero _), .inl rfl⟩
  | n + 1 => by
    obtain ⟨h0, h1, h2⟩ := nof_up (a := a) (r := r) (s := s) (b := b) n
    rw [nof]
    by_cases hs : tb s n = true ∧ n ≠ b
    · rw [if_pos hs]
      by_cases hl : nof a r s b n < com a r (aS a n)
      · rw [if_pos hl]
        refine ⟨by omega, fun x hx hb1 hb2 => ?_, .inr ⟨n, by omega, hs.1, hs.2, rfl⟩⟩
        rcases Nat.lt_or_ge x n with q | q
        · have := h1 x q hb1 hb2; omega
        · rw [show x = n by omega]; exact Int.le_refl _
      · rw [if_neg hl]
        refine ⟨h0, fun x hx hb1 hb2 => ?_, ?_⟩
        · rcases Nat.lt_or_ge x n with q | q
          · exact h1 x q hb1 hb2
          · rw [show x = n by omega]; omega
        · rcases h2 with h2 | ⟨x, q1, q2, q3⟩
          · exact .inl h2
          · exact .inr ⟨x, by omega, q2, q3⟩
    · rw [if_neg hs]
      refine ⟨h0, fun x hx hb1 hb2 => ?_, ?_⟩
      · rcases Nat.lt_or_ge x n with q | q
        · exact h1 x q hb1 hb2
        · have e : x = n := by omega
          rw [e] at hb1 hb2
          exact absurd ⟨hb1, hb2⟩ hs
      · rcases h2 with h2 | ⟨x, q1, q2, q3⟩
        · exact .inl h2
        · exact .inr ⟨x, by omega, q2, q3⟩
theorem tb_spe {a : AS} (wt : WT a) (w : WG a) {s : Int32} {j : Nat} (hj : j < 32) : ∀ n, n ≤ aT a → (tb (spe a s n) j = true ↔ ∃ k, k < n ∧ tb s k = true ∧ aS a k = j)
  | 0, _ => by
    rw [spe, tb_0]
    exact ⟨fun h => (by cases h), fun ⟨k, h, _⟩ => absurd h (Nat.not_lt_zero _)⟩
  | n + 1, hn => by
    have ih := tb_spe wt w (s := s) hj n (by omega)
    have hP := w.1
    have hS := (wt.2 n (by omega)).1
    rw [spe]
    by_cases hs : tb s n = true
    · rw [if_pos hs, tb_or, tb_one (by omega) hj, Bool.or_eq_true, decide_eq_true_eq, ih]
      constructor
      · rintro (⟨k, h1, h2, h3⟩ | h)
        · exact ⟨k, by omega, h2, h3⟩
        · exact ⟨n, by omega, hs, h.symm⟩
      · rintro ⟨k, h1, h2, h3⟩
        rcases Nat.lt_or_ge k n with q | q
        · exact .inl ⟨k, q, h2, h3⟩
        · rw [show k = n by omega] at h3
          exact .inr h3.symm
    · rw [if_neg hs, ih]
      constructor
      · rintro ⟨k, h1, h2, h3⟩
        exact ⟨k, by omega, h2, h3⟩
      · rintro ⟨k, h1, h2, h3⟩
        rcases Nat.lt_or_ge k n with q | q
        · exact ⟨k, q, h2, h3⟩
        · rw [show k = n by omega] at h2
          exact absurd h2 hs
theorem tb_bus {a : AS} (wt : WT a) (w : WG a) {s : Int32} {m : Nat} (hm : tb s m = true) (hmT : m < aT a) : ∀ n, m < n → tb (bus a s n) (aS a m) = true
  | 0, h => absurd h (Nat.not_lt_zero _)
  | n + 1, h => by
    have hP := w.1
    have hS := (wt.2 m hmT).1
    rw [bus]
    rcases Nat.lt_or_ge m n with q | q
    · have ih := tb_bus wt w hm hmT n q
      by_cases hs : tb s n = true
      · rw [if_pos hs, tb_or, ih]; rfl
      · rw [if_neg hs, ih]
    · have e : n = m := by omega
      rw [e, if_pos hm, tb_or]
      unfold bth
      rw [tb_or, tb_one (by omega) (by omega), decide_eq_true rfl]
      simp
theorem cok_t {a : AS} {s : Int32} : ∀ n, cok a s n = true → ∀ k, k < n → tb s k = true → bus a s k &&& bth a k = 0
  | 0, _, k, h, _ => absurd h (Nat.not_lt_zero _)
  | n + 1, hc, k, h, hs => by
    rw [cok, Bool.and_eq_true] at hc
    rcases Nat.lt_or_ge k n with q | q
    · exact cok_t n hc.1 k q hs
    · have e : k = n := by omega
      subst e
      have := hc.2
      rw [hs] at this
      simpa using this
theorem cok_ne {a : AS} (wt : WT a) (w : WG a) {s : Int32} (hc : cok a s (aT a) = true) {j k : Nat} (hj : j < k) (hk : k < aT a) (h1 : tb s j = true) (h2 : tb s k = true) : aS a j ≠ aS a k := by
  have hP := w.1
  have wk := wt.2 k hk
  have e := cok_t _ hc k hk h2
  have e2 := (and_bth (by omega) (by omega)).mp e
  have e3 := tb_bus wt w h1 (by omega) k hj
  intro q
  rw [q, e2.1] at e3
  cases e3
theorem nof_nz {a : AS} (wt : WT a) (w : WG a) {s : Int32} (hc : cok a s (aT a) = true) {k h : Nat} (hk : k < aT a) (hs : tb s k = true) : nof a (aR a h) s k (aT a) = nz2 a 0 (oth a s k) h := by
  have hP := w.1
  have wk := wt.2 k hk
  have u := lou_up (a := a) (v := 2) (r := aR a h) (s := oth a s k) (aP a)
  have v := nof_up (a := a) (r := aR a h) (s := s) (b := k) (aT a)
  have e : nz2 a 0 (oth a s k) h = lou a 2 (aR a h) (oth a s k) (aP a) := by
    unfold nz2
    rw [son_0]
    show (if 0 < lou a 2 (aR a h) (oth a s k) (aP a) then lou a 2 (aR a h) (oth a s k) (aP a) else 0) = _
    have := u.1
    split <;> omega
  have ho : ∀ x, x < 32 → (tb (oth a s k) x = true ↔ (∃ j, j < aT a ∧ tb s j = true ∧ aS a j = x) ∧ x ≠ aS a k) := by
    intro x hx
    unfold oth
    rw [tb_and, tb_not hx, tb_one (by omega) hx, Bool.and_eq_true, tb_spe wt w hx _ (Nat.le_refl _)]
    simp
  rw [e]
  apply Int.le_antisymm
  · rcases v.2.2 with q | ⟨x, q1, q2, q3, q4⟩
    · rw [q]; exact u.1
    · rw [q4]
      have wx := wt.2 x q1
      refine u.2.1 (aS a x) wx.1 ((ho _ (by omega)).mpr ⟨⟨x, q1, q2, rfl⟩, ?_⟩)
      rcases Nat.lt_or_ge x k with q5 | q5
      · exact cok_ne wt w hc q5 hk q2 hs
      · exact Ne.symm (cok_ne wt w hc (by omega) q1 hs q2)
  · rcases u.2.2 with q | ⟨x, q1, q2, q3⟩
    · rw [q]; exact v.1
    · rw [q3]
      obtain ⟨⟨j, j1, j2, j3⟩, hne⟩ := (ho x (by omega)).mp q2
      rw [← j3]
      refine v.2.1 j j1 j2 (fun q => ?_)
      rw [q] at j3
      exact hne j3.symm
theorem moa_all {a : AS} {s : Int32} {k : Nat} {b : Bool} : ∀ n, moa a s k b n = (b && (List.range n).all (moc a s k))
  | 0 => by simp [moa]
  | n + 1 => by rw [moa, moa_all n, List.range_succ, List.all_append]; simp [Bool.and_assoc]
theorem all_cg {p q : Nat → Bool} {n : Nat} (h : ∀ j, j < n → p j = q j) : (List.range n).all p = (List.range n).all q := by
  rw [Bool.eq_iff_iff, List.all_eq_true, List.all_eq_true]
  constructor
  · intro g j hj
    rw [← h j (List.mem_range.mp hj)]
    exact g j hj
  · intro g j hj
    rw [h j (List.mem_range.mp hj)]
    exact g j hj
theorem moc_rgt {a : AS} (wt : WT a) (w : WG a) {s : Int32} (hc : cok a s (aT a) = true) {k : Nat} (hk : k < aT a) (hs : tb s k = true) : (List.range (aP a)).all (moc a s k) = rgt a k (evr a) 0 (oth a s k) := by
  have hP := w.1
  unfold rgt
  refine all_cg fun h hh => ?_
  unfold moc
  unfold hbP
  rw [nof_nz wt w hc hk hs, tb_0]
  have ev : tb (evr a) h = true := by
    unfold evr
    rw [tb_all (by omega), decide_eq_true hh]
  rw [ev]
  generalize hea (aK a h) (com a (aR a h) (aS a k)) (nz2 a 0 (oth a s k) h) = A
  generalize decide (h ≠ aS a k) = B
  generalize tb (aB a k) h = C
  split
  · cases A <;> cases B <;> rfl
  · cases A <;> cases B <;> cases C <;> rfl
theorem mok_cok {a : AS} (wt : WT a) (w : WG a) {s : Int32} : ∀ n, n ≤ aT a → mok a s n = true → cok a s n = true
  | 0, _, _ => rfl
  | n + 1, hn, h => by
    have hP := w.1
    have wk := wt.2 n (by omega)
    rw [mok, Bool.and_eq_true, moa_all] at h
    rw [cok, mok_cok wt w n (by omega) h.1, Bool.true_and]
    have h2 := h.2
    cases hs : tb s n with
    | false => rfl
    | true =>
      rw [hs] at h2
      have h3 : (!tb (bus a s n) (aS a n) && !tb (bus a s n) (aE a n)) = true := by
        revert h2
        generalize (!tb (bus a s n) (aS a n) && !tb (bus a s n) (aE a n)) = A
        cases A <;> simp
      rw [Bool.and_eq_true, Bool.not_eq_true', Bool.not_eq_true'] at h3
      rw [decide_eq_true ((and_bth (by omega) (by omega)).mpr h3)]
      rfl
theorem mok_rok {a : AS} (wt : WT a) (w : WG a) {s : Int32} (hc : cok a s (aT a) = true) : ∀ n, n ≤ aT a → mok a s n = rok a s n
  | 0, _ => rfl
  | n + 1, hn => by
    have hP := w.1
    have wk := wt.2 n (by omega)
    rw [mok, rok, mok_rok wt w hc n (by omega), moa_all]
    cases hs : tb s n with
    | false => rfl
    | true =>
      have e2 := (and_bth (by omega) (by omega)).mp (cok_t _ hc n (by omega) hs)
      rw [moc_rgt wt w hc (by omega) hs, e2.1, e2.2]
      rfl
theorem mok_tgt {a : AS} (wt : WT a) (w : WG a) {s : Int32} : mok a s (aT a) = tgt a s := by
  unfold tgt
  cases hc : cok a s (aT a) with
  | true => rw [mok_rok wt w hc _ (Nat.le_refl _), Bool.true_and]
  | false =>
    rw [Bool.false_and]
    cases hm : mok a s (aT a) with
    | false => rfl
    | true => rw [mok_cok wt w _ (Nat.le_refl _) hm] at hc; cases hc
theorem f9_tgt {S : Sg} {a : AS} (c : MG S a) (ct : MT S a) (w : WG a) (wt : WT a) {s : Int32} : F_X9_areBeside S s = some (bI (tgt a s)) := by rw [f9_tgt0 c ct w wt, mok_tgt wt w]
