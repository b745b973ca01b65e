/-! ===== orders, one after another ===== -/
/-- the place from the right where it rises -/
def pvL (l : List Nat) : Nat → Option Nat
  | 0 => none
  | n + 1 => if l.getD n 0 ≤ l.getD (n + 1) 0 then some n else pvL l n
/-- from the right, the first that is not less -/
def gtL (l : List Nat) (v : Nat) : Nat → Nat
  | 0 => 0
  | n + 1 => if v ≤ l.getD (n + 1) 0 then n + 1 else gtL l v n
def rvL (l : List Nat) : Nat → Nat → Nat → List Nat
  | 0, _, _ => l
  | n + 1, hi, lo => if hi ≤ lo then l else rvL ((l.set lo (l.getD hi 0)).set hi (l.getD lo 0)) n (hi - 1) (lo + 1)
def nxL (l : List Nat) : Option (List Nat) := match pvL l (l.length - 1) with
  | none => none
  | some p => some (rvL ((l.set p (l.getD (gtL l (l.getD p 0) (l.length - 1)) 0)).set (gtL l (l.getD p 0) (l.length - 1)) (l.getD p 0)) 8 (l.length - 1) (p + 1))
def lvB (P : Nat) : Nat → (Nat → Bool) → List (List Nat)
  | 0, _ => [[]]
  | n + 1, av => (List.range P).flatMap (fun a => if av a = true then (lvB P n (fun x => av x && !decide (x = a))).map (fun l => a :: l) else [])
def chL : List (List Nat) → Bool
  | [] => true
  | l :: t => match t with
    | [] => decide (nxL l = none)
    | l' :: _ => decide (nxL l = some l') && chL t
theorem ch_all : ∀ P, P < 8 → chL (lvB P P (fun _ => true)) = true := by
  have h7 : chL (lvB 7 7 (fun _ => true)) = true := by decide +kernel
  have h : ∀ P, P < 7 → chL (lvB P P (fun _ => true)) = true := by decide +kernel
  intro P hP
  by_cases q : P = 7
  · subst q; exact h7
  · exact h P (by omega)
theorem lvB_m {P : Nat} : ∀ n av l, l ∈ lvB P n av → l.length = n ∧ ∀ x, x ∈ l → x < P
  | 0, av, l, h => by
    rw [lvB, List.mem_singleton] at h
    subst h
    exact ⟨rfl, fun x hx => absurd hx (List.not_mem_nil)⟩
  | n + 1, av, l, h => by
    rw [lvB, List.mem_flatMap] at h
    obtain ⟨a, ha, h⟩ := h
    by_cases q : av a = true
    · rw [if_pos q, List.mem_map] at h
      obtain ⟨l', h1, rfl⟩ := h
      obtain ⟨i1, i2⟩ := lvB_m n _ l' h1
      refine ⟨by rw [List.length_cons, i1], fun x hx => ?_⟩
      rcases List.mem_cons.mp hx with rfl | hx
      · exact List.mem_range.mp ha
      · exact i2 x hx
    · rw [if_neg q] at h; exact absurd h List.not_mem_nil
theorem getD_b {l : List Nat} {P : Nat} (hP : 0 < P) (h : ∀ x, x ∈ l → x < P) (j : Nat) : l.getD j 0 < P := by
  rw [List.getD_eq_getElem?_getD]
  cases e : l[j]? with
  | none => exact hP
  | some x => exact h x (List.mem_of_getElem? e)
/-- the order as cells -/
def lsM (k : Nat) (l : List Nat) (S : Sg) : Prop := ∀ j, j < l.length → S.1 k j = zI ((l.getD j 0 : Nat) : Int)
theorem f9_pv {S : Sg} {l : List Nat} (hl : l.length ≤ 7) (h : lsM 21 l S) (hb : ∀ j, l.getD j 0 < 7) : ∀ n, n < l.length → ∀ f, n < f → T_X9_nextOrder_7 S f (zI ((n : Int) - 1)) = some (match pvL l n with | none => zI (-1) | some p => zI (p : Int)) := by
  intro n
  induction n with
  | zero =>
    intro hn f hf
    obtain ⟨f, rfl⟩ : ∃ g, f = g + 1 := ⟨f - 1, by omega⟩
    simp only [T_X9_nextOrder_7]
    rw [if_lt0 (by omega) (by omega), if_pos (by omega)]; rfl
  | succ n ih =>
    intro hn f hf
    obtain ⟨f, rfl⟩ : ∃ g, f = g + 1 := ⟨f - 1, by omega⟩
    have b1 := hb n
    have b2 := hb (n + 1)
    simp only [T_X9_nextOrder_7]
    rw [if_lt0 (by omega) (by omega), if_neg (by omega), show ((n + 1 : Nat) : Int) - 1 = n by omega, zS, chk_N (by omega) (by omega), chk_N (by omega) (by omega), z_tnN (by omega), z_tnN (by omega), h n (by omega), h (n + 1) hn, pvL, if_leZ (by omega) (by omega) (by omega) (by omega), zpm]
    by_cases q : l.getD n 0 ≤ l.getD (n + 1) 0
    · rw [if_pos (by omega), if_pos q]
    · rw [if_neg (by omega), if_neg q]
      exact ih (by omega) f (by omega)
theorem pvL_lt {l : List Nat} : ∀ n p, pvL l n = some p → p < n
  | 0, p, h => by cases h
  | n + 1, p, h => by
    rw [pvL] at h
    by_cases q : l.getD n 0 ≤ l.getD (n + 1) 0
    · rw [if_pos q] at h; cases h; omega
    · rw [if_neg q] at h; have := pvL_lt n p h; omega
theorem gtL_le {l : List Nat} {v : Nat} : ∀ n, gtL l v n ≤ n
  | 0 => Nat.le_refl _
  | n + 1 => by have := gtL_le (l := l) (v := v) n; rw [gtL]; split <;> omega
theorem f9_gt {S : Sg} {l : List Nat} (hl : l.length ≤ 7) (h : lsM 21 l S) (hb : ∀ j, l.getD j 0 < 7) {p : Nat} : ∀ n, n < l.length → p ≤ n → ∀ f, n < f → T_X9_nextOrder_47 S (zI p) f (zI n) = some (zI ((gtL l (l.getD p 0) n : Nat) : Int)) := by
  intro n
  induction n with
  | zero =>
    intro hn hp f hf
    obtain ⟨f, rfl⟩ : ∃ g, f = g + 1 := ⟨f - 1, by omega⟩
    have ep : p = 0 := by omega
    subst ep
    have b1 := hb 0
    simp only [T_X9_nextOrder_47]
    rw [chk_N (by omega) (by omega), chk_N (by omega) (by omega), z_tnN (by omega), if_pos (Int32.le_refl _)]; rfl
  | succ n ih =>
    intro hn hp f hf
    obtain ⟨f, rfl⟩ : ∃ g, f = g + 1 := ⟨f - 1, by omega⟩
    have b1 := hb p
    have b2 := hb (n + 1)
    simp only [T_X9_nextOrder_47]
    rw [chk_N (by omega) (by omega), chk_N (by omega) (by omega), z_tnN (by omega), z_tnN (by omega), h p (by omega), h (n + 1) hn, gtL, if_leZ (by omega) (by omega) (by omega) (by omega), zpm, show ((n + 1 : Nat) : Int) - 1 = n by omega]
    by_cases q : l.getD p 0 ≤ l.getD (n + 1) 0
    · rw [if_pos (by omega), if_pos q]
    · rw [if_neg (by omega), if_neg q]
      have : p ≠ n + 1 := fun e => q (by rw [e]; exact Nat.le_refl _)
      exact ih (by omega) (by omega) f (by omega)
theorem lsM_sw {k : Nat} {l : List Nat} {S : Sg} (h : lsM k l S) {i j : Nat} (hi : i < l.length) (hj : j < l.length) : lsM k ((l.set i (l.getD j 0)).set j (l.getD i 0)) (wI (wI S k i (zI ((l.getD j 0 : Nat) : Int))) k j (zI ((l.getD i 0 : Nat) : Int))) := by
  intro x hx
  rw [List.length_set, List.length_set] at hx
  rw [getD_set (by rw [List.length_set]; exact hj), getD_set hi, wI_1, if_pos rfl, wI_1, if_pos rfl]
  by_cases e1 : x = j
  · rw [if_pos e1, if_pos e1]
  · rw [if_neg e1, if_neg e1]
    by_cases e2 : x = i
    · rw [if_pos e2, if_pos e2]
    · rw [if_neg e2, if_neg e2]; exact h x hx
def o21 (S S' : Sg) : Prop := ∀ c n, c ≠ 21 → S'.1 c n = S.1 c n
theorem o21_sw {S : Sg} {i j : Nat} {v w : Int32} : o21 S (wI (wI S 21 i v) 21 j w) := fun c n h => by rw [wI_ne (.inl h), wI_ne (.inl h)]
theorem f9_rv : ∀ n hi lo, hi < 7 → lo < 100 → hi < n + lo → ∀ f, n < f → ∀ (l : List Nat) (S : Sg), lsM 21 l S → hi < l.length → ∃ S', T_X9_nextOrder_107 f (zI ((hi : Nat) : Int)) (zI ((lo : Nat) : Int)) S = some S' ∧ lsM 21 (rvL l n hi lo) S' ∧ o21 S S' := by
  intro n
  induction n with
  | zero =>
    intro hi lo h7 h100 hh f hf l S h hl
    obtain ⟨f, rfl⟩ : ∃ g, f = g + 1 := ⟨f - 1, by omega⟩
    simp only [T_X9_nextOrder_107]
    by_cases q : hi ≤ lo
    · rw [if_leZ (by omega) (by omega) (by omega) (by omega), if_pos (by omega)]
      exact ⟨S, rfl, h, fun _ _ _ => rfl⟩
    · omega
  | succ n ih =>
    intro hi lo h7 h100 hh f hf l S h hl
    obtain ⟨f, rfl⟩ : ∃ g, f = g + 1 := ⟨f - 1, by omega⟩
    simp only [T_X9_nextOrder_107]
    rw [rvL]
    by_cases q : hi ≤ lo
    · rw [if_leZ (by omega) (by omega) (by omega) (by omega), if_pos (by omega), if_pos q]
      exact ⟨S, rfl, h, fun _ _ _ => rfl⟩
    · rw [if_leZ (by omega) (by omega) (by omega) (by omega), if_neg (by omega), if_neg q, chk_N (by omega) (by omega), z_tnN (by omega), z_tnN (by omega), nm, chk_N (by omega) (by omega), chk_N (by omega) (by omega), nm, chk_N (by omega) (by omega), nm, h lo (by omega), h hi hl, zpm, zS, show (hi : Int) - 1 = ((hi - 1 : Nat) : Int) by omega]
      obtain ⟨S', k1, k2, k3⟩ := ih (hi - 1) (lo + 1) (by omega) (by omega) (by omega) f (by omega) _ _ (lsM_sw h (i := lo) (j := hi) (by omega) hl) (by rw [List.length_set, List.length_set]; omega)
      exact ⟨S', k1, k2, fun c n hc => (k3 c n hc).trans (o21_sw c n hc)⟩
/-- the next order -/
theorem f9_order {S : Sg} {l : List Nat} (hl : l.length ≤ 7) (hl0 : 0 < l.length) (h7 : S.1 0 7 = zI (l.length : Int)) (h : lsM 21 l S) (hb : ∀ j, l.getD j 0 < 7) : (nxL l = none → ∃ S', F_X9_nextOrder S = some (0, S') ∧ lsM 21 l S' ∧ o21 S S') ∧ ∀ l', nxL l = some l' → ∃ S', F_X9_nextOrder S = some (1, S') ∧ lsM 21 l' S' ∧ o21 S S' := by
  have hpv := f9_pv hl h hb (l.length - 1) (by omega) FU (by unfold FU; omega)
  have e2 : zI (l.length : Int) - 2 = zI (((l.length - 1 : Nat) : Int) - 1) := by
    rw [show (2 : Int32) = zI 2 from rfl, z_sub]; exact congrArg zI (by omega)
  unfold F_X9_nextOrder nxL
  rw [h7, nm, e2, hpv, bd_some]
  cases e : pvL l (l.length - 1) with
  | none =>
    refine ⟨fun _ => ⟨S, ?_, h, fun _ _ _ => rfl⟩, fun l' hq => by cases hq⟩
    show (if (0 : Int32) ≤ zI (-1) then _ else _) = _
    rw [if_neg (by decide)]
  | some p =>
    have hp := pvL_lt _ _ e
    have hg := gtL_le (l := l) (v := l.getD p 0) (l.length - 1)
    refine ⟨fun hq => (by cases hq), fun l' hq => ?_⟩
    cases hq
    have cp : ∀ {α : Type} (K : Option α), chk (inB (zI (p : Int)) 7) K = K := fun K => chk_N (by omega) (by omega)
    have cg : ∀ {α : Type} (K : Option α), chk (inB (zI ((gtL l (l.getD p 0) (l.length - 1) : Nat) : Int)) 7) K = K := fun K => chk_N (by omega) (by omega)
    show ∃ S', (if (0 : Int32) ≤ zI (p : Int) then _ else _) = _ ∧ _
    rw [if_0le (by omega) (by omega), if_pos (by omega), z_pred hl0, nm, f9_gt hl h hb (l.length - 1) (by omega) (by omega) FU (by unfold FU; omega), bd_some]
    simp only [cp, cg, nm]
    rw [z_tnN (by omega), z_tnN (by omega), h p (by omega), h _ (by omega), wI_ne (c := 0) (.inl (by decide)), wI_ne (c := 0) (.inl (by decide)), h7, z_pred hl0, zS]
    obtain ⟨S', k1, k2, k3⟩ := f9_rv 8 (l.length - 1) (p + 1) (by omega) (by omega) (by omega) FU (by unfold FU; omega) _ _ (lsM_sw h (i := p) (j := gtL l (l.getD p 0) (l.length - 1)) (by omega) (by omega)) (by rw [List.length_set, List.length_set]; omega)
    rw [k1, bd_some]
    exact ⟨S', rfl, k2, fun c n hc => (k3 c n hc).trans (o21_sw c n hc)⟩
