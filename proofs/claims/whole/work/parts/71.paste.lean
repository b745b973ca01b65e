/-! ===== walls pasted ===== -/
def klL (l : List Nat) : Nat → Nat
  | 0 => 0
  | n + 1 => if l.getD (n + 1) 0 = 0 then klL l n else n + 1
def advL (l : List Nat) : List Nat := ((l.set (klL l (l.length - 1)) 0).set (klL l (l.length - 1) - 1) (l.getD (klL l (l.length - 1) - 1) 0 + 1)).set (l.length - 1) (l.getD (klL l (l.length - 1)) 0 - 1)
def endL : Nat → List Nat → Bool
  | 0, _ => false
  | n + 1, l => l.all (fun x => decide (x ≤ 6)) && (if klL l (l.length - 1) = 0 then true else endL n (advL l))
def iniL (W t : Nat) : List Nat := (List.replicate W 0).set (W - 1) t
theorem end_all : ∀ W, W < 7 → 0 < W → ∀ t, t < 7 → endL 999 (iniL W t) = true := by decide +kernel
theorem klL_le {l : List Nat} : ∀ n, klL l n ≤ n
  | 0 => Nat.le_refl _
  | n + 1 => by have := klL_le (l := l) n; rw [klL]; split <;> omega
theorem klL_0 {l : List Nat} : ∀ n j, klL l n < j → j ≤ n → l.getD j 0 = 0
  | 0, j, h1, h2 => by rw [klL] at h1; omega
  | n + 1, j, h1, h2 => by
    rw [klL] at h1
    by_cases q : l.getD (n + 1) 0 = 0
    · rw [if_pos q] at h1
      by_cases e : j = n + 1
      · rw [e]; exact q
      · exact klL_0 n j h1 (by omega)
    · rw [if_neg q] at h1; omega
theorem klL_n {l : List Nat} : ∀ n, 0 < klL l n → l.getD (klL l n) 0 ≠ 0
  | 0, h => absurd h (Nat.lt_irrefl _)
  | n + 1, h => by
    rw [klL] at h ⊢
    by_cases q : l.getD (n + 1) 0 = 0
    · rw [if_pos q] at h ⊢; exact klL_n n h
    · rw [if_neg q]; exact q
theorem getD_set {l : List Nat} {i j v : Nat} (h : i < l.length) : (l.set i v).getD j 0 = if j = i then v else l.getD j 0 := by
  rw [List.getD_eq_getElem?_getD, List.getD_eq_getElem?_getD, List.getElem?_set]
  by_cases e : j = i
  · subst e
    rw [if_pos rfl, if_pos h, if_pos rfl]; rfl
  · rw [if_neg (fun q => e q.symm), if_neg e]
theorem advL_len {l : List Nat} : (advL l).length = l.length := by
  unfold advL
  rw [List.length_set, List.length_set, List.length_set]
theorem advL_g {l : List Nat} {j : Nat} (hl : 0 < l.length) : (advL l).getD j 0 = if j = l.length - 1 then l.getD (klL l (l.length - 1)) 0 - 1 else if j = klL l (l.length - 1) - 1 then l.getD (klL l (l.length - 1) - 1) 0 + 1 else if j = klL l (l.length - 1) then 0 else l.getD j 0 := by
  have hk := klL_le (l := l) (l.length - 1)
  unfold advL
  rw [getD_set (by rw [List.length_set, List.length_set]; omega), getD_set (by rw [List.length_set]; omega), getD_set (by omega)]
theorem iniL_len {W t : Nat} : (iniL W t).length = W := by
  unfold iniL
  rw [List.length_set, List.length_replicate]
theorem iniL_g {W t j : Nat} (hW : 0 < W) : (iniL W t).getD j 0 = if j = W - 1 then t else 0 := by
  unfold iniL
  rw [getD_set (by rw [List.length_replicate]; omega)]
  by_cases e : j = W - 1
  · rw [if_pos e, if_pos e]
  · rw [if_neg e, if_neg e, List.getD_eq_getElem?_getD, List.getElem?_replicate]
    split <;> rfl
theorem endL_6 {n : Nat} {l : List Nat} (h : endL n l = true) (j : Nat) : l.getD j 0 ≤ 6 := by
  cases n with
  | zero => cases h
  | succ n =>
    rw [endL, Bool.and_eq_true, List.all_eq_true] at h
    rw [List.getD_eq_getElem?_getD]
    cases e : l[j]? with
    | none => exact Nat.zero_le _
    | some x =>
      have := h.1 x (List.mem_of_getElem? e)
      rw [decide_eq_true_eq] at this
      exact this
/-- the shares as cells -/
def shr (k : Nat) (W : Nat) (S : Sg) (l : List Nat) : Prop := ∀ j, j < W → S.1 k j = zI ((l.getD j 0 : Nat) : Int)
theorem zpm {x : Nat} : zI x + (-1 : Int32) = zI ((x : Int) - 1) := by
  rw [show (-1 : Int32) = zI (-1) from rfl, z_add]; rfl
theorem f5_kl {S : Sg} {l : List Nat} {W : Nat} (hW : W ≤ 6) (h : shr 13 W S l) (h6 : ∀ j, l.getD j 0 ≤ 6) : ∀ k, k < W → ∀ n, k < n → T_X5_advance_7 S n (zI k) = some (zI (klL l k)) := by
  intro k
  induction k with
  | zero =>
    intro hk n hn
    obtain ⟨n, rfl⟩ : ∃ g, n = g + 1 := ⟨n - 1, by omega⟩
    simp only [T_X5_advance_7]
    rw [if_le0 (by omega) (by omega), if_pos (by omega)]; rfl
  | succ k ih =>
    intro hk n hn
    obtain ⟨n, rfl⟩ : ∃ g, n = g + 1 := ⟨n - 1, by omega⟩
    have := h6 (k + 1)
    simp only [T_X5_advance_7]
    rw [if_le0 (by omega) (by omega), if_neg (by omega), chk_N (by omega) (by omega), z_tnN (by omega), h (k + 1) hk, if_eq0 (by omega) (by omega), zpm, show ((k + 1 : Nat) : Int) - 1 = k by omega, klL]
    by_cases q : l.getD (k + 1) 0 = 0
    · rw [if_pos (by omega), if_pos q]
      exact ih (by omega) n (by omega)
    · rw [if_neg (by omega), if_neg q]
def av8 (l : List Nat) (W : Nat) (S : Sg) : Sg := wI (wI (wI S 13 (klL l (W - 1)) 0) 13 (klL l (W - 1) - 1) (zI ((l.getD (klL l (W - 1) - 1) 0 + 1 : Nat) : Int))) 13 (W - 1) (zI ((l.getD (klL l (W - 1)) 0 - 1 : Nat) : Int))
theorem f5_adv {S : Sg} {l : List Nat} {W : Nat} (hW0 : 0 < W) (hW : W ≤ 6) (h12 : S.1 12 1 = zI W) (h : shr 13 W S l) (h6 : ∀ j, l.getD j 0 ≤ 6) : F_X5_advance S = if klL l (W - 1) = 0 then some (0, S) else some (1, av8 l W S) := by
  have hk := klL_le (l := l) (W - 1)
  rw [F_X5_advance, h12, nm, z_pred hW0, f5_kl hW h h6 (W - 1) (by omega) FU (by unfold FU; omega), bd_some, if_0lt (by omega) (by omega)]
  by_cases q : klL l (W - 1) = 0
  · rw [if_neg (by omega), if_pos q]
  · have hn := klL_n (l := l) (W - 1) (by omega)
    have h6k := h6 (klL l (W - 1))
    have e1 : zI ((l.getD (klL l (W - 1)) 0 : Nat) : Int) - 1 = zI ((l.getD (klL l (W - 1)) 0 - 1 : Nat) : Int) := z_pred (by omega)
    rw [if_pos (by omega), if_neg q, z_pred (x := klL l (W - 1)) (by omega)]
    simp only [nm]
    rw [chk_N (by omega) (by omega), chk_N (by omega) (by omega), chk_N (by omega) (by omega), chk_N (by omega) (by omega), z_tnN (by omega), z_tnN (by omega), h _ (by omega), wI_ne (c := 13) (n := klL l (W - 1) - 1) (by omega), h _ (by omega), wI_ne (c := 12) (.inl (by decide)), wI_ne (c := 12) (.inl (by decide)), h12, z_pred hW0, chk_N (by omega) (by omega), z_tnN (by omega), e1, zS]
    rfl
theorem av8_s {S : Sg} {l : List Nat} {W : Nat} (hl : l.length = W) (hW0 : 0 < W) (h : shr 13 W S l) (q : klL l (W - 1) ≠ 0) : shr 13 W (av8 l W S) (advL l) := by
  intro j hj
  have hk := klL_le (l := l) (W - 1)
  rw [advL_g (by omega), hl]
  unfold av8
  rw [wI_1, if_pos rfl, wI_1, if_pos rfl, wI_1, if_pos rfl]
  by_cases e1 : j = W - 1
  · rw [if_pos e1, if_pos e1]
  · rw [if_neg e1, if_neg e1]
    by_cases e2 : j = klL l (W - 1) - 1
    · rw [if_pos e2, if_pos e2]
    · rw [if_neg e2, if_neg e2]
      by_cases e3 : j = klL l (W - 1)
      · rw [if_pos e3, if_pos e3]; rfl
      · rw [if_neg e3, if_neg e3]; exact h j hj
/-- the other side's next -/
theorem f9_kl {S : Sg} {l : List Nat} {W : Nat} (hW : W ≤ 6) (h : shr 24 W S l) (h6 : ∀ j, l.getD j 0 ≤ 6) : ∀ k, k < W → ∀ n, k < n → T_X9_nextPasted_19 S n (zI ((l.getD k 0 : Nat) : Int)) (zI ((k : Int) - 1)) = some (zI ((l.getD (klL l k) 0 : Nat) : Int), zI ((klL l k : Int) - 1)) := by
  intro k
  induction k with
  | zero =>
    intro hk n hn
    obtain ⟨n, rfl⟩ : ∃ g, n = g + 1 := ⟨n - 1, by omega⟩
    simp only [T_X9_nextPasted_19]
    rw [if_lt0 (by omega) (by omega), if_pos (by omega)]; rfl
  | succ k ih =>
    intro hk n hn
    obtain ⟨n, rfl⟩ : ∃ g, n = g + 1 := ⟨n - 1, by omega⟩
    have := h6 (k + 1)
    have := h6 k
    simp only [T_X9_nextPasted_19]
    rw [if_lt0 (by omega) (by omega), if_neg (by omega), if_eq0 (by omega) (by omega), klL]
    by_cases q : l.getD (k + 1) 0 = 0
    · rw [if_pos (by omega), if_pos q, show ((k + 1 : Nat) : Int) - 1 = k by omega, chk_N (by omega) (by omega), z_tnN (by omega), h k (by omega), q, nm, zpm, z_add, show ((0 : Nat) : Int) + ((l.getD k 0 : Nat) : Int) = ((l.getD k 0 : Nat) : Int) by omega]
      exact ih (by omega) n (by omega)
    · rw [if_neg (by omega), if_neg q]
def av9 (l : List Nat) (W : Nat) (S : Sg) : Sg := wr 24 (klL l (W - 1)) (fun j => if klL l (W - 1) + j = W - 1 then zI ((l.getD (klL l (W - 1)) 0 - 1 : Nat) : Int) else 0) (wI S 24 (klL l (W - 1) - 1) (zI ((l.getD (klL l (W - 1) - 1) 0 + 1 : Nat) : Int))) (W - klL l (W - 1))
theorem f9_next {S : Sg} {l : List Nat} {W : Nat} (hW0 : 0 < W) (hW : W ≤ 6) (h8 : S.1 0 8 = zI W) (h : shr 24 W S l) (h6 : ∀ j, l.getD j 0 ≤ 6) : F_X9_nextPasted S = if klL l (W - 1) = 0 then some (0, S) else some (1, av9 l W S) := by
  have hk := klL_le (l := l) (W - 1)
  have h6k := h6 (klL l (W - 1))
  rw [F_X9_nextPasted, h8, z_pred hW0, chk_N (by omega) (by omega), z_tnN (by omega), h _ (by omega), nm, nm, show zI (W : Int) - 2 = zI (((W - 1 : Nat) : Int) - 1) by rw [show (2 : Int32) = zI 2 from rfl, z_sub]; exact congrArg zI (by omega), f9_kl hW h h6 (W - 1) (by omega) FU (by unfold FU; omega), bd_some]
  show (if zI ((klL l (W - 1) : Int) - 1) < 0 then _ else if zI ((l.getD (klL l (W - 1)) 0 : Nat) : Int) = 0 then _ else _) = _
  rw [if_lt0 (by omega) (by omega), if_eq0 (by omega) (by omega)]
  by_cases q : klL l (W - 1) = 0
  · rw [if_pos (by omega), if_pos q]
  · have hn := klL_n (l := l) (W - 1) (by omega)
    have e1 : zI ((l.getD (klL l (W - 1)) 0 : Nat) : Int) - 1 = zI ((l.getD (klL l (W - 1)) 0 - 1 : Nat) : Int) := z_pred (by omega)
    have kl : ∀ d x, x + d = W - klL l (W - 1) → ∀ n, d < n → T_X9_nextPasted_66 (zI ((l.getD (klL l (W - 1)) 0 : Nat) : Int)) n (zI ((klL l (W - 1) + x : Nat) : Int)) (wr 24 (klL l (W - 1)) (fun j => if klL l (W - 1) + j = W - 1 then zI ((l.getD (klL l (W - 1)) 0 - 1 : Nat) : Int) else 0) (wI S 24 (klL l (W - 1) - 1) (zI ((l.getD (klL l (W - 1) - 1) 0 + 1 : Nat) : Int))) x) = some (av9 l W S) := by
      intro d
      induction d with
      | zero =>
        intro x hx n hn
        obtain ⟨n, rfl⟩ : ∃ g, n = g + 1 := ⟨n - 1, by omega⟩
        simp only [T_X9_nextPasted_66]
        rw [wr_n (.inl (by decide)), wI_ne (.inl (by decide)), h8, if_le_t (by omega) (by omega), show x = W - klL l (W - 1) by omega]; rfl
      | succ d ih =>
        intro x hx n hn
        obtain ⟨n, rfl⟩ : ∃ g, n = g + 1 := ⟨n - 1, by omega⟩
        simp only [T_X9_nextPasted_66]
        rw [wr_n (.inl (by decide)), wI_ne (.inl (by decide)), h8, if_le_f (by omega) (by omega), z_pred hW0, e1]
        have e2 : (if zI ((klL l (W - 1) + x : Nat) : Int) = zI ((W - 1 : Nat) : Int) then some (zI ((l.getD (klL l (W - 1)) 0 - 1 : Nat) : Int)) else some 0) = some (if klL l (W - 1) + x = W - 1 then zI ((l.getD (klL l (W - 1)) 0 - 1 : Nat) : Int) else 0) := by
          by_cases q : klL l (W - 1) + x = W - 1
          · rw [if_eqN_t q, if_pos q]
          · rw [if_eqN_f q (by omega) (by omega), if_neg q]
        rw [e2, bd_some, chk_N (by omega) (by omega), z_tnN (by omega), nm, zS]
        exact ih (x + 1) (by omega) n (by omega)
    have kl0 := kl (W - klL l (W - 1)) 0 (by omega) FU (by unfold FU; omega)
    rw [wr] at kl0
    rw [if_neg (by omega), if_neg (by omega), if_neg q, show (klL l (W - 1) : Int) - 1 = ((klL l (W - 1) - 1 : Nat) : Int) by omega, chk_N (by omega) (by omega), chk_N (by omega) (by omega), z_tnN (by omega), h _ (by omega), nm, nm, zS, zS, show klL l (W - 1) - 1 + 1 = klL l (W - 1) + 0 by omega, kl0, bd_some]
theorem av9_s {S : Sg} {l : List Nat} {W : Nat} (hl : l.length = W) (hW0 : 0 < W) (h : shr 24 W S l) (q : klL l (W - 1) ≠ 0) : shr 24 W (av9 l W S) (advL l) := by
  intro j hj
  have hk := klL_le (l := l) (W - 1)
  rw [advL_g (by omega), hl]
  unfold av9
  rw [wr_1]
  by_cases c : klL l (W - 1) ≤ j
  · rw [if_pos (by omega), show klL l (W - 1) + (j - klL l (W - 1)) = j by omega]
    by_cases e1 : j = W - 1
    · rw [if_pos e1, if_pos e1]
    · rw [if_neg e1, if_neg e1, if_neg (by omega)]
      by_cases e3 : j = klL l (W - 1)
      · rw [if_pos e3]; rfl
      · rw [if_neg e3, klL_0 (W - 1) j (by omega) (by omega)]; rfl
  · rw [if_neg (by omega), if_neg (by omega), wI_1, if_pos rfl]
    by_cases e2 : j = klL l (W - 1) - 1
    · rw [if_pos e2, if_pos e2]
    · rw [if_neg e2, if_neg e2, if_neg (by omega)]; exact h j hj
theorem av9_o {S : Sg} {l : List Nat} {W c n : Nat} (h : c ≠ 24) : (av9 l W S).1 c n = S.1 c n := by
  unfold av9
  rw [wr_n (.inl h), wI_ne (.inl h)]
theorem av8_sm {S : Sg} {l : List Nat} {W lo hi : Nat} (h : 13 < lo ∨ hi ≤ 13) : sm lo hi S (av8 l W S) := sm_tr (sm_tr (sm_wI h) (sm_wI h)) (sm_wI h)
