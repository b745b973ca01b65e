def klL (l : List Nat) : Nat → Nat
  | 0 => 0
  | n + 1 => if l.getD (n + 1) 0 = 0 then klL l n else n + 1
def advL (l : List Nat) : List Nat := ((l.set (klL l (l.length - 1)) 0).set (klL l (l.length - 1) - 1) (l.getD (klL l (l.length - 1) - 1) 0 + 1)).set (l.length - 1) (l.getD (klL l (l.length - 1)) 0 - 1)
def endL : Nat → List Nat → Bool
  | 0, _ => false
  | n + 1, l => l.all (fun x => decide (x ≤ 6)) && (if klL l (l.length - 1) = 0 then true else endL n (advL l))
def iniL (W t : Nat) : List Nat := (List.replicate W 0).set (W - 1) t
theorem end_all : ∀ W, W < 7 → 0 < W → ∀ t, t < 7 → endL 999 (iniL W t) = true := by decide +kernel
theorem klL_le {l : List Nat} : ∀ n, klL l n ≤ n
  | 0 => Nat.le_refl _
  | n + 1 => by have := klL_le (l := l) n; rw [klL]; split <;> omega
theorem klL_0 {l : List Nat} : ∀ n j, klL l n < j → j ≤ n → l.getD j 0 = 0
  | 0, j, h1, h2 => by rw [klL] at h1; omega
  | n + 1, j, h1, h2 => by
    rw [klL] at h1
    by_cases q : l.getD (n + 1) 0 = 0
    · rw [if_pos q] at h1
      by_cases e : j = n + 1
      · rw [e]; exact q
      · exact klL_0 n j h1 (by omega)
    · rw [if_neg q] at h1; omega
theorem klL_n {l : List Nat} : ∀ n, 0 < klL l n → l.getD (klL l n) 0 ≠ 0
  | 0, h => absurd h (Nat.lt_irrefl _)
  | n + 1, h => by
    rw [klL] at h ⊢
    by_cases q : l.getD (n + 1) 0 = 0
    · rw [if_pos q] at h ⊢; exact klL_n n h
    · rw [if_neg q]; exact q
theorem getD_set {l : List Nat} {i j v : Nat} (h : i < l.length) : (l.set i v).getD j 0 = if j = i then v else l.getD j 0 := by
  rw [List.getD_eq_getElem?_getD, List.getD_eq_getElem?_getD, List.getElem?_set]
  by_cases e : j = i
  · subst e
    rw [if_pos rfl, if_pos h, if_pos rfl]; rfl
  · rw [if_neg (fun q => e q.symm), if_neg e]
theorem advL_len {l : List Nat} : (advL l).length = l.length := by
  unfold advL
  rw [List.length_set, List.length_set, List.length_set]
theorem advL_g {l : List Nat} {j : Nat} (hl : 0 < l.length) : (advL l).getD j 0 = if j = l.length - 1 then l.getD (klL l (l.length - 1)) 0 - 1 else if j = klL l (l.length - 1) - 1 then l.getD (klL l (l.length - 1) - 1) 0 + 1 else if j = klL l (l.length - 1) then 0 else l.getD j 0 := by
  have hk := klL_le (l := l) (l.length - 1)
  unfold advL
  rw [getD_set (by rw [List.length_set, List.length_set]; omega), getD_set (by rw [List.length_set]; omega), getD_set (by omega)]
theorem iniL_len {W t : Nat} : (iniL W t).length = W := by
  unfold iniL
  rw [List.length_set, List.length_replicate]
theorem iniL_g {W t j : Nat} (hW : 0 < W) : (iniL W t).getD j 0 = if j = W - 1 then t else 0 := by
  unfold iniL
  rw [getD_set (by rw [List.length_replicate]; omega)]
  by_cases e : j = W - 1
  · rw [if_pos e, if_pos e]
  · rw [if_neg e, if_neg e, List.getD_eq_getElem?_getD, List.getElem?_replicate]
    split <;> rfl
theorem endL_6 {n : Nat} {l : List Nat} (h : endL n l = true) (j : Nat) : l.getD j 0 ≤ 6 := by
  cases n with
  | zero => cases h
  | succ n =>
    rw [endL, Bool.and_eq_true, List.all_eq_true] at h
    rw [List.getD_eq_getElem?_getD]
    cases e : l[j]? with
    | none => exact Nat.zero_le _
    | some x =>
      have := h.1 x (List.mem_of_getElem? e)
      rw [decide_eq_true_eq] at this
      exact this
/-- the shares as cells -/
def shr (k : Nat) (W : Nat) (S : Sg) (l : List Nat) : Prop := ∀ j, j < W → S.1 k j = zI ((l.getD j 0 : Nat) : Int)
theorem zpm {x : Nat} : zI x + (-1 : Int32) = zI ((x : Int) - 1) := by
  rw [show (-1 : Int32) = zI (-1) from rfl, z_add]; rfl
theorem f5_kl {S : Sg} {l : List Nat} {W : Nat} (hW : W ≤ 6) (h : shr 13 W S l) (h6 : ∀ j, l.getD j 0 ≤ 6) : ∀ k, k < W → ∀ n, k < n → T_X5_advance_7 S n (zI k) = some (zI (klL l k)) := by
  intro k
  induction k with
  | zero =>
    intro hk n hn
    obtain ⟨n, rfl⟩ : ∃ g, n = g + 1 := ⟨n - 1, by omega⟩
    simp only [T_X5_advance_7]
    rw [if_le0 (by omega) (by omega), if_pos (by omega)]; rfl
  | succ k ih =>
    intro hk n hn
    obtain ⟨n, rfl⟩ : ∃ g, n = g + 1 := ⟨n - 1, by omega⟩
    have := h6 (k + 1)
    simp only [T_X5_advance_7]
    rw [if_le0 (by omega) (by omega), if_neg (by omega), chk_N (by omega) (by omega), z_tnN (by omega), h (k + 1) hk, if_eq0 (by omega) (by omega), zpm, show ((k + 1 : Nat) : Int) - 1 = k by omega, klL]
    by_cases q : l.getD (k + 1) 0 = 0
    · rw [if_pos (by omega), if_pos q]
      exact ih (by omega) n (by omega)
    · rw [if_neg (by omega), if_neg q]
def av8 (l : List Nat) (W : Nat) (S : Sg) : Sg := wI (wI (wI S 13 (klL l (W - 1)) 0) 13 (klL l (W - 1) - 1) (zI ((l.getD (klL l (W - 1) - 1) 0 + 1 : Nat) : Int))) 13 (W - 1) (zI ((l.getD (klL l (W - 1)) 0 - 1 : Nat) : Int))
theorem f5_adv {S : Sg} {l : List Nat} {W : Nat} (hW0 : 0 < W) (hW : W ≤ 6) (h12 : S.1 12 1 = zI W) (h : shr 13 W S l) (h6 : ∀ j, l.getD j 0 ≤ 6) : F_X5_advance S = if klL l (W - 1) = 0 then some (0, S) else some (1, av8 l W S) := by
  have hk := klL_le (l := l) (W - 1)
  rw [F_X5_advance, h12, nm, z_pred hW0, f5_kl hW h h6 (W - 1) (by omega) FU (by unfold FU; omega), bd_some, if_0lt (by omega) (by omega)]
  by_cases q : klL l (W - 1) = 0
  · rw [if_neg (by omega), if_pos q]
  · have hn := klL_n (l := l) (W - 1) (by omega)
    have h6k := h6 (klL l (W - 1))
    have e1 : zI ((l.getD (klL l (W - 1)) 0 : Nat) : Int) - 1 = zI ((l.getD (klL l (W - 1)) 0 - 1 : Nat) : Int) := z_pred (by omega)
    rw [if_pos (by omega), if_neg q, z_pred (x := klL l (W - 1)) (by omega)]
    simp only [nm]
    rw [chk_N (by omega) (by omega), chk_N (by omega) (by omega), chk_N (by omega) (by omega), chk_N (by omega) (by omega), z_tnN (by omega), z_tnN (by omega), h _ (by omega), wI_ne (c := 13) (n := klL l (W - 1) - 1) (by omega), h _ (by omega), wI_ne (c := 12) (.inl (by decide)), wI_ne (c := 12) (.inl (by decide)), h12, z_pred hW0, chk_N (by omega) (by omega), z_tnN (by omega), e1, zSu]
    rfl
theorem av8_s {S : Sg} {l : List Nat} {W : Nat} (hl : l.length = W) (hW0 : 0 < W) (h : shr 13 W S l) (q : klL l (W - 1) ≠ 0) : shr 13 W (av8 l W S) (advL l) := by
  intro j hj
  have hk := klL_le (l := l) (W - 1)
  rw [advL_g (by omega), hl]
  unfold av8
  rw [wI_1, if_pos rfl, wI_1, if_pos rfl, wI_1, if_pos rfl]
  by_cases e1 : j = W - 1
  · rw [if_pos e1, if_pos e1]
  · rw [if_neg e1, if_neg e1]
    by_cases e2 : j = klL l (W - 1) - 1
    · rw [if_pos e2, if_pos e2]
    · rw [if_neg e2, if_neg e2]
      by_cases e3 : j = klL l (W - 1)
      · rw [if_pos e3, if_pos e3]; rfl
      · rw [if_neg e3, if_neg e3]; exact h j hj
theorem av8_sm {S : Sg} {l : List Nat} {W lo hi : Nat} (h : 13 < lo ∨ hi ≤ 13) : sm lo hi S (av8 l W S) := sm_tr (sm_tr (sm_wI h) (sm_wI h)) (sm_wI h)
def pas (a : AS) (l : List Nat) : AS := setN a 1 (fun j => aL a j + l.getD j 0)
theorem pas_w {a : AS} {l : List Nat} (w : WG a) (wh : WH a) (h6 : ∀ j, l.getD j 0 ≤ 6) : WG (pas a l) := ⟨w.1, w.2.1, w.2.2.1, fun j => by
  show aL a j + l.getD j 0 ≤ 26
  have := wh.2.2.2 j
  have := h6 j
  omega, w.2.2.2.2.1, w.2.2.2.2.2⟩
/-- the second street while it is tried -/
def pI (a : AS) (σ S : Sg) : Prop := CG 0 S a ∧ (S.1 47 9 = zI (aP a) ∧ S.1 47 8 = zI (aW a) ∧ (∀ x, x < aP a → S.1 50 x = zI (aK a x)) ∧ ∀ x, x < aP a → S.1 51 x = zI (aR a x)) ∧ CT 1 S a ∧ smS σ S ∧ RD S
theorem pI_cg {a : AS} {σ S S' : Sg} (h : pI a σ S) (e1 : ∀ c n, 34 ≤ c → c < 47 → S'.1 c n = S.1 c n) (e2 : ∀ c n, 47 ≤ c → c < 60 → c ≠ 48 → (c ≠ 49 ∨ n = 0) → S'.1 c n = S.1 c n) (e3 : smS S S') : pI a σ S' := by
  obtain ⟨h1, ⟨h2, h3, h4, h5⟩, h6, h7, h8⟩ := h
  have e34 : sb 0 = 34 := rfl
  have e47 : sb 1 = 47 := rfl
  exact ⟨CG_k (fun c n q => e1 _ _ (by omega) (by omega)) h1, ⟨(e2 _ _ (by decide) (by decide) (by decide) (by decide)).trans h2, (e2 _ _ (by decide) (by decide) (by decide) (by decide)).trans h3, fun x hx => (e2 _ _ (by decide) (by decide) (by decide) (.inl (by decide))).trans (h4 x hx), fun x hx => (e2 _ _ (by decide) (by decide) (by decide) (.inl (by decide))).trans (h5 x hx)⟩, CT_k (fun c n q => e2 _ _ (by omega) (by omega) (by omega) (by omega)) h6, smS_tr h7 e3, (e2 49 0 (by decide) (by decide) (by decide) (by decide)).trans h8⟩
def pw8 (a : AS) (l : List Nat) (S : Sg) : Sg := wr 48 0 (fun j => zI ((aL a j + l.getD j 0 : Nat) : Int)) S (aW a)
theorem f8_p1 {a : AS} {σ S : Sg} {l : List Nat} (w : WG a) (hI : pI a σ S) (h : shr 13 (aW a) S l) {p q : Int32} : T_X8_isSafeByPasting_27 p q FU 0 S = some (pw8 a l S) := by
  have wW := w.2.1
  have e34 : sb 0 = 34 := rfl
  have e47 : sb 1 = 47 := rfl
  refine loopE (fun n x => T_X8_isSafeByPasting_27 p q n (zI x) (wr 48 0 (fun j => zI ((aL a j + l.getD j 0 : Nat) : Int)) S x)) (aW a) (some (pw8 a l S)) (by omega) (fun n => ?_) (fun n x hx => ?_)
  · simp only [T_X8_isSafeByPasting_27]
    rw [wr_n (.inl (by decide)), hI.1.2.1, if_le_t (by omega) (by omega)]; rfl
  · simp only [T_X8_isSafeByPasting_27]
    rw [wr_n (.inl (by decide)), hI.1.2.1, if_le_f hx (by omega), chk_N (by omega) (by omega), chk_N (by omega) (by omega), chk_N (by omega) (by omega), z_tnN (by omega), wr_n (.inl (by decide)), wr_n (.inl (by decide)), hI.1.2.2.1 x hx, h x hx, z_add, nm, zSu, wr, Nat.zero_add]
    exact congrArg (fun z => T_X8_isSafeByPasting_27 p q n (zI ((x + 1 : Nat) : Int)) (wI (wr 48 0 (fun j => zI ((aL a j + l.getD j 0 : Nat) : Int)) S x) 48 x (zI z))) (by push_cast; rfl)
def pm8 (a : AS) (l : List Nat) (S : Sg) : Sg := msr 1 (aD (pas a l)) (pw8 a l S) (aW a)
theorem pm8_o {a : AS} {l : List Nat} {S : Sg} {c n : Nat} (h : c ≠ 48) (h2 : c ≠ 49 ∨ n = 0) : (pm8 a l S).1 c n = S.1 c n := (msr_o h2 _).trans (wr_n (.inl h))
theorem pm8_sm {a : AS} {l : List Nat} {S : Sg} {lo hi : Nat} (h : 49 < lo ∨ hi ≤ 48) : sm lo hi S (pm8 a l S) := sm_tr (wr_sm (by omega) _) (msr_sm (by show 49 < lo ∨ hi ≤ 49; omega) _)
theorem f8_p2 {a : AS} {σ S : Sg} {l : List Nat} (w : WG a) (hI : pI a σ S) : F_X6_measure 1 (pw8 a l S) = some (pm8 a l S) := by
  refine f6_measure (L := aL (pas a l)) w.2.1 ((wr_n (.inl (by decide))).trans hI.2.1.2.1) (fun j hj => ?_) ((wr_n (.inl (by decide))).trans (show S.1 (sb 1 + 2) 0 = zI ((aD (pas a l) 0 : Nat) : Int) from hI.2.2.2.2)) (fun _ => rfl)
  exact wr_e0 hj
theorem pm8_I {a : AS} {σ S : Sg} {l : List Nat} (hI : pI a σ S) : pI a σ (pm8 a l S) ∧ CG 1 (pm8 a l S) (pas a l) := by
  refine ⟨pI_cg hI (fun c n h1 h2 => pm8_o (by omega) (by omega)) (fun c n h1 h2 h3 h4 => pm8_o h3 h4) ⟨pm8_sm (by decide), pm8_sm (by decide), pm8_sm (by decide)⟩, ?_⟩
  refine ⟨(pm8_o (by decide) (.inl (by decide))).trans hI.2.1.1, (pm8_o (by decide) (.inl (by decide))).trans hI.2.1.2.1, fun j hj => ?_, fun r hr => ?_, fun j hj => (pm8_o (by decide) (.inl (by decide))).trans (hI.2.1.2.2.1 j hj), fun j hj => (pm8_o (by decide) (.inl (by decide))).trans (hI.2.1.2.2.2 j hj)⟩
  · exact (msr_o (.inl (by decide)) _).trans (wr_e0 hj)
  · exact msr_d ((wr_n (.inl (by decide))).trans (show S.1 (sb 1 + 2) 0 = zI ((aD (pas a l) 0 : Nat) : Int) from hI.2.2.2.2)) (aW a) r hr
theorem f5_begin {S : Sg} {W t : Nat} (hW0 : 0 < W) (hW : W ≤ 6) : F_X5_begin S (zI W) (zI t) = some (wr 13 0 (fun j => if j = W - 1 then zI t else 0) (wI S 12 1 (zI W)) W) := by
  have q := loopE (fun n x => T_X5_begin_7 (zI W) (zI t) n (zI x) (wr 13 0 (fun j => if j = W - 1 then zI t else 0) (wI S 12 1 (zI W)) x)) W (some (wr 13 0 (fun j => if j = W - 1 then zI t else 0) (wI S 12 1 (zI W)) W)) (by omega) (fun n => by
    simp only [T_X5_begin_7]
    rw [if_le_t (by omega) (by omega)]) (fun n x hx => by
    simp only [T_X5_begin_7]
    have e2 : (if zI (x : Int) = zI ((W - 1 : Nat) : Int) then some (zI (t : Int)) else some 0) = some (if x = W - 1 then zI t else 0) := by
      by_cases q : x = W - 1
      · rw [if_eqN_t q, if_pos q]
      · rw [if_eqN_f q (by omega) (by omega), if_neg q]
    rw [if_le_f hx (by omega), z_pred hW0, e2, bd_some, chk_N (by omega) (by omega), z_tnN (by omega), nm, zSu, wr, Nat.zero_add])
  rw [F_X5_begin, nm]
  exact bd_t q
theorem ini_s {k W t : Nat} {S : Sg} (hW0 : 0 < W) : shr k W (wr k 0 (fun j => if j = W - 1 then zI t else 0) S W) (iniL W t) := by
  intro j hj
  rw [wr_e0 hj, iniL_g hW0]
  by_cases e : j = W - 1
  · rw [if_pos e, if_pos e]
  · rw [if_neg e, if_neg e]; rfl
