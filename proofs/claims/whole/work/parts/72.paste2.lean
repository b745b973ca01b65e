/-! ===== walls pasted: all ways, all numbers ===== -/
def pas (a : AS) (l : List Nat) : AS := setN a 1 (fun j => aL a j + l.getD j 0)
theorem pas_w {a : AS} {l : List Nat} (w : WG a) (wh : WH a) (h6 : ∀ j, l.getD j 0 ≤ 6) : WG (pas a l) := ⟨w.1, w.2.1, w.2.2.1, fun j => by
  show aL a j + l.getD j 0 ≤ 26
  have := wh.2.2.2 j
  have := h6 j
  omega, w.2.2.2.2.1, w.2.2.2.2.2⟩
/-- the second street while it is tried -/
def pI (a : AS) (σ S : Sg) : Prop := CG 0 S a ∧ (S.1 47 9 = zI (aP a) ∧ S.1 47 8 = zI (aW a) ∧ (∀ x, x < aP a → S.1 50 x = zI (aK a x)) ∧ ∀ x, x < aP a → S.1 51 x = zI (aR a x)) ∧ CT 1 S a ∧ smS σ S ∧ RD S
theorem pI_cg {a : AS} {σ S S' : Sg} (h : pI a σ S) (e1 : ∀ c n, 34 ≤ c → c < 47 → S'.1 c n = S.1 c n) (e2 : ∀ c n, 47 ≤ c → c < 60 → c ≠ 48 → (c ≠ 49 ∨ n = 0) → S'.1 c n = S.1 c n) (e3 : smS S S') : pI a σ S' := by
  obtain ⟨h1, ⟨h2, h3, h4, h5⟩, h6, h7, h8⟩ := h
  have e34 : sb 0 = 34 := rfl
  have e47 : sb 1 = 47 := rfl
  exact ⟨CG_k (fun c n q => e1 _ _ (by omega) (by omega)) h1, ⟨(e2 _ _ (by decide) (by decide) (by decide) (by decide)).trans h2, (e2 _ _ (by decide) (by decide) (by decide) (by decide)).trans h3, fun x hx => (e2 _ _ (by decide) (by decide) (by decide) (.inl (by decide))).trans (h4 x hx), fun x hx => (e2 _ _ (by decide) (by decide) (by decide) (.inl (by decide))).trans (h5 x hx)⟩, CT_k (fun c n q => e2 _ _ (by omega) (by omega) (by omega) (by omega)) h6, smS_tr h7 e3, (e2 49 0 (by decide) (by decide) (by decide) (by decide)).trans h8⟩
def pw8 (a : AS) (l : List Nat) (S : Sg) : Sg := wr 48 0 (fun j => zI ((aL a j + l.getD j 0 : Nat) : Int)) S (aW a)
theorem f8_p1 {a : AS} {σ S : Sg} {l : List Nat} (w : WG a) (hI : pI a σ S) (h : shr 13 (aW a) S l) {p q : Int32} : T_X8_isSafeByPasting_27 p q FU 0 S = some (pw8 a l S) := by
  have wW := w.2.1
  have e34 : sb 0 = 34 := rfl
  have e47 : sb 1 = 47 := rfl
  refine loopE (fun n x => T_X8_isSafeByPasting_27 p q n (zI x) (wr 48 0 (fun j => zI ((aL a j + l.getD j 0 : Nat) : Int)) S x)) (aW a) (some (pw8 a l S)) (by omega) (fun n => ?_) (fun n x hx => ?_)
  · simp only [T_X8_isSafeByPasting_27]
    rw [wr_n (.inl (by decide)), hI.1.2.1, if_le_t (by omega) (by omega)]; rfl
  · simp only [T_X8_isSafeByPasting_27]
    rw [wr_n (.inl (by decide)), hI.1.2.1, if_le_f hx (by omega), chk_N (by omega) (by omega), chk_N (by omega) (by omega), chk_N (by omega) (by omega), z_tnN (by omega), wr_n (.inl (by decide)), wr_n (.inl (by decide)), hI.1.2.2.1 x hx, h x hx, z_add, nm, zS, wr, Nat.zero_add]
    exact congrArg (fun z => T_X8_isSafeByPasting_27 p q n (zI ((x + 1 : Nat) : Int)) (wI (wr 48 0 (fun j => zI ((aL a j + l.getD j 0 : Nat) : Int)) S x) 48 x (zI z))) (by push_cast; rfl)
def pm8 (a : AS) (l : List Nat) (S : Sg) : Sg := msr 1 (aD (pas a l)) (pw8 a l S) (aW a)
theorem pm8_o {a : AS} {l : List Nat} {S : Sg} {c n : Nat} (h : c ≠ 48) (h2 : c ≠ 49 ∨ n = 0) : (pm8 a l S).1 c n = S.1 c n := (msr_o h2 _).trans (wr_n (.inl h))
theorem pm8_sm {a : AS} {l : List Nat} {S : Sg} {lo hi : Nat} (h : 49 < lo ∨ hi ≤ 48) : sm lo hi S (pm8 a l S) := sm_tr (wr_sm (by omega) _) (msr_sm (by show 49 < lo ∨ hi ≤ 49; omega) _)
theorem f8_p2 {a : AS} {σ S : Sg} {l : List Nat} (w : WG a) (hI : pI a σ S) : F_X6_measure 1 (pw8 a l S) = some (pm8 a l S) := by
  refine f6_measure (L := aL (pas a l)) w.2.1 ((wr_n (.inl (by decide))).trans hI.2.1.2.1) (fun j hj => ?_) ((wr_n (.inl (by decide))).trans (show S.1 (sb 1 + 2) 0 = zI ((aD (pas a l) 0 : Nat) : Int) from hI.2.2.2.2)) (fun _ => rfl)
  exact wr_e0 hj
theorem pm8_I {a : AS} {σ S : Sg} {l : List Nat} (hI : pI a σ S) : pI a σ (pm8 a l S) ∧ CG 1 (pm8 a l S) (pas a l) := by
  refine ⟨pI_cg hI (fun c n h1 h2 => pm8_o (by omega) (by omega)) (fun c n h1 h2 h3 h4 => pm8_o h3 h4) ⟨pm8_sm (by decide), pm8_sm (by decide), pm8_sm (by decide)⟩, ?_⟩
  refine ⟨(pm8_o (by decide) (.inl (by decide))).trans hI.2.1.1, (pm8_o (by decide) (.inl (by decide))).trans hI.2.1.2.1, fun j hj => ?_, fun r hr => ?_, fun j hj => (pm8_o (by decide) (.inl (by decide))).trans (hI.2.1.2.2.1 j hj), fun j hj => (pm8_o (by decide) (.inl (by decide))).trans (hI.2.1.2.2.2 j hj)⟩
  · exact (msr_o (.inl (by decide)) _).trans (wr_e0 hj)
  · exact msr_d ((wr_n (.inl (by decide))).trans (show S.1 (sb 1 + 2) 0 = zI ((aD (pas a l) 0 : Nat) : Int) from hI.2.2.2.2)) (aW a) r hr
/-- the other side: walls pasted, and taken off again -/
def pq9 (μ T : Sg) : Prop := ∀ c n, c ≠ 24 → T.1 c n = μ.1 c n
def pw9 (a : AS) (l : List Nat) (T : Sg) : Sg := wr 7 0 (fun j => zI ((aL a j + l.getD j 0 : Nat) : Int)) T (aW a)
theorem f9_p1 {a : AS} {μ T : Sg} {l : List Nat} (w : WG a) (mg : MG μ a) (hT : pq9 μ T) (h : shr 24 (aW a) T l) {p : Int32} : T_X9_isSafePasted_2 p FU 0 T = some (pw9 a l T) := by
  have wW := w.2.1
  refine loopE (fun n x => T_X9_isSafePasted_2 p n (zI x) (wr 7 0 (fun j => zI ((aL a j + l.getD j 0 : Nat) : Int)) T x)) (aW a) (some (pw9 a l T)) (by omega) (fun n => ?_) (fun n x hx => ?_)
  · simp only [T_X9_isSafePasted_2]
    rw [wr_n (.inl (by decide)), hT _ _ (by decide), mg.2.1, if_le_t (by omega) (by omega)]; rfl
  · simp only [T_X9_isSafePasted_2]
    rw [wr_n (.inl (by decide)), hT _ _ (by decide), mg.2.1, if_le_f hx (by omega), chk_N (by omega) (by omega), chk_N (by omega) (by omega), chk_N (by omega) (by omega), z_tnN (by omega), wr_n (c := 7) (j := x) (by omega), wr_n (.inl (by decide)), hT _ _ (by decide), mg.2.2.1 x hx, h x hx, z_add, nm, zS, wr, Nat.zero_add]
    exact congrArg (fun z => T_X9_isSafePasted_2 p n (zI ((x + 1 : Nat) : Int)) (wI (wr 7 0 (fun j => zI ((aL a j + l.getD j 0 : Nat) : Int)) T x) 7 x (zI z))) (by push_cast; rfl)
def pu9 (a : AS) (l : List Nat) (T : Sg) : Sg := wr 7 0 (fun j => zI (aL a j)) (pw9 a l T) (aW a)
theorem f9_p2 {a : AS} {μ T : Sg} {l : List Nat} (w : WG a) (mg : MG μ a) (hT : pq9 μ T) (h : shr 24 (aW a) T l) {p : Int32} : T_X9_isSafePasted_40 p FU 0 (pw9 a l T) = some (pu9 a l T) := by
  have wW := w.2.1
  refine loopE (fun n x => T_X9_isSafePasted_40 p n (zI x) (wr 7 0 (fun j => zI (aL a j)) (pw9 a l T) x)) (aW a) (some (pu9 a l T)) (by omega) (fun n => ?_) (fun n x hx => ?_)
  · simp only [T_X9_isSafePasted_40]
    rw [wr_n (.inl (by decide)), pw9, wr_n (.inl (by decide)), hT _ _ (by decide), mg.2.1, if_le_t (by omega) (by omega)]; rfl
  · simp only [T_X9_isSafePasted_40]
    rw [wr_n (c := 0) (.inl (by decide)), pw9, wr_n (c := 0) (.inl (by decide)), hT 0 _ (by decide), mg.2.1, if_le_f hx (by omega), chk_N (by omega) (by omega), chk_N (by omega) (by omega), chk_N (by omega) (by omega), z_tnN (by omega), wr_n (c := 7) (j := x) (by omega), wr_e0 hx, wr_n (.inl (by decide)), wr_n (.inl (by decide)), h x hx, z_sub, nm, zS, wr, Nat.zero_add]
    exact congrArg (fun z => T_X9_isSafePasted_40 p n (zI ((x + 1 : Nat) : Int)) (wI (wr 7 0 (fun j => zI (aL a j)) (wr 7 0 (fun j => zI ((aL a j + l.getD j 0 : Nat) : Int)) T (aW a)) x) 7 x (zI z))) (by push_cast; omega)
theorem pu9_e {a : AS} {μ T : Sg} {l : List Nat} (mg : MG μ a) (hT : pq9 μ T) : eqM T (pu9 a l T) := by
  intro c n
  unfold pu9 pw9
  rw [wr_1]
  by_cases q : c = 7 ∧ 0 ≤ n ∧ n < 0 + aW a
  · rw [if_pos q, q.1, hT _ _ (by decide), mg.2.2.1 n (by omega), Nat.sub_zero]
  · rw [if_neg q, wr_n (by omega)]
theorem f9_ps {a : AS} {μ T : Sg} {l : List Nat} (w : WG a) (wt : WT a) (wh : WH a) (mg : MG μ a) (mt : MT μ a) (hT : pq9 μ T) (h : shr 24 (aW a) T l) (h6 : ∀ j, l.getD j 0 ≤ 6) {k : Nat} (hk : k < aT a) : F_X9_isSafePasted T (zI k) = some (bI (saf (pas a l) k 0), pu9 a l T) := by
  have mg' : MG (pw9 a l T) (pas a l) := ⟨(wr_n (.inl (by decide))).trans ((hT _ _ (by decide)).trans mg.1), (wr_n (.inl (by decide))).trans ((hT _ _ (by decide)).trans mg.2.1), fun j hj => wr_e0 hj, fun j hj => (wr_n (.inl (by decide))).trans ((hT _ _ (by decide)).trans (mg.2.2.2.1 j hj)), fun j hj => (wr_n (.inl (by decide))).trans ((hT _ _ (by decide)).trans (mg.2.2.2.2 j hj))⟩
  have mt' : MT (pw9 a l T) (pas a l) := MT_k (fun c n q => (wr_n (by omega)).trans (hT _ _ (by omega))) mt
  have wt' : WT (pas a l) := wt
  rw [F_X9_isSafePasted, f9_p1 w mg hT h, bd_some, f9_saf mg' mt' (pas_w w wh h6) wt' hk, bd_some, f9_p2 w mg hT h, bd_some, zB_bI]
/-- all ways of one number -/
theorem ways {a : AS} (w : WG a) (wt : WT a) (wh : WH a) {σ μ : Sg} (mg : MG μ a) (mt : MT μ a) {k u t : Nat} (hk : k < aT a) (hu : u < 6) (hW0 : 0 < aW a) : ∀ (N : Nat) (l : List Nat), endL N l = true → l.length = aW a → ∀ s f g, s + N ≤ 999 → N < f → N < g → ∀ S T : Sg, pI a σ S → S.1 12 1 = zI (aW a) → shr 13 (aW a) S l → pq9 μ T → shr 24 (aW a) T l →
    (∃ S' T', T_X8_isSafeByPasting_17 (zI k) f (zI s) S = some (.inr (0, S')) ∧ T_X9_paste_80 (zI k) (zI u) (zI t) g 1 T = some (.inl T') ∧ pI a σ S' ∧ pq9 μ T') ∨
    (∃ S' T' l', T_X8_isSafeByPasting_17 (zI k) f (zI s) S = some (.inr (1, S')) ∧ T_X9_paste_80 (zI k) (zI u) (zI t) g 1 T = some (.inr (zI t, wr 2 (40 * u) (fun j => zI ((l'.getD j 0 : Nat) : Int)) (rw9 u (aW a) T') (aW a))) ∧ pI a σ S' ∧ shr 13 (aW a) S' l' ∧ pq9 μ T') := by
  have wW := w.2.1
  have wT := wt.1
  intro N
  induction N with
  | zero => intro l h; cases h
  | succ N ih =>
    intro l hE hl s f g hs hf hg S T hI h12 hS hT hTs
    obtain ⟨f, rfl⟩ : ∃ x, f = x + 1 := ⟨f - 1, by omega⟩
    obtain ⟨g, rfl⟩ : ∃ x, g = x + 1 := ⟨g - 1, by omega⟩
    have h6 := endL_6 hE
    have hE2 : (if klL l (l.length - 1) = 0 then true else endL N (advL l)) = true := by
      rw [endL, Bool.and_eq_true] at hE
      exact hE.2
    obtain ⟨hI2, c1⟩ := pm8_I (l := l) hI
    have wt' : WT (pas a l) := wt
    have ct1 : CT 1 (pm8 a l S) (pas a l) := hI2.2.2.1
    have hS2 : shr 13 (aW a) (pm8 a l S) l := fun j hj => (pm8_o (by decide) (.inl (by decide))).trans (hS j hj)
    have h122 : (pm8 a l S).1 12 1 = zI (aW a) := (pm8_o (by decide) (.inl (by decide))).trans h12
    have hT2 : pq9 μ (pu9 a l T) := fun c n hc => (pu9_e mg hT c n).trans (hT c n hc)
    have hTs2 : shr 24 (aW a) (pu9 a l T) l := fun j hj => (pu9_e mg hT 24 j).trans (hTs j hj)
    have m8 : (pu9 a l T).1 0 8 = zI (aW a) := (hT2 0 8 (by decide)).trans mg.2.1
    simp only [T_X8_isSafeByPasting_17, T_X9_paste_80]
    rw [show (1000 : Int32) = zI ((1000 : Nat) : Int) from rfl, if_le_f (by omega) (by omega), f8_p1 w hI hS, bd_some, f8_p2 w hI, bd_some, f6_saf c1 ct1 (pas_w w wh h6) wt' hk, bd_some, if_neg (c := (1 : Int32) = 0) (by decide), f9_ps w wt wh mg mt hT hTs h6 hk, bd_some]
    show (∃ S' T', _ ∧ (if bI (saf (pas a l) k 0) = 0 then _ else _) = _ ∧ _) ∨ ∃ S' T' l', _ ∧ (if bI (saf (pas a l) k 0) = 0 then _ else _) = _ ∧ _
    cases saf (pas a l) k 0
    · rw [f0, f0, f5_adv hW0 wW h122 hS2 h6, f9_next hW0 wW m8 hTs2 h6]
      by_cases q : klL l (aW a - 1) = 0
      · rw [if_pos q, if_pos q, bd_some, bd_some]
        obtain ⟨g, rfl⟩ : ∃ x, g = x + 1 := ⟨g - 1, by omega⟩
        refine .inl ⟨pm8 a l S, pu9 a l T, rfl, ?_, hI2, hT2⟩
        show T_X9_paste_80 (zI k) (zI u) (zI t) (g + 1) 0 (pu9 a l T) = _
        simp only [T_X9_paste_80]
        rw [if_pos trivial]
      · rw [if_neg q, if_neg q, bd_some, bd_some]
        rw [hl, if_neg q] at hE2
        have hav : pI a σ (av8 l (aW a) (pm8 a l S)) := pI_cg hI2 (fun c n h1 h2 => (av8_sm (lo := 34) (hi := 47) (by decide) c h1 h2 n).1) (fun c n h1 h2 h3 h4 => (av8_sm (lo := 47) (hi := 60) (by decide) c h1 h2 n).1) ⟨av8_sm (by decide), av8_sm (by decide), av8_sm (by decide)⟩
        have := ih (advL l) hE2 (advL_len.trans hl) (s + 1) f g (by omega) (by omega) (by omega) (av8 l (aW a) (pm8 a l S)) (av9 l (aW a) (pu9 a l T)) hav (((av8_sm (lo := 12) (hi := 13) (by decide) 12 (by decide) (by decide) 1).1).trans h122) (av8_s hl hW0 hS2 q) (fun c n hc => (av9_o hc).trans (hT2 c n hc)) (av9_s hl hW0 hTs2 q)
        show (∃ S' T', (if (1 : Int32) = 0 then _ else T_X8_isSafeByPasting_17 (zI k) f (zI s + 1) (av8 l (aW a) (pm8 a l S))) = _ ∧ T_X9_paste_80 (zI k) (zI u) (zI t) g 1 (av9 l (aW a) (pu9 a l T)) = _ ∧ _) ∨ ∃ S' T' l', (if (1 : Int32) = 0 then _ else T_X8_isSafeByPasting_17 (zI k) f (zI s + 1) (av8 l (aW a) (pm8 a l S))) = _ ∧ T_X9_paste_80 (zI k) (zI u) (zI t) g 1 (av9 l (aW a) (pu9 a l T)) = _ ∧ _
        rw [if_neg (by decide), zS]
        exact this
    · rw [t0, t0, m8, f9_row hu (by omega), bd_some]
      have k9 : T_X9_paste_106 (zI u) (zI t) FU 0 (rw9 u (aW a) (pu9 a l T)) = some (wr 2 (40 * u) (fun j => zI ((l.getD j 0 : Nat) : Int)) (rw9 u (aW a) (pu9 a l T)) (aW a)) := by
        refine loopE (fun n x => T_X9_paste_106 (zI u) (zI t) n (zI x) (wr 2 (40 * u) (fun j => zI ((l.getD j 0 : Nat) : Int)) (rw9 u (aW a) (pu9 a l T)) x)) (aW a) _ (by omega) (fun n => ?_) (fun n x hx => ?_)
        · simp only [T_X9_paste_106]
          rw [wr_n (.inl (by decide)), rw9_o (by decide) (by decide), m8, if_le_t (by omega) (by omega)]
        · simp only [T_X9_paste_106]
          rw [wr_n (c := 0) (.inl (by decide)), rw9_o (by decide) (by decide), m8, if_le_f hx (by omega), zMA (m := 40) (c := 40) rfl, chk_N (by omega) (by omega), chk_N (by omega) (by omega), z_tnN (by omega), z_tnN (by omega), wr_n (.inl (by decide)), rw9_o (by decide) (by decide), hTs2 x hx, nm, zS, wr]
      show (∃ S' T', _ ∧ (bd (T_X9_paste_106 (zI u) (zI t) FU 0 (rw9 u (aW a) (pu9 a l T))) _) = _ ∧ _) ∨ ∃ S' T' l', _ ∧ (bd (T_X9_paste_106 (zI u) (zI t) FU 0 (rw9 u (aW a) (pu9 a l T))) _) = _ ∧ _
      rw [k9, bd_some]
      exact .inr ⟨pm8 a l S, pu9 a l T, l, rfl, rfl, hI2, hS2, hT2⟩
theorem f5_begin {S : Sg} {W t : Nat} (hW0 : 0 < W) (hW : W ≤ 6) : F_X5_begin S (zI W) (zI t) = some (wr 13 0 (fun j => if j = W - 1 then zI t else 0) (wI S 12 1 (zI W)) W) := by
  have q := loopE (fun n x => T_X5_begin_7 (zI W) (zI t) n (zI x) (wr 13 0 (fun j => if j = W - 1 then zI t else 0) (wI S 12 1 (zI W)) x)) W (some (wr 13 0 (fun j => if j = W - 1 then zI t else 0) (wI S 12 1 (zI W)) W)) (by omega) (fun n => by
    simp only [T_X5_begin_7]
    rw [if_le_t (by omega) (by omega)]) (fun n x hx => by
    simp only [T_X5_begin_7]
    have e2 : (if zI (x : Int) = zI ((W - 1 : Nat) : Int) then some (zI (t : Int)) else some 0) = some (if x = W - 1 then zI t else 0) := by
      by_cases q : x = W - 1
      · rw [if_eqN_t q, if_pos q]
      · rw [if_eqN_f q (by omega) (by omega), if_neg q]
    rw [if_le_f hx (by omega), z_pred hW0, e2, bd_some, chk_N (by omega) (by omega), z_tnN (by omega), nm, zS, wr, Nat.zero_add])
  rw [F_X5_begin, nm]
  exact bd_t q
theorem f9_p38 {a : AS} {μ T : Sg} (w : WG a) (mg : MG μ a) (hT : pq9 μ T) (hW0 : 0 < aW a) {p q : Int32} {t : Nat} : T_X9_paste_38 p q (zI t) FU 0 T = some (wr 24 0 (fun j => if j = aW a - 1 then zI t else 0) T (aW a)) := by
  have wW := w.2.1
  refine loopE (fun n x => T_X9_paste_38 p q (zI t) n (zI x) (wr 24 0 (fun j => if j = aW a - 1 then zI t else 0) T x)) (aW a) (some (wr 24 0 (fun j => if j = aW a - 1 then zI t else 0) T (aW a))) (by omega) (fun n => ?_) (fun n x hx => ?_)
  · simp only [T_X9_paste_38]
    rw [wr_n (.inl (by decide)), hT _ _ (by decide), mg.2.1, if_le_t (by omega) (by omega)]
  · simp only [T_X9_paste_38]
    have e2 : (if zI (x : Int) = zI ((aW a - 1 : Nat) : Int) then some (zI (t : Int)) else some 0) = some (if x = aW a - 1 then zI t else 0) := by
      by_cases q : x = aW a - 1
      · rw [if_eqN_t q, if_pos q]
      · rw [if_eqN_f q (by omega) (by omega), if_neg q]
    rw [wr_n (.inl (by decide)), hT _ _ (by decide), mg.2.1, if_le_f hx (by omega), z_pred hW0, e2, bd_some, chk_N (by omega) (by omega), z_tnN (by omega), nm, zS, wr, Nat.zero_add]
theorem ini_s {k W t : Nat} {S : Sg} (hW0 : 0 < W) : shr k W (wr k 0 (fun j => if j = W - 1 then zI t else 0) S W) (iniL W t) := by
  intro j hj
  rw [wr_e0 hj, iniL_g hW0]
  by_cases e : j = W - 1
  · rw [if_pos e, if_pos e]
  · rw [if_neg e, if_neg e]; rfl
/-- all numbers -/
theorem tots {a : AS} (w : WG a) (wt : WT a) (wh : WH a) {σ μ : Sg} (mg : MG μ a) (mt : MT μ a) {k u : Nat} (hk : k < aT a) (hu : u < 6) (hW0 : 0 < aW a) : ∀ (d t : Nat), t + d = 7 → ∀ f g, d < f → d < g → ∀ S T : Sg, pI a σ S → pq9 μ T →
    (∃ S' T', T_X8_paste_43 (zI k) (zI u) f (zI t) S = some (.inl S') ∧ T_X9_paste_28 (zI k) (zI u) g (zI t) T = some (.inl T') ∧ pI a σ S' ∧ pq9 μ T') ∨
    (∃ S' T' l' t', T_X8_paste_43 (zI k) (zI u) f (zI t) S = some (.inr (t', cpI (rw8 u (aW a) S') 13 0 (14 + 2 * u + 1) 0 (aW a))) ∧ T_X9_paste_28 (zI k) (zI u) g (zI t) T = some (.inr (t', wr 2 (40 * u) (fun j => zI (((l' : List Nat).getD j 0 : Nat) : Int)) (rw9 u (aW a) T') (aW a))) ∧ pI a σ S' ∧ shr 13 (aW a) S' l' ∧ pq9 μ T') := by
  have wW := w.2.1
  intro d
  induction d with
  | zero =>
    intro t ht f g hf hg S T hI hT
    obtain ⟨f, rfl⟩ : ∃ x, f = x + 1 := ⟨f - 1, by omega⟩
    obtain ⟨g, rfl⟩ : ∃ x, g = x + 1 := ⟨g - 1, by omega⟩
    have et : t = 7 := by omega
    subst et
    refine .inl ⟨S, T, ?_, ?_, hI, hT⟩
    · simp only [T_X8_paste_43]
      rw [if_pos (by decide)]
    · simp only [T_X9_paste_28]
      rw [if_pos (by decide)]
  | succ d ih =>
    intro t ht f g hf hg S T hI hT
    obtain ⟨f, rfl⟩ : ∃ x, f = x + 1 := ⟨f - 1, by omega⟩
    obtain ⟨g, rfl⟩ : ∃ x, g = x + 1 := ⟨g - 1, by omega⟩
    have hb8 := f5_begin (S := S) (W := aW a) (t := t) hW0 wW
    let S1 := wr 13 0 (fun j => if j = aW a - 1 then zI t else 0) (wI S 12 1 (zI (aW a))) (aW a)
    let T1 := wr 24 0 (fun j => if j = aW a - 1 then zI t else 0) T (aW a)
    have s1 : ∀ lo hi, 13 < lo ∨ hi ≤ 12 → sm lo hi S S1 := fun lo hi q => sm_tr (sm_wI (by omega)) (wr_sm (by omega) _)
    have hI1 : pI a σ S1 := pI_cg hI (fun c n h1 h2 => (s1 34 47 (by decide) c h1 h2 n).1) (fun c n h1 h2 _ _ => (s1 47 60 (by decide) c h1 h2 n).1) ⟨s1 _ _ (by decide), s1 _ _ (by decide), s1 _ _ (by decide)⟩
    have h121 : S1.1 12 1 = zI (aW a) := (wr_n (.inl (by decide))).trans wI_eq
    have hT1 : pq9 μ T1 := fun c n hc => (wr_n (.inl hc)).trans (hT c n hc)
    have key := ways w wt wh mg mt (t := t) hk hu hW0 999 (iniL (aW a) t) (end_all (aW a) (by omega) hW0 t (by omega)) iniL_len 0 FU FU (by omega) (by unfold FU; omega) (by unfold FU; omega) S1 T1 hI1 h121 (ini_s hW0) hT1 (ini_s hW0)
    simp only [T_X8_paste_43, T_X9_paste_28]
    rw [show (6 : Int32) = zI 6 from rfl, if_ltZ (by decide) (by decide) (by omega) (by omega), if_ltZ (by decide) (by decide) (by omega) (by omega), if_neg (by omega), if_neg (by omega), F_X8_isSafeByPasting, hI.1.2.1, hb8, bd_some, f9_p38 w mg hT hW0, bd_some]
    rcases key with ⟨S', T', k1, k2, k3, k4⟩ | ⟨S', T', l', k1, k2, k3, k4, k5⟩
    · rw [show T_X8_isSafeByPasting_17 (zI k) FU 0 _ = _ from k1, show T_X9_paste_80 (zI k) (zI u) (zI t) FU 1 _ = _ from k2, bd_some, bd_some]
      have := ih (t + 1) (by omega) f g (by omega) (by omega) S' T' k3 k4
      rw [← zS] at this
      exact this
    · rw [show T_X8_isSafeByPasting_17 (zI k) FU 0 _ = _ from k1, show T_X9_paste_80 (zI k) (zI u) (zI t) FU 1 _ = _ from k2, bd_some, bd_some]
      refine .inr ⟨S', T', l', zI t, ?_, rfl, k3, k4, k5⟩
      show (if (1 : Int32) = 0 then _ else chk (inB (zI u) 6) (bd (F_X4_fill (zI u).toNatClampNeg 13 6 S' (S'.1 (sb 0) 8)) _)) = _
      rw [if_neg (by decide), chk_N (by omega) (by omega), z_tnN (by omega), k3.1.2.1, F_X4_fill, f4_begin, bd_some, show (0 : Int32) = zI ((0 : Nat) : Int) from rfl, cpB_N (by omega) (by omega) (by decide) (by decide), z_tnN (by omega), z_tnN (by omega), nm, bd_some]
theorem s_paste : st_paste R := by
  intro σ μ a1 a2 h
  obtain ⟨x, hx1, hx2, rfl⟩ := arg a1
  obtain ⟨y, hy1, hy2, rfl⟩ := arg a2
  obtain ⟨a, ⟨wg, wt, wh⟩, ⟨cg, ct, ch⟩, ⟨mg, mt, mh⟩⟩ := h.1
  have wW := wg.2.1
  unfold F_X8_paste F_X9_paste
  rw [f8_isRow ⟨hy1, hy2⟩, f9_isRow ⟨hy1, hy2⟩, bd_some, bd_some, f9_lacksTalk (σ := σ) mt wt ⟨hx1, hx2⟩, if8_talk ct wt ⟨hx1, hx2⟩, if_lt0 hx1 hx2, if_lt0 hx1 hx2]
  by_cases e : x < 0
  · rw [if_pos e, if_pos e]
    exact ⟨-1, σ, μ, rfl, rfl, h⟩
  rw [if_neg e, if_neg e]
  cases e1 : inZ 0 5 y
  · exact ⟨-1, σ, μ, rfl, rfl, h⟩
  rw [t0, t0, if_neg e]
  by_cases e2 : x < aT a
  case neg =>
    rw [if_neg e2, if_neg e2, zN2, f8_find (by decide), f9_find (by decide)]
    exact ⟨_, _, _, rfl, rfl, R_find h (f := 2) (by decide)⟩
  obtain ⟨k, rfl⟩ : ∃ k : Nat, x = k := ⟨x.toNat, by omega⟩
  obtain ⟨u, rfl, hu'⟩ := inZ_n e1
  have hk : k < aT a := by omega
  have hu : u < 6 := by omega
  have wS := (wt.2 k hk).1
  have hW0 : 0 < aW a := wg.2.2.1 (by omega)
  obtain ⟨b1, b2, b3⟩ := C_bec (S := σ) (i := 1) (j := 0) (by decide) wg wt wh ⟨cg, ct, ch⟩
  have sS : smS σ (bec 1 0 σ) := ⟨bec_sm (by decide), bec_sm (by decide), bec_sm (by decide)⟩
  have hI : pI a σ (bec 1 0 σ) := ⟨CG_sm (sm_in sS.2.1 (by decide) (by decide)) cg, ⟨b1.1, b1.2.1, b1.2.2.2.2.1, b1.2.2.2.2.2⟩, b2, sS, b1.2.2.2.1 0 (Nat.zero_le _)⟩
  rw [if_pos e2, if_pos e2, f6_bec (by decide), bd_some, bd_some]
  show ∃ r σ1 μ1, _ ∧ (bd (T_X9_paste_28 (zI k) (zI u) FU 0 μ) _ = _) ∧ _
  rcases tots wg wt wh (σ := σ) mg mt hk hu hW0 7 0 (by omega) FU FU (by unfold FU; omega) (by unfold FU; omega) (bec 1 0 σ) μ hI (fun _ _ _ => rfl) with ⟨S', T', k1, k2, k3, k4⟩ | ⟨S', T', l', t', k1, k2, k3, k4, k5⟩
  · rw [show T_X8_paste_43 (zI k) (zI u) FU 0 _ = _ from k1, show T_X9_paste_28 (zI k) (zI u) FU 0 _ = _ from k2, bd_some, bd_some]
    exact ⟨-9, S', T', rfl, rfl, R_scr h k3.2.2.2.1 ⟨fun j _ _ _ => k4 _ _ (by decide), fun c _ _ n => k4 _ _ (by omega), fun c _ _ n => k4 _ _ (by omega)⟩ k3.2.2.2.2⟩
  · rw [show T_X8_paste_43 (zI k) (zI u) FU 0 _ = _ from k1, show T_X9_paste_28 (zI k) (zI u) FU 0 _ = _ from k2, bd_some, bd_some]
    have hR' : R S' T' := R_scr h k3.2.2.2.1 ⟨fun j _ _ _ => k5 _ _ (by decide), fun c _ _ n => k5 _ _ (by omega), fun c _ _ n => k5 _ _ (by omega)⟩ k3.2.2.2.2
    refine ⟨t', _, _, rfl, rfl, R_rows (R_row hR' hu (n := aW a) (by omega)) (cpI_sm (by omega)) (cpI_sm (by omega)) (fun c n h1 h2 _ => wr_n (.inl h2)) (fun r hr => ?_)⟩
    obtain ⟨⟨z, z1, z2, z3, z4⟩, h2⟩ := (RR_row hR'.2.2.1 hu (n := aW a) (by omega)) r hr
    refine ⟨⟨z, z1, z2, ?_, ?_⟩, fun j hj => ?_⟩
    · rw [cpI_n (by omega)]; exact z3
    · rw [wr_n (by omega)]; exact z4
    · by_cases q : r = u ∧ j < aW a
      · rw [q.1, cpI_e q.2, wr_e q.2, (rw8_sm (u := u) (n := aW a) (lo := 13) (hi := 14) (by omega) 13 (by decide) (by decide) j).1]
        exact k4 j q.2
      · rw [cpI_n (by omega), wr_n (by omega)]
        exact h2 j hj
