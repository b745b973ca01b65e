/-! ===== walls pasted ===== -/
def endT (t : Nat) : Nat → List Nat → Bool
  | 0, _ => false
  | n + 1, l => l.all (fun x => decide (x ≤ 6)) && (decide (l.sum = t) && (if klL l (l.length - 1) = 0 then true else endT t n (advL l)))
theorem endT_all : ∀ W, W < 7 → 0 < W → ∀ t, t < 7 → endT t 999 (iniL W t) = true := by decide +kernel
theorem endT_6 {t n : Nat} {l : List Nat} (h : endT t n l = true) (j : Nat) : l.getD j 0 ≤ 6 := by
  cases n with
  | zero => cases h
  | succ n =>
    rw [endT, Bool.and_eq_true, List.all_eq_true] at h
    rw [List.getD_eq_getElem?_getD]
    cases e : l[j]? with
    | none => exact Nat.zero_le _
    | some x =>
      have := h.1 x (List.mem_of_getElem? e)
      rw [decide_eq_true_eq] at this
      exact this
def good (a : AS) (k t : Nat) (l : List Nat) : Prop := l.length = aW a ∧ l.sum = t ∧ (∀ j, l.getD j 0 ≤ 6) ∧ saf (pas a l) k 0 = true
theorem ways8 {a : AS} (w : WG a) (wt : WT a) (wh : WH a) {S0 : Sg} {k t : Nat} (hk : k < aT a) (hW0 : 0 < aW a) : ∀ (N : Nat) (l : List Nat), endT t N l = true → l.length = aW a → ∀ s f, s + N ≤ 999 → N < f → ∀ S : Sg, pI a S0 S → S.1 12 1 = zI (aW a) → shr 13 (aW a) S l →
    (∃ S', T_X8_isSafeByPasting_17 (zI k) f (zI s) S = some (.inr (0, S')) ∧ pI a S0 S') ∨
    (∃ S' l', T_X8_isSafeByPasting_17 (zI k) f (zI s) S = some (.inr (1, S')) ∧ pI a S0 S' ∧ shr 13 (aW a) S' l' ∧ good a k t l') := by
  have wW := w.2.1
  have wT := wt.1
  intro N
  induction N with
  | zero => intro l h; cases h
  | succ N ih =>
    intro l hE hl s f hs hf S hI h12 hS
    obtain ⟨f, rfl⟩ : ∃ x, f = x + 1 := ⟨f - 1, by omega⟩
    have h6 := endT_6 hE
    have hE2 : l.sum = t ∧ (if klL l (l.length - 1) = 0 then true else endT t N (advL l)) = true := by
      rw [endT, Bool.and_eq_true, Bool.and_eq_true, decide_eq_true_eq] at hE
      exact hE.2
    obtain ⟨hsum, hE2⟩ := hE2
    obtain ⟨hI2, c1⟩ := pm8_I (l := l) hI
    have wt' : WT (pas a l) := wt
    have ct1 : CT 1 (pm8 a l S) (pas a l) := hI2.2.2.1
    have hS2 : shr 13 (aW a) (pm8 a l S) l := fun j hj => (pm8_o (by decide) (.inl (by decide))).trans (hS j hj)
    have h122 : (pm8 a l S).1 12 1 = zI (aW a) := (pm8_o (by decide) (.inl (by decide))).trans h12
    simp only [T_X8_isSafeByPasting_17]
    rw [show (1000 : Int32) = zI ((1000 : Nat) : Int) from rfl, if_le_f (by omega) (by omega), f8_p1 w hI hS, bd_some, f8_p2 w hI, bd_some, f6_saf c1 ct1 (pas_w w wh h6) wt' hk, bd_some]
    cases hsf : saf (pas a l) k 0
    · rw [f0, f5_adv hW0 wW h122 hS2 h6]
      by_cases q : klL l (aW a - 1) = 0
      · rw [if_pos q, bd_some]
        exact .inl ⟨pm8 a l S, rfl, hI2⟩
      · rw [if_neg q, bd_some]
        rw [hl, if_neg q] at hE2
        have hav : pI a S0 (av8 l (aW a) (pm8 a l S)) := pI_cg hI2 (fun c n h1 h2 => (av8_sm (lo := 34) (hi := 47) (by decide) c h1 h2 n).1) (fun c n h1 h2 h3 h4 => (av8_sm (lo := 47) (hi := 60) (by decide) c h1 h2 n).1) ⟨av8_sm (by decide), av8_sm (by decide), av8_sm (by decide)⟩
        have := ih (advL l) hE2 (advL_len.trans hl) (s + 1) f (by omega) (by omega) (av8 l (aW a) (pm8 a l S)) hav (((av8_sm (lo := 12) (hi := 13) (by decide) 12 (by decide) (by decide) 1).1).trans h122) (av8_s hl hW0 hS2 q)
        show (∃ S', (if (1 : Int32) = 0 then _ else T_X8_isSafeByPasting_17 (zI k) f (zI s + 1) (av8 l (aW a) (pm8 a l S))) = _ ∧ _) ∨ ∃ S' l', (if (1 : Int32) = 0 then _ else T_X8_isSafeByPasting_17 (zI k) f (zI s + 1) (av8 l (aW a) (pm8 a l S))) = _ ∧ _
        rw [if_neg (by decide), zSu]
        exact this
    · rw [t0]
      exact .inr ⟨pm8 a l S, l, rfl, hI2, hS2, hl, hsum, h6, hsf⟩
theorem tots8 {a : AS} (w : WG a) (wt : WT a) (wh : WH a) {S0 : Sg} {k : Nat} (hk : k < aT a) (hW0 : 0 < aW a) : ∀ (d t : Nat), t + d = 7 → ∀ f, d < f → ∀ S : Sg, pI a S0 S →
    (∃ S', T_X8_paste_43 (zI k) 1 f (zI t) S = some (.inl S') ∧ pI a S0 S') ∨
    (∃ S' l' t', T_X8_paste_43 (zI k) 1 f (zI t) S = some (.inr (zI (t' : Nat), cpI (rw8 1 (aW a) S') 13 0 17 0 (aW a))) ∧ t' ≤ 6 ∧ pI a S0 S' ∧ shr 13 (aW a) S' l' ∧ good a k t' l') := by
  have wW := w.2.1
  intro d
  induction d with
  | zero =>
    intro t ht f hf S hI
    obtain ⟨f, rfl⟩ : ∃ x, f = x + 1 := ⟨f - 1, by omega⟩
    have et : t = 7 := by omega
    subst et
    refine .inl ⟨S, ?_, hI⟩
    simp only [T_X8_paste_43]
    rw [if_pos (by decide)]
  | succ d ih =>
    intro t ht f hf S hI
    obtain ⟨f, rfl⟩ : ∃ x, f = x + 1 := ⟨f - 1, by omega⟩
    have hb8 := f5_begin (S := S) (W := aW a) (t := t) hW0 wW
    let S1 := wr 13 0 (fun j => if j = aW a - 1 then zI t else 0) (wI S 12 1 (zI (aW a))) (aW a)
    have s1 : ∀ lo hi, 13 < lo ∨ hi ≤ 12 → sm lo hi S S1 := fun lo hi q => sm_tr (sm_wI (by omega)) (wr_sm (by omega) _)
    have hI1 : pI a S0 S1 := pI_cg hI (fun c n h1 h2 => (s1 34 47 (by decide) c h1 h2 n).1) (fun c n h1 h2 _ _ => (s1 47 60 (by decide) c h1 h2 n).1) ⟨s1 _ _ (by decide), s1 _ _ (by decide), s1 _ _ (by decide)⟩
    have h121 : S1.1 12 1 = zI (aW a) := (wr_n (.inl (by decide))).trans wI_eq
    have key := ways8 w wt wh (t := t) hk hW0 999 (iniL (aW a) t) (endT_all (aW a) (by omega) hW0 t (by omega)) iniL_len 0 FU (by omega) (by unfold FU; omega) S1 hI1 h121 (ini_s hW0)
    simp only [T_X8_paste_43]
    rw [show (6 : Int32) = zI 6 from rfl, if_ltZ (by decide) (by decide) (by omega) (by omega), if_neg (by omega), F_X8_isSafeByPasting, hI.1.2.1, hb8, bd_some]
    rcases key with ⟨S', k1, k3⟩ | ⟨S', l', k1, k3, k4, k5⟩
    · rw [show T_X8_isSafeByPasting_17 (zI k) FU 0 _ = _ from k1, bd_some]
      have := ih (t + 1) (by omega) f (by omega) S' k3
      rw [← zSu] at this
      exact this
    · rw [show T_X8_isSafeByPasting_17 (zI k) FU 0 _ = _ from k1, bd_some]
      refine .inr ⟨S', l', t, ?_, by omega, k3, k4, k5⟩
      show (if (1 : Int32) = 0 then T_X8_paste_43 (zI k) 1 f (zI t + 1) S' else chk (inB (1 : Int32) 6) (bd (F_X4_fill (1 : Int32).toNatClampNeg 13 6 S' (S'.1 (sb 0) 8)) (fun S11 => some (.inr (zI t, S11))))) = _
      rw [if_neg (by decide), show (1 : Int32) = zI ((1 : Nat) : Int) from rfl, chk_N (by omega) (by omega), z_tnN (by omega), k3.1.2.1, F_X4_fill, f4_begin, bd_some, show (0 : Int32) = zI ((0 : Nat) : Int) from rfl, cpB_N (by omega) (by omega) (by decide) (by decide), z_tnN (by omega), z_tnN (by omega), nm, bd_some]
theorem m_paste {a : AS} {S : Sg} (n : Nw a S) (w : wf a) {k : Nat} (hk : k < aT a) : ∃ t S', F_X8_paste S (zI k) 1 = some (t, S') ∧ al S S' ∧ (t = -9 ∨ ∃ (T : Nat) (l : List Nat), t = zI T ∧ T ≤ 6 ∧ good a k T l ∧ S'.1 16 1 = zI (aW a) ∧ ∀ j, j < aW a → S'.1 17 j = zI ((l.getD j 0 : Nat) : Int)) := by
  obtain ⟨cg, ct, ch⟩ := n
  obtain ⟨wg, wt, wh⟩ := w
  have wW := wg.2.1
  have wT := wt.1
  have wS := (wt.2 k hk).1
  have hW0 : 0 < aW a := wg.2.2.1 (by omega)
  obtain ⟨b1, b2, b3⟩ := C_bec (S := S) (i := 1) (j := 0) (by decide) wg wt wh ⟨cg, ct, ch⟩
  have sS : smS S (bec 1 0 S) := ⟨bec_sm (by decide), bec_sm (by decide), bec_sm (by decide)⟩
  have hI : pI a S (bec 1 0 S) := ⟨CG_sm (sm_in sS.2.1 (by decide) (by decide)) cg, ⟨b1.1, b1.2.1, b1.2.2.2.2.1, b1.2.2.2.2.2⟩, b2, sS, b1.2.2.2.1 0 (Nat.zero_le _)⟩
  have alS : ∀ S', smS S S' → al S S' := fun S' h => ⟨sm_in h.2.1 (by decide) (by decide), sm_in h.2.2 (by decide) (by decide), sm_in h.2.2 (by decide) (by decide), fun m => (h.1 4 (by decide) (by decide) m).1⟩
  unfold F_X8_paste
  rw [if8_talk ct wt ⟨by omega, by omega⟩, if_lt0 (by omega) (by omega), if_neg (by omega), show (1 : Int32) = zI ((1 : Nat) : Int) from rfl, f8_isRow ⟨by omega, by omega⟩, bd_some, inZ_y (by omega), t0, if_pos (by omega), f6_become (by decide), bd_some]
  rcases tots8 wg wt wh (S0 := S) hk hW0 7 0 (by omega) FU (by unfold FU; omega) (bec 1 0 S) hI with ⟨S', k1, k3⟩ | ⟨S', l', t', k1, k2, k3, k4, k5⟩
  · rw [show T_X8_paste_43 (zI k) (zI ((1 : Nat) : Int)) FU 0 (be2 1 0 (be1 1 0 S)) = _ from k1, bd_some]
    exact ⟨-9, S', rfl, alS _ k3.2.2.2.1, .inl rfl⟩
  · rw [show T_X8_paste_43 (zI k) (zI ((1 : Nat) : Int)) FU 0 (be2 1 0 (be1 1 0 S)) = _ from k1, bd_some]
    have a1 := alS _ k3.2.2.2.1
    have s2 : ∀ lo hi, 17 < lo ∨ hi ≤ 16 → sm lo hi S' (cpI (rw8 1 (aW a) S') 13 0 17 0 (aW a)) := fun lo hi q => sm_tr (rw8_sm (by omega)) (cpI_sm (by omega))
    refine ⟨zI t', _, rfl, al_tr a1 ⟨s2 _ _ (by decide), s2 _ _ (by decide), s2 _ _ (by decide), fun m => (s2 4 5 (by decide) 4 (by decide) (by decide) m).1⟩, .inr ⟨t', l', rfl, k2, k5, ?_, fun j hj => ?_⟩⟩
    · rw [cpI_n (.inl (by decide))]
      show (rw8 1 (aW a) S').1 16 1 = _
      unfold rw8
      rw [wr_n (.inl (by decide))]
      exact wI_eq
    · rw [cpI_e hj, (rw8_sm (u := 1) (n := aW a) (lo := 13) (hi := 14) (by omega) 13 (by decide) (by decide) j).1]
      exact k4 j hj
