/-! ===== a street read: walls and people ===== -/
def B1 (S : Sg) : Prop := S.1 47 10 = 0 ∧ S.1 55 5 = 0 ∧ S.2 55 4 = 0 ∧ S.1 49 0 = 0
def fS (σ S : Sg) : Prop := sm 0 47 σ S ∧ sm 60 99 σ S ∧ B1 S
theorem fS_wI {σ S : Sg} {k j : Nat} {v : Int32} (h : fS σ S) (hk : 47 ≤ k ∧ k < 60) (h2 : (k ≠ 47 ∨ j ≠ 10) ∧ k ≠ 55 ∧ (k ≠ 49 ∨ j ≠ 0)) : fS σ (wI S k j v) := by
  obtain ⟨h1, h3, b1, b2, b3, b4⟩ := h
  exact ⟨sm_tr h1 (sm_wI (by omega)), sm_tr h3 (sm_wI (by omega)), (wI_ne (by omega)).trans b1, (wI_ne (by omega)).trans b2, b3, (wI_ne (by omega)).trans b4⟩
theorem fS_tx {σ S : Sg} {u L : Nat} {b : Nat → Int} (hu : u < 4) (h : fS σ S) (t : txI u L b σ) : txI u L b S := ⟨((h.1 _ (by omega) (by omega) _).1).trans t.1, fun j hj => ((h.1 _ (by omega) (by omega) _).1).trans (t.2 j hj)⟩
theorem fM_tx {μ T : Sg} {u L : Nat} {b : Nat → Int} (h : fM μ T) (t : txM u L b μ) : txM u L b T := ⟨(h _ _ (.inl (by decide)) (by decide) (by decide) (by decide)).trans t.1, fun j hj => (h _ _ (.inl (by decide)) (by decide) (by decide) (by decide)).trans (t.2 j hj)⟩
theorem fM_wI {μ T : Sg} {k j : Nat} {v : Int32} (h : fM μ T) (hk : k = 0 ∧ (j = 21 ∨ j = 25 ∨ j = 26) ∨ k = 16 ∨ k = 17 ∨ k = 18) : fM μ (wI T k j v) := fun c n h1 h2 h3 h4 => (wI_ne (by omega)).trans (h c n h1 h2 h3 h4)
theorem fM_e {μ T T' : Sg} (h : fM μ T) (e : e21 T T') : fM μ T' := fun c n h1 h2 h3 h4 => (e c n (by omega)).trans (h c n h1 h2 h3 h4)
def wls (d : Nat → Nat) (w : Nat) (S T : Sg) : Prop := S.1 47 8 = zI w ∧ T.1 0 25 = zI w ∧ w ≤ 6 ∧ (∀ j, d j ≤ 9) ∧ ∀ j, j < w → S.1 48 j = zI (d j) ∧ T.1 16 j = zI (d j)
theorem f7_fig {u L : Nat} {b : Nat → Int} {S : Sg} (hb : byB b) (h : txI u L b S) (hL : L ≤ 80) {p : Nat} (hp : p < 1000) : F_X7_isFigure u S (zI p) = some (bI (inZ 48 57 (sg L b p))) := by
  have hs : -128 ≤ sg L b p ∧ sg L b p ≤ 1000 := by
    unfold sg
    have := hb p
    split <;> omega
  rw [F_X7_isFigure, f7_sign h hL hp, bd_some, bd_some, show (48 : Int32) = zI 48 from rfl, show (57 : Int32) = zI 57 from rfl, if_ltZ (by omega) (by omega) (by decide) (by decide), if_ltZ (by decide) (by decide) (by omega) (by omega), chk2]
  cases inZ 48 57 (sg L b p) <;> rfl
theorem sg_by {L : Nat} {b : Nat → Int} {p : Nat} {h : Int} (hh : h < 1000) : inZ 48 h (sg L b p) = inZ 48 h (by9 L b p) := by
  unfold sg by9
  by_cases q : p < L
  · rw [if_pos q, if_pos q]
  · rw [if_neg q, if_neg q, inZ_no (by omega), inZ_no (by omega)]
theorem by9_b {L : Nat} {b : Nat → Int} (hb : byB b) (p : Nat) : -128 ≤ by9 L b p ∧ by9 L b p ≤ 127 := by
  have := hb p
  unfold by9
  split <;> omega
theorem rd_walls {u L : Nat} {b : Nat → Int} (hb : byB b) (hL : L ≤ 80) (hu : u < 4) {σ μ : Sg} (tI : txI u L b σ) (tM : txM u L b μ) : ∀ (e w : Nat), w + e = 6 → ∀ (p : Nat), p + e < 200 → ∀ f g, e < f → e < g → ∀ (S T : Sg) (d : Nat → Nat), fS σ S → fM μ T → wls d w S T → T.1 0 21 = zI p →
    ∃ p' w' d' S' T', T_X6_readFrom_43 1 u f (zI p) S = some (zI ((p' : Nat) : Int), S') ∧ T_X9_readPaper_22 (zI u) g T = some T' ∧ fS σ S' ∧ fM μ T' ∧ wls d' w' S' T' ∧ T'.1 0 21 = zI p' ∧ p' ≤ p + e ∧ T'.1 0 26 = T.1 0 26 ∧ S'.1 47 9 = S.1 47 9 := by
  intro e
  induction e with
  | zero =>
    intro w hw p hp f g hf hg S T d hS hT hW h21
    obtain ⟨f, rfl⟩ : ∃ x, f = x + 1 := ⟨f - 1, by omega⟩
    obtain ⟨g, rfl⟩ : ∃ x, g = x + 1 := ⟨g - 1, by omega⟩
    have hy := by9_b (L := L) hb p
    have ew : w = 6 := by omega
    subst ew
    refine ⟨p, 6, d, S, T, ?_, ?_, hS, hT, hW, h21, by omega, rfl, rfl⟩
    · simp only [T_X6_readFrom_43]
      rw [show S.1 (sb 1) 8 = zI ((6 : Nat) : Int) from hW.1, if_pos (by decide)]
    · simp only [T_X9_readPaper_22]
      rw [f9_byteAt (fM_tx hT tM) hL hu (by omega) h21, bd_some, inZ_in (l := 48) (h := 57) ⟨by omega, by omega⟩ (by decide) (by decide) (by decide) (by decide), bd_some, hW.2.1, if_pos (c := (6 : Int32) ≤ zI ((6 : Nat) : Int)) (by decide), ite_self]
  | succ e ih =>
    intro w hw p hp f g hf hg S T d hS hT hW h21
    obtain ⟨f, rfl⟩ : ∃ x, f = x + 1 := ⟨f - 1, by omega⟩
    obtain ⟨g, rfl⟩ : ∃ x, g = x + 1 := ⟨g - 1, by omega⟩
    obtain ⟨h8, h25, hw6, hd, hj⟩ := hW
    have hy := by9_b (L := L) hb p
    have tS := fS_tx hu hS tI
    have tT := fM_tx hT tM
    have h8' : S.1 (sb 1) 8 = zI w := h8
    simp only [T_X6_readFrom_43, T_X9_readPaper_22]
    rw [h8', h25, show (6 : Int32) = zI ((6 : Nat) : Int) from rfl, if_le_f (by omega) (by omega), if_le_f (by omega) (by omega), f7_fig hb tS hL (by omega), bd_some, f9_byteAt tT hL hu (by omega) h21, bd_some, inZ_in (l := 48) (h := 57) ⟨by omega, by omega⟩ (by decide) (by decide) (by decide) (by decide), bd_some, sg_by (by decide), bd_some, f7_sign tS hL (by omega), bd_some]
    cases q : inZ 48 57 (by9 L b p)
    · rw [f0, f0]
      exact ⟨p, w, d, S, T, rfl, rfl, hS, hT, ⟨h8, h25, hw6, hd, hj⟩, h21, by omega, rfl, rfl⟩
    · have q2 := inZ_t q
      have hpL : p < L := by
        rcases Nat.lt_or_ge p L with h | h
        · exact h
        · unfold by9 at q2
          rw [if_neg (by omega)] at q2
          omega
      have e1 : by9 L b p = b p := if_pos hpL
      have e2 : sg L b p = b p := if_pos hpL
      rw [e1] at q2
      rw [t0, t0, e1, e2, show (48 : Int32) = zI 48 from rfl, z_sub, show b p - 48 = (((b p - 48).toNat : Nat) : Int) by omega, chk_N (by omega) (by omega), chk_N (by omega) (by omega), z_tnN (by omega), nm, nm, nm, wI_ne (c := 0) (n := 25) (.inl (by decide)), h25, zS, nm, wI_ne (c := sb 1) (n := 8) (.inl (by decide)), h8', zS, wI_ne (c := 0) (n := 21) (.inr (by decide)), wI_ne (c := 0) (n := 21) (.inl (by decide)), h21, zS, nm]
      let v := (b p - 48).toNat
      let S2 := wI (wI S (sb 1 + 1) w (zI v)) (sb 1) 8 (zI ((w + 1 : Nat) : Int))
      let T2 := wI (wI (wI T 16 w (zI v)) 0 25 (zI ((w + 1 : Nat) : Int))) 0 21 (zI ((p + 1 : Nat) : Int))
      obtain ⟨p', w', d', S', T', k1, k2, k3, k4, k5, k6, k7, k8, k9⟩ := ih (w + 1) (by omega) (p + 1) (by omega) f g (by omega) (by omega) S2 T2 (fun j => if j = w then v else d j) (fS_wI (fS_wI hS (by decide) (by have e47 : sb 1 = 47 := rfl; omega)) (by decide) (by decide)) (fM_wI (fM_wI (fM_wI hT (by omega)) (by decide)) (by decide)) ⟨wI_eq, (wI_ne (.inr (by decide))).trans wI_eq, by omega, fun j => by
          show (if j = w then v else d j) ≤ 9
          split
          · omega
          · exact hd j, fun j hjw => by
          show (wI (wI S 48 w (zI v)) 47 8 _).1 48 j = zI ((if j = w then v else d j : Nat) : Int) ∧ (wI (wI (wI T 16 w (zI v)) 0 25 _) 0 21 _).1 16 j = zI ((if j = w then v else d j : Nat) : Int)
          have a1 : (wI (wI S 48 w (zI v)) 47 8 (zI ((w + 1 : Nat) : Int))).1 48 j = if j = w then zI v else S.1 48 j := by rw [wI_ne (.inl (by decide)), wI_1, if_pos rfl]
          have a2 : (wI (wI (wI T 16 w (zI v)) 0 25 (zI ((w + 1 : Nat) : Int))) 0 21 (zI ((p + 1 : Nat) : Int))).1 16 j = if j = w then zI v else T.1 16 j := by rw [wI_ne (.inl (by decide)), wI_ne (.inl (by decide)), wI_1, if_pos rfl]
          rw [a1, a2]
          by_cases c : j = w
          · rw [if_pos c, if_pos c, if_pos c]; exact ⟨rfl, rfl⟩
          · rw [if_neg c, if_neg c, if_neg c]; exact hj j (by omega)⟩ wI_eq
      refine ⟨p', w', d', S', T', k1, k2, k3, k4, k5, k6, by omega, k8.trans ?_, k9.trans ?_⟩
      · show (wI (wI (wI T 16 w _) 0 25 _) 0 21 _).1 0 26 = _
        rw [wI_ne (.inr (by decide)), wI_ne (.inr (by decide)), wI_ne (.inl (by decide))]
      · show (wI (wI S 48 w _) 47 8 _).1 47 9 = _
        rw [wI_ne (.inr (by decide)), wI_ne (.inl (by decide))]
