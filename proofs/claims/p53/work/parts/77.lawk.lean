/-! ===== each talk ===== -/
def sL (l : List Nat) : Nat → Nat
  | 0 => 0
  | n + 1 => sL l n + l.getD n 0
theorem sL_take (l : List Nat) : ∀ n, sL l n = (l.take n).sum
  | 0 => by rw [sL, List.take_zero]; rfl
  | n + 1 => by
    rw [sL, sL_take l n, List.take_succ, List.sum_append, List.getD_eq_getElem?_getD]
    cases l[n]? <;> simp
theorem sL_all (l : List Nat) : sL l l.length = l.sum := by rw [sL_take, List.take_length]
def pasN (a : AS) (l : List Nat) (i : Nat) : AS := setN a 1 (fun j => aL a j + if j < i then l.getD j 0 else 0)
theorem pasN_L {a : AS} {l : List Nat} {i j : Nat} : aL (pasN a l i) j = aL a j + if j < i then l.getD j 0 else 0 := rfl
theorem pasN_w {a : AS} {l : List Nat} {i : Nat} (w : WG a) (h9 : ∀ j, aL a j ≤ 9) (h6 : ∀ j, l.getD j 0 ≤ 6) : WG (pasN a l i) := ⟨w.1, w.2.1, w.2.2.1, fun j => by
  have := h9 j
  have := h6 j
  rw [pasN_L]
  split <;> omega, w.2.2.2.2.1, w.2.2.2.2.2⟩
def mid (a : AS) (l : List Nat) (i : Nat) (S : Sg) : Prop := CG 0 S (pasN a l i) ∧ CT 0 S a ∧ Kp a S ∧ La a S ∧ S.1 16 1 = zI (aW a) ∧ ∀ j, j < aW a → S.1 17 j = zI ((l.getD j 0 : Nat) : Int)
theorem law_i {a : AS} (w : wf a) (h9 : ∀ j, aL a j ≤ 9) {Ln : Nat} {xs : Nat → Int32} {p7 p8 : Int32} {l : List Nat} {T : Nat} (hT : T ≤ 6) (h6 : ∀ j, l.getD j 0 ≤ 6) : ∀ d i, i + d = aW a → ∀ n, d < n → ∀ S : Sg, mid a l i S → ∃ S', T_L_law_478 Ln xs p7 p8 (zI T) n (zI (sL l i)) (zI i) S = some (.inl (zI (sL l (aW a)), S')) ∧ mid a l (aW a) S' := by
  have wW := w.1.2.1
  have e34 : sb 0 = 34 := rfl
  intro d
  induction d with
  | zero =>
    intro i hi n hn S hM
    obtain ⟨n, rfl⟩ : ∃ k, n = k + 1 := ⟨n - 1, by omega⟩
    obtain ⟨cg, ct, kp, la, r0, r1⟩ := id hM
    have ei : i = aW a := by omega
    rw [← ei]
    simp only [T_L_law_478]
    rw [zN1, chk_N (by omega) (by omega), z_tnN (by omega), la.2.1, if_le_t (by omega) (by omega)]
    exact ⟨S, rfl, hM⟩
  | succ d ih =>
    intro i hi n hn S hM
    obtain ⟨n, rfl⟩ : ∃ k, n = k + 1 := ⟨n - 1, by omega⟩
    obtain ⟨cg, ct, kp, la, r0, r1⟩ := id hM
    have hi2 : i < aW a := by omega
    have hng : ¬ zI (T : Int) < 0 := by
      rw [z_0, z_lt (by omega) (by omega) (by decide) (by decide)]
      omega
    have wi := pasN_w (l := l) (i := i) w.1 h9 h6
    have l9 := h9 i
    have l6 := h6 i
    simp only [T_L_law_478, nm]
    rw [zN1, chk_N (by omega) (by omega), z_tnN (by omega), la.2.1, if_le_f hi2 (by omega), if_neg hng, ← zN1, m_at wW hi2 r0, bd_some]
    dsimp only
    have o1 : sm 1 105 S (wI S 0 10 (S.1 17 i)) := sm_wI (by decide)
    have cg1 : CG 0 (wI S 0 10 (S.1 17 i)) (pasN a l i) := CG_told cg
    rw [r1 i hi2] at o1 cg1 ⊢
    rw [asked_t]
    generalize wI S 0 10 (zI ((l.getD i 0 : Nat) : Int)) = S1 at o1 cg1 ⊢
    have la1 : S1.1 101 i = zI (aL a i) := (o1 101 (by decide) (by decide) i).1.trans (la.2.2.2 i hi2)
    rw [bd_some, chk_N (by omega) (by omega), if_pos rfl, z_tnN (by omega), la1, z_add, show (21 : Int32) = zI 21 from rfl, if_leZ (by decide) (by decide) (by omega) (by omega), if_neg (by omega), chk_N (by omega) (by omega)]
    obtain ⟨S2, k2, c2, w2, s2, s2'⟩ := m_wall cg1 wi (w := i) (v := aL a i + l.getD i 0) hi2 (by omega)
    have e2 : aL (pasN a l i) i = aL a i := by
      rw [pasN_L, if_neg (by omega)]; rfl
    rw [show ((aL a i : Int) + (l.getD i 0 : Nat)) = ((aL a i + l.getD i 0 : Nat) : Int) by push_cast; rfl, k2, bd_some]
    dsimp only
    have la2 : S2.1 101 i = zI (aL a i) := (s2' 101 (by decide) (by decide) i).1.trans la1
    rw [e2, chk_N (by omega) (by omega), la2, if_pos rfl, bd_some]
    dsimp only
    have s37 : sm 37 105 S S2 := sm_tr (sm_in o1 (by decide) (by decide)) s2'
    have s1 : sm 1 35 S S2 := sm_tr (sm_in o1 (by decide) (by decide)) (sm_in s2 (by decide) (by decide))
    have kp2 : kps S S2 := ⟨sm_in s37 (by decide) (by decide), sm_in s37 (by decide) (by decide), fun m => (s1 4 (by decide) (by decide) m).1⟩
    have cg2 : CG 0 S2 (pasN a l (i + 1)) := CG_a (a := lay1 (pasN a l i) i (aL a i + l.getD i 0)) rfl rfl (fun j => by
      rw [pasN_L, lay1_L, pasN_L]
      by_cases q : j = i
      · rw [if_pos q, q, if_pos (by omega)]
      · rw [if_neg q]
        by_cases q2 : j < i
        · rw [if_pos q2, if_pos (by omega)]
        · rw [if_neg q2, if_neg (by omega)]) (fun _ => rfl) (fun _ => rfl) c2
    have ct2 : CT 0 S2 a := CT_k (fun c m q => by
      rcases q with ⟨rfl, rfl⟩ | q
      · exact (s1 34 (by decide) (by decide) 10).1
      · exact (s37 (sb 0 + c) (by omega) (by omega) m).1) ct
    rw [z_add, zSu, show ((sL l i : Int) + (l.getD i 0 : Nat)) = ((sL l (i + 1) : Nat) : Int) by rw [sL]; push_cast; rfl]
    exact ih (i + 1) (by omega) n (by omega) S2 ⟨cg2, ct2, Kp_s kp kp2, La_s la kp2, (s1 16 (by decide) (by decide) 1).1.trans r0, fun j hj => (s1 17 (by decide) (by decide) j).1.trans (r1 j hj)⟩
theorem law_i9n {a : AS} (w : wf a) {Ln : Nat} {xs : Nat → Int32} {p7 p8 : Int32} {S : Sg} (la : La a S) (n : Nat) : T_L_law_478 Ln xs p7 p8 (-9) (n + 1) 0 0 S = some (.inl (0, S)) := by
  have wW := w.1.2.1
  simp only [T_L_law_478]
  rw [zN1, chk_N (by omega) (by omega), z_tnN (by omega), la.2.1, if_pos (show (-9 : Int32) < 0 by decide), ite_self]
theorem law_i9 {a : AS} (w : wf a) {Ln : Nat} {xs : Nat → Int32} {p7 p8 : Int32} {S : Sg} (la : La a S) : T_L_law_478 Ln xs p7 p8 (-9) FU 0 0 S = some (.inl (0, S)) := law_i9n w la 19999
theorem law_k {a : AS} (w : wf a) (h9 : ∀ j, aL a j ≤ 9) (hH : aH a = 0) {Ln : Nat} {xs : Nat → Int32} {p7 : Int32} : ∀ d k, k + d = aT a → ∀ n, d < n → ∀ S : Sg, Iv a S → ∃ S', T_L_law_393 Ln xs p7 n (zI k) S = some (.inl S') ∧ Iv a S' := by
  have wP := w.1.1
  have wT := w.2.1.1
  have wW := w.1.2.1
  have p7' := pow8 (n := aP a) (by omega)
  intro d
  induction d with
  | zero =>
    intro k hk n hn S hI
    obtain ⟨n, rfl⟩ : ∃ k, n = k + 1 := ⟨n - 1, by omega⟩
    simp only [T_L_law_393]
    rw [zN2, chk_N (by omega) (by omega), z_tnN (by omega), hI.2.2.2.2.1, if_le_t (by omega) (by omega)]
    exact ⟨S, rfl, hI⟩
  | succ d ih =>
    intro k hk n hn S hI
    obtain ⟨n, rfl⟩ : ∃ k, n = k + 1 := ⟨n - 1, by omega⟩
    have hk2 : k < aT a := by omega
    have wk := w.2.1.2 k hk2
    -- what stands behind the cover
    have tail : ∀ S1 : Sg, Iv a S1 → ∃ S', bd (F_X8_paste S1 (zI k) (1 : Int32)) (fun (x110, S111) => bd (T_L_law_478 Ln xs p7 (zI k) x110 FU (0 : Int32) (0 : Int32) S111) (fun q => match q with | .inl (x112, S113) => bd (α := ((Sg) ⊕ (Int32 × Sg))) (if x110 < 0 then (some (.inl S113)) else (if x112 = x110 then (bd (F_X8_safe S113 (zI k) (0 : Int32)) (fun (x148, S149) => if x148 = (1 : Int32) then (some (.inl S149)) else (some (.inr ((0 : Int32), S149))))) else (some (.inr ((0 : Int32), S113))))) (fun q => match q with | .inl S138 => bd (F_X8_on S138 (0 : Int32)) (fun (x144, S145) => if x144 = 0 then (T_L_law_393 Ln xs p7 n (zI k + (1 : Int32)) S145) else (some (.inr ((0 : Int32), S145)))) | .inr r => some (.inr r)) | .inr r => some (.inr r))) = some (.inl S') ∧ Iv a S' := by
      intro S1 hI1
      have fin : ∀ S2 : Sg, Kp a S2 → La a S2 → ∃ S', bd (F_X8_on S2 (0 : Int32)) (fun (x144, S145) => if x144 = 0 then (T_L_law_393 Ln xs p7 n (zI k + (1 : Int32)) S145) else (some (.inr ((0 : Int32), S145)))) = some (.inl S') ∧ Iv a S' := by
        intro S2 kp la
        obtain ⟨S3, k3, n3, s3, s3'⟩ := m_on kp w
        have kk := sm_al s3 s3'
        rw [k3, bd_some, hH]
        dsimp only
        rw [if_pos (show zI ((0 : Nat) : Int) = 0 from rfl), zSu]
        exact ih (k + 1) (by omega) n (by omega) S3 ⟨n3, Kp_s kp kk, La_s la kk⟩
      obtain ⟨t, S2, k2, al2, ht⟩ := m_paste hI1.1 w hk2
      have hI2 := Iv_al hI1 al2
      rw [k2, bd_some]
      dsimp only
      rcases ht with rfl | ⟨T, l, rfl, hT, ⟨g1, g2, g3, g4⟩, r0, r1⟩
      · rw [law_i9 w hI2.2.2, bd_some]
        dsimp only
        rw [if_pos (show (-9 : Int32) < 0 by decide), bd_some]
        exact fin S2 hI2.2.1 hI2.2.2
      · have hng : ¬ zI (T : Int) < 0 := by
          rw [z_0, z_lt (by omega) (by omega) (by decide) (by decide)]
          omega
        have m0 : mid a l 0 S2 := ⟨CG_a (a := a) rfl rfl (fun j => by rw [pasN_L, if_neg (by omega)]; rfl) (fun _ => rfl) (fun _ => rfl) hI2.1.1, hI2.1.2.1, hI2.2.1, hI2.2.2, r0, r1⟩
        obtain ⟨S3, k3, m3⟩ := law_i w h9 (Ln := Ln) (xs := xs) (p7 := p7) (p8 := zI k) hT g3 (aW a) 0 (by omega) FU (by unfold FU; omega) S2 m0
        have k3' : T_L_law_478 Ln xs p7 (zI k) (zI T) FU 0 0 S2 = some (.inl (zI (sL l (aW a)), S3)) := k3
        obtain ⟨cg3, ct3, kp3, la3, -, -⟩ := m3
        have cgp : CG 0 S3 (pas a l) := CG_a (a := pasN a l (aW a)) rfl rfl (fun j => by
          show aL a j + l.getD j 0 = aL (pasN a l (aW a)) j
          rw [pasN_L]
          by_cases q : j < aW a
          · rw [if_pos q]
          · rw [if_neg q, List.getD_eq_getElem?_getD, List.getElem?_eq_none (by omega)]; rfl) (fun _ => rfl) (fun _ => rfl) cg3
        obtain ⟨v, k4⟩ := m_safe cgp (show CT 0 S3 (pas a l) from ct3) (pas_w w.1 w.2.2 g3) (show WT (pas a l) from w.2.1) (k := k) hk2 (sub_0 _)
        rw [k3', bd_some]
        dsimp only
        rw [if_neg hng, show sL l (aW a) = T by rw [← g1, sL_all, g2], if_pos rfl, k4, bd_some, g4]
        dsimp only
        rw [if_pos (show bI true = 1 by decide), bd_some]
        have tl := al_told S3 v
        exact fin _ (Kp_s kp3 tl.2) (La_s la3 tl.2)
    simp only [T_L_law_393]
    rw [zN2, chk_N (by omega) (by omega), z_tnN (by omega), hI.2.2.2.2.1, if_le_f hk2 (by omega)]
    rcases m_cover hI.1 w hk2 with ⟨q1, q2⟩ | ⟨q, s1, s2, s3⟩
    · have hs0 : saf a k 0 = false := q2 0 (by omega)
      obtain ⟨v, k4⟩ := m_safe hI.1.1 hI.1.2.1 w.1 w.2.1 hk2 (sub_0 _)
      rw [q1, bd_some]
      dsimp only
      rw [show F_X8_asked S = some (S.1 0 10) from rfl, bd_some, if_pos (show (-9 : Int32) < 0 by decide), bd_some]
      dsimp only
      rw [if_pos rfl, k4, hs0, bd_some]
      dsimp only
      rw [if_neg (show ¬ bI false = 1 by decide), bd_some]
      exact tail _ (Iv_al hI (al_told S v))
    · have hng : ¬ zI (pc q : Int) < 0 := by
        have := pc_le q
        rw [z_0, z_lt (by omega) (by omega) (by decide) (by decide)]
        omega
      have hn9 : ¬ zI (pc q : Int) = -9 := ne9 (by have := pc_le q; omega)
      have hI1 := Iv_al hI (al_told S q)
      obtain ⟨v, k4⟩ := m_safe hI1.1.1 hI1.1.2.1 w.1 w.2.1 hk2 s1
      rw [s3, bd_some]
      dsimp only
      rw [asked_t, bd_some, if_neg hng, l_size, bd_some, if_pos rfl, k4, s2, bd_some]
      dsimp only
      rw [if_pos (show bI true = 1 by decide), bd_some]
      dsimp only
      rw [if_neg hn9, bd_some]
      exact tail _ (Iv_al hI1 (al_told _ v))
