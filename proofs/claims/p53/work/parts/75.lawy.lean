/-! ===== the law's loops: each one ===== -/
theorem law_y {a : AS} (w : wf a) {Ln : Nat} {xs : Nat → Int32} {x : Nat} (hx : x < aP a) : ∀ d y, y + d = aP a → ∀ n, d < n → ∀ S : Sg, Iv a S → ∃ S', T_L_law_255 Ln xs (zI (aP a)) (zI x) n (zI y) S = some (.inl S') ∧ Iv a S' := by
  have wP := w.1.1
  have wW := w.1.2.1
  have e34 : sb 0 = 34 := rfl
  intro d
  induction d with
  | zero =>
    intro y hy n hn S hI
    obtain ⟨n, rfl⟩ : ∃ k, n = k + 1 := ⟨n - 1, by omega⟩
    simp only [T_L_law_255]
    rw [if_le_t (by omega) (by omega)]
    exact ⟨S, rfl, hI⟩
  | succ d ih =>
    intro y hy n hn S hI
    obtain ⟨n, rfl⟩ : ∃ k, n = k + 1 := ⟨n - 1, by omega⟩
    simp only [T_L_law_255]
    rw [if_le_f (by omega) (by omega), zSu]
    have go : ∀ S1, Iv a S1 → ∃ S', T_L_law_255 Ln xs (zI (aP a)) (zI x) n (zI ((y + 1 : Nat) : Int)) S1 = some (.inl S') ∧ Iv a S' := fun S1 h => ih (y + 1) (by omega) n (by omega) S1 h
    by_cases hxy : y = x
    · rw [if_eqN_t hxy, bd_some]
      exact go S hI
    · have hy2 : y < aP a := by omega
      rw [if_eqN_f hxy (by omega) (by omega)]
      rcases m_tearOff hI.1 w hx hy2 (fun e => hxy e.symm) with ⟨q, k⟩ | k | ⟨X, p, hX0, hX1, hX, hp, hb, hXL, k⟩
      · rw [k, bd_some]
        dsimp only
        rw [asked_t, bd_some, if_pos rfl]
        have hI1 := Iv_al hI (al_told S (-9))
        have hr : hr1 a x y = true := by
          unfold hr1
          rw [hea_4 (w.1.2.2.2.2.1 x), decide_eq_true q]
        rw [m_hears hI1.1.1 w.1 hx hy2 (fun e => hxy e.symm), hr, bd_some]
        dsimp only
        rw [if_pos (show bI true = 1 by decide), bd_some]
        dsimp only
        rw [if_pos (show (0 : Int32) ≤ 0 by decide), bd_some]
        exact go _ (Iv_al hI1 (al_told _ _))
      · rw [k, bd_some]
        dsimp only
        rw [show F_X8_asked S = some (S.1 0 10) from rfl, bd_some, if_neg (show ¬ (-9 : Int32) = 0 by decide), bd_some]
        dsimp only
        rw [if_pos (show (-9 : Int32) ≤ 0 by decide), bd_some]
        exact go _ hI
      · rw [k, bd_some]
        dsimp only
        rw [asked_t, bd_some, if_neg (z_ne0 hX0 (by omega)), bd_some]
        dsimp only
        have hI1 := Iv_al hI (al_told S (zI p))
        have hr : hr1 a x y = false := by
          unfold hr1
          rw [hea_4 (w.1.2.2.2.2.1 x), decide_eq_false (by omega)]
        have hL9 : aL a p ≤ 20 := w.2.2.2.2.2 p
        have hne : ¬ (zI (X : Int) ≤ 0) := by
          rw [z_0, z_le (by omega) (by omega) (by decide) (by decide)]
          omega
        rw [if_neg hne, m_hears hI1.1.1 w.1 hx hy2 (fun e => hxy e.symm), hr, bd_some]
        dsimp only
        rw [if_pos (show bI false = 0 by decide), chk_N (by omega) (by omega)]
        have hI2 := Iv_al hI1 (al_told (wI S 0 10 (zI p)) (zI (com a (aR a x) y)))
        generalize wI (wI S 0 10 (zI p)) 0 10 (zI (com a (aR a x) y)) = S2 at hI2 ⊢
        obtain ⟨S3, k3, c3, w3, s3, s3'⟩ := m_wall hI2.1.1 w.1 hp (v := aL a p - X) (by omega)
        have e3 : S2.1 101 (zI (p : Int)).toNatClampNeg - zI X = zI ((aL a p - X : Nat) : Int) := by
          rw [z_tnN (by omega), hI2.2.2.2.2.2 p hp, z_sub]
          exact congrArg zI (by omega)
        rw [e3, k3, bd_some]
        dsimp only
        have l3 : S3.1 101 (zI (p : Int)).toNatClampNeg = zI (aL a p) := by
          rw [z_tnN (by omega), (s3' 101 (by decide) (by decide) p).1]
          exact hI2.2.2.2.2.2 p hp
        rw [chk_N (by omega) (by omega), l3, if_pos rfl]
        have hr2 : hr1 (lay1 a p (aL a p - X)) x y = true := by
          have e := tea_com (a := a) (w := p) (k := X) (r := aR a x) (f := y) hXL
          rw [if_pos hb] at e
          show hea (aK a x) (com (tea a p X) (aR a x) y) 0 = true
          rw [e, hea_4 (w.1.2.2.2.2.1 x), decide_eq_true (by omega)]
        rw [m_hears c3 w3 (x := x) (y := y) hx hy2 (fun e => hxy e.symm), hr2, bd_some]
        dsimp only
        rw [if_pos (show bI true = 1 by decide), chk_N (by omega) (by omega)]
        have c4 := CG_told (v := zI (com (lay1 a p (aL a p - X)) (aR (lay1 a p (aL a p - X)) x) y)) c3
        have u4 : sm 1 105 S3 (wI S3 0 10 (zI (com (lay1 a p (aL a p - X)) (aR (lay1 a p (aL a p - X)) x) y))) := sm_wI (by decide)
        generalize wI S3 0 10 (zI (com (lay1 a p (aL a p - X)) (aR (lay1 a p (aL a p - X)) x) y)) = S4 at c4 u4 ⊢
        have l4 : S4.1 101 (zI (p : Int)).toNatClampNeg = zI (aL a p) := by
          rw [z_tnN (by omega), (u4 101 (by decide) (by decide) p).1, (s3' 101 (by decide) (by decide) p).1]
          exact hI2.2.2.2.2.2 p hp
        obtain ⟨S5, k5, c5, w5, s5, s5'⟩ := m_wall c4 w3 (w := p) (v := aL a p) hp hL9
        rw [l4, k5, bd_some]
        dsimp only
        have l5 : S5.1 101 (zI (p : Int)).toNatClampNeg - zI X = zI (aL (lay1 a p (aL a p - X)) p) := by
          rw [z_tnN (by omega), (s5' 101 (by decide) (by decide) p).1]
          rw [z_tnN (by omega)] at l4
          rw [l4, z_sub, lay1_L, if_pos rfl]
          exact congrArg zI (by omega)
        rw [chk_N (by omega) (by omega), l5, if_pos rfl, bd_some]
        refine go S5 ?_
        have cg5 : CG 0 S5 a := CG_a (a := lay1 (lay1 a p (aL a p - X)) p (aL a p)) rfl rfl (fun j => by
          rw [lay1_L, lay1_L]
          by_cases q : j = p
          · rw [if_pos q, q]
          · rw [if_neg q, if_neg q]) (fun _ => rfl) (fun _ => rfl) c5
        have s37 : sm 37 105 S2 S5 := sm_tr (sm_tr s3' (sm_in u4 (by decide) (by decide))) s5'
        have s1 : sm 1 35 S2 S5 := sm_tr (sm_tr (sm_in s3 (by decide) (by decide)) (sm_in u4 (by decide) (by decide))) (sm_in s5 (by decide) (by decide))
        have kp : kps S2 S5 := ⟨sm_in s37 (by decide) (by decide), sm_in s37 (by decide) (by decide), fun n => (s1 4 (by decide) (by decide) n).1⟩
        exact ⟨⟨cg5, CT_k (fun c n q => by
            rcases q with ⟨rfl, rfl⟩ | q
            · exact (s1 34 (by decide) (by decide) 10).1
            · exact (s37 (sb 0 + c) (by omega) (by omega) n).1) hI2.1.2.1, CH_k (fun c n q => s37 (sb 0 + c) (by omega) (by omega) n) hI2.1.2.2⟩, Kp_s hI2.2.1 kp, La_s hI2.2.2 kp⟩
