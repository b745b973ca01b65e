/-! ===== each one who speaks ===== -/
theorem law_x {a : AS} (w : wf a) {Ln : Nat} {xs : Nat → Int32} (hLn : Ln ≤ 260) : ∀ d x, x + d = aP a → ∀ n, d < n → ∀ S : Sg, Iv a S → ∃ S', T_L_law_88 Ln xs (zI (aP a)) n (zI x) S = some (.inl S') ∧ Iv a S' := by
  have wP := w.1.1
  have p7 := pow8 (n := aP a) (by omega)
  intro d
  induction d with
  | zero =>
    intro x hx n hn S hI
    obtain ⟨n, rfl⟩ : ∃ k, n = k + 1 := ⟨n - 1, by omega⟩
    simp only [T_L_law_88]
    rw [if_le_t (by omega) (by omega)]
    exact ⟨S, rfl, hI⟩
  | succ d ih =>
    intro x hx n hn S hI
    obtain ⟨n, rfl⟩ : ∃ k, n = k + 1 := ⟨n - 1, by omega⟩
    have hx2 : x < aP a := by omega
    have e20 : (20 : Int32) + zI x = zI ((20 + x : Nat) : Int) := by rw [show (20 : Int32) = zI 20 from rfl, z_add]; exact congrArg zI (by omega)
    have e28 : (28 : Int32) + zI x = zI ((28 + x : Nat) : Int) := by rw [show (28 : Int32) = zI 28 from rfl, z_add]; exact congrArg zI (by omega)
    obtain ⟨v1, k1⟩ := l_cell (xs := xs) (S := S) (j := 20 + x) hLn (by omega)
    obtain ⟨v2, k2⟩ := l_cell (xs := xs) (S := S) (j := 28 + x) hLn (by omega)
    obtain ⟨r1, hr1, k3⟩ := l_some (S := S) (v := v1) (n := 2 ^ aP a) (by omega) (by omega)
    obtain ⟨r2, hr2, k4⟩ := l_some (S := S) (v := v2) (n := 2 ^ aP a) (by omega) (by omega)
    simp only [T_L_law_88, nm]
    rw [if_le_f (by omega) (by omega), e20, k1, bd_some, one_z (by omega), k3, bd_some, e28, k2, bd_some, k4, bd_some]
    have s1 : sub (aP a) (zI r1 &&& (((1 : Int32) <<< (zI x &&& 31)) ^^^ (-1 : Int32))) := sub_and (z_sub_ (by omega) hr1)
    have t1 : tb (zI r1 &&& (((1 : Int32) <<< (zI x &&& 31)) ^^^ (-1 : Int32))) x = false := by
      rw [tb_and, tb_not (by omega), tb_one (by omega) (by omega), decide_eq_true rfl, Bool.not_true, Bool.and_false]
    generalize zI r1 &&& (((1 : Int32) <<< (zI x &&& 31)) ^^^ (-1 : Int32)) = set at s1 t1 ⊢
    have s2 : sub (aP a) (set &&& zI r2) := sub_and s1
    have m2 : ∀ j, tb (set &&& zI r2) j = true → tb set j = true := fun j h => by
      rw [tb_and, Bool.and_eq_true] at h
      exact h.1
    have t2 : tb (set &&& zI r2) x = false := by rw [tb_and, t1]; rfl
    generalize set &&& zI r2 = less at s2 m2 t2 ⊢
    rw [m_heard hI.1 w hx2 s1 t1, bd_some, and0 (fun j h => by
      cases e : tb set j
      · rfl
      · rw [hb_s w.1 e] at h; cases h), if_pos rfl, m_heard hI.1 w hx2 s2 t2, bd_some, andn0 (fun j h => hb_mono w.1 m2 h), if_pos rfl, bit_z (by omega), hb_f w.1 hx2, if_neg (show ¬ bI false = 1 by decide)]
    obtain ⟨q, q1, q2, q3, q4⟩ := m_hush hI.1 w hx2
    rw [q4, bd_some]
    dsimp only
    have hI2 := Iv_al hI (al_told S q)
    have hng : ¬ zI (pc q : Int) < 0 := by
      have := pc_le q
      rw [z_0, z_lt (by omega) (by omega) (by decide) (by decide)]
      omega
    have c1 := cir_sub w hx2
    have c2 : tb (orU (aP a) (fun y => decide (cir a y = cir a x))) x = true := by
      rw [tb_orU _ (by omega) _ (by omega), decide_eq_true hx2, decide_eq_true rfl]
      rfl
    rw [asked_t, bd_some, if_neg hng, l_size, bd_some, if_pos rfl, m_heard hI2.1 w hx2 q1 q2, bd_some, q3, if_pos rfl, m_heard hI2.1 w hx2 (sub_0 _) (tb_0 _), bd_some, show hb a x 0 ||| ((1 : Int32) <<< (zI x &&& 31)) = cir a x from rfl, m_leak hI2.1 w c1, bd_some, if_neg (shr_ne (by omega) c2)]
    obtain ⟨S3, k5, hI3⟩ := law_y w (Ln := Ln) (xs := xs) hx2 (aP a) 0 (by omega) FU (by unfold FU; omega) (wI S 0 10 q) hI2
    rw [show T_L_law_255 Ln xs (zI (aP a)) (zI x) FU (0 : Int32) (wI S 0 10 q) = _ from k5, bd_some]
    dsimp only
    rw [zSu]
    exact ih (x + 1) (by omega) n (by omega) S3 hI3
