/-! ===== walls, moves, talks put and taken off ===== -/
def setN (a : AS) (r : Nat) (f : Nat → Nat) : AS := (fun c => if c = r then f else a.1 c, a.2)
def setS (a : AS) (r : Nat) (f : Nat → Int32) : AS := (a.1, fun c => if c = r then f else a.2 c)
theorem aD_cg {a a' : AS} (h : ∀ j, aL a' j = aL a j) : ∀ n, aD a' n = aD a n
  | 0 => rfl
  | n + 1 => by rw [aD, aD, aD_cg h n, h n]
theorem CG_a {i : Nat} {S : Sg} {a a' : AS} (hP : aP a' = aP a) (hW : aW a' = aW a) (hL : ∀ j, aL a' j = aL a j) (hK : ∀ j, aK a' j = aK a j) (hR : ∀ j, aR a' j = aR a j) (c : CG i S a) : CG i S a' := by
  obtain ⟨c1, c2, c3, c4, c5, c6⟩ := c
  exact ⟨by rw [hP]; exact c1, by rw [hW]; exact c2, fun j hj => by rw [hL]; exact c3 j (hW ▸ hj), fun j hj => by rw [aD_cg hL]; exact c4 j (hW ▸ hj), fun j hj => by rw [hK]; exact c5 j (hP ▸ hj), fun j hj => by rw [hR]; exact c6 j (hP ▸ hj)⟩
theorem CG_k {i : Nat} {σ σ' : Sg} {a : AS} (e : ∀ c n, c = 0 ∧ (n = 8 ∨ n = 9) ∨ 1 ≤ c ∧ c < 5 → σ'.1 (sb i + c) n = σ.1 (sb i + c) n) (c : CG i σ a) : CG i σ' a := by
  obtain ⟨c1, c2, c3, c4, c5, c6⟩ := c
  exact ⟨(e 0 9 (by decide)).trans c1, (e 0 8 (by decide)).trans c2, fun j hj => (e 1 j (by omega)).trans (c3 j hj), fun j hj => (e 2 j (by omega)).trans (c4 j hj), fun j hj => (e 3 j (by omega)).trans (c5 j hj), fun j hj => (e 4 j (by omega)).trans (c6 j hj)⟩
theorem CT_k {i : Nat} {σ σ' : Sg} {a : AS} (e : ∀ c n, c = 0 ∧ n = 10 ∨ 5 ≤ c ∧ c < 8 → σ'.1 (sb i + c) n = σ.1 (sb i + c) n) (c : CT i σ a) : CT i σ' a := by
  obtain ⟨c1, c2, c3, c4⟩ := c
  exact ⟨(e 0 10 (by decide)).trans c1, fun j hj => (e 5 j (by omega)).trans (c2 j hj), fun j hj => (e 6 j (by omega)).trans (c3 j hj), fun j hj => (e 7 j (by omega)).trans (c4 j hj)⟩
theorem CH_k {i : Nat} {σ σ' : Sg} {a : AS} (e : ∀ c n, 8 ≤ c ∧ c < 13 → σ'.1 (sb i + c) n = σ.1 (sb i + c) n ∧ σ'.2 (sb i + c) n = σ.2 (sb i + c) n) (c : CH i σ a) : CH i σ' a := by
  obtain ⟨h1, h2, h3, h4, h5, h6⟩ := c
  exact ⟨((e 8 5 (by decide)).1).trans h1, fun j hj => ((e 9 j (by omega)).1).trans (h2 j hj), fun j hj => ((e 10 j (by omega)).1).trans (h3 j hj), fun j hj => ((e 11 j (by omega)).1).trans (h4 j hj), fun j hj => by rw [(e 12 j (by omega)).2]; exact h5 j hj, by rw [(e 8 4 (by decide)).2]; exact h6⟩
theorem MG_k {σ σ' : Sg} {a : AS} (e : ∀ c n, c = 0 ∧ (n = 7 ∨ n = 8) ∨ 5 ≤ c ∧ c < 8 → σ'.1 c n = σ.1 c n) (c : MG σ a) : MG σ' a := by
  obtain ⟨c1, c2, c3, c4, c5⟩ := c
  exact ⟨(e 0 7 (by decide)).trans c1, (e 0 8 (by decide)).trans c2, fun j hj => (e 7 j (by omega)).trans (c3 j hj), fun j hj => (e 5 j (by omega)).trans (c4 j hj), fun j hj => (e 6 j (by omega)).trans (c5 j hj)⟩
theorem MT_k {σ σ' : Sg} {a : AS} (e : ∀ c n, c = 0 ∧ n = 10 ∨ c = 8 → σ'.1 c n = σ.1 c n) (c : MT σ a) : MT σ' a := by
  obtain ⟨c1, c2, c3, c4⟩ := c
  exact ⟨(e 0 10 (by decide)).trans c1, fun j hj => (e 8 _ (by omega)).trans (c2 j hj), fun j hj => (e 8 _ (by omega)).trans (c3 j hj), fun j hj => (e 8 _ (by omega)).trans (c4 j hj)⟩
theorem MH_k {σ σ' : Sg} {a : AS} (e : ∀ c n, c = 0 ∧ n = 16 ∨ 9 ≤ c ∧ c < 14 → σ'.1 c n = σ.1 c n) (c : MH σ a) : MH σ' a := by
  obtain ⟨h1, h2, h3, h4, h5, h6⟩ := c
  exact ⟨(e 0 16 (by decide)).trans h1, fun j hj => (e 9 j (by omega)).trans (h2 j hj), fun j hj => (e 10 j (by omega)).trans (h3 j hj), fun j hj => (e 11 j (by omega)).trans (h4 j hj), fun j hj => (e 12 j (by omega)).trans (h5 j hj), fun j t hj ht => (e 13 _ (by omega)).trans (h6 j t hj ht)⟩
theorem CH_a {i : Nat} {S : Sg} {a a' : AS} (e1 : aH a' = aH a) (e2 : aX a' = aX a) (e3 : aY a' = aY a) (e4 : aZ a' = aZ a) (e5 : ∀ h, aA a' h = aA a h) (e6 : aN a' = aN a) (c : CH i S a) : CH i S a' := by
  unfold CH at c ⊢
  simp only [e1, e2, e3, e4, e5, e6]
  exact c
theorem MH_a {S : Sg} {a a' : AS} (e1 : aH a' = aH a) (e2 : aX a' = aX a) (e3 : aY a' = aY a) (e4 : aZ a' = aZ a) (e5 : ∀ h, aA a' h = aA a h) (e6 : aN a' = aN a) (c : MH S a) : MH S a' := by
  unfold MH at c ⊢
  simp only [e1, e2, e3, e4, e5, e6]
  exact c
theorem WH_a {a a' : AS} (e0 : aP a' = aP a) (e1 : aH a' = aH a) (e2 : aX a' = aX a) (e3 : aY a' = aY a) (e4 : aZ a' = aZ a) (e5 : ∀ h, aA a' h = aA a h) (e6 : aN a' = aN a) (e7 : aL a' = aL a) (c : WH a) : WH a' := by
  unfold WH at c ⊢
  simp only [e0, e1, e2, e3, e4, e5, e6, e7]
  exact c
def msr (i : Nat) (D : Nat → Nat) (S : Sg) : Nat → Sg
  | 0 => S
  | n + 1 => wI (msr i D S n) (sb i + 2) (n + 1) (zI (D (n + 1)))
theorem msr_o {i : Nat} {D : Nat → Nat} {S : Sg} {c k : Nat} (h : c ≠ sb i + 2 ∨ k = 0) : ∀ n, (msr i D S n).1 c k = S.1 c k
  | 0 => rfl
  | n + 1 => by rw [msr, wI_ne (by omega)]; exact msr_o h n
theorem msr_sm {i : Nat} {D : Nat → Nat} {S : Sg} {lo hi : Nat} (h : sb i + 2 < lo ∨ hi ≤ sb i + 2) : ∀ n, sm lo hi S (msr i D S n)
  | 0 => sm_rfl _ _ _
  | n + 1 => sm_tr (msr_sm h n) (sm_wI h)
theorem msr_d {i : Nat} {D : Nat → Nat} {S : Sg} (h0 : S.1 (sb i + 2) 0 = zI (D 0)) : ∀ n r, r ≤ n → (msr i D S n).1 (sb i + 2) r = zI (D r)
  | 0, r, h => by rw [show r = 0 by omega]; exact h0
  | n + 1, r, h => by
    rw [msr]
    by_cases e : r = n + 1
    · rw [e, wI_eq]
    · rw [wI_ne (.inr e)]; exact msr_d h0 n r (by omega)
theorem f6_measure {i W : Nat} {S : Sg} {L D : Nat → Nat} (hW : W ≤ 6) (h8 : S.1 (sb i) 8 = zI W) (hL : ∀ j, j < W → S.1 (sb i + 1) j = zI (L j)) (h0 : S.1 (sb i + 2) 0 = zI (D 0)) (hD : ∀ n, D (n + 1) = D n + L n) : F_X6_measure i S = some (msr i D S W) := by
  have q := loopE (fun n x => T_X6_measure_2 i n (zI x) (msr i D S x)) W (some (msr i D S W)) (by omega) (fun n => by
    simp only [T_X6_measure_2]
    rw [msr_o (by omega), h8, if_le_t (by omega) (by omega)]) (fun n x hx => by
    simp only [T_X6_measure_2]
    rw [msr_o (by omega), h8, if_le_f hx (by omega), zS, chk_N (by omega) (by omega), chk_N (by omega) (by omega), chk_N (by omega) (by omega), z_tnN (by omega), z_tnN (by omega), msr_d h0 x x (Nat.le_refl _), msr_o (.inl (by omega)), hL x hx, z_add, nm, msr, hD x]
    exact congrArg (fun z => T_X6_measure_2 i n (zI ((x + 1 : Nat) : Int)) (wI (msr i D S x) (sb i + 2) (x + 1) (zI z))) (by push_cast; rfl))
  rw [F_X6_measure, show T_X6_measure_2 i FU 0 S = _ from q]; rfl
theorem s_wall : st_wall R := by
  intro σ μ a1 a2 h
  obtain ⟨x, hx1, hx2, rfl⟩ := arg a1
  obtain ⟨y, hy1, hy2, rfl⟩ := arg a2
  obtain ⟨a, ⟨wg, wt, wh⟩, ⟨cg, ct, ch⟩, ⟨mg, mt, mh⟩⟩ := h.1
  have wW := wg.2.1
  unfold F_X8_wall F_X9_wall
  simp only [nm]
  rw [cg.2.1, mg.2.1, z_1, z_sub, inZ_in (l := 0) (h := aW a - 1) ⟨hx1, hx2⟩ (by decide) (zJ_z (by omega) (by omega)) (by decide) (by omega), bd_some, inZ_in (l := 0) (h := 20) ⟨hy1, hy2⟩ (by decide) (by decide) (by decide) (by decide), bd_some, if_lt0 hx1 hx2, if_lt0 hy1 hy2, if_leZ (by omega) (by omega) hx1 hx2, show (20 : Int32) = zI 20 from rfl, if_leZ hy1 hy2 (by decide) (by decide)]
  cases e : inZ 0 (aW a - 1) x
  · refine ⟨-1, σ, μ, ?_, rfl, h⟩
    rcases inZ_f e with e | e
    · rw [if_pos e]; rfl
    · rw [if_pos (c := (aW a : Int) ≤ x) (by omega), ite_self]; rfl
  · obtain ⟨w, rfl, hw⟩ := inZ_n e
    rw [t0, if_neg (by omega), if_neg (by omega)]
    cases e1 : inZ 0 20 y
    · refine ⟨-1, σ, μ, ?_, rfl, h⟩
      rcases inZ_f e1 with e1 | e1
      · rw [if_pos e1]; rfl
      · rw [if_neg (c := y ≤ 20) (by omega), ite_self]; rfl
    · obtain ⟨v, rfl, hv⟩ := inZ_n e1
      have hwW : w < aW a := by omega
      have hv20 : v ≤ 20 := by omega
      let a' := setN a 1 (fun j => if j = w then v else aL a j)
      have L' : ∀ j, aL a' j = if j = w then v else aL a j := fun _ => rfl
      have c1 : ∀ j, j < aW a → (wI σ (sb 0 + 1) w (zI v)).1 (sb 0 + 1) j = zI (aL a' j) := fun j hj => by
        rw [L', wI_1, if_pos rfl]
        by_cases q : j = w
        · rw [if_pos q, if_pos q]
        · rw [if_neg q, if_neg q, cg.2.2.1 j hj]
      have c0 : (wI σ (sb 0 + 1) w (zI v)).1 (sb 0 + 2) 0 = zI (aD a' 0) := (wI_ne (.inl (by decide))).trans (cg.2.2.2.1 0 (Nat.zero_le _))
      rw [t0, if_neg (by omega), if_pos (by omega), chk_N (by omega) (by omega), chk_N (by omega) (by omega), chk_N (by omega) (by omega), chk_N (by omega) (by omega), z_tnN (by omega), cg.2.2.1 w hwW, mg.2.2.1 w hwW,
        f6_measure (S := wI σ (sb 0 + 1) w (zI v)) (W := aW a) (L := aL a') (D := aD a') wW ((wI_ne (.inl (by decide))).trans cg.2.1) c1 c0 (fun _ => rfl), bd_some]
      refine ⟨zI (aL a w), _, _, rfl, rfl, ?_⟩
      have e34 : sb 0 = 34 := rfl
      have sm1 : ∀ lo hi, 37 ≤ lo ∨ hi ≤ 35 → sm lo hi σ (msr 0 (aD a') (wI σ (sb 0 + 1) w (zI v)) (aW a)) := fun lo hi q => sm_tr (sm_wI (by show 35 < lo ∨ hi ≤ 35; omega)) (msr_sm (by show 36 < lo ∨ hi ≤ 36; omega) _)
      have o1 : ∀ c n, c ≠ 35 → c ≠ 36 → (msr 0 (aD a') (wI σ (sb 0 + 1) w (zI v)) (aW a)).1 c n = σ.1 c n := fun c n q q2 => (msr_o (.inl q2) _).trans (wI_ne (.inl q))
      have wg' : WG a' := ⟨wg.1, wg.2.1, wg.2.2.1, fun j => by
        rw [L']
        have := wg.2.2.2.1 j
        split <;> omega, wg.2.2.2.2.1, wg.2.2.2.2.2⟩
      have wh' : WH a' := ⟨wh.1, wh.2.1, wh.2.2.1, fun j => by
        rw [L']
        have := wh.2.2.2 j
        split <;> omega⟩
      have cg' : CG 0 (msr 0 (aD a') (wI σ (sb 0 + 1) w (zI v)) (aW a)) a' := ⟨(o1 _ _ (by decide) (by decide)).trans cg.1, (o1 _ _ (by decide) (by decide)).trans cg.2.1, fun j hj => (msr_o (.inl (by decide)) _).trans (c1 j hj), fun r hr => msr_d c0 (aW a) r hr, fun j hj => (o1 _ _ (by decide) (by decide)).trans (cg.2.2.2.2.1 j hj), fun j hj => (o1 _ _ (by decide) (by decide)).trans (cg.2.2.2.2.2 j hj)⟩
      have mg' : MG (wI μ 7 w (zI v)) a' := ⟨(wI_ne (.inl (by decide))).trans mg.1, (wI_ne (.inl (by decide))).trans mg.2.1, fun j hj => by
        rw [L', wI_1, if_pos rfl]
        by_cases q : j = w
        · rw [if_pos q, if_pos q]
        · rw [if_neg q, if_neg q, mg.2.2.1 j hj], fun j hj => (wI_ne (.inl (by decide))).trans (mg.2.2.2.1 j hj), fun j hj => (wI_ne (.inl (by decide))).trans (mg.2.2.2.2 j hj)⟩
      exact R_new h ⟨a', ⟨wg', wt, wh'⟩, ⟨cg', CT_k (fun c n q => o1 _ _ (by omega) (by omega)) ct, CH_k (fun c n q => sm1 37 47 (by decide) (sb 0 + c) (by omega) (by omega) n) ch⟩, ⟨mg', MT_k (fun c n q => wI_ne (by omega)) mt, MH_k (fun c n q => wI_ne (by omega)) mh⟩⟩ (sm1 _ _ (by decide)) (sm1 _ _ (by decide)) ⟨fun n _ => wI_ne (.inl (by decide)), fun c hc n => wI_ne (by omega)⟩
theorem s_move : st_move R := by
  intro σ μ a1 a2 h
  obtain ⟨x, hx1, hx2, rfl⟩ := arg a1
  obtain ⟨y, hy1, hy2, rfl⟩ := arg a2
  obtain ⟨a, ⟨wg, wt, wh⟩, ⟨cg, ct, ch⟩, ⟨mg, mt, mh⟩⟩ := h.1
  have wP := wg.1
  unfold F_X8_move F_X9_move
  simp only [nm]
  rw [f8_isOne cg wg ⟨hx1, hx2⟩, f9_isOne mg wg ⟨hx1, hx2⟩, bd_some, bd_some]
  cases e : inZ 0 (aP a - 1) x
  · exact ⟨-1, σ, μ, rfl, rfl, h⟩
  · rw [t0, t0, f8_isRoom cg wg ⟨hy1, hy2⟩, f9_isRoom mg wg ⟨hy1, hy2⟩, bd_some, bd_some]
    cases e1 : roB a y
    · exact ⟨-1, σ, μ, rfl, rfl, h⟩
    · obtain ⟨f, rfl, hf'⟩ := inZ_n e
      obtain ⟨r, rfl, hr, hr0⟩ := roB_t e1
      have hf : f < aP a := by omega
      have e34 : sb 0 = 34 := rfl
      let a' := setN a 3 (fun j => if j = f then r else aR a j)
      have R' : ∀ j, aR a' j = if j = f then r else aR a j := fun _ => rfl
      have wg' : WG a' := ⟨wg.1, wg.2.1, wg.2.2.1, wg.2.2.2.1, wg.2.2.2.2.1, fun j => by
        rw [R']
        have := wg.2.2.2.2.2 j
        split
        · exact hr
        · exact this⟩
      rw [t0, t0, chk_N (by omega) (by omega), chk_N (by omega) (by omega), chk_N (by omega) (by omega), chk_N (by omega) (by omega), z_tnN (by omega), cg.2.2.2.2.2 f hf, mg.2.2.2.2 f hf]
      have cg' : CG 0 (wI σ (sb 0 + 4) f (zI r)) a' := ⟨(wI_ne (.inl (by decide))).trans cg.1, (wI_ne (.inl (by decide))).trans cg.2.1, fun j hj => (wI_ne (.inl (by decide))).trans (cg.2.2.1 j hj), fun j hj => by rw [aD_cg (a' := a') (a := a) (fun _ => rfl)]; exact (wI_ne (.inl (by decide))).trans (cg.2.2.2.1 j hj), fun j hj => (wI_ne (.inl (by decide))).trans (cg.2.2.2.2.1 j hj), fun j hj => by
        rw [R', wI_1, if_pos rfl]
        by_cases q : j = f
        · rw [if_pos q, if_pos q]
        · rw [if_neg q, if_neg q, cg.2.2.2.2.2 j hj]⟩
      have mg' : MG (wI μ 6 f (zI r)) a' := ⟨(wI_ne (.inl (by decide))).trans mg.1, (wI_ne (.inl (by decide))).trans mg.2.1, fun j hj => (wI_ne (.inl (by decide))).trans (mg.2.2.1 j hj), fun j hj => (wI_ne (.inl (by decide))).trans (mg.2.2.2.1 j hj), fun j hj => by
        rw [R', wI_1, if_pos rfl]
        by_cases q : j = f
        · rw [if_pos q, if_pos q]
        · rw [if_neg q, if_neg q, mg.2.2.2.2 j hj]⟩
      exact ⟨zI (aR a f), _, _, rfl, rfl, R_new h ⟨a', ⟨wg', wt, wh⟩, ⟨cg', CT_k (fun c n q => wI_ne (by omega)) ct, CH_k (fun c n q => sm_wI (lo := 42) (hi := 47) (by decide) (sb 0 + c) (by omega) (by omega) n) ch⟩, ⟨mg', MT_k (fun c n q => wI_ne (by omega)) mt, MH_k (fun c n q => wI_ne (by omega)) mh⟩⟩ (sm_wI (by decide)) (sm_wI (by decide)) ⟨fun n _ => wI_ne (.inl (by decide)), fun c hc n => wI_ne (by omega)⟩⟩
theorem s_off : st_off R := by
  intro σ μ a1 h
  obtain ⟨x, hx1, hx2, rfl⟩ := arg a1
  obtain ⟨a, ⟨wg, wt, wh⟩, ⟨cg, ct, ch⟩, ⟨mg, mt, mh⟩⟩ := h.1
  have wT := wt.1
  unfold F_X8_off F_X9_off
  simp only [nm]
  rw [ct.1, mt.1, f_inN (n := aT a) ⟨hx1, hx2⟩ (by omega) rfl, bd_some, if_lt0 hx1 hx2, if_leZ hx1 hx2 (by omega) (by omega)]
  cases e : inZ 0 (aT a) x
  · refine ⟨-1, σ, μ, ?_, rfl, h⟩
    rcases inZ_f e with e | e
    · rw [if_pos e]
    · rw [if_neg (c := x ≤ aT a) (by omega), ite_self]
  · obtain ⟨n, rfl, hn⟩ := inZ_n e
    have e34 : sb 0 = 34 := rfl
    let a' := setN a 0 (fun j => if j = 2 then n else a.1 0 j)
    have wt' : WT a' := ⟨by show n ≤ 8; omega, fun k hk => wt.2 k (by have hk : k < n := hk; omega)⟩
    have ct' : CT 0 (wI σ (sb 0) 10 (zI n)) a' := ⟨wI_eq, fun j hj => (wI_ne (.inl (by decide))).trans (ct.2.1 j (by have hj : j < n := hj; omega)), fun j hj => (wI_ne (.inl (by decide))).trans (ct.2.2.1 j (by have hj : j < n := hj; omega)), fun j hj => (wI_ne (.inl (by decide))).trans (ct.2.2.2 j (by have hj : j < n := hj; omega))⟩
    have mt' : MT (wI μ 0 10 (zI n)) a' := ⟨wI_eq, fun j hj => (wI_ne (.inl (by decide))).trans (mt.2.1 j (by have hj : j < n := hj; omega)), fun j hj => (wI_ne (.inl (by decide))).trans (mt.2.2.1 j (by have hj : j < n := hj; omega)), fun j hj => (wI_ne (.inl (by decide))).trans (mt.2.2.2 j (by have hj : j < n := hj; omega))⟩
    have cg' : CG 0 σ a' := CG_a (a := a) rfl rfl (fun _ => rfl) (fun _ => rfl) (fun _ => rfl) cg
    rw [if_neg (by omega), if_pos (by omega), t0]
    exact ⟨_, _, _, rfl, rfl, R_new h ⟨a', ⟨wg, wt', wh⟩, ⟨CG_k (fun c n q => wI_ne (by omega)) cg', ct', CH_k (fun c n q => sm_wI (lo := 42) (hi := 47) (by decide) (sb 0 + c) (by omega) (by omega) n) ch⟩, ⟨MG_k (fun c n q => wI_ne (by omega)) mg, mt', MH_k (fun c n q => wI_ne (by omega)) mh⟩⟩ (sm_wI (by decide)) (sm_wI (by decide)) ⟨fun n hn => wI_ne (by omega), fun c hc n => wI_ne (by omega)⟩⟩
theorem s_talk : st_talk R := by
  intro σ μ a1 a2 a3 h
  obtain ⟨x, hx1, hx2, rfl⟩ := arg a1
  obtain ⟨y, hy1, hy2, rfl⟩ := arg a2
  obtain ⟨z, hz1, hz2, rfl⟩ := arg a3
  obtain ⟨a, ⟨wg, wt, wh⟩, ⟨cg, ct, ch⟩, ⟨mg, mt, mh⟩⟩ := h.1
  have wP := wg.1
  have wT := wt.1
  unfold F_X8_talk F_X9_talk
  rw [f8_two cg wg ⟨hx1, hx2⟩ ⟨hy1, hy2⟩, f9_two mg wg ⟨hx1, hx2⟩ ⟨hy1, hy2⟩, bd_some, bd_some]
  cases e : twB a x y
  · exact ⟨-1, σ, μ, rfl, rfl, h⟩
  · rw [t0, t0, f8_isSet cg wg ⟨hz1, hz2⟩, f9_isSet mg wg ⟨hz1, hz2⟩, bd_some, bd_some]
    cases e1 : inZ 0 ((2 ^ aP a - 1 : Nat) : Int) z
    · exact ⟨-1, σ, μ, rfl, rfl, h⟩
    · obtain ⟨m, n, rfl, rfl, hm, hn, hmn⟩ := twB_t e
      obtain ⟨s, rfl, hs, hs2⟩ := set_n wg e1
      rw [t0, t0, has_if (by omega), has_if (by omega), f_has (by omega), f_has (by omega), bd_some, bd_some, bI_z, bI_z]
      cases hsm : tb (zI s) m
      case true => exact ⟨-1, σ, μ, rfl, rfl, h⟩
      cases hsn : tb (zI s) n
      case true => exact ⟨-1, σ, μ, rfl, rfl, h⟩
      simp only [Bool.false_eq_true, if_false]
      rw [ct.1, mt.1, show (8 : Int32) = zI ((8 : Nat) : Int) from rfl, if_ltZ (by omega) (by omega) (by decide) (by decide), if_eqZ (by omega) (by omega) (by decide) (by decide)]
      by_cases e8 : aT a = 8
      · rw [if_neg (by omega), if_pos (by omega)]
        exact ⟨-2, σ, μ, rfl, rfl, h⟩
      · rw [if_pos (by omega), if_neg (by omega)]
        have e34 : sb 0 = 34 := rfl
        let T := aT a
        let a' := setS (setN (setN (setN a 4 (fun j => if j = T then m else aS a j)) 5 (fun j => if j = T then n else aE a j)) 0 (fun j => if j = 2 then T + 1 else a.1 0 j)) 0 (fun j => if j = T then zI s else aB a j)
        have S' : ∀ j, aS a' j = if j = T then m else aS a j := fun _ => rfl
        have E' : ∀ j, aE a' j = if j = T then n else aE a j := fun _ => rfl
        have B' : ∀ j, aB a' j = if j = T then zI s else aB a j := fun _ => rfl
        have wt' : WT a' := ⟨by show T + 1 ≤ 8; omega, fun k hk => by
          have hk : k < T + 1 := hk
          rw [S', E', B']
          by_cases q : k = T
          · rw [if_pos q, if_pos q, if_pos q]
            exact ⟨hm, hn, hmn, hs2, hsm, hsn⟩
          · rw [if_neg q, if_neg q, if_neg q]
            exact wt.2 k (by omega)⟩
        have cg' : CG 0 σ a' := CG_a (a := a) rfl rfl (fun _ => rfl) (fun _ => rfl) (fun _ => rfl) cg
        have k8 : F_X6_addTalk 0 σ (zI m) (zI n) (zI s) = some (zI T, wI (wI (wI (wI σ (sb 0 + 5) T (zI m)) (sb 0 + 6) T (zI n)) (sb 0 + 7) T (zI s)) (sb 0) 10 (zI ((T + 1 : Nat) : Int))) := by
          rw [F_X6_addTalk]
          simp (disch := omega) only [nm, ct.1, chk_N, z_tnN, wI_ne]
          rw [zS, wI_eq, z_1, z_sub]
          exact congrArg (fun q => some (zI q, _)) (by show ((T + 1 : Nat) : Int) - 1 = T; omega)
        have r3 : ∀ e : Nat, (3 : Int32) * zI T + zI e = zI ((3 * T + e : Nat) : Int) := fun e => zMA (m := 3) rfl
        have hT8 : T < 8 := by omega
        let μ' := wI (wI (wI (wI μ 8 (3 * T) (zI m)) 8 (3 * T + 1) (zI n)) 8 (3 * T + 2) (zI s)) 0 10 (zI ((T + 1 : Nat) : Int))
        have k9 : chk (inB ((3 : Int32) * zI T) 24) (nm (wI μ 8 ((3 : Int32) * zI T).toNatClampNeg (zI m)) (fun S10 => chk (inB (((3 : Int32) * (S10.1 0 10)) + (1 : Int32)) 24) (nm (wI S10 8 (((3 : Int32) * (S10.1 0 10)) + (1 : Int32)).toNatClampNeg (zI n)) (fun S12 => chk (inB (((3 : Int32) * (S12.1 0 10)) + (2 : Int32)) 24) (nm (wI S12 8 (((3 : Int32) * (S12.1 0 10)) + (2 : Int32)).toNatClampNeg (zI s)) (fun S14 => nm (wI S14 0 10 ((S14.1 0 10) + (1 : Int32))) (fun S15 => some ((S15.1 0 10) - (1 : Int32), S15)))))))) = some (zI T, μ') := by
          have r0 : (3 : Int32) * zI T = zI ((3 * T : Nat) : Int) := zM (m := 3) rfl
          have r1 : zI ((3 * T : Nat) : Int) + 1 = zI ((3 * T + 1 : Nat) : Int) := zS _
          have r2 : zI ((3 * T : Nat) : Int) + 2 = zI ((3 * T + 2 : Nat) : Int) := by rw [zN2, z_add]; exact congrArg zI (by push_cast; rfl)
          have rT : zI (aT a) = zI T := rfl
          simp (disch := omega) only [nm, mt.1, chk_N, z_tnN, wI_ne, rT, r0, r1, r2]
          rw [zS, wI_eq, z_1, z_sub]
          exact congrArg (fun q => some (zI q, μ')) (by show ((T + 1 : Nat) : Int) - 1 = T; omega)
        rw [k8, bd_some]
        refine ⟨_, _, _, rfl, k9, ?_⟩
        have o8 : ∀ c k, c ≠ 34 → c ≠ 39 → c ≠ 40 → c ≠ 41 → (wI (wI (wI (wI σ (sb 0 + 5) T (zI m)) (sb 0 + 6) T (zI n)) (sb 0 + 7) T (zI s)) (sb 0) 10 (zI ((T + 1 : Nat) : Int))).1 c k = σ.1 c k := fun c k q1 q2 q3 q4 => by rw [wI_ne (by omega), wI_ne (by omega), wI_ne (by omega), wI_ne (by omega)]
        have o9 : ∀ c n, c ≠ 8 → (c ≠ 0 ∨ n ≠ 10) → μ'.1 c n = μ.1 c n := fun c n q1 q2 => by
          show (wI (wI (wI (wI μ 8 _ _) 8 _ _) 8 _ _) 0 10 _).1 c n = _
          rw [wI_ne (by omega), wI_ne (by omega), wI_ne (by omega), wI_ne (by omega)]
        have sm8 : ∀ lo hi, 42 ≤ lo ∨ hi ≤ 34 → sm lo hi σ (wI (wI (wI (wI σ (sb 0 + 5) T (zI m)) (sb 0 + 6) T (zI n)) (sb 0 + 7) T (zI s)) (sb 0) 10 (zI ((T + 1 : Nat) : Int))) := fun lo hi q => sm_tr (sm_tr (sm_tr (sm_wI (by omega)) (sm_wI (by omega))) (sm_wI (by omega))) (sm_wI (by omega))
        have ct' : CT 0 (wI (wI (wI (wI σ (sb 0 + 5) T (zI m)) (sb 0 + 6) T (zI n)) (sb 0 + 7) T (zI s)) (sb 0) 10 (zI ((T + 1 : Nat) : Int))) a' := ⟨wI_eq, fun j hj => by
          have hj : j < T + 1 := hj
          rw [S', wI_ne (by omega), wI_ne (by omega), wI_ne (by omega), wI_1, if_pos rfl]
          by_cases q : j = T
          · rw [if_pos q, if_pos q]
          · rw [if_neg q, if_neg q, ct.2.1 j (by omega)], fun j hj => by
          have hj : j < T + 1 := hj
          rw [E', wI_ne (by omega), wI_ne (by omega), wI_1, if_pos rfl]
          by_cases q : j = T
          · rw [if_pos q, if_pos q]
          · rw [if_neg q, if_neg q, wI_ne (by omega), ct.2.2.1 j (by omega)], fun j hj => by
          have hj : j < T + 1 := hj
          rw [B', wI_ne (by omega), wI_1, if_pos rfl]
          by_cases q : j = T
          · rw [if_pos q, if_pos q]
          · rw [if_neg q, if_neg q, wI_ne (by omega), wI_ne (by omega), ct.2.2.2 j (by omega)]⟩
        have mt' : MT μ' a' := ⟨wI_eq, fun j hj => by
          have hj : j < T + 1 := hj
          show (wI (wI (wI (wI μ 8 _ _) 8 _ _) 8 _ _) 0 10 _).1 8 _ = _
          rw [S', wI_ne (by omega), wI_ne (by omega), wI_ne (by omega), wI_1, if_pos rfl]
          by_cases q : j = T
          · rw [if_pos q, if_pos (by omega)]
          · rw [if_neg q, if_neg (by omega), mt.2.1 j (by omega)], fun j hj => by
          have hj : j < T + 1 := hj
          show (wI (wI (wI (wI μ 8 _ _) 8 _ _) 8 _ _) 0 10 _).1 8 _ = _
          rw [E', wI_ne (by omega), wI_ne (by omega), wI_1, if_pos rfl]
          by_cases q : j = T
          · rw [if_pos q, if_pos (by omega)]
          · rw [if_neg q, if_neg (by omega), wI_ne (by omega), mt.2.2.1 j (by omega)], fun j hj => by
          have hj : j < T + 1 := hj
          show (wI (wI (wI (wI μ 8 _ _) 8 _ _) 8 _ _) 0 10 _).1 8 _ = _
          rw [B', wI_ne (by omega), wI_1, if_pos rfl]
          by_cases q : j = T
          · rw [if_pos q, if_pos (by omega)]
          · rw [if_neg q, if_neg (by omega), wI_ne (by omega), wI_ne (by omega), mt.2.2.2 j (by omega)]⟩
        have cgn : CG 0 (wI (wI (wI (wI σ (sb 0 + 5) T (zI m)) (sb 0 + 6) T (zI n)) (sb 0 + 7) T (zI s)) (sb 0) 10 (zI ((T + 1 : Nat) : Int))) a' := CG_k (fun c n q => by rw [wI_ne (by omega), wI_ne (by omega), wI_ne (by omega), wI_ne (by omega)]) cg'
        have hA : ∀ h, aA a' h = aA a h := fun h => if_neg (by omega)
        exact R_new h ⟨a', ⟨wg, wt', WH_a (a := a) rfl rfl rfl rfl rfl hA rfl rfl wh⟩, ⟨cgn, ct', CH_k (fun c n q => sm8 42 47 (by decide) (sb 0 + c) (by omega) (by omega) n) (CH_a (a := a) rfl rfl rfl rfl hA rfl ch)⟩, ⟨MG_k (fun c n q => o9 _ _ (by omega) (by omega)) mg, mt', MH_k (fun c n q => o9 _ _ (by omega) (by omega)) (MH_a (a := a) rfl rfl rfl rfl hA rfl mh)⟩⟩ (sm8 _ _ (by decide)) (sm8 _ _ (by decide)) ⟨fun n hn => o9 _ _ (by decide) (by omega), fun c hc n => o9 _ _ (by omega) (by omega)⟩
