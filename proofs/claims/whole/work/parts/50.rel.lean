/-! ===== what holds between the two states ===== -/
def St (i : Nat) (σ μ : Sg) : Prop := ∃ a : AS, (WG a ∧ WT a ∧ WH a) ∧ (CG i σ a ∧ CT i σ a ∧ CH i σ a) ∧ (MG μ a ∧ MT μ a ∧ MH μ a)
def dec (μ : Sg) (k : Nat) : Sg := (fun c n =>
  if c = 0 then (if n = 10 then μ.1 26 (488 * k + 485) else if n = 16 then μ.1 26 (488 * k + 486) else μ.1 0 n)
  else if c = 6 then μ.1 26 (488 * k + n)
  else if c = 7 then μ.1 26 (488 * k + (if n = 0 then 12 else 6 + n))
  else if c = 8 then μ.1 26 (488 * k + (21 + n))
  else if c = 9 then μ.1 26 (488 * k + (if n < 5 then 16 + n else 8 + n))
  else if c = 10 then μ.1 26 (488 * k + (45 + n))
  else if c = 11 then μ.1 26 (488 * k + (85 + n))
  else if c = 12 then μ.1 26 (488 * k + (125 + n))
  else if c = 13 then μ.1 26 (488 * k + (165 + n))
  else μ.1 c n, μ.2)
def RA (σ μ : Sg) : Prop := σ.1 0 10 = μ.1 0 17 ∧ σ.1 0 11 = μ.1 0 18 ∧ ∀ f, f < 6 → σ.1 5 f = μ.1 14 f
def RR (σ μ : Sg) : Prop := ∀ r, r < 6 → (∃ z : Int, -1 ≤ z ∧ z ≤ 40 ∧ σ.1 (14 + 2 * r) 1 = zI z ∧ μ.1 1 r = zI z) ∧ ∀ j, j < 40 → σ.1 (14 + 2 * r + 1) j = μ.1 2 (40 * r + j)
def RT (σ μ : Sg) : Prop := ∀ t, t < 4 → (∃ z : Int, -1 ≤ z ∧ z ≤ 80 ∧ σ.1 (26 + 2 * t) 1 = zI z ∧ μ.1 3 t = zI z) ∧ ∀ j, j < 80 → ∃ z : Int, -128 ≤ z ∧ z ≤ 127 ∧ σ.1 (26 + 2 * t + 1) j = zI z ∧ μ.1 4 (80 * t + j) = zI z
def RD (σ : Sg) : Prop := σ.1 (sb 1 + 2) 0 = 0
def RK (σ μ : Sg) : Prop := ∀ k, k < 3 → (σ.1 4 k = 0 ∧ μ.1 25 k = 0) ∨ (σ.1 4 k = 1 ∧ μ.1 25 k = 1 ∧ St (2 + k) σ (dec μ k))
def R (σ μ : Sg) : Prop := St 0 σ μ ∧ RA σ μ ∧ RR σ μ ∧ RT σ μ ∧ RD σ ∧ RK σ μ
/-! what stands still -/
def sm (lo hi : Nat) (σ σ' : Sg) : Prop := ∀ c, lo ≤ c → c < hi → ∀ n, σ'.1 c n = σ.1 c n ∧ σ'.2 c n = σ.2 c n
def smM (μ μ' : Sg) : Prop := (μ'.1 0 7 = μ.1 0 7 ∧ μ'.1 0 8 = μ.1 0 8 ∧ μ'.1 0 10 = μ.1 0 10 ∧ μ'.1 0 16 = μ.1 0 16) ∧ ∀ c, 5 ≤ c → c < 14 → ∀ n, μ'.1 c n = μ.1 c n
theorem St_cg2 {i j : Nat} {σ σ' μ μ' : Sg} (h : St i σ μ) (e : ∀ c, c < 13 → ∀ n, σ'.1 (sb j + c) n = σ.1 (sb i + c) n ∧ σ'.2 (sb j + c) n = σ.2 (sb i + c) n) (e2 : smM μ μ') : St j σ' μ' := by
  obtain ⟨a, hw, ⟨⟨c1, c2, c3, c4, c5, c6⟩, ⟨t1, t2, t3, t4⟩, ⟨h1, h2, h3, h4, h5, h6⟩⟩, ⟨⟨m1, m2, m3, m4, m5⟩, ⟨n1, n2, n3, n4⟩, ⟨k1, k2, k3, k4, k5, k6⟩⟩⟩ := h
  obtain ⟨⟨q1, q2, q3, q4⟩, q⟩ := e2
  have e0 := fun n => (e 0 (by decide) n).1
  refine ⟨a, hw, ⟨⟨(e0 9).trans c1, (e0 8).trans c2, fun j hj => ((e 1 (by decide) j).1).trans (c3 j hj), fun j hj => ((e 2 (by decide) j).1).trans (c4 j hj), fun j hj => ((e 3 (by decide) j).1).trans (c5 j hj), fun j hj => ((e 4 (by decide) j).1).trans (c6 j hj)⟩, ⟨(e0 10).trans t1, fun j hj => ((e 5 (by decide) j).1).trans (t2 j hj), fun j hj => ((e 6 (by decide) j).1).trans (t3 j hj), fun j hj => ((e 7 (by decide) j).1).trans (t4 j hj)⟩, ⟨((e 8 (by decide) 5).1).trans h1, fun j hj => ((e 9 (by decide) j).1).trans (h2 j hj), fun j hj => ((e 10 (by decide) j).1).trans (h3 j hj), fun j hj => ((e 11 (by decide) j).1).trans (h4 j hj), fun j hj => ?_, ?_⟩⟩, ⟨⟨q1.trans m1, q2.trans m2, fun j hj => (q 7 (by decide) (by decide) j).trans (m3 j hj), fun j hj => (q 5 (by decide) (by decide) j).trans (m4 j hj), fun j hj => (q 6 (by decide) (by decide) j).trans (m5 j hj)⟩, ⟨q3.trans n1, fun j hj => (q 8 (by decide) (by decide) _).trans (n2 j hj), fun j hj => (q 8 (by decide) (by decide) _).trans (n3 j hj), fun j hj => (q 8 (by decide) (by decide) _).trans (n4 j hj)⟩, ⟨q4.trans k1, fun j hj => (q 9 (by decide) (by decide) _).trans (k2 j hj), fun j hj => (q 10 (by decide) (by decide) _).trans (k3 j hj), fun j hj => (q 11 (by decide) (by decide) _).trans (k4 j hj), fun j hj => (q 12 (by decide) (by decide) _).trans (k5 j hj), fun j t hj ht => (q 13 (by decide) (by decide) _).trans (k6 j t hj ht)⟩⟩⟩
  · rw [(e 12 (by decide) j).2]; exact h5 j hj
  · rw [(e 8 (by decide) 4).2]; exact h6
theorem St_cg {i : Nat} {σ σ' μ μ' : Sg} (h : St i σ μ) (e : sm (sb i) (sb i + 13) σ σ') (e2 : smM μ μ') : St i σ' μ' := St_cg2 h (fun c hc n => e (sb i + c) (by omega) (by omega) n) e2
theorem dec_cg {μ μ' : Sg} {k : Nat} (e : μ'.1 0 7 = μ.1 0 7 ∧ μ'.1 0 8 = μ.1 0 8 ∧ (∀ n, μ'.1 5 n = μ.1 5 n) ∧ ∀ n, n < 1464 → μ'.1 26 n = μ.1 26 n) (hk : k < 3) : ∀ {i : Nat} {σ : Sg}, St i σ (dec μ k) → St i σ (dec μ' k) := by
  intro i σ h
  obtain ⟨a, ⟨wg, wt, wh⟩, hc, ⟨⟨m1, m2, m3, m4, m5⟩, ⟨n1, n2, n3, n4⟩, ⟨k1, k2, k3, k4, k5, k6⟩⟩⟩ := h
  obtain ⟨e1, e2, e3, e4⟩ := e
  have w1 := wg.1
  have w2 := wg.2.1
  have w3 := wt.1
  have w4 := wh.1
  refine ⟨a, ⟨wg, wt, wh⟩, hc, ⟨⟨e1.trans m1, e2.trans m2, fun j hj => ?_, fun j hj => (e3 j).trans (m4 j hj), fun j hj => (e4 _ (by omega)).trans (m5 j hj)⟩, ⟨(e4 _ (by omega)).trans n1, fun j hj => (e4 _ (by omega)).trans (n2 j hj), fun j hj => (e4 _ (by omega)).trans (n3 j hj), fun j hj => (e4 _ (by omega)).trans (n4 j hj)⟩, ⟨(e4 _ (by omega)).trans k1, fun j hj => ?_, fun j hj => (e4 _ (by omega)).trans (k3 j hj), fun j hj => (e4 _ (by omega)).trans (k4 j hj), fun j hj => (e4 _ (by omega)).trans (k5 j hj), fun j t hj ht => (e4 _ (by omega)).trans (k6 j t hj ht)⟩⟩⟩
  · exact (e4 _ (by split <;> omega)).trans (m3 j hj)
  · exact (e4 _ (by split <;> omega)).trans (k2 j hj)
theorem RK_cg {σ σ' μ μ' : Sg} (h : RK σ μ) (e : sm 60 99 σ σ') (e0 : ∀ k, σ'.1 4 k = σ.1 4 k) (e1 : ∀ k, μ'.1 25 k = μ.1 25 k) (e2 : μ'.1 0 7 = μ.1 0 7 ∧ μ'.1 0 8 = μ.1 0 8 ∧ (∀ n, μ'.1 5 n = μ.1 5 n) ∧ ∀ n, n < 1464 → μ'.1 26 n = μ.1 26 n) : RK σ' μ' := by
  intro k hk
  rw [e0, e1]
  rcases h k hk with h | ⟨h1, h2, h3⟩
  · exact .inl h
  · exact .inr ⟨h1, h2, dec_cg e2 hk (St_cg h3 (fun c hc1 hc2 n => e c (by have : sb (2 + k) = 34 + 13 * (2 + k) := rfl; omega) (by have : sb (2 + k) = 34 + 13 * (2 + k) := rfl; omega) n) ⟨⟨rfl, rfl, rfl, rfl⟩, fun _ _ _ _ => rfl⟩)⟩
theorem RR_cg {σ σ' μ μ' : Sg} (h : RR σ μ) (e : sm 14 26 σ σ') (e1 : ∀ k, μ'.1 1 k = μ.1 1 k) (e2 : ∀ k, μ'.1 2 k = μ.1 2 k) : RR σ' μ' := by
  intro r hr
  obtain ⟨⟨z, z1, z2, z3, z4⟩, h2⟩ := h r hr
  exact ⟨⟨z, z1, z2, ((e _ (by omega) (by omega) _).1).trans z3, (e1 _).trans z4⟩, fun j hj => by rw [(e _ (by omega) (by omega) _).1, e2, h2 j hj]⟩
theorem RT_cg {σ σ' μ μ' : Sg} (h : RT σ μ) (e : sm 26 34 σ σ') (e1 : ∀ k, μ'.1 3 k = μ.1 3 k) (e2 : ∀ k, μ'.1 4 k = μ.1 4 k) : RT σ' μ' := by
  intro r hr
  obtain ⟨⟨z, z1, z2, z3, z4⟩, h2⟩ := h r hr
  exact ⟨⟨z, z1, z2, ((e _ (by omega) (by omega) _).1).trans z3, (e1 _).trans z4⟩, fun j hj => by rw [(e _ (by omega) (by omega) _).1, e2]; exact h2 j hj⟩
theorem RA_cg {σ σ' μ μ' : Sg} (h : RA σ μ) (e : sm 0 6 σ σ') (e1 : μ'.1 0 17 = μ.1 0 17 ∧ μ'.1 0 18 = μ.1 0 18 ∧ ∀ n, μ'.1 14 n = μ.1 14 n) : RA σ' μ' := by
  obtain ⟨h1, h2, h3⟩ := h
  refine ⟨?_, ?_, fun f hf => ?_⟩
  · rw [(e 0 (by omega) (by omega) _).1, e1.1]; exact h1
  · rw [(e 0 (by omega) (by omega) _).1, e1.2.1]; exact h2
  · rw [(e 5 (by omega) (by omega) _).1, e1.2.2]; exact h3 f hf
/-- the first cells that hold nothing between two calls: 7 .. 13, 47 .. 59 -/
def smS (σ σ' : Sg) : Prop := sm 0 7 σ σ' ∧ sm 14 47 σ σ' ∧ sm 60 99 σ σ'
def smN (μ μ' : Sg) : Prop := (∀ j, j ≠ 21 → j ≠ 25 → j ≠ 26 → μ'.1 0 j = μ.1 0 j) ∧ (∀ c, 1 ≤ c → c < 15 → ∀ n, μ'.1 c n = μ.1 c n) ∧ ∀ c, 25 ≤ c → c < 27 → ∀ n, μ'.1 c n = μ.1 c n
theorem sm_in {lo hi lo' hi' : Nat} {σ σ' : Sg} (h : sm lo hi σ σ') (h1 : lo ≤ lo') (h2 : hi' ≤ hi) : sm lo' hi' σ σ' := fun c hc1 hc2 n => h c (by omega) (by omega) n
theorem smN_M {μ μ' : Sg} (h : smN μ μ') : smM μ μ' := ⟨⟨h.1 _ (by decide) (by decide) (by decide), h.1 _ (by decide) (by decide) (by decide), h.1 _ (by decide) (by decide) (by decide), h.1 _ (by decide) (by decide) (by decide)⟩, fun c h1 h2 n => h.2.1 c (by omega) (by omega) n⟩
theorem R_scr {σ σ' μ μ' : Sg} (h : R σ μ) (e : smS σ σ') (e2 : smN μ μ') (e3 : RD σ') : R σ' μ' := by
  obtain ⟨h1, h2, h3, h4, h5, h6⟩ := h
  obtain ⟨e, e', e''⟩ := e
  refine ⟨St_cg h1 (sm_in e' (by decide) (by decide)) (smN_M e2), RA_cg h2 (sm_in e (by decide) (by decide)) ⟨e2.1 _ (by decide) (by decide) (by decide), e2.1 _ (by decide) (by decide) (by decide), fun n => e2.2.1 _ (by decide) (by decide) n⟩, RR_cg h3 (sm_in e' (by decide) (by decide)) (fun n => e2.2.1 _ (by decide) (by decide) n) (fun n => e2.2.1 _ (by decide) (by decide) n), RT_cg h4 (sm_in e' (by decide) (by decide)) (fun n => e2.2.1 _ (by decide) (by decide) n) (fun n => e2.2.1 _ (by decide) (by decide) n), e3, RK_cg h6 e'' (fun k => (e 4 (by decide) (by decide) k).1) (fun n => e2.2.2 _ (by decide) (by decide) n) ⟨e2.1 _ (by decide) (by decide) (by decide), e2.1 _ (by decide) (by decide) (by decide), fun n => e2.2.1 _ (by decide) (by decide) n, fun n _ => e2.2.2 _ (by decide) (by decide) n⟩⟩
theorem smN_rfl (μ : Sg) : smN μ μ := ⟨fun _ _ _ _ => rfl, fun _ _ _ _ => rfl, fun _ _ _ _ => rfl⟩
theorem sm_rfl (lo hi : Nat) (σ : Sg) : sm lo hi σ σ := fun _ _ _ _ => ⟨rfl, rfl⟩
theorem sm_tr {lo hi : Nat} {σ σ1 σ2 : Sg} (h : sm lo hi σ σ1) (h2 : sm lo hi σ1 σ2) : sm lo hi σ σ2 := fun c a b n => ⟨((h2 c a b n).1).trans (h c a b n).1, ((h2 c a b n).2).trans (h c a b n).2⟩
theorem smS_rfl (σ : Sg) : smS σ σ := ⟨sm_rfl _ _ _, sm_rfl _ _ _, sm_rfl _ _ _⟩
theorem smS_tr {σ σ1 σ2 : Sg} (h : smS σ σ1) (h2 : smS σ1 σ2) : smS σ σ2 := ⟨sm_tr h.1 h2.1, sm_tr h.2.1 h2.2.1, sm_tr h.2.2 h2.2.2⟩
theorem sm_wI {lo hi k j : Nat} {v : Int32} {σ : Sg} (h : k < lo ∨ hi ≤ k) : sm lo hi σ (wI σ k j v) := fun c h1 h2 n => by
  have := wI_o (S := σ) (k := k) (j := j) (v := v) c (by omega)
  rw [this.1, this.2]
  exact ⟨rfl, rfl⟩
theorem sm_wL {lo hi k j : Nat} {v : Int64} {σ : Sg} (h : k < lo ∨ hi ≤ k) : sm lo hi σ (wL σ k j v) := fun c h1 h2 n => by
  have := wL_o (S := σ) (k := k) (j := j) (v := v) c (by omega)
  rw [this.1, this.2]
  exact ⟨rfl, rfl⟩
theorem wI_1 {S : Sg} {k j : Nat} {v : Int32} {c n : Nat} : (wI S k j v).1 c n = if c = k then (if n = j then v else S.1 c n) else S.1 c n := by
  unfold wI
  show (if c = k then upd (S.1 c) j v else S.1 c) n = _
  by_cases h : c = k
  · rw [if_pos h, if_pos h]; rfl
  · rw [if_neg h, if_neg h]
theorem wI_2 {S : Sg} {k j : Nat} {v : Int32} : (wI S k j v).2 = S.2 := rfl
theorem wL_1 {S : Sg} {k j : Nat} {v : Int64} : (wL S k j v).1 = S.1 := rfl
theorem wL_2 {S : Sg} {k j : Nat} {v : Int64} {c n : Nat} : (wL S k j v).2 c n = if c = k then (if n = j then v else S.2 c n) else S.2 c n := by
  unfold wL
  show (if c = k then vp_updL (S.2 c) j v else S.2 c) n = _
  by_cases h : c = k
  · rw [if_pos h, if_pos h]; rfl
  · rw [if_neg h, if_neg h]
theorem wI_ne {S : Sg} {k j : Nat} {v : Int32} {c n : Nat} (h : c ≠ k ∨ n ≠ j) : (wI S k j v).1 c n = S.1 c n := by
  rw [wI_1]
  by_cases h1 : c = k
  · rw [if_pos h1, if_neg (by omega)]
  · rw [if_neg h1]
theorem wI_eq {S : Sg} {k j : Nat} {v : Int32} : (wI S k j v).1 k j = v := by rw [wI_1, if_pos rfl, if_pos rfl]
/-- what is told -/
theorem R_told {σ μ : Sg} (h : R σ μ) (v : Int32) : R (wI σ 0 10 v) (wI μ 0 17 v) := by
  obtain ⟨h1, h2, h3, h4, h5, h6⟩ := h
  refine ⟨St_cg h1 (sm_wI (by decide)) ⟨⟨wI_ne (by omega), wI_ne (by omega), wI_ne (by omega), wI_ne (by omega)⟩, fun c _ _ n => wI_ne (by omega)⟩, ⟨by rw [wI_eq, wI_eq], by rw [wI_ne (by omega), wI_ne (by omega)]; exact h2.2.1, fun f hf => by rw [wI_ne (by omega), wI_ne (by omega)]; exact h2.2.2 f hf⟩, RR_cg h3 (sm_wI (by decide)) (fun _ => wI_ne (by omega)) (fun _ => wI_ne (by omega)), RT_cg h4 (sm_wI (by decide)) (fun _ => wI_ne (by omega)) (fun _ => wI_ne (by omega)), by unfold RD; rw [wI_ne (by omega)]; exact h5, RK_cg h6 (sm_wI (by decide)) (fun _ => wI_ne (by omega)) (fun _ => wI_ne (by omega)) ⟨wI_ne (by omega), wI_ne (by omega), fun _ => wI_ne (by omega), fun _ _ => wI_ne (by omega)⟩⟩
/-- a finding -/
theorem f8_find {σ : Sg} {f : Nat} (hf : f < 6) : F_X8_find σ (zI f) = some (-3, wI (wI σ 0 11 (zI f)) 5 f (σ.1 5 f + 1)) := by
  rw [F_X8_find]
  simp only [nm]
  rw [chk_N (by omega) (by omega), chk_N (by omega) (by omega), z_tnN (by omega), wI_ne (by omega)]
theorem f9_find {σ : Sg} {f : Nat} (hf : f < 6) : F_X9_find σ (zI f) = some (-3, wI (wI σ 0 18 (zI f)) 14 f (σ.1 14 f + 1)) := by
  rw [F_X9_find]
  simp only [nm]
  rw [chk_N (by omega) (by omega), chk_N (by omega) (by omega), z_tnN (by omega), wI_ne (by omega)]
theorem R_find {σ μ : Sg} (h : R σ μ) {f : Nat} (hf : f < 6) : R (wI (wI σ 0 11 (zI f)) 5 f (σ.1 5 f + 1)) (wI (wI μ 0 18 (zI f)) 14 f (μ.1 14 f + 1)) := by
  obtain ⟨h1, h2, h3, h4, h5, h6⟩ := h
  have sm2 : ∀ lo hi, 6 ≤ lo → sm lo hi σ (wI (wI σ 0 11 (zI f)) 5 f (σ.1 5 f + 1)) := fun lo hi hl => sm_tr (sm_wI (by omega)) (sm_wI (by omega))
  have n2 : ∀ c n, c ≠ 0 ∧ c ≠ 14 ∨ c = 0 ∧ n ≠ 18 → (wI (wI μ 0 18 (zI f)) 14 f (μ.1 14 f + 1)).1 c n = μ.1 c n := fun c n hc => by rw [wI_ne (by omega), wI_ne (by omega)]
  refine ⟨St_cg h1 (sm2 _ _ (by decide)) ⟨⟨n2 _ _ (by omega), n2 _ _ (by omega), n2 _ _ (by omega), n2 _ _ (by omega)⟩, fun c _ _ n => n2 _ _ (by omega)⟩, ⟨?_, ?_, fun g hg => ?_⟩, RR_cg h3 (sm2 _ _ (by decide)) (fun _ => n2 _ _ (by omega)) (fun _ => n2 _ _ (by omega)), RT_cg h4 (sm2 _ _ (by decide)) (fun _ => n2 _ _ (by omega)) (fun _ => n2 _ _ (by omega)), ?_, RK_cg h6 (sm2 _ _ (by decide)) (fun _ => by rw [wI_ne (by omega), wI_ne (by omega)]) (fun _ => n2 _ _ (by omega)) ⟨n2 _ _ (by omega), n2 _ _ (by omega), fun _ => n2 _ _ (by omega), fun _ _ => n2 _ _ (by omega)⟩⟩
  · rw [wI_ne (by omega), wI_ne (by omega), n2 _ _ (by omega)]; exact h2.1
  · rw [wI_ne (by omega), wI_eq, wI_ne (by omega), wI_eq]
  · by_cases hgf : g = f
    · rw [hgf, wI_eq, wI_eq, h2.2.2 f hf]
    · rw [wI_ne (by omega), wI_ne (by omega), wI_ne (by omega), wI_ne (by omega)]; exact h2.2.2 g hg
  · unfold RD
    rw [show sb 1 + 2 = 49 from rfl, wI_ne (by omega), wI_ne (by omega)]; exact h5
