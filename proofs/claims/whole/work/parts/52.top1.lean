/-! ===== the law's methods: hearing ===== -/
theorem CG_sm {i : Nat} {σ σ' : Sg} {a : AS} (e : sm (sb i) (sb i + 13) σ σ') (c : CG i σ a) : CG i σ' a := by
  have q : ∀ c, c < 13 → ∀ n, σ'.1 (sb i + c) n = σ.1 (sb i + c) n := fun c hc n => (e (sb i + c) (by omega) (by omega) n).1
  obtain ⟨c1, c2, c3, c4, c5, c6⟩ := c
  exact ⟨(q 0 (by decide) 9).trans c1, (q 0 (by decide) 8).trans c2, fun j hj => (q 1 (by decide) j).trans (c3 j hj), fun j hj => (q 2 (by decide) j).trans (c4 j hj), fun j hj => (q 3 (by decide) j).trans (c5 j hj), fun j hj => (q 4 (by decide) j).trans (c6 j hj)⟩
theorem CT_sm {i : Nat} {σ σ' : Sg} {a : AS} (e : sm (sb i) (sb i + 13) σ σ') (c : CT i σ a) : CT i σ' a := by
  have q : ∀ c, c < 13 → ∀ n, σ'.1 (sb i + c) n = σ.1 (sb i + c) n := fun c hc n => (e (sb i + c) (by omega) (by omega) n).1
  obtain ⟨c1, c2, c3, c4⟩ := c
  exact ⟨(q 0 (by decide) 10).trans c1, fun j hj => (q 5 (by decide) j).trans (c2 j hj), fun j hj => (q 6 (by decide) j).trans (c3 j hj), fun j hj => (q 7 (by decide) j).trans (c4 j hj)⟩
theorem CG_told {i : Nat} {σ : Sg} {a : AS} {v : Int32} (c : CG i σ a) : CG i (wI σ 0 10 v) a := CG_sm (sm_wI (.inl (by have : sb i = 34 + 13 * i := rfl; omega))) c
theorem CT_told {i : Nat} {σ : Sg} {a : AS} {v : Int32} (c : CT i σ a) : CT i (wI σ 0 10 v) a := CT_sm (sm_wI (.inl (by have : sb i = 34 + 13 * i := rfl; omega))) c
theorem f0 {α : Type} {A B : α} : (if bI false = 0 then A else B) = A := rfl
theorem t0 {α : Type} {A B : α} : (if bI true = 0 then A else B) = B := rfl
theorem f9_say {S : Sg} {v x : Int32} : F_X9_say S v x = some (v, wI S 0 17 x) := rfl
theorem set_n {z : Int} {a : AS} (w : WG a) (h : inZ 0 ((2 ^ aP a - 1 : Nat) : Int) z = true) : ∃ s : Nat, z = s ∧ s < 2 ^ aP a ∧ sub (aP a) (zI (s : Int)) := by
  obtain ⟨n, rfl, h1⟩ := inZ_n h
  have h0 : 0 < 2 ^ aP a := Nat.pow_pos (by decide)
  have hn : n < 2 ^ aP a := by omega
  exact ⟨n, rfl, hn, z_sub_ (by have := w.1; omega) hn⟩
theorem s_hears : st_hears R := by
  intro σ μ a1 a2 h
  obtain ⟨x, hx1, hx2, rfl⟩ := arg a1
  obtain ⟨y, hy1, hy2, rfl⟩ := arg a2
  obtain ⟨a, ⟨wg, wt, wh⟩, ⟨cg, ct, ch⟩, ⟨mg, mt, mh⟩⟩ := h.1
  have wP := wg.1
  cases e : twB a x y
  · refine ⟨-1, σ, μ, ?_, ?_, h⟩
    · rw [F_X8_hears, f8_two cg wg ⟨hx1, hx2⟩ ⟨hy1, hy2⟩, e, bd_some, f0]
    · rw [F_X9_hears, f9_two mg wg ⟨hx1, hx2⟩ ⟨hy1, hy2⟩, e, bd_some, f0]
  · obtain ⟨m, n, rfl, rfl, hm, hn, hmn⟩ := twB_t e
    refine ⟨bI (hr1 a m n), _, _, ?_, ?_, R_told h (zI (com a (aR a m) n))⟩
    · rw [F_X8_hears, f8_two cg wg ⟨hx1, hx2⟩ ⟨hy1, hy2⟩, e, bd_some, t0, chk_N (by omega) (by omega), z_tnN (by omega), cg.2.2.2.2.2 m hm, f6_com cg wg (wg.2.2.2.2.2 m) hn, bd_some, nm, f6_hb1 (CG_told cg) wg hm hn, bd_some]
      cases hr1 a m n <;> rfl
    · rw [F_X9_hears, f9_two mg wg ⟨hx1, hx2⟩ ⟨hy1, hy2⟩, e, bd_some, t0, f9_does mg wg hm hn, bd_some, decide_eq_true hmn, Bool.true_and]
      have e2 : (if bI (hr1 a m n) = 0 then some (0 : Int32) else some 1) = some (bI (hr1 a m n)) := by cases hr1 a m n <;> rfl
      rw [e2, bd_some, chk_N (by omega) (by omega), z_tnN (by omega), mg.2.2.2.2 m hm, f9_com mg wg (wg.2.2.2.2.2 m) hn, bd_some, f9_say, bd_some]
theorem s_heard : st_heard R := by
  intro σ μ a1 a2 h
  obtain ⟨x, hx1, hx2, rfl⟩ := arg a1
  obtain ⟨y, hy1, hy2, rfl⟩ := arg a2
  obtain ⟨a, ⟨wg, wt, wh⟩, ⟨cg, ct, ch⟩, ⟨mg, mt, mh⟩⟩ := h.1
  have wP := wg.1
  unfold F_X8_heard F_X9_heard
  rw [f8_isOne cg wg ⟨hx1, hx2⟩, f9_isOne mg wg ⟨hx1, hx2⟩, bd_some, bd_some]
  cases e : inZ 0 (aP a - 1) x
  · exact ⟨-1, rfl, rfl⟩
  · obtain ⟨m, rfl, hm⟩ := inZ_n e
    rw [t0, t0, f8_isSet cg wg ⟨hy1, hy2⟩, f9_isSet mg wg ⟨hy1, hy2⟩, bd_some, bd_some]
    cases e2 : inZ 0 ((2 ^ aP a - 1 : Nat) : Int) y
    · exact ⟨-1, rfl, rfl⟩
    · obtain ⟨s, rfl, hs, hs2⟩ := set_n wg e2
      rw [t0, t0, has_if (by omega), f_has (by omega), bd_some, bI_z, f6_who cg wg (by omega), f9_who mg wg (by omega)]
      cases tb (zI s) m
      · exact ⟨_, rfl, rfl⟩
      · exact ⟨-1, rfl, rfl⟩
theorem s_noise : st_noise R := by
  intro σ μ a1 a2 h
  obtain ⟨x, hx1, hx2, rfl⟩ := arg a1
  obtain ⟨y, hy1, hy2, rfl⟩ := arg a2
  obtain ⟨a, ⟨wg, wt, wh⟩, ⟨cg, ct, ch⟩, ⟨mg, mt, mh⟩⟩ := h.1
  unfold F_X8_noise F_X9_noise
  rw [f8_isRoom cg wg ⟨hx1, hx2⟩, f9_isRoom mg wg ⟨hx1, hx2⟩, bd_some, bd_some]
  cases e : roB a x
  · exact ⟨-1, rfl, rfl⟩
  · obtain ⟨m, rfl, hm, hm2⟩ := roB_t e
    rw [t0, t0, f8_isSet cg wg ⟨hy1, hy2⟩, f9_isSet mg wg ⟨hy1, hy2⟩, bd_some, bd_some]
    cases e2 : inZ 0 ((2 ^ aP a - 1 : Nat) : Int) y
    · exact ⟨-1, rfl, rfl⟩
    · rw [t0, t0, f6_song cg wg hm, f9_noise mg wg hm]
      exact ⟨_, rfl, rfl⟩
theorem s_asked : st_asked R := fun σ μ h => ⟨_, rfl, by rw [F_X9_asked, h.2.1.1]⟩
theorem s_finding : st_finding R := fun σ μ h => ⟨_, rfl, by rw [F_X9_finding, h.2.1.2.1]⟩
theorem s_findings : st_findings R := by
  intro σ μ a1 h
  obtain ⟨x, hx1, hx2, rfl⟩ := arg a1
  unfold F_X8_findings F_X9_findings
  rw [inZ_in (l := 1) (h := 5) ⟨hx1, hx2⟩ (by decide) (by decide) (by decide) (by decide), bd_some, show (1 : Int32) = zI 1 from rfl, show (5 : Int32) = zI 5 from rfl, if_ltZ hx1 hx2 (by decide) (by decide), if_leZ hx1 hx2 (by decide) (by decide)]
  cases e : inZ 1 5 x
  · refine ⟨-1, ?_, rfl⟩
    rcases inZ_f e with e | e
    · rw [if_pos e]; rfl
    · rw [if_neg (c := x ≤ 5) (by omega), ite_self]; rfl
  · have h2 := inZ_t e
    obtain ⟨n, rfl⟩ : ∃ n : Nat, x = n := ⟨x.toNat, by omega⟩
    rw [if_neg (by omega), if_pos (by omega), t0, chk_N (by omega) (by omega), chk_N (by omega) (by omega), z_tnN (by omega)]
    exact ⟨_, rfl, by rw [h.2.1.2.2 n (by omega)]⟩
theorem pow8 {n : Nat} (h : n ≤ 8) : 0 < 2 ^ n ∧ 2 ^ n ≤ 256 := ⟨Nat.pow_pos (by decide), pow_le (m := 8) h⟩
theorem s_beside : st_beside R := by
  intro σ μ a1 h
  obtain ⟨x, hx1, hx2, rfl⟩ := arg a1
  obtain ⟨a, ⟨wg, wt, wh⟩, ⟨cg, ct, ch⟩, ⟨mg, mt, mh⟩⟩ := h.1
  have w8 := wt.1
  have p8 := pow8 w8
  unfold F_X8_beside F_X9_beside
  rw [f6_allT ct, mt.1, all_z (by omega), inZ_in (l := 0) (h := ((2 ^ aT a - 1 : Nat) : Int)) ⟨hx1, hx2⟩ (by decide) (zJ_z (by omega) (by omega)) (by decide) (by omega), bd_some, bd_some, if_lt0 hx1 hx2, if_leZ hx1 hx2 (by omega) (by omega)]
  cases e : inZ 0 ((2 ^ aT a - 1 : Nat) : Int) x
  · refine ⟨-1, ?_, rfl⟩
    rcases inZ_f e with e | e
    · rw [if_pos e]
    · rw [if_neg (c := x ≤ _) (by omega), ite_self]
  · have h2 := inZ_t e
    rw [if_neg (by omega), if_pos (by omega), t0, f6_tgt cg ct wg wt, f9_tgt mg mt wg wt, bd_some]
    cases tgt a (zI x)
    · exact ⟨0, rfl, rfl⟩
    · exact ⟨1, rfl, rfl⟩
theorem ne9 {s : Nat} (h : s < 256) : zI s ≠ (-9 : Int32) := fun q => by
  have := (z_eq (a := s) (b := -9) (by omega) (by omega) (by decide) (by decide)).mp (q.trans (show (-9 : Int32) = zI (-9) from rfl))
  omega
theorem sub8_9 {s : Int32} (h : sub 8 s) : s ≠ (-9 : Int32) := fun q => by
  obtain ⟨n, hn, rfl⟩ := sub_z (by decide) h
  exact ne9 (by simpa using hn) q
theorem f8_tellSet {S : Sg} {s : Int32} (h : sub 8 s) : F_X8_tellSet S s = some (zI (pc s), wI S 0 10 s) := by
  rw [F_X8_tellSet, if_neg (sub8_9 h), nm, f_bc h, bd_some]
theorem s_safes : st_safes R := by
  intro σ μ h
  obtain ⟨a, ⟨wg, wt, wh⟩, ⟨cg, ct, ch⟩, ⟨mg, mt, mh⟩⟩ := h.1
  refine ⟨zI (pc (sft a)), _, _, ?_, ?_, R_told h (sft a)⟩
  · rw [F_X8_safes, f6_sft cg ct wg wt, bd_some, f8_tellSet (sft_sub wt), bd_some]
  · rw [F_X9_safes, f9_sft mg mt wg wt, bd_some, f_ones (sft_sub wt), bd_some, f9_say, bd_some]
/-! the fewest -/
def few (ok : Nat → Bool) : Nat → Int32
  | 0 => -9
  | n + 1 => if (decide (few ok n = -9) || decide (pc (zI n) < pc (few ok n))) && ok n then zI n else few ok n
theorem few_9 {ok : Nat → Bool} : ∀ n, n ≤ 256 → few ok n = -9 ∨ sub 8 (few ok n)
  | 0, _ => .inl rfl
  | n + 1, h => by
    rw [few]
    split
    · exact .inr (z_sub_ (by decide) (by omega))
    · exact few_9 n (by omega)
theorem pcz {m n : Nat} {α : Type} {A B : α} (hm : m ≤ 8) (hn : n ≤ 8) : (if zI m ≤ zI n then A else B) = if n < m then B else A := by
  by_cases h : n < m
  · rw [if_pos h, if_le_f h (by omega)]
  · rw [if_neg h, if_le_t (by omega) (by omega)]
theorem f8_fewer {S : Sg} {n : Nat} {p : Int32} (hn : n < 256) (hp : p = -9 ∨ sub 8 p) : F_X8_isFewer S (zI n) p = some (bI (decide (p = -9) || decide (pc (zI n) < pc p))) := by
  rw [F_X8_isFewer]
  by_cases e : p = -9
  · rw [if_pos e, decide_eq_true e]; rfl
  · have h2 := hp.resolve_left e
    rw [if_neg e, decide_eq_false e, f_bc (z_sub_ (by decide) (by omega)), bd_some, f_bc h2, bd_some, pcz (pc_le _) (pc_le _), Bool.false_or]
    by_cases q : pc (zI n) < pc p
    · rw [if_pos q, decide_eq_true q]; rfl
    · rw [if_neg q, decide_eq_false q]; rfl
theorem f9_fewer {S : Sg} {n : Nat} {p : Int32} (hn : n < 256) (hp : p = -9 ∨ sub 8 p) : (if p = (-9 : Int32) then (some (1 : Int32)) else (bd (F_X9_ones S (zI n)) (fun x8 => bd (F_X9_ones S p) (fun x10 => if x10 ≤ x8 then (some (0 : Int32)) else (some (1 : Int32)))))) = some (bI (decide (p = -9) || decide (pc (zI n) < pc p))) := by
  by_cases e : p = -9
  · rw [if_pos e, decide_eq_true e]; rfl
  · have h2 := hp.resolve_left e
    rw [if_neg e, decide_eq_false e, f_ones (z_sub_ (by decide) (by omega)), bd_some, f_ones h2, bd_some, pcz (pc_le _) (pc_le _), Bool.false_or]
    by_cases q : pc (zI n) < pc p
    · rw [if_pos q, decide_eq_true q]; rfl
    · rw [if_neg q, decide_eq_false q]; rfl
theorem few_s {ok : Nat → Bool} {n : Nat} : (if (decide (few ok n = -9) || decide (pc (zI n) < pc (few ok n))) = true then (if ok n = true then zI n else few ok n) else few ok n) = few ok (n + 1) := by
  rw [few]
  cases (decide (few ok n = -9) || decide (pc (zI n) < pc (few ok n))) <;> cases ok n <;> rfl
def okH (a : AS) (f : Nat) (n : Nat) : Bool := !tb (zI n) f && decide (hb a f (zI n) = 0)
theorem f8_hush {S : Sg} {a : AS} (c : CG 0 S a) (w : WG a) {f : Nat} (hf : f < aP a) : T_X8_hush_15 S (zI f) FU (-9) 0 = some (few (okH a f) (2 ^ aP a)) := by
  have wP := w.1
  have p7 := pow8 (n := aP a) (by omega)
  refine loopE (fun n x => T_X8_hush_15 S (zI f) n (few (okH a f) x) (zI x)) (2 ^ aP a) (some (few (okH a f) (2 ^ aP a))) (by omega) (fun n => ?_) (fun n x hx => ?_)
  · simp only [T_X8_hush_15]
    rw [f6_all c, all_z (by omega), bd_some, if_ltZ (by omega) (by omega) (by omega) (by omega), if_pos (by omega)]
  · simp only [T_X8_hush_15]
    rw [f6_all c, all_z (by omega), bd_some, if_ltZ (by omega) (by omega) (by omega) (by omega), if_neg (by omega), f8_fewer (by omega) (few_9 x (by omega)), bd_some, f6_who c w hf, bd_some, has_if (by omega), bI_z, ← few_s, zS]
    unfold okH
    cases (decide (few (fun n => !tb (zI n) f && decide (hb a f (zI n) = 0)) x = -9) || decide (pc (zI x) < pc (few (fun n => !tb (zI n) f && decide (hb a f (zI n) = 0)) x))) <;> cases tb (zI x) f <;> by_cases q : hb a f (zI x) = 0 <;> simp [q, bd]
theorem f9_hush {S : Sg} {a : AS} (c : MG S a) (w : WG a) {f : Nat} (hf : f < aP a) : T_X9_hush_15 S (zI f) FU (-9) 0 = some (few (okH a f) (2 ^ aP a)) := by
  have wP := w.1
  have p7 := pow8 (n := aP a) (by omega)
  refine loopE (fun n x => T_X9_hush_15 S (zI f) n (few (okH a f) x) (zI x)) (2 ^ aP a) (some (few (okH a f) (2 ^ aP a))) (by omega) (fun n => ?_) (fun n x hx => ?_)
  · simp only [T_X9_hush_15]
    rw [c.1, pow_z (by omega), if_le_t (by omega) (by omega)]
  · simp only [T_X9_hush_15]
    rw [c.1, pow_z (by omega), if_le_f hx (by omega), f9_fewer (by omega) (few_9 x (by omega)), bd_some, f9_who c w hf, bd_some, f_has (by omega), bd_some, bI_z, bI_z, ← few_s, zS]
    unfold okH
    cases (decide (few (fun n => !tb (zI n) f && decide (hb a f (zI n) = 0)) x = -9) || decide (pc (zI x) < pc (few (fun n => !tb (zI n) f && decide (hb a f (zI n) = 0)) x))) <;> cases tb (zI x) f <;> by_cases q : hb a f (zI x) = 0 <;> simp [q, bd]
theorem s_hush : st_hush R := by
  intro σ μ a1 h
  obtain ⟨x, hx1, hx2, rfl⟩ := arg a1
  obtain ⟨a, ⟨wg, wt, wh⟩, ⟨cg, ct, ch⟩, ⟨mg, mt, mh⟩⟩ := h.1
  have wP := wg.1
  have p7 := pow8 (n := aP a) (by omega)
  unfold F_X8_hush F_X9_hush
  rw [f8_isOne cg wg ⟨hx1, hx2⟩, f9_isOne mg wg ⟨hx1, hx2⟩, bd_some, bd_some]
  cases e : inZ 0 (aP a - 1) x
  · exact ⟨-1, σ, μ, rfl, rfl, h⟩
  · obtain ⟨m, rfl, hm⟩ := inZ_n e
    rw [t0, t0, f8_hush cg wg (by omega), f9_hush mg wg (by omega), bd_some, bd_some]
    rcases few_9 (ok := okH a m) (2 ^ aP a) (by omega) with q | q
    · rw [q]
      exact ⟨-9, σ, μ, rfl, rfl, h⟩
    · rw [f8_tellSet q, if_neg (sub8_9 q), f_ones q]
      exact ⟨_, _, _, rfl, rfl, R_told h _⟩
theorem f8_cover {S : Sg} {a : AS} (c : CG 0 S a) (ct : CT 0 S a) (w : WG a) (wt : WT a) {k : Nat} (hk : k < aT a) : T_X8_cover_28 S (zI k) FU (-9) 0 = some (few (fun n => saf a k (zI n)) (2 ^ aP a)) := by
  have wP := w.1
  have p7 := pow8 (n := aP a) (by omega)
  refine loopE (fun n x => T_X8_cover_28 S (zI k) n (few (fun n => saf a k (zI n)) x) (zI x)) (2 ^ aP a) (some (few (fun n => saf a k (zI n)) (2 ^ aP a))) (by omega) (fun n => ?_) (fun n x hx => ?_)
  · simp only [T_X8_cover_28]
    rw [f6_all c, all_z (by omega), bd_some, if_ltZ (by omega) (by omega) (by omega) (by omega), if_pos (by omega)]
  · simp only [T_X8_cover_28]
    rw [f6_all c, all_z (by omega), bd_some, if_ltZ (by omega) (by omega) (by omega) (by omega), if_neg (by omega), f8_fewer (by omega) (few_9 x (by omega)), bd_some, f6_saf c ct w wt hk, bd_some, bI_z, bI_z, ← few_s, zS]
    cases (decide (few (fun n => saf a k (zI n)) x = -9) || decide (pc (zI x) < pc (few (fun n => saf a k (zI n)) x))) <;> cases saf a k (zI x) <;> rfl
theorem f9_cover {S : Sg} {a : AS} (c : MG S a) (ct : MT S a) (w : WG a) (wt : WT a) {k : Nat} (hk : k < aT a) : T_X9_cover_18 S (zI k) FU (-9) 0 = some (few (fun n => saf a k (zI n)) (2 ^ aP a)) := by
  have wP := w.1
  have p7 := pow8 (n := aP a) (by omega)
  refine loopE (fun n x => T_X9_cover_18 S (zI k) n (few (fun n => saf a k (zI n)) x) (zI x)) (2 ^ aP a) (some (few (fun n => saf a k (zI n)) (2 ^ aP a))) (by omega) (fun n => ?_) (fun n x hx => ?_)
  · simp only [T_X9_cover_18]
    rw [c.1, pow_z (by omega), if_le_t (by omega) (by omega)]
  · simp only [T_X9_cover_18]
    rw [c.1, pow_z (by omega), if_le_f hx (by omega), f9_fewer (by omega) (few_9 x (by omega)), bd_some, f9_saf c ct w wt hk, bd_some, bI_z, bI_z, ← few_s, zS]
    cases (decide (few (fun n => saf a k (zI n)) x = -9) || decide (pc (zI x) < pc (few (fun n => saf a k (zI n)) x))) <;> cases saf a k (zI x) <;> rfl
/-! the checks of talks -/
theorem f9_lacksTalk {σ μ : Sg} {a : AS} (mt : MT μ a) (wt : WT a) {z : Int} (h : bz z) : F_X9_lacksTalk μ (zI z) = if z < 0 then some (-1, μ) else if z < aT a then some (0, μ) else F_X9_find μ (zI (2 : Nat)) := by
  have := wt.1
  rw [F_X9_lacksTalk, mt.1, z_0, if_leZ (by decide) (by decide) h.1 h.2, if_leZ (by omega) (by omega) h.1 h.2]
  by_cases e : z < 0
  · rw [if_pos e, if_neg (by omega)]
  · rw [if_neg e, if_pos (by omega)]
    by_cases e2 : z < aT a
    · rw [if_pos e2, if_neg (by omega)]
    · rw [if_neg e2, if_pos (by omega), f9_find (by decide)]; rfl
theorem if8_talk {α : Type} {σ : Sg} {a : AS} (ct : CT 0 σ a) (wt : WT a) {z : Int} (h : bz z) {A B : α} : (if zI z < σ.1 (sb 0) 10 then A else B) = if z < aT a then A else B := by
  have := wt.1
  rw [ct.1, if_ltZ h.1 h.2 (by omega) (by omega)]
theorem zN2 : (2 : Int32) = zI ((2 : Nat) : Int) := rfl
theorem s_cover : st_cover R := by
  intro σ μ a1 h
  obtain ⟨x, hx1, hx2, rfl⟩ := arg a1
  obtain ⟨a, ⟨wg, wt, wh⟩, ⟨cg, ct, ch⟩, ⟨mg, mt, mh⟩⟩ := h.1
  have wP := wg.1
  have p7 := pow8 (n := aP a) (by omega)
  unfold F_X8_cover F_X9_cover
  rw [f9_lacksTalk (σ := σ) mt wt ⟨hx1, hx2⟩, if8_talk ct wt ⟨hx1, hx2⟩, z_0, if_leZ (by decide) (by decide) hx1 hx2]
  by_cases e : x < 0
  · rw [if_pos e, if_neg (by omega)]
    exact ⟨-1, σ, μ, rfl, rfl, h⟩
  · rw [if_neg e, if_pos (by omega)]
    by_cases e2 : x < aT a
    · obtain ⟨k, rfl⟩ : ∃ k : Nat, x = k := ⟨x.toNat, by omega⟩
      rw [if_pos e2, if_pos e2, ← z_0, f8_cover cg ct wg wt (by omega), bd_some, bd_some]
      show ∃ r σ1 μ1, _ ∧ (bd (T_X9_cover_18 μ (zI k) FU (-9) 0) _ = _) ∧ _
      rw [f9_cover mg mt wg wt (by omega), bd_some]
      rcases few_9 (ok := fun n => saf a k (zI n)) (2 ^ aP a) (by omega) with q | q
      · rw [q]
        exact ⟨-9, σ, μ, rfl, rfl, h⟩
      · rw [f8_tellSet q, if_neg (sub8_9 q), f_ones q]
        exact ⟨_, _, _, rfl, rfl, R_told h _⟩
    · rw [if_neg e2, if_neg e2, zN2, f8_find (by decide), f9_find (by decide)]
      exact ⟨_, _, _, rfl, rfl, R_find h (f := 2) (by decide)⟩
