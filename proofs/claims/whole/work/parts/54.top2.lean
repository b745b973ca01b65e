/-! ===== the law's methods: talks, people ===== -/
theorem zMA {m k e : Nat} {c : Int32} (hc : c = zI (m : Int)) : c * zI k + zI e = zI ((m * k + e : Nat) : Int) := by
  rw [hc, z_mul, z_add]
  exact congrArg zI (by push_cast; rfl)
theorem zM {m k : Nat} {c : Int32} (hc : c = zI (m : Int)) : c * zI k = zI ((m * k : Nat) : Int) := by
  rw [hc, z_mul]
  exact congrArg zI (by push_cast; rfl)
def ptv (a : AS) (k e : Nat) : Int32 := if e = 0 then zI (aS a k) else if e = 1 then zI (aE a k) else aB a k
theorem f6_pt {i : Nat} {S : Sg} {a : AS} (ct : CT i S a) (wt : WT a) {k e : Nat} (hk : k < aT a) (he : e < 3) : F_X6_point i S (zI k) (zI e) = some (ptv a k e) := by
  have := wt.1
  have h3 : e = 0 ∨ e = 1 ∨ e = 2 := by omega
  rw [F_X6_point]
  rcases h3 with rfl | rfl | rfl
  · rw [if_pos (show zI ((0 : Nat) : Int) = 0 from rfl), chk_N (by omega) (by omega), z_tnN (by omega), ct.2.1 k hk]; rfl
  · rw [if_neg (by decide), if_pos (show zI ((1 : Nat) : Int) = 1 from rfl), chk_N (by omega) (by omega), z_tnN (by omega), ct.2.2.1 k hk]; rfl
  · rw [if_neg (by decide), if_neg (by decide), chk_N (by omega) (by omega), z_tnN (by omega), ct.2.2.2 k hk]; rfl
theorem f9_pt {S : Sg} {a : AS} (mt : MT S a) {k e : Nat} (hk : k < aT a) (he : e < 3) : S.1 8 (3 * k + e) = ptv a k e := by
  have h3 : e = 0 ∨ e = 1 ∨ e = 2 := by omega
  rcases h3 with rfl | rfl | rfl
  · exact mt.2.1 k hk
  · exact mt.2.2.1 k hk
  · exact mt.2.2.2 k hk
theorem s_about : st_about R := by
  intro σ μ a1 a2 h
  obtain ⟨x, hx1, hx2, rfl⟩ := arg a1
  obtain ⟨y, hy1, hy2, rfl⟩ := arg a2
  obtain ⟨a, ⟨wg, wt, wh⟩, ⟨cg, ct, ch⟩, ⟨mg, mt, mh⟩⟩ := h.1
  have wT := wt.1
  unfold F_X8_about F_X9_about
  rw [inZ_in (l := 0) (h := 2) ⟨hy1, hy2⟩ (by decide) (by decide) (by decide) (by decide), bd_some, f9_lacksTalk (σ := σ) mt wt ⟨hx1, hx2⟩, if8_talk ct wt ⟨hx1, hx2⟩, if_lt0 hx1 hx2, if_lt0 hx1 hx2, if_lt0 hy1 hy2, show (3 : Int32) = zI 3 from rfl, if_ltZ hy1 hy2 (by decide) (by decide)]
  by_cases e : x < 0
  · rw [if_pos e, if_pos e]
    exact ⟨-1, σ, μ, rfl, rfl, h⟩
  · rw [if_neg e, if_neg e]
    cases e1 : inZ 0 2 y
    · refine ⟨-1, σ, μ, ?_, rfl, h⟩
      rcases inZ_f e1 with e1 | e1
      · rw [if_pos e1]
      · rw [if_neg (c := y < 3) (by omega), ite_self]
    · have h2 := inZ_t e1
      rw [t0, if_neg (by omega), if_pos (by omega), if_neg e]
      obtain ⟨n, rfl⟩ : ∃ n : Nat, y = n := ⟨y.toNat, by omega⟩
      obtain ⟨k, rfl⟩ : ∃ k : Nat, x = k := ⟨x.toNat, by omega⟩
      by_cases e2 : (k : Int) < aT a
      · rw [if_pos e2, if_pos e2, f6_pt ct wt (by omega) (by omega), bd_some, bd_some]
        show ∃ r σ1 μ1, _ ∧ (chk _ _ = _) ∧ _
        rw [zMA (m := 3) (c := zI 3) rfl, chk_N (by omega) (by omega), z_tnN (by omega), f9_pt mt (by omega) (by omega)]
        exact ⟨_, _, _, rfl, rfl, R_told h _⟩
      · rw [if_neg e2, if_neg e2, zN2, f8_find (by decide), f9_find (by decide)]
        exact ⟨_, _, _, rfl, rfl, R_find h (f := 2) (by decide)⟩
theorem s_safe : st_safe R := by
  intro σ μ a1 a2 h
  obtain ⟨x, hx1, hx2, rfl⟩ := arg a1
  obtain ⟨y, hy1, hy2, rfl⟩ := arg a2
  obtain ⟨a, ⟨wg, wt, wh⟩, ⟨cg, ct, ch⟩, ⟨mg, mt, mh⟩⟩ := h.1
  have wP := wg.1
  have wT := wt.1
  unfold F_X8_safe F_X9_safe
  rw [f8_isSet cg wg ⟨hy1, hy2⟩, f9_isSet mg wg ⟨hy1, hy2⟩, bd_some, bd_some, f9_lacksTalk (σ := σ) mt wt ⟨hx1, hx2⟩, if8_talk ct wt ⟨hx1, hx2⟩, if_lt0 hx1 hx2, if_lt0 hx1 hx2]
  by_cases e : x < 0
  · rw [if_pos e, if_pos e]
    exact ⟨-1, σ, μ, rfl, rfl, h⟩
  · rw [if_neg e, if_neg e]
    cases e1 : inZ 0 ((2 ^ aP a - 1 : Nat) : Int) y
    · exact ⟨-1, σ, μ, rfl, rfl, h⟩
    · rw [t0, t0, if_neg e]
      obtain ⟨k, rfl⟩ : ∃ k : Nat, x = k := ⟨x.toNat, by omega⟩
      by_cases e2 : (k : Int) < aT a
      · have hk : k < aT a := by omega
        have wS := (wt.2 k hk).1
        rw [if_pos e2, if_pos e2, chk_N (by omega) (by omega), z_tnN (by omega), ct.2.1 k hk, ct.2.2.2 k hk, f6_who cg wg wS, bd_some, chk_N (by omega) (by omega), nm, f6_saf (CG_told cg) (CT_told ct) wg wt hk, bd_some, bd_some]
        show ∃ r σ1 μ1, _ ∧ (bd (F_X9_isSafe μ (zI k) (zI y)) _ = _) ∧ _
        have e3 : (if bI (saf a k (zI y)) = 0 then some (0 : Int32) else some 1) = some (bI (saf a k (zI y))) := by cases saf a k (zI y) <;> rfl
        rw [f9_saf mg mt wg wt hk, bd_some, e3, bd_some, zN2, zMA (m := 3) (c := 3) (e := 2) rfl, zM (m := 3) (c := 3) rfl, chk_N (by omega) (by omega), z_tnN (by omega), mt.2.1 k hk, f9_who mg wg wS, bd_some, chk_N (by omega) (by omega), z_tnN (by omega), mt.2.2.2 k hk, f9_say, bd_some]
        refine ⟨bI (saf a k (zI y)), _, _, ?_, rfl, R_told h _⟩
        cases saf a k (zI y) <;> rfl
      · rw [if_neg e2, if_neg e2, zN2, f8_find (by decide), f9_find (by decide)]
        exact ⟨_, _, _, rfl, rfl, R_find h (f := 2) (by decide)⟩
/-! the rent -/
theorem en0 {S : Sg} {k : Nat} {c : Int} (hk : k < 6) (h1 : -1000 ≤ c) (h2 : c ≤ 1000) : F_X2_isEnough S (zI k) (zI c) 0 = some (bI (hea k c 0)) := f2_en (n := 0) hk h1 h2 (by decide) (by decide)
theorem en00 {S : Sg} {c : Int} (h1 : -1000 ≤ c) (h2 : c ≤ 1000) : F_X2_isEnough S 0 (zI c) 0 = some (bI (hea 0 c 0)) := en0 (k := 0) (by decide) h1 h2
theorem ih00 {S : Sg} {c : Int} (h1 : -1000 ≤ c) (h2 : c ≤ 1000) : F_X9_isHeard S 0 (zI c) 0 = some (bI (hea 0 c 0)) := f9_isH (k := 0) (n := 0) (by decide) h1 h2 (by decide) (by decide)
def lau (a : AS) (r : Nat) : Nat → Nat
  | 0 => 0
  | n + 1 => if hea 0 (com a r n) 0 = true then lau a r n + 1 else lau a r n
theorem lau_le {a : AS} {r : Nat} : ∀ n, lau a r n ≤ n
  | 0 => Nat.le_refl _
  | n + 1 => by have := lau_le (a := a) (r := r) n; rw [lau]; split <;> omega
theorem f8_lau {S : Sg} {a : AS} (c : CG 0 S a) (w : WG a) {r : Nat} (hr : r ≤ aW a) : T_X8_rent_14 S (zI r) FU 0 0 = some (zI (lau a r (aP a))) := by
  have wP := w.1
  refine loopE (fun n x => T_X8_rent_14 S (zI r) n (zI (lau a r x)) (zI x)) (aP a) (some (zI (lau a r (aP a)))) (by omega) (fun n => ?_) (fun n x hx => ?_)
  · simp only [T_X8_rent_14]
    rw [c.1, if_le_t (by omega) (by omega)]
  · have hb := com_b w hr (f := x)
    simp only [T_X8_rent_14]
    rw [c.1, if_le_f hx (by omega), f6_com c w hr hx, bd_some, en00 (by omega) (by omega), bd_some, bI_z, zS, lau, zS]
    cases hea 0 (com a r x) 0 <;> rfl
theorem f9_lau {S : Sg} {a : AS} (c : MG S a) (w : WG a) {r : Nat} (hr : r ≤ aW a) : T_X9_rent_15 S (zI r) FU 20 0 = some (zI (20 - 2 * (lau a r (aP a) : Int))) := by
  have wP := w.1
  refine loopE (fun n x => T_X9_rent_15 S (zI r) n (zI (20 - 2 * (lau a r x : Int))) (zI x)) (aP a) (some (zI (20 - 2 * (lau a r (aP a) : Int)))) (by omega) (fun n => ?_) (fun n x hx => ?_)
  · simp only [T_X9_rent_15]
    rw [c.1, if_le_t (by omega) (by omega)]
  · have hb := com_b w hr (f := x)
    simp only [T_X9_rent_15]
    rw [c.1, if_le_f hx (by omega), f9_com c w hr hx, bd_some, ih00 (by omega) (by omega), bd_some, bI_z, zS, lau]
    cases hea 0 (com a r x) 0
    · rw [if_neg (by decide), if_neg (by decide), bd_some, nm, z_0, z_sub]
      exact congrArg (fun q => T_X9_rent_15 S (zI r) n (zI q) (zI ((x + 1 : Nat) : Int))) (by omega)
    · rw [if_pos rfl, if_pos rfl, bd_some, nm, show (2 : Int32) = zI 2 from rfl, z_sub]
      exact congrArg (fun q => T_X9_rent_15 S (zI r) n (zI q) (zI ((x + 1 : Nat) : Int))) (by omega)
theorem s_rent : st_rent R := by
  intro σ μ a1 h
  obtain ⟨x, hx1, hx2, rfl⟩ := arg a1
  obtain ⟨a, ⟨wg, wt, wh⟩, ⟨cg, ct, ch⟩, ⟨mg, mt, mh⟩⟩ := h.1
  have wP := wg.1
  unfold F_X8_rent F_X9_rent
  rw [f8_isRoom cg wg ⟨hx1, hx2⟩, f9_isRoom mg wg ⟨hx1, hx2⟩, bd_some, bd_some]
  cases e : roB a x
  · exact ⟨-1, rfl, rfl⟩
  · obtain ⟨m, rfl, hm, hm2⟩ := roB_t e
    have hl := lau_le (a := a) (r := m) (aP a)
    rw [t0, t0, f8_lau cg wg hm, f9_lau mg wg hm, bd_some, bd_some, zM (m := 2) (c := 2) rfl, show (20 : Int32) = zI 20 from rfl, z_sub]
    show ∃ r, some (if (0 : Int32) < zI (20 - ((2 * lau a m (aP a) : Nat) : Int)) then zI (20 - ((2 * lau a m (aP a) : Nat) : Int)) else 0) = some r ∧ _
    rw [z_0, if_ltZ (by decide) (by decide) (by omega) (by omega), if_leZ (by decide) (by decide) (by omega) (by omega)]
    by_cases q : (0 : Int) < 20 - ((2 * lau a m (aP a) : Nat) : Int)
    · rw [if_pos q, if_pos (by omega)]
      exact ⟨_, rfl, congrArg some (congrArg zI (by omega))⟩
    · rw [if_neg q]
      by_cases q2 : (0 : Int) ≤ 20 - 2 * (lau a m (aP a) : Int)
      · rw [if_pos q2]
        exact ⟨_, rfl, congrArg some (congrArg zI (by omega))⟩
      · rw [if_neg q2]
        exact ⟨_, rfl, rfl⟩
