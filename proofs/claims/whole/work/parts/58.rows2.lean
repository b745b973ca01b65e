/-! ===== rows: read, laid, torn, copied, mean ===== -/
theorem f4_miss {S : Sg} {u : Nat} {z : Int} (h : S.1 (14 + 2 * u) 1 = zI z) (h1 : -1 ≤ z) (h2 : z ≤ 40) : F_X4_isMissing u S = some (bI (decide (z < 0))) := by
  rw [F_X4_isMissing, h, if_0le (by omega) (by omega)]
  by_cases q : z < 0
  · rw [if_neg (by omega), decide_eq_true q]; rfl
  · rw [if_pos (by omega), decide_eq_false q]; rfl
theorem f4_has {S : Sg} {u : Nat} {z y : Int} (h : S.1 (14 + 2 * u) 1 = zI z) (h1 : -1 ≤ z) (h2 : z ≤ 40) (hy : bz y) : F_X4_has u S (zI y) = some (bI (inZ 0 (z - 1) y)) := by
  rw [F_X4_has, h, if_lt0 hy.1 hy.2, if_leZ (by omega) (by omega) hy.1 hy.2, ← chk2' (l := 0) (h := z - 1), show z - 1 + 1 = z by omega]
theorem zJ_sub (a b : Int) : zJ a - zJ b = zJ (a - b) := (Int64.ofInt_sub a b).symm
theorem f4_holds {S : Sg} {u n : Nat} {z y : Int} (h : S.1 (14 + 2 * u) 1 = zI z) (h1 : 0 ≤ z) (h2 : z ≤ 40) (hy : bz y) (hn : n < 2147483648) : F_X4_holds u S (zI y) (zI n) = some (bI (inZ 0 (z - n) y)) := by
  rw [F_X4_holds, h, if_lt0 hy.1 hy.2, if_ltZ (by omega) (by omega) hy.1 hy.2]
  cases e : inZ 0 (z - n) y
  · rcases inZ_f e with e | e
    · rw [if_pos e]; rfl
    · by_cases q : y < 0
      · rw [if_pos q]; rfl
      · rw [if_neg q]
        by_cases q2 : z < y
        · rw [if_pos q2]; rfl
        · rw [if_neg q2, z_sub, if_ltZ (by omega) (by omega) (by omega) (by omega), if_pos (by omega)]; rfl
  · have := inZ_t e
    rw [if_neg (by omega), if_neg (by omega), z_sub, if_ltZ (by omega) (by omega) (by omega) (by omega), if_neg (by omega)]; rfl
/-- what the reference says where a place is asked -/
theorem f9_lacksP {μ : Sg} {x y : Int} (hx : bz x) (hy : bz y) {u : Nat} {z : Int} (hu : x = u → u < 6 → μ.1 1 u = zI z) (h1 : -1 ≤ z) (h2 : z ≤ 40) (hxu : inZ 0 5 x = true → x = u) : F_X9_lacksPlace μ (zI x) (zI y) = if inZ 0 5 x = true then (if z < 0 then F_X9_find μ (zI (1 : Nat)) else if inZ 0 (z - 1) y = true then some (0, μ) else F_X9_find μ (zI (2 : Nat))) else some (-1, μ) := by
  rw [F_X9_lacksPlace, f9_isRow hx, bd_some]
  cases e : inZ 0 5 x
  · rw [f0, if_neg (by decide)]
  · have e2 := hxu e
    subst e2
    have e3 := inZ_t e
    rw [t0, if_pos rfl, chk_N (by omega) (by omega), chk_N (by omega) (by omega), z_tnN (by omega), hu rfl (by omega), if_0le (by omega) (by omega)]
    by_cases q : z < 0
    · rw [if_neg (by omega), if_pos q, zN1, f9_find (by decide)]; rfl
    · rw [if_pos (by omega), if_neg q, z_1, z_sub, inZ_in (l := 0) (h := z - 1) hy (by decide) (zJ_z (by omega) (by omega)) (by decide) (by omega), bd_some]
      cases inZ 0 (z - 1) y
      · rw [f0, if_neg (by decide), zN2, f9_find (by decide)]; rfl
      · rw [t0, if_pos rfl]
theorem f8_atE {σ : Sg} {y : Int} (hy : bz y) {u : Nat} {z : Int} (hu : u < 6) (hz : σ.1 (14 + 2 * u) 1 = zI z) (h1 : -1 ≤ z) (h2 : z ≤ 40) : F_X8_at σ (zI u) (zI y) = if z < 0 then F_X8_find σ (zI (1 : Nat)) else if inZ 0 (z - 1) y = true then some (1, wI σ 0 10 (σ.1 (14 + 2 * u + 1) y.toNat)) else F_X8_find σ (zI (2 : Nat)) := by
  rw [F_X8_at, f8_isRow ⟨by omega, by omega⟩, bd_some, inZ_y (by omega), t0, chk_N (by omega) (by omega), z_tnN (by omega), f4_miss hz h1 h2, bd_some]
  by_cases q : z < 0
  · rw [if_pos q, decide_eq_true q, t0, zN1, f8_find (by decide)]; rfl
  · rw [if_neg q, decide_eq_false q, f0, f4_has hz h1 h2 hy, bd_some]
    cases e : inZ 0 (z - 1) y
    · rw [f0, if_neg (by decide), zN2, f8_find (by decide)]; rfl
    · have e3 := inZ_t e
      rw [t0, if_pos rfl, chk_Z e3.1 (by omega) (by omega), z_tn e3.1 (by omega)]; rfl
theorem s_at : st_at R := by
  intro σ μ a1 a2 h
  obtain ⟨x, hx1, hx2, rfl⟩ := arg a1
  obtain ⟨y, hy1, hy2, rfl⟩ := arg a2
  unfold F_X9_at
  cases e : inZ 0 5 x
  · refine ⟨-1, σ, μ, ?_, ?_, h⟩
    · rw [F_X8_at, f8_isRow ⟨hx1, hx2⟩, bd_some, e, f0]
    · rw [F_X9_lacksPlace, f9_isRow ⟨hx1, hx2⟩, bd_some, e, f0]; rfl
  · obtain ⟨u, rfl, hu⟩ := inZ_n e
    have hu6 : u < 6 := by omega
    obtain ⟨⟨z, z1, z2, z3, z4⟩, hr⟩ := h.2.2.1 u hu6
    rw [f8_atE ⟨hy1, hy2⟩ hu6 z3 z1 z2, f9_lacksP ⟨hx1, hx2⟩ ⟨hy1, hy2⟩ (u := u) (fun _ _ => z4) z1 z2 (fun _ => rfl), if_pos e]
    by_cases q : z < 0
    · rw [if_pos q, if_pos q, f8_find (by decide), f9_find (by decide)]
      exact ⟨_, _, _, rfl, rfl, R_find h (f := 1) (by decide)⟩
    · rw [if_neg q, if_neg q]
      cases e2 : inZ 0 (z - 1) y
      · rw [if_neg (by decide), if_neg (by decide), f8_find (by decide), f9_find (by decide)]
        exact ⟨_, _, _, rfl, rfl, R_find h (f := 2) (by decide)⟩
      · obtain ⟨n, rfl⟩ : ∃ n : Nat, y = n := ⟨y.toNat, by have := inZ_t e2; omega⟩
        have e3 := inZ_t e2
        rw [if_pos rfl, if_pos rfl, bd_some]
        show ∃ r σ1 μ1, _ ∧ (chk (inB ((40 : Int32) * zI u + zI n) 240) _ = _) ∧ _
        rw [zMA (m := 40) (c := 40) rfl, chk_N (by omega) (by omega), z_tnN (by omega), f9_say, bd_some, Int.toNat_natCast]
        refine ⟨_, _, _, rfl, rfl, ?_⟩
        rw [hr n (by omega)]
        exact R_told h _
theorem R_cell {σ μ : Sg} (h : R σ μ) {u j : Nat} (hu : u < 6) (hj : j < 40) (v : Int32) : R (wI σ (14 + 2 * u + 1) j v) (wI μ 2 (40 * u + j) v) := by
  refine R_rows h (sm_wI (by omega)) (sm_wI (by omega)) (fun c n h1 h2 _ => wI_ne (.inl h2)) (fun r hr => ?_)
  obtain ⟨⟨z, z1, z2, z3, z4⟩, h2⟩ := h.2.2.1 r hr
  refine ⟨⟨z, z1, z2, ?_, ?_⟩, fun n hn => ?_⟩
  · rw [wI_ne (by omega)]; exact z3
  · rw [wI_ne (by omega)]; exact z4
  · by_cases e : r = u ∧ n = j
    · rw [e.1, e.2, wI_eq, wI_eq]
    · rw [wI_ne (by omega), wI_ne (by omega)]; exact h2 n hn
theorem s_lay : st_lay R := by
  intro σ μ a1 a2 v h
  obtain ⟨x, hx1, hx2, rfl⟩ := arg a1
  obtain ⟨y, hy1, hy2, rfl⟩ := arg a2
  unfold F_X9_lay F_X8_lay
  cases e : inZ 0 5 x
  · refine ⟨-1, σ, μ, ?_, ?_, h⟩
    · rw [F_X8_at, f8_isRow ⟨hx1, hx2⟩, bd_some, e, f0]; rfl
    · rw [F_X9_lacksPlace, f9_isRow ⟨hx1, hx2⟩, bd_some, e, f0]; rfl
  · obtain ⟨u, rfl, hu⟩ := inZ_n e
    have hu6 : u < 6 := by omega
    obtain ⟨⟨z, z1, z2, z3, z4⟩, hr⟩ := h.2.2.1 u hu6
    rw [f8_atE ⟨hy1, hy2⟩ hu6 z3 z1 z2, f9_lacksP ⟨hx1, hx2⟩ ⟨hy1, hy2⟩ (u := u) (fun _ _ => z4) z1 z2 (fun _ => rfl), if_pos e]
    by_cases q : z < 0
    · rw [if_pos q, if_pos q, f8_find (by decide), f9_find (by decide)]
      exact ⟨_, _, _, rfl, rfl, R_find h (f := 1) (by decide)⟩
    · rw [if_neg q, if_neg q]
      cases e2 : inZ 0 (z - 1) y
      · rw [if_neg (by decide), if_neg (by decide), f8_find (by decide), f9_find (by decide)]
        exact ⟨_, _, _, rfl, rfl, R_find h (f := 2) (by decide)⟩
      · obtain ⟨n, rfl⟩ : ∃ n : Nat, y = n := ⟨y.toNat, by have := inZ_t e2; omega⟩
        have e3 := inZ_t e2
        rw [if_pos rfl, if_pos rfl, bd_some, bd_some]
        show ∃ r σ1 μ1, (bd (if (1 : Int32) = 1 then _ else _) _ = _) ∧ (chk (inB ((40 : Int32) * zI u + zI n) 240) _ = _) ∧ _
        simp only [nm]
        rw [zMA (m := 40) (c := 40) rfl, chk_N (by omega) (by omega), chk_N (by omega) (by omega), z_tnN (by omega), f9_say, bd_some, if_pos trivial, chk_N (by omega) (by omega), chk_N (by omega) (by omega), z_tnN (by omega), bd_some, Int.toNat_natCast, wI_comm (by omega)]
        refine ⟨_, _, _, rfl, rfl, ?_⟩
        rw [hr n (by omega), z_tnN (by omega)]
        exact R_told (R_cell h hu6 (j := n) (by omega) v) _
theorem s_tear : st_tear R := by
  intro σ μ a1 h
  obtain ⟨x, hx1, hx2, rfl⟩ := arg a1
  unfold F_X9_tear F_X8_tear
  rw [f8_isRow ⟨hx1, hx2⟩, f9_isRow ⟨hx1, hx2⟩, bd_some, bd_some]
  cases e : inZ 0 5 x
  · exact ⟨-1, σ, μ, rfl, rfl, h⟩
  · obtain ⟨u, rfl, hu⟩ := inZ_n e
    have hu6 : u < 6 := by omega
    obtain ⟨⟨z, z1, z2, z3, z4⟩, hr⟩ := h.2.2.1 u hu6
    rw [t0, t0, chk_N (by omega) (by omega), chk_N (by omega) (by omega), chk_N (by omega) (by omega), chk_N (by omega) (by omega), z_tnN (by omega), f4_miss z3 z1 z2, z4, bd_some, if_0le (by omega) (by omega)]
    by_cases q : z < 0
    · rw [decide_eq_true q, if_neg (c := 0 ≤ z) (by omega), t0, zN1, f8_find (by decide), f9_find (by decide)]
      exact ⟨_, _, _, rfl, rfl, R_find h (f := 1) (by decide)⟩
    · rw [decide_eq_false q, if_pos (c := 0 ≤ z) (by omega), f0, nm, nm]
      refine ⟨_, _, _, rfl, rfl, R_rows h (sm_wI (by omega)) (sm_wI (by omega)) (fun c n h1 h2 _ => wI_ne (.inl h1)) (fun r hr => ?_)⟩
      obtain ⟨⟨z, z1, z2, z3, z4⟩, h2⟩ := h.2.2.1 r hr
      refine ⟨?_, fun n hn => by rw [wI_ne (by omega), wI_ne (by omega)]; exact h2 n hn⟩
      by_cases e : r = u
      · rw [e, wI_eq, wI_eq]
        exact ⟨-1, by decide, by decide, rfl, rfl⟩
      · rw [wI_ne (by omega), wI_ne (by omega)]
        exact ⟨z, z1, z2, z3, z4⟩
/-! the mean -/
def s64 (g : Nat → Int32) : Nat → Int64
  | 0 => 0
  | n + 1 => s64 g n + Int32.toInt64 (g n)
theorem s64_cg {f g : Nat → Int32} : ∀ n, (∀ j, j < n → f j = g j) → s64 f n = s64 g n
  | 0, _ => rfl
  | n + 1, h => by rw [s64, s64, s64_cg n (fun j hj => h j (by omega)), h n (by omega)]
theorem f4_sum {S : Sg} {u n : Nat} (h : S.1 (14 + 2 * u) 1 = zI n) (hn : n ≤ 40) : F_X4_sum u S = some (s64 (S.1 (14 + 2 * u + 1)) n) := by
  have q := loopE (fun m x => T_X4_sum_4 u S m (s64 (S.1 (14 + 2 * u + 1)) x) (zI x)) n (some (s64 (S.1 (14 + 2 * u + 1)) n)) (by omega) (fun m => by
    simp only [T_X4_sum_4]
    rw [h, if_le_t (by omega) (by omega)]) (fun m x hx => by
    simp only [T_X4_sum_4]
    rw [h, if_le_f hx (by omega), chk_N (by omega) (by omega), z_tnN (by omega), nm, zS, s64])
  exact bd_t q
theorem f9_sum {S : Sg} {u n : Nat} (hu : u < 6) (h : S.1 1 u = zI n) (hn : n ≤ 40) : T_X9_mean_44 S (zI u) FU 0 0 = some (s64 (fun j => S.1 2 (40 * u + j)) n) := by
  refine loopE (fun m x => T_X9_mean_44 S (zI u) m (s64 (fun j => S.1 2 (40 * u + j)) x) (zI x)) n (some (s64 (fun j => S.1 2 (40 * u + j)) n)) (by omega) (fun m => ?_) (fun m x hx => ?_)
  · simp only [T_X9_mean_44]
    rw [chk_N (by omega) (by omega), z_tnN (by omega), h, if_le_t (by omega) (by omega)]
  · simp only [T_X9_mean_44]
    rw [zMA (m := 40) (c := 40) rfl, chk_N (by omega) (by omega), z_tnN (by omega), h, if_le_f hx (by omega), chk_N (by omega) (by omega), z_tnN (by omega), nm, zS, s64]
theorem nzJ_N {α : Type} {n : Nat} {K : Option α} (h : 0 < n) (h2 : n < 2147483648) : chk (nzJ (Int32.toInt64 (zI n))) K = K := by
  refine chk_t ?_
  unfold nzJ
  rw [zJ_z (by omega) (by omega), decide_eq_false (fun q => ?_)]
  · rfl
  · have := (eq_J (x := n) (y := 0) (by omega) (by omega) (by decide) (by decide)).mp q
    omega
theorem s_mean : st_mean R := by
  intro σ μ a1 h
  obtain ⟨x, hx1, hx2, rfl⟩ := arg a1
  unfold F_X9_mean F_X8_mean
  rw [f8_isRow ⟨hx1, hx2⟩, f9_isRow ⟨hx1, hx2⟩, bd_some, bd_some]
  cases e : inZ 0 5 x
  · exact ⟨-1, σ, μ, rfl, rfl, h⟩
  · obtain ⟨u, rfl, hu⟩ := inZ_n e
    have hu6 : u < 6 := by omega
    obtain ⟨⟨z, z1, z2, z3, z4⟩, hr⟩ := h.2.2.1 u hu6
    rw [t0, t0, chk_N (by omega) (by omega), chk_N (by omega) (by omega), chk_N (by omega) (by omega), z_tnN (by omega), f4_miss z3 z1 z2, z4, z3, bd_some, if_0le (by omega) (by omega), if_eq0 (by omega) (by omega), if_eq0 (by omega) (by omega)]
    by_cases q : z < 0
    · rw [decide_eq_true q, if_neg (c := 0 ≤ z) (by omega), t0, zN1, f8_find (by decide), f9_find (by decide)]
      exact ⟨_, _, _, rfl, rfl, R_find h (f := 1) (by decide)⟩
    · rw [decide_eq_false q, if_pos (c := 0 ≤ z) (by omega), f0]
      by_cases q0 : z = 0
      · rw [if_pos q0, if_pos q0, zN4, f8_find (by decide), f9_find (by decide)]
        exact ⟨_, _, _, rfl, rfl, R_find h (f := 4) (by decide)⟩
      · obtain ⟨n, rfl⟩ : ∃ n : Nat, z = n := ⟨z.toNat, by omega⟩
        rw [if_neg q0, if_neg q0, f4_sum z3 (by omega), f9_sum hu6 z4 (by omega), bd_some, bd_some, chk_N (by omega) (by omega), nzJ_N (by omega) (by omega), nzJ_N (by omega) (by omega), nm, f9_say, bd_some, s64_cg (f := σ.1 (14 + 2 * u + 1)) (g := fun j => μ.1 2 (40 * u + j)) n (fun j hj => hr j (by omega))]
        exact ⟨_, _, _, rfl, rfl, R_told h _⟩
/-! a stretch copied -/
theorem va_if {f g : Nat → Int32} {sp dp n k : Nat} : va_cpy f g sp dp n k = if dp ≤ k ∧ k < dp + n then f (sp + (k - dp)) else g k := rfl
theorem cpI_1 {S : Sg} {k1 sp k2 dp n c j : Nat} : (cpI S k1 sp k2 dp n).1 c j = if c = k2 ∧ dp ≤ j ∧ j < dp + n then S.1 k1 (sp + (j - dp)) else S.1 c j := by
  by_cases h : c = k2
  · subst h
    rw [cpI_s, va_if]
    by_cases q : dp ≤ j ∧ j < dp + n
    · rw [if_pos q, if_pos ⟨rfl, q⟩]
    · rw [if_neg q, if_neg (fun w => q w.2)]
  · rw [(cpI_o c h).1, if_neg (fun w => h w.1)]
theorem cpI_2 {S : Sg} {k1 sp k2 dp n : Nat} : (cpI S k1 sp k2 dp n).2 = S.2 := rfl
theorem cpI_sm {S : Sg} {k1 sp k2 dp n lo hi : Nat} (h : k2 < lo ∨ hi ≤ k2) : sm lo hi S (cpI S k1 sp k2 dp n) := fun c h1 h2 j => ⟨by rw [cpI_1, if_neg (by omega)], rfl⟩
theorem cpB_N {α : Type} {K : Option α} {sp dp n n1 n2 : Nat} (h1 : sp + n ≤ n1) (h2 : dp + n ≤ n2) (b1 : n1 < 2147483648) (b2 : n2 < 2147483648) : chk (cpB (zI sp) (zI dp) (zI n) n1 n2) K = K := by
  refine chk_t (decide_eq_true ?_)
  rw [z_tnN (by omega), z_tnN (by omega), z_tnN (by omega), z_0, z_lt (by omega) (by omega) (by omega) (by omega), z_lt (by omega) (by omega) (by omega) (by omega), z_lt (by omega) (by omega) (by omega) (by omega)]
  omega
theorem f9_cp1 {S : Sg} {u p w q n : Nat} (hu : u < 6) (hp : p + n ≤ 40) : T_X9_copy_101 (zI u) (zI p) (zI w) (zI q) (zI n) FU 0 S = some (wr 15 0 (fun j => S.1 2 (40 * u + p + j)) S n) := by
  refine loopE (fun m x => T_X9_copy_101 (zI u) (zI p) (zI w) (zI q) (zI n) m (zI x) (wr 15 0 (fun j => S.1 2 (40 * u + p + j)) S x)) n (some (wr 15 0 (fun j => S.1 2 (40 * u + p + j)) S n)) (by omega) (fun m => ?_) (fun m x hx => ?_)
  · simp only [T_X9_copy_101]
    rw [if_le_t (by omega) (by omega)]
  · simp only [T_X9_copy_101]
    rw [if_le_f hx (by omega), zMA (m := 40) (c := 40) rfl, z_add, show ((40 * u + p : Nat) : Int) + x = ((40 * u + p + x : Nat) : Int) by push_cast; rfl, chk_N (by omega) (by omega), chk_N (by omega) (by omega), z_tnN (by omega), z_tnN (by omega), nm, zS, wr_n (.inl (by decide)), wr, Nat.zero_add]
theorem f9_cp2 {S : Sg} {w q n : Nat} (hw : w < 6) (hp : q + n ≤ 40) : T_X9_copy_138 (zI w) (zI q) (zI n) FU 0 S = some (wr 2 (40 * w + q) (fun j => S.1 15 j) S n) := by
  refine loopE (fun m x => T_X9_copy_138 (zI w) (zI q) (zI n) m (zI x) (wr 2 (40 * w + q) (fun j => S.1 15 j) S x)) n (some (wr 2 (40 * w + q) (fun j => S.1 15 j) S n)) (by omega) (fun m => ?_) (fun m x hx => ?_)
  · simp only [T_X9_copy_138]
    rw [if_le_t (by omega) (by omega)]
  · simp only [T_X9_copy_138]
    rw [if_le_f hx (by omega), zMA (m := 40) (c := 40) rfl, z_add, show ((40 * w + q : Nat) : Int) + x = ((40 * w + q + x : Nat) : Int) by push_cast; rfl, chk_N (by omega) (by omega), chk_N (by omega) (by omega), z_tnN (by omega), z_tnN (by omega), nm, zS, wr_n (.inl (by decide)), wr]
theorem s_copy : st_copy R := by
  intro σ μ a1 a2 a3 a4 a5 h
  obtain ⟨x, hx1, hx2, rfl⟩ := arg a1
  obtain ⟨p, hp1, hp2, rfl⟩ := arg a2
  obtain ⟨y, hy1, hy2, rfl⟩ := arg a3
  obtain ⟨q, hq1, hq2, rfl⟩ := arg a4
  obtain ⟨n, hn1, hn2, rfl⟩ := arg a5
  unfold F_X9_copy F_X8_copy
  rw [f8_isRow ⟨hx1, hx2⟩, f9_isRow ⟨hx1, hx2⟩, bd_some, bd_some]
  cases e : inZ 0 5 x
  · exact ⟨-1, σ, μ, rfl, rfl, h⟩
  rw [t0, t0, f8_isRow ⟨hy1, hy2⟩, f9_isRow ⟨hy1, hy2⟩, bd_some, bd_some]
  cases e1 : inZ 0 5 y
  · exact ⟨-1, σ, μ, rfl, rfl, h⟩
  rw [t0, t0, if_0le hn1 hn2, if_0le hn1 hn2]
  obtain ⟨u, rfl, hu⟩ := inZ_n e
  obtain ⟨w, rfl, hw⟩ := inZ_n e1
  have cu : ∀ {α : Type} (K : Option α), chk (inB (zI u) 6) K = K := fun K => chk_N (by omega) (by omega)
  have cw : ∀ {α : Type} (K : Option α), chk (inB (zI w) 6) K = K := fun K => chk_N (by omega) (by omega)
  simp only [cu, cw]
  by_cases c1 : 0 ≤ n
  case neg =>
    rw [if_neg c1, if_neg c1, zN5, f8_find (by decide), f9_find (by decide)]
    exact ⟨_, _, _, rfl, rfl, R_find h (f := 5) (by decide)⟩
  obtain ⟨n, rfl⟩ : ∃ m : Nat, n = m := ⟨n.toNat, by omega⟩
  obtain ⟨⟨z, z1, z2, z3, z4⟩, hr⟩ := h.2.2.1 u (by omega)
  obtain ⟨⟨t, t1, t2, t3, t4⟩, hr2⟩ := h.2.2.1 w (by omega)
  rw [if_pos c1, if_pos c1, z_tnN (by omega), f4_miss z3 z1 z2, z4, bd_some, if_lt0 (by omega) (by omega)]
  by_cases c2 : z < 0
  · rw [if_pos c2, decide_eq_true c2, t0, zN1, f8_find (by decide), f9_find (by decide)]
    exact ⟨_, _, _, rfl, rfl, R_find h (f := 1) (by decide)⟩
  rw [if_neg c2, decide_eq_false c2, f0, z_tnN (by omega), f4_miss t3 t1 t2, t4, bd_some, if_0le (by omega) (by omega)]
  by_cases c3 : t < 0
  · rw [if_neg (c := 0 ≤ t) (by omega), decide_eq_true c3, t0, zN1, f8_find (by decide), f9_find (by decide)]
    exact ⟨_, _, _, rfl, rfl, R_find h (f := 1) (by decide)⟩
  have ez : Int32.toInt64 (zI z) - Int32.toInt64 (zI n) = zJ (z - n) := by rw [zJ_z (by omega) (by omega), zJ_z (by omega) (by omega), zJ_sub]
  have et : Int32.toInt64 (zI t) - Int32.toInt64 (zI n) = zJ (t - n) := by rw [zJ_z (by omega) (by omega), zJ_z (by omega) (by omega), zJ_sub]
  rw [if_pos (c := 0 ≤ t) (by omega), decide_eq_false c3, f0, f4_holds z3 (by omega) z2 ⟨hp1, hp2⟩ (by omega), inZ_in (l := 0) (h := z - n) ⟨hp1, hp2⟩ (by decide) ez (by decide) (by omega), bd_some, bd_some]
  cases c4 : inZ 0 (z - n) p
  · rw [f0, f0, zN2, f8_find (by decide), f9_find (by decide)]
    exact ⟨_, _, _, rfl, rfl, R_find h (f := 2) (by decide)⟩
  rw [t0, t0, f4_holds t3 (by omega) t2 ⟨hq1, hq2⟩ (by omega), inZ_in (l := 0) (h := t - n) ⟨hq1, hq2⟩ (by decide) et (by decide) (by omega), bd_some, bd_some]
  cases c5 : inZ 0 (t - n) q
  · rw [f0, f0, zN2, f8_find (by decide), f9_find (by decide)]
    exact ⟨_, _, _, rfl, rfl, R_find h (f := 2) (by decide)⟩
  have c4 := inZ_t c4
  have c5 := inZ_t c5
  obtain ⟨p, rfl⟩ : ∃ m : Nat, p = m := ⟨p.toNat, by omega⟩
  obtain ⟨q, rfl⟩ : ∃ m : Nat, q = m := ⟨q.toNat, by omega⟩
  rw [t0, t0, cpB_N (by omega) (by omega) (by decide) (by decide), nm, f9_cp1 (by omega) (by omega), bd_some, f9_cp2 (by omega) (by omega), bd_some, z_tnN (by omega), z_tnN (by omega), z_tnN (by omega)]
  refine ⟨_, _, _, rfl, rfl, R_rows h (cpI_sm (by omega)) (cpI_sm (by omega)) (fun c j h1 h2 h3 => by rw [wr_n (.inl h2), wr_n (.inl h3)]) (fun r hr6 => ?_)⟩
  obtain ⟨⟨v, v1, v2, v3, v4⟩, hr3⟩ := h.2.2.1 r hr6
  refine ⟨⟨v, v1, v2, ?_, ?_⟩, fun j hj => ?_⟩
  · rw [cpI_1, if_neg (by omega)]; exact v3
  · rw [wr_n (.inl (by decide)), wr_n (.inl (by decide))]; exact v4
  · rw [cpI_1]
    by_cases c6 : r = w ∧ q ≤ j ∧ j < q + n
    · rw [if_pos (by omega), c6.1, show 40 * w + j = 40 * w + q + (j - q) by omega, wr_e (by omega), wr_e0 (by omega), hr (p + (j - q)) (by omega)]
      exact congrArg (μ.1 2) (by omega)
    · rw [if_neg (by omega), wr_n (by omega), wr_n (.inl (by decide))]
      exact hr3 j hj
