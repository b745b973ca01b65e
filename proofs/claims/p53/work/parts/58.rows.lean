theorem if_0le {α : Type} {a : Int} {A B : α} (h1 : -2147483648 ≤ a) (h2 : a < 2147483648) : (if 0 ≤ zI a then A else B) = if 0 ≤ a then A else B := by
  rw [show (0 : Int32) = zI 0 from rfl, if_leZ (by decide) (by decide) h1 h2]
theorem if_le0 {α : Type} {a : Int} {A B : α} (h1 : -2147483648 ≤ a) (h2 : a < 2147483648) : (if zI a ≤ 0 then A else B) = if a ≤ 0 then A else B := by
  rw [show (0 : Int32) = zI 0 from rfl, if_leZ h1 h2 (by decide) (by decide)]
theorem if_0lt {α : Type} {a : Int} {A B : α} (h1 : -2147483648 ≤ a) (h2 : a < 2147483648) : (if 0 < zI a then A else B) = if 0 < a then A else B := by
  rw [show (0 : Int32) = zI 0 from rfl, if_ltZ (by decide) (by decide) h1 h2]
theorem if_eq0 {α : Type} {a : Int} {A B : α} (h1 : -2147483648 ≤ a) (h2 : a < 2147483648) : (if zI a = 0 then A else B) = if a = 0 then A else B := by
  rw [show (0 : Int32) = zI 0 from rfl, if_eqZ h1 h2 (by decide) (by decide)]
def wr (k o : Nat) (g : Nat → Int32) (S : Sg) : Nat → Sg
  | 0 => S
  | n + 1 => wI (wr k o g S n) k (o + n) (g n)
theorem wr_1 {k o : Nat} {g : Nat → Int32} {S : Sg} {c j : Nat} : ∀ n, (wr k o g S n).1 c j = if c = k ∧ o ≤ j ∧ j < o + n then g (j - o) else S.1 c j
  | 0 => by rw [wr, if_neg (by omega)]
  | n + 1 => by
    rw [wr]
    by_cases h : c = k ∧ j = o + n
    · rw [h.1, h.2, wI_eq, if_pos (by omega), show o + n - o = n by omega]
    · rw [wI_ne (by omega), wr_1 n]
      by_cases h2 : c = k ∧ o ≤ j ∧ j < o + n
      · rw [if_pos h2, if_pos (by omega)]
      · rw [if_neg h2, if_neg (by omega)]
theorem wr_n {k o n : Nat} {g : Nat → Int32} {S : Sg} {c j : Nat} (h : c ≠ k ∨ j < o ∨ o + n ≤ j) : (wr k o g S n).1 c j = S.1 c j := by rw [wr_1, if_neg (by omega)]
theorem wr_e {k o n j : Nat} {g : Nat → Int32} {S : Sg} (h : j < n) : (wr k o g S n).1 k (o + j) = g j := by rw [wr_1, if_pos (by omega), show o + j - o = j by omega]
theorem wr_e0 {k n j : Nat} {g : Nat → Int32} {S : Sg} (h : j < n) : (wr k 0 g S n).1 k j = g j := by rw [wr_1, if_pos (by omega), Nat.sub_zero]
theorem wr_2 {k o : Nat} {g : Nat → Int32} {S : Sg} : ∀ n, (wr k o g S n).2 = S.2
  | 0 => rfl
  | n + 1 => by rw [wr, wI_2, wr_2 n]
theorem wr_sm {k o : Nat} {g : Nat → Int32} {S : Sg} {lo hi : Nat} (h : k < lo ∨ hi ≤ k) (n : Nat) : sm lo hi S (wr k o g S n) := fun c h1 h2 j => ⟨wr_n (by omega), by rw [wr_2]⟩
theorem wI_comm {S : Sg} {k k' j j' : Nat} {v v' : Int32} (h : k ≠ k') : wI (wI S k j v) k' j' v' = wI (wI S k' j' v') k j v := by
  refine Prod.ext (funext fun c => funext fun n => ?_) rfl
  rw [wI_1, wI_1, wI_1, wI_1]
  by_cases h1 : c = k
  · have h2 : c ≠ k' := by omega
    simp only [h1, if_true]
    rw [if_neg h, if_neg h]
  · simp only [h1, if_false]
def rw8 (u : Nat) (n : Nat) (S : Sg) : Sg := wr (14 + 2 * u + 1) 0 (fun _ => 0) (wI S (14 + 2 * u) 1 (zI n)) 40
theorem f4_begin {S : Sg} {u n : Nat} : F_X4_begin u S (zI n) = some (rw8 u n S) := by
  have q := loopE (fun m x => T_X4_begin_7 u m (zI x) (wr (14 + 2 * u + 1) 0 (fun _ => 0) (wI S (14 + 2 * u) 1 (zI n)) x)) 40 (some (rw8 u n S)) (by omega) (fun m => by
    simp only [T_X4_begin_7]
    rw [show (40 : Int32) = zI ((40 : Nat) : Int) from rfl, if_le_t (by omega) (by omega)]; rfl) (fun m x hx => by
    simp only [T_X4_begin_7]
    rw [show (40 : Int32) = zI ((40 : Nat) : Int) from rfl, if_le_f hx (by omega), chk_N (by omega) (by omega), z_tnN (by omega), nm, zSu, wr, Nat.zero_add])
  exact bd_t q
theorem rw8_sm {u n lo hi : Nat} {S : Sg} (h : 14 + 2 * u + 1 < lo ∨ hi ≤ 14 + 2 * u) : sm lo hi S (rw8 u n S) := sm_tr (sm_wI (by omega)) (wr_sm (by omega) _)
theorem zN5 : (5 : Int32) = zI ((5 : Nat) : Int) := rfl
theorem zN1 : (1 : Int32) = zI ((1 : Nat) : Int) := rfl
theorem zN4 : (4 : Int32) = zI ((4 : Nat) : Int) := rfl
theorem f4_miss {S : Sg} {u : Nat} {z : Int} (h : S.1 (14 + 2 * u) 1 = zI z) (h1 : -1 ≤ z) (h2 : z ≤ 40) : F_X4_isMissing u S = some (bI (decide (z < 0))) := by
  rw [F_X4_isMissing, h, if_0le (by omega) (by omega)]
  by_cases q : z < 0
  · rw [if_neg (by omega), decide_eq_true q]; rfl
  · rw [if_pos (by omega), decide_eq_false q]; rfl
theorem f4_has {S : Sg} {u : Nat} {z y : Int} (h : S.1 (14 + 2 * u) 1 = zI z) (h1 : -1 ≤ z) (h2 : z ≤ 40) (hy : bz y) : F_X4_has u S (zI y) = some (bI (inZ 0 (z - 1) y)) := by
  rw [F_X4_has, h, if_lt0 hy.1 hy.2, if_leZ (by omega) (by omega) hy.1 hy.2, ← chk2' (l := 0) (h := z - 1), show z - 1 + 1 = z by omega]
theorem f8_atE {σ : Sg} {y : Int} (hy : bz y) {u : Nat} {z : Int} (hu : u < 6) (hz : σ.1 (14 + 2 * u) 1 = zI z) (h1 : -1 ≤ z) (h2 : z ≤ 40) : F_X8_at σ (zI u) (zI y) = if z < 0 then F_X8_find σ (zI (1 : Nat)) else if inZ 0 (z - 1) y = true then some (1, wI σ 0 10 (σ.1 (14 + 2 * u + 1) y.toNat)) else F_X8_find σ (zI (2 : Nat)) := by
  rw [F_X8_at, f8_isRow ⟨by omega, by omega⟩, bd_some, inZ_y (by omega), t0, chk_N (by omega) (by omega), z_tnN (by omega), f4_miss hz h1 h2, bd_some]
  by_cases q : z < 0
  · rw [if_pos q, decide_eq_true q, t0, zN1, f8_find (by decide)]; rfl
  · rw [if_neg q, decide_eq_false q, f0, f4_has hz h1 h2 hy, bd_some]
    cases e : inZ 0 (z - 1) y
    · rw [f0, if_neg (by decide), zN2, f8_find (by decide)]; rfl
    · have e3 := inZ_t e
      rw [t0, if_pos rfl, chk_Z e3.1 (by omega) (by omega), z_tn e3.1 (by omega)]; rfl
theorem va_if {f g : Nat → Int32} {sp dp n k : Nat} : va_cpy f g sp dp n k = if dp ≤ k ∧ k < dp + n then f (sp + (k - dp)) else g k := rfl
theorem cpI_1 {S : Sg} {k1 sp k2 dp n c j : Nat} : (cpI S k1 sp k2 dp n).1 c j = if c = k2 ∧ dp ≤ j ∧ j < dp + n then S.1 k1 (sp + (j - dp)) else S.1 c j := by
  by_cases h : c = k2
  · subst h
    rw [cpI_s, va_if]
    by_cases q : dp ≤ j ∧ j < dp + n
    · rw [if_pos q, if_pos ⟨rfl, q⟩]
    · rw [if_neg q, if_neg (fun w => q w.2)]
  · rw [(cpI_o c h).1, if_neg (fun w => h w.1)]
theorem cpI_2 {S : Sg} {k1 sp k2 dp n : Nat} : (cpI S k1 sp k2 dp n).2 = S.2 := rfl
theorem cpI_sm {S : Sg} {k1 sp k2 dp n lo hi : Nat} (h : k2 < lo ∨ hi ≤ k2) : sm lo hi S (cpI S k1 sp k2 dp n) := fun c h1 h2 j => ⟨by rw [cpI_1, if_neg (by omega)], rfl⟩
theorem cpB_N {α : Type} {K : Option α} {sp dp n n1 n2 : Nat} (h1 : sp + n ≤ n1) (h2 : dp + n ≤ n2) (b1 : n1 < 2147483648) (b2 : n2 < 2147483648) : chk (cpB (zI sp) (zI dp) (zI n) n1 n2) K = K := by
  refine chk_t (decide_eq_true ?_)
  rw [z_tnN (by omega), z_tnN (by omega), z_tnN (by omega), z_0, z_lt (by omega) (by omega) (by omega) (by omega), z_lt (by omega) (by omega) (by omega) (by omega), z_lt (by omega) (by omega) (by omega) (by omega)]
  omega
