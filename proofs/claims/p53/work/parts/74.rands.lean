/-! ===== the law's own numbers ===== -/
theorem z_divN {m n : Nat} (hm : m < 2147483648) (hn : n < 2147483648) : zI m / zI n = zI ((m / n : Nat) : Int) := by
  have h1 : Int32.minValue.toInt = -2147483648 := by decide
  have h2 : Int32.maxValue.toInt = 2147483647 := by decide
  show Int32.ofInt (m : Int) / Int32.ofInt (n : Int) = Int32.ofInt ((m / n : Nat) : Int)
  rw [← Int32.ofInt_tdiv (by omega) (by omega) (by omega) (by omega), Int.ofNat_tdiv]
theorem pos_z (v : Int32) : ∃ m : Nat, m < 2147483648 ∧ v &&& (2147483647 : Int32) = zI m := by
  have h0 : tb (v &&& (2147483647 : Int32)) 31 = false := by
    rw [tb_and, show tb (2147483647 : Int32) 31 = false by decide, Bool.and_false]
  have hm : (v &&& (2147483647 : Int32)).toBitVec.msb = false := by
    rw [BitVec.msb_eq_getLsbD_last]
    exact h0
  have hi : (v &&& (2147483647 : Int32)).toInt = ((v &&& (2147483647 : Int32)).toBitVec.toNat : Int) := BitVec.toInt_eq_toNat_of_msb hm
  have hl := Int32.toInt_lt (v &&& (2147483647 : Int32))
  refine ⟨(v &&& (2147483647 : Int32)).toBitVec.toNat, by omega, ?_⟩
  rw [← hi]
  exact z_of _
theorem nz_ne {v : Int32} (h : ¬ v = 0) {α : Type} {K : Option α} : chk (nzI v) K = K := by
  refine chk_t ?_
  unfold nzI
  rw [decide_eq_false h]
  rfl
theorem z_ne0 {n : Nat} (h : 0 < n) (h2 : n < 2147483648) : ¬ zI (n : Int) = 0 := fun e => by
  have := (z_eq (a := (n : Int)) (b := 0) (by omega) (by omega) (by decide) (by decide)).mp e
  omega
theorem l_some {S : Sg} {v : Int32} {n : Nat} (h : 0 < n) (h2 : n < 65536) : ∃ r : Nat, r < n ∧ F_L_some S v (zI n) = some (zI r) := by
  obtain ⟨m, hm, e⟩ := pos_z v
  refine ⟨m % n, Nat.mod_lt _ h, ?_⟩
  have h3 : m / n * n + m % n = m := by rw [Nat.mul_comm]; exact Nat.div_add_mod m n
  rw [F_L_some, e, nz_ne (z_ne0 h (by omega)), z_divN hm (by omega), z_mul, z_sub]
  refine congrArg (fun q => some (zI q)) ?_
  rw [← Int.natCast_mul]
  omega
theorem l_cell {Ln : Nat} {xs : Nat → Int32} {S : Sg} {j : Nat} (hL : Ln ≤ 260) (hj : j < 1000) : ∃ v, F_L_cell Ln xs S (zI j) = some v := by
  have e : Int32.ofNat Ln = zI Ln := rfl
  rw [F_L_cell, e]
  by_cases h : Ln ≤ j
  · rw [if_le_t h (by omega)]
    exact ⟨_, rfl⟩
  · rw [if_le_f (by omega) (by omega), chk_N (by omega) (by omega)]
    exact ⟨_, rfl⟩
theorem bit_z {s : Int32} {n : Nat} (hn : n < 32) : (s >>> (zI n &&& 31)) &&& 1 = bI (tb s n) := by
  cases e : tb s n
  · exact (has_f hn).mpr e
  · exact (has_1 hn).mpr e
theorem l_size {S : Sg} (s : Int32) : F_L_size S s = some (zI (pc s)) := by
  have k := loopE (fun n x => T_L_size_4 S s n (zI (cnt x (tb s))) (zI x)) 8 (some (zI (cnt 8 (tb s)))) (by decide) (fun n => by
    simp only [T_L_size_4]
    rw [show (8 : Int32) = zI ((8 : Nat) : Int) from rfl, if_le_t (by omega) (by omega)]) (fun n x hx => by
    simp only [T_L_size_4, nm]
    rw [show (8 : Int32) = zI ((8 : Nat) : Int) from rfl, if_le_f hx (by omega), bit_z (by omega), cnt_b, zSu])
  rw [F_L_size]
  exact (bd_t (K := fun x1 => some x1) k).trans rfl
/-! who hears, bit by bit -/
theorem hb_f {a : AS} (w : WG a) {x : Nat} {s : Int32} (hx : x < aP a) : tb (hb a x s) x = false := by
  rw [tb_hb w hx]
  unfold hbP
  rw [decide_eq_false (fun h => h rfl)]
  rfl
theorem hb_s {a : AS} (w : WG a) {x j : Nat} {s : Int32} (hj : tb s j = true) : tb (hb a x s) j = false := by
  rcases Nat.lt_or_ge j (aP a) with h | h
  · rw [tb_hb w h]
    unfold hbP
    rw [hj, Bool.not_true, Bool.and_false, Bool.false_and]
  · exact hb_sub w j h
theorem lou_mono {a : AS} {v r : Nat} {s t : Int32} (h : ∀ j, tb t j = true → tb s j = true) : ∀ n, lou a v r t n ≤ lou a v r s n
  | 0 => Int.le_refl _
  | n + 1 => by
    have ih := lou_mono (a := a) (v := v) (r := r) h n
    rw [lou, lou]
    by_cases q : tb t n = true
    · rw [if_pos q, if_pos (h n q)]
      split <;> split <;> omega
    · rw [if_neg q]
      split
      · split <;> omega
      · exact ih
theorem hea_mono {k : Nat} {c m n : Int} (h : m ≤ n) (h2 : hea k c n = true) : hea k c m = true := by
  unfold hea at h2 ⊢
  by_cases q : k = 5
  · rw [if_pos q, decide_eq_true_eq] at h2 ⊢; omega
  · rw [if_neg q, Bool.and_eq_true, decide_eq_true_eq, decide_eq_true_eq] at h2 ⊢; omega
theorem hb_mono {a : AS} (w : WG a) {x j : Nat} {s t : Int32} (h : ∀ j, tb t j = true → tb s j = true) (hj : tb (hb a x s) j = true) : tb (hb a x t) j = true := by
  rcases Nat.lt_or_ge j (aP a) with q | q
  · rw [tb_hb w q] at hj ⊢
    rw [hbP_t] at hj ⊢
    refine ⟨hj.1, ?_, hea_mono (lou_mono h _) hj.2.2⟩
    cases e : tb t j
    · rfl
    · rw [h j e] at hj; cases hj.2.1
  · rw [hb_sub w j q] at hj; cases hj
theorem and0 {s t : Int32} (h : ∀ j, tb s j = true → tb t j = false) : s &&& t = 0 := tb_ext fun j _ => by
  rw [tb_and, tb_0]
  cases e : tb s j
  · rfl
  · rw [h j e]; rfl
theorem andn0 {s t : Int32} (h : ∀ j, tb s j = true → tb t j = true) : s &&& (t ^^^ (-1 : Int32)) = 0 := tb_ext fun j hj => by
  rw [tb_and, tb_0, tb_not hj]
  cases e : tb s j
  · rfl
  · rw [h j e]; rfl
theorem shr_ne {s : Int32} {n : Nat} (hn : n < 32) (h : tb s n = true) : ¬ s >>> (zI n &&& 31) = 0 := fun e => by
  rw [shr_0 hn e n (Nat.le_refl _)] at h
  cases h
theorem one_z {P : Nat} (h : P < 31) : (1 : Int32) <<< (zI P &&& 31) = zI ((2 ^ P : Nat) : Int) := pow_z h
