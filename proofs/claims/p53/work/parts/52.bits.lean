def cnt : Nat → (Nat → Bool) → Nat
  | 0, _ => 0
  | n + 1, p => if p n = true then cnt n p + 1 else cnt n p
def pc (s : Int32) : Nat := cnt 8 (tb s)
theorem cnt_le {p : Nat → Bool} : ∀ n, cnt n p ≤ n
  | 0 => Nat.le_refl _
  | n + 1 => by have := cnt_le (p := p) n; rw [cnt]; split <;> omega
theorem cnt_mono {p q : Nat → Bool} : ∀ n, (∀ j, j < n → p j = true → q j = true) → cnt n p ≤ cnt n q
  | 0, _ => Nat.le_refl _
  | n + 1, h => by
    have ih := cnt_mono n (fun j hj => h j (by omega))
    rw [cnt, cnt]
    by_cases hp : p n = true
    · rw [if_pos hp, if_pos (h n (by omega) hp)]; omega
    · rw [if_neg hp]; split <;> omega
theorem pc_le (s : Int32) : pc s ≤ 8 := cnt_le 8
theorem pc_mono {s t : Int32} (h : ∀ j, tb s j = true → tb t j = true) : pc s ≤ pc t := cnt_mono 8 (fun j _ => h j)
theorem tb_z {n j : Nat} (hn : n < 2147483648) : tb (zI n) j = n.testBit j := by
  have e : (zI (n : Int)).toBitVec = BitVec.ofNat 32 n := by
    show BitVec.ofInt 32 (n : Int) = _
    exact BitVec.ofInt_natCast ..
  unfold tb
  rw [e, BitVec.getLsbD_ofNat]
  rcases Nat.lt_or_ge j 32 with h | h
  · simp [h]
  · rw [Nat.testBit_lt_two_pow (Nat.lt_of_lt_of_le (by omega : n < 2 ^ 32) (Nat.pow_le_pow_right (by decide) h))]
    simp
theorem sub_z {m : Nat} {s : Int32} (hm : m < 31) (h : sub m s) : ∃ n : Nat, n < 2 ^ m ∧ s = zI n := by
  have h1 : s.toBitVec.toNat < 2 ^ m := by
    refine Nat.lt_pow_two_of_testBit _ (fun j hj => ?_)
    exact h j hj
  have h2 : (2 : Nat) ^ m ≤ 2 ^ 30 := Nat.pow_le_pow_right (by decide) (by omega)
  refine ⟨s.toBitVec.toNat, h1, ?_⟩
  refine tb_ext fun j _ => ?_
  rw [tb_z (by omega)]
  rfl
theorem z_sub_ {m n : Nat} (hm : m < 31) (h : n < 2 ^ m) : sub m (zI n) := fun j hj => by
  have h2 : (2 : Nat) ^ m ≤ 2 ^ 30 := Nat.pow_le_pow_right (by decide) (by omega)
  rw [tb_z (by omega)]
  exact Nat.testBit_lt_two_pow (Nat.lt_of_lt_of_le h (Nat.pow_le_pow_right (by decide) hj))
theorem sub_mono {m n : Nat} {s : Int32} (h : m ≤ n) (hs : sub m s) : sub n s := fun j hj => hs j (by omega)
theorem sub_orU {n : Nat} {p : Nat → Bool} (hn : n ≤ 31) : sub n (orU n p) := fun j hj => by
  rcases Nat.lt_or_ge j 32 with h | h
  · rw [tb_orU n (by omega) j h, decide_eq_false (by omega)]; rfl
  · exact tb_ge h
theorem sub_and {n : Nat} {s t : Int32} (h : sub n s) : sub n (s &&& t) := fun j hj => by rw [tb_and, h j hj]; rfl
theorem sub_or {n : Nat} {s t : Int32} (h : sub n s) (h2 : sub n t) : sub n (s ||| t) := fun j hj => by rw [tb_or, h j hj, h2 j hj]; rfl
theorem sub_one {n k : Nat} (h : k < n) (hn : n ≤ 31) : sub n ((1 : Int32) <<< (zI k &&& 31)) := fun j hj => by
  rcases Nat.lt_or_ge j 32 with h2 | h2
  · rw [tb_one (by omega) h2, decide_eq_false (by omega)]
  · exact tb_ge h2
theorem sub_0 (n : Nat) : sub n 0 := fun j _ => tb_0 j
theorem sub_ext {n : Nat} {s t : Int32} (hn : n ≤ 32) (hs : sub n s) (ht : sub n t) (h : ∀ j, j < n → tb s j = tb t j) : s = t := tb_ext fun j hj => by
  rcases Nat.lt_or_ge j n with h2 | h2
  · exact h j h2
  · rw [hs j h2, ht j h2]
/-- everyone -/
theorem all_z {P : Nat} (h : P < 31) : ((1 : Int32) <<< (zI P &&& 31)) - 1 = zI ((2 ^ P - 1 : Nat) : Int) := by
  have : ∀ P : Nat, P < 31 → ((1 : Int32) <<< (zI (P : Int) &&& 31)) - 1 = zI ((2 ^ P - 1 : Nat) : Int) := by decide +kernel
  exact this P h
theorem pow_z {P : Nat} (h : P < 31) : ((1 : Int32) <<< (zI P &&& 31)) = zI ((2 ^ P : Nat) : Int) := by
  have : ∀ P : Nat, P < 31 → ((1 : Int32) <<< (zI (P : Int) &&& 31)) = zI ((2 ^ P : Nat) : Int) := by decide +kernel
  exact this P h
theorem tb_all {P j : Nat} (h : P < 31) : tb (((1 : Int32) <<< (zI P &&& 31)) - 1) j = decide (j < P) := by
  rw [all_z h]
  have h2 : (2 : Nat) ^ P ≤ 2 ^ 30 := Nat.pow_le_pow_right (by decide) (by omega)
  rw [tb_z (by omega), Nat.testBit_two_pow_sub_one]
theorem pow_le {P m : Nat} (h : P ≤ m) : 2 ^ P ≤ 2 ^ m := Nat.pow_le_pow_right (by decide) h
def S00 : Sg := (fun _ _ => 0, fun _ _ => 0)
theorem f_bc {S : Sg} {s : Int32} (h : sub 8 s) : F_J6_bitCount_0f7a4 S s = some (zI (pc s)) := by
  obtain ⟨n, hn, rfl⟩ := sub_z (by decide) h
  have : ∀ n : Nat, n < 256 → F_J6_bitCount_0f7a4 S00 (zI n) = some (zI (pc (zI n))) := by decide +kernel
  exact this n hn
