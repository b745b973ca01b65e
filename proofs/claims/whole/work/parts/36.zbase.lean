/-! small numbers: zI z is the int of the whole number z -/
def zI (z : Int) : Int32 := Int32.ofInt z
theorem z_toInt {z : Int} (h1 : -2147483648 ≤ z) (h2 : z < 2147483648) : (zI z).toInt = z := Int32.toInt_ofInt_of_le h1 h2
theorem z_of (x : Int32) : x = zI x.toInt := (Int32.ofInt_toInt x).symm
theorem z_add (a b : Int) : zI a + zI b = zI (a + b) := (Int32.ofInt_add a b).symm
theorem z_sub (a b : Int) : zI a - zI b = zI (a - b) := (Int32.ofInt_sub a b).symm
theorem z_mul (a b : Int) : zI a * zI b = zI (a * b) := (Int32.ofInt_mul a b).symm
theorem z_neg (a : Int) : -zI a = zI (-a) := (Int32.ofInt_neg a).symm
theorem z_lt {a b : Int} (h1 : -2147483648 ≤ a) (h2 : a < 2147483648) (h3 : -2147483648 ≤ b) (h4 : b < 2147483648) : zI a < zI b ↔ a < b := by rw [Int32.lt_iff_toInt_lt, z_toInt h1 h2, z_toInt h3 h4]
theorem z_le {a b : Int} (h1 : -2147483648 ≤ a) (h2 : a < 2147483648) (h3 : -2147483648 ≤ b) (h4 : b < 2147483648) : zI a ≤ zI b ↔ a ≤ b := by rw [Int32.le_iff_toInt_le, z_toInt h1 h2, z_toInt h3 h4]
theorem z_eq {a b : Int} (h1 : -2147483648 ≤ a) (h2 : a < 2147483648) (h3 : -2147483648 ≤ b) (h4 : b < 2147483648) : zI a = zI b ↔ a = b := by
  refine ⟨fun h => ?_, fun h => by rw [h]⟩
  have h5 := congrArg Int32.toInt h
  rw [z_toInt h1 h2, z_toInt h3 h4] at h5
  exact h5
theorem z_0 : (0 : Int32) = zI 0 := rfl
theorem z_1 : (1 : Int32) = zI 1 := rfl
theorem z_tn {z : Int} (h1 : 0 ≤ z) (h2 : z < 2147483648) : (zI z).toNatClampNeg = z.toNat := Int32.toNatClampNeg_ofInt_of_le (by omega) h2
theorem z_tnN {n : Nat} (h : n < 2147483648) : (zI n).toNatClampNeg = n := by rw [z_tn (by omega) (by omega)]; exact Int.toNat_natCast n
theorem inB_N {n m : Nat} (h : n < m) (hm : m ≤ 2147483648) : inB (zI n) m = true := by
  refine inB_of ?_ ?_
  · rw [z_0, z_lt (by omega) (by omega) (by omega) (by omega)]
    omega
  · rw [z_tnN (by omega)]
    exact h
theorem inB_z {z : Int} {m : Nat} (h0 : 0 ≤ z) (h : z < m) (hm : m ≤ 2147483648) : inB (zI z) m = true := by
  obtain ⟨n, rfl⟩ := Int.eq_ofNat_of_zero_le h0
  exact inB_N (by omega) hm
theorem chk_t {α : Type} {b : Bool} {K : Option α} (h : b = true) : chk b K = K := by subst h; rfl
theorem bd_t {α β : Type} {A : Option α} {K : α → Option β} {a : α} (h : A = some a) : bd A K = K a := by subst h; rfl
theorem nm_t {α β : Type} (a : α) (K : α → Option β) : nm a K = K a := rfl
theorem bd_some {α β : Type} (a : α) (K : α → Option β) : bd (some a) K = K a := rfl
theorem bd_ite {α β : Type} {c : Prop} {hc : Decidable c} {a b : Option α} {K : α → Option β} : bd (@ite _ c hc a b) K = @ite _ c hc (bd a K) (bd b K) := by
  by_cases h : c
  · rw [if_pos h, if_pos h]
  · rw [if_neg h, if_neg h]
/-! bits -/
def tb (s : Int32) (j : Nat) : Bool := s.toBitVec.getLsbD j
theorem tb_ext {s t : Int32} (h : ∀ j, j < 32 → tb s j = tb t j) : s = t := Int32.toBitVec.inj (BitVec.eq_of_getLsbD_eq h)
theorem tb_and (s t : Int32) (j : Nat) : tb (s &&& t) j = (tb s j && tb t j) := BitVec.getLsbD_and
theorem tb_or (s t : Int32) (j : Nat) : tb (s ||| t) j = (tb s j || tb t j) := BitVec.getLsbD_or
theorem tb_xor (s t : Int32) (j : Nat) : tb (s ^^^ t) j = (tb s j ^^ tb t j) := BitVec.getLsbD_xor
theorem tb_0 (j : Nat) : tb 0 j = false := BitVec.getLsbD_zero
theorem tb_m1 {j : Nat} (h : j < 32) : tb (-1) j = true := by
  have : ∀ j, j < 32 → tb (-1) j = true := by decide +kernel
  exact this j h
theorem tb_not {s : Int32} {j : Nat} (h : j < 32) : tb (s ^^^ (-1)) j = !tb s j := by rw [tb_xor, tb_m1 h, Bool.xor_true]
theorem tb_one {n j : Nat} (hn : n < 32) (hj : j < 32) : tb (1 <<< (zI n &&& 31)) j = decide (j = n) := by
  have : ∀ n : Nat, n < 32 → ∀ j : Nat, j < 32 → tb (1 <<< (zI (n : Int) &&& 31)) j = decide (j = n) := by decide +kernel
  exact this n hn j hj
theorem sh_amt {n : Nat} (hn : n < 32) : ((zI n &&& 31 : Int32).toBitVec.smod 32#32).toNat = n := by
  have : ∀ n : Nat, n < 32 → ((zI (n : Int) &&& 31 : Int32).toBitVec.smod 32#32).toNat = n := by decide +kernel
  exact this n hn
theorem tb_ge {s : Int32} {j : Nat} (h : 32 ≤ j) : tb s j = false := BitVec.getLsbD_of_ge _ _ h
theorem tb_shr {s : Int32} {n j : Nat} (hn : n < 32) (hj : n + j < 32) : tb (s >>> (zI n &&& 31)) j = tb s (n + j) := by
  have e : (s >>> (zI n &&& 31)).toBitVec = s.toBitVec.sshiftRight ((zI n &&& 31 : Int32).toBitVec.smod 32#32).toNat := rfl
  unfold tb
  rw [e, sh_amt hn, BitVec.getLsbD_sshiftRight, if_pos hj]
  simp
  omega
theorem has_f {s : Int32} {n : Nat} (hn : n < 32) : (s >>> (zI n &&& 31)) &&& 1 = 0 ↔ tb s n = false := by
  have e0 := tb_shr (s := s) (j := 0) hn (by omega)
  rw [Nat.add_zero] at e0
  rw [← e0]
  constructor
  · intro h
    have h1 := tb_and (s >>> (zI n &&& 31)) 1 0
    rw [h, tb_0] at h1
    simpa [show tb 1 0 = true from rfl] using h1.symm
  · intro h
    refine tb_ext fun j hj => ?_
    rw [tb_and, tb_0]
    by_cases h0 : j = 0
    · subst h0
      rw [h]
      rfl
    · have : ∀ j, j < 32 → j ≠ 0 → tb 1 j = false := by decide +kernel
      rw [this j hj h0, Bool.and_false]
theorem has_1 {s : Int32} {n : Nat} (hn : n < 32) : (s >>> (zI n &&& 31)) &&& 1 = 1 ↔ tb s n = true := by
  have e0 := tb_shr (s := s) (j := 0) hn (by omega)
  rw [Nat.add_zero] at e0
  rw [← e0]
  constructor
  · intro h
    have h1 := tb_and (s >>> (zI n &&& 31)) 1 0
    rw [h] at h1
    simpa [show tb 1 0 = true from rfl] using h1.symm
  · intro h
    refine tb_ext fun j hj => ?_
    rw [tb_and]
    by_cases h0 : j = 0
    · subst h0
      rw [h]
      rfl
    · have : ∀ j, j < 32 → j ≠ 0 → tb 1 j = false := by decide +kernel
      rw [this j hj h0, Bool.and_false]
theorem shr_0 {s : Int32} {n : Nat} (hn : n < 32) : s >>> (zI n &&& 31) = 0 → ∀ j, n ≤ j → tb s j = false := by
  intro h j hj
  by_cases h32 : j < 32
  · have h1 := tb_shr (s := s) (n := n) (j := j - n) hn (by omega)
    rw [h, tb_0] at h1
    rw [show j = n + (j - n) by omega]
    exact h1.symm
  · exact tb_ge (by omega)
/-! sets that a loop puts together -/
def orU : Nat → (Nat → Bool) → Int32
  | 0, _ => 0
  | n + 1, p => if p n = true then orU n p ||| (1 <<< (zI n &&& 31)) else orU n p
theorem tb_orU {p : Nat → Bool} : ∀ (n : Nat), n ≤ 32 → ∀ j, j < 32 → tb (orU n p) j = (decide (j < n) && p j)
  | 0, _, j, _ => by rw [orU, tb_0]; simp
  | n + 1, hn, j, hj => by
    have ih := tb_orU (p := p) n (by omega) j hj
    rw [orU]
    by_cases hp : p n = true
    · rw [if_pos hp, tb_or, tb_one (by omega) hj, ih]
      by_cases h : j = n
      · subst h
        simp [hp]
      · rcases Nat.lt_or_ge j n with h1 | h1
        · simp [h, h1, Nat.lt_succ_of_lt h1]
        · simp [h, Nat.not_lt.mpr h1, show ¬ j < n + 1 by omega]
    · rw [if_neg hp, ih]
      by_cases h : j = n
      · subst h
        simp [Bool.not_eq_true _ |>.mp hp]
      · rcases Nat.lt_or_ge j n with h1 | h1
        · simp [h1, Nat.lt_succ_of_lt h1]
        · simp [Nat.not_lt.mpr h1, show ¬ j < n + 1 by omega]
theorem orU_congr {p q : Nat → Bool} : ∀ (n : Nat), (∀ j, j < n → p j = q j) → orU n p = orU n q
  | 0, _ => rfl
  | n + 1, h => by rw [orU, orU, h n (by omega), orU_congr n (fun j hj => h j (by omega))]
theorem orU_stop {p : Nat → Bool} {k : Nat} : ∀ (n : Nat), k ≤ n → (∀ j, k ≤ j → j < n → p j = false) → orU n p = orU k p
  | 0, hk, _ => by rw [Nat.le_zero.mp hk]
  | n + 1, hk, h => by
    rcases Nat.lt_or_ge k (n + 1) with h1 | h1
    · rw [orU, h n (by omega) (by omega), if_neg (by decide), orU_stop n (by omega) (fun j h2 h3 => h j h2 (by omega))]
    · rw [show n + 1 = k by omega]
theorem orU_ext {p : Nat → Bool} {n : Nat} {s : Int32} (hn : n ≤ 32) (h : ∀ j, j < 32 → tb s j = (decide (j < n) && p j)) : s = orU n p := tb_ext fun j hj => by rw [tb_orU n hn j hj, h j hj]
