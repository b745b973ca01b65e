def zI (z : Int) : Int32 := Int32.ofInt z
theorem z_toInt {z : Int} (h1 : -2147483648 ≤ z) (h2 : z < 2147483648) : (zI z).toInt = z := Int32.toInt_ofInt_of_le h1 h2
theorem z_of (x : Int32) : x = zI x.toInt := (Int32.ofInt_toInt x).symm
theorem z_add (a b : Int) : zI a + zI b = zI (a + b) := (Int32.ofInt_add a b).symm
theorem z_sub (a b : Int) : zI a - zI b = zI (a - b) := (Int32.ofInt_sub a b).symm
theorem z_mul (a b : Int) : zI a * zI b = zI (a * b) := (Int32.ofInt_mul a b).symm
theorem z_neg (a : Int) : -zI a = zI (-a) := (Int32.ofInt_neg a).symm
theorem z_lt {a b : Int} (h1 : -2147483648 ≤ a) (h2 : a < 2147483648) (h3 : -2147483648 ≤ b) (h4 : b < 2147483648) : zI a < zI b ↔ a < b := by rw [Int32.lt_iff_toInt_lt, z_toInt h1 h2, z_toInt h3 h4]
theorem z_le {a b : Int} (h1 : -2147483648 ≤ a) (h2 : a < 2147483648) (h3 : -2147483648 ≤ b) (h4 : b < 2147483648) : zI a ≤ zI b ↔ a ≤ b := by rw [Int32.le_iff_toInt_le, z_toInt h1 h2, z_toInt h3 h4]
theorem z_eq {a b : Int} (h1 : -2147483648 ≤ a) (h2 : a < 2147483648) (h3 : -2147483648 ≤ b) (h4 : b < 2147483648) : zI a = zI b ↔ a = b := by
  refine ⟨fun h => ?_, fun h => by rw [h]⟩
  have h5 := congrArg Int32.toInt h
  rw [z_toInt h1 h2, z_toInt h3 h4] at h5
  exact h5
theorem z_0 : (0 : Int32) = zI 0 := rfl
theorem z_1 : (1 : Int32) = zI 1 := rfl
theorem z_tn {z : Int} (h1 : 0 ≤ z) (h2 : z < 2147483648) : (zI z).toNatClampNeg = z.toNat := Int32.toNatClampNeg_ofInt_of_le (by omega) h2
theorem z_tnN {n : Nat} (h : n < 2147483648) : (zI n).toNatClampNeg = n := by rw [z_tn (by omega) (by omega)]; exact Int.toNat_natCast n
theorem inB_N {n m : Nat} (h : n < m) (hm : m ≤ 2147483648) : inB (zI n) m = true := by
  refine inB_of ?_ ?_
  · rw [z_0, z_lt (by omega) (by omega) (by omega) (by omega)]
    omega
  · rw [z_tnN (by omega)]
    exact h
theorem inB_z {z : Int} {m : Nat} (h0 : 0 ≤ z) (h : z < m) (hm : m ≤ 2147483648) : inB (zI z) m = true := by
  obtain ⟨n, rfl⟩ := Int.eq_ofNat_of_zero_le h0
  exact inB_N (by omega) hm
theorem chk_t {α : Type} {b : Bool} {K : Option α} (h : b = true) : chk b K = K := by subst h; rfl
theorem bd_t {α β : Type} {A : Option α} {K : α → Option β} {a : α} (h : A = some a) : bd A K = K a := by subst h; rfl
theorem nm_t {α β : Type} (a : α) (K : α → Option β) : nm a K = K a := rfl
theorem bd_some {α β : Type} (a : α) (K : α → Option β) : bd (some a) K = K a := rfl
theorem bd_ite {α β : Type} {c : Prop} {hc : Decidable c} {a b : Option α} {K : α → Option β} : bd (@ite _ c hc a b) K = @ite _ c hc (bd a K) (bd b K) := by
  by_cases h : c
  · rw [if_pos h, if_pos h]
  · rw [if_neg h, if_neg h]
def tb (s : Int32) (j : Nat) : Bool := s.toBitVec.getLsbD j
theorem tb_ext {s t : Int32} (h : ∀ j, j < 32 → tb s j = tb t j) : s = t := Int32.toBitVec.inj (BitVec.eq_of_getLsbD_eq h)
theorem tb_and (s t : Int32) (j : Nat) : tb (s &&& t) j = (tb s j && tb t j) := BitVec.getLsbD_and
theorem tb_or (s t : Int32) (j : Nat) : tb (s ||| t) j = (tb s j || tb t j) := BitVec.getLsbD_or
theorem tb_xor (s t : Int32) (j : Nat) : tb (s ^^^ t) j = (tb s j ^^ tb t j) := BitVec.getLsbD_xor
theorem tb_0 (j : Nat) : tb 0 j = false := BitVec.getLsbD_zero
theorem tb_m1 {j : Nat} (h : j < 32) : tb (-1) j = true := by
  have : ∀ j, j < 32 → tb (-1) j = true := by decide +kernel
  exact this j h
theorem tb_not {s : Int32} {j : Nat} (h : j < 32) : tb (s ^^^ (-1)) j = !tb s j := by rw [tb_xor, tb_m1 h, Bool.xor_true]
theorem tb_one {n j : Nat} (hn : n < 32) (hj : j < 32) : tb (1 <<< (zI n &&& 31)) j = decide (j = n) := by
  have : ∀ n : Nat, n < 32 → ∀ j : Nat, j < 32 → tb (1 <<< (zI (n : Int) &&& 31)) j = decide (j = n) := by decide +kernel
  exact this n hn j hj
theorem sh_amt {n : Nat} (hn : n < 32) : ((zI n &&& 31 : Int32).toBitVec.smod 32#32).toNat = n := by
  have : ∀ n : Nat, n < 32 → ((zI (n : Int) &&& 31 : Int32).toBitVec.smod 32#32).toNat = n := by decide +kernel
  exact this n hn
theorem tb_ge {s : Int32} {j : Nat} (h : 32 ≤ j) : tb s j = false := BitVec.getLsbD_of_ge _ _ h
theorem tb_shr {s : Int32} {n j : Nat} (hn : n < 32) (hj : n + j < 32) : tb (s >>> (zI n &&& 31)) j = tb s (n + j) := by
  have e : (s >>> (zI n &&& 31)).toBitVec = s.toBitVec.sshiftRight ((zI n &&& 31 : Int32).toBitVec.smod 32#32).toNat := rfl
  unfold tb
  rw [e, sh_amt hn, BitVec.getLsbD_sshiftRight, if_pos hj]
  simp
  omega
theorem has_f {s : Int32} {n : Nat} (hn : n < 32) : (s >>> (zI n &&& 31)) &&& 1 = 0 ↔ tb s n = false := by
  have e0 := tb_shr (s := s) (j := 0) hn (by omega)
  rw [Nat.add_zero] at e0
  rw [← e0]
  constructor
  · intro h
    have h1 := tb_and (s >>> (zI n &&& 31)) 1 0
    rw [h, tb_0] at h1
    simpa [show tb 1 0 = true from rfl] using h1.symm
  · intro h
    refine tb_ext fun j hj => ?_
    rw [tb_and, tb_0]
    by_cases h0 : j = 0
    · subst h0
      rw [h]
      rfl
    · have : ∀ j, j < 32 → j ≠ 0 → tb 1 j = false := by decide +kernel
      rw [this j hj h0, Bool.and_false]
theorem has_1 {s : Int32} {n : Nat} (hn : n < 32) : (s >>> (zI n &&& 31)) &&& 1 = 1 ↔ tb s n = true := by
  have e0 := tb_shr (s := s) (j := 0) hn (by omega)
  rw [Nat.add_zero] at e0
  rw [← e0]
  constructor
  · intro h
    have h1 := tb_and (s >>> (zI n &&& 31)) 1 0
    rw [h] at h1
    simpa [show tb 1 0 = true from rfl] using h1.symm
  · intro h
    refine tb_ext fun j hj => ?_
    rw [tb_and]
    by_cases h0 : j = 0
    · subst h0
      rw [h]
      rfl
    · have : ∀ j, j < 32 → j ≠ 0 → tb 1 j = false := by decide +kernel
      rw [this j hj h0, Bool.and_false]
theorem shr_0 {s : Int32} {n : Nat} (hn : n < 32) : s >>> (zI n &&& 31) = 0 → ∀ j, n ≤ j → tb s j = false := by
  intro h j hj
  by_cases h32 : j < 32
  · have h1 := tb_shr (s := s) (n := n) (j := j - n) hn (by omega)
    rw [h, tb_0] at h1
    rw [show j = n + (j - n) by omega]
    exact h1.symm
  · exact tb_ge (by omega)
def orU : Nat → (Nat → Bool) → Int32
  | 0, _ => 0
  | n + 1, p => if p n = true then orU n p ||| (1 <<< (zI n &&& 31)) else orU n p
theorem tb_orU {p : Nat → Bool} : ∀ (n : Nat), n ≤ 32 → ∀ j, j < 32 → tb (orU n p) j = (decide (j < n) && p j)
  | 0, _, j, _ => by rw [orU, tb_0]; simp
  | n + 1, hn, j, hj => by
    have ih := tb_orU (p := p) n (by omega) j hj
    rw [orU]
    by_cases hp : p n = true
    · rw [if_pos hp, tb_or, tb_one (by omega) hj, ih]
      by_cases h : j = n
      · subst h
        simp [hp]
      · rcases Nat.lt_or_ge j n with h1 | h1
        · simp [h, h1, Nat.lt_succ_of_lt h1]
        · simp [h, Nat.not_lt.mpr h1, show ¬ j < n + 1 by omega]
    · rw [if_neg hp, ih]
      by_cases h : j = n
      · subst h
        simp [Bool.not_eq_true _ |>.mp hp]
      · rcases Nat.lt_or_ge j n with h1 | h1
        · simp [h1, Nat.lt_succ_of_lt h1]
        · simp [Nat.not_lt.mpr h1, show ¬ j < n + 1 by omega]
theorem orU_congr {p q : Nat → Bool} : ∀ (n : Nat), (∀ j, j < n → p j = q j) → orU n p = orU n q
  | 0, _ => rfl
  | n + 1, h => by rw [orU, orU, h n (by omega), orU_congr n (fun j hj => h j (by omega))]
theorem orU_stop {p : Nat → Bool} {k : Nat} : ∀ (n : Nat), k ≤ n → (∀ j, k ≤ j → j < n → p j = false) → orU n p = orU k p
  | 0, hk, _ => by rw [Nat.le_zero.mp hk]
  | n + 1, hk, h => by
    rcases Nat.lt_or_ge k (n + 1) with h1 | h1
    · rw [orU, h n (by omega) (by omega), if_neg (by decide), orU_stop n (by omega) (fun j h2 h3 => h j h2 (by omega))]
    · rw [show n + 1 = k by omega]
theorem orU_ext {p : Nat → Bool} {n : Nat} {s : Int32} (hn : n ≤ 32) (h : ∀ j, j < 32 → tb s j = (decide (j < n) && p j)) : s = orU n p := tb_ext fun j hj => by rw [tb_orU n hn j hj, h j hj]
theorem loopU {β : Type} (f : Nat → Nat → Option β) (P : Nat) (r : Option β) (hs : ∀ n x, x ≤ P → f (n + 1) x = r ∨ (x < P ∧ f (n + 1) x = f n (x + 1))) : ∀ n x, x ≤ P → P - x < n → f n x = r
  | 0, _, _, h => absurd h (Nat.not_lt_zero _)
  | n + 1, x, hx, h => by
    rcases hs n x hx with h1 | ⟨h1, h2⟩
    · exact h1
    · rw [h2]
      exact loopU f P r hs n (x + 1) h1 (by omega)
theorem FU_lt {P : Nat} (h : P < 20000) : P - 0 < FU := by unfold FU; omega
/-- a loop from 0 up -/
theorem loop0 {β : Type} (f : Nat → Nat → Option β) (P : Nat) (r : Option β) (hP : P < 20000) (hs : ∀ n x, x ≤ P → f (n + 1) x = r ∨ (x < P ∧ f (n + 1) x = f n (x + 1))) : f FU 0 = r := loopU f P r hs FU 0 (Nat.zero_le _) (FU_lt hP)
theorem loopE {β : Type} (f : Nat → Nat → Option β) (P : Nat) (r : Option β) (hP : P < 20000) (hb : ∀ n, f (n + 1) P = r) (hs : ∀ n x, x < P → f (n + 1) x = f n (x + 1)) : f FU 0 = r := loop0 f P r hP (fun n x hx => by
  rcases Nat.lt_or_ge x P with h | h
  · exact .inr ⟨h, hs n x h⟩
  · rw [show x = P by omega]; exact .inl (hb n))
abbrev AS : Type := (Nat → Nat → Nat) × (Nat → Nat → Int32)
def aP (a : AS) : Nat := a.1 0 0
def aW (a : AS) : Nat := a.1 0 1
def aT (a : AS) : Nat := a.1 0 2
def aH (a : AS) : Nat := a.1 0 3
def aL (a : AS) : Nat → Nat := a.1 1
def aK (a : AS) : Nat → Nat := a.1 2
def aR (a : AS) : Nat → Nat := a.1 3
def aS (a : AS) : Nat → Nat := a.1 4
def aE (a : AS) : Nat → Nat := a.1 5
def aX (a : AS) : Nat → Nat := a.1 6
def aY (a : AS) : Nat → Nat := a.1 7
def aB (a : AS) : Nat → Int32 := a.2 0
def aZ (a : AS) : Nat → Int32 := a.2 1
def aN (a : AS) : Nat → Int32 := a.2 2
def aA (a : AS) (h : Nat) : Nat → Int32 := a.2 (3 + h)
def aD (a : AS) : Nat → Nat
  | 0 => 0
  | n + 1 => aD a n + aL a n
/-- no member but those below n -/
def sub (n : Nat) (s : Int32) : Prop := ∀ j, n ≤ j → tb s j = false
def WG (a : AS) : Prop := aP a ≤ 7 ∧ aW a ≤ 6 ∧ (0 < aP a → 0 < aW a) ∧ (∀ j, aL a j ≤ 26) ∧ (∀ x, aK a x < 6) ∧ (∀ x, aR a x ≤ aW a)
def WT (a : AS) : Prop := aT a ≤ 8 ∧ ∀ k, k < aT a → aS a k < aP a ∧ aE a k < aP a ∧ aS a k ≠ aE a k ∧ sub (aP a) (aB a k) ∧ tb (aB a k) (aS a k) = false ∧ tb (aB a k) (aE a k) = false
def WH (a : AS) : Prop := aH a ≤ 40 ∧ (∀ h, h < aH a → aX a h < aP a ∧ aY a h < 8 ∧ sub (aP a) (aZ a h) ∧ ∀ t, sub (aP a) (aA a h t)) ∧ (∀ t, sub (aP a) (aN a t)) ∧ ∀ j, aL a j ≤ 20
def lb (s : Int64) (j : Nat) : Bool := s.toBitVec.getLsbD j
def pk (s : Int64) (f : Nat → Int32) : Prop := ∀ t j, t < 8 → j < 8 → lb s (8 * t + j) = tb (f t) j
def CG (i : Nat) (S : Sg) (a : AS) : Prop := S.1 (sb i) 9 = zI (aP a) ∧ S.1 (sb i) 8 = zI (aW a) ∧ (∀ j, j < aW a → S.1 (sb i + 1) j = zI (aL a j)) ∧ (∀ r, r ≤ aW a → S.1 (sb i + 2) r = zI (aD a r)) ∧ (∀ x, x < aP a → S.1 (sb i + 3) x = zI (aK a x)) ∧ (∀ x, x < aP a → S.1 (sb i + 4) x = zI (aR a x))
def CT (i : Nat) (S : Sg) (a : AS) : Prop := S.1 (sb i) 10 = zI (aT a) ∧ (∀ k, k < aT a → S.1 (sb i + 5) k = zI (aS a k)) ∧ (∀ k, k < aT a → S.1 (sb i + 6) k = zI (aE a k)) ∧ (∀ k, k < aT a → S.1 (sb i + 7) k = aB a k)
def CH (i : Nat) (S : Sg) (a : AS) : Prop := S.1 (sb i + 8) 5 = zI (aH a) ∧ (∀ h, h < aH a → S.1 (sb i + 9) h = zI (aX a h)) ∧ (∀ h, h < aH a → S.1 (sb i + 10) h = zI (aY a h)) ∧ (∀ h, h < aH a → S.1 (sb i + 11) h = aZ a h) ∧ (∀ h, h < aH a → pk (S.2 (sb i + 12) h) (aA a h)) ∧ pk (S.2 (sb i + 8) 4) (aN a)
def sk (v k : Nat) : Int := (skv v k).toInt
theorem sk_z (v k : Nat) : skv v k = zI (sk v k) := z_of _
theorem sk_b {v k : Nat} (hv : v < 5) (hk : k < 6) : 0 ≤ sk v k ∧ sk v k ≤ 119 := by
  have : ∀ v, v < 5 → ∀ k, k < 6 → 0 ≤ sk v k ∧ sk v k ≤ 119 := by decide
  exact this v hv k hk
theorem sk_b2 {v k : Nat} (hv : 1 < v) (hv2 : v < 4) (hk : k < 6) : 2 ≤ sk v k ∧ sk v k ≤ 10 := by
  have : ∀ v, v < 4 → 1 < v → ∀ k, k < 6 → 2 ≤ sk v k ∧ sk v k ≤ 10 := by decide
  exact this v hv2 hv k hk
theorem sk_b4 {k : Nat} (hk : k < 6) : 0 ≤ sk 4 k ∧ sk 4 k ≤ 4 := by
  have : ∀ k, k < 6 → 0 ≤ sk 4 k ∧ sk 4 k ≤ 4 := by decide
  exact this k hk
def dst (a : AS) (r q : Nat) : Int := if (aD a r : Int) ≤ aD a q then aD a q - aD a r else aD a r - aD a q
def com (a : AS) (r f : Nat) : Int := sk 2 (aK a f) - dst a r (aR a f)
def lou (a : AS) (v r : Nat) (s : Int32) : Nat → Int
  | 0 => 0
  | n + 1 => if tb s n = true then (if lou a v r s n < sk v (aK a n) - dst a r (aR a n) then sk v (aK a n) - dst a r (aR a n) else lou a v r s n) else lou a v r s n
def son (a : AS) (v r : Nat) (s : Int32) : Int := lou a v r s (aP a)
def hea (k : Nat) (c n : Int) : Bool := if k = 5 then decide (n ≤ c) else decide (n < c) && decide (sk 4 k ≤ c)
def hbP (a : AS) (f : Nat) (s : Int32) (n : Nat → Int) (h : Nat) : Bool := decide (h ≠ f) && !tb s h && hea (aK a h) (com a (aR a h) f) (n h)
def hb (a : AS) (f : Nat) (s : Int32) : Int32 := orU (aP a) (hbP a f s (fun h => son a 3 (aR a h) s))
theorem aD_le {a : AS} (w : ∀ j, aL a j ≤ 26) : ∀ n, aD a n ≤ 26 * n
  | 0 => Nat.le_refl _
  | n + 1 => by have := aD_le w n; have := w n; rw [aD]; omega
theorem dst_b {a : AS} (w : WG a) {r q : Nat} (hr : r ≤ aW a) (hq : q ≤ aW a) : 0 ≤ dst a r q ∧ dst a r q ≤ 156 := by
  obtain ⟨wP, wW, wPW, wL, wK, wR⟩ := w
  have h1 := aD_le wL r
  have h2 := aD_le wL q
  unfold dst
  split <;> omega
theorem com_b {a : AS} (w : WG a) {r f : Nat} (hr : r ≤ aW a) : -156 ≤ com a r f ∧ com a r f ≤ 10 := by
  have h1 := dst_b w hr (w.2.2.2.2.2 f)
  have h2 := sk_b2 (v := 2) (by decide) (by decide) (w.2.2.2.2.1 f)
  unfold com
  omega
theorem lou_b {a : AS} (w : WG a) {v r : Nat} {s : Int32} (hv : 1 < v) (hv2 : v < 4) (hr : r ≤ aW a) : ∀ n, 0 ≤ lou a v r s n ∧ lou a v r s n ≤ 10
  | 0 => by rw [lou]; exact ⟨by decide, by decide⟩
  | n + 1 => by
    have ih := lou_b w (v := v) (s := s) hv hv2 hr n
    have h1 := dst_b w hr (w.2.2.2.2.2 n)
    have h2 := sk_b2 hv hv2 (w.2.2.2.2.1 n)
    rw [lou]
    split
    · split <;> omega
    · exact ih
theorem son_b {a : AS} (w : WG a) {v r : Nat} {s : Int32} (hv : 1 < v) (hv2 : v < 4) (hr : r ≤ aW a) : 0 ≤ son a v r s ∧ son a v r s ≤ 10 := lou_b w hv hv2 hr _
theorem lou_stop {a : AS} {v r : Nat} {s : Int32} {k : Nat} (h : ∀ j, k ≤ j → tb s j = false) : ∀ n, k ≤ n → lou a v r s n = lou a v r s k
  | 0, hk => by rw [Nat.le_zero.mp hk]
  | n + 1, hk => by
    rcases Nat.lt_or_ge k (n + 1) with h1 | h1
    · rw [lou, h n (by omega), if_neg (by decide), lou_stop h n (by omega)]
    · rw [show n + 1 = k by omega]
theorem chk_N {α : Type} {n m : Nat} {K : Option α} (h : n < m) (hm : m ≤ 2147483648) : chk (inB (zI n) m) K = K := chk_t (inB_N h hm)
theorem chk_Z {α : Type} {z : Int} {m : Nat} {K : Option α} (h0 : 0 ≤ z) (h : z < m) (hm : m ≤ 2147483648) : chk (inB (zI z) m) K = K := chk_t (inB_z h0 h hm)
theorem zSu (n : Nat) : zI n + 1 = zI ((n + 1 : Nat) : Int) := by rw [z_1, z_add]; rfl
theorem zN0 : (0 : Int32) = zI ((0 : Nat) : Int) := rfl
theorem nle {a b : Int32} (h : b < a) : ¬ a ≤ b := Int32.not_le.mpr h
theorem z_nle {m n : Nat} (h : n < m) (hm : m < 2147483648) : ¬ zI m ≤ zI n := by rw [z_le (by omega) (by omega) (by omega) (by omega)]; omega
theorem z_yle {m n : Nat} (h : m ≤ n) (hm : n < 2147483648) : zI m ≤ zI n := by rw [z_le (by omega) (by omega) (by omega) (by omega)]; omega
theorem if_le_f {α : Type} {m n : Nat} {A B : α} (h : n < m) (hm : m < 2147483648) : (if zI m ≤ zI n then A else B) = B := if_neg (z_nle h hm)
theorem if_le_t {α : Type} {m n : Nat} {A B : α} (h : m ≤ n) (hm : n < 2147483648) : (if zI m ≤ zI n then A else B) = A := if_pos (z_yle h hm)
theorem some_ite {α : Type} {c : Prop} {hc : Decidable c} {a b : α} : (@ite _ c hc (some a) (some b)) = some (@ite _ c hc a b) := by by_cases h : c <;> simp [h]
theorem z_ite {c : Prop} {hc : Decidable c} {a b : Int} : (@ite _ c hc (zI a) (zI b)) = zI (@ite _ c hc a b) := by by_cases h : c <;> simp [h]
