/-! ===== what both sides compute: a street as numbers ===== -/
theorem loopU {β : Type} (f : Nat → Nat → Option β) (P : Nat) (r : Option β) (hs : ∀ n x, x ≤ P → f (n + 1) x = r ∨ (x < P ∧ f (n + 1) x = f n (x + 1))) : ∀ n x, x ≤ P → P - x < n → f n x = r
  | 0, _, _, h => absurd h (Nat.not_lt_zero _)
  | n + 1, x, hx, h => by
    rcases hs n x hx with h1 | ⟨h1, h2⟩
    · exact h1
    · rw [h2]
      exact loopU f P r hs n (x + 1) h1 (by omega)
theorem FU_lt {P : Nat} (h : P < 20000) : P - 0 < FU := by unfold FU; omega
/-- a loop from 0 up -/
theorem loop0 {β : Type} (f : Nat → Nat → Option β) (P : Nat) (r : Option β) (hP : P < 20000) (hs : ∀ n x, x ≤ P → f (n + 1) x = r ∨ (x < P ∧ f (n + 1) x = f n (x + 1))) : f FU 0 = r := loopU f P r hs FU 0 (Nat.zero_le _) (FU_lt hP)
theorem loopE {β : Type} (f : Nat → Nat → Option β) (P : Nat) (r : Option β) (hP : P < 20000) (hb : ∀ n, f (n + 1) P = r) (hs : ∀ n x, x < P → f (n + 1) x = f n (x + 1)) : f FU 0 = r := loop0 f P r hP (fun n x hx => by
  rcases Nat.lt_or_ge x P with h | h
  · exact .inr ⟨h, hs n x h⟩
  · rw [show x = P by omega]; exact .inl (hb n))
abbrev AS : Type := (Nat → Nat → Nat) × (Nat → Nat → Int32)
def aP (a : AS) : Nat := a.1 0 0
def aW (a : AS) : Nat := a.1 0 1
def aT (a : AS) : Nat := a.1 0 2
def aH (a : AS) : Nat := a.1 0 3
def aL (a : AS) : Nat → Nat := a.1 1
def aK (a : AS) : Nat → Nat := a.1 2
def aR (a : AS) : Nat → Nat := a.1 3
def aS (a : AS) : Nat → Nat := a.1 4
def aE (a : AS) : Nat → Nat := a.1 5
def aX (a : AS) : Nat → Nat := a.1 6
def aY (a : AS) : Nat → Nat := a.1 7
def aB (a : AS) : Nat → Int32 := a.2 0
def aZ (a : AS) : Nat → Int32 := a.2 1
def aN (a : AS) : Nat → Int32 := a.2 2
def aA (a : AS) (h : Nat) : Nat → Int32 := a.2 (3 + h)
def aD (a : AS) : Nat → Nat
  | 0 => 0
  | n + 1 => aD a n + aL a n
/-- no member but those below n -/
def sub (n : Nat) (s : Int32) : Prop := ∀ j, n ≤ j → tb s j = false
def WG (a : AS) : Prop := aP a ≤ 7 ∧ aW a ≤ 6 ∧ (0 < aP a → 0 < aW a) ∧ (∀ j, aL a j ≤ 26) ∧ (∀ x, aK a x < 6) ∧ (∀ x, aR a x ≤ aW a)
def WT (a : AS) : Prop := aT a ≤ 8 ∧ ∀ k, k < aT a → aS a k < aP a ∧ aE a k < aP a ∧ aS a k ≠ aE a k ∧ sub (aP a) (aB a k) ∧ tb (aB a k) (aS a k) = false ∧ tb (aB a k) (aE a k) = false
def WH (a : AS) : Prop := aH a ≤ 40 ∧ (∀ h, h < aH a → aX a h < aP a ∧ aY a h < 8 ∧ sub (aP a) (aZ a h) ∧ ∀ t, sub (aP a) (aA a h t)) ∧ (∀ t, sub (aP a) (aN a t)) ∧ ∀ j, aL a j ≤ 20
def lb (s : Int64) (j : Nat) : Bool := s.toBitVec.getLsbD j
def pk (s : Int64) (f : Nat → Int32) : Prop := ∀ t j, t < 8 → j < 8 → lb s (8 * t + j) = tb (f t) j
def CG (i : Nat) (S : Sg) (a : AS) : Prop := S.1 (sb i) 9 = zI (aP a) ∧ S.1 (sb i) 8 = zI (aW a) ∧ (∀ j, j < aW a → S.1 (sb i + 1) j = zI (aL a j)) ∧ (∀ r, r ≤ aW a → S.1 (sb i + 2) r = zI (aD a r)) ∧ (∀ x, x < aP a → S.1 (sb i + 3) x = zI (aK a x)) ∧ (∀ x, x < aP a → S.1 (sb i + 4) x = zI (aR a x))
def CT (i : Nat) (S : Sg) (a : AS) : Prop := S.1 (sb i) 10 = zI (aT a) ∧ (∀ k, k < aT a → S.1 (sb i + 5) k = zI (aS a k)) ∧ (∀ k, k < aT a → S.1 (sb i + 6) k = zI (aE a k)) ∧ (∀ k, k < aT a → S.1 (sb i + 7) k = aB a k)
def CH (i : Nat) (S : Sg) (a : AS) : Prop := S.1 (sb i + 8) 5 = zI (aH a) ∧ (∀ h, h < aH a → S.1 (sb i + 9) h = zI (aX a h)) ∧ (∀ h, h < aH a → S.1 (sb i + 10) h = zI (aY a h)) ∧ (∀ h, h < aH a → S.1 (sb i + 11) h = aZ a h) ∧ (∀ h, h < aH a → pk (S.2 (sb i + 12) h) (aA a h)) ∧ pk (S.2 (sb i + 8) 4) (aN a)
def MG (S : Sg) (a : AS) : Prop := S.1 0 7 = zI (aP a) ∧ S.1 0 8 = zI (aW a) ∧ (∀ j, j < aW a → S.1 7 j = zI (aL a j)) ∧ (∀ x, x < aP a → S.1 5 x = zI (aK a x)) ∧ (∀ x, x < aP a → S.1 6 x = zI (aR a x))
def MT (S : Sg) (a : AS) : Prop := S.1 0 10 = zI (aT a) ∧ (∀ k, k < aT a → S.1 8 (3 * k) = zI (aS a k)) ∧ (∀ k, k < aT a → S.1 8 (3 * k + 1) = zI (aE a k)) ∧ (∀ k, k < aT a → S.1 8 (3 * k + 2) = aB a k)
def MH (S : Sg) (a : AS) : Prop := S.1 0 16 = zI (aH a) ∧ (∀ t, t < 8 → S.1 9 t = aN a t) ∧ (∀ h, h < aH a → S.1 10 h = zI (aX a h)) ∧ (∀ h, h < aH a → S.1 11 h = zI (aY a h)) ∧ (∀ h, h < aH a → S.1 12 h = aZ a h) ∧ (∀ h t, h < aH a → t < 8 → S.1 13 (8 * h + t) = aA a h t)
/-! the tables -/
def sk (v k : Nat) : Int := (skv v k).toInt
theorem sk_z (v k : Nat) : skv v k = zI (sk v k) := z_of _
theorem sk_b {v k : Nat} (hv : v < 5) (hk : k < 6) : 0 ≤ sk v k ∧ sk v k ≤ 119 := by
  have : ∀ v, v < 5 → ∀ k, k < 6 → 0 ≤ sk v k ∧ sk v k ≤ 119 := by decide
  exact this v hv k hk
theorem sk_b2 {v k : Nat} (hv : 1 < v) (hv2 : v < 4) (hk : k < 6) : 2 ≤ sk v k ∧ sk v k ≤ 10 := by
  have : ∀ v, v < 4 → 1 < v → ∀ k, k < 6 → 2 ≤ sk v k ∧ sk v k ≤ 10 := by decide
  exact this v hv2 hv k hk
theorem sk_b4 {k : Nat} (hk : k < 6) : 0 ≤ sk 4 k ∧ sk 4 k ≤ 4 := by
  have : ∀ k, k < 6 → 0 ≤ sk 4 k ∧ sk 4 k ≤ 4 := by decide
  exact this k hk
/-! who hears -/
def dst (a : AS) (r q : Nat) : Int := if (aD a r : Int) ≤ aD a q then aD a q - aD a r else aD a r - aD a q
def com (a : AS) (r f : Nat) : Int := sk 2 (aK a f) - dst a r (aR a f)
def lou (a : AS) (v r : Nat) (s : Int32) : Nat → Int
  | 0 => 0
  | n + 1 => if tb s n = true then (if lou a v r s n < sk v (aK a n) - dst a r (aR a n) then sk v (aK a n) - dst a r (aR a n) else lou a v r s n) else lou a v r s n
def son (a : AS) (v r : Nat) (s : Int32) : Int := lou a v r s (aP a)
def hea (k : Nat) (c n : Int) : Bool := if k = 5 then decide (n ≤ c) else decide (n < c) && decide (sk 4 k ≤ c)
def hbP (a : AS) (f : Nat) (s : Int32) (n : Nat → Int) (h : Nat) : Bool := decide (h ≠ f) && !tb s h && hea (aK a h) (com a (aR a h) f) (n h)
def hb (a : AS) (f : Nat) (s : Int32) : Int32 := orU (aP a) (hbP a f s (fun h => son a 3 (aR a h) s))
theorem aD_le {a : AS} (w : ∀ j, aL a j ≤ 26) : ∀ n, aD a n ≤ 26 * n
  | 0 => Nat.le_refl _
  | n + 1 => by have := aD_le w n; have := w n; rw [aD]; omega
theorem dst_b {a : AS} (w : WG a) {r q : Nat} (hr : r ≤ aW a) (hq : q ≤ aW a) : 0 ≤ dst a r q ∧ dst a r q ≤ 156 := by
  obtain ⟨wP, wW, wPW, wL, wK, wR⟩ := w
  have h1 := aD_le wL r
  have h2 := aD_le wL q
  unfold dst
  split <;> omega
theorem com_b {a : AS} (w : WG a) {r f : Nat} (hr : r ≤ aW a) : -156 ≤ com a r f ∧ com a r f ≤ 10 := by
  have h1 := dst_b w hr (w.2.2.2.2.2 f)
  have h2 := sk_b2 (v := 2) (by decide) (by decide) (w.2.2.2.2.1 f)
  unfold com
  omega
theorem lou_b {a : AS} (w : WG a) {v r : Nat} {s : Int32} (hv : 1 < v) (hv2 : v < 4) (hr : r ≤ aW a) : ∀ n, 0 ≤ lou a v r s n ∧ lou a v r s n ≤ 10
  | 0 => by rw [lou]; exact ⟨by decide, by decide⟩
  | n + 1 => by
    have ih := lou_b w (v := v) (s := s) hv hv2 hr n
    have h1 := dst_b w hr (w.2.2.2.2.2 n)
    have h2 := sk_b2 hv hv2 (w.2.2.2.2.1 n)
    rw [lou]
    split
    · split <;> omega
    · exact ih
theorem son_b {a : AS} (w : WG a) {v r : Nat} {s : Int32} (hv : 1 < v) (hv2 : v < 4) (hr : r ≤ aW a) : 0 ≤ son a v r s ∧ son a v r s ≤ 10 := lou_b w hv hv2 hr _
theorem lou_stop {a : AS} {v r : Nat} {s : Int32} {k : Nat} (h : ∀ j, k ≤ j → tb s j = false) : ∀ n, k ≤ n → lou a v r s n = lou a v r s k
  | 0, hk => by rw [Nat.le_zero.mp hk]
  | n + 1, hk => by
    rcases Nat.lt_or_ge k (n + 1) with h1 | h1
    · rw [lou, h n (by omega), if_neg (by decide), lou_stop h n (by omega)]
    · rw [show n + 1 = k by omega]
/-! rewriting of small numbers -/
theorem chk_N {α : Type} {n m : Nat} {K : Option α} (h : n < m) (hm : m ≤ 2147483648) : chk (inB (zI n) m) K = K := chk_t (inB_N h hm)
theorem chk_Z {α : Type} {z : Int} {m : Nat} {K : Option α} (h0 : 0 ≤ z) (h : z < m) (hm : m ≤ 2147483648) : chk (inB (zI z) m) K = K := chk_t (inB_z h0 h hm)
theorem zS (n : Nat) : zI n + 1 = zI ((n + 1 : Nat) : Int) := by rw [z_1, z_add]; rfl
theorem zN0 : (0 : Int32) = zI ((0 : Nat) : Int) := rfl
theorem nle {a b : Int32} (h : b < a) : ¬ a ≤ b := Int32.not_le.mpr h
theorem z_nle {m n : Nat} (h : n < m) (hm : m < 2147483648) : ¬ zI m ≤ zI n := by rw [z_le (by omega) (by omega) (by omega) (by omega)]; omega
theorem z_yle {m n : Nat} (h : m ≤ n) (hm : n < 2147483648) : zI m ≤ zI n := by rw [z_le (by omega) (by omega) (by omega) (by omega)]; omega
theorem if_le_f {α : Type} {m n : Nat} {A B : α} (h : n < m) (hm : m < 2147483648) : (if zI m ≤ zI n then A else B) = B := if_neg (z_nle h hm)
theorem if_le_t {α : Type} {m n : Nat} {A B : α} (h : m ≤ n) (hm : n < 2147483648) : (if zI m ≤ zI n then A else B) = A := if_pos (z_yle h hm)
theorem some_ite {α : Type} {c : Prop} {hc : Decidable c} {a b : α} : (@ite _ c hc (some a) (some b)) = some (@ite _ c hc a b) := by by_cases h : c <;> simp [h]
theorem z_ite {c : Prop} {hc : Decidable c} {a b : Int} : (@ite _ c hc (zI a) (zI b)) = zI (@ite _ c hc a b) := by by_cases h : c <;> simp [h]
