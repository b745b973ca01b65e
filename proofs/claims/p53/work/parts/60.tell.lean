def lrn (a : AS) (t : Nat) (s : Int32) : Nat → Int32 := fun k => if k = t then aN a t ||| s else aN a k
theorem lrn_t {a : AS} {t : Nat} {s : Int32} : lrn a t s t = aN a t ||| s := if_pos rfl
theorem lrn_o {a : AS} {t k : Nat} {s : Int32} (h : k ≠ t) : lrn a t s k = aN a k := if_neg h
theorem lrn_sub {a : AS} {n t : Nat} {s : Int32} (h : ∀ t, sub n (aN a t)) (hs : sub n s) (k : Nat) : sub n (lrn a t s k) := by
  by_cases e : k = t
  · rw [e, lrn_t]; exact sub_or (h t) hs
  · rw [lrn_o e]; exact h k
def sho (a : AS) (h m n : Nat) (b : Bool) : Bool := tb (aZ a h) m && tb (aZ a h) n && b || decide (aX a h = m) && tb (aZ a h) n || decide (aX a h = n) && tb (aZ a h) m
def kns (a : AS) (m n t : Nat) (b : Bool) (h : Nat) : Bool := decide (aY a h = t) && sho a h m n b
theorem f1_showed {i : Nat} {S : Sg} {a : AS} (ch : CH i S a) (w : WG a) (wh : WH a) {h m n : Nat} {b : Bool} (hh : h < aH a) (hm : m < aP a) (hn : n < aP a) : F_X1_showed i S (zI h) (zI m) (zI n) (bI b) = some (bI (sho a h m n b)) := by
  have wP := w.1
  have wH := wh.1
  have wX := (wh.2.1 h hh).1
  have cc : ∀ {α : Type} (K : Option α), chk (inB (zI h) 40) K = K := fun K => chk_N (by omega) (by omega)
  have e : ∀ b : Bool, (if b = true then some (1 : Int32) else some 0) = some (bI b) := fun b => by cases b <;> rfl
  have e' : ∀ {α : Type} {k : Nat} {A B : α}, k < aP a → (if zI (aX a h) = zI k then A else B) = if decide (aX a h = k) = true then A else B := fun {α k A B} hk => by
    by_cases q : aX a h = k
    · rw [if_eqN_t q, decide_eq_true q]; rfl
    · rw [if_eqN_f q (by omega) (by omega), decide_eq_false q]; rfl
  rw [F_X1_showed]
  simp only [cc]
  rw [z_tnN (by omega), ch.2.1 h hh, ch.2.2.2.1 h hh, has_if (by omega), has_if (by omega), e, e, bd_some, bd_some]
  simp only [bI_z, e' hm, e' hn]
  unfold sho
  cases tb (aZ a h) m <;> cases tb (aZ a h) n <;> cases decide (aX a h = m) <;> cases decide (aX a h = n) <;> cases b <;> rfl
def anyB (p : Nat → Bool) : Nat → Bool
  | 0 => false
  | n + 1 => anyB p n || p n
theorem anyB_0 {p : Nat → Bool} : ∀ n, (∀ j, j < n → p j = false) → anyB p n = false
  | 0, _ => rfl
  | n + 1, h => by rw [anyB, anyB_0 n (fun j hj => h j (by omega)), h n (by omega)]; rfl
theorem anyB_1 {p : Nat → Bool} {j : Nat} (hp : p j = true) : ∀ n, j < n → anyB p n = true
  | 0, h => absurd h (Nat.not_lt_zero _)
  | n + 1, h => by
    rw [anyB]
    by_cases e : j = n
    · rw [← e, hp, Bool.or_true]
    · rw [anyB_1 hp n (by omega), Bool.true_or]
theorem f8_kns {S : Sg} {a : AS} (ch : CH 0 S a) (w : WG a) (wh : WH a) {m n t : Nat} {b : Bool} (hm : m < aP a) (hn : n < aP a) (ht : t < 8) : T_X8_knowsThat_32 S (zI m) (zI n) (zI t) (bI b) FU 0 = some (if anyB (kns a m n t b) (aH a) = true then .inr 1 else .inl ()) := by
  have wP := w.1
  have wH := wh.1
  refine loopI (fun k x => T_X8_knowsThat_32 S (zI m) (zI n) (zI t) (bI b) k (zI x)) (aH a) _ (fun x => ∀ j, j < x → kns a m n t b j = false) (fun k x hx hI => ?_) FU 0 (Nat.zero_le _) (fun j hj => absurd hj (Nat.not_lt_zero _)) (FU_lt (by omega))
  simp only [T_X8_knowsThat_32]
  rw [ch.1]
  rcases Nat.lt_or_ge x (aH a) with h | h
  · have wY := (wh.2.1 x h).2.1
    rw [if_le_f h (by omega), chk_N (by omega) (by omega), z_tnN (by omega), ch.2.2.1 x h, f1_showed ch w wh h hm hn, bd_some, bI_z, zSu]
    cases e : kns a m n t b x
    · refine .inr ⟨h, fun j hj => ?_, ?_⟩
      · by_cases q : j = x
        · rw [q]; exact e
        · exact hI j (by omega)
      · unfold kns at e
        by_cases q : aY a x = t
        · rw [decide_eq_true q, Bool.true_and] at e
          rw [if_eqN_t q, if_neg (by rw [e]; decide)]
        · rw [if_eqN_f q (by omega) (by omega)]
    · refine .inl ?_
      rw [anyB_1 e (aH a) h, if_pos rfl]
      unfold kns at e
      rw [Bool.and_eq_true, decide_eq_true_eq] at e
      rw [if_eqN_t e.1, if_pos e.2]
  · refine .inl ?_
    rw [show x = aH a by omega, if_le_t (by omega) (by omega), anyB_0 (aH a) (fun j hj => hI j (by omega))]; rfl
def sp1 (a : AS) (s : Int32) : Nat → Int32
  | 0 => s
  | n + 1 => if tb s n = true then sp1 a s n ||| hb a n 0 else sp1 a s n
def spN (a : AS) (s : Int32) : Nat → Int32
  | 0 => s
  | n + 1 => sp1 a (spN a s n) (aP a)
theorem f8_sp1 {S : Sg} {a : AS} (c : CG 0 S a) (w : WG a) {s p q : Int32} : T_X8_spread_46 S p q s FU s 0 = some (sp1 a s (aP a)) := by
  have wP := w.1
  refine loopE (fun n x => T_X8_spread_46 S p q s n (sp1 a s x) (zI x)) (aP a) (some (sp1 a s (aP a))) (by omega) (fun n => ?_) (fun n x hx => ?_)
  · simp only [T_X8_spread_46]
    rw [c.1, if_le_t (by omega) (by omega)]
  · simp only [T_X8_spread_46]
    rw [c.1, if_le_f hx (by omega), has_if (by omega), f6_who c w hx, bd_some, nm, zSu, sp1]
    cases tb s x <;> rfl
theorem f8_sp {S : Sg} {a : AS} (c : CG 0 S a) (w : WG a) {s : Int32} {k : Nat} (hk : k ≤ 20) : T_X8_spread_34 S (zI k) FU s 0 = some (spN a s k) := by
  refine loopE (fun n x => T_X8_spread_34 S (zI k) n (spN a s x) (zI x)) k (some (spN a s k)) (by omega) (fun n => ?_) (fun n x hx => ?_)
  · simp only [T_X8_spread_34]
    rw [if_le_t (by omega) (by omega)]
  · simp only [T_X8_spread_34]
    rw [if_le_f hx (by omega), f8_sp1 c w, bd_some, zSu, spN]
theorem cir_tb {a : AS} (w : WG a) {x j : Nat} (hx : x < aP a) (hj : j < 32) : tb (cir a x) j = (tb (hb a x 0) j || decide (j = x)) := by
  have wP := w.1
  unfold cir
  rw [tb_or, tb_one (by omega) hj]
theorem hb_no {a : AS} (w : WG a) {x : Nat} (hx : x < aP a) : tb (hb a x 0) x = false := by
  rw [tb_hb w hx]
  cases e : hbP a x 0 (fun h => son a 3 (aR a h) 0) x
  · rfl
  · exact absurd rfl (hbP_t.mp e).1
theorem cir_iff {a : AS} (w : WG a) {x : Nat} (hx : x < aP a) {s : Int32} : cir a x = s ↔ (tb s x = true ∧ hb a x 0 = s &&& (((1 : Int32) <<< (zI x &&& 31)) ^^^ (-1 : Int32))) := by
  have wP := w.1
  have e1 : ∀ j, j < 32 → tb (s &&& (((1 : Int32) <<< (zI x &&& 31)) ^^^ (-1 : Int32))) j = (tb s j && !decide (j = x)) := fun j hj => by
    rw [tb_and, tb_not hj, tb_one (by omega) hj]
  constructor
  · intro h
    subst h
    refine ⟨by rw [cir_tb w hx (by omega), decide_eq_true rfl, Bool.or_true], tb_ext fun j hj => ?_⟩
    rw [e1 j hj, cir_tb w hx hj]
    by_cases q : j = x
    · rw [q, hb_no w hx, decide_eq_true rfl]; rfl
    · rw [decide_eq_false q]; simp
  · intro ⟨h1, h2⟩
    refine tb_ext fun j hj => ?_
    rw [cir_tb w hx hj, h2, e1 j hj]
    by_cases q : j = x
    · rw [q, h1, decide_eq_true rfl]; rfl
    · rw [decide_eq_false q]; simp
theorem or1' {p : Nat → Bool} {t : Nat} {c : Prop} [Decidable c] (h : c ↔ p t = true) : orU t p ||| (if c then ((1 : Int32) <<< (zI t &&& 31)) else 0) = orU (t + 1) p := by
  rw [← or1]
  congr 1
  by_cases q : c
  · rw [if_pos q, if_pos (h.mp q)]
  · rw [if_neg q, if_neg (fun w => q (h.mpr w))]
theorem f8_leak {S : Sg} {a : AS} (c : CG 0 S a) (w : WG a) {s : Int32} : T_X8_leak_14 S s FU 0 0 = some (orU (aP a) (fun x => decide (cir a x = s))) := by
  have wP := w.1
  refine loopE (fun n x => T_X8_leak_14 S s n (orU x (fun x => decide (cir a x = s))) (zI x)) (aP a) (some (orU (aP a) (fun x => decide (cir a x = s)))) (by omega) (fun n => ?_) (fun n x hx => ?_)
  · simp only [T_X8_leak_14]
    rw [c.1, if_le_t (by omega) (by omega)]
  · simp only [T_X8_leak_14]
    rw [c.1, if_le_f hx (by omega), f6_cir c w hx, bd_some, nm, zSu, ← or1' (p := fun x => decide (cir a x = s)) (c := cir a x = s) (by rw [decide_eq_true_eq])]
    by_cases q : cir a x = s
    · rw [if_pos q, if_pos q, bd_some]
    · rw [if_neg q, if_neg q, bd_some, or_0]
def lk1 (a : AS) (s c : Int32) (y : Nat) : Bool := tb c y && decide (c ||| hb a y 0 = s)
def lkN (a : AS) (s : Int32) : Nat → Nat
  | 0 => 0
  | n + 1 => lkN a s n + cnt (aP a) (lk1 a s (cir a n))
theorem lkN_le {a : AS} {s : Int32} (w : WG a) : ∀ n, lkN a s n ≤ 7 * n
  | 0 => Nat.le_refl _
  | n + 1 => by have := lkN_le (s := s) w n; have := cnt_le (p := lk1 a s (cir a n)) (aP a); have := w.1; rw [lkN]; omega
theorem cnt_sb {b n : Nat} {p : Nat → Bool} : zI ((b + cnt n p : Nat) : Int) + (if p n = true then 1 else 0) = zI ((b + cnt (n + 1) p : Nat) : Int) := by
  rw [cnt]
  cases p n
  · rw [if_neg (by decide), if_neg (by decide), z_0, z_add]; exact congrArg zI (by omega)
  · rw [if_pos rfl, if_pos rfl]; exact zSu _
theorem f8_lk1 {S : Sg} {a : AS} (c : CG 0 S a) (w : WG a) {s t q : Int32} {b : Nat} : T_X8_leaks_38 S s q t FU (zI b) 0 = some (zI ((b + cnt (aP a) (lk1 a s t) : Nat) : Int)) := by
  have wP := w.1
  refine loopE (fun n x => T_X8_leaks_38 S s q t n (zI ((b + cnt x (lk1 a s t) : Nat) : Int)) (zI x)) (aP a) (some (zI ((b + cnt (aP a) (lk1 a s t) : Nat) : Int))) (by omega) (fun n => ?_) (fun n x hx => ?_)
  · simp only [T_X8_leaks_38]
    rw [c.1, if_le_t (by omega) (by omega)]
  · simp only [T_X8_leaks_38]
    rw [c.1, if_le_f hx (by omega), has_if (by omega), f6_cir c w hx, bd_some, zSu x, ← cnt_sb]
    unfold lk1
    cases q2 : tb t x
    · rw [if_neg (by decide), bd_some, if_neg (by simp), show ∀ y : Int32, y + 0 = y from fun y => Int32.add_zero y]
    · have e2 : t ||| cir a x = t ||| hb a x 0 := tb_ext fun j hj => by
        rw [tb_or, tb_or, cir_tb w hx hj]
        by_cases q3 : j = x
        · rw [q3, q2]; rfl
        · rw [decide_eq_false q3, Bool.or_false]
      rw [if_pos rfl, e2]
      by_cases q4 : t ||| hb a x 0 = s
      · rw [if_pos q4, decide_eq_true q4, bd_some]; rfl
      · rw [if_neg q4, decide_eq_false q4, bd_some, if_neg (by decide), show ∀ y : Int32, y + 0 = y from fun y => Int32.add_zero y]
