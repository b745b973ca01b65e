theorem arg (x : Int32) : ∃ z : Int, -2147483648 ≤ z ∧ z < 2147483648 ∧ x = zI z := ⟨x.toInt, Int32.le_toInt x, Int32.toInt_lt x, z_of x⟩
theorem zNeq {m n : Nat} (h1 : m < 2147483648) (h2 : n < 2147483648) : zI m = zI n ↔ m = n := by rw [z_eq (by omega) (by omega) (by omega) (by omega)]; omega
theorem aD_mono {a : AS} {m : Nat} : ∀ n, m ≤ n → aD a m ≤ aD a n
  | 0, h => by rw [Nat.le_zero.mp h]; exact Nat.le_refl _
  | n + 1, h => by
    rcases Nat.lt_or_ge m (n + 1) with h1 | h1
    · have := aD_mono (a := a) (m := m) n (by omega); rw [aD]; omega
    · rw [show m = n + 1 by omega]; exact Nat.le_refl _
theorem dst_comm (a : AS) (r q : Nat) : dst a r q = dst a q r := by unfold dst; split <;> split <;> omega
theorem or_0 (x : Int32) : x ||| 0 = x := Int32.or_zero
theorem loopI {β : Type} (f : Nat → Nat → Option β) (P : Nat) (r : Option β) (I : Nat → Prop) (hs : ∀ n x, x ≤ P → I x → f (n + 1) x = r ∨ (x < P ∧ I (x + 1) ∧ f (n + 1) x = f n (x + 1))) : ∀ n x, x ≤ P → I x → P - x < n → f n x = r
  | 0, _, _, _, h => absurd h (Nat.not_lt_zero _)
  | n + 1, x, hx, hI, h => by
    rcases hs n x hx hI with h1 | ⟨h1, h2, h3⟩
    · exact h1
    · rw [h3]
      exact loopI f P r I hs n (x + 1) h1 h2 (by omega)
theorem if_eqN_t {α : Type} {m n : Nat} {A B : α} (h : m = n) : (if zI m = zI n then A else B) = A := if_pos (congrArg (fun n : Nat => zI n) h)
theorem if_eqN_f {α : Type} {m n : Nat} {A B : α} (h : m ≠ n) (hm : m < 2147483648) (hn : n < 2147483648) : (if zI m = zI n then A else B) = B := if_neg (fun q => h ((zNeq hm hn).mp q))
theorem has_if {α : Type} {s : Int32} {n : Nat} {A B : α} (hn : n < 32) : (if (s >>> (zI n &&& 31)) &&& 1 = 0 then A else B) = if tb s n = true then B else A := by
  cases h : tb s n with
  | true => rw [if_neg (fun q => by rw [(has_f hn).mp q] at h; cases h), if_pos rfl]
  | false => rw [if_pos ((has_f hn).mpr h)]; rfl
def bus (a : AS) (s : Int32) : Nat → Int32
  | 0 => 0
  | n + 1 => if tb s n = true then bus a s n ||| bth a n else bus a s n
def spe (a : AS) (s : Int32) : Nat → Int32
  | 0 => 0
  | n + 1 => if tb s n = true then spe a s n ||| ((1 : Int32) <<< (zI (aS a n) &&& 31)) else spe a s n
def cok (a : AS) (s : Int32) : Nat → Bool
  | 0 => true
  | n + 1 => cok a s n && (!tb s n || decide (bus a s n &&& bth a n = 0))
def oth (a : AS) (s : Int32) (k : Nat) : Int32 := spe a s (aT a) &&& (((1 : Int32) <<< (zI (aS a k) &&& 31)) ^^^ (-1 : Int32))
def evr (a : AS) : Int32 := ((1 : Int32) <<< (zI (aP a) &&& 31)) - 1
def rok (a : AS) (s : Int32) : Nat → Bool
  | 0 => true
  | n + 1 => rok a s n && (!tb s n || rgt a n (evr a) 0 (oth a s n))
def tgt (a : AS) (s : Int32) : Bool := cok a s (aT a) && rok a s (aT a)
theorem cok_mono {a : AS} {s : Int32} {m : Nat} : ∀ n, m ≤ n → cok a s m = false → cok a s n = false
  | 0, h, h0 => by rw [Nat.le_zero.mp h] at h0; exact h0
  | n + 1, h, h0 => by
    rcases Nat.lt_or_ge m (n + 1) with h1 | h1
    · rw [cok, cok_mono n (by omega) h0, Bool.false_and]
    · rw [show n + 1 = m by omega]; exact h0
theorem rok_mono {a : AS} {s : Int32} {m : Nat} : ∀ n, m ≤ n → rok a s m = false → rok a s n = false
  | 0, h, h0 => by rw [Nat.le_zero.mp h] at h0; exact h0
  | n + 1, h, h0 => by
    rcases Nat.lt_or_ge m (n + 1) with h1 | h1
    · rw [rok, rok_mono n (by omega) h0, Bool.false_and]
    · rw [show n + 1 = m by omega]; exact h0
theorem f6_tgt {i : Nat} {S : Sg} {a : AS} (c : CG i S a) (ct : CT i S a) (w : WG a) (wt : WT a) {s : Int32} : F_X6_goTogether i S s = some (bI (tgt a s)) := by
  have hP := w.1
  have hT := wt.1
  have k1 := loopI (fun n x => T_X6_goTogether_7 i S s n (bus a s x) (spe a s x) (zI x)) (aT a) (if cok a s (aT a) = true then some (.inl (spe a s (aT a))) else some (.inr 0)) (fun x => cok a s x = true) ?_ FU 0 (by omega) rfl (by unfold FU; omega)
  · have k2 := loopI (fun n x => T_X6_goTogether_68 i S s (spe a s (aT a)) n (zI x)) (aT a) (if rok a s (aT a) = true then some (.inl ()) else some (.inr 0)) (fun x => rok a s x = true) ?_ FU 0 (by omega) rfl (by unfold FU; omega)
    · rw [F_X6_goTogether]
      unfold tgt
      have k1' : T_X6_goTogether_7 i S s FU (0 : Int32) (0 : Int32) (0 : Int32) = _ := k1
      have k2' : T_X6_goTogether_68 i S s (spe a s (aT a)) FU (0 : Int32) = _ := k2
      rw [k1']
      cases h1 : cok a s (aT a) with
      | false => rfl
      | true =>
        simp only [if_true, bd_some]
        rw [k2']
        cases h2 : rok a s (aT a) with
        | false => rfl
        | true => rfl
    · intro n x hx hI
      simp only [T_X6_goTogether_68, nm]
      rcases Nat.lt_or_ge x (aT a) with h | h
      · obtain ⟨wS, wE, wN, wB, wBS, wBE⟩ := wt.2 x h
        rw [ct.1, if_le_f h (by omega), chk_N (by omega) (by omega), z_tnN (by omega), ct.2.1 x h, has_if (by omega), f6_all c, bd_some, f6_rgt c ct w wt h, bd_some, bI_z, zSu]
        cases hs : tb s x with
        | false =>
          right
          refine ⟨h, ?_, rfl⟩
          rw [rok, hI, hs]; rfl
        | true =>
          simp only [if_true]
          cases hr : rgt a x (evr a) 0 (oth a s x) with
          | true =>
            right
            refine ⟨h, ?_, ?_⟩
            · rw [rok, hI, hs, hr]; rfl
            · have hr' : rgt a x (((1 : Int32) <<< (zI (aP a) &&& 31)) - 1) 0 (spe a s (aT a) &&& (((1 : Int32) <<< (zI (aS a x) &&& 31)) ^^^ (-1 : Int32))) = true := hr
              rw [if_pos hr']
          | false =>
            left
            have hr' : rgt a x (((1 : Int32) <<< (zI (aP a) &&& 31)) - 1) 0 (spe a s (aT a) &&& (((1 : Int32) <<< (zI (aS a x) &&& 31)) ^^^ (-1 : Int32))) = false := hr
            rw [hr', rok_mono (m := x + 1) (aT a) (by omega) (by rw [rok, hI, hs, hr]; rfl)]
            rfl
      · left
        rw [ct.1, if_le_t h (by omega), show aT a = x by omega, hI]
        rfl
  · intro n x hx hI
    simp only [T_X6_goTogether_7, nm]
    rcases Nat.lt_or_ge x (aT a) with h | h
    · obtain ⟨wS, wE, wN, wB, wBS, wBE⟩ := wt.2 x h
      rw [ct.1, if_le_f h (by omega), has_if (by omega), f6_bth ct wt h, bd_some, bd_some, chk_N (by omega) (by omega), z_tnN (by omega), ct.2.1 x h, zSu]
      cases hs : tb s x with
      | false =>
        right
        refine ⟨h, ?_, ?_⟩
        · rw [cok, hI, hs]; rfl
        · rw [bus, spe, hs]; rfl
      | true =>
        simp only [if_true]
        by_cases hb : bus a s x &&& bth a x = 0
        · right
          refine ⟨h, ?_, ?_⟩
          · rw [cok, hI, hs, decide_eq_true hb]; rfl
          · rw [if_pos hb, bus, spe, hs]; rfl
        · left
          rw [if_neg hb, cok_mono (m := x + 1) (aT a) (by omega) (by rw [cok, hI, hs, decide_eq_false hb]; rfl)]
          rfl
    · left
      rw [ct.1, if_le_t h (by omega), show aT a = x by omega, hI]
      rfl
