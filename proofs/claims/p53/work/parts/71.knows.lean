/-! ===== things told ===== -/
theorem m_leaks {a : AS} {S : Sg} (n : Nw a S) (w : wf a) {s : Int32} (hs : sub (aP a) s) : F_X8_leaks S s = some (zI (lkN a s (aP a))) := by
  have wP := w.1.1
  have p7 := pow8 (n := aP a) (by omega)
  obtain ⟨k, hk, rfl⟩ := sub_z (by omega) hs
  have k8 : T_X8_leaks_14 S (zI k) FU 0 0 = some (zI (lkN a (zI k) (aP a))) := by
    refine loopE (fun n y => T_X8_leaks_14 S (zI k) n (zI (lkN a (zI k) y)) (zI y)) (aP a) (some (zI (lkN a (zI k) (aP a)))) (by omega) (fun m => ?_) (fun m y hy => ?_)
    · simp only [T_X8_leaks_14]
      rw [n.1.1, if_le_t (by omega) (by omega)]
    · simp only [T_X8_leaks_14]
      rw [n.1.1, if_le_f hy (by omega), f6_cir n.1 w.1 hy, bd_some, f8_lk1 n.1 w.1, bd_some, zSu, lkN]
  unfold F_X8_leaks
  rw [f8_isSet n.1 w.1 ⟨by omega, by omega⟩, bd_some, inZ_y (by omega), t0, k8, bd_some]
def cms (a : AS) (f t : Nat) : AS := setS a 2 (lrn a t ((1 : Int32) <<< (zI f &&& 31)))
theorem m_comes {a : AS} {S : Sg} (n : Nw a S) (w : wf a) {f t : Nat} (hf : f < aP a) (ht : t < 8) : ∃ S', F_X8_comes S (zI f) (zI t) = some (zI (pc (aN (cms a f t) t)), S') ∧ Nw (cms a f t) S' ∧ wf (cms a f t) ∧ kps S S' := by
  obtain ⟨cg, ct, ch⟩ := n
  obtain ⟨wg, wt, wh⟩ := w
  have wP := wg.1
  have e34 : sb 0 = 34 := rfl
  have hb1 := sub_one (n := aP a) hf (by omega)
  let s : Int32 := (1 : Int32) <<< (zI f &&& 31)
  have N' : ∀ k, aN (cms a f t) k = lrn a t s k := fun _ => rfl
  have A' : ∀ h, aA (cms a f t) h = aA a h := fun h => if_neg (by omega)
  have hl := fun k => lrn_sub (t := t) (s := s) wh.2.2.1 hb1 k
  have wh' : WH (cms a f t) := ⟨wh.1, fun h hh => by rw [A']; exact wh.2.1 h hh, hl, wh.2.2.2⟩
  have hv : (wL S (sb 0 + 8) 4 (S.2 (sb 0 + 8) 4 ||| lshl (Int32.toInt64 s) ((8 : Int32) * zI t))).2 (sb 0 + 8) 4 = S.2 (sb 0 + 8) 4 ||| lshl (Int32.toInt64 s) ((8 : Int32) * zI t) := by rw [wL_2, if_pos rfl, if_pos rfl]
  have pk' : pk (S.2 (sb 0 + 8) 4 ||| lshl (Int32.toInt64 s) ((8 : Int32) * zI t)) (lrn a t s) := pk_learn ch.2.2.2.2.2 ht (sub_mono (by omega) hb1)
  have ch' : CH 0 (wL S (sb 0 + 8) 4 (S.2 (sb 0 + 8) 4 ||| lshl (Int32.toInt64 s) ((8 : Int32) * zI t))) (cms a f t) := ⟨ch.1, ch.2.1, ch.2.2.1, ch.2.2.2.1, fun h hh => by rw [A', wL_2, if_neg (by omega)]; exact ch.2.2.2.2.1 h hh, by rw [hv]; exact pk'⟩
  refine ⟨wL S (sb 0 + 8) 4 (S.2 (sb 0 + 8) 4 ||| lshl (Int32.toInt64 s) ((8 : Int32) * zI t)), ?_, ⟨CG_a (a := a) rfl rfl (fun _ => rfl) (fun _ => rfl) (fun _ => rfl) cg, ct, ch'⟩, ⟨wg, wt, wh'⟩, sm_wL (by decide), sm_wL (by decide), fun _ => rfl⟩
  unfold F_X8_comes
  rw [f8_isOne cg wg ⟨by omega, by omega⟩, bd_some, inZ_y (by omega), t0, f8_isThing ⟨by omega, by omega⟩, bd_some, inZ_y (by omega), t0, show F_X1_learn 0 S (zI t) ((1 : Int32) <<< (zI f &&& 31)) = some (wL S (sb 0 + 8) 4 (S.2 (sb 0 + 8) 4 ||| lshl (Int32.toInt64 s) ((8 : Int32) * zI t))) from rfl, bd_some, f1_who (f := lrn a t s) (by rw [hv]; exact pk') ht (sub_mono (by omega) (hl t)), bd_some, f_bc (sub_mono (by omega) (hl t)), bd_some]
  rfl
theorem m_tell0 {a : AS} {S : Sg} (n : Nw a S) (w : wf a) {f t : Nat} (hf : f < aP a) (ht : t < 8) (h0 : tb (aN a t) f = false) : F_X8_tell S (zI f) (zI t) = some (-4, S) := by
  have wP := w.1.1
  unfold F_X8_tell
  rw [f8_isOne n.1 w.1 ⟨by omega, by omega⟩, bd_some, inZ_y (by omega), t0, f8_isThing ⟨by omega, by omega⟩, bd_some, inZ_y (by omega), t0, f1_who n.2.2.2.2.2.2.2 ht (sub_mono (by omega) (w.2.2.2.2.1 t)), bd_some, has_if (by omega), h0, if_neg (by decide)]
def tel (a : AS) (f t : Nat) : AS := (fun c => if c = 6 then (fun k => if k = aH a then f else aX a k) else if c = 7 then (fun k => if k = aH a then t else aY a k) else if c = 0 then (fun k => if k = 3 then aH a + 1 else a.1 0 k) else a.1 c, fun c => if c = 1 then (fun k => if k = aH a then hb a f 0 else aZ a k) else if c = 2 then lrn a t (hb a f 0) else if c = aH a + 3 then aN a else a.2 c)
theorem tel_X {a : AS} {f t k : Nat} : aX (tel a f t) k = if k = aH a then f else aX a k := rfl
theorem tel_Y {a : AS} {f t k : Nat} : aY (tel a f t) k = if k = aH a then t else aY a k := rfl
theorem tel_Z {a : AS} {f t k : Nat} : aZ (tel a f t) k = if k = aH a then hb a f 0 else aZ a k := rfl
theorem tel_N {a : AS} {f t k : Nat} : aN (tel a f t) k = lrn a t (hb a f 0) k := rfl
theorem tel_A {a : AS} {f t h : Nat} : aA (tel a f t) h = if h = aH a then aN a else aA a h := by
  show (if 3 + h = 1 then _ else if 3 + h = 2 then _ else if 3 + h = aH a + 3 then aN a else a.2 (3 + h)) = _
  rw [if_neg (by omega), if_neg (by omega)]
  by_cases q : h = aH a
  · rw [if_pos q, if_pos (by omega)]
  · rw [if_neg q, if_neg (by omega)]; rfl
theorem m_tell {a : AS} {S : Sg} (n : Nw a S) (w : wf a) {f t : Nat} (hf : f < aP a) (ht : t < 8) (h0 : tb (aN a t) f = true) (hH : aH a < 40) : ∃ S', F_X8_tell S (zI f) (zI t) = some (aN (tel a f t) t, S') ∧ Nw (tel a f t) S' ∧ wf (tel a f t) ∧ kps S S' := by
  obtain ⟨cg, ct, ch⟩ := n
  obtain ⟨wg, wt, wh⟩ := w
  have wP := wg.1
  have e34 : sb 0 = 34 := rfl
  let H := aH a
  have hHH : H < 40 := hH
  let s := hb a f 0
  have hs : sub (aP a) s := hb_sub wg
  have hs8 : sub 8 s := sub_mono (by omega) hs
  have hl := fun k => lrn_sub (t := t) (s := s) wh.2.2.1 hs k
  let x8 := S.2 (sb 0 + 8) 4
  let x8' := x8 ||| lshl (Int32.toInt64 s) ((8 : Int32) * zI t)
  have pk' : pk x8' (lrn a t s) := pk_learn ch.2.2.2.2.2 ht hs8
  let S' := wL (wI (wL (wI (wI (wI S (sb 0 + 9) H (zI f)) (sb 0 + 10) H (zI t)) (sb 0 + 11) H s) (sb 0 + 12) H x8) (sb 0 + 8) 5 (zI ((H + 1 : Nat) : Int))) (sb 0 + 8) 4 x8'
  have k8 : F_X1_add 0 S (zI f) (zI t) s = some S' := by
    rw [F_X1_add]
    have hb5 : S.1 (sb 0 + 8) 5 = zI H := ch.1
    simp (disch := omega) only [nm, hb5, chk_N, z_tnN, wI_ne, wI_2, wL_1]
    rw [zSu]
    rw [F_X1_learn, nm, bd_some, wI_2, wL_2, if_neg (by omega)]
    rfl
  have wh' : WH (tel a f t) := ⟨by show H + 1 ≤ 40; omega, fun k hk => by
    have hk : k < H + 1 := hk
    rw [tel_X, tel_Y, tel_Z, tel_A]
    by_cases q : k = H
    · rw [if_pos q, if_pos q, if_pos q, if_pos q]
      exact ⟨hf, ht, hs, wh.2.2.1⟩
    · rw [if_neg q, if_neg q, if_neg q, if_neg q]
      exact wh.2.1 k (by show k < H; omega), hl, wh.2.2.2⟩
  have hv : S'.2 (sb 0 + 8) 4 = x8' := by
    show (wL _ _ _ _).2 _ _ = _
    rw [wL_2, if_pos rfl, if_pos rfl]
  have ch' : CH 0 S' (tel a f t) := by
    refine ⟨?_, fun k hk => ?_, fun k hk => ?_, fun k hk => ?_, fun k hk => ?_, by rw [hv]; exact pk'⟩
    · show (wL (wI (wL _ _ _ _) _ _ _) _ _ _).1 _ 5 = _
      rw [wL_1, wI_eq]; rfl
    · have hk : k < H + 1 := hk
      show (wL (wI (wL _ _ _ _) _ _ _) _ _ _).1 _ k = _
      rw [tel_X, wL_1, wI_ne (by omega), wL_1, wI_ne (by omega), wI_ne (by omega), wI_1, if_pos rfl]
      by_cases q : k = H
      · rw [if_pos q, if_pos q]
      · rw [if_neg q, if_neg q]; exact ch.2.1 k (by show k < H; omega)
    · have hk : k < H + 1 := hk
      show (wL (wI (wL _ _ _ _) _ _ _) _ _ _).1 _ k = _
      rw [tel_Y, wL_1, wI_ne (by omega), wL_1, wI_ne (by omega), wI_1, if_pos rfl]
      by_cases q : k = H
      · rw [if_pos q, if_pos q]
      · rw [if_neg q, if_neg q, wI_ne (by omega)]; exact ch.2.2.1 k (by show k < H; omega)
    · have hk : k < H + 1 := hk
      show (wL (wI (wL _ _ _ _) _ _ _) _ _ _).1 _ k = _
      rw [tel_Z, wL_1, wI_ne (by omega), wL_1, wI_1, if_pos rfl]
      by_cases q : k = H
      · rw [if_pos q, if_pos q]
      · rw [if_neg q, if_neg q, wI_ne (by omega), wI_ne (by omega)]; exact ch.2.2.2.1 k (by show k < H; omega)
    · have hk : k < H + 1 := hk
      show pk ((wL (wI (wL _ _ _ _) _ _ _) _ _ _).2 _ k) _
      rw [tel_A, wL_2, if_neg (by omega), wI_2, wL_2, if_pos rfl]
      by_cases q : k = H
      · rw [if_pos q, if_pos q]; exact ch.2.2.2.2.2
      · rw [if_neg q, if_neg q]; exact ch.2.2.2.2.1 k (by show k < H; omega)
  have sm8 : ∀ lo hi, 47 ≤ lo ∨ hi ≤ 42 → sm lo hi S S' := fun lo hi q => sm_tr (sm_tr (sm_tr (sm_tr (sm_tr (sm_wI (by omega)) (sm_wI (by omega))) (sm_wI (by omega))) (sm_wL (by omega))) (sm_wI (by omega))) (sm_wL (by omega))
  refine ⟨S', ?_, ⟨CG_a (a := a) rfl rfl (fun _ => rfl) (fun _ => rfl) (fun _ => rfl) (CG_k (fun c k q => (sm8 34 42 (by decide) _ (by omega) (by omega) _).1) cg), CT_k (fun c k q => (sm8 34 42 (by decide) _ (by omega) (by omega) _).1) ct, ch'⟩, ⟨wg, wt, wh'⟩, sm8 _ _ (by decide), sm8 _ _ (by decide), fun k => (sm8 4 5 (by decide) 4 (by decide) (by decide) k).1⟩
  unfold F_X8_tell
  rw [f8_isOne cg wg ⟨by omega, by omega⟩, bd_some, inZ_y (by omega), t0, f8_isThing ⟨by omega, by omega⟩, bd_some, inZ_y (by omega), t0, f1_who ch.2.2.2.2.2 ht (sub_mono (by omega) (wh.2.2.1 t)), bd_some, has_if (by omega), h0, if_pos rfl, ch.1, show (40 : Int32) = zI ((40 : Nat) : Int) from rfl, if_ltZ (by omega) (by omega) (by decide) (by decide), if_pos (by omega), f6_who cg wg hf, bd_some, k8, bd_some, f1_who (f := lrn a t s) (by rw [hv]; exact pk') ht (sub_mono (by omega) (hl t)), bd_some]
  rfl
/-- the one hour undone -/
def und (a : AS) (n : Nat) : AS := setS (setN a 0 (fun k => if k = 3 then n else a.1 0 k)) 2 (aA a n)
theorem m_undo {a : AS} {S : Sg} (nw : Nw a S) (w : wf a) {n : Nat} (hN : n < aH a) : ∃ S', F_X8_undo S (zI n) = some (zI ((aH a : Int) - n), S') ∧ Nw (und a n) S' ∧ wf (und a n) ∧ kps S S' := by
  obtain ⟨cg, ct, ch⟩ := nw
  obtain ⟨wg, wt, wh⟩ := w
  have wH := wh.1
  have e34 : sb 0 = 34 := rfl
  have A' : ∀ h, aA (und a n) h = aA a h := fun h => if_neg (by omega)
  have wh' : WH (und a n) := ⟨by show n ≤ 40; omega, fun h hh => by rw [A']; exact wh.2.1 h (by have hh : h < n := hh; omega), (wh.2.1 n hN).2.2.2, wh.2.2.2⟩
  have k8 : F_X1_backTo 0 S (zI n) = some (wI (wL S (sb 0 + 8) 4 (S.2 (sb 0 + 12) n)) (sb 0 + 8) 5 (zI n)) := by
    rw [F_X1_backTo, ch.1, if_le_f hN (by omega), chk_N (by omega) (by omega), z_tnN (by omega), nm, nm]
  have ch' : CH 0 (wI (wL S (sb 0 + 8) 4 (S.2 (sb 0 + 12) n)) (sb 0 + 8) 5 (zI n)) (und a n) := ⟨wI_eq, fun k hk => (wI_ne (by omega)).trans (ch.2.1 k (by have hk : k < n := hk; omega)), fun k hk => (wI_ne (by omega)).trans (ch.2.2.1 k (by have hk : k < n := hk; omega)), fun k hk => (wI_ne (by omega)).trans (ch.2.2.2.1 k (by have hk : k < n := hk; omega)), fun k hk => by rw [A', wI_2, wL_2, if_neg (by omega)]; exact ch.2.2.2.2.1 k (by have hk : k < n := hk; omega), by rw [wI_2, wL_2, if_pos rfl, if_pos rfl]; exact ch.2.2.2.2.1 n hN⟩
  have sm8 : ∀ lo hi, 43 ≤ lo ∨ hi ≤ 42 → sm lo hi S (wI (wL S (sb 0 + 8) 4 (S.2 (sb 0 + 12) n)) (sb 0 + 8) 5 (zI n)) := fun lo hi q => sm_tr (sm_wL (by omega)) (sm_wI (by omega))
  refine ⟨_, ?_, ⟨CG_k (fun c k q => sm8 34 42 (by decide) _ (by omega) (by omega) _ |>.1) (CG_a (a := a) rfl rfl (fun _ => rfl) (fun _ => rfl) (fun _ => rfl) cg), CT_k (fun c k q => sm8 34 42 (by decide) _ (by omega) (by omega) _ |>.1) ct, ch'⟩, ⟨wg, wt, wh'⟩, sm8 _ _ (by decide), sm8 _ _ (by decide), fun k => (sm8 4 5 (by decide) 4 (by decide) (by decide) k).1⟩
  unfold F_X8_undo
  simp only [nm]
  rw [ch.1, if_lt0 (by omega) (by omega), if_leZ (by omega) (by omega) (by omega) (by omega), if_neg (by omega), if_pos (by omega), z_sub, k8, bd_some]
/-! pairs -/
def hpN (a : AS) : Nat → Nat
  | 0 => 0
  | n + 1 => hpN a n + pc (hb a n 0)
theorem pc_hb {a : AS} (w : WG a) {x : Nat} (hx : x < aP a) : pc (hb a x 0) ≤ aP a - 1 := by
  have wP := w.1
  have h1 := hb_no w hx
  have h2 : ∀ n, n ≤ 8 → cnt n (tb (hb a x 0)) ≤ min n (aP a) - (if x < n then 1 else 0) := by
    intro n
    induction n with
    | zero => intro _; exact Nat.zero_le _
    | succ n ih =>
      intro hn
      have := ih (by omega)
      rw [cnt]
      by_cases q : tb (hb a x 0) n = true
      · rw [if_pos q]
        have q1 : n ≠ x := fun e => by rw [e, h1] at q; cases q
        have q2 : n < aP a := by
          rcases Nat.lt_or_ge n (aP a) with h | h
          · exact h
          · rw [hb_sub w n h] at q; cases q
        split at this <;> split <;> omega
      · rw [if_neg q]
        split at this <;> split <;> omega
  have := h2 8 (Nat.le_refl _)
  unfold pc
  split at this <;> omega
theorem hpN_le {a : AS} (w : WG a) : ∀ n, n ≤ aP a → hpN a n ≤ n * (aP a - 1)
  | 0, _ => by rw [hpN]; omega
  | n + 1, h => by
    have h1 := hpN_le w n (by omega)
    have h2 := pc_hb w (x := n) (by omega)
    rw [hpN, Nat.succ_mul]
    omega
theorem f6_hp {S : Sg} {a : AS} (c : CG 0 S a) (w : WG a) : F_X6_heardPairs 0 S = some (zI (hpN a (aP a))) := by
  have wP := w.1
  have q := loopE (fun n x => T_X6_heardPairs_4 0 S n (zI (hpN a x)) (zI x)) (aP a) (some (zI (hpN a (aP a)))) (by omega) (fun n => by
    simp only [T_X6_heardPairs_4]
    rw [c.1, if_le_t (by omega) (by omega)]) (fun n x hx => by
    have h8 : sub 8 (hb a x 0) := hb_sub8 w
    simp only [T_X6_heardPairs_4]
    rw [c.1, if_le_f hx (by omega), f6_who c w hx, bd_some, f_bc h8, bd_some]
    first
      | (rw [nm, zSu, z_add, hpN]; rfl)
      | (rw [zSu, z_add, hpN]; rfl))
  rw [F_X6_heardPairs]
  exact (bd_t (K := fun x2 => some x2) q).trans rfl
theorem f6_prs {S : Sg} {a : AS} (c : CG 0 S a) (w : WG a) (h2 : 2 ≤ aP a) : F_X6_pairs 0 S = some (zI ((aP a * (aP a - 1) : Nat) : Int)) := by
  have wP := w.1
  rw [F_X6_pairs, c.1]
  simp only [nm]
  rw [z_1, z_sub, z_0, if_ltZ (by omega) (by omega) (by omega) (by omega), if_pos (by omega), z_mul]
  refine congrArg (fun q => some (zI q)) ?_
  obtain ⟨m, e⟩ : ∃ m, aP a = m + 1 := ⟨aP a - 1, by omega⟩
  rw [e, Nat.add_sub_cancel]
  push_cast
  rw [Int.add_sub_cancel]
theorem f8_div {S : Sg} {p q : Nat} (hp : p ≤ 42) (hq : q ≤ 42) : ∃ d : Nat, 0 < d ∧ d ≤ 42 ∧ F_X8_commonDivisor S (zI p) (zI q) = some (zI d) := by
  have key : ∀ x, x ≤ 42 → ∀ n, x < n → (T_X8_commonDivisor_8 S (zI p) (zI q) n (zI x) = some (.inl ()) ∨ ∃ d : Nat, 0 < d ∧ d ≤ 42 ∧ T_X8_commonDivisor_8 S (zI p) (zI q) n (zI x) = some (.inr (zI d))) := by
    intro x
    induction x with
    | zero =>
      intro _ n hn
      obtain ⟨n, rfl⟩ : ∃ m, n = m + 1 := ⟨n - 1, by omega⟩
      left
      simp only [T_X8_commonDivisor_8]
      rw [z_1, if_leZ (by decide) (by decide) (by decide) (by decide), if_pos (by decide)]
    | succ x ih =>
      intro hx n hn
      obtain ⟨n, rfl⟩ : ∃ m, n = m + 1 := ⟨n - 1, by omega⟩
      have ih' := ih (by omega) n (by omega)
      simp only [T_X8_commonDivisor_8]
      rw [z_1, if_leZ (by omega) (by omega) (by omega) (by omega)]
      by_cases h1 : ((x + 1 : Nat) : Int) ≤ 1
      · rw [if_pos h1]; exact .inl rfl
      · have hz : nzI (zI ((x + 1 : Nat) : Int)) = true := by
          unfold nzI
          rw [decide_eq_false (fun e => by
            have := (z_eq (a := ((x + 1 : Nat) : Int)) (b := 0) (by omega) (by omega) (by decide) (by decide)).mp e
            omega)]
          rfl
        have em : zI ((x + 1 : Nat) : Int) + -zI 1 = zI (x : Int) := by
          rw [z_neg, z_add]
          exact congrArg zI (by omega)
        rw [if_neg h1]
        rw [chk_t hz, chk_t hz, em]
        split
        · split
          · right
            exact ⟨x + 1, by omega, by omega, rfl⟩
          · exact ih'
        · exact ih'
  unfold F_X8_commonDivisor
  have e : (if zI (p : Int) < zI (q : Int) then zI (q : Int) else zI (p : Int)) = zI ((max p q : Nat) : Int) := by
    rw [if_ltZ (by omega) (by omega) (by omega) (by omega)]
    by_cases c : (p : Int) < q
    · rw [if_pos c]; exact congrArg zI (by omega)
    · rw [if_neg c]; exact congrArg zI (by omega)
  rw [nm, e]
  rcases key (max p q) (by omega) FU (by unfold FU; omega) with h | ⟨d, h1, h2, h⟩
  · exact ⟨1, by decide, by decide, by rw [h, bd_some]; rfl⟩
  · exact ⟨d, h1, h2, by rw [h, bd_some]⟩
theorem z_div {a b : Nat} (ha : a ≤ 42) (hb : b ≤ 42) : zI a / zI b = zI ((a / b : Nat) : Int) := by
  have : ∀ a, a < 43 → ∀ b, b < 43 → zI ((a : Nat) : Int) / zI ((b : Nat) : Int) = zI ((a / b : Nat) : Int) := by decide +kernel
  exact this a (by omega) b (by omega)
theorem nz_N {d : Nat} (h : 0 < d) (h2 : d ≤ 42) {α : Type} {K : Option α} : chk (nzI (zI d)) K = K := by
  refine chk_t ?_
  unfold nzI
  rw [decide_eq_false (fun e => by
    have := (z_eq (a := (d : Int)) (b := 0) (by omega) (by omega) (by decide) (by decide)).mp e
    omega)]
  rfl
/-- the share of pairs: as whole numbers -/
theorem m_share {a : AS} {S : Sg} (n : Nw a S) (w : wf a) (h2 : 2 ≤ aP a) : ∃ u l : Nat, u ≤ l ∧ l ≤ 42 ∧ F_X8_upper S = some (Int32.toInt64 (zI u)) ∧ F_X8_lower S = some (Int32.toInt64 (zI l)) := by
  have wP := w.1.1
  have hu := hpN_le w.1 (aP a) (Nat.le_refl _)
  have hl : aP a * (aP a - 1) ≤ 42 := Nat.le_trans (Nat.mul_le_mul (show aP a ≤ 7 by omega) (show aP a - 1 ≤ 6 by omega)) (by decide)
  obtain ⟨d, d1, d2, d3⟩ := f8_div (S := S) (p := hpN a (aP a)) (q := aP a * (aP a - 1)) (by omega) hl
  have hne : ¬ zI ((aP a * (aP a - 1) : Nat) : Int) = 0 := fun e => by
    have h0 : 0 < aP a * (aP a - 1) := Nat.mul_pos (by omega) (by omega)
    have := (z_eq (a := ((aP a * (aP a - 1) : Nat) : Int)) (b := 0) (by omega) (by omega) (by decide) (by decide)).mp e
    omega
  refine ⟨hpN a (aP a) / d, aP a * (aP a - 1) / d, Nat.div_le_div_right hu, Nat.le_trans (Nat.div_le_self _ _) hl, ?_, ?_⟩
  · rw [F_X8_upper, f6_hp n.1 w.1, bd_some, f6_prs n.1 w.1 h2, bd_some, d3, bd_some, nz_N d1 d2, z_div (by omega) d2]
  · rw [F_X8_lower, f6_prs n.1 w.1 h2, bd_some, if_neg hne, f6_hp n.1 w.1, bd_some, d3, bd_some, nz_N d1 d2, z_div hl d2]
