/-! talks side by side: the reference -/
def nof (a : AS) (r : Nat) (s : Int32) (but : Nat) : Nat → Int
  | 0 => 0
  | n + 1 => if tb s n = true ∧ n ≠ but then (if nof a r s but n < com a r (aS a n) then com a r (aS a n) else nof a r s but n) else nof a r s but n
def moc (a : AS) (s : Int32) (k h : Nat) : Bool := if h = aE a k then (decide (h ≠ aS a k) && hea (aK a h) (com a (aR a h) (aS a k)) (nof a (aR a h) s k (aT a))) else (!(decide (h ≠ aS a k) && hea (aK a h) (com a (aR a h) (aS a k)) (nof a (aR a h) s k (aT a))) || !tb (aB a k) h)
def moa (a : AS) (s : Int32) (k : Nat) (b : Bool) : Nat → Bool
  | 0 => b
  | n + 1 => moa a s k b n && moc a s k n
def mok (a : AS) (s : Int32) : Nat → Bool
  | 0 => true
  | n + 1 => mok a s n && (!tb s n || moa a s n (!tb (bus a s n) (aS a n) && !tb (bus a s n) (aE a n)) (aP a))
theorem moa_mono {a : AS} {s : Int32} {k : Nat} {b : Bool} {m : Nat} : ∀ n, m ≤ n → moa a s k b m = false → moa a s k b n = false
  | 0, h, h0 => by rw [Nat.le_zero.mp h] at h0; exact h0
  | n + 1, h, h0 => by
    rcases Nat.lt_or_ge m (n + 1) with h1 | h1
    · rw [moa, moa_mono n (by omega) h0, Bool.false_and]
    · rw [show n + 1 = m by omega]; exact h0
theorem mok_mono {a : AS} {s : Int32} {m : Nat} : ∀ n, m ≤ n → mok a s m = false → mok a s n = false
  | 0, h, h0 => by rw [Nat.le_zero.mp h] at h0; exact h0
  | n + 1, h, h0 => by
    rcases Nat.lt_or_ge m (n + 1) with h1 | h1
    · rw [mok, mok_mono n (by omega) h0, Bool.false_and]
    · rw [show n + 1 = m by omega]; exact h0
theorem nof_b {a : AS} (w : WG a) {r : Nat} {s : Int32} {but : Nat} (hr : r ≤ aW a) : ∀ n, 0 ≤ nof a r s but n ∧ nof a r s but n ≤ 10
  | 0 => by rw [nof]; exact ⟨by decide, by decide⟩
  | n + 1 => by
    have ih := nof_b w (s := s) (but := but) hr n
    have h1 := com_b w (f := aS a n) hr
    rw [nof]
    split
    · split <;> omega
    · exact ih
theorem m3 (k : Nat) : (3 : Int32) * zI k = zI ((3 * k : Nat) : Int) := by rw [show (3 : Int32) = zI 3 from rfl, z_mul]; rfl
theorem z2 (k : Nat) : zI (k : Int) + 2 = zI ((k + 2 : Nat) : Int) := by rw [show (2 : Int32) = zI 2 from rfl, z_add]; rfl
theorem f9_nof {S : Sg} {a : AS} (c : MG S a) (ct : MT S a) (w : WG a) (wt : WT a) {r but : Nat} {s : Int32} (hr : r ≤ aW a) (hb : but < 1000) : F_X9_noiseOf S (zI r) s (zI but) = some (zI (nof a r s but (aT a))) := by
  have hT := wt.1
  have key := loopE (fun n x => T_X9_noiseOf_6 S (zI r) s (zI but) n (zI (nof a r s but x)) (zI x)) (aT a) (some (zI (nof a r s but (aT a)))) (by omega) ?_ ?_
  · rw [F_X9_noiseOf]
    exact (bd_t (K := fun x2 => some x2) key).trans rfl
  · intro n
    simp only [T_X9_noiseOf_6]
    rw [ct.1, if_le_t (by omega) (by omega)]
  · intro n x h
    obtain ⟨wS, wE, wN, wB, wBS, wBE⟩ := wt.2 x h
    have hl := nof_b w (s := s) (but := but) hr x
    have hc := com_b w (f := aS a x) hr
    simp only [T_X9_noiseOf_6]
    rw [ct.1, if_le_f h (by omega), f_has (by omega), bd_some, bI_z, nof]
    cases hs : tb s x with
    | false =>
      simp only [Bool.false_eq_true, if_false, bd_some, z_0, zS, false_and]
      rw [if_pos ((z_le (by omega) (by omega) (by omega) (by omega)).mpr hl.1), bd_some]
    | true =>
      by_cases hx : x = but
      · rw [if_pos rfl, if_eqN_t hx, if_neg (by simp [hx])]
        simp only [bd_some, z_0, zS]
        rw [if_pos ((z_le (by omega) (by omega) (by omega) (by omega)).mpr hl.1), bd_some]
      · rw [if_pos rfl, if_eqN_f hx (by omega) (by omega), if_pos ⟨rfl, hx⟩, m3]
        simp (disch := omega) only [chk_N, z_tnN, ct.2.1, f9_com c w hr wS, bd_some, z_le, some_ite, z_ite, zS]
        congr 2
        split <;> split <;> omega
theorem bI_z2 {b : Bool} {α : Type} {x y : α} : (if bI b = 0 then x else y) = if b = true then y else x := bI_z
theorem bI_n {b : Bool} : (if b = true then (0 : Int32) else 1) = bI (!b) := by cases b <;> rfl
theorem bI_p {b : Bool} : (if b = true then (1 : Int32) else 0) = bI b := by cases b <;> rfl
theorem f9_moa {S : Sg} {a : AS} (c : MG S a) (ct : MT S a) (w : WG a) (wt : WT a) {s p2 : Int32} {k : Nat} {b : Bool} (hk : k < aT a) : T_X9_areBeside_92 S s p2 (zI k) (zI (aS a k)) (zI (aE a k)) FU (bI b) 0 = some (bI (moa a s k b (aP a))) := by
  have hP := w.1
  have hT := wt.1
  obtain ⟨wS, wE, wN, wB, wBS, wBE⟩ := wt.2 k hk
  have key := loop0 (fun n x => T_X9_areBeside_92 S s p2 (zI k) (zI (aS a k)) (zI (aE a k)) n (bI (moa a s k b x)) (zI x)) (aP a) (some (bI (moa a s k b (aP a)))) (by omega) ?_
  · exact key
  · intro n x hx
    simp only [T_X9_areBeside_92]
    rcases Nat.lt_or_ge x (aP a) with h | h
    · have hR := w.2.2.2.2.2 x
      have hK := w.2.2.2.2.1 x
      have hc := com_b w (f := aS a k) hR
      have hl := nof_b w (s := s) (but := k) hR (aT a)
      have e1 := f9_com c w hR wS
      have e2 := f9_nof c ct w wt (s := s) (but := k) hR (by omega)
      have e3 := f9_isH (S := S) (c := com a (aR a x) (aS a k)) (n := nof a (aR a x) s k (aT a)) hK (by omega) (by omega) (by omega) (by omega)
      obtain ⟨cP, cW, cL, cK, cR⟩ := c
      rw [cP, if_le_f h (by omega), bI_z]
      cases hm : moa a s k b x with
      | false =>
        left
        rw [if_neg (by decide), moa_mono (aP a) hx hm]
      | true =>
        right
        refine ⟨h, ?_⟩
        rw [if_pos rfl, moa, hm, Bool.true_and]
        unfold moc
        have hd : (if zI (x : Int) = zI (aS a k) then some (0 : Int32) else (chk (inB (zI x) 7) (chk (inB (zI x) 7) (bd (F_X9_comesTo S (S.1 6 (zI (x : Int)).toNatClampNeg) (zI (aS a k))) (fun x29 => chk (inB (zI x) 7) (bd (F_X9_noiseOf S (S.1 6 (zI (x : Int)).toNatClampNeg) s (zI k)) (fun x32 => bd (F_X9_isHeard S (S.1 5 (zI (x : Int)).toNatClampNeg) x29 x32) (fun x34 => if x34 = 0 then (some (0 : Int32)) else (some (1 : Int32)))))))))) = some (bI (decide (x ≠ aS a k) && hea (aK a x) (com a (aR a x) (aS a k)) (nof a (aR a x) s k (aT a)))) := by
          by_cases hxs : x = aS a k
          · rw [if_eqN_t hxs, decide_eq_false (by simp [hxs])]
            rfl
          · rw [if_eqN_f hxs (by omega) (by omega), decide_eq_true hxs]
            simp (disch := omega) only [chk_N, z_tnN, cK, cR, e1, e2, e3, bd_some, bI_z, some_ite, Bool.true_and]
            rw [bI_p]
        rw [hd, bd_some, zS]
        generalize (decide (x ≠ aS a k) && hea (aK a x) (com a (aR a x) (aS a k)) (nof a (aR a x) s k (aT a))) = d
        by_cases he : x = aE a k
        · rw [if_eqN_t he, bd_some, if_pos he]
        · rw [if_eqN_f he (by omega) (by omega), if_neg he, bI_z, m3, z2, chk_N (by omega) (by omega), z_tnN (by omega), ct.2.2.2 k hk, f_has (by omega), bd_some, bI_z]
          cases d <;> cases tb (aB a k) x <;> rfl
    · left
      rw [c.1, if_le_t h (by omega), show x = aP a by omega]
theorem f9_tgt0 {S : Sg} {a : AS} (c : MG S a) (ct : MT S a) (w : WG a) (wt : WT a) {s : Int32} : F_X9_areBeside S s = some (bI (mok a s (aT a))) := by
  have hP := w.1
  have hT := wt.1
  have key := loop0 (fun n x => T_X9_areBeside_7 S s n (bus a s x) (bI (mok a s x)) (zI x)) (aT a) (some (bI (mok a s (aT a)))) (by omega) ?_
  · rw [F_X9_areBeside]
    have key' : T_X9_areBeside_7 S s FU (0 : Int32) (1 : Int32) (0 : Int32) = _ := key
    rw [key', bd_some, zB_b]
  · intro n x hx
    simp only [T_X9_areBeside_7, nm]
    rcases Nat.lt_or_ge x (aT a) with h | h
    · obtain ⟨wS, wE, wN, wB, wBS, wBE⟩ := wt.2 x h
      rw [ct.1, if_le_f h (by omega), bI_z]
      cases hm : mok a s x with
      | false =>
        left
        rw [if_neg (by decide), mok_mono (aT a) hx hm]
      | true =>
        right
        refine ⟨h, ?_⟩
        rw [if_pos rfl, f_has (by omega), bd_some, bI_z, mok, bus, hm, Bool.true_and, zS]
        cases hs : tb s x with
        | false => rfl
        | true =>
          simp only [if_true]
          have hbb : (if bI (tb (bus a s x) (aS a x)) = 0 then (if bI (tb (bus a s x) (aE a x)) = 0 then some (1 : Int32) else some 0) else some 0) = some (bI (!tb (bus a s x) (aS a x) && !tb (bus a s x) (aE a x))) := by
            cases tb (bus a s x) (aS a x) <;> cases tb (bus a s x) (aE a x) <;> rfl
          rw [m3, chk_N (by omega) (by omega), z_tnN (by omega), zS, chk_N (by omega) (by omega), z_tnN (by omega), ct.2.1 x h, ct.2.2.1 x h, f_has (by omega), bd_some, f_has (by omega), bd_some, hbb, bd_some, f9_moa c ct w wt h, bd_some, bd_some]
          rfl
    · left
      rw [ct.1, if_le_t h (by omega), show x = aT a by omega]
