/-! the reference: longs, members, who hears -/
def zJ (z : Int) : Int64 := Int64.ofInt z
theorem zJ_i {z : Int} (h1 : -4611686018427387904 ≤ z) (h2 : z < 4611686018427387904) : (zJ z).toInt = z := Int64.toInt_ofInt_of_le (by omega) (by omega)
theorem zJ_z {z : Int} (h1 : -2147483648 ≤ z) (h2 : z < 2147483648) : Int32.toInt64 (zI z) = zJ z := by
  apply Int64.toInt.inj
  rw [Int32.toInt_toInt64, z_toInt h1 h2, zJ_i (by omega) (by omega)]
theorem lt_J {x y : Int} (h1 : -4611686018427387904 ≤ x) (h2 : x < 4611686018427387904) (h3 : -4611686018427387904 ≤ y) (h4 : y < 4611686018427387904) : zJ x < zJ y ↔ x < y := by
  rw [Int64.lt_iff_toInt_lt, zJ_i h1 h2, zJ_i h3 h4]
theorem eq_J {x y : Int} (h1 : -4611686018427387904 ≤ x) (h2 : x < 4611686018427387904) (h3 : -4611686018427387904 ≤ y) (h4 : y < 4611686018427387904) : zJ x = zJ y ↔ x = y := by
  refine ⟨fun h => ?_, fun h => by rw [h]⟩
  have h5 := congrArg Int64.toInt h
  rw [zJ_i h1 h2, zJ_i h3 h4] at h5
  exact h5
theorem f_in {S : Sg} {x l h : Int} (h1 : -4611686018427387904 ≤ x) (h2 : x < 4611686018427387904) (h3 : -4611686018427387904 ≤ l) (h4 : l < 4611686018427387904) (h5 : -4611686018427387904 ≤ h) (h6 : h < 4611686018427387904) : F_X9_in S (zJ x) (zJ l) (zJ h) = some (bI (decide (l ≤ x) && decide (x ≤ h))) := by
  have c1 : lg_cmp (zJ x) (zJ l) < 0 ↔ x < l := by
    unfold lg_cmp
    simp only [show (zJ x > zJ l) ↔ l < x from lt_J h3 h4 h1 h2, eq_J h1 h2 h3 h4]
    by_cases q1 : l < x
    · rw [if_pos q1]; exact ⟨fun q => absurd q (by decide), fun q => by omega⟩
    · by_cases q2 : x = l
      · rw [if_neg q1, if_pos q2]; exact ⟨fun q => absurd q (by decide), fun q => by omega⟩
      · rw [if_neg q1, if_neg q2]; exact ⟨fun q => by omega, fun q => by decide⟩
  have c2 : 0 < lg_cmp (zJ x) (zJ h) ↔ h < x := by
    unfold lg_cmp
    simp only [show (zJ x > zJ h) ↔ h < x from lt_J h5 h6 h1 h2, eq_J h1 h2 h5 h6]
    by_cases q1 : h < x
    · rw [if_pos q1]; exact ⟨fun q => by omega, fun q => by decide⟩
    · by_cases q2 : x = h
      · rw [if_neg q1, if_pos q2]; exact ⟨fun q => absurd q (by decide), fun q => by omega⟩
      · rw [if_neg q1, if_neg q2]; exact ⟨fun q => absurd q (by decide), fun q => by omega⟩
  rw [F_X9_in]
  simp only [c1, c2]
  by_cases q1 : x < l
  · rw [if_pos q1, decide_eq_false (by omega)]; rfl
  · by_cases q2 : h < x
    · rw [if_neg q1, if_pos q2, decide_eq_true (by omega : l ≤ x), decide_eq_false (by omega)]; rfl
    · rw [if_neg q1, if_neg q2, decide_eq_true (by omega : l ≤ x), decide_eq_true (by omega)]; rfl
/-- an in of ints -/
theorem f_inI {S : Sg} {x l h : Int} (h1 : -2147483648 ≤ x) (h2 : x < 2147483648) (h3 : -4611686018427387904 ≤ l) (h4 : l < 4611686018427387904) (h5 : -4611686018427387904 ≤ h) (h6 : h < 4611686018427387904) : F_X9_in S (Int32.toInt64 (zI x)) (zJ l) (zJ h) = some (bI (decide (l ≤ x) && decide (x ≤ h))) := by
  rw [zJ_z h1 h2]
  exact f_in (by omega) (by omega) h3 h4 h5 h6
theorem arg (x : Int32) : ∃ z : Int, -2147483648 ≤ z ∧ z < 2147483648 ∧ x = zI z := ⟨x.toInt, Int32.le_toInt x, Int32.toInt_lt x, z_of x⟩
theorem f_has {S : Sg} {s : Int32} {n : Nat} (hn : n < 32) : F_X9_has S s (zI n) = some (bI (tb s n)) := by
  rw [F_X9_has]
  cases h : tb s n with
  | true => rw [if_pos ((has_1 hn).mpr h)]; rfl
  | false => rw [if_neg (fun q => by rw [(has_1 hn).mp q] at h; cases h)]; rfl
theorem f9_speaks {S : Sg} {k : Nat} (hk : k < 6) : F_X9_speaks S (zI k) = some (zI (sk 2 k)) := by
  have : ∀ k : Nat, k < 6 → F_X9_speaks S00 (zI k) = some (zI (sk 2 k)) := by decide +kernel
  exact this k hk
theorem f9_sings {S : Sg} {k : Nat} (hk : k < 6) : F_X9_sings S (zI k) = some (zI (sk 3 k)) := by
  have : ∀ k : Nat, k < 6 → F_X9_sings S00 (zI k) = some (zI (sk 3 k)) := by decide +kernel
  exact this k hk
theorem aD_mono {a : AS} {m : Nat} : ∀ n, m ≤ n → aD a m ≤ aD a n
  | 0, h => by rw [Nat.le_zero.mp h]; exact Nat.le_refl _
  | n + 1, h => by
    rcases Nat.lt_or_ge m (n + 1) with h1 | h1
    · have := aD_mono (a := a) (m := m) n (by omega); rw [aD]; omega
    · rw [show m = n + 1 by omega]; exact Nat.le_refl _
theorem f9_btw0 {S : Sg} {a : AS} (c : MG S a) (w : WG a) {hi : Nat} (hh : hi ≤ aW a) {lo : Nat} (hlo : lo ≤ hi) : T_X9_between_29 S (zI hi) FU 0 (zI lo) = some (zI ((aD a hi : Int) - aD a lo)) := by
  have wW := w.2.1
  have hL := w.2.2.2.1
  obtain ⟨cP, cW, cL, cK, cR⟩ := c
  have key := loopU (fun n x => T_X9_between_29 S (zI hi) n (zI ((aD a x : Int) - aD a lo)) (zI x)) hi (some (zI ((aD a hi : Int) - aD a lo))) ?_ FU lo hlo (by unfold FU; omega)
  · rw [show (0 : Int32) = zI ((aD a lo : Int) - aD a lo) by rw [Int.sub_self]; rfl]
    exact key
  · intro n x hx
    have h1 := aD_le hL x
    have h2 := hL x
    have h3 := aD_le hL lo
    simp only [T_X9_between_29]
    rcases Nat.lt_or_ge x hi with h | h
    · right
      refine ⟨h, ?_⟩
      rw [if_le_f h (by omega)]
      simp (disch := omega) only [chk_N, z_tnN, cL, nm, z_add, zS]
      congr 2
      rw [aD]
      omega
    · left
      rw [if_le_t h (by omega), show x = hi by omega]
theorem dst_comm (a : AS) (r q : Nat) : dst a r q = dst a q r := by unfold dst; split <;> split <;> omega
theorem f9_btw {S : Sg} {a : AS} (c : MG S a) (w : WG a) {r q : Nat} (hr : r ≤ aW a) (hq : q ≤ aW a) : F_X9_between S (zI q) (zI r) = some (zI (dst a r q)) := by
  have wW := w.2.1
  rw [F_X9_between]
  rcases Nat.lt_or_ge q r with h | h
  · rw [if_le_f h (by omega), if_le_f h (by omega), bd_some, bd_some, f9_btw0 c w hr (by omega), bd_some]
    have := aD_mono (a := a) r (by omega : q ≤ r)
    unfold dst
    congr 2
    split <;> omega
  · rw [if_le_t h (by omega), if_le_t h (by omega), bd_some, bd_some, f9_btw0 c w hq h, bd_some]
    have := aD_mono (a := a) q h
    unfold dst
    congr 2
    split <;> omega
theorem f9_com {S : Sg} {a : AS} (c : MG S a) (w : WG a) {r f : Nat} (hr : r ≤ aW a) (hf : f < aP a) : F_X9_comesTo S (zI r) (zI f) = some (zI (com a r f)) := by
  have hP := w.1
  have hR := w.2.2.2.2.2 f
  have hK := w.2.2.2.2.1 f
  have e2 := f9_btw c w hr hR
  obtain ⟨cP, cW, cL, cK, cR⟩ := c
  rw [F_X9_comesTo]
  simp (disch := omega) only [chk_N, z_tnN, cK, cR, f9_speaks, bd_some, e2, z_sub]
  rfl
theorem f9_noise {S : Sg} {a : AS} (c : MG S a) (w : WG a) {r : Nat} {s : Int32} (hr : r ≤ aW a) : F_X9_noiseIn S (zI r) s = some (zI (son a 3 r s)) := by
  have hP := w.1
  have key := loopE (fun n x => T_X9_noiseIn_5 S (zI r) s n (zI (lou a 3 r s x)) (zI x)) (aP a) (some (zI (son a 3 r s))) (by omega) ?_ ?_
  · rw [F_X9_noiseIn]
    exact (bd_t (K := fun x2 => some x2) key).trans rfl
  · intro n
    simp only [T_X9_noiseIn_5]
    rw [c.1, if_le_t (by omega) (by omega)]
    rfl
  · intro n x h
    have hR := w.2.2.2.2.2 x
    have hK := w.2.2.2.2.1 x
    have hb := dst_b w hr hR
    have hl := lou_b w (v := 3) (s := s) (by decide) (by decide) hr x
    have hs := sk_b2 (v := 3) (by decide) (by decide) hK
    have e2 := f9_btw c w hr hR
    obtain ⟨cP, cW, cL, cK, cR⟩ := c
    simp only [T_X9_noiseIn_5]
    rw [cP, if_le_f h (by omega), f_has (by omega), bd_some, bI_z, lou]
    cases tb s x with
    | false =>
      simp only [Bool.false_eq_true, if_false, bd_some, z_0, zS]
      rw [if_pos ((z_le (by omega) (by omega) (by omega) (by omega)).mpr hl.1), bd_some]
    | true =>
      simp (disch := omega) only [if_true, chk_N, z_tnN, cK, cR, f9_sings, bd_some, e2, z_sub, zS, z_le, some_ite, z_ite]
      congr 2
      split <;> split <;> omega
theorem f9_isH {S : Sg} {k : Nat} {c n : Int} (hk : k < 6) (hc1 : -1000 ≤ c) (hc2 : c ≤ 1000) (hn1 : 0 ≤ n) (hn2 : n ≤ 1000) : F_X9_isHeard S (zI k) (zI c) (zI n) = some (bI (hea k c n)) := by
  have h5 : (zI (k : Int) = (5 : Int32)) ↔ k = 5 := by
    rw [show (5 : Int32) = zI 5 from rfl, z_eq (by omega) (by omega) (by omega) (by omega)]
    omega
  have h3 : (zI (k : Int) = (3 : Int32)) ↔ k = 3 := by
    rw [show (3 : Int32) = zI 3 from rfl, z_eq (by omega) (by omega) (by omega) (by omega)]
    omega
  have h4 : ∀ k, k < 6 → k ≠ 5 → sk 4 k = if k = 3 then 4 else 1 := by decide
  have t4 : (4 : Int32) = zI 4 := rfl
  rw [F_X9_isHeard]
  simp (disch := omega) only [z_lt, z_le, h5, h3, some_ite, bd_some, t4, z_1, z_ite]
  unfold hea
  by_cases e5 : k = 5
  · rw [if_pos e5, if_pos e5]
    by_cases h1 : c < n
    · rw [if_pos h1, decide_eq_false (by omega)]; rfl
    · rw [if_neg h1, decide_eq_true (by omega)]; rfl
  · rw [if_neg e5, if_neg e5, h4 k hk e5]
    by_cases h1 : c ≤ n
    · rw [if_pos h1, decide_eq_false (by omega)]; rfl
    · rw [if_neg h1, decide_eq_true (by omega : n < c), Bool.true_and]
      by_cases h2 : (if k = 3 then (4 : Int) else 1) ≤ c
      · rw [decide_eq_true h2, if_neg (by omega)]; rfl
      · rw [decide_eq_false h2, if_pos (by omega)]; rfl
theorem zNeq {m n : Nat} (h1 : m < 2147483648) (h2 : n < 2147483648) : zI m = zI n ↔ m = n := by rw [z_eq (by omega) (by omega) (by omega) (by omega)]; omega
theorem f9_who {S : Sg} {a : AS} (c : MG S a) (w : WG a) {s : Int32} {f : Nat} (hf : f < aP a) : F_X9_heardBy S (zI f) s = some (hb a f s) := by
  have hP := w.1
  have key := loopE (fun n x => T_X9_heardBy_5 S (zI f) s n (orU x (hbP a f s (fun h => son a 3 (aR a h) s))) (zI x)) (aP a) (some (hb a f s)) (by omega) ?_ ?_
  · rw [F_X9_heardBy]
    exact (bd_t (K := fun x2 => some x2) key).trans rfl
  · intro n
    simp only [T_X9_heardBy_5]
    rw [c.1, if_le_t (by omega) (by omega)]
    rfl
  · intro n x h
    have hR := w.2.2.2.2.2 x
    have hK := w.2.2.2.2.1 x
    have hc := com_b w (f := f) hR
    have hl := son_b w (v := 3) (s := s) (by decide) (by decide) hR
    have e1 := f9_com c w hR hf
    have e2 := f9_noise c w (s := s) hR
    have e3 := f9_isH (S := S) (c := com a (aR a x) f) (n := son a 3 (aR a x) s) hK (by omega) (by omega) (by omega) (by omega)
    obtain ⟨cP, cW, cL, cK, cR⟩ := c
    simp only [T_X9_heardBy_5]
    rw [cP, if_le_f h (by omega), orU]
    unfold hbP
    by_cases hxf : x = f
    · rw [if_pos (congrArg (fun n : Nat => zI n) hxf), bd_some, if_pos rfl, bd_some, decide_eq_false (by simp [hxf]), zS]
      simp only [nm, Int32.or_zero, Bool.false_and, Bool.false_eq_true, if_false]
    · rw [if_neg (fun q => hxf ((zNeq (by omega) (by omega)).mp q)), f_has (by omega), bd_some, bI_z, decide_eq_true hxf]
      cases tb s x with
      | true =>
        simp only [if_true, bd_some, nm, Int32.or_zero, Bool.not_true, Bool.and_false, Bool.false_and, Bool.false_eq_true, if_false, zS]
      | false =>
        simp (disch := omega) only [Bool.false_eq_true, if_false, chk_N, z_tnN, cK, cR, e1, e2, e3, bd_some, bI_z, zS, some_ite, Bool.not_false, Bool.and_true, Bool.true_and, nm]
        cases hea (aK a x) (com a (aR a x) f) (son a 3 (aR a x) s)
        · simp only [Bool.false_eq_true, if_false, if_true, Int32.or_zero]
        · rfl
