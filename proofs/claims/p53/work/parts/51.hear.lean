theorem f6_com {i : Nat} {S : Sg} {a : AS} (c : CG i S a) (w : WG a) {r f : Nat} (hr : r ≤ aW a) (hf : f < aP a) : F_X6_comesTo i S (zI r) (zI f) = some (zI (com a r f)) := by
  have hb := dst_b w hr (w.2.2.2.2.2 f)
  have hd := aD_le w.2.2.2.1 r
  have hd2 := aD_le w.2.2.2.1 (aR a f)
  obtain ⟨cP, cW, cL, cD, cK, cR⟩ := c
  obtain ⟨wP, wW, wPW, wL, wK, wR⟩ := w
  have hK := wK f
  have hR := wR f
  rw [F_X6_comesTo]
  simp (disch := omega) only [chk_N, z_tnN, cK, cR, cD, nm, sk_z, z_sub, z_0, z_le, z_ite]
  congr 2
  unfold com dst
  split <;> split <;> omega
theorem f6_lou {i : Nat} {S : Sg} {a : AS} (c : CG i S a) (w : WG a) {v r : Nat} {s : Int32} (hv : 1 < v) (hv2 : v < 4) (hr : r ≤ aW a) : F_X6_loudestIn i v S (zI r) s = some (zI (son a v r s)) := by
  have key := loop0 (fun n x => T_X6_loudestIn_6 i v S (zI r) s n (zI (lou a v r s x)) (zI x)) (aP a) (some (zI (son a v r s))) (by have := w.1; omega) ?_
  · rw [F_X6_loudestIn]
    exact (bd_t key).trans rfl
  · intro n x hx
    have hb := dst_b w hr (w.2.2.2.2.2 x)
    have hd := aD_le w.2.2.2.1 r
    have hd2 := aD_le w.2.2.2.1 (aR a x)
    have hl := lou_b w (s := s) hv hv2 hr x
    obtain ⟨cP, cW, cL, cD, cK, cR⟩ := c
    obtain ⟨wP, wW, wPW, wL, wK, wR⟩ := w
    have hK := wK x
    have hR := wR x
    have hs := sk_b2 hv hv2 hK
    simp only [T_X6_loudestIn_6]
    rcases Nat.lt_or_ge x (aP a) with h | h
    · rw [cP, if_le_f h (by omega)]
      by_cases h0 : s >>> (zI x &&& 31) = 0
      · left
        rw [if_pos h0]
        unfold son
        rw [lou_stop (shr_0 (by omega) h0) _ hx]
      · right
        refine ⟨h, ?_⟩
        rw [if_neg h0, lou]
        cases hb1 : tb s x with
        | false => rw [if_pos ((has_f (by omega)).mpr hb1), bd_some, zSu, if_neg (by decide)]
        | true =>
          rw [if_neg (fun q => by rw [(has_f (by omega)).mp q] at hb1; cases hb1), if_pos rfl]
          simp (disch := omega) only [chk_N, z_tnN, cK, cR, cD, nm, sk_z, z_sub, z_0, z_le, z_lt, z_ite, bd_some, zSu]
          congr 2
          unfold dst at hb ⊢
          split <;> split <;> split <;> (try split) <;> omega
    · left
      rw [cP, if_le_t h (by omega), show x = aP a by omega]
      rfl
theorem bi_t {b : Bool} {α : Type} {x y : α} (h : b = true) : (if b = true then x else y) = x := if_pos h
def bI (b : Bool) : Int32 := if b = true then 1 else 0
theorem bI_0 {b : Bool} : bI b = 0 ↔ b = false := by cases b <;> decide
theorem bI_1 {b : Bool} : bI b = 1 ↔ b = true := by cases b <;> decide
theorem bI_z {b : Bool} {α : Type} {x y : α} : (if bI b = 0 then x else y) = if b = true then y else x := by cases b <;> rfl
theorem f2_en {S : Sg} {k : Nat} {c n : Int} (hk : k < 6) (hc1 : -1000 ≤ c) (hc2 : c ≤ 1000) (hn1 : 0 ≤ n) (hn2 : n ≤ 1000) : F_X2_isEnough S (zI k) (zI c) (zI n) = some (bI (hea k c n)) := by
  have h5 : (zI (k : Int) = (5 : Int32)) ↔ k = 5 := by
    rw [show (5 : Int32) = zI 5 from rfl, z_eq (by omega) (by omega) (by omega) (by omega)]
    omega
  have h4 := sk_b4 hk
  have h45 : sk 4 5 = 0 := by decide
  rw [F_X2_isEnough]
  simp (disch := omega) only [chk_N, z_tnN, sk_z, z_lt, z_eq, h5, some_ite, bd_some]
  unfold hea
  by_cases e5 : k = 5
  · subst e5
    by_cases h1 : n < c
    · simp only [h1, if_true, if_neg (show ¬ (1 : Int32) = 0 by decide)]
      rw [if_neg (by omega), decide_eq_true (show n ≤ c by omega)]
      rfl
    · by_cases h2 : c = n
      · simp only [h1, h2, if_true, if_false, if_neg (show ¬ (1 : Int32) = 0 by decide)]
        rw [decide_eq_true (show n ≤ n by omega)]
        simp only [ite_self, if_neg (show ¬ n < sk 4 5 by omega), if_neg (show ¬ (1 : Int32) = 0 by decide)]
        rfl
      · simp only [h1, h2, if_true, if_false]
        rw [decide_eq_false (show ¬ n ≤ c by omega)]
        rfl
  · simp only [e5, if_false]
    by_cases h1 : n < c
    · simp only [h1, if_true, if_neg (show ¬ (1 : Int32) = 0 by decide), decide_true, Bool.true_and]
      by_cases h2 : sk 4 k ≤ c
      · rw [if_neg (by omega), decide_eq_true h2]
        rfl
      · rw [if_pos (by omega), decide_eq_false h2]
        rfl
    · simp only [h1, if_true, if_false, decide_false, Bool.false_and]
      rfl
def whP (a : AS) (set : Int32) (f : Nat) (s : Int32) (n : Nat → Int) (h : Nat) : Bool := tb set h && hbP a f s n h
def nz2 (a : AS) (s p : Int32) (h : Nat) : Int := if son a 3 (aR a h) s < son a 2 (aR a h) p then son a 2 (aR a h) p else son a 3 (aR a h) s
theorem f6_wh {i : Nat} {S : Sg} {a : AS} (c : CG i S a) (w : WG a) {set s p : Int32} {f : Nat} (hf : f < aP a) : F_X6_whoHearOf i S set (zI f) s p = some (orU (aP a) (whP a set f s (nz2 a s p))) := by
  let able : Int32 := (set &&& (s ^^^ (-1 : Int32))) &&& (((1 : Int32) <<< (zI f &&& 31)) ^^^ (-1 : Int32))
  have hPb := w.1
  have hab : ∀ j, j < 32 → tb able j = (tb set j && !tb s j && decide (j ≠ f)) := by
    intro j hj
    show tb ((set &&& (s ^^^ (-1 : Int32))) &&& (((1 : Int32) <<< (zI f &&& 31)) ^^^ (-1 : Int32))) j = _
    rw [tb_and, tb_and, tb_not hj, tb_not hj, tb_one (by omega) hj]
    simp
  have key := loop0 (fun n x => T_X6_whoHearOf_19 i S (zI f) s p able n (orU x (whP a set f s (nz2 a s p))) (zI x)) (aP a) (some (orU (aP a) (whP a set f s (nz2 a s p)))) (by omega) ?_
  · rw [F_X6_whoHearOf]
    exact (bd_t (K := fun x2 => some x2) key).trans rfl
  · intro n x hx
    have hl1 := son_b w (v := 3) (s := s) (by decide) (by decide) (w.2.2.2.2.2 x)
    have hl2 := son_b w (v := 2) (s := p) (by decide) (by decide) (w.2.2.2.2.2 x)
    have hc := com_b w (f := f) (w.2.2.2.2.2 x)
    have e1 := f6_lou c w (v := 3) (s := s) (by decide) (by decide) (w.2.2.2.2.2 x)
    have e2 := f6_lou c w (v := 2) (s := p) (by decide) (by decide) (w.2.2.2.2.2 x)
    have e3 := f6_com c w (w.2.2.2.2.2 x) hf
    have e4 := f2_en (S := S) (n := nz2 a s p x) (w.2.2.2.2.1 x) (by omega) (by omega) (by unfold nz2; split <;> omega) (by unfold nz2; split <;> omega) (c := com a (aR a x) f)
    obtain ⟨cP, cW, cL, cD, cK, cR⟩ := c
    obtain ⟨wP, wW, wPW, wL, wK, wR⟩ := w
    simp only [T_X6_whoHearOf_19]
    rcases Nat.lt_or_ge x (aP a) with h | h
    · rw [cP, if_le_f h (by omega)]
      by_cases h0 : able >>> (zI x &&& 31) = 0
      · left
        rw [if_pos h0, orU_stop _ hx (fun j h1 h2 => ?_)]
        have := shr_0 (by omega) h0 j h1
        rw [hab j (by omega)] at this
        unfold whP hbP
        generalize tb set j = A at this ⊢
        generalize tb s j = B at this ⊢
        generalize decide (j ≠ f) = C at this ⊢
        cases A <;> cases B <;> cases C <;> first | rfl | exact absurd this (by decide)
      · right
        refine ⟨h, ?_⟩
        rw [if_neg h0, orU]
        cases hb1 : tb able x with
        | false =>
          rw [if_pos ((has_f (by omega)).mpr hb1), bd_some, zSu, if_neg ?_]
          rw [hab x (by omega)] at hb1
          unfold whP hbP
          generalize tb set x = A at hb1 ⊢
          generalize tb s x = B at hb1 ⊢
          generalize decide (x ≠ f) = C at hb1 ⊢
          cases A <;> cases B <;> cases C <;> first | exact absurd hb1 (by decide) | simp
        | true =>
          rw [if_neg (fun q => by rw [(has_f (by omega)).mp q] at hb1; cases hb1)]
          have e5 : whP a set f s (nz2 a s p) x = hea (aK a x) (com a (aR a x) f) (nz2 a s p x) := by
            rw [hab x (by omega)] at hb1
            unfold whP hbP
            generalize tb set x = A at hb1 ⊢
            generalize tb s x = B at hb1 ⊢
            generalize decide (x ≠ f) = C at hb1 ⊢
            cases A <;> cases B <;> cases C <;> first | rfl | exact absurd hb1 (by decide)
          simp (disch := omega) only [chk_N, z_tnN, cK, cR, e1, e2, e3, nm, z_lt, z_ite, bd_some, zSu]
          rw [show (if son a 3 (aR a x) s < son a 2 (aR a x) p then son a 2 (aR a x) p else son a 3 (aR a x) s) = nz2 a s p x from rfl, e4, bd_some, bI_z, e5]
          cases hea (aK a x) (com a (aR a x) f) (nz2 a s p x) <;> rfl
    · left
      rw [cP, if_le_t h (by omega), show x = aP a by omega]
