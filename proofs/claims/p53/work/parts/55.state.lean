def sm (lo hi : Nat) (σ σ' : Sg) : Prop := ∀ c, lo ≤ c → c < hi → ∀ n, σ'.1 c n = σ.1 c n ∧ σ'.2 c n = σ.2 c n
theorem sm_in {lo hi lo' hi' : Nat} {σ σ' : Sg} (h : sm lo hi σ σ') (h1 : lo ≤ lo') (h2 : hi' ≤ hi) : sm lo' hi' σ σ' := fun c hc1 hc2 n => h c (by omega) (by omega) n
theorem sm_rfl (lo hi : Nat) (σ : Sg) : sm lo hi σ σ := fun _ _ _ _ => ⟨rfl, rfl⟩
theorem sm_tr {lo hi : Nat} {σ σ1 σ2 : Sg} (h : sm lo hi σ σ1) (h2 : sm lo hi σ1 σ2) : sm lo hi σ σ2 := fun c a b n => ⟨((h2 c a b n).1).trans (h c a b n).1, ((h2 c a b n).2).trans (h c a b n).2⟩
theorem sm_wI {lo hi k j : Nat} {v : Int32} {σ : Sg} (h : k < lo ∨ hi ≤ k) : sm lo hi σ (wI σ k j v) := fun c h1 h2 n => by
  have := wI_o (S := σ) (k := k) (j := j) (v := v) c (by omega)
  rw [this.1, this.2]
  exact ⟨rfl, rfl⟩
theorem sm_wL {lo hi k j : Nat} {v : Int64} {σ : Sg} (h : k < lo ∨ hi ≤ k) : sm lo hi σ (wL σ k j v) := fun c h1 h2 n => by
  have := wL_o (S := σ) (k := k) (j := j) (v := v) c (by omega)
  rw [this.1, this.2]
  exact ⟨rfl, rfl⟩
theorem wI_1 {S : Sg} {k j : Nat} {v : Int32} {c n : Nat} : (wI S k j v).1 c n = if c = k then (if n = j then v else S.1 c n) else S.1 c n := by
  unfold wI
  show (if c = k then upd (S.1 c) j v else S.1 c) n = _
  by_cases h : c = k
  · rw [if_pos h, if_pos h]; rfl
  · rw [if_neg h, if_neg h]
theorem wI_2 {S : Sg} {k j : Nat} {v : Int32} : (wI S k j v).2 = S.2 := rfl
theorem wL_1 {S : Sg} {k j : Nat} {v : Int64} : (wL S k j v).1 = S.1 := rfl
theorem wL_2 {S : Sg} {k j : Nat} {v : Int64} {c n : Nat} : (wL S k j v).2 c n = if c = k then (if n = j then v else S.2 c n) else S.2 c n := by
  unfold wL
  show (if c = k then vp_updL (S.2 c) j v else S.2 c) n = _
  by_cases h : c = k
  · rw [if_pos h, if_pos h]; rfl
  · rw [if_neg h, if_neg h]
theorem wI_ne {S : Sg} {k j : Nat} {v : Int32} {c n : Nat} (h : c ≠ k ∨ n ≠ j) : (wI S k j v).1 c n = S.1 c n := by
  rw [wI_1]
  by_cases h1 : c = k
  · rw [if_pos h1, if_neg (by omega)]
  · rw [if_neg h1]
theorem wI_eq {S : Sg} {k j : Nat} {v : Int32} : (wI S k j v).1 k j = v := by rw [wI_1, if_pos rfl, if_pos rfl]
/-- the first cells that hold nothing between two calls: 7 .. 13, 47 .. 59 -/
def smS (σ σ' : Sg) : Prop := sm 0 7 σ σ' ∧ sm 14 47 σ σ' ∧ sm 60 105 σ σ'
theorem smS_rfl (σ : Sg) : smS σ σ := ⟨sm_rfl _ _ _, sm_rfl _ _ _, sm_rfl _ _ _⟩
theorem smS_tr {σ σ1 σ2 : Sg} (h : smS σ σ1) (h2 : smS σ1 σ2) : smS σ σ2 := ⟨sm_tr h.1 h2.1, sm_tr h.2.1 h2.2.1, sm_tr h.2.2 h2.2.2⟩
def RD (σ : Sg) : Prop := σ.1 (sb 1 + 2) 0 = 0
/-- a finding -/
theorem f8_find {σ : Sg} {f : Nat} (hf : f < 6) : F_X8_find σ (zI f) = some (-3, wI (wI σ 0 11 (zI f)) 5 f (σ.1 5 f + 1)) := by
  rw [F_X8_find]
  simp only [nm]
  rw [chk_N (by omega) (by omega), chk_N (by omega) (by omega), z_tnN (by omega), wI_ne (by omega)]
def inZ (l h z : Int) : Bool := decide (l ≤ z) && decide (z ≤ h)
theorem inZ_t {l h z : Int} (e : inZ l h z = true) : l ≤ z ∧ z ≤ h := by
  unfold inZ at e
  rw [Bool.and_eq_true, decide_eq_true_eq, decide_eq_true_eq] at e
  exact e
theorem inZ_f {l h z : Int} (e : inZ l h z = false) : z < l ∨ h < z := by
  unfold inZ at e
  rw [Bool.and_eq_false_iff, decide_eq_false_iff_not, decide_eq_false_iff_not] at e
  omega
theorem inZ_y {l h z : Int} (e : l ≤ z ∧ z ≤ h) : inZ l h z = true := by
  unfold inZ
  rw [decide_eq_true e.1, decide_eq_true e.2]; rfl
theorem inZ_no {l h z : Int} (e : z < l ∨ h < z) : inZ l h z = false := by
  unfold inZ
  rcases e with e | e
  · rw [decide_eq_false (by omega)]; rfl
  · rw [decide_eq_false (p := z ≤ h) (by omega), Bool.and_false]
theorem inZ_n {h z : Int} (e : inZ 0 h z = true) : ∃ n : Nat, z = n ∧ (n : Int) ≤ h := ⟨z.toNat, by have := inZ_t e; omega, by have := inZ_t e; omega⟩
theorem if_ltZ {α : Type} {a b : Int} {A B : α} (h1 : -2147483648 ≤ a) (h2 : a < 2147483648) (h3 : -2147483648 ≤ b) (h4 : b < 2147483648) : (if zI a < zI b then A else B) = if a < b then A else B := by
  by_cases h : a < b
  · rw [if_pos h, if_pos ((z_lt h1 h2 h3 h4).mpr h)]
  · rw [if_neg h, if_neg (fun q => h ((z_lt h1 h2 h3 h4).mp q))]
theorem if_leZ {α : Type} {a b : Int} {A B : α} (h1 : -2147483648 ≤ a) (h2 : a < 2147483648) (h3 : -2147483648 ≤ b) (h4 : b < 2147483648) : (if zI a ≤ zI b then A else B) = if a ≤ b then A else B := by
  by_cases h : a ≤ b
  · rw [if_pos h, if_pos ((z_le h1 h2 h3 h4).mpr h)]
  · rw [if_neg h, if_neg (fun q => h ((z_le h1 h2 h3 h4).mp q))]
theorem if_eqZ {α : Type} {a b : Int} {A B : α} (h1 : -2147483648 ≤ a) (h2 : a < 2147483648) (h3 : -2147483648 ≤ b) (h4 : b < 2147483648) : (if zI a = zI b then A else B) = if a = b then A else B := by
  by_cases h : a = b
  · rw [if_pos h, if_pos ((z_eq h1 h2 h3 h4).mpr h)]
  · rw [if_neg h, if_neg (fun q => h ((z_eq h1 h2 h3 h4).mp q))]
theorem if_lt0 {α : Type} {a : Int} {A B : α} (h1 : -2147483648 ≤ a) (h2 : a < 2147483648) : (if zI a < 0 then A else B) = if a < 0 then A else B := by
  rw [show (0 : Int32) = zI 0 from rfl]
  exact if_ltZ h1 h2 (by decide) (by decide)
theorem chk2 {α : Type} {l h a : Int} {A B : α} : (if a < l then A else if h < a then A else B) = if inZ l h a = true then B else A := by
  cases e : inZ l h a
  · rcases inZ_f e with e | e
    · rw [if_pos e]; rfl
    · rw [if_pos e, ite_self]; rfl
  · have := inZ_t e
    rw [if_neg (by omega), if_neg (by omega), if_pos rfl]
theorem chk2' {l h a : Int} : (if a < l then some (0 : Int32) else if h + 1 ≤ a then some (0 : Int32) else some (1 : Int32)) = some (bI (inZ l h a)) := by
  cases e : inZ l h a
  · rcases inZ_f e with e | e
    · rw [if_pos e]; rfl
    · rw [if_pos (c := h + 1 ≤ a) (by omega), ite_self]; rfl
  · have := inZ_t e
    rw [if_neg (by omega), if_neg (by omega)]; rfl
theorem zB_bI (b : Bool) {α : Type} {K : Option α} : chk (zB (bI b)) K = K := zB_b
abbrev bz (z : Int) : Prop := -2147483648 ≤ z ∧ z < 2147483648
theorem f8_isRow {S : Sg} {z : Int} (h : bz z) : F_X8_isRow S (zI z) = some (bI (inZ 0 5 z)) := by
  rw [F_X8_isRow, if_lt0 h.1 h.2, show (6 : Int32) = zI 6 from rfl, if_leZ (by decide) (by decide) h.1 h.2]
  exact chk2' (l := 0) (h := 5)
theorem f8_isText {S : Sg} {z : Int} (h : bz z) : F_X8_isText S (zI z) = some (bI (inZ 0 3 z)) := by
  rw [F_X8_isText, if_lt0 h.1 h.2, show (4 : Int32) = zI 4 from rfl, if_leZ (by decide) (by decide) h.1 h.2]
  exact chk2' (l := 0) (h := 3)
theorem f8_isThing {S : Sg} {z : Int} (h : bz z) : F_X8_isThing S (zI z) = some (bI (inZ 0 7 z)) := by
  rw [F_X8_isThing, if_lt0 h.1 h.2, show (8 : Int32) = zI 8 from rfl, if_leZ (by decide) (by decide) h.1 h.2]
  exact chk2' (l := 0) (h := 7)
theorem f8_isPlace {S : Sg} {z : Int} (h : bz z) : F_X8_isPlace S (zI z) = some (bI (inZ 0 2 z)) := by
  rw [F_X8_isPlace, if_lt0 h.1 h.2, show (3 : Int32) = zI 3 from rfl, if_leZ (by decide) (by decide) h.1 h.2]
  exact chk2' (l := 0) (h := 2)
theorem f8_isOne {S : Sg} {a : AS} (c : CG 0 S a) (w : WG a) {z : Int} (h : bz z) : F_X8_isOne S (zI z) = some (bI (inZ 0 (aP a - 1) z)) := by
  have := w.1
  rw [F_X8_isOne, c.1, if_lt0 h.1 h.2, if_leZ (by omega) (by omega) h.1 h.2, ← chk2' (l := 0) (h := aP a - 1), show ((aP a : Int) - 1 + 1) = aP a by omega]
theorem f8_isSet {S : Sg} {a : AS} (c : CG 0 S a) (w : WG a) {z : Int} (h : bz z) : F_X8_isSet S (zI z) = some (bI (inZ 0 ((2 ^ aP a - 1 : Nat) : Int) z)) := by
  have := w.1
  have := pow_le (P := aP a) (m := 7) w.1
  have h0 : 0 < 2 ^ aP a := Nat.pow_pos (by decide)
  rw [F_X8_isSet, F_X6_everyone, c.1, all_z (by omega), bd_some, if_lt0 h.1 h.2, if_ltZ (by omega) (by omega) h.1 h.2, chk2]
  cases inZ 0 ((2 ^ aP a - 1 : Nat) : Int) z <;> rfl
def roB (a : AS) (z : Int) : Bool := decide (0 < aW a) && inZ 0 (aW a) z
theorem roB_t {a : AS} {z : Int} (h : roB a z = true) : ∃ r : Nat, z = r ∧ r ≤ aW a ∧ 0 < aW a := by
  unfold roB at h
  rw [Bool.and_eq_true, decide_eq_true_eq] at h
  obtain ⟨n, rfl, h2⟩ := inZ_n h.2
  exact ⟨n, rfl, by omega, h.1⟩
def twB (a : AS) (x y : Int) : Bool := inZ 0 (aP a - 1) x && (inZ 0 (aP a - 1) y && !decide (x = y))
theorem twB_t {a : AS} {x y : Int} (h : twB a x y = true) : ∃ m n : Nat, x = m ∧ y = n ∧ m < aP a ∧ n < aP a ∧ m ≠ n := by
  unfold twB at h
  rw [Bool.and_eq_true, Bool.and_eq_true, Bool.not_eq_true', decide_eq_false_iff_not] at h
  obtain ⟨m, rfl, h1⟩ := inZ_n h.1
  obtain ⟨n, rfl, h2⟩ := inZ_n h.2.1
  exact ⟨m, n, rfl, rfl, by omega, by omega, by have := h.2.2; omega⟩
theorem f8_two {S : Sg} {a : AS} (c : CG 0 S a) (w : WG a) {x y : Int} (h : bz x) (h2 : bz y) : F_X8_areTwo S (zI x) (zI y) = some (bI (twB a x y)) := by
  rw [F_X8_areTwo, f8_isOne c w h, bd_some, bI_z, f8_isOne c w h2, bd_some, bI_z, if_eqZ h.1 h.2 h2.1 h2.2]
  unfold twB
  cases inZ 0 (aP a - 1) x <;> cases inZ 0 (aP a - 1) y <;> by_cases e : x = y <;> simp [e, bI]
