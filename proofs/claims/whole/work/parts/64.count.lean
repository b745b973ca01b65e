/-! ===== counts ===== -/
theorem bI01 {b : Bool} : (if b = true then some (1 : Int32) else some 0) = some (bI b) := by cases b <;> rfl
theorem cnt_b {n : Nat} {p : Nat → Bool} : zI (cnt n p) + bI (p n) = zI (cnt (n + 1) p) := cnt_s
theorem f6_of {i : Nat} {S : Sg} {a : AS} (c : CG i S a) (w : WG a) {v : Nat} (hv : v < 6) : F_X6_howManyOf i S (zI v) = some (zI (cnt (aP a) (fun x => isk (aK a x) v))) := by
  have wP := w.1
  have q := loopE (fun n x => T_X6_howManyOf_4 i S (zI v) n (zI (cnt x (fun x => isk (aK a x) v))) (zI x)) (aP a) (some (zI (cnt (aP a) (fun x => isk (aK a x) v)))) (by omega) (fun n => by
    simp only [T_X6_howManyOf_4]
    rw [c.1, if_le_t (by omega) (by omega)]) (fun n x hx => by
    simp only [T_X6_howManyOf_4]
    rw [c.1, if_le_f hx (by omega), chk_N (by omega) (by omega), z_tnN (by omega), c.2.2.2.2.1 x hx, f2_isof (w.2.2.2.2.1 x) hv, bd_some, bI_z, bI01, bd_some, nm, cnt_b (p := fun x => isk (aK a x) v), zS])
  exact bd_t q
theorem f9_of {S : Sg} {a : AS} (c : MG S a) (w : WG a) {v : Nat} (hv : v < 6) (hv0 : 0 < v) : F_X9_manyOf S (zI v) = some (zI (cnt (aP a) (fun x => isk (aK a x) v))) := by
  have wP := w.1
  have q := loopE (fun n x => T_X9_manyOf_4 S (zI v) n (zI (cnt x (fun x => isk (aK a x) v))) (zI x)) (aP a) (some (zI (cnt (aP a) (fun x => isk (aK a x) v)))) (by omega) (fun n => by
    simp only [T_X9_manyOf_4]
    rw [c.1, if_le_t (by omega) (by omega)]) (fun n x hx => by
    simp only [T_X9_manyOf_4]
    rw [c.1, if_le_f hx (by omega), chk_N (by omega) (by omega), z_tnN (by omega), c.2.2.2.1 x hx, f9_isof (w.2.2.2.2.1 x) hv hv0, bd_some, bI_z, bI01, bd_some, nm, cnt_b (p := fun x => isk (aK a x) v), zS])
  exact bd_t q
theorem f8_rows {σ μ : Sg} (h : RR σ μ) : F_X8_howManyRows σ = some (zI (cnt 6 (fun r => !decide (μ.1 1 r < 0)))) := by
  have q := loopE (fun n x => T_X8_howManyRows_4 σ n (zI (cnt x (fun r => !decide (μ.1 1 r < 0)))) (zI x)) 6 (some (zI (cnt 6 (fun r => !decide (μ.1 1 r < 0))))) (by omega) (fun n => by
    simp only [T_X8_howManyRows_4]
    rw [show (6 : Int32) = zI ((6 : Nat) : Int) from rfl, if_le_t (by omega) (by omega)]) (fun n x hx => by
    obtain ⟨⟨z, z1, z2, z3, z4⟩, _⟩ := h x hx
    simp only [T_X8_howManyRows_4]
    rw [show (6 : Int32) = zI ((6 : Nat) : Int) from rfl, if_le_f hx (by omega), chk_N (by omega) (by omega), z_tnN (by omega), f4_miss z3 z1 z2, bd_some, zS x, ← cnt_b, z4]
    have e : decide (zI z < 0) = decide (z < 0) := decide_eq_decide.mpr (z_lt (b := 0) (by omega) (by omega) (by decide) (by decide))
    rw [e]
    cases decide (z < 0) <;> rfl)
  exact bd_t q
theorem f8_texts {σ μ : Sg} (h : RT σ μ) : F_X8_howManyTexts σ = some (zI (cnt 4 (fun r => !decide (μ.1 3 r < 0)))) := by
  have q := loopE (fun n x => T_X8_howManyTexts_4 σ n (zI (cnt x (fun r => !decide (μ.1 3 r < 0)))) (zI x)) 4 (some (zI (cnt 4 (fun r => !decide (μ.1 3 r < 0))))) (by omega) (fun n => by
    simp only [T_X8_howManyTexts_4]
    rw [show (4 : Int32) = zI ((4 : Nat) : Int) from rfl, if_le_t (by omega) (by omega)]) (fun n x hx => by
    obtain ⟨⟨z, z1, z2, z3, z4⟩, _⟩ := h x hx
    simp only [T_X8_howManyTexts_4]
    rw [show (4 : Int32) = zI ((4 : Nat) : Int) from rfl, if_le_f hx (by omega), chk_N (by omega) (by omega), z_tnN (by omega), f7_miss z3 z1 z2, bd_some, zS x, ← cnt_b, z4]
    have e : decide (zI z < 0) = decide (z < 0) := decide_eq_decide.mpr (z_lt (b := 0) (by omega) (by omega) (by decide) (by decide))
    rw [e]
    cases decide (z < 0) <;> rfl)
  exact bd_t q
theorem f9_there {S : Sg} {k kn : Nat} (hk : kn ≤ 80) : F_X9_there k kn S = some (zI (cnt kn (fun r => !decide (S.1 k r < 0)))) := by
  have e0 : Int32.ofNat kn = zI ((kn : Nat) : Int) := Int32.ofInt_eq_ofNat.symm
  have q := loopE (fun n x => T_X9_there_4 k kn S n (zI (cnt x (fun r => !decide (S.1 k r < 0)))) (zI x)) kn (some (zI (cnt kn (fun r => !decide (S.1 k r < 0))))) (by omega) (fun n => by
    simp only [T_X9_there_4]
    rw [e0, if_le_t (by omega) (by omega)]) (fun n x hx => by
    simp only [T_X9_there_4]
    rw [e0, if_le_f hx (by omega), chk_N (by omega) (by omega), z_tnN (by omega), zS x, ← cnt_b]
    by_cases q : S.1 k x < 0
    · rw [if_pos q, decide_eq_true q]; rfl
    · rw [if_neg q, decide_eq_false q]; rfl)
  exact bd_t q
def kpt (μ : Sg) (k : Nat) : Bool := !decide (μ.1 25 k = 0)
theorem RK_4 {σ μ : Sg} (h : RK σ μ) {k : Nat} (hk : k < 3) : σ.1 4 k = bI (kpt μ k) ∧ μ.1 25 k = bI (kpt μ k) := by
  unfold kpt
  rcases h k hk with ⟨h1, h2⟩ | ⟨h1, h2, h3⟩
  · rw [h1, h2]; exact ⟨rfl, rfl⟩
  · rw [h1, h2]; exact ⟨rfl, rfl⟩
theorem f8_kept {σ μ : Sg} (h : RK σ μ) : F_X8_howManyKept σ = some (zI (cnt 3 (kpt μ))) := by
  have q := loopE (fun n x => T_X8_howManyKept_4 σ n (zI (cnt x (kpt μ))) (zI x)) 3 (some (zI (cnt 3 (kpt μ)))) (by omega) (fun n => by
    simp only [T_X8_howManyKept_4]
    rw [show (3 : Int32) = zI ((3 : Nat) : Int) from rfl, if_le_t (by omega) (by omega)]) (fun n x hx => by
    simp only [T_X8_howManyKept_4]
    rw [show (3 : Int32) = zI ((3 : Nat) : Int) from rfl, if_le_f hx (by omega), chk_N (by omega) (by omega), z_tnN (by omega), (RK_4 h hx).1, bI_z, zS x, ← cnt_b]
    cases kpt μ x <;> rfl)
  exact bd_t q
theorem kept3 {μ : Sg} : (bI (kpt μ 0) + bI (kpt μ 1)) + bI (kpt μ 2) = zI (cnt 3 (kpt μ)) := by
  rw [cnt, cnt, cnt, cnt]
  cases kpt μ 0 <;> cases kpt μ 1 <;> cases kpt μ 2 <;> decide
theorem bI10 {b : Bool} : (if bI b = 0 then some (0 : Int32) else some 1) = some (bI b) := by cases b <;> rfl
theorem f9_kept {σ μ : Sg} (h : RK σ μ) : chk (inB (0 : Int32) 3) (bd (if (μ.1 25 (0 : Int32).toNatClampNeg) = 0 then (some (0 : Int32)) else (some (1 : Int32))) (fun x19 => chk (inB (1 : Int32) 3) (bd (if (μ.1 25 (1 : Int32).toNatClampNeg) = 0 then (some (0 : Int32)) else (some (1 : Int32))) (fun x24 => chk (inB (2 : Int32) 3) (bd (if (μ.1 25 (2 : Int32).toNatClampNeg) = 0 then (some (0 : Int32)) else (some (1 : Int32))) (fun x29 => some ((x19 + x24) + x29))))))) = some (zI (cnt 3 (kpt μ))) := by
  rw [show (0 : Int32).toNatClampNeg = 0 from by decide, show (1 : Int32).toNatClampNeg = 1 from by decide, show (2 : Int32).toNatClampNeg = 2 from by decide, (RK_4 h (k := 0) (by decide)).2, (RK_4 h (k := 1) (by decide)).2, (RK_4 h (k := 2) (by decide)).2, bI10, bI10, bI10, bd_some, ← kept3]
  rw [chk_t (by decide), chk_t (by decide), bd_some, chk_t (by decide), bd_some]
theorem eqb {α : Type} {X : Option α} (h : ∃ r, X = some r) : ∃ r, X = some r ∧ X = some r := by
  obtain ⟨r, h⟩ := h
  exact ⟨r, h, h⟩
theorem s_count : st_count R := by
  intro σ μ a1 h
  obtain ⟨⟨a, ⟨wg, wt, wh⟩, ⟨cg, ct, ch⟩, ⟨mg, mt, mh⟩⟩, hA, hR, hT, hD, hK⟩ := h
  unfold F_X8_count F_X9_count
  rw [f9_kept hK, cg.1, mg.1, cg.2.1, mg.2.1, ct.1, mt.1, ch.1, mh.1, zN1, f6_of cg wg (by decide), f9_of mg wg (by decide) (by decide), zN2, f6_of cg wg (by decide), f9_of mg wg (by decide) (by decide), f8_rows hR, f9_there (by decide), f8_texts hT, f9_there (by decide), f8_kept hK]
  refine eqb ?_
  simp only [bd_some]
  repeat' split
  all_goals exact ⟨_, rfl⟩
