/-! ===== texts ===== -/
theorem nar_y (x : Int32) : vp_nar .byte x = x.toInt8.toInt32 := rfl
theorem nar_b (x : Int32) : vp_nar .boolean x = x &&& 1 := rfl
theorem tb_y {x : Int32} {j : Nat} (hj : j < 32) : tb x.toInt8.toInt32 j = if j < 8 then tb x j else tb x 7 := by
  have e : x.toInt8.toInt32.toBitVec = (x.toBitVec.signExtend 8).signExtend 32 := rfl
  unfold tb
  rw [e, BitVec.getLsbD_signExtend, decide_eq_true hj, Bool.true_and]
  by_cases h : j < 8
  · rw [if_pos h, if_pos h, BitVec.getLsbD_signExtend, decide_eq_true h, Bool.true_and, if_pos hj]
  · rw [if_neg h, if_neg h, BitVec.msb_eq_getLsbD_last, BitVec.getLsbD_signExtend]
    rfl
theorem tb_shl24 {x : Int32} {j : Nat} (hj : j < 32) : tb (x <<< ((24 : Int32) &&& 31)) j = (!decide (j < 24) && tb x (j - 24)) := by
  have e : (x <<< ((24 : Int32) &&& 31)).toBitVec = x.toBitVec <<< (((24 : Int32) &&& 31).toBitVec.smod 32#32).toNat := rfl
  have e2 : (((24 : Int32) &&& 31).toBitVec.smod 32#32).toNat = 24 := by decide
  unfold tb
  rw [e, e2, BitVec.getLsbD_shiftLeft, decide_eq_true hj, Bool.true_and]
theorem shb {x : Int32} : (x <<< ((24 : Int32) &&& 31)) >>> ((24 : Int32) &&& 31) = x.toInt8.toInt32 := by
  refine tb_ext fun j hj => ?_
  rw [tb_y hj]
  have e : ((x <<< ((24 : Int32) &&& 31)) >>> ((24 : Int32) &&& 31)).toBitVec = (x <<< ((24 : Int32) &&& 31)).toBitVec.sshiftRight (((24 : Int32) &&& 31).toBitVec.smod 32#32).toNat := rfl
  have e2 : (((24 : Int32) &&& 31).toBitVec.smod 32#32).toNat = 24 := by decide
  rw [tb, e, e2, BitVec.getLsbD_sshiftRight, BitVec.msb_eq_getLsbD_last, show (x <<< ((24 : Int32) &&& 31)).toBitVec.getLsbD (32 - 1) = tb (x <<< ((24 : Int32) &&& 31)) 31 from rfl, tb_shl24 (by decide)]
  by_cases h : j < 8
  · rw [if_pos h, if_pos (by omega), show (x <<< ((24 : Int32) &&& 31)).toBitVec.getLsbD (24 + j) = tb (x <<< ((24 : Int32) &&& 31)) (24 + j) from rfl, tb_shl24 (by omega), decide_eq_false (by omega), decide_eq_false (by omega), show 24 + j - 24 = j by omega]; rfl
  · rw [if_neg h, if_neg (by omega), decide_eq_false (by omega)]; rfl
theorem y_y (x : Int32) : x.toInt8.toInt32.toInt8.toInt32 = x.toInt8.toInt32 := by
  refine tb_ext fun j hj => ?_
  rw [tb_y hj, tb_y hj]
  by_cases h : j < 8
  · rw [if_pos h, if_pos h]
  · rw [if_neg h, if_neg h, tb_y (by decide), if_pos (by decide)]
theorem y_b (x : Int32) : ∃ z : Int, -128 ≤ z ∧ z ≤ 127 ∧ x.toInt8.toInt32 = zI z := ⟨x.toInt8.toInt32.toInt, by rw [Int8.toInt_toInt32]; exact Int8.le_toInt _, by rw [Int8.toInt_toInt32]; have := Int8.toInt_lt x.toInt8; omega, z_of _⟩
/-! a text laid anew -/
def tx8 (u : Nat) (n : Nat) (S : Sg) : Sg := wr (26 + 2 * u + 1) 0 (fun _ => zI 32) (wI S (26 + 2 * u) 1 (zI n)) 80
theorem nar_32 : vp_nar .byte (32 : Int32) = zI 32 := by rw [nar_y]; decide
theorem f7_begin {S : Sg} {u n : Nat} : F_X7_begin u S (zI n) = some (tx8 u n S) := by
  have q := loopE (fun m x => T_X7_begin_7 u m (zI x) (wr (26 + 2 * u + 1) 0 (fun _ => zI 32) (wI S (26 + 2 * u) 1 (zI n)) x)) 80 (some (tx8 u n S)) (by omega) (fun m => by
    simp only [T_X7_begin_7]
    rw [show (80 : Int32) = zI ((80 : Nat) : Int) from rfl, if_le_t (by omega) (by omega)]; rfl) (fun m x hx => by
    simp only [T_X7_begin_7]
    rw [show (80 : Int32) = zI ((80 : Nat) : Int) from rfl, if_le_f hx (by omega), chk_N (by omega) (by omega), z_tnN (by omega), nm, zS, wr, Nat.zero_add, nar_32])
  exact bd_t q
def tx9 (u : Nat) (n : Nat) (S : Sg) : Sg := wr 4 (80 * u) (fun _ => zI 32) (wI S 3 u (zI n)) 80
theorem f9_textL {S : Sg} {u n : Nat} (hu : u < 4) : T_X9_text_34 (zI u) (zI n) FU 0 (wI S 3 u (zI n)) = some (tx9 u n S) := by
  refine loopE (fun m x => T_X9_text_34 (zI u) (zI n) m (zI x) (wr 4 (80 * u) (fun _ => zI 32) (wI S 3 u (zI n)) x)) 80 (some (tx9 u n S)) (by omega) (fun m => ?_) (fun m x hx => ?_)
  · simp only [T_X9_text_34]
    rw [show (80 : Int32) = zI ((80 : Nat) : Int) from rfl, if_le_t (by omega) (by omega)]; rfl
  · simp only [T_X9_text_34]
    rw [zMA (m := 80) (c := 80) rfl, show (80 : Int32) = zI ((80 : Nat) : Int) from rfl, if_le_f hx (by omega), chk_N (by omega) (by omega), z_tnN (by omega), nm, zS, wr]; rfl
theorem s_text : st_text R := by
  intro σ μ a1 a2 h
  obtain ⟨x, hx1, hx2, rfl⟩ := arg a1
  obtain ⟨y, hy1, hy2, rfl⟩ := arg a2
  unfold F_X8_text F_X9_text
  rw [f8_isText ⟨hx1, hx2⟩, f9_isText ⟨hx1, hx2⟩, bd_some, bd_some, show (80 : Int32) = zI 80 from rfl, if_leZ hy1 hy2 (by decide) (by decide), if_leZ hy1 hy2 (by decide) (by decide), if_0le hy1 hy2, if_0le hy1 hy2]
  cases e : inZ 0 3 x
  · exact ⟨-1, σ, μ, rfl, rfl, h⟩
  rw [t0, t0]
  by_cases q : y ≤ 80
  case neg =>
    rw [if_neg q, if_neg q]
    exact ⟨-1, σ, μ, rfl, rfl, h⟩
  rw [if_pos q, if_pos q]
  by_cases q2 : 0 ≤ y
  case neg =>
    rw [if_neg q2, if_neg q2, zN5, f8_find (by decide), f9_find (by decide)]
    exact ⟨_, _, _, rfl, rfl, R_find h (f := 5) (by decide)⟩
  obtain ⟨u, rfl, hu⟩ := inZ_n e
  obtain ⟨n, rfl⟩ : ∃ n : Nat, y = n := ⟨y.toNat, by omega⟩
  have hu4 : u < 4 := by omega
  rw [if_pos q2, if_pos q2, chk_N (by omega) (by omega), chk_N (by omega) (by omega), z_tnN (by omega), f7_begin, nm, f9_textL hu4, bd_some, bd_some]
  refine ⟨_, _, _, rfl, rfl, R_texts h (sm_tr (sm_wI (by omega)) (wr_sm (by omega) _)) (sm_tr (sm_wI (by omega)) (wr_sm (by omega) _)) (fun c n h1 h2 => by rw [tx9, wr_n (.inl h2), wI_ne (.inl h1)]) (fun r hr => ?_)⟩
  obtain ⟨⟨z, z1, z2, z3, z4⟩, h2⟩ := h.2.2.2.1 r hr
  by_cases e : r = u
  · subst e
    refine ⟨⟨n, by omega, by omega, ?_, ?_⟩, fun j hj => ⟨32, by decide, by decide, ?_, ?_⟩⟩
    · rw [tx8, wr_n (by omega), wI_eq]
    · rw [tx9, wr_n (by omega), wI_eq]
    · rw [tx8, wr_e0 hj]
    · rw [tx9, wr_e hj]
  · refine ⟨⟨z, z1, z2, ?_, ?_⟩, fun j hj => ?_⟩
    · rw [tx8, wr_n (by omega), wI_ne (by omega)]; exact z3
    · rw [tx9, wr_n (by omega), wI_ne (by omega)]; exact z4
    · rw [tx8, wr_n (by omega), wI_ne (by omega), tx9, wr_n (by omega), wI_ne (by omega)]
      exact h2 j hj
theorem f7_miss {S : Sg} {u : Nat} {z : Int} (h : S.1 (26 + 2 * u) 1 = zI z) (h1 : -1 ≤ z) (h2 : z ≤ 80) : F_X7_isMissing u S = some (bI (decide (z < 0))) := by
  rw [F_X7_isMissing, h, if_0le (by omega) (by omega)]
  by_cases q : z < 0
  · rw [if_neg (by omega), decide_eq_true q]; rfl
  · rw [if_pos (by omega), decide_eq_false q]; rfl
theorem f7_has {S : Sg} {u : Nat} {z y : Int} (h : S.1 (26 + 2 * u) 1 = zI z) (h1 : -1 ≤ z) (h2 : z ≤ 80) (hy : bz y) : F_X7_has u S (zI y) = some (bI (inZ 0 (z - 1) y)) := by
  rw [F_X7_has, h, if_lt0 hy.1 hy.2, if_leZ (by omega) (by omega) hy.1 hy.2, ← chk2' (l := 0) (h := z - 1), show z - 1 + 1 = z by omega]
theorem s_put : st_put R := by
  intro σ μ a1 a2 v h
  obtain ⟨x, hx1, hx2, rfl⟩ := arg a1
  obtain ⟨y, hy1, hy2, rfl⟩ := arg a2
  unfold F_X8_put F_X9_put
  rw [f8_isText ⟨hx1, hx2⟩, f9_isText ⟨hx1, hx2⟩, bd_some, bd_some]
  cases e : inZ 0 3 x
  · exact ⟨-1, σ, μ, rfl, rfl, h⟩
  obtain ⟨u, rfl, hu⟩ := inZ_n e
  have hu4 : u < 4 := by omega
  have cu : ∀ {α : Type} (K : Option α), chk (inB (zI u) 4) K = K := fun K => chk_N (by omega) (by omega)
  obtain ⟨⟨z, z1, z2, z3, z4⟩, hr⟩ := h.2.2.2.1 u hu4
  simp only [cu, nm]
  rw [t0, t0, z_tnN (by omega), f7_miss z3 z1 z2, z4, bd_some, if_0le (by omega) (by omega)]
  by_cases q : z < 0
  · rw [decide_eq_true q, if_neg (c := 0 ≤ z) (by omega), t0, zN1, f8_find (by decide), f9_find (by decide)]
    exact ⟨_, _, _, rfl, rfl, R_find h (f := 1) (by decide)⟩
  rw [decide_eq_false q, if_pos (c := 0 ≤ z) (by omega), f0, f7_has z3 z1 z2 ⟨hy1, hy2⟩, z_1, z_sub, inZ_in (l := 0) (h := z - 1) ⟨hy1, hy2⟩ (by decide) (zJ_z (by omega) (by omega)) (by decide) (by omega), bd_some, bd_some]
  cases e2 : inZ 0 (z - 1) y
  · rw [f0, f0, zN2, f8_find (by decide), f9_find (by decide)]
    exact ⟨_, _, _, rfl, rfl, R_find h (f := 2) (by decide)⟩
  have e3 := inZ_t e2
  obtain ⟨n, rfl⟩ : ∃ n : Nat, y = n := ⟨y.toNat, by omega⟩
  obtain ⟨w, w1, w2, w3, w4⟩ := hr n (by omega)
  rw [t0, t0, zMA (m := 80) (c := 80) rfl, chk_N (by omega) (by omega), chk_N (by omega) (by omega), chk_N (by omega) (by omega), chk_N (by omega) (by omega), z_tnN (by omega), z_tnN (by omega), shb, nar_y, nar_y, y_y, w3, w4]
  refine ⟨_, _, _, rfl, rfl, R_texts h (sm_wI (by omega)) (sm_wI (by omega)) (fun c n h1 h2 => wI_ne (.inl h2)) (fun r hr => ?_)⟩
  obtain ⟨⟨z, z1, z2, z3, z4⟩, h2⟩ := h.2.2.2.1 r hr
  refine ⟨⟨z, z1, z2, ?_, ?_⟩, fun j hj => ?_⟩
  · rw [wI_ne (by omega)]; exact z3
  · rw [wI_ne (by omega)]; exact z4
  · by_cases e4 : r = u ∧ j = n
    · obtain ⟨t, t1, t2, t3⟩ := y_b v
      rw [e4.1, e4.2, wI_eq, wI_eq]
      exact ⟨t, t1, t2, t3, t3⟩
    · rw [wI_ne (by omega), wI_ne (by omega)]
      exact h2 j hj
