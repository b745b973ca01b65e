theorem nar_y (x : Int32) : vp_nar .byte x = x.toInt8.toInt32 := rfl
theorem nar_b (x : Int32) : vp_nar .boolean x = x &&& 1 := rfl
theorem tb_y {x : Int32} {j : Nat} (hj : j < 32) : tb x.toInt8.toInt32 j = if j < 8 then tb x j else tb x 7 := by
  have e : x.toInt8.toInt32.toBitVec = (x.toBitVec.signExtend 8).signExtend 32 := rfl
  unfold tb
  rw [e, BitVec.getLsbD_signExtend, decide_eq_true hj, Bool.true_and]
  by_cases h : j < 8
  · rw [if_pos h, if_pos h, BitVec.getLsbD_signExtend, decide_eq_true h, Bool.true_and, if_pos hj]
  · rw [if_neg h, if_neg h, BitVec.msb_eq_getLsbD_last, BitVec.getLsbD_signExtend]
    rfl
theorem tb_shl24 {x : Int32} {j : Nat} (hj : j < 32) : tb (x <<< ((24 : Int32) &&& 31)) j = (!decide (j < 24) && tb x (j - 24)) := by
  have e : (x <<< ((24 : Int32) &&& 31)).toBitVec = x.toBitVec <<< (((24 : Int32) &&& 31).toBitVec.smod 32#32).toNat := rfl
  have e2 : (((24 : Int32) &&& 31).toBitVec.smod 32#32).toNat = 24 := by decide
  unfold tb
  rw [e, e2, BitVec.getLsbD_shiftLeft, decide_eq_true hj, Bool.true_and]
theorem shb {x : Int32} : (x <<< ((24 : Int32) &&& 31)) >>> ((24 : Int32) &&& 31) = x.toInt8.toInt32 := by
  refine tb_ext fun j hj => ?_
  rw [tb_y hj]
  have e : ((x <<< ((24 : Int32) &&& 31)) >>> ((24 : Int32) &&& 31)).toBitVec = (x <<< ((24 : Int32) &&& 31)).toBitVec.sshiftRight (((24 : Int32) &&& 31).toBitVec.smod 32#32).toNat := rfl
  have e2 : (((24 : Int32) &&& 31).toBitVec.smod 32#32).toNat = 24 := by decide
  rw [tb, e, e2, BitVec.getLsbD_sshiftRight, BitVec.msb_eq_getLsbD_last, show (x <<< ((24 : Int32) &&& 31)).toBitVec.getLsbD (32 - 1) = tb (x <<< ((24 : Int32) &&& 31)) 31 from rfl, tb_shl24 (by decide)]
  by_cases h : j < 8
  · rw [if_pos h, if_pos (by omega), show (x <<< ((24 : Int32) &&& 31)).toBitVec.getLsbD (24 + j) = tb (x <<< ((24 : Int32) &&& 31)) (24 + j) from rfl, tb_shl24 (by omega), decide_eq_false (by omega), decide_eq_false (by omega), show 24 + j - 24 = j by omega]; rfl
  · rw [if_neg h, if_neg (by omega), decide_eq_false (by omega)]; rfl
theorem y_y (x : Int32) : x.toInt8.toInt32.toInt8.toInt32 = x.toInt8.toInt32 := by
  refine tb_ext fun j hj => ?_
  rw [tb_y hj, tb_y hj]
  by_cases h : j < 8
  · rw [if_pos h, if_pos h]
  · rw [if_neg h, if_neg h, tb_y (by decide), if_pos (by decide)]
theorem y_b (x : Int32) : ∃ z : Int, -128 ≤ z ∧ z ≤ 127 ∧ x.toInt8.toInt32 = zI z := ⟨x.toInt8.toInt32.toInt, by rw [Int8.toInt_toInt32]; exact Int8.le_toInt _, by rw [Int8.toInt_toInt32]; have := Int8.toInt_lt x.toInt8; omega, z_of _⟩
def tx8 (u : Nat) (n : Nat) (S : Sg) : Sg := wr (26 + 2 * u + 1) 0 (fun _ => zI 32) (wI S (26 + 2 * u) 1 (zI n)) 80
theorem nar_32 : vp_nar .byte (32 : Int32) = zI 32 := by rw [nar_y]; decide
theorem f7_begin {S : Sg} {u n : Nat} : F_X7_begin u S (zI n) = some (tx8 u n S) := by
  have q := loopE (fun m x => T_X7_begin_7 u m (zI x) (wr (26 + 2 * u + 1) 0 (fun _ => zI 32) (wI S (26 + 2 * u) 1 (zI n)) x)) 80 (some (tx8 u n S)) (by omega) (fun m => by
    simp only [T_X7_begin_7]
    rw [show (80 : Int32) = zI ((80 : Nat) : Int) from rfl, if_le_t (by omega) (by omega)]; rfl) (fun m x hx => by
    simp only [T_X7_begin_7]
    rw [show (80 : Int32) = zI ((80 : Nat) : Int) from rfl, if_le_f hx (by omega), chk_N (by omega) (by omega), z_tnN (by omega), nm, zSu, wr, Nat.zero_add, nar_32])
  exact bd_t q
theorem f7_miss {S : Sg} {u : Nat} {z : Int} (h : S.1 (26 + 2 * u) 1 = zI z) (h1 : -1 ≤ z) (h2 : z ≤ 80) : F_X7_isMissing u S = some (bI (decide (z < 0))) := by
  rw [F_X7_isMissing, h, if_0le (by omega) (by omega)]
  by_cases q : z < 0
  · rw [if_neg (by omega), decide_eq_true q]; rfl
  · rw [if_pos (by omega), decide_eq_false q]; rfl
theorem f7_has {S : Sg} {u : Nat} {z y : Int} (h : S.1 (26 + 2 * u) 1 = zI z) (h1 : -1 ≤ z) (h2 : z ≤ 80) (hy : bz y) : F_X7_has u S (zI y) = some (bI (inZ 0 (z - 1) y)) := by
  rw [F_X7_has, h, if_lt0 hy.1 hy.2, if_leZ (by omega) (by omega) hy.1 hy.2, ← chk2' (l := 0) (h := z - 1), show z - 1 + 1 = z by omega]
