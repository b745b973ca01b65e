/-! ===== the hours: bits of the long ones ===== -/
theorem sh_u : ∀ t, t < 8 → ((((8 : Int32) * zI ((t : Nat) : Int)).toInt64.toUInt64 &&& Int64.toUInt64 63).toBitVec % 64#64).toNat = 8 * t := by decide +kernel
theorem sh_s : ∀ t, t < 8 → ((((8 : Int32) * zI ((t : Nat) : Int)).toInt64 &&& 63).toBitVec.smod 64#64).toNat = 8 * t := by decide +kernel
theorem lb_lushr {x : Int64} {t j : Nat} (ht : t < 8) : lb (lushr x ((8 : Int32) * zI t)) j = lb x (8 * t + j) := by
  have e : (lushr x ((8 : Int32) * zI t)).toBitVec = x.toBitVec >>> ((((8 : Int32) * zI ((t : Nat) : Int)).toInt64.toUInt64 &&& Int64.toUInt64 63).toBitVec % 64#64).toNat := rfl
  unfold lb
  rw [e, sh_u t ht, BitVec.getLsbD_ushiftRight]
theorem lb_lshl {x : Int64} {t j : Nat} (ht : t < 8) (hj : j < 64) : lb (lshl x ((8 : Int32) * zI t)) j = (!decide (j < 8 * t) && lb x (j - 8 * t)) := by
  have e : (lshl x ((8 : Int32) * zI t)).toBitVec = x.toBitVec <<< ((((8 : Int32) * zI ((t : Nat) : Int)).toInt64 &&& 63).toBitVec.smod 64#64).toNat := rfl
  unfold lb
  rw [e, sh_s t ht, BitVec.getLsbD_shiftLeft, decide_eq_true hj, Bool.true_and]
theorem lb_or (x y : Int64) (j : Nat) : lb (x ||| y) j = (lb x j || lb y j) := BitVec.getLsbD_or
theorem tb_32 {x : Int64} {j : Nat} (hj : j < 32) : tb (Int64.toInt32 x) j = lb x j := by
  have e : (Int64.toInt32 x).toBitVec = x.toBitVec.signExtend 32 := rfl
  unfold tb lb
  rw [e, BitVec.getLsbD_signExtend, decide_eq_true hj, Bool.true_and, if_pos (by omega)]
theorem lb_64 {s : Int32} {j : Nat} (hs : sub 31 s) (hj : j < 64) : lb (Int32.toInt64 s) j = tb s j := by
  have e : (Int32.toInt64 s).toBitVec = s.toBitVec.signExtend 64 := rfl
  unfold tb lb
  rw [e, BitVec.getLsbD_signExtend, decide_eq_true hj, Bool.true_and]
  by_cases h : j < 32
  · rw [if_pos h]
  · rw [if_neg h, show s.toBitVec.getLsbD j = tb s j from rfl, tb_ge (by omega), BitVec.msb_eq_getLsbD_last]
    exact hs 31 (by decide)
theorem tb_255 {j : Nat} (hj : j < 32) : tb 255 j = decide (j < 8) := by
  have : ∀ j : Nat, j < 32 → tb 255 j = decide (j < 8) := by decide +kernel
  exact this j hj
theorem f1_who {i : Nat} {S : Sg} {f : Nat → Int32} (h : pk (S.2 (sb i + 8) 4) f) {t : Nat} (ht : t < 8) (hs : sub 8 (f t)) : F_X1_whoKnow i S (zI t) = some (f t) := by
  rw [F_X1_whoKnow]
  refine congrArg some (tb_ext fun j hj => ?_)
  rw [tb_and, tb_255 hj, tb_32 hj, lb_lushr ht]
  by_cases q : j < 8
  · rw [decide_eq_true q, Bool.and_true, h t j ht q]
  · rw [decide_eq_false q, Bool.and_false, hs j (by omega)]
theorem pk_learn {x : Int64} {f : Nat → Int32} (h : pk x f) {t : Nat} (ht : t < 8) {s : Int32} (hs : sub 8 s) : pk (x ||| lshl (Int32.toInt64 s) ((8 : Int32) * zI t)) (fun k => if k = t then f t ||| s else f k) := by
  intro k j hk hj
  rw [lb_or, lb_lshl ht (by omega), h k j hk hj, lb_64 (sub_mono (by decide) hs) (by omega)]
  show _ = tb (if k = t then f t ||| s else f k) j
  by_cases e : k = t
  · subst e
    rw [if_pos rfl, tb_or, decide_eq_false (by omega), show 8 * k + j - 8 * k = j by omega]; rfl
  · rw [if_neg e]
    by_cases q : 8 * k + j < 8 * t
    · rw [decide_eq_true q]; simp
    · rw [decide_eq_false q, hs _ (by omega)]; simp
theorem pk_0 : pk 0 (fun _ => 0) := fun t j _ _ => by
  rw [tb_0]
  exact BitVec.getLsbD_zero
/-! what one knows -/
theorem or1 {p : Nat → Bool} {t : Nat} : orU t p ||| (if p t = true then ((1 : Int32) <<< (zI t &&& 31)) else 0) = orU (t + 1) p := by
  rw [orU]
  cases p t
  · exact or_0 _
  · rfl
theorem f1_things {i : Nat} {S : Sg} {a : AS} (h : pk (S.2 (sb i + 8) 4) (aN a)) (w : WG a) (wh : WH a) {f : Nat} (hf : f < aP a) : F_X1_thingsOf i S (zI f) = some (orU 8 (fun t => tb (aN a t) f)) := by
  have wP := w.1
  have k := loopE (fun n x => T_X1_thingsOf_4 i S (zI f) n (orU x (fun t => tb (aN a t) f)) (zI x)) 8 (some (orU 8 (fun t => tb (aN a t) f))) (by omega) (fun n => by
    simp only [T_X1_thingsOf_4]
    rw [show (8 : Int32) = zI ((8 : Nat) : Int) from rfl, if_le_t (by omega) (by omega)]) (fun n x hx => by
    simp only [T_X1_thingsOf_4]
    rw [show (8 : Int32) = zI ((8 : Nat) : Int) from rfl, if_le_f hx (by omega), f1_who h hx (sub_mono (by omega) (wh.2.2.1 x)), bd_some, nm, zS, ← or1]
    congr 2
    cases e : tb (aN a x) f
    · rw [(has_f (by omega)).mpr e, if_neg (by decide)]
      have : ∀ x, x < 8 → (0 : Int32) <<< (zI ((x : Nat) : Int) &&& 31) = 0 := by decide +kernel
      exact this x hx
    · rw [(has_1 (by omega)).mpr e, if_pos rfl])
  rw [F_X1_thingsOf, show T_X1_thingsOf_4 i S (zI f) FU 0 0 = _ from k]; rfl
theorem f9_things {S : Sg} {a : AS} (h : MH S a) (w : WG a) (wh : WH a) {f : Nat} (hf : f < aP a) (e : Int32) : T_X9_personOf_5 S (zI f) e FU 0 0 = some (orU 8 (fun t => tb (aN a t) f)) := by
  have wP := w.1
  have k := loopE (fun n x => T_X9_personOf_5 S (zI f) e n (orU x (fun t => tb (aN a t) f)) (zI x)) 8 (some (orU 8 (fun t => tb (aN a t) f))) (by omega) (fun n => by
    simp only [T_X9_personOf_5]
    rw [show (8 : Int32) = zI ((8 : Nat) : Int) from rfl, if_le_t (by omega) (by omega)]) (fun n x hx => by
    simp only [T_X9_personOf_5]
    rw [show (8 : Int32) = zI ((8 : Nat) : Int) from rfl, if_le_f hx (by omega), chk_N hx (by omega), z_tnN (by omega), h.2.1 x hx, f_has (by omega), bd_some, bI_z, zS, ← or1]
    cases e : tb (aN a x) f <;> rfl)
  exact k
