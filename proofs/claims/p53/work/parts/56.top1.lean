theorem CG_sm {i : Nat} {σ σ' : Sg} {a : AS} (e : sm (sb i) (sb i + 13) σ σ') (c : CG i σ a) : CG i σ' a := by
  have q : ∀ c, c < 13 → ∀ n, σ'.1 (sb i + c) n = σ.1 (sb i + c) n := fun c hc n => (e (sb i + c) (by omega) (by omega) n).1
  obtain ⟨c1, c2, c3, c4, c5, c6⟩ := c
  exact ⟨(q 0 (by decide) 9).trans c1, (q 0 (by decide) 8).trans c2, fun j hj => (q 1 (by decide) j).trans (c3 j hj), fun j hj => (q 2 (by decide) j).trans (c4 j hj), fun j hj => (q 3 (by decide) j).trans (c5 j hj), fun j hj => (q 4 (by decide) j).trans (c6 j hj)⟩
theorem CT_sm {i : Nat} {σ σ' : Sg} {a : AS} (e : sm (sb i) (sb i + 13) σ σ') (c : CT i σ a) : CT i σ' a := by
  have q : ∀ c, c < 13 → ∀ n, σ'.1 (sb i + c) n = σ.1 (sb i + c) n := fun c hc n => (e (sb i + c) (by omega) (by omega) n).1
  obtain ⟨c1, c2, c3, c4⟩ := c
  exact ⟨(q 0 (by decide) 10).trans c1, fun j hj => (q 5 (by decide) j).trans (c2 j hj), fun j hj => (q 6 (by decide) j).trans (c3 j hj), fun j hj => (q 7 (by decide) j).trans (c4 j hj)⟩
theorem CG_told {i : Nat} {σ : Sg} {a : AS} {v : Int32} (c : CG i σ a) : CG i (wI σ 0 10 v) a := CG_sm (sm_wI (.inl (by have : sb i = 34 + 13 * i := rfl; omega))) c
theorem CT_told {i : Nat} {σ : Sg} {a : AS} {v : Int32} (c : CT i σ a) : CT i (wI σ 0 10 v) a := CT_sm (sm_wI (.inl (by have : sb i = 34 + 13 * i := rfl; omega))) c
theorem f0 {α : Type} {A B : α} : (if bI false = 0 then A else B) = A := rfl
theorem t0 {α : Type} {A B : α} : (if bI true = 0 then A else B) = B := rfl
theorem set_n {z : Int} {a : AS} (w : WG a) (h : inZ 0 ((2 ^ aP a - 1 : Nat) : Int) z = true) : ∃ s : Nat, z = s ∧ s < 2 ^ aP a ∧ sub (aP a) (zI (s : Int)) := by
  obtain ⟨n, rfl, h1⟩ := inZ_n h
  have h0 : 0 < 2 ^ aP a := Nat.pow_pos (by decide)
  have hn : n < 2 ^ aP a := by omega
  exact ⟨n, rfl, hn, z_sub_ (by have := w.1; omega) hn⟩
theorem pow8 {n : Nat} (h : n ≤ 8) : 0 < 2 ^ n ∧ 2 ^ n ≤ 256 := ⟨Nat.pow_pos (by decide), pow_le (m := 8) h⟩
theorem ne9 {s : Nat} (h : s < 256) : zI s ≠ (-9 : Int32) := fun q => by
  have := (z_eq (a := s) (b := -9) (by omega) (by omega) (by decide) (by decide)).mp (q.trans (show (-9 : Int32) = zI (-9) from rfl))
  omega
theorem sub8_9 {s : Int32} (h : sub 8 s) : s ≠ (-9 : Int32) := fun q => by
  obtain ⟨n, hn, rfl⟩ := sub_z (by decide) h
  exact ne9 (by simpa using hn) q
theorem f8_tellSet {S : Sg} {s : Int32} (h : sub 8 s) : F_X8_tellSet S s = some (zI (pc s), wI S 0 10 s) := by
  rw [F_X8_tellSet, if_neg (sub8_9 h), nm, f_bc h, bd_some]
def few (ok : Nat → Bool) : Nat → Int32
  | 0 => -9
  | n + 1 => if (decide (few ok n = -9) || decide (pc (zI n) < pc (few ok n))) && ok n then zI n else few ok n
theorem few_9 {ok : Nat → Bool} : ∀ n, n ≤ 256 → few ok n = -9 ∨ sub 8 (few ok n)
  | 0, _ => .inl rfl
  | n + 1, h => by
    rw [few]
    split
    · exact .inr (z_sub_ (by decide) (by omega))
    · exact few_9 n (by omega)
theorem pcz {m n : Nat} {α : Type} {A B : α} (hm : m ≤ 8) (hn : n ≤ 8) : (if zI m ≤ zI n then A else B) = if n < m then B else A := by
  by_cases h : n < m
  · rw [if_pos h, if_le_f h (by omega)]
  · rw [if_neg h, if_le_t (by omega) (by omega)]
theorem f8_fewer {S : Sg} {n : Nat} {p : Int32} (hn : n < 256) (hp : p = -9 ∨ sub 8 p) : F_X8_isFewer S (zI n) p = some (bI (decide (p = -9) || decide (pc (zI n) < pc p))) := by
  rw [F_X8_isFewer]
  by_cases e : p = -9
  · rw [if_pos e, decide_eq_true e]; rfl
  · have h2 := hp.resolve_left e
    rw [if_neg e, decide_eq_false e, f_bc (z_sub_ (by decide) (by omega)), bd_some, f_bc h2, bd_some, pcz (pc_le _) (pc_le _), Bool.false_or]
    by_cases q : pc (zI n) < pc p
    · rw [if_pos q, decide_eq_true q]; rfl
    · rw [if_neg q, decide_eq_false q]; rfl
theorem few_s {ok : Nat → Bool} {n : Nat} : (if (decide (few ok n = -9) || decide (pc (zI n) < pc (few ok n))) = true then (if ok n = true then zI n else few ok n) else few ok n) = few ok (n + 1) := by
  rw [few]
  cases (decide (few ok n = -9) || decide (pc (zI n) < pc (few ok n))) <;> cases ok n <;> rfl
def okH (a : AS) (f : Nat) (n : Nat) : Bool := !tb (zI n) f && decide (hb a f (zI n) = 0)
theorem f8_hush {S : Sg} {a : AS} (c : CG 0 S a) (w : WG a) {f : Nat} (hf : f < aP a) : T_X8_hush_15 S (zI f) FU (-9) 0 = some (few (okH a f) (2 ^ aP a)) := by
  have wP := w.1
  have p7 := pow8 (n := aP a) (by omega)
  refine loopE (fun n x => T_X8_hush_15 S (zI f) n (few (okH a f) x) (zI x)) (2 ^ aP a) (some (few (okH a f) (2 ^ aP a))) (by omega) (fun n => ?_) (fun n x hx => ?_)
  · simp only [T_X8_hush_15]
    rw [f6_all c, all_z (by omega), bd_some, if_ltZ (by omega) (by omega) (by omega) (by omega), if_pos (by omega)]
  · simp only [T_X8_hush_15]
    rw [f6_all c, all_z (by omega), bd_some, if_ltZ (by omega) (by omega) (by omega) (by omega), if_neg (by omega), f8_fewer (by omega) (few_9 x (by omega)), bd_some, f6_who c w hf, bd_some, has_if (by omega), bI_z, ← few_s, zSu]
    unfold okH
    cases (decide (few (fun n => !tb (zI n) f && decide (hb a f (zI n) = 0)) x = -9) || decide (pc (zI x) < pc (few (fun n => !tb (zI n) f && decide (hb a f (zI n) = 0)) x))) <;> cases tb (zI x) f <;> by_cases q : hb a f (zI x) = 0 <;> simp [q, bd]
theorem f8_cover {S : Sg} {a : AS} (c : CG 0 S a) (ct : CT 0 S a) (w : WG a) (wt : WT a) {k : Nat} (hk : k < aT a) : T_X8_cover_28 S (zI k) FU (-9) 0 = some (few (fun n => saf a k (zI n)) (2 ^ aP a)) := by
  have wP := w.1
  have p7 := pow8 (n := aP a) (by omega)
  refine loopE (fun n x => T_X8_cover_28 S (zI k) n (few (fun n => saf a k (zI n)) x) (zI x)) (2 ^ aP a) (some (few (fun n => saf a k (zI n)) (2 ^ aP a))) (by omega) (fun n => ?_) (fun n x hx => ?_)
  · simp only [T_X8_cover_28]
    rw [f6_all c, all_z (by omega), bd_some, if_ltZ (by omega) (by omega) (by omega) (by omega), if_pos (by omega)]
  · simp only [T_X8_cover_28]
    rw [f6_all c, all_z (by omega), bd_some, if_ltZ (by omega) (by omega) (by omega) (by omega), if_neg (by omega), f8_fewer (by omega) (few_9 x (by omega)), bd_some, f6_saf c ct w wt hk, bd_some, bI_z, bI_z, ← few_s, zSu]
    cases (decide (few (fun n => saf a k (zI n)) x = -9) || decide (pc (zI x) < pc (few (fun n => saf a k (zI n)) x))) <;> cases saf a k (zI x) <;> rfl
theorem if8_talk {α : Type} {σ : Sg} {a : AS} (ct : CT 0 σ a) (wt : WT a) {z : Int} (h : bz z) {A B : α} : (if zI z < σ.1 (sb 0) 10 then A else B) = if z < aT a then A else B := by
  have := wt.1
  rw [ct.1, if_ltZ h.1 h.2 (by omega) (by omega)]
theorem zN2 : (2 : Int32) = zI ((2 : Nat) : Int) := rfl
theorem sh_u : ∀ t, t < 8 → ((((8 : Int32) * zI ((t : Nat) : Int)).toInt64.toUInt64 &&& Int64.toUInt64 63).toBitVec % 64#64).toNat = 8 * t := by decide +kernel
theorem sh_s : ∀ t, t < 8 → ((((8 : Int32) * zI ((t : Nat) : Int)).toInt64 &&& 63).toBitVec.smod 64#64).toNat = 8 * t := by decide +kernel
theorem lb_lushr {x : Int64} {t j : Nat} (ht : t < 8) : lb (lushr x ((8 : Int32) * zI t)) j = lb x (8 * t + j) := by
  have e : (lushr x ((8 : Int32) * zI t)).toBitVec = x.toBitVec >>> ((((8 : Int32) * zI ((t : Nat) : Int)).toInt64.toUInt64 &&& Int64.toUInt64 63).toBitVec % 64#64).toNat := rfl
  unfold lb
  rw [e, sh_u t ht, BitVec.getLsbD_ushiftRight]
theorem lb_lshl {x : Int64} {t j : Nat} (ht : t < 8) (hj : j < 64) : lb (lshl x ((8 : Int32) * zI t)) j = (!decide (j < 8 * t) && lb x (j - 8 * t)) := by
  have e : (lshl x ((8 : Int32) * zI t)).toBitVec = x.toBitVec <<< ((((8 : Int32) * zI ((t : Nat) : Int)).toInt64 &&& 63).toBitVec.smod 64#64).toNat := rfl
  unfold lb
  rw [e, sh_s t ht, BitVec.getLsbD_shiftLeft, decide_eq_true hj, Bool.true_and]
theorem lb_or (x y : Int64) (j : Nat) : lb (x ||| y) j = (lb x j || lb y j) := BitVec.getLsbD_or
theorem tb_32 {x : Int64} {j : Nat} (hj : j < 32) : tb (Int64.toInt32 x) j = lb x j := by
  have e : (Int64.toInt32 x).toBitVec = x.toBitVec.signExtend 32 := rfl
  unfold tb lb
  rw [e, BitVec.getLsbD_signExtend, decide_eq_true hj, Bool.true_and, if_pos (by omega)]
theorem lb_64 {s : Int32} {j : Nat} (hs : sub 31 s) (hj : j < 64) : lb (Int32.toInt64 s) j = tb s j := by
  have e : (Int32.toInt64 s).toBitVec = s.toBitVec.signExtend 64 := rfl
  unfold tb lb
  rw [e, BitVec.getLsbD_signExtend, decide_eq_true hj, Bool.true_and]
  by_cases h : j < 32
  · rw [if_pos h]
  · rw [if_neg h, show s.toBitVec.getLsbD j = tb s j from rfl, tb_ge (by omega), BitVec.msb_eq_getLsbD_last]
    exact hs 31 (by decide)
theorem tb_255 {j : Nat} (hj : j < 32) : tb 255 j = decide (j < 8) := by
  have : ∀ j : Nat, j < 32 → tb 255 j = decide (j < 8) := by decide +kernel
  exact this j hj
theorem f1_who {i : Nat} {S : Sg} {f : Nat → Int32} (h : pk (S.2 (sb i + 8) 4) f) {t : Nat} (ht : t < 8) (hs : sub 8 (f t)) : F_X1_whoKnow i S (zI t) = some (f t) := by
  rw [F_X1_whoKnow]
  refine congrArg some (tb_ext fun j hj => ?_)
  rw [tb_and, tb_255 hj, tb_32 hj, lb_lushr ht]
  by_cases q : j < 8
  · rw [decide_eq_true q, Bool.and_true, h t j ht q]
  · rw [decide_eq_false q, Bool.and_false, hs j (by omega)]
theorem pk_learn {x : Int64} {f : Nat → Int32} (h : pk x f) {t : Nat} (ht : t < 8) {s : Int32} (hs : sub 8 s) : pk (x ||| lshl (Int32.toInt64 s) ((8 : Int32) * zI t)) (fun k => if k = t then f t ||| s else f k) := by
  intro k j hk hj
  rw [lb_or, lb_lshl ht (by omega), h k j hk hj, lb_64 (sub_mono (by decide) hs) (by omega)]
  show _ = tb (if k = t then f t ||| s else f k) j
  by_cases e : k = t
  · subst e
    rw [if_pos rfl, tb_or, decide_eq_false (by omega), show 8 * k + j - 8 * k = j by omega]; rfl
  · rw [if_neg e]
    by_cases q : 8 * k + j < 8 * t
    · rw [decide_eq_true q]; simp
    · rw [decide_eq_false q, hs _ (by omega)]; simp
theorem pk_0 : pk 0 (fun _ => 0) := fun t j _ _ => by
  rw [tb_0]
  exact BitVec.getLsbD_zero
theorem or1 {p : Nat → Bool} {t : Nat} : orU t p ||| (if p t = true then ((1 : Int32) <<< (zI t &&& 31)) else 0) = orU (t + 1) p := by
  rw [orU]
  cases p t
  · exact or_0 _
  · rfl
