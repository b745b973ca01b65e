/-! ===== nights by lots; the parts ===== -/
def ngx (P : Nat) (p : Int64) : Int32 := Int64.toInt32 (p - p / (Int32.toInt64 (zI P)) * (Int32.toInt64 (zI P)))
def ngs (p : Int64) : Int64 := (p * (48271 : Int64)) - (p * (48271 : Int64)) / (2147483647 : Int64) * (2147483647 : Int64)
def ng (a : AS) (k : Nat) (s0 : Int64) : Nat → Int64 × Int32 × Int32
  | 0 => (s0, 0, -9)
  | n + 1 => (ngs (ng a k s0 n).1, if saf a k ((1 : Int32) <<< (ngx (aP a) (ngs (ng a k s0 n).1) &&& 31)) = true then ((ng a k s0 n).2.1 + 1, ngx (aP a) (ngs (ng a k s0 n).1)) else ((ng a k s0 n).2.1, (ng a k s0 n).2.2))
theorem f8_ng {S : Sg} {a : AS} (c : CG 0 S a) (ct : CT 0 S a) (w : WG a) (wt : WT a) {k m : Nat} (hk : k < aT a) (hm : m ≤ 60) {s0 : Int64} : T_X8_nights_70 S (zI k) (zI m) FU s0 0 (-9) 0 = some ((ng a k s0 m).2.1, (ng a k s0 m).2.2) := by
  have wP := w.1
  have wS := (wt.2 k hk).1
  refine loopE (fun n x => T_X8_nights_70 S (zI k) (zI m) n (ng a k s0 x).1 (ng a k s0 x).2.1 (ng a k s0 x).2.2 (zI x)) m (some ((ng a k s0 m).2.1, (ng a k s0 m).2.2)) (by omega) (fun n => ?_) (fun n x hx => ?_)
  · simp only [T_X8_nights_70]
    rw [if_le_t (by omega) (by omega)]
  · simp only [T_X8_nights_70]
    rw [if_le_f hx (by omega), c.1, nm, nzJ_N (by omega) (by omega), nm, f6_saf c ct w wt hk, bd_some, bI_z, zS, ng]
    show bd (if saf a k ((1 : Int32) <<< (ngx (aP a) (ngs (ng a k s0 x).1) &&& 31)) = true then _ else _) _ = _
    cases saf a k ((1 : Int32) <<< (ngx (aP a) (ngs (ng a k s0 x).1) &&& 31)) <;> rfl
theorem f9_ng {S : Sg} {a : AS} (c : MG S a) (ct : MT S a) (w : WG a) (wt : WT a) {k m : Nat} (hk : k < aT a) (hm : m ≤ 60) {s0 : Int64} : T_X9_nights_59 S (zI k) (zI m) FU s0 0 (-9) 0 = some ((ng a k s0 m).2.1, (ng a k s0 m).2.2) := by
  have wP := w.1
  have wS := (wt.2 k hk).1
  refine loopE (fun n x => T_X9_nights_59 S (zI k) (zI m) n (ng a k s0 x).1 (ng a k s0 x).2.1 (ng a k s0 x).2.2 (zI x)) m (some ((ng a k s0 m).2.1, (ng a k s0 m).2.2)) (by omega) (fun n => ?_) (fun n x hx => ?_)
  · simp only [T_X9_nights_59]
    rw [if_le_t (by omega) (by omega)]
  · simp only [T_X9_nights_59]
    rw [if_le_f hx (by omega), c.1, nm, nzJ_N (by omega) (by omega), nm, f9_saf c ct w wt hk, bd_some, bI_z, bI_z, zS, ng]
    show bd (if saf a k ((1 : Int32) <<< (ngx (aP a) (ngs (ng a k s0 x).1) &&& 31)) = true then _ else _) (fun x16 => nm _ (fun x20 => bd (if saf a k ((1 : Int32) <<< (ngx (aP a) (ngs (ng a k s0 x).1) &&& 31)) = true then _ else _) _)) = _
    cases saf a k ((1 : Int32) <<< (ngx (aP a) (ngs (ng a k s0 x).1) &&& 31))
    · rw [if_neg (by decide), if_neg (by decide), if_neg (by decide), bd_some, nm, bd_some, show ∀ y : Int32, y + 0 = y from fun y => Int32.add_zero y]; rfl
    · rw [if_pos rfl, if_pos rfl, if_pos rfl, bd_some, nm, bd_some]; rfl
theorem s_nights : st_nights R := by
  intro σ μ a1 a2 a3 h
  obtain ⟨x, hx1, hx2, rfl⟩ := arg a1
  obtain ⟨y, hy1, hy2, rfl⟩ := arg a2
  obtain ⟨z, hz1, hz2, rfl⟩ := arg a3
  obtain ⟨a, ⟨wg, wt, wh⟩, ⟨cg, ct, ch⟩, ⟨mg, mt, mh⟩⟩ := h.1
  have wP := wg.1
  have wT := wt.1
  unfold F_X8_nights F_X9_nights
  rw [if_lt0 hx1 hx2, if_lt0 hx1 hx2, inZ_in (l := 1) (h := 60) ⟨hy1, hy2⟩ (by decide) (by decide) (by decide) (by decide), bd_some, inZ_in (l := 1) (h := 2147483646) ⟨hz1, hz2⟩ (by decide) (by decide) (by decide) (by decide), bd_some, f9_lacksTalk (σ := σ) mt wt ⟨hx1, hx2⟩, show (1 : Int32) = zI 1 from rfl, show (60 : Int32) = zI 60 from rfl, show (2147483647 : Int32) = zI 2147483647 from rfl, if_ltZ hy1 hy2 (by decide) (by decide), if_ltZ (by decide) (by decide) hy1 hy2, if_ltZ hz1 hz2 (by decide) (by decide), if_ltZ hz1 hz2 (by decide) (by decide), ct.1, if_leZ (by omega) (by omega) hx1 hx2]
  by_cases e : x < 0
  · rw [if_pos e, if_pos e]
    exact ⟨-1, σ, μ, rfl, rfl, h⟩
  rw [if_neg e, if_neg e]
  cases e1 : inZ 1 60 y
  · refine ⟨-1, σ, μ, ?_, rfl, h⟩
    rcases inZ_f e1 with e1 | e1
    · rw [if_pos e1]; rfl
    · rw [if_pos (c := 60 < y) e1, ite_self]; rfl
  have h2 := inZ_t e1
  rw [if_neg (c := y < 1) (by omega), if_neg (c := 60 < y) (by omega), t0]
  cases e2 : inZ 1 2147483646 z
  · refine ⟨-1, σ, μ, ?_, rfl, h⟩
    rcases inZ_f e2 with e2 | e2
    · rw [if_pos e2]; rfl
    · rw [if_neg (c := z < 2147483647) (by omega), ite_self]; rfl
  have h3 := inZ_t e2
  rw [if_neg (c := z < 1) (by omega), if_pos (c := z < 2147483647) (by omega), t0, if_neg e]
  by_cases q : x < aT a
  · obtain ⟨k, rfl⟩ : ∃ k : Nat, x = k := ⟨x.toNat, by omega⟩
    obtain ⟨m, rfl⟩ : ∃ m : Nat, y = m := ⟨y.toNat, by omega⟩
    have wS := (wt.2 k (by omega)).1
    rw [if_neg (by omega), if_pos q, cg.1, if_eq0 (by omega) (by omega), if_neg (by omega), nm, bd_some]
    show ∃ r σ1 μ1, (bd (T_X8_nights_70 σ (zI k) (zI m) FU (zI z).toInt64 0 (-9) 0) _ = _) ∧ (bd (T_X9_nights_59 μ (zI k) (zI m) FU (zI z).toInt64 0 (-9) 0) _ = _) ∧ _
    rw [f8_ng cg ct wg wt (by omega) (by omega), f9_ng mg mt wg wt (by omega) (by omega), bd_some, bd_some]
    exact ⟨_, _, _, rfl, rfl, R_told h _⟩
  · rw [if_pos (by omega), if_neg q, zN2, f8_find (by decide), f9_find (by decide)]
    exact ⟨_, _, _, rfl, rfl, R_find h (f := 2) (by decide)⟩
/-! heard pairs over all pairs -/
def hps (a : AS) : Nat → Nat
  | 0 => 0
  | n + 1 => hps a n + pc (hb a n 0)
theorem cnt_out {p : Nat → Bool} {m : Nat} : ∀ n, m ≤ n → (∀ j, m ≤ j → j < n → p j = false) → cnt n p = cnt m p
  | 0, h, _ => by rw [show m = 0 by omega]
  | n + 1, h, h2 => by
    by_cases e : m = n + 1
    · rw [e]
    · rw [cnt, h2 n (by omega) (by omega), if_neg (by decide), cnt_out n (by omega) (fun j h3 h4 => h2 j h3 (by omega))]
theorem pc_hb {a : AS} (w : WG a) {x : Nat} (hx : x < aP a) : pc (hb a x 0) ≤ aP a - 1 := by
  have wP := w.1
  have e1 : pc (hb a x 0) = cnt (aP a) (tb (hb a x 0)) := cnt_out 8 (by omega) (fun j h1 _ => hb_sub w j h1)
  have e2 := cnt_one (p := fun _ => true) (f := x) rfl (aP a) hx
  have e3 : cnt (aP a) (tb (hb a x 0)) ≤ cnt (aP a) (fun y => !decide (y = x) && true) := cnt_mono _ (fun j _ hj => by
    rw [Bool.and_true, Bool.not_eq_true', decide_eq_false_iff_not]
    intro q
    rw [q, hb_no w hx] at hj
    cases hj)
  have e4 := cnt_le (p := fun _ => true) (aP a)
  rw [e1]
  omega
theorem hps_le {a : AS} (w : WG a) : ∀ n, n ≤ aP a → hps a n ≤ n * (aP a - 1)
  | 0, _ => Nat.zero_le _
  | n + 1, h => by
    have ih := hps_le w n (by omega)
    have := pc_hb w (x := n) (by omega)
    rw [hps, Nat.succ_mul]
    omega
theorem f6_hp {i : Nat} {S : Sg} {a : AS} (c : CG i S a) (w : WG a) : F_X6_heardPairs i S = some (zI (hps a (aP a))) := by
  have wP := w.1
  have q := loopE (fun n x => T_X6_heardPairs_4 i S n (zI (hps a x)) (zI x)) (aP a) (some (zI (hps a (aP a)))) (by omega) (fun n => by
    simp only [T_X6_heardPairs_4]
    rw [c.1, if_le_t (by omega) (by omega)]) (fun n x hx => by
    simp only [T_X6_heardPairs_4]
    rw [c.1, if_le_f hx (by omega), f6_who c w hx, bd_some, f_bc (hb_sub8 w), bd_some, nm, zS, z_add]; rfl)
  exact bd_t q
theorem f9_hp {S : Sg} {a : AS} (c : MG S a) (w : WG a) {e : Int32} : T_X9_part_22 S e FU 0 0 = some (zI (hps a (aP a))) := by
  have wP := w.1
  refine loopE (fun n x => T_X9_part_22 S e n (zI (hps a x)) (zI x)) (aP a) (some (zI (hps a (aP a)))) (by omega) (fun n => ?_) (fun n x hx => ?_)
  · simp only [T_X9_part_22]
    rw [c.1, if_le_t (by omega) (by omega)]
  · simp only [T_X9_part_22]
    rw [c.1, if_le_f hx (by omega), f9_who c w hx, bd_some, f_ones (hb_sub8 w), bd_some, nm, zS, z_add]; rfl
def Z0 : Sg := (fun _ _ => 0, fun _ _ => 0)
theorem c8_S {S : Sg} {p q : Int32} : ∀ n x, T_X8_commonDivisor_8 S p q n x = T_X8_commonDivisor_8 Z0 p q n x
  | 0, _ => rfl
  | n + 1, x => by simp only [T_X8_commonDivisor_8, c8_S n]
theorem c9_S {S : Sg} : ∀ n p q, T_X9_common_6 S n p q = T_X9_common_6 Z0 n p q
  | 0, _, _ => rfl
  | n + 1, p, q => by simp only [T_X9_common_6, c9_S n]
theorem cd8 {S : Sg} {p q : Int32} : F_X8_commonDivisor S p q = F_X8_commonDivisor Z0 p q := by
  rw [F_X8_commonDivisor, F_X8_commonDivisor]
  simp only [c8_S (S := S)]
theorem cd9 {S : Sg} {p q : Int64} : F_X9_common S p q = F_X9_common Z0 p q := by
  rw [F_X9_common, F_X9_common, c9_S]
theorem gcd_c8 : ∀ P, P < 8 → 2 ≤ P → ∀ H, H < P * (P - 1) + 1 → F_X8_commonDivisor Z0 (zI ((H : Nat) : Int)) (zI ((P * (P - 1) : Nat) : Int)) = some (zI ((Nat.gcd H (P * (P - 1)) : Nat) : Int)) := by decide +kernel
theorem gcd_c9 : ∀ P, P < 8 → 2 ≤ P → ∀ H, H < P * (P - 1) + 1 → F_X9_common Z0 (zJ ((H : Nat) : Int)) (zJ ((P * (P - 1) : Nat) : Int)) = some (zJ ((Nat.gcd H (P * (P - 1)) : Nat) : Int)) := by decide +kernel
theorem div_c : ∀ g, g < 43 → 0 < g → ∀ H, H < 43 → Int32.toInt64 (zI ((H : Nat) : Int) / zI ((g : Nat) : Int)) = zJ ((H : Nat) : Int) / zJ ((g : Nat) : Int) := by decide +kernel
theorem f8_pairs {i : Nat} {S : Sg} {a : AS} (c : CG i S a) (w : WG a) : F_X6_pairs i S = some (zI ((aP a * (aP a - 1) : Nat) : Int)) := by
  have wP := w.1
  rw [F_X6_pairs, nm, nm, c.1, z_1, z_sub]
  by_cases q : aP a = 0
  · rw [q]; rfl
  · rw [show (0 : Int32) = zI 0 from rfl, if_ltZ (by omega) (by omega) (by omega) (by omega)]
    by_cases q2 : (0 : Int) < aP a - 1
    · rw [if_pos q2, z_mul]
      exact congrArg (fun z => some (zI z)) (by rw [show ((aP a : Int) - 1) = ((aP a - 1 : Nat) : Int) by omega]; push_cast; rfl)
    · rw [if_neg q2, show aP a = 1 by omega]; rfl
theorem nzI_N {α : Type} {n : Nat} {K : Option α} (h : 0 < n) (h2 : n < 2147483648) : chk (nzI (zI n)) K = K := by
  refine chk_t ?_
  unfold nzI
  rw [decide_eq_false (fun q => ?_)]
  · rfl
  · have := (z_eq (a := n) (b := 0) (by omega) (by omega) (by decide) (by decide)).mp q
    omega
theorem nzJ_M {α : Type} {n : Nat} {K : Option α} (h : 0 < n) (h2 : n < 2147483648) : chk (nzJ (zJ n)) K = K := by
  have := nzJ_N (K := K) h h2
  rw [zJ_z (by omega) (by omega)] at this
  exact this
theorem pairs_b {P : Nat} (h : P ≤ 7) : P * (P - 1) ≤ 42 := by
  have : ∀ P, P < 8 → P * (P - 1) ≤ 42 := by decide
  exact this P (by omega)
theorem f9_part {S : Sg} {a : AS} (c : MG S a) (w : WG a) (e : Int32) : F_X9_part S e = if 2 ≤ aP a then (if e = 0 then some (zJ ((aP a * (aP a - 1) : Nat) : Int) / zJ ((Nat.gcd (hps a (aP a)) (aP a * (aP a - 1)) : Nat) : Int)) else some (zJ (hps a (aP a)) / zJ ((Nat.gcd (hps a (aP a)) (aP a * (aP a - 1)) : Nat) : Int))) else if e = 0 then some 1 else some 0 := by
  have wP := w.1
  have hh := hps_le w (aP a) (Nat.le_refl _)
  have hp := pairs_b wP
  rw [F_X9_part, c.1, show (2 : Int32) = zI ((2 : Nat) : Int) from rfl]
  by_cases q : 2 ≤ aP a
  · have hg := gcd_c9 (aP a) (by omega) q (hps a (aP a)) (by omega)
    have hn0 : 0 < aP a * (aP a - 1) := Nat.mul_pos (by omega) (by omega)
    have g0 : 0 < Nat.gcd (hps a (aP a)) (aP a * (aP a - 1)) := Nat.gcd_pos_of_pos_right _ hn0
    have g1 : Nat.gcd (hps a (aP a)) (aP a * (aP a - 1)) ≤ aP a * (aP a - 1) := Nat.gcd_le_right _ hn0
    have em : Int32.toInt64 (zI (aP a)) * (Int32.toInt64 (zI (aP a)) - 1) = zJ ((aP a * (aP a - 1) : Nat) : Int) := by
      rw [zJ_z (by omega) (by omega), show (1 : Int64) = zJ 1 from rfl, zJ_sub, show zJ (aP a) * zJ (aP a - 1) = zJ (aP a * (aP a - 1)) from (Int64.ofInt_mul _ _).symm]
      exact congrArg zJ (by rw [show ((aP a : Int) - 1) = ((aP a - 1 : Nat) : Int) by omega]; push_cast; rfl)
    rw [if_le_t q (by omega), f9_hp c w, bd_some, nm, em, zJ_z (by omega) (by omega), cd9, hg, bd_some, nzJ_M g0 (by omega), nzJ_M g0 (by omega), if_pos q]
  · rw [if_le_f (by omega) (by omega), if_neg q]
theorem s_upper : st_upper R := by
  intro σ μ h
  obtain ⟨a, ⟨wg, wt, wh⟩, ⟨cg, ct, ch⟩, ⟨mg, mt, mh⟩⟩ := h.1
  have wP := wg.1
  have hh := hps_le wg (aP a) (Nat.le_refl _)
  have hp := pairs_b wP
  unfold F_X8_upper F_X9_upper
  rw [f6_hp cg wg, bd_some, f8_pairs cg wg, bd_some, f9_part mg wg, if_neg (c := (1 : Int32) = 0) (by decide), if_neg (c := (1 : Int32) = 0) (by decide)]
  by_cases q : 2 ≤ aP a
  · have hn0 : 0 < aP a * (aP a - 1) := Nat.mul_pos (by omega) (by omega)
    have g0 : 0 < Nat.gcd (hps a (aP a)) (aP a * (aP a - 1)) := Nat.gcd_pos_of_pos_right _ hn0
    have g1 : Nat.gcd (hps a (aP a)) (aP a * (aP a - 1)) ≤ aP a * (aP a - 1) := Nat.gcd_le_right _ hn0
    rw [if_pos q, cd8, gcd_c8 (aP a) (by omega) q (hps a (aP a)) (by omega), bd_some, nzI_N g0 (by omega), div_c _ (by omega) g0 _ (by omega), bd_some]
    exact ⟨_, rfl, rfl⟩
  · rw [if_neg q]
    have e1 : aP a * (aP a - 1) = 0 := by
      have : aP a = 0 ∨ aP a = 1 := by omega
      rcases this with q | q <;> rw [q]
    rw [show hps a (aP a) = 0 by omega, e1, cd8]
    exact ⟨0, by decide +kernel, rfl⟩
theorem s_lower : st_lower R := by
  intro σ μ h
  obtain ⟨a, ⟨wg, wt, wh⟩, ⟨cg, ct, ch⟩, ⟨mg, mt, mh⟩⟩ := h.1
  have wP := wg.1
  have hh := hps_le wg (aP a) (Nat.le_refl _)
  have hp := pairs_b wP
  unfold F_X8_lower F_X9_lower
  rw [f6_hp cg wg, f8_pairs cg wg, bd_some, f9_part mg wg, if_pos rfl, if_pos rfl, bd_some]
  by_cases q : 2 ≤ aP a
  · have hn0 : 0 < aP a * (aP a - 1) := Nat.mul_pos (by omega) (by omega)
    have g0 : 0 < Nat.gcd (hps a (aP a)) (aP a * (aP a - 1)) := Nat.gcd_pos_of_pos_right _ hn0
    have g1 : Nat.gcd (hps a (aP a)) (aP a * (aP a - 1)) ≤ aP a * (aP a - 1) := Nat.gcd_le_right _ hn0
    rw [if_pos q, if_eq0 (by omega) (by omega), if_neg (by omega), cd8, gcd_c8 (aP a) (by omega) q (hps a (aP a)) (by omega), bd_some, nzI_N g0 (by omega), div_c _ (by omega) g0 _ (by omega), bd_some]
    exact ⟨_, rfl, rfl⟩
  · rw [if_neg q]
    have e1 : aP a * (aP a - 1) = 0 := by
      have : aP a = 0 ∨ aP a = 1 := by omega
      rcases this with q | q <;> rw [q]
    rw [e1, if_pos (show zI ((0 : Nat) : Int) = 0 from rfl)]
    exact ⟨1, rfl, rfl⟩
