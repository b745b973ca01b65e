/-! ===== the digest ===== -/
def dg (g : Nat → Int64) (s : Int64) : Nat → Int64
  | 0 => s
  | n + 1 => 31 * dg g s n + g n
theorem dg_add {g : Nat → Int64} {s : Int64} {m : Nat} : ∀ n, dg (fun e => g (m + e)) (dg g s m) n = dg g s (m + n)
  | 0 => rfl
  | n + 1 => by rw [dg, dg_add n, ← Nat.add_assoc, dg]
theorem dg_cg {f g : Nat → Int64} {s : Int64} : ∀ n, (∀ j, j < n → f j = g j) → dg f s n = dg g s n
  | 0, _ => rfl
  | n + 1, h => by rw [dg, dg, dg_cg n (fun j hj => h j (by omega)), h n (by omega)]
def ml (μ : Sg) (v : Int64) : Sg := wL μ 0 35 v
theorem ml_1 {μ : Sg} {v : Int64} : (ml μ v).1 = μ.1 := rfl
theorem ml_2 {μ : Sg} {v : Int64} : (ml μ v).2 0 35 = v := by unfold ml; rw [wL_2, if_pos rfl, if_pos rfl]
theorem ml_ml {μ : Sg} {v w : Int64} : ml (ml μ v) w = ml μ w := by
  refine Prod.ext rfl (funext fun c => funext fun n => ?_)
  unfold ml
  rw [wL_2, wL_2, wL_2]
  by_cases h : c = 0
  · by_cases h2 : n = 35 <;> simp [h, h2]
  · simp [h]
theorem f9_mix {μ : Sg} {v w : Int64} : F_X9_mix (ml μ v) w = some (ml μ (31 * v + w)) := by
  rw [F_X9_mix, nm, ml_2]
  exact congrArg some ml_ml
theorem R_ml {σ μ : Sg} {v : Int64} (h : R σ μ) : R σ (ml μ v) := h
/-! counts -/
def cv (σ : Sg) (j : Nat) : Int64 := Int32.toInt64 ((F_X8_count σ (zI j)).getD 0)
theorem cv8 {σ μ : Sg} (h : R σ μ) (j : Nat) : ∃ r, F_X8_count σ (zI j) = some r ∧ F_X9_count μ (zI j) = some r ∧ cv σ j = Int32.toInt64 r := by
  obtain ⟨r, h1, h2⟩ := s_count σ μ (zI j) h
  exact ⟨r, h1, h2, by unfold cv; rw [h1]; rfl⟩
theorem d8_1 {σ μ : Sg} (h : R σ μ) {s : Int64} : T_X8_digest_6 σ FU s 0 = some (dg (cv σ) s 9) := by
  refine loopE (fun n x => T_X8_digest_6 σ n (dg (cv σ) s x) (zI x)) 9 (some (dg (cv σ) s 9)) (by omega) (fun n => ?_) (fun n x hx => ?_)
  · simp only [T_X8_digest_6]
    rw [if_pos (by decide)]
  · obtain ⟨r, h1, h2, h3⟩ := cv8 h x
    simp only [T_X8_digest_6]
    rw [show (8 : Int32) = zI 8 from rfl, if_ltZ (by decide) (by decide) (by omega) (by omega), if_neg (by omega), h1, bd_some, nm, zS, dg, h3]
theorem d9_1 {σ μ : Sg} (h : R σ μ) {s : Int64} : T_X9_digest_9 FU 0 (ml μ s) = some (ml μ (dg (cv σ) s 9)) := by
  refine loopE (fun n x => T_X9_digest_9 n (zI x) (ml μ (dg (cv σ) s x))) 9 (some (ml μ (dg (cv σ) s 9))) (by omega) (fun n => ?_) (fun n x hx => ?_)
  · simp only [T_X9_digest_9]
    rw [if_pos (by decide)]
  · obtain ⟨r, h1, h2, h3⟩ := cv8 (R_ml (v := dg (cv σ) s x) h) x
    simp only [T_X9_digest_9]
    rw [show (9 : Int32) = zI ((9 : Nat) : Int) from rfl, if_le_f hx (by omega), h2, bd_some, f9_mix, bd_some, zS, dg, h3]
/-! walls -/
theorem d8_2 {S : Sg} {a : AS} (c : CG 0 S a) (w : WG a) {s : Int64} : T_X6_digestFrom_5 0 S FU s 0 = some (dg (fun j => zJ (aL a j)) s (aW a)) := by
  have wW := w.2.1
  refine loopE (fun n x => T_X6_digestFrom_5 0 S n (dg (fun j => zJ (aL a j)) s x) (zI x)) (aW a) (some (dg (fun j => zJ (aL a j)) s (aW a))) (by omega) (fun n => ?_) (fun n x hx => ?_)
  · simp only [T_X6_digestFrom_5]
    rw [c.2.1, if_le_t (by omega) (by omega)]
  · have wL := w.2.2.2.1 x
    simp only [T_X6_digestFrom_5]
    rw [c.2.1, if_le_f hx (by omega), chk_N (by omega) (by omega), z_tnN (by omega), c.2.2.1 x hx, zJ_z (by omega) (by omega), nm, zS, dg]
theorem d9_2 {S : Sg} {a : AS} (c : MG S a) (w : WG a) {s : Int64} : T_X9_digest_33 FU 0 (ml S s) = some (ml S (dg (fun j => zJ (aL a j)) s (aW a))) := by
  have wW := w.2.1
  refine loopE (fun n x => T_X9_digest_33 n (zI x) (ml S (dg (fun j => zJ (aL a j)) s x))) (aW a) (some (ml S (dg (fun j => zJ (aL a j)) s (aW a)))) (by omega) (fun n => ?_) (fun n x hx => ?_)
  · simp only [T_X9_digest_33]
    rw [ml_1, c.2.1, if_le_t (by omega) (by omega)]
  · have wL := w.2.2.2.1 x
    simp only [T_X9_digest_33]
    rw [ml_1, c.2.1, if_le_f hx (by omega), chk_N (by omega) (by omega), z_tnN (by omega), c.2.2.1 x hx, zJ_z (by omega) (by omega), f9_mix, bd_some, zS, dg]
/-! people -/
def dp (a : AS) (j : Nat) : Int64 := Int32.toInt64 (ptr a (j / 5) (j % 5))
theorem d8_3i {S : Sg} {a : AS} (c : CG 0 S a) (ch : CH 0 S a) (w : WG a) (wh : WH a) {f : Nat} (hf : f < aP a) {s : Int64} : T_X6_digestFrom_50 0 S (zI f) FU s 0 = some (dg (fun e => dp a (5 * f + e)) s 5) := by
  refine loopE (fun n x => T_X6_digestFrom_50 0 S (zI f) n (dg (fun e => dp a (5 * f + e)) s x) (zI x)) 5 (some (dg (fun e => dp a (5 * f + e)) s 5)) (by omega) (fun n => ?_) (fun n x hx => ?_)
  · simp only [T_X6_digestFrom_50]
    rw [if_pos (by decide)]
  · simp only [T_X6_digestFrom_50]
    rw [show (5 : Int32) = zI ((5 : Nat) : Int) from rfl, if_le_f hx (by omega), f6_tr c ch w wh hf hx, bd_some, nm, zS, dg]
    have e : dp a (5 * f + x) = Int32.toInt64 (ptr a f x) := by
      unfold dp
      rw [show (5 * f + x) / 5 = f by omega, show (5 * f + x) % 5 = x by omega]
    rw [e]
theorem d8_3 {S : Sg} {a : AS} (c : CG 0 S a) (ch : CH 0 S a) (w : WG a) (wh : WH a) {s : Int64} : T_X6_digestFrom_38 0 S FU s 0 = some (dg (dp a) s (5 * aP a)) := by
  have wP := w.1
  refine loopE (fun n x => T_X6_digestFrom_38 0 S n (dg (dp a) s (5 * x)) (zI x)) (aP a) (some (dg (dp a) s (5 * aP a))) (by omega) (fun n => ?_) (fun n x hx => ?_)
  · simp only [T_X6_digestFrom_38]
    rw [c.1, if_le_t (by omega) (by omega)]
  · simp only [T_X6_digestFrom_38]
    rw [c.1, if_le_f hx (by omega), d8_3i c ch w wh hx, bd_some, zS, dg_add]; rfl
theorem div5 {j : Nat} (h : j < 35) : zI j / (5 : Int32) = zI ((j / 5 : Nat) : Int) ∧ zI j - zI j / (5 : Int32) * (5 : Int32) = zI ((j % 5 : Nat) : Int) := by
  have : ∀ j, j < 35 → zI ((j : Nat) : Int) / (5 : Int32) = zI ((j / 5 : Nat) : Int) ∧ zI ((j : Nat) : Int) - zI ((j : Nat) : Int) / (5 : Int32) * (5 : Int32) = zI ((j % 5 : Nat) : Int) := by decide +kernel
  exact this j h
theorem d9_3 {S : Sg} {a : AS} (c : MG S a) (ch : MH S a) (w : WG a) (wh : WH a) {s : Int64} : T_X9_digest_60 FU 0 (ml S s) = some (ml S (dg (dp a) s (5 * aP a))) := by
  have wP := w.1
  refine loopE (fun n x => T_X9_digest_60 n (zI x) (ml S (dg (dp a) s x))) (5 * aP a) (some (ml S (dg (dp a) s (5 * aP a)))) (by omega) (fun n => ?_) (fun n x hx => ?_)
  · simp only [T_X9_digest_60]
    rw [ml_1, c.1, zM (m := 5) (c := 5) rfl, if_le_t (by omega) (by omega)]
  · simp only [T_X9_digest_60]
    have m' : MG (ml S (dg (dp a) s x)) a := c
    have h' : MH (ml S (dg (dp a) s x)) a := ch
    rw [(div5 (by omega)).2, (div5 (by omega)).1, f9_tr m' h' w wh (by omega) (by omega), bd_some, f9_mix, bd_some, ml_1, c.1, zM (m := 5) (c := 5) rfl, if_le_f hx (by omega), zS, dg]; rfl
/-! talks -/
def dt (a : AS) (j : Nat) : Int64 := Int32.toInt64 (ptv a (j / 3) (j % 3))
theorem d8_4i {S : Sg} {a : AS} (ct : CT 0 S a) (wt : WT a) {k : Nat} (hk : k < aT a) {s : Int64} : T_X6_digestFrom_99 0 S (zI k) FU s 0 = some (dg (fun e => dt a (3 * k + e)) s 3) := by
  refine loopE (fun n x => T_X6_digestFrom_99 0 S (zI k) n (dg (fun e => dt a (3 * k + e)) s x) (zI x)) 3 (some (dg (fun e => dt a (3 * k + e)) s 3)) (by omega) (fun n => ?_) (fun n x hx => ?_)
  · simp only [T_X6_digestFrom_99]
    rw [if_pos (by decide)]
  · simp only [T_X6_digestFrom_99]
    rw [show (3 : Int32) = zI ((3 : Nat) : Int) from rfl, if_le_f hx (by omega), f6_pt ct wt hk hx, bd_some, nm, zS, dg]
    have e : dt a (3 * k + x) = Int32.toInt64 (ptv a k x) := by
      unfold dt
      rw [show (3 * k + x) / 3 = k by omega, show (3 * k + x) % 3 = x by omega]
    rw [e]
theorem d8_4 {S : Sg} {a : AS} (ct : CT 0 S a) (wt : WT a) {s : Int64} : T_X6_digestFrom_87 0 S FU s 0 = some (dg (dt a) s (3 * aT a)) := by
  have wT := wt.1
  refine loopE (fun n x => T_X6_digestFrom_87 0 S n (dg (dt a) s (3 * x)) (zI x)) (aT a) (some (dg (dt a) s (3 * aT a))) (by omega) (fun n => ?_) (fun n x hx => ?_)
  · simp only [T_X6_digestFrom_87]
    rw [ct.1, if_le_t (by omega) (by omega)]
  · simp only [T_X6_digestFrom_87]
    rw [ct.1, if_le_f hx (by omega), d8_4i ct wt hx, bd_some, zS, dg_add]; rfl
theorem d9_4 {S : Sg} {a : AS} (ct : MT S a) (wt : WT a) {s : Int64} : T_X9_digest_93 FU 0 (ml S s) = some (ml S (dg (dt a) s (3 * aT a))) := by
  have wT := wt.1
  refine loopE (fun n x => T_X9_digest_93 n (zI x) (ml S (dg (dt a) s x))) (3 * aT a) (some (ml S (dg (dt a) s (3 * aT a)))) (by omega) (fun n => ?_) (fun n x hx => ?_)
  · simp only [T_X9_digest_93]
    rw [ml_1, ct.1, zM (m := 3) (c := 3) rfl, if_le_t (by omega) (by omega)]
  · simp only [T_X9_digest_93]
    have e : S.1 8 x = ptv a (x / 3) (x % 3) := by
      rw [← f9_pt ct (k := x / 3) (e := x % 3) (by omega) (by omega), show 3 * (x / 3) + x % 3 = x by omega]
    rw [ml_1, ct.1, zM (m := 3) (c := 3) rfl, if_le_f hx (by omega), chk_N (by omega) (by omega), z_tnN (by omega), e, f9_mix, bd_some, zS, dg]; rfl
/-! what was told -/
def dh (a : AS) (h : Nat) : Int64 := zJ (10 * (aX a h : Int)) + zJ (aY a h)
theorem d8_5 {S : Sg} {a : AS} (ch : CH 0 S a) (w : WG a) (wh : WH a) {s : Int64} : T_X1_digestFrom_5 0 S FU s 0 = some (dg (dh a) s (aH a)) := by
  have wH := wh.1
  have wP := w.1
  refine loopE (fun n x => T_X1_digestFrom_5 0 S n (dg (dh a) s x) (zI x)) (aH a) (some (dg (dh a) s (aH a))) (by omega) (fun n => ?_) (fun n x hx => ?_)
  · simp only [T_X1_digestFrom_5]
    rw [ch.1, if_le_t (by omega) (by omega)]
  · have w1 := (wh.2.1 x hx).1
    have w2 := (wh.2.1 x hx).2.1
    simp only [T_X1_digestFrom_5]
    rw [ch.1, if_le_f hx (by omega), chk_N (by omega) (by omega), chk_N (by omega) (by omega), z_tnN (by omega), ch.2.1 x hx, ch.2.2.1 x hx, show (10 : Int32) = zI 10 from rfl, z_mul, zJ_z (by omega) (by omega), zJ_z (by omega) (by omega), nm, zS, dg, Int64.add_assoc]; rfl
theorem d9_5 {S : Sg} {a : AS} (ch : MH S a) (w : WG a) (wh : WH a) {s : Int64} : T_X9_digest_122 FU 0 (ml S s) = some (ml S (dg (dh a) s (aH a))) := by
  have wH := wh.1
  have wP := w.1
  refine loopE (fun n x => T_X9_digest_122 n (zI x) (ml S (dg (dh a) s x))) (aH a) (some (ml S (dg (dh a) s (aH a)))) (by omega) (fun n => ?_) (fun n x hx => ?_)
  · simp only [T_X9_digest_122]
    rw [ml_1, ch.1, if_le_t (by omega) (by omega)]
  · have w1 := (wh.2.1 x hx).1
    have w2 := (wh.2.1 x hx).2.1
    simp only [T_X9_digest_122]
    rw [ml_1, ch.1, if_le_f hx (by omega), chk_N (by omega) (by omega), chk_N (by omega) (by omega), z_tnN (by omega), ch.2.2.1 x hx, ch.2.2.2.1 x hx, zJ_z (by omega) (by omega), zJ_z (by omega) (by omega), show (10 : Int64) = zJ 10 from rfl, show zJ 10 * zJ (aX a x) = zJ (10 * aX a x) from (Int64.ofInt_mul _ _).symm, f9_mix, bd_some, zS, dg]; rfl
/-! what is kept -/
def dk (μ : Sg) (k : Nat) : Int64 := if kpt μ k = true then Int32.toInt64 (μ.1 26 (488 * k + 486)) else -1
theorem dk_8 {σ μ : Sg} (h : RK σ μ) {k : Nat} (hk : k < 3) (q : kpt μ k = true) : σ.1 (sb (2 + k) + 8) 5 = μ.1 26 (488 * k + 486) := by
  rcases h k hk with ⟨h1, h2⟩ | ⟨h1, h2, h3⟩
  · unfold kpt at q
    rw [h2] at q
    exact absurd q (by decide)
  · obtain ⟨a, hw, ⟨cg, ct, ch⟩, ⟨mg, mt, mh⟩⟩ := h3
    rw [ch.1, ← mh.1]; rfl
theorem d8_6 {σ μ : Sg} (h : RK σ μ) {s : Int64} : T_X8_digest_42 σ FU s 0 = some (dg (dk μ) s 3) := by
  refine loopE (fun n x => T_X8_digest_42 σ n (dg (dk μ) s x) (zI x)) 3 (some (dg (dk μ) s 3)) (by omega) (fun n => ?_) (fun n x hx => ?_)
  · simp only [T_X8_digest_42]
    rw [if_pos (by decide)]
  · simp only [T_X8_digest_42]
    rw [show (3 : Int32) = zI ((3 : Nat) : Int) from rfl, if_le_f hx (by omega), chk_N (by omega) (by omega), chk_N (by omega) (by omega), z_tnN (by omega), (RK_4 h hx).1, bI_z, zS, dg]
    cases q : kpt μ x
    · rw [if_neg (by decide), bd_some, nm]
      unfold dk
      rw [q]; rfl
    · rw [if_pos rfl, bd_some, nm, dk_8 h hx q]
      unfold dk
      rw [q]; rfl
theorem d9_6 {σ μ : Sg} (h : RK σ μ) {s : Int64} : T_X9_digest_161 FU 0 (ml μ s) = some (ml μ (dg (dk μ) s 3)) := by
  refine loopE (fun n x => T_X9_digest_161 n (zI x) (ml μ (dg (dk μ) s x))) 3 (some (ml μ (dg (dk μ) s 3))) (by omega) (fun n => ?_) (fun n x hx => ?_)
  · simp only [T_X9_digest_161]
    rw [if_pos (by decide)]
  · simp only [T_X9_digest_161]
    rw [show (488 : Int32) * zI x + 486 = zI ((488 * x + 486 : Nat) : Int) from zMA (m := 488) (e := 486) rfl, show (3 : Int32) = zI ((3 : Nat) : Int) from rfl, if_le_f hx (by omega), chk_N (by omega) (by omega), chk_N (by omega) (by omega), z_tnN (by omega), z_tnN (by omega), ml_1, (RK_4 h hx).2, bI_z, zS, dg]
    cases q : kpt μ x
    · rw [if_neg (by decide), bd_some, f9_mix, bd_some]
      unfold dk
      rw [q]; rfl
    · rw [if_pos rfl, bd_some, f9_mix, bd_some]
      unfold dk
      rw [q]; rfl
/-! rows -/
def dr (μ : Sg) (s : Int64) : Nat → Int64
  | 0 => s
  | n + 1 => dg (fun j => Int32.toInt64 (μ.1 2 (40 * n + j))) (31 * dr μ s n + Int32.toInt64 (μ.1 1 n)) (μ.1 1 n).toInt.toNat
theorem if_leI {α : Type} {z : Int} {x : Nat} {A B : α} (h1 : -1 ≤ z) (h2 : z ≤ 80) (hx : x ≤ 80) : (if zI z ≤ zI x then A else B) = if z.toNat ≤ x then A else B := by
  rw [if_leZ (by omega) (by omega) (by omega) (by omega)]
  by_cases h : z ≤ x
  · rw [if_pos h, if_pos (by omega)]
  · rw [if_neg h, if_neg (by omega)]
theorem d4 {S : Sg} {u : Nat} {z : Int} (h : S.1 (14 + 2 * u) 1 = zI z) (z1 : -1 ≤ z) (z2 : z ≤ 40) {s : Int64} : F_X4_digestFrom u S s = some (dg (fun j => Int32.toInt64 (S.1 (14 + 2 * u + 1) j)) (31 * s + Int32.toInt64 (zI z)) z.toNat) := by
  have q := loopE (fun n x => T_X4_digestFrom_15 u S n (dg (fun j => Int32.toInt64 (S.1 (14 + 2 * u + 1) j)) (31 * s + Int32.toInt64 (zI z)) x) (zI x)) z.toNat (some (dg (fun j => Int32.toInt64 (S.1 (14 + 2 * u + 1) j)) (31 * s + Int32.toInt64 (zI z)) z.toNat)) (by omega) (fun n => by
    simp only [T_X4_digestFrom_15]
    rw [h, if_leI z1 (by omega) (by omega), if_pos (Nat.le_refl _)]) (fun n x hx => by
    simp only [T_X4_digestFrom_15]
    rw [h, if_leI z1 (by omega) (by omega), if_neg (by omega), chk_N (by omega) (by omega), z_tnN (by omega), nm, zS, dg])
  rw [F_X4_digestFrom, nm, h]
  exact bd_t q
theorem d8_7 {σ μ : Sg} (h : RR σ μ) {s : Int64} : T_X8_digest_88 σ FU s 0 = some (dr μ s 6) := by
  refine loopE (fun n x => T_X8_digest_88 σ n (dr μ s x) (zI x)) 6 (some (dr μ s 6)) (by omega) (fun n => ?_) (fun n x hx => ?_)
  · simp only [T_X8_digest_88]
    rw [if_pos (by decide)]
  · obtain ⟨⟨z, z1, z2, z3, z4⟩, hr⟩ := h x hx
    simp only [T_X8_digest_88]
    rw [show (6 : Int32) = zI ((6 : Nat) : Int) from rfl, if_le_f hx (by omega), chk_N (by omega) (by omega), z_tnN (by omega), d4 z3 z1 z2, bd_some, zS, dr, z4, z_toInt (by omega) (by omega), dg_cg (f := fun j => Int32.toInt64 (σ.1 (14 + 2 * x + 1) j)) (g := fun j => Int32.toInt64 (μ.1 2 (40 * x + j))) _ (fun j hj => by show Int32.toInt64 _ = _; rw [hr j (by omega)])]
theorem d9_7i {S : Sg} {u : Nat} {z : Int} (hu : u < 6) (h : S.1 1 u = zI z) (z1 : -1 ≤ z) (z2 : z ≤ 40) {s : Int64} : T_X9_digest_227 (zI u) FU 0 (ml S s) = some (ml S (dg (fun j => Int32.toInt64 (S.1 2 (40 * u + j))) s z.toNat)) := by
  refine loopE (fun n x => T_X9_digest_227 (zI u) n (zI x) (ml S (dg (fun j => Int32.toInt64 (S.1 2 (40 * u + j))) s x))) z.toNat (some (ml S (dg (fun j => Int32.toInt64 (S.1 2 (40 * u + j))) s z.toNat))) (by omega) (fun n => ?_) (fun n x hx => ?_)
  · simp only [T_X9_digest_227]
    rw [chk_N (by omega) (by omega), z_tnN (by omega), ml_1, h, if_leI z1 (by omega) (by omega), if_pos (Nat.le_refl _)]
  · simp only [T_X9_digest_227]
    rw [chk_N (by omega) (by omega), z_tnN (by omega), ml_1, h, if_leI z1 (by omega) (by omega), if_neg (by omega), zMA (m := 40) (c := 40) rfl, chk_N (by omega) (by omega), z_tnN (by omega), f9_mix, bd_some, zS, dg]
theorem d9_7 {σ μ : Sg} (h : RR σ μ) {s : Int64} : T_X9_digest_208 FU 0 (ml μ s) = some (ml μ (dr μ s 6)) := by
  refine loopE (fun n x => T_X9_digest_208 n (zI x) (ml μ (dr μ s x))) 6 (some (ml μ (dr μ s 6))) (by omega) (fun n => ?_) (fun n x hx => ?_)
  · simp only [T_X9_digest_208]
    rw [if_pos (by decide)]
  · obtain ⟨⟨z, z1, z2, z3, z4⟩, hr⟩ := h x hx
    simp only [T_X9_digest_208]
    rw [show (6 : Int32) = zI ((6 : Nat) : Int) from rfl, if_le_f hx (by omega), chk_N (by omega) (by omega), z_tnN (by omega), f9_mix, bd_some, ml_1, z4, d9_7i hx z4 z1 z2, bd_some, zS, dr, z4, z_toInt (by omega) (by omega)]
/-! texts -/
def dx (μ : Sg) (s : Int64) : Nat → Int64
  | 0 => s
  | n + 1 => dg (fun j => Int32.toInt64 (μ.1 4 (80 * n + j))) (31 * dx μ s n + Int32.toInt64 (μ.1 3 n)) (μ.1 3 n).toInt.toNat
theorem d7 {S : Sg} {u : Nat} {z : Int} (h : S.1 (26 + 2 * u) 1 = zI z) (z1 : -1 ≤ z) (z2 : z ≤ 80) {s : Int64} : F_X7_digestFrom u S s = some (dg (fun j => Int32.toInt64 (S.1 (26 + 2 * u + 1) j)) (31 * s + Int32.toInt64 (zI z)) z.toNat) := by
  have q := loopE (fun n x => T_X7_digestFrom_15 u S n (dg (fun j => Int32.toInt64 (S.1 (26 + 2 * u + 1) j)) (31 * s + Int32.toInt64 (zI z)) x) (zI x)) z.toNat (some (dg (fun j => Int32.toInt64 (S.1 (26 + 2 * u + 1) j)) (31 * s + Int32.toInt64 (zI z)) z.toNat)) (by omega) (fun n => by
    simp only [T_X7_digestFrom_15]
    rw [h, if_leI z1 (by omega) (by omega), if_pos (Nat.le_refl _)]) (fun n x hx => by
    simp only [T_X7_digestFrom_15]
    rw [h, if_leI z1 (by omega) (by omega), if_neg (by omega), chk_N (by omega) (by omega), z_tnN (by omega), nm, zS, dg])
  rw [F_X7_digestFrom, nm, h]
  exact bd_t q
theorem d8_8 {σ μ : Sg} (h : RT σ μ) {s : Int64} : T_X8_digest_113 σ FU s 0 = some (dx μ s 4) := by
  refine loopE (fun n x => T_X8_digest_113 σ n (dx μ s x) (zI x)) 4 (some (dx μ s 4)) (by omega) (fun n => ?_) (fun n x hx => ?_)
  · simp only [T_X8_digest_113]
    rw [if_pos (by decide)]
  · obtain ⟨⟨z, z1, z2, z3, z4⟩, hr⟩ := h x hx
    simp only [T_X8_digest_113]
    rw [show (4 : Int32) = zI ((4 : Nat) : Int) from rfl, if_le_f hx (by omega), chk_N (by omega) (by omega), z_tnN (by omega), d7 z3 z1 z2, bd_some, zS, dx, z4, z_toInt (by omega) (by omega), dg_cg (f := fun j => Int32.toInt64 (σ.1 (26 + 2 * x + 1) j)) (g := fun j => Int32.toInt64 (μ.1 4 (80 * x + j))) _ (fun j hj => by
      obtain ⟨t, t1, t2, t3, t4⟩ := hr j (by omega)
      show Int32.toInt64 _ = _; rw [t3, t4])]
theorem d9_8i {S : Sg} {u : Nat} {z : Int} (hu : u < 4) (h : S.1 3 u = zI z) (z1 : -1 ≤ z) (z2 : z ≤ 80) {s : Int64} : T_X9_digest_285 (zI u) FU 0 (ml S s) = some (ml S (dg (fun j => Int32.toInt64 (S.1 4 (80 * u + j))) s z.toNat)) := by
  refine loopE (fun n x => T_X9_digest_285 (zI u) n (zI x) (ml S (dg (fun j => Int32.toInt64 (S.1 4 (80 * u + j))) s x))) z.toNat (some (ml S (dg (fun j => Int32.toInt64 (S.1 4 (80 * u + j))) s z.toNat))) (by omega) (fun n => ?_) (fun n x hx => ?_)
  · simp only [T_X9_digest_285]
    rw [chk_N (by omega) (by omega), z_tnN (by omega), ml_1, h, if_leI z1 (by omega) (by omega), if_pos (Nat.le_refl _)]
  · simp only [T_X9_digest_285]
    rw [chk_N (by omega) (by omega), z_tnN (by omega), ml_1, h, if_leI z1 (by omega) (by omega), if_neg (by omega), zMA (m := 80) (c := 80) rfl, chk_N (by omega) (by omega), z_tnN (by omega), f9_mix, bd_some, zS, dg]
theorem d9_8 {σ μ : Sg} (h : RT σ μ) {s : Int64} : T_X9_digest_267 FU 0 (ml μ s) = some (ml μ (dx μ s 4)) := by
  refine loopE (fun n x => T_X9_digest_267 n (zI x) (ml μ (dx μ s x))) 4 (some (ml μ (dx μ s 4))) (by omega) (fun n => ?_) (fun n x hx => ?_)
  · simp only [T_X9_digest_267]
    rw [if_pos (by decide)]
  · obtain ⟨⟨z, z1, z2, z3, z4⟩, hr⟩ := h x hx
    simp only [T_X9_digest_267]
    rw [show (4 : Int32) = zI ((4 : Nat) : Int) from rfl, if_le_f hx (by omega), chk_N (by omega) (by omega), z_tnN (by omega), f9_mix, bd_some, ml_1, z4, d9_8i hx z4 z1 z2, bd_some, zS, dx, z4, z_toInt (by omega) (by omega)]
theorem s_digest : st_digest R := by
  intro σ μ h
  obtain ⟨⟨a, ⟨wg, wt, wh⟩, ⟨cg, ct, ch⟩, ⟨mg, mt, mh⟩⟩, hA, hR, hT, hD, hK⟩ := id h
  unfold F_X8_digest F_X9_digest
  rw [nm]
  show ∃ r μ1, _ ∧ (bd (T_X9_digest_9 FU 0 (ml μ 17)) _ = _) ∧ _
  rw [d8_1 h, d9_1 h, bd_some, bd_some, F_X6_digestFrom, d8_2 cg wg, bd_some, d8_3 cg ch wg wh, bd_some, d8_4 ct wt, bd_some, F_X1_digestFrom, d8_5 ch wg wh, bd_some, bd_some, bd_some, d8_6 hK, bd_some, d8_7 hR, bd_some, d8_8 hT, bd_some, d9_2 mg wg, bd_some, d9_3 mg mh wg wh, bd_some, d9_4 mt wt, bd_some, d9_5 mh wg wh, bd_some, d9_6 hK, bd_some, d9_7 hR, bd_some, d9_8 hT, bd_some, ml_2]
  exact ⟨_, _, rfl, rfl, R_ml h⟩
