/-! ===== the law's talks ===== -/
def tlk (a : AS) (m n : Nat) (s : Int32) : AS := setS (setN (setN (setN a 4 (fun j => if j = aT a then m else aS a j)) 5 (fun j => if j = aT a then n else aE a j)) 0 (fun j => if j = 2 then aT a + 1 else a.1 0 j)) 0 (fun j => if j = aT a then s else aB a j)
theorem m_talk {a : AS} {S : Sg} (nw : Nw a S) (w : wf a) {m n : Nat} {s : Int32} (hm : m < aP a) (hn : n < aP a) (hmn : m ≠ n) (hs : sub (aP a) s) (hsm : tb s m = false) (hsn : tb s n = false) (hT : aT a < 8) : ∃ S', F_X8_talk S (zI m) (zI n) s = some (zI (aT a), S') ∧ Nw (tlk a m n s) S' ∧ wf (tlk a m n s) ∧ sm 99 105 S S' := by
  obtain ⟨cg, ct, ch⟩ := nw
  obtain ⟨wg, wt, wh⟩ := w
  have wP := wg.1
  have p7 := pow8 (n := aP a) (by omega)
  have e34 : sb 0 = 34 := rfl
  have hs2 := hs
  obtain ⟨z, hz, rfl⟩ := sub_z (by omega) hs
  let T := aT a
  have hT8 : T < 8 := hT
  have S' : ∀ j, aS (tlk a m n (zI z)) j = if j = T then m else aS a j := fun _ => rfl
  have E' : ∀ j, aE (tlk a m n (zI z)) j = if j = T then n else aE a j := fun _ => rfl
  have B' : ∀ j, aB (tlk a m n (zI z)) j = if j = T then zI z else aB a j := fun _ => rfl
  have wt' : WT (tlk a m n (zI z)) := ⟨by show T + 1 ≤ 8; omega, fun k hk => by
    have hk : k < T + 1 := hk
    rw [S', E', B']
    by_cases q : k = T
    · rw [if_pos q, if_pos q, if_pos q]
      exact ⟨hm, hn, hmn, hs2, hsm, hsn⟩
    · rw [if_neg q, if_neg q, if_neg q]
      exact wt.2 k (by omega)⟩
  have cg' : CG 0 S (tlk a m n (zI z)) := CG_a (a := a) rfl rfl (fun _ => rfl) (fun _ => rfl) (fun _ => rfl) cg
  have k8 : F_X6_addTalk 0 S (zI m) (zI n) (zI z) = some (zI T, wI (wI (wI (wI S (sb 0 + 5) T (zI m)) (sb 0 + 6) T (zI n)) (sb 0 + 7) T (zI z)) (sb 0) 10 (zI ((T + 1 : Nat) : Int))) := by
    rw [F_X6_addTalk]
    simp (disch := omega) only [nm, ct.1, chk_N, z_tnN, wI_ne]
    rw [zSu, wI_eq, z_1, z_sub]
    exact congrArg (fun q => some (zI q, _)) (by show ((T + 1 : Nat) : Int) - 1 = T; omega)
  have sm8 : ∀ lo hi, 42 ≤ lo ∨ hi ≤ 34 → sm lo hi S (wI (wI (wI (wI S (sb 0 + 5) T (zI m)) (sb 0 + 6) T (zI n)) (sb 0 + 7) T (zI z)) (sb 0) 10 (zI ((T + 1 : Nat) : Int))) := fun lo hi q => sm_tr (sm_tr (sm_tr (sm_wI (by omega)) (sm_wI (by omega))) (sm_wI (by omega))) (sm_wI (by omega))
  have ct' : CT 0 (wI (wI (wI (wI S (sb 0 + 5) T (zI m)) (sb 0 + 6) T (zI n)) (sb 0 + 7) T (zI z)) (sb 0) 10 (zI ((T + 1 : Nat) : Int))) (tlk a m n (zI z)) := ⟨wI_eq, fun j hj => by
    have hj : j < T + 1 := hj
    rw [S', wI_ne (by omega), wI_ne (by omega), wI_ne (by omega), wI_1, if_pos rfl]
    by_cases q : j = T
    · rw [if_pos q, if_pos q]
    · rw [if_neg q, if_neg q, ct.2.1 j (by omega)], fun j hj => by
    have hj : j < T + 1 := hj
    rw [E', wI_ne (by omega), wI_ne (by omega), wI_1, if_pos rfl]
    by_cases q : j = T
    · rw [if_pos q, if_pos q]
    · rw [if_neg q, if_neg q, wI_ne (by omega), ct.2.2.1 j (by omega)], fun j hj => by
    have hj : j < T + 1 := hj
    rw [B', wI_ne (by omega), wI_1, if_pos rfl]
    by_cases q : j = T
    · rw [if_pos q, if_pos q]
    · rw [if_neg q, if_neg q, wI_ne (by omega), wI_ne (by omega), ct.2.2.2 j (by omega)]⟩
  refine ⟨_, ?_, ⟨CG_k (fun c k q => by
    rcases q with ⟨rfl, q⟩ | q
    · rw [wI_ne (by omega), wI_ne (by omega), wI_ne (by omega), wI_ne (by omega)]
    · rw [wI_ne (by omega), wI_ne (by omega), wI_ne (by omega), wI_ne (by omega)]) cg', ct', CH_k (fun c k q => sm8 42 47 (by decide) (sb 0 + c) (by omega) (by omega) k) (CH_a (a := a) rfl rfl rfl rfl (fun h => if_neg (by omega)) rfl ch)⟩, ⟨wg, wt', WH_a (a := a) rfl rfl rfl rfl rfl (fun h => if_neg (by omega)) rfl rfl wh⟩, sm8 _ _ (by decide)⟩
  unfold F_X8_talk
  rw [f8_two cg wg ⟨by omega, by omega⟩ ⟨by omega, by omega⟩, tw_y hm hn hmn, bd_some, t0, f8_isSet cg wg ⟨by omega, by omega⟩, bd_some, inZ_y (by omega), t0, has_if (by omega), hsm, if_neg (by decide), has_if (by omega), hsn, if_neg (by decide), ct.1, show (8 : Int32) = zI ((8 : Nat) : Int) from rfl, if_ltZ (by omega) (by omega) (by decide) (by decide), if_pos (by omega), k8, bd_some]
def Lb (a : AS) (S : Sg) : Prop := S.1 102 0 = zI (aP a) ∧ S.1 102 1 = zI (aW a) ∧ ∀ j, j < aW a → S.1 101 j = zI (aL a j)
def tki (b : AS) (k : Nat) (a : AS) (S : Sg) : Prop := wf a ∧ Nw a S ∧ aT a = k ∧ aP a = aP b ∧ aL a = aL b ∧ aH a = 0 ∧ (∀ t, aN a t = 0) ∧ Lb a S
theorem mod_z {p q : Nat} (hp : p < 2147483648) (hq0 : 0 < q) (hq : q < 2147483648) : zI p - zI p / zI q * zI q = zI ((p % q : Nat) : Int) := by
  have h3 : p / q * q + p % q = p := by rw [Nat.mul_comm]; exact Nat.div_add_mod p q
  rw [z_divN hp hq, z_mul, z_sub]
  refine congrArg zI ?_
  rw [← Int.natCast_mul]
  omega
theorem b31 {b : AS} {Ln : Nat} {xs : Nat → Int32} (hLn : Ln ≤ 260) (hP2 : 2 ≤ aP b) {T : Nat} (hT : T ≤ 6) : ∀ (e k : Nat), k + e = T → ∀ f, e < f → ∀ (a : AS) (S : Sg), tki b k a S → ∃ S' a', T_L_talks_31 Ln xs 10 (zI T) f 1 (zI k) S = some (1, S') ∧ tki b T a' S' := by
  intro e
  induction e with
  | zero =>
    intro k hk f hf a S h
    obtain ⟨f, rfl⟩ : ∃ x, f = x + 1 := ⟨f - 1, by omega⟩
    have ek : k = T := by omega
    subst ek
    refine ⟨S, a, ?_, h⟩
    simp only [T_L_talks_31]
    rw [if_le_t (Nat.le_refl _) (by omega)]
  | succ e ih =>
    intro k hk f hf a S h
    obtain ⟨f, rfl⟩ : ∃ x, f = x + 1 := ⟨f - 1, by omega⟩
    obtain ⟨w, nw, aTk, aPb, aLb, aH0, aN0, l0, l1, l2⟩ := h
    have wP := w.1.1
    have hP : 2 ≤ aP a := by omega
    have p7 := pow8 (n := aP a) (by omega)
    have ea : ((10 : Int32) + (1 : Int32)) + zI k = zI ((11 + k : Nat) : Int) := by
      rw [show ((10 : Int32) + (1 : Int32)) = zI 11 from rfl, z_add]; exact congrArg zI (by omega)
    obtain ⟨v, kv⟩ := l_cell (xs := xs) (S := S) (j := 11 + k) hLn (by omega)
    obtain ⟨x, hx, kx⟩ := l_some (S := S) (v := v) (n := aP a) (by omega) (by omega)
    obtain ⟨y, hy, ky⟩ := l_some (S := S) (v := v >>> ((3 : Int32) &&& 31)) (n := aP a - 1) (by omega) (by omega)
    obtain ⟨g, hg, kg⟩ := l_some (S := S) (v := v >>> ((6 : Int32) &&& 31)) (n := 2 ^ aP a) (by omega) (by omega)
    obtain ⟨q, hq, kq⟩ := l_some (S := S) (v := v >>> ((13 : Int32) &&& 31)) (n := 2 ^ aP a) (by omega) (by omega)
    let to := (x + 1 + y) % aP a
    have hto : to < aP a := Nat.mod_lt _ (by omega)
    have hne : x ≠ to := by
      show x ≠ (x + 1 + y) % aP a
      rcases Nat.lt_or_ge (x + 1 + y) (aP a) with c | c
      · rw [Nat.mod_eq_of_lt c]; omega
      · rw [Nat.mod_eq_sub_mod c, Nat.mod_eq_of_lt (by omega)]; omega
    have eto : (zI x + 1 + zI y) - (zI x + 1 + zI y) / zI (aP a) * zI (aP a) = zI ((to : Nat) : Int) := by
      rw [zSu, z_add, show (((x + 1 : Nat) : Int) + y) = ((x + 1 + y : Nat) : Int) by push_cast; rfl, mod_z (by omega) (by omega) (by omega)]
    let no : Int32 := ((zI g &&& zI q) &&& (((1 : Int32) <<< (zI x &&& 31)) ^^^ (-1 : Int32))) &&& (((1 : Int32) <<< (zI ((to : Nat) : Int) &&& 31)) ^^^ (-1 : Int32))
    have hno : sub (aP a) no := sub_and (sub_and (sub_and (z_sub_ (by omega) hg)))
    have hnx : tb no x = false := by
      show tb (((zI g &&& zI q) &&& (((1 : Int32) <<< (zI x &&& 31)) ^^^ (-1 : Int32))) &&& _) x = false
      rw [tb_and, tb_and, tb_not (by omega), tb_one (by omega) (by omega), decide_eq_true rfl, Bool.not_true, Bool.and_false, Bool.false_and]
    have hnt : tb no to = false := by
      show tb (_ &&& (((1 : Int32) <<< (zI ((to : Nat) : Int) &&& 31)) ^^^ (-1 : Int32))) to = false
      rw [tb_and, tb_not (by omega), tb_one (by omega) (by omega), decide_eq_true rfl, Bool.not_true, Bool.and_false]
    let S3 := wI (wI (wI S 103 (3 * k) (zI x)) 103 (3 * k + 1) (zI ((to : Nat) : Int))) 103 (3 * k + 2) no
    have s3 : ∀ lo hi, hi ≤ 103 → sm lo hi S S3 := fun lo hi h => sm_tr (sm_tr (sm_wI (by omega)) (sm_wI (by omega))) (sm_wI (by omega))
    have nw3 : Nw a S3 := Nw_s nw (s3 _ _ (by decide))
    obtain ⟨S4, k4, n4, w4, s4⟩ := m_talk nw3 w hx hto hne hno hnx hnt (by omega)
    have o4 : ∀ c n, 99 ≤ c → c < 103 → S4.1 c n = S.1 c n := fun c n h1 h2 => ((s4 c h1 (by omega) n).1).trans ((s3 99 103 (by decide) c h1 h2 n).1)
    have l0' : S.1 102 (0 : Int32).toNatClampNeg = zI (aP a) := l0
    have i04 : ∀ {α : Type} (K : Option α), chk (inB (0 : Int32) 4) K = K := fun K => chk_N (n := 0) (by decide) (by decide)
    have e3 : (3 : Int32) * zI k = zI ((3 * k : Nat) : Int) := by
      rw [show (3 : Int32) = zI 3 from rfl, z_mul]; exact congrArg zI (by push_cast; rfl)
    have e32 : zI ((3 * k : Nat) : Int) + (2 : Int32) = zI ((3 * k + 2 : Nat) : Int) := by
      rw [zN2, z_add]; exact congrArg zI (by push_cast; rfl)
    have ePm : zI (aP a : Int) - 1 = zI ((aP a - 1 : Nat) : Int) := by
      rw [z_1, z_sub]; exact congrArg zI (by omega)
    simp only [T_L_talks_31, nm, i04]
    rw [if_le_f (by omega) (by omega), if_neg (show ¬ (1 : Int32) = 0 by decide), ea, kv, bd_some, l0', kx, bd_some, ePm, ky, bd_some, nz_ne (z_ne0 (by omega) (by omega)), eto, one_z (P := aP a) (by omega), kg, bd_some, kq, bd_some, e3, zSu, e32, chk_N (by omega) (by omega), chk_N (by omega) (by omega), chk_N (by omega) (by omega), z_tnN (by omega), z_tnN (by omega), z_tnN (by omega)]
    rw [show F_X8_talk (wI (wI (wI S 103 (3 * k) (zI x)) 103 (3 * k + 1) (zI ((to : Nat) : Int))) 103 (3 * k + 2) (((zI g &&& zI q) &&& (((1 : Int32) <<< (zI x &&& 31)) ^^^ (-1 : Int32))) &&& (((1 : Int32) <<< (zI ((to : Nat) : Int) &&& 31)) ^^^ (-1 : Int32)))) (zI x) (zI ((to : Nat) : Int)) (((zI g &&& zI q) &&& (((1 : Int32) <<< (zI x &&& 31)) ^^^ (-1 : Int32))) &&& (((1 : Int32) <<< (zI ((to : Nat) : Int) &&& 31)) ^^^ (-1 : Int32))) = _ from k4, bd_some]
    dsimp only
    rw [aTk, if_pos rfl, bd_some, zSu]
    refine ih (k + 1) (by omega) f (by omega) (tlk a x to no) S4 ⟨w4, n4, ?_, aPb, aLb, aH0, aN0, ?_, ?_, fun j hj => ?_⟩
    · show aT a + 1 = k + 1
      rw [aTk]
    · exact (o4 102 0 (by decide) (by decide)).trans l0
    · exact (o4 102 1 (by decide) (by decide)).trans l1
    · exact (o4 101 j (by decide) (by decide)).trans (l2 j hj)
theorem law_talks {b : AS} {Ln : Nat} {xs : Nat → Int32} (hLn : Ln ≤ 260) (hP2 : 2 ≤ aP b) {S : Sg} (h : tki b 0 b S) : ∃ S' a, F_L_talks Ln xs S 10 6 = some (1, S') ∧ wf a ∧ Nw a S' ∧ aP a = aP b ∧ aL a = aL b ∧ aH a = 0 ∧ (∀ t, aN a t = 0) ∧ La a S' := by
  have wP := h.1.1.1
  obtain ⟨v, kv⟩ := l_cell (xs := xs) (S := S) (j := 10) hLn (by omega)
  obtain ⟨T, hT, kT⟩ := l_some (S := S) (v := v) (n := 7) (by omega) (by omega)
  obtain ⟨S1, a, k1, t1⟩ := b31 (Ln := Ln) (xs := xs) hLn hP2 (T := T) (by omega) T 0 (by omega) FU (by unfold FU; omega) b S h
  obtain ⟨w, nw, aTk, aPb, aLb, aH0, aN0, l0, l1, l2⟩ := t1
  have sw : ∀ lo hi, hi ≤ 102 → sm lo hi S1 (wI S1 102 2 (zI T)) := fun lo hi q => sm_wI (by omega)
  refine ⟨wI S1 102 2 (zI T), a, ?_, w, Nw_s nw (sw _ _ (by decide)), aPb, aLb, aH0, aN0, (wI_ne (.inr (by decide))).trans l0, (wI_ne (.inr (by decide))).trans l1, by rw [wI_eq, aTk], fun j hj => (wI_ne (.inl (by decide))).trans (l2 j hj)⟩
  have i04 : ∀ {α : Type} (K : Option α), chk (inB (0 : Int32) 4) K = K := fun K => chk_N (n := 0) (by decide) (by decide)
  have i24 : ∀ {α : Type} (K : Option α), chk (inB (2 : Int32) 4) K = K := fun K => chk_N (n := 2) (by decide) (by decide)
  have l0' : S.1 102 (0 : Int32).toNatClampNeg = zI (aP b) := h.2.2.2.2.2.2.2.1
  have kv' : F_L_cell Ln xs S (10 : Int32) = some v := kv
  have kT' : F_L_some S v ((6 : Int32) + (1 : Int32)) = some (zI T) := kT
  have k1' : T_L_talks_31 Ln xs (10 : Int32) (zI T) FU (1 : Int32) (0 : Int32) S = some (1, S1) := k1
  unfold F_L_talks
  simp only [nm, i04, i24]
  rw [l0', zN2, if_le_t hP2 (by omega), kv', bd_some, kT', bd_some, bd_some, k1', bd_some]
  dsimp only
  rw [chk_t (show zB (1 : Int32) = true by decide)]
  rfl
/-- the law's answer -/
theorem law_one {Ln : Nat} {xs : Nat → Int32} (hLn : Ln ≤ 260) {S : Sg} (h49 : S.1 49 0 = 0) : ∃ S1 S2, F_L_build Ln xs S 0 2 7 = some (1, S1) ∧ F_L_law Ln xs S1 1 = some (1, S2) := by
  obtain ⟨S1, P, W, d, κ, r, β, hb, hP, k1, n1, g0, g1, g2⟩ := law_build (xs := xs) hLn h49
  have w := newA_w hb
  obtain ⟨S2, a, k2, wa, na, aPb, aLb, aH0, aN0, la⟩ := law_talks (b := newA P W d κ r) (xs := xs) hLn (show 2 ≤ P from hP) (S := S1) ⟨w, n1, rfl, rfl, rfl, rfl, fun _ => rfl, g0, g1, g2⟩
  have h9 : ∀ j, aL a j ≤ 9 := fun j => by rw [aLb]; exact hb.2.2.1 j
  obtain ⟨S3, k3⟩ := law_all wa h9 aH0 aN0 (by rw [aPb]; exact hP) hLn k2 na la
  exact ⟨S1, S3, k1, k3⟩
