/-! ===== hours by turns, the most side by side ===== -/
theorem z_and {m n : Nat} (hm : m < 2147483648) (hn : n < 2147483648) : zI m &&& zI n = zI ((m &&& n : Nat) : Int) := by
  refine tb_ext fun j hj => ?_
  have := Nat.and_le_left (n := m) (m := n)
  rw [tb_and, tb_z hm, tb_z hn, tb_z (by omega), Nat.testBit_and]
theorem z_pred {x : Nat} (h : 0 < x) : zI x - 1 = zI ((x - 1 : Nat) : Int) := by
  rw [z_1, z_sub]
  exact congrArg zI (by omega)
/-- what is left of a set without a part of it -/
theorem rest_z {s x : Nat} (hs : s < 256) (hx : x < 256) : ∃ r : Nat, r ≤ s ∧ zI s &&& (zI x ^^^ (-1 : Int32)) = zI r ∧ (r = s → zI x &&& zI s = 0) := by
  have h1 : sub 8 (zI s &&& (zI x ^^^ (-1 : Int32))) := sub_and (z_sub_ (by decide) hs)
  obtain ⟨r, hr, er⟩ := sub_z (by decide) h1
  have h2 : zI r &&& zI s = zI r := by
    rw [← er]
    refine tb_ext fun j hj => ?_
    rw [tb_and, tb_and]
    cases tb (zI s) j <;> simp
  rw [z_and (by omega) (by omega), zNeq (by have := Nat.and_le_left (n := r) (m := s); omega) (by omega)] at h2
  refine ⟨r, ?_, er, fun q => ?_⟩
  · have := Nat.and_le_right (n := r) (m := s)
    omega
  · subst q
    refine tb_ext fun j hj => ?_
    have e2 : tb (zI r &&& (zI x ^^^ (-1 : Int32))) j = tb (zI r) j := by rw [er]
    rw [tb_and, tb_not hj] at e2
    rw [tb_and, tb_0]
    revert e2
    cases tb (zI r) j <;> cases tb (zI x) j <;> simp
def bd1 (v : Int32) : Prop := ∃ z : Int, 0 ≤ z ∧ z ≤ 100 ∧ v = zI z
theorem in89 {S : Sg} {s : Nat} (hs : s < 256) {p1 : Int32} : ∀ x, x ≤ s → ∀ n m, x < n → x < m → ∀ (acc : Int32) (μ : Sg), μ.1 20 s = acc → (∀ j, j ≤ s → S.1 7 j = μ.1 19 j) → (∀ j, j < s → S.1 8 j = μ.1 20 j) → (∀ j, j < s → bd1 (S.1 8 j)) → bd1 acc →
    ∃ r μ', T_X3_fewestOf_11 S (zI s) (zI s &&& (-(zI s))) n acc (zI x) = some r ∧ T_X9_turns_45 p1 (zI s) m (zI x) μ = some μ' ∧ μ'.1 20 s = r ∧ bd1 r ∧ ∀ c k, c ≠ 20 ∨ k ≠ s → μ'.1 c k = μ.1 c k := by
  intro x
  induction x using Nat.strongRecOn with
  | ind x ih =>
    intro hx n m hn hm acc μ h20 h7 h8 hb8 hac
    obtain ⟨n, rfl⟩ : ∃ k, n = k + 1 := ⟨n - 1, by omega⟩
    obtain ⟨m, rfl⟩ : ∃ k, m = k + 1 := ⟨m - 1, by omega⟩
    simp only [T_X3_fewestOf_11, T_X9_turns_45]
    rw [if_le0 (by omega) (by omega), if_eq0 (by omega) (by omega)]
    by_cases q0 : x = 0
    · rw [if_pos (c := (x : Int) ≤ 0) (by omega), if_pos (c := (x : Int) = 0) (by omega)]
      exact ⟨acc, μ, rfl, rfl, h20, hac, fun _ _ _ => rfl⟩
    rw [if_neg (c := (x : Int) ≤ 0) (by omega), if_neg (c := (x : Int) = 0) (by omega), z_pred (by omega), z_and (by omega) (by omega), Int32.and_assoc, nm]
    have hy : (x - 1) &&& s < x := by have := Nat.and_le_left (n := x - 1) (m := s); omega
    have goon : ∀ (acc' : Int32) (μ1 : Sg), bd1 acc' → μ1.1 20 s = acc' → (∀ c k, c ≠ 20 ∨ k ≠ s → μ1.1 c k = μ.1 c k) →
        ∃ r μ', T_X3_fewestOf_11 S (zI s) (zI s &&& (-(zI s))) n acc' (zI (((x - 1) &&& s : Nat) : Int)) = some r ∧ T_X9_turns_45 p1 (zI s) m (zI (((x - 1) &&& s : Nat) : Int)) μ1 = some μ' ∧ μ'.1 20 s = r ∧ bd1 r ∧ ∀ c k, c ≠ 20 ∨ k ≠ s → μ'.1 c k = μ.1 c k := by
      intro acc' μ1 e0 e1 e2
      obtain ⟨r, μ', k1, k2, k3, k5, k4⟩ := ih _ hy (by omega) n m (by omega) (by omega) acc' μ1 e1 (fun j hj => by rw [e2 _ _ (.inl (by decide))]; exact h7 j hj) (fun j hj => by rw [e2 _ _ (.inr (by omega))]; exact h8 j hj) hb8 e0
      exact ⟨r, μ', k1, k2, k3, k5, fun c k hc => (k4 c k hc).trans (e2 c k hc)⟩
    by_cases q1 : zI x &&& (zI s &&& (-(zI s))) = 0
    · rw [if_pos q1, if_pos q1, bd_some, bd_some]
      exact goon acc μ hac h20 (fun _ _ _ => rfl)
    · rw [if_neg q1, if_neg q1, chk_N (by omega) (by omega), chk_N (by omega) (by omega), z_tnN (by omega), h7 x hx]
      by_cases q2 : μ.1 19 x = 0
      · rw [if_pos q2, if_pos q2, bd_some, bd_some]
        exact goon acc μ hac h20 (fun _ _ _ => rfl)
      · obtain ⟨r, r1, r2, r3⟩ := rest_z (x := x) hs (by omega)
        have r4 : r < s := by
          rcases Nat.lt_or_ge r s with h | h
          · exact h
          · exact absurd (by rw [← Int32.and_assoc, r3 (by omega)]; exact Int32.zero_and) q1
        rw [if_neg q2, if_neg q2, r2, chk_N (by omega) (by omega), chk_N (by omega) (by omega), z_tnN (by omega), nm, nm, h8 r r4, chk_N (by omega) (by omega), chk_N (by omega) (by omega), z_tnN (by omega), h20]
        by_cases q3 : 1 + μ.1 20 r < acc
        · rw [if_pos q3, if_neg (nle q3)]
          simp only [bd_some, nm, chk_N (n := s) (m := 256) (by omega) (by omega)]
          refine goon _ _ ?_ wI_eq (fun c k hc => wI_ne (by omega))
          obtain ⟨z, z1, z2, z3⟩ := hb8 r r4
          obtain ⟨y, y1, y2, y3⟩ := hac
          rw [h8 r r4] at z3
          rw [z3, y3, z_1, z_add, z_lt (by omega) (by omega) (by omega) (by omega)] at q3
          exact ⟨1 + z, by omega, by omega, by rw [z3, z_1, z_add]⟩
        · rw [if_neg q3, if_pos (Int32.not_lt.mp q3)]
          simp only [bd_some, nm, chk_N (n := s) (m := 256) (by omega) (by omega)]
          exact goon _ _ hac wI_eq (fun c k hc => wI_ne (by omega))
/-- both sides draw -/
def drI (a : AS) (x : Nat) (S μ : Sg) : Prop := ∀ j, j < x → S.1 7 j = bI (tgt a (zI j)) ∧ μ.1 19 j = bI (tgt a (zI j)) ∧ S.1 8 j = μ.1 20 j ∧ bd1 (S.1 8 j)
theorem smS_wI {S : Sg} {k j : Nat} {v : Int32} (h : 7 ≤ k ∧ k < 14) : smS S (wI S k j v) := ⟨sm_wI (by omega), sm_wI (by omega), sm_wI (by omega)⟩
theorem smN_wI {S : Sg} {k j : Nat} {v : Int32} (h : 15 ≤ k ∧ k < 25) : smN S (wI S k j v) := ⟨fun _ _ _ _ => wI_ne (by omega), fun _ _ _ _ => wI_ne (by omega), fun _ _ _ _ => wI_ne (by omega)⟩
theorem smN_tr {μ μ1 μ2 : Sg} (h : smN μ μ1) (h2 : smN μ1 μ2) : smN μ μ2 := ⟨fun j a b c => (h2.1 j a b c).trans (h.1 j a b c), fun c a b n => (h2.2.1 c a b n).trans (h.2.1 c a b n), fun c a b n => (h2.2.2 c a b n).trans (h.2.2 c a b n)⟩
theorem nar_bI (b : Bool) : vp_nar .boolean (bI b) = bI b := by rw [nar_b]; cases b <;> decide
theorem draw89 {a : AS} (w : WG a) (wt : WT a) : ∀ d x, x + d = 2 ^ aT a → ∀ n m, d < n → d < m → ∀ S μ : Sg, CG 0 S a → CT 0 S a → MG μ a → MT μ a → drI a x S μ →
    ∃ S' μ', T_X3_draw_2 0 n (zI x) S = some S' ∧ T_X9_turns_11 (((1 : Int32) <<< (zI (aT a) &&& 31)) - 1) m (zI x) μ = some μ' ∧ drI a (2 ^ aT a) S' μ' ∧ smS S S' ∧ smN μ μ' ∧ sm 9 99 S S' := by
  have wT := wt.1
  have p8 := pow8 wT
  have e34 : sb 0 = 34 := rfl
  intro d
  induction d with
  | zero =>
    intro x hx n m hn hm S μ c ct mg mt hI
    obtain ⟨n, rfl⟩ : ∃ k, n = k + 1 := ⟨n - 1, by omega⟩
    obtain ⟨m, rfl⟩ : ∃ k, m = k + 1 := ⟨m - 1, by omega⟩
    simp only [T_X3_draw_2, T_X9_turns_11]
    rw [f6_allT ct, bd_some, all_z (by omega), if_ltZ (by omega) (by omega) (by omega) (by omega), if_ltZ (by omega) (by omega) (by omega) (by omega), if_pos (by omega), if_pos (by omega)]
    exact ⟨S, μ, rfl, rfl, by rw [show 2 ^ aT a = x by omega]; exact hI, smS_rfl _, smN_rfl _, sm_rfl _ _ _⟩
  | succ d ih =>
    intro x hx n m hn hm S μ c ct mg mt hI
    obtain ⟨n, rfl⟩ : ∃ k, n = k + 1 := ⟨n - 1, by omega⟩
    obtain ⟨m, rfl⟩ : ∃ k, m = k + 1 := ⟨m - 1, by omega⟩
    simp only [T_X3_draw_2, T_X9_turns_11]
    have hall : ((1 : Int32) <<< (zI (aT a) &&& 31)) - 1 = zI ((2 ^ aT a - 1 : Nat) : Int) := all_z (by omega)
    rw [f6_allT ct, bd_some, hall, if_ltZ (by omega) (by omega) (by omega) (by omega), if_ltZ (by omega) (by omega) (by omega) (by omega), if_neg (by omega), if_neg (by omega), f6_tgt c ct w wt, f9_tgt mg mt w wt, bd_some, bd_some, nar_bI, chk_N (by omega) (by omega), chk_N (by omega) (by omega), z_tnN (by omega)]
    simp only [nm, chk_N (n := x) (m := 256) (by omega) (by omega)]
    -- the two states after the first write
    let S1 := wI S 7 x (bI (tgt a (zI x)))
    let μ1 := wI (wI μ 19 x (bI (tgt a (zI x)))) 20 x (if x = 0 then 0 else 100)
    have step : ∃ v μ2, (if zI x = 0 then some (0 : Int32) else bd (F_X3_fewestOf S1 (zI x)) (fun x12 => some x12)) = some v ∧ T_X9_turns_45 (zI ((2 ^ aT a - 1 : Nat) : Int)) (zI x) FU (zI x) μ1 = some μ2 ∧ μ2.1 20 x = v ∧ bd1 v ∧ ∀ c k, c ≠ 20 ∨ k ≠ x → μ2.1 c k = μ1.1 c k := by
      rw [if_eq0 (by omega) (by omega)]
      by_cases q : x = 0
      · refine ⟨0, μ1, if_pos (by omega), ?_, ?_, ⟨0, by decide, by decide, rfl⟩, fun _ _ _ => rfl⟩
        · subst q
          show T_X9_turns_45 _ 0 FU 0 μ1 = _
          refine loop0 (fun n y => T_X9_turns_45 _ 0 n 0 μ1) 0 (some μ1) (by decide) (fun n y hy => .inl ?_)
          simp only [T_X9_turns_45]
          rw [if_pos trivial]
        · show (wI _ 20 x _).1 20 x = 0
          rw [wI_eq, if_pos q]
      · obtain ⟨r, μ2, k1, k2, k3, k5, k4⟩ := in89 (S := S1) (s := x) (by omega) (p1 := zI ((2 ^ aT a - 1 : Nat) : Int)) x (Nat.le_refl _) FU FU (by unfold FU; omega) (by unfold FU; omega) 100 μ1 (by show (wI _ 20 x _).1 20 x = 100; rw [wI_eq, if_neg q]) (fun j hj => by
          show (wI _ 7 x _).1 7 j = (wI (wI _ 19 x _) 20 x _).1 19 j
          rw [wI_1, if_pos rfl, wI_ne (.inl (by decide)), wI_1, if_pos rfl]
          by_cases q2 : j = x
          · rw [if_pos q2, if_pos q2]
          · have := hI j (by omega)
            rw [if_neg q2, if_neg q2, this.1, this.2.1]) (fun j hj => by
          show (wI _ 7 x _).1 8 j = (wI (wI _ 19 x _) 20 x _).1 20 j
          rw [wI_ne (.inl (by decide)), wI_ne (.inr (by omega)), wI_ne (.inl (by decide)), (hI j hj).2.2.1]) (fun j hj => by
          show bd1 ((wI _ 7 x _).1 8 j)
          rw [wI_ne (.inl (by decide))]
          exact (hI j hj).2.2.2) ⟨100, by decide, by decide, rfl⟩
        refine ⟨r, μ2, ?_, k2, k3, k5, k4⟩
        rw [if_neg (by omega), F_X3_fewestOf, nm, k1, bd_some, bd_some]
    obtain ⟨v, μ2, k1, k2, k3, k5, k4⟩ := step
    have e0 : (if zI x = 0 then some (0 : Int32) else some 100) = some (if x = 0 then 0 else 100) := by
      rw [if_eq0 (by omega) (by omega)]
      by_cases q : x = 0
      · rw [if_pos (by omega), if_pos q]
      · rw [if_neg (by omega), if_neg q]
    have hS2 : smS S (wI S1 8 x v) := smS_tr (smS_wI (by decide)) (smS_wI (by decide))
    have hN2 : smN μ μ2 := ⟨fun j q1 q2 q3 => by
      rw [k4 0 j (.inl (by decide))]
      show (wI (wI _ 19 x _) 20 x _).1 0 j = _
      rw [wI_ne (.inl (by decide)), wI_ne (.inl (by decide))], fun c q1 q2 k => by
      rw [k4 c k (by omega)]
      show (wI (wI _ 19 x _) 20 x _).1 c k = _
      rw [wI_ne (by omega), wI_ne (by omega)], fun c q1 q2 k => by
      rw [k4 c k (by omega)]
      show (wI (wI _ 19 x _) 20 x _).1 c k = _
      rw [wI_ne (by omega), wI_ne (by omega)]⟩
    have hI2 : drI a (x + 1) (wI S1 8 x v) μ2 := by
      intro j hj
      rw [k4 19 j (.inl (by decide))]
      show (wI (wI S 7 x _) 8 x v).1 7 j = _ ∧ (wI (wI _ 19 x _) 20 x _).1 19 j = _ ∧ (wI (wI S 7 x _) 8 x v).1 8 j = _ ∧ bd1 ((wI (wI S 7 x _) 8 x v).1 8 j)
      by_cases q : j = x
      · subst q
        rw [wI_ne (.inl (by decide)), wI_eq, wI_ne (.inl (by decide)), wI_eq, wI_eq, k3]
        exact ⟨rfl, rfl, rfl, k5⟩
      · have h1 := hI j (by omega)
        rw [k4 20 j (.inr q)]
        show (wI (wI S 7 x _) 8 x v).1 7 j = _ ∧ (wI (wI _ 19 x _) 20 x _).1 19 j = _ ∧ (wI (wI S 7 x _) 8 x v).1 8 j = (wI (wI _ 19 x _) 20 x _).1 20 j ∧ bd1 ((wI (wI S 7 x _) 8 x v).1 8 j)
        rw [wI_ne (.inl (by decide)), wI_ne (.inr q), wI_ne (.inl (by decide)), wI_ne (.inr q), wI_ne (.inr q), wI_ne (.inl (by decide)), wI_ne (.inr q), wI_ne (.inl (by decide))]
        exact h1
    obtain ⟨S', μ', j1, j2, j3, j4, j5, j6⟩ := ih (x + 1) (by omega) n m (by omega) (by omega) (wI S1 8 x v) μ2 (CG_sm (sm_tr (sm_wI (by omega)) (sm_wI (by omega))) c) (CT_sm (sm_tr (sm_wI (by omega)) (sm_wI (by omega))) ct) (MG_k (fun c n q => by
        rcases q with ⟨rfl, q⟩ | q
        · exact hN2.1 n (by omega) (by omega) (by omega)
        · exact hN2.2.1 c (by omega) (by omega) n) mg) (MT_k (fun c n q => by
        rcases q with ⟨rfl, q⟩ | q
        · exact hN2.1 n (by omega) (by omega) (by omega)
        · exact hN2.2.1 c (by omega) (by omega) n) mt) hI2
    rw [hall] at j2
    refine ⟨S', μ', ?_, ?_, j3, smS_tr hS2 j4, smN_tr hN2 j5, sm_tr (sm_tr (sm_wI (by decide)) (sm_wI (by decide))) j6⟩
    · show bd (if zI x = 0 then some (0 : Int32) else bd (F_X3_fewestOf S1 (zI x)) (fun x12 => some x12)) _ = _
      rw [k1, bd_some, zS]
      exact j1
    · rw [e0, bd_some]
      show bd (T_X9_turns_45 _ (zI x) FU (zI x) μ1) _ = _
      rw [k2, bd_some, zS]
      exact j2
