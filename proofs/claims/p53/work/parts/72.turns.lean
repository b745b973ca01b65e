/-! ===== talks by turns ===== -/
def fq (M s : Nat) (v : Int32) : Prop := ∃ z : Nat, z ≤ 100 ∧ v = zI z ∧ (z < 100 → pc (zI s) ≤ z * M) ∧ (0 < s → 0 < z)
theorem cnt_or {p q r : Nat → Bool} : ∀ n, (∀ j, j < n → p j = true → q j = true ∨ r j = true) → cnt n p ≤ cnt n q + cnt n r
  | 0, _ => Nat.le_refl _
  | n + 1, h => by
    have ih := cnt_or n (fun j hj => h j (by omega))
    rw [cnt, cnt, cnt]
    by_cases hp : p n = true
    · rw [if_pos hp]
      rcases h n (by omega) hp with h1 | h1
      · rw [if_pos h1]; split <;> omega
      · rw [if_pos h1]; split <;> omega
    · rw [if_neg hp]; split <;> split <;> omega
theorem pc_rest {s x : Int32} : pc s ≤ pc (s &&& (x ^^^ (-1 : Int32))) + pc x := cnt_or 8 (fun j hj h => by
  rw [tb_and, tb_not (by omega), h]
  cases tb x j
  · exact .inl rfl
  · exact .inr rfl)
theorem in8 {S : Sg} {s M : Nat} {g : Nat → Bool} (hs : s < 256) (hs0 : 0 < s) (hg : ∀ j : Nat, j ≤ s → g j = true → pc (zI j) ≤ M) (h7 : ∀ j, j ≤ s → S.1 7 j = bI (g j)) (h8 : ∀ j, j < s → fq M j (S.1 8 j)) : ∀ x, x ≤ s → ∀ n, x < n → ∀ acc : Int32, fq M s acc → ∃ r, T_X3_fewestOf_11 S (zI s) (zI s &&& (-(zI s))) n acc (zI x) = some r ∧ fq M s r := by
  intro x
  induction x using Nat.strongRecOn with
  | ind x ih =>
    intro hx n hn acc hac
    obtain ⟨n, rfl⟩ : ∃ k, n = k + 1 := ⟨n - 1, by omega⟩
    simp only [T_X3_fewestOf_11, nm]
    rw [if_le0 (by omega) (by omega)]
    by_cases q0 : x = 0
    · rw [if_pos (c := (x : Int) ≤ 0) (by omega)]
      exact ⟨acc, rfl, hac⟩
    rw [if_neg (c := (x : Int) ≤ 0) (by omega), z_pred (by omega), z_and (by omega) (by omega)]
    have hy : (x - 1) &&& s < x := by have := Nat.and_le_left (n := x - 1) (m := s); omega
    have goon : ∀ acc' : Int32, fq M s acc' → ∃ r, T_X3_fewestOf_11 S (zI s) (zI s &&& (-(zI s))) n acc' (zI (((x - 1) &&& s : Nat) : Int)) = some r ∧ fq M s r := fun acc' h => ih _ hy (by omega) n (by omega) acc' h
    by_cases q1 : zI x &&& (zI s &&& (-(zI s))) = 0
    · rw [if_pos q1, bd_some]
      exact goon acc hac
    · rw [if_neg q1, chk_N (by omega) (by omega), z_tnN (by omega), h7 x hx, bI_z]
      cases q2 : g x
      · rw [if_neg (by decide), bd_some]
        exact goon acc hac
      · obtain ⟨r, r1, r2, r3⟩ := rest_z (x := x) hs (by omega)
        have r4 : r < s := by
          rcases Nat.lt_or_ge r s with h | h
          · exact h
          · exact absurd (by rw [← Int32.and_assoc, r3 (by omega)]; exact Int32.zero_and) q1
        have hpc := pc_rest (s := zI s) (x := zI x)
        rw [r2] at hpc
        rw [if_pos rfl, r2, chk_N (by omega) (by omega), z_tnN (by omega), bd_some]
        obtain ⟨z, z1, z2, z3, z4⟩ := h8 r r4
        obtain ⟨y, y1, y2, y3, y4⟩ := id hac
        refine goon _ ?_
        rw [z2, y2, z_1, z_add, if_ltZ (by omega) (by omega) (by omega) (by omega)]
        by_cases q3 : (1 : Int) + z < y
        · rw [if_pos q3]
          refine ⟨1 + z, by omega, congrArg zI (by omega), fun _ => ?_, fun _ => by omega⟩
          have h1 := z3 (by omega)
          have h2 := hg x hx q2
          rw [Nat.add_mul, Nat.one_mul]
          omega
        · rw [if_neg q3]
          exact ⟨y, y1, rfl, y3, y4⟩
def dr8 (a : AS) (M x : Nat) (S : Sg) : Prop := ∀ j, j < x → S.1 7 j = bI (tgt a (zI j)) ∧ fq M j (S.1 8 j)
theorem draw8 {a : AS} (w : WG a) (wt : WT a) {M : Nat} (hM : ∀ j : Nat, j < 2 ^ aT a → tgt a (zI j) = true → pc (zI j) ≤ M) : ∀ d x, x + d = 2 ^ aT a → ∀ n, d < n → ∀ S : Sg, CG 0 S a → CT 0 S a → dr8 a M x S →
    ∃ S', T_X3_draw_2 0 n (zI x) S = some S' ∧ dr8 a M (2 ^ aT a) S' ∧ sm 0 7 S S' ∧ sm 9 105 S S' := by
  have wT := wt.1
  have p8 := pow8 wT
  have e34 : sb 0 = 34 := rfl
  intro d
  induction d with
  | zero =>
    intro x hx n hn S c ct hI
    obtain ⟨n, rfl⟩ : ∃ k, n = k + 1 := ⟨n - 1, by omega⟩
    simp only [T_X3_draw_2]
    rw [f6_allT ct, bd_some, all_z (by omega), if_ltZ (by omega) (by omega) (by omega) (by omega), if_pos (by omega)]
    exact ⟨S, rfl, by rw [show 2 ^ aT a = x by omega]; exact hI, sm_rfl _ _ _, sm_rfl _ _ _⟩
  | succ d ih =>
    intro x hx n hn S c ct hI
    obtain ⟨n, rfl⟩ : ∃ k, n = k + 1 := ⟨n - 1, by omega⟩
    simp only [T_X3_draw_2]
    have hall : ((1 : Int32) <<< (zI (aT a) &&& 31)) - 1 = zI ((2 ^ aT a - 1 : Nat) : Int) := all_z (by omega)
    rw [f6_allT ct, bd_some, hall, if_ltZ (by omega) (by omega) (by omega) (by omega), if_neg (by omega), f6_tgt c ct w wt, bd_some, nar_bI, chk_N (by omega) (by omega), z_tnN (by omega)]
    simp only [nm, chk_N (n := x) (m := 256) (by omega) (by omega)]
    let S1 := wI S 7 x (bI (tgt a (zI x)))
    have step : ∃ v, (if zI x = 0 then some (0 : Int32) else bd (F_X3_fewestOf S1 (zI x)) (fun x12 => some x12)) = some v ∧ fq M x v := by
      rw [if_eq0 (by omega) (by omega)]
      by_cases q : x = 0
      · rw [if_pos (by omega)]
        refine ⟨0, rfl, 0, by decide, rfl, fun _ => ?_, fun h => by omega⟩
        rw [q]
        show pc (zI 0) ≤ _
        rw [show pc (zI 0) = 0 by decide]
        exact Nat.zero_le _
      · obtain ⟨r, k1, k2⟩ := in8 (S := S1) (s := x) (M := M) (g := fun j => tgt a (zI j)) (by omega) (by omega) (fun j hj h => hM j (by omega) h) (fun j hj => by
          show (wI _ 7 x _).1 7 j = _
          rw [wI_1, if_pos rfl]
          by_cases q2 : j = x
          · rw [if_pos q2, q2]
          · rw [if_neg q2]
            exact (hI j (by omega)).1) (fun j hj => by
          show fq M j ((wI _ 7 x _).1 8 j)
          rw [wI_ne (.inl (by decide))]
          exact (hI j hj).2) x (Nat.le_refl _) FU (by unfold FU; omega) 100 ⟨100, by decide, rfl, fun h => absurd h (by decide), fun _ => by decide⟩
        refine ⟨r, ?_, k2⟩
        rw [if_neg (by omega), F_X3_fewestOf, nm, k1, bd_some, bd_some]
    obtain ⟨v, k1, k2⟩ := step
    have hI2 : dr8 a M (x + 1) (wI S1 8 x v) := by
      intro j hj
      show (wI (wI S 7 x _) 8 x v).1 7 j = _ ∧ fq M j ((wI (wI S 7 x _) 8 x v).1 8 j)
      by_cases q : j = x
      · subst q
        rw [wI_ne (.inl (by decide)), wI_eq, wI_eq]
        exact ⟨rfl, k2⟩
      · rw [wI_ne (.inl (by decide)), wI_ne (.inr q), wI_ne (.inr q), wI_ne (.inl (by decide))]
        exact hI j (by omega)
    obtain ⟨S', j1, j2, j3, j4⟩ := ih (x + 1) (by omega) n (by omega) (wI S1 8 x v) (CG_sm (sm_tr (sm_wI (by omega)) (sm_wI (by omega))) c) (CT_sm (sm_tr (sm_wI (by omega)) (sm_wI (by omega))) ct) hI2
    refine ⟨S', ?_, j2, sm_tr (sm_tr (sm_wI (by omega)) (sm_wI (by omega))) j3, sm_tr (sm_tr (sm_wI (by omega)) (sm_wI (by omega))) j4⟩
    rw [show (if zI x = 0 then some (0 : Int32) else bd (F_X3_fewestOf (wI S 7 x (bI (tgt a (zI x)))) (zI x)) (fun x12 => some x12)) = some v from k1, bd_some, zSu]
    exact j1
theorem lrg_lt {a : AS} : ∀ n, 0 < n → lrg a n < n
  | 0, h => absurd h (Nat.lt_irrefl _)
  | n + 1, _ => by
    rw [lrg]
    split
    · omega
    · by_cases q : n = 0
      · rw [q, lrg]; omega
      · have := lrg_lt (a := a) n (by omega); omega
theorem tgt_0 {a : AS} : tgt a 0 = true := by
  have h1 : ∀ n, cok a 0 n = true := by
    intro n
    induction n with
    | zero => rfl
    | succ n ih => rw [cok, ih, tb_0]; rfl
  have h2 : ∀ n, rok a 0 n = true := by
    intro n
    induction n with
    | zero => rfl
    | succ n ih => rw [rok, ih, tb_0]; rfl
  unfold tgt
  rw [h1, h2]; rfl
theorem lrg_ok {a : AS} : ∀ n, tgt a (zI (lrg a n)) = true
  | 0 => tgt_0
  | n + 1 => by
    rw [lrg]
    split
    · rename_i h; exact h.2
    · exact lrg_ok n
theorem lrg_max {a : AS} : ∀ n j : Nat, j < n → tgt a (zI j) = true → pc (zI j) ≤ pc (zI (lrg a n))
  | 0, j, h, _ => absurd h (Nat.not_lt_zero _)
  | n + 1, j, h, ht => by
    rw [lrg]
    by_cases q : pc (zI (lrg a n)) < pc (zI n) ∧ tgt a (zI n) = true
    · rw [if_pos q]
      by_cases e : j = n
      · rw [e]; exact Nat.le_refl _
      · have := lrg_max n j (by omega) ht; omega
    · rw [if_neg q]
      by_cases e : j = n
      · subst e
        rcases Nat.lt_or_ge (pc (zI (lrg a j))) (pc (zI j)) with h1 | h1
        · exact absurd ⟨h1, ht⟩ q
        · exact h1
      · exact lrg_max n j (by omega) ht
/-- both draws end alike -/
theorem m_draw {a : AS} {S : Sg} (n : Nw a S) (w : wf a) : ∃ S', F_X3_draw 0 S = some S' ∧ dr8 a (pc (zI (lrg a (2 ^ aT a)))) (2 ^ aT a) S' ∧ al S S' := by
  have wT := w.2.1.1
  have p8 := pow8 wT
  obtain ⟨S', k1, k2, k3, k4⟩ := draw8 w.1 w.2.1 (fun j hj h => lrg_max (2 ^ aT a) j hj h) (2 ^ aT a) 0 (by omega) FU (by unfold FU; omega) S n.1 n.2.1 (fun j hj => absurd hj (Nat.not_lt_zero _))
  exact ⟨S', bd_t k1, k2, sm_in k4 (by decide) (by decide), sm_in k4 (by decide) (by decide), sm_in k4 (by decide) (by decide), fun m => (k3 4 (by decide) (by decide) m).1⟩
theorem m_most {a : AS} {S : Sg} (n : Nw a S) (w : wf a) : ∃ S', F_X8_most S = some (zI (pc (zI (lrg a (2 ^ aT a)))), wI S' 0 10 (zI (lrg a (2 ^ aT a)))) ∧ al S S' := by
  have wT := w.2.1.1
  have p8 := pow8 wT
  obtain ⟨S', k1, k2, k3⟩ := m_draw n w
  have hl := lrg_b (a := a) (2 ^ aT a) (by omega)
  refine ⟨S', ?_, k3⟩
  unfold F_X8_most
  rw [k1, bd_some, f8_lrg (Nw_s n k3.1).2.1 w.2.1 (fun j hj => (k2 j hj).1), bd_some, f8_tellSet (sub8 hl), bd_some]
theorem first8 {a : AS} {S : Sg} {T : Nat} (hT : T ≤ 8) : ∀ d x : Nat, 2 ^ T ≤ x + d → x ≤ 300 → ∀ n, d < n → (T_X3_firstHour_7 0 S (zI ((2 ^ T - 1 : Nat) : Int)) n (zI x) = some (.inl ()) ∨ ∃ r, T_X3_firstHour_7 0 S (zI ((2 ^ T - 1 : Nat) : Int)) n (zI x) = some (.inr r)) := by
  have p8 := pow8 hT
  intro d
  induction d with
  | zero =>
    intro x hx hx2 n hn
    obtain ⟨n, rfl⟩ : ∃ k, n = k + 1 := ⟨n - 1, by omega⟩
    left
    simp only [T_X3_firstHour_7]
    rw [if_ltZ (by omega) (by omega) (by omega) (by omega), if_pos (by omega)]
  | succ d ih =>
    intro x hx hx2 n hn
    obtain ⟨n, rfl⟩ : ∃ k, n = k + 1 := ⟨n - 1, by omega⟩
    simp only [T_X3_firstHour_7]
    rw [if_ltZ (by omega) (by omega) (by omega) (by omega)]
    by_cases q : ((2 ^ T - 1 : Nat) : Int) < x
    · rw [if_pos q]; exact .inl rfl
    · have e2 : zI (x : Int) + (2 : Int32) = zI ((x + 2 : Nat) : Int) := by rw [zN2, z_add]; exact congrArg zI (by push_cast; rfl)
      obtain ⟨r, r1, r2, r3⟩ := rest_z (s := 2 ^ T - 1) (x := x) (by omega) (by omega)
      have ih' := ih (x + 2) (by omega) (by omega) n (by omega)
      rw [if_neg q, e2, r2, chk_N (by omega) (by omega), chk_N (by omega) (by omega), chk_N (by omega) (by omega)]
      split
      · exact ih'
      · split
        · exact .inr ⟨_, rfl⟩
        · exact ih'
theorem m_turns {a : AS} {S : Sg} (n : Nw a S) (w : wf a) : ∃ t S', F_X8_turns S = some (t, S') ∧ al S S' ∧ (t = -9 ∨ ∃ z : Nat, z < 100 ∧ t = zI z ∧ aT a ≤ z * pc (zI (lrg a (2 ^ aT a))) ∧ (0 < aT a → 0 < z)) := by
  have wT := w.2.1.1
  have p8 := pow8 wT
  obtain ⟨S2, k1, k2, k3⟩ := m_draw n w
  have ct := (Nw_s n k3.1).2.1
  have hall : ((1 : Int32) <<< (zI (aT a) &&& 31)) - 1 = zI ((2 ^ aT a - 1 : Nat) : Int) := all_z (by omega)
  obtain ⟨z, z1, z2, z3, z4⟩ := (k2 (2 ^ aT a - 1) (by omega)).2
  have hpc : pc (zI ((2 ^ aT a - 1 : Nat) : Int)) = aT a := by
    have : ∀ T, T < 9 → pc (zI ((2 ^ T - 1 : Nat) : Int)) = T := by decide +kernel
    exact this _ (by omega)
  have hpos : 0 < aT a → 0 < 2 ^ aT a - 1 := fun h => by
    have := Nat.pow_lt_pow_right (a := 2) (by decide) h
    omega
  unfold F_X8_turns
  rw [k1, bd_some, F_X3_hours, f6_allT ct, bd_some, hall, chk_N (by omega) (by omega), z_tnN (by omega), z2, nm, show (100 : Int32) = zI 100 from rfl, if_leZ (by decide) (by decide) (by omega) (by omega)]
  by_cases q : (100 : Int) ≤ z
  · rw [if_pos q, bd_some, if_pos rfl]
    exact ⟨_, _, rfl, k3, .inl rfl⟩
  · have hn9 : ¬ zI (z : Int) = -9 := ne9 (by omega)
    rw [if_neg q, bd_some, if_neg hn9]
    have hf := first8 (a := a) (S := S2) (T := aT a) wT (2 ^ aT a) 1 (by omega) (by decide) FU (by unfold FU; omega)
    have hfh : ∃ v, F_X3_firstHour 0 S2 = some v := by
      unfold F_X3_firstHour
      rw [f6_allT ct, bd_some, hall]
      rcases hf with h | ⟨r, h⟩
      · exact ⟨0, by rw [show T_X3_firstHour_7 0 S2 (zI ((2 ^ aT a - 1 : Nat) : Int)) FU (1 : Int32) = _ from h, bd_some]⟩
      · exact ⟨r, by rw [show T_X3_firstHour_7 0 S2 (zI ((2 ^ aT a - 1 : Nat) : Int)) FU (1 : Int32) = _ from h, bd_some]⟩
    obtain ⟨v, hv⟩ := hfh
    rw [hv, bd_some, nm]
    refine ⟨_, _, rfl, al_tr k3 (al_told _ _), .inr ⟨z, by omega, rfl, ?_, fun h => z4 (hpos h)⟩⟩
    have := z3 (by omega)
    rw [hpc] at this
    exact this
theorem m_beside {a : AS} {S : Sg} (n : Nw a S) (w : wf a) {s : Nat} (hs : s < 2 ^ aT a) : F_X8_beside S (zI s) = some (bI (tgt a (zI s))) := by
  have wT := w.2.1.1
  have p8 := pow8 wT
  unfold F_X8_beside
  rw [f6_allT n.2.1, all_z (by omega), bd_some, if_lt0 (by omega) (by omega), if_leZ (by omega) (by omega) (by omega) (by omega), if_neg (by omega), if_pos (by omega), f6_tgt n.1 n.2.1 w.1 w.2.1, bd_some]
  cases tgt a (zI s) <;> rfl
