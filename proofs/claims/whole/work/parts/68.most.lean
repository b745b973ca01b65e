/-! ===== turns and most: the answers ===== -/
theorem draw_R {σ μ : Sg} (h : R σ μ) : ∃ a σ' μ', WG a ∧ WT a ∧ CG 0 σ' a ∧ CT 0 σ' a ∧ MG μ' a ∧ MT μ' a ∧ MG μ a ∧ MT μ a ∧ F_X3_draw 0 σ = some σ' ∧ T_X9_turns_11 (((1 : Int32) <<< (zI (aT a) &&& 31)) - 1) FU 0 μ = some μ' ∧ drI a (2 ^ aT a) σ' μ' ∧ R σ' μ' ∧ R σ' μ := by
  obtain ⟨a, ⟨wg, wt, wh⟩, ⟨cg, ct, ch⟩, ⟨mg, mt, mh⟩⟩ := h.1
  have wT := wt.1
  have p8 := pow8 wT
  have e34 : sb 0 = 34 := rfl
  obtain ⟨σ', μ', k1, k2, k3, k4, k5, k6⟩ := draw89 wg wt (2 ^ aT a) 0 (by omega) FU FU (by unfold FU; omega) (by unfold FU; omega) σ μ cg ct mg mt (fun j hj => absurd hj (Nat.not_lt_zero _))
  have hD : RD σ' := by
    exact ((k6 49 (by decide) (by decide) 0).1).trans h.2.2.2.2.1
  exact ⟨a, σ', μ', wg, wt, CG_sm (sm_in k4.2.1 (by decide) (by decide)) cg, CT_sm (sm_in k4.2.1 (by decide) (by decide)) ct, MG_k (fun c n q => by
        rcases q with ⟨rfl, q⟩ | q
        · exact k5.1 n (by omega) (by omega) (by omega)
        · exact k5.2.1 c (by omega) (by omega) n) mg, MT_k (fun c n q => by
        rcases q with ⟨rfl, q⟩ | q
        · exact k5.1 n (by omega) (by omega) (by omega)
        · exact k5.2.1 c (by omega) (by omega) n) mt, mg, mt, bd_t k1, k2, k3, R_scr h k4 k5 hD, R_scr h k4 (smN_rfl _) hD⟩
def lrg (a : AS) : Nat → Nat
  | 0 => 0
  | n + 1 => if pc (zI (lrg a n)) < pc (zI n) ∧ tgt a (zI n) = true then n else lrg a n
theorem lrg_b {a : AS} : ∀ n, n ≤ 256 → lrg a n < 256
  | 0, _ => by rw [lrg]; omega
  | n + 1, h => by
    rw [lrg]
    split
    · omega
    · exact lrg_b n (by omega)
theorem sub8 {n : Nat} (h : n < 256) : sub 8 (zI (n : Int)) := z_sub_ (by decide) (by omega)
theorem f8_lrg {S : Sg} {a : AS} (ct : CT 0 S a) (wt : WT a) (h : ∀ j, j < 2 ^ aT a → S.1 7 j = bI (tgt a (zI j))) : F_X3_largest 0 S = some (zI (lrg a (2 ^ aT a))) := by
  have p8 := pow8 wt.1
  have wT := wt.1
  have q := loopE (fun n x => T_X3_largest_4 0 S n (zI (lrg a x)) (zI x)) (2 ^ aT a) (some (zI (lrg a (2 ^ aT a)))) (by omega) (fun n => by
    simp only [T_X3_largest_4]
    rw [f6_allT ct, bd_some, all_z (by omega), if_ltZ (by omega) (by omega) (by omega) (by omega), if_pos (by omega)]) (fun n x hx => by
    have hl := lrg_b (a := a) x (by omega)
    simp only [T_X3_largest_4]
    rw [f6_allT ct, bd_some, all_z (by omega), if_ltZ (by omega) (by omega) (by omega) (by omega), if_neg (by omega), chk_N (by omega) (by omega), z_tnN (by omega), h x hx, bI_z, f_bc (sub8 (n := x) (by omega)), bd_some, f_bc (sub8 hl), bd_some, pcz (pc_le _) (pc_le _), zS, lrg]
    cases tgt a (zI x)
    · rw [if_neg (by decide), if_neg (by simp), bd_some]
    · by_cases q : pc (zI (lrg a x)) < pc (zI x)
      · rw [if_pos rfl, if_pos q, if_pos ⟨q, rfl⟩, bd_some]
      · rw [if_pos rfl, if_neg q, if_neg (fun w => q w.1), bd_some])
  exact bd_t q
theorem f9_lrg {S : Sg} {a : AS} (mg : MG S a) (mt : MT S a) (w : WG a) (wt : WT a) : T_X9_most_4 S FU 0 0 = some (zI (lrg a (2 ^ aT a))) := by
  have p8 := pow8 wt.1
  have wT := wt.1
  refine loopE (fun n x => T_X9_most_4 S n (zI (lrg a x)) (zI x)) (2 ^ aT a) (some (zI (lrg a (2 ^ aT a)))) (by omega) (fun n => ?_) (fun n x hx => ?_)
  · simp only [T_X9_most_4]
    rw [mt.1, pow_z (by omega), if_le_t (by omega) (by omega)]
  · have hl := lrg_b (a := a) x (by omega)
    simp only [T_X9_most_4]
    rw [mt.1, pow_z (by omega), if_le_f hx (by omega), f_ones (sub8 (n := x) (by omega)), bd_some, f_ones (sub8 hl), bd_some, pcz (pc_le _) (pc_le _), f9_tgt mg mt w wt, bd_some, bI_z, zS, lrg]
    cases tgt a (zI x)
    · rw [if_neg (c := false = true) (by decide), if_neg (c := _ ∧ _) (by simp), ite_self, bd_some]
    · by_cases q : pc (zI (lrg a x)) < pc (zI x)
      · rw [if_pos q, if_pos rfl, if_pos ⟨q, rfl⟩, bd_some]
      · rw [if_neg q, if_neg (fun w => q w.1), bd_some]
theorem s_most : st_most R := by
  intro σ μ h
  obtain ⟨a, σ', μ', wg, wt, cg, ct, mg', mt', mg, mt, k1, k2, hI, hR', hR⟩ := draw_R h
  have p8 := pow8 wt.1
  have hl := lrg_b (a := a) (2 ^ aT a) (by omega)
  unfold F_X8_most F_X9_most
  rw [k1, bd_some, f8_lrg ct wt (fun j hj => (hI j hj).1), bd_some, f8_tellSet (sub8 hl), bd_some, f9_lrg mg mt wg wt, bd_some, f_ones (sub8 hl), bd_some, f9_say, bd_some]
  exact ⟨_, _, _, rfl, rfl, R_told hR _⟩
/-! the first hour -/
def okf (F : Nat → Int32) (G : Nat → Int32) (A : Int32) (v : Int32) (p : Nat) : Bool := !decide (G p = 0) && decide (1 + F (A &&& (zI p ^^^ (-1 : Int32))).toNatClampNeg = v)
def odd (p : Nat) : Bool := decide (p % 2 = 1)
theorem tb_odd {p : Nat} (h : p < 256) : tb (zI p) 0 = odd p := by
  have : ∀ p, p < 256 → tb (zI ((p : Nat) : Int)) 0 = odd p := by decide +kernel
  exact this p h
theorem rest_b {A p : Nat} (h : A < 256) : ∃ r : Nat, r < 256 ∧ zI A &&& (zI p ^^^ (-1 : Int32)) = zI r := by
  obtain ⟨r, hr, er⟩ := sub_z (m := 8) (by decide) (sub_and (z_sub_ (n := A) (m := 8) (by decide) h) (t := zI p ^^^ (-1 : Int32)))
  exact ⟨r, hr, er⟩
theorem f_has0 {S : Sg} {s : Int32} : F_X9_has S s 0 = some (bI (tb s 0)) := f_has (n := 0) (by decide)
/-- the reference: from the largest down, the last one found stays -/
theorem f9_first {S : Sg} {T : Nat} (hT : T ≤ 8) {v : Int32} (hv : S.1 20 (2 ^ T - 1) = v) : ∀ x, x < 2 ^ T → ∀ n, x < n → ∀ acc,
    ((∀ j, j ≤ x → (odd j && okf (S.1 20) (S.1 19) (zI ((2 ^ T - 1 : Nat) : Int)) v j) = false) → T_X9_turns_142 S (zI ((2 ^ T - 1 : Nat) : Int)) n acc (zI x) = some acc) ∧
    (∀ p, p ≤ x → (odd p && okf (S.1 20) (S.1 19) (zI ((2 ^ T - 1 : Nat) : Int)) v p) = true → (∀ j, j < p → (odd j && okf (S.1 20) (S.1 19) (zI ((2 ^ T - 1 : Nat) : Int)) v j) = false) → T_X9_turns_142 S (zI ((2 ^ T - 1 : Nat) : Int)) n acc (zI x) = some (zI p)) := by
  have p8 := pow8 hT
  intro x
  induction x with
  | zero =>
    intro hx n hn acc
    obtain ⟨n, rfl⟩ : ∃ k, n = k + 1 := ⟨n - 1, by omega⟩
    have e : T_X9_turns_142 S (zI ((2 ^ T - 1 : Nat) : Int)) (n + 1) acc (zI ((0 : Nat) : Int)) = some acc := by
      simp only [T_X9_turns_142]
      rw [if_pos (show zI ((0 : Nat) : Int) = 0 from rfl)]
    refine ⟨fun _ => e, fun p hp h1 _ => ?_⟩
    rw [show p = 0 by omega] at h1
    exact absurd h1 (by rw [show odd 0 = false from by decide, Bool.false_and]; decide)
  | succ x ih =>
    intro hx n hn acc
    obtain ⟨n, rfl⟩ : ∃ k, n = k + 1 := ⟨n - 1, by omega⟩
    obtain ⟨r, hr, er⟩ := rest_b (A := 2 ^ T - 1) (p := x + 1) (by omega)
    have hand : (zI ((x + 1 : Nat) : Int) - 1) &&& zI ((2 ^ T - 1 : Nat) : Int) = zI (x : Int) := by
      rw [z_pred (by omega), z_and (by omega) (by omega), Nat.and_two_pow_sub_one_eq_mod, Nat.mod_eq_of_lt (by omega)]; rfl
    have e : T_X9_turns_142 S (zI ((2 ^ T - 1 : Nat) : Int)) (n + 1) acc (zI ((x + 1 : Nat) : Int)) = T_X9_turns_142 S (zI ((2 ^ T - 1 : Nat) : Int)) n (if (odd (x + 1) && okf (S.1 20) (S.1 19) (zI ((2 ^ T - 1 : Nat) : Int)) v (x + 1)) = true then zI ((x + 1 : Nat) : Int) else acc) (zI x) := by
      simp only [T_X9_turns_142]
      rw [if_eq0 (by omega) (by omega), if_neg (by omega), f_has0, bd_some, hand, tb_odd (by omega), bI_z, chk_N (by omega) (by omega), z_tnN (by omega), er, chk_N (by omega) (by omega), chk_N (by omega) (by omega), z_tnN (by omega), z_tnN (by omega), hv]
      unfold okf
      rw [er, z_tnN (by omega)]
      cases odd (x + 1)
      · simp only [Bool.false_and, Bool.false_eq_true, if_false, bd_some, nm]
      · by_cases q1 : S.1 19 (x + 1) = 0
        · simp only [q1, if_true, decide_true, Bool.not_true, Bool.false_and, Bool.and_false, Bool.false_eq_true, if_false, bd_some, nm]
        · by_cases q2 : 1 + S.1 20 r = v
          · simp only [q1, q2, if_true, if_false, decide_true, decide_false, Bool.not_false, Bool.true_and, bd_some, nm]
          · simp only [q1, q2, if_true, if_false, decide_false, Bool.not_false, Bool.and_false, Bool.false_eq_true, bd_some, nm]
    obtain ⟨i1, i2⟩ := ih (by omega) n (by omega) (if (odd (x + 1) && okf (S.1 20) (S.1 19) (zI ((2 ^ T - 1 : Nat) : Int)) v (x + 1)) = true then zI ((x + 1 : Nat) : Int) else acc)
    refine ⟨fun h => ?_, fun p hp h1 h2 => ?_⟩
    · rw [e, i1 (fun j hj => h j (by omega)), h (x + 1) (Nat.le_refl _)]; rfl
    · rw [e]
      by_cases q : p = x + 1
      · rw [i1 (fun j hj => h2 j (by omega)), ← q, h1]; rfl
      · exact i2 p (by omega) h1 h2
/-- the other side: from the smallest up, by two -/
def fiC (S : Sg) (T : Nat) (v : Int32) (n x : Nat) : Prop :=
    ((∀ j, j < 2 ^ T → (odd j && okf (S.1 8) (S.1 7) (zI ((2 ^ T - 1 : Nat) : Int)) v j) = false) ∧ T_X3_firstHour_7 0 S (zI ((2 ^ T - 1 : Nat) : Int)) n (zI x) = some (.inl ())) ∨
    (∃ p, p < 2 ^ T ∧ (odd p && okf (S.1 8) (S.1 7) (zI ((2 ^ T - 1 : Nat) : Int)) v p) = true ∧ (∀ j, j < p → (odd j && okf (S.1 8) (S.1 7) (zI ((2 ^ T - 1 : Nat) : Int)) v j) = false) ∧ T_X3_firstHour_7 0 S (zI ((2 ^ T - 1 : Nat) : Int)) n (zI x) = some (.inr (zI p)))
theorem f8_first {S : Sg} {T : Nat} (hT : T ≤ 8) {v : Int32} (hv : S.1 8 (2 ^ T - 1) = v) : ∀ d x, x + d = 2 ^ T → ∀ n, d < n → odd x = true → (∀ j, j < x → (odd j && okf (S.1 8) (S.1 7) (zI ((2 ^ T - 1 : Nat) : Int)) v j) = false) → fiC S T v n x := by
  have p8 := pow8 hT
  intro d
  induction d using Nat.strongRecOn with
  | ind d ih =>
    intro x hx n hn ho hI
    obtain ⟨n, rfl⟩ : ∃ k, n = k + 1 := ⟨n - 1, by omega⟩
    unfold fiC
    simp only [T_X3_firstHour_7]
    rw [if_ltZ (by omega) (by omega) (by omega) (by omega)]
    by_cases q0 : 2 ^ T ≤ x
    · rw [if_pos (by omega)]
      exact .inl ⟨fun j hj => hI j (by omega), rfl⟩
    · obtain ⟨r, hr, er⟩ := rest_b (A := 2 ^ T - 1) (p := x) (by omega)
      rw [if_neg (by omega), chk_N (by omega) (by omega), z_tnN (by omega), er, chk_N (by omega) (by omega), chk_N (by omega) (by omega), z_tnN (by omega), z_tnN (by omega), hv, show zI (x : Int) + 2 = zI ((x + 2 : Nat) : Int) by rw [zN2, z_add]; exact congrArg zI (by push_cast; rfl)]
      have ek : okf (S.1 8) (S.1 7) (zI ((2 ^ T - 1 : Nat) : Int)) v x = (!decide (S.1 7 x = 0) && decide (1 + S.1 8 r = v)) := by
        unfold okf
        rw [er, z_tnN (by omega)]
      have ho1 : odd (x + 1) = false := by
        unfold odd at ho ⊢
        rw [decide_eq_true_eq] at ho
        rw [decide_eq_false_iff_not]
        omega
      have ho2 : odd (x + 2) = true := by
        unfold odd at ho ⊢
        rw [decide_eq_true_eq] at ho ⊢
        omega
      have next : okf (S.1 8) (S.1 7) (zI ((2 ^ T - 1 : Nat) : Int)) v x = false → fiC S T v n (x + 2) := fun hx0 => by
        by_cases q5 : x + 2 ≤ 2 ^ T
        · exact ih (d - 2) (by omega) (x + 2) (by omega) n (by omega) ho2 (fun j hj => by
            by_cases e1 : j = x
            · rw [e1, hx0, Bool.and_false]
            · by_cases e2 : j = x + 1
              · rw [e2, ho1]; rfl
              · exact hI j (by omega))
        · refine .inl ⟨fun j hj => ?_, ?_⟩
          · by_cases e1 : j = x
            · rw [e1, hx0, Bool.and_false]
            · exact hI j (by omega)
          · obtain ⟨n, rfl⟩ : ∃ k, n = k + 1 := ⟨n - 1, by omega⟩
            simp only [T_X3_firstHour_7]
            rw [if_ltZ (by omega) (by omega) (by omega) (by omega), if_pos (by omega)]
      by_cases q1 : S.1 7 x = 0
      · rw [if_pos q1]
        exact next (by rw [ek, decide_eq_true q1]; rfl)
      · rw [if_neg q1]
        by_cases q2 : 1 + S.1 8 r = v
        · rw [if_pos q2]
          exact .inr ⟨x, by omega, by rw [ho, ek, decide_eq_false q1, decide_eq_true q2]; rfl, hI, rfl⟩
        · rw [if_neg q2]
          exact next (by rw [ek, decide_eq_false q2, Bool.and_false])
theorem okf_eq {S μ : Sg} {T : Nat} (hT : T ≤ 8) (h : ∀ j, j < 2 ^ T → S.1 7 j = μ.1 19 j ∧ S.1 8 j = μ.1 20 j) {v : Int32} {p : Nat} (hp : p < 2 ^ T) : okf (S.1 8) (S.1 7) (zI ((2 ^ T - 1 : Nat) : Int)) v p = okf (μ.1 20) (μ.1 19) (zI ((2 ^ T - 1 : Nat) : Int)) v p := by
  have p8 := pow8 hT
  obtain ⟨r, hr, er, _⟩ := rest_z (s := 2 ^ T - 1) (x := p) (by omega) (by omega)
  unfold okf
  rw [er, z_tnN (by omega), (h p hp).1, (h r (by omega)).2]
theorem s_turns : st_turns R := by
  intro σ μ h
  obtain ⟨a, σ', μ', wg, wt, cg, ct, mg', mt', mg, mt, k1, k2, hI, hR', hR⟩ := draw_R h
  have wT := wt.1
  have p8 := pow8 wT
  have hall : ((1 : Int32) <<< (zI (aT a) &&& 31)) - 1 = zI ((2 ^ aT a - 1 : Nat) : Int) := all_z (by omega)
  rw [hall] at k2
  unfold F_X8_turns F_X9_turns
  rw [k1, bd_some, F_X3_hours, f6_allT ct, bd_some, mt.1, hall, nm_t (zI ((2 ^ aT a - 1 : Nat) : Int)), k2, bd_some, chk_N (by omega) (by omega), chk_N (by omega) (by omega), z_tnN (by omega), nm]
  have hv := (hI (2 ^ aT a - 1) (by omega)).2.2.1
  have hvb := (hI (2 ^ aT a - 1) (by omega)).2.2.2
  generalize hvv : μ'.1 20 (2 ^ aT a - 1) = v at hv ⊢
  rw [hv] at hvb ⊢
  obtain ⟨z, z1, z2, z3⟩ := hvb
  by_cases q : v < 100
  · rw [if_neg (nle q), if_pos q, bd_some]
    have hp0 : ∀ j, j < 1 → (odd j && okf (σ'.1 8) (σ'.1 7) (zI ((2 ^ aT a - 1 : Nat) : Int)) v j) = false := fun j hj => by
      rw [show j = 0 by omega, show odd 0 = false from by decide, Bool.false_and]
    have key : ∃ p : Nat, F_X3_firstHour 0 σ' = some (zI p) ∧ T_X9_turns_142 μ' (zI ((2 ^ aT a - 1 : Nat) : Int)) FU 0 (zI ((2 ^ aT a - 1 : Nat) : Int)) = some (zI p) := by
      rw [F_X3_firstHour, f6_allT ct, bd_some, hall]
      have eo : ∀ j, j < 2 ^ aT a → okf (σ'.1 8) (σ'.1 7) (zI ((2 ^ aT a - 1 : Nat) : Int)) v j = okf (μ'.1 20) (μ'.1 19) (zI ((2 ^ aT a - 1 : Nat) : Int)) v j := fun j hj => okf_eq wT (fun i hi => ⟨(hI i hi).1.trans (hI i hi).2.1.symm, (hI i hi).2.2.1⟩) hj
      rcases f8_first wT hv (2 ^ aT a - 1) 1 (by omega) FU (by unfold FU; omega) (by decide) hp0 with ⟨h1, h2⟩ | ⟨p, h1, h2, h3, h4⟩
      · refine ⟨0, ?_, ?_⟩
        · rw [show (1 : Int32) = zI ((1 : Nat) : Int) from rfl, h2]; rfl
        · exact (f9_first wT hvv (2 ^ aT a - 1) (by omega) FU (by unfold FU; omega) 0).1 (fun j hj => by rw [← eo j (by omega)]; exact h1 j (by omega))
      · refine ⟨p, ?_, ?_⟩
        · rw [show (1 : Int32) = zI ((1 : Nat) : Int) from rfl, h4]; rfl
        · exact (f9_first wT hvv (2 ^ aT a - 1) (by omega) FU (by unfold FU; omega) 0).2 p (by omega) (by rw [← eo p h1]; exact h2) (fun j hj => by rw [← eo j (by omega)]; exact h3 j hj)
    obtain ⟨p, e1, e2⟩ := key
    rw [e1, e2, bd_some, bd_some, chk_N (by omega) (by omega), f9_say, bd_some]
    have q9 : v ≠ -9 := fun q9 => by
      rw [z3] at q9
      have := (z_eq (a := z) (b := -9) (by omega) (by omega) (by decide) (by decide)).mp (q9.trans (show (-9 : Int32) = zI (-9) from rfl))
      omega
    rw [if_neg q9]
    exact ⟨_, _, _, rfl, rfl, R_told hR' _⟩
  · rw [if_pos (Int32.not_lt.mp q), if_neg q, bd_some]
    exact ⟨-9, σ', μ', rfl, rfl, hR'⟩
