/-! ===== faults and streets ===== -/
def Dn (d : Nat → Nat) : Nat → Nat
  | 0 => 0
  | n + 1 => Dn d n + d n
def rdA (σ μ : Sg) (A B : Option (Int32 × Sg)) : Prop :=
  (∃ q S' T', A = some (zI ((q : Nat) : Int), S') ∧ B = some (0, T') ∧ T'.1 0 21 = zI ((q : Nat) : Int) ∧ q ≤ 100 ∧ fS σ S' ∧ fM μ T') ∨
  (∃ S' T' w d κ r k, A = some (-9, S') ∧ B = some (1, T') ∧ fS σ S' ∧ fM μ T' ∧ ppl w κ r k S' T' ∧ wls d w S' T' ∧ 0 < w ∧ ∀ i, i ≤ w → S'.1 49 i = zI (Dn d i))
theorem ppX {u : Nat} {S : Sg} {p : Int32} : F_X6_readPeople 1 u S p = bd (F_X7_pastBlanks u S p) (fun x2 => bd (T_X6_readPeople_6 1 u FU x2 S) (pst u)) := rfl
theorem rd_all {σ μ : Sg} (hD : RD σ) {u L : Nat} {b : Nat → Int} (hb : byB b) (hL : L ≤ 80) (hu : u < 4) (tI : txI u L b σ) (tM : txM u L b μ) : rdA σ μ (F_X6_readFrom 1 u σ) (F_X9_readStreet μ (zI u)) := by
  have e47 : sb 1 = 47 := rfl
  let S5 := wI (wL (wI (wI (wI σ 47 8 0) 47 9 0) 47 10 0) 55 4 0) 55 5 0
  let T3 := wI (wI (wI μ 0 21 0) 0 25 0) 0 26 0
  have s5 : ∀ lo hi, 55 < lo ∨ hi ≤ 47 → sm lo hi σ S5 := fun lo hi q => sm_tr (sm_tr (sm_tr (sm_tr (sm_wI (by omega)) (sm_wI (by omega))) (sm_wI (by omega))) (sm_wL (by omega))) (sm_wI (by omega))
  have b5 : B1 S5 := by
    refine ⟨?_, wI_eq, ?_, ?_⟩
    · show (wI (wL (wI (wI (wI σ 47 8 0) 47 9 0) 47 10 0) 55 4 0) 55 5 0).1 47 10 = 0
      rw [wI_ne (.inl (by decide)), wL_1, wI_eq]
    · show (wI (wL (wI (wI (wI σ 47 8 0) 47 9 0) 47 10 0) 55 4 0) 55 5 0).2 55 4 = 0
      rw [wI_2, wL_2, if_pos rfl, if_pos rfl]
    · show (wI (wL (wI (wI (wI σ 47 8 0) 47 9 0) 47 10 0) 55 4 0) 55 5 0).1 49 0 = 0
      rw [wI_ne (.inl (by decide)), wL_1, wI_ne (.inl (by decide)), wI_ne (.inl (by decide)), wI_ne (.inl (by decide))]
      exact hD
  have hS5 : fS σ S5 := ⟨s5 _ _ (by decide), s5 _ _ (by decide), b5⟩
  have hT3 : fM μ T3 := fM_wI (fM_wI (fM_wI (fun _ _ _ _ _ _ => rfl) (by decide)) (by decide)) (by decide)
  have p8 : S5.1 47 8 = zI ((0 : Nat) : Int) := by
    show (wI (wL (wI (wI (wI σ 47 8 0) 47 9 0) 47 10 0) 55 4 0) 55 5 0).1 47 8 = 0
    rw [wI_ne (.inl (by decide)), wL_1, wI_ne (.inr (by decide)), wI_ne (.inr (by decide)), wI_eq]
  have p9 : S5.1 47 9 = zI ((0 : Nat) : Int) := by
    show (wI (wL (wI (wI (wI σ 47 8 0) 47 9 0) 47 10 0) 55 4 0) 55 5 0).1 47 9 = 0
    rw [wI_ne (.inl (by decide)), wL_1, wI_ne (.inr (by decide)), wI_eq]
  have q21 : T3.1 0 21 = zI ((0 : Nat) : Int) := by
    show (wI (wI (wI μ 0 21 0) 0 25 0) 0 26 0).1 0 21 = 0
    rw [wI_ne (.inr (by decide)), wI_ne (.inr (by decide)), wI_eq]
  have q25 : T3.1 0 25 = zI ((0 : Nat) : Int) := by
    show (wI (wI (wI μ 0 21 0) 0 25 0) 0 26 0).1 0 25 = 0
    rw [wI_ne (.inr (by decide)), wI_eq]
  have q26 : T3.1 0 26 = zI ((0 : Nat) : Int) := wI_eq
  have tS5 := fS_tx hu hS5 tI
  obtain ⟨T4, n1, n2, n3⟩ := f9_next1 hb hL hu (p := 0) (by decide) (fM_tx hT3 tM) q21
  have hT4 := fM_e hT3 n3
  have hle := bl_le (L := L) (b := b) 80 0
  have hend := bl_end (L := L) (b := b) 80 0 (by omega)
  have k0 := f7_blanks hb tS5 hL (p := 0) (by decide)
  unfold F_X6_readFrom F_X9_readStreet F_X9_readPaper F_X1_begin
  simp only [nm]
  show rdA σ μ (bd (some S5) (fun S5 => bd (F_X7_pastBlanks u S5 (zI ((0 : Nat) : Int))) _)) (bd (bd (F_X9_nextByte T3 (zI u)) _) _)
  rw [bd_some, n1, bd_some, k0, bd_some, show (112 : Int32) = zI 112 from rfl]
  generalize bl L b 80 0 = P at hle hend n1 n2 ⊢
  have hy := by9_b (L := L) hb P
  have hs1 : -128 ≤ sg L b P ∧ sg L b P ≤ 1000 := by
    unfold sg
    have := hb P
    split <;> omega
  have hiff : sg L b P = 112 ↔ by9 L b P = 112 := by
    unfold sg by9
    split <;> omega
  rw [f7_sign tS5 hL (by omega), bd_some, if_eqZ (by omega) (by omega) (by decide) (by decide)]
  show rdA σ μ _ (bd (if zI (by9 L b P) = zI 112 then _ else some (0, T4)) _)
  rw [if_eqZ (by omega) (by omega) (by decide) (by decide)]
  by_cases q : by9 L b P = 112
  case neg =>
    rw [if_neg (fun h => q (hiff.mp h)), if_neg q, bd_some]
    exact .inl ⟨P, S5, T4, rfl, rfl, n2, by omega, hS5, hT4⟩
  rw [if_pos (hiff.mpr q), if_pos q, n2, zS]
  let T5 := wI T4 0 21 (zI ((P + 1 : Nat) : Int))
  have hT5 : fM μ T5 := fM_wI hT4 (by decide)
  have r25 : T5.1 0 25 = zI ((0 : Nat) : Int) := (wI_ne (.inr (by decide))).trans ((n3 _ _ (.inr (by decide))).trans q25)
  have r26 : T5.1 0 26 = zI ((0 : Nat) : Int) := (wI_ne (.inr (by decide))).trans ((n3 _ _ (.inr (by decide))).trans q26)
  obtain ⟨p', w', d', S', T', k1, k2, k3, k4, ⟨k5, k5', k6, k6', k7⟩, k8, k9, k10, k11⟩ := rd_walls hb hL hu tI tM 6 0 (by decide) (P + 1) (by omega) FU FU (by unfold FU; omega) (by unfold FU; omega) S5 T5 (fun _ => 0) hS5 hT5 ⟨p8, r25, by decide, fun _ => Nat.zero_le _, fun j hj => absurd hj (Nat.not_lt_zero _)⟩ wI_eq
  rw [k1, bd_some]
  show rdA σ μ (bd (F_X6_measure 1 S') _) (bd (bd (T_X9_readPaper_22 (zI u) FU T5) _) _)
  rw [k2, bd_some, f6_measure (L := d') (D := Dn d') k6 k5 (fun j hj => (k7 j hj).1) (show S'.1 (sb 1 + 2) 0 = zI ((Dn d' 0 : Nat) : Int) from k3.2.2.2.2.2) (fun _ => rfl), bd_some, show (msr 1 (Dn d') S' w').1 (sb 1) 8 = zI w' from (msr_o (.inl (by decide)) _).trans k5, if_eq0 (by omega) (by omega), k5', if_le0 (by omega) (by omega)]
  have hS'' : fS σ (msr 1 (Dn d') S' w') := ⟨sm_tr k3.1 (msr_sm (by decide) _), sm_tr k3.2.1 (msr_sm (by decide) _), (msr_o (.inl (by decide)) _).trans k3.2.2.1, (msr_o (.inl (by decide)) _).trans k3.2.2.2.1, ((msr_sm (lo := 55) (hi := 56) (by decide) w' 55 (by decide) (by decide) 4).2).trans k3.2.2.2.2.1, (msr_o (.inr rfl) _).trans k3.2.2.2.2.2⟩
  by_cases q0 : w' = 0
  · rw [if_pos (by omega), if_pos (by omega), bd_some]
    exact .inl ⟨p', msr 1 (Dn d') S' w', T', rfl, rfl, k8, by omega, hS'', k4⟩
  rw [if_neg (by omega), if_neg (by omega), bd_some]
  have t8 : (msr 1 (Dn d') S' w').1 47 8 = zI w' := (msr_o (.inl (by decide)) _).trans k5
  have key := rd_people hb hL hu tI tM k6 7 0 (by decide) p' (by omega) FU FU (by unfold FU; omega) (by unfold FU; omega) (msr 1 (Dn d') S' w') T' (fun _ => 0) (fun _ => 0) hS'' k4 ⟨(msr_o (.inl (by decide)) _).trans (k11.trans p9), k10.trans r26, by decide, fun _ => ⟨Nat.zero_lt_succ 5, Nat.zero_le _⟩, fun x hx => absurd hx (Nat.not_lt_zero _)⟩ t8 k5' k8
  show rdA σ μ (bd (F_X6_readPeople 1 u (msr 1 (Dn d') S' w') (zI p')) _) (if (1 : Int32) = 0 then _ else bd (T_X9_readStreet_25 (zI u) FU T') _)
  rw [if_neg (by decide), ppX, f7_blanks hb (fS_tx hu hS'' tI) hL (by omega), bd_some]
  rcases key with ⟨q', S2, T2, g1, g2, g3, g4, g5, g6⟩ | ⟨S2, T2, κ, r, k, g1, g2, g3, g4, g5, g6⟩
  · rw [g1, bd_some]
    exact .inl ⟨q', S2, T2, rfl, g2, g3, g4, g5, g6⟩
  · rw [g1, bd_some]
    refine .inr ⟨S2, T2, w', d', κ, r, k, rfl, g2, g3, g4, g5, ⟨g6.1.trans t8, g6.2.2.2.1.trans k5', k6, k6', fun j hj => ⟨(g6.2.1 j).trans ((msr_o (.inl (by decide)) _).trans (k7 j hj).1), (g6.2.2.2.2 j).trans (k7 j hj).2⟩⟩, by omega, fun i hi => (g6.2.2.1 i).trans (msr_d (show S'.1 (sb 1 + 2) 0 = zI ((Dn d' 0 : Nat) : Int) from k3.2.2.2.2.2) w' i hi)⟩
theorem R_fs {σ μ S T : Sg} (h : R σ μ) (hS : fS σ S) (hT : fM μ T) : R S T := R_scr h ⟨sm_in hS.1 (by decide) (by decide), sm_in hS.1 (by decide) (by decide), hS.2.1⟩ ⟨fun j h1 h2 h3 => hT _ _ (.inr ⟨h1, h2, h3⟩) (by decide) (by decide) (by decide), fun c _ _ n => hT _ _ (.inl (by omega)) (by omega) (by omega) (by omega), fun c _ _ n => hT _ _ (.inl (by omega)) (by omega) (by omega) (by omega)⟩ hS.2.2.2.2.2
/-- the text as bytes -/
theorem RT_tx {σ μ : Sg} (h : RT σ μ) {u : Nat} (hu : u < 4) {L : Nat} (h1 : σ.1 (26 + 2 * u) 1 = zI L) (h2 : μ.1 3 u = zI L) : ∃ b, byB b ∧ txI u L b σ ∧ txM u L b μ := by
  have hr := (h u hu).2
  refine ⟨fun j => if j < 80 then (μ.1 4 (80 * u + j)).toInt else 0, fun j => ?_, ⟨h1, fun j hj => ?_⟩, ⟨h2, fun j hj => ?_⟩⟩
  · show -128 ≤ (if j < 80 then (μ.1 4 (80 * u + j)).toInt else 0) ∧ (if j < 80 then (μ.1 4 (80 * u + j)).toInt else 0) ≤ 127
    by_cases q : j < 80
    · obtain ⟨z, z1, z2, z3, z4⟩ := hr j q
      rw [if_pos q, z4, z_toInt (by omega) (by omega)]
      exact ⟨z1, z2⟩
    · rw [if_neg q]; exact ⟨by decide, by decide⟩
  · obtain ⟨z, z1, z2, z3, z4⟩ := hr j hj
    show _ = zI (if j < 80 then (μ.1 4 (80 * u + j)).toInt else 0)
    rw [if_pos hj, ← z_of, z3, z4]
  · show _ = zI (if j < 80 then (μ.1 4 (80 * u + j)).toInt else 0)
    rw [if_pos hj, ← z_of]
theorem s_fault : st_fault R := by
  intro σ μ a1 h
  obtain ⟨x, hx1, hx2, rfl⟩ := arg a1
  unfold F_X8_fault F_X9_fault
  rw [f8_isText ⟨hx1, hx2⟩, f9_isText ⟨hx1, hx2⟩, bd_some, bd_some]
  cases e : inZ 0 3 x
  · exact ⟨-1, σ, μ, rfl, rfl, h⟩
  obtain ⟨u, rfl, hu'⟩ := inZ_n e
  have hu : u < 4 := by omega
  have cu : ∀ {α : Type} (K : Option α), chk (inB (zI u) 4) K = K := fun K => chk_N (by omega) (by omega)
  obtain ⟨⟨z, z1, z2, z3, z4⟩, hr⟩ := h.2.2.2.1 u hu
  simp only [cu]
  rw [t0, t0, z_tnN (by omega), f7_miss z3 z1 z2, z4, bd_some, if_0le (by omega) (by omega)]
  by_cases q : z < 0
  · rw [decide_eq_true q, if_neg (c := 0 ≤ z) (by omega), t0, zN1, f8_find (by decide), f9_find (by decide)]
    exact ⟨_, _, _, rfl, rfl, R_find h (f := 1) (by decide)⟩
  obtain ⟨L, rfl⟩ : ∃ L : Nat, z = L := ⟨z.toNat, by omega⟩
  obtain ⟨b, hb, tI, tM⟩ := RT_tx h.2.2.2.1 hu z3 z4
  rw [decide_eq_false q, if_pos (c := 0 ≤ (L : Int)) (by omega), f0]
  rcases rd_all h.2.2.2.2.1 hb (by omega) hu tI tM with ⟨q', S', T', g1, g2, g3, g4, g5, g6⟩ | ⟨S', T', w, d, κ, r, k, g1, g2, g3, g4, g5, g6, g7⟩
  · rw [g1, g2, bd_some, bd_some]
    refine ⟨zI q', S', T', rfl, ?_, R_fs h g5 g6⟩
    show (if (0 : Int32) = 0 then some (T'.1 0 21, T') else _) = _
    rw [if_pos rfl, g3]
  · rw [g1, g2, bd_some, bd_some]
    refine ⟨-9, S', T', rfl, ?_, R_fs h g3 g4⟩
    show (if (1 : Int32) = 0 then _ else some (-9, T')) = _
    rw [if_neg (by decide)]
def newA (P W : Nat) (d κ r : Nat → Nat) : AS := (fun c n => if c = 0 then (if n = 0 then P else if n = 1 then W else 0) else if c = 1 then d n else if c = 2 then κ n else if c = 3 then r n else 0, fun _ _ => 0)
theorem newA_D {P W : Nat} {d κ r : Nat → Nat} : ∀ n, aD (newA P W d κ r) n = Dn d n
  | 0 => rfl
  | n + 1 => by rw [aD, newA_D n, Dn]; rfl
def w56 (S : Sg) : Nat → Sg
  | 0 => S
  | n + 1 => wI (wI (w56 S n) 5 n (S.1 17 n)) 6 n (S.1 18 n)
theorem w56_o {S : Sg} {c k : Nat} (h : c ≠ 5) (h2 : c ≠ 6) : ∀ n, (w56 S n).1 c k = S.1 c k
  | 0 => rfl
  | n + 1 => by rw [w56, wI_ne (.inl h2), wI_ne (.inl h), w56_o h h2 n]
theorem w56_5 {S : Sg} {k : Nat} : ∀ n, k < n → (w56 S n).1 5 k = S.1 17 k ∧ (w56 S n).1 6 k = S.1 18 k
  | 0, h => absurd h (Nat.not_lt_zero _)
  | n + 1, h => by
    have a1 : (w56 S (n + 1)).1 5 k = if k = n then S.1 17 n else (w56 S n).1 5 k := by rw [w56, wI_ne (.inl (by decide)), wI_1, if_pos rfl]
    have a2 : (w56 S (n + 1)).1 6 k = if k = n then S.1 18 n else (w56 S n).1 6 k := by rw [w56, wI_1, if_pos rfl, wI_ne (.inl (by decide))]
    rw [a1, a2]
    by_cases e : k = n
    · rw [if_pos e, if_pos e, e]; exact ⟨rfl, rfl⟩
    · rw [if_neg e, if_neg e]; exact w56_5 n (by omega)
theorem s_street : st_street R := by
  intro σ μ a1 h
  obtain ⟨x, hx1, hx2, rfl⟩ := arg a1
  unfold F_X8_street F_X9_street
  rw [f8_isText ⟨hx1, hx2⟩, f9_isText ⟨hx1, hx2⟩, bd_some, bd_some]
  cases e : inZ 0 3 x
  · exact ⟨-1, σ, μ, rfl, rfl, h⟩
  obtain ⟨u, rfl, hu'⟩ := inZ_n e
  have hu : u < 4 := by omega
  have cu : ∀ {α : Type} (K : Option α), chk (inB (zI u) 4) K = K := fun K => chk_N (by omega) (by omega)
  obtain ⟨⟨z, z1, z2, z3, z4⟩, hr⟩ := h.2.2.2.1 u hu
  simp only [cu]
  rw [t0, t0, z_tnN (by omega), f7_miss z3 z1 z2, z4, bd_some, if_0le (by omega) (by omega)]
  by_cases q : z < 0
  · rw [decide_eq_true q, if_neg (c := 0 ≤ z) (by omega), t0, zN1, f8_find (by decide), f9_find (by decide)]
    exact ⟨_, _, _, rfl, rfl, R_find h (f := 1) (by decide)⟩
  obtain ⟨L, rfl⟩ : ∃ L : Nat, z = L := ⟨z.toNat, by omega⟩
  obtain ⟨b, hb, tI, tM⟩ := RT_tx h.2.2.2.1 hu z3 z4
  rw [decide_eq_false q, if_pos (c := 0 ≤ (L : Int)) (by omega), f0]
  rcases rd_all h.2.2.2.2.1 hb (by omega) hu tI tM with ⟨q', S', T', g1, g2, g3, g4, g5, g6⟩ | ⟨S', T', w, d, κ, r, k, g1, g2, g3, g4, ⟨p1, p2, p3, p4, p5⟩, ⟨w1, w2, w3, w4, w5⟩, g7, g8⟩
  · rw [g1, g2, bd_some, bd_some]
    refine ⟨-4, S', T', ?_, ?_, R_fs h g5 g6⟩
    · show (if zI (q' : Int) = -9 then _ else some (-4, S')) = _
      rw [if_neg (ne9 (by omega))]
    · show (if (0 : Int32) = 0 then some (-4, T') else _) = _
      rw [if_pos rfl]
  have hR' := R_fs h g3 g4
  let a := newA k w d κ r
  have wg : WG a := ⟨p3, w3, fun _ => g7, fun j => by have : d j ≤ 9 := w4 j; show d j ≤ 26; omega, fun j => (p4 j).1, fun j => (p4 j).2⟩
  have wt : WT a := ⟨Nat.zero_le _, fun j hj => absurd hj (Nat.not_lt_zero _)⟩
  have wh : WH a := ⟨Nat.zero_le _, fun j hj => absurd hj (Nat.not_lt_zero _), fun t => sub_0 _, fun j => by have : d j ≤ 9 := w4 j; show d j ≤ 20; omega⟩
  have c1 : CG 1 S' a := ⟨p1, w1, fun j hj => (w5 j hj).1, fun i hi => by rw [newA_D]; exact g8 i hi, fun j hj => (p5 j hj).1.1, fun j hj => (p5 j hj).1.2⟩
  have ct1 : CT 1 S' a := ⟨g3.2.2.1, fun j hj => absurd hj (Nat.not_lt_zero _), fun j hj => absurd hj (Nat.not_lt_zero _), fun j hj => absurd hj (Nat.not_lt_zero _)⟩
  have ch1 : CH 1 S' a := ⟨g3.2.2.2.1, fun j hj => absurd hj (Nat.not_lt_zero _), fun j hj => absurd hj (Nat.not_lt_zero _), fun j hj => absurd hj (Nat.not_lt_zero _), fun j hj => absurd hj (Nat.not_lt_zero _), by rw [show S'.2 (sb 1 + 8) 4 = 0 from g3.2.2.2.2.1]; exact pk_0⟩
  obtain ⟨c0, ct0, ch0⟩ := C_bec (S := S') (i := 0) (j := 1) (by decide) wg wt wh ⟨c1, ct1, ch1⟩
  have n0 : vp_nar .boolean (0 : Int32) = 0 := by rw [nar_b]; decide
  let σ1 := wr 4 0 (fun _ => 0) (bec 0 1 S') 3
  have k8 : T_X8_street_61 FU 0 (bec 0 1 S') = some σ1 := by
    refine loopE (fun n x => T_X8_street_61 n (zI x) (wr 4 0 (fun _ => 0) (bec 0 1 S') x)) 3 (some σ1) (by decide) (fun n => ?_) (fun n x hx => ?_)
    · simp only [T_X8_street_61]
      rw [if_pos (by decide)]
    · simp only [T_X8_street_61]
      rw [show (3 : Int32) = zI ((3 : Nat) : Int) from rfl, if_le_f hx (by omega), chk_N (by omega) (by omega), z_tnN (by omega), nm, n0, zS, wr, Nat.zero_add]
  have o8 : ∀ lo hi, 47 ≤ lo ∨ hi ≤ 34 → 4 < lo ∨ hi ≤ 4 → sm lo hi S' σ1 := fun lo hi q1 q2 => sm_tr (bec_sm (by show 34 + 13 ≤ lo ∨ hi ≤ 34; omega)) (wr_sm (by omega) _)
  have c34 : sm 34 47 (bec 0 1 S') σ1 := wr_sm (by decide) _
  let M0 := wI (wI (wI (wI T' 0 8 (T'.1 0 25)) 0 7 (T'.1 0 26)) 0 10 0) 0 16 0
  have m8 : M0.1 0 8 = zI w := by
    show (wI (wI (wI (wI T' 0 8 (T'.1 0 25)) 0 7 _) 0 10 0) 0 16 0).1 0 8 = _
    rw [wI_ne (.inr (by decide)), wI_ne (.inr (by decide)), wI_ne (.inr (by decide)), wI_eq]; exact w2
  have m7 : M0.1 0 7 = zI k := by
    show (wI (wI (wI (wI T' 0 8 (T'.1 0 25)) 0 7 _) 0 10 0) 0 16 0).1 0 7 = _
    rw [wI_ne (.inr (by decide)), wI_ne (.inr (by decide)), wI_eq]; exact p2
  have mo : ∀ c n, c ≠ 0 → M0.1 c n = T'.1 c n := fun c n hc => by
    show (wI (wI (wI (wI T' 0 8 (T'.1 0 25)) 0 7 _) 0 10 0) 0 16 0).1 c n = _
    rw [wI_ne (.inl hc), wI_ne (.inl hc), wI_ne (.inl hc), wI_ne (.inl hc)]
  have mo0 : ∀ n, n = 17 ∨ n = 18 → M0.1 0 n = T'.1 0 n := fun n hn => by
    show (wI (wI (wI (wI T' 0 8 (T'.1 0 25)) 0 7 _) 0 10 0) 0 16 0).1 0 n = _
    rw [wI_ne (.inr (by omega)), wI_ne (.inr (by omega)), wI_ne (.inr (by omega)), wI_ne (.inr (by omega))]
  let M1 := wr 7 0 (fun j => zI ((d j : Nat) : Int)) M0 w
  have r1 : T_X9_street_63 FU 0 M0 = some M1 := by
    refine loopE (fun n x => T_X9_street_63 n (zI x) (wr 7 0 (fun j => zI ((d j : Nat) : Int)) M0 x)) w (some M1) (by omega) (fun n => ?_) (fun n x hx => ?_)
    · simp only [T_X9_street_63]
      rw [wr_n (.inl (by decide)), m8, if_le_t (by omega) (by omega)]
    · simp only [T_X9_street_63]
      rw [wr_n (.inl (by decide)), m8, if_le_f hx (by omega), chk_N (by omega) (by omega), chk_N (by omega) (by omega), z_tnN (by omega), wr_n (.inl (by decide)), mo _ _ (by decide), (w5 x hx).2, nm, zS, wr, Nat.zero_add]
  let M2 := w56 M1 k
  have m1o : ∀ c n, c ≠ 7 → M1.1 c n = M0.1 c n := fun c n hc => wr_n (.inl hc)
  have r2 : T_X9_street_91 FU 0 M1 = some M2 := by
    refine loopE (fun n x => T_X9_street_91 n (zI x) (w56 M1 x)) k (some M2) (by omega) (fun n => ?_) (fun n x hx => ?_)
    · simp only [T_X9_street_91]
      rw [w56_o (by decide) (by decide), m1o _ _ (by decide), m7, if_le_t (by omega) (by omega)]
    · have cx : ∀ {α : Type} (K : Option α), chk (inB (zI (x : Int)) 7) K = K := fun K => chk_N (by omega) (by omega)
      simp only [T_X9_street_91, cx, nm]
      rw [w56_o (by decide) (by decide), m1o _ _ (by decide), m7, if_le_f hx (by omega), z_tnN (by omega), w56_o (by decide) (by decide), wI_ne (c := 18) (.inl (by decide)), w56_o (by decide) (by decide), zS, w56]
  let M3 := wr 9 0 (fun _ => 0) M2 8
  have r3 : T_X9_street_131 FU 0 M2 = some M3 := by
    refine loopE (fun n x => T_X9_street_131 n (zI x) (wr 9 0 (fun _ => 0) M2 x)) 8 (some M3) (by decide) (fun n => ?_) (fun n x hx => ?_)
    · simp only [T_X9_street_131]
      rw [if_pos (by decide)]
    · simp only [T_X9_street_131]
      rw [show (8 : Int32) = zI ((8 : Nat) : Int) from rfl, if_le_f hx (by omega), chk_N (by omega) (by omega), z_tnN (by omega), nm, zS, wr, Nat.zero_add]
  let M4 := wr 25 0 (fun _ => 0) M3 3
  have r4 : T_X9_street_152 FU 0 M3 = some M4 := by
    refine loopE (fun n x => T_X9_street_152 n (zI x) (wr 25 0 (fun _ => 0) M3 x)) 3 (some M4) (by decide) (fun n => ?_) (fun n x hx => ?_)
    · simp only [T_X9_street_152]
      rw [if_pos (by decide)]
    · simp only [T_X9_street_152]
      rw [show (3 : Int32) = zI ((3 : Nat) : Int) from rfl, if_le_f hx (by omega), chk_N (by omega) (by omega), z_tnN (by omega), nm, n0, zS, wr, Nat.zero_add]
  have m4o : ∀ c n, c ≠ 25 → c ≠ 9 → c ≠ 5 → c ≠ 6 → c ≠ 7 → M4.1 c n = M0.1 c n := fun c n q1 q2 q3 q4 q5 => (wr_n (.inl q1)).trans ((wr_n (.inl q2)).trans ((w56_o q3 q4 _).trans (m1o _ _ q5)))
  have m4b : ∀ c n, c ≠ 25 → c ≠ 9 → M4.1 c n = M2.1 c n := fun c n q1 q2 => (wr_n (.inl q1)).trans (wr_n (.inl q2))
  have m17 : ∀ c n, c ≠ 0 → c ≠ 7 → M1.1 c n = T'.1 c n := fun c n q1 q2 => (m1o c n q2).trans (mo c n q1)
  have mg : MG M4 a := ⟨(m4o _ _ (by decide) (by decide) (by decide) (by decide) (by decide)).trans m7, (m4o _ _ (by decide) (by decide) (by decide) (by decide) (by decide)).trans m8, fun j hj => (m4b _ _ (by decide) (by decide)).trans ((w56_o (by decide) (by decide) _).trans (wr_e0 hj)), fun j hj => (m4b _ _ (by decide) (by decide)).trans ((w56_5 k hj).1.trans ((m17 _ _ (by decide) (by decide)).trans (p5 j hj).2.1)), fun j hj => (m4b _ _ (by decide) (by decide)).trans ((w56_5 k hj).2.trans ((m17 _ _ (by decide) (by decide)).trans (p5 j hj).2.2))⟩
  have mt : MT M4 a := by
    refine ⟨(m4o _ _ (by decide) (by decide) (by decide) (by decide) (by decide)).trans ?_, fun j hj => absurd hj (Nat.not_lt_zero _), fun j hj => absurd hj (Nat.not_lt_zero _), fun j hj => absurd hj (Nat.not_lt_zero _)⟩
    show (wI (wI (wI (wI T' 0 8 (T'.1 0 25)) 0 7 _) 0 10 0) 0 16 0).1 0 10 = _
    rw [wI_ne (.inr (by decide)), wI_eq]; rfl
  have mh : MH M4 a := by
    refine ⟨(m4o _ _ (by decide) (by decide) (by decide) (by decide) (by decide)).trans wI_eq, fun t ht => (wr_n (.inl (by decide))).trans (wr_e0 ht), fun j hj => absurd hj (Nat.not_lt_zero _), fun j hj => absurd hj (Nat.not_lt_zero _), fun j hj => absurd hj (Nat.not_lt_zero _), fun j t hj => absurd hj (Nat.not_lt_zero _)⟩
  have hR4 : R σ1 M4 := by
    obtain ⟨_, hA, hRR, hRT, hD, hK⟩ := hR'
    refine ⟨⟨a, ⟨wg, wt, wh⟩, ⟨CG_sm c34 c0, CT_sm c34 ct0, CH_k (fun c n q => c34 (sb 0 + c) (by show 34 ≤ 34 + c; omega) (by show 34 + c < 47; omega) n) ch0⟩, ⟨mg, mt, mh⟩⟩, ⟨?_, ?_, fun f hf => ?_⟩, RR_cg hRR (o8 14 26 (by decide) (by decide)) (fun n => (m4o _ _ (by decide) (by decide) (by decide) (by decide) (by decide)).trans (mo _ _ (by decide))) (fun n => (m4o _ _ (by decide) (by decide) (by decide) (by decide) (by decide)).trans (mo _ _ (by decide))), RT_cg hRT (o8 26 34 (by decide) (by decide)) (fun n => (m4o _ _ (by decide) (by decide) (by decide) (by decide) (by decide)).trans (mo _ _ (by decide))) (fun n => (m4o _ _ (by decide) (by decide) (by decide) (by decide) (by decide)).trans (mo _ _ (by decide))), ((o8 47 60 (by decide) (by decide) 49 (by decide) (by decide) 0).1).trans hD, fun j hj => .inl ⟨?_, ?_⟩⟩
    · rw [(o8 0 4 (by decide) (by decide) 0 (by decide) (by decide) _).1, hA.1, m4o _ _ (by decide) (by decide) (by decide) (by decide) (by decide), mo0 17 (.inl rfl)]
    · rw [(o8 0 4 (by decide) (by decide) 0 (by decide) (by decide) _).1, hA.2.1, m4o _ _ (by decide) (by decide) (by decide) (by decide) (by decide), mo0 18 (.inr rfl)]
    · rw [(o8 5 6 (by decide) (by decide) 5 (by decide) (by decide) _).1, hA.2.2 f hf, m4o _ _ (by decide) (by decide) (by decide) (by decide) (by decide), mo _ _ (by decide)]
    · exact wr_e0 hj
    · exact wr_e0 hj
  rw [g1, g2, bd_some, bd_some]
  refine ⟨zI k, σ1, M4, ?_, ?_, hR4⟩
  · show (if (-9 : Int32) = -9 then bd (F_X6_become 0 1 S') _ else _) = _
    rw [if_pos rfl, f6_bec (by decide), bd_some, k8, bd_some, show σ1.1 (sb 0) 9 = zI k from ((c34 34 (by decide) (by decide) 9).1).trans c0.1]
  · show (if (1 : Int32) = 0 then _ else bd (T_X9_street_63 FU 0 M0) _) = _
    rw [if_neg (by decide), r1, bd_some, r2, bd_some, r3, bd_some, r4, bd_some, mg.1]; rfl
