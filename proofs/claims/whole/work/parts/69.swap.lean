/-! ===== two who change rooms ===== -/
def eqM (μ μ' : Sg) : Prop := ∀ c n, μ'.1 c n = μ.1 c n
theorem eqM_N {μ μ' : Sg} (h : eqM μ μ') : smN μ μ' := ⟨fun _ _ _ _ => h _ _, fun _ _ _ _ => h _ _, fun _ _ _ _ => h _ _⟩
theorem MG_e {μ μ' : Sg} {a : AS} (h : eqM μ μ') (m : MG μ a) : MG μ' a := MG_k (fun c n _ => h c n) m
theorem MT_e {μ μ' : Sg} {a : AS} (h : eqM μ μ') (m : MT μ a) : MT μ' a := MT_k (fun c n _ => h c n) m
def swa (a : AS) (i j : Nat) : AS := setN a 3 (fun x => if x = j then aR a i else if x = i then aR a j else aR a x)
theorem swa_R {a : AS} {i j x : Nat} : aR (swa a i j) x = if x = j then aR a i else if x = i then aR a j else aR a x := rfl
theorem swa_w {a : AS} {i j : Nat} (w : WG a) : WG (swa a i j) := ⟨w.1, w.2.1, w.2.2.1, w.2.2.2.1, w.2.2.2.2.1, fun x => by
  rw [swa_R]
  show _ ≤ aW a
  split
  · exact w.2.2.2.2.2 i
  · split
    · exact w.2.2.2.2.2 j
    · exact w.2.2.2.2.2 x⟩
def sw8 (i j : Nat) (S : Sg) : Sg := wI (wI S (sb 1 + 4) i (S.1 (sb 0 + 4) j)) (sb 1 + 4) j (S.1 (sb 0 + 4) i)
def un8 (i j : Nat) (S : Sg) : Sg := wI (wI S (sb 1 + 4) i (S.1 (sb 0 + 4) i)) (sb 1 + 4) j (S.1 (sb 0 + 4) j)
theorem f6_bec {i j : Nat} {S : Sg} (h : i ≠ j) : F_X6_become i j S = some (bec i j S) := f6_become h
def swI (a : AS) (σ S : Sg) : Prop := CG 0 S a ∧ CG 1 S a ∧ CT 1 S a ∧ smS σ S ∧ RD S
theorem if_Z {c : Prop} [Decidable c] {m n : Nat} : (if c then zI m else zI n) = zI ((if c then m else n : Nat) : Int) := by
  by_cases h : c
  · rw [if_pos h, if_pos h]
  · rw [if_neg h, if_neg h]
theorem sw8_I {a : AS} {σ S : Sg} {i j : Nat} (h : swI a σ S) (hi : i < aP a) (hj : j < aP a) : CG 1 (sw8 i j S) (swa a i j) ∧ CT 1 (sw8 i j S) (swa a i j) := by
  obtain ⟨c0, c1, t1, s, d⟩ := h
  have e0 : sb 0 = 34 := rfl
  have e1 : sb 1 = 47 := rfl
  have o : ∀ c n, c ≠ 51 → (sw8 i j S).1 c n = S.1 c n := fun c n q => by unfold sw8; rw [wI_ne (by omega), wI_ne (by omega)]
  refine ⟨⟨(o _ _ (by decide)).trans c1.1, (o _ _ (by decide)).trans c1.2.1, fun k hk => (o _ _ (by decide)).trans (c1.2.2.1 k hk), fun k hk => by rw [aD_cg (a' := swa a i j) (a := a) (fun _ => rfl)]; exact (o _ _ (by decide)).trans (c1.2.2.2.1 k hk), fun k hk => (o _ _ (by decide)).trans (c1.2.2.2.2.1 k hk), fun k hk => ?_⟩, CT_k (fun c n q => o _ _ (by omega)) t1⟩
  unfold sw8
  rw [wI_1, if_pos rfl, wI_1, if_pos rfl, c0.2.2.2.2.2 i hi, c0.2.2.2.2.2 j hj, c1.2.2.2.2.2 k hk, swa_R, if_Z, if_Z]
theorem un8_I {a : AS} {σ S : Sg} {i j : Nat} (h : swI a σ S) (hi : i < aP a) (hj : j < aP a) : swI a σ (un8 i j (sw8 i j S)) := by
  obtain ⟨c0, c1, t1, s, d⟩ := h
  have e0 : sb 0 = 34 := rfl
  have e1 : sb 1 = 47 := rfl
  have o : ∀ c n, c ≠ 51 → (un8 i j (sw8 i j S)).1 c n = S.1 c n := fun c n q => by unfold un8 sw8; rw [wI_ne (by omega), wI_ne (by omega), wI_ne (by omega), wI_ne (by omega)]
  have s8 : ∀ lo hi, 51 < lo ∨ hi ≤ 51 → sm lo hi S (un8 i j (sw8 i j S)) := fun lo hi q => sm_tr (sm_tr (sm_wI (by omega)) (sm_wI (by omega))) (sm_tr (sm_wI (by omega)) (sm_wI (by omega)))
  have r : ∀ k, k < aP a → (un8 i j (sw8 i j S)).1 51 k = zI (aR a k) := fun k hk => by
    have e2 : ∀ n, (sw8 i j S).1 (sb 0 + 4) n = S.1 (sb 0 + 4) n := fun n => by unfold sw8; rw [wI_ne (by omega), wI_ne (by omega)]
    unfold un8
    rw [e2, e2, c0.2.2.2.2.2 i hi, c0.2.2.2.2.2 j hj]
    unfold sw8
    rw [wI_1, if_pos rfl, wI_1, if_pos rfl, wI_1, if_pos rfl, wI_1, if_pos rfl]
    by_cases q1 : k = j
    · rw [if_pos q1, q1]
    · rw [if_neg q1]
      by_cases q2 : k = i
      · rw [if_pos q2, q2]
      · rw [if_neg q2, if_neg q1, if_neg q2]; exact c1.2.2.2.2.2 k hk
  refine ⟨CG_k (fun c n q => o _ _ (by omega)) c0, ⟨(o _ _ (by decide)).trans c1.1, (o _ _ (by decide)).trans c1.2.1, fun k hk => (o _ _ (by decide)).trans (c1.2.2.1 k hk), fun k hk => (o _ _ (by decide)).trans (c1.2.2.2.1 k hk), fun k hk => (o _ _ (by decide)).trans (c1.2.2.2.2.1 k hk), fun k hk => r k hk⟩, CT_k (fun c n q => o _ _ (by omega)) t1, smS_tr s ⟨s8 _ _ (by decide), s8 _ _ (by decide), s8 _ _ (by decide)⟩, (o 49 0 (by decide)).trans d⟩
def chM (i j : Nat) (S : Sg) : Sg := wI (wI S 6 i (S.1 6 j)) 6 j (S.1 6 i)
theorem f9_change {S : Sg} {i j : Nat} (hi : i < 7) (hj : j < 7) : F_X9_change S (zI i) (zI j) = some (chM i j S) := by
  rw [F_X9_change]
  simp only [nm, chk_N (n := i) (m := 7) hi (by decide), chk_N (n := j) (m := 7) hj (by decide)]
  rw [z_tnN (by omega), z_tnN (by omega)]
  rfl
theorem chM_I {a : AS} {S : Sg} {i j : Nat} (m : MG S a) (hi : i < aP a) (hj : j < aP a) : MG (chM i j S) (swa a i j) := by
  have o : ∀ c n, c ≠ 6 → (chM i j S).1 c n = S.1 c n := fun c n q => by unfold chM; rw [wI_ne (by omega), wI_ne (by omega)]
  refine ⟨(o _ _ (by decide)).trans m.1, (o _ _ (by decide)).trans m.2.1, fun k hk => (o _ _ (by decide)).trans (m.2.2.1 k hk), fun k hk => (o _ _ (by decide)).trans (m.2.2.2.1 k hk), fun k hk => ?_⟩
  unfold chM
  rw [wI_1, if_pos rfl, wI_1, if_pos rfl, m.2.2.2.2 i hi, m.2.2.2.2 j hj, m.2.2.2.2 k hk, swa_R, if_Z, if_Z]
theorem chM_2 {S : Sg} {i j : Nat} (h : i ≠ j) : eqM S (chM i j (chM i j S)) := by
  have v1 : (chM i j S).1 6 i = S.1 6 j := by unfold chM; rw [wI_ne (.inr h), wI_eq]
  have v2 : (chM i j S).1 6 j = S.1 6 i := by unfold chM; rw [wI_eq]
  intro c n
  show (wI (wI (chM i j S) 6 i ((chM i j S).1 6 j)) 6 j ((chM i j S).1 6 i)).1 c n = _
  rw [v1, v2, wI_1, wI_1]
  by_cases q : c = 6
  · rw [if_pos q, if_pos q, q]
    by_cases q1 : n = j
    · rw [if_pos q1, q1]
    · rw [if_neg q1]
      by_cases q2 : n = i
      · rw [if_pos q2, q2]
      · rw [if_neg q2]; unfold chM; rw [wI_ne (.inr q1), wI_ne (.inr q2)]
  · rw [if_neg q, if_neg q]; unfold chM; rw [wI_ne (.inl q), wI_ne (.inl q)]
theorem sw_in {a : AS} (w : WG a) (wt : WT a) {σ μ : Sg} (mg : MG μ a) (mt : MT μ a) {i : Nat} (hi : i < aP a) : ∀ d j, j + d = aP a → i < j → ∀ n m, d < n → d < m → ∀ (b p : Int32) (S T : Sg), swI a σ S → eqM μ T →
    ∃ b' p' S' T', T_X8_swap_43 (zI i) n b p (zI j) S = some (b', p', S') ∧ T_X9_swap_26 (zI i) m b p (zI j) T = some (b', p', T') ∧ swI a σ S' ∧ eqM μ T' := by
  have wP := w.1
  intro d
  induction d with
  | zero =>
    intro j hj hij n m hn hm b p S T hS hT
    obtain ⟨n, rfl⟩ : ∃ k, n = k + 1 := ⟨n - 1, by omega⟩
    obtain ⟨m, rfl⟩ : ∃ k, m = k + 1 := ⟨m - 1, by omega⟩
    simp only [T_X8_swap_43, T_X9_swap_26]
    rw [hS.1.1, (MG_e hT mg).1, if_le_t (by omega) (by omega), if_le_t (by omega) (by omega)]
    exact ⟨b, p, S, T, rfl, rfl, hS, hT⟩
  | succ d ih =>
    intro j hj hij n m hn hm b p S T hS hT
    obtain ⟨n, rfl⟩ : ∃ k, n = k + 1 := ⟨n - 1, by omega⟩
    obtain ⟨m, rfl⟩ : ∃ k, m = k + 1 := ⟨m - 1, by omega⟩
    have hjP : j < aP a := by omega
    have e0 : sb 0 = 34 := rfl
    have e1 : sb 1 = 47 := rfl
    obtain ⟨g1, g2⟩ := sw8_I hS hi hjP
    have w' := swa_w (i := i) (j := j) w
    have m1 := chM_I (MG_e hT mg) hi hjP
    have m2 : MT (chM i j T) (swa a i j) := MT_k (fun c n q => by unfold chM; rw [wI_ne (by omega), wI_ne (by omega)]) (MT_e hT mt)
    have wt' : WT (swa a i j) := wt
    have ss := sft_sub wt'
    simp only [T_X8_swap_43, T_X9_swap_26]
    rw [hS.1.1, (MG_e hT mg).1, if_le_f hjP (by omega), if_le_f hjP (by omega)]
    simp only [nm, chk_N (n := i) (m := 7) (by omega) (by decide), chk_N (n := j) (m := 7) (by omega) (by decide)]
    rw [z_tnN (by omega), z_tnN (by omega), wI_ne (c := sb 0 + 4) (n := i) (S := S) (by omega)]
    show ∃ b' p' S' T', (bd (F_X6_safeTalks 1 (sw8 i j S)) _ = _) ∧ _
    rw [f6_sft g1 g2 w' wt', bd_some, f_bc ss, bd_some, f9_change (by omega) (by omega), bd_some, f9_sft m1 m2 w' wt', bd_some, f_ones ss, bd_some, f9_change (by omega) (by omega), bd_some]
    have hS2 := un8_I hS hi hjP
    have hT2 : eqM μ (chM i j (chM i j T)) := fun c n => (chM_2 (by omega) c n).trans (hT c n)
    have e8 : ∀ S1 : Sg, wI (wI S1 (sb 1 + 4) i (S1.1 (sb 0 + 4) i)) (sb 1 + 4) j ((wI S1 (sb 1 + 4) i (S1.1 (sb 0 + 4) i)).1 (sb 0 + 4) j) = un8 i j S1 := fun S1 => by rw [wI_ne (by omega)]; rfl
    simp only [e8, zS]
    by_cases q : zI ((pc (sft (swa a i j)) : Nat) : Int) ≤ b
    · simp only [if_pos q, bd_some]
      exact ih (j + 1) (by omega) (by omega) n m (by omega) (by omega) b p _ _ hS2 hT2
    · simp only [if_neg q, bd_some]
      exact ih (j + 1) (by omega) (by omega) n m (by omega) (by omega) _ _ _ _ hS2 hT2
theorem sw_out {a : AS} (w : WG a) (wt : WT a) {σ μ : Sg} (mg : MG μ a) (mt : MT μ a) : ∀ d i, i + d = aP a → ∀ n m, d < n → d < m → ∀ (b p : Int32) (S T : Sg), swI a σ S → eqM μ T →
    ∃ b' p' S' T', T_X8_swap_27 n b p (zI i) S = some (b', p', S') ∧ T_X9_swap_13 m b p (zI i) T = some (b', p', T') ∧ swI a σ S' ∧ eqM μ T' := by
  have wP := w.1
  intro d
  induction d with
  | zero =>
    intro i hj n m hn hm b p S T hS hT
    obtain ⟨n, rfl⟩ : ∃ k, n = k + 1 := ⟨n - 1, by omega⟩
    obtain ⟨m, rfl⟩ : ∃ k, m = k + 1 := ⟨m - 1, by omega⟩
    simp only [T_X8_swap_27, T_X9_swap_13]
    rw [hS.1.1, (MG_e hT mg).1, if_le_t (by omega) (by omega), if_le_t (by omega) (by omega)]
    exact ⟨b, p, S, T, rfl, rfl, hS, hT⟩
  | succ d ih =>
    intro i hj n m hn hm b p S T hS hT
    obtain ⟨n, rfl⟩ : ∃ k, n = k + 1 := ⟨n - 1, by omega⟩
    obtain ⟨m, rfl⟩ : ∃ k, m = k + 1 := ⟨m - 1, by omega⟩
    simp only [T_X8_swap_27, T_X9_swap_13]
    rw [hS.1.1, (MG_e hT mg).1, if_le_f (by omega) (by omega), if_le_f (by omega) (by omega), zS, nm, nm]
    obtain ⟨b', p', S', T', k1, k2, k3, k4⟩ := sw_in w wt mg mt (i := i) (by omega) d (i + 1) (by omega) (by omega) FU FU (by unfold FU; omega) (by unfold FU; omega) b p S T hS hT
    rw [k1, k2, bd_some, bd_some]
    exact ih (i + 1) (by omega) n m (by omega) (by omega) b' p' S' T' k3 k4
theorem s_swap : st_swap R := by
  intro σ μ h
  obtain ⟨a, ⟨wg, wt, wh⟩, ⟨cg, ct, ch⟩, ⟨mg, mt, mh⟩⟩ := h.1
  have wP := wg.1
  have ss := sft_sub (a := a) wt
  obtain ⟨b1, b2, b3⟩ := C_bec (S := σ) (i := 1) (j := 0) (by decide) wg wt wh ⟨cg, ct, ch⟩
  have sS : smS σ (bec 1 0 σ) := ⟨bec_sm (by decide), bec_sm (by decide), bec_sm (by decide)⟩
  have hI : swI a σ (bec 1 0 σ) := ⟨CG_sm (sm_in sS.2.1 (by decide) (by decide)) cg, b1, b2, sS, b1.2.2.2.1 0 (Nat.zero_le _)⟩
  obtain ⟨b', p', S', T', k1, k2, ⟨_, _, _, k3, k4⟩, k5⟩ := sw_out wg wt mg mt (σ := σ) (aP a) 0 (by omega) FU FU (by unfold FU; omega) (by unfold FU; omega) (zI (pc (sft a))) (-9) (bec 1 0 σ) μ hI (fun _ _ => rfl)
  have hR' := R_scr h k3 (eqM_N k5) k4
  unfold F_X8_swap F_X9_swap
  rw [f6_bec (by decide), bd_some]
  rw [f6_sft hI.1 (CT_sm (sm_in sS.2.1 (by decide) (by decide)) ct) wg wt, bd_some, f_bc ss, bd_some, f9_sft mg mt wg wt, bd_some, f_ones ss, bd_some, show (0 : Int32) = zI ((0 : Nat) : Int) from rfl, k1, k2, bd_some, bd_some]
  show ∃ r σ1 μ1, (bd (if p' = -9 then some S' else nm (wI S' 0 10 b') (fun S43 => some S43)) (fun S40 => some (p', S40)) = _) ∧ ((if p' = -9 then some (-9, T') else bd (F_X9_say T' p' b') _) = _) ∧ _
  by_cases q : p' = -9
  · rw [if_pos q, if_pos q, q, bd_some]
    exact ⟨_, _, _, rfl, rfl, hR'⟩
  · rw [if_neg q, if_neg q, nm, bd_some, f9_say, bd_some]
    exact ⟨_, _, _, rfl, rfl, R_told hR' _⟩
