/-! ===== the law from its talks on ===== -/
theorem m_keep {a : AS} {S : Sg} (n : Nw a S) (w : wf a) (hP : 0 < aP a) (la : La a S) : ∃ S', F_X8_keep S 0 = some (zI (aH a), S') ∧ Iv a S' := by
  have wP := w.1.1
  obtain ⟨b1, b2, b3⟩ := C_bec (S := S) (i := 2) (j := 0) (by decide) w.1 w.2.1 w.2.2 n
  have e1 : vp_nar .boolean (1 : Int32) = 1 := by rw [nar_b]; decide
  have o8 : ∀ lo hi, 73 ≤ lo ∨ hi ≤ 60 → (4 < lo ∨ hi ≤ 4) → sm lo hi S (wI (bec 2 0 S) 4 0 1) := fun lo hi q1 q2 => sm_tr (bec_sm q1) (sm_wI q2)
  have n' : Nw a (wI (bec 2 0 S) 4 0 1) := Nw_s n (o8 _ _ (by decide) (by decide))
  have sm1 : sm 60 73 (bec 2 0 S) (wI (bec 2 0 S) 4 0 1) := sm_wI (by decide)
  have kp : Kp a (wI (bec 2 0 S) 4 0 1) := ⟨wI_eq, CG_sm (i := 2) sm1 b1, CT_sm (i := 2) sm1 b2, CH_sm (i := 2) sm1 b3⟩
  have sl : sm 99 105 S (wI (bec 2 0 S) 4 0 1) := o8 _ _ (by decide) (by decide)
  refine ⟨wI (bec 2 0 S) 4 0 1, ?_, n', kp, (sl 102 (by decide) (by decide) 0).1.trans la.1, (sl 102 (by decide) (by decide) 1).1.trans la.2.1, (sl 102 (by decide) (by decide) 2).1.trans la.2.2.1, fun j hj => (sl 101 (by decide) (by decide) j).1.trans (la.2.2.2 j hj)⟩
  unfold F_X8_keep
  rw [show (0 : Int32) = zI ((0 : Nat) : Int) from rfl, f8_isPlace ⟨by omega, by omega⟩, bd_some, inZ_y (by omega), ← zN0, t0, n.1.1, if_eq0 (by omega) (by omega), if_neg (by omega), zN0, chk_N (by omega) (by omega), z_tnN (by omega), f6_become (by omega), bd_some, chk_N (by omega) (by omega), nm, e1]
  show some ((wI (bec 2 0 S) 4 0 1).1 (sb 0 + 8) 5, wI (bec 2 0 S) 4 0 1) = _
  rw [n'.2.2.1]
theorem sp1_up {a : AS} {s : Int32} {j : Nat} (h : tb s j = true) : ∀ n, tb (sp1 a s n) j = true
  | 0 => h
  | n + 1 => by
    rw [sp1]
    split
    · rw [tb_or, sp1_up h n]; rfl
    · exact sp1_up h n
theorem spN_up {a : AS} {s : Int32} {j h : Nat} (q : tb (spN a s h) j = true) : tb (spN a s (h + 1)) j = true := by
  rw [spN]
  exact sp1_up q _
theorem sp1_one {a : AS} {f : Nat} (hf : f < 31) : ∀ n, n ≤ 31 → sp1 a ((1 : Int32) <<< (zI f &&& 31)) n = if f < n then ((1 : Int32) <<< (zI f &&& 31)) ||| hb a f 0 else (1 : Int32) <<< (zI f &&& 31)
  | 0, _ => by rw [sp1, if_neg (by omega)]
  | n + 1, h => by
    rw [sp1, tb_one (by omega) (by omega), sp1_one hf n (by omega)]
    by_cases q : n = f
    · rw [decide_eq_true q, if_pos rfl, if_neg (by omega), if_pos (by omega), q]
    · rw [decide_eq_false q, if_neg (by decide)]
      by_cases q2 : f < n
      · rw [if_pos q2, if_pos (by omega)]
      · rw [if_neg q2, if_neg (by omega)]
theorem law_h {a : AS} {S : Sg} (nw : Nw a S) (w : wf a) {Ln : Nat} {xs : Nat → Int32} {p7 p12 p14 p15 : Int32} {t : Nat} (ht : t < 8) : ∀ d h, h + d = 8 → ∀ n, d < n → ∀ last : Int32, (∀ j, tb last j = true → tb (spN a (aN a t) h) j = true) → T_L_law_765 Ln xs S p7 p12 (zI t) p14 p15 n last (zI h) = some (.inl ()) := by
  intro d
  induction d with
  | zero =>
    intro h hh n hn last hl
    obtain ⟨n, rfl⟩ : ∃ k, n = k + 1 := ⟨n - 1, by omega⟩
    simp only [T_L_law_765]
    rw [show (8 : Int32) = zI ((8 : Nat) : Int) from rfl, if_le_t (by omega) (by omega)]
  | succ d ih =>
    intro h hh n hn last hl
    obtain ⟨n, rfl⟩ : ∃ k, n = k + 1 := ⟨n - 1, by omega⟩
    simp only [T_L_law_765]
    rw [show (8 : Int32) = zI ((8 : Nat) : Int) from rfl, if_le_f (by omega) (by omega), m_spread nw w ht (by omega), bd_some, andn0 hl, if_pos rfl, zSu]
    exact ih (h + 1) (by omega) n (by omega) _ (fun j q => spN_up q)
theorem law_z {a : AS} {S : Sg} (nw : Nw a S) (w : wf a) {Ln : Nat} {xs : Nat → Int32} {x t : Nat} {he : Int32} (hx : x < aP a) (ht : t < 8) (hk : ∀ y, y < aP a → y ≠ x → anyB (kns a x y t (hr1 a x y)) (aH a) = tb he y) : ∀ d y, y + d = aP a → ∀ n, d < n → T_L_law_874 Ln xs S (zI (aP a)) (zI x) (zI t) he n (zI y) = some (.inl ()) := by
  have wP := w.1.1
  intro d
  induction d with
  | zero =>
    intro y hy n hn
    obtain ⟨n, rfl⟩ : ∃ k, n = k + 1 := ⟨n - 1, by omega⟩
    simp only [T_L_law_874]
    rw [if_le_t (by omega) (by omega)]
  | succ d ih =>
    intro y hy n hn
    obtain ⟨n, rfl⟩ : ∃ k, n = k + 1 := ⟨n - 1, by omega⟩
    simp only [T_L_law_874]
    rw [if_le_f (by omega) (by omega), zSu]
    by_cases q : y = x
    · rw [if_eqN_t q, bd_some]
      exact ih (y + 1) (by omega) n (by omega)
    · rw [if_eqN_f q (by omega) (by omega), m_kns nw w hx (by omega) (fun e => q e.symm) ht, bd_some, hk y (by omega) q, bit_z (by omega), if_pos rfl, bd_some]
      exact ih (y + 1) (by omega) n (by omega)
theorem dst_cg {a b : AS} (hL : ∀ j, aL b j = aL a j) (r q : Nat) : dst b r q = dst a r q := by
  unfold dst
  rw [aD_cg hL, aD_cg hL]
theorem lou_cg {a b : AS} (hL : ∀ j, aL b j = aL a j) (hK : ∀ j, aK b j = aK a j) (hR : ∀ j, aR b j = aR a j) (v r : Nat) (s : Int32) : ∀ n, lou b v r s n = lou a v r s n
  | 0 => rfl
  | n + 1 => by rw [lou, lou, lou_cg hL hK hR v r s n, hK, hR, dst_cg hL]
theorem hb_cg {a b : AS} (hP : aP b = aP a) (hL : ∀ j, aL b j = aL a j) (hK : ∀ j, aK b j = aK a j) (hR : ∀ j, aR b j = aR a j) (x : Nat) (s : Int32) : hb b x s = hb a x s := by
  unfold hb
  rw [hP]
  refine orU_congr _ (fun j _ => ?_)
  unfold hbP com son
  rw [hK, hK, hR, hR, dst_cg hL]
  dsimp only
  rw [lou_cg hL hK hR, hR, hP]
theorem cnt_pos {p : Nat → Bool} {j : Nat} (h : p j = true) : ∀ n, j < n → 0 < cnt n p
  | 0, q => absurd q (Nat.not_lt_zero _)
  | n + 1, q => by
    rw [cnt]
    by_cases e : j = n
    · rw [← e, if_pos h]; omega
    · have := cnt_pos h n (by omega)
      split <;> omega
theorem lkN_pos {a : AS} {s : Int32} {f : Nat} (h : 0 < cnt (aP a) (lk1 a s (cir a f))) : ∀ n, f < n → 0 < lkN a s n
  | 0, q => absurd q (Nat.not_lt_zero _)
  | n + 1, q => by
    rw [lkN]
    by_cases e : f = n
    · rw [← e]; omega
    · have := lkN_pos h n (by omega)
      omega
theorem share_le : ∀ u, u < 43 → ∀ l, l < 43 → u ≤ l → ¬ (lg_cmp (Int32.toInt64 (zI ((u : Nat) : Int))) (0 : Int64)) < 0 ∧ ¬ 0 < lg_cmp (Int32.toInt64 (zI ((u : Nat) : Int))) (Int32.toInt64 (zI ((l : Nat) : Int))) := by decide +kernel
theorem law_all {a : AS} (w : wf a) (h9 : ∀ j, aL a j ≤ 9) (hH : aH a = 0) (hN : ∀ t, aN a t = 0) (hP2 : 2 ≤ aP a) {Ln : Nat} {xs : Nat → Int32} (hLn : Ln ≤ 260) {S0 S : Sg} (k0 : F_L_talks Ln xs S0 10 6 = some (1, S)) (nw : Nw a S) (la : La a S) : ∃ S', F_L_law Ln xs S0 1 = some (1, S') := by
  have wP := w.1.1
  have wT := w.2.1.1
  have p8 := pow8 wT
  obtain ⟨S1, k1, hI1⟩ := m_keep nw w (by omega) la
  obtain ⟨S2, k2, hI2⟩ := law_x w (Ln := Ln) (xs := xs) hLn (aP a) 0 (by omega) FU (by unfold FU; omega) S1 hI1
  obtain ⟨S3, k3, hI3⟩ := law_k w h9 hH (Ln := Ln) (xs := xs) (p7 := zI (aP a)) (aT a) 0 (by omega) FU (by unfold FU; omega) S2 hI2
  have k2' : T_L_law_88 Ln xs (zI (aP a)) FU (0 : Int32) S1 = some (.inl S2) := k2
  have k3' : T_L_law_393 Ln xs (zI (aP a)) FU (0 : Int32) S2 = some (.inl S3) := k3
  -- most, turns
  obtain ⟨S4, k4, al4⟩ := m_most hI3.1 w
  have hI4 := Iv_al (Iv_al hI3 al4) (al_told S4 (zI (lrg a (2 ^ aT a))))
  obtain ⟨t5, S5, k5, al5, ht5⟩ := m_turns hI4.1 w
  have hI5 := Iv_al hI4 al5
  have hm := lrg_lt (a := a) (2 ^ aT a) p8.1
  have hb5 := m_beside hI5.1 w hm
  rw [lrg_ok] at hb5
  generalize lrg a (2 ^ aT a) = m at k4 k5 ht5 hm hb5 hI4
  have hpcm := pc_le (zI (m : Int))
  unfold F_L_law
  rw [if_neg (show ¬ (1 : Int32) = 0 by decide), k0, bd_some]
  dsimp only
  rw [if_neg (show ¬ (1 : Int32) = 0 by decide), k1, bd_some, hH]
  dsimp only
  rw [if_pos (show zI ((0 : Nat) : Int) = 0 from rfl), zN0, chk_N (by omega) (by omega), z_tnN (by omega), hI1.2.2.1, ← zN0, nm, k2', bd_some]
  dsimp only
  rw [k3', bd_some]
  dsimp only
  rw [k4, bd_some]
  dsimp only
  rw [asked_t, bd_some, k5, bd_some]
  dsimp only
  rw [hb5, bd_some, if_pos (show bI true = 1 by decide), l_size, bd_some, if_pos rfl]
  have q1 : (bd (α := ((Unit) ⊕ (Int32 × Sg))) (if zI (pc (zI (m : Int)) : Int) ≤ 0 then (some (.inl ())) else (if t5 ≤ 0 then (some (.inl ())) else (chk (inB (2 : Int32) 4) (if (t5 * zI (pc (zI (m : Int)) : Int)) < (S5.1 102 (2 : Int32).toNatClampNeg) then (some (.inr ((0 : Int32), S5))) else (some (.inl ())))))) = fun K : ((Unit) ⊕ (Int32 × Sg)) → Option (Int32 × Sg) => K (.inl ())) := by
    funext K
    by_cases c1 : zI (pc (zI (m : Int)) : Int) ≤ 0
    · rw [if_pos c1, bd_some]
    · rw [if_neg c1]
      by_cases c2 : t5 ≤ 0
      · rw [if_pos c2, bd_some]
      · rw [if_neg c2, zN2, chk_N (by omega) (by omega), z_tnN (by omega), hI5.2.2.2.2.1]
        rcases ht5 with rfl | ⟨z, z1, rfl, z3, z4⟩
        · exact absurd (by decide) c2
        · have hzp : z * pc (zI (m : Int)) ≤ 1000 := Nat.le_trans (Nat.mul_le_mul (show z ≤ 100 by omega) hpcm) (by decide)
          rw [z_mul, ← Int.natCast_mul, if_ltZ (by omega) (by omega) (by omega) (by omega), if_neg (by omega), bd_some]
  rw [q1]
  dsimp only
  have q2 : (bd (α := ((Unit) ⊕ (Int32 × Sg))) (if zI (aT a : Int) ≤ 0 then (some (.inl ())) else (if t5 = 0 then (some (.inr ((0 : Int32), S5))) else (some (.inl ())))) = fun K : ((Unit) ⊕ (Int32 × Sg)) → Option (Int32 × Sg) => K (.inl ())) := by
    funext K
    rw [if_le0 (by omega) (by omega)]
    by_cases c1 : (aT a : Int) ≤ 0
    · rw [if_pos c1, bd_some]
    · rw [if_neg c1]
      rcases ht5 with rfl | ⟨z, z1, rfl, z3, z4⟩
      · rw [if_neg (show ¬ (-9 : Int32) = 0 by decide), bd_some]
      · rw [if_neg (z_ne0 (z4 (by omega)) (by omega)), bd_some]
  rw [zN2, chk_N (by omega) (by omega), z_tnN (by omega), hI5.2.2.2.2.1, q2]
  dsimp only
  clear q1 q2 hb5 k5 k4 k3 k2 k3' k2' ht5
  -- one thing
  obtain ⟨v, kv⟩ := l_cell (xs := xs) (S := S5) (j := 40) hLn (by omega)
  obtain ⟨x, hx, kx⟩ := l_some (S := S5) (v := v) (n := aP a) (by omega) (by omega)
  obtain ⟨t, ht, kt⟩ := l_some (S := S5) (v := v >>> ((3 : Int32) &&& 31)) (n := 8) (by omega) (by omega)
  obtain ⟨S6, k6, n6, w6, kp6⟩ := m_comes hI5.1 w hx ht
  have hN6 : aN (cms a x t) t = (1 : Int32) <<< (zI x &&& 31) := by
    show lrn a t ((1 : Int32) <<< (zI x &&& 31)) t = _
    rw [lrn_t, hN, Int32.zero_or]
  have hpc1 : pc ((1 : Int32) <<< (zI x &&& 31)) = 1 := by
    have : ∀ x : Nat, x < 7 → pc ((1 : Int32) <<< (zI ((x : Nat) : Int) &&& 31)) = 1 := by decide +kernel
    exact this x (by omega)
  have hK6 := Kp_s hI5.2.1 kp6
  rw [show (40 : Int32) = zI ((40 : Nat) : Int) from rfl, kv, bd_some, kx, bd_some, show (8 : Int32) = zI ((8 : Nat) : Int) from rfl, kt, bd_some, m_know hI5.1 w ht, hN, bd_some, if_pos rfl, m_tell0 hI5.1 w hx ht (by rw [hN, tb_0]), bd_some]
  dsimp only
  rw [if_pos rfl, k6, hN6, hpc1, bd_some]
  dsimp only
  rw [if_pos (show zI ((1 : Nat) : Int) = 1 from rfl), m_heard n6 w6 hx (sub_0 _) (tb_0 _), bd_some, zN1, m_spread n6 w6 ht (by decide), bd_some, hN6, nm, ← zN1]
  have hH6 : aH (cms a x t) = 0 := hH
  -- spreading
  have kh := law_h n6 w6 (Ln := Ln) (xs := xs) (p7 := zI (aP a)) (p12 := zI x) (p14 := hb (cms a x t) x 0) (p15 := spN (cms a x t) ((1 : Int32) <<< (zI x &&& 31)) 1) ht 8 0 (by decide) FU (by unfold FU; omega) ((1 : Int32) <<< (zI x &&& 31)) (fun j q => by
    rw [hN6]
    exact q)
  have hsp : spN (cms a x t) ((1 : Int32) <<< (zI x &&& 31)) 1 = ((1 : Int32) <<< (zI x &&& 31)) ||| hb (cms a x t) x 0 := by
    show sp1 (cms a x t) ((1 : Int32) <<< (zI x &&& 31)) (aP a) = _
    rw [sp1_one (by omega) _ (by omega), if_pos hx]
  rw [show T_L_law_765 Ln xs S6 (zI (aP a)) (zI x) (zI t) (hb (cms a x t) x 0) (spN (cms a x t) ((1 : Int32) <<< (zI x &&& 31)) 1) FU ((1 : Int32) <<< (zI x &&& 31)) (0 : Int32) = _ from kh, bd_some]
  dsimp only
  -- told
  have h06 : tb (aN (cms a x t) t) x = true := by rw [hN6, tb_one (by omega) (by omega), decide_eq_true rfl]
  obtain ⟨S7, k7, n7, w7, kp7⟩ := m_tell n6 w6 hx ht h06 (by omega)
  have hN7 : aN (tel (cms a x t) x t) t = hb (cms a x t) x 0 ||| ((1 : Int32) <<< (zI x &&& 31)) := by
    rw [tel_N, lrn_t, hN6, Int32.or_comm]
  have hh7 : hb (tel (cms a x t) x t) x 0 = hb (cms a x t) x 0 := hb_cg (a := cms a x t) (b := tel (cms a x t) x t) rfl (fun _ => rfl) (fun _ => rfl) (fun _ => rfl) x 0
  have hc7 : cir (tel (cms a x t) x t) x = hb (cms a x t) x 0 ||| ((1 : Int32) <<< (zI x &&& 31)) := by
    unfold cir
    rw [hh7]
  have hK7 := Kp_s hK6 kp7
  have hs7 := cir_sub w7 (x := x) hx
  rw [hc7] at hs7
  have hx7 : x < aP (tel (cms a x t) x t) := hx
  have hl1 : tb (orU (aP (tel (cms a x t) x t)) (fun y => decide (cir (tel (cms a x t) x t) y = hb (cms a x t) x 0 ||| ((1 : Int32) <<< (zI x &&& 31))))) x = true := by
    have wP7 : aP (tel (cms a x t) x t) ≤ 7 := wP
    rw [tb_orU _ (by omega) _ (by omega), decide_eq_true hx7, hc7, decide_eq_true rfl]
    rfl
  have hl2 : ¬ (orU (aP (tel (cms a x t) x t)) (fun y => decide (cir (tel (cms a x t) x t) y = hb (cms a x t) x 0 ||| ((1 : Int32) <<< (zI x &&& 31)))) >>> (zI x &&& 31)) &&& 1 = 0 := by
    rw [has_f (by omega), hl1]; decide
  have hlk : 0 < lkN (tel (cms a x t) x t) (hb (cms a x t) x 0 ||| ((1 : Int32) <<< (zI x &&& 31))) (aP (tel (cms a x t) x t)) := by
    refine lkN_pos (f := x) (cnt_pos (j := x) ?_ _ hx7) _ hx7
    unfold lk1
    rw [hc7, tb_or, tb_one (by omega) (by omega), decide_eq_true rfl, Bool.or_true, Bool.true_and, decide_eq_true_eq, hh7]
    refine tb_ext fun j _ => ?_
    rw [tb_or, tb_or]
    cases tb (hb (cms a x t) x 0) j <;> cases tb ((1 : Int32) <<< (zI x &&& 31)) j <;> rfl
  have hlk2 : lkN (tel (cms a x t) x t) (hb (cms a x t) x 0 ||| ((1 : Int32) <<< (zI x &&& 31))) (aP (tel (cms a x t) x t)) ≤ 49 := Nat.le_trans (lkN_le w7.1 _) (show 7 * aP a ≤ 49 by omega)
  have hlk3 : (1 : Int32) ≤ zI (lkN (tel (cms a x t) x t) (hb (cms a x t) x 0 ||| ((1 : Int32) <<< (zI x &&& 31))) (aP (tel (cms a x t) x t)) : Int) := z_yle (m := 1) hlk (by omega)
  rw [k7, bd_some, hN7]
  dsimp only
  rw [if_pos rfl, hsp, if_pos (Int32.or_comm _ _), m_leak n7 w7 hs7, bd_some, if_neg (shr_ne (by omega) hl1), bd_some, if_neg hl2, m_leaks n7 w7 hs7, bd_some, if_pos hlk3]
  -- who knows that who knows
  have hH7 : aH (tel (cms a x t) x t) = 1 := by
    show aH (cms a x t) + 1 = 1
    rw [hH6]
  have hk7 : ∀ y, y < aP (tel (cms a x t) x t) → y ≠ x → anyB (kns (tel (cms a x t) x t) x y t (hr1 (tel (cms a x t) x t) x y)) (aH (tel (cms a x t) x t)) = tb (hb (cms a x t) x 0) y := by
    intro y hy hyx
    rw [hH7]
    show (false || kns (tel (cms a x t) x t) x y t (hr1 (tel (cms a x t) x t) x y) 0) = _
    unfold kns sho
    rw [tel_X, tel_Y, tel_Z, hH6, if_pos rfl, if_pos rfl, if_pos rfl, hb_f w6.1 hx, decide_eq_true rfl, decide_eq_true rfl, decide_eq_false (fun e => hyx e.symm)]
    cases tb (hb (cms a x t) x 0) y <;> rfl
  have kz := law_z n7 w7 (Ln := Ln) (xs := xs) (he := hb (cms a x t) x 0) hx7 ht hk7 (aP a) 0 (show 0 + aP a = aP a by omega) FU (by unfold FU; omega)
  rw [show T_L_law_874 Ln xs S7 (zI (aP a)) (zI x) (zI t) (hb (cms a x t) x 0) FU (0 : Int32) = _ from kz, bd_some]
  dsimp only
  -- undone
  obtain ⟨S8, k8, n8, w8, kp8⟩ := m_undo n7 w7 (n := 0) (by omega)
  have hN8 : aN (und (tel (cms a x t) x t) 0) t = (1 : Int32) <<< (zI x &&& 31) := by
    show aA (tel (cms a x t) x t) 0 t = _
    rw [tel_A, hH6, if_pos rfl, hN6]
  have k8' : F_X8_undo S7 (0 : Int32) = some (1, S8) := by
    rw [show F_X8_undo S7 (0 : Int32) = _ from k8, hH7]
    rfl
  rw [k8', bd_some]
  dsimp only
  rw [if_pos rfl, m_know n8 w8 ht, bd_some, hN8, if_pos rfl]
  obtain ⟨S9, k9, n9, s9, s9'⟩ := m_on (Kp_s hK7 kp8) w
  rw [k9, bd_some, hH]
  dsimp only
  obtain ⟨u, l, u1, u2, u3, u4⟩ := m_share n9 w hP2
  have hsh := share_le u (by omega) l (by omega) u1
  rw [if_pos (show zI ((0 : Nat) : Int) = 0 from rfl), m_know n9 w ht, bd_some, hN, if_pos rfl, u3, bd_some, if_neg hsh.1, bd_some, u4, bd_some, if_neg hsh.2]
  exact ⟨S9, rfl⟩
