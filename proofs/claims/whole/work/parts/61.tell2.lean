/-! ===== told, and who knows that one knows ===== -/
theorem s_tell : st_tell R := by
  intro σ μ a1 a2 h
  obtain ⟨x, hx1, hx2, rfl⟩ := arg a1
  obtain ⟨y, hy1, hy2, rfl⟩ := arg a2
  obtain ⟨a, ⟨wg, wt, wh⟩, ⟨cg, ct, ch⟩, ⟨mg, mt, mh⟩⟩ := h.1
  have wP := wg.1
  have wH := wh.1
  unfold F_X8_tell F_X9_tell
  rw [f8_isOne cg wg ⟨hx1, hx2⟩, f9_isOne mg wg ⟨hx1, hx2⟩, bd_some, bd_some]
  cases e : inZ 0 (aP a - 1) x
  · exact ⟨-1, σ, μ, rfl, rfl, h⟩
  rw [t0, t0, f8_isThing ⟨hy1, hy2⟩, f9_isThing ⟨hy1, hy2⟩, bd_some, bd_some]
  cases e1 : inZ 0 7 y
  · exact ⟨-1, σ, μ, rfl, rfl, h⟩
  obtain ⟨f, rfl, hf'⟩ := inZ_n e
  obtain ⟨t, rfl, ht'⟩ := inZ_n e1
  have hf : f < aP a := by omega
  have ht : t < 8 := by omega
  have e34 : sb 0 = 34 := rfl
  have ct8 : ∀ {α : Type} (K : Option α), chk (inB (zI t) 8) K = K := fun K => chk_N (by omega) (by omega)
  simp only [ct8]
  rw [t0, t0, f1_who ch.2.2.2.2.2 ht (sub_mono (by omega) (wh.2.2.1 t)), bd_some, z_tnN (by omega), mh.2.1 t ht, has_if (by omega), f_has (by omega), bd_some, bI_z]
  cases e2 : tb (aN a t) f
  · exact ⟨-4, σ, μ, rfl, rfl, h⟩
  simp only [if_true]
  rw [ch.1, mh.1, show (40 : Int32) = zI ((40 : Nat) : Int) from rfl, if_ltZ (by omega) (by omega) (by decide) (by decide), if_eqZ (by omega) (by omega) (by decide) (by decide)]
  by_cases q : aH a = 40
  · rw [if_neg (by omega), if_pos (by omega)]
    exact ⟨-2, σ, μ, rfl, rfl, h⟩
  rw [if_pos (by omega), if_neg (by omega)]
  let H := aH a
  have hH : H < 40 := by show aH a < 40; omega
  let s := hb a f 0
  have hs : sub (aP a) s := hb_sub wg
  have hs8 : sub 8 s := sub_mono (by omega) hs
  have hl := fun k => lrn_sub (t := t) (s := s) wh.2.2.1 hs k
  let x8 := σ.2 (sb 0 + 8) 4
  let x8' := x8 ||| lshl (Int32.toInt64 s) ((8 : Int32) * zI t)
  have pk' : pk x8' (lrn a t s) := pk_learn ch.2.2.2.2.2 ht hs8
  let σ' := wL (wI (wL (wI (wI (wI σ (sb 0 + 9) H (zI f)) (sb 0 + 10) H (zI t)) (sb 0 + 11) H s) (sb 0 + 12) H x8) (sb 0 + 8) 5 (zI ((H + 1 : Nat) : Int))) (sb 0 + 8) 4 x8'
  have k8 : F_X1_add 0 σ (zI f) (zI t) s = some σ' := by
    rw [F_X1_add]
    have hb5 : σ.1 (sb 0 + 8) 5 = zI H := ch.1
    simp (disch := omega) only [nm, hb5, chk_N, z_tnN, wI_ne, wI_2, wL_1]
    rw [zS]
    rw [F_X1_learn, nm, bd_some, wI_2, wL_2, if_neg (by omega)]
    rfl
  let a' : AS := (fun c => if c = 6 then (fun k => if k = H then f else aX a k) else if c = 7 then (fun k => if k = H then t else aY a k) else if c = 0 then (fun k => if k = 3 then H + 1 else a.1 0 k) else a.1 c, fun c => if c = 1 then (fun k => if k = H then s else aZ a k) else if c = 2 then lrn a t s else if c = H + 3 then aN a else a.2 c)
  have X' : ∀ k, aX a' k = if k = H then f else aX a k := fun _ => rfl
  have Y' : ∀ k, aY a' k = if k = H then t else aY a k := fun _ => rfl
  have Z' : ∀ k, aZ a' k = if k = H then s else aZ a k := fun _ => rfl
  have N' : ∀ k, aN a' k = lrn a t s k := fun _ => rfl
  have A' : ∀ h, aA a' h = if h = H then aN a else aA a h := fun h => by
    show (if 3 + h = 1 then _ else if 3 + h = 2 then _ else if 3 + h = H + 3 then aN a else a.2 (3 + h)) = _
    rw [if_neg (by omega), if_neg (by omega)]
    by_cases q : h = H
    · rw [if_pos q, if_pos (by omega)]
    · rw [if_neg q, if_neg (by omega)]; rfl
  have wh' : WH a' := ⟨by show H + 1 ≤ 40; omega, fun k hk => by
    have hk : k < H + 1 := hk
    rw [X', Y', Z', A']
    by_cases q : k = H
    · rw [if_pos q, if_pos q, if_pos q, if_pos q]
      exact ⟨hf, ht, hs, wh.2.2.1⟩
    · rw [if_neg q, if_neg q, if_neg q, if_neg q]
      exact wh.2.1 k (by show k < H; omega), hl, wh.2.2.2⟩
  have hv : σ'.2 (sb 0 + 8) 4 = x8' := by
    show (wL _ _ _ _).2 _ _ = _
    rw [wL_2, if_pos rfl, if_pos rfl]
  have o8 : ∀ c k, c ≠ 43 → c ≠ 44 → c ≠ 45 → (c ≠ 42 ∨ k ≠ 5) → σ'.1 c k = σ.1 c k := fun c k q1 q2 q3 q4 => by
    show (wL (wI (wL _ _ _ _) _ _ _) _ _ _).1 c k = _
    rw [wL_1, wI_ne (by omega), wL_1, wI_ne (by omega), wI_ne (by omega), wI_ne (by omega)]
  have ch' : CH 0 σ' a' := by
    refine ⟨?_, fun k hk => ?_, fun k hk => ?_, fun k hk => ?_, fun k hk => ?_, by rw [hv]; exact pk'⟩
    · show (wL (wI (wL _ _ _ _) _ _ _) _ _ _).1 _ 5 = _
      rw [wL_1, wI_eq]; rfl
    · have hk : k < H + 1 := hk
      show (wL (wI (wL _ _ _ _) _ _ _) _ _ _).1 _ k = _
      rw [X', wL_1, wI_ne (by omega), wL_1, wI_ne (by omega), wI_ne (by omega), wI_1, if_pos rfl]
      by_cases q : k = H
      · rw [if_pos q, if_pos q]
      · rw [if_neg q, if_neg q]; exact ch.2.1 k (by show k < H; omega)
    · have hk : k < H + 1 := hk
      show (wL (wI (wL _ _ _ _) _ _ _) _ _ _).1 _ k = _
      rw [Y', wL_1, wI_ne (by omega), wL_1, wI_ne (by omega), wI_1, if_pos rfl]
      by_cases q : k = H
      · rw [if_pos q, if_pos q]
      · rw [if_neg q, if_neg q, wI_ne (by omega)]; exact ch.2.2.1 k (by show k < H; omega)
    · have hk : k < H + 1 := hk
      show (wL (wI (wL _ _ _ _) _ _ _) _ _ _).1 _ k = _
      rw [Z', wL_1, wI_ne (by omega), wL_1, wI_1, if_pos rfl]
      by_cases q : k = H
      · rw [if_pos q, if_pos q]
      · rw [if_neg q, if_neg q, wI_ne (by omega), wI_ne (by omega)]; exact ch.2.2.2.1 k (by show k < H; omega)
    · have hk : k < H + 1 := hk
      show pk ((wL (wI (wL _ _ _ _) _ _ _) _ _ _).2 _ k) _
      rw [A', wL_2, if_neg (by omega), wI_2, wL_2, if_pos rfl]
      by_cases q : k = H
      · rw [if_pos q, if_pos q]; exact ch.2.2.2.2.2
      · rw [if_neg q, if_neg q]; exact ch.2.2.2.2.1 k (by show k < H; omega)
  have sm8 : ∀ lo hi, 47 ≤ lo ∨ hi ≤ 42 → sm lo hi σ σ' := fun lo hi q => sm_tr (sm_tr (sm_tr (sm_tr (sm_tr (sm_wI (by omega)) (sm_wI (by omega))) (sm_wI (by omega))) (sm_wL (by omega))) (sm_wI (by omega))) (sm_wL (by omega))
  let μ1 := wr 13 (8 * H) (fun j => aN a j) μ 8
  let μ' := wI (wI (wI (wI (wI μ1 10 H (zI f)) 11 H (zI t)) 12 H s) 9 t (lrn a t s t)) 0 16 (zI ((H + 1 : Nat) : Int))
  have k9 : T_X9_tell_47 (zI f) (zI t) FU 0 μ = some μ1 := by
    refine loopE (fun m x => T_X9_tell_47 (zI f) (zI t) m (zI x) (wr 13 (8 * H) (fun j => aN a j) μ x)) 8 (some μ1) (by omega) (fun m => ?_) (fun m x hx => ?_)
    · simp only [T_X9_tell_47]
      rw [show (8 : Int32) = zI ((8 : Nat) : Int) from rfl, if_le_t (by omega) (by omega)]
    · simp only [T_X9_tell_47]
      rw [wr_n (c := 0) (.inl (by decide)), mh.1, show zI (aH a) = zI H from rfl, zMA (m := 8) (c := 8) rfl, show (8 : Int32) = zI ((8 : Nat) : Int) from rfl, if_le_f hx (by omega), chk_N (by omega) (by omega), chk_N (by omega) (by omega), z_tnN (by omega), z_tnN (by omega), wr_n (.inl (by decide)), mh.2.1 x hx, nm, zS, wr]
  have o1 : ∀ c k, c ≠ 13 → μ1.1 c k = μ.1 c k := fun c k q => wr_n (.inl q)
  have mg1 : MG μ1 a := MG_k (fun c k q => o1 _ _ (by omega)) mg
  have o9 : ∀ c k, c ≠ 13 → c ≠ 10 → c ≠ 11 → c ≠ 12 → c ≠ 9 → (c ≠ 0 ∨ k ≠ 16) → μ'.1 c k = μ.1 c k := fun c k q1 q2 q3 q4 q5 q6 => by
    show (wI (wI (wI (wI (wI _ _ _ _) _ _ _) _ _ _) _ _ _) _ _ _).1 c k = _
    rw [wI_ne (by omega), wI_ne (by omega), wI_ne (by omega), wI_ne (by omega), wI_ne (by omega), o1 _ _ q1]
  have mh' : MH μ' a' := by
    refine ⟨?_, fun k hk => ?_, fun k hk => ?_, fun k hk => ?_, fun k hk => ?_, fun k u hk hu => ?_⟩
    · show (wI (wI (wI (wI (wI _ _ _ _) _ _ _) _ _ _) _ _ _) _ _ _).1 0 16 = _
      rw [wI_eq]; rfl
    · show (wI (wI (wI (wI (wI _ _ _ _) _ _ _) _ _ _) _ _ _) _ _ _).1 9 k = _
      rw [N', wI_ne (by omega), wI_1, if_pos rfl]
      by_cases q : k = t
      · rw [if_pos q, q]
      · rw [if_neg q, lrn_o q, wI_ne (by omega), wI_ne (by omega), wI_ne (by omega), o1 _ _ (by decide), mh.2.1 k hk]
    · have hk : k < H + 1 := hk
      show (wI (wI (wI (wI (wI _ _ _ _) _ _ _) _ _ _) _ _ _) _ _ _).1 10 k = _
      rw [X', wI_ne (by omega), wI_ne (by omega), wI_ne (by omega), wI_ne (by omega), wI_1, if_pos rfl]
      by_cases q : k = H
      · rw [if_pos q, if_pos q]
      · rw [if_neg q, if_neg q, o1 _ _ (by decide)]; exact mh.2.2.1 k (by show k < H; omega)
    · have hk : k < H + 1 := hk
      show (wI (wI (wI (wI (wI _ _ _ _) _ _ _) _ _ _) _ _ _) _ _ _).1 11 k = _
      rw [Y', wI_ne (by omega), wI_ne (by omega), wI_ne (by omega), wI_1, if_pos rfl]
      by_cases q : k = H
      · rw [if_pos q, if_pos q]
      · rw [if_neg q, if_neg q, wI_ne (by omega), o1 _ _ (by decide)]; exact mh.2.2.2.1 k (by show k < H; omega)
    · have hk : k < H + 1 := hk
      show (wI (wI (wI (wI (wI _ _ _ _) _ _ _) _ _ _) _ _ _) _ _ _).1 12 k = _
      rw [Z', wI_ne (by omega), wI_ne (by omega), wI_1, if_pos rfl]
      by_cases q : k = H
      · rw [if_pos q, if_pos q]
      · rw [if_neg q, if_neg q, wI_ne (by omega), wI_ne (by omega), o1 _ _ (by decide)]; exact mh.2.2.2.2.1 k (by show k < H; omega)
    · have hk : k < H + 1 := hk
      show (wI (wI (wI (wI (wI _ _ _ _) _ _ _) _ _ _) _ _ _) _ _ _).1 13 _ = _
      rw [A', wI_ne (by omega), wI_ne (by omega), wI_ne (by omega), wI_ne (by omega), wI_ne (by omega)]
      show (wr 13 (8 * H) (fun j => aN a j) μ 8).1 13 _ = _
      by_cases q : k = H
      · rw [if_pos q, q, wr_e hu]
      · rw [if_neg q, wr_n (by omega)]; exact mh.2.2.2.2.2 k u (by show k < H; omega) hu
  rw [f6_who cg wg hf, bd_some, k8, bd_some, f1_who (f := lrn a t s) (by rw [hv]; exact pk') ht (sub_mono (by omega) (hl t)), bd_some, k9, bd_some]
  refine ⟨lrn a t s t, σ', μ', rfl, ?_, ?_⟩
  · have m16 : μ1.1 0 16 = zI H := (o1 _ _ (by decide)).trans mh.1
    have mg2 : MG (wI (wI μ1 10 H (zI f)) 11 H (zI t)) a := MG_k (fun c k q => by rw [wI_ne (by omega), wI_ne (by omega)]) mg1
    have m9 : μ1.1 9 t = aN a t := (o1 _ _ (by decide)).trans (mh.2.1 t ht)
    rw [m16, chk_N (by omega) (by omega), z_tnN (by omega)]
    simp (disch := omega) only [nm, wI_ne, m16, chk_N, z_tnN, wI_eq]
    rw [f9_who mg2 wg hf, bd_some]
    simp (disch := omega) only [wI_ne, m16, chk_N, z_tnN, wI_eq, m9]
    rw [zS, lrn_t]
    show some (aN a t ||| s, wI (wI (wI (wI (wI μ1 10 H (zI f)) 11 H (zI t)) 12 H s) 9 t (aN a t ||| s)) 0 16 _) = some (_, wI (wI (wI (wI (wI μ1 10 H (zI f)) 11 H (zI t)) 12 H s) 9 t (lrn a t s t)) 0 16 _)
    rw [lrn_t]
  · exact R_new h ⟨a', ⟨wg, wt, wh'⟩, ⟨CG_k (fun c k q => o8 _ _ (by omega) (by omega) (by omega) (by omega)) (CG_a (a := a) rfl rfl (fun _ => rfl) (fun _ => rfl) (fun _ => rfl) cg), CT_k (fun c k q => o8 _ _ (by omega) (by omega) (by omega) (by omega)) ct, ch'⟩, ⟨MG_k (fun c k q => o9 _ _ (by omega) (by omega) (by omega) (by omega) (by omega) (by omega)) mg, MT_k (fun c k q => o9 _ _ (by omega) (by omega) (by omega) (by omega) (by omega) (by omega)) mt, mh'⟩⟩ (sm8 _ _ (by decide)) (sm8 _ _ (by decide)) ⟨fun k hk => o9 _ _ (by decide) (by decide) (by decide) (by decide) (by decide) (by omega), fun c hc k => o9 _ _ (by omega) (by omega) (by omega) (by omega) (by omega) (by omega)⟩
