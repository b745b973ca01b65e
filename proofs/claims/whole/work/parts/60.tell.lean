/-! ===== what is told ===== -/
theorem zSB {S : Sg} {a : AS} (h : S.1 0 7 = zI (aP a)) : S.1 0 7 = zI (aP a) := h
def lrn (a : AS) (t : Nat) (s : Int32) : Nat → Int32 := fun k => if k = t then aN a t ||| s else aN a k
theorem lrn_t {a : AS} {t : Nat} {s : Int32} : lrn a t s t = aN a t ||| s := if_pos rfl
theorem lrn_o {a : AS} {t k : Nat} {s : Int32} (h : k ≠ t) : lrn a t s k = aN a k := if_neg h
theorem lrn_sub {a : AS} {n t : Nat} {s : Int32} (h : ∀ t, sub n (aN a t)) (hs : sub n s) (k : Nat) : sub n (lrn a t s k) := by
  by_cases e : k = t
  · rw [e, lrn_t]; exact sub_or (h t) hs
  · rw [lrn_o e]; exact h k
theorem s_know : st_know R := by
  intro σ μ a1 h
  obtain ⟨x, hx1, hx2, rfl⟩ := arg a1
  obtain ⟨a, ⟨wg, wt, wh⟩, ⟨cg, ct, ch⟩, ⟨mg, mt, mh⟩⟩ := h.1
  have wP := wg.1
  unfold F_X8_know F_X9_know
  rw [f8_isThing ⟨hx1, hx2⟩, f9_isThing ⟨hx1, hx2⟩, bd_some, bd_some]
  cases e : inZ 0 7 x
  · exact ⟨-1, rfl, rfl⟩
  obtain ⟨t, rfl, ht⟩ := inZ_n e
  rw [t0, t0, f1_who ch.2.2.2.2.2 (by omega) (sub_mono (by omega) (wh.2.2.1 t)), chk_N (by omega) (by omega), z_tnN (by omega), mh.2.1 t (by omega)]
  exact ⟨_, rfl, rfl⟩
theorem s_comes : st_comes R := by
  intro σ μ a1 a2 h
  obtain ⟨x, hx1, hx2, rfl⟩ := arg a1
  obtain ⟨y, hy1, hy2, rfl⟩ := arg a2
  obtain ⟨a, ⟨wg, wt, wh⟩, ⟨cg, ct, ch⟩, ⟨mg, mt, mh⟩⟩ := h.1
  have wP := wg.1
  unfold F_X8_comes F_X9_comes
  rw [f8_isOne cg wg ⟨hx1, hx2⟩, f9_isOne mg wg ⟨hx1, hx2⟩, bd_some, bd_some]
  cases e : inZ 0 (aP a - 1) x
  · exact ⟨-1, σ, μ, rfl, rfl, h⟩
  rw [t0, t0, f8_isThing ⟨hy1, hy2⟩, f9_isThing ⟨hy1, hy2⟩, bd_some, bd_some]
  cases e1 : inZ 0 7 y
  · exact ⟨-1, σ, μ, rfl, rfl, h⟩
  obtain ⟨f, rfl, hf'⟩ := inZ_n e
  obtain ⟨t, rfl, ht'⟩ := inZ_n e1
  have hf : f < aP a := by omega
  have ht : t < 8 := by omega
  have e34 : sb 0 = 34 := rfl
  have hb1 := sub_one (n := aP a) hf (by omega)
  let s : Int32 := (1 : Int32) <<< (zI f &&& 31)
  let a' := setS a 2 (lrn a t s)
  have N' : ∀ k, aN a' k = lrn a t s k := fun _ => rfl
  have A' : ∀ h, aA a' h = aA a h := fun h => if_neg (by omega)
  have hl := fun k => lrn_sub (t := t) (s := s) wh.2.2.1 hb1 k
  have wh' : WH a' := ⟨wh.1, fun h hh => by rw [A']; exact wh.2.1 h hh, hl, wh.2.2.2⟩
  have hv : (wL σ (sb 0 + 8) 4 (σ.2 (sb 0 + 8) 4 ||| lshl (Int32.toInt64 s) ((8 : Int32) * zI t))).2 (sb 0 + 8) 4 = σ.2 (sb 0 + 8) 4 ||| lshl (Int32.toInt64 s) ((8 : Int32) * zI t) := by rw [wL_2, if_pos rfl, if_pos rfl]
  have pk' : pk (σ.2 (sb 0 + 8) 4 ||| lshl (Int32.toInt64 s) ((8 : Int32) * zI t)) (lrn a t s) := pk_learn ch.2.2.2.2.2 ht (sub_mono (by omega) hb1)
  have ch' : CH 0 (wL σ (sb 0 + 8) 4 (σ.2 (sb 0 + 8) 4 ||| lshl (Int32.toInt64 s) ((8 : Int32) * zI t))) a' := ⟨ch.1, ch.2.1, ch.2.2.1, ch.2.2.2.1, fun h hh => by rw [A', wL_2, if_neg (by omega)]; exact ch.2.2.2.2.1 h hh, by rw [hv]; exact pk'⟩
  have mh' : MH (wI μ 9 t (lrn a t s t)) a' := ⟨(wI_ne (by omega)).trans mh.1, fun k hk => by
    rw [N', wI_1, if_pos rfl]
    by_cases q : k = t
    · rw [if_pos q, q]
    · rw [if_neg q, lrn_o q, mh.2.1 k hk], fun k hk => (wI_ne (by omega)).trans (mh.2.2.1 k hk), fun k hk => (wI_ne (by omega)).trans (mh.2.2.2.1 k hk), fun k hk => (wI_ne (by omega)).trans (mh.2.2.2.2.1 k hk), fun k u hk hu => by rw [A', wI_ne (by omega)]; exact mh.2.2.2.2.2 k u hk hu⟩
  rw [t0, t0, chk_N (by omega) (by omega), chk_N (by omega) (by omega), z_tnN (by omega), mh.2.1 t ht, nm, chk_N (by omega) (by omega), wI_eq, f_ones (s := aN a t ||| (1 : Int32) <<< (zI f &&& 31)) (by have := hl t; rw [lrn_t] at this; exact sub_mono (by omega) this), bd_some]
  refine ⟨zI (pc (lrn a t s t)), wL σ (sb 0 + 8) 4 (σ.2 (sb 0 + 8) 4 ||| lshl (Int32.toInt64 s) ((8 : Int32) * zI t)), wI μ 9 t (lrn a t s t), ?_, ?_, ?_⟩
  · rw [show F_X1_learn 0 σ (zI t) ((1 : Int32) <<< (zI f &&& 31)) = some (wL σ (sb 0 + 8) 4 (σ.2 (sb 0 + 8) 4 ||| lshl (Int32.toInt64 s) ((8 : Int32) * zI t))) from rfl, bd_some, f1_who (f := lrn a t s) (by rw [hv]; exact pk') ht (sub_mono (by omega) (hl t)), bd_some, f_bc (sub_mono (by omega) (hl t)), bd_some]
  · rw [lrn_t]
  · exact R_new h ⟨a', ⟨wg, wt, wh'⟩, ⟨CG_a (a := a) rfl rfl (fun _ => rfl) (fun _ => rfl) (fun _ => rfl) cg, ct, ch'⟩, ⟨MG_k (fun c n q => wI_ne (by omega)) mg, MT_k (fun c n q => wI_ne (by omega)) mt, mh'⟩⟩ (sm_wL (by decide)) (sm_wL (by decide)) ⟨fun n _ => wI_ne (.inl (by decide)), fun c hc n => wI_ne (by omega)⟩
theorem s_undo : st_undo R := by
  intro σ μ a1 h
  obtain ⟨x, hx1, hx2, rfl⟩ := arg a1
  obtain ⟨a, ⟨wg, wt, wh⟩, ⟨cg, ct, ch⟩, ⟨mg, mt, mh⟩⟩ := h.1
  have wH := wh.1
  unfold F_X8_undo F_X9_undo
  simp only [nm]
  rw [ch.1, mh.1, f_inN (n := aH a) ⟨hx1, hx2⟩ (by omega) rfl, bd_some, if_lt0 hx1 hx2, if_leZ hx1 hx2 (by omega) (by omega)]
  cases e : inZ 0 (aH a) x
  · refine ⟨-1, σ, μ, ?_, rfl, h⟩
    rcases inZ_f e with e | e
    · rw [if_pos e]
    · rw [if_neg (c := x ≤ aH a) (by omega), ite_self]
  obtain ⟨n, rfl, hn⟩ := inZ_n e
  have e34 : sb 0 = 34 := rfl
  rw [if_neg (by omega), if_pos (by omega), t0, z_sub]
  by_cases q : aH a ≤ n
  · have hN : n = aH a := by omega
    have k8 : F_X1_backTo 0 σ (zI n) = some σ := by rw [F_X1_backTo, ch.1, if_le_t q (by omega)]
    have k9 : T_X9_undo_25 (zI n) (zI ((aH a : Int) - n)) FU 0 μ = some μ := by
      refine loop0 (fun m x => T_X9_undo_25 (zI n) (zI ((aH a : Int) - n)) m (zI x) μ) 8 (some μ) (by omega) (fun m x hx => .inl ?_)
      simp only [T_X9_undo_25]
      rw [if_le0 (by omega) (by omega), if_pos (c := (aH a : Int) - n ≤ 0) (by omega), ite_self]
    rw [k8, k9, bd_some, bd_some]
    refine ⟨_, _, _, rfl, rfl, R_new h ⟨a, ⟨wg, wt, wh⟩, ⟨cg, ct, ch⟩, ⟨MG_k (fun c n q => wI_ne (by omega)) mg, MT_k (fun c n q => wI_ne (by omega)) mt, ⟨by rw [wI_eq, hN], fun k hk => (wI_ne (by omega)).trans (mh.2.1 k hk), fun k hk => (wI_ne (by omega)).trans (mh.2.2.1 k hk), fun k hk => (wI_ne (by omega)).trans (mh.2.2.2.1 k hk), fun k hk => (wI_ne (by omega)).trans (mh.2.2.2.2.1 k hk), fun k t hk ht => (wI_ne (by omega)).trans (mh.2.2.2.2.2 k t hk ht)⟩⟩⟩ (sm_rfl _ _ _) (sm_rfl _ _ _) ⟨fun n hn => wI_ne (by omega), fun c hc n => wI_ne (by omega)⟩⟩
  · have hN : n < aH a := by omega
    let a' := setS (setN a 0 (fun k => if k = 3 then n else a.1 0 k)) 2 (aA a n)
    have A' : ∀ h, aA a' h = aA a h := fun h => if_neg (by omega)
    have wh' : WH a' := ⟨by show n ≤ 40; omega, fun h hh => by rw [A']; exact wh.2.1 h (by have hh : h < n := hh; omega), (wh.2.1 n hN).2.2.2, wh.2.2.2⟩
    have k8 : F_X1_backTo 0 σ (zI n) = some (wI (wL σ (sb 0 + 8) 4 (σ.2 (sb 0 + 12) n)) (sb 0 + 8) 5 (zI n)) := by
      rw [F_X1_backTo, ch.1, if_le_f hN (by omega), chk_N (by omega) (by omega), z_tnN (by omega), nm, nm]
    have k9 : T_X9_undo_25 (zI n) (zI ((aH a : Int) - n)) FU 0 μ = some (wr 9 0 (aA a n) μ 8) := by
      refine loopE (fun m x => T_X9_undo_25 (zI n) (zI ((aH a : Int) - n)) m (zI x) (wr 9 0 (aA a n) μ x)) 8 (some (wr 9 0 (aA a n) μ 8)) (by omega) (fun m => ?_) (fun m x hx => ?_)
      · simp only [T_X9_undo_25]
        rw [show (8 : Int32) = zI ((8 : Nat) : Int) from rfl, if_le_t (by omega) (by omega)]
      · simp only [T_X9_undo_25]
        rw [zMA (m := 8) (c := 8) rfl, show (8 : Int32) = zI ((8 : Nat) : Int) from rfl, if_le_f hx (by omega), if_le0 (by omega) (by omega), if_neg (by omega), chk_N (by omega) (by omega), chk_N (by omega) (by omega), z_tnN (by omega), z_tnN (by omega), wr_n (.inl (by decide)), mh.2.2.2.2.2 n x hN hx, nm, zS, wr, Nat.zero_add]
    rw [k8, k9, bd_some, bd_some]
    have o9 : ∀ c k, c ≠ 9 → (c ≠ 0 ∨ k ≠ 16) → (wI (wr 9 0 (aA a n) μ 8) 0 16 (zI n)).1 c k = μ.1 c k := fun c k q1 q2 => (wI_ne q2).trans (wr_n (.inl q1))
    have mh' : MH (wI (wr 9 0 (aA a n) μ 8) 0 16 (zI n)) a' := ⟨wI_eq, fun k hk => by rw [wI_ne (by omega), wr_e0 hk]; rfl, fun k hk => (o9 _ _ (by omega) (by omega)).trans (mh.2.2.1 k (by have hk : k < n := hk; omega)), fun k hk => (o9 _ _ (by omega) (by omega)).trans (mh.2.2.2.1 k (by have hk : k < n := hk; omega)), fun k hk => (o9 _ _ (by omega) (by omega)).trans (mh.2.2.2.2.1 k (by have hk : k < n := hk; omega)), fun k t hk ht => by rw [A', o9 _ _ (by omega) (by omega)]; exact mh.2.2.2.2.2 k t (by have hk : k < n := hk; omega) ht⟩
    have ch' : CH 0 (wI (wL σ (sb 0 + 8) 4 (σ.2 (sb 0 + 12) n)) (sb 0 + 8) 5 (zI n)) a' := ⟨wI_eq, fun k hk => (wI_ne (by omega)).trans (ch.2.1 k (by have hk : k < n := hk; omega)), fun k hk => (wI_ne (by omega)).trans (ch.2.2.1 k (by have hk : k < n := hk; omega)), fun k hk => (wI_ne (by omega)).trans (ch.2.2.2.1 k (by have hk : k < n := hk; omega)), fun k hk => by rw [A', wI_2, wL_2, if_neg (by omega)]; exact ch.2.2.2.2.1 k (by have hk : k < n := hk; omega), by rw [wI_2, wL_2, if_pos rfl, if_pos rfl]; exact ch.2.2.2.2.1 n hN⟩
    have sm8 : ∀ lo hi, 43 ≤ lo ∨ hi ≤ 42 → sm lo hi σ (wI (wL σ (sb 0 + 8) 4 (σ.2 (sb 0 + 12) n)) (sb 0 + 8) 5 (zI n)) := fun lo hi q => sm_tr (sm_wL (by omega)) (sm_wI (by omega))
    exact ⟨_, _, _, rfl, rfl, R_new h ⟨a', ⟨wg, wt, wh'⟩, ⟨CG_k (fun c k q => sm8 34 42 (by decide) _ (by omega) (by omega) _ |>.1) (CG_a (a := a) rfl rfl (fun _ => rfl) (fun _ => rfl) (fun _ => rfl) cg), CT_k (fun c k q => sm8 34 42 (by decide) _ (by omega) (by omega) _ |>.1) ct, ch'⟩, ⟨MG_k (fun c k q => o9 _ _ (by omega) (by omega)) mg, MT_k (fun c k q => o9 _ _ (by omega) (by omega)) mt, mh'⟩⟩ (sm8 _ _ (by decide)) (sm8 _ _ (by decide)) ⟨fun k hk => o9 _ _ (by decide) (by omega), fun c hc k => o9 _ _ (by omega) (by omega)⟩⟩
