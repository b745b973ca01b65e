/-! ===== the law builds its street ===== -/
theorem sm_o {lo hi c n : Nat} {S S' : Sg} (h : sm lo hi S S') (h1 : lo ≤ c) (h2 : c < hi) : S'.1 c n = S.1 c n := (h c h1 h2 n).1
def rg (m : Nat) (S : Sg) : Prop := ∀ j, j < m → ∃ z : Nat, z < 128 ∧ S.1 104 j = zI z
theorem b86 {Ln : Nat} {xs : Nat → Int32} {p2 p9 p10 p12 : Int32} {S : Sg} : T_L_build_86 Ln xs p2 p9 p10 p12 FU 0 S = some (wr 101 0 (fun _ => 0) S 6) := by
  refine loopE (fun n x => T_L_build_86 Ln xs p2 p9 p10 p12 n (zI x) (wr 101 0 (fun _ => 0) S x)) 6 _ (by decide) (fun n => ?_) (fun n x hx => ?_)
  · simp only [T_L_build_86]
    rw [show (6 : Int32) = zI ((6 : Nat) : Int) from rfl, if_le_t (by omega) (by omega)]
  · simp only [T_L_build_86]
    rw [show (6 : Int32) = zI ((6 : Nat) : Int) from rfl, if_le_f hx (by omega), chk_N (by omega) (by omega), z_tnN (by omega), nm, zSu, wr, Nat.zero_add]
def wl (i : Nat) (S : Sg) : Prop := S.1 104 0 = zI 112 ∧ rg (1 + i) S ∧ ∀ j, j < i → ∃ v : Nat, v ≤ 9 ∧ S.1 101 j = zI v ∧ S.1 104 (1 + j) = zI ((48 + v : Nat) : Int)
theorem b108 {Ln : Nat} {xs : Nat → Int32} {p2 p9 : Int32} {W t : Nat} (hW : W ≤ 6) (ht : 0 < t) (ht2 : t ≤ 10) : ∀ (e i : Nat), i + e = W → ∀ f, e < f → ∀ S : Sg, S.1 102 1 = zI W → wl i S →
    ∃ S', T_L_build_108 Ln xs p2 p9 (zI t) f (zI ((1 + i : Nat) : Int)) (zI i) S = some (zI ((1 + W : Nat) : Int), S') ∧ wl W S' ∧ sm 0 101 S S' ∧ sm 102 104 S S' := by
  intro e
  induction e with
  | zero =>
    intro i hi f hf S h1 hw
    obtain ⟨f, rfl⟩ : ∃ x, f = x + 1 := ⟨f - 1, by omega⟩
    have ei : i = W := by omega
    subst ei
    refine ⟨S, ?_, hw, sm_rfl _ _ _, sm_rfl _ _ _⟩
    simp only [T_L_build_108]
    rw [zN1, chk_N (by omega) (by omega), z_tnN (by omega), h1, if_le_t (Nat.le_refl _) (by omega)]
  | succ e ih =>
    intro i hi f hf S h1 hw
    obtain ⟨f, rfl⟩ : ∃ x, f = x + 1 := ⟨f - 1, by omega⟩
    obtain ⟨v, hv, kv⟩ := l_some (S := S) (v := p9 >>> (((8 : Int32) + ((3 : Int32) * zI i)) &&& 31)) (n := t) ht (by omega)
    obtain ⟨w0, wr', wv⟩ := hw
    simp only [T_L_build_108, nm]
    rw [zN1, chk_N (by omega) (by omega), z_tnN (by omega), h1, if_le_f (by omega) (by omega), kv, bd_some, chk_N (by omega) (by omega), z_tnN (by omega), wI_eq, chk_N (by omega) (by omega), chk_N (by omega) (by omega), z_tnN (by omega), ← zN1, zSu, zSu, show (48 : Int32) = zI 48 from rfl, z_add]
    have o : ∀ c n, c ≠ 101 → c ≠ 104 → (wI (wI S 101 i (zI v)) 104 (1 + i) (zI (48 + (v : Int)))).1 c n = S.1 c n := fun c n q1 q2 => by rw [wI_ne (.inl q2), wI_ne (.inl q1)]
    obtain ⟨S', k1, k2, k3, k4⟩ := ih (i + 1) (by omega) f (by omega) (wI (wI S 101 i (zI v)) 104 (1 + i) (zI (48 + (v : Int)))) ((o _ _ (by decide) (by decide)).trans h1) ⟨by
      rw [wI_ne (.inr (by omega)), wI_ne (.inl (by decide))]
      exact w0, fun j hj => by
      by_cases q : j = 1 + i
      · rw [q]
        exact ⟨48 + v, by omega, wI_eq⟩
      · rw [wI_ne (.inr q), wI_ne (.inl (by decide))]
        exact wr' j (by omega), fun j hj => by
      by_cases q : j = i
      · rw [q]
        refine ⟨v, by omega, ?_, wI_eq⟩
        rw [wI_ne (.inl (by decide))]
        exact wI_eq
      · rw [wI_ne (.inl (by decide)), wI_ne (.inr q), wI_ne (.inr (by omega)), wI_ne (.inl (by decide))]
        exact wv j (by omega)⟩
    refine ⟨S', ?_, k2, sm_tr (sm_tr (sm_wI (by decide)) (sm_wI (by decide))) k3, sm_tr (sm_tr (sm_wI (by decide)) (sm_wI (by decide))) k4⟩
    rw [show (1 + (i + 1) : Nat) = 1 + i + 1 by omega] at k1
    exact k1
theorem ps_cg {W : Nat} {β γ : Nat → Nat} {m : Nat} : ∀ n, n ≤ m → (∀ x, x < m → γ x = β x) → ps W γ n = ps W β n
  | 0, _, _ => rfl
  | n + 1, h, e => by rw [ps, ps, ps_cg n (by omega) e, e n (by omega)]
def ppt (W x : Nat) (κ r β : Nat → Nat) (S : Sg) : Prop := ∀ y, y < x → (β y = 1 → S.1 104 (ps W β y) = zI 32) ∧ S.1 104 (ps W β y + β y) = zI (ltr (κ y)) ∧ S.1 104 (ps W β y + β y + 1) = zI ((48 + r y : Nat) : Int)
theorem l_letter {S : Sg} {k : Nat} (hk : k < 6) : F_L_letter S (zI k) = some (zI (ltr k)) := by
  have : ∀ k, k < 6 → F_L_letter S00 (zI ((k : Nat) : Int)) = some (zI (ltr k)) := by decide +kernel
  exact this k hk
theorem ltr_n (k : Nat) : ∃ z : Nat, z < 128 ∧ ltr k = z := ⟨(ltr k).toNat, by have := ltr_b k; omega, by have := ltr_b k; omega⟩
theorem b165 {Ln : Nat} {xs : Nat → Int32} {W P : Nat} (hLn : Ln ≤ 260) (hW : W ≤ 6) (hP : P ≤ 7) : ∀ (e x : Nat), x + e = P → ∀ f, e < f → ∀ (S : Sg) (κ r β : Nat → Nat), (∀ y, κ y < 6) → (∀ y, r y ≤ W) → (∀ y, β y ≤ 1) → S.1 102 0 = zI P → S.1 102 1 = zI W → rg (ps W β x) S → ppt W x κ r β S →
    ∃ S' κ' r' β', T_L_build_165 Ln xs 0 f (zI ((ps W β x : Nat) : Int)) (zI x) S = some (zI ((ps W β' P : Nat) : Int), S') ∧ (∀ y, κ' y < 6) ∧ (∀ y, r' y ≤ W) ∧ (∀ y, β' y ≤ 1) ∧ rg (ps W β' P) S' ∧ ppt W P κ' r' β' S' ∧ sm 0 99 S S' ∧ sm 101 104 S S' ∧ ∀ j, j < 1 + W → S'.1 104 j = S.1 104 j := by
  intro e
  induction e with
  | zero =>
    intro x hx f hf S κ r β bκ br bβ h0 h1 hr hp
    obtain ⟨f, rfl⟩ : ∃ x, f = x + 1 := ⟨f - 1, by omega⟩
    have ex : x = P := by omega
    subst ex
    refine ⟨S, κ, r, β, ?_, bκ, br, bβ, hr, hp, sm_rfl _ _ _, sm_rfl _ _ _, fun _ _ => rfl⟩
    simp only [T_L_build_165]
    rw [zN0, chk_N (by omega) (by omega), z_tnN (by omega), h0, if_le_t (Nat.le_refl _) (by omega)]
  | succ e ih =>
    intro x hx f hf S κ r β bκ br bβ h0 h1 hr hp
    obtain ⟨f, rfl⟩ : ∃ x, f = x + 1 := ⟨f - 1, by omega⟩
    have hL := ps_le (W := W) bβ x
    have hL2 := ps_ge (W := W) (β := β) x
    obtain ⟨v, kv⟩ := l_cell (xs := xs) (S := S) (j := 1 + x) hLn (by omega)
    have ea : ((0 : Int32) + (1 : Int32)) + zI x = zI ((1 + x : Nat) : Int) := by
      rw [show ((0 : Int32) + (1 : Int32)) = zI 1 from rfl, z_add]; exact congrArg zI (by omega)
    have hkind : ∃ k : Nat, k < 6 ∧ ∀ (K : Int32 → Option (Int32 × Sg)), bd (F_L_some S v (3 : Int32)) (fun x45 => bd (if x45 = 0 then (some (0 : Int32)) else (bd (F_L_some S (v >>> ((2 : Int32) &&& 31)) (6 : Int32)) (fun x50 => some x50))) K) = K (zI k) := by
      obtain ⟨r3, hr3, k3⟩ := l_some (S := S) (v := v) (n := 3) (by omega) (by omega)
      obtain ⟨r6, hr6, k6⟩ := l_some (S := S) (v := v >>> ((2 : Int32) &&& 31)) (n := 6) (by omega) (by omega)
      have k3' : F_L_some S v (3 : Int32) = some (zI r3) := k3
      have k6' : F_L_some S (v >>> ((2 : Int32) &&& 31)) (6 : Int32) = some (zI r6) := k6
      by_cases q : zI (r3 : Int) = 0
      · refine ⟨0, by decide, fun K => ?_⟩
        rw [k3', bd_some, if_pos q, bd_some]; rfl
      · refine ⟨r6, hr6, fun K => ?_⟩
        rw [k3', bd_some, if_neg q, k6', bd_some, bd_some]
    obtain ⟨k, hk, kk2⟩ := hkind
    obtain ⟨ρ, hρ, kρ⟩ := l_some (S := wI S 99 x (zI k)) (v := v >>> ((5 : Int32) &&& 31)) (n := W + 1) (by omega) (by omega)
    obtain ⟨b2, hb2, kb⟩ := l_some (S := wI (wI S 99 x (zI k)) 100 x (zI ρ)) (v := v >>> ((9 : Int32) &&& 31)) (n := 2) (by omega) (by omega)
    let bx : Nat := if b2 = 0 then 1 else 0
    let β' : Nat → Nat := fun y => if y = x then bx else β y
    let κ' : Nat → Nat := fun y => if y = x then k else κ y
    let r' : Nat → Nat := fun y => if y = x then ρ else r y
    have hbx : bx ≤ 1 := by show (if b2 = 0 then 1 else 0) ≤ 1; split <;> omega
    have bβ' : ∀ y, β' y ≤ 1 := fun y => by show (if y = x then bx else β y) ≤ 1; split; exact hbx; exact bβ y
    have bκ' : ∀ y, κ' y < 6 := fun y => by show (if y = x then k else κ y) < 6; split; exact hk; exact bκ y
    have br' : ∀ y, r' y ≤ W := fun y => by show (if y = x then ρ else r y) ≤ W; split; omega; exact br y
    have eβ : ∀ y, y ≤ x → ps W β' y = ps W β y := fun y hy => ps_cg (m := x) y hy (fun z hz => if_neg (by omega))
    have ex1 : ps W β' (x + 1) = ps W β x + bx + 2 := by
      rw [ps, eβ x (Nat.le_refl _), show β' x = bx from if_pos rfl]
    let S2 := wI (wI S 99 x (zI k)) 100 x (zI ρ)
    let S3 := if b2 = 0 then wI S2 104 (ps W β x) (zI 32) else S2
    have kS3 : (bd (if zI (b2 : Int) = 0 then (chk (inB (zI ((ps W β x : Nat) : Int)) 40) (nm (wI S2 104 (zI ((ps W β x : Nat) : Int)).toNatClampNeg (32 : Int32)) (fun S66 => nm (zI ((ps W β x : Nat) : Int) + (1 : Int32)) (fun x67 => some (x67, S66))))) else (some (zI ((ps W β x : Nat) : Int), S2)))) = fun K : Int32 × Sg → Option (Int32 × Sg) => K (zI ((ps W β x + bx : Nat) : Int), S3) := by
      funext K
      rw [if_eq0 (by omega) (by omega)]
      by_cases q : b2 = 0
      · rw [if_pos (by omega), chk_N (by omega) (by omega), z_tnN (by omega), nm, nm, zSu, bd_some]
        show K _ = K (zI ((ps W β x + (if b2 = 0 then 1 else 0) : Nat) : Int), if b2 = 0 then _ else _)
        rw [if_pos q, if_pos q]
        rfl
      · rw [if_neg (by omega), bd_some]
        show K _ = K (zI ((ps W β x + (if b2 = 0 then 1 else 0) : Nat) : Int), if b2 = 0 then _ else _)
        rw [if_neg q, if_neg q]
        rfl
    have o3 : ∀ c n, c ≠ 104 ∨ n ≠ ps W β x → S3.1 c n = S2.1 c n := fun c n q => by
      show (if b2 = 0 then wI S2 104 (ps W β x) (zI 32) else S2).1 c n = _
      split
      · exact wI_ne q
      · rfl
    have e99 : S3.1 99 x = zI k := by
      rw [o3 _ _ (.inl (by decide))]
      show (wI (wI S 99 x (zI k)) 100 x (zI ρ)).1 99 x = _
      rw [wI_ne (.inl (by decide))]
      exact wI_eq
    have e100 : S3.1 100 x = zI ρ := by
      rw [o3 _ _ (.inl (by decide))]
      exact wI_eq
    let S4 := wI S3 104 (ps W β x + bx) (zI (ltr k))
    have e100' : S4.1 100 x = zI ρ := (wI_ne (.inl (by decide))).trans e100
    let S5 := wI S4 104 (ps W β x + bx + 1) (zI ((48 + ρ : Nat) : Int))
    have o5 : ∀ c n, c ≠ 99 → c ≠ 100 → (c ≠ 104 ∨ n < ps W β x) → S5.1 c n = S.1 c n := fun c n q1 q2 q3 => by
      show (wI (wI S3 104 _ _) 104 _ _).1 c n = _
      rw [wI_ne (by omega), wI_ne (by omega), o3 _ _ (by omega)]
      show (wI (wI S 99 x _) 100 x _).1 c n = _
      rw [wI_ne (.inl q2), wI_ne (.inl q1)]
    have a1 : S5.1 104 (ps W β x + bx + 1) = zI ((48 + ρ : Nat) : Int) := wI_eq
    have a2 : S5.1 104 (ps W β x + bx) = zI (ltr k) := (wI_ne (.inr (by omega))).trans wI_eq
    have a3 : bx = 1 → S5.1 104 (ps W β x) = zI 32 := fun q => by
      show (wI (wI S3 104 _ _) 104 _ _).1 104 _ = _
      rw [wI_ne (.inr (by omega)), wI_ne (.inr (by omega))]
      have q0 : b2 = 0 := by
        rcases Nat.eq_zero_or_pos b2 with h | h
        · exact h
        · have : bx = 0 := if_neg (by omega)
          omega
      show (if b2 = 0 then wI S2 104 (ps W β x) (zI 32) else S2).1 104 _ = _
      rw [if_pos q0]
      exact wI_eq
    obtain ⟨lz, lz1, lz2⟩ := ltr_n k
    have hr5 : rg (ps W β' (x + 1)) S5 := fun j hj => by
      rw [ex1] at hj
      by_cases q : j < ps W β x
      · rw [o5 _ _ (by decide) (by decide) (.inr q)]
        exact hr j q
      · by_cases q1 : j = ps W β x + bx + 1
        · rw [q1, a1]; exact ⟨48 + ρ, by omega, rfl⟩
        · by_cases q2 : j = ps W β x + bx
          · rw [q2, a2, lz2]; exact ⟨lz, lz1, rfl⟩
          · rw [show j = ps W β x by omega, a3 (by omega)]
            exact ⟨32, by decide, rfl⟩
    have hp5 : ppt W (x + 1) κ' r' β' S5 := fun y hy => by
      rw [eβ y (by omega)]
      by_cases q : y = x
      · subst q
        rw [show β' y = bx from if_pos rfl, show κ' y = k from if_pos rfl, show r' y = ρ from if_pos rfl]
        exact ⟨a3, a2, a1⟩
      · have hyx : y < x := by omega
        have h2 := ps_up (W := W) (β := β) (m := y + 1) x (by omega)
        rw [ps] at h2
        rw [show β' y = β y from if_neg q, show κ' y = κ y from if_neg q, show r' y = r y from if_neg q, o5 _ _ (by decide) (by decide) (.inr (by omega)), o5 _ _ (by decide) (by decide) (.inr (by omega)), o5 _ _ (by decide) (by decide) (.inr (by omega))]
        exact hp y hyx
    obtain ⟨S', κ2, r2, β2, j1, j2, j3, j4, j5, j6, j7, j8, j9⟩ := ih (x + 1) (by omega) f (by omega) S5 κ' r' β' bκ' br' bβ' ((o5 _ _ (by decide) (by decide) (.inl (by decide))).trans h0) ((o5 _ _ (by decide) (by decide) (.inl (by decide))).trans h1) hr5 hp5
    have sA : ∀ lo hi, hi ≤ 99 ∨ (100 < lo ∧ hi ≤ 104) → sm lo hi S S5 := fun lo hi q => by
      have s3 : sm lo hi S2 S3 := by
        show sm lo hi S2 (if b2 = 0 then wI S2 104 (ps W β x) (zI 32) else S2)
        split
        · exact sm_wI (by omega)
        · exact sm_rfl _ _ _
      exact sm_tr (sm_tr (sm_tr (sm_tr (sm_wI (by omega)) (sm_wI (by omega))) s3) (sm_wI (by omega))) (sm_wI (by omega))
    refine ⟨S', κ2, r2, β2, ?_, j2, j3, j4, j5, j6, sm_tr (sA _ _ (by decide)) j7, sm_tr (sA _ _ (by decide)) j8, fun j hj => (j9 j hj).trans (o5 _ _ (by decide) (by decide) (.inr (by omega)))⟩
    have eW : (wI S 99 x (zI k)).1 102 (zI ((1 : Nat) : Int)).toNatClampNeg + 1 = zI ((W + 1 : Nat) : Int) := by
      rw [z_tnN (by omega), wI_ne (.inl (by decide)), h1, zSu]
    simp only [T_L_build_165]
    rw [zN0, chk_N (by omega) (by omega), z_tnN (by omega), h0, if_le_f (by omega) (by omega), ← zN0, ea, kv, bd_some, kk2, chk_N (by omega) (by omega), nm, z_tnN (n := x) (by omega), zN1, chk_N (n := 1) (by omega) (by omega), ← zN1, show (1 : Int32).toNatClampNeg = (zI ((1 : Nat) : Int)).toNatClampNeg from rfl, eW, kρ, bd_some, chk_N (by omega) (by omega), nm, show (2 : Int32) = zI ((2 : Nat) : Int) from rfl]
    rw [kb, bd_some]
    refine Eq.trans (congrFun kS3 _) ?_
    dsimp only
    have e4 : (wI S3 104 (ps W β x + bx) (zI (ltr k))).1 100 x = zI ρ := e100'
    have e2 : zI ((ps W β x + bx : Nat) : Int) + zI ((2 : Nat) : Int) = zI ((ps W β x + bx + 2 : Nat) : Int) := by
      rw [z_add]; exact congrArg zI (by push_cast; rfl)
    have e48 : (48 : Int32) + zI (ρ : Int) = zI ((48 + ρ : Nat) : Int) := by
      rw [show (48 : Int32) = zI 48 from rfl, z_add]; exact congrArg zI (by push_cast; rfl)
    rw [chk_N (by omega) (by omega), e99, l_letter hk, bd_some, chk_N (by omega) (by omega), nm, z_tnN (by omega), chk_N (by omega) (by omega), e4, zSu, chk_N (by omega) (by omega), nm, z_tnN (by omega), e48, nm, e2, zSu]
    rw [ex1] at j1
    exact j1
/-! the text laid -/
theorem nar_n : ∀ z, z < 128 → vp_nar .byte (vp_nar .byte (zI ((z : Nat) : Int))) = zI z := by decide +kernel
def pti (L i : Nat) (b : Nat → Int) (S : Sg) : Prop := S.1 26 1 = zI L ∧ (∀ j, j < 80 → S.1 27 j = zI (if j < i then b j else 32)) ∧ ∀ j, j < L → S.1 104 j = zI (b j)
theorem m_put {L i : Nat} {b : Nat → Int} {S : Sg} (hL : L ≤ 40) (hi : i < L) (hb : ∃ z : Nat, z < 128 ∧ b i = z) (h : pti L i b S) : F_X8_put S 0 (zI i) (zI (b i)) = some (1032, wI S 27 i (zI (b i))) := by
  obtain ⟨z, z1, z2⟩ := hb
  obtain ⟨h1, h2, h3⟩ := h
  have hm := f7_miss (S := S) (u := 0) (z := L) h1 (by omega) (by omega)
  have hh := f7_has (S := S) (u := 0) (z := L) (y := i) h1 (by omega) (by omega) ⟨by omega, by omega⟩
  have e27 : S.1 (26 + 2 * 0 + 1) i = zI 32 := by
    rw [h2 i (by omega), if_neg (Nat.lt_irrefl _)]
  unfold F_X8_put
  rw [show (0 : Int32) = zI ((0 : Nat) : Int) from rfl, f8_isText ⟨by omega, by omega⟩, bd_some, inZ_y (by omega), ← zN0, t0, zN0, chk_N (by omega) (by omega), z_tnN (by omega), hm, bd_some, decide_eq_false (by omega), if_pos (show bI false = zI ((0 : Nat) : Int) from rfl), hh, bd_some, inZ_y (by omega), if_neg (show ¬ bI true = zI ((0 : Nat) : Int) by decide), chk_N (by omega) (by omega), z_tnN (by omega), nm, chk_N (by omega) (by omega), nm, e27, z2, nar_n z z1]
  rfl
theorem b316 {Ln : Nat} {xs : Nat → Int32} {L : Nat} {b : Nat → Int} (hL : L ≤ 40) (hb : ∀ i, i < L → ∃ z : Nat, z < 128 ∧ b i = z) : ∀ (e i : Nat), i + e = L → ∀ f, e < f → ∀ S : Sg, pti L i b S → ∃ S', T_L_build_316 Ln xs (zI L) f 1 (zI i) S = some (1, S') ∧ pti L L b S' ∧ sm 28 105 S S' := by
  intro e
  induction e with
  | zero =>
    intro i hi f hf S h
    obtain ⟨f, rfl⟩ : ∃ x, f = x + 1 := ⟨f - 1, by omega⟩
    have ei : i = L := by omega
    subst ei
    refine ⟨S, ?_, h, sm_rfl _ _ _⟩
    simp only [T_L_build_316]
    rw [if_le_t (Nat.le_refl _) (by omega)]
  | succ e ih =>
    intro i hi f hf S h
    obtain ⟨f, rfl⟩ : ∃ x, f = x + 1 := ⟨f - 1, by omega⟩
    have h' := h
    obtain ⟨h1, h2, h3⟩ := h'
    simp only [T_L_build_316]
    rw [if_le_f (by omega) (by omega), if_neg (show ¬ (1 : Int32) = 0 by decide), chk_N (by omega) (by omega), z_tnN (by omega), h3 i (by omega), m_put hL (by omega) (hb i (by omega)) h, bd_some]
    dsimp only
    rw [if_pos rfl, bd_some, zSu]
    obtain ⟨S', k1, k2, k3⟩ := ih (i + 1) (by omega) f (by omega) (wI S 27 i (zI (b i))) ⟨(wI_ne (.inl (by decide))).trans h1, fun j hj => by
      by_cases q : j = i
      · rw [q, wI_eq, if_pos (by omega)]
      · rw [wI_ne (.inr q), h2 j hj]
        by_cases q2 : j < i
        · rw [if_pos q2, if_pos (by omega)]
        · rw [if_neg q2, if_neg (by omega)], fun j hj => (wI_ne (.inl (by decide))).trans (h3 j hj)⟩
    exact ⟨S', k1, k2, sm_tr (sm_wI (by decide)) k3⟩
theorem m_text {S : Sg} {L : Nat} (hL : L ≤ 40) : F_X8_text S 0 (zI L) = some (zI L, tx8 0 L S) := by
  unfold F_X8_text
  rw [show (0 : Int32) = zI ((0 : Nat) : Int) from rfl, f8_isText ⟨by omega, by omega⟩, bd_some, inZ_y (by omega), ← zN0, t0, show (80 : Int32) = zI ((80 : Nat) : Int) from rfl, if_le_t (by omega) (by omega), zN0, if_le_t (Nat.zero_le _) (by omega), chk_N (by omega) (by omega), z_tnN (by omega), f7_begin, bd_some]
theorem law_build {Ln : Nat} {xs : Nat → Int32} (hLn : Ln ≤ 260) {S : Sg} (h49 : S.1 49 0 = 0) : ∃ S' P W d κ r β, bnd W P d κ r β ∧ 2 ≤ P ∧ F_L_build Ln xs S 0 2 7 = some (1, S') ∧ Nw (newA P W d κ r) S' ∧ S'.1 102 0 = zI P ∧ S'.1 102 1 = zI W ∧ ∀ j, j < W → S'.1 101 j = zI (d j) := by
  obtain ⟨v, kv⟩ := l_cell (xs := xs) (S := S) (j := 0) hLn (by omega)
  obtain ⟨r4, hr4, k4⟩ := l_some (S := S) (v := v) (n := 6) (by omega) (by omega)
  let P := 2 + r4
  let S6 := wI S 102 0 (zI ((P : Nat) : Int))
  obtain ⟨r8, hr8, k8⟩ := l_some (S := S6) (v := v >>> ((3 : Int32) &&& 31)) (n := 6) (by omega) (by omega)
  let W := 1 + r8
  let S10 := wI S6 102 1 (zI ((W : Nat) : Int))
  obtain ⟨r12, hr12, k12⟩ := l_some (S := S10) (v := v >>> ((6 : Int32) &&& 31)) (n := 3) (by omega) (by omega)
  have hW : 1 ≤ W ∧ W ≤ 6 := ⟨by show 1 ≤ 1 + r8; omega, by show 1 + r8 ≤ 6; omega⟩
  have hP : 2 ≤ P ∧ P ≤ 7 := ⟨by show 2 ≤ 2 + r4; omega, by show 2 + r4 ≤ 7; omega⟩
  obtain ⟨t, ht1, ht2, kt⟩ : ∃ t : Nat, 0 < t ∧ t ≤ 10 ∧ (if zI (r12 : Int) = 0 then (some (10 : Int32)) else (some (4 : Int32))) = some (zI t) := by
    by_cases q : zI (r12 : Int) = 0
    · exact ⟨10, by decide, by decide, by rw [if_pos q]; rfl⟩
    · exact ⟨4, by decide, by decide, by rw [if_neg q]; rfl⟩
  let S17 := zS S10 104
  let S19 := wI S17 104 0 (zI 112)
  let S21 := wr 101 0 (fun _ => 0) S19 6
  have o17 : ∀ c n, c ≠ 104 → S17.1 c n = S10.1 c n := fun c n q => by
    show (if c = 104 then (fun _ => 0) else S10.1 c) n = _
    rw [if_neg q]
  have o21 : ∀ c n, c ≠ 101 → c ≠ 104 → S21.1 c n = S10.1 c n := fun c n q1 q2 => by
    show (wr 101 0 (fun _ => 0) (wI S17 104 0 (zI 112)) 6).1 c n = _
    rw [wr_n (.inl q1), wI_ne (.inl q2), o17 _ _ q2]
  have e21 : S21.1 104 0 = zI 112 := by
    show (wr 101 0 (fun _ => 0) (wI S17 104 0 (zI 112)) 6).1 104 0 = _
    rw [wr_n (.inl (by decide))]
    exact wI_eq
  have h1W : S21.1 102 1 = zI W := (o21 _ _ (by decide) (by decide)).trans wI_eq
  have h0P : S21.1 102 0 = zI P := (o21 _ _ (by decide) (by decide)).trans ((wI_ne (.inr (by decide))).trans wI_eq)
  obtain ⟨S27, k27, w27, s27, s27'⟩ := b108 (Ln := Ln) (xs := xs) (p2 := 0) (p9 := v) hW.2 ht1 ht2 W 0 (by omega) FU (by unfold FU; omega) S21 h1W ⟨e21, fun j hj => by
    rw [show j = 0 by omega, e21]
    exact ⟨112, by decide, rfl⟩, fun j hj => absurd hj (Nat.not_lt_zero _)⟩
  obtain ⟨S40, κ, r, β, k40, bκ, br, bβ, r40, p40, s40, s40', q40⟩ := b165 (Ln := Ln) (xs := xs) (W := W) (P := P) hLn hW.2 hP.2 P 0 (by omega) FU (by unfold FU; omega) S27 (fun _ => 0) (fun _ => 0) (fun _ => 0) (fun _ => by decide) (fun _ => Nat.zero_le _) (fun _ => by decide) ((sm_o s27' (by decide) (by decide)).trans h0P) ((sm_o s27' (by decide) (by decide)).trans h1W) w27.2.1 (fun y hy => absurd hy (Nat.not_lt_zero _))
  have hL := ps_le (W := W) bβ P
  have hL2 := ps_ge (W := W) (β := β) P
  let d : Nat → Nat := fun j => if j < W then (S27.1 101 j).toInt.toNat else 0
  have hd : ∀ j, j < W → d j ≤ 9 ∧ S27.1 101 j = zI (d j) ∧ S27.1 104 (1 + j) = zI ((48 + d j : Nat) : Int) := fun j hj => by
    obtain ⟨v, v1, v2, v3⟩ := w27.2.2 j hj
    have e : d j = v := by
      show (if j < W then (S27.1 101 j).toInt.toNat else 0) = v
      rw [if_pos hj, v2, z_toInt (by omega) (by omega)]
      exact Int.toNat_natCast v
    rw [e]
    exact ⟨v1, v2, v3⟩
  have bd9 : ∀ j, d j ≤ 9 := fun j => by
    rcases Nat.lt_or_ge j W with h | h
    · exact (hd j h).1
    · show (if j < W then (S27.1 101 j).toInt.toNat else 0) ≤ 9
      rw [if_neg (by omega)]
      exact Nat.zero_le _
  have hbnd : bnd W P d κ r β := ⟨hW, ⟨by omega, hP.2⟩, bd9, bκ, br, bβ⟩
  let L := ps W β P
  let b : Nat → Int := fun j => if j < L then (S40.1 104 j).toInt else 32
  have hbj : ∀ j, j < L → ∀ z : Int, -2147483648 ≤ z → z < 2147483648 → S40.1 104 j = zI z → b j = z := fun j hj z z1 z2 e => by
    show (if j < L then (S40.1 104 j).toInt else 32) = z
    rw [if_pos hj, e, z_toInt z1 z2]
  have hrg : ∀ j, j < L → ∃ z : Nat, z < 128 ∧ b j = z := fun j hj => by
    obtain ⟨z, z1, z2⟩ := r40 j hj
    exact ⟨z, z1, hbj j hj z (by omega) (by omega) z2⟩
  have hby : byB b := fun j => by
    rcases Nat.lt_or_ge j L with h | h
    · obtain ⟨z, z1, z2⟩ := hrg j h
      omega
    · have e : b j = 32 := if_neg (by omega)
      omega
  have h104 : ∀ j, j < L → S40.1 104 j = zI (b j) := fun j hj => by
    obtain ⟨z, z1, z2⟩ := r40 j hj
    rw [hbj j hj z (by omega) (by omega) z2, z2]
  have hLd : L = ps W β P := rfl
  have htx : txt W P d κ r β b := by
    refine ⟨?_, fun i hi => ?_, fun x hx => ?_⟩
    · exact hbj 0 (by omega) 112 (by decide) (by decide) ((q40 0 (by omega)).trans w27.1)
    · have h9 := (hd i hi).1
      rw [hbj (1 + i) (by omega) ((48 + d i : Nat) : Int) (by omega) (by omega) ((q40 (1 + i) (by omega)).trans (hd i hi).2.2)]
      push_cast
      rfl
    · have h2 := ps_up (W := W) (β := β) (m := x + 1) P (by omega)
      rw [ps] at h2
      obtain ⟨a1, a2, a3⟩ := p40 x hx
      have hl := ltr_b (κ x)
      have hr := br x
      refine ⟨fun q => hbj _ (by omega) 32 (by decide) (by decide) (a1 q), hbj _ (by omega) _ (by omega) (by omega) a2, ?_⟩
      rw [hbj (ps W β x + β x + 1) (by omega) ((48 + r x : Nat) : Int) (by omega) (by omega) a3]
      push_cast
      rfl
  -- the text
  have hpt : pti L 0 b (tx8 0 L S40) := by
    refine ⟨?_, fun j hj => ?_, fun j hj => ?_⟩
    · show (wr 27 0 (fun _ => zI 32) (wI S40 26 1 (zI L)) 80).1 26 1 = _
      rw [wr_n (.inl (by decide))]
      exact wI_eq
    · show (wr 27 0 (fun _ => zI 32) (wI S40 26 1 (zI L)) 80).1 27 j = _
      rw [wr_e0 hj, if_neg (Nat.not_lt_zero _)]
    · show (wr 27 0 (fun _ => zI 32) (wI S40 26 1 (zI L)) 80).1 104 j = _
      rw [wr_n (.inl (by decide)), wI_ne (.inl (by decide))]
      exact h104 j hj
  have st : sm 28 105 S40 (tx8 0 L S40) := sm_tr (sm_wI (by decide)) (wr_sm (by decide) _)
  obtain ⟨S88, k88, p88, s88⟩ := b316 (Ln := Ln) (xs := xs) (L := L) (b := b) (by omega) hrg L 0 (by omega) FU (by unfold FU; omega) (tx8 0 L S40) hpt
  have tI : txI 0 (ps W β P) b S88 := by
    refine ⟨p88.1, fun j hj => ?_⟩
    rw [show 26 + 2 * 0 + 1 = 27 from rfl, p88.2.1 j hj]
    by_cases q : j < L
    · rw [if_pos q]
    · rw [if_neg q]
      exact congrArg zI (show (32 : Int) = if j < L then (S40.1 104 j).toInt else 32 by rw [if_neg q])
  have h49' : S88.1 49 0 = 0 := by
    rw [sm_o s88 (by decide) (by decide), sm_o st (by decide) (by decide), sm_o s40 (by decide) (by decide), sm_o s27 (by decide) (by decide), o21 _ _ (by decide) (by decide)]
    show (wI (wI S 102 0 _) 102 1 _).1 49 0 = 0
    rw [wI_ne (.inl (by decide)), wI_ne (.inl (by decide))]
    exact h49
  obtain ⟨S102, k102, f102⟩ := m_fault h49' hby htx hbnd tI
  have tI2 := fS_tx (by decide) f102 tI
  obtain ⟨S105, k105, n105, s105⟩ := m_street f102.2.2.2.2.2 hby htx hbnd tI2
  have sall : sm 101 104 S27 S105 := sm_tr (sm_tr (sm_tr (sm_tr s40' (sm_in st (by decide) (by decide))) (sm_in s88 (by decide) (by decide))) (sm_in f102.2.1 (by decide) (by decide))) (sm_in s105 (by decide) (by decide))
  have g0 : S105.1 102 0 = zI P := (sm_o sall (by decide) (by decide)).trans ((sm_o s27' (by decide) (by decide)).trans h0P)
  have g1 : S105.1 102 1 = zI W := (sm_o sall (by decide) (by decide)).trans ((sm_o s27' (by decide) (by decide)).trans h1W)
  refine ⟨S105, P, W, d, κ, r, β, hbnd, hP.1, ?_, n105, g0, g1, fun j hj => (sm_o sall (by decide) (by decide)).trans (hd j hj).2.1⟩
  have c0 : F_X8_count S105 (0 : Int32) = some (zI P) := by
    unfold F_X8_count
    rw [if_pos rfl, n105.1.1]
    rfl
  have c1 : F_X8_count S105 (1 : Int32) = some (zI W) := by
    unfold F_X8_count
    rw [if_neg (by decide), if_pos rfl, n105.1.2.1]
    rfl
  have eP : (2 : Int32) + zI (r4 : Int) = zI ((P : Nat) : Int) := by
    rw [show (2 : Int32) = zI 2 from rfl, z_add]; exact congrArg zI (show (2 : Int) + r4 = ((2 + r4 : Nat) : Int) by push_cast; rfl)
  have eW : (1 : Int32) + zI (r8 : Int) = zI ((W : Nat) : Int) := by
    rw [show (1 : Int32) = zI 1 from rfl, z_add]; exact congrArg zI (show (1 : Int) + r8 = ((1 + r8 : Nat) : Int) by push_cast; rfl)
  have k27' : T_L_build_108 Ln xs 0 v (zI t) FU ((0 : Int32) + (1 : Int32)) (0 : Int32) S21 = some (zI ((ps W (fun _ => 0) 0 : Nat) : Int), S27) := k27
  have k40' : T_L_build_165 Ln xs 0 FU (zI ((ps W (fun _ => 0) 0 : Nat) : Int)) (0 : Int32) S27 = some (zI ((L : Nat) : Int), S40) := k40
  have k88' : T_L_build_316 Ln xs (zI ((L : Nat) : Int)) FU 1 (0 : Int32) (tx8 0 L S40) = some (1, S88) := k88
  have k4' : F_L_some S v (((7 : Int32) - (2 : Int32)) + (1 : Int32)) = some (zI r4) := k4
  have k8' : F_L_some S6 (v >>> ((3 : Int32) &&& 31)) (6 : Int32) = some (zI r8) := k8
  have k12' : F_L_some S10 (v >>> ((6 : Int32) &&& 31)) (3 : Int32) = some (zI r12) := k12
  have kv' : F_L_cell Ln xs S (0 : Int32) = some v := kv
  have i04 : ∀ {α : Type} (K : Option α), chk (inB (0 : Int32) 4) K = K := fun K => chk_N (n := 0) (by decide) (by decide)
  have i14 : ∀ {α : Type} (K : Option α), chk (inB (1 : Int32) 4) K = K := fun K => chk_N (n := 1) (by decide) (by decide)
  have i040 : ∀ {α : Type} (K : Option α), chk (inB (0 : Int32) 40) K = K := fun K => chk_N (n := 0) (by decide) (by decide)
  have n0 : (0 : Int32).toNatClampNeg = 0 := by decide
  have n1 : (1 : Int32).toNatClampNeg = 1 := by decide
  unfold F_L_build
  simp only [nm, i04, i14, i040, n0, n1]
  rw [kv', bd_some, k4', bd_some, eP, show wI S 102 0 (zI ((P : Nat) : Int)) = S6 from rfl, k8', bd_some, eW, show wI S6 102 1 (zI ((W : Nat) : Int)) = S10 from rfl, k12', bd_some, kt, bd_some, show wI (zS S10 104) 104 0 (112 : Int32) = S19 from rfl, b86, bd_some, show wr 101 0 (fun _ => 0) S19 6 = S21 from rfl, k27', bd_some]
  dsimp only
  rw [k40', bd_some]
  dsimp only
  rw [m_text (by omega), bd_some]
  dsimp only
  rw [if_pos rfl, bd_some, k88', bd_some]
  dsimp only
  rw [if_neg (show ¬ (1 : Int32) = 0 by decide), k102, bd_some]
  dsimp only
  rw [if_pos rfl, k105, bd_some]
  dsimp only
  rw [g0, if_pos rfl, c0, bd_some, if_pos rfl, c1, bd_some, g1, if_pos rfl]
