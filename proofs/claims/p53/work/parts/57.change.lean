def isk (k v : Nat) : Bool := decide (k = v) || decide (skv 1 k = zI v)
theorem f2_isof {S : Sg} {k v : Nat} (hk : k < 6) (hv : v < 6) : F_X2_isOf S (zI k) (zI v) = some (bI (isk k v)) := by
  have q : ∀ k, k < 6 → ∀ v, v < 6 → F_X2_isOf (fun _ _ => 0, fun _ _ => 0) (zI ((k : Nat) : Int)) (zI ((v : Nat) : Int)) = some (bI (isk k v)) := by decide +kernel
  exact q k hk v hv
theorem cnt_s {n : Nat} {p : Nat → Bool} : zI (cnt n p) + (if p n = true then 1 else 0) = zI (cnt (n + 1) p) := by
  rw [cnt]
  cases p n
  · rw [if_neg (by decide), if_neg (by decide), z_0, z_add]; exact congrArg zI (by omega)
  · rw [if_pos rfl, if_pos rfl]; exact zSu _
theorem cnt_cg {p q : Nat → Bool} : ∀ n, (∀ j, j < n → p j = q j) → cnt n p = cnt n q
  | 0, _ => rfl
  | n + 1, h => by rw [cnt, cnt, cnt_cg n (fun j hj => h j (by omega)), h n (by omega)]
def setN (a : AS) (r : Nat) (f : Nat → Nat) : AS := (fun c => if c = r then f else a.1 c, a.2)
def setS (a : AS) (r : Nat) (f : Nat → Int32) : AS := (a.1, fun c => if c = r then f else a.2 c)
theorem aD_cg {a a' : AS} (h : ∀ j, aL a' j = aL a j) : ∀ n, aD a' n = aD a n
  | 0 => rfl
  | n + 1 => by rw [aD, aD, aD_cg h n, h n]
theorem CG_a {i : Nat} {S : Sg} {a a' : AS} (hP : aP a' = aP a) (hW : aW a' = aW a) (hL : ∀ j, aL a' j = aL a j) (hK : ∀ j, aK a' j = aK a j) (hR : ∀ j, aR a' j = aR a j) (c : CG i S a) : CG i S a' := by
  obtain ⟨c1, c2, c3, c4, c5, c6⟩ := c
  exact ⟨by rw [hP]; exact c1, by rw [hW]; exact c2, fun j hj => by rw [hL]; exact c3 j (hW ▸ hj), fun j hj => by rw [aD_cg hL]; exact c4 j (hW ▸ hj), fun j hj => by rw [hK]; exact c5 j (hP ▸ hj), fun j hj => by rw [hR]; exact c6 j (hP ▸ hj)⟩
theorem CG_k {i : Nat} {σ σ' : Sg} {a : AS} (e : ∀ c n, c = 0 ∧ (n = 8 ∨ n = 9) ∨ 1 ≤ c ∧ c < 5 → σ'.1 (sb i + c) n = σ.1 (sb i + c) n) (c : CG i σ a) : CG i σ' a := by
  obtain ⟨c1, c2, c3, c4, c5, c6⟩ := c
  exact ⟨(e 0 9 (by decide)).trans c1, (e 0 8 (by decide)).trans c2, fun j hj => (e 1 j (by omega)).trans (c3 j hj), fun j hj => (e 2 j (by omega)).trans (c4 j hj), fun j hj => (e 3 j (by omega)).trans (c5 j hj), fun j hj => (e 4 j (by omega)).trans (c6 j hj)⟩
theorem CT_k {i : Nat} {σ σ' : Sg} {a : AS} (e : ∀ c n, c = 0 ∧ n = 10 ∨ 5 ≤ c ∧ c < 8 → σ'.1 (sb i + c) n = σ.1 (sb i + c) n) (c : CT i σ a) : CT i σ' a := by
  obtain ⟨c1, c2, c3, c4⟩ := c
  exact ⟨(e 0 10 (by decide)).trans c1, fun j hj => (e 5 j (by omega)).trans (c2 j hj), fun j hj => (e 6 j (by omega)).trans (c3 j hj), fun j hj => (e 7 j (by omega)).trans (c4 j hj)⟩
theorem CH_k {i : Nat} {σ σ' : Sg} {a : AS} (e : ∀ c n, 8 ≤ c ∧ c < 13 → σ'.1 (sb i + c) n = σ.1 (sb i + c) n ∧ σ'.2 (sb i + c) n = σ.2 (sb i + c) n) (c : CH i σ a) : CH i σ' a := by
  obtain ⟨h1, h2, h3, h4, h5, h6⟩ := c
  exact ⟨((e 8 5 (by decide)).1).trans h1, fun j hj => ((e 9 j (by omega)).1).trans (h2 j hj), fun j hj => ((e 10 j (by omega)).1).trans (h3 j hj), fun j hj => ((e 11 j (by omega)).1).trans (h4 j hj), fun j hj => by rw [(e 12 j (by omega)).2]; exact h5 j hj, by rw [(e 8 4 (by decide)).2]; exact h6⟩
theorem CH_a {i : Nat} {S : Sg} {a a' : AS} (e1 : aH a' = aH a) (e2 : aX a' = aX a) (e3 : aY a' = aY a) (e4 : aZ a' = aZ a) (e5 : ∀ h, aA a' h = aA a h) (e6 : aN a' = aN a) (c : CH i S a) : CH i S a' := by
  unfold CH at c ⊢
  simp only [e1, e2, e3, e4, e5, e6]
  exact c
theorem WH_a {a a' : AS} (e0 : aP a' = aP a) (e1 : aH a' = aH a) (e2 : aX a' = aX a) (e3 : aY a' = aY a) (e4 : aZ a' = aZ a) (e5 : ∀ h, aA a' h = aA a h) (e6 : aN a' = aN a) (e7 : aL a' = aL a) (c : WH a) : WH a' := by
  unfold WH at c ⊢
  simp only [e0, e1, e2, e3, e4, e5, e6, e7]
  exact c
def msr (i : Nat) (D : Nat → Nat) (S : Sg) : Nat → Sg
  | 0 => S
  | n + 1 => wI (msr i D S n) (sb i + 2) (n + 1) (zI (D (n + 1)))
theorem msr_o {i : Nat} {D : Nat → Nat} {S : Sg} {c k : Nat} (h : c ≠ sb i + 2 ∨ k = 0) : ∀ n, (msr i D S n).1 c k = S.1 c k
  | 0 => rfl
  | n + 1 => by rw [msr, wI_ne (by omega)]; exact msr_o h n
theorem msr_sm {i : Nat} {D : Nat → Nat} {S : Sg} {lo hi : Nat} (h : sb i + 2 < lo ∨ hi ≤ sb i + 2) : ∀ n, sm lo hi S (msr i D S n)
  | 0 => sm_rfl _ _ _
  | n + 1 => sm_tr (msr_sm h n) (sm_wI h)
theorem msr_d {i : Nat} {D : Nat → Nat} {S : Sg} (h0 : S.1 (sb i + 2) 0 = zI (D 0)) : ∀ n r, r ≤ n → (msr i D S n).1 (sb i + 2) r = zI (D r)
  | 0, r, h => by rw [show r = 0 by omega]; exact h0
  | n + 1, r, h => by
    rw [msr]
    by_cases e : r = n + 1
    · rw [e, wI_eq]
    · rw [wI_ne (.inr e)]; exact msr_d h0 n r (by omega)
theorem f6_measure {i W : Nat} {S : Sg} {L D : Nat → Nat} (hW : W ≤ 6) (h8 : S.1 (sb i) 8 = zI W) (hL : ∀ j, j < W → S.1 (sb i + 1) j = zI (L j)) (h0 : S.1 (sb i + 2) 0 = zI (D 0)) (hD : ∀ n, D (n + 1) = D n + L n) : F_X6_measure i S = some (msr i D S W) := by
  have q := loopE (fun n x => T_X6_measure_2 i n (zI x) (msr i D S x)) W (some (msr i D S W)) (by omega) (fun n => by
    simp only [T_X6_measure_2]
    rw [msr_o (by omega), h8, if_le_t (by omega) (by omega)]) (fun n x hx => by
    simp only [T_X6_measure_2]
    rw [msr_o (by omega), h8, if_le_f hx (by omega), zSu, chk_N (by omega) (by omega), chk_N (by omega) (by omega), chk_N (by omega) (by omega), z_tnN (by omega), z_tnN (by omega), msr_d h0 x x (Nat.le_refl _), msr_o (.inl (by omega)), hL x hx, z_add, nm, msr, hD x]
    exact congrArg (fun z => T_X6_measure_2 i n (zI ((x + 1 : Nat) : Int)) (wI (msr i D S x) (sb i + 2) (x + 1) (zI z))) (by push_cast; rfl))
  rw [F_X6_measure, show T_X6_measure_2 i FU 0 S = _ from q]; rfl
