/-! ===== the street of the object, the kept one, the law's own numbers ===== -/
def wf (a : AS) : Prop := WG a ∧ WT a ∧ WH a
def Nw (a : AS) (S : Sg) : Prop := CG 0 S a ∧ CT 0 S a ∧ CH 0 S a
def Kp (a : AS) (S : Sg) : Prop := S.1 4 0 = 1 ∧ CG 2 S a ∧ CT 2 S a ∧ CH 2 S a
def La (a : AS) (S : Sg) : Prop := S.1 102 0 = zI (aP a) ∧ S.1 102 1 = zI (aW a) ∧ S.1 102 2 = zI (aT a) ∧ ∀ j, j < aW a → S.1 101 j = zI (aL a j)
/-- the kept street and the law's numbers stand -/
def kps (S S' : Sg) : Prop := sm 60 73 S S' ∧ sm 99 105 S S' ∧ ∀ n, S'.1 4 n = S.1 4 n
def al (S S' : Sg) : Prop := sm 34 47 S S' ∧ kps S S'
def Iv (a : AS) (S : Sg) : Prop := Nw a S ∧ Kp a S ∧ La a S
theorem CH_sm {i : Nat} {σ σ' : Sg} {a : AS} (e : sm (sb i) (sb i + 13) σ σ') (c : CH i σ a) : CH i σ' a := CH_k (fun c n q => e (sb i + c) (by omega) (by omega) n) c
theorem Nw_s {a : AS} {S S' : Sg} (h : Nw a S) (e : sm 34 47 S S') : Nw a S' := ⟨CG_sm (i := 0) e h.1, CT_sm (i := 0) e h.2.1, CH_sm (i := 0) e h.2.2⟩
theorem Kp_s {a : AS} {S S' : Sg} (h : Kp a S) (e : kps S S') : Kp a S' := ⟨(e.2.2 0).trans h.1, CG_sm (i := 2) e.1 h.2.1, CT_sm (i := 2) e.1 h.2.2.1, CH_sm (i := 2) e.1 h.2.2.2⟩
theorem La_s {a : AS} {S S' : Sg} (h : La a S) (e : kps S S') : La a S' := ⟨(e.2.1 102 (by decide) (by decide) 0).1.trans h.1, (e.2.1 102 (by decide) (by decide) 1).1.trans h.2.1, (e.2.1 102 (by decide) (by decide) 2).1.trans h.2.2.1, fun j hj => (e.2.1 101 (by decide) (by decide) j).1.trans (h.2.2.2 j hj)⟩
theorem kps_rfl (S : Sg) : kps S S := ⟨sm_rfl _ _ _, sm_rfl _ _ _, fun _ => rfl⟩
theorem kps_tr {S S1 S2 : Sg} (h : kps S S1) (h2 : kps S1 S2) : kps S S2 := ⟨sm_tr h.1 h2.1, sm_tr h.2.1 h2.2.1, fun n => (h2.2.2 n).trans (h.2.2 n)⟩
theorem al_rfl (S : Sg) : al S S := ⟨sm_rfl _ _ _, kps_rfl _⟩
theorem al_tr {S S1 S2 : Sg} (h : al S S1) (h2 : al S1 S2) : al S S2 := ⟨sm_tr h.1 h2.1, kps_tr h.2 h2.2⟩
theorem Iv_al {a : AS} {S S' : Sg} (h : Iv a S) (e : al S S') : Iv a S' := ⟨Nw_s h.1 e.1, Kp_s h.2.1 e.2, La_s h.2.2 e.2⟩
theorem al_told (S : Sg) (v : Int32) : al S (wI S 0 10 v) := ⟨sm_wI (by decide), sm_wI (by decide), sm_wI (by decide), fun n => wI_ne (by omega)⟩
theorem asked_t (S : Sg) (v : Int32) : F_X8_asked (wI S 0 10 v) = some v := by
  show some ((wI S 0 10 v).1 0 10) = some v
  rw [wI_eq]
/-! hearing -/
theorem m_heard {a : AS} {S : Sg} (n : Nw a S) (w : wf a) {x : Nat} {s : Int32} (hx : x < aP a) (hs : sub (aP a) s) (hsx : tb s x = false) : F_X8_heard S (zI x) s = some (hb a x s) := by
  have wP := w.1.1
  have p7 := pow8 (n := aP a) (by omega)
  obtain ⟨k, hk, rfl⟩ := sub_z (by omega) hs
  unfold F_X8_heard
  rw [f8_isOne n.1 w.1 ⟨by omega, by omega⟩, bd_some, inZ_y (by omega), t0, f8_isSet n.1 w.1 ⟨by omega, by omega⟩, bd_some, inZ_y (by omega), t0, has_if (by omega), hsx, if_neg (by decide), f6_who n.1 w.1 hx, bd_some]
theorem few_t {ok : Nat → Bool} : ∀ n, n ≤ 256 → (few ok n = -9 ∧ ∀ m, m < n → ok m = false) ∨ ∃ m, m < n ∧ few ok n = zI m ∧ ok m = true
  | 0, _ => .inl ⟨rfl, fun m h => absurd h (Nat.not_lt_zero _)⟩
  | n + 1, h => by
    rw [few]
    rcases few_t (ok := ok) n (by omega) with ⟨h1, h2⟩ | ⟨m, h1, h2, h3⟩
    · cases e : ok n
      · left
        rw [Bool.and_false, if_neg (by decide)]
        refine ⟨h1, fun m hm => ?_⟩
        by_cases q : m = n
        · rw [q]; exact e
        · exact h2 m (by omega)
      · right
        rw [h1, decide_eq_true (rfl : (-9 : Int32) = -9), Bool.true_or, Bool.true_and, if_pos rfl]
        exact ⟨n, by omega, rfl, e⟩
    · right
      split
      · rename_i q
        rw [Bool.and_eq_true] at q
        exact ⟨n, by omega, rfl, q.2⟩
      · exact ⟨m, by omega, h2, h3⟩
theorem m_hush {a : AS} {S : Sg} (n : Nw a S) (w : wf a) {x : Nat} (hx : x < aP a) : ∃ q, sub (aP a) q ∧ tb q x = false ∧ hb a x q = 0 ∧ F_X8_hush S (zI x) = some (zI (pc q), wI S 0 10 q) := by
  have wP := w.1.1
  have p7 := pow8 (n := aP a) (by omega)
  unfold F_X8_hush
  rw [f8_isOne n.1 w.1 ⟨by omega, by omega⟩, bd_some, inZ_y (by omega), t0, f8_hush n.1 w.1 hx, bd_some]
  rcases few_t (ok := okH a x) (2 ^ aP a) (by omega) with ⟨h1, h2⟩ | ⟨m, h1, h2, h3⟩
  · exfalso
    have ht : sub (aP a) (orU (aP a) (fun j => decide (j ≠ x))) := sub_orU (by omega)
    have htb : ∀ j, j < aP a → tb (orU (aP a) (fun j => decide (j ≠ x))) j = decide (j ≠ x) := fun j hj => by rw [tb_orU _ (by omega) _ (by omega), decide_eq_true hj, Bool.true_and]
    obtain ⟨k, hk, e⟩ := sub_z (by omega) ht
    have h3 := h2 k hk
    rw [e] at htb
    have e0 : hb a x (zI k) = 0 := by
      refine sub_ext (n := aP a) (by omega) (hb_sub w.1) (sub_0 _) (fun j hj => ?_)
      rw [tb_hb w.1 hj, tb_0]
      unfold hbP
      rw [htb j hj]
      cases decide (j ≠ x) <;> rfl
    unfold okH at h3
    rw [htb x hx, e0] at h3
    simp at h3
  · unfold okH at h3
    rw [Bool.and_eq_true, Bool.not_eq_true', decide_eq_true_eq] at h3
    have hs : sub (aP a) (zI m) := z_sub_ (by omega) h1
    refine ⟨zI m, hs, h3.1, h3.2, ?_⟩
    rw [h2, f8_tellSet (sub_mono (by omega) hs), bd_some]
theorem m_leak {a : AS} {S : Sg} (n : Nw a S) (w : wf a) {s : Int32} (hs : sub (aP a) s) : F_X8_leak S s = some (orU (aP a) (fun x => decide (cir a x = s))) := by
  have wP := w.1.1
  have p7 := pow8 (n := aP a) (by omega)
  obtain ⟨k, hk, rfl⟩ := sub_z (by omega) hs
  unfold F_X8_leak
  rw [f8_isSet n.1 w.1 ⟨by omega, by omega⟩, bd_some, inZ_y (by omega), t0, f8_leak n.1 w.1, bd_some]
theorem cir_sub {a : AS} (w : wf a) {x : Nat} (hx : x < aP a) : sub (aP a) (cir a x) := sub_or (hb_sub w.1) (sub_one hx (by have := w.1.1; omega))
theorem tw_y {a : AS} {x y : Nat} (hx : x < aP a) (hy : y < aP a) (hxy : x ≠ y) : twB a x y = true := by
  unfold twB
  rw [inZ_y (by omega), inZ_y (by omega), decide_eq_false (by omega)]
  rfl
theorem m_hears {a : AS} {S : Sg} (c : CG 0 S a) (w : WG a) {x y : Nat} (hx : x < aP a) (hy : y < aP a) (hxy : x ≠ y) : F_X8_hears S (zI x) (zI y) = some (bI (hr1 a x y), wI S 0 10 (zI (com a (aR a x) y))) := by
  have wP := w.1
  rw [F_X8_hears, f8_two c w ⟨by omega, by omega⟩ ⟨by omega, by omega⟩, tw_y hx hy hxy, bd_some, t0, chk_N (by omega) (by omega), z_tnN (by omega), c.2.2.2.2.2 x hx, f6_com c w (w.2.2.2.2.2 x) hy, bd_some, nm, f6_hb1 (CG_told c) w hx hy, bd_some]
  cases hr1 a x y <;> rfl
theorem m_tearOff {a : AS} {S : Sg} (n : Nw a S) (w : wf a) {x y : Nat} (hx : x < aP a) (hy : y < aP a) (hxy : x ≠ y) :
    (sk 4 (aK a x) ≤ com a (aR a x) y ∧ F_X8_tearOff S (zI x) (zI y) = some (0, wI S 0 10 (-9))) ∨
    (F_X8_tearOff S (zI x) (zI y) = some (-9, S)) ∨
    ∃ X p : Nat, 0 < X ∧ X < 1000 ∧ (X : Int) = sk 4 (aK a x) - com a (aR a x) y ∧ p < aW a ∧ bet (aR a x) (aR a y) p = true ∧ X ≤ aL a p ∧ F_X8_tearOff S (zI x) (zI y) = some (zI X, wI S 0 10 (zI p)) := by
  obtain ⟨cg, ct, ch⟩ := n
  obtain ⟨wg, wt, wh⟩ := w
  have wP := wg.1
  have wW := wg.2.1
  have wK := wg.2.2.2.2.1 x
  have wRm := wg.2.2.2.2.2 x
  have wRn := wg.2.2.2.2.2 y
  have hc := com_b wg (f := y) wRm
  have h4 := sk_b4 wK
  have cm : ∀ {α : Type} (K : Option α), chk (inB (zI x) 7) K = K := fun K => chk_N (by omega) (by omega)
  have cn : ∀ {α : Type} (K : Option α), chk (inB (zI y) 7) K = K := fun K => chk_N (by omega) (by omega)
  unfold F_X8_tearOff
  simp only [cm, cn]
  rw [f8_two cg wg ⟨by omega, by omega⟩ ⟨by omega, by omega⟩, tw_y hx hy hxy, bd_some, t0, z_tnN (by omega), z_tnN (by omega), cg.2.2.2.2.1 x hx, cg.2.2.2.2.2 x hx, cg.2.2.2.2.2 y hy, chk_N wK (by omega), z_tnN (by omega), f6_com cg wg wRm hy, bd_some, sk_z, z_sub, nm, if_0lt (by omega) (by omega)]
  by_cases q : sk 4 (aK a x) ≤ com a (aR a x) y
  · left
    rw [if_neg (by omega), nm]
    exact ⟨q, rfl⟩
  right
  obtain ⟨X, hX⟩ : ∃ X : Nat, (X : Int) = sk 4 (aK a x) - com a (aR a x) y := ⟨(sk 4 (aK a x) - com a (aR a x) y).toNat, by omega⟩
  rw [if_pos (by omega), ← hX]
  have emin : (if zI (aR a y) < zI (aR a x) then zI (aR a y) else zI (aR a x)) = zI ((min (aR a x) (aR a y) : Nat) : Int) := by
    rw [if_ltZ (by omega) (by omega) (by omega) (by omega)]
    by_cases c : (aR a y : Int) < aR a x
    · rw [if_pos c]; exact congrArg zI (by omega)
    · rw [if_neg c]; exact congrArg zI (by omega)
  have emax : (if zI (aR a x) < zI (aR a y) then zI (aR a y) else zI (aR a x)) = zI ((max (aR a x) (aR a y) : Nat) : Int) := by
    rw [if_ltZ (by omega) (by omega) (by omega) (by omega)]
    by_cases c : (aR a x : Int) < aR a y
    · rw [if_pos c]; exact congrArg zI (by omega)
    · rw [if_neg c]; exact congrArg zI (by omega)
  simp only [nm]
  rw [emin, emax]
  have hbet : ∀ w, bet (aR a x) (aR a y) w = true ↔ min (aR a x) (aR a y) ≤ w ∧ w < max (aR a x) (aR a y) := fun w => by
    unfold bet
    rw [decide_eq_true_eq]
    omega
  rcases frs (p := fun w => bet (aR a x) (aR a y) w && decide (X ≤ aL a w)) (aW a) with hn' | ⟨p, hp, hp1, hp2⟩
  · left
    have k8 := f8_t0 wg cg (X := X) (lo := min (aR a x) (aR a y)) (hi := max (aR a x) (aR a y)) (by omega) (by omega) (fun j h1 h2 h3 => by
      have := hn' j (by omega)
      rw [(hbet j).mpr ⟨h1, h2⟩, decide_eq_true h3] at this
      cases this) (max (aR a x) (aR a y) - min (aR a x) (aR a y)) (min (aR a x) (aR a y)) (by omega) (Nat.le_refl _) FU (by unfold FU; omega)
    rw [k8, bd_some]
  · right
    rw [Bool.and_eq_true, decide_eq_true_eq] at hp1
    have hpb := (hbet p).mp hp1.1
    have k8 := f8_t wg cg (X := X) (lo := min (aR a x) (aR a y)) (hi := max (aR a x) (aR a y)) (by omega) (by omega) hpb.2 hp1.2 (fun j h1 h2 h3 => by
      have := hp2 j h2
      rw [(hbet j).mpr ⟨h1, by omega⟩, decide_eq_true h3] at this
      cases this) (p - min (aR a x) (aR a y)) (min (aR a x) (aR a y)) (by omega) (Nat.le_refl _) FU (by unfold FU; omega)
    rw [k8, bd_some]
    exact ⟨X, p, by omega, by omega, rfl, hp, hp1.1, hp1.2, rfl⟩
/-! a wall -/
def lay1 (a : AS) (w v : Nat) : AS := setN a 1 (fun j => if j = w then v else aL a j)
theorem lay1_L {a : AS} {w v j : Nat} : aL (lay1 a w v) j = if j = w then v else aL a j := rfl
theorem m_wall {a : AS} {S : Sg} (cg : CG 0 S a) (wg : WG a) {w v : Nat} (hw : w < aW a) (hv : v ≤ 20) : ∃ S', F_X8_wall S (zI w) (zI v) = some (zI (aL a w), S') ∧ CG 0 S' (lay1 a w v) ∧ WG (lay1 a w v) ∧ sm 0 35 S S' ∧ sm 37 105 S S' := by
  have wW := wg.2.1
  have e34 : sb 0 = 34 := rfl
  have L' : ∀ j, aL (lay1 a w v) j = if j = w then v else aL a j := fun _ => rfl
  have c1 : ∀ j, j < aW a → (wI S (sb 0 + 1) w (zI v)).1 (sb 0 + 1) j = zI (aL (lay1 a w v) j) := fun j hj => by
    rw [L', wI_1, if_pos rfl]
    by_cases q : j = w
    · rw [if_pos q, if_pos q]
    · rw [if_neg q, if_neg q, cg.2.2.1 j hj]
  have c0 : (wI S (sb 0 + 1) w (zI v)).1 (sb 0 + 2) 0 = zI (aD (lay1 a w v) 0) := (wI_ne (.inl (by decide))).trans (cg.2.2.2.1 0 (Nat.zero_le _))
  have wg' : WG (lay1 a w v) := ⟨wg.1, wg.2.1, wg.2.2.1, fun j => by
    rw [L']
    have := wg.2.2.2.1 j
    split <;> omega, wg.2.2.2.2.1, wg.2.2.2.2.2⟩
  have sm1 : ∀ lo hi, 37 ≤ lo ∨ hi ≤ 35 → sm lo hi S (msr 0 (aD (lay1 a w v)) (wI S (sb 0 + 1) w (zI v)) (aW a)) := fun lo hi q => sm_tr (sm_wI (by show 35 < lo ∨ hi ≤ 35; omega)) (msr_sm (by show 36 < lo ∨ hi ≤ 36; omega) _)
  have o1 : ∀ c n, c ≠ 35 → c ≠ 36 → (msr 0 (aD (lay1 a w v)) (wI S (sb 0 + 1) w (zI v)) (aW a)).1 c n = S.1 c n := fun c n q q2 => (msr_o (.inl q2) _).trans (wI_ne (.inl q))
  refine ⟨msr 0 (aD (lay1 a w v)) (wI S (sb 0 + 1) w (zI v)) (aW a), ?_, ⟨(o1 _ _ (by decide) (by decide)).trans cg.1, (o1 _ _ (by decide) (by decide)).trans cg.2.1, fun j hj => (msr_o (.inl (by decide)) _).trans (c1 j hj), fun r hr => msr_d c0 _ r hr, fun x hx => (o1 _ _ (by decide) (by decide)).trans (cg.2.2.2.2.1 x hx), fun x hx => (o1 _ _ (by decide) (by decide)).trans (cg.2.2.2.2.2 x hx)⟩, wg', sm1 _ _ (by decide), sm1 _ _ (by decide)⟩
  unfold F_X8_wall
  simp only [nm]
  rw [cg.2.1, if_lt0 (by omega) (by omega), if_lt0 (by omega) (by omega), if_leZ (by omega) (by omega) (by omega) (by omega), show (20 : Int32) = zI 20 from rfl, if_leZ (by omega) (by omega) (by decide) (by decide), if_neg (by omega), if_neg (by omega), if_neg (by omega), if_pos (by omega), chk_N (by omega) (by omega), chk_N (by omega) (by omega), z_tnN (by omega), cg.2.2.1 w hw, f6_measure (S := wI S (sb 0 + 1) w (zI v)) (W := aW a) (L := aL (lay1 a w v)) (D := aD (lay1 a w v)) wW ((wI_ne (.inl (by decide))).trans cg.2.1) c1 c0 (fun _ => rfl), bd_some]
/-! talks -/
theorem m_cover {a : AS} {S : Sg} (n : Nw a S) (w : wf a) {k : Nat} (hk : k < aT a) : (F_X8_cover S (zI k) = some (-9, S) ∧ ∀ m : Nat, m < 2 ^ aP a → saf a k (zI m) = false) ∨ ∃ q, sub (aP a) q ∧ saf a k q = true ∧ F_X8_cover S (zI k) = some (zI (pc q), wI S 0 10 q) := by
  have wP := w.1.1
  have wT := w.2.1.1
  have p7 := pow8 (n := aP a) (by omega)
  unfold F_X8_cover
  rw [if8_talk n.2.1 w.2.1 ⟨by omega, by omega⟩, if_0le (by omega) (by omega), if_pos (by omega), if_pos (by omega), f8_cover n.1 n.2.1 w.1 w.2.1 hk, bd_some]
  rcases few_t (ok := fun n => saf a k (zI n)) (2 ^ aP a) (by omega) with ⟨h1, h2⟩ | ⟨m, h1, h2, h3⟩
  · left
    rw [h1]
    exact ⟨rfl, h2⟩
  · right
    have hs : sub (aP a) (zI m) := z_sub_ (by omega) h1
    refine ⟨zI m, hs, h3, ?_⟩
    rw [h2, f8_tellSet (sub_mono (by omega) hs), bd_some]
theorem m_safe {a : AS} {S : Sg} (cg : CG 0 S a) (ct : CT 0 S a) (wg : WG a) (wt : WT a) {k : Nat} (hk : k < aT a) {s : Int32} (hs : sub (aP a) s) : ∃ v, F_X8_safe S (zI k) s = some (bI (saf a k s), wI S 0 10 v) := by
  have wP := wg.1
  have wT := wt.1
  have p7 := pow8 (n := aP a) (by omega)
  have wk := wt.2 k hk
  obtain ⟨m, hm, rfl⟩ := sub_z (by omega) hs
  unfold F_X8_safe
  rw [if8_talk ct wt ⟨by omega, by omega⟩, if_lt0 (by omega) (by omega), if_neg (by omega), f8_isSet cg wg ⟨by omega, by omega⟩, bd_some, inZ_y (by omega), t0, if_pos (by omega), chk_N (by omega) (by omega), z_tnN (by omega), ct.2.1 k hk, f6_who cg wg wk.1, bd_some, chk_N (by omega) (by omega), nm, f6_saf (CG_told cg) (CT_told ct) wg wt hk, bd_some]
  cases saf a k (zI m)
  · exact ⟨_, rfl⟩
  · exact ⟨_, rfl⟩
theorem m_at {S : Sg} {W i : Nat} (hW : W ≤ 6) (hi : i < W) (h : S.1 16 1 = zI W) : F_X8_at S 1 (zI i) = some (1, wI S 0 10 (S.1 17 i)) := by
  have k := f8_atE (σ := S) (y := i) ⟨by omega, by omega⟩ (u := 1) (z := W) (by decide) h (by omega) (by omega)
  rw [show (1 : Int32) = zI ((1 : Nat) : Int) from rfl, k, if_neg (by omega), inZ_y (by omega), if_pos rfl]
  exact congrArg (fun j => some ((1 : Int32), wI S 0 10 (S.1 17 j))) (Int.toNat_natCast i)
theorem m_on {a : AS} {S : Sg} (k : Kp a S) (w : wf a) : ∃ S', F_X8_on S 0 = some (zI (aH a), S') ∧ Nw a S' ∧ sm 0 34 S S' ∧ sm 47 105 S S' := by
  obtain ⟨h1, hc⟩ := k
  have hc' := C_bec (S := S) (i := 0) (j := 2) (by omega) w.1 w.2.1 w.2.2 hc
  refine ⟨bec 0 2 S, ?_, hc', bec_sm (by decide), bec_sm (by decide)⟩
  unfold F_X8_on
  rw [show (0 : Int32) = zI ((0 : Nat) : Int) from rfl, f8_isPlace ⟨by omega, by omega⟩, bd_some, inZ_y (by omega), ← zN0, t0, zN0, chk_N (by omega) (by omega), z_tnN (by omega), h1, if_neg (by decide), chk_N (by omega) (by omega), f6_become (by omega), bd_some]
  show some ((bec 0 2 S).1 (sb 0 + 8) 5, bec 0 2 S) = _
  rw [hc'.2.2.1]
theorem sm_al {S S' : Sg} (h : sm 0 34 S S') (h2 : sm 47 105 S S') : kps S S' := ⟨sm_in h2 (by decide) (by decide), sm_in h2 (by decide) (by decide), fun n => (h 4 (by decide) (by decide) n).1⟩
/-! who knows -/
theorem m_know {a : AS} {S : Sg} (n : Nw a S) (w : wf a) {t : Nat} (ht : t < 8) : F_X8_know S (zI t) = some (aN a t) := by
  have wP := w.1.1
  unfold F_X8_know
  rw [f8_isThing ⟨by omega, by omega⟩, bd_some, inZ_y (by omega), t0, f1_who n.2.2.2.2.2.2.2 ht (sub_mono (by omega) (w.2.2.2.2.1 t)), bd_some]
theorem m_spread {a : AS} {S : Sg} (n : Nw a S) (w : wf a) {t k : Nat} (ht : t < 8) (hk : k ≤ 20) : F_X8_spread S (zI t) (zI k) = some (spN a (aN a t) k) := by
  have wP := w.1.1
  unfold F_X8_spread
  rw [f8_isThing ⟨by omega, by omega⟩, bd_some, inZ_y (by omega), t0, if_lt0 (by omega) (by omega), if_neg (by omega), show (20 : Int32) = zI 20 from rfl, if_leZ (by omega) (by omega) (by decide) (by decide), if_pos (by omega), f1_who n.2.2.2.2.2.2.2 ht (sub_mono (by omega) (w.2.2.2.2.1 t)), bd_some, f8_sp n.1 w.1 hk, bd_some]
theorem m_kns {a : AS} {S : Sg} (n : Nw a S) (w : wf a) {x y t : Nat} (hx : x < aP a) (hy : y < aP a) (hxy : x ≠ y) (ht : t < 8) : F_X8_knowsThat S (zI x) (zI y) (zI t) = some (bI (anyB (kns a x y t (hr1 a x y)) (aH a))) := by
  have wP := w.1.1
  unfold F_X8_knowsThat
  rw [f8_two n.1 w.1 ⟨by omega, by omega⟩ ⟨by omega, by omega⟩, tw_y hx hy hxy, bd_some, t0, f8_isThing ⟨by omega, by omega⟩, bd_some, inZ_y (by omega), t0, f6_hb1 n.1 w.1 hx hy, bd_some, f8_kns n.2.2 w.1 w.2.2 hx hy ht]
  cases anyB (kns a x y t (hr1 a x y)) (aH a) <;> rfl
