/-! ===== people and rooms ===== -/
def kpM (μ μ' : Sg) : Prop := (∀ n, n = 7 ∨ n = 8 ∨ n = 17 ∨ n = 18 → μ'.1 0 n = μ.1 0 n) ∧ ∀ c, 1 ≤ c ∧ c < 6 ∨ c = 14 ∨ c = 25 ∨ c = 26 → ∀ n, μ'.1 c n = μ.1 c n
theorem R_new {σ σ' μ μ' : Sg} (h : R σ μ) (s : St 0 σ' μ') (e1 : sm 0 34 σ σ') (e2 : sm 47 99 σ σ') (e3 : kpM μ μ') : R σ' μ' := by
  obtain ⟨h1, h2, h3, h4, h5, h6⟩ := h
  refine ⟨s, RA_cg h2 (sm_in e1 (by decide) (by decide)) ⟨e3.1 _ (by decide), e3.1 _ (by decide), fun n => e3.2 _ (by decide) n⟩, RR_cg h3 (sm_in e1 (by decide) (by decide)) (fun n => e3.2 _ (by decide) n) (fun n => e3.2 _ (by decide) n), RT_cg h4 (sm_in e1 (by decide) (by decide)) (fun n => e3.2 _ (by decide) n) (fun n => e3.2 _ (by decide) n), ?_, RK_cg h6 (sm_in e2 (by decide) (by decide)) (fun k => (e1 4 (by decide) (by decide) k).1) (fun n => e3.2 _ (by decide) n) ⟨e3.1 _ (by decide), e3.1 _ (by decide), fun n => e3.2 _ (by decide) n, fun n _ => e3.2 _ (by decide) n⟩⟩
  exact ((e2 49 (by decide) (by decide) 0).1).trans h5
def ptr (a : AS) (f e : Nat) : Int32 := if e = 0 then zI (aK a f) else if e = 1 then zI (aR a f) else if e = 2 then zI (sk 2 (aK a f)) else if e = 3 then zI (sk 3 (aK a f)) else orU 8 (fun t => tb (aN a t) f)
theorem f6_tr {i : Nat} {S : Sg} {a : AS} (c : CG i S a) (ch : CH i S a) (w : WG a) (wh : WH a) {f e : Nat} (hf : f < aP a) (he : e < 5) : F_X6_trait i S (zI f) (zI e) = some (ptr a f e) := by
  have wP := w.1
  have wK := w.2.2.2.2.1 f
  have h5 : e = 0 ∨ e = 1 ∨ e = 2 ∨ e = 3 ∨ e = 4 := by omega
  have x0 : ∀ K : Option Int32, chk (inB (zI f) 7) K = K := fun K => chk_N (by omega) (by omega)
  have x1 : ∀ K : Option Int32, chk (inB (zI (aK a f)) 6) K = K := fun K => chk_N wK (by omega)
  rw [F_X6_trait, f1_things ch.2.2.2.2.2 w wh hf, z_tnN (by omega), c.2.2.2.2.1 f hf, c.2.2.2.2.2 f hf]
  simp only [x0, x1]
  rw [z_tnN (by omega), sk_z, sk_z]
  rcases h5 with rfl | rfl | rfl | rfl | rfl <;> rfl
theorem f9_tr {S : Sg} {a : AS} (c : MG S a) (ch : MH S a) (w : WG a) (wh : WH a) {f e : Nat} (hf : f < aP a) (he : e < 5) : F_X9_personOf S (zI f) (zI e) = some (ptr a f e) := by
  have wP := w.1
  have wK := w.2.2.2.2.1 f
  have h5 : e = 0 ∨ e = 1 ∨ e = 2 ∨ e = 3 ∨ e = 4 := by omega
  have x0 : ∀ K : Option Int32, chk (inB (zI f) 7) K = K := fun K => chk_N (by omega) (by omega)
  have x1 : ∀ K : Option Int32, chk (inB (zI (aK a f)) 6) K = K := fun K => chk_N wK (by omega)
  rw [F_X9_personOf, f9_things ch w wh hf, bd_some, z_tnN (by omega), c.2.2.2.1 f hf, c.2.2.2.2 f hf, f9_speaks wK, f9_sings wK, bd_some, bd_some]
  simp only [x0]
  rcases h5 with rfl | rfl | rfl | rfl | rfl <;> rfl
theorem s_person : st_person R := by
  intro σ μ a1 a2 h
  obtain ⟨x, hx1, hx2, rfl⟩ := arg a1
  obtain ⟨y, hy1, hy2, rfl⟩ := arg a2
  obtain ⟨a, ⟨wg, wt, wh⟩, ⟨cg, ct, ch⟩, ⟨mg, mt, mh⟩⟩ := h.1
  unfold F_X8_person F_X9_person
  rw [f8_isOne cg wg ⟨hx1, hx2⟩, f9_isOne mg wg ⟨hx1, hx2⟩, bd_some, bd_some, inZ_in (l := 0) (h := 4) ⟨hy1, hy2⟩ (by decide) (by decide) (by decide) (by decide), bd_some, if_lt0 hy1 hy2, show (5 : Int32) = zI 5 from rfl, if_ltZ hy1 hy2 (by decide) (by decide)]
  cases e : inZ 0 (aP a - 1) x
  · exact ⟨-1, σ, μ, rfl, rfl, h⟩
  · rw [t0, t0]
    cases e1 : inZ 0 4 y
    · refine ⟨-1, σ, μ, ?_, rfl, h⟩
      rcases inZ_f e1 with e1 | e1
      · rw [if_pos e1]
      · rw [if_neg (c := y < 5) (by omega), ite_self]
    · have h2 := inZ_t e1
      obtain ⟨m, rfl, hm⟩ := inZ_n e
      obtain ⟨n, rfl⟩ : ∃ n : Nat, y = n := ⟨y.toNat, by omega⟩
      rw [t0, if_neg (by omega), if_pos (by omega), f6_tr cg ch wg wh (by omega) (by omega), f9_tr mg mh wg wh (by omega) (by omega), bd_some, bd_some, f9_say, bd_some]
      exact ⟨_, _, _, rfl, rfl, R_told h _⟩
/-! marks -/
def isk (k v : Nat) : Bool := decide (k = v) || decide (skv 1 k = zI v)
theorem f2_isof {S : Sg} {k v : Nat} (hk : k < 6) (hv : v < 6) : F_X2_isOf S (zI k) (zI v) = some (bI (isk k v)) := by
  have q : ∀ k, k < 6 → ∀ v, v < 6 → F_X2_isOf (fun _ _ => 0, fun _ _ => 0) (zI ((k : Nat) : Int)) (zI ((v : Nat) : Int)) = some (bI (isk k v)) := by decide +kernel
  exact q k hk v hv
theorem f9_isof {S : Sg} {k v : Nat} (hk : k < 6) (hv : v < 6) (hv0 : 0 < v) : F_X9_isKind S (zI k) (zI v) = some (bI (isk k v)) := by
  have q : ∀ k, k < 6 → ∀ v, v < 6 → 0 < v → F_X9_isKind (fun _ _ => 0, fun _ _ => 0) (zI ((k : Nat) : Int)) (zI ((v : Nat) : Int)) = some (bI (isk k v)) := by decide +kernel
  exact q k hk v hv hv0
theorem isk_35 : ∀ k, k < 6 → (isk k 3 = true → k = 3) ∧ (isk k 5 = true → k = 5) := by decide
theorem cnt_s {n : Nat} {p : Nat → Bool} : zI (cnt n p) + (if p n = true then 1 else 0) = zI (cnt (n + 1) p) := by
  rw [cnt]
  cases p n
  · rw [if_neg (by decide), if_neg (by decide), z_0, z_add]; exact congrArg zI (by omega)
  · rw [if_pos rfl, if_pos rfl]; exact zS _
theorem f6_heardAs {i : Nat} {S : Sg} {a : AS} (c : CG i S a) (w : WG a) {f k : Nat} (hf : f < aP a) (hk : k < 6) : F_X6_howManyHeardAs i S (zI f) (zI k) = some (zI (cnt (aP a) (fun x => !decide (x = f) && hea k (com a (aR a f) x) 0))) := by
  have wP := w.1
  have q := loopE (fun n x => T_X6_howManyHeardAs_5 i S (zI f) (zI k) n (zI (cnt x (fun x => !decide (x = f) && hea k (com a (aR a f) x) 0))) (zI x)) (aP a) (some (zI (cnt (aP a) (fun x => !decide (x = f) && hea k (com a (aR a f) x) 0)))) (by omega) (fun n => by
    simp only [T_X6_howManyHeardAs_5]
    rw [c.1, if_le_t (by omega) (by omega)]) (fun n x hx => by
    have hb := com_b w (w.2.2.2.2.2 f) (f := x)
    simp only [T_X6_howManyHeardAs_5]
    rw [c.1, if_le_f hx (by omega), chk_N (by omega) (by omega), z_tnN (by omega), c.2.2.2.2.2 f hf, f6_com c w (w.2.2.2.2.2 f) hx, bd_some, en0 hk (by omega) (by omega), bd_some, bI_z, zS x, ← cnt_s]
    by_cases e : x = f
    · rw [if_eqN_t e, decide_eq_true e, if_neg (c := (!true && _) = true) (by simp)]
      rw [show zI (cnt x fun x => !decide (x = f) && hea k (com a (aR a f) x) 0) + 0 = zI (cnt x fun x => !decide (x = f) && hea k (com a (aR a f) x) 0) from Int32.add_zero _]; rfl
    · rw [if_eqN_f e (by omega) (by omega), decide_eq_false e]
      cases hea k (com a (aR a f) x) 0
      · rw [if_neg (by decide), if_neg (by simp)]
        rw [show zI (cnt x fun x => !decide (x = f) && hea k (com a (aR a f) x) 0) + 0 = zI (cnt x fun x => !decide (x = f) && hea k (com a (aR a f) x) 0) from Int32.add_zero _]; rfl
      · rw [if_pos rfl, if_pos (by simp)]; rfl)
  rw [F_X6_howManyHeardAs, show T_X6_howManyHeardAs_5 i S (zI f) (zI k) FU 0 0 = _ from q]; rfl
theorem f9_many {S : Sg} {a : AS} (c : MG S a) (w : WG a) {f : Nat} (hf : f < aP a) : F_X9_manyHeard S (zI f) = some (zI (cnt (aP a) (fun x => !decide (x = f) && hea (aK a f) (com a (aR a f) x) 0))) := by
  have wP := w.1
  have q := loopE (fun n x => T_X9_manyHeard_4 S (zI f) n (zI (cnt x (fun x => !decide (x = f) && hea (aK a f) (com a (aR a f) x) 0))) (zI x)) (aP a) (some (zI (cnt (aP a) (fun x => !decide (x = f) && hea (aK a f) (com a (aR a f) x) 0)))) (by omega) (fun n => by
    simp only [T_X9_manyHeard_4]
    rw [c.1, if_le_t (by omega) (by omega)]) (fun n x hx => by
    simp only [T_X9_manyHeard_4]
    rw [c.1, if_le_f hx (by omega), f9_does c w hf hx, bd_some, bI_z, zS x, ← cnt_s]
    unfold hr1
    by_cases e : x = f
    · rw [if_eqN_t e, decide_eq_true e]; rfl
    · rw [if_eqN_f e (by omega) (by omega), decide_eq_false e, decide_eq_true (p := f ≠ x) (fun q => e q.symm)]
      cases hea (aK a f) (com a (aR a f) x) 0 <;> rfl)
  rw [F_X9_manyHeard, show T_X9_manyHeard_4 S (zI f) FU 0 0 = _ from q]; rfl
theorem f6_others {i : Nat} {S : Sg} {a : AS} (c : CG i S a) (w : WG a) {f : Nat} (hf : f < aP a) : F_X6_othersIn i S (zI f) = some (zI (-1) + zI (cnt (aP a) (fun x => decide (aR a x = aR a f)))) := by
  have wP := w.1
  have wW := w.2.1
  have q := loopE (fun n x => T_X6_othersIn_4 i S (zI f) n (zI (-1) + zI (cnt x (fun x => decide (aR a x = aR a f)))) (zI x)) (aP a) (some (zI (-1) + zI (cnt (aP a) (fun x => decide (aR a x = aR a f))))) (by omega) (fun n => by
    simp only [T_X6_othersIn_4]
    rw [c.1, if_le_t (by omega) (by omega)]) (fun n x hx => by
    have w1 := w.2.2.2.2.2 x
    have w2 := w.2.2.2.2.2 f
    simp only [T_X6_othersIn_4]
    rw [c.1, if_le_f hx (by omega), chk_N (by omega) (by omega), chk_N (by omega) (by omega), z_tnN (by omega), z_tnN (by omega), c.2.2.2.2.2 x hx, c.2.2.2.2.2 f hf, zS, ← cnt_s, ← Int32.add_assoc]
    by_cases e : aR a x = aR a f
    · rw [if_eqN_t e, decide_eq_true e]; rfl
    · rw [if_eqN_f e (by omega) (by omega), decide_eq_false e]; rfl)
  rw [F_X6_othersIn, show T_X6_othersIn_4 i S (zI f) FU (-1) 0 = _ from q]; rfl
theorem bd2 {α β γ : Type} {X : Option α} {Y : α → Option β} {g : β → Option γ} {v : β} (h : bd X (fun x => bd (Y x) (fun y => some y)) = some v) : bd X (fun x => bd (Y x) g) = g v := by
  cases X with
  | none => cases h
  | some x =>
    have h : bd (Y x) (fun y => some y) = some v := h
    show bd (Y x) g = g v
    cases hy : Y x with
    | none => rw [hy] at h; cases h
    | some y => rw [hy] at h; cases h; rfl
def mrk (a : AS) (f e x : Nat) : Bool := if e = 2 then decide (aR a x = aR a f) else hr1 a f x && !hea 0 (com a (aR a f) x) 0
theorem f9_mark {S : Sg} {a : AS} (c : MG S a) (w : WG a) {f e : Nat} (hf : f < aP a) (he : e < 6) : T_X9_mark_86 S (zI f) (zI e) FU 0 0 = some (zI (cnt (aP a) (fun x => !decide (x = f) && mrk a f e x))) := by
  have wP := w.1
  have wW := w.2.1
  refine loopE (fun n x => T_X9_mark_86 S (zI f) (zI e) n (zI (cnt x (fun x => !decide (x = f) && mrk a f e x))) (zI x)) (aP a) (some (zI (cnt (aP a) (fun x => !decide (x = f) && mrk a f e x)))) (by omega) (fun n => ?_) (fun n x hx => ?_)
  · simp only [T_X9_mark_86]
    rw [c.1, if_le_t (by omega) (by omega)]
  · have w1 := w.2.2.2.2.2 x
    have w2 := w.2.2.2.2.2 f
    have hb := com_b w w2 (f := x)
    simp only [T_X9_mark_86]
    have k : (bd (if zI e = (2 : Int32) then (chk (inB (zI x) 7) (chk (inB (zI f) 7) (if (S.1 6 (zI x).toNatClampNeg) = (S.1 6 (zI f).toNatClampNeg) then (some (1 : Int32)) else (some (0 : Int32))))) else (bd (F_X9_doesHear S (zI f) (zI x)) (fun x13 => if x13 = 0 then (some (0 : Int32)) else (chk (inB (zI f) 7) (bd (F_X9_comesTo S (S.1 6 (zI f).toNatClampNeg) (zI x)) (fun x16 => bd (F_X9_isHeard S (0 : Int32) x16 (0 : Int32)) (fun x18 => if x18 = 0 then (some (1 : Int32)) else (some (0 : Int32))))))))) (fun x9 => bd (if zI x = zI f then (some (0 : Int32)) else (if x9 = 0 then (some (0 : Int32)) else (some (1 : Int32)))) (fun x25 => some x25))) = some (if (!decide (x = f) && mrk a f e x) = true then (1 : Int32) else 0) := by
      rw [chk_N (by omega) (by omega), chk_N (by omega) (by omega), chk_N (by omega) (by omega), z_tnN (by omega), z_tnN (by omega), c.2.2.2.2 x hx, c.2.2.2.2 f hf, f9_does c w hf hx, bd_some, f9_com c w w2 hx, bd_some, ih00 (by omega) (by omega), bd_some, bI_z, bI_z]
      unfold mrk
      by_cases e2 : e = 2
      · rw [e2, if_pos (show zI ((2 : Nat) : Int) = 2 from rfl)]
        by_cases e3 : x = f
        · rw [if_eqN_t (congrArg (aR a) e3), bd_some, if_eqN_t e3, decide_eq_true e3]; rfl
        · simp only [if_neg (fun q => e3 ((zNeq (m := x) (n := f) (by omega) (by omega)).mp q)), decide_eq_false e3]
          by_cases e4 : aR a x = aR a f
          · rw [if_eqN_t e4, if_pos trivial, decide_eq_true e4]; rfl
          · rw [if_eqN_f e4 (by omega) (by omega), if_pos trivial, decide_eq_false e4]; rfl
      · rw [zN2, if_eqN_f e2 (by omega) (by omega), if_neg e2]
        by_cases e3 : x = f
        · simp only [if_pos (congrArg (fun n : Nat => zI n) e3)]
          rw [decide_eq_true e3, decide_eq_false (p := f ≠ x) (fun q => q e3.symm)]; rfl
        · simp only [if_neg (fun q => e3 ((zNeq (m := x) (n := f) (by omega) (by omega)).mp q))]
          rw [decide_eq_false e3, decide_eq_true (p := f ≠ x) (fun q => e3 q.symm)]
          cases hr1 a f x <;> cases hea 0 (com a (aR a f) x) 0 <;> rfl
    rw [c.1, if_le_f hx (by omega), zS, ← cnt_s]
    exact bd2 k
theorem cnt_cg {p q : Nat → Bool} : ∀ n, (∀ j, j < n → p j = q j) → cnt n p = cnt n q
  | 0, _ => rfl
  | n + 1, h => by rw [cnt, cnt, cnt_cg n (fun j hj => h j (by omega)), h n (by omega)]
theorem cnt_one {p : Nat → Bool} {f : Nat} (hp : p f = true) : ∀ n, f < n → cnt n p = cnt n (fun x => !decide (x = f) && p x) + 1
  | 0, h => absurd h (Nat.not_lt_zero _)
  | n + 1, h => by
    rcases Nat.lt_or_ge f n with q | q
    · rw [cnt, cnt, cnt_one hp n q, decide_eq_false (p := n = f) (by omega)]
      cases p n <;> rfl
    · have e : f = n := by omega
      subst e
      rw [cnt, cnt, if_pos hp, decide_eq_true rfl, if_neg (by simp), cnt_cg f (q := fun x => !decide (x = f) && p x) (fun j hj => by rw [decide_eq_false (by omega)]; rfl)]
theorem cnt_diff {p q : Nat → Bool} : ∀ n, (∀ j, j < n → q j = true → p j = true) → cnt n p = cnt n q + cnt n (fun x => p x && !q x)
  | 0, _ => rfl
  | n + 1, h => by
    have ih := cnt_diff n (fun j hj => h j (by omega))
    have h1 := h n (by omega)
    rw [cnt, cnt, cnt, ih]
    cases e1 : q n
    · cases p n
      · rfl
      · show _ + 1 = _; simp; omega
    · rw [h1 e1]; simp; omega
theorem s_mark : st_mark R := by
  intro σ μ a1 a2 h
  obtain ⟨x, hx1, hx2, rfl⟩ := arg a1
  obtain ⟨y, hy1, hy2, rfl⟩ := arg a2
  obtain ⟨a, ⟨wg, wt, wh⟩, ⟨cg, ct, ch⟩, ⟨mg, mt, mh⟩⟩ := h.1
  have wP := wg.1
  unfold F_X8_mark F_X9_mark
  rw [f8_isOne cg wg ⟨hx1, hx2⟩, f9_isOne mg wg ⟨hx1, hx2⟩, bd_some, bd_some, inZ_in (l := 1) (h := 5) ⟨hy1, hy2⟩ (by decide) (by decide) (by decide) (by decide), bd_some, show (6 : Int32) = zI 6 from rfl, if_ltZ hy1 hy2 (by decide) (by decide)]
  have e0 : ∀ {α : Type} {A B : α}, (if zI y ≤ 0 then A else B) = if y ≤ 0 then A else B := by
    intro α A B
    rw [z_0, if_leZ hy1 hy2 (by decide) (by decide)]
  rw [e0]
  cases e : inZ 0 (aP a - 1) x
  · exact ⟨-1, σ, μ, rfl, rfl, h⟩
  · rw [t0, t0]
    cases e1 : inZ 1 5 y
    · refine ⟨-1, σ, μ, ?_, rfl, h⟩
      rcases inZ_f e1 with e1 | e1
      · rw [if_pos (by omega)]
      · rw [if_neg (c := y < 6) (by omega), ite_self]
    · have h2 := inZ_t e1
      obtain ⟨f, rfl, hf'⟩ := inZ_n e
      obtain ⟨v, rfl⟩ : ∃ v : Nat, y = v := ⟨y.toNat, by omega⟩
      have hf : f < aP a := by omega
      have hk := wg.2.2.2.2.1 f
      have i35 := isk_35 (aK a f) hk
      rw [t0, if_neg (by omega), if_pos (by omega), chk_N (by omega) (by omega), chk_N (by omega) (by omega), z_tnN (by omega), cg.2.2.2.2.1 f hf, mg.2.2.2.1 f hf, f2_isof hk (by omega), f9_isof hk (by omega) (by omega), bd_some, bd_some]
      cases e2 : isk (aK a f) v
      · rw [f0, f0, show (3 : Int32) = zI ((3 : Nat) : Int) from rfl, f8_find (by decide), f9_find (by decide)]
        exact ⟨_, _, _, rfl, rfl, R_find h (f := 3) (by decide)⟩
      · rw [t0, t0]
        have h5 : v = 1 ∨ v = 2 ∨ v = 3 ∨ v = 4 ∨ v = 5 := by omega
        rcases h5 with rfl | rfl | rfl | rfl | rfl
        · refine ⟨zI (pc (hb a f 0)), σ, μ, ?_, ?_, h⟩
          · rw [if_pos (show zI ((1 : Nat) : Int) = 1 from rfl), f6_who cg wg hf, bd_some, f_bc (hb_sub8 wg), bd_some]
          · rw [if_pos (show zI ((1 : Nat) : Int) = 1 from rfl), f9_who mg wg hf, bd_some, f_ones (hb_sub8 wg), bd_some]
        · have q := cnt_one (p := fun x => decide (aR a x = aR a f)) (f := f) (decide_eq_true rfl) (aP a) hf
          refine ⟨zI (cnt (aP a) (fun x => !decide (x = f) && mrk a f 2 x)), σ, μ, ?_, ?_, h⟩
          · rw [if_neg (by decide), if_pos (show zI ((2 : Nat) : Int) = 2 from rfl), f6_others cg wg hf, bd_some, z_add, q]
            exact congrArg (fun z => some (zI z, σ)) (by unfold mrk; simp only [if_pos]; omega)
          · rw [if_neg (by decide), if_neg (by decide), if_neg (by decide), f9_mark mg wg hf (by decide), bd_some]
        · refine ⟨zI (cnt (aP a) (fun x => !decide (x = f) && hea 3 (com a (aR a f) x) 0)), σ, μ, ?_, ?_, h⟩
          · rw [if_neg (by decide), if_neg (by decide), if_pos (show zI ((3 : Nat) : Int) = 3 from rfl), show (3 : Int32) = zI ((3 : Nat) : Int) from rfl, f6_heardAs cg wg hf (by decide), bd_some]
          · rw [if_neg (by decide), if_neg (by decide), if_pos (show zI ((3 : Nat) : Int) = 3 from rfl), f9_many mg wg hf, bd_some, i35.1 e2]
        · refine ⟨zI (son a 3 0 ((1 : Int32) <<< (zI f &&& 31))), σ, μ, ?_, ?_, h⟩
          · rw [if_neg (by decide), if_neg (by decide), if_neg (by decide), if_pos (show zI ((4 : Nat) : Int) = 4 from rfl), zN0, f6_song cg wg (Nat.zero_le _), bd_some]
          · rw [if_neg (by decide), if_pos (show zI ((4 : Nat) : Int) = 4 from rfl), zN0, f9_noise mg wg (Nat.zero_le _), bd_some]
        · have q := cnt_diff (p := fun x => !decide (x = f) && hea 5 (com a (aR a f) x) 0) (q := fun x => !decide (x = f) && hea 0 (com a (aR a f) x) 0) (aP a) (fun j _ hj => by
            rw [Bool.and_eq_true] at hj ⊢
            refine ⟨hj.1, ?_⟩
            have h2 := hj.2
            unfold hea at h2 ⊢
            rw [if_neg (by decide), Bool.and_eq_true, decide_eq_true_eq] at h2
            rw [if_pos rfl, decide_eq_true_eq]
            omega)
          have q2 : cnt (aP a) (fun x => (!decide (x = f) && hea 5 (com a (aR a f) x) 0) && !(!decide (x = f) && hea 0 (com a (aR a f) x) 0)) = cnt (aP a) (fun x => !decide (x = f) && mrk a f 5 x) := cnt_cg _ (fun j _ => by
            unfold mrk hr1
            rw [if_neg (by decide), i35.2 e2]
            cases decide (j = f) <;> simp)
          rw [q2] at q
          refine ⟨zI (cnt (aP a) (fun x => !decide (x = f) && mrk a f 5 x)), σ, μ, ?_, ?_, h⟩
          · rw [if_neg (by decide), if_neg (by decide), if_neg (by decide), if_neg (by decide), show (5 : Int32) = zI ((5 : Nat) : Int) from rfl, f6_heardAs cg wg hf (by decide), bd_some, zN0, f6_heardAs cg wg hf (by decide), bd_some, z_sub, q]
            exact congrArg (fun z => some (zI z, σ)) (by omega)
          · rw [if_neg (by decide), if_neg (by decide), if_neg (by decide), f9_mark mg wg hf (by decide), bd_some]
