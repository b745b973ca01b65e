theorem hbP_t {a : AS} {f : Nat} {s : Int32} {n : Nat → Int} {h : Nat} : hbP a f s n h = true ↔ h ≠ f ∧ tb s h = false ∧ hea (aK a h) (com a (aR a h) f) (n h) = true := by
  unfold hbP
  rw [Bool.and_eq_true, Bool.and_eq_true, decide_eq_true_eq, Bool.not_eq_true', and_assoc]
theorem f6_all {i : Nat} {S : Sg} {a : AS} (c : CG i S a) : F_X6_everyone i S = some (((1 : Int32) <<< (zI (aP a) &&& 31)) - 1) := by
  rw [F_X6_everyone, c.1]
theorem f6_allT {i : Nat} {S : Sg} {a : AS} (c : CT i S a) : F_X6_everyTalk i S = some (((1 : Int32) <<< (zI (aT a) &&& 31)) - 1) := by
  rw [F_X6_everyTalk, c.1]
theorem son_0 {a : AS} {v r : Nat} : son a v r 0 = 0 := by
  have : ∀ n, lou a v r 0 n = 0 := by
    intro n
    induction n with
    | zero => rfl
    | succ n ih => rw [lou, tb_0, if_neg (by decide), ih]
  exact this _
theorem nz2_0 {a : AS} (w : WG a) {s : Int32} {h : Nat} : nz2 a s 0 h = son a 3 (aR a h) s := by
  have := son_b w (v := 3) (s := s) (by decide) (by decide) (w.2.2.2.2.2 h)
  unfold nz2
  rw [son_0, if_neg (by omega)]
theorem f6_who {i : Nat} {S : Sg} {a : AS} (c : CG i S a) (w : WG a) {s : Int32} {f : Nat} (hf : f < aP a) : F_X6_whoHear i S (zI f) s = some (hb a f s) := by
  have hP := w.1
  rw [F_X6_whoHear, f6_all c, bd_some, f6_wh c w hf, bd_some]
  unfold hb
  congr 1
  refine orU_congr _ fun j hj => ?_
  unfold whP
  rw [tb_all (by omega), decide_eq_true hj, Bool.true_and]
  unfold hbP
  rw [nz2_0 w]
theorem hb_sub {a : AS} (w : WG a) {f : Nat} {s : Int32} : sub (aP a) (hb a f s) := sub_orU (by have := w.1; omega)
theorem hb_sub8 {a : AS} (w : WG a) {f : Nat} {s : Int32} : sub 8 (hb a f s) := sub_mono (by have := w.1; omega) (hb_sub w)
theorem tb_hb {a : AS} (w : WG a) {f : Nat} {s : Int32} {h : Nat} (hh : h < aP a) : tb (hb a f s) h = hbP a f s (fun h => son a 3 (aR a h) s) h := by
  have := w.1
  unfold hb
  rw [tb_orU _ (by omega) _ (by omega), decide_eq_true hh, Bool.true_and]
theorem zB_b {α : Type} {b : Bool} {K : Option α} : chk (zB (bI b)) K = K := by cases b <;> exact chk_t (by decide)
def hr1 (a : AS) (x f : Nat) : Bool := hea (aK a x) (com a (aR a x) f) 0
theorem f6_hb1 {i : Nat} {S : Sg} {a : AS} (c : CG i S a) (w : WG a) {x f : Nat} (hx : x < aP a) (hf : f < aP a) : F_X6_isHeardBy i S (zI x) (zI f) = some (bI (hr1 a x f)) := by
  have hP := w.1
  have e1 := f6_com c w (w.2.2.2.2.2 x) hf
  have hc := com_b w (f := f) (w.2.2.2.2.2 x)
  have e2 := f2_en (S := S) (n := 0) (w.2.2.2.2.1 x) (by omega) (by omega) (by omega) (by omega) (c := com a (aR a x) f)
  obtain ⟨cP, cW, cL, cD, cK, cR⟩ := c
  rw [F_X6_isHeardBy]
  simp (disch := omega) only [chk_N, z_tnN, cK, cR, e1, bd_some, z_0, e2, zB_b]
  rfl
def cir (a : AS) (x : Nat) : Int32 := hb a x 0 ||| ((1 : Int32) <<< (zI x &&& 31))
theorem f6_cir {i : Nat} {S : Sg} {a : AS} (c : CG i S a) (w : WG a) {x : Nat} (hx : x < aP a) : F_X6_circleOf i S (zI x) = some (cir a x) := by
  rw [F_X6_circleOf, f6_who c w hx]
  rfl
/-- whether just the one hears who has to, as far as some ears go -/
def rgt (a : AS) (k : Nat) (ears s p : Int32) : Bool := (List.range (aP a)).all fun h => if h = aE a k then (!tb ears h || hbP a (aS a k) s (nz2 a s p) h) else !(tb ears h && tb (aB a k) h && hbP a (aS a k) s (nz2 a s p) h)
theorem f6_rgt {i : Nat} {S : Sg} {a : AS} (c : CG i S a) (ct : CT i S a) (w : WG a) (wt : WT a) {k : Nat} {ears s p : Int32} (hk : k < aT a) : F_X6_isHeardRightly i S (zI k) ears s p = some (bI (rgt a k ears s p)) := by
  have hP := w.1
  have hT := wt.1
  obtain ⟨wS, wE, wN, wB, wBS, wBE⟩ := wt.2 k hk
  obtain ⟨cT, cS, cE, cB⟩ := ct
  rw [F_X6_isHeardRightly]
  simp (disch := omega) only [chk_N, z_tnN, cS, cE, cB, nm, f6_wh c w wS, bd_some]
  rw [some_ite]
  congr 1
  have key : (orU (aP a) (whP a ((ears &&& ((1 : Int32) <<< (zI (aE a k) &&& 31))) ||| (ears &&& aB a k)) (aS a k) s (nz2 a s p)) = (ears &&& ((1 : Int32) <<< (zI (aE a k) &&& 31)))) ↔ rgt a k ears s p = true := by
    have e1 : ∀ h, h < aP a → tb (orU (aP a) (whP a ((ears &&& ((1 : Int32) <<< (zI (aE a k) &&& 31))) ||| (ears &&& aB a k)) (aS a k) s (nz2 a s p))) h = (tb ears h && (decide (h = aE a k) || tb (aB a k) h) && hbP a (aS a k) s (nz2 a s p) h) := by
      intro h hh
      rw [tb_orU _ (by omega) _ (by omega), decide_eq_true hh, Bool.true_and]
      unfold whP
      rw [tb_or, tb_and, tb_and, tb_one (by omega) (by omega)]
      cases tb ears h <;> cases decide (h = aE a k) <;> cases tb (aB a k) h <;> cases hbP a (aS a k) s (nz2 a s p) h <;> rfl
    have e2 : ∀ h, h < aP a → tb (ears &&& ((1 : Int32) <<< (zI (aE a k) &&& 31))) h = (tb ears h && decide (h = aE a k)) := by
      intro h hh
      rw [tb_and, tb_one (by omega) (by omega)]
    constructor
    · intro q
      unfold rgt
      rw [List.all_eq_true]
      intro h hh
      rw [List.mem_range] at hh
      have q1 : tb _ h = tb _ h := congrArg (fun z => tb z h) q
      rw [e1 h hh, e2 h hh] at q1
      by_cases he : h = aE a k
      · rw [if_pos he]
        rw [decide_eq_true he] at q1
        revert q1
        cases tb ears h <;> cases tb (aB a k) h <;> cases hbP a (aS a k) s (nz2 a s p) h <;> decide
      · rw [if_neg he]
        rw [decide_eq_false he] at q1
        revert q1
        cases tb ears h <;> cases tb (aB a k) h <;> cases hbP a (aS a k) s (nz2 a s p) h <;> decide
    · intro q
      unfold rgt at q
      rw [List.all_eq_true] at q
      refine sub_ext (n := aP a) (by omega) (sub_orU (by omega)) (fun j hj => ?_) (fun h hh => ?_)
      · rw [tb_and]
        rcases Nat.lt_or_ge j 32 with h32 | h32
        · rw [tb_one (by omega) h32, decide_eq_false (by omega), Bool.and_false]
        · rw [tb_ge h32]; rfl
      · rw [e1 h hh, e2 h hh]
        have q1 := q h (List.mem_range.mpr hh)
        by_cases he : h = aE a k
        · rw [if_pos he] at q1
          rw [decide_eq_true he]
          revert q1
          cases tb ears h <;> cases tb (aB a k) h <;> cases hbP a (aS a k) s (nz2 a s p) h <;> decide
        · rw [if_neg he] at q1
          rw [decide_eq_false he]
          revert q1
          cases tb ears h <;> cases tb (aB a k) h <;> cases hbP a (aS a k) s (nz2 a s p) h <;> decide
  cases hb : rgt a k ears s p with
  | true => rw [if_pos (key.mpr hb)]; rfl
  | false => rw [if_neg (fun q => by rw [key.mp q] at hb; cases hb)]; rfl
def bth (a : AS) (k : Nat) : Int32 := ((1 : Int32) <<< (zI (aS a k) &&& 31)) ||| ((1 : Int32) <<< (zI (aE a k) &&& 31))
theorem f6_bth {i : Nat} {S : Sg} {a : AS} (ct : CT i S a) (wt : WT a) {k : Nat} (hk : k < aT a) : F_X6_bothOf i S (zI k) = some (bth a k) := by
  have hT := wt.1
  obtain ⟨cT, cS, cE, cB⟩ := ct
  rw [F_X6_bothOf]
  simp (disch := omega) only [chk_N, z_tnN, cS, cE]
  rfl
theorem and_bth {a : AS} {k : Nat} {s : Int32} (hS : aS a k < 32) (hE : aE a k < 32) : s &&& bth a k = 0 ↔ (tb s (aS a k) = false ∧ tb s (aE a k) = false) := by
  have e : ∀ j, j < 32 → tb (s &&& bth a k) j = (tb s j && (decide (j = aS a k) || decide (j = aE a k))) := by
    intro j hj
    unfold bth
    rw [tb_and, tb_or, tb_one hS hj, tb_one hE hj]
  constructor
  · intro q
    have h1 := e _ hS
    have h2 := e _ hE
    rw [q, tb_0, decide_eq_true rfl, Bool.true_or, Bool.and_true] at h1
    rw [q, tb_0, decide_eq_true (rfl : aE a k = aE a k), Bool.or_true, Bool.and_true] at h2
    exact ⟨h1.symm, h2.symm⟩
  · rintro ⟨h1, h2⟩
    refine tb_ext fun j hj => ?_
    rw [e j hj, tb_0]
    by_cases q1 : j = aS a k
    · rw [q1, h1]; rfl
    · by_cases q2 : j = aE a k
      · rw [q2, h2]; rfl
      · rw [decide_eq_false q1, decide_eq_false q2]; simp
/-- whether a talk is safe while some sing -/
def saf (a : AS) (k : Nat) (s : Int32) : Bool := !tb s (aS a k) && !tb s (aE a k) && tb (hb a (aS a k) s) (aE a k) && decide (hb a (aS a k) s &&& aB a k = 0)
theorem rgt_all {a : AS} (w : WG a) (wt : WT a) {k : Nat} {s : Int32} (hk : k < aT a) : rgt a k (((1 : Int32) <<< (zI (aP a) &&& 31)) - 1) s 0 = (tb (hb a (aS a k) s) (aE a k) && decide (hb a (aS a k) s &&& aB a k = 0)) := by
  have hP := w.1
  obtain ⟨wS, wE, wN, wB, wBS, wBE⟩ := wt.2 k hk
  have e0 : ∀ h, hbP a (aS a k) s (nz2 a s 0) h = hbP a (aS a k) s (fun h => son a 3 (aR a h) s) h := by
    intro h
    unfold hbP
    rw [nz2_0 w]
  rw [Bool.eq_iff_iff, Bool.and_eq_true, decide_eq_true_eq]
  unfold rgt
  rw [List.all_eq_true]
  constructor
  · intro q
    constructor
    · have q1 := q _ (List.mem_range.mpr wE)
      rw [if_pos rfl, tb_all (by omega), decide_eq_true wE, e0, ← tb_hb w wE] at q1
      simpa using q1
    · refine sub_ext (n := aP a) (by omega) (sub_and (hb_sub w)) (sub_0 _) (fun h hh => ?_)
      have q1 := q _ (List.mem_range.mpr hh)
      rw [tb_and, tb_0]
      by_cases he : h = aE a k
      · rw [he, wBE, Bool.and_false]
      · rw [if_neg he, tb_all (by omega), decide_eq_true hh, e0, ← tb_hb w hh] at q1
        revert q1
        cases tb (aB a k) h <;> cases tb (hb a (aS a k) s) h <;> decide
  · rintro ⟨q1, q2⟩ h hh
    rw [List.mem_range] at hh
    rw [tb_all (by omega), decide_eq_true hh, e0, ← tb_hb w hh]
    by_cases he : h = aE a k
    · rw [if_pos he, he, q1]; rfl
    · rw [if_neg he]
      have q3 := congrArg (fun z => tb z h) q2
      simp only [tb_and, tb_0] at q3
      revert q3
      cases tb (aB a k) h <;> cases tb (hb a (aS a k) s) h <;> decide
theorem f6_saf {i : Nat} {S : Sg} {a : AS} (c : CG i S a) (ct : CT i S a) (w : WG a) (wt : WT a) {k : Nat} {s : Int32} (hk : k < aT a) : F_X6_isSafe i S (zI k) s = some (bI (saf a k s)) := by
  have hP := w.1
  obtain ⟨wS, wE, wN, wB, wBS, wBE⟩ := wt.2 k hk
  rw [F_X6_isSafe, f6_bth ct wt hk, bd_some]
  unfold saf
  by_cases h : s &&& bth a k = 0
  · rw [if_pos h]
    obtain ⟨h1, h2⟩ := (and_bth (by omega) (by omega)).mp h
    rw [f6_all c, bd_some, f6_rgt c ct w wt hk, bd_some, bI_z, rgt_all w wt hk, h1, h2]
    cases tb (hb a (aS a k) s) (aE a k) <;> cases decide (hb a (aS a k) s &&& aB a k = 0) <;> rfl
  · rw [if_neg h]
    have h1 : ¬ (tb s (aS a k) = false ∧ tb s (aE a k) = false) := fun q => h ((and_bth (by omega) (by omega)).mpr q)
    revert h1
    generalize tb s (aS a k) = A
    generalize tb s (aE a k) = B
    cases A <;> cases B <;> simp [bI]
def sft (a : AS) : Int32 := orU (aT a) (fun k => saf a k 0)
theorem sft_sub {a : AS} (wt : WT a) : sub 8 (sft a) := sub_mono wt.1 (sub_orU (by have := wt.1; omega))
