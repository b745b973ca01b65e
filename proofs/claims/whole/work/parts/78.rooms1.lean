/-! ===== rooms changed: what is compared ===== -/
def rmA (a : AS) (ρ : Nat → Nat) : AS := setN a 3 ρ
theorem rmA_R {a : AS} {ρ : Nat → Nat} {x : Nat} : aR (rmA a ρ) x = ρ x := rfl
theorem rmA_w {a : AS} {ρ : Nat → Nat} (w : WG a) (h : ∀ x, ρ x ≤ aW a) : WG (rmA a ρ) := ⟨w.1, w.2.1, w.2.2.1, w.2.2.2.1, w.2.2.2.2.1, h⟩
def hq (a : AS) (f h : Nat) : Bool := decide (h ≠ f) && hea (aK a h) (com a (aR a h) f) 0
theorem hbP_hq {a : AS} {f h : Nat} {n : Nat → Int} (hn : n h = 0) : hbP a f 0 n h = hq a f h := by
  unfold hbP hq
  rw [hn, tb_0, Bool.not_false, Bool.and_true]
theorem nz2_00 {a : AS} (w : WG a) {h : Nat} : nz2 a 0 0 h = 0 := by rw [nz2_0 w, son_0]
def pq (a : AS) (ρ : Nat → Nat) (k h : Nat) : Bool := if h = aE a k then hq (rmA a ρ) (aS a k) h else !(tb (aB a k) h && hq (rmA a ρ) (aS a k) h)
theorem all_cg' {p q : Nat → Bool} {n : Nat} (h : ∀ j, j < n → p j = q j) : (List.range n).all p = (List.range n).all q := all_cg h
theorem rgt_pq {a : AS} {ρ : Nat → Nat} (w : WG (rmA a ρ)) {k : Nat} {ears : Int32} : rgt (rmA a ρ) k ears 0 0 = (List.range (aP a)).all (fun h => !tb ears h || pq a ρ k h) := by
  unfold rgt
  refine all_cg (fun h _ => ?_)
  rw [hbP_hq (nz2_00 w)]
  unfold pq
  show (if h = aE a k then _ else _) = _
  by_cases e : h = aE a k
  · rw [if_pos e, if_pos e]; rfl
  · rw [if_neg e, if_neg e]
    show (!(tb ears h && tb (aB a k) h && hq (rmA a ρ) (aS a k) h)) = _
    cases tb ears h <;> cases tb (aB a k) h <;> cases hq (rmA a ρ) (aS a k) h <;> rfl
def cnd (a : AS) (ρ : Nat → Nat) (d k : Nat) : Bool := if aS a k < d then (List.range d).all (pq a ρ k) else true
def stS (a : AS) (ρ : Nat → Nat) (d : Nat) : Int32 := orU (aT a) (cnd a ρ d)
theorem hq_cg {a : AS} {ρ ρ' : Nat → Nat} {f h : Nat} (hf : ρ f = ρ' f) (hh : ρ h = ρ' h) : hq (rmA a ρ) f h = hq (rmA a ρ') f h := by
  have e : ∀ r q, dst (rmA a ρ) r q = dst (rmA a ρ') r q := fun r q => by
    unfold dst
    rw [aD_cg (a' := rmA a ρ) (a := rmA a ρ') (fun _ => rfl), aD_cg (a' := rmA a ρ) (a := rmA a ρ') (fun _ => rfl)]
  unfold hq com
  rw [e, rmA_R, rmA_R, rmA_R, rmA_R, hf, hh]; rfl
theorem cnd_cg {a : AS} {ρ ρ' : Nat → Nat} {d : Nat} (h : ∀ x, x < d → ρ x = ρ' x) (k : Nat) : cnd a ρ d k = cnd a ρ' d k := by
  unfold cnd
  by_cases q : aS a k < d
  · rw [if_pos q, if_pos q]
    refine all_cg (fun j hj => ?_)
    unfold pq
    rw [hq_cg (h _ q) (h j hj)]
  · rw [if_neg q, if_neg q]
theorem stS_cg {a : AS} {ρ ρ' : Nat → Nat} {d : Nat} (h : ∀ x, x < d → ρ x = ρ' x) : stS a ρ d = stS a ρ' d := orU_congr _ (fun k _ => cnd_cg h k)
theorem all_s {p : Nat → Bool} {n : Nat} : (List.range (n + 1)).all p = ((List.range n).all p && p n) := by
  rw [List.range_succ, List.all_append, List.all_cons, List.all_nil, Bool.and_true]
theorem pq_self {a : AS} {ρ : Nat → Nat} {k : Nat} (h : aS a k ≠ aE a k) : pq a ρ k (aS a k) = true := by
  unfold pq hq
  rw [if_neg h, decide_eq_false (fun q => q rfl), Bool.false_and, Bool.and_false]; rfl
theorem cnd_s {a : AS} {ρ : Nat → Nat} {d k : Nat} (h : aS a k ≠ aE a k) : cnd a ρ (d + 1) k = (cnd a ρ d k && (if aS a k < d then pq a ρ k d else if aS a k = d then (List.range d).all (pq a ρ k) else true)) := by
  unfold cnd
  by_cases q : aS a k < d
  · rw [if_pos (by omega), if_pos q, if_pos q, all_s]
  · rw [if_neg q, if_neg q, Bool.true_and]
    by_cases q2 : aS a k = d
    · rw [if_pos (by omega), if_pos q2, all_s]
      have := pq_self (ρ := ρ) h
      rw [q2] at this
      rw [this, Bool.and_true]
    · rw [if_neg (by omega), if_neg q2]
theorem cnd_mono {a : AS} {ρ : Nat → Nat} {k : Nat} (h : aS a k ≠ aE a k) {d : Nat} : ∀ n, d ≤ n → cnd a ρ n k = true → cnd a ρ d k = true
  | 0, hd, hc => by rw [show d = 0 by omega]; exact hc
  | n + 1, hd, hc => by
    by_cases e : d = n + 1
    · rw [e]; exact hc
    · rw [cnd_s h, Bool.and_eq_true] at hc
      exact cnd_mono h n (by omega) hc.1
theorem stS_mono {a : AS} (wt : WT a) {ρ : Nat → Nat} {d n : Nat} (h : d ≤ n) : pc (stS a ρ n) ≤ pc (stS a ρ d) := by
  have wT := wt.1
  refine pc_mono (fun j hj => ?_)
  rcases Nat.lt_or_ge j 32 with q | q
  · unfold stS at hj ⊢
    rw [tb_orU _ (by omega) j q, Bool.and_eq_true, decide_eq_true_eq] at hj
    rw [tb_orU _ (by omega) j q, decide_eq_true hj.1, Bool.true_and]
    exact cnd_mono (wt.2 j hj.1).2.2.1 n h hj.2
  · rw [tb_ge q] at hj; cases hj
/-- all placed: the talks that are safe -/
theorem stS_sft {a : AS} (wg : WG a) (wt : WT a) {ρ : Nat → Nat} (h : ∀ x, ρ x ≤ aW a) : stS a ρ (aP a) = sft (rmA a ρ) := by
  have w := rmA_w wg h
  have wP := wg.1
  refine orU_congr _ (fun k hk => ?_)
  obtain ⟨t1, t2, t3, t4, t5, t6⟩ := wt.2 k hk
  have wt' : WT (rmA a ρ) := wt
  have e0 := rgt_all (a := rmA a ρ) (s := 0) w wt' (k := k) hk
  have e1 := rgt_pq (a := a) (ρ := ρ) w (k := k) (ears := ((1 : Int32) <<< (zI (aP a) &&& 31)) - 1)
  have e2 : saf (rmA a ρ) k 0 = (tb (hb (rmA a ρ) (aS a k) 0) (aE a k) && decide (hb (rmA a ρ) (aS a k) 0 &&& aB a k = 0)) := by
    unfold saf
    rw [tb_0, tb_0]; rfl
  rw [e2]
  refine Eq.trans ?_ e0
  show cnd a ρ (aP a) k = rgt (rmA a ρ) k (((1 : Int32) <<< (zI (aP a) &&& 31)) - 1) 0 0
  rw [e1]
  unfold cnd
  rw [if_pos t1]
  refine all_cg (fun j hj => ?_)
  rw [tb_all (by omega), decide_eq_true hj]; rfl
theorem b_ext {x y : Bool} (h : x = true ↔ y = true) : x = y := by
  cases x <;> cases y <;> simp_all
theorem all_one {P d : Nat} {p : Nat → Bool} (hd : d < P) (hP : P ≤ 31) : (List.range P).all (fun h => !tb ((1 : Int32) <<< (zI d &&& 31)) h || p h) = p d := by
  refine b_ext ?_
  rw [List.all_eq_true]
  constructor
  · intro h
    have := h d (List.mem_range.mpr hd)
    rw [tb_one (by omega) (by omega), decide_eq_true rfl] at this
    exact this
  · intro h j hj
    have hj := List.mem_range.mp hj
    rw [tb_one (by omega) (by omega)]
    by_cases e : j = d
    · rw [e, h, Bool.or_true]
    · rw [decide_eq_false e]; rfl
theorem all_low {P d : Nat} {p : Nat → Bool} (hd : d < P) (hP : P ≤ 30) : (List.range P).all (fun h => !tb (((1 : Int32) <<< (zI d &&& 31)) - 1) h || p h) = (List.range d).all p := by
  refine b_ext ?_
  rw [List.all_eq_true, List.all_eq_true]
  constructor
  · intro h j hj
    have hj := List.mem_range.mp hj
    have := h j (List.mem_range.mpr (by omega))
    rw [tb_all (by omega), decide_eq_true hj] at this
    exact this
  · intro h j hj
    rw [tb_all (by omega)]
    by_cases e : j < d
    · rw [h j (List.mem_range.mpr e), Bool.or_true]
    · rw [decide_eq_false e]; rfl
theorem all_nil {P : Nat} {p : Nat → Bool} : (List.range P).all (fun h => !tb 0 h || p h) = true := by
  rw [List.all_eq_true]
  intro j _
  rw [tb_0]; rfl
/-- one more placed -/
theorem f6_still {a : AS} {ρ : Nat → Nat} (wg : WG a) (wt : WT a) (h : ∀ x, ρ x ≤ aW a) {S : Sg} (c : CG 1 S (rmA a ρ)) (ct : CT 1 S a) {d : Nat} (hd : d < aP a) : F_X6_stillSafe 1 S (stS a ρ d) (zI d) = some (stS a ρ (d + 1)) := by
  have w := rmA_w wg h
  have wP := wg.1
  have wT := wt.1
  have wt' : WT (rmA a ρ) := wt
  have ct' : CT 1 S (rmA a ρ) := ct
  have q := loopE (fun n x => T_X6_stillSafe_5 1 S (stS a ρ d) (zI d) n (orU (aT a) (fun k => cnd a ρ d k && (decide (x ≤ k) || cnd a ρ (d + 1) k))) (zI x)) (aT a) (some (stS a ρ (d + 1))) (by omega) (fun n => by
    simp only [T_X6_stillSafe_5]
    rw [ct.1, if_le_t (by omega) (by omega)]
    refine congrArg some (orU_congr _ (fun k hk => ?_))
    rw [decide_eq_false (by omega), Bool.false_or]
    cases e : cnd a ρ (d + 1) k
    · rw [Bool.and_false]
    · rw [cnd_mono (wt.2 k hk).2.2.1 (d + 1) (by omega) e]; rfl) (fun n x hx => by
    obtain ⟨t1, t2, t3, t4, t5, t6⟩ := wt.2 x hx
    simp only [T_X6_stillSafe_5]
    let acc : Nat → Int32 := fun y => orU (aT a) (fun k => cnd a ρ d k && (decide (y ≤ k) || cnd a ρ (d + 1) k))
    have tacc : ∀ y j, j < 32 → tb (acc y) j = (decide (j < aT a) && (cnd a ρ d j && (decide (y ≤ j) || cnd a ρ (d + 1) j))) := fun y j hj => tb_orU _ (by omega) j hj
    have fin : ∀ ears : Int32, (cnd a ρ d x && rgt (rmA a ρ) x ears 0 0) = cnd a ρ (d + 1) x → bd (if (((stS a ρ d) >>> (zI (x : Int) &&& 31)) &&& (1 : Int32)) = 0 then (some (acc x)) else (bd (F_X6_isHeardRightly 1 S (zI (x : Int)) ears (0 : Int32) (0 : Int32)) (fun x16 => if x16 = 0 then (nm (acc x &&& (((1 : Int32) <<< (zI (x : Int) &&& 31)) ^^^ (-1 : Int32))) (fun x17 => some x17)) else (some (acc x))))) (fun x12 => T_X6_stillSafe_5 1 S (stS a ρ d) (zI d) n x12 (zI x + (1 : Int32))) = T_X6_stillSafe_5 1 S (stS a ρ d) (zI d) n (acc (x + 1)) (zI ((x + 1 : Nat) : Int)) := fun ears he => by
      have tx : tb (stS a ρ d) x = cnd a ρ d x := by
        unfold stS
        rw [tb_orU _ (by omega) x (by omega), decide_eq_true hx, Bool.true_and]
      rw [has_if (by omega), tx, f6_rgt c ct' w wt' hx, bd_some, bI_z, zS]
      have same : (cnd a ρ d x && (decide (x ≤ x) || cnd a ρ (d + 1) x)) = (cnd a ρ d x && (decide (x + 1 ≤ x) || cnd a ρ (d + 1) x)) → acc x = acc (x + 1) := fun e => tb_ext fun j hj => by
        rw [tacc x j hj, tacc (x + 1) j hj]
        by_cases ej : j = x
        · rw [ej, e]
        · by_cases e3 : x ≤ j
          · rw [decide_eq_true e3, decide_eq_true (p := x + 1 ≤ j) (by omega)]
          · rw [decide_eq_false e3, decide_eq_false (p := x + 1 ≤ j) (by omega)]
      cases hcx : cnd a ρ d x
      · rw [if_neg (by decide), bd_some, same (by rw [hcx]; rfl)]
      · rw [hcx, Bool.true_and] at he
        cases hr : rgt (rmA a ρ) x ears 0 0
        · rw [if_pos rfl, if_neg (by decide), nm, bd_some]
          have ea : acc x &&& (((1 : Int32) <<< (zI (x : Int) &&& 31)) ^^^ (-1 : Int32)) = acc (x + 1) := tb_ext fun j hj => by
            rw [tb_and, tb_not hj, tb_one (by omega) hj, tacc x j hj, tacc (x + 1) j hj]
            by_cases ej : j = x
            · rw [ej, ← he, hr, decide_eq_true rfl, decide_eq_false (p := x + 1 ≤ x) (by omega)]
              simp
            · rw [decide_eq_false ej]
              by_cases e3 : x ≤ j
              · rw [decide_eq_true e3, decide_eq_true (p := x + 1 ≤ j) (by omega)]
                simp
              · rw [decide_eq_false e3, decide_eq_false (p := x + 1 ≤ j) (by omega)]
                simp
          rw [ea]
        · rw [if_pos rfl, if_pos rfl, bd_some, same (by rw [hcx, ← he, hr, Bool.or_true, Bool.or_true])]
    rw [ct.1, if_le_f hx (by omega), chk_N (by omega) (by omega), z_tnN (by omega), ct.2.1 x hx]
    rcases Nat.lt_trichotomy (aS a x) d with e | e | e
    · rw [if_le_f e (by omega), bd_some, chk_N (by omega) (by omega), if_eqN_f (by omega) (by omega) (by omega), bd_some]
      refine fin _ ?_
      rw [cnd_s t3, if_pos e, rgt_pq w, all_one hd (by omega)]
    · rw [if_le_t (by omega) (by omega), bd_some, chk_N (by omega) (by omega), if_eqN_t e, bd_some]
      refine fin _ ?_
      rw [cnd_s t3, if_neg (by omega), if_pos e, rgt_pq w, all_low (by omega) (by omega)]
    · rw [if_le_t (by omega) (by omega), bd_some, chk_N (by omega) (by omega), if_eqN_f (by omega) (by omega) (by omega), bd_some]
      refine fin _ ?_
      rw [cnd_s t3, if_neg (by omega), if_neg (by omega), rgt_pq w, all_nil])
  have e0 : orU (aT a) (fun k => cnd a ρ d k && (decide (0 ≤ k) || cnd a ρ (d + 1) k)) = stS a ρ d := orU_congr _ (fun k _ => by
    show (cnd a ρ d k && (decide (0 ≤ k) || cnd a ρ (d + 1) k)) = cnd a ρ d k
    rw [decide_eq_true (Nat.zero_le k), Bool.true_or, Bool.and_true])
  have q : T_X6_stillSafe_5 1 S (stS a ρ d) (zI d) FU (orU (aT a) (fun k => cnd a ρ d k && (decide (0 ≤ k) || cnd a ρ (d + 1) k))) (zI ((0 : Nat) : Int)) = some (stS a ρ (d + 1)) := q
  rw [e0] at q
  exact bd_t q
