theorem z_and {m n : Nat} (hm : m < 2147483648) (hn : n < 2147483648) : zI m &&& zI n = zI ((m &&& n : Nat) : Int) := by
  refine tb_ext fun j hj => ?_
  have := Nat.and_le_left (n := m) (m := n)
  rw [tb_and, tb_z hm, tb_z hn, tb_z (by omega), Nat.testBit_and]
theorem z_pred {x : Nat} (h : 0 < x) : zI x - 1 = zI ((x - 1 : Nat) : Int) := by
  rw [z_1, z_sub]
  exact congrArg zI (by omega)
/-- what is left of a set without a part of it -/
theorem rest_z {s x : Nat} (hs : s < 256) (hx : x < 256) : ∃ r : Nat, r ≤ s ∧ zI s &&& (zI x ^^^ (-1 : Int32)) = zI r ∧ (r = s → zI x &&& zI s = 0) := by
  have h1 : sub 8 (zI s &&& (zI x ^^^ (-1 : Int32))) := sub_and (z_sub_ (by decide) hs)
  obtain ⟨r, hr, er⟩ := sub_z (by decide) h1
  have h2 : zI r &&& zI s = zI r := by
    rw [← er]
    refine tb_ext fun j hj => ?_
    rw [tb_and, tb_and]
    cases tb (zI s) j <;> simp
  rw [z_and (by omega) (by omega), zNeq (by have := Nat.and_le_left (n := r) (m := s); omega) (by omega)] at h2
  refine ⟨r, ?_, er, fun q => ?_⟩
  · have := Nat.and_le_right (n := r) (m := s)
    omega
  · subst q
    refine tb_ext fun j hj => ?_
    have e2 : tb (zI r &&& (zI x ^^^ (-1 : Int32))) j = tb (zI r) j := by rw [er]
    rw [tb_and, tb_not hj] at e2
    rw [tb_and, tb_0]
    revert e2
    cases tb (zI r) j <;> cases tb (zI x) j <;> simp
def bd1 (v : Int32) : Prop := ∃ z : Int, 0 ≤ z ∧ z ≤ 100 ∧ v = zI z
theorem smS_wI {S : Sg} {k j : Nat} {v : Int32} (h : 7 ≤ k ∧ k < 14) : smS S (wI S k j v) := ⟨sm_wI (by omega), sm_wI (by omega), sm_wI (by omega)⟩
theorem nar_bI (b : Bool) : vp_nar .boolean (bI b) = bI b := by rw [nar_b]; cases b <;> decide
def lrg (a : AS) : Nat → Nat
  | 0 => 0
  | n + 1 => if pc (zI (lrg a n)) < pc (zI n) ∧ tgt a (zI n) = true then n else lrg a n
theorem lrg_b {a : AS} : ∀ n, n ≤ 256 → lrg a n < 256
  | 0, _ => by rw [lrg]; omega
  | n + 1, h => by
    rw [lrg]
    split
    · omega
    · exact lrg_b n (by omega)
theorem sub8 {n : Nat} (h : n < 256) : sub 8 (zI (n : Int)) := z_sub_ (by decide) (by omega)
theorem f8_lrg {S : Sg} {a : AS} (ct : CT 0 S a) (wt : WT a) (h : ∀ j, j < 2 ^ aT a → S.1 7 j = bI (tgt a (zI j))) : F_X3_largest 0 S = some (zI (lrg a (2 ^ aT a))) := by
  have p8 := pow8 wt.1
  have wT := wt.1
  have q := loopE (fun n x => T_X3_largest_4 0 S n (zI (lrg a x)) (zI x)) (2 ^ aT a) (some (zI (lrg a (2 ^ aT a)))) (by omega) (fun n => by
    simp only [T_X3_largest_4]
    rw [f6_allT ct, bd_some, all_z (by omega), if_ltZ (by omega) (by omega) (by omega) (by omega), if_pos (by omega)]) (fun n x hx => by
    have hl := lrg_b (a := a) x (by omega)
    simp only [T_X3_largest_4]
    rw [f6_allT ct, bd_some, all_z (by omega), if_ltZ (by omega) (by omega) (by omega) (by omega), if_neg (by omega), chk_N (by omega) (by omega), z_tnN (by omega), h x hx, bI_z, f_bc (sub8 (n := x) (by omega)), bd_some, f_bc (sub8 hl), bd_some, pcz (pc_le _) (pc_le _), zSu, lrg]
    cases tgt a (zI x)
    · rw [if_neg (by decide), if_neg (by simp), bd_some]
    · by_cases q : pc (zI (lrg a x)) < pc (zI x)
      · rw [if_pos rfl, if_pos q, if_pos ⟨q, rfl⟩, bd_some]
      · rw [if_pos rfl, if_neg q, if_neg (fun w => q w.1), bd_some])
  exact bd_t q
def okf (F : Nat → Int32) (G : Nat → Int32) (A : Int32) (v : Int32) (p : Nat) : Bool := !decide (G p = 0) && decide (1 + F (A &&& (zI p ^^^ (-1 : Int32))).toNatClampNeg = v)
def odd (p : Nat) : Bool := decide (p % 2 = 1)
theorem tb_odd {p : Nat} (h : p < 256) : tb (zI p) 0 = odd p := by
  have : ∀ p, p < 256 → tb (zI ((p : Nat) : Int)) 0 = odd p := by decide +kernel
  exact this p h
theorem rest_b {A p : Nat} (h : A < 256) : ∃ r : Nat, r < 256 ∧ zI A &&& (zI p ^^^ (-1 : Int32)) = zI r := by
  obtain ⟨r, hr, er⟩ := sub_z (m := 8) (by decide) (sub_and (z_sub_ (n := A) (m := 8) (by decide) h) (t := zI p ^^^ (-1 : Int32)))
  exact ⟨r, hr, er⟩
/-- the other side: from the smallest up, by two -/
def fiC (S : Sg) (T : Nat) (v : Int32) (n x : Nat) : Prop :=
    ((∀ j, j < 2 ^ T → (odd j && okf (S.1 8) (S.1 7) (zI ((2 ^ T - 1 : Nat) : Int)) v j) = false) ∧ T_X3_firstHour_7 0 S (zI ((2 ^ T - 1 : Nat) : Int)) n (zI x) = some (.inl ())) ∨
    (∃ p, p < 2 ^ T ∧ (odd p && okf (S.1 8) (S.1 7) (zI ((2 ^ T - 1 : Nat) : Int)) v p) = true ∧ (∀ j, j < p → (odd j && okf (S.1 8) (S.1 7) (zI ((2 ^ T - 1 : Nat) : Int)) v j) = false) ∧ T_X3_firstHour_7 0 S (zI ((2 ^ T - 1 : Nat) : Int)) n (zI x) = some (.inr (zI p)))
theorem f8_first {S : Sg} {T : Nat} (hT : T ≤ 8) {v : Int32} (hv : S.1 8 (2 ^ T - 1) = v) : ∀ d x, x + d = 2 ^ T → ∀ n, d < n → odd x = true → (∀ j, j < x → (odd j && okf (S.1 8) (S.1 7) (zI ((2 ^ T - 1 : Nat) : Int)) v j) = false) → fiC S T v n x := by
  have p8 := pow8 hT
  intro d
  induction d using Nat.strongRecOn with
  | ind d ih =>
    intro x hx n hn ho hI
    obtain ⟨n, rfl⟩ : ∃ k, n = k + 1 := ⟨n - 1, by omega⟩
    unfold fiC
    simp only [T_X3_firstHour_7]
    rw [if_ltZ (by omega) (by omega) (by omega) (by omega)]
    by_cases q0 : 2 ^ T ≤ x
    · rw [if_pos (by omega)]
      exact .inl ⟨fun j hj => hI j (by omega), rfl⟩
    · obtain ⟨r, hr, er⟩ := rest_b (A := 2 ^ T - 1) (p := x) (by omega)
      rw [if_neg (by omega), chk_N (by omega) (by omega), z_tnN (by omega), er, chk_N (by omega) (by omega), chk_N (by omega) (by omega), z_tnN (by omega), z_tnN (by omega), hv, show zI (x : Int) + 2 = zI ((x + 2 : Nat) : Int) by rw [zN2, z_add]; exact congrArg zI (by push_cast; rfl)]
      have ek : okf (S.1 8) (S.1 7) (zI ((2 ^ T - 1 : Nat) : Int)) v x = (!decide (S.1 7 x = 0) && decide (1 + S.1 8 r = v)) := by
        unfold okf
        rw [er, z_tnN (by omega)]
      have ho1 : odd (x + 1) = false := by
        unfold odd at ho ⊢
        rw [decide_eq_true_eq] at ho
        rw [decide_eq_false_iff_not]
        omega
      have ho2 : odd (x + 2) = true := by
        unfold odd at ho ⊢
        rw [decide_eq_true_eq] at ho ⊢
        omega
      have next : okf (S.1 8) (S.1 7) (zI ((2 ^ T - 1 : Nat) : Int)) v x = false → fiC S T v n (x + 2) := fun hx0 => by
        by_cases q5 : x + 2 ≤ 2 ^ T
        · exact ih (d - 2) (by omega) (x + 2) (by omega) n (by omega) ho2 (fun j hj => by
            by_cases e1 : j = x
            · rw [e1, hx0, Bool.and_false]
            · by_cases e2 : j = x + 1
              · rw [e2, ho1]; rfl
              · exact hI j (by omega))
        · refine .inl ⟨fun j hj => ?_, ?_⟩
          · by_cases e1 : j = x
            · rw [e1, hx0, Bool.and_false]
            · exact hI j (by omega)
          · obtain ⟨n, rfl⟩ : ∃ k, n = k + 1 := ⟨n - 1, by omega⟩
            simp only [T_X3_firstHour_7]
            rw [if_ltZ (by omega) (by omega) (by omega) (by omega), if_pos (by omega)]
      by_cases q1 : S.1 7 x = 0
      · rw [if_pos q1]
        exact next (by rw [ek, decide_eq_true q1]; rfl)
      · rw [if_neg q1]
        by_cases q2 : 1 + S.1 8 r = v
        · rw [if_pos q2]
          exact .inr ⟨x, by omega, by rw [ho, ek, decide_eq_false q1, decide_eq_true q2]; rfl, hI, rfl⟩
        · rw [if_neg q2]
          exact next (by rw [ek, decide_eq_false q2, Bool.and_false])
