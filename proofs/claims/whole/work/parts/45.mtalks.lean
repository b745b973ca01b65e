/-! the reference: talks -/
theorem f9_does {S : Sg} {a : AS} (c : MG S a) (w : WG a) {x f : Nat} (hx : x < aP a) (hf : f < aP a) : F_X9_doesHear S (zI x) (zI f) = some (bI (decide (x ≠ f) && hr1 a x f)) := by
  have hP := w.1
  rw [F_X9_doesHear, f9_who c w hf, bd_some, f_has (by omega), bd_some, zB_b, tb_hb w hx]
  unfold hbP hr1
  simp only [tb_0, son_0]
  simp
theorem f9_saf {S : Sg} {a : AS} (c : MG S a) (ct : MT S a) (w : WG a) (wt : WT a) {k : Nat} {s : Int32} (hk : k < aT a) : F_X9_isSafe S (zI k) s = some (bI (saf a k s)) := by
  have hP := w.1
  have hT := wt.1
  obtain ⟨wS, wE, wN, wB, wBS, wBE⟩ := wt.2 k hk
  obtain ⟨cT, cS, cE, cB⟩ := ct
  have e3 : (3 : Int32) * zI k = zI ((3 * k : Nat) : Int) := by rw [show (3 : Int32) = zI 3 from rfl, z_mul]; rfl
  have e4 : zI ((3 * k : Nat) : Int) + 1 = zI ((3 * k + 1 : Nat) : Int) := zS _
  have e5 : zI ((3 * k : Nat) : Int) + 2 = zI ((3 * k + 2 : Nat) : Int) := by rw [show (2 : Int32) = zI 2 from rfl, z_add]; rfl
  rw [F_X9_isSafe]
  simp (disch := omega) only [e3, e4, e5, chk_N, z_tnN, cS, cE, cB, nm, f9_who c w wS, bd_some, f_has, bI_z]
  unfold saf
  cases tb s (aS a k) <;> cases tb s (aE a k) <;> cases tb (hb a (aS a k) s) (aE a k) <;> by_cases h : hb a (aS a k) s &&& aB a k = 0 <;> simp [h, bI]
theorem or_0 (x : Int32) : x ||| 0 = x := Int32.or_zero
theorem f9_sft {S : Sg} {a : AS} (c : MG S a) (ct : MT S a) (w : WG a) (wt : WT a) : F_X9_safeSet S = some (sft a) := by
  have hT := wt.1
  have key := loopE (fun n x => T_X9_safeSet_4 S n (orU x (fun k => saf a k 0)) (zI x)) (aT a) (some (sft a)) (by omega) ?_ ?_
  · rw [F_X9_safeSet]
    exact (bd_t (K := fun x2 => some x2) key).trans rfl
  · intro n
    simp only [T_X9_safeSet_4]
    rw [ct.1, if_le_t (by omega) (by omega)]
    rfl
  · intro n x hx
    simp only [T_X9_safeSet_4]
    rw [ct.1, if_le_f hx (by omega), f9_saf c ct w wt hx, bd_some, bI_z, orU, zS]
    cases saf a x 0
    · simp only [Bool.false_eq_true, if_false, bd_some, nm, or_0]
    · rfl
