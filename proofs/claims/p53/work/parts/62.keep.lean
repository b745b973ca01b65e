theorem cpI_n {S : Sg} {k1 sp k2 dp n c j : Nat} (h : c ≠ k2 ∨ j < dp ∨ dp + n ≤ j) : (cpI S k1 sp k2 dp n).1 c j = S.1 c j := by rw [cpI_1, if_neg (by omega)]
theorem cpI_e {S : Sg} {k1 k2 n j : Nat} (h : j < n) : (cpI S k1 0 k2 0 n).1 k2 j = S.1 k1 j := by rw [cpI_1, if_pos (by omega), Nat.zero_add, Nat.sub_zero]
theorem cpL_1 {S : Sg} {k1 sp k2 dp n : Nat} : (cpL S k1 sp k2 dp n).1 = S.1 := rfl
theorem cpL_2 {S : Sg} {k1 sp k2 dp n c j : Nat} : (cpL S k1 sp k2 dp n).2 c j = if c = k2 ∧ dp ≤ j ∧ j < dp + n then S.2 k1 (sp + (j - dp)) else S.2 c j := by
  by_cases h : c = k2
  · subst h
    rw [cpL_s]
    show (if dp ≤ j ∧ j < dp + n then _ else _) = _
    by_cases q : dp ≤ j ∧ j < dp + n
    · rw [if_pos q, if_pos ⟨rfl, q⟩]
    · rw [if_neg q, if_neg (fun w => q w.2)]
  · rw [(cpL_o c h).2, if_neg (fun w => h w.1)]
theorem cpL_sm {S : Sg} {k1 sp k2 dp n lo hi : Nat} (h : k2 < lo ∨ hi ≤ k2) : sm lo hi S (cpL S k1 sp k2 dp n) := fun c h1 h2 j => ⟨rfl, by rw [cpL_2, if_neg (by omega)]⟩
def be1 (i j : Nat) (S : Sg) : Sg := cpI (cpI (cpI (cpI (cpI (cpI (cpI (wI (wI (wI S (sb i) 8 (S.1 (sb j) 8)) (sb i) 9 (S.1 (sb j) 9)) (sb i) 10 (S.1 (sb j) 10)) (sb j + 1) 0 (sb i + 1) 0 6) (sb j + 2) 0 (sb i + 2) 0 7) (sb j + 3) 0 (sb i + 3) 0 7) (sb j + 4) 0 (sb i + 4) 0 7) (sb j + 5) 0 (sb i + 5) 0 8) (sb j + 6) 0 (sb i + 6) 0 8) (sb j + 7) 0 (sb i + 7) 0 8
def be2 (i j : Nat) (S : Sg) : Sg := wI (wL (cpL (cpI (cpI (cpI S (sb j + 9) 0 (sb i + 9) 0 40) (sb j + 10) 0 (sb i + 10) 0 40) (sb j + 11) 0 (sb i + 11) 0 40) (sb j + 12) 0 (sb i + 12) 0 40) (sb i + 8) 4 (S.2 (sb j + 8) 4)) (sb i + 8) 5 (S.1 (sb j + 8) 5)
theorem f6_become {i j : Nat} {S : Sg} (h : i ≠ j) : F_X6_become i j S = some (be2 i j (be1 i j S)) := by
  have hi : sb i = 34 + 13 * i := rfl
  have hj : sb j = 34 + 13 * j := rfl
  have c8 : ∀ {α : Type} (K : Option α) (n : Nat), n < 100 → chk (cpB 0 0 (zI n) n n) K = K := fun K n hn => cpB_N (sp := 0) (dp := 0) (by omega) (by omega) (by omega) (by omega)
  rw [F_X6_become]
  simp only [nm]
  rw [show (6 : Int32) = zI ((6 : Nat) : Int) from rfl, show (7 : Int32) = zI ((7 : Nat) : Int) from rfl, show (8 : Int32) = zI ((8 : Nat) : Int) from rfl, c8 _ 6 (by decide), c8 _ 7 (by decide), c8 _ 7 (by decide), c8 _ 7 (by decide), c8 _ 8 (by decide), c8 _ 8 (by decide), c8 _ 8 (by decide), z_tnN (by decide), z_tnN (by decide), z_tnN (by decide), show (0 : Int32).toNatClampNeg = 0 from by decide]
  rw [wI_ne (S := S) (by omega), wI_ne (by omega), wI_ne (by omega)]
  show bd (F_X1_become i j (be1 i j S)) _ = _
  generalize be1 i j S = T
  rw [F_X1_become]
  simp only [nm]
  rw [show (40 : Int32) = zI ((40 : Nat) : Int) from rfl, c8 _ 40 (by decide), c8 _ 40 (by decide), c8 _ 40 (by decide), c8 _ 40 (by decide), z_tnN (by decide), show (0 : Int32).toNatClampNeg = 0 from by decide, bd_some]
  refine congrArg some ?_
  unfold be2
  rw [wL_1, cpL_1, cpI_n (by omega), cpI_n (by omega), cpI_n (by omega), cpL_2, if_neg (by omega)]
  rfl
theorem be1_sm {i j : Nat} {S : Sg} {lo hi : Nat} (h : sb i + 8 ≤ lo ∨ hi ≤ sb i) : sm lo hi S (be1 i j S) :=
  sm_tr (sm_tr (sm_tr (sm_tr (sm_tr (sm_tr (sm_tr (sm_tr (sm_tr (sm_wI (by omega)) (sm_wI (by omega))) (sm_wI (by omega))) (cpI_sm (by omega))) (cpI_sm (by omega))) (cpI_sm (by omega))) (cpI_sm (by omega))) (cpI_sm (by omega))) (cpI_sm (by omega))) (cpI_sm (by omega))
theorem be2_sm {i j : Nat} {S : Sg} {lo hi : Nat} (h : sb i + 13 ≤ lo ∨ hi ≤ sb i + 8) : sm lo hi S (be2 i j S) :=
  sm_tr (sm_tr (sm_tr (sm_tr (sm_tr (sm_tr (cpI_sm (by omega)) (cpI_sm (by omega))) (cpI_sm (by omega))) (cpL_sm (by omega))) (sm_wL (by omega))) (sm_wI (by omega))) (sm_rfl _ _ _)
def bec (i j : Nat) (S : Sg) : Sg := be2 i j (be1 i j S)
theorem bec_sm {i j : Nat} {S : Sg} {lo hi : Nat} (h : sb i + 13 ≤ lo ∨ hi ≤ sb i) : sm lo hi S (bec i j S) := sm_tr (be1_sm (by omega)) (be2_sm (by omega))
theorem be1_0 {i j : Nat} {S : Sg} (h : i ≠ j) : (be1 i j S).1 (sb i) 8 = S.1 (sb j) 8 ∧ (be1 i j S).1 (sb i) 9 = S.1 (sb j) 9 ∧ (be1 i j S).1 (sb i) 10 = S.1 (sb j) 10 := by
  have hi : sb i = 34 + 13 * i := rfl
  have hj : sb j = 34 + 13 * j := rfl
  unfold be1
  refine ⟨?_, ?_, ?_⟩
  · simp (disch := omega) only [cpI_n, wI_ne, wI_eq]
  · simp (disch := omega) only [cpI_n, wI_ne, wI_eq]
  · simp (disch := omega) only [cpI_n, wI_ne, wI_eq]
theorem be1_1 {i j : Nat} {S : Sg} (h : i ≠ j) {c n : Nat} (hc : c = 1 ∧ n < 6 ∨ c = 2 ∧ n < 7 ∨ c = 3 ∧ n < 7 ∨ c = 4 ∧ n < 7 ∨ c = 5 ∧ n < 8 ∨ c = 6 ∧ n < 8 ∨ c = 7 ∧ n < 8) : (be1 i j S).1 (sb i + c) n = S.1 (sb j + c) n := by
  have hi : sb i = 34 + 13 * i := rfl
  have hj : sb j = 34 + 13 * j := rfl
  unfold be1
  rcases hc with ⟨rfl, hn⟩ | ⟨rfl, hn⟩ | ⟨rfl, hn⟩ | ⟨rfl, hn⟩ | ⟨rfl, hn⟩ | ⟨rfl, hn⟩ | ⟨rfl, hn⟩
  all_goals simp (disch := omega) only [cpI_n, cpI_e, wI_ne]
theorem be2_1 {i j : Nat} {S : Sg} (h : i ≠ j) {c n : Nat} (hc : 9 ≤ c ∧ c < 12 ∧ n < 40) : (be2 i j S).1 (sb i + c) n = S.1 (sb j + c) n := by
  have hi : sb i = 34 + 13 * i := rfl
  have hj : sb j = 34 + 13 * j := rfl
  have h3 : c = 9 ∨ c = 10 ∨ c = 11 := by omega
  unfold be2
  rcases h3 with rfl | rfl | rfl
  all_goals simp (disch := omega) only [cpI_n, cpI_e, wI_ne, wL_1, cpL_1]
theorem be2_2 {i j : Nat} {S : Sg} {n : Nat} (h : i ≠ j) (hn : n < 40) : (be2 i j S).2 (sb i + 12) n = S.2 (sb j + 12) n := by
  unfold be2
  rw [wI_2, wL_2, if_neg (by omega), cpL_2, if_pos (by omega), Nat.zero_add, Nat.sub_zero]
  rfl
theorem be2_0 {i j : Nat} {S : Sg} : (be2 i j S).1 (sb i + 8) 5 = S.1 (sb j + 8) 5 ∧ (be2 i j S).2 (sb i + 8) 4 = S.2 (sb j + 8) 4 := by
  unfold be2
  refine ⟨wI_eq, ?_⟩
  rw [wI_2, wL_2, if_pos rfl, if_pos rfl]
theorem C_bec {i j : Nat} {S : Sg} {a : AS} (h : i ≠ j) (w : WG a) (wt : WT a) (wh : WH a) (c : CG j S a ∧ CT j S a ∧ CH j S a) : CG i (bec i j S) a ∧ CT i (bec i j S) a ∧ CH i (bec i j S) a := by
  have hi : sb i = 34 + 13 * i := rfl
  have hj : sb j = 34 + 13 * j := rfl
  obtain ⟨⟨c1, c2, c3, c4, c5, c6⟩, ⟨t1, t2, t3, t4⟩, ⟨h1, h2, h3, h4, h5, h6⟩⟩ := c
  have wP := w.1
  have wW := w.2.1
  have wT := wt.1
  have wH := wh.1
  have e1 : ∀ c n, c < 8 → (bec i j S).1 (sb i + c) n = (be1 i j S).1 (sb i + c) n := fun c n hc => (be2_sm (lo := sb i) (hi := sb i + 8) (by omega) (sb i + c) (by omega) (by omega) n).1
  have e2 : ∀ c n, 8 ≤ c → c < 13 → (be1 i j S).1 (sb j + c) n = S.1 (sb j + c) n ∧ (be1 i j S).2 (sb j + c) n = S.2 (sb j + c) n := fun c n q1 q2 => by
    rcases Nat.lt_or_ge j i with q | q
    · exact be1_sm (lo := sb j) (hi := sb j + 13) (by omega) (sb j + c) (by omega) (by omega) n
    · exact be1_sm (lo := sb j) (hi := sb j + 13) (by omega) (sb j + c) (by omega) (by omega) n
  have b0 := be1_0 (S := S) h
  refine ⟨⟨(e1 0 9 (by decide)).trans (b0.2.1.trans c1), (e1 0 8 (by decide)).trans (b0.1.trans c2), fun k hk => (e1 1 k (by decide)).trans ((be1_1 h (by omega)).trans (c3 k hk)), fun k hk => (e1 2 k (by decide)).trans ((be1_1 h (by omega)).trans (c4 k hk)), fun k hk => (e1 3 k (by decide)).trans ((be1_1 h (by omega)).trans (c5 k hk)), fun k hk => (e1 4 k (by decide)).trans ((be1_1 h (by omega)).trans (c6 k hk))⟩, ⟨(e1 0 10 (by decide)).trans (b0.2.2.trans t1), fun k hk => (e1 5 k (by decide)).trans ((be1_1 h (by omega)).trans (t2 k hk)), fun k hk => (e1 6 k (by decide)).trans ((be1_1 h (by omega)).trans (t3 k hk)), fun k hk => (e1 7 k (by decide)).trans ((be1_1 h (by omega)).trans (t4 k hk))⟩, ⟨be2_0.1.trans ((e2 8 5 (by decide) (by decide)).1.trans h1), fun k hk => (be2_1 h (by omega)).trans ((e2 9 k (by decide) (by decide)).1.trans (h2 k hk)), fun k hk => (be2_1 h (by omega)).trans ((e2 10 k (by decide) (by decide)).1.trans (h3 k hk)), fun k hk => (be2_1 h (by omega)).trans ((e2 11 k (by decide) (by decide)).1.trans (h4 k hk)), fun k hk => ?_, ?_⟩⟩
  · unfold bec
    rw [be2_2 h (by omega), (e2 12 k (by decide) (by decide)).2]
    exact h5 k hk
  · unfold bec
    rw [be2_0.2, (e2 8 4 (by decide) (by decide)).2]
    exact h6
theorem wI_id {S : Sg} {k j : Nat} : wI S k j (S.1 k j) = S := by
  refine Prod.ext (funext fun c => funext fun n => ?_) rfl
  rw [wI_1]
  by_cases h1 : c = k
  · by_cases h2 : n = j
    · rw [if_pos h1, if_pos h2, h1, h2]
    · rw [if_pos h1, if_neg h2]
  · rw [if_neg h1]
