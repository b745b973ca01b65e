/-! ===== streets kept and gone on from ===== -/
theorem cpI_n {S : Sg} {k1 sp k2 dp n c j : Nat} (h : c ≠ k2 ∨ j < dp ∨ dp + n ≤ j) : (cpI S k1 sp k2 dp n).1 c j = S.1 c j := by rw [cpI_1, if_neg (by omega)]
theorem cpI_e {S : Sg} {k1 k2 n j : Nat} (h : j < n) : (cpI S k1 0 k2 0 n).1 k2 j = S.1 k1 j := by rw [cpI_1, if_pos (by omega), Nat.zero_add, Nat.sub_zero]
theorem cpL_1 {S : Sg} {k1 sp k2 dp n : Nat} : (cpL S k1 sp k2 dp n).1 = S.1 := rfl
theorem cpL_2 {S : Sg} {k1 sp k2 dp n c j : Nat} : (cpL S k1 sp k2 dp n).2 c j = if c = k2 ∧ dp ≤ j ∧ j < dp + n then S.2 k1 (sp + (j - dp)) else S.2 c j := by
  by_cases h : c = k2
  · subst h
    rw [cpL_s]
    show (if dp ≤ j ∧ j < dp + n then _ else _) = _
    by_cases q : dp ≤ j ∧ j < dp + n
    · rw [if_pos q, if_pos ⟨rfl, q⟩]
    · rw [if_neg q, if_neg (fun w => q w.2)]
  · rw [(cpL_o c h).2, if_neg (fun w => h w.1)]
theorem cpL_sm {S : Sg} {k1 sp k2 dp n lo hi : Nat} (h : k2 < lo ∨ hi ≤ k2) : sm lo hi S (cpL S k1 sp k2 dp n) := fun c h1 h2 j => ⟨rfl, by rw [cpL_2, if_neg (by omega)]⟩
def be1 (i j : Nat) (S : Sg) : Sg := cpI (cpI (cpI (cpI (cpI (cpI (cpI (wI (wI (wI S (sb i) 8 (S.1 (sb j) 8)) (sb i) 9 (S.1 (sb j) 9)) (sb i) 10 (S.1 (sb j) 10)) (sb j + 1) 0 (sb i + 1) 0 6) (sb j + 2) 0 (sb i + 2) 0 7) (sb j + 3) 0 (sb i + 3) 0 7) (sb j + 4) 0 (sb i + 4) 0 7) (sb j + 5) 0 (sb i + 5) 0 8) (sb j + 6) 0 (sb i + 6) 0 8) (sb j + 7) 0 (sb i + 7) 0 8
def be2 (i j : Nat) (S : Sg) : Sg := wI (wL (cpL (cpI (cpI (cpI S (sb j + 9) 0 (sb i + 9) 0 40) (sb j + 10) 0 (sb i + 10) 0 40) (sb j + 11) 0 (sb i + 11) 0 40) (sb j + 12) 0 (sb i + 12) 0 40) (sb i + 8) 4 (S.2 (sb j + 8) 4)) (sb i + 8) 5 (S.1 (sb j + 8) 5)
theorem f6_become {i j : Nat} {S : Sg} (h : i ≠ j) : F_X6_become i j S = some (be2 i j (be1 i j S)) := by
  have hi : sb i = 34 + 13 * i := rfl
  have hj : sb j = 34 + 13 * j := rfl
  have c8 : ∀ {α : Type} (K : Option α) (n : Nat), n < 100 → chk (cpB 0 0 (zI n) n n) K = K := fun K n hn => cpB_N (sp := 0) (dp := 0) (by omega) (by omega) (by omega) (by omega)
  rw [F_X6_become]
  simp only [nm]
  rw [show (6 : Int32) = zI ((6 : Nat) : Int) from rfl, show (7 : Int32) = zI ((7 : Nat) : Int) from rfl, show (8 : Int32) = zI ((8 : Nat) : Int) from rfl, c8 _ 6 (by decide), c8 _ 7 (by decide), c8 _ 7 (by decide), c8 _ 7 (by decide), c8 _ 8 (by decide), c8 _ 8 (by decide), c8 _ 8 (by decide), z_tnN (by decide), z_tnN (by decide), z_tnN (by decide), show (0 : Int32).toNatClampNeg = 0 from by decide]
  rw [wI_ne (S := S) (by omega), wI_ne (by omega), wI_ne (by omega)]
  show bd (F_X1_become i j (be1 i j S)) _ = _
  generalize be1 i j S = T
  rw [F_X1_become]
  simp only [nm]
  rw [show (40 : Int32) = zI ((40 : Nat) : Int) from rfl, c8 _ 40 (by decide), c8 _ 40 (by decide), c8 _ 40 (by decide), c8 _ 40 (by decide), z_tnN (by decide), show (0 : Int32).toNatClampNeg = 0 from by decide, bd_some]
  refine congrArg some ?_
  unfold be2
  rw [wL_1, cpL_1, cpI_n (by omega), cpI_n (by omega), cpI_n (by omega), cpL_2, if_neg (by omega)]
  rfl
theorem be1_sm {i j : Nat} {S : Sg} {lo hi : Nat} (h : sb i + 8 ≤ lo ∨ hi ≤ sb i) : sm lo hi S (be1 i j S) :=
  sm_tr (sm_tr (sm_tr (sm_tr (sm_tr (sm_tr (sm_tr (sm_tr (sm_tr (sm_wI (by omega)) (sm_wI (by omega))) (sm_wI (by omega))) (cpI_sm (by omega))) (cpI_sm (by omega))) (cpI_sm (by omega))) (cpI_sm (by omega))) (cpI_sm (by omega))) (cpI_sm (by omega))) (cpI_sm (by omega))
theorem be2_sm {i j : Nat} {S : Sg} {lo hi : Nat} (h : sb i + 13 ≤ lo ∨ hi ≤ sb i + 8) : sm lo hi S (be2 i j S) :=
  sm_tr (sm_tr (sm_tr (sm_tr (sm_tr (sm_tr (cpI_sm (by omega)) (cpI_sm (by omega))) (cpI_sm (by omega))) (cpL_sm (by omega))) (sm_wL (by omega))) (sm_wI (by omega))) (sm_rfl _ _ _)
def bec (i j : Nat) (S : Sg) : Sg := be2 i j (be1 i j S)
theorem bec_sm {i j : Nat} {S : Sg} {lo hi : Nat} (h : sb i + 13 ≤ lo ∨ hi ≤ sb i) : sm lo hi S (bec i j S) := sm_tr (be1_sm (by omega)) (be2_sm (by omega))
theorem be1_0 {i j : Nat} {S : Sg} (h : i ≠ j) : (be1 i j S).1 (sb i) 8 = S.1 (sb j) 8 ∧ (be1 i j S).1 (sb i) 9 = S.1 (sb j) 9 ∧ (be1 i j S).1 (sb i) 10 = S.1 (sb j) 10 := by
  have hi : sb i = 34 + 13 * i := rfl
  have hj : sb j = 34 + 13 * j := rfl
  unfold be1
  refine ⟨?_, ?_, ?_⟩
  · simp (disch := omega) only [cpI_n, wI_ne, wI_eq]
  · simp (disch := omega) only [cpI_n, wI_ne, wI_eq]
  · simp (disch := omega) only [cpI_n, wI_ne, wI_eq]
theorem be1_1 {i j : Nat} {S : Sg} (h : i ≠ j) {c n : Nat} (hc : c = 1 ∧ n < 6 ∨ c = 2 ∧ n < 7 ∨ c = 3 ∧ n < 7 ∨ c = 4 ∧ n < 7 ∨ c = 5 ∧ n < 8 ∨ c = 6 ∧ n < 8 ∨ c = 7 ∧ n < 8) : (be1 i j S).1 (sb i + c) n = S.1 (sb j + c) n := by
  have hi : sb i = 34 + 13 * i := rfl
  have hj : sb j = 34 + 13 * j := rfl
  unfold be1
  rcases hc with ⟨rfl, hn⟩ | ⟨rfl, hn⟩ | ⟨rfl, hn⟩ | ⟨rfl, hn⟩ | ⟨rfl, hn⟩ | ⟨rfl, hn⟩ | ⟨rfl, hn⟩
  all_goals simp (disch := omega) only [cpI_n, cpI_e, wI_ne]
theorem be2_1 {i j : Nat} {S : Sg} (h : i ≠ j) {c n : Nat} (hc : 9 ≤ c ∧ c < 12 ∧ n < 40) : (be2 i j S).1 (sb i + c) n = S.1 (sb j + c) n := by
  have hi : sb i = 34 + 13 * i := rfl
  have hj : sb j = 34 + 13 * j := rfl
  have h3 : c = 9 ∨ c = 10 ∨ c = 11 := by omega
  unfold be2
  rcases h3 with rfl | rfl | rfl
  all_goals simp (disch := omega) only [cpI_n, cpI_e, wI_ne, wL_1, cpL_1]
theorem be2_2 {i j : Nat} {S : Sg} {n : Nat} (h : i ≠ j) (hn : n < 40) : (be2 i j S).2 (sb i + 12) n = S.2 (sb j + 12) n := by
  unfold be2
  rw [wI_2, wL_2, if_neg (by omega), cpL_2, if_pos (by omega), Nat.zero_add, Nat.sub_zero]
  rfl
theorem be2_0 {i j : Nat} {S : Sg} : (be2 i j S).1 (sb i + 8) 5 = S.1 (sb j + 8) 5 ∧ (be2 i j S).2 (sb i + 8) 4 = S.2 (sb j + 8) 4 := by
  unfold be2
  refine ⟨wI_eq, ?_⟩
  rw [wI_2, wL_2, if_pos rfl, if_pos rfl]
theorem C_bec {i j : Nat} {S : Sg} {a : AS} (h : i ≠ j) (w : WG a) (wt : WT a) (wh : WH a) (c : CG j S a ∧ CT j S a ∧ CH j S a) : CG i (bec i j S) a ∧ CT i (bec i j S) a ∧ CH i (bec i j S) a := by
  have hi : sb i = 34 + 13 * i := rfl
  have hj : sb j = 34 + 13 * j := rfl
  obtain ⟨⟨c1, c2, c3, c4, c5, c6⟩, ⟨t1, t2, t3, t4⟩, ⟨h1, h2, h3, h4, h5, h6⟩⟩ := c
  have wP := w.1
  have wW := w.2.1
  have wT := wt.1
  have wH := wh.1
  have e1 : ∀ c n, c < 8 → (bec i j S).1 (sb i + c) n = (be1 i j S).1 (sb i + c) n := fun c n hc => (be2_sm (lo := sb i) (hi := sb i + 8) (by omega) (sb i + c) (by omega) (by omega) n).1
  have e2 : ∀ c n, 8 ≤ c → c < 13 → (be1 i j S).1 (sb j + c) n = S.1 (sb j + c) n ∧ (be1 i j S).2 (sb j + c) n = S.2 (sb j + c) n := fun c n q1 q2 => by
    rcases Nat.lt_or_ge j i with q | q
    · exact be1_sm (lo := sb j) (hi := sb j + 13) (by omega) (sb j + c) (by omega) (by omega) n
    · exact be1_sm (lo := sb j) (hi := sb j + 13) (by omega) (sb j + c) (by omega) (by omega) n
  have b0 := be1_0 (S := S) h
  refine ⟨⟨(e1 0 9 (by decide)).trans (b0.2.1.trans c1), (e1 0 8 (by decide)).trans (b0.1.trans c2), fun k hk => (e1 1 k (by decide)).trans ((be1_1 h (by omega)).trans (c3 k hk)), fun k hk => (e1 2 k (by decide)).trans ((be1_1 h (by omega)).trans (c4 k hk)), fun k hk => (e1 3 k (by decide)).trans ((be1_1 h (by omega)).trans (c5 k hk)), fun k hk => (e1 4 k (by decide)).trans ((be1_1 h (by omega)).trans (c6 k hk))⟩, ⟨(e1 0 10 (by decide)).trans (b0.2.2.trans t1), fun k hk => (e1 5 k (by decide)).trans ((be1_1 h (by omega)).trans (t2 k hk)), fun k hk => (e1 6 k (by decide)).trans ((be1_1 h (by omega)).trans (t3 k hk)), fun k hk => (e1 7 k (by decide)).trans ((be1_1 h (by omega)).trans (t4 k hk))⟩, ⟨be2_0.1.trans ((e2 8 5 (by decide) (by decide)).1.trans h1), fun k hk => (be2_1 h (by omega)).trans ((e2 9 k (by decide) (by decide)).1.trans (h2 k hk)), fun k hk => (be2_1 h (by omega)).trans ((e2 10 k (by decide) (by decide)).1.trans (h3 k hk)), fun k hk => (be2_1 h (by omega)).trans ((e2 11 k (by decide) (by decide)).1.trans (h4 k hk)), fun k hk => ?_, ?_⟩⟩
  · unfold bec
    rw [be2_2 h (by omega), (e2 12 k (by decide) (by decide)).2]
    exact h5 k hk
  · unfold bec
    rw [be2_0.2, (e2 8 4 (by decide) (by decide)).2]
    exact h6
/-! the places of what is carried -/
def pos (p : Nat) : Nat × Nat := if p < 7 then (6, p) else if p < 13 then (7, p % 6) else if p < 21 then (9, p % 8) else if p < 45 then (8, p - 21) else if p < 165 then (10 + (p - 45) / 40, (p - 45) % 40) else if p < 485 then (13, p - 165) else if p = 485 then (0, 10) else (0, 16)
def slt (c n : Nat) : Nat := if c = 0 then (if n = 10 then 485 else 486) else if c = 6 then n else if c = 7 then (if n = 0 then 12 else 6 + n) else if c = 8 then 21 + n else if c = 9 then (if n < 5 then 16 + n else 8 + n) else if c = 10 then 45 + n else if c = 11 then 85 + n else if c = 12 then 125 + n else 165 + n
def vlc (c n : Nat) : Prop := c = 0 ∧ (n = 10 ∨ n = 16) ∨ c = 6 ∧ n < 7 ∨ c = 7 ∧ n < 6 ∨ c = 8 ∧ n < 24 ∨ c = 9 ∧ n < 8 ∨ c = 10 ∧ n < 40 ∨ c = 11 ∧ n < 40 ∨ c = 12 ∧ n < 40 ∨ c = 13 ∧ n < 320
theorem slt_pos : ∀ p, p < 487 → slt (pos p).1 (pos p).2 = p := by decide +kernel
theorem pos_in : ∀ p, p < 487 → 6 ≤ (pos p).1 ∧ (pos p).1 < 14 ∨ (pos p).1 = 0 ∧ ((pos p).2 = 10 ∨ (pos p).2 = 16) := by decide +kernel
theorem pos_slt {c n : Nat} (h : vlc c n) : pos (slt c n) = (c, n) ∧ slt c n < 487 := by
  have h6 : ∀ n, n < 7 → pos (slt 6 n) = (6, n) ∧ slt 6 n < 487 := by decide +kernel
  have h7 : ∀ n, n < 6 → pos (slt 7 n) = (7, n) ∧ slt 7 n < 487 := by decide +kernel
  have h8 : ∀ n, n < 24 → pos (slt 8 n) = (8, n) ∧ slt 8 n < 487 := by decide +kernel
  have h9 : ∀ n, n < 8 → pos (slt 9 n) = (9, n) ∧ slt 9 n < 487 := by decide +kernel
  have h10 : ∀ n, n < 40 → pos (slt 10 n) = (10, n) ∧ slt 10 n < 487 := by decide +kernel
  have h11 : ∀ n, n < 40 → pos (slt 11 n) = (11, n) ∧ slt 11 n < 487 := by decide +kernel
  have h12 : ∀ n, n < 40 → pos (slt 12 n) = (12, n) ∧ slt 12 n < 487 := by decide +kernel
  have h13 : ∀ n, n < 320 → pos (slt 13 n) = (13, n) ∧ slt 13 n < 487 := by decide +kernel
  rcases h with ⟨rfl, h⟩ | ⟨rfl, h⟩ | ⟨rfl, h⟩ | ⟨rfl, h⟩ | ⟨rfl, h⟩ | ⟨rfl, h⟩ | ⟨rfl, h⟩ | ⟨rfl, h⟩ | ⟨rfl, h⟩
  · rcases h with rfl | rfl <;> decide
  · exact h6 n h
  · exact h7 n h
  · exact h8 n h
  · exact h9 n h
  · exact h10 n h
  · exact h11 n h
  · exact h12 n h
  · exact h13 n h
theorem dec_1 {μ : Sg} {k c n : Nat} (h : vlc c n) : (dec μ k).1 c n = μ.1 26 (488 * k + slt c n) := by
  unfold dec slt
  rcases h with ⟨rfl, h⟩ | ⟨rfl, h⟩ | ⟨rfl, h⟩ | ⟨rfl, h⟩ | ⟨rfl, h⟩ | ⟨rfl, h⟩ | ⟨rfl, h⟩ | ⟨rfl, h⟩ | ⟨rfl, h⟩
  · rcases h with rfl | rfl <;> rfl
  all_goals rfl
theorem M_cg {μ μ' : Sg} {a : AS} (w : WG a) (wt : WT a) (wh : WH a) (e : ∀ c n, vlc c n → μ'.1 c n = μ.1 c n) (e0 : μ'.1 0 7 = μ.1 0 7 ∧ μ'.1 0 8 = μ.1 0 8 ∧ ∀ n, μ'.1 5 n = μ.1 5 n) (m : MG μ a ∧ MT μ a ∧ MH μ a) : MG μ' a ∧ MT μ' a ∧ MH μ' a := by
  obtain ⟨⟨m1, m2, m3, m4, m5⟩, ⟨n1, n2, n3, n4⟩, ⟨k1, k2, k3, k4, k5, k6⟩⟩ := m
  have wP := w.1
  have wW := w.2.1
  have wT := wt.1
  have wH := wh.1
  have q : ∀ c n, (c = 0 ∧ (n = 10 ∨ n = 16) ∨ c = 6 ∧ n < 7 ∨ c = 7 ∧ n < 6 ∨ c = 8 ∧ n < 24 ∨ c = 9 ∧ n < 8 ∨ c = 10 ∧ n < 40 ∨ c = 11 ∧ n < 40 ∨ c = 12 ∧ n < 40 ∨ c = 13 ∧ n < 320) → μ'.1 c n = μ.1 c n := e
  exact ⟨⟨e0.1.trans m1, e0.2.1.trans m2, fun j hj => (q 7 j (by omega)).trans (m3 j hj), fun j hj => (e0.2.2 j).trans (m4 j hj), fun j hj => (q 6 j (by omega)).trans (m5 j hj)⟩, ⟨(q 0 10 (by omega)).trans n1, fun j hj => (q 8 _ (by omega)).trans (n2 j hj), fun j hj => (q 8 _ (by omega)).trans (n3 j hj), fun j hj => (q 8 _ (by omega)).trans (n4 j hj)⟩, ⟨(q 0 16 (by omega)).trans k1, fun j hj => (q 9 j (by omega)).trans (k2 j hj), fun j hj => (q 10 j (by omega)).trans (k3 j hj), fun j hj => (q 11 j (by omega)).trans (k4 j hj), fun j hj => (q 12 j (by omega)).trans (k5 j hj), fun j t hj ht => (q 13 _ (by omega)).trans (k6 j t hj ht)⟩⟩
theorem wI_id {S : Sg} {k j : Nat} : wI S k j (S.1 k j) = S := by
  refine Prod.ext (funext fun c => funext fun n => ?_) rfl
  rw [wI_1]
  by_cases h1 : c = k
  · by_cases h2 : n = j
    · rw [if_pos h1, if_pos h2, h1, h2]
    · rw [if_pos h1, if_neg h2]
  · rw [if_neg h1]
theorem mod7 : ∀ p, p < 21 → zI ((p : Nat) : Int) - zI ((p : Nat) : Int) / (7 : Int32) * (7 : Int32) = zI ((p % 7 : Nat) : Int) ∧ zI ((p : Nat) : Int) - zI ((p : Nat) : Int) / (6 : Int32) * (6 : Int32) = zI ((p % 6 : Nat) : Int) ∧ zI ((p : Nat) : Int) - zI ((p : Nat) : Int) / (8 : Int32) * (8 : Int32) = zI ((p % 8 : Nat) : Int) := by decide +kernel
theorem mod40 : ∀ p, p < 120 → zI ((p : Nat) : Int) - zI ((p : Nat) : Int) / (40 : Int32) * (40 : Int32) = zI ((p % 40 : Nat) : Int) ∧ zI ((p : Nat) : Int) / (40 : Int32) = zI ((p / 40 : Nat) : Int) := by decide +kernel
def val (S : Sg) (p : Nat) : Int32 := if p < 487 then S.1 (pos p).1 (pos p).2 else 0
theorem f9_car0 {S : Sg} {p : Nat} (hp : p < 488) : F_X9_carried S (zI p) 0 0 = some (val S p, S) := by
  have l : ∀ m : Nat, m < 2147483648 → ∀ {α : Type} {A B : α}, (if zI m ≤ zI p then A else B) = if m ≤ p then A else B := fun m hm α A B => by
    by_cases q : m ≤ p
    · rw [if_pos q, if_le_t q (by omega)]
    · rw [if_neg q, if_le_f (by omega) (by omega)]
  have ee : ∀ m : Nat, m < 2147483648 → ∀ {α : Type} {A B : α}, (if zI p = zI m then A else B) = if p = m then A else B := fun m hm α A B => by
    by_cases q : p = m
    · rw [if_pos q, if_eqN_t q]
    · rw [if_neg q, if_eqN_f q (by omega) (by omega)]
  rw [F_X9_carried]
  simp only [if_true]
  unfold val pos
  by_cases q1 : p < 21
  · obtain ⟨d7, d6, d8⟩ := mod7 p q1
    have v7 : p % 7 < 7 := Nat.mod_lt _ (by decide)
    have v6 : p % 6 < 6 := Nat.mod_lt _ (by decide)
    have v8 : p % 8 < 8 := Nat.mod_lt _ (by decide)
    rw [d7, d6, d8, show (21 : Int32) = zI ((21 : Nat) : Int) from rfl, l 21 (by decide), if_neg (by omega), nm, chk_N v7 (by decide), bd_some, chk_N v7 (by decide), nm, z_tnN (by omega), wI_id, chk_N v6 (by decide), bd_some, chk_N v6 (by decide), nm, z_tnN (by omega), wI_id, chk_N v8 (by decide), bd_some, chk_N v8 (by decide), nm, z_tnN (by omega), wI_id, show (7 : Int32) = zI ((7 : Nat) : Int) from rfl, l 7 (by decide), show (13 : Int32) = zI ((13 : Nat) : Int) from rfl, l 13 (by decide), chk_N v7 (by decide), chk_N v6 (by decide), chk_N v8 (by decide), if_pos (c := p < 487) (by omega)]
    by_cases q2 : p < 7
    · rw [if_neg (by omega), if_pos q2, show p % 7 = p by omega]
    · rw [if_pos (c := 7 ≤ p) (by omega), if_neg q2]
      by_cases q3 : p < 13
      · rw [if_neg (by omega), if_pos q3]
      · rw [if_pos (by omega), if_neg q3, if_pos q1]
  rw [show (21 : Int32) = zI ((21 : Nat) : Int) from rfl, l 21 (by decide), if_pos (by omega), show (45 : Int32) = zI ((45 : Nat) : Int) from rfl, l 45 (by decide)]
  by_cases q2 : p < 45
  · rw [if_neg (by omega), z_sub, show (p : Int) - ((21 : Nat) : Int) = ((p - 21 : Nat) : Int) by omega, chk_N (by omega) (by omega), bd_some, chk_N (by omega) (by omega), nm, z_tnN (by omega), wI_id, chk_N (by omega) (by omega), if_pos (c := p < 487) (by omega), if_neg (c := p < 7) (by omega), if_neg (c := p < 13) (by omega), if_neg (c := p < 21) (by omega), if_pos q2]
  rw [if_pos (by omega), show (165 : Int32) = zI ((165 : Nat) : Int) from rfl, l 165 (by decide)]
  by_cases q3 : p < 165
  · obtain ⟨d1, d2⟩ := mod40 (p - 45) (by omega)
    have v4 : (p - 45) % 40 < 40 := Nat.mod_lt _ (by decide)
    rw [if_neg (by omega), z_sub, show (p : Int) - ((45 : Nat) : Int) = ((p - 45 : Nat) : Int) by omega, d1, d2, nm, nm, chk_N v4 (by decide), bd_some, chk_N v4 (by decide), nm, z_tnN (by omega), wI_id, chk_N v4 (by decide), bd_some, chk_N v4 (by decide), nm, wI_id, chk_N v4 (by decide), bd_some, chk_N v4 (by decide), nm, wI_id, chk_N v4 (by decide), chk_N v4 (by decide), chk_N v4 (by decide), if_pos (c := p < 487) (by omega), if_neg (c := p < 7) (by omega), if_neg (c := p < 13) (by omega), if_neg (c := p < 21) (by omega), if_neg q2, if_pos q3]
    have h3 : (p - 45) / 40 = 0 ∨ (p - 45) / 40 = 1 ∨ (p - 45) / 40 = 2 := by omega
    rcases h3 with h3 | h3 | h3 <;> rw [h3] <;> rfl
  rw [if_pos (by omega), show (485 : Int32) = zI ((485 : Nat) : Int) from rfl, l 485 (by decide)]
  by_cases q4 : p < 485
  · rw [if_neg (by omega), z_sub, show (p : Int) - ((165 : Nat) : Int) = ((p - 165 : Nat) : Int) by omega, chk_N (by omega) (by omega), bd_some, chk_N (by omega) (by omega), nm, z_tnN (by omega), wI_id, chk_N (by omega) (by omega), if_pos (c := p < 487) (by omega), if_neg (c := p < 7) (by omega), if_neg (c := p < 13) (by omega), if_neg (c := p < 21) (by omega), if_neg q2, if_neg q3, if_pos q4]
  rw [if_pos (by omega), bd_some, nm, wI_id, bd_some, nm, wI_id]
  have h3 : p = 485 ∨ p = 486 ∨ p = 487 := by omega
  rcases h3 with rfl | rfl | rfl <;> rfl
def put (S : Sg) (p : Nat) (v : Int32) : Sg := if p < 487 then wI S (pos p).1 (pos p).2 v else S
theorem f9_car1 {S : Sg} {p : Nat} (hp : p < 488) {v : Int32} : ∃ r, F_X9_carried S (zI p) v 1 = some (r, put S p v) := by
  have l : ∀ m : Nat, m < 2147483648 → ∀ {α : Type} {A B : α}, (if zI m ≤ zI p then A else B) = if m ≤ p then A else B := fun m hm α A B => by
    by_cases q : m ≤ p
    · rw [if_pos q, if_le_t q (by omega)]
    · rw [if_neg q, if_le_f (by omega) (by omega)]
  have n1 : ∀ {α : Type} {A B : α}, (if (1 : Int32) = 0 then A else B) = B := if_neg (by decide)
  rw [F_X9_carried]
  simp only [n1]
  unfold put pos
  by_cases q1 : p < 21
  · obtain ⟨d7, d6, d8⟩ := mod7 p q1
    have v7 : p % 7 < 7 := Nat.mod_lt _ (by decide)
    have v6 : p % 6 < 6 := Nat.mod_lt _ (by decide)
    have v8 : p % 8 < 8 := Nat.mod_lt _ (by decide)
    have e712 : ∀ T : Sg, F_X9_in T (Int32.toInt64 (zI p)) (7 : Int64) (12 : Int64) = some (bI (inZ 7 12 p)) := fun T => inZ_in (l := 7) (h := 12) ⟨by omega, by omega⟩ (by decide) (by decide) (by decide) (by decide)
    have c7 : ∀ {α : Type} (K : Option α), chk (inB (zI ((p % 7 : Nat) : Int)) 7) K = K := fun K => chk_N v7 (by decide)
    have c6 : ∀ {α : Type} (K : Option α), chk (inB (zI ((p % 6 : Nat) : Int)) 6) K = K := fun K => chk_N v6 (by decide)
    have c8 : ∀ {α : Type} (K : Option α), chk (inB (zI ((p % 8 : Nat) : Int)) 8) K = K := fun K => chk_N v8 (by decide)
    rw [d7, d6, d8, show (21 : Int32) = zI ((21 : Nat) : Int) from rfl, l 21 (by decide), if_neg (by omega), nm]
    simp only [e712, c7, c6, c8, bd_some]
    have w7 : ∀ {α : Type} {A B : α}, (if (7 : Int32) ≤ zI p then A else B) = if 7 ≤ p then A else B := l 7 (by decide)
    have w13 : ∀ {α : Type} {A B : α}, (if (13 : Int32) ≤ zI p then A else B) = if 13 ≤ p then A else B := l 13 (by decide)
    have w2 : ∀ {α : Type} {A B : α}, (if zI p ≤ (12 : Int32) then A else B) = if p < 13 then A else B := fun {α A B} => by
      rw [show (12 : Int32) = zI ((12 : Nat) : Int) from rfl]
      by_cases q : p < 13
      · rw [if_le_t (by omega) (by omega), if_pos q]
      · rw [if_le_f (by omega) (by omega), if_neg q]
    simp only [w2, w7, w13]
    rw [z_tnN (by omega), z_tnN (by omega), z_tnN (by omega), if_pos (c := p < 487) (by omega)]
    by_cases q2 : p < 7
    · rw [inZ_no (l := 7) (h := 12) (z := p) (.inl (by omega)), show p % 7 = p by omega]
      simp only [if_neg (show ¬ 7 ≤ p by omega), if_pos q2, if_pos (show p < 13 by omega), f0, bd_some, nm, wI_id]
      exact ⟨_, rfl⟩
    · by_cases q3 : p < 13
      · rw [inZ_y (l := 7) (h := 12) (z := p) (by omega)]
        simp only [if_pos (show 7 ≤ p by omega), if_neg q2, if_pos q3, if_neg (show ¬ 13 ≤ p by omega), t0, bd_some, nm, wI_id]
        exact ⟨_, rfl⟩
      · rw [inZ_no (l := 7) (h := 12) (z := p) (.inr (by omega))]
        simp only [if_pos (show 7 ≤ p by omega), if_neg q2, if_neg q3, if_pos (show 13 ≤ p by omega), if_pos q1, f0, bd_some, nm, wI_id]
        exact ⟨_, rfl⟩
  rw [show (21 : Int32) = zI ((21 : Nat) : Int) from rfl, l 21 (by decide), if_pos (by omega), show (45 : Int32) = zI ((45 : Nat) : Int) from rfl, l 45 (by decide)]
  by_cases q2 : p < 45
  · rw [if_neg (by omega), z_sub, show (p : Int) - ((21 : Nat) : Int) = ((p - 21 : Nat) : Int) by omega, bd_some, chk_N (by omega) (by omega), nm, z_tnN (by omega), chk_N (by omega) (by omega), if_pos (c := p < 487) (by omega), if_neg (c := p < 7) (by omega), if_neg (c := p < 13) (by omega), if_neg (c := p < 21) (by omega), if_pos q2]
    exact ⟨_, rfl⟩
  rw [if_pos (by omega), show (165 : Int32) = zI ((165 : Nat) : Int) from rfl, l 165 (by decide)]
  by_cases q3 : p < 165
  · obtain ⟨d1, d2⟩ := mod40 (p - 45) (by omega)
    have v4 : (p - 45) % 40 < 40 := Nat.mod_lt _ (by decide)
    have c4 : ∀ {α : Type} (K : Option α), chk (inB (zI (((p - 45) % 40 : Nat) : Int)) 40) K = K := fun K => chk_N v4 (by decide)
    rw [if_neg (by omega), z_sub, show (p : Int) - ((45 : Nat) : Int) = ((p - 45 : Nat) : Int) by omega, d1, d2, nm, nm]
    simp only [c4, bd_some]
    rw [z_tnN (by omega), if_pos (c := p < 487) (by omega), if_neg (c := p < 7) (by omega), if_neg (c := p < 13) (by omega), if_neg (c := p < 21) (by omega), if_neg q2, if_pos q3]
    have h3 : (p - 45) / 40 = 0 ∨ (p - 45) / 40 = 1 ∨ (p - 45) / 40 = 2 := by omega
    have z0 : ∀ {α : Type} {A B : α}, (if zI ((0 : Nat) : Int) = 0 then A else B) = A := if_pos rfl
    have z01 : ∀ {α : Type} {A B : α}, (if zI ((0 : Nat) : Int) = 1 then A else B) = B := if_neg (by decide)
    have z02 : ∀ {α : Type} {A B : α}, (if zI ((0 : Nat) : Int) = 2 then A else B) = B := if_neg (by decide)
    have z10 : ∀ {α : Type} {A B : α}, (if zI ((1 : Nat) : Int) = 0 then A else B) = B := if_neg (by decide)
    have z11 : ∀ {α : Type} {A B : α}, (if zI ((1 : Nat) : Int) = 1 then A else B) = A := if_pos rfl
    have z12 : ∀ {α : Type} {A B : α}, (if zI ((1 : Nat) : Int) = 2 then A else B) = B := if_neg (by decide)
    have z20 : ∀ {α : Type} {A B : α}, (if zI ((2 : Nat) : Int) = 0 then A else B) = B := if_neg (by decide)
    have z21 : ∀ {α : Type} {A B : α}, (if zI ((2 : Nat) : Int) = 1 then A else B) = B := if_neg (by decide)
    have z22 : ∀ {α : Type} {A B : α}, (if zI ((2 : Nat) : Int) = 2 then A else B) = A := if_pos rfl
    rcases h3 with h3 | h3 | h3
    · rw [h3]
      simp only [z0, z01, z02, bd_some, nm, wI_id]
      exact ⟨_, rfl⟩
    · rw [h3]
      simp only [z10, z11, z12, bd_some, nm, wI_id]
      exact ⟨_, rfl⟩
    · rw [h3]
      simp only [z20, z21, z22, bd_some, nm, wI_id]
      exact ⟨_, rfl⟩
  rw [if_pos (by omega), show (485 : Int32) = zI ((485 : Nat) : Int) from rfl, l 485 (by decide)]
  by_cases q4 : p < 485
  · rw [if_neg (by omega), z_sub, show (p : Int) - ((165 : Nat) : Int) = ((p - 165 : Nat) : Int) by omega, bd_some, chk_N (by omega) (by omega), nm, z_tnN (by omega), chk_N (by omega) (by omega), if_pos (c := p < 487) (by omega), if_neg (c := p < 7) (by omega), if_neg (c := p < 13) (by omega), if_neg (c := p < 21) (by omega), if_neg q2, if_neg q3, if_pos q4]
    exact ⟨_, rfl⟩
  rw [if_pos (by omega), if_neg (c := p < 7) (by omega), if_neg (c := p < 13) (by omega), if_neg (c := p < 21) (by omega), if_neg q2, if_neg q3, if_neg q4, show (486 : Int32) = zI ((486 : Nat) : Int) from rfl]
  have ee : ∀ m : Nat, m < 2147483648 → ∀ {α : Type} {A B : α}, (if zI p = zI m then A else B) = if p = m then A else B := fun m hm α A B => by
    by_cases q : p = m
    · rw [if_pos q, if_eqN_t q]
    · rw [if_neg q, if_eqN_f q (by omega) (by omega)]
  simp only [ee 485 (by decide), ee 486 (by decide)]
  have h3 : p = 485 ∨ p = 486 ∨ p = 487 := by omega
  rcases h3 with h3 | h3 | h3
  · simp only [if_pos h3, if_neg (show ¬ p = 486 by omega), if_pos (show p < 487 by omega), bd_some, nm, wI_id]
    exact ⟨_, rfl⟩
  · simp only [if_pos h3, if_neg (show ¬ p = 485 by omega), if_pos (show p < 487 by omega), bd_some, nm, wI_id]
    exact ⟨_, rfl⟩
  · simp only [if_neg (show ¬ p = 486 by omega), if_neg (show ¬ p = 485 by omega), if_neg (show ¬ p < 487 by omega), bd_some, nm, wI_id]
    exact ⟨_, rfl⟩
/-! kept and gone on from -/
def onS (k : Nat) (μ : Sg) : Nat → Sg
  | 0 => μ
  | x + 1 => put (onS k μ x) x (μ.1 26 (488 * k + x))
theorem put_o {S : Sg} {p : Nat} {v : Int32} {c n : Nat} (h : p < 487 → (pos p).1 ≠ c ∨ (pos p).2 ≠ n) : (put S p v).1 c n = S.1 c n := by
  unfold put
  by_cases q : p < 487
  · rw [if_pos q, wI_ne (by have := h q; omega)]
  · rw [if_neg q]
theorem onS_o {k : Nat} {μ : Sg} {c n : Nat} (h : ∀ p, p < 487 → (pos p).1 ≠ c ∨ (pos p).2 ≠ n) : ∀ x, (onS k μ x).1 c n = μ.1 c n
  | 0 => rfl
  | x + 1 => by rw [onS, put_o (h x), onS_o h x]
theorem onS_i {k : Nat} {μ : Sg} {p : Nat} (hp : p < 487) : ∀ x, p < x → (onS k μ x).1 (pos p).1 (pos p).2 = μ.1 26 (488 * k + p)
  | 0, h => absurd h (Nat.not_lt_zero _)
  | x + 1, h => by
    rw [onS]
    by_cases e : p = x
    · subst e
      unfold put
      rw [if_pos hp, wI_eq]
    · rw [put_o (fun hx => ?_), onS_i hp x (by omega)]
      by_cases q : (pos x).1 = (pos p).1 ∧ (pos x).2 = (pos p).2
      · have e1 := slt_pos x hx
        have e2 := slt_pos p hp
        rw [q.1, q.2, e2] at e1
        exact absurd e1 e
      · omega
theorem onS_out {k : Nat} {μ : Sg} {c n : Nat} (h : c = 0 ∧ n ≠ 10 ∧ n ≠ 16 ∨ 0 < c ∧ c < 6 ∨ 14 ≤ c) (x : Nat) : (onS k μ x).1 c n = μ.1 c n := onS_o (fun p hp => by have := pos_in p hp; omega) x
theorem f9_on {μ : Sg} {k : Nat} (hk : k < 3) : T_X9_on_31 (zI k) FU 0 μ = some (onS k μ 488) := by
  refine loopE (fun n x => T_X9_on_31 (zI k) n (zI x) (onS k μ x)) 488 (some (onS k μ 488)) (by omega) (fun n => ?_) (fun n x hx => ?_)
  · simp only [T_X9_on_31]
    rw [if_pos (by decide)]
  · simp only [T_X9_on_31]
    rw [zMA (m := 488) (c := 488) rfl, show (488 : Int32) = zI ((488 : Nat) : Int) from rfl, if_le_f hx (by omega), chk_N (by omega) (by omega), z_tnN (by omega), onS_out (.inr (.inr (by decide)))]
    obtain ⟨r, hr⟩ := f9_car1 (S := onS k μ x) hx (v := μ.1 26 (488 * k + x))
    rw [hr, bd_some, zS, onS]
theorem val_wr {μ : Sg} {k x p : Nat} {g : Nat → Int32} : val (wr 26 (488 * k) g μ x) p = val μ p := by
  unfold val
  by_cases q : p < 487
  · have := pos_in p q
    rw [if_pos q, if_pos q, wr_n (by omega)]
  · rw [if_neg q, if_neg q]
theorem f9_keep {μ : Sg} {k : Nat} (hk : k < 3) : T_X9_keep_26 (zI k) FU 0 μ = some (wr 26 (488 * k) (val μ) μ 488) := by
  refine loopE (fun n x => T_X9_keep_26 (zI k) n (zI x) (wr 26 (488 * k) (val μ) μ x)) 488 (some (wr 26 (488 * k) (val μ) μ 488)) (by omega) (fun n => ?_) (fun n x hx => ?_)
  · simp only [T_X9_keep_26]
    rw [if_pos (by decide)]
  · simp only [T_X9_keep_26]
    rw [zMA (m := 488) (c := 488) rfl, show (488 : Int32) = zI ((488 : Nat) : Int) from rfl, if_le_f hx (by omega), f9_car0 hx, bd_some, val_wr]
    show chk _ _ = _
    rw [chk_N (by omega) (by omega), z_tnN (by omega), nm, zS, wr]
theorem dec_7 {μ : Sg} {k : Nat} : (dec μ k).1 0 7 = μ.1 0 7 := rfl
theorem dec_8 {μ : Sg} {k : Nat} : (dec μ k).1 0 8 = μ.1 0 8 := rfl
theorem dec_5 {μ : Sg} {k n : Nat} : (dec μ k).1 5 n = μ.1 5 n := rfl
theorem s_keep : st_keep R := by
  intro σ μ a1 h
  obtain ⟨x, hx1, hx2, rfl⟩ := arg a1
  obtain ⟨⟨a, ⟨wg, wt, wh⟩, ⟨cg, ct, ch⟩, ⟨mg, mt, mh⟩⟩, hA, hR, hT, hD, hK⟩ := id h
  have wP := wg.1
  unfold F_X8_keep F_X9_keep
  rw [f8_isPlace ⟨hx1, hx2⟩, f9_place ⟨hx1, hx2⟩, bd_some, bd_some, cg.1, mg.1, if_eq0 (by omega) (by omega), if_eq0 (by omega) (by omega)]
  cases e : inZ 0 2 x
  · exact ⟨-1, σ, μ, rfl, rfl, h⟩
  obtain ⟨k, rfl, hk'⟩ := inZ_n e
  have hk : k < 3 := by omega
  have e34 : sb 0 = 34 := rfl
  have e2k : sb (2 + k) = 34 + 13 * (2 + k) := rfl
  rw [t0, t0]
  by_cases q : (aP a : Int) = 0
  · rw [if_pos q, if_pos q]
    exact ⟨-4, σ, μ, rfl, rfl, h⟩
  have e1 : vp_nar .boolean (1 : Int32) = 1 := by rw [nar_b]; decide
  rw [if_neg q, if_neg q, chk_N (by omega) (by omega), z_tnN (by omega), f6_become (by omega), bd_some, chk_N (by omega) (by omega), nm, f9_keep hk, bd_some, chk_N (by omega) (by omega), nm, e1]
  let σ1 := bec (2 + k) 0 σ
  let μ1 := wr 26 (488 * k) (val μ) μ 488
  have o8 : ∀ lo hi, sb (2 + k) + 13 ≤ lo ∨ hi ≤ sb (2 + k) → (4 < lo ∨ hi ≤ 4) → sm lo hi σ (wI σ1 4 k 1) := fun lo hi q1 q2 => sm_tr (bec_sm q1) (sm_wI q2)
  have o9 : ∀ c n, c ≠ 25 → (c ≠ 26 ∨ n < 488 * k ∨ 488 * k + 488 ≤ n) → (wI μ1 25 k 1).1 c n = μ.1 c n := fun c n q1 q2 => (wI_ne (.inl q1)).trans (wr_n q2)
  have c0 : ∀ c n, c < 13 → (wI σ1 4 k 1).1 (sb 0 + c) n = σ.1 (sb 0 + c) n ∧ (wI σ1 4 k 1).2 (sb 0 + c) n = σ.2 (sb 0 + c) n := fun c n hc => o8 34 47 (by omega) (by decide) (sb 0 + c) (by omega) (by omega) n
  refine ⟨zI (aH a), wI σ1 4 k 1, wI μ1 25 k 1, ?_, ?_, ?_⟩
  · show some ((wI σ1 4 k 1).1 (sb 0 + 8) 5, wI σ1 4 k 1) = _
    rw [(c0 8 5 (by decide)).1, ch.1]
  · show some ((wI μ1 25 k 1).1 0 16, wI μ1 25 k 1) = _
    rw [o9 0 16 (by decide) (by omega), mh.1]
  · refine ⟨St_cg h.1 (fun c q1 q2 n => o8 34 47 (by omega) (by decide) c q1 q2 n) ⟨⟨o9 _ _ (by decide) (by omega), o9 _ _ (by decide) (by omega), o9 _ _ (by decide) (by omega), o9 _ _ (by decide) (by omega)⟩, fun c _ _ n => o9 _ _ (by omega) (by omega)⟩, ?_, RR_cg hR (o8 14 26 (by omega) (by decide)) (fun n => o9 _ _ (by decide) (by omega)) (fun n => o9 _ _ (by decide) (by omega)), RT_cg hT (o8 26 34 (by omega) (by decide)) (fun n => o9 _ _ (by decide) (by omega)) (fun n => o9 _ _ (by decide) (by omega)), ?_, ?_⟩
    · refine ⟨?_, ?_, fun f hf => ?_⟩
      · rw [(o8 0 4 (by omega) (by decide) 0 (by decide) (by decide) _).1, o9 _ _ (by decide) (by omega)]; exact hA.1
      · rw [(o8 0 4 (by omega) (by decide) 0 (by decide) (by decide) _).1, o9 _ _ (by decide) (by omega)]; exact hA.2.1
      · rw [(o8 5 6 (by omega) (by decide) 5 (by decide) (by decide) _).1, o9 _ _ (by decide) (by omega)]; exact hA.2.2 f hf
    · exact ((o8 47 60 (by omega) (by decide) 49 (by decide) (by decide) 0).1).trans hD
    · intro j hj
      by_cases ej : j = k
      · subst ej
        refine .inr ⟨wI_eq, wI_eq, a, ⟨wg, wt, wh⟩, ?_, ?_⟩
        · obtain ⟨b1, b2, b3⟩ := C_bec (S := σ) (i := 2 + j) (j := 0) (by omega) wg wt wh ⟨cg, ct, ch⟩
          have sm1 : sm (sb (2 + j)) (sb (2 + j) + 13) σ1 (wI σ1 4 j 1) := sm_wI (by omega)
          exact ⟨CG_sm sm1 b1, CT_sm sm1 b2, CH_k (fun c n q => sm1 (sb (2 + j) + c) (by omega) (by omega) n) b3⟩
        · refine M_cg (μ := μ) wg wt wh (fun c n hv => ?_) ⟨dec_7.trans (o9 _ _ (by decide) (by omega)), dec_8.trans (o9 _ _ (by decide) (by omega)), fun n => dec_5.trans (o9 _ _ (by decide) (by omega))⟩ ⟨mg, mt, mh⟩
          obtain ⟨p1, p2⟩ := pos_slt hv
          rw [dec_1 hv, wI_ne (.inl (by decide)), wr_e (by omega)]
          unfold val
          rw [if_pos p2, p1]
      · rw [wI_ne (by omega), wI_ne (by omega)]
        have e2j : sb (2 + j) = 34 + 13 * (2 + j) := rfl
        rw [(bec_sm (lo := 4) (hi := 5) (by omega) 4 (by decide) (by decide) j).1, show μ1.1 25 j = μ.1 25 j from wr_n (.inl (by decide))]
        rcases hK j hj with h1 | ⟨h1, h2, h3⟩
        · exact .inl h1
        · refine .inr ⟨h1, h2, ?_⟩
          have h4 := St_cg (i := 2 + j) (σ' := wI σ1 4 k 1) h3 (fun c q1 q2 n => by
            rcases Nat.lt_or_ge j k with q | q
            · exact o8 (sb (2 + j)) (sb (2 + j) + 13) (by omega) (by omega) c q1 q2 n
            · exact o8 (sb (2 + j)) (sb (2 + j) + 13) (by omega) (by omega) c q1 q2 n) ⟨⟨rfl, rfl, rfl, rfl⟩, fun _ _ _ _ => rfl⟩
          obtain ⟨b, hw, hc, hm⟩ := h4
          refine ⟨b, hw, hc, M_cg (μ := dec μ j) hw.1 hw.2.1 hw.2.2 (fun c n hv => ?_) ⟨dec_7.trans ((o9 _ _ (by decide) (by omega)).trans dec_7.symm), dec_8.trans ((o9 _ _ (by decide) (by omega)).trans dec_8.symm), fun n => dec_5.trans ((o9 _ _ (by decide) (by omega)).trans dec_5.symm)⟩ hm⟩
          have p2 := (pos_slt hv).2
          rw [dec_1 hv, dec_1 hv, o9 _ _ (by decide) (by omega)]
theorem s_on : st_on R := by
  intro σ μ a1 h
  obtain ⟨x, hx1, hx2, rfl⟩ := arg a1
  obtain ⟨hS, hA, hR, hT, hD, hK⟩ := id h
  unfold F_X8_on F_X9_on
  rw [f8_isPlace ⟨hx1, hx2⟩, f9_place ⟨hx1, hx2⟩, bd_some, bd_some]
  cases e : inZ 0 2 x
  · exact ⟨-1, σ, μ, rfl, rfl, h⟩
  obtain ⟨k, rfl, hk'⟩ := inZ_n e
  have hk : k < 3 := by omega
  have e34 : sb 0 = 34 := rfl
  rw [t0, t0, chk_N (by omega) (by omega), chk_N (by omega) (by omega), chk_N (by omega) (by omega), z_tnN (by omega)]
  rcases hK k hk with ⟨h1, h2⟩ | ⟨h1, h2, b, ⟨wg, wt, wh⟩, hc, hm⟩
  · rw [h1, h2, if_pos rfl, if_pos rfl, zN1, f8_find (by decide), f9_find (by decide)]
    exact ⟨_, _, _, rfl, rfl, R_find h (f := 1) (by decide)⟩
  rw [h1, h2, if_neg (by decide), if_neg (by decide), f6_become (by omega), f9_on hk, bd_some, bd_some]
  have hc' := C_bec (S := σ) (i := 0) (j := 2 + k) (by omega) wg wt wh hc
  have hm' := M_cg (μ := dec μ k) (μ' := onS k μ 488) wg wt wh (fun c n hv => by
    obtain ⟨p1, p2⟩ := pos_slt hv
    have := onS_i (k := k) (μ := μ) p2 488 (by omega)
    rw [p1] at this
    rw [this, dec_1 hv]) ⟨onS_out (.inl (by decide)) _, onS_out (.inl (by decide)) _, fun n => onS_out (.inr (.inl (by decide))) _⟩ hm
  refine ⟨zI (aH b), bec 0 (2 + k) σ, onS k μ 488, ?_, ?_, R_new (σ' := bec 0 (2 + k) σ) h ⟨b, ⟨wg, wt, wh⟩, hc', hm'⟩ (bec_sm (by decide)) (bec_sm (by decide)) ⟨fun n hn => onS_out (by omega) _, fun c hc n => onS_out (by omega) _⟩⟩
  · show some ((bec 0 (2 + k) σ).1 (sb 0 + 8) 5, bec 0 (2 + k) σ) = _
    rw [hc'.2.2.1]
  · rw [hm'.2.2.1]
