/-! ===== rows and texts ===== -/
theorem if_0le {α : Type} {a : Int} {A B : α} (h1 : -2147483648 ≤ a) (h2 : a < 2147483648) : (if 0 ≤ zI a then A else B) = if 0 ≤ a then A else B := by
  rw [show (0 : Int32) = zI 0 from rfl, if_leZ (by decide) (by decide) h1 h2]
theorem if_le0 {α : Type} {a : Int} {A B : α} (h1 : -2147483648 ≤ a) (h2 : a < 2147483648) : (if zI a ≤ 0 then A else B) = if a ≤ 0 then A else B := by
  rw [show (0 : Int32) = zI 0 from rfl, if_leZ h1 h2 (by decide) (by decide)]
theorem if_0lt {α : Type} {a : Int} {A B : α} (h1 : -2147483648 ≤ a) (h2 : a < 2147483648) : (if 0 < zI a then A else B) = if 0 < a then A else B := by
  rw [show (0 : Int32) = zI 0 from rfl, if_ltZ (by decide) (by decide) h1 h2]
theorem if_eq0 {α : Type} {a : Int} {A B : α} (h1 : -2147483648 ≤ a) (h2 : a < 2147483648) : (if zI a = 0 then A else B) = if a = 0 then A else B := by
  rw [show (0 : Int32) = zI 0 from rfl, if_eqZ h1 h2 (by decide) (by decide)]
def wr (k o : Nat) (g : Nat → Int32) (S : Sg) : Nat → Sg
  | 0 => S
  | n + 1 => wI (wr k o g S n) k (o + n) (g n)
theorem wr_1 {k o : Nat} {g : Nat → Int32} {S : Sg} {c j : Nat} : ∀ n, (wr k o g S n).1 c j = if c = k ∧ o ≤ j ∧ j < o + n then g (j - o) else S.1 c j
  | 0 => by rw [wr, if_neg (by omega)]
  | n + 1 => by
    rw [wr]
    by_cases h : c = k ∧ j = o + n
    · rw [h.1, h.2, wI_eq, if_pos (by omega), show o + n - o = n by omega]
    · rw [wI_ne (by omega), wr_1 n]
      by_cases h2 : c = k ∧ o ≤ j ∧ j < o + n
      · rw [if_pos h2, if_pos (by omega)]
      · rw [if_neg h2, if_neg (by omega)]
theorem wr_n {k o n : Nat} {g : Nat → Int32} {S : Sg} {c j : Nat} (h : c ≠ k ∨ j < o ∨ o + n ≤ j) : (wr k o g S n).1 c j = S.1 c j := by rw [wr_1, if_neg (by omega)]
theorem wr_e {k o n j : Nat} {g : Nat → Int32} {S : Sg} (h : j < n) : (wr k o g S n).1 k (o + j) = g j := by rw [wr_1, if_pos (by omega), show o + j - o = j by omega]
theorem wr_e0 {k n j : Nat} {g : Nat → Int32} {S : Sg} (h : j < n) : (wr k 0 g S n).1 k j = g j := by rw [wr_1, if_pos (by omega), Nat.sub_zero]
theorem wr_2 {k o : Nat} {g : Nat → Int32} {S : Sg} : ∀ n, (wr k o g S n).2 = S.2
  | 0 => rfl
  | n + 1 => by rw [wr, wI_2, wr_2 n]
theorem wr_sm {k o : Nat} {g : Nat → Int32} {S : Sg} {lo hi : Nat} (h : k < lo ∨ hi ≤ k) (n : Nat) : sm lo hi S (wr k o g S n) := fun c h1 h2 j => ⟨wr_n (by omega), by rw [wr_2]⟩
theorem wI_comm {S : Sg} {k k' j j' : Nat} {v v' : Int32} (h : k ≠ k') : wI (wI S k j v) k' j' v' = wI (wI S k' j' v') k j v := by
  refine Prod.ext (funext fun c => funext fun n => ?_) rfl
  rw [wI_1, wI_1, wI_1, wI_1]
  by_cases h1 : c = k
  · have h2 : c ≠ k' := by omega
    simp only [h1, if_true]
    rw [if_neg h, if_neg h]
  · simp only [h1, if_false]
theorem R_rows {σ σ' μ μ' : Sg} (h : R σ μ) (e1 : sm 0 14 σ σ') (e2 : sm 26 99 σ σ') (e3 : ∀ c n, c ≠ 1 → c ≠ 2 → c ≠ 15 → μ'.1 c n = μ.1 c n) (r : RR σ' μ') : R σ' μ' := by
  obtain ⟨h1, h2, h3, h4, h5, h6⟩ := h
  have q : ∀ c n, c ≠ 1 → c ≠ 2 → c ≠ 15 → μ'.1 c n = μ.1 c n := e3
  exact ⟨St_cg h1 (sm_in e2 (by decide) (by decide)) ⟨⟨q _ _ (by decide) (by decide) (by decide), q _ _ (by decide) (by decide) (by decide), q _ _ (by decide) (by decide) (by decide), q _ _ (by decide) (by decide) (by decide)⟩, fun c _ _ n => q _ _ (by omega) (by omega) (by omega)⟩, RA_cg h2 (sm_in e1 (by decide) (by decide)) ⟨q _ _ (by decide) (by decide) (by decide), q _ _ (by decide) (by decide) (by decide), fun n => q _ _ (by decide) (by decide) (by decide)⟩, r, RT_cg h4 (sm_in e2 (by decide) (by decide)) (fun n => q _ _ (by decide) (by decide) (by decide)) (fun n => q _ _ (by decide) (by decide) (by decide)), ((e2 49 (by decide) (by decide) 0).1).trans h5, RK_cg h6 (sm_in e2 (by decide) (by decide)) (fun k => (e1 4 (by decide) (by decide) k).1) (fun n => q _ _ (by decide) (by decide) (by decide)) ⟨q _ _ (by decide) (by decide) (by decide), q _ _ (by decide) (by decide) (by decide), fun n => q _ _ (by decide) (by decide) (by decide), fun n _ => q _ _ (by decide) (by decide) (by decide)⟩⟩
theorem R_texts {σ σ' μ μ' : Sg} (h : R σ μ) (e1 : sm 0 26 σ σ') (e2 : sm 34 99 σ σ') (e3 : ∀ c n, c ≠ 3 → c ≠ 4 → μ'.1 c n = μ.1 c n) (r : RT σ' μ') : R σ' μ' := by
  obtain ⟨h1, h2, h3, h4, h5, h6⟩ := h
  have q : ∀ c n, c ≠ 3 → c ≠ 4 → μ'.1 c n = μ.1 c n := e3
  exact ⟨St_cg h1 (sm_in e2 (by decide) (by decide)) ⟨⟨q _ _ (by decide) (by decide), q _ _ (by decide) (by decide), q _ _ (by decide) (by decide), q _ _ (by decide) (by decide)⟩, fun c _ _ n => q _ _ (by omega) (by omega)⟩, RA_cg h2 (sm_in e1 (by decide) (by decide)) ⟨q _ _ (by decide) (by decide), q _ _ (by decide) (by decide), fun n => q _ _ (by decide) (by decide)⟩, RR_cg h3 (sm_in e1 (by decide) (by decide)) (fun n => q _ _ (by decide) (by decide)) (fun n => q _ _ (by decide) (by decide)), r, ((e2 49 (by decide) (by decide) 0).1).trans h5, RK_cg h6 (sm_in e2 (by decide) (by decide)) (fun k => (e1 4 (by decide) (by decide) k).1) (fun n => q _ _ (by decide) (by decide)) ⟨q _ _ (by decide) (by decide), q _ _ (by decide) (by decide), fun n => q _ _ (by decide) (by decide), fun n _ => q _ _ (by decide) (by decide)⟩⟩
/-! a row laid anew -/
def rw8 (u : Nat) (n : Nat) (S : Sg) : Sg := wr (14 + 2 * u + 1) 0 (fun _ => 0) (wI S (14 + 2 * u) 1 (zI n)) 40
theorem f4_begin {S : Sg} {u n : Nat} : F_X4_begin u S (zI n) = some (rw8 u n S) := by
  have q := loopE (fun m x => T_X4_begin_7 u m (zI x) (wr (14 + 2 * u + 1) 0 (fun _ => 0) (wI S (14 + 2 * u) 1 (zI n)) x)) 40 (some (rw8 u n S)) (by omega) (fun m => by
    simp only [T_X4_begin_7]
    rw [show (40 : Int32) = zI ((40 : Nat) : Int) from rfl, if_le_t (by omega) (by omega)]; rfl) (fun m x hx => by
    simp only [T_X4_begin_7]
    rw [show (40 : Int32) = zI ((40 : Nat) : Int) from rfl, if_le_f hx (by omega), chk_N (by omega) (by omega), z_tnN (by omega), nm, zS, wr, Nat.zero_add])
  exact bd_t q
def rw9 (u : Nat) (n : Nat) (S : Sg) : Sg := wr 2 (40 * u) (fun _ => 0) (wI S 1 u (zI n)) 40
theorem f9_rowL {S : Sg} {u n : Nat} (hu : u < 6) : T_X9_row_34 (zI u) (zI n) FU 0 (wI S 1 u (zI n)) = some (rw9 u n S) := by
  refine loopE (fun m x => T_X9_row_34 (zI u) (zI n) m (zI x) (wr 2 (40 * u) (fun _ => 0) (wI S 1 u (zI n)) x)) 40 (some (rw9 u n S)) (by omega) (fun m => ?_) (fun m x hx => ?_)
  · simp only [T_X9_row_34]
    rw [show (40 : Int32) = zI ((40 : Nat) : Int) from rfl, if_le_t (by omega) (by omega)]; rfl
  · simp only [T_X9_row_34]
    rw [zMA (m := 40) (c := 40) rfl, show (40 : Int32) = zI ((40 : Nat) : Int) from rfl, if_le_f hx (by omega), chk_N (by omega) (by omega), z_tnN (by omega), nm, zS, wr]
theorem f9_row {S : Sg} {u n : Nat} (hu : u < 6) (hn : n ≤ 40) : F_X9_row S (zI u) (zI n) = some (zI n, rw9 u n S) := by
  rw [F_X9_row, f9_isRow ⟨by omega, by omega⟩, bd_some, inZ_y (by omega), t0, show (40 : Int32) = zI ((40 : Nat) : Int) from rfl, if_le_t (by omega) (by omega), if_0le (by omega) (by omega), if_pos (by omega), chk_N (by omega) (by omega), z_tnN (by omega), nm, f9_rowL hu, bd_some]
theorem rw8_sm {u n lo hi : Nat} {S : Sg} (h : 14 + 2 * u + 1 < lo ∨ hi ≤ 14 + 2 * u) : sm lo hi S (rw8 u n S) := sm_tr (sm_wI (by omega)) (wr_sm (by omega) _)
theorem rw9_o {u n c j : Nat} {S : Sg} (h : c ≠ 1) (h2 : c ≠ 2) : (rw9 u n S).1 c j = S.1 c j := by rw [rw9, wr_n (.inl h2), wI_ne (.inl h)]
theorem RR_row {σ μ : Sg} (h : RR σ μ) {u n : Nat} (hu : u < 6) (hn : n ≤ 40) : RR (rw8 u n σ) (rw9 u n μ) := by
  intro r hr
  by_cases e : r = u
  · subst e
    refine ⟨⟨n, by omega, by omega, ?_, ?_⟩, fun j hj => ?_⟩
    · rw [rw8, wr_n (by omega), wI_eq]
    · rw [rw9, wr_n (by omega), wI_eq]
    · rw [rw8, wr_e0 hj, rw9, wr_e hj]
  · obtain ⟨⟨z, z1, z2, z3, z4⟩, h2⟩ := h r hr
    refine ⟨⟨z, z1, z2, ?_, ?_⟩, fun j hj => ?_⟩
    · rw [rw8, wr_n (by omega), wI_ne (by omega)]; exact z3
    · rw [rw9, wr_n (by omega), wI_ne (by omega)]; exact z4
    · rw [rw8, wr_n (by omega), wI_ne (by omega), h2 j hj, rw9, wr_n (by omega), wI_ne (by omega)]
theorem R_row {σ μ : Sg} (h : R σ μ) {u n : Nat} (hu : u < 6) (hn : n ≤ 40) : R (rw8 u n σ) (rw9 u n μ) := R_rows h (rw8_sm (by omega)) (rw8_sm (by omega)) (fun c j h1 h2 _ => rw9_o h1 h2) (RR_row h.2.2.1 hu hn)
theorem zN5 : (5 : Int32) = zI ((5 : Nat) : Int) := rfl
theorem zN1 : (1 : Int32) = zI ((1 : Nat) : Int) := rfl
theorem zN4 : (4 : Int32) = zI ((4 : Nat) : Int) := rfl
theorem s_row : st_row R := by
  intro σ μ a1 a2 h
  obtain ⟨x, hx1, hx2, rfl⟩ := arg a1
  obtain ⟨y, hy1, hy2, rfl⟩ := arg a2
  unfold F_X8_row F_X9_row
  have e0 : ∀ {α : Type} {A B : α}, (if 0 ≤ zI y then A else B) = if 0 ≤ y then A else B := by
    intro α A B
    rw [z_0, if_leZ (by decide) (by decide) hy1 hy2]
  rw [f8_isRow ⟨hx1, hx2⟩, f9_isRow ⟨hx1, hx2⟩, bd_some, bd_some, show (40 : Int32) = zI 40 from rfl, if_leZ hy1 hy2 (by decide) (by decide), if_leZ hy1 hy2 (by decide) (by decide), e0, e0]
  cases e : inZ 0 5 x
  · exact ⟨-1, σ, μ, rfl, rfl, h⟩
  · rw [t0, t0]
    by_cases q : y ≤ 40
    · rw [if_pos q, if_pos q]
      by_cases q2 : 0 ≤ y
      · obtain ⟨u, rfl, hu⟩ := inZ_n e
        obtain ⟨n, rfl⟩ : ∃ n : Nat, y = n := ⟨y.toNat, by omega⟩
        rw [if_pos q2, if_pos q2, chk_N (by omega) (by omega), chk_N (by omega) (by omega), z_tnN (by omega), f4_begin, nm, f9_rowL (by omega), bd_some, bd_some]
        exact ⟨_, _, _, rfl, rfl, R_row h (by omega) (by omega)⟩
      · rw [if_neg q2, if_neg q2, zN5, f8_find (by decide), f9_find (by decide)]
        exact ⟨_, _, _, rfl, rfl, R_find h (f := 5) (by decide)⟩
    · rw [if_neg q, if_neg q]
      exact ⟨-1, σ, μ, rfl, rfl, h⟩
