/-! ===== every method: both sides answer alike ===== -/
theorem all_R : Stp_all R := ⟨s_row, s_lay, s_at, s_tear, s_copy, s_mean, s_text, s_put, s_fault, s_street, s_person, s_mark, s_wall, s_move, s_hears, s_heard, s_noise, s_hush, s_talk, s_off, s_about, s_safe, s_cover, s_beside, s_turns, s_most, s_safes, s_rooms, s_swap, s_paste, s_tearOff, s_rent, s_comes, s_tell, s_undo, s_know, s_knowsThat, s_spread, s_leak, s_leaks, s_keep, s_on, s_nights, s_asked, s_upper, s_lower, s_count, s_finding, s_findings, s_digest⟩
/-! ===== at the start ===== -/
def a0 : AS := (fun _ _ => 0, fun _ _ => 0)
theorem a0_D : ∀ n, aD a0 n = 0
  | 0 => rfl
  | n + 1 => by rw [aD, a0_D n]; rfl
theorem S0C_0 {k j : Nat} (h : k < 14 ∨ 34 ≤ k ∨ k % 2 = 1 ∨ j ≠ 1) : S0C.1 k j = 0 := by
  show (if 14 ≤ k ∧ k < 34 ∧ k % 2 = 0 then (if j = 1 then (-1 : Int32) else 0) else 0) = 0
  by_cases q : 14 ≤ k ∧ k < 34 ∧ k % 2 = 0
  · rw [if_pos q, if_neg (by omega)]
  · rw [if_neg q]
theorem S0C_1 {k : Nat} (h : 14 ≤ k ∧ k < 34 ∧ k % 2 = 0) : S0C.1 k 1 = -1 := by
  show (if 14 ≤ k ∧ k < 34 ∧ k % 2 = 0 then (if (1 : Nat) = 1 then (-1 : Int32) else 0) else 0) = -1
  rw [if_pos h, if_pos rfl]
theorem S0M_0 {k j : Nat} (h : k ≠ 1) (h3 : k ≠ 3) : S0M.1 k j = 0 := by
  show (if k = 1 then rs0 j else if k = 3 then ts0 j else 0) = 0
  rw [if_neg h, if_neg h3]
theorem S0M_1 : ∀ j, j < 6 → S0M.1 1 j = -1 := by
  have : ∀ j, j < 6 → rs0 j = -1 := by decide
  intro j hj
  show (if (1 : Nat) = 1 then rs0 j else if (1 : Nat) = 3 then ts0 j else 0) = -1
  rw [if_pos rfl]; exact this j hj
theorem S0M_3 : ∀ j, j < 4 → S0M.1 3 j = -1 := by
  have : ∀ j, j < 4 → ts0 j = -1 := by decide
  intro j hj
  show (if (3 : Nat) = 1 then rs0 j else if (3 : Nat) = 3 then ts0 j else 0) = -1
  rw [if_neg (by decide), if_pos rfl]; exact this j hj
theorem R_0 : R S0C S0M := by
  have e34 : sb 0 = 34 := rfl
  have no : ∀ {P : Prop} {j : Nat}, j < 0 → P := fun h => absurd h (Nat.not_lt_zero _)
  have wg : WG a0 := ⟨Nat.zero_le _, Nat.zero_le _, fun h => absurd h (Nat.lt_irrefl _), fun _ => Nat.zero_le _, fun _ => Nat.zero_lt_succ 5, fun _ => Nat.le_refl _⟩
  have wt : WT a0 := ⟨Nat.zero_le _, fun k hk => no hk⟩
  have wh : WH a0 := ⟨Nat.zero_le _, fun k hk => no hk, fun t => sub_0 _, fun _ => Nat.zero_le _⟩
  refine ⟨⟨a0, ⟨wg, wt, wh⟩, ⟨⟨S0C_0 (by omega), S0C_0 (by omega), fun j hj => no hj, fun r hr => ?_, fun j hj => no hj, fun j hj => no hj⟩, ⟨S0C_0 (by omega), fun j hj => no hj, fun j hj => no hj, fun j hj => no hj⟩, ⟨S0C_0 (by omega), fun j hj => no hj, fun j hj => no hj, fun j hj => no hj, fun j hj => no hj, pk_0⟩⟩, ⟨⟨S0M_0 (by decide) (by decide), S0M_0 (by decide) (by decide), fun j hj => no hj, fun j hj => no hj, fun j hj => no hj⟩, ⟨S0M_0 (by decide) (by decide), fun j hj => no hj, fun j hj => no hj, fun j hj => no hj⟩, ⟨S0M_0 (by decide) (by decide), fun t ht => S0M_0 (by decide) (by decide), fun j hj => no hj, fun j hj => no hj, fun j hj => no hj, fun j t hj => no hj⟩⟩⟩, ⟨?_, ?_, fun f hf => ?_⟩, fun r hr => ⟨⟨-1, by decide, by decide, S0C_1 (by omega), (S0M_1 r hr).trans (show (-1 : Int32) = zI (-1) from rfl)⟩, fun j hj => ?_⟩, fun t ht => ⟨⟨-1, by decide, by decide, S0C_1 (by omega), (S0M_3 t ht).trans (show (-1 : Int32) = zI (-1) from rfl)⟩, fun j hj => ⟨0, by decide, by decide, S0C_0 (by omega), S0M_0 (by decide) (by decide)⟩⟩, S0C_0 (by have e47 : sb 1 = 47 := rfl; omega), fun k hk => .inl ⟨S0C_0 (by omega), S0M_0 (by decide) (by decide)⟩⟩
  · rw [a0_D]; exact S0C_0 (by omega)
  · rw [S0C_0 (by omega), S0M_0 (by decide) (by decide)]
  · rw [S0C_0 (by omega), S0M_0 (by decide) (by decide)]
  · rw [S0C_0 (by omega), S0M_0 (by decide) (by decide)]
  · rw [S0C_0 (by omega), S0M_0 (by decide) (by decide)]
