def B1 (S : Sg) : Prop := S.1 47 10 = 0 ∧ S.1 55 5 = 0 ∧ S.2 55 4 = 0 ∧ S.1 49 0 = 0
def fS (σ S : Sg) : Prop := sm 0 47 σ S ∧ sm 60 105 σ S ∧ B1 S
theorem fS_wI {σ S : Sg} {k j : Nat} {v : Int32} (h : fS σ S) (hk : 47 ≤ k ∧ k < 60) (h2 : (k ≠ 47 ∨ j ≠ 10) ∧ k ≠ 55 ∧ (k ≠ 49 ∨ j ≠ 0)) : fS σ (wI S k j v) := by
  obtain ⟨h1, h3, b1, b2, b3, b4⟩ := h
  exact ⟨sm_tr h1 (sm_wI (by omega)), sm_tr h3 (sm_wI (by omega)), (wI_ne (by omega)).trans b1, (wI_ne (by omega)).trans b2, b3, (wI_ne (by omega)).trans b4⟩
def txI (u L : Nat) (b : Nat → Int) (S : Sg) : Prop := S.1 (26 + 2 * u) 1 = zI L ∧ ∀ j, j < 80 → S.1 (26 + 2 * u + 1) j = zI (b j)
def byB (b : Nat → Int) : Prop := ∀ j, -128 ≤ b j ∧ b j ≤ 127
def sg (L : Nat) (b : Nat → Int) (p : Nat) : Int := if p < L then b p else 1000
theorem f7_sign {u L : Nat} {b : Nat → Int} {S : Sg} (h : txI u L b S) (hL : L ≤ 80) {p : Nat} (hp : p < 1000) : F_X7_sign u S (zI p) = some (zI (sg L b p)) := by
  unfold sg
  rw [F_X7_sign, f7_has h.1 (by omega) (by omega) ⟨by omega, by omega⟩, bd_some]
  by_cases q : p < L
  · rw [inZ_y (by omega), t0, if_pos q, chk_N (by omega) (by omega), z_tnN (by omega), h.2 p (by omega)]
  · rw [inZ_no (.inr (by omega)), f0, if_neg q]; rfl
def bl (L : Nat) (b : Nat → Int) : Nat → Nat → Nat
  | 0, p => p
  | n + 1, p => if p < L ∧ b p = 32 then bl L b n (p + 1) else p
theorem bl_ge {L : Nat} {b : Nat → Int} : ∀ n p, p ≤ bl L b n p
  | 0, _ => Nat.le_refl _
  | n + 1, p => by
    rw [bl]
    split
    · have := bl_ge (L := L) (b := b) n (p + 1); omega
    · exact Nat.le_refl _
theorem bl_le {L : Nat} {b : Nat → Int} : ∀ n p, bl L b n p ≤ max L p
  | 0, _ => Nat.le_max_right _ _
  | n + 1, p => by
    rw [bl]
    split
    · have := bl_le (L := L) (b := b) n (p + 1); omega
    · exact Nat.le_max_right _ _
theorem bl_end {L : Nat} {b : Nat → Int} : ∀ n p, L ≤ n + p → ¬ (bl L b n p < L ∧ b (bl L b n p) = 32)
  | 0, p, h => by rw [bl]; omega
  | n + 1, p, h => by
    rw [bl]
    by_cases q : p < L ∧ b p = 32
    · rw [if_pos q]; exact bl_end n (p + 1) (by omega)
    · rw [if_neg q]; exact q
theorem f7_bl {u L : Nat} {b : Nat → Int} {S : Sg} (hb : byB b) (h : txI u L b S) (hL : L ≤ 80) : ∀ n p, p + n < 1000 → L ≤ n + p → ∀ f, n < f → T_X7_pastBlanks_2 u S f (zI p) = some (zI (bl L b n p)) := by
  intro n
  induction n with
  | zero =>
    intro p hp hn f hf
    obtain ⟨f, rfl⟩ : ∃ g, f = g + 1 := ⟨f - 1, by omega⟩
    simp only [T_X7_pastBlanks_2]
    rw [h.1, if_le_t (by omega) (by omega)]; rfl
  | succ n ih =>
    intro p hp hn f hf
    obtain ⟨f, rfl⟩ : ∃ g, f = g + 1 := ⟨f - 1, by omega⟩
    simp only [T_X7_pastBlanks_2]
    rw [h.1, bl]
    by_cases q : p < L
    · have := hb p
      rw [if_le_f q (by omega), f7_sign h hL (by omega), bd_some, sg, if_pos q, show (32 : Int32) = zI 32 from rfl, if_eqZ (by omega) (by omega) (by decide) (by decide)]
      by_cases q2 : b p = 32
      · rw [if_pos q2, if_pos ⟨q, q2⟩, zSu]
        exact ih (p + 1) (by omega) (by omega) f (by omega)
      · rw [if_neg q2, if_neg (fun w => q2 w.2)]
    · rw [if_le_t (by omega) (by omega), if_neg (fun w => q w.1)]
theorem f7_blanks {u L : Nat} {b : Nat → Int} {S : Sg} (hb : byB b) (h : txI u L b S) (hL : L ≤ 80) {p : Nat} (hp : p < 100) : F_X7_pastBlanks u S (zI p) = some (zI (bl L b 80 p)) := by
  rw [F_X7_pastBlanks]
  exact bd_t (f7_bl hb h hL 80 p (by omega) (by omega) FU (by unfold FU; omega))
def knd (z : Int) : Nat := if z = 111 then 0 else if z = 108 then 1 else if z = 119 then 2 else if z = 100 then 3 else if z = 115 then 4 else if z = 105 then 5 else 6
theorem byL_S {S : Sg} {p : Int32} : ∀ n x, T_X2_byLetter_2 S p n x = T_X2_byLetter_2 S00 p n x
  | 0, _ => rfl
  | n + 1, x => by simp only [T_X2_byLetter_2, byL_S n]
theorem f2_byL {S : Sg} {z : Int} (h1 : -128 ≤ z) (h2 : z ≤ 127) : F_X2_byLetter S (zI z) = some (if knd z = 6 then -9 else zI (knd z)) := by
  have q : ∀ n, n < 256 → F_X2_byLetter S00 (zI ((n : Nat) - 128 : Int)) = some (if knd ((n : Nat) - 128 : Int) = 6 then -9 else zI (knd ((n : Nat) - 128 : Int))) := by decide +kernel
  have e : F_X2_byLetter S (zI z) = F_X2_byLetter S00 (zI z) := by
    rw [F_X2_byLetter, F_X2_byLetter, byL_S]
  have := q (z + 128).toNat (by omega)
  rw [e, show z = ((z + 128).toNat : Int) - 128 by omega]
  exact this
theorem knd_6 {z : Int} : knd z ≤ 6 := by unfold knd; repeat' split <;> try omega
theorem fS_tx {σ S : Sg} {u L : Nat} {b : Nat → Int} (hu : u < 4) (h : fS σ S) (t : txI u L b σ) : txI u L b S := ⟨((h.1 _ (by omega) (by omega) _).1).trans t.1, fun j hj => ((h.1 _ (by omega) (by omega) _).1).trans (t.2 j hj)⟩
theorem f7_fig {u L : Nat} {b : Nat → Int} {S : Sg} (hb : byB b) (h : txI u L b S) (hL : L ≤ 80) {p : Nat} (hp : p < 1000) : F_X7_isFigure u S (zI p) = some (bI (inZ 48 57 (sg L b p))) := by
  have hs : -128 ≤ sg L b p ∧ sg L b p ≤ 1000 := by
    unfold sg
    have := hb p
    split <;> omega
  rw [F_X7_isFigure, f7_sign h hL hp, bd_some, bd_some, show (48 : Int32) = zI 48 from rfl, show (57 : Int32) = zI 57 from rfl, if_ltZ (by omega) (by omega) (by decide) (by decide), if_ltZ (by decide) (by decide) (by omega) (by omega), chk2]
  cases inZ 48 57 (sg L b p) <;> rfl
def Dn (d : Nat → Nat) : Nat → Nat
  | 0 => 0
  | n + 1 => Dn d n + d n
def newA (P W : Nat) (d κ r : Nat → Nat) : AS := (fun c n => if c = 0 then (if n = 0 then P else if n = 1 then W else 0) else if c = 1 then d n else if c = 2 then κ n else if c = 3 then r n else 0, fun _ _ => 0)
theorem newA_D {P W : Nat} {d κ r : Nat → Nat} : ∀ n, aD (newA P W d κ r) n = Dn d n
  | 0 => rfl
  | n + 1 => by rw [aD, newA_D n, Dn]; rfl
