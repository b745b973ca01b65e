/-! ===== people read ===== -/
def ppl (w : Nat) (κ r : Nat → Nat) (k : Nat) (S T : Sg) : Prop := S.1 47 9 = zI k ∧ T.1 0 26 = zI k ∧ k ≤ 7 ∧ (∀ x, κ x < 6 ∧ r x ≤ w) ∧ ∀ x, x < k → (S.1 50 x = zI (κ x) ∧ S.1 51 x = zI (r x)) ∧ (T.1 17 x = zI (κ x) ∧ T.1 18 x = zI (r x))
/-- what people do not change -/
def stl (S S' T T' : Sg) : Prop := S'.1 47 8 = S.1 47 8 ∧ (∀ n, S'.1 48 n = S.1 48 n) ∧ (∀ n, S'.1 49 n = S.1 49 n) ∧ T'.1 0 25 = T.1 0 25 ∧ ∀ n, T'.1 16 n = T.1 16 n
theorem stl_rfl (S T : Sg) : stl S S T T := ⟨rfl, fun _ => rfl, fun _ => rfl, rfl, fun _ => rfl⟩
theorem stl_tr {S S1 S2 T T1 T2 : Sg} (h : stl S S1 T T1) (h2 : stl S1 S2 T1 T2) : stl S S2 T T2 := ⟨h2.1.trans h.1, fun n => (h2.2.1 n).trans (h.2.1 n), fun n => (h2.2.2.1 n).trans (h.2.2.1 n), h2.2.2.2.1.trans h.2.2.2.1, fun n => (h2.2.2.2.2 n).trans (h.2.2.2.2 n)⟩
def pst (u : Nat) (q : (Int32 × Sg) ⊕ (Int32 × Sg)) : Option (Int32 × Sg) := match q with | .inl (x3, S4) => if (S4.1 (26 + 2 * u) 1) ≤ x3 then (some ((-9 : Int32), S4)) else (some (x3, S4)) | .inr r => some r
def qst (q : (Sg) ⊕ (Int32 × Sg)) : Option (Int32 × Sg) := match q with | .inl S7 => some ((1 : Int32), S7) | .inr r => some r
def ct9 (p1 : Int32) (n : Nat) (S13 : Sg) (x12 : Int32) : Option ((Sg) ⊕ (Int32 × Sg)) := bd (F_X9_kindOf S13 x12) (fun x15 => if x15 < 0 then (some (.inr ((0 : Int32), S13))) else (if (S13.1 0 26) = (7 : Int32) then (some (.inr ((0 : Int32), S13))) else (nm (wI S13 0 21 ((S13.1 0 21) + (1 : Int32))) (fun S16 => bd (F_X9_byteAt S16 p1) (fun x18 => bd (F_X9_in S16 (Int32.toInt64 x18) (48 : Int64) (Int32.toInt64 ((48 : Int32) + (S16.1 0 25)))) (fun x20 => if x20 = 0 then (some (.inr ((0 : Int32), S16))) else (chk (inB (S16.1 0 26) 7) (nm (wI S16 17 (S16.1 0 26).toNatClampNeg x15) (fun S22 => bd (F_X9_byteAt S22 p1) (fun x24 => chk (inB (S22.1 0 26) 7) (nm (wI S22 18 (S22.1 0 26).toNatClampNeg (x24 - (48 : Int32))) (fun S26 => nm (wI S26 0 26 ((S26.1 0 26) + (1 : Int32))) (fun S27 => nm (wI S27 0 21 ((S27.1 0 21) + (1 : Int32))) (fun S28 => T_X9_readStreet_25 p1 n S28))))))))))))))
theorem rs_eq {p1 : Int32} {n : Nat} {S : Sg} : T_X9_readStreet_25 p1 (n + 1) S = bd (F_X9_nextByte S p1) (fun q => if q.1 = (-9 : Int32) then chk (inB p1 4) (if (q.2.1 3 p1.toNatClampNeg) ≤ (q.2.1 0 21) then (some (.inl q.2)) else (bd (F_X9_nextByte q.2 p1) (fun r => ct9 p1 n r.2 r.1))) else (bd (F_X9_nextByte q.2 p1) (fun r => ct9 p1 n r.2 r.1))) := rfl
/-- a fault, or all read -/
def rdO (L : Nat) (w : Nat) (σ μ S T : Sg) (A B : Option (Int32 × Sg)) : Prop :=
  (∃ q S' T', A = some (zI ((q : Nat) : Int), S') ∧ B = some (0, T') ∧ T'.1 0 21 = zI ((q : Nat) : Int) ∧ q ≤ 100 ∧ fS σ S' ∧ fM μ T') ∨
  (∃ S' T' κ r k, A = some (-9, S') ∧ B = some (1, T') ∧ fS σ S' ∧ fM μ T' ∧ ppl w κ r k S' T' ∧ stl S S' T T')
theorem rd_people {u L : Nat} {b : Nat → Int} (hb : byB b) (hL : L ≤ 80) (hu : u < 4) {σ μ : Sg} (tI : txI u L b σ) (tM : txM u L b μ) {w : Nat} (hw6 : w ≤ 6) : ∀ (e k : Nat), k + e = 7 → ∀ (p : Nat), p ≤ 90 → ∀ f g, e < f → e < g → ∀ (S T : Sg) (κ r : Nat → Nat), fS σ S → fM μ T → ppl w κ r k S T → S.1 47 8 = zI w → T.1 0 25 = zI w → T.1 0 21 = zI p →
    rdO L w σ μ S T (bd (T_X6_readPeople_6 1 u f (zI (bl L b 80 p)) S) (pst u)) (bd (T_X9_readStreet_25 (zI u) g T) qst) := by
  intro e
  induction e using Nat.strongRecOn with
  | ind e ih =>
    intro k hk p hp f g hf hg S T κ r hS hT hP h8 h25 h21
    obtain ⟨f, rfl⟩ : ∃ x, f = x + 1 := ⟨f - 1, by omega⟩
    obtain ⟨g, rfl⟩ : ∃ x, g = x + 1 := ⟨g - 1, by omega⟩
    have e47 : sb 1 = 47 := rfl
    have hle := bl_le (L := L) (b := b) 80 p
    have hend := bl_end (L := L) (b := b) 80 p (by omega)
    obtain ⟨T1, n1, n2, n3⟩ := f9_next1 hb hL hu (p := p) (by omega) (fM_tx hT tM) h21
    have hT1 := fM_e hT n3
    have tS := fS_tx hu hS tI
    have tT1 := fM_tx hT1 tM
    have hst : stl S S T T1 := ⟨rfl, fun _ => rfl, fun _ => rfl, n3 _ _ (.inr (by decide)), fun n => n3 _ _ (.inl (by decide))⟩
    obtain ⟨p9, p26, pk7, pb, pj⟩ := hP
    have hP1 : ppl w κ r k S T1 := ⟨p9, (n3 _ _ (.inr (by decide))).trans p26, pk7, pb, fun x hx => ⟨(pj x hx).1, (n3 _ _ (.inl (by decide))).trans (pj x hx).2.1, (n3 _ _ (.inl (by decide))).trans (pj x hx).2.2⟩⟩
    have p9' : S.1 (sb 1) 9 = zI k := p9
    have h8' : S.1 (sb 1) 8 = zI w := h8
    generalize hPe : bl L b 80 p = P at hle hend n1 n2 ⊢
    simp only [T_X6_readPeople_6]
    rw [rs_eq, n1, bd_some, tS.1]
    by_cases q : P < L
    case neg =>
      have ey : by9 L b P = -9 := if_neg q
      rw [ey, if_le_t (by omega) (by omega), if_pos (c := zI (-9) = (-9 : Int32)) rfl, chk_N (by omega) (by omega), z_tnN (by omega), tT1.1, n2, if_le_t (by omega) (by omega), bd_some, bd_some]
      refine .inr ⟨S, T1, κ, r, k, ?_, rfl, hS, hT1, hP1, hst⟩
      show (if S.1 (26 + 2 * u) 1 ≤ zI (P : Int) then _ else _) = _
      rw [tS.1, if_le_t (by omega) (by omega)]
    have hz := hb P
    have ey : by9 L b P = b P := if_pos q
    have es : sg L b P = b P := if_pos q
    have m26 : T1.1 0 26 = zI k := hP1.2.1
    have cont : (if zI (by9 L b P) = (-9 : Int32) then chk (inB (zI u) 4) (if (T1.1 3 (zI u).toNatClampNeg) ≤ (T1.1 0 21) then (some (.inl T1)) else (bd (F_X9_nextByte T1 (zI u)) (fun r => ct9 (zI u) g r.2 r.1))) else (bd (F_X9_nextByte T1 (zI u)) (fun r => ct9 (zI u) g r.2 r.1))) = ct9 (zI u) g T1 (zI (b P)) := by
      rw [f9_next2 hb hL hu (by omega) hend tT1 n2, chk_N (by omega) (by omega), z_tnN (by omega), tT1.1, n2, if_le_f q (by omega), bd_some, ite_self, ey]
    rw [cont, if_le_f q (by omega), p9', show (7 : Int32) = zI ((7 : Nat) : Int) from rfl, f7_sign tS hL (by omega), bd_some, es, f2_byL hz.1 hz.2, bd_some, ct9, f9_kind hz.1 hz.2, bd_some, m26]
    have fault : ∀ {A B : Option (Int32 × Sg)}, A = some (zI (P : Int), S) → B = some (0, T1) → rdO L w σ μ S T A B := fun {A B} h1 h2 => .inl ⟨P, S, T1, h1, h2, n2, by omega, hS, hT1⟩
    by_cases q7 : k = 7
    · rw [if_le_t (by omega) (by omega), if_pos (c := zI (k : Int) = (7 : Int32)) (by rw [q7]; rfl), ite_self, bd_some, bd_some]
      refine fault ?_ rfl
      show (if S.1 (26 + 2 * u) 1 ≤ zI (P : Int) then _ else _) = _
      rw [tS.1, if_le_f q (by omega)]
    rw [if_le_f (by omega) (by omega), if_neg (c := zI (k : Int) = (7 : Int32)) (fun h => q7 ((zNeq (m := k) (n := 7) (by omega) (by decide)).mp h))]
    by_cases qk : knd (b P) = 6
    · rw [if_pos qk, if_pos qk, if_pos (c := (-9 : Int32) = -9) rfl, if_pos (c := (-1 : Int32) < 0) (by decide), bd_some, bd_some]
      exact fault rfl rfl
    have hk6 := knd_6 (z := b P)
    rw [if_neg qk, if_neg qk, if_neg (c := zI (knd (b P) : Int) = (-9 : Int32)) (ne9 (by omega)), if_lt0 (by omega) (by omega), if_neg (c := (knd (b P) : Int) < 0) (by omega), n2, zS, nm]
    have hT2 : fM μ (wI T1 0 21 (zI ((P + 1 : Nat) : Int))) := fM_wI hT1 (by decide)
    have tT2 := fM_tx hT2 tM
    have hy := by9_b (L := L) hb (P + 1)
    have m25 : T1.1 0 25 = zI w := (n3 _ _ (.inr (by decide))).trans h25
    rw [f9_byteAt tT2 hL hu (p := P + 1) (by omega) wI_eq, bd_some, wI_ne (c := 0) (n := 25) (.inr (by decide)), m25, show (48 : Int32) + zI w = zI ((48 : Int) + w) by rw [show (48 : Int32) = zI 48 from rfl, z_add], inZ_in (l := 48) (h := 48 + w) ⟨by omega, by omega⟩ (by decide) (zJ_z (by omega) (by omega)) (by decide) (by omega), bd_some, f7_sign tS hL (p := P + 1) (by omega), bd_some, nm, show (48 : Int32) = zI 48 from rfl, z_sub]
    have hs1 : -128 ≤ sg L b (P + 1) ∧ sg L b (P + 1) ≤ 1000 := by
      unfold sg
      have := hb (P + 1)
      split <;> omega
    rw [if_lt0 (by omega) (by omega), h8', if_leZ (by omega) (by omega) (by omega) (by omega)]
    cases q3 : inZ 48 (48 + w) (by9 L b (P + 1))
    · have q4 := inZ_f (sg_by (L := L) (b := b) (p := P + 1) (h := 48 + w) (by omega) ▸ q3 : inZ 48 (48 + w) (sg L b (P + 1)) = false)
      rw [f0, bd_some]
      refine .inl ⟨P + 1, S, wI T1 0 21 (zI ((P + 1 : Nat) : Int)), ?_, rfl, wI_eq, by omega, hS, hT2⟩
      by_cases c : sg L b (P + 1) - 48 < 0
      · rw [if_pos c]; rfl
      · rw [if_neg c, if_neg (by omega)]; rfl
    · have q4 := inZ_t q3
      have hPL : P + 1 < L := by
        rcases Nat.lt_or_ge (P + 1) L with h | h
        · exact h
        · unfold by9 at q4
          rw [if_neg (by omega)] at q4
          omega
      have e1 : by9 L b (P + 1) = b (P + 1) := if_pos hPL
      have e2 : sg L b (P + 1) = b (P + 1) := if_pos hPL
      rw [e1] at q4
      let v := (b (P + 1) - 48).toNat
      have ev : b (P + 1) - 48 = ((v : Nat) : Int) := by show _ = (((b (P + 1) - 48).toNat : Nat) : Int); omega
      let S2 := wI (wI (wI S (sb 1 + 3) k (zI (knd (b P)))) (sb 1 + 4) k (zI v)) (sb 1) 9 (zI ((k + 1 : Nat) : Int))
      let T3 := wI (wI T1 0 21 (zI ((P + 1 : Nat) : Int))) 17 k (zI (knd (b P)))
      let T4 := wI (wI (wI T3 18 k (zI v)) 0 26 (zI ((k + 1 : Nat) : Int))) 0 21 (zI ((P + 2 : Nat) : Int))
      have hT3 : fM μ T3 := fM_wI hT2 (by omega)
      have tT3 := fM_tx hT3 tM
      have hS2 : fS σ S2 := fS_wI (fS_wI (fS_wI hS (by omega) (by omega)) (by omega) (by omega)) (by omega) (by omega)
      have hT4 : fM μ T4 := fM_wI (fM_wI (fM_wI hT3 (by omega)) (by decide)) (by decide)
      have hP4 : ppl w (fun x => if x = k then knd (b P) else κ x) (fun x => if x = k then v else r x) (k + 1) S2 T4 := by
        refine ⟨wI_eq, (wI_ne (.inr (by decide))).trans wI_eq, by omega, fun x => ?_, fun x hx => ?_⟩
        · show (if x = k then knd (b P) else κ x) < 6 ∧ (if x = k then v else r x) ≤ w
          by_cases c : x = k
          · rw [if_pos c, if_pos c]; exact ⟨by omega, by omega⟩
          · rw [if_neg c, if_neg c]; exact pb x
        · have a1 : S2.1 50 x = if x = k then zI (knd (b P)) else S.1 50 x := by
            show (wI (wI (wI S 50 k _) 51 k _) 47 9 _).1 50 x = _
            rw [wI_ne (.inl (by decide)), wI_ne (.inl (by decide)), wI_1, if_pos rfl]
          have a2 : S2.1 51 x = if x = k then zI (v : Int) else S.1 51 x := by
            show (wI (wI (wI S 50 k _) 51 k _) 47 9 _).1 51 x = _
            rw [wI_ne (.inl (by decide)), wI_1, if_pos rfl, wI_ne (.inl (by decide))]
          have a3 : T4.1 17 x = if x = k then zI (knd (b P)) else T1.1 17 x := by
            show (wI (wI (wI (wI (wI T1 0 21 _) 17 k _) 18 k _) 0 26 _) 0 21 _).1 17 x = _
            rw [wI_ne (.inl (by decide)), wI_ne (.inl (by decide)), wI_ne (.inl (by decide)), wI_1, if_pos rfl, wI_ne (.inl (by decide))]
          have a4 : T4.1 18 x = if x = k then zI (v : Int) else T1.1 18 x := by
            show (wI (wI (wI (wI (wI T1 0 21 _) 17 k _) 18 k _) 0 26 _) 0 21 _).1 18 x = _
            rw [wI_ne (.inl (by decide)), wI_ne (.inl (by decide)), wI_1, if_pos rfl, wI_ne (.inl (by decide)), wI_ne (.inl (by decide))]
          rw [a1, a2, a3, a4]
          show (_ = zI ((if x = k then knd (b P) else κ x : Nat) : Int) ∧ _ = zI ((if x = k then v else r x : Nat) : Int)) ∧ _ = zI ((if x = k then knd (b P) else κ x : Nat) : Int) ∧ _ = zI ((if x = k then v else r x : Nat) : Int)
          by_cases c : x = k
          · simp only [if_pos c, and_self]
          · simp only [if_neg c]; exact hP1.2.2.2.2 x (by omega)
      have hst4 : stl S S2 T T4 := by
        refine stl_tr hst ⟨?_, fun n => ?_, fun n => ?_, ?_, fun n => ?_⟩
        · show (wI (wI (wI S 50 k _) 51 k _) 47 9 _).1 47 8 = _
          rw [wI_ne (.inr (by decide)), wI_ne (.inl (by decide)), wI_ne (.inl (by decide))]
        · show (wI (wI (wI S 50 k _) 51 k _) 47 9 _).1 48 n = _
          rw [wI_ne (.inl (by decide)), wI_ne (.inl (by decide)), wI_ne (.inl (by decide))]
        · show (wI (wI (wI S 50 k _) 51 k _) 47 9 _).1 49 n = _
          rw [wI_ne (.inl (by decide)), wI_ne (.inl (by decide)), wI_ne (.inl (by decide))]
        · show (wI (wI (wI (wI (wI T1 0 21 _) 17 k _) 18 k _) 0 26 _) 0 21 _).1 0 25 = _
          rw [wI_ne (.inr (by decide)), wI_ne (.inr (by decide)), wI_ne (.inl (by decide)), wI_ne (.inl (by decide)), wI_ne (.inr (by decide))]
        · show (wI (wI (wI (wI (wI T1 0 21 _) 17 k _) 18 k _) 0 26 _) 0 21 _).1 16 n = _
          rw [wI_ne (.inl (by decide)), wI_ne (.inl (by decide)), wI_ne (.inl (by decide)), wI_ne (.inl (by decide)), wI_ne (.inl (by decide))]
      have tS2 := fS_tx hu hS2 tI
      have next := ih (e - 1) (by omega) (k + 1) (by omega) (P + 2) (by omega) f g (by omega) (by omega) S2 T4 _ _ hS2 hT4 hP4 (hst4.1.trans h8) (hst4.2.2.2.1.trans h25) wI_eq
      have k26 : (wI T1 0 21 (zI ((P + 1 : Nat) : Int))).1 0 26 = zI k := (wI_ne (.inr (by decide))).trans m26
      have k26' : T3.1 0 26 = zI k := (wI_ne (.inl (by decide))).trans k26
      have k21 : T3.1 0 21 = zI ((P + 1 : Nat) : Int) := (wI_ne (.inl (by decide))).trans wI_eq
      rw [t0, e2, if_neg (by omega), if_pos (by omega), ev, k26]
      simp only [nm]
      rw [chk_N (n := k) (by omega) (by omega), chk_N (n := k) (by omega) (by omega), z_tnN (by omega), f9_byteAt tT3 hL hu (p := P + 1) (by omega) k21, bd_some, e1, z_sub, ev, k26', chk_N (by omega) (by omega), z_tnN (by omega)]
      rw [wI_ne (c := sb 1) (n := 9) (S := S) (.inl (by decide)), p9', chk_N (by omega) (by omega), wI_ne (c := sb 1) (n := 9) (.inl (by decide)), wI_ne (c := sb 1) (n := 9) (.inl (by decide)), p9', zS, wI_ne (c := 0) (n := 26) (.inl (by decide)), k26', zS, wI_ne (c := 0) (n := 21) (.inr (by decide)), wI_ne (c := 0) (n := 21) (.inl (by decide)), k21, zS, show zI (P : Int) + 2 = zI ((P + 2 : Nat) : Int) by rw [zN2, z_add]; exact congrArg zI (by push_cast; rfl), z_tnN (by omega)]
      show rdO L w σ μ S T (bd (bd (F_X7_pastBlanks u S2 (zI ((P + 2 : Nat) : Int))) (fun x18 => T_X6_readPeople_6 1 u f x18 S2)) (pst u)) (bd (T_X9_readStreet_25 (zI u) g T4) qst)
      rw [f7_blanks hb tS2 hL (by omega), bd_some]
      rcases next with h | ⟨S', T', κ', r', k', g1, g2, g3, g4, g5, g6⟩
      · exact .inl h
      · exact .inr ⟨S', T', κ', r', k', g1, g2, g3, g4, g5, stl_tr hst4 g6⟩
