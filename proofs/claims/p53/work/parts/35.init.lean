/-! the constructors -/
theorem init_blind {G : Gp} {av : List Value} {sz : Nat} {ws : va_W} : FrameBlind (va_Pc av (fun U => U.heap.size = sz ∧ va_P G.1 vwCl ws U.heap ∧ va_K G.1 vwCl (tysOf G) U ∧ va_D (fun _ => True) ws)) := by
  intro a U g mk h
  obtain ⟨h0, h1, h2, h3, h4⟩ := h
  exact ⟨h0, h1, h2, va_K.moved (u := U) (U := U.calling g mk a) (Vm.Alike.refl U.vm) h3, h4⟩
def ri_X4 : Room := { frames := 1, cells := 1, slots := 40, locals := 12 }
set_option maxHeartbeats 40000000 in
set_option maxRecDepth 100000 in
theorem c_X4_init (l : Launch) (G : Gp) (h0 sz : Nat) : Met l yX4_init wsX4_init ri_X4 (va_Pc [.ref h0] (fun U => U.heap.size = sz ∧ va_P G.1 vwCl [(h0, .inr (3, [.null, .int 0]))] U.heap ∧ va_K G.1 vwCl (tysOf G) U ∧ va_D (fun _ => True) [(h0, .inr (3, [.null, .int 0]))])) (va_Qv (fun _ : Nat → Nat => True) (fun q t => va_P G.1 vwCl [(h0, .inr (3, [.ref (q 1), .int (-1)])), ((q 1), .inl (G.2.2.1 0, 40, .inl (fun _ => 0)))] t.heap ∧ va_K G.1 vwCl (tysOf G) t ∧ va_D (va_A [(h0, .inr (3, [.null, .int 0]))] sz) [(h0, .inr (3, [.ref (q 1), .int (-1)])), ((q 1), .inl (G.2.2.1 0, 40, .inl (fun _ => 0)))]) (va_A [(h0, .inr (3, [.null, .int 0]))] sz)) 1 40 (va_A [(h0, .inr (3, [.null, .int 0]))] sz) := by
  refine Met.ofW (cc := cX4_init) (maxL := 1) (ret := none) (by decide) rfl ?_
  intro p e s m args below meth c s₁ B hml hv
  obtain ⟨rfl, hsz, hP, hK, hD0⟩ := hv
  have hx := B.exec
  have hb := B.bytes
  have hr := B.returns
  have hts := atoms_spec (ws := wsX4_init) B.pre
  have hown : s.vm.findClass RX4 = some m.cls := findClass_of_methodNamed B.named
  have hlocks := B.notSynchronized
  have hin : meth.name = "<init>" := (name_of_methodNamed B.named B.method).1
  subst hsz
  have hD := hD0.self (sz := s.heap.size)
  generalize hAe : va_A [(h0, .inr (3, [.null, .int 0]))] s.heap.size = A at hD ⊢
  have hA : ∀ q : Nat, s.heap.size ≤ q → A q := fun q h => by rw [← hAe]; exact Or.inr h
  have hS : va_S A s.heap s.heap [] := va_S.rf
  have hP : va_P G.1 vwCl [(h0, .inr (3, [.null, .int 0]))] s.heap := hP
  have hl := lv_entry ([.ref h0]) (n := 1) (Nat.le_of_ble_eq_true rfl)
  rw [lg_entry_eq]
  generalize (lg_sl ([.ref h0]) ++ List.replicate (1 - (lg_sl ([.ref h0])).length) Slot.unset).toArray = ls at hl ⊢
  have hl : lv_has ls 1 [(0, .ref h0)] := hl
  refine lv_aload_n hx hb dX4_init_0 rfl (lv_at hl 0 rfl) ?_
  refine W.objInit hx hb hown (hts (.methodLink RX4 1 objectInit) (by decide +kernel)) (hts (.instanceMethod objectInit) (by decide +kernel)) (hts (.code objectInit ⟨#[0xb1]⟩ 1 none) (by decide +kernel)) rfl (by rw [hml]; exact hl.1) rfl dX4_init_1 (Nat.le_of_ble_eq_true rfl) (Nat.le_of_ble_eq_true rfl) ?_
  refine W.eq (g2 := F0 m 4 ls []) rfl ?_
  refine lv_aload_n hx hb dX4_init_4 rfl (lv_at hl 0 rfl) ?_
  refine lv_bipush (v := 40) hx hb dX4_init_5 (by decide) ?_
  refine va_newa (atype := .int) (ty := .int) (N' := 40) (a0 := (40, .inl (fun _ => 0))) hx hb (hts (.arrayClass .int) (by decide +kernel)) rfl hK hP hD hS hA (fun _ => rfl) (by decide) (by decide) (Nat.le_of_ble_eq_true rfl) (Nat.le_of_ble_eq_true rfl) (Nat.le_of_ble_eq_true rfl) dX4_init_7 (fun q1 cA H hK1 hP hD hS => ?_)
  obtain rfl : cA = G.2.2.1 0 := ra_eq (hK1.2 7 _ rfl).2 (hK1.2 0 _ rfl).2
  have hP : va_P G.1 vwCl [(h0, .inr (3, [.null, .int 0])), (q1, .inl (G.2.2.1 0, 40, .inl (fun _ => 0)))] H := hP
  have hD : va_D A [(h0, .inr (3, [.null, .int 0])), (q1, .inl (G.2.2.1 0, 40, .inl (fun _ => 0)))] := hD
  refine W.widen (k := 1) (n := 40) (Nat.le_of_ble_eq_true rfl) (Nat.le_of_ble_eq_true rfl) ?_
  refine va_putF (D := G.1) (ci := 3) (v := .ref q1) (ty := (.array .int)) (C := RX4) (T := TX4) (N := 2) hx hb hts (by decide +kernel) tyX4 tyX4_ok nmX4 hown hK hP hD hS 0 rfl rfl 0 (by decide) (hts (.fieldLink RX4 9 "PaperWalls$Row" "ints" "[I") (by decide +kernel)) (fun _ h9 => h9) rfl hin rfl (by decide +kernel) rfl rfl (Nat.le_of_ble_eq_true rfl) dX4_init_9 (fun H locs hP hD hS => ?_)
  have hP : va_P G.1 vwCl [(h0, .inr (3, [.ref q1, .int 0])), (q1, .inl (G.2.2.1 0, 40, .inl (fun _ => 0)))] H := hP
  have hD : va_D A [(h0, .inr (3, [.ref q1, .int 0])), (q1, .inl (G.2.2.1 0, 40, .inl (fun _ => 0)))] := hD
  refine lv_aload_n hx hb dX4_init_12 rfl (lv_at hl 0 rfl) ?_
  refine lv_iconst (v := -1) hx hb dX4_init_13 (by decide) ?_
  refine va_put (D := G.1) (ci := 3) (v := .int (-1)) (ty := .int) (C := RX4) (T := TX4) (N := 2) hx hb hts (by decide +kernel) tyX4 tyX4_ok nmX4 hown hK hP hD hS 0 rfl rfl 1 (by decide) (hts (.fieldLink RX4 13 "PaperWalls$Row" "size" "I") (by decide +kernel)) (fun _ h9 => h9) rfl (by decide +kernel) rfl rfl (Nat.le_of_ble_eq_true rfl) dX4_init_14 (fun H locs hP hD hS => ?_)
  have hP : va_P G.1 vwCl [(h0, .inr (3, [.ref q1, .int (-1)])), (q1, .inl (G.2.2.1 0, 40, .inl (fun _ => 0)))] H := hP
  have hD : va_D A [(h0, .inr (3, [.ref q1, .int (-1)])), (q1, .inl (G.2.2.1 0, 40, .inl (fun _ => 0)))] := hD
  have hP9 := hP.sub (ws' := [(h0, .inr (3, [.ref q1, .int (-1)])), (q1, .inl (G.2.2.1 0, 40, .inl (fun _ => 0)))]) [0, 1] rfl
  have hD9 := hD.sub (ws' := [(h0, .inr (3, [.ref q1, .int (-1)])), (q1, .inl (G.2.2.1 0, 40, .inl (fun _ => 0)))]) [0, 1] (by decide +kernel) rfl
  exact W.vret hx hb hr (fun t ht hW => ⟨⟨(fun k => ([h0, q1] : List Nat).getD k 0), rfl, trivial, by rw [ht]; exact hP9, va_K.moved hW.alike hK, hD9⟩, hS.F ht⟩) hS.2.2 dX4_init_17
def ri_X7 : Room := { frames := 1, cells := 1, slots := 80, locals := 12 }
set_option maxHeartbeats 40000000 in
set_option maxRecDepth 100000 in
theorem c_X7_init (l : Launch) (G : Gp) (h0 sz : Nat) : Met l yX7_init wsX7_init ri_X7 (va_Pc [.ref h0] (fun U => U.heap.size = sz ∧ va_P G.1 vwCl [(h0, .inr (6, [.null, .int 0]))] U.heap ∧ va_K G.1 vwCl (tysOf G) U ∧ va_D (fun _ => True) [(h0, .inr (6, [.null, .int 0]))])) (va_Qv (fun _ : Nat → Nat => True) (fun q t => va_P G.1 vwCl [(h0, .inr (6, [.ref (q 1), .int (-1)])), ((q 1), .inl (G.2.2.1 1, 80, .inl (fun _ => 0)))] t.heap ∧ va_K G.1 vwCl (tysOf G) t ∧ va_D (va_A [(h0, .inr (6, [.null, .int 0]))] sz) [(h0, .inr (6, [.ref (q 1), .int (-1)])), ((q 1), .inl (G.2.2.1 1, 80, .inl (fun _ => 0)))]) (va_A [(h0, .inr (6, [.null, .int 0]))] sz)) 1 80 (va_A [(h0, .inr (6, [.null, .int 0]))] sz) := by
  refine Met.ofW (cc := cX7_init) (maxL := 1) (ret := none) (by decide) rfl ?_
  intro p e s m args below meth c s₁ B hml hv
  obtain ⟨rfl, hsz, hP, hK, hD0⟩ := hv
  have hx := B.exec
  have hb := B.bytes
  have hr := B.returns
  have hts := atoms_spec (ws := wsX7_init) B.pre
  have hown : s.vm.findClass RX7 = some m.cls := findClass_of_methodNamed B.named
  have hlocks := B.notSynchronized
  have hin : meth.name = "<init>" := (name_of_methodNamed B.named B.method).1
  subst hsz
  have hD := hD0.self (sz := s.heap.size)
  generalize hAe : va_A [(h0, .inr (6, [.null, .int 0]))] s.heap.size = A at hD ⊢
  have hA : ∀ q : Nat, s.heap.size ≤ q → A q := fun q h => by rw [← hAe]; exact Or.inr h
  have hS : va_S A s.heap s.heap [] := va_S.rf
  have hP : va_P G.1 vwCl [(h0, .inr (6, [.null, .int 0]))] s.heap := hP
  have hl := lv_entry ([.ref h0]) (n := 1) (Nat.le_of_ble_eq_true rfl)
  rw [lg_entry_eq]
  generalize (lg_sl ([.ref h0]) ++ List.replicate (1 - (lg_sl ([.ref h0])).length) Slot.unset).toArray = ls at hl ⊢
  have hl : lv_has ls 1 [(0, .ref h0)] := hl
  refine lv_aload_n hx hb dX7_init_0 rfl (lv_at hl 0 rfl) ?_
  refine W.objInit hx hb hown (hts (.methodLink RX7 1 objectInit) (by decide +kernel)) (hts (.instanceMethod objectInit) (by decide +kernel)) (hts (.code objectInit ⟨#[0xb1]⟩ 1 none) (by decide +kernel)) rfl (by rw [hml]; exact hl.1) rfl dX7_init_1 (Nat.le_of_ble_eq_true rfl) (Nat.le_of_ble_eq_true rfl) ?_
  refine W.eq (g2 := F0 m 4 ls []) rfl ?_
  refine lv_aload_n hx hb dX7_init_4 rfl (lv_at hl 0 rfl) ?_
  refine lv_bipush (v := 80) hx hb dX7_init_5 (by decide) ?_
  refine va_newa (atype := .byte) (ty := .byte) (N' := 80) (a0 := (80, .inl (fun _ => 0))) hx hb (hts (.arrayClass .byte) (by decide +kernel)) rfl hK hP hD hS hA (fun _ => rfl) (by decide) (by decide) (Nat.le_of_ble_eq_true rfl) (Nat.le_of_ble_eq_true rfl) (Nat.le_of_ble_eq_true rfl) dX7_init_7 (fun q1 cA H hK1 hP hD hS => ?_)
  obtain rfl : cA = G.2.2.1 1 := ra_eq (hK1.2 7 _ rfl).2 (hK1.2 1 _ rfl).2
  have hP : va_P G.1 vwCl [(h0, .inr (6, [.null, .int 0])), (q1, .inl (G.2.2.1 1, 80, .inl (fun _ => 0)))] H := hP
  have hD : va_D A [(h0, .inr (6, [.null, .int 0])), (q1, .inl (G.2.2.1 1, 80, .inl (fun _ => 0)))] := hD
  refine W.widen (k := 1) (n := 80) (Nat.le_of_ble_eq_true rfl) (Nat.le_of_ble_eq_true rfl) ?_
  refine va_putF (D := G.1) (ci := 6) (v := .ref q1) (ty := (.array .byte)) (C := RX7) (T := TX7) (N := 2) hx hb hts (by decide +kernel) tyX7 tyX7_ok nmX7 hown hK hP hD hS 0 rfl rfl 0 (by decide) (hts (.fieldLink RX7 9 "PaperWalls$Text" "bytes" "[B") (by decide +kernel)) (fun _ h9 => h9) rfl hin rfl (by decide +kernel) rfl rfl (Nat.le_of_ble_eq_true rfl) dX7_init_9 (fun H locs hP hD hS => ?_)
  have hP : va_P G.1 vwCl [(h0, .inr (6, [.ref q1, .int 0])), (q1, .inl (G.2.2.1 1, 80, .inl (fun _ => 0)))] H := hP
  have hD : va_D A [(h0, .inr (6, [.ref q1, .int 0])), (q1, .inl (G.2.2.1 1, 80, .inl (fun _ => 0)))] := hD
  refine lv_aload_n hx hb dX7_init_12 rfl (lv_at hl 0 rfl) ?_
  refine lv_iconst (v := -1) hx hb dX7_init_13 (by decide) ?_
  refine va_put (D := G.1) (ci := 6) (v := .int (-1)) (ty := .int) (C := RX7) (T := TX7) (N := 2) hx hb hts (by decide +kernel) tyX7 tyX7_ok nmX7 hown hK hP hD hS 0 rfl rfl 1 (by decide) (hts (.fieldLink RX7 13 "PaperWalls$Text" "size" "I") (by decide +kernel)) (fun _ h9 => h9) rfl (by decide +kernel) rfl rfl (Nat.le_of_ble_eq_true rfl) dX7_init_14 (fun H locs hP hD hS => ?_)
  have hP : va_P G.1 vwCl [(h0, .inr (6, [.ref q1, .int (-1)])), (q1, .inl (G.2.2.1 1, 80, .inl (fun _ => 0)))] H := hP
  have hD : va_D A [(h0, .inr (6, [.ref q1, .int (-1)])), (q1, .inl (G.2.2.1 1, 80, .inl (fun _ => 0)))] := hD
  have hP9 := hP.sub (ws' := [(h0, .inr (6, [.ref q1, .int (-1)])), (q1, .inl (G.2.2.1 1, 80, .inl (fun _ => 0)))]) [0, 1] rfl
  have hD9 := hD.sub (ws' := [(h0, .inr (6, [.ref q1, .int (-1)])), (q1, .inl (G.2.2.1 1, 80, .inl (fun _ => 0)))]) [0, 1] (by decide +kernel) rfl
  exact W.vret hx hb hr (fun t ht hW => ⟨⟨(fun k => ([h0, q1] : List Nat).getD k 0), rfl, trivial, by rw [ht]; exact hP9, va_K.moved hW.alike hK, hD9⟩, hS.F ht⟩) hS.2.2 dX7_init_17
def ri_X5 : Room := { frames := 1, cells := 1, slots := 6, locals := 12 }
set_option maxHeartbeats 40000000 in
set_option maxRecDepth 100000 in
theorem c_X5_init (l : Launch) (G : Gp) (h0 sz : Nat) : Met l yX5_init wsX5_init ri_X5 (va_Pc [.ref h0] (fun U => U.heap.size = sz ∧ va_P G.1 vwCl [(h0, .inr (4, [.null, .int 0]))] U.heap ∧ va_K G.1 vwCl (tysOf G) U ∧ va_D (fun _ => True) [(h0, .inr (4, [.null, .int 0]))])) (va_Qv (fun _ : Nat → Nat => True) (fun q t => va_P G.1 vwCl [(h0, .inr (4, [.ref (q 1), .int 0])), ((q 1), .inl (G.2.2.1 0, 6, .inl (fun _ => 0)))] t.heap ∧ va_K G.1 vwCl (tysOf G) t ∧ va_D (va_A [(h0, .inr (4, [.null, .int 0]))] sz) [(h0, .inr (4, [.ref (q 1), .int 0])), ((q 1), .inl (G.2.2.1 0, 6, .inl (fun _ => 0)))]) (va_A [(h0, .inr (4, [.null, .int 0]))] sz)) 1 6 (va_A [(h0, .inr (4, [.null, .int 0]))] sz) := by
  refine Met.ofW (cc := cX5_init) (maxL := 1) (ret := none) (by decide) rfl ?_
  intro p e s m args below meth c s₁ B hml hv
  obtain ⟨rfl, hsz, hP, hK, hD0⟩ := hv
  have hx := B.exec
  have hb := B.bytes
  have hr := B.returns
  have hts := atoms_spec (ws := wsX5_init) B.pre
  have hown : s.vm.findClass RX5 = some m.cls := findClass_of_methodNamed B.named
  have hlocks := B.notSynchronized
  have hin : meth.name = "<init>" := (name_of_methodNamed B.named B.method).1
  subst hsz
  have hD := hD0.self (sz := s.heap.size)
  generalize hAe : va_A [(h0, .inr (4, [.null, .int 0]))] s.heap.size = A at hD ⊢
  have hA : ∀ q : Nat, s.heap.size ≤ q → A q := fun q h => by rw [← hAe]; exact Or.inr h
  have hS : va_S A s.heap s.heap [] := va_S.rf
  have hP : va_P G.1 vwCl [(h0, .inr (4, [.null, .int 0]))] s.heap := hP
  have hl := lv_entry ([.ref h0]) (n := 1) (Nat.le_of_ble_eq_true rfl)
  rw [lg_entry_eq]
  generalize (lg_sl ([.ref h0]) ++ List.replicate (1 - (lg_sl ([.ref h0])).length) Slot.unset).toArray = ls at hl ⊢
  have hl : lv_has ls 1 [(0, .ref h0)] := hl
  refine lv_aload_n hx hb dX5_init_0 rfl (lv_at hl 0 rfl) ?_
  refine W.objInit hx hb hown (hts (.methodLink RX5 1 objectInit) (by decide +kernel)) (hts (.instanceMethod objectInit) (by decide +kernel)) (hts (.code objectInit ⟨#[0xb1]⟩ 1 none) (by decide +kernel)) rfl (by rw [hml]; exact hl.1) rfl dX5_init_1 (Nat.le_of_ble_eq_true rfl) (Nat.le_of_ble_eq_true rfl) ?_
  refine W.eq (g2 := F0 m 4 ls []) rfl ?_
  refine lv_aload_n hx hb dX5_init_4 rfl (lv_at hl 0 rfl) ?_
  refine lv_bipush (v := 6) hx hb dX5_init_5 (by decide) ?_
  refine va_newa (atype := .int) (ty := .int) (N' := 6) (a0 := (6, .inl (fun _ => 0))) hx hb (hts (.arrayClass .int) (by decide +kernel)) rfl hK hP hD hS hA (fun _ => rfl) (by decide) (by decide) (Nat.le_of_ble_eq_true rfl) (Nat.le_of_ble_eq_true rfl) (Nat.le_of_ble_eq_true rfl) dX5_init_7 (fun q1 cA H hK1 hP hD hS => ?_)
  obtain rfl : cA = G.2.2.1 0 := ra_eq (hK1.2 7 _ rfl).2 (hK1.2 0 _ rfl).2
  have hP : va_P G.1 vwCl [(h0, .inr (4, [.null, .int 0])), (q1, .inl (G.2.2.1 0, 6, .inl (fun _ => 0)))] H := hP
  have hD : va_D A [(h0, .inr (4, [.null, .int 0])), (q1, .inl (G.2.2.1 0, 6, .inl (fun _ => 0)))] := hD
  refine W.widen (k := 1) (n := 6) (Nat.le_of_ble_eq_true rfl) (Nat.le_of_ble_eq_true rfl) ?_
  refine va_putF (D := G.1) (ci := 4) (v := .ref q1) (ty := (.array .int)) (C := RX5) (T := TX5) (N := 2) hx hb hts (by decide +kernel) tyX5 tyX5_ok nmX5 hown hK hP hD hS 0 rfl rfl 0 (by decide) (hts (.fieldLink RX5 9 "PaperWalls$Shares" "of" "[I") (by decide +kernel)) (fun _ h9 => h9) rfl hin rfl (by decide +kernel) rfl rfl (Nat.le_of_ble_eq_true rfl) dX5_init_9 (fun H locs hP hD hS => ?_)
  have hP : va_P G.1 vwCl [(h0, .inr (4, [.ref q1, .int 0])), (q1, .inl (G.2.2.1 0, 6, .inl (fun _ => 0)))] H := hP
  have hD : va_D A [(h0, .inr (4, [.ref q1, .int 0])), (q1, .inl (G.2.2.1 0, 6, .inl (fun _ => 0)))] := hD
  have hP9 := hP.sub (ws' := [(h0, .inr (4, [.ref q1, .int 0])), (q1, .inl (G.2.2.1 0, 6, .inl (fun _ => 0)))]) [0, 1] rfl
  have hD9 := hD.sub (ws' := [(h0, .inr (4, [.ref q1, .int 0])), (q1, .inl (G.2.2.1 0, 6, .inl (fun _ => 0)))]) [0, 1] (by decide +kernel) rfl
  exact W.vret hx hb hr (fun t ht hW => ⟨⟨(fun k => ([h0, q1] : List Nat).getD k 0), rfl, trivial, by rw [ht]; exact hP9, va_K.moved hW.alike hK, hD9⟩, hS.F ht⟩) hS.2.2 dX5_init_12
def ri_X3 : Room := { frames := 1, cells := 2, slots := 512, locals := 12 }
set_option maxHeartbeats 40000000 in
set_option maxRecDepth 100000 in
theorem c_X3_init (l : Launch) (G : Gp) (h0 sz : Nat) : Met l yX3_init wsX3_init ri_X3 (va_Pc [.ref h0] (fun U => U.heap.size = sz ∧ va_P G.1 vwCl [(h0, .inr (2, [.null, .null]))] U.heap ∧ va_K G.1 vwCl (tysOf G) U ∧ va_D (fun _ => True) [(h0, .inr (2, [.null, .null]))])) (va_Qv (fun _ : Nat → Nat => True) (fun q t => va_P G.1 vwCl [(h0, .inr (2, [.ref (q 1), .ref (q 2)])), ((q 1), .inl (G.2.2.1 2, 256, .inl (fun _ => 0))), ((q 2), .inl (G.2.2.1 0, 256, .inl (fun _ => 0)))] t.heap ∧ va_K G.1 vwCl (tysOf G) t ∧ va_D (va_A [(h0, .inr (2, [.null, .null]))] sz) [(h0, .inr (2, [.ref (q 1), .ref (q 2)])), ((q 1), .inl (G.2.2.1 2, 256, .inl (fun _ => 0))), ((q 2), .inl (G.2.2.1 0, 256, .inl (fun _ => 0)))]) (va_A [(h0, .inr (2, [.null, .null]))] sz)) 2 512 (va_A [(h0, .inr (2, [.null, .null]))] sz) := by
  refine Met.ofW (cc := cX3_init) (maxL := 1) (ret := none) (by decide) rfl ?_
  intro p e s m args below meth c s₁ B hml hv
  obtain ⟨rfl, hsz, hP, hK, hD0⟩ := hv
  have hx := B.exec
  have hb := B.bytes
  have hr := B.returns
  have hts := atoms_spec (ws := wsX3_init) B.pre
  have hown : s.vm.findClass RX3 = some m.cls := findClass_of_methodNamed B.named
  have hlocks := B.notSynchronized
  have hin : meth.name = "<init>" := (name_of_methodNamed B.named B.method).1
  subst hsz
  have hD := hD0.self (sz := s.heap.size)
  generalize hAe : va_A [(h0, .inr (2, [.null, .null]))] s.heap.size = A at hD ⊢
  have hA : ∀ q : Nat, s.heap.size ≤ q → A q := fun q h => by rw [← hAe]; exact Or.inr h
  have hS : va_S A s.heap s.heap [] := va_S.rf
  have hP : va_P G.1 vwCl [(h0, .inr (2, [.null, .null]))] s.heap := hP
  have hl := lv_entry ([.ref h0]) (n := 1) (Nat.le_of_ble_eq_true rfl)
  rw [lg_entry_eq]
  generalize (lg_sl ([.ref h0]) ++ List.replicate (1 - (lg_sl ([.ref h0])).length) Slot.unset).toArray = ls at hl ⊢
  have hl : lv_has ls 1 [(0, .ref h0)] := hl
  refine lv_aload_n hx hb dX3_init_0 rfl (lv_at hl 0 rfl) ?_
  refine W.objInit hx hb hown (hts (.methodLink RX3 5 objectInit) (by decide +kernel)) (hts (.instanceMethod objectInit) (by decide +kernel)) (hts (.code objectInit ⟨#[0xb1]⟩ 1 none) (by decide +kernel)) rfl (by rw [hml]; exact hl.1) rfl dX3_init_1 (Nat.le_of_ble_eq_true rfl) (Nat.le_of_ble_eq_true rfl) ?_
  refine W.eq (g2 := F0 m 4 ls []) rfl ?_
  refine lv_aload_n hx hb dX3_init_4 rfl (lv_at hl 0 rfl) ?_
  refine lv_sipush (v := 256) hx hb dX3_init_5 (by decide) ?_
  refine va_newa (atype := .boolean) (ty := .boolean) (N' := 256) (a0 := (256, .inl (fun _ => 0))) hx hb (hts (.arrayClass .boolean) (by decide +kernel)) rfl hK hP hD hS hA (fun _ => rfl) (by decide) (by decide) (Nat.le_of_ble_eq_true rfl) (Nat.le_of_ble_eq_true rfl) (Nat.le_of_ble_eq_true rfl) dX3_init_8 (fun q1 cA H hK1 hP hD hS => ?_)
  obtain rfl : cA = G.2.2.1 2 := ra_eq (hK1.2 7 _ rfl).2 (hK1.2 2 _ rfl).2
  have hP : va_P G.1 vwCl [(h0, .inr (2, [.null, .null])), (q1, .inl (G.2.2.1 2, 256, .inl (fun _ => 0)))] H := hP
  have hD : va_D A [(h0, .inr (2, [.null, .null])), (q1, .inl (G.2.2.1 2, 256, .inl (fun _ => 0)))] := hD
  refine W.widen (k := 1) (n := 256) (Nat.le_of_ble_eq_true rfl) (Nat.le_of_ble_eq_true rfl) ?_
  refine va_putF (D := G.1) (ci := 2) (v := .ref q1) (ty := (.array .boolean)) (C := RX3) (T := TX3) (N := 2) hx hb hts (by decide +kernel) tyX3 tyX3_ok nmX3 hown hK hP hD hS 0 rfl rfl 0 (by decide) (hts (.fieldLink RX3 13 "PaperWalls$Plan" "together" "[Z") (by decide +kernel)) (fun _ h9 => h9) rfl hin rfl (by decide +kernel) rfl rfl (Nat.le_of_ble_eq_true rfl) dX3_init_10 (fun H locs hP hD hS => ?_)
  have hP : va_P G.1 vwCl [(h0, .inr (2, [.ref q1, .null])), (q1, .inl (G.2.2.1 2, 256, .inl (fun _ => 0)))] H := hP
  have hD : va_D A [(h0, .inr (2, [.ref q1, .null])), (q1, .inl (G.2.2.1 2, 256, .inl (fun _ => 0)))] := hD
  refine lv_aload_n hx hb dX3_init_13 rfl (lv_at hl 0 rfl) ?_
  refine lv_sipush (v := 256) hx hb dX3_init_14 (by decide) ?_
  refine va_newa (atype := .int) (ty := .int) (N' := 256) (a0 := (256, .inl (fun _ => 0))) hx hb (hts (.arrayClass .int) (by decide +kernel)) rfl hK hP hD hS hA (fun _ => rfl) (by decide) (by decide) (Nat.le_of_ble_eq_true rfl) (Nat.le_of_ble_eq_true rfl) (Nat.le_of_ble_eq_true rfl) dX3_init_17 (fun q2 cA H hK1 hP hD hS => ?_)
  obtain rfl : cA = G.2.2.1 0 := ra_eq (hK1.2 7 _ rfl).2 (hK1.2 0 _ rfl).2
  have hP : va_P G.1 vwCl [(h0, .inr (2, [.ref q1, .null])), (q1, .inl (G.2.2.1 2, 256, .inl (fun _ => 0))), (q2, .inl (G.2.2.1 0, 256, .inl (fun _ => 0)))] H := hP
  have hD : va_D A [(h0, .inr (2, [.ref q1, .null])), (q1, .inl (G.2.2.1 2, 256, .inl (fun _ => 0))), (q2, .inl (G.2.2.1 0, 256, .inl (fun _ => 0)))] := hD
  refine W.widen (k := 2) (n := 512) (Nat.le_of_ble_eq_true rfl) (Nat.le_of_ble_eq_true rfl) ?_
  refine va_putF (D := G.1) (ci := 2) (v := .ref q2) (ty := (.array .int)) (C := RX3) (T := TX3) (N := 2) hx hb hts (by decide +kernel) tyX3 tyX3_ok nmX3 hown hK hP hD hS 0 rfl rfl 1 (by decide) (hts (.fieldLink RX3 17 "PaperWalls$Plan" "fewest" "[I") (by decide +kernel)) (fun _ h9 => h9) rfl hin rfl (by decide +kernel) rfl rfl (Nat.le_of_ble_eq_true rfl) dX3_init_19 (fun H locs hP hD hS => ?_)
  have hP : va_P G.1 vwCl [(h0, .inr (2, [.ref q1, .ref q2])), (q1, .inl (G.2.2.1 2, 256, .inl (fun _ => 0))), (q2, .inl (G.2.2.1 0, 256, .inl (fun _ => 0)))] H := hP
  have hD : va_D A [(h0, .inr (2, [.ref q1, .ref q2])), (q1, .inl (G.2.2.1 2, 256, .inl (fun _ => 0))), (q2, .inl (G.2.2.1 0, 256, .inl (fun _ => 0)))] := hD
  have hP9 := hP.sub (ws' := [(h0, .inr (2, [.ref q1, .ref q2])), (q1, .inl (G.2.2.1 2, 256, .inl (fun _ => 0))), (q2, .inl (G.2.2.1 0, 256, .inl (fun _ => 0)))]) [0, 1, 2] rfl
  have hD9 := hD.sub (ws' := [(h0, .inr (2, [.ref q1, .ref q2])), (q1, .inl (G.2.2.1 2, 256, .inl (fun _ => 0))), (q2, .inl (G.2.2.1 0, 256, .inl (fun _ => 0)))]) [0, 1, 2] (by decide +kernel) rfl
  exact W.vret hx hb hr (fun t ht hW => ⟨⟨(fun k => ([h0, q1, q2] : List Nat).getD k 0), rfl, trivial, by rw [ht]; exact hP9, va_K.moved hW.alike hK, hD9⟩, hS.F ht⟩) hS.2.2 dX3_init_22
def ri_X0 : Room := { frames := 1, cells := 2, slots := 14, locals := 12 }
set_option maxHeartbeats 40000000 in
set_option maxRecDepth 100000 in
theorem c_X0_init (l : Launch) (G : Gp) (h0 sz : Nat) : Met l yX0_init wsX0_init ri_X0 (va_Pc [.ref h0] (fun U => U.heap.size = sz ∧ va_P G.1 vwCl [(h0, .inr (0, [.null, .null, .int 0]))] U.heap ∧ va_K G.1 vwCl (tysOf G) U ∧ va_D (fun _ => True) [(h0, .inr (0, [.null, .null, .int 0]))])) (va_Qv (fun _ : Nat → Nat => True) (fun q t => va_P G.1 vwCl [(h0, .inr (0, [.ref (q 1), .ref (q 2), .int 0])), ((q 1), .inl (G.2.2.1 0, 7, .inl (fun _ => 0))), ((q 2), .inl (G.2.2.1 0, 7, .inl (fun _ => 0)))] t.heap ∧ va_K G.1 vwCl (tysOf G) t ∧ va_D (va_A [(h0, .inr (0, [.null, .null, .int 0]))] sz) [(h0, .inr (0, [.ref (q 1), .ref (q 2), .int 0])), ((q 1), .inl (G.2.2.1 0, 7, .inl (fun _ => 0))), ((q 2), .inl (G.2.2.1 0, 7, .inl (fun _ => 0)))]) (va_A [(h0, .inr (0, [.null, .null, .int 0]))] sz)) 2 14 (va_A [(h0, .inr (0, [.null, .null, .int 0]))] sz) := by
  refine Met.ofW (cc := cX0_init) (maxL := 1) (ret := none) (by decide) rfl ?_
  intro p e s m args below meth c s₁ B hml hv
  obtain ⟨rfl, hsz, hP, hK, hD0⟩ := hv
  have hx := B.exec
  have hb := B.bytes
  have hr := B.returns
  have hts := atoms_spec (ws := wsX0_init) B.pre
  have hown : s.vm.findClass RX0 = some m.cls := findClass_of_methodNamed B.named
  have hlocks := B.notSynchronized
  have hin : meth.name = "<init>" := (name_of_methodNamed B.named B.method).1
  subst hsz
  have hD := hD0.self (sz := s.heap.size)
  generalize hAe : va_A [(h0, .inr (0, [.null, .null, .int 0]))] s.heap.size = A at hD ⊢
  have hA : ∀ q : Nat, s.heap.size ≤ q → A q := fun q h => by rw [← hAe]; exact Or.inr h
  have hS : va_S A s.heap s.heap [] := va_S.rf
  have hP : va_P G.1 vwCl [(h0, .inr (0, [.null, .null, .int 0]))] s.heap := hP
  have hl := lv_entry ([.ref h0]) (n := 1) (Nat.le_of_ble_eq_true rfl)
  rw [lg_entry_eq]
  generalize (lg_sl ([.ref h0]) ++ List.replicate (1 - (lg_sl ([.ref h0])).length) Slot.unset).toArray = ls at hl ⊢
  have hl : lv_has ls 1 [(0, .ref h0)] := hl
  refine lv_aload_n hx hb dX0_init_0 rfl (lv_at hl 0 rfl) ?_
  refine W.objInit hx hb hown (hts (.methodLink RX0 3 objectInit) (by decide +kernel)) (hts (.instanceMethod objectInit) (by decide +kernel)) (hts (.code objectInit ⟨#[0xb1]⟩ 1 none) (by decide +kernel)) rfl (by rw [hml]; exact hl.1) rfl dX0_init_1 (Nat.le_of_ble_eq_true rfl) (Nat.le_of_ble_eq_true rfl) ?_
  refine W.eq (g2 := F0 m 4 ls []) rfl ?_
  refine lv_aload_n hx hb dX0_init_4 rfl (lv_at hl 0 rfl) ?_
  refine lv_bipush (v := 7) hx hb dX0_init_5 (by decide) ?_
  refine va_newa (atype := .int) (ty := .int) (N' := 7) (a0 := (7, .inl (fun _ => 0))) hx hb (hts (.arrayClass .int) (by decide +kernel)) rfl hK hP hD hS hA (fun _ => rfl) (by decide) (by decide) (Nat.le_of_ble_eq_true rfl) (Nat.le_of_ble_eq_true rfl) (Nat.le_of_ble_eq_true rfl) dX0_init_7 (fun q1 cA H hK1 hP hD hS => ?_)
  obtain rfl : cA = G.2.2.1 0 := ra_eq (hK1.2 7 _ rfl).2 (hK1.2 0 _ rfl).2
  have hP : va_P G.1 vwCl [(h0, .inr (0, [.null, .null, .int 0])), (q1, .inl (G.2.2.1 0, 7, .inl (fun _ => 0)))] H := hP
  have hD : va_D A [(h0, .inr (0, [.null, .null, .int 0])), (q1, .inl (G.2.2.1 0, 7, .inl (fun _ => 0)))] := hD
  refine W.widen (k := 1) (n := 7) (Nat.le_of_ble_eq_true rfl) (Nat.le_of_ble_eq_true rfl) ?_
  refine va_putF (D := G.1) (ci := 0) (v := .ref q1) (ty := (.array .int)) (C := RX0) (T := TX0) (N := 3) hx hb hts (by decide +kernel) tyX0 tyX0_ok nmX0 hown hK hP hD hS 0 rfl rfl 0 (by decide) (hts (.fieldLink RX0 11 "PaperWalls$Change" "whose" "[I") (by decide +kernel)) (fun _ h9 => h9) rfl hin rfl (by decide +kernel) rfl rfl (Nat.le_of_ble_eq_true rfl) dX0_init_9 (fun H locs hP hD hS => ?_)
  have hP : va_P G.1 vwCl [(h0, .inr (0, [.ref q1, .null, .int 0])), (q1, .inl (G.2.2.1 0, 7, .inl (fun _ => 0)))] H := hP
  have hD : va_D A [(h0, .inr (0, [.ref q1, .null, .int 0])), (q1, .inl (G.2.2.1 0, 7, .inl (fun _ => 0)))] := hD
  refine lv_aload_n hx hb dX0_init_12 rfl (lv_at hl 0 rfl) ?_
  refine lv_bipush (v := 7) hx hb dX0_init_13 (by decide) ?_
  refine va_newa (atype := .int) (ty := .int) (N' := 7) (a0 := (7, .inl (fun _ => 0))) hx hb (hts (.arrayClass .int) (by decide +kernel)) rfl hK hP hD hS hA (fun _ => rfl) (by decide) (by decide) (Nat.le_of_ble_eq_true rfl) (Nat.le_of_ble_eq_true rfl) (Nat.le_of_ble_eq_true rfl) dX0_init_15 (fun q2 cA H hK1 hP hD hS => ?_)
  obtain rfl : cA = G.2.2.1 0 := ra_eq (hK1.2 7 _ rfl).2 (hK1.2 0 _ rfl).2
  have hP : va_P G.1 vwCl [(h0, .inr (0, [.ref q1, .null, .int 0])), (q1, .inl (G.2.2.1 0, 7, .inl (fun _ => 0))), (q2, .inl (G.2.2.1 0, 7, .inl (fun _ => 0)))] H := hP
  have hD : va_D A [(h0, .inr (0, [.ref q1, .null, .int 0])), (q1, .inl (G.2.2.1 0, 7, .inl (fun _ => 0))), (q2, .inl (G.2.2.1 0, 7, .inl (fun _ => 0)))] := hD
  refine W.widen (k := 2) (n := 14) (Nat.le_of_ble_eq_true rfl) (Nat.le_of_ble_eq_true rfl) ?_
  refine va_putF (D := G.1) (ci := 0) (v := .ref q2) (ty := (.array .int)) (C := RX0) (T := TX0) (N := 3) hx hb hts (by decide +kernel) tyX0 tyX0_ok nmX0 hown hK hP hD hS 0 rfl rfl 1 (by decide) (hts (.fieldLink RX0 17 "PaperWalls$Change" "best" "[I") (by decide +kernel)) (fun _ h9 => h9) rfl hin rfl (by decide +kernel) rfl rfl (Nat.le_of_ble_eq_true rfl) dX0_init_17 (fun H locs hP hD hS => ?_)
  have hP : va_P G.1 vwCl [(h0, .inr (0, [.ref q1, .ref q2, .int 0])), (q1, .inl (G.2.2.1 0, 7, .inl (fun _ => 0))), (q2, .inl (G.2.2.1 0, 7, .inl (fun _ => 0)))] H := hP
  have hD : va_D A [(h0, .inr (0, [.ref q1, .ref q2, .int 0])), (q1, .inl (G.2.2.1 0, 7, .inl (fun _ => 0))), (q2, .inl (G.2.2.1 0, 7, .inl (fun _ => 0)))] := hD
  have hP9 := hP.sub (ws' := [(h0, .inr (0, [.ref q1, .ref q2, .int 0])), (q1, .inl (G.2.2.1 0, 7, .inl (fun _ => 0))), (q2, .inl (G.2.2.1 0, 7, .inl (fun _ => 0)))]) [0, 1, 2] rfl
  have hD9 := hD.sub (ws' := [(h0, .inr (0, [.ref q1, .ref q2, .int 0])), (q1, .inl (G.2.2.1 0, 7, .inl (fun _ => 0))), (q2, .inl (G.2.2.1 0, 7, .inl (fun _ => 0)))]) [0, 1, 2] (by decide +kernel) rfl
  exact W.vret hx hb hr (fun t ht hW => ⟨⟨(fun k => ([h0, q1, q2] : List Nat).getD k 0), rfl, trivial, by rw [ht]; exact hP9, va_K.moved hW.alike hK, hD9⟩, hS.F ht⟩) hS.2.2 dX0_init_20
def ri_X1 : Room := { frames := 1, cells := 4, slots := 160, locals := 12 }
set_option maxHeartbeats 40000000 in
set_option maxRecDepth 100000 in
theorem c_X1_init (l : Launch) (G : Gp) (h0 sz : Nat) : Met l yX1_init wsX1_init ri_X1 (va_Pc [.ref h0] (fun U => U.heap.size = sz ∧ va_P G.1 vwCl [(h0, .inr (1, [.null, .null, .null, .null, .long 0, .int 0]))] U.heap ∧ va_K G.1 vwCl (tysOf G) U ∧ va_D (fun _ => True) [(h0, .inr (1, [.null, .null, .null, .null, .long 0, .int 0]))])) (va_Qv (fun _ : Nat → Nat => True) (fun q t => va_P G.1 vwCl [(h0, .inr (1, [.ref (q 1), .ref (q 2), .ref (q 3), .ref (q 4), .long 0, .int 0])), ((q 1), .inl (G.2.2.1 0, 40, .inl (fun _ => 0))), ((q 2), .inl (G.2.2.1 0, 40, .inl (fun _ => 0))), ((q 3), .inl (G.2.2.1 0, 40, .inl (fun _ => 0))), ((q 4), .inl (G.2.2.1 3, 40, .inr (.inl (fun _ => 0))))] t.heap ∧ va_K G.1 vwCl (tysOf G) t ∧ va_D (va_A [(h0, .inr (1, [.null, .null, .null, .null, .long 0, .int 0]))] sz) [(h0, .inr (1, [.ref (q 1), .ref (q 2), .ref (q 3), .ref (q 4), .long 0, .int 0])), ((q 1), .inl (G.2.2.1 0, 40, .inl (fun _ => 0))), ((q 2), .inl (G.2.2.1 0, 40, .inl (fun _ => 0))), ((q 3), .inl (G.2.2.1 0, 40, .inl (fun _ => 0))), ((q 4), .inl (G.2.2.1 3, 40, .inr (.inl (fun _ => 0))))]) (va_A [(h0, .inr (1, [.null, .null, .null, .null, .long 0, .int 0]))] sz)) 4 160 (va_A [(h0, .inr (1, [.null, .null, .null, .null, .long 0, .int 0]))] sz) := by
  refine Met.ofW (cc := cX1_init) (maxL := 1) (ret := none) (by decide) rfl ?_
  intro p e s m args below meth c s₁ B hml hv
  obtain ⟨rfl, hsz, hP, hK, hD0⟩ := hv
  have hx := B.exec
  have hb := B.bytes
  have hr := B.returns
  have hts := atoms_spec (ws := wsX1_init) B.pre
  have hown : s.vm.findClass RX1 = some m.cls := findClass_of_methodNamed B.named
  have hlocks := B.notSynchronized
  have hin : meth.name = "<init>" := (name_of_methodNamed B.named B.method).1
  subst hsz
  have hD := hD0.self (sz := s.heap.size)
  generalize hAe : va_A [(h0, .inr (1, [.null, .null, .null, .null, .long 0, .int 0]))] s.heap.size = A at hD ⊢
  have hA : ∀ q : Nat, s.heap.size ≤ q → A q := fun q h => by rw [← hAe]; exact Or.inr h
  have hS : va_S A s.heap s.heap [] := va_S.rf
  have hP : va_P G.1 vwCl [(h0, .inr (1, [.null, .null, .null, .null, .long 0, .int 0]))] s.heap := hP
  have hl := lv_entry ([.ref h0]) (n := 1) (Nat.le_of_ble_eq_true rfl)
  rw [lg_entry_eq]
  generalize (lg_sl ([.ref h0]) ++ List.replicate (1 - (lg_sl ([.ref h0])).length) Slot.unset).toArray = ls at hl ⊢
  have hl : lv_has ls 1 [(0, .ref h0)] := hl
  refine lv_aload_n hx hb dX1_init_0 rfl (lv_at hl 0 rfl) ?_
  refine W.objInit hx hb hown (hts (.methodLink RX1 1 objectInit) (by decide +kernel)) (hts (.instanceMethod objectInit) (by decide +kernel)) (hts (.code objectInit ⟨#[0xb1]⟩ 1 none) (by decide +kernel)) rfl (by rw [hml]; exact hl.1) rfl dX1_init_1 (Nat.le_of_ble_eq_true rfl) (Nat.le_of_ble_eq_true rfl) ?_
  refine W.eq (g2 := F0 m 4 ls []) rfl ?_
  refine lv_aload_n hx hb dX1_init_4 rfl (lv_at hl 0 rfl) ?_
  refine lv_bipush (v := 40) hx hb dX1_init_5 (by decide) ?_
  refine va_newa (atype := .int) (ty := .int) (N' := 40) (a0 := (40, .inl (fun _ => 0))) hx hb (hts (.arrayClass .int) (by decide +kernel)) rfl hK hP hD hS hA (fun _ => rfl) (by decide) (by decide) (Nat.le_of_ble_eq_true rfl) (Nat.le_of_ble_eq_true rfl) (Nat.le_of_ble_eq_true rfl) dX1_init_7 (fun q1 cA H hK1 hP hD hS => ?_)
  obtain rfl : cA = G.2.2.1 0 := ra_eq (hK1.2 7 _ rfl).2 (hK1.2 0 _ rfl).2
  have hP : va_P G.1 vwCl [(h0, .inr (1, [.null, .null, .null, .null, .long 0, .int 0])), (q1, .inl (G.2.2.1 0, 40, .inl (fun _ => 0)))] H := hP
  have hD : va_D A [(h0, .inr (1, [.null, .null, .null, .null, .long 0, .int 0])), (q1, .inl (G.2.2.1 0, 40, .inl (fun _ => 0)))] := hD
  refine W.widen (k := 1) (n := 40) (Nat.le_of_ble_eq_true rfl) (Nat.le_of_ble_eq_true rfl) ?_
  refine va_putF (D := G.1) (ci := 1) (v := .ref q1) (ty := (.array .int)) (C := RX1) (T := TX1) (N := 6) hx hb hts (by decide +kernel) tyX1 tyX1_ok nmX1 hown hK hP hD hS 0 rfl rfl 0 (by decide) (hts (.fieldLink RX1 9 "PaperWalls$Hours" "tellers" "[I") (by decide +kernel)) (fun _ h9 => h9) rfl hin rfl (by decide +kernel) rfl rfl (Nat.le_of_ble_eq_true rfl) dX1_init_9 (fun H locs hP hD hS => ?_)
  have hP : va_P G.1 vwCl [(h0, .inr (1, [.ref q1, .null, .null, .null, .long 0, .int 0])), (q1, .inl (G.2.2.1 0, 40, .inl (fun _ => 0)))] H := hP
  have hD : va_D A [(h0, .inr (1, [.ref q1, .null, .null, .null, .long 0, .int 0])), (q1, .inl (G.2.2.1 0, 40, .inl (fun _ => 0)))] := hD
  refine lv_aload_n hx hb dX1_init_12 rfl (lv_at hl 0 rfl) ?_
  refine lv_bipush (v := 40) hx hb dX1_init_13 (by decide) ?_
  refine va_newa (atype := .int) (ty := .int) (N' := 40) (a0 := (40, .inl (fun _ => 0))) hx hb (hts (.arrayClass .int) (by decide +kernel)) rfl hK hP hD hS hA (fun _ => rfl) (by decide) (by decide) (Nat.le_of_ble_eq_true rfl) (Nat.le_of_ble_eq_true rfl) (Nat.le_of_ble_eq_true rfl) dX1_init_15 (fun q2 cA H hK1 hP hD hS => ?_)
  obtain rfl : cA = G.2.2.1 0 := ra_eq (hK1.2 7 _ rfl).2 (hK1.2 0 _ rfl).2
  have hP : va_P G.1 vwCl [(h0, .inr (1, [.ref q1, .null, .null, .null, .long 0, .int 0])), (q1, .inl (G.2.2.1 0, 40, .inl (fun _ => 0))), (q2, .inl (G.2.2.1 0, 40, .inl (fun _ => 0)))] H := hP
  have hD : va_D A [(h0, .inr (1, [.ref q1, .null, .null, .null, .long 0, .int 0])), (q1, .inl (G.2.2.1 0, 40, .inl (fun _ => 0))), (q2, .inl (G.2.2.1 0, 40, .inl (fun _ => 0)))] := hD
  refine W.widen (k := 2) (n := 80) (Nat.le_of_ble_eq_true rfl) (Nat.le_of_ble_eq_true rfl) ?_
  refine va_putF (D := G.1) (ci := 1) (v := .ref q2) (ty := (.array .int)) (C := RX1) (T := TX1) (N := 6) hx hb hts (by decide +kernel) tyX1 tyX1_ok nmX1 hown hK hP hD hS 0 rfl rfl 1 (by decide) (hts (.fieldLink RX1 13 "PaperWalls$Hours" "things" "[I") (by decide +kernel)) (fun _ h9 => h9) rfl hin rfl (by decide +kernel) rfl rfl (Nat.le_of_ble_eq_true rfl) dX1_init_17 (fun H locs hP hD hS => ?_)
  have hP : va_P G.1 vwCl [(h0, .inr (1, [.ref q1, .ref q2, .null, .null, .long 0, .int 0])), (q1, .inl (G.2.2.1 0, 40, .inl (fun _ => 0))), (q2, .inl (G.2.2.1 0, 40, .inl (fun _ => 0)))] H := hP
  have hD : va_D A [(h0, .inr (1, [.ref q1, .ref q2, .null, .null, .long 0, .int 0])), (q1, .inl (G.2.2.1 0, 40, .inl (fun _ => 0))), (q2, .inl (G.2.2.1 0, 40, .inl (fun _ => 0)))] := hD
  refine lv_aload_n hx hb dX1_init_20 rfl (lv_at hl 0 rfl) ?_
  refine lv_bipush (v := 40) hx hb dX1_init_21 (by decide) ?_
  refine va_newa (atype := .int) (ty := .int) (N' := 40) (a0 := (40, .inl (fun _ => 0))) hx hb (hts (.arrayClass .int) (by decide +kernel)) rfl hK hP hD hS hA (fun _ => rfl) (by decide) (by decide) (Nat.le_of_ble_eq_true rfl) (Nat.le_of_ble_eq_true rfl) (Nat.le_of_ble_eq_true rfl) dX1_init_23 (fun q3 cA H hK1 hP hD hS => ?_)
  obtain rfl : cA = G.2.2.1 0 := ra_eq (hK1.2 7 _ rfl).2 (hK1.2 0 _ rfl).2
  have hP : va_P G.1 vwCl [(h0, .inr (1, [.ref q1, .ref q2, .null, .null, .long 0, .int 0])), (q1, .inl (G.2.2.1 0, 40, .inl (fun _ => 0))), (q2, .inl (G.2.2.1 0, 40, .inl (fun _ => 0))), (q3, .inl (G.2.2.1 0, 40, .inl (fun _ => 0)))] H := hP
  have hD : va_D A [(h0, .inr (1, [.ref q1, .ref q2, .null, .null, .long 0, .int 0])), (q1, .inl (G.2.2.1 0, 40, .inl (fun _ => 0))), (q2, .inl (G.2.2.1 0, 40, .inl (fun _ => 0))), (q3, .inl (G.2.2.1 0, 40, .inl (fun _ => 0)))] := hD
  refine W.widen (k := 3) (n := 120) (Nat.le_of_ble_eq_true rfl) (Nat.le_of_ble_eq_true rfl) ?_
  refine va_putF (D := G.1) (ci := 1) (v := .ref q3) (ty := (.array .int)) (C := RX1) (T := TX1) (N := 6) hx hb hts (by decide +kernel) tyX1 tyX1_ok nmX1 hown hK hP hD hS 0 rfl rfl 2 (by decide) (hts (.fieldLink RX1 16 "PaperWalls$Hours" "heardBy" "[I") (by decide +kernel)) (fun _ h9 => h9) rfl hin rfl (by decide +kernel) rfl rfl (Nat.le_of_ble_eq_true rfl) dX1_init_25 (fun H locs hP hD hS => ?_)
  have hP : va_P G.1 vwCl [(h0, .inr (1, [.ref q1, .ref q2, .ref q3, .null, .long 0, .int 0])), (q1, .inl (G.2.2.1 0, 40, .inl (fun _ => 0))), (q2, .inl (G.2.2.1 0, 40, .inl (fun _ => 0))), (q3, .inl (G.2.2.1 0, 40, .inl (fun _ => 0)))] H := hP
  have hD : va_D A [(h0, .inr (1, [.ref q1, .ref q2, .ref q3, .null, .long 0, .int 0])), (q1, .inl (G.2.2.1 0, 40, .inl (fun _ => 0))), (q2, .inl (G.2.2.1 0, 40, .inl (fun _ => 0))), (q3, .inl (G.2.2.1 0, 40, .inl (fun _ => 0)))] := hD
  refine lv_aload_n hx hb dX1_init_28 rfl (lv_at hl 0 rfl) ?_
  refine lv_bipush (v := 40) hx hb dX1_init_29 (by decide) ?_
  refine va_newa (atype := .long) (ty := .long) (N' := 40) (a0 := (40, .inr (.inl (fun _ => 0)))) hx hb (hts (.arrayClass .long) (by decide +kernel)) rfl hK hP hD hS hA (fun _ => rfl) (by decide) (by decide) (Nat.le_of_ble_eq_true rfl) (Nat.le_of_ble_eq_true rfl) (Nat.le_of_ble_eq_true rfl) dX1_init_31 (fun q4 cA H hK1 hP hD hS => ?_)
  obtain rfl : cA = G.2.2.1 3 := ra_eq (hK1.2 7 _ rfl).2 (hK1.2 3 _ rfl).2
  have hP : va_P G.1 vwCl [(h0, .inr (1, [.ref q1, .ref q2, .ref q3, .null, .long 0, .int 0])), (q1, .inl (G.2.2.1 0, 40, .inl (fun _ => 0))), (q2, .inl (G.2.2.1 0, 40, .inl (fun _ => 0))), (q3, .inl (G.2.2.1 0, 40, .inl (fun _ => 0))), (q4, .inl (G.2.2.1 3, 40, .inr (.inl (fun _ => 0))))] H := hP
  have hD : va_D A [(h0, .inr (1, [.ref q1, .ref q2, .ref q3, .null, .long 0, .int 0])), (q1, .inl (G.2.2.1 0, 40, .inl (fun _ => 0))), (q2, .inl (G.2.2.1 0, 40, .inl (fun _ => 0))), (q3, .inl (G.2.2.1 0, 40, .inl (fun _ => 0))), (q4, .inl (G.2.2.1 3, 40, .inr (.inl (fun _ => 0))))] := hD
  refine W.widen (k := 4) (n := 160) (Nat.le_of_ble_eq_true rfl) (Nat.le_of_ble_eq_true rfl) ?_
  refine va_putF (D := G.1) (ci := 1) (v := .ref q4) (ty := (.array .long)) (C := RX1) (T := TX1) (N := 6) hx hb hts (by decide +kernel) tyX1 tyX1_ok nmX1 hown hK hP hD hS 0 rfl rfl 3 (by decide) (hts (.fieldLink RX1 19 "PaperWalls$Hours" "ahead" "[J") (by decide +kernel)) (fun _ h9 => h9) rfl hin rfl (by decide +kernel) rfl rfl (Nat.le_of_ble_eq_true rfl) dX1_init_33 (fun H locs hP hD hS => ?_)
  have hP : va_P G.1 vwCl [(h0, .inr (1, [.ref q1, .ref q2, .ref q3, .ref q4, .long 0, .int 0])), (q1, .inl (G.2.2.1 0, 40, .inl (fun _ => 0))), (q2, .inl (G.2.2.1 0, 40, .inl (fun _ => 0))), (q3, .inl (G.2.2.1 0, 40, .inl (fun _ => 0))), (q4, .inl (G.2.2.1 3, 40, .inr (.inl (fun _ => 0))))] H := hP
  have hD : va_D A [(h0, .inr (1, [.ref q1, .ref q2, .ref q3, .ref q4, .long 0, .int 0])), (q1, .inl (G.2.2.1 0, 40, .inl (fun _ => 0))), (q2, .inl (G.2.2.1 0, 40, .inl (fun _ => 0))), (q3, .inl (G.2.2.1 0, 40, .inl (fun _ => 0))), (q4, .inl (G.2.2.1 3, 40, .inr (.inl (fun _ => 0))))] := hD
  have hP9 := hP.sub (ws' := [(h0, .inr (1, [.ref q1, .ref q2, .ref q3, .ref q4, .long 0, .int 0])), (q1, .inl (G.2.2.1 0, 40, .inl (fun _ => 0))), (q2, .inl (G.2.2.1 0, 40, .inl (fun _ => 0))), (q3, .inl (G.2.2.1 0, 40, .inl (fun _ => 0))), (q4, .inl (G.2.2.1 3, 40, .inr (.inl (fun _ => 0))))]) [0, 1, 2, 3, 4] rfl
  have hD9 := hD.sub (ws' := [(h0, .inr (1, [.ref q1, .ref q2, .ref q3, .ref q4, .long 0, .int 0])), (q1, .inl (G.2.2.1 0, 40, .inl (fun _ => 0))), (q2, .inl (G.2.2.1 0, 40, .inl (fun _ => 0))), (q3, .inl (G.2.2.1 0, 40, .inl (fun _ => 0))), (q4, .inl (G.2.2.1 3, 40, .inr (.inl (fun _ => 0))))]) [0, 1, 2, 3, 4] (by decide +kernel) rfl
  exact W.vret hx hb hr (fun t ht hW => ⟨⟨(fun k => ([h0, q1, q2, q3, q4] : List Nat).getD k 0), rfl, trivial, by rw [ht]; exact hP9, va_K.moved hW.alike hK, hD9⟩, hS.F ht⟩) hS.2.2 dX1_init_36
def ri_X6 : Room := { frames := 2, cells := 12, slots := 217, locals := 32 }
set_option maxHeartbeats 40000000 in
set_option maxRecDepth 100000 in
theorem c_X6_init (l : Launch) (G : Gp) (h0 sz : Nat) : Met l yX6_init wsX6_init ri_X6 (va_Pc [.ref h0] (fun U => U.heap.size = sz ∧ va_P G.1 vwCl [(h0, .inr (5, [.null, .null, .null, .null, .null, .null, .null, .null, .int 0, .int 0, .int 0]))] U.heap ∧ va_K G.1 vwCl (tysOf G) U ∧ va_D (fun _ => True) [(h0, .inr (5, [.null, .null, .null, .null, .null, .null, .null, .null, .int 0, .int 0, .int 0]))])) (va_Qv (fun _ : Nat → Nat => True) (fun q t => va_P G.1 vwCl [(h0, .inr (5, [.ref (q 1), .ref (q 2), .ref (q 3), .ref (q 4), .ref (q 5), .ref (q 6), .ref (q 7), .ref (q 8), .int 0, .int 0, .int 0])), ((q 1), .inl (G.2.2.1 0, 6, .inl (fun _ => 0))), ((q 2), .inl (G.2.2.1 0, 7, .inl (fun _ => 0))), ((q 3), .inl (G.2.2.1 0, 7, .inl (fun _ => 0))), ((q 4), .inl (G.2.2.1 0, 7, .inl (fun _ => 0))), ((q 5), .inl (G.2.2.1 0, 8, .inl (fun _ => 0))), ((q 6), .inl (G.2.2.1 0, 8, .inl (fun _ => 0))), ((q 7), .inl (G.2.2.1 0, 8, .inl (fun _ => 0))), ((q 8), .inr (1, [.ref (q 9), .ref (q 10), .ref (q 11), .ref (q 12), .long 0, .int 0])), ((q 9), .inl (G.2.2.1 0, 40, .inl (fun _ => 0))), ((q 10), .inl (G.2.2.1 0, 40, .inl (fun _ => 0))), ((q 11), .inl (G.2.2.1 0, 40, .inl (fun _ => 0))), ((q 12), .inl (G.2.2.1 3, 40, .inr (.inl (fun _ => 0))))] t.heap ∧ va_K G.1 vwCl (tysOf G) t ∧ va_D (va_A [(h0, .inr (5, [.null, .null, .null, .null, .null, .null, .null, .null, .int 0, .int 0, .int 0]))] sz) [(h0, .inr (5, [.ref (q 1), .ref (q 2), .ref (q 3), .ref (q 4), .ref (q 5), .ref (q 6), .ref (q 7), .ref (q 8), .int 0, .int 0, .int 0])), ((q 1), .inl (G.2.2.1 0, 6, .inl (fun _ => 0))), ((q 2), .inl (G.2.2.1 0, 7, .inl (fun _ => 0))), ((q 3), .inl (G.2.2.1 0, 7, .inl (fun _ => 0))), ((q 4), .inl (G.2.2.1 0, 7, .inl (fun _ => 0))), ((q 5), .inl (G.2.2.1 0, 8, .inl (fun _ => 0))), ((q 6), .inl (G.2.2.1 0, 8, .inl (fun _ => 0))), ((q 7), .inl (G.2.2.1 0, 8, .inl (fun _ => 0))), ((q 8), .inr (1, [.ref (q 9), .ref (q 10), .ref (q 11), .ref (q 12), .long 0, .int 0])), ((q 9), .inl (G.2.2.1 0, 40, .inl (fun _ => 0))), ((q 10), .inl (G.2.2.1 0, 40, .inl (fun _ => 0))), ((q 11), .inl (G.2.2.1 0, 40, .inl (fun _ => 0))), ((q 12), .inl (G.2.2.1 3, 40, .inr (.inl (fun _ => 0))))]) (va_A [(h0, .inr (5, [.null, .null, .null, .null, .null, .null, .null, .null, .int 0, .int 0, .int 0]))] sz)) 12 217 (va_A [(h0, .inr (5, [.null, .null, .null, .null, .null, .null, .null, .null, .int 0, .int 0, .int 0]))] sz) := by
  refine Met.ofW (cc := cX6_init) (maxL := 1) (ret := none) (by decide) rfl ?_
  intro p e s m args below meth c s₁ B hml hv
  obtain ⟨rfl, hsz, hP, hK, hD0⟩ := hv
  have hx := B.exec
  have hb := B.bytes
  have hr := B.returns
  have hts := atoms_spec (ws := wsX6_init) B.pre
  have hown : s.vm.findClass RX6 = some m.cls := findClass_of_methodNamed B.named
  have hlocks := B.notSynchronized
  have hin : meth.name = "<init>" := (name_of_methodNamed B.named B.method).1
  subst hsz
  have hD := hD0.self (sz := s.heap.size)
  generalize hAe : va_A [(h0, .inr (5, [.null, .null, .null, .null, .null, .null, .null, .null, .int 0, .int 0, .int 0]))] s.heap.size = A at hD ⊢
  have hA : ∀ q : Nat, s.heap.size ≤ q → A q := fun q h => by rw [← hAe]; exact Or.inr h
  have hS : va_S A s.heap s.heap [] := va_S.rf
  have hP : va_P G.1 vwCl [(h0, .inr (5, [.null, .null, .null, .null, .null, .null, .null, .null, .int 0, .int 0, .int 0]))] s.heap := hP
  have hl := lv_entry ([.ref h0]) (n := 1) (Nat.le_of_ble_eq_true rfl)
  rw [lg_entry_eq]
  generalize (lg_sl ([.ref h0]) ++ List.replicate (1 - (lg_sl ([.ref h0])).length) Slot.unset).toArray = ls at hl ⊢
  have hl : lv_has ls 1 [(0, .ref h0)] := hl
  refine lv_aload_n hx hb dX6_init_0 rfl (lv_at hl 0 rfl) ?_
  refine W.objInit hx hb hown (hts (.methodLink RX6 3 objectInit) (by decide +kernel)) (hts (.instanceMethod objectInit) (by decide +kernel)) (hts (.code objectInit ⟨#[0xb1]⟩ 1 none) (by decide +kernel)) rfl (by rw [hml]; exact hl.1) rfl dX6_init_1 (Nat.le_of_ble_eq_true rfl) (Nat.le_of_ble_eq_true rfl) ?_
  refine W.eq (g2 := F0 m 4 ls []) rfl ?_
  refine lv_aload_n hx hb dX6_init_4 rfl (lv_at hl 0 rfl) ?_
  refine lv_bipush (v := 6) hx hb dX6_init_5 (by decide) ?_
  refine va_newa (atype := .int) (ty := .int) (N' := 6) (a0 := (6, .inl (fun _ => 0))) hx hb (hts (.arrayClass .int) (by decide +kernel)) rfl hK hP hD hS hA (fun _ => rfl) (by decide) (by decide) (Nat.le_of_ble_eq_true rfl) (Nat.le_of_ble_eq_true rfl) (Nat.le_of_ble_eq_true rfl) dX6_init_7 (fun q1 cA H hK1 hP hD hS => ?_)
  obtain rfl : cA = G.2.2.1 0 := ra_eq (hK1.2 7 _ rfl).2 (hK1.2 0 _ rfl).2
  have hP : va_P G.1 vwCl [(h0, .inr (5, [.null, .null, .null, .null, .null, .null, .null, .null, .int 0, .int 0, .int 0])), (q1, .inl (G.2.2.1 0, 6, .inl (fun _ => 0)))] H := hP
  have hD : va_D A [(h0, .inr (5, [.null, .null, .null, .null, .null, .null, .null, .null, .int 0, .int 0, .int 0])), (q1, .inl (G.2.2.1 0, 6, .inl (fun _ => 0)))] := hD
  refine W.widen (k := 1) (n := 6) (Nat.le_of_ble_eq_true rfl) (Nat.le_of_ble_eq_true rfl) ?_
  refine va_putF (D := G.1) (ci := 5) (v := .ref q1) (ty := (.array .int)) (C := RX6) (T := TX6) (N := 11) hx hb hts (by decide +kernel) tyX6 tyX6_ok nmX6 hown hK hP hD hS 0 rfl rfl 0 (by decide) (hts (.fieldLink RX6 11 "PaperWalls$Street" "layers" "[I") (by decide +kernel)) (fun _ h9 => h9) rfl hin rfl (by decide +kernel) rfl rfl (Nat.le_of_ble_eq_true rfl) dX6_init_9 (fun H locs hP hD hS => ?_)
  have hP : va_P G.1 vwCl [(h0, .inr (5, [.ref q1, .null, .null, .null, .null, .null, .null, .null, .int 0, .int 0, .int 0])), (q1, .inl (G.2.2.1 0, 6, .inl (fun _ => 0)))] H := hP
  have hD : va_D A [(h0, .inr (5, [.ref q1, .null, .null, .null, .null, .null, .null, .null, .int 0, .int 0, .int 0])), (q1, .inl (G.2.2.1 0, 6, .inl (fun _ => 0)))] := hD
  refine lv_aload_n hx hb dX6_init_12 rfl (lv_at hl 0 rfl) ?_
  refine lv_bipush (v := 7) hx hb dX6_init_13 (by decide) ?_
  refine va_newa (atype := .int) (ty := .int) (N' := 7) (a0 := (7, .inl (fun _ => 0))) hx hb (hts (.arrayClass .int) (by decide +kernel)) rfl hK hP hD hS hA (fun _ => rfl) (by decide) (by decide) (Nat.le_of_ble_eq_true rfl) (Nat.le_of_ble_eq_true rfl) (Nat.le_of_ble_eq_true rfl) dX6_init_15 (fun q2 cA H hK1 hP hD hS => ?_)
  obtain rfl : cA = G.2.2.1 0 := ra_eq (hK1.2 7 _ rfl).2 (hK1.2 0 _ rfl).2
  have hP : va_P G.1 vwCl [(h0, .inr (5, [.ref q1, .null, .null, .null, .null, .null, .null, .null, .int 0, .int 0, .int 0])), (q1, .inl (G.2.2.1 0, 6, .inl (fun _ => 0))), (q2, .inl (G.2.2.1 0, 7, .inl (fun _ => 0)))] H := hP
  have hD : va_D A [(h0, .inr (5, [.ref q1, .null, .null, .null, .null, .null, .null, .null, .int 0, .int 0, .int 0])), (q1, .inl (G.2.2.1 0, 6, .inl (fun _ => 0))), (q2, .inl (G.2.2.1 0, 7, .inl (fun _ => 0)))] := hD
  refine W.widen (k := 2) (n := 13) (Nat.le_of_ble_eq_true rfl) (Nat.le_of_ble_eq_true rfl) ?_
  refine va_putF (D := G.1) (ci := 5) (v := .ref q2) (ty := (.array .int)) (C := RX6) (T := TX6) (N := 11) hx hb hts (by decide +kernel) tyX6 tyX6_ok nmX6 hown hK hP hD hS 0 rfl rfl 1 (by decide) (hts (.fieldLink RX6 15 "PaperWalls$Street" "depth" "[I") (by decide +kernel)) (fun _ h9 => h9) rfl hin rfl (by decide +kernel) rfl rfl (Nat.le_of_ble_eq_true rfl) dX6_init_17 (fun H locs hP hD hS => ?_)
  have hP : va_P G.1 vwCl [(h0, .inr (5, [.ref q1, .ref q2, .null, .null, .null, .null, .null, .null, .int 0, .int 0, .int 0])), (q1, .inl (G.2.2.1 0, 6, .inl (fun _ => 0))), (q2, .inl (G.2.2.1 0, 7, .inl (fun _ => 0)))] H := hP
  have hD : va_D A [(h0, .inr (5, [.ref q1, .ref q2, .null, .null, .null, .null, .null, .null, .int 0, .int 0, .int 0])), (q1, .inl (G.2.2.1 0, 6, .inl (fun _ => 0))), (q2, .inl (G.2.2.1 0, 7, .inl (fun _ => 0)))] := hD
  refine lv_aload_n hx hb dX6_init_20 rfl (lv_at hl 0 rfl) ?_
  refine lv_bipush (v := 7) hx hb dX6_init_21 (by decide) ?_
  refine va_newa (atype := .int) (ty := .int) (N' := 7) (a0 := (7, .inl (fun _ => 0))) hx hb (hts (.arrayClass .int) (by decide +kernel)) rfl hK hP hD hS hA (fun _ => rfl) (by decide) (by decide) (Nat.le_of_ble_eq_true rfl) (Nat.le_of_ble_eq_true rfl) (Nat.le_of_ble_eq_true rfl) dX6_init_23 (fun q3 cA H hK1 hP hD hS => ?_)
  obtain rfl : cA = G.2.2.1 0 := ra_eq (hK1.2 7 _ rfl).2 (hK1.2 0 _ rfl).2
  have hP : va_P G.1 vwCl [(h0, .inr (5, [.ref q1, .ref q2, .null, .null, .null, .null, .null, .null, .int 0, .int 0, .int 0])), (q1, .inl (G.2.2.1 0, 6, .inl (fun _ => 0))), (q2, .inl (G.2.2.1 0, 7, .inl (fun _ => 0))), (q3, .inl (G.2.2.1 0, 7, .inl (fun _ => 0)))] H := hP
  have hD : va_D A [(h0, .inr (5, [.ref q1, .ref q2, .null, .null, .null, .null, .null, .null, .int 0, .int 0, .int 0])), (q1, .inl (G.2.2.1 0, 6, .inl (fun _ => 0))), (q2, .inl (G.2.2.1 0, 7, .inl (fun _ => 0))), (q3, .inl (G.2.2.1 0, 7, .inl (fun _ => 0)))] := hD
  refine W.widen (k := 3) (n := 20) (Nat.le_of_ble_eq_true rfl) (Nat.le_of_ble_eq_true rfl) ?_
  refine va_putF (D := G.1) (ci := 5) (v := .ref q3) (ty := (.array .int)) (C := RX6) (T := TX6) (N := 11) hx hb hts (by decide +kernel) tyX6 tyX6_ok nmX6 hown hK hP hD hS 0 rfl rfl 2 (by decide) (hts (.fieldLink RX6 18 "PaperWalls$Street" "kinds" "[I") (by decide +kernel)) (fun _ h9 => h9) rfl hin rfl (by decide +kernel) rfl rfl (Nat.le_of_ble_eq_true rfl) dX6_init_25 (fun H locs hP hD hS => ?_)
  have hP : va_P G.1 vwCl [(h0, .inr (5, [.ref q1, .ref q2, .ref q3, .null, .null, .null, .null, .null, .int 0, .int 0, .int 0])), (q1, .inl (G.2.2.1 0, 6, .inl (fun _ => 0))), (q2, .inl (G.2.2.1 0, 7, .inl (fun _ => 0))), (q3, .inl (G.2.2.1 0, 7, .inl (fun _ => 0)))] H := hP
  have hD : va_D A [(h0, .inr (5, [.ref q1, .ref q2, .ref q3, .null, .null, .null, .null, .null, .int 0, .int 0, .int 0])), (q1, .inl (G.2.2.1 0, 6, .inl (fun _ => 0))), (q2, .inl (G.2.2.1 0, 7, .inl (fun _ => 0))), (q3, .inl (G.2.2.1 0, 7, .inl (fun _ => 0)))] := hD
  refine lv_aload_n hx hb dX6_init_28 rfl (lv_at hl 0 rfl) ?_
  refine lv_bipush (v := 7) hx hb dX6_init_29 (by decide) ?_
  refine va_newa (atype := .int) (ty := .int) (N' := 7) (a0 := (7, .inl (fun _ => 0))) hx hb (hts (.arrayClass .int) (by decide +kernel)) rfl hK hP hD hS hA (fun _ => rfl) (by decide) (by decide) (Nat.le_of_ble_eq_true rfl) (Nat.le_of_ble_eq_true rfl) (Nat.le_of_ble_eq_true rfl) dX6_init_31 (fun q4 cA H hK1 hP hD hS => ?_)
  obtain rfl : cA = G.2.2.1 0 := ra_eq (hK1.2 7 _ rfl).2 (hK1.2 0 _ rfl).2
  have hP : va_P G.1 vwCl [(h0, .inr (5, [.ref q1, .ref q2, .ref q3, .null, .null, .null, .null, .null, .int 0, .int 0, .int 0])), (q1, .inl (G.2.2.1 0, 6, .inl (fun _ => 0))), (q2, .inl (G.2.2.1 0, 7, .inl (fun _ => 0))), (q3, .inl (G.2.2.1 0, 7, .inl (fun _ => 0))), (q4, .inl (G.2.2.1 0, 7, .inl (fun _ => 0)))] H := hP
  have hD : va_D A [(h0, .inr (5, [.ref q1, .ref q2, .ref q3, .null, .null, .null, .null, .null, .int 0, .int 0, .int 0])), (q1, .inl (G.2.2.1 0, 6, .inl (fun _ => 0))), (q2, .inl (G.2.2.1 0, 7, .inl (fun _ => 0))), (q3, .inl (G.2.2.1 0, 7, .inl (fun _ => 0))), (q4, .inl (G.2.2.1 0, 7, .inl (fun _ => 0)))] := hD
  refine W.widen (k := 4) (n := 27) (Nat.le_of_ble_eq_true rfl) (Nat.le_of_ble_eq_true rfl) ?_
  refine va_putF (D := G.1) (ci := 5) (v := .ref q4) (ty := (.array .int)) (C := RX6) (T := TX6) (N := 11) hx hb hts (by decide +kernel) tyX6 tyX6_ok nmX6 hown hK hP hD hS 0 rfl rfl 3 (by decide) (hts (.fieldLink RX6 21 "PaperWalls$Street" "rooms" "[I") (by decide +kernel)) (fun _ h9 => h9) rfl hin rfl (by decide +kernel) rfl rfl (Nat.le_of_ble_eq_true rfl) dX6_init_33 (fun H locs hP hD hS => ?_)
  have hP : va_P G.1 vwCl [(h0, .inr (5, [.ref q1, .ref q2, .ref q3, .ref q4, .null, .null, .null, .null, .int 0, .int 0, .int 0])), (q1, .inl (G.2.2.1 0, 6, .inl (fun _ => 0))), (q2, .inl (G.2.2.1 0, 7, .inl (fun _ => 0))), (q3, .inl (G.2.2.1 0, 7, .inl (fun _ => 0))), (q4, .inl (G.2.2.1 0, 7, .inl (fun _ => 0)))] H := hP
  have hD : va_D A [(h0, .inr (5, [.ref q1, .ref q2, .ref q3, .ref q4, .null, .null, .null, .null, .int 0, .int 0, .int 0])), (q1, .inl (G.2.2.1 0, 6, .inl (fun _ => 0))), (q2, .inl (G.2.2.1 0, 7, .inl (fun _ => 0))), (q3, .inl (G.2.2.1 0, 7, .inl (fun _ => 0))), (q4, .inl (G.2.2.1 0, 7, .inl (fun _ => 0)))] := hD
  refine lv_aload_n hx hb dX6_init_36 rfl (lv_at hl 0 rfl) ?_
  refine lv_bipush (v := 8) hx hb dX6_init_37 (by decide) ?_
  refine va_newa (atype := .int) (ty := .int) (N' := 8) (a0 := (8, .inl (fun _ => 0))) hx hb (hts (.arrayClass .int) (by decide +kernel)) rfl hK hP hD hS hA (fun _ => rfl) (by decide) (by decide) (Nat.le_of_ble_eq_true rfl) (Nat.le_of_ble_eq_true rfl) (Nat.le_of_ble_eq_true rfl) dX6_init_39 (fun q5 cA H hK1 hP hD hS => ?_)
  obtain rfl : cA = G.2.2.1 0 := ra_eq (hK1.2 7 _ rfl).2 (hK1.2 0 _ rfl).2
  have hP : va_P G.1 vwCl [(h0, .inr (5, [.ref q1, .ref q2, .ref q3, .ref q4, .null, .null, .null, .null, .int 0, .int 0, .int 0])), (q1, .inl (G.2.2.1 0, 6, .inl (fun _ => 0))), (q2, .inl (G.2.2.1 0, 7, .inl (fun _ => 0))), (q3, .inl (G.2.2.1 0, 7, .inl (fun _ => 0))), (q4, .inl (G.2.2.1 0, 7, .inl (fun _ => 0))), (q5, .inl (G.2.2.1 0, 8, .inl (fun _ => 0)))] H := hP
  have hD : va_D A [(h0, .inr (5, [.ref q1, .ref q2, .ref q3, .ref q4, .null, .null, .null, .null, .int 0, .int 0, .int 0])), (q1, .inl (G.2.2.1 0, 6, .inl (fun _ => 0))), (q2, .inl (G.2.2.1 0, 7, .inl (fun _ => 0))), (q3, .inl (G.2.2.1 0, 7, .inl (fun _ => 0))), (q4, .inl (G.2.2.1 0, 7, .inl (fun _ => 0))), (q5, .inl (G.2.2.1 0, 8, .inl (fun _ => 0)))] := hD
  refine W.widen (k := 5) (n := 35) (Nat.le_of_ble_eq_true rfl) (Nat.le_of_ble_eq_true rfl) ?_
  refine va_putF (D := G.1) (ci := 5) (v := .ref q5) (ty := (.array .int)) (C := RX6) (T := TX6) (N := 11) hx hb hts (by decide +kernel) tyX6 tyX6_ok nmX6 hown hK hP hD hS 0 rfl rfl 4 (by decide) (hts (.fieldLink RX6 24 "PaperWalls$Street" "speaker" "[I") (by decide +kernel)) (fun _ h9 => h9) rfl hin rfl (by decide +kernel) rfl rfl (Nat.le_of_ble_eq_true rfl) dX6_init_41 (fun H locs hP hD hS => ?_)
  have hP : va_P G.1 vwCl [(h0, .inr (5, [.ref q1, .ref q2, .ref q3, .ref q4, .ref q5, .null, .null, .null, .int 0, .int 0, .int 0])), (q1, .inl (G.2.2.1 0, 6, .inl (fun _ => 0))), (q2, .inl (G.2.2.1 0, 7, .inl (fun _ => 0))), (q3, .inl (G.2.2.1 0, 7, .inl (fun _ => 0))), (q4, .inl (G.2.2.1 0, 7, .inl (fun _ => 0))), (q5, .inl (G.2.2.1 0, 8, .inl (fun _ => 0)))] H := hP
  have hD : va_D A [(h0, .inr (5, [.ref q1, .ref q2, .ref q3, .ref q4, .ref q5, .null, .null, .null, .int 0, .int 0, .int 0])), (q1, .inl (G.2.2.1 0, 6, .inl (fun _ => 0))), (q2, .inl (G.2.2.1 0, 7, .inl (fun _ => 0))), (q3, .inl (G.2.2.1 0, 7, .inl (fun _ => 0))), (q4, .inl (G.2.2.1 0, 7, .inl (fun _ => 0))), (q5, .inl (G.2.2.1 0, 8, .inl (fun _ => 0)))] := hD
  refine lv_aload_n hx hb dX6_init_44 rfl (lv_at hl 0 rfl) ?_
  refine lv_bipush (v := 8) hx hb dX6_init_45 (by decide) ?_
  refine va_newa (atype := .int) (ty := .int) (N' := 8) (a0 := (8, .inl (fun _ => 0))) hx hb (hts (.arrayClass .int) (by decide +kernel)) rfl hK hP hD hS hA (fun _ => rfl) (by decide) (by decide) (Nat.le_of_ble_eq_true rfl) (Nat.le_of_ble_eq_true rfl) (Nat.le_of_ble_eq_true rfl) dX6_init_47 (fun q6 cA H hK1 hP hD hS => ?_)
  obtain rfl : cA = G.2.2.1 0 := ra_eq (hK1.2 7 _ rfl).2 (hK1.2 0 _ rfl).2
  have hP : va_P G.1 vwCl [(h0, .inr (5, [.ref q1, .ref q2, .ref q3, .ref q4, .ref q5, .null, .null, .null, .int 0, .int 0, .int 0])), (q1, .inl (G.2.2.1 0, 6, .inl (fun _ => 0))), (q2, .inl (G.2.2.1 0, 7, .inl (fun _ => 0))), (q3, .inl (G.2.2.1 0, 7, .inl (fun _ => 0))), (q4, .inl (G.2.2.1 0, 7, .inl (fun _ => 0))), (q5, .inl (G.2.2.1 0, 8, .inl (fun _ => 0))), (q6, .inl (G.2.2.1 0, 8, .inl (fun _ => 0)))] H := hP
  have hD : va_D A [(h0, .inr (5, [.ref q1, .ref q2, .ref q3, .ref q4, .ref q5, .null, .null, .null, .int 0, .int 0, .int 0])), (q1, .inl (G.2.2.1 0, 6, .inl (fun _ => 0))), (q2, .inl (G.2.2.1 0, 7, .inl (fun _ => 0))), (q3, .inl (G.2.2.1 0, 7, .inl (fun _ => 0))), (q4, .inl (G.2.2.1 0, 7, .inl (fun _ => 0))), (q5, .inl (G.2.2.1 0, 8, .inl (fun _ => 0))), (q6, .inl (G.2.2.1 0, 8, .inl (fun _ => 0)))] := hD
  refine W.widen (k := 6) (n := 43) (Nat.le_of_ble_eq_true rfl) (Nat.le_of_ble_eq_true rfl) ?_
  refine va_putF (D := G.1) (ci := 5) (v := .ref q6) (ty := (.array .int)) (C := RX6) (T := TX6) (N := 11) hx hb hts (by decide +kernel) tyX6 tyX6_ok nmX6 hown hK hP hD hS 0 rfl rfl 5 (by decide) (hts (.fieldLink RX6 27 "PaperWalls$Street" "hearer" "[I") (by decide +kernel)) (fun _ h9 => h9) rfl hin rfl (by decide +kernel) rfl rfl (Nat.le_of_ble_eq_true rfl) dX6_init_49 (fun H locs hP hD hS => ?_)
  have hP : va_P G.1 vwCl [(h0, .inr (5, [.ref q1, .ref q2, .ref q3, .ref q4, .ref q5, .ref q6, .null, .null, .int 0, .int 0, .int 0])), (q1, .inl (G.2.2.1 0, 6, .inl (fun _ => 0))), (q2, .inl (G.2.2.1 0, 7, .inl (fun _ => 0))), (q3, .inl (G.2.2.1 0, 7, .inl (fun _ => 0))), (q4, .inl (G.2.2.1 0, 7, .inl (fun _ => 0))), (q5, .inl (G.2.2.1 0, 8, .inl (fun _ => 0))), (q6, .inl (G.2.2.1 0, 8, .inl (fun _ => 0)))] H := hP
  have hD : va_D A [(h0, .inr (5, [.ref q1, .ref q2, .ref q3, .ref q4, .ref q5, .ref q6, .null, .null, .int 0, .int 0, .int 0])), (q1, .inl (G.2.2.1 0, 6, .inl (fun _ => 0))), (q2, .inl (G.2.2.1 0, 7, .inl (fun _ => 0))), (q3, .inl (G.2.2.1 0, 7, .inl (fun _ => 0))), (q4, .inl (G.2.2.1 0, 7, .inl (fun _ => 0))), (q5, .inl (G.2.2.1 0, 8, .inl (fun _ => 0))), (q6, .inl (G.2.2.1 0, 8, .inl (fun _ => 0)))] := hD
  refine lv_aload_n hx hb dX6_init_52 rfl (lv_at hl 0 rfl) ?_
  refine lv_bipush (v := 8) hx hb dX6_init_53 (by decide) ?_
  refine va_newa (atype := .int) (ty := .int) (N' := 8) (a0 := (8, .inl (fun _ => 0))) hx hb (hts (.arrayClass .int) (by decide +kernel)) rfl hK hP hD hS hA (fun _ => rfl) (by decide) (by decide) (Nat.le_of_ble_eq_true rfl) (Nat.le_of_ble_eq_true rfl) (Nat.le_of_ble_eq_true rfl) dX6_init_55 (fun q7 cA H hK1 hP hD hS => ?_)
  obtain rfl : cA = G.2.2.1 0 := ra_eq (hK1.2 7 _ rfl).2 (hK1.2 0 _ rfl).2
  have hP : va_P G.1 vwCl [(h0, .inr (5, [.ref q1, .ref q2, .ref q3, .ref q4, .ref q5, .ref q6, .null, .null, .int 0, .int 0, .int 0])), (q1, .inl (G.2.2.1 0, 6, .inl (fun _ => 0))), (q2, .inl (G.2.2.1 0, 7, .inl (fun _ => 0))), (q3, .inl (G.2.2.1 0, 7, .inl (fun _ => 0))), (q4, .inl (G.2.2.1 0, 7, .inl (fun _ => 0))), (q5, .inl (G.2.2.1 0, 8, .inl (fun _ => 0))), (q6, .inl (G.2.2.1 0, 8, .inl (fun _ => 0))), (q7, .inl (G.2.2.1 0, 8, .inl (fun _ => 0)))] H := hP
  have hD : va_D A [(h0, .inr (5, [.ref q1, .ref q2, .ref q3, .ref q4, .ref q5, .ref q6, .null, .null, .int 0, .int 0, .int 0])), (q1, .inl (G.2.2.1 0, 6, .inl (fun _ => 0))), (q2, .inl (G.2.2.1 0, 7, .inl (fun _ => 0))), (q3, .inl (G.2.2.1 0, 7, .inl (fun _ => 0))), (q4, .inl (G.2.2.1 0, 7, .inl (fun _ => 0))), (q5, .inl (G.2.2.1 0, 8, .inl (fun _ => 0))), (q6, .inl (G.2.2.1 0, 8, .inl (fun _ => 0))), (q7, .inl (G.2.2.1 0, 8, .inl (fun _ => 0)))] := hD
  refine W.widen (k := 7) (n := 51) (Nat.le_of_ble_eq_true rfl) (Nat.le_of_ble_eq_true rfl) ?_
  refine va_putF (D := G.1) (ci := 5) (v := .ref q7) (ty := (.array .int)) (C := RX6) (T := TX6) (N := 11) hx hb hts (by decide +kernel) tyX6 tyX6_ok nmX6 hown hK hP hD hS 0 rfl rfl 6 (by decide) (hts (.fieldLink RX6 30 "PaperWalls$Street" "barred" "[I") (by decide +kernel)) (fun _ h9 => h9) rfl hin rfl (by decide +kernel) rfl rfl (Nat.le_of_ble_eq_true rfl) dX6_init_57 (fun H locs hP hD hS => ?_)
  have hP : va_P G.1 vwCl [(h0, .inr (5, [.ref q1, .ref q2, .ref q3, .ref q4, .ref q5, .ref q6, .ref q7, .null, .int 0, .int 0, .int 0])), (q1, .inl (G.2.2.1 0, 6, .inl (fun _ => 0))), (q2, .inl (G.2.2.1 0, 7, .inl (fun _ => 0))), (q3, .inl (G.2.2.1 0, 7, .inl (fun _ => 0))), (q4, .inl (G.2.2.1 0, 7, .inl (fun _ => 0))), (q5, .inl (G.2.2.1 0, 8, .inl (fun _ => 0))), (q6, .inl (G.2.2.1 0, 8, .inl (fun _ => 0))), (q7, .inl (G.2.2.1 0, 8, .inl (fun _ => 0)))] H := hP
  have hD : va_D A [(h0, .inr (5, [.ref q1, .ref q2, .ref q3, .ref q4, .ref q5, .ref q6, .ref q7, .null, .int 0, .int 0, .int 0])), (q1, .inl (G.2.2.1 0, 6, .inl (fun _ => 0))), (q2, .inl (G.2.2.1 0, 7, .inl (fun _ => 0))), (q3, .inl (G.2.2.1 0, 7, .inl (fun _ => 0))), (q4, .inl (G.2.2.1 0, 7, .inl (fun _ => 0))), (q5, .inl (G.2.2.1 0, 8, .inl (fun _ => 0))), (q6, .inl (G.2.2.1 0, 8, .inl (fun _ => 0))), (q7, .inl (G.2.2.1 0, 8, .inl (fun _ => 0)))] := hD
  refine lv_aload_n hx hb dX6_init_60 rfl (lv_at hl 0 rfl) ?_
  refine va_new (ci := 1) (fs := [.null, .null, .null, .null, .long 0, .int 0]) (C := RX1) (T := TX1) (N := 6) hx hb hts (by decide +kernel) tyX1 tyX1_ok hown (hts (.classLink RX6 33 RX1) (by decide +kernel)) (hts (.instantiable RX1 6) (by decide +kernel)) (hts (.initialized RX1) (by decide +kernel)) hK hP hD hS hA rfl (fun j hj => by rcases (show j = 0 ∨ j = 1 ∨ j = 2 ∨ j = 3 ∨ j = 4 ∨ j = 5 by omega) with rfl | rfl | rfl | rfl | rfl | rfl <;> rfl) (Nat.le_of_ble_eq_true rfl) (Nat.le_of_ble_eq_true rfl) dX6_init_61 (fun q8 H hP hD hS => ?_)
  have hP : va_P G.1 vwCl [(h0, .inr (5, [.ref q1, .ref q2, .ref q3, .ref q4, .ref q5, .ref q6, .ref q7, .null, .int 0, .int 0, .int 0])), (q1, .inl (G.2.2.1 0, 6, .inl (fun _ => 0))), (q2, .inl (G.2.2.1 0, 7, .inl (fun _ => 0))), (q3, .inl (G.2.2.1 0, 7, .inl (fun _ => 0))), (q4, .inl (G.2.2.1 0, 7, .inl (fun _ => 0))), (q5, .inl (G.2.2.1 0, 8, .inl (fun _ => 0))), (q6, .inl (G.2.2.1 0, 8, .inl (fun _ => 0))), (q7, .inl (G.2.2.1 0, 8, .inl (fun _ => 0))), (q8, .inr (1, [.null, .null, .null, .null, .long 0, .int 0]))] H := hP
  have hD : va_D A [(h0, .inr (5, [.ref q1, .ref q2, .ref q3, .ref q4, .ref q5, .ref q6, .ref q7, .null, .int 0, .int 0, .int 0])), (q1, .inl (G.2.2.1 0, 6, .inl (fun _ => 0))), (q2, .inl (G.2.2.1 0, 7, .inl (fun _ => 0))), (q3, .inl (G.2.2.1 0, 7, .inl (fun _ => 0))), (q4, .inl (G.2.2.1 0, 7, .inl (fun _ => 0))), (q5, .inl (G.2.2.1 0, 8, .inl (fun _ => 0))), (q6, .inl (G.2.2.1 0, 8, .inl (fun _ => 0))), (q7, .inl (G.2.2.1 0, 8, .inl (fun _ => 0))), (q8, .inr (1, [.null, .null, .null, .null, .long 0, .int 0]))] := hD
  refine W.widen (k := 8) (n := 57) (Nat.le_of_ble_eq_true rfl) (Nat.le_of_ble_eq_true rfl) ?_
  refine lv_dup hx hb dX6_init_64 rfl ?_
  have hPc := hP.sub (ws' := [(q8, .inr (1, [.null, .null, .null, .null, .long 0, .int 0]))]) [8] rfl
  have hDc := hD.sub (ws' := [(q8, .inr (1, [.null, .null, .null, .null, .long 0, .int 0]))]) [8] (by decide) rfl
  have hFc := va_free (wc := [(q8, .inr (1, [.null, .null, .null, .null, .long 0, .int 0]))]) hD hS hA [8] rfl
  refine va_callv (va_runI (As := []) (rest := [.ref q8, .ref h0]) ⟨hx, hb, hml, hown, hts⟩ (c_X1_init l G q8 H.size) (cwI 0 hts gX6_init_X1_init rfl rfl rfl (hts (.initialized RX1) (by decide +kernel)) (hts (.methodLink RX6 35 yX1_init) (by decide +kernel)) (hts (.instanceMethod yX1_init) (by decide +kernel)) rfl (by decide +kernel) ⟨Nat.le_of_ble_eq_true rfl, Nat.le_of_ble_eq_true rfl⟩) ⟨init_blind, fun U hU hW => ⟨rfl, by rw [hU], by rw [hU]; exact hPc, va_K.moved hW.alike hK, hDc.weaken (fun _ _ _ _ => trivial)⟩⟩ rfl rfl hl.1 rfl (lv_room (Nat.le_of_ble_eq_true rfl)) dX6_init_65 ⟨Nat.le_of_ble_eq_true rfl, Nat.le_of_ble_eq_true rfl⟩) hS (fun q _ h => hFc q h) hFc (fun q9 t H1 locs ht hvm hw hB hz1 hk1 hS => ?_)
  obtain ⟨hP1, hK1, hD1⟩ := hB
  rw [ht] at hP1
  obtain ⟨hP, hD⟩ := va_join (wr := [(h0, .inr (5, [.ref q1, .ref q2, .ref q3, .ref q4, .ref q5, .ref q6, .ref q7, .null, .int 0, .int 0, .int 0])), (q1, .inl (G.2.2.1 0, 6, .inl (fun _ => 0))), (q2, .inl (G.2.2.1 0, 7, .inl (fun _ => 0))), (q3, .inl (G.2.2.1 0, 7, .inl (fun _ => 0))), (q4, .inl (G.2.2.1 0, 7, .inl (fun _ => 0))), (q5, .inl (G.2.2.1 0, 8, .inl (fun _ => 0))), (q6, .inl (G.2.2.1 0, 8, .inl (fun _ => 0))), (q7, .inl (G.2.2.1 0, 8, .inl (fun _ => 0)))]) (w1 := [(q8, .inr (1, [.ref (q9 1), .ref (q9 2), .ref (q9 3), .ref (q9 4), .long 0, .int 0])), ((q9 1), .inl (G.2.2.1 0, 40, .inl (fun _ => 0))), ((q9 2), .inl (G.2.2.1 0, 40, .inl (fun _ => 0))), ((q9 3), .inl (G.2.2.1 0, 40, .inl (fun _ => 0))), ((q9 4), .inl (G.2.2.1 3, 40, .inr (.inl (fun _ => 0))))]) hP hD [8] [0, 1, 2, 3, 4, 5, 6, 7] rfl rfl (by decide +kernel) (by decide +kernel) hk1 hFc hP1 hD1
  generalize H1 = H at hP hS ⊢
  have hP : va_P G.1 vwCl [(h0, .inr (5, [.ref q1, .ref q2, .ref q3, .ref q4, .ref q5, .ref q6, .ref q7, .null, .int 0, .int 0, .int 0])), (q1, .inl (G.2.2.1 0, 6, .inl (fun _ => 0))), (q2, .inl (G.2.2.1 0, 7, .inl (fun _ => 0))), (q3, .inl (G.2.2.1 0, 7, .inl (fun _ => 0))), (q4, .inl (G.2.2.1 0, 7, .inl (fun _ => 0))), (q5, .inl (G.2.2.1 0, 8, .inl (fun _ => 0))), (q6, .inl (G.2.2.1 0, 8, .inl (fun _ => 0))), (q7, .inl (G.2.2.1 0, 8, .inl (fun _ => 0))), (q8, .inr (1, [.ref (q9 1), .ref (q9 2), .ref (q9 3), .ref (q9 4), .long 0, .int 0])), ((q9 1), .inl (G.2.2.1 0, 40, .inl (fun _ => 0))), ((q9 2), .inl (G.2.2.1 0, 40, .inl (fun _ => 0))), ((q9 3), .inl (G.2.2.1 0, 40, .inl (fun _ => 0))), ((q9 4), .inl (G.2.2.1 3, 40, .inr (.inl (fun _ => 0))))] H := hP
  have hD : va_D A [(h0, .inr (5, [.ref q1, .ref q2, .ref q3, .ref q4, .ref q5, .ref q6, .ref q7, .null, .int 0, .int 0, .int 0])), (q1, .inl (G.2.2.1 0, 6, .inl (fun _ => 0))), (q2, .inl (G.2.2.1 0, 7, .inl (fun _ => 0))), (q3, .inl (G.2.2.1 0, 7, .inl (fun _ => 0))), (q4, .inl (G.2.2.1 0, 7, .inl (fun _ => 0))), (q5, .inl (G.2.2.1 0, 8, .inl (fun _ => 0))), (q6, .inl (G.2.2.1 0, 8, .inl (fun _ => 0))), (q7, .inl (G.2.2.1 0, 8, .inl (fun _ => 0))), (q8, .inr (1, [.ref (q9 1), .ref (q9 2), .ref (q9 3), .ref (q9 4), .long 0, .int 0])), ((q9 1), .inl (G.2.2.1 0, 40, .inl (fun _ => 0))), ((q9 2), .inl (G.2.2.1 0, 40, .inl (fun _ => 0))), ((q9 3), .inl (G.2.2.1 0, 40, .inl (fun _ => 0))), ((q9 4), .inl (G.2.2.1 3, 40, .inr (.inl (fun _ => 0))))] := hD
  refine W.widen (k := 12) (n := 217) (Nat.le_of_ble_eq_true rfl) (Nat.le_of_ble_eq_true rfl) ?_
  refine va_putF (D := G.1) (ci := 5) (v := .ref q8) (ty := (.object "PaperWalls$Hours")) (C := RX6) (T := TX6) (N := 11) hx hb hts (by decide +kernel) tyX6 tyX6_ok nmX6 hown hK hP hD hS 0 rfl rfl 7 (by decide) (hts (.fieldLink RX6 36 "PaperWalls$Street" "hours" "LPaperWalls$Hours;") (by decide +kernel)) (fun _ h9 => h9) rfl hin rfl (by decide +kernel) rfl rfl (Nat.le_of_ble_eq_true rfl) dX6_init_68 (fun H locs hP hD hS => ?_)
  have hP : va_P G.1 vwCl [(h0, .inr (5, [.ref q1, .ref q2, .ref q3, .ref q4, .ref q5, .ref q6, .ref q7, .ref q8, .int 0, .int 0, .int 0])), (q1, .inl (G.2.2.1 0, 6, .inl (fun _ => 0))), (q2, .inl (G.2.2.1 0, 7, .inl (fun _ => 0))), (q3, .inl (G.2.2.1 0, 7, .inl (fun _ => 0))), (q4, .inl (G.2.2.1 0, 7, .inl (fun _ => 0))), (q5, .inl (G.2.2.1 0, 8, .inl (fun _ => 0))), (q6, .inl (G.2.2.1 0, 8, .inl (fun _ => 0))), (q7, .inl (G.2.2.1 0, 8, .inl (fun _ => 0))), (q8, .inr (1, [.ref (q9 1), .ref (q9 2), .ref (q9 3), .ref (q9 4), .long 0, .int 0])), ((q9 1), .inl (G.2.2.1 0, 40, .inl (fun _ => 0))), ((q9 2), .inl (G.2.2.1 0, 40, .inl (fun _ => 0))), ((q9 3), .inl (G.2.2.1 0, 40, .inl (fun _ => 0))), ((q9 4), .inl (G.2.2.1 3, 40, .inr (.inl (fun _ => 0))))] H := hP
  have hD : va_D A [(h0, .inr (5, [.ref q1, .ref q2, .ref q3, .ref q4, .ref q5, .ref q6, .ref q7, .ref q8, .int 0, .int 0, .int 0])), (q1, .inl (G.2.2.1 0, 6, .inl (fun _ => 0))), (q2, .inl (G.2.2.1 0, 7, .inl (fun _ => 0))), (q3, .inl (G.2.2.1 0, 7, .inl (fun _ => 0))), (q4, .inl (G.2.2.1 0, 7, .inl (fun _ => 0))), (q5, .inl (G.2.2.1 0, 8, .inl (fun _ => 0))), (q6, .inl (G.2.2.1 0, 8, .inl (fun _ => 0))), (q7, .inl (G.2.2.1 0, 8, .inl (fun _ => 0))), (q8, .inr (1, [.ref (q9 1), .ref (q9 2), .ref (q9 3), .ref (q9 4), .long 0, .int 0])), ((q9 1), .inl (G.2.2.1 0, 40, .inl (fun _ => 0))), ((q9 2), .inl (G.2.2.1 0, 40, .inl (fun _ => 0))), ((q9 3), .inl (G.2.2.1 0, 40, .inl (fun _ => 0))), ((q9 4), .inl (G.2.2.1 3, 40, .inr (.inl (fun _ => 0))))] := hD
  have hP9 := hP.sub (ws' := [(h0, .inr (5, [.ref q1, .ref q2, .ref q3, .ref q4, .ref q5, .ref q6, .ref q7, .ref q8, .int 0, .int 0, .int 0])), (q1, .inl (G.2.2.1 0, 6, .inl (fun _ => 0))), (q2, .inl (G.2.2.1 0, 7, .inl (fun _ => 0))), (q3, .inl (G.2.2.1 0, 7, .inl (fun _ => 0))), (q4, .inl (G.2.2.1 0, 7, .inl (fun _ => 0))), (q5, .inl (G.2.2.1 0, 8, .inl (fun _ => 0))), (q6, .inl (G.2.2.1 0, 8, .inl (fun _ => 0))), (q7, .inl (G.2.2.1 0, 8, .inl (fun _ => 0))), (q8, .inr (1, [.ref (q9 1), .ref (q9 2), .ref (q9 3), .ref (q9 4), .long 0, .int 0])), ((q9 1), .inl (G.2.2.1 0, 40, .inl (fun _ => 0))), ((q9 2), .inl (G.2.2.1 0, 40, .inl (fun _ => 0))), ((q9 3), .inl (G.2.2.1 0, 40, .inl (fun _ => 0))), ((q9 4), .inl (G.2.2.1 3, 40, .inr (.inl (fun _ => 0))))]) [0, 1, 2, 3, 4, 5, 6, 7, 8, 9, 10, 11, 12] rfl
  have hD9 := hD.sub (ws' := [(h0, .inr (5, [.ref q1, .ref q2, .ref q3, .ref q4, .ref q5, .ref q6, .ref q7, .ref q8, .int 0, .int 0, .int 0])), (q1, .inl (G.2.2.1 0, 6, .inl (fun _ => 0))), (q2, .inl (G.2.2.1 0, 7, .inl (fun _ => 0))), (q3, .inl (G.2.2.1 0, 7, .inl (fun _ => 0))), (q4, .inl (G.2.2.1 0, 7, .inl (fun _ => 0))), (q5, .inl (G.2.2.1 0, 8, .inl (fun _ => 0))), (q6, .inl (G.2.2.1 0, 8, .inl (fun _ => 0))), (q7, .inl (G.2.2.1 0, 8, .inl (fun _ => 0))), (q8, .inr (1, [.ref (q9 1), .ref (q9 2), .ref (q9 3), .ref (q9 4), .long 0, .int 0])), ((q9 1), .inl (G.2.2.1 0, 40, .inl (fun _ => 0))), ((q9 2), .inl (G.2.2.1 0, 40, .inl (fun _ => 0))), ((q9 3), .inl (G.2.2.1 0, 40, .inl (fun _ => 0))), ((q9 4), .inl (G.2.2.1 3, 40, .inr (.inl (fun _ => 0))))]) [0, 1, 2, 3, 4, 5, 6, 7, 8, 9, 10, 11, 12] (by decide +kernel) rfl
  exact W.vret hx hb hr (fun t ht hW => ⟨⟨(fun k => ([h0, q1, q2, q3, q4, q5, q6, q7, q8, (q9 1), (q9 2), (q9 3), (q9 4)] : List Nat).getD k 0), rfl, trivial, by rw [ht]; exact hP9, va_K.moved hW.alike hK, hD9⟩, hS.F ht⟩) hS.2.2 dX6_init_71
