/-! ===== the law at its start: the words of the two constructors, the classes known ===== -/
theorem in_idx {big : List Cond} (ws : List Cond) (ps : List Nat) (hp : ws = ps.filterMap (fun i => big[i]?)) : ∀ w ∈ ws, w ∈ big := by
  intro w hw
  rw [hp] at hw
  obtain ⟨i, -, hi⟩ := List.mem_filterMap.mp hw
  exact List.mem_of_getElem? hi
set_option maxRecDepth 100000 in
theorem gL_X8_init : GoodIn lw_tbl wsX8_init := goodIn_r _ [64, 65, 66, 67, 68, 228, 70, 229, 72, 73, 48, 230, 231, 232, 166, 233, 153, 154, 50, 234, 167, 168, 51, 235, 185, 186, 52, 236, 105, 237, 199, 53, 213, 54, 74, 75, 76, 77, 107, 109, 110, 112, 115, 117, 118, 78, 79, 49, 120, 80, 81, 82, 83, 84, 85, 87, 106, 88, 155, 156, 157, 158, 159, 160, 169, 170, 171, 172, 173, 174, 187, 188, 189, 190, 191, 200, 201, 202, 203, 204, 206, 214, 215, 216, 217, 227, 218, 220, 240, 242, 244, 246, 248, 250, 252, 254, 256, 258, 260, 262, 129, 131, 133, 135, 137, 139, 141, 143, 145, 147, 149, 161, 163, 178, 180, 182, 194, 196, 208, 210, 222, 224, 92, 94, 96, 98, 100, 102] (by decide +kernel) (by decide +kernel)
set_option maxRecDepth 100000 in
theorem gL_X9_init : GoodIn lw_tbl wsX9_init := goodIn_r _ [842, 843, 66, 67, 105, 844, 845, 846, 847, 848, 849, 850, 853, 855, 856, 857, 858, 859, 863, 864, 866, 867, 868, 166, 871, 872, 873, 874, 875, 876, 877, 878, 880, 882, 884, 886, 888, 890, 892, 894, 896, 898, 900, 902, 904, 906, 908, 910, 912, 914, 916, 918, 920, 922, 924, 926, 928, 930, 932, 934, 936, 938, 940, 942, 944, 946, 948, 950] (by decide +kernel) (by decide +kernel)
set_option maxRecDepth 100000 in
theorem uin_X0 : ∀ w ∈ u_ws RX0 TX0 3, w ∈ lw_tbl := in_idx _ [178, 180, 182] (by decide +kernel)
set_option maxRecDepth 100000 in
theorem uin_X1 : ∀ w ∈ u_ws RX1 TX1 6, w ∈ lw_tbl := in_idx _ [92, 94, 96, 98, 100, 102] (by decide +kernel)
set_option maxRecDepth 100000 in
theorem uin_X3 : ∀ w ∈ u_ws RX3 TX3 2, w ∈ lw_tbl := in_idx _ [161, 163] (by decide +kernel)
set_option maxRecDepth 100000 in
theorem uin_X4 : ∀ w ∈ u_ws RX4 TX4 2, w ∈ lw_tbl := in_idx _ [208, 210] (by decide +kernel)
set_option maxRecDepth 100000 in
theorem uin_X5 : ∀ w ∈ u_ws RX5 TX5 2, w ∈ lw_tbl := in_idx _ [194, 196] (by decide +kernel)
set_option maxRecDepth 100000 in
theorem uin_X6 : ∀ w ∈ u_ws RX6 TX6 11, w ∈ lw_tbl := in_idx _ [129, 131, 133, 135, 137, 139, 141, 143, 145, 147, 149] (by decide +kernel)
set_option maxRecDepth 100000 in
theorem uin_X7 : ∀ w ∈ u_ws RX7 TX7 2, w ∈ lw_tbl := in_idx _ [222, 224] (by decide +kernel)
set_option maxRecDepth 100000 in
theorem uin_X8 : ∀ w ∈ u_ws RX8 TX8 12, w ∈ lw_tbl := in_idx _ [240, 242, 244, 246, 248, 250, 252, 254, 256, 258, 260, 262] (by decide +kernel)
set_option maxRecDepth 100000 in
theorem uin_X9 : ∀ w ∈ u_ws RX9 TX9 36, w ∈ lw_tbl := in_idx _ [880, 882, 884, 886, 888, 890, 892, 894, 896, 898, 900, 902, 904, 906, 908, 910, 912, 914, 916, 918, 920, 922, 924, 926, 928, 930, 932, 934, 936, 938, 940, 942, 944, 946, 948, 950] (by decide +kernel)
theorem arr_c {args : Array Value} {s : State} {ty : FieldType} (h : (Cond.arrayClass ty).before args s = true) (hty : ∀ n, ty ≠ .object n) : ∃ c, ArrOfT s c ty ∧ va_RA s c ty := by
  obtain ⟨c, k, comp, h1, h2, h3⟩ := Cond.arrayClass_spec h
  refine ⟨c, fun N z => ⟨(fun k h => by cases h), k, h2, comp, h3⟩, ?_⟩
  cases ty with
  | object n => exact absurd rfl (hty n)
  | _ => exact h1
theorem arr_o {args : Array Value} {s : State} {n : String} (h : (Cond.arrayOver (.object n)).before args s = true) : ∃ c, ArrOfT s c (.object n) ∧ va_RA s c (.object n) := by
  obtain ⟨comp, c, k, h1, h2, h3, h4, h5⟩ := Cond.arrayOver_spec h
  exact ⟨c, fun N z => ⟨(fun k h => by cases h), k, h3, comp, h4⟩, k, comp, h3, h4, h1, h5⟩
set_option maxHeartbeats 4000000 in
set_option maxRecDepth 100000 in
theorem known_all {args : Array Value} {s : State} (hts : ∀ w ∈ lw_tbl, w.before args s = true) : ∃ (D : va_G) (ca : Nat → ClassId), ∀ (am ks : Nat → Nat), va_K D vwCl (tysOf (D, am, ca, ks)) s := by
  obtain ⟨c0, i0, h0⟩ := u_known hts uin_X0 (hts (.instantiable RX0 3) (by decide +kernel))
  obtain ⟨c1, i1, h1⟩ := u_known hts uin_X1 (hts (.instantiable RX1 6) (by decide +kernel))
  obtain ⟨c2, i2, h2⟩ := u_known hts uin_X3 (hts (.instantiable RX3 2) (by decide +kernel))
  obtain ⟨c3, i3, h3⟩ := u_known hts uin_X4 (hts (.instantiable RX4 2) (by decide +kernel))
  obtain ⟨c4, i4, h4⟩ := u_known hts uin_X5 (hts (.instantiable RX5 2) (by decide +kernel))
  obtain ⟨c5, i5, h5⟩ := u_known hts uin_X6 (hts (.instantiable RX6 11) (by decide +kernel))
  obtain ⟨c6, i6, h6⟩ := u_known hts uin_X7 (hts (.instantiable RX7 2) (by decide +kernel))
  obtain ⟨c7, i7, h7⟩ := u_known hts uin_X8 (hts (.instantiable RX8 12) (by decide +kernel))
  obtain ⟨c8, i8, h8⟩ := u_known hts uin_X9 (hts (.instantiable RX9 36) (by decide +kernel))
  obtain ⟨a0, g0⟩ := arr_c (hts (.arrayClass .int) (by decide +kernel)) (fun n h => by cases h)
  obtain ⟨a1, g1⟩ := arr_c (hts (.arrayClass .byte) (by decide +kernel)) (fun n h => by cases h)
  obtain ⟨a2, g2⟩ := arr_c (hts (.arrayClass .boolean) (by decide +kernel)) (fun n h => by cases h)
  obtain ⟨a3, g3⟩ := arr_c (hts (.arrayClass .long) (by decide +kernel)) (fun n h => by cases h)
  obtain ⟨a4, g4⟩ := arr_o (hts (.arrayOver (.object "PaperWalls$Row")) (by decide +kernel))
  obtain ⟨a5, g5⟩ := arr_o (hts (.arrayOver (.object "PaperWalls$Text")) (by decide +kernel))
  obtain ⟨a6, g6⟩ := arr_o (hts (.arrayOver (.object "PaperWalls$Street")) (by decide +kernel))
  refine ⟨(fun c => match c with | 0 => c0 | 1 => c1 | 2 => c2 | 3 => c3 | 4 => c4 | 5 => c5 | 6 => c6 | 7 => c7 | _ => c8, fun c => match c with | 0 => i0 | 1 => i1 | 2 => i2 | 3 => i3 | 4 => i4 | 5 => i5 | 6 => i6 | 7 => i7 | _ => i8), fun c => match c with | 0 => a0 | 1 => a1 | 2 => a2 | 3 => a3 | 4 => a4 | 5 => a5 | _ => a6, fun am ks => ⟨fun c q hq => ?_, fun k q hq => ?_⟩⟩
  · match c, hq with
    | 0, hq => cases hq; exact h0
    | 1, hq => cases hq; exact h1
    | 2, hq => cases hq; exact h2
    | 3, hq => cases hq; exact h3
    | 4, hq => cases hq; exact h4
    | 5, hq => cases hq; exact h5
    | 6, hq => cases hq; exact h6
    | 7, hq => cases hq; exact h7
    | 8, hq => cases hq; exact h8
    | c + 9, hq => exact absurd (List.getElem?_eq_some_iff.mp hq).1 (by show ¬ c + 9 < 9; omega)
  · match k, hq with
    | 0, hq => cases hq; exact g0
    | 1, hq => cases hq; exact g1
    | 2, hq => cases hq; exact g2
    | 3, hq => cases hq; exact g3
    | 4, hq => cases hq; exact g4
    | 5, hq => cases hq; exact g5
    | 6, hq => cases hq; exact g6
    | k + 7, hq => exact absurd (List.getElem?_eq_some_iff.mp hq).1 (by show ¬ k + 7 < 7; omega)
theorem sta {args : Array Value} {s : State} {n : String} {f : Nat → Int32} {A : Nat → Prop} (hl : (Cond.laysStatic "PaperWalls$Kinds" n "[I").before args s = true) (hini : (Cond.initialized "PaperWalls$Kinds").before args s = true) (harr : (Cond.arrayOf (.static "PaperWalls$Kinds" n "[I") .int).before args s = true) (hlen : (Cond.eq (.length (.static "PaperWalls$Kinds" n "[I")) (.int 6)).before args s = true) (hel : ∀ j, j < 6 → (Cond.eq (.elem (.static "PaperWalls$Kinds" n "[I") (.int (Int32.ofNat j))) (.int (f j))).before args s = true) (hA : ∀ a : Nat, a < s.heap.size → ¬ A a) : ∃ t, va_Z "PaperWalls$Kinds" n "[I" (.ref t) A s s.heap ∧ va_T .int t 6 (fun j => .int (f j)) A s s.heap := by
  obtain ⟨t, ht, hT⟩ := va_Tof (N := 6) (f := fun j => .int (f j)) (by decide) harr (va_eqt hlen) (fun j hj => va_eqt (hel j hj)) hA
  exact ⟨t, va_Zref hl hini ht hA, hT⟩
theorem wc_len {w : WD} {S : Sg} : (wcells w S).length = w.2.1 := by
  unfold wcells
  rw [List.length_map, List.length_range]
theorem wD_AW {w : WD} {S : Sg} {A : Nat → Prop} (hD : va_D A (wcells w S)) : Ij w ∧ ∀ q, AW w q → A q := by
  refine ⟨fun i j hi hj e => hD.1 i j _ _ (wcells_get hi) (wcells_get hj) e, fun q hq => ?_⟩
  obtain ⟨k, hk, rfl⟩ := hq
  exact hD.2 k _ (wcells_get hk)
theorem va_D1 {A : Nat → Prop} {q : Nat} {e : va_E} (h : A q) : va_D A [(q, e)] := by
  have z : ∀ (k : Nat) (p : Nat × va_E), [(q, e)][k]? = some p → k = 0 ∧ p = (q, e) := fun k p hk => by
    have hl : k < 1 := (List.getElem?_eq_some_iff.mp hk).1
    obtain rfl : k = 0 := by omega
    cases hk
    exact ⟨rfl, rfl⟩
  refine ⟨fun i j p p' hi hj _ => by rw [(z i p hi).1, (z j p' hj).1], fun k p hk => ?_⟩
  rw [(z k p hk).2]
  exact h
theorem init8_blind {G : Gp} {av : List Value} {sz : Nat} {ws : va_W} : FrameBlind (va_Pc av (fun U => U.heap.size = sz ∧ va_P G.1 vwCl ws U.heap ∧ va_K G.1 vwCl (tysOf G) U ∧ va_D (fun _ => True) ws ∧ va_AO RX4 U ∧ va_AO RX7 U ∧ va_AO RX6 U)) := by
  intro a U g mk h
  obtain ⟨h0, h1, h2, h3, h4, h5, h6, h7⟩ := h
  exact ⟨h0, h1, h2, va_K.moved (u := U) (U := U.calling g mk a) (Vm.Alike.refl U.vm) h3, h4, va_AO.moved (u := U) (U := U.calling g mk a) (Vm.Alike.refl U.vm) h5, va_AO.moved (u := U) (U := U.calling g mk a) (Vm.Alike.refl U.vm) h6, va_AO.moved (u := U) (U := U.calling g mk a) (Vm.Alike.refl U.vm) h7⟩
