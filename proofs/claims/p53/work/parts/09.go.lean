/-! The layer Go: a frame of the machine as data: pc, the known locals, the stack, the world's numbers. -/
abbrev Gp : Type := va_G × (Nat → Nat) × (Nat → ClassId) × (Nat → Nat) × Nat × Nat × Nat × (Nat → Int32)
def nn (G : Gp) : Nat := G.2.2.2.2.1
def gb (G : Gp) : Nat := G.2.2.2.2.2.1
def gL (G : Gp) : Nat := G.2.2.2.2.2.2.1
def gx (G : Gp) : Nat → Int32 := G.2.2.2.2.2.2.2
abbrev Sg : Type := (Nat → Nat → Int32) × (Nat → Nat → Int64)
abbrev CVt : Type := Nat → (Nat → Int32) → (Nat → Int64) → va_E
abbrev WD : Type := Gp × Nat × CVt
abbrev XT : Type := Program × Env × State × MethodId × Array Value × List Frame × Method × Code × (State → Prop) × (Nat → Prop) × Nat × Nat
def wI (S : Sg) (k j : Nat) (v : Int32) : Sg := (fun a => if a = k then upd (S.1 a) j v else S.1 a, S.2)
def wL (S : Sg) (k j : Nat) (v : Int64) : Sg := (S.1, fun a => if a = k then vp_updL (S.2 a) j v else S.2 a)
def cpI (S : Sg) (k1 sp k2 dp n : Nat) : Sg := (fun a => if a = k2 then va_cpy (S.1 k1) (S.1 k2) sp dp n else S.1 a, S.2)
def cpL (S : Sg) (k1 sp k2 dp n : Nat) : Sg := (S.1, fun a => if a = k2 then va_cpy (S.2 k1) (S.2 k2) sp dp n else S.2 a)
theorem wI_o {S : Sg} {k j : Nat} {v : Int32} : ∀ a, a ≠ k → (wI S k j v).1 a = S.1 a ∧ (wI S k j v).2 a = S.2 a := fun a h => ⟨if_neg h, rfl⟩
theorem wL_o {S : Sg} {k j : Nat} {v : Int64} : ∀ a, a ≠ k → (wL S k j v).1 a = S.1 a ∧ (wL S k j v).2 a = S.2 a := fun a h => ⟨rfl, if_neg h⟩
theorem cpI_o {S : Sg} {k1 sp k2 dp n : Nat} : ∀ a, a ≠ k2 → (cpI S k1 sp k2 dp n).1 a = S.1 a ∧ (cpI S k1 sp k2 dp n).2 a = S.2 a := fun a h => ⟨if_neg h, rfl⟩
theorem cpL_o {S : Sg} {k1 sp k2 dp n : Nat} : ∀ a, a ≠ k2 → (cpL S k1 sp k2 dp n).1 a = S.1 a ∧ (cpL S k1 sp k2 dp n).2 a = S.2 a := fun a h => ⟨rfl, if_neg h⟩
theorem wI_s {S : Sg} {k j : Nat} {v : Int32} : (wI S k j v).1 k = upd (S.1 k) j v := if_pos rfl
theorem wL_s {S : Sg} {k j : Nat} {v : Int64} : (wL S k j v).2 k = vp_updL (S.2 k) j v := if_pos rfl
theorem cpI_s {S : Sg} {k1 sp k2 dp n : Nat} : (cpI S k1 sp k2 dp n).1 k2 = va_cpy (S.1 k1) (S.1 k2) sp dp n := if_pos rfl
theorem cpL_s {S : Sg} {k1 sp k2 dp n : Nat} : (cpL S k1 sp k2 dp n).2 k2 = va_cpy (S.2 k1) (S.2 k2) sp dp n := if_pos rfl
def wcells (w : WD) (S : Sg) : va_W := (List.range w.2.1).map (fun k => (w.1.2.1 k, w.2.2 k (S.1 k) (S.2 k)))
theorem wcells_len {w : WD} {S : Sg} : (wcells w S).length = w.2.1 := by unfold wcells; rw [List.length_map, List.length_range]
theorem wcells_get {w : WD} {S : Sg} {k : Nat} (h : k < w.2.1) : (wcells w S)[k]? = some (w.1.2.1 k, w.2.2 k (S.1 k) (S.2 k)) := by
  unfold wcells
  rw [List.getElem?_map, List.getElem?_range h]
  rfl
theorem wcells_at {w : WD} {S : Sg} {k : Nat} {e : va_E} (h : k < w.2.1) (he : w.2.2 k (S.1 k) (S.2 k) = e) : (wcells w S)[k]? = some (w.1.2.1 k, e) := by rw [wcells_get h, he]
theorem wcells_some {w : WD} {S : Sg} {k : Nat} {q : Nat × va_E} (h : (wcells w S)[k]? = some q) : k < w.2.1 ∧ q = (w.1.2.1 k, w.2.2 k (S.1 k) (S.2 k)) := by
  have hk : k < w.2.1 := by
    have h1 := (List.getElem?_eq_some_iff.mp h).1
    rw [wcells_len] at h1
    exact h1
  refine ⟨hk, ?_⟩
  rw [wcells_get hk] at h
  exact (Option.some.inj h).symm
theorem wcells_set {w : WD} {S S1 : Sg} {k : Nat} {e : va_E} (hk : k < w.2.1) (he : w.2.2 k (S1.1 k) (S1.2 k) = e) (ho : ∀ a, a ≠ k → S1.1 a = S.1 a ∧ S1.2 a = S.2 a) : (wcells w S).set k (w.1.2.1 k, e) = wcells w S1 := by
  apply List.ext_getElem?
  intro i
  by_cases hi : i = k
  · subst hi
    rw [List.getElem?_set_self (by rw [wcells_len]; exact hk), wcells_get hk, he]
  · rw [List.getElem?_set_ne (Ne.symm hi)]
    by_cases hl : i < w.2.1
    · rw [wcells_get hl, wcells_get hl, (ho i hi).1, (ho i hi).2]
    · rw [List.getElem?_eq_none (by rw [wcells_len]; omega), List.getElem?_eq_none (by rw [wcells_len]; omega)]
def AW (w : WD) : Nat → Prop := fun q => ∃ k, k < w.2.1 ∧ q = w.1.2.1 k
def Ij (w : WD) : Prop := ∀ i j, i < w.2.1 → j < w.2.1 → w.1.2.1 i = w.1.2.1 j → i = j
theorem wD {w : WD} {S : Sg} (h : Ij w) : va_D (AW w) (wcells w S) := by
  refine ⟨fun i j p q hi hj e => ?_, fun k q hk => ?_⟩
  · obtain ⟨h1, rfl⟩ := wcells_some hi
    obtain ⟨h2, rfl⟩ := wcells_some hj
    exact h i j h1 h2 e
  · obtain ⟨h1, rfl⟩ := wcells_some hk
    exact ⟨k, h1, rfl⟩
def tysOf (G : Gp) : List (ClassId × FieldType) := [(G.2.2.1 0, .int), (G.2.2.1 1, .byte), (G.2.2.1 2, .boolean), (G.2.2.1 3, .long), (G.2.2.1 4, .object "PaperWalls$Row"), (G.2.2.1 5, .object "PaperWalls$Text"), (G.2.2.1 6, .object "PaperWalls$Street")]
def skn (k : Nat) : String := match k with | 0 => "LETTERS" | 1 => "WIDER" | 2 => "SPEAKS" | 3 => "SINGS" | _ => "LEAST"
def skl (k : Nat) : List Int32 := match k with | 0 => [111, 108, 119, 100, 115, 105] | 1 => [0, 0, 0, 0, 1, 2] | 2 => [5, 8, 2, 5, 8, 2] | 3 => [5, 8, 2, 5, 10, 2] | _ => [1, 1, 1, 4, 1, 0]
def skv (k j : Nat) : Int32 := (skl k).getD j 0
def Ks (A : Nat → Prop) (w : WD) (U : State) : Prop := (∀ k, k < 5 → va_Z "PaperWalls$Kinds" (skn k) "[I" (.ref (w.1.2.2.2.1 k)) A U U.heap ∧ va_T .int (w.1.2.2.2.1 k) 6 (fun j => .int (skv k j)) A U U.heap ∧ ¬ A (w.1.2.2.2.1 k)) ∧ va_X (gb w.1) (gL w.1) (gx w.1) U U.heap ∧ ¬ A (gb w.1)
theorem va_X.lt {b L : Nat} {xs : Nat → Int32} {U : State} {H : Heap} (h : va_X b L xs U H) : b < H.size := by
  obtain ⟨scr, h1, h2⟩ := h
  exact (Array.getElem?_eq_some_iff.mp h1).1
theorem Ks.mv {A A1 : Nat → Prop} {w : WD} {s U : State} {H : Heap} {locs : List Loc} (h : Ks A w s) (hA : ∀ q, A1 q → A q) (hS : va_S A s.heap H locs) (hU : U.heap = H) (hvm : s.vm.Alike U.vm) : Ks A1 w U := by
  obtain ⟨h, hX, hb⟩ := h
  refine ⟨fun k hk => ?_, ?_, fun q => hb (hA _ q)⟩
  · obtain ⟨h1, h2, h3⟩ := h k hk
    subst hU
    exact ⟨((h1.kept hS.2.1).moved hvm).narrow hA, ((h2.kept hS.2.1).moved hvm).narrow hA, fun q => h3 (hA _ q)⟩
  · subst hU
    exact va_X.moved hvm (hX.kept (hS.2.1 _ hX.lt hb))
def PreW (w : WD) (S : Sg) (U : State) : Prop := va_P w.1.1 vwCl (wcells w S) U.heap ∧ va_K w.1.1 vwCl (tysOf w.1) U ∧ Ks (AW w) w U
def PostW (w : WD) (S : Sg) (U : State) : Prop := va_P w.1.1 vwCl (wcells w S) U.heap ∧ va_K w.1.1 vwCl (tysOf w.1) U
theorem PreW_blind {w : WD} {S : Sg} {av : List Value} : FrameBlind (va_Pc av (PreW w S)) := by
  intro a U g mk h
  obtain ⟨h0, h1, h2, h3⟩ := h
  exact ⟨h0, h1, va_K.moved (u := U) (U := U.calling g mk a) (Vm.Alike.refl U.vm) h2, Ks.mv (U := U.calling g mk a) (locs := []) h3 (fun _ q => q) (va_S.rf (A := AW w) (H0 := U.heap)) rfl (Vm.Alike.refl U.vm)⟩
theorem PreZ_blind {w : WD} {S : Sg} {av : List Value} {sz : Nat} : FrameBlind (va_Pc av (fun U => U.heap.size = sz ∧ PreW w S U)) := by
  intro a U g mk h
  obtain ⟨h0, hz, h1, h2, h3⟩ := h
  exact ⟨h0, hz, h1, va_K.moved (u := U) (U := U.calling g mk a) (Vm.Alike.refl U.vm) h2, Ks.mv (U := U.calling g mk a) (locs := []) h3 (fun _ q => q) (va_S.rf (A := AW w) (H0 := U.heap)) rfl (Vm.Alike.refl U.vm)⟩
def Go (X : XT) (l : Launch) (R : Room) (w : WD) (nL pc : Nat) (ls : List (Nat × Value)) (st : List Value) (S : Sg) : Prop :=
  match X with
  | (p, e, s, m, args, below, meth, c, Q, A, kc, ks) => kc ≤ R.cells → ks ≤ R.slots → ∀ (H : Heap) (locs : List Loc) (la : Array Slot), va_P w.1.1 vwCl (wcells w S) H → va_S A s.heap H locs → lv_has la nL ls → W p l e R s m args below meth c H locs kc ks Q (F0 m pc la st)
def Ok (X : XT) (w : WD) (cc : ByteArray) (own : String) (Ts : List Cond) (nL : Nat) : Prop :=
  match X with
  | (p, _, s, m, args, _, _, c, _, A, _, _) => p.tables.exec = Jvm.exec ∧ c.code = cc ∧ c.maxLocals = nL ∧ s.vm.findClass own = some m.cls ∧ (∀ x ∈ Ts, x.before args s = true) ∧ va_K w.1.1 vwCl (tysOf w.1) s ∧ Ij w ∧ Ks A w s ∧ ∀ q, AW w q → A q
theorem wDA {w : WD} {S : Sg} {A : Nat → Prop} (h : Ij w) (hA : ∀ q, AW w q → A q) : va_D A (wcells w S) := (wD h).weaken (fun _ _ _ q => hA _ q)
section GO
variable {X : XT} {l : Launch} {R : Room} {w : WD} {cc : ByteArray} {own : String} {Ts : List Cond} {nL pc : Nat} {ls : List (Nat × Value)} {st : List Value} {S : Sg}
theorem go_iconst {n : Int} {v : Int32} (O : Ok X w cc own Ts nL) (hd : decode cc pc = .ok (.iconst n, 1)) (hv : Int32.ofInt n = v) (k : Go X l R w nL (pc + 1) ls (.int v :: st) S) : Go X l R w nL pc ls (st) S := by
  obtain ⟨p, e, s, m, args, below, meth, c, Q, A, kcn, ksn⟩ := X
  obtain ⟨hx, hb, hml, hown, hts, hK, hI, hKs, hAW⟩ := O
  intro hy1 hy2 H locs la hP hS hl
  exact lv_iconst hx hb hd hv (k hy1 hy2 H locs la hP hS hl)
theorem go_bipush {n : Int} {v : Int32} (O : Ok X w cc own Ts nL) (hd : decode cc pc = .ok (.bipush n, 2)) (hv : (Int8.ofInt n).toInt32 = v) (k : Go X l R w nL (pc + 2) ls (.int v :: st) S) : Go X l R w nL pc ls (st) S := by
  obtain ⟨p, e, s, m, args, below, meth, c, Q, A, kcn, ksn⟩ := X
  obtain ⟨hx, hb, hml, hown, hts, hK, hI, hKs, hAW⟩ := O
  intro hy1 hy2 H locs la hP hS hl
  exact lv_bipush hx hb hd hv (k hy1 hy2 H locs la hP hS hl)
theorem go_sipush {n : Int} {v : Int32} (O : Ok X w cc own Ts nL) (hd : decode cc pc = .ok (.sipush n, 3)) (hv : (Int16.ofInt n).toInt32 = v) (k : Go X l R w nL (pc + 3) ls (.int v :: st) S) : Go X l R w nL pc ls (st) S := by
  obtain ⟨p, e, s, m, args, below, meth, c, Q, A, kcn, ksn⟩ := X
  obtain ⟨hx, hb, hml, hown, hts, hK, hI, hKs, hAW⟩ := O
  intro hy1 hy2 H locs la hP hS hl
  exact lv_sipush hx hb hd hv (k hy1 hy2 H locs la hP hS hl)
theorem go_lconst {n : Fin 2} {v : Int64} (O : Ok X w cc own Ts nL) (hd : decode cc pc = .ok (.lconst n, 1)) (hv : Int64.ofNat (n : Nat) = v) (k : Go X l R w nL (pc + 1) ls (.long v :: st) S) : Go X l R w nL pc ls (st) S := by
  obtain ⟨p, e, s, m, args, below, meth, c, Q, A, kcn, ksn⟩ := X
  obtain ⟨hx, hb, hml, hown, hts, hK, hI, hKs, hAW⟩ := O
  intro hy1 hy2 H locs la hP hS hl
  exact lv_lconst hx hb hd hv (k hy1 hy2 H locs la hP hS hl)
theorem go_ldc2 {i : Nat} {v : Int64} (O : Ok X w cc own Ts nL) (hd : decode cc pc = .ok (.ldc2_w i, 3)) (hc : Cond.constantLong own i v ∈ Ts) (k : Go X l R w nL (pc + 3) ls (.long v :: st) S) : Go X l R w nL pc ls (st) S := by
  obtain ⟨p, e, s, m, args, below, meth, c, Q, A, kcn, ksn⟩ := X
  obtain ⟨hx, hb, hml, hown, hts, hK, hI, hKs, hAW⟩ := O
  intro hy1 hy2 H locs la hP hS hl
  exact lv_ldc2 hx hb hown (hts _ hc) hd (k hy1 hy2 H locs la hP hS hl)
theorem go_ldc {i : Nat} {v : Int32} (O : Ok X w cc own Ts nL) (hd : decode cc pc = .ok (.ldc i, 2)) (hc : Cond.constant own i v ∈ Ts) (k : Go X l R w nL (pc + 2) ls (.int v :: st) S) : Go X l R w nL pc ls (st) S := by
  obtain ⟨p, e, s, m, args, below, meth, c, Q, A, kcn, ksn⟩ := X
  obtain ⟨hx, hb, hml, hown, hts, hK, hI, hKs, hAW⟩ := O
  intro hy1 hy2 H locs la hP hS hl
  exact lv_ldc hx hb hown (hts _ hc) hd (k hy1 hy2 H locs la hP hS hl)
theorem go_ldcw {i : Nat} {v : Int32} (O : Ok X w cc own Ts nL) (hd : decode cc pc = .ok (.ldc_w i, 3)) (hc : Cond.constant own i v ∈ Ts) (k : Go X l R w nL (pc + 3) ls (.int v :: st) S) : Go X l R w nL pc ls (st) S := by
  obtain ⟨p, e, s, m, args, below, meth, c, Q, A, kcn, ksn⟩ := X
  obtain ⟨hx, hb, hml, hown, hts, hK, hI, hKs, hAW⟩ := O
  intro hy1 hy2 H locs la hP hS hl
  exact lv_ldcw hx hb hown (hts _ hc) hd (k hy1 hy2 H locs la hP hS hl)
theorem go_iload {i : Nat} {x : Int32} (O : Ok X w cc own Ts nL) (hd : decode cc pc = .ok (.iload i, 2)) (q : Nat) (hq : ls[q]? = some (i, .int x)) (k : Go X l R w nL (pc + 2) ls (.int x :: st) S) : Go X l R w nL pc ls (st) S := by
  obtain ⟨p, e, s, m, args, below, meth, c, Q, A, kcn, ksn⟩ := X
  obtain ⟨hx, hb, hml, hown, hts, hK, hI, hKs, hAW⟩ := O
  intro hy1 hy2 H locs la hP hS hl
  exact lv_iload hx hb hd (lv_at hl q hq) (k hy1 hy2 H locs la hP hS hl)
theorem go_iload_n {i : Nat} {f : Fin 4} {x : Int32} (O : Ok X w cc own Ts nL) (hd : decode cc pc = .ok (.iload_n f, 1)) (hi : (f : Nat) = i) (q : Nat) (hq : ls[q]? = some (i, .int x)) (k : Go X l R w nL (pc + 1) ls (.int x :: st) S) : Go X l R w nL pc ls (st) S := by
  obtain ⟨p, e, s, m, args, below, meth, c, Q, A, kcn, ksn⟩ := X
  obtain ⟨hx, hb, hml, hown, hts, hK, hI, hKs, hAW⟩ := O
  intro hy1 hy2 H locs la hP hS hl
  exact lv_iload_n hx hb hd hi (lv_at hl q hq) (k hy1 hy2 H locs la hP hS hl)
theorem go_lload {i : Nat} {x : Int64} (O : Ok X w cc own Ts nL) (hd : decode cc pc = .ok (.lload i, 2)) (q : Nat) (hq : ls[q]? = some (i, .long x)) (k : Go X l R w nL (pc + 2) ls (.long x :: st) S) : Go X l R w nL pc ls (st) S := by
  obtain ⟨p, e, s, m, args, below, meth, c, Q, A, kcn, ksn⟩ := X
  obtain ⟨hx, hb, hml, hown, hts, hK, hI, hKs, hAW⟩ := O
  intro hy1 hy2 H locs la hP hS hl
  exact lv_lload hx hb hd (lv_at hl q hq) (k hy1 hy2 H locs la hP hS hl)
theorem go_lload_n {i : Nat} {f : Fin 4} {x : Int64} (O : Ok X w cc own Ts nL) (hd : decode cc pc = .ok (.lload_n f, 1)) (hi : (f : Nat) = i) (q : Nat) (hq : ls[q]? = some (i, .long x)) (k : Go X l R w nL (pc + 1) ls (.long x :: st) S) : Go X l R w nL pc ls (st) S := by
  obtain ⟨p, e, s, m, args, below, meth, c, Q, A, kcn, ksn⟩ := X
  obtain ⟨hx, hb, hml, hown, hts, hK, hI, hKs, hAW⟩ := O
  intro hy1 hy2 H locs la hP hS hl
  exact lv_lload_n hx hb hd hi (lv_at hl q hq) (k hy1 hy2 H locs la hP hS hl)
theorem go_aload {i : Nat} {x : Nat} (O : Ok X w cc own Ts nL) (hd : decode cc pc = .ok (.aload i, 2)) (q : Nat) (hq : ls[q]? = some (i, .ref x)) (k : Go X l R w nL (pc + 2) ls (.ref x :: st) S) : Go X l R w nL pc ls (st) S := by
  obtain ⟨p, e, s, m, args, below, meth, c, Q, A, kcn, ksn⟩ := X
  obtain ⟨hx, hb, hml, hown, hts, hK, hI, hKs, hAW⟩ := O
  intro hy1 hy2 H locs la hP hS hl
  exact lv_aload hx hb hd (lv_at hl q hq) (k hy1 hy2 H locs la hP hS hl)
theorem go_aload_n {i : Nat} {f : Fin 4} {x : Nat} (O : Ok X w cc own Ts nL) (hd : decode cc pc = .ok (.aload_n f, 1)) (hi : (f : Nat) = i) (q : Nat) (hq : ls[q]? = some (i, .ref x)) (k : Go X l R w nL (pc + 1) ls (.ref x :: st) S) : Go X l R w nL pc ls (st) S := by
  obtain ⟨p, e, s, m, args, below, meth, c, Q, A, kcn, ksn⟩ := X
  obtain ⟨hx, hb, hml, hown, hts, hK, hI, hKs, hAW⟩ := O
  intro hy1 hy2 H locs la hP hS hl
  exact lv_aload_n hx hb hd hi (lv_at hl q hq) (k hy1 hy2 H locs la hP hS hl)
theorem go_istore {i : Nat} {x : Int32} {ls' : List (Nat × Value)} (O : Ok X w cc own Ts nL) (hd : decode cc pc = .ok (.istore i, 2)) (hn : i < nL) (hq : (i, Value.int x) :: ls.filter (fun q => !(q.1 == i) && !(q.1 + 1 == i && q.2.category == 2)) = ls') (k : Go X l R w nL (pc + 2) ls' st S) : Go X l R w nL pc ls (.int x :: st) S := by
  obtain ⟨p, e, s, m, args, below, meth, c, Q, A, kcn, ksn⟩ := X
  obtain ⟨hx, hb, hml, hown, hts, hK, hI, hKs, hAW⟩ := O
  intro hy1 hy2 H locs la hP hS hl
  exact lv_istore hx hb hd hl hn hq (fun la' hl' => k hy1 hy2 H locs la' hP hS hl')
theorem go_istore_n {i : Nat} {f : Fin 4} {x : Int32} {ls' : List (Nat × Value)} (O : Ok X w cc own Ts nL) (hd : decode cc pc = .ok (.istore_n f, 1)) (hi : (f : Nat) = i) (hn : i < nL) (hq : (i, Value.int x) :: ls.filter (fun q => !(q.1 == i) && !(q.1 + 1 == i && q.2.category == 2)) = ls') (k : Go X l R w nL (pc + 1) ls' st S) : Go X l R w nL pc ls (.int x :: st) S := by
  obtain ⟨p, e, s, m, args, below, meth, c, Q, A, kcn, ksn⟩ := X
  obtain ⟨hx, hb, hml, hown, hts, hK, hI, hKs, hAW⟩ := O
  intro hy1 hy2 H locs la hP hS hl
  exact lv_istore_n hx hb hd hi hl hn hq (fun la' hl' => k hy1 hy2 H locs la' hP hS hl')
theorem go_lstore {i : Nat} {x : Int64} {ls' : List (Nat × Value)} (O : Ok X w cc own Ts nL) (hd : decode cc pc = .ok (.lstore i, 2)) (hn : i + 1 < nL) (hq : (i, Value.long x) :: ls.filter (fun q => !(q.1 == i) && (!(q.1 == i + 1) && !(q.1 + 1 == i && q.2.category == 2))) = ls') (k : Go X l R w nL (pc + 2) ls' st S) : Go X l R w nL pc ls (.long x :: st) S := by
  obtain ⟨p, e, s, m, args, below, meth, c, Q, A, kcn, ksn⟩ := X
  obtain ⟨hx, hb, hml, hown, hts, hK, hI, hKs, hAW⟩ := O
  intro hy1 hy2 H locs la hP hS hl
  exact lv_lstore hx hb hd hl hn hq (fun la' hl' => k hy1 hy2 H locs la' hP hS hl')
theorem go_lstore_n {i : Nat} {f : Fin 4} {x : Int64} {ls' : List (Nat × Value)} (O : Ok X w cc own Ts nL) (hd : decode cc pc = .ok (.lstore_n f, 1)) (hi : (f : Nat) = i) (hn : i + 1 < nL) (hq : (i, Value.long x) :: ls.filter (fun q => !(q.1 == i) && (!(q.1 == i + 1) && !(q.1 + 1 == i && q.2.category == 2))) = ls') (k : Go X l R w nL (pc + 1) ls' st S) : Go X l R w nL pc ls (.long x :: st) S := by
  obtain ⟨p, e, s, m, args, below, meth, c, Q, A, kcn, ksn⟩ := X
  obtain ⟨hx, hb, hml, hown, hts, hK, hI, hKs, hAW⟩ := O
  intro hy1 hy2 H locs la hP hS hl
  exact lv_lstore_n hx hb hd hi hl hn hq (fun la' hl' => k hy1 hy2 H locs la' hP hS hl')
theorem go_astore {i : Nat} {x : Nat} {ls' : List (Nat × Value)} (O : Ok X w cc own Ts nL) (hd : decode cc pc = .ok (.astore i, 2)) (hn : i < nL) (hq : (i, Value.ref x) :: ls.filter (fun q => !(q.1 == i) && !(q.1 + 1 == i && q.2.category == 2)) = ls') (k : Go X l R w nL (pc + 2) ls' st S) : Go X l R w nL pc ls (.ref x :: st) S := by
  obtain ⟨p, e, s, m, args, below, meth, c, Q, A, kcn, ksn⟩ := X
  obtain ⟨hx, hb, hml, hown, hts, hK, hI, hKs, hAW⟩ := O
  intro hy1 hy2 H locs la hP hS hl
  exact lv_astore hx hb hd hl hn hq (fun la' hl' => k hy1 hy2 H locs la' hP hS hl')
theorem go_astore_n {i : Nat} {f : Fin 4} {x : Nat} {ls' : List (Nat × Value)} (O : Ok X w cc own Ts nL) (hd : decode cc pc = .ok (.astore_n f, 1)) (hi : (f : Nat) = i) (hn : i < nL) (hq : (i, Value.ref x) :: ls.filter (fun q => !(q.1 == i) && !(q.1 + 1 == i && q.2.category == 2)) = ls') (k : Go X l R w nL (pc + 1) ls' st S) : Go X l R w nL pc ls (.ref x :: st) S := by
  obtain ⟨p, e, s, m, args, below, meth, c, Q, A, kcn, ksn⟩ := X
  obtain ⟨hx, hb, hml, hown, hts, hK, hI, hKs, hAW⟩ := O
  intro hy1 hy2 H locs la hP hS hl
  exact lv_astore_n hx hb hd hi hl hn hq (fun la' hl' => k hy1 hy2 H locs la' hP hS hl')
theorem go_iinc {i : Nat} {n : Int} {x d : Int32} {ls' : List (Nat × Value)} (O : Ok X w cc own Ts nL) (hd : decode cc pc = .ok (.iinc i n, 3)) (q : Nat) (hk : ls[q]? = some (i, .int x)) (hv : Int32.ofInt n = d) (hn : i < nL) (hq : (i, Value.int (x + d)) :: ls.filter (fun q => !(q.1 == i) && !(q.1 + 1 == i && q.2.category == 2)) = ls') (k : Go X l R w nL (pc + 3) ls' st S) : Go X l R w nL pc ls st S := by
  obtain ⟨p, e, s, m, args, below, meth, c, Q, A, kcn, ksn⟩ := X
  obtain ⟨hx, hb, hml, hown, hts, hK, hI, hKs, hAW⟩ := O
  intro hy1 hy2 H locs la hP hS hl
  exact lv_iinc hx hb hd hl hk (by rw [hv]) hn hq (fun la' hl' => k hy1 hy2 H locs la' hP hS hl')
theorem go_topi {x x1 : Int32} (h : x1 = x) (k : Go X l R w nL pc ls (.int x1 :: st) S) : Go X l R w nL pc ls (.int x :: st) S := h ▸ k
theorem go_topl {x x1 : Int64} (h : x1 = x) (k : Go X l R w nL pc ls (.long x1 :: st) S) : Go X l R w nL pc ls (.long x :: st) S := h ▸ k
theorem go_top2i {x x1 : Int32} {a : Value} (h : x1 = x) (k : Go X l R w nL pc ls (a :: .int x1 :: st) S) : Go X l R w nL pc ls (a :: .int x :: st) S := h ▸ k
theorem ret_i {v r : Int32} (h : some v = some r) (k : Go X l R w nL pc ls [.int r] S) : Go X l R w nL pc ls [.int v] S := by cases h; exact k
theorem ret_wi {v r : Int32} {S1 : Sg} (h : some (v, S) = some (r, S1)) (k : Go X l R w nL pc ls [.int r] S1) : Go X l R w nL pc ls [.int v] S := by cases h; exact k
theorem ret_pi {p : Int32 × Sg} {r : Int32} {S1 : Sg} (h : some p = some (r, S1)) (k : Go X l R w nL pc ls [.int r] S1) : Go X l R w nL pc ls [.int p.1] p.2 := by cases h; exact k
theorem ret_l {v r : Int64} (h : some v = some r) (k : Go X l R w nL pc ls [.long r] S) : Go X l R w nL pc ls [.long v] S := by cases h; exact k
theorem ret_wl {v r : Int64} {S1 : Sg} (h : some (v, S) = some (r, S1)) (k : Go X l R w nL pc ls [.long r] S1) : Go X l R w nL pc ls [.long v] S := by cases h; exact k
theorem ret_pl {p : Int64 × Sg} {r : Int64} {S1 : Sg} (h : some p = some (r, S1)) (k : Go X l R w nL pc ls [.long r] S1) : Go X l R w nL pc ls [.long p.1] p.2 := by cases h; exact k
theorem ret_z {v r : Int32} (h : some v = some r) (k : vp_nar .boolean r = r → Go X l R w nL pc ls [.int r] S) (hz : vp_nar .boolean v = v) : Go X l R w nL pc ls [.int v] S := by cases h; exact k hz
theorem ret_wz {v r : Int32} {S1 : Sg} (h : some (v, S) = some (r, S1)) (k : vp_nar .boolean r = r → Go X l R w nL pc ls [.int r] S1) (hz : vp_nar .boolean v = v) : Go X l R w nL pc ls [.int v] S := by cases h; exact k hz
theorem ret_pz {p : Int32 × Sg} {r : Int32} {S1 : Sg} (h : some p = some (r, S1)) (k : vp_nar .boolean r = r → Go X l R w nL pc ls [.int r] S1) (hz : vp_nar .boolean p.1 = p.1) : Go X l R w nL pc ls [.int p.1] p.2 := by cases h; exact k hz
theorem ret_v {S1 : Sg} (h : some S = some S1) (k : Go X l R w nL pc ls [] S1) : Go X l R w nL pc ls [] S := by cases h; exact k
theorem ret_q {α : Type} {P : Prop} {a q : α} (h : some a = some q) (k : q = a → P) : P := k (Option.some.inj h).symm
theorem go_dup {a : Value} (O : Ok X w cc own Ts nL) (hd : decode cc pc = .ok (.dup, 1)) (ha : a.category = 1) (k : Go X l R w nL (pc + 1) ls (a :: a :: st) S) : Go X l R w nL pc ls (a :: st) S := by
  obtain ⟨p, e, s, m, args, below, meth, c, Q, A, kcn, ksn⟩ := X
  obtain ⟨hx, hb, hml, hown, hts, hK, hI, hKs, hAW⟩ := O
  intro hy1 hy2 H locs la hP hS hl
  exact lv_dup hx hb hd ha (k hy1 hy2 H locs la hP hS hl)
theorem go_dup_x1 {a b : Value} (O : Ok X w cc own Ts nL) (hd : decode cc pc = .ok (.dup_x1, 1)) (ha : a.category = 1) (h2 : b.category = 1) (k : Go X l R w nL (pc + 1) ls (a :: b :: a :: st) S) : Go X l R w nL pc ls (a :: b :: st) S := by
  obtain ⟨p, e, s, m, args, below, meth, c, Q, A, kcn, ksn⟩ := X
  obtain ⟨hx, hb, hml, hown, hts, hK, hI, hKs, hAW⟩ := O
  intro hy1 hy2 H locs la hP hS hl
  exact lv_dup_x1 hx hb hd ha h2 (k hy1 hy2 H locs la hP hS hl)
theorem go_dup2 {a b : Value} (O : Ok X w cc own Ts nL) (hd : decode cc pc = .ok (.dup2, 1)) (ha : a.category = 1) (h2 : b.category = 1) (k : Go X l R w nL (pc + 1) ls (a :: b :: a :: b :: st) S) : Go X l R w nL pc ls (a :: b :: st) S := by
  obtain ⟨p, e, s, m, args, below, meth, c, Q, A, kcn, ksn⟩ := X
  obtain ⟨hx, hb, hml, hown, hts, hK, hI, hKs, hAW⟩ := O
  intro hy1 hy2 H locs la hP hS hl
  exact lv_dup2_11 hx hb hd ha h2 (k hy1 hy2 H locs la hP hS hl)
theorem go_pop {a : Value} (O : Ok X w cc own Ts nL) (hd : decode cc pc = .ok (.pop, 1)) (ha : a.category = 1) (k : Go X l R w nL (pc + 1) ls (st) S) : Go X l R w nL pc ls (a :: st) S := by
  obtain ⟨p, e, s, m, args, below, meth, c, Q, A, kcn, ksn⟩ := X
  obtain ⟨hx, hb, hml, hown, hts, hK, hI, hKs, hAW⟩ := O
  intro hy1 hy2 H locs la hP hS hl
  exact lv_pop hx hb hd ha (k hy1 hy2 H locs la hP hS hl)
theorem go_iadd {x y : Int32} (O : Ok X w cc own Ts nL) (hd : decode cc pc = .ok (.iadd, 1)) (k : Go X l R w nL (pc + 1) ls (.int (x + y) :: st) S) : Go X l R w nL pc ls (.int y :: .int x :: st) S := by
  obtain ⟨p, e, s, m, args, below, meth, c, Q, A, kcn, ksn⟩ := X
  obtain ⟨hx, hb, hml, hown, hts, hK, hI, hKs, hAW⟩ := O
  intro hy1 hy2 H locs la hP hS hl
  exact lv_iadd hx hb hd (k hy1 hy2 H locs la hP hS hl)
theorem go_isub {x y : Int32} (O : Ok X w cc own Ts nL) (hd : decode cc pc = .ok (.isub, 1)) (k : Go X l R w nL (pc + 1) ls (.int (x - y) :: st) S) : Go X l R w nL pc ls (.int y :: .int x :: st) S := by
  obtain ⟨p, e, s, m, args, below, meth, c, Q, A, kcn, ksn⟩ := X
  obtain ⟨hx, hb, hml, hown, hts, hK, hI, hKs, hAW⟩ := O
  intro hy1 hy2 H locs la hP hS hl
  exact lv_isub hx hb hd (k hy1 hy2 H locs la hP hS hl)
theorem go_imul {x y : Int32} (O : Ok X w cc own Ts nL) (hd : decode cc pc = .ok (.imul, 1)) (k : Go X l R w nL (pc + 1) ls (.int (x * y) :: st) S) : Go X l R w nL pc ls (.int y :: .int x :: st) S := by
  obtain ⟨p, e, s, m, args, below, meth, c, Q, A, kcn, ksn⟩ := X
  obtain ⟨hx, hb, hml, hown, hts, hK, hI, hKs, hAW⟩ := O
  intro hy1 hy2 H locs la hP hS hl
  exact lv_imul hx hb hd (k hy1 hy2 H locs la hP hS hl)
theorem go_ishl {x y : Int32} (O : Ok X w cc own Ts nL) (hd : decode cc pc = .ok (.ishl, 1)) (k : Go X l R w nL (pc + 1) ls (.int (x <<< (y &&& 31)) :: st) S) : Go X l R w nL pc ls (.int y :: .int x :: st) S := by
  obtain ⟨p, e, s, m, args, below, meth, c, Q, A, kcn, ksn⟩ := X
  obtain ⟨hx, hb, hml, hown, hts, hK, hI, hKs, hAW⟩ := O
  intro hy1 hy2 H locs la hP hS hl
  exact lv_ishl hx hb hd (k hy1 hy2 H locs la hP hS hl)
theorem go_ishr {x y : Int32} (O : Ok X w cc own Ts nL) (hd : decode cc pc = .ok (.ishr, 1)) (k : Go X l R w nL (pc + 1) ls (.int (x >>> (y &&& 31)) :: st) S) : Go X l R w nL pc ls (.int y :: .int x :: st) S := by
  obtain ⟨p, e, s, m, args, below, meth, c, Q, A, kcn, ksn⟩ := X
  obtain ⟨hx, hb, hml, hown, hts, hK, hI, hKs, hAW⟩ := O
  intro hy1 hy2 H locs la hP hS hl
  exact lv_ishr hx hb hd (k hy1 hy2 H locs la hP hS hl)
theorem go_iand {x y : Int32} (O : Ok X w cc own Ts nL) (hd : decode cc pc = .ok (.iand, 1)) (k : Go X l R w nL (pc + 1) ls (.int (x &&& y) :: st) S) : Go X l R w nL pc ls (.int y :: .int x :: st) S := by
  obtain ⟨p, e, s, m, args, below, meth, c, Q, A, kcn, ksn⟩ := X
  obtain ⟨hx, hb, hml, hown, hts, hK, hI, hKs, hAW⟩ := O
  intro hy1 hy2 H locs la hP hS hl
  exact lv_iand hx hb hd (k hy1 hy2 H locs la hP hS hl)
theorem go_ior {x y : Int32} (O : Ok X w cc own Ts nL) (hd : decode cc pc = .ok (.ior, 1)) (k : Go X l R w nL (pc + 1) ls (.int (x ||| y) :: st) S) : Go X l R w nL pc ls (.int y :: .int x :: st) S := by
  obtain ⟨p, e, s, m, args, below, meth, c, Q, A, kcn, ksn⟩ := X
  obtain ⟨hx, hb, hml, hown, hts, hK, hI, hKs, hAW⟩ := O
  intro hy1 hy2 H locs la hP hS hl
  exact lv_ior hx hb hd (k hy1 hy2 H locs la hP hS hl)
theorem go_ixor {x y : Int32} (O : Ok X w cc own Ts nL) (hd : decode cc pc = .ok (.ixor, 1)) (k : Go X l R w nL (pc + 1) ls (.int (x ^^^ y) :: st) S) : Go X l R w nL pc ls (.int y :: .int x :: st) S := by
  obtain ⟨p, e, s, m, args, below, meth, c, Q, A, kcn, ksn⟩ := X
  obtain ⟨hx, hb, hml, hown, hts, hK, hI, hKs, hAW⟩ := O
  intro hy1 hy2 H locs la hP hS hl
  exact lv_ixor hx hb hd (k hy1 hy2 H locs la hP hS hl)
theorem go_ladd {x y : Int64} (O : Ok X w cc own Ts nL) (hd : decode cc pc = .ok (.ladd, 1)) (k : Go X l R w nL (pc + 1) ls (.long (x + y) :: st) S) : Go X l R w nL pc ls (.long y :: .long x :: st) S := by
  obtain ⟨p, e, s, m, args, below, meth, c, Q, A, kcn, ksn⟩ := X
  obtain ⟨hx, hb, hml, hown, hts, hK, hI, hKs, hAW⟩ := O
  intro hy1 hy2 H locs la hP hS hl
  exact lv_ladd hx hb hd (k hy1 hy2 H locs la hP hS hl)
theorem go_lsub {x y : Int64} (O : Ok X w cc own Ts nL) (hd : decode cc pc = .ok (.lsub, 1)) (k : Go X l R w nL (pc + 1) ls (.long (x - y) :: st) S) : Go X l R w nL pc ls (.long y :: .long x :: st) S := by
  obtain ⟨p, e, s, m, args, below, meth, c, Q, A, kcn, ksn⟩ := X
  obtain ⟨hx, hb, hml, hown, hts, hK, hI, hKs, hAW⟩ := O
  intro hy1 hy2 H locs la hP hS hl
  exact lv_lsub hx hb hd (k hy1 hy2 H locs la hP hS hl)
theorem go_lmul {x y : Int64} (O : Ok X w cc own Ts nL) (hd : decode cc pc = .ok (.lmul, 1)) (k : Go X l R w nL (pc + 1) ls (.long (x * y) :: st) S) : Go X l R w nL pc ls (.long y :: .long x :: st) S := by
  obtain ⟨p, e, s, m, args, below, meth, c, Q, A, kcn, ksn⟩ := X
  obtain ⟨hx, hb, hml, hown, hts, hK, hI, hKs, hAW⟩ := O
  intro hy1 hy2 H locs la hP hS hl
  exact lv_lmul hx hb hd (k hy1 hy2 H locs la hP hS hl)
theorem go_lor {x y : Int64} (O : Ok X w cc own Ts nL) (hd : decode cc pc = .ok (.lor, 1)) (k : Go X l R w nL (pc + 1) ls (.long (x ||| y) :: st) S) : Go X l R w nL pc ls (.long y :: .long x :: st) S := by
  obtain ⟨p, e, s, m, args, below, meth, c, Q, A, kcn, ksn⟩ := X
  obtain ⟨hx, hb, hml, hown, hts, hK, hI, hKs, hAW⟩ := O
  intro hy1 hy2 H locs la hP hS hl
  exact lv_lor hx hb hd (k hy1 hy2 H locs la hP hS hl)
theorem go_land {x y : Int64} (O : Ok X w cc own Ts nL) (hd : decode cc pc = .ok (.land, 1)) (k : Go X l R w nL (pc + 1) ls (.long (x &&& y) :: st) S) : Go X l R w nL pc ls (.long y :: .long x :: st) S := by
  obtain ⟨p, e, s, m, args, below, meth, c, Q, A, kcn, ksn⟩ := X
  obtain ⟨hx, hb, hml, hown, hts, hK, hI, hKs, hAW⟩ := O
  intro hy1 hy2 H locs la hP hS hl
  exact lv_land hx hb hd (k hy1 hy2 H locs la hP hS hl)
theorem go_idiv {x y : Int32} (O : Ok X w cc own Ts nL) (hd : decode cc pc = .ok (.idiv, 1)) (hne : ¬ y = 0) (k : Go X l R w nL (pc + 1) ls (.int (x / y) :: st) S) : Go X l R w nL pc ls (.int y :: .int x :: st) S := by
  obtain ⟨p, e, s, m, args, below, meth, c, Q, A, kcn, ksn⟩ := X
  obtain ⟨hx, hb, hml, hown, hts, hK, hI, hKs, hAW⟩ := O
  intro hy1 hy2 H locs la hP hS hl
  exact lv_idiv hx hb hd hne (k hy1 hy2 H locs la hP hS hl)
theorem go_irem {x y : Int32} (O : Ok X w cc own Ts nL) (hd : decode cc pc = .ok (.irem, 1)) (hne : ¬ y = 0) (k : Go X l R w nL (pc + 1) ls (.int (x - x / y * y) :: st) S) : Go X l R w nL pc ls (.int y :: .int x :: st) S := by
  obtain ⟨p, e, s, m, args, below, meth, c, Q, A, kcn, ksn⟩ := X
  obtain ⟨hx, hb, hml, hown, hts, hK, hI, hKs, hAW⟩ := O
  intro hy1 hy2 H locs la hP hS hl
  exact lv_irem hx hb hd hne (k hy1 hy2 H locs la hP hS hl)
theorem go_ldiv {x y : Int64} (O : Ok X w cc own Ts nL) (hd : decode cc pc = .ok (.ldiv, 1)) (hne : ¬ y = 0) (k : Go X l R w nL (pc + 1) ls (.long (x / y) :: st) S) : Go X l R w nL pc ls (.long y :: .long x :: st) S := by
  obtain ⟨p, e, s, m, args, below, meth, c, Q, A, kcn, ksn⟩ := X
  obtain ⟨hx, hb, hml, hown, hts, hK, hI, hKs, hAW⟩ := O
  intro hy1 hy2 H locs la hP hS hl
  exact lv_ldiv hx hb hd hne (k hy1 hy2 H locs la hP hS hl)
theorem go_lrem {x y : Int64} (O : Ok X w cc own Ts nL) (hd : decode cc pc = .ok (.lrem, 1)) (hne : ¬ y = 0) (k : Go X l R w nL (pc + 1) ls (.long (x - x / y * y) :: st) S) : Go X l R w nL pc ls (.long y :: .long x :: st) S := by
  obtain ⟨p, e, s, m, args, below, meth, c, Q, A, kcn, ksn⟩ := X
  obtain ⟨hx, hb, hml, hown, hts, hK, hI, hKs, hAW⟩ := O
  intro hy1 hy2 H locs la hP hS hl
  exact lv_lrem hx hb hd hne (k hy1 hy2 H locs la hP hS hl)
theorem go_ineg {x : Int32} (O : Ok X w cc own Ts nL) (hd : decode cc pc = .ok (.ineg, 1)) (k : Go X l R w nL (pc + 1) ls (.int (-x) :: st) S) : Go X l R w nL pc ls (.int x :: st) S := by
  obtain ⟨p, e, s, m, args, below, meth, c, Q, A, kcn, ksn⟩ := X
  obtain ⟨hx, hb, hml, hown, hts, hK, hI, hKs, hAW⟩ := O
  intro hy1 hy2 H locs la hP hS hl
  exact lv_ineg hx hb hd (k hy1 hy2 H locs la hP hS hl)
theorem go_iushr {x y v : Int32} (O : Ok X w cc own Ts nL) (hd : decode cc pc = .ok (.iushr, 1)) (hv : (x.toUInt32 >>> (y.toUInt32 &&& Int32.toUInt32 31)).toInt32 = v) (k : Go X l R w nL (pc + 1) ls (.int v :: st) S) : Go X l R w nL pc ls (.int y :: .int x :: st) S := by
  obtain ⟨p, e, s, m, args, below, meth, c, Q, A, kcn, ksn⟩ := X
  obtain ⟨hx, hb, hml, hown, hts, hK, hI, hKs, hAW⟩ := O
  intro hy1 hy2 H locs la hP hS hl
  exact lv_iushr hx hb hd hv (k hy1 hy2 H locs la hP hS hl)
theorem go_lushr {x v : Int64} {y : Int32} (O : Ok X w cc own Ts nL) (hd : decode cc pc = .ok (.lushr, 1)) (hv : (x.toUInt64 >>> (y.toInt64.toUInt64 &&& Int64.toUInt64 63)).toInt64 = v) (k : Go X l R w nL (pc + 1) ls (.long v :: st) S) : Go X l R w nL pc ls (.int y :: .long x :: st) S := by
  obtain ⟨p, e, s, m, args, below, meth, c, Q, A, kcn, ksn⟩ := X
  obtain ⟨hx, hb, hml, hown, hts, hK, hI, hKs, hAW⟩ := O
  intro hy1 hy2 H locs la hP hS hl
  exact lv_lushr hx hb hd hv (k hy1 hy2 H locs la hP hS hl)
theorem go_lshl {x v : Int64} {y : Int32} (O : Ok X w cc own Ts nL) (hd : decode cc pc = .ok (.lshl, 1)) (hv : x <<< (y.toInt64 &&& 63) = v) (k : Go X l R w nL (pc + 1) ls (.long v :: st) S) : Go X l R w nL pc ls (.int y :: .long x :: st) S := by
  obtain ⟨p, e, s, m, args, below, meth, c, Q, A, kcn, ksn⟩ := X
  obtain ⟨hx, hb, hml, hown, hts, hK, hI, hKs, hAW⟩ := O
  intro hy1 hy2 H locs la hP hS hl
  exact lv_lshl hx hb hd hv (k hy1 hy2 H locs la hP hS hl)
theorem go_i2l {x : Int32} {v : Int64} (O : Ok X w cc own Ts nL) (hd : decode cc pc = .ok (.i2l, 1)) (hv : x.toInt64 = v) (k : Go X l R w nL (pc + 1) ls (.long v :: st) S) : Go X l R w nL pc ls (.int x :: st) S := by
  obtain ⟨p, e, s, m, args, below, meth, c, Q, A, kcn, ksn⟩ := X
  obtain ⟨hx, hb, hml, hown, hts, hK, hI, hKs, hAW⟩ := O
  intro hy1 hy2 H locs la hP hS hl
  exact lv_i2l hx hb hd hv (k hy1 hy2 H locs la hP hS hl)
theorem go_l2i {x : Int64} {v : Int32} (O : Ok X w cc own Ts nL) (hd : decode cc pc = .ok (.l2i, 1)) (hv : x.toInt32 = v) (k : Go X l R w nL (pc + 1) ls (.int v :: st) S) : Go X l R w nL pc ls (.long x :: st) S := by
  obtain ⟨p, e, s, m, args, below, meth, c, Q, A, kcn, ksn⟩ := X
  obtain ⟨hx, hb, hml, hown, hts, hK, hI, hKs, hAW⟩ := O
  intro hy1 hy2 H locs la hP hS hl
  exact lv_l2i hx hb hd hv (k hy1 hy2 H locs la hP hS hl)
theorem go_i2b {x v : Int32} (O : Ok X w cc own Ts nL) (hd : decode cc pc = .ok (.i2b, 1)) (hv : x.toInt8.toInt32 = v) (k : Go X l R w nL (pc + 1) ls (.int v :: st) S) : Go X l R w nL pc ls (.int x :: st) S := by
  obtain ⟨p, e, s, m, args, below, meth, c, Q, A, kcn, ksn⟩ := X
  obtain ⟨hx, hb, hml, hown, hts, hK, hI, hKs, hAW⟩ := O
  intro hy1 hy2 H locs la hP hS hl
  exact lv_i2b hx hb hd hv (k hy1 hy2 H locs la hP hS hl)
theorem go_lcmp {x y : Int64} (O : Ok X w cc own Ts nL) (hd : decode cc pc = .ok (.lcmp, 1)) (k : Go X l R w nL (pc + 1) ls (.int (lg_cmp x y) :: st) S) : Go X l R w nL pc ls (.long y :: .long x :: st) S := by
  obtain ⟨p, e, s, m, args, below, meth, c, Q, A, kcn, ksn⟩ := X
  obtain ⟨hx, hb, hml, hown, hts, hK, hI, hKs, hAW⟩ := O
  intro hy1 hy2 H locs la hP hS hl
  exact W.lcmp hx hb hd (k hy1 hy2 H locs la hP hS hl)
theorem go_if_eq {x : Int32} {off : Int} {tgt : Nat} (O : Ok X w cc own Ts nL) (hd : decode cc pc = .ok (.ifCond .eq off, 3)) (ht : (pc : Int) + off = (tgt : Int)) (kt : x = 0 → Go X l R w nL tgt ls st S) (kf : ¬ x = 0 → Go X l R w nL (pc + 3) ls st S) : Go X l R w nL pc ls (.int x :: st) S := by
  obtain ⟨p, e, s, m, args, below, meth, c, Q, A, kcn, ksn⟩ := X
  obtain ⟨hx, hb, hml, hown, hts, hK, hI, hKs, hAW⟩ := O
  intro hy1 hy2 H locs la hP hS hl
  exact lv_if_eq hx hb hd ht (fun h => kt h hy1 hy2 H locs la hP hS hl) (fun h => kf h hy1 hy2 H locs la hP hS hl)
theorem go_if_ne {x : Int32} {off : Int} {tgt : Nat} (O : Ok X w cc own Ts nL) (hd : decode cc pc = .ok (.ifCond .ne off, 3)) (ht : (pc : Int) + off = (tgt : Int)) (kt : ¬ x = 0 → Go X l R w nL tgt ls st S) (kf : x = 0 → Go X l R w nL (pc + 3) ls st S) : Go X l R w nL pc ls (.int x :: st) S := by
  obtain ⟨p, e, s, m, args, below, meth, c, Q, A, kcn, ksn⟩ := X
  obtain ⟨hx, hb, hml, hown, hts, hK, hI, hKs, hAW⟩ := O
  intro hy1 hy2 H locs la hP hS hl
  exact lv_if_ne hx hb hd ht (fun h => kt h hy1 hy2 H locs la hP hS hl) (fun h => kf h hy1 hy2 H locs la hP hS hl)
theorem go_if_lt {x : Int32} {off : Int} {tgt : Nat} (O : Ok X w cc own Ts nL) (hd : decode cc pc = .ok (.ifCond .lt off, 3)) (ht : (pc : Int) + off = (tgt : Int)) (kt : x < 0 → Go X l R w nL tgt ls st S) (kf : ¬ x < 0 → Go X l R w nL (pc + 3) ls st S) : Go X l R w nL pc ls (.int x :: st) S := by
  obtain ⟨p, e, s, m, args, below, meth, c, Q, A, kcn, ksn⟩ := X
  obtain ⟨hx, hb, hml, hown, hts, hK, hI, hKs, hAW⟩ := O
  intro hy1 hy2 H locs la hP hS hl
  exact lv_if_lt hx hb hd ht (fun h => kt h hy1 hy2 H locs la hP hS hl) (fun h => kf h hy1 hy2 H locs la hP hS hl)
theorem go_if_ge {x : Int32} {off : Int} {tgt : Nat} (O : Ok X w cc own Ts nL) (hd : decode cc pc = .ok (.ifCond .ge off, 3)) (ht : (pc : Int) + off = (tgt : Int)) (kt : 0 ≤ x → Go X l R w nL tgt ls st S) (kf : ¬ 0 ≤ x → Go X l R w nL (pc + 3) ls st S) : Go X l R w nL pc ls (.int x :: st) S := by
  obtain ⟨p, e, s, m, args, below, meth, c, Q, A, kcn, ksn⟩ := X
  obtain ⟨hx, hb, hml, hown, hts, hK, hI, hKs, hAW⟩ := O
  intro hy1 hy2 H locs la hP hS hl
  exact lv_if_ge hx hb hd ht (fun h => kt h hy1 hy2 H locs la hP hS hl) (fun h => kf h hy1 hy2 H locs la hP hS hl)
theorem go_if_gt {x : Int32} {off : Int} {tgt : Nat} (O : Ok X w cc own Ts nL) (hd : decode cc pc = .ok (.ifCond .gt off, 3)) (ht : (pc : Int) + off = (tgt : Int)) (kt : 0 < x → Go X l R w nL tgt ls st S) (kf : ¬ 0 < x → Go X l R w nL (pc + 3) ls st S) : Go X l R w nL pc ls (.int x :: st) S := by
  obtain ⟨p, e, s, m, args, below, meth, c, Q, A, kcn, ksn⟩ := X
  obtain ⟨hx, hb, hml, hown, hts, hK, hI, hKs, hAW⟩ := O
  intro hy1 hy2 H locs la hP hS hl
  exact lv_if_gt hx hb hd ht (fun h => kt h hy1 hy2 H locs la hP hS hl) (fun h => kf h hy1 hy2 H locs la hP hS hl)
theorem go_if_le {x : Int32} {off : Int} {tgt : Nat} (O : Ok X w cc own Ts nL) (hd : decode cc pc = .ok (.ifCond .le off, 3)) (ht : (pc : Int) + off = (tgt : Int)) (kt : x ≤ 0 → Go X l R w nL tgt ls st S) (kf : ¬ x ≤ 0 → Go X l R w nL (pc + 3) ls st S) : Go X l R w nL pc ls (.int x :: st) S := by
  obtain ⟨p, e, s, m, args, below, meth, c, Q, A, kcn, ksn⟩ := X
  obtain ⟨hx, hb, hml, hown, hts, hK, hI, hKs, hAW⟩ := O
  intro hy1 hy2 H locs la hP hS hl
  exact lv_if_le hx hb hd ht (fun h => kt h hy1 hy2 H locs la hP hS hl) (fun h => kf h hy1 hy2 H locs la hP hS hl)
theorem go_icmp_eq {x y : Int32} {off : Int} {tgt : Nat} (O : Ok X w cc own Ts nL) (hd : decode cc pc = .ok (.if_icmp .eq off, 3)) (ht : (pc : Int) + off = (tgt : Int)) (kt : x = y → Go X l R w nL tgt ls st S) (kf : ¬ x = y → Go X l R w nL (pc + 3) ls st S) : Go X l R w nL pc ls (.int y :: .int x :: st) S := by
  obtain ⟨p, e, s, m, args, below, meth, c, Q, A, kcn, ksn⟩ := X
  obtain ⟨hx, hb, hml, hown, hts, hK, hI, hKs, hAW⟩ := O
  intro hy1 hy2 H locs la hP hS hl
  exact lv_icmp_eq hx hb hd ht (fun h => kt h hy1 hy2 H locs la hP hS hl) (fun h => kf h hy1 hy2 H locs la hP hS hl)
theorem go_icmp_ne {x y : Int32} {off : Int} {tgt : Nat} (O : Ok X w cc own Ts nL) (hd : decode cc pc = .ok (.if_icmp .ne off, 3)) (ht : (pc : Int) + off = (tgt : Int)) (kt : ¬ x = y → Go X l R w nL tgt ls st S) (kf : x = y → Go X l R w nL (pc + 3) ls st S) : Go X l R w nL pc ls (.int y :: .int x :: st) S := by
  obtain ⟨p, e, s, m, args, below, meth, c, Q, A, kcn, ksn⟩ := X
  obtain ⟨hx, hb, hml, hown, hts, hK, hI, hKs, hAW⟩ := O
  intro hy1 hy2 H locs la hP hS hl
  exact lv_icmp_ne hx hb hd ht (fun h => kt h hy1 hy2 H locs la hP hS hl) (fun h => kf h hy1 hy2 H locs la hP hS hl)
theorem go_icmp_lt {x y : Int32} {off : Int} {tgt : Nat} (O : Ok X w cc own Ts nL) (hd : decode cc pc = .ok (.if_icmp .lt off, 3)) (ht : (pc : Int) + off = (tgt : Int)) (kt : x < y → Go X l R w nL tgt ls st S) (kf : ¬ x < y → Go X l R w nL (pc + 3) ls st S) : Go X l R w nL pc ls (.int y :: .int x :: st) S := by
  obtain ⟨p, e, s, m, args, below, meth, c, Q, A, kcn, ksn⟩ := X
  obtain ⟨hx, hb, hml, hown, hts, hK, hI, hKs, hAW⟩ := O
  intro hy1 hy2 H locs la hP hS hl
  exact lv_icmp_lt hx hb hd ht (fun h => kt h hy1 hy2 H locs la hP hS hl) (fun h => kf h hy1 hy2 H locs la hP hS hl)
theorem go_icmp_ge {x y : Int32} {off : Int} {tgt : Nat} (O : Ok X w cc own Ts nL) (hd : decode cc pc = .ok (.if_icmp .ge off, 3)) (ht : (pc : Int) + off = (tgt : Int)) (kt : y ≤ x → Go X l R w nL tgt ls st S) (kf : ¬ y ≤ x → Go X l R w nL (pc + 3) ls st S) : Go X l R w nL pc ls (.int y :: .int x :: st) S := by
  obtain ⟨p, e, s, m, args, below, meth, c, Q, A, kcn, ksn⟩ := X
  obtain ⟨hx, hb, hml, hown, hts, hK, hI, hKs, hAW⟩ := O
  intro hy1 hy2 H locs la hP hS hl
  exact lv_icmp_ge hx hb hd ht (fun h => kt h hy1 hy2 H locs la hP hS hl) (fun h => kf h hy1 hy2 H locs la hP hS hl)
theorem go_icmp_gt {x y : Int32} {off : Int} {tgt : Nat} (O : Ok X w cc own Ts nL) (hd : decode cc pc = .ok (.if_icmp .gt off, 3)) (ht : (pc : Int) + off = (tgt : Int)) (kt : y < x → Go X l R w nL tgt ls st S) (kf : ¬ y < x → Go X l R w nL (pc + 3) ls st S) : Go X l R w nL pc ls (.int y :: .int x :: st) S := by
  obtain ⟨p, e, s, m, args, below, meth, c, Q, A, kcn, ksn⟩ := X
  obtain ⟨hx, hb, hml, hown, hts, hK, hI, hKs, hAW⟩ := O
  intro hy1 hy2 H locs la hP hS hl
  exact lv_icmp_gt hx hb hd ht (fun h => kt h hy1 hy2 H locs la hP hS hl) (fun h => kf h hy1 hy2 H locs la hP hS hl)
theorem go_icmp_le {x y : Int32} {off : Int} {tgt : Nat} (O : Ok X w cc own Ts nL) (hd : decode cc pc = .ok (.if_icmp .le off, 3)) (ht : (pc : Int) + off = (tgt : Int)) (kt : x ≤ y → Go X l R w nL tgt ls st S) (kf : ¬ x ≤ y → Go X l R w nL (pc + 3) ls st S) : Go X l R w nL pc ls (.int y :: .int x :: st) S := by
  obtain ⟨p, e, s, m, args, below, meth, c, Q, A, kcn, ksn⟩ := X
  obtain ⟨hx, hb, hml, hown, hts, hK, hI, hKs, hAW⟩ := O
  intro hy1 hy2 H locs la hP hS hl
  exact lv_icmp_le hx hb hd ht (fun h => kt h hy1 hy2 H locs la hP hS hl) (fun h => kf h hy1 hy2 H locs la hP hS hl)
theorem go_goto {off : Int} {tgt : Nat} (O : Ok X w cc own Ts nL) (hd : decode cc pc = .ok (.goto off, 3)) (ht : (pc : Int) + off = (tgt : Int)) (k : Go X l R w nL tgt ls st S) : Go X l R w nL pc ls st S := by
  obtain ⟨p, e, s, m, args, below, meth, c, Q, A, kcn, ksn⟩ := X
  obtain ⟨hx, hb, hml, hown, hts, hK, hI, hKs, hAW⟩ := O
  intro hy1 hy2 H locs la hP hS hl
  exact lv_goto hx hb hd ht (k hy1 hy2 H locs la hP hS hl)
theorem go_tblIn {dflt lo hi : Int} {offs : Array Int} {len : Nat} {x : Int32} {off : Int} {tgt : Nat} (O : Ok X w cc own Ts nL) (hd : decode cc pc = .ok (.tableswitch dflt lo hi offs, len)) (h1 : ¬ x.toInt < lo) (h2 : ¬ hi < x.toInt) (ho : offs[(x.toInt - lo).toNat]? = some off) (ht : (pc : Int) + off = (tgt : Int)) (k : Go X l R w nL tgt ls st S) : Go X l R w nL pc ls (.int x :: st) S := by
  obtain ⟨p, e, s, m, args, below, meth, c, Q, A, kcn, ksn⟩ := X
  obtain ⟨hx, hb, hml, hown, hts, hK, hI, hKs, hAW⟩ := O
  intro hy1 hy2 H locs la hP hS hl
  exact lv_tableIn hx hb hd h1 h2 ho ht (k hy1 hy2 H locs la hP hS hl)
theorem go_tblOut {dflt lo hi : Int} {offs : Array Int} {len : Nat} {x : Int32} {tgt : Nat} (O : Ok X w cc own Ts nL) (hd : decode cc pc = .ok (.tableswitch dflt lo hi offs, len)) (h : x.toInt < lo ∨ hi < x.toInt) (ht : (pc : Int) + dflt = (tgt : Int)) (k : Go X l R w nL tgt ls st S) : Go X l R w nL pc ls (.int x :: st) S := by
  obtain ⟨p, e, s, m, args, below, meth, c, Q, A, kcn, ksn⟩ := X
  obtain ⟨hx, hb, hml, hown, hts, hK, hI, hKs, hAW⟩ := O
  intro hy1 hy2 H locs la hP hS hl
  exact lv_tableOut hx hb hd h ht (k hy1 hy2 H locs la hP hS hl)
theorem go_perm {ls' : List (Nat × Value)} (ks : List Nat) (h : lv_pick ls ks = ls') (k : Go X l R w nL pc ls' st S) : Go X l R w nL pc ls st S := by
  obtain ⟨p, e, s, m, args, below, meth, c, Q, A, kcn, ksn⟩ := X
  intro hy1 hy2 H locs la hP hS hl
  exact k hy1 hy2 H locs la hP hS (lv_sub hl ks h)
theorem go_get {i k ci j M : Nat} {ref C : String} {T : u_T} {fs : List Value} {v : Value} (O : Ok X w cc own Ts nL) (hk : k < w.2.1) (hcv : w.2.2 k (S.1 k) (S.2 k) = .inr (ci, fs)) (hc : vwCl[ci]? = some (C, T, M)) (hin : ∀ x ∈ u_ws C T M, x ∈ Ts) (hj : j < M) (hlink : Cond.fieldLink own i ref (T j).2.1 (T j).2.2.1 ∈ Ts) (href : (T j).1 = ref) (hv : fs[j]? = some v) (hd : decode cc pc = .ok (.getfield i, 3)) (kk : Go X l R w nL (pc + 3) ls (v :: st) S) : Go X l R w nL pc ls (.ref (w.1.2.1 k) :: st) S := by
  obtain ⟨p, e, s, m, args, below, meth, c, Q, A, kcn, ksn⟩ := X
  obtain ⟨hx, hb, hml, hown, hts, hK, hI, hKs, hAW⟩ := O
  intro hy1 hy2 H locs la hP hS hl
  exact va_get hx hb hts hin hown hK hP k (wcells_at hk hcv) hc j hj (hts _ hlink) (by rw [href]; exact fun _ h => h) hv hd (kk hy1 hy2 H locs la hP hS hl)
theorem go_putI {i k ci j M : Nat} {ref C : String} {T : u_T} {fs : List Value} {x : Int32} {S1 : Sg} (O : Ok X w cc own Ts nL) (hk : k < w.2.1) (hcv : w.2.2 k (S.1 k) (S.2 k) = .inr (ci, fs)) (hc : vwCl[ci]? = some (C, T, M)) (hin : ∀ x ∈ u_ws C T M, x ∈ Ts) (hj : j < M) (hlink : Cond.fieldLink own i ref (T j).2.1 (T j).2.2.1 ∈ Ts) (href : (T j).1 = ref) (ty0 : Nat → FieldType) (hty : ∀ k, k < M → parseFieldDescriptor (T k).2.2.1 = some (ty0 k)) (hnm : ∀ a, a < M → ∀ b, b < M → a ≠ b → (T a).2.1 ≠ (T b).2.1) (hfin : (T j).2.2.2 = false) (hd0 : parseFieldDescriptor (T j).2.2.1 = some .int) (hl0 : j < fs.length) (hcv1 : w.2.2 k (upd (S.1 k) j x) (S.2 k) = .inr (ci, fs.set j (.int x))) (hd : decode cc pc = .ok (.putfield i, 3)) (hs : S1 = wI S k j x) (kk : Go X l R w nL (pc + 3) ls st S1) : Go X l R w nL pc ls (.int x :: .ref (w.1.2.1 k) :: st) S := by
  obtain ⟨p, e, s, m, args, below, meth, c, Q, A, kcn, ksn⟩ := X
  obtain ⟨hx, hb, hml, hown, hts, hK, hI, hKs, hAW⟩ := O
  intro hy1 hy2 H locs la hP hS hl
  subst hs
  refine va_put hx hb hts hin ty0 hty hnm hown hK hP (wDA hI hAW) hS k (wcells_at hk hcv) hc j hj (hts _ hlink) (by rw [href]; exact fun _ h => h) hfin hd0 rfl rfl hl0 hd (fun H1 locs1 hP1 _ hS1 => kk hy1 hy2 H1 locs1 la ?_ hS1 hl)
  exact (wcells_set (e := .inr (ci, fs.set j (.int x))) hk (by rw [wI_s]; exact hcv1) wI_o) ▸ hP1
theorem go_putL {i k ci j M : Nat} {ref C : String} {T : u_T} {fs : List Value} {x : Int64} {S1 : Sg} (O : Ok X w cc own Ts nL) (hk : k < w.2.1) (hcv : w.2.2 k (S.1 k) (S.2 k) = .inr (ci, fs)) (hc : vwCl[ci]? = some (C, T, M)) (hin : ∀ x ∈ u_ws C T M, x ∈ Ts) (hj : j < M) (hlink : Cond.fieldLink own i ref (T j).2.1 (T j).2.2.1 ∈ Ts) (href : (T j).1 = ref) (ty0 : Nat → FieldType) (hty : ∀ k, k < M → parseFieldDescriptor (T k).2.2.1 = some (ty0 k)) (hnm : ∀ a, a < M → ∀ b, b < M → a ≠ b → (T a).2.1 ≠ (T b).2.1) (hfin : (T j).2.2.2 = false) (hd0 : parseFieldDescriptor (T j).2.2.1 = some .long) (hl0 : j < fs.length) (hcv1 : w.2.2 k (S.1 k) (vp_updL (S.2 k) j x) = .inr (ci, fs.set j (.long x))) (hd : decode cc pc = .ok (.putfield i, 3)) (hs : S1 = wL S k j x) (kk : Go X l R w nL (pc + 3) ls st S1) : Go X l R w nL pc ls (.long x :: .ref (w.1.2.1 k) :: st) S := by
  obtain ⟨p, e, s, m, args, below, meth, c, Q, A, kcn, ksn⟩ := X
  obtain ⟨hx, hb, hml, hown, hts, hK, hI, hKs, hAW⟩ := O
  intro hy1 hy2 H locs la hP hS hl
  subst hs
  refine va_put hx hb hts hin ty0 hty hnm hown hK hP (wDA hI hAW) hS k (wcells_at hk hcv) hc j hj (hts _ hlink) (by rw [href]; exact fun _ h => h) hfin hd0 rfl rfl hl0 hd (fun H1 locs1 hP1 _ hS1 => kk hy1 hy2 H1 locs1 la ?_ hS1 hl)
  exact (wcells_set (e := .inr (ci, fs.set j (.long x))) hk (by rw [wL_s]; exact hcv1) wL_o) ▸ hP1
theorem go_iald {k n : Nat} {i : Int32} (O : Ok X w cc own Ts nL) (hk : k < w.2.1) (hcv : w.2.2 k (S.1 k) (S.2 k) = .inl (w.1.2.2.1 0, n, .inl (S.1 k))) (hi : vp_in i n) (hd : decode cc pc = .ok (.iaload, 1)) (kk : Go X l R w nL (pc + 1) ls (.int (S.1 k i.toNatClampNeg) :: st) S) : Go X l R w nL pc ls (.int i :: .ref (w.1.2.1 k) :: st) S := by
  obtain ⟨p, e, s, m, args, below, meth, c, Q, A, kcn, ksn⟩ := X
  obtain ⟨hx, hb, hml, hown, hts, hK, hI, hKs, hAW⟩ := O
  intro hy1 hy2 H locs la hP hS hl
  exact va_iald hx hb hK hP k 0 (wcells_at hk hcv) rfl hi hd (kk hy1 hy2 H locs la hP hS hl)
theorem go_bald {k n : Nat} {i : Int32} (O : Ok X w cc own Ts nL) (hk : k < w.2.1) (hcv : w.2.2 k (S.1 k) (S.2 k) = .inl (w.1.2.2.1 1, n, .inl (S.1 k))) (hi : vp_in i n) (hd : decode cc pc = .ok (.baload, 1)) (kk : Go X l R w nL (pc + 1) ls (.int (S.1 k i.toNatClampNeg) :: st) S) : Go X l R w nL pc ls (.int i :: .ref (w.1.2.1 k) :: st) S := by
  obtain ⟨p, e, s, m, args, below, meth, c, Q, A, kcn, ksn⟩ := X
  obtain ⟨hx, hb, hml, hown, hts, hK, hI, hKs, hAW⟩ := O
  intro hy1 hy2 H locs la hP hS hl
  exact va_bald hx hb hK hP k 1 (wcells_at hk hcv) rfl hi hd (kk hy1 hy2 H locs la hP hS hl)
theorem go_zald {k n : Nat} {i : Int32} (O : Ok X w cc own Ts nL) (hk : k < w.2.1) (hcv : w.2.2 k (S.1 k) (S.2 k) = .inl (w.1.2.2.1 2, n, .inl (S.1 k))) (hi : vp_in i n) (hd : decode cc pc = .ok (.baload, 1)) (kk : Go X l R w nL (pc + 1) ls (.int (S.1 k i.toNatClampNeg) :: st) S) : Go X l R w nL pc ls (.int i :: .ref (w.1.2.1 k) :: st) S := by
  obtain ⟨p, e, s, m, args, below, meth, c, Q, A, kcn, ksn⟩ := X
  obtain ⟨hx, hb, hml, hown, hts, hK, hI, hKs, hAW⟩ := O
  intro hy1 hy2 H locs la hP hS hl
  exact va_zald hx hb hK hP k 2 (wcells_at hk hcv) rfl hi hd (kk hy1 hy2 H locs la hP hS hl)
theorem go_lald {k n : Nat} {i : Int32} (O : Ok X w cc own Ts nL) (hk : k < w.2.1) (hcv : w.2.2 k (S.1 k) (S.2 k) = .inl (w.1.2.2.1 3, n, .inr (.inl (S.2 k)))) (hi : vp_in i n) (hd : decode cc pc = .ok (.laload, 1)) (kk : Go X l R w nL (pc + 1) ls (.long (S.2 k i.toNatClampNeg) :: st) S) : Go X l R w nL pc ls (.int i :: .ref (w.1.2.1 k) :: st) S := by
  obtain ⟨p, e, s, m, args, below, meth, c, Q, A, kcn, ksn⟩ := X
  obtain ⟨hx, hb, hml, hown, hts, hK, hI, hKs, hAW⟩ := O
  intro hy1 hy2 H locs la hP hS hl
  exact va_lald hx hb hK hP k 3 (wcells_at hk hcv) rfl hi hd (kk hy1 hy2 H locs la hP hS hl)
theorem go_iast {k n : Nat} {i x : Int32} {S1 : Sg} (O : Ok X w cc own Ts nL) (hk : k < w.2.1) (hcv : ∀ f, w.2.2 k f (S.2 k) = .inl (w.1.2.2.1 0, n, .inl f)) (hi : vp_in i n) (hd : decode cc pc = .ok (.iastore, 1)) (hs : S1 = wI S k i.toNatClampNeg x) (kk : Go X l R w nL (pc + 1) ls st S1) : Go X l R w nL pc ls (.int x :: .int i :: .ref (w.1.2.1 k) :: st) S := by
  obtain ⟨p, e, s, m, args, below, meth, c, Q, A, kcn, ksn⟩ := X
  obtain ⟨hx, hb, hml, hown, hts, hK, hI, hKs, hAW⟩ := O
  intro hy1 hy2 H locs la hP hS hl
  subst hs
  refine va_iast hx hb hK hP (wDA hI hAW) hS k 0 (wcells_at hk (hcv _)) rfl hi hd (fun H1 locs1 hP1 _ hS1 => kk hy1 hy2 H1 locs1 la ?_ hS1 hl)
  exact (wcells_set (e := .inl (w.1.2.2.1 0, n, .inl (upd (S.1 k) i.toNatClampNeg x))) hk (by rw [wI_s]; exact hcv _) wI_o) ▸ hP1
theorem go_bast {k n : Nat} {i x : Int32} {S1 : Sg} (O : Ok X w cc own Ts nL) (hk : k < w.2.1) (hcv : ∀ f, w.2.2 k f (S.2 k) = .inl (w.1.2.2.1 1, n, .inl f)) (hi : vp_in i n) (hd : decode cc pc = .ok (.bastore, 1)) (hs : S1 = wI S k i.toNatClampNeg (vp_nar .byte x)) (kk : Go X l R w nL (pc + 1) ls st S1) : Go X l R w nL pc ls (.int x :: .int i :: .ref (w.1.2.1 k) :: st) S := by
  obtain ⟨p, e, s, m, args, below, meth, c, Q, A, kcn, ksn⟩ := X
  obtain ⟨hx, hb, hml, hown, hts, hK, hI, hKs, hAW⟩ := O
  intro hy1 hy2 H locs la hP hS hl
  subst hs
  refine va_bast hx hb hK hP (wDA hI hAW) hS k 1 (wcells_at hk (hcv _)) rfl hi hd (fun H1 locs1 hP1 _ hS1 => kk hy1 hy2 H1 locs1 la ?_ hS1 hl)
  exact (wcells_set (e := .inl (w.1.2.2.1 1, n, .inl (upd (S.1 k) i.toNatClampNeg (vp_nar .byte x)))) hk (by rw [wI_s]; exact hcv _) wI_o) ▸ hP1
theorem go_zast {k n : Nat} {i x : Int32} {S1 : Sg} (O : Ok X w cc own Ts nL) (hk : k < w.2.1) (hcv : ∀ f, w.2.2 k f (S.2 k) = .inl (w.1.2.2.1 2, n, .inl f)) (hi : vp_in i n) (hd : decode cc pc = .ok (.bastore, 1)) (hs : S1 = wI S k i.toNatClampNeg (vp_nar .boolean x)) (kk : Go X l R w nL (pc + 1) ls st S1) : Go X l R w nL pc ls (.int x :: .int i :: .ref (w.1.2.1 k) :: st) S := by
  obtain ⟨p, e, s, m, args, below, meth, c, Q, A, kcn, ksn⟩ := X
  obtain ⟨hx, hb, hml, hown, hts, hK, hI, hKs, hAW⟩ := O
  intro hy1 hy2 H locs la hP hS hl
  subst hs
  refine va_zast hx hb hK hP (wDA hI hAW) hS k 2 (wcells_at hk (hcv _)) rfl hi hd (fun H1 locs1 hP1 _ hS1 => kk hy1 hy2 H1 locs1 la ?_ hS1 hl)
  exact (wcells_set (e := .inl (w.1.2.2.1 2, n, .inl (upd (S.1 k) i.toNatClampNeg (vp_nar .boolean x)))) hk (by rw [wI_s]; exact hcv _) wI_o) ▸ hP1
theorem go_last {k n : Nat} {i : Int32} {x : Int64} {S1 : Sg} (O : Ok X w cc own Ts nL) (hk : k < w.2.1) (hcv : ∀ f, w.2.2 k (S.1 k) f = .inl (w.1.2.2.1 3, n, .inr (.inl f))) (hi : vp_in i n) (hd : decode cc pc = .ok (.lastore, 1)) (hs : S1 = wL S k i.toNatClampNeg x) (kk : Go X l R w nL (pc + 1) ls st S1) : Go X l R w nL pc ls (.long x :: .int i :: .ref (w.1.2.1 k) :: st) S := by
  obtain ⟨p, e, s, m, args, below, meth, c, Q, A, kcn, ksn⟩ := X
  obtain ⟨hx, hb, hml, hown, hts, hK, hI, hKs, hAW⟩ := O
  intro hy1 hy2 H locs la hP hS hl
  subst hs
  refine va_last hx hb hK hP (wDA hI hAW) hS k 3 (wcells_at hk (hcv _)) rfl hi hd (fun H1 locs1 hP1 _ hS1 => kk hy1 hy2 H1 locs1 la ?_ hS1 hl)
  exact (wcells_set (e := .inl (w.1.2.2.1 3, n, .inr (.inl (vp_updL (S.2 k) i.toNatClampNeg x)))) hk (by rw [wL_s]; exact hcv _) wL_o) ▸ hP1
theorem go_aldq {k n t0 : Nat} {C : String} {cA : ClassId} {f : Nat → Option Nat} {i : Int32} {v : Value} (O : Ok X w cc own Ts nL) (hk : k < w.2.1) (hcv : w.2.2 k (S.1 k) (S.2 k) = .inl (cA, n, .inr (.inr (.inr (.inr f))))) (ht : (tysOf w.1)[t0]? = some (cA, .object C)) (hi : vp_in i n) (hd : decode cc pc = .ok (.aaload, 1)) (hv : va_rf (f i.toNatClampNeg) = v) (kk : Go X l R w nL (pc + 1) ls (v :: st) S) : Go X l R w nL pc ls (.int i :: .ref (w.1.2.1 k) :: st) S := by
  obtain ⟨p, e, s, m, args, below, meth, c, Q, A, kcn, ksn⟩ := X
  obtain ⟨hx, hb, hml, hown, hts, hK, hI, hKs, hAW⟩ := O
  intro hy1 hy2 H locs la hP hS hl
  subst hv
  exact va_aldq hx hb hK hP k t0 (wcells_at hk hcv) ht hi hd (kk hy1 hy2 H locs la hP hS hl)
theorem go_alen {k n : Nat} {cA : ClassId} {a : vp_A} {ty : FieldType} {v : Int32} (O : Ok X w cc own Ts nL) (hk : k < w.2.1) (hcv : w.2.2 k (S.1 k) (S.2 k) = .inl (cA, a)) (t0 : Nat) (ht : (tysOf w.1)[t0]? = some (cA, ty)) (hv : Int32.ofNat a.1 = v) (hd : decode cc pc = .ok (.arraylength, 1)) (kk : Go X l R w nL (pc + 1) ls (.int v :: st) S) : Go X l R w nL pc ls (.ref (w.1.2.1 k) :: st) S := by
  obtain ⟨p, e, s, m, args, below, meth, c, Q, A, kcn, ksn⟩ := X
  obtain ⟨hx, hb, hml, hown, hts, hK, hI, hKs, hAW⟩ := O
  intro hy1 hy2 H locs la hP hS hl
  exact va_alen hx hb hK hP k t0 (wcells_at hk hcv) ht hv hd (kk hy1 hy2 H locs la hP hS hl)
theorem go_gets {i v : Nat} (O : Ok X w cc own Ts nL) (hv : v < 5) (hlink : Cond.fieldLink own i "PaperWalls$Kinds" (skn v) "[I" ∈ Ts) (hd : decode cc pc = .ok (.getstatic i, 3)) (kk : Go X l R w nL (pc + 3) ls (.ref (w.1.2.2.2.1 v) :: st) S) : Go X l R w nL pc ls st S := by
  obtain ⟨p, e, s, m, args, below, meth, c, Q, A, kcn, ksn⟩ := X
  obtain ⟨hx, hb, hml, hown, hts, hK, hI, hKs, hAW⟩ := O
  intro hy1 hy2 H locs la hP hS hl
  exact va_gets hx hb (hKs.1 v hv).1 hS hown (hts _ hlink) (fun _ h => h) hd (kk hy1 hy2 H locs la hP hS hl)
theorem go_sald {v : Nat} {i : Int32} (O : Ok X w cc own Ts nL) (hv : v < 5) (hi : vp_in i 6) (hd : decode cc pc = .ok (.iaload, 1)) (kk : Go X l R w nL (pc + 1) ls (.int (skv v i.toNatClampNeg) :: st) S) : Go X l R w nL pc ls (.int i :: .ref (w.1.2.2.2.1 v) :: st) S := by
  obtain ⟨p, e, s, m, args, below, meth, c, Q, A, kcn, ksn⟩ := X
  obtain ⟨hx, hb, hml, hown, hts, hK, hI, hKs, hAW⟩ := O
  intro hy1 hy2 H locs la hP hS hl
  exact va_ti hx hb (hKs.1 v hv).2.1 hS hi rfl hd (kk hy1 hy2 H locs la hP hS hl)
theorem go_sld {Ln : Nat} {xs : Nat → Int32} {i : Int32} (O : Ok X w cc own Ts nL) (hL : gL w.1 = Ln) (hxs : gx w.1 = xs) (hi : vp_in i Ln) (hd : decode cc pc = .ok (.iaload, 1)) (kk : Go X l R w nL (pc + 1) ls (.int (xs i.toNatClampNeg) :: st) S) : Go X l R w nL pc ls (.int i :: .ref (gb w.1) :: st) S := by
  obtain ⟨p, e, s, m, args, below, meth, c, Q, A, kcn, ksn⟩ := X
  obtain ⟨hx, hb, hml, hown, hts, hK, hI, hKs, hAW⟩ := O
  intro hy1 hy2 H locs la hP hS hl
  subst hL
  subst hxs
  exact va_sld hx hb hKs.2.1 hKs.2.1.lt hKs.2.2 hS hi hd (kk hy1 hy2 H locs la hP hS hl)
theorem go_slen {Ln : Nat} (O : Ok X w cc own Ts nL) (hL : gL w.1 = Ln) (hd : decode cc pc = .ok (.arraylength, 1)) (kk : Go X l R w nL (pc + 1) ls (.int (Int32.ofNat Ln) :: st) S) : Go X l R w nL pc ls (.ref (gb w.1) :: st) S := by
  obtain ⟨p, e, s, m, args, below, meth, c, Q, A, kcn, ksn⟩ := X
  obtain ⟨hx, hb, hml, hown, hts, hK, hI, hKs, hAW⟩ := O
  intro hy1 hy2 H locs la hP hS hl
  subst hL
  exact va_slen hx hb hKs.2.1 hKs.2.1.lt hKs.2.2 hS hd (kk hy1 hy2 H locs la hP hS hl)
theorem go_mmax {i : Nat} {x y v : Int32} (O : Ok X w cc own Ts nL) (h1 : Cond.methodLink own i Lib.Math.max.name ∈ Ts) (h2 : Cond.static Lib.Math.max.name ∈ Ts) (h3 : Cond.initialized "java/lang/Math" ∈ Ts) (h4 : Cond.code Lib.Math.max.name Lib.Math.max.code 2 (some .int) ∈ Ts) (hf : 1 ≤ R.frames) (hlo : (st.map fun v => v.category).sum + 13 ≤ R.locals) (hv : (if x < y then y else x) = v) (hd : decode cc pc = .ok (.invokestatic i, 3)) (kk : Go X l R w nL (pc + 3) ls (.int v :: st) S) : Go X l R w nL pc ls (.int y :: .int x :: st) S := by
  obtain ⟨p, e, s, m, args, below, meth, c, Q, A, kcn, ksn⟩ := X
  obtain ⟨hx, hb, hml, hown, hts, hK, hI, hKs, hAW⟩ := O
  intro hy1 hy2 H locs la hP hS hl
  subst hv
  exact va_mmax hx hb (hml.trans hl.1.symm) hown (hts _ h1) (hts _ h2) (hts _ h3) (hts _ h4) hf hlo hy1 hy2 hd (kk hy1 hy2 H locs la hP hS hl)
theorem go_mmin {i : Nat} {x y v : Int32} (O : Ok X w cc own Ts nL) (h1 : Cond.methodLink own i Lib.Math.min.name ∈ Ts) (h2 : Cond.static Lib.Math.min.name ∈ Ts) (h3 : Cond.initialized "java/lang/Math" ∈ Ts) (h4 : Cond.code Lib.Math.min.name Lib.Math.min.code 2 (some .int) ∈ Ts) (hf : 1 ≤ R.frames) (hlo : (st.map fun v => v.category).sum + 13 ≤ R.locals) (hv : (if y < x then y else x) = v) (hd : decode cc pc = .ok (.invokestatic i, 3)) (kk : Go X l R w nL (pc + 3) ls (.int v :: st) S) : Go X l R w nL pc ls (.int y :: .int x :: st) S := by
  obtain ⟨p, e, s, m, args, below, meth, c, Q, A, kcn, ksn⟩ := X
  obtain ⟨hx, hb, hml, hown, hts, hK, hI, hKs, hAW⟩ := O
  intro hy1 hy2 H locs la hP hS hl
  subst hv
  exact va_mmin hx hb (hml.trans hl.1.symm) hown (hts _ h1) (hts _ h2) (hts _ h3) (hts _ h4) hf hlo hy1 hy2 hd (kk hy1 hy2 H locs la hP hS hl)
theorem go_mabs {i : Nat} {x v : Int32} (O : Ok X w cc own Ts nL) (h1 : Cond.methodLink own i Lib.Math.abs.name ∈ Ts) (h2 : Cond.static Lib.Math.abs.name ∈ Ts) (h3 : Cond.initialized "java/lang/Math" ∈ Ts) (h4 : Cond.code Lib.Math.abs.name Lib.Math.abs.code 1 (some .int) ∈ Ts) (hf : 1 ≤ R.frames) (hlo : (st.map fun v => v.category).sum + 13 ≤ R.locals) (hv : (if 0 ≤ x then x else 0 - x) = v) (hd : decode cc pc = .ok (.invokestatic i, 3)) (kk : Go X l R w nL (pc + 3) ls (.int v :: st) S) : Go X l R w nL pc ls (.int x :: st) S := by
  obtain ⟨p, e, s, m, args, below, meth, c, Q, A, kcn, ksn⟩ := X
  obtain ⟨hx, hb, hml, hown, hts, hK, hI, hKs, hAW⟩ := O
  intro hy1 hy2 H locs la hP hS hl
  subst hv
  exact va_mabs hx hb (hml.trans hl.1.symm) hown (hts _ h1) (hts _ h2) (hts _ h3) (hts _ h4) hf hlo hy1 hy2 hd (kk hy1 hy2 H locs la hP hS hl)
theorem go_cpyI {i k1 k2 n1 n2 : Nat} {sp dp n : Int32} {S1 : Sg} (O : Ok X w cc own Ts nL) (h1 : Cond.methodLink own i arraycopyName ∈ Ts) (h2 : Cond.native arraycopyName ∈ Ts) (h3 : Cond.static arraycopyName ∈ Ts) (h4 : Cond.initialized "java/lang/System" ∈ Ts) (hk1 : k1 < w.2.1) (hk2 : k2 < w.2.1) (hc1 : w.2.2 k1 (S.1 k1) (S.2 k1) = .inl (w.1.2.2.1 0, n1, .inl (S.1 k1))) (hc2 : w.2.2 k2 (S.1 k2) (S.2 k2) = .inl (w.1.2.2.1 0, n2, .inl (S.1 k2))) (hc3 : w.2.2 k2 (va_cpy (S.1 k1) (S.1 k2) sp.toNatClampNeg dp.toNatClampNeg n.toNatClampNeg) (S.2 k2) = .inl (w.1.2.2.1 0, n2, .inl (va_cpy (S.1 k1) (S.1 k2) sp.toNatClampNeg dp.toNatClampNeg n.toNatClampNeg))) (q1 : ¬ sp < 0) (q2 : ¬ dp < 0) (q3 : ¬ n < 0) (q4 : sp.toNatClampNeg + n.toNatClampNeg ≤ n1) (q5 : dp.toNatClampNeg + n.toNatClampNeg ≤ n2) (hf : 1 ≤ R.frames) (hlo : (st.map fun v => v.category).sum + (nativeFrameWords "java/lang/System" "arraycopy" 5 + 11) ≤ R.locals) (hd : decode cc pc = .ok (.invokestatic i, 3)) (hs : S1 = cpI S k1 sp.toNatClampNeg k2 dp.toNatClampNeg n.toNatClampNeg) (kk : Go X l R w nL (pc + 3) ls st S1) : Go X l R w nL pc ls (.int n :: .int dp :: .ref (w.1.2.1 k2) :: .int sp :: .ref (w.1.2.1 k1) :: st) S := by
  obtain ⟨p, e, s, m, args, below, meth, c, Q, A, kcn, ksn⟩ := X
  obtain ⟨hx, hb, hml, hown, hts, hK, hI, hKs, hAW⟩ := O
  intro hy1 hy2 H locs la hP hS hl
  subst hs
  refine va_copyi hx hb (hml.trans hl.1.symm) hown (hts _ h1) (hts _ h2) (hts _ h3) (hts _ h4) hK hP (wDA hI hAW) hS k1 k2 0 0 (wcells_at hk1 hc1) (wcells_at hk2 hc2) (ty := .int) rfl rfl rfl q1 q2 q3 q4 q5 (fun _ _ => rfl) hf hlo hd (fun H1 locs1 hP1 _ hS1 => kk hy1 hy2 H1 locs1 la ?_ hS1 hl)
  exact (wcells_set (e := .inl (w.1.2.2.1 0, n2, .inl (va_cpy (S.1 k1) (S.1 k2) sp.toNatClampNeg dp.toNatClampNeg n.toNatClampNeg))) hk2 (by rw [cpI_s]; exact hc3) cpI_o) ▸ hP1
theorem go_cpyL {i k1 k2 n1 n2 : Nat} {sp dp n : Int32} {S1 : Sg} (O : Ok X w cc own Ts nL) (h1 : Cond.methodLink own i arraycopyName ∈ Ts) (h2 : Cond.native arraycopyName ∈ Ts) (h3 : Cond.static arraycopyName ∈ Ts) (h4 : Cond.initialized "java/lang/System" ∈ Ts) (hk1 : k1 < w.2.1) (hk2 : k2 < w.2.1) (hc1 : w.2.2 k1 (S.1 k1) (S.2 k1) = .inl (w.1.2.2.1 3, n1, .inr (.inl (S.2 k1)))) (hc2 : w.2.2 k2 (S.1 k2) (S.2 k2) = .inl (w.1.2.2.1 3, n2, .inr (.inl (S.2 k2)))) (hc3 : w.2.2 k2 (S.1 k2) (va_cpy (S.2 k1) (S.2 k2) sp.toNatClampNeg dp.toNatClampNeg n.toNatClampNeg) = .inl (w.1.2.2.1 3, n2, .inr (.inl (va_cpy (S.2 k1) (S.2 k2) sp.toNatClampNeg dp.toNatClampNeg n.toNatClampNeg)))) (q1 : ¬ sp < 0) (q2 : ¬ dp < 0) (q3 : ¬ n < 0) (q4 : sp.toNatClampNeg + n.toNatClampNeg ≤ n1) (q5 : dp.toNatClampNeg + n.toNatClampNeg ≤ n2) (hf : 1 ≤ R.frames) (hlo : (st.map fun v => v.category).sum + (nativeFrameWords "java/lang/System" "arraycopy" 5 + 11) ≤ R.locals) (hd : decode cc pc = .ok (.invokestatic i, 3)) (hs : S1 = cpL S k1 sp.toNatClampNeg k2 dp.toNatClampNeg n.toNatClampNeg) (kk : Go X l R w nL (pc + 3) ls st S1) : Go X l R w nL pc ls (.int n :: .int dp :: .ref (w.1.2.1 k2) :: .int sp :: .ref (w.1.2.1 k1) :: st) S := by
  obtain ⟨p, e, s, m, args, below, meth, c, Q, A, kcn, ksn⟩ := X
  obtain ⟨hx, hb, hml, hown, hts, hK, hI, hKs, hAW⟩ := O
  intro hy1 hy2 H locs la hP hS hl
  subst hs
  refine va_copyl hx hb (hml.trans hl.1.symm) hown (hts _ h1) (hts _ h2) (hts _ h3) (hts _ h4) hK hP (wDA hI hAW) hS k1 k2 3 3 (wcells_at hk1 hc1) (wcells_at hk2 hc2) (ty := .long) rfl rfl rfl q1 q2 q3 q4 q5 (fun _ _ => rfl) hf hlo hd (fun H1 locs1 hP1 _ hS1 => kk hy1 hy2 H1 locs1 la ?_ hS1 hl)
  exact (wcells_set (e := .inl (w.1.2.2.1 3, n2, .inr (.inl (va_cpy (S.2 k1) (S.2 k2) sp.toNatClampNeg dp.toNatClampNeg n.toNatClampNeg)))) hk2 (by rw [cpL_s]; exact hc3) cpL_o) ▸ hP1
theorem go_callVi {y : MethodName} {bytes : ByteArray} {maxL n i : Nat} {ret : Option FieldType} {ws : List Cond} {rm : Room} {As rest : List Value} {S1 : Sg} {C : String} {b ci : Nat} {fs : List Value} {q : vw_C} {r : Int32} (O : Ok X w cc own Ts nL) (hM : Met l y ws rm (va_Pc (.ref (w.1.2.1 b) :: As) (PreW w S)) (va_Qi (fun r' u => r' = r ∧ u = S1) (PostW w) (AW w)) 0 0 (AW w)) (cw : ∀ (s : State) (args : Array Value), (∀ x ∈ Ts, x.before args s = true) → CallW R s args own C i y bytes maxL ret ws rm 0 0 n) (hb1 : b < w.2.1) (hcv : w.2.2 b (S.1 b) (S.2 b) = .inr (ci, fs)) (hc : vwCl[ci]? = some q) (hq : q.1 = C) (hn : As.length = n) (hst : st = As.reverse ++ .ref (w.1.2.1 b) :: rest) (hW : (rest.map fun v => v.category).sum ≤ 8) (hd : decode cc pc = .ok (.invokevirtual i, 3)) (k : Go X l R w nL (pc + 3) ls (.int r :: rest) S1) : Go X l R w nL pc ls st S := by
  obtain ⟨p, e, s, m, args, below, meth, c, Q, A, kcn, ksn⟩ := X
  obtain ⟨hx, hb, hml, hown, hts, hK, hI, hKs, hAW⟩ := O
  intro hy1 hy2 H locs la hP hS hl
  subst hst
  subst hq
  refine va_calli (va_runV (As := As) (rest := rest) ⟨hx, hb, hml, hown, hts⟩ hM (cw s args hts) ⟨PreW_blind, va_recv hK hP hc (wcells_at hb1 hcv), fun U hU hWm => ⟨rfl, by rw [hU]; exact hP, va_K.moved hWm.alike hK, hKs.mv hAW hS hU hWm.alike⟩⟩ rfl hn hl.1 rfl (lv_room hW) hd ⟨hy1, hy2⟩) hS (fun q _ h => hAW q h) (fun q h => hAW q h) (fun r' u t H1 locs1 ht hvm hw hB hz1 hk1 hS1 => ?_)
  obtain ⟨rfl, rfl⟩ := hw
  obtain ⟨hP1, -⟩ := hB
  rw [ht] at hP1
  exact k hy1 hy2 H1 locs1 la hP1 hS1 hl
theorem go_callSi {y : MethodName} {bytes : ByteArray} {maxL n i : Nat} {ret : Option FieldType} {ws : List Cond} {rm : Room} {As rest : List Value} {S1 : Sg} {r : Int32} (O : Ok X w cc own Ts nL) (hM : Met l y ws rm (va_Pc As (PreW w S)) (va_Qi (fun r' u => r' = r ∧ u = S1) (PostW w) (AW w)) 0 0 (AW w)) (cw : ∀ (s : State) (args : Array Value), (∀ x ∈ Ts, x.before args s = true) → CallB R s args own i y bytes maxL ret ws rm 0 0 n ∧ (Cond.static y).before args s = true) (hn : As.length = n) (hst : st = As.reverse ++ rest) (hW : (rest.map fun v => v.category).sum ≤ 8) (hd : decode cc pc = .ok (.invokestatic i, 3)) (k : Go X l R w nL (pc + 3) ls (.int r :: rest) S1) : Go X l R w nL pc ls st S := by
  obtain ⟨p, e, s, m, args, below, meth, c, Q, A, kcn, ksn⟩ := X
  obtain ⟨hx, hb, hml, hown, hts, hK, hI, hKs, hAW⟩ := O
  intro hy1 hy2 H locs la hP hS hl
  subst hst
  refine va_calli (va_runS (As := As) (rest := rest) ⟨hx, hb, hml, hown, hts⟩ hM (cw s args hts) ⟨PreW_blind, fun U hU hWm => ⟨rfl, by rw [hU]; exact hP, va_K.moved hWm.alike hK, hKs.mv hAW hS hU hWm.alike⟩⟩ rfl hn hl.1 rfl (lv_room hW) hd ⟨hy1, hy2⟩) hS (fun q _ h => hAW q h) (fun q h => hAW q h) (fun r' u t H1 locs1 ht hvm hw hB hz1 hk1 hS1 => ?_)
  obtain ⟨rfl, rfl⟩ := hw
  obtain ⟨hP1, -⟩ := hB
  rw [ht] at hP1
  exact k hy1 hy2 H1 locs1 la hP1 hS1 hl
theorem go_callVl {y : MethodName} {bytes : ByteArray} {maxL n i : Nat} {ret : Option FieldType} {ws : List Cond} {rm : Room} {As rest : List Value} {S1 : Sg} {C : String} {b ci : Nat} {fs : List Value} {q : vw_C} {r : Int64} (O : Ok X w cc own Ts nL) (hM : Met l y ws rm (va_Pc (.ref (w.1.2.1 b) :: As) (PreW w S)) (va_Ql (fun r' u => r' = r ∧ u = S1) (PostW w) (AW w)) 0 0 (AW w)) (cw : ∀ (s : State) (args : Array Value), (∀ x ∈ Ts, x.before args s = true) → CallW R s args own C i y bytes maxL ret ws rm 0 0 n) (hb1 : b < w.2.1) (hcv : w.2.2 b (S.1 b) (S.2 b) = .inr (ci, fs)) (hc : vwCl[ci]? = some q) (hq : q.1 = C) (hn : As.length = n) (hst : st = As.reverse ++ .ref (w.1.2.1 b) :: rest) (hW : (rest.map fun v => v.category).sum ≤ 8) (hd : decode cc pc = .ok (.invokevirtual i, 3)) (k : Go X l R w nL (pc + 3) ls (.long r :: rest) S1) : Go X l R w nL pc ls st S := by
  obtain ⟨p, e, s, m, args, below, meth, c, Q, A, kcn, ksn⟩ := X
  obtain ⟨hx, hb, hml, hown, hts, hK, hI, hKs, hAW⟩ := O
  intro hy1 hy2 H locs la hP hS hl
  subst hst
  subst hq
  refine va_calll (va_runV (As := As) (rest := rest) ⟨hx, hb, hml, hown, hts⟩ hM (cw s args hts) ⟨PreW_blind, va_recv hK hP hc (wcells_at hb1 hcv), fun U hU hWm => ⟨rfl, by rw [hU]; exact hP, va_K.moved hWm.alike hK, hKs.mv hAW hS hU hWm.alike⟩⟩ rfl hn hl.1 rfl (lv_room hW) hd ⟨hy1, hy2⟩) hS (fun q _ h => hAW q h) (fun q h => hAW q h) (fun r' u t H1 locs1 ht hvm hw hB hz1 hk1 hS1 => ?_)
  obtain ⟨rfl, rfl⟩ := hw
  obtain ⟨hP1, -⟩ := hB
  rw [ht] at hP1
  exact k hy1 hy2 H1 locs1 la hP1 hS1 hl
theorem go_callSl {y : MethodName} {bytes : ByteArray} {maxL n i : Nat} {ret : Option FieldType} {ws : List Cond} {rm : Room} {As rest : List Value} {S1 : Sg} {r : Int64} (O : Ok X w cc own Ts nL) (hM : Met l y ws rm (va_Pc As (PreW w S)) (va_Ql (fun r' u => r' = r ∧ u = S1) (PostW w) (AW w)) 0 0 (AW w)) (cw : ∀ (s : State) (args : Array Value), (∀ x ∈ Ts, x.before args s = true) → CallB R s args own i y bytes maxL ret ws rm 0 0 n ∧ (Cond.static y).before args s = true) (hn : As.length = n) (hst : st = As.reverse ++ rest) (hW : (rest.map fun v => v.category).sum ≤ 8) (hd : decode cc pc = .ok (.invokestatic i, 3)) (k : Go X l R w nL (pc + 3) ls (.long r :: rest) S1) : Go X l R w nL pc ls st S := by
  obtain ⟨p, e, s, m, args, below, meth, c, Q, A, kcn, ksn⟩ := X
  obtain ⟨hx, hb, hml, hown, hts, hK, hI, hKs, hAW⟩ := O
  intro hy1 hy2 H locs la hP hS hl
  subst hst
  refine va_calll (va_runS (As := As) (rest := rest) ⟨hx, hb, hml, hown, hts⟩ hM (cw s args hts) ⟨PreW_blind, fun U hU hWm => ⟨rfl, by rw [hU]; exact hP, va_K.moved hWm.alike hK, hKs.mv hAW hS hU hWm.alike⟩⟩ rfl hn hl.1 rfl (lv_room hW) hd ⟨hy1, hy2⟩) hS (fun q _ h => hAW q h) (fun q h => hAW q h) (fun r' u t H1 locs1 ht hvm hw hB hz1 hk1 hS1 => ?_)
  obtain ⟨rfl, rfl⟩ := hw
  obtain ⟨hP1, -⟩ := hB
  rw [ht] at hP1
  exact k hy1 hy2 H1 locs1 la hP1 hS1 hl
theorem go_callVv {y : MethodName} {bytes : ByteArray} {maxL n i : Nat} {ret : Option FieldType} {ws : List Cond} {rm : Room} {As rest : List Value} {S1 : Sg} {C : String} {b ci : Nat} {fs : List Value} {q : vw_C} (O : Ok X w cc own Ts nL) (hM : Met l y ws rm (va_Pc (.ref (w.1.2.1 b) :: As) (PreW w S)) (va_Qv (fun u => u = S1) (PostW w) (AW w)) 0 0 (AW w)) (cw : ∀ (s : State) (args : Array Value), (∀ x ∈ Ts, x.before args s = true) → CallW R s args own C i y bytes maxL ret ws rm 0 0 n) (hb1 : b < w.2.1) (hcv : w.2.2 b (S.1 b) (S.2 b) = .inr (ci, fs)) (hc : vwCl[ci]? = some q) (hq : q.1 = C) (hn : As.length = n) (hst : st = As.reverse ++ .ref (w.1.2.1 b) :: rest) (hW : (rest.map fun v => v.category).sum ≤ 8) (hd : decode cc pc = .ok (.invokevirtual i, 3)) (k : Go X l R w nL (pc + 3) ls (rest) S1) : Go X l R w nL pc ls st S := by
  obtain ⟨p, e, s, m, args, below, meth, c, Q, A, kcn, ksn⟩ := X
  obtain ⟨hx, hb, hml, hown, hts, hK, hI, hKs, hAW⟩ := O
  intro hy1 hy2 H locs la hP hS hl
  subst hst
  subst hq
  refine va_callv (va_runV (As := As) (rest := rest) ⟨hx, hb, hml, hown, hts⟩ hM (cw s args hts) ⟨PreW_blind, va_recv hK hP hc (wcells_at hb1 hcv), fun U hU hWm => ⟨rfl, by rw [hU]; exact hP, va_K.moved hWm.alike hK, hKs.mv hAW hS hU hWm.alike⟩⟩ rfl hn hl.1 rfl (lv_room hW) hd ⟨hy1, hy2⟩) hS (fun q _ h => hAW q h) (fun q h => hAW q h) (fun u t H1 locs1 ht hvm hw hB hz1 hk1 hS1 => ?_)
  obtain rfl := hw
  obtain ⟨hP1, -⟩ := hB
  rw [ht] at hP1
  exact k hy1 hy2 H1 locs1 la hP1 hS1 hl
theorem go_callSv {y : MethodName} {bytes : ByteArray} {maxL n i : Nat} {ret : Option FieldType} {ws : List Cond} {rm : Room} {As rest : List Value} {S1 : Sg} (O : Ok X w cc own Ts nL) (hM : Met l y ws rm (va_Pc As (PreW w S)) (va_Qv (fun u => u = S1) (PostW w) (AW w)) 0 0 (AW w)) (cw : ∀ (s : State) (args : Array Value), (∀ x ∈ Ts, x.before args s = true) → CallB R s args own i y bytes maxL ret ws rm 0 0 n ∧ (Cond.static y).before args s = true) (hn : As.length = n) (hst : st = As.reverse ++ rest) (hW : (rest.map fun v => v.category).sum ≤ 8) (hd : decode cc pc = .ok (.invokestatic i, 3)) (k : Go X l R w nL (pc + 3) ls (rest) S1) : Go X l R w nL pc ls st S := by
  obtain ⟨p, e, s, m, args, below, meth, c, Q, A, kcn, ksn⟩ := X
  obtain ⟨hx, hb, hml, hown, hts, hK, hI, hKs, hAW⟩ := O
  intro hy1 hy2 H locs la hP hS hl
  subst hst
  refine va_callv (va_runS (As := As) (rest := rest) ⟨hx, hb, hml, hown, hts⟩ hM (cw s args hts) ⟨PreW_blind, fun U hU hWm => ⟨rfl, by rw [hU]; exact hP, va_K.moved hWm.alike hK, hKs.mv hAW hS hU hWm.alike⟩⟩ rfl hn hl.1 rfl (lv_room hW) hd ⟨hy1, hy2⟩) hS (fun q _ h => hAW q h) (fun q h => hAW q h) (fun u t H1 locs1 ht hvm hw hB hz1 hk1 hS1 => ?_)
  obtain rfl := hw
  obtain ⟨hP1, -⟩ := hB
  rw [ht] at hP1
  exact k hy1 hy2 H1 locs1 la hP1 hS1 hl
end GO
theorem met_i {l : Launch} {y : MethodName} {ws ws' : List Cond} {rm : Room} {cc : ByteArray} {maxL : Nat} {own : String} {w : WD} {avs : List Value} {S S1 : Sg} {r : Int32} (hI : Ij w) (hy : plainName y.cls = true) (hw : ws = Cond.code y cc maxL (some .int) :: ws') (ho : y.cls = own) (hlen : (lg_sl avs).length ≤ maxL)
    (body : ∀ X : XT, Ok X w cc own ws maxL → (∀ pc ls, decode cc pc = .ok (.ireturn, 1) → Go X l rm w maxL pc ls [.int r] S1) → Go X l rm w maxL 0 (lv_args 0 avs) [] S) :
    Met l y ws rm (va_Pc avs (PreW w S)) (va_Qi (fun r' u => r' = r ∧ u = S1) (PostW w) (AW w)) 0 0 (AW w) := by
  refine Met.ofW (cc := cc) (maxL := maxL) (ret := some .int) hy hw ?_
  intro p e s m args below meth c s₁ B hml hv
  obtain ⟨rfl, hP, hK, hKs⟩ := hv
  have hx := B.exec
  have hb := B.bytes
  have hr := B.returns
  have hlocks := B.notSynchronized
  rw [lg_entry_eq]
  exact body (p, e, s, m, _, below, meth, c, _, AW w, 0, 0) ⟨hx, hb, hml, by rw [← ho]; exact findClass_of_methodNamed B.named, atoms_spec (ws := ws) B.pre, hK, hI, hKs, fun _ q => q⟩ (fun pc ls hd _ _ H locs la hP hS _ => W.iret hx hb hr (fun t ht hW => ⟨⟨_, _, rfl, ⟨rfl, rfl⟩, by rw [ht]; exact hP, va_K.moved hW.alike hK⟩, hS.F ht⟩) hS.2.2 hd) (Nat.zero_le _) (Nat.zero_le _) s.heap [] _ hP va_S.rf (lv_entry avs hlen)
theorem met_z {l : Launch} {y : MethodName} {ws ws' : List Cond} {rm : Room} {cc : ByteArray} {maxL : Nat} {own : String} {w : WD} {avs : List Value} {S S1 : Sg} {r : Int32} (hI : Ij w) (hy : plainName y.cls = true) (hw : ws = Cond.code y cc maxL (some .boolean) :: ws') (ho : y.cls = own) (hlen : (lg_sl avs).length ≤ maxL)
    (body : ∀ X : XT, Ok X w cc own ws maxL → (∀ pc ls (hz : vp_nar .boolean r = r), decode cc pc = .ok (.ireturn, 1) → Go X l rm w maxL pc ls [.int r] S1) → Go X l rm w maxL 0 (lv_args 0 avs) [] S) :
    Met l y ws rm (va_Pc avs (PreW w S)) (va_Qi (fun r' u => r' = r ∧ u = S1) (PostW w) (AW w)) 0 0 (AW w) := by
  refine Met.ofW (cc := cc) (maxL := maxL) (ret := some .boolean) hy hw ?_
  intro p e s m args below meth c s₁ B hml hv
  obtain ⟨rfl, hP, hK, hKs⟩ := hv
  have hx := B.exec
  have hb := B.bytes
  have hr := B.returns
  have hlocks := B.notSynchronized
  rw [lg_entry_eq]
  exact body (p, e, s, m, _, below, meth, c, _, AW w, 0, 0) ⟨hx, hb, hml, by rw [← ho]; exact findClass_of_methodNamed B.named, atoms_spec (ws := ws) B.pre, hK, hI, hKs, fun _ q => q⟩ (fun pc ls hz hd _ _ H locs la hP hS _ => W.zret hx hb hr (congrArg Value.int hz) (fun t ht hW => ⟨⟨_, _, rfl, ⟨rfl, rfl⟩, by rw [ht]; exact hP, va_K.moved hW.alike hK⟩, hS.F ht⟩) hS.2.2 hd) (Nat.zero_le _) (Nat.zero_le _) s.heap [] _ hP va_S.rf (lv_entry avs hlen)
theorem met_l {l : Launch} {y : MethodName} {ws ws' : List Cond} {rm : Room} {cc : ByteArray} {maxL : Nat} {own : String} {w : WD} {avs : List Value} {S S1 : Sg} {r : Int64} (hI : Ij w) (hy : plainName y.cls = true) (hw : ws = Cond.code y cc maxL (some .long) :: ws') (ho : y.cls = own) (hlen : (lg_sl avs).length ≤ maxL)
    (body : ∀ X : XT, Ok X w cc own ws maxL → (∀ pc ls, decode cc pc = .ok (.lreturn, 1) → Go X l rm w maxL pc ls [.long r] S1) → Go X l rm w maxL 0 (lv_args 0 avs) [] S) :
    Met l y ws rm (va_Pc avs (PreW w S)) (va_Ql (fun r' u => r' = r ∧ u = S1) (PostW w) (AW w)) 0 0 (AW w) := by
  refine Met.ofW (cc := cc) (maxL := maxL) (ret := some .long) hy hw ?_
  intro p e s m args below meth c s₁ B hml hv
  obtain ⟨rfl, hP, hK, hKs⟩ := hv
  have hx := B.exec
  have hb := B.bytes
  have hr := B.returns
  have hlocks := B.notSynchronized
  rw [lg_entry_eq]
  exact body (p, e, s, m, _, below, meth, c, _, AW w, 0, 0) ⟨hx, hb, hml, by rw [← ho]; exact findClass_of_methodNamed B.named, atoms_spec (ws := ws) B.pre, hK, hI, hKs, fun _ q => q⟩ (fun pc ls hd _ _ H locs la hP hS _ => W.lret hx hb hr (fun t ht hW => ⟨⟨_, _, rfl, ⟨rfl, rfl⟩, by rw [ht]; exact hP, va_K.moved hW.alike hK⟩, hS.F ht⟩) hS.2.2 hd) (Nat.zero_le _) (Nat.zero_le _) s.heap [] _ hP va_S.rf (lv_entry avs hlen)
theorem met_v {l : Launch} {y : MethodName} {ws ws' : List Cond} {rm : Room} {cc : ByteArray} {maxL : Nat} {own : String} {w : WD} {avs : List Value} {S S1 : Sg} (hI : Ij w) (hy : plainName y.cls = true) (hw : ws = Cond.code y cc maxL (none) :: ws') (ho : y.cls = own) (hlen : (lg_sl avs).length ≤ maxL)
    (body : ∀ X : XT, Ok X w cc own ws maxL → (∀ pc ls, decode cc pc = .ok (.return_, 1) → Go X l rm w maxL pc ls [] S1) → Go X l rm w maxL 0 (lv_args 0 avs) [] S) :
    Met l y ws rm (va_Pc avs (PreW w S)) (va_Qv (fun u => u = S1) (PostW w) (AW w)) 0 0 (AW w) := by
  refine Met.ofW (cc := cc) (maxL := maxL) (ret := none) hy hw ?_
  intro p e s m args below meth c s₁ B hml hv
  obtain ⟨rfl, hP, hK, hKs⟩ := hv
  have hx := B.exec
  have hb := B.bytes
  have hr := B.returns
  have hlocks := B.notSynchronized
  rw [lg_entry_eq]
  exact body (p, e, s, m, _, below, meth, c, _, AW w, 0, 0) ⟨hx, hb, hml, by rw [← ho]; exact findClass_of_methodNamed B.named, atoms_spec (ws := ws) B.pre, hK, hI, hKs, fun _ q => q⟩ (fun pc ls hd _ _ H locs la hP hS _ => W.vret hx hb hr (fun t ht hW => ⟨⟨_, rfl, rfl, by rw [ht]; exact hP, va_K.moved hW.alike hK⟩, hS.F ht⟩) hS.2.2 hd) (Nat.zero_le _) (Nat.zero_le _) s.heap [] _ hP va_S.rf (lv_entry avs hlen)
/-! what the written functions are made of -/
def inB (i : Int32) (n : Nat) : Bool := !(decide (i < 0)) && decide (i.toNatClampNeg < n)
theorem inB_in {i : Int32} {n : Nat} (h : inB i n = true) : vp_in i n := by
  simp only [inB, Bool.and_eq_true, Bool.not_eq_true', decide_eq_false_iff_not, decide_eq_true_eq] at h
  exact fun q => q.elim h.1 (fun z => absurd h.2 (Nat.not_lt.mpr z))
theorem inB_lt {i : Int32} {n : Nat} (h : inB i n = true) : i.toNatClampNeg < n := by
  simp only [inB, Bool.and_eq_true, Bool.not_eq_true', decide_eq_false_iff_not, decide_eq_true_eq] at h
  exact h.2
theorem inB_of {i : Int32} {n : Nat} (h0 : ¬ i < 0) (h1 : i.toNatClampNeg < n) : inB i n = true := by
  simp only [inB, Bool.and_eq_true, Bool.not_eq_true', decide_eq_false_iff_not, decide_eq_true_eq]
  exact ⟨h0, h1⟩
def chk {α : Type} (b : Bool) (K : Option α) : Option α := match b with | true => K | false => none
theorem chk_s {α : Type} {b : Bool} {K : Option α} {o : α} (h : chk b K = some o) : b = true ∧ K = some o := by
  cases b
  · cases h
  · exact ⟨rfl, h⟩
def bd {α β : Type} (A : Option α) (K : α → Option β) : Option β := match A with | some a => K a | none => none
theorem bd_s {α β : Type} {A : Option α} {K : α → Option β} {o : β} (h : bd A K = some o) : ∃ a, A = some a ∧ K a = some o := by
  cases A with
  | none => cases h
  | some a => exact ⟨a, rfl, h⟩
def nm {α β : Type} (a : α) (K : α → Option β) : Option β := K a
theorem nm_s {α β : Type} {a : α} {K : α → Option β} {o : β} (h : nm a K = some o) : ∃ b, b = a ∧ K b = some o := ⟨a, rfl, h⟩
theorem it_t {α : Type} {c : Prop} {hc : Decidable c} {a b : Option α} {o : α} (h : c) (e : (@ite _ c hc a b) = some o) : a = some o := by rw [if_pos h] at e; exact e
theorem it_f {α : Type} {c : Prop} {hc : Decidable c} {a b : Option α} {o : α} (h : ¬ c) (e : (@ite _ c hc a b) = some o) : b = some o := by rw [if_neg h] at e; exact e
theorem jn {α : Type} {P : α → Prop} {a b : α} (h : some a = some b) (k : P b) : P a := by cases h; exact k
def FU : Nat := 20000
def iushr (x y : Int32) : Int32 := (x.toUInt32 >>> (y.toUInt32 &&& Int32.toUInt32 31)).toInt32
def lushr (x : Int64) (y : Int32) : Int64 := (x.toUInt64 >>> (y.toInt64.toUInt64 &&& Int64.toUInt64 63)).toInt64
def lshl (x : Int64) (y : Int32) : Int64 := x <<< (y.toInt64 &&& 63)
def zB (v : Int32) : Bool := decide (vp_nar .boolean v = v)
theorem zB_s {v : Int32} (h : zB v = true) : vp_nar .boolean v = v := of_decide_eq_true h
def nzI (v : Int32) : Bool := !(decide (v = 0))
theorem nzI_s {v : Int32} (h : nzI v = true) : ¬ v = 0 := by simpa [nzI] using h
def nzJ (v : Int64) : Bool := !(decide (v = 0))
theorem nzJ_s {v : Int64} (h : nzJ v = true) : ¬ v = 0 := by simpa [nzJ] using h
def cpB (sp dp n : Int32) (n1 n2 : Nat) : Bool := decide (¬ sp < 0 ∧ ¬ dp < 0 ∧ ¬ n < 0 ∧ sp.toNatClampNeg + n.toNatClampNeg ≤ n1 ∧ dp.toNatClampNeg + n.toNatClampNeg ≤ n2)
theorem cpB_s {sp dp n : Int32} {n1 n2 : Nat} (h : cpB sp dp n n1 n2 = true) : ¬ sp < 0 ∧ ¬ dp < 0 ∧ ¬ n < 0 ∧ sp.toNatClampNeg + n.toNatClampNeg ≤ n1 ∧ dp.toNatClampNeg + n.toNatClampNeg ≤ n2 := of_decide_eq_true h
theorem ne_toInt {x c : Int32} {k : Int} (h : ¬ x = c) (hk : c.toInt = k) : x.toInt ≠ k := fun q => h (Int32.toInt_inj.mp (q.trans hk.symm))
/-! ===== the two worlds ===== -/
abbrev sb (i : Nat) : Nat := 34 + 13 * i
def cvA (G : Gp) (k : Nat) (f : Nat → Int32) : va_E := match k with
  | 0 => .inr (7, [.ref (G.2.1 1), .ref (G.2.1 2), .ref (G.2.1 (sb 0)), .ref (G.2.1 (sb 1)), .ref (G.2.1 3), .ref (G.2.1 4), .ref (G.2.1 6), .ref (G.2.1 9), .ref (G.2.1 12), .ref (G.2.1 5), .int (f 10), .int (f 11)])
  | 1 => .inl (G.2.2.1 4, 6, .inr (.inr (.inr (.inr (fun j => some (G.2.1 (14 + 2 * j)))))))
  | 2 => .inl (G.2.2.1 5, 4, .inr (.inr (.inr (.inr (fun j => some (G.2.1 (26 + 2 * j)))))))
  | 3 => .inl (G.2.2.1 6, 3, .inr (.inr (.inr (.inr (fun j => some (G.2.1 (sb (2 + j))))))))
  | 4 => .inl (G.2.2.1 2, 3, .inl f)
  | 5 => .inl (G.2.2.1 0, 6, .inl f)
  | 6 => .inr (2, [.ref (G.2.1 7), .ref (G.2.1 8)])
  | 7 => .inl (G.2.2.1 2, 256, .inl f)
  | 8 => .inl (G.2.2.1 0, 256, .inl f)
  | 9 => .inr (0, [.ref (G.2.1 10), .ref (G.2.1 11), .int (f 2)])
  | 10 => .inl (G.2.2.1 0, 7, .inl f)
  | 11 => .inl (G.2.2.1 0, 7, .inl f)
  | 12 => .inr (4, [.ref (G.2.1 13), .int (f 1)])
  | _ => .inl (G.2.2.1 0, 6, .inl f)
def cvS (G : Gp) (b j : Nat) (f : Nat → Int32) (h : Nat → Int64) : va_E := match j with
  | 0 => .inr (5, [.ref (G.2.1 (b + 1)), .ref (G.2.1 (b + 2)), .ref (G.2.1 (b + 3)), .ref (G.2.1 (b + 4)), .ref (G.2.1 (b + 5)), .ref (G.2.1 (b + 6)), .ref (G.2.1 (b + 7)), .ref (G.2.1 (b + 8)), .int (f 8), .int (f 9), .int (f 10)])
  | 1 => .inl (G.2.2.1 0, 6, .inl f)
  | 2 => .inl (G.2.2.1 0, 7, .inl f)
  | 3 => .inl (G.2.2.1 0, 7, .inl f)
  | 4 => .inl (G.2.2.1 0, 7, .inl f)
  | 5 => .inl (G.2.2.1 0, 8, .inl f)
  | 6 => .inl (G.2.2.1 0, 8, .inl f)
  | 7 => .inl (G.2.2.1 0, 8, .inl f)
  | 8 => .inr (1, [.ref (G.2.1 (b + 9)), .ref (G.2.1 (b + 10)), .ref (G.2.1 (b + 11)), .ref (G.2.1 (b + 12)), .long (h 4), .int (f 5)])
  | 9 => .inl (G.2.2.1 0, 40, .inl f)
  | 10 => .inl (G.2.2.1 0, 40, .inl f)
  | 11 => .inl (G.2.2.1 0, 40, .inl f)
  | _ => .inl (G.2.2.1 3, 40, .inr (.inl h))
def lsz (k : Nat) : Nat := match k with | 99 => 7 | 100 => 7 | 101 => 6 | 102 => 4 | 103 => 24 | _ => 40
def cvC (G : Gp) : CVt := fun k f h =>
  if k < 14 then cvA G k f
  else if k < 26 then (if k % 2 = 0 then .inr (3, [.ref (G.2.1 (k + 1)), .int (f 1)]) else .inl (G.2.2.1 0, 40, .inl f))
  else if k < 34 then (if k % 2 = 0 then .inr (6, [.ref (G.2.1 (k + 1)), .int (f 1)]) else .inl (G.2.2.1 1, 80, .inl f))
  else if k < 99 then cvS G (34 + 13 * ((k - 34) / 13)) ((k - 34) % 13) f h
  else .inl (G.2.2.1 0, lsz k, .inl f)
abbrev wC (G : Gp) : WD := (G, nn G, cvC G)
def Gd (G : Gp) : Prop := Ij (wC G) ∧ 99 ≤ nn G
theorem lt9 {G : Gp} (h : Gd G) {k : Nat} (hk : k < 99) : k < (wC G).2.1 := Nat.lt_of_lt_of_le hk h.2
theorem lt4 {G : Gp} (h : 104 ≤ nn G) {k : Nat} (hk : k < 104) : k < (wC G).2.1 := Nat.lt_of_lt_of_le hk h
theorem lt5 {G : Gp} (h : 105 ≤ nn G) {k : Nat} (hk : k < 105) : k < (wC G).2.1 := Nat.lt_of_lt_of_le hk h
theorem row_lt {r : Nat} (h : r < 6) : 14 + 2 * r < 99 := by omega
theorem row_lt1 {r : Nat} (h : r < 6) : 14 + 2 * r + 1 < 99 := by omega
theorem txt_lt {r : Nat} (h : r < 4) : 26 + 2 * r < 99 := by omega
theorem txt_lt1 {r : Nat} (h : r < 4) : 26 + 2 * r + 1 < 99 := by omega
theorem pl_lt {r : Nat} (h : r < 3) : 2 + r < 5 := by omega
theorem sb_lt0 {i : Nat} (h : i < 5) : sb i < 99 := by show 34 + 13 * i < 99; omega
theorem sb_lt {i j : Nat} (h : i < 5) (h2 : j < 13) : sb i + j < 99 := by show 34 + 13 * i + j < 99; omega
theorem cv_row (G : Gp) {r : Nat} (hr : r < 6) (f : Nat → Int32) (h : Nat → Int64) : cvC G (14 + 2 * r) f h = .inr (3, [.ref (G.2.1 (14 + 2 * r + 1)), .int (f 1)]) := by
  rw [cvC, if_neg (by omega), if_pos (by omega), if_pos (by omega)]
theorem cv_rowA (G : Gp) {r : Nat} (hr : r < 6) (f : Nat → Int32) (h : Nat → Int64) : cvC G (14 + 2 * r + 1) f h = .inl (G.2.2.1 0, 40, .inl f) := by
  rw [cvC, if_neg (by omega), if_pos (by omega), if_neg (by omega)]
theorem cv_txt (G : Gp) {r : Nat} (hr : r < 4) (f : Nat → Int32) (h : Nat → Int64) : cvC G (26 + 2 * r) f h = .inr (6, [.ref (G.2.1 (26 + 2 * r + 1)), .int (f 1)]) := by
  rw [cvC, if_neg (by omega), if_neg (by omega), if_pos (by omega), if_pos (by omega)]
theorem cv_txtA (G : Gp) {r : Nat} (hr : r < 4) (f : Nat → Int32) (h : Nat → Int64) : cvC G (26 + 2 * r + 1) f h = .inl (G.2.2.1 1, 80, .inl f) := by
  rw [cvC, if_neg (by omega), if_neg (by omega), if_pos (by omega), if_neg (by omega)]
theorem cv_S (G : Gp) {i : Nat} (hi : i < 5) {j : Nat} (hj : j < 13) (f : Nat → Int32) (h : Nat → Int64) : cvC G (sb i + j) f h = cvS G (sb i) j f h := by
  show cvC G (34 + 13 * i + j) f h = cvS G (34 + 13 * i) j f h
  rw [cvC, if_neg (by omega), if_neg (by omega), if_neg (by omega), if_pos (by omega), show (34 + 13 * i + j - 34) / 13 = i by omega, show (34 + 13 * i + j - 34) % 13 = j by omega]
theorem cv_st (G : Gp) {i : Nat} (hi : i < 5) (f : Nat → Int32) (h : Nat → Int64) : cvC G (sb i) f h = .inr (5, [.ref (G.2.1 (sb i + 1)), .ref (G.2.1 (sb i + 2)), .ref (G.2.1 (sb i + 3)), .ref (G.2.1 (sb i + 4)), .ref (G.2.1 (sb i + 5)), .ref (G.2.1 (sb i + 6)), .ref (G.2.1 (sb i + 7)), .ref (G.2.1 (sb i + 8)), .int (f 8), .int (f 9), .int (f 10)]) := cv_S G hi (j := 0) (by decide) f h
theorem cv_hrs (G : Gp) {i : Nat} (hi : i < 5) (f : Nat → Int32) (h : Nat → Int64) : cvC G (sb i + 8) f h = .inr (1, [.ref (G.2.1 (sb i + 9)), .ref (G.2.1 (sb i + 10)), .ref (G.2.1 (sb i + 11)), .ref (G.2.1 (sb i + 12)), .long (h 4), .int (f 5)]) := cv_S G hi (j := 8) (by decide) f h
theorem cv_sta1 (G : Gp) {i : Nat} (hi : i < 5) (f : Nat → Int32) (h : Nat → Int64) : cvC G (sb i + 1) f h = .inl (G.2.2.1 0, 6, .inl f) := cv_S G hi (j := 1) (by decide) f h
theorem cv_sta2 (G : Gp) {i : Nat} (hi : i < 5) (f : Nat → Int32) (h : Nat → Int64) : cvC G (sb i + 2) f h = .inl (G.2.2.1 0, 7, .inl f) := cv_S G hi (j := 2) (by decide) f h
theorem cv_sta3 (G : Gp) {i : Nat} (hi : i < 5) (f : Nat → Int32) (h : Nat → Int64) : cvC G (sb i + 3) f h = .inl (G.2.2.1 0, 7, .inl f) := cv_S G hi (j := 3) (by decide) f h
theorem cv_sta4 (G : Gp) {i : Nat} (hi : i < 5) (f : Nat → Int32) (h : Nat → Int64) : cvC G (sb i + 4) f h = .inl (G.2.2.1 0, 7, .inl f) := cv_S G hi (j := 4) (by decide) f h
theorem cv_sta5 (G : Gp) {i : Nat} (hi : i < 5) (f : Nat → Int32) (h : Nat → Int64) : cvC G (sb i + 5) f h = .inl (G.2.2.1 0, 8, .inl f) := cv_S G hi (j := 5) (by decide) f h
theorem cv_sta6 (G : Gp) {i : Nat} (hi : i < 5) (f : Nat → Int32) (h : Nat → Int64) : cvC G (sb i + 6) f h = .inl (G.2.2.1 0, 8, .inl f) := cv_S G hi (j := 6) (by decide) f h
theorem cv_sta7 (G : Gp) {i : Nat} (hi : i < 5) (f : Nat → Int32) (h : Nat → Int64) : cvC G (sb i + 7) f h = .inl (G.2.2.1 0, 8, .inl f) := cv_S G hi (j := 7) (by decide) f h
theorem cv_hra9 (G : Gp) {i : Nat} (hi : i < 5) (f : Nat → Int32) (h : Nat → Int64) : cvC G (sb i + 9) f h = .inl (G.2.2.1 0, 40, .inl f) := cv_S G hi (j := 9) (by decide) f h
theorem cv_hra10 (G : Gp) {i : Nat} (hi : i < 5) (f : Nat → Int32) (h : Nat → Int64) : cvC G (sb i + 10) f h = .inl (G.2.2.1 0, 40, .inl f) := cv_S G hi (j := 10) (by decide) f h
theorem cv_hra11 (G : Gp) {i : Nat} (hi : i < 5) (f : Nat → Int32) (h : Nat → Int64) : cvC G (sb i + 11) f h = .inl (G.2.2.1 0, 40, .inl f) := cv_S G hi (j := 11) (by decide) f h
theorem cv_hra12 (G : Gp) {i : Nat} (hi : i < 5) (f : Nat → Int32) (h : Nat → Int64) : cvC G (sb i + 12) f h = .inl (G.2.2.1 3, 40, .inr (.inl h)) := cv_S G hi (j := 12) (by decide) f h
theorem cv_pw (G : Gp) (f : Nat → Int32) (h : Nat → Int64) : cvC G 0 f h = cvA G 0 f := rfl
theorem cv_rows (G : Gp) (f : Nat → Int32) (h : Nat → Int64) : cvC G 1 f h = cvA G 1 f := rfl
theorem cv_texts (G : Gp) (f : Nat → Int32) (h : Nat → Int64) : cvC G 2 f h = cvA G 2 f := rfl
theorem cv_places (G : Gp) (f : Nat → Int32) (h : Nat → Int64) : cvC G 3 f h = cvA G 3 f := rfl
theorem cv_kept (G : Gp) (f : Nat → Int32) (h : Nat → Int64) : cvC G 4 f h = cvA G 4 f := rfl
theorem cv_tally (G : Gp) (f : Nat → Int32) (h : Nat → Int64) : cvC G 5 f h = cvA G 5 f := rfl
theorem cv_plan (G : Gp) (f : Nat → Int32) (h : Nat → Int64) : cvC G 6 f h = cvA G 6 f := rfl
theorem cv_tog (G : Gp) (f : Nat → Int32) (h : Nat → Int64) : cvC G 7 f h = cvA G 7 f := rfl
theorem cv_few (G : Gp) (f : Nat → Int32) (h : Nat → Int64) : cvC G 8 f h = cvA G 8 f := rfl
theorem cv_chg (G : Gp) (f : Nat → Int32) (h : Nat → Int64) : cvC G 9 f h = cvA G 9 f := rfl
theorem cv_who (G : Gp) (f : Nat → Int32) (h : Nat → Int64) : cvC G 10 f h = cvA G 10 f := rfl
theorem cv_best (G : Gp) (f : Nat → Int32) (h : Nat → Int64) : cvC G 11 f h = cvA G 11 f := rfl
theorem cv_shr (G : Gp) (f : Nat → Int32) (h : Nat → Int64) : cvC G 12 f h = cvA G 12 f := rfl
theorem cv_of (G : Gp) (f : Nat → Int32) (h : Nat → Int64) : cvC G 13 f h = cvA G 13 f := rfl
theorem cv_l99 (G : Gp) (f : Nat → Int32) (h : Nat → Int64) : cvC G 99 f h = .inl (G.2.2.1 0, 7, .inl f) := rfl
theorem cv_l100 (G : Gp) (f : Nat → Int32) (h : Nat → Int64) : cvC G 100 f h = .inl (G.2.2.1 0, 7, .inl f) := rfl
theorem cv_l101 (G : Gp) (f : Nat → Int32) (h : Nat → Int64) : cvC G 101 f h = .inl (G.2.2.1 0, 6, .inl f) := rfl
theorem cv_l102 (G : Gp) (f : Nat → Int32) (h : Nat → Int64) : cvC G 102 f h = .inl (G.2.2.1 0, 4, .inl f) := rfl
theorem cv_l103 (G : Gp) (f : Nat → Int32) (h : Nat → Int64) : cvC G 103 f h = .inl (G.2.2.1 0, 24, .inl f) := rfl
theorem cv_l104 (G : Gp) (f : Nat → Int32) (h : Nat → Int64) : cvC G 104 f h = .inl (G.2.2.1 0, 40, .inl f) := rfl
/-! a cell more -/
def ext (G : Gp) (n q : Nat) : Gp := (G.1, (fun a => if a = n then q else G.2.1 a), G.2.2.1, G.2.2.2.1, n + 1, G.2.2.2.2.2)
def zS (S : Sg) (n : Nat) : Sg := (fun a => if a = n then (fun _ => 0) else S.1 a, S.2)
def upX (X : XT) (n : Nat) : XT := match X with | (p, e, s, m, args, below, meth, c, Q, A, kc, ks) => (p, e, s, m, args, below, meth, c, Q, A, kc + 1, ks + n)
theorem ext_n {G : Gp} {n q : Nat} : (ext G n q).2.1 n = q := if_pos rfl
theorem ext_o {G : Gp} {n q k : Nat} (h : k ≠ n) : (ext G n q).2.1 k = G.2.1 k := if_neg h
theorem cv_ext {G : Gp} {n q : Nat} (hn : 99 ≤ n) {k : Nat} (h1 : k ≠ 1) (h2 : k ≠ 2) (h3 : k ≠ 3) (f : Nat → Int32) (h : Nat → Int64) : cvC (ext G n q) k f h = cvC G k f h := by
  have e : ∀ j, j < 99 → (ext G n q).2.1 j = G.2.1 j := fun j hj => ext_o (by omega)
  unfold cvC
  by_cases c1 : k < 14
  · rw [if_pos c1, if_pos c1]
    match k, c1, h1, h2, h3 with
    | 0, _, _, _, _ =>
      show cvA (ext G n q) 0 f = cvA G 0 f
      unfold cvA
      simp only [e _ (show (1 : Nat) < 99 by decide), e _ (show (2 : Nat) < 99 by decide), e _ (show sb 0 < 99 by decide), e _ (show sb 1 < 99 by decide), e _ (show (3 : Nat) < 99 by decide), e _ (show (4 : Nat) < 99 by decide), e _ (show (5 : Nat) < 99 by decide), e _ (show (6 : Nat) < 99 by decide), e _ (show (9 : Nat) < 99 by decide), e _ (show (12 : Nat) < 99 by decide)]
    | 1, _, h, _, _ => exact absurd rfl h
    | 2, _, _, h, _ => exact absurd rfl h
    | 3, _, _, _, h => exact absurd rfl h
    | 4, _, _, _, _ => rfl
    | 5, _, _, _, _ => rfl
    | 6, _, _, _, _ =>
      show cvA (ext G n q) 6 f = cvA G 6 f
      unfold cvA
      simp only [e _ (show (7 : Nat) < 99 by decide), e _ (show (8 : Nat) < 99 by decide)]
    | 7, _, _, _, _ => rfl
    | 8, _, _, _, _ => rfl
    | 9, _, _, _, _ =>
      show cvA (ext G n q) 9 f = cvA G 9 f
      unfold cvA
      simp only [e _ (show (10 : Nat) < 99 by decide), e _ (show (11 : Nat) < 99 by decide)]
    | 10, _, _, _, _ => rfl
    | 11, _, _, _, _ => rfl
    | 12, _, _, _, _ =>
      show cvA (ext G n q) 12 f = cvA G 12 f
      unfold cvA
      simp only [e _ (show (13 : Nat) < 99 by decide)]
    | 13, _, _, _, _ => rfl
    | k + 14, h, _, _, _ => exact absurd h (by omega)
  · rw [if_neg c1, if_neg c1]
    by_cases c2 : k < 26
    · rw [if_pos c2, if_pos c2, e _ (show k + 1 < 99 by omega)]
      rfl
    · rw [if_neg c2, if_neg c2]
      by_cases c3 : k < 34
      · rw [if_pos c3, if_pos c3, e _ (show k + 1 < 99 by omega)]
        rfl
      · rw [if_neg c3, if_neg c3]
        by_cases c4 : k < 99
        · rw [if_pos c4, if_pos c4]
          have hb : 34 + 13 * ((k - 34) / 13) + 12 < 99 := by omega
          generalize 34 + 13 * ((k - 34) / 13) = b at hb ⊢
          have hj : (k - 34) % 13 < 13 := Nat.mod_lt _ (by decide)
          generalize (k - 34) % 13 = j at hj ⊢
          match j, hj with
          | 0, _ =>
            show cvS (ext G n q) b 0 f h = cvS G b 0 f h
            unfold cvS
            simp only [e (b + 1) (by omega), e (b + 2) (by omega), e (b + 3) (by omega), e (b + 4) (by omega), e (b + 5) (by omega), e (b + 6) (by omega), e (b + 7) (by omega), e (b + 8) (by omega)]
          | 1, _ => rfl
          | 2, _ => rfl
          | 3, _ => rfl
          | 4, _ => rfl
          | 5, _ => rfl
          | 6, _ => rfl
          | 7, _ => rfl
          | 8, _ =>
            show cvS (ext G n q) b 8 f h = cvS G b 8 f h
            unfold cvS
            simp only [e (b + 9) (by omega), e (b + 10) (by omega), e (b + 11) (by omega), e (b + 12) (by omega)]
          | 9, _ => rfl
          | 10, _ => rfl
          | 11, _ => rfl
          | 12, _ => rfl
          | j + 13, h => exact absurd h (by omega)
        · rw [if_neg c4, if_neg c4]
          rfl
theorem rcell_congr {c : ClassId} {n : Nat} {f g : Nat → Option Nat} (h : ∀ j, j < n → f j = g j) : vp_cell c (n, .inr (.inr (.inr (.inr f)))) = vp_cell c (n, .inr (.inr (.inr (.inr g)))) := by
  have e : (fun j : Fin n => va_rf (f j.val)) = fun j : Fin n => va_rf (g j.val) := funext fun j => by rw [h j.val j.isLt]
  show arrV c n (fun j => va_rf (f j)) = arrV c n (fun j => va_rf (g j))
  unfold arrV
  rw [e]
theorem world_ext {G : Gp} {S : Sg} {n q : Nat} {H : Heap} (hn : 99 ≤ n) (hnn : nn G = n) (hP : va_P G.1 vwCl (wcells (wC G) S ++ [(q, .inl (G.2.2.1 0, lsz n, .inl (fun _ => 0)))]) H) : va_P (ext G n q).1 vwCl (wcells (wC (ext G n q)) (zS S n)) H := by
  subst hnn
  intro k p hk
  obtain ⟨hk1, rfl⟩ := wcells_some hk
  have hk2 : k < nn G + 1 := hk1
  have hlen : (wcells (wC G) S).length = nn G := wcells_len
  by_cases hkn : k = nn G
  · have h := hP (nn G) (q, .inl (G.2.2.1 0, lsz (nn G), .inl (fun _ => 0))) (by rw [List.getElem?_append_right (Nat.le_of_eq hlen), hlen, Nat.sub_self]; rfl)
    rw [hkn]
    show va_at G.1 vwCl ((if nn G = nn G then q else G.2.1 (nn G)), cvC (ext G (nn G) q) (nn G) (if nn G = nn G then (fun _ => 0) else S.1 (nn G)) (S.2 (nn G))) H
    rw [if_pos rfl, if_pos rfl]
    have e : cvC (ext G (nn G) q) (nn G) (fun _ => 0) (S.2 (nn G)) = .inl (G.2.2.1 0, lsz (nn G), .inl (fun _ => 0)) := by
      unfold cvC
      rw [if_neg (by omega), if_neg (by omega), if_neg (by omega), if_neg (by omega)]
      rfl
    rw [e]
    exact h
  · have hk3 : k < nn G := by omega
    have h := hP k (G.2.1 k, cvC G k (S.1 k) (S.2 k)) (by rw [List.getElem?_append_left (by rw [hlen]; exact hk3)]; exact wcells_get (w := wC G) hk3)
    show va_at G.1 vwCl ((if k = nn G then q else G.2.1 k), cvC (ext G (nn G) q) k (if k = nn G then (fun _ => 0) else S.1 k) (S.2 k)) H
    rw [if_neg hkn, if_neg hkn]
    by_cases h1 : k = 1
    · subst h1
      refine Eq.trans (show H[G.2.1 1]? = _ from h) (congrArg some (rcell_congr (fun j hj => ?_)))
      exact congrArg some (ext_o (by omega)).symm
    · by_cases h2 : k = 2
      · subst h2
        refine Eq.trans (show H[G.2.1 2]? = _ from h) (congrArg some (rcell_congr (fun j hj => ?_)))
        exact congrArg some (ext_o (by omega)).symm
      · by_cases h3 : k = 3
        · subst h3
          refine Eq.trans (show H[G.2.1 3]? = _ from h) (congrArg some (rcell_congr (fun j hj => ?_)))
          exact congrArg some (ext_o (show sb (2 + j) ≠ nn G from by show 34 + 13 * (2 + j) ≠ nn G; omega)).symm
        · rw [cv_ext hn h1 h2 h3]
          exact h
theorem aw_ext {G : Gp} {S : Sg} {n q : Nat} {A : Nat → Prop} {e : va_E} (hnn : nn G = n) (hD : va_D A (wcells (wC G) S ++ [(q, e)])) : Ij (wC (ext G n q)) ∧ ∀ a, AW (wC (ext G n q)) a → A a := by
  subst hnn
  have hlen : (wcells (wC G) S).length = nn G := wcells_len
  have key : ∀ k, k < nn G + 1 → ∃ e', (wcells (wC G) S ++ [(q, e)])[k]? = some ((ext G (nn G) q).2.1 k, e') := by
    intro k hk
    by_cases hkn : k = nn G
    · refine ⟨e, ?_⟩
      rw [hkn, ext_n, List.getElem?_append_right (Nat.le_of_eq hlen), hlen, Nat.sub_self]
      rfl
    · refine ⟨cvC G k (S.1 k) (S.2 k), ?_⟩
      rw [ext_o hkn, List.getElem?_append_left (by rw [hlen]; omega)]
      exact wcells_get (w := wC G) (by show k < nn G; omega)
  refine ⟨fun i j hi hj h => ?_, fun a ha => ?_⟩
  · obtain ⟨e1, h1⟩ := key i hi
    obtain ⟨e2, h2⟩ := key j hj
    exact hD.1 i j _ _ h1 h2 h
  · obtain ⟨k, hk, rfl⟩ := ha
    obtain ⟨e1, h1⟩ := key k hk
    exact hD.2 k _ h1
theorem ra_eq {s : State} {c1 c2 : ClassId} {ty : FieldType} (h1 : va_RA s c1 ty) (h2 : va_RA s c2 ty) : c1 = c2 := by
  cases ty with
  | object C =>
    obtain ⟨_, _, _, _, _, e1⟩ := h1
    obtain ⟨_, _, _, _, _, e2⟩ := h2
    exact Option.some.inj (e1.symm.trans e2)
  | _ => exact Option.some.inj (Eq.trans (Eq.symm h1) h2)
def Bg (X : XT) : Prop := match X with | (_, _, s, _, _, _, _, _, _, A, _, _) => ∀ q, s.heap.size ≤ q → A q
def Rm (X : XT) (R : Room) (n : Nat) : Prop := match X with | (_, _, _, _, _, _, _, _, _, _, kc, ks) => kc + 1 ≤ R.cells ∧ ks + n ≤ R.slots
/-- a row of ints is made: the world has a cell more -/
theorem go_newa {X : XT} {l : Launch} {R : Room} {G : Gp} {cc : ByteArray} {own : String} {Ts : List Cond} {nL pc n sz : Nat} {st : List Value} {S : Sg} {v : Int32} (lsf : Gp → List (Nat × Value)) (stf : Gp → List Value) (O : Ok X (wC G) cc own Ts nL) (hB : Bg X) (hR : Rm X R sz) (hn : 99 ≤ n) (hnn : nn G = n) (hsz : lsz n = sz) (hsz2 : sz ≤ 40) (hv : v = Int32.ofNat sz) (hc : Cond.arrayClass .int ∈ Ts) (hd : decode cc pc = .ok (.newarray .int, 2)) (hls : ∀ q, lsf (ext G n q) = lsf G) (hst : ∀ q, stf (ext G n q) = stf G)
    (k : ∀ q, Ij (wC (ext G n q)) → Ok (upX X sz) (wC (ext G n q)) cc own Ts nL → Bg (upX X sz) → Go (upX X sz) l R (wC (ext G n q)) nL (pc + 2) (lsf (ext G n q)) (.ref ((ext G n q).2.1 n) :: stf (ext G n q)) (zS S n)) : Go X l R (wC G) nL pc (lsf G) (.int v :: stf G) S := by
  obtain ⟨p, e, s, m, args, below, meth, c, Q, A, kcn, ksn⟩ := X
  obtain ⟨hx, hb, hml, hown, hts, hK, hI, hKs, hAW⟩ := O
  intro hy1 hy2 H locs la hP hS hl
  subst hv
  subst hsz
  have h1 : ¬ Int32.ofNat (lsz n) < 0 := by
    have : ∀ z : Nat, z ≤ 40 → ¬ Int32.ofNat z < 0 := by decide
    exact this _ hsz2
  have h2 : (Int32.ofNat (lsz n)).toNatClampNeg = lsz n := by
    have : ∀ z : Nat, z ≤ 40 → (Int32.ofNat z).toNatClampNeg = z := by decide
    exact this _ hsz2
  refine va_newa (atype := .int) (ty := .int) (N' := lsz n) (a0 := (lsz n, .inl (fun _ => 0))) hx hb (hts (.arrayClass .int) hc) rfl hK hP (wDA hI hAW) hS hB (fun _ => rfl) h1 h2 (by show lsz n * 4 ≤ _; omega) hR.1 hR.2 hd (fun q cA H1 hK1 hP1 hD1 hS1 => ?_)
  obtain rfl : cA = G.2.2.1 0 := ra_eq (hK1.2 7 _ rfl).2 (hK1.2 0 _ rfl).2
  obtain ⟨hI2, hA2⟩ := aw_ext hnn hD1
  have hk := k q hI2 ⟨hx, hb, hml, hown, hts, hK, hI2, hKs, hA2⟩ hB
  rw [hls, hst, ext_n] at hk
  exact hk hR.1 hR.2 H1 locs la (world_ext hn hnn hP1) hS1 hl
def AB (G : Gp) (sz : Nat) : Nat → Prop := fun a => AW (wC G) a ∨ sz ≤ a
def PreB (G : Gp) (S : Sg) (sz : Nat) (U : State) : Prop := U.heap.size = sz ∧ va_P G.1 vwCl (wcells (wC G) S) U.heap ∧ va_K G.1 vwCl (tysOf G) U ∧ Ks (AB G sz) (wC G) U
theorem PreB_blind {G : Gp} {S : Sg} {sz : Nat} {av : List Value} : FrameBlind (va_Pc av (PreB G S sz)) := by
  intro a U g mk h
  obtain ⟨h0, hz, h1, h2, h3⟩ := h
  exact ⟨h0, hz, h1, va_K.moved (u := U) (U := U.calling g mk a) (Vm.Alike.refl U.vm) h2, Ks.mv (U := U.calling g mk a) (locs := []) h3 (fun _ q => q) (va_S.rf (A := AB G sz) (H0 := U.heap)) rfl (Vm.Alike.refl U.vm)⟩
abbrev QB (G : Gp) (S1 : Sg) (r : Int32) (sz : Nat) : Array Value → State → Outcome → State → Prop := va_Qi (fun r' (q : Nat) => r' = r ∧ Ij (wC (ext G 104 q)) ∧ ∀ a, AW (wC (ext G 104 q)) a → AB G sz a) (fun q t => PostW (wC (ext G 104 q)) S1 t) (AB G sz)
theorem met_B {l : Launch} {y : MethodName} {ws ws' : List Cond} {rm : Room} {cc : ByteArray} {maxL : Nat} {own : String} {G : Gp} {avs : List Value} {S S1 : Sg} {r : Int32} {sz : Nat} (hI : Ij (wC G)) (hy : plainName y.cls = true) (hw : ws = Cond.code y cc maxL (some .boolean) :: ws') (ho : y.cls = own) (hlen : (lg_sl avs).length ≤ maxL) (hrm : 1 ≤ rm.cells) (hrs : 40 ≤ rm.slots)
    (body : ∀ X : XT, Ok X (wC G) cc own ws maxL → Bg X → Rm X rm 40 → (∀ q, Ok (upX X 40) (wC (ext G 104 q)) cc own ws maxL → ∀ pc ls (hz : vp_nar .boolean r = r), decode cc pc = .ok (.ireturn, 1) → Go (upX X 40) l rm (wC (ext G 104 q)) maxL pc ls [.int r] S1) → Go X l rm (wC G) maxL 0 (lv_args 0 avs) [] S) :
    Met l y ws rm (va_Pc avs (PreB G S sz)) (QB G S1 r sz) 1 40 (AB G sz) := by
  refine Met.ofW (cc := cc) (maxL := maxL) (ret := some .boolean) hy hw ?_
  intro p e s m args below meth c s₁ B hml hv
  obtain ⟨rfl, hsz, hP, hK, hKs⟩ := hv
  subst hsz
  have hx := B.exec
  have hb := B.bytes
  have hr := B.returns
  have hlocks := B.notSynchronized
  rw [lg_entry_eq]
  exact body (p, e, s, m, _, below, meth, c, _, AB G s.heap.size, 0, 0) ⟨hx, hb, hml, by rw [← ho]; exact findClass_of_methodNamed B.named, atoms_spec (ws := ws) B.pre, hK, hI, hKs, fun _ q => Or.inl q⟩ (fun _ q => Or.inr q) ⟨hrm, Nat.le_trans (Nat.le_of_eq (Nat.zero_add 40)) hrs⟩ (fun q O2 pc ls hz hd _ _ H locs la hP hS _ => W.zret hx hb hr (congrArg Value.int hz) (fun t ht hW => ⟨⟨_, q, rfl, ⟨rfl, O2.2.2.2.2.2.2.1, O2.2.2.2.2.2.2.2.2⟩, by rw [ht]; exact hP, va_K.moved hW.alike hK⟩, hS.F ht⟩) hS.2.2 hd) (Nat.zero_le _) (Nat.zero_le _) s.heap [] _ hP va_S.rf (lv_entry avs hlen)
theorem go_callB {X : XT} {l : Launch} {R : Room} {G : Gp} {cc : ByteArray} {own : String} {Ts : List Cond} {nL pc : Nat} {S S1 : Sg} {r : Int32} {y : MethodName} {bytes : ByteArray} {maxL n i : Nat} {ret : Option FieldType} {ws : List Cond} {rm : Room} (As : List Value) (lsf : Gp → List (Nat × Value)) (O : Ok X (wC G) cc own Ts nL) (hB : Bg X) (hnn : nn G = 104) (hM : ∀ sz, Met l y ws rm (va_Pc As (PreB G S sz)) (QB G S1 r sz) 1 40 (AB G sz)) (cw : ∀ (s : State) (args : Array Value), (∀ x ∈ Ts, x.before args s = true) → CallB R s args own i y bytes maxL ret ws rm 1 40 n ∧ (Cond.static y).before args s = true) (hRm : Rm X R 40) (hn : As.length = n) (hd : decode cc pc = .ok (.invokestatic i, 3)) (hls : ∀ q, lsf (ext G 104 q) = lsf G)
    (k : ∀ q, Ij (wC (ext G 104 q)) → Ok (upX X 40) (wC (ext G 104 q)) cc own Ts nL → Go (upX X 40) l R (wC (ext G 104 q)) nL (pc + 3) (lsf (ext G 104 q)) [.int r] S1) : Go X l R (wC G) nL pc (lsf G) As.reverse S := by
  obtain ⟨p, e, s, m, args, below, meth, c, Q, A, kcn, ksn⟩ := X
  obtain ⟨hx, hb, hml, hown, hts, hK, hI, hKs, hAW⟩ := O
  intro hy1 hy2 H locs la hP hS hl
  have hAB : ∀ a, AB G H.size a → A a := fun a h => h.elim (hAW a) (fun h => hB a (Nat.le_trans hS.1 h))
  refine va_calli (va_runS (As := As) (rest := []) ⟨hx, hb, hml, hown, hts⟩ (hM H.size) (cw s args hts) ⟨PreB_blind, fun U hU hWm => ⟨rfl, by rw [hU], by rw [hU]; exact hP, va_K.moved hWm.alike hK, hKs.mv hAB hS hU hWm.alike⟩⟩ rfl hn hl.1 (List.append_nil _).symm (lv_room (by decide)) hd ⟨hRm.1, hRm.2⟩) hS (fun q _ h => hAB q h) (fun q h => hAB q h) (fun r' q t H1 locs1 ht hvm hw hB1 hz1 hk1 hS1 => ?_)
  obtain ⟨rfl, hI2, hA2⟩ := hw
  obtain ⟨hP1, -⟩ := hB1
  rw [ht] at hP1
  have hk := k q hI2 ⟨hx, hb, hml, hown, hts, hK, hI2, hKs, fun a h => hAB a (hA2 a h)⟩
  rw [hls] at hk
  exact hk hRm.1 hRm.2 H1 locs1 la hP1 hS1 hl
