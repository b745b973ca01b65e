/-! THE CLAIM OUT OF ONE WALK OF THE LAW'S BODY. Your part is whole_start (and what it stands on); all else here is the same for every law, but numbers. -/
def R_law : String := "PaperWallsLaw"
def lw_P (b : Addr) (xs : List Int32) (args : Array Value) (s : State) : Prop := args = #[.ref b] ∧ s.IntsAt b xs ∧ xs.length ≤ 260 ∧ (Jvm.Cond.and given_1 narrow_1).before args s = true
def lw_Q (_ : Array Value) (s : State) (o : Outcome) (t : State) : Prop := o = .returned (some (.int 1)) ∧ Framed s o t [] 600000 7302249
def lw_Z (below : List Frame) (a : Array Value) (s : State) : State → Prop := fun t => ∃ o, t.status = .running ∧ Ended t below o ∧ lw_Q a s o t
/-- the law's own end, with 1 on the stack, nothing written that was there before, its room as the claim has it -/
theorem lw_ret {p : Program} {l : Launch} {e : Env} {s : State} {m : MethodId} {below : List Frame} {meth : Method} {c : Code} {b : Nat} (hx : p.tables.exec = Jvm.exec) (hb : c.code = code) (hr : meth.sig.returnType = ret) (hlocks : meth.locks = false) {pc : Nat} {H : Heap} {ls : Array Slot} (hdg : decode code pc = .ok (.ireturn, 1)) : W p l e room_1 s m #[Value.ref b] below meth c H [] 600000 7302249 (lw_Z below #[Value.ref b] s) (F0 m pc ls [.int 1]) := by
  intro T hT X
  obtain ⟨fs, hret, hrun, hended, hW, hframe⟩ := X.leave (v := some (.int 1)) (hlocks := hlocks) (fun h => by rw [hr] at h; cases h)
  have hmeth' : T.vm.method? m = some meth := X.method'
  refine ⟨T.setFrames fs, ?_, .returned (some (.int 1)), hrun, hended, rfl, ⟨_, rfl⟩, hW, hframe⟩
  jvm_step X.here [X.here.top, hx, hb, hdg, hmeth', hr, ret, narrow_b1]
  (try refine ⟨rfl, ?_⟩); (try refine ⟨rfl, ?_⟩)
  first | (intro acts; rw [hret _ acts rfl rfl rfl]) | rw [hret _ _ rfl rfl rfl]
  exact Steps.refl _
/-- what holds at the law's entry: the machine, the code, the tables' words (any of lw_tbl by 'hts w (by decide +kernel)'), the script of L ints xs at the cell b, what the Statement gives of the start (any of its parts by flat_of_before) -/
def lw_At (p : Program) (s : State) (m : MethodId) (meth : Method) (c : Code) (b L : Nat) (xs : Nat → Int32) : Prop :=
  p.tables.exec = Jvm.exec ∧ c.code = code ∧ meth.sig.returnType = ret ∧ c.maxLocals = 19 ∧ s.vm.findClass R_law = some m.cls ∧ (∀ w ∈ lw_tbl, w.before #[Value.ref b] s = true) ∧ va_X b L xs s s.heap ∧ b < s.heap.size ∧ meth.locks = false ∧ (Jvm.Cond.and given_1 narrow_1).before #[Value.ref b] s = true
-- ===== YOUR PART BEGINS =====
set_option maxHeartbeats 40000000 in
set_option maxRecDepth 100000 in
/-- from the object on -/
theorem law_from {p : Program} {e : Env} {s : State} {m : MethodId} {below : List Frame} {meth : Method} {c : Code} (l : Launch) {b Ln : Nat} {xs : Nat → Int32} (hLn : Ln ≤ 260) (hx : p.tables.exec = Jvm.exec) (hb : c.code = cL_law) (hr : meth.sig.returnType = ret) (hlocks : meth.locks = false) {kc ks : Nat} (hkc : kc ≤ 1000) (hks : ks ≤ 100000) {G : Gp} (hI : Ij (wC G)) (hnn : nn G = 99) (hgb : gb G = b) (hL : gL G = Ln) (hxs : gx G = xs) (O : Ok (p, e, s, m, #[Value.ref b], below, meth, c, lw_Z below #[Value.ref b] s, AN s, kc, ks) (wC G) cL_law RL lw_tbl 19) : Go (p, e, s, m, #[Value.ref b], below, meth, c, lw_Z below #[Value.ref b] s, AN s, kc, ks) l room_1 (wC G) 19 7 [(0, .ref b)] [.ref (G.2.1 0)] S0C := by
  have hB : Bg (p, e, s, m, #[Value.ref b], below, meth, c, lw_Z below #[Value.ref b] s, AN s, kc, ks) := fun q h => h
  obtain ⟨S1, S2, kb, kl⟩ := law_one (Ln := Ln) (xs := xs) hLn (S := zS (zS (zS (zS (zS S0C 99) 100) 101) 102) 103) (by decide)
  have hwi : Cond.arrayClass .int ∈ lw_tbl := List.mem_of_getElem? (i := 72) (by decide +kernel)
  have hb0 : ([(0, Value.ref b)] : List (Nat × Value)) = [(0, .ref (gb G))] := by rw [hgb]
  rw [hb0]
  refine go_astore_n (ls' := [(1, .ref (G.2.1 0)), (0, .ref (gb G))]) O dL_law_7 rfl (by decide) rfl ?_
  refine go_perm (ls' := [(0, .ref (gb G)), (1, .ref (G.2.1 0))]) [1, 0] rfl ?_
  refine go_bipush (v := 7) O dL_law_8 (by decide) ?_
  refine go_newa (st := []) (sz := 7) (n := 99) (fun G => [(0, .ref (gb G)), (1, .ref (G.2.1 0))]) (fun G => []) O hB (show kc + 1 ≤ 600000 ∧ ks + 7 ≤ 7302249 from ⟨by omega, by omega⟩) (by decide) hnn rfl (by decide) rfl hwi dL_law_10 (fun q => rfl) (fun q => rfl) (fun q hI O hB => ?_)
  have hnn2 : nn (ext G 99 q) = 100 := rfl
  have hL2 : gL (ext G 99 q) = Ln := hL
  have hxs2 : gx (ext G 99 q) = xs := hxs
  generalize ext G 99 q = G at O hI hnn2 hL2 hxs2 ⊢
  clear hnn hL hxs
  have hnn := hnn2
  have hL := hL2
  have hxs := hxs2
  clear hnn2 hL2 hxs2
  refine go_astore_n (ls' := [(2, .ref (G.2.1 99)), (0, .ref (gb G)), (1, .ref (G.2.1 0))]) O dL_law_12 rfl (by decide) rfl ?_
  refine go_perm (ls' := [(0, .ref (gb G)), (1, .ref (G.2.1 0)), (2, .ref (G.2.1 99))]) [1, 2, 0] rfl ?_
  refine go_bipush (v := 7) O dL_law_13 (by decide) ?_
  refine go_newa (st := []) (sz := 7) (n := 100) (fun G => [(0, .ref (gb G)), (1, .ref (G.2.1 0)), (2, .ref (G.2.1 99))]) (fun G => []) O hB (show kc + 1 + 1 ≤ 600000 ∧ ks + 7 + 7 ≤ 7302249 from ⟨by omega, by omega⟩) (by decide) hnn rfl (by decide) rfl hwi dL_law_15 (fun q => rfl) (fun q => rfl) (fun q hI O hB => ?_)
  have hnn2 : nn (ext G 100 q) = 101 := rfl
  have hL2 : gL (ext G 100 q) = Ln := hL
  have hxs2 : gx (ext G 100 q) = xs := hxs
  generalize ext G 100 q = G at O hI hnn2 hL2 hxs2 ⊢
  clear hnn hL hxs
  have hnn := hnn2
  have hL := hL2
  have hxs := hxs2
  clear hnn2 hL2 hxs2
  refine go_astore_n (ls' := [(3, .ref (G.2.1 100)), (0, .ref (gb G)), (1, .ref (G.2.1 0)), (2, .ref (G.2.1 99))]) O dL_law_17 rfl (by decide) rfl ?_
  refine go_perm (ls' := [(0, .ref (gb G)), (1, .ref (G.2.1 0)), (2, .ref (G.2.1 99)), (3, .ref (G.2.1 100))]) [1, 2, 3, 0] rfl ?_
  refine go_bipush (v := 6) O dL_law_18 (by decide) ?_
  refine go_newa (st := []) (sz := 6) (n := 101) (fun G => [(0, .ref (gb G)), (1, .ref (G.2.1 0)), (2, .ref (G.2.1 99)), (3, .ref (G.2.1 100))]) (fun G => []) O hB (show kc + 1 + 1 + 1 ≤ 600000 ∧ ks + 7 + 7 + 6 ≤ 7302249 from ⟨by omega, by omega⟩) (by decide) hnn rfl (by decide) rfl hwi dL_law_20 (fun q => rfl) (fun q => rfl) (fun q hI O hB => ?_)
  have hnn2 : nn (ext G 101 q) = 102 := rfl
  have hL2 : gL (ext G 101 q) = Ln := hL
  have hxs2 : gx (ext G 101 q) = xs := hxs
  generalize ext G 101 q = G at O hI hnn2 hL2 hxs2 ⊢
  clear hnn hL hxs
  have hnn := hnn2
  have hL := hL2
  have hxs := hxs2
  clear hnn2 hL2 hxs2
  refine go_astore (ls' := [(4, .ref (G.2.1 101)), (0, .ref (gb G)), (1, .ref (G.2.1 0)), (2, .ref (G.2.1 99)), (3, .ref (G.2.1 100))]) O dL_law_22 (by decide) rfl ?_
  refine go_perm (ls' := [(0, .ref (gb G)), (1, .ref (G.2.1 0)), (2, .ref (G.2.1 99)), (3, .ref (G.2.1 100)), (4, .ref (G.2.1 101))]) [1, 2, 3, 4, 0] rfl ?_
  refine go_iconst (v := 4) O dL_law_24 (by decide) ?_
  refine go_newa (st := []) (sz := 4) (n := 102) (fun G => [(0, .ref (gb G)), (1, .ref (G.2.1 0)), (2, .ref (G.2.1 99)), (3, .ref (G.2.1 100)), (4, .ref (G.2.1 101))]) (fun G => []) O hB (show kc + 1 + 1 + 1 + 1 ≤ 600000 ∧ ks + 7 + 7 + 6 + 4 ≤ 7302249 from ⟨by omega, by omega⟩) (by decide) hnn rfl (by decide) rfl hwi dL_law_25 (fun q => rfl) (fun q => rfl) (fun q hI O hB => ?_)
  have hnn2 : nn (ext G 102 q) = 103 := rfl
  have hL2 : gL (ext G 102 q) = Ln := hL
  have hxs2 : gx (ext G 102 q) = xs := hxs
  generalize ext G 102 q = G at O hI hnn2 hL2 hxs2 ⊢
  clear hnn hL hxs
  have hnn := hnn2
  have hL := hL2
  have hxs := hxs2
  clear hnn2 hL2 hxs2
  refine go_astore (ls' := [(5, .ref (G.2.1 102)), (0, .ref (gb G)), (1, .ref (G.2.1 0)), (2, .ref (G.2.1 99)), (3, .ref (G.2.1 100)), (4, .ref (G.2.1 101))]) O dL_law_27 (by decide) rfl ?_
  refine go_perm (ls' := [(0, .ref (gb G)), (1, .ref (G.2.1 0)), (2, .ref (G.2.1 99)), (3, .ref (G.2.1 100)), (4, .ref (G.2.1 101)), (5, .ref (G.2.1 102))]) [1, 2, 3, 4, 5, 0] rfl ?_
  refine go_bipush (v := 24) O dL_law_29 (by decide) ?_
  refine go_newa (st := []) (sz := 24) (n := 103) (fun G => [(0, .ref (gb G)), (1, .ref (G.2.1 0)), (2, .ref (G.2.1 99)), (3, .ref (G.2.1 100)), (4, .ref (G.2.1 101)), (5, .ref (G.2.1 102))]) (fun G => []) O hB (show kc + 1 + 1 + 1 + 1 + 1 ≤ 600000 ∧ ks + 7 + 7 + 6 + 4 + 24 ≤ 7302249 from ⟨by omega, by omega⟩) (by decide) hnn rfl (by decide) rfl hwi dL_law_31 (fun q => rfl) (fun q => rfl) (fun q hI O hB => ?_)
  have hnn2 : nn (ext G 103 q) = 104 := rfl
  have hL2 : gL (ext G 103 q) = Ln := hL
  have hxs2 : gx (ext G 103 q) = xs := hxs
  generalize ext G 103 q = G at O hI hnn2 hL2 hxs2 ⊢
  clear hnn hL hxs
  have hnn := hnn2
  have hL := hL2
  have hxs := hxs2
  clear hnn2 hL2 hxs2
  refine go_astore (ls' := [(6, .ref (G.2.1 103)), (0, .ref (gb G)), (1, .ref (G.2.1 0)), (2, .ref (G.2.1 99)), (3, .ref (G.2.1 100)), (4, .ref (G.2.1 101)), (5, .ref (G.2.1 102))]) O dL_law_33 (by decide) rfl ?_
  refine go_perm (ls' := [(0, .ref (gb G)), (1, .ref (G.2.1 0)), (2, .ref (G.2.1 99)), (3, .ref (G.2.1 100)), (4, .ref (G.2.1 101)), (5, .ref (G.2.1 102)), (6, .ref (G.2.1 103))]) [1, 2, 3, 4, 5, 6, 0] rfl ?_
  refine go_aload_n O dL_law_35 rfl 1 rfl ?_
  refine go_aload_n O dL_law_36 rfl 0 rfl ?_
  refine go_iconst (v := 0) O dL_law_37 (by decide) ?_
  refine go_aload_n O dL_law_38 rfl 2 rfl ?_
  refine go_aload_n O dL_law_39 rfl 3 rfl ?_
  refine go_aload O dL_law_40 4 rfl ?_
  refine go_aload O dL_law_42 5 rfl ?_
  refine go_iconst (v := 2) O dL_law_44 (by decide) ?_
  refine go_bipush (v := 7) O dL_law_45 (by decide) ?_
  have hGd : Gd G := ⟨hI, by rw [hnn]; decide⟩
  have hT : 104 ≤ nn G := by rw [hnn]; decide
  refine go_callB [.ref (G.2.1 0), .ref (gb G), .int (0 : Int32), .ref (G.2.1 99), .ref (G.2.1 100), .ref (G.2.1 101), .ref (G.2.1 102), .int (2 : Int32), .int (7 : Int32)] (fun G => [(0, .ref (gb G)), (1, .ref (G.2.1 0)), (2, .ref (G.2.1 99)), (3, .ref (G.2.1 100)), (4, .ref (G.2.1 101)), (5, .ref (G.2.1 102)), (6, .ref (G.2.1 103))]) O hB hnn (fun sz => c_L_build l G hGd hL hxs hT hnn kb sz) (fun s args hts => va_cwS 9 hts gL_law_L_build rfl rfl rfl (by decide +kernel) ⟨Nat.le_of_ble_eq_true rfl, Nat.le_of_ble_eq_true rfl⟩) (show kc + 1 + 1 + 1 + 1 + 1 + 1 ≤ 600000 ∧ ks + 7 + 7 + 6 + 4 + 24 + 40 ≤ 7302249 from ⟨by omega, by omega⟩) rfl dL_law_47 (fun q => rfl) (fun q hI O => ?_)
  exact c_L_law l (ext G 104 q) ⟨hI, (by decide : 99 ≤ 105)⟩ hL hxs (by decide : 104 ≤ 105) kl O (fun pc ls hz hd hc1 hc2 H locs la _ hS _ => va_forget hS.2.2 (W.widen (k := 600000) (n := 7302249) hc1 hc2 (lw_ret hx hb hr hlocks hd)))
set_option maxHeartbeats 40000000 in
set_option maxRecDepth 100000 in
/-- YOUR PART: from the entry, for every script of at most 260 ints, the law comes to its end with true ('hflags': the launch's flags, for a law that throws: no stack traces) -/
theorem whole_start {p : Program} {e : Env} {s : State} {m : MethodId} {below : List Frame} {meth : Method} {c : Code} (l : Launch) (hflags : l.flags = flags0) {b L : Nat} {xs : Nat → Int32} (hL : L ≤ 260) (C0 : lw_At p s m meth c b L xs) : W p l e room_1 s m #[Value.ref b] below meth c s.heap [] 0 0 (lw_Z below #[Value.ref b] s) (entryFrame m ([Value.ref b] : List Value).toArray 19) := by
  obtain ⟨hx, hb, hr, hml, hown, hts, hX, hbl, hlocks, hgv⟩ := C0
  have hown : s.vm.findClass RL = some m.cls := hown
  have hs := flat_of_before _ hgv
  obtain ⟨D, ca, hKall⟩ := known_all hts
  have hAn : ∀ a : Nat, a < s.heap.size → ¬ AN s a := fun a h1 h2 => absurd h2 (Nat.not_le.mpr h1)
  obtain ⟨t0, z0, x0⟩ := sta (f := skv 0) (A := AN s) (hts (.laysStatic "PaperWalls$Kinds" "LETTERS" "[I") (by decide +kernel)) (hts (.initialized "PaperWalls$Kinds") (by decide +kernel)) (hs (.arrayOf (.static "PaperWalls$Kinds" "LETTERS" "[I") .int) (by decide +kernel)) (hs (.eq (.length (.static "PaperWalls$Kinds" "LETTERS" "[I")) (.int 6)) (by decide +kernel)) (fun j hj => by
    match j, hj with
    | 0, _ => exact hs (.eq (.elem (.static "PaperWalls$Kinds" "LETTERS" "[I") (.int 0)) (.int (skv 0 0))) (by decide +kernel)
    | 1, _ => exact hs (.eq (.elem (.static "PaperWalls$Kinds" "LETTERS" "[I") (.int 1)) (.int (skv 0 1))) (by decide +kernel)
    | 2, _ => exact hs (.eq (.elem (.static "PaperWalls$Kinds" "LETTERS" "[I") (.int 2)) (.int (skv 0 2))) (by decide +kernel)
    | 3, _ => exact hs (.eq (.elem (.static "PaperWalls$Kinds" "LETTERS" "[I") (.int 3)) (.int (skv 0 3))) (by decide +kernel)
    | 4, _ => exact hs (.eq (.elem (.static "PaperWalls$Kinds" "LETTERS" "[I") (.int 4)) (.int (skv 0 4))) (by decide +kernel)
    | 5, _ => exact hs (.eq (.elem (.static "PaperWalls$Kinds" "LETTERS" "[I") (.int 5)) (.int (skv 0 5))) (by decide +kernel)
    | j + 6, h => exact absurd h (by omega)) hAn
  obtain ⟨t1, z1, x1⟩ := sta (f := skv 1) (A := AN s) (hts (.laysStatic "PaperWalls$Kinds" "WIDER" "[I") (by decide +kernel)) (hts (.initialized "PaperWalls$Kinds") (by decide +kernel)) (hs (.arrayOf (.static "PaperWalls$Kinds" "WIDER" "[I") .int) (by decide +kernel)) (hs (.eq (.length (.static "PaperWalls$Kinds" "WIDER" "[I")) (.int 6)) (by decide +kernel)) (fun j hj => by
    match j, hj with
    | 0, _ => exact hs (.eq (.elem (.static "PaperWalls$Kinds" "WIDER" "[I") (.int 0)) (.int (skv 1 0))) (by decide +kernel)
    | 1, _ => exact hs (.eq (.elem (.static "PaperWalls$Kinds" "WIDER" "[I") (.int 1)) (.int (skv 1 1))) (by decide +kernel)
    | 2, _ => exact hs (.eq (.elem (.static "PaperWalls$Kinds" "WIDER" "[I") (.int 2)) (.int (skv 1 2))) (by decide +kernel)
    | 3, _ => exact hs (.eq (.elem (.static "PaperWalls$Kinds" "WIDER" "[I") (.int 3)) (.int (skv 1 3))) (by decide +kernel)
    | 4, _ => exact hs (.eq (.elem (.static "PaperWalls$Kinds" "WIDER" "[I") (.int 4)) (.int (skv 1 4))) (by decide +kernel)
    | 5, _ => exact hs (.eq (.elem (.static "PaperWalls$Kinds" "WIDER" "[I") (.int 5)) (.int (skv 1 5))) (by decide +kernel)
    | j + 6, h => exact absurd h (by omega)) hAn
  obtain ⟨t2, z2, x2⟩ := sta (f := skv 2) (A := AN s) (hts (.laysStatic "PaperWalls$Kinds" "SPEAKS" "[I") (by decide +kernel)) (hts (.initialized "PaperWalls$Kinds") (by decide +kernel)) (hs (.arrayOf (.static "PaperWalls$Kinds" "SPEAKS" "[I") .int) (by decide +kernel)) (hs (.eq (.length (.static "PaperWalls$Kinds" "SPEAKS" "[I")) (.int 6)) (by decide +kernel)) (fun j hj => by
    match j, hj with
    | 0, _ => exact hs (.eq (.elem (.static "PaperWalls$Kinds" "SPEAKS" "[I") (.int 0)) (.int (skv 2 0))) (by decide +kernel)
    | 1, _ => exact hs (.eq (.elem (.static "PaperWalls$Kinds" "SPEAKS" "[I") (.int 1)) (.int (skv 2 1))) (by decide +kernel)
    | 2, _ => exact hs (.eq (.elem (.static "PaperWalls$Kinds" "SPEAKS" "[I") (.int 2)) (.int (skv 2 2))) (by decide +kernel)
    | 3, _ => exact hs (.eq (.elem (.static "PaperWalls$Kinds" "SPEAKS" "[I") (.int 3)) (.int (skv 2 3))) (by decide +kernel)
    | 4, _ => exact hs (.eq (.elem (.static "PaperWalls$Kinds" "SPEAKS" "[I") (.int 4)) (.int (skv 2 4))) (by decide +kernel)
    | 5, _ => exact hs (.eq (.elem (.static "PaperWalls$Kinds" "SPEAKS" "[I") (.int 5)) (.int (skv 2 5))) (by decide +kernel)
    | j + 6, h => exact absurd h (by omega)) hAn
  obtain ⟨t3, z3, x3⟩ := sta (f := skv 3) (A := AN s) (hts (.laysStatic "PaperWalls$Kinds" "SINGS" "[I") (by decide +kernel)) (hts (.initialized "PaperWalls$Kinds") (by decide +kernel)) (hs (.arrayOf (.static "PaperWalls$Kinds" "SINGS" "[I") .int) (by decide +kernel)) (hs (.eq (.length (.static "PaperWalls$Kinds" "SINGS" "[I")) (.int 6)) (by decide +kernel)) (fun j hj => by
    match j, hj with
    | 0, _ => exact hs (.eq (.elem (.static "PaperWalls$Kinds" "SINGS" "[I") (.int 0)) (.int (skv 3 0))) (by decide +kernel)
    | 1, _ => exact hs (.eq (.elem (.static "PaperWalls$Kinds" "SINGS" "[I") (.int 1)) (.int (skv 3 1))) (by decide +kernel)
    | 2, _ => exact hs (.eq (.elem (.static "PaperWalls$Kinds" "SINGS" "[I") (.int 2)) (.int (skv 3 2))) (by decide +kernel)
    | 3, _ => exact hs (.eq (.elem (.static "PaperWalls$Kinds" "SINGS" "[I") (.int 3)) (.int (skv 3 3))) (by decide +kernel)
    | 4, _ => exact hs (.eq (.elem (.static "PaperWalls$Kinds" "SINGS" "[I") (.int 4)) (.int (skv 3 4))) (by decide +kernel)
    | 5, _ => exact hs (.eq (.elem (.static "PaperWalls$Kinds" "SINGS" "[I") (.int 5)) (.int (skv 3 5))) (by decide +kernel)
    | j + 6, h => exact absurd h (by omega)) hAn
  obtain ⟨t4, z4, x4⟩ := sta (f := skv 4) (A := AN s) (hts (.laysStatic "PaperWalls$Kinds" "LEAST" "[I") (by decide +kernel)) (hts (.initialized "PaperWalls$Kinds") (by decide +kernel)) (hs (.arrayOf (.static "PaperWalls$Kinds" "LEAST" "[I") .int) (by decide +kernel)) (hs (.eq (.length (.static "PaperWalls$Kinds" "LEAST" "[I")) (.int 6)) (by decide +kernel)) (fun j hj => by
    match j, hj with
    | 0, _ => exact hs (.eq (.elem (.static "PaperWalls$Kinds" "LEAST" "[I") (.int 0)) (.int (skv 4 0))) (by decide +kernel)
    | 1, _ => exact hs (.eq (.elem (.static "PaperWalls$Kinds" "LEAST" "[I") (.int 1)) (.int (skv 4 1))) (by decide +kernel)
    | 2, _ => exact hs (.eq (.elem (.static "PaperWalls$Kinds" "LEAST" "[I") (.int 2)) (.int (skv 4 2))) (by decide +kernel)
    | 3, _ => exact hs (.eq (.elem (.static "PaperWalls$Kinds" "LEAST" "[I") (.int 3)) (.int (skv 4 3))) (by decide +kernel)
    | 4, _ => exact hs (.eq (.elem (.static "PaperWalls$Kinds" "LEAST" "[I") (.int 4)) (.int (skv 4 4))) (by decide +kernel)
    | 5, _ => exact hs (.eq (.elem (.static "PaperWalls$Kinds" "LEAST" "[I") (.int 5)) (.int (skv 4 5))) (by decide +kernel)
    | j + 6, h => exact absurd h (by omega)) hAn
  let ks : Nat → Nat := fun k => match k with | 0 => t0 | 1 => t1 | 2 => t2 | 3 => t3 | _ => t4
  have hZ : ∀ k, k < 5 → va_Z "PaperWalls$Kinds" (skn k) "[I" (.ref (ks k)) (AN s) s s.heap ∧ va_T .int (ks k) 6 (fun j => .int (skv k j)) (AN s) s s.heap ∧ ¬ AN s (ks k) := fun k hk => by
    have out : ∀ t f, va_T .int t 6 f (AN s) s s.heap → ¬ AN s t := fun t f g => g.out
    match k, hk with
    | 0, _ => exact ⟨z0, x0, out _ _ x0⟩
    | 1, _ => exact ⟨z1, x1, out _ _ x1⟩
    | 2, _ => exact ⟨z2, x2, out _ _ x2⟩
    | 3, _ => exact ⟨z3, x3, out _ _ x3⟩
    | 4, _ => exact ⟨z4, x4, out _ _ x4⟩
    | k + 5, h => exact absurd h (by omega)
  have hAO4 := va_AO.of (hts (.arrayOver (.object "PaperWalls$Row")) (by decide +kernel))
  have hAO5 := va_AO.of (hts (.arrayOver (.object "PaperWalls$Text")) (by decide +kernel))
  have hAO6 := va_AO.of (hts (.arrayOver (.object "PaperWalls$Street")) (by decide +kernel))
  have hl := lv_entry ([.ref b]) (n := 19) (Nat.le_of_ble_eq_true rfl)
  rw [lg_entry_eq]
  generalize (lg_sl ([Value.ref b]) ++ List.replicate (19 - (lg_sl ([Value.ref b])).length) Slot.unset).toArray = ls at hl ⊢
  have hl : lv_has ls 19 [(0, .ref b)] := hl
  have hS : va_S (AN s) s.heap s.heap [] := va_S.rf
  have hA : ∀ q, s.heap.size ≤ q → AN s q := fun q h => h
  have hP : va_P D vwCl [] s.heap := fun k q hk => by cases hk
  have hD : va_D (AN s) [] := ⟨fun i j p q hi => (by cases hi), fun k q hk => (by cases hk)⟩
  let Gz : Gp := (D, (fun _ => 0), ca, ks, 0, b, L, xs)
  have hK : va_K D vwCl (tysOf Gz) s := hKall (fun _ => 0) (ks, 0, b, L, xs)
  refine va_new (ci := 7) (fs := [.null, .null, .null, .null, .null, .null, .null, .null, .null, .null, .int 0, .int 0]) (C := RX8) (T := TX8) (N := 12) hx hb hts uin_X8 tyX8 tyX8_ok hown (hts (.classLink RL 42 RX8) (by decide +kernel)) (hts (.instantiable RX8 12) (by decide +kernel)) (hts (.initialized RX8) (by decide +kernel)) hK hP hD hS hA rfl (fun j hj => by rcases (show j = 0 ∨ j = 1 ∨ j = 2 ∨ j = 3 ∨ j = 4 ∨ j = 5 ∨ j = 6 ∨ j = 7 ∨ j = 8 ∨ j = 9 ∨ j = 10 ∨ j = 11 by omega) with rfl | rfl | rfl | rfl | rfl | rfl | rfl | rfl | rfl | rfl | rfl | rfl <;> rfl) (Nat.le_of_ble_eq_true rfl) (Nat.le_of_ble_eq_true rfl) dL_law_0 (fun q0 H hP hD hS => ?_)
  have hP : va_P D vwCl [(q0, .inr (7, [.null, .null, .null, .null, .null, .null, .null, .null, .null, .null, .int 0, .int 0]))] H := hP
  have hD : va_D (AN s) [(q0, .inr (7, [.null, .null, .null, .null, .null, .null, .null, .null, .null, .null, .int 0, .int 0]))] := hD
  refine lv_dup hx hb dL_law_3 rfl ?_
  have hFc : ∀ q, va_A [(q0, .inr (7, [.null, .null, .null, .null, .null, .null, .null, .null, .null, .null, .int 0, .int 0]))] H.size q → AN s q := va_free hD hS hA [0] rfl
  refine va_callv (va_runI (As := []) (rest := [.ref q0]) ⟨hx, hb, hml, hown, hts⟩ (c_X8_init l Gz q0 H.size) (cwI 0 hts gL_X8_init rfl rfl rfl (hts (.initialized RX8) (by decide +kernel)) (hts (.methodLink RL 69 yX8_init) (by decide +kernel)) (hts (.instanceMethod yX8_init) (by decide +kernel)) rfl (by decide +kernel) ⟨Nat.le_of_ble_eq_true rfl, Nat.le_of_ble_eq_true rfl⟩) ⟨init8_blind, fun U hU hW => ⟨rfl, by rw [hU], by rw [hU]; exact hP, va_K.moved hW.alike hK, hD.weaken (fun _ _ _ _ => trivial), hAO4.moved hW.alike, hAO5.moved hW.alike, hAO6.moved hW.alike⟩⟩ rfl rfl hl.1 rfl (lv_room (Nat.le_of_ble_eq_true rfl)) dL_law_4 ⟨Nat.le_of_ble_eq_true rfl, Nat.le_of_ble_eq_true rfl⟩) hS (fun q _ h => hFc q h) hFc (fun q4 t H1 locs ht hvm hw hB hz1 hk1 hS => ?_)
  obtain ⟨hP1, hK1, hD1⟩ := hB
  rw [ht] at hP1
  obtain ⟨hPC, hDC⟩ := world_C Gz q0 q4 hP1 hD1
  have hDC : va_D (AN s) (wcells (wC (G0 Gz q0 q4)) S0C) := hDC.weaken (fun _ q _ h => hFc _ h)
  obtain ⟨hIC, hAC⟩ := wD_AW hDC
  have hKC : va_K D vwCl (tysOf (G0 Gz q0 q4)) s := hKall (adC q0 q4) (ks, 99, b, L, xs)
  have hKs : Ks (AN s) (wC (G0 Gz q0 q4)) s := ⟨hZ, hX, Nat.not_le.mpr hbl⟩
  exact law_from l hL hx hb hr hlocks (kc := _) (ks := _) (Nat.le_of_ble_eq_true rfl) (Nat.le_of_ble_eq_true rfl) hIC rfl rfl rfl rfl ⟨hx, hb, hml, hown, hts, hKC, hIC, hKs, hAC⟩ (Nat.le_of_ble_eq_true rfl) (Nat.le_of_ble_eq_true rfl) H1 locs ls hPC hS hl
-- ===== YOUR PART ENDS =====
set_option maxHeartbeats 4000000 in
theorem lw_walk (l : Launch) (hflags : l.flags = flags0) (b : Addr) (xs : List Int32) : MetFree l x (headSpec (Jvm.Cond.code x code maxLocals ret :: tables_1) room_1) (lw_P b xs) (fun _ _ _ _ _ => True) lw_Q := by
  refine MetFree.of_bodyS (code := code) (maxLocals := maxLocals) (ret := ret) (by decide) ?_ ?_
  · intro args s m h hn
    obtain ⟨meth, c, h1, h2, h3, h4, h5, h6, -, -⟩ := Cond.code_spec hn (atoms_spec (ws := Jvm.Cond.code x code maxLocals ret :: tables_1) h _ List.mem_cons_self)
    exact ⟨meth, c, h1, h2, h3, h4, h5, h6⟩
  · intro p e s m args below meth c s₁ B hml0 hP _
    obtain ⟨rfl, hx, hbd, hgv⟩ := hP
    obtain ⟨scr, harrAt, hlist, hof, hsmall⟩ := hx
    obtain ⟨hcb, hkn, -, -⟩ := State.arrayAt?_spec harrAt
    have hown : s.vm.findClass R_law = some m.cls := findClass_of_methodNamed B.named
    have hts0 : ∀ c ∈ (Jvm.Cond.code x code maxLocals ret :: tables_1), c.before #[Value.ref b] s = true := atoms_spec (ws := Jvm.Cond.code x code maxLocals ret :: tables_1) B.pre
    have hts : ∀ w ∈ lw_tbl, w.before #[Value.ref b] s = true := k2_hts_sels lw_privs (fun w hw => hts0 w (List.mem_cons_of_mem _ hw)) lw_privs_ok
    have hml : c.maxLocals = 19 := B.maxLocals_eq (hts0 _ List.mem_cons_self)
    have X₀ : Stand p l e room_1 s m #[Value.ref b] below meth c s₁ [] 0 0 := Stand.of_body B
    have hh0 : s₁.heap = s.heap := by rw [B.state]; rfl
    have hsz : scr.slots.size = xs.length := by rw [← Array.length_toList, hlist, List.length_map]
    have hval : ∀ j : Nat, j < xs.length → scr.slots[j]? = some (.int (xs.getD j 0)) := fun j hj => by
      rw [← Array.getElem?_toList, hlist]
      simp [hj]
    have hbl : b < s.heap.size := (Array.getElem?_eq_some_iff.mp hcb).1
    have hX : va_X b xs.length (fun j => xs.getD j 0) s s.heap := ⟨scr, hcb, hof, hkn, hsz, hval⟩
    have K : W p l e room_1 s m #[Value.ref b] below meth c s₁.heap [] 0 0 (lw_Z below #[Value.ref b] s) (entryFrame m ([Value.ref b] : List Value).toArray 19) := by
      rw [hh0]
      exact whole_start l hflags hbd ⟨B.exec, B.bytes, B.returns, hml, hown, hts, hX, hbl, B.notSynchronized, hgv⟩
    obtain ⟨t, a1, o, b1, b2, b3⟩ := K s₁ rfl X₀
    exact ⟨t, o, a1, b1, b2, b3⟩
theorem lw_pre_spec {args : Array Value} {s : State} (h : (Jvm.Cond.and given_1 narrow_1).before args s = true) (hr : rest_1_c.before args s = true) : ∃ (b : Addr) (xs : List Int32), lw_P b xs args s := by
  have hs := flat_of_before _ h
  have hq := flat_of_before _ hr
  have hc : (Cond.count 1).before args s = true := hs _ (by decide +kernel)
  have harr : (Cond.arrayOf (.arg 0) .int).before args s = true := hs _ (by decide +kernel)
  have hle : (Cond.le (.length (.arg 0)) (.int 260)).before args s = true := hs _ (by decide +kernel)
  have hlen : (Cond.isInt (.length (.arg 0))).before args s = true := hq _ (by decide +kernel)
  have hall : (Cond.all (.arg 0) (.isInt (.elem (.arg 0) (.index 0)))).before args s = true := hq _ (by decide +kernel)
  obtain ⟨b, xs, hb, hx⟩ := State.ints_of_pre rfl harr hlen hall
  have hsm : xs.length < 2 ^ 31 := hx.choose_spec.2.2.2
  have hev : (Term.length (.arg 0)).eval args s none [] s = some (.int xs.length.toInt32) := hx.length_eval hb
  have hv := Cond.le_ints hev (show (Term.int 260).eval args s none [] s = some (.int 260) from rfl)
  have hd : xs.length.toInt32 ≤ 260 := by
    simpa [Cond.before, Cond.holds, hv] using hle
  have hN : xs.length ≤ 260 := (Int32.ofNat_le_ofNat hsm (by decide)).mp (show Int32.ofNat xs.length ≤ Int32.ofNat 260 from hd)
  exact ⟨b, xs, Cond.one_arg hc (show args[0]? = some (.ref b) from hb), hx, hN, h⟩
theorem lw_comes (l : Launch) (hflags : l.flags = flags0) : Comes l x (Jvm.Cond.code x code maxLocals ret :: tables_1) room_1 (fun tb e args s => Calls_1 tb e args s ∧ rest_1 tb e args s ∧ Pre_1 tb e args s)
    (fun _ _ args s o t => lw_Q args s o t) := by
  intro p e ha hc hk s m args below hf hfit hheap happ hpre
  obtain ⟨b, xs, hP⟩ := lw_pre_spec hpre.2.2 hpre.2.1
  obtain ⟨k, o, h1, h2, h3, hQ⟩ := lw_walk l hflags b xs p e ha hc hk s m args below hf ((Spec.applies_iff_loose hf).mp happ).1 hP trivial
  exact ⟨k, o, h1, h2, h3, hQ⟩
theorem lw_frame {s t : State} {o : Outcome} {args : Array Value} (h : Framed s o t [] 600000 7302249) :
    Framed s o t (fieldLocs frame_1_writes args s ++ arrayLocs frame_1_arrays args s ++ staticLocs frame_1_statics s) 600000 7302249 := h
theorem lw_limb (L : Cond) (hL : ∀ (args : Array Value) (s t : State), L.after args s (.returned (some (.int 1))) t = true) :
    ArmFor flags0 classFile x code maxLocals ret World_1 tables_1 room_1 Calls_1 rest_1 Pre_1
      (fun tb e a s o t => postC L tb e a s o t ∧ Framed s o t (fieldLocs frame_1_writes a s ++ arrayLocs frame_1_arrays a s ++ staticLocs frame_1_statics s) 600000 7302249) := by
  intro l hflags _ _ p e ha hc hk s m args below hf hfit hheap happ hpre
  obtain ⟨k, o, h1, h2, h3, rfl, hF⟩ := lw_comes l hflags p e ha hc hk s m args below hf hfit hheap happ hpre
  exact ⟨k, _, h1, h2, h3, hL args s _, lw_frame hF⟩
theorem i_vc : Claimed_1_1 ∧ Claimed_1_2 := ⟨lw_limb limb_1_1 (fun args s t => by simp [limb_1_1, Cond.after, Cond.holds, Cond.value]), lw_limb limb_1_2 (fun args s t => Cond.after_iff.mpr (by
  first | (rw [show limb_1_2 = Cond.eq .result (.int 1) from rfl, Cond.eq_ints (x := 1) (y := 1) rfl rfl]; simp; done) | (simp [limb_1_2, Cond.value, Term.eval]; done)))⟩
