/-! THE CLAIM OUT OF ONE WALK OF THE LAW'S BODY. Your part is whole_start (and what it stands on); all else here is the same for every law, but numbers. -/
def R_law : String := "PaperWallsLaw"
def lw_P (b : Addr) (xs : List Int32) (args : Array Value) (s : State) : Prop := args = #[.ref b] ∧ s.IntsAt b xs ∧ xs.length ≤ 3072 ∧ (Jvm.Cond.and given_1 narrow_1).before args s = true
def lw_Q (_ : Array Value) (s : State) (o : Outcome) (t : State) : Prop := o = .returned (some (.int 1)) ∧ Framed s o t [] 600000 7302250
def lw_Z (below : List Frame) (a : Array Value) (s : State) : State → Prop := fun t => ∃ o, t.status = .running ∧ Ended t below o ∧ lw_Q a s o t
/-- the law's own end, with 1 on the stack, nothing written that was there before, its room as the claim has it -/
theorem lw_ret {p : Program} {l : Launch} {e : Env} {s : State} {m : MethodId} {below : List Frame} {meth : Method} {c : Code} {b : Nat} (hx : p.tables.exec = Jvm.exec) (hb : c.code = code) (hr : meth.sig.returnType = ret) (hlocks : meth.locks = false) {pc : Nat} {H : Heap} {ls : Array Slot} (hdg : decode code pc = .ok (.ireturn, 1)) : W p l e room_1 s m #[Value.ref b] below meth c H [] 600000 7302250 (lw_Z below #[Value.ref b] s) (F0 m pc ls [.int 1]) := by
  intro T hT X
  obtain ⟨fs, hret, hrun, hended, hW, hframe⟩ := X.leave (v := some (.int 1)) (hlocks := hlocks) (fun h => by rw [hr] at h; cases h)
  have hmeth' : T.vm.method? m = some meth := X.method'
  refine ⟨T.setFrames fs, ?_, .returned (some (.int 1)), hrun, hended, rfl, ⟨_, rfl⟩, hW, hframe⟩
  jvm_step X.here [X.here.top, hx, hb, hdg, hmeth', hr, ret, narrow_b1]
  (try refine ⟨rfl, ?_⟩); (try refine ⟨rfl, ?_⟩)
  first | (intro acts; rw [hret _ acts rfl rfl rfl]) | rw [hret _ _ rfl rfl rfl]
  exact Steps.refl _
/-- what holds at the law's entry: the machine, the code, the tables' words (any of lw_tbl by 'hts w (by decide +kernel)'), the script of L ints xs at the cell b, what the Statement gives of the start (any of its parts by flat_of_before) -/
def lw_At (p : Program) (s : State) (m : MethodId) (meth : Method) (c : Code) (b L : Nat) (xs : Nat → Int32) : Prop :=
  p.tables.exec = Jvm.exec ∧ c.code = code ∧ meth.sig.returnType = ret ∧ c.maxLocals = 4 ∧ s.vm.findClass R_law = some m.cls ∧ (∀ w ∈ lw_tbl, w.before #[Value.ref b] s = true) ∧ va_X b L xs s s.heap ∧ b < s.heap.size ∧ meth.locks = false ∧ (Jvm.Cond.and given_1 narrow_1).before #[Value.ref b] s = true
-- ===== YOUR PART BEGINS =====
set_option maxHeartbeats 40000000 in
set_option maxRecDepth 100000 in
/-- YOUR PART: from the entry, for every script of at most 3072 ints, the law comes to its end with true ('hflags': the launch's flags, for a law that throws: no stack traces) -/
theorem whole_start {p : Program} {e : Env} {s : State} {m : MethodId} {below : List Frame} {meth : Method} {c : Code} (l : Launch) (hflags : l.flags = flags0) {b L : Nat} {xs : Nat → Int32} (hL : L ≤ 3072) (C0 : lw_At p s m meth c b L xs) : W p l e room_1 s m #[Value.ref b] below meth c s.heap [] 0 0 (lw_Z below #[Value.ref b] s) (entryFrame m ([Value.ref b] : List Value).toArray 4) := by
  obtain ⟨hx, hb, hr, hml, hown, hts, hX, hbl, hlocks, hgv⟩ := C0
  have hown : s.vm.findClass RL = some m.cls := hown
  have hs := flat_of_before _ hgv
  obtain ⟨D, ca, hKall⟩ := known_all hts
  have hAn : ∀ a : Nat, a < s.heap.size → ¬ AN s a := fun a h1 h2 => absurd h2 (Nat.not_le.mpr h1)
  obtain ⟨t0, z0, x0⟩ := sta (f := skv 0) (A := AN s) (hts (.laysStatic "PaperWalls$Kinds" "LETTERS" "[I") (by decide +kernel)) (hts (.initialized "PaperWalls$Kinds") (by decide +kernel)) (hs (.arrayOf (.static "PaperWalls$Kinds" "LETTERS" "[I") .int) (by decide +kernel)) (hs (.eq (.length (.static "PaperWalls$Kinds" "LETTERS" "[I")) (.int 6)) (by decide +kernel)) (fun j hj => by
    match j, hj with
    | 0, _ => exact hs (.eq (.elem (.static "PaperWalls$Kinds" "LETTERS" "[I") (.int 0)) (.int (skv 0 0))) (by decide +kernel)
    | 1, _ => exact hs (.eq (.elem (.static "PaperWalls$Kinds" "LETTERS" "[I") (.int 1)) (.int (skv 0 1))) (by decide +kernel)
    | 2, _ => exact hs (.eq (.elem (.static "PaperWalls$Kinds" "LETTERS" "[I") (.int 2)) (.int (skv 0 2))) (by decide +kernel)
    | 3, _ => exact hs (.eq (.elem (.static "PaperWalls$Kinds" "LETTERS" "[I") (.int 3)) (.int (skv 0 3))) (by decide +kernel)
    | 4, _ => exact hs (.eq (.elem (.static "PaperWalls$Kinds" "LETTERS" "[I") (.int 4)) (.int (skv 0 4))) (by decide +kernel)
    | 5, _ => exact hs (.eq (.elem (.static "PaperWalls$Kinds" "LETTERS" "[I") (.int 5)) (.int (skv 0 5))) (by decide +kernel)
    | j + 6, h => exact absurd h (by omega)) hAn
  obtain ⟨t1, z1, x1⟩ := sta (f := skv 1) (A := AN s) (hts (.laysStatic "PaperWalls$Kinds" "WIDER" "[I") (by decide +kernel)) (hts (.initialized "PaperWalls$Kinds") (by decide +kernel)) (hs (.arrayOf (.static "PaperWalls$Kinds" "WIDER" "[I") .int) (by decide +kernel)) (hs (.eq (.length (.static "PaperWalls$Kinds" "WIDER" "[I")) (.int 6)) (by decide +kernel)) (fun j hj => by
    match j, hj with
    | 0, _ => exact hs (.eq (.elem (.static "PaperWalls$Kinds" "WIDER" "[I") (.int 0)) (.int (skv 1 0))) (by decide +kernel)
    | 1, _ => exact hs (.eq (.elem (.static "PaperWalls$Kinds" "WIDER" "[I") (.int 1)) (.int (skv 1 1))) (by decide +kernel)
    | 2, _ => exact hs (.eq (.elem (.static "PaperWalls$Kinds" "WIDER" "[I") (.int 2)) (.int (skv 1 2))) (by decide +kernel)
    | 3, _ => exact hs (.eq (.elem (.static "PaperWalls$Kinds" "WIDER" "[I") (.int 3)) (.int (skv 1 3))) (by decide +kernel)
    | 4, _ => exact hs (.eq (.elem (.static "PaperWalls$Kinds" "WIDER" "[I") (.int 4)) (.int (skv 1 4))) (by decide +kernel)
    | 5, _ => exact hs (.eq (.elem (.static "PaperWalls$Kinds" "WIDER" "[I") (.int 5)) (.int (skv 1 5))) (by decide +kernel)
    | j + 6, h => exact absurd h (by omega)) hAn
  obtain ⟨t2, z2, x2⟩ := sta (f := skv 2) (A := AN s) (hts (.laysStatic "PaperWalls$Kinds" "SPEAKS" "[I") (by decide +kernel)) (hts (.initialized "PaperWalls$Kinds") (by decide +kernel)) (hs (.arrayOf (.static "PaperWalls$Kinds" "SPEAKS" "[I") .int) (by decide +kernel)) (hs (.eq (.length (.static "PaperWalls$Kinds" "SPEAKS" "[I")) (.int 6)) (by decide +kernel)) (fun j hj => by
    match j, hj with
    | 0, _ => exact hs (.eq (.elem (.static "PaperWalls$Kinds" "SPEAKS" "[I") (.int 0)) (.int (skv 2 0))) (by decide +kernel)
    | 1, _ => exact hs (.eq (.elem (.static "PaperWalls$Kinds" "SPEAKS" "[I") (.int 1)) (.int (skv 2 1))) (by decide +kernel)
    | 2, _ => exact hs (.eq (.elem (.static "PaperWalls$Kinds" "SPEAKS" "[I") (.int 2)) (.int (skv 2 2))) (by decide +kernel)
    | 3, _ => exact hs (.eq (.elem (.static "PaperWalls$Kinds" "SPEAKS" "[I") (.int 3)) (.int (skv 2 3))) (by decide +kernel)
    | 4, _ => exact hs (.eq (.elem (.static "PaperWalls$Kinds" "SPEAKS" "[I") (.int 4)) (.int (skv 2 4))) (by decide +kernel)
    | 5, _ => exact hs (.eq (.elem (.static "PaperWalls$Kinds" "SPEAKS" "[I") (.int 5)) (.int (skv 2 5))) (by decide +kernel)
    | j + 6, h => exact absurd h (by omega)) hAn
  obtain ⟨t3, z3, x3⟩ := sta (f := skv 3) (A := AN s) (hts (.laysStatic "PaperWalls$Kinds" "SINGS" "[I") (by decide +kernel)) (hts (.initialized "PaperWalls$Kinds") (by decide +kernel)) (hs (.arrayOf (.static "PaperWalls$Kinds" "SINGS" "[I") .int) (by decide +kernel)) (hs (.eq (.length (.static "PaperWalls$Kinds" "SINGS" "[I")) (.int 6)) (by decide +kernel)) (fun j hj => by
    match j, hj with
    | 0, _ => exact hs (.eq (.elem (.static "PaperWalls$Kinds" "SINGS" "[I") (.int 0)) (.int (skv 3 0))) (by decide +kernel)
    | 1, _ => exact hs (.eq (.elem (.static "PaperWalls$Kinds" "SINGS" "[I") (.int 1)) (.int (skv 3 1))) (by decide +kernel)
    | 2, _ => exact hs (.eq (.elem (.static "PaperWalls$Kinds" "SINGS" "[I") (.int 2)) (.int (skv 3 2))) (by decide +kernel)
    | 3, _ => exact hs (.eq (.elem (.static "PaperWalls$Kinds" "SINGS" "[I") (.int 3)) (.int (skv 3 3))) (by decide +kernel)
    | 4, _ => exact hs (.eq (.elem (.static "PaperWalls$Kinds" "SINGS" "[I") (.int 4)) (.int (skv 3 4))) (by decide +kernel)
    | 5, _ => exact hs (.eq (.elem (.static "PaperWalls$Kinds" "SINGS" "[I") (.int 5)) (.int (skv 3 5))) (by decide +kernel)
    | j + 6, h => exact absurd h (by omega)) hAn
  obtain ⟨t4, z4, x4⟩ := sta (f := skv 4) (A := AN s) (hts (.laysStatic "PaperWalls$Kinds" "LEAST" "[I") (by decide +kernel)) (hts (.initialized "PaperWalls$Kinds") (by decide +kernel)) (hs (.arrayOf (.static "PaperWalls$Kinds" "LEAST" "[I") .int) (by decide +kernel)) (hs (.eq (.length (.static "PaperWalls$Kinds" "LEAST" "[I")) (.int 6)) (by decide +kernel)) (fun j hj => by
    match j, hj with
    | 0, _ => exact hs (.eq (.elem (.static "PaperWalls$Kinds" "LEAST" "[I") (.int 0)) (.int (skv 4 0))) (by decide +kernel)
    | 1, _ => exact hs (.eq (.elem (.static "PaperWalls$Kinds" "LEAST" "[I") (.int 1)) (.int (skv 4 1))) (by decide +kernel)
    | 2, _ => exact hs (.eq (.elem (.static "PaperWalls$Kinds" "LEAST" "[I") (.int 2)) (.int (skv 4 2))) (by decide +kernel)
    | 3, _ => exact hs (.eq (.elem (.static "PaperWalls$Kinds" "LEAST" "[I") (.int 3)) (.int (skv 4 3))) (by decide +kernel)
    | 4, _ => exact hs (.eq (.elem (.static "PaperWalls$Kinds" "LEAST" "[I") (.int 4)) (.int (skv 4 4))) (by decide +kernel)
    | 5, _ => exact hs (.eq (.elem (.static "PaperWalls$Kinds" "LEAST" "[I") (.int 5)) (.int (skv 4 5))) (by decide +kernel)
    | j + 6, h => exact absurd h (by omega)) hAn
  let ks : Nat → Nat := fun k => match k with | 0 => t0 | 1 => t1 | 2 => t2 | 3 => t3 | _ => t4
  have hZ : ∀ k, k < 5 → va_Z "PaperWalls$Kinds" (skn k) "[I" (.ref (ks k)) (AN s) s s.heap ∧ va_T .int (ks k) 6 (fun j => .int (skv k j)) (AN s) s s.heap := fun k hk => by
    match k, hk with
    | 0, _ => exact ⟨z0, x0⟩
    | 1, _ => exact ⟨z1, x1⟩
    | 2, _ => exact ⟨z2, x2⟩
    | 3, _ => exact ⟨z3, x3⟩
    | 4, _ => exact ⟨z4, x4⟩
    | k + 5, h => exact absurd h (by omega)
  have hAO4 := va_AO.of (hts (.arrayOver (.object "PaperWalls$Row")) (by decide +kernel))
  have hAO5 := va_AO.of (hts (.arrayOver (.object "PaperWalls$Text")) (by decide +kernel))
  have hAO6 := va_AO.of (hts (.arrayOver (.object "PaperWalls$Street")) (by decide +kernel))
  have hl := lv_entry ([.ref b]) (n := 4) (Nat.le_of_ble_eq_true rfl)
  rw [lg_entry_eq]
  generalize (lg_sl ([Value.ref b]) ++ List.replicate (4 - (lg_sl ([Value.ref b])).length) Slot.unset).toArray = ls at hl ⊢
  have hl : lv_has ls 4 [(0, .ref b)] := hl
  have hS : va_S (AN s) s.heap s.heap [] := va_S.rf
  have hA : ∀ q, s.heap.size ≤ q → AN s q := fun q h => h
  have hP : va_P D vwCl [] s.heap := fun k q hk => by cases hk
  have hD : va_D (AN s) [] := ⟨fun i j p q hi => (by cases hi), fun k q hk => (by cases hk)⟩
  have hK := hKall (fun _ => 0) ks
  refine va_new (ci := 7) (fs := [.null, .null, .null, .null, .null, .null, .null, .null, .null, .null, .int 0, .int 0]) (C := RX8) (T := TX8) (N := 12) hx hb hts uin_X8 tyX8 tyX8_ok hown (hts (.classLink RL 7 RX8) (by decide +kernel)) (hts (.instantiable RX8 12) (by decide +kernel)) (hts (.initialized RX8) (by decide +kernel)) hK hP hD hS hA rfl (fun j hj => by rcases (show j = 0 ∨ j = 1 ∨ j = 2 ∨ j = 3 ∨ j = 4 ∨ j = 5 ∨ j = 6 ∨ j = 7 ∨ j = 8 ∨ j = 9 ∨ j = 10 ∨ j = 11 by omega) with rfl | rfl | rfl | rfl | rfl | rfl | rfl | rfl | rfl | rfl | rfl | rfl <;> rfl) (Nat.le_of_ble_eq_true rfl) (Nat.le_of_ble_eq_true rfl) dL_law_0 (fun q0 H hP hD hS => ?_)
  have hP : va_P D vwCl [(q0, .inr (7, [.null, .null, .null, .null, .null, .null, .null, .null, .null, .null, .int 0, .int 0]))] H := hP
  have hD : va_D (AN s) [(q0, .inr (7, [.null, .null, .null, .null, .null, .null, .null, .null, .null, .null, .int 0, .int 0]))] := hD
  refine lv_dup hx hb dL_law_3 rfl ?_
  have hFc : ∀ q, va_A [(q0, .inr (7, [.null, .null, .null, .null, .null, .null, .null, .null, .null, .null, .int 0, .int 0]))] H.size q → AN s q := va_free hD hS hA [0] rfl
  refine va_callv (va_runI (As := []) (rest := [.ref q0]) ⟨hx, hb, hml, hown, hts⟩ (c_X8_init l (D, (fun _ => 0), ca, ks) q0 H.size) (cwI 0 hts gL_X8_init rfl rfl rfl (hts (.initialized RX8) (by decide +kernel)) (hts (.methodLink RL 9 yX8_init) (by decide +kernel)) (hts (.instanceMethod yX8_init) (by decide +kernel)) rfl (by decide +kernel) ⟨Nat.le_of_ble_eq_true rfl, Nat.le_of_ble_eq_true rfl⟩) ⟨init8_blind, fun U hU hW => ⟨rfl, by rw [hU], by rw [hU]; exact hP, va_K.moved hW.alike hK, hD.weaken (fun _ _ _ _ => trivial), hAO4.moved hW.alike, hAO5.moved hW.alike, hAO6.moved hW.alike⟩⟩ rfl rfl hl.1 rfl (lv_room (Nat.le_of_ble_eq_true rfl)) dL_law_4 ⟨Nat.le_of_ble_eq_true rfl, Nat.le_of_ble_eq_true rfl⟩) hS (fun q _ h => hFc q h) hFc (fun q4 t H1 locs ht hvm hw hB hz1 hk1 hS => ?_)
  obtain ⟨hP1, hK1, hD1⟩ := hB
  rw [ht] at hP1
  obtain ⟨hPC, hDC⟩ := world_C (D, (fun _ => 0), ca, ks) q0 q4 hP1 hD1
  have hPC : va_P D vwCl (wcells (wC (D, adC q0 q4, ca, ks)) S0C) H1 := hPC
  have hDC : va_D (AN s) (wcells (wC (D, adC q0 q4, ca, ks)) S0C) := hDC.weaken (fun _ q _ h => hFc _ h)
  generalize H1 = H at hPC hS ⊢
  refine lv_astore_n hx hb dL_law_7 rfl hl (Nat.le_of_ble_eq_true rfl) rfl (fun ls hl => ?_)
  have hK := hKall (adC q0 q4) ks
  refine va_new (ci := 8) (fs := [.null, .null, .null, .null, .null, .null, .null, .int 0, .int 0, .null, .int 0, .null, .null, .null, .null, .null, .int 0, .int 0, .int 0, .null, .null, .int 0, .null, .null, .null, .int 0, .int 0, .null, .null, .null, .null, .null, .null, .null, .null, .long 0]) (C := RX9) (T := TX9) (N := 36) hx hb hts uin_X9 tyX9 tyX9_ok hown (hts (.classLink RL 10 RX9) (by decide +kernel)) (hts (.instantiable RX9 36) (by decide +kernel)) (hts (.initialized RX9) (by decide +kernel)) hK hPC hDC hS hA rfl (fun j hj => by rcases (show j = 0 ∨ j = 1 ∨ j = 2 ∨ j = 3 ∨ j = 4 ∨ j = 5 ∨ j = 6 ∨ j = 7 ∨ j = 8 ∨ j = 9 ∨ j = 10 ∨ j = 11 ∨ j = 12 ∨ j = 13 ∨ j = 14 ∨ j = 15 ∨ j = 16 ∨ j = 17 ∨ j = 18 ∨ j = 19 ∨ j = 20 ∨ j = 21 ∨ j = 22 ∨ j = 23 ∨ j = 24 ∨ j = 25 ∨ j = 26 ∨ j = 27 ∨ j = 28 ∨ j = 29 ∨ j = 30 ∨ j = 31 ∨ j = 32 ∨ j = 33 ∨ j = 34 ∨ j = 35 by omega) with rfl | rfl | rfl | rfl | rfl | rfl | rfl | rfl | rfl | rfl | rfl | rfl | rfl | rfl | rfl | rfl | rfl | rfl | rfl | rfl | rfl | rfl | rfl | rfl | rfl | rfl | rfl | rfl | rfl | rfl | rfl | rfl | rfl | rfl | rfl | rfl <;> rfl) (Nat.le_of_ble_eq_true rfl) (Nat.le_of_ble_eq_true rfl) dL_law_8 (fun h1 H hP hD hS => ?_)
  have hlen : (wcells (wC (D, adC q0 q4, ca, ks)) S0C).length = 99 := wc_len
  have e99 : (wcells (wC (D, adC q0 q4, ca, ks)) S0C ++ [(h1, .inr (8, [.null, .null, .null, .null, .null, .null, .null, .int 0, .int 0, .null, .int 0, .null, .null, .null, .null, .null, .int 0, .int 0, .int 0, .null, .null, .int 0, .null, .null, .null, .int 0, .int 0, .null, .null, .null, .null, .null, .null, .null, .null, .long 0]))])[99]? = some (h1, .inr (8, [.null, .null, .null, .null, .null, .null, .null, .int 0, .int 0, .null, .int 0, .null, .null, .null, .null, .null, .int 0, .int 0, .int 0, .null, .null, .int 0, .null, .null, .null, .int 0, .int 0, .null, .null, .null, .null, .null, .null, .null, .null, .long 0])) := by
    rw [List.getElem?_append_right (Nat.le_of_eq hlen), hlen]; rfl
  have eC : ∀ k, k < 99 → (wcells (wC (D, adC q0 q4, ca, ks)) S0C ++ [(h1, .inr (8, [.null, .null, .null, .null, .null, .null, .null, .int 0, .int 0, .null, .int 0, .null, .null, .null, .null, .null, .int 0, .int 0, .int 0, .null, .null, .int 0, .null, .null, .null, .int 0, .int 0, .null, .null, .null, .null, .null, .null, .null, .null, .long 0]))])[k]? = (wcells (wC (D, adC q0 q4, ca, ks)) S0C)[k]? := fun k hk => List.getElem?_append_left (by rw [hlen]; exact hk)
  have hPC : va_P D vwCl (wcells (wC (D, adC q0 q4, ca, ks)) S0C) H := fun k q hk => hP k q ((eC k (wcells_some hk).1).trans hk)
  have hne : ∀ q, AW (wC (D, adC q0 q4, ca, ks)) q → q ≠ h1 ∧ q < H.size := fun q hq => by
    obtain ⟨k, hk, rfl⟩ := hq
    have g := (eC k hk).trans (wcells_get (w := wC (D, adC q0 q4, ca, ks)) (S := S0C) hk)
    refine ⟨fun e => ?_, (hP k _ g).lt⟩
    have := hD.1 k 99 _ _ g e99 e
    have hk : k < 99 := hk
    omega
  have hPM : va_P D vwCl [(h1, .inr (8, [.null, .null, .null, .null, .null, .null, .null, .int 0, .int 0, .null, .int 0, .null, .null, .null, .null, .null, .int 0, .int 0, .int 0, .null, .null, .int 0, .null, .null, .null, .int 0, .int 0, .null, .null, .null, .null, .null, .null, .null, .null, .long 0]))] H := fun k q hk => by
    have hl : k < 1 := (List.getElem?_eq_some_iff.mp hk).1
    obtain rfl : k = 0 := by omega
    cases hk
    exact hP 99 _ e99
  have hFc2 : ∀ q, va_A [(h1, .inr (8, [.null, .null, .null, .null, .null, .null, .null, .int 0, .int 0, .null, .int 0, .null, .null, .null, .null, .null, .int 0, .int 0, .int 0, .null, .null, .int 0, .null, .null, .null, .int 0, .int 0, .null, .null, .null, .null, .null, .null, .null, .null, .long 0]))] H.size q → AN s q := fun q h => by
    rcases h with ⟨k, e, h⟩ | h
    · have hl : k < 1 := (List.getElem?_eq_some_iff.mp h).1
      obtain rfl : k = 0 := by omega
      cases h
      exact hD.2 99 _ e99
    · exact Nat.le_trans hS.1 h
  have hnA : ∀ q, AW (wC (D, adC q0 q4, ca, ks)) q → ¬ va_A [(h1, .inr (8, [.null, .null, .null, .null, .null, .null, .null, .int 0, .int 0, .null, .int 0, .null, .null, .null, .null, .null, .int 0, .int 0, .int 0, .null, .null, .int 0, .null, .null, .null, .int 0, .int 0, .null, .null, .null, .null, .null, .null, .null, .null, .long 0]))] H.size q := fun q hq h => by
    rcases h with ⟨k, e, h⟩ | h
    · have hl : k < 1 := (List.getElem?_eq_some_iff.mp h).1
      obtain rfl : k = 0 := by omega
      cases h
      exact (hne _ hq).1 rfl
    · exact absurd (hne q hq).2 (Nat.not_lt.mpr h)
  refine lv_dup hx hb dL_law_11 rfl ?_
  refine va_callv (va_runI (As := []) (rest := [.ref h1]) ⟨hx, hb, hml, hown, hts⟩ (c_X9_init l (D, adC q0 q4, ca, ks) h1 H.size) (cwI 0 hts gL_X9_init rfl rfl rfl (hts (.initialized RX9) (by decide +kernel)) (hts (.methodLink RL 12 yX9_init) (by decide +kernel)) (hts (.instanceMethod yX9_init) (by decide +kernel)) rfl (by decide +kernel) ⟨Nat.le_of_ble_eq_true rfl, Nat.le_of_ble_eq_true rfl⟩) ⟨init_blind, fun U hU hW => ⟨rfl, by rw [hU], by rw [hU]; exact hPM, va_K.moved hW.alike hK, va_D1 trivial⟩⟩ rfl rfl hl.1 rfl (lv_room (Nat.le_of_ble_eq_true rfl)) dL_law_12 ⟨Nat.le_of_ble_eq_true rfl, Nat.le_of_ble_eq_true rfl⟩) hS (fun q _ h => hFc2 q h) hFc2 (fun q5 t H1 locs ht hvm hw hB hz1 hk1 hS => ?_)
  obtain ⟨hP1, hK1, hD1⟩ := hB
  rw [ht] at hP1
  obtain ⟨hPM, hDM⟩ := world_M (D, adC q0 q4, ca, ks) h1 q5 hP1 hD1
  have hPM : va_P D vwCl (wcells (wM (D, adM h1 q5, ca, ks)) S0M) H1 := hPM
  have hDM : va_D (va_A [(h1, .inr (8, [.null, .null, .null, .null, .null, .null, .null, .int 0, .int 0, .null, .int 0, .null, .null, .null, .null, .null, .int 0, .int 0, .int 0, .null, .null, .int 0, .null, .null, .null, .int 0, .int 0, .null, .null, .null, .null, .null, .null, .null, .null, .long 0]))] H.size) (wcells (wM (D, adM h1 q5, ca, ks)) S0M) := hDM
  have hPC : va_P D vwCl (wcells (wC (D, adC q0 q4, ca, ks)) S0C) H1 := wkept hPC hk1 hnA
  obtain ⟨hIC, hAC⟩ := wD_AW hDC
  obtain ⟨hIM, hAM⟩ := wD_AW hDM
  refine lv_astore_n hx hb dL_law_15 rfl hl (Nat.le_of_ble_eq_true rfl) rfl (fun ls hl => ?_)
  refine lv_iconst (v := 0) hx hb dL_law_16 (by decide) ?_
  refine lv_istore_n hx hb dL_law_17 rfl hl (Nat.le_of_ble_eq_true rfl) rfl (fun ls hl => ?_)
  have hl : lv_has ls 4 [(0, .ref b), (1, .ref q0), (2, .ref h1), (3, .int 0)] := lv_sub hl [3, 2, 1, 0] rfl
  let G : Gp := (D, adC q0 q4, ca, ks)
  have hKs : ∀ w : WD, w.1.2.2.2 = ks → (∀ q, AW w q → AN s q) → Ks w s := fun w hw hAw k hk => by
    rw [hw]
    obtain ⟨g1, g2⟩ := hZ k hk
    refine ⟨g1.narrow hAw, g2.narrow hAw, fun h => ?_⟩
    obtain ⟨cell, _, _, _, _, _, _, h7⟩ := g2
    exact h7 (hAw _ h)
  have O : OkL (p, e, s, m, #[Value.ref b], below, meth, c, lw_Z below #[Value.ref b] s) G (adM h1 q5) b L xs := ⟨hx, hb, hml, hown, hts, hK, hIC, hIM, hKs _ rfl hAC, hKs _ rfl (fun q hq => hFc2 q (hAM q hq)), hAC, fun q hq => hFc2 q (hAM q hq), fun q h1 h2 => hnA q h1 (hAM q h2), hX, hbl⟩
  have hE : ∀ (kc ks : Nat), kc ≤ 600000 ∧ ks ≤ 7302250 → ∀ σ μ ls, GL (p, e, s, m, #[Value.ref b], below, meth, c, lw_Z below #[Value.ref b] s) l G (adM h1 q5) kc ks 1627 ls [] σ μ := fun kc ks hkc σ μ ls H locs la _ _ hS hl => by
    refine lv_iconst (v := 1) hx hb dL_law_1627 (by decide) ?_
    refine va_forget hS.2.2 ?_
    refine W.widen (k := 600000) (n := 7302250) hkc.1 hkc.2 ?_
    exact lw_ret hx hb hr hlocks dL_law_1628
  have hloop := fun kc ks (hkc : kc ≤ 600000 ∧ ks ≤ 7302250) => law_loop (X := (p, e, s, m, #[Value.ref b], below, meth, c, lw_Z below #[Value.ref b] s)) (l := l) (kc := kc) (ks := ks) (R := R) hL O hkc all_R (hE kc ks hkc) (L + 1) 0 S0C S0M (Nat.zero_le _) (by omega) R_0
  exact hloop _ _ ⟨Nat.le_of_ble_eq_true rfl, Nat.le_of_ble_eq_true rfl⟩ H1 locs ls hPC hPM hS hl
-- ===== YOUR PART ENDS =====
set_option maxHeartbeats 4000000 in
theorem lw_walk (l : Launch) (hflags : l.flags = flags0) (b : Addr) (xs : List Int32) : MetFree l x (headSpec (Jvm.Cond.code x code maxLocals ret :: tables_1) room_1) (lw_P b xs) (fun _ _ _ _ _ => True) lw_Q := by
  refine MetFree.of_bodyS (code := code) (maxLocals := maxLocals) (ret := ret) (by decide) ?_ ?_
  · intro args s m h hn
    obtain ⟨meth, c, h1, h2, h3, h4, h5, h6, -, -⟩ := Cond.code_spec hn (atoms_spec (ws := Jvm.Cond.code x code maxLocals ret :: tables_1) h _ List.mem_cons_self)
    exact ⟨meth, c, h1, h2, h3, h4, h5, h6⟩
  · intro p e s m args below meth c s₁ B hml0 hP _
    obtain ⟨rfl, hx, hbd, hgv⟩ := hP
    obtain ⟨scr, harrAt, hlist, hof, hsmall⟩ := hx
    obtain ⟨hcb, hkn, -, -⟩ := State.arrayAt?_spec harrAt
    have hown : s.vm.findClass R_law = some m.cls := findClass_of_methodNamed B.named
    have hts0 : ∀ c ∈ (Jvm.Cond.code x code maxLocals ret :: tables_1), c.before #[Value.ref b] s = true := atoms_spec (ws := Jvm.Cond.code x code maxLocals ret :: tables_1) B.pre
    have hts : ∀ w ∈ lw_tbl, w.before #[Value.ref b] s = true := k2_hts_sels lw_privs (fun w hw => hts0 w (List.mem_cons_of_mem _ hw)) lw_privs_ok
    have hml : c.maxLocals = 4 := B.maxLocals_eq (hts0 _ List.mem_cons_self)
    have X₀ : Stand p l e room_1 s m #[Value.ref b] below meth c s₁ [] 0 0 := Stand.of_body B
    have hh0 : s₁.heap = s.heap := by rw [B.state]; rfl
    have hsz : scr.slots.size = xs.length := by rw [← Array.length_toList, hlist, List.length_map]
    have hval : ∀ j : Nat, j < xs.length → scr.slots[j]? = some (.int (xs.getD j 0)) := fun j hj => by
      rw [← Array.getElem?_toList, hlist]
      simp [hj]
    have hbl : b < s.heap.size := (Array.getElem?_eq_some_iff.mp hcb).1
    have hX : va_X b xs.length (fun j => xs.getD j 0) s s.heap := ⟨scr, hcb, hof, hkn, hsz, hval⟩
    have K : W p l e room_1 s m #[Value.ref b] below meth c s₁.heap [] 0 0 (lw_Z below #[Value.ref b] s) (entryFrame m ([Value.ref b] : List Value).toArray 4) := by
      rw [hh0]
      exact whole_start l hflags hbd ⟨B.exec, B.bytes, B.returns, hml, hown, hts, hX, hbl, B.notSynchronized, hgv⟩
    obtain ⟨t, a1, o, b1, b2, b3⟩ := K s₁ rfl X₀
    exact ⟨t, o, a1, b1, b2, b3⟩
theorem lw_pre_spec {args : Array Value} {s : State} (h : (Jvm.Cond.and given_1 narrow_1).before args s = true) (hr : rest_1_c.before args s = true) : ∃ (b : Addr) (xs : List Int32), lw_P b xs args s := by
  have hs := flat_of_before _ h
  have hq := flat_of_before _ hr
  have hc : (Cond.count 1).before args s = true := hs _ (by decide +kernel)
  have harr : (Cond.arrayOf (.arg 0) .int).before args s = true := hs _ (by decide +kernel)
  have hle : (Cond.le (.length (.arg 0)) (.int 3072)).before args s = true := hs _ (by decide +kernel)
  have hlen : (Cond.isInt (.length (.arg 0))).before args s = true := hq _ (by decide +kernel)
  have hall : (Cond.all (.arg 0) (.isInt (.elem (.arg 0) (.index 0)))).before args s = true := hq _ (by decide +kernel)
  obtain ⟨b, xs, hb, hx⟩ := State.ints_of_pre rfl harr hlen hall
  have hsm : xs.length < 2 ^ 31 := hx.choose_spec.2.2.2
  have hev : (Term.length (.arg 0)).eval args s none [] s = some (.int xs.length.toInt32) := hx.length_eval hb
  have hv := Cond.le_ints hev (show (Term.int 3072).eval args s none [] s = some (.int 3072) from rfl)
  have hd : xs.length.toInt32 ≤ 3072 := by
    simpa [Cond.before, Cond.holds, hv] using hle
  have hN : xs.length ≤ 3072 := (Int32.ofNat_le_ofNat hsm (by decide)).mp (show Int32.ofNat xs.length ≤ Int32.ofNat 3072 from hd)
  exact ⟨b, xs, Cond.one_arg hc (show args[0]? = some (.ref b) from hb), hx, hN, h⟩
theorem lw_comes (l : Launch) (hflags : l.flags = flags0) : Comes l x (Jvm.Cond.code x code maxLocals ret :: tables_1) room_1 (fun tb e args s => Calls_1 tb e args s ∧ rest_1 tb e args s ∧ Pre_1 tb e args s)
    (fun _ _ args s o t => lw_Q args s o t) := by
  intro p e ha hc hk s m args below hf hfit hheap happ hpre
  obtain ⟨b, xs, hP⟩ := lw_pre_spec hpre.2.2 hpre.2.1
  obtain ⟨k, o, h1, h2, h3, hQ⟩ := lw_walk l hflags b xs p e ha hc hk s m args below hf ((Spec.applies_iff_loose hf).mp happ).1 hP trivial
  exact ⟨k, o, h1, h2, h3, hQ⟩
theorem lw_frame {s t : State} {o : Outcome} {args : Array Value} (h : Framed s o t [] 600000 7302250) :
    Framed s o t (fieldLocs frame_1_writes args s ++ arrayLocs frame_1_arrays args s ++ staticLocs frame_1_statics s) 600000 7302250 := h
theorem lw_limb (L : Cond) (hL : ∀ (args : Array Value) (s t : State), L.after args s (.returned (some (.int 1))) t = true) :
    ArmFor flags0 classFile x code maxLocals ret World_1 tables_1 room_1 Calls_1 rest_1 Pre_1
      (fun tb e a s o t => postC L tb e a s o t ∧ Framed s o t (fieldLocs frame_1_writes a s ++ arrayLocs frame_1_arrays a s ++ staticLocs frame_1_statics s) 600000 7302250) := by
  intro l hflags _ _ p e ha hc hk s m args below hf hfit hheap happ hpre
  obtain ⟨k, o, h1, h2, h3, rfl, hF⟩ := lw_comes l hflags p e ha hc hk s m args below hf hfit hheap happ hpre
  exact ⟨k, _, h1, h2, h3, hL args s _, lw_frame hF⟩
theorem i_vc : Claimed_1_1 ∧ Claimed_1_2 := ⟨lw_limb limb_1_1 (fun args s t => by simp [limb_1_1, Cond.after, Cond.holds, Cond.value]), lw_limb limb_1_2 (fun args s t => Cond.after_iff.mpr (by
  first | (rw [show limb_1_2 = Cond.eq .result (.int 1) from rfl, Cond.eq_ints (x := 1) (y := 1) rfl rfl]; simp; done) | (simp [limb_1_2, Cond.value, Term.eval]; done)))⟩
