/-! the law's layer: both worlds, the script -/
def AN (s : State) : Nat → Prop := fun q => s.heap.size ≤ q
def gM (G : Gp) (am : Nat → Nat) : Gp := (G.1, am, G.2.2)
def GL (X : XT) (l : Launch) (G : Gp) (am : Nat → Nat) (kc ks pc : Nat) (ls : List (Nat × Value)) (st : List Value) (σ μ : Sg) : Prop :=
  match X with
  | (p, e, s, m, args, below, meth, c, Q) => ∀ (H : Heap) (locs : List Loc) (la : Array Slot), va_P G.1 vwCl (wcells (wC G) σ) H → va_P G.1 vwCl (wcells (wM (gM G am)) μ) H → va_S (AN s) s.heap H locs → lv_has la 4 ls → W p l e room_1 s m args below meth c H locs kc ks Q (F0 m pc la st)
def OkL (X : XT) (G : Gp) (am : Nat → Nat) (b L : Nat) (xs : Nat → Int32) : Prop :=
  match X with
  | (p, _, s, m, args, _, _, c, _) => p.tables.exec = Jvm.exec ∧ c.code = cL_law ∧ c.maxLocals = 4 ∧ s.vm.findClass RL = some m.cls ∧ (∀ x ∈ lw_tbl, x.before args s = true) ∧ va_K G.1 vwCl (tysOf G) s ∧ Ij (wC G) ∧ Ij (wM (gM G am)) ∧ Ks (wC G) s ∧ Ks (wM (gM G am)) s ∧ (∀ q, AW (wC G) q → s.heap.size ≤ q) ∧ (∀ q, AW (wM (gM G am)) q → s.heap.size ≤ q) ∧ (∀ q, AW (wC G) q → ¬ AW (wM (gM G am)) q) ∧ va_X b L xs s s.heap ∧ b < s.heap.size
theorem Ks.mv2 {w : WD} {s U : State} {H : Heap} (h : Ks w s) (hS : ∀ q : Nat, q < s.heap.size → H[q]? = s.heap[q]?) (hU : U.heap = H) (hvm : s.vm.Alike U.vm) : Ks w U := by
  intro k hk
  obtain ⟨h1, h2, h3⟩ := h k hk
  subst hU
  exact ⟨(h1.kept (fun a ha _ => hS a ha)).moved hvm, (h2.kept (fun a ha _ => hS a ha)).moved hvm, h3⟩
theorem wkept {D : va_G} {w : WD} {S : Sg} {H H1 : Heap} {B : Nat → Prop} (hP : va_P D vwCl (wcells w S) H) (hk : ∀ q : Nat, q < H.size → ¬ B q → H1[q]? = H[q]?) (hd : ∀ q, AW w q → ¬ B q) : va_P D vwCl (wcells w S) H1 := by
  refine hP.kept (fun k q hq => ?_)
  have hl := (hP k q hq).lt
  obtain ⟨h1, rfl⟩ := wcells_some hq
  exact hk _ hl (hd _ ⟨k, h1, rfl⟩)
section GLS
variable {X : XT} {l : Launch} {G : Gp} {am : Nat → Nat} {kc ks pc b L : Nat} {xs : Nat → Int32} {ls : List (Nat × Value)} {st : List Value} {σ μ : Sg}
theorem gl_iconst {n : Int} {v : Int32} (O : OkL X G am b L xs) (hd : decode cL_law pc = .ok (.iconst n, 1)) (hv : Int32.ofInt n = v) (k : GL X l G am kc ks (pc + 1) ls (.int v :: st) σ μ) : GL X l G am kc ks pc ls (st) σ μ := by
  obtain ⟨p, e, s, m, args, below, meth, c, Q⟩ := X
  obtain ⟨hx, hb, hml, hown, hts, hK, hIC, hIM, hKC, hKM, hAC, hAM, hdj, hX, hbl⟩ := O
  intro H locs la hPC hPM hS hl
  exact lv_iconst hx hb hd hv (k H locs la hPC hPM hS hl)
theorem gl_bipush {n : Int} {v : Int32} (O : OkL X G am b L xs) (hd : decode cL_law pc = .ok (.bipush n, 2)) (hv : (Int8.ofInt n).toInt32 = v) (k : GL X l G am kc ks (pc + 2) ls (.int v :: st) σ μ) : GL X l G am kc ks pc ls (st) σ μ := by
  obtain ⟨p, e, s, m, args, below, meth, c, Q⟩ := X
  obtain ⟨hx, hb, hml, hown, hts, hK, hIC, hIM, hKC, hKM, hAC, hAM, hdj, hX, hbl⟩ := O
  intro H locs la hPC hPM hS hl
  exact lv_bipush hx hb hd hv (k H locs la hPC hPM hS hl)
theorem gl_iload_n {i : Nat} {f : Fin 4} {x : Int32} (O : OkL X G am b L xs) (hd : decode cL_law pc = .ok (.iload_n f, 1)) (hi : (f : Nat) = i) (q : Nat) (hq : ls[q]? = some (i, .int x)) (k : GL X l G am kc ks (pc + 1) ls (.int x :: st) σ μ) : GL X l G am kc ks pc ls (st) σ μ := by
  obtain ⟨p, e, s, m, args, below, meth, c, Q⟩ := X
  obtain ⟨hx, hb, hml, hown, hts, hK, hIC, hIM, hKC, hKM, hAC, hAM, hdj, hX, hbl⟩ := O
  intro H locs la hPC hPM hS hl
  exact lv_iload_n hx hb hd hi (lv_at hl q hq) (k H locs la hPC hPM hS hl)
theorem gl_aload_n {i : Nat} {f : Fin 4} {x : Nat} (O : OkL X G am b L xs) (hd : decode cL_law pc = .ok (.aload_n f, 1)) (hi : (f : Nat) = i) (q : Nat) (hq : ls[q]? = some (i, .ref x)) (k : GL X l G am kc ks (pc + 1) ls (.ref x :: st) σ μ) : GL X l G am kc ks pc ls (st) σ μ := by
  obtain ⟨p, e, s, m, args, below, meth, c, Q⟩ := X
  obtain ⟨hx, hb, hml, hown, hts, hK, hIC, hIM, hKC, hKM, hAC, hAM, hdj, hX, hbl⟩ := O
  intro H locs la hPC hPM hS hl
  exact lv_aload_n hx hb hd hi (lv_at hl q hq) (k H locs la hPC hPM hS hl)
theorem gl_iadd {x y : Int32} (O : OkL X G am b L xs) (hd : decode cL_law pc = .ok (.iadd, 1)) (k : GL X l G am kc ks (pc + 1) ls (.int (x + y) :: st) σ μ) : GL X l G am kc ks pc ls (.int y :: .int x :: st) σ μ := by
  obtain ⟨p, e, s, m, args, below, meth, c, Q⟩ := X
  obtain ⟨hx, hb, hml, hown, hts, hK, hIC, hIM, hKC, hKM, hAC, hAM, hdj, hX, hbl⟩ := O
  intro H locs la hPC hPM hS hl
  exact lv_iadd hx hb hd (k H locs la hPC hPM hS hl)
theorem gl_isub {x y : Int32} (O : OkL X G am b L xs) (hd : decode cL_law pc = .ok (.isub, 1)) (k : GL X l G am kc ks (pc + 1) ls (.int (x - y) :: st) σ μ) : GL X l G am kc ks pc ls (.int y :: .int x :: st) σ μ := by
  obtain ⟨p, e, s, m, args, below, meth, c, Q⟩ := X
  obtain ⟨hx, hb, hml, hown, hts, hK, hIC, hIM, hKC, hKM, hAC, hAM, hdj, hX, hbl⟩ := O
  intro H locs la hPC hPM hS hl
  exact lv_isub hx hb hd (k H locs la hPC hPM hS hl)
theorem gl_iand {x y : Int32} (O : OkL X G am b L xs) (hd : decode cL_law pc = .ok (.iand, 1)) (k : GL X l G am kc ks (pc + 1) ls (.int (x &&& y) :: st) σ μ) : GL X l G am kc ks pc ls (.int y :: .int x :: st) σ μ := by
  obtain ⟨p, e, s, m, args, below, meth, c, Q⟩ := X
  obtain ⟨hx, hb, hml, hown, hts, hK, hIC, hIM, hKC, hKM, hAC, hAM, hdj, hX, hbl⟩ := O
  intro H locs la hPC hPM hS hl
  exact lv_iand hx hb hd (k H locs la hPC hPM hS hl)
theorem gl_lcmp {x y : Int64} (O : OkL X G am b L xs) (hd : decode cL_law pc = .ok (.lcmp, 1)) (k : GL X l G am kc ks (pc + 1) ls (.int (lg_cmp x y) :: st) σ μ) : GL X l G am kc ks pc ls (.long y :: .long x :: st) σ μ := by
  obtain ⟨p, e, s, m, args, below, meth, c, Q⟩ := X
  obtain ⟨hx, hb, hml, hown, hts, hK, hIC, hIM, hKC, hKM, hAC, hAM, hdj, hX, hbl⟩ := O
  intro H locs la hPC hPM hS hl
  exact W.lcmp hx hb hd (k H locs la hPC hPM hS hl)
theorem gl_iinc {i : Nat} {n : Int} {x d : Int32} {ls' : List (Nat × Value)} (O : OkL X G am b L xs) (hd : decode cL_law pc = .ok (.iinc i n, 3)) (q : Nat) (hk : ls[q]? = some (i, .int x)) (hv : Int32.ofInt n = d) (hn : i < 4) (hq : (i, Value.int (x + d)) :: ls.filter (fun q => !(q.1 == i) && !(q.1 + 1 == i && q.2.category == 2)) = ls') (k : GL X l G am kc ks (pc + 3) ls' st σ μ) : GL X l G am kc ks pc ls st σ μ := by
  obtain ⟨p, e, s, m, args, below, meth, c, Q⟩ := X
  obtain ⟨hx, hb, hml, hown, hts, hK, hIC, hIM, hKC, hKM, hAC, hAM, hdj, hX, hbl⟩ := O
  intro H locs la hPC hPM hS hl
  exact lv_iinc hx hb hd hl hk (by rw [hv]) hn hq (fun la' hl' => k H locs la' hPC hPM hS hl')
theorem gl_if_eq {x : Int32} {off : Int} {tgt : Nat} (O : OkL X G am b L xs) (hd : decode cL_law pc = .ok (.ifCond .eq off, 3)) (ht : (pc : Int) + off = (tgt : Int)) (kt : x = 0 → GL X l G am kc ks tgt ls st σ μ) (kf : ¬ x = 0 → GL X l G am kc ks (pc + 3) ls st σ μ) : GL X l G am kc ks pc ls (.int x :: st) σ μ := by
  obtain ⟨p, e, s, m, args, below, meth, c, Q⟩ := X
  obtain ⟨hx, hb, hml, hown, hts, hK, hIC, hIM, hKC, hKM, hAC, hAM, hdj, hX, hbl⟩ := O
  intro H locs la hPC hPM hS hl
  exact lv_if_eq hx hb hd ht (fun h => kt h H locs la hPC hPM hS hl) (fun h => kf h H locs la hPC hPM hS hl)
theorem gl_icmp_eq {x y : Int32} {off : Int} {tgt : Nat} (O : OkL X G am b L xs) (hd : decode cL_law pc = .ok (.if_icmp .eq off, 3)) (ht : (pc : Int) + off = (tgt : Int)) (kt : x = y → GL X l G am kc ks tgt ls st σ μ) (kf : ¬ x = y → GL X l G am kc ks (pc + 3) ls st σ μ) : GL X l G am kc ks pc ls (.int y :: .int x :: st) σ μ := by
  obtain ⟨p, e, s, m, args, below, meth, c, Q⟩ := X
  obtain ⟨hx, hb, hml, hown, hts, hK, hIC, hIM, hKC, hKM, hAC, hAM, hdj, hX, hbl⟩ := O
  intro H locs la hPC hPM hS hl
  exact lv_icmp_eq hx hb hd ht (fun h => kt h H locs la hPC hPM hS hl) (fun h => kf h H locs la hPC hPM hS hl)
theorem gl_icmp_gt {x y : Int32} {off : Int} {tgt : Nat} (O : OkL X G am b L xs) (hd : decode cL_law pc = .ok (.if_icmp .gt off, 3)) (ht : (pc : Int) + off = (tgt : Int)) (kt : y < x → GL X l G am kc ks tgt ls st σ μ) (kf : ¬ y < x → GL X l G am kc ks (pc + 3) ls st σ μ) : GL X l G am kc ks pc ls (.int y :: .int x :: st) σ μ := by
  obtain ⟨p, e, s, m, args, below, meth, c, Q⟩ := X
  obtain ⟨hx, hb, hml, hown, hts, hK, hIC, hIM, hKC, hKM, hAC, hAM, hdj, hX, hbl⟩ := O
  intro H locs la hPC hPM hS hl
  exact lv_icmp_gt hx hb hd ht (fun h => kt h H locs la hPC hPM hS hl) (fun h => kf h H locs la hPC hPM hS hl)
theorem gl_goto {off : Int} {tgt : Nat} (O : OkL X G am b L xs) (hd : decode cL_law pc = .ok (.goto off, 3)) (ht : (pc : Int) + off = (tgt : Int)) (k : GL X l G am kc ks tgt ls st σ μ) : GL X l G am kc ks pc ls st σ μ := by
  obtain ⟨p, e, s, m, args, below, meth, c, Q⟩ := X
  obtain ⟨hx, hb, hml, hown, hts, hK, hIC, hIM, hKC, hKM, hAC, hAM, hdj, hX, hbl⟩ := O
  intro H locs la hPC hPM hS hl
  exact lv_goto hx hb hd ht (k H locs la hPC hPM hS hl)
theorem gl_tblIn {dflt lo hi : Int} {offs : Array Int} {len : Nat} {x : Int32} {off : Int} {tgt : Nat} (O : OkL X G am b L xs) (hd : decode cL_law pc = .ok (.tableswitch dflt lo hi offs, len)) (h1 : ¬ x.toInt < lo) (h2 : ¬ hi < x.toInt) (ho : offs[(x.toInt - lo).toNat]? = some off) (ht : (pc : Int) + off = (tgt : Int)) (k : GL X l G am kc ks tgt ls st σ μ) : GL X l G am kc ks pc ls (.int x :: st) σ μ := by
  obtain ⟨p, e, s, m, args, below, meth, c, Q⟩ := X
  obtain ⟨hx, hb, hml, hown, hts, hK, hIC, hIM, hKC, hKM, hAC, hAM, hdj, hX, hbl⟩ := O
  intro H locs la hPC hPM hS hl
  exact lv_tableIn hx hb hd h1 h2 ho ht (k H locs la hPC hPM hS hl)
theorem gl_tblOut {dflt lo hi : Int} {offs : Array Int} {len : Nat} {x : Int32} {tgt : Nat} (O : OkL X G am b L xs) (hd : decode cL_law pc = .ok (.tableswitch dflt lo hi offs, len)) (h : x.toInt < lo ∨ hi < x.toInt) (ht : (pc : Int) + dflt = (tgt : Int)) (k : GL X l G am kc ks tgt ls st σ μ) : GL X l G am kc ks pc ls (.int x :: st) σ μ := by
  obtain ⟨p, e, s, m, args, below, meth, c, Q⟩ := X
  obtain ⟨hx, hb, hml, hown, hts, hK, hIC, hIM, hKC, hKM, hAC, hAM, hdj, hX, hbl⟩ := O
  intro H locs la hPC hPM hS hl
  exact lv_tableOut hx hb hd h ht (k H locs la hPC hPM hS hl)
theorem gl_perm {ls' : List (Nat × Value)} (ks1 : List Nat) (h : lv_pick ls ks1 = ls') (k : GL X l G am kc ks pc ls' st σ μ) : GL X l G am kc ks pc ls st σ μ := by
  obtain ⟨p, e, s, m, args, below, meth, c, Q⟩ := X
  intro H locs la hPC hPM hS hl
  exact k H locs la hPC hPM hS (lv_sub hl ks1 h)
theorem gl_alen (O : OkL X G am b L xs) (hd : decode cL_law pc = .ok (.arraylength, 1)) (k : GL X l G am kc ks (pc + 1) ls (.int (Int32.ofNat L) :: st) σ μ) : GL X l G am kc ks pc ls (.ref b :: st) σ μ := by
  obtain ⟨p, e, s, m, args, below, meth, c, Q⟩ := X
  obtain ⟨hx, hb, hml, hown, hts, hK, hIC, hIM, hKC, hKM, hAC, hAM, hdj, hX, hbl⟩ := O
  intro H locs la hPC hPM hS hl
  exact va_slen (A := AN s) hx hb hX hbl (Nat.not_le.mpr hbl) hS hd (k H locs la hPC hPM hS hl)
theorem gl_sld {i : Int32} (O : OkL X G am b L xs) (hin : vp_in i L) (hd : decode cL_law pc = .ok (.iaload, 1)) (k : GL X l G am kc ks (pc + 1) ls (.int (xs i.toNatClampNeg) :: st) σ μ) : GL X l G am kc ks pc ls (.int i :: .ref b :: st) σ μ := by
  obtain ⟨p, e, s, m, args, below, meth, c, Q⟩ := X
  obtain ⟨hx, hb, hml, hown, hts, hK, hIC, hIM, hKC, hKM, hAC, hAM, hdj, hX, hbl⟩ := O
  intro H locs la hPC hPM hS hl
  exact va_sld (A := AN s) hx hb hX hbl (Nat.not_le.mpr hbl) hS hin hd (k H locs la hPC hPM hS hl)
theorem gl_callCi {y : MethodName} {bytes : ByteArray} {maxL n i : Nat} {ret : Option FieldType} {ws : List Cond} {rm : Room} {As rest : List Value} {S1 : Sg} {r : Int32} (O : OkL X G am b L xs) (hkc : kc ≤ 600000 ∧ ks ≤ 7302250) (hM : Met l y ws rm (va_Pc (.ref (G.2.1 0) :: As) (PreW (wC G) σ)) (va_Qi (fun r' u => r' = r ∧ u = S1) (PostW (wC G)) (AW (wC G))) 0 0 (AW (wC G))) (cw : ∀ (s : State) (args : Array Value), (∀ x ∈ lw_tbl, x.before args s = true) → CallW room_1 s args RL RX8 i y bytes maxL ret ws rm 0 0 n) (hn : As.length = n) (hst : st = As.reverse ++ .ref (G.2.1 0) :: rest) (hW : (rest.map fun v => v.category).sum ≤ 8) (hd : decode cL_law pc = .ok (.invokevirtual i, 3)) (k : GL X l G am kc ks (pc + 3) ls (.int r :: rest) S1 μ) : GL X l G am kc ks pc ls st σ μ := by
  obtain ⟨p, e, s, m, args, below, meth, c, Q⟩ := X
  obtain ⟨hx, hb, hml, hown, hts, hK, hIC, hIM, hKC, hKM, hAC, hAM, hdj, hX, hbl⟩ := O
  intro H locs la hPC hPM hS hl
  subst hst
  have hS0 : ∀ q : Nat, q < s.heap.size → H[q]? = s.heap[q]? := fun q hq => hS.2.1 q hq (Nat.not_le.mpr hq)
  refine va_calli (va_runV (As := As) (rest := rest) ⟨hx, hb, hml, hown, hts⟩ hM (cw s args hts) ⟨PreW_blind, va_recv (ci := 7) (q0 := 0) hK hPC rfl (wcells_at (by decide : (0 : Nat) < 99) rfl), fun U hU hWm => ⟨rfl, by rw [hU]; exact hPC, va_K.moved hWm.alike hK, hKC.mv2 hS0 hU hWm.alike⟩⟩ rfl hn hl.1 rfl (lv_room hW) hd ⟨hkc.1, hkc.2⟩) hS (fun q _ h => hAC q h) (fun q h => hAC q h) (fun r' u t H1 locs1 ht hvm hw hB hz1 hk1 hS1 => ?_)
  obtain ⟨rfl, rfl⟩ := hw
  obtain ⟨hP1, -⟩ := hB
  rw [ht] at hP1
  exact k H1 locs1 la hP1 (wkept hPM hk1 (fun q h1 h2 => hdj q h2 h1)) hS1 hl
theorem gl_callCl {y : MethodName} {bytes : ByteArray} {maxL n i : Nat} {ret : Option FieldType} {ws : List Cond} {rm : Room} {As rest : List Value} {S1 : Sg} {r : Int64} (O : OkL X G am b L xs) (hkc : kc ≤ 600000 ∧ ks ≤ 7302250) (hM : Met l y ws rm (va_Pc (.ref (G.2.1 0) :: As) (PreW (wC G) σ)) (va_Ql (fun r' u => r' = r ∧ u = S1) (PostW (wC G)) (AW (wC G))) 0 0 (AW (wC G))) (cw : ∀ (s : State) (args : Array Value), (∀ x ∈ lw_tbl, x.before args s = true) → CallW room_1 s args RL RX8 i y bytes maxL ret ws rm 0 0 n) (hn : As.length = n) (hst : st = As.reverse ++ .ref (G.2.1 0) :: rest) (hW : (rest.map fun v => v.category).sum ≤ 8) (hd : decode cL_law pc = .ok (.invokevirtual i, 3)) (k : GL X l G am kc ks (pc + 3) ls (.long r :: rest) S1 μ) : GL X l G am kc ks pc ls st σ μ := by
  obtain ⟨p, e, s, m, args, below, meth, c, Q⟩ := X
  obtain ⟨hx, hb, hml, hown, hts, hK, hIC, hIM, hKC, hKM, hAC, hAM, hdj, hX, hbl⟩ := O
  intro H locs la hPC hPM hS hl
  subst hst
  have hS0 : ∀ q : Nat, q < s.heap.size → H[q]? = s.heap[q]? := fun q hq => hS.2.1 q hq (Nat.not_le.mpr hq)
  refine va_calll (va_runV (As := As) (rest := rest) ⟨hx, hb, hml, hown, hts⟩ hM (cw s args hts) ⟨PreW_blind, va_recv (ci := 7) (q0 := 0) hK hPC rfl (wcells_at (by decide : (0 : Nat) < 99) rfl), fun U hU hWm => ⟨rfl, by rw [hU]; exact hPC, va_K.moved hWm.alike hK, hKC.mv2 hS0 hU hWm.alike⟩⟩ rfl hn hl.1 rfl (lv_room hW) hd ⟨hkc.1, hkc.2⟩) hS (fun q _ h => hAC q h) (fun q h => hAC q h) (fun r' u t H1 locs1 ht hvm hw hB hz1 hk1 hS1 => ?_)
  obtain ⟨rfl, rfl⟩ := hw
  obtain ⟨hP1, -⟩ := hB
  rw [ht] at hP1
  exact k H1 locs1 la hP1 (wkept hPM hk1 (fun q h1 h2 => hdj q h2 h1)) hS1 hl
theorem gl_callMi {y : MethodName} {bytes : ByteArray} {maxL n i : Nat} {ret : Option FieldType} {ws : List Cond} {rm : Room} {As rest : List Value} {S1 : Sg} {r : Int32} (O : OkL X G am b L xs) (hkc : kc ≤ 600000 ∧ ks ≤ 7302250) (hM : Met l y ws rm (va_Pc (.ref (am 0) :: As) (PreW (wM (gM G am)) μ)) (va_Qi (fun r' u => r' = r ∧ u = S1) (PostW (wM (gM G am))) (AW (wM (gM G am)))) 0 0 (AW (wM (gM G am)))) (cw : ∀ (s : State) (args : Array Value), (∀ x ∈ lw_tbl, x.before args s = true) → CallW room_1 s args RL RX9 i y bytes maxL ret ws rm 0 0 n) (hn : As.length = n) (hst : st = As.reverse ++ .ref (am 0) :: rest) (hW : (rest.map fun v => v.category).sum ≤ 8) (hd : decode cL_law pc = .ok (.invokevirtual i, 3)) (k : GL X l G am kc ks (pc + 3) ls (.int r :: rest) σ S1) : GL X l G am kc ks pc ls st σ μ := by
  obtain ⟨p, e, s, m, args, below, meth, c, Q⟩ := X
  obtain ⟨hx, hb, hml, hown, hts, hK, hIC, hIM, hKC, hKM, hAC, hAM, hdj, hX, hbl⟩ := O
  intro H locs la hPC hPM hS hl
  subst hst
  have hS0 : ∀ q : Nat, q < s.heap.size → H[q]? = s.heap[q]? := fun q hq => hS.2.1 q hq (Nat.not_le.mpr hq)
  refine va_calli (va_runV (As := As) (rest := rest) ⟨hx, hb, hml, hown, hts⟩ hM (cw s args hts) ⟨PreW_blind, va_recv (ci := 8) (q0 := 0) hK hPM rfl (wcells_at (by decide : (0 : Nat) < 27) rfl), fun U hU hWm => ⟨rfl, by rw [hU]; exact hPM, va_K.moved hWm.alike hK, hKM.mv2 hS0 hU hWm.alike⟩⟩ rfl hn hl.1 rfl (lv_room hW) hd ⟨hkc.1, hkc.2⟩) hS (fun q _ h => hAM q h) (fun q h => hAM q h) (fun r' u t H1 locs1 ht hvm hw hB hz1 hk1 hS1 => ?_)
  obtain ⟨rfl, rfl⟩ := hw
  obtain ⟨hP1, -⟩ := hB
  rw [ht] at hP1
  exact k H1 locs1 la (wkept hPC hk1 (fun q h1 h2 => hdj q h1 h2)) hP1 hS1 hl
theorem gl_callMl {y : MethodName} {bytes : ByteArray} {maxL n i : Nat} {ret : Option FieldType} {ws : List Cond} {rm : Room} {As rest : List Value} {S1 : Sg} {r : Int64} (O : OkL X G am b L xs) (hkc : kc ≤ 600000 ∧ ks ≤ 7302250) (hM : Met l y ws rm (va_Pc (.ref (am 0) :: As) (PreW (wM (gM G am)) μ)) (va_Ql (fun r' u => r' = r ∧ u = S1) (PostW (wM (gM G am))) (AW (wM (gM G am)))) 0 0 (AW (wM (gM G am)))) (cw : ∀ (s : State) (args : Array Value), (∀ x ∈ lw_tbl, x.before args s = true) → CallW room_1 s args RL RX9 i y bytes maxL ret ws rm 0 0 n) (hn : As.length = n) (hst : st = As.reverse ++ .ref (am 0) :: rest) (hW : (rest.map fun v => v.category).sum ≤ 8) (hd : decode cL_law pc = .ok (.invokevirtual i, 3)) (k : GL X l G am kc ks (pc + 3) ls (.long r :: rest) σ S1) : GL X l G am kc ks pc ls st σ μ := by
  obtain ⟨p, e, s, m, args, below, meth, c, Q⟩ := X
  obtain ⟨hx, hb, hml, hown, hts, hK, hIC, hIM, hKC, hKM, hAC, hAM, hdj, hX, hbl⟩ := O
  intro H locs la hPC hPM hS hl
  subst hst
  have hS0 : ∀ q : Nat, q < s.heap.size → H[q]? = s.heap[q]? := fun q hq => hS.2.1 q hq (Nat.not_le.mpr hq)
  refine va_calll (va_runV (As := As) (rest := rest) ⟨hx, hb, hml, hown, hts⟩ hM (cw s args hts) ⟨PreW_blind, va_recv (ci := 8) (q0 := 0) hK hPM rfl (wcells_at (by decide : (0 : Nat) < 27) rfl), fun U hU hWm => ⟨rfl, by rw [hU]; exact hPM, va_K.moved hWm.alike hK, hKM.mv2 hS0 hU hWm.alike⟩⟩ rfl hn hl.1 rfl (lv_room hW) hd ⟨hkc.1, hkc.2⟩) hS (fun q _ h => hAM q h) (fun q h => hAM q h) (fun r' u t H1 locs1 ht hvm hw hB hz1 hk1 hS1 => ?_)
  obtain ⟨rfl, rfl⟩ := hw
  obtain ⟨hP1, -⟩ := hB
  rw [ht] at hP1
  exact k H1 locs1 la (wkept hPC hk1 (fun q h1 h2 => hdj q h1 h2)) hP1 hS1 hl
end GLS
