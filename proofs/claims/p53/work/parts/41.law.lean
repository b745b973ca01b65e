-- L_law
def T_L_law_255 (Ln : Nat) (xs : Nat → Int32)  (p7 : Int32) (p8 : Int32) : Nat → Int32 → Sg → Option ((Sg) ⊕ (Int32 × Sg))
  | 0, _, _ => none
  | n + 1, p14, S => if p7 ≤ p14 then (some (.inl S)) else (bd (α := ((Sg) ⊕ (Int32 × Sg))) (if p14 = p8 then (some (.inl S)) else (bd (F_X8_tearOff S p8 p14) (fun (x44, S45) => bd (F_X8_asked S45) (fun x47 => bd (α := ((Sg) ⊕ (Int32 × Sg))) (if x44 = 0 then (bd (F_X8_hears S45 p8 p14) (fun (x75, S76) => if x75 = (1 : Int32) then (some (.inl S76)) else (some (.inr ((0 : Int32), S76))))) else (some (.inl S45))) (fun q => match q with | .inl S48 => if x44 ≤ 0 then (some (.inl S48)) else (bd (F_X8_hears S48 p8 p14) (fun (x54, S55) => if x54 = 0 then (chk (inB x47 6) (bd (F_X8_wall S55 x47 ((S55.1 101 x47.toNatClampNeg) - x44)) (fun (x58, S59) => chk (inB x47 6) (if x58 = (S59.1 101 x47.toNatClampNeg) then (bd (F_X8_hears S59 p8 p14) (fun (x62, S63) => if x62 = (1 : Int32) then (chk (inB x47 6) (bd (F_X8_wall S63 x47 (S63.1 101 x47.toNatClampNeg)) (fun (x66, S67) => chk (inB x47 6) (if x66 = ((S67.1 101 x47.toNatClampNeg) - x44) then (some (.inl S67)) else (some (.inr ((0 : Int32), S67))))))) else (some (.inr ((0 : Int32), S63))))) else (some (.inr ((0 : Int32), S59))))))) else (some (.inr ((0 : Int32), S55))))) | .inr r => some (.inr r)))))) (fun q => match q with | .inl S38 => T_L_law_255 Ln xs p7 p8 n (p14 + (1 : Int32)) S38 | .inr r => some (.inr r)))
set_option maxHeartbeats 4000000 in
set_option maxRecDepth 100000 in
theorem lt_L_law_255 {X : XT} (l : Launch) (G : Gp) (hI : Gd G) {Ln : Nat} {xs : Nat → Int32} (hL : gL G = Ln) (hxs : gx G = xs) (hT : 104 ≤ nn G)  {p7 : Int32} {p8 : Int32} (O : Ok X (wC G) cL_law RL lw_tbl 19) : ∀ (n : Nat) (p14 : Int32) (S : Sg) (q : ((Sg) ⊕ (Int32 × Sg))), T_L_law_255 Ln xs p7 p8 n p14 S = some q → (∀ (S9 : Sg), q = .inl S9 → Go X l room_1 (wC G) 19 384 [(0, .ref (gb G)), (1, .ref (G.2.1 0)), (4, .ref (G.2.1 101)), (5, .ref (G.2.1 102)), (7, .int p7), (8, .int p8)] [] S9) → (∀ (rS : Int32 × Sg), q = .inr rS → ∀ pc ls (hz : vp_nar .boolean rS.1 = rS.1), decode cL_law pc = .ok (.ireturn, 1) → Go X l room_1 (wC G) 19 pc ls [.int rS.1] rS.2) → Go X l room_1 (wC G) 19 255 [(0, .ref (gb G)), (1, .ref (G.2.1 0)), (4, .ref (G.2.1 101)), (5, .ref (G.2.1 102)), (7, .int p7), (8, .int p8), (14, .int p14)] [] S := by
  intro n
  induction n with
  | zero =>
    intro p14 S q hF
    cases hF
  | succ n ih =>
    intro p14 S q hF hE hR
    rw [T_L_law_255] at hF
    refine go_iload O dL_law_255 6 rfl ?_
    refine go_iload O dL_law_257 4 rfl ?_
    refine go_icmp_ge (tgt := 384) O dL_law_259 (by decide) (fun hc80 => ?_) (fun hc80 => ?_)
    · replace hF := it_t hc80 hF
      refine go_perm (ls' := [(0, .ref (gb G)), (1, .ref (G.2.1 0)), (4, .ref (G.2.1 101)), (5, .ref (G.2.1 102)), (7, .int p7), (8, .int p8)]) [0, 1, 2, 3, 4, 5] rfl ?_
      exact ret_q hF (fun hq => hE _ hq)
    · replace hF := it_f hc80 hF
      refine go_iload O dL_law_262 6 rfl ?_
      refine go_iload O dL_law_264 5 rfl ?_
      obtain ⟨q40, hA41, hF⟩ := bd_s hF
      have J39 : ∀ (S38 : Sg), q40 = .inl S38 → Go X l room_1 (wC G) 19 378 [(0, .ref (gb G)), (1, .ref (G.2.1 0)), (4, .ref (G.2.1 101)), (5, .ref (G.2.1 102)), (7, .int p7), (8, .int p8), (14, .int p14)] [] S38 := by
        intro S38 hq
        subst hq
        refine go_iinc (d := (1 : Int32)) (ls' := [(14, .int (p14 + (1 : Int32))), (0, .ref (gb G)), (1, .ref (G.2.1 0)), (4, .ref (G.2.1 101)), (5, .ref (G.2.1 102)), (7, .int p7), (8, .int p8)]) O dL_law_378 6 rfl (by decide) (by decide) rfl ?_
        refine go_goto (tgt := 255) O dL_law_381 (by decide) ?_
        refine go_perm (ls' := [(0, .ref (gb G)), (1, .ref (G.2.1 0)), (4, .ref (G.2.1 101)), (5, .ref (G.2.1 102)), (7, .int p7), (8, .int p8), (14, .int (p14 + (1 : Int32)))]) [1, 2, 3, 4, 5, 6, 0] rfl ?_
        exact ih _ _ _ hF hE hR
      have hR42 : ∀ (rS : Int32 × Sg), q40 = .inr rS → ∀ pc ls (hz : vp_nar .boolean rS.1 = rS.1), decode cL_law pc = .ok (.ireturn, 1) → Go X l room_1 (wC G) 19 pc ls [.int rS.1] rS.2 := by
        intro r hq pc ls hz hd
        subst hq
        exact ret_q hF (fun hq => hR _ hq _ _ hz hd)
      replace hF := hA41
      replace hR := hR42
      refine go_icmp_eq (tgt := 378) O dL_law_266 (by decide) (fun hc79 => ?_) (fun hc79 => ?_)
      · replace hF := it_t hc79 hF
        exact ret_q hF (fun hq => J39 _ hq)
      · replace hF := it_f hc79 hF
        refine go_aload_n O dL_law_269 rfl 1 rfl ?_
        refine go_iload O dL_law_270 5 rfl ?_
        refine go_iload O dL_law_272 6 rfl ?_
        obtain ⟨⟨x44, S45⟩, hA43, hF⟩ := bd_s hF
        refine go_callVi (As := [.int p8, .int p14]) (rest := []) (b := 0) O (c_X8_tearOff l G hI hA43) (fun s args hts => cwV 2 hts gL_law_X8_tearOff rfl rfl rfl (by decide +kernel) ⟨Nat.le_of_ble_eq_true rfl, Nat.le_of_ble_eq_true rfl⟩) (lt9 hI (by decide : (0 : Nat) < 99)) (cv_pw G (S.1 0) (S.2 0)) rfl rfl rfl rfl (Nat.le_of_ble_eq_true rfl) dL_law_274 ?_
        refine go_istore (ls' := [(15, .int x44), (0, .ref (gb G)), (1, .ref (G.2.1 0)), (4, .ref (G.2.1 101)), (5, .ref (G.2.1 102)), (7, .int p7), (8, .int p8), (14, .int p14)]) O dL_law_277 (by decide) rfl ?_
        refine go_aload_n O dL_law_279 rfl 2 rfl ?_
        obtain ⟨x47, hA46, hF⟩ := bd_s hF
        refine go_callVi (As := []) (rest := []) (b := 0) O (c_X8_asked l G hI hA46) (fun s args hts => cwV 0 hts gL_law_X8_asked rfl rfl rfl (by decide +kernel) ⟨Nat.le_of_ble_eq_true rfl, Nat.le_of_ble_eq_true rfl⟩) (lt9 hI (by decide : (0 : Nat) < 99)) (cv_pw G (S45.1 0) (S45.2 0)) rfl rfl rfl rfl (Nat.le_of_ble_eq_true rfl) dL_law_280 ?_
        refine go_istore (ls' := [(16, .int x47), (15, .int x44), (0, .ref (gb G)), (1, .ref (G.2.1 0)), (4, .ref (G.2.1 101)), (5, .ref (G.2.1 102)), (7, .int p7), (8, .int p8), (14, .int p14)]) O dL_law_283 (by decide) rfl ?_
        refine go_iload O dL_law_285 1 rfl ?_
        obtain ⟨q50, hA51, hF⟩ := bd_s hF
        have J49 : ∀ (S48 : Sg), q50 = .inl S48 → Go X l room_1 (wC G) 19 304 [(0, .ref (gb G)), (1, .ref (G.2.1 0)), (4, .ref (G.2.1 101)), (5, .ref (G.2.1 102)), (7, .int p7), (8, .int p8), (14, .int p14), (15, .int x44), (16, .int x47)] [] S48 := by
          intro S48 hq
          subst hq
          refine go_iload O dL_law_304 7 rfl ?_
          refine go_if_le (tgt := 378) O dL_law_306 (by decide) (fun hc73 => ?_) (fun hc73 => ?_)
          · replace hF := it_t hc73 hF
            refine go_perm (ls' := [(0, .ref (gb G)), (1, .ref (G.2.1 0)), (4, .ref (G.2.1 101)), (5, .ref (G.2.1 102)), (7, .int p7), (8, .int p8), (14, .int p14)]) [0, 1, 2, 3, 4, 5, 6] rfl ?_
            exact ret_q hF (fun hq => J39 _ hq)
          · replace hF := it_f hc73 hF
            refine go_aload_n O dL_law_309 rfl 1 rfl ?_
            refine go_iload O dL_law_310 5 rfl ?_
            refine go_iload O dL_law_312 6 rfl ?_
            obtain ⟨⟨x54, S55⟩, hA53, hF⟩ := bd_s hF
            refine go_callVi (As := [.int p8, .int p14]) (rest := []) (b := 0) O (c_X8_hears l G hI hA53) (fun s args hts => cwV 2 hts gL_law_X8_hears rfl rfl rfl (by decide +kernel) ⟨Nat.le_of_ble_eq_true rfl, Nat.le_of_ble_eq_true rfl⟩) (lt9 hI (by decide : (0 : Nat) < 99)) (cv_pw G (S48.1 0) (S48.2 0)) rfl rfl rfl rfl (Nat.le_of_ble_eq_true rfl) dL_law_314 ?_
            refine go_if_ne (tgt := 376) O dL_law_317 (by decide) (fun hc72 => ?_) (fun hc72 => ?_)
            · replace hF := it_f hc72 hF
              refine go_iconst (v := (0 : Int32)) O dL_law_376 (by decide) ?_
              exact ret_q hF (fun hq => hR _ hq _ _ (show vp_nar .boolean (0 : Int32) = (0 : Int32) by decide) dL_law_377)
            · replace hF := it_t hc72 hF
              refine go_aload_n O dL_law_320 rfl 1 rfl ?_
              refine go_iload O dL_law_321 8 rfl ?_
              refine go_aload O dL_law_323 2 rfl ?_
              refine go_iload O dL_law_325 8 rfl ?_
              obtain ⟨hb56, hF⟩ := chk_s hF
              refine go_iald (k := 101) O (lt4 hT (by decide : (101 : Nat) < 104)) (cv_l101 G (S55.1 101) (S55.2 101)) (inB_in hb56) dL_law_327 ?_
              refine go_iload O dL_law_328 7 rfl ?_
              refine go_isub O dL_law_330 ?_
              obtain ⟨⟨x58, S59⟩, hA57, hF⟩ := bd_s hF
              refine go_callVi (As := [.int x47, .int ((S55.1 101 x47.toNatClampNeg) - x44)]) (rest := []) (b := 0) O (c_X8_wall l G hI hA57) (fun s args hts => cwV 2 hts gL_law_X8_wall rfl rfl rfl (by decide +kernel) ⟨Nat.le_of_ble_eq_true rfl, Nat.le_of_ble_eq_true rfl⟩) (lt9 hI (by decide : (0 : Nat) < 99)) (cv_pw G (S55.1 0) (S55.2 0)) rfl rfl rfl rfl (Nat.le_of_ble_eq_true rfl) dL_law_331 ?_
              refine go_aload O dL_law_334 2 rfl ?_
              refine go_iload O dL_law_336 8 rfl ?_
              obtain ⟨hb60, hF⟩ := chk_s hF
              refine go_iald (k := 101) O (lt4 hT (by decide : (101 : Nat) < 104)) (cv_l101 G (S59.1 101) (S59.2 101)) (inB_in hb60) dL_law_338 ?_
              refine go_icmp_ne (tgt := 376) O dL_law_339 (by decide) (fun hc71 => ?_) (fun hc71 => ?_)
              · replace hF := it_f hc71 hF
                refine go_iconst (v := (0 : Int32)) O dL_law_376 (by decide) ?_
                exact ret_q hF (fun hq => hR _ hq _ _ (show vp_nar .boolean (0 : Int32) = (0 : Int32) by decide) dL_law_377)
              · replace hF := it_t hc71 hF
                refine go_aload_n O dL_law_342 rfl 1 rfl ?_
                refine go_iload O dL_law_343 5 rfl ?_
                refine go_iload O dL_law_345 6 rfl ?_
                obtain ⟨⟨x62, S63⟩, hA61, hF⟩ := bd_s hF
                refine go_callVi (As := [.int p8, .int p14]) (rest := []) (b := 0) O (c_X8_hears l G hI hA61) (fun s args hts => cwV 2 hts gL_law_X8_hears rfl rfl rfl (by decide +kernel) ⟨Nat.le_of_ble_eq_true rfl, Nat.le_of_ble_eq_true rfl⟩) (lt9 hI (by decide : (0 : Nat) < 99)) (cv_pw G (S59.1 0) (S59.2 0)) rfl rfl rfl rfl (Nat.le_of_ble_eq_true rfl) dL_law_347 ?_
                refine go_iconst (v := (1 : Int32)) O dL_law_350 (by decide) ?_
                refine go_icmp_ne (tgt := 376) O dL_law_351 (by decide) (fun hc70 => ?_) (fun hc70 => ?_)
                · replace hF := it_f hc70 hF
                  refine go_iconst (v := (0 : Int32)) O dL_law_376 (by decide) ?_
                  exact ret_q hF (fun hq => hR _ hq _ _ (show vp_nar .boolean (0 : Int32) = (0 : Int32) by decide) dL_law_377)
                · replace hF := it_t hc70 hF
                  refine go_aload_n O dL_law_354 rfl 1 rfl ?_
                  refine go_iload O dL_law_355 8 rfl ?_
                  refine go_aload O dL_law_357 2 rfl ?_
                  refine go_iload O dL_law_359 8 rfl ?_
                  obtain ⟨hb64, hF⟩ := chk_s hF
                  refine go_iald (k := 101) O (lt4 hT (by decide : (101 : Nat) < 104)) (cv_l101 G (S63.1 101) (S63.2 101)) (inB_in hb64) dL_law_361 ?_
                  obtain ⟨⟨x66, S67⟩, hA65, hF⟩ := bd_s hF
                  refine go_callVi (As := [.int x47, .int (S63.1 101 x47.toNatClampNeg)]) (rest := []) (b := 0) O (c_X8_wall l G hI hA65) (fun s args hts => cwV 2 hts gL_law_X8_wall rfl rfl rfl (by decide +kernel) ⟨Nat.le_of_ble_eq_true rfl, Nat.le_of_ble_eq_true rfl⟩) (lt9 hI (by decide : (0 : Nat) < 99)) (cv_pw G (S63.1 0) (S63.2 0)) rfl rfl rfl rfl (Nat.le_of_ble_eq_true rfl) dL_law_362 ?_
                  refine go_aload O dL_law_365 2 rfl ?_
                  refine go_iload O dL_law_367 8 rfl ?_
                  obtain ⟨hb68, hF⟩ := chk_s hF
                  refine go_iald (k := 101) O (lt4 hT (by decide : (101 : Nat) < 104)) (cv_l101 G (S67.1 101) (S67.2 101)) (inB_in hb68) dL_law_369 ?_
                  refine go_iload O dL_law_370 7 rfl ?_
                  refine go_isub O dL_law_372 ?_
                  refine go_icmp_eq (tgt := 378) O dL_law_373 (by decide) (fun hc69 => ?_) (fun hc69 => ?_)
                  · replace hF := it_t hc69 hF
                    refine go_perm (ls' := [(0, .ref (gb G)), (1, .ref (G.2.1 0)), (4, .ref (G.2.1 101)), (5, .ref (G.2.1 102)), (7, .int p7), (8, .int p8), (14, .int p14)]) [0, 1, 2, 3, 4, 5, 6] rfl ?_
                    exact ret_q hF (fun hq => J39 _ hq)
                  · replace hF := it_f hc69 hF
                    refine go_iconst (v := (0 : Int32)) O dL_law_376 (by decide) ?_
                    exact ret_q hF (fun hq => hR _ hq _ _ (show vp_nar .boolean (0 : Int32) = (0 : Int32) by decide) dL_law_377)
        have hR52 : ∀ (rS : Int32 × Sg), q50 = .inr rS → ∀ pc ls (hz : vp_nar .boolean rS.1 = rS.1), decode cL_law pc = .ok (.ireturn, 1) → Go X l room_1 (wC G) 19 pc ls [.int rS.1] rS.2 := by
          intro r hq pc ls hz hd
          subst hq
          exact ret_q hF (fun hq => hR _ hq _ _ hz hd)
        replace hF := hA51
        replace hR := hR52
        refine go_if_ne (tgt := 304) O dL_law_287 (by decide) (fun hc78 => ?_) (fun hc78 => ?_)
        · replace hF := it_f hc78 hF
          refine go_perm (ls' := [(0, .ref (gb G)), (1, .ref (G.2.1 0)), (4, .ref (G.2.1 101)), (5, .ref (G.2.1 102)), (7, .int p7), (8, .int p8), (14, .int p14), (15, .int x44), (16, .int x47)]) [2, 3, 4, 5, 6, 7, 8, 1, 0] rfl ?_
          exact ret_q hF (fun hq => J49 _ hq)
        · replace hF := it_t hc78 hF
          refine go_aload_n O dL_law_290 rfl 3 rfl ?_
          refine go_iload O dL_law_291 7 rfl ?_
          refine go_iload O dL_law_293 8 rfl ?_
          obtain ⟨⟨x75, S76⟩, hA74, hF⟩ := bd_s hF
          refine go_callVi (As := [.int p8, .int p14]) (rest := []) (b := 0) O (c_X8_hears l G hI hA74) (fun s args hts => cwV 2 hts gL_law_X8_hears rfl rfl rfl (by decide +kernel) ⟨Nat.le_of_ble_eq_true rfl, Nat.le_of_ble_eq_true rfl⟩) (lt9 hI (by decide : (0 : Nat) < 99)) (cv_pw G (S45.1 0) (S45.2 0)) rfl rfl rfl rfl (Nat.le_of_ble_eq_true rfl) dL_law_295 ?_
          refine go_iconst (v := (1 : Int32)) O dL_law_298 (by decide) ?_
          refine go_icmp_eq (tgt := 304) O dL_law_299 (by decide) (fun hc77 => ?_) (fun hc77 => ?_)
          · replace hF := it_t hc77 hF
            refine go_perm (ls' := [(0, .ref (gb G)), (1, .ref (G.2.1 0)), (4, .ref (G.2.1 101)), (5, .ref (G.2.1 102)), (7, .int p7), (8, .int p8), (14, .int p14), (15, .int x44), (16, .int x47)]) [2, 3, 4, 5, 6, 7, 8, 1, 0] rfl ?_
            exact ret_q hF (fun hq => J49 _ hq)
          · replace hF := it_f hc77 hF
            refine go_iconst (v := (0 : Int32)) O dL_law_302 (by decide) ?_
            exact ret_q hF (fun hq => hR _ hq _ _ (show vp_nar .boolean (0 : Int32) = (0 : Int32) by decide) dL_law_303)
def T_L_law_88 (Ln : Nat) (xs : Nat → Int32)  (p7 : Int32) : Nat → Int32 → Sg → Option ((Sg) ⊕ (Int32 × Sg))
  | 0, _, _ => none
  | n + 1, p8, S => if p7 ≤ p8 then (some (.inl S)) else (bd (F_L_cell Ln xs S ((20 : Int32) + p8)) (fun x11 => bd (F_L_some S x11 ((1 : Int32) <<< (p7 &&& 31))) (fun x13 => nm (x13 &&& (((1 : Int32) <<< (p8 &&& 31)) ^^^ (-1 : Int32))) (fun x14 => bd (F_L_cell Ln xs S ((28 : Int32) + p8)) (fun x16 => bd (F_L_some S x16 ((1 : Int32) <<< (p7 &&& 31))) (fun x18 => nm (x14 &&& x18) (fun x19 => bd (F_X8_heard S p8 x14) (fun x21 => if (x21 &&& x14) = 0 then (bd (F_X8_heard S p8 x19) (fun x23 => if (x21 &&& (x23 ^^^ (-1 : Int32))) = 0 then (if ((x21 >>> (p8 &&& 31)) &&& (1 : Int32)) = (1 : Int32) then (some (.inr ((0 : Int32), S))) else (bd (F_X8_hush S p8) (fun (x25, S26) => bd (F_X8_asked S26) (fun x28 => if x25 < 0 then (some (.inr ((0 : Int32), S26))) else (bd (F_L_size S26 x28) (fun x30 => if x25 = x30 then (bd (F_X8_heard S26 p8 x28) (fun x32 => if x32 = 0 then (bd (F_X8_heard S26 p8 (0 : Int32)) (fun x34 => bd (F_X8_leak S26 (x34 ||| ((1 : Int32) <<< (p8 &&& 31)))) (fun x36 => if (x36 >>> (p8 &&& 31)) = 0 then (some (.inr ((0 : Int32), S26))) else (bd (T_L_law_255 Ln xs p7 p8 FU (0 : Int32) S26) (fun q => match q with | .inl S37 => T_L_law_88 Ln xs p7 n (p8 + (1 : Int32)) S37 | .inr r => some (.inr r)))))) else (some (.inr ((0 : Int32), S26))))) else (some (.inr ((0 : Int32), S26))))))))) else (some (.inr ((0 : Int32), S))))) else (some (.inr ((0 : Int32), S)))))))))))
set_option maxHeartbeats 4000000 in
set_option maxRecDepth 100000 in
theorem lt_L_law_88 {X : XT} (l : Launch) (G : Gp) (hI : Gd G) {Ln : Nat} {xs : Nat → Int32} (hL : gL G = Ln) (hxs : gx G = xs) (hT : 104 ≤ nn G)  {p7 : Int32} (O : Ok X (wC G) cL_law RL lw_tbl 19) : ∀ (n : Nat) (p8 : Int32) (S : Sg) (q : ((Sg) ⊕ (Int32 × Sg))), T_L_law_88 Ln xs p7 n p8 S = some q → (∀ (S9 : Sg), q = .inl S9 → Go X l room_1 (wC G) 19 390 [(0, .ref (gb G)), (1, .ref (G.2.1 0)), (4, .ref (G.2.1 101)), (5, .ref (G.2.1 102)), (7, .int p7)] [] S9) → (∀ (rS : Int32 × Sg), q = .inr rS → ∀ pc ls (hz : vp_nar .boolean rS.1 = rS.1), decode cL_law pc = .ok (.ireturn, 1) → Go X l room_1 (wC G) 19 pc ls [.int rS.1] rS.2) → Go X l room_1 (wC G) 19 88 [(0, .ref (gb G)), (1, .ref (G.2.1 0)), (4, .ref (G.2.1 101)), (5, .ref (G.2.1 102)), (7, .int p7), (8, .int p8)] [] S := by
  intro n
  induction n with
  | zero =>
    intro p8 S q hF
    cases hF
  | succ n ih =>
    intro p8 S q hF hE hR
    rw [T_L_law_88] at hF
    refine go_iload O dL_law_88 5 rfl ?_
    refine go_iload O dL_law_90 4 rfl ?_
    refine go_icmp_ge (tgt := 390) O dL_law_92 (by decide) (fun hc90 => ?_) (fun hc90 => ?_)
    · replace hF := it_t hc90 hF
      refine go_perm (ls' := [(0, .ref (gb G)), (1, .ref (G.2.1 0)), (4, .ref (G.2.1 101)), (5, .ref (G.2.1 102)), (7, .int p7)]) [0, 1, 2, 3, 4] rfl ?_
      exact ret_q hF (fun hq => hE _ hq)
    · replace hF := it_f hc90 hF
      refine go_aload_n O dL_law_95 rfl 0 rfl ?_
      refine go_bipush (v := (20 : Int32)) O dL_law_96 (by decide) ?_
      refine go_iload O dL_law_98 5 rfl ?_
      refine go_iadd O dL_law_100 ?_
      obtain ⟨x11, hA10, hF⟩ := bd_s hF
      refine go_callSi (As := [.ref (gb G), .int ((20 : Int32) + p8)]) (rest := []) O (c_L_cell l G hI hL hxs hA10) (fun s args hts => va_cwS 2 hts gL_law_L_cell rfl rfl rfl (by decide +kernel) ⟨Nat.le_of_ble_eq_true rfl, Nat.le_of_ble_eq_true rfl⟩) rfl rfl (Nat.le_of_ble_eq_true rfl) dL_law_101 ?_
      refine go_iconst (v := (1 : Int32)) O dL_law_104 (by decide) ?_
      refine go_iload O dL_law_105 4 rfl ?_
      refine go_ishl O dL_law_107 ?_
      obtain ⟨x13, hA12, hF⟩ := bd_s hF
      refine go_callSi (As := [.int x11, .int ((1 : Int32) <<< (p7 &&& 31))]) (rest := []) O (c_L_some l G hI hA12) (fun s args hts => va_cwS 2 hts gL_law_L_some rfl rfl rfl (by decide +kernel) ⟨Nat.le_of_ble_eq_true rfl, Nat.le_of_ble_eq_true rfl⟩) rfl rfl (Nat.le_of_ble_eq_true rfl) dL_law_108 ?_
      refine go_iconst (v := (1 : Int32)) O dL_law_111 (by decide) ?_
      refine go_iload O dL_law_112 5 rfl ?_
      refine go_ishl O dL_law_114 ?_
      refine go_iconst (v := (-1 : Int32)) O dL_law_115 (by decide) ?_
      refine go_ixor O dL_law_116 ?_
      refine go_iand O dL_law_117 ?_
      obtain ⟨x14, ex14, hF⟩ := nm_s hF
      refine go_topi ex14 ?_
      refine go_istore (ls' := [(9, .int x14), (0, .ref (gb G)), (1, .ref (G.2.1 0)), (4, .ref (G.2.1 101)), (5, .ref (G.2.1 102)), (7, .int p7), (8, .int p8)]) O dL_law_118 (by decide) rfl ?_
      refine go_iload O dL_law_120 0 rfl ?_
      refine go_aload_n O dL_law_122 rfl 1 rfl ?_
      refine go_bipush (v := (28 : Int32)) O dL_law_123 (by decide) ?_
      refine go_iload O dL_law_125 6 rfl ?_
      refine go_iadd O dL_law_127 ?_
      obtain ⟨x16, hA15, hF⟩ := bd_s hF
      refine go_callSi (As := [.ref (gb G), .int ((28 : Int32) + p8)]) (rest := [.int x14]) O (c_L_cell l G hI hL hxs hA15) (fun s args hts => va_cwS 2 hts gL_law_L_cell rfl rfl rfl (by decide +kernel) ⟨Nat.le_of_ble_eq_true rfl, Nat.le_of_ble_eq_true rfl⟩) rfl rfl (Nat.le_of_ble_eq_true rfl) dL_law_128 ?_
      refine go_iconst (v := (1 : Int32)) O dL_law_131 (by decide) ?_
      refine go_iload O dL_law_132 5 rfl ?_
      refine go_ishl O dL_law_134 ?_
      obtain ⟨x18, hA17, hF⟩ := bd_s hF
      refine go_callSi (As := [.int x16, .int ((1 : Int32) <<< (p7 &&& 31))]) (rest := [.int x14]) O (c_L_some l G hI hA17) (fun s args hts => va_cwS 2 hts gL_law_L_some rfl rfl rfl (by decide +kernel) ⟨Nat.le_of_ble_eq_true rfl, Nat.le_of_ble_eq_true rfl⟩) rfl rfl (Nat.le_of_ble_eq_true rfl) dL_law_135 ?_
      refine go_iand O dL_law_138 ?_
      obtain ⟨x19, ex19, hF⟩ := nm_s hF
      refine go_topi ex19 ?_
      refine go_istore (ls' := [(10, .int x19), (9, .int x14), (0, .ref (gb G)), (1, .ref (G.2.1 0)), (4, .ref (G.2.1 101)), (5, .ref (G.2.1 102)), (7, .int p7), (8, .int p8)]) O dL_law_139 (by decide) rfl ?_
      refine go_aload_n O dL_law_141 rfl 3 rfl ?_
      refine go_iload O dL_law_142 7 rfl ?_
      refine go_iload O dL_law_144 1 rfl ?_
      obtain ⟨x21, hA20, hF⟩ := bd_s hF
      refine go_callVi (As := [.int p8, .int x14]) (rest := []) (b := 0) O (c_X8_heard l G hI hA20) (fun s args hts => cwV 2 hts gL_law_X8_heard rfl rfl rfl (by decide +kernel) ⟨Nat.le_of_ble_eq_true rfl, Nat.le_of_ble_eq_true rfl⟩) (lt9 hI (by decide : (0 : Nat) < 99)) (cv_pw G (S.1 0) (S.2 0)) rfl rfl rfl rfl (Nat.le_of_ble_eq_true rfl) dL_law_146 ?_
      refine go_istore (ls' := [(11, .int x21), (10, .int x19), (9, .int x14), (0, .ref (gb G)), (1, .ref (G.2.1 0)), (4, .ref (G.2.1 101)), (5, .ref (G.2.1 102)), (7, .int p7), (8, .int p8)]) O dL_law_149 (by decide) rfl ?_
      refine go_iload O dL_law_151 0 rfl ?_
      refine go_iload O dL_law_153 2 rfl ?_
      refine go_iand O dL_law_155 ?_
      refine go_if_ne (tgt := 186) O dL_law_156 (by decide) (fun hc89 => ?_) (fun hc89 => ?_)
      · replace hF := it_f hc89 hF
        refine go_iconst (v := (0 : Int32)) O dL_law_186 (by decide) ?_
        exact ret_q hF (fun hq => hR _ hq _ _ (show vp_nar .boolean (0 : Int32) = (0 : Int32) by decide) dL_law_187)
      · replace hF := it_t hc89 hF
        refine go_iload O dL_law_159 0 rfl ?_
        refine go_aload_n O dL_law_161 rfl 4 rfl ?_
        refine go_iload O dL_law_162 8 rfl ?_
        refine go_iload O dL_law_164 1 rfl ?_
        obtain ⟨x23, hA22, hF⟩ := bd_s hF
        refine go_callVi (As := [.int p8, .int x19]) (rest := [.int x21]) (b := 0) O (c_X8_heard l G hI hA22) (fun s args hts => cwV 2 hts gL_law_X8_heard rfl rfl rfl (by decide +kernel) ⟨Nat.le_of_ble_eq_true rfl, Nat.le_of_ble_eq_true rfl⟩) (lt9 hI (by decide : (0 : Nat) < 99)) (cv_pw G (S.1 0) (S.2 0)) rfl rfl rfl rfl (Nat.le_of_ble_eq_true rfl) dL_law_166 ?_
        refine go_iconst (v := (-1 : Int32)) O dL_law_169 (by decide) ?_
        refine go_ixor O dL_law_170 ?_
        refine go_iand O dL_law_171 ?_
        refine go_if_ne (tgt := 186) O dL_law_172 (by decide) (fun hc88 => ?_) (fun hc88 => ?_)
        · replace hF := it_f hc88 hF
          refine go_iconst (v := (0 : Int32)) O dL_law_186 (by decide) ?_
          exact ret_q hF (fun hq => hR _ hq _ _ (show vp_nar .boolean (0 : Int32) = (0 : Int32) by decide) dL_law_187)
        · replace hF := it_t hc88 hF
          refine go_iload O dL_law_175 0 rfl ?_
          refine go_iload O dL_law_177 8 rfl ?_
          refine go_ishr O dL_law_179 ?_
          refine go_iconst (v := (1 : Int32)) O dL_law_180 (by decide) ?_
          refine go_iand O dL_law_181 ?_
          refine go_iconst (v := (1 : Int32)) O dL_law_182 (by decide) ?_
          refine go_icmp_ne (tgt := 188) O dL_law_183 (by decide) (fun hc87 => ?_) (fun hc87 => ?_)
          · replace hF := it_f hc87 hF
            refine go_aload_n O dL_law_188 rfl 4 rfl ?_
            refine go_iload O dL_law_189 8 rfl ?_
            obtain ⟨⟨x25, S26⟩, hA24, hF⟩ := bd_s hF
            refine go_callVi (As := [.int p8]) (rest := []) (b := 0) O (c_X8_hush l G hI hA24) (fun s args hts => cwV 1 hts gL_law_X8_hush rfl rfl rfl (by decide +kernel) ⟨Nat.le_of_ble_eq_true rfl, Nat.le_of_ble_eq_true rfl⟩) (lt9 hI (by decide : (0 : Nat) < 99)) (cv_pw G (S.1 0) (S.2 0)) rfl rfl rfl rfl (Nat.le_of_ble_eq_true rfl) dL_law_191 ?_
            refine go_istore (ls' := [(12, .int x25), (11, .int x21), (10, .int x19), (9, .int x14), (0, .ref (gb G)), (1, .ref (G.2.1 0)), (4, .ref (G.2.1 101)), (5, .ref (G.2.1 102)), (7, .int p7), (8, .int p8)]) O dL_law_194 (by decide) rfl ?_
            refine go_aload_n O dL_law_196 rfl 5 rfl ?_
            obtain ⟨x28, hA27, hF⟩ := bd_s hF
            refine go_callVi (As := []) (rest := []) (b := 0) O (c_X8_asked l G hI hA27) (fun s args hts => cwV 0 hts gL_law_X8_asked rfl rfl rfl (by decide +kernel) ⟨Nat.le_of_ble_eq_true rfl, Nat.le_of_ble_eq_true rfl⟩) (lt9 hI (by decide : (0 : Nat) < 99)) (cv_pw G (S26.1 0) (S26.2 0)) rfl rfl rfl rfl (Nat.le_of_ble_eq_true rfl) dL_law_197 ?_
            refine go_istore (ls' := [(13, .int x28), (12, .int x25), (11, .int x21), (10, .int x19), (9, .int x14), (0, .ref (gb G)), (1, .ref (G.2.1 0)), (4, .ref (G.2.1 101)), (5, .ref (G.2.1 102)), (7, .int p7), (8, .int p8)]) O dL_law_200 (by decide) rfl ?_
            refine go_iload O dL_law_202 1 rfl ?_
            refine go_if_lt (tgt := 250) O dL_law_204 (by decide) (fun hc86 => ?_) (fun hc86 => ?_)
            · replace hF := it_t hc86 hF
              refine go_iconst (v := (0 : Int32)) O dL_law_250 (by decide) ?_
              exact ret_q hF (fun hq => hR _ hq _ _ (show vp_nar .boolean (0 : Int32) = (0 : Int32) by decide) dL_law_251)
            · replace hF := it_f hc86 hF
              refine go_iload O dL_law_207 1 rfl ?_
              refine go_iload O dL_law_209 0 rfl ?_
              obtain ⟨x30, hA29, hF⟩ := bd_s hF
              refine go_callSi (As := [.int x28]) (rest := [.int x25]) O (c_L_size l G hI hA29) (fun s args hts => va_cwS 1 hts gL_law_L_size rfl rfl rfl (by decide +kernel) ⟨Nat.le_of_ble_eq_true rfl, Nat.le_of_ble_eq_true rfl⟩) rfl rfl (Nat.le_of_ble_eq_true rfl) dL_law_211 ?_
              refine go_icmp_ne (tgt := 250) O dL_law_214 (by decide) (fun hc85 => ?_) (fun hc85 => ?_)
              · replace hF := it_f hc85 hF
                refine go_iconst (v := (0 : Int32)) O dL_law_250 (by decide) ?_
                exact ret_q hF (fun hq => hR _ hq _ _ (show vp_nar .boolean (0 : Int32) = (0 : Int32) by decide) dL_law_251)
              · replace hF := it_t hc85 hF
                refine go_aload_n O dL_law_217 rfl 6 rfl ?_
                refine go_iload O dL_law_218 10 rfl ?_
                refine go_iload O dL_law_220 0 rfl ?_
                obtain ⟨x32, hA31, hF⟩ := bd_s hF
                refine go_callVi (As := [.int p8, .int x28]) (rest := []) (b := 0) O (c_X8_heard l G hI hA31) (fun s args hts => cwV 2 hts gL_law_X8_heard rfl rfl rfl (by decide +kernel) ⟨Nat.le_of_ble_eq_true rfl, Nat.le_of_ble_eq_true rfl⟩) (lt9 hI (by decide : (0 : Nat) < 99)) (cv_pw G (S26.1 0) (S26.2 0)) rfl rfl rfl rfl (Nat.le_of_ble_eq_true rfl) dL_law_222 ?_
                refine go_if_ne (tgt := 250) O dL_law_225 (by decide) (fun hc84 => ?_) (fun hc84 => ?_)
                · replace hF := it_f hc84 hF
                  refine go_iconst (v := (0 : Int32)) O dL_law_250 (by decide) ?_
                  exact ret_q hF (fun hq => hR _ hq _ _ (show vp_nar .boolean (0 : Int32) = (0 : Int32) by decide) dL_law_251)
                · replace hF := it_t hc84 hF
                  refine go_aload_n O dL_law_228 rfl 6 rfl ?_
                  refine go_aload_n O dL_law_229 rfl 6 rfl ?_
                  refine go_iload O dL_law_230 10 rfl ?_
                  refine go_iconst (v := (0 : Int32)) O dL_law_232 (by decide) ?_
                  obtain ⟨x34, hA33, hF⟩ := bd_s hF
                  refine go_callVi (As := [.int p8, .int (0 : Int32)]) (rest := [.ref (G.2.1 0)]) (b := 0) O (c_X8_heard l G hI hA33) (fun s args hts => cwV 2 hts gL_law_X8_heard rfl rfl rfl (by decide +kernel) ⟨Nat.le_of_ble_eq_true rfl, Nat.le_of_ble_eq_true rfl⟩) (lt9 hI (by decide : (0 : Nat) < 99)) (cv_pw G (S26.1 0) (S26.2 0)) rfl rfl rfl rfl (Nat.le_of_ble_eq_true rfl) dL_law_233 ?_
                  refine go_iconst (v := (1 : Int32)) O dL_law_236 (by decide) ?_
                  refine go_iload O dL_law_237 10 rfl ?_
                  refine go_ishl O dL_law_239 ?_
                  refine go_ior O dL_law_240 ?_
                  obtain ⟨x36, hA35, hF⟩ := bd_s hF
                  refine go_callVi (As := [.int (x34 ||| ((1 : Int32) <<< (p8 &&& 31)))]) (rest := []) (b := 0) O (c_X8_leak l G hI hA35) (fun s args hts => cwV 1 hts gL_law_X8_leak rfl rfl rfl (by decide +kernel) ⟨Nat.le_of_ble_eq_true rfl, Nat.le_of_ble_eq_true rfl⟩) (lt9 hI (by decide : (0 : Nat) < 99)) (cv_pw G (S26.1 0) (S26.2 0)) rfl rfl rfl rfl (Nat.le_of_ble_eq_true rfl) dL_law_241 ?_
                  refine go_iload O dL_law_244 10 rfl ?_
                  refine go_ishr O dL_law_246 ?_
                  refine go_if_ne (tgt := 252) O dL_law_247 (by decide) (fun hc83 => ?_) (fun hc83 => ?_)
                  · replace hF := it_f hc83 hF
                    refine go_iconst (v := (0 : Int32)) O dL_law_252 (by decide) ?_
                    refine go_istore (ls' := [(14, .int (0 : Int32)), (13, .int x28), (12, .int x25), (11, .int x21), (10, .int x19), (9, .int x14), (0, .ref (gb G)), (1, .ref (G.2.1 0)), (4, .ref (G.2.1 101)), (5, .ref (G.2.1 102)), (7, .int p7), (8, .int p8)]) O dL_law_253 (by decide) rfl ?_
                    refine go_perm (ls' := [(0, .ref (gb G)), (1, .ref (G.2.1 0)), (4, .ref (G.2.1 101)), (5, .ref (G.2.1 102)), (7, .int p7), (8, .int p8), (14, .int (0 : Int32))]) [6, 7, 8, 9, 10, 11, 0] rfl ?_
                    obtain ⟨q82, hA81, hF⟩ := bd_s hF
                    refine lt_L_law_255 l G hI hL hxs hT O _ _ _ _ hA81 (fun S37 hq => ?_) ?_
                    · subst hq
                      refine go_iinc (d := (1 : Int32)) (ls' := [(8, .int (p8 + (1 : Int32))), (0, .ref (gb G)), (1, .ref (G.2.1 0)), (4, .ref (G.2.1 101)), (5, .ref (G.2.1 102)), (7, .int p7)]) O dL_law_384 5 rfl (by decide) (by decide) rfl ?_
                      refine go_goto (tgt := 88) O dL_law_387 (by decide) ?_
                      refine go_perm (ls' := [(0, .ref (gb G)), (1, .ref (G.2.1 0)), (4, .ref (G.2.1 101)), (5, .ref (G.2.1 102)), (7, .int p7), (8, .int (p8 + (1 : Int32)))]) [1, 2, 3, 4, 5, 0] rfl ?_
                      exact ih _ _ _ hF hE hR
                    · intro r hq pc ls hz hd
                      subst hq
                      exact ret_q hF (fun hq => hR _ hq _ _ hz hd)
                  · replace hF := it_t hc83 hF
                    refine go_iconst (v := (0 : Int32)) O dL_law_250 (by decide) ?_
                    exact ret_q hF (fun hq => hR _ hq _ _ (show vp_nar .boolean (0 : Int32) = (0 : Int32) by decide) dL_law_251)
          · replace hF := it_t hc87 hF
            refine go_iconst (v := (0 : Int32)) O dL_law_186 (by decide) ?_
            exact ret_q hF (fun hq => hR _ hq _ _ (show vp_nar .boolean (0 : Int32) = (0 : Int32) by decide) dL_law_187)
def T_L_law_478 (Ln : Nat) (xs : Nat → Int32)  (p7 : Int32) (p8 : Int32) (p11 : Int32) : Nat → Int32 → Int32 → Sg → Option ((Int32 × Sg) ⊕ (Int32 × Sg))
  | 0, _, _, _ => none
  | n + 1, p12, p13, S => chk (inB (1 : Int32) 4) (if (S.1 102 (1 : Int32).toNatClampNeg) ≤ p13 then (some (.inl (p12, S))) else (if p11 < 0 then (some (.inl (p12, S))) else (bd (F_X8_at S (1 : Int32) p13) (fun (x116, S117) => if x116 = (1 : Int32) then (bd (F_X8_asked S117) (fun x119 => nm (p12 + x119) (fun x120 => chk (inB p13 6) (bd (α := ((Sg) ⊕ (Int32 × Sg))) (if (21 : Int32) ≤ ((S117.1 101 p13.toNatClampNeg) + x119) then (some (.inl S117)) else (chk (inB p13 6) (bd (F_X8_wall S117 p13 ((S117.1 101 p13.toNatClampNeg) + x119)) (fun (x129, S130) => chk (inB p13 6) (if x129 = (S130.1 101 p13.toNatClampNeg) then (some (.inl S130)) else (some (.inr ((0 : Int32), S130)))))))) (fun q => match q with | .inl S122 => T_L_law_478 Ln xs p7 p8 p11 n x120 (p13 + (1 : Int32)) S122 | .inr r => some (.inr r)))))) else (some (.inr ((0 : Int32), S117)))))))
set_option maxHeartbeats 4000000 in
set_option maxRecDepth 100000 in
theorem lt_L_law_478 {X : XT} (l : Launch) (G : Gp) (hI : Gd G) {Ln : Nat} {xs : Nat → Int32} (hL : gL G = Ln) (hxs : gx G = xs) (hT : 104 ≤ nn G)  {p7 : Int32} {p8 : Int32} {p11 : Int32} (O : Ok X (wC G) cL_law RL lw_tbl 19) : ∀ (n : Nat) (p12 : Int32) (p13 : Int32) (S : Sg) (q : ((Int32 × Sg) ⊕ (Int32 × Sg))), T_L_law_478 Ln xs p7 p8 p11 n p12 p13 S = some q → (∀ (z12 : Int32) (S9 : Sg), q = .inl (z12, S9) → Go X l room_1 (wC G) 19 561 [(0, .ref (gb G)), (1, .ref (G.2.1 0)), (4, .ref (G.2.1 101)), (5, .ref (G.2.1 102)), (7, .int p7), (8, .int p8), (11, .int p11), (12, .int z12)] [] S9) → (∀ (rS : Int32 × Sg), q = .inr rS → ∀ pc ls (hz : vp_nar .boolean rS.1 = rS.1), decode cL_law pc = .ok (.ireturn, 1) → Go X l room_1 (wC G) 19 pc ls [.int rS.1] rS.2) → Go X l room_1 (wC G) 19 478 [(0, .ref (gb G)), (1, .ref (G.2.1 0)), (4, .ref (G.2.1 101)), (5, .ref (G.2.1 102)), (7, .int p7), (8, .int p8), (11, .int p11), (12, .int p12), (13, .int p13)] [] S := by
  intro n
  induction n with
  | zero =>
    intro p12 p13 S q hF
    cases hF
  | succ n ih =>
    intro p12 p13 S q hF hE hR
    rw [T_L_law_478] at hF
    refine go_iload O dL_law_478 8 rfl ?_
    refine go_aload O dL_law_480 3 rfl ?_
    refine go_iconst (v := (1 : Int32)) O dL_law_482 (by decide) ?_
    obtain ⟨hb114, hF⟩ := chk_s hF
    refine go_iald (k := 102) O (lt4 hT (by decide : (102 : Nat) < 104)) (cv_l102 G (S.1 102) (S.2 102)) (inB_in hb114) dL_law_483 ?_
    refine go_icmp_ge (tgt := 561) O dL_law_484 (by decide) (fun hc136 => ?_) (fun hc136 => ?_)
    · replace hF := it_t hc136 hF
      refine go_perm (ls' := [(0, .ref (gb G)), (1, .ref (G.2.1 0)), (4, .ref (G.2.1 101)), (5, .ref (G.2.1 102)), (7, .int p7), (8, .int p8), (11, .int p11), (12, .int p12)]) [0, 1, 2, 3, 4, 5, 6, 7] rfl ?_
      exact ret_q hF (fun hq => hE _ _ hq)
    · replace hF := it_f hc136 hF
      refine go_iload O dL_law_487 6 rfl ?_
      refine go_if_lt (tgt := 561) O dL_law_489 (by decide) (fun hc135 => ?_) (fun hc135 => ?_)
      · replace hF := it_t hc135 hF
        refine go_perm (ls' := [(0, .ref (gb G)), (1, .ref (G.2.1 0)), (4, .ref (G.2.1 101)), (5, .ref (G.2.1 102)), (7, .int p7), (8, .int p8), (11, .int p11), (12, .int p12)]) [0, 1, 2, 3, 4, 5, 6, 7] rfl ?_
        exact ret_q hF (fun hq => hE _ _ hq)
      · replace hF := it_f hc135 hF
        refine go_aload_n O dL_law_492 rfl 1 rfl ?_
        refine go_iconst (v := (1 : Int32)) O dL_law_493 (by decide) ?_
        refine go_iload O dL_law_494 8 rfl ?_
        obtain ⟨⟨x116, S117⟩, hA115, hF⟩ := bd_s hF
        refine go_callVi (As := [.int (1 : Int32), .int p13]) (rest := []) (b := 0) O (c_X8_at l G hI hA115) (fun s args hts => cwV 2 hts gL_law_X8_at rfl rfl rfl (by decide +kernel) ⟨Nat.le_of_ble_eq_true rfl, Nat.le_of_ble_eq_true rfl⟩) (lt9 hI (by decide : (0 : Nat) < 99)) (cv_pw G (S.1 0) (S.2 0)) rfl rfl rfl rfl (Nat.le_of_ble_eq_true rfl) dL_law_496 ?_
        refine go_iconst (v := (1 : Int32)) O dL_law_499 (by decide) ?_
        refine go_icmp_eq (tgt := 505) O dL_law_500 (by decide) (fun hc134 => ?_) (fun hc134 => ?_)
        · replace hF := it_t hc134 hF
          refine go_aload_n O dL_law_505 rfl 1 rfl ?_
          obtain ⟨x119, hA118, hF⟩ := bd_s hF
          refine go_callVi (As := []) (rest := []) (b := 0) O (c_X8_asked l G hI hA118) (fun s args hts => cwV 0 hts gL_law_X8_asked rfl rfl rfl (by decide +kernel) ⟨Nat.le_of_ble_eq_true rfl, Nat.le_of_ble_eq_true rfl⟩) (lt9 hI (by decide : (0 : Nat) < 99)) (cv_pw G (S117.1 0) (S117.2 0)) rfl rfl rfl rfl (Nat.le_of_ble_eq_true rfl) dL_law_506 ?_
          refine go_istore (ls' := [(14, .int x119), (0, .ref (gb G)), (1, .ref (G.2.1 0)), (4, .ref (G.2.1 101)), (5, .ref (G.2.1 102)), (7, .int p7), (8, .int p8), (11, .int p11), (12, .int p12), (13, .int p13)]) O dL_law_509 (by decide) rfl ?_
          refine go_iload O dL_law_511 8 rfl ?_
          refine go_iload O dL_law_513 0 rfl ?_
          refine go_iadd O dL_law_515 ?_
          obtain ⟨x120, ex120, hF⟩ := nm_s hF
          refine go_topi ex120 ?_
          refine go_istore (ls' := [(12, .int x120), (14, .int x119), (0, .ref (gb G)), (1, .ref (G.2.1 0)), (4, .ref (G.2.1 101)), (5, .ref (G.2.1 102)), (7, .int p7), (8, .int p8), (11, .int p11), (13, .int p13)]) O dL_law_516 (by decide) rfl ?_
          refine go_aload O dL_law_518 4 rfl ?_
          refine go_iload O dL_law_520 9 rfl ?_
          obtain ⟨hb121, hF⟩ := chk_s hF
          refine go_iald (k := 101) O (lt4 hT (by decide : (101 : Nat) < 104)) (cv_l101 G (S117.1 101) (S117.2 101)) (inB_in hb121) dL_law_522 ?_
          refine go_iload O dL_law_523 1 rfl ?_
          refine go_iadd O dL_law_525 ?_
          refine go_bipush (v := (21 : Int32)) O dL_law_526 (by decide) ?_
          obtain ⟨q124, hA125, hF⟩ := bd_s hF
          have J123 : ∀ (S122 : Sg), q124 = .inl S122 → Go X l room_1 (wC G) 19 555 [(0, .ref (gb G)), (1, .ref (G.2.1 0)), (4, .ref (G.2.1 101)), (5, .ref (G.2.1 102)), (7, .int p7), (8, .int p8), (11, .int p11), (12, .int x120), (13, .int p13)] [] S122 := by
            intro S122 hq
            subst hq
            refine go_iinc (d := (1 : Int32)) (ls' := [(13, .int (p13 + (1 : Int32))), (0, .ref (gb G)), (1, .ref (G.2.1 0)), (4, .ref (G.2.1 101)), (5, .ref (G.2.1 102)), (7, .int p7), (8, .int p8), (11, .int p11), (12, .int x120)]) O dL_law_555 8 rfl (by decide) (by decide) rfl ?_
            refine go_goto (tgt := 478) O dL_law_558 (by decide) ?_
            refine go_perm (ls' := [(0, .ref (gb G)), (1, .ref (G.2.1 0)), (4, .ref (G.2.1 101)), (5, .ref (G.2.1 102)), (7, .int p7), (8, .int p8), (11, .int p11), (12, .int x120), (13, .int (p13 + (1 : Int32)))]) [1, 2, 3, 4, 5, 6, 7, 8, 0] rfl ?_
            exact ih _ _ _ _ hF hE hR
          have hR126 : ∀ (rS : Int32 × Sg), q124 = .inr rS → ∀ pc ls (hz : vp_nar .boolean rS.1 = rS.1), decode cL_law pc = .ok (.ireturn, 1) → Go X l room_1 (wC G) 19 pc ls [.int rS.1] rS.2 := by
            intro r hq pc ls hz hd
            subst hq
            exact ret_q hF (fun hq => hR _ hq _ _ hz hd)
          replace hF := hA125
          replace hR := hR126
          refine go_icmp_ge (tgt := 555) O dL_law_528 (by decide) (fun hc133 => ?_) (fun hc133 => ?_)
          · replace hF := it_t hc133 hF
            refine go_perm (ls' := [(0, .ref (gb G)), (1, .ref (G.2.1 0)), (4, .ref (G.2.1 101)), (5, .ref (G.2.1 102)), (7, .int p7), (8, .int p8), (11, .int p11), (12, .int x120), (13, .int p13)]) [2, 3, 4, 5, 6, 7, 8, 0, 9] rfl ?_
            exact ret_q hF (fun hq => J123 _ hq)
          · replace hF := it_f hc133 hF
            refine go_aload_n O dL_law_531 rfl 3 rfl ?_
            refine go_iload O dL_law_532 9 rfl ?_
            refine go_aload O dL_law_534 4 rfl ?_
            refine go_iload O dL_law_536 9 rfl ?_
            obtain ⟨hb127, hF⟩ := chk_s hF
            refine go_iald (k := 101) O (lt4 hT (by decide : (101 : Nat) < 104)) (cv_l101 G (S117.1 101) (S117.2 101)) (inB_in hb127) dL_law_538 ?_
            refine go_iload O dL_law_539 1 rfl ?_
            refine go_iadd O dL_law_541 ?_
            obtain ⟨⟨x129, S130⟩, hA128, hF⟩ := bd_s hF
            refine go_callVi (As := [.int p13, .int ((S117.1 101 p13.toNatClampNeg) + x119)]) (rest := []) (b := 0) O (c_X8_wall l G hI hA128) (fun s args hts => cwV 2 hts gL_law_X8_wall rfl rfl rfl (by decide +kernel) ⟨Nat.le_of_ble_eq_true rfl, Nat.le_of_ble_eq_true rfl⟩) (lt9 hI (by decide : (0 : Nat) < 99)) (cv_pw G (S117.1 0) (S117.2 0)) rfl rfl rfl rfl (Nat.le_of_ble_eq_true rfl) dL_law_542 ?_
            refine go_aload O dL_law_545 4 rfl ?_
            refine go_iload O dL_law_547 9 rfl ?_
            obtain ⟨hb131, hF⟩ := chk_s hF
            refine go_iald (k := 101) O (lt4 hT (by decide : (101 : Nat) < 104)) (cv_l101 G (S130.1 101) (S130.2 101)) (inB_in hb131) dL_law_549 ?_
            refine go_icmp_eq (tgt := 555) O dL_law_550 (by decide) (fun hc132 => ?_) (fun hc132 => ?_)
            · replace hF := it_t hc132 hF
              refine go_perm (ls' := [(0, .ref (gb G)), (1, .ref (G.2.1 0)), (4, .ref (G.2.1 101)), (5, .ref (G.2.1 102)), (7, .int p7), (8, .int p8), (11, .int p11), (12, .int x120), (13, .int p13)]) [2, 3, 4, 5, 6, 7, 8, 0, 9] rfl ?_
              exact ret_q hF (fun hq => J123 _ hq)
            · replace hF := it_f hc132 hF
              refine go_iconst (v := (0 : Int32)) O dL_law_553 (by decide) ?_
              exact ret_q hF (fun hq => hR _ hq _ _ (show vp_nar .boolean (0 : Int32) = (0 : Int32) by decide) dL_law_554)
        · replace hF := it_f hc134 hF
          refine go_iconst (v := (0 : Int32)) O dL_law_503 (by decide) ?_
          exact ret_q hF (fun hq => hR _ hq _ _ (show vp_nar .boolean (0 : Int32) = (0 : Int32) by decide) dL_law_504)
def T_L_law_393 (Ln : Nat) (xs : Nat → Int32)  (p7 : Int32) : Nat → Int32 → Sg → Option ((Sg) ⊕ (Int32 × Sg))
  | 0, _, _ => none
  | n + 1, p8, S => chk (inB (2 : Int32) 4) (if (S.1 102 (2 : Int32).toNatClampNeg) ≤ p8 then (some (.inl S)) else (bd (F_X8_cover S p8) (fun (x95, S96) => bd (F_X8_asked S96) (fun x98 => bd (α := ((Sg) ⊕ (Int32 × Sg))) (if x95 < 0 then (some (.inl S96)) else (bd (F_L_size S96 x98) (fun x160 => if x95 = x160 then (bd (F_X8_safe S96 p8 x98) (fun (x162, S163) => if x162 = (1 : Int32) then (some (.inl S163)) else (some (.inr ((0 : Int32), S163))))) else (some (.inr ((0 : Int32), S96)))))) (fun q => match q with | .inl S99 => bd (α := ((Sg) ⊕ (Int32 × Sg))) (if x95 = (-9 : Int32) then (bd (F_X8_safe S99 p8 (0 : Int32)) (fun (x155, S156) => if x155 = (1 : Int32) then (some (.inr ((0 : Int32), S156))) else (some (.inl S156)))) else (some (.inl S99))) (fun q => match q with | .inl S104 => bd (F_X8_paste S104 p8 (1 : Int32)) (fun (x110, S111) => bd (T_L_law_478 Ln xs p7 p8 x110 FU (0 : Int32) (0 : Int32) S111) (fun q => match q with | .inl (x112, S113) => bd (α := ((Sg) ⊕ (Int32 × Sg))) (if x110 < 0 then (some (.inl S113)) else (if x112 = x110 then (bd (F_X8_safe S113 p8 (0 : Int32)) (fun (x148, S149) => if x148 = (1 : Int32) then (some (.inl S149)) else (some (.inr ((0 : Int32), S149))))) else (some (.inr ((0 : Int32), S113))))) (fun q => match q with | .inl S138 => bd (F_X8_on S138 (0 : Int32)) (fun (x144, S145) => if x144 = 0 then (T_L_law_393 Ln xs p7 n (p8 + (1 : Int32)) S145) else (some (.inr ((0 : Int32), S145)))) | .inr r => some (.inr r)) | .inr r => some (.inr r))) | .inr r => some (.inr r)) | .inr r => some (.inr r))))))
set_option maxHeartbeats 4000000 in
set_option maxRecDepth 100000 in
theorem lt_L_law_393 {X : XT} (l : Launch) (G : Gp) (hI : Gd G) {Ln : Nat} {xs : Nat → Int32} (hL : gL G = Ln) (hxs : gx G = xs) (hT : 104 ≤ nn G)  {p7 : Int32} (O : Ok X (wC G) cL_law RL lw_tbl 19) : ∀ (n : Nat) (p8 : Int32) (S : Sg) (q : ((Sg) ⊕ (Int32 × Sg))), T_L_law_393 Ln xs p7 n p8 S = some q → (∀ (S9 : Sg), q = .inl S9 → Go X l room_1 (wC G) 19 600 [(0, .ref (gb G)), (1, .ref (G.2.1 0)), (5, .ref (G.2.1 102)), (7, .int p7)] [] S9) → (∀ (rS : Int32 × Sg), q = .inr rS → ∀ pc ls (hz : vp_nar .boolean rS.1 = rS.1), decode cL_law pc = .ok (.ireturn, 1) → Go X l room_1 (wC G) 19 pc ls [.int rS.1] rS.2) → Go X l room_1 (wC G) 19 393 [(0, .ref (gb G)), (1, .ref (G.2.1 0)), (4, .ref (G.2.1 101)), (5, .ref (G.2.1 102)), (7, .int p7), (8, .int p8)] [] S := by
  intro n
  induction n with
  | zero =>
    intro p8 S q hF
    cases hF
  | succ n ih =>
    intro p8 S q hF hE hR
    rw [T_L_law_393] at hF
    refine go_iload O dL_law_393 5 rfl ?_
    refine go_aload O dL_law_395 3 rfl ?_
    refine go_iconst (v := (2 : Int32)) O dL_law_397 (by decide) ?_
    obtain ⟨hb93, hF⟩ := chk_s hF
    refine go_iald (k := 102) O (lt4 hT (by decide : (102 : Nat) < 104)) (cv_l102 G (S.1 102) (S.2 102)) (inB_in hb93) dL_law_398 ?_
    refine go_icmp_ge (tgt := 600) O dL_law_399 (by decide) (fun hc167 => ?_) (fun hc167 => ?_)
    · replace hF := it_t hc167 hF
      refine go_perm (ls' := [(0, .ref (gb G)), (1, .ref (G.2.1 0)), (5, .ref (G.2.1 102)), (7, .int p7)]) [0, 1, 3, 4] rfl ?_
      exact ret_q hF (fun hq => hE _ hq)
    · replace hF := it_f hc167 hF
      refine go_aload_n O dL_law_402 rfl 1 rfl ?_
      refine go_iload O dL_law_403 5 rfl ?_
      obtain ⟨⟨x95, S96⟩, hA94, hF⟩ := bd_s hF
      refine go_callVi (As := [.int p8]) (rest := []) (b := 0) O (c_X8_cover l G hI hA94) (fun s args hts => cwV 1 hts gL_law_X8_cover rfl rfl rfl (by decide +kernel) ⟨Nat.le_of_ble_eq_true rfl, Nat.le_of_ble_eq_true rfl⟩) (lt9 hI (by decide : (0 : Nat) < 99)) (cv_pw G (S.1 0) (S.2 0)) rfl rfl rfl rfl (Nat.le_of_ble_eq_true rfl) dL_law_405 ?_
      refine go_istore (ls' := [(9, .int x95), (0, .ref (gb G)), (1, .ref (G.2.1 0)), (4, .ref (G.2.1 101)), (5, .ref (G.2.1 102)), (7, .int p7), (8, .int p8)]) O dL_law_408 (by decide) rfl ?_
      refine go_aload_n O dL_law_410 rfl 2 rfl ?_
      obtain ⟨x98, hA97, hF⟩ := bd_s hF
      refine go_callVi (As := []) (rest := []) (b := 0) O (c_X8_asked l G hI hA97) (fun s args hts => cwV 0 hts gL_law_X8_asked rfl rfl rfl (by decide +kernel) ⟨Nat.le_of_ble_eq_true rfl, Nat.le_of_ble_eq_true rfl⟩) (lt9 hI (by decide : (0 : Nat) < 99)) (cv_pw G (S96.1 0) (S96.2 0)) rfl rfl rfl rfl (Nat.le_of_ble_eq_true rfl) dL_law_411 ?_
      refine go_istore (ls' := [(10, .int x98), (9, .int x95), (0, .ref (gb G)), (1, .ref (G.2.1 0)), (4, .ref (G.2.1 101)), (5, .ref (G.2.1 102)), (7, .int p7), (8, .int p8)]) O dL_law_414 (by decide) rfl ?_
      refine go_iload O dL_law_416 1 rfl ?_
      obtain ⟨q101, hA102, hF⟩ := bd_s hF
      have J100 : ∀ (S99 : Sg), q101 = .inl S99 → Go X l room_1 (wC G) 19 443 [(0, .ref (gb G)), (1, .ref (G.2.1 0)), (4, .ref (G.2.1 101)), (5, .ref (G.2.1 102)), (7, .int p7), (8, .int p8), (9, .int x95)] [] S99 := by
        intro S99 hq
        subst hq
        refine go_iload O dL_law_443 6 rfl ?_
        refine go_bipush (v := (-9 : Int32)) O dL_law_445 (by decide) ?_
        obtain ⟨q106, hA107, hF⟩ := bd_s hF
        have J105 : ∀ (S104 : Sg), q106 = .inl S104 → Go X l room_1 (wC G) 19 463 [(0, .ref (gb G)), (1, .ref (G.2.1 0)), (4, .ref (G.2.1 101)), (5, .ref (G.2.1 102)), (7, .int p7), (8, .int p8)] [] S104 := by
          intro S104 hq
          subst hq
          refine go_aload_n O dL_law_463 rfl 1 rfl ?_
          refine go_iload O dL_law_464 5 rfl ?_
          refine go_iconst (v := (1 : Int32)) O dL_law_466 (by decide) ?_
          obtain ⟨⟨x110, S111⟩, hA109, hF⟩ := bd_s hF
          refine go_callVi (As := [.int p8, .int (1 : Int32)]) (rest := []) (b := 0) O (c_X8_paste l G hI hA109) (fun s args hts => cwV 2 hts gL_law_X8_paste rfl rfl rfl (by decide +kernel) ⟨Nat.le_of_ble_eq_true rfl, Nat.le_of_ble_eq_true rfl⟩) (lt9 hI (by decide : (0 : Nat) < 99)) (cv_pw G (S104.1 0) (S104.2 0)) rfl rfl rfl rfl (Nat.le_of_ble_eq_true rfl) dL_law_467 ?_
          refine go_istore (ls' := [(11, .int x110), (0, .ref (gb G)), (1, .ref (G.2.1 0)), (4, .ref (G.2.1 101)), (5, .ref (G.2.1 102)), (7, .int p7), (8, .int p8)]) O dL_law_470 (by decide) rfl ?_
          refine go_iconst (v := (0 : Int32)) O dL_law_472 (by decide) ?_
          refine go_istore (ls' := [(12, .int (0 : Int32)), (11, .int x110), (0, .ref (gb G)), (1, .ref (G.2.1 0)), (4, .ref (G.2.1 101)), (5, .ref (G.2.1 102)), (7, .int p7), (8, .int p8)]) O dL_law_473 (by decide) rfl ?_
          refine go_iconst (v := (0 : Int32)) O dL_law_475 (by decide) ?_
          refine go_istore (ls' := [(13, .int (0 : Int32)), (12, .int (0 : Int32)), (11, .int x110), (0, .ref (gb G)), (1, .ref (G.2.1 0)), (4, .ref (G.2.1 101)), (5, .ref (G.2.1 102)), (7, .int p7), (8, .int p8)]) O dL_law_476 (by decide) rfl ?_
          refine go_perm (ls' := [(0, .ref (gb G)), (1, .ref (G.2.1 0)), (4, .ref (G.2.1 101)), (5, .ref (G.2.1 102)), (7, .int p7), (8, .int p8), (11, .int x110), (12, .int (0 : Int32)), (13, .int (0 : Int32))]) [3, 4, 5, 6, 7, 8, 2, 1, 0] rfl ?_
          obtain ⟨q153, hA137, hF⟩ := bd_s hF
          refine lt_L_law_478 l G hI hL hxs hT O _ _ _ _ _ hA137 (fun x112 S113 hq => ?_) ?_
          · subst hq
            refine go_iload O dL_law_561 6 rfl ?_
            obtain ⟨q140, hA141, hF⟩ := bd_s hF
            have J139 : ∀ (S138 : Sg), q140 = .inl S138 → Go X l room_1 (wC G) 19 584 [(0, .ref (gb G)), (1, .ref (G.2.1 0)), (4, .ref (G.2.1 101)), (5, .ref (G.2.1 102)), (7, .int p7), (8, .int p8)] [] S138 := by
              intro S138 hq
              subst hq
              refine go_aload_n O dL_law_584 rfl 1 rfl ?_
              refine go_iconst (v := (0 : Int32)) O dL_law_585 (by decide) ?_
              obtain ⟨⟨x144, S145⟩, hA143, hF⟩ := bd_s hF
              refine go_callVi (As := [.int (0 : Int32)]) (rest := []) (b := 0) O (c_X8_on l G hI hA143) (fun s args hts => cwV 1 hts gL_law_X8_on rfl rfl rfl (by decide +kernel) ⟨Nat.le_of_ble_eq_true rfl, Nat.le_of_ble_eq_true rfl⟩) (lt9 hI (by decide : (0 : Nat) < 99)) (cv_pw G (S138.1 0) (S138.2 0)) rfl rfl rfl rfl (Nat.le_of_ble_eq_true rfl) dL_law_586 ?_
              refine go_if_eq (tgt := 594) O dL_law_589 (by decide) (fun hc146 => ?_) (fun hc146 => ?_)
              · replace hF := it_t hc146 hF
                refine go_iinc (d := (1 : Int32)) (ls' := [(8, .int (p8 + (1 : Int32))), (0, .ref (gb G)), (1, .ref (G.2.1 0)), (4, .ref (G.2.1 101)), (5, .ref (G.2.1 102)), (7, .int p7)]) O dL_law_594 5 rfl (by decide) (by decide) rfl ?_
                refine go_goto (tgt := 393) O dL_law_597 (by decide) ?_
                refine go_perm (ls' := [(0, .ref (gb G)), (1, .ref (G.2.1 0)), (4, .ref (G.2.1 101)), (5, .ref (G.2.1 102)), (7, .int p7), (8, .int (p8 + (1 : Int32)))]) [1, 2, 3, 4, 5, 0] rfl ?_
                exact ih _ _ _ hF hE hR
              · replace hF := it_f hc146 hF
                refine go_iconst (v := (0 : Int32)) O dL_law_592 (by decide) ?_
                exact ret_q hF (fun hq => hR _ hq _ _ (show vp_nar .boolean (0 : Int32) = (0 : Int32) by decide) dL_law_593)
            have hR142 : ∀ (rS : Int32 × Sg), q140 = .inr rS → ∀ pc ls (hz : vp_nar .boolean rS.1 = rS.1), decode cL_law pc = .ok (.ireturn, 1) → Go X l room_1 (wC G) 19 pc ls [.int rS.1] rS.2 := by
              intro r hq pc ls hz hd
              subst hq
              exact ret_q hF (fun hq => hR _ hq _ _ hz hd)
            replace hF := hA141
            replace hR := hR142
            refine go_if_lt (tgt := 584) O dL_law_563 (by decide) (fun hc152 => ?_) (fun hc152 => ?_)
            · replace hF := it_t hc152 hF
              refine go_perm (ls' := [(0, .ref (gb G)), (1, .ref (G.2.1 0)), (4, .ref (G.2.1 101)), (5, .ref (G.2.1 102)), (7, .int p7), (8, .int p8)]) [0, 1, 2, 3, 4, 5] rfl ?_
              exact ret_q hF (fun hq => J139 _ hq)
            · replace hF := it_f hc152 hF
              refine go_iload O dL_law_566 7 rfl ?_
              refine go_iload O dL_law_568 6 rfl ?_
              refine go_icmp_ne (tgt := 592) O dL_law_570 (by decide) (fun hc151 => ?_) (fun hc151 => ?_)
              · replace hF := it_f hc151 hF
                refine go_iconst (v := (0 : Int32)) O dL_law_592 (by decide) ?_
                exact ret_q hF (fun hq => hR _ hq _ _ (show vp_nar .boolean (0 : Int32) = (0 : Int32) by decide) dL_law_593)
              · replace hF := it_t hc151 hF
                refine go_aload_n O dL_law_573 rfl 1 rfl ?_
                refine go_iload O dL_law_574 5 rfl ?_
                refine go_iconst (v := (0 : Int32)) O dL_law_576 (by decide) ?_
                obtain ⟨⟨x148, S149⟩, hA147, hF⟩ := bd_s hF
                refine go_callVi (As := [.int p8, .int (0 : Int32)]) (rest := []) (b := 0) O (c_X8_safe l G hI hA147) (fun s args hts => cwV 2 hts gL_law_X8_safe rfl rfl rfl (by decide +kernel) ⟨Nat.le_of_ble_eq_true rfl, Nat.le_of_ble_eq_true rfl⟩) (lt9 hI (by decide : (0 : Nat) < 99)) (cv_pw G (S113.1 0) (S113.2 0)) rfl rfl rfl rfl (Nat.le_of_ble_eq_true rfl) dL_law_577 ?_
                refine go_iconst (v := (1 : Int32)) O dL_law_580 (by decide) ?_
                refine go_icmp_ne (tgt := 592) O dL_law_581 (by decide) (fun hc150 => ?_) (fun hc150 => ?_)
                · replace hF := it_f hc150 hF
                  refine go_iconst (v := (0 : Int32)) O dL_law_592 (by decide) ?_
                  exact ret_q hF (fun hq => hR _ hq _ _ (show vp_nar .boolean (0 : Int32) = (0 : Int32) by decide) dL_law_593)
                · replace hF := it_t hc150 hF
                  refine go_perm (ls' := [(0, .ref (gb G)), (1, .ref (G.2.1 0)), (4, .ref (G.2.1 101)), (5, .ref (G.2.1 102)), (7, .int p7), (8, .int p8)]) [0, 1, 2, 3, 4, 5] rfl ?_
                  exact ret_q hF (fun hq => J139 _ hq)
          · intro r hq pc ls hz hd
            subst hq
            exact ret_q hF (fun hq => hR _ hq _ _ hz hd)
        have hR108 : ∀ (rS : Int32 × Sg), q106 = .inr rS → ∀ pc ls (hz : vp_nar .boolean rS.1 = rS.1), decode cL_law pc = .ok (.ireturn, 1) → Go X l room_1 (wC G) 19 pc ls [.int rS.1] rS.2 := by
          intro r hq pc ls hz hd
          subst hq
          exact ret_q hF (fun hq => hR _ hq _ _ hz hd)
        replace hF := hA107
        replace hR := hR108
        refine go_icmp_ne (tgt := 463) O dL_law_447 (by decide) (fun hc158 => ?_) (fun hc158 => ?_)
        · replace hF := it_f hc158 hF
          refine go_perm (ls' := [(0, .ref (gb G)), (1, .ref (G.2.1 0)), (4, .ref (G.2.1 101)), (5, .ref (G.2.1 102)), (7, .int p7), (8, .int p8)]) [0, 1, 2, 3, 4, 5] rfl ?_
          exact ret_q hF (fun hq => J105 _ hq)
        · replace hF := it_t hc158 hF
          refine go_aload_n O dL_law_450 rfl 1 rfl ?_
          refine go_iload O dL_law_451 5 rfl ?_
          refine go_iconst (v := (0 : Int32)) O dL_law_453 (by decide) ?_
          obtain ⟨⟨x155, S156⟩, hA154, hF⟩ := bd_s hF
          refine go_callVi (As := [.int p8, .int (0 : Int32)]) (rest := []) (b := 0) O (c_X8_safe l G hI hA154) (fun s args hts => cwV 2 hts gL_law_X8_safe rfl rfl rfl (by decide +kernel) ⟨Nat.le_of_ble_eq_true rfl, Nat.le_of_ble_eq_true rfl⟩) (lt9 hI (by decide : (0 : Nat) < 99)) (cv_pw G (S99.1 0) (S99.2 0)) rfl rfl rfl rfl (Nat.le_of_ble_eq_true rfl) dL_law_454 ?_
          refine go_iconst (v := (1 : Int32)) O dL_law_457 (by decide) ?_
          refine go_icmp_ne (tgt := 463) O dL_law_458 (by decide) (fun hc157 => ?_) (fun hc157 => ?_)
          · replace hF := it_f hc157 hF
            refine go_perm (ls' := [(0, .ref (gb G)), (1, .ref (G.2.1 0)), (4, .ref (G.2.1 101)), (5, .ref (G.2.1 102)), (7, .int p7), (8, .int p8)]) [0, 1, 2, 3, 4, 5] rfl ?_
            exact ret_q hF (fun hq => J105 _ hq)
          · replace hF := it_t hc157 hF
            refine go_iconst (v := (0 : Int32)) O dL_law_461 (by decide) ?_
            exact ret_q hF (fun hq => hR _ hq _ _ (show vp_nar .boolean (0 : Int32) = (0 : Int32) by decide) dL_law_462)
      have hR103 : ∀ (rS : Int32 × Sg), q101 = .inr rS → ∀ pc ls (hz : vp_nar .boolean rS.1 = rS.1), decode cL_law pc = .ok (.ireturn, 1) → Go X l room_1 (wC G) 19 pc ls [.int rS.1] rS.2 := by
        intro r hq pc ls hz hd
        subst hq
        exact ret_q hF (fun hq => hR _ hq _ _ hz hd)
      replace hF := hA102
      replace hR := hR103
      refine go_if_lt (tgt := 443) O dL_law_418 (by decide) (fun hc166 => ?_) (fun hc166 => ?_)
      · replace hF := it_t hc166 hF
        refine go_perm (ls' := [(0, .ref (gb G)), (1, .ref (G.2.1 0)), (4, .ref (G.2.1 101)), (5, .ref (G.2.1 102)), (7, .int p7), (8, .int p8), (9, .int x95)]) [2, 3, 4, 5, 6, 7, 1] rfl ?_
        exact ret_q hF (fun hq => J100 _ hq)
      · replace hF := it_f hc166 hF
        refine go_iload O dL_law_421 1 rfl ?_
        refine go_iload O dL_law_423 0 rfl ?_
        obtain ⟨x160, hA159, hF⟩ := bd_s hF
        refine go_callSi (As := [.int x98]) (rest := [.int x95]) O (c_L_size l G hI hA159) (fun s args hts => va_cwS 1 hts gL_law_L_size rfl rfl rfl (by decide +kernel) ⟨Nat.le_of_ble_eq_true rfl, Nat.le_of_ble_eq_true rfl⟩) rfl rfl (Nat.le_of_ble_eq_true rfl) dL_law_425 ?_
        refine go_icmp_ne (tgt := 461) O dL_law_428 (by decide) (fun hc165 => ?_) (fun hc165 => ?_)
        · replace hF := it_f hc165 hF
          refine go_iconst (v := (0 : Int32)) O dL_law_461 (by decide) ?_
          exact ret_q hF (fun hq => hR _ hq _ _ (show vp_nar .boolean (0 : Int32) = (0 : Int32) by decide) dL_law_462)
        · replace hF := it_t hc165 hF
          refine go_aload_n O dL_law_431 rfl 3 rfl ?_
          refine go_iload O dL_law_432 7 rfl ?_
          refine go_iload O dL_law_434 0 rfl ?_
          obtain ⟨⟨x162, S163⟩, hA161, hF⟩ := bd_s hF
          refine go_callVi (As := [.int p8, .int x98]) (rest := []) (b := 0) O (c_X8_safe l G hI hA161) (fun s args hts => cwV 2 hts gL_law_X8_safe rfl rfl rfl (by decide +kernel) ⟨Nat.le_of_ble_eq_true rfl, Nat.le_of_ble_eq_true rfl⟩) (lt9 hI (by decide : (0 : Nat) < 99)) (cv_pw G (S96.1 0) (S96.2 0)) rfl rfl rfl rfl (Nat.le_of_ble_eq_true rfl) dL_law_436 ?_
          refine go_iconst (v := (1 : Int32)) O dL_law_439 (by decide) ?_
          refine go_icmp_ne (tgt := 461) O dL_law_440 (by decide) (fun hc164 => ?_) (fun hc164 => ?_)
          · replace hF := it_f hc164 hF
            refine go_iconst (v := (0 : Int32)) O dL_law_461 (by decide) ?_
            exact ret_q hF (fun hq => hR _ hq _ _ (show vp_nar .boolean (0 : Int32) = (0 : Int32) by decide) dL_law_462)
          · replace hF := it_t hc164 hF
            refine go_perm (ls' := [(0, .ref (gb G)), (1, .ref (G.2.1 0)), (4, .ref (G.2.1 101)), (5, .ref (G.2.1 102)), (7, .int p7), (8, .int p8), (9, .int x95)]) [2, 3, 4, 5, 6, 7, 1] rfl ?_
            exact ret_q hF (fun hq => J100 _ hq)
def T_L_law_765 (Ln : Nat) (xs : Nat → Int32) (S : Sg) (p7 : Int32) (p12 : Int32) (p13 : Int32) (p14 : Int32) (p15 : Int32) : Nat → Int32 → Int32 → Option ((Unit) ⊕ (Int32 × Sg))
  | 0, _, _ => none
  | n + 1, p16, p17 => if (8 : Int32) ≤ p17 then (some (.inl ())) else (bd (F_X8_spread S p13 p17) (fun x210 => if (p16 &&& (x210 ^^^ (-1 : Int32))) = 0 then (T_L_law_765 Ln xs S p7 p12 p13 p14 p15 n x210 (p17 + (1 : Int32))) else (some (.inr ((0 : Int32), S)))))
set_option maxHeartbeats 4000000 in
set_option maxRecDepth 100000 in
theorem lt_L_law_765 {X : XT} (l : Launch) (G : Gp) (hI : Gd G) {Ln : Nat} {xs : Nat → Int32} (hL : gL G = Ln) (hxs : gx G = xs) (hT : 104 ≤ nn G) {S : Sg} {p7 : Int32} {p12 : Int32} {p13 : Int32} {p14 : Int32} {p15 : Int32} (O : Ok X (wC G) cL_law RL lw_tbl 19) : ∀ (n : Nat) (p16 : Int32) (p17 : Int32)  (q : ((Unit) ⊕ (Int32 × Sg))), T_L_law_765 Ln xs S p7 p12 p13 p14 p15 n p16 p17  = some q → (q = .inl () → Go X l room_1 (wC G) 19 804 [(1, .ref (G.2.1 0)), (7, .int p7), (12, .int p12), (13, .int p13), (14, .int p14), (15, .int p15)] [] S) → (∀ (rS : Int32 × Sg), q = .inr rS → ∀ pc ls (hz : vp_nar .boolean rS.1 = rS.1), decode cL_law pc = .ok (.ireturn, 1) → Go X l room_1 (wC G) 19 pc ls [.int rS.1] rS.2) → Go X l room_1 (wC G) 19 765 [(1, .ref (G.2.1 0)), (7, .int p7), (12, .int p12), (13, .int p13), (14, .int p14), (15, .int p15), (16, .int p16), (17, .int p17)] [] S := by
  intro n
  induction n with
  | zero =>
    intro p16 p17  q hF
    cases hF
  | succ n ih =>
    intro p16 p17  q hF hE hR
    rw [T_L_law_765] at hF
    refine go_iload O dL_law_765 7 rfl ?_
    refine go_bipush (v := (8 : Int32)) O dL_law_767 (by decide) ?_
    refine go_icmp_ge (tgt := 804) O dL_law_769 (by decide) (fun hc212 => ?_) (fun hc212 => ?_)
    · replace hF := it_t hc212 hF
      refine go_perm (ls' := [(1, .ref (G.2.1 0)), (7, .int p7), (12, .int p12), (13, .int p13), (14, .int p14), (15, .int p15)]) [0, 1, 2, 3, 4, 5] rfl ?_
      exact ret_q hF (fun hq => hE  hq)
    · replace hF := it_f hc212 hF
      refine go_aload_n O dL_law_772 rfl 0 rfl ?_
      refine go_iload O dL_law_773 3 rfl ?_
      refine go_iload O dL_law_775 7 rfl ?_
      obtain ⟨x210, hA209, hF⟩ := bd_s hF
      refine go_callVi (As := [.int p13, .int p17]) (rest := []) (b := 0) O (c_X8_spread l G hI hA209) (fun s args hts => cwV 2 hts gL_law_X8_spread rfl rfl rfl (by decide +kernel) ⟨Nat.le_of_ble_eq_true rfl, Nat.le_of_ble_eq_true rfl⟩) (lt9 hI (by decide : (0 : Nat) < 99)) (cv_pw G (S.1 0) (S.2 0)) rfl rfl rfl rfl (Nat.le_of_ble_eq_true rfl) dL_law_777 ?_
      refine go_istore (ls' := [(18, .int x210), (1, .ref (G.2.1 0)), (7, .int p7), (12, .int p12), (13, .int p13), (14, .int p14), (15, .int p15), (16, .int p16), (17, .int p17)]) O dL_law_780 (by decide) rfl ?_
      refine go_iload O dL_law_782 7 rfl ?_
      refine go_iload O dL_law_784 0 rfl ?_
      refine go_iconst (v := (-1 : Int32)) O dL_law_786 (by decide) ?_
      refine go_ixor O dL_law_787 ?_
      refine go_iand O dL_law_788 ?_
      refine go_if_eq (tgt := 794) O dL_law_789 (by decide) (fun hc211 => ?_) (fun hc211 => ?_)
      · replace hF := it_t hc211 hF
        refine go_iload O dL_law_794 0 rfl ?_
        refine go_istore (ls' := [(16, .int x210), (18, .int x210), (1, .ref (G.2.1 0)), (7, .int p7), (12, .int p12), (13, .int p13), (14, .int p14), (15, .int p15), (17, .int p17)]) O dL_law_796 (by decide) rfl ?_
        refine go_iinc (d := (1 : Int32)) (ls' := [(17, .int (p17 + (1 : Int32))), (16, .int x210), (18, .int x210), (1, .ref (G.2.1 0)), (7, .int p7), (12, .int p12), (13, .int p13), (14, .int p14), (15, .int p15)]) O dL_law_798 8 rfl (by decide) (by decide) rfl ?_
        refine go_goto (tgt := 765) O dL_law_801 (by decide) ?_
        refine go_perm (ls' := [(1, .ref (G.2.1 0)), (7, .int p7), (12, .int p12), (13, .int p13), (14, .int p14), (15, .int p15), (16, .int x210), (17, .int (p17 + (1 : Int32)))]) [3, 4, 5, 6, 7, 8, 1, 0] rfl ?_
        exact ih _ _ _ hF hE hR
      · replace hF := it_f hc211 hF
        refine go_iconst (v := (0 : Int32)) O dL_law_792 (by decide) ?_
        exact ret_q hF (fun hq => hR _ hq _ _ (show vp_nar .boolean (0 : Int32) = (0 : Int32) by decide) dL_law_793)
def T_L_law_874 (Ln : Nat) (xs : Nat → Int32) (S : Sg) (p7 : Int32) (p12 : Int32) (p13 : Int32) (p14 : Int32) : Nat → Int32 → Option ((Unit) ⊕ (Int32 × Sg))
  | 0, _ => none
  | n + 1, p18 => if p7 ≤ p18 then (some (.inl ())) else (bd (α := ((Unit) ⊕ (Int32 × Sg))) (if p18 = p12 then (some (.inl ())) else (bd (F_X8_knowsThat S p12 p18 p13) (fun x228 => if x228 = ((p14 >>> (p18 &&& 31)) &&& (1 : Int32)) then (some (.inl ())) else (some (.inr ((0 : Int32), S)))))) (fun q => match q with | .inl () => T_L_law_874 Ln xs S p7 p12 p13 p14 n (p18 + (1 : Int32)) | .inr r => some (.inr r)))
set_option maxHeartbeats 4000000 in
set_option maxRecDepth 100000 in
theorem lt_L_law_874 {X : XT} (l : Launch) (G : Gp) (hI : Gd G) {Ln : Nat} {xs : Nat → Int32} (hL : gL G = Ln) (hxs : gx G = xs) (hT : 104 ≤ nn G) {S : Sg} {p7 : Int32} {p12 : Int32} {p13 : Int32} {p14 : Int32} (O : Ok X (wC G) cL_law RL lw_tbl 19) : ∀ (n : Nat) (p18 : Int32)  (q : ((Unit) ⊕ (Int32 × Sg))), T_L_law_874 Ln xs S p7 p12 p13 p14 n p18  = some q → (q = .inl () → Go X l room_1 (wC G) 19 916 [(1, .ref (G.2.1 0)), (12, .int p12), (13, .int p13)] [] S) → (∀ (rS : Int32 × Sg), q = .inr rS → ∀ pc ls (hz : vp_nar .boolean rS.1 = rS.1), decode cL_law pc = .ok (.ireturn, 1) → Go X l room_1 (wC G) 19 pc ls [.int rS.1] rS.2) → Go X l room_1 (wC G) 19 874 [(1, .ref (G.2.1 0)), (7, .int p7), (12, .int p12), (13, .int p13), (14, .int p14), (18, .int p18)] [] S := by
  intro n
  induction n with
  | zero =>
    intro p18  q hF
    cases hF
  | succ n ih =>
    intro p18  q hF hE hR
    rw [T_L_law_874] at hF
    refine go_iload O dL_law_874 5 rfl ?_
    refine go_iload O dL_law_876 1 rfl ?_
    refine go_icmp_ge (tgt := 916) O dL_law_878 (by decide) (fun hc231 => ?_) (fun hc231 => ?_)
    · replace hF := it_t hc231 hF
      refine go_perm (ls' := [(1, .ref (G.2.1 0)), (12, .int p12), (13, .int p13)]) [0, 2, 3] rfl ?_
      exact ret_q hF (fun hq => hE  hq)
    · replace hF := it_f hc231 hF
      refine go_iload O dL_law_881 5 rfl ?_
      refine go_iload O dL_law_883 2 rfl ?_
      obtain ⟨q224, hA225, hF⟩ := bd_s hF
      have J223 : q224 = .inl () → Go X l room_1 (wC G) 19 910 [(1, .ref (G.2.1 0)), (7, .int p7), (12, .int p12), (13, .int p13), (14, .int p14), (18, .int p18)] [] S := by
        intro  hq
        subst hq
        refine go_iinc (d := (1 : Int32)) (ls' := [(18, .int (p18 + (1 : Int32))), (1, .ref (G.2.1 0)), (7, .int p7), (12, .int p12), (13, .int p13), (14, .int p14)]) O dL_law_910 5 rfl (by decide) (by decide) rfl ?_
        refine go_goto (tgt := 874) O dL_law_913 (by decide) ?_
        refine go_perm (ls' := [(1, .ref (G.2.1 0)), (7, .int p7), (12, .int p12), (13, .int p13), (14, .int p14), (18, .int (p18 + (1 : Int32)))]) [1, 2, 3, 4, 5, 0] rfl ?_
        exact ih _ _ hF hE hR
      have hR226 : ∀ (rS : Int32 × Sg), q224 = .inr rS → ∀ pc ls (hz : vp_nar .boolean rS.1 = rS.1), decode cL_law pc = .ok (.ireturn, 1) → Go X l room_1 (wC G) 19 pc ls [.int rS.1] rS.2 := by
        intro r hq pc ls hz hd
        subst hq
        exact ret_q hF (fun hq => hR _ hq _ _ hz hd)
      replace hF := hA225
      replace hR := hR226
      refine go_icmp_eq (tgt := 910) O dL_law_885 (by decide) (fun hc230 => ?_) (fun hc230 => ?_)
      · replace hF := it_t hc230 hF
        exact ret_q hF (fun hq => J223  hq)
      · replace hF := it_f hc230 hF
        refine go_aload_n O dL_law_888 rfl 0 rfl ?_
        refine go_iload O dL_law_889 2 rfl ?_
        refine go_iload O dL_law_891 5 rfl ?_
        refine go_iload O dL_law_893 3 rfl ?_
        obtain ⟨x228, hA227, hF⟩ := bd_s hF
        refine go_callVi (As := [.int p12, .int p18, .int p13]) (rest := []) (b := 0) O (c_X8_knowsThat l G hI hA227) (fun s args hts => cwV 3 hts gL_law_X8_knowsThat rfl rfl rfl (by decide +kernel) ⟨Nat.le_of_ble_eq_true rfl, Nat.le_of_ble_eq_true rfl⟩) (lt9 hI (by decide : (0 : Nat) < 99)) (cv_pw G (S.1 0) (S.2 0)) rfl rfl rfl rfl (Nat.le_of_ble_eq_true rfl) dL_law_895 ?_
        refine go_iload O dL_law_898 4 rfl ?_
        refine go_iload O dL_law_900 5 rfl ?_
        refine go_ishr O dL_law_902 ?_
        refine go_iconst (v := (1 : Int32)) O dL_law_903 (by decide) ?_
        refine go_iand O dL_law_904 ?_
        refine go_icmp_eq (tgt := 910) O dL_law_905 (by decide) (fun hc229 => ?_) (fun hc229 => ?_)
        · replace hF := it_t hc229 hF
          exact ret_q hF (fun hq => J223  hq)
        · replace hF := it_f hc229 hF
          refine go_iconst (v := (0 : Int32)) O dL_law_908 (by decide) ?_
          exact ret_q hF (fun hq => hR _ hq _ _ (show vp_nar .boolean (0 : Int32) = (0 : Int32) by decide) dL_law_909)
def F_L_law (Ln : Nat) (xs : Nat → Int32) (S : Sg) (a0 : Int32) : Option (Int32 × Sg) := if a0 = 0 then (some ((0 : Int32), S)) else (bd (F_L_talks Ln xs S (10 : Int32) (6 : Int32)) (fun (x2, S3) => if x2 = 0 then (some ((0 : Int32), S3)) else (bd (F_X8_keep S3 (0 : Int32)) (fun (x5, S6) => if x5 = 0 then (chk (inB (0 : Int32) 4) (nm (S6.1 102 (0 : Int32).toNatClampNeg) (fun x8 => bd (T_L_law_88 Ln xs x8 FU (0 : Int32) S6) (fun q => match q with | .inl S9 => bd (T_L_law_393 Ln xs x8 FU (0 : Int32) S9) (fun q => match q with | .inl S92 => bd (F_X8_most S92) (fun (x170, S171) => bd (F_X8_asked S171) (fun x173 => bd (F_X8_turns S171) (fun (x175, S176) => bd (F_X8_beside S176 x173) (fun x178 => if x178 = (1 : Int32) then (bd (F_L_size S176 x173) (fun x180 => if x180 = x170 then (bd (α := ((Unit) ⊕ (Int32 × Sg))) (if x170 ≤ 0 then (some (.inl ())) else (if x175 ≤ 0 then (some (.inl ())) else (chk (inB (2 : Int32) 4) (if (x175 * x170) < (S176.1 102 (2 : Int32).toNatClampNeg) then (some (.inr ((0 : Int32), S176))) else (some (.inl ())))))) (fun q => match q with | .inl () => chk (inB (2 : Int32) 4) (bd (α := ((Unit) ⊕ (Int32 × Sg))) (if (S176.1 102 (2 : Int32).toNatClampNeg) ≤ 0 then (some (.inl ())) else (if x175 = 0 then (some (.inr ((0 : Int32), S176))) else (some (.inl ())))) (fun q => match q with | .inl () => bd (F_L_cell Ln xs S176 (40 : Int32)) (fun x191 => bd (F_L_some S176 x191 x8) (fun x193 => bd (F_L_some S176 (x191 >>> ((3 : Int32) &&& 31)) (8 : Int32)) (fun x195 => bd (F_X8_know S176 x195) (fun x197 => if x197 = 0 then (bd (F_X8_tell S176 x193 x195) (fun (x199, S200) => if x199 = (-4 : Int32) then (bd (F_X8_comes S200 x193 x195) (fun (x202, S203) => if x202 = (1 : Int32) then (bd (F_X8_heard S203 x193 (0 : Int32)) (fun x205 => bd (F_X8_spread S203 x195 (1 : Int32)) (fun x207 => nm ((1 : Int32) <<< (x193 &&& 31)) (fun x208 => bd (T_L_law_765 Ln xs S203 x8 x193 x195 x205 x207 FU x208 (0 : Int32)) (fun q => match q with | .inl () => bd (F_X8_tell S203 x193 x195) (fun (x215, S216) => if x215 = (x205 ||| ((1 : Int32) <<< (x193 &&& 31))) then (if x207 = x215 then (bd (F_X8_leak S216 x215) (fun x218 => if (x218 >>> (x193 &&& 31)) = 0 then (some ((0 : Int32), S216)) else (bd (F_X8_leak S216 x215) (fun x220 => if ((x220 >>> (x193 &&& 31)) &&& (1 : Int32)) = 0 then (some ((0 : Int32), S216)) else (bd (F_X8_leaks S216 x215) (fun x222 => if (1 : Int32) ≤ x222 then (bd (T_L_law_874 Ln xs S216 x8 x193 x195 x205 FU (0 : Int32)) (fun q => match q with | .inl () => bd (F_X8_undo S216 (0 : Int32)) (fun (x234, S235) => if x234 = (1 : Int32) then (bd (F_X8_know S235 x195) (fun x237 => if x237 = ((1 : Int32) <<< (x193 &&& 31)) then (bd (F_X8_on S235 (0 : Int32)) (fun (x239, S240) => if x239 = 0 then (bd (F_X8_know S240 x195) (fun x242 => if x242 = 0 then (bd (F_X8_upper S240) (fun x244 => if (lg_cmp x244 (0 : Int64)) < 0 then (some ((0 : Int32), S240)) else (bd (F_X8_upper S240) (fun x246 => bd (F_X8_lower S240) (fun x248 => if 0 < (lg_cmp x246 x248) then (some ((0 : Int32), S240)) else (some ((1 : Int32), S240))))))) else (some ((0 : Int32), S240)))) else (some ((0 : Int32), S240)))) else (some ((0 : Int32), S235)))) else (some ((0 : Int32), S235))) | .inr r => some r)) else (some ((0 : Int32), S216)))))))) else (some ((0 : Int32), S216))) else (some ((0 : Int32), S216))) | .inr r => some r))))) else (some ((0 : Int32), S203)))) else (some ((0 : Int32), S200)))) else (some ((0 : Int32), S176)))))) | .inr r => some r)) | .inr r => some r)) else (some ((0 : Int32), S176)))) else (some ((0 : Int32), S176)))))) | .inr r => some r) | .inr r => some r)))) else (some ((0 : Int32), S6))))))
set_option maxHeartbeats 40000000 in
set_option maxRecDepth 100000 in
theorem c_L_law {X : XT} (l : Launch) (G : Gp) (hI : Gd G) {Ln : Nat} {xs : Nat → Int32} (hL : gL G = Ln) (hxs : gx G = xs) (hT : 104 ≤ nn G) {S : Sg} {a0 r : Int32} {S1 : Sg} (hF : F_L_law Ln xs S a0 = some (r, S1)) (O : Ok X (wC G) cL_law RL lw_tbl 19) (hR : ∀ pc ls (hz : vp_nar .boolean r = r), decode cL_law pc = .ok (.ireturn, 1) → Go X l room_1 (wC G) 19 pc ls [.int r] S1) : Go X l room_1 (wC G) 19 50 [(0, .ref (gb G)), (1, .ref (G.2.1 0)), (2, .ref (G.2.1 99)), (3, .ref (G.2.1 100)), (4, .ref (G.2.1 101)), (5, .ref (G.2.1 102)), (6, .ref (G.2.1 103))] [.int a0] S := by
  rw [F_L_law] at hF
  refine go_if_eq (tgt := 77) O dL_law_50 (by decide) (fun hc277 => ?_) (fun hc277 => ?_)
  · replace hF := it_t hc277 hF
    refine go_iconst (v := (0 : Int32)) O dL_law_77 (by decide) ?_
    exact ret_wz hF (fun hz => hR _ _ hz dL_law_78) (show vp_nar .boolean (0 : Int32) = (0 : Int32) by decide)
  · replace hF := it_f hc277 hF
    refine go_aload_n O dL_law_53 rfl 1 rfl ?_
    refine go_aload_n O dL_law_54 rfl 0 rfl ?_
    refine go_bipush (v := (10 : Int32)) O dL_law_55 (by decide) ?_
    refine go_aload O dL_law_57 5 rfl ?_
    refine go_aload O dL_law_59 6 rfl ?_
    refine go_bipush (v := (6 : Int32)) O dL_law_61 (by decide) ?_
    obtain ⟨⟨x2, S3⟩, hA1, hF⟩ := bd_s hF
    refine go_callSi (As := [.ref (G.2.1 0), .ref (gb G), .int (10 : Int32), .ref (G.2.1 102), .ref (G.2.1 103), .int (6 : Int32)]) (rest := []) O (c_L_talks l G hI hL hxs hT hA1) (fun s args hts => va_cwS 6 hts gL_law_L_talks rfl rfl rfl (by decide +kernel) ⟨Nat.le_of_ble_eq_true rfl, Nat.le_of_ble_eq_true rfl⟩) rfl rfl (Nat.le_of_ble_eq_true rfl) dL_law_63 ?_
    refine go_if_eq (tgt := 77) O dL_law_66 (by decide) (fun hc276 => ?_) (fun hc276 => ?_)
    · replace hF := it_t hc276 hF
      refine go_iconst (v := (0 : Int32)) O dL_law_77 (by decide) ?_
      exact ret_wz hF (fun hz => hR _ _ hz dL_law_78) (show vp_nar .boolean (0 : Int32) = (0 : Int32) by decide)
    · replace hF := it_f hc276 hF
      refine go_aload_n O dL_law_69 rfl 1 rfl ?_
      refine go_iconst (v := (0 : Int32)) O dL_law_70 (by decide) ?_
      obtain ⟨⟨x5, S6⟩, hA4, hF⟩ := bd_s hF
      refine go_callVi (As := [.int (0 : Int32)]) (rest := []) (b := 0) O (c_X8_keep l G hI hA4) (fun s args hts => cwV 1 hts gL_law_X8_keep rfl rfl rfl (by decide +kernel) ⟨Nat.le_of_ble_eq_true rfl, Nat.le_of_ble_eq_true rfl⟩) (lt9 hI (by decide : (0 : Nat) < 99)) (cv_pw G (S3.1 0) (S3.2 0)) rfl rfl rfl rfl (Nat.le_of_ble_eq_true rfl) dL_law_71 ?_
      refine go_if_eq (tgt := 79) O dL_law_74 (by decide) (fun hc275 => ?_) (fun hc275 => ?_)
      · replace hF := it_t hc275 hF
        refine go_aload O dL_law_79 5 rfl ?_
        refine go_iconst (v := (0 : Int32)) O dL_law_81 (by decide) ?_
        obtain ⟨hb7, hF⟩ := chk_s hF
        refine go_iald (k := 102) O (lt4 hT (by decide : (102 : Nat) < 104)) (cv_l102 G (S6.1 102) (S6.2 102)) (inB_in hb7) dL_law_82 ?_
        obtain ⟨x8, ex8, hF⟩ := nm_s hF
        refine go_topi ex8 ?_
        refine go_istore (ls' := [(7, .int x8), (0, .ref (gb G)), (1, .ref (G.2.1 0)), (2, .ref (G.2.1 99)), (3, .ref (G.2.1 100)), (4, .ref (G.2.1 101)), (5, .ref (G.2.1 102)), (6, .ref (G.2.1 103))]) O dL_law_83 (by decide) rfl ?_
        refine go_iconst (v := (0 : Int32)) O dL_law_85 (by decide) ?_
        refine go_istore (ls' := [(8, .int (0 : Int32)), (7, .int x8), (0, .ref (gb G)), (1, .ref (G.2.1 0)), (2, .ref (G.2.1 99)), (3, .ref (G.2.1 100)), (4, .ref (G.2.1 101)), (5, .ref (G.2.1 102)), (6, .ref (G.2.1 103))]) O dL_law_86 (by decide) rfl ?_
        refine go_perm (ls' := [(0, .ref (gb G)), (1, .ref (G.2.1 0)), (4, .ref (G.2.1 101)), (5, .ref (G.2.1 102)), (7, .int x8), (8, .int (0 : Int32))]) [2, 3, 6, 7, 1, 0] rfl ?_
        obtain ⟨q274, hA91, hF⟩ := bd_s hF
        refine lt_L_law_88 l G hI hL hxs hT O _ _ _ _ hA91 (fun S9 hq => ?_) ?_
        · subst hq
          refine go_iconst (v := (0 : Int32)) O dL_law_390 (by decide) ?_
          refine go_istore (ls' := [(8, .int (0 : Int32)), (0, .ref (gb G)), (1, .ref (G.2.1 0)), (4, .ref (G.2.1 101)), (5, .ref (G.2.1 102)), (7, .int x8)]) O dL_law_391 (by decide) rfl ?_
          refine go_perm (ls' := [(0, .ref (gb G)), (1, .ref (G.2.1 0)), (4, .ref (G.2.1 101)), (5, .ref (G.2.1 102)), (7, .int x8), (8, .int (0 : Int32))]) [1, 2, 3, 4, 5, 0] rfl ?_
          obtain ⟨q273, hA168, hF⟩ := bd_s hF
          refine lt_L_law_393 l G hI hL hxs hT O _ _ _ _ hA168 (fun S92 hq => ?_) ?_
          · subst hq
            refine go_aload_n O dL_law_600 rfl 1 rfl ?_
            obtain ⟨⟨x170, S171⟩, hA169, hF⟩ := bd_s hF
            refine go_callVi (As := []) (rest := []) (b := 0) O (c_X8_most l G hI hA169) (fun s args hts => cwV 0 hts gL_law_X8_most rfl rfl rfl (by decide +kernel) ⟨Nat.le_of_ble_eq_true rfl, Nat.le_of_ble_eq_true rfl⟩) (lt9 hI (by decide : (0 : Nat) < 99)) (cv_pw G (S92.1 0) (S92.2 0)) rfl rfl rfl rfl (Nat.le_of_ble_eq_true rfl) dL_law_601 ?_
            refine go_istore (ls' := [(8, .int x170), (0, .ref (gb G)), (1, .ref (G.2.1 0)), (5, .ref (G.2.1 102)), (7, .int x8)]) O dL_law_604 (by decide) rfl ?_
            refine go_aload_n O dL_law_606 rfl 2 rfl ?_
            obtain ⟨x173, hA172, hF⟩ := bd_s hF
            refine go_callVi (As := []) (rest := []) (b := 0) O (c_X8_asked l G hI hA172) (fun s args hts => cwV 0 hts gL_law_X8_asked rfl rfl rfl (by decide +kernel) ⟨Nat.le_of_ble_eq_true rfl, Nat.le_of_ble_eq_true rfl⟩) (lt9 hI (by decide : (0 : Nat) < 99)) (cv_pw G (S171.1 0) (S171.2 0)) rfl rfl rfl rfl (Nat.le_of_ble_eq_true rfl) dL_law_607 ?_
            refine go_istore (ls' := [(9, .int x173), (8, .int x170), (0, .ref (gb G)), (1, .ref (G.2.1 0)), (5, .ref (G.2.1 102)), (7, .int x8)]) O dL_law_610 (by decide) rfl ?_
            refine go_aload_n O dL_law_612 rfl 3 rfl ?_
            obtain ⟨⟨x175, S176⟩, hA174, hF⟩ := bd_s hF
            refine go_callVi (As := []) (rest := []) (b := 0) O (c_X8_turns l G hI hA174) (fun s args hts => cwV 0 hts gL_law_X8_turns rfl rfl rfl (by decide +kernel) ⟨Nat.le_of_ble_eq_true rfl, Nat.le_of_ble_eq_true rfl⟩) (lt9 hI (by decide : (0 : Nat) < 99)) (cv_pw G (S171.1 0) (S171.2 0)) rfl rfl rfl rfl (Nat.le_of_ble_eq_true rfl) dL_law_613 ?_
            refine go_istore (ls' := [(10, .int x175), (9, .int x173), (8, .int x170), (0, .ref (gb G)), (1, .ref (G.2.1 0)), (5, .ref (G.2.1 102)), (7, .int x8)]) O dL_law_616 (by decide) rfl ?_
            refine go_aload_n O dL_law_618 rfl 4 rfl ?_
            refine go_iload O dL_law_619 1 rfl ?_
            obtain ⟨x178, hA177, hF⟩ := bd_s hF
            refine go_callVi (As := [.int x173]) (rest := []) (b := 0) O (c_X8_beside l G hI hA177) (fun s args hts => cwV 1 hts gL_law_X8_beside rfl rfl rfl (by decide +kernel) ⟨Nat.le_of_ble_eq_true rfl, Nat.le_of_ble_eq_true rfl⟩) (lt9 hI (by decide : (0 : Nat) < 99)) (cv_pw G (S176.1 0) (S176.2 0)) rfl rfl rfl rfl (Nat.le_of_ble_eq_true rfl) dL_law_621 ?_
            refine go_iconst (v := (1 : Int32)) O dL_law_624 (by decide) ?_
            refine go_icmp_ne (tgt := 672) O dL_law_625 (by decide) (fun hc272 => ?_) (fun hc272 => ?_)
            · replace hF := it_f hc272 hF
              refine go_iconst (v := (0 : Int32)) O dL_law_672 (by decide) ?_
              exact ret_wz hF (fun hz => hR _ _ hz dL_law_673) (show vp_nar .boolean (0 : Int32) = (0 : Int32) by decide)
            · replace hF := it_t hc272 hF
              refine go_iload O dL_law_628 1 rfl ?_
              obtain ⟨x180, hA179, hF⟩ := bd_s hF
              refine go_callSi (As := [.int x173]) (rest := []) O (c_L_size l G hI hA179) (fun s args hts => va_cwS 1 hts gL_law_L_size rfl rfl rfl (by decide +kernel) ⟨Nat.le_of_ble_eq_true rfl, Nat.le_of_ble_eq_true rfl⟩) rfl rfl (Nat.le_of_ble_eq_true rfl) dL_law_630 ?_
              refine go_iload O dL_law_633 2 rfl ?_
              refine go_icmp_ne (tgt := 672) O dL_law_635 (by decide) (fun hc271 => ?_) (fun hc271 => ?_)
              · replace hF := it_f hc271 hF
                refine go_iconst (v := (0 : Int32)) O dL_law_672 (by decide) ?_
                exact ret_wz hF (fun hz => hR _ _ hz dL_law_673) (show vp_nar .boolean (0 : Int32) = (0 : Int32) by decide)
              · replace hF := it_t hc271 hF
                refine go_iload O dL_law_638 2 rfl ?_
                obtain ⟨q182, hA183, hF⟩ := bd_s hF
                have J181 : q182 = .inl () → Go X l room_1 (wC G) 19 660 [(0, .ref (gb G)), (1, .ref (G.2.1 0)), (5, .ref (G.2.1 102)), (7, .int x8), (10, .int x175)] [] S176 := by
                  intro  hq
                  subst hq
                  refine go_aload O dL_law_660 2 rfl ?_
                  refine go_iconst (v := (2 : Int32)) O dL_law_662 (by decide) ?_
                  obtain ⟨hb185, hF⟩ := chk_s hF
                  refine go_iald (k := 102) O (lt4 hT (by decide : (102 : Nat) < 104)) (cv_l102 G (S176.1 102) (S176.2 102)) (inB_in hb185) dL_law_663 ?_
                  obtain ⟨q187, hA188, hF⟩ := bd_s hF
                  have J186 : q187 = .inl () → Go X l room_1 (wC G) 19 674 [(0, .ref (gb G)), (1, .ref (G.2.1 0)), (7, .int x8)] [] S176 := by
                    intro  hq
                    subst hq
                    refine go_aload_n O dL_law_674 rfl 0 rfl ?_
                    refine go_bipush (v := (40 : Int32)) O dL_law_675 (by decide) ?_
                    obtain ⟨x191, hA190, hF⟩ := bd_s hF
                    refine go_callSi (As := [.ref (gb G), .int (40 : Int32)]) (rest := []) O (c_L_cell l G hI hL hxs hA190) (fun s args hts => va_cwS 2 hts gL_law_L_cell rfl rfl rfl (by decide +kernel) ⟨Nat.le_of_ble_eq_true rfl, Nat.le_of_ble_eq_true rfl⟩) rfl rfl (Nat.le_of_ble_eq_true rfl) dL_law_677 ?_
                    refine go_istore (ls' := [(11, .int x191), (0, .ref (gb G)), (1, .ref (G.2.1 0)), (7, .int x8)]) O dL_law_680 (by decide) rfl ?_
                    refine go_iload O dL_law_682 0 rfl ?_
                    refine go_iload O dL_law_684 3 rfl ?_
                    obtain ⟨x193, hA192, hF⟩ := bd_s hF
                    refine go_callSi (As := [.int x191, .int x8]) (rest := []) O (c_L_some l G hI hA192) (fun s args hts => va_cwS 2 hts gL_law_L_some rfl rfl rfl (by decide +kernel) ⟨Nat.le_of_ble_eq_true rfl, Nat.le_of_ble_eq_true rfl⟩) rfl rfl (Nat.le_of_ble_eq_true rfl) dL_law_686 ?_
                    refine go_istore (ls' := [(12, .int x193), (11, .int x191), (0, .ref (gb G)), (1, .ref (G.2.1 0)), (7, .int x8)]) O dL_law_689 (by decide) rfl ?_
                    refine go_iload O dL_law_691 1 rfl ?_
                    refine go_iconst (v := (3 : Int32)) O dL_law_693 (by decide) ?_
                    refine go_ishr O dL_law_694 ?_
                    refine go_bipush (v := (8 : Int32)) O dL_law_695 (by decide) ?_
                    obtain ⟨x195, hA194, hF⟩ := bd_s hF
                    refine go_callSi (As := [.int (x191 >>> ((3 : Int32) &&& 31)), .int (8 : Int32)]) (rest := []) O (c_L_some l G hI hA194) (fun s args hts => va_cwS 2 hts gL_law_L_some rfl rfl rfl (by decide +kernel) ⟨Nat.le_of_ble_eq_true rfl, Nat.le_of_ble_eq_true rfl⟩) rfl rfl (Nat.le_of_ble_eq_true rfl) dL_law_697 ?_
                    refine go_istore (ls' := [(13, .int x195), (12, .int x193), (11, .int x191), (0, .ref (gb G)), (1, .ref (G.2.1 0)), (7, .int x8)]) O dL_law_700 (by decide) rfl ?_
                    refine go_aload_n O dL_law_702 rfl 4 rfl ?_
                    refine go_iload O dL_law_703 0 rfl ?_
                    obtain ⟨x197, hA196, hF⟩ := bd_s hF
                    refine go_callVi (As := [.int x195]) (rest := []) (b := 0) O (c_X8_know l G hI hA196) (fun s args hts => cwV 1 hts gL_law_X8_know rfl rfl rfl (by decide +kernel) ⟨Nat.le_of_ble_eq_true rfl, Nat.le_of_ble_eq_true rfl⟩) (lt9 hI (by decide : (0 : Nat) < 99)) (cv_pw G (S176.1 0) (S176.2 0)) rfl rfl rfl rfl (Nat.le_of_ble_eq_true rfl) dL_law_705 ?_
                    refine go_if_ne (tgt := 736) O dL_law_708 (by decide) (fun hc264 => ?_) (fun hc264 => ?_)
                    · replace hF := it_f hc264 hF
                      refine go_iconst (v := (0 : Int32)) O dL_law_736 (by decide) ?_
                      exact ret_wz hF (fun hz => hR _ _ hz dL_law_737) (show vp_nar .boolean (0 : Int32) = (0 : Int32) by decide)
                    · replace hF := it_t hc264 hF
                      refine go_aload_n O dL_law_711 rfl 4 rfl ?_
                      refine go_iload O dL_law_712 1 rfl ?_
                      refine go_iload O dL_law_714 0 rfl ?_
                      obtain ⟨⟨x199, S200⟩, hA198, hF⟩ := bd_s hF
                      refine go_callVi (As := [.int x193, .int x195]) (rest := []) (b := 0) O (c_X8_tell l G hI hA198) (fun s args hts => cwV 2 hts gL_law_X8_tell rfl rfl rfl (by decide +kernel) ⟨Nat.le_of_ble_eq_true rfl, Nat.le_of_ble_eq_true rfl⟩) (lt9 hI (by decide : (0 : Nat) < 99)) (cv_pw G (S176.1 0) (S176.2 0)) rfl rfl rfl rfl (Nat.le_of_ble_eq_true rfl) dL_law_716 ?_
                      refine go_bipush (v := (-4 : Int32)) O dL_law_719 (by decide) ?_
                      refine go_icmp_ne (tgt := 736) O dL_law_721 (by decide) (fun hc263 => ?_) (fun hc263 => ?_)
                      · replace hF := it_f hc263 hF
                        refine go_iconst (v := (0 : Int32)) O dL_law_736 (by decide) ?_
                        exact ret_wz hF (fun hz => hR _ _ hz dL_law_737) (show vp_nar .boolean (0 : Int32) = (0 : Int32) by decide)
                      · replace hF := it_t hc263 hF
                        refine go_aload_n O dL_law_724 rfl 4 rfl ?_
                        refine go_iload O dL_law_725 1 rfl ?_
                        refine go_iload O dL_law_727 0 rfl ?_
                        obtain ⟨⟨x202, S203⟩, hA201, hF⟩ := bd_s hF
                        refine go_callVi (As := [.int x193, .int x195]) (rest := []) (b := 0) O (c_X8_comes l G hI hA201) (fun s args hts => cwV 2 hts gL_law_X8_comes rfl rfl rfl (by decide +kernel) ⟨Nat.le_of_ble_eq_true rfl, Nat.le_of_ble_eq_true rfl⟩) (lt9 hI (by decide : (0 : Nat) < 99)) (cv_pw G (S200.1 0) (S200.2 0)) rfl rfl rfl rfl (Nat.le_of_ble_eq_true rfl) dL_law_729 ?_
                        refine go_iconst (v := (1 : Int32)) O dL_law_732 (by decide) ?_
                        refine go_icmp_eq (tgt := 738) O dL_law_733 (by decide) (fun hc262 => ?_) (fun hc262 => ?_)
                        · replace hF := it_t hc262 hF
                          refine go_aload_n O dL_law_738 rfl 4 rfl ?_
                          refine go_iload O dL_law_739 1 rfl ?_
                          refine go_iconst (v := (0 : Int32)) O dL_law_741 (by decide) ?_
                          obtain ⟨x205, hA204, hF⟩ := bd_s hF
                          refine go_callVi (As := [.int x193, .int (0 : Int32)]) (rest := []) (b := 0) O (c_X8_heard l G hI hA204) (fun s args hts => cwV 2 hts gL_law_X8_heard rfl rfl rfl (by decide +kernel) ⟨Nat.le_of_ble_eq_true rfl, Nat.le_of_ble_eq_true rfl⟩) (lt9 hI (by decide : (0 : Nat) < 99)) (cv_pw G (S203.1 0) (S203.2 0)) rfl rfl rfl rfl (Nat.le_of_ble_eq_true rfl) dL_law_742 ?_
                          refine go_istore (ls' := [(14, .int x205), (13, .int x195), (12, .int x193), (11, .int x191), (0, .ref (gb G)), (1, .ref (G.2.1 0)), (7, .int x8)]) O dL_law_745 (by decide) rfl ?_
                          refine go_aload_n O dL_law_747 rfl 5 rfl ?_
                          refine go_iload O dL_law_748 1 rfl ?_
                          refine go_iconst (v := (1 : Int32)) O dL_law_750 (by decide) ?_
                          obtain ⟨x207, hA206, hF⟩ := bd_s hF
                          refine go_callVi (As := [.int x195, .int (1 : Int32)]) (rest := []) (b := 0) O (c_X8_spread l G hI hA206) (fun s args hts => cwV 2 hts gL_law_X8_spread rfl rfl rfl (by decide +kernel) ⟨Nat.le_of_ble_eq_true rfl, Nat.le_of_ble_eq_true rfl⟩) (lt9 hI (by decide : (0 : Nat) < 99)) (cv_pw G (S203.1 0) (S203.2 0)) rfl rfl rfl rfl (Nat.le_of_ble_eq_true rfl) dL_law_751 ?_
                          refine go_istore (ls' := [(15, .int x207), (14, .int x205), (13, .int x195), (12, .int x193), (11, .int x191), (0, .ref (gb G)), (1, .ref (G.2.1 0)), (7, .int x8)]) O dL_law_754 (by decide) rfl ?_
                          refine go_iconst (v := (1 : Int32)) O dL_law_756 (by decide) ?_
                          refine go_iload O dL_law_757 3 rfl ?_
                          refine go_ishl O dL_law_759 ?_
                          obtain ⟨x208, ex208, hF⟩ := nm_s hF
                          refine go_topi ex208 ?_
                          refine go_istore (ls' := [(16, .int x208), (15, .int x207), (14, .int x205), (13, .int x195), (12, .int x193), (11, .int x191), (0, .ref (gb G)), (1, .ref (G.2.1 0)), (7, .int x8)]) O dL_law_760 (by decide) rfl ?_
                          refine go_iconst (v := (0 : Int32)) O dL_law_762 (by decide) ?_
                          refine go_istore (ls' := [(17, .int (0 : Int32)), (16, .int x208), (15, .int x207), (14, .int x205), (13, .int x195), (12, .int x193), (11, .int x191), (0, .ref (gb G)), (1, .ref (G.2.1 0)), (7, .int x8)]) O dL_law_763 (by decide) rfl ?_
                          refine go_perm (ls' := [(1, .ref (G.2.1 0)), (7, .int x8), (12, .int x193), (13, .int x195), (14, .int x205), (15, .int x207), (16, .int x208), (17, .int (0 : Int32))]) [8, 9, 5, 4, 3, 2, 1, 0] rfl ?_
                          obtain ⟨q261, hA213, hF⟩ := bd_s hF
                          refine lt_L_law_765 l G hI hL hxs hT O _ _ _ _ hA213 (fun hq => ?_) ?_
                          · subst hq
                            refine go_aload_n O dL_law_804 rfl 0 rfl ?_
                            refine go_iload O dL_law_805 2 rfl ?_
                            refine go_iload O dL_law_807 3 rfl ?_
                            obtain ⟨⟨x215, S216⟩, hA214, hF⟩ := bd_s hF
                            refine go_callVi (As := [.int x193, .int x195]) (rest := []) (b := 0) O (c_X8_tell l G hI hA214) (fun s args hts => cwV 2 hts gL_law_X8_tell rfl rfl rfl (by decide +kernel) ⟨Nat.le_of_ble_eq_true rfl, Nat.le_of_ble_eq_true rfl⟩) (lt9 hI (by decide : (0 : Nat) < 99)) (cv_pw G (S203.1 0) (S203.2 0)) rfl rfl rfl rfl (Nat.le_of_ble_eq_true rfl) dL_law_809 ?_
                            refine go_istore (ls' := [(17, .int x215), (1, .ref (G.2.1 0)), (7, .int x8), (12, .int x193), (13, .int x195), (14, .int x205), (15, .int x207)]) O dL_law_812 (by decide) rfl ?_
                            refine go_iload O dL_law_814 0 rfl ?_
                            refine go_iload O dL_law_816 5 rfl ?_
                            refine go_iconst (v := (1 : Int32)) O dL_law_818 (by decide) ?_
                            refine go_iload O dL_law_819 3 rfl ?_
                            refine go_ishl O dL_law_821 ?_
                            refine go_ior O dL_law_822 ?_
                            refine go_icmp_ne (tgt := 869) O dL_law_823 (by decide) (fun hc260 => ?_) (fun hc260 => ?_)
                            · replace hF := it_f hc260 hF
                              refine go_iconst (v := (0 : Int32)) O dL_law_869 (by decide) ?_
                              exact ret_wz hF (fun hz => hR _ _ hz dL_law_870) (show vp_nar .boolean (0 : Int32) = (0 : Int32) by decide)
                            · replace hF := it_t hc260 hF
                              refine go_iload O dL_law_826 6 rfl ?_
                              refine go_iload O dL_law_828 0 rfl ?_
                              refine go_icmp_ne (tgt := 869) O dL_law_830 (by decide) (fun hc259 => ?_) (fun hc259 => ?_)
                              · replace hF := it_f hc259 hF
                                refine go_iconst (v := (0 : Int32)) O dL_law_869 (by decide) ?_
                                exact ret_wz hF (fun hz => hR _ _ hz dL_law_870) (show vp_nar .boolean (0 : Int32) = (0 : Int32) by decide)
                              · replace hF := it_t hc259 hF
                                refine go_aload_n O dL_law_833 rfl 1 rfl ?_
                                refine go_iload O dL_law_834 0 rfl ?_
                                obtain ⟨x218, hA217, hF⟩ := bd_s hF
                                refine go_callVi (As := [.int x215]) (rest := []) (b := 0) O (c_X8_leak l G hI hA217) (fun s args hts => cwV 1 hts gL_law_X8_leak rfl rfl rfl (by decide +kernel) ⟨Nat.le_of_ble_eq_true rfl, Nat.le_of_ble_eq_true rfl⟩) (lt9 hI (by decide : (0 : Nat) < 99)) (cv_pw G (S216.1 0) (S216.2 0)) rfl rfl rfl rfl (Nat.le_of_ble_eq_true rfl) dL_law_836 ?_
                                refine go_iload O dL_law_839 3 rfl ?_
                                refine go_ishr O dL_law_841 ?_
                                refine go_if_eq (tgt := 869) O dL_law_842 (by decide) (fun hc258 => ?_) (fun hc258 => ?_)
                                · replace hF := it_t hc258 hF
                                  refine go_iconst (v := (0 : Int32)) O dL_law_869 (by decide) ?_
                                  exact ret_wz hF (fun hz => hR _ _ hz dL_law_870) (show vp_nar .boolean (0 : Int32) = (0 : Int32) by decide)
                                · replace hF := it_f hc258 hF
                                  refine go_aload_n O dL_law_845 rfl 1 rfl ?_
                                  refine go_iload O dL_law_846 0 rfl ?_
                                  obtain ⟨x220, hA219, hF⟩ := bd_s hF
                                  refine go_callVi (As := [.int x215]) (rest := []) (b := 0) O (c_X8_leak l G hI hA219) (fun s args hts => cwV 1 hts gL_law_X8_leak rfl rfl rfl (by decide +kernel) ⟨Nat.le_of_ble_eq_true rfl, Nat.le_of_ble_eq_true rfl⟩) (lt9 hI (by decide : (0 : Nat) < 99)) (cv_pw G (S216.1 0) (S216.2 0)) rfl rfl rfl rfl (Nat.le_of_ble_eq_true rfl) dL_law_848 ?_
                                  refine go_iload O dL_law_851 3 rfl ?_
                                  refine go_ishr O dL_law_853 ?_
                                  refine go_iconst (v := (1 : Int32)) O dL_law_854 (by decide) ?_
                                  refine go_iand O dL_law_855 ?_
                                  refine go_if_eq (tgt := 869) O dL_law_856 (by decide) (fun hc257 => ?_) (fun hc257 => ?_)
                                  · replace hF := it_t hc257 hF
                                    refine go_iconst (v := (0 : Int32)) O dL_law_869 (by decide) ?_
                                    exact ret_wz hF (fun hz => hR _ _ hz dL_law_870) (show vp_nar .boolean (0 : Int32) = (0 : Int32) by decide)
                                  · replace hF := it_f hc257 hF
                                    refine go_aload_n O dL_law_859 rfl 1 rfl ?_
                                    refine go_iload O dL_law_860 0 rfl ?_
                                    obtain ⟨x222, hA221, hF⟩ := bd_s hF
                                    refine go_callVi (As := [.int x215]) (rest := []) (b := 0) O (c_X8_leaks l G hI hA221) (fun s args hts => cwV 1 hts gL_law_X8_leaks rfl rfl rfl (by decide +kernel) ⟨Nat.le_of_ble_eq_true rfl, Nat.le_of_ble_eq_true rfl⟩) (lt9 hI (by decide : (0 : Nat) < 99)) (cv_pw G (S216.1 0) (S216.2 0)) rfl rfl rfl rfl (Nat.le_of_ble_eq_true rfl) dL_law_862 ?_
                                    refine go_iconst (v := (1 : Int32)) O dL_law_865 (by decide) ?_
                                    refine go_icmp_ge (tgt := 871) O dL_law_866 (by decide) (fun hc256 => ?_) (fun hc256 => ?_)
                                    · replace hF := it_t hc256 hF
                                      refine go_iconst (v := (0 : Int32)) O dL_law_871 (by decide) ?_
                                      refine go_istore (ls' := [(18, .int (0 : Int32)), (17, .int x215), (1, .ref (G.2.1 0)), (7, .int x8), (12, .int x193), (13, .int x195), (14, .int x205), (15, .int x207)]) O dL_law_872 (by decide) rfl ?_
                                      refine go_perm (ls' := [(1, .ref (G.2.1 0)), (7, .int x8), (12, .int x193), (13, .int x195), (14, .int x205), (18, .int (0 : Int32))]) [2, 3, 4, 5, 6, 0] rfl ?_
                                      obtain ⟨q255, hA232, hF⟩ := bd_s hF
                                      refine lt_L_law_874 l G hI hL hxs hT O _ _ _ hA232 (fun hq => ?_) ?_
                                      · subst hq
                                        refine go_aload_n O dL_law_916 rfl 0 rfl ?_
                                        refine go_iconst (v := (0 : Int32)) O dL_law_917 (by decide) ?_
                                        obtain ⟨⟨x234, S235⟩, hA233, hF⟩ := bd_s hF
                                        refine go_callVi (As := [.int (0 : Int32)]) (rest := []) (b := 0) O (c_X8_undo l G hI hA233) (fun s args hts => cwV 1 hts gL_law_X8_undo rfl rfl rfl (by decide +kernel) ⟨Nat.le_of_ble_eq_true rfl, Nat.le_of_ble_eq_true rfl⟩) (lt9 hI (by decide : (0 : Nat) < 99)) (cv_pw G (S216.1 0) (S216.2 0)) rfl rfl rfl rfl (Nat.le_of_ble_eq_true rfl) dL_law_918 ?_
                                        refine go_iconst (v := (1 : Int32)) O dL_law_921 (by decide) ?_
                                        refine go_icmp_ne (tgt := 980) O dL_law_922 (by decide) (fun hc254 => ?_) (fun hc254 => ?_)
                                        · replace hF := it_f hc254 hF
                                          refine go_iconst (v := (0 : Int32)) O dL_law_980 (by decide) ?_
                                          exact ret_wz hF (fun hz => hR _ _ hz dL_law_981) (show vp_nar .boolean (0 : Int32) = (0 : Int32) by decide)
                                        · replace hF := it_t hc254 hF
                                          refine go_aload_n O dL_law_925 rfl 0 rfl ?_
                                          refine go_iload O dL_law_926 2 rfl ?_
                                          obtain ⟨x237, hA236, hF⟩ := bd_s hF
                                          refine go_callVi (As := [.int x195]) (rest := []) (b := 0) O (c_X8_know l G hI hA236) (fun s args hts => cwV 1 hts gL_law_X8_know rfl rfl rfl (by decide +kernel) ⟨Nat.le_of_ble_eq_true rfl, Nat.le_of_ble_eq_true rfl⟩) (lt9 hI (by decide : (0 : Nat) < 99)) (cv_pw G (S235.1 0) (S235.2 0)) rfl rfl rfl rfl (Nat.le_of_ble_eq_true rfl) dL_law_928 ?_
                                          refine go_iconst (v := (1 : Int32)) O dL_law_931 (by decide) ?_
                                          refine go_iload O dL_law_932 1 rfl ?_
                                          refine go_ishl O dL_law_934 ?_
                                          refine go_icmp_ne (tgt := 980) O dL_law_935 (by decide) (fun hc253 => ?_) (fun hc253 => ?_)
                                          · replace hF := it_f hc253 hF
                                            refine go_iconst (v := (0 : Int32)) O dL_law_980 (by decide) ?_
                                            exact ret_wz hF (fun hz => hR _ _ hz dL_law_981) (show vp_nar .boolean (0 : Int32) = (0 : Int32) by decide)
                                          · replace hF := it_t hc253 hF
                                            refine go_aload_n O dL_law_938 rfl 0 rfl ?_
                                            refine go_iconst (v := (0 : Int32)) O dL_law_939 (by decide) ?_
                                            obtain ⟨⟨x239, S240⟩, hA238, hF⟩ := bd_s hF
                                            refine go_callVi (As := [.int (0 : Int32)]) (rest := []) (b := 0) O (c_X8_on l G hI hA238) (fun s args hts => cwV 1 hts gL_law_X8_on rfl rfl rfl (by decide +kernel) ⟨Nat.le_of_ble_eq_true rfl, Nat.le_of_ble_eq_true rfl⟩) (lt9 hI (by decide : (0 : Nat) < 99)) (cv_pw G (S235.1 0) (S235.2 0)) rfl rfl rfl rfl (Nat.le_of_ble_eq_true rfl) dL_law_940 ?_
                                            refine go_if_ne (tgt := 980) O dL_law_943 (by decide) (fun hc252 => ?_) (fun hc252 => ?_)
                                            · replace hF := it_f hc252 hF
                                              refine go_iconst (v := (0 : Int32)) O dL_law_980 (by decide) ?_
                                              exact ret_wz hF (fun hz => hR _ _ hz dL_law_981) (show vp_nar .boolean (0 : Int32) = (0 : Int32) by decide)
                                            · replace hF := it_t hc252 hF
                                              refine go_aload_n O dL_law_946 rfl 0 rfl ?_
                                              refine go_iload O dL_law_947 2 rfl ?_
                                              obtain ⟨x242, hA241, hF⟩ := bd_s hF
                                              refine go_callVi (As := [.int x195]) (rest := []) (b := 0) O (c_X8_know l G hI hA241) (fun s args hts => cwV 1 hts gL_law_X8_know rfl rfl rfl (by decide +kernel) ⟨Nat.le_of_ble_eq_true rfl, Nat.le_of_ble_eq_true rfl⟩) (lt9 hI (by decide : (0 : Nat) < 99)) (cv_pw G (S240.1 0) (S240.2 0)) rfl rfl rfl rfl (Nat.le_of_ble_eq_true rfl) dL_law_949 ?_
                                              refine go_if_ne (tgt := 980) O dL_law_952 (by decide) (fun hc251 => ?_) (fun hc251 => ?_)
                                              · replace hF := it_f hc251 hF
                                                refine go_iconst (v := (0 : Int32)) O dL_law_980 (by decide) ?_
                                                exact ret_wz hF (fun hz => hR _ _ hz dL_law_981) (show vp_nar .boolean (0 : Int32) = (0 : Int32) by decide)
                                              · replace hF := it_t hc251 hF
                                                refine go_aload_n O dL_law_955 rfl 0 rfl ?_
                                                obtain ⟨x244, hA243, hF⟩ := bd_s hF
                                                refine go_callVl (As := []) (rest := []) (b := 0) O (c_X8_upper l G hI hA243) (fun s args hts => cwV 0 hts gL_law_X8_upper rfl rfl rfl (by decide +kernel) ⟨Nat.le_of_ble_eq_true rfl, Nat.le_of_ble_eq_true rfl⟩) (lt9 hI (by decide : (0 : Nat) < 99)) (cv_pw G (S240.1 0) (S240.2 0)) rfl rfl rfl rfl (Nat.le_of_ble_eq_true rfl) dL_law_956 ?_
                                                refine go_lconst (v := (0 : Int64)) O dL_law_959 (by decide) ?_
                                                refine go_lcmp O dL_law_960 ?_
                                                refine go_if_lt (tgt := 980) O dL_law_961 (by decide) (fun hc250 => ?_) (fun hc250 => ?_)
                                                · replace hF := it_t hc250 hF
                                                  refine go_iconst (v := (0 : Int32)) O dL_law_980 (by decide) ?_
                                                  exact ret_wz hF (fun hz => hR _ _ hz dL_law_981) (show vp_nar .boolean (0 : Int32) = (0 : Int32) by decide)
                                                · replace hF := it_f hc250 hF
                                                  refine go_aload_n O dL_law_964 rfl 0 rfl ?_
                                                  obtain ⟨x246, hA245, hF⟩ := bd_s hF
                                                  refine go_callVl (As := []) (rest := []) (b := 0) O (c_X8_upper l G hI hA245) (fun s args hts => cwV 0 hts gL_law_X8_upper rfl rfl rfl (by decide +kernel) ⟨Nat.le_of_ble_eq_true rfl, Nat.le_of_ble_eq_true rfl⟩) (lt9 hI (by decide : (0 : Nat) < 99)) (cv_pw G (S240.1 0) (S240.2 0)) rfl rfl rfl rfl (Nat.le_of_ble_eq_true rfl) dL_law_965 ?_
                                                  refine go_aload_n O dL_law_968 rfl 0 rfl ?_
                                                  obtain ⟨x248, hA247, hF⟩ := bd_s hF
                                                  refine go_callVl (As := []) (rest := [.long x246]) (b := 0) O (c_X8_lower l G hI hA247) (fun s args hts => cwV 0 hts gL_law_X8_lower rfl rfl rfl (by decide +kernel) ⟨Nat.le_of_ble_eq_true rfl, Nat.le_of_ble_eq_true rfl⟩) (lt9 hI (by decide : (0 : Nat) < 99)) (cv_pw G (S240.1 0) (S240.2 0)) rfl rfl rfl rfl (Nat.le_of_ble_eq_true rfl) dL_law_969 ?_
                                                  refine go_lcmp O dL_law_972 ?_
                                                  refine go_if_gt (tgt := 980) O dL_law_973 (by decide) (fun hc249 => ?_) (fun hc249 => ?_)
                                                  · replace hF := it_t hc249 hF
                                                    refine go_iconst (v := (0 : Int32)) O dL_law_980 (by decide) ?_
                                                    exact ret_wz hF (fun hz => hR _ _ hz dL_law_981) (show vp_nar .boolean (0 : Int32) = (0 : Int32) by decide)
                                                  · replace hF := it_f hc249 hF
                                                    refine go_iconst (v := (1 : Int32)) O dL_law_976 (by decide) ?_
                                                    refine go_goto (tgt := 981) O dL_law_977 (by decide) ?_
                                                    exact ret_wz hF (fun hz => hR _ _ hz dL_law_981) (show vp_nar .boolean (1 : Int32) = (1 : Int32) by decide)
                                      · intro r hq pc ls hz hd
                                        subst hq
                                        exact ret_pz hF (fun hz => hR _ _ hz hd) hz
                                    · replace hF := it_f hc256 hF
                                      refine go_iconst (v := (0 : Int32)) O dL_law_869 (by decide) ?_
                                      exact ret_wz hF (fun hz => hR _ _ hz dL_law_870) (show vp_nar .boolean (0 : Int32) = (0 : Int32) by decide)
                          · intro r hq pc ls hz hd
                            subst hq
                            exact ret_pz hF (fun hz => hR _ _ hz hd) hz
                        · replace hF := it_f hc262 hF
                          refine go_iconst (v := (0 : Int32)) O dL_law_736 (by decide) ?_
                          exact ret_wz hF (fun hz => hR _ _ hz dL_law_737) (show vp_nar .boolean (0 : Int32) = (0 : Int32) by decide)
                  have hR189 : ∀ (rS : Int32 × Sg), q187 = .inr rS → ∀ pc ls (hz : vp_nar .boolean rS.1 = rS.1), decode cL_law pc = .ok (.ireturn, 1) → Go X l room_1 (wC G) 19 pc ls [.int rS.1] rS.2 := by
                    intro r hq pc ls hz hd
                    subst hq
                    exact ret_pz hF (fun hz => hR _ _ hz hd) hz
                  replace hF := hA188
                  replace hR := hR189
                  refine go_if_le (tgt := 674) O dL_law_664 (by decide) (fun hc266 => ?_) (fun hc266 => ?_)
                  · replace hF := it_t hc266 hF
                    refine go_perm (ls' := [(0, .ref (gb G)), (1, .ref (G.2.1 0)), (7, .int x8)]) [0, 1, 3] rfl ?_
                    exact ret_q hF (fun hq => J186  hq)
                  · replace hF := it_f hc266 hF
                    refine go_iload O dL_law_667 4 rfl ?_
                    refine go_if_ne (tgt := 674) O dL_law_669 (by decide) (fun hc265 => ?_) (fun hc265 => ?_)
                    · replace hF := it_f hc265 hF
                      refine go_perm (ls' := [(0, .ref (gb G)), (1, .ref (G.2.1 0)), (7, .int x8)]) [0, 1, 3] rfl ?_
                      exact ret_q hF (fun hq => J186  hq)
                    · replace hF := it_t hc265 hF
                      refine go_iconst (v := (0 : Int32)) O dL_law_672 (by decide) ?_
                      exact ret_q hF (fun hq => hR _ hq _ _ (show vp_nar .boolean (0 : Int32) = (0 : Int32) by decide) dL_law_673)
                have hR184 : ∀ (rS : Int32 × Sg), q182 = .inr rS → ∀ pc ls (hz : vp_nar .boolean rS.1 = rS.1), decode cL_law pc = .ok (.ireturn, 1) → Go X l room_1 (wC G) 19 pc ls [.int rS.1] rS.2 := by
                  intro r hq pc ls hz hd
                  subst hq
                  exact ret_pz hF (fun hz => hR _ _ hz hd) hz
                replace hF := hA183
                replace hR := hR184
                refine go_if_le (tgt := 660) O dL_law_640 (by decide) (fun hc270 => ?_) (fun hc270 => ?_)
                · replace hF := it_t hc270 hF
                  refine go_perm (ls' := [(0, .ref (gb G)), (1, .ref (G.2.1 0)), (5, .ref (G.2.1 102)), (7, .int x8), (10, .int x175)]) [3, 4, 5, 6, 0] rfl ?_
                  exact ret_q hF (fun hq => J181  hq)
                · replace hF := it_f hc270 hF
                  refine go_iload O dL_law_643 0 rfl ?_
                  refine go_if_le (tgt := 660) O dL_law_645 (by decide) (fun hc269 => ?_) (fun hc269 => ?_)
                  · replace hF := it_t hc269 hF
                    refine go_perm (ls' := [(0, .ref (gb G)), (1, .ref (G.2.1 0)), (5, .ref (G.2.1 102)), (7, .int x8), (10, .int x175)]) [3, 4, 5, 6, 0] rfl ?_
                    exact ret_q hF (fun hq => J181  hq)
                  · replace hF := it_f hc269 hF
                    refine go_iload O dL_law_648 0 rfl ?_
                    refine go_iload O dL_law_650 2 rfl ?_
                    refine go_imul O dL_law_652 ?_
                    refine go_aload O dL_law_653 5 rfl ?_
                    refine go_iconst (v := (2 : Int32)) O dL_law_655 (by decide) ?_
                    obtain ⟨hb267, hF⟩ := chk_s hF
                    refine go_iald (k := 102) O (lt4 hT (by decide : (102 : Nat) < 104)) (cv_l102 G (S176.1 102) (S176.2 102)) (inB_in hb267) dL_law_656 ?_
                    refine go_icmp_lt (tgt := 672) O dL_law_657 (by decide) (fun hc268 => ?_) (fun hc268 => ?_)
                    · replace hF := it_t hc268 hF
                      refine go_iconst (v := (0 : Int32)) O dL_law_672 (by decide) ?_
                      exact ret_q hF (fun hq => hR _ hq _ _ (show vp_nar .boolean (0 : Int32) = (0 : Int32) by decide) dL_law_673)
                    · replace hF := it_f hc268 hF
                      refine go_perm (ls' := [(0, .ref (gb G)), (1, .ref (G.2.1 0)), (5, .ref (G.2.1 102)), (7, .int x8), (10, .int x175)]) [3, 4, 5, 6, 0] rfl ?_
                      exact ret_q hF (fun hq => J181  hq)
          · intro r hq pc ls hz hd
            subst hq
            exact ret_pz hF (fun hz => hR _ _ hz hd) hz
        · intro r hq pc ls hz hd
          subst hq
          exact ret_pz hF (fun hz => hR _ _ hz hd) hz
      · replace hF := it_f hc275 hF
        refine go_iconst (v := (0 : Int32)) O dL_law_77 (by decide) ?_
        exact ret_wz hF (fun hz => hR _ _ hz dL_law_78) (show vp_nar .boolean (0 : Int32) = (0 : Int32) by decide)
