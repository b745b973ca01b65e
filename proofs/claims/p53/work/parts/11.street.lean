-- X6_everyTalk
def rm_X6_everyTalk : Room := { frames := 0, cells := 0, slots := 0, locals := 0 }
theorem fl_X6_everyTalk_47 : Cond.fieldLink RX6 47 "PaperWalls$Street" "talks" "I" ∈ wsX6_everyTalk := by decide +kernel
theorem in_X6_everyTalk_X6 : ∀ x ∈ u_ws RX6 TX6 11, x ∈ wsX6_everyTalk := by decide +kernel
def F_X6_everyTalk (i : Nat) (S : Sg)  : Option Int32 := some (((1 : Int32) <<< ((S.1 (sb i) 10) &&& 31)) - (1 : Int32))
set_option maxHeartbeats 4000000 in
set_option maxRecDepth 100000 in
theorem c_X6_everyTalk (l : Launch) (G : Gp) (hI : Gd G) {i : Nat} (hi : i < 5) {S : Sg} {r : Int32} (hF : F_X6_everyTalk i S = some r) : Met l yX6_everyTalk wsX6_everyTalk rm_X6_everyTalk (va_Pc [.ref (G.2.1 (sb i))] (PreW (wC G) S)) (va_Qi (fun r' u => r' = r ∧ u = S) (PostW (wC G)) (AW (wC G))) 0 0 (AW (wC G)) := by
  rw [F_X6_everyTalk] at hF
  refine met_i (cc := cX6_everyTalk) (maxL := 1) (own := RX6) hI.1 (by decide) rfl rfl (Nat.le_of_ble_eq_true rfl) (fun X O hR => ?_)
  show Go X l rm_X6_everyTalk (wC G) 1 0 [(0, .ref (G.2.1 (sb i)))] [] S
  refine go_iconst (v := (1 : Int32)) O dX6_everyTalk_0 (by decide) ?_
  refine go_aload_n O dX6_everyTalk_1 rfl 0 rfl ?_
  refine go_get (k := (sb i)) (j := 10) O (lt9 hI (sb_lt0 hi)) (cv_st G hi (S.1 (sb i)) (S.2 (sb i))) rfl in_X6_everyTalk_X6 (by decide) fl_X6_everyTalk_47 rfl rfl dX6_everyTalk_2 ?_
  refine go_ishl O dX6_everyTalk_5 ?_
  refine go_iconst (v := (1 : Int32)) O dX6_everyTalk_6 (by decide) ?_
  refine go_isub O dX6_everyTalk_7 ?_
  exact ret_i hF (hR _ _ dX6_everyTalk_8)
-- X6_bothOf
def rm_X6_bothOf : Room := { frames := 0, cells := 0, slots := 0, locals := 0 }
theorem fl_X6_bothOf_24 : Cond.fieldLink RX6 24 "PaperWalls$Street" "speaker" "[I" ∈ wsX6_bothOf := by decide +kernel
theorem fl_X6_bothOf_27 : Cond.fieldLink RX6 27 "PaperWalls$Street" "hearer" "[I" ∈ wsX6_bothOf := by decide +kernel
theorem in_X6_bothOf_X6 : ∀ x ∈ u_ws RX6 TX6 11, x ∈ wsX6_bothOf := by decide +kernel
def F_X6_bothOf (i : Nat) (S : Sg) (a1 : Int32) : Option Int32 := chk (inB a1 8) (chk (inB a1 8) (some (((1 : Int32) <<< ((S.1 (sb i + 5) a1.toNatClampNeg) &&& 31)) ||| ((1 : Int32) <<< ((S.1 (sb i + 6) a1.toNatClampNeg) &&& 31)))))
set_option maxHeartbeats 4000000 in
set_option maxRecDepth 100000 in
theorem c_X6_bothOf (l : Launch) (G : Gp) (hI : Gd G) {i : Nat} (hi : i < 5) {S : Sg} {a1 : Int32} {r : Int32} (hF : F_X6_bothOf i S a1 = some r) : Met l yX6_bothOf wsX6_bothOf rm_X6_bothOf (va_Pc [.ref (G.2.1 (sb i)), .int a1] (PreW (wC G) S)) (va_Qi (fun r' u => r' = r ∧ u = S) (PostW (wC G)) (AW (wC G))) 0 0 (AW (wC G)) := by
  rw [F_X6_bothOf] at hF
  refine met_i (cc := cX6_bothOf) (maxL := 2) (own := RX6) hI.1 (by decide) rfl rfl (Nat.le_of_ble_eq_true rfl) (fun X O hR => ?_)
  show Go X l rm_X6_bothOf (wC G) 2 0 [(0, .ref (G.2.1 (sb i))), (1, .int a1)] [] S
  refine go_iconst (v := (1 : Int32)) O dX6_bothOf_0 (by decide) ?_
  refine go_aload_n O dX6_bothOf_1 rfl 0 rfl ?_
  refine go_get (k := (sb i)) (j := 4) O (lt9 hI (sb_lt0 hi)) (cv_st G hi (S.1 (sb i)) (S.2 (sb i))) rfl in_X6_bothOf_X6 (by decide) fl_X6_bothOf_24 rfl rfl dX6_bothOf_2 ?_
  refine go_iload_n O dX6_bothOf_5 rfl 1 rfl ?_
  obtain ⟨hb1, hF⟩ := chk_s hF
  refine go_iald (k := (sb i + 5)) O (lt9 hI (sb_lt hi (by decide : 5 < 13))) (cv_sta5 G hi (S.1 (sb i + 5)) (S.2 (sb i + 5))) (inB_in hb1) dX6_bothOf_6 ?_
  refine go_ishl O dX6_bothOf_7 ?_
  refine go_iconst (v := (1 : Int32)) O dX6_bothOf_8 (by decide) ?_
  refine go_aload_n O dX6_bothOf_9 rfl 0 rfl ?_
  refine go_get (k := (sb i)) (j := 5) O (lt9 hI (sb_lt0 hi)) (cv_st G hi (S.1 (sb i)) (S.2 (sb i))) rfl in_X6_bothOf_X6 (by decide) fl_X6_bothOf_27 rfl rfl dX6_bothOf_10 ?_
  refine go_iload_n O dX6_bothOf_13 rfl 1 rfl ?_
  obtain ⟨hb2, hF⟩ := chk_s hF
  refine go_iald (k := (sb i + 6)) O (lt9 hI (sb_lt hi (by decide : 6 < 13))) (cv_sta6 G hi (S.1 (sb i + 6)) (S.2 (sb i + 6))) (inB_in hb2) dX6_bothOf_14 ?_
  refine go_ishl O dX6_bothOf_15 ?_
  refine go_ior O dX6_bothOf_16 ?_
  exact ret_i hF (hR _ _ dX6_bothOf_17)
-- X6_everyone
def rm_X6_everyone : Room := { frames := 0, cells := 0, slots := 0, locals := 0 }
theorem fl_X6_everyone_44 : Cond.fieldLink RX6 44 "PaperWalls$Street" "people" "I" ∈ wsX6_everyone := by decide +kernel
theorem in_X6_everyone_X6 : ∀ x ∈ u_ws RX6 TX6 11, x ∈ wsX6_everyone := by decide +kernel
def F_X6_everyone (i : Nat) (S : Sg)  : Option Int32 := some (((1 : Int32) <<< ((S.1 (sb i) 9) &&& 31)) - (1 : Int32))
set_option maxHeartbeats 4000000 in
set_option maxRecDepth 100000 in
theorem c_X6_everyone (l : Launch) (G : Gp) (hI : Gd G) {i : Nat} (hi : i < 5) {S : Sg} {r : Int32} (hF : F_X6_everyone i S = some r) : Met l yX6_everyone wsX6_everyone rm_X6_everyone (va_Pc [.ref (G.2.1 (sb i))] (PreW (wC G) S)) (va_Qi (fun r' u => r' = r ∧ u = S) (PostW (wC G)) (AW (wC G))) 0 0 (AW (wC G)) := by
  rw [F_X6_everyone] at hF
  refine met_i (cc := cX6_everyone) (maxL := 1) (own := RX6) hI.1 (by decide) rfl rfl (Nat.le_of_ble_eq_true rfl) (fun X O hR => ?_)
  show Go X l rm_X6_everyone (wC G) 1 0 [(0, .ref (G.2.1 (sb i)))] [] S
  refine go_iconst (v := (1 : Int32)) O dX6_everyone_0 (by decide) ?_
  refine go_aload_n O dX6_everyone_1 rfl 0 rfl ?_
  refine go_get (k := (sb i)) (j := 9) O (lt9 hI (sb_lt0 hi)) (cv_st G hi (S.1 (sb i)) (S.2 (sb i))) rfl in_X6_everyone_X6 (by decide) fl_X6_everyone_44 rfl rfl dX6_everyone_2 ?_
  refine go_ishl O dX6_everyone_5 ?_
  refine go_iconst (v := (1 : Int32)) O dX6_everyone_6 (by decide) ?_
  refine go_isub O dX6_everyone_7 ?_
  exact ret_i hF (hR _ _ dX6_everyone_8)
-- X6_loudestIn
def rm_X6_loudestIn : Room := { frames := 1, cells := 0, slots := 0, locals := 40 }
theorem fl_X6_loudestIn_15 : Cond.fieldLink RX6 15 "PaperWalls$Street" "depth" "[I" ∈ wsX6_loudestIn := by decide +kernel
theorem fl_X6_loudestIn_18 : Cond.fieldLink RX6 18 "PaperWalls$Street" "kinds" "[I" ∈ wsX6_loudestIn := by decide +kernel
theorem fl_X6_loudestIn_21 : Cond.fieldLink RX6 21 "PaperWalls$Street" "rooms" "[I" ∈ wsX6_loudestIn := by decide +kernel
theorem fl_X6_loudestIn_44 : Cond.fieldLink RX6 44 "PaperWalls$Street" "people" "I" ∈ wsX6_loudestIn := by decide +kernel
theorem wd_X6_loudestIn_im : Cond.initialized "java/lang/Math" ∈ wsX6_loudestIn := by decide +kernel
theorem wd_X6_loudestIn_kabs : Cond.code Lib.Math.abs.name Lib.Math.abs.code 1 (some .int) ∈ wsX6_loudestIn := by decide +kernel
theorem wd_X6_loudestIn_kmax : Cond.code Lib.Math.max.name Lib.Math.max.code 2 (some .int) ∈ wsX6_loudestIn := by decide +kernel
theorem wd_X6_loudestIn_m104 : Cond.methodLink RX6 104 Lib.Math.abs.name ∈ wsX6_loudestIn := by decide +kernel
theorem wd_X6_loudestIn_m113 : Cond.methodLink RX6 113 Lib.Math.max.name ∈ wsX6_loudestIn := by decide +kernel
theorem wd_X6_loudestIn_sabs : Cond.static Lib.Math.abs.name ∈ wsX6_loudestIn := by decide +kernel
theorem wd_X6_loudestIn_smax : Cond.static Lib.Math.max.name ∈ wsX6_loudestIn := by decide +kernel
theorem in_X6_loudestIn_X6 : ∀ x ∈ u_ws RX6 TX6 11, x ∈ wsX6_loudestIn := by decide +kernel
def T_X6_loudestIn_6 (i : Nat) (v : Nat) (S : Sg) (p1 : Int32) (p2 : Int32) : Nat → Int32 → Int32 → Option (Int32)
  | 0, _, _ => none
  | n + 1, p4, p5 => if (S.1 (sb i) 9) ≤ p5 then (some p4) else (if (p2 >>> (p5 &&& 31)) = 0 then (some p4) else (bd (if ((p2 >>> (p5 &&& 31)) &&& (1 : Int32)) = 0 then (some p4) else (chk (inB p5 7) (chk (inB (S.1 (sb i + 3) p5.toNatClampNeg) 6) (chk (inB p1 7) (chk (inB p5 7) (chk (inB (S.1 (sb i + 4) p5.toNatClampNeg) 7) (nm ((S.1 (sb i + 2) p1.toNatClampNeg) - (S.1 (sb i + 2) (S.1 (sb i + 4) p5.toNatClampNeg).toNatClampNeg)) (fun x10 => nm (if 0 ≤ x10 then x10 else 0 - x10) (fun x11 => nm ((skv v (S.1 (sb i + 3) p5.toNatClampNeg).toNatClampNeg) - x11) (fun x12 => nm (if p4 < x12 then x12 else p4) (fun x13 => some x13))))))))))) (fun x2 => T_X6_loudestIn_6 i v S p1 p2 n x2 (p5 + (1 : Int32)))))
set_option maxHeartbeats 4000000 in
set_option maxRecDepth 100000 in
theorem lt_X6_loudestIn_6 {X : XT} (l : Launch) (G : Gp) (hI : Gd G) {i : Nat} {v : Nat} (hi : i < 5) (hv : v < 5) {S : Sg} {p1 : Int32} {p2 : Int32} (O : Ok X (wC G) cX6_loudestIn RX6 wsX6_loudestIn 7) : ∀ (n : Nat) (p4 : Int32) (p5 : Int32)  (q : (Int32)), T_X6_loudestIn_6 i v S p1 p2 n p4 p5  = some q → (Go X l rm_X6_loudestIn (wC G) 7 80 [(4, .int q)] [] S) → Go X l rm_X6_loudestIn (wC G) 7 6 [(0, .ref (G.2.1 (sb i))), (1, .int p1), (2, .int p2), (3, .ref (G.2.2.2.1 v)), (4, .int p4), (5, .int p5)] [] S := by
  intro n
  induction n with
  | zero =>
    intro p4 p5  q hF
    cases hF
  | succ n ih =>
    intro p4 p5  q hF hE
    rw [T_X6_loudestIn_6] at hF
    refine go_iload O dX6_loudestIn_6 5 rfl ?_
    refine go_aload_n O dX6_loudestIn_8 rfl 0 rfl ?_
    refine go_get (k := (sb i)) (j := 9) O (lt9 hI (sb_lt0 hi)) (cv_st G hi (S.1 (sb i)) (S.2 (sb i))) rfl in_X6_loudestIn_X6 (by decide) fl_X6_loudestIn_44 rfl rfl dX6_loudestIn_9 ?_
    refine go_icmp_ge (tgt := 80) O dX6_loudestIn_12 (by decide) (fun hc16 => ?_) (fun hc16 => ?_)
    · replace hF := it_t hc16 hF
      refine go_perm (ls' := [(4, .int p4)]) [4] rfl ?_
      exact jn (P := fun q => Go X l rm_X6_loudestIn (wC G) 7 80 [(4, .int q)] [] S) hF hE
    · replace hF := it_f hc16 hF
      refine go_iload_n O dX6_loudestIn_15 rfl 2 rfl ?_
      refine go_iload O dX6_loudestIn_16 5 rfl ?_
      refine go_ishr O dX6_loudestIn_18 ?_
      refine go_if_eq (tgt := 80) O dX6_loudestIn_19 (by decide) (fun hc15 => ?_) (fun hc15 => ?_)
      · replace hF := it_t hc15 hF
        refine go_perm (ls' := [(4, .int p4)]) [4] rfl ?_
        exact jn (P := fun q => Go X l rm_X6_loudestIn (wC G) 7 80 [(4, .int q)] [] S) hF hE
      · replace hF := it_f hc15 hF
        refine go_iload_n O dX6_loudestIn_22 rfl 2 rfl ?_
        refine go_iload O dX6_loudestIn_23 5 rfl ?_
        refine go_ishr O dX6_loudestIn_25 ?_
        refine go_iconst (v := (1 : Int32)) O dX6_loudestIn_26 (by decide) ?_
        refine go_iand O dX6_loudestIn_27 ?_
        obtain ⟨x2, hA4, hF⟩ := bd_s hF
        have J3 : Go X l rm_X6_loudestIn (wC G) 7 74 [(0, .ref (G.2.1 (sb i))), (1, .int p1), (2, .int p2), (3, .ref (G.2.2.2.1 v)), (4, .int x2), (5, .int p5)] [] S := by
          refine go_iinc (d := (1 : Int32)) (ls' := [(5, .int (p5 + (1 : Int32))), (0, .ref (G.2.1 (sb i))), (1, .int p1), (2, .int p2), (3, .ref (G.2.2.2.1 v)), (4, .int x2)]) O dX6_loudestIn_74 5 rfl (by decide) (by decide) rfl ?_
          refine go_goto (tgt := 6) O dX6_loudestIn_77 (by decide) ?_
          refine go_perm (ls' := [(0, .ref (G.2.1 (sb i))), (1, .int p1), (2, .int p2), (3, .ref (G.2.2.2.1 v)), (4, .int x2), (5, .int (p5 + (1 : Int32)))]) [1, 2, 3, 4, 5, 0] rfl ?_
          exact ih _ _ _ hF hE
        replace hF := hA4
        refine go_if_eq (tgt := 74) O dX6_loudestIn_28 (by decide) (fun hc14 => ?_) (fun hc14 => ?_)
        · replace hF := it_t hc14 hF
          exact jn (P := fun q => Go X l rm_X6_loudestIn (wC G) 7 74 [(0, .ref (G.2.1 (sb i))), (1, .int p1), (2, .int p2), (3, .ref (G.2.2.2.1 v)), (4, .int q), (5, .int p5)] [] S) hF J3
        · replace hF := it_f hc14 hF
          refine go_aload_n O dX6_loudestIn_31 rfl 3 rfl ?_
          refine go_aload_n O dX6_loudestIn_32 rfl 0 rfl ?_
          refine go_get (k := (sb i)) (j := 2) O (lt9 hI (sb_lt0 hi)) (cv_st G hi (S.1 (sb i)) (S.2 (sb i))) rfl in_X6_loudestIn_X6 (by decide) fl_X6_loudestIn_18 rfl rfl dX6_loudestIn_33 ?_
          refine go_iload O dX6_loudestIn_36 5 rfl ?_
          obtain ⟨hb5, hF⟩ := chk_s hF
          refine go_iald (k := (sb i + 3)) O (lt9 hI (sb_lt hi (by decide : 3 < 13))) (cv_sta3 G hi (S.1 (sb i + 3)) (S.2 (sb i + 3))) (inB_in hb5) dX6_loudestIn_38 ?_
          obtain ⟨hb6, hF⟩ := chk_s hF
          refine go_sald (v := v) O hv (inB_in hb6) dX6_loudestIn_39 ?_
          refine go_aload_n O dX6_loudestIn_40 rfl 0 rfl ?_
          refine go_get (k := (sb i)) (j := 1) O (lt9 hI (sb_lt0 hi)) (cv_st G hi (S.1 (sb i)) (S.2 (sb i))) rfl in_X6_loudestIn_X6 (by decide) fl_X6_loudestIn_15 rfl rfl dX6_loudestIn_41 ?_
          refine go_iload_n O dX6_loudestIn_44 rfl 1 rfl ?_
          obtain ⟨hb7, hF⟩ := chk_s hF
          refine go_iald (k := (sb i + 2)) O (lt9 hI (sb_lt hi (by decide : 2 < 13))) (cv_sta2 G hi (S.1 (sb i + 2)) (S.2 (sb i + 2))) (inB_in hb7) dX6_loudestIn_45 ?_
          refine go_aload_n O dX6_loudestIn_46 rfl 0 rfl ?_
          refine go_get (k := (sb i)) (j := 1) O (lt9 hI (sb_lt0 hi)) (cv_st G hi (S.1 (sb i)) (S.2 (sb i))) rfl in_X6_loudestIn_X6 (by decide) fl_X6_loudestIn_15 rfl rfl dX6_loudestIn_47 ?_
          refine go_aload_n O dX6_loudestIn_50 rfl 0 rfl ?_
          refine go_get (k := (sb i)) (j := 3) O (lt9 hI (sb_lt0 hi)) (cv_st G hi (S.1 (sb i)) (S.2 (sb i))) rfl in_X6_loudestIn_X6 (by decide) fl_X6_loudestIn_21 rfl rfl dX6_loudestIn_51 ?_
          refine go_iload O dX6_loudestIn_54 5 rfl ?_
          obtain ⟨hb8, hF⟩ := chk_s hF
          refine go_iald (k := (sb i + 4)) O (lt9 hI (sb_lt hi (by decide : 4 < 13))) (cv_sta4 G hi (S.1 (sb i + 4)) (S.2 (sb i + 4))) (inB_in hb8) dX6_loudestIn_56 ?_
          obtain ⟨hb9, hF⟩ := chk_s hF
          refine go_iald (k := (sb i + 2)) O (lt9 hI (sb_lt hi (by decide : 2 < 13))) (cv_sta2 G hi (S.1 (sb i + 2)) (S.2 (sb i + 2))) (inB_in hb9) dX6_loudestIn_57 ?_
          refine go_isub O dX6_loudestIn_58 ?_
          obtain ⟨x10, ex10, hF⟩ := nm_s hF
          refine go_topi ex10 ?_
          obtain ⟨x11, ex11, hF⟩ := nm_s hF
          refine go_mabs (v := x11) O wd_X6_loudestIn_m104 wd_X6_loudestIn_sabs wd_X6_loudestIn_im wd_X6_loudestIn_kabs (by decide) (Nat.le_of_ble_eq_true rfl) ex11.symm dX6_loudestIn_59 ?_
          refine go_isub O dX6_loudestIn_62 ?_
          obtain ⟨x12, ex12, hF⟩ := nm_s hF
          refine go_topi ex12 ?_
          refine go_istore (ls' := [(6, .int x12), (0, .ref (G.2.1 (sb i))), (1, .int p1), (2, .int p2), (3, .ref (G.2.2.2.1 v)), (4, .int p4), (5, .int p5)]) O dX6_loudestIn_63 (by decide) rfl ?_
          refine go_iload O dX6_loudestIn_65 5 rfl ?_
          refine go_iload O dX6_loudestIn_67 0 rfl ?_
          obtain ⟨x13, ex13, hF⟩ := nm_s hF
          refine go_mmax (v := x13) O wd_X6_loudestIn_m113 wd_X6_loudestIn_smax wd_X6_loudestIn_im wd_X6_loudestIn_kmax (by decide) (Nat.le_of_ble_eq_true rfl) ex13.symm dX6_loudestIn_69 ?_
          refine go_istore (ls' := [(4, .int x13), (6, .int x12), (0, .ref (G.2.1 (sb i))), (1, .int p1), (2, .int p2), (3, .ref (G.2.2.2.1 v)), (5, .int p5)]) O dX6_loudestIn_72 (by decide) rfl ?_
          refine go_perm (ls' := [(0, .ref (G.2.1 (sb i))), (1, .int p1), (2, .int p2), (3, .ref (G.2.2.2.1 v)), (4, .int x13), (5, .int p5)]) [2, 3, 4, 5, 0, 6] rfl ?_
          exact jn (P := fun q => Go X l rm_X6_loudestIn (wC G) 7 74 [(0, .ref (G.2.1 (sb i))), (1, .int p1), (2, .int p2), (3, .ref (G.2.2.2.1 v)), (4, .int q), (5, .int p5)] [] S) hF J3
def F_X6_loudestIn (i : Nat) (v : Nat) (S : Sg) (a1 : Int32) (a2 : Int32) : Option Int32 := bd (T_X6_loudestIn_6 i v S a1 a2 FU (0 : Int32) (0 : Int32)) (fun x1 => some x1)
set_option maxHeartbeats 4000000 in
set_option maxRecDepth 100000 in
theorem c_X6_loudestIn (l : Launch) (G : Gp) (hI : Gd G) {i : Nat} {v : Nat} (hi : i < 5) (hv : v < 5) {S : Sg} {a1 : Int32} {a2 : Int32} {r : Int32} (hF : F_X6_loudestIn i v S a1 a2 = some r) : Met l yX6_loudestIn wsX6_loudestIn rm_X6_loudestIn (va_Pc [.ref (G.2.1 (sb i)), .int a1, .int a2, .ref (G.2.2.2.1 v)] (PreW (wC G) S)) (va_Qi (fun r' u => r' = r ∧ u = S) (PostW (wC G)) (AW (wC G))) 0 0 (AW (wC G)) := by
  rw [F_X6_loudestIn] at hF
  refine met_i (cc := cX6_loudestIn) (maxL := 7) (own := RX6) hI.1 (by decide) rfl rfl (Nat.le_of_ble_eq_true rfl) (fun X O hR => ?_)
  show Go X l rm_X6_loudestIn (wC G) 7 0 [(0, .ref (G.2.1 (sb i))), (1, .int a1), (2, .int a2), (3, .ref (G.2.2.2.1 v))] [] S
  refine go_iconst (v := (0 : Int32)) O dX6_loudestIn_0 (by decide) ?_
  refine go_istore (ls' := [(4, .int (0 : Int32)), (0, .ref (G.2.1 (sb i))), (1, .int a1), (2, .int a2), (3, .ref (G.2.2.2.1 v))]) O dX6_loudestIn_1 (by decide) rfl ?_
  refine go_iconst (v := (0 : Int32)) O dX6_loudestIn_3 (by decide) ?_
  refine go_istore (ls' := [(5, .int (0 : Int32)), (4, .int (0 : Int32)), (0, .ref (G.2.1 (sb i))), (1, .int a1), (2, .int a2), (3, .ref (G.2.2.2.1 v))]) O dX6_loudestIn_4 (by decide) rfl ?_
  refine go_perm (ls' := [(0, .ref (G.2.1 (sb i))), (1, .int a1), (2, .int a2), (3, .ref (G.2.2.2.1 v)), (4, .int (0 : Int32)), (5, .int (0 : Int32))]) [2, 3, 4, 5, 1, 0] rfl ?_
  obtain ⟨x1, hA17, hF⟩ := bd_s hF
  refine lt_X6_loudestIn_6 l G hI hi hv O _ _ _ _ hA17 ?_
  refine go_iload O dX6_loudestIn_80 0 rfl ?_
  exact ret_i hF (hR _ _ dX6_loudestIn_82)
-- X6_comesTo
def rm_X6_comesTo : Room := { frames := 1, cells := 0, slots := 0, locals := 40 }
theorem fl_X6_comesTo_15 : Cond.fieldLink RX6 15 "PaperWalls$Street" "depth" "[I" ∈ wsX6_comesTo := by decide +kernel
theorem fl_X6_comesTo_18 : Cond.fieldLink RX6 18 "PaperWalls$Street" "kinds" "[I" ∈ wsX6_comesTo := by decide +kernel
theorem fl_X6_comesTo_21 : Cond.fieldLink RX6 21 "PaperWalls$Street" "rooms" "[I" ∈ wsX6_comesTo := by decide +kernel
theorem fl_X6_comesTo_91 : Cond.fieldLink RX6 91 "PaperWalls$Kinds" "SPEAKS" "[I" ∈ wsX6_comesTo := by decide +kernel
theorem wd_X6_comesTo_im : Cond.initialized "java/lang/Math" ∈ wsX6_comesTo := by decide +kernel
theorem wd_X6_comesTo_kabs : Cond.code Lib.Math.abs.name Lib.Math.abs.code 1 (some .int) ∈ wsX6_comesTo := by decide +kernel
theorem wd_X6_comesTo_m104 : Cond.methodLink RX6 104 Lib.Math.abs.name ∈ wsX6_comesTo := by decide +kernel
theorem wd_X6_comesTo_sabs : Cond.static Lib.Math.abs.name ∈ wsX6_comesTo := by decide +kernel
theorem in_X6_comesTo_X6 : ∀ x ∈ u_ws RX6 TX6 11, x ∈ wsX6_comesTo := by decide +kernel
def F_X6_comesTo (i : Nat) (S : Sg) (a1 : Int32) (a2 : Int32) : Option Int32 := chk (inB a2 7) (chk (inB (S.1 (sb i + 3) a2.toNatClampNeg) 6) (chk (inB a1 7) (chk (inB a2 7) (chk (inB (S.1 (sb i + 4) a2.toNatClampNeg) 7) (nm ((S.1 (sb i + 2) a1.toNatClampNeg) - (S.1 (sb i + 2) (S.1 (sb i + 4) a2.toNatClampNeg).toNatClampNeg)) (fun x6 => nm (if 0 ≤ x6 then x6 else 0 - x6) (fun x7 => some ((skv 2 (S.1 (sb i + 3) a2.toNatClampNeg).toNatClampNeg) - x7))))))))
set_option maxHeartbeats 4000000 in
set_option maxRecDepth 100000 in
theorem c_X6_comesTo (l : Launch) (G : Gp) (hI : Gd G) {i : Nat} (hi : i < 5) {S : Sg} {a1 : Int32} {a2 : Int32} {r : Int32} (hF : F_X6_comesTo i S a1 a2 = some r) : Met l yX6_comesTo wsX6_comesTo rm_X6_comesTo (va_Pc [.ref (G.2.1 (sb i)), .int a1, .int a2] (PreW (wC G) S)) (va_Qi (fun r' u => r' = r ∧ u = S) (PostW (wC G)) (AW (wC G))) 0 0 (AW (wC G)) := by
  rw [F_X6_comesTo] at hF
  refine met_i (cc := cX6_comesTo) (maxL := 3) (own := RX6) hI.1 (by decide) rfl rfl (Nat.le_of_ble_eq_true rfl) (fun X O hR => ?_)
  show Go X l rm_X6_comesTo (wC G) 3 0 [(0, .ref (G.2.1 (sb i))), (1, .int a1), (2, .int a2)] [] S
  refine go_gets (v := 2) O (by decide) fl_X6_comesTo_91 dX6_comesTo_0 ?_
  refine go_aload_n O dX6_comesTo_3 rfl 0 rfl ?_
  refine go_get (k := (sb i)) (j := 2) O (lt9 hI (sb_lt0 hi)) (cv_st G hi (S.1 (sb i)) (S.2 (sb i))) rfl in_X6_comesTo_X6 (by decide) fl_X6_comesTo_18 rfl rfl dX6_comesTo_4 ?_
  refine go_iload_n O dX6_comesTo_7 rfl 2 rfl ?_
  obtain ⟨hb1, hF⟩ := chk_s hF
  refine go_iald (k := (sb i + 3)) O (lt9 hI (sb_lt hi (by decide : 3 < 13))) (cv_sta3 G hi (S.1 (sb i + 3)) (S.2 (sb i + 3))) (inB_in hb1) dX6_comesTo_8 ?_
  obtain ⟨hb2, hF⟩ := chk_s hF
  refine go_sald (v := 2) O (by decide : (2 : Nat) < 5) (inB_in hb2) dX6_comesTo_9 ?_
  refine go_aload_n O dX6_comesTo_10 rfl 0 rfl ?_
  refine go_get (k := (sb i)) (j := 1) O (lt9 hI (sb_lt0 hi)) (cv_st G hi (S.1 (sb i)) (S.2 (sb i))) rfl in_X6_comesTo_X6 (by decide) fl_X6_comesTo_15 rfl rfl dX6_comesTo_11 ?_
  refine go_iload_n O dX6_comesTo_14 rfl 1 rfl ?_
  obtain ⟨hb3, hF⟩ := chk_s hF
  refine go_iald (k := (sb i + 2)) O (lt9 hI (sb_lt hi (by decide : 2 < 13))) (cv_sta2 G hi (S.1 (sb i + 2)) (S.2 (sb i + 2))) (inB_in hb3) dX6_comesTo_15 ?_
  refine go_aload_n O dX6_comesTo_16 rfl 0 rfl ?_
  refine go_get (k := (sb i)) (j := 1) O (lt9 hI (sb_lt0 hi)) (cv_st G hi (S.1 (sb i)) (S.2 (sb i))) rfl in_X6_comesTo_X6 (by decide) fl_X6_comesTo_15 rfl rfl dX6_comesTo_17 ?_
  refine go_aload_n O dX6_comesTo_20 rfl 0 rfl ?_
  refine go_get (k := (sb i)) (j := 3) O (lt9 hI (sb_lt0 hi)) (cv_st G hi (S.1 (sb i)) (S.2 (sb i))) rfl in_X6_comesTo_X6 (by decide) fl_X6_comesTo_21 rfl rfl dX6_comesTo_21 ?_
  refine go_iload_n O dX6_comesTo_24 rfl 2 rfl ?_
  obtain ⟨hb4, hF⟩ := chk_s hF
  refine go_iald (k := (sb i + 4)) O (lt9 hI (sb_lt hi (by decide : 4 < 13))) (cv_sta4 G hi (S.1 (sb i + 4)) (S.2 (sb i + 4))) (inB_in hb4) dX6_comesTo_25 ?_
  obtain ⟨hb5, hF⟩ := chk_s hF
  refine go_iald (k := (sb i + 2)) O (lt9 hI (sb_lt hi (by decide : 2 < 13))) (cv_sta2 G hi (S.1 (sb i + 2)) (S.2 (sb i + 2))) (inB_in hb5) dX6_comesTo_26 ?_
  refine go_isub O dX6_comesTo_27 ?_
  obtain ⟨x6, ex6, hF⟩ := nm_s hF
  refine go_topi ex6 ?_
  obtain ⟨x7, ex7, hF⟩ := nm_s hF
  refine go_mabs (v := x7) O wd_X6_comesTo_m104 wd_X6_comesTo_sabs wd_X6_comesTo_im wd_X6_comesTo_kabs (by decide) (Nat.le_of_ble_eq_true rfl) ex7.symm dX6_comesTo_28 ?_
  refine go_isub O dX6_comesTo_31 ?_
  exact ret_i hF (hR _ _ dX6_comesTo_32)
-- X6_whoHearOf
def rm_X6_whoHearOf : Room := { frames := 2, cells := 0, slots := 0, locals := 66 }
theorem fl_X6_whoHearOf_18 : Cond.fieldLink RX6 18 "PaperWalls$Street" "kinds" "[I" ∈ wsX6_whoHearOf := by decide +kernel
theorem fl_X6_whoHearOf_21 : Cond.fieldLink RX6 21 "PaperWalls$Street" "rooms" "[I" ∈ wsX6_whoHearOf := by decide +kernel
theorem fl_X6_whoHearOf_44 : Cond.fieldLink RX6 44 "PaperWalls$Street" "people" "I" ∈ wsX6_whoHearOf := by decide +kernel
theorem fl_X6_whoHearOf_91 : Cond.fieldLink RX6 91 "PaperWalls$Kinds" "SPEAKS" "[I" ∈ wsX6_whoHearOf := by decide +kernel
theorem fl_X6_whoHearOf_94 : Cond.fieldLink RX6 94 "PaperWalls$Kinds" "SINGS" "[I" ∈ wsX6_whoHearOf := by decide +kernel
theorem wd_X6_whoHearOf_im : Cond.initialized "java/lang/Math" ∈ wsX6_whoHearOf := by decide +kernel
theorem wd_X6_whoHearOf_kmax : Cond.code Lib.Math.max.name Lib.Math.max.code 2 (some .int) ∈ wsX6_whoHearOf := by decide +kernel
theorem wd_X6_whoHearOf_m113 : Cond.methodLink RX6 113 Lib.Math.max.name ∈ wsX6_whoHearOf := by decide +kernel
theorem wd_X6_whoHearOf_smax : Cond.static Lib.Math.max.name ∈ wsX6_whoHearOf := by decide +kernel
theorem in_X6_whoHearOf_X6 : ∀ x ∈ u_ws RX6 TX6 11, x ∈ wsX6_whoHearOf := by decide +kernel
def T_X6_whoHearOf_19 (i : Nat) (S : Sg) (p2 : Int32) (p3 : Int32) (p4 : Int32) (p5 : Int32) : Nat → Int32 → Int32 → Option (Int32)
  | 0, _, _ => none
  | n + 1, p6, p7 => if (S.1 (sb i) 9) ≤ p7 then (some p6) else (if (p5 >>> (p7 &&& 31)) = 0 then (some p6) else (bd (if ((p5 >>> (p7 &&& 31)) &&& (1 : Int32)) = 0 then (some p6) else (chk (inB p7 7) (bd (F_X6_loudestIn i 3 S (S.1 (sb i + 4) p7.toNatClampNeg) p3) (fun x8 => chk (inB p7 7) (bd (F_X6_loudestIn i 2 S (S.1 (sb i + 4) p7.toNatClampNeg) p4) (fun x11 => nm (if x8 < x11 then x11 else x8) (fun x12 => chk (inB p7 7) (chk (inB p7 7) (bd (F_X6_comesTo i S (S.1 (sb i + 4) p7.toNatClampNeg) p2) (fun x16 => bd (F_X2_isEnough S (S.1 (sb i + 3) p7.toNatClampNeg) x16 x12) (fun x18 => if x18 = 0 then (some p6) else (nm (p6 ||| ((1 : Int32) <<< (p7 &&& 31))) (fun x19 => some x19))))))))))))) (fun x3 => T_X6_whoHearOf_19 i S p2 p3 p4 p5 n x3 (p7 + (1 : Int32)))))
set_option maxHeartbeats 4000000 in
set_option maxRecDepth 100000 in
theorem lt_X6_whoHearOf_19 {X : XT} (l : Launch) (G : Gp) (hI : Gd G) {i : Nat} (hi : i < 5) {S : Sg} {p2 : Int32} {p3 : Int32} {p4 : Int32} {p5 : Int32} (O : Ok X (wC G) cX6_whoHearOf RX6 wsX6_whoHearOf 10) : ∀ (n : Nat) (p6 : Int32) (p7 : Int32)  (q : (Int32)), T_X6_whoHearOf_19 i S p2 p3 p4 p5 n p6 p7  = some q → (Go X l rm_X6_whoHearOf (wC G) 10 128 [(6, .int q)] [] S) → Go X l rm_X6_whoHearOf (wC G) 10 19 [(0, .ref (G.2.1 (sb i))), (2, .int p2), (3, .int p3), (4, .int p4), (5, .int p5), (6, .int p6), (7, .int p7)] [] S := by
  intro n
  induction n with
  | zero =>
    intro p6 p7  q hF
    cases hF
  | succ n ih =>
    intro p6 p7  q hF hE
    rw [T_X6_whoHearOf_19] at hF
    refine go_iload O dX6_whoHearOf_19 6 rfl ?_
    refine go_aload_n O dX6_whoHearOf_21 rfl 0 rfl ?_
    refine go_get (k := (sb i)) (j := 9) O (lt9 hI (sb_lt0 hi)) (cv_st G hi (S.1 (sb i)) (S.2 (sb i))) rfl in_X6_whoHearOf_X6 (by decide) fl_X6_whoHearOf_44 rfl rfl dX6_whoHearOf_22 ?_
    refine go_icmp_ge (tgt := 128) O dX6_whoHearOf_25 (by decide) (fun hc23 => ?_) (fun hc23 => ?_)
    · replace hF := it_t hc23 hF
      refine go_perm (ls' := [(6, .int p6)]) [5] rfl ?_
      exact jn (P := fun q => Go X l rm_X6_whoHearOf (wC G) 10 128 [(6, .int q)] [] S) hF hE
    · replace hF := it_f hc23 hF
      refine go_iload O dX6_whoHearOf_28 4 rfl ?_
      refine go_iload O dX6_whoHearOf_30 6 rfl ?_
      refine go_ishr O dX6_whoHearOf_32 ?_
      refine go_if_eq (tgt := 128) O dX6_whoHearOf_33 (by decide) (fun hc22 => ?_) (fun hc22 => ?_)
      · replace hF := it_t hc22 hF
        refine go_perm (ls' := [(6, .int p6)]) [5] rfl ?_
        exact jn (P := fun q => Go X l rm_X6_whoHearOf (wC G) 10 128 [(6, .int q)] [] S) hF hE
      · replace hF := it_f hc22 hF
        refine go_iload O dX6_whoHearOf_36 4 rfl ?_
        refine go_iload O dX6_whoHearOf_38 6 rfl ?_
        refine go_ishr O dX6_whoHearOf_40 ?_
        refine go_iconst (v := (1 : Int32)) O dX6_whoHearOf_41 (by decide) ?_
        refine go_iand O dX6_whoHearOf_42 ?_
        obtain ⟨x3, hA5, hF⟩ := bd_s hF
        have J4 : Go X l rm_X6_whoHearOf (wC G) 10 122 [(0, .ref (G.2.1 (sb i))), (2, .int p2), (3, .int p3), (4, .int p4), (5, .int p5), (6, .int x3), (7, .int p7)] [] S := by
          refine go_iinc (d := (1 : Int32)) (ls' := [(7, .int (p7 + (1 : Int32))), (0, .ref (G.2.1 (sb i))), (2, .int p2), (3, .int p3), (4, .int p4), (5, .int p5), (6, .int x3)]) O dX6_whoHearOf_122 6 rfl (by decide) (by decide) rfl ?_
          refine go_goto (tgt := 19) O dX6_whoHearOf_125 (by decide) ?_
          refine go_perm (ls' := [(0, .ref (G.2.1 (sb i))), (2, .int p2), (3, .int p3), (4, .int p4), (5, .int p5), (6, .int x3), (7, .int (p7 + (1 : Int32)))]) [1, 2, 3, 4, 5, 6, 0] rfl ?_
          exact ih _ _ _ hF hE
        replace hF := hA5
        refine go_if_eq (tgt := 122) O dX6_whoHearOf_43 (by decide) (fun hc21 => ?_) (fun hc21 => ?_)
        · replace hF := it_t hc21 hF
          exact jn (P := fun q => Go X l rm_X6_whoHearOf (wC G) 10 122 [(0, .ref (G.2.1 (sb i))), (2, .int p2), (3, .int p3), (4, .int p4), (5, .int p5), (6, .int q), (7, .int p7)] [] S) hF J4
        · replace hF := it_f hc21 hF
          refine go_aload_n O dX6_whoHearOf_46 rfl 0 rfl ?_
          refine go_aload_n O dX6_whoHearOf_47 rfl 0 rfl ?_
          refine go_get (k := (sb i)) (j := 3) O (lt9 hI (sb_lt0 hi)) (cv_st G hi (S.1 (sb i)) (S.2 (sb i))) rfl in_X6_whoHearOf_X6 (by decide) fl_X6_whoHearOf_21 rfl rfl dX6_whoHearOf_48 ?_
          refine go_iload O dX6_whoHearOf_51 6 rfl ?_
          obtain ⟨hb6, hF⟩ := chk_s hF
          refine go_iald (k := (sb i + 4)) O (lt9 hI (sb_lt hi (by decide : 4 < 13))) (cv_sta4 G hi (S.1 (sb i + 4)) (S.2 (sb i + 4))) (inB_in hb6) dX6_whoHearOf_53 ?_
          refine go_iload_n O dX6_whoHearOf_54 rfl 2 rfl ?_
          refine go_gets (v := 3) O (by decide) fl_X6_whoHearOf_94 dX6_whoHearOf_55 ?_
          obtain ⟨x8, hA7, hF⟩ := bd_s hF
          refine go_callVi (As := [.int (S.1 (sb i + 4) p7.toNatClampNeg), .int p3, .ref (G.2.2.2.1 3)]) (rest := []) (b := (sb i)) O (c_X6_loudestIn l G hI hi (by decide : (3 : Nat) < 5) hA7) (fun s args hts => cwV 3 hts gX6_whoHearOf_X6_loudestIn rfl rfl rfl (by decide +kernel) ⟨Nat.le_of_ble_eq_true rfl, Nat.le_of_ble_eq_true rfl⟩) (lt9 hI (sb_lt0 hi)) (cv_st G hi (S.1 (sb i)) (S.2 (sb i))) rfl rfl rfl rfl (Nat.le_of_ble_eq_true rfl) dX6_whoHearOf_58 ?_
          refine go_istore (ls' := [(8, .int x8), (0, .ref (G.2.1 (sb i))), (2, .int p2), (3, .int p3), (4, .int p4), (5, .int p5), (6, .int p6), (7, .int p7)]) O dX6_whoHearOf_61 (by decide) rfl ?_
          refine go_iload O dX6_whoHearOf_63 0 rfl ?_
          refine go_aload_n O dX6_whoHearOf_65 rfl 1 rfl ?_
          refine go_aload_n O dX6_whoHearOf_66 rfl 1 rfl ?_
          refine go_get (k := (sb i)) (j := 3) O (lt9 hI (sb_lt0 hi)) (cv_st G hi (S.1 (sb i)) (S.2 (sb i))) rfl in_X6_whoHearOf_X6 (by decide) fl_X6_whoHearOf_21 rfl rfl dX6_whoHearOf_67 ?_
          refine go_iload O dX6_whoHearOf_70 7 rfl ?_
          obtain ⟨hb9, hF⟩ := chk_s hF
          refine go_iald (k := (sb i + 4)) O (lt9 hI (sb_lt hi (by decide : 4 < 13))) (cv_sta4 G hi (S.1 (sb i + 4)) (S.2 (sb i + 4))) (inB_in hb9) dX6_whoHearOf_72 ?_
          refine go_iload O dX6_whoHearOf_73 4 rfl ?_
          refine go_gets (v := 2) O (by decide) fl_X6_whoHearOf_91 dX6_whoHearOf_75 ?_
          obtain ⟨x11, hA10, hF⟩ := bd_s hF
          refine go_callVi (As := [.int (S.1 (sb i + 4) p7.toNatClampNeg), .int p4, .ref (G.2.2.2.1 2)]) (rest := [.int x8]) (b := (sb i)) O (c_X6_loudestIn l G hI hi (by decide : (2 : Nat) < 5) hA10) (fun s args hts => cwV 3 hts gX6_whoHearOf_X6_loudestIn rfl rfl rfl (by decide +kernel) ⟨Nat.le_of_ble_eq_true rfl, Nat.le_of_ble_eq_true rfl⟩) (lt9 hI (sb_lt0 hi)) (cv_st G hi (S.1 (sb i)) (S.2 (sb i))) rfl rfl rfl rfl (Nat.le_of_ble_eq_true rfl) dX6_whoHearOf_78 ?_
          obtain ⟨x12, ex12, hF⟩ := nm_s hF
          refine go_mmax (v := x12) O wd_X6_whoHearOf_m113 wd_X6_whoHearOf_smax wd_X6_whoHearOf_im wd_X6_whoHearOf_kmax (by decide) (Nat.le_of_ble_eq_true rfl) ex12.symm dX6_whoHearOf_81 ?_
          refine go_istore (ls' := [(9, .int x12), (8, .int x8), (0, .ref (G.2.1 (sb i))), (2, .int p2), (3, .int p3), (4, .int p4), (5, .int p5), (6, .int p6), (7, .int p7)]) O dX6_whoHearOf_84 (by decide) rfl ?_
          refine go_aload_n O dX6_whoHearOf_86 rfl 2 rfl ?_
          refine go_get (k := (sb i)) (j := 2) O (lt9 hI (sb_lt0 hi)) (cv_st G hi (S.1 (sb i)) (S.2 (sb i))) rfl in_X6_whoHearOf_X6 (by decide) fl_X6_whoHearOf_18 rfl rfl dX6_whoHearOf_87 ?_
          refine go_iload O dX6_whoHearOf_90 8 rfl ?_
          obtain ⟨hb13, hF⟩ := chk_s hF
          refine go_iald (k := (sb i + 3)) O (lt9 hI (sb_lt hi (by decide : 3 < 13))) (cv_sta3 G hi (S.1 (sb i + 3)) (S.2 (sb i + 3))) (inB_in hb13) dX6_whoHearOf_92 ?_
          refine go_aload_n O dX6_whoHearOf_93 rfl 2 rfl ?_
          refine go_aload_n O dX6_whoHearOf_94 rfl 2 rfl ?_
          refine go_get (k := (sb i)) (j := 3) O (lt9 hI (sb_lt0 hi)) (cv_st G hi (S.1 (sb i)) (S.2 (sb i))) rfl in_X6_whoHearOf_X6 (by decide) fl_X6_whoHearOf_21 rfl rfl dX6_whoHearOf_95 ?_
          refine go_iload O dX6_whoHearOf_98 8 rfl ?_
          obtain ⟨hb14, hF⟩ := chk_s hF
          refine go_iald (k := (sb i + 4)) O (lt9 hI (sb_lt hi (by decide : 4 < 13))) (cv_sta4 G hi (S.1 (sb i + 4)) (S.2 (sb i + 4))) (inB_in hb14) dX6_whoHearOf_100 ?_
          refine go_iload_n O dX6_whoHearOf_101 rfl 3 rfl ?_
          obtain ⟨x16, hA15, hF⟩ := bd_s hF
          refine go_callVi (As := [.int (S.1 (sb i + 4) p7.toNatClampNeg), .int p2]) (rest := [.int (S.1 (sb i + 3) p7.toNatClampNeg)]) (b := (sb i)) O (c_X6_comesTo l G hI hi hA15) (fun s args hts => cwV 2 hts gX6_whoHearOf_X6_comesTo rfl rfl rfl (by decide +kernel) ⟨Nat.le_of_ble_eq_true rfl, Nat.le_of_ble_eq_true rfl⟩) (lt9 hI (sb_lt0 hi)) (cv_st G hi (S.1 (sb i)) (S.2 (sb i))) rfl rfl rfl rfl (Nat.le_of_ble_eq_true rfl) dX6_whoHearOf_102 ?_
          refine go_iload O dX6_whoHearOf_105 0 rfl ?_
          obtain ⟨x18, hA17, hF⟩ := bd_s hF
          refine go_callSi (As := [.int (S.1 (sb i + 3) p7.toNatClampNeg), .int x16, .int x12]) (rest := []) O (c_X2_isEnough l G hI hA17) (fun s args hts => va_cwS 3 hts gX6_whoHearOf_X2_isEnough rfl rfl rfl (by decide +kernel) ⟨Nat.le_of_ble_eq_true rfl, Nat.le_of_ble_eq_true rfl⟩) rfl rfl (Nat.le_of_ble_eq_true rfl) dX6_whoHearOf_107 ?_
          refine go_if_eq (tgt := 122) O dX6_whoHearOf_110 (by decide) (fun hc20 => ?_) (fun hc20 => ?_)
          · replace hF := it_t hc20 hF
            refine go_perm (ls' := [(0, .ref (G.2.1 (sb i))), (2, .int p2), (3, .int p3), (4, .int p4), (5, .int p5), (6, .int p6), (7, .int p7)]) [2, 3, 4, 5, 6, 7, 8] rfl ?_
            exact jn (P := fun q => Go X l rm_X6_whoHearOf (wC G) 10 122 [(0, .ref (G.2.1 (sb i))), (2, .int p2), (3, .int p3), (4, .int p4), (5, .int p5), (6, .int q), (7, .int p7)] [] S) hF J4
          · replace hF := it_f hc20 hF
            refine go_iload O dX6_whoHearOf_113 7 rfl ?_
            refine go_iconst (v := (1 : Int32)) O dX6_whoHearOf_115 (by decide) ?_
            refine go_iload O dX6_whoHearOf_116 8 rfl ?_
            refine go_ishl O dX6_whoHearOf_118 ?_
            refine go_ior O dX6_whoHearOf_119 ?_
            obtain ⟨x19, ex19, hF⟩ := nm_s hF
            refine go_topi ex19 ?_
            refine go_istore (ls' := [(6, .int x19), (9, .int x12), (8, .int x8), (0, .ref (G.2.1 (sb i))), (2, .int p2), (3, .int p3), (4, .int p4), (5, .int p5), (7, .int p7)]) O dX6_whoHearOf_120 (by decide) rfl ?_
            refine go_perm (ls' := [(0, .ref (G.2.1 (sb i))), (2, .int p2), (3, .int p3), (4, .int p4), (5, .int p5), (6, .int x19), (7, .int p7)]) [3, 4, 5, 6, 7, 0, 8] rfl ?_
            exact jn (P := fun q => Go X l rm_X6_whoHearOf (wC G) 10 122 [(0, .ref (G.2.1 (sb i))), (2, .int p2), (3, .int p3), (4, .int p4), (5, .int p5), (6, .int q), (7, .int p7)] [] S) hF J4
def F_X6_whoHearOf (i : Nat) (S : Sg) (a1 : Int32) (a2 : Int32) (a3 : Int32) (a4 : Int32) : Option Int32 := nm ((a1 &&& (a3 ^^^ (-1 : Int32))) &&& (((1 : Int32) <<< (a2 &&& 31)) ^^^ (-1 : Int32))) (fun x1 => bd (T_X6_whoHearOf_19 i S a2 a3 a4 x1 FU (0 : Int32) (0 : Int32)) (fun x2 => some x2))
set_option maxHeartbeats 4000000 in
set_option maxRecDepth 100000 in
theorem c_X6_whoHearOf (l : Launch) (G : Gp) (hI : Gd G) {i : Nat} (hi : i < 5) {S : Sg} {a1 : Int32} {a2 : Int32} {a3 : Int32} {a4 : Int32} {r : Int32} (hF : F_X6_whoHearOf i S a1 a2 a3 a4 = some r) : Met l yX6_whoHearOf wsX6_whoHearOf rm_X6_whoHearOf (va_Pc [.ref (G.2.1 (sb i)), .int a1, .int a2, .int a3, .int a4] (PreW (wC G) S)) (va_Qi (fun r' u => r' = r ∧ u = S) (PostW (wC G)) (AW (wC G))) 0 0 (AW (wC G)) := by
  rw [F_X6_whoHearOf] at hF
  refine met_i (cc := cX6_whoHearOf) (maxL := 10) (own := RX6) hI.1 (by decide) rfl rfl (Nat.le_of_ble_eq_true rfl) (fun X O hR => ?_)
  show Go X l rm_X6_whoHearOf (wC G) 10 0 [(0, .ref (G.2.1 (sb i))), (1, .int a1), (2, .int a2), (3, .int a3), (4, .int a4)] [] S
  refine go_iload_n O dX6_whoHearOf_0 rfl 1 rfl ?_
  refine go_iload_n O dX6_whoHearOf_1 rfl 3 rfl ?_
  refine go_iconst (v := (-1 : Int32)) O dX6_whoHearOf_2 (by decide) ?_
  refine go_ixor O dX6_whoHearOf_3 ?_
  refine go_iand O dX6_whoHearOf_4 ?_
  refine go_iconst (v := (1 : Int32)) O dX6_whoHearOf_5 (by decide) ?_
  refine go_iload_n O dX6_whoHearOf_6 rfl 2 rfl ?_
  refine go_ishl O dX6_whoHearOf_7 ?_
  refine go_iconst (v := (-1 : Int32)) O dX6_whoHearOf_8 (by decide) ?_
  refine go_ixor O dX6_whoHearOf_9 ?_
  refine go_iand O dX6_whoHearOf_10 ?_
  obtain ⟨x1, ex1, hF⟩ := nm_s hF
  refine go_topi ex1 ?_
  refine go_istore (ls' := [(5, .int x1), (0, .ref (G.2.1 (sb i))), (1, .int a1), (2, .int a2), (3, .int a3), (4, .int a4)]) O dX6_whoHearOf_11 (by decide) rfl ?_
  refine go_iconst (v := (0 : Int32)) O dX6_whoHearOf_13 (by decide) ?_
  refine go_istore (ls' := [(6, .int (0 : Int32)), (5, .int x1), (0, .ref (G.2.1 (sb i))), (1, .int a1), (2, .int a2), (3, .int a3), (4, .int a4)]) O dX6_whoHearOf_14 (by decide) rfl ?_
  refine go_iconst (v := (0 : Int32)) O dX6_whoHearOf_16 (by decide) ?_
  refine go_istore (ls' := [(7, .int (0 : Int32)), (6, .int (0 : Int32)), (5, .int x1), (0, .ref (G.2.1 (sb i))), (1, .int a1), (2, .int a2), (3, .int a3), (4, .int a4)]) O dX6_whoHearOf_17 (by decide) rfl ?_
  refine go_perm (ls' := [(0, .ref (G.2.1 (sb i))), (2, .int a2), (3, .int a3), (4, .int a4), (5, .int x1), (6, .int (0 : Int32)), (7, .int (0 : Int32))]) [3, 5, 6, 7, 2, 1, 0] rfl ?_
  obtain ⟨x2, hA24, hF⟩ := bd_s hF
  refine lt_X6_whoHearOf_19 l G hI hi O _ _ _ _ hA24 ?_
  refine go_iload O dX6_whoHearOf_128 0 rfl ?_
  exact ret_i hF (hR _ _ dX6_whoHearOf_130)
-- X6_isHeardRightly
def rm_X6_isHeardRightly : Room := { frames := 3, cells := 0, slots := 0, locals := 95 }
theorem fl_X6_isHeardRightly_24 : Cond.fieldLink RX6 24 "PaperWalls$Street" "speaker" "[I" ∈ wsX6_isHeardRightly := by decide +kernel
theorem fl_X6_isHeardRightly_27 : Cond.fieldLink RX6 27 "PaperWalls$Street" "hearer" "[I" ∈ wsX6_isHeardRightly := by decide +kernel
theorem fl_X6_isHeardRightly_30 : Cond.fieldLink RX6 30 "PaperWalls$Street" "barred" "[I" ∈ wsX6_isHeardRightly := by decide +kernel
theorem in_X6_isHeardRightly_X6 : ∀ x ∈ u_ws RX6 TX6 11, x ∈ wsX6_isHeardRightly := by decide +kernel
def F_X6_isHeardRightly (i : Nat) (S : Sg) (a1 : Int32) (a2 : Int32) (a3 : Int32) (a4 : Int32) : Option Int32 := chk (inB a1 8) (nm (a2 &&& ((1 : Int32) <<< ((S.1 (sb i + 6) a1.toNatClampNeg) &&& 31))) (fun x2 => chk (inB a1 8) (chk (inB a1 8) (bd (F_X6_whoHearOf i S (x2 ||| (a2 &&& (S.1 (sb i + 7) a1.toNatClampNeg))) (S.1 (sb i + 5) a1.toNatClampNeg) a3 a4) (fun x6 => if x6 = x2 then (some (1 : Int32)) else (some (0 : Int32)))))))
set_option maxHeartbeats 4000000 in
set_option maxRecDepth 100000 in
theorem c_X6_isHeardRightly (l : Launch) (G : Gp) (hI : Gd G) {i : Nat} (hi : i < 5) {S : Sg} {a1 : Int32} {a2 : Int32} {a3 : Int32} {a4 : Int32} {r : Int32} (hF : F_X6_isHeardRightly i S a1 a2 a3 a4 = some r) : Met l yX6_isHeardRightly wsX6_isHeardRightly rm_X6_isHeardRightly (va_Pc [.ref (G.2.1 (sb i)), .int a1, .int a2, .int a3, .int a4] (PreW (wC G) S)) (va_Qi (fun r' u => r' = r ∧ u = S) (PostW (wC G)) (AW (wC G))) 0 0 (AW (wC G)) := by
  rw [F_X6_isHeardRightly] at hF
  refine met_z (cc := cX6_isHeardRightly) (maxL := 6) (own := RX6) hI.1 (by decide) rfl rfl (Nat.le_of_ble_eq_true rfl) (fun X O hR => ?_)
  show Go X l rm_X6_isHeardRightly (wC G) 6 0 [(0, .ref (G.2.1 (sb i))), (1, .int a1), (2, .int a2), (3, .int a3), (4, .int a4)] [] S
  refine go_iload_n O dX6_isHeardRightly_0 rfl 2 rfl ?_
  refine go_iconst (v := (1 : Int32)) O dX6_isHeardRightly_1 (by decide) ?_
  refine go_aload_n O dX6_isHeardRightly_2 rfl 0 rfl ?_
  refine go_get (k := (sb i)) (j := 5) O (lt9 hI (sb_lt0 hi)) (cv_st G hi (S.1 (sb i)) (S.2 (sb i))) rfl in_X6_isHeardRightly_X6 (by decide) fl_X6_isHeardRightly_27 rfl rfl dX6_isHeardRightly_3 ?_
  refine go_iload_n O dX6_isHeardRightly_6 rfl 1 rfl ?_
  obtain ⟨hb1, hF⟩ := chk_s hF
  refine go_iald (k := (sb i + 6)) O (lt9 hI (sb_lt hi (by decide : 6 < 13))) (cv_sta6 G hi (S.1 (sb i + 6)) (S.2 (sb i + 6))) (inB_in hb1) dX6_isHeardRightly_7 ?_
  refine go_ishl O dX6_isHeardRightly_8 ?_
  refine go_iand O dX6_isHeardRightly_9 ?_
  obtain ⟨x2, ex2, hF⟩ := nm_s hF
  refine go_topi ex2 ?_
  refine go_istore (ls' := [(5, .int x2), (0, .ref (G.2.1 (sb i))), (1, .int a1), (2, .int a2), (3, .int a3), (4, .int a4)]) O dX6_isHeardRightly_10 (by decide) rfl ?_
  refine go_aload_n O dX6_isHeardRightly_12 rfl 1 rfl ?_
  refine go_iload O dX6_isHeardRightly_13 0 rfl ?_
  refine go_iload_n O dX6_isHeardRightly_15 rfl 3 rfl ?_
  refine go_aload_n O dX6_isHeardRightly_16 rfl 1 rfl ?_
  refine go_get (k := (sb i)) (j := 6) O (lt9 hI (sb_lt0 hi)) (cv_st G hi (S.1 (sb i)) (S.2 (sb i))) rfl in_X6_isHeardRightly_X6 (by decide) fl_X6_isHeardRightly_30 rfl rfl dX6_isHeardRightly_17 ?_
  refine go_iload_n O dX6_isHeardRightly_20 rfl 2 rfl ?_
  obtain ⟨hb3, hF⟩ := chk_s hF
  refine go_iald (k := (sb i + 7)) O (lt9 hI (sb_lt hi (by decide : 7 < 13))) (cv_sta7 G hi (S.1 (sb i + 7)) (S.2 (sb i + 7))) (inB_in hb3) dX6_isHeardRightly_21 ?_
  refine go_iand O dX6_isHeardRightly_22 ?_
  refine go_ior O dX6_isHeardRightly_23 ?_
  refine go_aload_n O dX6_isHeardRightly_24 rfl 1 rfl ?_
  refine go_get (k := (sb i)) (j := 4) O (lt9 hI (sb_lt0 hi)) (cv_st G hi (S.1 (sb i)) (S.2 (sb i))) rfl in_X6_isHeardRightly_X6 (by decide) fl_X6_isHeardRightly_24 rfl rfl dX6_isHeardRightly_25 ?_
  refine go_iload_n O dX6_isHeardRightly_28 rfl 2 rfl ?_
  obtain ⟨hb4, hF⟩ := chk_s hF
  refine go_iald (k := (sb i + 5)) O (lt9 hI (sb_lt hi (by decide : 5 < 13))) (cv_sta5 G hi (S.1 (sb i + 5)) (S.2 (sb i + 5))) (inB_in hb4) dX6_isHeardRightly_29 ?_
  refine go_iload_n O dX6_isHeardRightly_30 rfl 4 rfl ?_
  refine go_iload O dX6_isHeardRightly_31 5 rfl ?_
  obtain ⟨x6, hA5, hF⟩ := bd_s hF
  refine go_callVi (As := [.int (x2 ||| (a2 &&& (S.1 (sb i + 7) a1.toNatClampNeg))), .int (S.1 (sb i + 5) a1.toNatClampNeg), .int a3, .int a4]) (rest := []) (b := (sb i)) O (c_X6_whoHearOf l G hI hi hA5) (fun s args hts => cwV 4 hts gX6_isHeardRightly_X6_whoHearOf rfl rfl rfl (by decide +kernel) ⟨Nat.le_of_ble_eq_true rfl, Nat.le_of_ble_eq_true rfl⟩) (lt9 hI (sb_lt0 hi)) (cv_st G hi (S.1 (sb i)) (S.2 (sb i))) rfl rfl rfl rfl (Nat.le_of_ble_eq_true rfl) dX6_isHeardRightly_33 ?_
  refine go_iload O dX6_isHeardRightly_36 0 rfl ?_
  refine go_icmp_ne (tgt := 45) O dX6_isHeardRightly_38 (by decide) (fun hc7 => ?_) (fun hc7 => ?_)
  · replace hF := it_f hc7 hF
    refine go_iconst (v := (0 : Int32)) O dX6_isHeardRightly_45 (by decide) ?_
    exact ret_z hF (fun hz => hR _ _ hz dX6_isHeardRightly_46) (show vp_nar .boolean (0 : Int32) = (0 : Int32) by decide)
  · replace hF := it_t hc7 hF
    refine go_iconst (v := (1 : Int32)) O dX6_isHeardRightly_41 (by decide) ?_
    refine go_goto (tgt := 46) O dX6_isHeardRightly_42 (by decide) ?_
    exact ret_z hF (fun hz => hR _ _ hz dX6_isHeardRightly_46) (show vp_nar .boolean (1 : Int32) = (1 : Int32) by decide)
-- X6_goTogether
def rm_X6_goTogether : Room := { frames := 4, cells := 0, slots := 0, locals := 120 }
theorem fl_X6_goTogether_24 : Cond.fieldLink RX6 24 "PaperWalls$Street" "speaker" "[I" ∈ wsX6_goTogether := by decide +kernel
theorem fl_X6_goTogether_47 : Cond.fieldLink RX6 47 "PaperWalls$Street" "talks" "I" ∈ wsX6_goTogether := by decide +kernel
theorem in_X6_goTogether_X6 : ∀ x ∈ u_ws RX6 TX6 11, x ∈ wsX6_goTogether := by decide +kernel
def T_X6_goTogether_7 (i : Nat) (S : Sg) (p1 : Int32) : Nat → Int32 → Int32 → Int32 → Option ((Int32) ⊕ (Int32))
  | 0, _, _, _ => none
  | n + 1, p2, p3, p4 => if (S.1 (sb i) 10) ≤ p4 then (some (.inl p3)) else (if ((p1 >>> (p4 &&& 31)) &&& (1 : Int32)) = 0 then (T_X6_goTogether_7 i S p1 n p2 p3 (p4 + (1 : Int32))) else (bd (F_X6_bothOf i S p4) (fun x3 => if (p2 &&& x3) = 0 then (bd (F_X6_bothOf i S p4) (fun x5 => nm (p2 ||| x5) (fun x6 => chk (inB p4 8) (nm (p3 ||| ((1 : Int32) <<< ((S.1 (sb i + 5) p4.toNatClampNeg) &&& 31))) (fun x8 => T_X6_goTogether_7 i S p1 n x6 x8 (p4 + (1 : Int32))))))) else (some (.inr (0 : Int32))))))
set_option maxHeartbeats 4000000 in
set_option maxRecDepth 100000 in
theorem lt_X6_goTogether_7 {X : XT} (l : Launch) (G : Gp) (hI : Gd G) {i : Nat} (hi : i < 5) {S : Sg} {p1 : Int32} (O : Ok X (wC G) cX6_goTogether RX6 wsX6_goTogether 6) : ∀ (n : Nat) (p2 : Int32) (p3 : Int32) (p4 : Int32)  (q : ((Int32) ⊕ (Int32))), T_X6_goTogether_7 i S p1 n p2 p3 p4  = some q → (∀ (z3 : Int32), q = .inl z3 → Go X l rm_X6_goTogether (wC G) 6 65 [(0, .ref (G.2.1 (sb i))), (1, .int p1), (3, .int z3)] [] S) → (∀ (r : Int32), q = .inr r → ∀ pc ls (hz : vp_nar .boolean r = r), decode cX6_goTogether pc = .ok (.ireturn, 1) → Go X l rm_X6_goTogether (wC G) 6 pc ls [.int r] S) → Go X l rm_X6_goTogether (wC G) 6 7 [(0, .ref (G.2.1 (sb i))), (1, .int p1), (2, .int p2), (3, .int p3), (4, .int p4)] [] S := by
  intro n
  induction n with
  | zero =>
    intro p2 p3 p4  q hF
    cases hF
  | succ n ih =>
    intro p2 p3 p4  q hF hE hR
    rw [T_X6_goTogether_7] at hF
    refine go_iload O dX6_goTogether_7 4 rfl ?_
    refine go_aload_n O dX6_goTogether_9 rfl 0 rfl ?_
    refine go_get (k := (sb i)) (j := 10) O (lt9 hI (sb_lt0 hi)) (cv_st G hi (S.1 (sb i)) (S.2 (sb i))) rfl in_X6_goTogether_X6 (by decide) fl_X6_goTogether_47 rfl rfl dX6_goTogether_10 ?_
    refine go_icmp_ge (tgt := 65) O dX6_goTogether_13 (by decide) (fun hc11 => ?_) (fun hc11 => ?_)
    · replace hF := it_t hc11 hF
      refine go_perm (ls' := [(0, .ref (G.2.1 (sb i))), (1, .int p1), (3, .int p3)]) [0, 1, 3] rfl ?_
      exact ret_q hF (fun hq => hE _ hq)
    · replace hF := it_f hc11 hF
      refine go_iload_n O dX6_goTogether_16 rfl 1 rfl ?_
      refine go_iload O dX6_goTogether_17 4 rfl ?_
      refine go_ishr O dX6_goTogether_19 ?_
      refine go_iconst (v := (1 : Int32)) O dX6_goTogether_20 (by decide) ?_
      refine go_iand O dX6_goTogether_21 ?_
      refine go_if_eq (tgt := 59) O dX6_goTogether_22 (by decide) (fun hc10 => ?_) (fun hc10 => ?_)
      · replace hF := it_t hc10 hF
        refine go_iinc (d := (1 : Int32)) (ls' := [(4, .int (p4 + (1 : Int32))), (0, .ref (G.2.1 (sb i))), (1, .int p1), (2, .int p2), (3, .int p3)]) O dX6_goTogether_59 4 rfl (by decide) (by decide) rfl ?_
        refine go_goto (tgt := 7) O dX6_goTogether_62 (by decide) ?_
        refine go_perm (ls' := [(0, .ref (G.2.1 (sb i))), (1, .int p1), (2, .int p2), (3, .int p3), (4, .int (p4 + (1 : Int32)))]) [1, 2, 3, 4, 0] rfl ?_
        exact ih _ _ _ _ hF hE hR
      · replace hF := it_f hc10 hF
        refine go_iload_n O dX6_goTogether_25 rfl 2 rfl ?_
        refine go_aload_n O dX6_goTogether_26 rfl 0 rfl ?_
        refine go_iload O dX6_goTogether_27 4 rfl ?_
        obtain ⟨x3, hA2, hF⟩ := bd_s hF
        refine go_callVi (As := [.int p4]) (rest := [.int p2]) (b := (sb i)) O (c_X6_bothOf l G hI hi hA2) (fun s args hts => cwV 1 hts gX6_goTogether_X6_bothOf rfl rfl rfl (by decide +kernel) ⟨Nat.le_of_ble_eq_true rfl, Nat.le_of_ble_eq_true rfl⟩) (lt9 hI (sb_lt0 hi)) (cv_st G hi (S.1 (sb i)) (S.2 (sb i))) rfl rfl rfl rfl (Nat.le_of_ble_eq_true rfl) dX6_goTogether_29 ?_
        refine go_iand O dX6_goTogether_32 ?_
        refine go_if_eq (tgt := 38) O dX6_goTogether_33 (by decide) (fun hc9 => ?_) (fun hc9 => ?_)
        · replace hF := it_t hc9 hF
          refine go_iload_n O dX6_goTogether_38 rfl 2 rfl ?_
          refine go_aload_n O dX6_goTogether_39 rfl 0 rfl ?_
          refine go_iload O dX6_goTogether_40 4 rfl ?_
          obtain ⟨x5, hA4, hF⟩ := bd_s hF
          refine go_callVi (As := [.int p4]) (rest := [.int p2]) (b := (sb i)) O (c_X6_bothOf l G hI hi hA4) (fun s args hts => cwV 1 hts gX6_goTogether_X6_bothOf rfl rfl rfl (by decide +kernel) ⟨Nat.le_of_ble_eq_true rfl, Nat.le_of_ble_eq_true rfl⟩) (lt9 hI (sb_lt0 hi)) (cv_st G hi (S.1 (sb i)) (S.2 (sb i))) rfl rfl rfl rfl (Nat.le_of_ble_eq_true rfl) dX6_goTogether_42 ?_
          refine go_ior O dX6_goTogether_45 ?_
          obtain ⟨x6, ex6, hF⟩ := nm_s hF
          refine go_topi ex6 ?_
          refine go_istore_n (ls' := [(2, .int x6), (0, .ref (G.2.1 (sb i))), (1, .int p1), (3, .int p3), (4, .int p4)]) O dX6_goTogether_46 rfl (by decide) rfl ?_
          refine go_iload_n O dX6_goTogether_47 rfl 3 rfl ?_
          refine go_iconst (v := (1 : Int32)) O dX6_goTogether_48 (by decide) ?_
          refine go_aload_n O dX6_goTogether_49 rfl 1 rfl ?_
          refine go_get (k := (sb i)) (j := 4) O (lt9 hI (sb_lt0 hi)) (cv_st G hi (S.1 (sb i)) (S.2 (sb i))) rfl in_X6_goTogether_X6 (by decide) fl_X6_goTogether_24 rfl rfl dX6_goTogether_50 ?_
          refine go_iload O dX6_goTogether_53 4 rfl ?_
          obtain ⟨hb7, hF⟩ := chk_s hF
          refine go_iald (k := (sb i + 5)) O (lt9 hI (sb_lt hi (by decide : 5 < 13))) (cv_sta5 G hi (S.1 (sb i + 5)) (S.2 (sb i + 5))) (inB_in hb7) dX6_goTogether_55 ?_
          refine go_ishl O dX6_goTogether_56 ?_
          refine go_ior O dX6_goTogether_57 ?_
          obtain ⟨x8, ex8, hF⟩ := nm_s hF
          refine go_topi ex8 ?_
          refine go_istore_n (ls' := [(3, .int x8), (2, .int x6), (0, .ref (G.2.1 (sb i))), (1, .int p1), (4, .int p4)]) O dX6_goTogether_58 rfl (by decide) rfl ?_
          refine go_iinc (d := (1 : Int32)) (ls' := [(4, .int (p4 + (1 : Int32))), (3, .int x8), (2, .int x6), (0, .ref (G.2.1 (sb i))), (1, .int p1)]) O dX6_goTogether_59 4 rfl (by decide) (by decide) rfl ?_
          refine go_goto (tgt := 7) O dX6_goTogether_62 (by decide) ?_
          refine go_perm (ls' := [(0, .ref (G.2.1 (sb i))), (1, .int p1), (2, .int x6), (3, .int x8), (4, .int (p4 + (1 : Int32)))]) [3, 4, 2, 1, 0] rfl ?_
          exact ih _ _ _ _ hF hE hR
        · replace hF := it_f hc9 hF
          refine go_iconst (v := (0 : Int32)) O dX6_goTogether_36 (by decide) ?_
          exact ret_q hF (fun hq => hR _ hq _ _ (show vp_nar .boolean (0 : Int32) = (0 : Int32) by decide) dX6_goTogether_37)
def T_X6_goTogether_68 (i : Nat) (S : Sg) (p1 : Int32) (p3 : Int32) : Nat → Int32 → Option ((Unit) ⊕ (Int32))
  | 0, _ => none
  | n + 1, p4 => if (S.1 (sb i) 10) ≤ p4 then (some (.inl ())) else (chk (inB p4 8) (nm (p3 &&& (((1 : Int32) <<< ((S.1 (sb i + 5) p4.toNatClampNeg) &&& 31)) ^^^ (-1 : Int32))) (fun x14 => if ((p1 >>> (p4 &&& 31)) &&& (1 : Int32)) = 0 then (T_X6_goTogether_68 i S p1 p3 n (p4 + (1 : Int32))) else (bd (F_X6_everyone i S) (fun x16 => bd (F_X6_isHeardRightly i S p4 x16 (0 : Int32) x14) (fun x18 => if x18 = 0 then (some (.inr (0 : Int32))) else (T_X6_goTogether_68 i S p1 p3 n (p4 + (1 : Int32)))))))))
set_option maxHeartbeats 4000000 in
set_option maxRecDepth 100000 in
theorem lt_X6_goTogether_68 {X : XT} (l : Launch) (G : Gp) (hI : Gd G) {i : Nat} (hi : i < 5) {S : Sg} {p1 : Int32} {p3 : Int32} (O : Ok X (wC G) cX6_goTogether RX6 wsX6_goTogether 6) : ∀ (n : Nat) (p4 : Int32)  (q : ((Unit) ⊕ (Int32))), T_X6_goTogether_68 i S p1 p3 n p4  = some q → (q = .inl () → Go X l rm_X6_goTogether (wC G) 6 125 [] [] S) → (∀ (r : Int32), q = .inr r → ∀ pc ls (hz : vp_nar .boolean r = r), decode cX6_goTogether pc = .ok (.ireturn, 1) → Go X l rm_X6_goTogether (wC G) 6 pc ls [.int r] S) → Go X l rm_X6_goTogether (wC G) 6 68 [(0, .ref (G.2.1 (sb i))), (1, .int p1), (3, .int p3), (4, .int p4)] [] S := by
  intro n
  induction n with
  | zero =>
    intro p4  q hF
    cases hF
  | succ n ih =>
    intro p4  q hF hE hR
    rw [T_X6_goTogether_68] at hF
    refine go_iload O dX6_goTogether_68 3 rfl ?_
    refine go_aload_n O dX6_goTogether_70 rfl 0 rfl ?_
    refine go_get (k := (sb i)) (j := 10) O (lt9 hI (sb_lt0 hi)) (cv_st G hi (S.1 (sb i)) (S.2 (sb i))) rfl in_X6_goTogether_X6 (by decide) fl_X6_goTogether_47 rfl rfl dX6_goTogether_71 ?_
    refine go_icmp_ge (tgt := 125) O dX6_goTogether_74 (by decide) (fun hc21 => ?_) (fun hc21 => ?_)
    · replace hF := it_t hc21 hF
      refine go_perm (ls' := []) [] rfl ?_
      exact ret_q hF (fun hq => hE  hq)
    · replace hF := it_f hc21 hF
      refine go_iload_n O dX6_goTogether_77 rfl 2 rfl ?_
      refine go_iconst (v := (1 : Int32)) O dX6_goTogether_78 (by decide) ?_
      refine go_aload_n O dX6_goTogether_79 rfl 0 rfl ?_
      refine go_get (k := (sb i)) (j := 4) O (lt9 hI (sb_lt0 hi)) (cv_st G hi (S.1 (sb i)) (S.2 (sb i))) rfl in_X6_goTogether_X6 (by decide) fl_X6_goTogether_24 rfl rfl dX6_goTogether_80 ?_
      refine go_iload O dX6_goTogether_83 3 rfl ?_
      obtain ⟨hb13, hF⟩ := chk_s hF
      refine go_iald (k := (sb i + 5)) O (lt9 hI (sb_lt hi (by decide : 5 < 13))) (cv_sta5 G hi (S.1 (sb i + 5)) (S.2 (sb i + 5))) (inB_in hb13) dX6_goTogether_85 ?_
      refine go_ishl O dX6_goTogether_86 ?_
      refine go_iconst (v := (-1 : Int32)) O dX6_goTogether_87 (by decide) ?_
      refine go_ixor O dX6_goTogether_88 ?_
      refine go_iand O dX6_goTogether_89 ?_
      obtain ⟨x14, ex14, hF⟩ := nm_s hF
      refine go_topi ex14 ?_
      refine go_istore (ls' := [(5, .int x14), (0, .ref (G.2.1 (sb i))), (1, .int p1), (3, .int p3), (4, .int p4)]) O dX6_goTogether_90 (by decide) rfl ?_
      refine go_iload_n O dX6_goTogether_92 rfl 2 rfl ?_
      refine go_iload O dX6_goTogether_93 4 rfl ?_
      refine go_ishr O dX6_goTogether_95 ?_
      refine go_iconst (v := (1 : Int32)) O dX6_goTogether_96 (by decide) ?_
      refine go_iand O dX6_goTogether_97 ?_
      refine go_if_eq (tgt := 119) O dX6_goTogether_98 (by decide) (fun hc20 => ?_) (fun hc20 => ?_)
      · replace hF := it_t hc20 hF
        refine go_iinc (d := (1 : Int32)) (ls' := [(4, .int (p4 + (1 : Int32))), (5, .int x14), (0, .ref (G.2.1 (sb i))), (1, .int p1), (3, .int p3)]) O dX6_goTogether_119 4 rfl (by decide) (by decide) rfl ?_
        refine go_goto (tgt := 68) O dX6_goTogether_122 (by decide) ?_
        refine go_perm (ls' := [(0, .ref (G.2.1 (sb i))), (1, .int p1), (3, .int p3), (4, .int (p4 + (1 : Int32)))]) [2, 3, 4, 0] rfl ?_
        exact ih _ _ hF hE hR
      · replace hF := it_f hc20 hF
        refine go_aload_n O dX6_goTogether_101 rfl 1 rfl ?_
        refine go_iload O dX6_goTogether_102 4 rfl ?_
        refine go_aload_n O dX6_goTogether_104 rfl 1 rfl ?_
        obtain ⟨x16, hA15, hF⟩ := bd_s hF
        refine go_callVi (As := []) (rest := [.int p4, .ref (G.2.1 (sb i))]) (b := (sb i)) O (c_X6_everyone l G hI hi hA15) (fun s args hts => cwV 0 hts gX6_goTogether_X6_everyone rfl rfl rfl (by decide +kernel) ⟨Nat.le_of_ble_eq_true rfl, Nat.le_of_ble_eq_true rfl⟩) (lt9 hI (sb_lt0 hi)) (cv_st G hi (S.1 (sb i)) (S.2 (sb i))) rfl rfl rfl rfl (Nat.le_of_ble_eq_true rfl) dX6_goTogether_105 ?_
        refine go_iconst (v := (0 : Int32)) O dX6_goTogether_108 (by decide) ?_
        refine go_iload O dX6_goTogether_109 0 rfl ?_
        obtain ⟨x18, hA17, hF⟩ := bd_s hF
        refine go_callVi (As := [.int p4, .int x16, .int (0 : Int32), .int x14]) (rest := []) (b := (sb i)) O (c_X6_isHeardRightly l G hI hi hA17) (fun s args hts => cwV 4 hts gX6_goTogether_X6_isHeardRightly rfl rfl rfl (by decide +kernel) ⟨Nat.le_of_ble_eq_true rfl, Nat.le_of_ble_eq_true rfl⟩) (lt9 hI (sb_lt0 hi)) (cv_st G hi (S.1 (sb i)) (S.2 (sb i))) rfl rfl rfl rfl (Nat.le_of_ble_eq_true rfl) dX6_goTogether_111 ?_
        refine go_if_ne (tgt := 119) O dX6_goTogether_114 (by decide) (fun hc19 => ?_) (fun hc19 => ?_)
        · replace hF := it_f hc19 hF
          refine go_iinc (d := (1 : Int32)) (ls' := [(4, .int (p4 + (1 : Int32))), (5, .int x14), (0, .ref (G.2.1 (sb i))), (1, .int p1), (3, .int p3)]) O dX6_goTogether_119 4 rfl (by decide) (by decide) rfl ?_
          refine go_goto (tgt := 68) O dX6_goTogether_122 (by decide) ?_
          refine go_perm (ls' := [(0, .ref (G.2.1 (sb i))), (1, .int p1), (3, .int p3), (4, .int (p4 + (1 : Int32)))]) [2, 3, 4, 0] rfl ?_
          exact ih _ _ hF hE hR
        · replace hF := it_t hc19 hF
          refine go_iconst (v := (0 : Int32)) O dX6_goTogether_117 (by decide) ?_
          exact ret_q hF (fun hq => hR _ hq _ _ (show vp_nar .boolean (0 : Int32) = (0 : Int32) by decide) dX6_goTogether_118)
def F_X6_goTogether (i : Nat) (S : Sg) (a1 : Int32) : Option Int32 := bd (T_X6_goTogether_7 i S a1 FU (0 : Int32) (0 : Int32) (0 : Int32)) (fun q => match q with | .inl x1 => bd (T_X6_goTogether_68 i S a1 x1 FU (0 : Int32)) (fun q => match q with | .inl () => some (1 : Int32) | .inr r => some r) | .inr r => some r)
set_option maxHeartbeats 4000000 in
set_option maxRecDepth 100000 in
theorem c_X6_goTogether (l : Launch) (G : Gp) (hI : Gd G) {i : Nat} (hi : i < 5) {S : Sg} {a1 : Int32} {r : Int32} (hF : F_X6_goTogether i S a1 = some r) : Met l yX6_goTogether wsX6_goTogether rm_X6_goTogether (va_Pc [.ref (G.2.1 (sb i)), .int a1] (PreW (wC G) S)) (va_Qi (fun r' u => r' = r ∧ u = S) (PostW (wC G)) (AW (wC G))) 0 0 (AW (wC G)) := by
  rw [F_X6_goTogether] at hF
  refine met_z (cc := cX6_goTogether) (maxL := 6) (own := RX6) hI.1 (by decide) rfl rfl (Nat.le_of_ble_eq_true rfl) (fun X O hR => ?_)
  show Go X l rm_X6_goTogether (wC G) 6 0 [(0, .ref (G.2.1 (sb i))), (1, .int a1)] [] S
  refine go_iconst (v := (0 : Int32)) O dX6_goTogether_0 (by decide) ?_
  refine go_istore_n (ls' := [(2, .int (0 : Int32)), (0, .ref (G.2.1 (sb i))), (1, .int a1)]) O dX6_goTogether_1 rfl (by decide) rfl ?_
  refine go_iconst (v := (0 : Int32)) O dX6_goTogether_2 (by decide) ?_
  refine go_istore_n (ls' := [(3, .int (0 : Int32)), (2, .int (0 : Int32)), (0, .ref (G.2.1 (sb i))), (1, .int a1)]) O dX6_goTogether_3 rfl (by decide) rfl ?_
  refine go_iconst (v := (0 : Int32)) O dX6_goTogether_4 (by decide) ?_
  refine go_istore (ls' := [(4, .int (0 : Int32)), (3, .int (0 : Int32)), (2, .int (0 : Int32)), (0, .ref (G.2.1 (sb i))), (1, .int a1)]) O dX6_goTogether_5 (by decide) rfl ?_
  refine go_perm (ls' := [(0, .ref (G.2.1 (sb i))), (1, .int a1), (2, .int (0 : Int32)), (3, .int (0 : Int32)), (4, .int (0 : Int32))]) [3, 4, 2, 1, 0] rfl ?_
  obtain ⟨q24, hA12, hF⟩ := bd_s hF
  refine lt_X6_goTogether_7 l G hI hi O _ _ _ _ _ hA12 (fun x1 hq => ?_) ?_
  · subst hq
    refine go_iconst (v := (0 : Int32)) O dX6_goTogether_65 (by decide) ?_
    refine go_istore (ls' := [(4, .int (0 : Int32)), (0, .ref (G.2.1 (sb i))), (1, .int a1), (3, .int x1)]) O dX6_goTogether_66 (by decide) rfl ?_
    refine go_perm (ls' := [(0, .ref (G.2.1 (sb i))), (1, .int a1), (3, .int x1), (4, .int (0 : Int32))]) [1, 2, 3, 0] rfl ?_
    obtain ⟨q23, hA22, hF⟩ := bd_s hF
    refine lt_X6_goTogether_68 l G hI hi O _ _ _ hA22 (fun hq => ?_) ?_
    · subst hq
      refine go_iconst (v := (1 : Int32)) O dX6_goTogether_125 (by decide) ?_
      exact ret_z hF (fun hz => hR _ _ hz dX6_goTogether_126) (show vp_nar .boolean (1 : Int32) = (1 : Int32) by decide)
    · intro r hq pc ls hz hd
      subst hq
      exact ret_z hF (fun hz => hR _ _ hz hd) hz
  · intro r hq pc ls hz hd
    subst hq
    exact ret_z hF (fun hz => hR _ _ hz hd) hz
-- X6_become
def rm_X6_become : Room := { frames := 2, cells := 0, slots := 0, locals := 101 }
theorem fl_X6_become_11 : Cond.fieldLink RX6 11 "PaperWalls$Street" "layers" "[I" ∈ wsX6_become := by decide +kernel
theorem fl_X6_become_15 : Cond.fieldLink RX6 15 "PaperWalls$Street" "depth" "[I" ∈ wsX6_become := by decide +kernel
theorem fl_X6_become_18 : Cond.fieldLink RX6 18 "PaperWalls$Street" "kinds" "[I" ∈ wsX6_become := by decide +kernel
theorem fl_X6_become_21 : Cond.fieldLink RX6 21 "PaperWalls$Street" "rooms" "[I" ∈ wsX6_become := by decide +kernel
theorem fl_X6_become_24 : Cond.fieldLink RX6 24 "PaperWalls$Street" "speaker" "[I" ∈ wsX6_become := by decide +kernel
theorem fl_X6_become_27 : Cond.fieldLink RX6 27 "PaperWalls$Street" "hearer" "[I" ∈ wsX6_become := by decide +kernel
theorem fl_X6_become_30 : Cond.fieldLink RX6 30 "PaperWalls$Street" "barred" "[I" ∈ wsX6_become := by decide +kernel
theorem fl_X6_become_36 : Cond.fieldLink RX6 36 "PaperWalls$Street" "hours" "LPaperWalls$Hours;" ∈ wsX6_become := by decide +kernel
theorem fl_X6_become_40 : Cond.fieldLink RX6 40 "PaperWalls$Street" "walls" "I" ∈ wsX6_become := by decide +kernel
theorem fl_X6_become_44 : Cond.fieldLink RX6 44 "PaperWalls$Street" "people" "I" ∈ wsX6_become := by decide +kernel
theorem fl_X6_become_47 : Cond.fieldLink RX6 47 "PaperWalls$Street" "talks" "I" ∈ wsX6_become := by decide +kernel
theorem wd_X6_become_iss : Cond.initialized "java/lang/System" ∈ wsX6_become := by decide +kernel
theorem wd_X6_become_m50 : Cond.methodLink RX6 50 arraycopyName ∈ wsX6_become := by decide +kernel
theorem wd_X6_become_nat : Cond.native arraycopyName ∈ wsX6_become := by decide +kernel
theorem wd_X6_become_sac : Cond.static arraycopyName ∈ wsX6_become := by decide +kernel
theorem in_X6_become_X6 : ∀ x ∈ u_ws RX6 TX6 11, x ∈ wsX6_become := by decide +kernel
def F_X6_become (i : Nat) (j : Nat) (S : Sg)  : Option Sg := nm (wI S (sb i) 8 (S.1 (sb j) 8)) (fun S1 => nm (wI S1 (sb i) 9 (S1.1 (sb j) 9)) (fun S2 => nm (wI S2 (sb i) 10 (S2.1 (sb j) 10)) (fun S3 => chk (cpB (0 : Int32) (0 : Int32) (6 : Int32) 6 6) (nm (cpI S3 (sb j + 1) (0 : Int32).toNatClampNeg (sb i + 1) (0 : Int32).toNatClampNeg (6 : Int32).toNatClampNeg) (fun S4 => chk (cpB (0 : Int32) (0 : Int32) (7 : Int32) 7 7) (nm (cpI S4 (sb j + 2) (0 : Int32).toNatClampNeg (sb i + 2) (0 : Int32).toNatClampNeg (7 : Int32).toNatClampNeg) (fun S6 => chk (cpB (0 : Int32) (0 : Int32) (7 : Int32) 7 7) (nm (cpI S6 (sb j + 3) (0 : Int32).toNatClampNeg (sb i + 3) (0 : Int32).toNatClampNeg (7 : Int32).toNatClampNeg) (fun S8 => chk (cpB (0 : Int32) (0 : Int32) (7 : Int32) 7 7) (nm (cpI S8 (sb j + 4) (0 : Int32).toNatClampNeg (sb i + 4) (0 : Int32).toNatClampNeg (7 : Int32).toNatClampNeg) (fun S10 => chk (cpB (0 : Int32) (0 : Int32) (8 : Int32) 8 8) (nm (cpI S10 (sb j + 5) (0 : Int32).toNatClampNeg (sb i + 5) (0 : Int32).toNatClampNeg (8 : Int32).toNatClampNeg) (fun S12 => chk (cpB (0 : Int32) (0 : Int32) (8 : Int32) 8 8) (nm (cpI S12 (sb j + 6) (0 : Int32).toNatClampNeg (sb i + 6) (0 : Int32).toNatClampNeg (8 : Int32).toNatClampNeg) (fun S14 => chk (cpB (0 : Int32) (0 : Int32) (8 : Int32) 8 8) (nm (cpI S14 (sb j + 7) (0 : Int32).toNatClampNeg (sb i + 7) (0 : Int32).toNatClampNeg (8 : Int32).toNatClampNeg) (fun S16 => bd (F_X1_become i j S16) (fun S19 => some S19))))))))))))))))))
set_option maxHeartbeats 4000000 in
set_option maxRecDepth 100000 in
theorem c_X6_become (l : Launch) (G : Gp) (hI : Gd G) {i : Nat} {j : Nat} (hi : i < 5) (hj : j < 5) {S : Sg} {S1 : Sg} (hF : F_X6_become i j S = some S1) : Met l yX6_become wsX6_become rm_X6_become (va_Pc [.ref (G.2.1 (sb i)), .ref (G.2.1 (sb j))] (PreW (wC G) S)) (va_Qv (fun u => u = S1) (PostW (wC G)) (AW (wC G))) 0 0 (AW (wC G)) := by
  rw [F_X6_become] at hF
  refine met_v (cc := cX6_become) (maxL := 2) (own := RX6) hI.1 (by decide) rfl rfl (Nat.le_of_ble_eq_true rfl) (fun X O hR => ?_)
  show Go X l rm_X6_become (wC G) 2 0 [(0, .ref (G.2.1 (sb i))), (1, .ref (G.2.1 (sb j)))] [] S
  refine go_aload_n O dX6_become_0 rfl 0 rfl ?_
  refine go_aload_n O dX6_become_1 rfl 1 rfl ?_
  refine go_get (k := (sb j)) (j := 8) O (lt9 hI (sb_lt0 hj)) (cv_st G hj (S.1 (sb j)) (S.2 (sb j))) rfl in_X6_become_X6 (by decide) fl_X6_become_40 rfl rfl dX6_become_2 ?_
  obtain ⟨S1, eS1, hF⟩ := nm_s hF
  refine go_putI (k := (sb i)) (j := 8) O (lt9 hI (sb_lt0 hi)) (cv_st G hi (S.1 (sb i)) (S.2 (sb i))) rfl in_X6_become_X6 (by decide) fl_X6_become_40 rfl tyX6 tyX6_ok nmX6 rfl (by decide +kernel) (Nat.le_of_ble_eq_true rfl) (cv_st G hi (upd (S.1 (sb i)) 8 (S.1 (sb j) 8)) (S.2 (sb i))) dX6_become_5 eS1 ?_
  refine go_aload_n O dX6_become_8 rfl 0 rfl ?_
  refine go_aload_n O dX6_become_9 rfl 1 rfl ?_
  refine go_get (k := (sb j)) (j := 9) O (lt9 hI (sb_lt0 hj)) (cv_st G hj (S1.1 (sb j)) (S1.2 (sb j))) rfl in_X6_become_X6 (by decide) fl_X6_become_44 rfl rfl dX6_become_10 ?_
  obtain ⟨S2, eS2, hF⟩ := nm_s hF
  refine go_putI (k := (sb i)) (j := 9) O (lt9 hI (sb_lt0 hi)) (cv_st G hi (S1.1 (sb i)) (S1.2 (sb i))) rfl in_X6_become_X6 (by decide) fl_X6_become_44 rfl tyX6 tyX6_ok nmX6 rfl (by decide +kernel) (Nat.le_of_ble_eq_true rfl) (cv_st G hi (upd (S1.1 (sb i)) 9 (S1.1 (sb j) 9)) (S1.2 (sb i))) dX6_become_13 eS2 ?_
  refine go_aload_n O dX6_become_16 rfl 0 rfl ?_
  refine go_aload_n O dX6_become_17 rfl 1 rfl ?_
  refine go_get (k := (sb j)) (j := 10) O (lt9 hI (sb_lt0 hj)) (cv_st G hj (S2.1 (sb j)) (S2.2 (sb j))) rfl in_X6_become_X6 (by decide) fl_X6_become_47 rfl rfl dX6_become_18 ?_
  obtain ⟨S3, eS3, hF⟩ := nm_s hF
  refine go_putI (k := (sb i)) (j := 10) O (lt9 hI (sb_lt0 hi)) (cv_st G hi (S2.1 (sb i)) (S2.2 (sb i))) rfl in_X6_become_X6 (by decide) fl_X6_become_47 rfl tyX6 tyX6_ok nmX6 rfl (by decide +kernel) (Nat.le_of_ble_eq_true rfl) (cv_st G hi (upd (S2.1 (sb i)) 10 (S2.1 (sb j) 10)) (S2.2 (sb i))) dX6_become_21 eS3 ?_
  refine go_aload_n O dX6_become_24 rfl 1 rfl ?_
  refine go_get (k := (sb j)) (j := 0) O (lt9 hI (sb_lt0 hj)) (cv_st G hj (S3.1 (sb j)) (S3.2 (sb j))) rfl in_X6_become_X6 (by decide) fl_X6_become_11 rfl rfl dX6_become_25 ?_
  refine go_iconst (v := (0 : Int32)) O dX6_become_28 (by decide) ?_
  refine go_aload_n O dX6_become_29 rfl 0 rfl ?_
  refine go_get (k := (sb i)) (j := 0) O (lt9 hI (sb_lt0 hi)) (cv_st G hi (S3.1 (sb i)) (S3.2 (sb i))) rfl in_X6_become_X6 (by decide) fl_X6_become_11 rfl rfl dX6_become_30 ?_
  refine go_iconst (v := (0 : Int32)) O dX6_become_33 (by decide) ?_
  refine go_bipush (v := (6 : Int32)) O dX6_become_34 (by decide) ?_
  obtain ⟨hc5, hF⟩ := chk_s hF
  obtain ⟨S4, eS4, hF⟩ := nm_s hF
  refine go_cpyI (k1 := (sb j + 1)) (k2 := (sb i + 1)) O wd_X6_become_m50 wd_X6_become_nat wd_X6_become_sac wd_X6_become_iss (lt9 hI (sb_lt hj (by decide : 1 < 13))) (lt9 hI (sb_lt hi (by decide : 1 < 13))) (cv_sta1 G hj (S3.1 (sb j + 1)) (S3.2 (sb j + 1))) (cv_sta1 G hi (S3.1 (sb i + 1)) (S3.2 (sb i + 1))) (cv_sta1 G hi (va_cpy (S3.1 (sb j + 1)) (S3.1 (sb i + 1)) (0 : Int32).toNatClampNeg (0 : Int32).toNatClampNeg (6 : Int32).toNatClampNeg) (S3.2 (sb i + 1))) (cpB_s hc5).1 (cpB_s hc5).2.1 (cpB_s hc5).2.2.1 (cpB_s hc5).2.2.2.1 (cpB_s hc5).2.2.2.2 (by decide) (Nat.le_of_ble_eq_true rfl) dX6_become_36 eS4 ?_
  refine go_aload_n O dX6_become_39 rfl 1 rfl ?_
  refine go_get (k := (sb j)) (j := 1) O (lt9 hI (sb_lt0 hj)) (cv_st G hj (S4.1 (sb j)) (S4.2 (sb j))) rfl in_X6_become_X6 (by decide) fl_X6_become_15 rfl rfl dX6_become_40 ?_
  refine go_iconst (v := (0 : Int32)) O dX6_become_43 (by decide) ?_
  refine go_aload_n O dX6_become_44 rfl 0 rfl ?_
  refine go_get (k := (sb i)) (j := 1) O (lt9 hI (sb_lt0 hi)) (cv_st G hi (S4.1 (sb i)) (S4.2 (sb i))) rfl in_X6_become_X6 (by decide) fl_X6_become_15 rfl rfl dX6_become_45 ?_
  refine go_iconst (v := (0 : Int32)) O dX6_become_48 (by decide) ?_
  refine go_bipush (v := (7 : Int32)) O dX6_become_49 (by decide) ?_
  obtain ⟨hc7, hF⟩ := chk_s hF
  obtain ⟨S6, eS6, hF⟩ := nm_s hF
  refine go_cpyI (k1 := (sb j + 2)) (k2 := (sb i + 2)) O wd_X6_become_m50 wd_X6_become_nat wd_X6_become_sac wd_X6_become_iss (lt9 hI (sb_lt hj (by decide : 2 < 13))) (lt9 hI (sb_lt hi (by decide : 2 < 13))) (cv_sta2 G hj (S4.1 (sb j + 2)) (S4.2 (sb j + 2))) (cv_sta2 G hi (S4.1 (sb i + 2)) (S4.2 (sb i + 2))) (cv_sta2 G hi (va_cpy (S4.1 (sb j + 2)) (S4.1 (sb i + 2)) (0 : Int32).toNatClampNeg (0 : Int32).toNatClampNeg (7 : Int32).toNatClampNeg) (S4.2 (sb i + 2))) (cpB_s hc7).1 (cpB_s hc7).2.1 (cpB_s hc7).2.2.1 (cpB_s hc7).2.2.2.1 (cpB_s hc7).2.2.2.2 (by decide) (Nat.le_of_ble_eq_true rfl) dX6_become_51 eS6 ?_
  refine go_aload_n O dX6_become_54 rfl 1 rfl ?_
  refine go_get (k := (sb j)) (j := 2) O (lt9 hI (sb_lt0 hj)) (cv_st G hj (S6.1 (sb j)) (S6.2 (sb j))) rfl in_X6_become_X6 (by decide) fl_X6_become_18 rfl rfl dX6_become_55 ?_
  refine go_iconst (v := (0 : Int32)) O dX6_become_58 (by decide) ?_
  refine go_aload_n O dX6_become_59 rfl 0 rfl ?_
  refine go_get (k := (sb i)) (j := 2) O (lt9 hI (sb_lt0 hi)) (cv_st G hi (S6.1 (sb i)) (S6.2 (sb i))) rfl in_X6_become_X6 (by decide) fl_X6_become_18 rfl rfl dX6_become_60 ?_
  refine go_iconst (v := (0 : Int32)) O dX6_become_63 (by decide) ?_
  refine go_bipush (v := (7 : Int32)) O dX6_become_64 (by decide) ?_
  obtain ⟨hc9, hF⟩ := chk_s hF
  obtain ⟨S8, eS8, hF⟩ := nm_s hF
  refine go_cpyI (k1 := (sb j + 3)) (k2 := (sb i + 3)) O wd_X6_become_m50 wd_X6_become_nat wd_X6_become_sac wd_X6_become_iss (lt9 hI (sb_lt hj (by decide : 3 < 13))) (lt9 hI (sb_lt hi (by decide : 3 < 13))) (cv_sta3 G hj (S6.1 (sb j + 3)) (S6.2 (sb j + 3))) (cv_sta3 G hi (S6.1 (sb i + 3)) (S6.2 (sb i + 3))) (cv_sta3 G hi (va_cpy (S6.1 (sb j + 3)) (S6.1 (sb i + 3)) (0 : Int32).toNatClampNeg (0 : Int32).toNatClampNeg (7 : Int32).toNatClampNeg) (S6.2 (sb i + 3))) (cpB_s hc9).1 (cpB_s hc9).2.1 (cpB_s hc9).2.2.1 (cpB_s hc9).2.2.2.1 (cpB_s hc9).2.2.2.2 (by decide) (Nat.le_of_ble_eq_true rfl) dX6_become_66 eS8 ?_
  refine go_aload_n O dX6_become_69 rfl 1 rfl ?_
  refine go_get (k := (sb j)) (j := 3) O (lt9 hI (sb_lt0 hj)) (cv_st G hj (S8.1 (sb j)) (S8.2 (sb j))) rfl in_X6_become_X6 (by decide) fl_X6_become_21 rfl rfl dX6_become_70 ?_
  refine go_iconst (v := (0 : Int32)) O dX6_become_73 (by decide) ?_
  refine go_aload_n O dX6_become_74 rfl 0 rfl ?_
  refine go_get (k := (sb i)) (j := 3) O (lt9 hI (sb_lt0 hi)) (cv_st G hi (S8.1 (sb i)) (S8.2 (sb i))) rfl in_X6_become_X6 (by decide) fl_X6_become_21 rfl rfl dX6_become_75 ?_
  refine go_iconst (v := (0 : Int32)) O dX6_become_78 (by decide) ?_
  refine go_bipush (v := (7 : Int32)) O dX6_become_79 (by decide) ?_
  obtain ⟨hc11, hF⟩ := chk_s hF
  obtain ⟨S10, eS10, hF⟩ := nm_s hF
  refine go_cpyI (k1 := (sb j + 4)) (k2 := (sb i + 4)) O wd_X6_become_m50 wd_X6_become_nat wd_X6_become_sac wd_X6_become_iss (lt9 hI (sb_lt hj (by decide : 4 < 13))) (lt9 hI (sb_lt hi (by decide : 4 < 13))) (cv_sta4 G hj (S8.1 (sb j + 4)) (S8.2 (sb j + 4))) (cv_sta4 G hi (S8.1 (sb i + 4)) (S8.2 (sb i + 4))) (cv_sta4 G hi (va_cpy (S8.1 (sb j + 4)) (S8.1 (sb i + 4)) (0 : Int32).toNatClampNeg (0 : Int32).toNatClampNeg (7 : Int32).toNatClampNeg) (S8.2 (sb i + 4))) (cpB_s hc11).1 (cpB_s hc11).2.1 (cpB_s hc11).2.2.1 (cpB_s hc11).2.2.2.1 (cpB_s hc11).2.2.2.2 (by decide) (Nat.le_of_ble_eq_true rfl) dX6_become_81 eS10 ?_
  refine go_aload_n O dX6_become_84 rfl 1 rfl ?_
  refine go_get (k := (sb j)) (j := 4) O (lt9 hI (sb_lt0 hj)) (cv_st G hj (S10.1 (sb j)) (S10.2 (sb j))) rfl in_X6_become_X6 (by decide) fl_X6_become_24 rfl rfl dX6_become_85 ?_
  refine go_iconst (v := (0 : Int32)) O dX6_become_88 (by decide) ?_
  refine go_aload_n O dX6_become_89 rfl 0 rfl ?_
  refine go_get (k := (sb i)) (j := 4) O (lt9 hI (sb_lt0 hi)) (cv_st G hi (S10.1 (sb i)) (S10.2 (sb i))) rfl in_X6_become_X6 (by decide) fl_X6_become_24 rfl rfl dX6_become_90 ?_
  refine go_iconst (v := (0 : Int32)) O dX6_become_93 (by decide) ?_
  refine go_bipush (v := (8 : Int32)) O dX6_become_94 (by decide) ?_
  obtain ⟨hc13, hF⟩ := chk_s hF
  obtain ⟨S12, eS12, hF⟩ := nm_s hF
  refine go_cpyI (k1 := (sb j + 5)) (k2 := (sb i + 5)) O wd_X6_become_m50 wd_X6_become_nat wd_X6_become_sac wd_X6_become_iss (lt9 hI (sb_lt hj (by decide : 5 < 13))) (lt9 hI (sb_lt hi (by decide : 5 < 13))) (cv_sta5 G hj (S10.1 (sb j + 5)) (S10.2 (sb j + 5))) (cv_sta5 G hi (S10.1 (sb i + 5)) (S10.2 (sb i + 5))) (cv_sta5 G hi (va_cpy (S10.1 (sb j + 5)) (S10.1 (sb i + 5)) (0 : Int32).toNatClampNeg (0 : Int32).toNatClampNeg (8 : Int32).toNatClampNeg) (S10.2 (sb i + 5))) (cpB_s hc13).1 (cpB_s hc13).2.1 (cpB_s hc13).2.2.1 (cpB_s hc13).2.2.2.1 (cpB_s hc13).2.2.2.2 (by decide) (Nat.le_of_ble_eq_true rfl) dX6_become_96 eS12 ?_
  refine go_aload_n O dX6_become_99 rfl 1 rfl ?_
  refine go_get (k := (sb j)) (j := 5) O (lt9 hI (sb_lt0 hj)) (cv_st G hj (S12.1 (sb j)) (S12.2 (sb j))) rfl in_X6_become_X6 (by decide) fl_X6_become_27 rfl rfl dX6_become_100 ?_
  refine go_iconst (v := (0 : Int32)) O dX6_become_103 (by decide) ?_
  refine go_aload_n O dX6_become_104 rfl 0 rfl ?_
  refine go_get (k := (sb i)) (j := 5) O (lt9 hI (sb_lt0 hi)) (cv_st G hi (S12.1 (sb i)) (S12.2 (sb i))) rfl in_X6_become_X6 (by decide) fl_X6_become_27 rfl rfl dX6_become_105 ?_
  refine go_iconst (v := (0 : Int32)) O dX6_become_108 (by decide) ?_
  refine go_bipush (v := (8 : Int32)) O dX6_become_109 (by decide) ?_
  obtain ⟨hc15, hF⟩ := chk_s hF
  obtain ⟨S14, eS14, hF⟩ := nm_s hF
  refine go_cpyI (k1 := (sb j + 6)) (k2 := (sb i + 6)) O wd_X6_become_m50 wd_X6_become_nat wd_X6_become_sac wd_X6_become_iss (lt9 hI (sb_lt hj (by decide : 6 < 13))) (lt9 hI (sb_lt hi (by decide : 6 < 13))) (cv_sta6 G hj (S12.1 (sb j + 6)) (S12.2 (sb j + 6))) (cv_sta6 G hi (S12.1 (sb i + 6)) (S12.2 (sb i + 6))) (cv_sta6 G hi (va_cpy (S12.1 (sb j + 6)) (S12.1 (sb i + 6)) (0 : Int32).toNatClampNeg (0 : Int32).toNatClampNeg (8 : Int32).toNatClampNeg) (S12.2 (sb i + 6))) (cpB_s hc15).1 (cpB_s hc15).2.1 (cpB_s hc15).2.2.1 (cpB_s hc15).2.2.2.1 (cpB_s hc15).2.2.2.2 (by decide) (Nat.le_of_ble_eq_true rfl) dX6_become_111 eS14 ?_
  refine go_aload_n O dX6_become_114 rfl 1 rfl ?_
  refine go_get (k := (sb j)) (j := 6) O (lt9 hI (sb_lt0 hj)) (cv_st G hj (S14.1 (sb j)) (S14.2 (sb j))) rfl in_X6_become_X6 (by decide) fl_X6_become_30 rfl rfl dX6_become_115 ?_
  refine go_iconst (v := (0 : Int32)) O dX6_become_118 (by decide) ?_
  refine go_aload_n O dX6_become_119 rfl 0 rfl ?_
  refine go_get (k := (sb i)) (j := 6) O (lt9 hI (sb_lt0 hi)) (cv_st G hi (S14.1 (sb i)) (S14.2 (sb i))) rfl in_X6_become_X6 (by decide) fl_X6_become_30 rfl rfl dX6_become_120 ?_
  refine go_iconst (v := (0 : Int32)) O dX6_become_123 (by decide) ?_
  refine go_bipush (v := (8 : Int32)) O dX6_become_124 (by decide) ?_
  obtain ⟨hc17, hF⟩ := chk_s hF
  obtain ⟨S16, eS16, hF⟩ := nm_s hF
  refine go_cpyI (k1 := (sb j + 7)) (k2 := (sb i + 7)) O wd_X6_become_m50 wd_X6_become_nat wd_X6_become_sac wd_X6_become_iss (lt9 hI (sb_lt hj (by decide : 7 < 13))) (lt9 hI (sb_lt hi (by decide : 7 < 13))) (cv_sta7 G hj (S14.1 (sb j + 7)) (S14.2 (sb j + 7))) (cv_sta7 G hi (S14.1 (sb i + 7)) (S14.2 (sb i + 7))) (cv_sta7 G hi (va_cpy (S14.1 (sb j + 7)) (S14.1 (sb i + 7)) (0 : Int32).toNatClampNeg (0 : Int32).toNatClampNeg (8 : Int32).toNatClampNeg) (S14.2 (sb i + 7))) (cpB_s hc17).1 (cpB_s hc17).2.1 (cpB_s hc17).2.2.1 (cpB_s hc17).2.2.2.1 (cpB_s hc17).2.2.2.2 (by decide) (Nat.le_of_ble_eq_true rfl) dX6_become_126 eS16 ?_
  refine go_aload_n O dX6_become_129 rfl 0 rfl ?_
  refine go_get (k := (sb i)) (j := 7) O (lt9 hI (sb_lt0 hi)) (cv_st G hi (S16.1 (sb i)) (S16.2 (sb i))) rfl in_X6_become_X6 (by decide) fl_X6_become_36 rfl rfl dX6_become_130 ?_
  refine go_aload_n O dX6_become_133 rfl 1 rfl ?_
  refine go_get (k := (sb j)) (j := 7) O (lt9 hI (sb_lt0 hj)) (cv_st G hj (S16.1 (sb j)) (S16.2 (sb j))) rfl in_X6_become_X6 (by decide) fl_X6_become_36 rfl rfl dX6_become_134 ?_
  obtain ⟨S19, hA18, hF⟩ := bd_s hF
  refine go_callVv (As := [.ref (G.2.1 (sb j + 8))]) (rest := []) (b := (sb i + 8)) O (c_X1_become l G hI hi hj hA18) (fun s args hts => cwV 1 hts gX6_become_X1_become rfl rfl rfl (by decide +kernel) ⟨Nat.le_of_ble_eq_true rfl, Nat.le_of_ble_eq_true rfl⟩) (lt9 hI (sb_lt hi (by decide : 8 < 13))) (cv_hrs G hi (S16.1 (sb i + 8)) (S16.2 (sb i + 8))) rfl rfl rfl rfl (Nat.le_of_ble_eq_true rfl) dX6_become_137 ?_
  exact ret_v hF (hR _ _ dX6_become_140)
-- X6_measure
def rm_X6_measure : Room := { frames := 0, cells := 0, slots := 0, locals := 0 }
theorem fl_X6_measure_11 : Cond.fieldLink RX6 11 "PaperWalls$Street" "layers" "[I" ∈ wsX6_measure := by decide +kernel
theorem fl_X6_measure_15 : Cond.fieldLink RX6 15 "PaperWalls$Street" "depth" "[I" ∈ wsX6_measure := by decide +kernel
theorem fl_X6_measure_40 : Cond.fieldLink RX6 40 "PaperWalls$Street" "walls" "I" ∈ wsX6_measure := by decide +kernel
theorem in_X6_measure_X6 : ∀ x ∈ u_ws RX6 TX6 11, x ∈ wsX6_measure := by decide +kernel
def T_X6_measure_2 (i : Nat)   : Nat → Int32 → Sg → Option (Sg)
  | 0, _, _ => none
  | n + 1, p1, S => if (S.1 (sb i) 8) ≤ p1 then (some S) else (chk (inB p1 7) (chk (inB p1 6) (chk (inB (p1 + (1 : Int32)) 7) (nm (wI S (sb i + 2) (p1 + (1 : Int32)).toNatClampNeg ((S.1 (sb i + 2) p1.toNatClampNeg) + (S.1 (sb i + 1) p1.toNatClampNeg))) (fun S5 => T_X6_measure_2 i n (p1 + (1 : Int32)) S5)))))
set_option maxHeartbeats 4000000 in
set_option maxRecDepth 100000 in
theorem lt_X6_measure_2 {X : XT} (l : Launch) (G : Gp) (hI : Gd G) {i : Nat} (hi : i < 5)  (O : Ok X (wC G) cX6_measure RX6 wsX6_measure 2) : ∀ (n : Nat) (p1 : Int32) (S : Sg) (q : (Sg)), T_X6_measure_2 i n p1 S = some q → (Go X l rm_X6_measure (wC G) 2 37 [] [] q) → Go X l rm_X6_measure (wC G) 2 2 [(0, .ref (G.2.1 (sb i))), (1, .int p1)] [] S := by
  intro n
  induction n with
  | zero =>
    intro p1 S q hF
    cases hF
  | succ n ih =>
    intro p1 S q hF hE
    rw [T_X6_measure_2] at hF
    refine go_iload_n O dX6_measure_2 rfl 1 rfl ?_
    refine go_aload_n O dX6_measure_3 rfl 0 rfl ?_
    refine go_get (k := (sb i)) (j := 8) O (lt9 hI (sb_lt0 hi)) (cv_st G hi (S.1 (sb i)) (S.2 (sb i))) rfl in_X6_measure_X6 (by decide) fl_X6_measure_40 rfl rfl dX6_measure_4 ?_
    refine go_icmp_ge (tgt := 37) O dX6_measure_7 (by decide) (fun hc6 => ?_) (fun hc6 => ?_)
    · replace hF := it_t hc6 hF
      refine go_perm (ls' := []) [] rfl ?_
      exact jn (P := fun q => Go X l rm_X6_measure (wC G) 2 37 [] [] q) hF hE
    · replace hF := it_f hc6 hF
      refine go_aload_n O dX6_measure_10 rfl 0 rfl ?_
      refine go_get (k := (sb i)) (j := 1) O (lt9 hI (sb_lt0 hi)) (cv_st G hi (S.1 (sb i)) (S.2 (sb i))) rfl in_X6_measure_X6 (by decide) fl_X6_measure_15 rfl rfl dX6_measure_11 ?_
      refine go_iload_n O dX6_measure_14 rfl 1 rfl ?_
      refine go_iconst (v := (1 : Int32)) O dX6_measure_15 (by decide) ?_
      refine go_iadd O dX6_measure_16 ?_
      refine go_aload_n O dX6_measure_17 rfl 0 rfl ?_
      refine go_get (k := (sb i)) (j := 1) O (lt9 hI (sb_lt0 hi)) (cv_st G hi (S.1 (sb i)) (S.2 (sb i))) rfl in_X6_measure_X6 (by decide) fl_X6_measure_15 rfl rfl dX6_measure_18 ?_
      refine go_iload_n O dX6_measure_21 rfl 1 rfl ?_
      obtain ⟨hb2, hF⟩ := chk_s hF
      refine go_iald (k := (sb i + 2)) O (lt9 hI (sb_lt hi (by decide : 2 < 13))) (cv_sta2 G hi (S.1 (sb i + 2)) (S.2 (sb i + 2))) (inB_in hb2) dX6_measure_22 ?_
      refine go_aload_n O dX6_measure_23 rfl 0 rfl ?_
      refine go_get (k := (sb i)) (j := 0) O (lt9 hI (sb_lt0 hi)) (cv_st G hi (S.1 (sb i)) (S.2 (sb i))) rfl in_X6_measure_X6 (by decide) fl_X6_measure_11 rfl rfl dX6_measure_24 ?_
      refine go_iload_n O dX6_measure_27 rfl 1 rfl ?_
      obtain ⟨hb3, hF⟩ := chk_s hF
      refine go_iald (k := (sb i + 1)) O (lt9 hI (sb_lt hi (by decide : 1 < 13))) (cv_sta1 G hi (S.1 (sb i + 1)) (S.2 (sb i + 1))) (inB_in hb3) dX6_measure_28 ?_
      refine go_iadd O dX6_measure_29 ?_
      obtain ⟨hb4, hF⟩ := chk_s hF
      obtain ⟨S5, eS5, hF⟩ := nm_s hF
      refine go_iast (k := (sb i + 2)) O (lt9 hI (sb_lt hi (by decide : 2 < 13))) (fun f => (cv_sta2 G hi f (S.2 (sb i + 2)))) (inB_in hb4) dX6_measure_30 eS5 ?_
      refine go_iinc (d := (1 : Int32)) (ls' := [(1, .int (p1 + (1 : Int32))), (0, .ref (G.2.1 (sb i)))]) O dX6_measure_31 1 rfl (by decide) (by decide) rfl ?_
      refine go_goto (tgt := 2) O dX6_measure_34 (by decide) ?_
      refine go_perm (ls' := [(0, .ref (G.2.1 (sb i))), (1, .int (p1 + (1 : Int32)))]) [1, 0] rfl ?_
      exact ih _ _ _ hF hE
def F_X6_measure (i : Nat) (S : Sg)  : Option Sg := bd (T_X6_measure_2 i FU (0 : Int32) S) (fun S1 => some S1)
set_option maxHeartbeats 4000000 in
set_option maxRecDepth 100000 in
theorem c_X6_measure (l : Launch) (G : Gp) (hI : Gd G) {i : Nat} (hi : i < 5) {S : Sg} {S1 : Sg} (hF : F_X6_measure i S = some S1) : Met l yX6_measure wsX6_measure rm_X6_measure (va_Pc [.ref (G.2.1 (sb i))] (PreW (wC G) S)) (va_Qv (fun u => u = S1) (PostW (wC G)) (AW (wC G))) 0 0 (AW (wC G)) := by
  rw [F_X6_measure] at hF
  refine met_v (cc := cX6_measure) (maxL := 2) (own := RX6) hI.1 (by decide) rfl rfl (Nat.le_of_ble_eq_true rfl) (fun X O hR => ?_)
  show Go X l rm_X6_measure (wC G) 2 0 [(0, .ref (G.2.1 (sb i)))] [] S
  refine go_iconst (v := (0 : Int32)) O dX6_measure_0 (by decide) ?_
  refine go_istore_n (ls' := [(1, .int (0 : Int32)), (0, .ref (G.2.1 (sb i)))]) O dX6_measure_1 rfl (by decide) rfl ?_
  refine go_perm (ls' := [(0, .ref (G.2.1 (sb i))), (1, .int (0 : Int32))]) [1, 0] rfl ?_
  obtain ⟨S1, hA7, hF⟩ := bd_s hF
  refine lt_X6_measure_2 l G hI hi O _ _ _ _ hA7 ?_
  exact ret_v hF (hR _ _ dX6_measure_37)
-- X6_readPeople
def rm_X6_readPeople : Room := { frames := 3, cells := 0, slots := 0, locals := 64 }
theorem fl_X6_readPeople_18 : Cond.fieldLink RX6 18 "PaperWalls$Street" "kinds" "[I" ∈ wsX6_readPeople := by decide +kernel
theorem fl_X6_readPeople_21 : Cond.fieldLink RX6 21 "PaperWalls$Street" "rooms" "[I" ∈ wsX6_readPeople := by decide +kernel
theorem fl_X6_readPeople_40 : Cond.fieldLink RX6 40 "PaperWalls$Street" "walls" "I" ∈ wsX6_readPeople := by decide +kernel
theorem fl_X6_readPeople_44 : Cond.fieldLink RX6 44 "PaperWalls$Street" "people" "I" ∈ wsX6_readPeople := by decide +kernel
theorem fl_X6_readPeople_83 : Cond.fieldLink RX6 83 "PaperWalls$Text" "size" "I" ∈ wsX6_readPeople := by decide +kernel
theorem in_X6_readPeople_X6 : ∀ x ∈ u_ws RX6 TX6 11, x ∈ wsX6_readPeople := by decide +kernel
theorem in_X6_readPeople_X7 : ∀ x ∈ u_ws RX7 TX7 2, x ∈ wsX6_readPeople := by decide +kernel
def T_X6_readPeople_6 (i : Nat) (t : Nat)   : Nat → Int32 → Sg → Option ((Int32 × Sg) ⊕ (Int32 × Sg))
  | 0, _, _ => none
  | n + 1, p3, S => if (S.1 (26 + 2 * t) 1) ≤ p3 then (some (.inl (p3, S))) else (if (7 : Int32) ≤ (S.1 (sb i) 9) then (some (.inl (p3, S))) else (bd (F_X7_sign t S p3) (fun x6 => bd (F_X2_byLetter S x6) (fun x8 => if x8 = (-9 : Int32) then (some (.inr (p3, S))) else (bd (F_X7_sign t S (p3 + (1 : Int32))) (fun x10 => nm (x10 - (48 : Int32)) (fun x11 => if x11 < 0 then (some (.inr (p3 + (1 : Int32), S))) else (if x11 ≤ (S.1 (sb i) 8) then (chk (inB (S.1 (sb i) 9) 7) (nm (wI S (sb i + 3) (S.1 (sb i) 9).toNatClampNeg x8) (fun S13 => chk (inB (S13.1 (sb i) 9) 7) (nm (wI S13 (sb i + 4) (S13.1 (sb i) 9).toNatClampNeg x11) (fun S15 => nm (wI S15 (sb i) 9 ((S15.1 (sb i) 9) + (1 : Int32))) (fun S16 => bd (F_X7_pastBlanks t S16 (p3 + (2 : Int32))) (fun x18 => T_X6_readPeople_6 i t n x18 S16))))))) else (some (.inr (p3 + (1 : Int32), S)))))))))))
set_option maxHeartbeats 4000000 in
set_option maxRecDepth 100000 in
theorem lt_X6_readPeople_6 {X : XT} (l : Launch) (G : Gp) (hI : Gd G) {i : Nat} {t : Nat} (hi : i < 5) (ht : t < 4)  (O : Ok X (wC G) cX6_readPeople RX6 wsX6_readPeople 6) : ∀ (n : Nat) (p3 : Int32) (S : Sg) (q : ((Int32 × Sg) ⊕ (Int32 × Sg))), T_X6_readPeople_6 i t n p3 S = some q → (∀ (z3 : Int32) (S9 : Sg), q = .inl (z3, S9) → Go X l rm_X6_readPeople (wC G) 6 115 [(1, .ref (G.2.1 (26 + 2 * t))), (3, .int z3)] [] S9) → (∀ (rS : Int32 × Sg), q = .inr rS → ∀ pc ls, decode cX6_readPeople pc = .ok (.ireturn, 1) → Go X l rm_X6_readPeople (wC G) 6 pc ls [.int rS.1] rS.2) → Go X l rm_X6_readPeople (wC G) 6 6 [(0, .ref (G.2.1 (sb i))), (1, .ref (G.2.1 (26 + 2 * t))), (3, .int p3)] [] S := by
  intro n
  induction n with
  | zero =>
    intro p3 S q hF
    cases hF
  | succ n ih =>
    intro p3 S q hF hE hR
    rw [T_X6_readPeople_6] at hF
    refine go_iload_n O dX6_readPeople_6 rfl 2 rfl ?_
    refine go_aload_n O dX6_readPeople_7 rfl 1 rfl ?_
    refine go_get (k := (26 + 2 * t)) (j := 1) O (lt9 hI (txt_lt ht)) (cv_txt G ht (S.1 (26 + 2 * t)) (S.2 (26 + 2 * t))) rfl in_X6_readPeople_X7 (by decide) fl_X6_readPeople_83 rfl rfl dX6_readPeople_8 ?_
    refine go_icmp_ge (tgt := 115) O dX6_readPeople_11 (by decide) (fun hc23 => ?_) (fun hc23 => ?_)
    · replace hF := it_t hc23 hF
      refine go_perm (ls' := [(1, .ref (G.2.1 (26 + 2 * t))), (3, .int p3)]) [1, 2] rfl ?_
      exact ret_q hF (fun hq => hE _ _ hq)
    · replace hF := it_f hc23 hF
      refine go_aload_n O dX6_readPeople_14 rfl 0 rfl ?_
      refine go_get (k := (sb i)) (j := 9) O (lt9 hI (sb_lt0 hi)) (cv_st G hi (S.1 (sb i)) (S.2 (sb i))) rfl in_X6_readPeople_X6 (by decide) fl_X6_readPeople_44 rfl rfl dX6_readPeople_15 ?_
      refine go_bipush (v := (7 : Int32)) O dX6_readPeople_18 (by decide) ?_
      refine go_icmp_ge (tgt := 115) O dX6_readPeople_20 (by decide) (fun hc22 => ?_) (fun hc22 => ?_)
      · replace hF := it_t hc22 hF
        refine go_perm (ls' := [(1, .ref (G.2.1 (26 + 2 * t))), (3, .int p3)]) [1, 2] rfl ?_
        exact ret_q hF (fun hq => hE _ _ hq)
      · replace hF := it_f hc22 hF
        refine go_aload_n O dX6_readPeople_23 rfl 1 rfl ?_
        refine go_iload_n O dX6_readPeople_24 rfl 2 rfl ?_
        obtain ⟨x6, hA5, hF⟩ := bd_s hF
        refine go_callVi (As := [.int p3]) (rest := []) (b := (26 + 2 * t)) O (c_X7_sign l G hI ht hA5) (fun s args hts => cwV 1 hts gX6_readPeople_X7_sign rfl rfl rfl (by decide +kernel) ⟨Nat.le_of_ble_eq_true rfl, Nat.le_of_ble_eq_true rfl⟩) (lt9 hI (txt_lt ht)) (cv_txt G ht (S.1 (26 + 2 * t)) (S.2 (26 + 2 * t))) rfl rfl rfl rfl (Nat.le_of_ble_eq_true rfl) dX6_readPeople_25 ?_
        obtain ⟨x8, hA7, hF⟩ := bd_s hF
        refine go_callSi (As := [.int x6]) (rest := []) O (c_X2_byLetter l G hI hA7) (fun s args hts => va_cwS 1 hts gX6_readPeople_X2_byLetter rfl rfl rfl (by decide +kernel) ⟨Nat.le_of_ble_eq_true rfl, Nat.le_of_ble_eq_true rfl⟩) rfl rfl (Nat.le_of_ble_eq_true rfl) dX6_readPeople_28 ?_
        refine go_istore (ls' := [(4, .int x8), (0, .ref (G.2.1 (sb i))), (1, .ref (G.2.1 (26 + 2 * t))), (3, .int p3)]) O dX6_readPeople_31 (by decide) rfl ?_
        refine go_iload O dX6_readPeople_33 0 rfl ?_
        refine go_bipush (v := (-9 : Int32)) O dX6_readPeople_35 (by decide) ?_
        refine go_icmp_ne (tgt := 42) O dX6_readPeople_37 (by decide) (fun hc21 => ?_) (fun hc21 => ?_)
        · replace hF := it_f hc21 hF
          refine go_aload_n O dX6_readPeople_42 rfl 2 rfl ?_
          refine go_iload_n O dX6_readPeople_43 rfl 3 rfl ?_
          refine go_iconst (v := (1 : Int32)) O dX6_readPeople_44 (by decide) ?_
          refine go_iadd O dX6_readPeople_45 ?_
          obtain ⟨x10, hA9, hF⟩ := bd_s hF
          refine go_callVi (As := [.int (p3 + (1 : Int32))]) (rest := []) (b := (26 + 2 * t)) O (c_X7_sign l G hI ht hA9) (fun s args hts => cwV 1 hts gX6_readPeople_X7_sign rfl rfl rfl (by decide +kernel) ⟨Nat.le_of_ble_eq_true rfl, Nat.le_of_ble_eq_true rfl⟩) (lt9 hI (txt_lt ht)) (cv_txt G ht (S.1 (26 + 2 * t)) (S.2 (26 + 2 * t))) rfl rfl rfl rfl (Nat.le_of_ble_eq_true rfl) dX6_readPeople_46 ?_
          refine go_bipush (v := (48 : Int32)) O dX6_readPeople_49 (by decide) ?_
          refine go_isub O dX6_readPeople_51 ?_
          obtain ⟨x11, ex11, hF⟩ := nm_s hF
          refine go_topi ex11 ?_
          refine go_istore (ls' := [(5, .int x11), (4, .int x8), (0, .ref (G.2.1 (sb i))), (1, .ref (G.2.1 (26 + 2 * t))), (3, .int p3)]) O dX6_readPeople_52 (by decide) rfl ?_
          refine go_iload O dX6_readPeople_54 0 rfl ?_
          refine go_if_lt (tgt := 68) O dX6_readPeople_56 (by decide) (fun hc20 => ?_) (fun hc20 => ?_)
          · replace hF := it_t hc20 hF
            refine go_iload_n O dX6_readPeople_68 rfl 4 rfl ?_
            refine go_iconst (v := (1 : Int32)) O dX6_readPeople_69 (by decide) ?_
            refine go_iadd O dX6_readPeople_70 ?_
            exact ret_q hF (fun hq => hR _ hq _ _ dX6_readPeople_71)
          · replace hF := it_f hc20 hF
            refine go_iload O dX6_readPeople_59 0 rfl ?_
            refine go_aload_n O dX6_readPeople_61 rfl 2 rfl ?_
            refine go_get (k := (sb i)) (j := 8) O (lt9 hI (sb_lt0 hi)) (cv_st G hi (S.1 (sb i)) (S.2 (sb i))) rfl in_X6_readPeople_X6 (by decide) fl_X6_readPeople_40 rfl rfl dX6_readPeople_62 ?_
            refine go_icmp_le (tgt := 72) O dX6_readPeople_65 (by decide) (fun hc19 => ?_) (fun hc19 => ?_)
            · replace hF := it_t hc19 hF
              refine go_aload_n O dX6_readPeople_72 rfl 2 rfl ?_
              refine go_get (k := (sb i)) (j := 2) O (lt9 hI (sb_lt0 hi)) (cv_st G hi (S.1 (sb i)) (S.2 (sb i))) rfl in_X6_readPeople_X6 (by decide) fl_X6_readPeople_18 rfl rfl dX6_readPeople_73 ?_
              refine go_aload_n O dX6_readPeople_76 rfl 2 rfl ?_
              refine go_get (k := (sb i)) (j := 9) O (lt9 hI (sb_lt0 hi)) (cv_st G hi (S.1 (sb i)) (S.2 (sb i))) rfl in_X6_readPeople_X6 (by decide) fl_X6_readPeople_44 rfl rfl dX6_readPeople_77 ?_
              refine go_iload O dX6_readPeople_80 1 rfl ?_
              obtain ⟨hb12, hF⟩ := chk_s hF
              obtain ⟨S13, eS13, hF⟩ := nm_s hF
              refine go_iast (k := (sb i + 3)) O (lt9 hI (sb_lt hi (by decide : 3 < 13))) (fun f => (cv_sta3 G hi f (S.2 (sb i + 3)))) (inB_in hb12) dX6_readPeople_82 eS13 ?_
              refine go_aload_n O dX6_readPeople_83 rfl 2 rfl ?_
              refine go_get (k := (sb i)) (j := 3) O (lt9 hI (sb_lt0 hi)) (cv_st G hi (S13.1 (sb i)) (S13.2 (sb i))) rfl in_X6_readPeople_X6 (by decide) fl_X6_readPeople_21 rfl rfl dX6_readPeople_84 ?_
              refine go_aload_n O dX6_readPeople_87 rfl 2 rfl ?_
              refine go_get (k := (sb i)) (j := 9) O (lt9 hI (sb_lt0 hi)) (cv_st G hi (S13.1 (sb i)) (S13.2 (sb i))) rfl in_X6_readPeople_X6 (by decide) fl_X6_readPeople_44 rfl rfl dX6_readPeople_88 ?_
              refine go_iload O dX6_readPeople_91 0 rfl ?_
              obtain ⟨hb14, hF⟩ := chk_s hF
              obtain ⟨S15, eS15, hF⟩ := nm_s hF
              refine go_iast (k := (sb i + 4)) O (lt9 hI (sb_lt hi (by decide : 4 < 13))) (fun f => (cv_sta4 G hi f (S13.2 (sb i + 4)))) (inB_in hb14) dX6_readPeople_93 eS15 ?_
              refine go_aload_n O dX6_readPeople_94 rfl 2 rfl ?_
              refine go_dup O dX6_readPeople_95 rfl ?_
              refine go_get (k := (sb i)) (j := 9) O (lt9 hI (sb_lt0 hi)) (cv_st G hi (S15.1 (sb i)) (S15.2 (sb i))) rfl in_X6_readPeople_X6 (by decide) fl_X6_readPeople_44 rfl rfl dX6_readPeople_96 ?_
              refine go_iconst (v := (1 : Int32)) O dX6_readPeople_99 (by decide) ?_
              refine go_iadd O dX6_readPeople_100 ?_
              obtain ⟨S16, eS16, hF⟩ := nm_s hF
              refine go_putI (k := (sb i)) (j := 9) O (lt9 hI (sb_lt0 hi)) (cv_st G hi (S15.1 (sb i)) (S15.2 (sb i))) rfl in_X6_readPeople_X6 (by decide) fl_X6_readPeople_44 rfl tyX6 tyX6_ok nmX6 rfl (by decide +kernel) (Nat.le_of_ble_eq_true rfl) (cv_st G hi (upd (S15.1 (sb i)) 9 ((S15.1 (sb i) 9) + (1 : Int32))) (S15.2 (sb i))) dX6_readPeople_101 eS16 ?_
              refine go_aload_n O dX6_readPeople_104 rfl 3 rfl ?_
              refine go_iload_n O dX6_readPeople_105 rfl 4 rfl ?_
              refine go_iconst (v := (2 : Int32)) O dX6_readPeople_106 (by decide) ?_
              refine go_iadd O dX6_readPeople_107 ?_
              obtain ⟨x18, hA17, hF⟩ := bd_s hF
              refine go_callVi (As := [.int (p3 + (2 : Int32))]) (rest := []) (b := (26 + 2 * t)) O (c_X7_pastBlanks l G hI ht hA17) (fun s args hts => cwV 1 hts gX6_readPeople_X7_pastBlanks rfl rfl rfl (by decide +kernel) ⟨Nat.le_of_ble_eq_true rfl, Nat.le_of_ble_eq_true rfl⟩) (lt9 hI (txt_lt ht)) (cv_txt G ht (S16.1 (26 + 2 * t)) (S16.2 (26 + 2 * t))) rfl rfl rfl rfl (Nat.le_of_ble_eq_true rfl) dX6_readPeople_108 ?_
              refine go_istore_n (ls' := [(3, .int x18), (5, .int x11), (4, .int x8), (0, .ref (G.2.1 (sb i))), (1, .ref (G.2.1 (26 + 2 * t)))]) O dX6_readPeople_111 rfl (by decide) rfl ?_
              refine go_goto (tgt := 6) O dX6_readPeople_112 (by decide) ?_
              refine go_perm (ls' := [(0, .ref (G.2.1 (sb i))), (1, .ref (G.2.1 (26 + 2 * t))), (3, .int x18)]) [3, 4, 0] rfl ?_
              exact ih _ _ _ hF hE hR
            · replace hF := it_f hc19 hF
              refine go_iload_n O dX6_readPeople_68 rfl 4 rfl ?_
              refine go_iconst (v := (1 : Int32)) O dX6_readPeople_69 (by decide) ?_
              refine go_iadd O dX6_readPeople_70 ?_
              exact ret_q hF (fun hq => hR _ hq _ _ dX6_readPeople_71)
        · replace hF := it_t hc21 hF
          refine go_iload_n O dX6_readPeople_40 rfl 3 rfl ?_
          exact ret_q hF (fun hq => hR _ hq _ _ dX6_readPeople_41)
def F_X6_readPeople (i : Nat) (t : Nat) (S : Sg) (a2 : Int32) : Option (Int32 × Sg) := bd (F_X7_pastBlanks t S a2) (fun x2 => bd (T_X6_readPeople_6 i t FU x2 S) (fun q => match q with | .inl (x3, S4) => if (S4.1 (26 + 2 * t) 1) ≤ x3 then (some ((-9 : Int32), S4)) else (some (x3, S4)) | .inr r => some r))
set_option maxHeartbeats 4000000 in
set_option maxRecDepth 100000 in
theorem c_X6_readPeople (l : Launch) (G : Gp) (hI : Gd G) {i : Nat} {t : Nat} (hi : i < 5) (ht : t < 4) {S : Sg} {a2 : Int32} {r : Int32} {S1 : Sg} (hF : F_X6_readPeople i t S a2 = some (r, S1)) : Met l yX6_readPeople wsX6_readPeople rm_X6_readPeople (va_Pc [.ref (G.2.1 (sb i)), .ref (G.2.1 (26 + 2 * t)), .int a2] (PreW (wC G) S)) (va_Qi (fun r' u => r' = r ∧ u = S1) (PostW (wC G)) (AW (wC G))) 0 0 (AW (wC G)) := by
  rw [F_X6_readPeople] at hF
  refine met_i (cc := cX6_readPeople) (maxL := 6) (own := RX6) hI.1 (by decide) rfl rfl (Nat.le_of_ble_eq_true rfl) (fun X O hR => ?_)
  show Go X l rm_X6_readPeople (wC G) 6 0 [(0, .ref (G.2.1 (sb i))), (1, .ref (G.2.1 (26 + 2 * t))), (2, .int a2)] [] S
  refine go_aload_n O dX6_readPeople_0 rfl 1 rfl ?_
  refine go_iload_n O dX6_readPeople_1 rfl 2 rfl ?_
  obtain ⟨x2, hA1, hF⟩ := bd_s hF
  refine go_callVi (As := [.int a2]) (rest := []) (b := (26 + 2 * t)) O (c_X7_pastBlanks l G hI ht hA1) (fun s args hts => cwV 1 hts gX6_readPeople_X7_pastBlanks rfl rfl rfl (by decide +kernel) ⟨Nat.le_of_ble_eq_true rfl, Nat.le_of_ble_eq_true rfl⟩) (lt9 hI (txt_lt ht)) (cv_txt G ht (S.1 (26 + 2 * t)) (S.2 (26 + 2 * t))) rfl rfl rfl rfl (Nat.le_of_ble_eq_true rfl) dX6_readPeople_2 ?_
  refine go_istore_n (ls' := [(3, .int x2), (0, .ref (G.2.1 (sb i))), (1, .ref (G.2.1 (26 + 2 * t))), (2, .int a2)]) O dX6_readPeople_5 rfl (by decide) rfl ?_
  refine go_perm (ls' := [(0, .ref (G.2.1 (sb i))), (1, .ref (G.2.1 (26 + 2 * t))), (3, .int x2)]) [1, 2, 0] rfl ?_
  obtain ⟨q26, hA24, hF⟩ := bd_s hF
  refine lt_X6_readPeople_6 l G hI hi ht O _ _ _ _ hA24 (fun x3 S4 hq => ?_) ?_
  · subst hq
    refine go_iload_n O dX6_readPeople_115 rfl 1 rfl ?_
    refine go_aload_n O dX6_readPeople_116 rfl 0 rfl ?_
    refine go_get (k := (26 + 2 * t)) (j := 1) O (lt9 hI (txt_lt ht)) (cv_txt G ht (S4.1 (26 + 2 * t)) (S4.2 (26 + 2 * t))) rfl in_X6_readPeople_X7 (by decide) fl_X6_readPeople_83 rfl rfl dX6_readPeople_117 ?_
    refine go_icmp_ge (tgt := 127) O dX6_readPeople_120 (by decide) (fun hc25 => ?_) (fun hc25 => ?_)
    · replace hF := it_t hc25 hF
      refine go_bipush (v := (-9 : Int32)) O dX6_readPeople_127 (by decide) ?_
      exact ret_wi hF (hR _ _ dX6_readPeople_129)
    · replace hF := it_f hc25 hF
      refine go_iload_n O dX6_readPeople_123 rfl 1 rfl ?_
      refine go_goto (tgt := 129) O dX6_readPeople_124 (by decide) ?_
      exact ret_wi hF (hR _ _ dX6_readPeople_129)
  · intro r hq pc ls hd
    subst hq
    exact ret_pi hF (hR _ _ hd)
-- X6_readFrom
def rm_X6_readFrom : Room := { frames := 4, cells := 0, slots := 0, locals := 89 }
theorem fl_X6_readFrom_11 : Cond.fieldLink RX6 11 "PaperWalls$Street" "layers" "[I" ∈ wsX6_readFrom := by decide +kernel
theorem fl_X6_readFrom_36 : Cond.fieldLink RX6 36 "PaperWalls$Street" "hours" "LPaperWalls$Hours;" ∈ wsX6_readFrom := by decide +kernel
theorem fl_X6_readFrom_40 : Cond.fieldLink RX6 40 "PaperWalls$Street" "walls" "I" ∈ wsX6_readFrom := by decide +kernel
theorem fl_X6_readFrom_44 : Cond.fieldLink RX6 44 "PaperWalls$Street" "people" "I" ∈ wsX6_readFrom := by decide +kernel
theorem fl_X6_readFrom_47 : Cond.fieldLink RX6 47 "PaperWalls$Street" "talks" "I" ∈ wsX6_readFrom := by decide +kernel
theorem in_X6_readFrom_X6 : ∀ x ∈ u_ws RX6 TX6 11, x ∈ wsX6_readFrom := by decide +kernel
def T_X6_readFrom_43 (i : Nat) (t : Nat)   : Nat → Int32 → Sg → Option (Int32 × Sg)
  | 0, _, _ => none
  | n + 1, p2, S => if (6 : Int32) ≤ (S.1 (sb i) 8) then (some (p2, S)) else (bd (F_X7_isFigure t S p2) (fun x13 => if x13 = 0 then (some (p2, S)) else (bd (F_X7_sign t S p2) (fun x15 => chk (inB (S.1 (sb i) 8) 6) (nm (wI S (sb i + 1) (S.1 (sb i) 8).toNatClampNeg (x15 - (48 : Int32))) (fun S17 => nm (wI S17 (sb i) 8 ((S17.1 (sb i) 8) + (1 : Int32))) (fun S18 => T_X6_readFrom_43 i t n (p2 + (1 : Int32)) S18)))))))
set_option maxHeartbeats 4000000 in
set_option maxRecDepth 100000 in
theorem lt_X6_readFrom_43 {X : XT} (l : Launch) (G : Gp) (hI : Gd G) {i : Nat} {t : Nat} (hi : i < 5) (ht : t < 4)  (O : Ok X (wC G) cX6_readFrom RX6 wsX6_readFrom 3) : ∀ (n : Nat) (p2 : Int32) (S : Sg) (q : (Int32 × Sg)), T_X6_readFrom_43 i t n p2 S = some q → (Go X l rm_X6_readFrom (wC G) 3 93 [(0, .ref (G.2.1 (sb i))), (1, .ref (G.2.1 (26 + 2 * t))), (2, .int q.1)] [] q.2) → Go X l rm_X6_readFrom (wC G) 3 43 [(0, .ref (G.2.1 (sb i))), (1, .ref (G.2.1 (26 + 2 * t))), (2, .int p2)] [] S := by
  intro n
  induction n with
  | zero =>
    intro p2 S q hF
    cases hF
  | succ n ih =>
    intro p2 S q hF hE
    rw [T_X6_readFrom_43] at hF
    refine go_aload_n O dX6_readFrom_43 rfl 0 rfl ?_
    refine go_get (k := (sb i)) (j := 8) O (lt9 hI (sb_lt0 hi)) (cv_st G hi (S.1 (sb i)) (S.2 (sb i))) rfl in_X6_readFrom_X6 (by decide) fl_X6_readFrom_40 rfl rfl dX6_readFrom_44 ?_
    refine go_bipush (v := (6 : Int32)) O dX6_readFrom_47 (by decide) ?_
    refine go_icmp_ge (tgt := 93) O dX6_readFrom_49 (by decide) (fun hc20 => ?_) (fun hc20 => ?_)
    · replace hF := it_t hc20 hF
      exact jn (P := fun q => Go X l rm_X6_readFrom (wC G) 3 93 [(0, .ref (G.2.1 (sb i))), (1, .ref (G.2.1 (26 + 2 * t))), (2, .int q.1)] [] q.2) hF hE
    · replace hF := it_f hc20 hF
      refine go_aload_n O dX6_readFrom_52 rfl 1 rfl ?_
      refine go_iload_n O dX6_readFrom_53 rfl 2 rfl ?_
      obtain ⟨x13, hA12, hF⟩ := bd_s hF
      refine go_callVi (As := [.int p2]) (rest := []) (b := (26 + 2 * t)) O (c_X7_isFigure l G hI ht hA12) (fun s args hts => cwV 1 hts gX6_readFrom_X7_isFigure rfl rfl rfl (by decide +kernel) ⟨Nat.le_of_ble_eq_true rfl, Nat.le_of_ble_eq_true rfl⟩) (lt9 hI (txt_lt ht)) (cv_txt G ht (S.1 (26 + 2 * t)) (S.2 (26 + 2 * t))) rfl rfl rfl rfl (Nat.le_of_ble_eq_true rfl) dX6_readFrom_54 ?_
      refine go_if_eq (tgt := 93) O dX6_readFrom_57 (by decide) (fun hc19 => ?_) (fun hc19 => ?_)
      · replace hF := it_t hc19 hF
        exact jn (P := fun q => Go X l rm_X6_readFrom (wC G) 3 93 [(0, .ref (G.2.1 (sb i))), (1, .ref (G.2.1 (26 + 2 * t))), (2, .int q.1)] [] q.2) hF hE
      · replace hF := it_f hc19 hF
        refine go_aload_n O dX6_readFrom_60 rfl 0 rfl ?_
        refine go_get (k := (sb i)) (j := 0) O (lt9 hI (sb_lt0 hi)) (cv_st G hi (S.1 (sb i)) (S.2 (sb i))) rfl in_X6_readFrom_X6 (by decide) fl_X6_readFrom_11 rfl rfl dX6_readFrom_61 ?_
        refine go_aload_n O dX6_readFrom_64 rfl 0 rfl ?_
        refine go_get (k := (sb i)) (j := 8) O (lt9 hI (sb_lt0 hi)) (cv_st G hi (S.1 (sb i)) (S.2 (sb i))) rfl in_X6_readFrom_X6 (by decide) fl_X6_readFrom_40 rfl rfl dX6_readFrom_65 ?_
        refine go_aload_n O dX6_readFrom_68 rfl 1 rfl ?_
        refine go_iload_n O dX6_readFrom_69 rfl 2 rfl ?_
        obtain ⟨x15, hA14, hF⟩ := bd_s hF
        refine go_callVi (As := [.int p2]) (rest := [.int (S.1 (sb i) 8), .ref (G.2.1 (sb i + 1))]) (b := (26 + 2 * t)) O (c_X7_sign l G hI ht hA14) (fun s args hts => cwV 1 hts gX6_readFrom_X7_sign rfl rfl rfl (by decide +kernel) ⟨Nat.le_of_ble_eq_true rfl, Nat.le_of_ble_eq_true rfl⟩) (lt9 hI (txt_lt ht)) (cv_txt G ht (S.1 (26 + 2 * t)) (S.2 (26 + 2 * t))) rfl rfl rfl rfl (Nat.le_of_ble_eq_true rfl) dX6_readFrom_70 ?_
        refine go_bipush (v := (48 : Int32)) O dX6_readFrom_73 (by decide) ?_
        refine go_isub O dX6_readFrom_75 ?_
        obtain ⟨hb16, hF⟩ := chk_s hF
        obtain ⟨S17, eS17, hF⟩ := nm_s hF
        refine go_iast (k := (sb i + 1)) O (lt9 hI (sb_lt hi (by decide : 1 < 13))) (fun f => (cv_sta1 G hi f (S.2 (sb i + 1)))) (inB_in hb16) dX6_readFrom_76 eS17 ?_
        refine go_aload_n O dX6_readFrom_77 rfl 0 rfl ?_
        refine go_dup O dX6_readFrom_78 rfl ?_
        refine go_get (k := (sb i)) (j := 8) O (lt9 hI (sb_lt0 hi)) (cv_st G hi (S17.1 (sb i)) (S17.2 (sb i))) rfl in_X6_readFrom_X6 (by decide) fl_X6_readFrom_40 rfl rfl dX6_readFrom_79 ?_
        refine go_iconst (v := (1 : Int32)) O dX6_readFrom_82 (by decide) ?_
        refine go_iadd O dX6_readFrom_83 ?_
        obtain ⟨S18, eS18, hF⟩ := nm_s hF
        refine go_putI (k := (sb i)) (j := 8) O (lt9 hI (sb_lt0 hi)) (cv_st G hi (S17.1 (sb i)) (S17.2 (sb i))) rfl in_X6_readFrom_X6 (by decide) fl_X6_readFrom_40 rfl tyX6 tyX6_ok nmX6 rfl (by decide +kernel) (Nat.le_of_ble_eq_true rfl) (cv_st G hi (upd (S17.1 (sb i)) 8 ((S17.1 (sb i) 8) + (1 : Int32))) (S17.2 (sb i))) dX6_readFrom_84 eS18 ?_
        refine go_iinc (d := (1 : Int32)) (ls' := [(2, .int (p2 + (1 : Int32))), (0, .ref (G.2.1 (sb i))), (1, .ref (G.2.1 (26 + 2 * t)))]) O dX6_readFrom_87 2 rfl (by decide) (by decide) rfl ?_
        refine go_goto (tgt := 43) O dX6_readFrom_90 (by decide) ?_
        refine go_perm (ls' := [(0, .ref (G.2.1 (sb i))), (1, .ref (G.2.1 (26 + 2 * t))), (2, .int (p2 + (1 : Int32)))]) [1, 2, 0] rfl ?_
        exact ih _ _ _ hF hE
def F_X6_readFrom (i : Nat) (t : Nat) (S : Sg)  : Option (Int32 × Sg) := nm (wI S (sb i) 8 (0 : Int32)) (fun S1 => nm (wI S1 (sb i) 9 (0 : Int32)) (fun S2 => nm (wI S2 (sb i) 10 (0 : Int32)) (fun S3 => bd (F_X1_begin i S3) (fun S5 => bd (F_X7_pastBlanks t S5 (0 : Int32)) (fun x7 => bd (F_X7_sign t S5 x7) (fun x9 => if x9 = (112 : Int32) then (bd (T_X6_readFrom_43 i t FU (x7 + (1 : Int32)) S5) (fun (x10, S11) => bd (F_X6_measure i S11) (fun S23 => if (S23.1 (sb i) 8) = 0 then (some (x10, S23)) else (bd (F_X6_readPeople i t S23 x10) (fun (x25, S26) => some (x25, S26)))))) else (some (x7, S5))))))))
set_option maxHeartbeats 4000000 in
set_option maxRecDepth 100000 in
theorem c_X6_readFrom (l : Launch) (G : Gp) (hI : Gd G) {i : Nat} {t : Nat} (hi : i < 5) (ht : t < 4) {S : Sg} {r : Int32} {S1 : Sg} (hF : F_X6_readFrom i t S = some (r, S1)) : Met l yX6_readFrom wsX6_readFrom rm_X6_readFrom (va_Pc [.ref (G.2.1 (sb i)), .ref (G.2.1 (26 + 2 * t))] (PreW (wC G) S)) (va_Qi (fun r' u => r' = r ∧ u = S1) (PostW (wC G)) (AW (wC G))) 0 0 (AW (wC G)) := by
  rw [F_X6_readFrom] at hF
  refine met_i (cc := cX6_readFrom) (maxL := 3) (own := RX6) hI.1 (by decide) rfl rfl (Nat.le_of_ble_eq_true rfl) (fun X O hR => ?_)
  show Go X l rm_X6_readFrom (wC G) 3 0 [(0, .ref (G.2.1 (sb i))), (1, .ref (G.2.1 (26 + 2 * t)))] [] S
  refine go_aload_n O dX6_readFrom_0 rfl 0 rfl ?_
  refine go_iconst (v := (0 : Int32)) O dX6_readFrom_1 (by decide) ?_
  obtain ⟨S1, eS1, hF⟩ := nm_s hF
  refine go_putI (k := (sb i)) (j := 8) O (lt9 hI (sb_lt0 hi)) (cv_st G hi (S.1 (sb i)) (S.2 (sb i))) rfl in_X6_readFrom_X6 (by decide) fl_X6_readFrom_40 rfl tyX6 tyX6_ok nmX6 rfl (by decide +kernel) (Nat.le_of_ble_eq_true rfl) (cv_st G hi (upd (S.1 (sb i)) 8 (0 : Int32)) (S.2 (sb i))) dX6_readFrom_2 eS1 ?_
  refine go_aload_n O dX6_readFrom_5 rfl 0 rfl ?_
  refine go_iconst (v := (0 : Int32)) O dX6_readFrom_6 (by decide) ?_
  obtain ⟨S2, eS2, hF⟩ := nm_s hF
  refine go_putI (k := (sb i)) (j := 9) O (lt9 hI (sb_lt0 hi)) (cv_st G hi (S1.1 (sb i)) (S1.2 (sb i))) rfl in_X6_readFrom_X6 (by decide) fl_X6_readFrom_44 rfl tyX6 tyX6_ok nmX6 rfl (by decide +kernel) (Nat.le_of_ble_eq_true rfl) (cv_st G hi (upd (S1.1 (sb i)) 9 (0 : Int32)) (S1.2 (sb i))) dX6_readFrom_7 eS2 ?_
  refine go_aload_n O dX6_readFrom_10 rfl 0 rfl ?_
  refine go_iconst (v := (0 : Int32)) O dX6_readFrom_11 (by decide) ?_
  obtain ⟨S3, eS3, hF⟩ := nm_s hF
  refine go_putI (k := (sb i)) (j := 10) O (lt9 hI (sb_lt0 hi)) (cv_st G hi (S2.1 (sb i)) (S2.2 (sb i))) rfl in_X6_readFrom_X6 (by decide) fl_X6_readFrom_47 rfl tyX6 tyX6_ok nmX6 rfl (by decide +kernel) (Nat.le_of_ble_eq_true rfl) (cv_st G hi (upd (S2.1 (sb i)) 10 (0 : Int32)) (S2.2 (sb i))) dX6_readFrom_12 eS3 ?_
  refine go_aload_n O dX6_readFrom_15 rfl 0 rfl ?_
  refine go_get (k := (sb i)) (j := 7) O (lt9 hI (sb_lt0 hi)) (cv_st G hi (S3.1 (sb i)) (S3.2 (sb i))) rfl in_X6_readFrom_X6 (by decide) fl_X6_readFrom_36 rfl rfl dX6_readFrom_16 ?_
  obtain ⟨S5, hA4, hF⟩ := bd_s hF
  refine go_callVv (As := []) (rest := []) (b := (sb i + 8)) O (c_X1_begin l G hI hi hA4) (fun s args hts => cwV 0 hts gX6_readFrom_X1_begin rfl rfl rfl (by decide +kernel) ⟨Nat.le_of_ble_eq_true rfl, Nat.le_of_ble_eq_true rfl⟩) (lt9 hI (sb_lt hi (by decide : 8 < 13))) (cv_hrs G hi (S3.1 (sb i + 8)) (S3.2 (sb i + 8))) rfl rfl rfl rfl (Nat.le_of_ble_eq_true rfl) dX6_readFrom_19 ?_
  refine go_aload_n O dX6_readFrom_22 rfl 1 rfl ?_
  refine go_iconst (v := (0 : Int32)) O dX6_readFrom_23 (by decide) ?_
  obtain ⟨x7, hA6, hF⟩ := bd_s hF
  refine go_callVi (As := [.int (0 : Int32)]) (rest := []) (b := (26 + 2 * t)) O (c_X7_pastBlanks l G hI ht hA6) (fun s args hts => cwV 1 hts gX6_readFrom_X7_pastBlanks rfl rfl rfl (by decide +kernel) ⟨Nat.le_of_ble_eq_true rfl, Nat.le_of_ble_eq_true rfl⟩) (lt9 hI (txt_lt ht)) (cv_txt G ht (S5.1 (26 + 2 * t)) (S5.2 (26 + 2 * t))) rfl rfl rfl rfl (Nat.le_of_ble_eq_true rfl) dX6_readFrom_24 ?_
  refine go_istore_n (ls' := [(2, .int x7), (0, .ref (G.2.1 (sb i))), (1, .ref (G.2.1 (26 + 2 * t)))]) O dX6_readFrom_27 rfl (by decide) rfl ?_
  refine go_aload_n O dX6_readFrom_28 rfl 2 rfl ?_
  refine go_iload_n O dX6_readFrom_29 rfl 0 rfl ?_
  obtain ⟨x9, hA8, hF⟩ := bd_s hF
  refine go_callVi (As := [.int x7]) (rest := []) (b := (26 + 2 * t)) O (c_X7_sign l G hI ht hA8) (fun s args hts => cwV 1 hts gX6_readFrom_X7_sign rfl rfl rfl (by decide +kernel) ⟨Nat.le_of_ble_eq_true rfl, Nat.le_of_ble_eq_true rfl⟩) (lt9 hI (txt_lt ht)) (cv_txt G ht (S5.1 (26 + 2 * t)) (S5.2 (26 + 2 * t))) rfl rfl rfl rfl (Nat.le_of_ble_eq_true rfl) dX6_readFrom_30 ?_
  refine go_bipush (v := (112 : Int32)) O dX6_readFrom_33 (by decide) ?_
  refine go_icmp_eq (tgt := 40) O dX6_readFrom_35 (by decide) (fun hc28 => ?_) (fun hc28 => ?_)
  · replace hF := it_t hc28 hF
    refine go_iinc (d := (1 : Int32)) (ls' := [(2, .int (x7 + (1 : Int32))), (0, .ref (G.2.1 (sb i))), (1, .ref (G.2.1 (26 + 2 * t)))]) O dX6_readFrom_40 0 rfl (by decide) (by decide) rfl ?_
    refine go_perm (ls' := [(0, .ref (G.2.1 (sb i))), (1, .ref (G.2.1 (26 + 2 * t))), (2, .int (x7 + (1 : Int32)))]) [1, 2, 0] rfl ?_
    obtain ⟨⟨x10, S11⟩, hA21, hF⟩ := bd_s hF
    refine lt_X6_readFrom_43 l G hI hi ht O _ _ _ _ hA21 ?_
    refine go_aload_n O dX6_readFrom_93 rfl 0 rfl ?_
    obtain ⟨S23, hA22, hF⟩ := bd_s hF
    refine go_callVv (As := []) (rest := []) (b := (sb i)) O (c_X6_measure l G hI hi hA22) (fun s args hts => cwV 0 hts gX6_readFrom_X6_measure rfl rfl rfl (by decide +kernel) ⟨Nat.le_of_ble_eq_true rfl, Nat.le_of_ble_eq_true rfl⟩) (lt9 hI (sb_lt0 hi)) (cv_st G hi (S11.1 (sb i)) (S11.2 (sb i))) rfl rfl rfl rfl (Nat.le_of_ble_eq_true rfl) dX6_readFrom_94 ?_
    refine go_aload_n O dX6_readFrom_97 rfl 0 rfl ?_
    refine go_get (k := (sb i)) (j := 8) O (lt9 hI (sb_lt0 hi)) (cv_st G hi (S23.1 (sb i)) (S23.2 (sb i))) rfl in_X6_readFrom_X6 (by decide) fl_X6_readFrom_40 rfl rfl dX6_readFrom_98 ?_
    refine go_if_ne (tgt := 108) O dX6_readFrom_101 (by decide) (fun hc27 => ?_) (fun hc27 => ?_)
    · replace hF := it_f hc27 hF
      refine go_aload_n O dX6_readFrom_108 rfl 0 rfl ?_
      refine go_aload_n O dX6_readFrom_109 rfl 1 rfl ?_
      refine go_iload_n O dX6_readFrom_110 rfl 2 rfl ?_
      obtain ⟨⟨x25, S26⟩, hA24, hF⟩ := bd_s hF
      refine go_callVi (As := [.ref (G.2.1 (26 + 2 * t)), .int x10]) (rest := []) (b := (sb i)) O (c_X6_readPeople l G hI hi ht hA24) (fun s args hts => cwV 2 hts gX6_readFrom_X6_readPeople rfl rfl rfl (by decide +kernel) ⟨Nat.le_of_ble_eq_true rfl, Nat.le_of_ble_eq_true rfl⟩) (lt9 hI (sb_lt0 hi)) (cv_st G hi (S23.1 (sb i)) (S23.2 (sb i))) rfl rfl rfl rfl (Nat.le_of_ble_eq_true rfl) dX6_readFrom_111 ?_
      exact ret_wi hF (hR _ _ dX6_readFrom_114)
    · replace hF := it_t hc27 hF
      refine go_iload_n O dX6_readFrom_104 rfl 2 rfl ?_
      refine go_goto (tgt := 114) O dX6_readFrom_105 (by decide) ?_
      exact ret_wi hF (hR _ _ dX6_readFrom_114)
  · replace hF := it_f hc28 hF
    refine go_iload_n O dX6_readFrom_38 rfl 0 rfl ?_
    exact ret_wi hF (hR _ _ dX6_readFrom_39)
-- X6_howManyOf
def rm_X6_howManyOf : Room := { frames := 1, cells := 0, slots := 0, locals := 21 }
theorem fl_X6_howManyOf_18 : Cond.fieldLink RX6 18 "PaperWalls$Street" "kinds" "[I" ∈ wsX6_howManyOf := by decide +kernel
theorem fl_X6_howManyOf_44 : Cond.fieldLink RX6 44 "PaperWalls$Street" "people" "I" ∈ wsX6_howManyOf := by decide +kernel
theorem in_X6_howManyOf_X6 : ∀ x ∈ u_ws RX6 TX6 11, x ∈ wsX6_howManyOf := by decide +kernel
def T_X6_howManyOf_4 (i : Nat) (S : Sg) (p1 : Int32) : Nat → Int32 → Int32 → Option (Int32)
  | 0, _, _ => none
  | n + 1, p2, p3 => if (S.1 (sb i) 9) ≤ p3 then (some p2) else (chk (inB p3 7) (bd (F_X2_isOf S (S.1 (sb i + 3) p3.toNatClampNeg) p1) (fun x4 => bd (if x4 = 0 then (some (0 : Int32)) else (some (1 : Int32))) (fun x5 => nm (p2 + x5) (fun x9 => T_X6_howManyOf_4 i S p1 n x9 (p3 + (1 : Int32)))))))
set_option maxHeartbeats 4000000 in
set_option maxRecDepth 100000 in
theorem lt_X6_howManyOf_4 {X : XT} (l : Launch) (G : Gp) (hI : Gd G) {i : Nat} (hi : i < 5) {S : Sg} {p1 : Int32} (O : Ok X (wC G) cX6_howManyOf RX6 wsX6_howManyOf 4) : ∀ (n : Nat) (p2 : Int32) (p3 : Int32)  (q : (Int32)), T_X6_howManyOf_4 i S p1 n p2 p3  = some q → (Go X l rm_X6_howManyOf (wC G) 4 39 [(2, .int q)] [] S) → Go X l rm_X6_howManyOf (wC G) 4 4 [(0, .ref (G.2.1 (sb i))), (1, .int p1), (2, .int p2), (3, .int p3)] [] S := by
  intro n
  induction n with
  | zero =>
    intro p2 p3  q hF
    cases hF
  | succ n ih =>
    intro p2 p3  q hF hE
    rw [T_X6_howManyOf_4] at hF
    refine go_iload_n O dX6_howManyOf_4 rfl 3 rfl ?_
    refine go_aload_n O dX6_howManyOf_5 rfl 0 rfl ?_
    refine go_get (k := (sb i)) (j := 9) O (lt9 hI (sb_lt0 hi)) (cv_st G hi (S.1 (sb i)) (S.2 (sb i))) rfl in_X6_howManyOf_X6 (by decide) fl_X6_howManyOf_44 rfl rfl dX6_howManyOf_6 ?_
    refine go_icmp_ge (tgt := 39) O dX6_howManyOf_9 (by decide) (fun hc10 => ?_) (fun hc10 => ?_)
    · replace hF := it_t hc10 hF
      refine go_perm (ls' := [(2, .int p2)]) [2] rfl ?_
      exact jn (P := fun q => Go X l rm_X6_howManyOf (wC G) 4 39 [(2, .int q)] [] S) hF hE
    · replace hF := it_f hc10 hF
      refine go_iload_n O dX6_howManyOf_12 rfl 2 rfl ?_
      refine go_aload_n O dX6_howManyOf_13 rfl 0 rfl ?_
      refine go_get (k := (sb i)) (j := 2) O (lt9 hI (sb_lt0 hi)) (cv_st G hi (S.1 (sb i)) (S.2 (sb i))) rfl in_X6_howManyOf_X6 (by decide) fl_X6_howManyOf_18 rfl rfl dX6_howManyOf_14 ?_
      refine go_iload_n O dX6_howManyOf_17 rfl 3 rfl ?_
      obtain ⟨hb2, hF⟩ := chk_s hF
      refine go_iald (k := (sb i + 3)) O (lt9 hI (sb_lt hi (by decide : 3 < 13))) (cv_sta3 G hi (S.1 (sb i + 3)) (S.2 (sb i + 3))) (inB_in hb2) dX6_howManyOf_18 ?_
      refine go_iload_n O dX6_howManyOf_19 rfl 1 rfl ?_
      obtain ⟨x4, hA3, hF⟩ := bd_s hF
      refine go_callSi (As := [.int (S.1 (sb i + 3) p3.toNatClampNeg), .int p1]) (rest := [.int p2]) O (c_X2_isOf l G hI hA3) (fun s args hts => va_cwS 2 hts gX6_howManyOf_X2_isOf rfl rfl rfl (by decide +kernel) ⟨Nat.le_of_ble_eq_true rfl, Nat.le_of_ble_eq_true rfl⟩) rfl rfl (Nat.le_of_ble_eq_true rfl) dX6_howManyOf_20 ?_
      obtain ⟨x5, hA7, hF⟩ := bd_s hF
      have J6 : Go X l rm_X6_howManyOf (wC G) 4 31 [(0, .ref (G.2.1 (sb i))), (1, .int p1), (3, .int p3)] [.int x5, .int p2] S := by
        refine go_iadd O dX6_howManyOf_31 ?_
        obtain ⟨x9, ex9, hF⟩ := nm_s hF
        refine go_topi ex9 ?_
        refine go_istore_n (ls' := [(2, .int x9), (0, .ref (G.2.1 (sb i))), (1, .int p1), (3, .int p3)]) O dX6_howManyOf_32 rfl (by decide) rfl ?_
        refine go_iinc (d := (1 : Int32)) (ls' := [(3, .int (p3 + (1 : Int32))), (2, .int x9), (0, .ref (G.2.1 (sb i))), (1, .int p1)]) O dX6_howManyOf_33 3 rfl (by decide) (by decide) rfl ?_
        refine go_goto (tgt := 4) O dX6_howManyOf_36 (by decide) ?_
        refine go_perm (ls' := [(0, .ref (G.2.1 (sb i))), (1, .int p1), (2, .int x9), (3, .int (p3 + (1 : Int32)))]) [2, 3, 1, 0] rfl ?_
        exact ih _ _ _ hF hE
      replace hF := hA7
      refine go_if_eq (tgt := 30) O dX6_howManyOf_23 (by decide) (fun hc8 => ?_) (fun hc8 => ?_)
      · replace hF := it_t hc8 hF
        refine go_iconst (v := (0 : Int32)) O dX6_howManyOf_30 (by decide) ?_
        refine go_perm (ls' := [(0, .ref (G.2.1 (sb i))), (1, .int p1), (3, .int p3)]) [0, 1, 3] rfl ?_
        exact jn (P := fun q => Go X l rm_X6_howManyOf (wC G) 4 31 [(0, .ref (G.2.1 (sb i))), (1, .int p1), (3, .int p3)] [.int q, .int p2] S) hF J6
      · replace hF := it_f hc8 hF
        refine go_iconst (v := (1 : Int32)) O dX6_howManyOf_26 (by decide) ?_
        refine go_goto (tgt := 31) O dX6_howManyOf_27 (by decide) ?_
        refine go_perm (ls' := [(0, .ref (G.2.1 (sb i))), (1, .int p1), (3, .int p3)]) [0, 1, 3] rfl ?_
        exact jn (P := fun q => Go X l rm_X6_howManyOf (wC G) 4 31 [(0, .ref (G.2.1 (sb i))), (1, .int p1), (3, .int p3)] [.int q, .int p2] S) hF J6
def F_X6_howManyOf (i : Nat) (S : Sg) (a1 : Int32) : Option Int32 := bd (T_X6_howManyOf_4 i S a1 FU (0 : Int32) (0 : Int32)) (fun x1 => some x1)
set_option maxHeartbeats 4000000 in
set_option maxRecDepth 100000 in
theorem c_X6_howManyOf (l : Launch) (G : Gp) (hI : Gd G) {i : Nat} (hi : i < 5) {S : Sg} {a1 : Int32} {r : Int32} (hF : F_X6_howManyOf i S a1 = some r) : Met l yX6_howManyOf wsX6_howManyOf rm_X6_howManyOf (va_Pc [.ref (G.2.1 (sb i)), .int a1] (PreW (wC G) S)) (va_Qi (fun r' u => r' = r ∧ u = S) (PostW (wC G)) (AW (wC G))) 0 0 (AW (wC G)) := by
  rw [F_X6_howManyOf] at hF
  refine met_i (cc := cX6_howManyOf) (maxL := 4) (own := RX6) hI.1 (by decide) rfl rfl (Nat.le_of_ble_eq_true rfl) (fun X O hR => ?_)
  show Go X l rm_X6_howManyOf (wC G) 4 0 [(0, .ref (G.2.1 (sb i))), (1, .int a1)] [] S
  refine go_iconst (v := (0 : Int32)) O dX6_howManyOf_0 (by decide) ?_
  refine go_istore_n (ls' := [(2, .int (0 : Int32)), (0, .ref (G.2.1 (sb i))), (1, .int a1)]) O dX6_howManyOf_1 rfl (by decide) rfl ?_
  refine go_iconst (v := (0 : Int32)) O dX6_howManyOf_2 (by decide) ?_
  refine go_istore_n (ls' := [(3, .int (0 : Int32)), (2, .int (0 : Int32)), (0, .ref (G.2.1 (sb i))), (1, .int a1)]) O dX6_howManyOf_3 rfl (by decide) rfl ?_
  refine go_perm (ls' := [(0, .ref (G.2.1 (sb i))), (1, .int a1), (2, .int (0 : Int32)), (3, .int (0 : Int32))]) [2, 3, 1, 0] rfl ?_
  obtain ⟨x1, hA11, hF⟩ := bd_s hF
  refine lt_X6_howManyOf_4 l G hI hi O _ _ _ _ hA11 ?_
  refine go_iload_n O dX6_howManyOf_39 rfl 0 rfl ?_
  exact ret_i hF (hR _ _ dX6_howManyOf_40)
-- X6_isHeardBy
def rm_X6_isHeardBy : Room := { frames := 2, cells := 0, slots := 0, locals := 62 }
theorem fl_X6_isHeardBy_18 : Cond.fieldLink RX6 18 "PaperWalls$Street" "kinds" "[I" ∈ wsX6_isHeardBy := by decide +kernel
theorem fl_X6_isHeardBy_21 : Cond.fieldLink RX6 21 "PaperWalls$Street" "rooms" "[I" ∈ wsX6_isHeardBy := by decide +kernel
theorem in_X6_isHeardBy_X6 : ∀ x ∈ u_ws RX6 TX6 11, x ∈ wsX6_isHeardBy := by decide +kernel
def F_X6_isHeardBy (i : Nat) (S : Sg) (a1 : Int32) (a2 : Int32) : Option Int32 := chk (inB a1 7) (chk (inB a1 7) (bd (F_X6_comesTo i S (S.1 (sb i + 4) a1.toNatClampNeg) a2) (fun x4 => bd (F_X2_isEnough S (S.1 (sb i + 3) a1.toNatClampNeg) x4 (0 : Int32)) (fun x6 => chk (zB x6) (some x6)))))
set_option maxHeartbeats 4000000 in
set_option maxRecDepth 100000 in
theorem c_X6_isHeardBy (l : Launch) (G : Gp) (hI : Gd G) {i : Nat} (hi : i < 5) {S : Sg} {a1 : Int32} {a2 : Int32} {r : Int32} (hF : F_X6_isHeardBy i S a1 a2 = some r) : Met l yX6_isHeardBy wsX6_isHeardBy rm_X6_isHeardBy (va_Pc [.ref (G.2.1 (sb i)), .int a1, .int a2] (PreW (wC G) S)) (va_Qi (fun r' u => r' = r ∧ u = S) (PostW (wC G)) (AW (wC G))) 0 0 (AW (wC G)) := by
  rw [F_X6_isHeardBy] at hF
  refine met_z (cc := cX6_isHeardBy) (maxL := 3) (own := RX6) hI.1 (by decide) rfl rfl (Nat.le_of_ble_eq_true rfl) (fun X O hR => ?_)
  show Go X l rm_X6_isHeardBy (wC G) 3 0 [(0, .ref (G.2.1 (sb i))), (1, .int a1), (2, .int a2)] [] S
  refine go_aload_n O dX6_isHeardBy_0 rfl 0 rfl ?_
  refine go_get (k := (sb i)) (j := 2) O (lt9 hI (sb_lt0 hi)) (cv_st G hi (S.1 (sb i)) (S.2 (sb i))) rfl in_X6_isHeardBy_X6 (by decide) fl_X6_isHeardBy_18 rfl rfl dX6_isHeardBy_1 ?_
  refine go_iload_n O dX6_isHeardBy_4 rfl 1 rfl ?_
  obtain ⟨hb1, hF⟩ := chk_s hF
  refine go_iald (k := (sb i + 3)) O (lt9 hI (sb_lt hi (by decide : 3 < 13))) (cv_sta3 G hi (S.1 (sb i + 3)) (S.2 (sb i + 3))) (inB_in hb1) dX6_isHeardBy_5 ?_
  refine go_aload_n O dX6_isHeardBy_6 rfl 0 rfl ?_
  refine go_aload_n O dX6_isHeardBy_7 rfl 0 rfl ?_
  refine go_get (k := (sb i)) (j := 3) O (lt9 hI (sb_lt0 hi)) (cv_st G hi (S.1 (sb i)) (S.2 (sb i))) rfl in_X6_isHeardBy_X6 (by decide) fl_X6_isHeardBy_21 rfl rfl dX6_isHeardBy_8 ?_
  refine go_iload_n O dX6_isHeardBy_11 rfl 1 rfl ?_
  obtain ⟨hb2, hF⟩ := chk_s hF
  refine go_iald (k := (sb i + 4)) O (lt9 hI (sb_lt hi (by decide : 4 < 13))) (cv_sta4 G hi (S.1 (sb i + 4)) (S.2 (sb i + 4))) (inB_in hb2) dX6_isHeardBy_12 ?_
  refine go_iload_n O dX6_isHeardBy_13 rfl 2 rfl ?_
  obtain ⟨x4, hA3, hF⟩ := bd_s hF
  refine go_callVi (As := [.int (S.1 (sb i + 4) a1.toNatClampNeg), .int a2]) (rest := [.int (S.1 (sb i + 3) a1.toNatClampNeg)]) (b := (sb i)) O (c_X6_comesTo l G hI hi hA3) (fun s args hts => cwV 2 hts gX6_isHeardBy_X6_comesTo rfl rfl rfl (by decide +kernel) ⟨Nat.le_of_ble_eq_true rfl, Nat.le_of_ble_eq_true rfl⟩) (lt9 hI (sb_lt0 hi)) (cv_st G hi (S.1 (sb i)) (S.2 (sb i))) rfl rfl rfl rfl (Nat.le_of_ble_eq_true rfl) dX6_isHeardBy_14 ?_
  refine go_iconst (v := (0 : Int32)) O dX6_isHeardBy_17 (by decide) ?_
  obtain ⟨x6, hA5, hF⟩ := bd_s hF
  refine go_callSi (As := [.int (S.1 (sb i + 3) a1.toNatClampNeg), .int x4, .int (0 : Int32)]) (rest := []) O (c_X2_isEnough l G hI hA5) (fun s args hts => va_cwS 3 hts gX6_isHeardBy_X2_isEnough rfl rfl rfl (by decide +kernel) ⟨Nat.le_of_ble_eq_true rfl, Nat.le_of_ble_eq_true rfl⟩) rfl rfl (Nat.le_of_ble_eq_true rfl) dX6_isHeardBy_18 ?_
  obtain ⟨hz7, hF⟩ := chk_s hF
  exact ret_z hF (fun hz => hR _ _ hz dX6_isHeardBy_21) (zB_s hz7)
-- X6_whoHear
def rm_X6_whoHear : Room := { frames := 3, cells := 0, slots := 0, locals := 95 }
def F_X6_whoHear (i : Nat) (S : Sg) (a1 : Int32) (a2 : Int32) : Option Int32 := bd (F_X6_everyone i S) (fun x2 => bd (F_X6_whoHearOf i S x2 a1 a2 (0 : Int32)) (fun x4 => some x4))
set_option maxHeartbeats 4000000 in
set_option maxRecDepth 100000 in
theorem c_X6_whoHear (l : Launch) (G : Gp) (hI : Gd G) {i : Nat} (hi : i < 5) {S : Sg} {a1 : Int32} {a2 : Int32} {r : Int32} (hF : F_X6_whoHear i S a1 a2 = some r) : Met l yX6_whoHear wsX6_whoHear rm_X6_whoHear (va_Pc [.ref (G.2.1 (sb i)), .int a1, .int a2] (PreW (wC G) S)) (va_Qi (fun r' u => r' = r ∧ u = S) (PostW (wC G)) (AW (wC G))) 0 0 (AW (wC G)) := by
  rw [F_X6_whoHear] at hF
  refine met_i (cc := cX6_whoHear) (maxL := 3) (own := RX6) hI.1 (by decide) rfl rfl (Nat.le_of_ble_eq_true rfl) (fun X O hR => ?_)
  show Go X l rm_X6_whoHear (wC G) 3 0 [(0, .ref (G.2.1 (sb i))), (1, .int a1), (2, .int a2)] [] S
  refine go_aload_n O dX6_whoHear_0 rfl 0 rfl ?_
  refine go_aload_n O dX6_whoHear_1 rfl 0 rfl ?_
  obtain ⟨x2, hA1, hF⟩ := bd_s hF
  refine go_callVi (As := []) (rest := [.ref (G.2.1 (sb i))]) (b := (sb i)) O (c_X6_everyone l G hI hi hA1) (fun s args hts => cwV 0 hts gX6_whoHear_X6_everyone rfl rfl rfl (by decide +kernel) ⟨Nat.le_of_ble_eq_true rfl, Nat.le_of_ble_eq_true rfl⟩) (lt9 hI (sb_lt0 hi)) (cv_st G hi (S.1 (sb i)) (S.2 (sb i))) rfl rfl rfl rfl (Nat.le_of_ble_eq_true rfl) dX6_whoHear_2 ?_
  refine go_iload_n O dX6_whoHear_5 rfl 1 rfl ?_
  refine go_iload_n O dX6_whoHear_6 rfl 2 rfl ?_
  refine go_iconst (v := (0 : Int32)) O dX6_whoHear_7 (by decide) ?_
  obtain ⟨x4, hA3, hF⟩ := bd_s hF
  refine go_callVi (As := [.int x2, .int a1, .int a2, .int (0 : Int32)]) (rest := []) (b := (sb i)) O (c_X6_whoHearOf l G hI hi hA3) (fun s args hts => cwV 4 hts gX6_whoHear_X6_whoHearOf rfl rfl rfl (by decide +kernel) ⟨Nat.le_of_ble_eq_true rfl, Nat.le_of_ble_eq_true rfl⟩) (lt9 hI (sb_lt0 hi)) (cv_st G hi (S.1 (sb i)) (S.2 (sb i))) rfl rfl rfl rfl (Nat.le_of_ble_eq_true rfl) dX6_whoHear_8 ?_
  exact ret_i hF (hR _ _ dX6_whoHear_11)
-- X6_circleOf
def rm_X6_circleOf : Room := { frames := 4, cells := 0, slots := 0, locals := 117 }
def F_X6_circleOf (i : Nat) (S : Sg) (a1 : Int32) : Option Int32 := bd (F_X6_whoHear i S a1 (0 : Int32)) (fun x2 => some (x2 ||| ((1 : Int32) <<< (a1 &&& 31))))
set_option maxHeartbeats 4000000 in
set_option maxRecDepth 100000 in
theorem c_X6_circleOf (l : Launch) (G : Gp) (hI : Gd G) {i : Nat} (hi : i < 5) {S : Sg} {a1 : Int32} {r : Int32} (hF : F_X6_circleOf i S a1 = some r) : Met l yX6_circleOf wsX6_circleOf rm_X6_circleOf (va_Pc [.ref (G.2.1 (sb i)), .int a1] (PreW (wC G) S)) (va_Qi (fun r' u => r' = r ∧ u = S) (PostW (wC G)) (AW (wC G))) 0 0 (AW (wC G)) := by
  rw [F_X6_circleOf] at hF
  refine met_i (cc := cX6_circleOf) (maxL := 2) (own := RX6) hI.1 (by decide) rfl rfl (Nat.le_of_ble_eq_true rfl) (fun X O hR => ?_)
  show Go X l rm_X6_circleOf (wC G) 2 0 [(0, .ref (G.2.1 (sb i))), (1, .int a1)] [] S
  refine go_aload_n O dX6_circleOf_0 rfl 0 rfl ?_
  refine go_iload_n O dX6_circleOf_1 rfl 1 rfl ?_
  refine go_iconst (v := (0 : Int32)) O dX6_circleOf_2 (by decide) ?_
  obtain ⟨x2, hA1, hF⟩ := bd_s hF
  refine go_callVi (As := [.int a1, .int (0 : Int32)]) (rest := []) (b := (sb i)) O (c_X6_whoHear l G hI hi hA1) (fun s args hts => cwV 2 hts gX6_circleOf_X6_whoHear rfl rfl rfl (by decide +kernel) ⟨Nat.le_of_ble_eq_true rfl, Nat.le_of_ble_eq_true rfl⟩) (lt9 hI (sb_lt0 hi)) (cv_st G hi (S.1 (sb i)) (S.2 (sb i))) rfl rfl rfl rfl (Nat.le_of_ble_eq_true rfl) dX6_circleOf_3 ?_
  refine go_iconst (v := (1 : Int32)) O dX6_circleOf_6 (by decide) ?_
  refine go_iload_n O dX6_circleOf_7 rfl 1 rfl ?_
  refine go_ishl O dX6_circleOf_8 ?_
  refine go_ior O dX6_circleOf_9 ?_
  exact ret_i hF (hR _ _ dX6_circleOf_10)
-- X6_heardPairs
def rm_X6_heardPairs : Room := { frames := 4, cells := 0, slots := 0, locals := 117 }
theorem fl_X6_heardPairs_44 : Cond.fieldLink RX6 44 "PaperWalls$Street" "people" "I" ∈ wsX6_heardPairs := by decide +kernel
theorem in_X6_heardPairs_X6 : ∀ x ∈ u_ws RX6 TX6 11, x ∈ wsX6_heardPairs := by decide +kernel
def T_X6_heardPairs_4 (i : Nat) (S : Sg)  : Nat → Int32 → Int32 → Option (Int32)
  | 0, _, _ => none
  | n + 1, p1, p2 => if (S.1 (sb i) 9) ≤ p2 then (some p1) else (bd (F_X6_whoHear i S p2 (0 : Int32)) (fun x3 => bd (F_J6_bitCount_0f7a4 S x3) (fun x5 => nm (p1 + x5) (fun x6 => T_X6_heardPairs_4 i S n x6 (p2 + (1 : Int32))))))
set_option maxHeartbeats 4000000 in
set_option maxRecDepth 100000 in
theorem lt_X6_heardPairs_4 {X : XT} (l : Launch) (G : Gp) (hI : Gd G) {i : Nat} (hi : i < 5) {S : Sg} (O : Ok X (wC G) cX6_heardPairs RX6 wsX6_heardPairs 3) : ∀ (n : Nat) (p1 : Int32) (p2 : Int32)  (q : (Int32)), T_X6_heardPairs_4 i S n p1 p2  = some q → (Go X l rm_X6_heardPairs (wC G) 3 30 [(1, .int q)] [] S) → Go X l rm_X6_heardPairs (wC G) 3 4 [(0, .ref (G.2.1 (sb i))), (1, .int p1), (2, .int p2)] [] S := by
  intro n
  induction n with
  | zero =>
    intro p1 p2  q hF
    cases hF
  | succ n ih =>
    intro p1 p2  q hF hE
    rw [T_X6_heardPairs_4] at hF
    refine go_iload_n O dX6_heardPairs_4 rfl 2 rfl ?_
    refine go_aload_n O dX6_heardPairs_5 rfl 0 rfl ?_
    refine go_get (k := (sb i)) (j := 9) O (lt9 hI (sb_lt0 hi)) (cv_st G hi (S.1 (sb i)) (S.2 (sb i))) rfl in_X6_heardPairs_X6 (by decide) fl_X6_heardPairs_44 rfl rfl dX6_heardPairs_6 ?_
    refine go_icmp_ge (tgt := 30) O dX6_heardPairs_9 (by decide) (fun hc7 => ?_) (fun hc7 => ?_)
    · replace hF := it_t hc7 hF
      refine go_perm (ls' := [(1, .int p1)]) [1] rfl ?_
      exact jn (P := fun q => Go X l rm_X6_heardPairs (wC G) 3 30 [(1, .int q)] [] S) hF hE
    · replace hF := it_f hc7 hF
      refine go_iload_n O dX6_heardPairs_12 rfl 1 rfl ?_
      refine go_aload_n O dX6_heardPairs_13 rfl 0 rfl ?_
      refine go_iload_n O dX6_heardPairs_14 rfl 2 rfl ?_
      refine go_iconst (v := (0 : Int32)) O dX6_heardPairs_15 (by decide) ?_
      obtain ⟨x3, hA2, hF⟩ := bd_s hF
      refine go_callVi (As := [.int p2, .int (0 : Int32)]) (rest := [.int p1]) (b := (sb i)) O (c_X6_whoHear l G hI hi hA2) (fun s args hts => cwV 2 hts gX6_heardPairs_X6_whoHear rfl rfl rfl (by decide +kernel) ⟨Nat.le_of_ble_eq_true rfl, Nat.le_of_ble_eq_true rfl⟩) (lt9 hI (sb_lt0 hi)) (cv_st G hi (S.1 (sb i)) (S.2 (sb i))) rfl rfl rfl rfl (Nat.le_of_ble_eq_true rfl) dX6_heardPairs_16 ?_
      obtain ⟨x5, hA4, hF⟩ := bd_s hF
      refine go_callSi (As := [.int x3]) (rest := [.int p1]) O (c_J6_bitCount_0f7a4 l G hI hA4) (fun s args hts => va_cwS 1 hts gX6_heardPairs_J6_bitCount_0f7a4 rfl rfl rfl (by decide +kernel) ⟨Nat.le_of_ble_eq_true rfl, Nat.le_of_ble_eq_true rfl⟩) rfl rfl (Nat.le_of_ble_eq_true rfl) dX6_heardPairs_19 ?_
      refine go_iadd O dX6_heardPairs_22 ?_
      obtain ⟨x6, ex6, hF⟩ := nm_s hF
      refine go_topi ex6 ?_
      refine go_istore_n (ls' := [(1, .int x6), (0, .ref (G.2.1 (sb i))), (2, .int p2)]) O dX6_heardPairs_23 rfl (by decide) rfl ?_
      refine go_iinc (d := (1 : Int32)) (ls' := [(2, .int (p2 + (1 : Int32))), (1, .int x6), (0, .ref (G.2.1 (sb i)))]) O dX6_heardPairs_24 2 rfl (by decide) (by decide) rfl ?_
      refine go_goto (tgt := 4) O dX6_heardPairs_27 (by decide) ?_
      refine go_perm (ls' := [(0, .ref (G.2.1 (sb i))), (1, .int x6), (2, .int (p2 + (1 : Int32)))]) [2, 1, 0] rfl ?_
      exact ih _ _ _ hF hE
def F_X6_heardPairs (i : Nat) (S : Sg)  : Option Int32 := bd (T_X6_heardPairs_4 i S FU (0 : Int32) (0 : Int32)) (fun x1 => some x1)
set_option maxHeartbeats 4000000 in
set_option maxRecDepth 100000 in
theorem c_X6_heardPairs (l : Launch) (G : Gp) (hI : Gd G) {i : Nat} (hi : i < 5) {S : Sg} {r : Int32} (hF : F_X6_heardPairs i S = some r) : Met l yX6_heardPairs wsX6_heardPairs rm_X6_heardPairs (va_Pc [.ref (G.2.1 (sb i))] (PreW (wC G) S)) (va_Qi (fun r' u => r' = r ∧ u = S) (PostW (wC G)) (AW (wC G))) 0 0 (AW (wC G)) := by
  rw [F_X6_heardPairs] at hF
  refine met_i (cc := cX6_heardPairs) (maxL := 3) (own := RX6) hI.1 (by decide) rfl rfl (Nat.le_of_ble_eq_true rfl) (fun X O hR => ?_)
  show Go X l rm_X6_heardPairs (wC G) 3 0 [(0, .ref (G.2.1 (sb i)))] [] S
  refine go_iconst (v := (0 : Int32)) O dX6_heardPairs_0 (by decide) ?_
  refine go_istore_n (ls' := [(1, .int (0 : Int32)), (0, .ref (G.2.1 (sb i)))]) O dX6_heardPairs_1 rfl (by decide) rfl ?_
  refine go_iconst (v := (0 : Int32)) O dX6_heardPairs_2 (by decide) ?_
  refine go_istore_n (ls' := [(2, .int (0 : Int32)), (1, .int (0 : Int32)), (0, .ref (G.2.1 (sb i)))]) O dX6_heardPairs_3 rfl (by decide) rfl ?_
  refine go_perm (ls' := [(0, .ref (G.2.1 (sb i))), (1, .int (0 : Int32)), (2, .int (0 : Int32))]) [2, 1, 0] rfl ?_
  obtain ⟨x1, hA8, hF⟩ := bd_s hF
  refine lt_X6_heardPairs_4 l G hI hi O _ _ _ _ hA8 ?_
  refine go_iload_n O dX6_heardPairs_30 rfl 0 rfl ?_
  exact ret_i hF (hR _ _ dX6_heardPairs_31)
-- X6_pairs
def rm_X6_pairs : Room := { frames := 1, cells := 0, slots := 0, locals := 40 }
theorem fl_X6_pairs_44 : Cond.fieldLink RX6 44 "PaperWalls$Street" "people" "I" ∈ wsX6_pairs := by decide +kernel
theorem wd_X6_pairs_im : Cond.initialized "java/lang/Math" ∈ wsX6_pairs := by decide +kernel
theorem wd_X6_pairs_kmax : Cond.code Lib.Math.max.name Lib.Math.max.code 2 (some .int) ∈ wsX6_pairs := by decide +kernel
theorem wd_X6_pairs_m113 : Cond.methodLink RX6 113 Lib.Math.max.name ∈ wsX6_pairs := by decide +kernel
theorem wd_X6_pairs_smax : Cond.static Lib.Math.max.name ∈ wsX6_pairs := by decide +kernel
theorem in_X6_pairs_X6 : ∀ x ∈ u_ws RX6 TX6 11, x ∈ wsX6_pairs := by decide +kernel
def F_X6_pairs (i : Nat) (S : Sg)  : Option Int32 := nm ((S.1 (sb i) 9) - (1 : Int32)) (fun x1 => nm (if (0 : Int32) < x1 then x1 else (0 : Int32)) (fun x2 => some ((S.1 (sb i) 9) * x2)))
set_option maxHeartbeats 4000000 in
set_option maxRecDepth 100000 in
theorem c_X6_pairs (l : Launch) (G : Gp) (hI : Gd G) {i : Nat} (hi : i < 5) {S : Sg} {r : Int32} (hF : F_X6_pairs i S = some r) : Met l yX6_pairs wsX6_pairs rm_X6_pairs (va_Pc [.ref (G.2.1 (sb i))] (PreW (wC G) S)) (va_Qi (fun r' u => r' = r ∧ u = S) (PostW (wC G)) (AW (wC G))) 0 0 (AW (wC G)) := by
  rw [F_X6_pairs] at hF
  refine met_i (cc := cX6_pairs) (maxL := 1) (own := RX6) hI.1 (by decide) rfl rfl (Nat.le_of_ble_eq_true rfl) (fun X O hR => ?_)
  show Go X l rm_X6_pairs (wC G) 1 0 [(0, .ref (G.2.1 (sb i)))] [] S
  refine go_aload_n O dX6_pairs_0 rfl 0 rfl ?_
  refine go_get (k := (sb i)) (j := 9) O (lt9 hI (sb_lt0 hi)) (cv_st G hi (S.1 (sb i)) (S.2 (sb i))) rfl in_X6_pairs_X6 (by decide) fl_X6_pairs_44 rfl rfl dX6_pairs_1 ?_
  refine go_iconst (v := (0 : Int32)) O dX6_pairs_4 (by decide) ?_
  refine go_aload_n O dX6_pairs_5 rfl 0 rfl ?_
  refine go_get (k := (sb i)) (j := 9) O (lt9 hI (sb_lt0 hi)) (cv_st G hi (S.1 (sb i)) (S.2 (sb i))) rfl in_X6_pairs_X6 (by decide) fl_X6_pairs_44 rfl rfl dX6_pairs_6 ?_
  refine go_iconst (v := (1 : Int32)) O dX6_pairs_9 (by decide) ?_
  refine go_isub O dX6_pairs_10 ?_
  obtain ⟨x1, ex1, hF⟩ := nm_s hF
  refine go_topi ex1 ?_
  obtain ⟨x2, ex2, hF⟩ := nm_s hF
  refine go_mmax (v := x2) O wd_X6_pairs_m113 wd_X6_pairs_smax wd_X6_pairs_im wd_X6_pairs_kmax (by decide) (Nat.le_of_ble_eq_true rfl) ex2.symm dX6_pairs_11 ?_
  refine go_imul O dX6_pairs_14 ?_
  exact ret_i hF (hR _ _ dX6_pairs_15)
-- X6_addTalk
def rm_X6_addTalk : Room := { frames := 0, cells := 0, slots := 0, locals := 0 }
theorem fl_X6_addTalk_24 : Cond.fieldLink RX6 24 "PaperWalls$Street" "speaker" "[I" ∈ wsX6_addTalk := by decide +kernel
theorem fl_X6_addTalk_27 : Cond.fieldLink RX6 27 "PaperWalls$Street" "hearer" "[I" ∈ wsX6_addTalk := by decide +kernel
theorem fl_X6_addTalk_30 : Cond.fieldLink RX6 30 "PaperWalls$Street" "barred" "[I" ∈ wsX6_addTalk := by decide +kernel
theorem fl_X6_addTalk_47 : Cond.fieldLink RX6 47 "PaperWalls$Street" "talks" "I" ∈ wsX6_addTalk := by decide +kernel
theorem in_X6_addTalk_X6 : ∀ x ∈ u_ws RX6 TX6 11, x ∈ wsX6_addTalk := by decide +kernel
def F_X6_addTalk (i : Nat) (S : Sg) (a1 : Int32) (a2 : Int32) (a3 : Int32) : Option (Int32 × Sg) := chk (inB (S.1 (sb i) 10) 8) (nm (wI S (sb i + 5) (S.1 (sb i) 10).toNatClampNeg a1) (fun S2 => chk (inB (S2.1 (sb i) 10) 8) (nm (wI S2 (sb i + 6) (S2.1 (sb i) 10).toNatClampNeg a2) (fun S4 => chk (inB (S4.1 (sb i) 10) 8) (nm (wI S4 (sb i + 7) (S4.1 (sb i) 10).toNatClampNeg a3) (fun S6 => nm (wI S6 (sb i) 10 ((S6.1 (sb i) 10) + (1 : Int32))) (fun S7 => some ((S7.1 (sb i) 10) - (1 : Int32), S7))))))))
set_option maxHeartbeats 4000000 in
set_option maxRecDepth 100000 in
theorem c_X6_addTalk (l : Launch) (G : Gp) (hI : Gd G) {i : Nat} (hi : i < 5) {S : Sg} {a1 : Int32} {a2 : Int32} {a3 : Int32} {r : Int32} {S1 : Sg} (hF : F_X6_addTalk i S a1 a2 a3 = some (r, S1)) : Met l yX6_addTalk wsX6_addTalk rm_X6_addTalk (va_Pc [.ref (G.2.1 (sb i)), .int a1, .int a2, .int a3] (PreW (wC G) S)) (va_Qi (fun r' u => r' = r ∧ u = S1) (PostW (wC G)) (AW (wC G))) 0 0 (AW (wC G)) := by
  rw [F_X6_addTalk] at hF
  refine met_i (cc := cX6_addTalk) (maxL := 4) (own := RX6) hI.1 (by decide) rfl rfl (Nat.le_of_ble_eq_true rfl) (fun X O hR => ?_)
  show Go X l rm_X6_addTalk (wC G) 4 0 [(0, .ref (G.2.1 (sb i))), (1, .int a1), (2, .int a2), (3, .int a3)] [] S
  refine go_aload_n O dX6_addTalk_0 rfl 0 rfl ?_
  refine go_get (k := (sb i)) (j := 4) O (lt9 hI (sb_lt0 hi)) (cv_st G hi (S.1 (sb i)) (S.2 (sb i))) rfl in_X6_addTalk_X6 (by decide) fl_X6_addTalk_24 rfl rfl dX6_addTalk_1 ?_
  refine go_aload_n O dX6_addTalk_4 rfl 0 rfl ?_
  refine go_get (k := (sb i)) (j := 10) O (lt9 hI (sb_lt0 hi)) (cv_st G hi (S.1 (sb i)) (S.2 (sb i))) rfl in_X6_addTalk_X6 (by decide) fl_X6_addTalk_47 rfl rfl dX6_addTalk_5 ?_
  refine go_iload_n O dX6_addTalk_8 rfl 1 rfl ?_
  obtain ⟨hb1, hF⟩ := chk_s hF
  obtain ⟨S2, eS2, hF⟩ := nm_s hF
  refine go_iast (k := (sb i + 5)) O (lt9 hI (sb_lt hi (by decide : 5 < 13))) (fun f => (cv_sta5 G hi f (S.2 (sb i + 5)))) (inB_in hb1) dX6_addTalk_9 eS2 ?_
  refine go_aload_n O dX6_addTalk_10 rfl 0 rfl ?_
  refine go_get (k := (sb i)) (j := 5) O (lt9 hI (sb_lt0 hi)) (cv_st G hi (S2.1 (sb i)) (S2.2 (sb i))) rfl in_X6_addTalk_X6 (by decide) fl_X6_addTalk_27 rfl rfl dX6_addTalk_11 ?_
  refine go_aload_n O dX6_addTalk_14 rfl 0 rfl ?_
  refine go_get (k := (sb i)) (j := 10) O (lt9 hI (sb_lt0 hi)) (cv_st G hi (S2.1 (sb i)) (S2.2 (sb i))) rfl in_X6_addTalk_X6 (by decide) fl_X6_addTalk_47 rfl rfl dX6_addTalk_15 ?_
  refine go_iload_n O dX6_addTalk_18 rfl 2 rfl ?_
  obtain ⟨hb3, hF⟩ := chk_s hF
  obtain ⟨S4, eS4, hF⟩ := nm_s hF
  refine go_iast (k := (sb i + 6)) O (lt9 hI (sb_lt hi (by decide : 6 < 13))) (fun f => (cv_sta6 G hi f (S2.2 (sb i + 6)))) (inB_in hb3) dX6_addTalk_19 eS4 ?_
  refine go_aload_n O dX6_addTalk_20 rfl 0 rfl ?_
  refine go_get (k := (sb i)) (j := 6) O (lt9 hI (sb_lt0 hi)) (cv_st G hi (S4.1 (sb i)) (S4.2 (sb i))) rfl in_X6_addTalk_X6 (by decide) fl_X6_addTalk_30 rfl rfl dX6_addTalk_21 ?_
  refine go_aload_n O dX6_addTalk_24 rfl 0 rfl ?_
  refine go_get (k := (sb i)) (j := 10) O (lt9 hI (sb_lt0 hi)) (cv_st G hi (S4.1 (sb i)) (S4.2 (sb i))) rfl in_X6_addTalk_X6 (by decide) fl_X6_addTalk_47 rfl rfl dX6_addTalk_25 ?_
  refine go_iload_n O dX6_addTalk_28 rfl 3 rfl ?_
  obtain ⟨hb5, hF⟩ := chk_s hF
  obtain ⟨S6, eS6, hF⟩ := nm_s hF
  refine go_iast (k := (sb i + 7)) O (lt9 hI (sb_lt hi (by decide : 7 < 13))) (fun f => (cv_sta7 G hi f (S4.2 (sb i + 7)))) (inB_in hb5) dX6_addTalk_29 eS6 ?_
  refine go_aload_n O dX6_addTalk_30 rfl 0 rfl ?_
  refine go_dup O dX6_addTalk_31 rfl ?_
  refine go_get (k := (sb i)) (j := 10) O (lt9 hI (sb_lt0 hi)) (cv_st G hi (S6.1 (sb i)) (S6.2 (sb i))) rfl in_X6_addTalk_X6 (by decide) fl_X6_addTalk_47 rfl rfl dX6_addTalk_32 ?_
  refine go_iconst (v := (1 : Int32)) O dX6_addTalk_35 (by decide) ?_
  refine go_iadd O dX6_addTalk_36 ?_
  obtain ⟨S7, eS7, hF⟩ := nm_s hF
  refine go_putI (k := (sb i)) (j := 10) O (lt9 hI (sb_lt0 hi)) (cv_st G hi (S6.1 (sb i)) (S6.2 (sb i))) rfl in_X6_addTalk_X6 (by decide) fl_X6_addTalk_47 rfl tyX6 tyX6_ok nmX6 rfl (by decide +kernel) (Nat.le_of_ble_eq_true rfl) (cv_st G hi (upd (S6.1 (sb i)) 10 ((S6.1 (sb i) 10) + (1 : Int32))) (S6.2 (sb i))) dX6_addTalk_37 eS7 ?_
  refine go_aload_n O dX6_addTalk_40 rfl 0 rfl ?_
  refine go_get (k := (sb i)) (j := 10) O (lt9 hI (sb_lt0 hi)) (cv_st G hi (S7.1 (sb i)) (S7.2 (sb i))) rfl in_X6_addTalk_X6 (by decide) fl_X6_addTalk_47 rfl rfl dX6_addTalk_41 ?_
  refine go_iconst (v := (1 : Int32)) O dX6_addTalk_44 (by decide) ?_
  refine go_isub O dX6_addTalk_45 ?_
  exact ret_wi hF (hR _ _ dX6_addTalk_46)
-- X6_isSafe
def rm_X6_isSafe : Room := { frames := 4, cells := 0, slots := 0, locals := 120 }
def F_X6_isSafe (i : Nat) (S : Sg) (a1 : Int32) (a2 : Int32) : Option Int32 := bd (F_X6_bothOf i S a1) (fun x2 => if (a2 &&& x2) = 0 then (bd (F_X6_everyone i S) (fun x4 => bd (F_X6_isHeardRightly i S a1 x4 a2 (0 : Int32)) (fun x6 => if x6 = 0 then (some (0 : Int32)) else (some (1 : Int32))))) else (some (0 : Int32)))
set_option maxHeartbeats 4000000 in
set_option maxRecDepth 100000 in
theorem c_X6_isSafe (l : Launch) (G : Gp) (hI : Gd G) {i : Nat} (hi : i < 5) {S : Sg} {a1 : Int32} {a2 : Int32} {r : Int32} (hF : F_X6_isSafe i S a1 a2 = some r) : Met l yX6_isSafe wsX6_isSafe rm_X6_isSafe (va_Pc [.ref (G.2.1 (sb i)), .int a1, .int a2] (PreW (wC G) S)) (va_Qi (fun r' u => r' = r ∧ u = S) (PostW (wC G)) (AW (wC G))) 0 0 (AW (wC G)) := by
  rw [F_X6_isSafe] at hF
  refine met_z (cc := cX6_isSafe) (maxL := 3) (own := RX6) hI.1 (by decide) rfl rfl (Nat.le_of_ble_eq_true rfl) (fun X O hR => ?_)
  show Go X l rm_X6_isSafe (wC G) 3 0 [(0, .ref (G.2.1 (sb i))), (1, .int a1), (2, .int a2)] [] S
  refine go_iload_n O dX6_isSafe_0 rfl 2 rfl ?_
  refine go_aload_n O dX6_isSafe_1 rfl 0 rfl ?_
  refine go_iload_n O dX6_isSafe_2 rfl 1 rfl ?_
  obtain ⟨x2, hA1, hF⟩ := bd_s hF
  refine go_callVi (As := [.int a1]) (rest := [.int a2]) (b := (sb i)) O (c_X6_bothOf l G hI hi hA1) (fun s args hts => cwV 1 hts gX6_isSafe_X6_bothOf rfl rfl rfl (by decide +kernel) ⟨Nat.le_of_ble_eq_true rfl, Nat.le_of_ble_eq_true rfl⟩) (lt9 hI (sb_lt0 hi)) (cv_st G hi (S.1 (sb i)) (S.2 (sb i))) rfl rfl rfl rfl (Nat.le_of_ble_eq_true rfl) dX6_isSafe_3 ?_
  refine go_iand O dX6_isSafe_6 ?_
  refine go_if_ne (tgt := 28) O dX6_isSafe_7 (by decide) (fun hc8 => ?_) (fun hc8 => ?_)
  · replace hF := it_f hc8 hF
    refine go_iconst (v := (0 : Int32)) O dX6_isSafe_28 (by decide) ?_
    exact ret_z hF (fun hz => hR _ _ hz dX6_isSafe_29) (show vp_nar .boolean (0 : Int32) = (0 : Int32) by decide)
  · replace hF := it_t hc8 hF
    refine go_aload_n O dX6_isSafe_10 rfl 0 rfl ?_
    refine go_iload_n O dX6_isSafe_11 rfl 1 rfl ?_
    refine go_aload_n O dX6_isSafe_12 rfl 0 rfl ?_
    obtain ⟨x4, hA3, hF⟩ := bd_s hF
    refine go_callVi (As := []) (rest := [.int a1, .ref (G.2.1 (sb i))]) (b := (sb i)) O (c_X6_everyone l G hI hi hA3) (fun s args hts => cwV 0 hts gX6_isSafe_X6_everyone rfl rfl rfl (by decide +kernel) ⟨Nat.le_of_ble_eq_true rfl, Nat.le_of_ble_eq_true rfl⟩) (lt9 hI (sb_lt0 hi)) (cv_st G hi (S.1 (sb i)) (S.2 (sb i))) rfl rfl rfl rfl (Nat.le_of_ble_eq_true rfl) dX6_isSafe_13 ?_
    refine go_iload_n O dX6_isSafe_16 rfl 2 rfl ?_
    refine go_iconst (v := (0 : Int32)) O dX6_isSafe_17 (by decide) ?_
    obtain ⟨x6, hA5, hF⟩ := bd_s hF
    refine go_callVi (As := [.int a1, .int x4, .int a2, .int (0 : Int32)]) (rest := []) (b := (sb i)) O (c_X6_isHeardRightly l G hI hi hA5) (fun s args hts => cwV 4 hts gX6_isSafe_X6_isHeardRightly rfl rfl rfl (by decide +kernel) ⟨Nat.le_of_ble_eq_true rfl, Nat.le_of_ble_eq_true rfl⟩) (lt9 hI (sb_lt0 hi)) (cv_st G hi (S.1 (sb i)) (S.2 (sb i))) rfl rfl rfl rfl (Nat.le_of_ble_eq_true rfl) dX6_isSafe_18 ?_
    refine go_if_eq (tgt := 28) O dX6_isSafe_21 (by decide) (fun hc7 => ?_) (fun hc7 => ?_)
    · replace hF := it_t hc7 hF
      refine go_iconst (v := (0 : Int32)) O dX6_isSafe_28 (by decide) ?_
      exact ret_z hF (fun hz => hR _ _ hz dX6_isSafe_29) (show vp_nar .boolean (0 : Int32) = (0 : Int32) by decide)
    · replace hF := it_f hc7 hF
      refine go_iconst (v := (1 : Int32)) O dX6_isSafe_24 (by decide) ?_
      refine go_goto (tgt := 29) O dX6_isSafe_25 (by decide) ?_
      exact ret_z hF (fun hz => hR _ _ hz dX6_isSafe_29) (show vp_nar .boolean (1 : Int32) = (1 : Int32) by decide)
