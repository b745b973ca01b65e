theorem bI01 {b : Bool} : (if b = true then some (1 : Int32) else some 0) = some (bI b) := by cases b <;> rfl
theorem cnt_b {n : Nat} {p : Nat → Bool} : zI (cnt n p) + bI (p n) = zI (cnt (n + 1) p) := cnt_s
theorem f6_of {i : Nat} {S : Sg} {a : AS} (c : CG i S a) (w : WG a) {v : Nat} (hv : v < 6) : F_X6_howManyOf i S (zI v) = some (zI (cnt (aP a) (fun x => isk (aK a x) v))) := by
  have wP := w.1
  have q := loopE (fun n x => T_X6_howManyOf_4 i S (zI v) n (zI (cnt x (fun x => isk (aK a x) v))) (zI x)) (aP a) (some (zI (cnt (aP a) (fun x => isk (aK a x) v)))) (by omega) (fun n => by
    simp only [T_X6_howManyOf_4]
    rw [c.1, if_le_t (by omega) (by omega)]) (fun n x hx => by
    simp only [T_X6_howManyOf_4]
    rw [c.1, if_le_f hx (by omega), chk_N (by omega) (by omega), z_tnN (by omega), c.2.2.2.2.1 x hx, f2_isof (w.2.2.2.2.1 x) hv, bd_some, bI_z, bI01, bd_some, nm, cnt_b (p := fun x => isk (aK a x) v), zSu])
  exact bd_t q
theorem bI10 {b : Bool} : (if bI b = 0 then some (0 : Int32) else some 1) = some (bI b) := by cases b <;> rfl
