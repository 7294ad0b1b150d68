section MATH
variable {l : Launch} {D : va_G} {tys : List (ClassId × FieldType)} {wd : Mem → va_W} {A0 : Nat → Prop} {cc : ByteArray} {nL : Nat} {rt : Option FieldType} {own : String} {d : Nat} {Q : Option Value → Mem → Prop} {pc : Nat} {lv : List (Nat × Value)} {st : List Value} {u : Mem}
theorem km_c_max : Cond.code Lib.Math.max.name Lib.Math.max.code 2 (some .int) ∈ TT := tt_of 82 (by decide +kernel) rfl
theorem km_s_max : Cond.static Lib.Math.max.name ∈ TT := tt_of 81 (by decide +kernel) rfl
theorem km_l_max_RX7_32 : Cond.methodLink RX7 32 Lib.Math.max.name ∈ TT := tt_of 723 (by decide +kernel) rfl
theorem km_l_max_RX8_9 : Cond.methodLink RX8 9 Lib.Math.max.name ∈ TT := tt_of 80 (by decide +kernel) rfl
theorem J_mmax {x y : Int32} {i : Nat} (hw : Cond.methodLink own i Lib.Math.max.name ∈ TT) (hdd : 1 ≤ d) (hroom : (st.map fun v => v.category).sum ≤ 8) (hd : decode cc pc = .ok (.invokestatic i, 3)) (k : AJ l D tys wd A0 cc nL rt own d Q (pc + 3) lv (.int (if x < y then y else x) :: st) u) : AJ l D tys wd A0 cc nL rt own d Q pc lv (.int y :: .int x :: st) u := by
  intro p e s m args below meth c X H locs ls hS hP hD hl
  exact va_mmax X.1 X.2.1 (X.2.2.1.trans hl.1.symm) X.2.2.2.2.2.1 (X.2.2.2.2.2.2.1 _ hw) (X.2.2.2.2.2.2.1 _ km_s_max) (X.2.2.2.2.2.2.1 _ ki_RJ9) (X.2.2.2.2.2.2.1 _ km_c_max) hdd (by show _ ≤ 100 * d; omega) (Nat.zero_le _) (Nat.zero_le _) hd (k p e s m args below meth c X H locs ls hS hP hD hl)
theorem km_c_min : Cond.code Lib.Math.min.name Lib.Math.min.code 2 (some .int) ∈ TT := tt_of 722 (by decide +kernel) rfl
theorem km_s_min : Cond.static Lib.Math.min.name ∈ TT := tt_of 721 (by decide +kernel) rfl
theorem km_l_min_RX10_274 : Cond.methodLink RX10 274 Lib.Math.min.name ∈ TT := tt_of 773 (by decide +kernel) rfl
theorem km_l_min_RX7_26 : Cond.methodLink RX7 26 Lib.Math.min.name ∈ TT := tt_of 720 (by decide +kernel) rfl
theorem J_mmin {x y : Int32} {i : Nat} (hw : Cond.methodLink own i Lib.Math.min.name ∈ TT) (hdd : 1 ≤ d) (hroom : (st.map fun v => v.category).sum ≤ 8) (hd : decode cc pc = .ok (.invokestatic i, 3)) (k : AJ l D tys wd A0 cc nL rt own d Q (pc + 3) lv (.int (if y < x then y else x) :: st) u) : AJ l D tys wd A0 cc nL rt own d Q pc lv (.int y :: .int x :: st) u := by
  intro p e s m args below meth c X H locs ls hS hP hD hl
  exact va_mmin X.1 X.2.1 (X.2.2.1.trans hl.1.symm) X.2.2.2.2.2.1 (X.2.2.2.2.2.2.1 _ hw) (X.2.2.2.2.2.2.1 _ km_s_min) (X.2.2.2.2.2.2.1 _ ki_RJ9) (X.2.2.2.2.2.2.1 _ km_c_min) hdd (by show _ ≤ 100 * d; omega) (Nat.zero_le _) (Nat.zero_le _) hd (k p e s m args below meth c X H locs ls hS hP hD hl)
theorem km_c_abs : Cond.code Lib.Math.abs.name Lib.Math.abs.code 1 (some .int) ∈ TT := tt_of 680 (by decide +kernel) rfl
theorem km_s_abs : Cond.static Lib.Math.abs.name ∈ TT := tt_of 679 (by decide +kernel) rfl
theorem km_l_abs_RX6_39 : Cond.methodLink RX6 39 Lib.Math.abs.name ∈ TT := tt_of 678 (by decide +kernel) rfl
theorem J_mabs {x : Int32} {i : Nat} (hw : Cond.methodLink own i Lib.Math.abs.name ∈ TT) (hdd : 1 ≤ d) (hroom : (st.map fun v => v.category).sum ≤ 8) (hd : decode cc pc = .ok (.invokestatic i, 3)) (k : AJ l D tys wd A0 cc nL rt own d Q (pc + 3) lv (.int (if 0 ≤ x then x else 0 - x) :: st) u) : AJ l D tys wd A0 cc nL rt own d Q pc lv (.int x :: st) u := by
  intro p e s m args below meth c X H locs ls hS hP hD hl
  exact va_mabs X.1 X.2.1 (X.2.2.1.trans hl.1.symm) X.2.2.2.2.2.1 (X.2.2.2.2.2.2.1 _ hw) (X.2.2.2.2.2.2.1 _ km_s_abs) (X.2.2.2.2.2.2.1 _ ki_RJ9) (X.2.2.2.2.2.2.1 _ km_c_abs) hdd (by show _ ≤ 100 * d; omega) (Nat.zero_le _) (Nat.zero_le _) hd (k p e s m args below meth c X H locs ls hS hP hD hl)
end MATH
