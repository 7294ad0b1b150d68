theorem cb_m10 : (Int8.ofInt (-10)).toInt32 = (-10) := by decide
theorem cb_m4 : (Int8.ofInt (-4)).toInt32 = (-4) := by decide
theorem cb_m3 : (Int8.ofInt (-3)).toInt32 = (-3) := by decide
theorem cb_m2 : (Int8.ofInt (-2)).toInt32 = (-2) := by decide
theorem cb_7 : (Int8.ofInt (7)).toInt32 = 7 := by decide
theorem cb_8 : (Int8.ofInt (8)).toInt32 = 8 := by decide
theorem cb_9 : (Int8.ofInt (9)).toInt32 = 9 := by decide
theorem cb_12 : (Int8.ofInt (12)).toInt32 = 12 := by decide
theorem cb_16 : (Int8.ofInt (16)).toInt32 = 16 := by decide
theorem cb_29 : (Int8.ofInt (29)).toInt32 = 29 := by decide
theorem cb_30 : (Int8.ofInt (30)).toInt32 = 30 := by decide
theorem cb_35 : (Int8.ofInt (35)).toInt32 = 35 := by decide
theorem cb_43 : (Int8.ofInt (43)).toInt32 = 43 := by decide
theorem cb_45 : (Int8.ofInt (45)).toInt32 = 45 := by decide
theorem cb_59 : (Int8.ofInt (59)).toInt32 = 59 := by decide
theorem cb_60 : (Int8.ofInt (60)).toInt32 = 60 := by decide
theorem cb_63 : (Int8.ofInt (63)).toInt32 = 63 := by decide
theorem cb_65 : (Int8.ofInt (65)).toInt32 = 65 := by decide
theorem cb_72 : (Int8.ofInt (72)).toInt32 = 72 := by decide
theorem cb_79 : (Int8.ofInt (79)).toInt32 = 79 := by decide
theorem cb_80 : (Int8.ofInt (80)).toInt32 = 80 := by decide
theorem cb_97 : (Int8.ofInt (97)).toInt32 = 97 := by decide
theorem cb_99 : (Int8.ofInt (99)).toInt32 = 99 := by decide
theorem cb_104 : (Int8.ofInt (104)).toInt32 = 104 := by decide
theorem ci_m1 : Int32.ofInt (-1) = (-1) := by decide
theorem ci_0 : Int32.ofInt (0) = 0 := by decide
theorem ci_1 : Int32.ofInt (1) = 1 := by decide
theorem ci_2 : Int32.ofInt (2) = 2 := by decide
theorem ci_3 : Int32.ofInt (3) = 3 := by decide
theorem ci_4 : Int32.ofInt (4) = 4 := by decide
theorem ci_5 : Int32.ofInt (5) = 5 := by decide
theorem cs_128 : (Int16.ofInt (128)).toInt32 = 128 := by decide
theorem cs_255 : (Int16.ofInt (255)).toInt32 = 255 := by decide
theorem cs_256 : (Int16.ofInt (256)).toInt32 = 256 := by decide
theorem cs_12345 : (Int16.ofInt (12345)).toInt32 = 12345 := by decide
theorem vp_lt {i : Int32} {n : Nat} (h : vp_in i n) : i.toNatClampNeg < n := Nat.not_le.mp fun q => h (Or.inr q)
theorem sw_0_2 (x : Int32) : x = 0 ∨ x = 1 ∨ x = 2 ∨ (x.toInt < 0 ∨ 2 < x.toInt) := by
  rcases (show x.toInt = 0 ∨ x.toInt = 1 ∨ x.toInt = 2 ∨ (x.toInt < 0 ∨ 2 < x.toInt) by omega) with h | h | h | h
  · exact Or.inl (Int32.toInt_inj.mp (by rw [h]; rfl))
  · exact Or.inr (Or.inl (Int32.toInt_inj.mp (by rw [h]; rfl)))
  · exact Or.inr (Or.inr (Or.inl (Int32.toInt_inj.mp (by rw [h]; rfl))))
  · exact Or.inr (Or.inr (Or.inr (h)))
theorem sw_0_4 (x : Int32) : x = 0 ∨ x = 1 ∨ x = 2 ∨ x = 3 ∨ x = 4 ∨ (x.toInt < 0 ∨ 4 < x.toInt) := by
  rcases (show x.toInt = 0 ∨ x.toInt = 1 ∨ x.toInt = 2 ∨ x.toInt = 3 ∨ x.toInt = 4 ∨ (x.toInt < 0 ∨ 4 < x.toInt) by omega) with h | h | h | h | h | h
  · exact Or.inl (Int32.toInt_inj.mp (by rw [h]; rfl))
  · exact Or.inr (Or.inl (Int32.toInt_inj.mp (by rw [h]; rfl)))
  · exact Or.inr (Or.inr (Or.inl (Int32.toInt_inj.mp (by rw [h]; rfl))))
  · exact Or.inr (Or.inr (Or.inr (Or.inl (Int32.toInt_inj.mp (by rw [h]; rfl)))))
  · exact Or.inr (Or.inr (Or.inr (Or.inr (Or.inl (Int32.toInt_inj.mp (by rw [h]; rfl))))))
  · exact Or.inr (Or.inr (Or.inr (Or.inr (Or.inr (h)))))
theorem sw_0_8 (x : Int32) : x = 0 ∨ x = 1 ∨ x = 2 ∨ x = 3 ∨ x = 4 ∨ x = 5 ∨ x = 6 ∨ x = 7 ∨ x = 8 ∨ (x.toInt < 0 ∨ 8 < x.toInt) := by
  rcases (show x.toInt = 0 ∨ x.toInt = 1 ∨ x.toInt = 2 ∨ x.toInt = 3 ∨ x.toInt = 4 ∨ x.toInt = 5 ∨ x.toInt = 6 ∨ x.toInt = 7 ∨ x.toInt = 8 ∨ (x.toInt < 0 ∨ 8 < x.toInt) by omega) with h | h | h | h | h | h | h | h | h | h
  · exact Or.inl (Int32.toInt_inj.mp (by rw [h]; rfl))
  · exact Or.inr (Or.inl (Int32.toInt_inj.mp (by rw [h]; rfl)))
  · exact Or.inr (Or.inr (Or.inl (Int32.toInt_inj.mp (by rw [h]; rfl))))
  · exact Or.inr (Or.inr (Or.inr (Or.inl (Int32.toInt_inj.mp (by rw [h]; rfl)))))
  · exact Or.inr (Or.inr (Or.inr (Or.inr (Or.inl (Int32.toInt_inj.mp (by rw [h]; rfl))))))
  · exact Or.inr (Or.inr (Or.inr (Or.inr (Or.inr (Or.inl (Int32.toInt_inj.mp (by rw [h]; rfl)))))))
  · exact Or.inr (Or.inr (Or.inr (Or.inr (Or.inr (Or.inr (Or.inl (Int32.toInt_inj.mp (by rw [h]; rfl))))))))
  · exact Or.inr (Or.inr (Or.inr (Or.inr (Or.inr (Or.inr (Or.inr (Or.inl (Int32.toInt_inj.mp (by rw [h]; rfl)))))))))
  · exact Or.inr (Or.inr (Or.inr (Or.inr (Or.inr (Or.inr (Or.inr (Or.inr (Or.inl (Int32.toInt_inj.mp (by rw [h]; rfl))))))))))
  · exact Or.inr (Or.inr (Or.inr (Or.inr (Or.inr (Or.inr (Or.inr (Or.inr (Or.inr (h)))))))))
def w_H_comesBy (x1 : Int32) (u : Mem) (Q : Int32 → Prop) : Prop := (vp_in (x1 &&& 255) 256 ∧ (vp_in (x1 &&& 255) 256 ∧ (∀ y1, y1 = ((u.2 7 (x1 &&& 255).toNatClampNeg) &&& ((u.2 8 (x1 &&& 255).toNatClampNeg) ^^^ (-1))) → (Q y1))))
def w_C_withCat_l28 (X : Int32 → Prop) (x1 : Int32) (x2 : Int32) (x3 : Int32) (u : Mem) (Q : Int32 → Prop) : Nat → Int32 → Int32 → Prop
  | 0, _, _ => False
  | n + 1, x4, x5 => ((8 ≤ x5 → (X x4)) ∧ (¬ 8 ≤ x5 → (w_H_comesBy (x1 ^^^ ((1 : Int32) <<< (x5 &&& 31))) u (fun r3 => (((r3 &&& x2) = 0 → (w_C_withCat_l28 X x1 x2 x3 u Q n x4 (x5 + 1))) ∧ (¬ (r3 &&& x2) = 0 → (w_C_withCat_l28 X x1 x2 x3 u Q n (x4 + x3) (x5 + 1))))))))
def w_C_withCat_b25 (x1 : Int32) (x2 : Int32) (x3 : Int32) (x4 : Int32) (u : Mem) (Q : Int32 → Prop) : Prop := (∃ n6, w_C_withCat_l28 (fun z5 => (Q z5)) x1 x2 x3 u Q n6 x4 0)
def w_C_withCat (x1 : Int32) (x2 : Int32) (x3 : Int32) (u : Mem) (Q : Int32 → Prop) : Prop := (w_H_comesBy x1 u (fun r1 => (((r1 &&& x2) = 0 → (w_C_withCat_b25 x1 x2 x3 0 u Q)) ∧ (¬ (r1 &&& x2) = 0 → (w_C_withCat_b25 x1 x2 x3 (0 + ((16 - x3) * 8)) u Q)))))
def w_C_lowest_l8 (X : Int32 → Prop) (x0 : Int32) (Q : Int32 → Prop) : Nat → Int32 → Int32 → Int32 → Prop
  | 0, _, _, _ => False
  | n + 1, x3, x4, x5 => ((128 ≤ x5 → (X x3)) ∧ (¬ 128 ≤ x5 → ((x4 = 0 → (X x3)) ∧ (¬ x4 = 0 → (¬ x4 = 0 ∧ (w_C_lowest_l8 X x0 Q n x4 (x3 - x3 / x4 * x4) (x5 + 1)))))))
def w_C_lowest_b40 (x0 : Int32) (x3 : Int32) (Q : Int32 → Prop) : Prop := ((¬ x3 = 0 → (¬ x3 = 0 ∧ (Q (x0 / x3)))) ∧ (x3 = 0 → (Q x0)))
def w_C_lowest (x0 : Int32) (x1 : Int32) (x2 : Int32) (Q : Int32 → Prop) : Prop := (∃ n2, w_C_lowest_l8 (fun z1 => (w_C_lowest_b40 x0 z1 Q)) x0 Q n2 x2 x1 0)
def w_D_bigOf (x1 : Int32) (u : Mem) (Q : Int32 → Prop) : Prop := ((x1 < 0 → (Q 0)) ∧ (¬ x1 < 0 → ((12 ≤ x1 → (Q 0)) ∧ (¬ 12 ≤ x1 → (vp_in x1 12 ∧ (Q (u.2 5 x1.toNatClampNeg)))))))
def w_D_smallOf (x1 : Int32) (u : Mem) (Q : Int32 → Prop) : Prop := ((x1 < 0 → (Q 0)) ∧ (¬ x1 < 0 → ((12 ≤ x1 → (Q 0)) ∧ (¬ 12 ≤ x1 → (vp_in x1 12 ∧ (Q (u.2 6 x1.toNatClampNeg)))))))
def w_R_size_0 (u : Mem) (Q : Int32 → Prop) : Prop := (Q (u.1 4))
def w_R_size_1 (u : Mem) (Q : Int32 → Prop) : Prop := (Q (u.1 8))
def w_D_laidBy_l4 (X : Int32 → Prop) (x1 : Int32) (u : Mem) (Q : Int32 → Prop) : Nat → Int32 → Int32 → Prop
  | 0, _, _ => False
  | n + 1, x2, x3 => (w_R_size_1 u (fun r1 => ((r1 ≤ x3 → (X x2)) ∧ (¬ r1 ≤ x3 → (w_D_bigOf x3 u (fun r3 => ((¬ ((x1 >>> (r3 &&& 31)) &&& 1) = 1 → (w_D_laidBy_l4 X x1 u Q n x2 (x3 + 1))) ∧ (((x1 >>> (r3 &&& 31)) &&& 1) = 1 → (w_D_smallOf x3 u (fun r5 => (w_D_laidBy_l4 X x1 u Q n (x2 ||| ((1 : Int32) <<< (r5 &&& 31))) (x3 + 1))))))))))))
def w_D_laidBy (x1 : Int32) (u : Mem) (Q : Int32 → Prop) : Prop := (∃ n8, w_D_laidBy_l4 (fun z7 => (Q z7)) x1 u Q n8 0 0)
def w_X_isBigLetter (x0 : Int32) (Q : Int32 → Prop) : Prop := ((x0 < 65 → (Q 0)) ∧ (¬ x0 < 65 → ((72 < x0 → (Q 0)) ∧ (¬ 72 < x0 → (Q 1)))))
def w_D_beginDust (x1 : Int32) (u : Mem) (Q : Int32 → Mem → Prop) : Prop := (w_R_size_1 u (fun r1 => ((12 ≤ r1 → (Q (-1) u)) ∧ (¬ 12 ≤ r1 → (w_X_isBigLetter x1 (fun r3 => ((¬ r3 = 0 → (Q 2 (sS u 10 (x1 - 65)))) ∧ (r3 = 0 → (Q (-1) u)))))))))
def w_X_isSmallLetter (x0 : Int32) (Q : Int32 → Prop) : Prop := ((x0 < 97 → (Q 0)) ∧ (¬ x0 < 97 → ((104 < x0 → (Q 0)) ∧ (¬ 104 < x0 → (Q 1)))))
def w_R_addOne_0 (u : Mem) (Q : Mem → Prop) : Prop := (Q (sS u 4 ((u.1 4) + 1)))
def w_R_addOne_1 (u : Mem) (Q : Mem → Prop) : Prop := (Q (sS u 8 ((u.1 8) + 1)))
def w_D_endDust (x1 : Int32) (u : Mem) (Q : Int32 → Mem → Prop) : Prop := (w_R_size_1 u (fun r1 => (w_X_isSmallLetter x1 (fun r3 => ((r3 = 0 → (Q (-1) u)) ∧ (¬ r3 = 0 → ((r1 < 0 → (Q (-1) u)) ∧ (¬ r1 < 0 → ((r1 < 12 → (vp_in r1 12 ∧ (vp_in r1 12 ∧ (w_R_addOne_1 (sA (sA u 5 r1.toNatClampNeg (u.1 10)) 6 r1.toNatClampNeg (x1 - 97)) (fun u6 => (Q 1 u6)))))) ∧ (¬ r1 < 12 → (Q (-1) u)))))))))))
def w_D_stateBehind (x1 : Int32) (x2 : Int32) (u : Mem) (Q : Int32 → Mem → Prop) : Prop := ((x1 = 0 → (w_D_beginDust x2 u (fun r1 u2 => (Q r1 u2)))) ∧ (x1 = 1 → ((¬ x2 = 59 → (Q (-1) u)) ∧ (x2 = 59 → (Q 0 u)))) ∧ (x1 = 2 → (w_D_endDust x2 u (fun r3 u4 => (Q r3 u4)))) ∧ ((x1.toInt < 0 ∨ 2 < x1.toInt) → (Q (-1) u)))
def w_L_isPlus (x1 : Int32) (u : Mem) (Q : Int32 → Prop) : Prop := ((x1 < 0 → (Q 0)) ∧ (¬ x1 < 0 → ((16 ≤ x1 → (Q 0)) ∧ (¬ 16 ≤ x1 → (vp_in x1 16 ∧ (((u.2 3 x1.toNatClampNeg) = 0 → (Q 0)) ∧ (¬ (u.2 3 x1.toNatClampNeg) = 0 → (Q 1))))))))
def w_L_smallOf (x1 : Int32) (u : Mem) (Q : Int32 → Prop) : Prop := ((x1 < 0 → (Q 0)) ∧ (¬ x1 < 0 → ((16 ≤ x1 → (Q 0)) ∧ (¬ 16 ≤ x1 → (vp_in x1 16 ∧ (Q (u.2 2 x1.toNatClampNeg)))))))
def w_L_bigOf (x1 : Int32) (u : Mem) (Q : Int32 → Prop) : Prop := ((x1 < 0 → (Q 0)) ∧ (¬ x1 < 0 → ((16 ≤ x1 → (Q 0)) ∧ (¬ 16 ≤ x1 → (vp_in x1 16 ∧ (Q (u.2 4 x1.toNatClampNeg)))))))
def w_L_heldBy_l5 (X : Int32 → Prop) (x1 : Int32) (x2 : Int32) (u : Mem) (Q : Int32 → Prop) : Nat → Int32 → Int32 → Prop
  | 0, _, _ => False
  | n + 1, x3, x4 => (w_R_size_0 u (fun r1 => ((r1 ≤ x4 → (X x3)) ∧ (¬ r1 ≤ x4 → (w_L_isPlus x4 u (fun r3 => ((¬ r3 = x2 → (w_L_heldBy_l5 X x1 x2 u Q n x3 (x4 + 1))) ∧ (r3 = x2 → (w_L_smallOf x4 u (fun r5 => ((¬ (r5 &&& (x1 ^^^ (-1))) = 0 → (w_L_heldBy_l5 X x1 x2 u Q n x3 (x4 + 1))) ∧ ((r5 &&& (x1 ^^^ (-1))) = 0 → (w_L_bigOf x4 u (fun r7 => (w_L_heldBy_l5 X x1 x2 u Q n (x3 ||| ((1 : Int32) <<< (r7 &&& 31))) (x4 + 1))))))))))))))))
def w_L_heldBy (x1 : Int32) (x2 : Int32) (u : Mem) (Q : Int32 → Prop) : Prop := (∃ n10, w_L_heldBy_l5 (fun z9 => (Q z9)) x1 x2 u Q n10 0 0)
def w_H_fill_l2 (X : Mem → Prop) (Q : Mem → Prop) : Nat → Int32 → Mem → Prop
  | 0, _, _ => False
  | n + 1, x3, u => ((256 ≤ x3 → (X u)) ∧ (¬ 256 ≤ x3 → (w_L_heldBy x3 1 u (fun r1 => (vp_in x3 256 ∧ (w_L_heldBy x3 0 (sA u 7 x3.toNatClampNeg r1) (fun r3 => (vp_in x3 256 ∧ (vp_in x3 256 ∧ (vp_in x3 256 ∧ (∀ y5, y5 = ((sA (sA u 7 x3.toNatClampNeg r1) 8 x3.toNatClampNeg r3).2 8 x3.toNatClampNeg) → (∀ y6, y6 = (((sA u 7 x3.toNatClampNeg r1).2 7 x3.toNatClampNeg) &&& (y5 ^^^ (-1))) → (w_D_laidBy y6 (sA (sA u 7 x3.toNatClampNeg r1) 8 x3.toNatClampNeg r3) (fun r7 => (vp_in x3 256 ∧ (w_H_fill_l2 X Q n (x3 + 1) (sA (sA (sA u 7 x3.toNatClampNeg r1) 8 x3.toNatClampNeg r3) 9 x3.toNatClampNeg r7)))))))))))))))))
def w_H_fill (u : Mem) (Q : Mem → Prop) : Prop := (∃ n10, w_H_fill_l2 (fun u9 => (Q u9)) Q n10 0 u)
def w_H_disagreeBy (x1 : Int32) (u : Mem) (Q : Int32 → Prop) : Prop := (vp_in (x1 &&& 255) 256 ∧ (vp_in (x1 &&& 255) 256 ∧ (∀ y1, y1 = ((u.2 7 (x1 &&& 255).toNatClampNeg) &&& (u.2 8 (x1 &&& 255).toNatClampNeg)) → (Q y1))))
def w_H_weekBehind (x1 : Int32) (u : Mem) (Q : Int32 → Prop) : Prop := (vp_in (x1 &&& 255) 256 ∧ (Q (u.2 9 (x1 &&& 255).toNatClampNeg)))
def w_L_plusCount_l4 (X : Int32 → Prop) (u : Mem) (Q : Int32 → Prop) : Nat → Int32 → Int32 → Prop
  | 0, _, _ => False
  | n + 1, x1, x2 => (w_R_size_0 u (fun r1 => ((r1 ≤ x2 → (X x1)) ∧ (¬ r1 ≤ x2 → (w_L_isPlus x2 u (fun r3 => ((r3 = 0 → (w_L_plusCount_l4 X u Q n x1 (x2 + 1))) ∧ (¬ r3 = 0 → (w_L_plusCount_l4 X u Q n (x1 + 1) (x2 + 1))))))))))
def w_L_plusCount (u : Mem) (Q : Int32 → Prop) : Prop := (∃ n6, w_L_plusCount_l4 (fun z5 => (Q z5)) u Q n6 0 0)
def w_L_standsFor_l4 (X : Int32 → Prop) (x1 : Int32) (u : Mem) (Q : Int32 → Prop) : Nat → Int32 → Int32 → Prop
  | 0, _, _ => False
  | n + 1, x2, x3 => (w_R_size_0 u (fun r1 => ((r1 ≤ x3 → (X x2)) ∧ (¬ r1 ≤ x3 → (w_L_isPlus x3 u (fun r3 => ((r3 = 0 → (w_L_standsFor_l4 X x1 u Q n x2 (x3 + 1))) ∧ (¬ r3 = 0 → (w_L_smallOf x3 u (fun r5 => ((¬ ((r5 >>> (x1 &&& 31)) &&& 1) = 1 → (w_L_standsFor_l4 X x1 u Q n x2 (x3 + 1))) ∧ (((r5 >>> (x1 &&& 31)) &&& 1) = 1 → (w_L_bigOf x3 u (fun r7 => (w_L_standsFor_l4 X x1 u Q n (x2 ||| ((1 : Int32) <<< (r7 &&& 31))) (x3 + 1))))))))))))))))
def w_L_standsFor (x1 : Int32) (u : Mem) (Q : Int32 → Prop) : Prop := (∃ n10, w_L_standsFor_l4 (fun z9 => (Q z9)) x1 u Q n10 0 0)
def w_L_beginLaw (x1 : Int32) (u : Mem) (Q : Int32 → Mem → Prop) : Prop := (w_R_size_0 u (fun r1 => ((16 ≤ r1 → (Q (-1) u)) ∧ (¬ 16 ≤ r1 → (w_X_isSmallLetter x1 (fun r3 => ((¬ r3 = 0 → (Q 2 (sS u 6 ((1 : Int32) <<< ((x1 - 97) &&& 31))))) ∧ (r3 = 0 → (Q (-1) u)))))))))
def w_L_pairWith (x1 : Int32) (u : Mem) (Q : Int32 → Mem → Prop) : Prop := (((u.1 6) < ((1 : Int32) <<< ((x1 - 97) &&& 31)) → (Q 3 (sS u 6 ((u.1 6) ||| ((1 : Int32) <<< ((x1 - 97) &&& 31)))))) ∧ (¬ (u.1 6) < ((1 : Int32) <<< ((x1 - 97) &&& 31)) → (Q (-1) u)))
def w_L_takeSign_b28 (u : Mem) (Q : Int32 → Mem → Prop) : Prop := (Q 4 u)
def w_L_takeSign_b12 (x1 : Int32) (s0 : Int32) (u : Mem) (Q : Int32 → Mem → Prop) : Prop := (bz s0 ∧ ((¬ s0 = 0 → (w_L_takeSign_b28 (sS u 7 s0) Q)) ∧ (s0 = 0 → ((¬ x1 = 45 → (Q (-1) (sS u 7 s0))) ∧ (x1 = 45 → (w_L_takeSign_b28 (sS u 7 s0) Q))))))
def w_L_takeSign (x1 : Int32) (u : Mem) (Q : Int32 → Mem → Prop) : Prop := ((¬ x1 = 43 → (w_L_takeSign_b12 x1 0 u Q)) ∧ (x1 = 43 → (w_L_takeSign_b12 x1 1 u Q)))
def w_L_endLaw (x1 : Int32) (u : Mem) (Q : Int32 → Mem → Prop) : Prop := (w_R_size_0 u (fun r1 => (w_X_isBigLetter x1 (fun r3 => ((r3 = 0 → (Q (-1) u)) ∧ (¬ r3 = 0 → ((r1 < 0 → (Q (-1) u)) ∧ (¬ r1 < 0 → ((r1 < 16 → (vp_in r1 16 ∧ (vp_in r1 16 ∧ (vp_in r1 16 ∧ (w_R_addOne_0 (sA (sA (sA u 2 r1.toNatClampNeg (u.1 6)) 3 r1.toNatClampNeg (vp_nar .boolean (u.1 7))) 4 r1.toNatClampNeg (x1 - 65)) (fun u6 => (Q 1 u6))))))) ∧ (¬ r1 < 16 → (Q (-1) u)))))))))))
def w_L_stateBehind (x1 : Int32) (x2 : Int32) (u : Mem) (Q : Int32 → Mem → Prop) : Prop := ((x1 = 0 → (w_L_beginLaw x2 u (fun r1 u2 => (Q r1 u2)))) ∧ (x1 = 1 → ((¬ x2 = 59 → (Q (-1) u)) ∧ (x2 = 59 → (Q 0 u)))) ∧ (x1 = 2 → (w_X_isSmallLetter x2 (fun r3 => ((r3 = 0 → (w_L_takeSign x2 u (fun r5 u6 => (Q r5 u6)))) ∧ (¬ r3 = 0 → (w_L_pairWith x2 u (fun r7 u8 => (Q r7 u8)))))))) ∧ (x1 = 3 → (w_L_takeSign x2 u (fun r9 u10 => (Q r9 u10)))) ∧ (x1 = 4 → (w_L_endLaw x2 u (fun r11 u12 => (Q r11 u12)))) ∧ ((x1.toInt < 0 ∨ 4 < x1.toInt) → (Q (-1) u)))
def w_I_bitCount (x0 : Int32) (Q : Int32 → Prop) : Prop := (∀ y1, y1 = ((x0.toUInt32 >>> ((1 : Int32).toUInt32 &&& Int32.toUInt32 31)).toInt32 &&& 1431655765) → (∀ y2, y2 = ((x0 - y1).toUInt32 >>> ((2 : Int32).toUInt32 &&& Int32.toUInt32 31)).toInt32 → (∀ y3, y3 = ((((x0 - y1) &&& 858993459) + (y2 &&& 858993459)).toUInt32 >>> ((4 : Int32).toUInt32 &&& Int32.toUInt32 31)).toInt32 → (∀ y4, y4 = (((((x0 - y1) &&& 858993459) + (y2 &&& 858993459)) + y3) &&& 252645135) → (∀ y5, y5 = (y4 + (y4.toUInt32 >>> ((8 : Int32).toUInt32 &&& Int32.toUInt32 31)).toInt32) → (∀ y6, y6 = (y5.toUInt32 >>> ((16 : Int32).toUInt32 &&& Int32.toUInt32 31)).toInt32 → (Q ((y5 + y6) &&& 63))))))))
def w_P_isFewer_b16 (Q : Int32 → Prop) : Prop := (Q 1)
def w_P_isFewer (x0 : Int32) (x1 : Int32) (Q : Int32 → Prop) : Prop := ((x1 = (-1) → (w_P_isFewer_b16 Q)) ∧ (¬ x1 = (-1) → (w_I_bitCount x0 (fun r1 => (w_I_bitCount x1 (fun r3 => ((r3 ≤ r1 → (Q 0)) ∧ (¬ r3 ≤ r1 → (w_P_isFewer_b16 Q)))))))))
def w_P_bigsIn_l5 (X : Int32 → Prop) (x2 : Int32) (u : Mem) (Q : Int32 → Prop) : Nat → Int32 → Int32 → Prop
  | 0, _, _ => False
  | n + 1, x3, x4 => ((x2 ≤ x4 → (X x3)) ∧ (¬ x2 ≤ x4 → (w_H_weekBehind x3 u (fun r1 => (w_P_bigsIn_l5 X x2 u Q n r1 (x4 + 1))))))
def w_P_bigsIn (x1 : Int32) (x2 : Int32) (u : Mem) (Q : Int32 → Prop) : Prop := (∃ n6, w_P_bigsIn_l5 (fun z3 => (w_H_comesBy z3 u (fun r4 => (Q r4)))) x2 u Q n6 x1 1)
def w_P_fewestTouched_l6 (X : Int32 → Prop) (x1 : Int32) (x2 : Int32) (x3 : Int32) (x4 : Int32) (u : Mem) (Q : Int32 → Prop) : Nat → Int32 → Int32 → Prop
  | 0, _, _ => False
  | n + 1, x5, x6 => ((256 ≤ x6 → (X x5)) ∧ (¬ 256 ≤ x6 → (w_P_isFewer x6 x5 (fun r1 => ((r1 = 0 → (w_P_fewestTouched_l6 X x1 x2 x3 x4 u Q n x5 (x6 + 1))) ∧ (¬ r1 = 0 → (w_P_bigsIn (x1 ^^^ x6) x2 u (fun r3 => ((¬ (r3 &&& x3) = x3 → (w_P_fewestTouched_l6 X x1 x2 x3 x4 u Q n x5 (x6 + 1))) ∧ ((r3 &&& x3) = x3 → ((¬ (r3 &&& x4) = 0 → (w_P_fewestTouched_l6 X x1 x2 x3 x4 u Q n x5 (x6 + 1))) ∧ ((r3 &&& x4) = 0 → (w_P_fewestTouched_l6 X x1 x2 x3 x4 u Q n x6 (x6 + 1))))))))))))))
def w_P_fewestTouched (x1 : Int32) (x2 : Int32) (x3 : Int32) (x4 : Int32) (u : Mem) (Q : Int32 → Prop) : Prop := (∃ n6, w_P_fewestTouched_l6 (fun z5 => (Q z5)) x1 x2 x3 x4 u Q n6 (-1) 0)
def w_P_staysOff_l6 (X : Prop) (x2 : Int32) (x3 : Int32) (u : Mem) (Q : Int32 → Prop) : Nat → Int32 → Int32 → Prop
  | 0, _, _ => False
  | n + 1, x4, x5 => ((x2 < x5 → (X)) ∧ (¬ x2 < x5 → (w_H_comesBy x4 u (fun r1 => (((r1 &&& x3) = 0 → (w_H_weekBehind x4 u (fun r3 => (w_P_staysOff_l6 X x2 x3 u Q n r3 (x5 + 1))))) ∧ (¬ (r1 &&& x3) = 0 → (Q 0)))))))
def w_P_staysOff (x1 : Int32) (x2 : Int32) (x3 : Int32) (u : Mem) (Q : Int32 → Prop) : Prop := (∃ n5, w_P_staysOff_l6 ((Q 1)) x2 x3 u Q n5 x1 1)
def w_P_fewestSwept_b28 (R : Int32 → Int32 → Prop) (X : Int32 → Prop) (x1 : Int32) (x2 : Int32) (x3 : Int32) (x4 : Int32) (x5 : Int32) (s0 : Int32) (u : Mem) (Q : Int32 → Prop) : Prop := ((s0 = 0 → (R x4 (x5 + 1))) ∧ (¬ s0 = 0 → (w_P_isFewer x5 x4 (fun r1 => ((r1 = 0 → (R x4 (x5 + 1))) ∧ (¬ r1 = 0 → (w_P_staysOff (x1 &&& (x5 ^^^ (-1))) x2 x3 u (fun r3 => ((r3 = 0 → (R x4 (x5 + 1))) ∧ (¬ r3 = 0 → (R x5 (x5 + 1))))))))))))
def w_P_fewestSwept_l6 (X : Int32 → Prop) (x1 : Int32) (x2 : Int32) (x3 : Int32) (u : Mem) (Q : Int32 → Prop) : Nat → Int32 → Int32 → Prop
  | 0, _, _ => False
  | n + 1, x4, x5 => ((256 ≤ x5 → (X x4)) ∧ (¬ 256 ≤ x5 → ((¬ (x5 &&& (x1 ^^^ (-1))) = 0 → (w_P_fewestSwept_b28 (w_P_fewestSwept_l6 X x1 x2 x3 u Q n) X x1 x2 x3 x4 x5 0 u Q)) ∧ ((x5 &&& (x1 ^^^ (-1))) = 0 → (w_P_fewestSwept_b28 (w_P_fewestSwept_l6 X x1 x2 x3 u Q n) X x1 x2 x3 x4 x5 1 u Q)))))
def w_P_fewestSwept (x1 : Int32) (x2 : Int32) (x3 : Int32) (u : Mem) (Q : Int32 → Prop) : Prop := (∃ n6, w_P_fewestSwept_l6 (fun z5 => (Q z5)) x1 x2 x3 u Q n6 (-1) 0)
def w_P_weekOf_l6 (X : Prop) (x2 : Int32) (x3 : Int32) (u : Mem) (Q : Int32 → Prop) : Nat → Int32 → Int32 → Prop
  | 0, _, _ => False
  | n + 1, x4, x5 => ((x3 ≤ x5 → (X)) ∧ (¬ x3 ≤ x5 → ((¬ x4 = x2 → (w_H_weekBehind x4 u (fun r1 => (w_P_weekOf_l6 X x2 x3 u Q n r1 (x5 + 1))))) ∧ (x4 = x2 → (Q x5)))))
def w_P_weekOf (x1 : Int32) (x2 : Int32) (x3 : Int32) (u : Mem) (Q : Int32 → Prop) : Prop := (∃ n3, w_P_weekOf_l6 ((Q (-1))) x2 x3 u Q n3 x1 0)
def w_P_weeksToRepeat_l4 (X : Prop) (x1 : Int32) (u : Mem) (Q : Int32 → Prop) : Nat → Int32 → Int32 → Prop
  | 0, _, _ => False
  | n + 1, x2, x3 => ((256 < x3 → (X)) ∧ (¬ 256 < x3 → (w_H_weekBehind x2 u (fun r1 => (w_P_weekOf x1 r1 x3 u (fun r3 => ((r3 = (-1) → (w_P_weeksToRepeat_l4 X x1 u Q n r1 (x3 + 1))) ∧ (¬ r3 = (-1) → (Q x3)))))))))
def w_P_weeksToRepeat (x1 : Int32) (u : Mem) (Q : Int32 → Prop) : Prop := (∃ n5, w_P_weeksToRepeat_l4 ((Q (-1))) x1 u Q n5 x1 1)
def w_P_roundLength_l11 (X : Int32 → Prop) (x1 : Int32) (x2 : Int32) (u : Mem) (Q : Int32 → Prop) : Nat → Int32 → Int32 → Prop
  | 0, _, _ => False
  | n + 1, x3, x4 => ((x2 ≤ x4 → (X x3)) ∧ (¬ x2 ≤ x4 → (w_H_weekBehind x3 u (fun r3 => (w_P_roundLength_l11 X x1 x2 u Q n r3 (x4 + 1))))))
def w_P_roundLength (x1 : Int32) (u : Mem) (Q : Int32 → Prop) : Prop := (w_P_weeksToRepeat x1 u (fun r1 => (∃ n8, w_P_roundLength_l11 (fun z5 => (w_P_weekOf x1 z5 r1 u (fun r6 => (Q (r1 - r6))))) x1 r1 u Q n8 x1 0)))
def w_P_itComes_b9 (G : Int32 → Int32 → Int32 → Int32 → (Int32 → Prop) → Prop) (x1 : Int32) (x2 : Int32) (u : Mem) (Q : Int32 → Prop) : Prop := (w_H_comesBy x1 u (fun r1 => (((r1 &&& x2) = 0 → (Q 0)) ∧ (¬ (r1 &&& x2) = 0 → (Q 1)))))
def w_P_itComes_b83 (G : Int32 → Int32 → Int32 → Int32 → (Int32 → Prop) → Prop) (R : Int32 → Prop) (X : Prop) (x1 : Int32) (x2 : Int32) (x3 : Int32) (x4 : Int32) (x5 : Int32) (s0 : Int32) (s1 : Int32) (s2 : Int32) (s3 : Int32) (u : Mem) (Q : Int32 → Prop) : Prop := (G s3 s2 s1 s0 (fun r5 => ((¬ r5 = x4 → (R (x5 + 1))) ∧ (r5 = x4 → (bz x4 ∧ (Q x4))))))
def w_P_itComes_l55 (G : Int32 → Int32 → Int32 → Int32 → (Int32 → Prop) → Prop) (X : Prop) (x1 : Int32) (x2 : Int32) (x3 : Int32) (x4 : Int32) (u : Mem) (Q : Int32 → Prop) : Nat → Int32 → Prop
  | 0, _ => False
  | n + 1, x5 => ((8 ≤ x5 → (X)) ∧ (¬ 8 ≤ x5 → ((¬ x4 = 0 → (w_P_itComes_b83 G (w_P_itComes_l55 G X x1 x2 x3 x4 u Q n) X x1 x2 x3 x4 x5 0 (x3 - 1) x2 (x1 ^^^ ((1 : Int32) <<< (x5 &&& 31))) u Q)) ∧ (x4 = 0 → (w_P_itComes_b83 G (w_P_itComes_l55 G X x1 x2 x3 x4 u Q n) X x1 x2 x3 x4 x5 1 (x3 - 1) x2 (x1 ^^^ ((1 : Int32) <<< (x5 &&& 31))) u Q)))))
def w_P_itComes_b41 (G : Int32 → Int32 → Int32 → Int32 → (Int32 → Prop) → Prop) (x1 : Int32) (x2 : Int32) (x3 : Int32) (x4 : Int32) (s0 : Int32) (s1 : Int32) (s2 : Int32) (s3 : Int32) (u : Mem) (Q : Int32 → Prop) : Prop := (G s3 s2 s1 s0 (fun r3 => ((¬ r3 = x4 → (∃ n7, w_P_itComes_l55 G (((¬ x4 = 0 → (Q 0)) ∧ (x4 = 0 → (Q 1)))) x1 x2 x3 x4 u Q n7 0)) ∧ (r3 = x4 → (bz x4 ∧ (Q x4))))))
def w_P_itComes_body (G : Int32 → Int32 → Int32 → Int32 → (Int32 → Prop) → Prop) (x1 : Int32) (x2 : Int32) (x3 : Int32) (x4 : Int32) (u : Mem) (Q : Int32 → Prop) : Prop := ((x3 ≤ 0 → (w_P_itComes_b9 G x1 x2 u Q)) ∧ (¬ x3 ≤ 0 → ((x3 ≤ 4 → ((¬ x4 = 0 → (w_P_itComes_b41 G x1 x2 x3 x4 0 (x3 - 1) x2 x1 u Q)) ∧ (x4 = 0 → (w_P_itComes_b41 G x1 x2 x3 x4 1 (x3 - 1) x2 x1 u Q)))) ∧ (¬ x3 ≤ 4 → (w_P_itComes_b9 G x1 x2 u Q)))))
def w_P_itComes : Nat → Int32 → Int32 → Int32 → Int32 → Mem → (Int32 → Prop) → Prop
  | 0, _, _, _, _, _, _ => False
  | n + 1, x1, x2, x3, x4, u, Q => w_P_itComes_body (fun x1 x2 x3 x4 Q => w_P_itComes n x1 x2 x3 x4 u Q) x1 x2 x3 x4 u Q
def w_P_endsInComing (x1 : Int32) (x2 : Int32) (x3 : Int32) (u : Mem) (Q : Int32 → Prop) : Prop := (w_P_itComes 5 x1 x2 x3 1 u (fun r1 => (bz r1 ∧ (Q r1))))
def w_P_firstTouch_l22 (X : Prop) (x1 : Int32) (x2 : Int32) (x3 : Int32) (u : Mem) (Q : Int32 → Prop) : Nat → Int32 → Prop
  | 0, _ => False
  | n + 1, x4 => ((8 ≤ x4 → (X)) ∧ (¬ 8 ≤ x4 → (w_P_itComes 5 (x1 ^^^ ((1 : Int32) <<< (x4 &&& 31))) x2 (x3 - 1) 0 u (fun r3 => ((r3 = 0 → (w_P_firstTouch_l22 X x1 x2 x3 u Q n (x4 + 1))) ∧ (¬ r3 = 0 → (Q x4)))))))
def w_P_firstTouch (x1 : Int32) (x2 : Int32) (x3 : Int32) (u : Mem) (Q : Int32 → Prop) : Prop := ((x3 ≤ 0 → (Q (-1))) ∧ (¬ x3 ≤ 0 → (w_P_itComes 5 x1 x2 (x3 - 1) 0 u (fun r1 => ((r1 = 0 → (∃ n5, w_P_firstTouch_l22 ((Q (-1))) x1 x2 x3 u Q n5 0)) ∧ (¬ r1 = 0 → (Q (-1))))))))
def w_R_faultPlace_0 (u : Mem) (Q : Int32 → Prop) : Prop := (Q (u.1 5))
def w_R_faultPlace_1 (u : Mem) (Q : Int32 → Prop) : Prop := (Q (u.1 9))
def w_T_size_0 (u : Mem) (Q : Int32 → Prop) : Prop := (Q (u.1 2))
def w_T_size_1 (u : Mem) (Q : Int32 → Prop) : Prop := (Q (u.1 3))
def w_T_byteAt_0 (x1 : Int32) (u : Mem) (Q : Int32 → Prop) : Prop := ((x1 < 0 → (Q (-1))) ∧ (¬ x1 < 0 → (((u.1 2) ≤ x1 → (Q (-1))) ∧ (¬ (u.1 2) ≤ x1 → ((79 ≤ x1 → (Q (-1))) ∧ (¬ 79 ≤ x1 → (vp_in x1 79 ∧ (Q (u.2 0 x1.toNatClampNeg)))))))))
def w_T_byteAt_1 (x1 : Int32) (u : Mem) (Q : Int32 → Prop) : Prop := ((x1 < 0 → (Q (-1))) ∧ (¬ x1 < 0 → (((u.1 3) ≤ x1 → (Q (-1))) ∧ (¬ (u.1 3) ≤ x1 → ((35 ≤ x1 → (Q (-1))) ∧ (¬ 35 ≤ x1 → (vp_in x1 35 ∧ (Q (u.2 1 x1.toNatClampNeg)))))))))
def w_R_readFrom_0_l14 (X : Int32 → Mem → Prop) (Q : Mem → Prop) : Nat → Int32 → Int32 → Mem → Prop
  | 0, _, _, _ => False
  | n + 1, x2, x3, u => (w_T_size_0 u (fun r1 => ((r1 ≤ x3 → (X x2 u)) ∧ (¬ r1 ≤ x3 → ((¬ (u.1 5) = (-1) → (X x2 u)) ∧ ((u.1 5) = (-1) → (w_T_byteAt_0 x3 u (fun r3 => (w_L_stateBehind x2 r3 u (fun r5 u6 => ((¬ r5 = (-1) → (w_R_readFrom_0_l14 X Q n r5 (x3 + 1) u6)) ∧ (r5 = (-1) → (w_R_readFrom_0_l14 X Q n r5 (x3 + 1) (sS u6 5 x3))))))))))))))
def w_R_readFrom_0_b85 (u : Mem) (Q : Mem → Prop) : Prop := (((u.1 5) = (-1) → (Q u)) ∧ (¬ (u.1 5) = (-1) → (Q (sS u 4 0))))
def w_R_readFrom_0_b57 (x2 : Int32) (u : Mem) (Q : Mem → Prop) : Prop := ((¬ (u.1 5) = (-1) → (w_R_readFrom_0_b85 u Q)) ∧ ((u.1 5) = (-1) → ((x2 = 1 → (w_R_readFrom_0_b85 u Q)) ∧ (¬ x2 = 1 → (w_T_size_0 u (fun r9 => ((r9 ≤ 0 → (w_R_readFrom_0_b85 u Q)) ∧ (¬ r9 ≤ 0 → (w_T_size_0 u (fun r11 => (w_R_readFrom_0_b85 (sS u 5 r11) Q)))))))))))
def w_R_readFrom_0 (u : Mem) (Q : Mem → Prop) : Prop := (∃ n13, w_R_readFrom_0_l14 (fun z7 u8 => (w_R_readFrom_0_b57 z7 u8 Q)) Q n13 0 0 (sS (sS u 4 0) 5 (-1)))
def w_R_readFrom_1_l14 (X : Int32 → Mem → Prop) (Q : Mem → Prop) : Nat → Int32 → Int32 → Mem → Prop
  | 0, _, _, _ => False
  | n + 1, x2, x3, u => (w_T_size_1 u (fun r1 => ((r1 ≤ x3 → (X x2 u)) ∧ (¬ r1 ≤ x3 → ((¬ (u.1 9) = (-1) → (X x2 u)) ∧ ((u.1 9) = (-1) → (w_T_byteAt_1 x3 u (fun r3 => (w_D_stateBehind x2 r3 u (fun r5 u6 => ((¬ r5 = (-1) → (w_R_readFrom_1_l14 X Q n r5 (x3 + 1) u6)) ∧ (r5 = (-1) → (w_R_readFrom_1_l14 X Q n r5 (x3 + 1) (sS u6 9 x3))))))))))))))
def w_R_readFrom_1_b85 (u : Mem) (Q : Mem → Prop) : Prop := (((u.1 9) = (-1) → (Q u)) ∧ (¬ (u.1 9) = (-1) → (Q (sS u 8 0))))
def w_R_readFrom_1_b57 (x2 : Int32) (u : Mem) (Q : Mem → Prop) : Prop := ((¬ (u.1 9) = (-1) → (w_R_readFrom_1_b85 u Q)) ∧ ((u.1 9) = (-1) → ((x2 = 1 → (w_R_readFrom_1_b85 u Q)) ∧ (¬ x2 = 1 → (w_T_size_1 u (fun r9 => ((r9 ≤ 0 → (w_R_readFrom_1_b85 u Q)) ∧ (¬ r9 ≤ 0 → (w_T_size_1 u (fun r11 => (w_R_readFrom_1_b85 (sS u 9 r11) Q)))))))))))
def w_R_readFrom_1 (u : Mem) (Q : Mem → Prop) : Prop := (∃ n13, w_R_readFrom_1_l14 (fun z7 u8 => (w_R_readFrom_1_b57 z7 u8 Q)) Q n13 0 0 (sS (sS u 8 0) 9 (-1)))
def w_S_size (u : Mem) (Q : Int32 → Prop) : Prop := (Q (u.1 13))
def w_S_clear (u : Mem) (Q : Mem → Prop) : Prop := (Q (sS u 13 0))
def w_S_addSight (x1 : Int32) (x2 : Int32) (u : Mem) (Q : Int32 → Mem → Prop) : Prop := (((u.1 13) < 0 → (Q 0 u)) ∧ (¬ (u.1 13) < 0 → (((u.1 13) < 8 → (vp_in (u.1 13) 8 ∧ (vp_in (u.1 13) 8 ∧ (Q 1 (sS (sA (sA u 15 (u.1 13).toNatClampNeg x1) 16 (u.1 13).toNatClampNeg x2) 13 ((u.1 13) + 1)))))) ∧ (¬ (u.1 13) < 8 → (Q 0 u)))))
def w_S_mayStand_b55 (R : Int32 → Prop) (X : Prop) (x1 : Int32) (x2 : Int32) (x3 : Int32) (s0 : Int32) (s1 : Int32) (u : Mem) (Q : Int32 → Prop) : Prop := ((s1 = s0 → (R (x3 + 1))) ∧ (¬ s1 = s0 → (Q 0)))
def w_S_mayStand_b35 (R : Int32 → Prop) (X : Prop) (x1 : Int32) (x2 : Int32) (x3 : Int32) (s0 : Int32) (u : Mem) (Q : Int32 → Prop) : Prop := (vp_in x3 8 ∧ ((((u.2 15 x3.toNatClampNeg) &&& x1) = 0 → (w_S_mayStand_b55 R X x1 x2 x3 0 s0 u Q)) ∧ (¬ ((u.2 15 x3.toNatClampNeg) &&& x1) = 0 → (w_S_mayStand_b55 R X x1 x2 x3 1 s0 u Q))))
def w_S_mayStand_l2 (X : Prop) (x1 : Int32) (x2 : Int32) (u : Mem) (Q : Int32 → Prop) : Nat → Int32 → Prop
  | 0, _ => False
  | n + 1, x3 => (((u.1 13) ≤ x3 → (X)) ∧ (¬ (u.1 13) ≤ x3 → ((8 ≤ x3 → (X)) ∧ (¬ 8 ≤ x3 → (vp_in x3 8 ∧ ((¬ (((u.2 16 x3.toNatClampNeg) >>> (x2 &&& 31)) &&& 1) = 1 → (w_S_mayStand_b35 (w_S_mayStand_l2 X x1 x2 u Q n) X x1 x2 x3 0 u Q)) ∧ ((((u.2 16 x3.toNatClampNeg) >>> (x2 &&& 31)) &&& 1) = 1 → (w_S_mayStand_b35 (w_S_mayStand_l2 X x1 x2 u Q n) X x1 x2 x3 1 u Q))))))))
def w_S_mayStand (x1 : Int32) (x2 : Int32) (u : Mem) (Q : Int32 → Prop) : Prop := (∃ n1, w_S_mayStand_l2 ((Q 1)) x1 x2 u Q n1 0)
def w_S_howManyStand_l4 (X : Int32 → Prop) (x1 : Int32) (u : Mem) (Q : Int32 → Prop) : Nat → Int32 → Int32 → Prop
  | 0, _, _ => False
  | n + 1, x2, x3 => ((256 ≤ x3 → (X x2)) ∧ (¬ 256 ≤ x3 → (w_S_mayStand x3 x1 u (fun r1 => ((r1 = 0 → (w_S_howManyStand_l4 X x1 u Q n x2 (x3 + 1))) ∧ (¬ r1 = 0 → (w_S_howManyStand_l4 X x1 u Q n (x2 + 1) (x3 + 1))))))))
def w_S_howManyStand (x1 : Int32) (u : Mem) (Q : Int32 → Prop) : Prop := (∃ n4, w_S_howManyStand_l4 (fun z3 => (Q z3)) x1 u Q n4 0 0)
def w_S_fewestStand_b27 (R : Int32 → Int32 → Prop) (X : Int32 → Prop) (x1 : Int32) (x2 : Int32) (x3 : Int32) (u : Mem) (Q : Int32 → Prop) : Prop := (w_S_mayStand x3 x1 u (fun r1 => ((r1 = 0 → (R x2 (x3 + 1))) ∧ (¬ r1 = 0 → (R x3 (x3 + 1))))))
def w_S_fewestStand_l4 (X : Int32 → Prop) (x1 : Int32) (u : Mem) (Q : Int32 → Prop) : Nat → Int32 → Int32 → Prop
  | 0, _, _ => False
  | n + 1, x2, x3 => ((256 ≤ x3 → (X x2)) ∧ (¬ 256 ≤ x3 → ((x2 = (-1) → (w_S_fewestStand_b27 (w_S_fewestStand_l4 X x1 u Q n) X x1 x2 x3 u Q)) ∧ (¬ x2 = (-1) → (w_I_bitCount x3 (fun r3 => (w_I_bitCount x2 (fun r5 => ((r5 ≤ r3 → (w_S_fewestStand_l4 X x1 u Q n x2 (x3 + 1))) ∧ (¬ r5 ≤ r3 → (w_S_fewestStand_b27 (w_S_fewestStand_l4 X x1 u Q n) X x1 x2 x3 u Q)))))))))))
def w_S_fewestStand (x1 : Int32) (u : Mem) (Q : Int32 → Prop) : Prop := (∃ n8, w_S_fewestStand_l4 (fun z7 => (Q z7)) x1 u Q n8 (-1) 0)
def w_S_howManyStandWith_l5 (X : Int32 → Prop) (x1 : Int32) (x2 : Int32) (u : Mem) (Q : Int32 → Prop) : Nat → Int32 → Int32 → Prop
  | 0, _, _ => False
  | n + 1, x3, x4 => ((256 ≤ x4 → (X x3)) ∧ (¬ 256 ≤ x4 → ((¬ ((x4 >>> (x2 &&& 31)) &&& 1) = 1 → (w_S_howManyStandWith_l5 X x1 x2 u Q n x3 (x4 + 1))) ∧ (((x4 >>> (x2 &&& 31)) &&& 1) = 1 → (w_S_mayStand x4 x1 u (fun r1 => ((r1 = 0 → (w_S_howManyStandWith_l5 X x1 x2 u Q n x3 (x4 + 1))) ∧ (¬ r1 = 0 → (w_S_howManyStandWith_l5 X x1 x2 u Q n (x3 + 1) (x4 + 1))))))))))
def w_S_howManyStandWith (x1 : Int32) (x2 : Int32) (u : Mem) (Q : Int32 → Prop) : Prop := (∃ n4, w_S_howManyStandWith_l5 (fun z3 => (Q z3)) x1 x2 u Q n4 0 0)
def w_S_nearestHalf_b55 (R : Int32 → Int32 → Int32 → Prop) (X : Int32 → Prop) (x1 : Int32) (x2 : Int32) (x5 : Int32) (x6 : Int32) (u : Mem) (Q : Int32 → Prop) : Prop := (R x5 x6 (x5 + 1))
def w_S_nearestHalf_l20 (X : Int32 → Prop) (x1 : Int32) (x2 : Int32) (u : Mem) (Q : Int32 → Prop) : Nat → Int32 → Int32 → Int32 → Prop
  | 0, _, _, _ => False
  | n + 1, x3, x4, x5 => ((8 ≤ x5 → (X x3)) ∧ (¬ 8 ≤ x5 → (w_S_howManyStandWith x1 x5 u (fun r3 => ((x3 = (-1) → (w_S_nearestHalf_b55 (w_S_nearestHalf_l20 X x1 x2 u Q n) X x1 x2 x5 (if 0 ≤ ((2 * r3) - x2) then ((2 * r3) - x2) else 0 - ((2 * r3) - x2)) u Q)) ∧ (¬ x3 = (-1) → ((x4 ≤ (if 0 ≤ ((2 * r3) - x2) then ((2 * r3) - x2) else 0 - ((2 * r3) - x2)) → (w_S_nearestHalf_l20 X x1 x2 u Q n x3 x4 (x5 + 1))) ∧ (¬ x4 ≤ (if 0 ≤ ((2 * r3) - x2) then ((2 * r3) - x2) else 0 - ((2 * r3) - x2)) → (w_S_nearestHalf_b55 (w_S_nearestHalf_l20 X x1 x2 u Q n) X x1 x2 x5 (if 0 ≤ ((2 * r3) - x2) then ((2 * r3) - x2) else 0 - ((2 * r3) - x2)) u Q)))))))))
def w_S_nearestHalf (x1 : Int32) (u : Mem) (Q : Int32 → Prop) : Prop := (w_S_howManyStand x1 u (fun r1 => ((¬ r1 = 0 → (∃ n6, w_S_nearestHalf_l20 (fun z5 => (Q z5)) x1 r1 u Q n6 (-1) 0 0)) ∧ (r1 = 0 → (Q (-1))))))
def w_Z_isLost (j0 : Nat) (u : Mem) (Q : Int32 → Prop) : Prop := (bz (u.1 (16 + 3 * j0)) ∧ (Q (u.1 (16 + 3 * j0))))
def w_Z_formOf (j0 : Nat) (u : Mem) (Q : Int32 → Prop) : Prop := (Q (u.1 (14 + 3 * j0)))
def w_Z_size (j0 : Nat) (u : Mem) (Q : Int32 → Prop) : Prop := (Q (u.1 (15 + 3 * j0)))
def w_Z_begin_l26 (X : Mem → Prop) (j0 : Nat) (Q : Mem → Prop) : Nat → Int32 → Mem → Prop
  | 0, _, _ => False
  | n + 1, x3, u => (((u.1 (15 + 3 * j0)) ≤ x3 → (X u)) ∧ (¬ (u.1 (15 + 3 * j0)) ≤ x3 → (vp_in x3 60 ∧ (w_Z_begin_l26 X j0 Q n (x3 + 1) (sA u (17 + j0) x3.toNatClampNeg 0)))))
def w_Z_begin (j0 : Nat) (x1 : Int32) (x2 : Int32) (u : Mem) (Q : Mem → Prop) : Prop := (∀ y1, y1 = (if 0 < (if 60 < x2 then 60 else x2) then (if 60 < x2 then 60 else x2) else 0) → (∃ n3, w_Z_begin_l26 (fun u2 => (Q u2)) j0 Q n3 0 (sS (sS (sS u (14 + 3 * j0) x1) (15 + 3 * j0) y1) (16 + 3 * j0) 0)))
def w_Z_end (j0 : Nat) (u : Mem) (Q : Mem → Prop) : Prop := (Q (sS (sS u (15 + 3 * j0) 0) (16 + 3 * j0) 1))
def w_Z_hasItems (j0 : Nat) (x1 : Int32) (x2 : Int32) (u : Mem) (Q : Int32 → Prop) : Prop := ((x1 < 0 → (Q 0)) ∧ (¬ x1 < 0 → ((x2 < 0 → (Q 0)) ∧ (¬ x2 < 0 → (((u.1 (15 + 3 * j0)) < x1 → (Q 0)) ∧ (¬ (u.1 (15 + 3 * j0)) < x1 → ((((u.1 (15 + 3 * j0)) - x1) < x2 → (Q 0)) ∧ (¬ ((u.1 (15 + 3 * j0)) - x1) < x2 → (Q 1)))))))))
def w_Z_item (j0 : Nat) (x1 : Int32) (u : Mem) (Q : Int32 → Prop) : Prop := (w_Z_hasItems j0 x1 1 u (fun r1 => ((r1 = 0 → (Q 0)) ∧ (¬ r1 = 0 → ((60 ≤ x1 → (Q 0)) ∧ (¬ 60 ≤ x1 → (vp_in x1 60 ∧ (Q (u.2 (17 + j0) x1.toNatClampNeg)))))))))
def w_Z_asForm (j0 : Nat) (x1 : Int32) (u : Mem) (Q : Int32 → Prop) : Prop := ((¬ (u.1 (14 + 3 * j0)) = 0 → ((¬ (u.1 (14 + 3 * j0)) = 1 → (Q x1)) ∧ ((u.1 (14 + 3 * j0)) = 1 → (Q x1.toInt16.toInt32)))) ∧ ((u.1 (14 + 3 * j0)) = 0 → (Q x1.toInt8.toInt32)))
def w_Z_setItem (j0 : Nat) (x1 : Int32) (x2 : Int32) (u : Mem) (Q : Mem → Prop) : Prop := (w_Z_hasItems j0 x1 1 u (fun r1 => ((r1 = 0 → (Q u)) ∧ (¬ r1 = 0 → ((60 ≤ x1 → (Q u)) ∧ (¬ 60 ≤ x1 → (w_Z_asForm j0 x2 u (fun r3 => (vp_in x1 60 ∧ (Q (sA u (17 + j0) x1.toNatClampNeg r3)))))))))))
def w_Z_takeFrom (j0 : Nat) (j1 : Nat) (x2 : Int32) (x3 : Int32) (x4 : Int32) (u : Mem) (Q : Mem → Prop) : Prop := (w_Z_hasItems j1 x2 x4 u (fun r1 => ((r1 = 0 → (Q u)) ∧ (¬ r1 = 0 → (w_Z_hasItems j0 x3 x4 u (fun r3 => ((r3 = 0 → (Q u)) ∧ (¬ r3 = 0 → ((¬ x2 < 0 ∧ ¬ x3 < 0 ∧ ¬ x4 < 0 ∧ x2.toNatClampNeg + x4.toNatClampNeg ≤ 60 ∧ x3.toNatClampNeg + x4.toNatClampNeg ≤ 60) ∧ (Q (sR u (17 + j0) (va_cpy (u.2 (17 + j1)) (u.2 (17 + j0)) x2.toNatClampNeg x3.toNatClampNeg x4.toNatClampNeg))))))))))))
def w_T_append_0 (x1 : Int32) (u : Mem) (Q : Int32 → Mem → Prop) : Prop := (((u.1 2) < 0 → (Q 0 u)) ∧ (¬ (u.1 2) < 0 → (((u.1 2) < 79 → (vp_in (u.1 2) 79 ∧ (Q 1 (sS (sA u 0 (u.1 2).toNatClampNeg x1) 2 ((u.1 2) + 1))))) ∧ (¬ (u.1 2) < 79 → (Q 0 u)))))
def w_T_append_1 (x1 : Int32) (u : Mem) (Q : Int32 → Mem → Prop) : Prop := (((u.1 3) < 0 → (Q 0 u)) ∧ (¬ (u.1 3) < 0 → (((u.1 3) < 35 → (vp_in (u.1 3) 35 ∧ (Q 1 (sS (sA u 1 (u.1 3).toNatClampNeg x1) 3 ((u.1 3) + 1))))) ∧ (¬ (u.1 3) < 35 → (Q 0 u)))))
def w_T_dropLast_0 (u : Mem) (Q : Int32 → Mem → Prop) : Prop := ((0 < (u.1 2) → (Q 1 (sS u 2 ((u.1 2) - 1)))) ∧ (¬ 0 < (u.1 2) → (Q 0 u)))
def w_T_dropLast_1 (u : Mem) (Q : Int32 → Mem → Prop) : Prop := ((0 < (u.1 3) → (Q 1 (sS u 3 ((u.1 3) - 1)))) ∧ (¬ 0 < (u.1 3) → (Q 0 u)))
def w_T_clear_0 (u : Mem) (Q : Mem → Prop) : Prop := (Q (sS u 2 0))
def w_T_clear_1 (u : Mem) (Q : Mem → Prop) : Prop := (Q (sS u 3 0))
def w_K_firstSet (u : Mem) (Q : Int32 → Prop) : Prop := (Q (u.1 11))
def w_K_setFirst (x1 : Int32) (u : Mem) (Q : Mem → Prop) : Prop := (Q (sS u 11 (x1 &&& 255)))
def w_K_layings (u : Mem) (Q : Int32 → Prop) : Prop := (Q (u.1 12))
def w_K_addLaying_b58 (s0 : Int32) (s1 : Int32) (u : Mem) (Q : Int32 → Mem → Prop) : Prop := (vp_in s1 12 ∧ (Q 1 (sS (sA u 12 s1.toNatClampNeg (vp_nar .boolean s0)) 12 ((u.1 12) + 1))))
def w_K_addLaying (x1 : Int32) (x2 : Int32) (x3 : Int32) (u : Mem) (Q : Int32 → Mem → Prop) : Prop := (((u.1 12) < 0 → (Q 0 u)) ∧ (¬ (u.1 12) < 0 → (((u.1 12) < 12 → (vp_in (u.1 12) 12 ∧ (vp_in (u.1 12) 12 ∧ ((¬ x3 = 1 → (w_K_addLaying_b58 0 (u.1 12) (sA (sA u 10 (u.1 12).toNatClampNeg x1) 11 (u.1 12).toNatClampNeg ((1 : Int32) <<< (x2 &&& 31))) Q)) ∧ (x3 = 1 → (w_K_addLaying_b58 1 (u.1 12) (sA (sA u 10 (u.1 12).toNatClampNeg x1) 11 (u.1 12).toNatClampNeg ((1 : Int32) <<< (x2 &&& 31))) Q)))))) ∧ (¬ (u.1 12) < 12 → (Q 0 u)))))
def w_K_dropLaying (u : Mem) (Q : Int32 → Mem → Prop) : Prop := ((0 < (u.1 12) → (Q 1 (sS u 12 ((u.1 12) - 1)))) ∧ (¬ 0 < (u.1 12) → (Q 0 u)))
def w_K_withLayings_b65 (R : Int32 → Int32 → Prop) (X : Int32 → Prop) (x1 : Int32) (x4 : Int32) (s0 : Int32) (u : Mem) (Q : Int32 → Prop) : Prop := (R s0 (x4 + 1))
def w_K_withLayings_l5 (X : Int32 → Prop) (x1 : Int32) (u : Mem) (Q : Int32 → Prop) : Nat → Int32 → Int32 → Prop
  | 0, _, _ => False
  | n + 1, x3, x4 => (((u.1 12) ≤ x4 → (X x3)) ∧ (¬ (u.1 12) ≤ x4 → ((12 ≤ x4 → (X x3)) ∧ (¬ 12 ≤ x4 → (vp_in x4 12 ∧ ((¬ (u.2 10 x4.toNatClampNeg) = x1 → (w_K_withLayings_l5 X x1 u Q n x3 (x4 + 1))) ∧ ((u.2 10 x4.toNatClampNeg) = x1 → (vp_in x4 12 ∧ (((u.2 12 x4.toNatClampNeg) = 0 → (vp_in x4 12 ∧ (w_K_withLayings_b65 (w_K_withLayings_l5 X x1 u Q n) X x1 x4 (x3 &&& ((u.2 11 x4.toNatClampNeg) ^^^ (-1))) u Q))) ∧ (¬ (u.2 12 x4.toNatClampNeg) = 0 → (vp_in x4 12 ∧ (w_K_withLayings_b65 (w_K_withLayings_l5 X x1 u Q n) X x1 x4 (x3 ||| (u.2 11 x4.toNatClampNeg)) u Q))))))))))))
def w_K_withLayings (x1 : Int32) (x2 : Int32) (u : Mem) (Q : Int32 → Prop) : Prop := (∃ n2, w_K_withLayings_l5 (fun z1 => (Q z1)) x1 u Q n2 x2 0)
def w_K_runTo_b42 (R : Int32 → Int32 → Int32 → Mem → Prop) (X : Mem → Prop) (x2 : Int32) (x3 : Int32) (x4 : Int32) (x5 : Int32) (u : Mem) (Q : Mem → Prop) : Prop := (w_K_withLayings x5 x3 u (fun r1 => (vp_in x5 30 ∧ (vp_in x5 30 ∧ (R r1 x4 (x5 + 1) (sA (sA u 14 x5.toNatClampNeg x4) 13 x5.toNatClampNeg r1))))))
def w_K_runTo_l11 (X : Mem → Prop) (x2 : Int32) (Q : Mem → Prop) : Nat → Int32 → Int32 → Int32 → Mem → Prop
  | 0, _, _, _, _ => False
  | n + 1, x3, x4, x5, u => ((x2 < x5 → (X u)) ∧ (¬ x2 < x5 → ((30 ≤ x5 → (X u)) ∧ (¬ 30 ≤ x5 → ((x5 ≤ 0 → (w_K_runTo_b42 (w_K_runTo_l11 X x2 Q n) X x2 x3 x4 x5 u Q)) ∧ (¬ x5 ≤ 0 → (w_H_comesBy x3 u (fun r3 => (w_H_weekBehind x3 u (fun r5 => (w_K_runTo_b42 (w_K_runTo_l11 X x2 Q n) X x2 r5 r3 x5 u Q)))))))))))
def w_K_runTo (x2 : Int32) (u : Mem) (Q : Mem → Prop) : Prop := (∃ n8, w_K_runTo_l11 (fun u7 => (Q u7)) x2 Q n8 (u.1 11) 0 0 u)
def w_K_smallIn (x1 : Int32) (u : Mem) (Q : Int32 → Prop) : Prop := ((x1 < 0 → (Q 0)) ∧ (¬ x1 < 0 → ((30 ≤ x1 → (Q 0)) ∧ (¬ 30 ≤ x1 → (vp_in x1 30 ∧ (Q (u.2 13 x1.toNatClampNeg)))))))
def w_K_bigIn (x1 : Int32) (u : Mem) (Q : Int32 → Prop) : Prop := ((x1 < 0 → (Q 0)) ∧ (¬ x1 < 0 → ((30 ≤ x1 → (Q 0)) ∧ (¬ 30 ≤ x1 → (vp_in x1 30 ∧ (Q (u.2 14 x1.toNatClampNeg)))))))
def w_X_textOf (x1 : Int32) (Q : Nat → Prop) : Prop := ((¬ x1 = 0 → ((¬ x1 = 1 → (Q 0)) ∧ (x1 = 1 → (Q 2)))) ∧ (x1 = 0 → (Q 1)))
def w_X_isBits (x0 : Int32) (Q : Int32 → Prop) : Prop := ((x0 < 0 → (Q 0)) ∧ (¬ x0 < 0 → ((255 < x0 → (Q 0)) ∧ (¬ 255 < x0 → (Q 1)))))
def w_X_readAgain_b29 (u : Mem) (Q : Mem → Prop) : Prop := (Q (sS u 0 1))
def w_X_readAgain (x1 : Int32) (u : Mem) (Q : Mem → Prop) : Prop := ((¬ x1 = 0 → (w_R_readFrom_1 u (fun u2 => (w_X_readAgain_b29 u2 Q)))) ∧ (x1 = 0 → (w_R_readFrom_0 u (fun u4 => (w_X_readAgain_b29 u4 Q)))))
def w_X_type (x1 : Int32) (x2 : Int32) (u : Mem) (Q : Int32 → Mem → Prop) : Prop := (w_X_textOf x1 (fun r1 => ((r1 = 0 → (Q (-2) u)) ∧ (r1 = 1 → (w_X_isBits x2 (fun r3 => ((¬ r3 = 0 → (w_T_append_0 x2 u (fun r5 u6 => ((¬ r5 = 0 → (w_X_readAgain x1 u6 (fun u8 => (w_T_size_0 u8 (fun r9 => (Q r9 u8)))))) ∧ (r5 = 0 → (Q (-4) u6)))))) ∧ (r3 = 0 → (Q (-2) u)))))) ∧ (r1 = 2 → (w_X_isBits x2 (fun r11 => ((¬ r11 = 0 → (w_T_append_1 x2 u (fun r13 u14 => ((¬ r13 = 0 → (w_X_readAgain x1 u14 (fun u16 => (w_T_size_1 u16 (fun r17 => (Q r17 u16)))))) ∧ (r13 = 0 → (Q (-4) u14)))))) ∧ (r11 = 0 → (Q (-2) u)))))))))
def w_X_wipe (x1 : Int32) (u : Mem) (Q : Int32 → Mem → Prop) : Prop := (w_X_textOf x1 (fun r1 => ((r1 = 0 → (Q (-2) u)) ∧ (r1 = 1 → (w_T_size_0 u (fun r3 => (w_T_clear_0 u (fun u6 => (w_X_readAgain x1 u6 (fun u8 => (Q r3 u8)))))))) ∧ (r1 = 2 → (w_T_size_1 u (fun r9 => (w_T_clear_1 u (fun u12 => (w_X_readAgain x1 u12 (fun u14 => (Q r9 u14)))))))))))
def w_X_undo (x1 : Int32) (u : Mem) (Q : Int32 → Mem → Prop) : Prop := (w_X_textOf x1 (fun r1 => ((r1 = 0 → (Q (-2) u)) ∧ (r1 = 1 → (w_T_dropLast_0 u (fun r3 u4 => ((¬ r3 = 0 → (w_X_readAgain x1 u4 (fun u6 => (w_T_size_0 u6 (fun r7 => (Q r7 u6)))))) ∧ (r3 = 0 → (Q (-3) u4)))))) ∧ (r1 = 2 → (w_T_dropLast_1 u (fun r9 u10 => ((¬ r9 = 0 → (w_X_readAgain x1 u10 (fun u12 => (w_T_size_1 u12 (fun r13 => (Q r13 u12)))))) ∧ (r9 = 0 → (Q (-3) u10)))))))))
def w_X_fault (x1 : Int32) (u : Mem) (Q : Int32 → Prop) : Prop := (w_X_textOf x1 (fun r1 => ((r1 = 0 → (Q (-2))) ∧ (r1 = 1 → ((¬ x1 = 0 → (w_R_faultPlace_1 u (fun r3 => (Q r3)))) ∧ (x1 = 0 → (w_R_faultPlace_0 u (fun r5 => (Q r5)))))) ∧ (r1 = 2 → ((¬ x1 = 0 → (w_R_faultPlace_1 u (fun r7 => (Q r7)))) ∧ (x1 = 0 → (w_R_faultPlace_0 u (fun r9 => (Q r9)))))))))
def w_X_rule (x1 : Int32) (x2 : Int32) (u : Mem) (Q : Int32 → Prop) : Prop := ((x1 < 0 → (Q (-2))) ∧ (¬ x1 < 0 → (w_R_size_0 u (fun r1 => ((r1 ≤ x1 → (Q (-2))) ∧ (¬ r1 ≤ x1 → ((x2 < 0 → (Q (-2))) ∧ (¬ x2 < 0 → ((x2 ≤ 2 → ((¬ x2 = 0 → ((¬ x2 = 1 → (w_L_bigOf x1 u (fun r3 => (Q r3)))) ∧ (x2 = 1 → (w_L_isPlus x1 u (fun r5 => ((r5 = 0 → (Q 0)) ∧ (¬ r5 = 0 → (Q 1)))))))) ∧ (x2 = 0 → (w_L_smallOf x1 u (fun r7 => (Q r7)))))) ∧ (¬ x2 ≤ 2 → (Q (-2))))))))))))
def w_X_isEither_b9 (Q : Int32 → Prop) : Prop := (Q 1)
def w_X_isEither (x0 : Int32) (Q : Int32 → Prop) : Prop := ((x0 = 0 → (w_X_isEither_b9 Q)) ∧ (¬ x0 = 0 → ((¬ x0 = 1 → (Q 0)) ∧ (x0 = 1 → (w_X_isEither_b9 Q)))))
def w_X_dust (x1 : Int32) (x2 : Int32) (u : Mem) (Q : Int32 → Prop) : Prop := ((x1 < 0 → (Q (-2))) ∧ (¬ x1 < 0 → (w_R_size_1 u (fun r1 => ((r1 ≤ x1 → (Q (-2))) ∧ (¬ r1 ≤ x1 → (w_X_isEither x2 (fun r3 => ((¬ r3 = 0 → ((¬ x2 = 0 → (w_D_smallOf x1 u (fun r5 => (Q r5)))) ∧ (x2 = 0 → (w_D_bigOf x1 u (fun r7 => (Q r7)))))) ∧ (r3 = 0 → (Q (-2))))))))))))
def w_X_first (x1 : Int32) (u : Mem) (Q : Int32 → Mem → Prop) : Prop := (w_X_isBits x1 (fun r1 => ((¬ r1 = 0 → (w_K_firstSet u (fun r3 => (w_K_setFirst x1 u (fun u6 => (Q r3 u6)))))) ∧ (r1 = 0 → (Q (-2) u)))))
def w_X_freshHouse_b27 (u : Mem) (Q : Mem → Prop) : Prop := (Q u)
def w_X_freshHouse (u : Mem) (Q : Mem → Prop) : Prop := (((u.1 0) = 0 → (w_X_freshHouse_b27 u Q)) ∧ (¬ (u.1 0) = 0 → (w_H_fill u (fun u2 => (w_X_freshHouse_b27 (sS u2 0 0) Q)))))
def w_X_comes (x1 : Int32) (u : Mem) (Q : Int32 → Mem → Prop) : Prop := (w_X_isBits x1 (fun r1 => ((r1 = 0 → (Q (-2) u)) ∧ (¬ r1 = 0 → (w_X_freshHouse u (fun u4 => (w_H_comesBy x1 u4 (fun r5 => (Q r5 u4)))))))))
def w_X_lays (x1 : Int32) (u : Mem) (Q : Int32 → Prop) : Prop := (w_X_isBits x1 (fun r1 => ((r1 = 0 → (Q (-2))) ∧ (¬ r1 = 0 → (w_D_laidBy x1 u (fun r3 => (Q r3)))))))
def w_X_isWeek (x0 : Int32) (Q : Int32 → Prop) : Prop := ((x0 < 0 → (Q 0)) ∧ (¬ x0 < 0 → ((30 ≤ x0 → (Q 0)) ∧ (¬ 30 ≤ x0 → (Q 1)))))
def w_X_isThing (x0 : Int32) (Q : Int32 → Prop) : Prop := ((x0 < 0 → (Q 0)) ∧ (¬ x0 < 0 → ((8 ≤ x0 → (Q 0)) ∧ (¬ 8 ≤ x0 → (Q 1)))))
def w_X_lay (x1 : Int32) (x2 : Int32) (x3 : Int32) (u : Mem) (Q : Int32 → Mem → Prop) : Prop := (w_X_isWeek x1 (fun r1 => ((r1 = 0 → (Q (-2) u)) ∧ (¬ r1 = 0 → (w_X_isThing x2 (fun r3 => ((r3 = 0 → (Q (-2) u)) ∧ (¬ r3 = 0 → (w_X_isEither x3 (fun r5 => ((¬ r5 = 0 → (w_K_addLaying x1 x2 x3 u (fun r7 u8 => ((¬ r7 = 0 → (w_K_layings u8 (fun r9 => (Q r9 u8)))) ∧ (r7 = 0 → (Q (-4) u8)))))) ∧ (r5 = 0 → (Q (-2) u)))))))))))))
def w_X_back (u : Mem) (Q : Int32 → Mem → Prop) : Prop := (w_K_dropLaying u (fun r1 u2 => ((¬ r1 = 0 → (w_K_layings u2 (fun r3 => (Q r3 u2)))) ∧ (r1 = 0 → (Q (-3) u2)))))
def w_X_week (x1 : Int32) (x2 : Int32) (u : Mem) (Q : Int32 → Mem → Prop) : Prop := (w_X_isWeek x1 (fun r1 => ((r1 = 0 → (Q (-2) u)) ∧ (¬ r1 = 0 → (w_X_isEither x2 (fun r3 => ((¬ r3 = 0 → (w_X_freshHouse u (fun u6 => (w_K_runTo x1 u6 (fun u8 => ((¬ x2 = 0 → (w_K_bigIn x1 u8 (fun r9 => (Q r9 u8)))) ∧ (x2 = 0 → (w_K_smallIn x1 u8 (fun r11 => (Q r11 u8)))))))))) ∧ (r3 = 0 → (Q (-2) u)))))))))
def w_X_judged_l17 (X : Prop) (u : Mem) (Q : Int32 → Mem → Prop) : Nat → Int32 → Prop
  | 0, _ => False
  | n + 1, x2 => ((30 ≤ x2 → (X)) ∧ (¬ 30 ≤ x2 → (w_K_smallIn x2 u (fun r5 => (w_H_disagreeBy r5 u (fun r7 => ((r7 = 0 → (w_X_judged_l17 X u Q n (x2 + 1))) ∧ (¬ r7 = 0 → (Q x2 u)))))))))
def w_X_judged (u : Mem) (Q : Int32 → Mem → Prop) : Prop := (w_X_freshHouse u (fun u2 => (w_K_runTo 29 u2 (fun u4 => (∃ n9, w_X_judged_l17 ((Q (-1) u4)) u4 Q n9 0)))))
def w_X_two_l2 (X : Prop) (u : Mem) (Q : Int32 → Prop) : Nat → Int32 → Prop
  | 0, _ => False
  | n + 1, x1 => ((8 ≤ x1 → (X)) ∧ (¬ 8 ≤ x1 → (w_L_standsFor x1 u (fun r1 => (w_I_bitCount r1 (fun r3 => ((r3 < 2 → (w_X_two_l2 X u Q n (x1 + 1))) ∧ (¬ r3 < 2 → (Q x1)))))))))
def w_X_two (u : Mem) (Q : Int32 → Prop) : Prop := (∃ n5, w_X_two_l2 ((Q (-1))) u Q n5 0)
def w_X_second (x1 : Int32) (u : Mem) (Q : Int32 → Mem → Prop) : Prop := (w_X_isBits x1 (fun r1 => ((¬ r1 = 0 → (w_X_freshHouse u (fun u4 => (w_H_comesBy x1 u4 (fun r5 => (w_H_comesBy r5 u4 (fun r7 => (Q r7 u4)))))))) ∧ (r1 = 0 → (Q (-2) u)))))
def w_X_isSpan (x0 : Int32) (Q : Int32 → Prop) : Prop := ((x0 < 1 → (Q 0)) ∧ (¬ x0 < 1 → ((9 < x0 → (Q 0)) ∧ (¬ 9 < x0 → (Q 1)))))
def w_X_numberOrBits_b10 (x0 : Int32) (Q : Int32 → Prop) : Prop := (Q x0)
def w_X_numberOrBits (x0 : Int32) (x1 : Int32) (Q : Int32 → Prop) : Prop := ((x0 = (-1) → (w_X_numberOrBits_b10 x0 Q)) ∧ (¬ x0 = (-1) → ((¬ x1 = 1 → (w_I_bitCount x0 (fun r1 => (Q r1)))) ∧ (x1 = 1 → (w_X_numberOrBits_b10 x0 Q)))))
def w_X_touch (x1 : Int32) (x2 : Int32) (x3 : Int32) (x4 : Int32) (u : Mem) (Q : Int32 → Mem → Prop) : Prop := (w_X_isSpan x1 (fun r1 => ((r1 = 0 → (Q (-2) u)) ∧ (¬ r1 = 0 → (w_X_isBits x2 (fun r3 => ((r3 = 0 → (Q (-2) u)) ∧ (¬ r3 = 0 → (w_X_isBits x3 (fun r5 => ((r5 = 0 → (Q (-2) u)) ∧ (¬ r5 = 0 → (w_X_isEither x4 (fun r7 => ((r7 = 0 → (Q (-2) u)) ∧ (¬ r7 = 0 → (((x2 &&& x3) = 0 → (w_X_freshHouse u (fun u10 => (w_K_firstSet u10 (fun r11 => (w_P_fewestTouched r11 x1 x2 x3 u10 (fun r13 => (w_X_numberOrBits r13 x4 (fun r15 => (Q r15 u10)))))))))) ∧ (¬ (x2 &&& x3) = 0 → (Q (-2) u)))))))))))))))))))
def w_X_keepOff (x1 : Int32) (x2 : Int32) (x3 : Int32) (u : Mem) (Q : Int32 → Mem → Prop) : Prop := (w_X_isSpan x1 (fun r1 => ((r1 = 0 → (Q (-2) u)) ∧ (¬ r1 = 0 → (w_X_isThing x2 (fun r3 => ((r3 = 0 → (Q (-2) u)) ∧ (¬ r3 = 0 → (w_X_isEither x3 (fun r5 => ((¬ r5 = 0 → (w_X_freshHouse u (fun u8 => (w_K_firstSet u8 (fun r9 => (w_P_fewestSwept r9 x1 ((1 : Int32) <<< (x2 &&& 31)) u8 (fun r11 => (w_X_numberOrBits r11 x3 (fun r13 => (Q r13 u8)))))))))) ∧ (r5 = 0 → (Q (-2) u)))))))))))))
def w_X_bars_l20 (X : Int32 → Prop) (x1 : Int32) (u : Mem) (Q : Int32 → Mem → Prop) : Nat → Int32 → Int32 → Prop
  | 0, _, _ => False
  | n + 1, x3, x4 => ((256 ≤ x4 → (X x3)) ∧ (¬ 256 ≤ x4 → (w_H_disagreeBy x4 u (fun r5 => (w_X_bars_l20 X x1 u Q n (x3 + ((r5 >>> (x1 &&& 31)) &&& 1)) (x4 + 1))))))
def w_X_bars (x1 : Int32) (u : Mem) (Q : Int32 → Mem → Prop) : Prop := (w_X_isThing x1 (fun r1 => ((¬ r1 = 0 → (w_X_freshHouse u (fun u4 => (∃ n8, w_X_bars_l20 (fun z7 => (Q z7 u4)) x1 u4 Q n8 0 0)))) ∧ (r1 = 0 → (Q (-2) u)))))
def w_X_play (x1 : Int32) (x2 : Int32) (x3 : Int32) (u : Mem) (Q : Int32 → Mem → Prop) : Prop := ((x1 < 0 → (Q (-2) u)) ∧ (¬ x1 < 0 → ((4 < x1 → (Q (-2) u)) ∧ (¬ 4 < x1 → (w_X_isThing x2 (fun r1 => ((r1 = 0 → (Q (-2) u)) ∧ (¬ r1 = 0 → (w_X_isEither x3 (fun r3 => ((¬ r3 = 0 → (w_X_freshHouse u (fun u6 => ((¬ x3 = 0 → (w_K_firstSet u6 (fun r7 => (w_P_firstTouch r7 ((1 : Int32) <<< (x2 &&& 31)) x1 u6 (fun r9 => (Q r9 u6)))))) ∧ (x3 = 0 → (w_K_firstSet u6 (fun r11 => (w_P_endsInComing r11 ((1 : Int32) <<< (x2 &&& 31)) x1 u6 (fun r13 => ((r13 = 0 → (Q 0 u6)) ∧ (¬ r13 = 0 → (Q 1 u6)))))))))))) ∧ (r3 = 0 → (Q (-2) u)))))))))))))
def w_X_steady_l25 (X : Int32 → Prop) (x1 : Int32) (u : Mem) (Q : Int32 → Mem → Prop) : Nat → Int32 → Int32 → Prop
  | 0, _, _ => False
  | n + 1, x3, x4 => ((256 ≤ x4 → (X x3)) ∧ (¬ 256 ≤ x4 → (w_H_weekBehind x4 u (fun r3 => ((¬ r3 = x4 → (w_X_steady_l25 X x1 u Q n x3 (x4 + 1))) ∧ (r3 = x4 → ((¬ x3 = x1 → (w_X_steady_l25 X x1 u Q n (x3 + 1) (x4 + 1))) ∧ (x3 = x1 → (Q x4 u)))))))))
def w_X_steady (x1 : Int32) (u : Mem) (Q : Int32 → Mem → Prop) : Prop := ((x1 < (-1) → (Q (-2) u)) ∧ (¬ x1 < (-1) → ((x1 ≤ 255 → (w_X_freshHouse u (fun u2 => (∃ n6, w_X_steady_l25 (fun z5 => ((¬ x1 = (-1) → (Q (-1) u2)) ∧ (x1 = (-1) → (Q z5 u2)))) x1 u2 Q n6 0 0)))) ∧ (¬ x1 ≤ 255 → (Q (-2) u)))))
def w_X_round (x1 : Int32) (x2 : Int32) (u : Mem) (Q : Int32 → Mem → Prop) : Prop := (w_X_isBits x1 (fun r1 => ((r1 = 0 → (Q (-2) u)) ∧ (¬ r1 = 0 → (w_X_isEither x2 (fun r3 => ((¬ r3 = 0 → (w_X_freshHouse u (fun u6 => ((¬ x2 = 0 → (w_P_roundLength x1 u6 (fun r7 => (Q r7 u6)))) ∧ (x2 = 0 → (w_P_weeksToRepeat x1 u6 (fun r9 => (Q r9 u6)))))))) ∧ (r3 = 0 → (Q (-2) u)))))))))
def w_X_seen (x1 : Int32) (x2 : Int32) (u : Mem) (Q : Int32 → Mem → Prop) : Prop := (w_X_isBits x1 (fun r1 => ((r1 = 0 → (Q (-2) u)) ∧ (¬ r1 = 0 → (w_X_isBits x2 (fun r3 => ((¬ r3 = 0 → (w_S_addSight x1 x2 u (fun r5 u6 => ((¬ r5 = 0 → (w_S_size u6 (fun r7 => (Q r7 u6)))) ∧ (r5 = 0 → (Q (-4) u6)))))) ∧ (r3 = 0 → (Q (-2) u)))))))))
def w_X_forget (u : Mem) (Q : Int32 → Mem → Prop) : Prop := (w_S_size u (fun r1 => (w_S_clear u (fun u4 => (Q r1 u4)))))
def w_X_isSheet (x0 : Int32) (Q : Int32 → Prop) : Prop := ((x0 < 0 → (Q 0)) ∧ (¬ x0 < 0 → ((4 ≤ x0 → (Q 0)) ∧ (¬ 4 ≤ x0 → (Q 1)))))
def w_X_finding (x1 : Int32) (u : Mem) (Q : Int32 → Mem → Prop) : Prop := (Q ((-10) - x1) (sS u 1 x1))
def w_X_read_l40 (X : Int32 → Mem → Prop) (j2 : Nat) (Q : Int32 → Mem → Prop) : Nat → Int32 → Int32 → Mem → Prop
  | 0, _, _, _ => False
  | n + 1, x3, x4, u => (w_Z_size j2 u (fun r7 => ((r7 ≤ (x4 + 1) → (X x3 u)) ∧ (¬ r7 ≤ (x4 + 1) → (w_Z_item j2 x4 u (fun r9 => (w_Z_item j2 (x4 + 1) u (fun r11 => (w_X_isBits r9 (fun r13 => ((r13 = 0 → (Q x3 u)) ∧ (¬ r13 = 0 → (w_X_isBits r11 (fun r15 => ((r15 = 0 → (Q x3 u)) ∧ (¬ r15 = 0 → (w_S_addSight r9 r11 u (fun r17 u18 => ((¬ r17 = 0 → (w_X_read_l40 X j2 Q n (x3 + 1) (x4 + 2) u18)) ∧ (r17 = 0 → (Q x3 u18)))))))))))))))))))))
def w_X_read (x1 : Int32) (u : Mem) (Q : Int32 → Mem → Prop) : Prop := (w_X_isSheet x1 (fun r1 => ((¬ r1 = 0 → (vp_in x1 4 ∧ (w_Z_isLost x1.toNatClampNeg u (fun r4 => ((r4 = 0 → (vp_in x1 4 ∧ (∃ n21, w_X_read_l40 (fun z19 u20 => (Q z19 u20)) x1.toNatClampNeg Q n21 0 0 u))) ∧ (¬ r4 = 0 → (w_X_finding 1 u (fun r22 u23 => (Q r22 u23))))))))) ∧ (r1 = 0 → (Q (-2) u)))))
def w_X_stands (x1 : Int32) (x2 : Int32) (u : Mem) (Q : Int32 → Prop) : Prop := (w_X_isThing x1 (fun r1 => ((r1 = 0 → (Q (-2))) ∧ (¬ r1 = 0 → (w_X_isEither x2 (fun r3 => ((¬ r3 = 0 → ((¬ x2 = 0 → (w_S_fewestStand x1 u (fun r5 => (Q r5)))) ∧ (x2 = 0 → (w_S_howManyStand x1 u (fun r7 => (Q r7)))))) ∧ (r3 = 0 → (Q (-2))))))))))
def w_X_watch (x1 : Int32) (u : Mem) (Q : Int32 → Prop) : Prop := (w_X_isThing x1 (fun r1 => ((r1 = 0 → (Q (-2))) ∧ (¬ r1 = 0 → (w_S_nearestHalf x1 u (fun r3 => (Q r3)))))))
def w_X_moved_l20 (X : Int32 → Prop) (x1 : Int32) (u : Mem) (Q : Int32 → Mem → Prop) : Nat → Int32 → Int32 → Prop
  | 0, _, _ => False
  | n + 1, x3, x4 => ((8 ≤ x4 → (X x3)) ∧ (¬ 8 ≤ x4 → (w_K_firstSet u (fun r5 => (w_H_comesBy (r5 ^^^ ((1 : Int32) <<< (x4 &&& 31))) u (fun r7 => ((¬ r7 = x1 → (w_X_moved_l20 X x1 u Q n x3 (x4 + 1))) ∧ (r7 = x1 → (w_X_moved_l20 X x1 u Q n (x3 ||| ((1 : Int32) <<< (x4 &&& 31))) (x4 + 1))))))))))
def w_X_moved (x1 : Int32) (u : Mem) (Q : Int32 → Mem → Prop) : Prop := (w_X_isBits x1 (fun r1 => ((¬ r1 = 0 → (w_X_freshHouse u (fun u4 => (∃ n10, w_X_moved_l20 (fun z9 => (Q z9 u4)) x1 u4 Q n10 0 0)))) ∧ (r1 = 0 → (Q (-2) u)))))
def w_X_isChance (x0 : Int32) (Q : Int32 → Prop) : Prop := ((x0 < 0 → (Q 0)) ∧ (¬ x0 < 0 → ((16 < x0 → (Q 0)) ∧ (¬ 16 < x0 → (Q 1)))))
def w_X_cat_b21 (u : Mem) (Q : Int64 → Mem → Prop) : Prop := (Q (-9223372036854775806) u)
def w_X_cat_b61 (x4 : Int32) (x5 : Int32) (s0 : Int32) (u : Mem) (Q : Int64 → Mem → Prop) : Prop := (w_C_lowest s0 x5 x4 (fun r13 => (Q r13.toInt64 u)))
def w_X_cat (x1 : Int32) (x2 : Int32) (x3 : Int32) (u : Mem) (Q : Int64 → Mem → Prop) : Prop := (w_X_isChance x1 (fun r1 => ((r1 = 0 → (w_X_cat_b21 u Q)) ∧ (¬ r1 = 0 → (w_X_isThing x2 (fun r3 => ((r3 = 0 → (w_X_cat_b21 u Q)) ∧ (¬ r3 = 0 → (w_X_isEither x3 (fun r5 => ((¬ r5 = 0 → (w_X_freshHouse u (fun u8 => (w_K_firstSet u8 (fun r9 => (w_C_withCat r9 ((1 : Int32) <<< (x2 &&& 31)) x1 u8 (fun r11 => ((¬ x3 = 0 → (w_X_cat_b61 128 r11 128 u8 Q)) ∧ (x3 = 0 → (w_X_cat_b61 128 r11 r11 u8 Q)))))))))) ∧ (r5 = 0 → (w_X_cat_b21 u Q)))))))))))))
def w_X_let (x1 : Int32) (x2 : Int32) (u : Mem) (Q : Int32 → Mem → Prop) : Prop := (w_X_isChance x1 (fun r1 => ((r1 = 0 → (Q (-2) u)) ∧ (¬ r1 = 0 → (w_X_isThing x2 (fun r3 => ((¬ r3 = 0 → (w_X_freshHouse u (fun u6 => (w_K_firstSet u6 (fun r7 => (w_C_withCat r7 ((1 : Int32) <<< (x2 &&& 31)) x1 u6 (fun r9 => (w_K_firstSet u6 (fun r11 => (w_C_withCat r11 ((1 : Int32) <<< (x2 &&& 31)) 0 u6 (fun r13 => ((r13 ≤ r9 → (Q 0 u6)) ∧ (¬ r13 ≤ r9 → (Q 1 u6)))))))))))))) ∧ (r3 = 0 → (Q (-2) u)))))))))
def w_X_lot_b102 (R : Int32 → Int32 → Int32 → Int32 → Prop) (X : Int32 → Int32 → Prop) (x2 : Int32) (x3 : Int32) (x5 : Int32) (x6 : Int32) (x7 : Int32) (x8 : Int32) (u : Mem) (Q : Int32 → Mem → Prop) : Prop := (w_H_weekBehind x5 u (fun r6 => (R r6 x6 x7 (x8 + 1))))
def w_X_lot_l49 (X : Int32 → Int32 → Prop) (x2 : Int32) (x3 : Int32) (u : Mem) (Q : Int32 → Mem → Prop) : Nat → Int32 → Int32 → Int32 → Int32 → Prop
  | 0, _, _, _, _ => False
  | n + 1, x5, x6, x7, x8 => ((x2 ≤ x8 → (X x5 x7)) ∧ (¬ x2 ≤ x8 → (∀ y5, y5 = (((1103515245 * x6) + 12345).toUInt32 >>> ((16 : Int32).toUInt32 &&& Int32.toUInt32 31)).toInt32 → ((x3 = (-1) → (w_X_lot_b102 (w_X_lot_l49 X x2 x3 u Q n) X x2 x3 (x5 ^^^ ((1 : Int32) <<< ((y5 - y5 / 8 * 8) &&& 31))) ((1103515245 * x6) + 12345) x7 x8 u Q)) ∧ (¬ x3 = (-1) → (w_H_comesBy (x5 ^^^ ((1 : Int32) <<< ((y5 - y5 / 8 * 8) &&& 31))) u (fun r8 => (w_X_lot_b102 (w_X_lot_l49 X x2 x3 u Q n) X x2 x3 (x5 ^^^ ((1 : Int32) <<< ((y5 - y5 / 8 * 8) &&& 31))) ((1103515245 * x6) + 12345) (x7 + ((r8 >>> (x3 &&& 31)) &&& 1)) x8 u Q))))))))
def w_X_lot_b25 (x1 : Int32) (x2 : Int32) (x3 : Int32) (u : Mem) (Q : Int32 → Mem → Prop) : Prop := (w_X_freshHouse u (fun u2 => (w_K_firstSet u2 (fun r3 => (∃ n12, w_X_lot_l49 (fun z10 z11 => ((¬ x3 = (-1) → (Q z11 u2)) ∧ (x3 = (-1) → (Q z10 u2)))) x2 x3 u2 Q n12 r3 x1 0 0)))))
def w_X_lot (x1 : Int32) (x2 : Int32) (x3 : Int32) (u : Mem) (Q : Int32 → Mem → Prop) : Prop := ((x2 < 0 → (Q (-2) u)) ∧ (¬ x2 < 0 → ((99 < x2 → (Q (-2) u)) ∧ (¬ 99 < x2 → ((x3 = (-1) → (w_X_lot_b25 x1 x2 x3 u Q)) ∧ (¬ x3 = (-1) → (w_X_isThing x3 (fun r13 => ((¬ r13 = 0 → (w_X_lot_b25 x1 x2 x3 u Q)) ∧ (r13 = 0 → (Q (-2) u)))))))))))
def w_X_isForm (x0 : Int32) (Q : Int32 → Prop) : Prop := ((x0 < 0 → (Q 0)) ∧ (¬ x0 < 0 → ((3 ≤ x0 → (Q 0)) ∧ (¬ 3 ≤ x0 → (Q 1)))))
def w_X_sheet (x1 : Int32) (x2 : Int32) (x3 : Int32) (u : Mem) (Q : Int32 → Mem → Prop) : Prop := (w_X_isSheet x1 (fun r1 => ((r1 = 0 → (Q (-2) u)) ∧ (¬ r1 = 0 → (w_X_isForm x2 (fun r3 => ((r3 = 0 → (Q (-2) u)) ∧ (¬ r3 = 0 → ((x3 ≤ 60 → ((0 ≤ x3 → (vp_in x1 4 ∧ (w_Z_begin x1.toNatClampNeg x2 x3 u (fun u7 => (Q x3 u7))))) ∧ (¬ 0 ≤ x3 → (w_X_finding 5 u (fun r8 u9 => (Q r8 u9)))))) ∧ (¬ x3 ≤ 60 → (Q (-2) u)))))))))))
def w_X_lose (x1 : Int32) (u : Mem) (Q : Int32 → Mem → Prop) : Prop := (w_X_isSheet x1 (fun r1 => ((¬ r1 = 0 → (vp_in x1 4 ∧ (w_Z_isLost x1.toNatClampNeg u (fun r4 => ((r4 = 0 → (vp_in x1 4 ∧ (w_Z_size x1.toNatClampNeg u (fun r7 => (vp_in x1 4 ∧ (w_Z_end x1.toNatClampNeg u (fun u11 => (Q r7 u11)))))))) ∧ (¬ r4 = 0 → (w_X_finding 1 u (fun r12 u13 => (Q r12 u13))))))))) ∧ (r1 = 0 → (Q (-2) u)))))
def w_X_itemRefusal (x1 : Int32) (x2 : Int32) (x3 : Int32) (u : Mem) (Q : Int32 → Mem → Prop) : Prop := (w_X_isSheet x1 (fun r1 => ((r1 = 0 → (Q (-2) u)) ∧ (¬ r1 = 0 → (w_X_isForm x2 (fun r3 => ((¬ r3 = 0 → (vp_in x1 4 ∧ (w_Z_isLost x1.toNatClampNeg u (fun r6 => ((r6 = 0 → (vp_in x1 4 ∧ (w_Z_formOf x1.toNatClampNeg u (fun r9 => ((r9 = x2 → (vp_in x1 4 ∧ (w_Z_hasItems x1.toNatClampNeg x3 1 u (fun r12 => ((r12 = 0 → (w_X_finding 2 u (fun r14 u15 => (Q r14 u15)))) ∧ (¬ r12 = 0 → (Q 0 u))))))) ∧ (¬ r9 = x2 → (w_X_finding 3 u (fun r16 u17 => (Q r16 u17))))))))) ∧ (¬ r6 = 0 → (w_X_finding 1 u (fun r18 u19 => (Q r18 u19))))))))) ∧ (r3 = 0 → (Q (-2) u)))))))))
def w_X_put (x1 : Int32) (x2 : Int32) (x3 : Int32) (x4 : Int32) (u : Mem) (Q : Int32 → Mem → Prop) : Prop := (w_X_itemRefusal x1 x2 x3 u (fun r1 u2 => ((r1 = 0 → (vp_in x1 4 ∧ (w_Z_setItem x1.toNatClampNeg x3 x4 u2 (fun u5 => (Q 1 u5))))) ∧ (¬ r1 = 0 → (Q r1 u2)))))
def w_X_get (x1 : Int32) (x2 : Int32) (x3 : Int32) (u : Mem) (Q : Int32 → Mem → Prop) : Prop := (w_X_itemRefusal x1 x2 x3 u (fun r1 u2 => ((r1 = 0 → (vp_in x1 4 ∧ (w_Z_item x1.toNatClampNeg x3 u2 (fun r4 => (Q r4 u2))))) ∧ (¬ r1 = 0 → (Q (-2147483648) u2)))))
def w_X_copy_b49 (u : Mem) (Q : Int32 → Mem → Prop) : Prop := (w_X_finding 1 u (fun r9 u10 => (Q r9 u10)))
def w_X_copy_b97 (u : Mem) (Q : Int32 → Mem → Prop) : Prop := (w_X_finding 2 u (fun r19 u20 => (Q r19 u20)))
def w_X_copy (x1 : Int32) (x2 : Int32) (x3 : Int32) (x4 : Int32) (x5 : Int32) (u : Mem) (Q : Int32 → Mem → Prop) : Prop := (w_X_isSheet x1 (fun r1 => ((r1 = 0 → (Q (-2) u)) ∧ (¬ r1 = 0 → (w_X_isSheet x3 (fun r3 => ((¬ r3 = 0 → (vp_in x1 4 ∧ (vp_in x3 4 ∧ (w_Z_isLost x1.toNatClampNeg u (fun r7 => ((¬ r7 = 0 → (w_X_copy_b49 u Q)) ∧ (r7 = 0 → (w_Z_isLost x3.toNatClampNeg u (fun r11 => ((r11 = 0 → (w_Z_formOf x1.toNatClampNeg u (fun r13 => (w_Z_formOf x3.toNatClampNeg u (fun r15 => ((r13 = r15 → (w_Z_hasItems x1.toNatClampNeg x2 x5 u (fun r17 => ((r17 = 0 → (w_X_copy_b97 u Q)) ∧ (¬ r17 = 0 → (w_Z_hasItems x3.toNatClampNeg x4 x5 u (fun r21 => ((¬ r21 = 0 → (w_Z_takeFrom x3.toNatClampNeg x1.toNatClampNeg x2 x4 x5 u (fun u24 => (Q 1 u24)))) ∧ (r21 = 0 → (w_X_copy_b97 u Q)))))))))) ∧ (¬ r13 = r15 → (w_X_finding 4 u (fun r25 u26 => (Q r25 u26)))))))))) ∧ (¬ r11 = 0 → (w_X_copy_b49 u Q)))))))))))) ∧ (r3 = 0 → (Q (-2) u)))))))))
def w_X_write_b106 (R : Int32 → Mem → Prop) (X : Mem → Prop) (x1 : Int32) (x2 : Int32) (x3 : Int32) (x4 : Int32) (s0 : Int32) (s1 : Int32) (sj2 : Nat) (u : Mem) (Q : Int32 → Mem → Prop) : Prop := (w_Z_setItem sj2 s1 s0 u (fun u19 => (R (x4 + 1) u19)))
def w_X_write_l67 (X : Mem → Prop) (x1 : Int32) (x2 : Int32) (x3 : Int32) (Q : Int32 → Mem → Prop) : Nat → Int32 → Mem → Prop
  | 0, _, _ => False
  | n + 1, x4, u => ((x3 ≤ x4 → (X u)) ∧ (¬ x3 ≤ x4 → (vp_in x2 4 ∧ ((¬ x1 = 0 → (w_K_bigIn x4 u (fun r16 => (w_X_write_b106 (w_X_write_l67 X x1 x2 x3 Q n) X x1 x2 x3 x4 r16 x4 x2.toNatClampNeg u Q)))) ∧ (x1 = 0 → (w_K_smallIn x4 u (fun r20 => (w_X_write_b106 (w_X_write_l67 X x1 x2 x3 Q n) X x1 x2 x3 x4 r20 x4 x2.toNatClampNeg u Q))))))))
def w_X_write (x1 : Int32) (x2 : Int32) (u : Mem) (Q : Int32 → Mem → Prop) : Prop := (w_X_isEither x1 (fun r1 => ((r1 = 0 → (Q (-2) u)) ∧ (¬ r1 = 0 → (w_X_isSheet x2 (fun r3 => ((¬ r3 = 0 → (vp_in x2 4 ∧ (w_Z_isLost x2.toNatClampNeg u (fun r6 => ((r6 = 0 → (vp_in x2 4 ∧ (w_Z_size x2.toNatClampNeg u (fun r9 => (w_X_freshHouse u (fun u12 => (w_K_runTo ((if 30 < r9 then 30 else r9) - 1) u12 (fun u14 => (∃ n23, w_X_write_l67 (fun u22 => (Q (if 30 < r9 then 30 else r9) u22)) x1 x2 (if 30 < r9 then 30 else r9) Q n23 0 u14))))))))) ∧ (¬ r6 = 0 → (w_X_finding 1 u (fun r24 u25 => (Q r24 u25))))))))) ∧ (r3 = 0 → (Q (-2) u)))))))))
def w_X_count (x1 : Int32) (u : Mem) (Q : Int32 → Prop) : Prop := ((x1 = 0 → (w_R_size_0 u (fun r1 => (Q r1)))) ∧ (x1 = 1 → (w_R_size_1 u (fun r3 => (Q r3)))) ∧ (x1 = 2 → (w_T_size_0 u (fun r5 => (Q r5)))) ∧ (x1 = 3 → (w_T_size_1 u (fun r7 => (Q r7)))) ∧ (x1 = 4 → (w_K_layings u (fun r9 => (Q r9)))) ∧ (x1 = 5 → (w_S_size u (fun r11 => (Q r11)))) ∧ (x1 = 6 → (w_L_plusCount u (fun r13 => (Q r13)))) ∧ (x1 = 7 → (w_K_firstSet u (fun r15 => (Q r15)))) ∧ (x1 = 8 → (Q (u.1 1))) ∧ ((x1.toInt < 0 ∨ 8 < x1.toInt) → (Q (-2))))
def w_X_mix (x0 : Int64) (x2 : Int64) (Q : Int64 → Prop) : Prop := (Q ((31 * x0) + x2))
def w_X_digestTexts_l5 (X : Int64 → Prop) (u : Mem) (Q : Int64 → Prop) : Nat → Int64 → Int32 → Prop
  | 0, _, _ => False
  | n + 1, x3, x5 => ((8 ≤ x5 → (X x3)) ∧ (¬ 8 ≤ x5 → (w_X_count x5 u (fun r1 => (w_X_mix x3 r1.toInt64 (fun r3 => (w_X_digestTexts_l5 X u Q n r3 (x5 + 1))))))))
def w_X_digestTexts_l55 (X : Int64 → Prop) (u : Mem) (Q : Int64 → Prop) : Nat → Int64 → Int32 → Prop
  | 0, _, _ => False
  | n + 1, x3, x5 => (w_R_size_0 u (fun r14 => ((r14 ≤ x5 → (X x3)) ∧ (¬ r14 ≤ x5 → (w_X_rule x5 0 u (fun r16 => (w_X_mix x3 r16.toInt64 (fun r18 => (w_X_rule x5 1 u (fun r20 => (w_X_mix r18 r20.toInt64 (fun r22 => (w_X_rule x5 2 u (fun r24 => (w_X_mix r22 r24.toInt64 (fun r26 => (w_X_digestTexts_l55 X u Q n r26 (x5 + 1))))))))))))))))))
def w_X_digestTexts_l115 (X : Int64 → Prop) (u : Mem) (Q : Int64 → Prop) : Nat → Int64 → Int32 → Prop
  | 0, _, _ => False
  | n + 1, x3, x5 => (w_R_size_1 u (fun r29 => ((r29 ≤ x5 → (X x3)) ∧ (¬ r29 ≤ x5 → (w_X_dust x5 0 u (fun r31 => (w_X_mix x3 r31.toInt64 (fun r33 => (w_X_dust x5 1 u (fun r35 => (w_X_mix r33 r35.toInt64 (fun r37 => (w_X_digestTexts_l115 X u Q n r37 (x5 + 1))))))))))))))
def w_X_digestTexts (x1 : Int64) (u : Mem) (Q : Int64 → Prop) : Prop := (∃ n42, w_X_digestTexts_l5 (fun z5 => (w_X_fault 0 u (fun r6 => (w_X_mix z5 r6.toInt64 (fun r8 => (w_X_fault 1 u (fun r10 => (w_X_mix r8 r10.toInt64 (fun r12 => (∃ n41, w_X_digestTexts_l55 (fun z28 => (∃ n40, w_X_digestTexts_l115 (fun z39 => (Q z39)) u Q n40 z28 0)) u Q n41 r12 0)))))))))) u Q n42 x1 0)
def w_X_digestBig (x1 : Int64) (x3 : Int32) (u : Mem) (Q : Int64 → Mem → Prop) : Prop := (w_X_keepOff 3 x3 0 u (fun r1 u2 => (w_X_mix x1 r1.toInt64 (fun r3 => (w_X_keepOff 3 x3 1 u2 (fun r5 u6 => (w_X_mix r3 r5.toInt64 (fun r7 => (w_X_bars x3 u6 (fun r9 u10 => (w_X_mix r7 r9.toInt64 (fun r11 => (w_X_play 2 x3 0 u10 (fun r13 u14 => (w_X_mix r11 r13.toInt64 (fun r15 => (w_X_play 2 x3 1 u14 (fun r17 u18 => (w_X_mix r15 r17.toInt64 (fun r19 => (w_X_stands x3 0 u18 (fun r21 => (w_X_mix r19 r21.toInt64 (fun r23 => (w_X_stands x3 1 u18 (fun r25 => (w_X_mix r23 r25.toInt64 (fun r27 => (w_X_watch x3 u18 (fun r29 => (w_X_mix r27 r29.toInt64 (fun r31 => (w_X_cat 4 x3 0 u18 (fun r33 u34 => (w_X_mix r31 r33 (fun r35 => (w_X_cat 4 x3 1 u34 (fun r37 u38 => (w_X_mix r35 r37 (fun r39 => (w_X_let 4 x3 u38 (fun r41 u42 => (w_X_mix r39 r41.toInt64 (fun r43 => (Q r43 u42)))))))))))))))))))))))))))))))))))))))))))))
def w_X_digest_b26 (R : Int64 → Int32 → Mem → Prop) (X : Int64 → Mem → Prop) (x1 : Int64) (x3 : Int32) (s0 : Int32) (u : Mem) (Q : Int64 → Mem → Prop) : Prop := (w_X_week s0 0 u (fun r3 u4 => (w_X_mix x1 r3.toInt64 (fun r5 => (w_X_week s0 1 u4 (fun r7 u8 => (w_X_mix r5 r7.toInt64 (fun r9 => (R r9 (x3 + 1) u8)))))))))
def w_X_digest_l10 (X : Int64 → Mem → Prop) (Q : Int64 → Mem → Prop) : Nat → Int64 → Int32 → Mem → Prop
  | 0, _, _, _ => False
  | n + 1, x1, x3, u => ((4 ≤ x3 → (X x1 u)) ∧ (¬ 4 ≤ x3 → ((3 ≤ x3 → (w_X_digest_b26 (w_X_digest_l10 X Q n) X x1 x3 9 u Q)) ∧ (¬ 3 ≤ x3 → (w_X_digest_b26 (w_X_digest_l10 X Q n) X x1 x3 x3 u Q)))))
def w_X_digest_l193 (X : Int64 → Mem → Prop) (Q : Int64 → Mem → Prop) : Nat → Int64 → Int32 → Mem → Prop
  | 0, _, _, _ => False
  | n + 1, x1, x3, u => ((8 ≤ x3 → (X x1 u)) ∧ (¬ 8 ≤ x3 → (w_X_digestBig x1 x3 u (fun r57 u58 => (w_X_digest_l193 X Q n r57 (x3 + 1) u58)))))
def w_X_digest (u : Mem) (Q : Int64 → Mem → Prop) : Prop := (w_X_digestTexts 17 u (fun r1 => (∃ n62, w_X_digest_l10 (fun z11 u12 => (w_X_judged u12 (fun r13 u14 => (w_X_mix z11 r13.toInt64 (fun r15 => (w_X_two u14 (fun r17 => (w_X_mix r15 r17.toInt64 (fun r19 => (w_X_second 3 u14 (fun r21 u22 => (w_X_mix r19 r21.toInt64 (fun r23 => (w_X_touch 2 1 2 0 u22 (fun r25 u26 => (w_X_mix r23 r25.toInt64 (fun r27 => (w_X_touch 2 1 2 1 u26 (fun r29 u30 => (w_X_mix r27 r29.toInt64 (fun r31 => (w_X_steady (-1) u30 (fun r33 u34 => (w_X_mix r31 r33.toInt64 (fun r35 => (w_X_steady 0 u34 (fun r37 u38 => (w_X_mix r35 r37.toInt64 (fun r39 => (w_X_round 5 0 u38 (fun r41 u42 => (w_X_mix r39 r41.toInt64 (fun r43 => (w_X_round 5 1 u42 (fun r45 u46 => (w_X_mix r43 r45.toInt64 (fun r47 => (w_X_moved 1 u46 (fun r49 u50 => (w_X_mix r47 r49.toInt64 (fun r51 => (w_X_lot 7 9 (-1) u50 (fun r53 u54 => (w_X_mix r51 r53.toInt64 (fun r55 => (∃ n61, w_X_digest_l193 (fun z59 u60 => (Q z59 u60)) Q n61 r55 0 u54)))))))))))))))))))))))))))))))))))))))))))))) Q n62 r1 0 u)))
def w_M_in (x0 : Int64) (x2 : Int64) (x4 : Int64) (Q : Int32 → Prop) : Prop := (((lg_cmp x0 x2) < 0 → (Q 0)) ∧ (¬ (lg_cmp x0 x2) < 0 → ((0 < (lg_cmp x0 x4) → (Q 0)) ∧ (¬ 0 < (lg_cmp x0 x4) → (Q 1)))))
def w_M_no (x0 : Int32) (Q : Int64 → Prop) : Prop := (Q ((-9223372036854775808) - x0.toInt64))
def w_M_isTwo (x0 : Int32) (Q : Int32 → Prop) : Prop := (w_M_in x0.toInt64 0 1 (fun r1 => (bz r1 ∧ (Q r1))))
def w_M_isIn (x0 : Int32) (x1 : Int32) (Q : Int32 → Prop) : Prop := ((¬ ((x0 >>> (x1 &&& 31)) &&& 1) = 1 → (Q 0)) ∧ (((x0 >>> (x1 &&& 31)) &&& 1) = 1 → (Q 1)))
def w_M_ones_l4 (X : Int32 → Prop) (Q : Int32 → Prop) : Nat → Int32 → Int32 → Prop
  | 0, _, _ => False
  | n + 1, x1, x2 => ((x2 = 0 → (X x1)) ∧ (¬ x2 = 0 → (w_M_ones_l4 X Q n (x1 + 1) (x2 &&& (x2 - 1)))))
def w_M_ones (x0 : Int32) (Q : Int32 → Prop) : Prop := (∃ n2, w_M_ones_l4 (fun z1 => (Q z1)) Q n2 0 x0)
def w_M_part_l6 (X : Int64 → Prop) (x0 : Int64) (x2 : Int64) (x4 : Int32) (Q : Int64 → Prop) : Nat → Int64 → Int64 → Prop
  | 0, _, _ => False
  | n + 1, x5, x7 => (((lg_cmp x7 0) = 0 → (X x5)) ∧ (¬ (lg_cmp x7 0) = 0 → (¬ x7 = 0 ∧ (w_M_part_l6 X x0 x2 x4 Q n x7 (x5 - x5 / x7 * x7)))))
def w_M_part_b41 (x5 : Int64) (s0 : Int64) (Q : Int64 → Prop) : Prop := (¬ x5 = 0 ∧ (Q (s0 / x5)))
def w_M_part (x0 : Int64) (x2 : Int64) (x4 : Int32) (Q : Int64 → Prop) : Prop := (∃ n2, w_M_part_l6 (fun z1 => ((¬ x4 = 0 → (w_M_part_b41 z1 x2 Q)) ∧ (x4 = 0 → (w_M_part_b41 z1 x0 Q)))) x0 x2 x4 Q n2 x0 x2)
def w_M_met (x1 : Int32) (u : Mem) (Q : Int32 → Mem → Prop) : Prop := (Q ((-10) - x1) (sS u 0 x1))
def w_M_isSheet (x0 : Int32) (Q : Int32 → Prop) : Prop := (w_M_in x0.toInt64 0 3 (fun r1 => (bz r1 ∧ (Q r1))))
def w_M_sheet_l55 (X : Mem → Prop) (x1 : Int32) (x3 : Int32) (Q : Int32 → Mem → Prop) : Nat → Int32 → Mem → Prop
  | 0, _, _ => False
  | n + 1, x4, u => ((x3 ≤ x4 → (X u)) ∧ (¬ x3 ≤ x4 → (vp_in ((60 * x1) + x4) 240 ∧ (w_M_sheet_l55 X x1 x3 Q n (x4 + 1) (sA u 2 ((60 * x1) + x4).toNatClampNeg 0)))))
def w_M_sheet (x1 : Int32) (x2 : Int32) (x3 : Int32) (u : Mem) (Q : Int32 → Mem → Prop) : Prop := (w_M_isSheet x1 (fun r1 => ((r1 = 0 → (Q (-2) u)) ∧ (¬ r1 = 0 → (w_M_in x2.toInt64 0 2 (fun r3 => ((r3 = 0 → (Q (-2) u)) ∧ (¬ r3 = 0 → ((x3 ≤ 60 → ((0 ≤ x3 → (vp_in x1 4 ∧ (vp_in x1 4 ∧ (∃ n6, w_M_sheet_l55 (fun u5 => (Q x3 u5)) x1 x3 Q n6 0 (sA (sA u 0 x1.toNatClampNeg x2) 1 x1.toNatClampNeg x3))))) ∧ (¬ 0 ≤ x3 → (w_M_met 5 u (fun r7 u8 => (Q r7 u8)))))) ∧ (¬ x3 ≤ 60 → (Q (-2) u)))))))))))
def w_M_lose (x1 : Int32) (u : Mem) (Q : Int32 → Mem → Prop) : Prop := (w_M_isSheet x1 (fun r1 => ((¬ r1 = 0 → (vp_in x1 4 ∧ ((0 ≤ (u.2 0 x1.toNatClampNeg) → (vp_in x1 4 ∧ (vp_in x1 4 ∧ (Q (u.2 1 x1.toNatClampNeg) (sA u 0 x1.toNatClampNeg (-1)))))) ∧ (¬ 0 ≤ (u.2 0 x1.toNatClampNeg) → (w_M_met 1 u (fun r3 u4 => (Q r3 u4))))))) ∧ (r1 = 0 → (Q (-2) u)))))
def w_M_lacks (x1 : Int32) (x2 : Int32) (x3 : Int32) (u : Mem) (Q : Int32 → Mem → Prop) : Prop := (vp_in x1 4 ∧ ((0 ≤ (u.2 0 x1.toNatClampNeg) → (vp_in x1 4 ∧ (((u.2 0 x1.toNatClampNeg) = x2 → (vp_in x1 4 ∧ (w_M_in x3.toInt64 0 ((u.2 1 x1.toNatClampNeg) - 1).toInt64 (fun r1 => ((r1 = 0 → (w_M_met 2 u (fun r3 u4 => (Q r3 u4)))) ∧ (¬ r1 = 0 → (Q 0 u))))))) ∧ (¬ (u.2 0 x1.toNatClampNeg) = x2 → (w_M_met 3 u (fun r5 u6 => (Q r5 u6))))))) ∧ (¬ 0 ≤ (u.2 0 x1.toNatClampNeg) → (w_M_met 1 u (fun r7 u8 => (Q r7 u8))))))
def w_M_cut (x0 : Int32) (x1 : Int32) (Q : Int32 → Prop) : Prop := ((¬ x0 = 0 → ((¬ x0 = 1 → (Q x1)) ∧ (x0 = 1 → (Q x1.toInt16.toInt32)))) ∧ (x0 = 0 → (Q x1.toInt8.toInt32)))
def w_M_put (x1 : Int32) (x2 : Int32) (x3 : Int32) (x4 : Int32) (u : Mem) (Q : Int32 → Mem → Prop) : Prop := (w_M_isSheet x1 (fun r1 => ((r1 = 0 → (Q (-2) u)) ∧ (¬ r1 = 0 → (w_M_in x2.toInt64 0 2 (fun r3 => ((¬ r3 = 0 → (w_M_lacks x1 x2 x3 u (fun r5 u6 => ((r5 = 0 → (w_M_cut x2 x4 (fun r7 => (vp_in ((60 * x1) + x3) 240 ∧ (Q 1 (sA u6 2 ((60 * x1) + x3).toNatClampNeg r7)))))) ∧ (¬ r5 = 0 → (Q r5 u6)))))) ∧ (r3 = 0 → (Q (-2) u)))))))))
def w_M_get (x1 : Int32) (x2 : Int32) (x3 : Int32) (u : Mem) (Q : Int32 → Mem → Prop) : Prop := (w_M_isSheet x1 (fun r1 => ((r1 = 0 → (Q (-2147483648) u)) ∧ (¬ r1 = 0 → (w_M_in x2.toInt64 0 2 (fun r3 => ((r3 = 0 → (Q (-2147483648) u)) ∧ (¬ r3 = 0 → (w_M_lacks x1 x2 x3 u (fun r5 u6 => ((r5 = 0 → (vp_in ((60 * x1) + x3) 240 ∧ (Q (u6.2 2 ((60 * x1) + x3).toNatClampNeg) u6))) ∧ (¬ r5 = 0 → (Q (-2147483648) u6)))))))))))))
def w_M_copy_b35 (u : Mem) (Q : Int32 → Mem → Prop) : Prop := (w_M_met 1 u (fun r5 u6 => (Q r5 u6)))
def w_M_copy_b111 (u : Mem) (Q : Int32 → Mem → Prop) : Prop := (w_M_met 2 u (fun r7 u8 => (Q r7 u8)))
def w_M_copy_l120 (X : Mem → Prop) (x1 : Int32) (x2 : Int32) (x3 : Int32) (x4 : Int32) (x5 : Int32) (Q : Int32 → Mem → Prop) : Nat → Int32 → Mem → Prop
  | 0, _, _ => False
  | n + 1, x6, u => ((x5 ≤ x6 → (X u)) ∧ (¬ x5 ≤ x6 → (vp_in (((60 * x1) + x2) + x6) 240 ∧ (vp_in x6 60 ∧ (w_M_copy_l120 X x1 x2 x3 x4 x5 Q n (x6 + 1) (sA u 3 x6.toNatClampNeg (u.2 2 (((60 * x1) + x2) + x6).toNatClampNeg)))))))
def w_M_copy_l157 (X : Mem → Prop) (x3 : Int32) (x4 : Int32) (x5 : Int32) (Q : Int32 → Mem → Prop) : Nat → Int32 → Mem → Prop
  | 0, _, _ => False
  | n + 1, x6, u => ((x5 ≤ x6 → (X u)) ∧ (¬ x5 ≤ x6 → (vp_in x6 60 ∧ (vp_in (((60 * x3) + x4) + x6) 240 ∧ (w_M_copy_l157 X x3 x4 x5 Q n (x6 + 1) (sA u 2 (((60 * x3) + x4) + x6).toNatClampNeg (u.2 3 x6.toNatClampNeg)))))))
def w_M_copy (x1 : Int32) (x2 : Int32) (x3 : Int32) (x4 : Int32) (x5 : Int32) (u : Mem) (Q : Int32 → Mem → Prop) : Prop := (w_M_isSheet x1 (fun r1 => ((r1 = 0 → (Q (-2) u)) ∧ (¬ r1 = 0 → (w_M_isSheet x3 (fun r3 => ((¬ r3 = 0 → (vp_in x1 4 ∧ (((u.2 0 x1.toNatClampNeg) < 0 → (w_M_copy_b35 u Q)) ∧ (¬ (u.2 0 x1.toNatClampNeg) < 0 → (vp_in x3 4 ∧ ((0 ≤ (u.2 0 x3.toNatClampNeg) → (vp_in x1 4 ∧ (vp_in x3 4 ∧ (((u.2 0 x1.toNatClampNeg) = (u.2 0 x3.toNatClampNeg) → ((x2 < 0 → (w_M_copy_b111 u Q)) ∧ (¬ x2 < 0 → ((x4 < 0 → (w_M_copy_b111 u Q)) ∧ (¬ x4 < 0 → ((x5 < 0 → (w_M_copy_b111 u Q)) ∧ (¬ x5 < 0 → (vp_in x1 4 ∧ ((0 < (lg_cmp (x2.toInt64 + x5.toInt64) (u.2 1 x1.toNatClampNeg).toInt64) → (w_M_copy_b111 u Q)) ∧ (¬ 0 < (lg_cmp (x2.toInt64 + x5.toInt64) (u.2 1 x1.toNatClampNeg).toInt64) → (vp_in x3 4 ∧ (((lg_cmp (x4.toInt64 + x5.toInt64) (u.2 1 x3.toNatClampNeg).toInt64) ≤ 0 → (∃ n12, w_M_copy_l120 (fun u9 => (∃ n11, w_M_copy_l157 (fun u10 => (Q 1 u10)) x3 x4 x5 Q n11 0 u9)) x1 x2 x3 x4 x5 Q n12 0 u)) ∧ (¬ (lg_cmp (x4.toInt64 + x5.toInt64) (u.2 1 x3.toNatClampNeg).toInt64) ≤ 0 → (w_M_copy_b111 u Q)))))))))))))) ∧ (¬ (u.2 0 x1.toNatClampNeg) = (u.2 0 x3.toNatClampNeg) → (w_M_met 4 u (fun r13 u14 => (Q r13 u14)))))))) ∧ (¬ 0 ≤ (u.2 0 x3.toNatClampNeg) → (w_M_copy_b35 u Q)))))))) ∧ (r3 = 0 → (Q (-2) u)))))))))
def w_M_type_b39 (x1 : Int32) (x2 : Int32) (s0 : Int32) (s1 : Int32) (u : Mem) (Q : Int32 → Mem → Prop) : Prop := ((¬ s1 = s0 → (vp_in x1 2 ∧ (vp_in ((80 * x1) + (u.2 5 x1.toNatClampNeg)) 120 ∧ (vp_in x1 2 ∧ (vp_in x1 2 ∧ (vp_in x1 2 ∧ (∀ y5, y5 = ((sA (sA u 4 ((80 * x1) + (u.2 5 x1.toNatClampNeg)).toNatClampNeg x2) 5 x1.toNatClampNeg ((u.2 5 x1.toNatClampNeg) + 1)).2 5 x1.toNatClampNeg) → (Q y5 (sA (sA u 4 ((80 * x1) + (u.2 5 x1.toNatClampNeg)).toNatClampNeg x2) 5 x1.toNatClampNeg ((u.2 5 x1.toNatClampNeg) + 1)))))))))) ∧ (s1 = s0 → (Q (-4) u)))
def w_M_type (x1 : Int32) (x2 : Int32) (u : Mem) (Q : Int32 → Mem → Prop) : Prop := (w_M_isTwo x1 (fun r1 => ((r1 = 0 → (Q (-2) u)) ∧ (¬ r1 = 0 → (w_M_in x2.toInt64 0 255 (fun r3 => ((¬ r3 = 0 → (vp_in x1 2 ∧ ((¬ x1 = 0 → (w_M_type_b39 x1 x2 35 (u.2 5 x1.toNatClampNeg) u Q)) ∧ (x1 = 0 → (w_M_type_b39 x1 x2 79 (u.2 5 x1.toNatClampNeg) u Q))))) ∧ (r3 = 0 → (Q (-2) u)))))))))
def w_M_wipe (x1 : Int32) (u : Mem) (Q : Int32 → Mem → Prop) : Prop := (w_M_isTwo x1 (fun r1 => ((¬ r1 = 0 → (vp_in x1 2 ∧ (vp_in x1 2 ∧ (Q (u.2 5 x1.toNatClampNeg) (sA u 5 x1.toNatClampNeg 0))))) ∧ (r1 = 0 → (Q (-2) u)))))
def w_M_undo (x1 : Int32) (u : Mem) (Q : Int32 → Mem → Prop) : Prop := (w_M_isTwo x1 (fun r1 => ((¬ r1 = 0 → (vp_in x1 2 ∧ ((¬ (u.2 5 x1.toNatClampNeg) = 0 → (vp_in x1 2 ∧ (vp_in x1 2 ∧ (vp_in x1 2 ∧ (∀ y3, y3 = ((sA u 5 x1.toNatClampNeg ((u.2 5 x1.toNatClampNeg) - 1)).2 5 x1.toNatClampNeg) → (Q y3 (sA u 5 x1.toNatClampNeg ((u.2 5 x1.toNatClampNeg) - 1)))))))) ∧ ((u.2 5 x1.toNatClampNeg) = 0 → (Q (-3) u))))) ∧ (r1 = 0 → (Q (-2) u)))))
def w_M_here (x1 : Int32) (u : Mem) (Q : Int32 → Prop) : Prop := (vp_in x1 2 ∧ (((u.2 5 x1.toNatClampNeg) ≤ (u.1 1) → (Q (-1))) ∧ (¬ (u.2 5 x1.toNatClampNeg) ≤ (u.1 1) → (vp_in ((80 * x1) + (u.1 1)) 120 ∧ (Q (u.2 4 ((80 * x1) + (u.1 1)).toNatClampNeg))))))
def w_M_small (x1 : Int32) (u : Mem) (Q : Int32 → Prop) : Prop := (w_M_here x1 u (fun r1 => (w_M_in r1.toInt64 97 104 (fun r3 => ((r3 = 0 → (Q (-1))) ∧ (¬ r3 = 0 → (w_M_here x1 u (fun r5 => (Q (r5 - 97))))))))))
def w_M_big (x1 : Int32) (u : Mem) (Q : Int32 → Prop) : Prop := (w_M_here x1 u (fun r1 => (w_M_in r1.toInt64 65 72 (fun r3 => ((r3 = 0 → (Q (-1))) ∧ (¬ r3 = 0 → (w_M_here x1 u (fun r5 => (Q (r5 - 65))))))))))
def w_M_readsLaw_b164 (x5 : Int32) (s0 : Int32) (s1 : Int32) (u : Mem) (Q : Int32 → Mem → Prop) : Prop := (vp_in s1 48 ∧ (vp_in ((3 * (u.1 2)) + 2) 48 ∧ (Q 1 (sS (sA (sA u 6 s1.toNatClampNeg s0) 6 ((3 * (u.1 2)) + 2).toNatClampNeg x5) 2 ((u.1 2) + 1)))))
def w_M_readsLaw_b93 (x2 : Int32) (x4 : Int32) (u : Mem) (Q : Int32 → Mem → Prop) : Prop := (w_M_big 0 (sS u 1 ((u.1 1) + 1)) (fun r7 => ((¬ r7 = (-1) → (vp_in (3 * (u.1 2)) 48 ∧ ((¬ x4 = 43 → (w_M_readsLaw_b164 r7 0 ((3 * (u.1 2)) + 1) (sA (sS (sS u 1 ((u.1 1) + 1)) 1 (((u.1 1) + 1) + 1)) 6 (3 * (u.1 2)).toNatClampNeg x2) Q)) ∧ (x4 = 43 → (w_M_readsLaw_b164 r7 1 ((3 * (u.1 2)) + 1) (sA (sS (sS u 1 ((u.1 1) + 1)) 1 (((u.1 1) + 1) + 1)) 6 (3 * (u.1 2)).toNatClampNeg x2) Q))))) ∧ (r7 = (-1) → (Q 0 (sS u 1 ((u.1 1) + 1)))))))
def w_M_readsLaw_b70 (x2 : Int32) (u : Mem) (Q : Int32 → Mem → Prop) : Prop := (w_M_here 0 u (fun r5 => ((r5 = 43 → (w_M_readsLaw_b93 x2 r5 u Q)) ∧ (¬ r5 = 43 → ((r5 = 45 → (w_M_readsLaw_b93 x2 r5 u Q)) ∧ (¬ r5 = 45 → (Q 0 u)))))))
def w_M_readsLaw (u : Mem) (Q : Int32 → Mem → Prop) : Prop := (w_M_small 0 u (fun r1 => (((u.1 2) = 16 → (Q 0 u)) ∧ (¬ (u.1 2) = 16 → ((¬ r1 = (-1) → (w_M_small 0 (sS u 1 ((u.1 1) + 1)) (fun r3 => ((r3 = (-1) → (w_M_readsLaw_b70 ((1 : Int32) <<< (r1 &&& 31)) (sS u 1 ((u.1 1) + 1)) Q)) ∧ (¬ r3 = (-1) → ((r1 < r3 → (w_M_readsLaw_b70 (((1 : Int32) <<< (r1 &&& 31)) ||| ((1 : Int32) <<< (r3 &&& 31))) (sS (sS u 1 ((u.1 1) + 1)) 1 (((u.1 1) + 1) + 1)) Q)) ∧ (¬ r1 < r3 → (Q 0 (sS u 1 ((u.1 1) + 1)))))))))) ∧ (r1 = (-1) → (Q 0 u)))))))
def w_M_readsLaws_b75 (u : Mem) (Q : Int32 → Mem → Prop) : Prop := (Q (u.1 1) (sS u 2 0))
def w_M_readsLaws_b99 (R : Int32 → Mem → Prop) (X : Mem → Prop) (x1 : Int32) (s0 : Int32) (s1 : Int32) (u : Mem) (Q : Int32 → Mem → Prop) : Prop := (R x1 (sS u 1 (s1 + s0)))
def w_M_readsLaws_b85 (R : Int32 → Mem → Prop) (X : Mem → Prop) (x1 : Int32) (u : Mem) (Q : Int32 → Mem → Prop) : Prop := ((x1 = 0 → (w_M_readsLaws_b99 R X x1 0 (u.1 1) u Q)) ∧ (¬ x1 = 0 → (w_M_readsLaws_b99 R X x1 1 (u.1 1) u Q)))
def w_M_readsLaws_b56 (R : Int32 → Mem → Prop) (X : Mem → Prop) (x2 : Int32) (s0 : Int32) (u : Mem) (Q : Int32 → Mem → Prop) : Prop := ((x2 = 0 → (w_M_readsLaws_b75 u Q)) ∧ (¬ x2 = 0 → ((s0 = 0 → (w_M_readsLaws_b85 R X s0 u Q)) ∧ (¬ s0 = 0 → (w_M_here 0 u (fun r3 => ((r3 = 59 → (w_M_readsLaws_b85 R X s0 u Q)) ∧ (¬ r3 = 59 → (w_M_readsLaws_b75 u Q)))))))))
def w_M_readsLaws_b55 (R : Int32 → Mem → Prop) (X : Mem → Prop) (x2 : Int32) (u : Mem) (Q : Int32 → Mem → Prop) : Prop := (w_M_readsLaws_b56 R X x2 0 u Q)
def w_M_readsLaws_l25 (X : Mem → Prop) (Q : Int32 → Mem → Prop) : Nat → Int32 → Mem → Prop
  | 0, _, _ => False
  | n + 1, x1, u => ((x1 = 0 → (X u)) ∧ (¬ x1 = 0 → (w_M_readsLaw u (fun r1 u2 => ((r1 = 0 → (w_M_readsLaws_b55 (w_M_readsLaws_l25 X Q n) X r1 u2 Q)) ∧ (¬ r1 = 0 → (vp_in 0 2 ∧ (((u2.2 5 (0 : Int32).toNatClampNeg) ≤ (u2.1 1) → (w_M_readsLaws_b55 (w_M_readsLaws_l25 X Q n) X r1 u2 Q)) ∧ (¬ (u2.2 5 (0 : Int32).toNatClampNeg) ≤ (u2.1 1) → (w_M_readsLaws_b56 (w_M_readsLaws_l25 X Q n) X r1 1 u2 Q))))))))))
def w_M_readsLaws_b24 (s0 : Int32) (u : Mem) (Q : Int32 → Mem → Prop) : Prop := (∃ n6, w_M_readsLaws_l25 (fun u5 => (Q (-1) u5)) Q n6 s0 u)
def w_M_readsLaws (u : Mem) (Q : Int32 → Mem → Prop) : Prop := (vp_in 0 2 ∧ (((u.2 5 (0 : Int32).toNatClampNeg) ≤ 0 → (w_M_readsLaws_b24 0 (sS (sS u 1 0) 2 0) Q)) ∧ (¬ (u.2 5 (0 : Int32).toNatClampNeg) ≤ 0 → (w_M_readsLaws_b24 1 (sS (sS u 1 0) 2 0) Q))))
def w_M_readsOneDust (u : Mem) (Q : Int32 → Mem → Prop) : Prop := (w_M_big 1 u (fun r1 => (((u.1 3) = 12 → (Q 0 u)) ∧ (¬ (u.1 3) = 12 → ((¬ r1 = (-1) → (w_M_small 1 (sS u 1 ((u.1 1) + 1)) (fun r3 => ((¬ r3 = (-1) → (vp_in (2 * (u.1 3)) 24 ∧ (vp_in ((2 * (u.1 3)) + 1) 24 ∧ (∀ u5, u5 = (sS (sA (sA (sS (sS u 1 ((u.1 1) + 1)) 1 (((u.1 1) + 1) + 1)) 7 (2 * (u.1 3)).toNatClampNeg r1) 7 ((2 * (u.1 3)) + 1).toNatClampNeg r3) 3 ((u.1 3) + 1)) → (Q 1 u5))))) ∧ (r3 = (-1) → (Q 0 (sS u 1 ((u.1 1) + 1)))))))) ∧ (r1 = (-1) → (Q 0 u)))))))
def w_M_readsDust_b75 (u : Mem) (Q : Int32 → Mem → Prop) : Prop := (Q (u.1 1) (sS u 3 0))
def w_M_readsDust_b99 (R : Int32 → Mem → Prop) (X : Mem → Prop) (x1 : Int32) (s0 : Int32) (s1 : Int32) (u : Mem) (Q : Int32 → Mem → Prop) : Prop := (R x1 (sS u 1 (s1 + s0)))
def w_M_readsDust_b85 (R : Int32 → Mem → Prop) (X : Mem → Prop) (x1 : Int32) (u : Mem) (Q : Int32 → Mem → Prop) : Prop := ((x1 = 0 → (w_M_readsDust_b99 R X x1 0 (u.1 1) u Q)) ∧ (¬ x1 = 0 → (w_M_readsDust_b99 R X x1 1 (u.1 1) u Q)))
def w_M_readsDust_b56 (R : Int32 → Mem → Prop) (X : Mem → Prop) (x2 : Int32) (s0 : Int32) (u : Mem) (Q : Int32 → Mem → Prop) : Prop := ((x2 = 0 → (w_M_readsDust_b75 u Q)) ∧ (¬ x2 = 0 → ((s0 = 0 → (w_M_readsDust_b85 R X s0 u Q)) ∧ (¬ s0 = 0 → (w_M_here 1 u (fun r3 => ((r3 = 59 → (w_M_readsDust_b85 R X s0 u Q)) ∧ (¬ r3 = 59 → (w_M_readsDust_b75 u Q)))))))))
def w_M_readsDust_b55 (R : Int32 → Mem → Prop) (X : Mem → Prop) (x2 : Int32) (u : Mem) (Q : Int32 → Mem → Prop) : Prop := (w_M_readsDust_b56 R X x2 0 u Q)
def w_M_readsDust_l25 (X : Mem → Prop) (Q : Int32 → Mem → Prop) : Nat → Int32 → Mem → Prop
  | 0, _, _ => False
  | n + 1, x1, u => ((x1 = 0 → (X u)) ∧ (¬ x1 = 0 → (w_M_readsOneDust u (fun r1 u2 => ((r1 = 0 → (w_M_readsDust_b55 (w_M_readsDust_l25 X Q n) X r1 u2 Q)) ∧ (¬ r1 = 0 → (vp_in 1 2 ∧ (((u2.2 5 (1 : Int32).toNatClampNeg) ≤ (u2.1 1) → (w_M_readsDust_b55 (w_M_readsDust_l25 X Q n) X r1 u2 Q)) ∧ (¬ (u2.2 5 (1 : Int32).toNatClampNeg) ≤ (u2.1 1) → (w_M_readsDust_b56 (w_M_readsDust_l25 X Q n) X r1 1 u2 Q))))))))))
def w_M_readsDust_b24 (s0 : Int32) (u : Mem) (Q : Int32 → Mem → Prop) : Prop := (∃ n6, w_M_readsDust_l25 (fun u5 => (Q (-1) u5)) Q n6 s0 u)
def w_M_readsDust (u : Mem) (Q : Int32 → Mem → Prop) : Prop := (vp_in 1 2 ∧ (((u.2 5 (1 : Int32).toNatClampNeg) ≤ 0 → (w_M_readsDust_b24 0 (sS (sS u 1 0) 3 0) Q)) ∧ (¬ (u.2 5 (1 : Int32).toNatClampNeg) ≤ 0 → (w_M_readsDust_b24 1 (sS (sS u 1 0) 3 0) Q))))
def w_M_holds (x1 : Int32) (x2 : Int32) (u : Mem) (Q : Int32 → Prop) : Prop := (vp_in (3 * x1) 48 ∧ ((¬ ((u.2 6 (3 * x1).toNatClampNeg) &&& (x2 ^^^ (-1))) = 0 → (Q 0)) ∧ (((u.2 6 (3 * x1).toNatClampNeg) &&& (x2 ^^^ (-1))) = 0 → (Q 1))))
def w_M_heldBy_b57 (R : Int32 → Int32 → Prop) (X : Int32 → Prop) (x1 : Int32) (x2 : Int32) (x4 : Int32) (s0 : Int32) (s1 : Int32) (u : Mem) (Q : Int32 → Prop) : Prop := (R (s1 ||| s0) (x4 + 1))
def w_M_heldBy_b56 (R : Int32 → Int32 → Prop) (X : Int32 → Prop) (x1 : Int32) (x2 : Int32) (x4 : Int32) (s0 : Int32) (u : Mem) (Q : Int32 → Prop) : Prop := (w_M_heldBy_b57 R X x1 x2 x4 0 s0 u Q)
def w_M_heldBy_l5 (X : Int32 → Prop) (x1 : Int32) (x2 : Int32) (u : Mem) (Q : Int32 → Prop) : Nat → Int32 → Int32 → Prop
  | 0, _, _ => False
  | n + 1, x3, x4 => (((u.1 2) ≤ x4 → (X x3)) ∧ (¬ (u.1 2) ≤ x4 → (vp_in ((3 * x4) + 1) 48 ∧ ((¬ (u.2 6 ((3 * x4) + 1).toNatClampNeg) = x2 → (w_M_heldBy_b56 (w_M_heldBy_l5 X x1 x2 u Q n) X x1 x2 x4 x3 u Q)) ∧ ((u.2 6 ((3 * x4) + 1).toNatClampNeg) = x2 → (w_M_holds x4 x1 u (fun r1 => ((r1 = 0 → (w_M_heldBy_b56 (w_M_heldBy_l5 X x1 x2 u Q n) X x1 x2 x4 x3 u Q)) ∧ (¬ r1 = 0 → (vp_in ((3 * x4) + 2) 48 ∧ (w_M_heldBy_b57 (w_M_heldBy_l5 X x1 x2 u Q n) X x1 x2 x4 ((1 : Int32) <<< ((u.2 6 ((3 * x4) + 2).toNatClampNeg) &&& 31)) x3 u Q)))))))))))
def w_M_heldBy (x1 : Int32) (x2 : Int32) (u : Mem) (Q : Int32 → Prop) : Prop := (∃ n4, w_M_heldBy_l5 (fun z3 => (Q z3)) x1 x2 u Q n4 0 0)
def w_M_reads_b95 (R : Int32 → Mem → Prop) (X : Mem → Prop) (x1 : Int32) (x2 : Int32) (s0 : Int32) (s1 : Int32) (s2 : Int32) (u : Mem) (Q : Mem → Prop) : Prop := (vp_in s2 256 ∧ (R (x2 + 1) (sA u 9 s2.toNatClampNeg (s1 ||| s0))))
def w_M_reads_l49 (X : Mem → Prop) (x1 : Int32) (Q : Mem → Prop) : Nat → Int32 → Mem → Prop
  | 0, _, _ => False
  | n + 1, x2, u => (((u.1 3) ≤ x2 → (X u)) ∧ (¬ (u.1 3) ≤ x2 → (vp_in x1 256 ∧ (vp_in (2 * x2) 24 ∧ (w_M_isIn x1 (u.2 7 (2 * x2).toNatClampNeg) (fun r9 => ((r9 = 0 → (w_M_reads_b95 (w_M_reads_l49 X x1 Q n) X x1 x2 0 (u.2 9 x1.toNatClampNeg) x1 u Q)) ∧ (¬ r9 = 0 → (vp_in ((2 * x2) + 1) 24 ∧ (w_M_reads_b95 (w_M_reads_l49 X x1 Q n) X x1 x2 ((1 : Int32) <<< ((u.2 7 ((2 * x2) + 1).toNatClampNeg) &&& 31)) (u.2 9 x1.toNatClampNeg) x1 u Q))))))))))
def w_M_reads_l12 (X : Mem → Prop) (Q : Mem → Prop) : Nat → Int32 → Mem → Prop
  | 0, _, _ => False
  | n + 1, x1, u => ((256 ≤ x1 → (X u)) ∧ (¬ 256 ≤ x1 → (w_M_heldBy x1 1 u (fun r5 => (w_M_heldBy x1 0 u (fun r7 => (vp_in x1 256 ∧ (vp_in x1 256 ∧ (∃ n12, w_M_reads_l49 (fun u11 => (w_M_reads_l12 X Q n (x1 + 1) u11)) x1 Q n12 0 (sA (sA u 8 x1.toNatClampNeg (r5 &&& (r7 ^^^ (-1)))) 9 x1.toNatClampNeg 0))))))))))
def w_M_reads (u : Mem) (Q : Mem → Prop) : Prop := (w_M_readsLaws u (fun r1 u2 => (w_M_readsDust u2 (fun r3 u4 => (∃ n14, w_M_reads_l12 (fun u13 => (Q u13)) Q n14 0 u4)))))
def w_M_fault (x1 : Int32) (u : Mem) (Q : Int32 → Mem → Prop) : Prop := (w_M_isTwo x1 (fun r1 => ((¬ r1 = 0 → ((¬ x1 = 0 → (w_M_readsDust u (fun r3 u4 => (Q r3 u4)))) ∧ (x1 = 0 → (w_M_readsLaws u (fun r5 u6 => (Q r5 u6)))))) ∧ (r1 = 0 → (Q (-2) u)))))
def w_M_rule (x1 : Int32) (x2 : Int32) (u : Mem) (Q : Int32 → Mem → Prop) : Prop := (w_M_readsLaws u (fun r1 u2 => (w_M_in x1.toInt64 0 ((u2.1 2) - 1).toInt64 (fun r3 => ((r3 = 0 → (Q (-2) u2)) ∧ (¬ r3 = 0 → (w_M_in x2.toInt64 0 2 (fun r5 => ((r5 = 0 → (Q (-2) u2)) ∧ (¬ r5 = 0 → (vp_in ((3 * x1) + x2) 48 ∧ (Q (u2.2 6 ((3 * x1) + x2).toNatClampNeg) u2))))))))))))
def w_M_dust (x1 : Int32) (x2 : Int32) (u : Mem) (Q : Int32 → Mem → Prop) : Prop := (w_M_readsDust u (fun r1 u2 => (w_M_in x1.toInt64 0 ((u2.1 3) - 1).toInt64 (fun r3 => ((r3 = 0 → (Q (-2) u2)) ∧ (¬ r3 = 0 → (w_M_isTwo x2 (fun r5 => ((r5 = 0 → (Q (-2) u2)) ∧ (¬ r5 = 0 → (vp_in ((2 * x1) + x2) 24 ∧ (Q (u2.2 7 ((2 * x1) + x2).toNatClampNeg) u2))))))))))))
def w_M_isSet (x0 : Int32) (Q : Int32 → Prop) : Prop := (w_M_in x0.toInt64 0 255 (fun r1 => (bz r1 ∧ (Q r1))))
def w_M_isThing (x0 : Int32) (Q : Int32 → Prop) : Prop := (w_M_in x0.toInt64 0 7 (fun r1 => (bz r1 ∧ (Q r1))))
def w_M_first (x1 : Int32) (u : Mem) (Q : Int32 → Mem → Prop) : Prop := (w_M_isSet x1 (fun r1 => ((¬ r1 = 0 → (Q (u.1 4) (sS u 4 x1))) ∧ (r1 = 0 → (Q (-2) u)))))
def w_M_comes (x1 : Int32) (u : Mem) (Q : Int32 → Mem → Prop) : Prop := (w_M_reads u (fun u2 => (w_M_isSet x1 (fun r3 => ((r3 = 0 → (Q (-2) u2)) ∧ (¬ r3 = 0 → (vp_in x1 256 ∧ (Q (u2.2 8 x1.toNatClampNeg) u2))))))))
def w_M_lays (x1 : Int32) (u : Mem) (Q : Int32 → Mem → Prop) : Prop := (w_M_reads u (fun u2 => (w_M_isSet x1 (fun r3 => ((r3 = 0 → (Q (-2) u2)) ∧ (¬ r3 = 0 → (vp_in x1 256 ∧ (Q (u2.2 9 x1.toNatClampNeg) u2))))))))
def w_M_next (x1 : Int32) (u : Mem) (Q : Int32 → Prop) : Prop := (vp_in x1 256 ∧ (vp_in (u.2 8 x1.toNatClampNeg) 256 ∧ (Q (u.2 9 (u.2 8 x1.toNatClampNeg).toNatClampNeg))))
def w_M_lay (x1 : Int32) (x2 : Int32) (x3 : Int32) (u : Mem) (Q : Int32 → Mem → Prop) : Prop := (w_M_in x1.toInt64 0 29 (fun r1 => ((r1 = 0 → (Q (-2) u)) ∧ (¬ r1 = 0 → (w_M_isThing x2 (fun r3 => ((r3 = 0 → (Q (-2) u)) ∧ (¬ r3 = 0 → (w_M_isTwo x3 (fun r5 => ((¬ r5 = 0 → ((¬ (u.1 5) = 12 → (vp_in (3 * (u.1 5)) 36 ∧ (vp_in ((3 * (u.1 5)) + 1) 36 ∧ (vp_in ((3 * (u.1 5)) + 2) 36 ∧ (∀ u7, u7 = (sS (sA (sA (sA u 10 (3 * (u.1 5)).toNatClampNeg x1) 10 ((3 * (u.1 5)) + 1).toNatClampNeg x2) 10 ((3 * (u.1 5)) + 2).toNatClampNeg x3) 5 ((u.1 5) + 1)) → (Q (u7.1 5) u7)))))) ∧ ((u.1 5) = 12 → (Q (-4) u)))) ∧ (r5 = 0 → (Q (-2) u)))))))))))))
def w_M_back (u : Mem) (Q : Int32 → Mem → Prop) : Prop := ((¬ (u.1 5) = 0 → (Q ((u.1 5) - 1) (sS u 5 ((u.1 5) - 1)))) ∧ ((u.1 5) = 0 → (Q (-3) u)))
def w_M_lives_b142 (R : Int32 → Mem → Prop) (X : Mem → Prop) (x1 : Int32) (x2 : Int32) (s0 : Int32) (s1 : Int32) (u : Mem) (Q : Mem → Prop) : Prop := (vp_in s1 30 ∧ (R (x2 + 1) (sA u 11 s1.toNatClampNeg s0)))
def w_M_lives_l69 (X : Mem → Prop) (x1 : Int32) (Q : Mem → Prop) : Nat → Int32 → Mem → Prop
  | 0, _, _ => False
  | n + 1, x2, u => (((u.1 5) ≤ x2 → (X u)) ∧ (¬ (u.1 5) ≤ x2 → (vp_in (3 * x2) 36 ∧ ((¬ (u.2 10 (3 * x2).toNatClampNeg) = x1 → (w_M_lives_l69 X x1 Q n (x2 + 1) u)) ∧ ((u.2 10 (3 * x2).toNatClampNeg) = x1 → (vp_in ((3 * x2) + 1) 36 ∧ (vp_in ((3 * x2) + 2) 36 ∧ ((¬ (u.2 10 ((3 * x2) + 2).toNatClampNeg) = 1 → (vp_in x1 30 ∧ (∀ y4, y4 = (((1 : Int32) <<< ((u.2 10 ((3 * x2) + 1).toNatClampNeg) &&& 31)) ^^^ (-1)) → (w_M_lives_b142 (w_M_lives_l69 X x1 Q n) X x1 x2 ((u.2 11 x1.toNatClampNeg) &&& y4) x1 u Q)))) ∧ ((u.2 10 ((3 * x2) + 2).toNatClampNeg) = 1 → (vp_in x1 30 ∧ (∀ y5, y5 = ((u.2 11 x1.toNatClampNeg) ||| ((1 : Int32) <<< ((u.2 10 ((3 * x2) + 1).toNatClampNeg) &&& 31))) → (w_M_lives_b142 (w_M_lives_l69 X x1 Q n) X x1 x2 y5 x1 u Q))))))))))))
def w_M_lives_b66 (R : Int32 → Mem → Prop) (X : Mem → Prop) (x1 : Int32) (s0 : Int32) (s1 : Int32) (u : Mem) (Q : Mem → Prop) : Prop := (vp_in s1 30 ∧ (∃ n7, w_M_lives_l69 (fun u6 => (R (x1 + 1) u6)) x1 Q n7 0 (sA u 11 s1.toNatClampNeg s0)))
def w_M_lives_b38 (R : Int32 → Mem → Prop) (X : Mem → Prop) (x1 : Int32) (s0 : Int32) (s1 : Int32) (u : Mem) (Q : Mem → Prop) : Prop := (vp_in s1 30 ∧ ((¬ x1 = 0 → (vp_in x1 30 ∧ (vp_in ((sA u 12 s1.toNatClampNeg s0).2 12 x1.toNatClampNeg) 256 ∧ (∀ y3, y3 = (u.2 9 ((sA u 12 s1.toNatClampNeg s0).2 12 x1.toNatClampNeg).toNatClampNeg) → (w_M_lives_b66 R X x1 y3 x1 (sA u 12 s1.toNatClampNeg s0) Q))))) ∧ (x1 = 0 → (w_M_lives_b66 R X x1 (u.1 4) x1 (sA u 12 s1.toNatClampNeg s0) Q))))
def w_M_lives_l6 (X : Mem → Prop) (Q : Mem → Prop) : Nat → Int32 → Mem → Prop
  | 0, _, _ => False
  | n + 1, x1, u => ((30 ≤ x1 → (X u)) ∧ (¬ 30 ≤ x1 → ((¬ x1 = 0 → (vp_in (x1 - 1) 30 ∧ (vp_in (u.2 11 (x1 - 1).toNatClampNeg) 256 ∧ (w_M_lives_b38 (w_M_lives_l6 X Q n) X x1 (u.2 8 (u.2 11 (x1 - 1).toNatClampNeg).toNatClampNeg) x1 u Q)))) ∧ (x1 = 0 → (w_M_lives_b38 (w_M_lives_l6 X Q n) X x1 0 x1 u Q)))))
def w_M_lives (u : Mem) (Q : Mem → Prop) : Prop := (w_M_reads u (fun u2 => (∃ n9, w_M_lives_l6 (fun u8 => (Q u8)) Q n9 0 u2)))
def w_M_week (x1 : Int32) (x2 : Int32) (u : Mem) (Q : Int32 → Mem → Prop) : Prop := (w_M_lives u (fun u2 => (w_M_in x1.toInt64 0 29 (fun r3 => ((r3 = 0 → (Q (-2) u2)) ∧ (¬ r3 = 0 → (w_M_isTwo x2 (fun r5 => ((r5 = 0 → (Q (-2) u2)) ∧ (¬ r5 = 0 → ((¬ x2 = 0 → (vp_in x1 30 ∧ (Q (u2.2 12 x1.toNatClampNeg) u2))) ∧ (x2 = 0 → (vp_in x1 30 ∧ (Q (u2.2 11 x1.toNatClampNeg) u2))))))))))))))
def w_M_judgedNow_l2 (X : Prop) (u : Mem) (Q : Int32 → Prop) : Nat → Int32 → Prop
  | 0, _ => False
  | n + 1, x1 => ((30 ≤ x1 → (X)) ∧ (¬ 30 ≤ x1 → (vp_in x1 30 ∧ (w_M_heldBy (u.2 11 x1.toNatClampNeg) 1 u (fun r1 => (vp_in x1 30 ∧ (w_M_heldBy (u.2 11 x1.toNatClampNeg) 0 u (fun r3 => (((r1 &&& r3) = 0 → (w_M_judgedNow_l2 X u Q n (x1 + 1))) ∧ (¬ (r1 &&& r3) = 0 → (Q x1)))))))))))
def w_M_judgedNow (u : Mem) (Q : Int32 → Prop) : Prop := (∃ n5, w_M_judgedNow_l2 ((Q (-1))) u Q n5 0)
def w_M_judged (u : Mem) (Q : Int32 → Mem → Prop) : Prop := (w_M_lives u (fun u2 => (w_M_judgedNow u2 (fun r3 => (Q r3 u2)))))
def w_M_twoNow_b66 (R : Int32 → Int32 → Prop) (X : Int32 → Prop) (x1 : Int32) (x3 : Int32) (s0 : Int32) (s1 : Int32) (u : Mem) (Q : Int32 → Prop) : Prop := (R (s1 ||| s0) (x3 + 1))
def w_M_twoNow_b65 (R : Int32 → Int32 → Prop) (X : Int32 → Prop) (x1 : Int32) (x3 : Int32) (s0 : Int32) (u : Mem) (Q : Int32 → Prop) : Prop := (w_M_twoNow_b66 R X x1 x3 0 s0 u Q)
def w_M_twoNow_l12 (X : Int32 → Prop) (x1 : Int32) (u : Mem) (Q : Int32 → Prop) : Nat → Int32 → Int32 → Prop
  | 0, _, _ => False
  | n + 1, x2, x3 => (((u.1 2) ≤ x3 → (X x2)) ∧ (¬ (u.1 2) ≤ x3 → (vp_in ((3 * x3) + 1) 48 ∧ ((¬ (u.2 6 ((3 * x3) + 1).toNatClampNeg) = 1 → (w_M_twoNow_b65 (w_M_twoNow_l12 X x1 u Q n) X x1 x3 x2 u Q)) ∧ ((u.2 6 ((3 * x3) + 1).toNatClampNeg) = 1 → (vp_in (3 * x3) 48 ∧ (w_M_isIn (u.2 6 (3 * x3).toNatClampNeg) x1 (fun r1 => ((r1 = 0 → (w_M_twoNow_b65 (w_M_twoNow_l12 X x1 u Q n) X x1 x3 x2 u Q)) ∧ (¬ r1 = 0 → (vp_in ((3 * x3) + 2) 48 ∧ (w_M_twoNow_b66 (w_M_twoNow_l12 X x1 u Q n) X x1 x3 ((1 : Int32) <<< ((u.2 6 ((3 * x3) + 2).toNatClampNeg) &&& 31)) x2 u Q))))))))))))
def w_M_twoNow_l2 (X : Prop) (u : Mem) (Q : Int32 → Prop) : Nat → Int32 → Prop
  | 0, _ => False
  | n + 1, x1 => ((8 ≤ x1 → (X)) ∧ (¬ 8 ≤ x1 → (∃ n6, w_M_twoNow_l12 (fun z3 => (w_M_ones z3 (fun r4 => ((r4 ≤ 1 → (w_M_twoNow_l2 X u Q n (x1 + 1))) ∧ (¬ r4 ≤ 1 → (Q x1)))))) x1 u Q n6 0 0)))
def w_M_twoNow (u : Mem) (Q : Int32 → Prop) : Prop := (∃ n7, w_M_twoNow_l2 ((Q (-1))) u Q n7 0)
def w_M_two (u : Mem) (Q : Int32 → Mem → Prop) : Prop := (w_M_readsLaws u (fun r1 u2 => (w_M_twoNow u2 (fun r3 => (Q r3 u2)))))
def w_M_second (x1 : Int32) (u : Mem) (Q : Int32 → Mem → Prop) : Prop := (w_M_reads u (fun u2 => (w_M_isSet x1 (fun r3 => ((r3 = 0 → (Q (-2) u2)) ∧ (¬ r3 = 0 → (vp_in x1 256 ∧ (vp_in (u2.2 8 x1.toNatClampNeg) 256 ∧ (Q (u2.2 8 (u2.2 8 x1.toNatClampNeg).toNatClampNeg) u2)))))))))
def w_M_comeIn_l5 (X : Int32 → Prop) (x1 : Int32) (u : Mem) (Q : Int32 → Prop) : Nat → Int32 → Int32 → Prop
  | 0, _, _ => False
  | n + 1, x3, x4 => ((x1 ≤ x4 → (X x3)) ∧ (¬ x1 ≤ x4 → (w_M_next x3 u (fun r1 => (w_M_comeIn_l5 X x1 u Q n r1 (x4 + 1))))))
def w_M_comeIn (x1 : Int32) (x2 : Int32) (u : Mem) (Q : Int32 → Prop) : Prop := (∃ n4, w_M_comeIn_l5 (fun z3 => (vp_in z3 256 ∧ (Q (u.2 8 z3.toNatClampNeg)))) x1 u Q n4 x2 1)
def w_M_told_b10 (x0 : Int32) (Q : Int32 → Prop) : Prop := (Q x0)
def w_M_told (x0 : Int32) (x1 : Int32) (Q : Int32 → Prop) : Prop := ((x0 = (-1) → (w_M_told_b10 x0 Q)) ∧ (¬ x0 = (-1) → ((¬ x1 = 1 → (w_M_ones x0 (fun r1 => (Q r1)))) ∧ (x1 = 1 → (w_M_told_b10 x0 Q)))))
def w_M_touchOf_b82 (R : Int32 → Int32 → Prop) (X : Int32 → Prop) (x1 : Int32) (x2 : Int32) (x3 : Int32) (x5 : Int32) (s0 : Int32) (u : Mem) (Q : Int32 → Prop) : Prop := (R s0 (x5 + 1))
def w_M_touchOf_b80 (R : Int32 → Int32 → Prop) (X : Int32 → Prop) (x1 : Int32) (x2 : Int32) (x3 : Int32) (x4 : Int32) (x5 : Int32) (u : Mem) (Q : Int32 → Prop) : Prop := (w_M_touchOf_b82 R X x1 x2 x3 x5 x4 u Q)
def w_M_touchOf_b75 (R : Int32 → Int32 → Prop) (X : Int32 → Prop) (x1 : Int32) (x2 : Int32) (x3 : Int32) (x5 : Int32) (u : Mem) (Q : Int32 → Prop) : Prop := (w_M_touchOf_b82 R X x1 x2 x3 x5 x5 u Q)
def w_M_touchOf_b49 (R : Int32 → Int32 → Prop) (X : Int32 → Prop) (x1 : Int32) (x2 : Int32) (x3 : Int32) (x4 : Int32) (x5 : Int32) (s0 : Int32) (u : Mem) (Q : Int32 → Prop) : Prop := ((s0 = 0 → (w_M_touchOf_b80 R X x1 x2 x3 x4 x5 u Q)) ∧ (¬ s0 = 0 → ((x4 = (-1) → (w_M_touchOf_b75 R X x1 x2 x3 x5 u Q)) ∧ (¬ x4 = (-1) → (w_M_ones x5 (fun r3 => (w_M_ones x4 (fun r5 => ((r5 ≤ r3 → (w_M_touchOf_b80 R X x1 x2 x3 x4 x5 u Q)) ∧ (¬ r5 ≤ r3 → (w_M_touchOf_b75 R X x1 x2 x3 x5 u Q)))))))))))
def w_M_touchOf_b48 (R : Int32 → Int32 → Prop) (X : Int32 → Prop) (x1 : Int32) (x2 : Int32) (x3 : Int32) (x4 : Int32) (x5 : Int32) (u : Mem) (Q : Int32 → Prop) : Prop := (w_M_touchOf_b49 R X x1 x2 x3 x4 x5 0 u Q)
def w_M_touchOf_l6 (X : Int32 → Prop) (x1 : Int32) (x2 : Int32) (x3 : Int32) (u : Mem) (Q : Int32 → Prop) : Nat → Int32 → Int32 → Prop
  | 0, _, _ => False
  | n + 1, x4, x5 => ((256 ≤ x5 → (X x4)) ∧ (¬ 256 ≤ x5 → (w_M_comeIn x1 ((u.1 4) ^^^ x5) u (fun r1 => ((¬ (x2 &&& (r1 ^^^ (-1))) = 0 → (w_M_touchOf_b48 (w_M_touchOf_l6 X x1 x2 x3 u Q n) X x1 x2 x3 x4 x5 u Q)) ∧ ((x2 &&& (r1 ^^^ (-1))) = 0 → ((¬ (x3 &&& r1) = 0 → (w_M_touchOf_b48 (w_M_touchOf_l6 X x1 x2 x3 u Q n) X x1 x2 x3 x4 x5 u Q)) ∧ ((x3 &&& r1) = 0 → (w_M_touchOf_b49 (w_M_touchOf_l6 X x1 x2 x3 u Q n) X x1 x2 x3 x4 x5 1 u Q)))))))))
def w_M_touchOf (x1 : Int32) (x2 : Int32) (x3 : Int32) (u : Mem) (Q : Int32 → Prop) : Prop := (∃ n8, w_M_touchOf_l6 (fun z7 => (Q z7)) x1 x2 x3 u Q n8 (-1) 0)
def w_M_touch (x1 : Int32) (x2 : Int32) (x3 : Int32) (x4 : Int32) (u : Mem) (Q : Int32 → Mem → Prop) : Prop := (w_M_in x1.toInt64 1 9 (fun r1 => ((r1 = 0 → (Q (-2) u)) ∧ (¬ r1 = 0 → (w_M_isSet x2 (fun r3 => ((r3 = 0 → (Q (-2) u)) ∧ (¬ r3 = 0 → (w_M_isSet x3 (fun r5 => ((r5 = 0 → (Q (-2) u)) ∧ (¬ r5 = 0 → ((¬ (x2 &&& x3) = 0 → (Q (-2) u)) ∧ ((x2 &&& x3) = 0 → (w_M_isTwo x4 (fun r7 => ((¬ r7 = 0 → (w_M_reads u (fun u10 => (w_M_touchOf x1 x2 x3 u10 (fun r11 => (w_M_told r11 x4 (fun r13 => (Q r13 u10)))))))) ∧ (r7 = 0 → (Q (-2) u)))))))))))))))))))
def w_M_isOff_b36 (R : Int32 → Int32 → Prop) (X : Int32 → Prop) (x1 : Int32) (x2 : Int32) (x3 : Int32) (x5 : Int32) (s0 : Int32) (u : Mem) (Q : Int32 → Prop) : Prop := (R s0 (x5 + 1))
def w_M_isOff_b35 (R : Int32 → Int32 → Prop) (X : Int32 → Prop) (x1 : Int32) (x2 : Int32) (x3 : Int32) (x5 : Int32) (u : Mem) (Q : Int32 → Prop) : Prop := (w_M_isOff_b36 R X x1 x2 x3 x5 0 u Q)
def w_M_isOff_l6 (X : Int32 → Prop) (x1 : Int32) (x2 : Int32) (x3 : Int32) (u : Mem) (Q : Int32 → Prop) : Nat → Int32 → Int32 → Prop
  | 0, _, _ => False
  | n + 1, x4, x5 => ((x1 < x5 → (X x4)) ∧ (¬ x1 < x5 → ((x4 = 0 → (w_M_isOff_b35 (w_M_isOff_l6 X x1 x2 x3 u Q n) X x1 x2 x3 x5 u Q)) ∧ (¬ x4 = 0 → (w_M_comeIn x5 x3 u (fun r1 => (w_M_isIn r1 x2 (fun r3 => ((¬ r3 = 0 → (w_M_isOff_b35 (w_M_isOff_l6 X x1 x2 x3 u Q n) X x1 x2 x3 x5 u Q)) ∧ (r3 = 0 → (w_M_isOff_b36 (w_M_isOff_l6 X x1 x2 x3 u Q n) X x1 x2 x3 x5 1 u Q)))))))))))
def w_M_isOff (x1 : Int32) (x2 : Int32) (x3 : Int32) (u : Mem) (Q : Int32 → Prop) : Prop := (∃ n6, w_M_isOff_l6 (fun z5 => (bz z5 ∧ (Q z5))) x1 x2 x3 u Q n6 1 1)
def w_M_keepOffOf_b78 (R : Int32 → Int32 → Prop) (X : Int32 → Prop) (x1 : Int32) (x2 : Int32) (x4 : Int32) (s0 : Int32) (u : Mem) (Q : Int32 → Prop) : Prop := (R s0 (x4 + 1))
def w_M_keepOffOf_b77 (R : Int32 → Int32 → Prop) (X : Int32 → Prop) (x1 : Int32) (x2 : Int32) (x3 : Int32) (x4 : Int32) (u : Mem) (Q : Int32 → Prop) : Prop := (w_M_keepOffOf_b78 R X x1 x2 x4 x3 u Q)
def w_M_keepOffOf_b47 (R : Int32 → Int32 → Prop) (X : Int32 → Prop) (x1 : Int32) (x2 : Int32) (x3 : Int32) (x4 : Int32) (s0 : Int32) (u : Mem) (Q : Int32 → Prop) : Prop := ((s0 = 0 → (w_M_keepOffOf_b77 R X x1 x2 x3 x4 u Q)) ∧ (¬ s0 = 0 → (w_M_isOff x1 x2 ((u.1 4) &&& (x4 ^^^ (-1))) u (fun r1 => ((r1 = 0 → (w_M_keepOffOf_b77 R X x1 x2 x3 x4 u Q)) ∧ (¬ r1 = 0 → (w_M_keepOffOf_b78 R X x1 x2 x4 x4 u Q)))))))
def w_M_keepOffOf_b46 (R : Int32 → Int32 → Prop) (X : Int32 → Prop) (x1 : Int32) (x2 : Int32) (x3 : Int32) (x4 : Int32) (u : Mem) (Q : Int32 → Prop) : Prop := (w_M_keepOffOf_b47 R X x1 x2 x3 x4 0 u Q)
def w_M_keepOffOf_b42 (R : Int32 → Int32 → Prop) (X : Int32 → Prop) (x1 : Int32) (x2 : Int32) (x3 : Int32) (x4 : Int32) (u : Mem) (Q : Int32 → Prop) : Prop := (w_M_keepOffOf_b47 R X x1 x2 x3 x4 1 u Q)
def w_M_keepOffOf_l5 (X : Int32 → Prop) (x1 : Int32) (x2 : Int32) (u : Mem) (Q : Int32 → Prop) : Nat → Int32 → Int32 → Prop
  | 0, _, _ => False
  | n + 1, x3, x4 => ((256 ≤ x4 → (X x3)) ∧ (¬ 256 ≤ x4 → ((¬ (x4 &&& ((u.1 4) ^^^ (-1))) = 0 → (w_M_keepOffOf_b46 (w_M_keepOffOf_l5 X x1 x2 u Q n) X x1 x2 x3 x4 u Q)) ∧ ((x4 &&& ((u.1 4) ^^^ (-1))) = 0 → ((x3 = (-1) → (w_M_keepOffOf_b42 (w_M_keepOffOf_l5 X x1 x2 u Q n) X x1 x2 x3 x4 u Q)) ∧ (¬ x3 = (-1) → (w_M_ones x4 (fun r3 => (w_M_ones x3 (fun r5 => ((r5 ≤ r3 → (w_M_keepOffOf_b46 (w_M_keepOffOf_l5 X x1 x2 u Q n) X x1 x2 x3 x4 u Q)) ∧ (¬ r5 ≤ r3 → (w_M_keepOffOf_b42 (w_M_keepOffOf_l5 X x1 x2 u Q n) X x1 x2 x3 x4 u Q)))))))))))))
def w_M_keepOffOf (x1 : Int32) (x2 : Int32) (u : Mem) (Q : Int32 → Prop) : Prop := (∃ n8, w_M_keepOffOf_l5 (fun z7 => (Q z7)) x1 x2 u Q n8 (-1) 0)
def w_M_keepOff (x1 : Int32) (x2 : Int32) (x3 : Int32) (u : Mem) (Q : Int32 → Mem → Prop) : Prop := (w_M_in x1.toInt64 1 9 (fun r1 => ((r1 = 0 → (Q (-2) u)) ∧ (¬ r1 = 0 → (w_M_isThing x2 (fun r3 => ((r3 = 0 → (Q (-2) u)) ∧ (¬ r3 = 0 → (w_M_isTwo x3 (fun r5 => ((¬ r5 = 0 → (w_M_reads u (fun u8 => (w_M_keepOffOf x1 x2 u8 (fun r9 => (w_M_told r9 x3 (fun r11 => (Q r11 u8)))))))) ∧ (r5 = 0 → (Q (-2) u)))))))))))))
def w_M_barsOf_b43 (R : Int32 → Int32 → Prop) (X : Int32 → Prop) (x1 : Int32) (x3 : Int32) (s0 : Int32) (s1 : Int32) (u : Mem) (Q : Int32 → Prop) : Prop := (R (s1 + s0) (x3 + 1))
def w_M_barsOf_b42 (R : Int32 → Int32 → Prop) (X : Int32 → Prop) (x1 : Int32) (x3 : Int32) (s0 : Int32) (u : Mem) (Q : Int32 → Prop) : Prop := (w_M_barsOf_b43 R X x1 x3 0 s0 u Q)
def w_M_barsOf_l4 (X : Int32 → Prop) (x1 : Int32) (u : Mem) (Q : Int32 → Prop) : Nat → Int32 → Int32 → Prop
  | 0, _, _ => False
  | n + 1, x2, x3 => ((256 ≤ x3 → (X x2)) ∧ (¬ 256 ≤ x3 → (w_M_heldBy x3 1 u (fun r1 => (w_M_isIn r1 x1 (fun r3 => ((r3 = 0 → (w_M_barsOf_b42 (w_M_barsOf_l4 X x1 u Q n) X x1 x3 x2 u Q)) ∧ (¬ r3 = 0 → (vp_in x3 256 ∧ (w_M_isIn (u.2 8 x3.toNatClampNeg) x1 (fun r5 => ((¬ r5 = 0 → (w_M_barsOf_b42 (w_M_barsOf_l4 X x1 u Q n) X x1 x3 x2 u Q)) ∧ (r5 = 0 → (w_M_barsOf_b43 (w_M_barsOf_l4 X x1 u Q n) X x1 x3 1 x2 u Q))))))))))))))
def w_M_barsOf (x1 : Int32) (u : Mem) (Q : Int32 → Prop) : Prop := (∃ n8, w_M_barsOf_l4 (fun z7 => (Q z7)) x1 u Q n8 0 0)
def w_M_bars (x1 : Int32) (u : Mem) (Q : Int32 → Mem → Prop) : Prop := (w_M_reads u (fun u2 => (w_M_isThing x1 (fun r3 => ((r3 = 0 → (Q (-2) u2)) ∧ (¬ r3 = 0 → (w_M_barsOf x1 u2 (fun r5 => (Q r5 u2)))))))))
def w_M_findWins_b142 (R : Int32 → Int32 → Prop) (X : Int32 → Prop) (x1 : Int32) (x2 : Int32) (x3 : Int32) (x4 : Int32) (x5 : Int32) (x7 : Int32) (s0 : Int32) (u : Mem) (Q : Mem → Prop) : Prop := (R s0 (x7 + 1))
def w_M_findWins_b141 (R : Int32 → Int32 → Prop) (X : Int32 → Prop) (x1 : Int32) (x2 : Int32) (x3 : Int32) (x4 : Int32) (x5 : Int32) (x7 : Int32) (u : Mem) (Q : Mem → Prop) : Prop := (w_M_findWins_b142 R X x1 x2 x3 x4 x5 x7 0 u Q)
def w_M_findWins_b119 (R : Int32 → Int32 → Prop) (X : Int32 → Prop) (x1 : Int32) (x2 : Int32) (x3 : Int32) (x4 : Int32) (x5 : Int32) (x7 : Int32) (u : Mem) (Q : Mem → Prop) : Prop := (w_M_findWins_b142 R X x1 x2 x3 x4 x5 x7 1 u Q)
def w_M_findWins_l71 (X : Int32 → Prop) (x1 : Int32) (x2 : Int32) (x3 : Int32) (x4 : Int32) (x5 : Int32) (u : Mem) (Q : Mem → Prop) : Nat → Int32 → Int32 → Prop
  | 0, _, _ => False
  | n + 1, x6, x7 => ((8 ≤ x7 → (X x6)) ∧ (¬ 8 ≤ x7 → ((x3 ≤ 0 → (X x6)) ∧ (¬ x3 ≤ 0 → (vp_in ((256 * (x3 - 1)) + (x5 ^^^ ((1 : Int32) <<< (x7 &&& 31)))) 1280 ∧ (∀ y1, y1 = (u.2 13 ((256 * (x3 - 1)) + (x5 ^^^ ((1 : Int32) <<< (x7 &&& 31)))).toNatClampNeg) → ((x4 = 0 → ((x6 = 0 → (w_M_findWins_b141 (w_M_findWins_l71 X x1 x2 x3 x4 x5 u Q n) X x1 x2 x3 x4 x5 x7 u Q)) ∧ (¬ x6 = 0 → ((y1 = 0 → (w_M_findWins_b141 (w_M_findWins_l71 X x1 x2 x3 x4 x5 u Q n) X x1 x2 x3 x4 x5 x7 u Q)) ∧ (¬ y1 = 0 → (w_M_findWins_b142 (w_M_findWins_l71 X x1 x2 x3 x4 x5 u Q n) X x1 x2 x3 x4 x5 x7 1 u Q)))))) ∧ (¬ x4 = 0 → ((¬ x6 = 0 → (w_M_findWins_b119 (w_M_findWins_l71 X x1 x2 x3 x4 x5 u Q n) X x1 x2 x3 x4 x5 x7 u Q)) ∧ (x6 = 0 → ((y1 = 0 → (w_M_findWins_b142 (w_M_findWins_l71 X x1 x2 x3 x4 x5 u Q n) X x1 x2 x3 x4 x5 x7 0 u Q)) ∧ (¬ y1 = 0 → (w_M_findWins_b119 (w_M_findWins_l71 X x1 x2 x3 x4 x5 u Q n) X x1 x2 x3 x4 x5 x7 u Q)))))))))))))
def w_M_findWins_b150 (R : Int32 → Mem → Prop) (X : Mem → Prop) (x1 : Int32) (x2 : Int32) (x3 : Int32) (x4 : Int32) (x5 : Int32) (x6 : Int32) (u : Mem) (Q : Mem → Prop) : Prop := (vp_in ((256 * x3) + x5) 1280 ∧ (R (x5 + 1) (sA u 13 ((256 * x3) + x5).toNatClampNeg (vp_nar .boolean x6))))
def w_M_findWins_b66 (R : Int32 → Mem → Prop) (X : Mem → Prop) (x1 : Int32) (x2 : Int32) (x3 : Int32) (x4 : Int32) (x5 : Int32) (s0 : Int32) (u : Mem) (Q : Mem → Prop) : Prop := (∃ n3, w_M_findWins_l71 (fun z2 => (w_M_findWins_b150 R X x1 x2 x3 x4 x5 z2 u Q)) x1 x2 x3 x4 x5 u Q n3 s0 0)
def w_M_findWins_l25 (X : Mem → Prop) (x1 : Int32) (x2 : Int32) (x3 : Int32) (x4 : Int32) (Q : Mem → Prop) : Nat → Int32 → Mem → Prop
  | 0, _, _ => False
  | n + 1, x5, u => ((256 ≤ x5 → (X u)) ∧ (¬ 256 ≤ x5 → ((¬ x3 = 0 → (vp_in ((256 * (x3 - 1)) + x5) 1280 ∧ (w_M_findWins_b66 (w_M_findWins_l25 X x1 x2 x3 x4 Q n) X x1 x2 x3 x4 x5 (u.2 13 ((256 * (x3 - 1)) + x5).toNatClampNeg) u Q))) ∧ (x3 = 0 → (vp_in x5 256 ∧ (w_M_isIn (u.2 8 x5.toNatClampNeg) x2 (fun r4 => (w_M_findWins_b66 (w_M_findWins_l25 X x1 x2 x3 x4 Q n) X x1 x2 x3 x4 x5 r4 u Q))))))))
def w_M_findWins_b20 (R : Int32 → Mem → Prop) (X : Mem → Prop) (x1 : Int32) (x2 : Int32) (x3 : Int32) (s0 : Int32) (u : Mem) (Q : Mem → Prop) : Prop := (∃ n7, w_M_findWins_l25 (fun u6 => (R (x3 + 1) u6)) x1 x2 x3 s0 Q n7 0 u)
def w_M_findWins_l2 (X : Mem → Prop) (x1 : Int32) (x2 : Int32) (Q : Mem → Prop) : Nat → Int32 → Mem → Prop
  | 0, _, _ => False
  | n + 1, x3, u => ((x1 < x3 → (X u)) ∧ (¬ x1 < x3 → ((¬ ((x1 - x3) - (x1 - x3) / 2 * 2) = 0 → (w_M_findWins_b20 (w_M_findWins_l2 X x1 x2 Q n) X x1 x2 x3 0 u Q)) ∧ (((x1 - x3) - (x1 - x3) / 2 * 2) = 0 → (w_M_findWins_b20 (w_M_findWins_l2 X x1 x2 Q n) X x1 x2 x3 1 u Q)))))
def w_M_findWins (x1 : Int32) (x2 : Int32) (u : Mem) (Q : Mem → Prop) : Prop := (∃ n9, w_M_findWins_l2 (fun u8 => (Q u8)) x1 x2 Q n9 0 u)
def w_M_playOf_l72 (X : Int32 → Prop) (x1 : Int32) (u : Mem) (Q : Int32 → Mem → Prop) : Nat → Int32 → Prop
  | 0, _ => False
  | n + 1, x5 => (vp_in ((256 * (x1 - 1)) + ((u.1 4) ^^^ ((1 : Int32) <<< (x5 &&& 31)))) 1280 ∧ (∀ y3, y3 = (u.2 13 ((256 * (x1 - 1)) + ((u.1 4) ^^^ ((1 : Int32) <<< (x5 &&& 31)))).toNatClampNeg) → ((¬ y3 = 0 → (X x5)) ∧ (y3 = 0 → (w_M_playOf_l72 X x1 u Q n (x5 + 1))))))
def w_M_playOf (x1 : Int32) (x2 : Int32) (x3 : Int32) (u : Mem) (Q : Int32 → Mem → Prop) : Prop := (w_M_findWins x1 x2 u (fun u2 => (vp_in ((256 * x1) + (u2.1 4)) 1280 ∧ ((¬ x3 = 0 → (((u2.2 13 ((256 * x1) + (u2.1 4)).toNatClampNeg) = 0 → (Q (-1) u2)) ∧ (¬ (u2.2 13 ((256 * x1) + (u2.1 4)).toNatClampNeg) = 0 → ((x1 = 0 → (Q (-1) u2)) ∧ (¬ x1 = 0 → (vp_in ((256 * (x1 - 1)) + (u2.1 4)) 1280 ∧ (((u2.2 13 ((256 * (x1 - 1)) + (u2.1 4)).toNatClampNeg) = 0 → (∃ n5, w_M_playOf_l72 (fun z4 => (Q z4 u2)) x1 u2 Q n5 0)) ∧ (¬ (u2.2 13 ((256 * (x1 - 1)) + (u2.1 4)).toNatClampNeg) = 0 → (Q (-1) u2))))))))) ∧ (x3 = 0 → (((u2.2 13 ((256 * x1) + (u2.1 4)).toNatClampNeg) = 0 → (Q 0 u2)) ∧ (¬ (u2.2 13 ((256 * x1) + (u2.1 4)).toNatClampNeg) = 0 → (Q 1 u2))))))))
def w_M_play (x1 : Int32) (x2 : Int32) (x3 : Int32) (u : Mem) (Q : Int32 → Mem → Prop) : Prop := (w_M_reads u (fun u2 => (w_M_in x1.toInt64 0 4 (fun r3 => ((r3 = 0 → (Q (-2) u2)) ∧ (¬ r3 = 0 → (w_M_isThing x2 (fun r5 => ((r5 = 0 → (Q (-2) u2)) ∧ (¬ r5 = 0 → (w_M_isTwo x3 (fun r7 => ((r7 = 0 → (Q (-2) u2)) ∧ (¬ r7 = 0 → (w_M_playOf x1 x2 x3 u2 (fun r9 u10 => (Q r9 u10)))))))))))))))))
def w_M_steadyOf_l4 (X : Int32 → Prop) (x1 : Int32) (u : Mem) (Q : Int32 → Prop) : Nat → Int32 → Int32 → Prop
  | 0, _, _ => False
  | n + 1, x2, x3 => ((256 ≤ x3 → (X x2)) ∧ (¬ 256 ≤ x3 → (w_M_next x3 u (fun r1 => ((¬ r1 = x3 → (w_M_steadyOf_l4 X x1 u Q n x2 (x3 + 1))) ∧ (r1 = x3 → ((¬ x2 = x1 → (w_M_steadyOf_l4 X x1 u Q n (x2 + 1) (x3 + 1))) ∧ (x2 = x1 → (Q x3)))))))))
def w_M_steadyOf (x1 : Int32) (u : Mem) (Q : Int32 → Prop) : Prop := (∃ n4, w_M_steadyOf_l4 (fun z3 => ((¬ x1 = (-1) → (Q (-1))) ∧ (x1 = (-1) → (Q z3)))) x1 u Q n4 0 0)
def w_M_steady (x1 : Int32) (u : Mem) (Q : Int32 → Mem → Prop) : Prop := (w_M_reads u (fun u2 => (w_M_in x1.toInt64 (-1) 255 (fun r3 => ((r3 = 0 → (Q (-2) u2)) ∧ (¬ r3 = 0 → (w_M_steadyOf x1 u2 (fun r5 => (Q r5 u2)))))))))
def w_M_roundOf_l2 (X : Mem → Prop) (x1 : Int32) (x2 : Int32) (Q : Int32 → Mem → Prop) : Nat → Int32 → Mem → Prop
  | 0, _, _ => False
  | n + 1, x3, u => ((256 ≤ x3 → (X u)) ∧ (¬ 256 ≤ x3 → (vp_in x3 256 ∧ (w_M_roundOf_l2 X x1 x2 Q n (x3 + 1) (sA u 14 x3.toNatClampNeg (-1))))))
def w_M_roundOf_l27 (X : Int32 → Int32 → Mem → Prop) (x2 : Int32) (Q : Int32 → Mem → Prop) : Nat → Int32 → Int32 → Mem → Prop
  | 0, _, _, _ => False
  | n + 1, x3, x4, u => (vp_in x3 256 ∧ ((¬ (u.2 14 x3.toNatClampNeg) = (-1) → (X x3 x4 u)) ∧ ((u.2 14 x3.toNatClampNeg) = (-1) → (vp_in x3 256 ∧ (w_M_next x3 (sA u 14 x3.toNatClampNeg x4) (fun r2 => (w_M_roundOf_l27 X x2 Q n r2 (x4 + 1) (sA u 14 x3.toNatClampNeg x4))))))))
def w_M_roundOf (x1 : Int32) (x2 : Int32) (u : Mem) (Q : Int32 → Mem → Prop) : Prop := (∃ n8, w_M_roundOf_l2 (fun u1 => (∃ n7, w_M_roundOf_l27 (fun z4 z5 u6 => ((¬ x2 = 0 → (vp_in z4 256 ∧ (Q (z5 - (u6.2 14 z4.toNatClampNeg)) u6))) ∧ (x2 = 0 → (Q z5 u6)))) x2 Q n7 x1 0 u1)) x1 x2 Q n8 0 u)
def w_M_round (x1 : Int32) (x2 : Int32) (u : Mem) (Q : Int32 → Mem → Prop) : Prop := (w_M_reads u (fun u2 => (w_M_isSet x1 (fun r3 => ((r3 = 0 → (Q (-2) u2)) ∧ (¬ r3 = 0 → (w_M_isTwo x2 (fun r5 => ((r5 = 0 → (Q (-2) u2)) ∧ (¬ r5 = 0 → (w_M_roundOf x1 x2 u2 (fun r7 u8 => (Q r7 u8)))))))))))))
def w_M_seen (x1 : Int32) (x2 : Int32) (u : Mem) (Q : Int32 → Mem → Prop) : Prop := (w_M_isSet x1 (fun r1 => ((r1 = 0 → (Q (-2) u)) ∧ (¬ r1 = 0 → (w_M_isSet x2 (fun r3 => ((¬ r3 = 0 → ((¬ (u.1 6) = 8 → (vp_in (2 * (u.1 6)) 16 ∧ (vp_in ((2 * (u.1 6)) + 1) 16 ∧ (Q ((u.1 6) + 1) (sS (sA (sA u 15 (2 * (u.1 6)).toNatClampNeg x1) 15 ((2 * (u.1 6)) + 1).toNatClampNeg x2) 6 ((u.1 6) + 1)))))) ∧ ((u.1 6) = 8 → (Q (-4) u)))) ∧ (r3 = 0 → (Q (-2) u)))))))))
def w_M_forget (u : Mem) (Q : Int32 → Mem → Prop) : Prop := (Q (u.1 6) (sS u 6 0))
def w_M_read_b98 (R : Int32 → Int32 → Mem → Prop) (X : Int32 → Mem → Prop) (x1 : Int32) (x3 : Int32) (s0 : Int32) (s1 : Int32) (u : Mem) (Q : Int32 → Mem → Prop) : Prop := (R (s1 + s0) x3 u)
def w_M_read_b87 (R : Int32 → Int32 → Mem → Prop) (X : Int32 → Mem → Prop) (x1 : Int32) (x2 : Int32) (s0 : Int32) (u : Mem) (Q : Int32 → Mem → Prop) : Prop := ((s0 = 0 → (w_M_read_b98 R X x1 s0 0 x2 u Q)) ∧ (¬ s0 = 0 → (w_M_read_b98 R X x1 s0 1 x2 u Q)))
def w_M_read_l29 (X : Int32 → Mem → Prop) (x1 : Int32) (Q : Int32 → Mem → Prop) : Nat → Int32 → Int32 → Mem → Prop
  | 0, _, _, _ => False
  | n + 1, x2, x3, u => ((x3 = 0 → (X x2 u)) ∧ (¬ x3 = 0 → (vp_in x1 4 ∧ (((u.2 1 x1.toNatClampNeg) < ((2 * x2) + 2) → (X x2 u)) ∧ (¬ (u.2 1 x1.toNatClampNeg) < ((2 * x2) + 2) → (vp_in ((60 * x1) + (2 * x2)) 240 ∧ (vp_in (((60 * x1) + (2 * x2)) + 1) 240 ∧ (w_M_seen (u.2 2 ((60 * x1) + (2 * x2)).toNatClampNeg) (u.2 2 (((60 * x1) + (2 * x2)) + 1).toNatClampNeg) u (fun r3 u4 => ((r3 < 0 → (w_M_read_b87 (w_M_read_l29 X x1 Q n) X x1 x2 0 u4 Q)) ∧ (¬ r3 < 0 → (w_M_read_b87 (w_M_read_l29 X x1 Q n) X x1 x2 1 u4 Q))))))))))))
def w_M_read (x1 : Int32) (u : Mem) (Q : Int32 → Mem → Prop) : Prop := (w_M_isSheet x1 (fun r1 => ((¬ r1 = 0 → (vp_in x1 4 ∧ ((0 ≤ (u.2 0 x1.toNatClampNeg) → (∃ n7, w_M_read_l29 (fun z5 u6 => (Q z5 u6)) x1 Q n7 0 1 u)) ∧ (¬ 0 ≤ (u.2 0 x1.toNatClampNeg) → (w_M_met 1 u (fun r8 u9 => (Q r8 u9))))))) ∧ (r1 = 0 → (Q (-2) u)))))
def w_M_standsFor_b60 (R : Int32 → Int32 → Prop) (X : Int32 → Prop) (x1 : Int32) (x2 : Int32) (x4 : Int32) (s0 : Int32) (u : Mem) (Q : Int32 → Prop) : Prop := (R s0 (x4 + 1))
def w_M_standsFor_b59 (R : Int32 → Int32 → Prop) (X : Int32 → Prop) (x1 : Int32) (x2 : Int32) (x4 : Int32) (u : Mem) (Q : Int32 → Prop) : Prop := (w_M_standsFor_b60 R X x1 x2 x4 0 u Q)
def w_M_standsFor_b37 (R : Int32 → Int32 → Prop) (X : Int32 → Prop) (x1 : Int32) (x2 : Int32) (x4 : Int32) (s0 : Int32) (u : Mem) (Q : Int32 → Prop) : Prop := (vp_in ((2 * x4) + 1) 16 ∧ (w_M_isIn (u.2 15 ((2 * x4) + 1).toNatClampNeg) x2 (fun r1 => ((¬ s0 = r1 → (w_M_standsFor_b59 R X x1 x2 x4 u Q)) ∧ (s0 = r1 → (w_M_standsFor_b60 R X x1 x2 x4 1 u Q))))))
def w_M_standsFor_l5 (X : Int32 → Prop) (x1 : Int32) (x2 : Int32) (u : Mem) (Q : Int32 → Prop) : Nat → Int32 → Int32 → Prop
  | 0, _, _ => False
  | n + 1, x3, x4 => (((u.1 6) ≤ x4 → (X x3)) ∧ (¬ (u.1 6) ≤ x4 → ((x3 = 0 → (w_M_standsFor_b59 (w_M_standsFor_l5 X x1 x2 u Q n) X x1 x2 x4 u Q)) ∧ (¬ x3 = 0 → (vp_in (2 * x4) 16 ∧ (((x1 &&& (u.2 15 (2 * x4).toNatClampNeg)) = 0 → (w_M_standsFor_b37 (w_M_standsFor_l5 X x1 x2 u Q n) X x1 x2 x4 0 u Q)) ∧ (¬ (x1 &&& (u.2 15 (2 * x4).toNatClampNeg)) = 0 → (w_M_standsFor_b37 (w_M_standsFor_l5 X x1 x2 u Q n) X x1 x2 x4 1 u Q))))))))
def w_M_standsFor (x1 : Int32) (x2 : Int32) (u : Mem) (Q : Int32 → Prop) : Prop := (∃ n4, w_M_standsFor_l5 (fun z3 => (bz z3 ∧ (Q z3))) x1 x2 u Q n4 1 0)
def w_M_standsOf_b55 (R : Int32 → Int32 → Int32 → Prop) (X : Int32 → Int32 → Prop) (x1 : Int32) (x2 : Int32) (x3 : Int32) (x5 : Int32) (s0 : Int32) (u : Mem) (Q : Int32 → Prop) : Prop := (R x3 s0 (x5 + 1))
def w_M_standsOf_b48 (R : Int32 → Int32 → Int32 → Prop) (X : Int32 → Int32 → Prop) (x1 : Int32) (x2 : Int32) (x3 : Int32) (x5 : Int32) (u : Mem) (Q : Int32 → Prop) : Prop := (w_M_standsOf_b55 R X x1 x2 x3 x5 x5 u Q)
def w_M_standsOf_l8 (X : Int32 → Int32 → Prop) (x1 : Int32) (x2 : Int32) (u : Mem) (Q : Int32 → Prop) : Nat → Int32 → Int32 → Int32 → Prop
  | 0, _, _, _ => False
  | n + 1, x3, x4, x5 => ((256 ≤ x5 → (X x3 x4)) ∧ (¬ 256 ≤ x5 → (w_M_standsFor x5 x1 u (fun r1 => ((r1 = 0 → (w_M_standsOf_l8 X x1 x2 u Q n x3 x4 (x5 + 1))) ∧ (¬ r1 = 0 → ((x4 = (-1) → (w_M_standsOf_b48 (w_M_standsOf_l8 X x1 x2 u Q n) X x1 x2 (x3 + 1) x5 u Q)) ∧ (¬ x4 = (-1) → (w_M_ones x5 (fun r3 => (w_M_ones x4 (fun r5 => ((r5 ≤ r3 → (w_M_standsOf_b55 (w_M_standsOf_l8 X x1 x2 u Q n) X x1 x2 (x3 + 1) x5 x4 u Q)) ∧ (¬ r5 ≤ r3 → (w_M_standsOf_b48 (w_M_standsOf_l8 X x1 x2 u Q n) X x1 x2 (x3 + 1) x5 u Q)))))))))))))))
def w_M_standsOf (x1 : Int32) (x2 : Int32) (u : Mem) (Q : Int32 → Prop) : Prop := (∃ n9, w_M_standsOf_l8 (fun z7 z8 => ((¬ x2 = 0 → (Q z8)) ∧ (x2 = 0 → (Q z7)))) x1 x2 u Q n9 0 (-1) 0)
def w_M_stands (x1 : Int32) (x2 : Int32) (u : Mem) (Q : Int32 → Prop) : Prop := (w_M_isThing x1 (fun r1 => ((r1 = 0 → (Q (-2))) ∧ (¬ r1 = 0 → (w_M_isTwo x2 (fun r3 => ((r3 = 0 → (Q (-2))) ∧ (¬ r3 = 0 → (w_M_standsOf x1 x2 u (fun r5 => (Q r5)))))))))))
def w_M_watchOf_b67 (R : Int32 → Int32 → Prop) (X : Int32 → Prop) (x1 : Int32) (x2 : Int32) (x3 : Int32) (x4 : Int32) (x5 : Int32) (x7 : Int32) (s0 : Int32) (s1 : Int32) (u : Mem) (Q : Int32 → Prop) : Prop := (R (s1 + s0) (x7 + 1))
def w_M_watchOf_b66 (R : Int32 → Int32 → Prop) (X : Int32 → Prop) (x1 : Int32) (x2 : Int32) (x3 : Int32) (x4 : Int32) (x5 : Int32) (x7 : Int32) (s0 : Int32) (u : Mem) (Q : Int32 → Prop) : Prop := (w_M_watchOf_b67 R X x1 x2 x3 x4 x5 x7 0 s0 u Q)
def w_M_watchOf_l32 (X : Int32 → Prop) (x1 : Int32) (x2 : Int32) (x3 : Int32) (x4 : Int32) (x5 : Int32) (u : Mem) (Q : Int32 → Prop) : Nat → Int32 → Int32 → Prop
  | 0, _, _ => False
  | n + 1, x6, x7 => ((256 ≤ x7 → (X x6)) ∧ (¬ 256 ≤ x7 → (w_M_isIn x7 x5 (fun r3 => ((r3 = 0 → (w_M_watchOf_b66 (w_M_watchOf_l32 X x1 x2 x3 x4 x5 u Q n) X x1 x2 x3 x4 x5 x7 x6 u Q)) ∧ (¬ r3 = 0 → (w_M_standsFor x7 x1 u (fun r5 => ((r5 = 0 → (w_M_watchOf_b66 (w_M_watchOf_l32 X x1 x2 x3 x4 x5 u Q n) X x1 x2 x3 x4 x5 x7 x6 u Q)) ∧ (¬ r5 = 0 → (w_M_watchOf_b67 (w_M_watchOf_l32 X x1 x2 x3 x4 x5 u Q n) X x1 x2 x3 x4 x5 x7 1 x6 u Q)))))))))))
def w_M_watchOf_b144 (R : Int32 → Int32 → Int32 → Prop) (X : Int32 → Prop) (x1 : Int32) (x2 : Int32) (x3 : Int32) (x5 : Int32) (s0 : Int32) (u : Mem) (Q : Int32 → Prop) : Prop := (R x3 s0 (x5 + 1))
def w_M_watchOf_b131 (R : Int32 → Int32 → Int32 → Prop) (X : Int32 → Prop) (x1 : Int32) (x2 : Int32) (x4 : Int32) (x5 : Int32) (x7 : Int32) (x8 : Int32) (s0 : Int32) (u : Mem) (Q : Int32 → Prop) : Prop := ((x8 = 0 → (w_M_watchOf_b144 R X x1 x2 s0 x5 x4 u Q)) ∧ (¬ x8 = 0 → (w_M_watchOf_b144 R X x1 x2 s0 x5 x7 u Q)))
def w_M_watchOf_b118 (R : Int32 → Int32 → Int32 → Prop) (X : Int32 → Prop) (x1 : Int32) (x2 : Int32) (x3 : Int32) (x4 : Int32) (x5 : Int32) (x7 : Int32) (s0 : Int32) (u : Mem) (Q : Int32 → Prop) : Prop := ((s0 = 0 → (w_M_watchOf_b131 R X x1 x2 x4 x5 x7 s0 x3 u Q)) ∧ (¬ s0 = 0 → (w_M_watchOf_b131 R X x1 x2 x4 x5 x7 s0 x5 u Q)))
def w_M_watchOf_b113 (R : Int32 → Int32 → Int32 → Prop) (X : Int32 → Prop) (x1 : Int32) (x2 : Int32) (x3 : Int32) (x4 : Int32) (x5 : Int32) (x7 : Int32) (u : Mem) (Q : Int32 → Prop) : Prop := (w_M_watchOf_b118 R X x1 x2 x3 x4 x5 x7 1 u Q)
def w_M_watchOf_b99 (R : Int32 → Int32 → Int32 → Prop) (X : Int32 → Prop) (x1 : Int32) (x2 : Int32) (x3 : Int32) (x4 : Int32) (x5 : Int32) (s0 : Int32) (u : Mem) (Q : Int32 → Prop) : Prop := ((x3 = (-1) → (w_M_watchOf_b113 R X x1 x2 x3 x4 x5 s0 u Q)) ∧ (¬ x3 = (-1) → ((x4 ≤ s0 → (w_M_watchOf_b118 R X x1 x2 x3 x4 x5 s0 0 u Q)) ∧ (¬ x4 ≤ s0 → (w_M_watchOf_b113 R X x1 x2 x3 x4 x5 s0 u Q)))))
def w_M_watchOf_l15 (X : Int32 → Prop) (x1 : Int32) (x2 : Int32) (u : Mem) (Q : Int32 → Prop) : Nat → Int32 → Int32 → Int32 → Prop
  | 0, _, _, _ => False
  | n + 1, x3, x4, x5 => ((8 ≤ x5 → (X x3)) ∧ (¬ 8 ≤ x5 → ((x2 ≤ 0 → (X x3)) ∧ (¬ x2 ≤ 0 → (∃ n8, w_M_watchOf_l32 (fun z7 => (((2 * z7) ≤ x2 → (w_M_watchOf_b99 (w_M_watchOf_l15 X x1 x2 u Q n) X x1 x2 x3 x4 x5 (x2 - (2 * z7)) u Q)) ∧ (¬ (2 * z7) ≤ x2 → (w_M_watchOf_b99 (w_M_watchOf_l15 X x1 x2 u Q n) X x1 x2 x3 x4 x5 ((2 * z7) - x2) u Q)))) x1 x2 x3 x4 x5 u Q n8 0 0)))))
def w_M_watchOf (x1 : Int32) (u : Mem) (Q : Int32 → Prop) : Prop := (w_M_standsOf x1 0 u (fun r1 => (∃ n10, w_M_watchOf_l15 (fun z9 => (Q z9)) x1 r1 u Q n10 (-1) 0 0)))
def w_M_watch (x1 : Int32) (u : Mem) (Q : Int32 → Prop) : Prop := (w_M_isThing x1 (fun r1 => ((r1 = 0 → (Q (-2))) ∧ (¬ r1 = 0 → (w_M_watchOf x1 u (fun r3 => (Q r3)))))))
def w_M_movedOf_b35 (R : Int32 → Int32 → Prop) (X : Int32 → Prop) (x1 : Int32) (x3 : Int32) (s0 : Int32) (s1 : Int32) (u : Mem) (Q : Int32 → Prop) : Prop := (R (s1 ||| s0) (x3 + 1))
def w_M_movedOf_l4 (X : Int32 → Prop) (x1 : Int32) (u : Mem) (Q : Int32 → Prop) : Nat → Int32 → Int32 → Prop
  | 0, _, _ => False
  | n + 1, x2, x3 => ((8 ≤ x3 → (X x2)) ∧ (¬ 8 ≤ x3 → (vp_in ((u.1 4) ^^^ ((1 : Int32) <<< (x3 &&& 31))) 256 ∧ ((¬ (u.2 8 ((u.1 4) ^^^ ((1 : Int32) <<< (x3 &&& 31))).toNatClampNeg) = x1 → (w_M_movedOf_b35 (w_M_movedOf_l4 X x1 u Q n) X x1 x3 0 x2 u Q)) ∧ ((u.2 8 ((u.1 4) ^^^ ((1 : Int32) <<< (x3 &&& 31))).toNatClampNeg) = x1 → (w_M_movedOf_b35 (w_M_movedOf_l4 X x1 u Q n) X x1 x3 ((1 : Int32) <<< (x3 &&& 31)) x2 u Q))))))
def w_M_movedOf (x1 : Int32) (u : Mem) (Q : Int32 → Prop) : Prop := (∃ n2, w_M_movedOf_l4 (fun z1 => (Q z1)) x1 u Q n2 0 0)
def w_M_moved (x1 : Int32) (u : Mem) (Q : Int32 → Mem → Prop) : Prop := (w_M_reads u (fun u2 => (w_M_isSet x1 (fun r3 => ((r3 = 0 → (Q (-2) u2)) ∧ (¬ r3 = 0 → (w_M_movedOf x1 u2 (fun r5 => (Q r5 u2)))))))))
def w_M_catBy_b65 (R : Int32 → Int32 → Prop) (X : Int32 → Prop) (x1 : Int32) (x2 : Int32) (x4 : Int32) (s0 : Int32) (s1 : Int32) (u : Mem) (Q : Int32 → Prop) : Prop := (R (s1 + s0) (x4 + 1))
def w_M_catBy_l31 (X : Int32 → Prop) (x1 : Int32) (x2 : Int32) (u : Mem) (Q : Int32 → Prop) : Nat → Int32 → Int32 → Prop
  | 0, _, _ => False
  | n + 1, x3, x4 => ((8 ≤ x4 → (X x3)) ∧ (¬ 8 ≤ x4 → (vp_in ((u.1 4) ^^^ ((1 : Int32) <<< (x4 &&& 31))) 256 ∧ (w_M_isIn (u.2 8 ((u.1 4) ^^^ ((1 : Int32) <<< (x4 &&& 31))).toNatClampNeg) x2 (fun r3 => ((r3 = 0 → (w_M_catBy_b65 (w_M_catBy_l31 X x1 x2 u Q n) X x1 x2 x4 0 x3 u Q)) ∧ (¬ r3 = 0 → (w_M_catBy_b65 (w_M_catBy_l31 X x1 x2 u Q n) X x1 x2 x4 x1 x3 u Q))))))))
def w_M_catBy_b27 (x1 : Int32) (x2 : Int32) (s0 : Int32) (u : Mem) (Q : Int32 → Prop) : Prop := (∃ n6, w_M_catBy_l31 (fun z5 => (Q z5)) x1 x2 u Q n6 s0 0)
def w_M_catBy (x1 : Int32) (x2 : Int32) (u : Mem) (Q : Int32 → Prop) : Prop := (vp_in (u.1 4) 256 ∧ (w_M_isIn (u.2 8 (u.1 4).toNatClampNeg) x2 (fun r1 => ((r1 = 0 → (w_M_catBy_b27 x1 x2 0 u Q)) ∧ (¬ r1 = 0 → (w_M_catBy_b27 x1 x2 (8 * (16 - x1)) u Q))))))
def w_M_cat_b47 (u : Mem) (Q : Int64 → Mem → Prop) : Prop := (w_M_no (-2) (fun r5 => (Q r5 u)))
def w_M_cat (x1 : Int32) (x2 : Int32) (x3 : Int32) (u : Mem) (Q : Int64 → Mem → Prop) : Prop := (w_M_reads u (fun u2 => (w_M_in x1.toInt64 0 16 (fun r3 => ((r3 = 0 → (w_M_cat_b47 u2 Q)) ∧ (¬ r3 = 0 → (w_M_isThing x2 (fun r7 => ((r7 = 0 → (w_M_cat_b47 u2 Q)) ∧ (¬ r7 = 0 → (w_M_isTwo x3 (fun r9 => ((r9 = 0 → (w_M_cat_b47 u2 Q)) ∧ (¬ r9 = 0 → (w_M_catBy x1 x2 u2 (fun r11 => (w_M_part r11.toInt64 128 x3 (fun r13 => (Q r13 u2)))))))))))))))))))
def w_M_letOf_b29 (s0 : Int32) (s1 : Int32) (u : Mem) (Q : Int32 → Prop) : Prop := ((s0 ≤ s1 → (Q 0)) ∧ (¬ s0 ≤ s1 → (Q 1)))
def w_M_letOf (x1 : Int32) (x2 : Int32) (u : Mem) (Q : Int32 → Prop) : Prop := (w_M_catBy x1 x2 u (fun r1 => (vp_in (u.1 4) 256 ∧ (w_M_isIn (u.2 8 (u.1 4).toNatClampNeg) x2 (fun r3 => ((r3 = 0 → (w_M_letOf_b29 0 r1 u Q)) ∧ (¬ r3 = 0 → (w_M_letOf_b29 128 r1 u Q))))))))
def w_M_let (x1 : Int32) (x2 : Int32) (u : Mem) (Q : Int32 → Mem → Prop) : Prop := (w_M_reads u (fun u2 => (w_M_in x1.toInt64 0 16 (fun r3 => ((r3 = 0 → (Q (-2) u2)) ∧ (¬ r3 = 0 → (w_M_isThing x2 (fun r5 => ((r5 = 0 → (Q (-2) u2)) ∧ (¬ r5 = 0 → (w_M_letOf x1 x2 u2 (fun r7 => (Q r7 u2)))))))))))))
def w_M_lotOf_b73 (R : Int32 → Int32 → Int32 → Int32 → Prop) (X : Int32 → Int32 → Prop) (x2 : Int32) (x3 : Int32) (x4 : Int32) (x5 : Int32) (x7 : Int32) (s0 : Int32) (s1 : Int32) (u : Mem) (Q : Int32 → Prop) : Prop := (w_M_next x5 u (fun r2 => (R x4 r2 (s1 + s0) (x7 + 1))))
def w_M_lotOf_b72 (R : Int32 → Int32 → Int32 → Int32 → Prop) (X : Int32 → Int32 → Prop) (x2 : Int32) (x3 : Int32) (x4 : Int32) (x5 : Int32) (x7 : Int32) (s0 : Int32) (u : Mem) (Q : Int32 → Prop) : Prop := (w_M_lotOf_b73 R X x2 x3 x4 x5 x7 0 s0 u Q)
def w_M_lotOf_l15 (X : Int32 → Int32 → Prop) (x2 : Int32) (x3 : Int32) (u : Mem) (Q : Int32 → Prop) : Nat → Int32 → Int32 → Int32 → Int32 → Prop
  | 0, _, _, _, _ => False
  | n + 1, x4, x5, x6, x7 => ((x2 ≤ x7 → (X x5 x6)) ∧ (¬ x2 ≤ x7 → (∀ y1, y1 = (((1103515245 * x4) + 12345).toUInt32 >>> ((16 : Int32).toUInt32 &&& Int32.toUInt32 31)).toInt32 → ((x3 = (-1) → (w_M_lotOf_b72 (w_M_lotOf_l15 X x2 x3 u Q n) X x2 x3 ((1103515245 * x4) + 12345) (x5 ^^^ ((1 : Int32) <<< ((y1 - y1 / 8 * 8) &&& 31))) x7 x6 u Q)) ∧ (¬ x3 = (-1) → (vp_in (x5 ^^^ ((1 : Int32) <<< ((y1 - y1 / 8 * 8) &&& 31))) 256 ∧ (∀ y4, y4 = (u.2 8 (x5 ^^^ ((1 : Int32) <<< ((y1 - y1 / 8 * 8) &&& 31))).toNatClampNeg) → (w_M_isIn y4 x3 (fun r5 => ((r5 = 0 → (w_M_lotOf_b72 (w_M_lotOf_l15 X x2 x3 u Q n) X x2 x3 ((1103515245 * x4) + 12345) (x5 ^^^ ((1 : Int32) <<< ((y1 - y1 / 8 * 8) &&& 31))) x7 x6 u Q)) ∧ (¬ r5 = 0 → (w_M_lotOf_b73 (w_M_lotOf_l15 X x2 x3 u Q n) X x2 x3 ((1103515245 * x4) + 12345) (x5 ^^^ ((1 : Int32) <<< ((y1 - y1 / 8 * 8) &&& 31))) x7 1 x6 u Q))))))))))))
def w_M_lotOf (x1 : Int32) (x2 : Int32) (x3 : Int32) (u : Mem) (Q : Int32 → Prop) : Prop := (∃ n9, w_M_lotOf_l15 (fun z7 z8 => ((¬ x3 = (-1) → (Q z8)) ∧ (x3 = (-1) → (Q z7)))) x2 x3 u Q n9 x1 (u.1 4) 0 0)
def w_M_lot (x1 : Int32) (x2 : Int32) (x3 : Int32) (u : Mem) (Q : Int32 → Mem → Prop) : Prop := (w_M_reads u (fun u2 => (w_M_in x2.toInt64 0 99 (fun r3 => ((r3 = 0 → (Q (-2) u2)) ∧ (¬ r3 = 0 → (w_M_in x3.toInt64 (-1) 7 (fun r5 => ((r5 = 0 → (Q (-2) u2)) ∧ (¬ r5 = 0 → (w_M_lotOf x1 x2 x3 u2 (fun r7 => (Q r7 u2)))))))))))))
def w_M_write_b106 (R : Int32 → Mem → Prop) (X : Mem → Prop) (x1 : Int32) (x2 : Int32) (x3 : Int32) (x4 : Int32) (s0 : Int32) (s1 : Int32) (s2 : Int32) (u : Mem) (Q : Int32 → Mem → Prop) : Prop := (w_M_cut s1 s0 (fun r7 => (vp_in s2 240 ∧ (R (x4 + 1) (sA u 2 s2.toNatClampNeg r7)))))
def w_M_write_l62 (X : Mem → Prop) (x1 : Int32) (x2 : Int32) (x3 : Int32) (Q : Int32 → Mem → Prop) : Nat → Int32 → Mem → Prop
  | 0, _, _ => False
  | n + 1, x4, u => ((x3 ≤ x4 → (X u)) ∧ (¬ x3 ≤ x4 → (vp_in x2 4 ∧ ((¬ x1 = 0 → (vp_in x4 30 ∧ (w_M_write_b106 (w_M_write_l62 X x1 x2 x3 Q n) X x1 x2 x3 x4 (u.2 12 x4.toNatClampNeg) (u.2 0 x2.toNatClampNeg) ((60 * x2) + x4) u Q))) ∧ (x1 = 0 → (vp_in x4 30 ∧ (w_M_write_b106 (w_M_write_l62 X x1 x2 x3 Q n) X x1 x2 x3 x4 (u.2 11 x4.toNatClampNeg) (u.2 0 x2.toNatClampNeg) ((60 * x2) + x4) u Q)))))))
def w_M_write_b58 (x1 : Int32) (x2 : Int32) (s0 : Int32) (u : Mem) (Q : Int32 → Mem → Prop) : Prop := (∃ n10, w_M_write_l62 (fun u9 => (Q s0 u9)) x1 x2 s0 Q n10 0 u)
def w_M_write (x1 : Int32) (x2 : Int32) (u : Mem) (Q : Int32 → Mem → Prop) : Prop := (w_M_isTwo x1 (fun r1 => ((r1 = 0 → (Q (-2) u)) ∧ (¬ r1 = 0 → (w_M_isSheet x2 (fun r3 => ((¬ r3 = 0 → (vp_in x2 4 ∧ ((0 ≤ (u.2 0 x2.toNatClampNeg) → (w_M_lives u (fun u6 => (vp_in x2 4 ∧ ((30 ≤ (u6.2 1 x2.toNatClampNeg) → (w_M_write_b58 x1 x2 30 u6 Q)) ∧ (¬ 30 ≤ (u6.2 1 x2.toNatClampNeg) → (vp_in x2 4 ∧ (w_M_write_b58 x1 x2 (u6.2 1 x2.toNatClampNeg) u6 Q)))))))) ∧ (¬ 0 ≤ (u.2 0 x2.toNatClampNeg) → (w_M_met 1 u (fun r11 u12 => (Q r11 u12))))))) ∧ (r3 = 0 → (Q (-2) u)))))))))
def w_M_count_l87 (X : Int32 → Prop) (u : Mem) (Q : Int32 → Mem → Prop) : Nat → Int32 → Int32 → Prop
  | 0, _, _ => False
  | n + 1, x2, x3 => (((u.1 2) ≤ x3 → (X x2)) ∧ (¬ (u.1 2) ≤ x3 → (vp_in ((3 * x3) + 1) 48 ∧ (w_M_count_l87 X u Q n (x2 + (u.2 6 ((3 * x3) + 1).toNatClampNeg)) (x3 + 1)))))
def w_M_count (x1 : Int32) (u : Mem) (Q : Int32 → Mem → Prop) : Prop := (w_M_reads u (fun u2 => ((x1 = 0 → (Q (u2.1 2) u2)) ∧ (x1 = 1 → (Q (u2.1 3) u2)) ∧ (x1 = 2 → (vp_in (x1 - 2) 2 ∧ (Q (u2.2 5 (x1 - 2).toNatClampNeg) u2))) ∧ (x1 = 3 → (vp_in (x1 - 2) 2 ∧ (Q (u2.2 5 (x1 - 2).toNatClampNeg) u2))) ∧ (x1 = 4 → (Q (u2.1 5) u2)) ∧ (x1 = 5 → (Q (u2.1 6) u2)) ∧ (x1 = 6 → (∃ n4, w_M_count_l87 (fun z3 => (Q z3 u2)) u2 Q n4 0 0)) ∧ (x1 = 7 → (Q (u2.1 4) u2)) ∧ (x1 = 8 → (Q (u2.1 0) u2)) ∧ ((x1.toInt < 0 ∨ 8 < x1.toInt) → (Q (-2) u2)))))
def w_M_tellsBig (x1 : Int64) (x3 : Int32) (u : Mem) (Q : Int64 → Mem → Prop) : Prop := (w_M_keepOff 3 x3 0 u (fun r1 u2 => (w_M_keepOff 3 x3 1 u2 (fun r3 u4 => (w_M_barsOf x3 u4 (fun r5 => (∀ y7, y7 = (31 * ((31 * ((31 * ((31 * x1) + r1.toInt64)) + r3.toInt64)) + r5.toInt64)) → (w_M_playOf 2 x3 0 u4 (fun r8 u9 => (w_M_playOf 2 x3 1 u9 (fun r10 u11 => (w_M_standsOf x3 0 u11 (fun r12 => (w_M_standsOf x3 1 u11 (fun r14 => (∀ y16, y16 = ((31 * ((31 * ((31 * (y7 + r8.toInt64)) + r10.toInt64)) + r12.toInt64)) + r14.toInt64) → (w_M_watchOf x3 u11 (fun r17 => (w_M_cat 4 x3 0 u11 (fun r19 u20 => (w_M_cat 4 x3 1 u20 (fun r21 u22 => (w_M_letOf 4 x3 u22 (fun r23 => (∀ y25, y25 = ((31 * ((31 * ((31 * ((31 * y16) + r17.toInt64)) + r19)) + r21)) + r23.toInt64) → (Q y25 u22))))))))))))))))))))))))))
def w_M_digest_l6 (X : Int64 → Mem → Prop) (Q : Int64 → Mem → Prop) : Nat → Int64 → Int32 → Mem → Prop
  | 0, _, _, _ => False
  | n + 1, x1, x3, u => ((8 ≤ x3 → (X x1 u)) ∧ (¬ 8 ≤ x3 → (w_M_count x3 u (fun r1 u2 => (w_M_digest_l6 X Q n ((31 * x1) + r1.toInt64) (x3 + 1) u2)))))
def w_M_digest_l68 (X : Int64 → Prop) (x3 : Int32) (u : Mem) (Q : Int64 → Mem → Prop) : Nat → Int64 → Int32 → Prop
  | 0, _, _ => False
  | n + 1, x1, x4 => ((3 ≤ x4 → (X x1)) ∧ (¬ 3 ≤ x4 → (vp_in ((3 * x3) + x4) 48 ∧ (w_M_digest_l68 X x3 u Q n ((31 * x1) + (u.2 6 ((3 * x3) + x4).toNatClampNeg).toInt64) (x4 + 1)))))
def w_M_digest_l57 (X : Int64 → Prop) (u : Mem) (Q : Int64 → Mem → Prop) : Nat → Int64 → Int32 → Prop
  | 0, _, _ => False
  | n + 1, x1, x3 => (((u.1 2) ≤ x3 → (X x1)) ∧ (¬ (u.1 2) ≤ x3 → (∃ n10, w_M_digest_l68 (fun z9 => (w_M_digest_l57 X u Q n z9 (x3 + 1))) x3 u Q n10 x1 0)))
def w_M_digest_l107 (X : Int64 → Prop) (u : Mem) (Q : Int64 → Mem → Prop) : Nat → Int64 → Int32 → Prop
  | 0, _, _ => False
  | n + 1, x1, x3 => (((u.1 3) ≤ x3 → (X x1)) ∧ (¬ (u.1 3) ≤ x3 → (vp_in (2 * x3) 24 ∧ (vp_in ((2 * x3) + 1) 24 ∧ (∀ y12, y12 = ((31 * ((31 * x1) + (u.2 7 (2 * x3).toNatClampNeg).toInt64)) + (u.2 7 ((2 * x3) + 1).toNatClampNeg).toInt64) → (w_M_digest_l107 X u Q n y12 (x3 + 1)))))))
def w_M_digest_b177 (R : Int64 → Int32 → Prop) (X : Int64 → Prop) (x1 : Int64) (x3 : Int32) (s0 : Int32) (u : Mem) (Q : Int64 → Mem → Prop) : Prop := (vp_in s0 30 ∧ (vp_in s0 30 ∧ (∀ y16, y16 = ((31 * ((31 * x1) + (u.2 11 s0.toNatClampNeg).toInt64)) + (u.2 12 s0.toNatClampNeg).toInt64) → (R y16 (x3 + 1)))))
def w_M_digest_l161 (X : Int64 → Prop) (u : Mem) (Q : Int64 → Mem → Prop) : Nat → Int64 → Int32 → Prop
  | 0, _, _ => False
  | n + 1, x1, x3 => ((4 ≤ x3 → (X x1)) ∧ (¬ 4 ≤ x3 → ((3 ≤ x3 → (w_M_digest_b177 (w_M_digest_l161 X u Q n) X x1 x3 9 u Q)) ∧ (¬ 3 ≤ x3 → (w_M_digest_b177 (w_M_digest_l161 X u Q n) X x1 x3 x3 u Q)))))
def w_M_digest_l263 (X : Int64 → Prop) (x3 : Int32) (u : Mem) (Q : Int64 → Mem → Prop) : Nat → Int64 → Int32 → Prop
  | 0, _, _ => False
  | n + 1, x1, x4 => ((2 ≤ x4 → (X x1)) ∧ (¬ 2 ≤ x4 → (w_M_told x3 x4 (fun r27 => (w_M_digest_l263 X x3 u Q n ((31 * x1) + r27.toInt64) (x4 + 1))))))
def w_M_digest_l318 (X : Int64 → Mem → Prop) (Q : Int64 → Mem → Prop) : Nat → Int64 → Int32 → Mem → Prop
  | 0, _, _, _ => False
  | n + 1, x1, x4, u => ((2 ≤ x4 → (X x1 u)) ∧ (¬ 2 ≤ x4 → (w_M_roundOf 5 x4 u (fun r34 u35 => (w_M_digest_l318 X Q n ((31 * x1) + r34.toInt64) (x4 + 1) u35)))))
def w_M_digest_l378 (X : Int64 → Mem → Prop) (Q : Int64 → Mem → Prop) : Nat → Int64 → Int32 → Mem → Prop
  | 0, _, _, _ => False
  | n + 1, x1, x4, u => ((8 ≤ x4 → (X x1 u)) ∧ (¬ 8 ≤ x4 → (w_M_tellsBig x1 x4 u (fun r42 u43 => (w_M_digest_l378 X Q n r42 (x4 + 1) u43)))))
def w_M_digest (u : Mem) (Q : Int64 → Mem → Prop) : Prop := (∃ n52, w_M_digest_l6 (fun z3 u4 => (w_M_readsLaws u4 (fun r5 u6 => (w_M_readsDust u6 (fun r7 u8 => (∃ n51, w_M_digest_l57 (fun z11 => (∃ n50, w_M_digest_l107 (fun z13 => (w_M_lives u8 (fun u15 => (∃ n49, w_M_digest_l161 (fun z17 => (w_M_judgedNow u15 (fun r18 => (w_M_twoNow u15 (fun r20 => (w_M_second 3 u15 (fun r22 u23 => (∀ y24, y24 = ((31 * ((31 * ((31 * z17) + r18.toInt64)) + r20.toInt64)) + r22.toInt64) → (w_M_touchOf 2 1 2 u23 (fun r25 => (∃ n48, w_M_digest_l263 (fun z29 => (w_M_steadyOf (-1) u23 (fun r30 => (w_M_steadyOf 0 u23 (fun r32 => (∃ n47, w_M_digest_l318 (fun z36 u37 => (w_M_movedOf 1 u37 (fun r38 => (w_M_lotOf 7 9 (-1) u37 (fun r40 => (∃ n46, w_M_digest_l378 (fun z44 u45 => (Q z44 u45)) Q n46 ((31 * ((31 * z36) + r38.toInt64)) + r40.toInt64) 0 u37)))))) Q n47 ((31 * ((31 * z29) + r30.toInt64)) + r32.toInt64) 0 u23)))))) r25 u23 Q n48 y24 0))))))))))) u15 Q n49 z13 0)))) u8 Q n50 z11 0)) u8 Q n51 ((31 * ((31 * z3) + r5.toInt64)) + r7.toInt64) 0)))))) Q n52 17 0 u)
