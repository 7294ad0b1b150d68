section
variable {l : Launch} {D : va_G} {ad : Nat → Nat} {cI cZ cS : ClassId} {rs : va_W} {A0 : Nat → Prop}
abbrev a_H_comesBy (l : Launch) (D : va_G) (ad : Nat → Nat) (cI cZ cS : ClassId) (rs : va_W) (A0 : Nat → Prop) := AX l D ad cI cZ cS rs A0 cX2_comesBy 2 (some .int) RX2 0
set_option maxRecDepth 20000 in
set_option maxHeartbeats 4000000 in
theorem c_H_comesBy {u : Mem} {x1 : Int32} {Q : Int32 → Prop} (h : w_H_comesBy x1 u Q) : MX l D ad cI cZ cS rs A0 yX2_comesBy cX2_comesBy 2 (some .int) 0 [.ref (ad 5), .int x1] u (jRi u Q) := by
  unfold w_H_comesBy at h
  refine JMet.of (by decide) (Nat.le_of_ble_eq_true rfl) ?_
  refine J_sub (lv' := [(0, .ref (ad 5)), (1, .int x1)]) [0, 1] rfl ?_
  show a_H_comesBy l D ad cI cZ cS rs A0 (jRi u Q) 0 [(0, .ref (ad 5)), (1, .int x1)] [] u
  refine J_aload_n 0 dX2_comesBy_0 rfl rfl ?_
  refine gX_5_0 dX2_comesBy_1 ?_
  refine J_iload_n 1 dX2_comesBy_4 rfl rfl ?_
  refine J_sipush (v := 255) dX2_comesBy_5 cs_255 ?_
  refine J_iand dX2_comesBy_8 ?_
  refine lX_7 (v := (u.2 7 (x1 &&& 255).toNatClampNeg)) h.1 rfl dX2_comesBy_9 ?_
  have h := h.2
  refine J_aload_n 0 dX2_comesBy_10 rfl rfl ?_
  refine gX_5_1 dX2_comesBy_11 ?_
  refine J_iload_n 1 dX2_comesBy_14 rfl rfl ?_
  refine J_sipush (v := 255) dX2_comesBy_15 cs_255 ?_
  refine J_iand dX2_comesBy_18 ?_
  refine lX_8 (v := (u.2 8 (x1 &&& 255).toNatClampNeg)) h.1 rfl dX2_comesBy_19 ?_
  have h := h.2
  refine J_iconst (v := (-1)) dX2_comesBy_20 ci_m1 ?_
  refine J_ixor dX2_comesBy_21 ?_
  refine J_iand dX2_comesBy_22 ?_
  refine J_topi (fun y1 ey1 => ?_)
  have h := h y1 ey1
  exact J_iret rfl dX2_comesBy_23 ⟨rfl, _, rfl, h⟩
abbrev a_C_withCat (l : Launch) (D : va_G) (ad : Nat → Nat) (cI cZ cS : ClassId) (rs : va_W) (A0 : Nat → Prop) := AX l D ad cI cZ cS rs A0 cX0_withCat 6 (some .int) RX0 1
set_option maxRecDepth 20000 in
set_option maxHeartbeats 4000000 in
theorem t_C_withCat_l28 {u : Mem}  {X : Int32 → Prop} {x1 : Int32} {x2 : Int32} {x3 : Int32} {Q : Int32 → Prop} (hX : ∀ (x4 : Int32), X x4 → a_C_withCat l D ad cI cZ cS rs A0 (jRi u Q) 62 [(4, .int x4)] [] u) : ∀ (n : Nat) (x4 : Int32) (x5 : Int32), w_C_withCat_l28 X x1 x2 x3 u Q n x4 x5 → a_C_withCat l D ad cI cZ cS rs A0 (jRi u Q) 28 [(0, .ref (ad 5)), (1, .int x1), (2, .int x2), (3, .int x3), (4, .int x4), (5, .int x5)] [] u := by
  intro n
  induction n with
  | zero =>
    intro x4 x5 h
    exact (by simp only [w_C_withCat_l28] at h : False).elim
  | succ n ih =>
    intro x4 x5 h
    rw [w_C_withCat_l28] at h
    refine J_iload 5 dX0_withCat_28 rfl ?_
    refine J_bipush (v := 8) dX0_withCat_30 cb_8 ?_
    refine J_icmp_ge (tgt := 62) dX0_withCat_32 rfl (fun c => ?_) (fun c => ?_)
    · have h := h.1 c
      exact J_sub (lv' := [(4, .int x4)]) [4] rfl (hX x4 h)
    · have h := h.2 c
      refine J_aload_n 0 dX0_withCat_35 rfl rfl ?_
      refine J_iload_n 1 dX0_withCat_36 rfl rfl ?_
      refine J_iconst (v := 1) dX0_withCat_37 ci_1 ?_
      refine J_iload 5 dX0_withCat_38 rfl ?_
      refine J_ishl dX0_withCat_40 ?_
      refine J_ixor dX0_withCat_41 ?_
      refine JV_Ri kV_RX0_9 5 rX_5 rfl rfl (c_H_comesBy h) rfl rfl (by decide) (Nat.le_of_ble_eq_true rfl) dX0_withCat_42 (fun r3 h => ?_)
      refine J_iload_n 2 dX0_withCat_45 rfl rfl ?_
      refine J_iand dX0_withCat_46 ?_
      refine J_if_eq (tgt := 56) dX0_withCat_47 rfl (fun c => ?_) (fun c => ?_)
      · have h := h.1 c
        refine J_iinc (v := (x5 + 1)) (lv' := [(5, .int (x5 + 1)), (0, .ref (ad 5)), (1, .int x1), (2, .int x2), (3, .int x3), (4, .int x4)]) 5 dX0_withCat_56 rfl rfl (Nat.le_of_ble_eq_true rfl) rfl ?_
        refine J_goto (tgt := 28) dX0_withCat_59 rfl ?_
        exact J_sub (lv' := [(0, .ref (ad 5)), (1, .int x1), (2, .int x2), (3, .int x3), (4, .int x4), (5, .int (x5 + 1))]) [1, 2, 3, 4, 5, 0] rfl (ih x4 (x5 + 1) h)
      · have h := h.2 c
        refine J_iload 4 dX0_withCat_50 rfl ?_
        refine J_iload_n 3 dX0_withCat_52 rfl rfl ?_
        refine J_iadd dX0_withCat_53 ?_
        refine J_istore (lv' := [(4, .int (x4 + x3)), (0, .ref (ad 5)), (1, .int x1), (2, .int x2), (3, .int x3), (5, .int x5)]) dX0_withCat_54 (Nat.le_of_ble_eq_true rfl) rfl ?_
        refine J_iinc (v := (x5 + 1)) (lv' := [(5, .int (x5 + 1)), (4, .int (x4 + x3)), (0, .ref (ad 5)), (1, .int x1), (2, .int x2), (3, .int x3)]) 5 dX0_withCat_56 rfl rfl (Nat.le_of_ble_eq_true rfl) rfl ?_
        refine J_goto (tgt := 28) dX0_withCat_59 rfl ?_
        exact J_sub (lv' := [(0, .ref (ad 5)), (1, .int x1), (2, .int x2), (3, .int x3), (4, .int (x4 + x3)), (5, .int (x5 + 1))]) [2, 3, 4, 5, 1, 0] rfl (ih (x4 + x3) (x5 + 1) h)
set_option maxRecDepth 20000 in
set_option maxHeartbeats 4000000 in
theorem t_C_withCat_b25 {u : Mem} {x1 : Int32} {x2 : Int32} {x3 : Int32} {x4 : Int32} {Q : Int32 → Prop} (h : w_C_withCat_b25 x1 x2 x3 x4 u Q) : a_C_withCat l D ad cI cZ cS rs A0 (jRi u Q) 25 [(0, .ref (ad 5)), (1, .int x1), (2, .int x2), (3, .int x3), (4, .int x4)] [] u := by
  unfold w_C_withCat_b25 at h
  refine J_iconst (v := 0) dX0_withCat_25 ci_0 ?_
  refine J_istore (lv' := [(5, .int 0), (0, .ref (ad 5)), (1, .int x1), (2, .int x2), (3, .int x3), (4, .int x4)]) dX0_withCat_26 (Nat.le_of_ble_eq_true rfl) rfl ?_
  obtain ⟨n6, h⟩ := h
  refine J_sub (lv' := [(0, .ref (ad 5)), (1, .int x1), (2, .int x2), (3, .int x3), (4, .int x4), (5, .int 0)]) [1, 2, 3, 4, 5, 0] rfl (t_C_withCat_l28 ?_ n6 x4 0 h)
  · intro z5 h
    refine J_iload 0 dX0_withCat_62 rfl ?_
    exact J_iret rfl dX0_withCat_64 ⟨rfl, _, rfl, h⟩
set_option maxRecDepth 20000 in
set_option maxHeartbeats 4000000 in
theorem c_C_withCat {u : Mem} {x1 : Int32} {x2 : Int32} {x3 : Int32} {Q : Int32 → Prop} (h : w_C_withCat x1 x2 x3 u Q) : MX l D ad cI cZ cS rs A0 yX0_withCat cX0_withCat 6 (some .int) 1 [.ref (ad 5), .int x1, .int x2, .int x3] u (jRi u Q) := by
  unfold w_C_withCat at h
  refine JMet.of (by decide) (Nat.le_of_ble_eq_true rfl) ?_
  refine J_sub (lv' := [(0, .ref (ad 5)), (1, .int x1), (2, .int x2), (3, .int x3)]) [0, 1, 2, 3] rfl ?_
  show a_C_withCat l D ad cI cZ cS rs A0 (jRi u Q) 0 [(0, .ref (ad 5)), (1, .int x1), (2, .int x2), (3, .int x3)] [] u
  refine J_iconst (v := 0) dX0_withCat_0 ci_0 ?_
  refine J_istore (lv' := [(4, .int 0), (0, .ref (ad 5)), (1, .int x1), (2, .int x2), (3, .int x3)]) dX0_withCat_1 (Nat.le_of_ble_eq_true rfl) rfl ?_
  refine J_aload_n 1 dX0_withCat_3 rfl rfl ?_
  refine J_iload_n 2 dX0_withCat_4 rfl rfl ?_
  refine JV_Ri kV_RX0_9 5 rX_5 rfl rfl (c_H_comesBy h) rfl rfl (by decide) (Nat.le_of_ble_eq_true rfl) dX0_withCat_5 (fun r1 h => ?_)
  refine J_iload_n 3 dX0_withCat_8 rfl rfl ?_
  refine J_iand dX0_withCat_9 ?_
  refine J_if_eq (tgt := 25) dX0_withCat_10 rfl (fun c => ?_) (fun c => ?_)
  · have h := h.1 c
    exact J_sub (lv' := [(0, .ref (ad 5)), (1, .int x1), (2, .int x2), (3, .int x3), (4, .int 0)]) [1, 2, 3, 4, 0] rfl (t_C_withCat_b25 h)
  · have h := h.2 c
    refine J_iload 0 dX0_withCat_13 rfl ?_
    refine J_bipush (v := 16) dX0_withCat_15 cb_16 ?_
    refine J_iload_n 4 dX0_withCat_17 rfl rfl ?_
    refine J_isub dX0_withCat_18 ?_
    refine J_bipush (v := 8) dX0_withCat_19 cb_8 ?_
    refine J_imul dX0_withCat_21 ?_
    refine J_iadd dX0_withCat_22 ?_
    refine J_istore (lv' := [(4, .int (0 + ((16 - x3) * 8))), (0, .ref (ad 5)), (1, .int x1), (2, .int x2), (3, .int x3)]) dX0_withCat_23 (Nat.le_of_ble_eq_true rfl) rfl ?_
    exact J_sub (lv' := [(0, .ref (ad 5)), (1, .int x1), (2, .int x2), (3, .int x3), (4, .int (0 + ((16 - x3) * 8)))]) [1, 2, 3, 4, 0] rfl (t_C_withCat_b25 h)
abbrev a_C_lowest (l : Launch) (D : va_G) (ad : Nat → Nat) (cI cZ cS : ClassId) (rs : va_W) (A0 : Nat → Prop) := AX l D ad cI cZ cS rs A0 cX0_lowest 7 (some .int) RX0 0
set_option maxRecDepth 20000 in
set_option maxHeartbeats 4000000 in
theorem t_C_lowest_l8 {u : Mem}  {X : Int32 → Prop} {x0 : Int32} {Q : Int32 → Prop} (hX : ∀ (x3 : Int32), X x3 → a_C_lowest l D ad cI cZ cS rs A0 (jRi u Q) 40 [(0, .int x0), (3, .int x3)] [] u) : ∀ (n : Nat) (x3 : Int32) (x4 : Int32) (x5 : Int32), w_C_lowest_l8 X x0 Q n x3 x4 x5 → a_C_lowest l D ad cI cZ cS rs A0 (jRi u Q) 8 [(0, .int x0), (3, .int x3), (4, .int x4), (5, .int x5)] [] u := by
  intro n
  induction n with
  | zero =>
    intro x3 x4 x5 h
    exact (by simp only [w_C_lowest_l8] at h : False).elim
  | succ n ih =>
    intro x3 x4 x5 h
    rw [w_C_lowest_l8] at h
    refine J_iload 3 dX0_lowest_8 rfl ?_
    refine J_sipush (v := 128) dX0_lowest_10 cs_128 ?_
    refine J_icmp_ge (tgt := 40) dX0_lowest_13 rfl (fun c => ?_) (fun c => ?_)
    · have h := h.1 c
      exact J_sub (lv' := [(0, .int x0), (3, .int x3)]) [0, 1] rfl (hX x3 h)
    · have h := h.2 c
      refine J_iload 2 dX0_lowest_16 rfl ?_
      refine J_if_eq (tgt := 40) dX0_lowest_18 rfl (fun c => ?_) (fun c => ?_)
      · have h := h.1 c
        exact J_sub (lv' := [(0, .int x0), (3, .int x3)]) [0, 1] rfl (hX x3 h)
      · have h := h.2 c
        refine J_iload_n 1 dX0_lowest_21 rfl rfl ?_
        refine J_iload 2 dX0_lowest_22 rfl ?_
        refine J_irem dX0_lowest_24 h.1 ?_
        have h := h.2
        refine J_istore (lv' := [(6, .int (x3 - x3 / x4 * x4)), (0, .int x0), (3, .int x3), (4, .int x4), (5, .int x5)]) dX0_lowest_25 (Nat.le_of_ble_eq_true rfl) rfl ?_
        refine J_iload 3 dX0_lowest_27 rfl ?_
        refine J_istore_n (lv' := [(3, .int x4), (6, .int (x3 - x3 / x4 * x4)), (0, .int x0), (4, .int x4), (5, .int x5)]) dX0_lowest_29 rfl (Nat.le_of_ble_eq_true rfl) rfl ?_
        refine J_iload 1 dX0_lowest_30 rfl ?_
        refine J_istore (lv' := [(4, .int (x3 - x3 / x4 * x4)), (3, .int x4), (6, .int (x3 - x3 / x4 * x4)), (0, .int x0), (5, .int x5)]) dX0_lowest_32 (Nat.le_of_ble_eq_true rfl) rfl ?_
        refine J_iinc (v := (x5 + 1)) (lv' := [(5, .int (x5 + 1)), (4, .int (x3 - x3 / x4 * x4)), (3, .int x4), (6, .int (x3 - x3 / x4 * x4)), (0, .int x0)]) 4 dX0_lowest_34 rfl rfl (Nat.le_of_ble_eq_true rfl) rfl ?_
        refine J_goto (tgt := 8) dX0_lowest_37 rfl ?_
        exact J_sub (lv' := [(0, .int x0), (3, .int x4), (4, .int (x3 - x3 / x4 * x4)), (5, .int (x5 + 1))]) [4, 2, 1, 0] rfl (ih x4 (x3 - x3 / x4 * x4) (x5 + 1) h)
set_option maxRecDepth 20000 in
set_option maxHeartbeats 4000000 in
theorem t_C_lowest_b40 {u : Mem} {x0 : Int32} {x3 : Int32} {Q : Int32 → Prop} (h : w_C_lowest_b40 x0 x3 Q) : a_C_lowest l D ad cI cZ cS rs A0 (jRi u Q) 40 [(0, .int x0), (3, .int x3)] [] u := by
  unfold w_C_lowest_b40 at h
  refine J_iload_n 1 dX0_lowest_40 rfl rfl ?_
  refine J_if_ne (tgt := 48) dX0_lowest_41 rfl (fun c => ?_) (fun c => ?_)
  · have h := h.1 c
    refine J_iload_n 0 dX0_lowest_48 rfl rfl ?_
    refine J_iload_n 1 dX0_lowest_49 rfl rfl ?_
    refine J_idiv dX0_lowest_50 h.1 ?_
    have h := h.2
    exact J_iret rfl dX0_lowest_51 ⟨rfl, _, rfl, h⟩
  · have h := h.2 c
    refine J_iload_n 0 dX0_lowest_44 rfl rfl ?_
    refine J_goto (tgt := 51) dX0_lowest_45 rfl ?_
    exact J_iret rfl dX0_lowest_51 ⟨rfl, _, rfl, h⟩
set_option maxRecDepth 20000 in
set_option maxHeartbeats 4000000 in
theorem c_C_lowest {u : Mem} {x0 : Int32} {x1 : Int32} {x2 : Int32} {Q : Int32 → Prop} (h : w_C_lowest x0 x1 x2 Q) : MX l D ad cI cZ cS rs A0 yX0_lowest cX0_lowest 7 (some .int) 0 [.int x0, .int x1, .int x2] u (jRi u Q) := by
  unfold w_C_lowest at h
  refine JMet.of (by decide) (Nat.le_of_ble_eq_true rfl) ?_
  refine J_sub (lv' := [(0, .int x0), (1, .int x1), (2, .int x2)]) [0, 1, 2] rfl ?_
  show a_C_lowest l D ad cI cZ cS rs A0 (jRi u Q) 0 [(0, .int x0), (1, .int x1), (2, .int x2)] [] u
  refine J_iload_n 2 dX0_lowest_0 rfl rfl ?_
  refine J_istore_n (lv' := [(3, .int x2), (0, .int x0), (1, .int x1), (2, .int x2)]) dX0_lowest_1 rfl (Nat.le_of_ble_eq_true rfl) rfl ?_
  refine J_iload_n 2 dX0_lowest_2 rfl rfl ?_
  refine J_istore (lv' := [(4, .int x1), (3, .int x2), (0, .int x0), (1, .int x1), (2, .int x2)]) dX0_lowest_3 (Nat.le_of_ble_eq_true rfl) rfl ?_
  refine J_iconst (v := 0) dX0_lowest_5 ci_0 ?_
  refine J_istore (lv' := [(5, .int 0), (4, .int x1), (3, .int x2), (0, .int x0), (1, .int x1), (2, .int x2)]) dX0_lowest_6 (Nat.le_of_ble_eq_true rfl) rfl ?_
  obtain ⟨n2, h⟩ := h
  refine J_sub (lv' := [(0, .int x0), (3, .int x2), (4, .int x1), (5, .int 0)]) [3, 2, 1, 0] rfl (t_C_lowest_l8 ?_ n2 x2 x1 0 h)
  · intro z1 h
    exact (t_C_lowest_b40 h)
abbrev a_D_bigOf (l : Launch) (D : va_G) (ad : Nat → Nat) (cI cZ cS : ClassId) (rs : va_W) (A0 : Nat → Prop) := AX l D ad cI cZ cS rs A0 cX1_bigOf 2 (some .int) RX1 0
set_option maxRecDepth 20000 in
set_option maxHeartbeats 4000000 in
theorem c_D_bigOf {u : Mem} {x1 : Int32} {Q : Int32 → Prop} (h : w_D_bigOf x1 u Q) : MX l D ad cI cZ cS rs A0 yX1_bigOf cX1_bigOf 2 (some .int) 0 [.ref (ad 4), .int x1] u (jRi u Q) := by
  unfold w_D_bigOf at h
  refine JMet.of (by decide) (Nat.le_of_ble_eq_true rfl) ?_
  refine J_sub (lv' := [(0, .ref (ad 4)), (1, .int x1)]) [0, 1] rfl ?_
  show a_D_bigOf l D ad cI cZ cS rs A0 (jRi u Q) 0 [(0, .ref (ad 4)), (1, .int x1)] [] u
  refine J_iload_n 1 dX1_bigOf_0 rfl rfl ?_
  refine J_if_lt (tgt := 19) dX1_bigOf_1 rfl (fun c => ?_) (fun c => ?_)
  · have h := h.1 c
    refine J_iconst (v := 0) dX1_bigOf_19 ci_0 ?_
    exact J_iret rfl dX1_bigOf_20 ⟨rfl, _, rfl, h⟩
  · have h := h.2 c
    refine J_iload_n 1 dX1_bigOf_4 rfl rfl ?_
    refine J_bipush (v := 12) dX1_bigOf_5 cb_12 ?_
    refine J_icmp_ge (tgt := 19) dX1_bigOf_7 rfl (fun c => ?_) (fun c => ?_)
    · have h := h.1 c
      refine J_iconst (v := 0) dX1_bigOf_19 ci_0 ?_
      exact J_iret rfl dX1_bigOf_20 ⟨rfl, _, rfl, h⟩
    · have h := h.2 c
      refine J_aload_n 0 dX1_bigOf_10 rfl rfl ?_
      refine gX_4_2 dX1_bigOf_11 ?_
      refine J_iload_n 1 dX1_bigOf_14 rfl rfl ?_
      refine lX_5 (v := (u.2 5 x1.toNatClampNeg)) h.1 rfl dX1_bigOf_15 ?_
      have h := h.2
      refine J_goto (tgt := 20) dX1_bigOf_16 rfl ?_
      exact J_iret rfl dX1_bigOf_20 ⟨rfl, _, rfl, h⟩
abbrev a_D_smallOf (l : Launch) (D : va_G) (ad : Nat → Nat) (cI cZ cS : ClassId) (rs : va_W) (A0 : Nat → Prop) := AX l D ad cI cZ cS rs A0 cX1_smallOf 2 (some .int) RX1 0
set_option maxRecDepth 20000 in
set_option maxHeartbeats 4000000 in
theorem c_D_smallOf {u : Mem} {x1 : Int32} {Q : Int32 → Prop} (h : w_D_smallOf x1 u Q) : MX l D ad cI cZ cS rs A0 yX1_smallOf cX1_smallOf 2 (some .int) 0 [.ref (ad 4), .int x1] u (jRi u Q) := by
  unfold w_D_smallOf at h
  refine JMet.of (by decide) (Nat.le_of_ble_eq_true rfl) ?_
  refine J_sub (lv' := [(0, .ref (ad 4)), (1, .int x1)]) [0, 1] rfl ?_
  show a_D_smallOf l D ad cI cZ cS rs A0 (jRi u Q) 0 [(0, .ref (ad 4)), (1, .int x1)] [] u
  refine J_iload_n 1 dX1_smallOf_0 rfl rfl ?_
  refine J_if_lt (tgt := 19) dX1_smallOf_1 rfl (fun c => ?_) (fun c => ?_)
  · have h := h.1 c
    refine J_iconst (v := 0) dX1_smallOf_19 ci_0 ?_
    exact J_iret rfl dX1_smallOf_20 ⟨rfl, _, rfl, h⟩
  · have h := h.2 c
    refine J_iload_n 1 dX1_smallOf_4 rfl rfl ?_
    refine J_bipush (v := 12) dX1_smallOf_5 cb_12 ?_
    refine J_icmp_ge (tgt := 19) dX1_smallOf_7 rfl (fun c => ?_) (fun c => ?_)
    · have h := h.1 c
      refine J_iconst (v := 0) dX1_smallOf_19 ci_0 ?_
      exact J_iret rfl dX1_smallOf_20 ⟨rfl, _, rfl, h⟩
    · have h := h.2 c
      refine J_aload_n 0 dX1_smallOf_10 rfl rfl ?_
      refine gX_4_3 dX1_smallOf_11 ?_
      refine J_iload_n 1 dX1_smallOf_14 rfl rfl ?_
      refine lX_6 (v := (u.2 6 x1.toNatClampNeg)) h.1 rfl dX1_smallOf_15 ?_
      have h := h.2
      refine J_goto (tgt := 20) dX1_smallOf_16 rfl ?_
      exact J_iret rfl dX1_smallOf_20 ⟨rfl, _, rfl, h⟩
abbrev a_R_size_0 (l : Launch) (D : va_G) (ad : Nat → Nat) (cI cZ cS : ClassId) (rs : va_W) (A0 : Nat → Prop) := AX l D ad cI cZ cS rs A0 cX5_size 1 (some .int) RX5 0
set_option maxRecDepth 20000 in
set_option maxHeartbeats 4000000 in
theorem c_R_size_0 {u : Mem} {Q : Int32 → Prop} (h : w_R_size_0 u Q) : MX l D ad cI cZ cS rs A0 yX5_size cX5_size 1 (some .int) 0 [.ref (ad 3)] u (jRi u Q) := by
  unfold w_R_size_0 at h
  refine JMet.of (by decide) (Nat.le_of_ble_eq_true rfl) ?_
  refine J_sub (lv' := [(0, .ref (ad 3))]) [0] rfl ?_
  show a_R_size_0 l D ad cI cZ cS rs A0 (jRi u Q) 0 [(0, .ref (ad 3))] [] u
  refine J_aload_n 0 dX5_size_0 rfl rfl ?_
  refine gX_3_0 (v := (u.1 4)) rfl dX5_size_1 ?_
  exact J_iret rfl dX5_size_4 ⟨rfl, _, rfl, h⟩
abbrev a_R_size_1 (l : Launch) (D : va_G) (ad : Nat → Nat) (cI cZ cS : ClassId) (rs : va_W) (A0 : Nat → Prop) := AX l D ad cI cZ cS rs A0 cX5_size 1 (some .int) RX5 0
set_option maxRecDepth 20000 in
set_option maxHeartbeats 4000000 in
theorem c_R_size_1 {u : Mem} {Q : Int32 → Prop} (h : w_R_size_1 u Q) : MX l D ad cI cZ cS rs A0 yX5_size cX5_size 1 (some .int) 0 [.ref (ad 4)] u (jRi u Q) := by
  unfold w_R_size_1 at h
  refine JMet.of (by decide) (Nat.le_of_ble_eq_true rfl) ?_
  refine J_sub (lv' := [(0, .ref (ad 4))]) [0] rfl ?_
  show a_R_size_1 l D ad cI cZ cS rs A0 (jRi u Q) 0 [(0, .ref (ad 4))] [] u
  refine J_aload_n 0 dX5_size_0 rfl rfl ?_
  refine gX_4_0 (v := (u.1 8)) rfl dX5_size_1 ?_
  exact J_iret rfl dX5_size_4 ⟨rfl, _, rfl, h⟩
abbrev a_D_laidBy (l : Launch) (D : va_G) (ad : Nat → Nat) (cI cZ cS : ClassId) (rs : va_W) (A0 : Nat → Prop) := AX l D ad cI cZ cS rs A0 cX1_laidBy 4 (some .int) RX1 1
set_option maxRecDepth 20000 in
set_option maxHeartbeats 4000000 in
theorem t_D_laidBy_l4 {u : Mem}  {X : Int32 → Prop} {x1 : Int32} {Q : Int32 → Prop} (hX : ∀ (x2 : Int32), X x2 → a_D_laidBy l D ad cI cZ cS rs A0 (jRi u Q) 41 [(2, .int x2)] [] u) : ∀ (n : Nat) (x2 : Int32) (x3 : Int32), w_D_laidBy_l4 X x1 u Q n x2 x3 → a_D_laidBy l D ad cI cZ cS rs A0 (jRi u Q) 4 [(0, .ref (ad 4)), (1, .int x1), (2, .int x2), (3, .int x3)] [] u := by
  intro n
  induction n with
  | zero =>
    intro x2 x3 h
    exact (by simp only [w_D_laidBy_l4] at h : False).elim
  | succ n ih =>
    intro x2 x3 h
    rw [w_D_laidBy_l4] at h
    refine J_iload_n 3 dX1_laidBy_4 rfl rfl ?_
    refine J_aload_n 0 dX1_laidBy_5 rfl rfl ?_
    refine JU_Ri kU_RX1_18_RX1 rfl 4 rX_4 rfl rfl (c_R_size_1 h) rfl rfl (by decide) (Nat.le_of_ble_eq_true rfl) dX1_laidBy_6 (fun r1 h => ?_)
    refine J_icmp_ge (tgt := 41) dX1_laidBy_9 rfl (fun c => ?_) (fun c => ?_)
    · have h := h.1 c
      exact J_sub (lv' := [(2, .int x2)]) [2] rfl (hX x2 h)
    · have h := h.2 c
      refine J_iload_n 1 dX1_laidBy_12 rfl rfl ?_
      refine J_aload_n 0 dX1_laidBy_13 rfl rfl ?_
      refine J_iload_n 3 dX1_laidBy_14 rfl rfl ?_
      refine JV_Ri kV_RX1_22 4 rX_4 rfl rfl (c_D_bigOf h) rfl rfl (by decide) (Nat.le_of_ble_eq_true rfl) dX1_laidBy_15 (fun r3 h => ?_)
      refine J_ishr dX1_laidBy_18 ?_
      refine J_iconst (v := 1) dX1_laidBy_19 ci_1 ?_
      refine J_iand dX1_laidBy_20 ?_
      refine J_iconst (v := 1) dX1_laidBy_21 ci_1 ?_
      refine J_icmp_ne (tgt := 35) dX1_laidBy_22 rfl (fun c => ?_) (fun c => ?_)
      · have h := h.1 c
        refine J_iinc (v := (x3 + 1)) (lv' := [(3, .int (x3 + 1)), (0, .ref (ad 4)), (1, .int x1), (2, .int x2)]) 3 dX1_laidBy_35 rfl rfl (Nat.le_of_ble_eq_true rfl) rfl ?_
        refine J_goto (tgt := 4) dX1_laidBy_38 rfl ?_
        exact J_sub (lv' := [(0, .ref (ad 4)), (1, .int x1), (2, .int x2), (3, .int (x3 + 1))]) [1, 2, 3, 0] rfl (ih x2 (x3 + 1) h)
      · have h := h.2 c
        refine J_iload_n 2 dX1_laidBy_25 rfl rfl ?_
        refine J_iconst (v := 1) dX1_laidBy_26 ci_1 ?_
        refine J_aload_n 0 dX1_laidBy_27 rfl rfl ?_
        refine J_iload_n 3 dX1_laidBy_28 rfl rfl ?_
        refine JV_Ri kV_RX1_26 4 rX_4 rfl rfl (c_D_smallOf h) rfl rfl (by decide) (Nat.le_of_ble_eq_true rfl) dX1_laidBy_29 (fun r5 h => ?_)
        refine J_ishl dX1_laidBy_32 ?_
        refine J_ior dX1_laidBy_33 ?_
        refine J_istore_n (lv' := [(2, .int (x2 ||| ((1 : Int32) <<< (r5 &&& 31)))), (0, .ref (ad 4)), (1, .int x1), (3, .int x3)]) dX1_laidBy_34 rfl (Nat.le_of_ble_eq_true rfl) rfl ?_
        refine J_iinc (v := (x3 + 1)) (lv' := [(3, .int (x3 + 1)), (2, .int (x2 ||| ((1 : Int32) <<< (r5 &&& 31)))), (0, .ref (ad 4)), (1, .int x1)]) 3 dX1_laidBy_35 rfl rfl (Nat.le_of_ble_eq_true rfl) rfl ?_
        refine J_goto (tgt := 4) dX1_laidBy_38 rfl ?_
        exact J_sub (lv' := [(0, .ref (ad 4)), (1, .int x1), (2, .int (x2 ||| ((1 : Int32) <<< (r5 &&& 31)))), (3, .int (x3 + 1))]) [2, 3, 1, 0] rfl (ih (x2 ||| ((1 : Int32) <<< (r5 &&& 31))) (x3 + 1) h)
set_option maxRecDepth 20000 in
set_option maxHeartbeats 4000000 in
theorem c_D_laidBy {u : Mem} {x1 : Int32} {Q : Int32 → Prop} (h : w_D_laidBy x1 u Q) : MX l D ad cI cZ cS rs A0 yX1_laidBy cX1_laidBy 4 (some .int) 1 [.ref (ad 4), .int x1] u (jRi u Q) := by
  unfold w_D_laidBy at h
  refine JMet.of (by decide) (Nat.le_of_ble_eq_true rfl) ?_
  refine J_sub (lv' := [(0, .ref (ad 4)), (1, .int x1)]) [0, 1] rfl ?_
  show a_D_laidBy l D ad cI cZ cS rs A0 (jRi u Q) 0 [(0, .ref (ad 4)), (1, .int x1)] [] u
  refine J_iconst (v := 0) dX1_laidBy_0 ci_0 ?_
  refine J_istore_n (lv' := [(2, .int 0), (0, .ref (ad 4)), (1, .int x1)]) dX1_laidBy_1 rfl (Nat.le_of_ble_eq_true rfl) rfl ?_
  refine J_iconst (v := 0) dX1_laidBy_2 ci_0 ?_
  refine J_istore_n (lv' := [(3, .int 0), (2, .int 0), (0, .ref (ad 4)), (1, .int x1)]) dX1_laidBy_3 rfl (Nat.le_of_ble_eq_true rfl) rfl ?_
  obtain ⟨n8, h⟩ := h
  refine J_sub (lv' := [(0, .ref (ad 4)), (1, .int x1), (2, .int 0), (3, .int 0)]) [2, 3, 1, 0] rfl (t_D_laidBy_l4 ?_ n8 0 0 h)
  · intro z7 h
    refine J_iload_n 0 dX1_laidBy_41 rfl rfl ?_
    exact J_iret rfl dX1_laidBy_42 ⟨rfl, _, rfl, h⟩
abbrev a_X_isBigLetter (l : Launch) (D : va_G) (ad : Nat → Nat) (cI cZ cS : ClassId) (rs : va_W) (A0 : Nat → Prop) := AX l D ad cI cZ cS rs A0 cX10_isBigLetter 1 (some .boolean) RX10 0
set_option maxRecDepth 20000 in
set_option maxHeartbeats 4000000 in
theorem c_X_isBigLetter {u : Mem} {x0 : Int32} {Q : Int32 → Prop} (h : w_X_isBigLetter x0 Q) : MX l D ad cI cZ cS rs A0 yX10_isBigLetter cX10_isBigLetter 1 (some .boolean) 0 [.int x0] u (jRi u Q) := by
  unfold w_X_isBigLetter at h
  refine JMet.of (by decide) (Nat.le_of_ble_eq_true rfl) ?_
  refine J_sub (lv' := [(0, .int x0)]) [0] rfl ?_
  show a_X_isBigLetter l D ad cI cZ cS rs A0 (jRi u Q) 0 [(0, .int x0)] [] u
  refine J_iload_n 0 dX10_isBigLetter_0 rfl rfl ?_
  refine J_bipush (v := 65) dX10_isBigLetter_1 cb_65 ?_
  refine J_icmp_lt (tgt := 16) dX10_isBigLetter_3 rfl (fun c => ?_) (fun c => ?_)
  · have h := h.1 c
    refine J_iconst (v := 0) dX10_isBigLetter_16 ci_0 ?_
    exact J_zret rfl dX10_isBigLetter_17 (bz_n bz_0) ⟨rfl, _, rfl, h⟩
  · have h := h.2 c
    refine J_iload_n 0 dX10_isBigLetter_6 rfl rfl ?_
    refine J_bipush (v := 72) dX10_isBigLetter_7 cb_72 ?_
    refine J_icmp_gt (tgt := 16) dX10_isBigLetter_9 rfl (fun c => ?_) (fun c => ?_)
    · have h := h.1 c
      refine J_iconst (v := 0) dX10_isBigLetter_16 ci_0 ?_
      exact J_zret rfl dX10_isBigLetter_17 (bz_n bz_0) ⟨rfl, _, rfl, h⟩
    · have h := h.2 c
      refine J_iconst (v := 1) dX10_isBigLetter_12 ci_1 ?_
      refine J_goto (tgt := 17) dX10_isBigLetter_13 rfl ?_
      exact J_zret rfl dX10_isBigLetter_17 (bz_n bz_1) ⟨rfl, _, rfl, h⟩
abbrev a_D_beginDust (l : Launch) (D : va_G) (ad : Nat → Nat) (cI cZ cS : ClassId) (rs : va_W) (A0 : Nat → Prop) := AX l D ad cI cZ cS rs A0 cX1_beginDust 2 (some .int) RX1 1
set_option maxRecDepth 20000 in
set_option maxHeartbeats 4000000 in
theorem c_D_beginDust {u : Mem} {x1 : Int32} {Q : Int32 → Mem → Prop} (h : w_D_beginDust x1 u Q) : MX l D ad cI cZ cS rs A0 yX1_beginDust cX1_beginDust 2 (some .int) 1 [.ref (ad 4), .int x1] u (jWi Q) := by
  unfold w_D_beginDust at h
  refine JMet.of (by decide) (Nat.le_of_ble_eq_true rfl) ?_
  refine J_sub (lv' := [(0, .ref (ad 4)), (1, .int x1)]) [0, 1] rfl ?_
  show a_D_beginDust l D ad cI cZ cS rs A0 (jWi Q) 0 [(0, .ref (ad 4)), (1, .int x1)] [] u
  refine J_aload_n 0 dX1_beginDust_0 rfl rfl ?_
  refine JU_Ri kU_RX1_18_RX1 rfl 4 rX_4 rfl rfl (c_R_size_1 h) rfl rfl (by decide) (Nat.le_of_ble_eq_true rfl) dX1_beginDust_1 (fun r1 h => ?_)
  refine J_bipush (v := 12) dX1_beginDust_4 cb_12 ?_
  refine J_icmp_ge (tgt := 16) dX1_beginDust_6 rfl (fun c => ?_) (fun c => ?_)
  · have h := h.1 c
    refine J_iconst (v := (-1)) dX1_beginDust_16 ci_m1 ?_
    exact J_iret rfl dX1_beginDust_17 ⟨_, rfl, h⟩
  · have h := h.2 c
    refine J_iload_n 1 dX1_beginDust_9 rfl rfl ?_
    refine JN_Ri kN_RX1_35 (c_X_isBigLetter h) rfl rfl (by decide) (Nat.le_of_ble_eq_true rfl) dX1_beginDust_10 (fun r3 h => ?_)
    refine J_if_ne (tgt := 18) dX1_beginDust_13 rfl (fun c => ?_) (fun c => ?_)
    · have h := h.1 c
      refine J_aload_n 0 dX1_beginDust_18 rfl rfl ?_
      refine J_iload_n 1 dX1_beginDust_19 rfl rfl ?_
      refine J_bipush (v := 65) dX1_beginDust_20 cb_65 ?_
      refine J_isub dX1_beginDust_22 ?_
      refine pX_4_4 dX1_beginDust_23 ?_
      refine J_iconst (v := 2) dX1_beginDust_26 ci_2 ?_
      exact J_iret rfl dX1_beginDust_27 ⟨_, rfl, h⟩
    · have h := h.2 c
      refine J_iconst (v := (-1)) dX1_beginDust_16 ci_m1 ?_
      exact J_iret rfl dX1_beginDust_17 ⟨_, rfl, h⟩
abbrev a_X_isSmallLetter (l : Launch) (D : va_G) (ad : Nat → Nat) (cI cZ cS : ClassId) (rs : va_W) (A0 : Nat → Prop) := AX l D ad cI cZ cS rs A0 cX10_isSmallLetter 1 (some .boolean) RX10 0
set_option maxRecDepth 20000 in
set_option maxHeartbeats 4000000 in
theorem c_X_isSmallLetter {u : Mem} {x0 : Int32} {Q : Int32 → Prop} (h : w_X_isSmallLetter x0 Q) : MX l D ad cI cZ cS rs A0 yX10_isSmallLetter cX10_isSmallLetter 1 (some .boolean) 0 [.int x0] u (jRi u Q) := by
  unfold w_X_isSmallLetter at h
  refine JMet.of (by decide) (Nat.le_of_ble_eq_true rfl) ?_
  refine J_sub (lv' := [(0, .int x0)]) [0] rfl ?_
  show a_X_isSmallLetter l D ad cI cZ cS rs A0 (jRi u Q) 0 [(0, .int x0)] [] u
  refine J_iload_n 0 dX10_isSmallLetter_0 rfl rfl ?_
  refine J_bipush (v := 97) dX10_isSmallLetter_1 cb_97 ?_
  refine J_icmp_lt (tgt := 16) dX10_isSmallLetter_3 rfl (fun c => ?_) (fun c => ?_)
  · have h := h.1 c
    refine J_iconst (v := 0) dX10_isSmallLetter_16 ci_0 ?_
    exact J_zret rfl dX10_isSmallLetter_17 (bz_n bz_0) ⟨rfl, _, rfl, h⟩
  · have h := h.2 c
    refine J_iload_n 0 dX10_isSmallLetter_6 rfl rfl ?_
    refine J_bipush (v := 104) dX10_isSmallLetter_7 cb_104 ?_
    refine J_icmp_gt (tgt := 16) dX10_isSmallLetter_9 rfl (fun c => ?_) (fun c => ?_)
    · have h := h.1 c
      refine J_iconst (v := 0) dX10_isSmallLetter_16 ci_0 ?_
      exact J_zret rfl dX10_isSmallLetter_17 (bz_n bz_0) ⟨rfl, _, rfl, h⟩
    · have h := h.2 c
      refine J_iconst (v := 1) dX10_isSmallLetter_12 ci_1 ?_
      refine J_goto (tgt := 17) dX10_isSmallLetter_13 rfl ?_
      exact J_zret rfl dX10_isSmallLetter_17 (bz_n bz_1) ⟨rfl, _, rfl, h⟩
abbrev a_R_addOne_0 (l : Launch) (D : va_G) (ad : Nat → Nat) (cI cZ cS : ClassId) (rs : va_W) (A0 : Nat → Prop) := AX l D ad cI cZ cS rs A0 cX5_addOne 1 none RX5 0
set_option maxRecDepth 20000 in
set_option maxHeartbeats 4000000 in
theorem c_R_addOne_0 {u : Mem} {Q : Mem → Prop} (h : w_R_addOne_0 u Q) : MX l D ad cI cZ cS rs A0 yX5_addOne cX5_addOne 1 none 0 [.ref (ad 3)] u (jWv Q) := by
  unfold w_R_addOne_0 at h
  refine JMet.of (by decide) (Nat.le_of_ble_eq_true rfl) ?_
  refine J_sub (lv' := [(0, .ref (ad 3))]) [0] rfl ?_
  show a_R_addOne_0 l D ad cI cZ cS rs A0 (jWv Q) 0 [(0, .ref (ad 3))] [] u
  refine J_aload_n 0 dX5_addOne_0 rfl rfl ?_
  refine J_dup dX5_addOne_1 rfl ?_
  refine gX_3_0 (v := (u.1 4)) rfl dX5_addOne_2 ?_
  refine J_iconst (v := 1) dX5_addOne_5 ci_1 ?_
  refine J_iadd dX5_addOne_6 ?_
  refine pX_3_0 dX5_addOne_7 ?_
  exact J_vret rfl dX5_addOne_10 ⟨rfl, h⟩
abbrev a_R_addOne_1 (l : Launch) (D : va_G) (ad : Nat → Nat) (cI cZ cS : ClassId) (rs : va_W) (A0 : Nat → Prop) := AX l D ad cI cZ cS rs A0 cX5_addOne 1 none RX5 0
set_option maxRecDepth 20000 in
set_option maxHeartbeats 4000000 in
theorem c_R_addOne_1 {u : Mem} {Q : Mem → Prop} (h : w_R_addOne_1 u Q) : MX l D ad cI cZ cS rs A0 yX5_addOne cX5_addOne 1 none 0 [.ref (ad 4)] u (jWv Q) := by
  unfold w_R_addOne_1 at h
  refine JMet.of (by decide) (Nat.le_of_ble_eq_true rfl) ?_
  refine J_sub (lv' := [(0, .ref (ad 4))]) [0] rfl ?_
  show a_R_addOne_1 l D ad cI cZ cS rs A0 (jWv Q) 0 [(0, .ref (ad 4))] [] u
  refine J_aload_n 0 dX5_addOne_0 rfl rfl ?_
  refine J_dup dX5_addOne_1 rfl ?_
  refine gX_4_0 (v := (u.1 8)) rfl dX5_addOne_2 ?_
  refine J_iconst (v := 1) dX5_addOne_5 ci_1 ?_
  refine J_iadd dX5_addOne_6 ?_
  refine pX_4_0 dX5_addOne_7 ?_
  exact J_vret rfl dX5_addOne_10 ⟨rfl, h⟩
abbrev a_D_endDust (l : Launch) (D : va_G) (ad : Nat → Nat) (cI cZ cS : ClassId) (rs : va_W) (A0 : Nat → Prop) := AX l D ad cI cZ cS rs A0 cX1_endDust 3 (some .int) RX1 1
set_option maxRecDepth 20000 in
set_option maxHeartbeats 4000000 in
theorem c_D_endDust {u : Mem} {x1 : Int32} {Q : Int32 → Mem → Prop} (h : w_D_endDust x1 u Q) : MX l D ad cI cZ cS rs A0 yX1_endDust cX1_endDust 3 (some .int) 1 [.ref (ad 4), .int x1] u (jWi Q) := by
  unfold w_D_endDust at h
  refine JMet.of (by decide) (Nat.le_of_ble_eq_true rfl) ?_
  refine J_sub (lv' := [(0, .ref (ad 4)), (1, .int x1)]) [0, 1] rfl ?_
  show a_D_endDust l D ad cI cZ cS rs A0 (jWi Q) 0 [(0, .ref (ad 4)), (1, .int x1)] [] u
  refine J_aload_n 0 dX1_endDust_0 rfl rfl ?_
  refine JU_Ri kU_RX1_18_RX1 rfl 4 rX_4 rfl rfl (c_R_size_1 h) rfl rfl (by decide) (Nat.le_of_ble_eq_true rfl) dX1_endDust_1 (fun r1 h => ?_)
  refine J_istore_n (lv' := [(2, .int r1), (0, .ref (ad 4)), (1, .int x1)]) dX1_endDust_4 rfl (Nat.le_of_ble_eq_true rfl) rfl ?_
  refine J_iload_n 2 dX1_endDust_5 rfl rfl ?_
  refine JN_Ri kN_RX1_43 (c_X_isSmallLetter h) rfl rfl (by decide) (Nat.le_of_ble_eq_true rfl) dX1_endDust_6 (fun r3 h => ?_)
  refine J_if_eq (tgt := 22) dX1_endDust_9 rfl (fun c => ?_) (fun c => ?_)
  · have h := h.1 c
    refine J_iconst (v := (-1)) dX1_endDust_22 ci_m1 ?_
    exact J_iret rfl dX1_endDust_23 ⟨_, rfl, h⟩
  · have h := h.2 c
    refine J_iload_n 0 dX1_endDust_12 rfl rfl ?_
    refine J_if_lt (tgt := 22) dX1_endDust_13 rfl (fun c => ?_) (fun c => ?_)
    · have h := h.1 c
      refine J_iconst (v := (-1)) dX1_endDust_22 ci_m1 ?_
      exact J_iret rfl dX1_endDust_23 ⟨_, rfl, h⟩
    · have h := h.2 c
      refine J_iload_n 0 dX1_endDust_16 rfl rfl ?_
      refine J_bipush (v := 12) dX1_endDust_17 cb_12 ?_
      refine J_icmp_lt (tgt := 24) dX1_endDust_19 rfl (fun c => ?_) (fun c => ?_)
      · have h := h.1 c
        refine J_aload_n 1 dX1_endDust_24 rfl rfl ?_
        refine gX_4_2 dX1_endDust_25 ?_
        refine J_iload_n 0 dX1_endDust_28 rfl rfl ?_
        refine J_aload_n 1 dX1_endDust_29 rfl rfl ?_
        refine gX_4_4 (v := (u.1 10)) rfl dX1_endDust_30 ?_
        refine tX_5 h.1 dX1_endDust_33 ?_
        have h := h.2
        refine J_aload_n 1 dX1_endDust_34 rfl rfl ?_
        refine gX_4_3 dX1_endDust_35 ?_
        refine J_iload_n 0 dX1_endDust_38 rfl rfl ?_
        refine J_iload_n 2 dX1_endDust_39 rfl rfl ?_
        refine J_bipush (v := 97) dX1_endDust_40 cb_97 ?_
        refine J_isub dX1_endDust_42 ?_
        refine tX_6 h.1 dX1_endDust_43 ?_
        have h := h.2
        refine J_aload_n 1 dX1_endDust_44 rfl rfl ?_
        refine JU_Wv kU_RX1_46_RX1 rfl 4 rX_4 rfl rfl (c_R_addOne_1 h) rfl rfl (by decide) (Nat.le_of_ble_eq_true rfl) dX1_endDust_45 (fun u6 h => ?_)
        refine J_iconst (v := 1) dX1_endDust_48 ci_1 ?_
        exact J_iret rfl dX1_endDust_49 ⟨_, rfl, h⟩
      · have h := h.2 c
        refine J_iconst (v := (-1)) dX1_endDust_22 ci_m1 ?_
        exact J_iret rfl dX1_endDust_23 ⟨_, rfl, h⟩
abbrev a_D_stateBehind (l : Launch) (D : va_G) (ad : Nat → Nat) (cI cZ cS : ClassId) (rs : va_W) (A0 : Nat → Prop) := AX l D ad cI cZ cS rs A0 cX1_stateBehind 3 (some .int) RX1 2
set_option maxRecDepth 20000 in
set_option maxHeartbeats 4000000 in
theorem c_D_stateBehind {u : Mem} {x1 : Int32} {x2 : Int32} {Q : Int32 → Mem → Prop} (h : w_D_stateBehind x1 x2 u Q) : MX l D ad cI cZ cS rs A0 yX1_stateBehind cX1_stateBehind 3 (some .int) 2 [.ref (ad 4), .int x1, .int x2] u (jWi Q) := by
  unfold w_D_stateBehind at h
  refine JMet.of (by decide) (Nat.le_of_ble_eq_true rfl) ?_
  refine J_sub (lv' := [(0, .ref (ad 4)), (1, .int x1), (2, .int x2)]) [0, 1, 2] rfl ?_
  show a_D_stateBehind l D ad cI cZ cS rs A0 (jWi Q) 0 [(0, .ref (ad 4)), (1, .int x1), (2, .int x2)] [] u
  refine J_iload_n 1 dX1_stateBehind_0 rfl rfl ?_
  rcases sw_0_2 x1 with c | c | c | c
  · have h := h.1 c
    refine J_tin (off := 27) (tgt := 28) dX1_stateBehind_1 (by rw [c]; decide) (by rw [c]; decide) (by rw [c]; rfl) rfl ?_
    refine J_aload_n 0 dX1_stateBehind_28 rfl rfl ?_
    refine J_iload_n 2 dX1_stateBehind_29 rfl rfl ?_
    refine JV_Wi kV_RX1_29 4 rX_4 rfl rfl (c_D_beginDust h) rfl rfl (by decide) (Nat.le_of_ble_eq_true rfl) dX1_stateBehind_30 (fun r1 u2 h => ?_)
    exact J_iret rfl dX1_stateBehind_33 ⟨_, rfl, h⟩
  · have h := h.2.1 c
    refine J_tin (off := 39) (tgt := 40) dX1_stateBehind_1 (by rw [c]; decide) (by rw [c]; decide) (by rw [c]; rfl) rfl ?_
    refine J_iload_n 2 dX1_stateBehind_40 rfl rfl ?_
    refine J_bipush (v := 59) dX1_stateBehind_41 cb_59 ?_
    refine J_icmp_ne (tgt := 50) dX1_stateBehind_43 rfl (fun c => ?_) (fun c => ?_)
    · have h := h.1 c
      refine J_iconst (v := (-1)) dX1_stateBehind_50 ci_m1 ?_
      exact J_iret rfl dX1_stateBehind_51 ⟨_, rfl, h⟩
    · have h := h.2 c
      refine J_iconst (v := 0) dX1_stateBehind_46 ci_0 ?_
      refine J_goto (tgt := 51) dX1_stateBehind_47 rfl ?_
      exact J_iret rfl dX1_stateBehind_51 ⟨_, rfl, h⟩
  · have h := h.2.2.1 c
    refine J_tin (off := 33) (tgt := 34) dX1_stateBehind_1 (by rw [c]; decide) (by rw [c]; decide) (by rw [c]; rfl) rfl ?_
    refine J_aload_n 0 dX1_stateBehind_34 rfl rfl ?_
    refine J_iload_n 2 dX1_stateBehind_35 rfl rfl ?_
    refine JV_Wi kV_RX1_32 4 rX_4 rfl rfl (c_D_endDust h) rfl rfl (by decide) (Nat.le_of_ble_eq_true rfl) dX1_stateBehind_36 (fun r3 u4 h => ?_)
    exact J_iret rfl dX1_stateBehind_39 ⟨_, rfl, h⟩
  · have h := h.2.2.2 c
    refine J_tout (tgt := 52) dX1_stateBehind_1 c rfl ?_
    refine J_iconst (v := (-1)) dX1_stateBehind_52 ci_m1 ?_
    exact J_iret rfl dX1_stateBehind_53 ⟨_, rfl, h⟩
abbrev a_L_isPlus (l : Launch) (D : va_G) (ad : Nat → Nat) (cI cZ cS : ClassId) (rs : va_W) (A0 : Nat → Prop) := AX l D ad cI cZ cS rs A0 cX3_isPlus 2 (some .boolean) RX3 0
set_option maxRecDepth 20000 in
set_option maxHeartbeats 4000000 in
theorem c_L_isPlus {u : Mem} {x1 : Int32} {Q : Int32 → Prop} (h : w_L_isPlus x1 u Q) : MX l D ad cI cZ cS rs A0 yX3_isPlus cX3_isPlus 2 (some .boolean) 0 [.ref (ad 3), .int x1] u (jRi u Q) := by
  unfold w_L_isPlus at h
  refine JMet.of (by decide) (Nat.le_of_ble_eq_true rfl) ?_
  refine J_sub (lv' := [(0, .ref (ad 3)), (1, .int x1)]) [0, 1] rfl ?_
  show a_L_isPlus l D ad cI cZ cS rs A0 (jRi u Q) 0 [(0, .ref (ad 3)), (1, .int x1)] [] u
  refine J_iload_n 1 dX3_isPlus_0 rfl rfl ?_
  refine J_if_lt (tgt := 23) dX3_isPlus_1 rfl (fun c => ?_) (fun c => ?_)
  · have h := h.1 c
    refine J_iconst (v := 0) dX3_isPlus_23 ci_0 ?_
    exact J_zret rfl dX3_isPlus_24 (bz_n bz_0) ⟨rfl, _, rfl, h⟩
  · have h := h.2 c
    refine J_iload_n 1 dX3_isPlus_4 rfl rfl ?_
    refine J_bipush (v := 16) dX3_isPlus_5 cb_16 ?_
    refine J_icmp_ge (tgt := 23) dX3_isPlus_7 rfl (fun c => ?_) (fun c => ?_)
    · have h := h.1 c
      refine J_iconst (v := 0) dX3_isPlus_23 ci_0 ?_
      exact J_zret rfl dX3_isPlus_24 (bz_n bz_0) ⟨rfl, _, rfl, h⟩
    · have h := h.2 c
      refine J_aload_n 0 dX3_isPlus_10 rfl rfl ?_
      refine gX_3_3 dX3_isPlus_11 ?_
      refine J_iload_n 1 dX3_isPlus_14 rfl rfl ?_
      refine lX_3 (v := (u.2 3 x1.toNatClampNeg)) h.1 rfl dX3_isPlus_15 ?_
      have h := h.2
      refine J_if_eq (tgt := 23) dX3_isPlus_16 rfl (fun c => ?_) (fun c => ?_)
      · have h := h.1 c
        refine J_iconst (v := 0) dX3_isPlus_23 ci_0 ?_
        exact J_zret rfl dX3_isPlus_24 (bz_n bz_0) ⟨rfl, _, rfl, h⟩
      · have h := h.2 c
        refine J_iconst (v := 1) dX3_isPlus_19 ci_1 ?_
        refine J_goto (tgt := 24) dX3_isPlus_20 rfl ?_
        exact J_zret rfl dX3_isPlus_24 (bz_n bz_1) ⟨rfl, _, rfl, h⟩
abbrev a_L_smallOf (l : Launch) (D : va_G) (ad : Nat → Nat) (cI cZ cS : ClassId) (rs : va_W) (A0 : Nat → Prop) := AX l D ad cI cZ cS rs A0 cX3_smallOf 2 (some .int) RX3 0
set_option maxRecDepth 20000 in
set_option maxHeartbeats 4000000 in
theorem c_L_smallOf {u : Mem} {x1 : Int32} {Q : Int32 → Prop} (h : w_L_smallOf x1 u Q) : MX l D ad cI cZ cS rs A0 yX3_smallOf cX3_smallOf 2 (some .int) 0 [.ref (ad 3), .int x1] u (jRi u Q) := by
  unfold w_L_smallOf at h
  refine JMet.of (by decide) (Nat.le_of_ble_eq_true rfl) ?_
  refine J_sub (lv' := [(0, .ref (ad 3)), (1, .int x1)]) [0, 1] rfl ?_
  show a_L_smallOf l D ad cI cZ cS rs A0 (jRi u Q) 0 [(0, .ref (ad 3)), (1, .int x1)] [] u
  refine J_iload_n 1 dX3_smallOf_0 rfl rfl ?_
  refine J_if_lt (tgt := 19) dX3_smallOf_1 rfl (fun c => ?_) (fun c => ?_)
  · have h := h.1 c
    refine J_iconst (v := 0) dX3_smallOf_19 ci_0 ?_
    exact J_iret rfl dX3_smallOf_20 ⟨rfl, _, rfl, h⟩
  · have h := h.2 c
    refine J_iload_n 1 dX3_smallOf_4 rfl rfl ?_
    refine J_bipush (v := 16) dX3_smallOf_5 cb_16 ?_
    refine J_icmp_ge (tgt := 19) dX3_smallOf_7 rfl (fun c => ?_) (fun c => ?_)
    · have h := h.1 c
      refine J_iconst (v := 0) dX3_smallOf_19 ci_0 ?_
      exact J_iret rfl dX3_smallOf_20 ⟨rfl, _, rfl, h⟩
    · have h := h.2 c
      refine J_aload_n 0 dX3_smallOf_10 rfl rfl ?_
      refine gX_3_2 dX3_smallOf_11 ?_
      refine J_iload_n 1 dX3_smallOf_14 rfl rfl ?_
      refine lX_2 (v := (u.2 2 x1.toNatClampNeg)) h.1 rfl dX3_smallOf_15 ?_
      have h := h.2
      refine J_goto (tgt := 20) dX3_smallOf_16 rfl ?_
      exact J_iret rfl dX3_smallOf_20 ⟨rfl, _, rfl, h⟩
abbrev a_L_bigOf (l : Launch) (D : va_G) (ad : Nat → Nat) (cI cZ cS : ClassId) (rs : va_W) (A0 : Nat → Prop) := AX l D ad cI cZ cS rs A0 cX3_bigOf 2 (some .int) RX3 0
set_option maxRecDepth 20000 in
set_option maxHeartbeats 4000000 in
theorem c_L_bigOf {u : Mem} {x1 : Int32} {Q : Int32 → Prop} (h : w_L_bigOf x1 u Q) : MX l D ad cI cZ cS rs A0 yX3_bigOf cX3_bigOf 2 (some .int) 0 [.ref (ad 3), .int x1] u (jRi u Q) := by
  unfold w_L_bigOf at h
  refine JMet.of (by decide) (Nat.le_of_ble_eq_true rfl) ?_
  refine J_sub (lv' := [(0, .ref (ad 3)), (1, .int x1)]) [0, 1] rfl ?_
  show a_L_bigOf l D ad cI cZ cS rs A0 (jRi u Q) 0 [(0, .ref (ad 3)), (1, .int x1)] [] u
  refine J_iload_n 1 dX3_bigOf_0 rfl rfl ?_
  refine J_if_lt (tgt := 19) dX3_bigOf_1 rfl (fun c => ?_) (fun c => ?_)
  · have h := h.1 c
    refine J_iconst (v := 0) dX3_bigOf_19 ci_0 ?_
    exact J_iret rfl dX3_bigOf_20 ⟨rfl, _, rfl, h⟩
  · have h := h.2 c
    refine J_iload_n 1 dX3_bigOf_4 rfl rfl ?_
    refine J_bipush (v := 16) dX3_bigOf_5 cb_16 ?_
    refine J_icmp_ge (tgt := 19) dX3_bigOf_7 rfl (fun c => ?_) (fun c => ?_)
    · have h := h.1 c
      refine J_iconst (v := 0) dX3_bigOf_19 ci_0 ?_
      exact J_iret rfl dX3_bigOf_20 ⟨rfl, _, rfl, h⟩
    · have h := h.2 c
      refine J_aload_n 0 dX3_bigOf_10 rfl rfl ?_
      refine gX_3_4 dX3_bigOf_11 ?_
      refine J_iload_n 1 dX3_bigOf_14 rfl rfl ?_
      refine lX_4 (v := (u.2 4 x1.toNatClampNeg)) h.1 rfl dX3_bigOf_15 ?_
      have h := h.2
      refine J_goto (tgt := 20) dX3_bigOf_16 rfl ?_
      exact J_iret rfl dX3_bigOf_20 ⟨rfl, _, rfl, h⟩
abbrev a_L_heldBy (l : Launch) (D : va_G) (ad : Nat → Nat) (cI cZ cS : ClassId) (rs : va_W) (A0 : Nat → Prop) := AX l D ad cI cZ cS rs A0 cX3_heldBy 5 (some .int) RX3 1
set_option maxRecDepth 20000 in
set_option maxHeartbeats 4000000 in
theorem t_L_heldBy_l5 {u : Mem}  {X : Int32 → Prop} {x1 : Int32} {x2 : Int32} {Q : Int32 → Prop} (hX : ∀ (x3 : Int32), X x3 → a_L_heldBy l D ad cI cZ cS rs A0 (jRi u Q) 54 [(3, .int x3)] [] u) : ∀ (n : Nat) (x3 : Int32) (x4 : Int32), w_L_heldBy_l5 X x1 x2 u Q n x3 x4 → a_L_heldBy l D ad cI cZ cS rs A0 (jRi u Q) 5 [(0, .ref (ad 3)), (1, .int x1), (2, .int x2), (3, .int x3), (4, .int x4)] [] u := by
  intro n
  induction n with
  | zero =>
    intro x3 x4 h
    exact (by simp only [w_L_heldBy_l5] at h : False).elim
  | succ n ih =>
    intro x3 x4 h
    rw [w_L_heldBy_l5] at h
    refine J_iload 4 dX3_heldBy_5 rfl ?_
    refine J_aload_n 0 dX3_heldBy_7 rfl rfl ?_
    refine JU_Ri kU_RX3_22_RX3 rfl 3 rX_3 rfl rfl (c_R_size_0 h) rfl rfl (by decide) (Nat.le_of_ble_eq_true rfl) dX3_heldBy_8 (fun r1 h => ?_)
    refine J_icmp_ge (tgt := 54) dX3_heldBy_11 rfl (fun c => ?_) (fun c => ?_)
    · have h := h.1 c
      exact J_sub (lv' := [(3, .int x3)]) [3] rfl (hX x3 h)
    · have h := h.2 c
      refine J_aload_n 0 dX3_heldBy_14 rfl rfl ?_
      refine J_iload 4 dX3_heldBy_15 rfl ?_
      refine JV_Ri kV_RX3_26 3 rX_3 rfl rfl (c_L_isPlus h) rfl rfl (by decide) (Nat.le_of_ble_eq_true rfl) dX3_heldBy_17 (fun r3 h => ?_)
      refine J_iload_n 2 dX3_heldBy_20 rfl rfl ?_
      refine J_icmp_ne (tgt := 48) dX3_heldBy_21 rfl (fun c => ?_) (fun c => ?_)
      · have h := h.1 c
        refine J_iinc (v := (x4 + 1)) (lv' := [(4, .int (x4 + 1)), (0, .ref (ad 3)), (1, .int x1), (2, .int x2), (3, .int x3)]) 4 dX3_heldBy_48 rfl rfl (Nat.le_of_ble_eq_true rfl) rfl ?_
        refine J_goto (tgt := 5) dX3_heldBy_51 rfl ?_
        exact J_sub (lv' := [(0, .ref (ad 3)), (1, .int x1), (2, .int x2), (3, .int x3), (4, .int (x4 + 1))]) [1, 2, 3, 4, 0] rfl (ih x3 (x4 + 1) h)
      · have h := h.2 c
        refine J_aload_n 0 dX3_heldBy_24 rfl rfl ?_
        refine J_iload 4 dX3_heldBy_25 rfl ?_
        refine JV_Ri kV_RX3_30 3 rX_3 rfl rfl (c_L_smallOf h) rfl rfl (by decide) (Nat.le_of_ble_eq_true rfl) dX3_heldBy_27 (fun r5 h => ?_)
        refine J_iload_n 1 dX3_heldBy_30 rfl rfl ?_
        refine J_iconst (v := (-1)) dX3_heldBy_31 ci_m1 ?_
        refine J_ixor dX3_heldBy_32 ?_
        refine J_iand dX3_heldBy_33 ?_
        refine J_if_ne (tgt := 48) dX3_heldBy_34 rfl (fun c => ?_) (fun c => ?_)
        · have h := h.1 c
          refine J_iinc (v := (x4 + 1)) (lv' := [(4, .int (x4 + 1)), (0, .ref (ad 3)), (1, .int x1), (2, .int x2), (3, .int x3)]) 4 dX3_heldBy_48 rfl rfl (Nat.le_of_ble_eq_true rfl) rfl ?_
          refine J_goto (tgt := 5) dX3_heldBy_51 rfl ?_
          exact J_sub (lv' := [(0, .ref (ad 3)), (1, .int x1), (2, .int x2), (3, .int x3), (4, .int (x4 + 1))]) [1, 2, 3, 4, 0] rfl (ih x3 (x4 + 1) h)
        · have h := h.2 c
          refine J_iload_n 3 dX3_heldBy_37 rfl rfl ?_
          refine J_iconst (v := 1) dX3_heldBy_38 ci_1 ?_
          refine J_aload_n 0 dX3_heldBy_39 rfl rfl ?_
          refine J_iload 4 dX3_heldBy_40 rfl ?_
          refine JV_Ri kV_RX3_34 3 rX_3 rfl rfl (c_L_bigOf h) rfl rfl (by decide) (Nat.le_of_ble_eq_true rfl) dX3_heldBy_42 (fun r7 h => ?_)
          refine J_ishl dX3_heldBy_45 ?_
          refine J_ior dX3_heldBy_46 ?_
          refine J_istore_n (lv' := [(3, .int (x3 ||| ((1 : Int32) <<< (r7 &&& 31)))), (0, .ref (ad 3)), (1, .int x1), (2, .int x2), (4, .int x4)]) dX3_heldBy_47 rfl (Nat.le_of_ble_eq_true rfl) rfl ?_
          refine J_iinc (v := (x4 + 1)) (lv' := [(4, .int (x4 + 1)), (3, .int (x3 ||| ((1 : Int32) <<< (r7 &&& 31)))), (0, .ref (ad 3)), (1, .int x1), (2, .int x2)]) 4 dX3_heldBy_48 rfl rfl (Nat.le_of_ble_eq_true rfl) rfl ?_
          refine J_goto (tgt := 5) dX3_heldBy_51 rfl ?_
          exact J_sub (lv' := [(0, .ref (ad 3)), (1, .int x1), (2, .int x2), (3, .int (x3 ||| ((1 : Int32) <<< (r7 &&& 31)))), (4, .int (x4 + 1))]) [2, 3, 4, 1, 0] rfl (ih (x3 ||| ((1 : Int32) <<< (r7 &&& 31))) (x4 + 1) h)
set_option maxRecDepth 20000 in
set_option maxHeartbeats 4000000 in
theorem c_L_heldBy {u : Mem} {x1 : Int32} {x2 : Int32} {Q : Int32 → Prop} (h : w_L_heldBy x1 x2 u Q) : MX l D ad cI cZ cS rs A0 yX3_heldBy cX3_heldBy 5 (some .int) 1 [.ref (ad 3), .int x1, .int x2] u (jRi u Q) := by
  unfold w_L_heldBy at h
  refine JMet.of (by decide) (Nat.le_of_ble_eq_true rfl) ?_
  refine J_sub (lv' := [(0, .ref (ad 3)), (1, .int x1), (2, .int x2)]) [0, 1, 2] rfl ?_
  show a_L_heldBy l D ad cI cZ cS rs A0 (jRi u Q) 0 [(0, .ref (ad 3)), (1, .int x1), (2, .int x2)] [] u
  refine J_iconst (v := 0) dX3_heldBy_0 ci_0 ?_
  refine J_istore_n (lv' := [(3, .int 0), (0, .ref (ad 3)), (1, .int x1), (2, .int x2)]) dX3_heldBy_1 rfl (Nat.le_of_ble_eq_true rfl) rfl ?_
  refine J_iconst (v := 0) dX3_heldBy_2 ci_0 ?_
  refine J_istore (lv' := [(4, .int 0), (3, .int 0), (0, .ref (ad 3)), (1, .int x1), (2, .int x2)]) dX3_heldBy_3 (Nat.le_of_ble_eq_true rfl) rfl ?_
  obtain ⟨n10, h⟩ := h
  refine J_sub (lv' := [(0, .ref (ad 3)), (1, .int x1), (2, .int x2), (3, .int 0), (4, .int 0)]) [2, 3, 4, 1, 0] rfl (t_L_heldBy_l5 ?_ n10 0 0 h)
  · intro z9 h
    refine J_iload_n 0 dX3_heldBy_54 rfl rfl ?_
    exact J_iret rfl dX3_heldBy_55 ⟨rfl, _, rfl, h⟩
abbrev a_H_fill (l : Launch) (D : va_G) (ad : Nat → Nat) (cI cZ cS : ClassId) (rs : va_W) (A0 : Nat → Prop) := AX l D ad cI cZ cS rs A0 cX2_fill 4 none RX2 2
set_option maxRecDepth 20000 in
set_option maxHeartbeats 4000000 in
theorem t_H_fill_l2  {X : Mem → Prop} {Q : Mem → Prop} (hX : ∀ (u : Mem), X u → a_H_fill l D ad cI cZ cS rs A0 (jWv Q) 64 [] [] u) : ∀ (n : Nat) (x3 : Int32) (u : Mem), w_H_fill_l2 X Q n x3 u → a_H_fill l D ad cI cZ cS rs A0 (jWv Q) 2 [(0, .ref (ad 5)), (1, .ref (ad 3)), (2, .ref (ad 4)), (3, .int x3)] [] u := by
  intro n
  induction n with
  | zero =>
    intro x3 u h
    exact (by simp only [w_H_fill_l2] at h : False).elim
  | succ n ih =>
    intro x3 u h
    rw [w_H_fill_l2] at h
    refine J_iload_n 3 dX2_fill_2 rfl rfl ?_
    refine J_sipush (v := 256) dX2_fill_3 cs_256 ?_
    refine J_icmp_ge (tgt := 64) dX2_fill_6 rfl (fun c => ?_) (fun c => ?_)
    · have h := h.1 c
      exact J_sub (lv' := []) [] rfl (hX u h)
    · have h := h.2 c
      refine J_aload_n 0 dX2_fill_9 rfl rfl ?_
      refine gX_5_0 dX2_fill_10 ?_
      refine J_iload_n 3 dX2_fill_13 rfl rfl ?_
      refine J_aload_n 1 dX2_fill_14 rfl rfl ?_
      refine J_iload_n 3 dX2_fill_15 rfl rfl ?_
      refine J_iconst (v := 1) dX2_fill_16 ci_1 ?_
      refine JV_Ri kV_RX2_21 3 rX_3 rfl rfl (c_L_heldBy h) rfl rfl (by decide) (Nat.le_of_ble_eq_true rfl) dX2_fill_17 (fun r1 h => ?_)
      refine tX_7 h.1 dX2_fill_20 ?_
      have h := h.2
      refine J_aload_n 0 dX2_fill_21 rfl rfl ?_
      refine gX_5_1 dX2_fill_22 ?_
      refine J_iload_n 3 dX2_fill_25 rfl rfl ?_
      refine J_aload_n 1 dX2_fill_26 rfl rfl ?_
      refine J_iload_n 3 dX2_fill_27 rfl rfl ?_
      refine J_iconst (v := 0) dX2_fill_28 ci_0 ?_
      refine JV_Ri kV_RX2_21 3 rX_3 rfl rfl (c_L_heldBy h) rfl rfl (by decide) (Nat.le_of_ble_eq_true rfl) dX2_fill_29 (fun r3 h => ?_)
      refine tX_8 h.1 dX2_fill_32 ?_
      have h := h.2
      refine J_aload_n 0 dX2_fill_33 rfl rfl ?_
      refine gX_5_2 dX2_fill_34 ?_
      refine J_iload_n 3 dX2_fill_37 rfl rfl ?_
      refine J_aload_n 2 dX2_fill_38 rfl rfl ?_
      refine J_aload_n 0 dX2_fill_39 rfl rfl ?_
      refine gX_5_0 dX2_fill_40 ?_
      refine J_iload_n 3 dX2_fill_43 rfl rfl ?_
      refine lX_7 (v := ((sA u 7 x3.toNatClampNeg r1).2 7 x3.toNatClampNeg)) h.1 rfl dX2_fill_44 ?_
      have h := h.2
      refine J_aload_n 0 dX2_fill_45 rfl rfl ?_
      refine gX_5_1 dX2_fill_46 ?_
      refine J_iload_n 3 dX2_fill_49 rfl rfl ?_
      refine lX_8 (v := ((sA (sA u 7 x3.toNatClampNeg r1) 8 x3.toNatClampNeg r3).2 8 x3.toNatClampNeg)) h.1 rfl dX2_fill_50 ?_
      have h := h.2
      refine J_topi (fun y5 ey5 => ?_)
      have h := h y5 ey5
      refine J_iconst (v := (-1)) dX2_fill_51 ci_m1 ?_
      refine J_ixor dX2_fill_52 ?_
      refine J_iand dX2_fill_53 ?_
      refine J_topi (fun y6 ey6 => ?_)
      have h := h y6 ey6
      refine JV_Ri kV_RX2_27 4 rX_4 rfl rfl (c_D_laidBy h) rfl rfl (by decide) (Nat.le_of_ble_eq_true rfl) dX2_fill_54 (fun r7 h => ?_)
      refine tX_9 h.1 dX2_fill_57 ?_
      have h := h.2
      refine J_iinc (v := (x3 + 1)) (lv' := [(3, .int (x3 + 1)), (0, .ref (ad 5)), (1, .ref (ad 3)), (2, .ref (ad 4))]) 3 dX2_fill_58 rfl rfl (Nat.le_of_ble_eq_true rfl) rfl ?_
      refine J_goto (tgt := 2) dX2_fill_61 rfl ?_
      exact J_sub (lv' := [(0, .ref (ad 5)), (1, .ref (ad 3)), (2, .ref (ad 4)), (3, .int (x3 + 1))]) [1, 2, 3, 0] rfl (ih (x3 + 1) (sA (sA (sA u 7 x3.toNatClampNeg r1) 8 x3.toNatClampNeg r3) 9 x3.toNatClampNeg r7) h)
set_option maxRecDepth 20000 in
set_option maxHeartbeats 4000000 in
theorem c_H_fill {u : Mem} {Q : Mem → Prop} (h : w_H_fill u Q) : MX l D ad cI cZ cS rs A0 yX2_fill cX2_fill 4 none 2 [.ref (ad 5), .ref (ad 3), .ref (ad 4)] u (jWv Q) := by
  unfold w_H_fill at h
  refine JMet.of (by decide) (Nat.le_of_ble_eq_true rfl) ?_
  refine J_sub (lv' := [(0, .ref (ad 5)), (1, .ref (ad 3)), (2, .ref (ad 4))]) [0, 1, 2] rfl ?_
  show a_H_fill l D ad cI cZ cS rs A0 (jWv Q) 0 [(0, .ref (ad 5)), (1, .ref (ad 3)), (2, .ref (ad 4))] [] u
  refine J_iconst (v := 0) dX2_fill_0 ci_0 ?_
  refine J_istore_n (lv' := [(3, .int 0), (0, .ref (ad 5)), (1, .ref (ad 3)), (2, .ref (ad 4))]) dX2_fill_1 rfl (Nat.le_of_ble_eq_true rfl) rfl ?_
  obtain ⟨n10, h⟩ := h
  refine J_sub (lv' := [(0, .ref (ad 5)), (1, .ref (ad 3)), (2, .ref (ad 4)), (3, .int 0)]) [1, 2, 3, 0] rfl (t_H_fill_l2 ?_ n10 0 u h)
  · intro u9 h
    exact J_vret rfl dX2_fill_64 ⟨rfl, h⟩
abbrev a_H_disagreeBy (l : Launch) (D : va_G) (ad : Nat → Nat) (cI cZ cS : ClassId) (rs : va_W) (A0 : Nat → Prop) := AX l D ad cI cZ cS rs A0 cX2_disagreeBy 2 (some .int) RX2 0
set_option maxRecDepth 20000 in
set_option maxHeartbeats 4000000 in
theorem c_H_disagreeBy {u : Mem} {x1 : Int32} {Q : Int32 → Prop} (h : w_H_disagreeBy x1 u Q) : MX l D ad cI cZ cS rs A0 yX2_disagreeBy cX2_disagreeBy 2 (some .int) 0 [.ref (ad 5), .int x1] u (jRi u Q) := by
  unfold w_H_disagreeBy at h
  refine JMet.of (by decide) (Nat.le_of_ble_eq_true rfl) ?_
  refine J_sub (lv' := [(0, .ref (ad 5)), (1, .int x1)]) [0, 1] rfl ?_
  show a_H_disagreeBy l D ad cI cZ cS rs A0 (jRi u Q) 0 [(0, .ref (ad 5)), (1, .int x1)] [] u
  refine J_aload_n 0 dX2_disagreeBy_0 rfl rfl ?_
  refine gX_5_0 dX2_disagreeBy_1 ?_
  refine J_iload_n 1 dX2_disagreeBy_4 rfl rfl ?_
  refine J_sipush (v := 255) dX2_disagreeBy_5 cs_255 ?_
  refine J_iand dX2_disagreeBy_8 ?_
  refine lX_7 (v := (u.2 7 (x1 &&& 255).toNatClampNeg)) h.1 rfl dX2_disagreeBy_9 ?_
  have h := h.2
  refine J_aload_n 0 dX2_disagreeBy_10 rfl rfl ?_
  refine gX_5_1 dX2_disagreeBy_11 ?_
  refine J_iload_n 1 dX2_disagreeBy_14 rfl rfl ?_
  refine J_sipush (v := 255) dX2_disagreeBy_15 cs_255 ?_
  refine J_iand dX2_disagreeBy_18 ?_
  refine lX_8 (v := (u.2 8 (x1 &&& 255).toNatClampNeg)) h.1 rfl dX2_disagreeBy_19 ?_
  have h := h.2
  refine J_iand dX2_disagreeBy_20 ?_
  refine J_topi (fun y1 ey1 => ?_)
  have h := h y1 ey1
  exact J_iret rfl dX2_disagreeBy_21 ⟨rfl, _, rfl, h⟩
abbrev a_H_weekBehind (l : Launch) (D : va_G) (ad : Nat → Nat) (cI cZ cS : ClassId) (rs : va_W) (A0 : Nat → Prop) := AX l D ad cI cZ cS rs A0 cX2_weekBehind 2 (some .int) RX2 0
set_option maxRecDepth 20000 in
set_option maxHeartbeats 4000000 in
theorem c_H_weekBehind {u : Mem} {x1 : Int32} {Q : Int32 → Prop} (h : w_H_weekBehind x1 u Q) : MX l D ad cI cZ cS rs A0 yX2_weekBehind cX2_weekBehind 2 (some .int) 0 [.ref (ad 5), .int x1] u (jRi u Q) := by
  unfold w_H_weekBehind at h
  refine JMet.of (by decide) (Nat.le_of_ble_eq_true rfl) ?_
  refine J_sub (lv' := [(0, .ref (ad 5)), (1, .int x1)]) [0, 1] rfl ?_
  show a_H_weekBehind l D ad cI cZ cS rs A0 (jRi u Q) 0 [(0, .ref (ad 5)), (1, .int x1)] [] u
  refine J_aload_n 0 dX2_weekBehind_0 rfl rfl ?_
  refine gX_5_2 dX2_weekBehind_1 ?_
  refine J_iload_n 1 dX2_weekBehind_4 rfl rfl ?_
  refine J_sipush (v := 255) dX2_weekBehind_5 cs_255 ?_
  refine J_iand dX2_weekBehind_8 ?_
  refine lX_9 (v := (u.2 9 (x1 &&& 255).toNatClampNeg)) h.1 rfl dX2_weekBehind_9 ?_
  have h := h.2
  exact J_iret rfl dX2_weekBehind_10 ⟨rfl, _, rfl, h⟩
abbrev a_L_plusCount (l : Launch) (D : va_G) (ad : Nat → Nat) (cI cZ cS : ClassId) (rs : va_W) (A0 : Nat → Prop) := AX l D ad cI cZ cS rs A0 cX3_plusCount 3 (some .int) RX3 1
set_option maxRecDepth 20000 in
set_option maxHeartbeats 4000000 in
theorem t_L_plusCount_l4 {u : Mem}  {X : Int32 → Prop} {Q : Int32 → Prop} (hX : ∀ (x1 : Int32), X x1 → a_L_plusCount l D ad cI cZ cS rs A0 (jRi u Q) 29 [(1, .int x1)] [] u) : ∀ (n : Nat) (x1 : Int32) (x2 : Int32), w_L_plusCount_l4 X u Q n x1 x2 → a_L_plusCount l D ad cI cZ cS rs A0 (jRi u Q) 4 [(0, .ref (ad 3)), (1, .int x1), (2, .int x2)] [] u := by
  intro n
  induction n with
  | zero =>
    intro x1 x2 h
    exact (by simp only [w_L_plusCount_l4] at h : False).elim
  | succ n ih =>
    intro x1 x2 h
    rw [w_L_plusCount_l4] at h
    refine J_iload_n 2 dX3_plusCount_4 rfl rfl ?_
    refine J_aload_n 0 dX3_plusCount_5 rfl rfl ?_
    refine JU_Ri kU_RX3_22_RX3 rfl 3 rX_3 rfl rfl (c_R_size_0 h) rfl rfl (by decide) (Nat.le_of_ble_eq_true rfl) dX3_plusCount_6 (fun r1 h => ?_)
    refine J_icmp_ge (tgt := 29) dX3_plusCount_9 rfl (fun c => ?_) (fun c => ?_)
    · have h := h.1 c
      exact J_sub (lv' := [(1, .int x1)]) [1] rfl (hX x1 h)
    · have h := h.2 c
      refine J_aload_n 0 dX3_plusCount_12 rfl rfl ?_
      refine J_iload_n 2 dX3_plusCount_13 rfl rfl ?_
      refine JV_Ri kV_RX3_26 3 rX_3 rfl rfl (c_L_isPlus h) rfl rfl (by decide) (Nat.le_of_ble_eq_true rfl) dX3_plusCount_14 (fun r3 h => ?_)
      refine J_if_eq (tgt := 23) dX3_plusCount_17 rfl (fun c => ?_) (fun c => ?_)
      · have h := h.1 c
        refine J_iinc (v := (x2 + 1)) (lv' := [(2, .int (x2 + 1)), (0, .ref (ad 3)), (1, .int x1)]) 2 dX3_plusCount_23 rfl rfl (Nat.le_of_ble_eq_true rfl) rfl ?_
        refine J_goto (tgt := 4) dX3_plusCount_26 rfl ?_
        exact J_sub (lv' := [(0, .ref (ad 3)), (1, .int x1), (2, .int (x2 + 1))]) [1, 2, 0] rfl (ih x1 (x2 + 1) h)
      · have h := h.2 c
        refine J_iinc (v := (x1 + 1)) (lv' := [(1, .int (x1 + 1)), (0, .ref (ad 3)), (2, .int x2)]) 1 dX3_plusCount_20 rfl rfl (Nat.le_of_ble_eq_true rfl) rfl ?_
        refine J_iinc (v := (x2 + 1)) (lv' := [(2, .int (x2 + 1)), (1, .int (x1 + 1)), (0, .ref (ad 3))]) 2 dX3_plusCount_23 rfl rfl (Nat.le_of_ble_eq_true rfl) rfl ?_
        refine J_goto (tgt := 4) dX3_plusCount_26 rfl ?_
        exact J_sub (lv' := [(0, .ref (ad 3)), (1, .int (x1 + 1)), (2, .int (x2 + 1))]) [2, 1, 0] rfl (ih (x1 + 1) (x2 + 1) h)
set_option maxRecDepth 20000 in
set_option maxHeartbeats 4000000 in
theorem c_L_plusCount {u : Mem} {Q : Int32 → Prop} (h : w_L_plusCount u Q) : MX l D ad cI cZ cS rs A0 yX3_plusCount cX3_plusCount 3 (some .int) 1 [.ref (ad 3)] u (jRi u Q) := by
  unfold w_L_plusCount at h
  refine JMet.of (by decide) (Nat.le_of_ble_eq_true rfl) ?_
  refine J_sub (lv' := [(0, .ref (ad 3))]) [0] rfl ?_
  show a_L_plusCount l D ad cI cZ cS rs A0 (jRi u Q) 0 [(0, .ref (ad 3))] [] u
  refine J_iconst (v := 0) dX3_plusCount_0 ci_0 ?_
  refine J_istore_n (lv' := [(1, .int 0), (0, .ref (ad 3))]) dX3_plusCount_1 rfl (Nat.le_of_ble_eq_true rfl) rfl ?_
  refine J_iconst (v := 0) dX3_plusCount_2 ci_0 ?_
  refine J_istore_n (lv' := [(2, .int 0), (1, .int 0), (0, .ref (ad 3))]) dX3_plusCount_3 rfl (Nat.le_of_ble_eq_true rfl) rfl ?_
  obtain ⟨n6, h⟩ := h
  refine J_sub (lv' := [(0, .ref (ad 3)), (1, .int 0), (2, .int 0)]) [2, 1, 0] rfl (t_L_plusCount_l4 ?_ n6 0 0 h)
  · intro z5 h
    refine J_iload_n 0 dX3_plusCount_29 rfl rfl ?_
    exact J_iret rfl dX3_plusCount_30 ⟨rfl, _, rfl, h⟩
abbrev a_L_standsFor (l : Launch) (D : va_G) (ad : Nat → Nat) (cI cZ cS : ClassId) (rs : va_W) (A0 : Nat → Prop) := AX l D ad cI cZ cS rs A0 cX3_standsFor 4 (some .int) RX3 1
set_option maxRecDepth 20000 in
set_option maxHeartbeats 4000000 in
theorem t_L_standsFor_l4 {u : Mem}  {X : Int32 → Prop} {x1 : Int32} {Q : Int32 → Prop} (hX : ∀ (x2 : Int32), X x2 → a_L_standsFor l D ad cI cZ cS rs A0 (jRi u Q) 49 [(2, .int x2)] [] u) : ∀ (n : Nat) (x2 : Int32) (x3 : Int32), w_L_standsFor_l4 X x1 u Q n x2 x3 → a_L_standsFor l D ad cI cZ cS rs A0 (jRi u Q) 4 [(0, .ref (ad 3)), (1, .int x1), (2, .int x2), (3, .int x3)] [] u := by
  intro n
  induction n with
  | zero =>
    intro x2 x3 h
    exact (by simp only [w_L_standsFor_l4] at h : False).elim
  | succ n ih =>
    intro x2 x3 h
    rw [w_L_standsFor_l4] at h
    refine J_iload_n 3 dX3_standsFor_4 rfl rfl ?_
    refine J_aload_n 0 dX3_standsFor_5 rfl rfl ?_
    refine JU_Ri kU_RX3_22_RX3 rfl 3 rX_3 rfl rfl (c_R_size_0 h) rfl rfl (by decide) (Nat.le_of_ble_eq_true rfl) dX3_standsFor_6 (fun r1 h => ?_)
    refine J_icmp_ge (tgt := 49) dX3_standsFor_9 rfl (fun c => ?_) (fun c => ?_)
    · have h := h.1 c
      exact J_sub (lv' := [(2, .int x2)]) [2] rfl (hX x2 h)
    · have h := h.2 c
      refine J_aload_n 0 dX3_standsFor_12 rfl rfl ?_
      refine J_iload_n 3 dX3_standsFor_13 rfl rfl ?_
      refine JV_Ri kV_RX3_26 3 rX_3 rfl rfl (c_L_isPlus h) rfl rfl (by decide) (Nat.le_of_ble_eq_true rfl) dX3_standsFor_14 (fun r3 h => ?_)
      refine J_if_eq (tgt := 43) dX3_standsFor_17 rfl (fun c => ?_) (fun c => ?_)
      · have h := h.1 c
        refine J_iinc (v := (x3 + 1)) (lv' := [(3, .int (x3 + 1)), (0, .ref (ad 3)), (1, .int x1), (2, .int x2)]) 3 dX3_standsFor_43 rfl rfl (Nat.le_of_ble_eq_true rfl) rfl ?_
        refine J_goto (tgt := 4) dX3_standsFor_46 rfl ?_
        exact J_sub (lv' := [(0, .ref (ad 3)), (1, .int x1), (2, .int x2), (3, .int (x3 + 1))]) [1, 2, 3, 0] rfl (ih x2 (x3 + 1) h)
      · have h := h.2 c
        refine J_aload_n 0 dX3_standsFor_20 rfl rfl ?_
        refine J_iload_n 3 dX3_standsFor_21 rfl rfl ?_
        refine JV_Ri kV_RX3_30 3 rX_3 rfl rfl (c_L_smallOf h) rfl rfl (by decide) (Nat.le_of_ble_eq_true rfl) dX3_standsFor_22 (fun r5 h => ?_)
        refine J_iload_n 1 dX3_standsFor_25 rfl rfl ?_
        refine J_ishr dX3_standsFor_26 ?_
        refine J_iconst (v := 1) dX3_standsFor_27 ci_1 ?_
        refine J_iand dX3_standsFor_28 ?_
        refine J_iconst (v := 1) dX3_standsFor_29 ci_1 ?_
        refine J_icmp_ne (tgt := 43) dX3_standsFor_30 rfl (fun c => ?_) (fun c => ?_)
        · have h := h.1 c
          refine J_iinc (v := (x3 + 1)) (lv' := [(3, .int (x3 + 1)), (0, .ref (ad 3)), (1, .int x1), (2, .int x2)]) 3 dX3_standsFor_43 rfl rfl (Nat.le_of_ble_eq_true rfl) rfl ?_
          refine J_goto (tgt := 4) dX3_standsFor_46 rfl ?_
          exact J_sub (lv' := [(0, .ref (ad 3)), (1, .int x1), (2, .int x2), (3, .int (x3 + 1))]) [1, 2, 3, 0] rfl (ih x2 (x3 + 1) h)
        · have h := h.2 c
          refine J_iload_n 2 dX3_standsFor_33 rfl rfl ?_
          refine J_iconst (v := 1) dX3_standsFor_34 ci_1 ?_
          refine J_aload_n 0 dX3_standsFor_35 rfl rfl ?_
          refine J_iload_n 3 dX3_standsFor_36 rfl rfl ?_
          refine JV_Ri kV_RX3_34 3 rX_3 rfl rfl (c_L_bigOf h) rfl rfl (by decide) (Nat.le_of_ble_eq_true rfl) dX3_standsFor_37 (fun r7 h => ?_)
          refine J_ishl dX3_standsFor_40 ?_
          refine J_ior dX3_standsFor_41 ?_
          refine J_istore_n (lv' := [(2, .int (x2 ||| ((1 : Int32) <<< (r7 &&& 31)))), (0, .ref (ad 3)), (1, .int x1), (3, .int x3)]) dX3_standsFor_42 rfl (Nat.le_of_ble_eq_true rfl) rfl ?_
          refine J_iinc (v := (x3 + 1)) (lv' := [(3, .int (x3 + 1)), (2, .int (x2 ||| ((1 : Int32) <<< (r7 &&& 31)))), (0, .ref (ad 3)), (1, .int x1)]) 3 dX3_standsFor_43 rfl rfl (Nat.le_of_ble_eq_true rfl) rfl ?_
          refine J_goto (tgt := 4) dX3_standsFor_46 rfl ?_
          exact J_sub (lv' := [(0, .ref (ad 3)), (1, .int x1), (2, .int (x2 ||| ((1 : Int32) <<< (r7 &&& 31)))), (3, .int (x3 + 1))]) [2, 3, 1, 0] rfl (ih (x2 ||| ((1 : Int32) <<< (r7 &&& 31))) (x3 + 1) h)
set_option maxRecDepth 20000 in
set_option maxHeartbeats 4000000 in
theorem c_L_standsFor {u : Mem} {x1 : Int32} {Q : Int32 → Prop} (h : w_L_standsFor x1 u Q) : MX l D ad cI cZ cS rs A0 yX3_standsFor cX3_standsFor 4 (some .int) 1 [.ref (ad 3), .int x1] u (jRi u Q) := by
  unfold w_L_standsFor at h
  refine JMet.of (by decide) (Nat.le_of_ble_eq_true rfl) ?_
  refine J_sub (lv' := [(0, .ref (ad 3)), (1, .int x1)]) [0, 1] rfl ?_
  show a_L_standsFor l D ad cI cZ cS rs A0 (jRi u Q) 0 [(0, .ref (ad 3)), (1, .int x1)] [] u
  refine J_iconst (v := 0) dX3_standsFor_0 ci_0 ?_
  refine J_istore_n (lv' := [(2, .int 0), (0, .ref (ad 3)), (1, .int x1)]) dX3_standsFor_1 rfl (Nat.le_of_ble_eq_true rfl) rfl ?_
  refine J_iconst (v := 0) dX3_standsFor_2 ci_0 ?_
  refine J_istore_n (lv' := [(3, .int 0), (2, .int 0), (0, .ref (ad 3)), (1, .int x1)]) dX3_standsFor_3 rfl (Nat.le_of_ble_eq_true rfl) rfl ?_
  obtain ⟨n10, h⟩ := h
  refine J_sub (lv' := [(0, .ref (ad 3)), (1, .int x1), (2, .int 0), (3, .int 0)]) [2, 3, 1, 0] rfl (t_L_standsFor_l4 ?_ n10 0 0 h)
  · intro z9 h
    refine J_iload_n 0 dX3_standsFor_49 rfl rfl ?_
    exact J_iret rfl dX3_standsFor_50 ⟨rfl, _, rfl, h⟩
abbrev a_L_beginLaw (l : Launch) (D : va_G) (ad : Nat → Nat) (cI cZ cS : ClassId) (rs : va_W) (A0 : Nat → Prop) := AX l D ad cI cZ cS rs A0 cX3_beginLaw 2 (some .int) RX3 1
set_option maxRecDepth 20000 in
set_option maxHeartbeats 4000000 in
theorem c_L_beginLaw {u : Mem} {x1 : Int32} {Q : Int32 → Mem → Prop} (h : w_L_beginLaw x1 u Q) : MX l D ad cI cZ cS rs A0 yX3_beginLaw cX3_beginLaw 2 (some .int) 1 [.ref (ad 3), .int x1] u (jWi Q) := by
  unfold w_L_beginLaw at h
  refine JMet.of (by decide) (Nat.le_of_ble_eq_true rfl) ?_
  refine J_sub (lv' := [(0, .ref (ad 3)), (1, .int x1)]) [0, 1] rfl ?_
  show a_L_beginLaw l D ad cI cZ cS rs A0 (jWi Q) 0 [(0, .ref (ad 3)), (1, .int x1)] [] u
  refine J_aload_n 0 dX3_beginLaw_0 rfl rfl ?_
  refine JU_Ri kU_RX3_22_RX3 rfl 3 rX_3 rfl rfl (c_R_size_0 h) rfl rfl (by decide) (Nat.le_of_ble_eq_true rfl) dX3_beginLaw_1 (fun r1 h => ?_)
  refine J_bipush (v := 16) dX3_beginLaw_4 cb_16 ?_
  refine J_icmp_ge (tgt := 16) dX3_beginLaw_6 rfl (fun c => ?_) (fun c => ?_)
  · have h := h.1 c
    refine J_iconst (v := (-1)) dX3_beginLaw_16 ci_m1 ?_
    exact J_iret rfl dX3_beginLaw_17 ⟨_, rfl, h⟩
  · have h := h.2 c
    refine J_iload_n 1 dX3_beginLaw_9 rfl rfl ?_
    refine JN_Ri kN_RX3_40 (c_X_isSmallLetter h) rfl rfl (by decide) (Nat.le_of_ble_eq_true rfl) dX3_beginLaw_10 (fun r3 h => ?_)
    refine J_if_ne (tgt := 18) dX3_beginLaw_13 rfl (fun c => ?_) (fun c => ?_)
    · have h := h.1 c
      refine J_aload_n 0 dX3_beginLaw_18 rfl rfl ?_
      refine J_iconst (v := 1) dX3_beginLaw_19 ci_1 ?_
      refine J_iload_n 1 dX3_beginLaw_20 rfl rfl ?_
      refine J_bipush (v := 97) dX3_beginLaw_21 cb_97 ?_
      refine J_isub dX3_beginLaw_23 ?_
      refine J_ishl dX3_beginLaw_24 ?_
      refine pX_3_5 dX3_beginLaw_25 ?_
      refine J_iconst (v := 2) dX3_beginLaw_28 ci_2 ?_
      exact J_iret rfl dX3_beginLaw_29 ⟨_, rfl, h⟩
    · have h := h.2 c
      refine J_iconst (v := (-1)) dX3_beginLaw_16 ci_m1 ?_
      exact J_iret rfl dX3_beginLaw_17 ⟨_, rfl, h⟩
abbrev a_L_pairWith (l : Launch) (D : va_G) (ad : Nat → Nat) (cI cZ cS : ClassId) (rs : va_W) (A0 : Nat → Prop) := AX l D ad cI cZ cS rs A0 cX3_pairWith 3 (some .int) RX3 0
set_option maxRecDepth 20000 in
set_option maxHeartbeats 4000000 in
theorem c_L_pairWith {u : Mem} {x1 : Int32} {Q : Int32 → Mem → Prop} (h : w_L_pairWith x1 u Q) : MX l D ad cI cZ cS rs A0 yX3_pairWith cX3_pairWith 3 (some .int) 0 [.ref (ad 3), .int x1] u (jWi Q) := by
  unfold w_L_pairWith at h
  refine JMet.of (by decide) (Nat.le_of_ble_eq_true rfl) ?_
  refine J_sub (lv' := [(0, .ref (ad 3)), (1, .int x1)]) [0, 1] rfl ?_
  show a_L_pairWith l D ad cI cZ cS rs A0 (jWi Q) 0 [(0, .ref (ad 3)), (1, .int x1)] [] u
  refine J_iconst (v := 1) dX3_pairWith_0 ci_1 ?_
  refine J_iload_n 1 dX3_pairWith_1 rfl rfl ?_
  refine J_bipush (v := 97) dX3_pairWith_2 cb_97 ?_
  refine J_isub dX3_pairWith_4 ?_
  refine J_ishl dX3_pairWith_5 ?_
  refine J_istore_n (lv' := [(2, .int ((1 : Int32) <<< ((x1 - 97) &&& 31))), (0, .ref (ad 3)), (1, .int x1)]) dX3_pairWith_6 rfl (Nat.le_of_ble_eq_true rfl) rfl ?_
  refine J_iload_n 0 dX3_pairWith_7 rfl rfl ?_
  refine J_aload_n 1 dX3_pairWith_8 rfl rfl ?_
  refine gX_3_5 (v := (u.1 6)) rfl dX3_pairWith_9 ?_
  refine J_icmp_gt (tgt := 17) dX3_pairWith_12 rfl (fun c => ?_) (fun c => ?_)
  · have h := h.1 c
    refine J_aload_n 1 dX3_pairWith_17 rfl rfl ?_
    refine J_dup dX3_pairWith_18 rfl ?_
    refine gX_3_5 (v := (u.1 6)) rfl dX3_pairWith_19 ?_
    refine J_iload_n 0 dX3_pairWith_22 rfl rfl ?_
    refine J_ior dX3_pairWith_23 ?_
    refine pX_3_5 dX3_pairWith_24 ?_
    refine J_iconst (v := 3) dX3_pairWith_27 ci_3 ?_
    exact J_iret rfl dX3_pairWith_28 ⟨_, rfl, h⟩
  · have h := h.2 c
    refine J_iconst (v := (-1)) dX3_pairWith_15 ci_m1 ?_
    exact J_iret rfl dX3_pairWith_16 ⟨_, rfl, h⟩
abbrev a_L_takeSign (l : Launch) (D : va_G) (ad : Nat → Nat) (cI cZ cS : ClassId) (rs : va_W) (A0 : Nat → Prop) := AX l D ad cI cZ cS rs A0 cX3_takeSign 2 (some .int) RX3 0
set_option maxRecDepth 20000 in
set_option maxHeartbeats 4000000 in
theorem t_L_takeSign_b28 {u : Mem} {Q : Int32 → Mem → Prop} (h : w_L_takeSign_b28 u Q) : a_L_takeSign l D ad cI cZ cS rs A0 (jWi Q) 28 [] [] u := by
  unfold w_L_takeSign_b28 at h
  refine J_iconst (v := 4) dX3_takeSign_28 ci_4 ?_
  refine J_goto (tgt := 33) dX3_takeSign_29 rfl ?_
  exact J_iret rfl dX3_takeSign_33 ⟨_, rfl, h⟩
set_option maxRecDepth 20000 in
set_option maxHeartbeats 4000000 in
theorem t_L_takeSign_b12 {u : Mem} {x1 : Int32} {s0 : Int32} {Q : Int32 → Mem → Prop} (h : w_L_takeSign_b12 x1 s0 u Q) : a_L_takeSign l D ad cI cZ cS rs A0 (jWi Q) 12 [(0, .ref (ad 3)), (1, .int x1)] [.int s0, .ref (ad 3)] u := by
  unfold w_L_takeSign_b12 at h
  refine pX_3_6 h.1 dX3_takeSign_12 ?_
  have h := h.2
  refine J_aload_n 0 dX3_takeSign_15 rfl rfl ?_
  refine gX_3_6 (v := s0) rfl dX3_takeSign_16 ?_
  refine J_if_ne (tgt := 28) dX3_takeSign_19 rfl (fun c => ?_) (fun c => ?_)
  · have h := h.1 c
    exact J_sub (lv' := []) [] rfl (t_L_takeSign_b28 h)
  · have h := h.2 c
    refine J_iload_n 1 dX3_takeSign_22 rfl rfl ?_
    refine J_bipush (v := 45) dX3_takeSign_23 cb_45 ?_
    refine J_icmp_ne (tgt := 32) dX3_takeSign_25 rfl (fun c => ?_) (fun c => ?_)
    · have h := h.1 c
      refine J_iconst (v := (-1)) dX3_takeSign_32 ci_m1 ?_
      exact J_iret rfl dX3_takeSign_33 ⟨_, rfl, h⟩
    · have h := h.2 c
      exact J_sub (lv' := []) [] rfl (t_L_takeSign_b28 h)
set_option maxRecDepth 20000 in
set_option maxHeartbeats 4000000 in
theorem c_L_takeSign {u : Mem} {x1 : Int32} {Q : Int32 → Mem → Prop} (h : w_L_takeSign x1 u Q) : MX l D ad cI cZ cS rs A0 yX3_takeSign cX3_takeSign 2 (some .int) 0 [.ref (ad 3), .int x1] u (jWi Q) := by
  unfold w_L_takeSign at h
  refine JMet.of (by decide) (Nat.le_of_ble_eq_true rfl) ?_
  refine J_sub (lv' := [(0, .ref (ad 3)), (1, .int x1)]) [0, 1] rfl ?_
  show a_L_takeSign l D ad cI cZ cS rs A0 (jWi Q) 0 [(0, .ref (ad 3)), (1, .int x1)] [] u
  refine J_aload_n 0 dX3_takeSign_0 rfl rfl ?_
  refine J_iload_n 1 dX3_takeSign_1 rfl rfl ?_
  refine J_bipush (v := 43) dX3_takeSign_2 cb_43 ?_
  refine J_icmp_ne (tgt := 11) dX3_takeSign_4 rfl (fun c => ?_) (fun c => ?_)
  · have h := h.1 c
    refine J_iconst (v := 0) dX3_takeSign_11 ci_0 ?_
    exact (t_L_takeSign_b12 h)
  · have h := h.2 c
    refine J_iconst (v := 1) dX3_takeSign_7 ci_1 ?_
    refine J_goto (tgt := 12) dX3_takeSign_8 rfl ?_
    exact (t_L_takeSign_b12 h)
abbrev a_L_endLaw (l : Launch) (D : va_G) (ad : Nat → Nat) (cI cZ cS : ClassId) (rs : va_W) (A0 : Nat → Prop) := AX l D ad cI cZ cS rs A0 cX3_endLaw 3 (some .int) RX3 1
set_option maxRecDepth 20000 in
set_option maxHeartbeats 4000000 in
theorem c_L_endLaw {u : Mem} {x1 : Int32} {Q : Int32 → Mem → Prop} (h : w_L_endLaw x1 u Q) : MX l D ad cI cZ cS rs A0 yX3_endLaw cX3_endLaw 3 (some .int) 1 [.ref (ad 3), .int x1] u (jWi Q) := by
  unfold w_L_endLaw at h
  refine JMet.of (by decide) (Nat.le_of_ble_eq_true rfl) ?_
  refine J_sub (lv' := [(0, .ref (ad 3)), (1, .int x1)]) [0, 1] rfl ?_
  show a_L_endLaw l D ad cI cZ cS rs A0 (jWi Q) 0 [(0, .ref (ad 3)), (1, .int x1)] [] u
  refine J_aload_n 0 dX3_endLaw_0 rfl rfl ?_
  refine JU_Ri kU_RX3_22_RX3 rfl 3 rX_3 rfl rfl (c_R_size_0 h) rfl rfl (by decide) (Nat.le_of_ble_eq_true rfl) dX3_endLaw_1 (fun r1 h => ?_)
  refine J_istore_n (lv' := [(2, .int r1), (0, .ref (ad 3)), (1, .int x1)]) dX3_endLaw_4 rfl (Nat.le_of_ble_eq_true rfl) rfl ?_
  refine J_iload_n 2 dX3_endLaw_5 rfl rfl ?_
  refine JN_Ri kN_RX3_60 (c_X_isBigLetter h) rfl rfl (by decide) (Nat.le_of_ble_eq_true rfl) dX3_endLaw_6 (fun r3 h => ?_)
  refine J_if_eq (tgt := 22) dX3_endLaw_9 rfl (fun c => ?_) (fun c => ?_)
  · have h := h.1 c
    refine J_iconst (v := (-1)) dX3_endLaw_22 ci_m1 ?_
    exact J_iret rfl dX3_endLaw_23 ⟨_, rfl, h⟩
  · have h := h.2 c
    refine J_iload_n 0 dX3_endLaw_12 rfl rfl ?_
    refine J_if_lt (tgt := 22) dX3_endLaw_13 rfl (fun c => ?_) (fun c => ?_)
    · have h := h.1 c
      refine J_iconst (v := (-1)) dX3_endLaw_22 ci_m1 ?_
      exact J_iret rfl dX3_endLaw_23 ⟨_, rfl, h⟩
    · have h := h.2 c
      refine J_iload_n 0 dX3_endLaw_16 rfl rfl ?_
      refine J_bipush (v := 16) dX3_endLaw_17 cb_16 ?_
      refine J_icmp_lt (tgt := 24) dX3_endLaw_19 rfl (fun c => ?_) (fun c => ?_)
      · have h := h.1 c
        refine J_aload_n 1 dX3_endLaw_24 rfl rfl ?_
        refine gX_3_2 dX3_endLaw_25 ?_
        refine J_iload_n 0 dX3_endLaw_28 rfl rfl ?_
        refine J_aload_n 1 dX3_endLaw_29 rfl rfl ?_
        refine gX_3_5 (v := (u.1 6)) rfl dX3_endLaw_30 ?_
        refine tX_2 h.1 dX3_endLaw_33 ?_
        have h := h.2
        refine J_aload_n 1 dX3_endLaw_34 rfl rfl ?_
        refine gX_3_3 dX3_endLaw_35 ?_
        refine J_iload_n 0 dX3_endLaw_38 rfl rfl ?_
        refine J_aload_n 1 dX3_endLaw_39 rfl rfl ?_
        refine gX_3_6 (v := (u.1 7)) rfl dX3_endLaw_40 ?_
        refine tX_3 h.1 dX3_endLaw_43 ?_
        have h := h.2
        refine J_aload_n 1 dX3_endLaw_44 rfl rfl ?_
        refine gX_3_4 dX3_endLaw_45 ?_
        refine J_iload_n 0 dX3_endLaw_48 rfl rfl ?_
        refine J_iload_n 2 dX3_endLaw_49 rfl rfl ?_
        refine J_bipush (v := 65) dX3_endLaw_50 cb_65 ?_
        refine J_isub dX3_endLaw_52 ?_
        refine tX_4 h.1 dX3_endLaw_53 ?_
        have h := h.2
        refine J_aload_n 1 dX3_endLaw_54 rfl rfl ?_
        refine JU_Wv kU_RX3_63_RX3 rfl 3 rX_3 rfl rfl (c_R_addOne_0 h) rfl rfl (by decide) (Nat.le_of_ble_eq_true rfl) dX3_endLaw_55 (fun u6 h => ?_)
        refine J_iconst (v := 1) dX3_endLaw_58 ci_1 ?_
        exact J_iret rfl dX3_endLaw_59 ⟨_, rfl, h⟩
      · have h := h.2 c
        refine J_iconst (v := (-1)) dX3_endLaw_22 ci_m1 ?_
        exact J_iret rfl dX3_endLaw_23 ⟨_, rfl, h⟩
abbrev a_L_stateBehind (l : Launch) (D : va_G) (ad : Nat → Nat) (cI cZ cS : ClassId) (rs : va_W) (A0 : Nat → Prop) := AX l D ad cI cZ cS rs A0 cX3_stateBehind 3 (some .int) RX3 2
set_option maxRecDepth 20000 in
set_option maxHeartbeats 4000000 in
theorem c_L_stateBehind {u : Mem} {x1 : Int32} {x2 : Int32} {Q : Int32 → Mem → Prop} (h : w_L_stateBehind x1 x2 u Q) : MX l D ad cI cZ cS rs A0 yX3_stateBehind cX3_stateBehind 3 (some .int) 2 [.ref (ad 3), .int x1, .int x2] u (jWi Q) := by
  unfold w_L_stateBehind at h
  refine JMet.of (by decide) (Nat.le_of_ble_eq_true rfl) ?_
  refine J_sub (lv' := [(0, .ref (ad 3)), (1, .int x1), (2, .int x2)]) [0, 1, 2] rfl ?_
  show a_L_stateBehind l D ad cI cZ cS rs A0 (jWi Q) 0 [(0, .ref (ad 3)), (1, .int x1), (2, .int x2)] [] u
  refine J_iload_n 1 dX3_stateBehind_0 rfl rfl ?_
  rcases sw_0_4 x1 with c | c | c | c | c | c
  · have h := h.1 c
    refine J_tin (off := 35) (tgt := 36) dX3_stateBehind_1 (by rw [c]; decide) (by rw [c]; decide) (by rw [c]; rfl) rfl ?_
    refine J_aload_n 0 dX3_stateBehind_36 rfl rfl ?_
    refine J_iload_n 2 dX3_stateBehind_37 rfl rfl ?_
    refine JV_Wi kV_RX3_37 3 rX_3 rfl rfl (c_L_beginLaw h) rfl rfl (by decide) (Nat.le_of_ble_eq_true rfl) dX3_stateBehind_38 (fun r1 u2 h => ?_)
    exact J_iret rfl dX3_stateBehind_41 ⟨_, rfl, h⟩
  · have h := h.2.1 c
    refine J_tin (off := 74) (tgt := 75) dX3_stateBehind_1 (by rw [c]; decide) (by rw [c]; decide) (by rw [c]; rfl) rfl ?_
    refine J_iload_n 2 dX3_stateBehind_75 rfl rfl ?_
    refine J_bipush (v := 59) dX3_stateBehind_76 cb_59 ?_
    refine J_icmp_ne (tgt := 85) dX3_stateBehind_78 rfl (fun c => ?_) (fun c => ?_)
    · have h := h.1 c
      refine J_iconst (v := (-1)) dX3_stateBehind_85 ci_m1 ?_
      exact J_iret rfl dX3_stateBehind_86 ⟨_, rfl, h⟩
    · have h := h.2 c
      refine J_iconst (v := 0) dX3_stateBehind_81 ci_0 ?_
      refine J_goto (tgt := 86) dX3_stateBehind_82 rfl ?_
      exact J_iret rfl dX3_stateBehind_86 ⟨_, rfl, h⟩
  · have h := h.2.2.1 c
    refine J_tin (off := 41) (tgt := 42) dX3_stateBehind_1 (by rw [c]; decide) (by rw [c]; decide) (by rw [c]; rfl) rfl ?_
    refine J_iload_n 2 dX3_stateBehind_42 rfl rfl ?_
    refine JN_Ri kN_RX3_40 (c_X_isSmallLetter h) rfl rfl (by decide) (Nat.le_of_ble_eq_true rfl) dX3_stateBehind_43 (fun r3 h => ?_)
    refine J_if_eq (tgt := 57) dX3_stateBehind_46 rfl (fun c => ?_) (fun c => ?_)
    · have h := h.1 c
      refine J_aload_n 0 dX3_stateBehind_57 rfl rfl ?_
      refine J_iload_n 2 dX3_stateBehind_58 rfl rfl ?_
      refine JV_Wi kV_RX3_46 3 rX_3 rfl rfl (c_L_takeSign h) rfl rfl (by decide) (Nat.le_of_ble_eq_true rfl) dX3_stateBehind_59 (fun r5 u6 h => ?_)
      exact J_iret rfl dX3_stateBehind_62 ⟨_, rfl, h⟩
    · have h := h.2 c
      refine J_aload_n 0 dX3_stateBehind_49 rfl rfl ?_
      refine J_iload_n 2 dX3_stateBehind_50 rfl rfl ?_
      refine JV_Wi kV_RX3_43 3 rX_3 rfl rfl (c_L_pairWith h) rfl rfl (by decide) (Nat.le_of_ble_eq_true rfl) dX3_stateBehind_51 (fun r7 u8 h => ?_)
      refine J_goto (tgt := 62) dX3_stateBehind_54 rfl ?_
      exact J_iret rfl dX3_stateBehind_62 ⟨_, rfl, h⟩
  · have h := h.2.2.2.1 c
    refine J_tin (off := 62) (tgt := 63) dX3_stateBehind_1 (by rw [c]; decide) (by rw [c]; decide) (by rw [c]; rfl) rfl ?_
    refine J_aload_n 0 dX3_stateBehind_63 rfl rfl ?_
    refine J_iload_n 2 dX3_stateBehind_64 rfl rfl ?_
    refine JV_Wi kV_RX3_46 3 rX_3 rfl rfl (c_L_takeSign h) rfl rfl (by decide) (Nat.le_of_ble_eq_true rfl) dX3_stateBehind_65 (fun r9 u10 h => ?_)
    exact J_iret rfl dX3_stateBehind_68 ⟨_, rfl, h⟩
  · have h := h.2.2.2.2.1 c
    refine J_tin (off := 68) (tgt := 69) dX3_stateBehind_1 (by rw [c]; decide) (by rw [c]; decide) (by rw [c]; rfl) rfl ?_
    refine J_aload_n 0 dX3_stateBehind_69 rfl rfl ?_
    refine J_iload_n 2 dX3_stateBehind_70 rfl rfl ?_
    refine JV_Wi kV_RX3_49 3 rX_3 rfl rfl (c_L_endLaw h) rfl rfl (by decide) (Nat.le_of_ble_eq_true rfl) dX3_stateBehind_71 (fun r11 u12 h => ?_)
    exact J_iret rfl dX3_stateBehind_74 ⟨_, rfl, h⟩
  · have h := h.2.2.2.2.2 c
    refine J_tout (tgt := 87) dX3_stateBehind_1 c rfl ?_
    refine J_iconst (v := (-1)) dX3_stateBehind_87 ci_m1 ?_
    exact J_iret rfl dX3_stateBehind_88 ⟨_, rfl, h⟩
abbrev a_I_bitCount (l : Launch) (D : va_G) (ad : Nat → Nat) (cI cZ cS : ClassId) (rs : va_W) (A0 : Nat → Prop) := AX l D ad cI cZ cS rs A0 cJ6_bitCount_0f7a4 1 (some .int) RJ6 0
set_option maxRecDepth 20000 in
set_option maxHeartbeats 4000000 in
theorem c_I_bitCount {u : Mem} {x0 : Int32} {Q : Int32 → Prop} (h : w_I_bitCount x0 Q) : MX l D ad cI cZ cS rs A0 yJ6_bitCount_0f7a4 cJ6_bitCount_0f7a4 1 (some .int) 0 [.int x0] u (jRi u Q) := by
  unfold w_I_bitCount at h
  refine JMet.of (by decide) (Nat.le_of_ble_eq_true rfl) ?_
  refine J_sub (lv' := [(0, .int x0)]) [0] rfl ?_
  show a_I_bitCount l D ad cI cZ cS rs A0 (jRi u Q) 0 [(0, .int x0)] [] u
  refine J_iload_n 0 dJ6_bitCount_0f7a4_0 rfl rfl ?_
  refine J_iload_n 0 dJ6_bitCount_0f7a4_1 rfl rfl ?_
  refine J_iconst (v := 1) dJ6_bitCount_0f7a4_2 ci_1 ?_
  refine J_iushr dJ6_bitCount_0f7a4_3 ?_
  refine J_ldcw (v := 1431655765) dJ6_bitCount_0f7a4_4 kk_RJ6_265 ?_
  refine J_iand dJ6_bitCount_0f7a4_7 ?_
  refine J_topi (fun y1 ey1 => ?_)
  have h := h y1 ey1
  refine J_isub dJ6_bitCount_0f7a4_8 ?_
  refine J_istore_n (lv' := [(0, .int (x0 - y1))]) dJ6_bitCount_0f7a4_9 rfl (Nat.le_of_ble_eq_true rfl) rfl ?_
  refine J_iload_n 0 dJ6_bitCount_0f7a4_10 rfl rfl ?_
  refine J_ldcw (v := 858993459) dJ6_bitCount_0f7a4_11 kk_RJ6_266 ?_
  refine J_iand dJ6_bitCount_0f7a4_14 ?_
  refine J_iload_n 0 dJ6_bitCount_0f7a4_15 rfl rfl ?_
  refine J_iconst (v := 2) dJ6_bitCount_0f7a4_16 ci_2 ?_
  refine J_iushr dJ6_bitCount_0f7a4_17 ?_
  refine J_topi (fun y2 ey2 => ?_)
  have h := h y2 ey2
  refine J_ldcw (v := 858993459) dJ6_bitCount_0f7a4_18 kk_RJ6_266 ?_
  refine J_iand dJ6_bitCount_0f7a4_21 ?_
  refine J_iadd dJ6_bitCount_0f7a4_22 ?_
  refine J_istore_n (lv' := [(0, .int (((x0 - y1) &&& 858993459) + (y2 &&& 858993459)))]) dJ6_bitCount_0f7a4_23 rfl (Nat.le_of_ble_eq_true rfl) rfl ?_
  refine J_iload_n 0 dJ6_bitCount_0f7a4_24 rfl rfl ?_
  refine J_iload_n 0 dJ6_bitCount_0f7a4_25 rfl rfl ?_
  refine J_iconst (v := 4) dJ6_bitCount_0f7a4_26 ci_4 ?_
  refine J_iushr dJ6_bitCount_0f7a4_27 ?_
  refine J_topi (fun y3 ey3 => ?_)
  have h := h y3 ey3
  refine J_iadd dJ6_bitCount_0f7a4_28 ?_
  refine J_ldcw (v := 252645135) dJ6_bitCount_0f7a4_29 kk_RJ6_267 ?_
  refine J_iand dJ6_bitCount_0f7a4_32 ?_
  refine J_topi (fun y4 ey4 => ?_)
  have h := h y4 ey4
  refine J_istore_n (lv' := [(0, .int y4)]) dJ6_bitCount_0f7a4_33 rfl (Nat.le_of_ble_eq_true rfl) rfl ?_
  refine J_iload_n 0 dJ6_bitCount_0f7a4_34 rfl rfl ?_
  refine J_iload_n 0 dJ6_bitCount_0f7a4_35 rfl rfl ?_
  refine J_bipush (v := 8) dJ6_bitCount_0f7a4_36 cb_8 ?_
  refine J_iushr dJ6_bitCount_0f7a4_38 ?_
  refine J_iadd dJ6_bitCount_0f7a4_39 ?_
  refine J_topi (fun y5 ey5 => ?_)
  have h := h y5 ey5
  refine J_istore_n (lv' := [(0, .int y5)]) dJ6_bitCount_0f7a4_40 rfl (Nat.le_of_ble_eq_true rfl) rfl ?_
  refine J_iload_n 0 dJ6_bitCount_0f7a4_41 rfl rfl ?_
  refine J_iload_n 0 dJ6_bitCount_0f7a4_42 rfl rfl ?_
  refine J_bipush (v := 16) dJ6_bitCount_0f7a4_43 cb_16 ?_
  refine J_iushr dJ6_bitCount_0f7a4_45 ?_
  refine J_topi (fun y6 ey6 => ?_)
  have h := h y6 ey6
  refine J_iadd dJ6_bitCount_0f7a4_46 ?_
  refine J_istore_n (lv' := [(0, .int (y5 + y6))]) dJ6_bitCount_0f7a4_47 rfl (Nat.le_of_ble_eq_true rfl) rfl ?_
  refine J_iload_n 0 dJ6_bitCount_0f7a4_48 rfl rfl ?_
  refine J_bipush (v := 63) dJ6_bitCount_0f7a4_49 cb_63 ?_
  refine J_iand dJ6_bitCount_0f7a4_51 ?_
  exact J_iret rfl dJ6_bitCount_0f7a4_52 ⟨rfl, _, rfl, h⟩
abbrev a_P_isFewer (l : Launch) (D : va_G) (ad : Nat → Nat) (cI cZ cS : ClassId) (rs : va_W) (A0 : Nat → Prop) := AX l D ad cI cZ cS rs A0 cX4_isFewer 2 (some .boolean) RX4 1
set_option maxRecDepth 20000 in
set_option maxHeartbeats 4000000 in
theorem t_P_isFewer_b16 {u : Mem} {Q : Int32 → Prop} (h : w_P_isFewer_b16 Q) : a_P_isFewer l D ad cI cZ cS rs A0 (jRi u Q) 16 [] [] u := by
  unfold w_P_isFewer_b16 at h
  refine J_iconst (v := 1) dX4_isFewer_16 ci_1 ?_
  refine J_goto (tgt := 21) dX4_isFewer_17 rfl ?_
  exact J_zret rfl dX4_isFewer_21 (bz_n bz_1) ⟨rfl, _, rfl, h⟩
set_option maxRecDepth 20000 in
set_option maxHeartbeats 4000000 in
theorem c_P_isFewer {u : Mem} {x0 : Int32} {x1 : Int32} {Q : Int32 → Prop} (h : w_P_isFewer x0 x1 Q) : MX l D ad cI cZ cS rs A0 yX4_isFewer cX4_isFewer 2 (some .boolean) 1 [.int x0, .int x1] u (jRi u Q) := by
  unfold w_P_isFewer at h
  refine JMet.of (by decide) (Nat.le_of_ble_eq_true rfl) ?_
  refine J_sub (lv' := [(0, .int x0), (1, .int x1)]) [0, 1] rfl ?_
  show a_P_isFewer l D ad cI cZ cS rs A0 (jRi u Q) 0 [(0, .int x0), (1, .int x1)] [] u
  refine J_iload_n 1 dX4_isFewer_0 rfl rfl ?_
  refine J_iconst (v := (-1)) dX4_isFewer_1 ci_m1 ?_
  refine J_icmp_eq (tgt := 16) dX4_isFewer_2 rfl (fun c => ?_) (fun c => ?_)
  · have h := h.1 c
    exact J_sub (lv' := []) [] rfl (t_P_isFewer_b16 h)
  · have h := h.2 c
    refine J_iload_n 0 dX4_isFewer_5 rfl rfl ?_
    refine JS_Ri kS_RX4_44 (c_I_bitCount h) rfl rfl (by decide) (Nat.le_of_ble_eq_true rfl) dX4_isFewer_6 (fun r1 h => ?_)
    refine J_iload_n 1 dX4_isFewer_9 rfl rfl ?_
    refine JS_Ri kS_RX4_44 (c_I_bitCount h) rfl rfl (by decide) (Nat.le_of_ble_eq_true rfl) dX4_isFewer_10 (fun r3 h => ?_)
    refine J_icmp_ge (tgt := 20) dX4_isFewer_13 rfl (fun c => ?_) (fun c => ?_)
    · have h := h.1 c
      refine J_iconst (v := 0) dX4_isFewer_20 ci_0 ?_
      exact J_zret rfl dX4_isFewer_21 (bz_n bz_0) ⟨rfl, _, rfl, h⟩
    · have h := h.2 c
      exact J_sub (lv' := []) [] rfl (t_P_isFewer_b16 h)
abbrev a_P_bigsIn (l : Launch) (D : va_G) (ad : Nat → Nat) (cI cZ cS : ClassId) (rs : va_W) (A0 : Nat → Prop) := AX l D ad cI cZ cS rs A0 cX4_bigsIn 5 (some .int) RX4 1
set_option maxRecDepth 20000 in
set_option maxHeartbeats 4000000 in
theorem t_P_bigsIn_l5 {u : Mem}  {X : Int32 → Prop} {x2 : Int32} {Q : Int32 → Prop} (hX : ∀ (x3 : Int32), X x3 → a_P_bigsIn l D ad cI cZ cS rs A0 (jRi u Q) 23 [(0, .ref (ad 5)), (3, .int x3)] [] u) : ∀ (n : Nat) (x3 : Int32) (x4 : Int32), w_P_bigsIn_l5 X x2 u Q n x3 x4 → a_P_bigsIn l D ad cI cZ cS rs A0 (jRi u Q) 5 [(0, .ref (ad 5)), (2, .int x2), (3, .int x3), (4, .int x4)] [] u := by
  intro n
  induction n with
  | zero =>
    intro x3 x4 h
    exact (by simp only [w_P_bigsIn_l5] at h : False).elim
  | succ n ih =>
    intro x3 x4 h
    rw [w_P_bigsIn_l5] at h
    refine J_iload 3 dX4_bigsIn_5 rfl ?_
    refine J_iload_n 1 dX4_bigsIn_7 rfl rfl ?_
    refine J_icmp_ge (tgt := 23) dX4_bigsIn_8 rfl (fun c => ?_) (fun c => ?_)
    · have h := h.1 c
      exact J_sub (lv' := [(0, .ref (ad 5)), (3, .int x3)]) [0, 2] rfl (hX x3 h)
    · have h := h.2 c
      refine J_aload_n 0 dX4_bigsIn_11 rfl rfl ?_
      refine J_iload_n 2 dX4_bigsIn_12 rfl rfl ?_
      refine JV_Ri kV_RX4_23 5 rX_5 rfl rfl (c_H_weekBehind h) rfl rfl (by decide) (Nat.le_of_ble_eq_true rfl) dX4_bigsIn_13 (fun r1 h => ?_)
      refine J_istore_n (lv' := [(3, .int r1), (0, .ref (ad 5)), (2, .int x2), (4, .int x4)]) dX4_bigsIn_16 rfl (Nat.le_of_ble_eq_true rfl) rfl ?_
      refine J_iinc (v := (x4 + 1)) (lv' := [(4, .int (x4 + 1)), (3, .int r1), (0, .ref (ad 5)), (2, .int x2)]) 3 dX4_bigsIn_17 rfl rfl (Nat.le_of_ble_eq_true rfl) rfl ?_
      refine J_goto (tgt := 5) dX4_bigsIn_20 rfl ?_
      exact J_sub (lv' := [(0, .ref (ad 5)), (2, .int x2), (3, .int r1), (4, .int (x4 + 1))]) [2, 3, 1, 0] rfl (ih r1 (x4 + 1) h)
set_option maxRecDepth 20000 in
set_option maxHeartbeats 4000000 in
theorem c_P_bigsIn {u : Mem} {x1 : Int32} {x2 : Int32} {Q : Int32 → Prop} (h : w_P_bigsIn x1 x2 u Q) : MX l D ad cI cZ cS rs A0 yX4_bigsIn cX4_bigsIn 5 (some .int) 1 [.ref (ad 5), .int x1, .int x2] u (jRi u Q) := by
  unfold w_P_bigsIn at h
  refine JMet.of (by decide) (Nat.le_of_ble_eq_true rfl) ?_
  refine J_sub (lv' := [(0, .ref (ad 5)), (1, .int x1), (2, .int x2)]) [0, 1, 2] rfl ?_
  show a_P_bigsIn l D ad cI cZ cS rs A0 (jRi u Q) 0 [(0, .ref (ad 5)), (1, .int x1), (2, .int x2)] [] u
  refine J_iload_n 1 dX4_bigsIn_0 rfl rfl ?_
  refine J_istore_n (lv' := [(3, .int x1), (0, .ref (ad 5)), (1, .int x1), (2, .int x2)]) dX4_bigsIn_1 rfl (Nat.le_of_ble_eq_true rfl) rfl ?_
  refine J_iconst (v := 1) dX4_bigsIn_2 ci_1 ?_
  refine J_istore (lv' := [(4, .int 1), (3, .int x1), (0, .ref (ad 5)), (1, .int x1), (2, .int x2)]) dX4_bigsIn_3 (Nat.le_of_ble_eq_true rfl) rfl ?_
  obtain ⟨n6, h⟩ := h
  refine J_sub (lv' := [(0, .ref (ad 5)), (2, .int x2), (3, .int x1), (4, .int 1)]) [2, 4, 1, 0] rfl (t_P_bigsIn_l5 ?_ n6 x1 1 h)
  · intro z3 h
    refine J_aload_n 0 dX4_bigsIn_23 rfl rfl ?_
    refine J_iload_n 1 dX4_bigsIn_24 rfl rfl ?_
    refine JV_Ri kV_RX4_41 5 rX_5 rfl rfl (c_H_comesBy h) rfl rfl (by decide) (Nat.le_of_ble_eq_true rfl) dX4_bigsIn_25 (fun r4 h => ?_)
    exact J_iret rfl dX4_bigsIn_28 ⟨rfl, _, rfl, h⟩
abbrev a_P_fewestTouched (l : Launch) (D : va_G) (ad : Nat → Nat) (cI cZ cS : ClassId) (rs : va_W) (A0 : Nat → Prop) := AX l D ad cI cZ cS rs A0 cX4_fewestTouched 8 (some .int) RX4 2
set_option maxRecDepth 20000 in
set_option maxHeartbeats 4000000 in
theorem t_P_fewestTouched_l6 {u : Mem}  {X : Int32 → Prop} {x1 : Int32} {x2 : Int32} {x3 : Int32} {x4 : Int32} {Q : Int32 → Prop} (hX : ∀ (x5 : Int32), X x5 → a_P_fewestTouched l D ad cI cZ cS rs A0 (jRi u Q) 61 [(5, .int x5)] [] u) : ∀ (n : Nat) (x5 : Int32) (x6 : Int32), w_P_fewestTouched_l6 X x1 x2 x3 x4 u Q n x5 x6 → a_P_fewestTouched l D ad cI cZ cS rs A0 (jRi u Q) 6 [(0, .ref (ad 5)), (1, .int x1), (2, .int x2), (3, .int x3), (4, .int x4), (5, .int x5), (6, .int x6)] [] u := by
  intro n
  induction n with
  | zero =>
    intro x5 x6 h
    exact (by simp only [w_P_fewestTouched_l6] at h : False).elim
  | succ n ih =>
    intro x5 x6 h
    rw [w_P_fewestTouched_l6] at h
    refine J_iload 6 dX4_fewestTouched_6 rfl ?_
    refine J_sipush (v := 256) dX4_fewestTouched_8 cs_256 ?_
    refine J_icmp_ge (tgt := 61) dX4_fewestTouched_11 rfl (fun c => ?_) (fun c => ?_)
    · have h := h.1 c
      exact J_sub (lv' := [(5, .int x5)]) [5] rfl (hX x5 h)
    · have h := h.2 c
      refine J_iload 6 dX4_fewestTouched_14 rfl ?_
      refine J_iload 5 dX4_fewestTouched_16 rfl ?_
      refine JS_Ri kS_RX4_9 (c_P_isFewer h) rfl rfl (by decide) (Nat.le_of_ble_eq_true rfl) dX4_fewestTouched_18 (fun r1 h => ?_)
      refine J_if_eq (tgt := 55) dX4_fewestTouched_21 rfl (fun c => ?_) (fun c => ?_)
      · have h := h.1 c
        refine J_iinc (v := (x6 + 1)) (lv' := [(6, .int (x6 + 1)), (0, .ref (ad 5)), (1, .int x1), (2, .int x2), (3, .int x3), (4, .int x4), (5, .int x5)]) 6 dX4_fewestTouched_55 rfl rfl (Nat.le_of_ble_eq_true rfl) rfl ?_
        refine J_goto (tgt := 6) dX4_fewestTouched_58 rfl ?_
        exact J_sub (lv' := [(0, .ref (ad 5)), (1, .int x1), (2, .int x2), (3, .int x3), (4, .int x4), (5, .int x5), (6, .int (x6 + 1))]) [1, 2, 3, 4, 5, 6, 0] rfl (ih x5 (x6 + 1) h)
      · have h := h.2 c
        refine J_aload_n 0 dX4_fewestTouched_24 rfl rfl ?_
        refine J_iload_n 1 dX4_fewestTouched_25 rfl rfl ?_
        refine J_iload 6 dX4_fewestTouched_26 rfl ?_
        refine J_ixor dX4_fewestTouched_28 ?_
        refine J_iload_n 2 dX4_fewestTouched_29 rfl rfl ?_
        refine JS_Ri kS_RX4_15 (c_P_bigsIn h) rfl rfl (by decide) (Nat.le_of_ble_eq_true rfl) dX4_fewestTouched_30 (fun r3 h => ?_)
        refine J_istore (lv' := [(7, .int r3), (0, .ref (ad 5)), (1, .int x1), (2, .int x2), (3, .int x3), (4, .int x4), (5, .int x5), (6, .int x6)]) dX4_fewestTouched_33 (Nat.le_of_ble_eq_true rfl) rfl ?_
        refine J_iload 0 dX4_fewestTouched_35 rfl ?_
        refine J_iload_n 4 dX4_fewestTouched_37 rfl rfl ?_
        refine J_iand dX4_fewestTouched_38 ?_
        refine J_iload_n 4 dX4_fewestTouched_39 rfl rfl ?_
        refine J_icmp_ne (tgt := 55) dX4_fewestTouched_40 rfl (fun c => ?_) (fun c => ?_)
        · have h := h.1 c
          refine J_iinc (v := (x6 + 1)) (lv' := [(6, .int (x6 + 1)), (7, .int r3), (0, .ref (ad 5)), (1, .int x1), (2, .int x2), (3, .int x3), (4, .int x4), (5, .int x5)]) 7 dX4_fewestTouched_55 rfl rfl (Nat.le_of_ble_eq_true rfl) rfl ?_
          refine J_goto (tgt := 6) dX4_fewestTouched_58 rfl ?_
          exact J_sub (lv' := [(0, .ref (ad 5)), (1, .int x1), (2, .int x2), (3, .int x3), (4, .int x4), (5, .int x5), (6, .int (x6 + 1))]) [2, 3, 4, 5, 6, 7, 0] rfl (ih x5 (x6 + 1) h)
        · have h := h.2 c
          refine J_iload 0 dX4_fewestTouched_43 rfl ?_
          refine J_iload 5 dX4_fewestTouched_45 rfl ?_
          refine J_iand dX4_fewestTouched_47 ?_
          refine J_if_ne (tgt := 55) dX4_fewestTouched_48 rfl (fun c => ?_) (fun c => ?_)
          · have h := h.1 c
            refine J_iinc (v := (x6 + 1)) (lv' := [(6, .int (x6 + 1)), (7, .int r3), (0, .ref (ad 5)), (1, .int x1), (2, .int x2), (3, .int x3), (4, .int x4), (5, .int x5)]) 7 dX4_fewestTouched_55 rfl rfl (Nat.le_of_ble_eq_true rfl) rfl ?_
            refine J_goto (tgt := 6) dX4_fewestTouched_58 rfl ?_
            exact J_sub (lv' := [(0, .ref (ad 5)), (1, .int x1), (2, .int x2), (3, .int x3), (4, .int x4), (5, .int x5), (6, .int (x6 + 1))]) [2, 3, 4, 5, 6, 7, 0] rfl (ih x5 (x6 + 1) h)
          · have h := h.2 c
            refine J_iload 7 dX4_fewestTouched_51 rfl ?_
            refine J_istore (lv' := [(5, .int x6), (7, .int r3), (0, .ref (ad 5)), (1, .int x1), (2, .int x2), (3, .int x3), (4, .int x4), (6, .int x6)]) dX4_fewestTouched_53 (Nat.le_of_ble_eq_true rfl) rfl ?_
            refine J_iinc (v := (x6 + 1)) (lv' := [(6, .int (x6 + 1)), (5, .int x6), (7, .int r3), (0, .ref (ad 5)), (1, .int x1), (2, .int x2), (3, .int x3), (4, .int x4)]) 7 dX4_fewestTouched_55 rfl rfl (Nat.le_of_ble_eq_true rfl) rfl ?_
            refine J_goto (tgt := 6) dX4_fewestTouched_58 rfl ?_
            exact J_sub (lv' := [(0, .ref (ad 5)), (1, .int x1), (2, .int x2), (3, .int x3), (4, .int x4), (5, .int x6), (6, .int (x6 + 1))]) [3, 4, 5, 6, 7, 1, 0] rfl (ih x6 (x6 + 1) h)
set_option maxRecDepth 20000 in
set_option maxHeartbeats 4000000 in
theorem c_P_fewestTouched {u : Mem} {x1 : Int32} {x2 : Int32} {x3 : Int32} {x4 : Int32} {Q : Int32 → Prop} (h : w_P_fewestTouched x1 x2 x3 x4 u Q) : MX l D ad cI cZ cS rs A0 yX4_fewestTouched cX4_fewestTouched 8 (some .int) 2 [.ref (ad 5), .int x1, .int x2, .int x3, .int x4] u (jRi u Q) := by
  unfold w_P_fewestTouched at h
  refine JMet.of (by decide) (Nat.le_of_ble_eq_true rfl) ?_
  refine J_sub (lv' := [(0, .ref (ad 5)), (1, .int x1), (2, .int x2), (3, .int x3), (4, .int x4)]) [0, 1, 2, 3, 4] rfl ?_
  show a_P_fewestTouched l D ad cI cZ cS rs A0 (jRi u Q) 0 [(0, .ref (ad 5)), (1, .int x1), (2, .int x2), (3, .int x3), (4, .int x4)] [] u
  refine J_iconst (v := (-1)) dX4_fewestTouched_0 ci_m1 ?_
  refine J_istore (lv' := [(5, .int (-1)), (0, .ref (ad 5)), (1, .int x1), (2, .int x2), (3, .int x3), (4, .int x4)]) dX4_fewestTouched_1 (Nat.le_of_ble_eq_true rfl) rfl ?_
  refine J_iconst (v := 0) dX4_fewestTouched_3 ci_0 ?_
  refine J_istore (lv' := [(6, .int 0), (5, .int (-1)), (0, .ref (ad 5)), (1, .int x1), (2, .int x2), (3, .int x3), (4, .int x4)]) dX4_fewestTouched_4 (Nat.le_of_ble_eq_true rfl) rfl ?_
  obtain ⟨n6, h⟩ := h
  refine J_sub (lv' := [(0, .ref (ad 5)), (1, .int x1), (2, .int x2), (3, .int x3), (4, .int x4), (5, .int (-1)), (6, .int 0)]) [2, 3, 4, 5, 6, 1, 0] rfl (t_P_fewestTouched_l6 ?_ n6 (-1) 0 h)
  · intro z5 h
    refine J_iload 0 dX4_fewestTouched_61 rfl ?_
    exact J_iret rfl dX4_fewestTouched_63 ⟨rfl, _, rfl, h⟩
abbrev a_P_staysOff (l : Launch) (D : va_G) (ad : Nat → Nat) (cI cZ cS : ClassId) (rs : va_W) (A0 : Nat → Prop) := AX l D ad cI cZ cS rs A0 cX4_staysOff 6 (some .boolean) RX4 1
set_option maxRecDepth 20000 in
set_option maxHeartbeats 4000000 in
theorem t_P_staysOff_l6 {u : Mem}  {X : Prop} {x2 : Int32} {x3 : Int32} {Q : Int32 → Prop} (hX : X → a_P_staysOff l D ad cI cZ cS rs A0 (jRi u Q) 39 [] [] u) : ∀ (n : Nat) (x4 : Int32) (x5 : Int32), w_P_staysOff_l6 X x2 x3 u Q n x4 x5 → a_P_staysOff l D ad cI cZ cS rs A0 (jRi u Q) 6 [(0, .ref (ad 5)), (2, .int x2), (3, .int x3), (4, .int x4), (5, .int x5)] [] u := by
  intro n
  induction n with
  | zero =>
    intro x4 x5 h
    exact (by simp only [w_P_staysOff_l6] at h : False).elim
  | succ n ih =>
    intro x4 x5 h
    rw [w_P_staysOff_l6] at h
    refine J_iload 4 dX4_staysOff_6 rfl ?_
    refine J_iload_n 1 dX4_staysOff_8 rfl rfl ?_
    refine J_icmp_gt (tgt := 39) dX4_staysOff_9 rfl (fun c => ?_) (fun c => ?_)
    · have h := h.1 c
      exact J_sub (lv' := []) [] rfl (hX h)
    · have h := h.2 c
      refine J_aload_n 0 dX4_staysOff_12 rfl rfl ?_
      refine J_iload 3 dX4_staysOff_13 rfl ?_
      refine JV_Ri kV_RX4_41 5 rX_5 rfl rfl (c_H_comesBy h) rfl rfl (by decide) (Nat.le_of_ble_eq_true rfl) dX4_staysOff_15 (fun r1 h => ?_)
      refine J_iload_n 2 dX4_staysOff_18 rfl rfl ?_
      refine J_iand dX4_staysOff_19 ?_
      refine J_if_eq (tgt := 25) dX4_staysOff_20 rfl (fun c => ?_) (fun c => ?_)
      · have h := h.1 c
        refine J_aload_n 0 dX4_staysOff_25 rfl rfl ?_
        refine J_iload 3 dX4_staysOff_26 rfl ?_
        refine JV_Ri kV_RX4_23 5 rX_5 rfl rfl (c_H_weekBehind h) rfl rfl (by decide) (Nat.le_of_ble_eq_true rfl) dX4_staysOff_28 (fun r3 h => ?_)
        refine J_istore (lv' := [(4, .int r3), (0, .ref (ad 5)), (2, .int x2), (3, .int x3), (5, .int x5)]) dX4_staysOff_31 (Nat.le_of_ble_eq_true rfl) rfl ?_
        refine J_iinc (v := (x5 + 1)) (lv' := [(5, .int (x5 + 1)), (4, .int r3), (0, .ref (ad 5)), (2, .int x2), (3, .int x3)]) 4 dX4_staysOff_33 rfl rfl (Nat.le_of_ble_eq_true rfl) rfl ?_
        refine J_goto (tgt := 6) dX4_staysOff_36 rfl ?_
        exact J_sub (lv' := [(0, .ref (ad 5)), (2, .int x2), (3, .int x3), (4, .int r3), (5, .int (x5 + 1))]) [2, 3, 4, 1, 0] rfl (ih r3 (x5 + 1) h)
      · have h := h.2 c
        refine J_iconst (v := 0) dX4_staysOff_23 ci_0 ?_
        exact J_zret rfl dX4_staysOff_24 (bz_n bz_0) ⟨rfl, _, rfl, h⟩
set_option maxRecDepth 20000 in
set_option maxHeartbeats 4000000 in
theorem c_P_staysOff {u : Mem} {x1 : Int32} {x2 : Int32} {x3 : Int32} {Q : Int32 → Prop} (h : w_P_staysOff x1 x2 x3 u Q) : MX l D ad cI cZ cS rs A0 yX4_staysOff cX4_staysOff 6 (some .boolean) 1 [.ref (ad 5), .int x1, .int x2, .int x3] u (jRi u Q) := by
  unfold w_P_staysOff at h
  refine JMet.of (by decide) (Nat.le_of_ble_eq_true rfl) ?_
  refine J_sub (lv' := [(0, .ref (ad 5)), (1, .int x1), (2, .int x2), (3, .int x3)]) [0, 1, 2, 3] rfl ?_
  show a_P_staysOff l D ad cI cZ cS rs A0 (jRi u Q) 0 [(0, .ref (ad 5)), (1, .int x1), (2, .int x2), (3, .int x3)] [] u
  refine J_iload_n 1 dX4_staysOff_0 rfl rfl ?_
  refine J_istore (lv' := [(4, .int x1), (0, .ref (ad 5)), (1, .int x1), (2, .int x2), (3, .int x3)]) dX4_staysOff_1 (Nat.le_of_ble_eq_true rfl) rfl ?_
  refine J_iconst (v := 1) dX4_staysOff_3 ci_1 ?_
  refine J_istore (lv' := [(5, .int 1), (4, .int x1), (0, .ref (ad 5)), (1, .int x1), (2, .int x2), (3, .int x3)]) dX4_staysOff_4 (Nat.le_of_ble_eq_true rfl) rfl ?_
  obtain ⟨n5, h⟩ := h
  refine J_sub (lv' := [(0, .ref (ad 5)), (2, .int x2), (3, .int x3), (4, .int x1), (5, .int 1)]) [2, 4, 5, 1, 0] rfl (t_P_staysOff_l6 ?_ n5 x1 1 h)
  · intro h
    refine J_iconst (v := 1) dX4_staysOff_39 ci_1 ?_
    exact J_zret rfl dX4_staysOff_40 (bz_n bz_1) ⟨rfl, _, rfl, h⟩
abbrev a_P_fewestSwept (l : Launch) (D : va_G) (ad : Nat → Nat) (cI cZ cS : ClassId) (rs : va_W) (A0 : Nat → Prop) := AX l D ad cI cZ cS rs A0 cX4_fewestSwept 7 (some .int) RX4 2
set_option maxRecDepth 20000 in
set_option maxHeartbeats 4000000 in
theorem t_P_fewestSwept_b28 {u : Mem} {R : Int32 → Int32 → Prop} {X : Int32 → Prop} {x1 : Int32} {x2 : Int32} {x3 : Int32} {x4 : Int32} {x5 : Int32} {s0 : Int32} {Q : Int32 → Prop} (hR : ∀ (z4 : Int32) (z5 : Int32), R z4 z5 → a_P_fewestSwept l D ad cI cZ cS rs A0 (jRi u Q) 6 [(0, .ref (ad 5)), (1, .int x1), (2, .int x2), (3, .int x3), (4, .int z4), (5, .int z5)] [] u) (hX : ∀ (z4 : Int32), X z4 → a_P_fewestSwept l D ad cI cZ cS rs A0 (jRi u Q) 70 [(4, .int z4)] [] u) (h : w_P_fewestSwept_b28 R X x1 x2 x3 x4 x5 s0 u Q) : a_P_fewestSwept l D ad cI cZ cS rs A0 (jRi u Q) 28 [(0, .ref (ad 5)), (1, .int x1), (2, .int x2), (3, .int x3), (4, .int x4), (5, .int x5)] [.int s0] u := by
  unfold w_P_fewestSwept_b28 at h
  refine J_istore (lv' := [(6, .int s0), (0, .ref (ad 5)), (1, .int x1), (2, .int x2), (3, .int x3), (4, .int x4), (5, .int x5)]) dX4_fewestSwept_28 (Nat.le_of_ble_eq_true rfl) rfl ?_
  refine J_iload 0 dX4_fewestSwept_30 rfl ?_
  refine J_if_eq (tgt := 64) dX4_fewestSwept_32 rfl (fun c => ?_) (fun c => ?_)
  · have h := h.1 c
    refine J_iinc (v := (x5 + 1)) (lv' := [(5, .int (x5 + 1)), (6, .int s0), (0, .ref (ad 5)), (1, .int x1), (2, .int x2), (3, .int x3), (4, .int x4)]) 6 dX4_fewestSwept_64 rfl rfl (Nat.le_of_ble_eq_true rfl) rfl ?_
    refine J_goto (tgt := 6) dX4_fewestSwept_67 rfl ?_
    exact J_sub (lv' := [(0, .ref (ad 5)), (1, .int x1), (2, .int x2), (3, .int x3), (4, .int x4), (5, .int (x5 + 1))]) [2, 3, 4, 5, 6, 0] rfl (hR x4 (x5 + 1) h)
  · have h := h.2 c
    refine J_iload 6 dX4_fewestSwept_35 rfl ?_
    refine J_iload 5 dX4_fewestSwept_37 rfl ?_
    refine JS_Ri kS_RX4_9 (c_P_isFewer h) rfl rfl (by decide) (Nat.le_of_ble_eq_true rfl) dX4_fewestSwept_39 (fun r1 h => ?_)
    refine J_if_eq (tgt := 64) dX4_fewestSwept_42 rfl (fun c => ?_) (fun c => ?_)
    · have h := h.1 c
      refine J_iinc (v := (x5 + 1)) (lv' := [(5, .int (x5 + 1)), (6, .int s0), (0, .ref (ad 5)), (1, .int x1), (2, .int x2), (3, .int x3), (4, .int x4)]) 6 dX4_fewestSwept_64 rfl rfl (Nat.le_of_ble_eq_true rfl) rfl ?_
      refine J_goto (tgt := 6) dX4_fewestSwept_67 rfl ?_
      exact J_sub (lv' := [(0, .ref (ad 5)), (1, .int x1), (2, .int x2), (3, .int x3), (4, .int x4), (5, .int (x5 + 1))]) [2, 3, 4, 5, 6, 0] rfl (hR x4 (x5 + 1) h)
    · have h := h.2 c
      refine J_aload_n 1 dX4_fewestSwept_45 rfl rfl ?_
      refine J_iload_n 2 dX4_fewestSwept_46 rfl rfl ?_
      refine J_iload 6 dX4_fewestSwept_47 rfl ?_
      refine J_iconst (v := (-1)) dX4_fewestSwept_49 ci_m1 ?_
      refine J_ixor dX4_fewestSwept_50 ?_
      refine J_iand dX4_fewestSwept_51 ?_
      refine J_iload_n 3 dX4_fewestSwept_52 rfl rfl ?_
      refine J_iload_n 4 dX4_fewestSwept_53 rfl rfl ?_
      refine JS_Ri kS_RX4_19 (c_P_staysOff h) rfl rfl (by decide) (Nat.le_of_ble_eq_true rfl) dX4_fewestSwept_54 (fun r3 h => ?_)
      refine J_if_eq (tgt := 64) dX4_fewestSwept_57 rfl (fun c => ?_) (fun c => ?_)
      · have h := h.1 c
        refine J_iinc (v := (x5 + 1)) (lv' := [(5, .int (x5 + 1)), (6, .int s0), (0, .ref (ad 5)), (1, .int x1), (2, .int x2), (3, .int x3), (4, .int x4)]) 6 dX4_fewestSwept_64 rfl rfl (Nat.le_of_ble_eq_true rfl) rfl ?_
        refine J_goto (tgt := 6) dX4_fewestSwept_67 rfl ?_
        exact J_sub (lv' := [(0, .ref (ad 5)), (1, .int x1), (2, .int x2), (3, .int x3), (4, .int x4), (5, .int (x5 + 1))]) [2, 3, 4, 5, 6, 0] rfl (hR x4 (x5 + 1) h)
      · have h := h.2 c
        refine J_iload 6 dX4_fewestSwept_60 rfl ?_
        refine J_istore (lv' := [(4, .int x5), (6, .int s0), (0, .ref (ad 5)), (1, .int x1), (2, .int x2), (3, .int x3), (5, .int x5)]) dX4_fewestSwept_62 (Nat.le_of_ble_eq_true rfl) rfl ?_
        refine J_iinc (v := (x5 + 1)) (lv' := [(5, .int (x5 + 1)), (4, .int x5), (6, .int s0), (0, .ref (ad 5)), (1, .int x1), (2, .int x2), (3, .int x3)]) 6 dX4_fewestSwept_64 rfl rfl (Nat.le_of_ble_eq_true rfl) rfl ?_
        refine J_goto (tgt := 6) dX4_fewestSwept_67 rfl ?_
        exact J_sub (lv' := [(0, .ref (ad 5)), (1, .int x1), (2, .int x2), (3, .int x3), (4, .int x5), (5, .int (x5 + 1))]) [3, 4, 5, 6, 1, 0] rfl (hR x5 (x5 + 1) h)
set_option maxRecDepth 20000 in
set_option maxHeartbeats 4000000 in
theorem t_P_fewestSwept_l6 {u : Mem}  {X : Int32 → Prop} {x1 : Int32} {x2 : Int32} {x3 : Int32} {Q : Int32 → Prop} (hX : ∀ (x4 : Int32), X x4 → a_P_fewestSwept l D ad cI cZ cS rs A0 (jRi u Q) 70 [(4, .int x4)] [] u) : ∀ (n : Nat) (x4 : Int32) (x5 : Int32), w_P_fewestSwept_l6 X x1 x2 x3 u Q n x4 x5 → a_P_fewestSwept l D ad cI cZ cS rs A0 (jRi u Q) 6 [(0, .ref (ad 5)), (1, .int x1), (2, .int x2), (3, .int x3), (4, .int x4), (5, .int x5)] [] u := by
  intro n
  induction n with
  | zero =>
    intro x4 x5 h
    exact (by simp only [w_P_fewestSwept_l6] at h : False).elim
  | succ n ih =>
    intro x4 x5 h
    rw [w_P_fewestSwept_l6] at h
    refine J_iload 5 dX4_fewestSwept_6 rfl ?_
    refine J_sipush (v := 256) dX4_fewestSwept_8 cs_256 ?_
    refine J_icmp_ge (tgt := 70) dX4_fewestSwept_11 rfl (fun c => ?_) (fun c => ?_)
    · have h := h.1 c
      exact J_sub (lv' := [(4, .int x4)]) [4] rfl (hX x4 h)
    · have h := h.2 c
      refine J_iload 5 dX4_fewestSwept_14 rfl ?_
      refine J_iload_n 1 dX4_fewestSwept_16 rfl rfl ?_
      refine J_iconst (v := (-1)) dX4_fewestSwept_17 ci_m1 ?_
      refine J_ixor dX4_fewestSwept_18 ?_
      refine J_iand dX4_fewestSwept_19 ?_
      refine J_if_ne (tgt := 27) dX4_fewestSwept_20 rfl (fun c => ?_) (fun c => ?_)
      · have h := h.1 c
        refine J_iconst (v := 0) dX4_fewestSwept_27 ci_0 ?_
        exact (t_P_fewestSwept_b28 ih hX h)
      · have h := h.2 c
        refine J_iconst (v := 1) dX4_fewestSwept_23 ci_1 ?_
        refine J_goto (tgt := 28) dX4_fewestSwept_24 rfl ?_
        exact (t_P_fewestSwept_b28 ih hX h)
set_option maxRecDepth 20000 in
set_option maxHeartbeats 4000000 in
theorem c_P_fewestSwept {u : Mem} {x1 : Int32} {x2 : Int32} {x3 : Int32} {Q : Int32 → Prop} (h : w_P_fewestSwept x1 x2 x3 u Q) : MX l D ad cI cZ cS rs A0 yX4_fewestSwept cX4_fewestSwept 7 (some .int) 2 [.ref (ad 5), .int x1, .int x2, .int x3] u (jRi u Q) := by
  unfold w_P_fewestSwept at h
  refine JMet.of (by decide) (Nat.le_of_ble_eq_true rfl) ?_
  refine J_sub (lv' := [(0, .ref (ad 5)), (1, .int x1), (2, .int x2), (3, .int x3)]) [0, 1, 2, 3] rfl ?_
  show a_P_fewestSwept l D ad cI cZ cS rs A0 (jRi u Q) 0 [(0, .ref (ad 5)), (1, .int x1), (2, .int x2), (3, .int x3)] [] u
  refine J_iconst (v := (-1)) dX4_fewestSwept_0 ci_m1 ?_
  refine J_istore (lv' := [(4, .int (-1)), (0, .ref (ad 5)), (1, .int x1), (2, .int x2), (3, .int x3)]) dX4_fewestSwept_1 (Nat.le_of_ble_eq_true rfl) rfl ?_
  refine J_iconst (v := 0) dX4_fewestSwept_3 ci_0 ?_
  refine J_istore (lv' := [(5, .int 0), (4, .int (-1)), (0, .ref (ad 5)), (1, .int x1), (2, .int x2), (3, .int x3)]) dX4_fewestSwept_4 (Nat.le_of_ble_eq_true rfl) rfl ?_
  obtain ⟨n6, h⟩ := h
  refine J_sub (lv' := [(0, .ref (ad 5)), (1, .int x1), (2, .int x2), (3, .int x3), (4, .int (-1)), (5, .int 0)]) [2, 3, 4, 5, 1, 0] rfl (t_P_fewestSwept_l6 ?_ n6 (-1) 0 h)
  · intro z5 h
    refine J_iload 0 dX4_fewestSwept_70 rfl ?_
    exact J_iret rfl dX4_fewestSwept_72 ⟨rfl, _, rfl, h⟩
abbrev a_P_weekOf (l : Launch) (D : va_G) (ad : Nat → Nat) (cI cZ cS : ClassId) (rs : va_W) (A0 : Nat → Prop) := AX l D ad cI cZ cS rs A0 cX4_weekOf 6 (some .int) RX4 1
set_option maxRecDepth 20000 in
set_option maxHeartbeats 4000000 in
theorem t_P_weekOf_l6 {u : Mem}  {X : Prop} {x2 : Int32} {x3 : Int32} {Q : Int32 → Prop} (hX : X → a_P_weekOf l D ad cI cZ cS rs A0 (jRi u Q) 35 [] [] u) : ∀ (n : Nat) (x4 : Int32) (x5 : Int32), w_P_weekOf_l6 X x2 x3 u Q n x4 x5 → a_P_weekOf l D ad cI cZ cS rs A0 (jRi u Q) 6 [(0, .ref (ad 5)), (2, .int x2), (3, .int x3), (4, .int x4), (5, .int x5)] [] u := by
  intro n
  induction n with
  | zero =>
    intro x4 x5 h
    exact (by simp only [w_P_weekOf_l6] at h : False).elim
  | succ n ih =>
    intro x4 x5 h
    rw [w_P_weekOf_l6] at h
    refine J_iload 4 dX4_weekOf_6 rfl ?_
    refine J_iload_n 2 dX4_weekOf_8 rfl rfl ?_
    refine J_icmp_ge (tgt := 35) dX4_weekOf_9 rfl (fun c => ?_) (fun c => ?_)
    · have h := h.1 c
      exact J_sub (lv' := []) [] rfl (hX h)
    · have h := h.2 c
      refine J_iload 3 dX4_weekOf_12 rfl ?_
      refine J_iload_n 1 dX4_weekOf_14 rfl rfl ?_
      refine J_icmp_ne (tgt := 21) dX4_weekOf_15 rfl (fun c => ?_) (fun c => ?_)
      · have h := h.1 c
        refine J_aload_n 0 dX4_weekOf_21 rfl rfl ?_
        refine J_iload 3 dX4_weekOf_22 rfl ?_
        refine JV_Ri kV_RX4_23 5 rX_5 rfl rfl (c_H_weekBehind h) rfl rfl (by decide) (Nat.le_of_ble_eq_true rfl) dX4_weekOf_24 (fun r1 h => ?_)
        refine J_istore (lv' := [(4, .int r1), (0, .ref (ad 5)), (2, .int x2), (3, .int x3), (5, .int x5)]) dX4_weekOf_27 (Nat.le_of_ble_eq_true rfl) rfl ?_
        refine J_iinc (v := (x5 + 1)) (lv' := [(5, .int (x5 + 1)), (4, .int r1), (0, .ref (ad 5)), (2, .int x2), (3, .int x3)]) 4 dX4_weekOf_29 rfl rfl (Nat.le_of_ble_eq_true rfl) rfl ?_
        refine J_goto (tgt := 6) dX4_weekOf_32 rfl ?_
        exact J_sub (lv' := [(0, .ref (ad 5)), (2, .int x2), (3, .int x3), (4, .int r1), (5, .int (x5 + 1))]) [2, 3, 4, 1, 0] rfl (ih r1 (x5 + 1) h)
      · have h := h.2 c
        refine J_iload 4 dX4_weekOf_18 rfl ?_
        exact J_iret rfl dX4_weekOf_20 ⟨rfl, _, rfl, h⟩
set_option maxRecDepth 20000 in
set_option maxHeartbeats 4000000 in
theorem c_P_weekOf {u : Mem} {x1 : Int32} {x2 : Int32} {x3 : Int32} {Q : Int32 → Prop} (h : w_P_weekOf x1 x2 x3 u Q) : MX l D ad cI cZ cS rs A0 yX4_weekOf cX4_weekOf 6 (some .int) 1 [.ref (ad 5), .int x1, .int x2, .int x3] u (jRi u Q) := by
  unfold w_P_weekOf at h
  refine JMet.of (by decide) (Nat.le_of_ble_eq_true rfl) ?_
  refine J_sub (lv' := [(0, .ref (ad 5)), (1, .int x1), (2, .int x2), (3, .int x3)]) [0, 1, 2, 3] rfl ?_
  show a_P_weekOf l D ad cI cZ cS rs A0 (jRi u Q) 0 [(0, .ref (ad 5)), (1, .int x1), (2, .int x2), (3, .int x3)] [] u
  refine J_iload_n 1 dX4_weekOf_0 rfl rfl ?_
  refine J_istore (lv' := [(4, .int x1), (0, .ref (ad 5)), (1, .int x1), (2, .int x2), (3, .int x3)]) dX4_weekOf_1 (Nat.le_of_ble_eq_true rfl) rfl ?_
  refine J_iconst (v := 0) dX4_weekOf_3 ci_0 ?_
  refine J_istore (lv' := [(5, .int 0), (4, .int x1), (0, .ref (ad 5)), (1, .int x1), (2, .int x2), (3, .int x3)]) dX4_weekOf_4 (Nat.le_of_ble_eq_true rfl) rfl ?_
  obtain ⟨n3, h⟩ := h
  refine J_sub (lv' := [(0, .ref (ad 5)), (2, .int x2), (3, .int x3), (4, .int x1), (5, .int 0)]) [2, 4, 5, 1, 0] rfl (t_P_weekOf_l6 ?_ n3 x1 0 h)
  · intro h
    refine J_iconst (v := (-1)) dX4_weekOf_35 ci_m1 ?_
    exact J_iret rfl dX4_weekOf_36 ⟨rfl, _, rfl, h⟩
abbrev a_P_weeksToRepeat (l : Launch) (D : va_G) (ad : Nat → Nat) (cI cZ cS : ClassId) (rs : va_W) (A0 : Nat → Prop) := AX l D ad cI cZ cS rs A0 cX4_weeksToRepeat 4 (some .int) RX4 2
set_option maxRecDepth 20000 in
set_option maxHeartbeats 4000000 in
theorem t_P_weeksToRepeat_l4 {u : Mem}  {X : Prop} {x1 : Int32} {Q : Int32 → Prop} (hX : X → a_P_weeksToRepeat l D ad cI cZ cS rs A0 (jRi u Q) 36 [] [] u) : ∀ (n : Nat) (x2 : Int32) (x3 : Int32), w_P_weeksToRepeat_l4 X x1 u Q n x2 x3 → a_P_weeksToRepeat l D ad cI cZ cS rs A0 (jRi u Q) 4 [(0, .ref (ad 5)), (1, .int x1), (2, .int x2), (3, .int x3)] [] u := by
  intro n
  induction n with
  | zero =>
    intro x2 x3 h
    exact (by simp only [w_P_weeksToRepeat_l4] at h : False).elim
  | succ n ih =>
    intro x2 x3 h
    rw [w_P_weeksToRepeat_l4] at h
    refine J_iload_n 3 dX4_weeksToRepeat_4 rfl rfl ?_
    refine J_sipush (v := 256) dX4_weeksToRepeat_5 cs_256 ?_
    refine J_icmp_gt (tgt := 36) dX4_weeksToRepeat_8 rfl (fun c => ?_) (fun c => ?_)
    · have h := h.1 c
      exact J_sub (lv' := []) [] rfl (hX h)
    · have h := h.2 c
      refine J_aload_n 0 dX4_weeksToRepeat_11 rfl rfl ?_
      refine J_iload_n 2 dX4_weeksToRepeat_12 rfl rfl ?_
      refine JV_Ri kV_RX4_23 5 rX_5 rfl rfl (c_H_weekBehind h) rfl rfl (by decide) (Nat.le_of_ble_eq_true rfl) dX4_weeksToRepeat_13 (fun r1 h => ?_)
      refine J_istore_n (lv' := [(2, .int r1), (0, .ref (ad 5)), (1, .int x1), (3, .int x3)]) dX4_weeksToRepeat_16 rfl (Nat.le_of_ble_eq_true rfl) rfl ?_
      refine J_aload_n 1 dX4_weeksToRepeat_17 rfl rfl ?_
      refine J_iload_n 2 dX4_weeksToRepeat_18 rfl rfl ?_
      refine J_iload_n 0 dX4_weeksToRepeat_19 rfl rfl ?_
      refine J_iload_n 3 dX4_weeksToRepeat_20 rfl rfl ?_
      refine JS_Ri kS_RX4_29 (c_P_weekOf h) rfl rfl (by decide) (Nat.le_of_ble_eq_true rfl) dX4_weeksToRepeat_21 (fun r3 h => ?_)
      refine J_iconst (v := (-1)) dX4_weeksToRepeat_24 ci_m1 ?_
      refine J_icmp_eq (tgt := 30) dX4_weeksToRepeat_25 rfl (fun c => ?_) (fun c => ?_)
      · have h := h.1 c
        refine J_iinc (v := (x3 + 1)) (lv' := [(3, .int (x3 + 1)), (2, .int r1), (0, .ref (ad 5)), (1, .int x1)]) 3 dX4_weeksToRepeat_30 rfl rfl (Nat.le_of_ble_eq_true rfl) rfl ?_
        refine J_goto (tgt := 4) dX4_weeksToRepeat_33 rfl ?_
        exact J_sub (lv' := [(0, .ref (ad 5)), (1, .int x1), (2, .int r1), (3, .int (x3 + 1))]) [2, 3, 1, 0] rfl (ih r1 (x3 + 1) h)
      · have h := h.2 c
        refine J_iload_n 3 dX4_weeksToRepeat_28 rfl rfl ?_
        exact J_iret rfl dX4_weeksToRepeat_29 ⟨rfl, _, rfl, h⟩
set_option maxRecDepth 20000 in
set_option maxHeartbeats 4000000 in
theorem c_P_weeksToRepeat {u : Mem} {x1 : Int32} {Q : Int32 → Prop} (h : w_P_weeksToRepeat x1 u Q) : MX l D ad cI cZ cS rs A0 yX4_weeksToRepeat cX4_weeksToRepeat 4 (some .int) 2 [.ref (ad 5), .int x1] u (jRi u Q) := by
  unfold w_P_weeksToRepeat at h
  refine JMet.of (by decide) (Nat.le_of_ble_eq_true rfl) ?_
  refine J_sub (lv' := [(0, .ref (ad 5)), (1, .int x1)]) [0, 1] rfl ?_
  show a_P_weeksToRepeat l D ad cI cZ cS rs A0 (jRi u Q) 0 [(0, .ref (ad 5)), (1, .int x1)] [] u
  refine J_iload_n 1 dX4_weeksToRepeat_0 rfl rfl ?_
  refine J_istore_n (lv' := [(2, .int x1), (0, .ref (ad 5)), (1, .int x1)]) dX4_weeksToRepeat_1 rfl (Nat.le_of_ble_eq_true rfl) rfl ?_
  refine J_iconst (v := 1) dX4_weeksToRepeat_2 ci_1 ?_
  refine J_istore_n (lv' := [(3, .int 1), (2, .int x1), (0, .ref (ad 5)), (1, .int x1)]) dX4_weeksToRepeat_3 rfl (Nat.le_of_ble_eq_true rfl) rfl ?_
  obtain ⟨n5, h⟩ := h
  refine J_sub (lv' := [(0, .ref (ad 5)), (1, .int x1), (2, .int x1), (3, .int 1)]) [2, 3, 1, 0] rfl (t_P_weeksToRepeat_l4 ?_ n5 x1 1 h)
  · intro h
    refine J_iconst (v := (-1)) dX4_weeksToRepeat_36 ci_m1 ?_
    exact J_iret rfl dX4_weeksToRepeat_37 ⟨rfl, _, rfl, h⟩
abbrev a_P_roundLength (l : Launch) (D : va_G) (ad : Nat → Nat) (cI cZ cS : ClassId) (rs : va_W) (A0 : Nat → Prop) := AX l D ad cI cZ cS rs A0 cX4_roundLength 5 (some .int) RX4 3
set_option maxRecDepth 20000 in
set_option maxHeartbeats 4000000 in
theorem t_P_roundLength_l11 {u : Mem}  {X : Int32 → Prop} {x1 : Int32} {x2 : Int32} {Q : Int32 → Prop} (hX : ∀ (x3 : Int32), X x3 → a_P_roundLength l D ad cI cZ cS rs A0 (jRi u Q) 29 [(0, .ref (ad 5)), (1, .int x1), (2, .int x2), (3, .int x3)] [] u) : ∀ (n : Nat) (x3 : Int32) (x4 : Int32), w_P_roundLength_l11 X x1 x2 u Q n x3 x4 → a_P_roundLength l D ad cI cZ cS rs A0 (jRi u Q) 11 [(0, .ref (ad 5)), (1, .int x1), (2, .int x2), (3, .int x3), (4, .int x4)] [] u := by
  intro n
  induction n with
  | zero =>
    intro x3 x4 h
    exact (by simp only [w_P_roundLength_l11] at h : False).elim
  | succ n ih =>
    intro x3 x4 h
    rw [w_P_roundLength_l11] at h
    refine J_iload 4 dX4_roundLength_11 rfl ?_
    refine J_iload_n 2 dX4_roundLength_13 rfl rfl ?_
    refine J_icmp_ge (tgt := 29) dX4_roundLength_14 rfl (fun c => ?_) (fun c => ?_)
    · have h := h.1 c
      exact J_sub (lv' := [(0, .ref (ad 5)), (1, .int x1), (2, .int x2), (3, .int x3)]) [0, 1, 2, 3] rfl (hX x3 h)
    · have h := h.2 c
      refine J_aload_n 0 dX4_roundLength_17 rfl rfl ?_
      refine J_iload_n 3 dX4_roundLength_18 rfl rfl ?_
      refine JV_Ri kV_RX4_23 5 rX_5 rfl rfl (c_H_weekBehind h) rfl rfl (by decide) (Nat.le_of_ble_eq_true rfl) dX4_roundLength_19 (fun r3 h => ?_)
      refine J_istore_n (lv' := [(3, .int r3), (0, .ref (ad 5)), (1, .int x1), (2, .int x2), (4, .int x4)]) dX4_roundLength_22 rfl (Nat.le_of_ble_eq_true rfl) rfl ?_
      refine J_iinc (v := (x4 + 1)) (lv' := [(4, .int (x4 + 1)), (3, .int r3), (0, .ref (ad 5)), (1, .int x1), (2, .int x2)]) 4 dX4_roundLength_23 rfl rfl (Nat.le_of_ble_eq_true rfl) rfl ?_
      refine J_goto (tgt := 11) dX4_roundLength_26 rfl ?_
      exact J_sub (lv' := [(0, .ref (ad 5)), (1, .int x1), (2, .int x2), (3, .int r3), (4, .int (x4 + 1))]) [2, 3, 4, 1, 0] rfl (ih r3 (x4 + 1) h)
set_option maxRecDepth 20000 in
set_option maxHeartbeats 4000000 in
theorem c_P_roundLength {u : Mem} {x1 : Int32} {Q : Int32 → Prop} (h : w_P_roundLength x1 u Q) : MX l D ad cI cZ cS rs A0 yX4_roundLength cX4_roundLength 5 (some .int) 3 [.ref (ad 5), .int x1] u (jRi u Q) := by
  unfold w_P_roundLength at h
  refine JMet.of (by decide) (Nat.le_of_ble_eq_true rfl) ?_
  refine J_sub (lv' := [(0, .ref (ad 5)), (1, .int x1)]) [0, 1] rfl ?_
  show a_P_roundLength l D ad cI cZ cS rs A0 (jRi u Q) 0 [(0, .ref (ad 5)), (1, .int x1)] [] u
  refine J_aload_n 0 dX4_roundLength_0 rfl rfl ?_
  refine J_iload_n 1 dX4_roundLength_1 rfl rfl ?_
  refine JS_Ri kS_RX4_33 (c_P_weeksToRepeat h) rfl rfl (by decide) (Nat.le_of_ble_eq_true rfl) dX4_roundLength_2 (fun r1 h => ?_)
  refine J_istore_n (lv' := [(2, .int r1), (0, .ref (ad 5)), (1, .int x1)]) dX4_roundLength_5 rfl (Nat.le_of_ble_eq_true rfl) rfl ?_
  refine J_iload_n 2 dX4_roundLength_6 rfl rfl ?_
  refine J_istore_n (lv' := [(3, .int x1), (2, .int r1), (0, .ref (ad 5)), (1, .int x1)]) dX4_roundLength_7 rfl (Nat.le_of_ble_eq_true rfl) rfl ?_
  refine J_iconst (v := 0) dX4_roundLength_8 ci_0 ?_
  refine J_istore (lv' := [(4, .int 0), (3, .int x1), (2, .int r1), (0, .ref (ad 5)), (1, .int x1)]) dX4_roundLength_9 (Nat.le_of_ble_eq_true rfl) rfl ?_
  obtain ⟨n8, h⟩ := h
  refine J_sub (lv' := [(0, .ref (ad 5)), (1, .int x1), (2, .int r1), (3, .int x1), (4, .int 0)]) [3, 4, 2, 1, 0] rfl (t_P_roundLength_l11 ?_ n8 x1 0 h)
  · intro z5 h
    refine J_iload_n 2 dX4_roundLength_29 rfl rfl ?_
    refine J_aload_n 0 dX4_roundLength_30 rfl rfl ?_
    refine J_iload_n 1 dX4_roundLength_31 rfl rfl ?_
    refine J_iload_n 3 dX4_roundLength_32 rfl rfl ?_
    refine J_iload_n 2 dX4_roundLength_33 rfl rfl ?_
    refine JS_Ri kS_RX4_29 (c_P_weekOf h) rfl rfl (by decide) (Nat.le_of_ble_eq_true rfl) dX4_roundLength_34 (fun r6 h => ?_)
    refine J_isub dX4_roundLength_37 ?_
    exact J_iret rfl dX4_roundLength_38 ⟨rfl, _, rfl, h⟩
abbrev a_P_itComes (l : Launch) (D : va_G) (ad : Nat → Nat) (cI cZ cS : ClassId) (rs : va_W) (A0 : Nat → Prop) (dd : Nat) := AX l D ad cI cZ cS rs A0 cX4_itComes 6 (some .boolean) RX4 (dd + 1)
set_option maxRecDepth 20000 in
set_option maxHeartbeats 4000000 in
theorem t_P_itComes_b9 {u : Mem} {x1 : Int32} {x2 : Int32} {Q : Int32 → Prop} {dd : Nat} {G : Int32 → Int32 → Int32 → Int32 → (Int32 → Prop) → Prop} (hG : ∀ (x1 : Int32) (x2 : Int32) (x3 : Int32) (x4 : Int32) (Q : Int32 → Prop), G x1 x2 x3 x4 Q → MX l D ad cI cZ cS rs A0 yX4_itComes cX4_itComes 6 (some .boolean) dd [.ref (ad 5), .int x1, .int x2, .int x3, .int x4] u (jRi u Q)) (h : w_P_itComes_b9 G x1 x2 u Q) : a_P_itComes l D ad cI cZ cS rs A0 dd (jRi u Q) 9 [(0, .ref (ad 5)), (1, .int x1), (2, .int x2)] [] u := by
  unfold w_P_itComes_b9 at h
  refine J_aload_n 0 dX4_itComes_9 rfl rfl ?_
  refine J_iload_n 1 dX4_itComes_10 rfl rfl ?_
  refine JV_Ri kV_RX4_41 5 rX_5 rfl rfl (c_H_comesBy h) rfl rfl (Nat.succ_le_succ (Nat.zero_le _)) (Nat.le_of_ble_eq_true rfl) dX4_itComes_11 (fun r1 h => ?_)
  refine J_iload_n 2 dX4_itComes_14 rfl rfl ?_
  refine J_iand dX4_itComes_15 ?_
  refine J_if_eq (tgt := 23) dX4_itComes_16 rfl (fun c => ?_) (fun c => ?_)
  · have h := h.1 c
    refine J_iconst (v := 0) dX4_itComes_23 ci_0 ?_
    exact J_zret rfl dX4_itComes_24 (bz_n bz_0) ⟨rfl, _, rfl, h⟩
  · have h := h.2 c
    refine J_iconst (v := 1) dX4_itComes_19 ci_1 ?_
    refine J_goto (tgt := 24) dX4_itComes_20 rfl ?_
    exact J_zret rfl dX4_itComes_24 (bz_n bz_1) ⟨rfl, _, rfl, h⟩
set_option maxRecDepth 20000 in
set_option maxHeartbeats 4000000 in
theorem t_P_itComes_b83 {u : Mem} {R : Int32 → Prop} {X : Prop} {x1 : Int32} {x2 : Int32} {x3 : Int32} {x4 : Int32} {x5 : Int32} {s0 : Int32} {s1 : Int32} {s2 : Int32} {s3 : Int32} {Q : Int32 → Prop} {dd : Nat} {G : Int32 → Int32 → Int32 → Int32 → (Int32 → Prop) → Prop} (hG : ∀ (x1 : Int32) (x2 : Int32) (x3 : Int32) (x4 : Int32) (Q : Int32 → Prop), G x1 x2 x3 x4 Q → MX l D ad cI cZ cS rs A0 yX4_itComes cX4_itComes 6 (some .boolean) dd [.ref (ad 5), .int x1, .int x2, .int x3, .int x4] u (jRi u Q)) (hR : ∀ (z5 : Int32), R z5 → a_P_itComes l D ad cI cZ cS rs A0 dd (jRi u Q) 55 [(0, .ref (ad 5)), (1, .int x1), (2, .int x2), (3, .int x3), (4, .int x4), (5, .int z5)] [] u) (hX : X → a_P_itComes l D ad cI cZ cS rs A0 dd (jRi u Q) 100 [(4, .int x4)] [] u) (h : w_P_itComes_b83 G R X x1 x2 x3 x4 x5 s0 s1 s2 s3 u Q) : a_P_itComes l D ad cI cZ cS rs A0 dd (jRi u Q) 83 [(0, .ref (ad 5)), (1, .int x1), (2, .int x2), (3, .int x3), (4, .int x4), (5, .int x5)] [.int s0, .int s1, .int s2, .int s3, .ref (ad 5)] u := by
  unfold w_P_itComes_b83 at h
  refine JS_Ri kS_RX4_37 (hG s3 s2 s1 s0 _ h) rfl rfl (Nat.le_refl _) (Nat.le_of_ble_eq_true rfl) dX4_itComes_83 (fun r5 h => ?_)
  refine J_iload 4 dX4_itComes_86 rfl ?_
  refine J_icmp_ne (tgt := 94) dX4_itComes_88 rfl (fun c => ?_) (fun c => ?_)
  · have h := h.1 c
    refine J_iinc (v := (x5 + 1)) (lv' := [(5, .int (x5 + 1)), (0, .ref (ad 5)), (1, .int x1), (2, .int x2), (3, .int x3), (4, .int x4)]) 5 dX4_itComes_94 rfl rfl (Nat.le_of_ble_eq_true rfl) rfl ?_
    refine J_goto (tgt := 55) dX4_itComes_97 rfl ?_
    exact J_sub (lv' := [(0, .ref (ad 5)), (1, .int x1), (2, .int x2), (3, .int x3), (4, .int x4), (5, .int (x5 + 1))]) [1, 2, 3, 4, 5, 0] rfl (hR (x5 + 1) h)
  · have h := h.2 c
    refine J_iload 4 dX4_itComes_91 rfl ?_
    exact J_zret rfl dX4_itComes_93 (bz_n h.1) ⟨rfl, _, rfl, h.2⟩
set_option maxRecDepth 20000 in
set_option maxHeartbeats 4000000 in
theorem t_P_itComes_l55 {u : Mem}  {X : Prop} {x1 : Int32} {x2 : Int32} {x3 : Int32} {x4 : Int32} {Q : Int32 → Prop} {dd : Nat} {G : Int32 → Int32 → Int32 → Int32 → (Int32 → Prop) → Prop} (hG : ∀ (x1 : Int32) (x2 : Int32) (x3 : Int32) (x4 : Int32) (Q : Int32 → Prop), G x1 x2 x3 x4 Q → MX l D ad cI cZ cS rs A0 yX4_itComes cX4_itComes 6 (some .boolean) dd [.ref (ad 5), .int x1, .int x2, .int x3, .int x4] u (jRi u Q)) (hX : X → a_P_itComes l D ad cI cZ cS rs A0 dd (jRi u Q) 100 [(4, .int x4)] [] u) : ∀ (n : Nat) (x5 : Int32), w_P_itComes_l55 G X x1 x2 x3 x4 u Q n x5 → a_P_itComes l D ad cI cZ cS rs A0 dd (jRi u Q) 55 [(0, .ref (ad 5)), (1, .int x1), (2, .int x2), (3, .int x3), (4, .int x4), (5, .int x5)] [] u := by
  intro n
  induction n with
  | zero =>
    intro x5 h
    exact (by simp only [w_P_itComes_l55] at h : False).elim
  | succ n ih =>
    intro x5 h
    rw [w_P_itComes_l55] at h
    refine J_iload 5 dX4_itComes_55 rfl ?_
    refine J_bipush (v := 8) dX4_itComes_57 cb_8 ?_
    refine J_icmp_ge (tgt := 100) dX4_itComes_59 rfl (fun c => ?_) (fun c => ?_)
    · have h := h.1 c
      exact J_sub (lv' := [(4, .int x4)]) [4] rfl (hX h)
    · have h := h.2 c
      refine J_aload_n 0 dX4_itComes_62 rfl rfl ?_
      refine J_iload_n 1 dX4_itComes_63 rfl rfl ?_
      refine J_iconst (v := 1) dX4_itComes_64 ci_1 ?_
      refine J_iload 5 dX4_itComes_65 rfl ?_
      refine J_ishl dX4_itComes_67 ?_
      refine J_ixor dX4_itComes_68 ?_
      refine J_iload_n 2 dX4_itComes_69 rfl rfl ?_
      refine J_iload_n 3 dX4_itComes_70 rfl rfl ?_
      refine J_iconst (v := 1) dX4_itComes_71 ci_1 ?_
      refine J_isub dX4_itComes_72 ?_
      refine J_iload 4 dX4_itComes_73 rfl ?_
      refine J_if_ne (tgt := 82) dX4_itComes_75 rfl (fun c => ?_) (fun c => ?_)
      · have h := h.1 c
        refine J_iconst (v := 0) dX4_itComes_82 ci_0 ?_
        exact (t_P_itComes_b83 hG ih hX h)
      · have h := h.2 c
        refine J_iconst (v := 1) dX4_itComes_78 ci_1 ?_
        refine J_goto (tgt := 83) dX4_itComes_79 rfl ?_
        exact (t_P_itComes_b83 hG ih hX h)
set_option maxRecDepth 20000 in
set_option maxHeartbeats 4000000 in
theorem t_P_itComes_b41 {u : Mem} {x1 : Int32} {x2 : Int32} {x3 : Int32} {x4 : Int32} {s0 : Int32} {s1 : Int32} {s2 : Int32} {s3 : Int32} {Q : Int32 → Prop} {dd : Nat} {G : Int32 → Int32 → Int32 → Int32 → (Int32 → Prop) → Prop} (hG : ∀ (x1 : Int32) (x2 : Int32) (x3 : Int32) (x4 : Int32) (Q : Int32 → Prop), G x1 x2 x3 x4 Q → MX l D ad cI cZ cS rs A0 yX4_itComes cX4_itComes 6 (some .boolean) dd [.ref (ad 5), .int x1, .int x2, .int x3, .int x4] u (jRi u Q)) (h : w_P_itComes_b41 G x1 x2 x3 x4 s0 s1 s2 s3 u Q) : a_P_itComes l D ad cI cZ cS rs A0 dd (jRi u Q) 41 [(0, .ref (ad 5)), (1, .int x1), (2, .int x2), (3, .int x3), (4, .int x4)] [.int s0, .int s1, .int s2, .int s3, .ref (ad 5)] u := by
  unfold w_P_itComes_b41 at h
  refine JS_Ri kS_RX4_37 (hG s3 s2 s1 s0 _ h) rfl rfl (Nat.le_refl _) (Nat.le_of_ble_eq_true rfl) dX4_itComes_41 (fun r3 h => ?_)
  refine J_iload 4 dX4_itComes_44 rfl ?_
  refine J_icmp_ne (tgt := 52) dX4_itComes_46 rfl (fun c => ?_) (fun c => ?_)
  · have h := h.1 c
    refine J_iconst (v := 0) dX4_itComes_52 ci_0 ?_
    refine J_istore (lv' := [(5, .int 0), (0, .ref (ad 5)), (1, .int x1), (2, .int x2), (3, .int x3), (4, .int x4)]) dX4_itComes_53 (Nat.le_of_ble_eq_true rfl) rfl ?_
    obtain ⟨n7, h⟩ := h
    refine J_sub (lv' := [(0, .ref (ad 5)), (1, .int x1), (2, .int x2), (3, .int x3), (4, .int x4), (5, .int 0)]) [1, 2, 3, 4, 5, 0] rfl (t_P_itComes_l55 hG ?_ n7 0 h)
    · intro h
      refine J_iload 0 dX4_itComes_100 rfl ?_
      refine J_if_ne (tgt := 109) dX4_itComes_102 rfl (fun c => ?_) (fun c => ?_)
      · have h := h.1 c
        refine J_iconst (v := 0) dX4_itComes_109 ci_0 ?_
        exact J_zret rfl dX4_itComes_110 (bz_n bz_0) ⟨rfl, _, rfl, h⟩
      · have h := h.2 c
        refine J_iconst (v := 1) dX4_itComes_105 ci_1 ?_
        refine J_goto (tgt := 110) dX4_itComes_106 rfl ?_
        exact J_zret rfl dX4_itComes_110 (bz_n bz_1) ⟨rfl, _, rfl, h⟩
  · have h := h.2 c
    refine J_iload 4 dX4_itComes_49 rfl ?_
    exact J_zret rfl dX4_itComes_51 (bz_n h.1) ⟨rfl, _, rfl, h.2⟩
set_option maxRecDepth 20000 in
set_option maxHeartbeats 4000000 in
theorem c_P_itComes {u : Mem} : ∀ (n : Nat) {x1 : Int32} {x2 : Int32} {x3 : Int32} {x4 : Int32} {Q : Int32 → Prop}, w_P_itComes n x1 x2 x3 x4 u Q → MX l D ad cI cZ cS rs A0 yX4_itComes cX4_itComes 6 (some .boolean) n [.ref (ad 5), .int x1, .int x2, .int x3, .int x4] u (jRi u Q) := by
  intro n
  induction n with
  | zero =>
    intro x1 x2 x3 x4 Q h
    exact (by simp only [w_P_itComes] at h : False).elim
  | succ dd ih =>
    intro x1 x2 x3 x4 Q h
    rw [w_P_itComes] at h
    generalize hGe : (fun x1 x2 x3 x4 Q => w_P_itComes dd x1 x2 x3 x4 u Q) = G at h
    have hG : ∀ (x1 : Int32) (x2 : Int32) (x3 : Int32) (x4 : Int32) (Q : Int32 → Prop), G x1 x2 x3 x4 Q → MX l D ad cI cZ cS rs A0 yX4_itComes cX4_itComes 6 (some .boolean) dd [.ref (ad 5), .int x1, .int x2, .int x3, .int x4] u (jRi u Q) := by
      intro x1 x2 x3 x4 Q h
      rw [← hGe] at h
      exact ih h
    clear hGe ih
    unfold w_P_itComes_body at h
    refine JMet.of (by decide) (Nat.le_of_ble_eq_true rfl) ?_
    refine J_sub (lv' := [(0, .ref (ad 5)), (1, .int x1), (2, .int x2), (3, .int x3), (4, .int x4)]) [0, 1, 2, 3, 4] rfl ?_
    show a_P_itComes l D ad cI cZ cS rs A0 dd (jRi u Q) 0 [(0, .ref (ad 5)), (1, .int x1), (2, .int x2), (3, .int x3), (4, .int x4)] [] u
    refine J_iload_n 3 dX4_itComes_0 rfl rfl ?_
    refine J_if_le (tgt := 9) dX4_itComes_1 rfl (fun c => ?_) (fun c => ?_)
    · have h := h.1 c
      exact J_sub (lv' := [(0, .ref (ad 5)), (1, .int x1), (2, .int x2)]) [0, 1, 2] rfl (t_P_itComes_b9 hG h)
    · have h := h.2 c
      refine J_iload_n 3 dX4_itComes_4 rfl rfl ?_
      refine J_iconst (v := 4) dX4_itComes_5 ci_4 ?_
      refine J_icmp_le (tgt := 25) dX4_itComes_6 rfl (fun c => ?_) (fun c => ?_)
      · have h := h.1 c
        refine J_aload_n 0 dX4_itComes_25 rfl rfl ?_
        refine J_iload_n 1 dX4_itComes_26 rfl rfl ?_
        refine J_iload_n 2 dX4_itComes_27 rfl rfl ?_
        refine J_iload_n 3 dX4_itComes_28 rfl rfl ?_
        refine J_iconst (v := 1) dX4_itComes_29 ci_1 ?_
        refine J_isub dX4_itComes_30 ?_
        refine J_iload 4 dX4_itComes_31 rfl ?_
        refine J_if_ne (tgt := 40) dX4_itComes_33 rfl (fun c => ?_) (fun c => ?_)
        · have h := h.1 c
          refine J_iconst (v := 0) dX4_itComes_40 ci_0 ?_
          exact (t_P_itComes_b41 hG h)
        · have h := h.2 c
          refine J_iconst (v := 1) dX4_itComes_36 ci_1 ?_
          refine J_goto (tgt := 41) dX4_itComes_37 rfl ?_
          exact (t_P_itComes_b41 hG h)
      · have h := h.2 c
        exact J_sub (lv' := [(0, .ref (ad 5)), (1, .int x1), (2, .int x2)]) [0, 1, 2] rfl (t_P_itComes_b9 hG h)
abbrev a_P_endsInComing (l : Launch) (D : va_G) (ad : Nat → Nat) (cI cZ cS : ClassId) (rs : va_W) (A0 : Nat → Prop) := AX l D ad cI cZ cS rs A0 cX4_endsInComing 4 (some .boolean) RX4 6
set_option maxRecDepth 20000 in
set_option maxHeartbeats 4000000 in
theorem c_P_endsInComing {u : Mem} {x1 : Int32} {x2 : Int32} {x3 : Int32} {Q : Int32 → Prop} (h : w_P_endsInComing x1 x2 x3 u Q) : MX l D ad cI cZ cS rs A0 yX4_endsInComing cX4_endsInComing 4 (some .boolean) 6 [.ref (ad 5), .int x1, .int x2, .int x3] u (jRi u Q) := by
  unfold w_P_endsInComing at h
  refine JMet.of (by decide) (Nat.le_of_ble_eq_true rfl) ?_
  refine J_sub (lv' := [(0, .ref (ad 5)), (1, .int x1), (2, .int x2), (3, .int x3)]) [0, 1, 2, 3] rfl ?_
  show a_P_endsInComing l D ad cI cZ cS rs A0 (jRi u Q) 0 [(0, .ref (ad 5)), (1, .int x1), (2, .int x2), (3, .int x3)] [] u
  refine J_aload_n 0 dX4_endsInComing_0 rfl rfl ?_
  refine J_iload_n 1 dX4_endsInComing_1 rfl rfl ?_
  refine J_iload_n 2 dX4_endsInComing_2 rfl rfl ?_
  refine J_iload_n 3 dX4_endsInComing_3 rfl rfl ?_
  refine J_iconst (v := 1) dX4_endsInComing_4 ci_1 ?_
  refine JS_Ri kS_RX4_37 (c_P_itComes 5 h) rfl rfl (by decide) (Nat.le_of_ble_eq_true rfl) dX4_endsInComing_5 (fun r1 h => ?_)
  exact J_zret rfl dX4_endsInComing_8 (bz_n h.1) ⟨rfl, _, rfl, h.2⟩
abbrev a_P_firstTouch (l : Launch) (D : va_G) (ad : Nat → Nat) (cI cZ cS : ClassId) (rs : va_W) (A0 : Nat → Prop) := AX l D ad cI cZ cS rs A0 cX4_firstTouch 5 (some .int) RX4 6
set_option maxRecDepth 20000 in
set_option maxHeartbeats 4000000 in
theorem t_P_firstTouch_l22 {u : Mem}  {X : Prop} {x1 : Int32} {x2 : Int32} {x3 : Int32} {Q : Int32 → Prop} (hX : X → a_P_firstTouch l D ad cI cZ cS rs A0 (jRi u Q) 56 [] [] u) : ∀ (n : Nat) (x4 : Int32), w_P_firstTouch_l22 X x1 x2 x3 u Q n x4 → a_P_firstTouch l D ad cI cZ cS rs A0 (jRi u Q) 22 [(0, .ref (ad 5)), (1, .int x1), (2, .int x2), (3, .int x3), (4, .int x4)] [] u := by
  intro n
  induction n with
  | zero =>
    intro x4 h
    exact (by simp only [w_P_firstTouch_l22] at h : False).elim
  | succ n ih =>
    intro x4 h
    rw [w_P_firstTouch_l22] at h
    refine J_iload 4 dX4_firstTouch_22 rfl ?_
    refine J_bipush (v := 8) dX4_firstTouch_24 cb_8 ?_
    refine J_icmp_ge (tgt := 56) dX4_firstTouch_26 rfl (fun c => ?_) (fun c => ?_)
    · have h := h.1 c
      exact J_sub (lv' := []) [] rfl (hX h)
    · have h := h.2 c
      refine J_aload_n 0 dX4_firstTouch_29 rfl rfl ?_
      refine J_iload_n 1 dX4_firstTouch_30 rfl rfl ?_
      refine J_iconst (v := 1) dX4_firstTouch_31 ci_1 ?_
      refine J_iload 4 dX4_firstTouch_32 rfl ?_
      refine J_ishl dX4_firstTouch_34 ?_
      refine J_ixor dX4_firstTouch_35 ?_
      refine J_iload_n 2 dX4_firstTouch_36 rfl rfl ?_
      refine J_iload_n 3 dX4_firstTouch_37 rfl rfl ?_
      refine J_iconst (v := 1) dX4_firstTouch_38 ci_1 ?_
      refine J_isub dX4_firstTouch_39 ?_
      refine J_iconst (v := 0) dX4_firstTouch_40 ci_0 ?_
      refine JS_Ri kS_RX4_37 (c_P_itComes 5 h) rfl rfl (by decide) (Nat.le_of_ble_eq_true rfl) dX4_firstTouch_41 (fun r3 h => ?_)
      refine J_if_eq (tgt := 50) dX4_firstTouch_44 rfl (fun c => ?_) (fun c => ?_)
      · have h := h.1 c
        refine J_iinc (v := (x4 + 1)) (lv' := [(4, .int (x4 + 1)), (0, .ref (ad 5)), (1, .int x1), (2, .int x2), (3, .int x3)]) 4 dX4_firstTouch_50 rfl rfl (Nat.le_of_ble_eq_true rfl) rfl ?_
        refine J_goto (tgt := 22) dX4_firstTouch_53 rfl ?_
        exact J_sub (lv' := [(0, .ref (ad 5)), (1, .int x1), (2, .int x2), (3, .int x3), (4, .int (x4 + 1))]) [1, 2, 3, 4, 0] rfl (ih (x4 + 1) h)
      · have h := h.2 c
        refine J_iload 4 dX4_firstTouch_47 rfl ?_
        exact J_iret rfl dX4_firstTouch_49 ⟨rfl, _, rfl, h⟩
set_option maxRecDepth 20000 in
set_option maxHeartbeats 4000000 in
theorem c_P_firstTouch {u : Mem} {x1 : Int32} {x2 : Int32} {x3 : Int32} {Q : Int32 → Prop} (h : w_P_firstTouch x1 x2 x3 u Q) : MX l D ad cI cZ cS rs A0 yX4_firstTouch cX4_firstTouch 5 (some .int) 6 [.ref (ad 5), .int x1, .int x2, .int x3] u (jRi u Q) := by
  unfold w_P_firstTouch at h
  refine JMet.of (by decide) (Nat.le_of_ble_eq_true rfl) ?_
  refine J_sub (lv' := [(0, .ref (ad 5)), (1, .int x1), (2, .int x2), (3, .int x3)]) [0, 1, 2, 3] rfl ?_
  show a_P_firstTouch l D ad cI cZ cS rs A0 (jRi u Q) 0 [(0, .ref (ad 5)), (1, .int x1), (2, .int x2), (3, .int x3)] [] u
  refine J_iload_n 3 dX4_firstTouch_0 rfl rfl ?_
  refine J_if_le (tgt := 17) dX4_firstTouch_1 rfl (fun c => ?_) (fun c => ?_)
  · have h := h.1 c
    refine J_iconst (v := (-1)) dX4_firstTouch_17 ci_m1 ?_
    exact J_iret rfl dX4_firstTouch_18 ⟨rfl, _, rfl, h⟩
  · have h := h.2 c
    refine J_aload_n 0 dX4_firstTouch_4 rfl rfl ?_
    refine J_iload_n 1 dX4_firstTouch_5 rfl rfl ?_
    refine J_iload_n 2 dX4_firstTouch_6 rfl rfl ?_
    refine J_iload_n 3 dX4_firstTouch_7 rfl rfl ?_
    refine J_iconst (v := 1) dX4_firstTouch_8 ci_1 ?_
    refine J_isub dX4_firstTouch_9 ?_
    refine J_iconst (v := 0) dX4_firstTouch_10 ci_0 ?_
    refine JS_Ri kS_RX4_37 (c_P_itComes 5 h) rfl rfl (by decide) (Nat.le_of_ble_eq_true rfl) dX4_firstTouch_11 (fun r1 h => ?_)
    refine J_if_eq (tgt := 19) dX4_firstTouch_14 rfl (fun c => ?_) (fun c => ?_)
    · have h := h.1 c
      refine J_iconst (v := 0) dX4_firstTouch_19 ci_0 ?_
      refine J_istore (lv' := [(4, .int 0), (0, .ref (ad 5)), (1, .int x1), (2, .int x2), (3, .int x3)]) dX4_firstTouch_20 (Nat.le_of_ble_eq_true rfl) rfl ?_
      obtain ⟨n5, h⟩ := h
      refine J_sub (lv' := [(0, .ref (ad 5)), (1, .int x1), (2, .int x2), (3, .int x3), (4, .int 0)]) [1, 2, 3, 4, 0] rfl (t_P_firstTouch_l22 ?_ n5 0 h)
      · intro h
        refine J_iconst (v := (-1)) dX4_firstTouch_56 ci_m1 ?_
        exact J_iret rfl dX4_firstTouch_57 ⟨rfl, _, rfl, h⟩
    · have h := h.2 c
      refine J_iconst (v := (-1)) dX4_firstTouch_17 ci_m1 ?_
      exact J_iret rfl dX4_firstTouch_18 ⟨rfl, _, rfl, h⟩
end
