section
variable {l : Launch} {D : va_G} {ad : Nat → Nat} {cI cZ cS : ClassId} {rs : va_W} {A0 : Nat → Prop}
abbrev a_M_in (l : Launch) (D : va_G) (ad : Nat → Nat) (cI cZ cS : ClassId) (rs : va_W) (A0 : Nat → Prop) := AM l D ad cI cZ cS rs A0 cX11_in 6 (some .boolean) RX11 0
set_option maxRecDepth 20000 in
set_option maxHeartbeats 4000000 in
theorem c_M_in {u : Mem} {x0 : Int64} {x2 : Int64} {x4 : Int64} {Q : Int32 → Prop} (h : w_M_in x0 x2 x4 Q) : MM l D ad cI cZ cS rs A0 yX11_in cX11_in 6 (some .boolean) 0 [.long x0, .long x2, .long x4] u (jRi u Q) := by
  unfold w_M_in at h
  refine JMet.of (by decide) (Nat.le_of_ble_eq_true rfl) ?_
  refine J_sub (lv' := [(0, .long x0), (2, .long x2), (4, .long x4)]) [0, 1, 2] rfl ?_
  show a_M_in l D ad cI cZ cS rs A0 (jRi u Q) 0 [(0, .long x0), (2, .long x2), (4, .long x4)] [] u
  refine J_lload_n 0 dX11_in_0 rfl rfl ?_
  refine J_lload_n 1 dX11_in_1 rfl rfl ?_
  refine J_lcmp dX11_in_2 ?_
  refine J_if_lt (tgt := 17) dX11_in_3 rfl (fun c => ?_) (fun c => ?_)
  · have h := h.1 c
    refine J_iconst (v := 0) dX11_in_17 ci_0 ?_
    exact J_zret rfl dX11_in_18 (bz_n bz_0) ⟨rfl, _, rfl, h⟩
  · have h := h.2 c
    refine J_lload_n 0 dX11_in_6 rfl rfl ?_
    refine J_lload 2 dX11_in_7 rfl ?_
    refine J_lcmp dX11_in_9 ?_
    refine J_if_gt (tgt := 17) dX11_in_10 rfl (fun c => ?_) (fun c => ?_)
    · have h := h.1 c
      refine J_iconst (v := 0) dX11_in_17 ci_0 ?_
      exact J_zret rfl dX11_in_18 (bz_n bz_0) ⟨rfl, _, rfl, h⟩
    · have h := h.2 c
      refine J_iconst (v := 1) dX11_in_13 ci_1 ?_
      refine J_goto (tgt := 18) dX11_in_14 rfl ?_
      exact J_zret rfl dX11_in_18 (bz_n bz_1) ⟨rfl, _, rfl, h⟩
abbrev a_M_no (l : Launch) (D : va_G) (ad : Nat → Nat) (cI cZ cS : ClassId) (rs : va_W) (A0 : Nat → Prop) := AM l D ad cI cZ cS rs A0 cX11_no 1 (some .long) RX11 0
set_option maxRecDepth 20000 in
set_option maxHeartbeats 4000000 in
theorem c_M_no {u : Mem} {x0 : Int32} {Q : Int64 → Prop} (h : w_M_no x0 Q) : MM l D ad cI cZ cS rs A0 yX11_no cX11_no 1 (some .long) 0 [.int x0] u (jRl u Q) := by
  unfold w_M_no at h
  refine JMet.of (by decide) (Nat.le_of_ble_eq_true rfl) ?_
  refine J_sub (lv' := [(0, .int x0)]) [0] rfl ?_
  show a_M_no l D ad cI cZ cS rs A0 (jRl u Q) 0 [(0, .int x0)] [] u
  refine J_ldc2 (v := (-9223372036854775808)) dX11_no_0 kk_RX11_59 ?_
  refine J_iload_n 0 dX11_no_3 rfl rfl ?_
  refine J_i2l dX11_no_4 ?_
  refine J_lsub dX11_no_5 ?_
  exact J_lret rfl dX11_no_6 ⟨rfl, _, rfl, h⟩
abbrev a_M_isTwo (l : Launch) (D : va_G) (ad : Nat → Nat) (cI cZ cS : ClassId) (rs : va_W) (A0 : Nat → Prop) := AM l D ad cI cZ cS rs A0 cX11_isTwo 1 (some .boolean) RX11 1
set_option maxRecDepth 20000 in
set_option maxHeartbeats 4000000 in
theorem c_M_isTwo {u : Mem} {x0 : Int32} {Q : Int32 → Prop} (h : w_M_isTwo x0 Q) : MM l D ad cI cZ cS rs A0 yX11_isTwo cX11_isTwo 1 (some .boolean) 1 [.int x0] u (jRi u Q) := by
  unfold w_M_isTwo at h
  refine JMet.of (by decide) (Nat.le_of_ble_eq_true rfl) ?_
  refine J_sub (lv' := [(0, .int x0)]) [0] rfl ?_
  show a_M_isTwo l D ad cI cZ cS rs A0 (jRi u Q) 0 [(0, .int x0)] [] u
  refine J_iload_n 0 dX11_isTwo_0 rfl rfl ?_
  refine J_i2l dX11_isTwo_1 ?_
  refine J_lconst (v := 0) dX11_isTwo_2 rfl ?_
  refine J_lconst (v := 1) dX11_isTwo_3 rfl ?_
  refine JS_Ri kS_RX11_61 (c_M_in h) rfl rfl (by decide) (Nat.le_of_ble_eq_true rfl) dX11_isTwo_4 (fun r1 h => ?_)
  exact J_zret rfl dX11_isTwo_7 (bz_n h.1) ⟨rfl, _, rfl, h.2⟩
abbrev a_M_isIn (l : Launch) (D : va_G) (ad : Nat → Nat) (cI cZ cS : ClassId) (rs : va_W) (A0 : Nat → Prop) := AM l D ad cI cZ cS rs A0 cX11_isIn 2 (some .boolean) RX11 0
set_option maxRecDepth 20000 in
set_option maxHeartbeats 4000000 in
theorem c_M_isIn {u : Mem} {x0 : Int32} {x1 : Int32} {Q : Int32 → Prop} (h : w_M_isIn x0 x1 Q) : MM l D ad cI cZ cS rs A0 yX11_isIn cX11_isIn 2 (some .boolean) 0 [.int x0, .int x1] u (jRi u Q) := by
  unfold w_M_isIn at h
  refine JMet.of (by decide) (Nat.le_of_ble_eq_true rfl) ?_
  refine J_sub (lv' := [(0, .int x0), (1, .int x1)]) [0, 1] rfl ?_
  show a_M_isIn l D ad cI cZ cS rs A0 (jRi u Q) 0 [(0, .int x0), (1, .int x1)] [] u
  refine J_iload_n 0 dX11_isIn_0 rfl rfl ?_
  refine J_iload_n 1 dX11_isIn_1 rfl rfl ?_
  refine J_ishr dX11_isIn_2 ?_
  refine J_iconst (v := 1) dX11_isIn_3 ci_1 ?_
  refine J_iand dX11_isIn_4 ?_
  refine J_iconst (v := 1) dX11_isIn_5 ci_1 ?_
  refine J_icmp_ne (tgt := 13) dX11_isIn_6 rfl (fun c => ?_) (fun c => ?_)
  · have h := h.1 c
    refine J_iconst (v := 0) dX11_isIn_13 ci_0 ?_
    exact J_zret rfl dX11_isIn_14 (bz_n bz_0) ⟨rfl, _, rfl, h⟩
  · have h := h.2 c
    refine J_iconst (v := 1) dX11_isIn_9 ci_1 ?_
    refine J_goto (tgt := 14) dX11_isIn_10 rfl ?_
    exact J_zret rfl dX11_isIn_14 (bz_n bz_1) ⟨rfl, _, rfl, h⟩
abbrev a_M_ones (l : Launch) (D : va_G) (ad : Nat → Nat) (cI cZ cS : ClassId) (rs : va_W) (A0 : Nat → Prop) := AM l D ad cI cZ cS rs A0 cX11_ones 3 (some .int) RX11 0
set_option maxRecDepth 20000 in
set_option maxHeartbeats 4000000 in
theorem t_M_ones_l4 {u : Mem}  {X : Int32 → Prop} {Q : Int32 → Prop} (hX : ∀ (x1 : Int32), X x1 → a_M_ones l D ad cI cZ cS rs A0 (jRi u Q) 20 [(1, .int x1)] [] u) : ∀ (n : Nat) (x1 : Int32) (x2 : Int32), w_M_ones_l4 X Q n x1 x2 → a_M_ones l D ad cI cZ cS rs A0 (jRi u Q) 4 [(1, .int x1), (2, .int x2)] [] u := by
  intro n
  induction n with
  | zero =>
    intro x1 x2 h
    exact (by simp only [w_M_ones_l4] at h : False).elim
  | succ n ih =>
    intro x1 x2 h
    rw [w_M_ones_l4] at h
    refine J_iload_n 1 dX11_ones_4 rfl rfl ?_
    refine J_if_eq (tgt := 20) dX11_ones_5 rfl (fun c => ?_) (fun c => ?_)
    · have h := h.1 c
      exact J_sub (lv' := [(1, .int x1)]) [0] rfl (hX x1 h)
    · have h := h.2 c
      refine J_iinc (v := (x1 + 1)) (lv' := [(1, .int (x1 + 1)), (2, .int x2)]) 0 dX11_ones_8 rfl rfl (Nat.le_of_ble_eq_true rfl) rfl ?_
      refine J_iload_n 1 dX11_ones_11 rfl rfl ?_
      refine J_iload_n 1 dX11_ones_12 rfl rfl ?_
      refine J_iconst (v := 1) dX11_ones_13 ci_1 ?_
      refine J_isub dX11_ones_14 ?_
      refine J_iand dX11_ones_15 ?_
      refine J_istore_n (lv' := [(2, .int (x2 &&& (x2 - 1))), (1, .int (x1 + 1))]) dX11_ones_16 rfl (Nat.le_of_ble_eq_true rfl) rfl ?_
      refine J_goto (tgt := 4) dX11_ones_17 rfl ?_
      exact J_sub (lv' := [(1, .int (x1 + 1)), (2, .int (x2 &&& (x2 - 1)))]) [1, 0] rfl (ih (x1 + 1) (x2 &&& (x2 - 1)) h)
set_option maxRecDepth 20000 in
set_option maxHeartbeats 4000000 in
theorem c_M_ones {u : Mem} {x0 : Int32} {Q : Int32 → Prop} (h : w_M_ones x0 Q) : MM l D ad cI cZ cS rs A0 yX11_ones cX11_ones 3 (some .int) 0 [.int x0] u (jRi u Q) := by
  unfold w_M_ones at h
  refine JMet.of (by decide) (Nat.le_of_ble_eq_true rfl) ?_
  refine J_sub (lv' := [(0, .int x0)]) [0] rfl ?_
  show a_M_ones l D ad cI cZ cS rs A0 (jRi u Q) 0 [(0, .int x0)] [] u
  refine J_iconst (v := 0) dX11_ones_0 ci_0 ?_
  refine J_istore_n (lv' := [(1, .int 0), (0, .int x0)]) dX11_ones_1 rfl (Nat.le_of_ble_eq_true rfl) rfl ?_
  refine J_iload_n 1 dX11_ones_2 rfl rfl ?_
  refine J_istore_n (lv' := [(2, .int x0), (1, .int 0), (0, .int x0)]) dX11_ones_3 rfl (Nat.le_of_ble_eq_true rfl) rfl ?_
  obtain ⟨n2, h⟩ := h
  refine J_sub (lv' := [(1, .int 0), (2, .int x0)]) [1, 0] rfl (t_M_ones_l4 ?_ n2 0 x0 h)
  · intro z1 h
    refine J_iload_n 0 dX11_ones_20 rfl rfl ?_
    exact J_iret rfl dX11_ones_21 ⟨rfl, _, rfl, h⟩
abbrev a_M_part (l : Launch) (D : va_G) (ad : Nat → Nat) (cI cZ cS : ClassId) (rs : va_W) (A0 : Nat → Prop) := AM l D ad cI cZ cS rs A0 cX11_part 11 (some .long) RX11 0
set_option maxRecDepth 20000 in
set_option maxHeartbeats 4000000 in
theorem t_M_part_l6 {u : Mem}  {X : Int64 → Prop} {x0 : Int64} {x2 : Int64} {x4 : Int32} {Q : Int64 → Prop} (hX : ∀ (x5 : Int64), X x5 → a_M_part l D ad cI cZ cS rs A0 (jRl u Q) 31 [(0, .long x0), (2, .long x2), (4, .int x4), (5, .long x5)] [] u) : ∀ (n : Nat) (x5 : Int64) (x7 : Int64), w_M_part_l6 X x0 x2 x4 Q n x5 x7 → a_M_part l D ad cI cZ cS rs A0 (jRl u Q) 6 [(0, .long x0), (2, .long x2), (4, .int x4), (5, .long x5), (7, .long x7)] [] u := by
  intro n
  induction n with
  | zero =>
    intro x5 x7 h
    exact (by simp only [w_M_part_l6] at h : False).elim
  | succ n ih =>
    intro x5 x7 h
    rw [w_M_part_l6] at h
    refine J_lload 4 dX11_part_6 rfl ?_
    refine J_lconst (v := 0) dX11_part_8 rfl ?_
    refine J_lcmp dX11_part_9 ?_
    refine J_if_eq (tgt := 31) dX11_part_10 rfl (fun c => ?_) (fun c => ?_)
    · have h := h.1 c
      exact J_sub (lv' := [(0, .long x0), (2, .long x2), (4, .int x4), (5, .long x5)]) [0, 1, 2, 3] rfl (hX x5 h)
    · have h := h.2 c
      refine J_lload 3 dX11_part_13 rfl ?_
      refine J_lload 4 dX11_part_15 rfl ?_
      refine J_lrem dX11_part_17 h.1 ?_
      have h := h.2
      refine J_lstore (lv' := [(9, .long (x5 - x5 / x7 * x7)), (0, .long x0), (2, .long x2), (4, .int x4), (5, .long x5), (7, .long x7)]) dX11_part_18 (Nat.le_of_ble_eq_true rfl) rfl ?_
      refine J_lload 5 dX11_part_20 rfl ?_
      refine J_lstore (lv' := [(5, .long x7), (9, .long (x5 - x5 / x7 * x7)), (0, .long x0), (2, .long x2), (4, .int x4), (7, .long x7)]) dX11_part_22 (Nat.le_of_ble_eq_true rfl) rfl ?_
      refine J_lload 1 dX11_part_24 rfl ?_
      refine J_lstore (lv' := [(7, .long (x5 - x5 / x7 * x7)), (5, .long x7), (9, .long (x5 - x5 / x7 * x7)), (0, .long x0), (2, .long x2), (4, .int x4)]) dX11_part_26 (Nat.le_of_ble_eq_true rfl) rfl ?_
      refine J_goto (tgt := 6) dX11_part_28 rfl ?_
      exact J_sub (lv' := [(0, .long x0), (2, .long x2), (4, .int x4), (5, .long x7), (7, .long (x5 - x5 / x7 * x7))]) [3, 4, 5, 1, 0] rfl (ih x7 (x5 - x5 / x7 * x7) h)
set_option maxRecDepth 20000 in
set_option maxHeartbeats 4000000 in
theorem t_M_part_b41 {u : Mem} {x5 : Int64} {s0 : Int64} {Q : Int64 → Prop} (h : w_M_part_b41 x5 s0 Q) : a_M_part l D ad cI cZ cS rs A0 (jRl u Q) 41 [(5, .long x5)] [.long s0] u := by
  unfold w_M_part_b41 at h
  refine J_lload 0 dX11_part_41 rfl ?_
  refine J_ldiv dX11_part_43 h.1 ?_
  have h := h.2
  exact J_lret rfl dX11_part_44 ⟨rfl, _, rfl, h⟩
set_option maxRecDepth 20000 in
set_option maxHeartbeats 4000000 in
theorem c_M_part {u : Mem} {x0 : Int64} {x2 : Int64} {x4 : Int32} {Q : Int64 → Prop} (h : w_M_part x0 x2 x4 Q) : MM l D ad cI cZ cS rs A0 yX11_part cX11_part 11 (some .long) 0 [.long x0, .long x2, .int x4] u (jRl u Q) := by
  unfold w_M_part at h
  refine JMet.of (by decide) (Nat.le_of_ble_eq_true rfl) ?_
  refine J_sub (lv' := [(0, .long x0), (2, .long x2), (4, .int x4)]) [0, 1, 2] rfl ?_
  show a_M_part l D ad cI cZ cS rs A0 (jRl u Q) 0 [(0, .long x0), (2, .long x2), (4, .int x4)] [] u
  refine J_lload_n 0 dX11_part_0 rfl rfl ?_
  refine J_lstore (lv' := [(5, .long x0), (0, .long x0), (2, .long x2), (4, .int x4)]) dX11_part_1 (Nat.le_of_ble_eq_true rfl) rfl ?_
  refine J_lload_n 2 dX11_part_3 rfl rfl ?_
  refine J_lstore (lv' := [(7, .long x2), (5, .long x0), (0, .long x0), (2, .long x2), (4, .int x4)]) dX11_part_4 (Nat.le_of_ble_eq_true rfl) rfl ?_
  obtain ⟨n2, h⟩ := h
  refine J_sub (lv' := [(0, .long x0), (2, .long x2), (4, .int x4), (5, .long x0), (7, .long x2)]) [2, 3, 4, 1, 0] rfl (t_M_part_l6 ?_ n2 x0 x2 h)
  · intro z1 h
    refine J_iload 2 dX11_part_31 rfl ?_
    refine J_if_ne (tgt := 40) dX11_part_33 rfl (fun c => ?_) (fun c => ?_)
    · have h := h.1 c
      refine J_lload_n 1 dX11_part_40 rfl rfl ?_
      exact J_sub (lv' := [(5, .long z1)]) [3] rfl (t_M_part_b41 h)
    · have h := h.2 c
      refine J_lload_n 0 dX11_part_36 rfl rfl ?_
      refine J_goto (tgt := 41) dX11_part_37 rfl ?_
      exact J_sub (lv' := [(5, .long z1)]) [3] rfl (t_M_part_b41 h)
abbrev a_M_met (l : Launch) (D : va_G) (ad : Nat → Nat) (cI cZ cS : ClassId) (rs : va_W) (A0 : Nat → Prop) := AM l D ad cI cZ cS rs A0 cX11_met 2 (some .int) RX11 0
set_option maxRecDepth 20000 in
set_option maxHeartbeats 4000000 in
theorem c_M_met {u : Mem} {x1 : Int32} {Q : Int32 → Mem → Prop} (h : w_M_met x1 u Q) : MM l D ad cI cZ cS rs A0 yX11_met cX11_met 2 (some .int) 0 [.ref (ad 0), .int x1] u (jWi Q) := by
  unfold w_M_met at h
  refine JMet.of (by decide) (Nat.le_of_ble_eq_true rfl) ?_
  refine J_sub (lv' := [(0, .ref (ad 0)), (1, .int x1)]) [0, 1] rfl ?_
  show a_M_met l D ad cI cZ cS rs A0 (jWi Q) 0 [(0, .ref (ad 0)), (1, .int x1)] [] u
  refine J_aload_n 0 dX11_met_0 rfl rfl ?_
  refine J_iload_n 1 dX11_met_1 rfl rfl ?_
  refine pM_0_4 dX11_met_2 ?_
  refine J_bipush (v := (-10)) dX11_met_5 cb_m10 ?_
  refine J_iload_n 1 dX11_met_7 rfl rfl ?_
  refine J_isub dX11_met_8 ?_
  exact J_iret rfl dX11_met_9 ⟨_, rfl, h⟩
abbrev a_M_isSheet (l : Launch) (D : va_G) (ad : Nat → Nat) (cI cZ cS : ClassId) (rs : va_W) (A0 : Nat → Prop) := AM l D ad cI cZ cS rs A0 cX11_isSheet 1 (some .boolean) RX11 1
set_option maxRecDepth 20000 in
set_option maxHeartbeats 4000000 in
theorem c_M_isSheet {u : Mem} {x0 : Int32} {Q : Int32 → Prop} (h : w_M_isSheet x0 Q) : MM l D ad cI cZ cS rs A0 yX11_isSheet cX11_isSheet 1 (some .boolean) 1 [.int x0] u (jRi u Q) := by
  unfold w_M_isSheet at h
  refine JMet.of (by decide) (Nat.le_of_ble_eq_true rfl) ?_
  refine J_sub (lv' := [(0, .int x0)]) [0] rfl ?_
  show a_M_isSheet l D ad cI cZ cS rs A0 (jRi u Q) 0 [(0, .int x0)] [] u
  refine J_iload_n 0 dX11_isSheet_0 rfl rfl ?_
  refine J_i2l dX11_isSheet_1 ?_
  refine J_lconst (v := 0) dX11_isSheet_2 rfl ?_
  refine J_ldc2 (v := 3) dX11_isSheet_3 kk_RX11_69 ?_
  refine JS_Ri kS_RX11_61 (c_M_in h) rfl rfl (by decide) (Nat.le_of_ble_eq_true rfl) dX11_isSheet_6 (fun r1 h => ?_)
  exact J_zret rfl dX11_isSheet_9 (bz_n h.1) ⟨rfl, _, rfl, h.2⟩
abbrev a_M_sheet (l : Launch) (D : va_G) (ad : Nat → Nat) (cI cZ cS : ClassId) (rs : va_W) (A0 : Nat → Prop) := AM l D ad cI cZ cS rs A0 cX11_sheet 5 (some .int) RX11 2
set_option maxRecDepth 20000 in
set_option maxHeartbeats 4000000 in
theorem t_M_sheet_l55  {X : Mem → Prop} {x1 : Int32} {x3 : Int32} {Q : Int32 → Mem → Prop} (hX : ∀ (u : Mem), X u → a_M_sheet l D ad cI cZ cS rs A0 (jWi Q) 80 [(3, .int x3)] [] u) : ∀ (n : Nat) (x4 : Int32) (u : Mem), w_M_sheet_l55 X x1 x3 Q n x4 u → a_M_sheet l D ad cI cZ cS rs A0 (jWi Q) 55 [(0, .ref (ad 0)), (1, .int x1), (3, .int x3), (4, .int x4)] [] u := by
  intro n
  induction n with
  | zero =>
    intro x4 u h
    exact (by simp only [w_M_sheet_l55] at h : False).elim
  | succ n ih =>
    intro x4 u h
    rw [w_M_sheet_l55] at h
    refine J_iload 3 dX11_sheet_55 rfl ?_
    refine J_iload_n 2 dX11_sheet_57 rfl rfl ?_
    refine J_icmp_ge (tgt := 80) dX11_sheet_58 rfl (fun c => ?_) (fun c => ?_)
    · have h := h.1 c
      exact J_sub (lv' := [(3, .int x3)]) [2] rfl (hX u h)
    · have h := h.2 c
      refine J_aload_n 0 dX11_sheet_61 rfl rfl ?_
      refine gM_0_2 dX11_sheet_62 ?_
      refine J_bipush (v := 60) dX11_sheet_65 cb_60 ?_
      refine J_iload_n 1 dX11_sheet_67 rfl rfl ?_
      refine J_imul dX11_sheet_68 ?_
      refine J_iload 3 dX11_sheet_69 rfl ?_
      refine J_iadd dX11_sheet_71 ?_
      refine J_iconst (v := 0) dX11_sheet_72 ci_0 ?_
      refine tM_2 h.1 dX11_sheet_73 ?_
      have h := h.2
      refine J_iinc (v := (x4 + 1)) (lv' := [(4, .int (x4 + 1)), (0, .ref (ad 0)), (1, .int x1), (3, .int x3)]) 3 dX11_sheet_74 rfl rfl (Nat.le_of_ble_eq_true rfl) rfl ?_
      refine J_goto (tgt := 55) dX11_sheet_77 rfl ?_
      exact J_sub (lv' := [(0, .ref (ad 0)), (1, .int x1), (3, .int x3), (4, .int (x4 + 1))]) [1, 2, 3, 0] rfl (ih (x4 + 1) (sA u 2 ((60 * x1) + x4).toNatClampNeg 0) h)
set_option maxRecDepth 20000 in
set_option maxHeartbeats 4000000 in
theorem c_M_sheet {u : Mem} {x1 : Int32} {x2 : Int32} {x3 : Int32} {Q : Int32 → Mem → Prop} (h : w_M_sheet x1 x2 x3 u Q) : MM l D ad cI cZ cS rs A0 yX11_sheet cX11_sheet 5 (some .int) 2 [.ref (ad 0), .int x1, .int x2, .int x3] u (jWi Q) := by
  unfold w_M_sheet at h
  refine JMet.of (by decide) (Nat.le_of_ble_eq_true rfl) ?_
  refine J_sub (lv' := [(0, .ref (ad 0)), (1, .int x1), (2, .int x2), (3, .int x3)]) [0, 1, 2, 3] rfl ?_
  show a_M_sheet l D ad cI cZ cS rs A0 (jWi Q) 0 [(0, .ref (ad 0)), (1, .int x1), (2, .int x2), (3, .int x3)] [] u
  refine J_iload_n 1 dX11_sheet_0 rfl rfl ?_
  refine JS_Ri kS_RX11_71 (c_M_isSheet h) rfl rfl (by decide) (Nat.le_of_ble_eq_true rfl) dX11_sheet_1 (fun r1 h => ?_)
  refine J_if_eq (tgt := 25) dX11_sheet_4 rfl (fun c => ?_) (fun c => ?_)
  · have h := h.1 c
    refine J_bipush (v := (-2)) dX11_sheet_25 cb_m2 ?_
    exact J_iret rfl dX11_sheet_27 ⟨_, rfl, h⟩
  · have h := h.2 c
    refine J_iload_n 2 dX11_sheet_7 rfl rfl ?_
    refine J_i2l dX11_sheet_8 ?_
    refine J_lconst (v := 0) dX11_sheet_9 rfl ?_
    refine J_ldc2 (v := 2) dX11_sheet_10 kk_RX11_75 ?_
    refine JS_Ri kS_RX11_61 (c_M_in h) rfl rfl (by decide) (Nat.le_of_ble_eq_true rfl) dX11_sheet_13 (fun r3 h => ?_)
    refine J_if_eq (tgt := 25) dX11_sheet_16 rfl (fun c => ?_) (fun c => ?_)
    · have h := h.1 c
      refine J_bipush (v := (-2)) dX11_sheet_25 cb_m2 ?_
      exact J_iret rfl dX11_sheet_27 ⟨_, rfl, h⟩
    · have h := h.2 c
      refine J_iload_n 3 dX11_sheet_19 rfl rfl ?_
      refine J_bipush (v := 60) dX11_sheet_20 cb_60 ?_
      refine J_icmp_le (tgt := 28) dX11_sheet_22 rfl (fun c => ?_) (fun c => ?_)
      · have h := h.1 c
        refine J_iload_n 3 dX11_sheet_28 rfl rfl ?_
        refine J_if_ge (tgt := 38) dX11_sheet_29 rfl (fun c => ?_) (fun c => ?_)
        · have h := h.1 c
          refine J_aload_n 0 dX11_sheet_38 rfl rfl ?_
          refine gM_0_0 dX11_sheet_39 ?_
          refine J_iload_n 1 dX11_sheet_42 rfl rfl ?_
          refine J_iload_n 2 dX11_sheet_43 rfl rfl ?_
          refine tM_0 h.1 dX11_sheet_44 ?_
          have h := h.2
          refine J_aload_n 0 dX11_sheet_45 rfl rfl ?_
          refine gM_0_1 dX11_sheet_46 ?_
          refine J_iload_n 1 dX11_sheet_49 rfl rfl ?_
          refine J_iload_n 3 dX11_sheet_50 rfl rfl ?_
          refine tM_1 h.1 dX11_sheet_51 ?_
          have h := h.2
          refine J_iconst (v := 0) dX11_sheet_52 ci_0 ?_
          refine J_istore (lv' := [(4, .int 0), (0, .ref (ad 0)), (1, .int x1), (2, .int x2), (3, .int x3)]) dX11_sheet_53 (Nat.le_of_ble_eq_true rfl) rfl ?_
          obtain ⟨n6, h⟩ := h
          refine J_sub (lv' := [(0, .ref (ad 0)), (1, .int x1), (3, .int x3), (4, .int 0)]) [1, 2, 4, 0] rfl (t_M_sheet_l55 ?_ n6 0 (sA (sA u 0 x1.toNatClampNeg x2) 1 x1.toNatClampNeg x3) h)
          · intro u5 h
            refine J_iload_n 0 dX11_sheet_80 rfl rfl ?_
            exact J_iret rfl dX11_sheet_81 ⟨_, rfl, h⟩
        · have h := h.2 c
          refine J_aload_n 0 dX11_sheet_32 rfl rfl ?_
          refine J_iconst (v := 5) dX11_sheet_33 ci_5 ?_
          refine JV_Wi kV_RX11_77 0 rM_0 rfl rfl (c_M_met h) rfl rfl (by decide) (Nat.le_of_ble_eq_true rfl) dX11_sheet_34 (fun r7 u8 h => ?_)
          exact J_iret rfl dX11_sheet_37 ⟨_, rfl, h⟩
      · have h := h.2 c
        refine J_bipush (v := (-2)) dX11_sheet_25 cb_m2 ?_
        exact J_iret rfl dX11_sheet_27 ⟨_, rfl, h⟩
abbrev a_M_lose (l : Launch) (D : va_G) (ad : Nat → Nat) (cI cZ cS : ClassId) (rs : va_W) (A0 : Nat → Prop) := AM l D ad cI cZ cS rs A0 cX11_lose 2 (some .int) RX11 2
set_option maxRecDepth 20000 in
set_option maxHeartbeats 4000000 in
theorem c_M_lose {u : Mem} {x1 : Int32} {Q : Int32 → Mem → Prop} (h : w_M_lose x1 u Q) : MM l D ad cI cZ cS rs A0 yX11_lose cX11_lose 2 (some .int) 2 [.ref (ad 0), .int x1] u (jWi Q) := by
  unfold w_M_lose at h
  refine JMet.of (by decide) (Nat.le_of_ble_eq_true rfl) ?_
  refine J_sub (lv' := [(0, .ref (ad 0)), (1, .int x1)]) [0, 1] rfl ?_
  show a_M_lose l D ad cI cZ cS rs A0 (jWi Q) 0 [(0, .ref (ad 0)), (1, .int x1)] [] u
  refine J_iload_n 1 dX11_lose_0 rfl rfl ?_
  refine JS_Ri kS_RX11_71 (c_M_isSheet h) rfl rfl (by decide) (Nat.le_of_ble_eq_true rfl) dX11_lose_1 (fun r1 h => ?_)
  refine J_if_ne (tgt := 10) dX11_lose_4 rfl (fun c => ?_) (fun c => ?_)
  · have h := h.1 c
    refine J_aload_n 0 dX11_lose_10 rfl rfl ?_
    refine gM_0_0 dX11_lose_11 ?_
    refine J_iload_n 1 dX11_lose_14 rfl rfl ?_
    refine lM_0 (v := (u.2 0 x1.toNatClampNeg)) h.1 rfl dX11_lose_15 ?_
    have h := h.2
    refine J_if_ge (tgt := 25) dX11_lose_16 rfl (fun c => ?_) (fun c => ?_)
    · have h := h.1 c
      refine J_aload_n 0 dX11_lose_25 rfl rfl ?_
      refine gM_0_0 dX11_lose_26 ?_
      refine J_iload_n 1 dX11_lose_29 rfl rfl ?_
      refine J_iconst (v := (-1)) dX11_lose_30 ci_m1 ?_
      refine tM_0 h.1 dX11_lose_31 ?_
      have h := h.2
      refine J_aload_n 0 dX11_lose_32 rfl rfl ?_
      refine gM_0_1 dX11_lose_33 ?_
      refine J_iload_n 1 dX11_lose_36 rfl rfl ?_
      refine lM_1 (v := (u.2 1 x1.toNatClampNeg)) h.1 rfl dX11_lose_37 ?_
      have h := h.2
      exact J_iret rfl dX11_lose_38 ⟨_, rfl, h⟩
    · have h := h.2 c
      refine J_aload_n 0 dX11_lose_19 rfl rfl ?_
      refine J_iconst (v := 1) dX11_lose_20 ci_1 ?_
      refine JV_Wi kV_RX11_77 0 rM_0 rfl rfl (c_M_met h) rfl rfl (by decide) (Nat.le_of_ble_eq_true rfl) dX11_lose_21 (fun r3 u4 h => ?_)
      exact J_iret rfl dX11_lose_24 ⟨_, rfl, h⟩
  · have h := h.2 c
    refine J_bipush (v := (-2)) dX11_lose_7 cb_m2 ?_
    exact J_iret rfl dX11_lose_9 ⟨_, rfl, h⟩
abbrev a_M_lacks (l : Launch) (D : va_G) (ad : Nat → Nat) (cI cZ cS : ClassId) (rs : va_W) (A0 : Nat → Prop) := AM l D ad cI cZ cS rs A0 cX11_lacks 4 (some .int) RX11 1
set_option maxRecDepth 20000 in
set_option maxHeartbeats 4000000 in
theorem c_M_lacks {u : Mem} {x1 : Int32} {x2 : Int32} {x3 : Int32} {Q : Int32 → Mem → Prop} (h : w_M_lacks x1 x2 x3 u Q) : MM l D ad cI cZ cS rs A0 yX11_lacks cX11_lacks 4 (some .int) 1 [.ref (ad 0), .int x1, .int x2, .int x3] u (jWi Q) := by
  unfold w_M_lacks at h
  refine JMet.of (by decide) (Nat.le_of_ble_eq_true rfl) ?_
  refine J_sub (lv' := [(0, .ref (ad 0)), (1, .int x1), (2, .int x2), (3, .int x3)]) [0, 1, 2, 3] rfl ?_
  show a_M_lacks l D ad cI cZ cS rs A0 (jWi Q) 0 [(0, .ref (ad 0)), (1, .int x1), (2, .int x2), (3, .int x3)] [] u
  refine J_aload_n 0 dX11_lacks_0 rfl rfl ?_
  refine gM_0_0 dX11_lacks_1 ?_
  refine J_iload_n 1 dX11_lacks_4 rfl rfl ?_
  refine lM_0 (v := (u.2 0 x1.toNatClampNeg)) h.1 rfl dX11_lacks_5 ?_
  have h := h.2
  refine J_if_ge (tgt := 15) dX11_lacks_6 rfl (fun c => ?_) (fun c => ?_)
  · have h := h.1 c
    refine J_aload_n 0 dX11_lacks_15 rfl rfl ?_
    refine gM_0_0 dX11_lacks_16 ?_
    refine J_iload_n 1 dX11_lacks_19 rfl rfl ?_
    refine lM_0 (v := (u.2 0 x1.toNatClampNeg)) h.1 rfl dX11_lacks_20 ?_
    have h := h.2
    refine J_iload_n 2 dX11_lacks_21 rfl rfl ?_
    refine J_icmp_eq (tgt := 31) dX11_lacks_22 rfl (fun c => ?_) (fun c => ?_)
    · have h := h.1 c
      refine J_iload_n 3 dX11_lacks_31 rfl rfl ?_
      refine J_i2l dX11_lacks_32 ?_
      refine J_lconst (v := 0) dX11_lacks_33 rfl ?_
      refine J_aload_n 0 dX11_lacks_34 rfl rfl ?_
      refine gM_0_1 dX11_lacks_35 ?_
      refine J_iload_n 1 dX11_lacks_38 rfl rfl ?_
      refine lM_1 (v := (u.2 1 x1.toNatClampNeg)) h.1 rfl dX11_lacks_39 ?_
      have h := h.2
      refine J_iconst (v := 1) dX11_lacks_40 ci_1 ?_
      refine J_isub dX11_lacks_41 ?_
      refine J_i2l dX11_lacks_42 ?_
      refine JS_Ri kS_RX11_61 (c_M_in h) rfl rfl (by decide) (Nat.le_of_ble_eq_true rfl) dX11_lacks_43 (fun r1 h => ?_)
      refine J_if_eq (tgt := 53) dX11_lacks_46 rfl (fun c => ?_) (fun c => ?_)
      · have h := h.1 c
        refine J_aload_n 0 dX11_lacks_53 rfl rfl ?_
        refine J_iconst (v := 2) dX11_lacks_54 ci_2 ?_
        refine JV_Wi kV_RX11_77 0 rM_0 rfl rfl (c_M_met h) rfl rfl (by decide) (Nat.le_of_ble_eq_true rfl) dX11_lacks_55 (fun r3 u4 h => ?_)
        exact J_iret rfl dX11_lacks_58 ⟨_, rfl, h⟩
      · have h := h.2 c
        refine J_iconst (v := 0) dX11_lacks_49 ci_0 ?_
        refine J_goto (tgt := 58) dX11_lacks_50 rfl ?_
        exact J_iret rfl dX11_lacks_58 ⟨_, rfl, h⟩
    · have h := h.2 c
      refine J_aload_n 0 dX11_lacks_25 rfl rfl ?_
      refine J_iconst (v := 3) dX11_lacks_26 ci_3 ?_
      refine JV_Wi kV_RX11_77 0 rM_0 rfl rfl (c_M_met h) rfl rfl (by decide) (Nat.le_of_ble_eq_true rfl) dX11_lacks_27 (fun r5 u6 h => ?_)
      exact J_iret rfl dX11_lacks_30 ⟨_, rfl, h⟩
  · have h := h.2 c
    refine J_aload_n 0 dX11_lacks_9 rfl rfl ?_
    refine J_iconst (v := 1) dX11_lacks_10 ci_1 ?_
    refine JV_Wi kV_RX11_77 0 rM_0 rfl rfl (c_M_met h) rfl rfl (by decide) (Nat.le_of_ble_eq_true rfl) dX11_lacks_11 (fun r7 u8 h => ?_)
    exact J_iret rfl dX11_lacks_14 ⟨_, rfl, h⟩
abbrev a_M_cut (l : Launch) (D : va_G) (ad : Nat → Nat) (cI cZ cS : ClassId) (rs : va_W) (A0 : Nat → Prop) := AM l D ad cI cZ cS rs A0 cX11_cut 2 (some .int) RX11 0
set_option maxRecDepth 20000 in
set_option maxHeartbeats 4000000 in
theorem c_M_cut {u : Mem} {x0 : Int32} {x1 : Int32} {Q : Int32 → Prop} (h : w_M_cut x0 x1 Q) : MM l D ad cI cZ cS rs A0 yX11_cut cX11_cut 2 (some .int) 0 [.int x0, .int x1] u (jRi u Q) := by
  unfold w_M_cut at h
  refine JMet.of (by decide) (Nat.le_of_ble_eq_true rfl) ?_
  refine J_sub (lv' := [(0, .int x0), (1, .int x1)]) [0, 1] rfl ?_
  show a_M_cut l D ad cI cZ cS rs A0 (jRi u Q) 0 [(0, .int x0), (1, .int x1)] [] u
  refine J_iload_n 0 dX11_cut_0 rfl rfl ?_
  refine J_if_ne (tgt := 9) dX11_cut_1 rfl (fun c => ?_) (fun c => ?_)
  · have h := h.1 c
    refine J_iload_n 0 dX11_cut_9 rfl rfl ?_
    refine J_iconst (v := 1) dX11_cut_10 ci_1 ?_
    refine J_icmp_ne (tgt := 19) dX11_cut_11 rfl (fun c => ?_) (fun c => ?_)
    · have h := h.1 c
      refine J_iload_n 1 dX11_cut_19 rfl rfl ?_
      exact J_iret rfl dX11_cut_20 ⟨rfl, _, rfl, h⟩
    · have h := h.2 c
      refine J_iload_n 1 dX11_cut_14 rfl rfl ?_
      refine J_i2s dX11_cut_15 ?_
      refine J_goto (tgt := 20) dX11_cut_16 rfl ?_
      exact J_iret rfl dX11_cut_20 ⟨rfl, _, rfl, h⟩
  · have h := h.2 c
    refine J_iload_n 1 dX11_cut_4 rfl rfl ?_
    refine J_i2b dX11_cut_5 ?_
    refine J_goto (tgt := 20) dX11_cut_6 rfl ?_
    exact J_iret rfl dX11_cut_20 ⟨rfl, _, rfl, h⟩
abbrev a_M_put (l : Launch) (D : va_G) (ad : Nat → Nat) (cI cZ cS : ClassId) (rs : va_W) (A0 : Nat → Prop) := AM l D ad cI cZ cS rs A0 cX11_put 6 (some .int) RX11 2
set_option maxRecDepth 20000 in
set_option maxHeartbeats 4000000 in
theorem c_M_put {u : Mem} {x1 : Int32} {x2 : Int32} {x3 : Int32} {x4 : Int32} {Q : Int32 → Mem → Prop} (h : w_M_put x1 x2 x3 x4 u Q) : MM l D ad cI cZ cS rs A0 yX11_put cX11_put 6 (some .int) 2 [.ref (ad 0), .int x1, .int x2, .int x3, .int x4] u (jWi Q) := by
  unfold w_M_put at h
  refine JMet.of (by decide) (Nat.le_of_ble_eq_true rfl) ?_
  refine J_sub (lv' := [(0, .ref (ad 0)), (1, .int x1), (2, .int x2), (3, .int x3), (4, .int x4)]) [0, 1, 2, 3, 4] rfl ?_
  show a_M_put l D ad cI cZ cS rs A0 (jWi Q) 0 [(0, .ref (ad 0)), (1, .int x1), (2, .int x2), (3, .int x3), (4, .int x4)] [] u
  refine J_iload_n 1 dX11_put_0 rfl rfl ?_
  refine JS_Ri kS_RX11_71 (c_M_isSheet h) rfl rfl (by decide) (Nat.le_of_ble_eq_true rfl) dX11_put_1 (fun r1 h => ?_)
  refine J_if_eq (tgt := 19) dX11_put_4 rfl (fun c => ?_) (fun c => ?_)
  · have h := h.1 c
    refine J_bipush (v := (-2)) dX11_put_19 cb_m2 ?_
    exact J_iret rfl dX11_put_21 ⟨_, rfl, h⟩
  · have h := h.2 c
    refine J_iload_n 2 dX11_put_7 rfl rfl ?_
    refine J_i2l dX11_put_8 ?_
    refine J_lconst (v := 0) dX11_put_9 rfl ?_
    refine J_ldc2 (v := 2) dX11_put_10 kk_RX11_75 ?_
    refine JS_Ri kS_RX11_61 (c_M_in h) rfl rfl (by decide) (Nat.le_of_ble_eq_true rfl) dX11_put_13 (fun r3 h => ?_)
    refine J_if_ne (tgt := 22) dX11_put_16 rfl (fun c => ?_) (fun c => ?_)
    · have h := h.1 c
      refine J_aload_n 0 dX11_put_22 rfl rfl ?_
      refine J_iload_n 1 dX11_put_23 rfl rfl ?_
      refine J_iload_n 2 dX11_put_24 rfl rfl ?_
      refine J_iload_n 3 dX11_put_25 rfl rfl ?_
      refine JV_Wi kV_RX11_81 0 rM_0 rfl rfl (c_M_lacks h) rfl rfl (by decide) (Nat.le_of_ble_eq_true rfl) dX11_put_26 (fun r5 u6 h => ?_)
      refine J_istore (lv' := [(5, .int r5), (0, .ref (ad 0)), (1, .int x1), (2, .int x2), (3, .int x3), (4, .int x4)]) dX11_put_29 (Nat.le_of_ble_eq_true rfl) rfl ?_
      refine J_iload 0 dX11_put_31 rfl ?_
      refine J_if_eq (tgt := 39) dX11_put_33 rfl (fun c => ?_) (fun c => ?_)
      · have h := h.1 c
        refine J_aload_n 1 dX11_put_39 rfl rfl ?_
        refine gM_0_2 dX11_put_40 ?_
        refine J_bipush (v := 60) dX11_put_43 cb_60 ?_
        refine J_iload_n 2 dX11_put_45 rfl rfl ?_
        refine J_imul dX11_put_46 ?_
        refine J_iload_n 4 dX11_put_47 rfl rfl ?_
        refine J_iadd dX11_put_48 ?_
        refine J_iload_n 3 dX11_put_49 rfl rfl ?_
        refine J_iload 5 dX11_put_50 rfl ?_
        refine JS_Ri kS_RX11_85 (c_M_cut h) rfl rfl (by decide) (Nat.le_of_ble_eq_true rfl) dX11_put_52 (fun r7 h => ?_)
        refine tM_2 h.1 dX11_put_55 ?_
        have h := h.2
        refine J_iconst (v := 1) dX11_put_56 ci_1 ?_
        exact J_iret rfl dX11_put_57 ⟨_, rfl, h⟩
      · have h := h.2 c
        refine J_iload 0 dX11_put_36 rfl ?_
        exact J_iret rfl dX11_put_38 ⟨_, rfl, h⟩
    · have h := h.2 c
      refine J_bipush (v := (-2)) dX11_put_19 cb_m2 ?_
      exact J_iret rfl dX11_put_21 ⟨_, rfl, h⟩
abbrev a_M_get (l : Launch) (D : va_G) (ad : Nat → Nat) (cI cZ cS : ClassId) (rs : va_W) (A0 : Nat → Prop) := AM l D ad cI cZ cS rs A0 cX11_get 4 (some .int) RX11 2
set_option maxRecDepth 20000 in
set_option maxHeartbeats 4000000 in
theorem c_M_get {u : Mem} {x1 : Int32} {x2 : Int32} {x3 : Int32} {Q : Int32 → Mem → Prop} (h : w_M_get x1 x2 x3 u Q) : MM l D ad cI cZ cS rs A0 yX11_get cX11_get 4 (some .int) 2 [.ref (ad 0), .int x1, .int x2, .int x3] u (jWi Q) := by
  unfold w_M_get at h
  refine JMet.of (by decide) (Nat.le_of_ble_eq_true rfl) ?_
  refine J_sub (lv' := [(0, .ref (ad 0)), (1, .int x1), (2, .int x2), (3, .int x3)]) [0, 1, 2, 3] rfl ?_
  show a_M_get l D ad cI cZ cS rs A0 (jWi Q) 0 [(0, .ref (ad 0)), (1, .int x1), (2, .int x2), (3, .int x3)] [] u
  refine J_iload_n 1 dX11_get_0 rfl rfl ?_
  refine JS_Ri kS_RX11_71 (c_M_isSheet h) rfl rfl (by decide) (Nat.le_of_ble_eq_true rfl) dX11_get_1 (fun r1 h => ?_)
  refine J_if_eq (tgt := 29) dX11_get_4 rfl (fun c => ?_) (fun c => ?_)
  · have h := h.1 c
    refine J_ldc (v := (-2147483648)) dX11_get_29 kk_RX11_89 ?_
    exact J_iret rfl dX11_get_31 ⟨_, rfl, h⟩
  · have h := h.2 c
    refine J_iload_n 2 dX11_get_7 rfl rfl ?_
    refine J_i2l dX11_get_8 ?_
    refine J_lconst (v := 0) dX11_get_9 rfl ?_
    refine J_ldc2 (v := 2) dX11_get_10 kk_RX11_75 ?_
    refine JS_Ri kS_RX11_61 (c_M_in h) rfl rfl (by decide) (Nat.le_of_ble_eq_true rfl) dX11_get_13 (fun r3 h => ?_)
    refine J_if_eq (tgt := 29) dX11_get_16 rfl (fun c => ?_) (fun c => ?_)
    · have h := h.1 c
      refine J_ldc (v := (-2147483648)) dX11_get_29 kk_RX11_89 ?_
      exact J_iret rfl dX11_get_31 ⟨_, rfl, h⟩
    · have h := h.2 c
      refine J_aload_n 0 dX11_get_19 rfl rfl ?_
      refine J_iload_n 1 dX11_get_20 rfl rfl ?_
      refine J_iload_n 2 dX11_get_21 rfl rfl ?_
      refine J_iload_n 3 dX11_get_22 rfl rfl ?_
      refine JV_Wi kV_RX11_81 0 rM_0 rfl rfl (c_M_lacks h) rfl rfl (by decide) (Nat.le_of_ble_eq_true rfl) dX11_get_23 (fun r5 u6 h => ?_)
      refine J_if_eq (tgt := 32) dX11_get_26 rfl (fun c => ?_) (fun c => ?_)
      · have h := h.1 c
        refine J_aload_n 0 dX11_get_32 rfl rfl ?_
        refine gM_0_2 dX11_get_33 ?_
        refine J_bipush (v := 60) dX11_get_36 cb_60 ?_
        refine J_iload_n 1 dX11_get_38 rfl rfl ?_
        refine J_imul dX11_get_39 ?_
        refine J_iload_n 3 dX11_get_40 rfl rfl ?_
        refine J_iadd dX11_get_41 ?_
        refine lM_2 (v := (u6.2 2 ((60 * x1) + x3).toNatClampNeg)) h.1 rfl dX11_get_42 ?_
        have h := h.2
        exact J_iret rfl dX11_get_43 ⟨_, rfl, h⟩
      · have h := h.2 c
        refine J_ldc (v := (-2147483648)) dX11_get_29 kk_RX11_89 ?_
        exact J_iret rfl dX11_get_31 ⟨_, rfl, h⟩
abbrev a_M_copy (l : Launch) (D : va_G) (ad : Nat → Nat) (cI cZ cS : ClassId) (rs : va_W) (A0 : Nat → Prop) := AM l D ad cI cZ cS rs A0 cX11_copy 7 (some .int) RX11 2
set_option maxRecDepth 20000 in
set_option maxHeartbeats 4000000 in
theorem t_M_copy_b35 {u : Mem} {Q : Int32 → Mem → Prop} (h : w_M_copy_b35 u Q) : a_M_copy l D ad cI cZ cS rs A0 (jWi Q) 35 [(0, .ref (ad 0))] [] u := by
  unfold w_M_copy_b35 at h
  refine J_aload_n 0 dX11_copy_35 rfl rfl ?_
  refine J_iconst (v := 1) dX11_copy_36 ci_1 ?_
  refine JV_Wi kV_RX11_77 0 rM_0 rfl rfl (c_M_met h) rfl rfl (by decide) (Nat.le_of_ble_eq_true rfl) dX11_copy_37 (fun r5 u6 h => ?_)
  exact J_iret rfl dX11_copy_40 ⟨_, rfl, h⟩
set_option maxRecDepth 20000 in
set_option maxHeartbeats 4000000 in
theorem t_M_copy_b111 {u : Mem} {Q : Int32 → Mem → Prop} (h : w_M_copy_b111 u Q) : a_M_copy l D ad cI cZ cS rs A0 (jWi Q) 111 [(0, .ref (ad 0))] [] u := by
  unfold w_M_copy_b111 at h
  refine J_aload_n 0 dX11_copy_111 rfl rfl ?_
  refine J_iconst (v := 2) dX11_copy_112 ci_2 ?_
  refine JV_Wi kV_RX11_77 0 rM_0 rfl rfl (c_M_met h) rfl rfl (by decide) (Nat.le_of_ble_eq_true rfl) dX11_copy_113 (fun r7 u8 h => ?_)
  exact J_iret rfl dX11_copy_116 ⟨_, rfl, h⟩
set_option maxRecDepth 20000 in
set_option maxHeartbeats 4000000 in
theorem t_M_copy_l120  {X : Mem → Prop} {x1 : Int32} {x2 : Int32} {x3 : Int32} {x4 : Int32} {x5 : Int32} {Q : Int32 → Mem → Prop} (hX : ∀ (u : Mem), X u → a_M_copy l D ad cI cZ cS rs A0 (jWi Q) 154 [(0, .ref (ad 0)), (3, .int x3), (4, .int x4), (5, .int x5)] [] u) : ∀ (n : Nat) (x6 : Int32) (u : Mem), w_M_copy_l120 X x1 x2 x3 x4 x5 Q n x6 u → a_M_copy l D ad cI cZ cS rs A0 (jWi Q) 120 [(0, .ref (ad 0)), (1, .int x1), (2, .int x2), (3, .int x3), (4, .int x4), (5, .int x5), (6, .int x6)] [] u := by
  intro n
  induction n with
  | zero =>
    intro x6 u h
    exact (by simp only [w_M_copy_l120] at h : False).elim
  | succ n ih =>
    intro x6 u h
    rw [w_M_copy_l120] at h
    refine J_iload 6 dX11_copy_120 rfl ?_
    refine J_iload 5 dX11_copy_122 rfl ?_
    refine J_icmp_ge (tgt := 154) dX11_copy_124 rfl (fun c => ?_) (fun c => ?_)
    · have h := h.1 c
      exact J_sub (lv' := [(0, .ref (ad 0)), (3, .int x3), (4, .int x4), (5, .int x5)]) [0, 3, 4, 5] rfl (hX u h)
    · have h := h.2 c
      refine J_aload_n 0 dX11_copy_127 rfl rfl ?_
      refine gM_0_3 dX11_copy_128 ?_
      refine J_iload 6 dX11_copy_131 rfl ?_
      refine J_aload_n 0 dX11_copy_133 rfl rfl ?_
      refine gM_0_2 dX11_copy_134 ?_
      refine J_bipush (v := 60) dX11_copy_137 cb_60 ?_
      refine J_iload_n 1 dX11_copy_139 rfl rfl ?_
      refine J_imul dX11_copy_140 ?_
      refine J_iload_n 2 dX11_copy_141 rfl rfl ?_
      refine J_iadd dX11_copy_142 ?_
      refine J_iload 6 dX11_copy_143 rfl ?_
      refine J_iadd dX11_copy_145 ?_
      refine lM_2 (v := (u.2 2 (((60 * x1) + x2) + x6).toNatClampNeg)) h.1 rfl dX11_copy_146 ?_
      have h := h.2
      refine tM_3 h.1 dX11_copy_147 ?_
      have h := h.2
      refine J_iinc (v := (x6 + 1)) (lv' := [(6, .int (x6 + 1)), (0, .ref (ad 0)), (1, .int x1), (2, .int x2), (3, .int x3), (4, .int x4), (5, .int x5)]) 6 dX11_copy_148 rfl rfl (Nat.le_of_ble_eq_true rfl) rfl ?_
      refine J_goto (tgt := 120) dX11_copy_151 rfl ?_
      exact J_sub (lv' := [(0, .ref (ad 0)), (1, .int x1), (2, .int x2), (3, .int x3), (4, .int x4), (5, .int x5), (6, .int (x6 + 1))]) [1, 2, 3, 4, 5, 6, 0] rfl (ih (x6 + 1) (sA u 3 x6.toNatClampNeg (u.2 2 (((60 * x1) + x2) + x6).toNatClampNeg)) h)
set_option maxRecDepth 20000 in
set_option maxHeartbeats 4000000 in
theorem t_M_copy_l157  {X : Mem → Prop} {x3 : Int32} {x4 : Int32} {x5 : Int32} {Q : Int32 → Mem → Prop} (hX : ∀ (u : Mem), X u → a_M_copy l D ad cI cZ cS rs A0 (jWi Q) 192 [] [] u) : ∀ (n : Nat) (x6 : Int32) (u : Mem), w_M_copy_l157 X x3 x4 x5 Q n x6 u → a_M_copy l D ad cI cZ cS rs A0 (jWi Q) 157 [(0, .ref (ad 0)), (3, .int x3), (4, .int x4), (5, .int x5), (6, .int x6)] [] u := by
  intro n
  induction n with
  | zero =>
    intro x6 u h
    exact (by simp only [w_M_copy_l157] at h : False).elim
  | succ n ih =>
    intro x6 u h
    rw [w_M_copy_l157] at h
    refine J_iload 4 dX11_copy_157 rfl ?_
    refine J_iload 3 dX11_copy_159 rfl ?_
    refine J_icmp_ge (tgt := 192) dX11_copy_161 rfl (fun c => ?_) (fun c => ?_)
    · have h := h.1 c
      exact J_sub (lv' := []) [] rfl (hX u h)
    · have h := h.2 c
      refine J_aload_n 0 dX11_copy_164 rfl rfl ?_
      refine gM_0_2 dX11_copy_165 ?_
      refine J_bipush (v := 60) dX11_copy_168 cb_60 ?_
      refine J_iload_n 1 dX11_copy_170 rfl rfl ?_
      refine J_imul dX11_copy_171 ?_
      refine J_iload 2 dX11_copy_172 rfl ?_
      refine J_iadd dX11_copy_174 ?_
      refine J_iload 4 dX11_copy_175 rfl ?_
      refine J_iadd dX11_copy_177 ?_
      refine J_aload_n 0 dX11_copy_178 rfl rfl ?_
      refine gM_0_3 dX11_copy_179 ?_
      refine J_iload 4 dX11_copy_182 rfl ?_
      refine lM_3 (v := (u.2 3 x6.toNatClampNeg)) h.1 rfl dX11_copy_184 ?_
      have h := h.2
      refine tM_2 h.1 dX11_copy_185 ?_
      have h := h.2
      refine J_iinc (v := (x6 + 1)) (lv' := [(6, .int (x6 + 1)), (0, .ref (ad 0)), (3, .int x3), (4, .int x4), (5, .int x5)]) 4 dX11_copy_186 rfl rfl (Nat.le_of_ble_eq_true rfl) rfl ?_
      refine J_goto (tgt := 157) dX11_copy_189 rfl ?_
      exact J_sub (lv' := [(0, .ref (ad 0)), (3, .int x3), (4, .int x4), (5, .int x5), (6, .int (x6 + 1))]) [1, 2, 3, 4, 0] rfl (ih (x6 + 1) (sA u 2 (((60 * x3) + x4) + x6).toNatClampNeg (u.2 3 x6.toNatClampNeg)) h)
set_option maxRecDepth 20000 in
set_option maxHeartbeats 4000000 in
theorem c_M_copy {u : Mem} {x1 : Int32} {x2 : Int32} {x3 : Int32} {x4 : Int32} {x5 : Int32} {Q : Int32 → Mem → Prop} (h : w_M_copy x1 x2 x3 x4 x5 u Q) : MM l D ad cI cZ cS rs A0 yX11_copy cX11_copy 7 (some .int) 2 [.ref (ad 0), .int x1, .int x2, .int x3, .int x4, .int x5] u (jWi Q) := by
  unfold w_M_copy at h
  refine JMet.of (by decide) (Nat.le_of_ble_eq_true rfl) ?_
  refine J_sub (lv' := [(0, .ref (ad 0)), (1, .int x1), (2, .int x2), (3, .int x3), (4, .int x4), (5, .int x5)]) [0, 1, 2, 3, 4, 5] rfl ?_
  show a_M_copy l D ad cI cZ cS rs A0 (jWi Q) 0 [(0, .ref (ad 0)), (1, .int x1), (2, .int x2), (3, .int x3), (4, .int x4), (5, .int x5)] [] u
  refine J_iload_n 1 dX11_copy_0 rfl rfl ?_
  refine JS_Ri kS_RX11_71 (c_M_isSheet h) rfl rfl (by decide) (Nat.le_of_ble_eq_true rfl) dX11_copy_1 (fun r1 h => ?_)
  refine J_if_eq (tgt := 14) dX11_copy_4 rfl (fun c => ?_) (fun c => ?_)
  · have h := h.1 c
    refine J_bipush (v := (-2)) dX11_copy_14 cb_m2 ?_
    exact J_iret rfl dX11_copy_16 ⟨_, rfl, h⟩
  · have h := h.2 c
    refine J_iload_n 3 dX11_copy_7 rfl rfl ?_
    refine JS_Ri kS_RX11_71 (c_M_isSheet h) rfl rfl (by decide) (Nat.le_of_ble_eq_true rfl) dX11_copy_8 (fun r3 h => ?_)
    refine J_if_ne (tgt := 17) dX11_copy_11 rfl (fun c => ?_) (fun c => ?_)
    · have h := h.1 c
      refine J_aload_n 0 dX11_copy_17 rfl rfl ?_
      refine gM_0_0 dX11_copy_18 ?_
      refine J_iload_n 1 dX11_copy_21 rfl rfl ?_
      refine lM_0 (v := (u.2 0 x1.toNatClampNeg)) h.1 rfl dX11_copy_22 ?_
      have h := h.2
      refine J_if_lt (tgt := 35) dX11_copy_23 rfl (fun c => ?_) (fun c => ?_)
      · have h := h.1 c
        exact J_sub (lv' := [(0, .ref (ad 0))]) [0] rfl (t_M_copy_b35 h)
      · have h := h.2 c
        refine J_aload_n 0 dX11_copy_26 rfl rfl ?_
        refine gM_0_0 dX11_copy_27 ?_
        refine J_iload_n 3 dX11_copy_30 rfl rfl ?_
        refine lM_0 (v := (u.2 0 x3.toNatClampNeg)) h.1 rfl dX11_copy_31 ?_
        have h := h.2
        refine J_if_ge (tgt := 41) dX11_copy_32 rfl (fun c => ?_) (fun c => ?_)
        · have h := h.1 c
          refine J_aload_n 0 dX11_copy_41 rfl rfl ?_
          refine gM_0_0 dX11_copy_42 ?_
          refine J_iload_n 1 dX11_copy_45 rfl rfl ?_
          refine lM_0 (v := (u.2 0 x1.toNatClampNeg)) h.1 rfl dX11_copy_46 ?_
          have h := h.2
          refine J_aload_n 0 dX11_copy_47 rfl rfl ?_
          refine gM_0_0 dX11_copy_48 ?_
          refine J_iload_n 3 dX11_copy_51 rfl rfl ?_
          refine lM_0 (v := (u.2 0 x3.toNatClampNeg)) h.1 rfl dX11_copy_52 ?_
          have h := h.2
          refine J_icmp_eq (tgt := 62) dX11_copy_53 rfl (fun c => ?_) (fun c => ?_)
          · have h := h.1 c
            refine J_iload_n 2 dX11_copy_62 rfl rfl ?_
            refine J_if_lt (tgt := 111) dX11_copy_63 rfl (fun c => ?_) (fun c => ?_)
            · have h := h.1 c
              exact J_sub (lv' := [(0, .ref (ad 0))]) [0] rfl (t_M_copy_b111 h)
            · have h := h.2 c
              refine J_iload 4 dX11_copy_66 rfl ?_
              refine J_if_lt (tgt := 111) dX11_copy_68 rfl (fun c => ?_) (fun c => ?_)
              · have h := h.1 c
                exact J_sub (lv' := [(0, .ref (ad 0))]) [0] rfl (t_M_copy_b111 h)
              · have h := h.2 c
                refine J_iload 5 dX11_copy_71 rfl ?_
                refine J_if_lt (tgt := 111) dX11_copy_73 rfl (fun c => ?_) (fun c => ?_)
                · have h := h.1 c
                  exact J_sub (lv' := [(0, .ref (ad 0))]) [0] rfl (t_M_copy_b111 h)
                · have h := h.2 c
                  refine J_iload_n 2 dX11_copy_76 rfl rfl ?_
                  refine J_i2l dX11_copy_77 ?_
                  refine J_iload 5 dX11_copy_78 rfl ?_
                  refine J_i2l dX11_copy_80 ?_
                  refine J_ladd dX11_copy_81 ?_
                  refine J_aload_n 0 dX11_copy_82 rfl rfl ?_
                  refine gM_0_1 dX11_copy_83 ?_
                  refine J_iload_n 1 dX11_copy_86 rfl rfl ?_
                  refine lM_1 (v := (u.2 1 x1.toNatClampNeg)) h.1 rfl dX11_copy_87 ?_
                  have h := h.2
                  refine J_i2l dX11_copy_88 ?_
                  refine J_lcmp dX11_copy_89 ?_
                  refine J_if_gt (tgt := 111) dX11_copy_90 rfl (fun c => ?_) (fun c => ?_)
                  · have h := h.1 c
                    exact J_sub (lv' := [(0, .ref (ad 0))]) [0] rfl (t_M_copy_b111 h)
                  · have h := h.2 c
                    refine J_iload 4 dX11_copy_93 rfl ?_
                    refine J_i2l dX11_copy_95 ?_
                    refine J_iload 5 dX11_copy_96 rfl ?_
                    refine J_i2l dX11_copy_98 ?_
                    refine J_ladd dX11_copy_99 ?_
                    refine J_aload_n 0 dX11_copy_100 rfl rfl ?_
                    refine gM_0_1 dX11_copy_101 ?_
                    refine J_iload_n 3 dX11_copy_104 rfl rfl ?_
                    refine lM_1 (v := (u.2 1 x3.toNatClampNeg)) h.1 rfl dX11_copy_105 ?_
                    have h := h.2
                    refine J_i2l dX11_copy_106 ?_
                    refine J_lcmp dX11_copy_107 ?_
                    refine J_if_le (tgt := 117) dX11_copy_108 rfl (fun c => ?_) (fun c => ?_)
                    · have h := h.1 c
                      refine J_iconst (v := 0) dX11_copy_117 ci_0 ?_
                      refine J_istore (lv' := [(6, .int 0), (0, .ref (ad 0)), (1, .int x1), (2, .int x2), (3, .int x3), (4, .int x4), (5, .int x5)]) dX11_copy_118 (Nat.le_of_ble_eq_true rfl) rfl ?_
                      obtain ⟨n12, h⟩ := h
                      refine J_sub (lv' := [(0, .ref (ad 0)), (1, .int x1), (2, .int x2), (3, .int x3), (4, .int x4), (5, .int x5), (6, .int 0)]) [1, 2, 3, 4, 5, 6, 0] rfl (t_M_copy_l120 ?_ n12 0 u h)
                      · intro u9 h
                        refine J_iconst (v := 0) dX11_copy_154 ci_0 ?_
                        refine J_istore (lv' := [(6, .int 0), (0, .ref (ad 0)), (3, .int x3), (4, .int x4), (5, .int x5)]) dX11_copy_155 (Nat.le_of_ble_eq_true rfl) rfl ?_
                        obtain ⟨n11, h⟩ := h
                        refine J_sub (lv' := [(0, .ref (ad 0)), (3, .int x3), (4, .int x4), (5, .int x5), (6, .int 0)]) [1, 2, 3, 4, 0] rfl (t_M_copy_l157 ?_ n11 0 u9 h)
                        · intro u10 h
                          refine J_iconst (v := 1) dX11_copy_192 ci_1 ?_
                          exact J_iret rfl dX11_copy_193 ⟨_, rfl, h⟩
                    · have h := h.2 c
                      exact J_sub (lv' := [(0, .ref (ad 0))]) [0] rfl (t_M_copy_b111 h)
          · have h := h.2 c
            refine J_aload_n 0 dX11_copy_56 rfl rfl ?_
            refine J_iconst (v := 4) dX11_copy_57 ci_4 ?_
            refine JV_Wi kV_RX11_77 0 rM_0 rfl rfl (c_M_met h) rfl rfl (by decide) (Nat.le_of_ble_eq_true rfl) dX11_copy_58 (fun r13 u14 h => ?_)
            exact J_iret rfl dX11_copy_61 ⟨_, rfl, h⟩
        · have h := h.2 c
          exact J_sub (lv' := [(0, .ref (ad 0))]) [0] rfl (t_M_copy_b35 h)
    · have h := h.2 c
      refine J_bipush (v := (-2)) dX11_copy_14 cb_m2 ?_
      exact J_iret rfl dX11_copy_16 ⟨_, rfl, h⟩
abbrev a_M_type (l : Launch) (D : va_G) (ad : Nat → Nat) (cI cZ cS : ClassId) (rs : va_W) (A0 : Nat → Prop) := AM l D ad cI cZ cS rs A0 cX11_type 3 (some .int) RX11 2
set_option maxRecDepth 20000 in
set_option maxHeartbeats 4000000 in
theorem t_M_type_b39 {u : Mem} {x1 : Int32} {x2 : Int32} {s0 : Int32} {s1 : Int32} {Q : Int32 → Mem → Prop} (h : w_M_type_b39 x1 x2 s0 s1 u Q) : a_M_type l D ad cI cZ cS rs A0 (jWi Q) 39 [(0, .ref (ad 0)), (1, .int x1), (2, .int x2)] [.int s0, .int s1] u := by
  unfold w_M_type_b39 at h
  refine J_icmp_ne (tgt := 45) dX11_type_39 rfl (fun c => ?_) (fun c => ?_)
  · have h := h.1 c
    refine J_aload_n 0 dX11_type_45 rfl rfl ?_
    refine gM_0_5 dX11_type_46 ?_
    refine J_bipush (v := 80) dX11_type_49 cb_80 ?_
    refine J_iload_n 1 dX11_type_51 rfl rfl ?_
    refine J_imul dX11_type_52 ?_
    refine J_aload_n 0 dX11_type_53 rfl rfl ?_
    refine gM_0_6 dX11_type_54 ?_
    refine J_iload_n 1 dX11_type_57 rfl rfl ?_
    refine lM_5 (v := (u.2 5 x1.toNatClampNeg)) h.1 rfl dX11_type_58 ?_
    have h := h.2
    refine J_iadd dX11_type_59 ?_
    refine J_iload_n 2 dX11_type_60 rfl rfl ?_
    refine tM_4 h.1 dX11_type_61 ?_
    have h := h.2
    refine J_aload_n 0 dX11_type_62 rfl rfl ?_
    refine gM_0_6 dX11_type_63 ?_
    refine J_iload_n 1 dX11_type_66 rfl rfl ?_
    refine J_dup2 dX11_type_67 rfl rfl ?_
    refine lM_5 (v := (u.2 5 x1.toNatClampNeg)) h.1 rfl dX11_type_68 ?_
    have h := h.2
    refine J_iconst (v := 1) dX11_type_69 ci_1 ?_
    refine J_iadd dX11_type_70 ?_
    refine tM_5 h.1 dX11_type_71 ?_
    have h := h.2
    refine J_aload_n 0 dX11_type_72 rfl rfl ?_
    refine gM_0_6 dX11_type_73 ?_
    refine J_iload_n 1 dX11_type_76 rfl rfl ?_
    refine lM_5 (v := ((sA (sA u 4 ((80 * x1) + (u.2 5 x1.toNatClampNeg)).toNatClampNeg x2) 5 x1.toNatClampNeg ((u.2 5 x1.toNatClampNeg) + 1)).2 5 x1.toNatClampNeg)) h.1 rfl dX11_type_77 ?_
    have h := h.2
    refine J_topi (fun y5 ey5 => ?_)
    have h := h y5 ey5
    exact J_iret rfl dX11_type_78 ⟨_, rfl, h⟩
  · have h := h.2 c
    refine J_bipush (v := (-4)) dX11_type_42 cb_m4 ?_
    exact J_iret rfl dX11_type_44 ⟨_, rfl, h⟩
set_option maxRecDepth 20000 in
set_option maxHeartbeats 4000000 in
theorem c_M_type {u : Mem} {x1 : Int32} {x2 : Int32} {Q : Int32 → Mem → Prop} (h : w_M_type x1 x2 u Q) : MM l D ad cI cZ cS rs A0 yX11_type cX11_type 3 (some .int) 2 [.ref (ad 0), .int x1, .int x2] u (jWi Q) := by
  unfold w_M_type at h
  refine JMet.of (by decide) (Nat.le_of_ble_eq_true rfl) ?_
  refine J_sub (lv' := [(0, .ref (ad 0)), (1, .int x1), (2, .int x2)]) [0, 1, 2] rfl ?_
  show a_M_type l D ad cI cZ cS rs A0 (jWi Q) 0 [(0, .ref (ad 0)), (1, .int x1), (2, .int x2)] [] u
  refine J_iload_n 1 dX11_type_0 rfl rfl ?_
  refine JS_Ri kS_RX11_90 (c_M_isTwo h) rfl rfl (by decide) (Nat.le_of_ble_eq_true rfl) dX11_type_1 (fun r1 h => ?_)
  refine J_if_eq (tgt := 19) dX11_type_4 rfl (fun c => ?_) (fun c => ?_)
  · have h := h.1 c
    refine J_bipush (v := (-2)) dX11_type_19 cb_m2 ?_
    exact J_iret rfl dX11_type_21 ⟨_, rfl, h⟩
  · have h := h.2 c
    refine J_iload_n 2 dX11_type_7 rfl rfl ?_
    refine J_i2l dX11_type_8 ?_
    refine J_lconst (v := 0) dX11_type_9 rfl ?_
    refine J_ldc2 (v := 255) dX11_type_10 kk_RX11_93 ?_
    refine JS_Ri kS_RX11_61 (c_M_in h) rfl rfl (by decide) (Nat.le_of_ble_eq_true rfl) dX11_type_13 (fun r3 h => ?_)
    refine J_if_ne (tgt := 22) dX11_type_16 rfl (fun c => ?_) (fun c => ?_)
    · have h := h.1 c
      refine J_aload_n 0 dX11_type_22 rfl rfl ?_
      refine gM_0_6 dX11_type_23 ?_
      refine J_iload_n 1 dX11_type_26 rfl rfl ?_
      refine lM_5 (v := (u.2 5 x1.toNatClampNeg)) h.1 rfl dX11_type_27 ?_
      have h := h.2
      refine J_iload_n 1 dX11_type_28 rfl rfl ?_
      refine J_if_ne (tgt := 37) dX11_type_29 rfl (fun c => ?_) (fun c => ?_)
      · have h := h.1 c
        refine J_bipush (v := 35) dX11_type_37 cb_35 ?_
        exact (t_M_type_b39 h)
      · have h := h.2 c
        refine J_bipush (v := 79) dX11_type_32 cb_79 ?_
        refine J_goto (tgt := 39) dX11_type_34 rfl ?_
        exact (t_M_type_b39 h)
    · have h := h.2 c
      refine J_bipush (v := (-2)) dX11_type_19 cb_m2 ?_
      exact J_iret rfl dX11_type_21 ⟨_, rfl, h⟩
abbrev a_M_wipe (l : Launch) (D : va_G) (ad : Nat → Nat) (cI cZ cS : ClassId) (rs : va_W) (A0 : Nat → Prop) := AM l D ad cI cZ cS rs A0 cX11_wipe 3 (some .int) RX11 2
set_option maxRecDepth 20000 in
set_option maxHeartbeats 4000000 in
theorem c_M_wipe {u : Mem} {x1 : Int32} {Q : Int32 → Mem → Prop} (h : w_M_wipe x1 u Q) : MM l D ad cI cZ cS rs A0 yX11_wipe cX11_wipe 3 (some .int) 2 [.ref (ad 0), .int x1] u (jWi Q) := by
  unfold w_M_wipe at h
  refine JMet.of (by decide) (Nat.le_of_ble_eq_true rfl) ?_
  refine J_sub (lv' := [(0, .ref (ad 0)), (1, .int x1)]) [0, 1] rfl ?_
  show a_M_wipe l D ad cI cZ cS rs A0 (jWi Q) 0 [(0, .ref (ad 0)), (1, .int x1)] [] u
  refine J_iload_n 1 dX11_wipe_0 rfl rfl ?_
  refine JS_Ri kS_RX11_90 (c_M_isTwo h) rfl rfl (by decide) (Nat.le_of_ble_eq_true rfl) dX11_wipe_1 (fun r1 h => ?_)
  refine J_if_ne (tgt := 10) dX11_wipe_4 rfl (fun c => ?_) (fun c => ?_)
  · have h := h.1 c
    refine J_aload_n 0 dX11_wipe_10 rfl rfl ?_
    refine gM_0_6 dX11_wipe_11 ?_
    refine J_iload_n 1 dX11_wipe_14 rfl rfl ?_
    refine lM_5 (v := (u.2 5 x1.toNatClampNeg)) h.1 rfl dX11_wipe_15 ?_
    have h := h.2
    refine J_istore_n (lv' := [(2, .int (u.2 5 x1.toNatClampNeg)), (0, .ref (ad 0)), (1, .int x1)]) dX11_wipe_16 rfl (Nat.le_of_ble_eq_true rfl) rfl ?_
    refine J_aload_n 1 dX11_wipe_17 rfl rfl ?_
    refine gM_0_6 dX11_wipe_18 ?_
    refine J_iload_n 2 dX11_wipe_21 rfl rfl ?_
    refine J_iconst (v := 0) dX11_wipe_22 ci_0 ?_
    refine tM_5 h.1 dX11_wipe_23 ?_
    have h := h.2
    refine J_iload_n 0 dX11_wipe_24 rfl rfl ?_
    exact J_iret rfl dX11_wipe_25 ⟨_, rfl, h⟩
  · have h := h.2 c
    refine J_bipush (v := (-2)) dX11_wipe_7 cb_m2 ?_
    exact J_iret rfl dX11_wipe_9 ⟨_, rfl, h⟩
abbrev a_M_undo (l : Launch) (D : va_G) (ad : Nat → Nat) (cI cZ cS : ClassId) (rs : va_W) (A0 : Nat → Prop) := AM l D ad cI cZ cS rs A0 cX11_undo 2 (some .int) RX11 2
set_option maxRecDepth 20000 in
set_option maxHeartbeats 4000000 in
theorem c_M_undo {u : Mem} {x1 : Int32} {Q : Int32 → Mem → Prop} (h : w_M_undo x1 u Q) : MM l D ad cI cZ cS rs A0 yX11_undo cX11_undo 2 (some .int) 2 [.ref (ad 0), .int x1] u (jWi Q) := by
  unfold w_M_undo at h
  refine JMet.of (by decide) (Nat.le_of_ble_eq_true rfl) ?_
  refine J_sub (lv' := [(0, .ref (ad 0)), (1, .int x1)]) [0, 1] rfl ?_
  show a_M_undo l D ad cI cZ cS rs A0 (jWi Q) 0 [(0, .ref (ad 0)), (1, .int x1)] [] u
  refine J_iload_n 1 dX11_undo_0 rfl rfl ?_
  refine JS_Ri kS_RX11_90 (c_M_isTwo h) rfl rfl (by decide) (Nat.le_of_ble_eq_true rfl) dX11_undo_1 (fun r1 h => ?_)
  refine J_if_ne (tgt := 10) dX11_undo_4 rfl (fun c => ?_) (fun c => ?_)
  · have h := h.1 c
    refine J_aload_n 0 dX11_undo_10 rfl rfl ?_
    refine gM_0_6 dX11_undo_11 ?_
    refine J_iload_n 1 dX11_undo_14 rfl rfl ?_
    refine lM_5 (v := (u.2 5 x1.toNatClampNeg)) h.1 rfl dX11_undo_15 ?_
    have h := h.2
    refine J_if_ne (tgt := 22) dX11_undo_16 rfl (fun c => ?_) (fun c => ?_)
    · have h := h.1 c
      refine J_aload_n 0 dX11_undo_22 rfl rfl ?_
      refine gM_0_6 dX11_undo_23 ?_
      refine J_iload_n 1 dX11_undo_26 rfl rfl ?_
      refine J_dup2 dX11_undo_27 rfl rfl ?_
      refine lM_5 (v := (u.2 5 x1.toNatClampNeg)) h.1 rfl dX11_undo_28 ?_
      have h := h.2
      refine J_iconst (v := 1) dX11_undo_29 ci_1 ?_
      refine J_isub dX11_undo_30 ?_
      refine tM_5 h.1 dX11_undo_31 ?_
      have h := h.2
      refine J_aload_n 0 dX11_undo_32 rfl rfl ?_
      refine gM_0_6 dX11_undo_33 ?_
      refine J_iload_n 1 dX11_undo_36 rfl rfl ?_
      refine lM_5 (v := ((sA u 5 x1.toNatClampNeg ((u.2 5 x1.toNatClampNeg) - 1)).2 5 x1.toNatClampNeg)) h.1 rfl dX11_undo_37 ?_
      have h := h.2
      refine J_topi (fun y3 ey3 => ?_)
      have h := h y3 ey3
      exact J_iret rfl dX11_undo_38 ⟨_, rfl, h⟩
    · have h := h.2 c
      refine J_bipush (v := (-3)) dX11_undo_19 cb_m3 ?_
      exact J_iret rfl dX11_undo_21 ⟨_, rfl, h⟩
  · have h := h.2 c
    refine J_bipush (v := (-2)) dX11_undo_7 cb_m2 ?_
    exact J_iret rfl dX11_undo_9 ⟨_, rfl, h⟩
abbrev a_M_here (l : Launch) (D : va_G) (ad : Nat → Nat) (cI cZ cS : ClassId) (rs : va_W) (A0 : Nat → Prop) := AM l D ad cI cZ cS rs A0 cX11_here 2 (some .int) RX11 0
set_option maxRecDepth 20000 in
set_option maxHeartbeats 4000000 in
theorem c_M_here {u : Mem} {x1 : Int32} {Q : Int32 → Prop} (h : w_M_here x1 u Q) : MM l D ad cI cZ cS rs A0 yX11_here cX11_here 2 (some .int) 0 [.ref (ad 0), .int x1] u (jRi u Q) := by
  unfold w_M_here at h
  refine JMet.of (by decide) (Nat.le_of_ble_eq_true rfl) ?_
  refine J_sub (lv' := [(0, .ref (ad 0)), (1, .int x1)]) [0, 1] rfl ?_
  show a_M_here l D ad cI cZ cS rs A0 (jRi u Q) 0 [(0, .ref (ad 0)), (1, .int x1)] [] u
  refine J_aload_n 0 dX11_here_0 rfl rfl ?_
  refine gM_0_7 (v := (u.1 1)) rfl dX11_here_1 ?_
  refine J_aload_n 0 dX11_here_4 rfl rfl ?_
  refine gM_0_6 dX11_here_5 ?_
  refine J_iload_n 1 dX11_here_8 rfl rfl ?_
  refine lM_5 (v := (u.2 5 x1.toNatClampNeg)) h.1 rfl dX11_here_9 ?_
  have h := h.2
  refine J_icmp_ge (tgt := 30) dX11_here_10 rfl (fun c => ?_) (fun c => ?_)
  · have h := h.1 c
    refine J_iconst (v := (-1)) dX11_here_30 ci_m1 ?_
    exact J_iret rfl dX11_here_31 ⟨rfl, _, rfl, h⟩
  · have h := h.2 c
    refine J_aload_n 0 dX11_here_13 rfl rfl ?_
    refine gM_0_5 dX11_here_14 ?_
    refine J_bipush (v := 80) dX11_here_17 cb_80 ?_
    refine J_iload_n 1 dX11_here_19 rfl rfl ?_
    refine J_imul dX11_here_20 ?_
    refine J_aload_n 0 dX11_here_21 rfl rfl ?_
    refine gM_0_7 (v := (u.1 1)) rfl dX11_here_22 ?_
    refine J_iadd dX11_here_25 ?_
    refine lM_4 (v := (u.2 4 ((80 * x1) + (u.1 1)).toNatClampNeg)) h.1 rfl dX11_here_26 ?_
    have h := h.2
    refine J_goto (tgt := 31) dX11_here_27 rfl ?_
    exact J_iret rfl dX11_here_31 ⟨rfl, _, rfl, h⟩
abbrev a_M_small (l : Launch) (D : va_G) (ad : Nat → Nat) (cI cZ cS : ClassId) (rs : va_W) (A0 : Nat → Prop) := AM l D ad cI cZ cS rs A0 cX11_small 2 (some .int) RX11 1
set_option maxRecDepth 20000 in
set_option maxHeartbeats 4000000 in
theorem c_M_small {u : Mem} {x1 : Int32} {Q : Int32 → Prop} (h : w_M_small x1 u Q) : MM l D ad cI cZ cS rs A0 yX11_small cX11_small 2 (some .int) 1 [.ref (ad 0), .int x1] u (jRi u Q) := by
  unfold w_M_small at h
  refine JMet.of (by decide) (Nat.le_of_ble_eq_true rfl) ?_
  refine J_sub (lv' := [(0, .ref (ad 0)), (1, .int x1)]) [0, 1] rfl ?_
  show a_M_small l D ad cI cZ cS rs A0 (jRi u Q) 0 [(0, .ref (ad 0)), (1, .int x1)] [] u
  refine J_aload_n 0 dX11_small_0 rfl rfl ?_
  refine J_iload_n 1 dX11_small_1 rfl rfl ?_
  refine JV_Ri kV_RX11_98 0 rM_0 rfl rfl (c_M_here h) rfl rfl (by decide) (Nat.le_of_ble_eq_true rfl) dX11_small_2 (fun r1 h => ?_)
  refine J_i2l dX11_small_5 ?_
  refine J_ldc2 (v := 97) dX11_small_6 kk_RX11_101 ?_
  refine J_ldc2 (v := 104) dX11_small_9 kk_RX11_103 ?_
  refine JS_Ri kS_RX11_61 (c_M_in h) rfl rfl (by decide) (Nat.le_of_ble_eq_true rfl) dX11_small_12 (fun r3 h => ?_)
  refine J_if_eq (tgt := 29) dX11_small_15 rfl (fun c => ?_) (fun c => ?_)
  · have h := h.1 c
    refine J_iconst (v := (-1)) dX11_small_29 ci_m1 ?_
    exact J_iret rfl dX11_small_30 ⟨rfl, _, rfl, h⟩
  · have h := h.2 c
    refine J_aload_n 0 dX11_small_18 rfl rfl ?_
    refine J_iload_n 1 dX11_small_19 rfl rfl ?_
    refine JV_Ri kV_RX11_98 0 rM_0 rfl rfl (c_M_here h) rfl rfl (by decide) (Nat.le_of_ble_eq_true rfl) dX11_small_20 (fun r5 h => ?_)
    refine J_bipush (v := 97) dX11_small_23 cb_97 ?_
    refine J_isub dX11_small_25 ?_
    refine J_goto (tgt := 30) dX11_small_26 rfl ?_
    exact J_iret rfl dX11_small_30 ⟨rfl, _, rfl, h⟩
abbrev a_M_big (l : Launch) (D : va_G) (ad : Nat → Nat) (cI cZ cS : ClassId) (rs : va_W) (A0 : Nat → Prop) := AM l D ad cI cZ cS rs A0 cX11_big 2 (some .int) RX11 1
set_option maxRecDepth 20000 in
set_option maxHeartbeats 4000000 in
theorem c_M_big {u : Mem} {x1 : Int32} {Q : Int32 → Prop} (h : w_M_big x1 u Q) : MM l D ad cI cZ cS rs A0 yX11_big cX11_big 2 (some .int) 1 [.ref (ad 0), .int x1] u (jRi u Q) := by
  unfold w_M_big at h
  refine JMet.of (by decide) (Nat.le_of_ble_eq_true rfl) ?_
  refine J_sub (lv' := [(0, .ref (ad 0)), (1, .int x1)]) [0, 1] rfl ?_
  show a_M_big l D ad cI cZ cS rs A0 (jRi u Q) 0 [(0, .ref (ad 0)), (1, .int x1)] [] u
  refine J_aload_n 0 dX11_big_0 rfl rfl ?_
  refine J_iload_n 1 dX11_big_1 rfl rfl ?_
  refine JV_Ri kV_RX11_98 0 rM_0 rfl rfl (c_M_here h) rfl rfl (by decide) (Nat.le_of_ble_eq_true rfl) dX11_big_2 (fun r1 h => ?_)
  refine J_i2l dX11_big_5 ?_
  refine J_ldc2 (v := 65) dX11_big_6 kk_RX11_105 ?_
  refine J_ldc2 (v := 72) dX11_big_9 kk_RX11_107 ?_
  refine JS_Ri kS_RX11_61 (c_M_in h) rfl rfl (by decide) (Nat.le_of_ble_eq_true rfl) dX11_big_12 (fun r3 h => ?_)
  refine J_if_eq (tgt := 29) dX11_big_15 rfl (fun c => ?_) (fun c => ?_)
  · have h := h.1 c
    refine J_iconst (v := (-1)) dX11_big_29 ci_m1 ?_
    exact J_iret rfl dX11_big_30 ⟨rfl, _, rfl, h⟩
  · have h := h.2 c
    refine J_aload_n 0 dX11_big_18 rfl rfl ?_
    refine J_iload_n 1 dX11_big_19 rfl rfl ?_
    refine JV_Ri kV_RX11_98 0 rM_0 rfl rfl (c_M_here h) rfl rfl (by decide) (Nat.le_of_ble_eq_true rfl) dX11_big_20 (fun r5 h => ?_)
    refine J_bipush (v := 65) dX11_big_23 cb_65 ?_
    refine J_isub dX11_big_25 ?_
    refine J_goto (tgt := 30) dX11_big_26 rfl ?_
    exact J_iret rfl dX11_big_30 ⟨rfl, _, rfl, h⟩
abbrev a_M_readsLaw (l : Launch) (D : va_G) (ad : Nat → Nat) (cI cZ cS : ClassId) (rs : va_W) (A0 : Nat → Prop) := AM l D ad cI cZ cS rs A0 cX11_readsLaw 6 (some .boolean) RX11 2
set_option maxRecDepth 20000 in
set_option maxHeartbeats 4000000 in
theorem t_M_readsLaw_b164 {u : Mem} {x5 : Int32} {s0 : Int32} {s1 : Int32} {Q : Int32 → Mem → Prop} (h : w_M_readsLaw_b164 x5 s0 s1 u Q) : a_M_readsLaw l D ad cI cZ cS rs A0 (jWi Q) 164 [(0, .ref (ad 0)), (5, .int x5)] [.int s0, .int s1, .ref (ad 7)] u := by
  unfold w_M_readsLaw_b164 at h
  refine tM_6 h.1 dX11_readsLaw_164 ?_
  have h := h.2
  refine J_aload_n 0 dX11_readsLaw_165 rfl rfl ?_
  refine gM_0_9 dX11_readsLaw_166 ?_
  refine J_iconst (v := 3) dX11_readsLaw_169 ci_3 ?_
  refine J_aload_n 0 dX11_readsLaw_170 rfl rfl ?_
  refine gM_0_8 (v := (u.1 2)) rfl dX11_readsLaw_171 ?_
  refine J_imul dX11_readsLaw_174 ?_
  refine J_iconst (v := 2) dX11_readsLaw_175 ci_2 ?_
  refine J_iadd dX11_readsLaw_176 ?_
  refine J_iload 1 dX11_readsLaw_177 rfl ?_
  refine tM_6 h.1 dX11_readsLaw_179 ?_
  have h := h.2
  refine J_aload_n 0 dX11_readsLaw_180 rfl rfl ?_
  refine J_dup dX11_readsLaw_181 rfl ?_
  refine gM_0_8 (v := (u.1 2)) rfl dX11_readsLaw_182 ?_
  refine J_iconst (v := 1) dX11_readsLaw_185 ci_1 ?_
  refine J_iadd dX11_readsLaw_186 ?_
  refine pM_0_8 dX11_readsLaw_187 ?_
  refine J_iconst (v := 1) dX11_readsLaw_190 ci_1 ?_
  exact J_zret rfl dX11_readsLaw_191 (bz_n bz_1) ⟨_, rfl, h⟩
set_option maxRecDepth 20000 in
set_option maxHeartbeats 4000000 in
theorem t_M_readsLaw_b93 {u : Mem} {x2 : Int32} {x4 : Int32} {Q : Int32 → Mem → Prop} (h : w_M_readsLaw_b93 x2 x4 u Q) : a_M_readsLaw l D ad cI cZ cS rs A0 (jWi Q) 93 [(0, .ref (ad 0)), (2, .int x2), (4, .int x4)] [] u := by
  unfold w_M_readsLaw_b93 at h
  refine J_aload_n 0 dX11_readsLaw_93 rfl rfl ?_
  refine J_dup dX11_readsLaw_94 rfl ?_
  refine gM_0_7 (v := (u.1 1)) rfl dX11_readsLaw_95 ?_
  refine J_iconst (v := 1) dX11_readsLaw_98 ci_1 ?_
  refine J_iadd dX11_readsLaw_99 ?_
  refine pM_0_7 dX11_readsLaw_100 ?_
  refine J_aload_n 0 dX11_readsLaw_103 rfl rfl ?_
  refine J_iconst (v := 0) dX11_readsLaw_104 ci_0 ?_
  refine JV_Ri kV_RX11_115 0 rM_0 rfl rfl (c_M_big h) rfl rfl (by decide) (Nat.le_of_ble_eq_true rfl) dX11_readsLaw_105 (fun r7 h => ?_)
  refine J_istore (lv' := [(5, .int r7), (0, .ref (ad 0)), (2, .int x2), (4, .int x4)]) dX11_readsLaw_108 (Nat.le_of_ble_eq_true rfl) rfl ?_
  refine J_iload 0 dX11_readsLaw_110 rfl ?_
  refine J_iconst (v := (-1)) dX11_readsLaw_112 ci_m1 ?_
  refine J_icmp_ne (tgt := 118) dX11_readsLaw_113 rfl (fun c => ?_) (fun c => ?_)
  · have h := h.1 c
    refine J_aload_n 1 dX11_readsLaw_118 rfl rfl ?_
    refine J_dup dX11_readsLaw_119 rfl ?_
    refine gM_0_7 (v := ((u.1 1) + 1)) rfl dX11_readsLaw_120 ?_
    refine J_iconst (v := 1) dX11_readsLaw_123 ci_1 ?_
    refine J_iadd dX11_readsLaw_124 ?_
    refine pM_0_7 dX11_readsLaw_125 ?_
    refine J_aload_n 1 dX11_readsLaw_128 rfl rfl ?_
    refine gM_0_9 dX11_readsLaw_129 ?_
    refine J_iconst (v := 3) dX11_readsLaw_132 ci_3 ?_
    refine J_aload_n 1 dX11_readsLaw_133 rfl rfl ?_
    refine gM_0_8 (v := (u.1 2)) rfl dX11_readsLaw_134 ?_
    refine J_imul dX11_readsLaw_137 ?_
    refine J_iload_n 2 dX11_readsLaw_138 rfl rfl ?_
    refine tM_6 h.1 dX11_readsLaw_139 ?_
    have h := h.2
    refine J_aload_n 1 dX11_readsLaw_140 rfl rfl ?_
    refine gM_0_9 dX11_readsLaw_141 ?_
    refine J_iconst (v := 3) dX11_readsLaw_144 ci_3 ?_
    refine J_aload_n 1 dX11_readsLaw_145 rfl rfl ?_
    refine gM_0_8 (v := (u.1 2)) rfl dX11_readsLaw_146 ?_
    refine J_imul dX11_readsLaw_149 ?_
    refine J_iconst (v := 1) dX11_readsLaw_150 ci_1 ?_
    refine J_iadd dX11_readsLaw_151 ?_
    refine J_iload 3 dX11_readsLaw_152 rfl ?_
    refine J_bipush (v := 43) dX11_readsLaw_154 cb_43 ?_
    refine J_icmp_ne (tgt := 163) dX11_readsLaw_156 rfl (fun c => ?_) (fun c => ?_)
    · have h := h.1 c
      refine J_iconst (v := 0) dX11_readsLaw_163 ci_0 ?_
      exact J_sub (lv' := [(0, .ref (ad 0)), (5, .int r7)]) [1, 0] rfl (t_M_readsLaw_b164 h)
    · have h := h.2 c
      refine J_iconst (v := 1) dX11_readsLaw_159 ci_1 ?_
      refine J_goto (tgt := 164) dX11_readsLaw_160 rfl ?_
      exact J_sub (lv' := [(0, .ref (ad 0)), (5, .int r7)]) [1, 0] rfl (t_M_readsLaw_b164 h)
  · have h := h.2 c
    refine J_iconst (v := 0) dX11_readsLaw_116 ci_0 ?_
    exact J_zret rfl dX11_readsLaw_117 (bz_n bz_0) ⟨_, rfl, h⟩
set_option maxRecDepth 20000 in
set_option maxHeartbeats 4000000 in
theorem t_M_readsLaw_b70 {u : Mem} {x2 : Int32} {Q : Int32 → Mem → Prop} (h : w_M_readsLaw_b70 x2 u Q) : a_M_readsLaw l D ad cI cZ cS rs A0 (jWi Q) 70 [(0, .ref (ad 0)), (2, .int x2)] [] u := by
  unfold w_M_readsLaw_b70 at h
  refine J_aload_n 0 dX11_readsLaw_70 rfl rfl ?_
  refine J_iconst (v := 0) dX11_readsLaw_71 ci_0 ?_
  refine JV_Ri kV_RX11_98 0 rM_0 rfl rfl (c_M_here h) rfl rfl (by decide) (Nat.le_of_ble_eq_true rfl) dX11_readsLaw_72 (fun r5 h => ?_)
  refine J_istore (lv' := [(4, .int r5), (0, .ref (ad 0)), (2, .int x2)]) dX11_readsLaw_75 (Nat.le_of_ble_eq_true rfl) rfl ?_
  refine J_iload 0 dX11_readsLaw_77 rfl ?_
  refine J_bipush (v := 43) dX11_readsLaw_79 cb_43 ?_
  refine J_icmp_eq (tgt := 93) dX11_readsLaw_81 rfl (fun c => ?_) (fun c => ?_)
  · have h := h.1 c
    exact J_sub (lv' := [(0, .ref (ad 0)), (2, .int x2), (4, .int r5)]) [1, 2, 0] rfl (t_M_readsLaw_b93 h)
  · have h := h.2 c
    refine J_iload 0 dX11_readsLaw_84 rfl ?_
    refine J_bipush (v := 45) dX11_readsLaw_86 cb_45 ?_
    refine J_icmp_eq (tgt := 93) dX11_readsLaw_88 rfl (fun c => ?_) (fun c => ?_)
    · have h := h.1 c
      exact J_sub (lv' := [(0, .ref (ad 0)), (2, .int x2), (4, .int r5)]) [1, 2, 0] rfl (t_M_readsLaw_b93 h)
    · have h := h.2 c
      refine J_iconst (v := 0) dX11_readsLaw_91 ci_0 ?_
      exact J_zret rfl dX11_readsLaw_92 (bz_n bz_0) ⟨_, rfl, h⟩
set_option maxRecDepth 20000 in
set_option maxHeartbeats 4000000 in
theorem c_M_readsLaw {u : Mem} {Q : Int32 → Mem → Prop} (h : w_M_readsLaw u Q) : MM l D ad cI cZ cS rs A0 yX11_readsLaw cX11_readsLaw 6 (some .boolean) 2 [.ref (ad 0)] u (jWi Q) := by
  unfold w_M_readsLaw at h
  refine JMet.of (by decide) (Nat.le_of_ble_eq_true rfl) ?_
  refine J_sub (lv' := [(0, .ref (ad 0))]) [0] rfl ?_
  show a_M_readsLaw l D ad cI cZ cS rs A0 (jWi Q) 0 [(0, .ref (ad 0))] [] u
  refine J_aload_n 0 dX11_readsLaw_0 rfl rfl ?_
  refine J_iconst (v := 0) dX11_readsLaw_1 ci_0 ?_
  refine JV_Ri kV_RX11_109 0 rM_0 rfl rfl (c_M_small h) rfl rfl (by decide) (Nat.le_of_ble_eq_true rfl) dX11_readsLaw_2 (fun r1 h => ?_)
  refine J_istore_n (lv' := [(1, .int r1), (0, .ref (ad 0))]) dX11_readsLaw_5 rfl (Nat.le_of_ble_eq_true rfl) rfl ?_
  refine J_aload_n 1 dX11_readsLaw_6 rfl rfl ?_
  refine gM_0_8 (v := (u.1 2)) rfl dX11_readsLaw_7 ?_
  refine J_bipush (v := 16) dX11_readsLaw_10 cb_16 ?_
  refine J_icmp_eq (tgt := 20) dX11_readsLaw_12 rfl (fun c => ?_) (fun c => ?_)
  · have h := h.1 c
    refine J_iconst (v := 0) dX11_readsLaw_20 ci_0 ?_
    exact J_zret rfl dX11_readsLaw_21 (bz_n bz_0) ⟨_, rfl, h⟩
  · have h := h.2 c
    refine J_iload_n 0 dX11_readsLaw_15 rfl rfl ?_
    refine J_iconst (v := (-1)) dX11_readsLaw_16 ci_m1 ?_
    refine J_icmp_ne (tgt := 22) dX11_readsLaw_17 rfl (fun c => ?_) (fun c => ?_)
    · have h := h.1 c
      refine J_iconst (v := 1) dX11_readsLaw_22 ci_1 ?_
      refine J_iload_n 0 dX11_readsLaw_23 rfl rfl ?_
      refine J_ishl dX11_readsLaw_24 ?_
      refine J_istore_n (lv' := [(2, .int ((1 : Int32) <<< (r1 &&& 31))), (1, .int r1), (0, .ref (ad 0))]) dX11_readsLaw_25 rfl (Nat.le_of_ble_eq_true rfl) rfl ?_
      refine J_aload_n 2 dX11_readsLaw_26 rfl rfl ?_
      refine J_dup dX11_readsLaw_27 rfl ?_
      refine gM_0_7 (v := (u.1 1)) rfl dX11_readsLaw_28 ?_
      refine J_iconst (v := 1) dX11_readsLaw_31 ci_1 ?_
      refine J_iadd dX11_readsLaw_32 ?_
      refine pM_0_7 dX11_readsLaw_33 ?_
      refine J_aload_n 2 dX11_readsLaw_36 rfl rfl ?_
      refine J_iconst (v := 0) dX11_readsLaw_37 ci_0 ?_
      refine JV_Ri kV_RX11_109 0 rM_0 rfl rfl (c_M_small h) rfl rfl (by decide) (Nat.le_of_ble_eq_true rfl) dX11_readsLaw_38 (fun r3 h => ?_)
      refine J_istore_n (lv' := [(3, .int r3), (2, .int ((1 : Int32) <<< (r1 &&& 31))), (1, .int r1), (0, .ref (ad 0))]) dX11_readsLaw_41 rfl (Nat.le_of_ble_eq_true rfl) rfl ?_
      refine J_iload_n 0 dX11_readsLaw_42 rfl rfl ?_
      refine J_iconst (v := (-1)) dX11_readsLaw_43 ci_m1 ?_
      refine J_icmp_eq (tgt := 70) dX11_readsLaw_44 rfl (fun c => ?_) (fun c => ?_)
      · have h := h.1 c
        exact J_sub (lv' := [(0, .ref (ad 0)), (2, .int ((1 : Int32) <<< (r1 &&& 31)))]) [3, 1] rfl (t_M_readsLaw_b70 h)
      · have h := h.2 c
        refine J_iload_n 0 dX11_readsLaw_47 rfl rfl ?_
        refine J_iload_n 2 dX11_readsLaw_48 rfl rfl ?_
        refine J_icmp_gt (tgt := 54) dX11_readsLaw_49 rfl (fun c => ?_) (fun c => ?_)
        · have h := h.1 c
          refine J_iload_n 1 dX11_readsLaw_54 rfl rfl ?_
          refine J_iconst (v := 1) dX11_readsLaw_55 ci_1 ?_
          refine J_iload_n 0 dX11_readsLaw_56 rfl rfl ?_
          refine J_ishl dX11_readsLaw_57 ?_
          refine J_ior dX11_readsLaw_58 ?_
          refine J_istore_n (lv' := [(2, .int (((1 : Int32) <<< (r1 &&& 31)) ||| ((1 : Int32) <<< (r3 &&& 31)))), (3, .int r3), (1, .int r1), (0, .ref (ad 0))]) dX11_readsLaw_59 rfl (Nat.le_of_ble_eq_true rfl) rfl ?_
          refine J_aload_n 3 dX11_readsLaw_60 rfl rfl ?_
          refine J_dup dX11_readsLaw_61 rfl ?_
          refine gM_0_7 (v := ((u.1 1) + 1)) rfl dX11_readsLaw_62 ?_
          refine J_iconst (v := 1) dX11_readsLaw_65 ci_1 ?_
          refine J_iadd dX11_readsLaw_66 ?_
          refine pM_0_7 dX11_readsLaw_67 ?_
          exact J_sub (lv' := [(0, .ref (ad 0)), (2, .int (((1 : Int32) <<< (r1 &&& 31)) ||| ((1 : Int32) <<< (r3 &&& 31))))]) [3, 0] rfl (t_M_readsLaw_b70 h)
        · have h := h.2 c
          refine J_iconst (v := 0) dX11_readsLaw_52 ci_0 ?_
          exact J_zret rfl dX11_readsLaw_53 (bz_n bz_0) ⟨_, rfl, h⟩
    · have h := h.2 c
      refine J_iconst (v := 0) dX11_readsLaw_20 ci_0 ?_
      exact J_zret rfl dX11_readsLaw_21 (bz_n bz_0) ⟨_, rfl, h⟩
abbrev a_M_readsLaws (l : Launch) (D : va_G) (ad : Nat → Nat) (cI cZ cS : ClassId) (rs : va_W) (A0 : Nat → Prop) := AM l D ad cI cZ cS rs A0 cX11_readsLaws 3 (some .int) RX11 3
set_option maxRecDepth 20000 in
set_option maxHeartbeats 4000000 in
theorem t_M_readsLaws_b75 {u : Mem} {Q : Int32 → Mem → Prop} (h : w_M_readsLaws_b75 u Q) : a_M_readsLaws l D ad cI cZ cS rs A0 (jWi Q) 75 [(0, .ref (ad 0))] [] u := by
  unfold w_M_readsLaws_b75 at h
  refine J_aload_n 0 dX11_readsLaws_75 rfl rfl ?_
  refine J_iconst (v := 0) dX11_readsLaws_76 ci_0 ?_
  refine pM_0_8 dX11_readsLaws_77 ?_
  refine J_aload_n 0 dX11_readsLaws_80 rfl rfl ?_
  refine gM_0_7 (v := (u.1 1)) rfl dX11_readsLaws_81 ?_
  exact J_iret rfl dX11_readsLaws_84 ⟨_, rfl, h⟩
set_option maxRecDepth 20000 in
set_option maxHeartbeats 4000000 in
theorem t_M_readsLaws_b99 {u : Mem} {R : Int32 → Mem → Prop} {X : Mem → Prop} {x1 : Int32} {s0 : Int32} {s1 : Int32} {Q : Int32 → Mem → Prop} (hR : ∀ (z1 : Int32) (u : Mem), R z1 u → a_M_readsLaws l D ad cI cZ cS rs A0 (jWi Q) 25 [(0, .ref (ad 0)), (1, .int z1)] [] u) (hX : ∀ (u : Mem), X u → a_M_readsLaws l D ad cI cZ cS rs A0 (jWi Q) 106 [] [] u) (h : w_M_readsLaws_b99 R X x1 s0 s1 u Q) : a_M_readsLaws l D ad cI cZ cS rs A0 (jWi Q) 99 [(0, .ref (ad 0)), (1, .int x1)] [.int s0, .int s1, .ref (ad 0)] u := by
  unfold w_M_readsLaws_b99 at h
  refine J_iadd dX11_readsLaws_99 ?_
  refine pM_0_7 dX11_readsLaws_100 ?_
  refine J_goto (tgt := 25) dX11_readsLaws_103 rfl ?_
  exact (hR x1 (sS u 1 (s1 + s0)) h)
set_option maxRecDepth 20000 in
set_option maxHeartbeats 4000000 in
theorem t_M_readsLaws_b85 {u : Mem} {R : Int32 → Mem → Prop} {X : Mem → Prop} {x1 : Int32} {Q : Int32 → Mem → Prop} (hR : ∀ (z1 : Int32) (u : Mem), R z1 u → a_M_readsLaws l D ad cI cZ cS rs A0 (jWi Q) 25 [(0, .ref (ad 0)), (1, .int z1)] [] u) (hX : ∀ (u : Mem), X u → a_M_readsLaws l D ad cI cZ cS rs A0 (jWi Q) 106 [] [] u) (h : w_M_readsLaws_b85 R X x1 u Q) : a_M_readsLaws l D ad cI cZ cS rs A0 (jWi Q) 85 [(0, .ref (ad 0)), (1, .int x1)] [] u := by
  unfold w_M_readsLaws_b85 at h
  refine J_aload_n 0 dX11_readsLaws_85 rfl rfl ?_
  refine J_dup dX11_readsLaws_86 rfl ?_
  refine gM_0_7 (v := (u.1 1)) rfl dX11_readsLaws_87 ?_
  refine J_iload_n 1 dX11_readsLaws_90 rfl rfl ?_
  refine J_if_eq (tgt := 98) dX11_readsLaws_91 rfl (fun c => ?_) (fun c => ?_)
  · have h := h.1 c
    refine J_iconst (v := 0) dX11_readsLaws_98 ci_0 ?_
    exact (t_M_readsLaws_b99 hR hX h)
  · have h := h.2 c
    refine J_iconst (v := 1) dX11_readsLaws_94 ci_1 ?_
    refine J_goto (tgt := 99) dX11_readsLaws_95 rfl ?_
    exact (t_M_readsLaws_b99 hR hX h)
set_option maxRecDepth 20000 in
set_option maxHeartbeats 4000000 in
theorem t_M_readsLaws_b56 {u : Mem} {R : Int32 → Mem → Prop} {X : Mem → Prop} {x2 : Int32} {s0 : Int32} {Q : Int32 → Mem → Prop} (hR : ∀ (z1 : Int32) (u : Mem), R z1 u → a_M_readsLaws l D ad cI cZ cS rs A0 (jWi Q) 25 [(0, .ref (ad 0)), (1, .int z1)] [] u) (hX : ∀ (u : Mem), X u → a_M_readsLaws l D ad cI cZ cS rs A0 (jWi Q) 106 [] [] u) (h : w_M_readsLaws_b56 R X x2 s0 u Q) : a_M_readsLaws l D ad cI cZ cS rs A0 (jWi Q) 56 [(0, .ref (ad 0)), (2, .int x2)] [.int s0] u := by
  unfold w_M_readsLaws_b56 at h
  refine J_istore_n (lv' := [(1, .int s0), (0, .ref (ad 0)), (2, .int x2)]) dX11_readsLaws_56 rfl (Nat.le_of_ble_eq_true rfl) rfl ?_
  refine J_iload_n 2 dX11_readsLaws_57 rfl rfl ?_
  refine J_if_eq (tgt := 75) dX11_readsLaws_58 rfl (fun c => ?_) (fun c => ?_)
  · have h := h.1 c
    exact J_sub (lv' := [(0, .ref (ad 0))]) [1] rfl (t_M_readsLaws_b75 h)
  · have h := h.2 c
    refine J_iload_n 0 dX11_readsLaws_61 rfl rfl ?_
    refine J_if_eq (tgt := 85) dX11_readsLaws_62 rfl (fun c => ?_) (fun c => ?_)
    · have h := h.1 c
      exact J_sub (lv' := [(0, .ref (ad 0)), (1, .int s0)]) [1, 0] rfl (t_M_readsLaws_b85 hR hX h)
    · have h := h.2 c
      refine J_aload_n 1 dX11_readsLaws_65 rfl rfl ?_
      refine J_iconst (v := 0) dX11_readsLaws_66 ci_0 ?_
      refine JV_Ri kV_RX11_98 0 rM_0 rfl rfl (c_M_here h) rfl rfl (by decide) (Nat.le_of_ble_eq_true rfl) dX11_readsLaws_67 (fun r3 h => ?_)
      refine J_bipush (v := 59) dX11_readsLaws_70 cb_59 ?_
      refine J_icmp_eq (tgt := 85) dX11_readsLaws_72 rfl (fun c => ?_) (fun c => ?_)
      · have h := h.1 c
        exact J_sub (lv' := [(0, .ref (ad 0)), (1, .int s0)]) [1, 0] rfl (t_M_readsLaws_b85 hR hX h)
      · have h := h.2 c
        exact J_sub (lv' := [(0, .ref (ad 0))]) [1] rfl (t_M_readsLaws_b75 h)
set_option maxRecDepth 20000 in
set_option maxHeartbeats 4000000 in
theorem t_M_readsLaws_b55 {u : Mem} {R : Int32 → Mem → Prop} {X : Mem → Prop} {x2 : Int32} {Q : Int32 → Mem → Prop} (hR : ∀ (z1 : Int32) (u : Mem), R z1 u → a_M_readsLaws l D ad cI cZ cS rs A0 (jWi Q) 25 [(0, .ref (ad 0)), (1, .int z1)] [] u) (hX : ∀ (u : Mem), X u → a_M_readsLaws l D ad cI cZ cS rs A0 (jWi Q) 106 [] [] u) (h : w_M_readsLaws_b55 R X x2 u Q) : a_M_readsLaws l D ad cI cZ cS rs A0 (jWi Q) 55 [(0, .ref (ad 0)), (2, .int x2)] [] u := by
  unfold w_M_readsLaws_b55 at h
  refine J_iconst (v := 0) dX11_readsLaws_55 ci_0 ?_
  exact (t_M_readsLaws_b56 hR hX h)
set_option maxRecDepth 20000 in
set_option maxHeartbeats 4000000 in
theorem t_M_readsLaws_l25  {X : Mem → Prop} {Q : Int32 → Mem → Prop} (hX : ∀ (u : Mem), X u → a_M_readsLaws l D ad cI cZ cS rs A0 (jWi Q) 106 [] [] u) : ∀ (n : Nat) (x1 : Int32) (u : Mem), w_M_readsLaws_l25 X Q n x1 u → a_M_readsLaws l D ad cI cZ cS rs A0 (jWi Q) 25 [(0, .ref (ad 0)), (1, .int x1)] [] u := by
  intro n
  induction n with
  | zero =>
    intro x1 u h
    exact (by simp only [w_M_readsLaws_l25] at h : False).elim
  | succ n ih =>
    intro x1 u h
    rw [w_M_readsLaws_l25] at h
    refine J_iload_n 1 dX11_readsLaws_25 rfl rfl ?_
    refine J_if_eq (tgt := 106) dX11_readsLaws_26 rfl (fun c => ?_) (fun c => ?_)
    · have h := h.1 c
      exact J_sub (lv' := []) [] rfl (hX u h)
    · have h := h.2 c
      refine J_aload_n 0 dX11_readsLaws_29 rfl rfl ?_
      refine JV_Wi kV_RX11_118 0 rM_0 rfl rfl (c_M_readsLaw h) rfl rfl (by decide) (Nat.le_of_ble_eq_true rfl) dX11_readsLaws_30 (fun r1 u2 h => ?_)
      refine J_istore_n (lv' := [(2, .int r1), (0, .ref (ad 0)), (1, .int x1)]) dX11_readsLaws_33 rfl (Nat.le_of_ble_eq_true rfl) rfl ?_
      refine J_iload_n 0 dX11_readsLaws_34 rfl rfl ?_
      refine J_if_eq (tgt := 55) dX11_readsLaws_35 rfl (fun c => ?_) (fun c => ?_)
      · have h := h.1 c
        exact J_sub (lv' := [(0, .ref (ad 0)), (2, .int r1)]) [1, 0] rfl (t_M_readsLaws_b55 ih hX h)
      · have h := h.2 c
        refine J_aload_n 1 dX11_readsLaws_38 rfl rfl ?_
        refine gM_0_7 (v := (u2.1 1)) rfl dX11_readsLaws_39 ?_
        refine J_aload_n 1 dX11_readsLaws_42 rfl rfl ?_
        refine gM_0_6 dX11_readsLaws_43 ?_
        refine J_iconst (v := 0) dX11_readsLaws_46 ci_0 ?_
        refine lM_5 (v := (u2.2 5 (0 : Int32).toNatClampNeg)) h.1 rfl dX11_readsLaws_47 ?_
        have h := h.2
        refine J_icmp_ge (tgt := 55) dX11_readsLaws_48 rfl (fun c => ?_) (fun c => ?_)
        · have h := h.1 c
          exact J_sub (lv' := [(0, .ref (ad 0)), (2, .int r1)]) [1, 0] rfl (t_M_readsLaws_b55 ih hX h)
        · have h := h.2 c
          refine J_iconst (v := 1) dX11_readsLaws_51 ci_1 ?_
          refine J_goto (tgt := 56) dX11_readsLaws_52 rfl ?_
          exact J_sub (lv' := [(0, .ref (ad 0)), (2, .int r1)]) [1, 0] rfl (t_M_readsLaws_b56 ih hX h)
set_option maxRecDepth 20000 in
set_option maxHeartbeats 4000000 in
theorem t_M_readsLaws_b24 {u : Mem} {s0 : Int32} {Q : Int32 → Mem → Prop} (h : w_M_readsLaws_b24 s0 u Q) : a_M_readsLaws l D ad cI cZ cS rs A0 (jWi Q) 24 [(0, .ref (ad 0))] [.int s0] u := by
  unfold w_M_readsLaws_b24 at h
  refine J_istore_n (lv' := [(1, .int s0), (0, .ref (ad 0))]) dX11_readsLaws_24 rfl (Nat.le_of_ble_eq_true rfl) rfl ?_
  obtain ⟨n6, h⟩ := h
  refine J_sub (lv' := [(0, .ref (ad 0)), (1, .int s0)]) [1, 0] rfl (t_M_readsLaws_l25 ?_ n6 s0 u h)
  · intro u5 h
    refine J_iconst (v := (-1)) dX11_readsLaws_106 ci_m1 ?_
    exact J_iret rfl dX11_readsLaws_107 ⟨_, rfl, h⟩
set_option maxRecDepth 20000 in
set_option maxHeartbeats 4000000 in
theorem c_M_readsLaws {u : Mem} {Q : Int32 → Mem → Prop} (h : w_M_readsLaws u Q) : MM l D ad cI cZ cS rs A0 yX11_readsLaws cX11_readsLaws 3 (some .int) 3 [.ref (ad 0)] u (jWi Q) := by
  unfold w_M_readsLaws at h
  refine JMet.of (by decide) (Nat.le_of_ble_eq_true rfl) ?_
  refine J_sub (lv' := [(0, .ref (ad 0))]) [0] rfl ?_
  show a_M_readsLaws l D ad cI cZ cS rs A0 (jWi Q) 0 [(0, .ref (ad 0))] [] u
  refine J_aload_n 0 dX11_readsLaws_0 rfl rfl ?_
  refine J_iconst (v := 0) dX11_readsLaws_1 ci_0 ?_
  refine pM_0_7 dX11_readsLaws_2 ?_
  refine J_aload_n 0 dX11_readsLaws_5 rfl rfl ?_
  refine J_iconst (v := 0) dX11_readsLaws_6 ci_0 ?_
  refine pM_0_8 dX11_readsLaws_7 ?_
  refine J_aload_n 0 dX11_readsLaws_10 rfl rfl ?_
  refine gM_0_6 dX11_readsLaws_11 ?_
  refine J_iconst (v := 0) dX11_readsLaws_14 ci_0 ?_
  refine lM_5 (v := (u.2 5 (0 : Int32).toNatClampNeg)) h.1 rfl dX11_readsLaws_15 ?_
  have h := h.2
  refine J_if_le (tgt := 23) dX11_readsLaws_16 rfl (fun c => ?_) (fun c => ?_)
  · have h := h.1 c
    refine J_iconst (v := 0) dX11_readsLaws_23 ci_0 ?_
    exact (t_M_readsLaws_b24 h)
  · have h := h.2 c
    refine J_iconst (v := 1) dX11_readsLaws_19 ci_1 ?_
    refine J_goto (tgt := 24) dX11_readsLaws_20 rfl ?_
    exact (t_M_readsLaws_b24 h)
abbrev a_M_readsOneDust (l : Launch) (D : va_G) (ad : Nat → Nat) (cI cZ cS : ClassId) (rs : va_W) (A0 : Nat → Prop) := AM l D ad cI cZ cS rs A0 cX11_readsOneDust 3 (some .boolean) RX11 2
set_option maxRecDepth 20000 in
set_option maxHeartbeats 4000000 in
theorem c_M_readsOneDust {u : Mem} {Q : Int32 → Mem → Prop} (h : w_M_readsOneDust u Q) : MM l D ad cI cZ cS rs A0 yX11_readsOneDust cX11_readsOneDust 3 (some .boolean) 2 [.ref (ad 0)] u (jWi Q) := by
  unfold w_M_readsOneDust at h
  refine JMet.of (by decide) (Nat.le_of_ble_eq_true rfl) ?_
  refine J_sub (lv' := [(0, .ref (ad 0))]) [0] rfl ?_
  show a_M_readsOneDust l D ad cI cZ cS rs A0 (jWi Q) 0 [(0, .ref (ad 0))] [] u
  refine J_aload_n 0 dX11_readsOneDust_0 rfl rfl ?_
  refine J_iconst (v := 1) dX11_readsOneDust_1 ci_1 ?_
  refine JV_Ri kV_RX11_115 0 rM_0 rfl rfl (c_M_big h) rfl rfl (by decide) (Nat.le_of_ble_eq_true rfl) dX11_readsOneDust_2 (fun r1 h => ?_)
  refine J_istore_n (lv' := [(1, .int r1), (0, .ref (ad 0))]) dX11_readsOneDust_5 rfl (Nat.le_of_ble_eq_true rfl) rfl ?_
  refine J_aload_n 1 dX11_readsOneDust_6 rfl rfl ?_
  refine gM_0_10 (v := (u.1 3)) rfl dX11_readsOneDust_7 ?_
  refine J_bipush (v := 12) dX11_readsOneDust_10 cb_12 ?_
  refine J_icmp_eq (tgt := 20) dX11_readsOneDust_12 rfl (fun c => ?_) (fun c => ?_)
  · have h := h.1 c
    refine J_iconst (v := 0) dX11_readsOneDust_20 ci_0 ?_
    exact J_zret rfl dX11_readsOneDust_21 (bz_n bz_0) ⟨_, rfl, h⟩
  · have h := h.2 c
    refine J_iload_n 0 dX11_readsOneDust_15 rfl rfl ?_
    refine J_iconst (v := (-1)) dX11_readsOneDust_16 ci_m1 ?_
    refine J_icmp_ne (tgt := 22) dX11_readsOneDust_17 rfl (fun c => ?_) (fun c => ?_)
    · have h := h.1 c
      refine J_aload_n 1 dX11_readsOneDust_22 rfl rfl ?_
      refine J_dup dX11_readsOneDust_23 rfl ?_
      refine gM_0_7 (v := (u.1 1)) rfl dX11_readsOneDust_24 ?_
      refine J_iconst (v := 1) dX11_readsOneDust_27 ci_1 ?_
      refine J_iadd dX11_readsOneDust_28 ?_
      refine pM_0_7 dX11_readsOneDust_29 ?_
      refine J_aload_n 1 dX11_readsOneDust_32 rfl rfl ?_
      refine J_iconst (v := 1) dX11_readsOneDust_33 ci_1 ?_
      refine JV_Ri kV_RX11_109 0 rM_0 rfl rfl (c_M_small h) rfl rfl (by decide) (Nat.le_of_ble_eq_true rfl) dX11_readsOneDust_34 (fun r3 h => ?_)
      refine J_istore_n (lv' := [(2, .int r3), (1, .int r1), (0, .ref (ad 0))]) dX11_readsOneDust_37 rfl (Nat.le_of_ble_eq_true rfl) rfl ?_
      refine J_iload_n 0 dX11_readsOneDust_38 rfl rfl ?_
      refine J_iconst (v := (-1)) dX11_readsOneDust_39 ci_m1 ?_
      refine J_icmp_ne (tgt := 45) dX11_readsOneDust_40 rfl (fun c => ?_) (fun c => ?_)
      · have h := h.1 c
        refine J_aload_n 2 dX11_readsOneDust_45 rfl rfl ?_
        refine J_dup dX11_readsOneDust_46 rfl ?_
        refine gM_0_7 (v := ((u.1 1) + 1)) rfl dX11_readsOneDust_47 ?_
        refine J_iconst (v := 1) dX11_readsOneDust_50 ci_1 ?_
        refine J_iadd dX11_readsOneDust_51 ?_
        refine pM_0_7 dX11_readsOneDust_52 ?_
        refine J_aload_n 2 dX11_readsOneDust_55 rfl rfl ?_
        refine gM_0_11 dX11_readsOneDust_56 ?_
        refine J_iconst (v := 2) dX11_readsOneDust_59 ci_2 ?_
        refine J_aload_n 2 dX11_readsOneDust_60 rfl rfl ?_
        refine gM_0_10 (v := (u.1 3)) rfl dX11_readsOneDust_61 ?_
        refine J_imul dX11_readsOneDust_64 ?_
        refine J_iload_n 1 dX11_readsOneDust_65 rfl rfl ?_
        refine tM_7 h.1 dX11_readsOneDust_66 ?_
        have h := h.2
        refine J_aload_n 2 dX11_readsOneDust_67 rfl rfl ?_
        refine gM_0_11 dX11_readsOneDust_68 ?_
        refine J_iconst (v := 2) dX11_readsOneDust_71 ci_2 ?_
        refine J_aload_n 2 dX11_readsOneDust_72 rfl rfl ?_
        refine gM_0_10 (v := (u.1 3)) rfl dX11_readsOneDust_73 ?_
        refine J_imul dX11_readsOneDust_76 ?_
        refine J_iconst (v := 1) dX11_readsOneDust_77 ci_1 ?_
        refine J_iadd dX11_readsOneDust_78 ?_
        refine J_iload_n 0 dX11_readsOneDust_79 rfl rfl ?_
        refine tM_7 h.1 dX11_readsOneDust_80 ?_
        have h := h.2
        refine J_aload_n 2 dX11_readsOneDust_81 rfl rfl ?_
        refine J_dup dX11_readsOneDust_82 rfl ?_
        refine gM_0_10 (v := (u.1 3)) rfl dX11_readsOneDust_83 ?_
        refine J_iconst (v := 1) dX11_readsOneDust_86 ci_1 ?_
        refine J_iadd dX11_readsOneDust_87 ?_
        refine pM_0_10 dX11_readsOneDust_88 ?_
        refine J_memn (fun u5 eu5 => ?_)
        have h := h u5 eu5
        refine J_iconst (v := 1) dX11_readsOneDust_91 ci_1 ?_
        exact J_zret rfl dX11_readsOneDust_92 (bz_n bz_1) ⟨_, rfl, h⟩
      · have h := h.2 c
        refine J_iconst (v := 0) dX11_readsOneDust_43 ci_0 ?_
        exact J_zret rfl dX11_readsOneDust_44 (bz_n bz_0) ⟨_, rfl, h⟩
    · have h := h.2 c
      refine J_iconst (v := 0) dX11_readsOneDust_20 ci_0 ?_
      exact J_zret rfl dX11_readsOneDust_21 (bz_n bz_0) ⟨_, rfl, h⟩
abbrev a_M_readsDust (l : Launch) (D : va_G) (ad : Nat → Nat) (cI cZ cS : ClassId) (rs : va_W) (A0 : Nat → Prop) := AM l D ad cI cZ cS rs A0 cX11_readsDust 3 (some .int) RX11 3
set_option maxRecDepth 20000 in
set_option maxHeartbeats 4000000 in
theorem t_M_readsDust_b75 {u : Mem} {Q : Int32 → Mem → Prop} (h : w_M_readsDust_b75 u Q) : a_M_readsDust l D ad cI cZ cS rs A0 (jWi Q) 75 [(0, .ref (ad 0))] [] u := by
  unfold w_M_readsDust_b75 at h
  refine J_aload_n 0 dX11_readsDust_75 rfl rfl ?_
  refine J_iconst (v := 0) dX11_readsDust_76 ci_0 ?_
  refine pM_0_10 dX11_readsDust_77 ?_
  refine J_aload_n 0 dX11_readsDust_80 rfl rfl ?_
  refine gM_0_7 (v := (u.1 1)) rfl dX11_readsDust_81 ?_
  exact J_iret rfl dX11_readsDust_84 ⟨_, rfl, h⟩
set_option maxRecDepth 20000 in
set_option maxHeartbeats 4000000 in
theorem t_M_readsDust_b99 {u : Mem} {R : Int32 → Mem → Prop} {X : Mem → Prop} {x1 : Int32} {s0 : Int32} {s1 : Int32} {Q : Int32 → Mem → Prop} (hR : ∀ (z1 : Int32) (u : Mem), R z1 u → a_M_readsDust l D ad cI cZ cS rs A0 (jWi Q) 25 [(0, .ref (ad 0)), (1, .int z1)] [] u) (hX : ∀ (u : Mem), X u → a_M_readsDust l D ad cI cZ cS rs A0 (jWi Q) 106 [] [] u) (h : w_M_readsDust_b99 R X x1 s0 s1 u Q) : a_M_readsDust l D ad cI cZ cS rs A0 (jWi Q) 99 [(0, .ref (ad 0)), (1, .int x1)] [.int s0, .int s1, .ref (ad 0)] u := by
  unfold w_M_readsDust_b99 at h
  refine J_iadd dX11_readsDust_99 ?_
  refine pM_0_7 dX11_readsDust_100 ?_
  refine J_goto (tgt := 25) dX11_readsDust_103 rfl ?_
  exact (hR x1 (sS u 1 (s1 + s0)) h)
set_option maxRecDepth 20000 in
set_option maxHeartbeats 4000000 in
theorem t_M_readsDust_b85 {u : Mem} {R : Int32 → Mem → Prop} {X : Mem → Prop} {x1 : Int32} {Q : Int32 → Mem → Prop} (hR : ∀ (z1 : Int32) (u : Mem), R z1 u → a_M_readsDust l D ad cI cZ cS rs A0 (jWi Q) 25 [(0, .ref (ad 0)), (1, .int z1)] [] u) (hX : ∀ (u : Mem), X u → a_M_readsDust l D ad cI cZ cS rs A0 (jWi Q) 106 [] [] u) (h : w_M_readsDust_b85 R X x1 u Q) : a_M_readsDust l D ad cI cZ cS rs A0 (jWi Q) 85 [(0, .ref (ad 0)), (1, .int x1)] [] u := by
  unfold w_M_readsDust_b85 at h
  refine J_aload_n 0 dX11_readsDust_85 rfl rfl ?_
  refine J_dup dX11_readsDust_86 rfl ?_
  refine gM_0_7 (v := (u.1 1)) rfl dX11_readsDust_87 ?_
  refine J_iload_n 1 dX11_readsDust_90 rfl rfl ?_
  refine J_if_eq (tgt := 98) dX11_readsDust_91 rfl (fun c => ?_) (fun c => ?_)
  · have h := h.1 c
    refine J_iconst (v := 0) dX11_readsDust_98 ci_0 ?_
    exact (t_M_readsDust_b99 hR hX h)
  · have h := h.2 c
    refine J_iconst (v := 1) dX11_readsDust_94 ci_1 ?_
    refine J_goto (tgt := 99) dX11_readsDust_95 rfl ?_
    exact (t_M_readsDust_b99 hR hX h)
set_option maxRecDepth 20000 in
set_option maxHeartbeats 4000000 in
theorem t_M_readsDust_b56 {u : Mem} {R : Int32 → Mem → Prop} {X : Mem → Prop} {x2 : Int32} {s0 : Int32} {Q : Int32 → Mem → Prop} (hR : ∀ (z1 : Int32) (u : Mem), R z1 u → a_M_readsDust l D ad cI cZ cS rs A0 (jWi Q) 25 [(0, .ref (ad 0)), (1, .int z1)] [] u) (hX : ∀ (u : Mem), X u → a_M_readsDust l D ad cI cZ cS rs A0 (jWi Q) 106 [] [] u) (h : w_M_readsDust_b56 R X x2 s0 u Q) : a_M_readsDust l D ad cI cZ cS rs A0 (jWi Q) 56 [(0, .ref (ad 0)), (2, .int x2)] [.int s0] u := by
  unfold w_M_readsDust_b56 at h
  refine J_istore_n (lv' := [(1, .int s0), (0, .ref (ad 0)), (2, .int x2)]) dX11_readsDust_56 rfl (Nat.le_of_ble_eq_true rfl) rfl ?_
  refine J_iload_n 2 dX11_readsDust_57 rfl rfl ?_
  refine J_if_eq (tgt := 75) dX11_readsDust_58 rfl (fun c => ?_) (fun c => ?_)
  · have h := h.1 c
    exact J_sub (lv' := [(0, .ref (ad 0))]) [1] rfl (t_M_readsDust_b75 h)
  · have h := h.2 c
    refine J_iload_n 0 dX11_readsDust_61 rfl rfl ?_
    refine J_if_eq (tgt := 85) dX11_readsDust_62 rfl (fun c => ?_) (fun c => ?_)
    · have h := h.1 c
      exact J_sub (lv' := [(0, .ref (ad 0)), (1, .int s0)]) [1, 0] rfl (t_M_readsDust_b85 hR hX h)
    · have h := h.2 c
      refine J_aload_n 1 dX11_readsDust_65 rfl rfl ?_
      refine J_iconst (v := 1) dX11_readsDust_66 ci_1 ?_
      refine JV_Ri kV_RX11_98 0 rM_0 rfl rfl (c_M_here h) rfl rfl (by decide) (Nat.le_of_ble_eq_true rfl) dX11_readsDust_67 (fun r3 h => ?_)
      refine J_bipush (v := 59) dX11_readsDust_70 cb_59 ?_
      refine J_icmp_eq (tgt := 85) dX11_readsDust_72 rfl (fun c => ?_) (fun c => ?_)
      · have h := h.1 c
        exact J_sub (lv' := [(0, .ref (ad 0)), (1, .int s0)]) [1, 0] rfl (t_M_readsDust_b85 hR hX h)
      · have h := h.2 c
        exact J_sub (lv' := [(0, .ref (ad 0))]) [1] rfl (t_M_readsDust_b75 h)
set_option maxRecDepth 20000 in
set_option maxHeartbeats 4000000 in
theorem t_M_readsDust_b55 {u : Mem} {R : Int32 → Mem → Prop} {X : Mem → Prop} {x2 : Int32} {Q : Int32 → Mem → Prop} (hR : ∀ (z1 : Int32) (u : Mem), R z1 u → a_M_readsDust l D ad cI cZ cS rs A0 (jWi Q) 25 [(0, .ref (ad 0)), (1, .int z1)] [] u) (hX : ∀ (u : Mem), X u → a_M_readsDust l D ad cI cZ cS rs A0 (jWi Q) 106 [] [] u) (h : w_M_readsDust_b55 R X x2 u Q) : a_M_readsDust l D ad cI cZ cS rs A0 (jWi Q) 55 [(0, .ref (ad 0)), (2, .int x2)] [] u := by
  unfold w_M_readsDust_b55 at h
  refine J_iconst (v := 0) dX11_readsDust_55 ci_0 ?_
  exact (t_M_readsDust_b56 hR hX h)
set_option maxRecDepth 20000 in
set_option maxHeartbeats 4000000 in
theorem t_M_readsDust_l25  {X : Mem → Prop} {Q : Int32 → Mem → Prop} (hX : ∀ (u : Mem), X u → a_M_readsDust l D ad cI cZ cS rs A0 (jWi Q) 106 [] [] u) : ∀ (n : Nat) (x1 : Int32) (u : Mem), w_M_readsDust_l25 X Q n x1 u → a_M_readsDust l D ad cI cZ cS rs A0 (jWi Q) 25 [(0, .ref (ad 0)), (1, .int x1)] [] u := by
  intro n
  induction n with
  | zero =>
    intro x1 u h
    exact (by simp only [w_M_readsDust_l25] at h : False).elim
  | succ n ih =>
    intro x1 u h
    rw [w_M_readsDust_l25] at h
    refine J_iload_n 1 dX11_readsDust_25 rfl rfl ?_
    refine J_if_eq (tgt := 106) dX11_readsDust_26 rfl (fun c => ?_) (fun c => ?_)
    · have h := h.1 c
      exact J_sub (lv' := []) [] rfl (hX u h)
    · have h := h.2 c
      refine J_aload_n 0 dX11_readsDust_29 rfl rfl ?_
      refine JV_Wi kV_RX11_125 0 rM_0 rfl rfl (c_M_readsOneDust h) rfl rfl (by decide) (Nat.le_of_ble_eq_true rfl) dX11_readsDust_30 (fun r1 u2 h => ?_)
      refine J_istore_n (lv' := [(2, .int r1), (0, .ref (ad 0)), (1, .int x1)]) dX11_readsDust_33 rfl (Nat.le_of_ble_eq_true rfl) rfl ?_
      refine J_iload_n 0 dX11_readsDust_34 rfl rfl ?_
      refine J_if_eq (tgt := 55) dX11_readsDust_35 rfl (fun c => ?_) (fun c => ?_)
      · have h := h.1 c
        exact J_sub (lv' := [(0, .ref (ad 0)), (2, .int r1)]) [1, 0] rfl (t_M_readsDust_b55 ih hX h)
      · have h := h.2 c
        refine J_aload_n 1 dX11_readsDust_38 rfl rfl ?_
        refine gM_0_7 (v := (u2.1 1)) rfl dX11_readsDust_39 ?_
        refine J_aload_n 1 dX11_readsDust_42 rfl rfl ?_
        refine gM_0_6 dX11_readsDust_43 ?_
        refine J_iconst (v := 1) dX11_readsDust_46 ci_1 ?_
        refine lM_5 (v := (u2.2 5 (1 : Int32).toNatClampNeg)) h.1 rfl dX11_readsDust_47 ?_
        have h := h.2
        refine J_icmp_ge (tgt := 55) dX11_readsDust_48 rfl (fun c => ?_) (fun c => ?_)
        · have h := h.1 c
          exact J_sub (lv' := [(0, .ref (ad 0)), (2, .int r1)]) [1, 0] rfl (t_M_readsDust_b55 ih hX h)
        · have h := h.2 c
          refine J_iconst (v := 1) dX11_readsDust_51 ci_1 ?_
          refine J_goto (tgt := 56) dX11_readsDust_52 rfl ?_
          exact J_sub (lv' := [(0, .ref (ad 0)), (2, .int r1)]) [1, 0] rfl (t_M_readsDust_b56 ih hX h)
set_option maxRecDepth 20000 in
set_option maxHeartbeats 4000000 in
theorem t_M_readsDust_b24 {u : Mem} {s0 : Int32} {Q : Int32 → Mem → Prop} (h : w_M_readsDust_b24 s0 u Q) : a_M_readsDust l D ad cI cZ cS rs A0 (jWi Q) 24 [(0, .ref (ad 0))] [.int s0] u := by
  unfold w_M_readsDust_b24 at h
  refine J_istore_n (lv' := [(1, .int s0), (0, .ref (ad 0))]) dX11_readsDust_24 rfl (Nat.le_of_ble_eq_true rfl) rfl ?_
  obtain ⟨n6, h⟩ := h
  refine J_sub (lv' := [(0, .ref (ad 0)), (1, .int s0)]) [1, 0] rfl (t_M_readsDust_l25 ?_ n6 s0 u h)
  · intro u5 h
    refine J_iconst (v := (-1)) dX11_readsDust_106 ci_m1 ?_
    exact J_iret rfl dX11_readsDust_107 ⟨_, rfl, h⟩
set_option maxRecDepth 20000 in
set_option maxHeartbeats 4000000 in
theorem c_M_readsDust {u : Mem} {Q : Int32 → Mem → Prop} (h : w_M_readsDust u Q) : MM l D ad cI cZ cS rs A0 yX11_readsDust cX11_readsDust 3 (some .int) 3 [.ref (ad 0)] u (jWi Q) := by
  unfold w_M_readsDust at h
  refine JMet.of (by decide) (Nat.le_of_ble_eq_true rfl) ?_
  refine J_sub (lv' := [(0, .ref (ad 0))]) [0] rfl ?_
  show a_M_readsDust l D ad cI cZ cS rs A0 (jWi Q) 0 [(0, .ref (ad 0))] [] u
  refine J_aload_n 0 dX11_readsDust_0 rfl rfl ?_
  refine J_iconst (v := 0) dX11_readsDust_1 ci_0 ?_
  refine pM_0_7 dX11_readsDust_2 ?_
  refine J_aload_n 0 dX11_readsDust_5 rfl rfl ?_
  refine J_iconst (v := 0) dX11_readsDust_6 ci_0 ?_
  refine pM_0_10 dX11_readsDust_7 ?_
  refine J_aload_n 0 dX11_readsDust_10 rfl rfl ?_
  refine gM_0_6 dX11_readsDust_11 ?_
  refine J_iconst (v := 1) dX11_readsDust_14 ci_1 ?_
  refine lM_5 (v := (u.2 5 (1 : Int32).toNatClampNeg)) h.1 rfl dX11_readsDust_15 ?_
  have h := h.2
  refine J_if_le (tgt := 23) dX11_readsDust_16 rfl (fun c => ?_) (fun c => ?_)
  · have h := h.1 c
    refine J_iconst (v := 0) dX11_readsDust_23 ci_0 ?_
    exact (t_M_readsDust_b24 h)
  · have h := h.2 c
    refine J_iconst (v := 1) dX11_readsDust_19 ci_1 ?_
    refine J_goto (tgt := 24) dX11_readsDust_20 rfl ?_
    exact (t_M_readsDust_b24 h)
abbrev a_M_holds (l : Launch) (D : va_G) (ad : Nat → Nat) (cI cZ cS : ClassId) (rs : va_W) (A0 : Nat → Prop) := AM l D ad cI cZ cS rs A0 cX11_holds 3 (some .boolean) RX11 0
set_option maxRecDepth 20000 in
set_option maxHeartbeats 4000000 in
theorem c_M_holds {u : Mem} {x1 : Int32} {x2 : Int32} {Q : Int32 → Prop} (h : w_M_holds x1 x2 u Q) : MM l D ad cI cZ cS rs A0 yX11_holds cX11_holds 3 (some .boolean) 0 [.ref (ad 0), .int x1, .int x2] u (jRi u Q) := by
  unfold w_M_holds at h
  refine JMet.of (by decide) (Nat.le_of_ble_eq_true rfl) ?_
  refine J_sub (lv' := [(0, .ref (ad 0)), (1, .int x1), (2, .int x2)]) [0, 1, 2] rfl ?_
  show a_M_holds l D ad cI cZ cS rs A0 (jRi u Q) 0 [(0, .ref (ad 0)), (1, .int x1), (2, .int x2)] [] u
  refine J_aload_n 0 dX11_holds_0 rfl rfl ?_
  refine gM_0_9 dX11_holds_1 ?_
  refine J_iconst (v := 3) dX11_holds_4 ci_3 ?_
  refine J_iload_n 1 dX11_holds_5 rfl rfl ?_
  refine J_imul dX11_holds_6 ?_
  refine lM_6 (v := (u.2 6 (3 * x1).toNatClampNeg)) h.1 rfl dX11_holds_7 ?_
  have h := h.2
  refine J_iload_n 2 dX11_holds_8 rfl rfl ?_
  refine J_iconst (v := (-1)) dX11_holds_9 ci_m1 ?_
  refine J_ixor dX11_holds_10 ?_
  refine J_iand dX11_holds_11 ?_
  refine J_if_ne (tgt := 19) dX11_holds_12 rfl (fun c => ?_) (fun c => ?_)
  · have h := h.1 c
    refine J_iconst (v := 0) dX11_holds_19 ci_0 ?_
    exact J_zret rfl dX11_holds_20 (bz_n bz_0) ⟨rfl, _, rfl, h⟩
  · have h := h.2 c
    refine J_iconst (v := 1) dX11_holds_15 ci_1 ?_
    refine J_goto (tgt := 20) dX11_holds_16 rfl ?_
    exact J_zret rfl dX11_holds_20 (bz_n bz_1) ⟨rfl, _, rfl, h⟩
abbrev a_M_heldBy (l : Launch) (D : va_G) (ad : Nat → Nat) (cI cZ cS : ClassId) (rs : va_W) (A0 : Nat → Prop) := AM l D ad cI cZ cS rs A0 cX11_heldBy 5 (some .int) RX11 1
set_option maxRecDepth 20000 in
set_option maxHeartbeats 4000000 in
theorem t_M_heldBy_b57 {u : Mem} {R : Int32 → Int32 → Prop} {X : Int32 → Prop} {x1 : Int32} {x2 : Int32} {x4 : Int32} {s0 : Int32} {s1 : Int32} {Q : Int32 → Prop} (hR : ∀ (z3 : Int32) (z4 : Int32), R z3 z4 → a_M_heldBy l D ad cI cZ cS rs A0 (jRi u Q) 5 [(0, .ref (ad 0)), (1, .int x1), (2, .int x2), (3, .int z3), (4, .int z4)] [] u) (hX : ∀ (z3 : Int32), X z3 → a_M_heldBy l D ad cI cZ cS rs A0 (jRi u Q) 65 [(3, .int z3)] [] u) (h : w_M_heldBy_b57 R X x1 x2 x4 s0 s1 u Q) : a_M_heldBy l D ad cI cZ cS rs A0 (jRi u Q) 57 [(0, .ref (ad 0)), (1, .int x1), (2, .int x2), (4, .int x4)] [.int s0, .int s1] u := by
  unfold w_M_heldBy_b57 at h
  refine J_ior dX11_heldBy_57 ?_
  refine J_istore_n (lv' := [(3, .int (s1 ||| s0)), (0, .ref (ad 0)), (1, .int x1), (2, .int x2), (4, .int x4)]) dX11_heldBy_58 rfl (Nat.le_of_ble_eq_true rfl) rfl ?_
  refine J_iinc (v := (x4 + 1)) (lv' := [(4, .int (x4 + 1)), (3, .int (s1 ||| s0)), (0, .ref (ad 0)), (1, .int x1), (2, .int x2)]) 4 dX11_heldBy_59 rfl rfl (Nat.le_of_ble_eq_true rfl) rfl ?_
  refine J_goto (tgt := 5) dX11_heldBy_62 rfl ?_
  exact J_sub (lv' := [(0, .ref (ad 0)), (1, .int x1), (2, .int x2), (3, .int (s1 ||| s0)), (4, .int (x4 + 1))]) [2, 3, 4, 1, 0] rfl (hR (s1 ||| s0) (x4 + 1) h)
set_option maxRecDepth 20000 in
set_option maxHeartbeats 4000000 in
theorem t_M_heldBy_b56 {u : Mem} {R : Int32 → Int32 → Prop} {X : Int32 → Prop} {x1 : Int32} {x2 : Int32} {x4 : Int32} {s0 : Int32} {Q : Int32 → Prop} (hR : ∀ (z3 : Int32) (z4 : Int32), R z3 z4 → a_M_heldBy l D ad cI cZ cS rs A0 (jRi u Q) 5 [(0, .ref (ad 0)), (1, .int x1), (2, .int x2), (3, .int z3), (4, .int z4)] [] u) (hX : ∀ (z3 : Int32), X z3 → a_M_heldBy l D ad cI cZ cS rs A0 (jRi u Q) 65 [(3, .int z3)] [] u) (h : w_M_heldBy_b56 R X x1 x2 x4 s0 u Q) : a_M_heldBy l D ad cI cZ cS rs A0 (jRi u Q) 56 [(0, .ref (ad 0)), (1, .int x1), (2, .int x2), (4, .int x4)] [.int s0] u := by
  unfold w_M_heldBy_b56 at h
  refine J_iconst (v := 0) dX11_heldBy_56 ci_0 ?_
  exact (t_M_heldBy_b57 hR hX h)
set_option maxRecDepth 20000 in
set_option maxHeartbeats 4000000 in
theorem t_M_heldBy_l5 {u : Mem}  {X : Int32 → Prop} {x1 : Int32} {x2 : Int32} {Q : Int32 → Prop} (hX : ∀ (x3 : Int32), X x3 → a_M_heldBy l D ad cI cZ cS rs A0 (jRi u Q) 65 [(3, .int x3)] [] u) : ∀ (n : Nat) (x3 : Int32) (x4 : Int32), w_M_heldBy_l5 X x1 x2 u Q n x3 x4 → a_M_heldBy l D ad cI cZ cS rs A0 (jRi u Q) 5 [(0, .ref (ad 0)), (1, .int x1), (2, .int x2), (3, .int x3), (4, .int x4)] [] u := by
  intro n
  induction n with
  | zero =>
    intro x3 x4 h
    exact (by simp only [w_M_heldBy_l5] at h : False).elim
  | succ n ih =>
    intro x3 x4 h
    rw [w_M_heldBy_l5] at h
    refine J_iload 4 dX11_heldBy_5 rfl ?_
    refine J_aload_n 0 dX11_heldBy_7 rfl rfl ?_
    refine gM_0_8 (v := (u.1 2)) rfl dX11_heldBy_8 ?_
    refine J_icmp_ge (tgt := 65) dX11_heldBy_11 rfl (fun c => ?_) (fun c => ?_)
    · have h := h.1 c
      exact J_sub (lv' := [(3, .int x3)]) [3] rfl (hX x3 h)
    · have h := h.2 c
      refine J_iload_n 3 dX11_heldBy_14 rfl rfl ?_
      refine J_aload_n 0 dX11_heldBy_15 rfl rfl ?_
      refine gM_0_9 dX11_heldBy_16 ?_
      refine J_iconst (v := 3) dX11_heldBy_19 ci_3 ?_
      refine J_iload 4 dX11_heldBy_20 rfl ?_
      refine J_imul dX11_heldBy_22 ?_
      refine J_iconst (v := 1) dX11_heldBy_23 ci_1 ?_
      refine J_iadd dX11_heldBy_24 ?_
      refine lM_6 (v := (u.2 6 ((3 * x4) + 1).toNatClampNeg)) h.1 rfl dX11_heldBy_25 ?_
      have h := h.2
      refine J_iload_n 2 dX11_heldBy_26 rfl rfl ?_
      refine J_icmp_ne (tgt := 56) dX11_heldBy_27 rfl (fun c => ?_) (fun c => ?_)
      · have h := h.1 c
        exact J_sub (lv' := [(0, .ref (ad 0)), (1, .int x1), (2, .int x2), (4, .int x4)]) [0, 1, 2, 4] rfl (t_M_heldBy_b56 ih hX h)
      · have h := h.2 c
        refine J_aload_n 0 dX11_heldBy_30 rfl rfl ?_
        refine J_iload 4 dX11_heldBy_31 rfl ?_
        refine J_iload_n 1 dX11_heldBy_33 rfl rfl ?_
        refine JV_Ri kV_RX11_128 0 rM_0 rfl rfl (c_M_holds h) rfl rfl (by decide) (Nat.le_of_ble_eq_true rfl) dX11_heldBy_34 (fun r1 h => ?_)
        refine J_if_eq (tgt := 56) dX11_heldBy_37 rfl (fun c => ?_) (fun c => ?_)
        · have h := h.1 c
          exact J_sub (lv' := [(0, .ref (ad 0)), (1, .int x1), (2, .int x2), (4, .int x4)]) [0, 1, 2, 4] rfl (t_M_heldBy_b56 ih hX h)
        · have h := h.2 c
          refine J_iconst (v := 1) dX11_heldBy_40 ci_1 ?_
          refine J_aload_n 0 dX11_heldBy_41 rfl rfl ?_
          refine gM_0_9 dX11_heldBy_42 ?_
          refine J_iconst (v := 3) dX11_heldBy_45 ci_3 ?_
          refine J_iload 4 dX11_heldBy_46 rfl ?_
          refine J_imul dX11_heldBy_48 ?_
          refine J_iconst (v := 2) dX11_heldBy_49 ci_2 ?_
          refine J_iadd dX11_heldBy_50 ?_
          refine lM_6 (v := (u.2 6 ((3 * x4) + 2).toNatClampNeg)) h.1 rfl dX11_heldBy_51 ?_
          have h := h.2
          refine J_ishl dX11_heldBy_52 ?_
          refine J_goto (tgt := 57) dX11_heldBy_53 rfl ?_
          exact J_sub (lv' := [(0, .ref (ad 0)), (1, .int x1), (2, .int x2), (4, .int x4)]) [0, 1, 2, 4] rfl (t_M_heldBy_b57 ih hX h)
set_option maxRecDepth 20000 in
set_option maxHeartbeats 4000000 in
theorem c_M_heldBy {u : Mem} {x1 : Int32} {x2 : Int32} {Q : Int32 → Prop} (h : w_M_heldBy x1 x2 u Q) : MM l D ad cI cZ cS rs A0 yX11_heldBy cX11_heldBy 5 (some .int) 1 [.ref (ad 0), .int x1, .int x2] u (jRi u Q) := by
  unfold w_M_heldBy at h
  refine JMet.of (by decide) (Nat.le_of_ble_eq_true rfl) ?_
  refine J_sub (lv' := [(0, .ref (ad 0)), (1, .int x1), (2, .int x2)]) [0, 1, 2] rfl ?_
  show a_M_heldBy l D ad cI cZ cS rs A0 (jRi u Q) 0 [(0, .ref (ad 0)), (1, .int x1), (2, .int x2)] [] u
  refine J_iconst (v := 0) dX11_heldBy_0 ci_0 ?_
  refine J_istore_n (lv' := [(3, .int 0), (0, .ref (ad 0)), (1, .int x1), (2, .int x2)]) dX11_heldBy_1 rfl (Nat.le_of_ble_eq_true rfl) rfl ?_
  refine J_iconst (v := 0) dX11_heldBy_2 ci_0 ?_
  refine J_istore (lv' := [(4, .int 0), (3, .int 0), (0, .ref (ad 0)), (1, .int x1), (2, .int x2)]) dX11_heldBy_3 (Nat.le_of_ble_eq_true rfl) rfl ?_
  obtain ⟨n4, h⟩ := h
  refine J_sub (lv' := [(0, .ref (ad 0)), (1, .int x1), (2, .int x2), (3, .int 0), (4, .int 0)]) [2, 3, 4, 1, 0] rfl (t_M_heldBy_l5 ?_ n4 0 0 h)
  · intro z3 h
    refine J_iload_n 0 dX11_heldBy_65 rfl rfl ?_
    exact J_iret rfl dX11_heldBy_66 ⟨rfl, _, rfl, h⟩
abbrev a_M_reads (l : Launch) (D : va_G) (ad : Nat → Nat) (cI cZ cS : ClassId) (rs : va_W) (A0 : Nat → Prop) := AM l D ad cI cZ cS rs A0 cX11_reads 3 none RX11 4
set_option maxRecDepth 20000 in
set_option maxHeartbeats 4000000 in
theorem t_M_reads_b95 {u : Mem} {R : Int32 → Mem → Prop} {X : Mem → Prop} {x1 : Int32} {x2 : Int32} {s0 : Int32} {s1 : Int32} {s2 : Int32} {Q : Mem → Prop} (hR : ∀ (z2 : Int32) (u : Mem), R z2 u → a_M_reads l D ad cI cZ cS rs A0 (jWv Q) 49 [(0, .ref (ad 0)), (1, .int x1), (2, .int z2)] [] u) (hX : ∀ (u : Mem), X u → a_M_reads l D ad cI cZ cS rs A0 (jWv Q) 103 [(0, .ref (ad 0)), (1, .int x1)] [] u) (h : w_M_reads_b95 R X x1 x2 s0 s1 s2 u Q) : a_M_reads l D ad cI cZ cS rs A0 (jWv Q) 95 [(0, .ref (ad 0)), (1, .int x1), (2, .int x2)] [.int s0, .int s1, .int s2, .ref (ad 10)] u := by
  unfold w_M_reads_b95 at h
  refine J_ior dX11_reads_95 ?_
  refine tM_9 h.1 dX11_reads_96 ?_
  have h := h.2
  refine J_iinc (v := (x2 + 1)) (lv' := [(2, .int (x2 + 1)), (0, .ref (ad 0)), (1, .int x1)]) 2 dX11_reads_97 rfl rfl (Nat.le_of_ble_eq_true rfl) rfl ?_
  refine J_goto (tgt := 49) dX11_reads_100 rfl ?_
  exact J_sub (lv' := [(0, .ref (ad 0)), (1, .int x1), (2, .int (x2 + 1))]) [1, 2, 0] rfl (hR (x2 + 1) (sA u 9 s2.toNatClampNeg (s1 ||| s0)) h)
set_option maxRecDepth 20000 in
set_option maxHeartbeats 4000000 in
theorem t_M_reads_l49  {X : Mem → Prop} {x1 : Int32} {Q : Mem → Prop} (hX : ∀ (u : Mem), X u → a_M_reads l D ad cI cZ cS rs A0 (jWv Q) 103 [(0, .ref (ad 0)), (1, .int x1)] [] u) : ∀ (n : Nat) (x2 : Int32) (u : Mem), w_M_reads_l49 X x1 Q n x2 u → a_M_reads l D ad cI cZ cS rs A0 (jWv Q) 49 [(0, .ref (ad 0)), (1, .int x1), (2, .int x2)] [] u := by
  intro n
  induction n with
  | zero =>
    intro x2 u h
    exact (by simp only [w_M_reads_l49] at h : False).elim
  | succ n ih =>
    intro x2 u h
    rw [w_M_reads_l49] at h
    refine J_iload_n 2 dX11_reads_49 rfl rfl ?_
    refine J_aload_n 0 dX11_reads_50 rfl rfl ?_
    refine gM_0_10 (v := (u.1 3)) rfl dX11_reads_51 ?_
    refine J_icmp_ge (tgt := 103) dX11_reads_54 rfl (fun c => ?_) (fun c => ?_)
    · have h := h.1 c
      exact J_sub (lv' := [(0, .ref (ad 0)), (1, .int x1)]) [0, 1] rfl (hX u h)
    · have h := h.2 c
      refine J_aload_n 0 dX11_reads_57 rfl rfl ?_
      refine gM_0_13 dX11_reads_58 ?_
      refine J_iload_n 1 dX11_reads_61 rfl rfl ?_
      refine J_dup2 dX11_reads_62 rfl rfl ?_
      refine lM_9 (v := (u.2 9 x1.toNatClampNeg)) h.1 rfl dX11_reads_63 ?_
      have h := h.2
      refine J_iload_n 1 dX11_reads_64 rfl rfl ?_
      refine J_aload_n 0 dX11_reads_65 rfl rfl ?_
      refine gM_0_11 dX11_reads_66 ?_
      refine J_iconst (v := 2) dX11_reads_69 ci_2 ?_
      refine J_iload_n 2 dX11_reads_70 rfl rfl ?_
      refine J_imul dX11_reads_71 ?_
      refine lM_7 (v := (u.2 7 (2 * x2).toNatClampNeg)) h.1 rfl dX11_reads_72 ?_
      have h := h.2
      refine JS_Ri kS_RX11_142 (c_M_isIn h) rfl rfl (by decide) (Nat.le_of_ble_eq_true rfl) dX11_reads_73 (fun r9 h => ?_)
      refine J_if_eq (tgt := 94) dX11_reads_76 rfl (fun c => ?_) (fun c => ?_)
      · have h := h.1 c
        refine J_iconst (v := 0) dX11_reads_94 ci_0 ?_
        exact (t_M_reads_b95 ih hX h)
      · have h := h.2 c
        refine J_iconst (v := 1) dX11_reads_79 ci_1 ?_
        refine J_aload_n 0 dX11_reads_80 rfl rfl ?_
        refine gM_0_11 dX11_reads_81 ?_
        refine J_iconst (v := 2) dX11_reads_84 ci_2 ?_
        refine J_iload_n 2 dX11_reads_85 rfl rfl ?_
        refine J_imul dX11_reads_86 ?_
        refine J_iconst (v := 1) dX11_reads_87 ci_1 ?_
        refine J_iadd dX11_reads_88 ?_
        refine lM_7 (v := (u.2 7 ((2 * x2) + 1).toNatClampNeg)) h.1 rfl dX11_reads_89 ?_
        have h := h.2
        refine J_ishl dX11_reads_90 ?_
        refine J_goto (tgt := 95) dX11_reads_91 rfl ?_
        exact (t_M_reads_b95 ih hX h)
set_option maxRecDepth 20000 in
set_option maxHeartbeats 4000000 in
theorem t_M_reads_l12  {X : Mem → Prop} {Q : Mem → Prop} (hX : ∀ (u : Mem), X u → a_M_reads l D ad cI cZ cS rs A0 (jWv Q) 109 [] [] u) : ∀ (n : Nat) (x1 : Int32) (u : Mem), w_M_reads_l12 X Q n x1 u → a_M_reads l D ad cI cZ cS rs A0 (jWv Q) 12 [(0, .ref (ad 0)), (1, .int x1)] [] u := by
  intro n
  induction n with
  | zero =>
    intro x1 u h
    exact (by simp only [w_M_reads_l12] at h : False).elim
  | succ n ih =>
    intro x1 u h
    rw [w_M_reads_l12] at h
    refine J_iload_n 1 dX11_reads_12 rfl rfl ?_
    refine J_sipush (v := 256) dX11_reads_13 cs_256 ?_
    refine J_icmp_ge (tgt := 109) dX11_reads_16 rfl (fun c => ?_) (fun c => ?_)
    · have h := h.1 c
      exact J_sub (lv' := []) [] rfl (hX u h)
    · have h := h.2 c
      refine J_aload_n 0 dX11_reads_19 rfl rfl ?_
      refine gM_0_12 dX11_reads_20 ?_
      refine J_iload_n 1 dX11_reads_23 rfl rfl ?_
      refine J_aload_n 0 dX11_reads_24 rfl rfl ?_
      refine J_iload_n 1 dX11_reads_25 rfl rfl ?_
      refine J_iconst (v := 1) dX11_reads_26 ci_1 ?_
      refine JV_Ri kV_RX11_139 0 rM_0 rfl rfl (c_M_heldBy h) rfl rfl (by decide) (Nat.le_of_ble_eq_true rfl) dX11_reads_27 (fun r5 h => ?_)
      refine J_aload_n 0 dX11_reads_30 rfl rfl ?_
      refine J_iload_n 1 dX11_reads_31 rfl rfl ?_
      refine J_iconst (v := 0) dX11_reads_32 ci_0 ?_
      refine JV_Ri kV_RX11_139 0 rM_0 rfl rfl (c_M_heldBy h) rfl rfl (by decide) (Nat.le_of_ble_eq_true rfl) dX11_reads_33 (fun r7 h => ?_)
      refine J_iconst (v := (-1)) dX11_reads_36 ci_m1 ?_
      refine J_ixor dX11_reads_37 ?_
      refine J_iand dX11_reads_38 ?_
      refine tM_8 h.1 dX11_reads_39 ?_
      have h := h.2
      refine J_aload_n 0 dX11_reads_40 rfl rfl ?_
      refine gM_0_13 dX11_reads_41 ?_
      refine J_iload_n 1 dX11_reads_44 rfl rfl ?_
      refine J_iconst (v := 0) dX11_reads_45 ci_0 ?_
      refine tM_9 h.1 dX11_reads_46 ?_
      have h := h.2
      refine J_iconst (v := 0) dX11_reads_47 ci_0 ?_
      refine J_istore_n (lv' := [(2, .int 0), (0, .ref (ad 0)), (1, .int x1)]) dX11_reads_48 rfl (Nat.le_of_ble_eq_true rfl) rfl ?_
      obtain ⟨n12, h⟩ := h
      refine J_sub (lv' := [(0, .ref (ad 0)), (1, .int x1), (2, .int 0)]) [1, 2, 0] rfl (t_M_reads_l49 ?_ n12 0 (sA (sA u 8 x1.toNatClampNeg (r5 &&& (r7 ^^^ (-1)))) 9 x1.toNatClampNeg 0) h)
      · intro u11 h
        refine J_iinc (v := (x1 + 1)) (lv' := [(1, .int (x1 + 1)), (0, .ref (ad 0))]) 1 dX11_reads_103 rfl rfl (Nat.le_of_ble_eq_true rfl) rfl ?_
        refine J_goto (tgt := 12) dX11_reads_106 rfl ?_
        exact J_sub (lv' := [(0, .ref (ad 0)), (1, .int (x1 + 1))]) [1, 0] rfl (ih (x1 + 1) u11 h)
set_option maxRecDepth 20000 in
set_option maxHeartbeats 4000000 in
theorem c_M_reads {u : Mem} {Q : Mem → Prop} (h : w_M_reads u Q) : MM l D ad cI cZ cS rs A0 yX11_reads cX11_reads 3 none 4 [.ref (ad 0)] u (jWv Q) := by
  unfold w_M_reads at h
  refine JMet.of (by decide) (Nat.le_of_ble_eq_true rfl) ?_
  refine J_sub (lv' := [(0, .ref (ad 0))]) [0] rfl ?_
  show a_M_reads l D ad cI cZ cS rs A0 (jWv Q) 0 [(0, .ref (ad 0))] [] u
  refine J_aload_n 0 dX11_reads_0 rfl rfl ?_
  refine JV_Wi kV_RX11_132 0 rM_0 rfl rfl (c_M_readsLaws h) rfl rfl (by decide) (Nat.le_of_ble_eq_true rfl) dX11_reads_1 (fun r1 u2 h => ?_)
  refine J_pop dX11_reads_4 rfl ?_
  refine J_aload_n 0 dX11_reads_5 rfl rfl ?_
  refine JV_Wi kV_RX11_136 0 rM_0 rfl rfl (c_M_readsDust h) rfl rfl (by decide) (Nat.le_of_ble_eq_true rfl) dX11_reads_6 (fun r3 u4 h => ?_)
  refine J_pop dX11_reads_9 rfl ?_
  refine J_iconst (v := 0) dX11_reads_10 ci_0 ?_
  refine J_istore_n (lv' := [(1, .int 0), (0, .ref (ad 0))]) dX11_reads_11 rfl (Nat.le_of_ble_eq_true rfl) rfl ?_
  obtain ⟨n14, h⟩ := h
  refine J_sub (lv' := [(0, .ref (ad 0)), (1, .int 0)]) [1, 0] rfl (t_M_reads_l12 ?_ n14 0 u4 h)
  · intro u13 h
    exact J_vret rfl dX11_reads_109 ⟨rfl, h⟩
abbrev a_M_fault (l : Launch) (D : va_G) (ad : Nat → Nat) (cI cZ cS : ClassId) (rs : va_W) (A0 : Nat → Prop) := AM l D ad cI cZ cS rs A0 cX11_fault 2 (some .int) RX11 4
set_option maxRecDepth 20000 in
set_option maxHeartbeats 4000000 in
theorem c_M_fault {u : Mem} {x1 : Int32} {Q : Int32 → Mem → Prop} (h : w_M_fault x1 u Q) : MM l D ad cI cZ cS rs A0 yX11_fault cX11_fault 2 (some .int) 4 [.ref (ad 0), .int x1] u (jWi Q) := by
  unfold w_M_fault at h
  refine JMet.of (by decide) (Nat.le_of_ble_eq_true rfl) ?_
  refine J_sub (lv' := [(0, .ref (ad 0)), (1, .int x1)]) [0, 1] rfl ?_
  show a_M_fault l D ad cI cZ cS rs A0 (jWi Q) 0 [(0, .ref (ad 0)), (1, .int x1)] [] u
  refine J_iload_n 1 dX11_fault_0 rfl rfl ?_
  refine JS_Ri kS_RX11_90 (c_M_isTwo h) rfl rfl (by decide) (Nat.le_of_ble_eq_true rfl) dX11_fault_1 (fun r1 h => ?_)
  refine J_if_ne (tgt := 12) dX11_fault_4 rfl (fun c => ?_) (fun c => ?_)
  · have h := h.1 c
    refine J_iload_n 1 dX11_fault_12 rfl rfl ?_
    refine J_if_ne (tgt := 23) dX11_fault_13 rfl (fun c => ?_) (fun c => ?_)
    · have h := h.1 c
      refine J_aload_n 0 dX11_fault_23 rfl rfl ?_
      refine JV_Wi kV_RX11_136 0 rM_0 rfl rfl (c_M_readsDust h) rfl rfl (by decide) (Nat.le_of_ble_eq_true rfl) dX11_fault_24 (fun r3 u4 h => ?_)
      exact J_iret rfl dX11_fault_27 ⟨_, rfl, h⟩
    · have h := h.2 c
      refine J_aload_n 0 dX11_fault_16 rfl rfl ?_
      refine JV_Wi kV_RX11_132 0 rM_0 rfl rfl (c_M_readsLaws h) rfl rfl (by decide) (Nat.le_of_ble_eq_true rfl) dX11_fault_17 (fun r5 u6 h => ?_)
      refine J_goto (tgt := 27) dX11_fault_20 rfl ?_
      exact J_iret rfl dX11_fault_27 ⟨_, rfl, h⟩
  · have h := h.2 c
    refine J_bipush (v := (-2)) dX11_fault_7 cb_m2 ?_
    refine J_goto (tgt := 27) dX11_fault_9 rfl ?_
    exact J_iret rfl dX11_fault_27 ⟨_, rfl, h⟩
abbrev a_M_rule (l : Launch) (D : va_G) (ad : Nat → Nat) (cI cZ cS : ClassId) (rs : va_W) (A0 : Nat → Prop) := AM l D ad cI cZ cS rs A0 cX11_rule 3 (some .int) RX11 4
set_option maxRecDepth 20000 in
set_option maxHeartbeats 4000000 in
theorem c_M_rule {u : Mem} {x1 : Int32} {x2 : Int32} {Q : Int32 → Mem → Prop} (h : w_M_rule x1 x2 u Q) : MM l D ad cI cZ cS rs A0 yX11_rule cX11_rule 3 (some .int) 4 [.ref (ad 0), .int x1, .int x2] u (jWi Q) := by
  unfold w_M_rule at h
  refine JMet.of (by decide) (Nat.le_of_ble_eq_true rfl) ?_
  refine J_sub (lv' := [(0, .ref (ad 0)), (1, .int x1), (2, .int x2)]) [0, 1, 2] rfl ?_
  show a_M_rule l D ad cI cZ cS rs A0 (jWi Q) 0 [(0, .ref (ad 0)), (1, .int x1), (2, .int x2)] [] u
  refine J_aload_n 0 dX11_rule_0 rfl rfl ?_
  refine JV_Wi kV_RX11_132 0 rM_0 rfl rfl (c_M_readsLaws h) rfl rfl (by decide) (Nat.le_of_ble_eq_true rfl) dX11_rule_1 (fun r1 u2 h => ?_)
  refine J_pop dX11_rule_4 rfl ?_
  refine J_iload_n 1 dX11_rule_5 rfl rfl ?_
  refine J_i2l dX11_rule_6 ?_
  refine J_lconst (v := 0) dX11_rule_7 rfl ?_
  refine J_aload_n 0 dX11_rule_8 rfl rfl ?_
  refine gM_0_8 (v := (u2.1 2)) rfl dX11_rule_9 ?_
  refine J_iconst (v := 1) dX11_rule_12 ci_1 ?_
  refine J_isub dX11_rule_13 ?_
  refine J_i2l dX11_rule_14 ?_
  refine JS_Ri kS_RX11_61 (c_M_in h) rfl rfl (by decide) (Nat.le_of_ble_eq_true rfl) dX11_rule_15 (fun r3 h => ?_)
  refine J_if_eq (tgt := 46) dX11_rule_18 rfl (fun c => ?_) (fun c => ?_)
  · have h := h.1 c
    refine J_bipush (v := (-2)) dX11_rule_46 cb_m2 ?_
    exact J_iret rfl dX11_rule_48 ⟨_, rfl, h⟩
  · have h := h.2 c
    refine J_iload_n 2 dX11_rule_21 rfl rfl ?_
    refine J_i2l dX11_rule_22 ?_
    refine J_lconst (v := 0) dX11_rule_23 rfl ?_
    refine J_ldc2 (v := 2) dX11_rule_24 kk_RX11_75 ?_
    refine JS_Ri kS_RX11_61 (c_M_in h) rfl rfl (by decide) (Nat.le_of_ble_eq_true rfl) dX11_rule_27 (fun r5 h => ?_)
    refine J_if_eq (tgt := 46) dX11_rule_30 rfl (fun c => ?_) (fun c => ?_)
    · have h := h.1 c
      refine J_bipush (v := (-2)) dX11_rule_46 cb_m2 ?_
      exact J_iret rfl dX11_rule_48 ⟨_, rfl, h⟩
    · have h := h.2 c
      refine J_aload_n 0 dX11_rule_33 rfl rfl ?_
      refine gM_0_9 dX11_rule_34 ?_
      refine J_iconst (v := 3) dX11_rule_37 ci_3 ?_
      refine J_iload_n 1 dX11_rule_38 rfl rfl ?_
      refine J_imul dX11_rule_39 ?_
      refine J_iload_n 2 dX11_rule_40 rfl rfl ?_
      refine J_iadd dX11_rule_41 ?_
      refine lM_6 (v := (u2.2 6 ((3 * x1) + x2).toNatClampNeg)) h.1 rfl dX11_rule_42 ?_
      have h := h.2
      refine J_goto (tgt := 48) dX11_rule_43 rfl ?_
      exact J_iret rfl dX11_rule_48 ⟨_, rfl, h⟩
abbrev a_M_dust (l : Launch) (D : va_G) (ad : Nat → Nat) (cI cZ cS : ClassId) (rs : va_W) (A0 : Nat → Prop) := AM l D ad cI cZ cS rs A0 cX11_dust 3 (some .int) RX11 4
set_option maxRecDepth 20000 in
set_option maxHeartbeats 4000000 in
theorem c_M_dust {u : Mem} {x1 : Int32} {x2 : Int32} {Q : Int32 → Mem → Prop} (h : w_M_dust x1 x2 u Q) : MM l D ad cI cZ cS rs A0 yX11_dust cX11_dust 3 (some .int) 4 [.ref (ad 0), .int x1, .int x2] u (jWi Q) := by
  unfold w_M_dust at h
  refine JMet.of (by decide) (Nat.le_of_ble_eq_true rfl) ?_
  refine J_sub (lv' := [(0, .ref (ad 0)), (1, .int x1), (2, .int x2)]) [0, 1, 2] rfl ?_
  show a_M_dust l D ad cI cZ cS rs A0 (jWi Q) 0 [(0, .ref (ad 0)), (1, .int x1), (2, .int x2)] [] u
  refine J_aload_n 0 dX11_dust_0 rfl rfl ?_
  refine JV_Wi kV_RX11_136 0 rM_0 rfl rfl (c_M_readsDust h) rfl rfl (by decide) (Nat.le_of_ble_eq_true rfl) dX11_dust_1 (fun r1 u2 h => ?_)
  refine J_pop dX11_dust_4 rfl ?_
  refine J_iload_n 1 dX11_dust_5 rfl rfl ?_
  refine J_i2l dX11_dust_6 ?_
  refine J_lconst (v := 0) dX11_dust_7 rfl ?_
  refine J_aload_n 0 dX11_dust_8 rfl rfl ?_
  refine gM_0_10 (v := (u2.1 3)) rfl dX11_dust_9 ?_
  refine J_iconst (v := 1) dX11_dust_12 ci_1 ?_
  refine J_isub dX11_dust_13 ?_
  refine J_i2l dX11_dust_14 ?_
  refine JS_Ri kS_RX11_61 (c_M_in h) rfl rfl (by decide) (Nat.le_of_ble_eq_true rfl) dX11_dust_15 (fun r3 h => ?_)
  refine J_if_eq (tgt := 41) dX11_dust_18 rfl (fun c => ?_) (fun c => ?_)
  · have h := h.1 c
    refine J_bipush (v := (-2)) dX11_dust_41 cb_m2 ?_
    exact J_iret rfl dX11_dust_43 ⟨_, rfl, h⟩
  · have h := h.2 c
    refine J_iload_n 2 dX11_dust_21 rfl rfl ?_
    refine JS_Ri kS_RX11_90 (c_M_isTwo h) rfl rfl (by decide) (Nat.le_of_ble_eq_true rfl) dX11_dust_22 (fun r5 h => ?_)
    refine J_if_eq (tgt := 41) dX11_dust_25 rfl (fun c => ?_) (fun c => ?_)
    · have h := h.1 c
      refine J_bipush (v := (-2)) dX11_dust_41 cb_m2 ?_
      exact J_iret rfl dX11_dust_43 ⟨_, rfl, h⟩
    · have h := h.2 c
      refine J_aload_n 0 dX11_dust_28 rfl rfl ?_
      refine gM_0_11 dX11_dust_29 ?_
      refine J_iconst (v := 2) dX11_dust_32 ci_2 ?_
      refine J_iload_n 1 dX11_dust_33 rfl rfl ?_
      refine J_imul dX11_dust_34 ?_
      refine J_iload_n 2 dX11_dust_35 rfl rfl ?_
      refine J_iadd dX11_dust_36 ?_
      refine lM_7 (v := (u2.2 7 ((2 * x1) + x2).toNatClampNeg)) h.1 rfl dX11_dust_37 ?_
      have h := h.2
      refine J_goto (tgt := 43) dX11_dust_38 rfl ?_
      exact J_iret rfl dX11_dust_43 ⟨_, rfl, h⟩
abbrev a_M_isSet (l : Launch) (D : va_G) (ad : Nat → Nat) (cI cZ cS : ClassId) (rs : va_W) (A0 : Nat → Prop) := AM l D ad cI cZ cS rs A0 cX11_isSet 1 (some .boolean) RX11 1
set_option maxRecDepth 20000 in
set_option maxHeartbeats 4000000 in
theorem c_M_isSet {u : Mem} {x0 : Int32} {Q : Int32 → Prop} (h : w_M_isSet x0 Q) : MM l D ad cI cZ cS rs A0 yX11_isSet cX11_isSet 1 (some .boolean) 1 [.int x0] u (jRi u Q) := by
  unfold w_M_isSet at h
  refine JMet.of (by decide) (Nat.le_of_ble_eq_true rfl) ?_
  refine J_sub (lv' := [(0, .int x0)]) [0] rfl ?_
  show a_M_isSet l D ad cI cZ cS rs A0 (jRi u Q) 0 [(0, .int x0)] [] u
  refine J_iload_n 0 dX11_isSet_0 rfl rfl ?_
  refine J_i2l dX11_isSet_1 ?_
  refine J_lconst (v := 0) dX11_isSet_2 rfl ?_
  refine J_ldc2 (v := 255) dX11_isSet_3 kk_RX11_93 ?_
  refine JS_Ri kS_RX11_61 (c_M_in h) rfl rfl (by decide) (Nat.le_of_ble_eq_true rfl) dX11_isSet_6 (fun r1 h => ?_)
  exact J_zret rfl dX11_isSet_9 (bz_n h.1) ⟨rfl, _, rfl, h.2⟩
abbrev a_M_isThing (l : Launch) (D : va_G) (ad : Nat → Nat) (cI cZ cS : ClassId) (rs : va_W) (A0 : Nat → Prop) := AM l D ad cI cZ cS rs A0 cX11_isThing 1 (some .boolean) RX11 1
set_option maxRecDepth 20000 in
set_option maxHeartbeats 4000000 in
theorem c_M_isThing {u : Mem} {x0 : Int32} {Q : Int32 → Prop} (h : w_M_isThing x0 Q) : MM l D ad cI cZ cS rs A0 yX11_isThing cX11_isThing 1 (some .boolean) 1 [.int x0] u (jRi u Q) := by
  unfold w_M_isThing at h
  refine JMet.of (by decide) (Nat.le_of_ble_eq_true rfl) ?_
  refine J_sub (lv' := [(0, .int x0)]) [0] rfl ?_
  show a_M_isThing l D ad cI cZ cS rs A0 (jRi u Q) 0 [(0, .int x0)] [] u
  refine J_iload_n 0 dX11_isThing_0 rfl rfl ?_
  refine J_i2l dX11_isThing_1 ?_
  refine J_lconst (v := 0) dX11_isThing_2 rfl ?_
  refine J_ldc2 (v := 7) dX11_isThing_3 kk_RX11_145 ?_
  refine JS_Ri kS_RX11_61 (c_M_in h) rfl rfl (by decide) (Nat.le_of_ble_eq_true rfl) dX11_isThing_6 (fun r1 h => ?_)
  exact J_zret rfl dX11_isThing_9 (bz_n h.1) ⟨rfl, _, rfl, h.2⟩
abbrev a_M_first (l : Launch) (D : va_G) (ad : Nat → Nat) (cI cZ cS : ClassId) (rs : va_W) (A0 : Nat → Prop) := AM l D ad cI cZ cS rs A0 cX11_first 3 (some .int) RX11 2
set_option maxRecDepth 20000 in
set_option maxHeartbeats 4000000 in
theorem c_M_first {u : Mem} {x1 : Int32} {Q : Int32 → Mem → Prop} (h : w_M_first x1 u Q) : MM l D ad cI cZ cS rs A0 yX11_first cX11_first 3 (some .int) 2 [.ref (ad 0), .int x1] u (jWi Q) := by
  unfold w_M_first at h
  refine JMet.of (by decide) (Nat.le_of_ble_eq_true rfl) ?_
  refine J_sub (lv' := [(0, .ref (ad 0)), (1, .int x1)]) [0, 1] rfl ?_
  show a_M_first l D ad cI cZ cS rs A0 (jWi Q) 0 [(0, .ref (ad 0)), (1, .int x1)] [] u
  refine J_iload_n 1 dX11_first_0 rfl rfl ?_
  refine JS_Ri kS_RX11_147 (c_M_isSet h) rfl rfl (by decide) (Nat.le_of_ble_eq_true rfl) dX11_first_1 (fun r1 h => ?_)
  refine J_if_ne (tgt := 10) dX11_first_4 rfl (fun c => ?_) (fun c => ?_)
  · have h := h.1 c
    refine J_aload_n 0 dX11_first_10 rfl rfl ?_
    refine gM_0_14 (v := (u.1 4)) rfl dX11_first_11 ?_
    refine J_istore_n (lv' := [(2, .int (u.1 4)), (0, .ref (ad 0)), (1, .int x1)]) dX11_first_14 rfl (Nat.le_of_ble_eq_true rfl) rfl ?_
    refine J_aload_n 1 dX11_first_15 rfl rfl ?_
    refine J_iload_n 2 dX11_first_16 rfl rfl ?_
    refine pM_0_14 dX11_first_17 ?_
    refine J_iload_n 0 dX11_first_20 rfl rfl ?_
    exact J_iret rfl dX11_first_21 ⟨_, rfl, h⟩
  · have h := h.2 c
    refine J_bipush (v := (-2)) dX11_first_7 cb_m2 ?_
    exact J_iret rfl dX11_first_9 ⟨_, rfl, h⟩
abbrev a_M_comes (l : Launch) (D : va_G) (ad : Nat → Nat) (cI cZ cS : ClassId) (rs : va_W) (A0 : Nat → Prop) := AM l D ad cI cZ cS rs A0 cX11_comes 2 (some .int) RX11 5
set_option maxRecDepth 20000 in
set_option maxHeartbeats 4000000 in
theorem c_M_comes {u : Mem} {x1 : Int32} {Q : Int32 → Mem → Prop} (h : w_M_comes x1 u Q) : MM l D ad cI cZ cS rs A0 yX11_comes cX11_comes 2 (some .int) 5 [.ref (ad 0), .int x1] u (jWi Q) := by
  unfold w_M_comes at h
  refine JMet.of (by decide) (Nat.le_of_ble_eq_true rfl) ?_
  refine J_sub (lv' := [(0, .ref (ad 0)), (1, .int x1)]) [0, 1] rfl ?_
  show a_M_comes l D ad cI cZ cS rs A0 (jWi Q) 0 [(0, .ref (ad 0)), (1, .int x1)] [] u
  refine J_aload_n 0 dX11_comes_0 rfl rfl ?_
  refine JV_Wv kV_RX11_153 0 rM_0 rfl rfl (c_M_reads h) rfl rfl (by decide) (Nat.le_of_ble_eq_true rfl) dX11_comes_1 (fun u2 h => ?_)
  refine J_iload_n 1 dX11_comes_4 rfl rfl ?_
  refine JS_Ri kS_RX11_147 (c_M_isSet h) rfl rfl (by decide) (Nat.le_of_ble_eq_true rfl) dX11_comes_5 (fun r3 h => ?_)
  refine J_if_eq (tgt := 20) dX11_comes_8 rfl (fun c => ?_) (fun c => ?_)
  · have h := h.1 c
    refine J_bipush (v := (-2)) dX11_comes_20 cb_m2 ?_
    exact J_iret rfl dX11_comes_22 ⟨_, rfl, h⟩
  · have h := h.2 c
    refine J_aload_n 0 dX11_comes_11 rfl rfl ?_
    refine gM_0_12 dX11_comes_12 ?_
    refine J_iload_n 1 dX11_comes_15 rfl rfl ?_
    refine lM_8 (v := (u2.2 8 x1.toNatClampNeg)) h.1 rfl dX11_comes_16 ?_
    have h := h.2
    refine J_goto (tgt := 22) dX11_comes_17 rfl ?_
    exact J_iret rfl dX11_comes_22 ⟨_, rfl, h⟩
abbrev a_M_lays (l : Launch) (D : va_G) (ad : Nat → Nat) (cI cZ cS : ClassId) (rs : va_W) (A0 : Nat → Prop) := AM l D ad cI cZ cS rs A0 cX11_lays 2 (some .int) RX11 5
set_option maxRecDepth 20000 in
set_option maxHeartbeats 4000000 in
theorem c_M_lays {u : Mem} {x1 : Int32} {Q : Int32 → Mem → Prop} (h : w_M_lays x1 u Q) : MM l D ad cI cZ cS rs A0 yX11_lays cX11_lays 2 (some .int) 5 [.ref (ad 0), .int x1] u (jWi Q) := by
  unfold w_M_lays at h
  refine JMet.of (by decide) (Nat.le_of_ble_eq_true rfl) ?_
  refine J_sub (lv' := [(0, .ref (ad 0)), (1, .int x1)]) [0, 1] rfl ?_
  show a_M_lays l D ad cI cZ cS rs A0 (jWi Q) 0 [(0, .ref (ad 0)), (1, .int x1)] [] u
  refine J_aload_n 0 dX11_lays_0 rfl rfl ?_
  refine JV_Wv kV_RX11_153 0 rM_0 rfl rfl (c_M_reads h) rfl rfl (by decide) (Nat.le_of_ble_eq_true rfl) dX11_lays_1 (fun u2 h => ?_)
  refine J_iload_n 1 dX11_lays_4 rfl rfl ?_
  refine JS_Ri kS_RX11_147 (c_M_isSet h) rfl rfl (by decide) (Nat.le_of_ble_eq_true rfl) dX11_lays_5 (fun r3 h => ?_)
  refine J_if_eq (tgt := 20) dX11_lays_8 rfl (fun c => ?_) (fun c => ?_)
  · have h := h.1 c
    refine J_bipush (v := (-2)) dX11_lays_20 cb_m2 ?_
    exact J_iret rfl dX11_lays_22 ⟨_, rfl, h⟩
  · have h := h.2 c
    refine J_aload_n 0 dX11_lays_11 rfl rfl ?_
    refine gM_0_13 dX11_lays_12 ?_
    refine J_iload_n 1 dX11_lays_15 rfl rfl ?_
    refine lM_9 (v := (u2.2 9 x1.toNatClampNeg)) h.1 rfl dX11_lays_16 ?_
    have h := h.2
    refine J_goto (tgt := 22) dX11_lays_17 rfl ?_
    exact J_iret rfl dX11_lays_22 ⟨_, rfl, h⟩
abbrev a_M_next (l : Launch) (D : va_G) (ad : Nat → Nat) (cI cZ cS : ClassId) (rs : va_W) (A0 : Nat → Prop) := AM l D ad cI cZ cS rs A0 cX11_next 2 (some .int) RX11 0
set_option maxRecDepth 20000 in
set_option maxHeartbeats 4000000 in
theorem c_M_next {u : Mem} {x1 : Int32} {Q : Int32 → Prop} (h : w_M_next x1 u Q) : MM l D ad cI cZ cS rs A0 yX11_next cX11_next 2 (some .int) 0 [.ref (ad 0), .int x1] u (jRi u Q) := by
  unfold w_M_next at h
  refine JMet.of (by decide) (Nat.le_of_ble_eq_true rfl) ?_
  refine J_sub (lv' := [(0, .ref (ad 0)), (1, .int x1)]) [0, 1] rfl ?_
  show a_M_next l D ad cI cZ cS rs A0 (jRi u Q) 0 [(0, .ref (ad 0)), (1, .int x1)] [] u
  refine J_aload_n 0 dX11_next_0 rfl rfl ?_
  refine gM_0_13 dX11_next_1 ?_
  refine J_aload_n 0 dX11_next_4 rfl rfl ?_
  refine gM_0_12 dX11_next_5 ?_
  refine J_iload_n 1 dX11_next_8 rfl rfl ?_
  refine lM_8 (v := (u.2 8 x1.toNatClampNeg)) h.1 rfl dX11_next_9 ?_
  have h := h.2
  refine lM_9 (v := (u.2 9 (u.2 8 x1.toNatClampNeg).toNatClampNeg)) h.1 rfl dX11_next_10 ?_
  have h := h.2
  exact J_iret rfl dX11_next_11 ⟨rfl, _, rfl, h⟩
abbrev a_M_lay (l : Launch) (D : va_G) (ad : Nat → Nat) (cI cZ cS : ClassId) (rs : va_W) (A0 : Nat → Prop) := AM l D ad cI cZ cS rs A0 cX11_lay 4 (some .int) RX11 2
set_option maxRecDepth 20000 in
set_option maxHeartbeats 4000000 in
theorem c_M_lay {u : Mem} {x1 : Int32} {x2 : Int32} {x3 : Int32} {Q : Int32 → Mem → Prop} (h : w_M_lay x1 x2 x3 u Q) : MM l D ad cI cZ cS rs A0 yX11_lay cX11_lay 4 (some .int) 2 [.ref (ad 0), .int x1, .int x2, .int x3] u (jWi Q) := by
  unfold w_M_lay at h
  refine JMet.of (by decide) (Nat.le_of_ble_eq_true rfl) ?_
  refine J_sub (lv' := [(0, .ref (ad 0)), (1, .int x1), (2, .int x2), (3, .int x3)]) [0, 1, 2, 3] rfl ?_
  show a_M_lay l D ad cI cZ cS rs A0 (jWi Q) 0 [(0, .ref (ad 0)), (1, .int x1), (2, .int x2), (3, .int x3)] [] u
  refine J_iload_n 1 dX11_lay_0 rfl rfl ?_
  refine J_i2l dX11_lay_1 ?_
  refine J_lconst (v := 0) dX11_lay_2 rfl ?_
  refine J_ldc2 (v := 29) dX11_lay_3 kk_RX11_156 ?_
  refine JS_Ri kS_RX11_61 (c_M_in h) rfl rfl (by decide) (Nat.le_of_ble_eq_true rfl) dX11_lay_6 (fun r1 h => ?_)
  refine J_if_eq (tgt := 26) dX11_lay_9 rfl (fun c => ?_) (fun c => ?_)
  · have h := h.1 c
    refine J_bipush (v := (-2)) dX11_lay_26 cb_m2 ?_
    exact J_iret rfl dX11_lay_28 ⟨_, rfl, h⟩
  · have h := h.2 c
    refine J_iload_n 2 dX11_lay_12 rfl rfl ?_
    refine JS_Ri kS_RX11_158 (c_M_isThing h) rfl rfl (by decide) (Nat.le_of_ble_eq_true rfl) dX11_lay_13 (fun r3 h => ?_)
    refine J_if_eq (tgt := 26) dX11_lay_16 rfl (fun c => ?_) (fun c => ?_)
    · have h := h.1 c
      refine J_bipush (v := (-2)) dX11_lay_26 cb_m2 ?_
      exact J_iret rfl dX11_lay_28 ⟨_, rfl, h⟩
    · have h := h.2 c
      refine J_iload_n 3 dX11_lay_19 rfl rfl ?_
      refine JS_Ri kS_RX11_90 (c_M_isTwo h) rfl rfl (by decide) (Nat.le_of_ble_eq_true rfl) dX11_lay_20 (fun r5 h => ?_)
      refine J_if_ne (tgt := 29) dX11_lay_23 rfl (fun c => ?_) (fun c => ?_)
      · have h := h.1 c
        refine J_aload_n 0 dX11_lay_29 rfl rfl ?_
        refine gM_0_15 (v := (u.1 5)) rfl dX11_lay_30 ?_
        refine J_bipush (v := 12) dX11_lay_33 cb_12 ?_
        refine J_icmp_ne (tgt := 41) dX11_lay_35 rfl (fun c => ?_) (fun c => ?_)
        · have h := h.1 c
          refine J_aload_n 0 dX11_lay_41 rfl rfl ?_
          refine gM_0_16 dX11_lay_42 ?_
          refine J_iconst (v := 3) dX11_lay_45 ci_3 ?_
          refine J_aload_n 0 dX11_lay_46 rfl rfl ?_
          refine gM_0_15 (v := (u.1 5)) rfl dX11_lay_47 ?_
          refine J_imul dX11_lay_50 ?_
          refine J_iload_n 1 dX11_lay_51 rfl rfl ?_
          refine tM_10 h.1 dX11_lay_52 ?_
          have h := h.2
          refine J_aload_n 0 dX11_lay_53 rfl rfl ?_
          refine gM_0_16 dX11_lay_54 ?_
          refine J_iconst (v := 3) dX11_lay_57 ci_3 ?_
          refine J_aload_n 0 dX11_lay_58 rfl rfl ?_
          refine gM_0_15 (v := (u.1 5)) rfl dX11_lay_59 ?_
          refine J_imul dX11_lay_62 ?_
          refine J_iconst (v := 1) dX11_lay_63 ci_1 ?_
          refine J_iadd dX11_lay_64 ?_
          refine J_iload_n 2 dX11_lay_65 rfl rfl ?_
          refine tM_10 h.1 dX11_lay_66 ?_
          have h := h.2
          refine J_aload_n 0 dX11_lay_67 rfl rfl ?_
          refine gM_0_16 dX11_lay_68 ?_
          refine J_iconst (v := 3) dX11_lay_71 ci_3 ?_
          refine J_aload_n 0 dX11_lay_72 rfl rfl ?_
          refine gM_0_15 (v := (u.1 5)) rfl dX11_lay_73 ?_
          refine J_imul dX11_lay_76 ?_
          refine J_iconst (v := 2) dX11_lay_77 ci_2 ?_
          refine J_iadd dX11_lay_78 ?_
          refine J_iload_n 3 dX11_lay_79 rfl rfl ?_
          refine tM_10 h.1 dX11_lay_80 ?_
          have h := h.2
          refine J_aload_n 0 dX11_lay_81 rfl rfl ?_
          refine J_dup dX11_lay_82 rfl ?_
          refine gM_0_15 (v := (u.1 5)) rfl dX11_lay_83 ?_
          refine J_iconst (v := 1) dX11_lay_86 ci_1 ?_
          refine J_iadd dX11_lay_87 ?_
          refine pM_0_15 dX11_lay_88 ?_
          refine J_memn (fun u7 eu7 => ?_)
          have h := h u7 eu7
          refine J_aload_n 0 dX11_lay_91 rfl rfl ?_
          refine gM_0_15 (v := (u7.1 5)) rfl dX11_lay_92 ?_
          exact J_iret rfl dX11_lay_95 ⟨_, rfl, h⟩
        · have h := h.2 c
          refine J_bipush (v := (-4)) dX11_lay_38 cb_m4 ?_
          exact J_iret rfl dX11_lay_40 ⟨_, rfl, h⟩
      · have h := h.2 c
        refine J_bipush (v := (-2)) dX11_lay_26 cb_m2 ?_
        exact J_iret rfl dX11_lay_28 ⟨_, rfl, h⟩
end
