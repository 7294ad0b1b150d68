section
variable {l : Launch} {D : va_G} {ad : Nat → Nat} {cI cZ cS : ClassId} {rs : va_W} {A0 : Nat → Prop}
abbrev a_R_faultPlace_0 (l : Launch) (D : va_G) (ad : Nat → Nat) (cI cZ cS : ClassId) (rs : va_W) (A0 : Nat → Prop) := AX l D ad cI cZ cS rs A0 cX5_faultPlace 1 (some .int) RX5 0
set_option maxRecDepth 20000 in
set_option maxHeartbeats 4000000 in
theorem c_R_faultPlace_0 {u : Mem} {Q : Int32 → Prop} (h : w_R_faultPlace_0 u Q) : MX l D ad cI cZ cS rs A0 yX5_faultPlace cX5_faultPlace 1 (some .int) 0 [.ref (ad 3)] u (jRi u Q) := by
  unfold w_R_faultPlace_0 at h
  refine JMet.of (by decide) (Nat.le_of_ble_eq_true rfl) ?_
  refine J_sub (lv' := [(0, .ref (ad 3))]) [0] rfl ?_
  show a_R_faultPlace_0 l D ad cI cZ cS rs A0 (jRi u Q) 0 [(0, .ref (ad 3))] [] u
  refine J_aload_n 0 dX5_faultPlace_0 rfl rfl ?_
  refine gX_3_1 (v := (u.1 5)) rfl dX5_faultPlace_1 ?_
  exact J_iret rfl dX5_faultPlace_4 ⟨rfl, _, rfl, h⟩
abbrev a_R_faultPlace_1 (l : Launch) (D : va_G) (ad : Nat → Nat) (cI cZ cS : ClassId) (rs : va_W) (A0 : Nat → Prop) := AX l D ad cI cZ cS rs A0 cX5_faultPlace 1 (some .int) RX5 0
set_option maxRecDepth 20000 in
set_option maxHeartbeats 4000000 in
theorem c_R_faultPlace_1 {u : Mem} {Q : Int32 → Prop} (h : w_R_faultPlace_1 u Q) : MX l D ad cI cZ cS rs A0 yX5_faultPlace cX5_faultPlace 1 (some .int) 0 [.ref (ad 4)] u (jRi u Q) := by
  unfold w_R_faultPlace_1 at h
  refine JMet.of (by decide) (Nat.le_of_ble_eq_true rfl) ?_
  refine J_sub (lv' := [(0, .ref (ad 4))]) [0] rfl ?_
  show a_R_faultPlace_1 l D ad cI cZ cS rs A0 (jRi u Q) 0 [(0, .ref (ad 4))] [] u
  refine J_aload_n 0 dX5_faultPlace_0 rfl rfl ?_
  refine gX_4_1 (v := (u.1 9)) rfl dX5_faultPlace_1 ?_
  exact J_iret rfl dX5_faultPlace_4 ⟨rfl, _, rfl, h⟩
abbrev a_T_size_0 (l : Launch) (D : va_G) (ad : Nat → Nat) (cI cZ cS : ClassId) (rs : va_W) (A0 : Nat → Prop) := AX l D ad cI cZ cS rs A0 cX8_size 1 (some .int) RX8 0
set_option maxRecDepth 20000 in
set_option maxHeartbeats 4000000 in
theorem c_T_size_0 {u : Mem} {Q : Int32 → Prop} (h : w_T_size_0 u Q) : MX l D ad cI cZ cS rs A0 yX8_size cX8_size 1 (some .int) 0 [.ref (ad 1)] u (jRi u Q) := by
  unfold w_T_size_0 at h
  refine JMet.of (by decide) (Nat.le_of_ble_eq_true rfl) ?_
  refine J_sub (lv' := [(0, .ref (ad 1))]) [0] rfl ?_
  show a_T_size_0 l D ad cI cZ cS rs A0 (jRi u Q) 0 [(0, .ref (ad 1))] [] u
  refine J_aload_n 0 dX8_size_0 rfl rfl ?_
  refine gX_1_1 (v := (u.1 2)) rfl dX8_size_1 ?_
  exact J_iret rfl dX8_size_4 ⟨rfl, _, rfl, h⟩
abbrev a_T_size_1 (l : Launch) (D : va_G) (ad : Nat → Nat) (cI cZ cS : ClassId) (rs : va_W) (A0 : Nat → Prop) := AX l D ad cI cZ cS rs A0 cX8_size 1 (some .int) RX8 0
set_option maxRecDepth 20000 in
set_option maxHeartbeats 4000000 in
theorem c_T_size_1 {u : Mem} {Q : Int32 → Prop} (h : w_T_size_1 u Q) : MX l D ad cI cZ cS rs A0 yX8_size cX8_size 1 (some .int) 0 [.ref (ad 2)] u (jRi u Q) := by
  unfold w_T_size_1 at h
  refine JMet.of (by decide) (Nat.le_of_ble_eq_true rfl) ?_
  refine J_sub (lv' := [(0, .ref (ad 2))]) [0] rfl ?_
  show a_T_size_1 l D ad cI cZ cS rs A0 (jRi u Q) 0 [(0, .ref (ad 2))] [] u
  refine J_aload_n 0 dX8_size_0 rfl rfl ?_
  refine gX_2_1 (v := (u.1 3)) rfl dX8_size_1 ?_
  exact J_iret rfl dX8_size_4 ⟨rfl, _, rfl, h⟩
abbrev a_T_byteAt_0 (l : Launch) (D : va_G) (ad : Nat → Nat) (cI cZ cS : ClassId) (rs : va_W) (A0 : Nat → Prop) := AX l D ad cI cZ cS rs A0 cX8_byteAt 2 (some .int) RX8 0
set_option maxRecDepth 20000 in
set_option maxHeartbeats 4000000 in
theorem c_T_byteAt_0 {u : Mem} {x1 : Int32} {Q : Int32 → Prop} (h : w_T_byteAt_0 x1 u Q) : MX l D ad cI cZ cS rs A0 yX8_byteAt cX8_byteAt 2 (some .int) 0 [.ref (ad 1), .int x1] u (jRi u Q) := by
  unfold w_T_byteAt_0 at h
  refine JMet.of (by decide) (Nat.le_of_ble_eq_true rfl) ?_
  refine J_sub (lv' := [(0, .ref (ad 1)), (1, .int x1)]) [0, 1] rfl ?_
  show a_T_byteAt_0 l D ad cI cZ cS rs A0 (jRi u Q) 0 [(0, .ref (ad 1)), (1, .int x1)] [] u
  refine J_iload_n 1 dX8_byteAt_0 rfl rfl ?_
  refine J_if_lt (tgt := 30) dX8_byteAt_1 rfl (fun c => ?_) (fun c => ?_)
  · have h := h.1 c
    refine J_iconst (v := (-1)) dX8_byteAt_30 ci_m1 ?_
    exact J_iret rfl dX8_byteAt_31 ⟨rfl, _, rfl, h⟩
  · have h := h.2 c
    refine J_iload_n 1 dX8_byteAt_4 rfl rfl ?_
    refine J_aload_n 0 dX8_byteAt_5 rfl rfl ?_
    refine gX_1_1 (v := (u.1 2)) rfl dX8_byteAt_6 ?_
    refine J_icmp_ge (tgt := 30) dX8_byteAt_9 rfl (fun c => ?_) (fun c => ?_)
    · have h := h.1 c
      refine J_iconst (v := (-1)) dX8_byteAt_30 ci_m1 ?_
      exact J_iret rfl dX8_byteAt_31 ⟨rfl, _, rfl, h⟩
    · have h := h.2 c
      refine J_iload_n 1 dX8_byteAt_12 rfl rfl ?_
      refine J_aload_n 0 dX8_byteAt_13 rfl rfl ?_
      refine gX_1_0 dX8_byteAt_14 ?_
      refine nX_0 dX8_byteAt_17 ?_
      refine J_icmp_ge (tgt := 30) dX8_byteAt_18 rfl (fun c => ?_) (fun c => ?_)
      · have h := h.1 c
        refine J_iconst (v := (-1)) dX8_byteAt_30 ci_m1 ?_
        exact J_iret rfl dX8_byteAt_31 ⟨rfl, _, rfl, h⟩
      · have h := h.2 c
        refine J_aload_n 0 dX8_byteAt_21 rfl rfl ?_
        refine gX_1_0 dX8_byteAt_22 ?_
        refine J_iload_n 1 dX8_byteAt_25 rfl rfl ?_
        refine lX_0 (v := (u.2 0 x1.toNatClampNeg)) h.1 rfl dX8_byteAt_26 ?_
        have h := h.2
        refine J_goto (tgt := 31) dX8_byteAt_27 rfl ?_
        exact J_iret rfl dX8_byteAt_31 ⟨rfl, _, rfl, h⟩
abbrev a_T_byteAt_1 (l : Launch) (D : va_G) (ad : Nat → Nat) (cI cZ cS : ClassId) (rs : va_W) (A0 : Nat → Prop) := AX l D ad cI cZ cS rs A0 cX8_byteAt 2 (some .int) RX8 0
set_option maxRecDepth 20000 in
set_option maxHeartbeats 4000000 in
theorem c_T_byteAt_1 {u : Mem} {x1 : Int32} {Q : Int32 → Prop} (h : w_T_byteAt_1 x1 u Q) : MX l D ad cI cZ cS rs A0 yX8_byteAt cX8_byteAt 2 (some .int) 0 [.ref (ad 2), .int x1] u (jRi u Q) := by
  unfold w_T_byteAt_1 at h
  refine JMet.of (by decide) (Nat.le_of_ble_eq_true rfl) ?_
  refine J_sub (lv' := [(0, .ref (ad 2)), (1, .int x1)]) [0, 1] rfl ?_
  show a_T_byteAt_1 l D ad cI cZ cS rs A0 (jRi u Q) 0 [(0, .ref (ad 2)), (1, .int x1)] [] u
  refine J_iload_n 1 dX8_byteAt_0 rfl rfl ?_
  refine J_if_lt (tgt := 30) dX8_byteAt_1 rfl (fun c => ?_) (fun c => ?_)
  · have h := h.1 c
    refine J_iconst (v := (-1)) dX8_byteAt_30 ci_m1 ?_
    exact J_iret rfl dX8_byteAt_31 ⟨rfl, _, rfl, h⟩
  · have h := h.2 c
    refine J_iload_n 1 dX8_byteAt_4 rfl rfl ?_
    refine J_aload_n 0 dX8_byteAt_5 rfl rfl ?_
    refine gX_2_1 (v := (u.1 3)) rfl dX8_byteAt_6 ?_
    refine J_icmp_ge (tgt := 30) dX8_byteAt_9 rfl (fun c => ?_) (fun c => ?_)
    · have h := h.1 c
      refine J_iconst (v := (-1)) dX8_byteAt_30 ci_m1 ?_
      exact J_iret rfl dX8_byteAt_31 ⟨rfl, _, rfl, h⟩
    · have h := h.2 c
      refine J_iload_n 1 dX8_byteAt_12 rfl rfl ?_
      refine J_aload_n 0 dX8_byteAt_13 rfl rfl ?_
      refine gX_2_0 dX8_byteAt_14 ?_
      refine nX_1 dX8_byteAt_17 ?_
      refine J_icmp_ge (tgt := 30) dX8_byteAt_18 rfl (fun c => ?_) (fun c => ?_)
      · have h := h.1 c
        refine J_iconst (v := (-1)) dX8_byteAt_30 ci_m1 ?_
        exact J_iret rfl dX8_byteAt_31 ⟨rfl, _, rfl, h⟩
      · have h := h.2 c
        refine J_aload_n 0 dX8_byteAt_21 rfl rfl ?_
        refine gX_2_0 dX8_byteAt_22 ?_
        refine J_iload_n 1 dX8_byteAt_25 rfl rfl ?_
        refine lX_1 (v := (u.2 1 x1.toNatClampNeg)) h.1 rfl dX8_byteAt_26 ?_
        have h := h.2
        refine J_goto (tgt := 31) dX8_byteAt_27 rfl ?_
        exact J_iret rfl dX8_byteAt_31 ⟨rfl, _, rfl, h⟩
abbrev a_R_readFrom_0 (l : Launch) (D : va_G) (ad : Nat → Nat) (cI cZ cS : ClassId) (rs : va_W) (A0 : Nat → Prop) := AX l D ad cI cZ cS rs A0 cX5_readFrom 4 none RX5 3
set_option maxRecDepth 20000 in
set_option maxHeartbeats 4000000 in
theorem t_R_readFrom_0_l14  {X : Int32 → Mem → Prop} {Q : Mem → Prop} (hX : ∀ (x2 : Int32) (u : Mem), X x2 u → a_R_readFrom_0 l D ad cI cZ cS rs A0 (jWv Q) 57 [(0, .ref (ad 3)), (1, .ref (ad 1)), (2, .int x2)] [] u) : ∀ (n : Nat) (x2 : Int32) (x3 : Int32) (u : Mem), w_R_readFrom_0_l14 X Q n x2 x3 u → a_R_readFrom_0 l D ad cI cZ cS rs A0 (jWv Q) 14 [(0, .ref (ad 3)), (1, .ref (ad 1)), (2, .int x2), (3, .int x3)] [] u := by
  intro n
  induction n with
  | zero =>
    intro x2 x3 u h
    exact (by simp only [w_R_readFrom_0_l14] at h : False).elim
  | succ n ih =>
    intro x2 x3 u h
    rw [w_R_readFrom_0_l14] at h
    refine J_iload_n 3 dX5_readFrom_14 rfl rfl ?_
    refine J_aload_n 1 dX5_readFrom_15 rfl rfl ?_
    refine JV_Ri kV_RX5_18 1 rX_1 rfl rfl (c_T_size_0 h) rfl rfl (by decide) (Nat.le_of_ble_eq_true rfl) dX5_readFrom_16 (fun r1 h => ?_)
    refine J_icmp_ge (tgt := 57) dX5_readFrom_19 rfl (fun c => ?_) (fun c => ?_)
    · have h := h.1 c
      exact J_sub (lv' := [(0, .ref (ad 3)), (1, .ref (ad 1)), (2, .int x2)]) [0, 1, 2] rfl (hX x2 u h)
    · have h := h.2 c
      refine J_aload_n 0 dX5_readFrom_22 rfl rfl ?_
      refine gX_3_1 (v := (u.1 5)) rfl dX5_readFrom_23 ?_
      refine J_iconst (v := (-1)) dX5_readFrom_26 ci_m1 ?_
      refine J_icmp_ne (tgt := 57) dX5_readFrom_27 rfl (fun c => ?_) (fun c => ?_)
      · have h := h.1 c
        exact J_sub (lv' := [(0, .ref (ad 3)), (1, .ref (ad 1)), (2, .int x2)]) [0, 1, 2] rfl (hX x2 u h)
      · have h := h.2 c
        refine J_aload_n 0 dX5_readFrom_30 rfl rfl ?_
        refine J_iload_n 2 dX5_readFrom_31 rfl rfl ?_
        refine J_aload_n 1 dX5_readFrom_32 rfl rfl ?_
        refine J_iload_n 3 dX5_readFrom_33 rfl rfl ?_
        refine JV_Ri kV_RX5_24 1 rX_1 rfl rfl (c_T_byteAt_0 h) rfl rfl (by decide) (Nat.le_of_ble_eq_true rfl) dX5_readFrom_34 (fun r3 h => ?_)
        refine JA_Wi kU_RX5_28_RX3 (by decide +kernel) 3 rX_3 rfl rfl (c_L_stateBehind h) rfl rfl (by decide) (Nat.le_of_ble_eq_true rfl) dX5_readFrom_37 (fun r5 u6 h => ?_)
        refine J_istore_n (lv' := [(2, .int r5), (0, .ref (ad 3)), (1, .ref (ad 1)), (3, .int x3)]) dX5_readFrom_40 rfl (Nat.le_of_ble_eq_true rfl) rfl ?_
        refine J_iload_n 0 dX5_readFrom_41 rfl rfl ?_
        refine J_iconst (v := (-1)) dX5_readFrom_42 ci_m1 ?_
        refine J_icmp_ne (tgt := 51) dX5_readFrom_43 rfl (fun c => ?_) (fun c => ?_)
        · have h := h.1 c
          refine J_iinc (v := (x3 + 1)) (lv' := [(3, .int (x3 + 1)), (2, .int r5), (0, .ref (ad 3)), (1, .ref (ad 1))]) 3 dX5_readFrom_51 rfl rfl (Nat.le_of_ble_eq_true rfl) rfl ?_
          refine J_goto (tgt := 14) dX5_readFrom_54 rfl ?_
          exact J_sub (lv' := [(0, .ref (ad 3)), (1, .ref (ad 1)), (2, .int r5), (3, .int (x3 + 1))]) [2, 3, 1, 0] rfl (ih r5 (x3 + 1) u6 h)
        · have h := h.2 c
          refine J_aload_n 1 dX5_readFrom_46 rfl rfl ?_
          refine J_iload_n 3 dX5_readFrom_47 rfl rfl ?_
          refine pX_3_1 dX5_readFrom_48 ?_
          refine J_iinc (v := (x3 + 1)) (lv' := [(3, .int (x3 + 1)), (2, .int r5), (0, .ref (ad 3)), (1, .ref (ad 1))]) 3 dX5_readFrom_51 rfl rfl (Nat.le_of_ble_eq_true rfl) rfl ?_
          refine J_goto (tgt := 14) dX5_readFrom_54 rfl ?_
          exact J_sub (lv' := [(0, .ref (ad 3)), (1, .ref (ad 1)), (2, .int r5), (3, .int (x3 + 1))]) [2, 3, 1, 0] rfl (ih r5 (x3 + 1) (sS u6 5 x3) h)
set_option maxRecDepth 20000 in
set_option maxHeartbeats 4000000 in
theorem t_R_readFrom_0_b85 {u : Mem} {Q : Mem → Prop} (h : w_R_readFrom_0_b85 u Q) : a_R_readFrom_0 l D ad cI cZ cS rs A0 (jWv Q) 85 [(0, .ref (ad 3))] [] u := by
  unfold w_R_readFrom_0_b85 at h
  refine J_aload_n 0 dX5_readFrom_85 rfl rfl ?_
  refine gX_3_1 (v := (u.1 5)) rfl dX5_readFrom_86 ?_
  refine J_iconst (v := (-1)) dX5_readFrom_89 ci_m1 ?_
  refine J_icmp_eq (tgt := 98) dX5_readFrom_90 rfl (fun c => ?_) (fun c => ?_)
  · have h := h.1 c
    exact J_vret rfl dX5_readFrom_98 ⟨rfl, h⟩
  · have h := h.2 c
    refine J_aload_n 0 dX5_readFrom_93 rfl rfl ?_
    refine J_iconst (v := 0) dX5_readFrom_94 ci_0 ?_
    refine pX_3_0 dX5_readFrom_95 ?_
    exact J_vret rfl dX5_readFrom_98 ⟨rfl, h⟩
set_option maxRecDepth 20000 in
set_option maxHeartbeats 4000000 in
theorem t_R_readFrom_0_b57 {u : Mem} {x2 : Int32} {Q : Mem → Prop} (h : w_R_readFrom_0_b57 x2 u Q) : a_R_readFrom_0 l D ad cI cZ cS rs A0 (jWv Q) 57 [(0, .ref (ad 3)), (1, .ref (ad 1)), (2, .int x2)] [] u := by
  unfold w_R_readFrom_0_b57 at h
  refine J_aload_n 0 dX5_readFrom_57 rfl rfl ?_
  refine gX_3_1 (v := (u.1 5)) rfl dX5_readFrom_58 ?_
  refine J_iconst (v := (-1)) dX5_readFrom_61 ci_m1 ?_
  refine J_icmp_ne (tgt := 85) dX5_readFrom_62 rfl (fun c => ?_) (fun c => ?_)
  · have h := h.1 c
    exact J_sub (lv' := [(0, .ref (ad 3))]) [0] rfl (t_R_readFrom_0_b85 h)
  · have h := h.2 c
    refine J_iload_n 2 dX5_readFrom_65 rfl rfl ?_
    refine J_iconst (v := 1) dX5_readFrom_66 ci_1 ?_
    refine J_icmp_eq (tgt := 85) dX5_readFrom_67 rfl (fun c => ?_) (fun c => ?_)
    · have h := h.1 c
      exact J_sub (lv' := [(0, .ref (ad 3))]) [0] rfl (t_R_readFrom_0_b85 h)
    · have h := h.2 c
      refine J_aload_n 1 dX5_readFrom_70 rfl rfl ?_
      refine JV_Ri kV_RX5_18 1 rX_1 rfl rfl (c_T_size_0 h) rfl rfl (by decide) (Nat.le_of_ble_eq_true rfl) dX5_readFrom_71 (fun r9 h => ?_)
      refine J_if_le (tgt := 85) dX5_readFrom_74 rfl (fun c => ?_) (fun c => ?_)
      · have h := h.1 c
        exact J_sub (lv' := [(0, .ref (ad 3))]) [0] rfl (t_R_readFrom_0_b85 h)
      · have h := h.2 c
        refine J_aload_n 0 dX5_readFrom_77 rfl rfl ?_
        refine J_aload_n 1 dX5_readFrom_78 rfl rfl ?_
        refine JV_Ri kV_RX5_18 1 rX_1 rfl rfl (c_T_size_0 h) rfl rfl (by decide) (Nat.le_of_ble_eq_true rfl) dX5_readFrom_79 (fun r11 h => ?_)
        refine pX_3_1 dX5_readFrom_82 ?_
        exact J_sub (lv' := [(0, .ref (ad 3))]) [0] rfl (t_R_readFrom_0_b85 h)
set_option maxRecDepth 20000 in
set_option maxHeartbeats 4000000 in
theorem c_R_readFrom_0 {u : Mem} {Q : Mem → Prop} (h : w_R_readFrom_0 u Q) : MX l D ad cI cZ cS rs A0 yX5_readFrom cX5_readFrom 4 none 3 [.ref (ad 3), .ref (ad 1)] u (jWv Q) := by
  unfold w_R_readFrom_0 at h
  refine JMet.of (by decide) (Nat.le_of_ble_eq_true rfl) ?_
  refine J_sub (lv' := [(0, .ref (ad 3)), (1, .ref (ad 1))]) [0, 1] rfl ?_
  show a_R_readFrom_0 l D ad cI cZ cS rs A0 (jWv Q) 0 [(0, .ref (ad 3)), (1, .ref (ad 1))] [] u
  refine J_aload_n 0 dX5_readFrom_0 rfl rfl ?_
  refine J_iconst (v := 0) dX5_readFrom_1 ci_0 ?_
  refine pX_3_0 dX5_readFrom_2 ?_
  refine J_aload_n 0 dX5_readFrom_5 rfl rfl ?_
  refine J_iconst (v := (-1)) dX5_readFrom_6 ci_m1 ?_
  refine pX_3_1 dX5_readFrom_7 ?_
  refine J_iconst (v := 0) dX5_readFrom_10 ci_0 ?_
  refine J_istore_n (lv' := [(2, .int 0), (0, .ref (ad 3)), (1, .ref (ad 1))]) dX5_readFrom_11 rfl (Nat.le_of_ble_eq_true rfl) rfl ?_
  refine J_iconst (v := 0) dX5_readFrom_12 ci_0 ?_
  refine J_istore_n (lv' := [(3, .int 0), (2, .int 0), (0, .ref (ad 3)), (1, .ref (ad 1))]) dX5_readFrom_13 rfl (Nat.le_of_ble_eq_true rfl) rfl ?_
  obtain ⟨n13, h⟩ := h
  refine J_sub (lv' := [(0, .ref (ad 3)), (1, .ref (ad 1)), (2, .int 0), (3, .int 0)]) [2, 3, 1, 0] rfl (t_R_readFrom_0_l14 ?_ n13 0 0 (sS (sS u 4 0) 5 (-1)) h)
  · intro z7 u8 h
    exact (t_R_readFrom_0_b57 h)
abbrev a_R_readFrom_1 (l : Launch) (D : va_G) (ad : Nat → Nat) (cI cZ cS : ClassId) (rs : va_W) (A0 : Nat → Prop) := AX l D ad cI cZ cS rs A0 cX5_readFrom 4 none RX5 3
set_option maxRecDepth 20000 in
set_option maxHeartbeats 4000000 in
theorem t_R_readFrom_1_l14  {X : Int32 → Mem → Prop} {Q : Mem → Prop} (hX : ∀ (x2 : Int32) (u : Mem), X x2 u → a_R_readFrom_1 l D ad cI cZ cS rs A0 (jWv Q) 57 [(0, .ref (ad 4)), (1, .ref (ad 2)), (2, .int x2)] [] u) : ∀ (n : Nat) (x2 : Int32) (x3 : Int32) (u : Mem), w_R_readFrom_1_l14 X Q n x2 x3 u → a_R_readFrom_1 l D ad cI cZ cS rs A0 (jWv Q) 14 [(0, .ref (ad 4)), (1, .ref (ad 2)), (2, .int x2), (3, .int x3)] [] u := by
  intro n
  induction n with
  | zero =>
    intro x2 x3 u h
    exact (by simp only [w_R_readFrom_1_l14] at h : False).elim
  | succ n ih =>
    intro x2 x3 u h
    rw [w_R_readFrom_1_l14] at h
    refine J_iload_n 3 dX5_readFrom_14 rfl rfl ?_
    refine J_aload_n 1 dX5_readFrom_15 rfl rfl ?_
    refine JV_Ri kV_RX5_18 2 rX_2 rfl rfl (c_T_size_1 h) rfl rfl (by decide) (Nat.le_of_ble_eq_true rfl) dX5_readFrom_16 (fun r1 h => ?_)
    refine J_icmp_ge (tgt := 57) dX5_readFrom_19 rfl (fun c => ?_) (fun c => ?_)
    · have h := h.1 c
      exact J_sub (lv' := [(0, .ref (ad 4)), (1, .ref (ad 2)), (2, .int x2)]) [0, 1, 2] rfl (hX x2 u h)
    · have h := h.2 c
      refine J_aload_n 0 dX5_readFrom_22 rfl rfl ?_
      refine gX_4_1 (v := (u.1 9)) rfl dX5_readFrom_23 ?_
      refine J_iconst (v := (-1)) dX5_readFrom_26 ci_m1 ?_
      refine J_icmp_ne (tgt := 57) dX5_readFrom_27 rfl (fun c => ?_) (fun c => ?_)
      · have h := h.1 c
        exact J_sub (lv' := [(0, .ref (ad 4)), (1, .ref (ad 2)), (2, .int x2)]) [0, 1, 2] rfl (hX x2 u h)
      · have h := h.2 c
        refine J_aload_n 0 dX5_readFrom_30 rfl rfl ?_
        refine J_iload_n 2 dX5_readFrom_31 rfl rfl ?_
        refine J_aload_n 1 dX5_readFrom_32 rfl rfl ?_
        refine J_iload_n 3 dX5_readFrom_33 rfl rfl ?_
        refine JV_Ri kV_RX5_24 2 rX_2 rfl rfl (c_T_byteAt_1 h) rfl rfl (by decide) (Nat.le_of_ble_eq_true rfl) dX5_readFrom_34 (fun r3 h => ?_)
        refine JA_Wi kU_RX5_28_RX1 (by decide +kernel) 4 rX_4 rfl rfl (c_D_stateBehind h) rfl rfl (by decide) (Nat.le_of_ble_eq_true rfl) dX5_readFrom_37 (fun r5 u6 h => ?_)
        refine J_istore_n (lv' := [(2, .int r5), (0, .ref (ad 4)), (1, .ref (ad 2)), (3, .int x3)]) dX5_readFrom_40 rfl (Nat.le_of_ble_eq_true rfl) rfl ?_
        refine J_iload_n 0 dX5_readFrom_41 rfl rfl ?_
        refine J_iconst (v := (-1)) dX5_readFrom_42 ci_m1 ?_
        refine J_icmp_ne (tgt := 51) dX5_readFrom_43 rfl (fun c => ?_) (fun c => ?_)
        · have h := h.1 c
          refine J_iinc (v := (x3 + 1)) (lv' := [(3, .int (x3 + 1)), (2, .int r5), (0, .ref (ad 4)), (1, .ref (ad 2))]) 3 dX5_readFrom_51 rfl rfl (Nat.le_of_ble_eq_true rfl) rfl ?_
          refine J_goto (tgt := 14) dX5_readFrom_54 rfl ?_
          exact J_sub (lv' := [(0, .ref (ad 4)), (1, .ref (ad 2)), (2, .int r5), (3, .int (x3 + 1))]) [2, 3, 1, 0] rfl (ih r5 (x3 + 1) u6 h)
        · have h := h.2 c
          refine J_aload_n 1 dX5_readFrom_46 rfl rfl ?_
          refine J_iload_n 3 dX5_readFrom_47 rfl rfl ?_
          refine pX_4_1 dX5_readFrom_48 ?_
          refine J_iinc (v := (x3 + 1)) (lv' := [(3, .int (x3 + 1)), (2, .int r5), (0, .ref (ad 4)), (1, .ref (ad 2))]) 3 dX5_readFrom_51 rfl rfl (Nat.le_of_ble_eq_true rfl) rfl ?_
          refine J_goto (tgt := 14) dX5_readFrom_54 rfl ?_
          exact J_sub (lv' := [(0, .ref (ad 4)), (1, .ref (ad 2)), (2, .int r5), (3, .int (x3 + 1))]) [2, 3, 1, 0] rfl (ih r5 (x3 + 1) (sS u6 9 x3) h)
set_option maxRecDepth 20000 in
set_option maxHeartbeats 4000000 in
theorem t_R_readFrom_1_b85 {u : Mem} {Q : Mem → Prop} (h : w_R_readFrom_1_b85 u Q) : a_R_readFrom_1 l D ad cI cZ cS rs A0 (jWv Q) 85 [(0, .ref (ad 4))] [] u := by
  unfold w_R_readFrom_1_b85 at h
  refine J_aload_n 0 dX5_readFrom_85 rfl rfl ?_
  refine gX_4_1 (v := (u.1 9)) rfl dX5_readFrom_86 ?_
  refine J_iconst (v := (-1)) dX5_readFrom_89 ci_m1 ?_
  refine J_icmp_eq (tgt := 98) dX5_readFrom_90 rfl (fun c => ?_) (fun c => ?_)
  · have h := h.1 c
    exact J_vret rfl dX5_readFrom_98 ⟨rfl, h⟩
  · have h := h.2 c
    refine J_aload_n 0 dX5_readFrom_93 rfl rfl ?_
    refine J_iconst (v := 0) dX5_readFrom_94 ci_0 ?_
    refine pX_4_0 dX5_readFrom_95 ?_
    exact J_vret rfl dX5_readFrom_98 ⟨rfl, h⟩
set_option maxRecDepth 20000 in
set_option maxHeartbeats 4000000 in
theorem t_R_readFrom_1_b57 {u : Mem} {x2 : Int32} {Q : Mem → Prop} (h : w_R_readFrom_1_b57 x2 u Q) : a_R_readFrom_1 l D ad cI cZ cS rs A0 (jWv Q) 57 [(0, .ref (ad 4)), (1, .ref (ad 2)), (2, .int x2)] [] u := by
  unfold w_R_readFrom_1_b57 at h
  refine J_aload_n 0 dX5_readFrom_57 rfl rfl ?_
  refine gX_4_1 (v := (u.1 9)) rfl dX5_readFrom_58 ?_
  refine J_iconst (v := (-1)) dX5_readFrom_61 ci_m1 ?_
  refine J_icmp_ne (tgt := 85) dX5_readFrom_62 rfl (fun c => ?_) (fun c => ?_)
  · have h := h.1 c
    exact J_sub (lv' := [(0, .ref (ad 4))]) [0] rfl (t_R_readFrom_1_b85 h)
  · have h := h.2 c
    refine J_iload_n 2 dX5_readFrom_65 rfl rfl ?_
    refine J_iconst (v := 1) dX5_readFrom_66 ci_1 ?_
    refine J_icmp_eq (tgt := 85) dX5_readFrom_67 rfl (fun c => ?_) (fun c => ?_)
    · have h := h.1 c
      exact J_sub (lv' := [(0, .ref (ad 4))]) [0] rfl (t_R_readFrom_1_b85 h)
    · have h := h.2 c
      refine J_aload_n 1 dX5_readFrom_70 rfl rfl ?_
      refine JV_Ri kV_RX5_18 2 rX_2 rfl rfl (c_T_size_1 h) rfl rfl (by decide) (Nat.le_of_ble_eq_true rfl) dX5_readFrom_71 (fun r9 h => ?_)
      refine J_if_le (tgt := 85) dX5_readFrom_74 rfl (fun c => ?_) (fun c => ?_)
      · have h := h.1 c
        exact J_sub (lv' := [(0, .ref (ad 4))]) [0] rfl (t_R_readFrom_1_b85 h)
      · have h := h.2 c
        refine J_aload_n 0 dX5_readFrom_77 rfl rfl ?_
        refine J_aload_n 1 dX5_readFrom_78 rfl rfl ?_
        refine JV_Ri kV_RX5_18 2 rX_2 rfl rfl (c_T_size_1 h) rfl rfl (by decide) (Nat.le_of_ble_eq_true rfl) dX5_readFrom_79 (fun r11 h => ?_)
        refine pX_4_1 dX5_readFrom_82 ?_
        exact J_sub (lv' := [(0, .ref (ad 4))]) [0] rfl (t_R_readFrom_1_b85 h)
set_option maxRecDepth 20000 in
set_option maxHeartbeats 4000000 in
theorem c_R_readFrom_1 {u : Mem} {Q : Mem → Prop} (h : w_R_readFrom_1 u Q) : MX l D ad cI cZ cS rs A0 yX5_readFrom cX5_readFrom 4 none 3 [.ref (ad 4), .ref (ad 2)] u (jWv Q) := by
  unfold w_R_readFrom_1 at h
  refine JMet.of (by decide) (Nat.le_of_ble_eq_true rfl) ?_
  refine J_sub (lv' := [(0, .ref (ad 4)), (1, .ref (ad 2))]) [0, 1] rfl ?_
  show a_R_readFrom_1 l D ad cI cZ cS rs A0 (jWv Q) 0 [(0, .ref (ad 4)), (1, .ref (ad 2))] [] u
  refine J_aload_n 0 dX5_readFrom_0 rfl rfl ?_
  refine J_iconst (v := 0) dX5_readFrom_1 ci_0 ?_
  refine pX_4_0 dX5_readFrom_2 ?_
  refine J_aload_n 0 dX5_readFrom_5 rfl rfl ?_
  refine J_iconst (v := (-1)) dX5_readFrom_6 ci_m1 ?_
  refine pX_4_1 dX5_readFrom_7 ?_
  refine J_iconst (v := 0) dX5_readFrom_10 ci_0 ?_
  refine J_istore_n (lv' := [(2, .int 0), (0, .ref (ad 4)), (1, .ref (ad 2))]) dX5_readFrom_11 rfl (Nat.le_of_ble_eq_true rfl) rfl ?_
  refine J_iconst (v := 0) dX5_readFrom_12 ci_0 ?_
  refine J_istore_n (lv' := [(3, .int 0), (2, .int 0), (0, .ref (ad 4)), (1, .ref (ad 2))]) dX5_readFrom_13 rfl (Nat.le_of_ble_eq_true rfl) rfl ?_
  obtain ⟨n13, h⟩ := h
  refine J_sub (lv' := [(0, .ref (ad 4)), (1, .ref (ad 2)), (2, .int 0), (3, .int 0)]) [2, 3, 1, 0] rfl (t_R_readFrom_1_l14 ?_ n13 0 0 (sS (sS u 8 0) 9 (-1)) h)
  · intro z7 u8 h
    exact (t_R_readFrom_1_b57 h)
abbrev a_S_size (l : Launch) (D : va_G) (ad : Nat → Nat) (cI cZ cS : ClassId) (rs : va_W) (A0 : Nat → Prop) := AX l D ad cI cZ cS rs A0 cX6_size 1 (some .int) RX6 0
set_option maxRecDepth 20000 in
set_option maxHeartbeats 4000000 in
theorem c_S_size {u : Mem} {Q : Int32 → Prop} (h : w_S_size u Q) : MX l D ad cI cZ cS rs A0 yX6_size cX6_size 1 (some .int) 0 [.ref (ad 7)] u (jRi u Q) := by
  unfold w_S_size at h
  refine JMet.of (by decide) (Nat.le_of_ble_eq_true rfl) ?_
  refine J_sub (lv' := [(0, .ref (ad 7))]) [0] rfl ?_
  show a_S_size l D ad cI cZ cS rs A0 (jRi u Q) 0 [(0, .ref (ad 7))] [] u
  refine J_aload_n 0 dX6_size_0 rfl rfl ?_
  refine gX_7_2 (v := (u.1 13)) rfl dX6_size_1 ?_
  exact J_iret rfl dX6_size_4 ⟨rfl, _, rfl, h⟩
abbrev a_S_clear (l : Launch) (D : va_G) (ad : Nat → Nat) (cI cZ cS : ClassId) (rs : va_W) (A0 : Nat → Prop) := AX l D ad cI cZ cS rs A0 cX6_clear 1 none RX6 0
set_option maxRecDepth 20000 in
set_option maxHeartbeats 4000000 in
theorem c_S_clear {u : Mem} {Q : Mem → Prop} (h : w_S_clear u Q) : MX l D ad cI cZ cS rs A0 yX6_clear cX6_clear 1 none 0 [.ref (ad 7)] u (jWv Q) := by
  unfold w_S_clear at h
  refine JMet.of (by decide) (Nat.le_of_ble_eq_true rfl) ?_
  refine J_sub (lv' := [(0, .ref (ad 7))]) [0] rfl ?_
  show a_S_clear l D ad cI cZ cS rs A0 (jWv Q) 0 [(0, .ref (ad 7))] [] u
  refine J_aload_n 0 dX6_clear_0 rfl rfl ?_
  refine J_iconst (v := 0) dX6_clear_1 ci_0 ?_
  refine pX_7_2 dX6_clear_2 ?_
  exact J_vret rfl dX6_clear_5 ⟨rfl, h⟩
abbrev a_S_addSight (l : Launch) (D : va_G) (ad : Nat → Nat) (cI cZ cS : ClassId) (rs : va_W) (A0 : Nat → Prop) := AX l D ad cI cZ cS rs A0 cX6_addSight 3 (some .boolean) RX6 0
set_option maxRecDepth 20000 in
set_option maxHeartbeats 4000000 in
theorem c_S_addSight {u : Mem} {x1 : Int32} {x2 : Int32} {Q : Int32 → Mem → Prop} (h : w_S_addSight x1 x2 u Q) : MX l D ad cI cZ cS rs A0 yX6_addSight cX6_addSight 3 (some .boolean) 0 [.ref (ad 7), .int x1, .int x2] u (jWi Q) := by
  unfold w_S_addSight at h
  refine JMet.of (by decide) (Nat.le_of_ble_eq_true rfl) ?_
  refine J_sub (lv' := [(0, .ref (ad 7)), (1, .int x1), (2, .int x2)]) [0, 1, 2] rfl ?_
  show a_S_addSight l D ad cI cZ cS rs A0 (jWi Q) 0 [(0, .ref (ad 7)), (1, .int x1), (2, .int x2)] [] u
  refine J_aload_n 0 dX6_addSight_0 rfl rfl ?_
  refine gX_7_2 (v := (u.1 13)) rfl dX6_addSight_1 ?_
  refine J_if_lt (tgt := 16) dX6_addSight_4 rfl (fun c => ?_) (fun c => ?_)
  · have h := h.1 c
    refine J_iconst (v := 0) dX6_addSight_16 ci_0 ?_
    exact J_zret rfl dX6_addSight_17 (bz_n bz_0) ⟨_, rfl, h⟩
  · have h := h.2 c
    refine J_aload_n 0 dX6_addSight_7 rfl rfl ?_
    refine gX_7_2 (v := (u.1 13)) rfl dX6_addSight_8 ?_
    refine J_bipush (v := 8) dX6_addSight_11 cb_8 ?_
    refine J_icmp_lt (tgt := 18) dX6_addSight_13 rfl (fun c => ?_) (fun c => ?_)
    · have h := h.1 c
      refine J_aload_n 0 dX6_addSight_18 rfl rfl ?_
      refine gX_7_0 dX6_addSight_19 ?_
      refine J_aload_n 0 dX6_addSight_22 rfl rfl ?_
      refine gX_7_2 (v := (u.1 13)) rfl dX6_addSight_23 ?_
      refine J_iload_n 1 dX6_addSight_26 rfl rfl ?_
      refine tX_15 h.1 dX6_addSight_27 ?_
      have h := h.2
      refine J_aload_n 0 dX6_addSight_28 rfl rfl ?_
      refine gX_7_1 dX6_addSight_29 ?_
      refine J_aload_n 0 dX6_addSight_32 rfl rfl ?_
      refine gX_7_2 (v := (u.1 13)) rfl dX6_addSight_33 ?_
      refine J_iload_n 2 dX6_addSight_36 rfl rfl ?_
      refine tX_16 h.1 dX6_addSight_37 ?_
      have h := h.2
      refine J_aload_n 0 dX6_addSight_38 rfl rfl ?_
      refine J_dup dX6_addSight_39 rfl ?_
      refine gX_7_2 (v := (u.1 13)) rfl dX6_addSight_40 ?_
      refine J_iconst (v := 1) dX6_addSight_43 ci_1 ?_
      refine J_iadd dX6_addSight_44 ?_
      refine pX_7_2 dX6_addSight_45 ?_
      refine J_iconst (v := 1) dX6_addSight_48 ci_1 ?_
      exact J_zret rfl dX6_addSight_49 (bz_n bz_1) ⟨_, rfl, h⟩
    · have h := h.2 c
      refine J_iconst (v := 0) dX6_addSight_16 ci_0 ?_
      exact J_zret rfl dX6_addSight_17 (bz_n bz_0) ⟨_, rfl, h⟩
abbrev a_S_mayStand (l : Launch) (D : va_G) (ad : Nat → Nat) (cI cZ cS : ClassId) (rs : va_W) (A0 : Nat → Prop) := AX l D ad cI cZ cS rs A0 cX6_mayStand 5 (some .boolean) RX6 0
set_option maxRecDepth 20000 in
set_option maxHeartbeats 4000000 in
theorem t_S_mayStand_b55 {u : Mem} {R : Int32 → Prop} {X : Prop} {x1 : Int32} {x2 : Int32} {x3 : Int32} {s0 : Int32} {s1 : Int32} {Q : Int32 → Prop} (hR : ∀ (z3 : Int32), R z3 → a_S_mayStand l D ad cI cZ cS rs A0 (jRi u Q) 2 [(0, .ref (ad 7)), (1, .int x1), (2, .int x2), (3, .int z3)] [] u) (hX : X → a_S_mayStand l D ad cI cZ cS rs A0 (jRi u Q) 66 [] [] u) (h : w_S_mayStand_b55 R X x1 x2 x3 s0 s1 u Q) : a_S_mayStand l D ad cI cZ cS rs A0 (jRi u Q) 55 [(0, .ref (ad 7)), (1, .int x1), (2, .int x2), (3, .int x3)] [.int s0, .int s1] u := by
  unfold w_S_mayStand_b55 at h
  refine J_icmp_eq (tgt := 60) dX6_mayStand_55 rfl (fun c => ?_) (fun c => ?_)
  · have h := h.1 c
    refine J_iinc (v := (x3 + 1)) (lv' := [(3, .int (x3 + 1)), (0, .ref (ad 7)), (1, .int x1), (2, .int x2)]) 3 dX6_mayStand_60 rfl rfl (Nat.le_of_ble_eq_true rfl) rfl ?_
    refine J_goto (tgt := 2) dX6_mayStand_63 rfl ?_
    exact J_sub (lv' := [(0, .ref (ad 7)), (1, .int x1), (2, .int x2), (3, .int (x3 + 1))]) [1, 2, 3, 0] rfl (hR (x3 + 1) h)
  · have h := h.2 c
    refine J_iconst (v := 0) dX6_mayStand_58 ci_0 ?_
    exact J_zret rfl dX6_mayStand_59 (bz_n bz_0) ⟨rfl, _, rfl, h⟩
set_option maxRecDepth 20000 in
set_option maxHeartbeats 4000000 in
theorem t_S_mayStand_b35 {u : Mem} {R : Int32 → Prop} {X : Prop} {x1 : Int32} {x2 : Int32} {x3 : Int32} {s0 : Int32} {Q : Int32 → Prop} (hR : ∀ (z3 : Int32), R z3 → a_S_mayStand l D ad cI cZ cS rs A0 (jRi u Q) 2 [(0, .ref (ad 7)), (1, .int x1), (2, .int x2), (3, .int z3)] [] u) (hX : X → a_S_mayStand l D ad cI cZ cS rs A0 (jRi u Q) 66 [] [] u) (h : w_S_mayStand_b35 R X x1 x2 x3 s0 u Q) : a_S_mayStand l D ad cI cZ cS rs A0 (jRi u Q) 35 [(0, .ref (ad 7)), (1, .int x1), (2, .int x2), (3, .int x3)] [.int s0] u := by
  unfold w_S_mayStand_b35 at h
  refine J_istore (lv' := [(4, .int s0), (0, .ref (ad 7)), (1, .int x1), (2, .int x2), (3, .int x3)]) dX6_mayStand_35 (Nat.le_of_ble_eq_true rfl) rfl ?_
  refine J_iload 0 dX6_mayStand_37 rfl ?_
  refine J_aload_n 1 dX6_mayStand_39 rfl rfl ?_
  refine gX_7_0 dX6_mayStand_40 ?_
  refine J_iload_n 4 dX6_mayStand_43 rfl rfl ?_
  refine lX_15 (v := (u.2 15 x3.toNatClampNeg)) h.1 rfl dX6_mayStand_44 ?_
  have h := h.2
  refine J_iload_n 2 dX6_mayStand_45 rfl rfl ?_
  refine J_iand dX6_mayStand_46 ?_
  refine J_if_eq (tgt := 54) dX6_mayStand_47 rfl (fun c => ?_) (fun c => ?_)
  · have h := h.1 c
    refine J_iconst (v := 0) dX6_mayStand_54 ci_0 ?_
    exact J_sub (lv' := [(0, .ref (ad 7)), (1, .int x1), (2, .int x2), (3, .int x3)]) [1, 2, 3, 4] rfl (t_S_mayStand_b55 hR hX h)
  · have h := h.2 c
    refine J_iconst (v := 1) dX6_mayStand_50 ci_1 ?_
    refine J_goto (tgt := 55) dX6_mayStand_51 rfl ?_
    exact J_sub (lv' := [(0, .ref (ad 7)), (1, .int x1), (2, .int x2), (3, .int x3)]) [1, 2, 3, 4] rfl (t_S_mayStand_b55 hR hX h)
set_option maxRecDepth 20000 in
set_option maxHeartbeats 4000000 in
theorem t_S_mayStand_l2 {u : Mem}  {X : Prop} {x1 : Int32} {x2 : Int32} {Q : Int32 → Prop} (hX : X → a_S_mayStand l D ad cI cZ cS rs A0 (jRi u Q) 66 [] [] u) : ∀ (n : Nat) (x3 : Int32), w_S_mayStand_l2 X x1 x2 u Q n x3 → a_S_mayStand l D ad cI cZ cS rs A0 (jRi u Q) 2 [(0, .ref (ad 7)), (1, .int x1), (2, .int x2), (3, .int x3)] [] u := by
  intro n
  induction n with
  | zero =>
    intro x3 h
    exact (by simp only [w_S_mayStand_l2] at h : False).elim
  | succ n ih =>
    intro x3 h
    rw [w_S_mayStand_l2] at h
    refine J_iload_n 3 dX6_mayStand_2 rfl rfl ?_
    refine J_aload_n 0 dX6_mayStand_3 rfl rfl ?_
    refine gX_7_2 (v := (u.1 13)) rfl dX6_mayStand_4 ?_
    refine J_icmp_ge (tgt := 66) dX6_mayStand_7 rfl (fun c => ?_) (fun c => ?_)
    · have h := h.1 c
      exact J_sub (lv' := []) [] rfl (hX h)
    · have h := h.2 c
      refine J_iload_n 3 dX6_mayStand_10 rfl rfl ?_
      refine J_bipush (v := 8) dX6_mayStand_11 cb_8 ?_
      refine J_icmp_ge (tgt := 66) dX6_mayStand_13 rfl (fun c => ?_) (fun c => ?_)
      · have h := h.1 c
        exact J_sub (lv' := []) [] rfl (hX h)
      · have h := h.2 c
        refine J_aload_n 0 dX6_mayStand_16 rfl rfl ?_
        refine gX_7_1 dX6_mayStand_17 ?_
        refine J_iload_n 3 dX6_mayStand_20 rfl rfl ?_
        refine lX_16 (v := (u.2 16 x3.toNatClampNeg)) h.1 rfl dX6_mayStand_21 ?_
        have h := h.2
        refine J_iload_n 2 dX6_mayStand_22 rfl rfl ?_
        refine J_ishr dX6_mayStand_23 ?_
        refine J_iconst (v := 1) dX6_mayStand_24 ci_1 ?_
        refine J_iand dX6_mayStand_25 ?_
        refine J_iconst (v := 1) dX6_mayStand_26 ci_1 ?_
        refine J_icmp_ne (tgt := 34) dX6_mayStand_27 rfl (fun c => ?_) (fun c => ?_)
        · have h := h.1 c
          refine J_iconst (v := 0) dX6_mayStand_34 ci_0 ?_
          exact (t_S_mayStand_b35 ih hX h)
        · have h := h.2 c
          refine J_iconst (v := 1) dX6_mayStand_30 ci_1 ?_
          refine J_goto (tgt := 35) dX6_mayStand_31 rfl ?_
          exact (t_S_mayStand_b35 ih hX h)
set_option maxRecDepth 20000 in
set_option maxHeartbeats 4000000 in
theorem c_S_mayStand {u : Mem} {x1 : Int32} {x2 : Int32} {Q : Int32 → Prop} (h : w_S_mayStand x1 x2 u Q) : MX l D ad cI cZ cS rs A0 yX6_mayStand cX6_mayStand 5 (some .boolean) 0 [.ref (ad 7), .int x1, .int x2] u (jRi u Q) := by
  unfold w_S_mayStand at h
  refine JMet.of (by decide) (Nat.le_of_ble_eq_true rfl) ?_
  refine J_sub (lv' := [(0, .ref (ad 7)), (1, .int x1), (2, .int x2)]) [0, 1, 2] rfl ?_
  show a_S_mayStand l D ad cI cZ cS rs A0 (jRi u Q) 0 [(0, .ref (ad 7)), (1, .int x1), (2, .int x2)] [] u
  refine J_iconst (v := 0) dX6_mayStand_0 ci_0 ?_
  refine J_istore_n (lv' := [(3, .int 0), (0, .ref (ad 7)), (1, .int x1), (2, .int x2)]) dX6_mayStand_1 rfl (Nat.le_of_ble_eq_true rfl) rfl ?_
  obtain ⟨n1, h⟩ := h
  refine J_sub (lv' := [(0, .ref (ad 7)), (1, .int x1), (2, .int x2), (3, .int 0)]) [1, 2, 3, 0] rfl (t_S_mayStand_l2 ?_ n1 0 h)
  · intro h
    refine J_iconst (v := 1) dX6_mayStand_66 ci_1 ?_
    exact J_zret rfl dX6_mayStand_67 (bz_n bz_1) ⟨rfl, _, rfl, h⟩
abbrev a_S_howManyStand (l : Launch) (D : va_G) (ad : Nat → Nat) (cI cZ cS : ClassId) (rs : va_W) (A0 : Nat → Prop) := AX l D ad cI cZ cS rs A0 cX6_howManyStand 4 (some .int) RX6 1
set_option maxRecDepth 20000 in
set_option maxHeartbeats 4000000 in
theorem t_S_howManyStand_l4 {u : Mem}  {X : Int32 → Prop} {x1 : Int32} {Q : Int32 → Prop} (hX : ∀ (x2 : Int32), X x2 → a_S_howManyStand l D ad cI cZ cS rs A0 (jRi u Q) 29 [(2, .int x2)] [] u) : ∀ (n : Nat) (x2 : Int32) (x3 : Int32), w_S_howManyStand_l4 X x1 u Q n x2 x3 → a_S_howManyStand l D ad cI cZ cS rs A0 (jRi u Q) 4 [(0, .ref (ad 7)), (1, .int x1), (2, .int x2), (3, .int x3)] [] u := by
  intro n
  induction n with
  | zero =>
    intro x2 x3 h
    exact (by simp only [w_S_howManyStand_l4] at h : False).elim
  | succ n ih =>
    intro x2 x3 h
    rw [w_S_howManyStand_l4] at h
    refine J_iload_n 3 dX6_howManyStand_4 rfl rfl ?_
    refine J_sipush (v := 256) dX6_howManyStand_5 cs_256 ?_
    refine J_icmp_ge (tgt := 29) dX6_howManyStand_8 rfl (fun c => ?_) (fun c => ?_)
    · have h := h.1 c
      exact J_sub (lv' := [(2, .int x2)]) [2] rfl (hX x2 h)
    · have h := h.2 c
      refine J_aload_n 0 dX6_howManyStand_11 rfl rfl ?_
      refine J_iload_n 3 dX6_howManyStand_12 rfl rfl ?_
      refine J_iload_n 1 dX6_howManyStand_13 rfl rfl ?_
      refine JV_Ri kV_RX6_22 7 rX_7 rfl rfl (c_S_mayStand h) rfl rfl (by decide) (Nat.le_of_ble_eq_true rfl) dX6_howManyStand_14 (fun r1 h => ?_)
      refine J_if_eq (tgt := 23) dX6_howManyStand_17 rfl (fun c => ?_) (fun c => ?_)
      · have h := h.1 c
        refine J_iinc (v := (x3 + 1)) (lv' := [(3, .int (x3 + 1)), (0, .ref (ad 7)), (1, .int x1), (2, .int x2)]) 3 dX6_howManyStand_23 rfl rfl (Nat.le_of_ble_eq_true rfl) rfl ?_
        refine J_goto (tgt := 4) dX6_howManyStand_26 rfl ?_
        exact J_sub (lv' := [(0, .ref (ad 7)), (1, .int x1), (2, .int x2), (3, .int (x3 + 1))]) [1, 2, 3, 0] rfl (ih x2 (x3 + 1) h)
      · have h := h.2 c
        refine J_iinc (v := (x2 + 1)) (lv' := [(2, .int (x2 + 1)), (0, .ref (ad 7)), (1, .int x1), (3, .int x3)]) 2 dX6_howManyStand_20 rfl rfl (Nat.le_of_ble_eq_true rfl) rfl ?_
        refine J_iinc (v := (x3 + 1)) (lv' := [(3, .int (x3 + 1)), (2, .int (x2 + 1)), (0, .ref (ad 7)), (1, .int x1)]) 3 dX6_howManyStand_23 rfl rfl (Nat.le_of_ble_eq_true rfl) rfl ?_
        refine J_goto (tgt := 4) dX6_howManyStand_26 rfl ?_
        exact J_sub (lv' := [(0, .ref (ad 7)), (1, .int x1), (2, .int (x2 + 1)), (3, .int (x3 + 1))]) [2, 3, 1, 0] rfl (ih (x2 + 1) (x3 + 1) h)
set_option maxRecDepth 20000 in
set_option maxHeartbeats 4000000 in
theorem c_S_howManyStand {u : Mem} {x1 : Int32} {Q : Int32 → Prop} (h : w_S_howManyStand x1 u Q) : MX l D ad cI cZ cS rs A0 yX6_howManyStand cX6_howManyStand 4 (some .int) 1 [.ref (ad 7), .int x1] u (jRi u Q) := by
  unfold w_S_howManyStand at h
  refine JMet.of (by decide) (Nat.le_of_ble_eq_true rfl) ?_
  refine J_sub (lv' := [(0, .ref (ad 7)), (1, .int x1)]) [0, 1] rfl ?_
  show a_S_howManyStand l D ad cI cZ cS rs A0 (jRi u Q) 0 [(0, .ref (ad 7)), (1, .int x1)] [] u
  refine J_iconst (v := 0) dX6_howManyStand_0 ci_0 ?_
  refine J_istore_n (lv' := [(2, .int 0), (0, .ref (ad 7)), (1, .int x1)]) dX6_howManyStand_1 rfl (Nat.le_of_ble_eq_true rfl) rfl ?_
  refine J_iconst (v := 0) dX6_howManyStand_2 ci_0 ?_
  refine J_istore_n (lv' := [(3, .int 0), (2, .int 0), (0, .ref (ad 7)), (1, .int x1)]) dX6_howManyStand_3 rfl (Nat.le_of_ble_eq_true rfl) rfl ?_
  obtain ⟨n4, h⟩ := h
  refine J_sub (lv' := [(0, .ref (ad 7)), (1, .int x1), (2, .int 0), (3, .int 0)]) [2, 3, 1, 0] rfl (t_S_howManyStand_l4 ?_ n4 0 0 h)
  · intro z3 h
    refine J_iload_n 0 dX6_howManyStand_29 rfl rfl ?_
    exact J_iret rfl dX6_howManyStand_30 ⟨rfl, _, rfl, h⟩
abbrev a_S_fewestStand (l : Launch) (D : va_G) (ad : Nat → Nat) (cI cZ cS : ClassId) (rs : va_W) (A0 : Nat → Prop) := AX l D ad cI cZ cS rs A0 cX6_fewestStand 4 (some .int) RX6 1
set_option maxRecDepth 20000 in
set_option maxHeartbeats 4000000 in
theorem t_S_fewestStand_b27 {u : Mem} {R : Int32 → Int32 → Prop} {X : Int32 → Prop} {x1 : Int32} {x2 : Int32} {x3 : Int32} {Q : Int32 → Prop} (hR : ∀ (z2 : Int32) (z3 : Int32), R z2 z3 → a_S_fewestStand l D ad cI cZ cS rs A0 (jRi u Q) 4 [(0, .ref (ad 7)), (1, .int x1), (2, .int z2), (3, .int z3)] [] u) (hX : ∀ (z2 : Int32), X z2 → a_S_fewestStand l D ad cI cZ cS rs A0 (jRi u Q) 44 [(2, .int z2)] [] u) (h : w_S_fewestStand_b27 R X x1 x2 x3 u Q) : a_S_fewestStand l D ad cI cZ cS rs A0 (jRi u Q) 27 [(0, .ref (ad 7)), (1, .int x1), (2, .int x2), (3, .int x3)] [] u := by
  unfold w_S_fewestStand_b27 at h
  refine J_aload_n 0 dX6_fewestStand_27 rfl rfl ?_
  refine J_iload_n 3 dX6_fewestStand_28 rfl rfl ?_
  refine J_iload_n 1 dX6_fewestStand_29 rfl rfl ?_
  refine JV_Ri kV_RX6_22 7 rX_7 rfl rfl (c_S_mayStand h) rfl rfl (by decide) (Nat.le_of_ble_eq_true rfl) dX6_fewestStand_30 (fun r1 h => ?_)
  refine J_if_eq (tgt := 38) dX6_fewestStand_33 rfl (fun c => ?_) (fun c => ?_)
  · have h := h.1 c
    refine J_iinc (v := (x3 + 1)) (lv' := [(3, .int (x3 + 1)), (0, .ref (ad 7)), (1, .int x1), (2, .int x2)]) 3 dX6_fewestStand_38 rfl rfl (Nat.le_of_ble_eq_true rfl) rfl ?_
    refine J_goto (tgt := 4) dX6_fewestStand_41 rfl ?_
    exact J_sub (lv' := [(0, .ref (ad 7)), (1, .int x1), (2, .int x2), (3, .int (x3 + 1))]) [1, 2, 3, 0] rfl (hR x2 (x3 + 1) h)
  · have h := h.2 c
    refine J_iload_n 3 dX6_fewestStand_36 rfl rfl ?_
    refine J_istore_n (lv' := [(2, .int x3), (0, .ref (ad 7)), (1, .int x1), (3, .int x3)]) dX6_fewestStand_37 rfl (Nat.le_of_ble_eq_true rfl) rfl ?_
    refine J_iinc (v := (x3 + 1)) (lv' := [(3, .int (x3 + 1)), (2, .int x3), (0, .ref (ad 7)), (1, .int x1)]) 3 dX6_fewestStand_38 rfl rfl (Nat.le_of_ble_eq_true rfl) rfl ?_
    refine J_goto (tgt := 4) dX6_fewestStand_41 rfl ?_
    exact J_sub (lv' := [(0, .ref (ad 7)), (1, .int x1), (2, .int x3), (3, .int (x3 + 1))]) [2, 3, 1, 0] rfl (hR x3 (x3 + 1) h)
set_option maxRecDepth 20000 in
set_option maxHeartbeats 4000000 in
theorem t_S_fewestStand_l4 {u : Mem}  {X : Int32 → Prop} {x1 : Int32} {Q : Int32 → Prop} (hX : ∀ (x2 : Int32), X x2 → a_S_fewestStand l D ad cI cZ cS rs A0 (jRi u Q) 44 [(2, .int x2)] [] u) : ∀ (n : Nat) (x2 : Int32) (x3 : Int32), w_S_fewestStand_l4 X x1 u Q n x2 x3 → a_S_fewestStand l D ad cI cZ cS rs A0 (jRi u Q) 4 [(0, .ref (ad 7)), (1, .int x1), (2, .int x2), (3, .int x3)] [] u := by
  intro n
  induction n with
  | zero =>
    intro x2 x3 h
    exact (by simp only [w_S_fewestStand_l4] at h : False).elim
  | succ n ih =>
    intro x2 x3 h
    rw [w_S_fewestStand_l4] at h
    refine J_iload_n 3 dX6_fewestStand_4 rfl rfl ?_
    refine J_sipush (v := 256) dX6_fewestStand_5 cs_256 ?_
    refine J_icmp_ge (tgt := 44) dX6_fewestStand_8 rfl (fun c => ?_) (fun c => ?_)
    · have h := h.1 c
      exact J_sub (lv' := [(2, .int x2)]) [2] rfl (hX x2 h)
    · have h := h.2 c
      refine J_iload_n 2 dX6_fewestStand_11 rfl rfl ?_
      refine J_iconst (v := (-1)) dX6_fewestStand_12 ci_m1 ?_
      refine J_icmp_eq (tgt := 27) dX6_fewestStand_13 rfl (fun c => ?_) (fun c => ?_)
      · have h := h.1 c
        exact (t_S_fewestStand_b27 ih hX h)
      · have h := h.2 c
        refine J_iload_n 3 dX6_fewestStand_16 rfl rfl ?_
        refine JS_Ri kS_RX6_26 (c_I_bitCount h) rfl rfl (by decide) (Nat.le_of_ble_eq_true rfl) dX6_fewestStand_17 (fun r3 h => ?_)
        refine J_iload_n 2 dX6_fewestStand_20 rfl rfl ?_
        refine JS_Ri kS_RX6_26 (c_I_bitCount h) rfl rfl (by decide) (Nat.le_of_ble_eq_true rfl) dX6_fewestStand_21 (fun r5 h => ?_)
        refine J_icmp_ge (tgt := 38) dX6_fewestStand_24 rfl (fun c => ?_) (fun c => ?_)
        · have h := h.1 c
          refine J_iinc (v := (x3 + 1)) (lv' := [(3, .int (x3 + 1)), (0, .ref (ad 7)), (1, .int x1), (2, .int x2)]) 3 dX6_fewestStand_38 rfl rfl (Nat.le_of_ble_eq_true rfl) rfl ?_
          refine J_goto (tgt := 4) dX6_fewestStand_41 rfl ?_
          exact J_sub (lv' := [(0, .ref (ad 7)), (1, .int x1), (2, .int x2), (3, .int (x3 + 1))]) [1, 2, 3, 0] rfl (ih x2 (x3 + 1) h)
        · have h := h.2 c
          exact (t_S_fewestStand_b27 ih hX h)
set_option maxRecDepth 20000 in
set_option maxHeartbeats 4000000 in
theorem c_S_fewestStand {u : Mem} {x1 : Int32} {Q : Int32 → Prop} (h : w_S_fewestStand x1 u Q) : MX l D ad cI cZ cS rs A0 yX6_fewestStand cX6_fewestStand 4 (some .int) 1 [.ref (ad 7), .int x1] u (jRi u Q) := by
  unfold w_S_fewestStand at h
  refine JMet.of (by decide) (Nat.le_of_ble_eq_true rfl) ?_
  refine J_sub (lv' := [(0, .ref (ad 7)), (1, .int x1)]) [0, 1] rfl ?_
  show a_S_fewestStand l D ad cI cZ cS rs A0 (jRi u Q) 0 [(0, .ref (ad 7)), (1, .int x1)] [] u
  refine J_iconst (v := (-1)) dX6_fewestStand_0 ci_m1 ?_
  refine J_istore_n (lv' := [(2, .int (-1)), (0, .ref (ad 7)), (1, .int x1)]) dX6_fewestStand_1 rfl (Nat.le_of_ble_eq_true rfl) rfl ?_
  refine J_iconst (v := 0) dX6_fewestStand_2 ci_0 ?_
  refine J_istore_n (lv' := [(3, .int 0), (2, .int (-1)), (0, .ref (ad 7)), (1, .int x1)]) dX6_fewestStand_3 rfl (Nat.le_of_ble_eq_true rfl) rfl ?_
  obtain ⟨n8, h⟩ := h
  refine J_sub (lv' := [(0, .ref (ad 7)), (1, .int x1), (2, .int (-1)), (3, .int 0)]) [2, 3, 1, 0] rfl (t_S_fewestStand_l4 ?_ n8 (-1) 0 h)
  · intro z7 h
    refine J_iload_n 0 dX6_fewestStand_44 rfl rfl ?_
    exact J_iret rfl dX6_fewestStand_45 ⟨rfl, _, rfl, h⟩
abbrev a_S_howManyStandWith (l : Launch) (D : va_G) (ad : Nat → Nat) (cI cZ cS : ClassId) (rs : va_W) (A0 : Nat → Prop) := AX l D ad cI cZ cS rs A0 cX6_howManyStandWith 5 (some .int) RX6 1
set_option maxRecDepth 20000 in
set_option maxHeartbeats 4000000 in
theorem t_S_howManyStandWith_l5 {u : Mem}  {X : Int32 → Prop} {x1 : Int32} {x2 : Int32} {Q : Int32 → Prop} (hX : ∀ (x3 : Int32), X x3 → a_S_howManyStandWith l D ad cI cZ cS rs A0 (jRi u Q) 42 [(3, .int x3)] [] u) : ∀ (n : Nat) (x3 : Int32) (x4 : Int32), w_S_howManyStandWith_l5 X x1 x2 u Q n x3 x4 → a_S_howManyStandWith l D ad cI cZ cS rs A0 (jRi u Q) 5 [(0, .ref (ad 7)), (1, .int x1), (2, .int x2), (3, .int x3), (4, .int x4)] [] u := by
  intro n
  induction n with
  | zero =>
    intro x3 x4 h
    exact (by simp only [w_S_howManyStandWith_l5] at h : False).elim
  | succ n ih =>
    intro x3 x4 h
    rw [w_S_howManyStandWith_l5] at h
    refine J_iload 4 dX6_howManyStandWith_5 rfl ?_
    refine J_sipush (v := 256) dX6_howManyStandWith_7 cs_256 ?_
    refine J_icmp_ge (tgt := 42) dX6_howManyStandWith_10 rfl (fun c => ?_) (fun c => ?_)
    · have h := h.1 c
      exact J_sub (lv' := [(3, .int x3)]) [3] rfl (hX x3 h)
    · have h := h.2 c
      refine J_iload 4 dX6_howManyStandWith_13 rfl ?_
      refine J_iload_n 2 dX6_howManyStandWith_15 rfl rfl ?_
      refine J_ishr dX6_howManyStandWith_16 ?_
      refine J_iconst (v := 1) dX6_howManyStandWith_17 ci_1 ?_
      refine J_iand dX6_howManyStandWith_18 ?_
      refine J_iconst (v := 1) dX6_howManyStandWith_19 ci_1 ?_
      refine J_icmp_ne (tgt := 36) dX6_howManyStandWith_20 rfl (fun c => ?_) (fun c => ?_)
      · have h := h.1 c
        refine J_iinc (v := (x4 + 1)) (lv' := [(4, .int (x4 + 1)), (0, .ref (ad 7)), (1, .int x1), (2, .int x2), (3, .int x3)]) 4 dX6_howManyStandWith_36 rfl rfl (Nat.le_of_ble_eq_true rfl) rfl ?_
        refine J_goto (tgt := 5) dX6_howManyStandWith_39 rfl ?_
        exact J_sub (lv' := [(0, .ref (ad 7)), (1, .int x1), (2, .int x2), (3, .int x3), (4, .int (x4 + 1))]) [1, 2, 3, 4, 0] rfl (ih x3 (x4 + 1) h)
      · have h := h.2 c
        refine J_aload_n 0 dX6_howManyStandWith_23 rfl rfl ?_
        refine J_iload 4 dX6_howManyStandWith_24 rfl ?_
        refine J_iload_n 1 dX6_howManyStandWith_26 rfl rfl ?_
        refine JV_Ri kV_RX6_22 7 rX_7 rfl rfl (c_S_mayStand h) rfl rfl (by decide) (Nat.le_of_ble_eq_true rfl) dX6_howManyStandWith_27 (fun r1 h => ?_)
        refine J_if_eq (tgt := 36) dX6_howManyStandWith_30 rfl (fun c => ?_) (fun c => ?_)
        · have h := h.1 c
          refine J_iinc (v := (x4 + 1)) (lv' := [(4, .int (x4 + 1)), (0, .ref (ad 7)), (1, .int x1), (2, .int x2), (3, .int x3)]) 4 dX6_howManyStandWith_36 rfl rfl (Nat.le_of_ble_eq_true rfl) rfl ?_
          refine J_goto (tgt := 5) dX6_howManyStandWith_39 rfl ?_
          exact J_sub (lv' := [(0, .ref (ad 7)), (1, .int x1), (2, .int x2), (3, .int x3), (4, .int (x4 + 1))]) [1, 2, 3, 4, 0] rfl (ih x3 (x4 + 1) h)
        · have h := h.2 c
          refine J_iinc (v := (x3 + 1)) (lv' := [(3, .int (x3 + 1)), (0, .ref (ad 7)), (1, .int x1), (2, .int x2), (4, .int x4)]) 3 dX6_howManyStandWith_33 rfl rfl (Nat.le_of_ble_eq_true rfl) rfl ?_
          refine J_iinc (v := (x4 + 1)) (lv' := [(4, .int (x4 + 1)), (3, .int (x3 + 1)), (0, .ref (ad 7)), (1, .int x1), (2, .int x2)]) 4 dX6_howManyStandWith_36 rfl rfl (Nat.le_of_ble_eq_true rfl) rfl ?_
          refine J_goto (tgt := 5) dX6_howManyStandWith_39 rfl ?_
          exact J_sub (lv' := [(0, .ref (ad 7)), (1, .int x1), (2, .int x2), (3, .int (x3 + 1)), (4, .int (x4 + 1))]) [2, 3, 4, 1, 0] rfl (ih (x3 + 1) (x4 + 1) h)
set_option maxRecDepth 20000 in
set_option maxHeartbeats 4000000 in
theorem c_S_howManyStandWith {u : Mem} {x1 : Int32} {x2 : Int32} {Q : Int32 → Prop} (h : w_S_howManyStandWith x1 x2 u Q) : MX l D ad cI cZ cS rs A0 yX6_howManyStandWith cX6_howManyStandWith 5 (some .int) 1 [.ref (ad 7), .int x1, .int x2] u (jRi u Q) := by
  unfold w_S_howManyStandWith at h
  refine JMet.of (by decide) (Nat.le_of_ble_eq_true rfl) ?_
  refine J_sub (lv' := [(0, .ref (ad 7)), (1, .int x1), (2, .int x2)]) [0, 1, 2] rfl ?_
  show a_S_howManyStandWith l D ad cI cZ cS rs A0 (jRi u Q) 0 [(0, .ref (ad 7)), (1, .int x1), (2, .int x2)] [] u
  refine J_iconst (v := 0) dX6_howManyStandWith_0 ci_0 ?_
  refine J_istore_n (lv' := [(3, .int 0), (0, .ref (ad 7)), (1, .int x1), (2, .int x2)]) dX6_howManyStandWith_1 rfl (Nat.le_of_ble_eq_true rfl) rfl ?_
  refine J_iconst (v := 0) dX6_howManyStandWith_2 ci_0 ?_
  refine J_istore (lv' := [(4, .int 0), (3, .int 0), (0, .ref (ad 7)), (1, .int x1), (2, .int x2)]) dX6_howManyStandWith_3 (Nat.le_of_ble_eq_true rfl) rfl ?_
  obtain ⟨n4, h⟩ := h
  refine J_sub (lv' := [(0, .ref (ad 7)), (1, .int x1), (2, .int x2), (3, .int 0), (4, .int 0)]) [2, 3, 4, 1, 0] rfl (t_S_howManyStandWith_l5 ?_ n4 0 0 h)
  · intro z3 h
    refine J_iload_n 0 dX6_howManyStandWith_42 rfl rfl ?_
    exact J_iret rfl dX6_howManyStandWith_43 ⟨rfl, _, rfl, h⟩
abbrev a_S_nearestHalf (l : Launch) (D : va_G) (ad : Nat → Nat) (cI cZ cS : ClassId) (rs : va_W) (A0 : Nat → Prop) := AX l D ad cI cZ cS rs A0 cX6_nearestHalf 7 (some .int) RX6 2
set_option maxRecDepth 20000 in
set_option maxHeartbeats 4000000 in
theorem t_S_nearestHalf_b55 {u : Mem} {R : Int32 → Int32 → Int32 → Prop} {X : Int32 → Prop} {x1 : Int32} {x2 : Int32} {x5 : Int32} {x6 : Int32} {Q : Int32 → Prop} (hR : ∀ (z3 : Int32) (z4 : Int32) (z5 : Int32), R z3 z4 z5 → a_S_nearestHalf l D ad cI cZ cS rs A0 (jRi u Q) 20 [(0, .ref (ad 7)), (1, .int x1), (2, .int x2), (3, .int z3), (4, .int z4), (5, .int z5)] [] u) (hX : ∀ (z3 : Int32), X z3 → a_S_nearestHalf l D ad cI cZ cS rs A0 (jRi u Q) 68 [(3, .int z3)] [] u) (h : w_S_nearestHalf_b55 R X x1 x2 x5 x6 u Q) : a_S_nearestHalf l D ad cI cZ cS rs A0 (jRi u Q) 55 [(0, .ref (ad 7)), (1, .int x1), (2, .int x2), (5, .int x5), (6, .int x6)] [] u := by
  unfold w_S_nearestHalf_b55 at h
  refine J_iload 3 dX6_nearestHalf_55 rfl ?_
  refine J_istore_n (lv' := [(3, .int x5), (0, .ref (ad 7)), (1, .int x1), (2, .int x2), (5, .int x5), (6, .int x6)]) dX6_nearestHalf_57 rfl (Nat.le_of_ble_eq_true rfl) rfl ?_
  refine J_iload 5 dX6_nearestHalf_58 rfl ?_
  refine J_istore (lv' := [(4, .int x6), (3, .int x5), (0, .ref (ad 7)), (1, .int x1), (2, .int x2), (5, .int x5), (6, .int x6)]) dX6_nearestHalf_60 (Nat.le_of_ble_eq_true rfl) rfl ?_
  refine J_iinc (v := (x5 + 1)) (lv' := [(5, .int (x5 + 1)), (4, .int x6), (3, .int x5), (0, .ref (ad 7)), (1, .int x1), (2, .int x2), (6, .int x6)]) 5 dX6_nearestHalf_62 rfl rfl (Nat.le_of_ble_eq_true rfl) rfl ?_
  refine J_goto (tgt := 20) dX6_nearestHalf_65 rfl ?_
  exact J_sub (lv' := [(0, .ref (ad 7)), (1, .int x1), (2, .int x2), (3, .int x5), (4, .int x6), (5, .int (x5 + 1))]) [3, 4, 5, 2, 1, 0] rfl (hR x5 x6 (x5 + 1) h)
set_option maxRecDepth 20000 in
set_option maxHeartbeats 4000000 in
theorem t_S_nearestHalf_l20 {u : Mem}  {X : Int32 → Prop} {x1 : Int32} {x2 : Int32} {Q : Int32 → Prop} (hX : ∀ (x3 : Int32), X x3 → a_S_nearestHalf l D ad cI cZ cS rs A0 (jRi u Q) 68 [(3, .int x3)] [] u) : ∀ (n : Nat) (x3 : Int32) (x4 : Int32) (x5 : Int32), w_S_nearestHalf_l20 X x1 x2 u Q n x3 x4 x5 → a_S_nearestHalf l D ad cI cZ cS rs A0 (jRi u Q) 20 [(0, .ref (ad 7)), (1, .int x1), (2, .int x2), (3, .int x3), (4, .int x4), (5, .int x5)] [] u := by
  intro n
  induction n with
  | zero =>
    intro x3 x4 x5 h
    exact (by simp only [w_S_nearestHalf_l20] at h : False).elim
  | succ n ih =>
    intro x3 x4 x5 h
    rw [w_S_nearestHalf_l20] at h
    refine J_iload 5 dX6_nearestHalf_20 rfl ?_
    refine J_bipush (v := 8) dX6_nearestHalf_22 cb_8 ?_
    refine J_icmp_ge (tgt := 68) dX6_nearestHalf_24 rfl (fun c => ?_) (fun c => ?_)
    · have h := h.1 c
      exact J_sub (lv' := [(3, .int x3)]) [3] rfl (hX x3 h)
    · have h := h.2 c
      refine J_iconst (v := 2) dX6_nearestHalf_27 ci_2 ?_
      refine J_aload_n 0 dX6_nearestHalf_28 rfl rfl ?_
      refine J_iload_n 1 dX6_nearestHalf_29 rfl rfl ?_
      refine J_iload 5 dX6_nearestHalf_30 rfl ?_
      refine JV_Ri kV_RX6_35 7 rX_7 rfl rfl (c_S_howManyStandWith h) rfl rfl (by decide) (Nat.le_of_ble_eq_true rfl) dX6_nearestHalf_32 (fun r3 h => ?_)
      refine J_imul dX6_nearestHalf_35 ?_
      refine J_iload_n 2 dX6_nearestHalf_36 rfl rfl ?_
      refine J_isub dX6_nearestHalf_37 ?_
      refine J_mabs km_l_abs_RX6_39 (by decide) (Nat.le_of_ble_eq_true rfl) dX6_nearestHalf_38 ?_
      refine J_istore (lv' := [(6, .int (if 0 ≤ ((2 * r3) - x2) then ((2 * r3) - x2) else 0 - ((2 * r3) - x2))), (0, .ref (ad 7)), (1, .int x1), (2, .int x2), (3, .int x3), (4, .int x4), (5, .int x5)]) dX6_nearestHalf_41 (Nat.le_of_ble_eq_true rfl) rfl ?_
      refine J_iload_n 4 dX6_nearestHalf_43 rfl rfl ?_
      refine J_iconst (v := (-1)) dX6_nearestHalf_44 ci_m1 ?_
      refine J_icmp_eq (tgt := 55) dX6_nearestHalf_45 rfl (fun c => ?_) (fun c => ?_)
      · have h := h.1 c
        exact J_sub (lv' := [(0, .ref (ad 7)), (1, .int x1), (2, .int x2), (5, .int x5), (6, .int (if 0 ≤ ((2 * r3) - x2) then ((2 * r3) - x2) else 0 - ((2 * r3) - x2)))]) [1, 2, 3, 6, 0] rfl (t_S_nearestHalf_b55 ih hX h)
      · have h := h.2 c
        refine J_iload 0 dX6_nearestHalf_48 rfl ?_
        refine J_iload 5 dX6_nearestHalf_50 rfl ?_
        refine J_icmp_ge (tgt := 62) dX6_nearestHalf_52 rfl (fun c => ?_) (fun c => ?_)
        · have h := h.1 c
          refine J_iinc (v := (x5 + 1)) (lv' := [(5, .int (x5 + 1)), (6, .int (if 0 ≤ ((2 * r3) - x2) then ((2 * r3) - x2) else 0 - ((2 * r3) - x2))), (0, .ref (ad 7)), (1, .int x1), (2, .int x2), (3, .int x3), (4, .int x4)]) 6 dX6_nearestHalf_62 rfl rfl (Nat.le_of_ble_eq_true rfl) rfl ?_
          refine J_goto (tgt := 20) dX6_nearestHalf_65 rfl ?_
          exact J_sub (lv' := [(0, .ref (ad 7)), (1, .int x1), (2, .int x2), (3, .int x3), (4, .int x4), (5, .int (x5 + 1))]) [2, 3, 4, 5, 6, 0] rfl (ih x3 x4 (x5 + 1) h)
        · have h := h.2 c
          exact J_sub (lv' := [(0, .ref (ad 7)), (1, .int x1), (2, .int x2), (5, .int x5), (6, .int (if 0 ≤ ((2 * r3) - x2) then ((2 * r3) - x2) else 0 - ((2 * r3) - x2)))]) [1, 2, 3, 6, 0] rfl (t_S_nearestHalf_b55 ih hX h)
set_option maxRecDepth 20000 in
set_option maxHeartbeats 4000000 in
theorem c_S_nearestHalf {u : Mem} {x1 : Int32} {Q : Int32 → Prop} (h : w_S_nearestHalf x1 u Q) : MX l D ad cI cZ cS rs A0 yX6_nearestHalf cX6_nearestHalf 7 (some .int) 2 [.ref (ad 7), .int x1] u (jRi u Q) := by
  unfold w_S_nearestHalf at h
  refine JMet.of (by decide) (Nat.le_of_ble_eq_true rfl) ?_
  refine J_sub (lv' := [(0, .ref (ad 7)), (1, .int x1)]) [0, 1] rfl ?_
  show a_S_nearestHalf l D ad cI cZ cS rs A0 (jRi u Q) 0 [(0, .ref (ad 7)), (1, .int x1)] [] u
  refine J_aload_n 0 dX6_nearestHalf_0 rfl rfl ?_
  refine J_iload_n 1 dX6_nearestHalf_1 rfl rfl ?_
  refine JV_Ri kV_RX6_32 7 rX_7 rfl rfl (c_S_howManyStand h) rfl rfl (by decide) (Nat.le_of_ble_eq_true rfl) dX6_nearestHalf_2 (fun r1 h => ?_)
  refine J_istore_n (lv' := [(2, .int r1), (0, .ref (ad 7)), (1, .int x1)]) dX6_nearestHalf_5 rfl (Nat.le_of_ble_eq_true rfl) rfl ?_
  refine J_iload_n 0 dX6_nearestHalf_6 rfl rfl ?_
  refine J_if_ne (tgt := 12) dX6_nearestHalf_7 rfl (fun c => ?_) (fun c => ?_)
  · have h := h.1 c
    refine J_iconst (v := (-1)) dX6_nearestHalf_12 ci_m1 ?_
    refine J_istore_n (lv' := [(3, .int (-1)), (2, .int r1), (0, .ref (ad 7)), (1, .int x1)]) dX6_nearestHalf_13 rfl (Nat.le_of_ble_eq_true rfl) rfl ?_
    refine J_iconst (v := 0) dX6_nearestHalf_14 ci_0 ?_
    refine J_istore (lv' := [(4, .int 0), (3, .int (-1)), (2, .int r1), (0, .ref (ad 7)), (1, .int x1)]) dX6_nearestHalf_15 (Nat.le_of_ble_eq_true rfl) rfl ?_
    refine J_iconst (v := 0) dX6_nearestHalf_17 ci_0 ?_
    refine J_istore (lv' := [(5, .int 0), (4, .int 0), (3, .int (-1)), (2, .int r1), (0, .ref (ad 7)), (1, .int x1)]) dX6_nearestHalf_18 (Nat.le_of_ble_eq_true rfl) rfl ?_
    obtain ⟨n6, h⟩ := h
    refine J_sub (lv' := [(0, .ref (ad 7)), (1, .int x1), (2, .int r1), (3, .int (-1)), (4, .int 0), (5, .int 0)]) [4, 5, 3, 2, 1, 0] rfl (t_S_nearestHalf_l20 ?_ n6 (-1) 0 0 h)
    · intro z5 h
      refine J_iload_n 0 dX6_nearestHalf_68 rfl rfl ?_
      exact J_iret rfl dX6_nearestHalf_69 ⟨rfl, _, rfl, h⟩
  · have h := h.2 c
    refine J_iconst (v := (-1)) dX6_nearestHalf_10 ci_m1 ?_
    exact J_iret rfl dX6_nearestHalf_11 ⟨rfl, _, rfl, h⟩
abbrev a_Z_isLost (l : Launch) (D : va_G) (ad : Nat → Nat) (cI cZ cS : ClassId) (rs : va_W) (A0 : Nat → Prop) := AX l D ad cI cZ cS rs A0 cX7_isLost 1 (some .boolean) RX7 0
set_option maxRecDepth 20000 in
set_option maxHeartbeats 4000000 in
theorem c_Z_isLost {u : Mem} {j0 : Nat} {Q : Int32 → Prop} (hj0 : j0 < 4) (h : w_Z_isLost j0 u Q) : MX l D ad cI cZ cS rs A0 yX7_isLost cX7_isLost 1 (some .boolean) 0 [.ref (ad (9 + j0))] u (jRi u Q) := by
  unfold w_Z_isLost at h
  refine JMet.of (by decide) (Nat.le_of_ble_eq_true rfl) ?_
  refine J_sub (lv' := [(0, .ref (ad (9 + j0)))]) [0] rfl ?_
  show a_Z_isLost l D ad cI cZ cS rs A0 (jRi u Q) 0 [(0, .ref (ad (9 + j0)))] [] u
  refine J_aload_n 0 dX7_isLost_0 rfl rfl ?_
  refine gX_sh_3 (v := (u.1 (16 + 3 * j0))) hj0 rfl dX7_isLost_1 ?_
  exact J_zret rfl dX7_isLost_4 (bz_n h.1) ⟨rfl, _, rfl, h.2⟩
abbrev a_Z_formOf (l : Launch) (D : va_G) (ad : Nat → Nat) (cI cZ cS : ClassId) (rs : va_W) (A0 : Nat → Prop) := AX l D ad cI cZ cS rs A0 cX7_formOf 1 (some .int) RX7 0
set_option maxRecDepth 20000 in
set_option maxHeartbeats 4000000 in
theorem c_Z_formOf {u : Mem} {j0 : Nat} {Q : Int32 → Prop} (hj0 : j0 < 4) (h : w_Z_formOf j0 u Q) : MX l D ad cI cZ cS rs A0 yX7_formOf cX7_formOf 1 (some .int) 0 [.ref (ad (9 + j0))] u (jRi u Q) := by
  unfold w_Z_formOf at h
  refine JMet.of (by decide) (Nat.le_of_ble_eq_true rfl) ?_
  refine J_sub (lv' := [(0, .ref (ad (9 + j0)))]) [0] rfl ?_
  show a_Z_formOf l D ad cI cZ cS rs A0 (jRi u Q) 0 [(0, .ref (ad (9 + j0)))] [] u
  refine J_aload_n 0 dX7_formOf_0 rfl rfl ?_
  refine gX_sh_1 (v := (u.1 (14 + 3 * j0))) hj0 rfl dX7_formOf_1 ?_
  exact J_iret rfl dX7_formOf_4 ⟨rfl, _, rfl, h⟩
abbrev a_Z_size (l : Launch) (D : va_G) (ad : Nat → Nat) (cI cZ cS : ClassId) (rs : va_W) (A0 : Nat → Prop) := AX l D ad cI cZ cS rs A0 cX7_size 1 (some .int) RX7 0
set_option maxRecDepth 20000 in
set_option maxHeartbeats 4000000 in
theorem c_Z_size {u : Mem} {j0 : Nat} {Q : Int32 → Prop} (hj0 : j0 < 4) (h : w_Z_size j0 u Q) : MX l D ad cI cZ cS rs A0 yX7_size cX7_size 1 (some .int) 0 [.ref (ad (9 + j0))] u (jRi u Q) := by
  unfold w_Z_size at h
  refine JMet.of (by decide) (Nat.le_of_ble_eq_true rfl) ?_
  refine J_sub (lv' := [(0, .ref (ad (9 + j0)))]) [0] rfl ?_
  show a_Z_size l D ad cI cZ cS rs A0 (jRi u Q) 0 [(0, .ref (ad (9 + j0)))] [] u
  refine J_aload_n 0 dX7_size_0 rfl rfl ?_
  refine gX_sh_2 (v := (u.1 (15 + 3 * j0))) hj0 rfl dX7_size_1 ?_
  exact J_iret rfl dX7_size_4 ⟨rfl, _, rfl, h⟩
abbrev a_Z_begin (l : Launch) (D : va_G) (ad : Nat → Nat) (cI cZ cS : ClassId) (rs : va_W) (A0 : Nat → Prop) := AX l D ad cI cZ cS rs A0 cX7_begin 4 none RX7 1
set_option maxRecDepth 20000 in
set_option maxHeartbeats 4000000 in
theorem t_Z_begin_l26  {X : Mem → Prop} {j0 : Nat} {Q : Mem → Prop} (hj0 : j0 < 4) (hX : ∀ (u : Mem), X u → a_Z_begin l D ad cI cZ cS rs A0 (jWv Q) 47 [] [] u) : ∀ (n : Nat) (x3 : Int32) (u : Mem), w_Z_begin_l26 X j0 Q n x3 u → a_Z_begin l D ad cI cZ cS rs A0 (jWv Q) 26 [(0, .ref (ad (9 + j0))), (3, .int x3)] [] u := by
  intro n
  induction n with
  | zero =>
    intro x3 u h
    exact (by simp only [w_Z_begin_l26] at h : False).elim
  | succ n ih =>
    intro x3 u h
    rw [w_Z_begin_l26] at h
    refine J_iload_n 1 dX7_begin_26 rfl rfl ?_
    refine J_aload_n 0 dX7_begin_27 rfl rfl ?_
    refine gX_sh_2 (v := (u.1 (15 + 3 * j0))) hj0 rfl dX7_begin_28 ?_
    refine J_icmp_ge (tgt := 47) dX7_begin_31 rfl (fun c => ?_) (fun c => ?_)
    · have h := h.1 c
      exact J_sub (lv' := []) [] rfl (hX u h)
    · have h := h.2 c
      refine J_aload_n 0 dX7_begin_34 rfl rfl ?_
      refine gX_sh_0 hj0 dX7_begin_35 ?_
      refine J_iload_n 1 dX7_begin_38 rfl rfl ?_
      refine J_iconst (v := 0) dX7_begin_39 ci_0 ?_
      refine tX_it hj0 h.1 dX7_begin_40 ?_
      have h := h.2
      refine J_iinc (v := (x3 + 1)) (lv' := [(3, .int (x3 + 1)), (0, .ref (ad (9 + j0)))]) 1 dX7_begin_41 rfl rfl (Nat.le_of_ble_eq_true rfl) rfl ?_
      refine J_goto (tgt := 26) dX7_begin_44 rfl ?_
      exact J_sub (lv' := [(0, .ref (ad (9 + j0))), (3, .int (x3 + 1))]) [1, 0] rfl (ih (x3 + 1) (sA u (17 + j0) x3.toNatClampNeg 0) h)
set_option maxRecDepth 20000 in
set_option maxHeartbeats 4000000 in
theorem c_Z_begin {u : Mem} {j0 : Nat} {x1 : Int32} {x2 : Int32} {Q : Mem → Prop} (hj0 : j0 < 4) (h : w_Z_begin j0 x1 x2 u Q) : MX l D ad cI cZ cS rs A0 yX7_begin cX7_begin 4 none 1 [.ref (ad (9 + j0)), .int x1, .int x2] u (jWv Q) := by
  unfold w_Z_begin at h
  refine JMet.of (by decide) (Nat.le_of_ble_eq_true rfl) ?_
  refine J_sub (lv' := [(0, .ref (ad (9 + j0))), (1, .int x1), (2, .int x2)]) [0, 1, 2] rfl ?_
  show a_Z_begin l D ad cI cZ cS rs A0 (jWv Q) 0 [(0, .ref (ad (9 + j0))), (1, .int x1), (2, .int x2)] [] u
  refine J_aload_n 0 dX7_begin_0 rfl rfl ?_
  refine J_iload_n 1 dX7_begin_1 rfl rfl ?_
  refine pX_sh_1 hj0 dX7_begin_2 ?_
  refine J_aload_n 0 dX7_begin_5 rfl rfl ?_
  refine J_iconst (v := 0) dX7_begin_6 ci_0 ?_
  refine J_iload_n 2 dX7_begin_7 rfl rfl ?_
  refine J_bipush (v := 60) dX7_begin_8 cb_60 ?_
  refine J_mmin km_l_min_RX7_26 (by decide) (Nat.le_of_ble_eq_true rfl) dX7_begin_10 ?_
  refine J_mmax km_l_max_RX7_32 (by decide) (Nat.le_of_ble_eq_true rfl) dX7_begin_13 ?_
  refine J_topi (fun y1 ey1 => ?_)
  have h := h y1 ey1
  refine pX_sh_2 hj0 dX7_begin_16 ?_
  refine J_aload_n 0 dX7_begin_19 rfl rfl ?_
  refine J_iconst (v := 0) dX7_begin_20 ci_0 ?_
  refine pX_sh_3 hj0 bz_0 dX7_begin_21 ?_
  refine J_iconst (v := 0) dX7_begin_24 ci_0 ?_
  refine J_istore_n (lv' := [(3, .int 0), (0, .ref (ad (9 + j0))), (1, .int x1), (2, .int x2)]) dX7_begin_25 rfl (Nat.le_of_ble_eq_true rfl) rfl ?_
  obtain ⟨n3, h⟩ := h
  refine J_sub (lv' := [(0, .ref (ad (9 + j0))), (3, .int 0)]) [1, 0] rfl (t_Z_begin_l26 hj0 ?_ n3 0 (sS (sS (sS u (14 + 3 * j0) x1) (15 + 3 * j0) y1) (16 + 3 * j0) 0) h)
  · intro u2 h
    exact J_vret rfl dX7_begin_47 ⟨rfl, h⟩
abbrev a_Z_end (l : Launch) (D : va_G) (ad : Nat → Nat) (cI cZ cS : ClassId) (rs : va_W) (A0 : Nat → Prop) := AX l D ad cI cZ cS rs A0 cX7_end 1 none RX7 0
set_option maxRecDepth 20000 in
set_option maxHeartbeats 4000000 in
theorem c_Z_end {u : Mem} {j0 : Nat} {Q : Mem → Prop} (hj0 : j0 < 4) (h : w_Z_end j0 u Q) : MX l D ad cI cZ cS rs A0 yX7_end cX7_end 1 none 0 [.ref (ad (9 + j0))] u (jWv Q) := by
  unfold w_Z_end at h
  refine JMet.of (by decide) (Nat.le_of_ble_eq_true rfl) ?_
  refine J_sub (lv' := [(0, .ref (ad (9 + j0)))]) [0] rfl ?_
  show a_Z_end l D ad cI cZ cS rs A0 (jWv Q) 0 [(0, .ref (ad (9 + j0)))] [] u
  refine J_aload_n 0 dX7_end_0 rfl rfl ?_
  refine J_iconst (v := 0) dX7_end_1 ci_0 ?_
  refine pX_sh_2 hj0 dX7_end_2 ?_
  refine J_aload_n 0 dX7_end_5 rfl rfl ?_
  refine J_iconst (v := 1) dX7_end_6 ci_1 ?_
  refine pX_sh_3 hj0 bz_1 dX7_end_7 ?_
  exact J_vret rfl dX7_end_10 ⟨rfl, h⟩
abbrev a_Z_hasItems (l : Launch) (D : va_G) (ad : Nat → Nat) (cI cZ cS : ClassId) (rs : va_W) (A0 : Nat → Prop) := AX l D ad cI cZ cS rs A0 cX7_hasItems 3 (some .boolean) RX7 0
set_option maxRecDepth 20000 in
set_option maxHeartbeats 4000000 in
theorem c_Z_hasItems {u : Mem} {j0 : Nat} {x1 : Int32} {x2 : Int32} {Q : Int32 → Prop} (hj0 : j0 < 4) (h : w_Z_hasItems j0 x1 x2 u Q) : MX l D ad cI cZ cS rs A0 yX7_hasItems cX7_hasItems 3 (some .boolean) 0 [.ref (ad (9 + j0)), .int x1, .int x2] u (jRi u Q) := by
  unfold w_Z_hasItems at h
  refine JMet.of (by decide) (Nat.le_of_ble_eq_true rfl) ?_
  refine J_sub (lv' := [(0, .ref (ad (9 + j0))), (1, .int x1), (2, .int x2)]) [0, 1, 2] rfl ?_
  show a_Z_hasItems l D ad cI cZ cS rs A0 (jRi u Q) 0 [(0, .ref (ad (9 + j0))), (1, .int x1), (2, .int x2)] [] u
  refine J_iload_n 1 dX7_hasItems_0 rfl rfl ?_
  refine J_if_lt (tgt := 30) dX7_hasItems_1 rfl (fun c => ?_) (fun c => ?_)
  · have h := h.1 c
    refine J_iconst (v := 0) dX7_hasItems_30 ci_0 ?_
    exact J_zret rfl dX7_hasItems_31 (bz_n bz_0) ⟨rfl, _, rfl, h⟩
  · have h := h.2 c
    refine J_iload_n 2 dX7_hasItems_4 rfl rfl ?_
    refine J_if_lt (tgt := 30) dX7_hasItems_5 rfl (fun c => ?_) (fun c => ?_)
    · have h := h.1 c
      refine J_iconst (v := 0) dX7_hasItems_30 ci_0 ?_
      exact J_zret rfl dX7_hasItems_31 (bz_n bz_0) ⟨rfl, _, rfl, h⟩
    · have h := h.2 c
      refine J_iload_n 1 dX7_hasItems_8 rfl rfl ?_
      refine J_aload_n 0 dX7_hasItems_9 rfl rfl ?_
      refine gX_sh_2 (v := (u.1 (15 + 3 * j0))) hj0 rfl dX7_hasItems_10 ?_
      refine J_icmp_gt (tgt := 30) dX7_hasItems_13 rfl (fun c => ?_) (fun c => ?_)
      · have h := h.1 c
        refine J_iconst (v := 0) dX7_hasItems_30 ci_0 ?_
        exact J_zret rfl dX7_hasItems_31 (bz_n bz_0) ⟨rfl, _, rfl, h⟩
      · have h := h.2 c
        refine J_iload_n 2 dX7_hasItems_16 rfl rfl ?_
        refine J_aload_n 0 dX7_hasItems_17 rfl rfl ?_
        refine gX_sh_2 (v := (u.1 (15 + 3 * j0))) hj0 rfl dX7_hasItems_18 ?_
        refine J_iload_n 1 dX7_hasItems_21 rfl rfl ?_
        refine J_isub dX7_hasItems_22 ?_
        refine J_icmp_gt (tgt := 30) dX7_hasItems_23 rfl (fun c => ?_) (fun c => ?_)
        · have h := h.1 c
          refine J_iconst (v := 0) dX7_hasItems_30 ci_0 ?_
          exact J_zret rfl dX7_hasItems_31 (bz_n bz_0) ⟨rfl, _, rfl, h⟩
        · have h := h.2 c
          refine J_iconst (v := 1) dX7_hasItems_26 ci_1 ?_
          refine J_goto (tgt := 31) dX7_hasItems_27 rfl ?_
          exact J_zret rfl dX7_hasItems_31 (bz_n bz_1) ⟨rfl, _, rfl, h⟩
abbrev a_Z_item (l : Launch) (D : va_G) (ad : Nat → Nat) (cI cZ cS : ClassId) (rs : va_W) (A0 : Nat → Prop) := AX l D ad cI cZ cS rs A0 cX7_item 2 (some .int) RX7 1
set_option maxRecDepth 20000 in
set_option maxHeartbeats 4000000 in
theorem c_Z_item {u : Mem} {j0 : Nat} {x1 : Int32} {Q : Int32 → Prop} (hj0 : j0 < 4) (h : w_Z_item j0 x1 u Q) : MX l D ad cI cZ cS rs A0 yX7_item cX7_item 2 (some .int) 1 [.ref (ad (9 + j0)), .int x1] u (jRi u Q) := by
  unfold w_Z_item at h
  refine JMet.of (by decide) (Nat.le_of_ble_eq_true rfl) ?_
  refine J_sub (lv' := [(0, .ref (ad (9 + j0))), (1, .int x1)]) [0, 1] rfl ?_
  show a_Z_item l D ad cI cZ cS rs A0 (jRi u Q) 0 [(0, .ref (ad (9 + j0))), (1, .int x1)] [] u
  refine J_aload_n 0 dX7_item_0 rfl rfl ?_
  refine J_iload_n 1 dX7_item_1 rfl rfl ?_
  refine J_iconst (v := 1) dX7_item_2 ci_1 ?_
  refine JV_Ri kV_RX7_35 (9 + j0) (rX_sh hj0) rfl rfl (c_Z_hasItems hj0 h) rfl rfl (by decide) (Nat.le_of_ble_eq_true rfl) dX7_item_3 (fun r1 h => ?_)
  refine J_if_eq (tgt := 24) dX7_item_6 rfl (fun c => ?_) (fun c => ?_)
  · have h := h.1 c
    refine J_iconst (v := 0) dX7_item_24 ci_0 ?_
    exact J_iret rfl dX7_item_25 ⟨rfl, _, rfl, h⟩
  · have h := h.2 c
    refine J_iload_n 1 dX7_item_9 rfl rfl ?_
    refine J_bipush (v := 60) dX7_item_10 cb_60 ?_
    refine J_icmp_ge (tgt := 24) dX7_item_12 rfl (fun c => ?_) (fun c => ?_)
    · have h := h.1 c
      refine J_iconst (v := 0) dX7_item_24 ci_0 ?_
      exact J_iret rfl dX7_item_25 ⟨rfl, _, rfl, h⟩
    · have h := h.2 c
      refine J_aload_n 0 dX7_item_15 rfl rfl ?_
      refine gX_sh_0 hj0 dX7_item_16 ?_
      refine J_iload_n 1 dX7_item_19 rfl rfl ?_
      refine lX_it (v := (u.2 (17 + j0) x1.toNatClampNeg)) hj0 h.1 rfl dX7_item_20 ?_
      have h := h.2
      refine J_goto (tgt := 25) dX7_item_21 rfl ?_
      exact J_iret rfl dX7_item_25 ⟨rfl, _, rfl, h⟩
abbrev a_Z_asForm (l : Launch) (D : va_G) (ad : Nat → Nat) (cI cZ cS : ClassId) (rs : va_W) (A0 : Nat → Prop) := AX l D ad cI cZ cS rs A0 cX7_asForm 2 (some .int) RX7 0
set_option maxRecDepth 20000 in
set_option maxHeartbeats 4000000 in
theorem c_Z_asForm {u : Mem} {j0 : Nat} {x1 : Int32} {Q : Int32 → Prop} (hj0 : j0 < 4) (h : w_Z_asForm j0 x1 u Q) : MX l D ad cI cZ cS rs A0 yX7_asForm cX7_asForm 2 (some .int) 0 [.ref (ad (9 + j0)), .int x1] u (jRi u Q) := by
  unfold w_Z_asForm at h
  refine JMet.of (by decide) (Nat.le_of_ble_eq_true rfl) ?_
  refine J_sub (lv' := [(0, .ref (ad (9 + j0))), (1, .int x1)]) [0, 1] rfl ?_
  show a_Z_asForm l D ad cI cZ cS rs A0 (jRi u Q) 0 [(0, .ref (ad (9 + j0))), (1, .int x1)] [] u
  refine J_aload_n 0 dX7_asForm_0 rfl rfl ?_
  refine gX_sh_1 (v := (u.1 (14 + 3 * j0))) hj0 rfl dX7_asForm_1 ?_
  refine J_if_ne (tgt := 10) dX7_asForm_4 rfl (fun c => ?_) (fun c => ?_)
  · have h := h.1 c
    refine J_aload_n 0 dX7_asForm_10 rfl rfl ?_
    refine gX_sh_1 (v := (u.1 (14 + 3 * j0))) hj0 rfl dX7_asForm_11 ?_
    refine J_iconst (v := 1) dX7_asForm_14 ci_1 ?_
    refine J_icmp_ne (tgt := 23) dX7_asForm_15 rfl (fun c => ?_) (fun c => ?_)
    · have h := h.1 c
      refine J_iload_n 1 dX7_asForm_23 rfl rfl ?_
      exact J_iret rfl dX7_asForm_24 ⟨rfl, _, rfl, h⟩
    · have h := h.2 c
      refine J_iload_n 1 dX7_asForm_18 rfl rfl ?_
      refine J_i2s dX7_asForm_19 ?_
      refine J_goto (tgt := 24) dX7_asForm_20 rfl ?_
      exact J_iret rfl dX7_asForm_24 ⟨rfl, _, rfl, h⟩
  · have h := h.2 c
    refine J_iload_n 1 dX7_asForm_7 rfl rfl ?_
    refine J_i2b dX7_asForm_8 ?_
    exact J_iret rfl dX7_asForm_9 ⟨rfl, _, rfl, h⟩
abbrev a_Z_setItem (l : Launch) (D : va_G) (ad : Nat → Nat) (cI cZ cS : ClassId) (rs : va_W) (A0 : Nat → Prop) := AX l D ad cI cZ cS rs A0 cX7_setItem 3 none RX7 1
set_option maxRecDepth 20000 in
set_option maxHeartbeats 4000000 in
theorem c_Z_setItem {u : Mem} {j0 : Nat} {x1 : Int32} {x2 : Int32} {Q : Mem → Prop} (hj0 : j0 < 4) (h : w_Z_setItem j0 x1 x2 u Q) : MX l D ad cI cZ cS rs A0 yX7_setItem cX7_setItem 3 none 1 [.ref (ad (9 + j0)), .int x1, .int x2] u (jWv Q) := by
  unfold w_Z_setItem at h
  refine JMet.of (by decide) (Nat.le_of_ble_eq_true rfl) ?_
  refine J_sub (lv' := [(0, .ref (ad (9 + j0))), (1, .int x1), (2, .int x2)]) [0, 1, 2] rfl ?_
  show a_Z_setItem l D ad cI cZ cS rs A0 (jWv Q) 0 [(0, .ref (ad (9 + j0))), (1, .int x1), (2, .int x2)] [] u
  refine J_aload_n 0 dX7_setItem_0 rfl rfl ?_
  refine J_iload_n 1 dX7_setItem_1 rfl rfl ?_
  refine J_iconst (v := 1) dX7_setItem_2 ci_1 ?_
  refine JV_Ri kV_RX7_35 (9 + j0) (rX_sh hj0) rfl rfl (c_Z_hasItems hj0 h) rfl rfl (by decide) (Nat.le_of_ble_eq_true rfl) dX7_setItem_3 (fun r1 h => ?_)
  refine J_if_eq (tgt := 26) dX7_setItem_6 rfl (fun c => ?_) (fun c => ?_)
  · have h := h.1 c
    exact J_vret rfl dX7_setItem_26 ⟨rfl, h⟩
  · have h := h.2 c
    refine J_iload_n 1 dX7_setItem_9 rfl rfl ?_
    refine J_bipush (v := 60) dX7_setItem_10 cb_60 ?_
    refine J_icmp_ge (tgt := 26) dX7_setItem_12 rfl (fun c => ?_) (fun c => ?_)
    · have h := h.1 c
      exact J_vret rfl dX7_setItem_26 ⟨rfl, h⟩
    · have h := h.2 c
      refine J_aload_n 0 dX7_setItem_15 rfl rfl ?_
      refine gX_sh_0 hj0 dX7_setItem_16 ?_
      refine J_iload_n 1 dX7_setItem_19 rfl rfl ?_
      refine J_aload_n 0 dX7_setItem_20 rfl rfl ?_
      refine J_iload_n 2 dX7_setItem_21 rfl rfl ?_
      refine JV_Ri kV_RX7_39 (9 + j0) (rX_sh hj0) rfl rfl (c_Z_asForm hj0 h) rfl rfl (by decide) (Nat.le_of_ble_eq_true rfl) dX7_setItem_22 (fun r3 h => ?_)
      refine tX_it hj0 h.1 dX7_setItem_25 ?_
      have h := h.2
      exact J_vret rfl dX7_setItem_26 ⟨rfl, h⟩
abbrev a_Z_takeFrom (l : Launch) (D : va_G) (ad : Nat → Nat) (cI cZ cS : ClassId) (rs : va_W) (A0 : Nat → Prop) := AX l D ad cI cZ cS rs A0 cX7_takeFrom 5 none RX7 1
set_option maxRecDepth 20000 in
set_option maxHeartbeats 4000000 in
theorem c_Z_takeFrom {u : Mem} {j0 : Nat} {j1 : Nat} {x2 : Int32} {x3 : Int32} {x4 : Int32} {Q : Mem → Prop} (hj0 : j0 < 4) (hj1 : j1 < 4) (h : w_Z_takeFrom j0 j1 x2 x3 x4 u Q) : MX l D ad cI cZ cS rs A0 yX7_takeFrom cX7_takeFrom 5 none 1 [.ref (ad (9 + j0)), .ref (ad (9 + j1)), .int x2, .int x3, .int x4] u (jWv Q) := by
  unfold w_Z_takeFrom at h
  refine JMet.of (by decide) (Nat.le_of_ble_eq_true rfl) ?_
  refine J_sub (lv' := [(0, .ref (ad (9 + j0))), (1, .ref (ad (9 + j1))), (2, .int x2), (3, .int x3), (4, .int x4)]) [0, 1, 2, 3, 4] rfl ?_
  show a_Z_takeFrom l D ad cI cZ cS rs A0 (jWv Q) 0 [(0, .ref (ad (9 + j0))), (1, .ref (ad (9 + j1))), (2, .int x2), (3, .int x3), (4, .int x4)] [] u
  refine J_aload_n 1 dX7_takeFrom_0 rfl rfl ?_
  refine J_iload_n 2 dX7_takeFrom_1 rfl rfl ?_
  refine J_iload 4 dX7_takeFrom_2 rfl ?_
  refine JV_Ri kV_RX7_35 (9 + j1) (rX_sh hj1) rfl rfl (c_Z_hasItems hj1 h) rfl rfl (by decide) (Nat.le_of_ble_eq_true rfl) dX7_takeFrom_4 (fun r1 h => ?_)
  refine J_if_eq (tgt := 35) dX7_takeFrom_7 rfl (fun c => ?_) (fun c => ?_)
  · have h := h.1 c
    exact J_vret rfl dX7_takeFrom_35 ⟨rfl, h⟩
  · have h := h.2 c
    refine J_aload_n 0 dX7_takeFrom_10 rfl rfl ?_
    refine J_iload_n 3 dX7_takeFrom_11 rfl rfl ?_
    refine J_iload 4 dX7_takeFrom_12 rfl ?_
    refine JV_Ri kV_RX7_35 (9 + j0) (rX_sh hj0) rfl rfl (c_Z_hasItems hj0 h) rfl rfl (by decide) (Nat.le_of_ble_eq_true rfl) dX7_takeFrom_14 (fun r3 h => ?_)
    refine J_if_eq (tgt := 35) dX7_takeFrom_17 rfl (fun c => ?_) (fun c => ?_)
    · have h := h.1 c
      exact J_vret rfl dX7_takeFrom_35 ⟨rfl, h⟩
    · have h := h.2 c
      refine J_aload_n 1 dX7_takeFrom_20 rfl rfl ?_
      refine gX_sh_0 hj1 dX7_takeFrom_21 ?_
      refine J_iload_n 2 dX7_takeFrom_24 rfl rfl ?_
      refine J_aload_n 0 dX7_takeFrom_25 rfl rfl ?_
      refine gX_sh_0 hj0 dX7_takeFrom_26 ?_
      refine J_iload_n 3 dX7_takeFrom_29 rfl rfl ?_
      refine J_iload 4 dX7_takeFrom_30 rfl ?_
      refine J_copy (30 + j1) (30 + j0) 0 kac_1 kac_2 kac_3 ki_RJ10 (rX_it hj1) (rX_it hj0) rfl h.1.1 h.1.2.1 h.1.2.2.1 h.1.2.2.2.1 h.1.2.2.2.2 (by decide) (Nat.le_of_ble_eq_true rfl) (sX_it hj0) dX7_takeFrom_32 ?_
      have h := h.2
      exact J_vret rfl dX7_takeFrom_35 ⟨rfl, h⟩
abbrev a_T_append_0 (l : Launch) (D : va_G) (ad : Nat → Nat) (cI cZ cS : ClassId) (rs : va_W) (A0 : Nat → Prop) := AX l D ad cI cZ cS rs A0 cX8_append 2 (some .boolean) RX8 0
set_option maxRecDepth 20000 in
set_option maxHeartbeats 4000000 in
theorem c_T_append_0 {u : Mem} {x1 : Int32} {Q : Int32 → Mem → Prop} (h : w_T_append_0 x1 u Q) : MX l D ad cI cZ cS rs A0 yX8_append cX8_append 2 (some .boolean) 0 [.ref (ad 1), .int x1] u (jWi Q) := by
  unfold w_T_append_0 at h
  refine JMet.of (by decide) (Nat.le_of_ble_eq_true rfl) ?_
  refine J_sub (lv' := [(0, .ref (ad 1)), (1, .int x1)]) [0, 1] rfl ?_
  show a_T_append_0 l D ad cI cZ cS rs A0 (jWi Q) 0 [(0, .ref (ad 1)), (1, .int x1)] [] u
  refine J_aload_n 0 dX8_append_0 rfl rfl ?_
  refine gX_1_1 (v := (u.1 2)) rfl dX8_append_1 ?_
  refine J_if_lt (tgt := 19) dX8_append_4 rfl (fun c => ?_) (fun c => ?_)
  · have h := h.1 c
    refine J_iconst (v := 0) dX8_append_19 ci_0 ?_
    exact J_zret rfl dX8_append_20 (bz_n bz_0) ⟨_, rfl, h⟩
  · have h := h.2 c
    refine J_aload_n 0 dX8_append_7 rfl rfl ?_
    refine gX_1_1 (v := (u.1 2)) rfl dX8_append_8 ?_
    refine J_aload_n 0 dX8_append_11 rfl rfl ?_
    refine gX_1_0 dX8_append_12 ?_
    refine nX_0 dX8_append_15 ?_
    refine J_icmp_lt (tgt := 21) dX8_append_16 rfl (fun c => ?_) (fun c => ?_)
    · have h := h.1 c
      refine J_aload_n 0 dX8_append_21 rfl rfl ?_
      refine gX_1_0 dX8_append_22 ?_
      refine J_aload_n 0 dX8_append_25 rfl rfl ?_
      refine gX_1_1 (v := (u.1 2)) rfl dX8_append_26 ?_
      refine J_iload_n 1 dX8_append_29 rfl rfl ?_
      refine tX_0 h.1 dX8_append_30 ?_
      have h := h.2
      refine J_aload_n 0 dX8_append_31 rfl rfl ?_
      refine J_dup dX8_append_32 rfl ?_
      refine gX_1_1 (v := (u.1 2)) rfl dX8_append_33 ?_
      refine J_iconst (v := 1) dX8_append_36 ci_1 ?_
      refine J_iadd dX8_append_37 ?_
      refine pX_1_1 dX8_append_38 ?_
      refine J_iconst (v := 1) dX8_append_41 ci_1 ?_
      exact J_zret rfl dX8_append_42 (bz_n bz_1) ⟨_, rfl, h⟩
    · have h := h.2 c
      refine J_iconst (v := 0) dX8_append_19 ci_0 ?_
      exact J_zret rfl dX8_append_20 (bz_n bz_0) ⟨_, rfl, h⟩
abbrev a_T_append_1 (l : Launch) (D : va_G) (ad : Nat → Nat) (cI cZ cS : ClassId) (rs : va_W) (A0 : Nat → Prop) := AX l D ad cI cZ cS rs A0 cX8_append 2 (some .boolean) RX8 0
set_option maxRecDepth 20000 in
set_option maxHeartbeats 4000000 in
theorem c_T_append_1 {u : Mem} {x1 : Int32} {Q : Int32 → Mem → Prop} (h : w_T_append_1 x1 u Q) : MX l D ad cI cZ cS rs A0 yX8_append cX8_append 2 (some .boolean) 0 [.ref (ad 2), .int x1] u (jWi Q) := by
  unfold w_T_append_1 at h
  refine JMet.of (by decide) (Nat.le_of_ble_eq_true rfl) ?_
  refine J_sub (lv' := [(0, .ref (ad 2)), (1, .int x1)]) [0, 1] rfl ?_
  show a_T_append_1 l D ad cI cZ cS rs A0 (jWi Q) 0 [(0, .ref (ad 2)), (1, .int x1)] [] u
  refine J_aload_n 0 dX8_append_0 rfl rfl ?_
  refine gX_2_1 (v := (u.1 3)) rfl dX8_append_1 ?_
  refine J_if_lt (tgt := 19) dX8_append_4 rfl (fun c => ?_) (fun c => ?_)
  · have h := h.1 c
    refine J_iconst (v := 0) dX8_append_19 ci_0 ?_
    exact J_zret rfl dX8_append_20 (bz_n bz_0) ⟨_, rfl, h⟩
  · have h := h.2 c
    refine J_aload_n 0 dX8_append_7 rfl rfl ?_
    refine gX_2_1 (v := (u.1 3)) rfl dX8_append_8 ?_
    refine J_aload_n 0 dX8_append_11 rfl rfl ?_
    refine gX_2_0 dX8_append_12 ?_
    refine nX_1 dX8_append_15 ?_
    refine J_icmp_lt (tgt := 21) dX8_append_16 rfl (fun c => ?_) (fun c => ?_)
    · have h := h.1 c
      refine J_aload_n 0 dX8_append_21 rfl rfl ?_
      refine gX_2_0 dX8_append_22 ?_
      refine J_aload_n 0 dX8_append_25 rfl rfl ?_
      refine gX_2_1 (v := (u.1 3)) rfl dX8_append_26 ?_
      refine J_iload_n 1 dX8_append_29 rfl rfl ?_
      refine tX_1 h.1 dX8_append_30 ?_
      have h := h.2
      refine J_aload_n 0 dX8_append_31 rfl rfl ?_
      refine J_dup dX8_append_32 rfl ?_
      refine gX_2_1 (v := (u.1 3)) rfl dX8_append_33 ?_
      refine J_iconst (v := 1) dX8_append_36 ci_1 ?_
      refine J_iadd dX8_append_37 ?_
      refine pX_2_1 dX8_append_38 ?_
      refine J_iconst (v := 1) dX8_append_41 ci_1 ?_
      exact J_zret rfl dX8_append_42 (bz_n bz_1) ⟨_, rfl, h⟩
    · have h := h.2 c
      refine J_iconst (v := 0) dX8_append_19 ci_0 ?_
      exact J_zret rfl dX8_append_20 (bz_n bz_0) ⟨_, rfl, h⟩
abbrev a_T_dropLast_0 (l : Launch) (D : va_G) (ad : Nat → Nat) (cI cZ cS : ClassId) (rs : va_W) (A0 : Nat → Prop) := AX l D ad cI cZ cS rs A0 cX8_dropLast 1 (some .boolean) RX8 0
set_option maxRecDepth 20000 in
set_option maxHeartbeats 4000000 in
theorem c_T_dropLast_0 {u : Mem} {Q : Int32 → Mem → Prop} (h : w_T_dropLast_0 u Q) : MX l D ad cI cZ cS rs A0 yX8_dropLast cX8_dropLast 1 (some .boolean) 0 [.ref (ad 1)] u (jWi Q) := by
  unfold w_T_dropLast_0 at h
  refine JMet.of (by decide) (Nat.le_of_ble_eq_true rfl) ?_
  refine J_sub (lv' := [(0, .ref (ad 1))]) [0] rfl ?_
  show a_T_dropLast_0 l D ad cI cZ cS rs A0 (jWi Q) 0 [(0, .ref (ad 1))] [] u
  refine J_aload_n 0 dX8_dropLast_0 rfl rfl ?_
  refine gX_1_1 (v := (u.1 2)) rfl dX8_dropLast_1 ?_
  refine J_if_gt (tgt := 9) dX8_dropLast_4 rfl (fun c => ?_) (fun c => ?_)
  · have h := h.1 c
    refine J_aload_n 0 dX8_dropLast_9 rfl rfl ?_
    refine J_dup dX8_dropLast_10 rfl ?_
    refine gX_1_1 (v := (u.1 2)) rfl dX8_dropLast_11 ?_
    refine J_iconst (v := 1) dX8_dropLast_14 ci_1 ?_
    refine J_isub dX8_dropLast_15 ?_
    refine pX_1_1 dX8_dropLast_16 ?_
    refine J_iconst (v := 1) dX8_dropLast_19 ci_1 ?_
    exact J_zret rfl dX8_dropLast_20 (bz_n bz_1) ⟨_, rfl, h⟩
  · have h := h.2 c
    refine J_iconst (v := 0) dX8_dropLast_7 ci_0 ?_
    exact J_zret rfl dX8_dropLast_8 (bz_n bz_0) ⟨_, rfl, h⟩
abbrev a_T_dropLast_1 (l : Launch) (D : va_G) (ad : Nat → Nat) (cI cZ cS : ClassId) (rs : va_W) (A0 : Nat → Prop) := AX l D ad cI cZ cS rs A0 cX8_dropLast 1 (some .boolean) RX8 0
set_option maxRecDepth 20000 in
set_option maxHeartbeats 4000000 in
theorem c_T_dropLast_1 {u : Mem} {Q : Int32 → Mem → Prop} (h : w_T_dropLast_1 u Q) : MX l D ad cI cZ cS rs A0 yX8_dropLast cX8_dropLast 1 (some .boolean) 0 [.ref (ad 2)] u (jWi Q) := by
  unfold w_T_dropLast_1 at h
  refine JMet.of (by decide) (Nat.le_of_ble_eq_true rfl) ?_
  refine J_sub (lv' := [(0, .ref (ad 2))]) [0] rfl ?_
  show a_T_dropLast_1 l D ad cI cZ cS rs A0 (jWi Q) 0 [(0, .ref (ad 2))] [] u
  refine J_aload_n 0 dX8_dropLast_0 rfl rfl ?_
  refine gX_2_1 (v := (u.1 3)) rfl dX8_dropLast_1 ?_
  refine J_if_gt (tgt := 9) dX8_dropLast_4 rfl (fun c => ?_) (fun c => ?_)
  · have h := h.1 c
    refine J_aload_n 0 dX8_dropLast_9 rfl rfl ?_
    refine J_dup dX8_dropLast_10 rfl ?_
    refine gX_2_1 (v := (u.1 3)) rfl dX8_dropLast_11 ?_
    refine J_iconst (v := 1) dX8_dropLast_14 ci_1 ?_
    refine J_isub dX8_dropLast_15 ?_
    refine pX_2_1 dX8_dropLast_16 ?_
    refine J_iconst (v := 1) dX8_dropLast_19 ci_1 ?_
    exact J_zret rfl dX8_dropLast_20 (bz_n bz_1) ⟨_, rfl, h⟩
  · have h := h.2 c
    refine J_iconst (v := 0) dX8_dropLast_7 ci_0 ?_
    exact J_zret rfl dX8_dropLast_8 (bz_n bz_0) ⟨_, rfl, h⟩
abbrev a_T_clear_0 (l : Launch) (D : va_G) (ad : Nat → Nat) (cI cZ cS : ClassId) (rs : va_W) (A0 : Nat → Prop) := AX l D ad cI cZ cS rs A0 cX8_clear 1 none RX8 0
set_option maxRecDepth 20000 in
set_option maxHeartbeats 4000000 in
theorem c_T_clear_0 {u : Mem} {Q : Mem → Prop} (h : w_T_clear_0 u Q) : MX l D ad cI cZ cS rs A0 yX8_clear cX8_clear 1 none 0 [.ref (ad 1)] u (jWv Q) := by
  unfold w_T_clear_0 at h
  refine JMet.of (by decide) (Nat.le_of_ble_eq_true rfl) ?_
  refine J_sub (lv' := [(0, .ref (ad 1))]) [0] rfl ?_
  show a_T_clear_0 l D ad cI cZ cS rs A0 (jWv Q) 0 [(0, .ref (ad 1))] [] u
  refine J_aload_n 0 dX8_clear_0 rfl rfl ?_
  refine J_iconst (v := 0) dX8_clear_1 ci_0 ?_
  refine pX_1_1 dX8_clear_2 ?_
  exact J_vret rfl dX8_clear_5 ⟨rfl, h⟩
abbrev a_T_clear_1 (l : Launch) (D : va_G) (ad : Nat → Nat) (cI cZ cS : ClassId) (rs : va_W) (A0 : Nat → Prop) := AX l D ad cI cZ cS rs A0 cX8_clear 1 none RX8 0
set_option maxRecDepth 20000 in
set_option maxHeartbeats 4000000 in
theorem c_T_clear_1 {u : Mem} {Q : Mem → Prop} (h : w_T_clear_1 u Q) : MX l D ad cI cZ cS rs A0 yX8_clear cX8_clear 1 none 0 [.ref (ad 2)] u (jWv Q) := by
  unfold w_T_clear_1 at h
  refine JMet.of (by decide) (Nat.le_of_ble_eq_true rfl) ?_
  refine J_sub (lv' := [(0, .ref (ad 2))]) [0] rfl ?_
  show a_T_clear_1 l D ad cI cZ cS rs A0 (jWv Q) 0 [(0, .ref (ad 2))] [] u
  refine J_aload_n 0 dX8_clear_0 rfl rfl ?_
  refine J_iconst (v := 0) dX8_clear_1 ci_0 ?_
  refine pX_2_1 dX8_clear_2 ?_
  exact J_vret rfl dX8_clear_5 ⟨rfl, h⟩
abbrev a_K_firstSet (l : Launch) (D : va_G) (ad : Nat → Nat) (cI cZ cS : ClassId) (rs : va_W) (A0 : Nat → Prop) := AX l D ad cI cZ cS rs A0 cX9_firstSet 1 (some .int) RX9 0
set_option maxRecDepth 20000 in
set_option maxHeartbeats 4000000 in
theorem c_K_firstSet {u : Mem} {Q : Int32 → Prop} (h : w_K_firstSet u Q) : MX l D ad cI cZ cS rs A0 yX9_firstSet cX9_firstSet 1 (some .int) 0 [.ref (ad 6)] u (jRi u Q) := by
  unfold w_K_firstSet at h
  refine JMet.of (by decide) (Nat.le_of_ble_eq_true rfl) ?_
  refine J_sub (lv' := [(0, .ref (ad 6))]) [0] rfl ?_
  show a_K_firstSet l D ad cI cZ cS rs A0 (jRi u Q) 0 [(0, .ref (ad 6))] [] u
  refine J_aload_n 0 dX9_firstSet_0 rfl rfl ?_
  refine gX_6_5 (v := (u.1 11)) rfl dX9_firstSet_1 ?_
  exact J_iret rfl dX9_firstSet_4 ⟨rfl, _, rfl, h⟩
abbrev a_K_setFirst (l : Launch) (D : va_G) (ad : Nat → Nat) (cI cZ cS : ClassId) (rs : va_W) (A0 : Nat → Prop) := AX l D ad cI cZ cS rs A0 cX9_setFirst 2 none RX9 0
set_option maxRecDepth 20000 in
set_option maxHeartbeats 4000000 in
theorem c_K_setFirst {u : Mem} {x1 : Int32} {Q : Mem → Prop} (h : w_K_setFirst x1 u Q) : MX l D ad cI cZ cS rs A0 yX9_setFirst cX9_setFirst 2 none 0 [.ref (ad 6), .int x1] u (jWv Q) := by
  unfold w_K_setFirst at h
  refine JMet.of (by decide) (Nat.le_of_ble_eq_true rfl) ?_
  refine J_sub (lv' := [(0, .ref (ad 6)), (1, .int x1)]) [0, 1] rfl ?_
  show a_K_setFirst l D ad cI cZ cS rs A0 (jWv Q) 0 [(0, .ref (ad 6)), (1, .int x1)] [] u
  refine J_aload_n 0 dX9_setFirst_0 rfl rfl ?_
  refine J_iload_n 1 dX9_setFirst_1 rfl rfl ?_
  refine J_sipush (v := 255) dX9_setFirst_2 cs_255 ?_
  refine J_iand dX9_setFirst_5 ?_
  refine pX_6_5 dX9_setFirst_6 ?_
  exact J_vret rfl dX9_setFirst_9 ⟨rfl, h⟩
abbrev a_K_layings (l : Launch) (D : va_G) (ad : Nat → Nat) (cI cZ cS : ClassId) (rs : va_W) (A0 : Nat → Prop) := AX l D ad cI cZ cS rs A0 cX9_layings 1 (some .int) RX9 0
set_option maxRecDepth 20000 in
set_option maxHeartbeats 4000000 in
theorem c_K_layings {u : Mem} {Q : Int32 → Prop} (h : w_K_layings u Q) : MX l D ad cI cZ cS rs A0 yX9_layings cX9_layings 1 (some .int) 0 [.ref (ad 6)] u (jRi u Q) := by
  unfold w_K_layings at h
  refine JMet.of (by decide) (Nat.le_of_ble_eq_true rfl) ?_
  refine J_sub (lv' := [(0, .ref (ad 6))]) [0] rfl ?_
  show a_K_layings l D ad cI cZ cS rs A0 (jRi u Q) 0 [(0, .ref (ad 6))] [] u
  refine J_aload_n 0 dX9_layings_0 rfl rfl ?_
  refine gX_6_6 (v := (u.1 12)) rfl dX9_layings_1 ?_
  exact J_iret rfl dX9_layings_4 ⟨rfl, _, rfl, h⟩
abbrev a_K_addLaying (l : Launch) (D : va_G) (ad : Nat → Nat) (cI cZ cS : ClassId) (rs : va_W) (A0 : Nat → Prop) := AX l D ad cI cZ cS rs A0 cX9_addLaying 4 (some .boolean) RX9 0
set_option maxRecDepth 20000 in
set_option maxHeartbeats 4000000 in
theorem t_K_addLaying_b58 {u : Mem} {s0 : Int32} {s1 : Int32} {Q : Int32 → Mem → Prop} (h : w_K_addLaying_b58 s0 s1 u Q) : a_K_addLaying l D ad cI cZ cS rs A0 (jWi Q) 58 [(0, .ref (ad 6))] [.int s0, .int s1, .ref (ad 25)] u := by
  unfold w_K_addLaying_b58 at h
  refine tX_12 h.1 dX9_addLaying_58 ?_
  have h := h.2
  refine J_aload_n 0 dX9_addLaying_59 rfl rfl ?_
  refine J_dup dX9_addLaying_60 rfl ?_
  refine gX_6_6 (v := (u.1 12)) rfl dX9_addLaying_61 ?_
  refine J_iconst (v := 1) dX9_addLaying_64 ci_1 ?_
  refine J_iadd dX9_addLaying_65 ?_
  refine pX_6_6 dX9_addLaying_66 ?_
  refine J_iconst (v := 1) dX9_addLaying_69 ci_1 ?_
  exact J_zret rfl dX9_addLaying_70 (bz_n bz_1) ⟨_, rfl, h⟩
set_option maxRecDepth 20000 in
set_option maxHeartbeats 4000000 in
theorem c_K_addLaying {u : Mem} {x1 : Int32} {x2 : Int32} {x3 : Int32} {Q : Int32 → Mem → Prop} (h : w_K_addLaying x1 x2 x3 u Q) : MX l D ad cI cZ cS rs A0 yX9_addLaying cX9_addLaying 4 (some .boolean) 0 [.ref (ad 6), .int x1, .int x2, .int x3] u (jWi Q) := by
  unfold w_K_addLaying at h
  refine JMet.of (by decide) (Nat.le_of_ble_eq_true rfl) ?_
  refine J_sub (lv' := [(0, .ref (ad 6)), (1, .int x1), (2, .int x2), (3, .int x3)]) [0, 1, 2, 3] rfl ?_
  show a_K_addLaying l D ad cI cZ cS rs A0 (jWi Q) 0 [(0, .ref (ad 6)), (1, .int x1), (2, .int x2), (3, .int x3)] [] u
  refine J_aload_n 0 dX9_addLaying_0 rfl rfl ?_
  refine gX_6_6 (v := (u.1 12)) rfl dX9_addLaying_1 ?_
  refine J_if_lt (tgt := 16) dX9_addLaying_4 rfl (fun c => ?_) (fun c => ?_)
  · have h := h.1 c
    refine J_iconst (v := 0) dX9_addLaying_16 ci_0 ?_
    exact J_zret rfl dX9_addLaying_17 (bz_n bz_0) ⟨_, rfl, h⟩
  · have h := h.2 c
    refine J_aload_n 0 dX9_addLaying_7 rfl rfl ?_
    refine gX_6_6 (v := (u.1 12)) rfl dX9_addLaying_8 ?_
    refine J_bipush (v := 12) dX9_addLaying_11 cb_12 ?_
    refine J_icmp_lt (tgt := 18) dX9_addLaying_13 rfl (fun c => ?_) (fun c => ?_)
    · have h := h.1 c
      refine J_aload_n 0 dX9_addLaying_18 rfl rfl ?_
      refine gX_6_0 dX9_addLaying_19 ?_
      refine J_aload_n 0 dX9_addLaying_22 rfl rfl ?_
      refine gX_6_6 (v := (u.1 12)) rfl dX9_addLaying_23 ?_
      refine J_iload_n 1 dX9_addLaying_26 rfl rfl ?_
      refine tX_10 h.1 dX9_addLaying_27 ?_
      have h := h.2
      refine J_aload_n 0 dX9_addLaying_28 rfl rfl ?_
      refine gX_6_1 dX9_addLaying_29 ?_
      refine J_aload_n 0 dX9_addLaying_32 rfl rfl ?_
      refine gX_6_6 (v := (u.1 12)) rfl dX9_addLaying_33 ?_
      refine J_iconst (v := 1) dX9_addLaying_36 ci_1 ?_
      refine J_iload_n 2 dX9_addLaying_37 rfl rfl ?_
      refine J_ishl dX9_addLaying_38 ?_
      refine tX_11 h.1 dX9_addLaying_39 ?_
      have h := h.2
      refine J_aload_n 0 dX9_addLaying_40 rfl rfl ?_
      refine gX_6_2 dX9_addLaying_41 ?_
      refine J_aload_n 0 dX9_addLaying_44 rfl rfl ?_
      refine gX_6_6 (v := (u.1 12)) rfl dX9_addLaying_45 ?_
      refine J_iload_n 3 dX9_addLaying_48 rfl rfl ?_
      refine J_iconst (v := 1) dX9_addLaying_49 ci_1 ?_
      refine J_icmp_ne (tgt := 57) dX9_addLaying_50 rfl (fun c => ?_) (fun c => ?_)
      · have h := h.1 c
        refine J_iconst (v := 0) dX9_addLaying_57 ci_0 ?_
        exact J_sub (lv' := [(0, .ref (ad 6))]) [0] rfl (t_K_addLaying_b58 h)
      · have h := h.2 c
        refine J_iconst (v := 1) dX9_addLaying_53 ci_1 ?_
        refine J_goto (tgt := 58) dX9_addLaying_54 rfl ?_
        exact J_sub (lv' := [(0, .ref (ad 6))]) [0] rfl (t_K_addLaying_b58 h)
    · have h := h.2 c
      refine J_iconst (v := 0) dX9_addLaying_16 ci_0 ?_
      exact J_zret rfl dX9_addLaying_17 (bz_n bz_0) ⟨_, rfl, h⟩
abbrev a_K_dropLaying (l : Launch) (D : va_G) (ad : Nat → Nat) (cI cZ cS : ClassId) (rs : va_W) (A0 : Nat → Prop) := AX l D ad cI cZ cS rs A0 cX9_dropLaying 1 (some .boolean) RX9 0
set_option maxRecDepth 20000 in
set_option maxHeartbeats 4000000 in
theorem c_K_dropLaying {u : Mem} {Q : Int32 → Mem → Prop} (h : w_K_dropLaying u Q) : MX l D ad cI cZ cS rs A0 yX9_dropLaying cX9_dropLaying 1 (some .boolean) 0 [.ref (ad 6)] u (jWi Q) := by
  unfold w_K_dropLaying at h
  refine JMet.of (by decide) (Nat.le_of_ble_eq_true rfl) ?_
  refine J_sub (lv' := [(0, .ref (ad 6))]) [0] rfl ?_
  show a_K_dropLaying l D ad cI cZ cS rs A0 (jWi Q) 0 [(0, .ref (ad 6))] [] u
  refine J_aload_n 0 dX9_dropLaying_0 rfl rfl ?_
  refine gX_6_6 (v := (u.1 12)) rfl dX9_dropLaying_1 ?_
  refine J_if_gt (tgt := 9) dX9_dropLaying_4 rfl (fun c => ?_) (fun c => ?_)
  · have h := h.1 c
    refine J_aload_n 0 dX9_dropLaying_9 rfl rfl ?_
    refine J_dup dX9_dropLaying_10 rfl ?_
    refine gX_6_6 (v := (u.1 12)) rfl dX9_dropLaying_11 ?_
    refine J_iconst (v := 1) dX9_dropLaying_14 ci_1 ?_
    refine J_isub dX9_dropLaying_15 ?_
    refine pX_6_6 dX9_dropLaying_16 ?_
    refine J_iconst (v := 1) dX9_dropLaying_19 ci_1 ?_
    exact J_zret rfl dX9_dropLaying_20 (bz_n bz_1) ⟨_, rfl, h⟩
  · have h := h.2 c
    refine J_iconst (v := 0) dX9_dropLaying_7 ci_0 ?_
    exact J_zret rfl dX9_dropLaying_8 (bz_n bz_0) ⟨_, rfl, h⟩
abbrev a_K_withLayings (l : Launch) (D : va_G) (ad : Nat → Nat) (cI cZ cS : ClassId) (rs : va_W) (A0 : Nat → Prop) := AX l D ad cI cZ cS rs A0 cX9_withLayings 5 (some .int) RX9 0
set_option maxRecDepth 20000 in
set_option maxHeartbeats 4000000 in
theorem t_K_withLayings_b65 {u : Mem} {R : Int32 → Int32 → Prop} {X : Int32 → Prop} {x1 : Int32} {x4 : Int32} {s0 : Int32} {Q : Int32 → Prop} (hR : ∀ (z3 : Int32) (z4 : Int32), R z3 z4 → a_K_withLayings l D ad cI cZ cS rs A0 (jRi u Q) 5 [(0, .ref (ad 6)), (1, .int x1), (3, .int z3), (4, .int z4)] [] u) (hX : ∀ (z3 : Int32), X z3 → a_K_withLayings l D ad cI cZ cS rs A0 (jRi u Q) 72 [(3, .int z3)] [] u) (h : w_K_withLayings_b65 R X x1 x4 s0 u Q) : a_K_withLayings l D ad cI cZ cS rs A0 (jRi u Q) 65 [(0, .ref (ad 6)), (1, .int x1), (4, .int x4)] [.int s0] u := by
  unfold w_K_withLayings_b65 at h
  refine J_istore_n (lv' := [(3, .int s0), (0, .ref (ad 6)), (1, .int x1), (4, .int x4)]) dX9_withLayings_65 rfl (Nat.le_of_ble_eq_true rfl) rfl ?_
  refine J_iinc (v := (x4 + 1)) (lv' := [(4, .int (x4 + 1)), (3, .int s0), (0, .ref (ad 6)), (1, .int x1)]) 3 dX9_withLayings_66 rfl rfl (Nat.le_of_ble_eq_true rfl) rfl ?_
  refine J_goto (tgt := 5) dX9_withLayings_69 rfl ?_
  exact J_sub (lv' := [(0, .ref (ad 6)), (1, .int x1), (3, .int s0), (4, .int (x4 + 1))]) [2, 3, 1, 0] rfl (hR s0 (x4 + 1) h)
set_option maxRecDepth 20000 in
set_option maxHeartbeats 4000000 in
theorem t_K_withLayings_l5 {u : Mem}  {X : Int32 → Prop} {x1 : Int32} {Q : Int32 → Prop} (hX : ∀ (x3 : Int32), X x3 → a_K_withLayings l D ad cI cZ cS rs A0 (jRi u Q) 72 [(3, .int x3)] [] u) : ∀ (n : Nat) (x3 : Int32) (x4 : Int32), w_K_withLayings_l5 X x1 u Q n x3 x4 → a_K_withLayings l D ad cI cZ cS rs A0 (jRi u Q) 5 [(0, .ref (ad 6)), (1, .int x1), (3, .int x3), (4, .int x4)] [] u := by
  intro n
  induction n with
  | zero =>
    intro x3 x4 h
    exact (by simp only [w_K_withLayings_l5] at h : False).elim
  | succ n ih =>
    intro x3 x4 h
    rw [w_K_withLayings_l5] at h
    refine J_iload 3 dX9_withLayings_5 rfl ?_
    refine J_aload_n 0 dX9_withLayings_7 rfl rfl ?_
    refine gX_6_6 (v := (u.1 12)) rfl dX9_withLayings_8 ?_
    refine J_icmp_ge (tgt := 72) dX9_withLayings_11 rfl (fun c => ?_) (fun c => ?_)
    · have h := h.1 c
      exact J_sub (lv' := [(3, .int x3)]) [2] rfl (hX x3 h)
    · have h := h.2 c
      refine J_iload 3 dX9_withLayings_14 rfl ?_
      refine J_bipush (v := 12) dX9_withLayings_16 cb_12 ?_
      refine J_icmp_ge (tgt := 72) dX9_withLayings_18 rfl (fun c => ?_) (fun c => ?_)
      · have h := h.1 c
        exact J_sub (lv' := [(3, .int x3)]) [2] rfl (hX x3 h)
      · have h := h.2 c
        refine J_aload_n 0 dX9_withLayings_21 rfl rfl ?_
        refine gX_6_0 dX9_withLayings_22 ?_
        refine J_iload 3 dX9_withLayings_25 rfl ?_
        refine lX_10 (v := (u.2 10 x4.toNatClampNeg)) h.1 rfl dX9_withLayings_27 ?_
        have h := h.2
        refine J_iload_n 1 dX9_withLayings_28 rfl rfl ?_
        refine J_icmp_ne (tgt := 66) dX9_withLayings_29 rfl (fun c => ?_) (fun c => ?_)
        · have h := h.1 c
          refine J_iinc (v := (x4 + 1)) (lv' := [(4, .int (x4 + 1)), (0, .ref (ad 6)), (1, .int x1), (3, .int x3)]) 3 dX9_withLayings_66 rfl rfl (Nat.le_of_ble_eq_true rfl) rfl ?_
          refine J_goto (tgt := 5) dX9_withLayings_69 rfl ?_
          exact J_sub (lv' := [(0, .ref (ad 6)), (1, .int x1), (3, .int x3), (4, .int (x4 + 1))]) [1, 2, 3, 0] rfl (ih x3 (x4 + 1) h)
        · have h := h.2 c
          refine J_aload_n 0 dX9_withLayings_32 rfl rfl ?_
          refine gX_6_2 dX9_withLayings_33 ?_
          refine J_iload 3 dX9_withLayings_36 rfl ?_
          refine lX_12 (v := (u.2 12 x4.toNatClampNeg)) h.1 rfl dX9_withLayings_38 ?_
          have h := h.2
          refine J_if_eq (tgt := 54) dX9_withLayings_39 rfl (fun c => ?_) (fun c => ?_)
          · have h := h.1 c
            refine J_iload_n 2 dX9_withLayings_54 rfl rfl ?_
            refine J_aload_n 0 dX9_withLayings_55 rfl rfl ?_
            refine gX_6_1 dX9_withLayings_56 ?_
            refine J_iload 3 dX9_withLayings_59 rfl ?_
            refine lX_11 (v := (u.2 11 x4.toNatClampNeg)) h.1 rfl dX9_withLayings_61 ?_
            have h := h.2
            refine J_iconst (v := (-1)) dX9_withLayings_62 ci_m1 ?_
            refine J_ixor dX9_withLayings_63 ?_
            refine J_iand dX9_withLayings_64 ?_
            exact J_sub (lv' := [(0, .ref (ad 6)), (1, .int x1), (4, .int x4)]) [0, 1, 3] rfl (t_K_withLayings_b65 ih hX h)
          · have h := h.2 c
            refine J_iload_n 2 dX9_withLayings_42 rfl rfl ?_
            refine J_aload_n 0 dX9_withLayings_43 rfl rfl ?_
            refine gX_6_1 dX9_withLayings_44 ?_
            refine J_iload 3 dX9_withLayings_47 rfl ?_
            refine lX_11 (v := (u.2 11 x4.toNatClampNeg)) h.1 rfl dX9_withLayings_49 ?_
            have h := h.2
            refine J_ior dX9_withLayings_50 ?_
            refine J_goto (tgt := 65) dX9_withLayings_51 rfl ?_
            exact J_sub (lv' := [(0, .ref (ad 6)), (1, .int x1), (4, .int x4)]) [0, 1, 3] rfl (t_K_withLayings_b65 ih hX h)
set_option maxRecDepth 20000 in
set_option maxHeartbeats 4000000 in
theorem c_K_withLayings {u : Mem} {x1 : Int32} {x2 : Int32} {Q : Int32 → Prop} (h : w_K_withLayings x1 x2 u Q) : MX l D ad cI cZ cS rs A0 yX9_withLayings cX9_withLayings 5 (some .int) 0 [.ref (ad 6), .int x1, .int x2] u (jRi u Q) := by
  unfold w_K_withLayings at h
  refine JMet.of (by decide) (Nat.le_of_ble_eq_true rfl) ?_
  refine J_sub (lv' := [(0, .ref (ad 6)), (1, .int x1), (2, .int x2)]) [0, 1, 2] rfl ?_
  show a_K_withLayings l D ad cI cZ cS rs A0 (jRi u Q) 0 [(0, .ref (ad 6)), (1, .int x1), (2, .int x2)] [] u
  refine J_iload_n 2 dX9_withLayings_0 rfl rfl ?_
  refine J_istore_n (lv' := [(3, .int x2), (0, .ref (ad 6)), (1, .int x1), (2, .int x2)]) dX9_withLayings_1 rfl (Nat.le_of_ble_eq_true rfl) rfl ?_
  refine J_iconst (v := 0) dX9_withLayings_2 ci_0 ?_
  refine J_istore (lv' := [(4, .int 0), (3, .int x2), (0, .ref (ad 6)), (1, .int x1), (2, .int x2)]) dX9_withLayings_3 (Nat.le_of_ble_eq_true rfl) rfl ?_
  obtain ⟨n2, h⟩ := h
  refine J_sub (lv' := [(0, .ref (ad 6)), (1, .int x1), (3, .int x2), (4, .int 0)]) [2, 3, 1, 0] rfl (t_K_withLayings_l5 ?_ n2 x2 0 h)
  · intro z1 h
    refine J_iload_n 0 dX9_withLayings_72 rfl rfl ?_
    exact J_iret rfl dX9_withLayings_73 ⟨rfl, _, rfl, h⟩
abbrev a_K_runTo (l : Launch) (D : va_G) (ad : Nat → Nat) (cI cZ cS : ClassId) (rs : va_W) (A0 : Nat → Prop) := AX l D ad cI cZ cS rs A0 cX9_runTo 6 none RX9 1
set_option maxRecDepth 20000 in
set_option maxHeartbeats 4000000 in
theorem t_K_runTo_b42 {u : Mem} {R : Int32 → Int32 → Int32 → Mem → Prop} {X : Mem → Prop} {x2 : Int32} {x3 : Int32} {x4 : Int32} {x5 : Int32} {Q : Mem → Prop} (hR : ∀ (z3 : Int32) (z4 : Int32) (z5 : Int32) (u : Mem), R z3 z4 z5 u → a_K_runTo l D ad cI cZ cS rs A0 (jWv Q) 11 [(0, .ref (ad 6)), (1, .ref (ad 5)), (2, .int x2), (3, .int z3), (4, .int z4), (5, .int z5)] [] u) (hX : ∀ (u : Mem), X u → a_K_runTo l D ad cI cZ cS rs A0 (jWv Q) 73 [] [] u) (h : w_K_runTo_b42 R X x2 x3 x4 x5 u Q) : a_K_runTo l D ad cI cZ cS rs A0 (jWv Q) 42 [(0, .ref (ad 6)), (1, .ref (ad 5)), (2, .int x2), (3, .int x3), (4, .int x4), (5, .int x5)] [] u := by
  unfold w_K_runTo_b42 at h
  refine J_aload_n 0 dX9_runTo_42 rfl rfl ?_
  refine J_iload 5 dX9_runTo_43 rfl ?_
  refine J_iload_n 3 dX9_runTo_45 rfl rfl ?_
  refine JV_Ri kV_RX9_44 6 rX_6 rfl rfl (c_K_withLayings h) rfl rfl (by decide) (Nat.le_of_ble_eq_true rfl) dX9_runTo_46 (fun r1 h => ?_)
  refine J_istore_n (lv' := [(3, .int r1), (0, .ref (ad 6)), (1, .ref (ad 5)), (2, .int x2), (4, .int x4), (5, .int x5)]) dX9_runTo_49 rfl (Nat.le_of_ble_eq_true rfl) rfl ?_
  refine J_aload_n 1 dX9_runTo_50 rfl rfl ?_
  refine gX_6_4 dX9_runTo_51 ?_
  refine J_iload 5 dX9_runTo_54 rfl ?_
  refine J_iload 4 dX9_runTo_56 rfl ?_
  refine tX_14 h.1 dX9_runTo_58 ?_
  have h := h.2
  refine J_aload_n 1 dX9_runTo_59 rfl rfl ?_
  refine gX_6_3 dX9_runTo_60 ?_
  refine J_iload 5 dX9_runTo_63 rfl ?_
  refine J_iload_n 0 dX9_runTo_65 rfl rfl ?_
  refine tX_13 h.1 dX9_runTo_66 ?_
  have h := h.2
  refine J_iinc (v := (x5 + 1)) (lv' := [(5, .int (x5 + 1)), (3, .int r1), (0, .ref (ad 6)), (1, .ref (ad 5)), (2, .int x2), (4, .int x4)]) 5 dX9_runTo_67 rfl rfl (Nat.le_of_ble_eq_true rfl) rfl ?_
  refine J_goto (tgt := 11) dX9_runTo_70 rfl ?_
  exact J_sub (lv' := [(0, .ref (ad 6)), (1, .ref (ad 5)), (2, .int x2), (3, .int r1), (4, .int x4), (5, .int (x5 + 1))]) [2, 3, 4, 1, 5, 0] rfl (hR r1 x4 (x5 + 1) (sA (sA u 14 x5.toNatClampNeg x4) 13 x5.toNatClampNeg r1) h)
set_option maxRecDepth 20000 in
set_option maxHeartbeats 4000000 in
theorem t_K_runTo_l11  {X : Mem → Prop} {x2 : Int32} {Q : Mem → Prop} (hX : ∀ (u : Mem), X u → a_K_runTo l D ad cI cZ cS rs A0 (jWv Q) 73 [] [] u) : ∀ (n : Nat) (x3 : Int32) (x4 : Int32) (x5 : Int32) (u : Mem), w_K_runTo_l11 X x2 Q n x3 x4 x5 u → a_K_runTo l D ad cI cZ cS rs A0 (jWv Q) 11 [(0, .ref (ad 6)), (1, .ref (ad 5)), (2, .int x2), (3, .int x3), (4, .int x4), (5, .int x5)] [] u := by
  intro n
  induction n with
  | zero =>
    intro x3 x4 x5 u h
    exact (by simp only [w_K_runTo_l11] at h : False).elim
  | succ n ih =>
    intro x3 x4 x5 u h
    rw [w_K_runTo_l11] at h
    refine J_iload 5 dX9_runTo_11 rfl ?_
    refine J_iload_n 2 dX9_runTo_13 rfl rfl ?_
    refine J_icmp_gt (tgt := 73) dX9_runTo_14 rfl (fun c => ?_) (fun c => ?_)
    · have h := h.1 c
      exact J_sub (lv' := []) [] rfl (hX u h)
    · have h := h.2 c
      refine J_iload 5 dX9_runTo_17 rfl ?_
      refine J_bipush (v := 30) dX9_runTo_19 cb_30 ?_
      refine J_icmp_ge (tgt := 73) dX9_runTo_21 rfl (fun c => ?_) (fun c => ?_)
      · have h := h.1 c
        exact J_sub (lv' := []) [] rfl (hX u h)
      · have h := h.2 c
        refine J_iload 5 dX9_runTo_24 rfl ?_
        refine J_if_le (tgt := 42) dX9_runTo_26 rfl (fun c => ?_) (fun c => ?_)
        · have h := h.1 c
          exact (t_K_runTo_b42 ih hX h)
        · have h := h.2 c
          refine J_aload_n 1 dX9_runTo_29 rfl rfl ?_
          refine J_iload_n 3 dX9_runTo_30 rfl rfl ?_
          refine JV_Ri kV_RX9_35 5 rX_5 rfl rfl (c_H_comesBy h) rfl rfl (by decide) (Nat.le_of_ble_eq_true rfl) dX9_runTo_31 (fun r3 h => ?_)
          refine J_istore (lv' := [(4, .int r3), (0, .ref (ad 6)), (1, .ref (ad 5)), (2, .int x2), (3, .int x3), (5, .int x5)]) dX9_runTo_34 (Nat.le_of_ble_eq_true rfl) rfl ?_
          refine J_aload_n 2 dX9_runTo_36 rfl rfl ?_
          refine J_iload_n 4 dX9_runTo_37 rfl rfl ?_
          refine JV_Ri kV_RX9_41 5 rX_5 rfl rfl (c_H_weekBehind h) rfl rfl (by decide) (Nat.le_of_ble_eq_true rfl) dX9_runTo_38 (fun r5 h => ?_)
          refine J_istore_n (lv' := [(3, .int r5), (4, .int r3), (0, .ref (ad 6)), (1, .ref (ad 5)), (2, .int x2), (5, .int x5)]) dX9_runTo_41 rfl (Nat.le_of_ble_eq_true rfl) rfl ?_
          exact J_sub (lv' := [(0, .ref (ad 6)), (1, .ref (ad 5)), (2, .int x2), (3, .int r5), (4, .int r3), (5, .int x5)]) [2, 3, 4, 0, 1, 5] rfl (t_K_runTo_b42 ih hX h)
set_option maxRecDepth 20000 in
set_option maxHeartbeats 4000000 in
theorem c_K_runTo {u : Mem} {x2 : Int32} {Q : Mem → Prop} (h : w_K_runTo x2 u Q) : MX l D ad cI cZ cS rs A0 yX9_runTo cX9_runTo 6 none 1 [.ref (ad 6), .ref (ad 5), .int x2] u (jWv Q) := by
  unfold w_K_runTo at h
  refine JMet.of (by decide) (Nat.le_of_ble_eq_true rfl) ?_
  refine J_sub (lv' := [(0, .ref (ad 6)), (1, .ref (ad 5)), (2, .int x2)]) [0, 1, 2] rfl ?_
  show a_K_runTo l D ad cI cZ cS rs A0 (jWv Q) 0 [(0, .ref (ad 6)), (1, .ref (ad 5)), (2, .int x2)] [] u
  refine J_aload_n 0 dX9_runTo_0 rfl rfl ?_
  refine gX_6_5 (v := (u.1 11)) rfl dX9_runTo_1 ?_
  refine J_istore_n (lv' := [(3, .int (u.1 11)), (0, .ref (ad 6)), (1, .ref (ad 5)), (2, .int x2)]) dX9_runTo_4 rfl (Nat.le_of_ble_eq_true rfl) rfl ?_
  refine J_iconst (v := 0) dX9_runTo_5 ci_0 ?_
  refine J_istore (lv' := [(4, .int 0), (3, .int (u.1 11)), (0, .ref (ad 6)), (1, .ref (ad 5)), (2, .int x2)]) dX9_runTo_6 (Nat.le_of_ble_eq_true rfl) rfl ?_
  refine J_iconst (v := 0) dX9_runTo_8 ci_0 ?_
  refine J_istore (lv' := [(5, .int 0), (4, .int 0), (3, .int (u.1 11)), (0, .ref (ad 6)), (1, .ref (ad 5)), (2, .int x2)]) dX9_runTo_9 (Nat.le_of_ble_eq_true rfl) rfl ?_
  obtain ⟨n8, h⟩ := h
  refine J_sub (lv' := [(0, .ref (ad 6)), (1, .ref (ad 5)), (2, .int x2), (3, .int (u.1 11)), (4, .int 0), (5, .int 0)]) [3, 4, 5, 2, 1, 0] rfl (t_K_runTo_l11 ?_ n8 (u.1 11) 0 0 u h)
  · intro u7 h
    exact J_vret rfl dX9_runTo_73 ⟨rfl, h⟩
abbrev a_K_smallIn (l : Launch) (D : va_G) (ad : Nat → Nat) (cI cZ cS : ClassId) (rs : va_W) (A0 : Nat → Prop) := AX l D ad cI cZ cS rs A0 cX9_smallIn 2 (some .int) RX9 0
set_option maxRecDepth 20000 in
set_option maxHeartbeats 4000000 in
theorem c_K_smallIn {u : Mem} {x1 : Int32} {Q : Int32 → Prop} (h : w_K_smallIn x1 u Q) : MX l D ad cI cZ cS rs A0 yX9_smallIn cX9_smallIn 2 (some .int) 0 [.ref (ad 6), .int x1] u (jRi u Q) := by
  unfold w_K_smallIn at h
  refine JMet.of (by decide) (Nat.le_of_ble_eq_true rfl) ?_
  refine J_sub (lv' := [(0, .ref (ad 6)), (1, .int x1)]) [0, 1] rfl ?_
  show a_K_smallIn l D ad cI cZ cS rs A0 (jRi u Q) 0 [(0, .ref (ad 6)), (1, .int x1)] [] u
  refine J_iload_n 1 dX9_smallIn_0 rfl rfl ?_
  refine J_if_lt (tgt := 19) dX9_smallIn_1 rfl (fun c => ?_) (fun c => ?_)
  · have h := h.1 c
    refine J_iconst (v := 0) dX9_smallIn_19 ci_0 ?_
    exact J_iret rfl dX9_smallIn_20 ⟨rfl, _, rfl, h⟩
  · have h := h.2 c
    refine J_iload_n 1 dX9_smallIn_4 rfl rfl ?_
    refine J_bipush (v := 30) dX9_smallIn_5 cb_30 ?_
    refine J_icmp_ge (tgt := 19) dX9_smallIn_7 rfl (fun c => ?_) (fun c => ?_)
    · have h := h.1 c
      refine J_iconst (v := 0) dX9_smallIn_19 ci_0 ?_
      exact J_iret rfl dX9_smallIn_20 ⟨rfl, _, rfl, h⟩
    · have h := h.2 c
      refine J_aload_n 0 dX9_smallIn_10 rfl rfl ?_
      refine gX_6_3 dX9_smallIn_11 ?_
      refine J_iload_n 1 dX9_smallIn_14 rfl rfl ?_
      refine lX_13 (v := (u.2 13 x1.toNatClampNeg)) h.1 rfl dX9_smallIn_15 ?_
      have h := h.2
      refine J_goto (tgt := 20) dX9_smallIn_16 rfl ?_
      exact J_iret rfl dX9_smallIn_20 ⟨rfl, _, rfl, h⟩
abbrev a_K_bigIn (l : Launch) (D : va_G) (ad : Nat → Nat) (cI cZ cS : ClassId) (rs : va_W) (A0 : Nat → Prop) := AX l D ad cI cZ cS rs A0 cX9_bigIn 2 (some .int) RX9 0
set_option maxRecDepth 20000 in
set_option maxHeartbeats 4000000 in
theorem c_K_bigIn {u : Mem} {x1 : Int32} {Q : Int32 → Prop} (h : w_K_bigIn x1 u Q) : MX l D ad cI cZ cS rs A0 yX9_bigIn cX9_bigIn 2 (some .int) 0 [.ref (ad 6), .int x1] u (jRi u Q) := by
  unfold w_K_bigIn at h
  refine JMet.of (by decide) (Nat.le_of_ble_eq_true rfl) ?_
  refine J_sub (lv' := [(0, .ref (ad 6)), (1, .int x1)]) [0, 1] rfl ?_
  show a_K_bigIn l D ad cI cZ cS rs A0 (jRi u Q) 0 [(0, .ref (ad 6)), (1, .int x1)] [] u
  refine J_iload_n 1 dX9_bigIn_0 rfl rfl ?_
  refine J_if_lt (tgt := 19) dX9_bigIn_1 rfl (fun c => ?_) (fun c => ?_)
  · have h := h.1 c
    refine J_iconst (v := 0) dX9_bigIn_19 ci_0 ?_
    exact J_iret rfl dX9_bigIn_20 ⟨rfl, _, rfl, h⟩
  · have h := h.2 c
    refine J_iload_n 1 dX9_bigIn_4 rfl rfl ?_
    refine J_bipush (v := 30) dX9_bigIn_5 cb_30 ?_
    refine J_icmp_ge (tgt := 19) dX9_bigIn_7 rfl (fun c => ?_) (fun c => ?_)
    · have h := h.1 c
      refine J_iconst (v := 0) dX9_bigIn_19 ci_0 ?_
      exact J_iret rfl dX9_bigIn_20 ⟨rfl, _, rfl, h⟩
    · have h := h.2 c
      refine J_aload_n 0 dX9_bigIn_10 rfl rfl ?_
      refine gX_6_4 dX9_bigIn_11 ?_
      refine J_iload_n 1 dX9_bigIn_14 rfl rfl ?_
      refine lX_14 (v := (u.2 14 x1.toNatClampNeg)) h.1 rfl dX9_bigIn_15 ?_
      have h := h.2
      refine J_goto (tgt := 20) dX9_bigIn_16 rfl ?_
      exact J_iret rfl dX9_bigIn_20 ⟨rfl, _, rfl, h⟩
abbrev a_X_textOf (l : Launch) (D : va_G) (ad : Nat → Nat) (cI cZ cS : ClassId) (rs : va_W) (A0 : Nat → Prop) := AX l D ad cI cZ cS rs A0 cX10_textOf 2 (some (.object "SmallFirst$Text")) RX10 0
set_option maxRecDepth 20000 in
set_option maxHeartbeats 4000000 in
theorem c_X_textOf {u : Mem} {x1 : Int32} {Q : Nat → Prop} (h : w_X_textOf x1 Q) : MX l D ad cI cZ cS rs A0 yX10_textOf cX10_textOf 2 (some (.object "SmallFirst$Text")) 0 [.ref (ad 0), .int x1] u (jRt ad u Q) := by
  unfold w_X_textOf at h
  refine JMet.of (by decide) (Nat.le_of_ble_eq_true rfl) ?_
  refine J_sub (lv' := [(0, .ref (ad 0)), (1, .int x1)]) [0, 1] rfl ?_
  show a_X_textOf l D ad cI cZ cS rs A0 (jRt ad u Q) 0 [(0, .ref (ad 0)), (1, .int x1)] [] u
  refine J_iload_n 1 dX10_textOf_0 rfl rfl ?_
  refine J_if_ne (tgt := 9) dX10_textOf_1 rfl (fun c => ?_) (fun c => ?_)
  · have h := h.1 c
    refine J_iload_n 1 dX10_textOf_9 rfl rfl ?_
    refine J_iconst (v := 1) dX10_textOf_10 ci_1 ?_
    refine J_icmp_ne (tgt := 21) dX10_textOf_11 rfl (fun c => ?_) (fun c => ?_)
    · have h := h.1 c
      refine J_null dX10_textOf_21 ?_
      exact J_aretN rfl dX10_textOf_22 ⟨rfl, 0, by decide, rfl, h⟩
    · have h := h.2 c
      refine J_aload_n 0 dX10_textOf_14 rfl rfl ?_
      refine gX_0_1 dX10_textOf_15 ?_
      refine J_goto (tgt := 22) dX10_textOf_18 rfl ?_
      exact J_aret rfl dX10_textOf_22 ⟨rfl, 2, by decide, rfl, h⟩
  · have h := h.2 c
    refine J_aload_n 0 dX10_textOf_4 rfl rfl ?_
    refine gX_0_0 dX10_textOf_5 ?_
    exact J_aret rfl dX10_textOf_8 ⟨rfl, 1, by decide, rfl, h⟩
abbrev a_X_isBits (l : Launch) (D : va_G) (ad : Nat → Nat) (cI cZ cS : ClassId) (rs : va_W) (A0 : Nat → Prop) := AX l D ad cI cZ cS rs A0 cX10_isBits 1 (some .boolean) RX10 0
set_option maxRecDepth 20000 in
set_option maxHeartbeats 4000000 in
theorem c_X_isBits {u : Mem} {x0 : Int32} {Q : Int32 → Prop} (h : w_X_isBits x0 Q) : MX l D ad cI cZ cS rs A0 yX10_isBits cX10_isBits 1 (some .boolean) 0 [.int x0] u (jRi u Q) := by
  unfold w_X_isBits at h
  refine JMet.of (by decide) (Nat.le_of_ble_eq_true rfl) ?_
  refine J_sub (lv' := [(0, .int x0)]) [0] rfl ?_
  show a_X_isBits l D ad cI cZ cS rs A0 (jRi u Q) 0 [(0, .int x0)] [] u
  refine J_iload_n 0 dX10_isBits_0 rfl rfl ?_
  refine J_if_lt (tgt := 15) dX10_isBits_1 rfl (fun c => ?_) (fun c => ?_)
  · have h := h.1 c
    refine J_iconst (v := 0) dX10_isBits_15 ci_0 ?_
    exact J_zret rfl dX10_isBits_16 (bz_n bz_0) ⟨rfl, _, rfl, h⟩
  · have h := h.2 c
    refine J_iload_n 0 dX10_isBits_4 rfl rfl ?_
    refine J_sipush (v := 255) dX10_isBits_5 cs_255 ?_
    refine J_icmp_gt (tgt := 15) dX10_isBits_8 rfl (fun c => ?_) (fun c => ?_)
    · have h := h.1 c
      refine J_iconst (v := 0) dX10_isBits_15 ci_0 ?_
      exact J_zret rfl dX10_isBits_16 (bz_n bz_0) ⟨rfl, _, rfl, h⟩
    · have h := h.2 c
      refine J_iconst (v := 1) dX10_isBits_11 ci_1 ?_
      refine J_goto (tgt := 16) dX10_isBits_12 rfl ?_
      exact J_zret rfl dX10_isBits_16 (bz_n bz_1) ⟨rfl, _, rfl, h⟩
abbrev a_X_readAgain (l : Launch) (D : va_G) (ad : Nat → Nat) (cI cZ cS : ClassId) (rs : va_W) (A0 : Nat → Prop) := AX l D ad cI cZ cS rs A0 cX10_readAgain 2 none RX10 4
set_option maxRecDepth 20000 in
set_option maxHeartbeats 4000000 in
theorem t_X_readAgain_b29 {u : Mem} {Q : Mem → Prop} (h : w_X_readAgain_b29 u Q) : a_X_readAgain l D ad cI cZ cS rs A0 (jWv Q) 29 [(0, .ref (ad 0))] [] u := by
  unfold w_X_readAgain_b29 at h
  refine J_aload_n 0 dX10_readAgain_29 rfl rfl ?_
  refine J_iconst (v := 1) dX10_readAgain_30 ci_1 ?_
  refine pX_0_8 bz_1 dX10_readAgain_31 ?_
  exact J_vret rfl dX10_readAgain_34 ⟨rfl, h⟩
set_option maxRecDepth 20000 in
set_option maxHeartbeats 4000000 in
theorem c_X_readAgain {u : Mem} {x1 : Int32} {Q : Mem → Prop} (h : w_X_readAgain x1 u Q) : MX l D ad cI cZ cS rs A0 yX10_readAgain cX10_readAgain 2 none 4 [.ref (ad 0), .int x1] u (jWv Q) := by
  unfold w_X_readAgain at h
  refine JMet.of (by decide) (Nat.le_of_ble_eq_true rfl) ?_
  refine J_sub (lv' := [(0, .ref (ad 0)), (1, .int x1)]) [0, 1] rfl ?_
  show a_X_readAgain l D ad cI cZ cS rs A0 (jWv Q) 0 [(0, .ref (ad 0)), (1, .int x1)] [] u
  refine J_iload_n 1 dX10_readAgain_0 rfl rfl ?_
  refine J_if_ne (tgt := 18) dX10_readAgain_1 rfl (fun c => ?_) (fun c => ?_)
  · have h := h.1 c
    refine J_aload_n 0 dX10_readAgain_18 rfl rfl ?_
    refine gX_0_3 dX10_readAgain_19 ?_
    refine J_aload_n 0 dX10_readAgain_22 rfl rfl ?_
    refine gX_0_1 dX10_readAgain_23 ?_
    refine JU_Wv kU_RX10_364_RX1 rfl 4 rX_4 rfl rfl (c_R_readFrom_1 h) rfl rfl (by decide) (Nat.le_of_ble_eq_true rfl) dX10_readAgain_26 (fun u2 h => ?_)
    exact J_sub (lv' := [(0, .ref (ad 0))]) [0] rfl (t_X_readAgain_b29 h)
  · have h := h.2 c
    refine J_aload_n 0 dX10_readAgain_4 rfl rfl ?_
    refine gX_0_2 dX10_readAgain_5 ?_
    refine J_aload_n 0 dX10_readAgain_8 rfl rfl ?_
    refine gX_0_0 dX10_readAgain_9 ?_
    refine JU_Wv kU_RX10_360_RX3 rfl 3 rX_3 rfl rfl (c_R_readFrom_0 h) rfl rfl (by decide) (Nat.le_of_ble_eq_true rfl) dX10_readAgain_12 (fun u4 h => ?_)
    refine J_goto (tgt := 29) dX10_readAgain_15 rfl ?_
    exact J_sub (lv' := [(0, .ref (ad 0))]) [0] rfl (t_X_readAgain_b29 h)
abbrev a_X_type (l : Launch) (D : va_G) (ad : Nat → Nat) (cI cZ cS : ClassId) (rs : va_W) (A0 : Nat → Prop) := AX l D ad cI cZ cS rs A0 cX10_type 4 (some .int) RX10 5
set_option maxRecDepth 20000 in
set_option maxHeartbeats 4000000 in
theorem c_X_type {u : Mem} {x1 : Int32} {x2 : Int32} {Q : Int32 → Mem → Prop} (h : w_X_type x1 x2 u Q) : MX l D ad cI cZ cS rs A0 yX10_type cX10_type 4 (some .int) 5 [.ref (ad 0), .int x1, .int x2] u (jWi Q) := by
  unfold w_X_type at h
  refine JMet.of (by decide) (Nat.le_of_ble_eq_true rfl) ?_
  refine J_sub (lv' := [(0, .ref (ad 0)), (1, .int x1), (2, .int x2)]) [0, 1, 2] rfl ?_
  show a_X_type l D ad cI cZ cS rs A0 (jWi Q) 0 [(0, .ref (ad 0)), (1, .int x1), (2, .int x2)] [] u
  refine J_aload_n 0 dX10_type_0 rfl rfl ?_
  refine J_iload_n 1 dX10_type_1 rfl rfl ?_
  refine JV_Rt kV_RX10_71 0 rX_0 rfl rfl (c_X_textOf h) rfl rfl (by decide) (Nat.le_of_ble_eq_true rfl) dX10_type_2 (fun r1 hr h => ?_)
  rcases (show r1 = 0 ∨ r1 = 1 ∨ r1 = 2 by omega) with rfl | rfl | rfl
  · have h := h.1 rfl
    refine J_astore_nN (lv' := [(3, .null), (0, .ref (ad 0)), (1, .int x1), (2, .int x2)]) dX10_type_5 rfl (Nat.le_of_ble_eq_true rfl) rfl ?_
    refine J_aload_nN 0 dX10_type_6 rfl rfl ?_
    refine J_ifnullN (tgt := 17) dX10_type_7 rfl ?_
    refine J_bipush (v := (-2)) dX10_type_17 cb_m2 ?_
    exact J_iret rfl dX10_type_19 ⟨_, rfl, h⟩
  · have h := h.2.1 rfl
    refine J_astore_n (lv' := [(3, .ref (ad 1)), (0, .ref (ad 0)), (1, .int x1), (2, .int x2)]) dX10_type_5 rfl (Nat.le_of_ble_eq_true rfl) rfl ?_
    refine J_aload_n 0 dX10_type_6 rfl rfl ?_
    refine J_ifnull dX10_type_7 ?_
    refine J_iload_n 3 dX10_type_10 rfl rfl ?_
    refine JS_Ri kS_RX10_75 (c_X_isBits h) rfl rfl (by decide) (Nat.le_of_ble_eq_true rfl) dX10_type_11 (fun r3 h => ?_)
    refine J_if_ne (tgt := 20) dX10_type_14 rfl (fun c => ?_) (fun c => ?_)
    · have h := h.1 c
      refine J_aload_n 0 dX10_type_20 rfl rfl ?_
      refine J_iload_n 3 dX10_type_21 rfl rfl ?_
      refine JV_Wi kV_RX10_79 1 rX_1 rfl rfl (c_T_append_0 h) rfl rfl (by decide) (Nat.le_of_ble_eq_true rfl) dX10_type_22 (fun r5 u6 h => ?_)
      refine J_if_ne (tgt := 31) dX10_type_25 rfl (fun c => ?_) (fun c => ?_)
      · have h := h.1 c
        refine J_aload_n 1 dX10_type_31 rfl rfl ?_
        refine J_iload_n 2 dX10_type_32 rfl rfl ?_
        refine JV_Wv kV_RX10_82 0 rX_0 rfl rfl (c_X_readAgain h) rfl rfl (by decide) (Nat.le_of_ble_eq_true rfl) dX10_type_33 (fun u8 h => ?_)
        refine J_aload_n 0 dX10_type_36 rfl rfl ?_
        refine JV_Ri kV_RX10_85 1 rX_1 rfl rfl (c_T_size_0 h) rfl rfl (by decide) (Nat.le_of_ble_eq_true rfl) dX10_type_37 (fun r9 h => ?_)
        exact J_iret rfl dX10_type_40 ⟨_, rfl, h⟩
      · have h := h.2 c
        refine J_bipush (v := (-4)) dX10_type_28 cb_m4 ?_
        exact J_iret rfl dX10_type_30 ⟨_, rfl, h⟩
    · have h := h.2 c
      refine J_bipush (v := (-2)) dX10_type_17 cb_m2 ?_
      exact J_iret rfl dX10_type_19 ⟨_, rfl, h⟩
  · have h := h.2.2 rfl
    refine J_astore_n (lv' := [(3, .ref (ad 2)), (0, .ref (ad 0)), (1, .int x1), (2, .int x2)]) dX10_type_5 rfl (Nat.le_of_ble_eq_true rfl) rfl ?_
    refine J_aload_n 0 dX10_type_6 rfl rfl ?_
    refine J_ifnull dX10_type_7 ?_
    refine J_iload_n 3 dX10_type_10 rfl rfl ?_
    refine JS_Ri kS_RX10_75 (c_X_isBits h) rfl rfl (by decide) (Nat.le_of_ble_eq_true rfl) dX10_type_11 (fun r11 h => ?_)
    refine J_if_ne (tgt := 20) dX10_type_14 rfl (fun c => ?_) (fun c => ?_)
    · have h := h.1 c
      refine J_aload_n 0 dX10_type_20 rfl rfl ?_
      refine J_iload_n 3 dX10_type_21 rfl rfl ?_
      refine JV_Wi kV_RX10_79 2 rX_2 rfl rfl (c_T_append_1 h) rfl rfl (by decide) (Nat.le_of_ble_eq_true rfl) dX10_type_22 (fun r13 u14 h => ?_)
      refine J_if_ne (tgt := 31) dX10_type_25 rfl (fun c => ?_) (fun c => ?_)
      · have h := h.1 c
        refine J_aload_n 1 dX10_type_31 rfl rfl ?_
        refine J_iload_n 2 dX10_type_32 rfl rfl ?_
        refine JV_Wv kV_RX10_82 0 rX_0 rfl rfl (c_X_readAgain h) rfl rfl (by decide) (Nat.le_of_ble_eq_true rfl) dX10_type_33 (fun u16 h => ?_)
        refine J_aload_n 0 dX10_type_36 rfl rfl ?_
        refine JV_Ri kV_RX10_85 2 rX_2 rfl rfl (c_T_size_1 h) rfl rfl (by decide) (Nat.le_of_ble_eq_true rfl) dX10_type_37 (fun r17 h => ?_)
        exact J_iret rfl dX10_type_40 ⟨_, rfl, h⟩
      · have h := h.2 c
        refine J_bipush (v := (-4)) dX10_type_28 cb_m4 ?_
        exact J_iret rfl dX10_type_30 ⟨_, rfl, h⟩
    · have h := h.2 c
      refine J_bipush (v := (-2)) dX10_type_17 cb_m2 ?_
      exact J_iret rfl dX10_type_19 ⟨_, rfl, h⟩
abbrev a_X_wipe (l : Launch) (D : va_G) (ad : Nat → Nat) (cI cZ cS : ClassId) (rs : va_W) (A0 : Nat → Prop) := AX l D ad cI cZ cS rs A0 cX10_wipe 4 (some .int) RX10 5
set_option maxRecDepth 20000 in
set_option maxHeartbeats 4000000 in
theorem c_X_wipe {u : Mem} {x1 : Int32} {Q : Int32 → Mem → Prop} (h : w_X_wipe x1 u Q) : MX l D ad cI cZ cS rs A0 yX10_wipe cX10_wipe 4 (some .int) 5 [.ref (ad 0), .int x1] u (jWi Q) := by
  unfold w_X_wipe at h
  refine JMet.of (by decide) (Nat.le_of_ble_eq_true rfl) ?_
  refine J_sub (lv' := [(0, .ref (ad 0)), (1, .int x1)]) [0, 1] rfl ?_
  show a_X_wipe l D ad cI cZ cS rs A0 (jWi Q) 0 [(0, .ref (ad 0)), (1, .int x1)] [] u
  refine J_aload_n 0 dX10_wipe_0 rfl rfl ?_
  refine J_iload_n 1 dX10_wipe_1 rfl rfl ?_
  refine JV_Rt kV_RX10_71 0 rX_0 rfl rfl (c_X_textOf h) rfl rfl (by decide) (Nat.le_of_ble_eq_true rfl) dX10_wipe_2 (fun r1 hr h => ?_)
  rcases (show r1 = 0 ∨ r1 = 1 ∨ r1 = 2 by omega) with rfl | rfl | rfl
  · have h := h.1 rfl
    refine J_astore_nN (lv' := [(2, .null), (0, .ref (ad 0)), (1, .int x1)]) dX10_wipe_5 rfl (Nat.le_of_ble_eq_true rfl) rfl ?_
    refine J_aload_nN 0 dX10_wipe_6 rfl rfl ?_
    refine J_ifnonnullN dX10_wipe_7 ?_
    refine J_bipush (v := (-2)) dX10_wipe_10 cb_m2 ?_
    exact J_iret rfl dX10_wipe_12 ⟨_, rfl, h⟩
  · have h := h.2.1 rfl
    refine J_astore_n (lv' := [(2, .ref (ad 1)), (0, .ref (ad 0)), (1, .int x1)]) dX10_wipe_5 rfl (Nat.le_of_ble_eq_true rfl) rfl ?_
    refine J_aload_n 0 dX10_wipe_6 rfl rfl ?_
    refine J_ifnonnull (tgt := 13) dX10_wipe_7 rfl ?_
    refine J_aload_n 0 dX10_wipe_13 rfl rfl ?_
    refine JV_Ri kV_RX10_85 1 rX_1 rfl rfl (c_T_size_0 h) rfl rfl (by decide) (Nat.le_of_ble_eq_true rfl) dX10_wipe_14 (fun r3 h => ?_)
    refine J_istore_n (lv' := [(3, .int r3), (2, .ref (ad 1)), (0, .ref (ad 0)), (1, .int x1)]) dX10_wipe_17 rfl (Nat.le_of_ble_eq_true rfl) rfl ?_
    refine J_aload_n 1 dX10_wipe_18 rfl rfl ?_
    refine JV_Wv kV_RX10_89 1 rX_1 rfl rfl (c_T_clear_0 h) rfl rfl (by decide) (Nat.le_of_ble_eq_true rfl) dX10_wipe_19 (fun u6 h => ?_)
    refine J_aload_n 2 dX10_wipe_22 rfl rfl ?_
    refine J_iload_n 3 dX10_wipe_23 rfl rfl ?_
    refine JV_Wv kV_RX10_82 0 rX_0 rfl rfl (c_X_readAgain h) rfl rfl (by decide) (Nat.le_of_ble_eq_true rfl) dX10_wipe_24 (fun u8 h => ?_)
    refine J_iload_n 0 dX10_wipe_27 rfl rfl ?_
    exact J_iret rfl dX10_wipe_28 ⟨_, rfl, h⟩
  · have h := h.2.2 rfl
    refine J_astore_n (lv' := [(2, .ref (ad 2)), (0, .ref (ad 0)), (1, .int x1)]) dX10_wipe_5 rfl (Nat.le_of_ble_eq_true rfl) rfl ?_
    refine J_aload_n 0 dX10_wipe_6 rfl rfl ?_
    refine J_ifnonnull (tgt := 13) dX10_wipe_7 rfl ?_
    refine J_aload_n 0 dX10_wipe_13 rfl rfl ?_
    refine JV_Ri kV_RX10_85 2 rX_2 rfl rfl (c_T_size_1 h) rfl rfl (by decide) (Nat.le_of_ble_eq_true rfl) dX10_wipe_14 (fun r9 h => ?_)
    refine J_istore_n (lv' := [(3, .int r9), (2, .ref (ad 2)), (0, .ref (ad 0)), (1, .int x1)]) dX10_wipe_17 rfl (Nat.le_of_ble_eq_true rfl) rfl ?_
    refine J_aload_n 1 dX10_wipe_18 rfl rfl ?_
    refine JV_Wv kV_RX10_89 2 rX_2 rfl rfl (c_T_clear_1 h) rfl rfl (by decide) (Nat.le_of_ble_eq_true rfl) dX10_wipe_19 (fun u12 h => ?_)
    refine J_aload_n 2 dX10_wipe_22 rfl rfl ?_
    refine J_iload_n 3 dX10_wipe_23 rfl rfl ?_
    refine JV_Wv kV_RX10_82 0 rX_0 rfl rfl (c_X_readAgain h) rfl rfl (by decide) (Nat.le_of_ble_eq_true rfl) dX10_wipe_24 (fun u14 h => ?_)
    refine J_iload_n 0 dX10_wipe_27 rfl rfl ?_
    exact J_iret rfl dX10_wipe_28 ⟨_, rfl, h⟩
abbrev a_X_undo (l : Launch) (D : va_G) (ad : Nat → Nat) (cI cZ cS : ClassId) (rs : va_W) (A0 : Nat → Prop) := AX l D ad cI cZ cS rs A0 cX10_undo 3 (some .int) RX10 5
set_option maxRecDepth 20000 in
set_option maxHeartbeats 4000000 in
theorem c_X_undo {u : Mem} {x1 : Int32} {Q : Int32 → Mem → Prop} (h : w_X_undo x1 u Q) : MX l D ad cI cZ cS rs A0 yX10_undo cX10_undo 3 (some .int) 5 [.ref (ad 0), .int x1] u (jWi Q) := by
  unfold w_X_undo at h
  refine JMet.of (by decide) (Nat.le_of_ble_eq_true rfl) ?_
  refine J_sub (lv' := [(0, .ref (ad 0)), (1, .int x1)]) [0, 1] rfl ?_
  show a_X_undo l D ad cI cZ cS rs A0 (jWi Q) 0 [(0, .ref (ad 0)), (1, .int x1)] [] u
  refine J_aload_n 0 dX10_undo_0 rfl rfl ?_
  refine J_iload_n 1 dX10_undo_1 rfl rfl ?_
  refine JV_Rt kV_RX10_71 0 rX_0 rfl rfl (c_X_textOf h) rfl rfl (by decide) (Nat.le_of_ble_eq_true rfl) dX10_undo_2 (fun r1 hr h => ?_)
  rcases (show r1 = 0 ∨ r1 = 1 ∨ r1 = 2 by omega) with rfl | rfl | rfl
  · have h := h.1 rfl
    refine J_astore_nN (lv' := [(2, .null), (0, .ref (ad 0)), (1, .int x1)]) dX10_undo_5 rfl (Nat.le_of_ble_eq_true rfl) rfl ?_
    refine J_aload_nN 0 dX10_undo_6 rfl rfl ?_
    refine J_ifnonnullN dX10_undo_7 ?_
    refine J_bipush (v := (-2)) dX10_undo_10 cb_m2 ?_
    exact J_iret rfl dX10_undo_12 ⟨_, rfl, h⟩
  · have h := h.2.1 rfl
    refine J_astore_n (lv' := [(2, .ref (ad 1)), (0, .ref (ad 0)), (1, .int x1)]) dX10_undo_5 rfl (Nat.le_of_ble_eq_true rfl) rfl ?_
    refine J_aload_n 0 dX10_undo_6 rfl rfl ?_
    refine J_ifnonnull (tgt := 13) dX10_undo_7 rfl ?_
    refine J_aload_n 0 dX10_undo_13 rfl rfl ?_
    refine JV_Wi kV_RX10_92 1 rX_1 rfl rfl (c_T_dropLast_0 h) rfl rfl (by decide) (Nat.le_of_ble_eq_true rfl) dX10_undo_14 (fun r3 u4 h => ?_)
    refine J_if_ne (tgt := 23) dX10_undo_17 rfl (fun c => ?_) (fun c => ?_)
    · have h := h.1 c
      refine J_aload_n 1 dX10_undo_23 rfl rfl ?_
      refine J_iload_n 2 dX10_undo_24 rfl rfl ?_
      refine JV_Wv kV_RX10_82 0 rX_0 rfl rfl (c_X_readAgain h) rfl rfl (by decide) (Nat.le_of_ble_eq_true rfl) dX10_undo_25 (fun u6 h => ?_)
      refine J_aload_n 0 dX10_undo_28 rfl rfl ?_
      refine JV_Ri kV_RX10_85 1 rX_1 rfl rfl (c_T_size_0 h) rfl rfl (by decide) (Nat.le_of_ble_eq_true rfl) dX10_undo_29 (fun r7 h => ?_)
      exact J_iret rfl dX10_undo_32 ⟨_, rfl, h⟩
    · have h := h.2 c
      refine J_bipush (v := (-3)) dX10_undo_20 cb_m3 ?_
      exact J_iret rfl dX10_undo_22 ⟨_, rfl, h⟩
  · have h := h.2.2 rfl
    refine J_astore_n (lv' := [(2, .ref (ad 2)), (0, .ref (ad 0)), (1, .int x1)]) dX10_undo_5 rfl (Nat.le_of_ble_eq_true rfl) rfl ?_
    refine J_aload_n 0 dX10_undo_6 rfl rfl ?_
    refine J_ifnonnull (tgt := 13) dX10_undo_7 rfl ?_
    refine J_aload_n 0 dX10_undo_13 rfl rfl ?_
    refine JV_Wi kV_RX10_92 2 rX_2 rfl rfl (c_T_dropLast_1 h) rfl rfl (by decide) (Nat.le_of_ble_eq_true rfl) dX10_undo_14 (fun r9 u10 h => ?_)
    refine J_if_ne (tgt := 23) dX10_undo_17 rfl (fun c => ?_) (fun c => ?_)
    · have h := h.1 c
      refine J_aload_n 1 dX10_undo_23 rfl rfl ?_
      refine J_iload_n 2 dX10_undo_24 rfl rfl ?_
      refine JV_Wv kV_RX10_82 0 rX_0 rfl rfl (c_X_readAgain h) rfl rfl (by decide) (Nat.le_of_ble_eq_true rfl) dX10_undo_25 (fun u12 h => ?_)
      refine J_aload_n 0 dX10_undo_28 rfl rfl ?_
      refine JV_Ri kV_RX10_85 2 rX_2 rfl rfl (c_T_size_1 h) rfl rfl (by decide) (Nat.le_of_ble_eq_true rfl) dX10_undo_29 (fun r13 h => ?_)
      exact J_iret rfl dX10_undo_32 ⟨_, rfl, h⟩
    · have h := h.2 c
      refine J_bipush (v := (-3)) dX10_undo_20 cb_m3 ?_
      exact J_iret rfl dX10_undo_22 ⟨_, rfl, h⟩
abbrev a_X_fault (l : Launch) (D : va_G) (ad : Nat → Nat) (cI cZ cS : ClassId) (rs : va_W) (A0 : Nat → Prop) := AX l D ad cI cZ cS rs A0 cX10_fault 2 (some .int) RX10 1
set_option maxRecDepth 20000 in
set_option maxHeartbeats 4000000 in
theorem c_X_fault {u : Mem} {x1 : Int32} {Q : Int32 → Prop} (h : w_X_fault x1 u Q) : MX l D ad cI cZ cS rs A0 yX10_fault cX10_fault 2 (some .int) 1 [.ref (ad 0), .int x1] u (jRi u Q) := by
  unfold w_X_fault at h
  refine JMet.of (by decide) (Nat.le_of_ble_eq_true rfl) ?_
  refine J_sub (lv' := [(0, .ref (ad 0)), (1, .int x1)]) [0, 1] rfl ?_
  show a_X_fault l D ad cI cZ cS rs A0 (jRi u Q) 0 [(0, .ref (ad 0)), (1, .int x1)] [] u
  refine J_aload_n 0 dX10_fault_0 rfl rfl ?_
  refine J_iload_n 1 dX10_fault_1 rfl rfl ?_
  refine JV_Rt kV_RX10_71 0 rX_0 rfl rfl (c_X_textOf h) rfl rfl (by decide) (Nat.le_of_ble_eq_true rfl) dX10_fault_2 (fun r1 hr h => ?_)
  rcases (show r1 = 0 ∨ r1 = 1 ∨ r1 = 2 by omega) with rfl | rfl | rfl
  · have h := h.1 rfl
    refine J_ifnonnullN dX10_fault_5 ?_
    refine J_bipush (v := (-2)) dX10_fault_8 cb_m2 ?_
    exact J_iret rfl dX10_fault_10 ⟨rfl, _, rfl, h⟩
  · have h := h.2.1 rfl
    refine J_ifnonnull (tgt := 11) dX10_fault_5 rfl ?_
    refine J_iload_n 1 dX10_fault_11 rfl rfl ?_
    refine J_if_ne (tgt := 25) dX10_fault_12 rfl (fun c => ?_) (fun c => ?_)
    · have h := h.1 c
      refine J_aload_n 0 dX10_fault_25 rfl rfl ?_
      refine gX_0_3 dX10_fault_26 ?_
      refine JU_Ri kU_RX10_99_RX1 rfl 4 rX_4 rfl rfl (c_R_faultPlace_1 h) rfl rfl (by decide) (Nat.le_of_ble_eq_true rfl) dX10_fault_29 (fun r3 h => ?_)
      exact J_iret rfl dX10_fault_32 ⟨rfl, _, rfl, h⟩
    · have h := h.2 c
      refine J_aload_n 0 dX10_fault_15 rfl rfl ?_
      refine gX_0_2 dX10_fault_16 ?_
      refine JU_Ri kU_RX10_96_RX3 rfl 3 rX_3 rfl rfl (c_R_faultPlace_0 h) rfl rfl (by decide) (Nat.le_of_ble_eq_true rfl) dX10_fault_19 (fun r5 h => ?_)
      refine J_goto (tgt := 32) dX10_fault_22 rfl ?_
      exact J_iret rfl dX10_fault_32 ⟨rfl, _, rfl, h⟩
  · have h := h.2.2 rfl
    refine J_ifnonnull (tgt := 11) dX10_fault_5 rfl ?_
    refine J_iload_n 1 dX10_fault_11 rfl rfl ?_
    refine J_if_ne (tgt := 25) dX10_fault_12 rfl (fun c => ?_) (fun c => ?_)
    · have h := h.1 c
      refine J_aload_n 0 dX10_fault_25 rfl rfl ?_
      refine gX_0_3 dX10_fault_26 ?_
      refine JU_Ri kU_RX10_99_RX1 rfl 4 rX_4 rfl rfl (c_R_faultPlace_1 h) rfl rfl (by decide) (Nat.le_of_ble_eq_true rfl) dX10_fault_29 (fun r7 h => ?_)
      exact J_iret rfl dX10_fault_32 ⟨rfl, _, rfl, h⟩
    · have h := h.2 c
      refine J_aload_n 0 dX10_fault_15 rfl rfl ?_
      refine gX_0_2 dX10_fault_16 ?_
      refine JU_Ri kU_RX10_96_RX3 rfl 3 rX_3 rfl rfl (c_R_faultPlace_0 h) rfl rfl (by decide) (Nat.le_of_ble_eq_true rfl) dX10_fault_19 (fun r9 h => ?_)
      refine J_goto (tgt := 32) dX10_fault_22 rfl ?_
      exact J_iret rfl dX10_fault_32 ⟨rfl, _, rfl, h⟩
abbrev a_X_rule (l : Launch) (D : va_G) (ad : Nat → Nat) (cI cZ cS : ClassId) (rs : va_W) (A0 : Nat → Prop) := AX l D ad cI cZ cS rs A0 cX10_rule 3 (some .int) RX10 1
set_option maxRecDepth 20000 in
set_option maxHeartbeats 4000000 in
theorem c_X_rule {u : Mem} {x1 : Int32} {x2 : Int32} {Q : Int32 → Prop} (h : w_X_rule x1 x2 u Q) : MX l D ad cI cZ cS rs A0 yX10_rule cX10_rule 3 (some .int) 1 [.ref (ad 0), .int x1, .int x2] u (jRi u Q) := by
  unfold w_X_rule at h
  refine JMet.of (by decide) (Nat.le_of_ble_eq_true rfl) ?_
  refine J_sub (lv' := [(0, .ref (ad 0)), (1, .int x1), (2, .int x2)]) [0, 1, 2] rfl ?_
  show a_X_rule l D ad cI cZ cS rs A0 (jRi u Q) 0 [(0, .ref (ad 0)), (1, .int x1), (2, .int x2)] [] u
  refine J_iload_n 1 dX10_rule_0 rfl rfl ?_
  refine J_if_lt (tgt := 24) dX10_rule_1 rfl (fun c => ?_) (fun c => ?_)
  · have h := h.1 c
    refine J_bipush (v := (-2)) dX10_rule_24 cb_m2 ?_
    exact J_iret rfl dX10_rule_26 ⟨rfl, _, rfl, h⟩
  · have h := h.2 c
    refine J_iload_n 1 dX10_rule_4 rfl rfl ?_
    refine J_aload_n 0 dX10_rule_5 rfl rfl ?_
    refine gX_0_2 dX10_rule_6 ?_
    refine JU_Ri kU_RX10_100_RX3 rfl 3 rX_3 rfl rfl (c_R_size_0 h) rfl rfl (by decide) (Nat.le_of_ble_eq_true rfl) dX10_rule_9 (fun r1 h => ?_)
    refine J_icmp_ge (tgt := 24) dX10_rule_12 rfl (fun c => ?_) (fun c => ?_)
    · have h := h.1 c
      refine J_bipush (v := (-2)) dX10_rule_24 cb_m2 ?_
      exact J_iret rfl dX10_rule_26 ⟨rfl, _, rfl, h⟩
    · have h := h.2 c
      refine J_iload_n 2 dX10_rule_15 rfl rfl ?_
      refine J_if_lt (tgt := 24) dX10_rule_16 rfl (fun c => ?_) (fun c => ?_)
      · have h := h.1 c
        refine J_bipush (v := (-2)) dX10_rule_24 cb_m2 ?_
        exact J_iret rfl dX10_rule_26 ⟨rfl, _, rfl, h⟩
      · have h := h.2 c
        refine J_iload_n 2 dX10_rule_19 rfl rfl ?_
        refine J_iconst (v := 2) dX10_rule_20 ci_2 ?_
        refine J_icmp_le (tgt := 27) dX10_rule_21 rfl (fun c => ?_) (fun c => ?_)
        · have h := h.1 c
          refine J_iload_n 2 dX10_rule_27 rfl rfl ?_
          refine J_if_ne (tgt := 40) dX10_rule_28 rfl (fun c => ?_) (fun c => ?_)
          · have h := h.1 c
            refine J_iload_n 2 dX10_rule_40 rfl rfl ?_
            refine J_iconst (v := 1) dX10_rule_41 ci_1 ?_
            refine J_icmp_ne (tgt := 62) dX10_rule_42 rfl (fun c => ?_) (fun c => ?_)
            · have h := h.1 c
              refine J_aload_n 0 dX10_rule_62 rfl rfl ?_
              refine gX_0_2 dX10_rule_63 ?_
              refine J_iload_n 1 dX10_rule_66 rfl rfl ?_
              refine JV_Ri kV_RX10_108 3 rX_3 rfl rfl (c_L_bigOf h) rfl rfl (by decide) (Nat.le_of_ble_eq_true rfl) dX10_rule_67 (fun r3 h => ?_)
              exact J_iret rfl dX10_rule_70 ⟨rfl, _, rfl, h⟩
            · have h := h.2 c
              refine J_aload_n 0 dX10_rule_45 rfl rfl ?_
              refine gX_0_2 dX10_rule_46 ?_
              refine J_iload_n 1 dX10_rule_49 rfl rfl ?_
              refine JV_Ri kV_RX10_105 3 rX_3 rfl rfl (c_L_isPlus h) rfl rfl (by decide) (Nat.le_of_ble_eq_true rfl) dX10_rule_50 (fun r5 h => ?_)
              refine J_if_eq (tgt := 60) dX10_rule_53 rfl (fun c => ?_) (fun c => ?_)
              · have h := h.1 c
                refine J_iconst (v := 0) dX10_rule_60 ci_0 ?_
                exact J_iret rfl dX10_rule_61 ⟨rfl, _, rfl, h⟩
              · have h := h.2 c
                refine J_iconst (v := 1) dX10_rule_56 ci_1 ?_
                refine J_goto (tgt := 61) dX10_rule_57 rfl ?_
                exact J_iret rfl dX10_rule_61 ⟨rfl, _, rfl, h⟩
          · have h := h.2 c
            refine J_aload_n 0 dX10_rule_31 rfl rfl ?_
            refine gX_0_2 dX10_rule_32 ?_
            refine J_iload_n 1 dX10_rule_35 rfl rfl ?_
            refine JV_Ri kV_RX10_101 3 rX_3 rfl rfl (c_L_smallOf h) rfl rfl (by decide) (Nat.le_of_ble_eq_true rfl) dX10_rule_36 (fun r7 h => ?_)
            exact J_iret rfl dX10_rule_39 ⟨rfl, _, rfl, h⟩
        · have h := h.2 c
          refine J_bipush (v := (-2)) dX10_rule_24 cb_m2 ?_
          exact J_iret rfl dX10_rule_26 ⟨rfl, _, rfl, h⟩
end
