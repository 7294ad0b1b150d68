section
variable {l : Launch} {D : va_G} {ad : Nat → Nat} {cI cZ cS : ClassId} {rs : va_W} {A0 : Nat → Prop}
abbrev a_M_back (l : Launch) (D : va_G) (ad : Nat → Nat) (cI cZ cS : ClassId) (rs : va_W) (A0 : Nat → Prop) := AM l D ad cI cZ cS rs A0 cX11_back 1 (some .int) RX11 0
set_option maxRecDepth 20000 in
set_option maxHeartbeats 4000000 in
theorem c_M_back {u : Mem} {Q : Int32 → Mem → Prop} (h : w_M_back u Q) : MM l D ad cI cZ cS rs A0 yX11_back cX11_back 1 (some .int) 0 [.ref (ad 0)] u (jWi Q) := by
  unfold w_M_back at h
  refine JMet.of (by decide) (Nat.le_of_ble_eq_true rfl) ?_
  refine J_sub (lv' := [(0, .ref (ad 0))]) [0] rfl ?_
  show a_M_back l D ad cI cZ cS rs A0 (jWi Q) 0 [(0, .ref (ad 0))] [] u
  refine J_aload_n 0 dX11_back_0 rfl rfl ?_
  refine gM_0_15 (v := (u.1 5)) rfl dX11_back_1 ?_
  refine J_if_ne (tgt := 10) dX11_back_4 rfl (fun c => ?_) (fun c => ?_)
  · have h := h.1 c
    refine J_aload_n 0 dX11_back_10 rfl rfl ?_
    refine J_dup dX11_back_11 rfl ?_
    refine gM_0_15 (v := (u.1 5)) rfl dX11_back_12 ?_
    refine J_iconst (v := 1) dX11_back_15 ci_1 ?_
    refine J_isub dX11_back_16 ?_
    refine pM_0_15 dX11_back_17 ?_
    refine J_aload_n 0 dX11_back_20 rfl rfl ?_
    refine gM_0_15 (v := ((u.1 5) - 1)) rfl dX11_back_21 ?_
    exact J_iret rfl dX11_back_24 ⟨_, rfl, h⟩
  · have h := h.2 c
    refine J_bipush (v := (-3)) dX11_back_7 cb_m3 ?_
    exact J_iret rfl dX11_back_9 ⟨_, rfl, h⟩
abbrev a_M_lives (l : Launch) (D : va_G) (ad : Nat → Nat) (cI cZ cS : ClassId) (rs : va_W) (A0 : Nat → Prop) := AM l D ad cI cZ cS rs A0 cX11_lives 4 none RX11 5
set_option maxRecDepth 20000 in
set_option maxHeartbeats 4000000 in
theorem t_M_lives_b142 {u : Mem} {R : Int32 → Mem → Prop} {X : Mem → Prop} {x1 : Int32} {x2 : Int32} {s0 : Int32} {s1 : Int32} {Q : Mem → Prop} (hR : ∀ (z2 : Int32) (u : Mem), R z2 u → a_M_lives l D ad cI cZ cS rs A0 (jWv Q) 69 [(0, .ref (ad 0)), (1, .int x1), (2, .int z2)] [] u) (hX : ∀ (u : Mem), X u → a_M_lives l D ad cI cZ cS rs A0 (jWv Q) 149 [(0, .ref (ad 0)), (1, .int x1)] [] u) (h : w_M_lives_b142 R X x1 x2 s0 s1 u Q) : a_M_lives l D ad cI cZ cS rs A0 (jWv Q) 142 [(0, .ref (ad 0)), (1, .int x1), (2, .int x2)] [.int s0, .int s1, .ref (ad 12)] u := by
  unfold w_M_lives_b142 at h
  refine tM_11 h.1 dX11_lives_142 ?_
  have h := h.2
  refine J_iinc (v := (x2 + 1)) (lv' := [(2, .int (x2 + 1)), (0, .ref (ad 0)), (1, .int x1)]) 2 dX11_lives_143 rfl rfl (Nat.le_of_ble_eq_true rfl) rfl ?_
  refine J_goto (tgt := 69) dX11_lives_146 rfl ?_
  exact J_sub (lv' := [(0, .ref (ad 0)), (1, .int x1), (2, .int (x2 + 1))]) [1, 2, 0] rfl (hR (x2 + 1) (sA u 11 s1.toNatClampNeg s0) h)
set_option maxRecDepth 20000 in
set_option maxHeartbeats 4000000 in
theorem t_M_lives_l69  {X : Mem → Prop} {x1 : Int32} {Q : Mem → Prop} (hX : ∀ (u : Mem), X u → a_M_lives l D ad cI cZ cS rs A0 (jWv Q) 149 [(0, .ref (ad 0)), (1, .int x1)] [] u) : ∀ (n : Nat) (x2 : Int32) (u : Mem), w_M_lives_l69 X x1 Q n x2 u → a_M_lives l D ad cI cZ cS rs A0 (jWv Q) 69 [(0, .ref (ad 0)), (1, .int x1), (2, .int x2)] [] u := by
  intro n
  induction n with
  | zero =>
    intro x2 u h
    exact (by simp only [w_M_lives_l69] at h : False).elim
  | succ n ih =>
    intro x2 u h
    rw [w_M_lives_l69] at h
    refine J_iload_n 2 dX11_lives_69 rfl rfl ?_
    refine J_aload_n 0 dX11_lives_70 rfl rfl ?_
    refine gM_0_15 (v := (u.1 5)) rfl dX11_lives_71 ?_
    refine J_icmp_ge (tgt := 149) dX11_lives_74 rfl (fun c => ?_) (fun c => ?_)
    · have h := h.1 c
      exact J_sub (lv' := [(0, .ref (ad 0)), (1, .int x1)]) [0, 1] rfl (hX u h)
    · have h := h.2 c
      refine J_aload_n 0 dX11_lives_77 rfl rfl ?_
      refine gM_0_16 dX11_lives_78 ?_
      refine J_iconst (v := 3) dX11_lives_81 ci_3 ?_
      refine J_iload_n 2 dX11_lives_82 rfl rfl ?_
      refine J_imul dX11_lives_83 ?_
      refine lM_10 (v := (u.2 10 (3 * x2).toNatClampNeg)) h.1 rfl dX11_lives_84 ?_
      have h := h.2
      refine J_iload_n 1 dX11_lives_85 rfl rfl ?_
      refine J_icmp_ne (tgt := 143) dX11_lives_86 rfl (fun c => ?_) (fun c => ?_)
      · have h := h.1 c
        refine J_iinc (v := (x2 + 1)) (lv' := [(2, .int (x2 + 1)), (0, .ref (ad 0)), (1, .int x1)]) 2 dX11_lives_143 rfl rfl (Nat.le_of_ble_eq_true rfl) rfl ?_
        refine J_goto (tgt := 69) dX11_lives_146 rfl ?_
        exact J_sub (lv' := [(0, .ref (ad 0)), (1, .int x1), (2, .int (x2 + 1))]) [1, 2, 0] rfl (ih (x2 + 1) u h)
      · have h := h.2 c
        refine J_iconst (v := 1) dX11_lives_89 ci_1 ?_
        refine J_aload_n 0 dX11_lives_90 rfl rfl ?_
        refine gM_0_16 dX11_lives_91 ?_
        refine J_iconst (v := 3) dX11_lives_94 ci_3 ?_
        refine J_iload_n 2 dX11_lives_95 rfl rfl ?_
        refine J_imul dX11_lives_96 ?_
        refine J_iconst (v := 1) dX11_lives_97 ci_1 ?_
        refine J_iadd dX11_lives_98 ?_
        refine lM_10 (v := (u.2 10 ((3 * x2) + 1).toNatClampNeg)) h.1 rfl dX11_lives_99 ?_
        have h := h.2
        refine J_ishl dX11_lives_100 ?_
        refine J_istore_n (lv' := [(3, .int ((1 : Int32) <<< ((u.2 10 ((3 * x2) + 1).toNatClampNeg) &&& 31))), (0, .ref (ad 0)), (1, .int x1), (2, .int x2)]) dX11_lives_101 rfl (Nat.le_of_ble_eq_true rfl) rfl ?_
        refine J_aload_n 1 dX11_lives_102 rfl rfl ?_
        refine gM_0_17 dX11_lives_103 ?_
        refine J_iload_n 2 dX11_lives_106 rfl rfl ?_
        refine J_aload_n 1 dX11_lives_107 rfl rfl ?_
        refine gM_0_16 dX11_lives_108 ?_
        refine J_iconst (v := 3) dX11_lives_111 ci_3 ?_
        refine J_iload_n 3 dX11_lives_112 rfl rfl ?_
        refine J_imul dX11_lives_113 ?_
        refine J_iconst (v := 2) dX11_lives_114 ci_2 ?_
        refine J_iadd dX11_lives_115 ?_
        refine lM_10 (v := (u.2 10 ((3 * x2) + 2).toNatClampNeg)) h.1 rfl dX11_lives_116 ?_
        have h := h.2
        refine J_iconst (v := 1) dX11_lives_117 ci_1 ?_
        refine J_icmp_ne (tgt := 132) dX11_lives_118 rfl (fun c => ?_) (fun c => ?_)
        · have h := h.1 c
          refine J_aload_n 1 dX11_lives_132 rfl rfl ?_
          refine gM_0_17 dX11_lives_133 ?_
          refine J_iload_n 2 dX11_lives_136 rfl rfl ?_
          refine lM_11 (v := (u.2 11 x1.toNatClampNeg)) h.1 rfl dX11_lives_137 ?_
          have h := h.2
          refine J_iload_n 0 dX11_lives_138 rfl rfl ?_
          refine J_iconst (v := (-1)) dX11_lives_139 ci_m1 ?_
          refine J_ixor dX11_lives_140 ?_
          refine J_topi (fun y4 ey4 => ?_)
          have h := h y4 ey4
          refine J_iand dX11_lives_141 ?_
          exact J_sub (lv' := [(0, .ref (ad 0)), (1, .int x1), (2, .int x2)]) [1, 2, 3] rfl (t_M_lives_b142 ih hX h)
        · have h := h.2 c
          refine J_aload_n 1 dX11_lives_121 rfl rfl ?_
          refine gM_0_17 dX11_lives_122 ?_
          refine J_iload_n 2 dX11_lives_125 rfl rfl ?_
          refine lM_11 (v := (u.2 11 x1.toNatClampNeg)) h.1 rfl dX11_lives_126 ?_
          have h := h.2
          refine J_iload_n 0 dX11_lives_127 rfl rfl ?_
          refine J_ior dX11_lives_128 ?_
          refine J_topi (fun y5 ey5 => ?_)
          have h := h y5 ey5
          refine J_goto (tgt := 142) dX11_lives_129 rfl ?_
          exact J_sub (lv' := [(0, .ref (ad 0)), (1, .int x1), (2, .int x2)]) [1, 2, 3] rfl (t_M_lives_b142 ih hX h)
set_option maxRecDepth 20000 in
set_option maxHeartbeats 4000000 in
theorem t_M_lives_b66 {u : Mem} {R : Int32 → Mem → Prop} {X : Mem → Prop} {x1 : Int32} {s0 : Int32} {s1 : Int32} {Q : Mem → Prop} (hR : ∀ (z1 : Int32) (u : Mem), R z1 u → a_M_lives l D ad cI cZ cS rs A0 (jWv Q) 6 [(0, .ref (ad 0)), (1, .int z1)] [] u) (hX : ∀ (u : Mem), X u → a_M_lives l D ad cI cZ cS rs A0 (jWv Q) 155 [] [] u) (h : w_M_lives_b66 R X x1 s0 s1 u Q) : a_M_lives l D ad cI cZ cS rs A0 (jWv Q) 66 [(0, .ref (ad 0)), (1, .int x1)] [.int s0, .int s1, .ref (ad 12)] u := by
  unfold w_M_lives_b66 at h
  refine tM_11 h.1 dX11_lives_66 ?_
  have h := h.2
  refine J_iconst (v := 0) dX11_lives_67 ci_0 ?_
  refine J_istore_n (lv' := [(2, .int 0), (0, .ref (ad 0)), (1, .int x1)]) dX11_lives_68 rfl (Nat.le_of_ble_eq_true rfl) rfl ?_
  obtain ⟨n7, h⟩ := h
  refine J_sub (lv' := [(0, .ref (ad 0)), (1, .int x1), (2, .int 0)]) [1, 2, 0] rfl (t_M_lives_l69 ?_ n7 0 (sA u 11 s1.toNatClampNeg s0) h)
  · intro u6 h
    refine J_iinc (v := (x1 + 1)) (lv' := [(1, .int (x1 + 1)), (0, .ref (ad 0))]) 1 dX11_lives_149 rfl rfl (Nat.le_of_ble_eq_true rfl) rfl ?_
    refine J_goto (tgt := 6) dX11_lives_152 rfl ?_
    exact J_sub (lv' := [(0, .ref (ad 0)), (1, .int (x1 + 1))]) [1, 0] rfl (hR (x1 + 1) u6 h)
set_option maxRecDepth 20000 in
set_option maxHeartbeats 4000000 in
theorem t_M_lives_b38 {u : Mem} {R : Int32 → Mem → Prop} {X : Mem → Prop} {x1 : Int32} {s0 : Int32} {s1 : Int32} {Q : Mem → Prop} (hR : ∀ (z1 : Int32) (u : Mem), R z1 u → a_M_lives l D ad cI cZ cS rs A0 (jWv Q) 6 [(0, .ref (ad 0)), (1, .int z1)] [] u) (hX : ∀ (u : Mem), X u → a_M_lives l D ad cI cZ cS rs A0 (jWv Q) 155 [] [] u) (h : w_M_lives_b38 R X x1 s0 s1 u Q) : a_M_lives l D ad cI cZ cS rs A0 (jWv Q) 38 [(0, .ref (ad 0)), (1, .int x1)] [.int s0, .int s1, .ref (ad 13)] u := by
  unfold w_M_lives_b38 at h
  refine tM_12 h.1 dX11_lives_38 ?_
  have h := h.2
  refine J_aload_n 0 dX11_lives_39 rfl rfl ?_
  refine gM_0_17 dX11_lives_40 ?_
  refine J_iload_n 1 dX11_lives_43 rfl rfl ?_
  refine J_iload_n 1 dX11_lives_44 rfl rfl ?_
  refine J_if_ne (tgt := 55) dX11_lives_45 rfl (fun c => ?_) (fun c => ?_)
  · have h := h.1 c
    refine J_aload_n 0 dX11_lives_55 rfl rfl ?_
    refine gM_0_13 dX11_lives_56 ?_
    refine J_aload_n 0 dX11_lives_59 rfl rfl ?_
    refine gM_0_18 dX11_lives_60 ?_
    refine J_iload_n 1 dX11_lives_63 rfl rfl ?_
    refine lM_12 (v := ((sA u 12 s1.toNatClampNeg s0).2 12 x1.toNatClampNeg)) h.1 rfl dX11_lives_64 ?_
    have h := h.2
    refine lM_9 (v := (u.2 9 ((sA u 12 s1.toNatClampNeg s0).2 12 x1.toNatClampNeg).toNatClampNeg)) h.1 rfl dX11_lives_65 ?_
    have h := h.2
    refine J_topi (fun y3 ey3 => ?_)
    have h := h y3 ey3
    exact (t_M_lives_b66 hR hX h)
  · have h := h.2 c
    refine J_aload_n 0 dX11_lives_48 rfl rfl ?_
    refine gM_0_14 (v := (u.1 4)) rfl dX11_lives_49 ?_
    refine J_goto (tgt := 66) dX11_lives_52 rfl ?_
    exact (t_M_lives_b66 hR hX h)
set_option maxRecDepth 20000 in
set_option maxHeartbeats 4000000 in
theorem t_M_lives_l6  {X : Mem → Prop} {Q : Mem → Prop} (hX : ∀ (u : Mem), X u → a_M_lives l D ad cI cZ cS rs A0 (jWv Q) 155 [] [] u) : ∀ (n : Nat) (x1 : Int32) (u : Mem), w_M_lives_l6 X Q n x1 u → a_M_lives l D ad cI cZ cS rs A0 (jWv Q) 6 [(0, .ref (ad 0)), (1, .int x1)] [] u := by
  intro n
  induction n with
  | zero =>
    intro x1 u h
    exact (by simp only [w_M_lives_l6] at h : False).elim
  | succ n ih =>
    intro x1 u h
    rw [w_M_lives_l6] at h
    refine J_iload_n 1 dX11_lives_6 rfl rfl ?_
    refine J_bipush (v := 30) dX11_lives_7 cb_30 ?_
    refine J_icmp_ge (tgt := 155) dX11_lives_9 rfl (fun c => ?_) (fun c => ?_)
    · have h := h.1 c
      exact J_sub (lv' := []) [] rfl (hX u h)
    · have h := h.2 c
      refine J_aload_n 0 dX11_lives_12 rfl rfl ?_
      refine gM_0_18 dX11_lives_13 ?_
      refine J_iload_n 1 dX11_lives_16 rfl rfl ?_
      refine J_iload_n 1 dX11_lives_17 rfl rfl ?_
      refine J_if_ne (tgt := 25) dX11_lives_18 rfl (fun c => ?_) (fun c => ?_)
      · have h := h.1 c
        refine J_aload_n 0 dX11_lives_25 rfl rfl ?_
        refine gM_0_12 dX11_lives_26 ?_
        refine J_aload_n 0 dX11_lives_29 rfl rfl ?_
        refine gM_0_17 dX11_lives_30 ?_
        refine J_iload_n 1 dX11_lives_33 rfl rfl ?_
        refine J_iconst (v := 1) dX11_lives_34 ci_1 ?_
        refine J_isub dX11_lives_35 ?_
        refine lM_11 (v := (u.2 11 (x1 - 1).toNatClampNeg)) h.1 rfl dX11_lives_36 ?_
        have h := h.2
        refine lM_8 (v := (u.2 8 (u.2 11 (x1 - 1).toNatClampNeg).toNatClampNeg)) h.1 rfl dX11_lives_37 ?_
        have h := h.2
        exact (t_M_lives_b38 ih hX h)
      · have h := h.2 c
        refine J_iconst (v := 0) dX11_lives_21 ci_0 ?_
        refine J_goto (tgt := 38) dX11_lives_22 rfl ?_
        exact (t_M_lives_b38 ih hX h)
set_option maxRecDepth 20000 in
set_option maxHeartbeats 4000000 in
theorem c_M_lives {u : Mem} {Q : Mem → Prop} (h : w_M_lives u Q) : MM l D ad cI cZ cS rs A0 yX11_lives cX11_lives 4 none 5 [.ref (ad 0)] u (jWv Q) := by
  unfold w_M_lives at h
  refine JMet.of (by decide) (Nat.le_of_ble_eq_true rfl) ?_
  refine J_sub (lv' := [(0, .ref (ad 0))]) [0] rfl ?_
  show a_M_lives l D ad cI cZ cS rs A0 (jWv Q) 0 [(0, .ref (ad 0))] [] u
  refine J_aload_n 0 dX11_lives_0 rfl rfl ?_
  refine JV_Wv kV_RX11_153 0 rM_0 rfl rfl (c_M_reads h) rfl rfl (by decide) (Nat.le_of_ble_eq_true rfl) dX11_lives_1 (fun u2 h => ?_)
  refine J_iconst (v := 0) dX11_lives_4 ci_0 ?_
  refine J_istore_n (lv' := [(1, .int 0), (0, .ref (ad 0))]) dX11_lives_5 rfl (Nat.le_of_ble_eq_true rfl) rfl ?_
  obtain ⟨n9, h⟩ := h
  refine J_sub (lv' := [(0, .ref (ad 0)), (1, .int 0)]) [1, 0] rfl (t_M_lives_l6 ?_ n9 0 u2 h)
  · intro u8 h
    exact J_vret rfl dX11_lives_155 ⟨rfl, h⟩
abbrev a_M_week (l : Launch) (D : va_G) (ad : Nat → Nat) (cI cZ cS : ClassId) (rs : va_W) (A0 : Nat → Prop) := AM l D ad cI cZ cS rs A0 cX11_week 3 (some .int) RX11 6
set_option maxRecDepth 20000 in
set_option maxHeartbeats 4000000 in
theorem c_M_week {u : Mem} {x1 : Int32} {x2 : Int32} {Q : Int32 → Mem → Prop} (h : w_M_week x1 x2 u Q) : MM l D ad cI cZ cS rs A0 yX11_week cX11_week 3 (some .int) 6 [.ref (ad 0), .int x1, .int x2] u (jWi Q) := by
  unfold w_M_week at h
  refine JMet.of (by decide) (Nat.le_of_ble_eq_true rfl) ?_
  refine J_sub (lv' := [(0, .ref (ad 0)), (1, .int x1), (2, .int x2)]) [0, 1, 2] rfl ?_
  show a_M_week l D ad cI cZ cS rs A0 (jWi Q) 0 [(0, .ref (ad 0)), (1, .int x1), (2, .int x2)] [] u
  refine J_aload_n 0 dX11_week_0 rfl rfl ?_
  refine JV_Wv kV_RX11_164 0 rM_0 rfl rfl (c_M_lives h) rfl rfl (by decide) (Nat.le_of_ble_eq_true rfl) dX11_week_1 (fun u2 h => ?_)
  refine J_iload_n 1 dX11_week_4 rfl rfl ?_
  refine J_i2l dX11_week_5 ?_
  refine J_lconst (v := 0) dX11_week_6 rfl ?_
  refine J_ldc2 (v := 29) dX11_week_7 kk_RX11_156 ?_
  refine JS_Ri kS_RX11_61 (c_M_in h) rfl rfl (by decide) (Nat.le_of_ble_eq_true rfl) dX11_week_10 (fun r3 h => ?_)
  refine J_if_eq (tgt := 45) dX11_week_13 rfl (fun c => ?_) (fun c => ?_)
  · have h := h.1 c
    refine J_bipush (v := (-2)) dX11_week_45 cb_m2 ?_
    exact J_iret rfl dX11_week_47 ⟨_, rfl, h⟩
  · have h := h.2 c
    refine J_iload_n 2 dX11_week_16 rfl rfl ?_
    refine JS_Ri kS_RX11_90 (c_M_isTwo h) rfl rfl (by decide) (Nat.le_of_ble_eq_true rfl) dX11_week_17 (fun r5 h => ?_)
    refine J_if_eq (tgt := 45) dX11_week_20 rfl (fun c => ?_) (fun c => ?_)
    · have h := h.1 c
      refine J_bipush (v := (-2)) dX11_week_45 cb_m2 ?_
      exact J_iret rfl dX11_week_47 ⟨_, rfl, h⟩
    · have h := h.2 c
      refine J_iload_n 2 dX11_week_23 rfl rfl ?_
      refine J_if_ne (tgt := 36) dX11_week_24 rfl (fun c => ?_) (fun c => ?_)
      · have h := h.1 c
        refine J_aload_n 0 dX11_week_36 rfl rfl ?_
        refine gM_0_18 dX11_week_37 ?_
        refine J_iload_n 1 dX11_week_40 rfl rfl ?_
        refine lM_12 (v := (u2.2 12 x1.toNatClampNeg)) h.1 rfl dX11_week_41 ?_
        have h := h.2
        refine J_goto (tgt := 47) dX11_week_42 rfl ?_
        exact J_iret rfl dX11_week_47 ⟨_, rfl, h⟩
      · have h := h.2 c
        refine J_aload_n 0 dX11_week_27 rfl rfl ?_
        refine gM_0_17 dX11_week_28 ?_
        refine J_iload_n 1 dX11_week_31 rfl rfl ?_
        refine lM_11 (v := (u2.2 11 x1.toNatClampNeg)) h.1 rfl dX11_week_32 ?_
        have h := h.2
        refine J_goto (tgt := 47) dX11_week_33 rfl ?_
        exact J_iret rfl dX11_week_47 ⟨_, rfl, h⟩
abbrev a_M_judgedNow (l : Launch) (D : va_G) (ad : Nat → Nat) (cI cZ cS : ClassId) (rs : va_W) (A0 : Nat → Prop) := AM l D ad cI cZ cS rs A0 cX11_judgedNow 2 (some .int) RX11 2
set_option maxRecDepth 20000 in
set_option maxHeartbeats 4000000 in
theorem t_M_judgedNow_l2 {u : Mem}  {X : Prop} {Q : Int32 → Prop} (hX : X → a_M_judgedNow l D ad cI cZ cS rs A0 (jRi u Q) 42 [] [] u) : ∀ (n : Nat) (x1 : Int32), w_M_judgedNow_l2 X u Q n x1 → a_M_judgedNow l D ad cI cZ cS rs A0 (jRi u Q) 2 [(0, .ref (ad 0)), (1, .int x1)] [] u := by
  intro n
  induction n with
  | zero =>
    intro x1 h
    exact (by simp only [w_M_judgedNow_l2] at h : False).elim
  | succ n ih =>
    intro x1 h
    rw [w_M_judgedNow_l2] at h
    refine J_iload_n 1 dX11_judgedNow_2 rfl rfl ?_
    refine J_bipush (v := 30) dX11_judgedNow_3 cb_30 ?_
    refine J_icmp_ge (tgt := 42) dX11_judgedNow_5 rfl (fun c => ?_) (fun c => ?_)
    · have h := h.1 c
      exact J_sub (lv' := []) [] rfl (hX h)
    · have h := h.2 c
      refine J_aload_n 0 dX11_judgedNow_8 rfl rfl ?_
      refine J_aload_n 0 dX11_judgedNow_9 rfl rfl ?_
      refine gM_0_17 dX11_judgedNow_10 ?_
      refine J_iload_n 1 dX11_judgedNow_13 rfl rfl ?_
      refine lM_11 (v := (u.2 11 x1.toNatClampNeg)) h.1 rfl dX11_judgedNow_14 ?_
      have h := h.2
      refine J_iconst (v := 1) dX11_judgedNow_15 ci_1 ?_
      refine JV_Ri kV_RX11_139 0 rM_0 rfl rfl (c_M_heldBy h) rfl rfl (by decide) (Nat.le_of_ble_eq_true rfl) dX11_judgedNow_16 (fun r1 h => ?_)
      refine J_aload_n 0 dX11_judgedNow_19 rfl rfl ?_
      refine J_aload_n 0 dX11_judgedNow_20 rfl rfl ?_
      refine gM_0_17 dX11_judgedNow_21 ?_
      refine J_iload_n 1 dX11_judgedNow_24 rfl rfl ?_
      refine lM_11 (v := (u.2 11 x1.toNatClampNeg)) h.1 rfl dX11_judgedNow_25 ?_
      have h := h.2
      refine J_iconst (v := 0) dX11_judgedNow_26 ci_0 ?_
      refine JV_Ri kV_RX11_139 0 rM_0 rfl rfl (c_M_heldBy h) rfl rfl (by decide) (Nat.le_of_ble_eq_true rfl) dX11_judgedNow_27 (fun r3 h => ?_)
      refine J_iand dX11_judgedNow_30 ?_
      refine J_if_eq (tgt := 36) dX11_judgedNow_31 rfl (fun c => ?_) (fun c => ?_)
      · have h := h.1 c
        refine J_iinc (v := (x1 + 1)) (lv' := [(1, .int (x1 + 1)), (0, .ref (ad 0))]) 1 dX11_judgedNow_36 rfl rfl (Nat.le_of_ble_eq_true rfl) rfl ?_
        refine J_goto (tgt := 2) dX11_judgedNow_39 rfl ?_
        exact J_sub (lv' := [(0, .ref (ad 0)), (1, .int (x1 + 1))]) [1, 0] rfl (ih (x1 + 1) h)
      · have h := h.2 c
        refine J_iload_n 1 dX11_judgedNow_34 rfl rfl ?_
        exact J_iret rfl dX11_judgedNow_35 ⟨rfl, _, rfl, h⟩
set_option maxRecDepth 20000 in
set_option maxHeartbeats 4000000 in
theorem c_M_judgedNow {u : Mem} {Q : Int32 → Prop} (h : w_M_judgedNow u Q) : MM l D ad cI cZ cS rs A0 yX11_judgedNow cX11_judgedNow 2 (some .int) 2 [.ref (ad 0)] u (jRi u Q) := by
  unfold w_M_judgedNow at h
  refine JMet.of (by decide) (Nat.le_of_ble_eq_true rfl) ?_
  refine J_sub (lv' := [(0, .ref (ad 0))]) [0] rfl ?_
  show a_M_judgedNow l D ad cI cZ cS rs A0 (jRi u Q) 0 [(0, .ref (ad 0))] [] u
  refine J_iconst (v := 0) dX11_judgedNow_0 ci_0 ?_
  refine J_istore_n (lv' := [(1, .int 0), (0, .ref (ad 0))]) dX11_judgedNow_1 rfl (Nat.le_of_ble_eq_true rfl) rfl ?_
  obtain ⟨n5, h⟩ := h
  refine J_sub (lv' := [(0, .ref (ad 0)), (1, .int 0)]) [1, 0] rfl (t_M_judgedNow_l2 ?_ n5 0 h)
  · intro h
    refine J_iconst (v := (-1)) dX11_judgedNow_42 ci_m1 ?_
    exact J_iret rfl dX11_judgedNow_43 ⟨rfl, _, rfl, h⟩
abbrev a_M_judged (l : Launch) (D : va_G) (ad : Nat → Nat) (cI cZ cS : ClassId) (rs : va_W) (A0 : Nat → Prop) := AM l D ad cI cZ cS rs A0 cX11_judged 1 (some .int) RX11 6
set_option maxRecDepth 20000 in
set_option maxHeartbeats 4000000 in
theorem c_M_judged {u : Mem} {Q : Int32 → Mem → Prop} (h : w_M_judged u Q) : MM l D ad cI cZ cS rs A0 yX11_judged cX11_judged 1 (some .int) 6 [.ref (ad 0)] u (jWi Q) := by
  unfold w_M_judged at h
  refine JMet.of (by decide) (Nat.le_of_ble_eq_true rfl) ?_
  refine J_sub (lv' := [(0, .ref (ad 0))]) [0] rfl ?_
  show a_M_judged l D ad cI cZ cS rs A0 (jWi Q) 0 [(0, .ref (ad 0))] [] u
  refine J_aload_n 0 dX11_judged_0 rfl rfl ?_
  refine JV_Wv kV_RX11_164 0 rM_0 rfl rfl (c_M_lives h) rfl rfl (by decide) (Nat.le_of_ble_eq_true rfl) dX11_judged_1 (fun u2 h => ?_)
  refine J_aload_n 0 dX11_judged_4 rfl rfl ?_
  refine JV_Ri kV_RX11_167 0 rM_0 rfl rfl (c_M_judgedNow h) rfl rfl (by decide) (Nat.le_of_ble_eq_true rfl) dX11_judged_5 (fun r3 h => ?_)
  exact J_iret rfl dX11_judged_8 ⟨_, rfl, h⟩
abbrev a_M_twoNow (l : Launch) (D : va_G) (ad : Nat → Nat) (cI cZ cS : ClassId) (rs : va_W) (A0 : Nat → Prop) := AM l D ad cI cZ cS rs A0 cX11_twoNow 4 (some .int) RX11 1
set_option maxRecDepth 20000 in
set_option maxHeartbeats 4000000 in
theorem t_M_twoNow_b66 {u : Mem} {R : Int32 → Int32 → Prop} {X : Int32 → Prop} {x1 : Int32} {x3 : Int32} {s0 : Int32} {s1 : Int32} {Q : Int32 → Prop} (hR : ∀ (z2 : Int32) (z3 : Int32), R z2 z3 → a_M_twoNow l D ad cI cZ cS rs A0 (jRi u Q) 12 [(0, .ref (ad 0)), (1, .int x1), (2, .int z2), (3, .int z3)] [] u) (hX : ∀ (z2 : Int32), X z2 → a_M_twoNow l D ad cI cZ cS rs A0 (jRi u Q) 74 [(0, .ref (ad 0)), (1, .int x1), (2, .int z2)] [] u) (h : w_M_twoNow_b66 R X x1 x3 s0 s1 u Q) : a_M_twoNow l D ad cI cZ cS rs A0 (jRi u Q) 66 [(0, .ref (ad 0)), (1, .int x1), (3, .int x3)] [.int s0, .int s1] u := by
  unfold w_M_twoNow_b66 at h
  refine J_ior dX11_twoNow_66 ?_
  refine J_istore_n (lv' := [(2, .int (s1 ||| s0)), (0, .ref (ad 0)), (1, .int x1), (3, .int x3)]) dX11_twoNow_67 rfl (Nat.le_of_ble_eq_true rfl) rfl ?_
  refine J_iinc (v := (x3 + 1)) (lv' := [(3, .int (x3 + 1)), (2, .int (s1 ||| s0)), (0, .ref (ad 0)), (1, .int x1)]) 3 dX11_twoNow_68 rfl rfl (Nat.le_of_ble_eq_true rfl) rfl ?_
  refine J_goto (tgt := 12) dX11_twoNow_71 rfl ?_
  exact J_sub (lv' := [(0, .ref (ad 0)), (1, .int x1), (2, .int (s1 ||| s0)), (3, .int (x3 + 1))]) [2, 3, 1, 0] rfl (hR (s1 ||| s0) (x3 + 1) h)
set_option maxRecDepth 20000 in
set_option maxHeartbeats 4000000 in
theorem t_M_twoNow_b65 {u : Mem} {R : Int32 → Int32 → Prop} {X : Int32 → Prop} {x1 : Int32} {x3 : Int32} {s0 : Int32} {Q : Int32 → Prop} (hR : ∀ (z2 : Int32) (z3 : Int32), R z2 z3 → a_M_twoNow l D ad cI cZ cS rs A0 (jRi u Q) 12 [(0, .ref (ad 0)), (1, .int x1), (2, .int z2), (3, .int z3)] [] u) (hX : ∀ (z2 : Int32), X z2 → a_M_twoNow l D ad cI cZ cS rs A0 (jRi u Q) 74 [(0, .ref (ad 0)), (1, .int x1), (2, .int z2)] [] u) (h : w_M_twoNow_b65 R X x1 x3 s0 u Q) : a_M_twoNow l D ad cI cZ cS rs A0 (jRi u Q) 65 [(0, .ref (ad 0)), (1, .int x1), (3, .int x3)] [.int s0] u := by
  unfold w_M_twoNow_b65 at h
  refine J_iconst (v := 0) dX11_twoNow_65 ci_0 ?_
  exact (t_M_twoNow_b66 hR hX h)
set_option maxRecDepth 20000 in
set_option maxHeartbeats 4000000 in
theorem t_M_twoNow_l12 {u : Mem}  {X : Int32 → Prop} {x1 : Int32} {Q : Int32 → Prop} (hX : ∀ (x2 : Int32), X x2 → a_M_twoNow l D ad cI cZ cS rs A0 (jRi u Q) 74 [(0, .ref (ad 0)), (1, .int x1), (2, .int x2)] [] u) : ∀ (n : Nat) (x2 : Int32) (x3 : Int32), w_M_twoNow_l12 X x1 u Q n x2 x3 → a_M_twoNow l D ad cI cZ cS rs A0 (jRi u Q) 12 [(0, .ref (ad 0)), (1, .int x1), (2, .int x2), (3, .int x3)] [] u := by
  intro n
  induction n with
  | zero =>
    intro x2 x3 h
    exact (by simp only [w_M_twoNow_l12] at h : False).elim
  | succ n ih =>
    intro x2 x3 h
    rw [w_M_twoNow_l12] at h
    refine J_iload_n 3 dX11_twoNow_12 rfl rfl ?_
    refine J_aload_n 0 dX11_twoNow_13 rfl rfl ?_
    refine gM_0_8 (v := (u.1 2)) rfl dX11_twoNow_14 ?_
    refine J_icmp_ge (tgt := 74) dX11_twoNow_17 rfl (fun c => ?_) (fun c => ?_)
    · have h := h.1 c
      exact J_sub (lv' := [(0, .ref (ad 0)), (1, .int x1), (2, .int x2)]) [0, 1, 2] rfl (hX x2 h)
    · have h := h.2 c
      refine J_iload_n 2 dX11_twoNow_20 rfl rfl ?_
      refine J_aload_n 0 dX11_twoNow_21 rfl rfl ?_
      refine gM_0_9 dX11_twoNow_22 ?_
      refine J_iconst (v := 3) dX11_twoNow_25 ci_3 ?_
      refine J_iload_n 3 dX11_twoNow_26 rfl rfl ?_
      refine J_imul dX11_twoNow_27 ?_
      refine J_iconst (v := 1) dX11_twoNow_28 ci_1 ?_
      refine J_iadd dX11_twoNow_29 ?_
      refine lM_6 (v := (u.2 6 ((3 * x3) + 1).toNatClampNeg)) h.1 rfl dX11_twoNow_30 ?_
      have h := h.2
      refine J_iconst (v := 1) dX11_twoNow_31 ci_1 ?_
      refine J_icmp_ne (tgt := 65) dX11_twoNow_32 rfl (fun c => ?_) (fun c => ?_)
      · have h := h.1 c
        exact J_sub (lv' := [(0, .ref (ad 0)), (1, .int x1), (3, .int x3)]) [0, 1, 3] rfl (t_M_twoNow_b65 ih hX h)
      · have h := h.2 c
        refine J_aload_n 0 dX11_twoNow_35 rfl rfl ?_
        refine gM_0_9 dX11_twoNow_36 ?_
        refine J_iconst (v := 3) dX11_twoNow_39 ci_3 ?_
        refine J_iload_n 3 dX11_twoNow_40 rfl rfl ?_
        refine J_imul dX11_twoNow_41 ?_
        refine lM_6 (v := (u.2 6 (3 * x3).toNatClampNeg)) h.1 rfl dX11_twoNow_42 ?_
        have h := h.2
        refine J_iload_n 1 dX11_twoNow_43 rfl rfl ?_
        refine JS_Ri kS_RX11_142 (c_M_isIn h) rfl rfl (by decide) (Nat.le_of_ble_eq_true rfl) dX11_twoNow_44 (fun r1 h => ?_)
        refine J_if_eq (tgt := 65) dX11_twoNow_47 rfl (fun c => ?_) (fun c => ?_)
        · have h := h.1 c
          exact J_sub (lv' := [(0, .ref (ad 0)), (1, .int x1), (3, .int x3)]) [0, 1, 3] rfl (t_M_twoNow_b65 ih hX h)
        · have h := h.2 c
          refine J_iconst (v := 1) dX11_twoNow_50 ci_1 ?_
          refine J_aload_n 0 dX11_twoNow_51 rfl rfl ?_
          refine gM_0_9 dX11_twoNow_52 ?_
          refine J_iconst (v := 3) dX11_twoNow_55 ci_3 ?_
          refine J_iload_n 3 dX11_twoNow_56 rfl rfl ?_
          refine J_imul dX11_twoNow_57 ?_
          refine J_iconst (v := 2) dX11_twoNow_58 ci_2 ?_
          refine J_iadd dX11_twoNow_59 ?_
          refine lM_6 (v := (u.2 6 ((3 * x3) + 2).toNatClampNeg)) h.1 rfl dX11_twoNow_60 ?_
          have h := h.2
          refine J_ishl dX11_twoNow_61 ?_
          refine J_goto (tgt := 66) dX11_twoNow_62 rfl ?_
          exact J_sub (lv' := [(0, .ref (ad 0)), (1, .int x1), (3, .int x3)]) [0, 1, 3] rfl (t_M_twoNow_b66 ih hX h)
set_option maxRecDepth 20000 in
set_option maxHeartbeats 4000000 in
theorem t_M_twoNow_l2 {u : Mem}  {X : Prop} {Q : Int32 → Prop} (hX : X → a_M_twoNow l D ad cI cZ cS rs A0 (jRi u Q) 90 [] [] u) : ∀ (n : Nat) (x1 : Int32), w_M_twoNow_l2 X u Q n x1 → a_M_twoNow l D ad cI cZ cS rs A0 (jRi u Q) 2 [(0, .ref (ad 0)), (1, .int x1)] [] u := by
  intro n
  induction n with
  | zero =>
    intro x1 h
    exact (by simp only [w_M_twoNow_l2] at h : False).elim
  | succ n ih =>
    intro x1 h
    rw [w_M_twoNow_l2] at h
    refine J_iload_n 1 dX11_twoNow_2 rfl rfl ?_
    refine J_bipush (v := 8) dX11_twoNow_3 cb_8 ?_
    refine J_icmp_ge (tgt := 90) dX11_twoNow_5 rfl (fun c => ?_) (fun c => ?_)
    · have h := h.1 c
      exact J_sub (lv' := []) [] rfl (hX h)
    · have h := h.2 c
      refine J_iconst (v := 0) dX11_twoNow_8 ci_0 ?_
      refine J_istore_n (lv' := [(2, .int 0), (0, .ref (ad 0)), (1, .int x1)]) dX11_twoNow_9 rfl (Nat.le_of_ble_eq_true rfl) rfl ?_
      refine J_iconst (v := 0) dX11_twoNow_10 ci_0 ?_
      refine J_istore_n (lv' := [(3, .int 0), (2, .int 0), (0, .ref (ad 0)), (1, .int x1)]) dX11_twoNow_11 rfl (Nat.le_of_ble_eq_true rfl) rfl ?_
      obtain ⟨n6, h⟩ := h
      refine J_sub (lv' := [(0, .ref (ad 0)), (1, .int x1), (2, .int 0), (3, .int 0)]) [2, 3, 1, 0] rfl (t_M_twoNow_l12 ?_ n6 0 0 h)
      · intro z3 h
        refine J_iload_n 2 dX11_twoNow_74 rfl rfl ?_
        refine JS_Ri kS_RX11_170 (c_M_ones h) rfl rfl (by decide) (Nat.le_of_ble_eq_true rfl) dX11_twoNow_75 (fun r4 h => ?_)
        refine J_iconst (v := 1) dX11_twoNow_78 ci_1 ?_
        refine J_icmp_le (tgt := 84) dX11_twoNow_79 rfl (fun c => ?_) (fun c => ?_)
        · have h := h.1 c
          refine J_iinc (v := (x1 + 1)) (lv' := [(1, .int (x1 + 1)), (0, .ref (ad 0)), (2, .int z3)]) 1 dX11_twoNow_84 rfl rfl (Nat.le_of_ble_eq_true rfl) rfl ?_
          refine J_goto (tgt := 2) dX11_twoNow_87 rfl ?_
          exact J_sub (lv' := [(0, .ref (ad 0)), (1, .int (x1 + 1))]) [1, 0] rfl (ih (x1 + 1) h)
        · have h := h.2 c
          refine J_iload_n 1 dX11_twoNow_82 rfl rfl ?_
          exact J_iret rfl dX11_twoNow_83 ⟨rfl, _, rfl, h⟩
set_option maxRecDepth 20000 in
set_option maxHeartbeats 4000000 in
theorem c_M_twoNow {u : Mem} {Q : Int32 → Prop} (h : w_M_twoNow u Q) : MM l D ad cI cZ cS rs A0 yX11_twoNow cX11_twoNow 4 (some .int) 1 [.ref (ad 0)] u (jRi u Q) := by
  unfold w_M_twoNow at h
  refine JMet.of (by decide) (Nat.le_of_ble_eq_true rfl) ?_
  refine J_sub (lv' := [(0, .ref (ad 0))]) [0] rfl ?_
  show a_M_twoNow l D ad cI cZ cS rs A0 (jRi u Q) 0 [(0, .ref (ad 0))] [] u
  refine J_iconst (v := 0) dX11_twoNow_0 ci_0 ?_
  refine J_istore_n (lv' := [(1, .int 0), (0, .ref (ad 0))]) dX11_twoNow_1 rfl (Nat.le_of_ble_eq_true rfl) rfl ?_
  obtain ⟨n7, h⟩ := h
  refine J_sub (lv' := [(0, .ref (ad 0)), (1, .int 0)]) [1, 0] rfl (t_M_twoNow_l2 ?_ n7 0 h)
  · intro h
    refine J_iconst (v := (-1)) dX11_twoNow_90 ci_m1 ?_
    exact J_iret rfl dX11_twoNow_91 ⟨rfl, _, rfl, h⟩
abbrev a_M_two (l : Launch) (D : va_G) (ad : Nat → Nat) (cI cZ cS : ClassId) (rs : va_W) (A0 : Nat → Prop) := AM l D ad cI cZ cS rs A0 cX11_two 1 (some .int) RX11 4
set_option maxRecDepth 20000 in
set_option maxHeartbeats 4000000 in
theorem c_M_two {u : Mem} {Q : Int32 → Mem → Prop} (h : w_M_two u Q) : MM l D ad cI cZ cS rs A0 yX11_two cX11_two 1 (some .int) 4 [.ref (ad 0)] u (jWi Q) := by
  unfold w_M_two at h
  refine JMet.of (by decide) (Nat.le_of_ble_eq_true rfl) ?_
  refine J_sub (lv' := [(0, .ref (ad 0))]) [0] rfl ?_
  show a_M_two l D ad cI cZ cS rs A0 (jWi Q) 0 [(0, .ref (ad 0))] [] u
  refine J_aload_n 0 dX11_two_0 rfl rfl ?_
  refine JV_Wi kV_RX11_132 0 rM_0 rfl rfl (c_M_readsLaws h) rfl rfl (by decide) (Nat.le_of_ble_eq_true rfl) dX11_two_1 (fun r1 u2 h => ?_)
  refine J_pop dX11_two_4 rfl ?_
  refine J_aload_n 0 dX11_two_5 rfl rfl ?_
  refine JV_Ri kV_RX11_173 0 rM_0 rfl rfl (c_M_twoNow h) rfl rfl (by decide) (Nat.le_of_ble_eq_true rfl) dX11_two_6 (fun r3 h => ?_)
  exact J_iret rfl dX11_two_9 ⟨_, rfl, h⟩
abbrev a_M_second (l : Launch) (D : va_G) (ad : Nat → Nat) (cI cZ cS : ClassId) (rs : va_W) (A0 : Nat → Prop) := AM l D ad cI cZ cS rs A0 cX11_second 2 (some .int) RX11 5
set_option maxRecDepth 20000 in
set_option maxHeartbeats 4000000 in
theorem c_M_second {u : Mem} {x1 : Int32} {Q : Int32 → Mem → Prop} (h : w_M_second x1 u Q) : MM l D ad cI cZ cS rs A0 yX11_second cX11_second 2 (some .int) 5 [.ref (ad 0), .int x1] u (jWi Q) := by
  unfold w_M_second at h
  refine JMet.of (by decide) (Nat.le_of_ble_eq_true rfl) ?_
  refine J_sub (lv' := [(0, .ref (ad 0)), (1, .int x1)]) [0, 1] rfl ?_
  show a_M_second l D ad cI cZ cS rs A0 (jWi Q) 0 [(0, .ref (ad 0)), (1, .int x1)] [] u
  refine J_aload_n 0 dX11_second_0 rfl rfl ?_
  refine JV_Wv kV_RX11_153 0 rM_0 rfl rfl (c_M_reads h) rfl rfl (by decide) (Nat.le_of_ble_eq_true rfl) dX11_second_1 (fun u2 h => ?_)
  refine J_iload_n 1 dX11_second_4 rfl rfl ?_
  refine JS_Ri kS_RX11_147 (c_M_isSet h) rfl rfl (by decide) (Nat.le_of_ble_eq_true rfl) dX11_second_5 (fun r3 h => ?_)
  refine J_if_eq (tgt := 25) dX11_second_8 rfl (fun c => ?_) (fun c => ?_)
  · have h := h.1 c
    refine J_bipush (v := (-2)) dX11_second_25 cb_m2 ?_
    exact J_iret rfl dX11_second_27 ⟨_, rfl, h⟩
  · have h := h.2 c
    refine J_aload_n 0 dX11_second_11 rfl rfl ?_
    refine gM_0_12 dX11_second_12 ?_
    refine J_aload_n 0 dX11_second_15 rfl rfl ?_
    refine gM_0_12 dX11_second_16 ?_
    refine J_iload_n 1 dX11_second_19 rfl rfl ?_
    refine lM_8 (v := (u2.2 8 x1.toNatClampNeg)) h.1 rfl dX11_second_20 ?_
    have h := h.2
    refine lM_8 (v := (u2.2 8 (u2.2 8 x1.toNatClampNeg).toNatClampNeg)) h.1 rfl dX11_second_21 ?_
    have h := h.2
    refine J_goto (tgt := 27) dX11_second_22 rfl ?_
    exact J_iret rfl dX11_second_27 ⟨_, rfl, h⟩
abbrev a_M_comeIn (l : Launch) (D : va_G) (ad : Nat → Nat) (cI cZ cS : ClassId) (rs : va_W) (A0 : Nat → Prop) := AM l D ad cI cZ cS rs A0 cX11_comeIn 5 (some .int) RX11 1
set_option maxRecDepth 20000 in
set_option maxHeartbeats 4000000 in
theorem t_M_comeIn_l5 {u : Mem}  {X : Int32 → Prop} {x1 : Int32} {Q : Int32 → Prop} (hX : ∀ (x3 : Int32), X x3 → a_M_comeIn l D ad cI cZ cS rs A0 (jRi u Q) 23 [(0, .ref (ad 0)), (3, .int x3)] [] u) : ∀ (n : Nat) (x3 : Int32) (x4 : Int32), w_M_comeIn_l5 X x1 u Q n x3 x4 → a_M_comeIn l D ad cI cZ cS rs A0 (jRi u Q) 5 [(0, .ref (ad 0)), (1, .int x1), (3, .int x3), (4, .int x4)] [] u := by
  intro n
  induction n with
  | zero =>
    intro x3 x4 h
    exact (by simp only [w_M_comeIn_l5] at h : False).elim
  | succ n ih =>
    intro x3 x4 h
    rw [w_M_comeIn_l5] at h
    refine J_iload 3 dX11_comeIn_5 rfl ?_
    refine J_iload_n 1 dX11_comeIn_7 rfl rfl ?_
    refine J_icmp_ge (tgt := 23) dX11_comeIn_8 rfl (fun c => ?_) (fun c => ?_)
    · have h := h.1 c
      exact J_sub (lv' := [(0, .ref (ad 0)), (3, .int x3)]) [0, 2] rfl (hX x3 h)
    · have h := h.2 c
      refine J_aload_n 0 dX11_comeIn_11 rfl rfl ?_
      refine J_iload_n 2 dX11_comeIn_12 rfl rfl ?_
      refine JV_Ri kV_RX11_176 0 rM_0 rfl rfl (c_M_next h) rfl rfl (by decide) (Nat.le_of_ble_eq_true rfl) dX11_comeIn_13 (fun r1 h => ?_)
      refine J_istore_n (lv' := [(3, .int r1), (0, .ref (ad 0)), (1, .int x1), (4, .int x4)]) dX11_comeIn_16 rfl (Nat.le_of_ble_eq_true rfl) rfl ?_
      refine J_iinc (v := (x4 + 1)) (lv' := [(4, .int (x4 + 1)), (3, .int r1), (0, .ref (ad 0)), (1, .int x1)]) 3 dX11_comeIn_17 rfl rfl (Nat.le_of_ble_eq_true rfl) rfl ?_
      refine J_goto (tgt := 5) dX11_comeIn_20 rfl ?_
      exact J_sub (lv' := [(0, .ref (ad 0)), (1, .int x1), (3, .int r1), (4, .int (x4 + 1))]) [2, 3, 1, 0] rfl (ih r1 (x4 + 1) h)
set_option maxRecDepth 20000 in
set_option maxHeartbeats 4000000 in
theorem c_M_comeIn {u : Mem} {x1 : Int32} {x2 : Int32} {Q : Int32 → Prop} (h : w_M_comeIn x1 x2 u Q) : MM l D ad cI cZ cS rs A0 yX11_comeIn cX11_comeIn 5 (some .int) 1 [.ref (ad 0), .int x1, .int x2] u (jRi u Q) := by
  unfold w_M_comeIn at h
  refine JMet.of (by decide) (Nat.le_of_ble_eq_true rfl) ?_
  refine J_sub (lv' := [(0, .ref (ad 0)), (1, .int x1), (2, .int x2)]) [0, 1, 2] rfl ?_
  show a_M_comeIn l D ad cI cZ cS rs A0 (jRi u Q) 0 [(0, .ref (ad 0)), (1, .int x1), (2, .int x2)] [] u
  refine J_iload_n 2 dX11_comeIn_0 rfl rfl ?_
  refine J_istore_n (lv' := [(3, .int x2), (0, .ref (ad 0)), (1, .int x1), (2, .int x2)]) dX11_comeIn_1 rfl (Nat.le_of_ble_eq_true rfl) rfl ?_
  refine J_iconst (v := 1) dX11_comeIn_2 ci_1 ?_
  refine J_istore (lv' := [(4, .int 1), (3, .int x2), (0, .ref (ad 0)), (1, .int x1), (2, .int x2)]) dX11_comeIn_3 (Nat.le_of_ble_eq_true rfl) rfl ?_
  obtain ⟨n4, h⟩ := h
  refine J_sub (lv' := [(0, .ref (ad 0)), (1, .int x1), (3, .int x2), (4, .int 1)]) [2, 3, 1, 0] rfl (t_M_comeIn_l5 ?_ n4 x2 1 h)
  · intro z3 h
    refine J_aload_n 0 dX11_comeIn_23 rfl rfl ?_
    refine gM_0_12 dX11_comeIn_24 ?_
    refine J_iload_n 1 dX11_comeIn_27 rfl rfl ?_
    refine lM_8 (v := (u.2 8 z3.toNatClampNeg)) h.1 rfl dX11_comeIn_28 ?_
    have h := h.2
    exact J_iret rfl dX11_comeIn_29 ⟨rfl, _, rfl, h⟩
abbrev a_M_told (l : Launch) (D : va_G) (ad : Nat → Nat) (cI cZ cS : ClassId) (rs : va_W) (A0 : Nat → Prop) := AM l D ad cI cZ cS rs A0 cX11_told 2 (some .int) RX11 1
set_option maxRecDepth 20000 in
set_option maxHeartbeats 4000000 in
theorem t_M_told_b10 {u : Mem} {x0 : Int32} {Q : Int32 → Prop} (h : w_M_told_b10 x0 Q) : a_M_told l D ad cI cZ cS rs A0 (jRi u Q) 10 [(0, .int x0)] [] u := by
  unfold w_M_told_b10 at h
  refine J_iload_n 0 dX11_told_10 rfl rfl ?_
  refine J_goto (tgt := 18) dX11_told_11 rfl ?_
  exact J_iret rfl dX11_told_18 ⟨rfl, _, rfl, h⟩
set_option maxRecDepth 20000 in
set_option maxHeartbeats 4000000 in
theorem c_M_told {u : Mem} {x0 : Int32} {x1 : Int32} {Q : Int32 → Prop} (h : w_M_told x0 x1 Q) : MM l D ad cI cZ cS rs A0 yX11_told cX11_told 2 (some .int) 1 [.int x0, .int x1] u (jRi u Q) := by
  unfold w_M_told at h
  refine JMet.of (by decide) (Nat.le_of_ble_eq_true rfl) ?_
  refine J_sub (lv' := [(0, .int x0), (1, .int x1)]) [0, 1] rfl ?_
  show a_M_told l D ad cI cZ cS rs A0 (jRi u Q) 0 [(0, .int x0), (1, .int x1)] [] u
  refine J_iload_n 0 dX11_told_0 rfl rfl ?_
  refine J_iconst (v := (-1)) dX11_told_1 ci_m1 ?_
  refine J_icmp_eq (tgt := 10) dX11_told_2 rfl (fun c => ?_) (fun c => ?_)
  · have h := h.1 c
    exact J_sub (lv' := [(0, .int x0)]) [0] rfl (t_M_told_b10 h)
  · have h := h.2 c
    refine J_iload_n 1 dX11_told_5 rfl rfl ?_
    refine J_iconst (v := 1) dX11_told_6 ci_1 ?_
    refine J_icmp_ne (tgt := 14) dX11_told_7 rfl (fun c => ?_) (fun c => ?_)
    · have h := h.1 c
      refine J_iload_n 0 dX11_told_14 rfl rfl ?_
      refine JS_Ri kS_RX11_170 (c_M_ones h) rfl rfl (by decide) (Nat.le_of_ble_eq_true rfl) dX11_told_15 (fun r1 h => ?_)
      exact J_iret rfl dX11_told_18 ⟨rfl, _, rfl, h⟩
    · have h := h.2 c
      exact J_sub (lv' := [(0, .int x0)]) [0] rfl (t_M_told_b10 h)
abbrev a_M_touchOf (l : Launch) (D : va_G) (ad : Nat → Nat) (cI cZ cS : ClassId) (rs : va_W) (A0 : Nat → Prop) := AM l D ad cI cZ cS rs A0 cX11_touchOf 8 (some .int) RX11 2
set_option maxRecDepth 20000 in
set_option maxHeartbeats 4000000 in
theorem t_M_touchOf_b82 {u : Mem} {R : Int32 → Int32 → Prop} {X : Int32 → Prop} {x1 : Int32} {x2 : Int32} {x3 : Int32} {x5 : Int32} {s0 : Int32} {Q : Int32 → Prop} (hR : ∀ (z4 : Int32) (z5 : Int32), R z4 z5 → a_M_touchOf l D ad cI cZ cS rs A0 (jRi u Q) 6 [(0, .ref (ad 0)), (1, .int x1), (2, .int x2), (3, .int x3), (4, .int z4), (5, .int z5)] [] u) (hX : ∀ (z4 : Int32), X z4 → a_M_touchOf l D ad cI cZ cS rs A0 (jRi u Q) 90 [(4, .int z4)] [] u) (h : w_M_touchOf_b82 R X x1 x2 x3 x5 s0 u Q) : a_M_touchOf l D ad cI cZ cS rs A0 (jRi u Q) 82 [(0, .ref (ad 0)), (1, .int x1), (2, .int x2), (3, .int x3), (5, .int x5)] [.int s0] u := by
  unfold w_M_touchOf_b82 at h
  refine J_istore (lv' := [(4, .int s0), (0, .ref (ad 0)), (1, .int x1), (2, .int x2), (3, .int x3), (5, .int x5)]) dX11_touchOf_82 (Nat.le_of_ble_eq_true rfl) rfl ?_
  refine J_iinc (v := (x5 + 1)) (lv' := [(5, .int (x5 + 1)), (4, .int s0), (0, .ref (ad 0)), (1, .int x1), (2, .int x2), (3, .int x3)]) 5 dX11_touchOf_84 rfl rfl (Nat.le_of_ble_eq_true rfl) rfl ?_
  refine J_goto (tgt := 6) dX11_touchOf_87 rfl ?_
  exact J_sub (lv' := [(0, .ref (ad 0)), (1, .int x1), (2, .int x2), (3, .int x3), (4, .int s0), (5, .int (x5 + 1))]) [2, 3, 4, 5, 1, 0] rfl (hR s0 (x5 + 1) h)
set_option maxRecDepth 20000 in
set_option maxHeartbeats 4000000 in
theorem t_M_touchOf_b80 {u : Mem} {R : Int32 → Int32 → Prop} {X : Int32 → Prop} {x1 : Int32} {x2 : Int32} {x3 : Int32} {x4 : Int32} {x5 : Int32} {Q : Int32 → Prop} (hR : ∀ (z4 : Int32) (z5 : Int32), R z4 z5 → a_M_touchOf l D ad cI cZ cS rs A0 (jRi u Q) 6 [(0, .ref (ad 0)), (1, .int x1), (2, .int x2), (3, .int x3), (4, .int z4), (5, .int z5)] [] u) (hX : ∀ (z4 : Int32), X z4 → a_M_touchOf l D ad cI cZ cS rs A0 (jRi u Q) 90 [(4, .int z4)] [] u) (h : w_M_touchOf_b80 R X x1 x2 x3 x4 x5 u Q) : a_M_touchOf l D ad cI cZ cS rs A0 (jRi u Q) 80 [(0, .ref (ad 0)), (1, .int x1), (2, .int x2), (3, .int x3), (4, .int x4), (5, .int x5)] [] u := by
  unfold w_M_touchOf_b80 at h
  refine J_iload 4 dX11_touchOf_80 rfl ?_
  exact J_sub (lv' := [(0, .ref (ad 0)), (1, .int x1), (2, .int x2), (3, .int x3), (5, .int x5)]) [0, 1, 2, 3, 5] rfl (t_M_touchOf_b82 hR hX h)
set_option maxRecDepth 20000 in
set_option maxHeartbeats 4000000 in
theorem t_M_touchOf_b75 {u : Mem} {R : Int32 → Int32 → Prop} {X : Int32 → Prop} {x1 : Int32} {x2 : Int32} {x3 : Int32} {x5 : Int32} {Q : Int32 → Prop} (hR : ∀ (z4 : Int32) (z5 : Int32), R z4 z5 → a_M_touchOf l D ad cI cZ cS rs A0 (jRi u Q) 6 [(0, .ref (ad 0)), (1, .int x1), (2, .int x2), (3, .int x3), (4, .int z4), (5, .int z5)] [] u) (hX : ∀ (z4 : Int32), X z4 → a_M_touchOf l D ad cI cZ cS rs A0 (jRi u Q) 90 [(4, .int z4)] [] u) (h : w_M_touchOf_b75 R X x1 x2 x3 x5 u Q) : a_M_touchOf l D ad cI cZ cS rs A0 (jRi u Q) 75 [(0, .ref (ad 0)), (1, .int x1), (2, .int x2), (3, .int x3), (5, .int x5)] [] u := by
  unfold w_M_touchOf_b75 at h
  refine J_iload 4 dX11_touchOf_75 rfl ?_
  refine J_goto (tgt := 82) dX11_touchOf_77 rfl ?_
  exact (t_M_touchOf_b82 hR hX h)
set_option maxRecDepth 20000 in
set_option maxHeartbeats 4000000 in
theorem t_M_touchOf_b49 {u : Mem} {R : Int32 → Int32 → Prop} {X : Int32 → Prop} {x1 : Int32} {x2 : Int32} {x3 : Int32} {x4 : Int32} {x5 : Int32} {s0 : Int32} {Q : Int32 → Prop} (hR : ∀ (z4 : Int32) (z5 : Int32), R z4 z5 → a_M_touchOf l D ad cI cZ cS rs A0 (jRi u Q) 6 [(0, .ref (ad 0)), (1, .int x1), (2, .int x2), (3, .int x3), (4, .int z4), (5, .int z5)] [] u) (hX : ∀ (z4 : Int32), X z4 → a_M_touchOf l D ad cI cZ cS rs A0 (jRi u Q) 90 [(4, .int z4)] [] u) (h : w_M_touchOf_b49 R X x1 x2 x3 x4 x5 s0 u Q) : a_M_touchOf l D ad cI cZ cS rs A0 (jRi u Q) 49 [(0, .ref (ad 0)), (1, .int x1), (2, .int x2), (3, .int x3), (4, .int x4), (5, .int x5)] [.int s0] u := by
  unfold w_M_touchOf_b49 at h
  refine J_istore (lv' := [(7, .int s0), (0, .ref (ad 0)), (1, .int x1), (2, .int x2), (3, .int x3), (4, .int x4), (5, .int x5)]) dX11_touchOf_49 (Nat.le_of_ble_eq_true rfl) rfl ?_
  refine J_iload 0 dX11_touchOf_51 rfl ?_
  refine J_if_eq (tgt := 80) dX11_touchOf_53 rfl (fun c => ?_) (fun c => ?_)
  · have h := h.1 c
    exact J_sub (lv' := [(0, .ref (ad 0)), (1, .int x1), (2, .int x2), (3, .int x3), (4, .int x4), (5, .int x5)]) [1, 2, 3, 4, 5, 6] rfl (t_M_touchOf_b80 hR hX h)
  · have h := h.2 c
    refine J_iload 5 dX11_touchOf_56 rfl ?_
    refine J_iconst (v := (-1)) dX11_touchOf_58 ci_m1 ?_
    refine J_icmp_eq (tgt := 75) dX11_touchOf_59 rfl (fun c => ?_) (fun c => ?_)
    · have h := h.1 c
      exact J_sub (lv' := [(0, .ref (ad 0)), (1, .int x1), (2, .int x2), (3, .int x3), (5, .int x5)]) [1, 2, 3, 4, 6] rfl (t_M_touchOf_b75 hR hX h)
    · have h := h.2 c
      refine J_iload 6 dX11_touchOf_62 rfl ?_
      refine JS_Ri kS_RX11_170 (c_M_ones h) rfl rfl (by decide) (Nat.le_of_ble_eq_true rfl) dX11_touchOf_64 (fun r3 h => ?_)
      refine J_iload 5 dX11_touchOf_67 rfl ?_
      refine JS_Ri kS_RX11_170 (c_M_ones h) rfl rfl (by decide) (Nat.le_of_ble_eq_true rfl) dX11_touchOf_69 (fun r5 h => ?_)
      refine J_icmp_ge (tgt := 80) dX11_touchOf_72 rfl (fun c => ?_) (fun c => ?_)
      · have h := h.1 c
        exact J_sub (lv' := [(0, .ref (ad 0)), (1, .int x1), (2, .int x2), (3, .int x3), (4, .int x4), (5, .int x5)]) [1, 2, 3, 4, 5, 6] rfl (t_M_touchOf_b80 hR hX h)
      · have h := h.2 c
        exact J_sub (lv' := [(0, .ref (ad 0)), (1, .int x1), (2, .int x2), (3, .int x3), (5, .int x5)]) [1, 2, 3, 4, 6] rfl (t_M_touchOf_b75 hR hX h)
set_option maxRecDepth 20000 in
set_option maxHeartbeats 4000000 in
theorem t_M_touchOf_b48 {u : Mem} {R : Int32 → Int32 → Prop} {X : Int32 → Prop} {x1 : Int32} {x2 : Int32} {x3 : Int32} {x4 : Int32} {x5 : Int32} {Q : Int32 → Prop} (hR : ∀ (z4 : Int32) (z5 : Int32), R z4 z5 → a_M_touchOf l D ad cI cZ cS rs A0 (jRi u Q) 6 [(0, .ref (ad 0)), (1, .int x1), (2, .int x2), (3, .int x3), (4, .int z4), (5, .int z5)] [] u) (hX : ∀ (z4 : Int32), X z4 → a_M_touchOf l D ad cI cZ cS rs A0 (jRi u Q) 90 [(4, .int z4)] [] u) (h : w_M_touchOf_b48 R X x1 x2 x3 x4 x5 u Q) : a_M_touchOf l D ad cI cZ cS rs A0 (jRi u Q) 48 [(0, .ref (ad 0)), (1, .int x1), (2, .int x2), (3, .int x3), (4, .int x4), (5, .int x5)] [] u := by
  unfold w_M_touchOf_b48 at h
  refine J_iconst (v := 0) dX11_touchOf_48 ci_0 ?_
  exact (t_M_touchOf_b49 hR hX h)
set_option maxRecDepth 20000 in
set_option maxHeartbeats 4000000 in
theorem t_M_touchOf_l6 {u : Mem}  {X : Int32 → Prop} {x1 : Int32} {x2 : Int32} {x3 : Int32} {Q : Int32 → Prop} (hX : ∀ (x4 : Int32), X x4 → a_M_touchOf l D ad cI cZ cS rs A0 (jRi u Q) 90 [(4, .int x4)] [] u) : ∀ (n : Nat) (x4 : Int32) (x5 : Int32), w_M_touchOf_l6 X x1 x2 x3 u Q n x4 x5 → a_M_touchOf l D ad cI cZ cS rs A0 (jRi u Q) 6 [(0, .ref (ad 0)), (1, .int x1), (2, .int x2), (3, .int x3), (4, .int x4), (5, .int x5)] [] u := by
  intro n
  induction n with
  | zero =>
    intro x4 x5 h
    exact (by simp only [w_M_touchOf_l6] at h : False).elim
  | succ n ih =>
    intro x4 x5 h
    rw [w_M_touchOf_l6] at h
    refine J_iload 5 dX11_touchOf_6 rfl ?_
    refine J_sipush (v := 256) dX11_touchOf_8 cs_256 ?_
    refine J_icmp_ge (tgt := 90) dX11_touchOf_11 rfl (fun c => ?_) (fun c => ?_)
    · have h := h.1 c
      exact J_sub (lv' := [(4, .int x4)]) [4] rfl (hX x4 h)
    · have h := h.2 c
      refine J_aload_n 0 dX11_touchOf_14 rfl rfl ?_
      refine J_iload_n 1 dX11_touchOf_15 rfl rfl ?_
      refine J_aload_n 0 dX11_touchOf_16 rfl rfl ?_
      refine gM_0_14 (v := (u.1 4)) rfl dX11_touchOf_17 ?_
      refine J_iload 5 dX11_touchOf_20 rfl ?_
      refine J_ixor dX11_touchOf_22 ?_
      refine JV_Ri kV_RX11_179 0 rM_0 rfl rfl (c_M_comeIn h) rfl rfl (by decide) (Nat.le_of_ble_eq_true rfl) dX11_touchOf_23 (fun r1 h => ?_)
      refine J_istore (lv' := [(6, .int r1), (0, .ref (ad 0)), (1, .int x1), (2, .int x2), (3, .int x3), (4, .int x4), (5, .int x5)]) dX11_touchOf_26 (Nat.le_of_ble_eq_true rfl) rfl ?_
      refine J_iload_n 3 dX11_touchOf_28 rfl rfl ?_
      refine J_iload 0 dX11_touchOf_29 rfl ?_
      refine J_iconst (v := (-1)) dX11_touchOf_31 ci_m1 ?_
      refine J_ixor dX11_touchOf_32 ?_
      refine J_iand dX11_touchOf_33 ?_
      refine J_if_ne (tgt := 48) dX11_touchOf_34 rfl (fun c => ?_) (fun c => ?_)
      · have h := h.1 c
        exact J_sub (lv' := [(0, .ref (ad 0)), (1, .int x1), (2, .int x2), (3, .int x3), (4, .int x4), (5, .int x5)]) [1, 2, 3, 4, 5, 6] rfl (t_M_touchOf_b48 ih hX h)
      · have h := h.2 c
        refine J_iload_n 4 dX11_touchOf_37 rfl rfl ?_
        refine J_iload 0 dX11_touchOf_38 rfl ?_
        refine J_iand dX11_touchOf_40 ?_
        refine J_if_ne (tgt := 48) dX11_touchOf_41 rfl (fun c => ?_) (fun c => ?_)
        · have h := h.1 c
          exact J_sub (lv' := [(0, .ref (ad 0)), (1, .int x1), (2, .int x2), (3, .int x3), (4, .int x4), (5, .int x5)]) [1, 2, 3, 4, 5, 6] rfl (t_M_touchOf_b48 ih hX h)
        · have h := h.2 c
          refine J_iconst (v := 1) dX11_touchOf_44 ci_1 ?_
          refine J_goto (tgt := 49) dX11_touchOf_45 rfl ?_
          exact J_sub (lv' := [(0, .ref (ad 0)), (1, .int x1), (2, .int x2), (3, .int x3), (4, .int x4), (5, .int x5)]) [1, 2, 3, 4, 5, 6] rfl (t_M_touchOf_b49 ih hX h)
set_option maxRecDepth 20000 in
set_option maxHeartbeats 4000000 in
theorem c_M_touchOf {u : Mem} {x1 : Int32} {x2 : Int32} {x3 : Int32} {Q : Int32 → Prop} (h : w_M_touchOf x1 x2 x3 u Q) : MM l D ad cI cZ cS rs A0 yX11_touchOf cX11_touchOf 8 (some .int) 2 [.ref (ad 0), .int x1, .int x2, .int x3] u (jRi u Q) := by
  unfold w_M_touchOf at h
  refine JMet.of (by decide) (Nat.le_of_ble_eq_true rfl) ?_
  refine J_sub (lv' := [(0, .ref (ad 0)), (1, .int x1), (2, .int x2), (3, .int x3)]) [0, 1, 2, 3] rfl ?_
  show a_M_touchOf l D ad cI cZ cS rs A0 (jRi u Q) 0 [(0, .ref (ad 0)), (1, .int x1), (2, .int x2), (3, .int x3)] [] u
  refine J_iconst (v := (-1)) dX11_touchOf_0 ci_m1 ?_
  refine J_istore (lv' := [(4, .int (-1)), (0, .ref (ad 0)), (1, .int x1), (2, .int x2), (3, .int x3)]) dX11_touchOf_1 (Nat.le_of_ble_eq_true rfl) rfl ?_
  refine J_iconst (v := 0) dX11_touchOf_3 ci_0 ?_
  refine J_istore (lv' := [(5, .int 0), (4, .int (-1)), (0, .ref (ad 0)), (1, .int x1), (2, .int x2), (3, .int x3)]) dX11_touchOf_4 (Nat.le_of_ble_eq_true rfl) rfl ?_
  obtain ⟨n8, h⟩ := h
  refine J_sub (lv' := [(0, .ref (ad 0)), (1, .int x1), (2, .int x2), (3, .int x3), (4, .int (-1)), (5, .int 0)]) [2, 3, 4, 5, 1, 0] rfl (t_M_touchOf_l6 ?_ n8 (-1) 0 h)
  · intro z7 h
    refine J_iload 0 dX11_touchOf_90 rfl ?_
    exact J_iret rfl dX11_touchOf_92 ⟨rfl, _, rfl, h⟩
abbrev a_M_touch (l : Launch) (D : va_G) (ad : Nat → Nat) (cI cZ cS : ClassId) (rs : va_W) (A0 : Nat → Prop) := AM l D ad cI cZ cS rs A0 cX11_touch 5 (some .int) RX11 5
set_option maxRecDepth 20000 in
set_option maxHeartbeats 4000000 in
theorem c_M_touch {u : Mem} {x1 : Int32} {x2 : Int32} {x3 : Int32} {x4 : Int32} {Q : Int32 → Mem → Prop} (h : w_M_touch x1 x2 x3 x4 u Q) : MM l D ad cI cZ cS rs A0 yX11_touch cX11_touch 5 (some .int) 5 [.ref (ad 0), .int x1, .int x2, .int x3, .int x4] u (jWi Q) := by
  unfold w_M_touch at h
  refine JMet.of (by decide) (Nat.le_of_ble_eq_true rfl) ?_
  refine J_sub (lv' := [(0, .ref (ad 0)), (1, .int x1), (2, .int x2), (3, .int x3), (4, .int x4)]) [0, 1, 2, 3, 4] rfl ?_
  show a_M_touch l D ad cI cZ cS rs A0 (jWi Q) 0 [(0, .ref (ad 0)), (1, .int x1), (2, .int x2), (3, .int x3), (4, .int x4)] [] u
  refine J_iload_n 1 dX11_touch_0 rfl rfl ?_
  refine J_i2l dX11_touch_1 ?_
  refine J_lconst (v := 1) dX11_touch_2 rfl ?_
  refine J_ldc2 (v := 9) dX11_touch_3 kk_RX11_182 ?_
  refine JS_Ri kS_RX11_61 (c_M_in h) rfl rfl (by decide) (Nat.le_of_ble_eq_true rfl) dX11_touch_6 (fun r1 h => ?_)
  refine J_if_eq (tgt := 40) dX11_touch_9 rfl (fun c => ?_) (fun c => ?_)
  · have h := h.1 c
    refine J_bipush (v := (-2)) dX11_touch_40 cb_m2 ?_
    exact J_iret rfl dX11_touch_42 ⟨_, rfl, h⟩
  · have h := h.2 c
    refine J_iload_n 2 dX11_touch_12 rfl rfl ?_
    refine JS_Ri kS_RX11_147 (c_M_isSet h) rfl rfl (by decide) (Nat.le_of_ble_eq_true rfl) dX11_touch_13 (fun r3 h => ?_)
    refine J_if_eq (tgt := 40) dX11_touch_16 rfl (fun c => ?_) (fun c => ?_)
    · have h := h.1 c
      refine J_bipush (v := (-2)) dX11_touch_40 cb_m2 ?_
      exact J_iret rfl dX11_touch_42 ⟨_, rfl, h⟩
    · have h := h.2 c
      refine J_iload_n 3 dX11_touch_19 rfl rfl ?_
      refine JS_Ri kS_RX11_147 (c_M_isSet h) rfl rfl (by decide) (Nat.le_of_ble_eq_true rfl) dX11_touch_20 (fun r5 h => ?_)
      refine J_if_eq (tgt := 40) dX11_touch_23 rfl (fun c => ?_) (fun c => ?_)
      · have h := h.1 c
        refine J_bipush (v := (-2)) dX11_touch_40 cb_m2 ?_
        exact J_iret rfl dX11_touch_42 ⟨_, rfl, h⟩
      · have h := h.2 c
        refine J_iload_n 2 dX11_touch_26 rfl rfl ?_
        refine J_iload_n 3 dX11_touch_27 rfl rfl ?_
        refine J_iand dX11_touch_28 ?_
        refine J_if_ne (tgt := 40) dX11_touch_29 rfl (fun c => ?_) (fun c => ?_)
        · have h := h.1 c
          refine J_bipush (v := (-2)) dX11_touch_40 cb_m2 ?_
          exact J_iret rfl dX11_touch_42 ⟨_, rfl, h⟩
        · have h := h.2 c
          refine J_iload 4 dX11_touch_32 rfl ?_
          refine JS_Ri kS_RX11_90 (c_M_isTwo h) rfl rfl (by decide) (Nat.le_of_ble_eq_true rfl) dX11_touch_34 (fun r7 h => ?_)
          refine J_if_ne (tgt := 43) dX11_touch_37 rfl (fun c => ?_) (fun c => ?_)
          · have h := h.1 c
            refine J_aload_n 0 dX11_touch_43 rfl rfl ?_
            refine JV_Wv kV_RX11_153 0 rM_0 rfl rfl (c_M_reads h) rfl rfl (by decide) (Nat.le_of_ble_eq_true rfl) dX11_touch_44 (fun u10 h => ?_)
            refine J_aload_n 0 dX11_touch_47 rfl rfl ?_
            refine J_iload_n 1 dX11_touch_48 rfl rfl ?_
            refine J_iload_n 2 dX11_touch_49 rfl rfl ?_
            refine J_iload_n 3 dX11_touch_50 rfl rfl ?_
            refine JV_Ri kV_RX11_184 0 rM_0 rfl rfl (c_M_touchOf h) rfl rfl (by decide) (Nat.le_of_ble_eq_true rfl) dX11_touch_51 (fun r11 h => ?_)
            refine J_iload 4 dX11_touch_54 rfl ?_
            refine JS_Ri kS_RX11_187 (c_M_told h) rfl rfl (by decide) (Nat.le_of_ble_eq_true rfl) dX11_touch_56 (fun r13 h => ?_)
            exact J_iret rfl dX11_touch_59 ⟨_, rfl, h⟩
          · have h := h.2 c
            refine J_bipush (v := (-2)) dX11_touch_40 cb_m2 ?_
            exact J_iret rfl dX11_touch_42 ⟨_, rfl, h⟩
abbrev a_M_isOff (l : Launch) (D : va_G) (ad : Nat → Nat) (cI cZ cS : ClassId) (rs : va_W) (A0 : Nat → Prop) := AM l D ad cI cZ cS rs A0 cX11_isOff 6 (some .boolean) RX11 2
set_option maxRecDepth 20000 in
set_option maxHeartbeats 4000000 in
theorem t_M_isOff_b36 {u : Mem} {R : Int32 → Int32 → Prop} {X : Int32 → Prop} {x1 : Int32} {x2 : Int32} {x3 : Int32} {x5 : Int32} {s0 : Int32} {Q : Int32 → Prop} (hR : ∀ (z4 : Int32) (z5 : Int32), R z4 z5 → a_M_isOff l D ad cI cZ cS rs A0 (jRi u Q) 6 [(0, .ref (ad 0)), (1, .int x1), (2, .int x2), (3, .int x3), (4, .int z4), (5, .int z5)] [] u) (hX : ∀ (z4 : Int32), X z4 → a_M_isOff l D ad cI cZ cS rs A0 (jRi u Q) 44 [(4, .int z4)] [] u) (h : w_M_isOff_b36 R X x1 x2 x3 x5 s0 u Q) : a_M_isOff l D ad cI cZ cS rs A0 (jRi u Q) 36 [(0, .ref (ad 0)), (1, .int x1), (2, .int x2), (3, .int x3), (5, .int x5)] [.int s0] u := by
  unfold w_M_isOff_b36 at h
  refine J_istore (lv' := [(4, .int s0), (0, .ref (ad 0)), (1, .int x1), (2, .int x2), (3, .int x3), (5, .int x5)]) dX11_isOff_36 (Nat.le_of_ble_eq_true rfl) rfl ?_
  refine J_iinc (v := (x5 + 1)) (lv' := [(5, .int (x5 + 1)), (4, .int s0), (0, .ref (ad 0)), (1, .int x1), (2, .int x2), (3, .int x3)]) 5 dX11_isOff_38 rfl rfl (Nat.le_of_ble_eq_true rfl) rfl ?_
  refine J_goto (tgt := 6) dX11_isOff_41 rfl ?_
  exact J_sub (lv' := [(0, .ref (ad 0)), (1, .int x1), (2, .int x2), (3, .int x3), (4, .int s0), (5, .int (x5 + 1))]) [2, 3, 4, 5, 1, 0] rfl (hR s0 (x5 + 1) h)
set_option maxRecDepth 20000 in
set_option maxHeartbeats 4000000 in
theorem t_M_isOff_b35 {u : Mem} {R : Int32 → Int32 → Prop} {X : Int32 → Prop} {x1 : Int32} {x2 : Int32} {x3 : Int32} {x5 : Int32} {Q : Int32 → Prop} (hR : ∀ (z4 : Int32) (z5 : Int32), R z4 z5 → a_M_isOff l D ad cI cZ cS rs A0 (jRi u Q) 6 [(0, .ref (ad 0)), (1, .int x1), (2, .int x2), (3, .int x3), (4, .int z4), (5, .int z5)] [] u) (hX : ∀ (z4 : Int32), X z4 → a_M_isOff l D ad cI cZ cS rs A0 (jRi u Q) 44 [(4, .int z4)] [] u) (h : w_M_isOff_b35 R X x1 x2 x3 x5 u Q) : a_M_isOff l D ad cI cZ cS rs A0 (jRi u Q) 35 [(0, .ref (ad 0)), (1, .int x1), (2, .int x2), (3, .int x3), (5, .int x5)] [] u := by
  unfold w_M_isOff_b35 at h
  refine J_iconst (v := 0) dX11_isOff_35 ci_0 ?_
  exact (t_M_isOff_b36 hR hX h)
set_option maxRecDepth 20000 in
set_option maxHeartbeats 4000000 in
theorem t_M_isOff_l6 {u : Mem}  {X : Int32 → Prop} {x1 : Int32} {x2 : Int32} {x3 : Int32} {Q : Int32 → Prop} (hX : ∀ (x4 : Int32), X x4 → a_M_isOff l D ad cI cZ cS rs A0 (jRi u Q) 44 [(4, .int x4)] [] u) : ∀ (n : Nat) (x4 : Int32) (x5 : Int32), w_M_isOff_l6 X x1 x2 x3 u Q n x4 x5 → a_M_isOff l D ad cI cZ cS rs A0 (jRi u Q) 6 [(0, .ref (ad 0)), (1, .int x1), (2, .int x2), (3, .int x3), (4, .int x4), (5, .int x5)] [] u := by
  intro n
  induction n with
  | zero =>
    intro x4 x5 h
    exact (by simp only [w_M_isOff_l6] at h : False).elim
  | succ n ih =>
    intro x4 x5 h
    rw [w_M_isOff_l6] at h
    refine J_iload 5 dX11_isOff_6 rfl ?_
    refine J_iload_n 1 dX11_isOff_8 rfl rfl ?_
    refine J_icmp_gt (tgt := 44) dX11_isOff_9 rfl (fun c => ?_) (fun c => ?_)
    · have h := h.1 c
      exact J_sub (lv' := [(4, .int x4)]) [4] rfl (hX x4 h)
    · have h := h.2 c
      refine J_iload 4 dX11_isOff_12 rfl ?_
      refine J_if_eq (tgt := 35) dX11_isOff_14 rfl (fun c => ?_) (fun c => ?_)
      · have h := h.1 c
        exact J_sub (lv' := [(0, .ref (ad 0)), (1, .int x1), (2, .int x2), (3, .int x3), (5, .int x5)]) [0, 1, 2, 3, 5] rfl (t_M_isOff_b35 ih hX h)
      · have h := h.2 c
        refine J_aload_n 0 dX11_isOff_17 rfl rfl ?_
        refine J_iload 5 dX11_isOff_18 rfl ?_
        refine J_iload_n 3 dX11_isOff_20 rfl rfl ?_
        refine JV_Ri kV_RX11_179 0 rM_0 rfl rfl (c_M_comeIn h) rfl rfl (by decide) (Nat.le_of_ble_eq_true rfl) dX11_isOff_21 (fun r1 h => ?_)
        refine J_iload_n 2 dX11_isOff_24 rfl rfl ?_
        refine JS_Ri kS_RX11_142 (c_M_isIn h) rfl rfl (by decide) (Nat.le_of_ble_eq_true rfl) dX11_isOff_25 (fun r3 h => ?_)
        refine J_if_ne (tgt := 35) dX11_isOff_28 rfl (fun c => ?_) (fun c => ?_)
        · have h := h.1 c
          exact J_sub (lv' := [(0, .ref (ad 0)), (1, .int x1), (2, .int x2), (3, .int x3), (5, .int x5)]) [0, 1, 2, 3, 5] rfl (t_M_isOff_b35 ih hX h)
        · have h := h.2 c
          refine J_iconst (v := 1) dX11_isOff_31 ci_1 ?_
          refine J_goto (tgt := 36) dX11_isOff_32 rfl ?_
          exact J_sub (lv' := [(0, .ref (ad 0)), (1, .int x1), (2, .int x2), (3, .int x3), (5, .int x5)]) [0, 1, 2, 3, 5] rfl (t_M_isOff_b36 ih hX h)
set_option maxRecDepth 20000 in
set_option maxHeartbeats 4000000 in
theorem c_M_isOff {u : Mem} {x1 : Int32} {x2 : Int32} {x3 : Int32} {Q : Int32 → Prop} (h : w_M_isOff x1 x2 x3 u Q) : MM l D ad cI cZ cS rs A0 yX11_isOff cX11_isOff 6 (some .boolean) 2 [.ref (ad 0), .int x1, .int x2, .int x3] u (jRi u Q) := by
  unfold w_M_isOff at h
  refine JMet.of (by decide) (Nat.le_of_ble_eq_true rfl) ?_
  refine J_sub (lv' := [(0, .ref (ad 0)), (1, .int x1), (2, .int x2), (3, .int x3)]) [0, 1, 2, 3] rfl ?_
  show a_M_isOff l D ad cI cZ cS rs A0 (jRi u Q) 0 [(0, .ref (ad 0)), (1, .int x1), (2, .int x2), (3, .int x3)] [] u
  refine J_iconst (v := 1) dX11_isOff_0 ci_1 ?_
  refine J_istore (lv' := [(4, .int 1), (0, .ref (ad 0)), (1, .int x1), (2, .int x2), (3, .int x3)]) dX11_isOff_1 (Nat.le_of_ble_eq_true rfl) rfl ?_
  refine J_iconst (v := 1) dX11_isOff_3 ci_1 ?_
  refine J_istore (lv' := [(5, .int 1), (4, .int 1), (0, .ref (ad 0)), (1, .int x1), (2, .int x2), (3, .int x3)]) dX11_isOff_4 (Nat.le_of_ble_eq_true rfl) rfl ?_
  obtain ⟨n6, h⟩ := h
  refine J_sub (lv' := [(0, .ref (ad 0)), (1, .int x1), (2, .int x2), (3, .int x3), (4, .int 1), (5, .int 1)]) [2, 3, 4, 5, 1, 0] rfl (t_M_isOff_l6 ?_ n6 1 1 h)
  · intro z5 h
    refine J_iload 0 dX11_isOff_44 rfl ?_
    exact J_zret rfl dX11_isOff_46 (bz_n h.1) ⟨rfl, _, rfl, h.2⟩
abbrev a_M_keepOffOf (l : Launch) (D : va_G) (ad : Nat → Nat) (cI cZ cS : ClassId) (rs : va_W) (A0 : Nat → Prop) := AM l D ad cI cZ cS rs A0 cX11_keepOffOf 6 (some .int) RX11 3
set_option maxRecDepth 20000 in
set_option maxHeartbeats 4000000 in
theorem t_M_keepOffOf_b78 {u : Mem} {R : Int32 → Int32 → Prop} {X : Int32 → Prop} {x1 : Int32} {x2 : Int32} {x4 : Int32} {s0 : Int32} {Q : Int32 → Prop} (hR : ∀ (z3 : Int32) (z4 : Int32), R z3 z4 → a_M_keepOffOf l D ad cI cZ cS rs A0 (jRi u Q) 5 [(0, .ref (ad 0)), (1, .int x1), (2, .int x2), (3, .int z3), (4, .int z4)] [] u) (hX : ∀ (z3 : Int32), X z3 → a_M_keepOffOf l D ad cI cZ cS rs A0 (jRi u Q) 85 [(3, .int z3)] [] u) (h : w_M_keepOffOf_b78 R X x1 x2 x4 s0 u Q) : a_M_keepOffOf l D ad cI cZ cS rs A0 (jRi u Q) 78 [(0, .ref (ad 0)), (1, .int x1), (2, .int x2), (4, .int x4)] [.int s0] u := by
  unfold w_M_keepOffOf_b78 at h
  refine J_istore_n (lv' := [(3, .int s0), (0, .ref (ad 0)), (1, .int x1), (2, .int x2), (4, .int x4)]) dX11_keepOffOf_78 rfl (Nat.le_of_ble_eq_true rfl) rfl ?_
  refine J_iinc (v := (x4 + 1)) (lv' := [(4, .int (x4 + 1)), (3, .int s0), (0, .ref (ad 0)), (1, .int x1), (2, .int x2)]) 4 dX11_keepOffOf_79 rfl rfl (Nat.le_of_ble_eq_true rfl) rfl ?_
  refine J_goto (tgt := 5) dX11_keepOffOf_82 rfl ?_
  exact J_sub (lv' := [(0, .ref (ad 0)), (1, .int x1), (2, .int x2), (3, .int s0), (4, .int (x4 + 1))]) [2, 3, 4, 1, 0] rfl (hR s0 (x4 + 1) h)
set_option maxRecDepth 20000 in
set_option maxHeartbeats 4000000 in
theorem t_M_keepOffOf_b77 {u : Mem} {R : Int32 → Int32 → Prop} {X : Int32 → Prop} {x1 : Int32} {x2 : Int32} {x3 : Int32} {x4 : Int32} {Q : Int32 → Prop} (hR : ∀ (z3 : Int32) (z4 : Int32), R z3 z4 → a_M_keepOffOf l D ad cI cZ cS rs A0 (jRi u Q) 5 [(0, .ref (ad 0)), (1, .int x1), (2, .int x2), (3, .int z3), (4, .int z4)] [] u) (hX : ∀ (z3 : Int32), X z3 → a_M_keepOffOf l D ad cI cZ cS rs A0 (jRi u Q) 85 [(3, .int z3)] [] u) (h : w_M_keepOffOf_b77 R X x1 x2 x3 x4 u Q) : a_M_keepOffOf l D ad cI cZ cS rs A0 (jRi u Q) 77 [(0, .ref (ad 0)), (1, .int x1), (2, .int x2), (3, .int x3), (4, .int x4)] [] u := by
  unfold w_M_keepOffOf_b77 at h
  refine J_iload_n 3 dX11_keepOffOf_77 rfl rfl ?_
  exact J_sub (lv' := [(0, .ref (ad 0)), (1, .int x1), (2, .int x2), (4, .int x4)]) [0, 1, 2, 4] rfl (t_M_keepOffOf_b78 hR hX h)
set_option maxRecDepth 20000 in
set_option maxHeartbeats 4000000 in
theorem t_M_keepOffOf_b47 {u : Mem} {R : Int32 → Int32 → Prop} {X : Int32 → Prop} {x1 : Int32} {x2 : Int32} {x3 : Int32} {x4 : Int32} {s0 : Int32} {Q : Int32 → Prop} (hR : ∀ (z3 : Int32) (z4 : Int32), R z3 z4 → a_M_keepOffOf l D ad cI cZ cS rs A0 (jRi u Q) 5 [(0, .ref (ad 0)), (1, .int x1), (2, .int x2), (3, .int z3), (4, .int z4)] [] u) (hX : ∀ (z3 : Int32), X z3 → a_M_keepOffOf l D ad cI cZ cS rs A0 (jRi u Q) 85 [(3, .int z3)] [] u) (h : w_M_keepOffOf_b47 R X x1 x2 x3 x4 s0 u Q) : a_M_keepOffOf l D ad cI cZ cS rs A0 (jRi u Q) 47 [(0, .ref (ad 0)), (1, .int x1), (2, .int x2), (3, .int x3), (4, .int x4)] [.int s0] u := by
  unfold w_M_keepOffOf_b47 at h
  refine J_istore (lv' := [(5, .int s0), (0, .ref (ad 0)), (1, .int x1), (2, .int x2), (3, .int x3), (4, .int x4)]) dX11_keepOffOf_47 (Nat.le_of_ble_eq_true rfl) rfl ?_
  refine J_iload 0 dX11_keepOffOf_49 rfl ?_
  refine J_if_eq (tgt := 77) dX11_keepOffOf_51 rfl (fun c => ?_) (fun c => ?_)
  · have h := h.1 c
    exact J_sub (lv' := [(0, .ref (ad 0)), (1, .int x1), (2, .int x2), (3, .int x3), (4, .int x4)]) [1, 2, 3, 4, 5] rfl (t_M_keepOffOf_b77 hR hX h)
  · have h := h.2 c
    refine J_aload_n 1 dX11_keepOffOf_54 rfl rfl ?_
    refine J_iload_n 2 dX11_keepOffOf_55 rfl rfl ?_
    refine J_iload_n 3 dX11_keepOffOf_56 rfl rfl ?_
    refine J_aload_n 1 dX11_keepOffOf_57 rfl rfl ?_
    refine gM_0_14 (v := (u.1 4)) rfl dX11_keepOffOf_58 ?_
    refine J_iload 5 dX11_keepOffOf_61 rfl ?_
    refine J_iconst (v := (-1)) dX11_keepOffOf_63 ci_m1 ?_
    refine J_ixor dX11_keepOffOf_64 ?_
    refine J_iand dX11_keepOffOf_65 ?_
    refine JV_Ri kV_RX11_190 0 rM_0 rfl rfl (c_M_isOff h) rfl rfl (by decide) (Nat.le_of_ble_eq_true rfl) dX11_keepOffOf_66 (fun r1 h => ?_)
    refine J_if_eq (tgt := 77) dX11_keepOffOf_69 rfl (fun c => ?_) (fun c => ?_)
    · have h := h.1 c
      exact J_sub (lv' := [(0, .ref (ad 0)), (1, .int x1), (2, .int x2), (3, .int x3), (4, .int x4)]) [1, 2, 3, 4, 5] rfl (t_M_keepOffOf_b77 hR hX h)
    · have h := h.2 c
      refine J_iload 5 dX11_keepOffOf_72 rfl ?_
      refine J_goto (tgt := 78) dX11_keepOffOf_74 rfl ?_
      exact J_sub (lv' := [(0, .ref (ad 0)), (1, .int x1), (2, .int x2), (4, .int x4)]) [1, 2, 3, 5] rfl (t_M_keepOffOf_b78 hR hX h)
set_option maxRecDepth 20000 in
set_option maxHeartbeats 4000000 in
theorem t_M_keepOffOf_b46 {u : Mem} {R : Int32 → Int32 → Prop} {X : Int32 → Prop} {x1 : Int32} {x2 : Int32} {x3 : Int32} {x4 : Int32} {Q : Int32 → Prop} (hR : ∀ (z3 : Int32) (z4 : Int32), R z3 z4 → a_M_keepOffOf l D ad cI cZ cS rs A0 (jRi u Q) 5 [(0, .ref (ad 0)), (1, .int x1), (2, .int x2), (3, .int z3), (4, .int z4)] [] u) (hX : ∀ (z3 : Int32), X z3 → a_M_keepOffOf l D ad cI cZ cS rs A0 (jRi u Q) 85 [(3, .int z3)] [] u) (h : w_M_keepOffOf_b46 R X x1 x2 x3 x4 u Q) : a_M_keepOffOf l D ad cI cZ cS rs A0 (jRi u Q) 46 [(0, .ref (ad 0)), (1, .int x1), (2, .int x2), (3, .int x3), (4, .int x4)] [] u := by
  unfold w_M_keepOffOf_b46 at h
  refine J_iconst (v := 0) dX11_keepOffOf_46 ci_0 ?_
  exact (t_M_keepOffOf_b47 hR hX h)
set_option maxRecDepth 20000 in
set_option maxHeartbeats 4000000 in
theorem t_M_keepOffOf_b42 {u : Mem} {R : Int32 → Int32 → Prop} {X : Int32 → Prop} {x1 : Int32} {x2 : Int32} {x3 : Int32} {x4 : Int32} {Q : Int32 → Prop} (hR : ∀ (z3 : Int32) (z4 : Int32), R z3 z4 → a_M_keepOffOf l D ad cI cZ cS rs A0 (jRi u Q) 5 [(0, .ref (ad 0)), (1, .int x1), (2, .int x2), (3, .int z3), (4, .int z4)] [] u) (hX : ∀ (z3 : Int32), X z3 → a_M_keepOffOf l D ad cI cZ cS rs A0 (jRi u Q) 85 [(3, .int z3)] [] u) (h : w_M_keepOffOf_b42 R X x1 x2 x3 x4 u Q) : a_M_keepOffOf l D ad cI cZ cS rs A0 (jRi u Q) 42 [(0, .ref (ad 0)), (1, .int x1), (2, .int x2), (3, .int x3), (4, .int x4)] [] u := by
  unfold w_M_keepOffOf_b42 at h
  refine J_iconst (v := 1) dX11_keepOffOf_42 ci_1 ?_
  refine J_goto (tgt := 47) dX11_keepOffOf_43 rfl ?_
  exact (t_M_keepOffOf_b47 hR hX h)
set_option maxRecDepth 20000 in
set_option maxHeartbeats 4000000 in
theorem t_M_keepOffOf_l5 {u : Mem}  {X : Int32 → Prop} {x1 : Int32} {x2 : Int32} {Q : Int32 → Prop} (hX : ∀ (x3 : Int32), X x3 → a_M_keepOffOf l D ad cI cZ cS rs A0 (jRi u Q) 85 [(3, .int x3)] [] u) : ∀ (n : Nat) (x3 : Int32) (x4 : Int32), w_M_keepOffOf_l5 X x1 x2 u Q n x3 x4 → a_M_keepOffOf l D ad cI cZ cS rs A0 (jRi u Q) 5 [(0, .ref (ad 0)), (1, .int x1), (2, .int x2), (3, .int x3), (4, .int x4)] [] u := by
  intro n
  induction n with
  | zero =>
    intro x3 x4 h
    exact (by simp only [w_M_keepOffOf_l5] at h : False).elim
  | succ n ih =>
    intro x3 x4 h
    rw [w_M_keepOffOf_l5] at h
    refine J_iload 4 dX11_keepOffOf_5 rfl ?_
    refine J_sipush (v := 256) dX11_keepOffOf_7 cs_256 ?_
    refine J_icmp_ge (tgt := 85) dX11_keepOffOf_10 rfl (fun c => ?_) (fun c => ?_)
    · have h := h.1 c
      exact J_sub (lv' := [(3, .int x3)]) [3] rfl (hX x3 h)
    · have h := h.2 c
      refine J_iload 4 dX11_keepOffOf_13 rfl ?_
      refine J_aload_n 0 dX11_keepOffOf_15 rfl rfl ?_
      refine gM_0_14 (v := (u.1 4)) rfl dX11_keepOffOf_16 ?_
      refine J_iconst (v := (-1)) dX11_keepOffOf_19 ci_m1 ?_
      refine J_ixor dX11_keepOffOf_20 ?_
      refine J_iand dX11_keepOffOf_21 ?_
      refine J_if_ne (tgt := 46) dX11_keepOffOf_22 rfl (fun c => ?_) (fun c => ?_)
      · have h := h.1 c
        exact (t_M_keepOffOf_b46 ih hX h)
      · have h := h.2 c
        refine J_iload_n 3 dX11_keepOffOf_25 rfl rfl ?_
        refine J_iconst (v := (-1)) dX11_keepOffOf_26 ci_m1 ?_
        refine J_icmp_eq (tgt := 42) dX11_keepOffOf_27 rfl (fun c => ?_) (fun c => ?_)
        · have h := h.1 c
          exact (t_M_keepOffOf_b42 ih hX h)
        · have h := h.2 c
          refine J_iload 4 dX11_keepOffOf_30 rfl ?_
          refine JS_Ri kS_RX11_170 (c_M_ones h) rfl rfl (by decide) (Nat.le_of_ble_eq_true rfl) dX11_keepOffOf_32 (fun r3 h => ?_)
          refine J_iload_n 3 dX11_keepOffOf_35 rfl rfl ?_
          refine JS_Ri kS_RX11_170 (c_M_ones h) rfl rfl (by decide) (Nat.le_of_ble_eq_true rfl) dX11_keepOffOf_36 (fun r5 h => ?_)
          refine J_icmp_ge (tgt := 46) dX11_keepOffOf_39 rfl (fun c => ?_) (fun c => ?_)
          · have h := h.1 c
            exact (t_M_keepOffOf_b46 ih hX h)
          · have h := h.2 c
            exact (t_M_keepOffOf_b42 ih hX h)
set_option maxRecDepth 20000 in
set_option maxHeartbeats 4000000 in
theorem c_M_keepOffOf {u : Mem} {x1 : Int32} {x2 : Int32} {Q : Int32 → Prop} (h : w_M_keepOffOf x1 x2 u Q) : MM l D ad cI cZ cS rs A0 yX11_keepOffOf cX11_keepOffOf 6 (some .int) 3 [.ref (ad 0), .int x1, .int x2] u (jRi u Q) := by
  unfold w_M_keepOffOf at h
  refine JMet.of (by decide) (Nat.le_of_ble_eq_true rfl) ?_
  refine J_sub (lv' := [(0, .ref (ad 0)), (1, .int x1), (2, .int x2)]) [0, 1, 2] rfl ?_
  show a_M_keepOffOf l D ad cI cZ cS rs A0 (jRi u Q) 0 [(0, .ref (ad 0)), (1, .int x1), (2, .int x2)] [] u
  refine J_iconst (v := (-1)) dX11_keepOffOf_0 ci_m1 ?_
  refine J_istore_n (lv' := [(3, .int (-1)), (0, .ref (ad 0)), (1, .int x1), (2, .int x2)]) dX11_keepOffOf_1 rfl (Nat.le_of_ble_eq_true rfl) rfl ?_
  refine J_iconst (v := 0) dX11_keepOffOf_2 ci_0 ?_
  refine J_istore (lv' := [(4, .int 0), (3, .int (-1)), (0, .ref (ad 0)), (1, .int x1), (2, .int x2)]) dX11_keepOffOf_3 (Nat.le_of_ble_eq_true rfl) rfl ?_
  obtain ⟨n8, h⟩ := h
  refine J_sub (lv' := [(0, .ref (ad 0)), (1, .int x1), (2, .int x2), (3, .int (-1)), (4, .int 0)]) [2, 3, 4, 1, 0] rfl (t_M_keepOffOf_l5 ?_ n8 (-1) 0 h)
  · intro z7 h
    refine J_iload_n 0 dX11_keepOffOf_85 rfl rfl ?_
    exact J_iret rfl dX11_keepOffOf_86 ⟨rfl, _, rfl, h⟩
abbrev a_M_keepOff (l : Launch) (D : va_G) (ad : Nat → Nat) (cI cZ cS : ClassId) (rs : va_W) (A0 : Nat → Prop) := AM l D ad cI cZ cS rs A0 cX11_keepOff 4 (some .int) RX11 5
set_option maxRecDepth 20000 in
set_option maxHeartbeats 4000000 in
theorem c_M_keepOff {u : Mem} {x1 : Int32} {x2 : Int32} {x3 : Int32} {Q : Int32 → Mem → Prop} (h : w_M_keepOff x1 x2 x3 u Q) : MM l D ad cI cZ cS rs A0 yX11_keepOff cX11_keepOff 4 (some .int) 5 [.ref (ad 0), .int x1, .int x2, .int x3] u (jWi Q) := by
  unfold w_M_keepOff at h
  refine JMet.of (by decide) (Nat.le_of_ble_eq_true rfl) ?_
  refine J_sub (lv' := [(0, .ref (ad 0)), (1, .int x1), (2, .int x2), (3, .int x3)]) [0, 1, 2, 3] rfl ?_
  show a_M_keepOff l D ad cI cZ cS rs A0 (jWi Q) 0 [(0, .ref (ad 0)), (1, .int x1), (2, .int x2), (3, .int x3)] [] u
  refine J_iload_n 1 dX11_keepOff_0 rfl rfl ?_
  refine J_i2l dX11_keepOff_1 ?_
  refine J_lconst (v := 1) dX11_keepOff_2 rfl ?_
  refine J_ldc2 (v := 9) dX11_keepOff_3 kk_RX11_182 ?_
  refine JS_Ri kS_RX11_61 (c_M_in h) rfl rfl (by decide) (Nat.le_of_ble_eq_true rfl) dX11_keepOff_6 (fun r1 h => ?_)
  refine J_if_eq (tgt := 26) dX11_keepOff_9 rfl (fun c => ?_) (fun c => ?_)
  · have h := h.1 c
    refine J_bipush (v := (-2)) dX11_keepOff_26 cb_m2 ?_
    exact J_iret rfl dX11_keepOff_28 ⟨_, rfl, h⟩
  · have h := h.2 c
    refine J_iload_n 2 dX11_keepOff_12 rfl rfl ?_
    refine JS_Ri kS_RX11_158 (c_M_isThing h) rfl rfl (by decide) (Nat.le_of_ble_eq_true rfl) dX11_keepOff_13 (fun r3 h => ?_)
    refine J_if_eq (tgt := 26) dX11_keepOff_16 rfl (fun c => ?_) (fun c => ?_)
    · have h := h.1 c
      refine J_bipush (v := (-2)) dX11_keepOff_26 cb_m2 ?_
      exact J_iret rfl dX11_keepOff_28 ⟨_, rfl, h⟩
    · have h := h.2 c
      refine J_iload_n 3 dX11_keepOff_19 rfl rfl ?_
      refine JS_Ri kS_RX11_90 (c_M_isTwo h) rfl rfl (by decide) (Nat.le_of_ble_eq_true rfl) dX11_keepOff_20 (fun r5 h => ?_)
      refine J_if_ne (tgt := 29) dX11_keepOff_23 rfl (fun c => ?_) (fun c => ?_)
      · have h := h.1 c
        refine J_aload_n 0 dX11_keepOff_29 rfl rfl ?_
        refine JV_Wv kV_RX11_153 0 rM_0 rfl rfl (c_M_reads h) rfl rfl (by decide) (Nat.le_of_ble_eq_true rfl) dX11_keepOff_30 (fun u8 h => ?_)
        refine J_aload_n 0 dX11_keepOff_33 rfl rfl ?_
        refine J_iload_n 1 dX11_keepOff_34 rfl rfl ?_
        refine J_iload_n 2 dX11_keepOff_35 rfl rfl ?_
        refine JV_Ri kV_RX11_194 0 rM_0 rfl rfl (c_M_keepOffOf h) rfl rfl (by decide) (Nat.le_of_ble_eq_true rfl) dX11_keepOff_36 (fun r9 h => ?_)
        refine J_iload_n 3 dX11_keepOff_39 rfl rfl ?_
        refine JS_Ri kS_RX11_187 (c_M_told h) rfl rfl (by decide) (Nat.le_of_ble_eq_true rfl) dX11_keepOff_40 (fun r11 h => ?_)
        exact J_iret rfl dX11_keepOff_43 ⟨_, rfl, h⟩
      · have h := h.2 c
        refine J_bipush (v := (-2)) dX11_keepOff_26 cb_m2 ?_
        exact J_iret rfl dX11_keepOff_28 ⟨_, rfl, h⟩
abbrev a_M_barsOf (l : Launch) (D : va_G) (ad : Nat → Nat) (cI cZ cS : ClassId) (rs : va_W) (A0 : Nat → Prop) := AM l D ad cI cZ cS rs A0 cX11_barsOf 4 (some .int) RX11 2
set_option maxRecDepth 20000 in
set_option maxHeartbeats 4000000 in
theorem t_M_barsOf_b43 {u : Mem} {R : Int32 → Int32 → Prop} {X : Int32 → Prop} {x1 : Int32} {x3 : Int32} {s0 : Int32} {s1 : Int32} {Q : Int32 → Prop} (hR : ∀ (z2 : Int32) (z3 : Int32), R z2 z3 → a_M_barsOf l D ad cI cZ cS rs A0 (jRi u Q) 4 [(0, .ref (ad 0)), (1, .int x1), (2, .int z2), (3, .int z3)] [] u) (hX : ∀ (z2 : Int32), X z2 → a_M_barsOf l D ad cI cZ cS rs A0 (jRi u Q) 51 [(2, .int z2)] [] u) (h : w_M_barsOf_b43 R X x1 x3 s0 s1 u Q) : a_M_barsOf l D ad cI cZ cS rs A0 (jRi u Q) 43 [(0, .ref (ad 0)), (1, .int x1), (3, .int x3)] [.int s0, .int s1] u := by
  unfold w_M_barsOf_b43 at h
  refine J_iadd dX11_barsOf_43 ?_
  refine J_istore_n (lv' := [(2, .int (s1 + s0)), (0, .ref (ad 0)), (1, .int x1), (3, .int x3)]) dX11_barsOf_44 rfl (Nat.le_of_ble_eq_true rfl) rfl ?_
  refine J_iinc (v := (x3 + 1)) (lv' := [(3, .int (x3 + 1)), (2, .int (s1 + s0)), (0, .ref (ad 0)), (1, .int x1)]) 3 dX11_barsOf_45 rfl rfl (Nat.le_of_ble_eq_true rfl) rfl ?_
  refine J_goto (tgt := 4) dX11_barsOf_48 rfl ?_
  exact J_sub (lv' := [(0, .ref (ad 0)), (1, .int x1), (2, .int (s1 + s0)), (3, .int (x3 + 1))]) [2, 3, 1, 0] rfl (hR (s1 + s0) (x3 + 1) h)
set_option maxRecDepth 20000 in
set_option maxHeartbeats 4000000 in
theorem t_M_barsOf_b42 {u : Mem} {R : Int32 → Int32 → Prop} {X : Int32 → Prop} {x1 : Int32} {x3 : Int32} {s0 : Int32} {Q : Int32 → Prop} (hR : ∀ (z2 : Int32) (z3 : Int32), R z2 z3 → a_M_barsOf l D ad cI cZ cS rs A0 (jRi u Q) 4 [(0, .ref (ad 0)), (1, .int x1), (2, .int z2), (3, .int z3)] [] u) (hX : ∀ (z2 : Int32), X z2 → a_M_barsOf l D ad cI cZ cS rs A0 (jRi u Q) 51 [(2, .int z2)] [] u) (h : w_M_barsOf_b42 R X x1 x3 s0 u Q) : a_M_barsOf l D ad cI cZ cS rs A0 (jRi u Q) 42 [(0, .ref (ad 0)), (1, .int x1), (3, .int x3)] [.int s0] u := by
  unfold w_M_barsOf_b42 at h
  refine J_iconst (v := 0) dX11_barsOf_42 ci_0 ?_
  exact (t_M_barsOf_b43 hR hX h)
set_option maxRecDepth 20000 in
set_option maxHeartbeats 4000000 in
theorem t_M_barsOf_l4 {u : Mem}  {X : Int32 → Prop} {x1 : Int32} {Q : Int32 → Prop} (hX : ∀ (x2 : Int32), X x2 → a_M_barsOf l D ad cI cZ cS rs A0 (jRi u Q) 51 [(2, .int x2)] [] u) : ∀ (n : Nat) (x2 : Int32) (x3 : Int32), w_M_barsOf_l4 X x1 u Q n x2 x3 → a_M_barsOf l D ad cI cZ cS rs A0 (jRi u Q) 4 [(0, .ref (ad 0)), (1, .int x1), (2, .int x2), (3, .int x3)] [] u := by
  intro n
  induction n with
  | zero =>
    intro x2 x3 h
    exact (by simp only [w_M_barsOf_l4] at h : False).elim
  | succ n ih =>
    intro x2 x3 h
    rw [w_M_barsOf_l4] at h
    refine J_iload_n 3 dX11_barsOf_4 rfl rfl ?_
    refine J_sipush (v := 256) dX11_barsOf_5 cs_256 ?_
    refine J_icmp_ge (tgt := 51) dX11_barsOf_8 rfl (fun c => ?_) (fun c => ?_)
    · have h := h.1 c
      exact J_sub (lv' := [(2, .int x2)]) [2] rfl (hX x2 h)
    · have h := h.2 c
      refine J_iload_n 2 dX11_barsOf_11 rfl rfl ?_
      refine J_aload_n 0 dX11_barsOf_12 rfl rfl ?_
      refine J_iload_n 3 dX11_barsOf_13 rfl rfl ?_
      refine J_iconst (v := 1) dX11_barsOf_14 ci_1 ?_
      refine JV_Ri kV_RX11_139 0 rM_0 rfl rfl (c_M_heldBy h) rfl rfl (by decide) (Nat.le_of_ble_eq_true rfl) dX11_barsOf_15 (fun r1 h => ?_)
      refine J_iload_n 1 dX11_barsOf_18 rfl rfl ?_
      refine JS_Ri kS_RX11_142 (c_M_isIn h) rfl rfl (by decide) (Nat.le_of_ble_eq_true rfl) dX11_barsOf_19 (fun r3 h => ?_)
      refine J_if_eq (tgt := 42) dX11_barsOf_22 rfl (fun c => ?_) (fun c => ?_)
      · have h := h.1 c
        exact J_sub (lv' := [(0, .ref (ad 0)), (1, .int x1), (3, .int x3)]) [0, 1, 3] rfl (t_M_barsOf_b42 ih hX h)
      · have h := h.2 c
        refine J_aload_n 0 dX11_barsOf_25 rfl rfl ?_
        refine gM_0_12 dX11_barsOf_26 ?_
        refine J_iload_n 3 dX11_barsOf_29 rfl rfl ?_
        refine lM_8 (v := (u.2 8 x3.toNatClampNeg)) h.1 rfl dX11_barsOf_30 ?_
        have h := h.2
        refine J_iload_n 1 dX11_barsOf_31 rfl rfl ?_
        refine JS_Ri kS_RX11_142 (c_M_isIn h) rfl rfl (by decide) (Nat.le_of_ble_eq_true rfl) dX11_barsOf_32 (fun r5 h => ?_)
        refine J_if_ne (tgt := 42) dX11_barsOf_35 rfl (fun c => ?_) (fun c => ?_)
        · have h := h.1 c
          exact J_sub (lv' := [(0, .ref (ad 0)), (1, .int x1), (3, .int x3)]) [0, 1, 3] rfl (t_M_barsOf_b42 ih hX h)
        · have h := h.2 c
          refine J_iconst (v := 1) dX11_barsOf_38 ci_1 ?_
          refine J_goto (tgt := 43) dX11_barsOf_39 rfl ?_
          exact J_sub (lv' := [(0, .ref (ad 0)), (1, .int x1), (3, .int x3)]) [0, 1, 3] rfl (t_M_barsOf_b43 ih hX h)
set_option maxRecDepth 20000 in
set_option maxHeartbeats 4000000 in
theorem c_M_barsOf {u : Mem} {x1 : Int32} {Q : Int32 → Prop} (h : w_M_barsOf x1 u Q) : MM l D ad cI cZ cS rs A0 yX11_barsOf cX11_barsOf 4 (some .int) 2 [.ref (ad 0), .int x1] u (jRi u Q) := by
  unfold w_M_barsOf at h
  refine JMet.of (by decide) (Nat.le_of_ble_eq_true rfl) ?_
  refine J_sub (lv' := [(0, .ref (ad 0)), (1, .int x1)]) [0, 1] rfl ?_
  show a_M_barsOf l D ad cI cZ cS rs A0 (jRi u Q) 0 [(0, .ref (ad 0)), (1, .int x1)] [] u
  refine J_iconst (v := 0) dX11_barsOf_0 ci_0 ?_
  refine J_istore_n (lv' := [(2, .int 0), (0, .ref (ad 0)), (1, .int x1)]) dX11_barsOf_1 rfl (Nat.le_of_ble_eq_true rfl) rfl ?_
  refine J_iconst (v := 0) dX11_barsOf_2 ci_0 ?_
  refine J_istore_n (lv' := [(3, .int 0), (2, .int 0), (0, .ref (ad 0)), (1, .int x1)]) dX11_barsOf_3 rfl (Nat.le_of_ble_eq_true rfl) rfl ?_
  obtain ⟨n8, h⟩ := h
  refine J_sub (lv' := [(0, .ref (ad 0)), (1, .int x1), (2, .int 0), (3, .int 0)]) [2, 3, 1, 0] rfl (t_M_barsOf_l4 ?_ n8 0 0 h)
  · intro z7 h
    refine J_iload_n 0 dX11_barsOf_51 rfl rfl ?_
    exact J_iret rfl dX11_barsOf_52 ⟨rfl, _, rfl, h⟩
abbrev a_M_bars (l : Launch) (D : va_G) (ad : Nat → Nat) (cI cZ cS : ClassId) (rs : va_W) (A0 : Nat → Prop) := AM l D ad cI cZ cS rs A0 cX11_bars 2 (some .int) RX11 5
set_option maxRecDepth 20000 in
set_option maxHeartbeats 4000000 in
theorem c_M_bars {u : Mem} {x1 : Int32} {Q : Int32 → Mem → Prop} (h : w_M_bars x1 u Q) : MM l D ad cI cZ cS rs A0 yX11_bars cX11_bars 2 (some .int) 5 [.ref (ad 0), .int x1] u (jWi Q) := by
  unfold w_M_bars at h
  refine JMet.of (by decide) (Nat.le_of_ble_eq_true rfl) ?_
  refine J_sub (lv' := [(0, .ref (ad 0)), (1, .int x1)]) [0, 1] rfl ?_
  show a_M_bars l D ad cI cZ cS rs A0 (jWi Q) 0 [(0, .ref (ad 0)), (1, .int x1)] [] u
  refine J_aload_n 0 dX11_bars_0 rfl rfl ?_
  refine JV_Wv kV_RX11_153 0 rM_0 rfl rfl (c_M_reads h) rfl rfl (by decide) (Nat.le_of_ble_eq_true rfl) dX11_bars_1 (fun u2 h => ?_)
  refine J_iload_n 1 dX11_bars_4 rfl rfl ?_
  refine JS_Ri kS_RX11_158 (c_M_isThing h) rfl rfl (by decide) (Nat.le_of_ble_eq_true rfl) dX11_bars_5 (fun r3 h => ?_)
  refine J_if_eq (tgt := 19) dX11_bars_8 rfl (fun c => ?_) (fun c => ?_)
  · have h := h.1 c
    refine J_bipush (v := (-2)) dX11_bars_19 cb_m2 ?_
    exact J_iret rfl dX11_bars_21 ⟨_, rfl, h⟩
  · have h := h.2 c
    refine J_aload_n 0 dX11_bars_11 rfl rfl ?_
    refine J_iload_n 1 dX11_bars_12 rfl rfl ?_
    refine JV_Ri kV_RX11_197 0 rM_0 rfl rfl (c_M_barsOf h) rfl rfl (by decide) (Nat.le_of_ble_eq_true rfl) dX11_bars_13 (fun r5 h => ?_)
    refine J_goto (tgt := 21) dX11_bars_16 rfl ?_
    exact J_iret rfl dX11_bars_21 ⟨_, rfl, h⟩
abbrev a_M_findWins (l : Launch) (D : va_G) (ad : Nat → Nat) (cI cZ cS : ClassId) (rs : va_W) (A0 : Nat → Prop) := AM l D ad cI cZ cS rs A0 cX11_findWins 9 none RX11 1
set_option maxRecDepth 20000 in
set_option maxHeartbeats 4000000 in
theorem t_M_findWins_b142 {u : Mem} {R : Int32 → Int32 → Prop} {X : Int32 → Prop} {x1 : Int32} {x2 : Int32} {x3 : Int32} {x4 : Int32} {x5 : Int32} {x7 : Int32} {s0 : Int32} {Q : Mem → Prop} (hR : ∀ (z6 : Int32) (z7 : Int32), R z6 z7 → a_M_findWins l D ad cI cZ cS rs A0 (jWv Q) 71 [(0, .ref (ad 0)), (1, .int x1), (2, .int x2), (3, .int x3), (4, .int x4), (5, .int x5), (6, .int z6), (7, .int z7)] [] u) (hX : ∀ (z6 : Int32), X z6 → a_M_findWins l D ad cI cZ cS rs A0 (jWv Q) 150 [(0, .ref (ad 0)), (1, .int x1), (2, .int x2), (3, .int x3), (4, .int x4), (5, .int x5), (6, .int z6)] [] u) (h : w_M_findWins_b142 R X x1 x2 x3 x4 x5 x7 s0 u Q) : a_M_findWins l D ad cI cZ cS rs A0 (jWv Q) 142 [(0, .ref (ad 0)), (1, .int x1), (2, .int x2), (3, .int x3), (4, .int x4), (5, .int x5), (7, .int x7)] [.int s0] u := by
  unfold w_M_findWins_b142 at h
  refine J_istore (lv' := [(6, .int s0), (0, .ref (ad 0)), (1, .int x1), (2, .int x2), (3, .int x3), (4, .int x4), (5, .int x5), (7, .int x7)]) dX11_findWins_142 (Nat.le_of_ble_eq_true rfl) rfl ?_
  refine J_iinc (v := (x7 + 1)) (lv' := [(7, .int (x7 + 1)), (6, .int s0), (0, .ref (ad 0)), (1, .int x1), (2, .int x2), (3, .int x3), (4, .int x4), (5, .int x5)]) 7 dX11_findWins_144 rfl rfl (Nat.le_of_ble_eq_true rfl) rfl ?_
  refine J_goto (tgt := 71) dX11_findWins_147 rfl ?_
  exact J_sub (lv' := [(0, .ref (ad 0)), (1, .int x1), (2, .int x2), (3, .int x3), (4, .int x4), (5, .int x5), (6, .int s0), (7, .int (x7 + 1))]) [2, 3, 4, 5, 6, 7, 1, 0] rfl (hR s0 (x7 + 1) h)
set_option maxRecDepth 20000 in
set_option maxHeartbeats 4000000 in
theorem t_M_findWins_b141 {u : Mem} {R : Int32 → Int32 → Prop} {X : Int32 → Prop} {x1 : Int32} {x2 : Int32} {x3 : Int32} {x4 : Int32} {x5 : Int32} {x7 : Int32} {Q : Mem → Prop} (hR : ∀ (z6 : Int32) (z7 : Int32), R z6 z7 → a_M_findWins l D ad cI cZ cS rs A0 (jWv Q) 71 [(0, .ref (ad 0)), (1, .int x1), (2, .int x2), (3, .int x3), (4, .int x4), (5, .int x5), (6, .int z6), (7, .int z7)] [] u) (hX : ∀ (z6 : Int32), X z6 → a_M_findWins l D ad cI cZ cS rs A0 (jWv Q) 150 [(0, .ref (ad 0)), (1, .int x1), (2, .int x2), (3, .int x3), (4, .int x4), (5, .int x5), (6, .int z6)] [] u) (h : w_M_findWins_b141 R X x1 x2 x3 x4 x5 x7 u Q) : a_M_findWins l D ad cI cZ cS rs A0 (jWv Q) 141 [(0, .ref (ad 0)), (1, .int x1), (2, .int x2), (3, .int x3), (4, .int x4), (5, .int x5), (7, .int x7)] [] u := by
  unfold w_M_findWins_b141 at h
  refine J_iconst (v := 0) dX11_findWins_141 ci_0 ?_
  exact (t_M_findWins_b142 hR hX h)
set_option maxRecDepth 20000 in
set_option maxHeartbeats 4000000 in
theorem t_M_findWins_b119 {u : Mem} {R : Int32 → Int32 → Prop} {X : Int32 → Prop} {x1 : Int32} {x2 : Int32} {x3 : Int32} {x4 : Int32} {x5 : Int32} {x7 : Int32} {Q : Mem → Prop} (hR : ∀ (z6 : Int32) (z7 : Int32), R z6 z7 → a_M_findWins l D ad cI cZ cS rs A0 (jWv Q) 71 [(0, .ref (ad 0)), (1, .int x1), (2, .int x2), (3, .int x3), (4, .int x4), (5, .int x5), (6, .int z6), (7, .int z7)] [] u) (hX : ∀ (z6 : Int32), X z6 → a_M_findWins l D ad cI cZ cS rs A0 (jWv Q) 150 [(0, .ref (ad 0)), (1, .int x1), (2, .int x2), (3, .int x3), (4, .int x4), (5, .int x5), (6, .int z6)] [] u) (h : w_M_findWins_b119 R X x1 x2 x3 x4 x5 x7 u Q) : a_M_findWins l D ad cI cZ cS rs A0 (jWv Q) 119 [(0, .ref (ad 0)), (1, .int x1), (2, .int x2), (3, .int x3), (4, .int x4), (5, .int x5), (7, .int x7)] [] u := by
  unfold w_M_findWins_b119 at h
  refine J_iconst (v := 1) dX11_findWins_119 ci_1 ?_
  refine J_goto (tgt := 142) dX11_findWins_120 rfl ?_
  exact (t_M_findWins_b142 hR hX h)
set_option maxRecDepth 20000 in
set_option maxHeartbeats 4000000 in
theorem t_M_findWins_l71 {u : Mem}  {X : Int32 → Prop} {x1 : Int32} {x2 : Int32} {x3 : Int32} {x4 : Int32} {x5 : Int32} {Q : Mem → Prop} (hX : ∀ (x6 : Int32), X x6 → a_M_findWins l D ad cI cZ cS rs A0 (jWv Q) 150 [(0, .ref (ad 0)), (1, .int x1), (2, .int x2), (3, .int x3), (4, .int x4), (5, .int x5), (6, .int x6)] [] u) : ∀ (n : Nat) (x6 : Int32) (x7 : Int32), w_M_findWins_l71 X x1 x2 x3 x4 x5 u Q n x6 x7 → a_M_findWins l D ad cI cZ cS rs A0 (jWv Q) 71 [(0, .ref (ad 0)), (1, .int x1), (2, .int x2), (3, .int x3), (4, .int x4), (5, .int x5), (6, .int x6), (7, .int x7)] [] u := by
  intro n
  induction n with
  | zero =>
    intro x6 x7 h
    exact (by simp only [w_M_findWins_l71] at h : False).elim
  | succ n ih =>
    intro x6 x7 h
    rw [w_M_findWins_l71] at h
    refine J_iload 7 dX11_findWins_71 rfl ?_
    refine J_bipush (v := 8) dX11_findWins_73 cb_8 ?_
    refine J_icmp_ge (tgt := 150) dX11_findWins_75 rfl (fun c => ?_) (fun c => ?_)
    · have h := h.1 c
      exact J_sub (lv' := [(0, .ref (ad 0)), (1, .int x1), (2, .int x2), (3, .int x3), (4, .int x4), (5, .int x5), (6, .int x6)]) [0, 1, 2, 3, 4, 5, 6] rfl (hX x6 h)
    · have h := h.2 c
      refine J_iload_n 3 dX11_findWins_78 rfl rfl ?_
      refine J_if_le (tgt := 150) dX11_findWins_79 rfl (fun c => ?_) (fun c => ?_)
      · have h := h.1 c
        exact J_sub (lv' := [(0, .ref (ad 0)), (1, .int x1), (2, .int x2), (3, .int x3), (4, .int x4), (5, .int x5), (6, .int x6)]) [0, 1, 2, 3, 4, 5, 6] rfl (hX x6 h)
      · have h := h.2 c
        refine J_aload_n 0 dX11_findWins_82 rfl rfl ?_
        refine gM_0_19 dX11_findWins_83 ?_
        refine J_sipush (v := 256) dX11_findWins_86 cs_256 ?_
        refine J_iload_n 3 dX11_findWins_89 rfl rfl ?_
        refine J_iconst (v := 1) dX11_findWins_90 ci_1 ?_
        refine J_isub dX11_findWins_91 ?_
        refine J_imul dX11_findWins_92 ?_
        refine J_iload 5 dX11_findWins_93 rfl ?_
        refine J_iconst (v := 1) dX11_findWins_95 ci_1 ?_
        refine J_iload 7 dX11_findWins_96 rfl ?_
        refine J_ishl dX11_findWins_98 ?_
        refine J_ixor dX11_findWins_99 ?_
        refine J_iadd dX11_findWins_100 ?_
        refine lM_13 (v := (u.2 13 ((256 * (x3 - 1)) + (x5 ^^^ ((1 : Int32) <<< (x7 &&& 31)))).toNatClampNeg)) h.1 rfl dX11_findWins_101 ?_
        have h := h.2
        refine J_topi (fun y1 ey1 => ?_)
        have h := h y1 ey1
        refine J_istore (lv' := [(8, .int y1), (0, .ref (ad 0)), (1, .int x1), (2, .int x2), (3, .int x3), (4, .int x4), (5, .int x5), (6, .int x6), (7, .int x7)]) dX11_findWins_102 (Nat.le_of_ble_eq_true rfl) rfl ?_
        refine J_iload 5 dX11_findWins_104 rfl ?_
        refine J_if_eq (tgt := 127) dX11_findWins_106 rfl (fun c => ?_) (fun c => ?_)
        · have h := h.1 c
          refine J_iload 7 dX11_findWins_127 rfl ?_
          refine J_if_eq (tgt := 141) dX11_findWins_129 rfl (fun c => ?_) (fun c => ?_)
          · have h := h.1 c
            exact J_sub (lv' := [(0, .ref (ad 0)), (1, .int x1), (2, .int x2), (3, .int x3), (4, .int x4), (5, .int x5), (7, .int x7)]) [1, 2, 3, 4, 5, 6, 8] rfl (t_M_findWins_b141 ih hX h)
          · have h := h.2 c
            refine J_iload 0 dX11_findWins_132 rfl ?_
            refine J_if_eq (tgt := 141) dX11_findWins_134 rfl (fun c => ?_) (fun c => ?_)
            · have h := h.1 c
              exact J_sub (lv' := [(0, .ref (ad 0)), (1, .int x1), (2, .int x2), (3, .int x3), (4, .int x4), (5, .int x5), (7, .int x7)]) [1, 2, 3, 4, 5, 6, 8] rfl (t_M_findWins_b141 ih hX h)
            · have h := h.2 c
              refine J_iconst (v := 1) dX11_findWins_137 ci_1 ?_
              refine J_goto (tgt := 142) dX11_findWins_138 rfl ?_
              exact J_sub (lv' := [(0, .ref (ad 0)), (1, .int x1), (2, .int x2), (3, .int x3), (4, .int x4), (5, .int x5), (7, .int x7)]) [1, 2, 3, 4, 5, 6, 8] rfl (t_M_findWins_b142 ih hX h)
        · have h := h.2 c
          refine J_iload 7 dX11_findWins_109 rfl ?_
          refine J_if_ne (tgt := 119) dX11_findWins_111 rfl (fun c => ?_) (fun c => ?_)
          · have h := h.1 c
            exact J_sub (lv' := [(0, .ref (ad 0)), (1, .int x1), (2, .int x2), (3, .int x3), (4, .int x4), (5, .int x5), (7, .int x7)]) [1, 2, 3, 4, 5, 6, 8] rfl (t_M_findWins_b119 ih hX h)
          · have h := h.2 c
            refine J_iload 0 dX11_findWins_114 rfl ?_
            refine J_if_eq (tgt := 123) dX11_findWins_116 rfl (fun c => ?_) (fun c => ?_)
            · have h := h.1 c
              refine J_iconst (v := 0) dX11_findWins_123 ci_0 ?_
              refine J_goto (tgt := 142) dX11_findWins_124 rfl ?_
              exact J_sub (lv' := [(0, .ref (ad 0)), (1, .int x1), (2, .int x2), (3, .int x3), (4, .int x4), (5, .int x5), (7, .int x7)]) [1, 2, 3, 4, 5, 6, 8] rfl (t_M_findWins_b142 ih hX h)
            · have h := h.2 c
              exact J_sub (lv' := [(0, .ref (ad 0)), (1, .int x1), (2, .int x2), (3, .int x3), (4, .int x4), (5, .int x5), (7, .int x7)]) [1, 2, 3, 4, 5, 6, 8] rfl (t_M_findWins_b119 ih hX h)
set_option maxRecDepth 20000 in
set_option maxHeartbeats 4000000 in
theorem t_M_findWins_b150 {u : Mem} {R : Int32 → Mem → Prop} {X : Mem → Prop} {x1 : Int32} {x2 : Int32} {x3 : Int32} {x4 : Int32} {x5 : Int32} {x6 : Int32} {Q : Mem → Prop} (hR : ∀ (z5 : Int32) (u : Mem), R z5 u → a_M_findWins l D ad cI cZ cS rs A0 (jWv Q) 25 [(0, .ref (ad 0)), (1, .int x1), (2, .int x2), (3, .int x3), (4, .int x4), (5, .int z5)] [] u) (hX : ∀ (u : Mem), X u → a_M_findWins l D ad cI cZ cS rs A0 (jWv Q) 171 [(0, .ref (ad 0)), (1, .int x1), (2, .int x2), (3, .int x3)] [] u) (h : w_M_findWins_b150 R X x1 x2 x3 x4 x5 x6 u Q) : a_M_findWins l D ad cI cZ cS rs A0 (jWv Q) 150 [(0, .ref (ad 0)), (1, .int x1), (2, .int x2), (3, .int x3), (4, .int x4), (5, .int x5), (6, .int x6)] [] u := by
  unfold w_M_findWins_b150 at h
  refine J_aload_n 0 dX11_findWins_150 rfl rfl ?_
  refine gM_0_19 dX11_findWins_151 ?_
  refine J_sipush (v := 256) dX11_findWins_154 cs_256 ?_
  refine J_iload_n 3 dX11_findWins_157 rfl rfl ?_
  refine J_imul dX11_findWins_158 ?_
  refine J_iload 5 dX11_findWins_159 rfl ?_
  refine J_iadd dX11_findWins_161 ?_
  refine J_iload 6 dX11_findWins_162 rfl ?_
  refine tM_13 h.1 dX11_findWins_164 ?_
  have h := h.2
  refine J_iinc (v := (x5 + 1)) (lv' := [(5, .int (x5 + 1)), (0, .ref (ad 0)), (1, .int x1), (2, .int x2), (3, .int x3), (4, .int x4), (6, .int x6)]) 5 dX11_findWins_165 rfl rfl (Nat.le_of_ble_eq_true rfl) rfl ?_
  refine J_goto (tgt := 25) dX11_findWins_168 rfl ?_
  exact J_sub (lv' := [(0, .ref (ad 0)), (1, .int x1), (2, .int x2), (3, .int x3), (4, .int x4), (5, .int (x5 + 1))]) [1, 2, 3, 4, 5, 0] rfl (hR (x5 + 1) (sA u 13 ((256 * x3) + x5).toNatClampNeg (vp_nar .boolean x6)) h)
set_option maxRecDepth 20000 in
set_option maxHeartbeats 4000000 in
theorem t_M_findWins_b66 {u : Mem} {R : Int32 → Mem → Prop} {X : Mem → Prop} {x1 : Int32} {x2 : Int32} {x3 : Int32} {x4 : Int32} {x5 : Int32} {s0 : Int32} {Q : Mem → Prop} (hR : ∀ (z5 : Int32) (u : Mem), R z5 u → a_M_findWins l D ad cI cZ cS rs A0 (jWv Q) 25 [(0, .ref (ad 0)), (1, .int x1), (2, .int x2), (3, .int x3), (4, .int x4), (5, .int z5)] [] u) (hX : ∀ (u : Mem), X u → a_M_findWins l D ad cI cZ cS rs A0 (jWv Q) 171 [(0, .ref (ad 0)), (1, .int x1), (2, .int x2), (3, .int x3)] [] u) (h : w_M_findWins_b66 R X x1 x2 x3 x4 x5 s0 u Q) : a_M_findWins l D ad cI cZ cS rs A0 (jWv Q) 66 [(0, .ref (ad 0)), (1, .int x1), (2, .int x2), (3, .int x3), (4, .int x4), (5, .int x5)] [.int s0] u := by
  unfold w_M_findWins_b66 at h
  refine J_istore (lv' := [(6, .int s0), (0, .ref (ad 0)), (1, .int x1), (2, .int x2), (3, .int x3), (4, .int x4), (5, .int x5)]) dX11_findWins_66 (Nat.le_of_ble_eq_true rfl) rfl ?_
  refine J_iconst (v := 0) dX11_findWins_68 ci_0 ?_
  refine J_istore (lv' := [(7, .int 0), (6, .int s0), (0, .ref (ad 0)), (1, .int x1), (2, .int x2), (3, .int x3), (4, .int x4), (5, .int x5)]) dX11_findWins_69 (Nat.le_of_ble_eq_true rfl) rfl ?_
  obtain ⟨n3, h⟩ := h
  refine J_sub (lv' := [(0, .ref (ad 0)), (1, .int x1), (2, .int x2), (3, .int x3), (4, .int x4), (5, .int x5), (6, .int s0), (7, .int 0)]) [2, 3, 4, 5, 6, 7, 1, 0] rfl (t_M_findWins_l71 ?_ n3 s0 0 h)
  · intro z2 h
    exact (t_M_findWins_b150 hR hX h)
set_option maxRecDepth 20000 in
set_option maxHeartbeats 4000000 in
theorem t_M_findWins_l25  {X : Mem → Prop} {x1 : Int32} {x2 : Int32} {x3 : Int32} {x4 : Int32} {Q : Mem → Prop} (hX : ∀ (u : Mem), X u → a_M_findWins l D ad cI cZ cS rs A0 (jWv Q) 171 [(0, .ref (ad 0)), (1, .int x1), (2, .int x2), (3, .int x3)] [] u) : ∀ (n : Nat) (x5 : Int32) (u : Mem), w_M_findWins_l25 X x1 x2 x3 x4 Q n x5 u → a_M_findWins l D ad cI cZ cS rs A0 (jWv Q) 25 [(0, .ref (ad 0)), (1, .int x1), (2, .int x2), (3, .int x3), (4, .int x4), (5, .int x5)] [] u := by
  intro n
  induction n with
  | zero =>
    intro x5 u h
    exact (by simp only [w_M_findWins_l25] at h : False).elim
  | succ n ih =>
    intro x5 u h
    rw [w_M_findWins_l25] at h
    refine J_iload 5 dX11_findWins_25 rfl ?_
    refine J_sipush (v := 256) dX11_findWins_27 cs_256 ?_
    refine J_icmp_ge (tgt := 171) dX11_findWins_30 rfl (fun c => ?_) (fun c => ?_)
    · have h := h.1 c
      exact J_sub (lv' := [(0, .ref (ad 0)), (1, .int x1), (2, .int x2), (3, .int x3)]) [0, 1, 2, 3] rfl (hX u h)
    · have h := h.2 c
      refine J_iload_n 3 dX11_findWins_33 rfl rfl ?_
      refine J_if_ne (tgt := 51) dX11_findWins_34 rfl (fun c => ?_) (fun c => ?_)
      · have h := h.1 c
        refine J_aload_n 0 dX11_findWins_51 rfl rfl ?_
        refine gM_0_19 dX11_findWins_52 ?_
        refine J_sipush (v := 256) dX11_findWins_55 cs_256 ?_
        refine J_iload_n 3 dX11_findWins_58 rfl rfl ?_
        refine J_iconst (v := 1) dX11_findWins_59 ci_1 ?_
        refine J_isub dX11_findWins_60 ?_
        refine J_imul dX11_findWins_61 ?_
        refine J_iload 5 dX11_findWins_62 rfl ?_
        refine J_iadd dX11_findWins_64 ?_
        refine lM_13 (v := (u.2 13 ((256 * (x3 - 1)) + x5).toNatClampNeg)) h.1 rfl dX11_findWins_65 ?_
        have h := h.2
        exact (t_M_findWins_b66 ih hX h)
      · have h := h.2 c
        refine J_aload_n 0 dX11_findWins_37 rfl rfl ?_
        refine gM_0_12 dX11_findWins_38 ?_
        refine J_iload 5 dX11_findWins_41 rfl ?_
        refine lM_8 (v := (u.2 8 x5.toNatClampNeg)) h.1 rfl dX11_findWins_43 ?_
        have h := h.2
        refine J_iload_n 2 dX11_findWins_44 rfl rfl ?_
        refine JS_Ri kS_RX11_142 (c_M_isIn h) rfl rfl (by decide) (Nat.le_of_ble_eq_true rfl) dX11_findWins_45 (fun r4 h => ?_)
        refine J_goto (tgt := 66) dX11_findWins_48 rfl ?_
        exact (t_M_findWins_b66 ih hX h)
set_option maxRecDepth 20000 in
set_option maxHeartbeats 4000000 in
theorem t_M_findWins_b20 {u : Mem} {R : Int32 → Mem → Prop} {X : Mem → Prop} {x1 : Int32} {x2 : Int32} {x3 : Int32} {s0 : Int32} {Q : Mem → Prop} (hR : ∀ (z3 : Int32) (u : Mem), R z3 u → a_M_findWins l D ad cI cZ cS rs A0 (jWv Q) 2 [(0, .ref (ad 0)), (1, .int x1), (2, .int x2), (3, .int z3)] [] u) (hX : ∀ (u : Mem), X u → a_M_findWins l D ad cI cZ cS rs A0 (jWv Q) 177 [] [] u) (h : w_M_findWins_b20 R X x1 x2 x3 s0 u Q) : a_M_findWins l D ad cI cZ cS rs A0 (jWv Q) 20 [(0, .ref (ad 0)), (1, .int x1), (2, .int x2), (3, .int x3)] [.int s0] u := by
  unfold w_M_findWins_b20 at h
  refine J_istore (lv' := [(4, .int s0), (0, .ref (ad 0)), (1, .int x1), (2, .int x2), (3, .int x3)]) dX11_findWins_20 (Nat.le_of_ble_eq_true rfl) rfl ?_
  refine J_iconst (v := 0) dX11_findWins_22 ci_0 ?_
  refine J_istore (lv' := [(5, .int 0), (4, .int s0), (0, .ref (ad 0)), (1, .int x1), (2, .int x2), (3, .int x3)]) dX11_findWins_23 (Nat.le_of_ble_eq_true rfl) rfl ?_
  obtain ⟨n7, h⟩ := h
  refine J_sub (lv' := [(0, .ref (ad 0)), (1, .int x1), (2, .int x2), (3, .int x3), (4, .int s0), (5, .int 0)]) [2, 3, 4, 5, 1, 0] rfl (t_M_findWins_l25 ?_ n7 0 u h)
  · intro u6 h
    refine J_iinc (v := (x3 + 1)) (lv' := [(3, .int (x3 + 1)), (0, .ref (ad 0)), (1, .int x1), (2, .int x2)]) 3 dX11_findWins_171 rfl rfl (Nat.le_of_ble_eq_true rfl) rfl ?_
    refine J_goto (tgt := 2) dX11_findWins_174 rfl ?_
    exact J_sub (lv' := [(0, .ref (ad 0)), (1, .int x1), (2, .int x2), (3, .int (x3 + 1))]) [1, 2, 3, 0] rfl (hR (x3 + 1) u6 h)
set_option maxRecDepth 20000 in
set_option maxHeartbeats 4000000 in
theorem t_M_findWins_l2  {X : Mem → Prop} {x1 : Int32} {x2 : Int32} {Q : Mem → Prop} (hX : ∀ (u : Mem), X u → a_M_findWins l D ad cI cZ cS rs A0 (jWv Q) 177 [] [] u) : ∀ (n : Nat) (x3 : Int32) (u : Mem), w_M_findWins_l2 X x1 x2 Q n x3 u → a_M_findWins l D ad cI cZ cS rs A0 (jWv Q) 2 [(0, .ref (ad 0)), (1, .int x1), (2, .int x2), (3, .int x3)] [] u := by
  intro n
  induction n with
  | zero =>
    intro x3 u h
    exact (by simp only [w_M_findWins_l2] at h : False).elim
  | succ n ih =>
    intro x3 u h
    rw [w_M_findWins_l2] at h
    refine J_iload_n 3 dX11_findWins_2 rfl rfl ?_
    refine J_iload_n 1 dX11_findWins_3 rfl rfl ?_
    refine J_icmp_gt (tgt := 177) dX11_findWins_4 rfl (fun c => ?_) (fun c => ?_)
    · have h := h.1 c
      exact J_sub (lv' := []) [] rfl (hX u h)
    · have h := h.2 c
      refine J_iload_n 1 dX11_findWins_7 rfl rfl ?_
      refine J_iload_n 3 dX11_findWins_8 rfl rfl ?_
      refine J_isub dX11_findWins_9 ?_
      refine J_iconst (v := 2) dX11_findWins_10 ci_2 ?_
      refine J_irem dX11_findWins_11 (by decide) ?_
      refine J_if_ne (tgt := 19) dX11_findWins_12 rfl (fun c => ?_) (fun c => ?_)
      · have h := h.1 c
        refine J_iconst (v := 0) dX11_findWins_19 ci_0 ?_
        exact (t_M_findWins_b20 ih hX h)
      · have h := h.2 c
        refine J_iconst (v := 1) dX11_findWins_15 ci_1 ?_
        refine J_goto (tgt := 20) dX11_findWins_16 rfl ?_
        exact (t_M_findWins_b20 ih hX h)
set_option maxRecDepth 20000 in
set_option maxHeartbeats 4000000 in
theorem c_M_findWins {u : Mem} {x1 : Int32} {x2 : Int32} {Q : Mem → Prop} (h : w_M_findWins x1 x2 u Q) : MM l D ad cI cZ cS rs A0 yX11_findWins cX11_findWins 9 none 1 [.ref (ad 0), .int x1, .int x2] u (jWv Q) := by
  unfold w_M_findWins at h
  refine JMet.of (by decide) (Nat.le_of_ble_eq_true rfl) ?_
  refine J_sub (lv' := [(0, .ref (ad 0)), (1, .int x1), (2, .int x2)]) [0, 1, 2] rfl ?_
  show a_M_findWins l D ad cI cZ cS rs A0 (jWv Q) 0 [(0, .ref (ad 0)), (1, .int x1), (2, .int x2)] [] u
  refine J_iconst (v := 0) dX11_findWins_0 ci_0 ?_
  refine J_istore_n (lv' := [(3, .int 0), (0, .ref (ad 0)), (1, .int x1), (2, .int x2)]) dX11_findWins_1 rfl (Nat.le_of_ble_eq_true rfl) rfl ?_
  obtain ⟨n9, h⟩ := h
  refine J_sub (lv' := [(0, .ref (ad 0)), (1, .int x1), (2, .int x2), (3, .int 0)]) [1, 2, 3, 0] rfl (t_M_findWins_l2 ?_ n9 0 u h)
  · intro u8 h
    exact J_vret rfl dX11_findWins_177 ⟨rfl, h⟩
abbrev a_M_playOf (l : Launch) (D : va_G) (ad : Nat → Nat) (cI cZ cS : ClassId) (rs : va_W) (A0 : Nat → Prop) := AM l D ad cI cZ cS rs A0 cX11_playOf 6 (some .int) RX11 2
set_option maxRecDepth 20000 in
set_option maxHeartbeats 4000000 in
theorem t_M_playOf_l72 {u : Mem}  {X : Int32 → Prop} {x1 : Int32} {Q : Int32 → Mem → Prop} (hX : ∀ (x5 : Int32), X x5 → a_M_playOf l D ad cI cZ cS rs A0 (jWi Q) 103 [(5, .int x5)] [] u) : ∀ (n : Nat) (x5 : Int32), w_M_playOf_l72 X x1 u Q n x5 → a_M_playOf l D ad cI cZ cS rs A0 (jWi Q) 72 [(0, .ref (ad 0)), (1, .int x1), (5, .int x5)] [] u := by
  intro n
  induction n with
  | zero =>
    intro x5 h
    exact (by simp only [w_M_playOf_l72] at h : False).elim
  | succ n ih =>
    intro x5 h
    rw [w_M_playOf_l72] at h
    refine J_aload_n 0 dX11_playOf_72 rfl rfl ?_
    refine gM_0_19 dX11_playOf_73 ?_
    refine J_sipush (v := 256) dX11_playOf_76 cs_256 ?_
    refine J_iload_n 1 dX11_playOf_79 rfl rfl ?_
    refine J_iconst (v := 1) dX11_playOf_80 ci_1 ?_
    refine J_isub dX11_playOf_81 ?_
    refine J_imul dX11_playOf_82 ?_
    refine J_aload_n 0 dX11_playOf_83 rfl rfl ?_
    refine gM_0_14 (v := (u.1 4)) rfl dX11_playOf_84 ?_
    refine J_iconst (v := 1) dX11_playOf_87 ci_1 ?_
    refine J_iload 2 dX11_playOf_88 rfl ?_
    refine J_ishl dX11_playOf_90 ?_
    refine J_ixor dX11_playOf_91 ?_
    refine J_iadd dX11_playOf_92 ?_
    refine lM_13 (v := (u.2 13 ((256 * (x1 - 1)) + ((u.1 4) ^^^ ((1 : Int32) <<< (x5 &&& 31)))).toNatClampNeg)) h.1 rfl dX11_playOf_93 ?_
    have h := h.2
    refine J_topi (fun y3 ey3 => ?_)
    have h := h y3 ey3
    refine J_if_ne (tgt := 103) dX11_playOf_94 rfl (fun c => ?_) (fun c => ?_)
    · have h := h.1 c
      exact J_sub (lv' := [(5, .int x5)]) [2] rfl (hX x5 h)
    · have h := h.2 c
      refine J_iinc (v := (x5 + 1)) (lv' := [(5, .int (x5 + 1)), (0, .ref (ad 0)), (1, .int x1)]) 2 dX11_playOf_97 rfl rfl (Nat.le_of_ble_eq_true rfl) rfl ?_
      refine J_goto (tgt := 72) dX11_playOf_100 rfl ?_
      exact J_sub (lv' := [(0, .ref (ad 0)), (1, .int x1), (5, .int (x5 + 1))]) [1, 2, 0] rfl (ih (x5 + 1) h)
set_option maxRecDepth 20000 in
set_option maxHeartbeats 4000000 in
theorem c_M_playOf {u : Mem} {x1 : Int32} {x2 : Int32} {x3 : Int32} {Q : Int32 → Mem → Prop} (h : w_M_playOf x1 x2 x3 u Q) : MM l D ad cI cZ cS rs A0 yX11_playOf cX11_playOf 6 (some .int) 2 [.ref (ad 0), .int x1, .int x2, .int x3] u (jWi Q) := by
  unfold w_M_playOf at h
  refine JMet.of (by decide) (Nat.le_of_ble_eq_true rfl) ?_
  refine J_sub (lv' := [(0, .ref (ad 0)), (1, .int x1), (2, .int x2), (3, .int x3)]) [0, 1, 2, 3] rfl ?_
  show a_M_playOf l D ad cI cZ cS rs A0 (jWi Q) 0 [(0, .ref (ad 0)), (1, .int x1), (2, .int x2), (3, .int x3)] [] u
  refine J_aload_n 0 dX11_playOf_0 rfl rfl ?_
  refine J_iload_n 1 dX11_playOf_1 rfl rfl ?_
  refine J_iload_n 2 dX11_playOf_2 rfl rfl ?_
  refine JV_Wv kV_RX11_200 0 rM_0 rfl rfl (c_M_findWins h) rfl rfl (by decide) (Nat.le_of_ble_eq_true rfl) dX11_playOf_3 (fun u2 h => ?_)
  refine J_aload_n 0 dX11_playOf_6 rfl rfl ?_
  refine gM_0_19 dX11_playOf_7 ?_
  refine J_sipush (v := 256) dX11_playOf_10 cs_256 ?_
  refine J_iload_n 1 dX11_playOf_13 rfl rfl ?_
  refine J_imul dX11_playOf_14 ?_
  refine J_aload_n 0 dX11_playOf_15 rfl rfl ?_
  refine gM_0_14 (v := (u2.1 4)) rfl dX11_playOf_16 ?_
  refine J_iadd dX11_playOf_19 ?_
  refine lM_13 (v := (u2.2 13 ((256 * x1) + (u2.1 4)).toNatClampNeg)) h.1 rfl dX11_playOf_20 ?_
  have h := h.2
  refine J_istore (lv' := [(4, .int (u2.2 13 ((256 * x1) + (u2.1 4)).toNatClampNeg)), (0, .ref (ad 0)), (1, .int x1), (2, .int x2), (3, .int x3)]) dX11_playOf_21 (Nat.le_of_ble_eq_true rfl) rfl ?_
  refine J_iload_n 4 dX11_playOf_23 rfl rfl ?_
  refine J_if_ne (tgt := 38) dX11_playOf_24 rfl (fun c => ?_) (fun c => ?_)
  · have h := h.1 c
    refine J_iload 0 dX11_playOf_38 rfl ?_
    refine J_if_eq (tgt := 67) dX11_playOf_40 rfl (fun c => ?_) (fun c => ?_)
    · have h := h.1 c
      refine J_iconst (v := (-1)) dX11_playOf_67 ci_m1 ?_
      exact J_iret rfl dX11_playOf_68 ⟨_, rfl, h⟩
    · have h := h.2 c
      refine J_iload_n 2 dX11_playOf_43 rfl rfl ?_
      refine J_if_eq (tgt := 67) dX11_playOf_44 rfl (fun c => ?_) (fun c => ?_)
      · have h := h.1 c
        refine J_iconst (v := (-1)) dX11_playOf_67 ci_m1 ?_
        exact J_iret rfl dX11_playOf_68 ⟨_, rfl, h⟩
      · have h := h.2 c
        refine J_aload_n 1 dX11_playOf_47 rfl rfl ?_
        refine gM_0_19 dX11_playOf_48 ?_
        refine J_sipush (v := 256) dX11_playOf_51 cs_256 ?_
        refine J_iload_n 2 dX11_playOf_54 rfl rfl ?_
        refine J_iconst (v := 1) dX11_playOf_55 ci_1 ?_
        refine J_isub dX11_playOf_56 ?_
        refine J_imul dX11_playOf_57 ?_
        refine J_aload_n 1 dX11_playOf_58 rfl rfl ?_
        refine gM_0_14 (v := (u2.1 4)) rfl dX11_playOf_59 ?_
        refine J_iadd dX11_playOf_62 ?_
        refine lM_13 (v := (u2.2 13 ((256 * (x1 - 1)) + (u2.1 4)).toNatClampNeg)) h.1 rfl dX11_playOf_63 ?_
        have h := h.2
        refine J_if_eq (tgt := 69) dX11_playOf_64 rfl (fun c => ?_) (fun c => ?_)
        · have h := h.1 c
          refine J_iconst (v := 0) dX11_playOf_69 ci_0 ?_
          refine J_istore (lv' := [(5, .int 0), (4, .int (u2.2 13 ((256 * x1) + (u2.1 4)).toNatClampNeg)), (0, .ref (ad 0)), (1, .int x1), (2, .int x2), (3, .int x3)]) dX11_playOf_70 (Nat.le_of_ble_eq_true rfl) rfl ?_
          obtain ⟨n5, h⟩ := h
          refine J_sub (lv' := [(0, .ref (ad 0)), (1, .int x1), (5, .int 0)]) [2, 3, 0] rfl (t_M_playOf_l72 ?_ n5 0 h)
          · intro z4 h
            refine J_iload 0 dX11_playOf_103 rfl ?_
            exact J_iret rfl dX11_playOf_105 ⟨_, rfl, h⟩
        · have h := h.2 c
          refine J_iconst (v := (-1)) dX11_playOf_67 ci_m1 ?_
          exact J_iret rfl dX11_playOf_68 ⟨_, rfl, h⟩
  · have h := h.2 c
    refine J_iload 0 dX11_playOf_27 rfl ?_
    refine J_if_eq (tgt := 36) dX11_playOf_29 rfl (fun c => ?_) (fun c => ?_)
    · have h := h.1 c
      refine J_iconst (v := 0) dX11_playOf_36 ci_0 ?_
      exact J_iret rfl dX11_playOf_37 ⟨_, rfl, h⟩
    · have h := h.2 c
      refine J_iconst (v := 1) dX11_playOf_32 ci_1 ?_
      refine J_goto (tgt := 37) dX11_playOf_33 rfl ?_
      exact J_iret rfl dX11_playOf_37 ⟨_, rfl, h⟩
abbrev a_M_play (l : Launch) (D : va_G) (ad : Nat → Nat) (cI cZ cS : ClassId) (rs : va_W) (A0 : Nat → Prop) := AM l D ad cI cZ cS rs A0 cX11_play 4 (some .int) RX11 5
set_option maxRecDepth 20000 in
set_option maxHeartbeats 4000000 in
theorem c_M_play {u : Mem} {x1 : Int32} {x2 : Int32} {x3 : Int32} {Q : Int32 → Mem → Prop} (h : w_M_play x1 x2 x3 u Q) : MM l D ad cI cZ cS rs A0 yX11_play cX11_play 4 (some .int) 5 [.ref (ad 0), .int x1, .int x2, .int x3] u (jWi Q) := by
  unfold w_M_play at h
  refine JMet.of (by decide) (Nat.le_of_ble_eq_true rfl) ?_
  refine J_sub (lv' := [(0, .ref (ad 0)), (1, .int x1), (2, .int x2), (3, .int x3)]) [0, 1, 2, 3] rfl ?_
  show a_M_play l D ad cI cZ cS rs A0 (jWi Q) 0 [(0, .ref (ad 0)), (1, .int x1), (2, .int x2), (3, .int x3)] [] u
  refine J_aload_n 0 dX11_play_0 rfl rfl ?_
  refine JV_Wv kV_RX11_153 0 rM_0 rfl rfl (c_M_reads h) rfl rfl (by decide) (Nat.le_of_ble_eq_true rfl) dX11_play_1 (fun u2 h => ?_)
  refine J_iload_n 1 dX11_play_4 rfl rfl ?_
  refine J_i2l dX11_play_5 ?_
  refine J_lconst (v := 0) dX11_play_6 rfl ?_
  refine J_ldc2 (v := 4) dX11_play_7 kk_RX11_204 ?_
  refine JS_Ri kS_RX11_61 (c_M_in h) rfl rfl (by decide) (Nat.le_of_ble_eq_true rfl) dX11_play_10 (fun r3 h => ?_)
  refine J_if_eq (tgt := 40) dX11_play_13 rfl (fun c => ?_) (fun c => ?_)
  · have h := h.1 c
    refine J_bipush (v := (-2)) dX11_play_40 cb_m2 ?_
    exact J_iret rfl dX11_play_42 ⟨_, rfl, h⟩
  · have h := h.2 c
    refine J_iload_n 2 dX11_play_16 rfl rfl ?_
    refine JS_Ri kS_RX11_158 (c_M_isThing h) rfl rfl (by decide) (Nat.le_of_ble_eq_true rfl) dX11_play_17 (fun r5 h => ?_)
    refine J_if_eq (tgt := 40) dX11_play_20 rfl (fun c => ?_) (fun c => ?_)
    · have h := h.1 c
      refine J_bipush (v := (-2)) dX11_play_40 cb_m2 ?_
      exact J_iret rfl dX11_play_42 ⟨_, rfl, h⟩
    · have h := h.2 c
      refine J_iload_n 3 dX11_play_23 rfl rfl ?_
      refine JS_Ri kS_RX11_90 (c_M_isTwo h) rfl rfl (by decide) (Nat.le_of_ble_eq_true rfl) dX11_play_24 (fun r7 h => ?_)
      refine J_if_eq (tgt := 40) dX11_play_27 rfl (fun c => ?_) (fun c => ?_)
      · have h := h.1 c
        refine J_bipush (v := (-2)) dX11_play_40 cb_m2 ?_
        exact J_iret rfl dX11_play_42 ⟨_, rfl, h⟩
      · have h := h.2 c
        refine J_aload_n 0 dX11_play_30 rfl rfl ?_
        refine J_iload_n 1 dX11_play_31 rfl rfl ?_
        refine J_iload_n 2 dX11_play_32 rfl rfl ?_
        refine J_iload_n 3 dX11_play_33 rfl rfl ?_
        refine JV_Wi kV_RX11_206 0 rM_0 rfl rfl (c_M_playOf h) rfl rfl (by decide) (Nat.le_of_ble_eq_true rfl) dX11_play_34 (fun r9 u10 h => ?_)
        refine J_goto (tgt := 42) dX11_play_37 rfl ?_
        exact J_iret rfl dX11_play_42 ⟨_, rfl, h⟩
abbrev a_M_steadyOf (l : Launch) (D : va_G) (ad : Nat → Nat) (cI cZ cS : ClassId) (rs : va_W) (A0 : Nat → Prop) := AM l D ad cI cZ cS rs A0 cX11_steadyOf 4 (some .int) RX11 1
set_option maxRecDepth 20000 in
set_option maxHeartbeats 4000000 in
theorem t_M_steadyOf_l4 {u : Mem}  {X : Int32 → Prop} {x1 : Int32} {Q : Int32 → Prop} (hX : ∀ (x2 : Int32), X x2 → a_M_steadyOf l D ad cI cZ cS rs A0 (jRi u Q) 36 [(1, .int x1), (2, .int x2)] [] u) : ∀ (n : Nat) (x2 : Int32) (x3 : Int32), w_M_steadyOf_l4 X x1 u Q n x2 x3 → a_M_steadyOf l D ad cI cZ cS rs A0 (jRi u Q) 4 [(0, .ref (ad 0)), (1, .int x1), (2, .int x2), (3, .int x3)] [] u := by
  intro n
  induction n with
  | zero =>
    intro x2 x3 h
    exact (by simp only [w_M_steadyOf_l4] at h : False).elim
  | succ n ih =>
    intro x2 x3 h
    rw [w_M_steadyOf_l4] at h
    refine J_iload_n 3 dX11_steadyOf_4 rfl rfl ?_
    refine J_sipush (v := 256) dX11_steadyOf_5 cs_256 ?_
    refine J_icmp_ge (tgt := 36) dX11_steadyOf_8 rfl (fun c => ?_) (fun c => ?_)
    · have h := h.1 c
      exact J_sub (lv' := [(1, .int x1), (2, .int x2)]) [1, 2] rfl (hX x2 h)
    · have h := h.2 c
      refine J_aload_n 0 dX11_steadyOf_11 rfl rfl ?_
      refine J_iload_n 3 dX11_steadyOf_12 rfl rfl ?_
      refine JV_Ri kV_RX11_176 0 rM_0 rfl rfl (c_M_next h) rfl rfl (by decide) (Nat.le_of_ble_eq_true rfl) dX11_steadyOf_13 (fun r1 h => ?_)
      refine J_iload_n 3 dX11_steadyOf_16 rfl rfl ?_
      refine J_icmp_ne (tgt := 30) dX11_steadyOf_17 rfl (fun c => ?_) (fun c => ?_)
      · have h := h.1 c
        refine J_iinc (v := (x3 + 1)) (lv' := [(3, .int (x3 + 1)), (0, .ref (ad 0)), (1, .int x1), (2, .int x2)]) 3 dX11_steadyOf_30 rfl rfl (Nat.le_of_ble_eq_true rfl) rfl ?_
        refine J_goto (tgt := 4) dX11_steadyOf_33 rfl ?_
        exact J_sub (lv' := [(0, .ref (ad 0)), (1, .int x1), (2, .int x2), (3, .int (x3 + 1))]) [1, 2, 3, 0] rfl (ih x2 (x3 + 1) h)
      · have h := h.2 c
        refine J_iload_n 2 dX11_steadyOf_20 rfl rfl ?_
        refine J_iload_n 1 dX11_steadyOf_21 rfl rfl ?_
        refine J_icmp_ne (tgt := 27) dX11_steadyOf_22 rfl (fun c => ?_) (fun c => ?_)
        · have h := h.1 c
          refine J_iinc (v := (x2 + 1)) (lv' := [(2, .int (x2 + 1)), (0, .ref (ad 0)), (1, .int x1), (3, .int x3)]) 2 dX11_steadyOf_27 rfl rfl (Nat.le_of_ble_eq_true rfl) rfl ?_
          refine J_iinc (v := (x3 + 1)) (lv' := [(3, .int (x3 + 1)), (2, .int (x2 + 1)), (0, .ref (ad 0)), (1, .int x1)]) 3 dX11_steadyOf_30 rfl rfl (Nat.le_of_ble_eq_true rfl) rfl ?_
          refine J_goto (tgt := 4) dX11_steadyOf_33 rfl ?_
          exact J_sub (lv' := [(0, .ref (ad 0)), (1, .int x1), (2, .int (x2 + 1)), (3, .int (x3 + 1))]) [2, 3, 1, 0] rfl (ih (x2 + 1) (x3 + 1) h)
        · have h := h.2 c
          refine J_iload_n 3 dX11_steadyOf_25 rfl rfl ?_
          exact J_iret rfl dX11_steadyOf_26 ⟨rfl, _, rfl, h⟩
set_option maxRecDepth 20000 in
set_option maxHeartbeats 4000000 in
theorem c_M_steadyOf {u : Mem} {x1 : Int32} {Q : Int32 → Prop} (h : w_M_steadyOf x1 u Q) : MM l D ad cI cZ cS rs A0 yX11_steadyOf cX11_steadyOf 4 (some .int) 1 [.ref (ad 0), .int x1] u (jRi u Q) := by
  unfold w_M_steadyOf at h
  refine JMet.of (by decide) (Nat.le_of_ble_eq_true rfl) ?_
  refine J_sub (lv' := [(0, .ref (ad 0)), (1, .int x1)]) [0, 1] rfl ?_
  show a_M_steadyOf l D ad cI cZ cS rs A0 (jRi u Q) 0 [(0, .ref (ad 0)), (1, .int x1)] [] u
  refine J_iconst (v := 0) dX11_steadyOf_0 ci_0 ?_
  refine J_istore_n (lv' := [(2, .int 0), (0, .ref (ad 0)), (1, .int x1)]) dX11_steadyOf_1 rfl (Nat.le_of_ble_eq_true rfl) rfl ?_
  refine J_iconst (v := 0) dX11_steadyOf_2 ci_0 ?_
  refine J_istore_n (lv' := [(3, .int 0), (2, .int 0), (0, .ref (ad 0)), (1, .int x1)]) dX11_steadyOf_3 rfl (Nat.le_of_ble_eq_true rfl) rfl ?_
  obtain ⟨n4, h⟩ := h
  refine J_sub (lv' := [(0, .ref (ad 0)), (1, .int x1), (2, .int 0), (3, .int 0)]) [2, 3, 1, 0] rfl (t_M_steadyOf_l4 ?_ n4 0 0 h)
  · intro z3 h
    refine J_iload_n 0 dX11_steadyOf_36 rfl rfl ?_
    refine J_iconst (v := (-1)) dX11_steadyOf_37 ci_m1 ?_
    refine J_icmp_ne (tgt := 45) dX11_steadyOf_38 rfl (fun c => ?_) (fun c => ?_)
    · have h := h.1 c
      refine J_iconst (v := (-1)) dX11_steadyOf_45 ci_m1 ?_
      exact J_iret rfl dX11_steadyOf_46 ⟨rfl, _, rfl, h⟩
    · have h := h.2 c
      refine J_iload_n 1 dX11_steadyOf_41 rfl rfl ?_
      refine J_goto (tgt := 46) dX11_steadyOf_42 rfl ?_
      exact J_iret rfl dX11_steadyOf_46 ⟨rfl, _, rfl, h⟩
abbrev a_M_steady (l : Launch) (D : va_G) (ad : Nat → Nat) (cI cZ cS : ClassId) (rs : va_W) (A0 : Nat → Prop) := AM l D ad cI cZ cS rs A0 cX11_steady 2 (some .int) RX11 5
set_option maxRecDepth 20000 in
set_option maxHeartbeats 4000000 in
theorem c_M_steady {u : Mem} {x1 : Int32} {Q : Int32 → Mem → Prop} (h : w_M_steady x1 u Q) : MM l D ad cI cZ cS rs A0 yX11_steady cX11_steady 2 (some .int) 5 [.ref (ad 0), .int x1] u (jWi Q) := by
  unfold w_M_steady at h
  refine JMet.of (by decide) (Nat.le_of_ble_eq_true rfl) ?_
  refine J_sub (lv' := [(0, .ref (ad 0)), (1, .int x1)]) [0, 1] rfl ?_
  show a_M_steady l D ad cI cZ cS rs A0 (jWi Q) 0 [(0, .ref (ad 0)), (1, .int x1)] [] u
  refine J_aload_n 0 dX11_steady_0 rfl rfl ?_
  refine JV_Wv kV_RX11_153 0 rM_0 rfl rfl (c_M_reads h) rfl rfl (by decide) (Nat.le_of_ble_eq_true rfl) dX11_steady_1 (fun u2 h => ?_)
  refine J_iload_n 1 dX11_steady_4 rfl rfl ?_
  refine J_i2l dX11_steady_5 ?_
  refine J_ldc2 (v := (-1)) dX11_steady_6 kk_RX11_209 ?_
  refine J_ldc2 (v := 255) dX11_steady_9 kk_RX11_93 ?_
  refine JS_Ri kS_RX11_61 (c_M_in h) rfl rfl (by decide) (Nat.le_of_ble_eq_true rfl) dX11_steady_12 (fun r3 h => ?_)
  refine J_if_eq (tgt := 26) dX11_steady_15 rfl (fun c => ?_) (fun c => ?_)
  · have h := h.1 c
    refine J_bipush (v := (-2)) dX11_steady_26 cb_m2 ?_
    exact J_iret rfl dX11_steady_28 ⟨_, rfl, h⟩
  · have h := h.2 c
    refine J_aload_n 0 dX11_steady_18 rfl rfl ?_
    refine J_iload_n 1 dX11_steady_19 rfl rfl ?_
    refine JV_Ri kV_RX11_211 0 rM_0 rfl rfl (c_M_steadyOf h) rfl rfl (by decide) (Nat.le_of_ble_eq_true rfl) dX11_steady_20 (fun r5 h => ?_)
    refine J_goto (tgt := 28) dX11_steady_23 rfl ?_
    exact J_iret rfl dX11_steady_28 ⟨_, rfl, h⟩
abbrev a_M_roundOf (l : Launch) (D : va_G) (ad : Nat → Nat) (cI cZ cS : ClassId) (rs : va_W) (A0 : Nat → Prop) := AM l D ad cI cZ cS rs A0 cX11_roundOf 5 (some .int) RX11 1
set_option maxRecDepth 20000 in
set_option maxHeartbeats 4000000 in
theorem t_M_roundOf_l2  {X : Mem → Prop} {x1 : Int32} {x2 : Int32} {Q : Int32 → Mem → Prop} (hX : ∀ (u : Mem), X u → a_M_roundOf l D ad cI cZ cS rs A0 (jWi Q) 22 [(0, .ref (ad 0)), (1, .int x1), (2, .int x2)] [] u) : ∀ (n : Nat) (x3 : Int32) (u : Mem), w_M_roundOf_l2 X x1 x2 Q n x3 u → a_M_roundOf l D ad cI cZ cS rs A0 (jWi Q) 2 [(0, .ref (ad 0)), (1, .int x1), (2, .int x2), (3, .int x3)] [] u := by
  intro n
  induction n with
  | zero =>
    intro x3 u h
    exact (by simp only [w_M_roundOf_l2] at h : False).elim
  | succ n ih =>
    intro x3 u h
    rw [w_M_roundOf_l2] at h
    refine J_iload_n 3 dX11_roundOf_2 rfl rfl ?_
    refine J_sipush (v := 256) dX11_roundOf_3 cs_256 ?_
    refine J_icmp_ge (tgt := 22) dX11_roundOf_6 rfl (fun c => ?_) (fun c => ?_)
    · have h := h.1 c
      exact J_sub (lv' := [(0, .ref (ad 0)), (1, .int x1), (2, .int x2)]) [0, 1, 2] rfl (hX u h)
    · have h := h.2 c
      refine J_aload_n 0 dX11_roundOf_9 rfl rfl ?_
      refine gM_0_20 dX11_roundOf_10 ?_
      refine J_iload_n 3 dX11_roundOf_13 rfl rfl ?_
      refine J_iconst (v := (-1)) dX11_roundOf_14 ci_m1 ?_
      refine tM_14 h.1 dX11_roundOf_15 ?_
      have h := h.2
      refine J_iinc (v := (x3 + 1)) (lv' := [(3, .int (x3 + 1)), (0, .ref (ad 0)), (1, .int x1), (2, .int x2)]) 3 dX11_roundOf_16 rfl rfl (Nat.le_of_ble_eq_true rfl) rfl ?_
      refine J_goto (tgt := 2) dX11_roundOf_19 rfl ?_
      exact J_sub (lv' := [(0, .ref (ad 0)), (1, .int x1), (2, .int x2), (3, .int (x3 + 1))]) [1, 2, 3, 0] rfl (ih (x3 + 1) (sA u 14 x3.toNatClampNeg (-1)) h)
set_option maxRecDepth 20000 in
set_option maxHeartbeats 4000000 in
theorem t_M_roundOf_l27  {X : Int32 → Int32 → Mem → Prop} {x2 : Int32} {Q : Int32 → Mem → Prop} (hX : ∀ (x3 : Int32) (x4 : Int32) (u : Mem), X x3 x4 u → a_M_roundOf l D ad cI cZ cS rs A0 (jWi Q) 57 [(0, .ref (ad 0)), (2, .int x2), (3, .int x3), (4, .int x4)] [] u) : ∀ (n : Nat) (x3 : Int32) (x4 : Int32) (u : Mem), w_M_roundOf_l27 X x2 Q n x3 x4 u → a_M_roundOf l D ad cI cZ cS rs A0 (jWi Q) 27 [(0, .ref (ad 0)), (2, .int x2), (3, .int x3), (4, .int x4)] [] u := by
  intro n
  induction n with
  | zero =>
    intro x3 x4 u h
    exact (by simp only [w_M_roundOf_l27] at h : False).elim
  | succ n ih =>
    intro x3 x4 u h
    rw [w_M_roundOf_l27] at h
    refine J_aload_n 0 dX11_roundOf_27 rfl rfl ?_
    refine gM_0_20 dX11_roundOf_28 ?_
    refine J_iload_n 2 dX11_roundOf_31 rfl rfl ?_
    refine lM_14 (v := (u.2 14 x3.toNatClampNeg)) h.1 rfl dX11_roundOf_32 ?_
    have h := h.2
    refine J_iconst (v := (-1)) dX11_roundOf_33 ci_m1 ?_
    refine J_icmp_ne (tgt := 57) dX11_roundOf_34 rfl (fun c => ?_) (fun c => ?_)
    · have h := h.1 c
      exact (hX x3 x4 u h)
    · have h := h.2 c
      refine J_aload_n 0 dX11_roundOf_37 rfl rfl ?_
      refine gM_0_20 dX11_roundOf_38 ?_
      refine J_iload_n 2 dX11_roundOf_41 rfl rfl ?_
      refine J_iload 3 dX11_roundOf_42 rfl ?_
      refine tM_14 h.1 dX11_roundOf_44 ?_
      have h := h.2
      refine J_aload_n 0 dX11_roundOf_45 rfl rfl ?_
      refine J_iload_n 2 dX11_roundOf_46 rfl rfl ?_
      refine JV_Ri kV_RX11_176 0 rM_0 rfl rfl (c_M_next h) rfl rfl (by decide) (Nat.le_of_ble_eq_true rfl) dX11_roundOf_47 (fun r2 h => ?_)
      refine J_istore_n (lv' := [(3, .int r2), (0, .ref (ad 0)), (2, .int x2), (4, .int x4)]) dX11_roundOf_50 rfl (Nat.le_of_ble_eq_true rfl) rfl ?_
      refine J_iinc (v := (x4 + 1)) (lv' := [(4, .int (x4 + 1)), (3, .int r2), (0, .ref (ad 0)), (2, .int x2)]) 3 dX11_roundOf_51 rfl rfl (Nat.le_of_ble_eq_true rfl) rfl ?_
      refine J_goto (tgt := 27) dX11_roundOf_54 rfl ?_
      exact J_sub (lv' := [(0, .ref (ad 0)), (2, .int x2), (3, .int r2), (4, .int (x4 + 1))]) [2, 3, 1, 0] rfl (ih r2 (x4 + 1) (sA u 14 x3.toNatClampNeg x4) h)
set_option maxRecDepth 20000 in
set_option maxHeartbeats 4000000 in
theorem c_M_roundOf {u : Mem} {x1 : Int32} {x2 : Int32} {Q : Int32 → Mem → Prop} (h : w_M_roundOf x1 x2 u Q) : MM l D ad cI cZ cS rs A0 yX11_roundOf cX11_roundOf 5 (some .int) 1 [.ref (ad 0), .int x1, .int x2] u (jWi Q) := by
  unfold w_M_roundOf at h
  refine JMet.of (by decide) (Nat.le_of_ble_eq_true rfl) ?_
  refine J_sub (lv' := [(0, .ref (ad 0)), (1, .int x1), (2, .int x2)]) [0, 1, 2] rfl ?_
  show a_M_roundOf l D ad cI cZ cS rs A0 (jWi Q) 0 [(0, .ref (ad 0)), (1, .int x1), (2, .int x2)] [] u
  refine J_iconst (v := 0) dX11_roundOf_0 ci_0 ?_
  refine J_istore_n (lv' := [(3, .int 0), (0, .ref (ad 0)), (1, .int x1), (2, .int x2)]) dX11_roundOf_1 rfl (Nat.le_of_ble_eq_true rfl) rfl ?_
  obtain ⟨n8, h⟩ := h
  refine J_sub (lv' := [(0, .ref (ad 0)), (1, .int x1), (2, .int x2), (3, .int 0)]) [1, 2, 3, 0] rfl (t_M_roundOf_l2 ?_ n8 0 u h)
  · intro u1 h
    refine J_iload_n 1 dX11_roundOf_22 rfl rfl ?_
    refine J_istore_n (lv' := [(3, .int x1), (0, .ref (ad 0)), (1, .int x1), (2, .int x2)]) dX11_roundOf_23 rfl (Nat.le_of_ble_eq_true rfl) rfl ?_
    refine J_iconst (v := 0) dX11_roundOf_24 ci_0 ?_
    refine J_istore (lv' := [(4, .int 0), (3, .int x1), (0, .ref (ad 0)), (1, .int x1), (2, .int x2)]) dX11_roundOf_25 (Nat.le_of_ble_eq_true rfl) rfl ?_
    obtain ⟨n7, h⟩ := h
    refine J_sub (lv' := [(0, .ref (ad 0)), (2, .int x2), (3, .int x1), (4, .int 0)]) [2, 4, 1, 0] rfl (t_M_roundOf_l27 ?_ n7 x1 0 u1 h)
    · intro z4 z5 u6 h
      refine J_iload_n 1 dX11_roundOf_57 rfl rfl ?_
      refine J_if_ne (tgt := 66) dX11_roundOf_58 rfl (fun c => ?_) (fun c => ?_)
      · have h := h.1 c
        refine J_iload 3 dX11_roundOf_66 rfl ?_
        refine J_aload_n 0 dX11_roundOf_68 rfl rfl ?_
        refine gM_0_20 dX11_roundOf_69 ?_
        refine J_iload_n 2 dX11_roundOf_72 rfl rfl ?_
        refine lM_14 (v := (u6.2 14 z4.toNatClampNeg)) h.1 rfl dX11_roundOf_73 ?_
        have h := h.2
        refine J_isub dX11_roundOf_74 ?_
        exact J_iret rfl dX11_roundOf_75 ⟨_, rfl, h⟩
      · have h := h.2 c
        refine J_iload 3 dX11_roundOf_61 rfl ?_
        refine J_goto (tgt := 75) dX11_roundOf_63 rfl ?_
        exact J_iret rfl dX11_roundOf_75 ⟨_, rfl, h⟩
abbrev a_M_round (l : Launch) (D : va_G) (ad : Nat → Nat) (cI cZ cS : ClassId) (rs : va_W) (A0 : Nat → Prop) := AM l D ad cI cZ cS rs A0 cX11_round 3 (some .int) RX11 5
set_option maxRecDepth 20000 in
set_option maxHeartbeats 4000000 in
theorem c_M_round {u : Mem} {x1 : Int32} {x2 : Int32} {Q : Int32 → Mem → Prop} (h : w_M_round x1 x2 u Q) : MM l D ad cI cZ cS rs A0 yX11_round cX11_round 3 (some .int) 5 [.ref (ad 0), .int x1, .int x2] u (jWi Q) := by
  unfold w_M_round at h
  refine JMet.of (by decide) (Nat.le_of_ble_eq_true rfl) ?_
  refine J_sub (lv' := [(0, .ref (ad 0)), (1, .int x1), (2, .int x2)]) [0, 1, 2] rfl ?_
  show a_M_round l D ad cI cZ cS rs A0 (jWi Q) 0 [(0, .ref (ad 0)), (1, .int x1), (2, .int x2)] [] u
  refine J_aload_n 0 dX11_round_0 rfl rfl ?_
  refine JV_Wv kV_RX11_153 0 rM_0 rfl rfl (c_M_reads h) rfl rfl (by decide) (Nat.le_of_ble_eq_true rfl) dX11_round_1 (fun u2 h => ?_)
  refine J_iload_n 1 dX11_round_4 rfl rfl ?_
  refine JS_Ri kS_RX11_147 (c_M_isSet h) rfl rfl (by decide) (Nat.le_of_ble_eq_true rfl) dX11_round_5 (fun r3 h => ?_)
  refine J_if_eq (tgt := 27) dX11_round_8 rfl (fun c => ?_) (fun c => ?_)
  · have h := h.1 c
    refine J_bipush (v := (-2)) dX11_round_27 cb_m2 ?_
    exact J_iret rfl dX11_round_29 ⟨_, rfl, h⟩
  · have h := h.2 c
    refine J_iload_n 2 dX11_round_11 rfl rfl ?_
    refine JS_Ri kS_RX11_90 (c_M_isTwo h) rfl rfl (by decide) (Nat.le_of_ble_eq_true rfl) dX11_round_12 (fun r5 h => ?_)
    refine J_if_eq (tgt := 27) dX11_round_15 rfl (fun c => ?_) (fun c => ?_)
    · have h := h.1 c
      refine J_bipush (v := (-2)) dX11_round_27 cb_m2 ?_
      exact J_iret rfl dX11_round_29 ⟨_, rfl, h⟩
    · have h := h.2 c
      refine J_aload_n 0 dX11_round_18 rfl rfl ?_
      refine J_iload_n 1 dX11_round_19 rfl rfl ?_
      refine J_iload_n 2 dX11_round_20 rfl rfl ?_
      refine JV_Wi kV_RX11_214 0 rM_0 rfl rfl (c_M_roundOf h) rfl rfl (by decide) (Nat.le_of_ble_eq_true rfl) dX11_round_21 (fun r7 u8 h => ?_)
      refine J_goto (tgt := 29) dX11_round_24 rfl ?_
      exact J_iret rfl dX11_round_29 ⟨_, rfl, h⟩
abbrev a_M_seen (l : Launch) (D : va_G) (ad : Nat → Nat) (cI cZ cS : ClassId) (rs : va_W) (A0 : Nat → Prop) := AM l D ad cI cZ cS rs A0 cX11_seen 3 (some .int) RX11 2
set_option maxRecDepth 20000 in
set_option maxHeartbeats 4000000 in
theorem c_M_seen {u : Mem} {x1 : Int32} {x2 : Int32} {Q : Int32 → Mem → Prop} (h : w_M_seen x1 x2 u Q) : MM l D ad cI cZ cS rs A0 yX11_seen cX11_seen 3 (some .int) 2 [.ref (ad 0), .int x1, .int x2] u (jWi Q) := by
  unfold w_M_seen at h
  refine JMet.of (by decide) (Nat.le_of_ble_eq_true rfl) ?_
  refine J_sub (lv' := [(0, .ref (ad 0)), (1, .int x1), (2, .int x2)]) [0, 1, 2] rfl ?_
  show a_M_seen l D ad cI cZ cS rs A0 (jWi Q) 0 [(0, .ref (ad 0)), (1, .int x1), (2, .int x2)] [] u
  refine J_iload_n 1 dX11_seen_0 rfl rfl ?_
  refine JS_Ri kS_RX11_147 (c_M_isSet h) rfl rfl (by decide) (Nat.le_of_ble_eq_true rfl) dX11_seen_1 (fun r1 h => ?_)
  refine J_if_eq (tgt := 14) dX11_seen_4 rfl (fun c => ?_) (fun c => ?_)
  · have h := h.1 c
    refine J_bipush (v := (-2)) dX11_seen_14 cb_m2 ?_
    exact J_iret rfl dX11_seen_16 ⟨_, rfl, h⟩
  · have h := h.2 c
    refine J_iload_n 2 dX11_seen_7 rfl rfl ?_
    refine JS_Ri kS_RX11_147 (c_M_isSet h) rfl rfl (by decide) (Nat.le_of_ble_eq_true rfl) dX11_seen_8 (fun r3 h => ?_)
    refine J_if_ne (tgt := 17) dX11_seen_11 rfl (fun c => ?_) (fun c => ?_)
    · have h := h.1 c
      refine J_aload_n 0 dX11_seen_17 rfl rfl ?_
      refine gM_0_21 (v := (u.1 6)) rfl dX11_seen_18 ?_
      refine J_bipush (v := 8) dX11_seen_21 cb_8 ?_
      refine J_icmp_ne (tgt := 29) dX11_seen_23 rfl (fun c => ?_) (fun c => ?_)
      · have h := h.1 c
        refine J_aload_n 0 dX11_seen_29 rfl rfl ?_
        refine gM_0_22 dX11_seen_30 ?_
        refine J_iconst (v := 2) dX11_seen_33 ci_2 ?_
        refine J_aload_n 0 dX11_seen_34 rfl rfl ?_
        refine gM_0_21 (v := (u.1 6)) rfl dX11_seen_35 ?_
        refine J_imul dX11_seen_38 ?_
        refine J_iload_n 1 dX11_seen_39 rfl rfl ?_
        refine tM_15 h.1 dX11_seen_40 ?_
        have h := h.2
        refine J_aload_n 0 dX11_seen_41 rfl rfl ?_
        refine gM_0_22 dX11_seen_42 ?_
        refine J_iconst (v := 2) dX11_seen_45 ci_2 ?_
        refine J_aload_n 0 dX11_seen_46 rfl rfl ?_
        refine gM_0_21 (v := (u.1 6)) rfl dX11_seen_47 ?_
        refine J_imul dX11_seen_50 ?_
        refine J_iconst (v := 1) dX11_seen_51 ci_1 ?_
        refine J_iadd dX11_seen_52 ?_
        refine J_iload_n 2 dX11_seen_53 rfl rfl ?_
        refine tM_15 h.1 dX11_seen_54 ?_
        have h := h.2
        refine J_aload_n 0 dX11_seen_55 rfl rfl ?_
        refine J_dup dX11_seen_56 rfl ?_
        refine gM_0_21 (v := (u.1 6)) rfl dX11_seen_57 ?_
        refine J_iconst (v := 1) dX11_seen_60 ci_1 ?_
        refine J_iadd dX11_seen_61 ?_
        refine pM_0_21 dX11_seen_62 ?_
        refine J_aload_n 0 dX11_seen_65 rfl rfl ?_
        refine gM_0_21 (v := ((u.1 6) + 1)) rfl dX11_seen_66 ?_
        exact J_iret rfl dX11_seen_69 ⟨_, rfl, h⟩
      · have h := h.2 c
        refine J_bipush (v := (-4)) dX11_seen_26 cb_m4 ?_
        exact J_iret rfl dX11_seen_28 ⟨_, rfl, h⟩
    · have h := h.2 c
      refine J_bipush (v := (-2)) dX11_seen_14 cb_m2 ?_
      exact J_iret rfl dX11_seen_16 ⟨_, rfl, h⟩
abbrev a_M_forget (l : Launch) (D : va_G) (ad : Nat → Nat) (cI cZ cS : ClassId) (rs : va_W) (A0 : Nat → Prop) := AM l D ad cI cZ cS rs A0 cX11_forget 2 (some .int) RX11 0
set_option maxRecDepth 20000 in
set_option maxHeartbeats 4000000 in
theorem c_M_forget {u : Mem} {Q : Int32 → Mem → Prop} (h : w_M_forget u Q) : MM l D ad cI cZ cS rs A0 yX11_forget cX11_forget 2 (some .int) 0 [.ref (ad 0)] u (jWi Q) := by
  unfold w_M_forget at h
  refine JMet.of (by decide) (Nat.le_of_ble_eq_true rfl) ?_
  refine J_sub (lv' := [(0, .ref (ad 0))]) [0] rfl ?_
  show a_M_forget l D ad cI cZ cS rs A0 (jWi Q) 0 [(0, .ref (ad 0))] [] u
  refine J_aload_n 0 dX11_forget_0 rfl rfl ?_
  refine gM_0_21 (v := (u.1 6)) rfl dX11_forget_1 ?_
  refine J_istore_n (lv' := [(1, .int (u.1 6)), (0, .ref (ad 0))]) dX11_forget_4 rfl (Nat.le_of_ble_eq_true rfl) rfl ?_
  refine J_aload_n 1 dX11_forget_5 rfl rfl ?_
  refine J_iconst (v := 0) dX11_forget_6 ci_0 ?_
  refine pM_0_21 dX11_forget_7 ?_
  refine J_iload_n 0 dX11_forget_10 rfl rfl ?_
  exact J_iret rfl dX11_forget_11 ⟨_, rfl, h⟩
abbrev a_M_read (l : Launch) (D : va_G) (ad : Nat → Nat) (cI cZ cS : ClassId) (rs : va_W) (A0 : Nat → Prop) := AM l D ad cI cZ cS rs A0 cX11_read 4 (some .int) RX11 3
set_option maxRecDepth 20000 in
set_option maxHeartbeats 4000000 in
theorem t_M_read_b98 {u : Mem} {R : Int32 → Int32 → Mem → Prop} {X : Int32 → Mem → Prop} {x1 : Int32} {x3 : Int32} {s0 : Int32} {s1 : Int32} {Q : Int32 → Mem → Prop} (hR : ∀ (z2 : Int32) (z3 : Int32) (u : Mem), R z2 z3 u → a_M_read l D ad cI cZ cS rs A0 (jWi Q) 29 [(0, .ref (ad 0)), (1, .int x1), (2, .int z2), (3, .int z3)] [] u) (hX : ∀ (z2 : Int32) (u : Mem), X z2 u → a_M_read l D ad cI cZ cS rs A0 (jWi Q) 103 [(2, .int z2)] [] u) (h : w_M_read_b98 R X x1 x3 s0 s1 u Q) : a_M_read l D ad cI cZ cS rs A0 (jWi Q) 98 [(0, .ref (ad 0)), (1, .int x1), (3, .int x3)] [.int s0, .int s1] u := by
  unfold w_M_read_b98 at h
  refine J_iadd dX11_read_98 ?_
  refine J_istore_n (lv' := [(2, .int (s1 + s0)), (0, .ref (ad 0)), (1, .int x1), (3, .int x3)]) dX11_read_99 rfl (Nat.le_of_ble_eq_true rfl) rfl ?_
  refine J_goto (tgt := 29) dX11_read_100 rfl ?_
  exact J_sub (lv' := [(0, .ref (ad 0)), (1, .int x1), (2, .int (s1 + s0)), (3, .int x3)]) [1, 2, 0, 3] rfl (hR (s1 + s0) x3 u h)
set_option maxRecDepth 20000 in
set_option maxHeartbeats 4000000 in
theorem t_M_read_b87 {u : Mem} {R : Int32 → Int32 → Mem → Prop} {X : Int32 → Mem → Prop} {x1 : Int32} {x2 : Int32} {s0 : Int32} {Q : Int32 → Mem → Prop} (hR : ∀ (z2 : Int32) (z3 : Int32) (u : Mem), R z2 z3 u → a_M_read l D ad cI cZ cS rs A0 (jWi Q) 29 [(0, .ref (ad 0)), (1, .int x1), (2, .int z2), (3, .int z3)] [] u) (hX : ∀ (z2 : Int32) (u : Mem), X z2 u → a_M_read l D ad cI cZ cS rs A0 (jWi Q) 103 [(2, .int z2)] [] u) (h : w_M_read_b87 R X x1 x2 s0 u Q) : a_M_read l D ad cI cZ cS rs A0 (jWi Q) 87 [(0, .ref (ad 0)), (1, .int x1), (2, .int x2)] [.int s0] u := by
  unfold w_M_read_b87 at h
  refine J_istore_n (lv' := [(3, .int s0), (0, .ref (ad 0)), (1, .int x1), (2, .int x2)]) dX11_read_87 rfl (Nat.le_of_ble_eq_true rfl) rfl ?_
  refine J_iload_n 3 dX11_read_88 rfl rfl ?_
  refine J_iload_n 0 dX11_read_89 rfl rfl ?_
  refine J_if_eq (tgt := 97) dX11_read_90 rfl (fun c => ?_) (fun c => ?_)
  · have h := h.1 c
    refine J_iconst (v := 0) dX11_read_97 ci_0 ?_
    exact J_sub (lv' := [(0, .ref (ad 0)), (1, .int x1), (3, .int s0)]) [1, 2, 0] rfl (t_M_read_b98 hR hX h)
  · have h := h.2 c
    refine J_iconst (v := 1) dX11_read_93 ci_1 ?_
    refine J_goto (tgt := 98) dX11_read_94 rfl ?_
    exact J_sub (lv' := [(0, .ref (ad 0)), (1, .int x1), (3, .int s0)]) [1, 2, 0] rfl (t_M_read_b98 hR hX h)
set_option maxRecDepth 20000 in
set_option maxHeartbeats 4000000 in
theorem t_M_read_l29  {X : Int32 → Mem → Prop} {x1 : Int32} {Q : Int32 → Mem → Prop} (hX : ∀ (x2 : Int32) (u : Mem), X x2 u → a_M_read l D ad cI cZ cS rs A0 (jWi Q) 103 [(2, .int x2)] [] u) : ∀ (n : Nat) (x2 : Int32) (x3 : Int32) (u : Mem), w_M_read_l29 X x1 Q n x2 x3 u → a_M_read l D ad cI cZ cS rs A0 (jWi Q) 29 [(0, .ref (ad 0)), (1, .int x1), (2, .int x2), (3, .int x3)] [] u := by
  intro n
  induction n with
  | zero =>
    intro x2 x3 u h
    exact (by simp only [w_M_read_l29] at h : False).elim
  | succ n ih =>
    intro x2 x3 u h
    rw [w_M_read_l29] at h
    refine J_iload_n 3 dX11_read_29 rfl rfl ?_
    refine J_if_eq (tgt := 103) dX11_read_30 rfl (fun c => ?_) (fun c => ?_)
    · have h := h.1 c
      exact J_sub (lv' := [(2, .int x2)]) [2] rfl (hX x2 u h)
    · have h := h.2 c
      refine J_iconst (v := 2) dX11_read_33 ci_2 ?_
      refine J_iload_n 2 dX11_read_34 rfl rfl ?_
      refine J_imul dX11_read_35 ?_
      refine J_iconst (v := 2) dX11_read_36 ci_2 ?_
      refine J_iadd dX11_read_37 ?_
      refine J_aload_n 0 dX11_read_38 rfl rfl ?_
      refine gM_0_1 dX11_read_39 ?_
      refine J_iload_n 1 dX11_read_42 rfl rfl ?_
      refine lM_1 (v := (u.2 1 x1.toNatClampNeg)) h.1 rfl dX11_read_43 ?_
      have h := h.2
      refine J_icmp_gt (tgt := 103) dX11_read_44 rfl (fun c => ?_) (fun c => ?_)
      · have h := h.1 c
        exact J_sub (lv' := [(2, .int x2)]) [2] rfl (hX x2 u h)
      · have h := h.2 c
        refine J_aload_n 0 dX11_read_47 rfl rfl ?_
        refine J_aload_n 0 dX11_read_48 rfl rfl ?_
        refine gM_0_2 dX11_read_49 ?_
        refine J_bipush (v := 60) dX11_read_52 cb_60 ?_
        refine J_iload_n 1 dX11_read_54 rfl rfl ?_
        refine J_imul dX11_read_55 ?_
        refine J_iconst (v := 2) dX11_read_56 ci_2 ?_
        refine J_iload_n 2 dX11_read_57 rfl rfl ?_
        refine J_imul dX11_read_58 ?_
        refine J_iadd dX11_read_59 ?_
        refine lM_2 (v := (u.2 2 ((60 * x1) + (2 * x2)).toNatClampNeg)) h.1 rfl dX11_read_60 ?_
        have h := h.2
        refine J_aload_n 0 dX11_read_61 rfl rfl ?_
        refine gM_0_2 dX11_read_62 ?_
        refine J_bipush (v := 60) dX11_read_65 cb_60 ?_
        refine J_iload_n 1 dX11_read_67 rfl rfl ?_
        refine J_imul dX11_read_68 ?_
        refine J_iconst (v := 2) dX11_read_69 ci_2 ?_
        refine J_iload_n 2 dX11_read_70 rfl rfl ?_
        refine J_imul dX11_read_71 ?_
        refine J_iadd dX11_read_72 ?_
        refine J_iconst (v := 1) dX11_read_73 ci_1 ?_
        refine J_iadd dX11_read_74 ?_
        refine lM_2 (v := (u.2 2 (((60 * x1) + (2 * x2)) + 1).toNatClampNeg)) h.1 rfl dX11_read_75 ?_
        have h := h.2
        refine JV_Wi kV_RX11_220 0 rM_0 rfl rfl (c_M_seen h) rfl rfl (by decide) (Nat.le_of_ble_eq_true rfl) dX11_read_76 (fun r3 u4 h => ?_)
        refine J_if_lt (tgt := 86) dX11_read_79 rfl (fun c => ?_) (fun c => ?_)
        · have h := h.1 c
          refine J_iconst (v := 0) dX11_read_86 ci_0 ?_
          exact J_sub (lv' := [(0, .ref (ad 0)), (1, .int x1), (2, .int x2)]) [0, 1, 2] rfl (t_M_read_b87 ih hX h)
        · have h := h.2 c
          refine J_iconst (v := 1) dX11_read_82 ci_1 ?_
          refine J_goto (tgt := 87) dX11_read_83 rfl ?_
          exact J_sub (lv' := [(0, .ref (ad 0)), (1, .int x1), (2, .int x2)]) [0, 1, 2] rfl (t_M_read_b87 ih hX h)
set_option maxRecDepth 20000 in
set_option maxHeartbeats 4000000 in
theorem c_M_read {u : Mem} {x1 : Int32} {Q : Int32 → Mem → Prop} (h : w_M_read x1 u Q) : MM l D ad cI cZ cS rs A0 yX11_read cX11_read 4 (some .int) 3 [.ref (ad 0), .int x1] u (jWi Q) := by
  unfold w_M_read at h
  refine JMet.of (by decide) (Nat.le_of_ble_eq_true rfl) ?_
  refine J_sub (lv' := [(0, .ref (ad 0)), (1, .int x1)]) [0, 1] rfl ?_
  show a_M_read l D ad cI cZ cS rs A0 (jWi Q) 0 [(0, .ref (ad 0)), (1, .int x1)] [] u
  refine J_iload_n 1 dX11_read_0 rfl rfl ?_
  refine JS_Ri kS_RX11_71 (c_M_isSheet h) rfl rfl (by decide) (Nat.le_of_ble_eq_true rfl) dX11_read_1 (fun r1 h => ?_)
  refine J_if_ne (tgt := 10) dX11_read_4 rfl (fun c => ?_) (fun c => ?_)
  · have h := h.1 c
    refine J_aload_n 0 dX11_read_10 rfl rfl ?_
    refine gM_0_0 dX11_read_11 ?_
    refine J_iload_n 1 dX11_read_14 rfl rfl ?_
    refine lM_0 (v := (u.2 0 x1.toNatClampNeg)) h.1 rfl dX11_read_15 ?_
    have h := h.2
    refine J_if_ge (tgt := 25) dX11_read_16 rfl (fun c => ?_) (fun c => ?_)
    · have h := h.1 c
      refine J_iconst (v := 0) dX11_read_25 ci_0 ?_
      refine J_istore_n (lv' := [(2, .int 0), (0, .ref (ad 0)), (1, .int x1)]) dX11_read_26 rfl (Nat.le_of_ble_eq_true rfl) rfl ?_
      refine J_iconst (v := 1) dX11_read_27 ci_1 ?_
      refine J_istore_n (lv' := [(3, .int 1), (2, .int 0), (0, .ref (ad 0)), (1, .int x1)]) dX11_read_28 rfl (Nat.le_of_ble_eq_true rfl) rfl ?_
      obtain ⟨n7, h⟩ := h
      refine J_sub (lv' := [(0, .ref (ad 0)), (1, .int x1), (2, .int 0), (3, .int 1)]) [2, 3, 1, 0] rfl (t_M_read_l29 ?_ n7 0 1 u h)
      · intro z5 u6 h
        refine J_iload_n 0 dX11_read_103 rfl rfl ?_
        exact J_iret rfl dX11_read_104 ⟨_, rfl, h⟩
    · have h := h.2 c
      refine J_aload_n 0 dX11_read_19 rfl rfl ?_
      refine J_iconst (v := 1) dX11_read_20 ci_1 ?_
      refine JV_Wi kV_RX11_77 0 rM_0 rfl rfl (c_M_met h) rfl rfl (by decide) (Nat.le_of_ble_eq_true rfl) dX11_read_21 (fun r8 u9 h => ?_)
      exact J_iret rfl dX11_read_24 ⟨_, rfl, h⟩
  · have h := h.2 c
    refine J_bipush (v := (-2)) dX11_read_7 cb_m2 ?_
    exact J_iret rfl dX11_read_9 ⟨_, rfl, h⟩
end
