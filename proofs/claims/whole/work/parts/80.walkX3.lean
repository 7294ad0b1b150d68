section
variable {l : Launch} {D : va_G} {ad : Nat → Nat} {cI cZ cS : ClassId} {rs : va_W} {A0 : Nat → Prop}
abbrev a_X_count (l : Launch) (D : va_G) (ad : Nat → Nat) (cI cZ cS : ClassId) (rs : va_W) (A0 : Nat → Prop) := AX l D ad cI cZ cS rs A0 cX10_count 2 (some .int) RX10 2
set_option maxRecDepth 20000 in
set_option maxHeartbeats 4000000 in
theorem c_X_count {u : Mem} {x1 : Int32} {Q : Int32 → Prop} (h : w_X_count x1 u Q) : MX l D ad cI cZ cS rs A0 yX10_count cX10_count 2 (some .int) 2 [.ref (ad 0), .int x1] u (jRi u Q) := by
  unfold w_X_count at h
  refine JMet.of (by decide) (Nat.le_of_ble_eq_true rfl) ?_
  refine J_sub (lv' := [(0, .ref (ad 0)), (1, .int x1)]) [0, 1] rfl ?_
  show a_X_count l D ad cI cZ cS rs A0 (jRi u Q) 0 [(0, .ref (ad 0)), (1, .int x1)] [] u
  refine J_iload_n 1 dX10_count_0 rfl rfl ?_
  rcases sw_0_8 x1 with c | c | c | c | c | c | c | c | c | c
  · have h := h.1 c
    refine J_tin (off := 51) (tgt := 52) dX10_count_1 (by rw [c]; decide) (by rw [c]; decide) (by rw [c]; rfl) rfl ?_
    refine J_aload_n 0 dX10_count_52 rfl rfl ?_
    refine gX_0_2 dX10_count_53 ?_
    refine JU_Ri kU_RX10_100_RX3 rfl 3 rX_3 rfl rfl (c_R_size_0 h) rfl rfl (by decide) (Nat.le_of_ble_eq_true rfl) dX10_count_56 (fun r1 h => ?_)
    exact J_iret rfl dX10_count_59 ⟨rfl, _, rfl, h⟩
  · have h := h.2.1 c
    refine J_tin (off := 59) (tgt := 60) dX10_count_1 (by rw [c]; decide) (by rw [c]; decide) (by rw [c]; rfl) rfl ?_
    refine J_aload_n 0 dX10_count_60 rfl rfl ?_
    refine gX_0_3 dX10_count_61 ?_
    refine JU_Ri kU_RX10_111_RX1 rfl 4 rX_4 rfl rfl (c_R_size_1 h) rfl rfl (by decide) (Nat.le_of_ble_eq_true rfl) dX10_count_64 (fun r3 h => ?_)
    exact J_iret rfl dX10_count_67 ⟨rfl, _, rfl, h⟩
  · have h := h.2.2.1 c
    refine J_tin (off := 67) (tgt := 68) dX10_count_1 (by rw [c]; decide) (by rw [c]; decide) (by rw [c]; rfl) rfl ?_
    refine J_aload_n 0 dX10_count_68 rfl rfl ?_
    refine gX_0_0 dX10_count_69 ?_
    refine JV_Ri kV_RX10_85 1 rX_1 rfl rfl (c_T_size_0 h) rfl rfl (by decide) (Nat.le_of_ble_eq_true rfl) dX10_count_72 (fun r5 h => ?_)
    exact J_iret rfl dX10_count_75 ⟨rfl, _, rfl, h⟩
  · have h := h.2.2.2.1 c
    refine J_tin (off := 75) (tgt := 76) dX10_count_1 (by rw [c]; decide) (by rw [c]; decide) (by rw [c]; rfl) rfl ?_
    refine J_aload_n 0 dX10_count_76 rfl rfl ?_
    refine gX_0_1 dX10_count_77 ?_
    refine JV_Ri kV_RX10_85 2 rX_2 rfl rfl (c_T_size_1 h) rfl rfl (by decide) (Nat.le_of_ble_eq_true rfl) dX10_count_80 (fun r7 h => ?_)
    exact J_iret rfl dX10_count_83 ⟨rfl, _, rfl, h⟩
  · have h := h.2.2.2.2.1 c
    refine J_tin (off := 83) (tgt := 84) dX10_count_1 (by rw [c]; decide) (by rw [c]; decide) (by rw [c]; rfl) rfl ?_
    refine J_aload_n 0 dX10_count_84 rfl rfl ?_
    refine gX_0_5 dX10_count_85 ?_
    refine JV_Ri kV_RX10_143 6 rX_6 rfl rfl (c_K_layings h) rfl rfl (by decide) (Nat.le_of_ble_eq_true rfl) dX10_count_88 (fun r9 h => ?_)
    exact J_iret rfl dX10_count_91 ⟨rfl, _, rfl, h⟩
  · have h := h.2.2.2.2.2.1 c
    refine J_tin (off := 91) (tgt := 92) dX10_count_1 (by rw [c]; decide) (by rw [c]; decide) (by rw [c]; rfl) rfl ?_
    refine J_aload_n 0 dX10_count_92 rfl rfl ?_
    refine gX_0_6 dX10_count_93 ?_
    refine JV_Ri kV_RX10_208 7 rX_7 rfl rfl (c_S_size h) rfl rfl (by decide) (Nat.le_of_ble_eq_true rfl) dX10_count_96 (fun r11 h => ?_)
    exact J_iret rfl dX10_count_99 ⟨rfl, _, rfl, h⟩
  · have h := h.2.2.2.2.2.2.1 c
    refine J_tin (off := 99) (tgt := 100) dX10_count_1 (by rw [c]; decide) (by rw [c]; decide) (by rw [c]; rfl) rfl ?_
    refine J_aload_n 0 dX10_count_100 rfl rfl ?_
    refine gX_0_2 dX10_count_101 ?_
    refine JV_Ri kV_RX10_279 3 rX_3 rfl rfl (c_L_plusCount h) rfl rfl (by decide) (Nat.le_of_ble_eq_true rfl) dX10_count_104 (fun r13 h => ?_)
    exact J_iret rfl dX10_count_107 ⟨rfl, _, rfl, h⟩
  · have h := h.2.2.2.2.2.2.2.1 c
    refine J_tin (off := 107) (tgt := 108) dX10_count_1 (by rw [c]; decide) (by rw [c]; decide) (by rw [c]; rfl) rfl ?_
    refine J_aload_n 0 dX10_count_108 rfl rfl ?_
    refine gX_0_5 dX10_count_109 ?_
    refine JV_Ri kV_RX10_117 6 rX_6 rfl rfl (c_K_firstSet h) rfl rfl (by decide) (Nat.le_of_ble_eq_true rfl) dX10_count_112 (fun r15 h => ?_)
    exact J_iret rfl dX10_count_115 ⟨rfl, _, rfl, h⟩
  · have h := h.2.2.2.2.2.2.2.2.1 c
    refine J_tin (off := 115) (tgt := 116) dX10_count_1 (by rw [c]; decide) (by rw [c]; decide) (by rw [c]; rfl) rfl ?_
    refine J_aload_n 0 dX10_count_116 rfl rfl ?_
    refine gX_0_9 (v := (u.1 1)) rfl dX10_count_117 ?_
    exact J_iret rfl dX10_count_120 ⟨rfl, _, rfl, h⟩
  · have h := h.2.2.2.2.2.2.2.2.2 c
    refine J_tout (tgt := 121) dX10_count_1 c rfl ?_
    refine J_bipush (v := (-2)) dX10_count_121 cb_m2 ?_
    exact J_iret rfl dX10_count_123 ⟨rfl, _, rfl, h⟩
abbrev a_X_mix (l : Launch) (D : va_G) (ad : Nat → Nat) (cI cZ cS : ClassId) (rs : va_W) (A0 : Nat → Prop) := AX l D ad cI cZ cS rs A0 cX10_mix 4 (some .long) RX10 0
set_option maxRecDepth 20000 in
set_option maxHeartbeats 4000000 in
theorem c_X_mix {u : Mem} {x0 : Int64} {x2 : Int64} {Q : Int64 → Prop} (h : w_X_mix x0 x2 Q) : MX l D ad cI cZ cS rs A0 yX10_mix cX10_mix 4 (some .long) 0 [.long x0, .long x2] u (jRl u Q) := by
  unfold w_X_mix at h
  refine JMet.of (by decide) (Nat.le_of_ble_eq_true rfl) ?_
  refine J_sub (lv' := [(0, .long x0), (2, .long x2)]) [0, 1] rfl ?_
  show a_X_mix l D ad cI cZ cS rs A0 (jRl u Q) 0 [(0, .long x0), (2, .long x2)] [] u
  refine J_ldc2 (v := 31) dX10_mix_0 kk_RX10_358 ?_
  refine J_lload_n 0 dX10_mix_3 rfl rfl ?_
  refine J_lmul dX10_mix_4 ?_
  refine J_lload_n 1 dX10_mix_5 rfl rfl ?_
  refine J_ladd dX10_mix_6 ?_
  exact J_lret rfl dX10_mix_7 ⟨rfl, _, rfl, h⟩
abbrev a_X_digestTexts (l : Launch) (D : va_G) (ad : Nat → Nat) (cI cZ cS : ClassId) (rs : va_W) (A0 : Nat → Prop) := AX l D ad cI cZ cS rs A0 cX10_digestTexts 6 (some .long) RX10 3
set_option maxRecDepth 20000 in
set_option maxHeartbeats 4000000 in
theorem t_X_digestTexts_l5 {u : Mem}  {X : Int64 → Prop} {Q : Int64 → Prop} (hX : ∀ (x3 : Int64), X x3 → a_X_digestTexts l D ad cI cZ cS rs A0 (jRl u Q) 30 [(0, .ref (ad 0)), (3, .long x3)] [] u) : ∀ (n : Nat) (x3 : Int64) (x5 : Int32), w_X_digestTexts_l5 X u Q n x3 x5 → a_X_digestTexts l D ad cI cZ cS rs A0 (jRl u Q) 5 [(0, .ref (ad 0)), (3, .long x3), (5, .int x5)] [] u := by
  intro n
  induction n with
  | zero =>
    intro x3 x5 h
    exact (by simp only [w_X_digestTexts_l5] at h : False).elim
  | succ n ih =>
    intro x3 x5 h
    rw [w_X_digestTexts_l5] at h
    refine J_iload 2 dX10_digestTexts_5 rfl ?_
    refine J_bipush (v := 8) dX10_digestTexts_7 cb_8 ?_
    refine J_icmp_ge (tgt := 30) dX10_digestTexts_9 rfl (fun c => ?_) (fun c => ?_)
    · have h := h.1 c
      exact J_sub (lv' := [(0, .ref (ad 0)), (3, .long x3)]) [0, 1] rfl (hX x3 h)
    · have h := h.2 c
      refine J_lload_n 1 dX10_digestTexts_12 rfl rfl ?_
      refine J_aload_n 0 dX10_digestTexts_13 rfl rfl ?_
      refine J_iload 2 dX10_digestTexts_14 rfl ?_
      refine JV_Ri kV_RX10_324 0 rX_0 rfl rfl (c_X_count h) rfl rfl (by decide) (Nat.le_of_ble_eq_true rfl) dX10_digestTexts_16 (fun r1 h => ?_)
      refine J_i2l dX10_digestTexts_19 ?_
      refine JS_Rl kS_RX10_291 (c_X_mix h) rfl rfl (by decide) (Nat.le_of_ble_eq_true rfl) dX10_digestTexts_20 (fun r3 h => ?_)
      refine J_lstore_n (lv' := [(3, .long r3), (0, .ref (ad 0)), (5, .int x5)]) dX10_digestTexts_23 rfl (Nat.le_of_ble_eq_true rfl) rfl ?_
      refine J_iinc (v := (x5 + 1)) (lv' := [(5, .int (x5 + 1)), (3, .long r3), (0, .ref (ad 0))]) 2 dX10_digestTexts_24 rfl rfl (Nat.le_of_ble_eq_true rfl) rfl ?_
      refine J_goto (tgt := 5) dX10_digestTexts_27 rfl ?_
      exact J_sub (lv' := [(0, .ref (ad 0)), (3, .long r3), (5, .int (x5 + 1))]) [2, 1, 0] rfl (ih r3 (x5 + 1) h)
set_option maxRecDepth 20000 in
set_option maxHeartbeats 4000000 in
theorem t_X_digestTexts_l55 {u : Mem}  {X : Int64 → Prop} {Q : Int64 → Prop} (hX : ∀ (x3 : Int64), X x3 → a_X_digestTexts l D ad cI cZ cS rs A0 (jRl u Q) 112 [(0, .ref (ad 0)), (3, .long x3)] [] u) : ∀ (n : Nat) (x3 : Int64) (x5 : Int32), w_X_digestTexts_l55 X u Q n x3 x5 → a_X_digestTexts l D ad cI cZ cS rs A0 (jRl u Q) 55 [(0, .ref (ad 0)), (3, .long x3), (5, .int x5)] [] u := by
  intro n
  induction n with
  | zero =>
    intro x3 x5 h
    exact (by simp only [w_X_digestTexts_l55] at h : False).elim
  | succ n ih =>
    intro x3 x5 h
    rw [w_X_digestTexts_l55] at h
    refine J_iload 2 dX10_digestTexts_55 rfl ?_
    refine J_aload_n 0 dX10_digestTexts_57 rfl rfl ?_
    refine gX_0_2 dX10_digestTexts_58 ?_
    refine JU_Ri kU_RX10_100_RX3 rfl 3 rX_3 rfl rfl (c_R_size_0 h) rfl rfl (by decide) (Nat.le_of_ble_eq_true rfl) dX10_digestTexts_61 (fun r14 h => ?_)
    refine J_icmp_ge (tgt := 112) dX10_digestTexts_64 rfl (fun c => ?_) (fun c => ?_)
    · have h := h.1 c
      exact J_sub (lv' := [(0, .ref (ad 0)), (3, .long x3)]) [0, 1] rfl (hX x3 h)
    · have h := h.2 c
      refine J_lload_n 1 dX10_digestTexts_67 rfl rfl ?_
      refine J_aload_n 0 dX10_digestTexts_68 rfl rfl ?_
      refine J_iload 2 dX10_digestTexts_69 rfl ?_
      refine J_iconst (v := 0) dX10_digestTexts_71 ci_0 ?_
      refine JV_Ri kV_RX10_330 0 rX_0 rfl rfl (c_X_rule h) rfl rfl (by decide) (Nat.le_of_ble_eq_true rfl) dX10_digestTexts_72 (fun r16 h => ?_)
      refine J_i2l dX10_digestTexts_75 ?_
      refine JS_Rl kS_RX10_291 (c_X_mix h) rfl rfl (by decide) (Nat.le_of_ble_eq_true rfl) dX10_digestTexts_76 (fun r18 h => ?_)
      refine J_lstore_n (lv' := [(3, .long r18), (0, .ref (ad 0)), (5, .int x5)]) dX10_digestTexts_79 rfl (Nat.le_of_ble_eq_true rfl) rfl ?_
      refine J_lload_n 0 dX10_digestTexts_80 rfl rfl ?_
      refine J_aload_n 1 dX10_digestTexts_81 rfl rfl ?_
      refine J_iload 2 dX10_digestTexts_82 rfl ?_
      refine J_iconst (v := 1) dX10_digestTexts_84 ci_1 ?_
      refine JV_Ri kV_RX10_330 0 rX_0 rfl rfl (c_X_rule h) rfl rfl (by decide) (Nat.le_of_ble_eq_true rfl) dX10_digestTexts_85 (fun r20 h => ?_)
      refine J_i2l dX10_digestTexts_88 ?_
      refine JS_Rl kS_RX10_291 (c_X_mix h) rfl rfl (by decide) (Nat.le_of_ble_eq_true rfl) dX10_digestTexts_89 (fun r22 h => ?_)
      refine J_lstore_n (lv' := [(3, .long r22), (0, .ref (ad 0)), (5, .int x5)]) dX10_digestTexts_92 rfl (Nat.le_of_ble_eq_true rfl) rfl ?_
      refine J_lload_n 0 dX10_digestTexts_93 rfl rfl ?_
      refine J_aload_n 1 dX10_digestTexts_94 rfl rfl ?_
      refine J_iload 2 dX10_digestTexts_95 rfl ?_
      refine J_iconst (v := 2) dX10_digestTexts_97 ci_2 ?_
      refine JV_Ri kV_RX10_330 0 rX_0 rfl rfl (c_X_rule h) rfl rfl (by decide) (Nat.le_of_ble_eq_true rfl) dX10_digestTexts_98 (fun r24 h => ?_)
      refine J_i2l dX10_digestTexts_101 ?_
      refine JS_Rl kS_RX10_291 (c_X_mix h) rfl rfl (by decide) (Nat.le_of_ble_eq_true rfl) dX10_digestTexts_102 (fun r26 h => ?_)
      refine J_lstore_n (lv' := [(3, .long r26), (0, .ref (ad 0)), (5, .int x5)]) dX10_digestTexts_105 rfl (Nat.le_of_ble_eq_true rfl) rfl ?_
      refine J_iinc (v := (x5 + 1)) (lv' := [(5, .int (x5 + 1)), (3, .long r26), (0, .ref (ad 0))]) 2 dX10_digestTexts_106 rfl rfl (Nat.le_of_ble_eq_true rfl) rfl ?_
      refine J_goto (tgt := 55) dX10_digestTexts_109 rfl ?_
      exact J_sub (lv' := [(0, .ref (ad 0)), (3, .long r26), (5, .int (x5 + 1))]) [2, 1, 0] rfl (ih r26 (x5 + 1) h)
set_option maxRecDepth 20000 in
set_option maxHeartbeats 4000000 in
theorem t_X_digestTexts_l115 {u : Mem}  {X : Int64 → Prop} {Q : Int64 → Prop} (hX : ∀ (x3 : Int64), X x3 → a_X_digestTexts l D ad cI cZ cS rs A0 (jRl u Q) 159 [(3, .long x3)] [] u) : ∀ (n : Nat) (x3 : Int64) (x5 : Int32), w_X_digestTexts_l115 X u Q n x3 x5 → a_X_digestTexts l D ad cI cZ cS rs A0 (jRl u Q) 115 [(0, .ref (ad 0)), (3, .long x3), (5, .int x5)] [] u := by
  intro n
  induction n with
  | zero =>
    intro x3 x5 h
    exact (by simp only [w_X_digestTexts_l115] at h : False).elim
  | succ n ih =>
    intro x3 x5 h
    rw [w_X_digestTexts_l115] at h
    refine J_iload 2 dX10_digestTexts_115 rfl ?_
    refine J_aload_n 0 dX10_digestTexts_117 rfl rfl ?_
    refine gX_0_3 dX10_digestTexts_118 ?_
    refine JU_Ri kU_RX10_111_RX1 rfl 4 rX_4 rfl rfl (c_R_size_1 h) rfl rfl (by decide) (Nat.le_of_ble_eq_true rfl) dX10_digestTexts_121 (fun r29 h => ?_)
    refine J_icmp_ge (tgt := 159) dX10_digestTexts_124 rfl (fun c => ?_) (fun c => ?_)
    · have h := h.1 c
      exact J_sub (lv' := [(3, .long x3)]) [1] rfl (hX x3 h)
    · have h := h.2 c
      refine J_lload_n 1 dX10_digestTexts_127 rfl rfl ?_
      refine J_aload_n 0 dX10_digestTexts_128 rfl rfl ?_
      refine J_iload 2 dX10_digestTexts_129 rfl ?_
      refine J_iconst (v := 0) dX10_digestTexts_131 ci_0 ?_
      refine JV_Ri kV_RX10_333 0 rX_0 rfl rfl (c_X_dust h) rfl rfl (by decide) (Nat.le_of_ble_eq_true rfl) dX10_digestTexts_132 (fun r31 h => ?_)
      refine J_i2l dX10_digestTexts_135 ?_
      refine JS_Rl kS_RX10_291 (c_X_mix h) rfl rfl (by decide) (Nat.le_of_ble_eq_true rfl) dX10_digestTexts_136 (fun r33 h => ?_)
      refine J_lstore_n (lv' := [(3, .long r33), (0, .ref (ad 0)), (5, .int x5)]) dX10_digestTexts_139 rfl (Nat.le_of_ble_eq_true rfl) rfl ?_
      refine J_lload_n 0 dX10_digestTexts_140 rfl rfl ?_
      refine J_aload_n 1 dX10_digestTexts_141 rfl rfl ?_
      refine J_iload 2 dX10_digestTexts_142 rfl ?_
      refine J_iconst (v := 1) dX10_digestTexts_144 ci_1 ?_
      refine JV_Ri kV_RX10_333 0 rX_0 rfl rfl (c_X_dust h) rfl rfl (by decide) (Nat.le_of_ble_eq_true rfl) dX10_digestTexts_145 (fun r35 h => ?_)
      refine J_i2l dX10_digestTexts_148 ?_
      refine JS_Rl kS_RX10_291 (c_X_mix h) rfl rfl (by decide) (Nat.le_of_ble_eq_true rfl) dX10_digestTexts_149 (fun r37 h => ?_)
      refine J_lstore_n (lv' := [(3, .long r37), (0, .ref (ad 0)), (5, .int x5)]) dX10_digestTexts_152 rfl (Nat.le_of_ble_eq_true rfl) rfl ?_
      refine J_iinc (v := (x5 + 1)) (lv' := [(5, .int (x5 + 1)), (3, .long r37), (0, .ref (ad 0))]) 2 dX10_digestTexts_153 rfl rfl (Nat.le_of_ble_eq_true rfl) rfl ?_
      refine J_goto (tgt := 115) dX10_digestTexts_156 rfl ?_
      exact J_sub (lv' := [(0, .ref (ad 0)), (3, .long r37), (5, .int (x5 + 1))]) [2, 1, 0] rfl (ih r37 (x5 + 1) h)
set_option maxRecDepth 20000 in
set_option maxHeartbeats 4000000 in
theorem c_X_digestTexts {u : Mem} {x1 : Int64} {Q : Int64 → Prop} (h : w_X_digestTexts x1 u Q) : MX l D ad cI cZ cS rs A0 yX10_digestTexts cX10_digestTexts 6 (some .long) 3 [.ref (ad 0), .long x1] u (jRl u Q) := by
  unfold w_X_digestTexts at h
  refine JMet.of (by decide) (Nat.le_of_ble_eq_true rfl) ?_
  refine J_sub (lv' := [(0, .ref (ad 0)), (1, .long x1)]) [0, 1] rfl ?_
  show a_X_digestTexts l D ad cI cZ cS rs A0 (jRl u Q) 0 [(0, .ref (ad 0)), (1, .long x1)] [] u
  refine J_lload_n 1 dX10_digestTexts_0 rfl rfl ?_
  refine J_lstore_n (lv' := [(3, .long x1), (0, .ref (ad 0)), (1, .long x1)]) dX10_digestTexts_1 rfl (Nat.le_of_ble_eq_true rfl) rfl ?_
  refine J_iconst (v := 0) dX10_digestTexts_2 ci_0 ?_
  refine J_istore (lv' := [(5, .int 0), (3, .long x1), (0, .ref (ad 0)), (1, .long x1)]) dX10_digestTexts_3 (Nat.le_of_ble_eq_true rfl) rfl ?_
  obtain ⟨n42, h⟩ := h
  refine J_sub (lv' := [(0, .ref (ad 0)), (3, .long x1), (5, .int 0)]) [2, 1, 0] rfl (t_X_digestTexts_l5 ?_ n42 x1 0 h)
  · intro z5 h
    refine J_lload_n 1 dX10_digestTexts_30 rfl rfl ?_
    refine J_aload_n 0 dX10_digestTexts_31 rfl rfl ?_
    refine J_iconst (v := 0) dX10_digestTexts_32 ci_0 ?_
    refine JV_Ri kV_RX10_327 0 rX_0 rfl rfl (c_X_fault h) rfl rfl (by decide) (Nat.le_of_ble_eq_true rfl) dX10_digestTexts_33 (fun r6 h => ?_)
    refine J_i2l dX10_digestTexts_36 ?_
    refine JS_Rl kS_RX10_291 (c_X_mix h) rfl rfl (by decide) (Nat.le_of_ble_eq_true rfl) dX10_digestTexts_37 (fun r8 h => ?_)
    refine J_lstore_n (lv' := [(3, .long r8), (0, .ref (ad 0))]) dX10_digestTexts_40 rfl (Nat.le_of_ble_eq_true rfl) rfl ?_
    refine J_lload_n 0 dX10_digestTexts_41 rfl rfl ?_
    refine J_aload_n 1 dX10_digestTexts_42 rfl rfl ?_
    refine J_iconst (v := 1) dX10_digestTexts_43 ci_1 ?_
    refine JV_Ri kV_RX10_327 0 rX_0 rfl rfl (c_X_fault h) rfl rfl (by decide) (Nat.le_of_ble_eq_true rfl) dX10_digestTexts_44 (fun r10 h => ?_)
    refine J_i2l dX10_digestTexts_47 ?_
    refine JS_Rl kS_RX10_291 (c_X_mix h) rfl rfl (by decide) (Nat.le_of_ble_eq_true rfl) dX10_digestTexts_48 (fun r12 h => ?_)
    refine J_lstore_n (lv' := [(3, .long r12), (0, .ref (ad 0))]) dX10_digestTexts_51 rfl (Nat.le_of_ble_eq_true rfl) rfl ?_
    refine J_iconst (v := 0) dX10_digestTexts_52 ci_0 ?_
    refine J_istore (lv' := [(5, .int 0), (3, .long r12), (0, .ref (ad 0))]) dX10_digestTexts_53 (Nat.le_of_ble_eq_true rfl) rfl ?_
    obtain ⟨n41, h⟩ := h
    refine J_sub (lv' := [(0, .ref (ad 0)), (3, .long r12), (5, .int 0)]) [2, 1, 0] rfl (t_X_digestTexts_l55 ?_ n41 r12 0 h)
    · intro z28 h
      refine J_iconst (v := 0) dX10_digestTexts_112 ci_0 ?_
      refine J_istore (lv' := [(5, .int 0), (0, .ref (ad 0)), (3, .long z28)]) dX10_digestTexts_113 (Nat.le_of_ble_eq_true rfl) rfl ?_
      obtain ⟨n40, h⟩ := h
      refine J_sub (lv' := [(0, .ref (ad 0)), (3, .long z28), (5, .int 0)]) [1, 2, 0] rfl (t_X_digestTexts_l115 ?_ n40 z28 0 h)
      · intro z39 h
        refine J_lload_n 0 dX10_digestTexts_159 rfl rfl ?_
        exact J_lret rfl dX10_digestTexts_160 ⟨rfl, _, rfl, h⟩
abbrev a_X_digestBig (l : Launch) (D : va_G) (ad : Nat → Nat) (cI cZ cS : ClassId) (rs : va_W) (A0 : Nat → Prop) := AX l D ad cI cZ cS rs A0 cX10_digestBig 6 (some .long) RX10 8
set_option maxRecDepth 20000 in
set_option maxHeartbeats 4000000 in
theorem c_X_digestBig {u : Mem} {x1 : Int64} {x3 : Int32} {Q : Int64 → Mem → Prop} (h : w_X_digestBig x1 x3 u Q) : MX l D ad cI cZ cS rs A0 yX10_digestBig cX10_digestBig 6 (some .long) 8 [.ref (ad 0), .long x1, .int x3] u (jWl Q) := by
  unfold w_X_digestBig at h
  refine JMet.of (by decide) (Nat.le_of_ble_eq_true rfl) ?_
  refine J_sub (lv' := [(0, .ref (ad 0)), (1, .long x1), (3, .int x3)]) [0, 1, 2] rfl ?_
  show a_X_digestBig l D ad cI cZ cS rs A0 (jWl Q) 0 [(0, .ref (ad 0)), (1, .long x1), (3, .int x3)] [] u
  refine J_lload_n 1 dX10_digestBig_0 rfl rfl ?_
  refine J_lstore (lv' := [(4, .long x1), (0, .ref (ad 0)), (1, .long x1), (3, .int x3)]) dX10_digestBig_1 (Nat.le_of_ble_eq_true rfl) rfl ?_
  refine J_lload 0 dX10_digestBig_3 rfl ?_
  refine J_aload_n 1 dX10_digestBig_5 rfl rfl ?_
  refine J_iconst (v := 3) dX10_digestBig_6 ci_3 ?_
  refine J_iload_n 3 dX10_digestBig_7 rfl rfl ?_
  refine J_iconst (v := 0) dX10_digestBig_8 ci_0 ?_
  refine JV_Wi kV_RX10_336 0 rX_0 rfl rfl (c_X_keepOff h) rfl rfl (by decide) (Nat.le_of_ble_eq_true rfl) dX10_digestBig_9 (fun r1 u2 h => ?_)
  refine J_i2l dX10_digestBig_12 ?_
  refine JS_Rl kS_RX10_291 (c_X_mix h) rfl rfl (by decide) (Nat.le_of_ble_eq_true rfl) dX10_digestBig_13 (fun r3 h => ?_)
  refine J_lstore (lv' := [(4, .long r3), (0, .ref (ad 0)), (1, .long x1), (3, .int x3)]) dX10_digestBig_16 (Nat.le_of_ble_eq_true rfl) rfl ?_
  refine J_lload 0 dX10_digestBig_18 rfl ?_
  refine J_aload_n 1 dX10_digestBig_20 rfl rfl ?_
  refine J_iconst (v := 3) dX10_digestBig_21 ci_3 ?_
  refine J_iload_n 3 dX10_digestBig_22 rfl rfl ?_
  refine J_iconst (v := 1) dX10_digestBig_23 ci_1 ?_
  refine JV_Wi kV_RX10_336 0 rX_0 rfl rfl (c_X_keepOff h) rfl rfl (by decide) (Nat.le_of_ble_eq_true rfl) dX10_digestBig_24 (fun r5 u6 h => ?_)
  refine J_i2l dX10_digestBig_27 ?_
  refine JS_Rl kS_RX10_291 (c_X_mix h) rfl rfl (by decide) (Nat.le_of_ble_eq_true rfl) dX10_digestBig_28 (fun r7 h => ?_)
  refine J_lstore (lv' := [(4, .long r7), (0, .ref (ad 0)), (1, .long x1), (3, .int x3)]) dX10_digestBig_31 (Nat.le_of_ble_eq_true rfl) rfl ?_
  refine J_lload 0 dX10_digestBig_33 rfl ?_
  refine J_aload_n 1 dX10_digestBig_35 rfl rfl ?_
  refine J_iload_n 3 dX10_digestBig_36 rfl rfl ?_
  refine JV_Wi kV_RX10_339 0 rX_0 rfl rfl (c_X_bars h) rfl rfl (by decide) (Nat.le_of_ble_eq_true rfl) dX10_digestBig_37 (fun r9 u10 h => ?_)
  refine J_i2l dX10_digestBig_40 ?_
  refine JS_Rl kS_RX10_291 (c_X_mix h) rfl rfl (by decide) (Nat.le_of_ble_eq_true rfl) dX10_digestBig_41 (fun r11 h => ?_)
  refine J_lstore (lv' := [(4, .long r11), (0, .ref (ad 0)), (1, .long x1), (3, .int x3)]) dX10_digestBig_44 (Nat.le_of_ble_eq_true rfl) rfl ?_
  refine J_lload 0 dX10_digestBig_46 rfl ?_
  refine J_aload_n 1 dX10_digestBig_48 rfl rfl ?_
  refine J_iconst (v := 2) dX10_digestBig_49 ci_2 ?_
  refine J_iload_n 3 dX10_digestBig_50 rfl rfl ?_
  refine J_iconst (v := 0) dX10_digestBig_51 ci_0 ?_
  refine JV_Wi kV_RX10_342 0 rX_0 rfl rfl (c_X_play h) rfl rfl (by decide) (Nat.le_of_ble_eq_true rfl) dX10_digestBig_52 (fun r13 u14 h => ?_)
  refine J_i2l dX10_digestBig_55 ?_
  refine JS_Rl kS_RX10_291 (c_X_mix h) rfl rfl (by decide) (Nat.le_of_ble_eq_true rfl) dX10_digestBig_56 (fun r15 h => ?_)
  refine J_lstore (lv' := [(4, .long r15), (0, .ref (ad 0)), (1, .long x1), (3, .int x3)]) dX10_digestBig_59 (Nat.le_of_ble_eq_true rfl) rfl ?_
  refine J_lload 0 dX10_digestBig_61 rfl ?_
  refine J_aload_n 1 dX10_digestBig_63 rfl rfl ?_
  refine J_iconst (v := 2) dX10_digestBig_64 ci_2 ?_
  refine J_iload_n 3 dX10_digestBig_65 rfl rfl ?_
  refine J_iconst (v := 1) dX10_digestBig_66 ci_1 ?_
  refine JV_Wi kV_RX10_342 0 rX_0 rfl rfl (c_X_play h) rfl rfl (by decide) (Nat.le_of_ble_eq_true rfl) dX10_digestBig_67 (fun r17 u18 h => ?_)
  refine J_i2l dX10_digestBig_70 ?_
  refine JS_Rl kS_RX10_291 (c_X_mix h) rfl rfl (by decide) (Nat.le_of_ble_eq_true rfl) dX10_digestBig_71 (fun r19 h => ?_)
  refine J_lstore (lv' := [(4, .long r19), (0, .ref (ad 0)), (1, .long x1), (3, .int x3)]) dX10_digestBig_74 (Nat.le_of_ble_eq_true rfl) rfl ?_
  refine J_lload 0 dX10_digestBig_76 rfl ?_
  refine J_aload_n 1 dX10_digestBig_78 rfl rfl ?_
  refine J_iload_n 3 dX10_digestBig_79 rfl rfl ?_
  refine J_iconst (v := 0) dX10_digestBig_80 ci_0 ?_
  refine JV_Ri kV_RX10_345 0 rX_0 rfl rfl (c_X_stands h) rfl rfl (by decide) (Nat.le_of_ble_eq_true rfl) dX10_digestBig_81 (fun r21 h => ?_)
  refine J_i2l dX10_digestBig_84 ?_
  refine JS_Rl kS_RX10_291 (c_X_mix h) rfl rfl (by decide) (Nat.le_of_ble_eq_true rfl) dX10_digestBig_85 (fun r23 h => ?_)
  refine J_lstore (lv' := [(4, .long r23), (0, .ref (ad 0)), (1, .long x1), (3, .int x3)]) dX10_digestBig_88 (Nat.le_of_ble_eq_true rfl) rfl ?_
  refine J_lload 0 dX10_digestBig_90 rfl ?_
  refine J_aload_n 1 dX10_digestBig_92 rfl rfl ?_
  refine J_iload_n 3 dX10_digestBig_93 rfl rfl ?_
  refine J_iconst (v := 1) dX10_digestBig_94 ci_1 ?_
  refine JV_Ri kV_RX10_345 0 rX_0 rfl rfl (c_X_stands h) rfl rfl (by decide) (Nat.le_of_ble_eq_true rfl) dX10_digestBig_95 (fun r25 h => ?_)
  refine J_i2l dX10_digestBig_98 ?_
  refine JS_Rl kS_RX10_291 (c_X_mix h) rfl rfl (by decide) (Nat.le_of_ble_eq_true rfl) dX10_digestBig_99 (fun r27 h => ?_)
  refine J_lstore (lv' := [(4, .long r27), (0, .ref (ad 0)), (1, .long x1), (3, .int x3)]) dX10_digestBig_102 (Nat.le_of_ble_eq_true rfl) rfl ?_
  refine J_lload 0 dX10_digestBig_104 rfl ?_
  refine J_aload_n 1 dX10_digestBig_106 rfl rfl ?_
  refine J_iload_n 3 dX10_digestBig_107 rfl rfl ?_
  refine JV_Ri kV_RX10_348 0 rX_0 rfl rfl (c_X_watch h) rfl rfl (by decide) (Nat.le_of_ble_eq_true rfl) dX10_digestBig_108 (fun r29 h => ?_)
  refine J_i2l dX10_digestBig_111 ?_
  refine JS_Rl kS_RX10_291 (c_X_mix h) rfl rfl (by decide) (Nat.le_of_ble_eq_true rfl) dX10_digestBig_112 (fun r31 h => ?_)
  refine J_lstore (lv' := [(4, .long r31), (0, .ref (ad 0)), (1, .long x1), (3, .int x3)]) dX10_digestBig_115 (Nat.le_of_ble_eq_true rfl) rfl ?_
  refine J_lload 0 dX10_digestBig_117 rfl ?_
  refine J_aload_n 1 dX10_digestBig_119 rfl rfl ?_
  refine J_iconst (v := 4) dX10_digestBig_120 ci_4 ?_
  refine J_iload_n 3 dX10_digestBig_121 rfl rfl ?_
  refine J_iconst (v := 0) dX10_digestBig_122 ci_0 ?_
  refine JV_Wl kV_RX10_351 0 rX_0 rfl rfl (c_X_cat h) rfl rfl (by decide) (Nat.le_of_ble_eq_true rfl) dX10_digestBig_123 (fun r33 u34 h => ?_)
  refine JS_Rl kS_RX10_291 (c_X_mix h) rfl rfl (by decide) (Nat.le_of_ble_eq_true rfl) dX10_digestBig_126 (fun r35 h => ?_)
  refine J_lstore (lv' := [(4, .long r35), (0, .ref (ad 0)), (1, .long x1), (3, .int x3)]) dX10_digestBig_129 (Nat.le_of_ble_eq_true rfl) rfl ?_
  refine J_lload 0 dX10_digestBig_131 rfl ?_
  refine J_aload_n 1 dX10_digestBig_133 rfl rfl ?_
  refine J_iconst (v := 4) dX10_digestBig_134 ci_4 ?_
  refine J_iload_n 3 dX10_digestBig_135 rfl rfl ?_
  refine J_iconst (v := 1) dX10_digestBig_136 ci_1 ?_
  refine JV_Wl kV_RX10_351 0 rX_0 rfl rfl (c_X_cat h) rfl rfl (by decide) (Nat.le_of_ble_eq_true rfl) dX10_digestBig_137 (fun r37 u38 h => ?_)
  refine JS_Rl kS_RX10_291 (c_X_mix h) rfl rfl (by decide) (Nat.le_of_ble_eq_true rfl) dX10_digestBig_140 (fun r39 h => ?_)
  refine J_lstore (lv' := [(4, .long r39), (0, .ref (ad 0)), (1, .long x1), (3, .int x3)]) dX10_digestBig_143 (Nat.le_of_ble_eq_true rfl) rfl ?_
  refine J_lload 0 dX10_digestBig_145 rfl ?_
  refine J_aload_n 1 dX10_digestBig_147 rfl rfl ?_
  refine J_iconst (v := 4) dX10_digestBig_148 ci_4 ?_
  refine J_iload_n 3 dX10_digestBig_149 rfl rfl ?_
  refine JV_Wi kV_RX10_355 0 rX_0 rfl rfl (c_X_let h) rfl rfl (by decide) (Nat.le_of_ble_eq_true rfl) dX10_digestBig_150 (fun r41 u42 h => ?_)
  refine J_i2l dX10_digestBig_153 ?_
  refine JS_Rl kS_RX10_291 (c_X_mix h) rfl rfl (by decide) (Nat.le_of_ble_eq_true rfl) dX10_digestBig_154 (fun r43 h => ?_)
  refine J_lstore (lv' := [(4, .long r43), (0, .ref (ad 0)), (1, .long x1), (3, .int x3)]) dX10_digestBig_157 (Nat.le_of_ble_eq_true rfl) rfl ?_
  refine J_lload 0 dX10_digestBig_159 rfl ?_
  exact J_lret rfl dX10_digestBig_161 ⟨_, rfl, h⟩
abbrev a_X_digest (l : Launch) (D : va_G) (ad : Nat → Nat) (cI cZ cS : ClassId) (rs : va_W) (A0 : Nat → Prop) := AX l D ad cI cZ cS rs A0 cX10_digest 5 (some .long) RX10 9
set_option maxRecDepth 20000 in
set_option maxHeartbeats 4000000 in
theorem t_X_digest_b26 {u : Mem} {R : Int64 → Int32 → Mem → Prop} {X : Int64 → Mem → Prop} {x1 : Int64} {x3 : Int32} {s0 : Int32} {Q : Int64 → Mem → Prop} (hR : ∀ (z1 : Int64) (z3 : Int32) (u : Mem), R z1 z3 u → a_X_digest l D ad cI cZ cS rs A0 (jWl Q) 10 [(0, .ref (ad 0)), (1, .long z1), (3, .int z3)] [] u) (hX : ∀ (z1 : Int64) (u : Mem), X z1 u → a_X_digest l D ad cI cZ cS rs A0 (jWl Q) 60 [(0, .ref (ad 0)), (1, .long z1)] [] u) (h : w_X_digest_b26 R X x1 x3 s0 u Q) : a_X_digest l D ad cI cZ cS rs A0 (jWl Q) 26 [(0, .ref (ad 0)), (1, .long x1), (3, .int x3)] [.int s0] u := by
  unfold w_X_digest_b26 at h
  refine J_istore (lv' := [(4, .int s0), (0, .ref (ad 0)), (1, .long x1), (3, .int x3)]) dX10_digest_26 (Nat.le_of_ble_eq_true rfl) rfl ?_
  refine J_lload_n 2 dX10_digest_28 rfl rfl ?_
  refine J_aload_n 1 dX10_digest_29 rfl rfl ?_
  refine J_iload 0 dX10_digest_30 rfl ?_
  refine J_iconst (v := 0) dX10_digest_32 ci_0 ?_
  refine JV_Wi kV_RX10_288 0 rX_0 rfl rfl (c_X_week h) rfl rfl (by decide) (Nat.le_of_ble_eq_true rfl) dX10_digest_33 (fun r3 u4 h => ?_)
  refine J_i2l dX10_digest_36 ?_
  refine JS_Rl kS_RX10_291 (c_X_mix h) rfl rfl (by decide) (Nat.le_of_ble_eq_true rfl) dX10_digest_37 (fun r5 h => ?_)
  refine J_lstore_n (lv' := [(1, .long r5), (4, .int s0), (0, .ref (ad 0)), (3, .int x3)]) dX10_digest_40 rfl (Nat.le_of_ble_eq_true rfl) rfl ?_
  refine J_lload_n 0 dX10_digest_41 rfl rfl ?_
  refine J_aload_n 2 dX10_digest_42 rfl rfl ?_
  refine J_iload 1 dX10_digest_43 rfl ?_
  refine J_iconst (v := 1) dX10_digest_45 ci_1 ?_
  refine JV_Wi kV_RX10_288 0 rX_0 rfl rfl (c_X_week h) rfl rfl (by decide) (Nat.le_of_ble_eq_true rfl) dX10_digest_46 (fun r7 u8 h => ?_)
  refine J_i2l dX10_digest_49 ?_
  refine JS_Rl kS_RX10_291 (c_X_mix h) rfl rfl (by decide) (Nat.le_of_ble_eq_true rfl) dX10_digest_50 (fun r9 h => ?_)
  refine J_lstore_n (lv' := [(1, .long r9), (4, .int s0), (0, .ref (ad 0)), (3, .int x3)]) dX10_digest_53 rfl (Nat.le_of_ble_eq_true rfl) rfl ?_
  refine J_iinc (v := (x3 + 1)) (lv' := [(3, .int (x3 + 1)), (1, .long r9), (4, .int s0), (0, .ref (ad 0))]) 3 dX10_digest_54 rfl rfl (Nat.le_of_ble_eq_true rfl) rfl ?_
  refine J_goto (tgt := 10) dX10_digest_57 rfl ?_
  exact J_sub (lv' := [(0, .ref (ad 0)), (1, .long r9), (3, .int (x3 + 1))]) [3, 1, 0] rfl (hR r9 (x3 + 1) u8 h)
set_option maxRecDepth 20000 in
set_option maxHeartbeats 4000000 in
theorem t_X_digest_l10  {X : Int64 → Mem → Prop} {Q : Int64 → Mem → Prop} (hX : ∀ (x1 : Int64) (u : Mem), X x1 u → a_X_digest l D ad cI cZ cS rs A0 (jWl Q) 60 [(0, .ref (ad 0)), (1, .long x1)] [] u) : ∀ (n : Nat) (x1 : Int64) (x3 : Int32) (u : Mem), w_X_digest_l10 X Q n x1 x3 u → a_X_digest l D ad cI cZ cS rs A0 (jWl Q) 10 [(0, .ref (ad 0)), (1, .long x1), (3, .int x3)] [] u := by
  intro n
  induction n with
  | zero =>
    intro x1 x3 u h
    exact (by simp only [w_X_digest_l10] at h : False).elim
  | succ n ih =>
    intro x1 x3 u h
    rw [w_X_digest_l10] at h
    refine J_iload_n 2 dX10_digest_10 rfl rfl ?_
    refine J_iconst (v := 4) dX10_digest_11 ci_4 ?_
    refine J_icmp_ge (tgt := 60) dX10_digest_12 rfl (fun c => ?_) (fun c => ?_)
    · have h := h.1 c
      exact J_sub (lv' := [(0, .ref (ad 0)), (1, .long x1)]) [0, 1] rfl (hX x1 u h)
    · have h := h.2 c
      refine J_iload_n 2 dX10_digest_15 rfl rfl ?_
      refine J_iconst (v := 3) dX10_digest_16 ci_3 ?_
      refine J_icmp_ge (tgt := 24) dX10_digest_17 rfl (fun c => ?_) (fun c => ?_)
      · have h := h.1 c
        refine J_bipush (v := 9) dX10_digest_24 cb_9 ?_
        exact (t_X_digest_b26 ih hX h)
      · have h := h.2 c
        refine J_iload_n 2 dX10_digest_20 rfl rfl ?_
        refine J_goto (tgt := 26) dX10_digest_21 rfl ?_
        exact (t_X_digest_b26 ih hX h)
set_option maxRecDepth 20000 in
set_option maxHeartbeats 4000000 in
theorem t_X_digest_l193  {X : Int64 → Mem → Prop} {Q : Int64 → Mem → Prop} (hX : ∀ (x1 : Int64) (u : Mem), X x1 u → a_X_digest l D ad cI cZ cS rs A0 (jWl Q) 212 [(1, .long x1)] [] u) : ∀ (n : Nat) (x1 : Int64) (x3 : Int32) (u : Mem), w_X_digest_l193 X Q n x1 x3 u → a_X_digest l D ad cI cZ cS rs A0 (jWl Q) 193 [(0, .ref (ad 0)), (1, .long x1), (3, .int x3)] [] u := by
  intro n
  induction n with
  | zero =>
    intro x1 x3 u h
    exact (by simp only [w_X_digest_l193] at h : False).elim
  | succ n ih =>
    intro x1 x3 u h
    rw [w_X_digest_l193] at h
    refine J_iload_n 2 dX10_digest_193 rfl rfl ?_
    refine J_bipush (v := 8) dX10_digest_194 cb_8 ?_
    refine J_icmp_ge (tgt := 212) dX10_digest_196 rfl (fun c => ?_) (fun c => ?_)
    · have h := h.1 c
      exact J_sub (lv' := [(1, .long x1)]) [1] rfl (hX x1 u h)
    · have h := h.2 c
      refine J_aload_n 0 dX10_digest_199 rfl rfl ?_
      refine J_lload_n 1 dX10_digest_200 rfl rfl ?_
      refine J_iload_n 2 dX10_digest_201 rfl rfl ?_
      refine JV_Wl kV_RX10_320 0 rX_0 rfl rfl (c_X_digestBig h) rfl rfl (by decide) (Nat.le_of_ble_eq_true rfl) dX10_digest_202 (fun r57 u58 h => ?_)
      refine J_lstore_n (lv' := [(1, .long r57), (0, .ref (ad 0)), (3, .int x3)]) dX10_digest_205 rfl (Nat.le_of_ble_eq_true rfl) rfl ?_
      refine J_iinc (v := (x3 + 1)) (lv' := [(3, .int (x3 + 1)), (1, .long r57), (0, .ref (ad 0))]) 2 dX10_digest_206 rfl rfl (Nat.le_of_ble_eq_true rfl) rfl ?_
      refine J_goto (tgt := 193) dX10_digest_209 rfl ?_
      exact J_sub (lv' := [(0, .ref (ad 0)), (1, .long r57), (3, .int (x3 + 1))]) [2, 1, 0] rfl (ih r57 (x3 + 1) u58 h)
set_option maxRecDepth 20000 in
set_option maxHeartbeats 4000000 in
theorem c_X_digest {u : Mem} {Q : Int64 → Mem → Prop} (h : w_X_digest u Q) : MX l D ad cI cZ cS rs A0 yX10_digest cX10_digest 5 (some .long) 9 [.ref (ad 0)] u (jWl Q) := by
  unfold w_X_digest at h
  refine JMet.of (by decide) (Nat.le_of_ble_eq_true rfl) ?_
  refine J_sub (lv' := [(0, .ref (ad 0))]) [0] rfl ?_
  show a_X_digest l D ad cI cZ cS rs A0 (jWl Q) 0 [(0, .ref (ad 0))] [] u
  refine J_aload_n 0 dX10_digest_0 rfl rfl ?_
  refine J_ldc2 (v := 17) dX10_digest_1 kk_RX10_282 ?_
  refine JV_Rl kV_RX10_284 0 rX_0 rfl rfl (c_X_digestTexts h) rfl rfl (by decide) (Nat.le_of_ble_eq_true rfl) dX10_digest_4 (fun r1 h => ?_)
  refine J_lstore_n (lv' := [(1, .long r1), (0, .ref (ad 0))]) dX10_digest_7 rfl (Nat.le_of_ble_eq_true rfl) rfl ?_
  refine J_iconst (v := 0) dX10_digest_8 ci_0 ?_
  refine J_istore_n (lv' := [(3, .int 0), (1, .long r1), (0, .ref (ad 0))]) dX10_digest_9 rfl (Nat.le_of_ble_eq_true rfl) rfl ?_
  obtain ⟨n62, h⟩ := h
  refine J_sub (lv' := [(0, .ref (ad 0)), (1, .long r1), (3, .int 0)]) [2, 1, 0] rfl (t_X_digest_l10 ?_ n62 r1 0 u h)
  · intro z11 u12 h
    refine J_lload_n 1 dX10_digest_60 rfl rfl ?_
    refine J_aload_n 0 dX10_digest_61 rfl rfl ?_
    refine JV_Wi kV_RX10_295 0 rX_0 rfl rfl (c_X_judged h) rfl rfl (by decide) (Nat.le_of_ble_eq_true rfl) dX10_digest_62 (fun r13 u14 h => ?_)
    refine J_i2l dX10_digest_65 ?_
    refine JS_Rl kS_RX10_291 (c_X_mix h) rfl rfl (by decide) (Nat.le_of_ble_eq_true rfl) dX10_digest_66 (fun r15 h => ?_)
    refine J_lstore_n (lv' := [(1, .long r15), (0, .ref (ad 0))]) dX10_digest_69 rfl (Nat.le_of_ble_eq_true rfl) rfl ?_
    refine J_lload_n 0 dX10_digest_70 rfl rfl ?_
    refine J_aload_n 1 dX10_digest_71 rfl rfl ?_
    refine JV_Ri kV_RX10_298 0 rX_0 rfl rfl (c_X_two h) rfl rfl (by decide) (Nat.le_of_ble_eq_true rfl) dX10_digest_72 (fun r17 h => ?_)
    refine J_i2l dX10_digest_75 ?_
    refine JS_Rl kS_RX10_291 (c_X_mix h) rfl rfl (by decide) (Nat.le_of_ble_eq_true rfl) dX10_digest_76 (fun r19 h => ?_)
    refine J_lstore_n (lv' := [(1, .long r19), (0, .ref (ad 0))]) dX10_digest_79 rfl (Nat.le_of_ble_eq_true rfl) rfl ?_
    refine J_lload_n 0 dX10_digest_80 rfl rfl ?_
    refine J_aload_n 1 dX10_digest_81 rfl rfl ?_
    refine J_iconst (v := 3) dX10_digest_82 ci_3 ?_
    refine JV_Wi kV_RX10_301 0 rX_0 rfl rfl (c_X_second h) rfl rfl (by decide) (Nat.le_of_ble_eq_true rfl) dX10_digest_83 (fun r21 u22 h => ?_)
    refine J_i2l dX10_digest_86 ?_
    refine JS_Rl kS_RX10_291 (c_X_mix h) rfl rfl (by decide) (Nat.le_of_ble_eq_true rfl) dX10_digest_87 (fun r23 h => ?_)
    refine J_lstore_n (lv' := [(1, .long r23), (0, .ref (ad 0))]) dX10_digest_90 rfl (Nat.le_of_ble_eq_true rfl) rfl ?_
    refine J_lload_n 0 dX10_digest_91 rfl rfl ?_
    refine J_aload_n 1 dX10_digest_92 rfl rfl ?_
    refine J_iconst (v := 2) dX10_digest_93 ci_2 ?_
    refine J_iconst (v := 1) dX10_digest_94 ci_1 ?_
    refine J_iconst (v := 2) dX10_digest_95 ci_2 ?_
    refine J_iconst (v := 0) dX10_digest_96 ci_0 ?_
    refine JV_Wi kV_RX10_304 0 rX_0 rfl rfl (c_X_touch h) rfl rfl (by decide) (Nat.le_of_ble_eq_true rfl) dX10_digest_97 (fun r25 u26 h => ?_)
    refine J_i2l dX10_digest_100 ?_
    refine JS_Rl kS_RX10_291 (c_X_mix h) rfl rfl (by decide) (Nat.le_of_ble_eq_true rfl) dX10_digest_101 (fun r27 h => ?_)
    refine J_lstore_n (lv' := [(1, .long r27), (0, .ref (ad 0))]) dX10_digest_104 rfl (Nat.le_of_ble_eq_true rfl) rfl ?_
    refine J_lload_n 0 dX10_digest_105 rfl rfl ?_
    refine J_aload_n 1 dX10_digest_106 rfl rfl ?_
    refine J_iconst (v := 2) dX10_digest_107 ci_2 ?_
    refine J_iconst (v := 1) dX10_digest_108 ci_1 ?_
    refine J_iconst (v := 2) dX10_digest_109 ci_2 ?_
    refine J_iconst (v := 1) dX10_digest_110 ci_1 ?_
    refine JV_Wi kV_RX10_304 0 rX_0 rfl rfl (c_X_touch h) rfl rfl (by decide) (Nat.le_of_ble_eq_true rfl) dX10_digest_111 (fun r29 u30 h => ?_)
    refine J_i2l dX10_digest_114 ?_
    refine JS_Rl kS_RX10_291 (c_X_mix h) rfl rfl (by decide) (Nat.le_of_ble_eq_true rfl) dX10_digest_115 (fun r31 h => ?_)
    refine J_lstore_n (lv' := [(1, .long r31), (0, .ref (ad 0))]) dX10_digest_118 rfl (Nat.le_of_ble_eq_true rfl) rfl ?_
    refine J_lload_n 0 dX10_digest_119 rfl rfl ?_
    refine J_aload_n 1 dX10_digest_120 rfl rfl ?_
    refine J_iconst (v := (-1)) dX10_digest_121 ci_m1 ?_
    refine JV_Wi kV_RX10_308 0 rX_0 rfl rfl (c_X_steady h) rfl rfl (by decide) (Nat.le_of_ble_eq_true rfl) dX10_digest_122 (fun r33 u34 h => ?_)
    refine J_i2l dX10_digest_125 ?_
    refine JS_Rl kS_RX10_291 (c_X_mix h) rfl rfl (by decide) (Nat.le_of_ble_eq_true rfl) dX10_digest_126 (fun r35 h => ?_)
    refine J_lstore_n (lv' := [(1, .long r35), (0, .ref (ad 0))]) dX10_digest_129 rfl (Nat.le_of_ble_eq_true rfl) rfl ?_
    refine J_lload_n 0 dX10_digest_130 rfl rfl ?_
    refine J_aload_n 1 dX10_digest_131 rfl rfl ?_
    refine J_iconst (v := 0) dX10_digest_132 ci_0 ?_
    refine JV_Wi kV_RX10_308 0 rX_0 rfl rfl (c_X_steady h) rfl rfl (by decide) (Nat.le_of_ble_eq_true rfl) dX10_digest_133 (fun r37 u38 h => ?_)
    refine J_i2l dX10_digest_136 ?_
    refine JS_Rl kS_RX10_291 (c_X_mix h) rfl rfl (by decide) (Nat.le_of_ble_eq_true rfl) dX10_digest_137 (fun r39 h => ?_)
    refine J_lstore_n (lv' := [(1, .long r39), (0, .ref (ad 0))]) dX10_digest_140 rfl (Nat.le_of_ble_eq_true rfl) rfl ?_
    refine J_lload_n 0 dX10_digest_141 rfl rfl ?_
    refine J_aload_n 1 dX10_digest_142 rfl rfl ?_
    refine J_iconst (v := 5) dX10_digest_143 ci_5 ?_
    refine J_iconst (v := 0) dX10_digest_144 ci_0 ?_
    refine JV_Wi kV_RX10_311 0 rX_0 rfl rfl (c_X_round h) rfl rfl (by decide) (Nat.le_of_ble_eq_true rfl) dX10_digest_145 (fun r41 u42 h => ?_)
    refine J_i2l dX10_digest_148 ?_
    refine JS_Rl kS_RX10_291 (c_X_mix h) rfl rfl (by decide) (Nat.le_of_ble_eq_true rfl) dX10_digest_149 (fun r43 h => ?_)
    refine J_lstore_n (lv' := [(1, .long r43), (0, .ref (ad 0))]) dX10_digest_152 rfl (Nat.le_of_ble_eq_true rfl) rfl ?_
    refine J_lload_n 0 dX10_digest_153 rfl rfl ?_
    refine J_aload_n 1 dX10_digest_154 rfl rfl ?_
    refine J_iconst (v := 5) dX10_digest_155 ci_5 ?_
    refine J_iconst (v := 1) dX10_digest_156 ci_1 ?_
    refine JV_Wi kV_RX10_311 0 rX_0 rfl rfl (c_X_round h) rfl rfl (by decide) (Nat.le_of_ble_eq_true rfl) dX10_digest_157 (fun r45 u46 h => ?_)
    refine J_i2l dX10_digest_160 ?_
    refine JS_Rl kS_RX10_291 (c_X_mix h) rfl rfl (by decide) (Nat.le_of_ble_eq_true rfl) dX10_digest_161 (fun r47 h => ?_)
    refine J_lstore_n (lv' := [(1, .long r47), (0, .ref (ad 0))]) dX10_digest_164 rfl (Nat.le_of_ble_eq_true rfl) rfl ?_
    refine J_lload_n 0 dX10_digest_165 rfl rfl ?_
    refine J_aload_n 1 dX10_digest_166 rfl rfl ?_
    refine J_iconst (v := 1) dX10_digest_167 ci_1 ?_
    refine JV_Wi kV_RX10_314 0 rX_0 rfl rfl (c_X_moved h) rfl rfl (by decide) (Nat.le_of_ble_eq_true rfl) dX10_digest_168 (fun r49 u50 h => ?_)
    refine J_i2l dX10_digest_171 ?_
    refine JS_Rl kS_RX10_291 (c_X_mix h) rfl rfl (by decide) (Nat.le_of_ble_eq_true rfl) dX10_digest_172 (fun r51 h => ?_)
    refine J_lstore_n (lv' := [(1, .long r51), (0, .ref (ad 0))]) dX10_digest_175 rfl (Nat.le_of_ble_eq_true rfl) rfl ?_
    refine J_lload_n 0 dX10_digest_176 rfl rfl ?_
    refine J_aload_n 1 dX10_digest_177 rfl rfl ?_
    refine J_bipush (v := 7) dX10_digest_178 cb_7 ?_
    refine J_bipush (v := 9) dX10_digest_180 cb_9 ?_
    refine J_iconst (v := (-1)) dX10_digest_182 ci_m1 ?_
    refine JV_Wi kV_RX10_317 0 rX_0 rfl rfl (c_X_lot h) rfl rfl (by decide) (Nat.le_of_ble_eq_true rfl) dX10_digest_183 (fun r53 u54 h => ?_)
    refine J_i2l dX10_digest_186 ?_
    refine JS_Rl kS_RX10_291 (c_X_mix h) rfl rfl (by decide) (Nat.le_of_ble_eq_true rfl) dX10_digest_187 (fun r55 h => ?_)
    refine J_lstore_n (lv' := [(1, .long r55), (0, .ref (ad 0))]) dX10_digest_190 rfl (Nat.le_of_ble_eq_true rfl) rfl ?_
    refine J_iconst (v := 0) dX10_digest_191 ci_0 ?_
    refine J_istore_n (lv' := [(3, .int 0), (1, .long r55), (0, .ref (ad 0))]) dX10_digest_192 rfl (Nat.le_of_ble_eq_true rfl) rfl ?_
    obtain ⟨n61, h⟩ := h
    refine J_sub (lv' := [(0, .ref (ad 0)), (1, .long r55), (3, .int 0)]) [2, 1, 0] rfl (t_X_digest_l193 ?_ n61 r55 0 u54 h)
    · intro z59 u60 h
      refine J_lload_n 0 dX10_digest_212 rfl rfl ?_
      exact J_lret rfl dX10_digest_213 ⟨_, rfl, h⟩
end
