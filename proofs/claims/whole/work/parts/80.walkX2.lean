section
variable {l : Launch} {D : va_G} {ad : Nat → Nat} {cI cZ cS : ClassId} {rs : va_W} {A0 : Nat → Prop}
abbrev a_X_isEither (l : Launch) (D : va_G) (ad : Nat → Nat) (cI cZ cS : ClassId) (rs : va_W) (A0 : Nat → Prop) := AX l D ad cI cZ cS rs A0 cX10_isEither 1 (some .boolean) RX10 0
set_option maxRecDepth 20000 in
set_option maxHeartbeats 4000000 in
theorem t_X_isEither_b9 {u : Mem} {Q : Int32 → Prop} (h : w_X_isEither_b9 Q) : a_X_isEither l D ad cI cZ cS rs A0 (jRi u Q) 9 [] [] u := by
  unfold w_X_isEither_b9 at h
  refine J_iconst (v := 1) dX10_isEither_9 ci_1 ?_
  refine J_goto (tgt := 14) dX10_isEither_10 rfl ?_
  exact J_zret rfl dX10_isEither_14 (bz_n bz_1) ⟨rfl, _, rfl, h⟩
set_option maxRecDepth 20000 in
set_option maxHeartbeats 4000000 in
theorem c_X_isEither {u : Mem} {x0 : Int32} {Q : Int32 → Prop} (h : w_X_isEither x0 Q) : MX l D ad cI cZ cS rs A0 yX10_isEither cX10_isEither 1 (some .boolean) 0 [.int x0] u (jRi u Q) := by
  unfold w_X_isEither at h
  refine JMet.of (by decide) (Nat.le_of_ble_eq_true rfl) ?_
  refine J_sub (lv' := [(0, .int x0)]) [0] rfl ?_
  show a_X_isEither l D ad cI cZ cS rs A0 (jRi u Q) 0 [(0, .int x0)] [] u
  refine J_iload_n 0 dX10_isEither_0 rfl rfl ?_
  refine J_if_eq (tgt := 9) dX10_isEither_1 rfl (fun c => ?_) (fun c => ?_)
  · have h := h.1 c
    exact J_sub (lv' := []) [] rfl (t_X_isEither_b9 h)
  · have h := h.2 c
    refine J_iload_n 0 dX10_isEither_4 rfl rfl ?_
    refine J_iconst (v := 1) dX10_isEither_5 ci_1 ?_
    refine J_icmp_ne (tgt := 13) dX10_isEither_6 rfl (fun c => ?_) (fun c => ?_)
    · have h := h.1 c
      refine J_iconst (v := 0) dX10_isEither_13 ci_0 ?_
      exact J_zret rfl dX10_isEither_14 (bz_n bz_0) ⟨rfl, _, rfl, h⟩
    · have h := h.2 c
      exact J_sub (lv' := []) [] rfl (t_X_isEither_b9 h)
abbrev a_X_dust (l : Launch) (D : va_G) (ad : Nat → Nat) (cI cZ cS : ClassId) (rs : va_W) (A0 : Nat → Prop) := AX l D ad cI cZ cS rs A0 cX10_dust 3 (some .int) RX10 1
set_option maxRecDepth 20000 in
set_option maxHeartbeats 4000000 in
theorem c_X_dust {u : Mem} {x1 : Int32} {x2 : Int32} {Q : Int32 → Prop} (h : w_X_dust x1 x2 u Q) : MX l D ad cI cZ cS rs A0 yX10_dust cX10_dust 3 (some .int) 1 [.ref (ad 0), .int x1, .int x2] u (jRi u Q) := by
  unfold w_X_dust at h
  refine JMet.of (by decide) (Nat.le_of_ble_eq_true rfl) ?_
  refine J_sub (lv' := [(0, .ref (ad 0)), (1, .int x1), (2, .int x2)]) [0, 1, 2] rfl ?_
  show a_X_dust l D ad cI cZ cS rs A0 (jRi u Q) 0 [(0, .ref (ad 0)), (1, .int x1), (2, .int x2)] [] u
  refine J_iload_n 1 dX10_dust_0 rfl rfl ?_
  refine J_if_lt (tgt := 22) dX10_dust_1 rfl (fun c => ?_) (fun c => ?_)
  · have h := h.1 c
    refine J_bipush (v := (-2)) dX10_dust_22 cb_m2 ?_
    exact J_iret rfl dX10_dust_24 ⟨rfl, _, rfl, h⟩
  · have h := h.2 c
    refine J_iload_n 1 dX10_dust_4 rfl rfl ?_
    refine J_aload_n 0 dX10_dust_5 rfl rfl ?_
    refine gX_0_3 dX10_dust_6 ?_
    refine JU_Ri kU_RX10_111_RX1 rfl 4 rX_4 rfl rfl (c_R_size_1 h) rfl rfl (by decide) (Nat.le_of_ble_eq_true rfl) dX10_dust_9 (fun r1 h => ?_)
    refine J_icmp_ge (tgt := 22) dX10_dust_12 rfl (fun c => ?_) (fun c => ?_)
    · have h := h.1 c
      refine J_bipush (v := (-2)) dX10_dust_22 cb_m2 ?_
      exact J_iret rfl dX10_dust_24 ⟨rfl, _, rfl, h⟩
    · have h := h.2 c
      refine J_iload_n 2 dX10_dust_15 rfl rfl ?_
      refine JS_Ri kS_RX10_112 (c_X_isEither h) rfl rfl (by decide) (Nat.le_of_ble_eq_true rfl) dX10_dust_16 (fun r3 h => ?_)
      refine J_if_ne (tgt := 25) dX10_dust_19 rfl (fun c => ?_) (fun c => ?_)
      · have h := h.1 c
        refine J_iload_n 2 dX10_dust_25 rfl rfl ?_
        refine J_if_ne (tgt := 40) dX10_dust_26 rfl (fun c => ?_) (fun c => ?_)
        · have h := h.1 c
          refine J_aload_n 0 dX10_dust_40 rfl rfl ?_
          refine gX_0_3 dX10_dust_41 ?_
          refine J_iload_n 1 dX10_dust_44 rfl rfl ?_
          refine JV_Ri kV_RX10_116 4 rX_4 rfl rfl (c_D_smallOf h) rfl rfl (by decide) (Nat.le_of_ble_eq_true rfl) dX10_dust_45 (fun r5 h => ?_)
          exact J_iret rfl dX10_dust_48 ⟨rfl, _, rfl, h⟩
        · have h := h.2 c
          refine J_aload_n 0 dX10_dust_29 rfl rfl ?_
          refine gX_0_3 dX10_dust_30 ?_
          refine J_iload_n 1 dX10_dust_33 rfl rfl ?_
          refine JV_Ri kV_RX10_115 4 rX_4 rfl rfl (c_D_bigOf h) rfl rfl (by decide) (Nat.le_of_ble_eq_true rfl) dX10_dust_34 (fun r7 h => ?_)
          refine J_goto (tgt := 48) dX10_dust_37 rfl ?_
          exact J_iret rfl dX10_dust_48 ⟨rfl, _, rfl, h⟩
      · have h := h.2 c
        refine J_bipush (v := (-2)) dX10_dust_22 cb_m2 ?_
        exact J_iret rfl dX10_dust_24 ⟨rfl, _, rfl, h⟩
abbrev a_X_first (l : Launch) (D : va_G) (ad : Nat → Nat) (cI cZ cS : ClassId) (rs : va_W) (A0 : Nat → Prop) := AX l D ad cI cZ cS rs A0 cX10_first 3 (some .int) RX10 1
set_option maxRecDepth 20000 in
set_option maxHeartbeats 4000000 in
theorem c_X_first {u : Mem} {x1 : Int32} {Q : Int32 → Mem → Prop} (h : w_X_first x1 u Q) : MX l D ad cI cZ cS rs A0 yX10_first cX10_first 3 (some .int) 1 [.ref (ad 0), .int x1] u (jWi Q) := by
  unfold w_X_first at h
  refine JMet.of (by decide) (Nat.le_of_ble_eq_true rfl) ?_
  refine J_sub (lv' := [(0, .ref (ad 0)), (1, .int x1)]) [0, 1] rfl ?_
  show a_X_first l D ad cI cZ cS rs A0 (jWi Q) 0 [(0, .ref (ad 0)), (1, .int x1)] [] u
  refine J_iload_n 1 dX10_first_0 rfl rfl ?_
  refine JS_Ri kS_RX10_75 (c_X_isBits h) rfl rfl (by decide) (Nat.le_of_ble_eq_true rfl) dX10_first_1 (fun r1 h => ?_)
  refine J_if_ne (tgt := 10) dX10_first_4 rfl (fun c => ?_) (fun c => ?_)
  · have h := h.1 c
    refine J_aload_n 0 dX10_first_10 rfl rfl ?_
    refine gX_0_5 dX10_first_11 ?_
    refine JV_Ri kV_RX10_117 6 rX_6 rfl rfl (c_K_firstSet h) rfl rfl (by decide) (Nat.le_of_ble_eq_true rfl) dX10_first_14 (fun r3 h => ?_)
    refine J_istore_n (lv' := [(2, .int r3), (0, .ref (ad 0)), (1, .int x1)]) dX10_first_17 rfl (Nat.le_of_ble_eq_true rfl) rfl ?_
    refine J_aload_n 1 dX10_first_18 rfl rfl ?_
    refine gX_0_5 dX10_first_19 ?_
    refine J_iload_n 2 dX10_first_22 rfl rfl ?_
    refine JV_Wv kV_RX10_120 6 rX_6 rfl rfl (c_K_setFirst h) rfl rfl (by decide) (Nat.le_of_ble_eq_true rfl) dX10_first_23 (fun u6 h => ?_)
    refine J_iload_n 0 dX10_first_26 rfl rfl ?_
    exact J_iret rfl dX10_first_27 ⟨_, rfl, h⟩
  · have h := h.2 c
    refine J_bipush (v := (-2)) dX10_first_7 cb_m2 ?_
    exact J_iret rfl dX10_first_9 ⟨_, rfl, h⟩
abbrev a_X_freshHouse (l : Launch) (D : va_G) (ad : Nat → Nat) (cI cZ cS : ClassId) (rs : va_W) (A0 : Nat → Prop) := AX l D ad cI cZ cS rs A0 cX10_freshHouse 1 (some (.object "SmallFirst$House")) RX10 3
set_option maxRecDepth 20000 in
set_option maxHeartbeats 4000000 in
theorem t_X_freshHouse_b27 {u : Mem} {Q : Mem → Prop} (h : w_X_freshHouse_b27 u Q) : a_X_freshHouse l D ad cI cZ cS rs A0 (jWh ad Q) 27 [(0, .ref (ad 0))] [] u := by
  unfold w_X_freshHouse_b27 at h
  refine J_aload_n 0 dX10_freshHouse_27 rfl rfl ?_
  refine gX_0_4 dX10_freshHouse_28 ?_
  exact J_aret rfl dX10_freshHouse_31 ⟨rfl, h⟩
set_option maxRecDepth 20000 in
set_option maxHeartbeats 4000000 in
theorem c_X_freshHouse {u : Mem} {Q : Mem → Prop} (h : w_X_freshHouse u Q) : MX l D ad cI cZ cS rs A0 yX10_freshHouse cX10_freshHouse 1 (some (.object "SmallFirst$House")) 3 [.ref (ad 0)] u (jWh ad Q) := by
  unfold w_X_freshHouse at h
  refine JMet.of (by decide) (Nat.le_of_ble_eq_true rfl) ?_
  refine J_sub (lv' := [(0, .ref (ad 0))]) [0] rfl ?_
  show a_X_freshHouse l D ad cI cZ cS rs A0 (jWh ad Q) 0 [(0, .ref (ad 0))] [] u
  refine J_aload_n 0 dX10_freshHouse_0 rfl rfl ?_
  refine gX_0_8 (v := (u.1 0)) rfl dX10_freshHouse_1 ?_
  refine J_if_eq (tgt := 27) dX10_freshHouse_4 rfl (fun c => ?_) (fun c => ?_)
  · have h := h.1 c
    exact (t_X_freshHouse_b27 h)
  · have h := h.2 c
    refine J_aload_n 0 dX10_freshHouse_7 rfl rfl ?_
    refine gX_0_4 dX10_freshHouse_8 ?_
    refine J_aload_n 0 dX10_freshHouse_11 rfl rfl ?_
    refine gX_0_2 dX10_freshHouse_12 ?_
    refine J_aload_n 0 dX10_freshHouse_15 rfl rfl ?_
    refine gX_0_3 dX10_freshHouse_16 ?_
    refine JV_Wv kV_RX10_365 5 rX_5 rfl rfl (c_H_fill h) rfl rfl (by decide) (Nat.le_of_ble_eq_true rfl) dX10_freshHouse_19 (fun u2 h => ?_)
    refine J_aload_n 0 dX10_freshHouse_22 rfl rfl ?_
    refine J_iconst (v := 0) dX10_freshHouse_23 ci_0 ?_
    refine pX_0_8 bz_0 dX10_freshHouse_24 ?_
    exact (t_X_freshHouse_b27 h)
abbrev a_X_comes (l : Launch) (D : va_G) (ad : Nat → Nat) (cI cZ cS : ClassId) (rs : va_W) (A0 : Nat → Prop) := AX l D ad cI cZ cS rs A0 cX10_comes 2 (some .int) RX10 4
set_option maxRecDepth 20000 in
set_option maxHeartbeats 4000000 in
theorem c_X_comes {u : Mem} {x1 : Int32} {Q : Int32 → Mem → Prop} (h : w_X_comes x1 u Q) : MX l D ad cI cZ cS rs A0 yX10_comes cX10_comes 2 (some .int) 4 [.ref (ad 0), .int x1] u (jWi Q) := by
  unfold w_X_comes at h
  refine JMet.of (by decide) (Nat.le_of_ble_eq_true rfl) ?_
  refine J_sub (lv' := [(0, .ref (ad 0)), (1, .int x1)]) [0, 1] rfl ?_
  show a_X_comes l D ad cI cZ cS rs A0 (jWi Q) 0 [(0, .ref (ad 0)), (1, .int x1)] [] u
  refine J_iload_n 1 dX10_comes_0 rfl rfl ?_
  refine JS_Ri kS_RX10_75 (c_X_isBits h) rfl rfl (by decide) (Nat.le_of_ble_eq_true rfl) dX10_comes_1 (fun r1 h => ?_)
  refine J_if_eq (tgt := 18) dX10_comes_4 rfl (fun c => ?_) (fun c => ?_)
  · have h := h.1 c
    refine J_bipush (v := (-2)) dX10_comes_18 cb_m2 ?_
    exact J_iret rfl dX10_comes_20 ⟨_, rfl, h⟩
  · have h := h.2 c
    refine J_aload_n 0 dX10_comes_7 rfl rfl ?_
    refine JV_Wh kV_RX10_123 0 rX_0 rfl rfl (c_X_freshHouse h) rfl rfl (by decide) (Nat.le_of_ble_eq_true rfl) dX10_comes_8 (fun u4 h => ?_)
    refine J_iload_n 1 dX10_comes_11 rfl rfl ?_
    refine JV_Ri kV_RX10_127 5 rX_5 rfl rfl (c_H_comesBy h) rfl rfl (by decide) (Nat.le_of_ble_eq_true rfl) dX10_comes_12 (fun r5 h => ?_)
    refine J_goto (tgt := 20) dX10_comes_15 rfl ?_
    exact J_iret rfl dX10_comes_20 ⟨_, rfl, h⟩
abbrev a_X_lays (l : Launch) (D : va_G) (ad : Nat → Nat) (cI cZ cS : ClassId) (rs : va_W) (A0 : Nat → Prop) := AX l D ad cI cZ cS rs A0 cX10_lays 2 (some .int) RX10 2
set_option maxRecDepth 20000 in
set_option maxHeartbeats 4000000 in
theorem c_X_lays {u : Mem} {x1 : Int32} {Q : Int32 → Prop} (h : w_X_lays x1 u Q) : MX l D ad cI cZ cS rs A0 yX10_lays cX10_lays 2 (some .int) 2 [.ref (ad 0), .int x1] u (jRi u Q) := by
  unfold w_X_lays at h
  refine JMet.of (by decide) (Nat.le_of_ble_eq_true rfl) ?_
  refine J_sub (lv' := [(0, .ref (ad 0)), (1, .int x1)]) [0, 1] rfl ?_
  show a_X_lays l D ad cI cZ cS rs A0 (jRi u Q) 0 [(0, .ref (ad 0)), (1, .int x1)] [] u
  refine J_iload_n 1 dX10_lays_0 rfl rfl ?_
  refine JS_Ri kS_RX10_75 (c_X_isBits h) rfl rfl (by decide) (Nat.le_of_ble_eq_true rfl) dX10_lays_1 (fun r1 h => ?_)
  refine J_if_eq (tgt := 18) dX10_lays_4 rfl (fun c => ?_) (fun c => ?_)
  · have h := h.1 c
    refine J_bipush (v := (-2)) dX10_lays_18 cb_m2 ?_
    exact J_iret rfl dX10_lays_20 ⟨rfl, _, rfl, h⟩
  · have h := h.2 c
    refine J_aload_n 0 dX10_lays_7 rfl rfl ?_
    refine gX_0_3 dX10_lays_8 ?_
    refine J_iload_n 1 dX10_lays_11 rfl rfl ?_
    refine JV_Ri kV_RX10_130 4 rX_4 rfl rfl (c_D_laidBy h) rfl rfl (by decide) (Nat.le_of_ble_eq_true rfl) dX10_lays_12 (fun r3 h => ?_)
    refine J_goto (tgt := 20) dX10_lays_15 rfl ?_
    exact J_iret rfl dX10_lays_20 ⟨rfl, _, rfl, h⟩
abbrev a_X_isWeek (l : Launch) (D : va_G) (ad : Nat → Nat) (cI cZ cS : ClassId) (rs : va_W) (A0 : Nat → Prop) := AX l D ad cI cZ cS rs A0 cX10_isWeek 1 (some .boolean) RX10 0
set_option maxRecDepth 20000 in
set_option maxHeartbeats 4000000 in
theorem c_X_isWeek {u : Mem} {x0 : Int32} {Q : Int32 → Prop} (h : w_X_isWeek x0 Q) : MX l D ad cI cZ cS rs A0 yX10_isWeek cX10_isWeek 1 (some .boolean) 0 [.int x0] u (jRi u Q) := by
  unfold w_X_isWeek at h
  refine JMet.of (by decide) (Nat.le_of_ble_eq_true rfl) ?_
  refine J_sub (lv' := [(0, .int x0)]) [0] rfl ?_
  show a_X_isWeek l D ad cI cZ cS rs A0 (jRi u Q) 0 [(0, .int x0)] [] u
  refine J_iload_n 0 dX10_isWeek_0 rfl rfl ?_
  refine J_if_lt (tgt := 14) dX10_isWeek_1 rfl (fun c => ?_) (fun c => ?_)
  · have h := h.1 c
    refine J_iconst (v := 0) dX10_isWeek_14 ci_0 ?_
    exact J_zret rfl dX10_isWeek_15 (bz_n bz_0) ⟨rfl, _, rfl, h⟩
  · have h := h.2 c
    refine J_iload_n 0 dX10_isWeek_4 rfl rfl ?_
    refine J_bipush (v := 30) dX10_isWeek_5 cb_30 ?_
    refine J_icmp_ge (tgt := 14) dX10_isWeek_7 rfl (fun c => ?_) (fun c => ?_)
    · have h := h.1 c
      refine J_iconst (v := 0) dX10_isWeek_14 ci_0 ?_
      exact J_zret rfl dX10_isWeek_15 (bz_n bz_0) ⟨rfl, _, rfl, h⟩
    · have h := h.2 c
      refine J_iconst (v := 1) dX10_isWeek_10 ci_1 ?_
      refine J_goto (tgt := 15) dX10_isWeek_11 rfl ?_
      exact J_zret rfl dX10_isWeek_15 (bz_n bz_1) ⟨rfl, _, rfl, h⟩
abbrev a_X_isThing (l : Launch) (D : va_G) (ad : Nat → Nat) (cI cZ cS : ClassId) (rs : va_W) (A0 : Nat → Prop) := AX l D ad cI cZ cS rs A0 cX10_isThing 1 (some .boolean) RX10 0
set_option maxRecDepth 20000 in
set_option maxHeartbeats 4000000 in
theorem c_X_isThing {u : Mem} {x0 : Int32} {Q : Int32 → Prop} (h : w_X_isThing x0 Q) : MX l D ad cI cZ cS rs A0 yX10_isThing cX10_isThing 1 (some .boolean) 0 [.int x0] u (jRi u Q) := by
  unfold w_X_isThing at h
  refine JMet.of (by decide) (Nat.le_of_ble_eq_true rfl) ?_
  refine J_sub (lv' := [(0, .int x0)]) [0] rfl ?_
  show a_X_isThing l D ad cI cZ cS rs A0 (jRi u Q) 0 [(0, .int x0)] [] u
  refine J_iload_n 0 dX10_isThing_0 rfl rfl ?_
  refine J_if_lt (tgt := 14) dX10_isThing_1 rfl (fun c => ?_) (fun c => ?_)
  · have h := h.1 c
    refine J_iconst (v := 0) dX10_isThing_14 ci_0 ?_
    exact J_zret rfl dX10_isThing_15 (bz_n bz_0) ⟨rfl, _, rfl, h⟩
  · have h := h.2 c
    refine J_iload_n 0 dX10_isThing_4 rfl rfl ?_
    refine J_bipush (v := 8) dX10_isThing_5 cb_8 ?_
    refine J_icmp_ge (tgt := 14) dX10_isThing_7 rfl (fun c => ?_) (fun c => ?_)
    · have h := h.1 c
      refine J_iconst (v := 0) dX10_isThing_14 ci_0 ?_
      exact J_zret rfl dX10_isThing_15 (bz_n bz_0) ⟨rfl, _, rfl, h⟩
    · have h := h.2 c
      refine J_iconst (v := 1) dX10_isThing_10 ci_1 ?_
      refine J_goto (tgt := 15) dX10_isThing_11 rfl ?_
      exact J_zret rfl dX10_isThing_15 (bz_n bz_1) ⟨rfl, _, rfl, h⟩
abbrev a_X_lay (l : Launch) (D : va_G) (ad : Nat → Nat) (cI cZ cS : ClassId) (rs : va_W) (A0 : Nat → Prop) := AX l D ad cI cZ cS rs A0 cX10_lay 4 (some .int) RX10 1
set_option maxRecDepth 20000 in
set_option maxHeartbeats 4000000 in
theorem c_X_lay {u : Mem} {x1 : Int32} {x2 : Int32} {x3 : Int32} {Q : Int32 → Mem → Prop} (h : w_X_lay x1 x2 x3 u Q) : MX l D ad cI cZ cS rs A0 yX10_lay cX10_lay 4 (some .int) 1 [.ref (ad 0), .int x1, .int x2, .int x3] u (jWi Q) := by
  unfold w_X_lay at h
  refine JMet.of (by decide) (Nat.le_of_ble_eq_true rfl) ?_
  refine J_sub (lv' := [(0, .ref (ad 0)), (1, .int x1), (2, .int x2), (3, .int x3)]) [0, 1, 2, 3] rfl ?_
  show a_X_lay l D ad cI cZ cS rs A0 (jWi Q) 0 [(0, .ref (ad 0)), (1, .int x1), (2, .int x2), (3, .int x3)] [] u
  refine J_iload_n 1 dX10_lay_0 rfl rfl ?_
  refine JS_Ri kS_RX10_133 (c_X_isWeek h) rfl rfl (by decide) (Nat.le_of_ble_eq_true rfl) dX10_lay_1 (fun r1 h => ?_)
  refine J_if_eq (tgt := 21) dX10_lay_4 rfl (fun c => ?_) (fun c => ?_)
  · have h := h.1 c
    refine J_bipush (v := (-2)) dX10_lay_21 cb_m2 ?_
    exact J_iret rfl dX10_lay_23 ⟨_, rfl, h⟩
  · have h := h.2 c
    refine J_iload_n 2 dX10_lay_7 rfl rfl ?_
    refine JS_Ri kS_RX10_136 (c_X_isThing h) rfl rfl (by decide) (Nat.le_of_ble_eq_true rfl) dX10_lay_8 (fun r3 h => ?_)
    refine J_if_eq (tgt := 21) dX10_lay_11 rfl (fun c => ?_) (fun c => ?_)
    · have h := h.1 c
      refine J_bipush (v := (-2)) dX10_lay_21 cb_m2 ?_
      exact J_iret rfl dX10_lay_23 ⟨_, rfl, h⟩
    · have h := h.2 c
      refine J_iload_n 3 dX10_lay_14 rfl rfl ?_
      refine JS_Ri kS_RX10_112 (c_X_isEither h) rfl rfl (by decide) (Nat.le_of_ble_eq_true rfl) dX10_lay_15 (fun r5 h => ?_)
      refine J_if_ne (tgt := 24) dX10_lay_18 rfl (fun c => ?_) (fun c => ?_)
      · have h := h.1 c
        refine J_aload_n 0 dX10_lay_24 rfl rfl ?_
        refine gX_0_5 dX10_lay_25 ?_
        refine J_iload_n 1 dX10_lay_28 rfl rfl ?_
        refine J_iload_n 2 dX10_lay_29 rfl rfl ?_
        refine J_iload_n 3 dX10_lay_30 rfl rfl ?_
        refine JV_Wi kV_RX10_139 6 rX_6 rfl rfl (c_K_addLaying h) rfl rfl (by decide) (Nat.le_of_ble_eq_true rfl) dX10_lay_31 (fun r7 u8 h => ?_)
        refine J_if_ne (tgt := 40) dX10_lay_34 rfl (fun c => ?_) (fun c => ?_)
        · have h := h.1 c
          refine J_aload_n 0 dX10_lay_40 rfl rfl ?_
          refine gX_0_5 dX10_lay_41 ?_
          refine JV_Ri kV_RX10_143 6 rX_6 rfl rfl (c_K_layings h) rfl rfl (by decide) (Nat.le_of_ble_eq_true rfl) dX10_lay_44 (fun r9 h => ?_)
          exact J_iret rfl dX10_lay_47 ⟨_, rfl, h⟩
        · have h := h.2 c
          refine J_bipush (v := (-4)) dX10_lay_37 cb_m4 ?_
          exact J_iret rfl dX10_lay_39 ⟨_, rfl, h⟩
      · have h := h.2 c
        refine J_bipush (v := (-2)) dX10_lay_21 cb_m2 ?_
        exact J_iret rfl dX10_lay_23 ⟨_, rfl, h⟩
abbrev a_X_back (l : Launch) (D : va_G) (ad : Nat → Nat) (cI cZ cS : ClassId) (rs : va_W) (A0 : Nat → Prop) := AX l D ad cI cZ cS rs A0 cX10_back 1 (some .int) RX10 1
set_option maxRecDepth 20000 in
set_option maxHeartbeats 4000000 in
theorem c_X_back {u : Mem} {Q : Int32 → Mem → Prop} (h : w_X_back u Q) : MX l D ad cI cZ cS rs A0 yX10_back cX10_back 1 (some .int) 1 [.ref (ad 0)] u (jWi Q) := by
  unfold w_X_back at h
  refine JMet.of (by decide) (Nat.le_of_ble_eq_true rfl) ?_
  refine J_sub (lv' := [(0, .ref (ad 0))]) [0] rfl ?_
  show a_X_back l D ad cI cZ cS rs A0 (jWi Q) 0 [(0, .ref (ad 0))] [] u
  refine J_aload_n 0 dX10_back_0 rfl rfl ?_
  refine gX_0_5 dX10_back_1 ?_
  refine JV_Wi kV_RX10_146 6 rX_6 rfl rfl (c_K_dropLaying h) rfl rfl (by decide) (Nat.le_of_ble_eq_true rfl) dX10_back_4 (fun r1 u2 h => ?_)
  refine J_if_ne (tgt := 13) dX10_back_7 rfl (fun c => ?_) (fun c => ?_)
  · have h := h.1 c
    refine J_aload_n 0 dX10_back_13 rfl rfl ?_
    refine gX_0_5 dX10_back_14 ?_
    refine JV_Ri kV_RX10_143 6 rX_6 rfl rfl (c_K_layings h) rfl rfl (by decide) (Nat.le_of_ble_eq_true rfl) dX10_back_17 (fun r3 h => ?_)
    exact J_iret rfl dX10_back_20 ⟨_, rfl, h⟩
  · have h := h.2 c
    refine J_bipush (v := (-3)) dX10_back_10 cb_m3 ?_
    exact J_iret rfl dX10_back_12 ⟨_, rfl, h⟩
abbrev a_X_week (l : Launch) (D : va_G) (ad : Nat → Nat) (cI cZ cS : ClassId) (rs : va_W) (A0 : Nat → Prop) := AX l D ad cI cZ cS rs A0 cX10_week 3 (some .int) RX10 4
set_option maxRecDepth 20000 in
set_option maxHeartbeats 4000000 in
theorem c_X_week {u : Mem} {x1 : Int32} {x2 : Int32} {Q : Int32 → Mem → Prop} (h : w_X_week x1 x2 u Q) : MX l D ad cI cZ cS rs A0 yX10_week cX10_week 3 (some .int) 4 [.ref (ad 0), .int x1, .int x2] u (jWi Q) := by
  unfold w_X_week at h
  refine JMet.of (by decide) (Nat.le_of_ble_eq_true rfl) ?_
  refine J_sub (lv' := [(0, .ref (ad 0)), (1, .int x1), (2, .int x2)]) [0, 1, 2] rfl ?_
  show a_X_week l D ad cI cZ cS rs A0 (jWi Q) 0 [(0, .ref (ad 0)), (1, .int x1), (2, .int x2)] [] u
  refine J_iload_n 1 dX10_week_0 rfl rfl ?_
  refine JS_Ri kS_RX10_133 (c_X_isWeek h) rfl rfl (by decide) (Nat.le_of_ble_eq_true rfl) dX10_week_1 (fun r1 h => ?_)
  refine J_if_eq (tgt := 14) dX10_week_4 rfl (fun c => ?_) (fun c => ?_)
  · have h := h.1 c
    refine J_bipush (v := (-2)) dX10_week_14 cb_m2 ?_
    exact J_iret rfl dX10_week_16 ⟨_, rfl, h⟩
  · have h := h.2 c
    refine J_iload_n 2 dX10_week_7 rfl rfl ?_
    refine JS_Ri kS_RX10_112 (c_X_isEither h) rfl rfl (by decide) (Nat.le_of_ble_eq_true rfl) dX10_week_8 (fun r3 h => ?_)
    refine J_if_ne (tgt := 17) dX10_week_11 rfl (fun c => ?_) (fun c => ?_)
    · have h := h.1 c
      refine J_aload_n 0 dX10_week_17 rfl rfl ?_
      refine gX_0_5 dX10_week_18 ?_
      refine J_aload_n 0 dX10_week_21 rfl rfl ?_
      refine JV_Wh kV_RX10_123 0 rX_0 rfl rfl (c_X_freshHouse h) rfl rfl (by decide) (Nat.le_of_ble_eq_true rfl) dX10_week_22 (fun u6 h => ?_)
      refine J_iload_n 1 dX10_week_25 rfl rfl ?_
      refine JV_Wv kV_RX10_149 6 rX_6 rfl rfl (c_K_runTo h) rfl rfl (by decide) (Nat.le_of_ble_eq_true rfl) dX10_week_26 (fun u8 h => ?_)
      refine J_iload_n 2 dX10_week_29 rfl rfl ?_
      refine J_if_ne (tgt := 44) dX10_week_30 rfl (fun c => ?_) (fun c => ?_)
      · have h := h.1 c
        refine J_aload_n 0 dX10_week_44 rfl rfl ?_
        refine gX_0_5 dX10_week_45 ?_
        refine J_iload_n 1 dX10_week_48 rfl rfl ?_
        refine JV_Ri kV_RX10_156 6 rX_6 rfl rfl (c_K_bigIn h) rfl rfl (by decide) (Nat.le_of_ble_eq_true rfl) dX10_week_49 (fun r9 h => ?_)
        exact J_iret rfl dX10_week_52 ⟨_, rfl, h⟩
      · have h := h.2 c
        refine J_aload_n 0 dX10_week_33 rfl rfl ?_
        refine gX_0_5 dX10_week_34 ?_
        refine J_iload_n 1 dX10_week_37 rfl rfl ?_
        refine JV_Ri kV_RX10_153 6 rX_6 rfl rfl (c_K_smallIn h) rfl rfl (by decide) (Nat.le_of_ble_eq_true rfl) dX10_week_38 (fun r11 h => ?_)
        refine J_goto (tgt := 52) dX10_week_41 rfl ?_
        exact J_iret rfl dX10_week_52 ⟨_, rfl, h⟩
    · have h := h.2 c
      refine J_bipush (v := (-2)) dX10_week_14 cb_m2 ?_
      exact J_iret rfl dX10_week_16 ⟨_, rfl, h⟩
abbrev a_X_judged (l : Launch) (D : va_G) (ad : Nat → Nat) (cI cZ cS : ClassId) (rs : va_W) (A0 : Nat → Prop) := AX l D ad cI cZ cS rs A0 cX10_judged 3 (some .int) RX10 4
set_option maxRecDepth 20000 in
set_option maxHeartbeats 4000000 in
theorem t_X_judged_l17 {u : Mem}  {X : Prop} {Q : Int32 → Mem → Prop} (hX : X → a_X_judged l D ad cI cZ cS rs A0 (jWi Q) 46 [] [] u) : ∀ (n : Nat) (x2 : Int32), w_X_judged_l17 X u Q n x2 → a_X_judged l D ad cI cZ cS rs A0 (jWi Q) 17 [(0, .ref (ad 0)), (1, .ref (ad 5)), (2, .int x2)] [] u := by
  intro n
  induction n with
  | zero =>
    intro x2 h
    exact (by simp only [w_X_judged_l17] at h : False).elim
  | succ n ih =>
    intro x2 h
    rw [w_X_judged_l17] at h
    refine J_iload_n 2 dX10_judged_17 rfl rfl ?_
    refine J_bipush (v := 30) dX10_judged_18 cb_30 ?_
    refine J_icmp_ge (tgt := 46) dX10_judged_20 rfl (fun c => ?_) (fun c => ?_)
    · have h := h.1 c
      exact J_sub (lv' := []) [] rfl (hX h)
    · have h := h.2 c
      refine J_aload_n 1 dX10_judged_23 rfl rfl ?_
      refine J_aload_n 0 dX10_judged_24 rfl rfl ?_
      refine gX_0_5 dX10_judged_25 ?_
      refine J_iload_n 2 dX10_judged_28 rfl rfl ?_
      refine JV_Ri kV_RX10_153 6 rX_6 rfl rfl (c_K_smallIn h) rfl rfl (by decide) (Nat.le_of_ble_eq_true rfl) dX10_judged_29 (fun r5 h => ?_)
      refine JV_Ri kV_RX10_159 5 rX_5 rfl rfl (c_H_disagreeBy h) rfl rfl (by decide) (Nat.le_of_ble_eq_true rfl) dX10_judged_32 (fun r7 h => ?_)
      refine J_if_eq (tgt := 40) dX10_judged_35 rfl (fun c => ?_) (fun c => ?_)
      · have h := h.1 c
        refine J_iinc (v := (x2 + 1)) (lv' := [(2, .int (x2 + 1)), (0, .ref (ad 0)), (1, .ref (ad 5))]) 2 dX10_judged_40 rfl rfl (Nat.le_of_ble_eq_true rfl) rfl ?_
        refine J_goto (tgt := 17) dX10_judged_43 rfl ?_
        exact J_sub (lv' := [(0, .ref (ad 0)), (1, .ref (ad 5)), (2, .int (x2 + 1))]) [1, 2, 0] rfl (ih (x2 + 1) h)
      · have h := h.2 c
        refine J_iload_n 2 dX10_judged_38 rfl rfl ?_
        exact J_iret rfl dX10_judged_39 ⟨_, rfl, h⟩
set_option maxRecDepth 20000 in
set_option maxHeartbeats 4000000 in
theorem c_X_judged {u : Mem} {Q : Int32 → Mem → Prop} (h : w_X_judged u Q) : MX l D ad cI cZ cS rs A0 yX10_judged cX10_judged 3 (some .int) 4 [.ref (ad 0)] u (jWi Q) := by
  unfold w_X_judged at h
  refine JMet.of (by decide) (Nat.le_of_ble_eq_true rfl) ?_
  refine J_sub (lv' := [(0, .ref (ad 0))]) [0] rfl ?_
  show a_X_judged l D ad cI cZ cS rs A0 (jWi Q) 0 [(0, .ref (ad 0))] [] u
  refine J_aload_n 0 dX10_judged_0 rfl rfl ?_
  refine JV_Wh kV_RX10_123 0 rX_0 rfl rfl (c_X_freshHouse h) rfl rfl (by decide) (Nat.le_of_ble_eq_true rfl) dX10_judged_1 (fun u2 h => ?_)
  refine J_astore_n (lv' := [(1, .ref (ad 5)), (0, .ref (ad 0))]) dX10_judged_4 rfl (Nat.le_of_ble_eq_true rfl) rfl ?_
  refine J_aload_n 1 dX10_judged_5 rfl rfl ?_
  refine gX_0_5 dX10_judged_6 ?_
  refine J_aload_n 0 dX10_judged_9 rfl rfl ?_
  refine J_bipush (v := 29) dX10_judged_10 cb_29 ?_
  refine JV_Wv kV_RX10_149 6 rX_6 rfl rfl (c_K_runTo h) rfl rfl (by decide) (Nat.le_of_ble_eq_true rfl) dX10_judged_12 (fun u4 h => ?_)
  refine J_iconst (v := 0) dX10_judged_15 ci_0 ?_
  refine J_istore_n (lv' := [(2, .int 0), (1, .ref (ad 5)), (0, .ref (ad 0))]) dX10_judged_16 rfl (Nat.le_of_ble_eq_true rfl) rfl ?_
  obtain ⟨n9, h⟩ := h
  refine J_sub (lv' := [(0, .ref (ad 0)), (1, .ref (ad 5)), (2, .int 0)]) [2, 1, 0] rfl (t_X_judged_l17 ?_ n9 0 h)
  · intro h
    refine J_iconst (v := (-1)) dX10_judged_46 ci_m1 ?_
    exact J_iret rfl dX10_judged_47 ⟨_, rfl, h⟩
abbrev a_X_two (l : Launch) (D : va_G) (ad : Nat → Nat) (cI cZ cS : ClassId) (rs : va_W) (A0 : Nat → Prop) := AX l D ad cI cZ cS rs A0 cX10_two 2 (some .int) RX10 2
set_option maxRecDepth 20000 in
set_option maxHeartbeats 4000000 in
theorem t_X_two_l2 {u : Mem}  {X : Prop} {Q : Int32 → Prop} (hX : X → a_X_two l D ad cI cZ cS rs A0 (jRi u Q) 31 [] [] u) : ∀ (n : Nat) (x1 : Int32), w_X_two_l2 X u Q n x1 → a_X_two l D ad cI cZ cS rs A0 (jRi u Q) 2 [(0, .ref (ad 0)), (1, .int x1)] [] u := by
  intro n
  induction n with
  | zero =>
    intro x1 h
    exact (by simp only [w_X_two_l2] at h : False).elim
  | succ n ih =>
    intro x1 h
    rw [w_X_two_l2] at h
    refine J_iload_n 1 dX10_two_2 rfl rfl ?_
    refine J_bipush (v := 8) dX10_two_3 cb_8 ?_
    refine J_icmp_ge (tgt := 31) dX10_two_5 rfl (fun c => ?_) (fun c => ?_)
    · have h := h.1 c
      exact J_sub (lv' := []) [] rfl (hX h)
    · have h := h.2 c
      refine J_aload_n 0 dX10_two_8 rfl rfl ?_
      refine gX_0_2 dX10_two_9 ?_
      refine J_iload_n 1 dX10_two_12 rfl rfl ?_
      refine JV_Ri kV_RX10_162 3 rX_3 rfl rfl (c_L_standsFor h) rfl rfl (by decide) (Nat.le_of_ble_eq_true rfl) dX10_two_13 (fun r1 h => ?_)
      refine JS_Ri kS_RX10_165 (c_I_bitCount h) rfl rfl (by decide) (Nat.le_of_ble_eq_true rfl) dX10_two_16 (fun r3 h => ?_)
      refine J_iconst (v := 2) dX10_two_19 ci_2 ?_
      refine J_icmp_lt (tgt := 25) dX10_two_20 rfl (fun c => ?_) (fun c => ?_)
      · have h := h.1 c
        refine J_iinc (v := (x1 + 1)) (lv' := [(1, .int (x1 + 1)), (0, .ref (ad 0))]) 1 dX10_two_25 rfl rfl (Nat.le_of_ble_eq_true rfl) rfl ?_
        refine J_goto (tgt := 2) dX10_two_28 rfl ?_
        exact J_sub (lv' := [(0, .ref (ad 0)), (1, .int (x1 + 1))]) [1, 0] rfl (ih (x1 + 1) h)
      · have h := h.2 c
        refine J_iload_n 1 dX10_two_23 rfl rfl ?_
        exact J_iret rfl dX10_two_24 ⟨rfl, _, rfl, h⟩
set_option maxRecDepth 20000 in
set_option maxHeartbeats 4000000 in
theorem c_X_two {u : Mem} {Q : Int32 → Prop} (h : w_X_two u Q) : MX l D ad cI cZ cS rs A0 yX10_two cX10_two 2 (some .int) 2 [.ref (ad 0)] u (jRi u Q) := by
  unfold w_X_two at h
  refine JMet.of (by decide) (Nat.le_of_ble_eq_true rfl) ?_
  refine J_sub (lv' := [(0, .ref (ad 0))]) [0] rfl ?_
  show a_X_two l D ad cI cZ cS rs A0 (jRi u Q) 0 [(0, .ref (ad 0))] [] u
  refine J_iconst (v := 0) dX10_two_0 ci_0 ?_
  refine J_istore_n (lv' := [(1, .int 0), (0, .ref (ad 0))]) dX10_two_1 rfl (Nat.le_of_ble_eq_true rfl) rfl ?_
  obtain ⟨n5, h⟩ := h
  refine J_sub (lv' := [(0, .ref (ad 0)), (1, .int 0)]) [1, 0] rfl (t_X_two_l2 ?_ n5 0 h)
  · intro h
    refine J_iconst (v := (-1)) dX10_two_31 ci_m1 ?_
    exact J_iret rfl dX10_two_32 ⟨rfl, _, rfl, h⟩
abbrev a_X_second (l : Launch) (D : va_G) (ad : Nat → Nat) (cI cZ cS : ClassId) (rs : va_W) (A0 : Nat → Prop) := AX l D ad cI cZ cS rs A0 cX10_second 3 (some .int) RX10 4
set_option maxRecDepth 20000 in
set_option maxHeartbeats 4000000 in
theorem c_X_second {u : Mem} {x1 : Int32} {Q : Int32 → Mem → Prop} (h : w_X_second x1 u Q) : MX l D ad cI cZ cS rs A0 yX10_second cX10_second 3 (some .int) 4 [.ref (ad 0), .int x1] u (jWi Q) := by
  unfold w_X_second at h
  refine JMet.of (by decide) (Nat.le_of_ble_eq_true rfl) ?_
  refine J_sub (lv' := [(0, .ref (ad 0)), (1, .int x1)]) [0, 1] rfl ?_
  show a_X_second l D ad cI cZ cS rs A0 (jWi Q) 0 [(0, .ref (ad 0)), (1, .int x1)] [] u
  refine J_iload_n 1 dX10_second_0 rfl rfl ?_
  refine JS_Ri kS_RX10_75 (c_X_isBits h) rfl rfl (by decide) (Nat.le_of_ble_eq_true rfl) dX10_second_1 (fun r1 h => ?_)
  refine J_if_ne (tgt := 10) dX10_second_4 rfl (fun c => ?_) (fun c => ?_)
  · have h := h.1 c
    refine J_aload_n 0 dX10_second_10 rfl rfl ?_
    refine JV_Wh kV_RX10_123 0 rX_0 rfl rfl (c_X_freshHouse h) rfl rfl (by decide) (Nat.le_of_ble_eq_true rfl) dX10_second_11 (fun u4 h => ?_)
    refine J_astore_n (lv' := [(2, .ref (ad 5)), (0, .ref (ad 0)), (1, .int x1)]) dX10_second_14 rfl (Nat.le_of_ble_eq_true rfl) rfl ?_
    refine J_aload_n 0 dX10_second_15 rfl rfl ?_
    refine J_aload_n 0 dX10_second_16 rfl rfl ?_
    refine J_iload_n 2 dX10_second_17 rfl rfl ?_
    refine JV_Ri kV_RX10_127 5 rX_5 rfl rfl (c_H_comesBy h) rfl rfl (by decide) (Nat.le_of_ble_eq_true rfl) dX10_second_18 (fun r5 h => ?_)
    refine JV_Ri kV_RX10_127 5 rX_5 rfl rfl (c_H_comesBy h) rfl rfl (by decide) (Nat.le_of_ble_eq_true rfl) dX10_second_21 (fun r7 h => ?_)
    exact J_iret rfl dX10_second_24 ⟨_, rfl, h⟩
  · have h := h.2 c
    refine J_bipush (v := (-2)) dX10_second_7 cb_m2 ?_
    exact J_iret rfl dX10_second_9 ⟨_, rfl, h⟩
abbrev a_X_isSpan (l : Launch) (D : va_G) (ad : Nat → Nat) (cI cZ cS : ClassId) (rs : va_W) (A0 : Nat → Prop) := AX l D ad cI cZ cS rs A0 cX10_isSpan 1 (some .boolean) RX10 0
set_option maxRecDepth 20000 in
set_option maxHeartbeats 4000000 in
theorem c_X_isSpan {u : Mem} {x0 : Int32} {Q : Int32 → Prop} (h : w_X_isSpan x0 Q) : MX l D ad cI cZ cS rs A0 yX10_isSpan cX10_isSpan 1 (some .boolean) 0 [.int x0] u (jRi u Q) := by
  unfold w_X_isSpan at h
  refine JMet.of (by decide) (Nat.le_of_ble_eq_true rfl) ?_
  refine J_sub (lv' := [(0, .int x0)]) [0] rfl ?_
  show a_X_isSpan l D ad cI cZ cS rs A0 (jRi u Q) 0 [(0, .int x0)] [] u
  refine J_iload_n 0 dX10_isSpan_0 rfl rfl ?_
  refine J_iconst (v := 1) dX10_isSpan_1 ci_1 ?_
  refine J_icmp_lt (tgt := 15) dX10_isSpan_2 rfl (fun c => ?_) (fun c => ?_)
  · have h := h.1 c
    refine J_iconst (v := 0) dX10_isSpan_15 ci_0 ?_
    exact J_zret rfl dX10_isSpan_16 (bz_n bz_0) ⟨rfl, _, rfl, h⟩
  · have h := h.2 c
    refine J_iload_n 0 dX10_isSpan_5 rfl rfl ?_
    refine J_bipush (v := 9) dX10_isSpan_6 cb_9 ?_
    refine J_icmp_gt (tgt := 15) dX10_isSpan_8 rfl (fun c => ?_) (fun c => ?_)
    · have h := h.1 c
      refine J_iconst (v := 0) dX10_isSpan_15 ci_0 ?_
      exact J_zret rfl dX10_isSpan_16 (bz_n bz_0) ⟨rfl, _, rfl, h⟩
    · have h := h.2 c
      refine J_iconst (v := 1) dX10_isSpan_11 ci_1 ?_
      refine J_goto (tgt := 16) dX10_isSpan_12 rfl ?_
      exact J_zret rfl dX10_isSpan_16 (bz_n bz_1) ⟨rfl, _, rfl, h⟩
abbrev a_X_numberOrBits (l : Launch) (D : va_G) (ad : Nat → Nat) (cI cZ cS : ClassId) (rs : va_W) (A0 : Nat → Prop) := AX l D ad cI cZ cS rs A0 cX10_numberOrBits 2 (some .int) RX10 1
set_option maxRecDepth 20000 in
set_option maxHeartbeats 4000000 in
theorem t_X_numberOrBits_b10 {u : Mem} {x0 : Int32} {Q : Int32 → Prop} (h : w_X_numberOrBits_b10 x0 Q) : a_X_numberOrBits l D ad cI cZ cS rs A0 (jRi u Q) 10 [(0, .int x0)] [] u := by
  unfold w_X_numberOrBits_b10 at h
  refine J_iload_n 0 dX10_numberOrBits_10 rfl rfl ?_
  refine J_goto (tgt := 18) dX10_numberOrBits_11 rfl ?_
  exact J_iret rfl dX10_numberOrBits_18 ⟨rfl, _, rfl, h⟩
set_option maxRecDepth 20000 in
set_option maxHeartbeats 4000000 in
theorem c_X_numberOrBits {u : Mem} {x0 : Int32} {x1 : Int32} {Q : Int32 → Prop} (h : w_X_numberOrBits x0 x1 Q) : MX l D ad cI cZ cS rs A0 yX10_numberOrBits cX10_numberOrBits 2 (some .int) 1 [.int x0, .int x1] u (jRi u Q) := by
  unfold w_X_numberOrBits at h
  refine JMet.of (by decide) (Nat.le_of_ble_eq_true rfl) ?_
  refine J_sub (lv' := [(0, .int x0), (1, .int x1)]) [0, 1] rfl ?_
  show a_X_numberOrBits l D ad cI cZ cS rs A0 (jRi u Q) 0 [(0, .int x0), (1, .int x1)] [] u
  refine J_iload_n 0 dX10_numberOrBits_0 rfl rfl ?_
  refine J_iconst (v := (-1)) dX10_numberOrBits_1 ci_m1 ?_
  refine J_icmp_eq (tgt := 10) dX10_numberOrBits_2 rfl (fun c => ?_) (fun c => ?_)
  · have h := h.1 c
    exact J_sub (lv' := [(0, .int x0)]) [0] rfl (t_X_numberOrBits_b10 h)
  · have h := h.2 c
    refine J_iload_n 1 dX10_numberOrBits_5 rfl rfl ?_
    refine J_iconst (v := 1) dX10_numberOrBits_6 ci_1 ?_
    refine J_icmp_ne (tgt := 14) dX10_numberOrBits_7 rfl (fun c => ?_) (fun c => ?_)
    · have h := h.1 c
      refine J_iload_n 0 dX10_numberOrBits_14 rfl rfl ?_
      refine JS_Ri kS_RX10_165 (c_I_bitCount h) rfl rfl (by decide) (Nat.le_of_ble_eq_true rfl) dX10_numberOrBits_15 (fun r1 h => ?_)
      exact J_iret rfl dX10_numberOrBits_18 ⟨rfl, _, rfl, h⟩
    · have h := h.2 c
      exact J_sub (lv' := [(0, .int x0)]) [0] rfl (t_X_numberOrBits_b10 h)
abbrev a_X_touch (l : Launch) (D : va_G) (ad : Nat → Nat) (cI cZ cS : ClassId) (rs : va_W) (A0 : Nat → Prop) := AX l D ad cI cZ cS rs A0 cX10_touch 5 (some .int) RX10 4
set_option maxRecDepth 20000 in
set_option maxHeartbeats 4000000 in
theorem c_X_touch {u : Mem} {x1 : Int32} {x2 : Int32} {x3 : Int32} {x4 : Int32} {Q : Int32 → Mem → Prop} (h : w_X_touch x1 x2 x3 x4 u Q) : MX l D ad cI cZ cS rs A0 yX10_touch cX10_touch 5 (some .int) 4 [.ref (ad 0), .int x1, .int x2, .int x3, .int x4] u (jWi Q) := by
  unfold w_X_touch at h
  refine JMet.of (by decide) (Nat.le_of_ble_eq_true rfl) ?_
  refine J_sub (lv' := [(0, .ref (ad 0)), (1, .int x1), (2, .int x2), (3, .int x3), (4, .int x4)]) [0, 1, 2, 3, 4] rfl ?_
  show a_X_touch l D ad cI cZ cS rs A0 (jWi Q) 0 [(0, .ref (ad 0)), (1, .int x1), (2, .int x2), (3, .int x3), (4, .int x4)] [] u
  refine J_iload_n 1 dX10_touch_0 rfl rfl ?_
  refine JS_Ri kS_RX10_170 (c_X_isSpan h) rfl rfl (by decide) (Nat.le_of_ble_eq_true rfl) dX10_touch_1 (fun r1 h => ?_)
  refine J_if_eq (tgt := 35) dX10_touch_4 rfl (fun c => ?_) (fun c => ?_)
  · have h := h.1 c
    refine J_bipush (v := (-2)) dX10_touch_35 cb_m2 ?_
    exact J_iret rfl dX10_touch_37 ⟨_, rfl, h⟩
  · have h := h.2 c
    refine J_iload_n 2 dX10_touch_7 rfl rfl ?_
    refine JS_Ri kS_RX10_75 (c_X_isBits h) rfl rfl (by decide) (Nat.le_of_ble_eq_true rfl) dX10_touch_8 (fun r3 h => ?_)
    refine J_if_eq (tgt := 35) dX10_touch_11 rfl (fun c => ?_) (fun c => ?_)
    · have h := h.1 c
      refine J_bipush (v := (-2)) dX10_touch_35 cb_m2 ?_
      exact J_iret rfl dX10_touch_37 ⟨_, rfl, h⟩
    · have h := h.2 c
      refine J_iload_n 3 dX10_touch_14 rfl rfl ?_
      refine JS_Ri kS_RX10_75 (c_X_isBits h) rfl rfl (by decide) (Nat.le_of_ble_eq_true rfl) dX10_touch_15 (fun r5 h => ?_)
      refine J_if_eq (tgt := 35) dX10_touch_18 rfl (fun c => ?_) (fun c => ?_)
      · have h := h.1 c
        refine J_bipush (v := (-2)) dX10_touch_35 cb_m2 ?_
        exact J_iret rfl dX10_touch_37 ⟨_, rfl, h⟩
      · have h := h.2 c
        refine J_iload 4 dX10_touch_21 rfl ?_
        refine JS_Ri kS_RX10_112 (c_X_isEither h) rfl rfl (by decide) (Nat.le_of_ble_eq_true rfl) dX10_touch_23 (fun r7 h => ?_)
        refine J_if_eq (tgt := 35) dX10_touch_26 rfl (fun c => ?_) (fun c => ?_)
        · have h := h.1 c
          refine J_bipush (v := (-2)) dX10_touch_35 cb_m2 ?_
          exact J_iret rfl dX10_touch_37 ⟨_, rfl, h⟩
        · have h := h.2 c
          refine J_iload_n 2 dX10_touch_29 rfl rfl ?_
          refine J_iload_n 3 dX10_touch_30 rfl rfl ?_
          refine J_iand dX10_touch_31 ?_
          refine J_if_eq (tgt := 38) dX10_touch_32 rfl (fun c => ?_) (fun c => ?_)
          · have h := h.1 c
            refine J_aload_n 0 dX10_touch_38 rfl rfl ?_
            refine JV_Wh kV_RX10_123 0 rX_0 rfl rfl (c_X_freshHouse h) rfl rfl (by decide) (Nat.le_of_ble_eq_true rfl) dX10_touch_39 (fun u10 h => ?_)
            refine J_aload_n 0 dX10_touch_42 rfl rfl ?_
            refine gX_0_5 dX10_touch_43 ?_
            refine JV_Ri kV_RX10_117 6 rX_6 rfl rfl (c_K_firstSet h) rfl rfl (by decide) (Nat.le_of_ble_eq_true rfl) dX10_touch_46 (fun r11 h => ?_)
            refine J_iload_n 1 dX10_touch_49 rfl rfl ?_
            refine J_iload_n 2 dX10_touch_50 rfl rfl ?_
            refine J_iload_n 3 dX10_touch_51 rfl rfl ?_
            refine JS_Ri kS_RX10_173 (c_P_fewestTouched h) rfl rfl (by decide) (Nat.le_of_ble_eq_true rfl) dX10_touch_52 (fun r13 h => ?_)
            refine J_iload 4 dX10_touch_55 rfl ?_
            refine JS_Ri kS_RX10_179 (c_X_numberOrBits h) rfl rfl (by decide) (Nat.le_of_ble_eq_true rfl) dX10_touch_57 (fun r15 h => ?_)
            exact J_iret rfl dX10_touch_60 ⟨_, rfl, h⟩
          · have h := h.2 c
            refine J_bipush (v := (-2)) dX10_touch_35 cb_m2 ?_
            exact J_iret rfl dX10_touch_37 ⟨_, rfl, h⟩
abbrev a_X_keepOff (l : Launch) (D : va_G) (ad : Nat → Nat) (cI cZ cS : ClassId) (rs : va_W) (A0 : Nat → Prop) := AX l D ad cI cZ cS rs A0 cX10_keepOff 4 (some .int) RX10 4
set_option maxRecDepth 20000 in
set_option maxHeartbeats 4000000 in
theorem c_X_keepOff {u : Mem} {x1 : Int32} {x2 : Int32} {x3 : Int32} {Q : Int32 → Mem → Prop} (h : w_X_keepOff x1 x2 x3 u Q) : MX l D ad cI cZ cS rs A0 yX10_keepOff cX10_keepOff 4 (some .int) 4 [.ref (ad 0), .int x1, .int x2, .int x3] u (jWi Q) := by
  unfold w_X_keepOff at h
  refine JMet.of (by decide) (Nat.le_of_ble_eq_true rfl) ?_
  refine J_sub (lv' := [(0, .ref (ad 0)), (1, .int x1), (2, .int x2), (3, .int x3)]) [0, 1, 2, 3] rfl ?_
  show a_X_keepOff l D ad cI cZ cS rs A0 (jWi Q) 0 [(0, .ref (ad 0)), (1, .int x1), (2, .int x2), (3, .int x3)] [] u
  refine J_iload_n 1 dX10_keepOff_0 rfl rfl ?_
  refine JS_Ri kS_RX10_170 (c_X_isSpan h) rfl rfl (by decide) (Nat.le_of_ble_eq_true rfl) dX10_keepOff_1 (fun r1 h => ?_)
  refine J_if_eq (tgt := 21) dX10_keepOff_4 rfl (fun c => ?_) (fun c => ?_)
  · have h := h.1 c
    refine J_bipush (v := (-2)) dX10_keepOff_21 cb_m2 ?_
    exact J_iret rfl dX10_keepOff_23 ⟨_, rfl, h⟩
  · have h := h.2 c
    refine J_iload_n 2 dX10_keepOff_7 rfl rfl ?_
    refine JS_Ri kS_RX10_136 (c_X_isThing h) rfl rfl (by decide) (Nat.le_of_ble_eq_true rfl) dX10_keepOff_8 (fun r3 h => ?_)
    refine J_if_eq (tgt := 21) dX10_keepOff_11 rfl (fun c => ?_) (fun c => ?_)
    · have h := h.1 c
      refine J_bipush (v := (-2)) dX10_keepOff_21 cb_m2 ?_
      exact J_iret rfl dX10_keepOff_23 ⟨_, rfl, h⟩
    · have h := h.2 c
      refine J_iload_n 3 dX10_keepOff_14 rfl rfl ?_
      refine JS_Ri kS_RX10_112 (c_X_isEither h) rfl rfl (by decide) (Nat.le_of_ble_eq_true rfl) dX10_keepOff_15 (fun r5 h => ?_)
      refine J_if_ne (tgt := 24) dX10_keepOff_18 rfl (fun c => ?_) (fun c => ?_)
      · have h := h.1 c
        refine J_aload_n 0 dX10_keepOff_24 rfl rfl ?_
        refine JV_Wh kV_RX10_123 0 rX_0 rfl rfl (c_X_freshHouse h) rfl rfl (by decide) (Nat.le_of_ble_eq_true rfl) dX10_keepOff_25 (fun u8 h => ?_)
        refine J_aload_n 0 dX10_keepOff_28 rfl rfl ?_
        refine gX_0_5 dX10_keepOff_29 ?_
        refine JV_Ri kV_RX10_117 6 rX_6 rfl rfl (c_K_firstSet h) rfl rfl (by decide) (Nat.le_of_ble_eq_true rfl) dX10_keepOff_32 (fun r9 h => ?_)
        refine J_iload_n 1 dX10_keepOff_35 rfl rfl ?_
        refine J_iconst (v := 1) dX10_keepOff_36 ci_1 ?_
        refine J_iload_n 2 dX10_keepOff_37 rfl rfl ?_
        refine J_ishl dX10_keepOff_38 ?_
        refine JS_Ri kS_RX10_183 (c_P_fewestSwept h) rfl rfl (by decide) (Nat.le_of_ble_eq_true rfl) dX10_keepOff_39 (fun r11 h => ?_)
        refine J_iload_n 3 dX10_keepOff_42 rfl rfl ?_
        refine JS_Ri kS_RX10_179 (c_X_numberOrBits h) rfl rfl (by decide) (Nat.le_of_ble_eq_true rfl) dX10_keepOff_43 (fun r13 h => ?_)
        exact J_iret rfl dX10_keepOff_46 ⟨_, rfl, h⟩
      · have h := h.2 c
        refine J_bipush (v := (-2)) dX10_keepOff_21 cb_m2 ?_
        exact J_iret rfl dX10_keepOff_23 ⟨_, rfl, h⟩
abbrev a_X_bars (l : Launch) (D : va_G) (ad : Nat → Nat) (cI cZ cS : ClassId) (rs : va_W) (A0 : Nat → Prop) := AX l D ad cI cZ cS rs A0 cX10_bars 5 (some .int) RX10 4
set_option maxRecDepth 20000 in
set_option maxHeartbeats 4000000 in
theorem t_X_bars_l20 {u : Mem}  {X : Int32 → Prop} {x1 : Int32} {Q : Int32 → Mem → Prop} (hX : ∀ (x3 : Int32), X x3 → a_X_bars l D ad cI cZ cS rs A0 (jWi Q) 47 [(3, .int x3)] [] u) : ∀ (n : Nat) (x3 : Int32) (x4 : Int32), w_X_bars_l20 X x1 u Q n x3 x4 → a_X_bars l D ad cI cZ cS rs A0 (jWi Q) 20 [(1, .int x1), (2, .ref (ad 5)), (3, .int x3), (4, .int x4)] [] u := by
  intro n
  induction n with
  | zero =>
    intro x3 x4 h
    exact (by simp only [w_X_bars_l20] at h : False).elim
  | succ n ih =>
    intro x3 x4 h
    rw [w_X_bars_l20] at h
    refine J_iload 3 dX10_bars_20 rfl ?_
    refine J_sipush (v := 256) dX10_bars_22 cs_256 ?_
    refine J_icmp_ge (tgt := 47) dX10_bars_25 rfl (fun c => ?_) (fun c => ?_)
    · have h := h.1 c
      exact J_sub (lv' := [(3, .int x3)]) [2] rfl (hX x3 h)
    · have h := h.2 c
      refine J_iload_n 2 dX10_bars_28 rfl rfl ?_
      refine J_aload_n 1 dX10_bars_29 rfl rfl ?_
      refine J_iload 3 dX10_bars_30 rfl ?_
      refine JV_Ri kV_RX10_159 5 rX_5 rfl rfl (c_H_disagreeBy h) rfl rfl (by decide) (Nat.le_of_ble_eq_true rfl) dX10_bars_32 (fun r5 h => ?_)
      refine J_iload_n 0 dX10_bars_35 rfl rfl ?_
      refine J_ishr dX10_bars_36 ?_
      refine J_iconst (v := 1) dX10_bars_37 ci_1 ?_
      refine J_iand dX10_bars_38 ?_
      refine J_iadd dX10_bars_39 ?_
      refine J_istore_n (lv' := [(3, .int (x3 + ((r5 >>> (x1 &&& 31)) &&& 1))), (1, .int x1), (2, .ref (ad 5)), (4, .int x4)]) dX10_bars_40 rfl (Nat.le_of_ble_eq_true rfl) rfl ?_
      refine J_iinc (v := (x4 + 1)) (lv' := [(4, .int (x4 + 1)), (3, .int (x3 + ((r5 >>> (x1 &&& 31)) &&& 1))), (1, .int x1), (2, .ref (ad 5))]) 3 dX10_bars_41 rfl rfl (Nat.le_of_ble_eq_true rfl) rfl ?_
      refine J_goto (tgt := 20) dX10_bars_44 rfl ?_
      exact J_sub (lv' := [(1, .int x1), (2, .ref (ad 5)), (3, .int (x3 + ((r5 >>> (x1 &&& 31)) &&& 1))), (4, .int (x4 + 1))]) [2, 3, 1, 0] rfl (ih (x3 + ((r5 >>> (x1 &&& 31)) &&& 1)) (x4 + 1) h)
set_option maxRecDepth 20000 in
set_option maxHeartbeats 4000000 in
theorem c_X_bars {u : Mem} {x1 : Int32} {Q : Int32 → Mem → Prop} (h : w_X_bars x1 u Q) : MX l D ad cI cZ cS rs A0 yX10_bars cX10_bars 5 (some .int) 4 [.ref (ad 0), .int x1] u (jWi Q) := by
  unfold w_X_bars at h
  refine JMet.of (by decide) (Nat.le_of_ble_eq_true rfl) ?_
  refine J_sub (lv' := [(0, .ref (ad 0)), (1, .int x1)]) [0, 1] rfl ?_
  show a_X_bars l D ad cI cZ cS rs A0 (jWi Q) 0 [(0, .ref (ad 0)), (1, .int x1)] [] u
  refine J_iload_n 1 dX10_bars_0 rfl rfl ?_
  refine JS_Ri kS_RX10_136 (c_X_isThing h) rfl rfl (by decide) (Nat.le_of_ble_eq_true rfl) dX10_bars_1 (fun r1 h => ?_)
  refine J_if_ne (tgt := 10) dX10_bars_4 rfl (fun c => ?_) (fun c => ?_)
  · have h := h.1 c
    refine J_aload_n 0 dX10_bars_10 rfl rfl ?_
    refine JV_Wh kV_RX10_123 0 rX_0 rfl rfl (c_X_freshHouse h) rfl rfl (by decide) (Nat.le_of_ble_eq_true rfl) dX10_bars_11 (fun u4 h => ?_)
    refine J_astore_n (lv' := [(2, .ref (ad 5)), (0, .ref (ad 0)), (1, .int x1)]) dX10_bars_14 rfl (Nat.le_of_ble_eq_true rfl) rfl ?_
    refine J_iconst (v := 0) dX10_bars_15 ci_0 ?_
    refine J_istore_n (lv' := [(3, .int 0), (2, .ref (ad 5)), (0, .ref (ad 0)), (1, .int x1)]) dX10_bars_16 rfl (Nat.le_of_ble_eq_true rfl) rfl ?_
    refine J_iconst (v := 0) dX10_bars_17 ci_0 ?_
    refine J_istore (lv' := [(4, .int 0), (3, .int 0), (2, .ref (ad 5)), (0, .ref (ad 0)), (1, .int x1)]) dX10_bars_18 (Nat.le_of_ble_eq_true rfl) rfl ?_
    obtain ⟨n8, h⟩ := h
    refine J_sub (lv' := [(1, .int x1), (2, .ref (ad 5)), (3, .int 0), (4, .int 0)]) [4, 2, 1, 0] rfl (t_X_bars_l20 ?_ n8 0 0 h)
    · intro z7 h
      refine J_iload_n 0 dX10_bars_47 rfl rfl ?_
      exact J_iret rfl dX10_bars_48 ⟨_, rfl, h⟩
  · have h := h.2 c
    refine J_bipush (v := (-2)) dX10_bars_7 cb_m2 ?_
    exact J_iret rfl dX10_bars_9 ⟨_, rfl, h⟩
abbrev a_X_play (l : Launch) (D : va_G) (ad : Nat → Nat) (cI cZ cS : ClassId) (rs : va_W) (A0 : Nat → Prop) := AX l D ad cI cZ cS rs A0 cX10_play 6 (some .int) RX10 7
set_option maxRecDepth 20000 in
set_option maxHeartbeats 4000000 in
theorem c_X_play {u : Mem} {x1 : Int32} {x2 : Int32} {x3 : Int32} {Q : Int32 → Mem → Prop} (h : w_X_play x1 x2 x3 u Q) : MX l D ad cI cZ cS rs A0 yX10_play cX10_play 6 (some .int) 7 [.ref (ad 0), .int x1, .int x2, .int x3] u (jWi Q) := by
  unfold w_X_play at h
  refine JMet.of (by decide) (Nat.le_of_ble_eq_true rfl) ?_
  refine J_sub (lv' := [(0, .ref (ad 0)), (1, .int x1), (2, .int x2), (3, .int x3)]) [0, 1, 2, 3] rfl ?_
  show a_X_play l D ad cI cZ cS rs A0 (jWi Q) 0 [(0, .ref (ad 0)), (1, .int x1), (2, .int x2), (3, .int x3)] [] u
  refine J_iload_n 1 dX10_play_0 rfl rfl ?_
  refine J_if_lt (tgt := 23) dX10_play_1 rfl (fun c => ?_) (fun c => ?_)
  · have h := h.1 c
    refine J_bipush (v := (-2)) dX10_play_23 cb_m2 ?_
    exact J_iret rfl dX10_play_25 ⟨_, rfl, h⟩
  · have h := h.2 c
    refine J_iload_n 1 dX10_play_4 rfl rfl ?_
    refine J_iconst (v := 4) dX10_play_5 ci_4 ?_
    refine J_icmp_gt (tgt := 23) dX10_play_6 rfl (fun c => ?_) (fun c => ?_)
    · have h := h.1 c
      refine J_bipush (v := (-2)) dX10_play_23 cb_m2 ?_
      exact J_iret rfl dX10_play_25 ⟨_, rfl, h⟩
    · have h := h.2 c
      refine J_iload_n 2 dX10_play_9 rfl rfl ?_
      refine JS_Ri kS_RX10_136 (c_X_isThing h) rfl rfl (by decide) (Nat.le_of_ble_eq_true rfl) dX10_play_10 (fun r1 h => ?_)
      refine J_if_eq (tgt := 23) dX10_play_13 rfl (fun c => ?_) (fun c => ?_)
      · have h := h.1 c
        refine J_bipush (v := (-2)) dX10_play_23 cb_m2 ?_
        exact J_iret rfl dX10_play_25 ⟨_, rfl, h⟩
      · have h := h.2 c
        refine J_iload_n 3 dX10_play_16 rfl rfl ?_
        refine JS_Ri kS_RX10_112 (c_X_isEither h) rfl rfl (by decide) (Nat.le_of_ble_eq_true rfl) dX10_play_17 (fun r3 h => ?_)
        refine J_if_ne (tgt := 26) dX10_play_20 rfl (fun c => ?_) (fun c => ?_)
        · have h := h.1 c
          refine J_aload_n 0 dX10_play_26 rfl rfl ?_
          refine JV_Wh kV_RX10_123 0 rX_0 rfl rfl (c_X_freshHouse h) rfl rfl (by decide) (Nat.le_of_ble_eq_true rfl) dX10_play_27 (fun u6 h => ?_)
          refine J_astore (lv' := [(4, .ref (ad 5)), (0, .ref (ad 0)), (1, .int x1), (2, .int x2), (3, .int x3)]) dX10_play_30 (Nat.le_of_ble_eq_true rfl) rfl ?_
          refine J_iconst (v := 1) dX10_play_32 ci_1 ?_
          refine J_iload_n 3 dX10_play_33 rfl rfl ?_
          refine J_ishl dX10_play_34 ?_
          refine J_istore (lv' := [(5, .int ((1 : Int32) <<< (x2 &&& 31))), (4, .ref (ad 5)), (0, .ref (ad 0)), (1, .int x1), (2, .int x2), (3, .int x3)]) dX10_play_35 (Nat.le_of_ble_eq_true rfl) rfl ?_
          refine J_iload_n 5 dX10_play_37 rfl rfl ?_
          refine J_if_ne (tgt := 65) dX10_play_38 rfl (fun c => ?_) (fun c => ?_)
          · have h := h.1 c
            refine J_aload 1 dX10_play_65 rfl ?_
            refine J_aload_n 2 dX10_play_67 rfl rfl ?_
            refine gX_0_5 dX10_play_68 ?_
            refine JV_Ri kV_RX10_117 6 rX_6 rfl rfl (c_K_firstSet h) rfl rfl (by decide) (Nat.le_of_ble_eq_true rfl) dX10_play_71 (fun r7 h => ?_)
            refine J_iload 0 dX10_play_74 rfl ?_
            refine J_iload_n 3 dX10_play_76 rfl rfl ?_
            refine JS_Ri kS_RX10_191 (c_P_firstTouch h) rfl rfl (by decide) (Nat.le_of_ble_eq_true rfl) dX10_play_77 (fun r9 h => ?_)
            exact J_iret rfl dX10_play_80 ⟨_, rfl, h⟩
          · have h := h.2 c
            refine J_aload 1 dX10_play_41 rfl ?_
            refine J_aload_n 2 dX10_play_43 rfl rfl ?_
            refine gX_0_5 dX10_play_44 ?_
            refine JV_Ri kV_RX10_117 6 rX_6 rfl rfl (c_K_firstSet h) rfl rfl (by decide) (Nat.le_of_ble_eq_true rfl) dX10_play_47 (fun r11 h => ?_)
            refine J_iload 0 dX10_play_50 rfl ?_
            refine J_iload_n 3 dX10_play_52 rfl rfl ?_
            refine JS_Ri kS_RX10_187 (c_P_endsInComing h) rfl rfl (by decide) (Nat.le_of_ble_eq_true rfl) dX10_play_53 (fun r13 h => ?_)
            refine J_if_eq (tgt := 63) dX10_play_56 rfl (fun c => ?_) (fun c => ?_)
            · have h := h.1 c
              refine J_iconst (v := 0) dX10_play_63 ci_0 ?_
              exact J_iret rfl dX10_play_64 ⟨_, rfl, h⟩
            · have h := h.2 c
              refine J_iconst (v := 1) dX10_play_59 ci_1 ?_
              refine J_goto (tgt := 64) dX10_play_60 rfl ?_
              exact J_iret rfl dX10_play_64 ⟨_, rfl, h⟩
        · have h := h.2 c
          refine J_bipush (v := (-2)) dX10_play_23 cb_m2 ?_
          exact J_iret rfl dX10_play_25 ⟨_, rfl, h⟩
abbrev a_X_steady (l : Launch) (D : va_G) (ad : Nat → Nat) (cI cZ cS : ClassId) (rs : va_W) (A0 : Nat → Prop) := AX l D ad cI cZ cS rs A0 cX10_steady 5 (some .int) RX10 4
set_option maxRecDepth 20000 in
set_option maxHeartbeats 4000000 in
theorem t_X_steady_l25 {u : Mem}  {X : Int32 → Prop} {x1 : Int32} {Q : Int32 → Mem → Prop} (hX : ∀ (x3 : Int32), X x3 → a_X_steady l D ad cI cZ cS rs A0 (jWi Q) 61 [(1, .int x1), (3, .int x3)] [] u) : ∀ (n : Nat) (x3 : Int32) (x4 : Int32), w_X_steady_l25 X x1 u Q n x3 x4 → a_X_steady l D ad cI cZ cS rs A0 (jWi Q) 25 [(1, .int x1), (2, .ref (ad 5)), (3, .int x3), (4, .int x4)] [] u := by
  intro n
  induction n with
  | zero =>
    intro x3 x4 h
    exact (by simp only [w_X_steady_l25] at h : False).elim
  | succ n ih =>
    intro x3 x4 h
    rw [w_X_steady_l25] at h
    refine J_iload 3 dX10_steady_25 rfl ?_
    refine J_sipush (v := 256) dX10_steady_27 cs_256 ?_
    refine J_icmp_ge (tgt := 61) dX10_steady_30 rfl (fun c => ?_) (fun c => ?_)
    · have h := h.1 c
      exact J_sub (lv' := [(1, .int x1), (3, .int x3)]) [0, 2] rfl (hX x3 h)
    · have h := h.2 c
      refine J_aload_n 1 dX10_steady_33 rfl rfl ?_
      refine J_iload 3 dX10_steady_34 rfl ?_
      refine JV_Ri kV_RX10_194 5 rX_5 rfl rfl (c_H_weekBehind h) rfl rfl (by decide) (Nat.le_of_ble_eq_true rfl) dX10_steady_36 (fun r3 h => ?_)
      refine J_iload 3 dX10_steady_39 rfl ?_
      refine J_icmp_ne (tgt := 55) dX10_steady_41 rfl (fun c => ?_) (fun c => ?_)
      · have h := h.1 c
        refine J_iinc (v := (x4 + 1)) (lv' := [(4, .int (x4 + 1)), (1, .int x1), (2, .ref (ad 5)), (3, .int x3)]) 3 dX10_steady_55 rfl rfl (Nat.le_of_ble_eq_true rfl) rfl ?_
        refine J_goto (tgt := 25) dX10_steady_58 rfl ?_
        exact J_sub (lv' := [(1, .int x1), (2, .ref (ad 5)), (3, .int x3), (4, .int (x4 + 1))]) [1, 2, 3, 0] rfl (ih x3 (x4 + 1) h)
      · have h := h.2 c
        refine J_iload_n 2 dX10_steady_44 rfl rfl ?_
        refine J_iload_n 0 dX10_steady_45 rfl rfl ?_
        refine J_icmp_ne (tgt := 52) dX10_steady_46 rfl (fun c => ?_) (fun c => ?_)
        · have h := h.1 c
          refine J_iinc (v := (x3 + 1)) (lv' := [(3, .int (x3 + 1)), (1, .int x1), (2, .ref (ad 5)), (4, .int x4)]) 2 dX10_steady_52 rfl rfl (Nat.le_of_ble_eq_true rfl) rfl ?_
          refine J_iinc (v := (x4 + 1)) (lv' := [(4, .int (x4 + 1)), (3, .int (x3 + 1)), (1, .int x1), (2, .ref (ad 5))]) 3 dX10_steady_55 rfl rfl (Nat.le_of_ble_eq_true rfl) rfl ?_
          refine J_goto (tgt := 25) dX10_steady_58 rfl ?_
          exact J_sub (lv' := [(1, .int x1), (2, .ref (ad 5)), (3, .int (x3 + 1)), (4, .int (x4 + 1))]) [2, 3, 1, 0] rfl (ih (x3 + 1) (x4 + 1) h)
        · have h := h.2 c
          refine J_iload 3 dX10_steady_49 rfl ?_
          exact J_iret rfl dX10_steady_51 ⟨_, rfl, h⟩
set_option maxRecDepth 20000 in
set_option maxHeartbeats 4000000 in
theorem c_X_steady {u : Mem} {x1 : Int32} {Q : Int32 → Mem → Prop} (h : w_X_steady x1 u Q) : MX l D ad cI cZ cS rs A0 yX10_steady cX10_steady 5 (some .int) 4 [.ref (ad 0), .int x1] u (jWi Q) := by
  unfold w_X_steady at h
  refine JMet.of (by decide) (Nat.le_of_ble_eq_true rfl) ?_
  refine J_sub (lv' := [(0, .ref (ad 0)), (1, .int x1)]) [0, 1] rfl ?_
  show a_X_steady l D ad cI cZ cS rs A0 (jWi Q) 0 [(0, .ref (ad 0)), (1, .int x1)] [] u
  refine J_iload_n 1 dX10_steady_0 rfl rfl ?_
  refine J_iconst (v := (-1)) dX10_steady_1 ci_m1 ?_
  refine J_icmp_lt (tgt := 12) dX10_steady_2 rfl (fun c => ?_) (fun c => ?_)
  · have h := h.1 c
    refine J_bipush (v := (-2)) dX10_steady_12 cb_m2 ?_
    exact J_iret rfl dX10_steady_14 ⟨_, rfl, h⟩
  · have h := h.2 c
    refine J_iload_n 1 dX10_steady_5 rfl rfl ?_
    refine J_sipush (v := 255) dX10_steady_6 cs_255 ?_
    refine J_icmp_le (tgt := 15) dX10_steady_9 rfl (fun c => ?_) (fun c => ?_)
    · have h := h.1 c
      refine J_aload_n 0 dX10_steady_15 rfl rfl ?_
      refine JV_Wh kV_RX10_123 0 rX_0 rfl rfl (c_X_freshHouse h) rfl rfl (by decide) (Nat.le_of_ble_eq_true rfl) dX10_steady_16 (fun u2 h => ?_)
      refine J_astore_n (lv' := [(2, .ref (ad 5)), (0, .ref (ad 0)), (1, .int x1)]) dX10_steady_19 rfl (Nat.le_of_ble_eq_true rfl) rfl ?_
      refine J_iconst (v := 0) dX10_steady_20 ci_0 ?_
      refine J_istore_n (lv' := [(3, .int 0), (2, .ref (ad 5)), (0, .ref (ad 0)), (1, .int x1)]) dX10_steady_21 rfl (Nat.le_of_ble_eq_true rfl) rfl ?_
      refine J_iconst (v := 0) dX10_steady_22 ci_0 ?_
      refine J_istore (lv' := [(4, .int 0), (3, .int 0), (2, .ref (ad 5)), (0, .ref (ad 0)), (1, .int x1)]) dX10_steady_23 (Nat.le_of_ble_eq_true rfl) rfl ?_
      obtain ⟨n6, h⟩ := h
      refine J_sub (lv' := [(1, .int x1), (2, .ref (ad 5)), (3, .int 0), (4, .int 0)]) [4, 2, 1, 0] rfl (t_X_steady_l25 ?_ n6 0 0 h)
      · intro z5 h
        refine J_iload_n 0 dX10_steady_61 rfl rfl ?_
        refine J_iconst (v := (-1)) dX10_steady_62 ci_m1 ?_
        refine J_icmp_ne (tgt := 70) dX10_steady_63 rfl (fun c => ?_) (fun c => ?_)
        · have h := h.1 c
          refine J_iconst (v := (-1)) dX10_steady_70 ci_m1 ?_
          exact J_iret rfl dX10_steady_71 ⟨_, rfl, h⟩
        · have h := h.2 c
          refine J_iload_n 1 dX10_steady_66 rfl rfl ?_
          refine J_goto (tgt := 71) dX10_steady_67 rfl ?_
          exact J_iret rfl dX10_steady_71 ⟨_, rfl, h⟩
    · have h := h.2 c
      refine J_bipush (v := (-2)) dX10_steady_12 cb_m2 ?_
      exact J_iret rfl dX10_steady_14 ⟨_, rfl, h⟩
abbrev a_X_round (l : Launch) (D : va_G) (ad : Nat → Nat) (cI cZ cS : ClassId) (rs : va_W) (A0 : Nat → Prop) := AX l D ad cI cZ cS rs A0 cX10_round 4 (some .int) RX10 4
set_option maxRecDepth 20000 in
set_option maxHeartbeats 4000000 in
theorem c_X_round {u : Mem} {x1 : Int32} {x2 : Int32} {Q : Int32 → Mem → Prop} (h : w_X_round x1 x2 u Q) : MX l D ad cI cZ cS rs A0 yX10_round cX10_round 4 (some .int) 4 [.ref (ad 0), .int x1, .int x2] u (jWi Q) := by
  unfold w_X_round at h
  refine JMet.of (by decide) (Nat.le_of_ble_eq_true rfl) ?_
  refine J_sub (lv' := [(0, .ref (ad 0)), (1, .int x1), (2, .int x2)]) [0, 1, 2] rfl ?_
  show a_X_round l D ad cI cZ cS rs A0 (jWi Q) 0 [(0, .ref (ad 0)), (1, .int x1), (2, .int x2)] [] u
  refine J_iload_n 1 dX10_round_0 rfl rfl ?_
  refine JS_Ri kS_RX10_75 (c_X_isBits h) rfl rfl (by decide) (Nat.le_of_ble_eq_true rfl) dX10_round_1 (fun r1 h => ?_)
  refine J_if_eq (tgt := 14) dX10_round_4 rfl (fun c => ?_) (fun c => ?_)
  · have h := h.1 c
    refine J_bipush (v := (-2)) dX10_round_14 cb_m2 ?_
    exact J_iret rfl dX10_round_16 ⟨_, rfl, h⟩
  · have h := h.2 c
    refine J_iload_n 2 dX10_round_7 rfl rfl ?_
    refine JS_Ri kS_RX10_112 (c_X_isEither h) rfl rfl (by decide) (Nat.le_of_ble_eq_true rfl) dX10_round_8 (fun r3 h => ?_)
    refine J_if_ne (tgt := 17) dX10_round_11 rfl (fun c => ?_) (fun c => ?_)
    · have h := h.1 c
      refine J_aload_n 0 dX10_round_17 rfl rfl ?_
      refine JV_Wh kV_RX10_123 0 rX_0 rfl rfl (c_X_freshHouse h) rfl rfl (by decide) (Nat.le_of_ble_eq_true rfl) dX10_round_18 (fun u6 h => ?_)
      refine J_astore_n (lv' := [(3, .ref (ad 5)), (0, .ref (ad 0)), (1, .int x1), (2, .int x2)]) dX10_round_21 rfl (Nat.le_of_ble_eq_true rfl) rfl ?_
      refine J_iload_n 3 dX10_round_22 rfl rfl ?_
      refine J_if_ne (tgt := 34) dX10_round_23 rfl (fun c => ?_) (fun c => ?_)
      · have h := h.1 c
        refine J_aload_n 0 dX10_round_34 rfl rfl ?_
        refine J_iload_n 2 dX10_round_35 rfl rfl ?_
        refine JS_Ri kS_RX10_201 (c_P_roundLength h) rfl rfl (by decide) (Nat.le_of_ble_eq_true rfl) dX10_round_36 (fun r7 h => ?_)
        exact J_iret rfl dX10_round_39 ⟨_, rfl, h⟩
      · have h := h.2 c
        refine J_aload_n 0 dX10_round_26 rfl rfl ?_
        refine J_iload_n 2 dX10_round_27 rfl rfl ?_
        refine JS_Ri kS_RX10_197 (c_P_weeksToRepeat h) rfl rfl (by decide) (Nat.le_of_ble_eq_true rfl) dX10_round_28 (fun r9 h => ?_)
        refine J_goto (tgt := 39) dX10_round_31 rfl ?_
        exact J_iret rfl dX10_round_39 ⟨_, rfl, h⟩
    · have h := h.2 c
      refine J_bipush (v := (-2)) dX10_round_14 cb_m2 ?_
      exact J_iret rfl dX10_round_16 ⟨_, rfl, h⟩
abbrev a_X_seen (l : Launch) (D : va_G) (ad : Nat → Nat) (cI cZ cS : ClassId) (rs : va_W) (A0 : Nat → Prop) := AX l D ad cI cZ cS rs A0 cX10_seen 3 (some .int) RX10 1
set_option maxRecDepth 20000 in
set_option maxHeartbeats 4000000 in
theorem c_X_seen {u : Mem} {x1 : Int32} {x2 : Int32} {Q : Int32 → Mem → Prop} (h : w_X_seen x1 x2 u Q) : MX l D ad cI cZ cS rs A0 yX10_seen cX10_seen 3 (some .int) 1 [.ref (ad 0), .int x1, .int x2] u (jWi Q) := by
  unfold w_X_seen at h
  refine JMet.of (by decide) (Nat.le_of_ble_eq_true rfl) ?_
  refine J_sub (lv' := [(0, .ref (ad 0)), (1, .int x1), (2, .int x2)]) [0, 1, 2] rfl ?_
  show a_X_seen l D ad cI cZ cS rs A0 (jWi Q) 0 [(0, .ref (ad 0)), (1, .int x1), (2, .int x2)] [] u
  refine J_iload_n 1 dX10_seen_0 rfl rfl ?_
  refine JS_Ri kS_RX10_75 (c_X_isBits h) rfl rfl (by decide) (Nat.le_of_ble_eq_true rfl) dX10_seen_1 (fun r1 h => ?_)
  refine J_if_eq (tgt := 14) dX10_seen_4 rfl (fun c => ?_) (fun c => ?_)
  · have h := h.1 c
    refine J_bipush (v := (-2)) dX10_seen_14 cb_m2 ?_
    exact J_iret rfl dX10_seen_16 ⟨_, rfl, h⟩
  · have h := h.2 c
    refine J_iload_n 2 dX10_seen_7 rfl rfl ?_
    refine JS_Ri kS_RX10_75 (c_X_isBits h) rfl rfl (by decide) (Nat.le_of_ble_eq_true rfl) dX10_seen_8 (fun r3 h => ?_)
    refine J_if_ne (tgt := 17) dX10_seen_11 rfl (fun c => ?_) (fun c => ?_)
    · have h := h.1 c
      refine J_aload_n 0 dX10_seen_17 rfl rfl ?_
      refine gX_0_6 dX10_seen_18 ?_
      refine J_iload_n 1 dX10_seen_21 rfl rfl ?_
      refine J_iload_n 2 dX10_seen_22 rfl rfl ?_
      refine JV_Wi kV_RX10_204 7 rX_7 rfl rfl (c_S_addSight h) rfl rfl (by decide) (Nat.le_of_ble_eq_true rfl) dX10_seen_23 (fun r5 u6 h => ?_)
      refine J_if_ne (tgt := 32) dX10_seen_26 rfl (fun c => ?_) (fun c => ?_)
      · have h := h.1 c
        refine J_aload_n 0 dX10_seen_32 rfl rfl ?_
        refine gX_0_6 dX10_seen_33 ?_
        refine JV_Ri kV_RX10_208 7 rX_7 rfl rfl (c_S_size h) rfl rfl (by decide) (Nat.le_of_ble_eq_true rfl) dX10_seen_36 (fun r7 h => ?_)
        exact J_iret rfl dX10_seen_39 ⟨_, rfl, h⟩
      · have h := h.2 c
        refine J_bipush (v := (-4)) dX10_seen_29 cb_m4 ?_
        exact J_iret rfl dX10_seen_31 ⟨_, rfl, h⟩
    · have h := h.2 c
      refine J_bipush (v := (-2)) dX10_seen_14 cb_m2 ?_
      exact J_iret rfl dX10_seen_16 ⟨_, rfl, h⟩
abbrev a_X_forget (l : Launch) (D : va_G) (ad : Nat → Nat) (cI cZ cS : ClassId) (rs : va_W) (A0 : Nat → Prop) := AX l D ad cI cZ cS rs A0 cX10_forget 2 (some .int) RX10 1
set_option maxRecDepth 20000 in
set_option maxHeartbeats 4000000 in
theorem c_X_forget {u : Mem} {Q : Int32 → Mem → Prop} (h : w_X_forget u Q) : MX l D ad cI cZ cS rs A0 yX10_forget cX10_forget 2 (some .int) 1 [.ref (ad 0)] u (jWi Q) := by
  unfold w_X_forget at h
  refine JMet.of (by decide) (Nat.le_of_ble_eq_true rfl) ?_
  refine J_sub (lv' := [(0, .ref (ad 0))]) [0] rfl ?_
  show a_X_forget l D ad cI cZ cS rs A0 (jWi Q) 0 [(0, .ref (ad 0))] [] u
  refine J_aload_n 0 dX10_forget_0 rfl rfl ?_
  refine gX_0_6 dX10_forget_1 ?_
  refine JV_Ri kV_RX10_208 7 rX_7 rfl rfl (c_S_size h) rfl rfl (by decide) (Nat.le_of_ble_eq_true rfl) dX10_forget_4 (fun r1 h => ?_)
  refine J_istore_n (lv' := [(1, .int r1), (0, .ref (ad 0))]) dX10_forget_7 rfl (Nat.le_of_ble_eq_true rfl) rfl ?_
  refine J_aload_n 1 dX10_forget_8 rfl rfl ?_
  refine gX_0_6 dX10_forget_9 ?_
  refine JV_Wv kV_RX10_209 7 rX_7 rfl rfl (c_S_clear h) rfl rfl (by decide) (Nat.le_of_ble_eq_true rfl) dX10_forget_12 (fun u4 h => ?_)
  refine J_iload_n 0 dX10_forget_15 rfl rfl ?_
  exact J_iret rfl dX10_forget_16 ⟨_, rfl, h⟩
abbrev a_X_isSheet (l : Launch) (D : va_G) (ad : Nat → Nat) (cI cZ cS : ClassId) (rs : va_W) (A0 : Nat → Prop) := AX l D ad cI cZ cS rs A0 cX10_isSheet 1 (some .boolean) RX10 0
set_option maxRecDepth 20000 in
set_option maxHeartbeats 4000000 in
theorem c_X_isSheet {u : Mem} {x0 : Int32} {Q : Int32 → Prop} (h : w_X_isSheet x0 Q) : MX l D ad cI cZ cS rs A0 yX10_isSheet cX10_isSheet 1 (some .boolean) 0 [.int x0] u (jRi u Q) := by
  unfold w_X_isSheet at h
  refine JMet.of (by decide) (Nat.le_of_ble_eq_true rfl) ?_
  refine J_sub (lv' := [(0, .int x0)]) [0] rfl ?_
  show a_X_isSheet l D ad cI cZ cS rs A0 (jRi u Q) 0 [(0, .int x0)] [] u
  refine J_iload_n 0 dX10_isSheet_0 rfl rfl ?_
  refine J_if_lt (tgt := 13) dX10_isSheet_1 rfl (fun c => ?_) (fun c => ?_)
  · have h := h.1 c
    refine J_iconst (v := 0) dX10_isSheet_13 ci_0 ?_
    exact J_zret rfl dX10_isSheet_14 (bz_n bz_0) ⟨rfl, _, rfl, h⟩
  · have h := h.2 c
    refine J_iload_n 0 dX10_isSheet_4 rfl rfl ?_
    refine J_iconst (v := 4) dX10_isSheet_5 ci_4 ?_
    refine J_icmp_ge (tgt := 13) dX10_isSheet_6 rfl (fun c => ?_) (fun c => ?_)
    · have h := h.1 c
      refine J_iconst (v := 0) dX10_isSheet_13 ci_0 ?_
      exact J_zret rfl dX10_isSheet_14 (bz_n bz_0) ⟨rfl, _, rfl, h⟩
    · have h := h.2 c
      refine J_iconst (v := 1) dX10_isSheet_9 ci_1 ?_
      refine J_goto (tgt := 14) dX10_isSheet_10 rfl ?_
      exact J_zret rfl dX10_isSheet_14 (bz_n bz_1) ⟨rfl, _, rfl, h⟩
abbrev a_X_finding (l : Launch) (D : va_G) (ad : Nat → Nat) (cI cZ cS : ClassId) (rs : va_W) (A0 : Nat → Prop) := AX l D ad cI cZ cS rs A0 cX10_finding 2 (some .int) RX10 0
set_option maxRecDepth 20000 in
set_option maxHeartbeats 4000000 in
theorem c_X_finding {u : Mem} {x1 : Int32} {Q : Int32 → Mem → Prop} (h : w_X_finding x1 u Q) : MX l D ad cI cZ cS rs A0 yX10_finding cX10_finding 2 (some .int) 0 [.ref (ad 0), .int x1] u (jWi Q) := by
  unfold w_X_finding at h
  refine JMet.of (by decide) (Nat.le_of_ble_eq_true rfl) ?_
  refine J_sub (lv' := [(0, .ref (ad 0)), (1, .int x1)]) [0, 1] rfl ?_
  show a_X_finding l D ad cI cZ cS rs A0 (jWi Q) 0 [(0, .ref (ad 0)), (1, .int x1)] [] u
  refine J_aload_n 0 dX10_finding_0 rfl rfl ?_
  refine J_iload_n 1 dX10_finding_1 rfl rfl ?_
  refine pX_0_9 dX10_finding_2 ?_
  refine J_bipush (v := (-10)) dX10_finding_5 cb_m10 ?_
  refine J_iload_n 1 dX10_finding_7 rfl rfl ?_
  refine J_isub dX10_finding_8 ?_
  exact J_iret rfl dX10_finding_9 ⟨_, rfl, h⟩
abbrev a_X_read (l : Launch) (D : va_G) (ad : Nat → Nat) (cI cZ cS : ClassId) (rs : va_W) (A0 : Nat → Prop) := AX l D ad cI cZ cS rs A0 cX10_read 7 (some .int) RX10 2
set_option maxRecDepth 20000 in
set_option maxHeartbeats 4000000 in
theorem t_X_read_l40  {X : Int32 → Mem → Prop} {j2 : Nat} {Q : Int32 → Mem → Prop} (hj2 : j2 < 4) (hX : ∀ (x3 : Int32) (u : Mem), X x3 u → a_X_read l D ad cI cZ cS rs A0 (jWi Q) 110 [(3, .int x3)] [] u) : ∀ (n : Nat) (x3 : Int32) (x4 : Int32) (u : Mem), w_X_read_l40 X j2 Q n x3 x4 u → a_X_read l D ad cI cZ cS rs A0 (jWi Q) 40 [(0, .ref (ad 0)), (2, .ref (ad (9 + j2))), (3, .int x3), (4, .int x4)] [] u := by
  intro n
  induction n with
  | zero =>
    intro x3 x4 u h
    exact (by simp only [w_X_read_l40] at h : False).elim
  | succ n ih =>
    intro x3 x4 u h
    rw [w_X_read_l40] at h
    refine J_iload 3 dX10_read_40 rfl ?_
    refine J_iconst (v := 1) dX10_read_42 ci_1 ?_
    refine J_iadd dX10_read_43 ?_
    refine J_aload_n 1 dX10_read_44 rfl rfl ?_
    refine JV_Ri kV_RX10_219 (9 + j2) (rX_sh hj2) rfl rfl (c_Z_size hj2 h) rfl rfl (by decide) (Nat.le_of_ble_eq_true rfl) dX10_read_45 (fun r7 h => ?_)
    refine J_icmp_ge (tgt := 110) dX10_read_48 rfl (fun c => ?_) (fun c => ?_)
    · have h := h.1 c
      exact J_sub (lv' := [(3, .int x3)]) [2] rfl (hX x3 u h)
    · have h := h.2 c
      refine J_aload_n 1 dX10_read_51 rfl rfl ?_
      refine J_iload 3 dX10_read_52 rfl ?_
      refine JV_Ri kV_RX10_220 (9 + j2) (rX_sh hj2) rfl rfl (c_Z_item hj2 h) rfl rfl (by decide) (Nat.le_of_ble_eq_true rfl) dX10_read_54 (fun r9 h => ?_)
      refine J_istore (lv' := [(5, .int r9), (0, .ref (ad 0)), (2, .ref (ad (9 + j2))), (3, .int x3), (4, .int x4)]) dX10_read_57 (Nat.le_of_ble_eq_true rfl) rfl ?_
      refine J_aload_n 2 dX10_read_59 rfl rfl ?_
      refine J_iload 4 dX10_read_60 rfl ?_
      refine J_iconst (v := 1) dX10_read_62 ci_1 ?_
      refine J_iadd dX10_read_63 ?_
      refine JV_Ri kV_RX10_220 (9 + j2) (rX_sh hj2) rfl rfl (c_Z_item hj2 h) rfl rfl (by decide) (Nat.le_of_ble_eq_true rfl) dX10_read_64 (fun r11 h => ?_)
      refine J_istore (lv' := [(6, .int r11), (5, .int r9), (0, .ref (ad 0)), (2, .ref (ad (9 + j2))), (3, .int x3), (4, .int x4)]) dX10_read_67 (Nat.le_of_ble_eq_true rfl) rfl ?_
      refine J_iload 1 dX10_read_69 rfl ?_
      refine JS_Ri kS_RX10_75 (c_X_isBits h) rfl rfl (by decide) (Nat.le_of_ble_eq_true rfl) dX10_read_71 (fun r13 h => ?_)
      refine J_if_eq (tgt := 99) dX10_read_74 rfl (fun c => ?_) (fun c => ?_)
      · have h := h.1 c
        refine J_iload_n 4 dX10_read_99 rfl rfl ?_
        exact J_iret rfl dX10_read_100 ⟨_, rfl, h⟩
      · have h := h.2 c
        refine J_iload 0 dX10_read_77 rfl ?_
        refine JS_Ri kS_RX10_75 (c_X_isBits h) rfl rfl (by decide) (Nat.le_of_ble_eq_true rfl) dX10_read_79 (fun r15 h => ?_)
        refine J_if_eq (tgt := 99) dX10_read_82 rfl (fun c => ?_) (fun c => ?_)
        · have h := h.1 c
          refine J_iload_n 4 dX10_read_99 rfl rfl ?_
          exact J_iret rfl dX10_read_100 ⟨_, rfl, h⟩
        · have h := h.2 c
          refine J_aload_n 2 dX10_read_85 rfl rfl ?_
          refine gX_0_6 dX10_read_86 ?_
          refine J_iload 1 dX10_read_89 rfl ?_
          refine J_iload 0 dX10_read_91 rfl ?_
          refine JV_Wi kV_RX10_204 7 rX_7 rfl rfl (c_S_addSight h) rfl rfl (by decide) (Nat.le_of_ble_eq_true rfl) dX10_read_93 (fun r17 u18 h => ?_)
          refine J_if_ne (tgt := 101) dX10_read_96 rfl (fun c => ?_) (fun c => ?_)
          · have h := h.1 c
            refine J_iinc (v := (x3 + 1)) (lv' := [(3, .int (x3 + 1)), (6, .int r11), (5, .int r9), (0, .ref (ad 0)), (2, .ref (ad (9 + j2))), (4, .int x4)]) 4 dX10_read_101 rfl rfl (Nat.le_of_ble_eq_true rfl) rfl ?_
            refine J_iinc (v := (x4 + 2)) (lv' := [(4, .int (x4 + 2)), (3, .int (x3 + 1)), (6, .int r11), (5, .int r9), (0, .ref (ad 0)), (2, .ref (ad (9 + j2)))]) 5 dX10_read_104 rfl rfl (Nat.le_of_ble_eq_true rfl) rfl ?_
            refine J_goto (tgt := 40) dX10_read_107 rfl ?_
            exact J_sub (lv' := [(0, .ref (ad 0)), (2, .ref (ad (9 + j2))), (3, .int (x3 + 1)), (4, .int (x4 + 2))]) [4, 5, 1, 0] rfl (ih (x3 + 1) (x4 + 2) u18 h)
          · have h := h.2 c
            refine J_iload_n 4 dX10_read_99 rfl rfl ?_
            exact J_iret rfl dX10_read_100 ⟨_, rfl, h⟩
set_option maxRecDepth 20000 in
set_option maxHeartbeats 4000000 in
theorem c_X_read {u : Mem} {x1 : Int32} {Q : Int32 → Mem → Prop} (h : w_X_read x1 u Q) : MX l D ad cI cZ cS rs A0 yX10_read cX10_read 7 (some .int) 2 [.ref (ad 0), .int x1] u (jWi Q) := by
  unfold w_X_read at h
  refine JMet.of (by decide) (Nat.le_of_ble_eq_true rfl) ?_
  refine J_sub (lv' := [(0, .ref (ad 0)), (1, .int x1)]) [0, 1] rfl ?_
  show a_X_read l D ad cI cZ cS rs A0 (jWi Q) 0 [(0, .ref (ad 0)), (1, .int x1)] [] u
  refine J_iload_n 1 dX10_read_0 rfl rfl ?_
  refine JS_Ri kS_RX10_210 (c_X_isSheet h) rfl rfl (by decide) (Nat.le_of_ble_eq_true rfl) dX10_read_1 (fun r1 h => ?_)
  refine J_if_ne (tgt := 10) dX10_read_4 rfl (fun c => ?_) (fun c => ?_)
  · have h := h.1 c
    refine J_aload_n 0 dX10_read_10 rfl rfl ?_
    refine gX_0_7 dX10_read_11 ?_
    refine J_iload_n 1 dX10_read_14 rfl rfl ?_
    refine aX_sheets h.1 dX10_read_15 ?_
    have hj3 := vp_lt h.1
    have h := h.2
    refine JV_Ri kV_RX10_213 (9 + x1.toNatClampNeg) (rX_sh hj3) rfl rfl (c_Z_isLost hj3 h) rfl rfl (by decide) (Nat.le_of_ble_eq_true rfl) dX10_read_16 (fun r4 h => ?_)
    refine J_if_eq (tgt := 28) dX10_read_19 rfl (fun c => ?_) (fun c => ?_)
    · have h := h.1 c
      refine J_aload_n 0 dX10_read_28 rfl rfl ?_
      refine gX_0_7 dX10_read_29 ?_
      refine J_iload_n 1 dX10_read_32 rfl rfl ?_
      refine aX_sheets h.1 dX10_read_33 ?_
      have hj6 := vp_lt h.1
      have h := h.2
      refine J_astore_n (lv' := [(2, .ref (ad (9 + x1.toNatClampNeg))), (0, .ref (ad 0)), (1, .int x1)]) dX10_read_34 rfl (Nat.le_of_ble_eq_true rfl) rfl ?_
      refine J_iconst (v := 0) dX10_read_35 ci_0 ?_
      refine J_istore_n (lv' := [(3, .int 0), (2, .ref (ad (9 + x1.toNatClampNeg))), (0, .ref (ad 0)), (1, .int x1)]) dX10_read_36 rfl (Nat.le_of_ble_eq_true rfl) rfl ?_
      refine J_iconst (v := 0) dX10_read_37 ci_0 ?_
      refine J_istore (lv' := [(4, .int 0), (3, .int 0), (2, .ref (ad (9 + x1.toNatClampNeg))), (0, .ref (ad 0)), (1, .int x1)]) dX10_read_38 (Nat.le_of_ble_eq_true rfl) rfl ?_
      obtain ⟨n21, h⟩ := h
      refine J_sub (lv' := [(0, .ref (ad 0)), (2, .ref (ad (9 + x1.toNatClampNeg))), (3, .int 0), (4, .int 0)]) [3, 2, 1, 0] rfl (t_X_read_l40 hj6 ?_ n21 0 0 u h)
      · intro z19 u20 h
        refine J_iload_n 0 dX10_read_110 rfl rfl ?_
        exact J_iret rfl dX10_read_111 ⟨_, rfl, h⟩
    · have h := h.2 c
      refine J_aload_n 0 dX10_read_22 rfl rfl ?_
      refine J_iconst (v := 1) dX10_read_23 ci_1 ?_
      refine JV_Wi kV_RX10_216 0 rX_0 rfl rfl (c_X_finding h) rfl rfl (by decide) (Nat.le_of_ble_eq_true rfl) dX10_read_24 (fun r22 u23 h => ?_)
      exact J_iret rfl dX10_read_27 ⟨_, rfl, h⟩
  · have h := h.2 c
    refine J_bipush (v := (-2)) dX10_read_7 cb_m2 ?_
    exact J_iret rfl dX10_read_9 ⟨_, rfl, h⟩
abbrev a_X_stands (l : Launch) (D : va_G) (ad : Nat → Nat) (cI cZ cS : ClassId) (rs : va_W) (A0 : Nat → Prop) := AX l D ad cI cZ cS rs A0 cX10_stands 3 (some .int) RX10 2
set_option maxRecDepth 20000 in
set_option maxHeartbeats 4000000 in
theorem c_X_stands {u : Mem} {x1 : Int32} {x2 : Int32} {Q : Int32 → Prop} (h : w_X_stands x1 x2 u Q) : MX l D ad cI cZ cS rs A0 yX10_stands cX10_stands 3 (some .int) 2 [.ref (ad 0), .int x1, .int x2] u (jRi u Q) := by
  unfold w_X_stands at h
  refine JMet.of (by decide) (Nat.le_of_ble_eq_true rfl) ?_
  refine J_sub (lv' := [(0, .ref (ad 0)), (1, .int x1), (2, .int x2)]) [0, 1, 2] rfl ?_
  show a_X_stands l D ad cI cZ cS rs A0 (jRi u Q) 0 [(0, .ref (ad 0)), (1, .int x1), (2, .int x2)] [] u
  refine J_iload_n 1 dX10_stands_0 rfl rfl ?_
  refine JS_Ri kS_RX10_136 (c_X_isThing h) rfl rfl (by decide) (Nat.le_of_ble_eq_true rfl) dX10_stands_1 (fun r1 h => ?_)
  refine J_if_eq (tgt := 14) dX10_stands_4 rfl (fun c => ?_) (fun c => ?_)
  · have h := h.1 c
    refine J_bipush (v := (-2)) dX10_stands_14 cb_m2 ?_
    exact J_iret rfl dX10_stands_16 ⟨rfl, _, rfl, h⟩
  · have h := h.2 c
    refine J_iload_n 2 dX10_stands_7 rfl rfl ?_
    refine JS_Ri kS_RX10_112 (c_X_isEither h) rfl rfl (by decide) (Nat.le_of_ble_eq_true rfl) dX10_stands_8 (fun r3 h => ?_)
    refine J_if_ne (tgt := 17) dX10_stands_11 rfl (fun c => ?_) (fun c => ?_)
    · have h := h.1 c
      refine J_iload_n 2 dX10_stands_17 rfl rfl ?_
      refine J_if_ne (tgt := 32) dX10_stands_18 rfl (fun c => ?_) (fun c => ?_)
      · have h := h.1 c
        refine J_aload_n 0 dX10_stands_32 rfl rfl ?_
        refine gX_0_6 dX10_stands_33 ?_
        refine J_iload_n 1 dX10_stands_36 rfl rfl ?_
        refine JV_Ri kV_RX10_226 7 rX_7 rfl rfl (c_S_fewestStand h) rfl rfl (by decide) (Nat.le_of_ble_eq_true rfl) dX10_stands_37 (fun r5 h => ?_)
        exact J_iret rfl dX10_stands_40 ⟨rfl, _, rfl, h⟩
      · have h := h.2 c
        refine J_aload_n 0 dX10_stands_21 rfl rfl ?_
        refine gX_0_6 dX10_stands_22 ?_
        refine J_iload_n 1 dX10_stands_25 rfl rfl ?_
        refine JV_Ri kV_RX10_223 7 rX_7 rfl rfl (c_S_howManyStand h) rfl rfl (by decide) (Nat.le_of_ble_eq_true rfl) dX10_stands_26 (fun r7 h => ?_)
        refine J_goto (tgt := 40) dX10_stands_29 rfl ?_
        exact J_iret rfl dX10_stands_40 ⟨rfl, _, rfl, h⟩
    · have h := h.2 c
      refine J_bipush (v := (-2)) dX10_stands_14 cb_m2 ?_
      exact J_iret rfl dX10_stands_16 ⟨rfl, _, rfl, h⟩
abbrev a_X_watch (l : Launch) (D : va_G) (ad : Nat → Nat) (cI cZ cS : ClassId) (rs : va_W) (A0 : Nat → Prop) := AX l D ad cI cZ cS rs A0 cX10_watch 2 (some .int) RX10 3
set_option maxRecDepth 20000 in
set_option maxHeartbeats 4000000 in
theorem c_X_watch {u : Mem} {x1 : Int32} {Q : Int32 → Prop} (h : w_X_watch x1 u Q) : MX l D ad cI cZ cS rs A0 yX10_watch cX10_watch 2 (some .int) 3 [.ref (ad 0), .int x1] u (jRi u Q) := by
  unfold w_X_watch at h
  refine JMet.of (by decide) (Nat.le_of_ble_eq_true rfl) ?_
  refine J_sub (lv' := [(0, .ref (ad 0)), (1, .int x1)]) [0, 1] rfl ?_
  show a_X_watch l D ad cI cZ cS rs A0 (jRi u Q) 0 [(0, .ref (ad 0)), (1, .int x1)] [] u
  refine J_iload_n 1 dX10_watch_0 rfl rfl ?_
  refine JS_Ri kS_RX10_136 (c_X_isThing h) rfl rfl (by decide) (Nat.le_of_ble_eq_true rfl) dX10_watch_1 (fun r1 h => ?_)
  refine J_if_eq (tgt := 18) dX10_watch_4 rfl (fun c => ?_) (fun c => ?_)
  · have h := h.1 c
    refine J_bipush (v := (-2)) dX10_watch_18 cb_m2 ?_
    exact J_iret rfl dX10_watch_20 ⟨rfl, _, rfl, h⟩
  · have h := h.2 c
    refine J_aload_n 0 dX10_watch_7 rfl rfl ?_
    refine gX_0_6 dX10_watch_8 ?_
    refine J_iload_n 1 dX10_watch_11 rfl rfl ?_
    refine JV_Ri kV_RX10_229 7 rX_7 rfl rfl (c_S_nearestHalf h) rfl rfl (by decide) (Nat.le_of_ble_eq_true rfl) dX10_watch_12 (fun r3 h => ?_)
    refine J_goto (tgt := 20) dX10_watch_15 rfl ?_
    exact J_iret rfl dX10_watch_20 ⟨rfl, _, rfl, h⟩
abbrev a_X_moved (l : Launch) (D : va_G) (ad : Nat → Nat) (cI cZ cS : ClassId) (rs : va_W) (A0 : Nat → Prop) := AX l D ad cI cZ cS rs A0 cX10_moved 5 (some .int) RX10 4
set_option maxRecDepth 20000 in
set_option maxHeartbeats 4000000 in
theorem t_X_moved_l20 {u : Mem}  {X : Int32 → Prop} {x1 : Int32} {Q : Int32 → Mem → Prop} (hX : ∀ (x3 : Int32), X x3 → a_X_moved l D ad cI cZ cS rs A0 (jWi Q) 60 [(3, .int x3)] [] u) : ∀ (n : Nat) (x3 : Int32) (x4 : Int32), w_X_moved_l20 X x1 u Q n x3 x4 → a_X_moved l D ad cI cZ cS rs A0 (jWi Q) 20 [(0, .ref (ad 0)), (1, .int x1), (2, .ref (ad 5)), (3, .int x3), (4, .int x4)] [] u := by
  intro n
  induction n with
  | zero =>
    intro x3 x4 h
    exact (by simp only [w_X_moved_l20] at h : False).elim
  | succ n ih =>
    intro x3 x4 h
    rw [w_X_moved_l20] at h
    refine J_iload 4 dX10_moved_20 rfl ?_
    refine J_bipush (v := 8) dX10_moved_22 cb_8 ?_
    refine J_icmp_ge (tgt := 60) dX10_moved_24 rfl (fun c => ?_) (fun c => ?_)
    · have h := h.1 c
      exact J_sub (lv' := [(3, .int x3)]) [3] rfl (hX x3 h)
    · have h := h.2 c
      refine J_aload_n 2 dX10_moved_27 rfl rfl ?_
      refine J_aload_n 0 dX10_moved_28 rfl rfl ?_
      refine gX_0_5 dX10_moved_29 ?_
      refine JV_Ri kV_RX10_117 6 rX_6 rfl rfl (c_K_firstSet h) rfl rfl (by decide) (Nat.le_of_ble_eq_true rfl) dX10_moved_32 (fun r5 h => ?_)
      refine J_iconst (v := 1) dX10_moved_35 ci_1 ?_
      refine J_iload 4 dX10_moved_36 rfl ?_
      refine J_ishl dX10_moved_38 ?_
      refine J_ixor dX10_moved_39 ?_
      refine JV_Ri kV_RX10_127 5 rX_5 rfl rfl (c_H_comesBy h) rfl rfl (by decide) (Nat.le_of_ble_eq_true rfl) dX10_moved_40 (fun r7 h => ?_)
      refine J_iload_n 1 dX10_moved_43 rfl rfl ?_
      refine J_icmp_ne (tgt := 54) dX10_moved_44 rfl (fun c => ?_) (fun c => ?_)
      · have h := h.1 c
        refine J_iinc (v := (x4 + 1)) (lv' := [(4, .int (x4 + 1)), (0, .ref (ad 0)), (1, .int x1), (2, .ref (ad 5)), (3, .int x3)]) 4 dX10_moved_54 rfl rfl (Nat.le_of_ble_eq_true rfl) rfl ?_
        refine J_goto (tgt := 20) dX10_moved_57 rfl ?_
        exact J_sub (lv' := [(0, .ref (ad 0)), (1, .int x1), (2, .ref (ad 5)), (3, .int x3), (4, .int (x4 + 1))]) [1, 2, 3, 4, 0] rfl (ih x3 (x4 + 1) h)
      · have h := h.2 c
        refine J_iload_n 3 dX10_moved_47 rfl rfl ?_
        refine J_iconst (v := 1) dX10_moved_48 ci_1 ?_
        refine J_iload 4 dX10_moved_49 rfl ?_
        refine J_ishl dX10_moved_51 ?_
        refine J_ior dX10_moved_52 ?_
        refine J_istore_n (lv' := [(3, .int (x3 ||| ((1 : Int32) <<< (x4 &&& 31)))), (0, .ref (ad 0)), (1, .int x1), (2, .ref (ad 5)), (4, .int x4)]) dX10_moved_53 rfl (Nat.le_of_ble_eq_true rfl) rfl ?_
        refine J_iinc (v := (x4 + 1)) (lv' := [(4, .int (x4 + 1)), (3, .int (x3 ||| ((1 : Int32) <<< (x4 &&& 31)))), (0, .ref (ad 0)), (1, .int x1), (2, .ref (ad 5))]) 4 dX10_moved_54 rfl rfl (Nat.le_of_ble_eq_true rfl) rfl ?_
        refine J_goto (tgt := 20) dX10_moved_57 rfl ?_
        exact J_sub (lv' := [(0, .ref (ad 0)), (1, .int x1), (2, .ref (ad 5)), (3, .int (x3 ||| ((1 : Int32) <<< (x4 &&& 31)))), (4, .int (x4 + 1))]) [2, 3, 4, 1, 0] rfl (ih (x3 ||| ((1 : Int32) <<< (x4 &&& 31))) (x4 + 1) h)
set_option maxRecDepth 20000 in
set_option maxHeartbeats 4000000 in
theorem c_X_moved {u : Mem} {x1 : Int32} {Q : Int32 → Mem → Prop} (h : w_X_moved x1 u Q) : MX l D ad cI cZ cS rs A0 yX10_moved cX10_moved 5 (some .int) 4 [.ref (ad 0), .int x1] u (jWi Q) := by
  unfold w_X_moved at h
  refine JMet.of (by decide) (Nat.le_of_ble_eq_true rfl) ?_
  refine J_sub (lv' := [(0, .ref (ad 0)), (1, .int x1)]) [0, 1] rfl ?_
  show a_X_moved l D ad cI cZ cS rs A0 (jWi Q) 0 [(0, .ref (ad 0)), (1, .int x1)] [] u
  refine J_iload_n 1 dX10_moved_0 rfl rfl ?_
  refine JS_Ri kS_RX10_75 (c_X_isBits h) rfl rfl (by decide) (Nat.le_of_ble_eq_true rfl) dX10_moved_1 (fun r1 h => ?_)
  refine J_if_ne (tgt := 10) dX10_moved_4 rfl (fun c => ?_) (fun c => ?_)
  · have h := h.1 c
    refine J_aload_n 0 dX10_moved_10 rfl rfl ?_
    refine JV_Wh kV_RX10_123 0 rX_0 rfl rfl (c_X_freshHouse h) rfl rfl (by decide) (Nat.le_of_ble_eq_true rfl) dX10_moved_11 (fun u4 h => ?_)
    refine J_astore_n (lv' := [(2, .ref (ad 5)), (0, .ref (ad 0)), (1, .int x1)]) dX10_moved_14 rfl (Nat.le_of_ble_eq_true rfl) rfl ?_
    refine J_iconst (v := 0) dX10_moved_15 ci_0 ?_
    refine J_istore_n (lv' := [(3, .int 0), (2, .ref (ad 5)), (0, .ref (ad 0)), (1, .int x1)]) dX10_moved_16 rfl (Nat.le_of_ble_eq_true rfl) rfl ?_
    refine J_iconst (v := 0) dX10_moved_17 ci_0 ?_
    refine J_istore (lv' := [(4, .int 0), (3, .int 0), (2, .ref (ad 5)), (0, .ref (ad 0)), (1, .int x1)]) dX10_moved_18 (Nat.le_of_ble_eq_true rfl) rfl ?_
    obtain ⟨n10, h⟩ := h
    refine J_sub (lv' := [(0, .ref (ad 0)), (1, .int x1), (2, .ref (ad 5)), (3, .int 0), (4, .int 0)]) [3, 4, 2, 1, 0] rfl (t_X_moved_l20 ?_ n10 0 0 h)
    · intro z9 h
      refine J_iload_n 0 dX10_moved_60 rfl rfl ?_
      exact J_iret rfl dX10_moved_61 ⟨_, rfl, h⟩
  · have h := h.2 c
    refine J_bipush (v := (-2)) dX10_moved_7 cb_m2 ?_
    exact J_iret rfl dX10_moved_9 ⟨_, rfl, h⟩
abbrev a_X_isChance (l : Launch) (D : va_G) (ad : Nat → Nat) (cI cZ cS : ClassId) (rs : va_W) (A0 : Nat → Prop) := AX l D ad cI cZ cS rs A0 cX10_isChance 1 (some .boolean) RX10 0
set_option maxRecDepth 20000 in
set_option maxHeartbeats 4000000 in
theorem c_X_isChance {u : Mem} {x0 : Int32} {Q : Int32 → Prop} (h : w_X_isChance x0 Q) : MX l D ad cI cZ cS rs A0 yX10_isChance cX10_isChance 1 (some .boolean) 0 [.int x0] u (jRi u Q) := by
  unfold w_X_isChance at h
  refine JMet.of (by decide) (Nat.le_of_ble_eq_true rfl) ?_
  refine J_sub (lv' := [(0, .int x0)]) [0] rfl ?_
  show a_X_isChance l D ad cI cZ cS rs A0 (jRi u Q) 0 [(0, .int x0)] [] u
  refine J_iload_n 0 dX10_isChance_0 rfl rfl ?_
  refine J_if_lt (tgt := 14) dX10_isChance_1 rfl (fun c => ?_) (fun c => ?_)
  · have h := h.1 c
    refine J_iconst (v := 0) dX10_isChance_14 ci_0 ?_
    exact J_zret rfl dX10_isChance_15 (bz_n bz_0) ⟨rfl, _, rfl, h⟩
  · have h := h.2 c
    refine J_iload_n 0 dX10_isChance_4 rfl rfl ?_
    refine J_bipush (v := 16) dX10_isChance_5 cb_16 ?_
    refine J_icmp_gt (tgt := 14) dX10_isChance_7 rfl (fun c => ?_) (fun c => ?_)
    · have h := h.1 c
      refine J_iconst (v := 0) dX10_isChance_14 ci_0 ?_
      exact J_zret rfl dX10_isChance_15 (bz_n bz_0) ⟨rfl, _, rfl, h⟩
    · have h := h.2 c
      refine J_iconst (v := 1) dX10_isChance_10 ci_1 ?_
      refine J_goto (tgt := 15) dX10_isChance_11 rfl ?_
      exact J_zret rfl dX10_isChance_15 (bz_n bz_1) ⟨rfl, _, rfl, h⟩
abbrev a_X_cat (l : Launch) (D : va_G) (ad : Nat → Nat) (cI cZ cS : ClassId) (rs : va_W) (A0 : Nat → Prop) := AX l D ad cI cZ cS rs A0 cX10_cat 6 (some .long) RX10 4
set_option maxRecDepth 20000 in
set_option maxHeartbeats 4000000 in
theorem t_X_cat_b21 {u : Mem} {Q : Int64 → Mem → Prop} (h : w_X_cat_b21 u Q) : a_X_cat l D ad cI cZ cS rs A0 (jWl Q) 21 [] [] u := by
  unfold w_X_cat_b21 at h
  refine J_ldc2 (v := (-9223372036854775806)) dX10_cat_21 kk_RX10_235 ?_
  exact J_lret rfl dX10_cat_24 ⟨_, rfl, h⟩
set_option maxRecDepth 20000 in
set_option maxHeartbeats 4000000 in
theorem t_X_cat_b61 {u : Mem} {x4 : Int32} {x5 : Int32} {s0 : Int32} {Q : Int64 → Mem → Prop} (h : w_X_cat_b61 x4 x5 s0 u Q) : a_X_cat l D ad cI cZ cS rs A0 (jWl Q) 61 [(4, .int x4), (5, .int x5)] [.int s0] u := by
  unfold w_X_cat_b61 at h
  refine J_iload 1 dX10_cat_61 rfl ?_
  refine J_iload 0 dX10_cat_63 rfl ?_
  refine JS_Ri kS_RX10_242 (c_C_lowest h) rfl rfl (by decide) (Nat.le_of_ble_eq_true rfl) dX10_cat_65 (fun r13 h => ?_)
  refine J_i2l dX10_cat_68 ?_
  exact J_lret rfl dX10_cat_69 ⟨_, rfl, h⟩
set_option maxRecDepth 20000 in
set_option maxHeartbeats 4000000 in
theorem c_X_cat {u : Mem} {x1 : Int32} {x2 : Int32} {x3 : Int32} {Q : Int64 → Mem → Prop} (h : w_X_cat x1 x2 x3 u Q) : MX l D ad cI cZ cS rs A0 yX10_cat cX10_cat 6 (some .long) 4 [.ref (ad 0), .int x1, .int x2, .int x3] u (jWl Q) := by
  unfold w_X_cat at h
  refine JMet.of (by decide) (Nat.le_of_ble_eq_true rfl) ?_
  refine J_sub (lv' := [(0, .ref (ad 0)), (1, .int x1), (2, .int x2), (3, .int x3)]) [0, 1, 2, 3] rfl ?_
  show a_X_cat l D ad cI cZ cS rs A0 (jWl Q) 0 [(0, .ref (ad 0)), (1, .int x1), (2, .int x2), (3, .int x3)] [] u
  refine J_iload_n 1 dX10_cat_0 rfl rfl ?_
  refine JS_Ri kS_RX10_232 (c_X_isChance h) rfl rfl (by decide) (Nat.le_of_ble_eq_true rfl) dX10_cat_1 (fun r1 h => ?_)
  refine J_if_eq (tgt := 21) dX10_cat_4 rfl (fun c => ?_) (fun c => ?_)
  · have h := h.1 c
    exact J_sub (lv' := []) [] rfl (t_X_cat_b21 h)
  · have h := h.2 c
    refine J_iload_n 2 dX10_cat_7 rfl rfl ?_
    refine JS_Ri kS_RX10_136 (c_X_isThing h) rfl rfl (by decide) (Nat.le_of_ble_eq_true rfl) dX10_cat_8 (fun r3 h => ?_)
    refine J_if_eq (tgt := 21) dX10_cat_11 rfl (fun c => ?_) (fun c => ?_)
    · have h := h.1 c
      exact J_sub (lv' := []) [] rfl (t_X_cat_b21 h)
    · have h := h.2 c
      refine J_iload_n 3 dX10_cat_14 rfl rfl ?_
      refine JS_Ri kS_RX10_112 (c_X_isEither h) rfl rfl (by decide) (Nat.le_of_ble_eq_true rfl) dX10_cat_15 (fun r5 h => ?_)
      refine J_if_ne (tgt := 25) dX10_cat_18 rfl (fun c => ?_) (fun c => ?_)
      · have h := h.1 c
        refine J_sipush (v := 128) dX10_cat_25 cs_128 ?_
        refine J_istore (lv' := [(4, .int 128), (0, .ref (ad 0)), (1, .int x1), (2, .int x2), (3, .int x3)]) dX10_cat_28 (Nat.le_of_ble_eq_true rfl) rfl ?_
        refine J_aload_n 1 dX10_cat_30 rfl rfl ?_
        refine JV_Wh kV_RX10_123 0 rX_0 rfl rfl (c_X_freshHouse h) rfl rfl (by decide) (Nat.le_of_ble_eq_true rfl) dX10_cat_31 (fun u8 h => ?_)
        refine J_aload_n 1 dX10_cat_34 rfl rfl ?_
        refine gX_0_5 dX10_cat_35 ?_
        refine JV_Ri kV_RX10_117 6 rX_6 rfl rfl (c_K_firstSet h) rfl rfl (by decide) (Nat.le_of_ble_eq_true rfl) dX10_cat_38 (fun r9 h => ?_)
        refine J_iconst (v := 1) dX10_cat_41 ci_1 ?_
        refine J_iload_n 3 dX10_cat_42 rfl rfl ?_
        refine J_ishl dX10_cat_43 ?_
        refine J_iload_n 2 dX10_cat_44 rfl rfl ?_
        refine JS_Ri kS_RX10_239 (c_C_withCat h) rfl rfl (by decide) (Nat.le_of_ble_eq_true rfl) dX10_cat_45 (fun r11 h => ?_)
        refine J_istore (lv' := [(5, .int r11), (4, .int 128), (0, .ref (ad 0)), (1, .int x1), (2, .int x2), (3, .int x3)]) dX10_cat_48 (Nat.le_of_ble_eq_true rfl) rfl ?_
        refine J_iload_n 5 dX10_cat_50 rfl rfl ?_
        refine J_if_ne (tgt := 59) dX10_cat_51 rfl (fun c => ?_) (fun c => ?_)
        · have h := h.1 c
          refine J_iload 1 dX10_cat_59 rfl ?_
          exact J_sub (lv' := [(4, .int 128), (5, .int r11)]) [1, 0] rfl (t_X_cat_b61 h)
        · have h := h.2 c
          refine J_iload 0 dX10_cat_54 rfl ?_
          refine J_goto (tgt := 61) dX10_cat_56 rfl ?_
          exact J_sub (lv' := [(4, .int 128), (5, .int r11)]) [1, 0] rfl (t_X_cat_b61 h)
      · have h := h.2 c
        exact J_sub (lv' := []) [] rfl (t_X_cat_b21 h)
abbrev a_X_let (l : Launch) (D : va_G) (ad : Nat → Nat) (cI cZ cS : ClassId) (rs : va_W) (A0 : Nat → Prop) := AX l D ad cI cZ cS rs A0 cX10_let 7 (some .int) RX10 4
set_option maxRecDepth 20000 in
set_option maxHeartbeats 4000000 in
theorem c_X_let {u : Mem} {x1 : Int32} {x2 : Int32} {Q : Int32 → Mem → Prop} (h : w_X_let x1 x2 u Q) : MX l D ad cI cZ cS rs A0 yX10_let cX10_let 7 (some .int) 4 [.ref (ad 0), .int x1, .int x2] u (jWi Q) := by
  unfold w_X_let at h
  refine JMet.of (by decide) (Nat.le_of_ble_eq_true rfl) ?_
  refine J_sub (lv' := [(0, .ref (ad 0)), (1, .int x1), (2, .int x2)]) [0, 1, 2] rfl ?_
  show a_X_let l D ad cI cZ cS rs A0 (jWi Q) 0 [(0, .ref (ad 0)), (1, .int x1), (2, .int x2)] [] u
  refine J_iload_n 1 dX10_let_0 rfl rfl ?_
  refine JS_Ri kS_RX10_232 (c_X_isChance h) rfl rfl (by decide) (Nat.le_of_ble_eq_true rfl) dX10_let_1 (fun r1 h => ?_)
  refine J_if_eq (tgt := 14) dX10_let_4 rfl (fun c => ?_) (fun c => ?_)
  · have h := h.1 c
    refine J_bipush (v := (-2)) dX10_let_14 cb_m2 ?_
    exact J_iret rfl dX10_let_16 ⟨_, rfl, h⟩
  · have h := h.2 c
    refine J_iload_n 2 dX10_let_7 rfl rfl ?_
    refine JS_Ri kS_RX10_136 (c_X_isThing h) rfl rfl (by decide) (Nat.le_of_ble_eq_true rfl) dX10_let_8 (fun r3 h => ?_)
    refine J_if_ne (tgt := 17) dX10_let_11 rfl (fun c => ?_) (fun c => ?_)
    · have h := h.1 c
      refine J_aload_n 0 dX10_let_17 rfl rfl ?_
      refine JV_Wh kV_RX10_123 0 rX_0 rfl rfl (c_X_freshHouse h) rfl rfl (by decide) (Nat.le_of_ble_eq_true rfl) dX10_let_18 (fun u6 h => ?_)
      refine J_astore_n (lv' := [(3, .ref (ad 5)), (0, .ref (ad 0)), (1, .int x1), (2, .int x2)]) dX10_let_21 rfl (Nat.le_of_ble_eq_true rfl) rfl ?_
      refine J_iconst (v := 1) dX10_let_22 ci_1 ?_
      refine J_iload_n 3 dX10_let_23 rfl rfl ?_
      refine J_ishl dX10_let_24 ?_
      refine J_istore (lv' := [(4, .int ((1 : Int32) <<< (x2 &&& 31))), (3, .ref (ad 5)), (0, .ref (ad 0)), (1, .int x1), (2, .int x2)]) dX10_let_25 (Nat.le_of_ble_eq_true rfl) rfl ?_
      refine J_aload_n 1 dX10_let_27 rfl rfl ?_
      refine J_aload_n 2 dX10_let_28 rfl rfl ?_
      refine gX_0_5 dX10_let_29 ?_
      refine JV_Ri kV_RX10_117 6 rX_6 rfl rfl (c_K_firstSet h) rfl rfl (by decide) (Nat.le_of_ble_eq_true rfl) dX10_let_32 (fun r7 h => ?_)
      refine J_iload 0 dX10_let_35 rfl ?_
      refine J_iload_n 3 dX10_let_37 rfl rfl ?_
      refine JS_Ri kS_RX10_239 (c_C_withCat h) rfl rfl (by decide) (Nat.le_of_ble_eq_true rfl) dX10_let_38 (fun r9 h => ?_)
      refine J_istore (lv' := [(5, .int r9), (4, .int ((1 : Int32) <<< (x2 &&& 31))), (3, .ref (ad 5)), (0, .ref (ad 0)), (1, .int x1), (2, .int x2)]) dX10_let_41 (Nat.le_of_ble_eq_true rfl) rfl ?_
      refine J_aload_n 2 dX10_let_43 rfl rfl ?_
      refine J_aload_n 3 dX10_let_44 rfl rfl ?_
      refine gX_0_5 dX10_let_45 ?_
      refine JV_Ri kV_RX10_117 6 rX_6 rfl rfl (c_K_firstSet h) rfl rfl (by decide) (Nat.le_of_ble_eq_true rfl) dX10_let_48 (fun r11 h => ?_)
      refine J_iload 1 dX10_let_51 rfl ?_
      refine J_iconst (v := 0) dX10_let_53 ci_0 ?_
      refine JS_Ri kS_RX10_239 (c_C_withCat h) rfl rfl (by decide) (Nat.le_of_ble_eq_true rfl) dX10_let_54 (fun r13 h => ?_)
      refine J_istore (lv' := [(6, .int r13), (5, .int r9), (4, .int ((1 : Int32) <<< (x2 &&& 31))), (3, .ref (ad 5)), (0, .ref (ad 0)), (1, .int x1), (2, .int x2)]) dX10_let_57 (Nat.le_of_ble_eq_true rfl) rfl ?_
      refine J_iload 1 dX10_let_59 rfl ?_
      refine J_iload 0 dX10_let_61 rfl ?_
      refine J_icmp_ge (tgt := 70) dX10_let_63 rfl (fun c => ?_) (fun c => ?_)
      · have h := h.1 c
        refine J_iconst (v := 0) dX10_let_70 ci_0 ?_
        exact J_iret rfl dX10_let_71 ⟨_, rfl, h⟩
      · have h := h.2 c
        refine J_iconst (v := 1) dX10_let_66 ci_1 ?_
        refine J_goto (tgt := 71) dX10_let_67 rfl ?_
        exact J_iret rfl dX10_let_71 ⟨_, rfl, h⟩
    · have h := h.2 c
      refine J_bipush (v := (-2)) dX10_let_14 cb_m2 ?_
      exact J_iret rfl dX10_let_16 ⟨_, rfl, h⟩
abbrev a_X_lot (l : Launch) (D : va_G) (ad : Nat → Nat) (cI cZ cS : ClassId) (rs : va_W) (A0 : Nat → Prop) := AX l D ad cI cZ cS rs A0 cX10_lot 9 (some .int) RX10 4
set_option maxRecDepth 20000 in
set_option maxHeartbeats 4000000 in
theorem t_X_lot_b102 {u : Mem} {R : Int32 → Int32 → Int32 → Int32 → Prop} {X : Int32 → Int32 → Prop} {x2 : Int32} {x3 : Int32} {x5 : Int32} {x6 : Int32} {x7 : Int32} {x8 : Int32} {Q : Int32 → Mem → Prop} (hR : ∀ (z5 : Int32) (z6 : Int32) (z7 : Int32) (z8 : Int32), R z5 z6 z7 z8 → a_X_lot l D ad cI cZ cS rs A0 (jWi Q) 49 [(2, .int x2), (3, .int x3), (4, .ref (ad 5)), (5, .int z5), (6, .int z6), (7, .int z7), (8, .int z8)] [] u) (hX : ∀ (z5 : Int32) (z7 : Int32), X z5 z7 → a_X_lot l D ad cI cZ cS rs A0 (jWi Q) 117 [(3, .int x3), (5, .int z5), (7, .int z7)] [] u) (h : w_X_lot_b102 R X x2 x3 x5 x6 x7 x8 u Q) : a_X_lot l D ad cI cZ cS rs A0 (jWi Q) 102 [(2, .int x2), (3, .int x3), (4, .ref (ad 5)), (5, .int x5), (6, .int x6), (7, .int x7), (8, .int x8)] [] u := by
  unfold w_X_lot_b102 at h
  refine J_aload 2 dX10_lot_102 rfl ?_
  refine J_iload 3 dX10_lot_104 rfl ?_
  refine JV_Ri kV_RX10_194 5 rX_5 rfl rfl (c_H_weekBehind h) rfl rfl (by decide) (Nat.le_of_ble_eq_true rfl) dX10_lot_106 (fun r6 h => ?_)
  refine J_istore (lv' := [(5, .int r6), (2, .int x2), (3, .int x3), (4, .ref (ad 5)), (6, .int x6), (7, .int x7), (8, .int x8)]) dX10_lot_109 (Nat.le_of_ble_eq_true rfl) rfl ?_
  refine J_iinc (v := (x8 + 1)) (lv' := [(8, .int (x8 + 1)), (5, .int r6), (2, .int x2), (3, .int x3), (4, .ref (ad 5)), (6, .int x6), (7, .int x7)]) 6 dX10_lot_111 rfl rfl (Nat.le_of_ble_eq_true rfl) rfl ?_
  refine J_goto (tgt := 49) dX10_lot_114 rfl ?_
  exact J_sub (lv' := [(2, .int x2), (3, .int x3), (4, .ref (ad 5)), (5, .int r6), (6, .int x6), (7, .int x7), (8, .int (x8 + 1))]) [2, 3, 4, 1, 5, 6, 0] rfl (hR r6 x6 x7 (x8 + 1) h)
set_option maxRecDepth 20000 in
set_option maxHeartbeats 4000000 in
theorem t_X_lot_l49 {u : Mem}  {X : Int32 → Int32 → Prop} {x2 : Int32} {x3 : Int32} {Q : Int32 → Mem → Prop} (hX : ∀ (x5 : Int32) (x7 : Int32), X x5 x7 → a_X_lot l D ad cI cZ cS rs A0 (jWi Q) 117 [(3, .int x3), (5, .int x5), (7, .int x7)] [] u) : ∀ (n : Nat) (x5 : Int32) (x6 : Int32) (x7 : Int32) (x8 : Int32), w_X_lot_l49 X x2 x3 u Q n x5 x6 x7 x8 → a_X_lot l D ad cI cZ cS rs A0 (jWi Q) 49 [(2, .int x2), (3, .int x3), (4, .ref (ad 5)), (5, .int x5), (6, .int x6), (7, .int x7), (8, .int x8)] [] u := by
  intro n
  induction n with
  | zero =>
    intro x5 x6 x7 x8 h
    exact (by simp only [w_X_lot_l49] at h : False).elim
  | succ n ih =>
    intro x5 x6 x7 x8 h
    rw [w_X_lot_l49] at h
    refine J_iload 6 dX10_lot_49 rfl ?_
    refine J_iload_n 0 dX10_lot_51 rfl rfl ?_
    refine J_icmp_ge (tgt := 117) dX10_lot_52 rfl (fun c => ?_) (fun c => ?_)
    · have h := h.1 c
      exact J_sub (lv' := [(3, .int x3), (5, .int x5), (7, .int x7)]) [1, 3, 5] rfl (hX x5 x7 h)
    · have h := h.2 c
      refine J_ldc (v := 1103515245) dX10_lot_55 kk_RX10_246 ?_
      refine J_iload 4 dX10_lot_57 rfl ?_
      refine J_imul dX10_lot_59 ?_
      refine J_sipush (v := 12345) dX10_lot_60 cs_12345 ?_
      refine J_iadd dX10_lot_63 ?_
      refine J_istore (lv' := [(6, .int ((1103515245 * x6) + 12345)), (2, .int x2), (3, .int x3), (4, .ref (ad 5)), (5, .int x5), (7, .int x7), (8, .int x8)]) dX10_lot_64 (Nat.le_of_ble_eq_true rfl) rfl ?_
      refine J_iload 4 dX10_lot_66 rfl ?_
      refine J_iconst (v := 1) dX10_lot_68 ci_1 ?_
      refine J_iload 0 dX10_lot_69 rfl ?_
      refine J_bipush (v := 16) dX10_lot_71 cb_16 ?_
      refine J_iushr dX10_lot_73 ?_
      refine J_topi (fun y5 ey5 => ?_)
      have h := h y5 ey5
      refine J_bipush (v := 8) dX10_lot_74 cb_8 ?_
      refine J_irem dX10_lot_76 (by decide) ?_
      refine J_ishl dX10_lot_77 ?_
      refine J_ixor dX10_lot_78 ?_
      refine J_istore (lv' := [(5, .int (x5 ^^^ ((1 : Int32) <<< ((y5 - y5 / 8 * 8) &&& 31)))), (6, .int ((1103515245 * x6) + 12345)), (2, .int x2), (3, .int x3), (4, .ref (ad 5)), (7, .int x7), (8, .int x8)]) dX10_lot_79 (Nat.le_of_ble_eq_true rfl) rfl ?_
      refine J_iload_n 3 dX10_lot_81 rfl rfl ?_
      refine J_iconst (v := (-1)) dX10_lot_82 ci_m1 ?_
      refine J_icmp_eq (tgt := 102) dX10_lot_83 rfl (fun c => ?_) (fun c => ?_)
      · have h := h.1 c
        exact J_sub (lv' := [(2, .int x2), (3, .int x3), (4, .ref (ad 5)), (5, .int (x5 ^^^ ((1 : Int32) <<< ((y5 - y5 / 8 * 8) &&& 31)))), (6, .int ((1103515245 * x6) + 12345)), (7, .int x7), (8, .int x8)]) [2, 3, 4, 0, 1, 5, 6] rfl (t_X_lot_b102 ih hX h)
      · have h := h.2 c
        refine J_iload 5 dX10_lot_86 rfl ?_
        refine J_aload 4 dX10_lot_88 rfl ?_
        refine J_iload 0 dX10_lot_90 rfl ?_
        refine JV_Ri kV_RX10_127 5 rX_5 rfl rfl (c_H_comesBy h) rfl rfl (by decide) (Nat.le_of_ble_eq_true rfl) dX10_lot_92 (fun r8 h => ?_)
        refine J_iload_n 3 dX10_lot_95 rfl rfl ?_
        refine J_ishr dX10_lot_96 ?_
        refine J_iconst (v := 1) dX10_lot_97 ci_1 ?_
        refine J_iand dX10_lot_98 ?_
        refine J_iadd dX10_lot_99 ?_
        refine J_istore (lv' := [(7, .int (x7 + ((r8 >>> (x3 &&& 31)) &&& 1))), (5, .int (x5 ^^^ ((1 : Int32) <<< ((y5 - y5 / 8 * 8) &&& 31)))), (6, .int ((1103515245 * x6) + 12345)), (2, .int x2), (3, .int x3), (4, .ref (ad 5)), (8, .int x8)]) dX10_lot_100 (Nat.le_of_ble_eq_true rfl) rfl ?_
        exact J_sub (lv' := [(2, .int x2), (3, .int x3), (4, .ref (ad 5)), (5, .int (x5 ^^^ ((1 : Int32) <<< ((y5 - y5 / 8 * 8) &&& 31)))), (6, .int ((1103515245 * x6) + 12345)), (7, .int (x7 + ((r8 >>> (x3 &&& 31)) &&& 1))), (8, .int x8)]) [3, 4, 5, 1, 2, 0, 6] rfl (t_X_lot_b102 ih hX h)
set_option maxRecDepth 20000 in
set_option maxHeartbeats 4000000 in
theorem t_X_lot_b25 {u : Mem} {x1 : Int32} {x2 : Int32} {x3 : Int32} {Q : Int32 → Mem → Prop} (h : w_X_lot_b25 x1 x2 x3 u Q) : a_X_lot l D ad cI cZ cS rs A0 (jWi Q) 25 [(0, .ref (ad 0)), (1, .int x1), (2, .int x2), (3, .int x3)] [] u := by
  unfold w_X_lot_b25 at h
  refine J_aload_n 0 dX10_lot_25 rfl rfl ?_
  refine JV_Wh kV_RX10_123 0 rX_0 rfl rfl (c_X_freshHouse h) rfl rfl (by decide) (Nat.le_of_ble_eq_true rfl) dX10_lot_26 (fun u2 h => ?_)
  refine J_astore (lv' := [(4, .ref (ad 5)), (0, .ref (ad 0)), (1, .int x1), (2, .int x2), (3, .int x3)]) dX10_lot_29 (Nat.le_of_ble_eq_true rfl) rfl ?_
  refine J_aload_n 1 dX10_lot_31 rfl rfl ?_
  refine gX_0_5 dX10_lot_32 ?_
  refine JV_Ri kV_RX10_117 6 rX_6 rfl rfl (c_K_firstSet h) rfl rfl (by decide) (Nat.le_of_ble_eq_true rfl) dX10_lot_35 (fun r3 h => ?_)
  refine J_istore (lv' := [(5, .int r3), (4, .ref (ad 5)), (0, .ref (ad 0)), (1, .int x1), (2, .int x2), (3, .int x3)]) dX10_lot_38 (Nat.le_of_ble_eq_true rfl) rfl ?_
  refine J_iload_n 3 dX10_lot_40 rfl rfl ?_
  refine J_istore (lv' := [(6, .int x1), (5, .int r3), (4, .ref (ad 5)), (0, .ref (ad 0)), (1, .int x1), (2, .int x2), (3, .int x3)]) dX10_lot_41 (Nat.le_of_ble_eq_true rfl) rfl ?_
  refine J_iconst (v := 0) dX10_lot_43 ci_0 ?_
  refine J_istore (lv' := [(7, .int 0), (6, .int x1), (5, .int r3), (4, .ref (ad 5)), (0, .ref (ad 0)), (1, .int x1), (2, .int x2), (3, .int x3)]) dX10_lot_44 (Nat.le_of_ble_eq_true rfl) rfl ?_
  refine J_iconst (v := 0) dX10_lot_46 ci_0 ?_
  refine J_istore (lv' := [(8, .int 0), (7, .int 0), (6, .int x1), (5, .int r3), (4, .ref (ad 5)), (0, .ref (ad 0)), (1, .int x1), (2, .int x2), (3, .int x3)]) dX10_lot_47 (Nat.le_of_ble_eq_true rfl) rfl ?_
  obtain ⟨n12, h⟩ := h
  refine J_sub (lv' := [(2, .int x2), (3, .int x3), (4, .ref (ad 5)), (5, .int r3), (6, .int x1), (7, .int 0), (8, .int 0)]) [7, 8, 4, 3, 2, 1, 0] rfl (t_X_lot_l49 ?_ n12 r3 x1 0 0 h)
  · intro z10 z11 h
    refine J_iload_n 0 dX10_lot_117 rfl rfl ?_
    refine J_iconst (v := (-1)) dX10_lot_118 ci_m1 ?_
    refine J_icmp_ne (tgt := 127) dX10_lot_119 rfl (fun c => ?_) (fun c => ?_)
    · have h := h.1 c
      refine J_iload 2 dX10_lot_127 rfl ?_
      exact J_iret rfl dX10_lot_129 ⟨_, rfl, h⟩
    · have h := h.2 c
      refine J_iload 1 dX10_lot_122 rfl ?_
      refine J_goto (tgt := 129) dX10_lot_124 rfl ?_
      exact J_iret rfl dX10_lot_129 ⟨_, rfl, h⟩
set_option maxRecDepth 20000 in
set_option maxHeartbeats 4000000 in
theorem c_X_lot {u : Mem} {x1 : Int32} {x2 : Int32} {x3 : Int32} {Q : Int32 → Mem → Prop} (h : w_X_lot x1 x2 x3 u Q) : MX l D ad cI cZ cS rs A0 yX10_lot cX10_lot 9 (some .int) 4 [.ref (ad 0), .int x1, .int x2, .int x3] u (jWi Q) := by
  unfold w_X_lot at h
  refine JMet.of (by decide) (Nat.le_of_ble_eq_true rfl) ?_
  refine J_sub (lv' := [(0, .ref (ad 0)), (1, .int x1), (2, .int x2), (3, .int x3)]) [0, 1, 2, 3] rfl ?_
  show a_X_lot l D ad cI cZ cS rs A0 (jWi Q) 0 [(0, .ref (ad 0)), (1, .int x1), (2, .int x2), (3, .int x3)] [] u
  refine J_iload_n 2 dX10_lot_0 rfl rfl ?_
  refine J_if_lt (tgt := 22) dX10_lot_1 rfl (fun c => ?_) (fun c => ?_)
  · have h := h.1 c
    refine J_bipush (v := (-2)) dX10_lot_22 cb_m2 ?_
    exact J_iret rfl dX10_lot_24 ⟨_, rfl, h⟩
  · have h := h.2 c
    refine J_iload_n 2 dX10_lot_4 rfl rfl ?_
    refine J_bipush (v := 99) dX10_lot_5 cb_99 ?_
    refine J_icmp_gt (tgt := 22) dX10_lot_7 rfl (fun c => ?_) (fun c => ?_)
    · have h := h.1 c
      refine J_bipush (v := (-2)) dX10_lot_22 cb_m2 ?_
      exact J_iret rfl dX10_lot_24 ⟨_, rfl, h⟩
    · have h := h.2 c
      refine J_iload_n 3 dX10_lot_10 rfl rfl ?_
      refine J_iconst (v := (-1)) dX10_lot_11 ci_m1 ?_
      refine J_icmp_eq (tgt := 25) dX10_lot_12 rfl (fun c => ?_) (fun c => ?_)
      · have h := h.1 c
        exact (t_X_lot_b25 h)
      · have h := h.2 c
        refine J_iload_n 3 dX10_lot_15 rfl rfl ?_
        refine JS_Ri kS_RX10_136 (c_X_isThing h) rfl rfl (by decide) (Nat.le_of_ble_eq_true rfl) dX10_lot_16 (fun r13 h => ?_)
        refine J_if_ne (tgt := 25) dX10_lot_19 rfl (fun c => ?_) (fun c => ?_)
        · have h := h.1 c
          exact (t_X_lot_b25 h)
        · have h := h.2 c
          refine J_bipush (v := (-2)) dX10_lot_22 cb_m2 ?_
          exact J_iret rfl dX10_lot_24 ⟨_, rfl, h⟩
abbrev a_X_isForm (l : Launch) (D : va_G) (ad : Nat → Nat) (cI cZ cS : ClassId) (rs : va_W) (A0 : Nat → Prop) := AX l D ad cI cZ cS rs A0 cX10_isForm 1 (some .boolean) RX10 0
set_option maxRecDepth 20000 in
set_option maxHeartbeats 4000000 in
theorem c_X_isForm {u : Mem} {x0 : Int32} {Q : Int32 → Prop} (h : w_X_isForm x0 Q) : MX l D ad cI cZ cS rs A0 yX10_isForm cX10_isForm 1 (some .boolean) 0 [.int x0] u (jRi u Q) := by
  unfold w_X_isForm at h
  refine JMet.of (by decide) (Nat.le_of_ble_eq_true rfl) ?_
  refine J_sub (lv' := [(0, .int x0)]) [0] rfl ?_
  show a_X_isForm l D ad cI cZ cS rs A0 (jRi u Q) 0 [(0, .int x0)] [] u
  refine J_iload_n 0 dX10_isForm_0 rfl rfl ?_
  refine J_if_lt (tgt := 13) dX10_isForm_1 rfl (fun c => ?_) (fun c => ?_)
  · have h := h.1 c
    refine J_iconst (v := 0) dX10_isForm_13 ci_0 ?_
    exact J_zret rfl dX10_isForm_14 (bz_n bz_0) ⟨rfl, _, rfl, h⟩
  · have h := h.2 c
    refine J_iload_n 0 dX10_isForm_4 rfl rfl ?_
    refine J_iconst (v := 3) dX10_isForm_5 ci_3 ?_
    refine J_icmp_ge (tgt := 13) dX10_isForm_6 rfl (fun c => ?_) (fun c => ?_)
    · have h := h.1 c
      refine J_iconst (v := 0) dX10_isForm_13 ci_0 ?_
      exact J_zret rfl dX10_isForm_14 (bz_n bz_0) ⟨rfl, _, rfl, h⟩
    · have h := h.2 c
      refine J_iconst (v := 1) dX10_isForm_9 ci_1 ?_
      refine J_goto (tgt := 14) dX10_isForm_10 rfl ?_
      exact J_zret rfl dX10_isForm_14 (bz_n bz_1) ⟨rfl, _, rfl, h⟩
abbrev a_X_sheet (l : Launch) (D : va_G) (ad : Nat → Nat) (cI cZ cS : ClassId) (rs : va_W) (A0 : Nat → Prop) := AX l D ad cI cZ cS rs A0 cX10_sheet 4 (some .int) RX10 2
set_option maxRecDepth 20000 in
set_option maxHeartbeats 4000000 in
theorem c_X_sheet {u : Mem} {x1 : Int32} {x2 : Int32} {x3 : Int32} {Q : Int32 → Mem → Prop} (h : w_X_sheet x1 x2 x3 u Q) : MX l D ad cI cZ cS rs A0 yX10_sheet cX10_sheet 4 (some .int) 2 [.ref (ad 0), .int x1, .int x2, .int x3] u (jWi Q) := by
  unfold w_X_sheet at h
  refine JMet.of (by decide) (Nat.le_of_ble_eq_true rfl) ?_
  refine J_sub (lv' := [(0, .ref (ad 0)), (1, .int x1), (2, .int x2), (3, .int x3)]) [0, 1, 2, 3] rfl ?_
  show a_X_sheet l D ad cI cZ cS rs A0 (jWi Q) 0 [(0, .ref (ad 0)), (1, .int x1), (2, .int x2), (3, .int x3)] [] u
  refine J_iload_n 1 dX10_sheet_0 rfl rfl ?_
  refine JS_Ri kS_RX10_210 (c_X_isSheet h) rfl rfl (by decide) (Nat.le_of_ble_eq_true rfl) dX10_sheet_1 (fun r1 h => ?_)
  refine J_if_eq (tgt := 20) dX10_sheet_4 rfl (fun c => ?_) (fun c => ?_)
  · have h := h.1 c
    refine J_bipush (v := (-2)) dX10_sheet_20 cb_m2 ?_
    exact J_iret rfl dX10_sheet_22 ⟨_, rfl, h⟩
  · have h := h.2 c
    refine J_iload_n 2 dX10_sheet_7 rfl rfl ?_
    refine JS_Ri kS_RX10_247 (c_X_isForm h) rfl rfl (by decide) (Nat.le_of_ble_eq_true rfl) dX10_sheet_8 (fun r3 h => ?_)
    refine J_if_eq (tgt := 20) dX10_sheet_11 rfl (fun c => ?_) (fun c => ?_)
    · have h := h.1 c
      refine J_bipush (v := (-2)) dX10_sheet_20 cb_m2 ?_
      exact J_iret rfl dX10_sheet_22 ⟨_, rfl, h⟩
    · have h := h.2 c
      refine J_iload_n 3 dX10_sheet_14 rfl rfl ?_
      refine J_bipush (v := 60) dX10_sheet_15 cb_60 ?_
      refine J_icmp_le (tgt := 23) dX10_sheet_17 rfl (fun c => ?_) (fun c => ?_)
      · have h := h.1 c
        refine J_iload_n 3 dX10_sheet_23 rfl rfl ?_
        refine J_if_ge (tgt := 33) dX10_sheet_24 rfl (fun c => ?_) (fun c => ?_)
        · have h := h.1 c
          refine J_aload_n 0 dX10_sheet_33 rfl rfl ?_
          refine gX_0_7 dX10_sheet_34 ?_
          refine J_iload_n 1 dX10_sheet_37 rfl rfl ?_
          refine aX_sheets h.1 dX10_sheet_38 ?_
          have hj5 := vp_lt h.1
          have h := h.2
          refine J_iload_n 2 dX10_sheet_39 rfl rfl ?_
          refine J_iload_n 3 dX10_sheet_40 rfl rfl ?_
          refine JV_Wv kV_RX10_250 (9 + x1.toNatClampNeg) (rX_sh hj5) rfl rfl (c_Z_begin hj5 h) rfl rfl (by decide) (Nat.le_of_ble_eq_true rfl) dX10_sheet_41 (fun u7 h => ?_)
          refine J_iload_n 3 dX10_sheet_44 rfl rfl ?_
          exact J_iret rfl dX10_sheet_45 ⟨_, rfl, h⟩
        · have h := h.2 c
          refine J_aload_n 0 dX10_sheet_27 rfl rfl ?_
          refine J_iconst (v := 5) dX10_sheet_28 ci_5 ?_
          refine JV_Wi kV_RX10_216 0 rX_0 rfl rfl (c_X_finding h) rfl rfl (by decide) (Nat.le_of_ble_eq_true rfl) dX10_sheet_29 (fun r8 u9 h => ?_)
          exact J_iret rfl dX10_sheet_32 ⟨_, rfl, h⟩
      · have h := h.2 c
        refine J_bipush (v := (-2)) dX10_sheet_20 cb_m2 ?_
        exact J_iret rfl dX10_sheet_22 ⟨_, rfl, h⟩
abbrev a_X_lose (l : Launch) (D : va_G) (ad : Nat → Nat) (cI cZ cS : ClassId) (rs : va_W) (A0 : Nat → Prop) := AX l D ad cI cZ cS rs A0 cX10_lose 3 (some .int) RX10 1
set_option maxRecDepth 20000 in
set_option maxHeartbeats 4000000 in
theorem c_X_lose {u : Mem} {x1 : Int32} {Q : Int32 → Mem → Prop} (h : w_X_lose x1 u Q) : MX l D ad cI cZ cS rs A0 yX10_lose cX10_lose 3 (some .int) 1 [.ref (ad 0), .int x1] u (jWi Q) := by
  unfold w_X_lose at h
  refine JMet.of (by decide) (Nat.le_of_ble_eq_true rfl) ?_
  refine J_sub (lv' := [(0, .ref (ad 0)), (1, .int x1)]) [0, 1] rfl ?_
  show a_X_lose l D ad cI cZ cS rs A0 (jWi Q) 0 [(0, .ref (ad 0)), (1, .int x1)] [] u
  refine J_iload_n 1 dX10_lose_0 rfl rfl ?_
  refine JS_Ri kS_RX10_210 (c_X_isSheet h) rfl rfl (by decide) (Nat.le_of_ble_eq_true rfl) dX10_lose_1 (fun r1 h => ?_)
  refine J_if_ne (tgt := 10) dX10_lose_4 rfl (fun c => ?_) (fun c => ?_)
  · have h := h.1 c
    refine J_aload_n 0 dX10_lose_10 rfl rfl ?_
    refine gX_0_7 dX10_lose_11 ?_
    refine J_iload_n 1 dX10_lose_14 rfl rfl ?_
    refine aX_sheets h.1 dX10_lose_15 ?_
    have hj3 := vp_lt h.1
    have h := h.2
    refine JV_Ri kV_RX10_213 (9 + x1.toNatClampNeg) (rX_sh hj3) rfl rfl (c_Z_isLost hj3 h) rfl rfl (by decide) (Nat.le_of_ble_eq_true rfl) dX10_lose_16 (fun r4 h => ?_)
    refine J_if_eq (tgt := 28) dX10_lose_19 rfl (fun c => ?_) (fun c => ?_)
    · have h := h.1 c
      refine J_aload_n 0 dX10_lose_28 rfl rfl ?_
      refine gX_0_7 dX10_lose_29 ?_
      refine J_iload_n 1 dX10_lose_32 rfl rfl ?_
      refine aX_sheets h.1 dX10_lose_33 ?_
      have hj6 := vp_lt h.1
      have h := h.2
      refine JV_Ri kV_RX10_219 (9 + x1.toNatClampNeg) (rX_sh hj6) rfl rfl (c_Z_size hj6 h) rfl rfl (by decide) (Nat.le_of_ble_eq_true rfl) dX10_lose_34 (fun r7 h => ?_)
      refine J_istore_n (lv' := [(2, .int r7), (0, .ref (ad 0)), (1, .int x1)]) dX10_lose_37 rfl (Nat.le_of_ble_eq_true rfl) rfl ?_
      refine J_aload_n 1 dX10_lose_38 rfl rfl ?_
      refine gX_0_7 dX10_lose_39 ?_
      refine J_iload_n 2 dX10_lose_42 rfl rfl ?_
      refine aX_sheets h.1 dX10_lose_43 ?_
      have hj9 := vp_lt h.1
      have h := h.2
      refine JV_Wv kV_RX10_254 (9 + x1.toNatClampNeg) (rX_sh hj9) rfl rfl (c_Z_end hj9 h) rfl rfl (by decide) (Nat.le_of_ble_eq_true rfl) dX10_lose_44 (fun u11 h => ?_)
      refine J_iload_n 0 dX10_lose_47 rfl rfl ?_
      exact J_iret rfl dX10_lose_48 ⟨_, rfl, h⟩
    · have h := h.2 c
      refine J_aload_n 0 dX10_lose_22 rfl rfl ?_
      refine J_iconst (v := 1) dX10_lose_23 ci_1 ?_
      refine JV_Wi kV_RX10_216 0 rX_0 rfl rfl (c_X_finding h) rfl rfl (by decide) (Nat.le_of_ble_eq_true rfl) dX10_lose_24 (fun r12 u13 h => ?_)
      exact J_iret rfl dX10_lose_27 ⟨_, rfl, h⟩
  · have h := h.2 c
    refine J_bipush (v := (-2)) dX10_lose_7 cb_m2 ?_
    exact J_iret rfl dX10_lose_9 ⟨_, rfl, h⟩
abbrev a_X_itemRefusal (l : Launch) (D : va_G) (ad : Nat → Nat) (cI cZ cS : ClassId) (rs : va_W) (A0 : Nat → Prop) := AX l D ad cI cZ cS rs A0 cX10_itemRefusal 4 (some .int) RX10 1
set_option maxRecDepth 20000 in
set_option maxHeartbeats 4000000 in
theorem c_X_itemRefusal {u : Mem} {x1 : Int32} {x2 : Int32} {x3 : Int32} {Q : Int32 → Mem → Prop} (h : w_X_itemRefusal x1 x2 x3 u Q) : MX l D ad cI cZ cS rs A0 yX10_itemRefusal cX10_itemRefusal 4 (some .int) 1 [.ref (ad 0), .int x1, .int x2, .int x3] u (jWi Q) := by
  unfold w_X_itemRefusal at h
  refine JMet.of (by decide) (Nat.le_of_ble_eq_true rfl) ?_
  refine J_sub (lv' := [(0, .ref (ad 0)), (1, .int x1), (2, .int x2), (3, .int x3)]) [0, 1, 2, 3] rfl ?_
  show a_X_itemRefusal l D ad cI cZ cS rs A0 (jWi Q) 0 [(0, .ref (ad 0)), (1, .int x1), (2, .int x2), (3, .int x3)] [] u
  refine J_iload_n 1 dX10_itemRefusal_0 rfl rfl ?_
  refine JS_Ri kS_RX10_210 (c_X_isSheet h) rfl rfl (by decide) (Nat.le_of_ble_eq_true rfl) dX10_itemRefusal_1 (fun r1 h => ?_)
  refine J_if_eq (tgt := 14) dX10_itemRefusal_4 rfl (fun c => ?_) (fun c => ?_)
  · have h := h.1 c
    refine J_bipush (v := (-2)) dX10_itemRefusal_14 cb_m2 ?_
    exact J_iret rfl dX10_itemRefusal_16 ⟨_, rfl, h⟩
  · have h := h.2 c
    refine J_iload_n 2 dX10_itemRefusal_7 rfl rfl ?_
    refine JS_Ri kS_RX10_247 (c_X_isForm h) rfl rfl (by decide) (Nat.le_of_ble_eq_true rfl) dX10_itemRefusal_8 (fun r3 h => ?_)
    refine J_if_ne (tgt := 17) dX10_itemRefusal_11 rfl (fun c => ?_) (fun c => ?_)
    · have h := h.1 c
      refine J_aload_n 0 dX10_itemRefusal_17 rfl rfl ?_
      refine gX_0_7 dX10_itemRefusal_18 ?_
      refine J_iload_n 1 dX10_itemRefusal_21 rfl rfl ?_
      refine aX_sheets h.1 dX10_itemRefusal_22 ?_
      have hj5 := vp_lt h.1
      have h := h.2
      refine JV_Ri kV_RX10_213 (9 + x1.toNatClampNeg) (rX_sh hj5) rfl rfl (c_Z_isLost hj5 h) rfl rfl (by decide) (Nat.le_of_ble_eq_true rfl) dX10_itemRefusal_23 (fun r6 h => ?_)
      refine J_if_eq (tgt := 35) dX10_itemRefusal_26 rfl (fun c => ?_) (fun c => ?_)
      · have h := h.1 c
        refine J_aload_n 0 dX10_itemRefusal_35 rfl rfl ?_
        refine gX_0_7 dX10_itemRefusal_36 ?_
        refine J_iload_n 1 dX10_itemRefusal_39 rfl rfl ?_
        refine aX_sheets h.1 dX10_itemRefusal_40 ?_
        have hj8 := vp_lt h.1
        have h := h.2
        refine JV_Ri kV_RX10_264 (9 + x1.toNatClampNeg) (rX_sh hj8) rfl rfl (c_Z_formOf hj8 h) rfl rfl (by decide) (Nat.le_of_ble_eq_true rfl) dX10_itemRefusal_41 (fun r9 h => ?_)
        refine J_iload_n 2 dX10_itemRefusal_44 rfl rfl ?_
        refine J_icmp_eq (tgt := 54) dX10_itemRefusal_45 rfl (fun c => ?_) (fun c => ?_)
        · have h := h.1 c
          refine J_aload_n 0 dX10_itemRefusal_54 rfl rfl ?_
          refine gX_0_7 dX10_itemRefusal_55 ?_
          refine J_iload_n 1 dX10_itemRefusal_58 rfl rfl ?_
          refine aX_sheets h.1 dX10_itemRefusal_59 ?_
          have hj11 := vp_lt h.1
          have h := h.2
          refine J_iload_n 3 dX10_itemRefusal_60 rfl rfl ?_
          refine J_iconst (v := 1) dX10_itemRefusal_61 ci_1 ?_
          refine JV_Ri kV_RX10_267 (9 + x1.toNatClampNeg) (rX_sh hj11) rfl rfl (c_Z_hasItems hj11 h) rfl rfl (by decide) (Nat.le_of_ble_eq_true rfl) dX10_itemRefusal_62 (fun r12 h => ?_)
          refine J_if_eq (tgt := 72) dX10_itemRefusal_65 rfl (fun c => ?_) (fun c => ?_)
          · have h := h.1 c
            refine J_aload_n 0 dX10_itemRefusal_72 rfl rfl ?_
            refine J_iconst (v := 2) dX10_itemRefusal_73 ci_2 ?_
            refine JV_Wi kV_RX10_216 0 rX_0 rfl rfl (c_X_finding h) rfl rfl (by decide) (Nat.le_of_ble_eq_true rfl) dX10_itemRefusal_74 (fun r14 u15 h => ?_)
            exact J_iret rfl dX10_itemRefusal_77 ⟨_, rfl, h⟩
          · have h := h.2 c
            refine J_iconst (v := 0) dX10_itemRefusal_68 ci_0 ?_
            refine J_goto (tgt := 77) dX10_itemRefusal_69 rfl ?_
            exact J_iret rfl dX10_itemRefusal_77 ⟨_, rfl, h⟩
        · have h := h.2 c
          refine J_aload_n 0 dX10_itemRefusal_48 rfl rfl ?_
          refine J_iconst (v := 3) dX10_itemRefusal_49 ci_3 ?_
          refine JV_Wi kV_RX10_216 0 rX_0 rfl rfl (c_X_finding h) rfl rfl (by decide) (Nat.le_of_ble_eq_true rfl) dX10_itemRefusal_50 (fun r16 u17 h => ?_)
          exact J_iret rfl dX10_itemRefusal_53 ⟨_, rfl, h⟩
      · have h := h.2 c
        refine J_aload_n 0 dX10_itemRefusal_29 rfl rfl ?_
        refine J_iconst (v := 1) dX10_itemRefusal_30 ci_1 ?_
        refine JV_Wi kV_RX10_216 0 rX_0 rfl rfl (c_X_finding h) rfl rfl (by decide) (Nat.le_of_ble_eq_true rfl) dX10_itemRefusal_31 (fun r18 u19 h => ?_)
        exact J_iret rfl dX10_itemRefusal_34 ⟨_, rfl, h⟩
    · have h := h.2 c
      refine J_bipush (v := (-2)) dX10_itemRefusal_14 cb_m2 ?_
      exact J_iret rfl dX10_itemRefusal_16 ⟨_, rfl, h⟩
abbrev a_X_put (l : Launch) (D : va_G) (ad : Nat → Nat) (cI cZ cS : ClassId) (rs : va_W) (A0 : Nat → Prop) := AX l D ad cI cZ cS rs A0 cX10_put 6 (some .int) RX10 2
set_option maxRecDepth 20000 in
set_option maxHeartbeats 4000000 in
theorem c_X_put {u : Mem} {x1 : Int32} {x2 : Int32} {x3 : Int32} {x4 : Int32} {Q : Int32 → Mem → Prop} (h : w_X_put x1 x2 x3 x4 u Q) : MX l D ad cI cZ cS rs A0 yX10_put cX10_put 6 (some .int) 2 [.ref (ad 0), .int x1, .int x2, .int x3, .int x4] u (jWi Q) := by
  unfold w_X_put at h
  refine JMet.of (by decide) (Nat.le_of_ble_eq_true rfl) ?_
  refine J_sub (lv' := [(0, .ref (ad 0)), (1, .int x1), (2, .int x2), (3, .int x3), (4, .int x4)]) [0, 1, 2, 3, 4] rfl ?_
  show a_X_put l D ad cI cZ cS rs A0 (jWi Q) 0 [(0, .ref (ad 0)), (1, .int x1), (2, .int x2), (3, .int x3), (4, .int x4)] [] u
  refine J_aload_n 0 dX10_put_0 rfl rfl ?_
  refine J_iload_n 1 dX10_put_1 rfl rfl ?_
  refine J_iload_n 2 dX10_put_2 rfl rfl ?_
  refine J_iload_n 3 dX10_put_3 rfl rfl ?_
  refine JV_Wi kV_RX10_257 0 rX_0 rfl rfl (c_X_itemRefusal h) rfl rfl (by decide) (Nat.le_of_ble_eq_true rfl) dX10_put_4 (fun r1 u2 h => ?_)
  refine J_istore (lv' := [(5, .int r1), (0, .ref (ad 0)), (1, .int x1), (2, .int x2), (3, .int x3), (4, .int x4)]) dX10_put_7 (Nat.le_of_ble_eq_true rfl) rfl ?_
  refine J_iload 0 dX10_put_9 rfl ?_
  refine J_if_eq (tgt := 17) dX10_put_11 rfl (fun c => ?_) (fun c => ?_)
  · have h := h.1 c
    refine J_aload_n 1 dX10_put_17 rfl rfl ?_
    refine gX_0_7 dX10_put_18 ?_
    refine J_iload_n 2 dX10_put_21 rfl rfl ?_
    refine aX_sheets h.1 dX10_put_22 ?_
    have hj3 := vp_lt h.1
    have h := h.2
    refine J_iload_n 4 dX10_put_23 rfl rfl ?_
    refine J_iload 5 dX10_put_24 rfl ?_
    refine JV_Wv kV_RX10_260 (9 + x1.toNatClampNeg) (rX_sh hj3) rfl rfl (c_Z_setItem hj3 h) rfl rfl (by decide) (Nat.le_of_ble_eq_true rfl) dX10_put_26 (fun u5 h => ?_)
    refine J_iconst (v := 1) dX10_put_29 ci_1 ?_
    exact J_iret rfl dX10_put_30 ⟨_, rfl, h⟩
  · have h := h.2 c
    refine J_iload 0 dX10_put_14 rfl ?_
    exact J_iret rfl dX10_put_16 ⟨_, rfl, h⟩
abbrev a_X_get (l : Launch) (D : va_G) (ad : Nat → Nat) (cI cZ cS : ClassId) (rs : va_W) (A0 : Nat → Prop) := AX l D ad cI cZ cS rs A0 cX10_get 4 (some .int) RX10 2
set_option maxRecDepth 20000 in
set_option maxHeartbeats 4000000 in
theorem c_X_get {u : Mem} {x1 : Int32} {x2 : Int32} {x3 : Int32} {Q : Int32 → Mem → Prop} (h : w_X_get x1 x2 x3 u Q) : MX l D ad cI cZ cS rs A0 yX10_get cX10_get 4 (some .int) 2 [.ref (ad 0), .int x1, .int x2, .int x3] u (jWi Q) := by
  unfold w_X_get at h
  refine JMet.of (by decide) (Nat.le_of_ble_eq_true rfl) ?_
  refine J_sub (lv' := [(0, .ref (ad 0)), (1, .int x1), (2, .int x2), (3, .int x3)]) [0, 1, 2, 3] rfl ?_
  show a_X_get l D ad cI cZ cS rs A0 (jWi Q) 0 [(0, .ref (ad 0)), (1, .int x1), (2, .int x2), (3, .int x3)] [] u
  refine J_aload_n 0 dX10_get_0 rfl rfl ?_
  refine J_iload_n 1 dX10_get_1 rfl rfl ?_
  refine J_iload_n 2 dX10_get_2 rfl rfl ?_
  refine J_iload_n 3 dX10_get_3 rfl rfl ?_
  refine JV_Wi kV_RX10_257 0 rX_0 rfl rfl (c_X_itemRefusal h) rfl rfl (by decide) (Nat.le_of_ble_eq_true rfl) dX10_get_4 (fun r1 u2 h => ?_)
  refine J_if_eq (tgt := 14) dX10_get_7 rfl (fun c => ?_) (fun c => ?_)
  · have h := h.1 c
    refine J_aload_n 0 dX10_get_14 rfl rfl ?_
    refine gX_0_7 dX10_get_15 ?_
    refine J_iload_n 1 dX10_get_18 rfl rfl ?_
    refine aX_sheets h.1 dX10_get_19 ?_
    have hj3 := vp_lt h.1
    have h := h.2
    refine J_iload_n 3 dX10_get_20 rfl rfl ?_
    refine JV_Ri kV_RX10_220 (9 + x1.toNatClampNeg) (rX_sh hj3) rfl rfl (c_Z_item hj3 h) rfl rfl (by decide) (Nat.le_of_ble_eq_true rfl) dX10_get_21 (fun r4 h => ?_)
    exact J_iret rfl dX10_get_24 ⟨_, rfl, h⟩
  · have h := h.2 c
    refine J_ldcw (v := (-2147483648)) dX10_get_10 kk_RX10_263 ?_
    exact J_iret rfl dX10_get_13 ⟨_, rfl, h⟩
abbrev a_X_copy (l : Launch) (D : va_G) (ad : Nat → Nat) (cI cZ cS : ClassId) (rs : va_W) (A0 : Nat → Prop) := AX l D ad cI cZ cS rs A0 cX10_copy 8 (some .int) RX10 2
set_option maxRecDepth 20000 in
set_option maxHeartbeats 4000000 in
theorem t_X_copy_b49 {u : Mem} {Q : Int32 → Mem → Prop} (h : w_X_copy_b49 u Q) : a_X_copy l D ad cI cZ cS rs A0 (jWi Q) 49 [(0, .ref (ad 0))] [] u := by
  unfold w_X_copy_b49 at h
  refine J_aload_n 0 dX10_copy_49 rfl rfl ?_
  refine J_iconst (v := 1) dX10_copy_50 ci_1 ?_
  refine JV_Wi kV_RX10_216 0 rX_0 rfl rfl (c_X_finding h) rfl rfl (by decide) (Nat.le_of_ble_eq_true rfl) dX10_copy_51 (fun r9 u10 h => ?_)
  exact J_iret rfl dX10_copy_54 ⟨_, rfl, h⟩
set_option maxRecDepth 20000 in
set_option maxHeartbeats 4000000 in
theorem t_X_copy_b97 {u : Mem} {Q : Int32 → Mem → Prop} (h : w_X_copy_b97 u Q) : a_X_copy l D ad cI cZ cS rs A0 (jWi Q) 97 [(0, .ref (ad 0))] [] u := by
  unfold w_X_copy_b97 at h
  refine J_aload_n 0 dX10_copy_97 rfl rfl ?_
  refine J_iconst (v := 2) dX10_copy_98 ci_2 ?_
  refine JV_Wi kV_RX10_216 0 rX_0 rfl rfl (c_X_finding h) rfl rfl (by decide) (Nat.le_of_ble_eq_true rfl) dX10_copy_99 (fun r19 u20 h => ?_)
  exact J_iret rfl dX10_copy_102 ⟨_, rfl, h⟩
set_option maxRecDepth 20000 in
set_option maxHeartbeats 4000000 in
theorem c_X_copy {u : Mem} {x1 : Int32} {x2 : Int32} {x3 : Int32} {x4 : Int32} {x5 : Int32} {Q : Int32 → Mem → Prop} (h : w_X_copy x1 x2 x3 x4 x5 u Q) : MX l D ad cI cZ cS rs A0 yX10_copy cX10_copy 8 (some .int) 2 [.ref (ad 0), .int x1, .int x2, .int x3, .int x4, .int x5] u (jWi Q) := by
  unfold w_X_copy at h
  refine JMet.of (by decide) (Nat.le_of_ble_eq_true rfl) ?_
  refine J_sub (lv' := [(0, .ref (ad 0)), (1, .int x1), (2, .int x2), (3, .int x3), (4, .int x4), (5, .int x5)]) [0, 1, 2, 3, 4, 5] rfl ?_
  show a_X_copy l D ad cI cZ cS rs A0 (jWi Q) 0 [(0, .ref (ad 0)), (1, .int x1), (2, .int x2), (3, .int x3), (4, .int x4), (5, .int x5)] [] u
  refine J_iload_n 1 dX10_copy_0 rfl rfl ?_
  refine JS_Ri kS_RX10_210 (c_X_isSheet h) rfl rfl (by decide) (Nat.le_of_ble_eq_true rfl) dX10_copy_1 (fun r1 h => ?_)
  refine J_if_eq (tgt := 14) dX10_copy_4 rfl (fun c => ?_) (fun c => ?_)
  · have h := h.1 c
    refine J_bipush (v := (-2)) dX10_copy_14 cb_m2 ?_
    exact J_iret rfl dX10_copy_16 ⟨_, rfl, h⟩
  · have h := h.2 c
    refine J_iload_n 3 dX10_copy_7 rfl rfl ?_
    refine JS_Ri kS_RX10_210 (c_X_isSheet h) rfl rfl (by decide) (Nat.le_of_ble_eq_true rfl) dX10_copy_8 (fun r3 h => ?_)
    refine J_if_ne (tgt := 17) dX10_copy_11 rfl (fun c => ?_) (fun c => ?_)
    · have h := h.1 c
      refine J_aload_n 0 dX10_copy_17 rfl rfl ?_
      refine gX_0_7 dX10_copy_18 ?_
      refine J_iload_n 1 dX10_copy_21 rfl rfl ?_
      refine aX_sheets h.1 dX10_copy_22 ?_
      have hj5 := vp_lt h.1
      have h := h.2
      refine J_astore (lv' := [(6, .ref (ad (9 + x1.toNatClampNeg))), (0, .ref (ad 0)), (1, .int x1), (2, .int x2), (3, .int x3), (4, .int x4), (5, .int x5)]) dX10_copy_23 (Nat.le_of_ble_eq_true rfl) rfl ?_
      refine J_aload_n 1 dX10_copy_25 rfl rfl ?_
      refine gX_0_7 dX10_copy_26 ?_
      refine J_iload_n 4 dX10_copy_29 rfl rfl ?_
      refine aX_sheets h.1 dX10_copy_30 ?_
      have hj6 := vp_lt h.1
      have h := h.2
      refine J_astore (lv' := [(7, .ref (ad (9 + x3.toNatClampNeg))), (6, .ref (ad (9 + x1.toNatClampNeg))), (0, .ref (ad 0)), (1, .int x1), (2, .int x2), (3, .int x3), (4, .int x4), (5, .int x5)]) dX10_copy_31 (Nat.le_of_ble_eq_true rfl) rfl ?_
      refine J_aload 1 dX10_copy_33 rfl ?_
      refine JV_Ri kV_RX10_213 (9 + x1.toNatClampNeg) (rX_sh hj5) rfl rfl (c_Z_isLost hj5 h) rfl rfl (by decide) (Nat.le_of_ble_eq_true rfl) dX10_copy_35 (fun r7 h => ?_)
      refine J_if_ne (tgt := 49) dX10_copy_38 rfl (fun c => ?_) (fun c => ?_)
      · have h := h.1 c
        exact J_sub (lv' := [(0, .ref (ad 0))]) [2] rfl (t_X_copy_b49 h)
      · have h := h.2 c
        refine J_aload 0 dX10_copy_41 rfl ?_
        refine JV_Ri kV_RX10_213 (9 + x3.toNatClampNeg) (rX_sh hj6) rfl rfl (c_Z_isLost hj6 h) rfl rfl (by decide) (Nat.le_of_ble_eq_true rfl) dX10_copy_43 (fun r11 h => ?_)
        refine J_if_eq (tgt := 55) dX10_copy_46 rfl (fun c => ?_) (fun c => ?_)
        · have h := h.1 c
          refine J_aload 1 dX10_copy_55 rfl ?_
          refine JV_Ri kV_RX10_264 (9 + x1.toNatClampNeg) (rX_sh hj5) rfl rfl (c_Z_formOf hj5 h) rfl rfl (by decide) (Nat.le_of_ble_eq_true rfl) dX10_copy_57 (fun r13 h => ?_)
          refine J_aload 0 dX10_copy_60 rfl ?_
          refine JV_Ri kV_RX10_264 (9 + x3.toNatClampNeg) (rX_sh hj6) rfl rfl (c_Z_formOf hj6 h) rfl rfl (by decide) (Nat.le_of_ble_eq_true rfl) dX10_copy_62 (fun r15 h => ?_)
          refine J_icmp_eq (tgt := 74) dX10_copy_65 rfl (fun c => ?_) (fun c => ?_)
          · have h := h.1 c
            refine J_aload 1 dX10_copy_74 rfl ?_
            refine J_iload_n 4 dX10_copy_76 rfl rfl ?_
            refine J_iload 7 dX10_copy_77 rfl ?_
            refine JV_Ri kV_RX10_267 (9 + x1.toNatClampNeg) (rX_sh hj5) rfl rfl (c_Z_hasItems hj5 h) rfl rfl (by decide) (Nat.le_of_ble_eq_true rfl) dX10_copy_79 (fun r17 h => ?_)
            refine J_if_eq (tgt := 97) dX10_copy_82 rfl (fun c => ?_) (fun c => ?_)
            · have h := h.1 c
              exact J_sub (lv' := [(0, .ref (ad 0))]) [2] rfl (t_X_copy_b97 h)
            · have h := h.2 c
              refine J_aload 0 dX10_copy_85 rfl ?_
              refine J_iload 6 dX10_copy_87 rfl ?_
              refine J_iload 7 dX10_copy_89 rfl ?_
              refine JV_Ri kV_RX10_267 (9 + x3.toNatClampNeg) (rX_sh hj6) rfl rfl (c_Z_hasItems hj6 h) rfl rfl (by decide) (Nat.le_of_ble_eq_true rfl) dX10_copy_91 (fun r21 h => ?_)
              refine J_if_ne (tgt := 103) dX10_copy_94 rfl (fun c => ?_) (fun c => ?_)
              · have h := h.1 c
                refine J_aload 0 dX10_copy_103 rfl ?_
                refine J_aload 1 dX10_copy_105 rfl ?_
                refine J_iload_n 4 dX10_copy_107 rfl rfl ?_
                refine J_iload 6 dX10_copy_108 rfl ?_
                refine J_iload 7 dX10_copy_110 rfl ?_
                refine JV_Wv kV_RX10_270 (9 + x3.toNatClampNeg) (rX_sh hj6) rfl rfl (c_Z_takeFrom hj6 hj5 h) rfl rfl (by decide) (Nat.le_of_ble_eq_true rfl) dX10_copy_112 (fun u24 h => ?_)
                refine J_iconst (v := 1) dX10_copy_115 ci_1 ?_
                exact J_iret rfl dX10_copy_116 ⟨_, rfl, h⟩
              · have h := h.2 c
                exact J_sub (lv' := [(0, .ref (ad 0))]) [2] rfl (t_X_copy_b97 h)
          · have h := h.2 c
            refine J_aload_n 2 dX10_copy_68 rfl rfl ?_
            refine J_iconst (v := 4) dX10_copy_69 ci_4 ?_
            refine JV_Wi kV_RX10_216 0 rX_0 rfl rfl (c_X_finding h) rfl rfl (by decide) (Nat.le_of_ble_eq_true rfl) dX10_copy_70 (fun r25 u26 h => ?_)
            exact J_iret rfl dX10_copy_73 ⟨_, rfl, h⟩
        · have h := h.2 c
          exact J_sub (lv' := [(0, .ref (ad 0))]) [2] rfl (t_X_copy_b49 h)
    · have h := h.2 c
      refine J_bipush (v := (-2)) dX10_copy_14 cb_m2 ?_
      exact J_iret rfl dX10_copy_16 ⟨_, rfl, h⟩
abbrev a_X_write (l : Launch) (D : va_G) (ad : Nat → Nat) (cI cZ cS : ClassId) (rs : va_W) (A0 : Nat → Prop) := AX l D ad cI cZ cS rs A0 cX10_write 5 (some .int) RX10 4
set_option maxRecDepth 20000 in
set_option maxHeartbeats 4000000 in
theorem t_X_write_b106 {u : Mem} {R : Int32 → Mem → Prop} {X : Mem → Prop} {x1 : Int32} {x2 : Int32} {x3 : Int32} {x4 : Int32} {s0 : Int32} {s1 : Int32} {sj2 : Nat} {Q : Int32 → Mem → Prop} (hsj2 : sj2 < 4) (hR : ∀ (z4 : Int32) (u : Mem), R z4 u → a_X_write l D ad cI cZ cS rs A0 (jWi Q) 67 [(0, .ref (ad 0)), (1, .int x1), (2, .int x2), (3, .int x3), (4, .int z4)] [] u) (hX : ∀ (u : Mem), X u → a_X_write l D ad cI cZ cS rs A0 (jWi Q) 115 [(3, .int x3)] [] u) (h : w_X_write_b106 R X x1 x2 x3 x4 s0 s1 sj2 u Q) : a_X_write l D ad cI cZ cS rs A0 (jWi Q) 106 [(0, .ref (ad 0)), (1, .int x1), (2, .int x2), (3, .int x3), (4, .int x4)] [.int s0, .int s1, .ref (ad (9 + sj2))] u := by
  unfold w_X_write_b106 at h
  refine JV_Wv kV_RX10_260 (9 + sj2) (rX_sh hsj2) rfl rfl (c_Z_setItem hsj2 h) rfl rfl (by decide) (Nat.le_of_ble_eq_true rfl) dX10_write_106 (fun u19 h => ?_)
  refine J_iinc (v := (x4 + 1)) (lv' := [(4, .int (x4 + 1)), (0, .ref (ad 0)), (1, .int x1), (2, .int x2), (3, .int x3)]) 4 dX10_write_109 rfl rfl (Nat.le_of_ble_eq_true rfl) rfl ?_
  refine J_goto (tgt := 67) dX10_write_112 rfl ?_
  exact J_sub (lv' := [(0, .ref (ad 0)), (1, .int x1), (2, .int x2), (3, .int x3), (4, .int (x4 + 1))]) [1, 2, 3, 4, 0] rfl (hR (x4 + 1) u19 h)
set_option maxRecDepth 20000 in
set_option maxHeartbeats 4000000 in
theorem t_X_write_l67  {X : Mem → Prop} {x1 : Int32} {x2 : Int32} {x3 : Int32} {Q : Int32 → Mem → Prop} (hX : ∀ (u : Mem), X u → a_X_write l D ad cI cZ cS rs A0 (jWi Q) 115 [(3, .int x3)] [] u) : ∀ (n : Nat) (x4 : Int32) (u : Mem), w_X_write_l67 X x1 x2 x3 Q n x4 u → a_X_write l D ad cI cZ cS rs A0 (jWi Q) 67 [(0, .ref (ad 0)), (1, .int x1), (2, .int x2), (3, .int x3), (4, .int x4)] [] u := by
  intro n
  induction n with
  | zero =>
    intro x4 u h
    exact (by simp only [w_X_write_l67] at h : False).elim
  | succ n ih =>
    intro x4 u h
    rw [w_X_write_l67] at h
    refine J_iload 4 dX10_write_67 rfl ?_
    refine J_iload_n 3 dX10_write_69 rfl rfl ?_
    refine J_icmp_ge (tgt := 115) dX10_write_70 rfl (fun c => ?_) (fun c => ?_)
    · have h := h.1 c
      exact J_sub (lv' := [(3, .int x3)]) [3] rfl (hX u h)
    · have h := h.2 c
      refine J_aload_n 0 dX10_write_73 rfl rfl ?_
      refine gX_0_7 dX10_write_74 ?_
      refine J_iload_n 2 dX10_write_77 rfl rfl ?_
      refine aX_sheets h.1 dX10_write_78 ?_
      have hj15 := vp_lt h.1
      have h := h.2
      refine J_iload 4 dX10_write_79 rfl ?_
      refine J_iload_n 1 dX10_write_81 rfl rfl ?_
      refine J_if_ne (tgt := 97) dX10_write_82 rfl (fun c => ?_) (fun c => ?_)
      · have h := h.1 c
        refine J_aload_n 0 dX10_write_97 rfl rfl ?_
        refine gX_0_5 dX10_write_98 ?_
        refine J_iload 4 dX10_write_101 rfl ?_
        refine JV_Ri kV_RX10_156 6 rX_6 rfl rfl (c_K_bigIn h) rfl rfl (by decide) (Nat.le_of_ble_eq_true rfl) dX10_write_103 (fun r16 h => ?_)
        exact (t_X_write_b106 hj15 ih hX h)
      · have h := h.2 c
        refine J_aload_n 0 dX10_write_85 rfl rfl ?_
        refine gX_0_5 dX10_write_86 ?_
        refine J_iload 4 dX10_write_89 rfl ?_
        refine JV_Ri kV_RX10_153 6 rX_6 rfl rfl (c_K_smallIn h) rfl rfl (by decide) (Nat.le_of_ble_eq_true rfl) dX10_write_91 (fun r20 h => ?_)
        refine J_goto (tgt := 106) dX10_write_94 rfl ?_
        exact (t_X_write_b106 hj15 ih hX h)
set_option maxRecDepth 20000 in
set_option maxHeartbeats 4000000 in
theorem c_X_write {u : Mem} {x1 : Int32} {x2 : Int32} {Q : Int32 → Mem → Prop} (h : w_X_write x1 x2 u Q) : MX l D ad cI cZ cS rs A0 yX10_write cX10_write 5 (some .int) 4 [.ref (ad 0), .int x1, .int x2] u (jWi Q) := by
  unfold w_X_write at h
  refine JMet.of (by decide) (Nat.le_of_ble_eq_true rfl) ?_
  refine J_sub (lv' := [(0, .ref (ad 0)), (1, .int x1), (2, .int x2)]) [0, 1, 2] rfl ?_
  show a_X_write l D ad cI cZ cS rs A0 (jWi Q) 0 [(0, .ref (ad 0)), (1, .int x1), (2, .int x2)] [] u
  refine J_iload_n 1 dX10_write_0 rfl rfl ?_
  refine JS_Ri kS_RX10_112 (c_X_isEither h) rfl rfl (by decide) (Nat.le_of_ble_eq_true rfl) dX10_write_1 (fun r1 h => ?_)
  refine J_if_eq (tgt := 14) dX10_write_4 rfl (fun c => ?_) (fun c => ?_)
  · have h := h.1 c
    refine J_bipush (v := (-2)) dX10_write_14 cb_m2 ?_
    exact J_iret rfl dX10_write_16 ⟨_, rfl, h⟩
  · have h := h.2 c
    refine J_iload_n 2 dX10_write_7 rfl rfl ?_
    refine JS_Ri kS_RX10_210 (c_X_isSheet h) rfl rfl (by decide) (Nat.le_of_ble_eq_true rfl) dX10_write_8 (fun r3 h => ?_)
    refine J_if_ne (tgt := 17) dX10_write_11 rfl (fun c => ?_) (fun c => ?_)
    · have h := h.1 c
      refine J_aload_n 0 dX10_write_17 rfl rfl ?_
      refine gX_0_7 dX10_write_18 ?_
      refine J_iload_n 2 dX10_write_21 rfl rfl ?_
      refine aX_sheets h.1 dX10_write_22 ?_
      have hj5 := vp_lt h.1
      have h := h.2
      refine JV_Ri kV_RX10_213 (9 + x2.toNatClampNeg) (rX_sh hj5) rfl rfl (c_Z_isLost hj5 h) rfl rfl (by decide) (Nat.le_of_ble_eq_true rfl) dX10_write_23 (fun r6 h => ?_)
      refine J_if_eq (tgt := 35) dX10_write_26 rfl (fun c => ?_) (fun c => ?_)
      · have h := h.1 c
        refine J_aload_n 0 dX10_write_35 rfl rfl ?_
        refine gX_0_7 dX10_write_36 ?_
        refine J_iload_n 2 dX10_write_39 rfl rfl ?_
        refine aX_sheets h.1 dX10_write_40 ?_
        have hj8 := vp_lt h.1
        have h := h.2
        refine JV_Ri kV_RX10_219 (9 + x2.toNatClampNeg) (rX_sh hj8) rfl rfl (c_Z_size hj8 h) rfl rfl (by decide) (Nat.le_of_ble_eq_true rfl) dX10_write_41 (fun r9 h => ?_)
        refine J_bipush (v := 30) dX10_write_44 cb_30 ?_
        refine J_mmin km_l_min_RX10_274 (by decide) (Nat.le_of_ble_eq_true rfl) dX10_write_46 ?_
        refine J_istore_n (lv' := [(3, .int (if 30 < r9 then 30 else r9)), (0, .ref (ad 0)), (1, .int x1), (2, .int x2)]) dX10_write_49 rfl (Nat.le_of_ble_eq_true rfl) rfl ?_
        refine J_aload_n 1 dX10_write_50 rfl rfl ?_
        refine gX_0_5 dX10_write_51 ?_
        refine J_aload_n 1 dX10_write_54 rfl rfl ?_
        refine JV_Wh kV_RX10_123 0 rX_0 rfl rfl (c_X_freshHouse h) rfl rfl (by decide) (Nat.le_of_ble_eq_true rfl) dX10_write_55 (fun u12 h => ?_)
        refine J_iload_n 0 dX10_write_58 rfl rfl ?_
        refine J_iconst (v := 1) dX10_write_59 ci_1 ?_
        refine J_isub dX10_write_60 ?_
        refine JV_Wv kV_RX10_149 6 rX_6 rfl rfl (c_K_runTo h) rfl rfl (by decide) (Nat.le_of_ble_eq_true rfl) dX10_write_61 (fun u14 h => ?_)
        refine J_iconst (v := 0) dX10_write_64 ci_0 ?_
        refine J_istore (lv' := [(4, .int 0), (3, .int (if 30 < r9 then 30 else r9)), (0, .ref (ad 0)), (1, .int x1), (2, .int x2)]) dX10_write_65 (Nat.le_of_ble_eq_true rfl) rfl ?_
        obtain ⟨n23, h⟩ := h
        refine J_sub (lv' := [(0, .ref (ad 0)), (1, .int x1), (2, .int x2), (3, .int (if 30 < r9 then 30 else r9)), (4, .int 0)]) [2, 3, 4, 1, 0] rfl (t_X_write_l67 ?_ n23 0 u14 h)
        · intro u22 h
          refine J_iload_n 0 dX10_write_115 rfl rfl ?_
          exact J_iret rfl dX10_write_116 ⟨_, rfl, h⟩
      · have h := h.2 c
        refine J_aload_n 0 dX10_write_29 rfl rfl ?_
        refine J_iconst (v := 1) dX10_write_30 ci_1 ?_
        refine JV_Wi kV_RX10_216 0 rX_0 rfl rfl (c_X_finding h) rfl rfl (by decide) (Nat.le_of_ble_eq_true rfl) dX10_write_31 (fun r24 u25 h => ?_)
        exact J_iret rfl dX10_write_34 ⟨_, rfl, h⟩
    · have h := h.2 c
      refine J_bipush (v := (-2)) dX10_write_14 cb_m2 ?_
      exact J_iret rfl dX10_write_16 ⟨_, rfl, h⟩
end
