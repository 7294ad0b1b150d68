section
variable {l : Launch} {D : va_G} {ad : Nat → Nat} {cI cZ cS : ClassId} {rs : va_W} {A0 : Nat → Prop}
abbrev a_M_standsFor (l : Launch) (D : va_G) (ad : Nat → Nat) (cI cZ cS : ClassId) (rs : va_W) (A0 : Nat → Prop) := AM l D ad cI cZ cS rs A0 cX11_standsFor 5 (some .boolean) RX11 1
set_option maxRecDepth 20000 in
set_option maxHeartbeats 4000000 in
theorem t_M_standsFor_b60 {u : Mem} {R : Int32 → Int32 → Prop} {X : Int32 → Prop} {x1 : Int32} {x2 : Int32} {x4 : Int32} {s0 : Int32} {Q : Int32 → Prop} (hR : ∀ (z3 : Int32) (z4 : Int32), R z3 z4 → a_M_standsFor l D ad cI cZ cS rs A0 (jRi u Q) 5 [(0, .ref (ad 0)), (1, .int x1), (2, .int x2), (3, .int z3), (4, .int z4)] [] u) (hX : ∀ (z3 : Int32), X z3 → a_M_standsFor l D ad cI cZ cS rs A0 (jRi u Q) 67 [(3, .int z3)] [] u) (h : w_M_standsFor_b60 R X x1 x2 x4 s0 u Q) : a_M_standsFor l D ad cI cZ cS rs A0 (jRi u Q) 60 [(0, .ref (ad 0)), (1, .int x1), (2, .int x2), (4, .int x4)] [.int s0] u := by
  unfold w_M_standsFor_b60 at h
  refine J_istore_n (lv' := [(3, .int s0), (0, .ref (ad 0)), (1, .int x1), (2, .int x2), (4, .int x4)]) dX11_standsFor_60 rfl (Nat.le_of_ble_eq_true rfl) rfl ?_
  refine J_iinc (v := (x4 + 1)) (lv' := [(4, .int (x4 + 1)), (3, .int s0), (0, .ref (ad 0)), (1, .int x1), (2, .int x2)]) 4 dX11_standsFor_61 rfl rfl (Nat.le_of_ble_eq_true rfl) rfl ?_
  refine J_goto (tgt := 5) dX11_standsFor_64 rfl ?_
  exact J_sub (lv' := [(0, .ref (ad 0)), (1, .int x1), (2, .int x2), (3, .int s0), (4, .int (x4 + 1))]) [2, 3, 4, 1, 0] rfl (hR s0 (x4 + 1) h)
set_option maxRecDepth 20000 in
set_option maxHeartbeats 4000000 in
theorem t_M_standsFor_b59 {u : Mem} {R : Int32 → Int32 → Prop} {X : Int32 → Prop} {x1 : Int32} {x2 : Int32} {x4 : Int32} {Q : Int32 → Prop} (hR : ∀ (z3 : Int32) (z4 : Int32), R z3 z4 → a_M_standsFor l D ad cI cZ cS rs A0 (jRi u Q) 5 [(0, .ref (ad 0)), (1, .int x1), (2, .int x2), (3, .int z3), (4, .int z4)] [] u) (hX : ∀ (z3 : Int32), X z3 → a_M_standsFor l D ad cI cZ cS rs A0 (jRi u Q) 67 [(3, .int z3)] [] u) (h : w_M_standsFor_b59 R X x1 x2 x4 u Q) : a_M_standsFor l D ad cI cZ cS rs A0 (jRi u Q) 59 [(0, .ref (ad 0)), (1, .int x1), (2, .int x2), (4, .int x4)] [] u := by
  unfold w_M_standsFor_b59 at h
  refine J_iconst (v := 0) dX11_standsFor_59 ci_0 ?_
  exact (t_M_standsFor_b60 hR hX h)
set_option maxRecDepth 20000 in
set_option maxHeartbeats 4000000 in
theorem t_M_standsFor_b37 {u : Mem} {R : Int32 → Int32 → Prop} {X : Int32 → Prop} {x1 : Int32} {x2 : Int32} {x4 : Int32} {s0 : Int32} {Q : Int32 → Prop} (hR : ∀ (z3 : Int32) (z4 : Int32), R z3 z4 → a_M_standsFor l D ad cI cZ cS rs A0 (jRi u Q) 5 [(0, .ref (ad 0)), (1, .int x1), (2, .int x2), (3, .int z3), (4, .int z4)] [] u) (hX : ∀ (z3 : Int32), X z3 → a_M_standsFor l D ad cI cZ cS rs A0 (jRi u Q) 67 [(3, .int z3)] [] u) (h : w_M_standsFor_b37 R X x1 x2 x4 s0 u Q) : a_M_standsFor l D ad cI cZ cS rs A0 (jRi u Q) 37 [(0, .ref (ad 0)), (1, .int x1), (2, .int x2), (4, .int x4)] [.int s0] u := by
  unfold w_M_standsFor_b37 at h
  refine J_aload_n 0 dX11_standsFor_37 rfl rfl ?_
  refine gM_0_22 dX11_standsFor_38 ?_
  refine J_iconst (v := 2) dX11_standsFor_41 ci_2 ?_
  refine J_iload 3 dX11_standsFor_42 rfl ?_
  refine J_imul dX11_standsFor_44 ?_
  refine J_iconst (v := 1) dX11_standsFor_45 ci_1 ?_
  refine J_iadd dX11_standsFor_46 ?_
  refine lM_15 (v := (u.2 15 ((2 * x4) + 1).toNatClampNeg)) h.1 rfl dX11_standsFor_47 ?_
  have h := h.2
  refine J_iload_n 2 dX11_standsFor_48 rfl rfl ?_
  refine JS_Ri kS_RX11_142 (c_M_isIn h) rfl rfl (by decide) (Nat.le_of_ble_eq_true rfl) dX11_standsFor_49 (fun r1 h => ?_)
  refine J_icmp_ne (tgt := 59) dX11_standsFor_52 rfl (fun c => ?_) (fun c => ?_)
  · have h := h.1 c
    exact (t_M_standsFor_b59 hR hX h)
  · have h := h.2 c
    refine J_iconst (v := 1) dX11_standsFor_55 ci_1 ?_
    refine J_goto (tgt := 60) dX11_standsFor_56 rfl ?_
    exact (t_M_standsFor_b60 hR hX h)
set_option maxRecDepth 20000 in
set_option maxHeartbeats 4000000 in
theorem t_M_standsFor_l5 {u : Mem}  {X : Int32 → Prop} {x1 : Int32} {x2 : Int32} {Q : Int32 → Prop} (hX : ∀ (x3 : Int32), X x3 → a_M_standsFor l D ad cI cZ cS rs A0 (jRi u Q) 67 [(3, .int x3)] [] u) : ∀ (n : Nat) (x3 : Int32) (x4 : Int32), w_M_standsFor_l5 X x1 x2 u Q n x3 x4 → a_M_standsFor l D ad cI cZ cS rs A0 (jRi u Q) 5 [(0, .ref (ad 0)), (1, .int x1), (2, .int x2), (3, .int x3), (4, .int x4)] [] u := by
  intro n
  induction n with
  | zero =>
    intro x3 x4 h
    exact (by simp only [w_M_standsFor_l5] at h : False).elim
  | succ n ih =>
    intro x3 x4 h
    rw [w_M_standsFor_l5] at h
    refine J_iload 4 dX11_standsFor_5 rfl ?_
    refine J_aload_n 0 dX11_standsFor_7 rfl rfl ?_
    refine gM_0_21 (v := (u.1 6)) rfl dX11_standsFor_8 ?_
    refine J_icmp_ge (tgt := 67) dX11_standsFor_11 rfl (fun c => ?_) (fun c => ?_)
    · have h := h.1 c
      exact J_sub (lv' := [(3, .int x3)]) [3] rfl (hX x3 h)
    · have h := h.2 c
      refine J_iload_n 3 dX11_standsFor_14 rfl rfl ?_
      refine J_if_eq (tgt := 59) dX11_standsFor_15 rfl (fun c => ?_) (fun c => ?_)
      · have h := h.1 c
        exact J_sub (lv' := [(0, .ref (ad 0)), (1, .int x1), (2, .int x2), (4, .int x4)]) [0, 1, 2, 4] rfl (t_M_standsFor_b59 ih hX h)
      · have h := h.2 c
        refine J_iload_n 1 dX11_standsFor_18 rfl rfl ?_
        refine J_aload_n 0 dX11_standsFor_19 rfl rfl ?_
        refine gM_0_22 dX11_standsFor_20 ?_
        refine J_iconst (v := 2) dX11_standsFor_23 ci_2 ?_
        refine J_iload 4 dX11_standsFor_24 rfl ?_
        refine J_imul dX11_standsFor_26 ?_
        refine lM_15 (v := (u.2 15 (2 * x4).toNatClampNeg)) h.1 rfl dX11_standsFor_27 ?_
        have h := h.2
        refine J_iand dX11_standsFor_28 ?_
        refine J_if_eq (tgt := 36) dX11_standsFor_29 rfl (fun c => ?_) (fun c => ?_)
        · have h := h.1 c
          refine J_iconst (v := 0) dX11_standsFor_36 ci_0 ?_
          exact J_sub (lv' := [(0, .ref (ad 0)), (1, .int x1), (2, .int x2), (4, .int x4)]) [0, 1, 2, 4] rfl (t_M_standsFor_b37 ih hX h)
        · have h := h.2 c
          refine J_iconst (v := 1) dX11_standsFor_32 ci_1 ?_
          refine J_goto (tgt := 37) dX11_standsFor_33 rfl ?_
          exact J_sub (lv' := [(0, .ref (ad 0)), (1, .int x1), (2, .int x2), (4, .int x4)]) [0, 1, 2, 4] rfl (t_M_standsFor_b37 ih hX h)
set_option maxRecDepth 20000 in
set_option maxHeartbeats 4000000 in
theorem c_M_standsFor {u : Mem} {x1 : Int32} {x2 : Int32} {Q : Int32 → Prop} (h : w_M_standsFor x1 x2 u Q) : MM l D ad cI cZ cS rs A0 yX11_standsFor cX11_standsFor 5 (some .boolean) 1 [.ref (ad 0), .int x1, .int x2] u (jRi u Q) := by
  unfold w_M_standsFor at h
  refine JMet.of (by decide) (Nat.le_of_ble_eq_true rfl) ?_
  refine J_sub (lv' := [(0, .ref (ad 0)), (1, .int x1), (2, .int x2)]) [0, 1, 2] rfl ?_
  show a_M_standsFor l D ad cI cZ cS rs A0 (jRi u Q) 0 [(0, .ref (ad 0)), (1, .int x1), (2, .int x2)] [] u
  refine J_iconst (v := 1) dX11_standsFor_0 ci_1 ?_
  refine J_istore_n (lv' := [(3, .int 1), (0, .ref (ad 0)), (1, .int x1), (2, .int x2)]) dX11_standsFor_1 rfl (Nat.le_of_ble_eq_true rfl) rfl ?_
  refine J_iconst (v := 0) dX11_standsFor_2 ci_0 ?_
  refine J_istore (lv' := [(4, .int 0), (3, .int 1), (0, .ref (ad 0)), (1, .int x1), (2, .int x2)]) dX11_standsFor_3 (Nat.le_of_ble_eq_true rfl) rfl ?_
  obtain ⟨n4, h⟩ := h
  refine J_sub (lv' := [(0, .ref (ad 0)), (1, .int x1), (2, .int x2), (3, .int 1), (4, .int 0)]) [2, 3, 4, 1, 0] rfl (t_M_standsFor_l5 ?_ n4 1 0 h)
  · intro z3 h
    refine J_iload_n 0 dX11_standsFor_67 rfl rfl ?_
    exact J_zret rfl dX11_standsFor_68 (bz_n h.1) ⟨rfl, _, rfl, h.2⟩
abbrev a_M_standsOf (l : Launch) (D : va_G) (ad : Nat → Nat) (cI cZ cS : ClassId) (rs : va_W) (A0 : Nat → Prop) := AM l D ad cI cZ cS rs A0 cX11_standsOf 6 (some .int) RX11 2
set_option maxRecDepth 20000 in
set_option maxHeartbeats 4000000 in
theorem t_M_standsOf_b55 {u : Mem} {R : Int32 → Int32 → Int32 → Prop} {X : Int32 → Int32 → Prop} {x1 : Int32} {x2 : Int32} {x3 : Int32} {x5 : Int32} {s0 : Int32} {Q : Int32 → Prop} (hR : ∀ (z3 : Int32) (z4 : Int32) (z5 : Int32), R z3 z4 z5 → a_M_standsOf l D ad cI cZ cS rs A0 (jRi u Q) 8 [(0, .ref (ad 0)), (1, .int x1), (2, .int x2), (3, .int z3), (4, .int z4), (5, .int z5)] [] u) (hX : ∀ (z3 : Int32) (z4 : Int32), X z3 z4 → a_M_standsOf l D ad cI cZ cS rs A0 (jRi u Q) 63 [(2, .int x2), (3, .int z3), (4, .int z4)] [] u) (h : w_M_standsOf_b55 R X x1 x2 x3 x5 s0 u Q) : a_M_standsOf l D ad cI cZ cS rs A0 (jRi u Q) 55 [(0, .ref (ad 0)), (1, .int x1), (2, .int x2), (3, .int x3), (5, .int x5)] [.int s0] u := by
  unfold w_M_standsOf_b55 at h
  refine J_istore (lv' := [(4, .int s0), (0, .ref (ad 0)), (1, .int x1), (2, .int x2), (3, .int x3), (5, .int x5)]) dX11_standsOf_55 (Nat.le_of_ble_eq_true rfl) rfl ?_
  refine J_iinc (v := (x5 + 1)) (lv' := [(5, .int (x5 + 1)), (4, .int s0), (0, .ref (ad 0)), (1, .int x1), (2, .int x2), (3, .int x3)]) 5 dX11_standsOf_57 rfl rfl (Nat.le_of_ble_eq_true rfl) rfl ?_
  refine J_goto (tgt := 8) dX11_standsOf_60 rfl ?_
  exact J_sub (lv' := [(0, .ref (ad 0)), (1, .int x1), (2, .int x2), (3, .int x3), (4, .int s0), (5, .int (x5 + 1))]) [2, 3, 4, 5, 1, 0] rfl (hR x3 s0 (x5 + 1) h)
set_option maxRecDepth 20000 in
set_option maxHeartbeats 4000000 in
theorem t_M_standsOf_b48 {u : Mem} {R : Int32 → Int32 → Int32 → Prop} {X : Int32 → Int32 → Prop} {x1 : Int32} {x2 : Int32} {x3 : Int32} {x5 : Int32} {Q : Int32 → Prop} (hR : ∀ (z3 : Int32) (z4 : Int32) (z5 : Int32), R z3 z4 z5 → a_M_standsOf l D ad cI cZ cS rs A0 (jRi u Q) 8 [(0, .ref (ad 0)), (1, .int x1), (2, .int x2), (3, .int z3), (4, .int z4), (5, .int z5)] [] u) (hX : ∀ (z3 : Int32) (z4 : Int32), X z3 z4 → a_M_standsOf l D ad cI cZ cS rs A0 (jRi u Q) 63 [(2, .int x2), (3, .int z3), (4, .int z4)] [] u) (h : w_M_standsOf_b48 R X x1 x2 x3 x5 u Q) : a_M_standsOf l D ad cI cZ cS rs A0 (jRi u Q) 48 [(0, .ref (ad 0)), (1, .int x1), (2, .int x2), (3, .int x3), (5, .int x5)] [] u := by
  unfold w_M_standsOf_b48 at h
  refine J_iload 4 dX11_standsOf_48 rfl ?_
  refine J_goto (tgt := 55) dX11_standsOf_50 rfl ?_
  exact (t_M_standsOf_b55 hR hX h)
set_option maxRecDepth 20000 in
set_option maxHeartbeats 4000000 in
theorem t_M_standsOf_l8 {u : Mem}  {X : Int32 → Int32 → Prop} {x1 : Int32} {x2 : Int32} {Q : Int32 → Prop} (hX : ∀ (x3 : Int32) (x4 : Int32), X x3 x4 → a_M_standsOf l D ad cI cZ cS rs A0 (jRi u Q) 63 [(2, .int x2), (3, .int x3), (4, .int x4)] [] u) : ∀ (n : Nat) (x3 : Int32) (x4 : Int32) (x5 : Int32), w_M_standsOf_l8 X x1 x2 u Q n x3 x4 x5 → a_M_standsOf l D ad cI cZ cS rs A0 (jRi u Q) 8 [(0, .ref (ad 0)), (1, .int x1), (2, .int x2), (3, .int x3), (4, .int x4), (5, .int x5)] [] u := by
  intro n
  induction n with
  | zero =>
    intro x3 x4 x5 h
    exact (by simp only [w_M_standsOf_l8] at h : False).elim
  | succ n ih =>
    intro x3 x4 x5 h
    rw [w_M_standsOf_l8] at h
    refine J_iload 5 dX11_standsOf_8 rfl ?_
    refine J_sipush (v := 256) dX11_standsOf_10 cs_256 ?_
    refine J_icmp_ge (tgt := 63) dX11_standsOf_13 rfl (fun c => ?_) (fun c => ?_)
    · have h := h.1 c
      exact J_sub (lv' := [(2, .int x2), (3, .int x3), (4, .int x4)]) [2, 3, 4] rfl (hX x3 x4 h)
    · have h := h.2 c
      refine J_aload_n 0 dX11_standsOf_16 rfl rfl ?_
      refine J_iload 5 dX11_standsOf_17 rfl ?_
      refine J_iload_n 1 dX11_standsOf_19 rfl rfl ?_
      refine JV_Ri kV_RX11_222 0 rM_0 rfl rfl (c_M_standsFor h) rfl rfl (by decide) (Nat.le_of_ble_eq_true rfl) dX11_standsOf_20 (fun r1 h => ?_)
      refine J_if_eq (tgt := 57) dX11_standsOf_23 rfl (fun c => ?_) (fun c => ?_)
      · have h := h.1 c
        refine J_iinc (v := (x5 + 1)) (lv' := [(5, .int (x5 + 1)), (0, .ref (ad 0)), (1, .int x1), (2, .int x2), (3, .int x3), (4, .int x4)]) 5 dX11_standsOf_57 rfl rfl (Nat.le_of_ble_eq_true rfl) rfl ?_
        refine J_goto (tgt := 8) dX11_standsOf_60 rfl ?_
        exact J_sub (lv' := [(0, .ref (ad 0)), (1, .int x1), (2, .int x2), (3, .int x3), (4, .int x4), (5, .int (x5 + 1))]) [1, 2, 3, 4, 5, 0] rfl (ih x3 x4 (x5 + 1) h)
      · have h := h.2 c
        refine J_iinc (v := (x3 + 1)) (lv' := [(3, .int (x3 + 1)), (0, .ref (ad 0)), (1, .int x1), (2, .int x2), (4, .int x4), (5, .int x5)]) 3 dX11_standsOf_26 rfl rfl (Nat.le_of_ble_eq_true rfl) rfl ?_
        refine J_iload 4 dX11_standsOf_29 rfl ?_
        refine J_iconst (v := (-1)) dX11_standsOf_31 ci_m1 ?_
        refine J_icmp_eq (tgt := 48) dX11_standsOf_32 rfl (fun c => ?_) (fun c => ?_)
        · have h := h.1 c
          exact J_sub (lv' := [(0, .ref (ad 0)), (1, .int x1), (2, .int x2), (3, .int (x3 + 1)), (5, .int x5)]) [1, 2, 3, 0, 5] rfl (t_M_standsOf_b48 ih hX h)
        · have h := h.2 c
          refine J_iload 5 dX11_standsOf_35 rfl ?_
          refine JS_Ri kS_RX11_170 (c_M_ones h) rfl rfl (by decide) (Nat.le_of_ble_eq_true rfl) dX11_standsOf_37 (fun r3 h => ?_)
          refine J_iload 4 dX11_standsOf_40 rfl ?_
          refine JS_Ri kS_RX11_170 (c_M_ones h) rfl rfl (by decide) (Nat.le_of_ble_eq_true rfl) dX11_standsOf_42 (fun r5 h => ?_)
          refine J_icmp_ge (tgt := 53) dX11_standsOf_45 rfl (fun c => ?_) (fun c => ?_)
          · have h := h.1 c
            refine J_iload 4 dX11_standsOf_53 rfl ?_
            exact J_sub (lv' := [(0, .ref (ad 0)), (1, .int x1), (2, .int x2), (3, .int (x3 + 1)), (5, .int x5)]) [1, 2, 3, 0, 5] rfl (t_M_standsOf_b55 ih hX h)
          · have h := h.2 c
            exact J_sub (lv' := [(0, .ref (ad 0)), (1, .int x1), (2, .int x2), (3, .int (x3 + 1)), (5, .int x5)]) [1, 2, 3, 0, 5] rfl (t_M_standsOf_b48 ih hX h)
set_option maxRecDepth 20000 in
set_option maxHeartbeats 4000000 in
theorem c_M_standsOf {u : Mem} {x1 : Int32} {x2 : Int32} {Q : Int32 → Prop} (h : w_M_standsOf x1 x2 u Q) : MM l D ad cI cZ cS rs A0 yX11_standsOf cX11_standsOf 6 (some .int) 2 [.ref (ad 0), .int x1, .int x2] u (jRi u Q) := by
  unfold w_M_standsOf at h
  refine JMet.of (by decide) (Nat.le_of_ble_eq_true rfl) ?_
  refine J_sub (lv' := [(0, .ref (ad 0)), (1, .int x1), (2, .int x2)]) [0, 1, 2] rfl ?_
  show a_M_standsOf l D ad cI cZ cS rs A0 (jRi u Q) 0 [(0, .ref (ad 0)), (1, .int x1), (2, .int x2)] [] u
  refine J_iconst (v := 0) dX11_standsOf_0 ci_0 ?_
  refine J_istore_n (lv' := [(3, .int 0), (0, .ref (ad 0)), (1, .int x1), (2, .int x2)]) dX11_standsOf_1 rfl (Nat.le_of_ble_eq_true rfl) rfl ?_
  refine J_iconst (v := (-1)) dX11_standsOf_2 ci_m1 ?_
  refine J_istore (lv' := [(4, .int (-1)), (3, .int 0), (0, .ref (ad 0)), (1, .int x1), (2, .int x2)]) dX11_standsOf_3 (Nat.le_of_ble_eq_true rfl) rfl ?_
  refine J_iconst (v := 0) dX11_standsOf_5 ci_0 ?_
  refine J_istore (lv' := [(5, .int 0), (4, .int (-1)), (3, .int 0), (0, .ref (ad 0)), (1, .int x1), (2, .int x2)]) dX11_standsOf_6 (Nat.le_of_ble_eq_true rfl) rfl ?_
  obtain ⟨n9, h⟩ := h
  refine J_sub (lv' := [(0, .ref (ad 0)), (1, .int x1), (2, .int x2), (3, .int 0), (4, .int (-1)), (5, .int 0)]) [3, 4, 5, 2, 1, 0] rfl (t_M_standsOf_l8 ?_ n9 0 (-1) 0 h)
  · intro z7 z8 h
    refine J_iload_n 0 dX11_standsOf_63 rfl rfl ?_
    refine J_if_ne (tgt := 71) dX11_standsOf_64 rfl (fun c => ?_) (fun c => ?_)
    · have h := h.1 c
      refine J_iload 2 dX11_standsOf_71 rfl ?_
      exact J_iret rfl dX11_standsOf_73 ⟨rfl, _, rfl, h⟩
    · have h := h.2 c
      refine J_iload_n 1 dX11_standsOf_67 rfl rfl ?_
      refine J_goto (tgt := 73) dX11_standsOf_68 rfl ?_
      exact J_iret rfl dX11_standsOf_73 ⟨rfl, _, rfl, h⟩
abbrev a_M_stands (l : Launch) (D : va_G) (ad : Nat → Nat) (cI cZ cS : ClassId) (rs : va_W) (A0 : Nat → Prop) := AM l D ad cI cZ cS rs A0 cX11_stands 3 (some .int) RX11 3
set_option maxRecDepth 20000 in
set_option maxHeartbeats 4000000 in
theorem c_M_stands {u : Mem} {x1 : Int32} {x2 : Int32} {Q : Int32 → Prop} (h : w_M_stands x1 x2 u Q) : MM l D ad cI cZ cS rs A0 yX11_stands cX11_stands 3 (some .int) 3 [.ref (ad 0), .int x1, .int x2] u (jRi u Q) := by
  unfold w_M_stands at h
  refine JMet.of (by decide) (Nat.le_of_ble_eq_true rfl) ?_
  refine J_sub (lv' := [(0, .ref (ad 0)), (1, .int x1), (2, .int x2)]) [0, 1, 2] rfl ?_
  show a_M_stands l D ad cI cZ cS rs A0 (jRi u Q) 0 [(0, .ref (ad 0)), (1, .int x1), (2, .int x2)] [] u
  refine J_iload_n 1 dX11_stands_0 rfl rfl ?_
  refine JS_Ri kS_RX11_158 (c_M_isThing h) rfl rfl (by decide) (Nat.le_of_ble_eq_true rfl) dX11_stands_1 (fun r1 h => ?_)
  refine J_if_eq (tgt := 23) dX11_stands_4 rfl (fun c => ?_) (fun c => ?_)
  · have h := h.1 c
    refine J_bipush (v := (-2)) dX11_stands_23 cb_m2 ?_
    exact J_iret rfl dX11_stands_25 ⟨rfl, _, rfl, h⟩
  · have h := h.2 c
    refine J_iload_n 2 dX11_stands_7 rfl rfl ?_
    refine JS_Ri kS_RX11_90 (c_M_isTwo h) rfl rfl (by decide) (Nat.le_of_ble_eq_true rfl) dX11_stands_8 (fun r3 h => ?_)
    refine J_if_eq (tgt := 23) dX11_stands_11 rfl (fun c => ?_) (fun c => ?_)
    · have h := h.1 c
      refine J_bipush (v := (-2)) dX11_stands_23 cb_m2 ?_
      exact J_iret rfl dX11_stands_25 ⟨rfl, _, rfl, h⟩
    · have h := h.2 c
      refine J_aload_n 0 dX11_stands_14 rfl rfl ?_
      refine J_iload_n 1 dX11_stands_15 rfl rfl ?_
      refine J_iload_n 2 dX11_stands_16 rfl rfl ?_
      refine JV_Ri kV_RX11_225 0 rM_0 rfl rfl (c_M_standsOf h) rfl rfl (by decide) (Nat.le_of_ble_eq_true rfl) dX11_stands_17 (fun r5 h => ?_)
      refine J_goto (tgt := 25) dX11_stands_20 rfl ?_
      exact J_iret rfl dX11_stands_25 ⟨rfl, _, rfl, h⟩
abbrev a_M_watchOf (l : Launch) (D : va_G) (ad : Nat → Nat) (cI cZ cS : ClassId) (rs : va_W) (A0 : Nat → Prop) := AM l D ad cI cZ cS rs A0 cX11_watchOf 9 (some .int) RX11 3
set_option maxRecDepth 20000 in
set_option maxHeartbeats 4000000 in
theorem t_M_watchOf_b67 {u : Mem} {R : Int32 → Int32 → Prop} {X : Int32 → Prop} {x1 : Int32} {x2 : Int32} {x3 : Int32} {x4 : Int32} {x5 : Int32} {x7 : Int32} {s0 : Int32} {s1 : Int32} {Q : Int32 → Prop} (hR : ∀ (z6 : Int32) (z7 : Int32), R z6 z7 → a_M_watchOf l D ad cI cZ cS rs A0 (jRi u Q) 32 [(0, .ref (ad 0)), (1, .int x1), (2, .int x2), (3, .int x3), (4, .int x4), (5, .int x5), (6, .int z6), (7, .int z7)] [] u) (hX : ∀ (z6 : Int32), X z6 → a_M_watchOf l D ad cI cZ cS rs A0 (jRi u Q) 76 [(0, .ref (ad 0)), (1, .int x1), (2, .int x2), (3, .int x3), (4, .int x4), (5, .int x5), (6, .int z6)] [] u) (h : w_M_watchOf_b67 R X x1 x2 x3 x4 x5 x7 s0 s1 u Q) : a_M_watchOf l D ad cI cZ cS rs A0 (jRi u Q) 67 [(0, .ref (ad 0)), (1, .int x1), (2, .int x2), (3, .int x3), (4, .int x4), (5, .int x5), (7, .int x7)] [.int s0, .int s1] u := by
  unfold w_M_watchOf_b67 at h
  refine J_iadd dX11_watchOf_67 ?_
  refine J_istore (lv' := [(6, .int (s1 + s0)), (0, .ref (ad 0)), (1, .int x1), (2, .int x2), (3, .int x3), (4, .int x4), (5, .int x5), (7, .int x7)]) dX11_watchOf_68 (Nat.le_of_ble_eq_true rfl) rfl ?_
  refine J_iinc (v := (x7 + 1)) (lv' := [(7, .int (x7 + 1)), (6, .int (s1 + s0)), (0, .ref (ad 0)), (1, .int x1), (2, .int x2), (3, .int x3), (4, .int x4), (5, .int x5)]) 7 dX11_watchOf_70 rfl rfl (Nat.le_of_ble_eq_true rfl) rfl ?_
  refine J_goto (tgt := 32) dX11_watchOf_73 rfl ?_
  exact J_sub (lv' := [(0, .ref (ad 0)), (1, .int x1), (2, .int x2), (3, .int x3), (4, .int x4), (5, .int x5), (6, .int (s1 + s0)), (7, .int (x7 + 1))]) [2, 3, 4, 5, 6, 7, 1, 0] rfl (hR (s1 + s0) (x7 + 1) h)
set_option maxRecDepth 20000 in
set_option maxHeartbeats 4000000 in
theorem t_M_watchOf_b66 {u : Mem} {R : Int32 → Int32 → Prop} {X : Int32 → Prop} {x1 : Int32} {x2 : Int32} {x3 : Int32} {x4 : Int32} {x5 : Int32} {x7 : Int32} {s0 : Int32} {Q : Int32 → Prop} (hR : ∀ (z6 : Int32) (z7 : Int32), R z6 z7 → a_M_watchOf l D ad cI cZ cS rs A0 (jRi u Q) 32 [(0, .ref (ad 0)), (1, .int x1), (2, .int x2), (3, .int x3), (4, .int x4), (5, .int x5), (6, .int z6), (7, .int z7)] [] u) (hX : ∀ (z6 : Int32), X z6 → a_M_watchOf l D ad cI cZ cS rs A0 (jRi u Q) 76 [(0, .ref (ad 0)), (1, .int x1), (2, .int x2), (3, .int x3), (4, .int x4), (5, .int x5), (6, .int z6)] [] u) (h : w_M_watchOf_b66 R X x1 x2 x3 x4 x5 x7 s0 u Q) : a_M_watchOf l D ad cI cZ cS rs A0 (jRi u Q) 66 [(0, .ref (ad 0)), (1, .int x1), (2, .int x2), (3, .int x3), (4, .int x4), (5, .int x5), (7, .int x7)] [.int s0] u := by
  unfold w_M_watchOf_b66 at h
  refine J_iconst (v := 0) dX11_watchOf_66 ci_0 ?_
  exact (t_M_watchOf_b67 hR hX h)
set_option maxRecDepth 20000 in
set_option maxHeartbeats 4000000 in
theorem t_M_watchOf_l32 {u : Mem}  {X : Int32 → Prop} {x1 : Int32} {x2 : Int32} {x3 : Int32} {x4 : Int32} {x5 : Int32} {Q : Int32 → Prop} (hX : ∀ (x6 : Int32), X x6 → a_M_watchOf l D ad cI cZ cS rs A0 (jRi u Q) 76 [(0, .ref (ad 0)), (1, .int x1), (2, .int x2), (3, .int x3), (4, .int x4), (5, .int x5), (6, .int x6)] [] u) : ∀ (n : Nat) (x6 : Int32) (x7 : Int32), w_M_watchOf_l32 X x1 x2 x3 x4 x5 u Q n x6 x7 → a_M_watchOf l D ad cI cZ cS rs A0 (jRi u Q) 32 [(0, .ref (ad 0)), (1, .int x1), (2, .int x2), (3, .int x3), (4, .int x4), (5, .int x5), (6, .int x6), (7, .int x7)] [] u := by
  intro n
  induction n with
  | zero =>
    intro x6 x7 h
    exact (by simp only [w_M_watchOf_l32] at h : False).elim
  | succ n ih =>
    intro x6 x7 h
    rw [w_M_watchOf_l32] at h
    refine J_iload 7 dX11_watchOf_32 rfl ?_
    refine J_sipush (v := 256) dX11_watchOf_34 cs_256 ?_
    refine J_icmp_ge (tgt := 76) dX11_watchOf_37 rfl (fun c => ?_) (fun c => ?_)
    · have h := h.1 c
      exact J_sub (lv' := [(0, .ref (ad 0)), (1, .int x1), (2, .int x2), (3, .int x3), (4, .int x4), (5, .int x5), (6, .int x6)]) [0, 1, 2, 3, 4, 5, 6] rfl (hX x6 h)
    · have h := h.2 c
      refine J_iload 6 dX11_watchOf_40 rfl ?_
      refine J_iload 7 dX11_watchOf_42 rfl ?_
      refine J_iload 5 dX11_watchOf_44 rfl ?_
      refine JS_Ri kS_RX11_142 (c_M_isIn h) rfl rfl (by decide) (Nat.le_of_ble_eq_true rfl) dX11_watchOf_46 (fun r3 h => ?_)
      refine J_if_eq (tgt := 66) dX11_watchOf_49 rfl (fun c => ?_) (fun c => ?_)
      · have h := h.1 c
        exact J_sub (lv' := [(0, .ref (ad 0)), (1, .int x1), (2, .int x2), (3, .int x3), (4, .int x4), (5, .int x5), (7, .int x7)]) [0, 1, 2, 3, 4, 5, 7] rfl (t_M_watchOf_b66 ih hX h)
      · have h := h.2 c
        refine J_aload_n 0 dX11_watchOf_52 rfl rfl ?_
        refine J_iload 7 dX11_watchOf_53 rfl ?_
        refine J_iload_n 1 dX11_watchOf_55 rfl rfl ?_
        refine JV_Ri kV_RX11_222 0 rM_0 rfl rfl (c_M_standsFor h) rfl rfl (by decide) (Nat.le_of_ble_eq_true rfl) dX11_watchOf_56 (fun r5 h => ?_)
        refine J_if_eq (tgt := 66) dX11_watchOf_59 rfl (fun c => ?_) (fun c => ?_)
        · have h := h.1 c
          exact J_sub (lv' := [(0, .ref (ad 0)), (1, .int x1), (2, .int x2), (3, .int x3), (4, .int x4), (5, .int x5), (7, .int x7)]) [0, 1, 2, 3, 4, 5, 7] rfl (t_M_watchOf_b66 ih hX h)
        · have h := h.2 c
          refine J_iconst (v := 1) dX11_watchOf_62 ci_1 ?_
          refine J_goto (tgt := 67) dX11_watchOf_63 rfl ?_
          exact J_sub (lv' := [(0, .ref (ad 0)), (1, .int x1), (2, .int x2), (3, .int x3), (4, .int x4), (5, .int x5), (7, .int x7)]) [0, 1, 2, 3, 4, 5, 7] rfl (t_M_watchOf_b67 ih hX h)
set_option maxRecDepth 20000 in
set_option maxHeartbeats 4000000 in
theorem t_M_watchOf_b144 {u : Mem} {R : Int32 → Int32 → Int32 → Prop} {X : Int32 → Prop} {x1 : Int32} {x2 : Int32} {x3 : Int32} {x5 : Int32} {s0 : Int32} {Q : Int32 → Prop} (hR : ∀ (z3 : Int32) (z4 : Int32) (z5 : Int32), R z3 z4 z5 → a_M_watchOf l D ad cI cZ cS rs A0 (jRi u Q) 15 [(0, .ref (ad 0)), (1, .int x1), (2, .int x2), (3, .int z3), (4, .int z4), (5, .int z5)] [] u) (hX : ∀ (z3 : Int32), X z3 → a_M_watchOf l D ad cI cZ cS rs A0 (jRi u Q) 152 [(3, .int z3)] [] u) (h : w_M_watchOf_b144 R X x1 x2 x3 x5 s0 u Q) : a_M_watchOf l D ad cI cZ cS rs A0 (jRi u Q) 144 [(0, .ref (ad 0)), (1, .int x1), (2, .int x2), (3, .int x3), (5, .int x5)] [.int s0] u := by
  unfold w_M_watchOf_b144 at h
  refine J_istore (lv' := [(4, .int s0), (0, .ref (ad 0)), (1, .int x1), (2, .int x2), (3, .int x3), (5, .int x5)]) dX11_watchOf_144 (Nat.le_of_ble_eq_true rfl) rfl ?_
  refine J_iinc (v := (x5 + 1)) (lv' := [(5, .int (x5 + 1)), (4, .int s0), (0, .ref (ad 0)), (1, .int x1), (2, .int x2), (3, .int x3)]) 5 dX11_watchOf_146 rfl rfl (Nat.le_of_ble_eq_true rfl) rfl ?_
  refine J_goto (tgt := 15) dX11_watchOf_149 rfl ?_
  exact J_sub (lv' := [(0, .ref (ad 0)), (1, .int x1), (2, .int x2), (3, .int x3), (4, .int s0), (5, .int (x5 + 1))]) [2, 3, 4, 5, 1, 0] rfl (hR x3 s0 (x5 + 1) h)
set_option maxRecDepth 20000 in
set_option maxHeartbeats 4000000 in
theorem t_M_watchOf_b131 {u : Mem} {R : Int32 → Int32 → Int32 → Prop} {X : Int32 → Prop} {x1 : Int32} {x2 : Int32} {x4 : Int32} {x5 : Int32} {x7 : Int32} {x8 : Int32} {s0 : Int32} {Q : Int32 → Prop} (hR : ∀ (z3 : Int32) (z4 : Int32) (z5 : Int32), R z3 z4 z5 → a_M_watchOf l D ad cI cZ cS rs A0 (jRi u Q) 15 [(0, .ref (ad 0)), (1, .int x1), (2, .int x2), (3, .int z3), (4, .int z4), (5, .int z5)] [] u) (hX : ∀ (z3 : Int32), X z3 → a_M_watchOf l D ad cI cZ cS rs A0 (jRi u Q) 152 [(3, .int z3)] [] u) (h : w_M_watchOf_b131 R X x1 x2 x4 x5 x7 x8 s0 u Q) : a_M_watchOf l D ad cI cZ cS rs A0 (jRi u Q) 131 [(0, .ref (ad 0)), (1, .int x1), (2, .int x2), (4, .int x4), (5, .int x5), (7, .int x7), (8, .int x8)] [.int s0] u := by
  unfold w_M_watchOf_b131 at h
  refine J_istore_n (lv' := [(3, .int s0), (0, .ref (ad 0)), (1, .int x1), (2, .int x2), (4, .int x4), (5, .int x5), (7, .int x7), (8, .int x8)]) dX11_watchOf_131 rfl (Nat.le_of_ble_eq_true rfl) rfl ?_
  refine J_iload 7 dX11_watchOf_132 rfl ?_
  refine J_if_eq (tgt := 142) dX11_watchOf_134 rfl (fun c => ?_) (fun c => ?_)
  · have h := h.1 c
    refine J_iload 4 dX11_watchOf_142 rfl ?_
    exact J_sub (lv' := [(0, .ref (ad 0)), (1, .int x1), (2, .int x2), (3, .int s0), (5, .int x5)]) [1, 2, 3, 0, 5] rfl (t_M_watchOf_b144 hR hX h)
  · have h := h.2 c
    refine J_iload 6 dX11_watchOf_137 rfl ?_
    refine J_goto (tgt := 144) dX11_watchOf_139 rfl ?_
    exact J_sub (lv' := [(0, .ref (ad 0)), (1, .int x1), (2, .int x2), (3, .int s0), (5, .int x5)]) [1, 2, 3, 0, 5] rfl (t_M_watchOf_b144 hR hX h)
set_option maxRecDepth 20000 in
set_option maxHeartbeats 4000000 in
theorem t_M_watchOf_b118 {u : Mem} {R : Int32 → Int32 → Int32 → Prop} {X : Int32 → Prop} {x1 : Int32} {x2 : Int32} {x3 : Int32} {x4 : Int32} {x5 : Int32} {x7 : Int32} {s0 : Int32} {Q : Int32 → Prop} (hR : ∀ (z3 : Int32) (z4 : Int32) (z5 : Int32), R z3 z4 z5 → a_M_watchOf l D ad cI cZ cS rs A0 (jRi u Q) 15 [(0, .ref (ad 0)), (1, .int x1), (2, .int x2), (3, .int z3), (4, .int z4), (5, .int z5)] [] u) (hX : ∀ (z3 : Int32), X z3 → a_M_watchOf l D ad cI cZ cS rs A0 (jRi u Q) 152 [(3, .int z3)] [] u) (h : w_M_watchOf_b118 R X x1 x2 x3 x4 x5 x7 s0 u Q) : a_M_watchOf l D ad cI cZ cS rs A0 (jRi u Q) 118 [(0, .ref (ad 0)), (1, .int x1), (2, .int x2), (3, .int x3), (4, .int x4), (5, .int x5), (7, .int x7)] [.int s0] u := by
  unfold w_M_watchOf_b118 at h
  refine J_istore (lv' := [(8, .int s0), (0, .ref (ad 0)), (1, .int x1), (2, .int x2), (3, .int x3), (4, .int x4), (5, .int x5), (7, .int x7)]) dX11_watchOf_118 (Nat.le_of_ble_eq_true rfl) rfl ?_
  refine J_iload 0 dX11_watchOf_120 rfl ?_
  refine J_if_eq (tgt := 130) dX11_watchOf_122 rfl (fun c => ?_) (fun c => ?_)
  · have h := h.1 c
    refine J_iload_n 4 dX11_watchOf_130 rfl rfl ?_
    exact J_sub (lv' := [(0, .ref (ad 0)), (1, .int x1), (2, .int x2), (4, .int x4), (5, .int x5), (7, .int x7), (8, .int s0)]) [1, 2, 3, 5, 6, 7, 0] rfl (t_M_watchOf_b131 hR hX h)
  · have h := h.2 c
    refine J_iload 6 dX11_watchOf_125 rfl ?_
    refine J_goto (tgt := 131) dX11_watchOf_127 rfl ?_
    exact J_sub (lv' := [(0, .ref (ad 0)), (1, .int x1), (2, .int x2), (4, .int x4), (5, .int x5), (7, .int x7), (8, .int s0)]) [1, 2, 3, 5, 6, 7, 0] rfl (t_M_watchOf_b131 hR hX h)
set_option maxRecDepth 20000 in
set_option maxHeartbeats 4000000 in
theorem t_M_watchOf_b113 {u : Mem} {R : Int32 → Int32 → Int32 → Prop} {X : Int32 → Prop} {x1 : Int32} {x2 : Int32} {x3 : Int32} {x4 : Int32} {x5 : Int32} {x7 : Int32} {Q : Int32 → Prop} (hR : ∀ (z3 : Int32) (z4 : Int32) (z5 : Int32), R z3 z4 z5 → a_M_watchOf l D ad cI cZ cS rs A0 (jRi u Q) 15 [(0, .ref (ad 0)), (1, .int x1), (2, .int x2), (3, .int z3), (4, .int z4), (5, .int z5)] [] u) (hX : ∀ (z3 : Int32), X z3 → a_M_watchOf l D ad cI cZ cS rs A0 (jRi u Q) 152 [(3, .int z3)] [] u) (h : w_M_watchOf_b113 R X x1 x2 x3 x4 x5 x7 u Q) : a_M_watchOf l D ad cI cZ cS rs A0 (jRi u Q) 113 [(0, .ref (ad 0)), (1, .int x1), (2, .int x2), (3, .int x3), (4, .int x4), (5, .int x5), (7, .int x7)] [] u := by
  unfold w_M_watchOf_b113 at h
  refine J_iconst (v := 1) dX11_watchOf_113 ci_1 ?_
  refine J_goto (tgt := 118) dX11_watchOf_114 rfl ?_
  exact (t_M_watchOf_b118 hR hX h)
set_option maxRecDepth 20000 in
set_option maxHeartbeats 4000000 in
theorem t_M_watchOf_b99 {u : Mem} {R : Int32 → Int32 → Int32 → Prop} {X : Int32 → Prop} {x1 : Int32} {x2 : Int32} {x3 : Int32} {x4 : Int32} {x5 : Int32} {s0 : Int32} {Q : Int32 → Prop} (hR : ∀ (z3 : Int32) (z4 : Int32) (z5 : Int32), R z3 z4 z5 → a_M_watchOf l D ad cI cZ cS rs A0 (jRi u Q) 15 [(0, .ref (ad 0)), (1, .int x1), (2, .int x2), (3, .int z3), (4, .int z4), (5, .int z5)] [] u) (hX : ∀ (z3 : Int32), X z3 → a_M_watchOf l D ad cI cZ cS rs A0 (jRi u Q) 152 [(3, .int z3)] [] u) (h : w_M_watchOf_b99 R X x1 x2 x3 x4 x5 s0 u Q) : a_M_watchOf l D ad cI cZ cS rs A0 (jRi u Q) 99 [(0, .ref (ad 0)), (1, .int x1), (2, .int x2), (3, .int x3), (4, .int x4), (5, .int x5)] [.int s0] u := by
  unfold w_M_watchOf_b99 at h
  refine J_istore (lv' := [(7, .int s0), (0, .ref (ad 0)), (1, .int x1), (2, .int x2), (3, .int x3), (4, .int x4), (5, .int x5)]) dX11_watchOf_99 (Nat.le_of_ble_eq_true rfl) rfl ?_
  refine J_iload_n 4 dX11_watchOf_101 rfl rfl ?_
  refine J_iconst (v := (-1)) dX11_watchOf_102 ci_m1 ?_
  refine J_icmp_eq (tgt := 113) dX11_watchOf_103 rfl (fun c => ?_) (fun c => ?_)
  · have h := h.1 c
    exact J_sub (lv' := [(0, .ref (ad 0)), (1, .int x1), (2, .int x2), (3, .int x3), (4, .int x4), (5, .int x5), (7, .int s0)]) [1, 2, 3, 4, 5, 6, 0] rfl (t_M_watchOf_b113 hR hX h)
  · have h := h.2 c
    refine J_iload 0 dX11_watchOf_106 rfl ?_
    refine J_iload 5 dX11_watchOf_108 rfl ?_
    refine J_icmp_ge (tgt := 117) dX11_watchOf_110 rfl (fun c => ?_) (fun c => ?_)
    · have h := h.1 c
      refine J_iconst (v := 0) dX11_watchOf_117 ci_0 ?_
      exact J_sub (lv' := [(0, .ref (ad 0)), (1, .int x1), (2, .int x2), (3, .int x3), (4, .int x4), (5, .int x5), (7, .int s0)]) [1, 2, 3, 4, 5, 6, 0] rfl (t_M_watchOf_b118 hR hX h)
    · have h := h.2 c
      exact J_sub (lv' := [(0, .ref (ad 0)), (1, .int x1), (2, .int x2), (3, .int x3), (4, .int x4), (5, .int x5), (7, .int s0)]) [1, 2, 3, 4, 5, 6, 0] rfl (t_M_watchOf_b113 hR hX h)
set_option maxRecDepth 20000 in
set_option maxHeartbeats 4000000 in
theorem t_M_watchOf_l15 {u : Mem}  {X : Int32 → Prop} {x1 : Int32} {x2 : Int32} {Q : Int32 → Prop} (hX : ∀ (x3 : Int32), X x3 → a_M_watchOf l D ad cI cZ cS rs A0 (jRi u Q) 152 [(3, .int x3)] [] u) : ∀ (n : Nat) (x3 : Int32) (x4 : Int32) (x5 : Int32), w_M_watchOf_l15 X x1 x2 u Q n x3 x4 x5 → a_M_watchOf l D ad cI cZ cS rs A0 (jRi u Q) 15 [(0, .ref (ad 0)), (1, .int x1), (2, .int x2), (3, .int x3), (4, .int x4), (5, .int x5)] [] u := by
  intro n
  induction n with
  | zero =>
    intro x3 x4 x5 h
    exact (by simp only [w_M_watchOf_l15] at h : False).elim
  | succ n ih =>
    intro x3 x4 x5 h
    rw [w_M_watchOf_l15] at h
    refine J_iload 5 dX11_watchOf_15 rfl ?_
    refine J_bipush (v := 8) dX11_watchOf_17 cb_8 ?_
    refine J_icmp_ge (tgt := 152) dX11_watchOf_19 rfl (fun c => ?_) (fun c => ?_)
    · have h := h.1 c
      exact J_sub (lv' := [(3, .int x3)]) [3] rfl (hX x3 h)
    · have h := h.2 c
      refine J_iload_n 2 dX11_watchOf_22 rfl rfl ?_
      refine J_if_le (tgt := 152) dX11_watchOf_23 rfl (fun c => ?_) (fun c => ?_)
      · have h := h.1 c
        exact J_sub (lv' := [(3, .int x3)]) [3] rfl (hX x3 h)
      · have h := h.2 c
        refine J_iconst (v := 0) dX11_watchOf_26 ci_0 ?_
        refine J_istore (lv' := [(6, .int 0), (0, .ref (ad 0)), (1, .int x1), (2, .int x2), (3, .int x3), (4, .int x4), (5, .int x5)]) dX11_watchOf_27 (Nat.le_of_ble_eq_true rfl) rfl ?_
        refine J_iconst (v := 0) dX11_watchOf_29 ci_0 ?_
        refine J_istore (lv' := [(7, .int 0), (6, .int 0), (0, .ref (ad 0)), (1, .int x1), (2, .int x2), (3, .int x3), (4, .int x4), (5, .int x5)]) dX11_watchOf_30 (Nat.le_of_ble_eq_true rfl) rfl ?_
        obtain ⟨n8, h⟩ := h
        refine J_sub (lv' := [(0, .ref (ad 0)), (1, .int x1), (2, .int x2), (3, .int x3), (4, .int x4), (5, .int x5), (6, .int 0), (7, .int 0)]) [2, 3, 4, 5, 6, 7, 1, 0] rfl (t_M_watchOf_l32 ?_ n8 0 0 h)
        · intro z7 h
          refine J_iconst (v := 2) dX11_watchOf_76 ci_2 ?_
          refine J_iload 6 dX11_watchOf_77 rfl ?_
          refine J_imul dX11_watchOf_79 ?_
          refine J_iload_n 2 dX11_watchOf_80 rfl rfl ?_
          refine J_icmp_le (tgt := 93) dX11_watchOf_81 rfl (fun c => ?_) (fun c => ?_)
          · have h := h.1 c
            refine J_iload_n 2 dX11_watchOf_93 rfl rfl ?_
            refine J_iconst (v := 2) dX11_watchOf_94 ci_2 ?_
            refine J_iload 6 dX11_watchOf_95 rfl ?_
            refine J_imul dX11_watchOf_97 ?_
            refine J_isub dX11_watchOf_98 ?_
            exact J_sub (lv' := [(0, .ref (ad 0)), (1, .int x1), (2, .int x2), (3, .int x3), (4, .int x4), (5, .int x5)]) [0, 1, 2, 3, 4, 5] rfl (t_M_watchOf_b99 ih hX h)
          · have h := h.2 c
            refine J_iconst (v := 2) dX11_watchOf_84 ci_2 ?_
            refine J_iload 6 dX11_watchOf_85 rfl ?_
            refine J_imul dX11_watchOf_87 ?_
            refine J_iload_n 2 dX11_watchOf_88 rfl rfl ?_
            refine J_isub dX11_watchOf_89 ?_
            refine J_goto (tgt := 99) dX11_watchOf_90 rfl ?_
            exact J_sub (lv' := [(0, .ref (ad 0)), (1, .int x1), (2, .int x2), (3, .int x3), (4, .int x4), (5, .int x5)]) [0, 1, 2, 3, 4, 5] rfl (t_M_watchOf_b99 ih hX h)
set_option maxRecDepth 20000 in
set_option maxHeartbeats 4000000 in
theorem c_M_watchOf {u : Mem} {x1 : Int32} {Q : Int32 → Prop} (h : w_M_watchOf x1 u Q) : MM l D ad cI cZ cS rs A0 yX11_watchOf cX11_watchOf 9 (some .int) 3 [.ref (ad 0), .int x1] u (jRi u Q) := by
  unfold w_M_watchOf at h
  refine JMet.of (by decide) (Nat.le_of_ble_eq_true rfl) ?_
  refine J_sub (lv' := [(0, .ref (ad 0)), (1, .int x1)]) [0, 1] rfl ?_
  show a_M_watchOf l D ad cI cZ cS rs A0 (jRi u Q) 0 [(0, .ref (ad 0)), (1, .int x1)] [] u
  refine J_aload_n 0 dX11_watchOf_0 rfl rfl ?_
  refine J_iload_n 1 dX11_watchOf_1 rfl rfl ?_
  refine J_iconst (v := 0) dX11_watchOf_2 ci_0 ?_
  refine JV_Ri kV_RX11_225 0 rM_0 rfl rfl (c_M_standsOf h) rfl rfl (by decide) (Nat.le_of_ble_eq_true rfl) dX11_watchOf_3 (fun r1 h => ?_)
  refine J_istore_n (lv' := [(2, .int r1), (0, .ref (ad 0)), (1, .int x1)]) dX11_watchOf_6 rfl (Nat.le_of_ble_eq_true rfl) rfl ?_
  refine J_iconst (v := (-1)) dX11_watchOf_7 ci_m1 ?_
  refine J_istore_n (lv' := [(3, .int (-1)), (2, .int r1), (0, .ref (ad 0)), (1, .int x1)]) dX11_watchOf_8 rfl (Nat.le_of_ble_eq_true rfl) rfl ?_
  refine J_iconst (v := 0) dX11_watchOf_9 ci_0 ?_
  refine J_istore (lv' := [(4, .int 0), (3, .int (-1)), (2, .int r1), (0, .ref (ad 0)), (1, .int x1)]) dX11_watchOf_10 (Nat.le_of_ble_eq_true rfl) rfl ?_
  refine J_iconst (v := 0) dX11_watchOf_12 ci_0 ?_
  refine J_istore (lv' := [(5, .int 0), (4, .int 0), (3, .int (-1)), (2, .int r1), (0, .ref (ad 0)), (1, .int x1)]) dX11_watchOf_13 (Nat.le_of_ble_eq_true rfl) rfl ?_
  obtain ⟨n10, h⟩ := h
  refine J_sub (lv' := [(0, .ref (ad 0)), (1, .int x1), (2, .int r1), (3, .int (-1)), (4, .int 0), (5, .int 0)]) [4, 5, 3, 2, 1, 0] rfl (t_M_watchOf_l15 ?_ n10 (-1) 0 0 h)
  · intro z9 h
    refine J_iload_n 0 dX11_watchOf_152 rfl rfl ?_
    exact J_iret rfl dX11_watchOf_153 ⟨rfl, _, rfl, h⟩
abbrev a_M_watch (l : Launch) (D : va_G) (ad : Nat → Nat) (cI cZ cS : ClassId) (rs : va_W) (A0 : Nat → Prop) := AM l D ad cI cZ cS rs A0 cX11_watch 2 (some .int) RX11 4
set_option maxRecDepth 20000 in
set_option maxHeartbeats 4000000 in
theorem c_M_watch {u : Mem} {x1 : Int32} {Q : Int32 → Prop} (h : w_M_watch x1 u Q) : MM l D ad cI cZ cS rs A0 yX11_watch cX11_watch 2 (some .int) 4 [.ref (ad 0), .int x1] u (jRi u Q) := by
  unfold w_M_watch at h
  refine JMet.of (by decide) (Nat.le_of_ble_eq_true rfl) ?_
  refine J_sub (lv' := [(0, .ref (ad 0)), (1, .int x1)]) [0, 1] rfl ?_
  show a_M_watch l D ad cI cZ cS rs A0 (jRi u Q) 0 [(0, .ref (ad 0)), (1, .int x1)] [] u
  refine J_iload_n 1 dX11_watch_0 rfl rfl ?_
  refine JS_Ri kS_RX11_158 (c_M_isThing h) rfl rfl (by decide) (Nat.le_of_ble_eq_true rfl) dX11_watch_1 (fun r1 h => ?_)
  refine J_if_eq (tgt := 15) dX11_watch_4 rfl (fun c => ?_) (fun c => ?_)
  · have h := h.1 c
    refine J_bipush (v := (-2)) dX11_watch_15 cb_m2 ?_
    exact J_iret rfl dX11_watch_17 ⟨rfl, _, rfl, h⟩
  · have h := h.2 c
    refine J_aload_n 0 dX11_watch_7 rfl rfl ?_
    refine J_iload_n 1 dX11_watch_8 rfl rfl ?_
    refine JV_Ri kV_RX11_228 0 rM_0 rfl rfl (c_M_watchOf h) rfl rfl (by decide) (Nat.le_of_ble_eq_true rfl) dX11_watch_9 (fun r3 h => ?_)
    refine J_goto (tgt := 17) dX11_watch_12 rfl ?_
    exact J_iret rfl dX11_watch_17 ⟨rfl, _, rfl, h⟩
abbrev a_M_movedOf (l : Launch) (D : va_G) (ad : Nat → Nat) (cI cZ cS : ClassId) (rs : va_W) (A0 : Nat → Prop) := AM l D ad cI cZ cS rs A0 cX11_movedOf 4 (some .int) RX11 0
set_option maxRecDepth 20000 in
set_option maxHeartbeats 4000000 in
theorem t_M_movedOf_b35 {u : Mem} {R : Int32 → Int32 → Prop} {X : Int32 → Prop} {x1 : Int32} {x3 : Int32} {s0 : Int32} {s1 : Int32} {Q : Int32 → Prop} (hR : ∀ (z2 : Int32) (z3 : Int32), R z2 z3 → a_M_movedOf l D ad cI cZ cS rs A0 (jRi u Q) 4 [(0, .ref (ad 0)), (1, .int x1), (2, .int z2), (3, .int z3)] [] u) (hX : ∀ (z2 : Int32), X z2 → a_M_movedOf l D ad cI cZ cS rs A0 (jRi u Q) 43 [(2, .int z2)] [] u) (h : w_M_movedOf_b35 R X x1 x3 s0 s1 u Q) : a_M_movedOf l D ad cI cZ cS rs A0 (jRi u Q) 35 [(0, .ref (ad 0)), (1, .int x1), (3, .int x3)] [.int s0, .int s1] u := by
  unfold w_M_movedOf_b35 at h
  refine J_ior dX11_movedOf_35 ?_
  refine J_istore_n (lv' := [(2, .int (s1 ||| s0)), (0, .ref (ad 0)), (1, .int x1), (3, .int x3)]) dX11_movedOf_36 rfl (Nat.le_of_ble_eq_true rfl) rfl ?_
  refine J_iinc (v := (x3 + 1)) (lv' := [(3, .int (x3 + 1)), (2, .int (s1 ||| s0)), (0, .ref (ad 0)), (1, .int x1)]) 3 dX11_movedOf_37 rfl rfl (Nat.le_of_ble_eq_true rfl) rfl ?_
  refine J_goto (tgt := 4) dX11_movedOf_40 rfl ?_
  exact J_sub (lv' := [(0, .ref (ad 0)), (1, .int x1), (2, .int (s1 ||| s0)), (3, .int (x3 + 1))]) [2, 3, 1, 0] rfl (hR (s1 ||| s0) (x3 + 1) h)
set_option maxRecDepth 20000 in
set_option maxHeartbeats 4000000 in
theorem t_M_movedOf_l4 {u : Mem}  {X : Int32 → Prop} {x1 : Int32} {Q : Int32 → Prop} (hX : ∀ (x2 : Int32), X x2 → a_M_movedOf l D ad cI cZ cS rs A0 (jRi u Q) 43 [(2, .int x2)] [] u) : ∀ (n : Nat) (x2 : Int32) (x3 : Int32), w_M_movedOf_l4 X x1 u Q n x2 x3 → a_M_movedOf l D ad cI cZ cS rs A0 (jRi u Q) 4 [(0, .ref (ad 0)), (1, .int x1), (2, .int x2), (3, .int x3)] [] u := by
  intro n
  induction n with
  | zero =>
    intro x2 x3 h
    exact (by simp only [w_M_movedOf_l4] at h : False).elim
  | succ n ih =>
    intro x2 x3 h
    rw [w_M_movedOf_l4] at h
    refine J_iload_n 3 dX11_movedOf_4 rfl rfl ?_
    refine J_bipush (v := 8) dX11_movedOf_5 cb_8 ?_
    refine J_icmp_ge (tgt := 43) dX11_movedOf_7 rfl (fun c => ?_) (fun c => ?_)
    · have h := h.1 c
      exact J_sub (lv' := [(2, .int x2)]) [2] rfl (hX x2 h)
    · have h := h.2 c
      refine J_iload_n 2 dX11_movedOf_10 rfl rfl ?_
      refine J_aload_n 0 dX11_movedOf_11 rfl rfl ?_
      refine gM_0_12 dX11_movedOf_12 ?_
      refine J_aload_n 0 dX11_movedOf_15 rfl rfl ?_
      refine gM_0_14 (v := (u.1 4)) rfl dX11_movedOf_16 ?_
      refine J_iconst (v := 1) dX11_movedOf_19 ci_1 ?_
      refine J_iload_n 3 dX11_movedOf_20 rfl rfl ?_
      refine J_ishl dX11_movedOf_21 ?_
      refine J_ixor dX11_movedOf_22 ?_
      refine lM_8 (v := (u.2 8 ((u.1 4) ^^^ ((1 : Int32) <<< (x3 &&& 31))).toNatClampNeg)) h.1 rfl dX11_movedOf_23 ?_
      have h := h.2
      refine J_iload_n 1 dX11_movedOf_24 rfl rfl ?_
      refine J_icmp_ne (tgt := 34) dX11_movedOf_25 rfl (fun c => ?_) (fun c => ?_)
      · have h := h.1 c
        refine J_iconst (v := 0) dX11_movedOf_34 ci_0 ?_
        exact J_sub (lv' := [(0, .ref (ad 0)), (1, .int x1), (3, .int x3)]) [0, 1, 3] rfl (t_M_movedOf_b35 ih hX h)
      · have h := h.2 c
        refine J_iconst (v := 1) dX11_movedOf_28 ci_1 ?_
        refine J_iload_n 3 dX11_movedOf_29 rfl rfl ?_
        refine J_ishl dX11_movedOf_30 ?_
        refine J_goto (tgt := 35) dX11_movedOf_31 rfl ?_
        exact J_sub (lv' := [(0, .ref (ad 0)), (1, .int x1), (3, .int x3)]) [0, 1, 3] rfl (t_M_movedOf_b35 ih hX h)
set_option maxRecDepth 20000 in
set_option maxHeartbeats 4000000 in
theorem c_M_movedOf {u : Mem} {x1 : Int32} {Q : Int32 → Prop} (h : w_M_movedOf x1 u Q) : MM l D ad cI cZ cS rs A0 yX11_movedOf cX11_movedOf 4 (some .int) 0 [.ref (ad 0), .int x1] u (jRi u Q) := by
  unfold w_M_movedOf at h
  refine JMet.of (by decide) (Nat.le_of_ble_eq_true rfl) ?_
  refine J_sub (lv' := [(0, .ref (ad 0)), (1, .int x1)]) [0, 1] rfl ?_
  show a_M_movedOf l D ad cI cZ cS rs A0 (jRi u Q) 0 [(0, .ref (ad 0)), (1, .int x1)] [] u
  refine J_iconst (v := 0) dX11_movedOf_0 ci_0 ?_
  refine J_istore_n (lv' := [(2, .int 0), (0, .ref (ad 0)), (1, .int x1)]) dX11_movedOf_1 rfl (Nat.le_of_ble_eq_true rfl) rfl ?_
  refine J_iconst (v := 0) dX11_movedOf_2 ci_0 ?_
  refine J_istore_n (lv' := [(3, .int 0), (2, .int 0), (0, .ref (ad 0)), (1, .int x1)]) dX11_movedOf_3 rfl (Nat.le_of_ble_eq_true rfl) rfl ?_
  obtain ⟨n2, h⟩ := h
  refine J_sub (lv' := [(0, .ref (ad 0)), (1, .int x1), (2, .int 0), (3, .int 0)]) [2, 3, 1, 0] rfl (t_M_movedOf_l4 ?_ n2 0 0 h)
  · intro z1 h
    refine J_iload_n 0 dX11_movedOf_43 rfl rfl ?_
    exact J_iret rfl dX11_movedOf_44 ⟨rfl, _, rfl, h⟩
abbrev a_M_moved (l : Launch) (D : va_G) (ad : Nat → Nat) (cI cZ cS : ClassId) (rs : va_W) (A0 : Nat → Prop) := AM l D ad cI cZ cS rs A0 cX11_moved 2 (some .int) RX11 5
set_option maxRecDepth 20000 in
set_option maxHeartbeats 4000000 in
theorem c_M_moved {u : Mem} {x1 : Int32} {Q : Int32 → Mem → Prop} (h : w_M_moved x1 u Q) : MM l D ad cI cZ cS rs A0 yX11_moved cX11_moved 2 (some .int) 5 [.ref (ad 0), .int x1] u (jWi Q) := by
  unfold w_M_moved at h
  refine JMet.of (by decide) (Nat.le_of_ble_eq_true rfl) ?_
  refine J_sub (lv' := [(0, .ref (ad 0)), (1, .int x1)]) [0, 1] rfl ?_
  show a_M_moved l D ad cI cZ cS rs A0 (jWi Q) 0 [(0, .ref (ad 0)), (1, .int x1)] [] u
  refine J_aload_n 0 dX11_moved_0 rfl rfl ?_
  refine JV_Wv kV_RX11_153 0 rM_0 rfl rfl (c_M_reads h) rfl rfl (by decide) (Nat.le_of_ble_eq_true rfl) dX11_moved_1 (fun u2 h => ?_)
  refine J_iload_n 1 dX11_moved_4 rfl rfl ?_
  refine JS_Ri kS_RX11_147 (c_M_isSet h) rfl rfl (by decide) (Nat.le_of_ble_eq_true rfl) dX11_moved_5 (fun r3 h => ?_)
  refine J_if_eq (tgt := 19) dX11_moved_8 rfl (fun c => ?_) (fun c => ?_)
  · have h := h.1 c
    refine J_bipush (v := (-2)) dX11_moved_19 cb_m2 ?_
    exact J_iret rfl dX11_moved_21 ⟨_, rfl, h⟩
  · have h := h.2 c
    refine J_aload_n 0 dX11_moved_11 rfl rfl ?_
    refine J_iload_n 1 dX11_moved_12 rfl rfl ?_
    refine JV_Ri kV_RX11_231 0 rM_0 rfl rfl (c_M_movedOf h) rfl rfl (by decide) (Nat.le_of_ble_eq_true rfl) dX11_moved_13 (fun r5 h => ?_)
    refine J_goto (tgt := 21) dX11_moved_16 rfl ?_
    exact J_iret rfl dX11_moved_21 ⟨_, rfl, h⟩
abbrev a_M_catBy (l : Launch) (D : va_G) (ad : Nat → Nat) (cI cZ cS : ClassId) (rs : va_W) (A0 : Nat → Prop) := AM l D ad cI cZ cS rs A0 cX11_catBy 5 (some .int) RX11 1
set_option maxRecDepth 20000 in
set_option maxHeartbeats 4000000 in
theorem t_M_catBy_b65 {u : Mem} {R : Int32 → Int32 → Prop} {X : Int32 → Prop} {x1 : Int32} {x2 : Int32} {x4 : Int32} {s0 : Int32} {s1 : Int32} {Q : Int32 → Prop} (hR : ∀ (z3 : Int32) (z4 : Int32), R z3 z4 → a_M_catBy l D ad cI cZ cS rs A0 (jRi u Q) 31 [(0, .ref (ad 0)), (1, .int x1), (2, .int x2), (3, .int z3), (4, .int z4)] [] u) (hX : ∀ (z3 : Int32), X z3 → a_M_catBy l D ad cI cZ cS rs A0 (jRi u Q) 73 [(3, .int z3)] [] u) (h : w_M_catBy_b65 R X x1 x2 x4 s0 s1 u Q) : a_M_catBy l D ad cI cZ cS rs A0 (jRi u Q) 65 [(0, .ref (ad 0)), (1, .int x1), (2, .int x2), (4, .int x4)] [.int s0, .int s1] u := by
  unfold w_M_catBy_b65 at h
  refine J_iadd dX11_catBy_65 ?_
  refine J_istore_n (lv' := [(3, .int (s1 + s0)), (0, .ref (ad 0)), (1, .int x1), (2, .int x2), (4, .int x4)]) dX11_catBy_66 rfl (Nat.le_of_ble_eq_true rfl) rfl ?_
  refine J_iinc (v := (x4 + 1)) (lv' := [(4, .int (x4 + 1)), (3, .int (s1 + s0)), (0, .ref (ad 0)), (1, .int x1), (2, .int x2)]) 4 dX11_catBy_67 rfl rfl (Nat.le_of_ble_eq_true rfl) rfl ?_
  refine J_goto (tgt := 31) dX11_catBy_70 rfl ?_
  exact J_sub (lv' := [(0, .ref (ad 0)), (1, .int x1), (2, .int x2), (3, .int (s1 + s0)), (4, .int (x4 + 1))]) [2, 3, 4, 1, 0] rfl (hR (s1 + s0) (x4 + 1) h)
set_option maxRecDepth 20000 in
set_option maxHeartbeats 4000000 in
theorem t_M_catBy_l31 {u : Mem}  {X : Int32 → Prop} {x1 : Int32} {x2 : Int32} {Q : Int32 → Prop} (hX : ∀ (x3 : Int32), X x3 → a_M_catBy l D ad cI cZ cS rs A0 (jRi u Q) 73 [(3, .int x3)] [] u) : ∀ (n : Nat) (x3 : Int32) (x4 : Int32), w_M_catBy_l31 X x1 x2 u Q n x3 x4 → a_M_catBy l D ad cI cZ cS rs A0 (jRi u Q) 31 [(0, .ref (ad 0)), (1, .int x1), (2, .int x2), (3, .int x3), (4, .int x4)] [] u := by
  intro n
  induction n with
  | zero =>
    intro x3 x4 h
    exact (by simp only [w_M_catBy_l31] at h : False).elim
  | succ n ih =>
    intro x3 x4 h
    rw [w_M_catBy_l31] at h
    refine J_iload 4 dX11_catBy_31 rfl ?_
    refine J_bipush (v := 8) dX11_catBy_33 cb_8 ?_
    refine J_icmp_ge (tgt := 73) dX11_catBy_35 rfl (fun c => ?_) (fun c => ?_)
    · have h := h.1 c
      exact J_sub (lv' := [(3, .int x3)]) [3] rfl (hX x3 h)
    · have h := h.2 c
      refine J_iload_n 3 dX11_catBy_38 rfl rfl ?_
      refine J_aload_n 0 dX11_catBy_39 rfl rfl ?_
      refine gM_0_12 dX11_catBy_40 ?_
      refine J_aload_n 0 dX11_catBy_43 rfl rfl ?_
      refine gM_0_14 (v := (u.1 4)) rfl dX11_catBy_44 ?_
      refine J_iconst (v := 1) dX11_catBy_47 ci_1 ?_
      refine J_iload 4 dX11_catBy_48 rfl ?_
      refine J_ishl dX11_catBy_50 ?_
      refine J_ixor dX11_catBy_51 ?_
      refine lM_8 (v := (u.2 8 ((u.1 4) ^^^ ((1 : Int32) <<< (x4 &&& 31))).toNatClampNeg)) h.1 rfl dX11_catBy_52 ?_
      have h := h.2
      refine J_iload_n 2 dX11_catBy_53 rfl rfl ?_
      refine JS_Ri kS_RX11_142 (c_M_isIn h) rfl rfl (by decide) (Nat.le_of_ble_eq_true rfl) dX11_catBy_54 (fun r3 h => ?_)
      refine J_if_eq (tgt := 64) dX11_catBy_57 rfl (fun c => ?_) (fun c => ?_)
      · have h := h.1 c
        refine J_iconst (v := 0) dX11_catBy_64 ci_0 ?_
        exact J_sub (lv' := [(0, .ref (ad 0)), (1, .int x1), (2, .int x2), (4, .int x4)]) [0, 1, 2, 4] rfl (t_M_catBy_b65 ih hX h)
      · have h := h.2 c
        refine J_iload_n 1 dX11_catBy_60 rfl rfl ?_
        refine J_goto (tgt := 65) dX11_catBy_61 rfl ?_
        exact J_sub (lv' := [(0, .ref (ad 0)), (1, .int x1), (2, .int x2), (4, .int x4)]) [0, 1, 2, 4] rfl (t_M_catBy_b65 ih hX h)
set_option maxRecDepth 20000 in
set_option maxHeartbeats 4000000 in
theorem t_M_catBy_b27 {u : Mem} {x1 : Int32} {x2 : Int32} {s0 : Int32} {Q : Int32 → Prop} (h : w_M_catBy_b27 x1 x2 s0 u Q) : a_M_catBy l D ad cI cZ cS rs A0 (jRi u Q) 27 [(0, .ref (ad 0)), (1, .int x1), (2, .int x2)] [.int s0] u := by
  unfold w_M_catBy_b27 at h
  refine J_istore_n (lv' := [(3, .int s0), (0, .ref (ad 0)), (1, .int x1), (2, .int x2)]) dX11_catBy_27 rfl (Nat.le_of_ble_eq_true rfl) rfl ?_
  refine J_iconst (v := 0) dX11_catBy_28 ci_0 ?_
  refine J_istore (lv' := [(4, .int 0), (3, .int s0), (0, .ref (ad 0)), (1, .int x1), (2, .int x2)]) dX11_catBy_29 (Nat.le_of_ble_eq_true rfl) rfl ?_
  obtain ⟨n6, h⟩ := h
  refine J_sub (lv' := [(0, .ref (ad 0)), (1, .int x1), (2, .int x2), (3, .int s0), (4, .int 0)]) [2, 3, 4, 1, 0] rfl (t_M_catBy_l31 ?_ n6 s0 0 h)
  · intro z5 h
    refine J_iload_n 0 dX11_catBy_73 rfl rfl ?_
    exact J_iret rfl dX11_catBy_74 ⟨rfl, _, rfl, h⟩
set_option maxRecDepth 20000 in
set_option maxHeartbeats 4000000 in
theorem c_M_catBy {u : Mem} {x1 : Int32} {x2 : Int32} {Q : Int32 → Prop} (h : w_M_catBy x1 x2 u Q) : MM l D ad cI cZ cS rs A0 yX11_catBy cX11_catBy 5 (some .int) 1 [.ref (ad 0), .int x1, .int x2] u (jRi u Q) := by
  unfold w_M_catBy at h
  refine JMet.of (by decide) (Nat.le_of_ble_eq_true rfl) ?_
  refine J_sub (lv' := [(0, .ref (ad 0)), (1, .int x1), (2, .int x2)]) [0, 1, 2] rfl ?_
  show a_M_catBy l D ad cI cZ cS rs A0 (jRi u Q) 0 [(0, .ref (ad 0)), (1, .int x1), (2, .int x2)] [] u
  refine J_aload_n 0 dX11_catBy_0 rfl rfl ?_
  refine gM_0_12 dX11_catBy_1 ?_
  refine J_aload_n 0 dX11_catBy_4 rfl rfl ?_
  refine gM_0_14 (v := (u.1 4)) rfl dX11_catBy_5 ?_
  refine lM_8 (v := (u.2 8 (u.1 4).toNatClampNeg)) h.1 rfl dX11_catBy_8 ?_
  have h := h.2
  refine J_iload_n 2 dX11_catBy_9 rfl rfl ?_
  refine JS_Ri kS_RX11_142 (c_M_isIn h) rfl rfl (by decide) (Nat.le_of_ble_eq_true rfl) dX11_catBy_10 (fun r1 h => ?_)
  refine J_if_eq (tgt := 26) dX11_catBy_13 rfl (fun c => ?_) (fun c => ?_)
  · have h := h.1 c
    refine J_iconst (v := 0) dX11_catBy_26 ci_0 ?_
    exact (t_M_catBy_b27 h)
  · have h := h.2 c
    refine J_bipush (v := 8) dX11_catBy_16 cb_8 ?_
    refine J_bipush (v := 16) dX11_catBy_18 cb_16 ?_
    refine J_iload_n 1 dX11_catBy_20 rfl rfl ?_
    refine J_isub dX11_catBy_21 ?_
    refine J_imul dX11_catBy_22 ?_
    refine J_goto (tgt := 27) dX11_catBy_23 rfl ?_
    exact (t_M_catBy_b27 h)
abbrev a_M_cat (l : Launch) (D : va_G) (ad : Nat → Nat) (cI cZ cS : ClassId) (rs : va_W) (A0 : Nat → Prop) := AM l D ad cI cZ cS rs A0 cX11_cat 4 (some .long) RX11 5
set_option maxRecDepth 20000 in
set_option maxHeartbeats 4000000 in
theorem t_M_cat_b47 {u : Mem} {Q : Int64 → Mem → Prop} (h : w_M_cat_b47 u Q) : a_M_cat l D ad cI cZ cS rs A0 (jWl Q) 47 [] [] u := by
  unfold w_M_cat_b47 at h
  refine J_bipush (v := (-2)) dX11_cat_47 cb_m2 ?_
  refine JS_Rl kS_RX11_245 (c_M_no h) rfl rfl (by decide) (Nat.le_of_ble_eq_true rfl) dX11_cat_49 (fun r5 h => ?_)
  exact J_lret rfl dX11_cat_52 ⟨_, rfl, h⟩
set_option maxRecDepth 20000 in
set_option maxHeartbeats 4000000 in
theorem c_M_cat {u : Mem} {x1 : Int32} {x2 : Int32} {x3 : Int32} {Q : Int64 → Mem → Prop} (h : w_M_cat x1 x2 x3 u Q) : MM l D ad cI cZ cS rs A0 yX11_cat cX11_cat 4 (some .long) 5 [.ref (ad 0), .int x1, .int x2, .int x3] u (jWl Q) := by
  unfold w_M_cat at h
  refine JMet.of (by decide) (Nat.le_of_ble_eq_true rfl) ?_
  refine J_sub (lv' := [(0, .ref (ad 0)), (1, .int x1), (2, .int x2), (3, .int x3)]) [0, 1, 2, 3] rfl ?_
  show a_M_cat l D ad cI cZ cS rs A0 (jWl Q) 0 [(0, .ref (ad 0)), (1, .int x1), (2, .int x2), (3, .int x3)] [] u
  refine J_aload_n 0 dX11_cat_0 rfl rfl ?_
  refine JV_Wv kV_RX11_153 0 rM_0 rfl rfl (c_M_reads h) rfl rfl (by decide) (Nat.le_of_ble_eq_true rfl) dX11_cat_1 (fun u2 h => ?_)
  refine J_iload_n 1 dX11_cat_4 rfl rfl ?_
  refine J_i2l dX11_cat_5 ?_
  refine J_lconst (v := 0) dX11_cat_6 rfl ?_
  refine J_ldc2 (v := 16) dX11_cat_7 kk_RX11_234 ?_
  refine JS_Ri kS_RX11_61 (c_M_in h) rfl rfl (by decide) (Nat.le_of_ble_eq_true rfl) dX11_cat_10 (fun r3 h => ?_)
  refine J_if_eq (tgt := 47) dX11_cat_13 rfl (fun c => ?_) (fun c => ?_)
  · have h := h.1 c
    exact J_sub (lv' := []) [] rfl (t_M_cat_b47 h)
  · have h := h.2 c
    refine J_iload_n 2 dX11_cat_16 rfl rfl ?_
    refine JS_Ri kS_RX11_158 (c_M_isThing h) rfl rfl (by decide) (Nat.le_of_ble_eq_true rfl) dX11_cat_17 (fun r7 h => ?_)
    refine J_if_eq (tgt := 47) dX11_cat_20 rfl (fun c => ?_) (fun c => ?_)
    · have h := h.1 c
      exact J_sub (lv' := []) [] rfl (t_M_cat_b47 h)
    · have h := h.2 c
      refine J_iload_n 3 dX11_cat_23 rfl rfl ?_
      refine JS_Ri kS_RX11_90 (c_M_isTwo h) rfl rfl (by decide) (Nat.le_of_ble_eq_true rfl) dX11_cat_24 (fun r9 h => ?_)
      refine J_if_eq (tgt := 47) dX11_cat_27 rfl (fun c => ?_) (fun c => ?_)
      · have h := h.1 c
        exact J_sub (lv' := []) [] rfl (t_M_cat_b47 h)
      · have h := h.2 c
        refine J_aload_n 0 dX11_cat_30 rfl rfl ?_
        refine J_iload_n 1 dX11_cat_31 rfl rfl ?_
        refine J_iload_n 2 dX11_cat_32 rfl rfl ?_
        refine JV_Ri kV_RX11_236 0 rM_0 rfl rfl (c_M_catBy h) rfl rfl (by decide) (Nat.le_of_ble_eq_true rfl) dX11_cat_33 (fun r11 h => ?_)
        refine J_i2l dX11_cat_36 ?_
        refine J_ldc2 (v := 128) dX11_cat_37 kk_RX11_239 ?_
        refine J_iload_n 3 dX11_cat_40 rfl rfl ?_
        refine JS_Rl kS_RX11_241 (c_M_part h) rfl rfl (by decide) (Nat.le_of_ble_eq_true rfl) dX11_cat_41 (fun r13 h => ?_)
        refine J_goto (tgt := 52) dX11_cat_44 rfl ?_
        exact J_lret rfl dX11_cat_52 ⟨_, rfl, h⟩
abbrev a_M_letOf (l : Launch) (D : va_G) (ad : Nat → Nat) (cI cZ cS : ClassId) (rs : va_W) (A0 : Nat → Prop) := AM l D ad cI cZ cS rs A0 cX11_letOf 3 (some .int) RX11 2
set_option maxRecDepth 20000 in
set_option maxHeartbeats 4000000 in
theorem t_M_letOf_b29 {u : Mem} {s0 : Int32} {s1 : Int32} {Q : Int32 → Prop} (h : w_M_letOf_b29 s0 s1 u Q) : a_M_letOf l D ad cI cZ cS rs A0 (jRi u Q) 29 [] [.int s0, .int s1] u := by
  unfold w_M_letOf_b29 at h
  refine J_icmp_ge (tgt := 36) dX11_letOf_29 rfl (fun c => ?_) (fun c => ?_)
  · have h := h.1 c
    refine J_iconst (v := 0) dX11_letOf_36 ci_0 ?_
    exact J_iret rfl dX11_letOf_37 ⟨rfl, _, rfl, h⟩
  · have h := h.2 c
    refine J_iconst (v := 1) dX11_letOf_32 ci_1 ?_
    refine J_goto (tgt := 37) dX11_letOf_33 rfl ?_
    exact J_iret rfl dX11_letOf_37 ⟨rfl, _, rfl, h⟩
set_option maxRecDepth 20000 in
set_option maxHeartbeats 4000000 in
theorem c_M_letOf {u : Mem} {x1 : Int32} {x2 : Int32} {Q : Int32 → Prop} (h : w_M_letOf x1 x2 u Q) : MM l D ad cI cZ cS rs A0 yX11_letOf cX11_letOf 3 (some .int) 2 [.ref (ad 0), .int x1, .int x2] u (jRi u Q) := by
  unfold w_M_letOf at h
  refine JMet.of (by decide) (Nat.le_of_ble_eq_true rfl) ?_
  refine J_sub (lv' := [(0, .ref (ad 0)), (1, .int x1), (2, .int x2)]) [0, 1, 2] rfl ?_
  show a_M_letOf l D ad cI cZ cS rs A0 (jRi u Q) 0 [(0, .ref (ad 0)), (1, .int x1), (2, .int x2)] [] u
  refine J_aload_n 0 dX11_letOf_0 rfl rfl ?_
  refine J_iload_n 1 dX11_letOf_1 rfl rfl ?_
  refine J_iload_n 2 dX11_letOf_2 rfl rfl ?_
  refine JV_Ri kV_RX11_236 0 rM_0 rfl rfl (c_M_catBy h) rfl rfl (by decide) (Nat.le_of_ble_eq_true rfl) dX11_letOf_3 (fun r1 h => ?_)
  refine J_aload_n 0 dX11_letOf_6 rfl rfl ?_
  refine gM_0_12 dX11_letOf_7 ?_
  refine J_aload_n 0 dX11_letOf_10 rfl rfl ?_
  refine gM_0_14 (v := (u.1 4)) rfl dX11_letOf_11 ?_
  refine lM_8 (v := (u.2 8 (u.1 4).toNatClampNeg)) h.1 rfl dX11_letOf_14 ?_
  have h := h.2
  refine J_iload_n 2 dX11_letOf_15 rfl rfl ?_
  refine JS_Ri kS_RX11_142 (c_M_isIn h) rfl rfl (by decide) (Nat.le_of_ble_eq_true rfl) dX11_letOf_16 (fun r3 h => ?_)
  refine J_if_eq (tgt := 28) dX11_letOf_19 rfl (fun c => ?_) (fun c => ?_)
  · have h := h.1 c
    refine J_iconst (v := 0) dX11_letOf_28 ci_0 ?_
    exact J_sub (lv' := []) [] rfl (t_M_letOf_b29 h)
  · have h := h.2 c
    refine J_sipush (v := 128) dX11_letOf_22 cs_128 ?_
    refine J_goto (tgt := 29) dX11_letOf_25 rfl ?_
    exact J_sub (lv' := []) [] rfl (t_M_letOf_b29 h)
abbrev a_M_let (l : Launch) (D : va_G) (ad : Nat → Nat) (cI cZ cS : ClassId) (rs : va_W) (A0 : Nat → Prop) := AM l D ad cI cZ cS rs A0 cX11_let 3 (some .int) RX11 5
set_option maxRecDepth 20000 in
set_option maxHeartbeats 4000000 in
theorem c_M_let {u : Mem} {x1 : Int32} {x2 : Int32} {Q : Int32 → Mem → Prop} (h : w_M_let x1 x2 u Q) : MM l D ad cI cZ cS rs A0 yX11_let cX11_let 3 (some .int) 5 [.ref (ad 0), .int x1, .int x2] u (jWi Q) := by
  unfold w_M_let at h
  refine JMet.of (by decide) (Nat.le_of_ble_eq_true rfl) ?_
  refine J_sub (lv' := [(0, .ref (ad 0)), (1, .int x1), (2, .int x2)]) [0, 1, 2] rfl ?_
  show a_M_let l D ad cI cZ cS rs A0 (jWi Q) 0 [(0, .ref (ad 0)), (1, .int x1), (2, .int x2)] [] u
  refine J_aload_n 0 dX11_let_0 rfl rfl ?_
  refine JV_Wv kV_RX11_153 0 rM_0 rfl rfl (c_M_reads h) rfl rfl (by decide) (Nat.le_of_ble_eq_true rfl) dX11_let_1 (fun u2 h => ?_)
  refine J_iload_n 1 dX11_let_4 rfl rfl ?_
  refine J_i2l dX11_let_5 ?_
  refine J_lconst (v := 0) dX11_let_6 rfl ?_
  refine J_ldc2 (v := 16) dX11_let_7 kk_RX11_234 ?_
  refine JS_Ri kS_RX11_61 (c_M_in h) rfl rfl (by decide) (Nat.le_of_ble_eq_true rfl) dX11_let_10 (fun r3 h => ?_)
  refine J_if_eq (tgt := 32) dX11_let_13 rfl (fun c => ?_) (fun c => ?_)
  · have h := h.1 c
    refine J_bipush (v := (-2)) dX11_let_32 cb_m2 ?_
    exact J_iret rfl dX11_let_34 ⟨_, rfl, h⟩
  · have h := h.2 c
    refine J_iload_n 2 dX11_let_16 rfl rfl ?_
    refine JS_Ri kS_RX11_158 (c_M_isThing h) rfl rfl (by decide) (Nat.le_of_ble_eq_true rfl) dX11_let_17 (fun r5 h => ?_)
    refine J_if_eq (tgt := 32) dX11_let_20 rfl (fun c => ?_) (fun c => ?_)
    · have h := h.1 c
      refine J_bipush (v := (-2)) dX11_let_32 cb_m2 ?_
      exact J_iret rfl dX11_let_34 ⟨_, rfl, h⟩
    · have h := h.2 c
      refine J_aload_n 0 dX11_let_23 rfl rfl ?_
      refine J_iload_n 1 dX11_let_24 rfl rfl ?_
      refine J_iload_n 2 dX11_let_25 rfl rfl ?_
      refine JV_Ri kV_RX11_249 0 rM_0 rfl rfl (c_M_letOf h) rfl rfl (by decide) (Nat.le_of_ble_eq_true rfl) dX11_let_26 (fun r7 h => ?_)
      refine J_goto (tgt := 34) dX11_let_29 rfl ?_
      exact J_iret rfl dX11_let_34 ⟨_, rfl, h⟩
abbrev a_M_lotOf (l : Launch) (D : va_G) (ad : Nat → Nat) (cI cZ cS : ClassId) (rs : va_W) (A0 : Nat → Prop) := AM l D ad cI cZ cS rs A0 cX11_lotOf 8 (some .int) RX11 1
set_option maxRecDepth 20000 in
set_option maxHeartbeats 4000000 in
theorem t_M_lotOf_b73 {u : Mem} {R : Int32 → Int32 → Int32 → Int32 → Prop} {X : Int32 → Int32 → Prop} {x2 : Int32} {x3 : Int32} {x4 : Int32} {x5 : Int32} {x7 : Int32} {s0 : Int32} {s1 : Int32} {Q : Int32 → Prop} (hR : ∀ (z4 : Int32) (z5 : Int32) (z6 : Int32) (z7 : Int32), R z4 z5 z6 z7 → a_M_lotOf l D ad cI cZ cS rs A0 (jRi u Q) 15 [(0, .ref (ad 0)), (2, .int x2), (3, .int x3), (4, .int z4), (5, .int z5), (6, .int z6), (7, .int z7)] [] u) (hX : ∀ (z5 : Int32) (z6 : Int32), X z5 z6 → a_M_lotOf l D ad cI cZ cS rs A0 (jRi u Q) 90 [(3, .int x3), (5, .int z5), (6, .int z6)] [] u) (h : w_M_lotOf_b73 R X x2 x3 x4 x5 x7 s0 s1 u Q) : a_M_lotOf l D ad cI cZ cS rs A0 (jRi u Q) 73 [(0, .ref (ad 0)), (2, .int x2), (3, .int x3), (4, .int x4), (5, .int x5), (7, .int x7)] [.int s0, .int s1] u := by
  unfold w_M_lotOf_b73 at h
  refine J_iadd dX11_lotOf_73 ?_
  refine J_istore (lv' := [(6, .int (s1 + s0)), (0, .ref (ad 0)), (2, .int x2), (3, .int x3), (4, .int x4), (5, .int x5), (7, .int x7)]) dX11_lotOf_74 (Nat.le_of_ble_eq_true rfl) rfl ?_
  refine J_aload_n 1 dX11_lotOf_76 rfl rfl ?_
  refine J_iload 5 dX11_lotOf_77 rfl ?_
  refine JV_Ri kV_RX11_176 0 rM_0 rfl rfl (c_M_next h) rfl rfl (by decide) (Nat.le_of_ble_eq_true rfl) dX11_lotOf_79 (fun r2 h => ?_)
  refine J_istore (lv' := [(5, .int r2), (6, .int (s1 + s0)), (0, .ref (ad 0)), (2, .int x2), (3, .int x3), (4, .int x4), (7, .int x7)]) dX11_lotOf_82 (Nat.le_of_ble_eq_true rfl) rfl ?_
  refine J_iinc (v := (x7 + 1)) (lv' := [(7, .int (x7 + 1)), (5, .int r2), (6, .int (s1 + s0)), (0, .ref (ad 0)), (2, .int x2), (3, .int x3), (4, .int x4)]) 6 dX11_lotOf_84 rfl rfl (Nat.le_of_ble_eq_true rfl) rfl ?_
  refine J_goto (tgt := 15) dX11_lotOf_87 rfl ?_
  exact J_sub (lv' := [(0, .ref (ad 0)), (2, .int x2), (3, .int x3), (4, .int x4), (5, .int r2), (6, .int (s1 + s0)), (7, .int (x7 + 1))]) [3, 4, 5, 6, 1, 2, 0] rfl (hR x4 r2 (s1 + s0) (x7 + 1) h)
set_option maxRecDepth 20000 in
set_option maxHeartbeats 4000000 in
theorem t_M_lotOf_b72 {u : Mem} {R : Int32 → Int32 → Int32 → Int32 → Prop} {X : Int32 → Int32 → Prop} {x2 : Int32} {x3 : Int32} {x4 : Int32} {x5 : Int32} {x7 : Int32} {s0 : Int32} {Q : Int32 → Prop} (hR : ∀ (z4 : Int32) (z5 : Int32) (z6 : Int32) (z7 : Int32), R z4 z5 z6 z7 → a_M_lotOf l D ad cI cZ cS rs A0 (jRi u Q) 15 [(0, .ref (ad 0)), (2, .int x2), (3, .int x3), (4, .int z4), (5, .int z5), (6, .int z6), (7, .int z7)] [] u) (hX : ∀ (z5 : Int32) (z6 : Int32), X z5 z6 → a_M_lotOf l D ad cI cZ cS rs A0 (jRi u Q) 90 [(3, .int x3), (5, .int z5), (6, .int z6)] [] u) (h : w_M_lotOf_b72 R X x2 x3 x4 x5 x7 s0 u Q) : a_M_lotOf l D ad cI cZ cS rs A0 (jRi u Q) 72 [(0, .ref (ad 0)), (2, .int x2), (3, .int x3), (4, .int x4), (5, .int x5), (7, .int x7)] [.int s0] u := by
  unfold w_M_lotOf_b72 at h
  refine J_iconst (v := 0) dX11_lotOf_72 ci_0 ?_
  exact (t_M_lotOf_b73 hR hX h)
set_option maxRecDepth 20000 in
set_option maxHeartbeats 4000000 in
theorem t_M_lotOf_l15 {u : Mem}  {X : Int32 → Int32 → Prop} {x2 : Int32} {x3 : Int32} {Q : Int32 → Prop} (hX : ∀ (x5 : Int32) (x6 : Int32), X x5 x6 → a_M_lotOf l D ad cI cZ cS rs A0 (jRi u Q) 90 [(3, .int x3), (5, .int x5), (6, .int x6)] [] u) : ∀ (n : Nat) (x4 : Int32) (x5 : Int32) (x6 : Int32) (x7 : Int32), w_M_lotOf_l15 X x2 x3 u Q n x4 x5 x6 x7 → a_M_lotOf l D ad cI cZ cS rs A0 (jRi u Q) 15 [(0, .ref (ad 0)), (2, .int x2), (3, .int x3), (4, .int x4), (5, .int x5), (6, .int x6), (7, .int x7)] [] u := by
  intro n
  induction n with
  | zero =>
    intro x4 x5 x6 x7 h
    exact (by simp only [w_M_lotOf_l15] at h : False).elim
  | succ n ih =>
    intro x4 x5 x6 x7 h
    rw [w_M_lotOf_l15] at h
    refine J_iload 6 dX11_lotOf_15 rfl ?_
    refine J_iload_n 1 dX11_lotOf_17 rfl rfl ?_
    refine J_icmp_ge (tgt := 90) dX11_lotOf_18 rfl (fun c => ?_) (fun c => ?_)
    · have h := h.1 c
      exact J_sub (lv' := [(3, .int x3), (5, .int x5), (6, .int x6)]) [2, 4, 5] rfl (hX x5 x6 h)
    · have h := h.2 c
      refine J_ldc (v := 1103515245) dX11_lotOf_21 kk_RX11_252 ?_
      refine J_iload 3 dX11_lotOf_23 rfl ?_
      refine J_imul dX11_lotOf_25 ?_
      refine J_sipush (v := 12345) dX11_lotOf_26 cs_12345 ?_
      refine J_iadd dX11_lotOf_29 ?_
      refine J_istore (lv' := [(4, .int ((1103515245 * x4) + 12345)), (0, .ref (ad 0)), (2, .int x2), (3, .int x3), (5, .int x5), (6, .int x6), (7, .int x7)]) dX11_lotOf_30 (Nat.le_of_ble_eq_true rfl) rfl ?_
      refine J_iload 4 dX11_lotOf_32 rfl ?_
      refine J_iconst (v := 1) dX11_lotOf_34 ci_1 ?_
      refine J_iload 0 dX11_lotOf_35 rfl ?_
      refine J_bipush (v := 16) dX11_lotOf_37 cb_16 ?_
      refine J_iushr dX11_lotOf_39 ?_
      refine J_topi (fun y1 ey1 => ?_)
      have h := h y1 ey1
      refine J_bipush (v := 8) dX11_lotOf_40 cb_8 ?_
      refine J_irem dX11_lotOf_42 (by decide) ?_
      refine J_ishl dX11_lotOf_43 ?_
      refine J_ixor dX11_lotOf_44 ?_
      refine J_istore (lv' := [(5, .int (x5 ^^^ ((1 : Int32) <<< ((y1 - y1 / 8 * 8) &&& 31)))), (4, .int ((1103515245 * x4) + 12345)), (0, .ref (ad 0)), (2, .int x2), (3, .int x3), (6, .int x6), (7, .int x7)]) dX11_lotOf_45 (Nat.le_of_ble_eq_true rfl) rfl ?_
      refine J_iload 5 dX11_lotOf_47 rfl ?_
      refine J_iload_n 4 dX11_lotOf_49 rfl rfl ?_
      refine J_iconst (v := (-1)) dX11_lotOf_50 ci_m1 ?_
      refine J_icmp_eq (tgt := 72) dX11_lotOf_51 rfl (fun c => ?_) (fun c => ?_)
      · have h := h.1 c
        exact J_sub (lv' := [(0, .ref (ad 0)), (2, .int x2), (3, .int x3), (4, .int ((1103515245 * x4) + 12345)), (5, .int (x5 ^^^ ((1 : Int32) <<< ((y1 - y1 / 8 * 8) &&& 31)))), (7, .int x7)]) [2, 3, 4, 1, 0, 6] rfl (t_M_lotOf_b72 ih hX h)
      · have h := h.2 c
        refine J_aload_n 2 dX11_lotOf_54 rfl rfl ?_
        refine gM_0_12 dX11_lotOf_55 ?_
        refine J_iload 0 dX11_lotOf_58 rfl ?_
        refine lM_8 (v := (u.2 8 (x5 ^^^ ((1 : Int32) <<< ((y1 - y1 / 8 * 8) &&& 31))).toNatClampNeg)) h.1 rfl dX11_lotOf_60 ?_
        have h := h.2
        refine J_topi (fun y4 ey4 => ?_)
        have h := h y4 ey4
        refine J_iload_n 4 dX11_lotOf_61 rfl rfl ?_
        refine JS_Ri kS_RX11_142 (c_M_isIn h) rfl rfl (by decide) (Nat.le_of_ble_eq_true rfl) dX11_lotOf_62 (fun r5 h => ?_)
        refine J_if_eq (tgt := 72) dX11_lotOf_65 rfl (fun c => ?_) (fun c => ?_)
        · have h := h.1 c
          exact J_sub (lv' := [(0, .ref (ad 0)), (2, .int x2), (3, .int x3), (4, .int ((1103515245 * x4) + 12345)), (5, .int (x5 ^^^ ((1 : Int32) <<< ((y1 - y1 / 8 * 8) &&& 31)))), (7, .int x7)]) [2, 3, 4, 1, 0, 6] rfl (t_M_lotOf_b72 ih hX h)
        · have h := h.2 c
          refine J_iconst (v := 1) dX11_lotOf_68 ci_1 ?_
          refine J_goto (tgt := 73) dX11_lotOf_69 rfl ?_
          exact J_sub (lv' := [(0, .ref (ad 0)), (2, .int x2), (3, .int x3), (4, .int ((1103515245 * x4) + 12345)), (5, .int (x5 ^^^ ((1 : Int32) <<< ((y1 - y1 / 8 * 8) &&& 31)))), (7, .int x7)]) [2, 3, 4, 1, 0, 6] rfl (t_M_lotOf_b73 ih hX h)
set_option maxRecDepth 20000 in
set_option maxHeartbeats 4000000 in
theorem c_M_lotOf {u : Mem} {x1 : Int32} {x2 : Int32} {x3 : Int32} {Q : Int32 → Prop} (h : w_M_lotOf x1 x2 x3 u Q) : MM l D ad cI cZ cS rs A0 yX11_lotOf cX11_lotOf 8 (some .int) 1 [.ref (ad 0), .int x1, .int x2, .int x3] u (jRi u Q) := by
  unfold w_M_lotOf at h
  refine JMet.of (by decide) (Nat.le_of_ble_eq_true rfl) ?_
  refine J_sub (lv' := [(0, .ref (ad 0)), (1, .int x1), (2, .int x2), (3, .int x3)]) [0, 1, 2, 3] rfl ?_
  show a_M_lotOf l D ad cI cZ cS rs A0 (jRi u Q) 0 [(0, .ref (ad 0)), (1, .int x1), (2, .int x2), (3, .int x3)] [] u
  refine J_iload_n 1 dX11_lotOf_0 rfl rfl ?_
  refine J_istore (lv' := [(4, .int x1), (0, .ref (ad 0)), (1, .int x1), (2, .int x2), (3, .int x3)]) dX11_lotOf_1 (Nat.le_of_ble_eq_true rfl) rfl ?_
  refine J_aload_n 1 dX11_lotOf_3 rfl rfl ?_
  refine gM_0_14 (v := (u.1 4)) rfl dX11_lotOf_4 ?_
  refine J_istore (lv' := [(5, .int (u.1 4)), (4, .int x1), (0, .ref (ad 0)), (1, .int x1), (2, .int x2), (3, .int x3)]) dX11_lotOf_7 (Nat.le_of_ble_eq_true rfl) rfl ?_
  refine J_iconst (v := 0) dX11_lotOf_9 ci_0 ?_
  refine J_istore (lv' := [(6, .int 0), (5, .int (u.1 4)), (4, .int x1), (0, .ref (ad 0)), (1, .int x1), (2, .int x2), (3, .int x3)]) dX11_lotOf_10 (Nat.le_of_ble_eq_true rfl) rfl ?_
  refine J_iconst (v := 0) dX11_lotOf_12 ci_0 ?_
  refine J_istore (lv' := [(7, .int 0), (6, .int 0), (5, .int (u.1 4)), (4, .int x1), (0, .ref (ad 0)), (1, .int x1), (2, .int x2), (3, .int x3)]) dX11_lotOf_13 (Nat.le_of_ble_eq_true rfl) rfl ?_
  obtain ⟨n9, h⟩ := h
  refine J_sub (lv' := [(0, .ref (ad 0)), (2, .int x2), (3, .int x3), (4, .int x1), (5, .int (u.1 4)), (6, .int 0), (7, .int 0)]) [4, 6, 7, 3, 2, 1, 0] rfl (t_M_lotOf_l15 ?_ n9 x1 (u.1 4) 0 0 h)
  · intro z7 z8 h
    refine J_iload_n 0 dX11_lotOf_90 rfl rfl ?_
    refine J_iconst (v := (-1)) dX11_lotOf_91 ci_m1 ?_
    refine J_icmp_ne (tgt := 100) dX11_lotOf_92 rfl (fun c => ?_) (fun c => ?_)
    · have h := h.1 c
      refine J_iload 2 dX11_lotOf_100 rfl ?_
      exact J_iret rfl dX11_lotOf_102 ⟨rfl, _, rfl, h⟩
    · have h := h.2 c
      refine J_iload 1 dX11_lotOf_95 rfl ?_
      refine J_goto (tgt := 102) dX11_lotOf_97 rfl ?_
      exact J_iret rfl dX11_lotOf_102 ⟨rfl, _, rfl, h⟩
abbrev a_M_lot (l : Launch) (D : va_G) (ad : Nat → Nat) (cI cZ cS : ClassId) (rs : va_W) (A0 : Nat → Prop) := AM l D ad cI cZ cS rs A0 cX11_lot 4 (some .int) RX11 5
set_option maxRecDepth 20000 in
set_option maxHeartbeats 4000000 in
theorem c_M_lot {u : Mem} {x1 : Int32} {x2 : Int32} {x3 : Int32} {Q : Int32 → Mem → Prop} (h : w_M_lot x1 x2 x3 u Q) : MM l D ad cI cZ cS rs A0 yX11_lot cX11_lot 4 (some .int) 5 [.ref (ad 0), .int x1, .int x2, .int x3] u (jWi Q) := by
  unfold w_M_lot at h
  refine JMet.of (by decide) (Nat.le_of_ble_eq_true rfl) ?_
  refine J_sub (lv' := [(0, .ref (ad 0)), (1, .int x1), (2, .int x2), (3, .int x3)]) [0, 1, 2, 3] rfl ?_
  show a_M_lot l D ad cI cZ cS rs A0 (jWi Q) 0 [(0, .ref (ad 0)), (1, .int x1), (2, .int x2), (3, .int x3)] [] u
  refine J_aload_n 0 dX11_lot_0 rfl rfl ?_
  refine JV_Wv kV_RX11_153 0 rM_0 rfl rfl (c_M_reads h) rfl rfl (by decide) (Nat.le_of_ble_eq_true rfl) dX11_lot_1 (fun u2 h => ?_)
  refine J_iload_n 2 dX11_lot_4 rfl rfl ?_
  refine J_i2l dX11_lot_5 ?_
  refine J_lconst (v := 0) dX11_lot_6 rfl ?_
  refine J_ldc2 (v := 99) dX11_lot_7 kk_RX11_253 ?_
  refine JS_Ri kS_RX11_61 (c_M_in h) rfl rfl (by decide) (Nat.le_of_ble_eq_true rfl) dX11_lot_10 (fun r3 h => ?_)
  refine J_if_eq (tgt := 40) dX11_lot_13 rfl (fun c => ?_) (fun c => ?_)
  · have h := h.1 c
    refine J_bipush (v := (-2)) dX11_lot_40 cb_m2 ?_
    exact J_iret rfl dX11_lot_42 ⟨_, rfl, h⟩
  · have h := h.2 c
    refine J_iload_n 3 dX11_lot_16 rfl rfl ?_
    refine J_i2l dX11_lot_17 ?_
    refine J_ldc2 (v := (-1)) dX11_lot_18 kk_RX11_209 ?_
    refine J_ldc2 (v := 7) dX11_lot_21 kk_RX11_145 ?_
    refine JS_Ri kS_RX11_61 (c_M_in h) rfl rfl (by decide) (Nat.le_of_ble_eq_true rfl) dX11_lot_24 (fun r5 h => ?_)
    refine J_if_eq (tgt := 40) dX11_lot_27 rfl (fun c => ?_) (fun c => ?_)
    · have h := h.1 c
      refine J_bipush (v := (-2)) dX11_lot_40 cb_m2 ?_
      exact J_iret rfl dX11_lot_42 ⟨_, rfl, h⟩
    · have h := h.2 c
      refine J_aload_n 0 dX11_lot_30 rfl rfl ?_
      refine J_iload_n 1 dX11_lot_31 rfl rfl ?_
      refine J_iload_n 2 dX11_lot_32 rfl rfl ?_
      refine J_iload_n 3 dX11_lot_33 rfl rfl ?_
      refine JV_Ri kV_RX11_255 0 rM_0 rfl rfl (c_M_lotOf h) rfl rfl (by decide) (Nat.le_of_ble_eq_true rfl) dX11_lot_34 (fun r7 h => ?_)
      refine J_goto (tgt := 42) dX11_lot_37 rfl ?_
      exact J_iret rfl dX11_lot_42 ⟨_, rfl, h⟩
abbrev a_M_write (l : Launch) (D : va_G) (ad : Nat → Nat) (cI cZ cS : ClassId) (rs : va_W) (A0 : Nat → Prop) := AM l D ad cI cZ cS rs A0 cX11_write 5 (some .int) RX11 6
set_option maxRecDepth 20000 in
set_option maxHeartbeats 4000000 in
theorem t_M_write_b106 {u : Mem} {R : Int32 → Mem → Prop} {X : Mem → Prop} {x1 : Int32} {x2 : Int32} {x3 : Int32} {x4 : Int32} {s0 : Int32} {s1 : Int32} {s2 : Int32} {Q : Int32 → Mem → Prop} (hR : ∀ (z4 : Int32) (u : Mem), R z4 u → a_M_write l D ad cI cZ cS rs A0 (jWi Q) 62 [(0, .ref (ad 0)), (1, .int x1), (2, .int x2), (3, .int x3), (4, .int z4)] [] u) (hX : ∀ (u : Mem), X u → a_M_write l D ad cI cZ cS rs A0 (jWi Q) 116 [(3, .int x3)] [] u) (h : w_M_write_b106 R X x1 x2 x3 x4 s0 s1 s2 u Q) : a_M_write l D ad cI cZ cS rs A0 (jWi Q) 106 [(0, .ref (ad 0)), (1, .int x1), (2, .int x2), (3, .int x3), (4, .int x4)] [.int s0, .int s1, .int s2, .ref (ad 3)] u := by
  unfold w_M_write_b106 at h
  refine JS_Ri kS_RX11_85 (c_M_cut h) rfl rfl (by decide) (Nat.le_of_ble_eq_true rfl) dX11_write_106 (fun r7 h => ?_)
  refine tM_2 h.1 dX11_write_109 ?_
  have h := h.2
  refine J_iinc (v := (x4 + 1)) (lv' := [(4, .int (x4 + 1)), (0, .ref (ad 0)), (1, .int x1), (2, .int x2), (3, .int x3)]) 4 dX11_write_110 rfl rfl (Nat.le_of_ble_eq_true rfl) rfl ?_
  refine J_goto (tgt := 62) dX11_write_113 rfl ?_
  exact J_sub (lv' := [(0, .ref (ad 0)), (1, .int x1), (2, .int x2), (3, .int x3), (4, .int (x4 + 1))]) [1, 2, 3, 4, 0] rfl (hR (x4 + 1) (sA u 2 s2.toNatClampNeg r7) h)
set_option maxRecDepth 20000 in
set_option maxHeartbeats 4000000 in
theorem t_M_write_l62  {X : Mem → Prop} {x1 : Int32} {x2 : Int32} {x3 : Int32} {Q : Int32 → Mem → Prop} (hX : ∀ (u : Mem), X u → a_M_write l D ad cI cZ cS rs A0 (jWi Q) 116 [(3, .int x3)] [] u) : ∀ (n : Nat) (x4 : Int32) (u : Mem), w_M_write_l62 X x1 x2 x3 Q n x4 u → a_M_write l D ad cI cZ cS rs A0 (jWi Q) 62 [(0, .ref (ad 0)), (1, .int x1), (2, .int x2), (3, .int x3), (4, .int x4)] [] u := by
  intro n
  induction n with
  | zero =>
    intro x4 u h
    exact (by simp only [w_M_write_l62] at h : False).elim
  | succ n ih =>
    intro x4 u h
    rw [w_M_write_l62] at h
    refine J_iload 4 dX11_write_62 rfl ?_
    refine J_iload_n 3 dX11_write_64 rfl rfl ?_
    refine J_icmp_ge (tgt := 116) dX11_write_65 rfl (fun c => ?_) (fun c => ?_)
    · have h := h.1 c
      exact J_sub (lv' := [(3, .int x3)]) [3] rfl (hX u h)
    · have h := h.2 c
      refine J_aload_n 0 dX11_write_68 rfl rfl ?_
      refine gM_0_2 dX11_write_69 ?_
      refine J_bipush (v := 60) dX11_write_72 cb_60 ?_
      refine J_iload_n 2 dX11_write_74 rfl rfl ?_
      refine J_imul dX11_write_75 ?_
      refine J_iload 4 dX11_write_76 rfl ?_
      refine J_iadd dX11_write_78 ?_
      refine J_aload_n 0 dX11_write_79 rfl rfl ?_
      refine gM_0_0 dX11_write_80 ?_
      refine J_iload_n 2 dX11_write_83 rfl rfl ?_
      refine lM_0 (v := (u.2 0 x2.toNatClampNeg)) h.1 rfl dX11_write_84 ?_
      have h := h.2
      refine J_iload_n 1 dX11_write_85 rfl rfl ?_
      refine J_if_ne (tgt := 99) dX11_write_86 rfl (fun c => ?_) (fun c => ?_)
      · have h := h.1 c
        refine J_aload_n 0 dX11_write_99 rfl rfl ?_
        refine gM_0_18 dX11_write_100 ?_
        refine J_iload 4 dX11_write_103 rfl ?_
        refine lM_12 (v := (u.2 12 x4.toNatClampNeg)) h.1 rfl dX11_write_105 ?_
        have h := h.2
        exact (t_M_write_b106 ih hX h)
      · have h := h.2 c
        refine J_aload_n 0 dX11_write_89 rfl rfl ?_
        refine gM_0_17 dX11_write_90 ?_
        refine J_iload 4 dX11_write_93 rfl ?_
        refine lM_11 (v := (u.2 11 x4.toNatClampNeg)) h.1 rfl dX11_write_95 ?_
        have h := h.2
        refine J_goto (tgt := 106) dX11_write_96 rfl ?_
        exact (t_M_write_b106 ih hX h)
set_option maxRecDepth 20000 in
set_option maxHeartbeats 4000000 in
theorem t_M_write_b58 {u : Mem} {x1 : Int32} {x2 : Int32} {s0 : Int32} {Q : Int32 → Mem → Prop} (h : w_M_write_b58 x1 x2 s0 u Q) : a_M_write l D ad cI cZ cS rs A0 (jWi Q) 58 [(0, .ref (ad 0)), (1, .int x1), (2, .int x2)] [.int s0] u := by
  unfold w_M_write_b58 at h
  refine J_istore_n (lv' := [(3, .int s0), (0, .ref (ad 0)), (1, .int x1), (2, .int x2)]) dX11_write_58 rfl (Nat.le_of_ble_eq_true rfl) rfl ?_
  refine J_iconst (v := 0) dX11_write_59 ci_0 ?_
  refine J_istore (lv' := [(4, .int 0), (3, .int s0), (0, .ref (ad 0)), (1, .int x1), (2, .int x2)]) dX11_write_60 (Nat.le_of_ble_eq_true rfl) rfl ?_
  obtain ⟨n10, h⟩ := h
  refine J_sub (lv' := [(0, .ref (ad 0)), (1, .int x1), (2, .int x2), (3, .int s0), (4, .int 0)]) [2, 3, 4, 1, 0] rfl (t_M_write_l62 ?_ n10 0 u h)
  · intro u9 h
    refine J_iload_n 0 dX11_write_116 rfl rfl ?_
    exact J_iret rfl dX11_write_117 ⟨_, rfl, h⟩
set_option maxRecDepth 20000 in
set_option maxHeartbeats 4000000 in
theorem c_M_write {u : Mem} {x1 : Int32} {x2 : Int32} {Q : Int32 → Mem → Prop} (h : w_M_write x1 x2 u Q) : MM l D ad cI cZ cS rs A0 yX11_write cX11_write 5 (some .int) 6 [.ref (ad 0), .int x1, .int x2] u (jWi Q) := by
  unfold w_M_write at h
  refine JMet.of (by decide) (Nat.le_of_ble_eq_true rfl) ?_
  refine J_sub (lv' := [(0, .ref (ad 0)), (1, .int x1), (2, .int x2)]) [0, 1, 2] rfl ?_
  show a_M_write l D ad cI cZ cS rs A0 (jWi Q) 0 [(0, .ref (ad 0)), (1, .int x1), (2, .int x2)] [] u
  refine J_iload_n 1 dX11_write_0 rfl rfl ?_
  refine JS_Ri kS_RX11_90 (c_M_isTwo h) rfl rfl (by decide) (Nat.le_of_ble_eq_true rfl) dX11_write_1 (fun r1 h => ?_)
  refine J_if_eq (tgt := 14) dX11_write_4 rfl (fun c => ?_) (fun c => ?_)
  · have h := h.1 c
    refine J_bipush (v := (-2)) dX11_write_14 cb_m2 ?_
    exact J_iret rfl dX11_write_16 ⟨_, rfl, h⟩
  · have h := h.2 c
    refine J_iload_n 2 dX11_write_7 rfl rfl ?_
    refine JS_Ri kS_RX11_71 (c_M_isSheet h) rfl rfl (by decide) (Nat.le_of_ble_eq_true rfl) dX11_write_8 (fun r3 h => ?_)
    refine J_if_ne (tgt := 17) dX11_write_11 rfl (fun c => ?_) (fun c => ?_)
    · have h := h.1 c
      refine J_aload_n 0 dX11_write_17 rfl rfl ?_
      refine gM_0_0 dX11_write_18 ?_
      refine J_iload_n 2 dX11_write_21 rfl rfl ?_
      refine lM_0 (v := (u.2 0 x2.toNatClampNeg)) h.1 rfl dX11_write_22 ?_
      have h := h.2
      refine J_if_ge (tgt := 32) dX11_write_23 rfl (fun c => ?_) (fun c => ?_)
      · have h := h.1 c
        refine J_aload_n 0 dX11_write_32 rfl rfl ?_
        refine JV_Wv kV_RX11_164 0 rM_0 rfl rfl (c_M_lives h) rfl rfl (by decide) (Nat.le_of_ble_eq_true rfl) dX11_write_33 (fun u6 h => ?_)
        refine J_aload_n 0 dX11_write_36 rfl rfl ?_
        refine gM_0_1 dX11_write_37 ?_
        refine J_iload_n 2 dX11_write_40 rfl rfl ?_
        refine lM_1 (v := (u6.2 1 x2.toNatClampNeg)) h.1 rfl dX11_write_41 ?_
        have h := h.2
        refine J_bipush (v := 30) dX11_write_42 cb_30 ?_
        refine J_icmp_ge (tgt := 56) dX11_write_44 rfl (fun c => ?_) (fun c => ?_)
        · have h := h.1 c
          refine J_bipush (v := 30) dX11_write_56 cb_30 ?_
          exact (t_M_write_b58 h)
        · have h := h.2 c
          refine J_aload_n 0 dX11_write_47 rfl rfl ?_
          refine gM_0_1 dX11_write_48 ?_
          refine J_iload_n 2 dX11_write_51 rfl rfl ?_
          refine lM_1 (v := (u6.2 1 x2.toNatClampNeg)) h.1 rfl dX11_write_52 ?_
          have h := h.2
          refine J_goto (tgt := 58) dX11_write_53 rfl ?_
          exact (t_M_write_b58 h)
      · have h := h.2 c
        refine J_aload_n 0 dX11_write_26 rfl rfl ?_
        refine J_iconst (v := 1) dX11_write_27 ci_1 ?_
        refine JV_Wi kV_RX11_77 0 rM_0 rfl rfl (c_M_met h) rfl rfl (by decide) (Nat.le_of_ble_eq_true rfl) dX11_write_28 (fun r11 u12 h => ?_)
        exact J_iret rfl dX11_write_31 ⟨_, rfl, h⟩
    · have h := h.2 c
      refine J_bipush (v := (-2)) dX11_write_14 cb_m2 ?_
      exact J_iret rfl dX11_write_16 ⟨_, rfl, h⟩
abbrev a_M_count (l : Launch) (D : va_G) (ad : Nat → Nat) (cI cZ cS : ClassId) (rs : va_W) (A0 : Nat → Prop) := AM l D ad cI cZ cS rs A0 cX11_count 4 (some .int) RX11 5
set_option maxRecDepth 20000 in
set_option maxHeartbeats 4000000 in
theorem t_M_count_l87 {u : Mem}  {X : Int32 → Prop} {Q : Int32 → Mem → Prop} (hX : ∀ (x2 : Int32), X x2 → a_M_count l D ad cI cZ cS rs A0 (jWi Q) 114 [(2, .int x2)] [] u) : ∀ (n : Nat) (x2 : Int32) (x3 : Int32), w_M_count_l87 X u Q n x2 x3 → a_M_count l D ad cI cZ cS rs A0 (jWi Q) 87 [(0, .ref (ad 0)), (2, .int x2), (3, .int x3)] [] u := by
  intro n
  induction n with
  | zero =>
    intro x2 x3 h
    exact (by simp only [w_M_count_l87] at h : False).elim
  | succ n ih =>
    intro x2 x3 h
    rw [w_M_count_l87] at h
    refine J_iload_n 2 dX11_count_87 rfl rfl ?_
    refine J_aload_n 0 dX11_count_88 rfl rfl ?_
    refine gM_0_8 (v := (u.1 2)) rfl dX11_count_89 ?_
    refine J_icmp_ge (tgt := 114) dX11_count_92 rfl (fun c => ?_) (fun c => ?_)
    · have h := h.1 c
      exact J_sub (lv' := [(2, .int x2)]) [1] rfl (hX x2 h)
    · have h := h.2 c
      refine J_iload_n 1 dX11_count_95 rfl rfl ?_
      refine J_aload_n 0 dX11_count_96 rfl rfl ?_
      refine gM_0_9 dX11_count_97 ?_
      refine J_iconst (v := 3) dX11_count_100 ci_3 ?_
      refine J_iload_n 2 dX11_count_101 rfl rfl ?_
      refine J_imul dX11_count_102 ?_
      refine J_iconst (v := 1) dX11_count_103 ci_1 ?_
      refine J_iadd dX11_count_104 ?_
      refine lM_6 (v := (u.2 6 ((3 * x3) + 1).toNatClampNeg)) h.1 rfl dX11_count_105 ?_
      have h := h.2
      refine J_iadd dX11_count_106 ?_
      refine J_istore_n (lv' := [(2, .int (x2 + (u.2 6 ((3 * x3) + 1).toNatClampNeg))), (0, .ref (ad 0)), (3, .int x3)]) dX11_count_107 rfl (Nat.le_of_ble_eq_true rfl) rfl ?_
      refine J_iinc (v := (x3 + 1)) (lv' := [(3, .int (x3 + 1)), (2, .int (x2 + (u.2 6 ((3 * x3) + 1).toNatClampNeg))), (0, .ref (ad 0))]) 2 dX11_count_108 rfl rfl (Nat.le_of_ble_eq_true rfl) rfl ?_
      refine J_goto (tgt := 87) dX11_count_111 rfl ?_
      exact J_sub (lv' := [(0, .ref (ad 0)), (2, .int (x2 + (u.2 6 ((3 * x3) + 1).toNatClampNeg))), (3, .int (x3 + 1))]) [2, 1, 0] rfl (ih (x2 + (u.2 6 ((3 * x3) + 1).toNatClampNeg)) (x3 + 1) h)
set_option maxRecDepth 20000 in
set_option maxHeartbeats 4000000 in
theorem c_M_count {u : Mem} {x1 : Int32} {Q : Int32 → Mem → Prop} (h : w_M_count x1 u Q) : MM l D ad cI cZ cS rs A0 yX11_count cX11_count 4 (some .int) 5 [.ref (ad 0), .int x1] u (jWi Q) := by
  unfold w_M_count at h
  refine JMet.of (by decide) (Nat.le_of_ble_eq_true rfl) ?_
  refine J_sub (lv' := [(0, .ref (ad 0)), (1, .int x1)]) [0, 1] rfl ?_
  show a_M_count l D ad cI cZ cS rs A0 (jWi Q) 0 [(0, .ref (ad 0)), (1, .int x1)] [] u
  refine J_iconst (v := 0) dX11_count_0 ci_0 ?_
  refine J_istore_n (lv' := [(2, .int 0), (0, .ref (ad 0)), (1, .int x1)]) dX11_count_1 rfl (Nat.le_of_ble_eq_true rfl) rfl ?_
  refine J_aload_n 1 dX11_count_2 rfl rfl ?_
  refine JV_Wv kV_RX11_153 0 rM_0 rfl rfl (c_M_reads h) rfl rfl (by decide) (Nat.le_of_ble_eq_true rfl) dX11_count_3 (fun u2 h => ?_)
  refine J_iload_n 2 dX11_count_6 rfl rfl ?_
  rcases sw_0_8 x1 with c | c | c | c | c | c | c | c | c | c
  · have h := h.1 c
    refine J_tin (off := 49) (tgt := 56) dX11_count_7 (by rw [c]; decide) (by rw [c]; decide) (by rw [c]; rfl) rfl ?_
    refine J_aload_n 1 dX11_count_56 rfl rfl ?_
    refine gM_0_8 (v := (u2.1 2)) rfl dX11_count_57 ?_
    exact J_iret rfl dX11_count_60 ⟨_, rfl, h⟩
  · have h := h.2.1 c
    refine J_tin (off := 54) (tgt := 61) dX11_count_7 (by rw [c]; decide) (by rw [c]; decide) (by rw [c]; rfl) rfl ?_
    refine J_aload_n 1 dX11_count_61 rfl rfl ?_
    refine gM_0_10 (v := (u2.1 3)) rfl dX11_count_62 ?_
    exact J_iret rfl dX11_count_65 ⟨_, rfl, h⟩
  · have h := h.2.2.1 c
    refine J_tin (off := 59) (tgt := 66) dX11_count_7 (by rw [c]; decide) (by rw [c]; decide) (by rw [c]; rfl) rfl ?_
    refine J_aload_n 1 dX11_count_66 rfl rfl ?_
    refine gM_0_6 dX11_count_67 ?_
    refine J_iload_n 2 dX11_count_70 rfl rfl ?_
    refine J_iconst (v := 2) dX11_count_71 ci_2 ?_
    refine J_isub dX11_count_72 ?_
    refine lM_5 (v := (u2.2 5 (x1 - 2).toNatClampNeg)) h.1 rfl dX11_count_73 ?_
    have h := h.2
    exact J_iret rfl dX11_count_74 ⟨_, rfl, h⟩
  · have h := h.2.2.2.1 c
    refine J_tin (off := 59) (tgt := 66) dX11_count_7 (by rw [c]; decide) (by rw [c]; decide) (by rw [c]; rfl) rfl ?_
    refine J_aload_n 1 dX11_count_66 rfl rfl ?_
    refine gM_0_6 dX11_count_67 ?_
    refine J_iload_n 2 dX11_count_70 rfl rfl ?_
    refine J_iconst (v := 2) dX11_count_71 ci_2 ?_
    refine J_isub dX11_count_72 ?_
    refine lM_5 (v := (u2.2 5 (x1 - 2).toNatClampNeg)) h.1 rfl dX11_count_73 ?_
    have h := h.2
    exact J_iret rfl dX11_count_74 ⟨_, rfl, h⟩
  · have h := h.2.2.2.2.1 c
    refine J_tin (off := 68) (tgt := 75) dX11_count_7 (by rw [c]; decide) (by rw [c]; decide) (by rw [c]; rfl) rfl ?_
    refine J_aload_n 1 dX11_count_75 rfl rfl ?_
    refine gM_0_15 (v := (u2.1 5)) rfl dX11_count_76 ?_
    exact J_iret rfl dX11_count_79 ⟨_, rfl, h⟩
  · have h := h.2.2.2.2.2.1 c
    refine J_tin (off := 73) (tgt := 80) dX11_count_7 (by rw [c]; decide) (by rw [c]; decide) (by rw [c]; rfl) rfl ?_
    refine J_aload_n 1 dX11_count_80 rfl rfl ?_
    refine gM_0_21 (v := (u2.1 6)) rfl dX11_count_81 ?_
    exact J_iret rfl dX11_count_84 ⟨_, rfl, h⟩
  · have h := h.2.2.2.2.2.2.1 c
    refine J_tin (off := 78) (tgt := 85) dX11_count_7 (by rw [c]; decide) (by rw [c]; decide) (by rw [c]; rfl) rfl ?_
    refine J_iconst (v := 0) dX11_count_85 ci_0 ?_
    refine J_istore_n (lv' := [(3, .int 0), (2, .int 0), (0, .ref (ad 0)), (1, .int x1)]) dX11_count_86 rfl (Nat.le_of_ble_eq_true rfl) rfl ?_
    obtain ⟨n4, h⟩ := h
    refine J_sub (lv' := [(0, .ref (ad 0)), (2, .int 0), (3, .int 0)]) [2, 1, 0] rfl (t_M_count_l87 ?_ n4 0 0 h)
    · intro z3 h
      refine J_iload_n 0 dX11_count_114 rfl rfl ?_
      exact J_iret rfl dX11_count_115 ⟨_, rfl, h⟩
  · have h := h.2.2.2.2.2.2.2.1 c
    refine J_tin (off := 109) (tgt := 116) dX11_count_7 (by rw [c]; decide) (by rw [c]; decide) (by rw [c]; rfl) rfl ?_
    refine J_aload_n 1 dX11_count_116 rfl rfl ?_
    refine gM_0_14 (v := (u2.1 4)) rfl dX11_count_117 ?_
    exact J_iret rfl dX11_count_120 ⟨_, rfl, h⟩
  · have h := h.2.2.2.2.2.2.2.2.1 c
    refine J_tin (off := 114) (tgt := 121) dX11_count_7 (by rw [c]; decide) (by rw [c]; decide) (by rw [c]; rfl) rfl ?_
    refine J_aload_n 1 dX11_count_121 rfl rfl ?_
    refine gM_0_4 (v := (u2.1 0)) rfl dX11_count_122 ?_
    exact J_iret rfl dX11_count_125 ⟨_, rfl, h⟩
  · have h := h.2.2.2.2.2.2.2.2.2 c
    refine J_tout (tgt := 126) dX11_count_7 c rfl ?_
    refine J_bipush (v := (-2)) dX11_count_126 cb_m2 ?_
    exact J_iret rfl dX11_count_128 ⟨_, rfl, h⟩
abbrev a_M_tellsBig (l : Launch) (D : va_G) (ad : Nat → Nat) (cI cZ cS : ClassId) (rs : va_W) (A0 : Nat → Prop) := AM l D ad cI cZ cS rs A0 cX11_tellsBig 6 (some .long) RX11 6
set_option maxRecDepth 20000 in
set_option maxHeartbeats 4000000 in
theorem c_M_tellsBig {u : Mem} {x1 : Int64} {x3 : Int32} {Q : Int64 → Mem → Prop} (h : w_M_tellsBig x1 x3 u Q) : MM l D ad cI cZ cS rs A0 yX11_tellsBig cX11_tellsBig 6 (some .long) 6 [.ref (ad 0), .long x1, .int x3] u (jWl Q) := by
  unfold w_M_tellsBig at h
  refine JMet.of (by decide) (Nat.le_of_ble_eq_true rfl) ?_
  refine J_sub (lv' := [(0, .ref (ad 0)), (1, .long x1), (3, .int x3)]) [0, 1, 2] rfl ?_
  show a_M_tellsBig l D ad cI cZ cS rs A0 (jWl Q) 0 [(0, .ref (ad 0)), (1, .long x1), (3, .int x3)] [] u
  refine J_ldc2 (v := 31) dX11_tellsBig_0 kk_RX11_258 ?_
  refine J_lload_n 1 dX11_tellsBig_3 rfl rfl ?_
  refine J_lmul dX11_tellsBig_4 ?_
  refine J_aload_n 0 dX11_tellsBig_5 rfl rfl ?_
  refine J_iconst (v := 3) dX11_tellsBig_6 ci_3 ?_
  refine J_iload_n 2 dX11_tellsBig_7 rfl rfl ?_
  refine J_iconst (v := 0) dX11_tellsBig_8 ci_0 ?_
  refine JV_Wi kV_RX11_260 0 rM_0 rfl rfl (c_M_keepOff h) rfl rfl (by decide) (Nat.le_of_ble_eq_true rfl) dX11_tellsBig_9 (fun r1 u2 h => ?_)
  refine J_i2l dX11_tellsBig_12 ?_
  refine J_ladd dX11_tellsBig_13 ?_
  refine J_lstore (lv' := [(4, .long ((31 * x1) + r1.toInt64)), (0, .ref (ad 0)), (1, .long x1), (3, .int x3)]) dX11_tellsBig_14 (Nat.le_of_ble_eq_true rfl) rfl ?_
  refine J_ldc2 (v := 31) dX11_tellsBig_16 kk_RX11_258 ?_
  refine J_lload 0 dX11_tellsBig_19 rfl ?_
  refine J_lmul dX11_tellsBig_21 ?_
  refine J_aload_n 1 dX11_tellsBig_22 rfl rfl ?_
  refine J_iconst (v := 3) dX11_tellsBig_23 ci_3 ?_
  refine J_iload_n 3 dX11_tellsBig_24 rfl rfl ?_
  refine J_iconst (v := 1) dX11_tellsBig_25 ci_1 ?_
  refine JV_Wi kV_RX11_260 0 rM_0 rfl rfl (c_M_keepOff h) rfl rfl (by decide) (Nat.le_of_ble_eq_true rfl) dX11_tellsBig_26 (fun r3 u4 h => ?_)
  refine J_i2l dX11_tellsBig_29 ?_
  refine J_ladd dX11_tellsBig_30 ?_
  refine J_lstore (lv' := [(4, .long ((31 * ((31 * x1) + r1.toInt64)) + r3.toInt64)), (0, .ref (ad 0)), (1, .long x1), (3, .int x3)]) dX11_tellsBig_31 (Nat.le_of_ble_eq_true rfl) rfl ?_
  refine J_ldc2 (v := 31) dX11_tellsBig_33 kk_RX11_258 ?_
  refine J_lload 0 dX11_tellsBig_36 rfl ?_
  refine J_lmul dX11_tellsBig_38 ?_
  refine J_aload_n 1 dX11_tellsBig_39 rfl rfl ?_
  refine J_iload_n 3 dX11_tellsBig_40 rfl rfl ?_
  refine JV_Ri kV_RX11_197 0 rM_0 rfl rfl (c_M_barsOf h) rfl rfl (by decide) (Nat.le_of_ble_eq_true rfl) dX11_tellsBig_41 (fun r5 h => ?_)
  refine J_i2l dX11_tellsBig_44 ?_
  refine J_ladd dX11_tellsBig_45 ?_
  refine J_lstore (lv' := [(4, .long ((31 * ((31 * ((31 * x1) + r1.toInt64)) + r3.toInt64)) + r5.toInt64)), (0, .ref (ad 0)), (1, .long x1), (3, .int x3)]) dX11_tellsBig_46 (Nat.le_of_ble_eq_true rfl) rfl ?_
  refine J_ldc2 (v := 31) dX11_tellsBig_48 kk_RX11_258 ?_
  refine J_lload 0 dX11_tellsBig_51 rfl ?_
  refine J_lmul dX11_tellsBig_53 ?_
  refine J_topl (fun y7 ey7 => ?_)
  have h := h y7 ey7
  refine J_aload_n 1 dX11_tellsBig_54 rfl rfl ?_
  refine J_iconst (v := 2) dX11_tellsBig_55 ci_2 ?_
  refine J_iload_n 3 dX11_tellsBig_56 rfl rfl ?_
  refine J_iconst (v := 0) dX11_tellsBig_57 ci_0 ?_
  refine JV_Wi kV_RX11_206 0 rM_0 rfl rfl (c_M_playOf h) rfl rfl (by decide) (Nat.le_of_ble_eq_true rfl) dX11_tellsBig_58 (fun r8 u9 h => ?_)
  refine J_i2l dX11_tellsBig_61 ?_
  refine J_ladd dX11_tellsBig_62 ?_
  refine J_lstore (lv' := [(4, .long (y7 + r8.toInt64)), (0, .ref (ad 0)), (1, .long x1), (3, .int x3)]) dX11_tellsBig_63 (Nat.le_of_ble_eq_true rfl) rfl ?_
  refine J_ldc2 (v := 31) dX11_tellsBig_65 kk_RX11_258 ?_
  refine J_lload 0 dX11_tellsBig_68 rfl ?_
  refine J_lmul dX11_tellsBig_70 ?_
  refine J_aload_n 1 dX11_tellsBig_71 rfl rfl ?_
  refine J_iconst (v := 2) dX11_tellsBig_72 ci_2 ?_
  refine J_iload_n 3 dX11_tellsBig_73 rfl rfl ?_
  refine J_iconst (v := 1) dX11_tellsBig_74 ci_1 ?_
  refine JV_Wi kV_RX11_206 0 rM_0 rfl rfl (c_M_playOf h) rfl rfl (by decide) (Nat.le_of_ble_eq_true rfl) dX11_tellsBig_75 (fun r10 u11 h => ?_)
  refine J_i2l dX11_tellsBig_78 ?_
  refine J_ladd dX11_tellsBig_79 ?_
  refine J_lstore (lv' := [(4, .long ((31 * (y7 + r8.toInt64)) + r10.toInt64)), (0, .ref (ad 0)), (1, .long x1), (3, .int x3)]) dX11_tellsBig_80 (Nat.le_of_ble_eq_true rfl) rfl ?_
  refine J_ldc2 (v := 31) dX11_tellsBig_82 kk_RX11_258 ?_
  refine J_lload 0 dX11_tellsBig_85 rfl ?_
  refine J_lmul dX11_tellsBig_87 ?_
  refine J_aload_n 1 dX11_tellsBig_88 rfl rfl ?_
  refine J_iload_n 3 dX11_tellsBig_89 rfl rfl ?_
  refine J_iconst (v := 0) dX11_tellsBig_90 ci_0 ?_
  refine JV_Ri kV_RX11_225 0 rM_0 rfl rfl (c_M_standsOf h) rfl rfl (by decide) (Nat.le_of_ble_eq_true rfl) dX11_tellsBig_91 (fun r12 h => ?_)
  refine J_i2l dX11_tellsBig_94 ?_
  refine J_ladd dX11_tellsBig_95 ?_
  refine J_lstore (lv' := [(4, .long ((31 * ((31 * (y7 + r8.toInt64)) + r10.toInt64)) + r12.toInt64)), (0, .ref (ad 0)), (1, .long x1), (3, .int x3)]) dX11_tellsBig_96 (Nat.le_of_ble_eq_true rfl) rfl ?_
  refine J_ldc2 (v := 31) dX11_tellsBig_98 kk_RX11_258 ?_
  refine J_lload 0 dX11_tellsBig_101 rfl ?_
  refine J_lmul dX11_tellsBig_103 ?_
  refine J_aload_n 1 dX11_tellsBig_104 rfl rfl ?_
  refine J_iload_n 3 dX11_tellsBig_105 rfl rfl ?_
  refine J_iconst (v := 1) dX11_tellsBig_106 ci_1 ?_
  refine JV_Ri kV_RX11_225 0 rM_0 rfl rfl (c_M_standsOf h) rfl rfl (by decide) (Nat.le_of_ble_eq_true rfl) dX11_tellsBig_107 (fun r14 h => ?_)
  refine J_i2l dX11_tellsBig_110 ?_
  refine J_ladd dX11_tellsBig_111 ?_
  refine J_topl (fun y16 ey16 => ?_)
  have h := h y16 ey16
  refine J_lstore (lv' := [(4, .long y16), (0, .ref (ad 0)), (1, .long x1), (3, .int x3)]) dX11_tellsBig_112 (Nat.le_of_ble_eq_true rfl) rfl ?_
  refine J_ldc2 (v := 31) dX11_tellsBig_114 kk_RX11_258 ?_
  refine J_lload 0 dX11_tellsBig_117 rfl ?_
  refine J_lmul dX11_tellsBig_119 ?_
  refine J_aload_n 1 dX11_tellsBig_120 rfl rfl ?_
  refine J_iload_n 3 dX11_tellsBig_121 rfl rfl ?_
  refine JV_Ri kV_RX11_228 0 rM_0 rfl rfl (c_M_watchOf h) rfl rfl (by decide) (Nat.le_of_ble_eq_true rfl) dX11_tellsBig_122 (fun r17 h => ?_)
  refine J_i2l dX11_tellsBig_125 ?_
  refine J_ladd dX11_tellsBig_126 ?_
  refine J_lstore (lv' := [(4, .long ((31 * y16) + r17.toInt64)), (0, .ref (ad 0)), (1, .long x1), (3, .int x3)]) dX11_tellsBig_127 (Nat.le_of_ble_eq_true rfl) rfl ?_
  refine J_ldc2 (v := 31) dX11_tellsBig_129 kk_RX11_258 ?_
  refine J_lload 0 dX11_tellsBig_132 rfl ?_
  refine J_lmul dX11_tellsBig_134 ?_
  refine J_aload_n 1 dX11_tellsBig_135 rfl rfl ?_
  refine J_iconst (v := 4) dX11_tellsBig_136 ci_4 ?_
  refine J_iload_n 3 dX11_tellsBig_137 rfl rfl ?_
  refine J_iconst (v := 0) dX11_tellsBig_138 ci_0 ?_
  refine JV_Wl kV_RX11_263 0 rM_0 rfl rfl (c_M_cat h) rfl rfl (by decide) (Nat.le_of_ble_eq_true rfl) dX11_tellsBig_139 (fun r19 u20 h => ?_)
  refine J_ladd dX11_tellsBig_142 ?_
  refine J_lstore (lv' := [(4, .long ((31 * ((31 * y16) + r17.toInt64)) + r19)), (0, .ref (ad 0)), (1, .long x1), (3, .int x3)]) dX11_tellsBig_143 (Nat.le_of_ble_eq_true rfl) rfl ?_
  refine J_ldc2 (v := 31) dX11_tellsBig_145 kk_RX11_258 ?_
  refine J_lload 0 dX11_tellsBig_148 rfl ?_
  refine J_lmul dX11_tellsBig_150 ?_
  refine J_aload_n 1 dX11_tellsBig_151 rfl rfl ?_
  refine J_iconst (v := 4) dX11_tellsBig_152 ci_4 ?_
  refine J_iload_n 3 dX11_tellsBig_153 rfl rfl ?_
  refine J_iconst (v := 1) dX11_tellsBig_154 ci_1 ?_
  refine JV_Wl kV_RX11_263 0 rM_0 rfl rfl (c_M_cat h) rfl rfl (by decide) (Nat.le_of_ble_eq_true rfl) dX11_tellsBig_155 (fun r21 u22 h => ?_)
  refine J_ladd dX11_tellsBig_158 ?_
  refine J_lstore (lv' := [(4, .long ((31 * ((31 * ((31 * y16) + r17.toInt64)) + r19)) + r21)), (0, .ref (ad 0)), (1, .long x1), (3, .int x3)]) dX11_tellsBig_159 (Nat.le_of_ble_eq_true rfl) rfl ?_
  refine J_ldc2 (v := 31) dX11_tellsBig_161 kk_RX11_258 ?_
  refine J_lload 0 dX11_tellsBig_164 rfl ?_
  refine J_lmul dX11_tellsBig_166 ?_
  refine J_aload_n 1 dX11_tellsBig_167 rfl rfl ?_
  refine J_iconst (v := 4) dX11_tellsBig_168 ci_4 ?_
  refine J_iload_n 3 dX11_tellsBig_169 rfl rfl ?_
  refine JV_Ri kV_RX11_249 0 rM_0 rfl rfl (c_M_letOf h) rfl rfl (by decide) (Nat.le_of_ble_eq_true rfl) dX11_tellsBig_170 (fun r23 h => ?_)
  refine J_i2l dX11_tellsBig_173 ?_
  refine J_ladd dX11_tellsBig_174 ?_
  refine J_topl (fun y25 ey25 => ?_)
  have h := h y25 ey25
  exact J_lret rfl dX11_tellsBig_175 ⟨_, rfl, h⟩
abbrev a_M_digest (l : Launch) (D : va_G) (ad : Nat → Nat) (cI cZ cS : ClassId) (rs : va_W) (A0 : Nat → Prop) := AM l D ad cI cZ cS rs A0 cX11_digest 5 (some .long) RX11 7
set_option maxRecDepth 20000 in
set_option maxHeartbeats 4000000 in
theorem t_M_digest_l6  {X : Int64 → Mem → Prop} {Q : Int64 → Mem → Prop} (hX : ∀ (x1 : Int64) (u : Mem), X x1 u → a_M_digest l D ad cI cZ cS rs A0 (jWl Q) 31 [(0, .ref (ad 0)), (1, .long x1)] [] u) : ∀ (n : Nat) (x1 : Int64) (x3 : Int32) (u : Mem), w_M_digest_l6 X Q n x1 x3 u → a_M_digest l D ad cI cZ cS rs A0 (jWl Q) 6 [(0, .ref (ad 0)), (1, .long x1), (3, .int x3)] [] u := by
  intro n
  induction n with
  | zero =>
    intro x1 x3 u h
    exact (by simp only [w_M_digest_l6] at h : False).elim
  | succ n ih =>
    intro x1 x3 u h
    rw [w_M_digest_l6] at h
    refine J_iload_n 2 dX11_digest_6 rfl rfl ?_
    refine J_bipush (v := 8) dX11_digest_7 cb_8 ?_
    refine J_icmp_ge (tgt := 31) dX11_digest_9 rfl (fun c => ?_) (fun c => ?_)
    · have h := h.1 c
      exact J_sub (lv' := [(0, .ref (ad 0)), (1, .long x1)]) [0, 1] rfl (hX x1 u h)
    · have h := h.2 c
      refine J_ldc2 (v := 31) dX11_digest_12 kk_RX11_258 ?_
      refine J_lload_n 1 dX11_digest_15 rfl rfl ?_
      refine J_lmul dX11_digest_16 ?_
      refine J_aload_n 0 dX11_digest_17 rfl rfl ?_
      refine J_iload_n 2 dX11_digest_18 rfl rfl ?_
      refine JV_Wi kV_RX11_269 0 rM_0 rfl rfl (c_M_count h) rfl rfl (by decide) (Nat.le_of_ble_eq_true rfl) dX11_digest_19 (fun r1 u2 h => ?_)
      refine J_i2l dX11_digest_22 ?_
      refine J_ladd dX11_digest_23 ?_
      refine J_lstore_n (lv' := [(1, .long ((31 * x1) + r1.toInt64)), (0, .ref (ad 0)), (3, .int x3)]) dX11_digest_24 rfl (Nat.le_of_ble_eq_true rfl) rfl ?_
      refine J_iinc (v := (x3 + 1)) (lv' := [(3, .int (x3 + 1)), (1, .long ((31 * x1) + r1.toInt64)), (0, .ref (ad 0))]) 2 dX11_digest_25 rfl rfl (Nat.le_of_ble_eq_true rfl) rfl ?_
      refine J_goto (tgt := 6) dX11_digest_28 rfl ?_
      exact J_sub (lv' := [(0, .ref (ad 0)), (1, .long ((31 * x1) + r1.toInt64)), (3, .int (x3 + 1))]) [2, 1, 0] rfl (ih ((31 * x1) + r1.toInt64) (x3 + 1) u2 h)
set_option maxRecDepth 20000 in
set_option maxHeartbeats 4000000 in
theorem t_M_digest_l68 {u : Mem}  {X : Int64 → Prop} {x3 : Int32} {Q : Int64 → Mem → Prop} (hX : ∀ (x1 : Int64), X x1 → a_M_digest l D ad cI cZ cS rs A0 (jWl Q) 99 [(0, .ref (ad 0)), (1, .long x1), (3, .int x3)] [] u) : ∀ (n : Nat) (x1 : Int64) (x4 : Int32), w_M_digest_l68 X x3 u Q n x1 x4 → a_M_digest l D ad cI cZ cS rs A0 (jWl Q) 68 [(0, .ref (ad 0)), (1, .long x1), (3, .int x3), (4, .int x4)] [] u := by
  intro n
  induction n with
  | zero =>
    intro x1 x4 h
    exact (by simp only [w_M_digest_l68] at h : False).elim
  | succ n ih =>
    intro x1 x4 h
    rw [w_M_digest_l68] at h
    refine J_iload 3 dX11_digest_68 rfl ?_
    refine J_iconst (v := 3) dX11_digest_70 ci_3 ?_
    refine J_icmp_ge (tgt := 99) dX11_digest_71 rfl (fun c => ?_) (fun c => ?_)
    · have h := h.1 c
      exact J_sub (lv' := [(0, .ref (ad 0)), (1, .long x1), (3, .int x3)]) [0, 1, 2] rfl (hX x1 h)
    · have h := h.2 c
      refine J_ldc2 (v := 31) dX11_digest_74 kk_RX11_258 ?_
      refine J_lload_n 1 dX11_digest_77 rfl rfl ?_
      refine J_lmul dX11_digest_78 ?_
      refine J_aload_n 0 dX11_digest_79 rfl rfl ?_
      refine gM_0_9 dX11_digest_80 ?_
      refine J_iconst (v := 3) dX11_digest_83 ci_3 ?_
      refine J_iload_n 2 dX11_digest_84 rfl rfl ?_
      refine J_imul dX11_digest_85 ?_
      refine J_iload 3 dX11_digest_86 rfl ?_
      refine J_iadd dX11_digest_88 ?_
      refine lM_6 (v := (u.2 6 ((3 * x3) + x4).toNatClampNeg)) h.1 rfl dX11_digest_89 ?_
      have h := h.2
      refine J_i2l dX11_digest_90 ?_
      refine J_ladd dX11_digest_91 ?_
      refine J_lstore_n (lv' := [(1, .long ((31 * x1) + (u.2 6 ((3 * x3) + x4).toNatClampNeg).toInt64)), (0, .ref (ad 0)), (3, .int x3), (4, .int x4)]) dX11_digest_92 rfl (Nat.le_of_ble_eq_true rfl) rfl ?_
      refine J_iinc (v := (x4 + 1)) (lv' := [(4, .int (x4 + 1)), (1, .long ((31 * x1) + (u.2 6 ((3 * x3) + x4).toNatClampNeg).toInt64)), (0, .ref (ad 0)), (3, .int x3)]) 3 dX11_digest_93 rfl rfl (Nat.le_of_ble_eq_true rfl) rfl ?_
      refine J_goto (tgt := 68) dX11_digest_96 rfl ?_
      exact J_sub (lv' := [(0, .ref (ad 0)), (1, .long ((31 * x1) + (u.2 6 ((3 * x3) + x4).toNatClampNeg).toInt64)), (3, .int x3), (4, .int (x4 + 1))]) [2, 1, 3, 0] rfl (ih ((31 * x1) + (u.2 6 ((3 * x3) + x4).toNatClampNeg).toInt64) (x4 + 1) h)
set_option maxRecDepth 20000 in
set_option maxHeartbeats 4000000 in
theorem t_M_digest_l57 {u : Mem}  {X : Int64 → Prop} {Q : Int64 → Mem → Prop} (hX : ∀ (x1 : Int64), X x1 → a_M_digest l D ad cI cZ cS rs A0 (jWl Q) 105 [(0, .ref (ad 0)), (1, .long x1)] [] u) : ∀ (n : Nat) (x1 : Int64) (x3 : Int32), w_M_digest_l57 X u Q n x1 x3 → a_M_digest l D ad cI cZ cS rs A0 (jWl Q) 57 [(0, .ref (ad 0)), (1, .long x1), (3, .int x3)] [] u := by
  intro n
  induction n with
  | zero =>
    intro x1 x3 h
    exact (by simp only [w_M_digest_l57] at h : False).elim
  | succ n ih =>
    intro x1 x3 h
    rw [w_M_digest_l57] at h
    refine J_iload_n 2 dX11_digest_57 rfl rfl ?_
    refine J_aload_n 0 dX11_digest_58 rfl rfl ?_
    refine gM_0_8 (v := (u.1 2)) rfl dX11_digest_59 ?_
    refine J_icmp_ge (tgt := 105) dX11_digest_62 rfl (fun c => ?_) (fun c => ?_)
    · have h := h.1 c
      exact J_sub (lv' := [(0, .ref (ad 0)), (1, .long x1)]) [0, 1] rfl (hX x1 h)
    · have h := h.2 c
      refine J_iconst (v := 0) dX11_digest_65 ci_0 ?_
      refine J_istore (lv' := [(4, .int 0), (0, .ref (ad 0)), (1, .long x1), (3, .int x3)]) dX11_digest_66 (Nat.le_of_ble_eq_true rfl) rfl ?_
      obtain ⟨n10, h⟩ := h
      refine J_sub (lv' := [(0, .ref (ad 0)), (1, .long x1), (3, .int x3), (4, .int 0)]) [1, 2, 3, 0] rfl (t_M_digest_l68 ?_ n10 x1 0 h)
      · intro z9 h
        refine J_iinc (v := (x3 + 1)) (lv' := [(3, .int (x3 + 1)), (0, .ref (ad 0)), (1, .long z9)]) 2 dX11_digest_99 rfl rfl (Nat.le_of_ble_eq_true rfl) rfl ?_
        refine J_goto (tgt := 57) dX11_digest_102 rfl ?_
        exact J_sub (lv' := [(0, .ref (ad 0)), (1, .long z9), (3, .int (x3 + 1))]) [1, 2, 0] rfl (ih z9 (x3 + 1) h)
set_option maxRecDepth 20000 in
set_option maxHeartbeats 4000000 in
theorem t_M_digest_l107 {u : Mem}  {X : Int64 → Prop} {Q : Int64 → Mem → Prop} (hX : ∀ (x1 : Int64), X x1 → a_M_digest l D ad cI cZ cS rs A0 (jWl Q) 155 [(0, .ref (ad 0)), (1, .long x1)] [] u) : ∀ (n : Nat) (x1 : Int64) (x3 : Int32), w_M_digest_l107 X u Q n x1 x3 → a_M_digest l D ad cI cZ cS rs A0 (jWl Q) 107 [(0, .ref (ad 0)), (1, .long x1), (3, .int x3)] [] u := by
  intro n
  induction n with
  | zero =>
    intro x1 x3 h
    exact (by simp only [w_M_digest_l107] at h : False).elim
  | succ n ih =>
    intro x1 x3 h
    rw [w_M_digest_l107] at h
    refine J_iload_n 2 dX11_digest_107 rfl rfl ?_
    refine J_aload_n 0 dX11_digest_108 rfl rfl ?_
    refine gM_0_10 (v := (u.1 3)) rfl dX11_digest_109 ?_
    refine J_icmp_ge (tgt := 155) dX11_digest_112 rfl (fun c => ?_) (fun c => ?_)
    · have h := h.1 c
      exact J_sub (lv' := [(0, .ref (ad 0)), (1, .long x1)]) [0, 1] rfl (hX x1 h)
    · have h := h.2 c
      refine J_ldc2 (v := 31) dX11_digest_115 kk_RX11_258 ?_
      refine J_lload_n 1 dX11_digest_118 rfl rfl ?_
      refine J_lmul dX11_digest_119 ?_
      refine J_aload_n 0 dX11_digest_120 rfl rfl ?_
      refine gM_0_11 dX11_digest_121 ?_
      refine J_iconst (v := 2) dX11_digest_124 ci_2 ?_
      refine J_iload_n 2 dX11_digest_125 rfl rfl ?_
      refine J_imul dX11_digest_126 ?_
      refine lM_7 (v := (u.2 7 (2 * x3).toNatClampNeg)) h.1 rfl dX11_digest_127 ?_
      have h := h.2
      refine J_i2l dX11_digest_128 ?_
      refine J_ladd dX11_digest_129 ?_
      refine J_lstore_n (lv' := [(1, .long ((31 * x1) + (u.2 7 (2 * x3).toNatClampNeg).toInt64)), (0, .ref (ad 0)), (3, .int x3)]) dX11_digest_130 rfl (Nat.le_of_ble_eq_true rfl) rfl ?_
      refine J_ldc2 (v := 31) dX11_digest_131 kk_RX11_258 ?_
      refine J_lload_n 0 dX11_digest_134 rfl rfl ?_
      refine J_lmul dX11_digest_135 ?_
      refine J_aload_n 1 dX11_digest_136 rfl rfl ?_
      refine gM_0_11 dX11_digest_137 ?_
      refine J_iconst (v := 2) dX11_digest_140 ci_2 ?_
      refine J_iload_n 2 dX11_digest_141 rfl rfl ?_
      refine J_imul dX11_digest_142 ?_
      refine J_iconst (v := 1) dX11_digest_143 ci_1 ?_
      refine J_iadd dX11_digest_144 ?_
      refine lM_7 (v := (u.2 7 ((2 * x3) + 1).toNatClampNeg)) h.1 rfl dX11_digest_145 ?_
      have h := h.2
      refine J_i2l dX11_digest_146 ?_
      refine J_ladd dX11_digest_147 ?_
      refine J_topl (fun y12 ey12 => ?_)
      have h := h y12 ey12
      refine J_lstore_n (lv' := [(1, .long y12), (0, .ref (ad 0)), (3, .int x3)]) dX11_digest_148 rfl (Nat.le_of_ble_eq_true rfl) rfl ?_
      refine J_iinc (v := (x3 + 1)) (lv' := [(3, .int (x3 + 1)), (1, .long y12), (0, .ref (ad 0))]) 2 dX11_digest_149 rfl rfl (Nat.le_of_ble_eq_true rfl) rfl ?_
      refine J_goto (tgt := 107) dX11_digest_152 rfl ?_
      exact J_sub (lv' := [(0, .ref (ad 0)), (1, .long y12), (3, .int (x3 + 1))]) [2, 1, 0] rfl (ih y12 (x3 + 1) h)
set_option maxRecDepth 20000 in
set_option maxHeartbeats 4000000 in
theorem t_M_digest_b177 {u : Mem} {R : Int64 → Int32 → Prop} {X : Int64 → Prop} {x1 : Int64} {x3 : Int32} {s0 : Int32} {Q : Int64 → Mem → Prop} (hR : ∀ (z1 : Int64) (z3 : Int32), R z1 z3 → a_M_digest l D ad cI cZ cS rs A0 (jWl Q) 161 [(0, .ref (ad 0)), (1, .long z1), (3, .int z3)] [] u) (hX : ∀ (z1 : Int64), X z1 → a_M_digest l D ad cI cZ cS rs A0 (jWl Q) 215 [(0, .ref (ad 0)), (1, .long z1)] [] u) (h : w_M_digest_b177 R X x1 x3 s0 u Q) : a_M_digest l D ad cI cZ cS rs A0 (jWl Q) 177 [(0, .ref (ad 0)), (1, .long x1), (3, .int x3)] [.int s0] u := by
  unfold w_M_digest_b177 at h
  refine J_istore (lv' := [(4, .int s0), (0, .ref (ad 0)), (1, .long x1), (3, .int x3)]) dX11_digest_177 (Nat.le_of_ble_eq_true rfl) rfl ?_
  refine J_ldc2 (v := 31) dX11_digest_179 kk_RX11_258 ?_
  refine J_lload_n 2 dX11_digest_182 rfl rfl ?_
  refine J_lmul dX11_digest_183 ?_
  refine J_aload_n 1 dX11_digest_184 rfl rfl ?_
  refine gM_0_17 dX11_digest_185 ?_
  refine J_iload 0 dX11_digest_188 rfl ?_
  refine lM_11 (v := (u.2 11 s0.toNatClampNeg)) h.1 rfl dX11_digest_190 ?_
  have h := h.2
  refine J_i2l dX11_digest_191 ?_
  refine J_ladd dX11_digest_192 ?_
  refine J_lstore_n (lv' := [(1, .long ((31 * x1) + (u.2 11 s0.toNatClampNeg).toInt64)), (4, .int s0), (0, .ref (ad 0)), (3, .int x3)]) dX11_digest_193 rfl (Nat.le_of_ble_eq_true rfl) rfl ?_
  refine J_ldc2 (v := 31) dX11_digest_194 kk_RX11_258 ?_
  refine J_lload_n 0 dX11_digest_197 rfl rfl ?_
  refine J_lmul dX11_digest_198 ?_
  refine J_aload_n 2 dX11_digest_199 rfl rfl ?_
  refine gM_0_18 dX11_digest_200 ?_
  refine J_iload 1 dX11_digest_203 rfl ?_
  refine lM_12 (v := (u.2 12 s0.toNatClampNeg)) h.1 rfl dX11_digest_205 ?_
  have h := h.2
  refine J_i2l dX11_digest_206 ?_
  refine J_ladd dX11_digest_207 ?_
  refine J_topl (fun y16 ey16 => ?_)
  have h := h y16 ey16
  refine J_lstore_n (lv' := [(1, .long y16), (4, .int s0), (0, .ref (ad 0)), (3, .int x3)]) dX11_digest_208 rfl (Nat.le_of_ble_eq_true rfl) rfl ?_
  refine J_iinc (v := (x3 + 1)) (lv' := [(3, .int (x3 + 1)), (1, .long y16), (4, .int s0), (0, .ref (ad 0))]) 3 dX11_digest_209 rfl rfl (Nat.le_of_ble_eq_true rfl) rfl ?_
  refine J_goto (tgt := 161) dX11_digest_212 rfl ?_
  exact J_sub (lv' := [(0, .ref (ad 0)), (1, .long y16), (3, .int (x3 + 1))]) [3, 1, 0] rfl (hR y16 (x3 + 1) h)
set_option maxRecDepth 20000 in
set_option maxHeartbeats 4000000 in
theorem t_M_digest_l161 {u : Mem}  {X : Int64 → Prop} {Q : Int64 → Mem → Prop} (hX : ∀ (x1 : Int64), X x1 → a_M_digest l D ad cI cZ cS rs A0 (jWl Q) 215 [(0, .ref (ad 0)), (1, .long x1)] [] u) : ∀ (n : Nat) (x1 : Int64) (x3 : Int32), w_M_digest_l161 X u Q n x1 x3 → a_M_digest l D ad cI cZ cS rs A0 (jWl Q) 161 [(0, .ref (ad 0)), (1, .long x1), (3, .int x3)] [] u := by
  intro n
  induction n with
  | zero =>
    intro x1 x3 h
    exact (by simp only [w_M_digest_l161] at h : False).elim
  | succ n ih =>
    intro x1 x3 h
    rw [w_M_digest_l161] at h
    refine J_iload_n 2 dX11_digest_161 rfl rfl ?_
    refine J_iconst (v := 4) dX11_digest_162 ci_4 ?_
    refine J_icmp_ge (tgt := 215) dX11_digest_163 rfl (fun c => ?_) (fun c => ?_)
    · have h := h.1 c
      exact J_sub (lv' := [(0, .ref (ad 0)), (1, .long x1)]) [0, 1] rfl (hX x1 h)
    · have h := h.2 c
      refine J_iload_n 2 dX11_digest_166 rfl rfl ?_
      refine J_iconst (v := 3) dX11_digest_167 ci_3 ?_
      refine J_icmp_ge (tgt := 175) dX11_digest_168 rfl (fun c => ?_) (fun c => ?_)
      · have h := h.1 c
        refine J_bipush (v := 9) dX11_digest_175 cb_9 ?_
        exact (t_M_digest_b177 ih hX h)
      · have h := h.2 c
        refine J_iload_n 2 dX11_digest_171 rfl rfl ?_
        refine J_goto (tgt := 177) dX11_digest_172 rfl ?_
        exact (t_M_digest_b177 ih hX h)
set_option maxRecDepth 20000 in
set_option maxHeartbeats 4000000 in
theorem t_M_digest_l263 {u : Mem}  {X : Int64 → Prop} {x3 : Int32} {Q : Int64 → Mem → Prop} (hX : ∀ (x1 : Int64), X x1 → a_M_digest l D ad cI cZ cS rs A0 (jWl Q) 289 [(0, .ref (ad 0)), (1, .long x1)] [] u) : ∀ (n : Nat) (x1 : Int64) (x4 : Int32), w_M_digest_l263 X x3 u Q n x1 x4 → a_M_digest l D ad cI cZ cS rs A0 (jWl Q) 263 [(0, .ref (ad 0)), (1, .long x1), (3, .int x3), (4, .int x4)] [] u := by
  intro n
  induction n with
  | zero =>
    intro x1 x4 h
    exact (by simp only [w_M_digest_l263] at h : False).elim
  | succ n ih =>
    intro x1 x4 h
    rw [w_M_digest_l263] at h
    refine J_iload 3 dX11_digest_263 rfl ?_
    refine J_iconst (v := 2) dX11_digest_265 ci_2 ?_
    refine J_icmp_ge (tgt := 289) dX11_digest_266 rfl (fun c => ?_) (fun c => ?_)
    · have h := h.1 c
      exact J_sub (lv' := [(0, .ref (ad 0)), (1, .long x1)]) [0, 1] rfl (hX x1 h)
    · have h := h.2 c
      refine J_ldc2 (v := 31) dX11_digest_269 kk_RX11_258 ?_
      refine J_lload_n 1 dX11_digest_272 rfl rfl ?_
      refine J_lmul dX11_digest_273 ?_
      refine J_iload_n 2 dX11_digest_274 rfl rfl ?_
      refine J_iload 3 dX11_digest_275 rfl ?_
      refine JS_Ri kS_RX11_187 (c_M_told h) rfl rfl (by decide) (Nat.le_of_ble_eq_true rfl) dX11_digest_277 (fun r27 h => ?_)
      refine J_i2l dX11_digest_280 ?_
      refine J_ladd dX11_digest_281 ?_
      refine J_lstore_n (lv' := [(1, .long ((31 * x1) + r27.toInt64)), (0, .ref (ad 0)), (3, .int x3), (4, .int x4)]) dX11_digest_282 rfl (Nat.le_of_ble_eq_true rfl) rfl ?_
      refine J_iinc (v := (x4 + 1)) (lv' := [(4, .int (x4 + 1)), (1, .long ((31 * x1) + r27.toInt64)), (0, .ref (ad 0)), (3, .int x3)]) 3 dX11_digest_283 rfl rfl (Nat.le_of_ble_eq_true rfl) rfl ?_
      refine J_goto (tgt := 263) dX11_digest_286 rfl ?_
      exact J_sub (lv' := [(0, .ref (ad 0)), (1, .long ((31 * x1) + r27.toInt64)), (3, .int x3), (4, .int (x4 + 1))]) [2, 1, 3, 0] rfl (ih ((31 * x1) + r27.toInt64) (x4 + 1) h)
set_option maxRecDepth 20000 in
set_option maxHeartbeats 4000000 in
theorem t_M_digest_l318  {X : Int64 → Mem → Prop} {Q : Int64 → Mem → Prop} (hX : ∀ (x1 : Int64) (u : Mem), X x1 u → a_M_digest l D ad cI cZ cS rs A0 (jWl Q) 345 [(0, .ref (ad 0)), (1, .long x1)] [] u) : ∀ (n : Nat) (x1 : Int64) (x4 : Int32) (u : Mem), w_M_digest_l318 X Q n x1 x4 u → a_M_digest l D ad cI cZ cS rs A0 (jWl Q) 318 [(0, .ref (ad 0)), (1, .long x1), (4, .int x4)] [] u := by
  intro n
  induction n with
  | zero =>
    intro x1 x4 u h
    exact (by simp only [w_M_digest_l318] at h : False).elim
  | succ n ih =>
    intro x1 x4 u h
    rw [w_M_digest_l318] at h
    refine J_iload 2 dX11_digest_318 rfl ?_
    refine J_iconst (v := 2) dX11_digest_320 ci_2 ?_
    refine J_icmp_ge (tgt := 345) dX11_digest_321 rfl (fun c => ?_) (fun c => ?_)
    · have h := h.1 c
      exact J_sub (lv' := [(0, .ref (ad 0)), (1, .long x1)]) [0, 1] rfl (hX x1 u h)
    · have h := h.2 c
      refine J_ldc2 (v := 31) dX11_digest_324 kk_RX11_258 ?_
      refine J_lload_n 1 dX11_digest_327 rfl rfl ?_
      refine J_lmul dX11_digest_328 ?_
      refine J_aload_n 0 dX11_digest_329 rfl rfl ?_
      refine J_iconst (v := 5) dX11_digest_330 ci_5 ?_
      refine J_iload 2 dX11_digest_331 rfl ?_
      refine JV_Wi kV_RX11_214 0 rM_0 rfl rfl (c_M_roundOf h) rfl rfl (by decide) (Nat.le_of_ble_eq_true rfl) dX11_digest_333 (fun r34 u35 h => ?_)
      refine J_i2l dX11_digest_336 ?_
      refine J_ladd dX11_digest_337 ?_
      refine J_lstore_n (lv' := [(1, .long ((31 * x1) + r34.toInt64)), (0, .ref (ad 0)), (4, .int x4)]) dX11_digest_338 rfl (Nat.le_of_ble_eq_true rfl) rfl ?_
      refine J_iinc (v := (x4 + 1)) (lv' := [(4, .int (x4 + 1)), (1, .long ((31 * x1) + r34.toInt64)), (0, .ref (ad 0))]) 2 dX11_digest_339 rfl rfl (Nat.le_of_ble_eq_true rfl) rfl ?_
      refine J_goto (tgt := 318) dX11_digest_342 rfl ?_
      exact J_sub (lv' := [(0, .ref (ad 0)), (1, .long ((31 * x1) + r34.toInt64)), (4, .int (x4 + 1))]) [2, 1, 0] rfl (ih ((31 * x1) + r34.toInt64) (x4 + 1) u35 h)
set_option maxRecDepth 20000 in
set_option maxHeartbeats 4000000 in
theorem t_M_digest_l378  {X : Int64 → Mem → Prop} {Q : Int64 → Mem → Prop} (hX : ∀ (x1 : Int64) (u : Mem), X x1 u → a_M_digest l D ad cI cZ cS rs A0 (jWl Q) 399 [(1, .long x1)] [] u) : ∀ (n : Nat) (x1 : Int64) (x4 : Int32) (u : Mem), w_M_digest_l378 X Q n x1 x4 u → a_M_digest l D ad cI cZ cS rs A0 (jWl Q) 378 [(0, .ref (ad 0)), (1, .long x1), (4, .int x4)] [] u := by
  intro n
  induction n with
  | zero =>
    intro x1 x4 u h
    exact (by simp only [w_M_digest_l378] at h : False).elim
  | succ n ih =>
    intro x1 x4 u h
    rw [w_M_digest_l378] at h
    refine J_iload 2 dX11_digest_378 rfl ?_
    refine J_bipush (v := 8) dX11_digest_380 cb_8 ?_
    refine J_icmp_ge (tgt := 399) dX11_digest_382 rfl (fun c => ?_) (fun c => ?_)
    · have h := h.1 c
      exact J_sub (lv' := [(1, .long x1)]) [1] rfl (hX x1 u h)
    · have h := h.2 c
      refine J_aload_n 0 dX11_digest_385 rfl rfl ?_
      refine J_lload_n 1 dX11_digest_386 rfl rfl ?_
      refine J_iload 2 dX11_digest_387 rfl ?_
      refine JV_Wl kV_RX11_275 0 rM_0 rfl rfl (c_M_tellsBig h) rfl rfl (by decide) (Nat.le_of_ble_eq_true rfl) dX11_digest_389 (fun r42 u43 h => ?_)
      refine J_lstore_n (lv' := [(1, .long r42), (0, .ref (ad 0)), (4, .int x4)]) dX11_digest_392 rfl (Nat.le_of_ble_eq_true rfl) rfl ?_
      refine J_iinc (v := (x4 + 1)) (lv' := [(4, .int (x4 + 1)), (1, .long r42), (0, .ref (ad 0))]) 2 dX11_digest_393 rfl rfl (Nat.le_of_ble_eq_true rfl) rfl ?_
      refine J_goto (tgt := 378) dX11_digest_396 rfl ?_
      exact J_sub (lv' := [(0, .ref (ad 0)), (1, .long r42), (4, .int (x4 + 1))]) [2, 1, 0] rfl (ih r42 (x4 + 1) u43 h)
set_option maxRecDepth 20000 in
set_option maxHeartbeats 4000000 in
theorem c_M_digest {u : Mem} {Q : Int64 → Mem → Prop} (h : w_M_digest u Q) : MM l D ad cI cZ cS rs A0 yX11_digest cX11_digest 5 (some .long) 7 [.ref (ad 0)] u (jWl Q) := by
  unfold w_M_digest at h
  refine JMet.of (by decide) (Nat.le_of_ble_eq_true rfl) ?_
  refine J_sub (lv' := [(0, .ref (ad 0))]) [0] rfl ?_
  show a_M_digest l D ad cI cZ cS rs A0 (jWl Q) 0 [(0, .ref (ad 0))] [] u
  refine J_ldc2 (v := 17) dX11_digest_0 kk_RX11_267 ?_
  refine J_lstore_n (lv' := [(1, .long 17), (0, .ref (ad 0))]) dX11_digest_3 rfl (Nat.le_of_ble_eq_true rfl) rfl ?_
  refine J_iconst (v := 0) dX11_digest_4 ci_0 ?_
  refine J_istore_n (lv' := [(3, .int 0), (1, .long 17), (0, .ref (ad 0))]) dX11_digest_5 rfl (Nat.le_of_ble_eq_true rfl) rfl ?_
  obtain ⟨n52, h⟩ := h
  refine J_sub (lv' := [(0, .ref (ad 0)), (1, .long 17), (3, .int 0)]) [2, 1, 0] rfl (t_M_digest_l6 ?_ n52 17 0 u h)
  · intro z3 u4 h
    refine J_ldc2 (v := 31) dX11_digest_31 kk_RX11_258 ?_
    refine J_lload_n 1 dX11_digest_34 rfl rfl ?_
    refine J_lmul dX11_digest_35 ?_
    refine J_aload_n 0 dX11_digest_36 rfl rfl ?_
    refine JV_Wi kV_RX11_132 0 rM_0 rfl rfl (c_M_readsLaws h) rfl rfl (by decide) (Nat.le_of_ble_eq_true rfl) dX11_digest_37 (fun r5 u6 h => ?_)
    refine J_i2l dX11_digest_40 ?_
    refine J_ladd dX11_digest_41 ?_
    refine J_lstore_n (lv' := [(1, .long ((31 * z3) + r5.toInt64)), (0, .ref (ad 0))]) dX11_digest_42 rfl (Nat.le_of_ble_eq_true rfl) rfl ?_
    refine J_ldc2 (v := 31) dX11_digest_43 kk_RX11_258 ?_
    refine J_lload_n 0 dX11_digest_46 rfl rfl ?_
    refine J_lmul dX11_digest_47 ?_
    refine J_aload_n 1 dX11_digest_48 rfl rfl ?_
    refine JV_Wi kV_RX11_136 0 rM_0 rfl rfl (c_M_readsDust h) rfl rfl (by decide) (Nat.le_of_ble_eq_true rfl) dX11_digest_49 (fun r7 u8 h => ?_)
    refine J_i2l dX11_digest_52 ?_
    refine J_ladd dX11_digest_53 ?_
    refine J_lstore_n (lv' := [(1, .long ((31 * ((31 * z3) + r5.toInt64)) + r7.toInt64)), (0, .ref (ad 0))]) dX11_digest_54 rfl (Nat.le_of_ble_eq_true rfl) rfl ?_
    refine J_iconst (v := 0) dX11_digest_55 ci_0 ?_
    refine J_istore_n (lv' := [(3, .int 0), (1, .long ((31 * ((31 * z3) + r5.toInt64)) + r7.toInt64)), (0, .ref (ad 0))]) dX11_digest_56 rfl (Nat.le_of_ble_eq_true rfl) rfl ?_
    obtain ⟨n51, h⟩ := h
    refine J_sub (lv' := [(0, .ref (ad 0)), (1, .long ((31 * ((31 * z3) + r5.toInt64)) + r7.toInt64)), (3, .int 0)]) [2, 1, 0] rfl (t_M_digest_l57 ?_ n51 ((31 * ((31 * z3) + r5.toInt64)) + r7.toInt64) 0 h)
    · intro z11 h
      refine J_iconst (v := 0) dX11_digest_105 ci_0 ?_
      refine J_istore_n (lv' := [(3, .int 0), (0, .ref (ad 0)), (1, .long z11)]) dX11_digest_106 rfl (Nat.le_of_ble_eq_true rfl) rfl ?_
      obtain ⟨n50, h⟩ := h
      refine J_sub (lv' := [(0, .ref (ad 0)), (1, .long z11), (3, .int 0)]) [1, 2, 0] rfl (t_M_digest_l107 ?_ n50 z11 0 h)
      · intro z13 h
        refine J_aload_n 0 dX11_digest_155 rfl rfl ?_
        refine JV_Wv kV_RX11_164 0 rM_0 rfl rfl (c_M_lives h) rfl rfl (by decide) (Nat.le_of_ble_eq_true rfl) dX11_digest_156 (fun u15 h => ?_)
        refine J_iconst (v := 0) dX11_digest_159 ci_0 ?_
        refine J_istore_n (lv' := [(3, .int 0), (0, .ref (ad 0)), (1, .long z13)]) dX11_digest_160 rfl (Nat.le_of_ble_eq_true rfl) rfl ?_
        obtain ⟨n49, h⟩ := h
        refine J_sub (lv' := [(0, .ref (ad 0)), (1, .long z13), (3, .int 0)]) [1, 2, 0] rfl (t_M_digest_l161 ?_ n49 z13 0 h)
        · intro z17 h
          refine J_ldc2 (v := 31) dX11_digest_215 kk_RX11_258 ?_
          refine J_lload_n 1 dX11_digest_218 rfl rfl ?_
          refine J_lmul dX11_digest_219 ?_
          refine J_aload_n 0 dX11_digest_220 rfl rfl ?_
          refine JV_Ri kV_RX11_167 0 rM_0 rfl rfl (c_M_judgedNow h) rfl rfl (by decide) (Nat.le_of_ble_eq_true rfl) dX11_digest_221 (fun r18 h => ?_)
          refine J_i2l dX11_digest_224 ?_
          refine J_ladd dX11_digest_225 ?_
          refine J_lstore_n (lv' := [(1, .long ((31 * z17) + r18.toInt64)), (0, .ref (ad 0))]) dX11_digest_226 rfl (Nat.le_of_ble_eq_true rfl) rfl ?_
          refine J_ldc2 (v := 31) dX11_digest_227 kk_RX11_258 ?_
          refine J_lload_n 0 dX11_digest_230 rfl rfl ?_
          refine J_lmul dX11_digest_231 ?_
          refine J_aload_n 1 dX11_digest_232 rfl rfl ?_
          refine JV_Ri kV_RX11_173 0 rM_0 rfl rfl (c_M_twoNow h) rfl rfl (by decide) (Nat.le_of_ble_eq_true rfl) dX11_digest_233 (fun r20 h => ?_)
          refine J_i2l dX11_digest_236 ?_
          refine J_ladd dX11_digest_237 ?_
          refine J_lstore_n (lv' := [(1, .long ((31 * ((31 * z17) + r18.toInt64)) + r20.toInt64)), (0, .ref (ad 0))]) dX11_digest_238 rfl (Nat.le_of_ble_eq_true rfl) rfl ?_
          refine J_ldc2 (v := 31) dX11_digest_239 kk_RX11_258 ?_
          refine J_lload_n 0 dX11_digest_242 rfl rfl ?_
          refine J_lmul dX11_digest_243 ?_
          refine J_aload_n 1 dX11_digest_244 rfl rfl ?_
          refine J_iconst (v := 3) dX11_digest_245 ci_3 ?_
          refine JV_Wi kV_RX11_272 0 rM_0 rfl rfl (c_M_second h) rfl rfl (by decide) (Nat.le_of_ble_eq_true rfl) dX11_digest_246 (fun r22 u23 h => ?_)
          refine J_i2l dX11_digest_249 ?_
          refine J_ladd dX11_digest_250 ?_
          refine J_topl (fun y24 ey24 => ?_)
          have h := h y24 ey24
          refine J_lstore_n (lv' := [(1, .long y24), (0, .ref (ad 0))]) dX11_digest_251 rfl (Nat.le_of_ble_eq_true rfl) rfl ?_
          refine J_aload_n 1 dX11_digest_252 rfl rfl ?_
          refine J_iconst (v := 2) dX11_digest_253 ci_2 ?_
          refine J_iconst (v := 1) dX11_digest_254 ci_1 ?_
          refine J_iconst (v := 2) dX11_digest_255 ci_2 ?_
          refine JV_Ri kV_RX11_184 0 rM_0 rfl rfl (c_M_touchOf h) rfl rfl (by decide) (Nat.le_of_ble_eq_true rfl) dX11_digest_256 (fun r25 h => ?_)
          refine J_istore_n (lv' := [(3, .int r25), (1, .long y24), (0, .ref (ad 0))]) dX11_digest_259 rfl (Nat.le_of_ble_eq_true rfl) rfl ?_
          refine J_iconst (v := 0) dX11_digest_260 ci_0 ?_
          refine J_istore (lv' := [(4, .int 0), (3, .int r25), (1, .long y24), (0, .ref (ad 0))]) dX11_digest_261 (Nat.le_of_ble_eq_true rfl) rfl ?_
          obtain ⟨n48, h⟩ := h
          refine J_sub (lv' := [(0, .ref (ad 0)), (1, .long y24), (3, .int r25), (4, .int 0)]) [3, 2, 1, 0] rfl (t_M_digest_l263 ?_ n48 y24 0 h)
          · intro z29 h
            refine J_ldc2 (v := 31) dX11_digest_289 kk_RX11_258 ?_
            refine J_lload_n 1 dX11_digest_292 rfl rfl ?_
            refine J_lmul dX11_digest_293 ?_
            refine J_aload_n 0 dX11_digest_294 rfl rfl ?_
            refine J_iconst (v := (-1)) dX11_digest_295 ci_m1 ?_
            refine JV_Ri kV_RX11_211 0 rM_0 rfl rfl (c_M_steadyOf h) rfl rfl (by decide) (Nat.le_of_ble_eq_true rfl) dX11_digest_296 (fun r30 h => ?_)
            refine J_i2l dX11_digest_299 ?_
            refine J_ladd dX11_digest_300 ?_
            refine J_lstore_n (lv' := [(1, .long ((31 * z29) + r30.toInt64)), (0, .ref (ad 0))]) dX11_digest_301 rfl (Nat.le_of_ble_eq_true rfl) rfl ?_
            refine J_ldc2 (v := 31) dX11_digest_302 kk_RX11_258 ?_
            refine J_lload_n 0 dX11_digest_305 rfl rfl ?_
            refine J_lmul dX11_digest_306 ?_
            refine J_aload_n 1 dX11_digest_307 rfl rfl ?_
            refine J_iconst (v := 0) dX11_digest_308 ci_0 ?_
            refine JV_Ri kV_RX11_211 0 rM_0 rfl rfl (c_M_steadyOf h) rfl rfl (by decide) (Nat.le_of_ble_eq_true rfl) dX11_digest_309 (fun r32 h => ?_)
            refine J_i2l dX11_digest_312 ?_
            refine J_ladd dX11_digest_313 ?_
            refine J_lstore_n (lv' := [(1, .long ((31 * ((31 * z29) + r30.toInt64)) + r32.toInt64)), (0, .ref (ad 0))]) dX11_digest_314 rfl (Nat.le_of_ble_eq_true rfl) rfl ?_
            refine J_iconst (v := 0) dX11_digest_315 ci_0 ?_
            refine J_istore (lv' := [(4, .int 0), (1, .long ((31 * ((31 * z29) + r30.toInt64)) + r32.toInt64)), (0, .ref (ad 0))]) dX11_digest_316 (Nat.le_of_ble_eq_true rfl) rfl ?_
            obtain ⟨n47, h⟩ := h
            refine J_sub (lv' := [(0, .ref (ad 0)), (1, .long ((31 * ((31 * z29) + r30.toInt64)) + r32.toInt64)), (4, .int 0)]) [2, 1, 0] rfl (t_M_digest_l318 ?_ n47 ((31 * ((31 * z29) + r30.toInt64)) + r32.toInt64) 0 u23 h)
            · intro z36 u37 h
              refine J_ldc2 (v := 31) dX11_digest_345 kk_RX11_258 ?_
              refine J_lload_n 1 dX11_digest_348 rfl rfl ?_
              refine J_lmul dX11_digest_349 ?_
              refine J_aload_n 0 dX11_digest_350 rfl rfl ?_
              refine J_iconst (v := 1) dX11_digest_351 ci_1 ?_
              refine JV_Ri kV_RX11_231 0 rM_0 rfl rfl (c_M_movedOf h) rfl rfl (by decide) (Nat.le_of_ble_eq_true rfl) dX11_digest_352 (fun r38 h => ?_)
              refine J_i2l dX11_digest_355 ?_
              refine J_ladd dX11_digest_356 ?_
              refine J_lstore_n (lv' := [(1, .long ((31 * z36) + r38.toInt64)), (0, .ref (ad 0))]) dX11_digest_357 rfl (Nat.le_of_ble_eq_true rfl) rfl ?_
              refine J_ldc2 (v := 31) dX11_digest_358 kk_RX11_258 ?_
              refine J_lload_n 0 dX11_digest_361 rfl rfl ?_
              refine J_lmul dX11_digest_362 ?_
              refine J_aload_n 1 dX11_digest_363 rfl rfl ?_
              refine J_bipush (v := 7) dX11_digest_364 cb_7 ?_
              refine J_bipush (v := 9) dX11_digest_366 cb_9 ?_
              refine J_iconst (v := (-1)) dX11_digest_368 ci_m1 ?_
              refine JV_Ri kV_RX11_255 0 rM_0 rfl rfl (c_M_lotOf h) rfl rfl (by decide) (Nat.le_of_ble_eq_true rfl) dX11_digest_369 (fun r40 h => ?_)
              refine J_i2l dX11_digest_372 ?_
              refine J_ladd dX11_digest_373 ?_
              refine J_lstore_n (lv' := [(1, .long ((31 * ((31 * z36) + r38.toInt64)) + r40.toInt64)), (0, .ref (ad 0))]) dX11_digest_374 rfl (Nat.le_of_ble_eq_true rfl) rfl ?_
              refine J_iconst (v := 0) dX11_digest_375 ci_0 ?_
              refine J_istore (lv' := [(4, .int 0), (1, .long ((31 * ((31 * z36) + r38.toInt64)) + r40.toInt64)), (0, .ref (ad 0))]) dX11_digest_376 (Nat.le_of_ble_eq_true rfl) rfl ?_
              obtain ⟨n46, h⟩ := h
              refine J_sub (lv' := [(0, .ref (ad 0)), (1, .long ((31 * ((31 * z36) + r38.toInt64)) + r40.toInt64)), (4, .int 0)]) [2, 1, 0] rfl (t_M_digest_l378 ?_ n46 ((31 * ((31 * z36) + r38.toInt64)) + r40.toInt64) 0 u37 h)
              · intro z44 u45 h
                refine J_lload_n 0 dX11_digest_399 rfl rfl ?_
                exact J_lret rfl dX11_digest_400 ⟨_, rfl, h⟩
end
