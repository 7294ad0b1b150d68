def u0X : Mem := (fun k => if k = 5 ∨ k = 9 then -1 else if k = 16 ∨ k = 19 ∨ k = 22 ∨ k = 25 then 1 else 0, fun _ _ => 0)
def u0M : Mem := (fun _ => 0, fun k => if k = 0 then upd (upd (upd (upd (fun _ => 0) 0 (-1)) 1 (-1)) 2 (-1)) 3 (-1) else fun _ => 0)
theorem arrV_cong {cA : ClassId} {n : Nat} {f g : Nat → Value} (h : ∀ j, j < n → f j = g j) : arrV cA n f = arrV cA n g := by
  unfold arrV
  congr 1
  apply Array.ext
  · simp
  · intro i h1 h2
    simp
    exact h i (by simpa using h1)
theorem arrClass {ty : FieldType} {args : Array Value} {s : State} (h : (Cond.arrayClass ty).before args s = true) : ∃ cA : ClassId, ArrOfT s cA ty ∧ s.vm.findClass ("[" ++ ty.toString) = some cA := by
  obtain ⟨c, k, comp, h1, h2, h3⟩ := Cond.arrayClass_spec h
  exact ⟨c, fun n z => ⟨fun k h => (by cases h), k, h2, comp, h3⟩, h1⟩
theorem arrOver {C : String} {args : Array Value} {s : State} (h : (Cond.arrayOver (.object C)).before args s = true) : ∃ cA : ClassId, ArrOfT s cA (.object C) ∧ va_RA s cA (.object C) := by
  obtain ⟨comp, c, k, h1, h2, h3, h4, h5⟩ := Cond.arrayOver_spec h
  exact ⟨c, fun n z => ⟨fun k h => (by cases h), k, h3, comp, h4⟩, k, comp, h3, h4, h1, h5⟩
theorem L_ctor {p : Program} {l : Launch} {e : Env} {s : State} {m : MethodId} {below : List Frame} {meth : Method} {c : Code} {b : Nat} {D : va_G} {tys : List (ClassId × FieldType)} {H : Heap} {locs : List Loc} {ls : Array Slot} {lv : List (Nat × Value)} {pc : Nat} {st : List Value} {y : MethodName} {c2 : ByteArray} {n2 d2 m2 s2 a i k n : Nat} {A1 : Nat → Prop} {wc : va_W} {K : va_W → Prop} {QQ : State → Prop}
    (hx : p.tables.exec = Jvm.exec) (hb : c.code = code) (hml : c.maxLocals = 4) (hown : s.vm.findClass RL = some m.cls) (hts2 : ∀ w ∈ TT, w.before #[Value.ref b] s = true) (hN : NW s) (hK : va_K D vwCl tys s) (hO : va_AO "SmallFirst$Sheet" s) (w : kI RL i y c2 n2 0) (hM : CMet l D tys A1 y c2 n2 d2 m2 s2 [.ref a] wc K) (hdd : d2 ≤ 100) (hroom : (st.map fun v => v.category).sum ≤ 8) (h1 : k + m2 ≤ 600000) (h2 : n + s2 ≤ 7302250) (hPc : va_P D vwCl wc H) (hDc : va_D A1 wc) (hA1 : ∀ q, H.size ≤ q → A1 q) (hS : va_S (fun q : Nat => s.heap.size ≤ q) s.heap H locs) (hF : ∀ q, A1 q → s.heap.size ≤ q) (hl : lv_has ls 4 lv) (hd : decode code pc = .ok (.invokespecial i, 3))
    (kk : ∀ (ws1 : va_W) (H1 : Heap) (locs1 : List Loc), K ws1 → va_S (fun q : Nat => s.heap.size ≤ q) s.heap H1 locs1 → va_P D vwCl ws1 H1 → va_D A1 ws1 → (∀ q : Nat, q < H.size → ¬ A1 q → H1[q]? = H[q]?) → W p l e room_1 s m #[Value.ref b] below meth c H1 locs1 (k + m2) (n + s2) QQ (F0 m (pc + 3) ls st)) : W p l e room_1 s m #[Value.ref b] below meth c H locs k n QQ (F0 m pc ls (.ref a :: st)) := by
  obtain ⟨w1, w2, w3, w4, w5, w6, w7⟩ := w
  have hrun := va_runI (l := l) (e := e) (below := below) (meth := meth) (H := H) (locs := locs) (cells := k) (slots := n) (g := F0 m pc ls (.ref a :: st)) (R := room_1) (As := []) (rest := st) ⟨hx, hb, hml, hown, hts2⟩ hM ⟨callB_of 0 hts2 (tt_in w1) rfl rfl rfl (hts2 _ w4) (hts2 _ w2) w5 ⟨by show d2 + 1 ≤ 2048; omega, by show 8 + (n2 + 11) + 100 * d2 ≤ 84000; omega⟩, w7, hts2 _ w3⟩ ⟨cP_blind, fun U hU hW => ⟨rfl, by rw [hU]; exact hPc, va_K.moved hW.alike hK, hDc, NW.warm hW hN, va_AO.moved hW.alike hO, by rw [hU]; exact hA1⟩⟩ rfl rfl hl.1 rfl (lv_room hroom) hd ⟨h1, h2⟩
  intro T hT Y
  obtain ⟨v, st₀, t, T', L', h0, X', hL', e1, e2, ⟨⟨ws1, hv, hq, hP1, hK1, hD1⟩, hz, hk⟩, sp⟩ := hrun T hT Y
  cases hv
  rw [h0] at hz hk
  obtain ⟨t2, a1, b1⟩ := kk ws1 T'.heap (locs ++ L') hq
    ⟨Nat.le_trans hS.1 (by rw [e1]; exact hz), fun q h1 h2 => by rw [e1, hk q (Nat.lt_of_lt_of_le h1 hS.1) (fun z => h2 (hF q z))]; exact hS.2.1 q h1 h2, fun q hq => by
      rcases List.mem_append.mp hq with h | h
      · exact hS.2.2 q h
      · exact hF _ (hL' q h)⟩ (by rw [e1]; exact hP1) hD1 (fun q h1 h2 => by rw [e1]; exact hk q h1 h2) T' rfl X'
  exact ⟨t2, sp t2 a1, b1⟩
set_option maxRecDepth 20000 in
set_option maxHeartbeats 8000000 in
theorem start_of {Rel : Mem → Mem → Prop} (hR : Steps_ok Rel) (hrel : Rel u0X u0M) {p : Program} {e : Env} {s : State} {m : MethodId} {below : List Frame} {meth : Method} {c : Code} (l : Launch) {b L : Nat} {xs : Nat → Int32} (hL : L ≤ 384) (C0 : lw_At p s m meth c b L xs) : W p l e room_1 s m #[Value.ref b] below meth c s.heap [] 0 0 (lw_Z below #[Value.ref b] s) (entryFrame m ([Value.ref b] : List Value).toArray 4) := by
  obtain ⟨hx, hb, hr, hml, hown, hts, hX, hbl, hlocks, hgv⟩ := id C0
  have hts2 : ∀ w ∈ TT, w.before #[Value.ref b] s = true := fun w h => hts w (tt_lw h)
  have hN : NW s := by
    intro w hw
    have hm : w ∈ lw_tbl := (by decide +kernel : ∀ w ∈ NWs, w ∈ lw_tbl) w hw
    exact va_Nw.of ((by decide +kernel : ∀ w ∈ NWs, w.onTables = true) w hw) (hts w hm)
  have hO : va_AO "SmallFirst$Sheet" s := va_AO.of (hts (.arrayOver (.object "SmallFirst$Sheet")) (by decide +kernel))
  obtain ⟨c0, iS0, hKn0⟩ := u_known (C := RX1) (T := TX1) (N := 5) (n := 5) hts2 iTX1 (hts2 (.instantiable RX1 5) kin_RX1)
  obtain ⟨c1, iS1, hKn1⟩ := u_known (C := RX2) (T := TX2) (N := 3) (n := 3) hts2 iTX2 (hts2 (.instantiable RX2 3) kin_RX2)
  obtain ⟨c2, iS2, hKn2⟩ := u_known (C := RX3) (T := TX3) (N := 7) (n := 7) hts2 iTX3 (hts2 (.instantiable RX3 7) kin_RX3)
  obtain ⟨c3, iS3, hKn3⟩ := u_known (C := RX6) (T := TX6) (N := 3) (n := 3) hts2 iTX6 (hts2 (.instantiable RX6 3) kin_RX6)
  obtain ⟨c4, iS4, hKn4⟩ := u_known (C := RX7) (T := TX7) (N := 4) (n := 4) hts2 iTX7 (hts2 (.instantiable RX7 4) kin_RX7)
  obtain ⟨c5, iS5, hKn5⟩ := u_known (C := RX8) (T := TX8) (N := 2) (n := 2) hts2 iTX8 (hts2 (.instantiable RX8 2) kin_RX8)
  obtain ⟨c6, iS6, hKn6⟩ := u_known (C := RX9) (T := TX9) (N := 7) (n := 7) hts2 iTX9 (hts2 (.instantiable RX9 7) kin_RX9)
  obtain ⟨c7, iS7, hKn7⟩ := u_known (C := RX10) (T := TX10) (N := 10) (n := 10) hts2 iTX10 (hts2 (.instantiable RX10 10) kin_RX10)
  obtain ⟨c8, iS8, hKn8⟩ := u_known (C := RX11) (T := TX11) (N := 23) (n := 23) hts2 iTX11 (hts2 (.instantiable RX11 23) kin_RX11)
  obtain ⟨dC, dI, hKc⟩ : ∃ (dC : Nat → ClassId) (dI : Nat → Nat → Nat), ∀ (k : Nat) (q : vw_C), vwCl[k]? = some q → u_Kn s q.1 q.2.1 q.2.2 (dC k) (dI k) := by
    refine ⟨fun k => if k = 0 then c0 else if k = 1 then c1 else if k = 2 then c2 else if k = 3 then c3 else if k = 4 then c4 else if k = 5 then c5 else if k = 6 then c6 else if k = 7 then c7 else c8, fun k => if k = 0 then iS0 else if k = 1 then iS1 else if k = 2 then iS2 else if k = 3 then iS3 else if k = 4 then iS4 else if k = 5 then iS5 else if k = 6 then iS6 else if k = 7 then iS7 else iS8, ?_⟩
    intro k q hq
    match k, hq with
    | 0, hq => cases hq; exact hKn0
    | 1, hq => cases hq; exact hKn1
    | 2, hq => cases hq; exact hKn2
    | 3, hq => cases hq; exact hKn3
    | 4, hq => cases hq; exact hKn4
    | 5, hq => cases hq; exact hKn5
    | 6, hq => cases hq; exact hKn6
    | 7, hq => cases hq; exact hKn7
    | 8, hq => cases hq; exact hKn8
    | k + 9, hq => simp [vwCl] at hq
  obtain ⟨cI, hcI, hfI⟩ := arrClass (hts2 _ kw_arrI)
  obtain ⟨cZ, hcZ, hfZ⟩ := arrClass (hts2 _ kw_arrZ)
  obtain ⟨cS, hcS, hfS⟩ := arrOver (hts (.arrayOver (.object "SmallFirst$Sheet")) (by decide +kernel))
  have hK : va_K (dC, dI) vwCl (tyL cI cZ cS) s := by
    refine ⟨hKc, fun k q h => ?_⟩
    match k, h with
    | 0, h => cases h; exact ⟨hcI, hfI⟩
    | 1, h => cases h; exact ⟨hcZ, hfZ⟩
    | 2, h => cases h; exact ⟨hcS, hfS⟩
    | k + 3, h => simp at h
  have hA : ∀ q : Nat, s.heap.size ≤ q → (fun q : Nat => s.heap.size ≤ q) q := fun _ h => h
  have hS : va_S (fun q : Nat => s.heap.size ≤ q) s.heap s.heap [] := va_S.rf
  have hP : va_P (dC, dI) vwCl [] s.heap := fun k q h => by simp at h
  have hD : va_D (fun q : Nat => s.heap.size ≤ q) [] := ⟨fun i j p q h => by simp at h, fun k q h => by simp at h⟩
  have hl := lv_entry ([.ref b]) (n := 4) (Nat.le_of_ble_eq_true rfl)
  rw [lg_entry_eq]
  generalize (lg_sl ([.ref b]) ++ List.replicate (4 - (lg_sl ([.ref b])).length) Slot.unset).toArray = ls at hl ⊢
  have hl : lv_has ls 4 [(0, .ref b)] := hl
  refine va_new (ci := 7) (fs := [.null, .null, .null, .null, .null, .null, .null, .null, .int 0, .int 0]) (C := RX10) (T := TX10) (N := 10) hx hb hts2 iTX10 tyX10 tyX10_ok hown (hts2 _ kcl_RL_7) (hts2 _ kin_RX10) (hts2 _ ki_RX10) hK hP hD hS hA rfl (by decide +kernel) (Nat.le_of_ble_eq_true rfl) (Nat.le_of_ble_eq_true rfl) dL_law_0 (fun q0 H hP hD hS => ?_)
  have hP : va_P (dC, dI) vwCl [(q0, .inr (7, [.null, .null, .null, .null, .null, .null, .null, .null, .int 0, .int 0]))] H := hP
  have hD : va_D (fun q : Nat => s.heap.size ≤ q) [(q0, .inr (7, [.null, .null, .null, .null, .null, .null, .null, .null, .int 0, .int 0]))] := hD
  refine lv_dup hx hb dL_law_3 rfl ?_
  refine L_ctor hx hb hml hown hts2 hN hK hO kI_RL_9 (C_X (A0 := fun q : Nat => s.heap.size ≤ q)) (by decide) (Nat.le_of_ble_eq_true rfl) (by decide) (by decide) hP hD (fun q hq => Nat.le_trans hS.1 hq) hS (fun q h => h) hl dL_law_4 ?_
  rintro _ H locs ⟨q1, q2, q3, q4, q5, q6, q7, q8, q9, q10, q11, q12, q13, q14, q15, q16, q17, q18, q19, q20, q21, q22, q23, q24, q25, q26, q27, q28, q29, q30, q31, q32, q33, rfl⟩ hS hP hD -
  have hP := hP.sub (ws' := [(q0, .inr (7, [.ref q1, .ref q3, .ref q5, .ref q9, .ref q12, .ref q16, .ref q22, .ref q25, .int 0, .int 0])), (q1, .inr (5, [.ref q2, .int 0])), (q3, .inr (5, [.ref q4, .int 0])), (q5, .inr (2, [.int 0, .int (-1), .ref q6, .ref q7, .ref q8, .int 0, .int 0])), (q9, .inr (0, [.int 0, .int (-1), .ref q10, .ref q11, .int 0])), (q12, .inr (1, [.ref q13, .ref q14, .ref q15])), (q16, .inr (6, [.ref q17, .ref q18, .ref q19, .ref q20, .ref q21, .int 0, .int 0])), (q22, .inr (3, [.ref q23, .ref q24, .int 0])), (q25, .inl (cS, 4, .inr (.inr (.inr (.inr (va_up (va_up (va_up (va_up (fun _ => none) 0 (some q26)) 1 (some q28)) 2 (some q30)) 3 (some q32))))))), (q26, .inr (4, [.ref q27, .int 0, .int 0, .int 1])), (q28, .inr (4, [.ref q29, .int 0, .int 0, .int 1])), (q30, .inr (4, [.ref q31, .int 0, .int 0, .int 1])), (q32, .inr (4, [.ref q33, .int 0, .int 0, .int 1])), (q2, .inl (cI, 79, .inl (fun _ => 0))), (q4, .inl (cI, 35, .inl (fun _ => 0))), (q6, .inl (cI, 16, .inl (fun _ => 0))), (q7, .inl (cZ, 16, .inl (fun _ => 0))), (q8, .inl (cI, 16, .inl (fun _ => 0))), (q10, .inl (cI, 12, .inl (fun _ => 0))), (q11, .inl (cI, 12, .inl (fun _ => 0))), (q13, .inl (cI, 256, .inl (fun _ => 0))), (q14, .inl (cI, 256, .inl (fun _ => 0))), (q15, .inl (cI, 256, .inl (fun _ => 0))), (q17, .inl (cI, 12, .inl (fun _ => 0))), (q18, .inl (cI, 12, .inl (fun _ => 0))), (q19, .inl (cZ, 12, .inl (fun _ => 0))), (q20, .inl (cI, 30, .inl (fun _ => 0))), (q21, .inl (cI, 30, .inl (fun _ => 0))), (q23, .inl (cI, 8, .inl (fun _ => 0))), (q24, .inl (cI, 8, .inl (fun _ => 0))), (q27, .inl (cI, 60, .inl (fun _ => 0))), (q29, .inl (cI, 60, .inl (fun _ => 0))), (q31, .inl (cI, 60, .inl (fun _ => 0))), (q33, .inl (cI, 60, .inl (fun _ => 0)))]) [11, 10, 9, 8, 7, 6, 5, 4, 29, 3, 2, 1, 0, 12, 13, 14, 15, 16, 17, 18, 19, 20, 21, 22, 23, 24, 25, 26, 27, 28, 30, 31, 32, 33] rfl
  have hD := hD.sub (ws' := [(q0, .inr (7, [.ref q1, .ref q3, .ref q5, .ref q9, .ref q12, .ref q16, .ref q22, .ref q25, .int 0, .int 0])), (q1, .inr (5, [.ref q2, .int 0])), (q3, .inr (5, [.ref q4, .int 0])), (q5, .inr (2, [.int 0, .int (-1), .ref q6, .ref q7, .ref q8, .int 0, .int 0])), (q9, .inr (0, [.int 0, .int (-1), .ref q10, .ref q11, .int 0])), (q12, .inr (1, [.ref q13, .ref q14, .ref q15])), (q16, .inr (6, [.ref q17, .ref q18, .ref q19, .ref q20, .ref q21, .int 0, .int 0])), (q22, .inr (3, [.ref q23, .ref q24, .int 0])), (q25, .inl (cS, 4, .inr (.inr (.inr (.inr (va_up (va_up (va_up (va_up (fun _ => none) 0 (some q26)) 1 (some q28)) 2 (some q30)) 3 (some q32))))))), (q26, .inr (4, [.ref q27, .int 0, .int 0, .int 1])), (q28, .inr (4, [.ref q29, .int 0, .int 0, .int 1])), (q30, .inr (4, [.ref q31, .int 0, .int 0, .int 1])), (q32, .inr (4, [.ref q33, .int 0, .int 0, .int 1])), (q2, .inl (cI, 79, .inl (fun _ => 0))), (q4, .inl (cI, 35, .inl (fun _ => 0))), (q6, .inl (cI, 16, .inl (fun _ => 0))), (q7, .inl (cZ, 16, .inl (fun _ => 0))), (q8, .inl (cI, 16, .inl (fun _ => 0))), (q10, .inl (cI, 12, .inl (fun _ => 0))), (q11, .inl (cI, 12, .inl (fun _ => 0))), (q13, .inl (cI, 256, .inl (fun _ => 0))), (q14, .inl (cI, 256, .inl (fun _ => 0))), (q15, .inl (cI, 256, .inl (fun _ => 0))), (q17, .inl (cI, 12, .inl (fun _ => 0))), (q18, .inl (cI, 12, .inl (fun _ => 0))), (q19, .inl (cZ, 12, .inl (fun _ => 0))), (q20, .inl (cI, 30, .inl (fun _ => 0))), (q21, .inl (cI, 30, .inl (fun _ => 0))), (q23, .inl (cI, 8, .inl (fun _ => 0))), (q24, .inl (cI, 8, .inl (fun _ => 0))), (q27, .inl (cI, 60, .inl (fun _ => 0))), (q29, .inl (cI, 60, .inl (fun _ => 0))), (q31, .inl (cI, 60, .inl (fun _ => 0))), (q33, .inl (cI, 60, .inl (fun _ => 0)))]) [11, 10, 9, 8, 7, 6, 5, 4, 29, 3, 2, 1, 0, 12, 13, 14, 15, 16, 17, 18, 19, 20, 21, 22, 23, 24, 25, 26, 27, 28, 30, 31, 32, 33] (by decide) rfl
  obtain ⟨adx, hadx⟩ : ∃ adx : Nat → Nat, adx = fun k => ([q0, q1, q3, q5, q9, q12, q16, q22, q25, q26, q28, q30, q32, q2, q4, q6, q7, q8, q10, q11, q13, q14, q15, q17, q18, q19, q20, q21, q23, q24, q27, q29, q31, q33] : List Nat).getD k 0 := ⟨_, rfl⟩
  have h8 : va_at (dC, dI) vwCl (q25, .inl (cS, 4, .inr (.inr (.inr (.inr (fun i => some (adx (9 + i)))))))) H := by
    have h9 := hP 8 _ rfl
    show H[q25]? = some (vp_cell _ _)
    have h9 : H[q25]? = some (vp_cell _ _) := h9
    rw [vp_cell_q] at h9 ⊢
    rw [h9]
    refine congrArg some (arrV_cong (fun j hj => ?_))
    subst hadx
    rcases (show j = 0 ∨ j = 1 ∨ j = 2 ∨ j = 3 by omega) with rfl | rfl | rfl | rfl <;> rfl
  have hP := va_P.set (p := 8) hP hD rfl h8 (fun _ _ => rfl)
  have hD := va_D.set (p := 8) (e := .inl (cS, 4, .inr (.inr (.inr (.inr (fun i => some (adx (9 + i)))))))) hD rfl
  have hP : va_P (dC, dI) vwCl (WX adx cI cZ cS u0X) H := by subst hadx; exact hP
  have hD : va_D (fun q : Nat => s.heap.size ≤ q) (WX adx cI cZ cS u0X) := by subst hadx; exact hD
  have hq0 : q0 = adx 0 := by subst hadx; rfl
  rw [hq0]
  refine lv_astore_n (lv' := [(1, .ref (adx 0)), (0, .ref b)]) hx hb dL_law_7 rfl hl (by decide) rfl (fun ls hl => ?_)
  refine va_new (ci := 8) (fs := [.null, .null, .null, .null, .int 0, .null, .null, .int 0, .int 0, .null, .int 0, .null, .null, .null, .int 0, .int 0, .null, .null, .null, .null, .null, .int 0, .null]) (C := RX11) (T := TX11) (N := 23) hx hb hts2 iTX11 tyX11 tyX11_ok hown (hts2 _ kcl_RL_10) (hts2 _ kin_RX11) (hts2 _ ki_RX11) hK hP hD hS hA rfl (by decide +kernel) (by decide) (by decide) dL_law_8 (fun m0 H hP hD hS => ?_)
  refine lv_dup hx hb dL_law_11 rfl ?_
  have hPc := hP.sub (ws' := [(m0, .inr (8, [.null, .null, .null, .null, .int 0, .null, .null, .int 0, .int 0, .null, .int 0, .null, .null, .null, .int 0, .int 0, .null, .null, .null, .null, .null, .int 0, .null]))]) [34] rfl
  have hDc := hD.sub (ws' := [(m0, .inr (8, [.null, .null, .null, .null, .int 0, .null, .null, .int 0, .int 0, .null, .int 0, .null, .null, .null, .int 0, .int 0, .null, .null, .null, .null, .null, .int 0, .null]))]) [34] (by decide) rfl
  have hFc := va_free (wc := [(m0, .inr (8, [.null, .null, .null, .null, .int 0, .null, .null, .int 0, .int 0, .null, .int 0, .null, .null, .null, .int 0, .int 0, .null, .null, .null, .null, .null, .int 0, .null]))]) hD hS hA [34] rfl
  refine L_ctor hx hb hml hown hts2 hN hK hO kI_RL_12 (C_M (A0 := va_A [(m0, .inr (8, [.null, .null, .null, .null, .int 0, .null, .null, .int 0, .int 0, .null, .int 0, .null, .null, .null, .int 0, .int 0, .null, .null, .null, .null, .null, .int 0, .null]))] H.size)) (by decide) (Nat.le_of_ble_eq_true rfl) (by decide) (by decide) hPc hDc.self (fun q hq => Or.inr hq) hS hFc hl dL_law_12 ?_
  rintro _ H1 locs ⟨m1, m2, m3, m4, m5, m6, m7, m8, m9, m10, m11, m12, m13, m14, m15, m16, rfl⟩ hS hP1 hD1 hk1
  obtain ⟨hP, hD⟩ := va_join (wr := WX adx cI cZ cS u0X) hP hD [34] [0, 1, 2, 3, 4, 5, 6, 7, 8, 9, 10, 11, 12, 13, 14, 15, 16, 17, 18, 19, 20, 21, 22, 23, 24, 25, 26, 27, 28, 29, 30, 31, 32, 33] rfl rfl (by decide) (by decide) hk1 hFc hP1 hD1
  obtain ⟨adm, hadm⟩ : ∃ adm : Nat → Nat, adm = fun k => ([m0, m1, m2, m3, m4, m5, m6, m7, m8, m9, m10, m11, m12, m13, m14, m15, m16] : List Nat).getD k 0 := ⟨_, rfl⟩
  have hP : va_P (dC, dI) vwCl (WX adx cI cZ cS u0X ++ WM adm cI cZ u0M) H1 := by subst hadm; exact hP
  have hD : va_D (fun q : Nat => s.heap.size ≤ q) (WX adx cI cZ cS u0X ++ WM adm cI cZ u0M) := by subst hadm; exact hD
  have hm0 : m0 = adm 0 := by subst hadm; rfl
  rw [hm0]
  refine W.widen (k := 600000) (n := 7302250) (by decide) (by decide) ?_
  refine lv_astore_n (lv' := [(2, .ref (adm 0)), (1, .ref (adx 0)), (0, .ref b)]) hx hb dL_law_15 rfl hl (by decide) rfl (fun ls hl => ?_)
  refine lv_iconst (v := 0) hx hb dL_law_16 (by decide) ?_
  refine lv_istore_n (lv' := [(3, .int 0), (2, .ref (adm 0)), (1, .ref (adx 0)), (0, .ref b)]) hx hb dL_law_17 rfl hl (by decide) rfl (fun ls hl => ?_)
  exact law_loop ⟨C0, hN, hK, hL⟩ hR (L + 1) 0 u0X u0M (Nat.zero_le _) (by omega) hrel H1 _ ls hS hP hD (lv_sub hl [3, 2, 1, 0] rfl)
