abbrev lvI (b : Nat) (adx adm : Nat → Nat) (i : Nat) : List (Nat × Value) := [(0, .ref b), (1, .ref (adx 0)), (2, .ref (adm 0)), (3, .int (nI i))]
/-- what stays over the whole law -/
def LC (p : Program) (s : State) (m : MethodId) (meth : Method) (c : Code) (b L : Nat) (xs : Nat → Int32) (D : va_G) (cI cZ cS : ClassId) : Prop := lw_At p s m meth c b L xs ∧ NW s ∧ va_K D vwCl (tyL cI cZ cS) s ∧ L ≤ 384
def LJ (p : Program) (l : Launch) (e : Env) (s : State) (m : MethodId) (below : List Frame) (meth : Method) (c : Code) (b : Nat) (D : va_G) (cI cZ cS : ClassId) (adx adm : Nat → Nat) (pc : Nat) (lv : List (Nat × Value)) (st : List Value) (ux um : Mem) : Prop :=
  ∀ (H : Heap) (locs : List Loc) (ls : Array Slot), va_S (fun q : Nat => s.heap.size ≤ q) s.heap H locs → va_P D vwCl (WX adx cI cZ cS ux ++ WM adm cI cZ um) H → va_D (fun q : Nat => s.heap.size ≤ q) (WX adx cI cZ cS ux ++ WM adm cI cZ um) → lv_has ls 4 lv →
    W p l e room_1 s m #[Value.ref b] below meth c H locs 600000 7302250 (lw_Z below #[Value.ref b] s) (F0 m pc ls st)
theorem va_Psw {D : va_G} {cl : List vw_C} {a b : va_W} {H : Heap} (h : va_P D cl (a ++ b) H) : va_P D cl (b ++ a) H := by
  intro k q hk
  rcases List.mem_append.mp (List.mem_of_getElem? hk) with h1 | h1
  · obtain ⟨i, hi⟩ := List.getElem?_of_mem (List.mem_append_right a h1)
    exact h i q hi
  · obtain ⟨i, hi⟩ := List.getElem?_of_mem (List.mem_append_left b h1)
    exact h i q hi
theorem va_Dsw {A : Nat → Prop} {a b : va_W} (h : va_D A (a ++ b)) : va_D A (b ++ a) := by
  have ha : va_D A a := ⟨fun i j p q h1 h2 h3 => h.1 i j p q (by rw [List.getElem?_append_left (List.getElem?_eq_some_iff.mp h1).1]; exact h1) (by rw [List.getElem?_append_left (List.getElem?_eq_some_iff.mp h2).1]; exact h2) h3, fun k q hk => h.2 k q (by rw [List.getElem?_append_left (List.getElem?_eq_some_iff.mp hk).1]; exact hk)⟩
  have hb : va_D A b := ⟨fun i j p q h1 h2 h3 => by
      have := h.1 (a.length + i) (a.length + j) p q (by rw [List.getElem?_append_right (by omega), Nat.add_sub_cancel_left]; exact h1) (by rw [List.getElem?_append_right (by omega), Nat.add_sub_cancel_left]; exact h2) h3
      omega, fun k q hk => h.2 (a.length + k) q (by rw [List.getElem?_append_right (by omega), Nat.add_sub_cancel_left]; exact hk)⟩
  refine va_D.app hb ha (fun i j p q h1 h2 h3 => ?_)
  have hj := (List.getElem?_eq_some_iff.mp h2).1
  have := h.1 (a.length + i) j p q (by rw [List.getElem?_append_right (by omega), Nat.add_sub_cancel_left]; exact h1) (by rw [List.getElem?_append_left hj]; exact h2) h3
  omega
section LROWS
variable {p : Program} {l : Launch} {e : Env} {s : State} {m : MethodId} {below : List Frame} {meth : Method} {c : Code} {b L : Nat} {xs : Nat → Int32} {D : va_G} {cI cZ cS : ClassId} {adx adm : Nat → Nat} {pc : Nat} {lv : List (Nat × Value)} {st : List Value} {ux um : Mem}
theorem L_iload (C0 : LC p s m meth c b L xs D cI cZ cS) {k0 : Fin 4} {i : Nat} {x : Int32} (j : Nat) (hd : decode code pc = .ok (.iload_n k0, 1)) (hi : (k0 : Nat) = i) (hj : lv[j]? = some (i, .int x)) (k : LJ p l e s m below meth c b D cI cZ cS adx adm (pc + 1) lv (.int x :: st) ux um) : LJ p l e s m below meth c b D cI cZ cS adx adm pc lv (st) ux um := by
  intro H locs ls hS hP hD hl
  obtain ⟨⟨hx, hb, hr, hml, hown, hts, hX, hbl, hlocks, hgv⟩, hN, hK, hL⟩ := C0
  have hbA : ¬ (fun q : Nat => s.heap.size ≤ q) b := Nat.not_le.mpr hbl
  exact lv_iload_n hx hb hd hi (lv_at hl j hj) (k H locs ls hS hP hD hl)
theorem L_aload (C0 : LC p s m meth c b L xs D cI cZ cS) {k0 : Fin 4} {i : Nat} {x : Nat} (j : Nat) (hd : decode code pc = .ok (.aload_n k0, 1)) (hi : (k0 : Nat) = i) (hj : lv[j]? = some (i, .ref x)) (k : LJ p l e s m below meth c b D cI cZ cS adx adm (pc + 1) lv (.ref x :: st) ux um) : LJ p l e s m below meth c b D cI cZ cS adx adm pc lv (st) ux um := by
  intro H locs ls hS hP hD hl
  obtain ⟨⟨hx, hb, hr, hml, hown, hts, hX, hbl, hlocks, hgv⟩, hN, hK, hL⟩ := C0
  have hbA : ¬ (fun q : Nat => s.heap.size ≤ q) b := Nat.not_le.mpr hbl
  exact lv_aload_n hx hb hd hi (lv_at hl j hj) (k H locs ls hS hP hD hl)
theorem L_iconst (C0 : LC p s m meth c b L xs D cI cZ cS) {n : Int} {v : Int32} (hd : decode code pc = .ok (.iconst n, 1)) (hv : Int32.ofInt n = v) (k : LJ p l e s m below meth c b D cI cZ cS adx adm (pc + 1) lv (.int v :: st) ux um) : LJ p l e s m below meth c b D cI cZ cS adx adm pc lv (st) ux um := by
  intro H locs ls hS hP hD hl
  obtain ⟨⟨hx, hb, hr, hml, hown, hts, hX, hbl, hlocks, hgv⟩, hN, hK, hL⟩ := C0
  have hbA : ¬ (fun q : Nat => s.heap.size ≤ q) b := Nat.not_le.mpr hbl
  exact lv_iconst hx hb hd hv (k H locs ls hS hP hD hl)
theorem L_bipush (C0 : LC p s m meth c b L xs D cI cZ cS) {n : Int} {v : Int32} (hd : decode code pc = .ok (.bipush n, 2)) (hv : (Int8.ofInt n).toInt32 = v) (k : LJ p l e s m below meth c b D cI cZ cS adx adm (pc + 2) lv (.int v :: st) ux um) : LJ p l e s m below meth c b D cI cZ cS adx adm pc lv (st) ux um := by
  intro H locs ls hS hP hD hl
  obtain ⟨⟨hx, hb, hr, hml, hown, hts, hX, hbl, hlocks, hgv⟩, hN, hK, hL⟩ := C0
  have hbA : ¬ (fun q : Nat => s.heap.size ≤ q) b := Nat.not_le.mpr hbl
  exact lv_bipush hx hb hd hv (k H locs ls hS hP hD hl)
theorem L_iadd (C0 : LC p s m meth c b L xs D cI cZ cS) {x y v : Int32} (hd : decode code pc = .ok (.iadd, 1)) (hv : x + y = v) (k : LJ p l e s m below meth c b D cI cZ cS adx adm (pc + 1) lv (.int v :: st) ux um) : LJ p l e s m below meth c b D cI cZ cS adx adm pc lv (.int y :: .int x :: st) ux um := by
  intro H locs ls hS hP hD hl
  obtain ⟨⟨hx, hb, hr, hml, hown, hts, hX, hbl, hlocks, hgv⟩, hN, hK, hL⟩ := C0
  have hbA : ¬ (fun q : Nat => s.heap.size ≤ q) b := Nat.not_le.mpr hbl
  subst hv
  exact lv_iadd hx hb hd (k H locs ls hS hP hD hl)
theorem L_isub (C0 : LC p s m meth c b L xs D cI cZ cS) {x y : Int32} (hd : decode code pc = .ok (.isub, 1)) (k : LJ p l e s m below meth c b D cI cZ cS adx adm (pc + 1) lv (.int (x - y) :: st) ux um) : LJ p l e s m below meth c b D cI cZ cS adx adm pc lv (.int y :: .int x :: st) ux um := by
  intro H locs ls hS hP hD hl
  obtain ⟨⟨hx, hb, hr, hml, hown, hts, hX, hbl, hlocks, hgv⟩, hN, hK, hL⟩ := C0
  have hbA : ¬ (fun q : Nat => s.heap.size ≤ q) b := Nat.not_le.mpr hbl
  exact lv_isub hx hb hd (k H locs ls hS hP hD hl)
theorem L_iand (C0 : LC p s m meth c b L xs D cI cZ cS) {x y : Int32} (hd : decode code pc = .ok (.iand, 1)) (k : LJ p l e s m below meth c b D cI cZ cS adx adm (pc + 1) lv (.int (x &&& y) :: st) ux um) : LJ p l e s m below meth c b D cI cZ cS adx adm pc lv (.int y :: .int x :: st) ux um := by
  intro H locs ls hS hP hD hl
  obtain ⟨⟨hx, hb, hr, hml, hown, hts, hX, hbl, hlocks, hgv⟩, hN, hK, hL⟩ := C0
  have hbA : ¬ (fun q : Nat => s.heap.size ≤ q) b := Nat.not_le.mpr hbl
  exact lv_iand hx hb hd (k H locs ls hS hP hD hl)
theorem L_lcmp (C0 : LC p s m meth c b L xs D cI cZ cS) {x y : Int64} (hd : decode code pc = .ok (.lcmp, 1)) (k : LJ p l e s m below meth c b D cI cZ cS adx adm (pc + 1) lv (.int (lg_cmp x y) :: st) ux um) : LJ p l e s m below meth c b D cI cZ cS adx adm pc lv (.long y :: .long x :: st) ux um := by
  intro H locs ls hS hP hD hl
  obtain ⟨⟨hx, hb, hr, hml, hown, hts, hX, hbl, hlocks, hgv⟩, hN, hK, hL⟩ := C0
  have hbA : ¬ (fun q : Nat => s.heap.size ≤ q) b := Nat.not_le.mpr hbl
  exact W.lcmp hx hb hd (k H locs ls hS hP hD hl)
theorem L_slen (C0 : LC p s m meth c b L xs D cI cZ cS) (hd : decode code pc = .ok (.arraylength, 1)) (k : LJ p l e s m below meth c b D cI cZ cS adx adm (pc + 1) lv (.int (nI L) :: st) ux um) : LJ p l e s m below meth c b D cI cZ cS adx adm pc lv (.ref b :: st) ux um := by
  intro H locs ls hS hP hD hl
  obtain ⟨⟨hx, hb, hr, hml, hown, hts, hX, hbl, hlocks, hgv⟩, hN, hK, hL⟩ := C0
  have hbA : ¬ (fun q : Nat => s.heap.size ≤ q) b := Nat.not_le.mpr hbl
  exact va_slen hx hb hX hbl hbA hS hd (k H locs ls hS hP hD hl)
theorem L_sald (C0 : LC p s m meth c b L xs D cI cZ cS) {j : Nat} (hj : j < L) (hd : decode code pc = .ok (.iaload, 1)) (k : LJ p l e s m below meth c b D cI cZ cS adx adm (pc + 1) lv (.int (xs j) :: st) ux um) : LJ p l e s m below meth c b D cI cZ cS adx adm pc lv (.int (nI j) :: .ref b :: st) ux um := by
  intro H locs ls hS hP hD hl
  obtain ⟨⟨hx, hb, hr, hml, hown, hts, hX, hbl, hlocks, hgv⟩, hN, hK, hL⟩ := C0
  have hbA : ¬ (fun q : Nat => s.heap.size ≤ q) b := Nat.not_le.mpr hbl
  refine va_sld hx hb hX hbl hbA hS (vp_in_nI hj (by omega)) hd ?_
  rw [nI_clamp (by omega)]
  exact k H locs ls hS hP hD hl
theorem L_arg (C0 : LC p s m meth c b L xs D cI cZ cS) {i j : Nat} {z : Int} (hj : i + j < L) (d0 : decode code pc = .ok (.aload_n 0, 1)) (d1 : decode code (pc + 1) = .ok (.iload_n 3, 1)) (d2 : decode code (pc + 2) = .ok (.iconst z, 1)) (d3 : decode code (pc + 3) = .ok (.iadd, 1)) (d4 : decode code (pc + 4) = .ok (.iaload, 1)) (hz : Int32.ofInt z = nI j) (k : LJ p l e s m below meth c b D cI cZ cS adx adm (pc + 5) (lvI b adx adm i) (.int (xs (i + j)) :: st) ux um) : LJ p l e s m below meth c b D cI cZ cS adx adm pc (lvI b adx adm i) (st) ux um :=
  L_aload C0 0 d0 rfl rfl (L_iload C0 3 d1 rfl rfl (L_iconst C0 d2 hz (L_iadd C0 (v := nI (i + j)) d3 (nI_add i j) (L_sald C0 hj d4 k))))
theorem L_goto (C0 : LC p s m meth c b L xs D cI cZ cS) {off : Int} {tgt : Nat} (hd : decode code pc = .ok (.goto off, 3)) (ht : (pc : Int) + off = (tgt : Int)) (k : LJ p l e s m below meth c b D cI cZ cS adx adm tgt lv (st) ux um) : LJ p l e s m below meth c b D cI cZ cS adx adm pc lv (st) ux um := by
  intro H locs ls hS hP hD hl
  obtain ⟨⟨hx, hb, hr, hml, hown, hts, hX, hbl, hlocks, hgv⟩, hN, hK, hL⟩ := C0
  have hbA : ¬ (fun q : Nat => s.heap.size ≤ q) b := Nat.not_le.mpr hbl
  exact lv_goto hx hb hd ht (k H locs ls hS hP hD hl)
theorem L_gt (C0 : LC p s m meth c b L xs D cI cZ cS) {x y : Int32} {off : Int} {tgt : Nat} (hd : decode code pc = .ok (.if_icmp .gt off, 3)) (ht : (pc : Int) + off = (tgt : Int)) (kt : y < x → LJ p l e s m below meth c b D cI cZ cS adx adm tgt lv (st) ux um) (kf : ¬ y < x → LJ p l e s m below meth c b D cI cZ cS adx adm (pc + 3) lv (st) ux um) : LJ p l e s m below meth c b D cI cZ cS adx adm pc lv (.int y :: .int x :: st) ux um := by
  intro H locs ls hS hP hD hl
  obtain ⟨⟨hx, hb, hr, hml, hown, hts, hX, hbl, hlocks, hgv⟩, hN, hK, hL⟩ := C0
  have hbA : ¬ (fun q : Nat => s.heap.size ≤ q) b := Nat.not_le.mpr hbl
  exact lv_icmp_gt hx hb hd ht (fun h => kt h H locs ls hS hP hD hl) (fun h => kf h H locs ls hS hP hD hl)
theorem L_eq (C0 : LC p s m meth c b L xs D cI cZ cS) {x y : Int32} {off : Int} {tgt : Nat} (hd : decode code pc = .ok (.if_icmp .eq off, 3)) (ht : (pc : Int) + off = (tgt : Int)) (he : x = y) (k : LJ p l e s m below meth c b D cI cZ cS adx adm tgt lv (st) ux um) : LJ p l e s m below meth c b D cI cZ cS adx adm pc lv (.int y :: .int x :: st) ux um := by
  intro H locs ls hS hP hD hl
  obtain ⟨⟨hx, hb, hr, hml, hown, hts, hX, hbl, hlocks, hgv⟩, hN, hK, hL⟩ := C0
  have hbA : ¬ (fun q : Nat => s.heap.size ≤ q) b := Nat.not_le.mpr hbl
  exact lv_icmp_eq hx hb hd ht (fun _ => k H locs ls hS hP hD hl) (fun h => absurd he h)
theorem L_eq0 (C0 : LC p s m meth c b L xs D cI cZ cS) {x : Int32} {off : Int} {tgt : Nat} (hd : decode code pc = .ok (.ifCond .eq off, 3)) (ht : (pc : Int) + off = (tgt : Int)) (he : x = 0) (k : LJ p l e s m below meth c b D cI cZ cS adx adm tgt lv (st) ux um) : LJ p l e s m below meth c b D cI cZ cS adx adm pc lv (.int x :: st) ux um := by
  intro H locs ls hS hP hD hl
  obtain ⟨⟨hx, hb, hr, hml, hown, hts, hX, hbl, hlocks, hgv⟩, hN, hK, hL⟩ := C0
  have hbA : ¬ (fun q : Nat => s.heap.size ≤ q) b := Nat.not_le.mpr hbl
  exact lv_if_eq hx hb hd ht (fun _ => k H locs ls hS hP hD hl) (fun h => absurd he h)
theorem L_tin (C0 : LC p s m meth c b L xs D cI cZ cS) {dflt lo hi : Int} {offs : Array Int} {len : Nat} {x : Int32} {off : Int} {tgt : Nat} (hd : decode code pc = .ok (.tableswitch dflt lo hi offs, len)) (h1 : ¬ x.toInt < lo) (h2 : ¬ hi < x.toInt) (ho : offs[(x.toInt - lo).toNat]? = some off) (ht : (pc : Int) + off = (tgt : Int)) (k : LJ p l e s m below meth c b D cI cZ cS adx adm tgt lv (st) ux um) : LJ p l e s m below meth c b D cI cZ cS adx adm pc lv (.int x :: st) ux um := by
  intro H locs ls hS hP hD hl
  obtain ⟨⟨hx, hb, hr, hml, hown, hts, hX, hbl, hlocks, hgv⟩, hN, hK, hL⟩ := C0
  have hbA : ¬ (fun q : Nat => s.heap.size ≤ q) b := Nat.not_le.mpr hbl
  exact lv_tableIn hx hb hd h1 h2 ho ht (k H locs ls hS hP hD hl)
theorem L_tout (C0 : LC p s m meth c b L xs D cI cZ cS) {dflt lo hi : Int} {offs : Array Int} {len : Nat} {x : Int32} {tgt : Nat} (hd : decode code pc = .ok (.tableswitch dflt lo hi offs, len)) (h1 : x.toInt < lo ∨ hi < x.toInt) (ht : (pc : Int) + dflt = (tgt : Int)) (k : LJ p l e s m below meth c b D cI cZ cS adx adm tgt lv (st) ux um) : LJ p l e s m below meth c b D cI cZ cS adx adm pc lv (.int x :: st) ux um := by
  intro H locs ls hS hP hD hl
  obtain ⟨⟨hx, hb, hr, hml, hown, hts, hX, hbl, hlocks, hgv⟩, hN, hK, hL⟩ := C0
  have hbA : ¬ (fun q : Nat => s.heap.size ≤ q) b := Nat.not_le.mpr hbl
  exact lv_tableOut hx hb hd h1 ht (k H locs ls hS hP hD hl)
theorem L_inc (C0 : LC p s m meth c b L xs D cI cZ cS) {i : Nat} (hd : decode code pc = .ok (.iinc 3 6, 3)) (k : LJ p l e s m below meth c b D cI cZ cS adx adm (pc + 3) (lvI b adx adm (i + 6)) ([]) ux um) : LJ p l e s m below meth c b D cI cZ cS adx adm pc (lvI b adx adm i) ([]) ux um := by
  intro H locs ls hS hP hD hl
  obtain ⟨⟨hx, hb, hr, hml, hown, hts, hX, hbl, hlocks, hgv⟩, hN, hK, hL⟩ := C0
  have hbA : ¬ (fun q : Nat => s.heap.size ≤ q) b := Nat.not_le.mpr hbl
  refine lv_iinc (v := nI (i + 6)) (lv' := [(3, .int (nI (i + 6))), (0, .ref b), (1, .ref (adx 0)), (2, .ref (adm 0))]) hx hb hd hl (k := 3) rfl (nI_add i 6) (by decide) rfl (fun ls2 hl2 => ?_)
  exact k H locs ls2 hS hP hD (lv_sub hl2 [1, 2, 3, 0] rfl)
theorem L_end (C0 : LC p s m meth c b L xs D cI cZ cS) (h0 : decode code pc = .ok (.iconst 1, 1)) (h1 : decode code (pc + 1) = .ok (.ireturn, 1)) : LJ p l e s m below meth c b D cI cZ cS adx adm pc lv ([]) ux um := by
  intro H locs ls hS hP hD hl
  obtain ⟨⟨hx, hb, hr, hml, hown, hts, hX, hbl, hlocks, hgv⟩, hN, hK, hL⟩ := C0
  have hbA : ¬ (fun q : Nat => s.heap.size ≤ q) b := Nat.not_le.mpr hbl
  refine lv_iconst (v := 1) hx hb h0 (by decide) ?_
  refine va_forget (fun q hq => hS.2.2 q hq) ?_
  exact lw_ret hx hb hr hlocks h1
theorem L_runX (C0 : LC p s m meth c b L xs D cI cZ cS) {y : MethodName} {c2 : ByteArray} {n2 n i d2 : Nat} {r2 : Option FieldType} {As st0 : List Value} {K : Option Value → Mem → Prop} (w : kV RL i RX10 y c2 n2 r2 n) (hM : JMet l D (tyL cI cZ cS) (wX adx cI cZ cS (WM adm cI cZ um)) (fun q : Nat => s.heap.size ≤ q) y c2 n2 r2 d2 (.ref (adx 0) :: As) ux K) (hn : As.length = n) (hst : st0 = As.reverse ++ .ref (adx 0) :: st) (hdd : d2 ≤ 100) (hroom : (st.map fun v => v.category).sum ≤ 8) (hd : decode code pc = .ok (.invokevirtual i, 3))
    (kk : ∀ (v : Option Value) (u1 : Mem) (ls : Array Slot) (H1 : Heap) (locs1 : List Loc), K v u1 → lv_has ls 4 lv → va_S (fun q : Nat => s.heap.size ≤ q) s.heap H1 locs1 → va_P D vwCl ((wX adx cI cZ cS (WM adm cI cZ um)) u1) H1 → va_D (fun q : Nat => s.heap.size ≤ q) ((wX adx cI cZ cS (WM adm cI cZ um)) u1) → W p l e room_1 s m #[Value.ref b] below meth c H1 locs1 600000 7302250 (lw_Z below #[Value.ref b] s) (F0 m (pc + 3) ls (v.toList ++ st))) : LJ p l e s m below meth c b D cI cZ cS adx adm pc lv (st0) ux um := by
  intro H locs ls hS hP hD hl
  obtain ⟨⟨hx, hb, hr, hml, hown, hts, hX, hbl, hlocks, hgv⟩, hN, hK, hL⟩ := C0
  have hbA : ¬ (fun q : Nat => s.heap.size ≤ q) b := Nat.not_le.mpr hbl
  have hts2 : ∀ w ∈ TT, w.before #[Value.ref b] s = true := fun w h => hts w (tt_lw h)
  obtain ⟨w1, w2, w3, w4, w5, w6, w7⟩ := w
  have hP : va_P D vwCl ((wX adx cI cZ cS (WM adm cI cZ um)) ux) H := hP
  have hD : va_D (fun q : Nat => s.heap.size ≤ q) ((wX adx cI cZ cS (WM adm cI cZ um)) ux) := hD
  have hrun := va_runV (l := l) (e := e) (below := below) (meth := meth) (locs := locs) (cells := 600000) (slots := 7302250) (g := F0 m pc ls st0) (R := room_1) (As := As) (rest := st) (C := RX10) ⟨hx, hb, hml, hown, hts2⟩ hM ⟨callB_of n hts2 (tt_in w1) rfl rfl rfl (hts2 _ w5) (hts2 _ w2) w6 ⟨by show d2 + 1 ≤ 2048; omega, by show 8 + (n2 + 11) + 100 * d2 ≤ 84000; omega⟩, hts2 _ w3, hts2 _ w4⟩ ⟨jP_blind, va_recv (ci := 7) (q0 := 0) hK hP rfl rX_0, fun U hU hW => ⟨rfl, by rw [hU]; exact hP, va_K.moved hW.alike hK, hD, NW.warm hW hN⟩⟩ rfl hn hl.1 hst (lv_room hroom) hd ⟨Nat.le_refl _, Nat.le_refl _⟩
  intro T hT Y
  obtain ⟨v, st₀, t, T', L', h0, X', hL', e1, e2, ⟨⟨v', u1, hv, hq, hP1, hK1, hD1⟩, hz, hk⟩, sp⟩ := hrun T hT Y
  cases hv
  rw [h0] at hz hk
  obtain ⟨t2, a1, b1⟩ := kk v u1 ls T'.heap (locs ++ L') hq hl
    ⟨Nat.le_trans hS.1 (by rw [e1]; exact hz), fun q h1 h2 => by rw [e1, hk q (Nat.lt_of_lt_of_le h1 hS.1) (fun z => h2 z)]; exact hS.2.1 q h1 h2, fun q hq => by
      rcases List.mem_append.mp hq with h | h
      · exact hS.2.2 q h
      · exact hL' q h⟩ (by rw [e1]; exact hP1) hD1 T' rfl X'
  exact ⟨t2, sp t2 a1, b1⟩
theorem L_X_Ri (C0 : LC p s m meth c b L xs D cI cZ cS) {y : MethodName} {c2 : ByteArray} {n2 n i d2 : Nat} {r2 : Option FieldType} {As st0 : List Value} {K : Int32 → Prop} (w : kV RL i RX10 y c2 n2 r2 n) (hM : JMet l D (tyL cI cZ cS) (wX adx cI cZ cS (WM adm cI cZ um)) (fun q : Nat => s.heap.size ≤ q) y c2 n2 r2 d2 (.ref (adx 0) :: As) ux (jRi ux K)) (hn : As.length = n) (hst : st0 = As.reverse ++ .ref (adx 0) :: st) (hdd : d2 ≤ 100) (hroom : (st.map fun v => v.category).sum ≤ 8) (hd : decode code pc = .ok (.invokevirtual i, 3)) (k : ∀ r, K r → LJ p l e s m below meth c b D cI cZ cS adx adm (pc + 3) lv (.int r :: st) ux um) : LJ p l e s m below meth c b D cI cZ cS adx adm pc lv (st0) ux um := by
  refine L_runX C0 w hM hn hst hdd hroom hd ?_
  rintro _ _ ls H1 locs1 ⟨rfl, r, rfl, h⟩ hl hS1 hP1 hD1
  exact k r h H1 locs1 ls hS1 hP1 hD1 hl
theorem L_X_Wi (C0 : LC p s m meth c b L xs D cI cZ cS) {y : MethodName} {c2 : ByteArray} {n2 n i d2 : Nat} {r2 : Option FieldType} {As st0 : List Value} {K : Int32 → Mem → Prop} (w : kV RL i RX10 y c2 n2 r2 n) (hM : JMet l D (tyL cI cZ cS) (wX adx cI cZ cS (WM adm cI cZ um)) (fun q : Nat => s.heap.size ≤ q) y c2 n2 r2 d2 (.ref (adx 0) :: As) ux (jWi K)) (hn : As.length = n) (hst : st0 = As.reverse ++ .ref (adx 0) :: st) (hdd : d2 ≤ 100) (hroom : (st.map fun v => v.category).sum ≤ 8) (hd : decode code pc = .ok (.invokevirtual i, 3)) (k : ∀ r v, K r v → LJ p l e s m below meth c b D cI cZ cS adx adm (pc + 3) lv (.int r :: st) v um) : LJ p l e s m below meth c b D cI cZ cS adx adm pc lv (st0) ux um := by
  refine L_runX C0 w hM hn hst hdd hroom hd ?_
  rintro _ v ls H1 locs1 ⟨r, rfl, h⟩ hl hS1 hP1 hD1
  exact k r v h H1 locs1 ls hS1 hP1 hD1 hl
theorem L_X_Rl (C0 : LC p s m meth c b L xs D cI cZ cS) {y : MethodName} {c2 : ByteArray} {n2 n i d2 : Nat} {r2 : Option FieldType} {As st0 : List Value} {K : Int64 → Prop} (w : kV RL i RX10 y c2 n2 r2 n) (hM : JMet l D (tyL cI cZ cS) (wX adx cI cZ cS (WM adm cI cZ um)) (fun q : Nat => s.heap.size ≤ q) y c2 n2 r2 d2 (.ref (adx 0) :: As) ux (jRl ux K)) (hn : As.length = n) (hst : st0 = As.reverse ++ .ref (adx 0) :: st) (hdd : d2 ≤ 100) (hroom : (st.map fun v => v.category).sum ≤ 8) (hd : decode code pc = .ok (.invokevirtual i, 3)) (k : ∀ r, K r → LJ p l e s m below meth c b D cI cZ cS adx adm (pc + 3) lv (.long r :: st) ux um) : LJ p l e s m below meth c b D cI cZ cS adx adm pc lv (st0) ux um := by
  refine L_runX C0 w hM hn hst hdd hroom hd ?_
  rintro _ _ ls H1 locs1 ⟨rfl, r, rfl, h⟩ hl hS1 hP1 hD1
  exact k r h H1 locs1 ls hS1 hP1 hD1 hl
theorem L_X_Wl (C0 : LC p s m meth c b L xs D cI cZ cS) {y : MethodName} {c2 : ByteArray} {n2 n i d2 : Nat} {r2 : Option FieldType} {As st0 : List Value} {K : Int64 → Mem → Prop} (w : kV RL i RX10 y c2 n2 r2 n) (hM : JMet l D (tyL cI cZ cS) (wX adx cI cZ cS (WM adm cI cZ um)) (fun q : Nat => s.heap.size ≤ q) y c2 n2 r2 d2 (.ref (adx 0) :: As) ux (jWl K)) (hn : As.length = n) (hst : st0 = As.reverse ++ .ref (adx 0) :: st) (hdd : d2 ≤ 100) (hroom : (st.map fun v => v.category).sum ≤ 8) (hd : decode code pc = .ok (.invokevirtual i, 3)) (k : ∀ r v, K r v → LJ p l e s m below meth c b D cI cZ cS adx adm (pc + 3) lv (.long r :: st) v um) : LJ p l e s m below meth c b D cI cZ cS adx adm pc lv (st0) ux um := by
  refine L_runX C0 w hM hn hst hdd hroom hd ?_
  rintro _ v ls H1 locs1 ⟨r, rfl, h⟩ hl hS1 hP1 hD1
  exact k r v h H1 locs1 ls hS1 hP1 hD1 hl
theorem L_runM (C0 : LC p s m meth c b L xs D cI cZ cS) {y : MethodName} {c2 : ByteArray} {n2 n i d2 : Nat} {r2 : Option FieldType} {As st0 : List Value} {K : Option Value → Mem → Prop} (w : kV RL i RX11 y c2 n2 r2 n) (hM : JMet l D (tyL cI cZ cS) (wM adm cI cZ (WX adx cI cZ cS ux)) (fun q : Nat => s.heap.size ≤ q) y c2 n2 r2 d2 (.ref (adm 0) :: As) um K) (hn : As.length = n) (hst : st0 = As.reverse ++ .ref (adm 0) :: st) (hdd : d2 ≤ 100) (hroom : (st.map fun v => v.category).sum ≤ 8) (hd : decode code pc = .ok (.invokevirtual i, 3))
    (kk : ∀ (v : Option Value) (u1 : Mem) (ls : Array Slot) (H1 : Heap) (locs1 : List Loc), K v u1 → lv_has ls 4 lv → va_S (fun q : Nat => s.heap.size ≤ q) s.heap H1 locs1 → va_P D vwCl ((wM adm cI cZ (WX adx cI cZ cS ux)) u1) H1 → va_D (fun q : Nat => s.heap.size ≤ q) ((wM adm cI cZ (WX adx cI cZ cS ux)) u1) → W p l e room_1 s m #[Value.ref b] below meth c H1 locs1 600000 7302250 (lw_Z below #[Value.ref b] s) (F0 m (pc + 3) ls (v.toList ++ st))) : LJ p l e s m below meth c b D cI cZ cS adx adm pc lv (st0) ux um := by
  intro H locs ls hS hP hD hl
  obtain ⟨⟨hx, hb, hr, hml, hown, hts, hX, hbl, hlocks, hgv⟩, hN, hK, hL⟩ := C0
  have hbA : ¬ (fun q : Nat => s.heap.size ≤ q) b := Nat.not_le.mpr hbl
  have hts2 : ∀ w ∈ TT, w.before #[Value.ref b] s = true := fun w h => hts w (tt_lw h)
  obtain ⟨w1, w2, w3, w4, w5, w6, w7⟩ := w
  have hP : va_P D vwCl ((wM adm cI cZ (WX adx cI cZ cS ux)) um) H := (va_Psw hP)
  have hD : va_D (fun q : Nat => s.heap.size ≤ q) ((wM adm cI cZ (WX adx cI cZ cS ux)) um) := (va_Dsw hD)
  have hrun := va_runV (l := l) (e := e) (below := below) (meth := meth) (locs := locs) (cells := 600000) (slots := 7302250) (g := F0 m pc ls st0) (R := room_1) (As := As) (rest := st) (C := RX11) ⟨hx, hb, hml, hown, hts2⟩ hM ⟨callB_of n hts2 (tt_in w1) rfl rfl rfl (hts2 _ w5) (hts2 _ w2) w6 ⟨by show d2 + 1 ≤ 2048; omega, by show 8 + (n2 + 11) + 100 * d2 ≤ 84000; omega⟩, hts2 _ w3, hts2 _ w4⟩ ⟨jP_blind, va_recv (ci := 8) (q0 := 0) hK hP rfl rM_0, fun U hU hW => ⟨rfl, by rw [hU]; exact hP, va_K.moved hW.alike hK, hD, NW.warm hW hN⟩⟩ rfl hn hl.1 hst (lv_room hroom) hd ⟨Nat.le_refl _, Nat.le_refl _⟩
  intro T hT Y
  obtain ⟨v, st₀, t, T', L', h0, X', hL', e1, e2, ⟨⟨v', u1, hv, hq, hP1, hK1, hD1⟩, hz, hk⟩, sp⟩ := hrun T hT Y
  cases hv
  rw [h0] at hz hk
  obtain ⟨t2, a1, b1⟩ := kk v u1 ls T'.heap (locs ++ L') hq hl
    ⟨Nat.le_trans hS.1 (by rw [e1]; exact hz), fun q h1 h2 => by rw [e1, hk q (Nat.lt_of_lt_of_le h1 hS.1) (fun z => h2 z)]; exact hS.2.1 q h1 h2, fun q hq => by
      rcases List.mem_append.mp hq with h | h
      · exact hS.2.2 q h
      · exact hL' q h⟩ (by rw [e1]; exact hP1) hD1 T' rfl X'
  exact ⟨t2, sp t2 a1, b1⟩
theorem L_M_Ri (C0 : LC p s m meth c b L xs D cI cZ cS) {y : MethodName} {c2 : ByteArray} {n2 n i d2 : Nat} {r2 : Option FieldType} {As st0 : List Value} {K : Int32 → Prop} (w : kV RL i RX11 y c2 n2 r2 n) (hM : JMet l D (tyL cI cZ cS) (wM adm cI cZ (WX adx cI cZ cS ux)) (fun q : Nat => s.heap.size ≤ q) y c2 n2 r2 d2 (.ref (adm 0) :: As) um (jRi um K)) (hn : As.length = n) (hst : st0 = As.reverse ++ .ref (adm 0) :: st) (hdd : d2 ≤ 100) (hroom : (st.map fun v => v.category).sum ≤ 8) (hd : decode code pc = .ok (.invokevirtual i, 3)) (k : ∀ r, K r → LJ p l e s m below meth c b D cI cZ cS adx adm (pc + 3) lv (.int r :: st) ux um) : LJ p l e s m below meth c b D cI cZ cS adx adm pc lv (st0) ux um := by
  refine L_runM C0 w hM hn hst hdd hroom hd ?_
  rintro _ _ ls H1 locs1 ⟨rfl, r, rfl, h⟩ hl hS1 hP1 hD1
  exact k r h H1 locs1 ls hS1 (va_Psw hP1) (va_Dsw hD1) hl
theorem L_M_Wi (C0 : LC p s m meth c b L xs D cI cZ cS) {y : MethodName} {c2 : ByteArray} {n2 n i d2 : Nat} {r2 : Option FieldType} {As st0 : List Value} {K : Int32 → Mem → Prop} (w : kV RL i RX11 y c2 n2 r2 n) (hM : JMet l D (tyL cI cZ cS) (wM adm cI cZ (WX adx cI cZ cS ux)) (fun q : Nat => s.heap.size ≤ q) y c2 n2 r2 d2 (.ref (adm 0) :: As) um (jWi K)) (hn : As.length = n) (hst : st0 = As.reverse ++ .ref (adm 0) :: st) (hdd : d2 ≤ 100) (hroom : (st.map fun v => v.category).sum ≤ 8) (hd : decode code pc = .ok (.invokevirtual i, 3)) (k : ∀ r v, K r v → LJ p l e s m below meth c b D cI cZ cS adx adm (pc + 3) lv (.int r :: st) ux v) : LJ p l e s m below meth c b D cI cZ cS adx adm pc lv (st0) ux um := by
  refine L_runM C0 w hM hn hst hdd hroom hd ?_
  rintro _ v ls H1 locs1 ⟨r, rfl, h⟩ hl hS1 hP1 hD1
  exact k r v h H1 locs1 ls hS1 (va_Psw hP1) (va_Dsw hD1) hl
theorem L_M_Rl (C0 : LC p s m meth c b L xs D cI cZ cS) {y : MethodName} {c2 : ByteArray} {n2 n i d2 : Nat} {r2 : Option FieldType} {As st0 : List Value} {K : Int64 → Prop} (w : kV RL i RX11 y c2 n2 r2 n) (hM : JMet l D (tyL cI cZ cS) (wM adm cI cZ (WX adx cI cZ cS ux)) (fun q : Nat => s.heap.size ≤ q) y c2 n2 r2 d2 (.ref (adm 0) :: As) um (jRl um K)) (hn : As.length = n) (hst : st0 = As.reverse ++ .ref (adm 0) :: st) (hdd : d2 ≤ 100) (hroom : (st.map fun v => v.category).sum ≤ 8) (hd : decode code pc = .ok (.invokevirtual i, 3)) (k : ∀ r, K r → LJ p l e s m below meth c b D cI cZ cS adx adm (pc + 3) lv (.long r :: st) ux um) : LJ p l e s m below meth c b D cI cZ cS adx adm pc lv (st0) ux um := by
  refine L_runM C0 w hM hn hst hdd hroom hd ?_
  rintro _ _ ls H1 locs1 ⟨rfl, r, rfl, h⟩ hl hS1 hP1 hD1
  exact k r h H1 locs1 ls hS1 (va_Psw hP1) (va_Dsw hD1) hl
theorem L_M_Wl (C0 : LC p s m meth c b L xs D cI cZ cS) {y : MethodName} {c2 : ByteArray} {n2 n i d2 : Nat} {r2 : Option FieldType} {As st0 : List Value} {K : Int64 → Mem → Prop} (w : kV RL i RX11 y c2 n2 r2 n) (hM : JMet l D (tyL cI cZ cS) (wM adm cI cZ (WX adx cI cZ cS ux)) (fun q : Nat => s.heap.size ≤ q) y c2 n2 r2 d2 (.ref (adm 0) :: As) um (jWl K)) (hn : As.length = n) (hst : st0 = As.reverse ++ .ref (adm 0) :: st) (hdd : d2 ≤ 100) (hroom : (st.map fun v => v.category).sum ≤ 8) (hd : decode code pc = .ok (.invokevirtual i, 3)) (k : ∀ r v, K r v → LJ p l e s m below meth c b D cI cZ cS adx adm (pc + 3) lv (.long r :: st) ux v) : LJ p l e s m below meth c b D cI cZ cS adx adm pc lv (st0) ux um := by
  refine L_runM C0 w hM hn hst hdd hroom hd ?_
  rintro _ v ls H1 locs1 ⟨r, rfl, h⟩ hl hS1 hP1 hD1
  exact k r v h H1 locs1 ls hS1 (va_Psw hP1) (va_Dsw hD1) hl
set_option maxRecDepth 20000 in
set_option maxHeartbeats 4000000 in
theorem law_case_0 (C0 : LC p s m meth c b L xs D cI cZ cS) {Rel : Mem → Mem → Prop} {i : Nat} (hi : i + 6 ≤ L) (h : w_X_type (xs (i + 1)) (xs (i + 2)) ux (fun rX wX => w_M_type (xs (i + 1)) (xs (i + 2)) um (fun rM wM => rX = rM ∧ Rel wX wM))) (hk : ∀ ux um, Rel ux um → LJ p l e s m below meth c b D cI cZ cS adx adm 1356 (lvI b adx adm i) ([]) ux um) : LJ p l e s m below meth c b D cI cZ cS adx adm 200 (lvI b adx adm i) ([]) ux um := by
  refine L_aload C0 1 dL_law_200 rfl rfl ?_
  refine L_arg C0 (j := 1) (by omega) dL_law_201 dL_law_202 dL_law_203 dL_law_204 dL_law_205 (by decide) ?_
  refine L_arg C0 (j := 2) (by omega) dL_law_206 dL_law_207 dL_law_208 dL_law_209 dL_law_210 (by decide) ?_
  refine L_X_Wi C0 kV_RL_13 (c_X_type h) rfl rfl (by decide) (Nat.le_of_ble_eq_true rfl) dL_law_211 (fun rX ux h => ?_)
  refine L_aload C0 2 dL_law_214 rfl rfl ?_
  refine L_arg C0 (j := 1) (by omega) dL_law_215 dL_law_216 dL_law_217 dL_law_218 dL_law_219 (by decide) ?_
  refine L_arg C0 (j := 2) (by omega) dL_law_220 dL_law_221 dL_law_222 dL_law_223 dL_law_224 (by decide) ?_
  refine L_M_Wi C0 kV_RL_17 (c_M_type h) rfl rfl (by decide) (Nat.le_of_ble_eq_true rfl) dL_law_225 (fun rM um h => ?_)
  exact L_eq C0 (tgt := 1356) dL_law_228 rfl h.1 (hk _ _ h.2)
set_option maxRecDepth 20000 in
set_option maxHeartbeats 4000000 in
theorem law_case_1 (C0 : LC p s m meth c b L xs D cI cZ cS) {Rel : Mem → Mem → Prop} {i : Nat} (hi : i + 6 ≤ L) (h : w_X_wipe (xs (i + 1)) ux (fun rX wX => w_M_wipe (xs (i + 1)) um (fun rM wM => rX = rM ∧ Rel wX wM))) (hk : ∀ ux um, Rel ux um → LJ p l e s m below meth c b D cI cZ cS adx adm 1356 (lvI b adx adm i) ([]) ux um) : LJ p l e s m below meth c b D cI cZ cS adx adm 233 (lvI b adx adm i) ([]) ux um := by
  refine L_aload C0 1 dL_law_233 rfl rfl ?_
  refine L_arg C0 (j := 1) (by omega) dL_law_234 dL_law_235 dL_law_236 dL_law_237 dL_law_238 (by decide) ?_
  refine L_X_Wi C0 kV_RL_18 (c_X_wipe h) rfl rfl (by decide) (Nat.le_of_ble_eq_true rfl) dL_law_239 (fun rX ux h => ?_)
  refine L_aload C0 2 dL_law_242 rfl rfl ?_
  refine L_arg C0 (j := 1) (by omega) dL_law_243 dL_law_244 dL_law_245 dL_law_246 dL_law_247 (by decide) ?_
  refine L_M_Wi C0 kV_RL_22 (c_M_wipe h) rfl rfl (by decide) (Nat.le_of_ble_eq_true rfl) dL_law_248 (fun rM um h => ?_)
  exact L_eq C0 (tgt := 1356) dL_law_251 rfl h.1 (hk _ _ h.2)
set_option maxRecDepth 20000 in
set_option maxHeartbeats 4000000 in
theorem law_case_2 (C0 : LC p s m meth c b L xs D cI cZ cS) {Rel : Mem → Mem → Prop} {i : Nat} (hi : i + 6 ≤ L) (h : w_X_undo (xs (i + 1)) ux (fun rX wX => w_M_undo (xs (i + 1)) um (fun rM wM => rX = rM ∧ Rel wX wM))) (hk : ∀ ux um, Rel ux um → LJ p l e s m below meth c b D cI cZ cS adx adm 1356 (lvI b adx adm i) ([]) ux um) : LJ p l e s m below meth c b D cI cZ cS adx adm 256 (lvI b adx adm i) ([]) ux um := by
  refine L_aload C0 1 dL_law_256 rfl rfl ?_
  refine L_arg C0 (j := 1) (by omega) dL_law_257 dL_law_258 dL_law_259 dL_law_260 dL_law_261 (by decide) ?_
  refine L_X_Wi C0 kV_RL_23 (c_X_undo h) rfl rfl (by decide) (Nat.le_of_ble_eq_true rfl) dL_law_262 (fun rX ux h => ?_)
  refine L_aload C0 2 dL_law_265 rfl rfl ?_
  refine L_arg C0 (j := 1) (by omega) dL_law_266 dL_law_267 dL_law_268 dL_law_269 dL_law_270 (by decide) ?_
  refine L_M_Wi C0 kV_RL_26 (c_M_undo h) rfl rfl (by decide) (Nat.le_of_ble_eq_true rfl) dL_law_271 (fun rM um h => ?_)
  exact L_eq C0 (tgt := 1356) dL_law_274 rfl h.1 (hk _ _ h.2)
set_option maxRecDepth 20000 in
set_option maxHeartbeats 4000000 in
theorem law_case_3 (C0 : LC p s m meth c b L xs D cI cZ cS) {Rel : Mem → Mem → Prop} {i : Nat} (hi : i + 6 ≤ L) (h : w_X_fault (xs (i + 1)) ux (fun rX => w_M_fault (xs (i + 1)) um (fun rM wM => rX = rM ∧ Rel ux wM))) (hk : ∀ ux um, Rel ux um → LJ p l e s m below meth c b D cI cZ cS adx adm 1356 (lvI b adx adm i) ([]) ux um) : LJ p l e s m below meth c b D cI cZ cS adx adm 279 (lvI b adx adm i) ([]) ux um := by
  refine L_aload C0 1 dL_law_279 rfl rfl ?_
  refine L_arg C0 (j := 1) (by omega) dL_law_280 dL_law_281 dL_law_282 dL_law_283 dL_law_284 (by decide) ?_
  refine L_X_Ri C0 kV_RL_27 (c_X_fault h) rfl rfl (by decide) (Nat.le_of_ble_eq_true rfl) dL_law_285 (fun rX h => ?_)
  refine L_aload C0 2 dL_law_288 rfl rfl ?_
  refine L_arg C0 (j := 1) (by omega) dL_law_289 dL_law_290 dL_law_291 dL_law_292 dL_law_293 (by decide) ?_
  refine L_M_Wi C0 kV_RL_30 (c_M_fault h) rfl rfl (by decide) (Nat.le_of_ble_eq_true rfl) dL_law_294 (fun rM um h => ?_)
  exact L_eq C0 (tgt := 1356) dL_law_297 rfl h.1 (hk _ _ h.2)
set_option maxRecDepth 20000 in
set_option maxHeartbeats 4000000 in
theorem law_case_4 (C0 : LC p s m meth c b L xs D cI cZ cS) {Rel : Mem → Mem → Prop} {i : Nat} (hi : i + 6 ≤ L) (h : w_X_rule (xs (i + 1)) (xs (i + 2)) ux (fun rX => w_M_rule (xs (i + 1)) (xs (i + 2)) um (fun rM wM => rX = rM ∧ Rel ux wM))) (hk : ∀ ux um, Rel ux um → LJ p l e s m below meth c b D cI cZ cS adx adm 1356 (lvI b adx adm i) ([]) ux um) : LJ p l e s m below meth c b D cI cZ cS adx adm 302 (lvI b adx adm i) ([]) ux um := by
  refine L_aload C0 1 dL_law_302 rfl rfl ?_
  refine L_arg C0 (j := 1) (by omega) dL_law_303 dL_law_304 dL_law_305 dL_law_306 dL_law_307 (by decide) ?_
  refine L_arg C0 (j := 2) (by omega) dL_law_308 dL_law_309 dL_law_310 dL_law_311 dL_law_312 (by decide) ?_
  refine L_X_Ri C0 kV_RL_31 (c_X_rule h) rfl rfl (by decide) (Nat.le_of_ble_eq_true rfl) dL_law_313 (fun rX h => ?_)
  refine L_aload C0 2 dL_law_316 rfl rfl ?_
  refine L_arg C0 (j := 1) (by omega) dL_law_317 dL_law_318 dL_law_319 dL_law_320 dL_law_321 (by decide) ?_
  refine L_arg C0 (j := 2) (by omega) dL_law_322 dL_law_323 dL_law_324 dL_law_325 dL_law_326 (by decide) ?_
  refine L_M_Wi C0 kV_RL_34 (c_M_rule h) rfl rfl (by decide) (Nat.le_of_ble_eq_true rfl) dL_law_327 (fun rM um h => ?_)
  exact L_eq C0 (tgt := 1356) dL_law_330 rfl h.1 (hk _ _ h.2)
set_option maxRecDepth 20000 in
set_option maxHeartbeats 4000000 in
theorem law_case_5 (C0 : LC p s m meth c b L xs D cI cZ cS) {Rel : Mem → Mem → Prop} {i : Nat} (hi : i + 6 ≤ L) (h : w_X_dust (xs (i + 1)) (xs (i + 2)) ux (fun rX => w_M_dust (xs (i + 1)) (xs (i + 2)) um (fun rM wM => rX = rM ∧ Rel ux wM))) (hk : ∀ ux um, Rel ux um → LJ p l e s m below meth c b D cI cZ cS adx adm 1356 (lvI b adx adm i) ([]) ux um) : LJ p l e s m below meth c b D cI cZ cS adx adm 335 (lvI b adx adm i) ([]) ux um := by
  refine L_aload C0 1 dL_law_335 rfl rfl ?_
  refine L_arg C0 (j := 1) (by omega) dL_law_336 dL_law_337 dL_law_338 dL_law_339 dL_law_340 (by decide) ?_
  refine L_arg C0 (j := 2) (by omega) dL_law_341 dL_law_342 dL_law_343 dL_law_344 dL_law_345 (by decide) ?_
  refine L_X_Ri C0 kV_RL_35 (c_X_dust h) rfl rfl (by decide) (Nat.le_of_ble_eq_true rfl) dL_law_346 (fun rX h => ?_)
  refine L_aload C0 2 dL_law_349 rfl rfl ?_
  refine L_arg C0 (j := 1) (by omega) dL_law_350 dL_law_351 dL_law_352 dL_law_353 dL_law_354 (by decide) ?_
  refine L_arg C0 (j := 2) (by omega) dL_law_355 dL_law_356 dL_law_357 dL_law_358 dL_law_359 (by decide) ?_
  refine L_M_Wi C0 kV_RL_38 (c_M_dust h) rfl rfl (by decide) (Nat.le_of_ble_eq_true rfl) dL_law_360 (fun rM um h => ?_)
  exact L_eq C0 (tgt := 1356) dL_law_363 rfl h.1 (hk _ _ h.2)
set_option maxRecDepth 20000 in
set_option maxHeartbeats 4000000 in
theorem law_case_6 (C0 : LC p s m meth c b L xs D cI cZ cS) {Rel : Mem → Mem → Prop} {i : Nat} (hi : i + 6 ≤ L) (h : w_X_first (xs (i + 1)) ux (fun rX wX => w_M_first (xs (i + 1)) um (fun rM wM => rX = rM ∧ Rel wX wM))) (hk : ∀ ux um, Rel ux um → LJ p l e s m below meth c b D cI cZ cS adx adm 1356 (lvI b adx adm i) ([]) ux um) : LJ p l e s m below meth c b D cI cZ cS adx adm 368 (lvI b adx adm i) ([]) ux um := by
  refine L_aload C0 1 dL_law_368 rfl rfl ?_
  refine L_arg C0 (j := 1) (by omega) dL_law_369 dL_law_370 dL_law_371 dL_law_372 dL_law_373 (by decide) ?_
  refine L_X_Wi C0 kV_RL_39 (c_X_first h) rfl rfl (by decide) (Nat.le_of_ble_eq_true rfl) dL_law_374 (fun rX ux h => ?_)
  refine L_aload C0 2 dL_law_377 rfl rfl ?_
  refine L_arg C0 (j := 1) (by omega) dL_law_378 dL_law_379 dL_law_380 dL_law_381 dL_law_382 (by decide) ?_
  refine L_M_Wi C0 kV_RL_42 (c_M_first h) rfl rfl (by decide) (Nat.le_of_ble_eq_true rfl) dL_law_383 (fun rM um h => ?_)
  exact L_eq C0 (tgt := 1356) dL_law_386 rfl h.1 (hk _ _ h.2)
set_option maxRecDepth 20000 in
set_option maxHeartbeats 4000000 in
theorem law_case_7 (C0 : LC p s m meth c b L xs D cI cZ cS) {Rel : Mem → Mem → Prop} {i : Nat} (hi : i + 6 ≤ L) (h : w_X_comes (xs (i + 1)) ux (fun rX wX => w_M_comes (xs (i + 1)) um (fun rM wM => rX = rM ∧ Rel wX wM))) (hk : ∀ ux um, Rel ux um → LJ p l e s m below meth c b D cI cZ cS adx adm 1356 (lvI b adx adm i) ([]) ux um) : LJ p l e s m below meth c b D cI cZ cS adx adm 391 (lvI b adx adm i) ([]) ux um := by
  refine L_aload C0 1 dL_law_391 rfl rfl ?_
  refine L_arg C0 (j := 1) (by omega) dL_law_392 dL_law_393 dL_law_394 dL_law_395 dL_law_396 (by decide) ?_
  refine L_X_Wi C0 kV_RL_43 (c_X_comes h) rfl rfl (by decide) (Nat.le_of_ble_eq_true rfl) dL_law_397 (fun rX ux h => ?_)
  refine L_aload C0 2 dL_law_400 rfl rfl ?_
  refine L_arg C0 (j := 1) (by omega) dL_law_401 dL_law_402 dL_law_403 dL_law_404 dL_law_405 (by decide) ?_
  refine L_M_Wi C0 kV_RL_46 (c_M_comes h) rfl rfl (by decide) (Nat.le_of_ble_eq_true rfl) dL_law_406 (fun rM um h => ?_)
  exact L_eq C0 (tgt := 1356) dL_law_409 rfl h.1 (hk _ _ h.2)
set_option maxRecDepth 20000 in
set_option maxHeartbeats 4000000 in
theorem law_case_8 (C0 : LC p s m meth c b L xs D cI cZ cS) {Rel : Mem → Mem → Prop} {i : Nat} (hi : i + 6 ≤ L) (h : w_X_lays (xs (i + 1)) ux (fun rX => w_M_lays (xs (i + 1)) um (fun rM wM => rX = rM ∧ Rel ux wM))) (hk : ∀ ux um, Rel ux um → LJ p l e s m below meth c b D cI cZ cS adx adm 1356 (lvI b adx adm i) ([]) ux um) : LJ p l e s m below meth c b D cI cZ cS adx adm 414 (lvI b adx adm i) ([]) ux um := by
  refine L_aload C0 1 dL_law_414 rfl rfl ?_
  refine L_arg C0 (j := 1) (by omega) dL_law_415 dL_law_416 dL_law_417 dL_law_418 dL_law_419 (by decide) ?_
  refine L_X_Ri C0 kV_RL_47 (c_X_lays h) rfl rfl (by decide) (Nat.le_of_ble_eq_true rfl) dL_law_420 (fun rX h => ?_)
  refine L_aload C0 2 dL_law_423 rfl rfl ?_
  refine L_arg C0 (j := 1) (by omega) dL_law_424 dL_law_425 dL_law_426 dL_law_427 dL_law_428 (by decide) ?_
  refine L_M_Wi C0 kV_RL_50 (c_M_lays h) rfl rfl (by decide) (Nat.le_of_ble_eq_true rfl) dL_law_429 (fun rM um h => ?_)
  exact L_eq C0 (tgt := 1356) dL_law_432 rfl h.1 (hk _ _ h.2)
set_option maxRecDepth 20000 in
set_option maxHeartbeats 4000000 in
theorem law_case_9 (C0 : LC p s m meth c b L xs D cI cZ cS) {Rel : Mem → Mem → Prop} {i : Nat} (hi : i + 6 ≤ L) (h : w_X_lay (xs (i + 1)) (xs (i + 2)) (xs (i + 3)) ux (fun rX wX => w_M_lay (xs (i + 1)) (xs (i + 2)) (xs (i + 3)) um (fun rM wM => rX = rM ∧ Rel wX wM))) (hk : ∀ ux um, Rel ux um → LJ p l e s m below meth c b D cI cZ cS adx adm 1356 (lvI b adx adm i) ([]) ux um) : LJ p l e s m below meth c b D cI cZ cS adx adm 437 (lvI b adx adm i) ([]) ux um := by
  refine L_aload C0 1 dL_law_437 rfl rfl ?_
  refine L_arg C0 (j := 1) (by omega) dL_law_438 dL_law_439 dL_law_440 dL_law_441 dL_law_442 (by decide) ?_
  refine L_arg C0 (j := 2) (by omega) dL_law_443 dL_law_444 dL_law_445 dL_law_446 dL_law_447 (by decide) ?_
  refine L_arg C0 (j := 3) (by omega) dL_law_448 dL_law_449 dL_law_450 dL_law_451 dL_law_452 (by decide) ?_
  refine L_X_Wi C0 kV_RL_51 (c_X_lay h) rfl rfl (by decide) (Nat.le_of_ble_eq_true rfl) dL_law_453 (fun rX ux h => ?_)
  refine L_aload C0 2 dL_law_456 rfl rfl ?_
  refine L_arg C0 (j := 1) (by omega) dL_law_457 dL_law_458 dL_law_459 dL_law_460 dL_law_461 (by decide) ?_
  refine L_arg C0 (j := 2) (by omega) dL_law_462 dL_law_463 dL_law_464 dL_law_465 dL_law_466 (by decide) ?_
  refine L_arg C0 (j := 3) (by omega) dL_law_467 dL_law_468 dL_law_469 dL_law_470 dL_law_471 (by decide) ?_
  refine L_M_Wi C0 kV_RL_55 (c_M_lay h) rfl rfl (by decide) (Nat.le_of_ble_eq_true rfl) dL_law_472 (fun rM um h => ?_)
  exact L_eq C0 (tgt := 1356) dL_law_475 rfl h.1 (hk _ _ h.2)
set_option maxRecDepth 20000 in
set_option maxHeartbeats 4000000 in
theorem law_case_10 (C0 : LC p s m meth c b L xs D cI cZ cS) {Rel : Mem → Mem → Prop} {i : Nat} (hi : i + 6 ≤ L) (h : w_X_back ux (fun rX wX => w_M_back um (fun rM wM => rX = rM ∧ Rel wX wM))) (hk : ∀ ux um, Rel ux um → LJ p l e s m below meth c b D cI cZ cS adx adm 1356 (lvI b adx adm i) ([]) ux um) : LJ p l e s m below meth c b D cI cZ cS adx adm 480 (lvI b adx adm i) ([]) ux um := by
  refine L_aload C0 1 dL_law_480 rfl rfl ?_
  refine L_X_Wi C0 kV_RL_56 (c_X_back h) rfl rfl (by decide) (Nat.le_of_ble_eq_true rfl) dL_law_481 (fun rX ux h => ?_)
  refine L_aload C0 2 dL_law_484 rfl rfl ?_
  refine L_M_Wi C0 kV_RL_60 (c_M_back h) rfl rfl (by decide) (Nat.le_of_ble_eq_true rfl) dL_law_485 (fun rM um h => ?_)
  exact L_eq C0 (tgt := 1356) dL_law_488 rfl h.1 (hk _ _ h.2)
set_option maxRecDepth 20000 in
set_option maxHeartbeats 4000000 in
theorem law_case_11 (C0 : LC p s m meth c b L xs D cI cZ cS) {Rel : Mem → Mem → Prop} {i : Nat} (hi : i + 6 ≤ L) (h : w_X_week (xs (i + 1)) (xs (i + 2)) ux (fun rX wX => w_M_week (xs (i + 1)) (xs (i + 2)) um (fun rM wM => rX = rM ∧ Rel wX wM))) (hk : ∀ ux um, Rel ux um → LJ p l e s m below meth c b D cI cZ cS adx adm 1356 (lvI b adx adm i) ([]) ux um) : LJ p l e s m below meth c b D cI cZ cS adx adm 493 (lvI b adx adm i) ([]) ux um := by
  refine L_aload C0 1 dL_law_493 rfl rfl ?_
  refine L_arg C0 (j := 1) (by omega) dL_law_494 dL_law_495 dL_law_496 dL_law_497 dL_law_498 (by decide) ?_
  refine L_arg C0 (j := 2) (by omega) dL_law_499 dL_law_500 dL_law_501 dL_law_502 dL_law_503 (by decide) ?_
  refine L_X_Wi C0 kV_RL_61 (c_X_week h) rfl rfl (by decide) (Nat.le_of_ble_eq_true rfl) dL_law_504 (fun rX ux h => ?_)
  refine L_aload C0 2 dL_law_507 rfl rfl ?_
  refine L_arg C0 (j := 1) (by omega) dL_law_508 dL_law_509 dL_law_510 dL_law_511 dL_law_512 (by decide) ?_
  refine L_arg C0 (j := 2) (by omega) dL_law_513 dL_law_514 dL_law_515 dL_law_516 dL_law_517 (by decide) ?_
  refine L_M_Wi C0 kV_RL_64 (c_M_week h) rfl rfl (by decide) (Nat.le_of_ble_eq_true rfl) dL_law_518 (fun rM um h => ?_)
  exact L_eq C0 (tgt := 1356) dL_law_521 rfl h.1 (hk _ _ h.2)
set_option maxRecDepth 20000 in
set_option maxHeartbeats 4000000 in
theorem law_case_12 (C0 : LC p s m meth c b L xs D cI cZ cS) {Rel : Mem → Mem → Prop} {i : Nat} (hi : i + 6 ≤ L) (h : w_X_judged ux (fun rX wX => w_M_judged um (fun rM wM => rX = rM ∧ Rel wX wM))) (hk : ∀ ux um, Rel ux um → LJ p l e s m below meth c b D cI cZ cS adx adm 1356 (lvI b adx adm i) ([]) ux um) : LJ p l e s m below meth c b D cI cZ cS adx adm 526 (lvI b adx adm i) ([]) ux um := by
  refine L_aload C0 1 dL_law_526 rfl rfl ?_
  refine L_X_Wi C0 kV_RL_65 (c_X_judged h) rfl rfl (by decide) (Nat.le_of_ble_eq_true rfl) dL_law_527 (fun rX ux h => ?_)
  refine L_aload C0 2 dL_law_530 rfl rfl ?_
  refine L_M_Wi C0 kV_RL_68 (c_M_judged h) rfl rfl (by decide) (Nat.le_of_ble_eq_true rfl) dL_law_531 (fun rM um h => ?_)
  exact L_eq C0 (tgt := 1356) dL_law_534 rfl h.1 (hk _ _ h.2)
set_option maxRecDepth 20000 in
set_option maxHeartbeats 4000000 in
theorem law_case_13 (C0 : LC p s m meth c b L xs D cI cZ cS) {Rel : Mem → Mem → Prop} {i : Nat} (hi : i + 6 ≤ L) (h : w_X_two ux (fun rX => w_M_two um (fun rM wM => rX = rM ∧ Rel ux wM))) (hk : ∀ ux um, Rel ux um → LJ p l e s m below meth c b D cI cZ cS adx adm 1356 (lvI b adx adm i) ([]) ux um) : LJ p l e s m below meth c b D cI cZ cS adx adm 539 (lvI b adx adm i) ([]) ux um := by
  refine L_aload C0 1 dL_law_539 rfl rfl ?_
  refine L_X_Ri C0 kV_RL_69 (c_X_two h) rfl rfl (by decide) (Nat.le_of_ble_eq_true rfl) dL_law_540 (fun rX h => ?_)
  refine L_aload C0 2 dL_law_543 rfl rfl ?_
  refine L_M_Wi C0 kV_RL_72 (c_M_two h) rfl rfl (by decide) (Nat.le_of_ble_eq_true rfl) dL_law_544 (fun rM um h => ?_)
  exact L_eq C0 (tgt := 1356) dL_law_547 rfl h.1 (hk _ _ h.2)
set_option maxRecDepth 20000 in
set_option maxHeartbeats 4000000 in
theorem law_case_14 (C0 : LC p s m meth c b L xs D cI cZ cS) {Rel : Mem → Mem → Prop} {i : Nat} (hi : i + 6 ≤ L) (h : w_X_second (xs (i + 1)) ux (fun rX wX => w_M_second (xs (i + 1)) um (fun rM wM => rX = rM ∧ Rel wX wM))) (hk : ∀ ux um, Rel ux um → LJ p l e s m below meth c b D cI cZ cS adx adm 1356 (lvI b adx adm i) ([]) ux um) : LJ p l e s m below meth c b D cI cZ cS adx adm 552 (lvI b adx adm i) ([]) ux um := by
  refine L_aload C0 1 dL_law_552 rfl rfl ?_
  refine L_arg C0 (j := 1) (by omega) dL_law_553 dL_law_554 dL_law_555 dL_law_556 dL_law_557 (by decide) ?_
  refine L_X_Wi C0 kV_RL_73 (c_X_second h) rfl rfl (by decide) (Nat.le_of_ble_eq_true rfl) dL_law_558 (fun rX ux h => ?_)
  refine L_aload C0 2 dL_law_561 rfl rfl ?_
  refine L_arg C0 (j := 1) (by omega) dL_law_562 dL_law_563 dL_law_564 dL_law_565 dL_law_566 (by decide) ?_
  refine L_M_Wi C0 kV_RL_76 (c_M_second h) rfl rfl (by decide) (Nat.le_of_ble_eq_true rfl) dL_law_567 (fun rM um h => ?_)
  exact L_eq C0 (tgt := 1356) dL_law_570 rfl h.1 (hk _ _ h.2)
set_option maxRecDepth 20000 in
set_option maxHeartbeats 4000000 in
theorem law_case_15 (C0 : LC p s m meth c b L xs D cI cZ cS) {Rel : Mem → Mem → Prop} {i : Nat} (hi : i + 6 ≤ L) (h : w_X_touch (xs (i + 1)) (xs (i + 2)) (xs (i + 3)) (xs (i + 4)) ux (fun rX wX => w_M_touch (xs (i + 1)) (xs (i + 2)) (xs (i + 3)) (xs (i + 4)) um (fun rM wM => rX = rM ∧ Rel wX wM))) (hk : ∀ ux um, Rel ux um → LJ p l e s m below meth c b D cI cZ cS adx adm 1356 (lvI b adx adm i) ([]) ux um) : LJ p l e s m below meth c b D cI cZ cS adx adm 575 (lvI b adx adm i) ([]) ux um := by
  refine L_aload C0 1 dL_law_575 rfl rfl ?_
  refine L_arg C0 (j := 1) (by omega) dL_law_576 dL_law_577 dL_law_578 dL_law_579 dL_law_580 (by decide) ?_
  refine L_arg C0 (j := 2) (by omega) dL_law_581 dL_law_582 dL_law_583 dL_law_584 dL_law_585 (by decide) ?_
  refine L_arg C0 (j := 3) (by omega) dL_law_586 dL_law_587 dL_law_588 dL_law_589 dL_law_590 (by decide) ?_
  refine L_arg C0 (j := 4) (by omega) dL_law_591 dL_law_592 dL_law_593 dL_law_594 dL_law_595 (by decide) ?_
  refine L_X_Wi C0 kV_RL_77 (c_X_touch h) rfl rfl (by decide) (Nat.le_of_ble_eq_true rfl) dL_law_596 (fun rX ux h => ?_)
  refine L_aload C0 2 dL_law_599 rfl rfl ?_
  refine L_arg C0 (j := 1) (by omega) dL_law_600 dL_law_601 dL_law_602 dL_law_603 dL_law_604 (by decide) ?_
  refine L_arg C0 (j := 2) (by omega) dL_law_605 dL_law_606 dL_law_607 dL_law_608 dL_law_609 (by decide) ?_
  refine L_arg C0 (j := 3) (by omega) dL_law_610 dL_law_611 dL_law_612 dL_law_613 dL_law_614 (by decide) ?_
  refine L_arg C0 (j := 4) (by omega) dL_law_615 dL_law_616 dL_law_617 dL_law_618 dL_law_619 (by decide) ?_
  refine L_M_Wi C0 kV_RL_81 (c_M_touch h) rfl rfl (by decide) (Nat.le_of_ble_eq_true rfl) dL_law_620 (fun rM um h => ?_)
  exact L_eq C0 (tgt := 1356) dL_law_623 rfl h.1 (hk _ _ h.2)
set_option maxRecDepth 20000 in
set_option maxHeartbeats 4000000 in
theorem law_case_16 (C0 : LC p s m meth c b L xs D cI cZ cS) {Rel : Mem → Mem → Prop} {i : Nat} (hi : i + 6 ≤ L) (h : w_X_keepOff (xs (i + 1)) (xs (i + 2)) (xs (i + 3)) ux (fun rX wX => w_M_keepOff (xs (i + 1)) (xs (i + 2)) (xs (i + 3)) um (fun rM wM => rX = rM ∧ Rel wX wM))) (hk : ∀ ux um, Rel ux um → LJ p l e s m below meth c b D cI cZ cS adx adm 1356 (lvI b adx adm i) ([]) ux um) : LJ p l e s m below meth c b D cI cZ cS adx adm 628 (lvI b adx adm i) ([]) ux um := by
  refine L_aload C0 1 dL_law_628 rfl rfl ?_
  refine L_arg C0 (j := 1) (by omega) dL_law_629 dL_law_630 dL_law_631 dL_law_632 dL_law_633 (by decide) ?_
  refine L_arg C0 (j := 2) (by omega) dL_law_634 dL_law_635 dL_law_636 dL_law_637 dL_law_638 (by decide) ?_
  refine L_arg C0 (j := 3) (by omega) dL_law_639 dL_law_640 dL_law_641 dL_law_642 dL_law_643 (by decide) ?_
  refine L_X_Wi C0 kV_RL_82 (c_X_keepOff h) rfl rfl (by decide) (Nat.le_of_ble_eq_true rfl) dL_law_644 (fun rX ux h => ?_)
  refine L_aload C0 2 dL_law_647 rfl rfl ?_
  refine L_arg C0 (j := 1) (by omega) dL_law_648 dL_law_649 dL_law_650 dL_law_651 dL_law_652 (by decide) ?_
  refine L_arg C0 (j := 2) (by omega) dL_law_653 dL_law_654 dL_law_655 dL_law_656 dL_law_657 (by decide) ?_
  refine L_arg C0 (j := 3) (by omega) dL_law_658 dL_law_659 dL_law_660 dL_law_661 dL_law_662 (by decide) ?_
  refine L_M_Wi C0 kV_RL_85 (c_M_keepOff h) rfl rfl (by decide) (Nat.le_of_ble_eq_true rfl) dL_law_663 (fun rM um h => ?_)
  exact L_eq C0 (tgt := 1356) dL_law_666 rfl h.1 (hk _ _ h.2)
set_option maxRecDepth 20000 in
set_option maxHeartbeats 4000000 in
theorem law_case_17 (C0 : LC p s m meth c b L xs D cI cZ cS) {Rel : Mem → Mem → Prop} {i : Nat} (hi : i + 6 ≤ L) (h : w_X_bars (xs (i + 1)) ux (fun rX wX => w_M_bars (xs (i + 1)) um (fun rM wM => rX = rM ∧ Rel wX wM))) (hk : ∀ ux um, Rel ux um → LJ p l e s m below meth c b D cI cZ cS adx adm 1356 (lvI b adx adm i) ([]) ux um) : LJ p l e s m below meth c b D cI cZ cS adx adm 671 (lvI b adx adm i) ([]) ux um := by
  refine L_aload C0 1 dL_law_671 rfl rfl ?_
  refine L_arg C0 (j := 1) (by omega) dL_law_672 dL_law_673 dL_law_674 dL_law_675 dL_law_676 (by decide) ?_
  refine L_X_Wi C0 kV_RL_86 (c_X_bars h) rfl rfl (by decide) (Nat.le_of_ble_eq_true rfl) dL_law_677 (fun rX ux h => ?_)
  refine L_aload C0 2 dL_law_680 rfl rfl ?_
  refine L_arg C0 (j := 1) (by omega) dL_law_681 dL_law_682 dL_law_683 dL_law_684 dL_law_685 (by decide) ?_
  refine L_M_Wi C0 kV_RL_89 (c_M_bars h) rfl rfl (by decide) (Nat.le_of_ble_eq_true rfl) dL_law_686 (fun rM um h => ?_)
  exact L_eq C0 (tgt := 1356) dL_law_689 rfl h.1 (hk _ _ h.2)
set_option maxRecDepth 20000 in
set_option maxHeartbeats 4000000 in
theorem law_case_18 (C0 : LC p s m meth c b L xs D cI cZ cS) {Rel : Mem → Mem → Prop} {i : Nat} (hi : i + 6 ≤ L) (h : w_X_play (xs (i + 1)) (xs (i + 2)) (xs (i + 3)) ux (fun rX wX => w_M_play (xs (i + 1)) (xs (i + 2)) (xs (i + 3)) um (fun rM wM => rX = rM ∧ Rel wX wM))) (hk : ∀ ux um, Rel ux um → LJ p l e s m below meth c b D cI cZ cS adx adm 1356 (lvI b adx adm i) ([]) ux um) : LJ p l e s m below meth c b D cI cZ cS adx adm 694 (lvI b adx adm i) ([]) ux um := by
  refine L_aload C0 1 dL_law_694 rfl rfl ?_
  refine L_arg C0 (j := 1) (by omega) dL_law_695 dL_law_696 dL_law_697 dL_law_698 dL_law_699 (by decide) ?_
  refine L_arg C0 (j := 2) (by omega) dL_law_700 dL_law_701 dL_law_702 dL_law_703 dL_law_704 (by decide) ?_
  refine L_arg C0 (j := 3) (by omega) dL_law_705 dL_law_706 dL_law_707 dL_law_708 dL_law_709 (by decide) ?_
  refine L_X_Wi C0 kV_RL_90 (c_X_play h) rfl rfl (by decide) (Nat.le_of_ble_eq_true rfl) dL_law_710 (fun rX ux h => ?_)
  refine L_aload C0 2 dL_law_713 rfl rfl ?_
  refine L_arg C0 (j := 1) (by omega) dL_law_714 dL_law_715 dL_law_716 dL_law_717 dL_law_718 (by decide) ?_
  refine L_arg C0 (j := 2) (by omega) dL_law_719 dL_law_720 dL_law_721 dL_law_722 dL_law_723 (by decide) ?_
  refine L_arg C0 (j := 3) (by omega) dL_law_724 dL_law_725 dL_law_726 dL_law_727 dL_law_728 (by decide) ?_
  refine L_M_Wi C0 kV_RL_93 (c_M_play h) rfl rfl (by decide) (Nat.le_of_ble_eq_true rfl) dL_law_729 (fun rM um h => ?_)
  exact L_eq C0 (tgt := 1356) dL_law_732 rfl h.1 (hk _ _ h.2)
set_option maxRecDepth 20000 in
set_option maxHeartbeats 4000000 in
theorem law_case_19 (C0 : LC p s m meth c b L xs D cI cZ cS) {Rel : Mem → Mem → Prop} {i : Nat} (hi : i + 6 ≤ L) (h : w_X_steady (xs (i + 1)) ux (fun rX wX => w_M_steady (xs (i + 1)) um (fun rM wM => rX = rM ∧ Rel wX wM))) (hk : ∀ ux um, Rel ux um → LJ p l e s m below meth c b D cI cZ cS adx adm 1356 (lvI b adx adm i) ([]) ux um) : LJ p l e s m below meth c b D cI cZ cS adx adm 737 (lvI b adx adm i) ([]) ux um := by
  refine L_aload C0 1 dL_law_737 rfl rfl ?_
  refine L_arg C0 (j := 1) (by omega) dL_law_738 dL_law_739 dL_law_740 dL_law_741 dL_law_742 (by decide) ?_
  refine L_X_Wi C0 kV_RL_94 (c_X_steady h) rfl rfl (by decide) (Nat.le_of_ble_eq_true rfl) dL_law_743 (fun rX ux h => ?_)
  refine L_aload C0 2 dL_law_746 rfl rfl ?_
  refine L_arg C0 (j := 1) (by omega) dL_law_747 dL_law_748 dL_law_749 dL_law_750 dL_law_751 (by decide) ?_
  refine L_M_Wi C0 kV_RL_97 (c_M_steady h) rfl rfl (by decide) (Nat.le_of_ble_eq_true rfl) dL_law_752 (fun rM um h => ?_)
  exact L_eq C0 (tgt := 1356) dL_law_755 rfl h.1 (hk _ _ h.2)
set_option maxRecDepth 20000 in
set_option maxHeartbeats 4000000 in
theorem law_case_20 (C0 : LC p s m meth c b L xs D cI cZ cS) {Rel : Mem → Mem → Prop} {i : Nat} (hi : i + 6 ≤ L) (h : w_X_round (xs (i + 1)) (xs (i + 2)) ux (fun rX wX => w_M_round (xs (i + 1)) (xs (i + 2)) um (fun rM wM => rX = rM ∧ Rel wX wM))) (hk : ∀ ux um, Rel ux um → LJ p l e s m below meth c b D cI cZ cS adx adm 1356 (lvI b adx adm i) ([]) ux um) : LJ p l e s m below meth c b D cI cZ cS adx adm 760 (lvI b adx adm i) ([]) ux um := by
  refine L_aload C0 1 dL_law_760 rfl rfl ?_
  refine L_arg C0 (j := 1) (by omega) dL_law_761 dL_law_762 dL_law_763 dL_law_764 dL_law_765 (by decide) ?_
  refine L_arg C0 (j := 2) (by omega) dL_law_766 dL_law_767 dL_law_768 dL_law_769 dL_law_770 (by decide) ?_
  refine L_X_Wi C0 kV_RL_98 (c_X_round h) rfl rfl (by decide) (Nat.le_of_ble_eq_true rfl) dL_law_771 (fun rX ux h => ?_)
  refine L_aload C0 2 dL_law_774 rfl rfl ?_
  refine L_arg C0 (j := 1) (by omega) dL_law_775 dL_law_776 dL_law_777 dL_law_778 dL_law_779 (by decide) ?_
  refine L_arg C0 (j := 2) (by omega) dL_law_780 dL_law_781 dL_law_782 dL_law_783 dL_law_784 (by decide) ?_
  refine L_M_Wi C0 kV_RL_101 (c_M_round h) rfl rfl (by decide) (Nat.le_of_ble_eq_true rfl) dL_law_785 (fun rM um h => ?_)
  exact L_eq C0 (tgt := 1356) dL_law_788 rfl h.1 (hk _ _ h.2)
set_option maxRecDepth 20000 in
set_option maxHeartbeats 4000000 in
theorem law_case_21 (C0 : LC p s m meth c b L xs D cI cZ cS) {Rel : Mem → Mem → Prop} {i : Nat} (hi : i + 6 ≤ L) (h : w_X_seen (xs (i + 1)) (xs (i + 2)) ux (fun rX wX => w_M_seen (xs (i + 1)) (xs (i + 2)) um (fun rM wM => rX = rM ∧ Rel wX wM))) (hk : ∀ ux um, Rel ux um → LJ p l e s m below meth c b D cI cZ cS adx adm 1356 (lvI b adx adm i) ([]) ux um) : LJ p l e s m below meth c b D cI cZ cS adx adm 793 (lvI b adx adm i) ([]) ux um := by
  refine L_aload C0 1 dL_law_793 rfl rfl ?_
  refine L_arg C0 (j := 1) (by omega) dL_law_794 dL_law_795 dL_law_796 dL_law_797 dL_law_798 (by decide) ?_
  refine L_arg C0 (j := 2) (by omega) dL_law_799 dL_law_800 dL_law_801 dL_law_802 dL_law_803 (by decide) ?_
  refine L_X_Wi C0 kV_RL_102 (c_X_seen h) rfl rfl (by decide) (Nat.le_of_ble_eq_true rfl) dL_law_804 (fun rX ux h => ?_)
  refine L_aload C0 2 dL_law_807 rfl rfl ?_
  refine L_arg C0 (j := 1) (by omega) dL_law_808 dL_law_809 dL_law_810 dL_law_811 dL_law_812 (by decide) ?_
  refine L_arg C0 (j := 2) (by omega) dL_law_813 dL_law_814 dL_law_815 dL_law_816 dL_law_817 (by decide) ?_
  refine L_M_Wi C0 kV_RL_105 (c_M_seen h) rfl rfl (by decide) (Nat.le_of_ble_eq_true rfl) dL_law_818 (fun rM um h => ?_)
  exact L_eq C0 (tgt := 1356) dL_law_821 rfl h.1 (hk _ _ h.2)
set_option maxRecDepth 20000 in
set_option maxHeartbeats 4000000 in
theorem law_case_22 (C0 : LC p s m meth c b L xs D cI cZ cS) {Rel : Mem → Mem → Prop} {i : Nat} (hi : i + 6 ≤ L) (h : w_X_forget ux (fun rX wX => w_M_forget um (fun rM wM => rX = rM ∧ Rel wX wM))) (hk : ∀ ux um, Rel ux um → LJ p l e s m below meth c b D cI cZ cS adx adm 1356 (lvI b adx adm i) ([]) ux um) : LJ p l e s m below meth c b D cI cZ cS adx adm 826 (lvI b adx adm i) ([]) ux um := by
  refine L_aload C0 1 dL_law_826 rfl rfl ?_
  refine L_X_Wi C0 kV_RL_106 (c_X_forget h) rfl rfl (by decide) (Nat.le_of_ble_eq_true rfl) dL_law_827 (fun rX ux h => ?_)
  refine L_aload C0 2 dL_law_830 rfl rfl ?_
  refine L_M_Wi C0 kV_RL_109 (c_M_forget h) rfl rfl (by decide) (Nat.le_of_ble_eq_true rfl) dL_law_831 (fun rM um h => ?_)
  exact L_eq C0 (tgt := 1356) dL_law_834 rfl h.1 (hk _ _ h.2)
set_option maxRecDepth 20000 in
set_option maxHeartbeats 4000000 in
theorem law_case_23 (C0 : LC p s m meth c b L xs D cI cZ cS) {Rel : Mem → Mem → Prop} {i : Nat} (hi : i + 6 ≤ L) (h : w_X_read (xs (i + 1)) ux (fun rX wX => w_M_read (xs (i + 1)) um (fun rM wM => rX = rM ∧ Rel wX wM))) (hk : ∀ ux um, Rel ux um → LJ p l e s m below meth c b D cI cZ cS adx adm 1356 (lvI b adx adm i) ([]) ux um) : LJ p l e s m below meth c b D cI cZ cS adx adm 839 (lvI b adx adm i) ([]) ux um := by
  refine L_aload C0 1 dL_law_839 rfl rfl ?_
  refine L_arg C0 (j := 1) (by omega) dL_law_840 dL_law_841 dL_law_842 dL_law_843 dL_law_844 (by decide) ?_
  refine L_X_Wi C0 kV_RL_110 (c_X_read h) rfl rfl (by decide) (Nat.le_of_ble_eq_true rfl) dL_law_845 (fun rX ux h => ?_)
  refine L_aload C0 2 dL_law_848 rfl rfl ?_
  refine L_arg C0 (j := 1) (by omega) dL_law_849 dL_law_850 dL_law_851 dL_law_852 dL_law_853 (by decide) ?_
  refine L_M_Wi C0 kV_RL_113 (c_M_read h) rfl rfl (by decide) (Nat.le_of_ble_eq_true rfl) dL_law_854 (fun rM um h => ?_)
  exact L_eq C0 (tgt := 1356) dL_law_857 rfl h.1 (hk _ _ h.2)
set_option maxRecDepth 20000 in
set_option maxHeartbeats 4000000 in
theorem law_case_24 (C0 : LC p s m meth c b L xs D cI cZ cS) {Rel : Mem → Mem → Prop} {i : Nat} (hi : i + 6 ≤ L) (h : w_X_stands (xs (i + 1)) (xs (i + 2)) ux (fun rX => w_M_stands (xs (i + 1)) (xs (i + 2)) um (fun rM => rX = rM ∧ Rel ux um))) (hk : ∀ ux um, Rel ux um → LJ p l e s m below meth c b D cI cZ cS adx adm 1356 (lvI b adx adm i) ([]) ux um) : LJ p l e s m below meth c b D cI cZ cS adx adm 862 (lvI b adx adm i) ([]) ux um := by
  refine L_aload C0 1 dL_law_862 rfl rfl ?_
  refine L_arg C0 (j := 1) (by omega) dL_law_863 dL_law_864 dL_law_865 dL_law_866 dL_law_867 (by decide) ?_
  refine L_arg C0 (j := 2) (by omega) dL_law_868 dL_law_869 dL_law_870 dL_law_871 dL_law_872 (by decide) ?_
  refine L_X_Ri C0 kV_RL_114 (c_X_stands h) rfl rfl (by decide) (Nat.le_of_ble_eq_true rfl) dL_law_873 (fun rX h => ?_)
  refine L_aload C0 2 dL_law_876 rfl rfl ?_
  refine L_arg C0 (j := 1) (by omega) dL_law_877 dL_law_878 dL_law_879 dL_law_880 dL_law_881 (by decide) ?_
  refine L_arg C0 (j := 2) (by omega) dL_law_882 dL_law_883 dL_law_884 dL_law_885 dL_law_886 (by decide) ?_
  refine L_M_Ri C0 kV_RL_117 (c_M_stands h) rfl rfl (by decide) (Nat.le_of_ble_eq_true rfl) dL_law_887 (fun rM h => ?_)
  exact L_eq C0 (tgt := 1356) dL_law_890 rfl h.1 (hk _ _ h.2)
set_option maxRecDepth 20000 in
set_option maxHeartbeats 4000000 in
theorem law_case_25 (C0 : LC p s m meth c b L xs D cI cZ cS) {Rel : Mem → Mem → Prop} {i : Nat} (hi : i + 6 ≤ L) (h : w_X_watch (xs (i + 1)) ux (fun rX => w_M_watch (xs (i + 1)) um (fun rM => rX = rM ∧ Rel ux um))) (hk : ∀ ux um, Rel ux um → LJ p l e s m below meth c b D cI cZ cS adx adm 1356 (lvI b adx adm i) ([]) ux um) : LJ p l e s m below meth c b D cI cZ cS adx adm 895 (lvI b adx adm i) ([]) ux um := by
  refine L_aload C0 1 dL_law_895 rfl rfl ?_
  refine L_arg C0 (j := 1) (by omega) dL_law_896 dL_law_897 dL_law_898 dL_law_899 dL_law_900 (by decide) ?_
  refine L_X_Ri C0 kV_RL_118 (c_X_watch h) rfl rfl (by decide) (Nat.le_of_ble_eq_true rfl) dL_law_901 (fun rX h => ?_)
  refine L_aload C0 2 dL_law_904 rfl rfl ?_
  refine L_arg C0 (j := 1) (by omega) dL_law_905 dL_law_906 dL_law_907 dL_law_908 dL_law_909 (by decide) ?_
  refine L_M_Ri C0 kV_RL_121 (c_M_watch h) rfl rfl (by decide) (Nat.le_of_ble_eq_true rfl) dL_law_910 (fun rM h => ?_)
  exact L_eq C0 (tgt := 1356) dL_law_913 rfl h.1 (hk _ _ h.2)
set_option maxRecDepth 20000 in
set_option maxHeartbeats 4000000 in
theorem law_case_26 (C0 : LC p s m meth c b L xs D cI cZ cS) {Rel : Mem → Mem → Prop} {i : Nat} (hi : i + 6 ≤ L) (h : w_X_moved (xs (i + 1)) ux (fun rX wX => w_M_moved (xs (i + 1)) um (fun rM wM => rX = rM ∧ Rel wX wM))) (hk : ∀ ux um, Rel ux um → LJ p l e s m below meth c b D cI cZ cS adx adm 1356 (lvI b adx adm i) ([]) ux um) : LJ p l e s m below meth c b D cI cZ cS adx adm 918 (lvI b adx adm i) ([]) ux um := by
  refine L_aload C0 1 dL_law_918 rfl rfl ?_
  refine L_arg C0 (j := 1) (by omega) dL_law_919 dL_law_920 dL_law_921 dL_law_922 dL_law_923 (by decide) ?_
  refine L_X_Wi C0 kV_RL_122 (c_X_moved h) rfl rfl (by decide) (Nat.le_of_ble_eq_true rfl) dL_law_924 (fun rX ux h => ?_)
  refine L_aload C0 2 dL_law_927 rfl rfl ?_
  refine L_arg C0 (j := 1) (by omega) dL_law_928 dL_law_929 dL_law_930 dL_law_931 dL_law_932 (by decide) ?_
  refine L_M_Wi C0 kV_RL_125 (c_M_moved h) rfl rfl (by decide) (Nat.le_of_ble_eq_true rfl) dL_law_933 (fun rM um h => ?_)
  exact L_eq C0 (tgt := 1356) dL_law_936 rfl h.1 (hk _ _ h.2)
set_option maxRecDepth 20000 in
set_option maxHeartbeats 4000000 in
theorem law_case_27 (C0 : LC p s m meth c b L xs D cI cZ cS) {Rel : Mem → Mem → Prop} {i : Nat} (hi : i + 6 ≤ L) (h : w_X_cat (xs (i + 1)) (xs (i + 2)) (xs (i + 3)) ux (fun rX wX => w_M_cat (xs (i + 1)) (xs (i + 2)) (xs (i + 3)) um (fun rM wM => rX = rM ∧ Rel wX wM))) (hk : ∀ ux um, Rel ux um → LJ p l e s m below meth c b D cI cZ cS adx adm 1356 (lvI b adx adm i) ([]) ux um) : LJ p l e s m below meth c b D cI cZ cS adx adm 941 (lvI b adx adm i) ([]) ux um := by
  refine L_aload C0 1 dL_law_941 rfl rfl ?_
  refine L_arg C0 (j := 1) (by omega) dL_law_942 dL_law_943 dL_law_944 dL_law_945 dL_law_946 (by decide) ?_
  refine L_arg C0 (j := 2) (by omega) dL_law_947 dL_law_948 dL_law_949 dL_law_950 dL_law_951 (by decide) ?_
  refine L_arg C0 (j := 3) (by omega) dL_law_952 dL_law_953 dL_law_954 dL_law_955 dL_law_956 (by decide) ?_
  refine L_X_Wl C0 kV_RL_126 (c_X_cat h) rfl rfl (by decide) (Nat.le_of_ble_eq_true rfl) dL_law_957 (fun rX ux h => ?_)
  refine L_aload C0 2 dL_law_960 rfl rfl ?_
  refine L_arg C0 (j := 1) (by omega) dL_law_961 dL_law_962 dL_law_963 dL_law_964 dL_law_965 (by decide) ?_
  refine L_arg C0 (j := 2) (by omega) dL_law_966 dL_law_967 dL_law_968 dL_law_969 dL_law_970 (by decide) ?_
  refine L_arg C0 (j := 3) (by omega) dL_law_971 dL_law_972 dL_law_973 dL_law_974 dL_law_975 (by decide) ?_
  refine L_M_Wl C0 kV_RL_130 (c_M_cat h) rfl rfl (by decide) (Nat.le_of_ble_eq_true rfl) dL_law_976 (fun rM um h => ?_)
  refine L_lcmp C0 dL_law_979 ?_
  exact L_eq0 C0 (tgt := 1356) dL_law_980 rfl (by rw [h.1]; simp [lg_cmp]) (hk _ _ h.2)
set_option maxRecDepth 20000 in
set_option maxHeartbeats 4000000 in
theorem law_case_28 (C0 : LC p s m meth c b L xs D cI cZ cS) {Rel : Mem → Mem → Prop} {i : Nat} (hi : i + 6 ≤ L) (h : w_X_let (xs (i + 1)) (xs (i + 2)) ux (fun rX wX => w_M_let (xs (i + 1)) (xs (i + 2)) um (fun rM wM => rX = rM ∧ Rel wX wM))) (hk : ∀ ux um, Rel ux um → LJ p l e s m below meth c b D cI cZ cS adx adm 1356 (lvI b adx adm i) ([]) ux um) : LJ p l e s m below meth c b D cI cZ cS adx adm 985 (lvI b adx adm i) ([]) ux um := by
  refine L_aload C0 1 dL_law_985 rfl rfl ?_
  refine L_arg C0 (j := 1) (by omega) dL_law_986 dL_law_987 dL_law_988 dL_law_989 dL_law_990 (by decide) ?_
  refine L_arg C0 (j := 2) (by omega) dL_law_991 dL_law_992 dL_law_993 dL_law_994 dL_law_995 (by decide) ?_
  refine L_X_Wi C0 kV_RL_131 (c_X_let h) rfl rfl (by decide) (Nat.le_of_ble_eq_true rfl) dL_law_996 (fun rX ux h => ?_)
  refine L_aload C0 2 dL_law_999 rfl rfl ?_
  refine L_arg C0 (j := 1) (by omega) dL_law_1000 dL_law_1001 dL_law_1002 dL_law_1003 dL_law_1004 (by decide) ?_
  refine L_arg C0 (j := 2) (by omega) dL_law_1005 dL_law_1006 dL_law_1007 dL_law_1008 dL_law_1009 (by decide) ?_
  refine L_M_Wi C0 kV_RL_134 (c_M_let h) rfl rfl (by decide) (Nat.le_of_ble_eq_true rfl) dL_law_1010 (fun rM um h => ?_)
  exact L_eq C0 (tgt := 1356) dL_law_1013 rfl h.1 (hk _ _ h.2)
set_option maxRecDepth 20000 in
set_option maxHeartbeats 4000000 in
theorem law_case_29 (C0 : LC p s m meth c b L xs D cI cZ cS) {Rel : Mem → Mem → Prop} {i : Nat} (hi : i + 6 ≤ L) (h : w_X_lot (xs (i + 1)) (xs (i + 2)) (xs (i + 3)) ux (fun rX wX => w_M_lot (xs (i + 1)) (xs (i + 2)) (xs (i + 3)) um (fun rM wM => rX = rM ∧ Rel wX wM))) (hk : ∀ ux um, Rel ux um → LJ p l e s m below meth c b D cI cZ cS adx adm 1356 (lvI b adx adm i) ([]) ux um) : LJ p l e s m below meth c b D cI cZ cS adx adm 1018 (lvI b adx adm i) ([]) ux um := by
  refine L_aload C0 1 dL_law_1018 rfl rfl ?_
  refine L_arg C0 (j := 1) (by omega) dL_law_1019 dL_law_1020 dL_law_1021 dL_law_1022 dL_law_1023 (by decide) ?_
  refine L_arg C0 (j := 2) (by omega) dL_law_1024 dL_law_1025 dL_law_1026 dL_law_1027 dL_law_1028 (by decide) ?_
  refine L_arg C0 (j := 3) (by omega) dL_law_1029 dL_law_1030 dL_law_1031 dL_law_1032 dL_law_1033 (by decide) ?_
  refine L_X_Wi C0 kV_RL_135 (c_X_lot h) rfl rfl (by decide) (Nat.le_of_ble_eq_true rfl) dL_law_1034 (fun rX ux h => ?_)
  refine L_aload C0 2 dL_law_1037 rfl rfl ?_
  refine L_arg C0 (j := 1) (by omega) dL_law_1038 dL_law_1039 dL_law_1040 dL_law_1041 dL_law_1042 (by decide) ?_
  refine L_arg C0 (j := 2) (by omega) dL_law_1043 dL_law_1044 dL_law_1045 dL_law_1046 dL_law_1047 (by decide) ?_
  refine L_arg C0 (j := 3) (by omega) dL_law_1048 dL_law_1049 dL_law_1050 dL_law_1051 dL_law_1052 (by decide) ?_
  refine L_M_Wi C0 kV_RL_138 (c_M_lot h) rfl rfl (by decide) (Nat.le_of_ble_eq_true rfl) dL_law_1053 (fun rM um h => ?_)
  exact L_eq C0 (tgt := 1356) dL_law_1056 rfl h.1 (hk _ _ h.2)
set_option maxRecDepth 20000 in
set_option maxHeartbeats 4000000 in
theorem law_case_30 (C0 : LC p s m meth c b L xs D cI cZ cS) {Rel : Mem → Mem → Prop} {i : Nat} (hi : i + 6 ≤ L) (h : w_X_sheet (xs (i + 1)) (xs (i + 2)) (xs (i + 3)) ux (fun rX wX => w_M_sheet (xs (i + 1)) (xs (i + 2)) (xs (i + 3)) um (fun rM wM => rX = rM ∧ Rel wX wM))) (hk : ∀ ux um, Rel ux um → LJ p l e s m below meth c b D cI cZ cS adx adm 1356 (lvI b adx adm i) ([]) ux um) : LJ p l e s m below meth c b D cI cZ cS adx adm 1061 (lvI b adx adm i) ([]) ux um := by
  refine L_aload C0 1 dL_law_1061 rfl rfl ?_
  refine L_arg C0 (j := 1) (by omega) dL_law_1062 dL_law_1063 dL_law_1064 dL_law_1065 dL_law_1066 (by decide) ?_
  refine L_arg C0 (j := 2) (by omega) dL_law_1067 dL_law_1068 dL_law_1069 dL_law_1070 dL_law_1071 (by decide) ?_
  refine L_arg C0 (j := 3) (by omega) dL_law_1072 dL_law_1073 dL_law_1074 dL_law_1075 dL_law_1076 (by decide) ?_
  refine L_X_Wi C0 kV_RL_139 (c_X_sheet h) rfl rfl (by decide) (Nat.le_of_ble_eq_true rfl) dL_law_1077 (fun rX ux h => ?_)
  refine L_aload C0 2 dL_law_1080 rfl rfl ?_
  refine L_arg C0 (j := 1) (by omega) dL_law_1081 dL_law_1082 dL_law_1083 dL_law_1084 dL_law_1085 (by decide) ?_
  refine L_arg C0 (j := 2) (by omega) dL_law_1086 dL_law_1087 dL_law_1088 dL_law_1089 dL_law_1090 (by decide) ?_
  refine L_arg C0 (j := 3) (by omega) dL_law_1091 dL_law_1092 dL_law_1093 dL_law_1094 dL_law_1095 (by decide) ?_
  refine L_M_Wi C0 kV_RL_142 (c_M_sheet h) rfl rfl (by decide) (Nat.le_of_ble_eq_true rfl) dL_law_1096 (fun rM um h => ?_)
  exact L_eq C0 (tgt := 1356) dL_law_1099 rfl h.1 (hk _ _ h.2)
set_option maxRecDepth 20000 in
set_option maxHeartbeats 4000000 in
theorem law_case_31 (C0 : LC p s m meth c b L xs D cI cZ cS) {Rel : Mem → Mem → Prop} {i : Nat} (hi : i + 6 ≤ L) (h : w_X_lose (xs (i + 1)) ux (fun rX wX => w_M_lose (xs (i + 1)) um (fun rM wM => rX = rM ∧ Rel wX wM))) (hk : ∀ ux um, Rel ux um → LJ p l e s m below meth c b D cI cZ cS adx adm 1356 (lvI b adx adm i) ([]) ux um) : LJ p l e s m below meth c b D cI cZ cS adx adm 1104 (lvI b adx adm i) ([]) ux um := by
  refine L_aload C0 1 dL_law_1104 rfl rfl ?_
  refine L_arg C0 (j := 1) (by omega) dL_law_1105 dL_law_1106 dL_law_1107 dL_law_1108 dL_law_1109 (by decide) ?_
  refine L_X_Wi C0 kV_RL_143 (c_X_lose h) rfl rfl (by decide) (Nat.le_of_ble_eq_true rfl) dL_law_1110 (fun rX ux h => ?_)
  refine L_aload C0 2 dL_law_1113 rfl rfl ?_
  refine L_arg C0 (j := 1) (by omega) dL_law_1114 dL_law_1115 dL_law_1116 dL_law_1117 dL_law_1118 (by decide) ?_
  refine L_M_Wi C0 kV_RL_146 (c_M_lose h) rfl rfl (by decide) (Nat.le_of_ble_eq_true rfl) dL_law_1119 (fun rM um h => ?_)
  exact L_eq C0 (tgt := 1356) dL_law_1122 rfl h.1 (hk _ _ h.2)
set_option maxRecDepth 20000 in
set_option maxHeartbeats 4000000 in
theorem law_case_32 (C0 : LC p s m meth c b L xs D cI cZ cS) {Rel : Mem → Mem → Prop} {i : Nat} (hi : i + 6 ≤ L) (h : w_X_put (xs (i + 1)) (xs (i + 2)) (xs (i + 3)) (xs (i + 4)) ux (fun rX wX => w_M_put (xs (i + 1)) (xs (i + 2)) (xs (i + 3)) (xs (i + 4)) um (fun rM wM => rX = rM ∧ Rel wX wM))) (hk : ∀ ux um, Rel ux um → LJ p l e s m below meth c b D cI cZ cS adx adm 1356 (lvI b adx adm i) ([]) ux um) : LJ p l e s m below meth c b D cI cZ cS adx adm 1127 (lvI b adx adm i) ([]) ux um := by
  refine L_aload C0 1 dL_law_1127 rfl rfl ?_
  refine L_arg C0 (j := 1) (by omega) dL_law_1128 dL_law_1129 dL_law_1130 dL_law_1131 dL_law_1132 (by decide) ?_
  refine L_arg C0 (j := 2) (by omega) dL_law_1133 dL_law_1134 dL_law_1135 dL_law_1136 dL_law_1137 (by decide) ?_
  refine L_arg C0 (j := 3) (by omega) dL_law_1138 dL_law_1139 dL_law_1140 dL_law_1141 dL_law_1142 (by decide) ?_
  refine L_arg C0 (j := 4) (by omega) dL_law_1143 dL_law_1144 dL_law_1145 dL_law_1146 dL_law_1147 (by decide) ?_
  refine L_X_Wi C0 kV_RL_147 (c_X_put h) rfl rfl (by decide) (Nat.le_of_ble_eq_true rfl) dL_law_1148 (fun rX ux h => ?_)
  refine L_aload C0 2 dL_law_1151 rfl rfl ?_
  refine L_arg C0 (j := 1) (by omega) dL_law_1152 dL_law_1153 dL_law_1154 dL_law_1155 dL_law_1156 (by decide) ?_
  refine L_arg C0 (j := 2) (by omega) dL_law_1157 dL_law_1158 dL_law_1159 dL_law_1160 dL_law_1161 (by decide) ?_
  refine L_arg C0 (j := 3) (by omega) dL_law_1162 dL_law_1163 dL_law_1164 dL_law_1165 dL_law_1166 (by decide) ?_
  refine L_arg C0 (j := 4) (by omega) dL_law_1167 dL_law_1168 dL_law_1169 dL_law_1170 dL_law_1171 (by decide) ?_
  refine L_M_Wi C0 kV_RL_150 (c_M_put h) rfl rfl (by decide) (Nat.le_of_ble_eq_true rfl) dL_law_1172 (fun rM um h => ?_)
  exact L_eq C0 (tgt := 1356) dL_law_1175 rfl h.1 (hk _ _ h.2)
set_option maxRecDepth 20000 in
set_option maxHeartbeats 4000000 in
theorem law_case_33 (C0 : LC p s m meth c b L xs D cI cZ cS) {Rel : Mem → Mem → Prop} {i : Nat} (hi : i + 6 ≤ L) (h : w_X_get (xs (i + 1)) (xs (i + 2)) (xs (i + 3)) ux (fun rX wX => w_M_get (xs (i + 1)) (xs (i + 2)) (xs (i + 3)) um (fun rM wM => rX = rM ∧ Rel wX wM))) (hk : ∀ ux um, Rel ux um → LJ p l e s m below meth c b D cI cZ cS adx adm 1356 (lvI b adx adm i) ([]) ux um) : LJ p l e s m below meth c b D cI cZ cS adx adm 1180 (lvI b adx adm i) ([]) ux um := by
  refine L_aload C0 1 dL_law_1180 rfl rfl ?_
  refine L_arg C0 (j := 1) (by omega) dL_law_1181 dL_law_1182 dL_law_1183 dL_law_1184 dL_law_1185 (by decide) ?_
  refine L_arg C0 (j := 2) (by omega) dL_law_1186 dL_law_1187 dL_law_1188 dL_law_1189 dL_law_1190 (by decide) ?_
  refine L_arg C0 (j := 3) (by omega) dL_law_1191 dL_law_1192 dL_law_1193 dL_law_1194 dL_law_1195 (by decide) ?_
  refine L_X_Wi C0 kV_RL_151 (c_X_get h) rfl rfl (by decide) (Nat.le_of_ble_eq_true rfl) dL_law_1196 (fun rX ux h => ?_)
  refine L_aload C0 2 dL_law_1199 rfl rfl ?_
  refine L_arg C0 (j := 1) (by omega) dL_law_1200 dL_law_1201 dL_law_1202 dL_law_1203 dL_law_1204 (by decide) ?_
  refine L_arg C0 (j := 2) (by omega) dL_law_1205 dL_law_1206 dL_law_1207 dL_law_1208 dL_law_1209 (by decide) ?_
  refine L_arg C0 (j := 3) (by omega) dL_law_1210 dL_law_1211 dL_law_1212 dL_law_1213 dL_law_1214 (by decide) ?_
  refine L_M_Wi C0 kV_RL_154 (c_M_get h) rfl rfl (by decide) (Nat.le_of_ble_eq_true rfl) dL_law_1215 (fun rM um h => ?_)
  exact L_eq C0 (tgt := 1356) dL_law_1218 rfl h.1 (hk _ _ h.2)
set_option maxRecDepth 20000 in
set_option maxHeartbeats 4000000 in
theorem law_case_34 (C0 : LC p s m meth c b L xs D cI cZ cS) {Rel : Mem → Mem → Prop} {i : Nat} (hi : i + 6 ≤ L) (h : w_X_copy (xs (i + 1)) (xs (i + 2)) (xs (i + 3)) (xs (i + 4)) (xs (i + 5)) ux (fun rX wX => w_M_copy (xs (i + 1)) (xs (i + 2)) (xs (i + 3)) (xs (i + 4)) (xs (i + 5)) um (fun rM wM => rX = rM ∧ Rel wX wM))) (hk : ∀ ux um, Rel ux um → LJ p l e s m below meth c b D cI cZ cS adx adm 1356 (lvI b adx adm i) ([]) ux um) : LJ p l e s m below meth c b D cI cZ cS adx adm 1223 (lvI b adx adm i) ([]) ux um := by
  refine L_aload C0 1 dL_law_1223 rfl rfl ?_
  refine L_arg C0 (j := 1) (by omega) dL_law_1224 dL_law_1225 dL_law_1226 dL_law_1227 dL_law_1228 (by decide) ?_
  refine L_arg C0 (j := 2) (by omega) dL_law_1229 dL_law_1230 dL_law_1231 dL_law_1232 dL_law_1233 (by decide) ?_
  refine L_arg C0 (j := 3) (by omega) dL_law_1234 dL_law_1235 dL_law_1236 dL_law_1237 dL_law_1238 (by decide) ?_
  refine L_arg C0 (j := 4) (by omega) dL_law_1239 dL_law_1240 dL_law_1241 dL_law_1242 dL_law_1243 (by decide) ?_
  refine L_arg C0 (j := 5) (by omega) dL_law_1244 dL_law_1245 dL_law_1246 dL_law_1247 dL_law_1248 (by decide) ?_
  refine L_X_Wi C0 kV_RL_155 (c_X_copy h) rfl rfl (by decide) (Nat.le_of_ble_eq_true rfl) dL_law_1249 (fun rX ux h => ?_)
  refine L_aload C0 2 dL_law_1252 rfl rfl ?_
  refine L_arg C0 (j := 1) (by omega) dL_law_1253 dL_law_1254 dL_law_1255 dL_law_1256 dL_law_1257 (by decide) ?_
  refine L_arg C0 (j := 2) (by omega) dL_law_1258 dL_law_1259 dL_law_1260 dL_law_1261 dL_law_1262 (by decide) ?_
  refine L_arg C0 (j := 3) (by omega) dL_law_1263 dL_law_1264 dL_law_1265 dL_law_1266 dL_law_1267 (by decide) ?_
  refine L_arg C0 (j := 4) (by omega) dL_law_1268 dL_law_1269 dL_law_1270 dL_law_1271 dL_law_1272 (by decide) ?_
  refine L_arg C0 (j := 5) (by omega) dL_law_1273 dL_law_1274 dL_law_1275 dL_law_1276 dL_law_1277 (by decide) ?_
  refine L_M_Wi C0 kV_RL_159 (c_M_copy h) rfl rfl (by decide) (Nat.le_of_ble_eq_true rfl) dL_law_1278 (fun rM um h => ?_)
  exact L_eq C0 (tgt := 1356) dL_law_1281 rfl h.1 (hk _ _ h.2)
set_option maxRecDepth 20000 in
set_option maxHeartbeats 4000000 in
theorem law_case_35 (C0 : LC p s m meth c b L xs D cI cZ cS) {Rel : Mem → Mem → Prop} {i : Nat} (hi : i + 6 ≤ L) (h : w_X_write (xs (i + 1)) (xs (i + 2)) ux (fun rX wX => w_M_write (xs (i + 1)) (xs (i + 2)) um (fun rM wM => rX = rM ∧ Rel wX wM))) (hk : ∀ ux um, Rel ux um → LJ p l e s m below meth c b D cI cZ cS adx adm 1356 (lvI b adx adm i) ([]) ux um) : LJ p l e s m below meth c b D cI cZ cS adx adm 1286 (lvI b adx adm i) ([]) ux um := by
  refine L_aload C0 1 dL_law_1286 rfl rfl ?_
  refine L_arg C0 (j := 1) (by omega) dL_law_1287 dL_law_1288 dL_law_1289 dL_law_1290 dL_law_1291 (by decide) ?_
  refine L_arg C0 (j := 2) (by omega) dL_law_1292 dL_law_1293 dL_law_1294 dL_law_1295 dL_law_1296 (by decide) ?_
  refine L_X_Wi C0 kV_RL_160 (c_X_write h) rfl rfl (by decide) (Nat.le_of_ble_eq_true rfl) dL_law_1297 (fun rX ux h => ?_)
  refine L_aload C0 2 dL_law_1300 rfl rfl ?_
  refine L_arg C0 (j := 1) (by omega) dL_law_1301 dL_law_1302 dL_law_1303 dL_law_1304 dL_law_1305 (by decide) ?_
  refine L_arg C0 (j := 2) (by omega) dL_law_1306 dL_law_1307 dL_law_1308 dL_law_1309 dL_law_1310 (by decide) ?_
  refine L_M_Wi C0 kV_RL_163 (c_M_write h) rfl rfl (by decide) (Nat.le_of_ble_eq_true rfl) dL_law_1311 (fun rM um h => ?_)
  exact L_eq C0 (tgt := 1356) dL_law_1314 rfl h.1 (hk _ _ h.2)
set_option maxRecDepth 20000 in
set_option maxHeartbeats 4000000 in
theorem law_case_36 (C0 : LC p s m meth c b L xs D cI cZ cS) {Rel : Mem → Mem → Prop} {i : Nat} (hi : i + 6 ≤ L) (h : w_X_count (xs (i + 1)) ux (fun rX => w_M_count (xs (i + 1)) um (fun rM wM => rX = rM ∧ Rel ux wM))) (hk : ∀ ux um, Rel ux um → LJ p l e s m below meth c b D cI cZ cS adx adm 1356 (lvI b adx adm i) ([]) ux um) : LJ p l e s m below meth c b D cI cZ cS adx adm 1319 (lvI b adx adm i) ([]) ux um := by
  refine L_aload C0 1 dL_law_1319 rfl rfl ?_
  refine L_arg C0 (j := 1) (by omega) dL_law_1320 dL_law_1321 dL_law_1322 dL_law_1323 dL_law_1324 (by decide) ?_
  refine L_X_Ri C0 kV_RL_164 (c_X_count h) rfl rfl (by decide) (Nat.le_of_ble_eq_true rfl) dL_law_1325 (fun rX h => ?_)
  refine L_aload C0 2 dL_law_1328 rfl rfl ?_
  refine L_arg C0 (j := 1) (by omega) dL_law_1329 dL_law_1330 dL_law_1331 dL_law_1332 dL_law_1333 (by decide) ?_
  refine L_M_Wi C0 kV_RL_167 (c_M_count h) rfl rfl (by decide) (Nat.le_of_ble_eq_true rfl) dL_law_1334 (fun rM um h => ?_)
  exact L_eq C0 (tgt := 1356) dL_law_1337 rfl h.1 (hk _ _ h.2)
set_option maxRecDepth 20000 in
set_option maxHeartbeats 4000000 in
theorem law_case_37 (C0 : LC p s m meth c b L xs D cI cZ cS) {Rel : Mem → Mem → Prop} {i : Nat} (hi : i + 6 ≤ L) (h : w_X_digest ux (fun rX wX => w_M_digest um (fun rM wM => rX = rM ∧ Rel wX wM))) (hk : ∀ ux um, Rel ux um → LJ p l e s m below meth c b D cI cZ cS adx adm 1356 (lvI b adx adm i) ([]) ux um) : LJ p l e s m below meth c b D cI cZ cS adx adm 1342 (lvI b adx adm i) ([]) ux um := by
  refine L_aload C0 1 dL_law_1342 rfl rfl ?_
  refine L_X_Wl C0 kV_RL_168 (c_X_digest h) rfl rfl (by decide) (Nat.le_of_ble_eq_true rfl) dL_law_1343 (fun rX ux h => ?_)
  refine L_aload C0 2 dL_law_1346 rfl rfl ?_
  refine L_M_Wl C0 kV_RL_172 (c_M_digest h) rfl rfl (by decide) (Nat.le_of_ble_eq_true rfl) dL_law_1347 (fun rM um h => ?_)
  refine L_lcmp C0 dL_law_1350 ?_
  exact L_eq0 C0 (tgt := 1356) dL_law_1351 rfl (by rw [h.1]; simp [lg_cmp]) (hk _ _ h.2)
/-- what the pure half owes: every public call answers alike on both, and the relation stays -/
def Steps_ok (Rel : Mem → Mem → Prop) : Prop := ∀ ux um : Mem, Rel ux um →
  (∀ a1 a2 : Int32, w_X_type a1 a2 ux (fun rX wX => w_M_type a1 a2 um (fun rM wM => rX = rM ∧ Rel wX wM))) ∧
  (∀ a1 : Int32, w_X_wipe a1 ux (fun rX wX => w_M_wipe a1 um (fun rM wM => rX = rM ∧ Rel wX wM))) ∧
  (∀ a1 : Int32, w_X_undo a1 ux (fun rX wX => w_M_undo a1 um (fun rM wM => rX = rM ∧ Rel wX wM))) ∧
  (∀ a1 : Int32, w_X_fault a1 ux (fun rX => w_M_fault a1 um (fun rM wM => rX = rM ∧ Rel ux wM))) ∧
  (∀ a1 a2 : Int32, w_X_rule a1 a2 ux (fun rX => w_M_rule a1 a2 um (fun rM wM => rX = rM ∧ Rel ux wM))) ∧
  (∀ a1 a2 : Int32, w_X_dust a1 a2 ux (fun rX => w_M_dust a1 a2 um (fun rM wM => rX = rM ∧ Rel ux wM))) ∧
  (∀ a1 : Int32, w_X_first a1 ux (fun rX wX => w_M_first a1 um (fun rM wM => rX = rM ∧ Rel wX wM))) ∧
  (∀ a1 : Int32, w_X_comes a1 ux (fun rX wX => w_M_comes a1 um (fun rM wM => rX = rM ∧ Rel wX wM))) ∧
  (∀ a1 : Int32, w_X_lays a1 ux (fun rX => w_M_lays a1 um (fun rM wM => rX = rM ∧ Rel ux wM))) ∧
  (∀ a1 a2 a3 : Int32, w_X_lay a1 a2 a3 ux (fun rX wX => w_M_lay a1 a2 a3 um (fun rM wM => rX = rM ∧ Rel wX wM))) ∧
  (w_X_back ux (fun rX wX => w_M_back um (fun rM wM => rX = rM ∧ Rel wX wM))) ∧
  (∀ a1 a2 : Int32, w_X_week a1 a2 ux (fun rX wX => w_M_week a1 a2 um (fun rM wM => rX = rM ∧ Rel wX wM))) ∧
  (w_X_judged ux (fun rX wX => w_M_judged um (fun rM wM => rX = rM ∧ Rel wX wM))) ∧
  (w_X_two ux (fun rX => w_M_two um (fun rM wM => rX = rM ∧ Rel ux wM))) ∧
  (∀ a1 : Int32, w_X_second a1 ux (fun rX wX => w_M_second a1 um (fun rM wM => rX = rM ∧ Rel wX wM))) ∧
  (∀ a1 a2 a3 a4 : Int32, w_X_touch a1 a2 a3 a4 ux (fun rX wX => w_M_touch a1 a2 a3 a4 um (fun rM wM => rX = rM ∧ Rel wX wM))) ∧
  (∀ a1 a2 a3 : Int32, w_X_keepOff a1 a2 a3 ux (fun rX wX => w_M_keepOff a1 a2 a3 um (fun rM wM => rX = rM ∧ Rel wX wM))) ∧
  (∀ a1 : Int32, w_X_bars a1 ux (fun rX wX => w_M_bars a1 um (fun rM wM => rX = rM ∧ Rel wX wM))) ∧
  (∀ a1 a2 a3 : Int32, w_X_play a1 a2 a3 ux (fun rX wX => w_M_play a1 a2 a3 um (fun rM wM => rX = rM ∧ Rel wX wM))) ∧
  (∀ a1 : Int32, w_X_steady a1 ux (fun rX wX => w_M_steady a1 um (fun rM wM => rX = rM ∧ Rel wX wM))) ∧
  (∀ a1 a2 : Int32, w_X_round a1 a2 ux (fun rX wX => w_M_round a1 a2 um (fun rM wM => rX = rM ∧ Rel wX wM))) ∧
  (∀ a1 a2 : Int32, w_X_seen a1 a2 ux (fun rX wX => w_M_seen a1 a2 um (fun rM wM => rX = rM ∧ Rel wX wM))) ∧
  (w_X_forget ux (fun rX wX => w_M_forget um (fun rM wM => rX = rM ∧ Rel wX wM))) ∧
  (∀ a1 : Int32, w_X_read a1 ux (fun rX wX => w_M_read a1 um (fun rM wM => rX = rM ∧ Rel wX wM))) ∧
  (∀ a1 a2 : Int32, w_X_stands a1 a2 ux (fun rX => w_M_stands a1 a2 um (fun rM => rX = rM ∧ Rel ux um))) ∧
  (∀ a1 : Int32, w_X_watch a1 ux (fun rX => w_M_watch a1 um (fun rM => rX = rM ∧ Rel ux um))) ∧
  (∀ a1 : Int32, w_X_moved a1 ux (fun rX wX => w_M_moved a1 um (fun rM wM => rX = rM ∧ Rel wX wM))) ∧
  (∀ a1 a2 a3 : Int32, w_X_cat a1 a2 a3 ux (fun rX wX => w_M_cat a1 a2 a3 um (fun rM wM => rX = rM ∧ Rel wX wM))) ∧
  (∀ a1 a2 : Int32, w_X_let a1 a2 ux (fun rX wX => w_M_let a1 a2 um (fun rM wM => rX = rM ∧ Rel wX wM))) ∧
  (∀ a1 a2 a3 : Int32, w_X_lot a1 a2 a3 ux (fun rX wX => w_M_lot a1 a2 a3 um (fun rM wM => rX = rM ∧ Rel wX wM))) ∧
  (∀ a1 a2 a3 : Int32, w_X_sheet a1 a2 a3 ux (fun rX wX => w_M_sheet a1 a2 a3 um (fun rM wM => rX = rM ∧ Rel wX wM))) ∧
  (∀ a1 : Int32, w_X_lose a1 ux (fun rX wX => w_M_lose a1 um (fun rM wM => rX = rM ∧ Rel wX wM))) ∧
  (∀ a1 a2 a3 a4 : Int32, w_X_put a1 a2 a3 a4 ux (fun rX wX => w_M_put a1 a2 a3 a4 um (fun rM wM => rX = rM ∧ Rel wX wM))) ∧
  (∀ a1 a2 a3 : Int32, w_X_get a1 a2 a3 ux (fun rX wX => w_M_get a1 a2 a3 um (fun rM wM => rX = rM ∧ Rel wX wM))) ∧
  (∀ a1 a2 a3 a4 a5 : Int32, w_X_copy a1 a2 a3 a4 a5 ux (fun rX wX => w_M_copy a1 a2 a3 a4 a5 um (fun rM wM => rX = rM ∧ Rel wX wM))) ∧
  (∀ a1 a2 : Int32, w_X_write a1 a2 ux (fun rX wX => w_M_write a1 a2 um (fun rM wM => rX = rM ∧ Rel wX wM))) ∧
  (∀ a1 : Int32, w_X_count a1 ux (fun rX => w_M_count a1 um (fun rM wM => rX = rM ∧ Rel ux wM))) ∧
  (w_X_digest ux (fun rX wX => w_M_digest um (fun rM wM => rX = rM ∧ Rel wX wM)))
theorem sw_0_37 (x : Int32) : x = 0 ∨ x = 1 ∨ x = 2 ∨ x = 3 ∨ x = 4 ∨ x = 5 ∨ x = 6 ∨ x = 7 ∨ x = 8 ∨ x = 9 ∨ x = 10 ∨ x = 11 ∨ x = 12 ∨ x = 13 ∨ x = 14 ∨ x = 15 ∨ x = 16 ∨ x = 17 ∨ x = 18 ∨ x = 19 ∨ x = 20 ∨ x = 21 ∨ x = 22 ∨ x = 23 ∨ x = 24 ∨ x = 25 ∨ x = 26 ∨ x = 27 ∨ x = 28 ∨ x = 29 ∨ x = 30 ∨ x = 31 ∨ x = 32 ∨ x = 33 ∨ x = 34 ∨ x = 35 ∨ x = 36 ∨ x = 37 ∨ (x.toInt < 0 ∨ 37 < x.toInt) := by
  rcases (show x.toInt = 0 ∨ x.toInt = 1 ∨ x.toInt = 2 ∨ x.toInt = 3 ∨ x.toInt = 4 ∨ x.toInt = 5 ∨ x.toInt = 6 ∨ x.toInt = 7 ∨ x.toInt = 8 ∨ x.toInt = 9 ∨ x.toInt = 10 ∨ x.toInt = 11 ∨ x.toInt = 12 ∨ x.toInt = 13 ∨ x.toInt = 14 ∨ x.toInt = 15 ∨ x.toInt = 16 ∨ x.toInt = 17 ∨ x.toInt = 18 ∨ x.toInt = 19 ∨ x.toInt = 20 ∨ x.toInt = 21 ∨ x.toInt = 22 ∨ x.toInt = 23 ∨ x.toInt = 24 ∨ x.toInt = 25 ∨ x.toInt = 26 ∨ x.toInt = 27 ∨ x.toInt = 28 ∨ x.toInt = 29 ∨ x.toInt = 30 ∨ x.toInt = 31 ∨ x.toInt = 32 ∨ x.toInt = 33 ∨ x.toInt = 34 ∨ x.toInt = 35 ∨ x.toInt = 36 ∨ x.toInt = 37 ∨ (x.toInt < 0 ∨ 37 < x.toInt) by omega) with h | h | h | h | h | h | h | h | h | h | h | h | h | h | h | h | h | h | h | h | h | h | h | h | h | h | h | h | h | h | h | h | h | h | h | h | h | h | h
  · exact Or.inl (Int32.toInt_inj.mp (by rw [h]; rfl))
  · exact Or.inr (Or.inl (Int32.toInt_inj.mp (by rw [h]; rfl)))
  · exact Or.inr (Or.inr (Or.inl (Int32.toInt_inj.mp (by rw [h]; rfl))))
  · exact Or.inr (Or.inr (Or.inr (Or.inl (Int32.toInt_inj.mp (by rw [h]; rfl)))))
  · exact Or.inr (Or.inr (Or.inr (Or.inr (Or.inl (Int32.toInt_inj.mp (by rw [h]; rfl))))))
  · exact Or.inr (Or.inr (Or.inr (Or.inr (Or.inr (Or.inl (Int32.toInt_inj.mp (by rw [h]; rfl)))))))
  · exact Or.inr (Or.inr (Or.inr (Or.inr (Or.inr (Or.inr (Or.inl (Int32.toInt_inj.mp (by rw [h]; rfl))))))))
  · exact Or.inr (Or.inr (Or.inr (Or.inr (Or.inr (Or.inr (Or.inr (Or.inl (Int32.toInt_inj.mp (by rw [h]; rfl)))))))))
  · exact Or.inr (Or.inr (Or.inr (Or.inr (Or.inr (Or.inr (Or.inr (Or.inr (Or.inl (Int32.toInt_inj.mp (by rw [h]; rfl))))))))))
  · exact Or.inr (Or.inr (Or.inr (Or.inr (Or.inr (Or.inr (Or.inr (Or.inr (Or.inr (Or.inl (Int32.toInt_inj.mp (by rw [h]; rfl)))))))))))
  · exact Or.inr (Or.inr (Or.inr (Or.inr (Or.inr (Or.inr (Or.inr (Or.inr (Or.inr (Or.inr (Or.inl (Int32.toInt_inj.mp (by rw [h]; rfl))))))))))))
  · exact Or.inr (Or.inr (Or.inr (Or.inr (Or.inr (Or.inr (Or.inr (Or.inr (Or.inr (Or.inr (Or.inr (Or.inl (Int32.toInt_inj.mp (by rw [h]; rfl)))))))))))))
  · exact Or.inr (Or.inr (Or.inr (Or.inr (Or.inr (Or.inr (Or.inr (Or.inr (Or.inr (Or.inr (Or.inr (Or.inr (Or.inl (Int32.toInt_inj.mp (by rw [h]; rfl))))))))))))))
  · exact Or.inr (Or.inr (Or.inr (Or.inr (Or.inr (Or.inr (Or.inr (Or.inr (Or.inr (Or.inr (Or.inr (Or.inr (Or.inr (Or.inl (Int32.toInt_inj.mp (by rw [h]; rfl)))))))))))))))
  · exact Or.inr (Or.inr (Or.inr (Or.inr (Or.inr (Or.inr (Or.inr (Or.inr (Or.inr (Or.inr (Or.inr (Or.inr (Or.inr (Or.inr (Or.inl (Int32.toInt_inj.mp (by rw [h]; rfl))))))))))))))))
  · exact Or.inr (Or.inr (Or.inr (Or.inr (Or.inr (Or.inr (Or.inr (Or.inr (Or.inr (Or.inr (Or.inr (Or.inr (Or.inr (Or.inr (Or.inr (Or.inl (Int32.toInt_inj.mp (by rw [h]; rfl)))))))))))))))))
  · exact Or.inr (Or.inr (Or.inr (Or.inr (Or.inr (Or.inr (Or.inr (Or.inr (Or.inr (Or.inr (Or.inr (Or.inr (Or.inr (Or.inr (Or.inr (Or.inr (Or.inl (Int32.toInt_inj.mp (by rw [h]; rfl))))))))))))))))))
  · exact Or.inr (Or.inr (Or.inr (Or.inr (Or.inr (Or.inr (Or.inr (Or.inr (Or.inr (Or.inr (Or.inr (Or.inr (Or.inr (Or.inr (Or.inr (Or.inr (Or.inr (Or.inl (Int32.toInt_inj.mp (by rw [h]; rfl)))))))))))))))))))
  · exact Or.inr (Or.inr (Or.inr (Or.inr (Or.inr (Or.inr (Or.inr (Or.inr (Or.inr (Or.inr (Or.inr (Or.inr (Or.inr (Or.inr (Or.inr (Or.inr (Or.inr (Or.inr (Or.inl (Int32.toInt_inj.mp (by rw [h]; rfl))))))))))))))))))))
  · exact Or.inr (Or.inr (Or.inr (Or.inr (Or.inr (Or.inr (Or.inr (Or.inr (Or.inr (Or.inr (Or.inr (Or.inr (Or.inr (Or.inr (Or.inr (Or.inr (Or.inr (Or.inr (Or.inr (Or.inl (Int32.toInt_inj.mp (by rw [h]; rfl)))))))))))))))))))))
  · exact Or.inr (Or.inr (Or.inr (Or.inr (Or.inr (Or.inr (Or.inr (Or.inr (Or.inr (Or.inr (Or.inr (Or.inr (Or.inr (Or.inr (Or.inr (Or.inr (Or.inr (Or.inr (Or.inr (Or.inr (Or.inl (Int32.toInt_inj.mp (by rw [h]; rfl))))))))))))))))))))))
  · exact Or.inr (Or.inr (Or.inr (Or.inr (Or.inr (Or.inr (Or.inr (Or.inr (Or.inr (Or.inr (Or.inr (Or.inr (Or.inr (Or.inr (Or.inr (Or.inr (Or.inr (Or.inr (Or.inr (Or.inr (Or.inr (Or.inl (Int32.toInt_inj.mp (by rw [h]; rfl)))))))))))))))))))))))
  · exact Or.inr (Or.inr (Or.inr (Or.inr (Or.inr (Or.inr (Or.inr (Or.inr (Or.inr (Or.inr (Or.inr (Or.inr (Or.inr (Or.inr (Or.inr (Or.inr (Or.inr (Or.inr (Or.inr (Or.inr (Or.inr (Or.inr (Or.inl (Int32.toInt_inj.mp (by rw [h]; rfl))))))))))))))))))))))))
  · exact Or.inr (Or.inr (Or.inr (Or.inr (Or.inr (Or.inr (Or.inr (Or.inr (Or.inr (Or.inr (Or.inr (Or.inr (Or.inr (Or.inr (Or.inr (Or.inr (Or.inr (Or.inr (Or.inr (Or.inr (Or.inr (Or.inr (Or.inr (Or.inl (Int32.toInt_inj.mp (by rw [h]; rfl)))))))))))))))))))))))))
  · exact Or.inr (Or.inr (Or.inr (Or.inr (Or.inr (Or.inr (Or.inr (Or.inr (Or.inr (Or.inr (Or.inr (Or.inr (Or.inr (Or.inr (Or.inr (Or.inr (Or.inr (Or.inr (Or.inr (Or.inr (Or.inr (Or.inr (Or.inr (Or.inr (Or.inl (Int32.toInt_inj.mp (by rw [h]; rfl))))))))))))))))))))))))))
  · exact Or.inr (Or.inr (Or.inr (Or.inr (Or.inr (Or.inr (Or.inr (Or.inr (Or.inr (Or.inr (Or.inr (Or.inr (Or.inr (Or.inr (Or.inr (Or.inr (Or.inr (Or.inr (Or.inr (Or.inr (Or.inr (Or.inr (Or.inr (Or.inr (Or.inr (Or.inl (Int32.toInt_inj.mp (by rw [h]; rfl)))))))))))))))))))))))))))
  · exact Or.inr (Or.inr (Or.inr (Or.inr (Or.inr (Or.inr (Or.inr (Or.inr (Or.inr (Or.inr (Or.inr (Or.inr (Or.inr (Or.inr (Or.inr (Or.inr (Or.inr (Or.inr (Or.inr (Or.inr (Or.inr (Or.inr (Or.inr (Or.inr (Or.inr (Or.inr (Or.inl (Int32.toInt_inj.mp (by rw [h]; rfl))))))))))))))))))))))))))))
  · exact Or.inr (Or.inr (Or.inr (Or.inr (Or.inr (Or.inr (Or.inr (Or.inr (Or.inr (Or.inr (Or.inr (Or.inr (Or.inr (Or.inr (Or.inr (Or.inr (Or.inr (Or.inr (Or.inr (Or.inr (Or.inr (Or.inr (Or.inr (Or.inr (Or.inr (Or.inr (Or.inr (Or.inl (Int32.toInt_inj.mp (by rw [h]; rfl)))))))))))))))))))))))))))))
  · exact Or.inr (Or.inr (Or.inr (Or.inr (Or.inr (Or.inr (Or.inr (Or.inr (Or.inr (Or.inr (Or.inr (Or.inr (Or.inr (Or.inr (Or.inr (Or.inr (Or.inr (Or.inr (Or.inr (Or.inr (Or.inr (Or.inr (Or.inr (Or.inr (Or.inr (Or.inr (Or.inr (Or.inr (Or.inl (Int32.toInt_inj.mp (by rw [h]; rfl))))))))))))))))))))))))))))))
  · exact Or.inr (Or.inr (Or.inr (Or.inr (Or.inr (Or.inr (Or.inr (Or.inr (Or.inr (Or.inr (Or.inr (Or.inr (Or.inr (Or.inr (Or.inr (Or.inr (Or.inr (Or.inr (Or.inr (Or.inr (Or.inr (Or.inr (Or.inr (Or.inr (Or.inr (Or.inr (Or.inr (Or.inr (Or.inr (Or.inl (Int32.toInt_inj.mp (by rw [h]; rfl)))))))))))))))))))))))))))))))
  · exact Or.inr (Or.inr (Or.inr (Or.inr (Or.inr (Or.inr (Or.inr (Or.inr (Or.inr (Or.inr (Or.inr (Or.inr (Or.inr (Or.inr (Or.inr (Or.inr (Or.inr (Or.inr (Or.inr (Or.inr (Or.inr (Or.inr (Or.inr (Or.inr (Or.inr (Or.inr (Or.inr (Or.inr (Or.inr (Or.inr (Or.inl (Int32.toInt_inj.mp (by rw [h]; rfl))))))))))))))))))))))))))))))))
  · exact Or.inr (Or.inr (Or.inr (Or.inr (Or.inr (Or.inr (Or.inr (Or.inr (Or.inr (Or.inr (Or.inr (Or.inr (Or.inr (Or.inr (Or.inr (Or.inr (Or.inr (Or.inr (Or.inr (Or.inr (Or.inr (Or.inr (Or.inr (Or.inr (Or.inr (Or.inr (Or.inr (Or.inr (Or.inr (Or.inr (Or.inr (Or.inl (Int32.toInt_inj.mp (by rw [h]; rfl)))))))))))))))))))))))))))))))))
  · exact Or.inr (Or.inr (Or.inr (Or.inr (Or.inr (Or.inr (Or.inr (Or.inr (Or.inr (Or.inr (Or.inr (Or.inr (Or.inr (Or.inr (Or.inr (Or.inr (Or.inr (Or.inr (Or.inr (Or.inr (Or.inr (Or.inr (Or.inr (Or.inr (Or.inr (Or.inr (Or.inr (Or.inr (Or.inr (Or.inr (Or.inr (Or.inr (Or.inl (Int32.toInt_inj.mp (by rw [h]; rfl))))))))))))))))))))))))))))))))))
  · exact Or.inr (Or.inr (Or.inr (Or.inr (Or.inr (Or.inr (Or.inr (Or.inr (Or.inr (Or.inr (Or.inr (Or.inr (Or.inr (Or.inr (Or.inr (Or.inr (Or.inr (Or.inr (Or.inr (Or.inr (Or.inr (Or.inr (Or.inr (Or.inr (Or.inr (Or.inr (Or.inr (Or.inr (Or.inr (Or.inr (Or.inr (Or.inr (Or.inr (Or.inl (Int32.toInt_inj.mp (by rw [h]; rfl)))))))))))))))))))))))))))))))))))
  · exact Or.inr (Or.inr (Or.inr (Or.inr (Or.inr (Or.inr (Or.inr (Or.inr (Or.inr (Or.inr (Or.inr (Or.inr (Or.inr (Or.inr (Or.inr (Or.inr (Or.inr (Or.inr (Or.inr (Or.inr (Or.inr (Or.inr (Or.inr (Or.inr (Or.inr (Or.inr (Or.inr (Or.inr (Or.inr (Or.inr (Or.inr (Or.inr (Or.inr (Or.inr (Or.inl (Int32.toInt_inj.mp (by rw [h]; rfl))))))))))))))))))))))))))))))))))))
  · exact Or.inr (Or.inr (Or.inr (Or.inr (Or.inr (Or.inr (Or.inr (Or.inr (Or.inr (Or.inr (Or.inr (Or.inr (Or.inr (Or.inr (Or.inr (Or.inr (Or.inr (Or.inr (Or.inr (Or.inr (Or.inr (Or.inr (Or.inr (Or.inr (Or.inr (Or.inr (Or.inr (Or.inr (Or.inr (Or.inr (Or.inr (Or.inr (Or.inr (Or.inr (Or.inr (Or.inl (Int32.toInt_inj.mp (by rw [h]; rfl)))))))))))))))))))))))))))))))))))))
  · exact Or.inr (Or.inr (Or.inr (Or.inr (Or.inr (Or.inr (Or.inr (Or.inr (Or.inr (Or.inr (Or.inr (Or.inr (Or.inr (Or.inr (Or.inr (Or.inr (Or.inr (Or.inr (Or.inr (Or.inr (Or.inr (Or.inr (Or.inr (Or.inr (Or.inr (Or.inr (Or.inr (Or.inr (Or.inr (Or.inr (Or.inr (Or.inr (Or.inr (Or.inr (Or.inr (Or.inr (Or.inl (Int32.toInt_inj.mp (by rw [h]; rfl))))))))))))))))))))))))))))))))))))))
  · exact Or.inr (Or.inr (Or.inr (Or.inr (Or.inr (Or.inr (Or.inr (Or.inr (Or.inr (Or.inr (Or.inr (Or.inr (Or.inr (Or.inr (Or.inr (Or.inr (Or.inr (Or.inr (Or.inr (Or.inr (Or.inr (Or.inr (Or.inr (Or.inr (Or.inr (Or.inr (Or.inr (Or.inr (Or.inr (Or.inr (Or.inr (Or.inr (Or.inr (Or.inr (Or.inr (Or.inr (Or.inr (Or.inl (Int32.toInt_inj.mp (by rw [h]; rfl)))))))))))))))))))))))))))))))))))))))
  · exact Or.inr (Or.inr (Or.inr (Or.inr (Or.inr (Or.inr (Or.inr (Or.inr (Or.inr (Or.inr (Or.inr (Or.inr (Or.inr (Or.inr (Or.inr (Or.inr (Or.inr (Or.inr (Or.inr (Or.inr (Or.inr (Or.inr (Or.inr (Or.inr (Or.inr (Or.inr (Or.inr (Or.inr (Or.inr (Or.inr (Or.inr (Or.inr (Or.inr (Or.inr (Or.inr (Or.inr (Or.inr (Or.inr (h))))))))))))))))))))))))))))))))))))))
set_option maxRecDepth 20000 in
set_option maxHeartbeats 4000000 in
theorem law_loop (C0 : LC p s m meth c b L xs D cI cZ cS) {Rel : Mem → Mem → Prop} (hR : Steps_ok Rel) : ∀ (n i : Nat) (ux um : Mem), i ≤ L → L + 1 ≤ i + n → Rel ux um → LJ p l e s m below meth c b D cI cZ cS adx adm 18 (lvI b adx adm i) ([]) ux um := by
  intro n
  induction n with
  | zero =>
    intro i ux um h1 h2
    exact absurd h2 (by omega)
  | succ n ih =>
    intro i ux um h1 h2 hrel
    have hL : L ≤ 384 := C0.2.2.2
    refine L_iload C0 3 dL_law_18 rfl rfl ?_
    refine L_aload C0 0 dL_law_19 rfl rfl ?_
    refine L_slen C0 dL_law_20 ?_
    refine L_bipush C0 (v := 6) dL_law_21 (by decide) ?_
    refine L_isub C0 dL_law_23 ?_
    refine L_gt C0 (tgt := 1362) dL_law_24 rfl (fun cq => ?_) (fun cq => ?_)
    · exact L_end C0 dL_law_1362 dL_law_1363
    · have hi : i + 6 ≤ L := by
        rcases Nat.lt_or_ge L 6 with q | q
        · exact absurd (Int32.lt_iff_toInt_lt.mpr (by rw [show (6 : Int32) = nI 6 from rfl, pk_sub_toInt (by omega) (by omega), nI_toInt (by omega)]; omega)) cq
        · rw [show (6 : Int32) = nI 6 from rfl, pk_sub q, nI_ltI (by omega) (by omega)] at cq
          omega
      have hk : ∀ ux um, Rel ux um → LJ p l e s m below meth c b D cI cZ cS adx adm 1356 (lvI b adx adm i) ([]) ux um := fun ux um hr => L_inc C0 dL_law_1356 (L_goto C0 (tgt := 18) dL_law_1359 rfl (ih (i + 6) ux um hi (by omega) hr))
      refine L_aload C0 0 dL_law_27 rfl rfl ?_
      refine L_iload C0 3 dL_law_28 rfl rfl ?_
      refine L_sald C0 (by omega) dL_law_29 ?_
      refine L_bipush C0 (v := 63) dL_law_30 (by decide) ?_
      refine L_iand C0 dL_law_32 ?_
      have h := hR ux um hrel
      rcases sw_0_37 (xs i &&& 63) with cq | cq | cq | cq | cq | cq | cq | cq | cq | cq | cq | cq | cq | cq | cq | cq | cq | cq | cq | cq | cq | cq | cq | cq | cq | cq | cq | cq | cq | cq | cq | cq | cq | cq | cq | cq | cq | cq | cq
      · exact L_tin C0 (off := 167) (tgt := 200) dL_law_33 (by rw [cq]; decide) (by rw [cq]; decide) (by rw [cq]; rfl) rfl (law_case_0 C0 hi (h.1 _ _) hk)
      · exact L_tin C0 (off := 200) (tgt := 233) dL_law_33 (by rw [cq]; decide) (by rw [cq]; decide) (by rw [cq]; rfl) rfl (law_case_1 C0 hi (h.2.1 _) hk)
      · exact L_tin C0 (off := 223) (tgt := 256) dL_law_33 (by rw [cq]; decide) (by rw [cq]; decide) (by rw [cq]; rfl) rfl (law_case_2 C0 hi (h.2.2.1 _) hk)
      · exact L_tin C0 (off := 246) (tgt := 279) dL_law_33 (by rw [cq]; decide) (by rw [cq]; decide) (by rw [cq]; rfl) rfl (law_case_3 C0 hi (h.2.2.2.1 _) hk)
      · exact L_tin C0 (off := 269) (tgt := 302) dL_law_33 (by rw [cq]; decide) (by rw [cq]; decide) (by rw [cq]; rfl) rfl (law_case_4 C0 hi (h.2.2.2.2.1 _ _) hk)
      · exact L_tin C0 (off := 302) (tgt := 335) dL_law_33 (by rw [cq]; decide) (by rw [cq]; decide) (by rw [cq]; rfl) rfl (law_case_5 C0 hi (h.2.2.2.2.2.1 _ _) hk)
      · exact L_tin C0 (off := 335) (tgt := 368) dL_law_33 (by rw [cq]; decide) (by rw [cq]; decide) (by rw [cq]; rfl) rfl (law_case_6 C0 hi (h.2.2.2.2.2.2.1 _) hk)
      · exact L_tin C0 (off := 358) (tgt := 391) dL_law_33 (by rw [cq]; decide) (by rw [cq]; decide) (by rw [cq]; rfl) rfl (law_case_7 C0 hi (h.2.2.2.2.2.2.2.1 _) hk)
      · exact L_tin C0 (off := 381) (tgt := 414) dL_law_33 (by rw [cq]; decide) (by rw [cq]; decide) (by rw [cq]; rfl) rfl (law_case_8 C0 hi (h.2.2.2.2.2.2.2.2.1 _) hk)
      · exact L_tin C0 (off := 404) (tgt := 437) dL_law_33 (by rw [cq]; decide) (by rw [cq]; decide) (by rw [cq]; rfl) rfl (law_case_9 C0 hi (h.2.2.2.2.2.2.2.2.2.1 _ _ _) hk)
      · exact L_tin C0 (off := 447) (tgt := 480) dL_law_33 (by rw [cq]; decide) (by rw [cq]; decide) (by rw [cq]; rfl) rfl (law_case_10 C0 hi (h.2.2.2.2.2.2.2.2.2.2.1) hk)
      · exact L_tin C0 (off := 460) (tgt := 493) dL_law_33 (by rw [cq]; decide) (by rw [cq]; decide) (by rw [cq]; rfl) rfl (law_case_11 C0 hi (h.2.2.2.2.2.2.2.2.2.2.2.1 _ _) hk)
      · exact L_tin C0 (off := 493) (tgt := 526) dL_law_33 (by rw [cq]; decide) (by rw [cq]; decide) (by rw [cq]; rfl) rfl (law_case_12 C0 hi (h.2.2.2.2.2.2.2.2.2.2.2.2.1) hk)
      · exact L_tin C0 (off := 506) (tgt := 539) dL_law_33 (by rw [cq]; decide) (by rw [cq]; decide) (by rw [cq]; rfl) rfl (law_case_13 C0 hi (h.2.2.2.2.2.2.2.2.2.2.2.2.2.1) hk)
      · exact L_tin C0 (off := 519) (tgt := 552) dL_law_33 (by rw [cq]; decide) (by rw [cq]; decide) (by rw [cq]; rfl) rfl (law_case_14 C0 hi (h.2.2.2.2.2.2.2.2.2.2.2.2.2.2.1 _) hk)
      · exact L_tin C0 (off := 542) (tgt := 575) dL_law_33 (by rw [cq]; decide) (by rw [cq]; decide) (by rw [cq]; rfl) rfl (law_case_15 C0 hi (h.2.2.2.2.2.2.2.2.2.2.2.2.2.2.2.1 _ _ _ _) hk)
      · exact L_tin C0 (off := 595) (tgt := 628) dL_law_33 (by rw [cq]; decide) (by rw [cq]; decide) (by rw [cq]; rfl) rfl (law_case_16 C0 hi (h.2.2.2.2.2.2.2.2.2.2.2.2.2.2.2.2.1 _ _ _) hk)
      · exact L_tin C0 (off := 638) (tgt := 671) dL_law_33 (by rw [cq]; decide) (by rw [cq]; decide) (by rw [cq]; rfl) rfl (law_case_17 C0 hi (h.2.2.2.2.2.2.2.2.2.2.2.2.2.2.2.2.2.1 _) hk)
      · exact L_tin C0 (off := 661) (tgt := 694) dL_law_33 (by rw [cq]; decide) (by rw [cq]; decide) (by rw [cq]; rfl) rfl (law_case_18 C0 hi (h.2.2.2.2.2.2.2.2.2.2.2.2.2.2.2.2.2.2.1 _ _ _) hk)
      · exact L_tin C0 (off := 704) (tgt := 737) dL_law_33 (by rw [cq]; decide) (by rw [cq]; decide) (by rw [cq]; rfl) rfl (law_case_19 C0 hi (h.2.2.2.2.2.2.2.2.2.2.2.2.2.2.2.2.2.2.2.1 _) hk)
      · exact L_tin C0 (off := 727) (tgt := 760) dL_law_33 (by rw [cq]; decide) (by rw [cq]; decide) (by rw [cq]; rfl) rfl (law_case_20 C0 hi (h.2.2.2.2.2.2.2.2.2.2.2.2.2.2.2.2.2.2.2.2.1 _ _) hk)
      · exact L_tin C0 (off := 760) (tgt := 793) dL_law_33 (by rw [cq]; decide) (by rw [cq]; decide) (by rw [cq]; rfl) rfl (law_case_21 C0 hi (h.2.2.2.2.2.2.2.2.2.2.2.2.2.2.2.2.2.2.2.2.2.1 _ _) hk)
      · exact L_tin C0 (off := 793) (tgt := 826) dL_law_33 (by rw [cq]; decide) (by rw [cq]; decide) (by rw [cq]; rfl) rfl (law_case_22 C0 hi (h.2.2.2.2.2.2.2.2.2.2.2.2.2.2.2.2.2.2.2.2.2.2.1) hk)
      · exact L_tin C0 (off := 806) (tgt := 839) dL_law_33 (by rw [cq]; decide) (by rw [cq]; decide) (by rw [cq]; rfl) rfl (law_case_23 C0 hi (h.2.2.2.2.2.2.2.2.2.2.2.2.2.2.2.2.2.2.2.2.2.2.2.1 _) hk)
      · exact L_tin C0 (off := 829) (tgt := 862) dL_law_33 (by rw [cq]; decide) (by rw [cq]; decide) (by rw [cq]; rfl) rfl (law_case_24 C0 hi (h.2.2.2.2.2.2.2.2.2.2.2.2.2.2.2.2.2.2.2.2.2.2.2.2.1 _ _) hk)
      · exact L_tin C0 (off := 862) (tgt := 895) dL_law_33 (by rw [cq]; decide) (by rw [cq]; decide) (by rw [cq]; rfl) rfl (law_case_25 C0 hi (h.2.2.2.2.2.2.2.2.2.2.2.2.2.2.2.2.2.2.2.2.2.2.2.2.2.1 _) hk)
      · exact L_tin C0 (off := 885) (tgt := 918) dL_law_33 (by rw [cq]; decide) (by rw [cq]; decide) (by rw [cq]; rfl) rfl (law_case_26 C0 hi (h.2.2.2.2.2.2.2.2.2.2.2.2.2.2.2.2.2.2.2.2.2.2.2.2.2.2.1 _) hk)
      · exact L_tin C0 (off := 908) (tgt := 941) dL_law_33 (by rw [cq]; decide) (by rw [cq]; decide) (by rw [cq]; rfl) rfl (law_case_27 C0 hi (h.2.2.2.2.2.2.2.2.2.2.2.2.2.2.2.2.2.2.2.2.2.2.2.2.2.2.2.1 _ _ _) hk)
      · exact L_tin C0 (off := 952) (tgt := 985) dL_law_33 (by rw [cq]; decide) (by rw [cq]; decide) (by rw [cq]; rfl) rfl (law_case_28 C0 hi (h.2.2.2.2.2.2.2.2.2.2.2.2.2.2.2.2.2.2.2.2.2.2.2.2.2.2.2.2.1 _ _) hk)
      · exact L_tin C0 (off := 985) (tgt := 1018) dL_law_33 (by rw [cq]; decide) (by rw [cq]; decide) (by rw [cq]; rfl) rfl (law_case_29 C0 hi (h.2.2.2.2.2.2.2.2.2.2.2.2.2.2.2.2.2.2.2.2.2.2.2.2.2.2.2.2.2.1 _ _ _) hk)
      · exact L_tin C0 (off := 1028) (tgt := 1061) dL_law_33 (by rw [cq]; decide) (by rw [cq]; decide) (by rw [cq]; rfl) rfl (law_case_30 C0 hi (h.2.2.2.2.2.2.2.2.2.2.2.2.2.2.2.2.2.2.2.2.2.2.2.2.2.2.2.2.2.2.1 _ _ _) hk)
      · exact L_tin C0 (off := 1071) (tgt := 1104) dL_law_33 (by rw [cq]; decide) (by rw [cq]; decide) (by rw [cq]; rfl) rfl (law_case_31 C0 hi (h.2.2.2.2.2.2.2.2.2.2.2.2.2.2.2.2.2.2.2.2.2.2.2.2.2.2.2.2.2.2.2.1 _) hk)
      · exact L_tin C0 (off := 1094) (tgt := 1127) dL_law_33 (by rw [cq]; decide) (by rw [cq]; decide) (by rw [cq]; rfl) rfl (law_case_32 C0 hi (h.2.2.2.2.2.2.2.2.2.2.2.2.2.2.2.2.2.2.2.2.2.2.2.2.2.2.2.2.2.2.2.2.1 _ _ _ _) hk)
      · exact L_tin C0 (off := 1147) (tgt := 1180) dL_law_33 (by rw [cq]; decide) (by rw [cq]; decide) (by rw [cq]; rfl) rfl (law_case_33 C0 hi (h.2.2.2.2.2.2.2.2.2.2.2.2.2.2.2.2.2.2.2.2.2.2.2.2.2.2.2.2.2.2.2.2.2.1 _ _ _) hk)
      · exact L_tin C0 (off := 1190) (tgt := 1223) dL_law_33 (by rw [cq]; decide) (by rw [cq]; decide) (by rw [cq]; rfl) rfl (law_case_34 C0 hi (h.2.2.2.2.2.2.2.2.2.2.2.2.2.2.2.2.2.2.2.2.2.2.2.2.2.2.2.2.2.2.2.2.2.2.1 _ _ _ _ _) hk)
      · exact L_tin C0 (off := 1253) (tgt := 1286) dL_law_33 (by rw [cq]; decide) (by rw [cq]; decide) (by rw [cq]; rfl) rfl (law_case_35 C0 hi (h.2.2.2.2.2.2.2.2.2.2.2.2.2.2.2.2.2.2.2.2.2.2.2.2.2.2.2.2.2.2.2.2.2.2.2.1 _ _) hk)
      · exact L_tin C0 (off := 1286) (tgt := 1319) dL_law_33 (by rw [cq]; decide) (by rw [cq]; decide) (by rw [cq]; rfl) rfl (law_case_36 C0 hi (h.2.2.2.2.2.2.2.2.2.2.2.2.2.2.2.2.2.2.2.2.2.2.2.2.2.2.2.2.2.2.2.2.2.2.2.2.1 _) hk)
      · exact L_tin C0 (off := 1309) (tgt := 1342) dL_law_33 (by rw [cq]; decide) (by rw [cq]; decide) (by rw [cq]; rfl) rfl (law_case_37 C0 hi (h.2.2.2.2.2.2.2.2.2.2.2.2.2.2.2.2.2.2.2.2.2.2.2.2.2.2.2.2.2.2.2.2.2.2.2.2.2) hk)
      · exact L_tout C0 (tgt := 1356) dL_law_33 cq rfl (hk ux um hrel)
end LROWS
