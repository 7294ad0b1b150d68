/-! AJ: the machine at a frame, over a world 'wd u' that is a function of a memory u (scalars, rows); Q: of the answer and the memory at the method's end -/
abbrev Mem : Type := (Nat → Int32) × (Nat → Nat → Int32)
def sS (u : Mem) (k : Nat) (v : Int32) : Mem := (fun j => if j = k then v else u.1 j, u.2)
def sA (u : Mem) (k i : Nat) (v : Int32) : Mem := (u.1, fun j => if j = k then upd (u.2 k) i v else u.2 j)
def sR (u : Mem) (k : Nat) (f : Nat → Int32) : Mem := (u.1, fun j => if j = k then f else u.2 j)
def TT : List Cond := lw_tbl.filter goodWord
theorem tt_of {w : Cond} (i : Nat) (h : lw_tbl[i]? = some w) (hg : goodWord w = true) : w ∈ TT := List.mem_filter.mpr ⟨List.mem_of_getElem? h, hg⟩
theorem tt_lw {w : Cond} (h : w ∈ TT) : w ∈ lw_tbl := (List.mem_filter.mp h).1
theorem tt_good {w : Cond} (h : w ∈ TT) : (w.onTables && w.keeps) = true ∨ ∃ ty, w = .arrayClass ty := good_of_word (List.mem_filter.mp h).2
def NWs : List Cond := [.methodLinkNest RX10 23 yX3_init RX10, .methodLinkNest RX10 30 yX1_init RX10, .methodLinkNest RX10 37 yX2_init RX10, .methodLinkNest RX1 35 yX10_isBigLetter RX10, .methodLinkNest RX1 43 yX10_isSmallLetter RX10, .methodLinkNest RX3 40 yX10_isSmallLetter RX10, .methodLinkNest RX3 60 yX10_isBigLetter RX10, .declares ⟨RX5, "stateBehind", "(II)I"⟩]
def NW (U : State) : Prop := ∀ w ∈ NWs, va_Nw w U
theorem NW.warm {s U : State} (hW : s.WarmedH U.vm) (h : NW s) : NW U := by
  intro w hw
  have h1 := h w hw
  simp only [NWs, List.mem_cons, List.not_mem_nil, or_false] at hw
  rcases hw with rfl | rfl | rfl | rfl | rfl | rfl | rfl | rfl
  · exact va_Nw.warmM hW h1
  · exact va_Nw.warmM hW h1
  · exact va_Nw.warmM hW h1
  · exact va_Nw.warmM hW h1
  · exact va_Nw.warmM hW h1
  · exact va_Nw.warmM hW h1
  · exact va_Nw.warmM hW h1
  · exact va_Nw.warmD hW h1
theorem NW.same {s U : State} (hv : s.vm = U.vm) (h : NW s) : NW U := by
  intro w hw
  have h1 := h w hw
  refine va_Nw.same ?_ hv h1
  simp only [NWs, List.mem_cons, List.not_mem_nil, or_false] at hw
  rcases hw with rfl | rfl | rfl | rfl | rfl | rfl | rfl | rfl <;> rfl
def RM (d : Nat) : Room := { frames := d, cells := 0, slots := 0, locals := 100 * d }
def jQ (D : va_G) (tys : List (ClassId × FieldType)) (wd : Mem → va_W) (A0 : Nat → Prop) (Q : Option Value → Mem → Prop) : Array Value → State → Outcome → State → Prop := fun _ st oc t =>
  (∃ (v : Option Value) (u : Mem), oc = .returned v ∧ Q v u ∧ va_P D vwCl (wd u) t.heap ∧ va_K D vwCl tys t ∧ va_D A0 (wd u)) ∧ va_F A0 st t
def jP (D : va_G) (tys : List (ClassId × FieldType)) (wd : Mem → va_W) (A0 : Nat → Prop) (u : Mem) (U : State) : Prop := va_P D vwCl (wd u) U.heap ∧ va_K D vwCl tys U ∧ va_D A0 (wd u) ∧ NW U
def JMet (l : Launch) (D : va_G) (tys : List (ClassId × FieldType)) (wd : Mem → va_W) (A0 : Nat → Prop) (y : MethodName) (cc : ByteArray) (nL : Nat) (rt : Option FieldType) (d : Nat) (av : List Value) (u : Mem) (Q : Option Value → Mem → Prop) : Prop :=
  Met l y (Cond.code y cc nL rt :: TT) (RM d) (va_Pc av (jP D tys wd A0 u)) (jQ D tys wd A0 Q) 0 0 A0
def JX (D : va_G) (tys : List (ClassId × FieldType)) (cc : ByteArray) (nL : Nat) (rt : Option FieldType) (own : String) (p : Program) (s : State) (m : MethodId) (args : Array Value) (meth : Method) (c : Code) : Prop :=
  p.tables.exec = Jvm.exec ∧ c.code = cc ∧ c.maxLocals = nL ∧ meth.sig.returnType = rt ∧ meth.locks = false ∧ s.vm.findClass own = some m.cls ∧ (∀ w ∈ TT, w.before args s = true) ∧ NW s ∧ va_K D vwCl tys s
def AJ (l : Launch) (D : va_G) (tys : List (ClassId × FieldType)) (wd : Mem → va_W) (A0 : Nat → Prop) (cc : ByteArray) (nL : Nat) (rt : Option FieldType) (own : String) (d : Nat) (Q : Option Value → Mem → Prop) (pc : Nat) (lv : List (Nat × Value)) (st : List Value) (u : Mem) : Prop :=
  ∀ (p : Program) (e : Env) (s : State) (m : MethodId) (args : Array Value) (below : List Frame) (meth : Method) (c : Code), JX D tys cc nL rt own p s m args meth c →
    ∀ (H : Heap) (locs : List Loc) (ls : Array Slot), va_S A0 s.heap H locs → va_P D vwCl (wd u) H → va_D A0 (wd u) → lv_has ls nL lv →
      W p l e (RM d) s m args below meth c H locs 0 0 (MQ below (jQ D tys wd A0 Q) args s 0 0 A0) (F0 m pc ls st)
section JROWS
variable {l : Launch} {D : va_G} {tys : List (ClassId × FieldType)} {wd : Mem → va_W} {A0 : Nat → Prop} {cc : ByteArray} {nL : Nat} {rt : Option FieldType} {own : String} {d : Nat} {Q : Option Value → Mem → Prop} {pc : Nat} {lv : List (Nat × Value)} {st : List Value} {u : Mem}
theorem JMet.of {y : MethodName} {av : List Value} (hy : plainName y.cls = true) (hz : (lg_sl av).length ≤ nL) (h : AJ l D tys wd A0 cc nL rt y.cls d Q 0 (lv_args 0 av) [] u) : JMet l D tys wd A0 y cc nL rt d av u Q := by
  refine Met.ofW (cc := cc) (maxL := nL) (ret := rt) hy rfl ?_
  intro p e s m args below meth c s₁ B hml hv
  obtain ⟨rfl, hP, hK, hD, hN⟩ := hv
  have hts := atoms_spec (ws := Cond.code y cc nL rt :: TT) B.pre
  have hl := lv_entry av (n := nL) hz
  rw [lg_entry_eq]
  exact h p e s m _ below meth c ⟨B.exec, B.bytes, hml, B.returns, B.notSynchronized, findClass_of_methodNamed B.named, fun w hw => hts w (List.mem_cons_of_mem _ hw), hN, hK⟩ s.heap [] _ va_S.rf hP hD hl
theorem JMet.mono {y : MethodName} {av : List Value} {Q2 : Option Value → Mem → Prop} (h : JMet l D tys wd A0 y cc nL rt d av u Q) (hq : ∀ v w, Q v w → Q2 v w) : JMet l D tys wd A0 y cc nL rt d av u Q2 := by
  unfold JMet Met at h ⊢
  refine MetFree.mono h (fun _ _ h => h) (fun _ _ _ _ _ h => h) ?_
  intro a s o t _ h
  obtain ⟨⟨⟨v, w, h1, h2, h3⟩, h4⟩, h5⟩ := h
  exact ⟨⟨⟨v, w, h1, hq v w h2, h3⟩, h4⟩, h5⟩
theorem AJ.mono {Q2 : Option Value → Mem → Prop} (hq : ∀ v w, Q v w → Q2 v w) (h : AJ l D tys wd A0 cc nL rt own d Q pc lv st u) : AJ l D tys wd A0 cc nL rt own d Q2 pc lv st u := by
  intro p e s m args below meth c X H locs ls hS hP hD hl T hT Y
  obtain ⟨t, a, o, b1, b2, ⟨⟨v, w, c1, c2, c3⟩, c4⟩, b4⟩ := h p e s m args below meth c X H locs ls hS hP hD hl T hT Y
  exact ⟨t, a, o, b1, b2, ⟨⟨v, w, c1, hq v w c2, c3⟩, c4⟩, b4⟩
theorem J_sub {lv' : List (Nat × Value)} (ks : List Nat) (hp : lv_pick lv ks = lv') (k : AJ l D tys wd A0 cc nL rt own d Q pc lv' st u) : AJ l D tys wd A0 cc nL rt own d Q pc lv st u := by
  intro p e s m args below meth c X H locs ls hS hP hD hl
  exact k p e s m args below meth c X H locs ls hS hP hD (lv_sub hl ks hp)
theorem J_mem {u' : Mem} (h : wd u = wd u') (k : AJ l D tys wd A0 cc nL rt own d Q pc lv st u') : AJ l D tys wd A0 cc nL rt own d Q pc lv st u := by
  intro p e s m args below meth c X H locs ls hS hP hD hl
  rw [h] at hP hD
  exact k p e s m args below meth c X H locs ls hS hP hD hl
theorem J_topi {v : Int32} (k : ∀ x, x = v → AJ l D tys wd A0 cc nL rt own d Q pc lv (.int x :: st) u) : AJ l D tys wd A0 cc nL rt own d Q pc lv (.int v :: st) u := k v rfl
theorem J_topl {v : Int64} (k : ∀ x, x = v → AJ l D tys wd A0 cc nL rt own d Q pc lv (.long x :: st) u) : AJ l D tys wd A0 cc nL rt own d Q pc lv (.long v :: st) u := k v rfl
theorem J_memn {v : Mem} (k : ∀ x, x = v → AJ l D tys wd A0 cc nL rt own d Q pc lv st x) : AJ l D tys wd A0 cc nL rt own d Q pc lv st v := k v rfl
theorem J_iconst {n : Int} {v : Int32} (hd : decode cc pc = .ok (.iconst n, 1)) (hv : Int32.ofInt n = v) (k : AJ l D tys wd A0 cc nL rt own d Q (pc + 1) lv (.int v :: st) u) : AJ l D tys wd A0 cc nL rt own d Q pc lv (st) u := by
  intro p e s m args below meth c X H locs ls hS hP hD hl
  exact lv_iconst X.1 X.2.1 hd hv (k p e s m args below meth c X H locs ls hS hP hD hl)
theorem J_bipush {n : Int} {v : Int32} (hd : decode cc pc = .ok (.bipush n, 2)) (hv : (Int8.ofInt n).toInt32 = v) (k : AJ l D tys wd A0 cc nL rt own d Q (pc + 2) lv (.int v :: st) u) : AJ l D tys wd A0 cc nL rt own d Q pc lv (st) u := by
  intro p e s m args below meth c X H locs ls hS hP hD hl
  exact lv_bipush X.1 X.2.1 hd hv (k p e s m args below meth c X H locs ls hS hP hD hl)
theorem J_sipush {n : Int} {v : Int32} (hd : decode cc pc = .ok (.sipush n, 3)) (hv : (Int16.ofInt n).toInt32 = v) (k : AJ l D tys wd A0 cc nL rt own d Q (pc + 3) lv (.int v :: st) u) : AJ l D tys wd A0 cc nL rt own d Q pc lv (st) u := by
  intro p e s m args below meth c X H locs ls hS hP hD hl
  exact lv_sipush X.1 X.2.1 hd hv (k p e s m args below meth c X H locs ls hS hP hD hl)
theorem J_lconst {n : Fin 2} {v : Int64} (hd : decode cc pc = .ok (.lconst n, 1)) (hv : Int64.ofNat (n : Nat) = v) (k : AJ l D tys wd A0 cc nL rt own d Q (pc + 1) lv (.long v :: st) u) : AJ l D tys wd A0 cc nL rt own d Q pc lv (st) u := by
  intro p e s m args below meth c X H locs ls hS hP hD hl
  exact lv_lconst X.1 X.2.1 hd hv (k p e s m args below meth c X H locs ls hS hP hD hl)
theorem J_null  (hd : decode cc pc = .ok (.aconst_null, 1))  (k : AJ l D tys wd A0 cc nL rt own d Q (pc + 1) lv (.null :: st) u) : AJ l D tys wd A0 cc nL rt own d Q pc lv (st) u := by
  intro p e s m args below meth c X H locs ls hS hP hD hl
  exact lv_null X.1 X.2.1 hd  (k p e s m args below meth c X H locs ls hS hP hD hl)
theorem J_ldc {i : Nat} {v : Int32} (hd : decode cc pc = .ok (.ldc i, 2)) (hw : Cond.constant own i v ∈ TT) (k : AJ l D tys wd A0 cc nL rt own d Q (pc + 2) lv (.int v :: st) u) : AJ l D tys wd A0 cc nL rt own d Q pc lv (st) u := by
  intro p e s m args below meth c X H locs ls hS hP hD hl
  exact lv_ldc X.1 X.2.1 X.2.2.2.2.2.1 (X.2.2.2.2.2.2.1 _ hw) hd (k p e s m args below meth c X H locs ls hS hP hD hl)
theorem J_ldcw {i : Nat} {v : Int32} (hd : decode cc pc = .ok (.ldc_w i, 3)) (hw : Cond.constant own i v ∈ TT) (k : AJ l D tys wd A0 cc nL rt own d Q (pc + 3) lv (.int v :: st) u) : AJ l D tys wd A0 cc nL rt own d Q pc lv (st) u := by
  intro p e s m args below meth c X H locs ls hS hP hD hl
  exact lv_ldcw X.1 X.2.1 X.2.2.2.2.2.1 (X.2.2.2.2.2.2.1 _ hw) hd (k p e s m args below meth c X H locs ls hS hP hD hl)
theorem J_ldc2 {i : Nat} {v : Int64} (hd : decode cc pc = .ok (.ldc2_w i, 3)) (hw : Cond.constantLong own i v ∈ TT) (k : AJ l D tys wd A0 cc nL rt own d Q (pc + 3) lv (.long v :: st) u) : AJ l D tys wd A0 cc nL rt own d Q pc lv (st) u := by
  intro p e s m args below meth c X H locs ls hS hP hD hl
  exact lv_ldc2 X.1 X.2.1 X.2.2.2.2.2.1 (X.2.2.2.2.2.2.1 _ hw) hd (k p e s m args below meth c X H locs ls hS hP hD hl)
theorem J_iload_n {k0 : Fin 4} {i : Nat} {x : Int32} (j : Nat) (hd : decode cc pc = .ok (.iload_n k0, 1)) (hi : (k0 : Nat) = i) (hj : lv[j]? = some (i, .int x)) (k : AJ l D tys wd A0 cc nL rt own d Q (pc + 1) lv (.int x :: st) u) : AJ l D tys wd A0 cc nL rt own d Q pc lv (st) u := by
  intro p e s m args below meth c X H locs ls hS hP hD hl
  exact lv_iload_n X.1 X.2.1 hd hi (lv_at hl j hj) (k p e s m args below meth c X H locs ls hS hP hD hl)
theorem J_lload_n {k0 : Fin 4} {i : Nat} {x : Int64} (j : Nat) (hd : decode cc pc = .ok (.lload_n k0, 1)) (hi : (k0 : Nat) = i) (hj : lv[j]? = some (i, .long x)) (k : AJ l D tys wd A0 cc nL rt own d Q (pc + 1) lv (.long x :: st) u) : AJ l D tys wd A0 cc nL rt own d Q pc lv (st) u := by
  intro p e s m args below meth c X H locs ls hS hP hD hl
  exact lv_lload_n X.1 X.2.1 hd hi (lv_at hl j hj) (k p e s m args below meth c X H locs ls hS hP hD hl)
theorem J_aload_n {k0 : Fin 4} {i : Nat} {x : Nat} (j : Nat) (hd : decode cc pc = .ok (.aload_n k0, 1)) (hi : (k0 : Nat) = i) (hj : lv[j]? = some (i, .ref x)) (k : AJ l D tys wd A0 cc nL rt own d Q (pc + 1) lv (.ref x :: st) u) : AJ l D tys wd A0 cc nL rt own d Q pc lv (st) u := by
  intro p e s m args below meth c X H locs ls hS hP hD hl
  exact lv_aload_n X.1 X.2.1 hd hi (lv_at hl j hj) (k p e s m args below meth c X H locs ls hS hP hD hl)
theorem J_aload_nN {k0 : Fin 4} {i : Nat}  (j : Nat) (hd : decode cc pc = .ok (.aload_n k0, 1)) (hi : (k0 : Nat) = i) (hj : lv[j]? = some (i, .null)) (k : AJ l D tys wd A0 cc nL rt own d Q (pc + 1) lv (.null :: st) u) : AJ l D tys wd A0 cc nL rt own d Q pc lv (st) u := by
  intro p e s m args below meth c X H locs ls hS hP hD hl
  exact lv_aload_nN X.1 X.2.1 hd hi (lv_at hl j hj) (k p e s m args below meth c X H locs ls hS hP hD hl)
theorem J_iload {i : Nat} {x : Int32} (j : Nat) (hd : decode cc pc = .ok (.iload i, 2)) (hj : lv[j]? = some (i, .int x)) (k : AJ l D tys wd A0 cc nL rt own d Q (pc + 2) lv (.int x :: st) u) : AJ l D tys wd A0 cc nL rt own d Q pc lv (st) u := by
  intro p e s m args below meth c X H locs ls hS hP hD hl
  exact lv_iload X.1 X.2.1 hd (lv_at hl j hj) (k p e s m args below meth c X H locs ls hS hP hD hl)
theorem J_lload {i : Nat} {x : Int64} (j : Nat) (hd : decode cc pc = .ok (.lload i, 2)) (hj : lv[j]? = some (i, .long x)) (k : AJ l D tys wd A0 cc nL rt own d Q (pc + 2) lv (.long x :: st) u) : AJ l D tys wd A0 cc nL rt own d Q pc lv (st) u := by
  intro p e s m args below meth c X H locs ls hS hP hD hl
  exact lv_lload X.1 X.2.1 hd (lv_at hl j hj) (k p e s m args below meth c X H locs ls hS hP hD hl)
theorem J_aload {i : Nat} {x : Nat} (j : Nat) (hd : decode cc pc = .ok (.aload i, 2)) (hj : lv[j]? = some (i, .ref x)) (k : AJ l D tys wd A0 cc nL rt own d Q (pc + 2) lv (.ref x :: st) u) : AJ l D tys wd A0 cc nL rt own d Q pc lv (st) u := by
  intro p e s m args below meth c X H locs ls hS hP hD hl
  exact lv_aload X.1 X.2.1 hd (lv_at hl j hj) (k p e s m args below meth c X H locs ls hS hP hD hl)
theorem J_istore_n {k0 : Fin 4} {i : Nat} {x : Int32} {lv' : List (Nat × Value)} (hd : decode cc pc = .ok (.istore_n k0, 1)) (hi : (k0 : Nat) = i) (hn : i < nL) (hl2 : (i, Value.int x) :: lv.filter (fun q => !(q.1 == i) && !(q.1 + 1 == i && q.2.category == 2)) = lv') (k : AJ l D tys wd A0 cc nL rt own d Q (pc + 1) lv' (st) u) : AJ l D tys wd A0 cc nL rt own d Q pc lv (.int x :: st) u := by
  intro p e s m args below meth c X H locs ls hS hP hD hl
  exact lv_istore_n X.1 X.2.1 hd hi hl hn hl2 (fun ls2 hl3 => k p e s m args below meth c X H locs ls2 hS hP hD hl3)
theorem J_istore  {i : Nat} {x : Int32} {lv' : List (Nat × Value)} (hd : decode cc pc = .ok (.istore i, 2))  (hn : i < nL) (hl2 : (i, Value.int x) :: lv.filter (fun q => !(q.1 == i) && !(q.1 + 1 == i && q.2.category == 2)) = lv') (k : AJ l D tys wd A0 cc nL rt own d Q (pc + 2) lv' (st) u) : AJ l D tys wd A0 cc nL rt own d Q pc lv (.int x :: st) u := by
  intro p e s m args below meth c X H locs ls hS hP hD hl
  exact lv_istore X.1 X.2.1 hd  hl hn hl2 (fun ls2 hl3 => k p e s m args below meth c X H locs ls2 hS hP hD hl3)
theorem J_lstore_n {k0 : Fin 4} {i : Nat} {x : Int64} {lv' : List (Nat × Value)} (hd : decode cc pc = .ok (.lstore_n k0, 1)) (hi : (k0 : Nat) = i) (hn : i + 1 < nL) (hl2 : (i, Value.long x) :: lv.filter (fun q => !(q.1 == i) && (!(q.1 == i + 1) && !(q.1 + 1 == i && q.2.category == 2))) = lv') (k : AJ l D tys wd A0 cc nL rt own d Q (pc + 1) lv' (st) u) : AJ l D tys wd A0 cc nL rt own d Q pc lv (.long x :: st) u := by
  intro p e s m args below meth c X H locs ls hS hP hD hl
  exact lv_lstore_n X.1 X.2.1 hd hi hl hn hl2 (fun ls2 hl3 => k p e s m args below meth c X H locs ls2 hS hP hD hl3)
theorem J_lstore  {i : Nat} {x : Int64} {lv' : List (Nat × Value)} (hd : decode cc pc = .ok (.lstore i, 2))  (hn : i + 1 < nL) (hl2 : (i, Value.long x) :: lv.filter (fun q => !(q.1 == i) && (!(q.1 == i + 1) && !(q.1 + 1 == i && q.2.category == 2))) = lv') (k : AJ l D tys wd A0 cc nL rt own d Q (pc + 2) lv' (st) u) : AJ l D tys wd A0 cc nL rt own d Q pc lv (.long x :: st) u := by
  intro p e s m args below meth c X H locs ls hS hP hD hl
  exact lv_lstore X.1 X.2.1 hd  hl hn hl2 (fun ls2 hl3 => k p e s m args below meth c X H locs ls2 hS hP hD hl3)
theorem J_astore_n {k0 : Fin 4} {i : Nat} {x : Nat} {lv' : List (Nat × Value)} (hd : decode cc pc = .ok (.astore_n k0, 1)) (hi : (k0 : Nat) = i) (hn : i < nL) (hl2 : (i, Value.ref x) :: lv.filter (fun q => !(q.1 == i) && !(q.1 + 1 == i && q.2.category == 2)) = lv') (k : AJ l D tys wd A0 cc nL rt own d Q (pc + 1) lv' (st) u) : AJ l D tys wd A0 cc nL rt own d Q pc lv (.ref x :: st) u := by
  intro p e s m args below meth c X H locs ls hS hP hD hl
  exact lv_astore_n X.1 X.2.1 hd hi hl hn hl2 (fun ls2 hl3 => k p e s m args below meth c X H locs ls2 hS hP hD hl3)
theorem J_astore  {i : Nat} {x : Nat} {lv' : List (Nat × Value)} (hd : decode cc pc = .ok (.astore i, 2))  (hn : i < nL) (hl2 : (i, Value.ref x) :: lv.filter (fun q => !(q.1 == i) && !(q.1 + 1 == i && q.2.category == 2)) = lv') (k : AJ l D tys wd A0 cc nL rt own d Q (pc + 2) lv' (st) u) : AJ l D tys wd A0 cc nL rt own d Q pc lv (.ref x :: st) u := by
  intro p e s m args below meth c X H locs ls hS hP hD hl
  exact lv_astore X.1 X.2.1 hd  hl hn hl2 (fun ls2 hl3 => k p e s m args below meth c X H locs ls2 hS hP hD hl3)
theorem J_astore_nN {k0 : Fin 4} {i : Nat}  {lv' : List (Nat × Value)} (hd : decode cc pc = .ok (.astore_n k0, 1)) (hi : (k0 : Nat) = i) (hn : i < nL) (hl2 : (i, Value.null) :: lv.filter (fun q => !(q.1 == i) && !(q.1 + 1 == i && q.2.category == 2)) = lv') (k : AJ l D tys wd A0 cc nL rt own d Q (pc + 1) lv' (st) u) : AJ l D tys wd A0 cc nL rt own d Q pc lv (.null :: st) u := by
  intro p e s m args below meth c X H locs ls hS hP hD hl
  exact lv_astore_nN X.1 X.2.1 hd hi hl hn hl2 (fun ls2 hl3 => k p e s m args below meth c X H locs ls2 hS hP hD hl3)
theorem J_iinc {i : Nat} {n : Int} {x v : Int32} {lv' : List (Nat × Value)} (j : Nat) (hd : decode cc pc = .ok (.iinc i n, 3)) (hj : lv[j]? = some (i, .int x)) (hv : x + Int32.ofInt n = v) (hn : i < nL) (hl2 : (i, Value.int v) :: lv.filter (fun q => !(q.1 == i) && !(q.1 + 1 == i && q.2.category == 2)) = lv') (k : AJ l D tys wd A0 cc nL rt own d Q (pc + 3) lv' (st) u) : AJ l D tys wd A0 cc nL rt own d Q pc lv (st) u := by
  intro p e s m args below meth c X H locs ls hS hP hD hl
  exact lv_iinc X.1 X.2.1 hd hl hj hv hn hl2 (fun ls2 hl3 => k p e s m args below meth c X H locs ls2 hS hP hD hl3)
theorem J_iadd {x y : Int32} (hd : decode cc pc = .ok (.iadd, 1))  (k : AJ l D tys wd A0 cc nL rt own d Q (pc + 1) lv (.int (x + y) :: st) u) : AJ l D tys wd A0 cc nL rt own d Q pc lv (.int y :: .int x :: st) u := by
  intro p e s m args below meth c X H locs ls hS hP hD hl
  exact lv_iadd X.1 X.2.1 hd  (k p e s m args below meth c X H locs ls hS hP hD hl)
theorem J_isub {x y : Int32} (hd : decode cc pc = .ok (.isub, 1))  (k : AJ l D tys wd A0 cc nL rt own d Q (pc + 1) lv (.int (x - y) :: st) u) : AJ l D tys wd A0 cc nL rt own d Q pc lv (.int y :: .int x :: st) u := by
  intro p e s m args below meth c X H locs ls hS hP hD hl
  exact lv_isub X.1 X.2.1 hd  (k p e s m args below meth c X H locs ls hS hP hD hl)
theorem J_imul {x y : Int32} (hd : decode cc pc = .ok (.imul, 1))  (k : AJ l D tys wd A0 cc nL rt own d Q (pc + 1) lv (.int (x * y) :: st) u) : AJ l D tys wd A0 cc nL rt own d Q pc lv (.int y :: .int x :: st) u := by
  intro p e s m args below meth c X H locs ls hS hP hD hl
  exact lv_imul X.1 X.2.1 hd  (k p e s m args below meth c X H locs ls hS hP hD hl)
theorem J_iand {x y : Int32} (hd : decode cc pc = .ok (.iand, 1))  (k : AJ l D tys wd A0 cc nL rt own d Q (pc + 1) lv (.int (x &&& y) :: st) u) : AJ l D tys wd A0 cc nL rt own d Q pc lv (.int y :: .int x :: st) u := by
  intro p e s m args below meth c X H locs ls hS hP hD hl
  exact lv_iand X.1 X.2.1 hd  (k p e s m args below meth c X H locs ls hS hP hD hl)
theorem J_ior {x y : Int32} (hd : decode cc pc = .ok (.ior, 1))  (k : AJ l D tys wd A0 cc nL rt own d Q (pc + 1) lv (.int (x ||| y) :: st) u) : AJ l D tys wd A0 cc nL rt own d Q pc lv (.int y :: .int x :: st) u := by
  intro p e s m args below meth c X H locs ls hS hP hD hl
  exact lv_ior X.1 X.2.1 hd  (k p e s m args below meth c X H locs ls hS hP hD hl)
theorem J_ixor {x y : Int32} (hd : decode cc pc = .ok (.ixor, 1))  (k : AJ l D tys wd A0 cc nL rt own d Q (pc + 1) lv (.int (x ^^^ y) :: st) u) : AJ l D tys wd A0 cc nL rt own d Q pc lv (.int y :: .int x :: st) u := by
  intro p e s m args below meth c X H locs ls hS hP hD hl
  exact lv_ixor X.1 X.2.1 hd  (k p e s m args below meth c X H locs ls hS hP hD hl)
theorem J_ishl {x y : Int32} (hd : decode cc pc = .ok (.ishl, 1))  (k : AJ l D tys wd A0 cc nL rt own d Q (pc + 1) lv (.int (x <<< (y &&& 31)) :: st) u) : AJ l D tys wd A0 cc nL rt own d Q pc lv (.int y :: .int x :: st) u := by
  intro p e s m args below meth c X H locs ls hS hP hD hl
  exact lv_ishl X.1 X.2.1 hd  (k p e s m args below meth c X H locs ls hS hP hD hl)
theorem J_ishr {x y : Int32} (hd : decode cc pc = .ok (.ishr, 1))  (k : AJ l D tys wd A0 cc nL rt own d Q (pc + 1) lv (.int (x >>> (y &&& 31)) :: st) u) : AJ l D tys wd A0 cc nL rt own d Q pc lv (.int y :: .int x :: st) u := by
  intro p e s m args below meth c X H locs ls hS hP hD hl
  exact lv_ishr X.1 X.2.1 hd  (k p e s m args below meth c X H locs ls hS hP hD hl)
theorem J_idiv {x y : Int32} (hd : decode cc pc = .ok (.idiv, 1)) (hne : ¬ y = 0) (k : AJ l D tys wd A0 cc nL rt own d Q (pc + 1) lv (.int (x / y) :: st) u) : AJ l D tys wd A0 cc nL rt own d Q pc lv (.int y :: .int x :: st) u := by
  intro p e s m args below meth c X H locs ls hS hP hD hl
  exact lv_idiv X.1 X.2.1 hd hne (k p e s m args below meth c X H locs ls hS hP hD hl)
theorem J_irem {x y : Int32} (hd : decode cc pc = .ok (.irem, 1)) (hne : ¬ y = 0) (k : AJ l D tys wd A0 cc nL rt own d Q (pc + 1) lv (.int (x - x / y * y) :: st) u) : AJ l D tys wd A0 cc nL rt own d Q pc lv (.int y :: .int x :: st) u := by
  intro p e s m args below meth c X H locs ls hS hP hD hl
  exact lv_irem X.1 X.2.1 hd hne (k p e s m args below meth c X H locs ls hS hP hD hl)
theorem J_ineg {x : Int32} (hd : decode cc pc = .ok (.ineg, 1))  (k : AJ l D tys wd A0 cc nL rt own d Q (pc + 1) lv (.int (0 - x) :: st) u) : AJ l D tys wd A0 cc nL rt own d Q pc lv (.int x :: st) u := by
  intro p e s m args below meth c X H locs ls hS hP hD hl
  exact lv_ineg X.1 X.2.1 hd  (k p e s m args below meth c X H locs ls hS hP hD hl)
theorem J_iushr {x y : Int32} (hd : decode cc pc = .ok (.iushr, 1))  (k : AJ l D tys wd A0 cc nL rt own d Q (pc + 1) lv (.int ((x.toUInt32 >>> (y.toUInt32 &&& Int32.toUInt32 31)).toInt32) :: st) u) : AJ l D tys wd A0 cc nL rt own d Q pc lv (.int y :: .int x :: st) u := by
  intro p e s m args below meth c X H locs ls hS hP hD hl
  exact lv_iushr X.1 X.2.1 hd rfl (k p e s m args below meth c X H locs ls hS hP hD hl)
theorem J_ladd {x y : Int64} (hd : decode cc pc = .ok (.ladd, 1))  (k : AJ l D tys wd A0 cc nL rt own d Q (pc + 1) lv (.long (x + y) :: st) u) : AJ l D tys wd A0 cc nL rt own d Q pc lv (.long y :: .long x :: st) u := by
  intro p e s m args below meth c X H locs ls hS hP hD hl
  exact lv_ladd X.1 X.2.1 hd  (k p e s m args below meth c X H locs ls hS hP hD hl)
theorem J_lsub {x y : Int64} (hd : decode cc pc = .ok (.lsub, 1))  (k : AJ l D tys wd A0 cc nL rt own d Q (pc + 1) lv (.long (x - y) :: st) u) : AJ l D tys wd A0 cc nL rt own d Q pc lv (.long y :: .long x :: st) u := by
  intro p e s m args below meth c X H locs ls hS hP hD hl
  exact lv_lsub X.1 X.2.1 hd  (k p e s m args below meth c X H locs ls hS hP hD hl)
theorem J_lmul {x y : Int64} (hd : decode cc pc = .ok (.lmul, 1))  (k : AJ l D tys wd A0 cc nL rt own d Q (pc + 1) lv (.long (x * y) :: st) u) : AJ l D tys wd A0 cc nL rt own d Q pc lv (.long y :: .long x :: st) u := by
  intro p e s m args below meth c X H locs ls hS hP hD hl
  exact lv_lmul X.1 X.2.1 hd  (k p e s m args below meth c X H locs ls hS hP hD hl)
theorem J_ldiv {x y : Int64} (hd : decode cc pc = .ok (.ldiv, 1)) (hne : ¬ y = 0) (k : AJ l D tys wd A0 cc nL rt own d Q (pc + 1) lv (.long (x / y) :: st) u) : AJ l D tys wd A0 cc nL rt own d Q pc lv (.long y :: .long x :: st) u := by
  intro p e s m args below meth c X H locs ls hS hP hD hl
  exact lv_ldiv X.1 X.2.1 hd hne (k p e s m args below meth c X H locs ls hS hP hD hl)
theorem J_lrem {x y : Int64} (hd : decode cc pc = .ok (.lrem, 1)) (hne : ¬ y = 0) (k : AJ l D tys wd A0 cc nL rt own d Q (pc + 1) lv (.long (x - x / y * y) :: st) u) : AJ l D tys wd A0 cc nL rt own d Q pc lv (.long y :: .long x :: st) u := by
  intro p e s m args below meth c X H locs ls hS hP hD hl
  exact lv_lrem X.1 X.2.1 hd hne (k p e s m args below meth c X H locs ls hS hP hD hl)
theorem J_i2l {x : Int32} (hd : decode cc pc = .ok (.i2l, 1))  (k : AJ l D tys wd A0 cc nL rt own d Q (pc + 1) lv (.long x.toInt64 :: st) u) : AJ l D tys wd A0 cc nL rt own d Q pc lv (.int x :: st) u := by
  intro p e s m args below meth c X H locs ls hS hP hD hl
  exact lv_i2l X.1 X.2.1 hd rfl (k p e s m args below meth c X H locs ls hS hP hD hl)
theorem J_i2b {x : Int32} (hd : decode cc pc = .ok (.i2b, 1))  (k : AJ l D tys wd A0 cc nL rt own d Q (pc + 1) lv (.int x.toInt8.toInt32 :: st) u) : AJ l D tys wd A0 cc nL rt own d Q pc lv (.int x :: st) u := by
  intro p e s m args below meth c X H locs ls hS hP hD hl
  exact lv_i2b X.1 X.2.1 hd rfl (k p e s m args below meth c X H locs ls hS hP hD hl)
theorem J_i2s {x : Int32} (hd : decode cc pc = .ok (.i2s, 1))  (k : AJ l D tys wd A0 cc nL rt own d Q (pc + 1) lv (.int x.toInt16.toInt32 :: st) u) : AJ l D tys wd A0 cc nL rt own d Q pc lv (.int x :: st) u := by
  intro p e s m args below meth c X H locs ls hS hP hD hl
  exact lv_i2s X.1 X.2.1 hd rfl (k p e s m args below meth c X H locs ls hS hP hD hl)
theorem J_lcmp {x y : Int64} (hd : decode cc pc = .ok (.lcmp, 1))  (k : AJ l D tys wd A0 cc nL rt own d Q (pc + 1) lv (.int (lg_cmp x y) :: st) u) : AJ l D tys wd A0 cc nL rt own d Q pc lv (.long y :: .long x :: st) u := by
  intro p e s m args below meth c X H locs ls hS hP hD hl
  exact W.lcmp X.1 X.2.1 hd  (k p e s m args below meth c X H locs ls hS hP hD hl)
theorem J_dup {a : Value} (hd : decode cc pc = .ok (.dup, 1)) (ha : a.category = 1) (k : AJ l D tys wd A0 cc nL rt own d Q (pc + 1) lv (a :: a :: st) u) : AJ l D tys wd A0 cc nL rt own d Q pc lv (a :: st) u := by
  intro p e s m args below meth c X H locs ls hS hP hD hl
  exact lv_dup X.1 X.2.1 hd ha (k p e s m args below meth c X H locs ls hS hP hD hl)
theorem J_pop {a : Value} (hd : decode cc pc = .ok (.pop, 1)) (ha : a.category = 1) (k : AJ l D tys wd A0 cc nL rt own d Q (pc + 1) lv (st) u) : AJ l D tys wd A0 cc nL rt own d Q pc lv (a :: st) u := by
  intro p e s m args below meth c X H locs ls hS hP hD hl
  exact lv_pop X.1 X.2.1 hd ha (k p e s m args below meth c X H locs ls hS hP hD hl)
theorem J_dup2 {a b : Value} (hd : decode cc pc = .ok (.dup2, 1)) (ha : a.category = 1) (hb : b.category = 1) (k : AJ l D tys wd A0 cc nL rt own d Q (pc + 1) lv (a :: b :: a :: b :: st) u) : AJ l D tys wd A0 cc nL rt own d Q pc lv (a :: b :: st) u := by
  intro p e s m args below meth c X H locs ls hS hP hD hl
  exact lv_dup2_11 X.1 X.2.1 hd ha hb (k p e s m args below meth c X H locs ls hS hP hD hl)
theorem J_if_eq {x : Int32} {off : Int} {tgt : Nat} (hd : decode cc pc = .ok (.ifCond .eq off, 3)) (ht : (pc : Int) + off = (tgt : Int)) (kt : x = 0 → AJ l D tys wd A0 cc nL rt own d Q tgt lv (st) u) (kf : ¬ x = 0 → AJ l D tys wd A0 cc nL rt own d Q (pc + 3) lv (st) u) : AJ l D tys wd A0 cc nL rt own d Q pc lv (.int x :: st) u := by
  intro p e s m args below meth c X H locs ls hS hP hD hl
  exact lv_if_eq X.1 X.2.1 hd ht (fun h => kt h p e s m args below meth c X H locs ls hS hP hD hl) (fun h => kf h p e s m args below meth c X H locs ls hS hP hD hl)
theorem J_icmp_eq {x y : Int32} {off : Int} {tgt : Nat} (hd : decode cc pc = .ok (.if_icmp .eq off, 3)) (ht : (pc : Int) + off = (tgt : Int)) (kt : x = y → AJ l D tys wd A0 cc nL rt own d Q tgt lv (st) u) (kf : ¬ x = y → AJ l D tys wd A0 cc nL rt own d Q (pc + 3) lv (st) u) : AJ l D tys wd A0 cc nL rt own d Q pc lv (.int y :: .int x :: st) u := by
  intro p e s m args below meth c X H locs ls hS hP hD hl
  exact lv_icmp_eq X.1 X.2.1 hd ht (fun h => kt h p e s m args below meth c X H locs ls hS hP hD hl) (fun h => kf h p e s m args below meth c X H locs ls hS hP hD hl)
theorem J_if_ne {x : Int32} {off : Int} {tgt : Nat} (hd : decode cc pc = .ok (.ifCond .ne off, 3)) (ht : (pc : Int) + off = (tgt : Int)) (kt : ¬ x = 0 → AJ l D tys wd A0 cc nL rt own d Q tgt lv (st) u) (kf : x = 0 → AJ l D tys wd A0 cc nL rt own d Q (pc + 3) lv (st) u) : AJ l D tys wd A0 cc nL rt own d Q pc lv (.int x :: st) u := by
  intro p e s m args below meth c X H locs ls hS hP hD hl
  exact lv_if_ne X.1 X.2.1 hd ht (fun h => kt h p e s m args below meth c X H locs ls hS hP hD hl) (fun h => kf h p e s m args below meth c X H locs ls hS hP hD hl)
theorem J_icmp_ne {x y : Int32} {off : Int} {tgt : Nat} (hd : decode cc pc = .ok (.if_icmp .ne off, 3)) (ht : (pc : Int) + off = (tgt : Int)) (kt : ¬ x = y → AJ l D tys wd A0 cc nL rt own d Q tgt lv (st) u) (kf : x = y → AJ l D tys wd A0 cc nL rt own d Q (pc + 3) lv (st) u) : AJ l D tys wd A0 cc nL rt own d Q pc lv (.int y :: .int x :: st) u := by
  intro p e s m args below meth c X H locs ls hS hP hD hl
  exact lv_icmp_ne X.1 X.2.1 hd ht (fun h => kt h p e s m args below meth c X H locs ls hS hP hD hl) (fun h => kf h p e s m args below meth c X H locs ls hS hP hD hl)
theorem J_if_lt {x : Int32} {off : Int} {tgt : Nat} (hd : decode cc pc = .ok (.ifCond .lt off, 3)) (ht : (pc : Int) + off = (tgt : Int)) (kt : x < 0 → AJ l D tys wd A0 cc nL rt own d Q tgt lv (st) u) (kf : ¬ x < 0 → AJ l D tys wd A0 cc nL rt own d Q (pc + 3) lv (st) u) : AJ l D tys wd A0 cc nL rt own d Q pc lv (.int x :: st) u := by
  intro p e s m args below meth c X H locs ls hS hP hD hl
  exact lv_if_lt X.1 X.2.1 hd ht (fun h => kt h p e s m args below meth c X H locs ls hS hP hD hl) (fun h => kf h p e s m args below meth c X H locs ls hS hP hD hl)
theorem J_icmp_lt {x y : Int32} {off : Int} {tgt : Nat} (hd : decode cc pc = .ok (.if_icmp .lt off, 3)) (ht : (pc : Int) + off = (tgt : Int)) (kt : x < y → AJ l D tys wd A0 cc nL rt own d Q tgt lv (st) u) (kf : ¬ x < y → AJ l D tys wd A0 cc nL rt own d Q (pc + 3) lv (st) u) : AJ l D tys wd A0 cc nL rt own d Q pc lv (.int y :: .int x :: st) u := by
  intro p e s m args below meth c X H locs ls hS hP hD hl
  exact lv_icmp_lt X.1 X.2.1 hd ht (fun h => kt h p e s m args below meth c X H locs ls hS hP hD hl) (fun h => kf h p e s m args below meth c X H locs ls hS hP hD hl)
theorem J_if_ge {x : Int32} {off : Int} {tgt : Nat} (hd : decode cc pc = .ok (.ifCond .ge off, 3)) (ht : (pc : Int) + off = (tgt : Int)) (kt : 0 ≤ x → AJ l D tys wd A0 cc nL rt own d Q tgt lv (st) u) (kf : ¬ 0 ≤ x → AJ l D tys wd A0 cc nL rt own d Q (pc + 3) lv (st) u) : AJ l D tys wd A0 cc nL rt own d Q pc lv (.int x :: st) u := by
  intro p e s m args below meth c X H locs ls hS hP hD hl
  exact lv_if_ge X.1 X.2.1 hd ht (fun h => kt h p e s m args below meth c X H locs ls hS hP hD hl) (fun h => kf h p e s m args below meth c X H locs ls hS hP hD hl)
theorem J_icmp_ge {x y : Int32} {off : Int} {tgt : Nat} (hd : decode cc pc = .ok (.if_icmp .ge off, 3)) (ht : (pc : Int) + off = (tgt : Int)) (kt : y ≤ x → AJ l D tys wd A0 cc nL rt own d Q tgt lv (st) u) (kf : ¬ y ≤ x → AJ l D tys wd A0 cc nL rt own d Q (pc + 3) lv (st) u) : AJ l D tys wd A0 cc nL rt own d Q pc lv (.int y :: .int x :: st) u := by
  intro p e s m args below meth c X H locs ls hS hP hD hl
  exact lv_icmp_ge X.1 X.2.1 hd ht (fun h => kt h p e s m args below meth c X H locs ls hS hP hD hl) (fun h => kf h p e s m args below meth c X H locs ls hS hP hD hl)
theorem J_if_gt {x : Int32} {off : Int} {tgt : Nat} (hd : decode cc pc = .ok (.ifCond .gt off, 3)) (ht : (pc : Int) + off = (tgt : Int)) (kt : 0 < x → AJ l D tys wd A0 cc nL rt own d Q tgt lv (st) u) (kf : ¬ 0 < x → AJ l D tys wd A0 cc nL rt own d Q (pc + 3) lv (st) u) : AJ l D tys wd A0 cc nL rt own d Q pc lv (.int x :: st) u := by
  intro p e s m args below meth c X H locs ls hS hP hD hl
  exact lv_if_gt X.1 X.2.1 hd ht (fun h => kt h p e s m args below meth c X H locs ls hS hP hD hl) (fun h => kf h p e s m args below meth c X H locs ls hS hP hD hl)
theorem J_icmp_gt {x y : Int32} {off : Int} {tgt : Nat} (hd : decode cc pc = .ok (.if_icmp .gt off, 3)) (ht : (pc : Int) + off = (tgt : Int)) (kt : y < x → AJ l D tys wd A0 cc nL rt own d Q tgt lv (st) u) (kf : ¬ y < x → AJ l D tys wd A0 cc nL rt own d Q (pc + 3) lv (st) u) : AJ l D tys wd A0 cc nL rt own d Q pc lv (.int y :: .int x :: st) u := by
  intro p e s m args below meth c X H locs ls hS hP hD hl
  exact lv_icmp_gt X.1 X.2.1 hd ht (fun h => kt h p e s m args below meth c X H locs ls hS hP hD hl) (fun h => kf h p e s m args below meth c X H locs ls hS hP hD hl)
theorem J_if_le {x : Int32} {off : Int} {tgt : Nat} (hd : decode cc pc = .ok (.ifCond .le off, 3)) (ht : (pc : Int) + off = (tgt : Int)) (kt : x ≤ 0 → AJ l D tys wd A0 cc nL rt own d Q tgt lv (st) u) (kf : ¬ x ≤ 0 → AJ l D tys wd A0 cc nL rt own d Q (pc + 3) lv (st) u) : AJ l D tys wd A0 cc nL rt own d Q pc lv (.int x :: st) u := by
  intro p e s m args below meth c X H locs ls hS hP hD hl
  exact lv_if_le X.1 X.2.1 hd ht (fun h => kt h p e s m args below meth c X H locs ls hS hP hD hl) (fun h => kf h p e s m args below meth c X H locs ls hS hP hD hl)
theorem J_icmp_le {x y : Int32} {off : Int} {tgt : Nat} (hd : decode cc pc = .ok (.if_icmp .le off, 3)) (ht : (pc : Int) + off = (tgt : Int)) (kt : x ≤ y → AJ l D tys wd A0 cc nL rt own d Q tgt lv (st) u) (kf : ¬ x ≤ y → AJ l D tys wd A0 cc nL rt own d Q (pc + 3) lv (st) u) : AJ l D tys wd A0 cc nL rt own d Q pc lv (.int y :: .int x :: st) u := by
  intro p e s m args below meth c X H locs ls hS hP hD hl
  exact lv_icmp_le X.1 X.2.1 hd ht (fun h => kt h p e s m args below meth c X H locs ls hS hP hD hl) (fun h => kf h p e s m args below meth c X H locs ls hS hP hD hl)
theorem J_goto {off : Int} {tgt : Nat} (hd : decode cc pc = .ok (.goto off, 3)) (ht : (pc : Int) + off = (tgt : Int)) (k : AJ l D tys wd A0 cc nL rt own d Q tgt lv (st) u) : AJ l D tys wd A0 cc nL rt own d Q pc lv (st) u := by
  intro p e s m args below meth c X H locs ls hS hP hD hl
  exact lv_goto X.1 X.2.1 hd ht (k p e s m args below meth c X H locs ls hS hP hD hl)
theorem J_ifnull {x : Nat} {off : Int} (hd : decode cc pc = .ok (.ifnull off, 3)) (k : AJ l D tys wd A0 cc nL rt own d Q (pc + 3) lv (st) u) : AJ l D tys wd A0 cc nL rt own d Q pc lv (.ref x :: st) u := by
  intro p e s m args below meth c X H locs ls hS hP hD hl
  exact lv_ifnull X.1 X.2.1 hd (k p e s m args below meth c X H locs ls hS hP hD hl)
theorem J_ifnullN {off : Int} {tgt : Nat} (hd : decode cc pc = .ok (.ifnull off, 3)) (ht : (pc : Int) + off = (tgt : Int)) (k : AJ l D tys wd A0 cc nL rt own d Q tgt lv (st) u) : AJ l D tys wd A0 cc nL rt own d Q pc lv (.null :: st) u := by
  intro p e s m args below meth c X H locs ls hS hP hD hl
  exact lv_ifnullN X.1 X.2.1 hd ht (k p e s m args below meth c X H locs ls hS hP hD hl)
theorem J_ifnonnull {x : Nat} {off : Int} {tgt : Nat} (hd : decode cc pc = .ok (.ifnonnull off, 3)) (ht : (pc : Int) + off = (tgt : Int)) (k : AJ l D tys wd A0 cc nL rt own d Q tgt lv (st) u) : AJ l D tys wd A0 cc nL rt own d Q pc lv (.ref x :: st) u := by
  intro p e s m args below meth c X H locs ls hS hP hD hl
  exact lv_ifnonnull X.1 X.2.1 hd ht (k p e s m args below meth c X H locs ls hS hP hD hl)
theorem J_ifnonnullN {off : Int} (hd : decode cc pc = .ok (.ifnonnull off, 3)) (k : AJ l D tys wd A0 cc nL rt own d Q (pc + 3) lv (st) u) : AJ l D tys wd A0 cc nL rt own d Q pc lv (.null :: st) u := by
  intro p e s m args below meth c X H locs ls hS hP hD hl
  exact lv_ifnonnullN X.1 X.2.1 hd (k p e s m args below meth c X H locs ls hS hP hD hl)
theorem J_tin {dflt lo hi : Int} {offs : Array Int} {len : Nat} {x : Int32} {off : Int} {tgt : Nat} (hd : decode cc pc = .ok (.tableswitch dflt lo hi offs, len)) (h1 : ¬ x.toInt < lo) (h2 : ¬ hi < x.toInt) (ho : offs[(x.toInt - lo).toNat]? = some off) (ht : (pc : Int) + off = (tgt : Int)) (k : AJ l D tys wd A0 cc nL rt own d Q tgt lv (st) u) : AJ l D tys wd A0 cc nL rt own d Q pc lv (.int x :: st) u := by
  intro p e s m args below meth c X H locs ls hS hP hD hl
  exact lv_tableIn X.1 X.2.1 hd h1 h2 ho ht (k p e s m args below meth c X H locs ls hS hP hD hl)
theorem J_tout {dflt lo hi : Int} {offs : Array Int} {len : Nat} {x : Int32} {tgt : Nat} (hd : decode cc pc = .ok (.tableswitch dflt lo hi offs, len)) (h1 : x.toInt < lo ∨ hi < x.toInt) (ht : (pc : Int) + dflt = (tgt : Int)) (k : AJ l D tys wd A0 cc nL rt own d Q tgt lv (st) u) : AJ l D tys wd A0 cc nL rt own d Q pc lv (.int x :: st) u := by
  intro p e s m args below meth c X H locs ls hS hP hD hl
  exact lv_tableOut X.1 X.2.1 hd h1 ht (k p e s m args below meth c X H locs ls hS hP hD hl)
theorem J_iret {x : Int32} (hrt : rt = some .int) (hd : decode cc pc = .ok (.ireturn, 1))  (k : Q (some (.int x)) u) : AJ l D tys wd A0 cc nL rt own d Q pc lv ([.int x]) u := by
  intro p e s m args below meth c X H locs ls hS hP hD hl
  exact W.iret X.1 X.2.1 (X.2.2.2.1.trans hrt)  (fun t ht hW => ⟨⟨_, u, rfl, k, by rw [ht]; exact hP, va_K.moved hW.alike X.2.2.2.2.2.2.2.2, hD⟩, hS.F ht⟩) hS.2.2 hd X.2.2.2.2.1
theorem J_zret {x : Int32} (hrt : rt = some .boolean) (hd : decode cc pc = .ok (.ireturn, 1)) (hn : narrow .boolean (.int x) = .int x) (k : Q (some (.int x)) u) : AJ l D tys wd A0 cc nL rt own d Q pc lv ([.int x]) u := by
  intro p e s m args below meth c X H locs ls hS hP hD hl
  exact W.zret X.1 X.2.1 (X.2.2.2.1.trans hrt) hn (fun t ht hW => ⟨⟨_, u, rfl, k, by rw [ht]; exact hP, va_K.moved hW.alike X.2.2.2.2.2.2.2.2, hD⟩, hS.F ht⟩) hS.2.2 hd X.2.2.2.2.1
theorem J_lret {x : Int64} (hrt : rt = some .long) (hd : decode cc pc = .ok (.lreturn, 1))  (k : Q (some (.long x)) u) : AJ l D tys wd A0 cc nL rt own d Q pc lv ([.long x]) u := by
  intro p e s m args below meth c X H locs ls hS hP hD hl
  exact W.lret X.1 X.2.1 (X.2.2.2.1.trans hrt)  (fun t ht hW => ⟨⟨_, u, rfl, k, by rw [ht]; exact hP, va_K.moved hW.alike X.2.2.2.2.2.2.2.2, hD⟩, hS.F ht⟩) hS.2.2 hd X.2.2.2.2.1
theorem J_vret  (hrt : rt = none) (hd : decode cc pc = .ok (.return_, 1))  (k : Q (none) u) : AJ l D tys wd A0 cc nL rt own d Q pc lv ([]) u := by
  intro p e s m args below meth c X H locs ls hS hP hD hl
  exact W.vret X.1 X.2.1 (X.2.2.2.1.trans hrt)  (fun t ht hW => ⟨⟨_, u, rfl, k, by rw [ht]; exact hP, va_K.moved hW.alike X.2.2.2.2.2.2.2.2, hD⟩, hS.F ht⟩) hS.2.2 hd X.2.2.2.2.1
theorem J_aret {C : String} {x : Nat} (hrt : rt = some (.object C)) (hd : decode cc pc = .ok (.areturn, 1)) (k : Q (some (.ref x)) u) : AJ l D tys wd A0 cc nL rt own d Q pc lv ([.ref x]) u := by
  intro p e s m args below meth c X H locs ls hS hP hD hl
  exact W.aret X.1 X.2.1 (X.2.2.2.1.trans hrt) (Or.inl ⟨C, rfl⟩) (Or.inr ⟨x, rfl⟩) (fun t ht hW => ⟨⟨_, u, rfl, k, by rw [ht]; exact hP, va_K.moved hW.alike X.2.2.2.2.2.2.2.2, hD⟩, hS.F ht⟩) hS.2.2 hd X.2.2.2.2.1
theorem J_aretN {C : String} (hrt : rt = some (.object C)) (hd : decode cc pc = .ok (.areturn, 1)) (k : Q (some .null) u) : AJ l D tys wd A0 cc nL rt own d Q pc lv ([.null]) u := by
  intro p e s m args below meth c X H locs ls hS hP hD hl
  exact W.aret X.1 X.2.1 (X.2.2.2.1.trans hrt) (Or.inl ⟨C, rfl⟩) (Or.inl rfl) (fun t ht hW => ⟨⟨_, u, rfl, k, by rw [ht]; exact hP, va_K.moved hW.alike X.2.2.2.2.2.2.2.2, hD⟩, hS.F ht⟩) hS.2.2 hd X.2.2.2.2.1
theorem J_get {C : String} {T : u_T} {N ci i a : Nat} {v : Value} {fs : List Value} (q0 k0 : Nat) (hin : ∀ w ∈ u_ws C T N, w ∈ TT) (he : (wd u)[q0]? = some (a, .inr (ci, fs))) (hc : vwCl[ci]? = some (C, T, N)) (hk : k0 < N) (hw : Cond.fieldLink own i (T k0).1 (T k0).2.1 (T k0).2.2.1 ∈ TT) (hv : fs[k0]? = some v) (hd : decode cc pc = .ok (.getfield i, 3)) (k : AJ l D tys wd A0 cc nL rt own d Q (pc + 3) lv (v :: st) u) : AJ l D tys wd A0 cc nL rt own d Q pc lv (.ref a :: st) u := by
  intro p e s m args below meth c X H locs ls hS hP hD hl
  exact va_get (D := D) X.1 X.2.1 X.2.2.2.2.2.2.1 hin X.2.2.2.2.2.1 X.2.2.2.2.2.2.2.2 hP q0 he hc k0 hk (X.2.2.2.2.2.2.1 _ hw) (fun _ h => h) hv hd (k p e s m args below meth c X H locs ls hS hP hD hl)
theorem J_put {C : String} {T : u_T} {N ci i a : Nat} {v : Value} {fs : List Value} {u2 : Mem} {ty : FieldType} (q0 k0 : Nat) (hin : ∀ w ∈ u_ws C T N, w ∈ TT) (ty0 : Nat → FieldType) (hty : ∀ k, k < N → parseFieldDescriptor (T k).2.2.1 = some (ty0 k)) (hnm : ∀ a, a < N → ∀ b, b < N → a ≠ b → (T a).2.1 ≠ (T b).2.1) (he : (wd u)[q0]? = some (a, .inr (ci, fs))) (hc : vwCl[ci]? = some (C, T, N)) (hk : k0 < N) (hw : Cond.fieldLink own i (T k0).1 (T k0).2.1 (T k0).2.2.1 ∈ TT) (hfin : (T k0).2.2.2 = false) (hdt : parseFieldDescriptor (T k0).2.2.1 = some ty) (hn : narrow ty v = v) (hfit : fits ty v = true) (hlen : k0 < fs.length) (hset : (wd u).set q0 (a, .inr (ci, fs.set k0 v)) = wd u2) (hd : decode cc pc = .ok (.putfield i, 3)) (k : AJ l D tys wd A0 cc nL rt own d Q (pc + 3) lv (st) u2) : AJ l D tys wd A0 cc nL rt own d Q pc lv (v :: .ref a :: st) u := by
  intro p e s m args below meth c X H locs ls hS hP hD hl
  exact va_put (D := D) X.1 X.2.1 X.2.2.2.2.2.2.1 hin ty0 hty hnm X.2.2.2.2.2.1 X.2.2.2.2.2.2.2.2 hP hD hS q0 he hc k0 hk (X.2.2.2.2.2.2.1 _ hw) (fun _ h => h) hfin hdt hn hfit hlen hd (fun H1 locs1 hP1 hD1 hS1 => k p e s m args below meth c X H1 locs1 ls hS1 (by rw [← hset]; exact hP1) (by rw [← hset]; exact hD1) hl)
theorem J_iald {cA : ClassId} {n a : Nat} {f : Nat → Int32} {i : Int32} (q0 t0 : Nat) (ha : (wd u)[q0]? = some (a, .inl (cA, n, .inl f))) (ht : tys[t0]? = some (cA, .int)) (hin : vp_in i n) (hd : decode cc pc = .ok (.iaload, 1)) (k : AJ l D tys wd A0 cc nL rt own d Q (pc + 1) lv (.int (f i.toNatClampNeg) :: st) u) : AJ l D tys wd A0 cc nL rt own d Q pc lv (.int i :: .ref a :: st) u := by
  intro p e s m args below meth c X H locs ls hS hP hD hl
  exact va_iald X.1 X.2.1 X.2.2.2.2.2.2.2.2 hP q0 t0 ha ht hin hd (k p e s m args below meth c X H locs ls hS hP hD hl)
theorem J_zald {cA : ClassId} {n a : Nat} {f : Nat → Int32} {i : Int32} (q0 t0 : Nat) (ha : (wd u)[q0]? = some (a, .inl (cA, n, .inl f))) (ht : tys[t0]? = some (cA, .boolean)) (hin : vp_in i n) (hd : decode cc pc = .ok (.baload, 1)) (k : AJ l D tys wd A0 cc nL rt own d Q (pc + 1) lv (.int (f i.toNatClampNeg) :: st) u) : AJ l D tys wd A0 cc nL rt own d Q pc lv (.int i :: .ref a :: st) u := by
  intro p e s m args below meth c X H locs ls hS hP hD hl
  exact va_zald X.1 X.2.1 X.2.2.2.2.2.2.2.2 hP q0 t0 ha ht hin hd (k p e s m args below meth c X H locs ls hS hP hD hl)
theorem J_iast {cA : ClassId} {n a : Nat} {f : Nat → Int32} {i x : Int32} {u2 : Mem} (q0 t0 : Nat) (ha : (wd u)[q0]? = some (a, .inl (cA, n, .inl f))) (ht : tys[t0]? = some (cA, .int)) (hin : vp_in i n) (hset : (wd u).set q0 (a, .inl (cA, n, .inl (upd f i.toNatClampNeg x))) = wd u2) (hd : decode cc pc = .ok (.iastore, 1)) (k : AJ l D tys wd A0 cc nL rt own d Q (pc + 1) lv (st) u2) : AJ l D tys wd A0 cc nL rt own d Q pc lv (.int x :: .int i :: .ref a :: st) u := by
  intro p e s m args below meth c X H locs ls hS hP hD hl
  exact va_iast X.1 X.2.1 X.2.2.2.2.2.2.2.2 hP hD hS q0 t0 ha ht hin hd (fun H1 locs1 hP1 hD1 hS1 => k p e s m args below meth c X H1 locs1 ls hS1 (by rw [← hset]; exact hP1) (by rw [← hset]; exact hD1) hl)
theorem J_zast {cA : ClassId} {n a : Nat} {f : Nat → Int32} {i x : Int32} {u2 : Mem} (q0 t0 : Nat) (ha : (wd u)[q0]? = some (a, .inl (cA, n, .inl f))) (ht : tys[t0]? = some (cA, .boolean)) (hin : vp_in i n) (hset : (wd u).set q0 (a, .inl (cA, n, .inl (upd f i.toNatClampNeg (vp_nar .boolean x)))) = wd u2) (hd : decode cc pc = .ok (.bastore, 1)) (k : AJ l D tys wd A0 cc nL rt own d Q (pc + 1) lv (st) u2) : AJ l D tys wd A0 cc nL rt own d Q pc lv (.int x :: .int i :: .ref a :: st) u := by
  intro p e s m args below meth c X H locs ls hS hP hD hl
  exact va_zast X.1 X.2.1 X.2.2.2.2.2.2.2.2 hP hD hS q0 t0 ha ht hin hd (fun H1 locs1 hP1 hD1 hS1 => k p e s m args below meth c X H1 locs1 ls hS1 (by rw [← hset]; exact hP1) (by rw [← hset]; exact hD1) hl)
theorem J_aald {cA : ClassId} {C : String} {n a b : Nat} {f : Nat → Option Nat} {i : Int32} (q0 t0 : Nat) (ha : (wd u)[q0]? = some (a, .inl (cA, n, .inr (.inr (.inr (.inr f)))))) (ht : tys[t0]? = some (cA, .object C)) (hin : vp_in i n) (hb : f i.toNatClampNeg = some b) (hd : decode cc pc = .ok (.aaload, 1)) (k : AJ l D tys wd A0 cc nL rt own d Q (pc + 1) lv (.ref b :: st) u) : AJ l D tys wd A0 cc nL rt own d Q pc lv (.int i :: .ref a :: st) u := by
  intro p e s m args below meth c X H locs ls hS hP hD hl
  refine va_aldq X.1 X.2.1 X.2.2.2.2.2.2.2.2 hP q0 t0 ha ht hin hd ?_
  rw [hb]
  exact k p e s m args below meth c X H locs ls hS hP hD hl
theorem J_alen {cA : ClassId} {a : Nat} {x : vp_A} {ty : FieldType} {v : Int32} (q0 t0 : Nat) (ha : (wd u)[q0]? = some (a, .inl (cA, x))) (ht : tys[t0]? = some (cA, ty)) (hv : Int32.ofNat x.1 = v) (hd : decode cc pc = .ok (.arraylength, 1)) (k : AJ l D tys wd A0 cc nL rt own d Q (pc + 1) lv (.int v :: st) u) : AJ l D tys wd A0 cc nL rt own d Q pc lv (.ref a :: st) u := by
  intro p e s m args below meth c X H locs ls hS hP hD hl
  exact va_alen X.1 X.2.1 X.2.2.2.2.2.2.2.2 hP q0 t0 ha ht hv hd (k p e s m args below meth c X H locs ls hS hP hD hl)
theorem J_copy {a0 a1 : Nat} {c0 : ClassId} {n0 n1 i : Nat} {f g : Nat → Int32} {sp dp n : Int32} {u2 : Mem} (q0 q1 t0 : Nat) (hw : Cond.methodLink own i arraycopyName ∈ TT) (hw2 : Cond.native arraycopyName ∈ TT) (hw3 : Cond.static arraycopyName ∈ TT) (hw4 : Cond.initialized "java/lang/System" ∈ TT) (ha0 : (wd u)[q0]? = some (a0, .inl (c0, n0, .inl f))) (ha1 : (wd u)[q1]? = some (a1, .inl (c0, n1, .inl g))) (ht0 : tys[t0]? = some (c0, .int)) (h1 : ¬ sp < 0) (h2 : ¬ dp < 0) (h3 : ¬ n < 0) (h4 : sp.toNatClampNeg + n.toNatClampNeg ≤ n0) (h5 : dp.toNatClampNeg + n.toNatClampNeg ≤ n1) (hdd : 1 ≤ d) (hroom : (st.map fun v => v.category).sum ≤ 8) (hset : (wd u).set q1 (a1, .inl (c0, n1, .inl (va_cpy f g sp.toNatClampNeg dp.toNatClampNeg n.toNatClampNeg))) = wd u2) (hd : decode cc pc = .ok (.invokestatic i, 3)) (k : AJ l D tys wd A0 cc nL rt own d Q (pc + 3) lv (st) u2) : AJ l D tys wd A0 cc nL rt own d Q pc lv (.int n :: .int dp :: .ref a1 :: .int sp :: .ref a0 :: st) u := by
  intro p e s m args below meth c X H locs ls hS hP hD hl
  have hz1 : 1 ≤ (RM d).frames := hdd
  have hz2 : (st.map fun v => v.category).sum + (nativeFrameWords "java/lang/System" "arraycopy" 5 + 11) ≤ (RM d).locals := by
    have h6 : nativeFrameWords "java/lang/System" "arraycopy" 5 + 11 ≤ 80 := by decide +kernel
    show _ ≤ 100 * d
    omega
  exact va_copyi X.1 X.2.1 (X.2.2.1.trans hl.1.symm) X.2.2.2.2.2.1 (X.2.2.2.2.2.2.1 _ hw) (X.2.2.2.2.2.2.1 _ hw2) (X.2.2.2.2.2.2.1 _ hw3) (X.2.2.2.2.2.2.1 _ hw4) X.2.2.2.2.2.2.2.2 hP hD hS q0 q1 t0 t0 ha0 ha1 ht0 ht0 rfl h1 h2 h3 h4 h5 (fun _ _ => rfl) hz1 hz2 hd (fun H1 locs1 hP1 hD1 hS1 => k p e s m args below meth c X H1 locs1 ls hS1 (by rw [← hset]; exact hP1) (by rw [← hset]; exact hD1) hl)
theorem J_ofrun {p : Program} {e : Env} {s : State} {m : MethodId} {args : Array Value} {below : List Frame} {meth : Method} {c : Code} {H : Heap} {locs : List Loc} {ls : Array Slot} {st0 : List Value} {a : Array Value} {K : Option Value → Mem → Prop} {QQ : State → Prop} (X : JX D tys cc nL rt own p s m args meth c) (hr : va_Run p l e (RM d) s m args below meth c H locs 0 0 0 0 (F0 m pc ls st0) st (jQ D tys wd A0 K a) A0) (hS : va_S A0 s.heap H locs)
    (kk : ∀ (v : Option Value) (u1 : Mem) (H1 : Heap) (locs1 : List Loc), K v u1 → va_S A0 s.heap H1 locs1 → va_P D vwCl (wd u1) H1 → va_D A0 (wd u1) → W p l e (RM d) s m args below meth c H1 locs1 0 0 QQ (F0 m (pc + 3) ls (v.toList ++ st))) : W p l e (RM d) s m args below meth c H locs 0 0 QQ (F0 m pc ls st0) := by
  intro T hT Y
  obtain ⟨v, st₀, t, T', L, h0, X', hL, e1, e2, ⟨⟨v', u1, hv, hq, hP1, hK1, hD1⟩, hz, hk⟩, sp⟩ := hr T hT Y
  cases hv
  rw [h0] at hz hk
  obtain ⟨t2, a1, b1⟩ := kk v u1 T'.heap (locs ++ L) hq
    ⟨Nat.le_trans hS.1 (by rw [e1]; exact hz), fun q h1 h2 => by rw [e1, hk q (Nat.lt_of_lt_of_le h1 hS.1) (fun z => h2 z)]; exact hS.2.1 q h1 h2, fun q hq => by
      rcases List.mem_append.mp hq with h | h
      · exact hS.2.2 q h
      · exact hL q h⟩ (by rw [e1]; exact hP1) hD1 T' rfl X'
  exact ⟨t2, sp t2 a1, b1⟩
def jD (y : MethodName) (n : Nat) : Prop := y.cls ≠ "java/lang/invoke/MethodHandle" ∧ y.cls ≠ "java/lang/invoke/VarHandle" ∧ (parseMethodDescriptor y.desc).map (fun d => d.parameters.length) = some n
theorem jP_blind {av : List Value} : FrameBlind (va_Pc av (jP D tys wd A0 u)) := by
  intro a U g mk q
  obtain ⟨q0, qP, qK, qD, qN⟩ := q
  exact ⟨q0, qP, va_K.moved (u := U) (U := U.calling g mk a) (Vm.Alike.refl U.vm) qK, qD, NW.same (s := U) (U := U.calling g mk a) rfl qN⟩
theorem tt_in {y : MethodName} {c2 : ByteArray} {n2 : Nat} {r2 : Option FieldType} (h : Cond.code y c2 n2 r2 ∈ TT) : GoodIn TT (Cond.code y c2 n2 r2 :: TT) := by
  intro w hw
  rcases List.mem_cons.mp hw with rfl | hw
  · exact ⟨h, tt_good h⟩
  · exact ⟨hw, tt_good hw⟩
/-- the words of a static call, of a virtual one, of an inherited one, of one to a nest mate -/
def kS (own : String) (i : Nat) (y : MethodName) (c2 : ByteArray) (n2 : Nat) (r2 : Option FieldType) (n : Nat) : Prop := Cond.code y c2 n2 r2 ∈ TT ∧ Cond.methodLink own i y ∈ TT ∧ Cond.static y ∈ TT ∧ Cond.initialized y.cls ∈ TT ∧ jD y n ∧ n2 ≤ 80
def kV (own : String) (i : Nat) (C : String) (y : MethodName) (c2 : ByteArray) (n2 : Nat) (r2 : Option FieldType) (n : Nat) : Prop := Cond.code y c2 n2 r2 ∈ TT ∧ Cond.methodLink own i y ∈ TT ∧ Cond.instanceMethod y ∈ TT ∧ Cond.selects C y y ∈ TT ∧ Cond.initialized y.cls ∈ TT ∧ jD y n ∧ n2 ≤ 80
def kU (own : String) (i : Nat) (C owner : String) (x y : MethodName) (c2 : ByteArray) (n2 : Nat) (r2 : Option FieldType) (n : Nat) : Prop := Cond.code y c2 n2 r2 ∈ TT ∧ Cond.methodLink own i x ∈ TT ∧ Cond.sameMethod x.cls owner x.name x.desc ∈ TT ∧ Cond.selects C x y ∈ TT ∧ Cond.instanceMethod y ∈ TT ∧ Cond.initialized y.cls ∈ TT ∧ n2 ≤ 80 ∧ owner ≠ "java/lang/invoke/MethodHandle" ∧ owner ≠ "java/lang/invoke/VarHandle" ∧ (parseMethodDescriptor x.desc).map (fun d => d.parameters.length) = some n
def kN (own : String) (i : Nat) (y : MethodName) (host : String) (c2 : ByteArray) (n2 : Nat) (r2 : Option FieldType) (n : Nat) : Prop := Cond.code y c2 n2 r2 ∈ TT ∧ Cond.methodLinkNest own i y host ∈ NWs ∧ Cond.static y ∈ TT ∧ Cond.initialized y.cls ∈ TT ∧ jD y n ∧ n2 ≤ 80
section CALLS
variable {y x : MethodName} {c2 : ByteArray} {n2 n i d2 : Nat} {r2 : Option FieldType} {As : List Value} {st0 : List Value} {K : Option Value → Mem → Prop} {C host owner : String}
theorem J_callS (w : kS own i y c2 n2 r2 n) (hM : JMet l D tys wd A0 y c2 n2 r2 d2 As u K) (hn : As.length = n) (hst : st0 = As.reverse ++ st) (hdd : d2 + 1 ≤ d) (hroom : (st.map fun v => v.category).sum ≤ 8) (hd : decode cc pc = .ok (.invokestatic i, 3))
    (k : ∀ v u1, K v u1 → AJ l D tys wd A0 cc nL rt own d Q (pc + 3) lv (v.toList ++ st) u1) : AJ l D tys wd A0 cc nL rt own d Q pc lv (st0) u := by
  intro p e s m args below meth c X H locs ls hS hP hD hl
  obtain ⟨w1, w2, w3, w4, w5, w6⟩ := w
  refine J_ofrun X (va_runS (As := As) (rest := st) ⟨X.1, X.2.1, X.2.2.1, X.2.2.2.2.2.1, X.2.2.2.2.2.2.1⟩ hM ⟨callB_of n X.2.2.2.2.2.2.1 (tt_in w1) rfl rfl rfl (X.2.2.2.2.2.2.1 _ w4) (X.2.2.2.2.2.2.1 _ w2) w5 ⟨by show d2 + 1 ≤ d; exact hdd, by show 8 + (n2 + 11) + 100 * d2 ≤ 100 * d; omega⟩, X.2.2.2.2.2.2.1 _ w3⟩ ⟨jP_blind, fun U hU hW => ⟨rfl, by rw [hU]; exact hP, va_K.moved hW.alike X.2.2.2.2.2.2.2.2, hD, NW.warm hW X.2.2.2.2.2.2.2.1⟩⟩ rfl hn hl.1 hst (lv_room hroom) hd ⟨Nat.le_refl _, Nat.le_refl _⟩) hS (fun v u1 H1 locs1 hK1 hS1 hP1 hD1 => k v u1 hK1 p e s m args below meth c X H1 locs1 ls hS1 hP1 hD1 hl)
theorem J_callN (w : kN own i y host c2 n2 r2 n) (hM : JMet l D tys wd A0 y c2 n2 r2 d2 As u K) (hn : As.length = n) (hst : st0 = As.reverse ++ st) (hdd : d2 + 1 ≤ d) (hroom : (st.map fun v => v.category).sum ≤ 8) (hd : decode cc pc = .ok (.invokestatic i, 3))
    (k : ∀ v u1, K v u1 → AJ l D tys wd A0 cc nL rt own d Q (pc + 3) lv (v.toList ++ st) u1) : AJ l D tys wd A0 cc nL rt own d Q pc lv (st0) u := by
  intro p e s m args below meth c X H locs ls hS hP hD hl
  obtain ⟨w1, w2, w3, w4, w5, w6⟩ := w
  refine J_ofrun X (va_runSN (As := As) (rest := st) ⟨X.1, X.2.1, X.2.2.1, X.2.2.2.2.2.1, X.2.2.2.2.2.2.1⟩ hM ⟨va_cnB n X.2.2.2.2.2.2.1 (tt_in w1) rfl rfl rfl (X.2.2.2.2.2.2.2.1 _ w2) (X.2.2.2.2.2.2.1 _ w4) w5 ⟨by show d2 + 1 ≤ d; exact hdd, by show 8 + (n2 + 11) + 100 * d2 ≤ 100 * d; omega⟩, X.2.2.2.2.2.2.1 _ w3, trivial⟩ ⟨jP_blind, fun U hU hW => ⟨rfl, by rw [hU]; exact hP, va_K.moved hW.alike X.2.2.2.2.2.2.2.2, hD, NW.warm hW X.2.2.2.2.2.2.2.1⟩⟩ rfl hn hl.1 hst (lv_room hroom) hd ⟨Nat.le_refl _, Nat.le_refl _⟩) hS (fun v u1 H1 locs1 hK1 hS1 hP1 hD1 => k v u1 hK1 p e s m args below meth c X H1 locs1 ls hS1 hP1 hD1 hl)
theorem J_callV {a ci : Nat} {q : vw_C} {fs : List Value} (w : kV own i C y c2 n2 r2 n) (q0 : Nat) (he : (wd u)[q0]? = some (a, .inr (ci, fs))) (hc : vwCl[ci]? = some q) (hC : q.1 = C) (hM : JMet l D tys wd A0 y c2 n2 r2 d2 (.ref a :: As) u K) (hn : As.length = n) (hst : st0 = As.reverse ++ .ref a :: st) (hdd : d2 + 1 ≤ d) (hroom : (st.map fun v => v.category).sum ≤ 8) (hd : decode cc pc = .ok (.invokevirtual i, 3))
    (k : ∀ v u1, K v u1 → AJ l D tys wd A0 cc nL rt own d Q (pc + 3) lv (v.toList ++ st) u1) : AJ l D tys wd A0 cc nL rt own d Q pc lv (st0) u := by
  intro p e s m args below meth c X H locs ls hS hP hD hl
  obtain ⟨w1, w2, w3, w4, w5, w6, w7⟩ := w
  refine J_ofrun X (va_runV (As := As) (rest := st) ⟨X.1, X.2.1, X.2.2.1, X.2.2.2.2.2.1, X.2.2.2.2.2.2.1⟩ hM ⟨callB_of n X.2.2.2.2.2.2.1 (tt_in w1) rfl rfl rfl (X.2.2.2.2.2.2.1 _ w5) (X.2.2.2.2.2.2.1 _ w2) w6 ⟨by show d2 + 1 ≤ d; exact hdd, by show 8 + (n2 + 11) + 100 * d2 ≤ 100 * d; omega⟩, X.2.2.2.2.2.2.1 _ w3, X.2.2.2.2.2.2.1 _ w4⟩ ⟨jP_blind, by rw [← hC]; exact va_recv X.2.2.2.2.2.2.2.2 hP hc he, fun U hU hW => ⟨rfl, by rw [hU]; exact hP, va_K.moved hW.alike X.2.2.2.2.2.2.2.2, hD, NW.warm hW X.2.2.2.2.2.2.2.1⟩⟩ rfl hn hl.1 hst (lv_room hroom) hd ⟨Nat.le_refl _, Nat.le_refl _⟩) hS (fun v u1 H1 locs1 hK1 hS1 hP1 hD1 => k v u1 hK1 p e s m args below meth c X H1 locs1 ls hS1 hP1 hD1 hl)
theorem tt_wsU (w : kU own i C owner x y c2 n2 r2 n) : GoodIn TT (va_wsU own i C owner x y (Cond.code y c2 n2 r2 :: TT)) := by
  obtain ⟨w1, w2, w3, w4, w5, w6, -⟩ := w
  intro v hv
  unfold va_wsU at hv
  rcases List.mem_append.mp hv with hv | hv
  · simp only [List.mem_cons, List.not_mem_nil, or_false] at hv
    rcases hv with rfl | rfl | rfl | rfl | rfl
    · exact ⟨w2, tt_good w2⟩
    · exact ⟨w3, tt_good w3⟩
    · exact ⟨w4, tt_good w4⟩
    · exact ⟨w5, tt_good w5⟩
    · exact ⟨w6, tt_good w6⟩
  · exact tt_in w1 v hv
theorem J_callU {a ci : Nat} {q : vw_C} {fs : List Value} (w : kU own i C owner x y c2 n2 r2 n) (hyx : y = ⟨owner, x.name, x.desc⟩) (q0 : Nat) (he : (wd u)[q0]? = some (a, .inr (ci, fs))) (hc : vwCl[ci]? = some q) (hC : q.1 = C) (hM : JMet l D tys wd A0 y c2 n2 r2 d2 (.ref a :: As) u K) (hn : As.length = n) (hst : st0 = As.reverse ++ .ref a :: st) (hdd : d2 + 1 ≤ d) (hroom : (st.map fun v => v.category).sum ≤ 8) (hd : decode cc pc = .ok (.invokevirtual i, 3))
    (k : ∀ v u1, K v u1 → AJ l D tys wd A0 cc nL rt own d Q (pc + 3) lv (v.toList ++ st) u1) : AJ l D tys wd A0 cc nL rt own d Q pc lv (st0) u := by
  intro p e s m args below meth c X H locs ls hS hP hD hl
  have w' := w
  obtain ⟨w1, w2, w3, w4, w5, w6, w7, w8⟩ := w'
  refine J_ofrun X (va_runU (As := As) (rest := st) ⟨X.1, X.2.1, X.2.2.1, X.2.2.2.2.2.1, X.2.2.2.2.2.2.1⟩ hM (va_cwU n X.2.2.2.2.2.2.1 (tt_wsU w) rfl rfl rfl hyx w8 ⟨by show d2 + 1 ≤ d; exact hdd, by show 8 + (n2 + 11) + 100 * d2 ≤ 100 * d; omega⟩) ⟨jP_blind, by rw [← hC]; exact va_recv X.2.2.2.2.2.2.2.2 hP hc he, fun U hU hW => ⟨rfl, by rw [hU]; exact hP, va_K.moved hW.alike X.2.2.2.2.2.2.2.2, hD, NW.warm hW X.2.2.2.2.2.2.2.1⟩⟩ rfl hn hl.1 hst (lv_room hroom) hd ⟨Nat.le_refl _, Nat.le_refl _⟩) hS (fun v u1 H1 locs1 hK1 hS1 hP1 hD1 => k v u1 hK1 p e s m args below meth c X H1 locs1 ls hS1 hP1 hD1 hl)
theorem J_callA {a ci : Nat} {q : vw_C} {fs : List Value} (w : kU own i C owner x y c2 n2 r2 n) (hyx : Cond.declares ⟨owner, x.name, x.desc⟩ ∈ NWs) (q0 : Nat) (he : (wd u)[q0]? = some (a, .inr (ci, fs))) (hc : vwCl[ci]? = some q) (hC : q.1 = C) (hM : JMet l D tys wd A0 y c2 n2 r2 d2 (.ref a :: As) u K) (hn : As.length = n) (hst : st0 = As.reverse ++ .ref a :: st) (hdd : d2 + 1 ≤ d) (hroom : (st.map fun v => v.category).sum ≤ 8) (hd : decode cc pc = .ok (.invokevirtual i, 3))
    (k : ∀ v u1, K v u1 → AJ l D tys wd A0 cc nL rt own d Q (pc + 3) lv (v.toList ++ st) u1) : AJ l D tys wd A0 cc nL rt own d Q pc lv (st0) u := by
  intro p e s m args below meth c X H locs ls hS hP hD hl
  have w' := w
  obtain ⟨w1, w2, w3, w4, w5, w6, w7, w8⟩ := w'
  refine J_ofrun X (va_runU (As := As) (rest := st) ⟨X.1, X.2.1, X.2.2.1, X.2.2.2.2.2.1, X.2.2.2.2.2.2.1⟩ hM (va_cwA n X.2.2.2.2.2.2.1 (tt_wsU w) rfl rfl rfl (X.2.2.2.2.2.2.2.1 _ hyx) w8 ⟨by show d2 + 1 ≤ d; exact hdd, by show 8 + (n2 + 11) + 100 * d2 ≤ 100 * d; omega⟩) ⟨jP_blind, by rw [← hC]; exact va_recv X.2.2.2.2.2.2.2.2 hP hc he, fun U hU hW => ⟨rfl, by rw [hU]; exact hP, va_K.moved hW.alike X.2.2.2.2.2.2.2.2, hD, NW.warm hW X.2.2.2.2.2.2.2.1⟩⟩ rfl hn hl.1 hst (lv_room hroom) hd ⟨Nat.le_refl _, Nat.le_refl _⟩) hS (fun v u1 H1 locs1 hK1 hS1 hP1 hD1 => k v u1 hK1 p e s m args below meth c X H1 locs1 ls hS1 hP1 hD1 hl)
end CALLS
end JROWS
