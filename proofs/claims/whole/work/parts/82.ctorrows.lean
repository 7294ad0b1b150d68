def RC (d mc ms : Nat) : Room := { frames := d, cells := mc, slots := ms, locals := 100 * d }
def cQ (D : va_G) (tys : List (ClassId × FieldType)) (A0 : Nat → Prop) (Q : va_W → Prop) : Array Value → State → Outcome → State → Prop := fun _ st oc t =>
  (∃ ws : va_W, oc = .returned none ∧ Q ws ∧ va_P D vwCl ws t.heap ∧ va_K D vwCl tys t ∧ va_D A0 ws) ∧ va_F A0 st t
def cP (D : va_G) (tys : List (ClassId × FieldType)) (A0 : Nat → Prop) (ws : va_W) (U : State) : Prop := va_P D vwCl ws U.heap ∧ va_K D vwCl tys U ∧ va_D A0 ws ∧ NW U ∧ va_AO "SmallFirst$Sheet" U ∧ ∀ q, U.heap.size ≤ q → A0 q
def CMet (l : Launch) (D : va_G) (tys : List (ClassId × FieldType)) (A0 : Nat → Prop) (y : MethodName) (cc : ByteArray) (nL d mc ms : Nat) (av : List Value) (ws : va_W) (Q : va_W → Prop) : Prop :=
  Met l y (Cond.code y cc nL none :: TT) (RC d mc ms) (va_Pc av (cP D tys A0 ws)) (cQ D tys A0 Q) mc ms A0
def CX (D : va_G) (tys : List (ClassId × FieldType)) (A0 : Nat → Prop) (cc : ByteArray) (nL : Nat) (own : String) (p : Program) (s : State) (m : MethodId) (args : Array Value) (meth : Method) (c : Code) : Prop :=
  p.tables.exec = Jvm.exec ∧ c.code = cc ∧ c.maxLocals = nL ∧ meth.sig.returnType = none ∧ meth.locks = false ∧ s.vm.findClass own = some m.cls ∧ (∀ w ∈ TT, w.before args s = true) ∧ NW s ∧ va_K D vwCl tys s ∧ va_AO "SmallFirst$Sheet" s ∧ (∀ q, s.heap.size ≤ q → A0 q) ∧ meth.name = "<init>"
def CJ (l : Launch) (D : va_G) (tys : List (ClassId × FieldType)) (A0 : Nat → Prop) (cc : ByteArray) (nL : Nat) (own : String) (d mc ms : Nat) (Q : va_W → Prop) (pc : Nat) (lv : List (Nat × Value)) (st : List Value) (ws : va_W) (k n : Nat) : Prop :=
  ∀ (p : Program) (e : Env) (s : State) (m : MethodId) (args : Array Value) (below : List Frame) (meth : Method) (c : Code), CX D tys A0 cc nL own p s m args meth c →
    ∀ (H : Heap) (locs : List Loc) (ls : Array Slot), va_S A0 s.heap H locs → va_P D vwCl ws H → va_D A0 ws → lv_has ls nL lv →
      W p l e (RC d mc ms) s m args below meth c H locs k n (MQ below (cQ D tys A0 Q) args s mc ms A0) (F0 m pc ls st)
theorem va_Ks {D : va_G} {cl : List vw_C} {t1 t2 : List (ClassId × FieldType)} {U : State} (h : va_K D cl (t1 ++ t2) U) : va_K D cl t1 U := ⟨h.1, fun k q hk => h.2 k q (by rw [List.getElem?_append_left (List.getElem?_eq_some_iff.mp hk).1]; exact hk)⟩
theorem va_K1 {D : va_G} {cl : List vw_C} {t1 : List (ClassId × FieldType)} {x : ClassId × FieldType} {U : State} (h : va_K D cl (t1 ++ [x]) U) : va_RA U x.1 x.2 := (h.2 t1.length x (by rw [List.getElem?_append_right (Nat.le_refl _), Nat.sub_self]; rfl)).2
section CROWS
variable {l : Launch} {D : va_G} {cI cZ cS : ClassId} {A0 : Nat → Prop} {cc : ByteArray} {nL : Nat} {own : String} {d mc ms : Nat} {Q : va_W → Prop} {pc : Nat} {lv : List (Nat × Value)} {st : List Value} {ws : va_W} {k n : Nat}
theorem CMet.of {y : MethodName} {av : List Value} (hy : plainName y.cls = true) (hi : y.name = "<init>") (hz : (lg_sl av).length ≤ nL) (h : CJ l D (tyL cI cZ cS) A0 cc nL y.cls d mc ms Q 0 (lv_args 0 av) [] ws 0 0) : CMet l D (tyL cI cZ cS) A0 y cc nL d mc ms av ws Q := by
  refine Met.ofW (cc := cc) (maxL := nL) (ret := none) hy rfl ?_
  intro p e s m args below meth c s₁ B hml hv
  obtain ⟨rfl, hP, hK, hD, hN, hO, hA⟩ := hv
  have hts := atoms_spec (ws := Cond.code y cc nL none :: TT) B.pre
  have hl := lv_entry av (n := nL) hz
  rw [lg_entry_eq]
  exact h p e s m _ below meth c ⟨B.exec, B.bytes, hml, B.returns, B.notSynchronized, findClass_of_methodNamed B.named, fun w hw => hts w (List.mem_cons_of_mem _ hw), hN, hK, hO, hA, (name_of_methodNamed B.named B.method).1.trans hi⟩ s.heap [] _ va_S.rf hP hD hl
theorem C_iconst {i : Int} {v : Int32} (hd : decode cc pc = .ok (.iconst i, 1)) (hv : Int32.ofInt i = v) (kk : CJ l D (tyL cI cZ cS) A0 cc nL own d mc ms Q (pc + 1) lv (.int v :: st) ws k n) : CJ l D (tyL cI cZ cS) A0 cc nL own d mc ms Q pc lv (st) ws k n := by
  intro p e s m args below meth c X H locs ls hS hP hD hl
  exact lv_iconst X.1 X.2.1 hd hv (kk p e s m args below meth c X H locs ls hS hP hD hl)
theorem C_bipush {i : Int} {v : Int32} (hd : decode cc pc = .ok (.bipush i, 2)) (hv : (Int8.ofInt i).toInt32 = v) (kk : CJ l D (tyL cI cZ cS) A0 cc nL own d mc ms Q (pc + 2) lv (.int v :: st) ws k n) : CJ l D (tyL cI cZ cS) A0 cc nL own d mc ms Q pc lv (st) ws k n := by
  intro p e s m args below meth c X H locs ls hS hP hD hl
  exact lv_bipush X.1 X.2.1 hd hv (kk p e s m args below meth c X H locs ls hS hP hD hl)
theorem C_sipush {i : Int} {v : Int32} (hd : decode cc pc = .ok (.sipush i, 3)) (hv : (Int16.ofInt i).toInt32 = v) (kk : CJ l D (tyL cI cZ cS) A0 cc nL own d mc ms Q (pc + 3) lv (.int v :: st) ws k n) : CJ l D (tyL cI cZ cS) A0 cc nL own d mc ms Q pc lv (st) ws k n := by
  intro p e s m args below meth c X H locs ls hS hP hD hl
  exact lv_sipush X.1 X.2.1 hd hv (kk p e s m args below meth c X H locs ls hS hP hD hl)
theorem C_dup {a : Value} (hd : decode cc pc = .ok (.dup, 1)) (ha : a.category = 1) (kk : CJ l D (tyL cI cZ cS) A0 cc nL own d mc ms Q (pc + 1) lv (a :: a :: st) ws k n) : CJ l D (tyL cI cZ cS) A0 cc nL own d mc ms Q pc lv (a :: st) ws k n := by
  intro p e s m args below meth c X H locs ls hS hP hD hl
  exact lv_dup X.1 X.2.1 hd ha (kk p e s m args below meth c X H locs ls hS hP hD hl)
theorem C_iload_n {k0 : Fin 4} {i : Nat} {x : Int32} (j : Nat) (hd : decode cc pc = .ok (.iload_n k0, 1)) (hi : (k0 : Nat) = i) (hj : lv[j]? = some (i, .int x)) (kk : CJ l D (tyL cI cZ cS) A0 cc nL own d mc ms Q (pc + 1) lv (.int x :: st) ws k n) : CJ l D (tyL cI cZ cS) A0 cc nL own d mc ms Q pc lv (st) ws k n := by
  intro p e s m args below meth c X H locs ls hS hP hD hl
  exact lv_iload_n X.1 X.2.1 hd hi (lv_at hl j hj) (kk p e s m args below meth c X H locs ls hS hP hD hl)
theorem C_aload_n {k0 : Fin 4} {i : Nat} {x : Nat} (j : Nat) (hd : decode cc pc = .ok (.aload_n k0, 1)) (hi : (k0 : Nat) = i) (hj : lv[j]? = some (i, .ref x)) (kk : CJ l D (tyL cI cZ cS) A0 cc nL own d mc ms Q (pc + 1) lv (.ref x :: st) ws k n) : CJ l D (tyL cI cZ cS) A0 cc nL own d mc ms Q pc lv (st) ws k n := by
  intro p e s m args below meth c X H locs ls hS hP hD hl
  exact lv_aload_n X.1 X.2.1 hd hi (lv_at hl j hj) (kk p e s m args below meth c X H locs ls hS hP hD hl)
theorem C_istore_n {k0 : Fin 4} {i : Nat} {x : Int32} {lv' : List (Nat × Value)} (hd : decode cc pc = .ok (.istore_n k0, 1)) (hi : (k0 : Nat) = i) (hn : i < nL) (hl2 : (i, Value.int x) :: lv.filter (fun q => !(q.1 == i) && !(q.1 + 1 == i && q.2.category == 2)) = lv') (kk : CJ l D (tyL cI cZ cS) A0 cc nL own d mc ms Q (pc + 1) lv' (st) ws k n) : CJ l D (tyL cI cZ cS) A0 cc nL own d mc ms Q pc lv (.int x :: st) ws k n := by
  intro p e s m args below meth c X H locs ls hS hP hD hl
  exact lv_istore_n X.1 X.2.1 hd hi hl hn hl2 (fun ls2 hl3 => kk p e s m args below meth c X H locs ls2 hS hP hD hl3)
theorem C_iinc {i : Nat} {z : Int} {x v : Int32} {lv' : List (Nat × Value)} (j : Nat) (hd : decode cc pc = .ok (.iinc i z, 3)) (hj : lv[j]? = some (i, .int x)) (hv : x + Int32.ofInt z = v) (hn : i < nL) (hl2 : (i, Value.int v) :: lv.filter (fun q => !(q.1 == i) && !(q.1 + 1 == i && q.2.category == 2)) = lv') (kk : CJ l D (tyL cI cZ cS) A0 cc nL own d mc ms Q (pc + 3) lv' (st) ws k n) : CJ l D (tyL cI cZ cS) A0 cc nL own d mc ms Q pc lv (st) ws k n := by
  intro p e s m args below meth c X H locs ls hS hP hD hl
  exact lv_iinc X.1 X.2.1 hd hl hj hv hn hl2 (fun ls2 hl3 => kk p e s m args below meth c X H locs ls2 hS hP hD hl3)
theorem C_goto {off : Int} {tgt : Nat} (hd : decode cc pc = .ok (.goto off, 3)) (ht : (pc : Int) + off = (tgt : Int)) (kk : CJ l D (tyL cI cZ cS) A0 cc nL own d mc ms Q tgt lv (st) ws k n) : CJ l D (tyL cI cZ cS) A0 cc nL own d mc ms Q pc lv (st) ws k n := by
  intro p e s m args below meth c X H locs ls hS hP hD hl
  exact lv_goto X.1 X.2.1 hd ht (kk p e s m args below meth c X H locs ls hS hP hD hl)
theorem C_geN {x y : Int32} {off : Int} {tgt : Nat} (hd : decode cc pc = .ok (.if_icmp .ge off, 3)) (ht : (pc : Int) + off = (tgt : Int)) (hc : ¬ y ≤ x) (kk : CJ l D (tyL cI cZ cS) A0 cc nL own d mc ms Q (pc + 3) lv (st) ws k n) : CJ l D (tyL cI cZ cS) A0 cc nL own d mc ms Q pc lv (.int y :: .int x :: st) ws k n := by
  intro p e s m args below meth c X H locs ls hS hP hD hl
  exact lv_icmp_ge X.1 X.2.1 hd ht (fun h => absurd h hc) (fun _ => kk p e s m args below meth c X H locs ls hS hP hD hl)
theorem C_geY {x y : Int32} {off : Int} {tgt : Nat} (hd : decode cc pc = .ok (.if_icmp .ge off, 3)) (ht : (pc : Int) + off = (tgt : Int)) (hc : y ≤ x) (kk : CJ l D (tyL cI cZ cS) A0 cc nL own d mc ms Q tgt lv (st) ws k n) : CJ l D (tyL cI cZ cS) A0 cc nL own d mc ms Q pc lv (.int y :: .int x :: st) ws k n := by
  intro p e s m args below meth c X H locs ls hS hP hD hl
  exact lv_icmp_ge X.1 X.2.1 hd ht (fun _ => kk p e s m args below meth c X H locs ls hS hP hD hl) (fun h => absurd hc h)
theorem C_get {C : String} {T : u_T} {N ci i a : Nat} {v : Value} {fs : List Value} (q0 k0 : Nat) (hin : ∀ w ∈ u_ws C T N, w ∈ TT) (he : ws[q0]? = some (a, .inr (ci, fs))) (hc : vwCl[ci]? = some (C, T, N)) (hk : k0 < N) (hw : Cond.fieldLink own i (T k0).1 (T k0).2.1 (T k0).2.2.1 ∈ TT) (hv : fs[k0]? = some v) (hd : decode cc pc = .ok (.getfield i, 3)) (kk : CJ l D (tyL cI cZ cS) A0 cc nL own d mc ms Q (pc + 3) lv (v :: st) ws k n) : CJ l D (tyL cI cZ cS) A0 cc nL own d mc ms Q pc lv (.ref a :: st) ws k n := by
  intro p e s m args below meth c X H locs ls hS hP hD hl
  exact va_get (D := D) X.1 X.2.1 X.2.2.2.2.2.2.1 hin X.2.2.2.2.2.1 X.2.2.2.2.2.2.2.2.1 hP q0 he hc k0 hk (X.2.2.2.2.2.2.1 _ hw) (fun _ h => h) hv hd (kk p e s m args below meth c X H locs ls hS hP hD hl)
theorem C_put {C : String} {T : u_T} {N ci i a : Nat} {v : Value} {fs : List Value} {ws2 : va_W} {ty : FieldType} (q0 k0 : Nat) (hin : ∀ w ∈ u_ws C T N, w ∈ TT) (ty0 : Nat → FieldType) (hty : ∀ k, k < N → parseFieldDescriptor (T k).2.2.1 = some (ty0 k)) (hnm : ∀ a, a < N → ∀ b, b < N → a ≠ b → (T a).2.1 ≠ (T b).2.1) (he : ws[q0]? = some (a, .inr (ci, fs))) (hc : vwCl[ci]? = some (C, T, N)) (hk : k0 < N) (hw : Cond.fieldLink own i (T k0).1 (T k0).2.1 (T k0).2.2.1 ∈ TT) (hfin : (T k0).2.2.2 = false) (hdt : parseFieldDescriptor (T k0).2.2.1 = some ty) (hn : narrow ty v = v) (hfit : fits ty v = true) (hlen : k0 < fs.length) (hset : ws.set q0 (a, .inr (ci, fs.set k0 v)) = ws2) (hd : decode cc pc = .ok (.putfield i, 3)) (kk : CJ l D (tyL cI cZ cS) A0 cc nL own d mc ms Q (pc + 3) lv (st) ws2 k n) : CJ l D (tyL cI cZ cS) A0 cc nL own d mc ms Q pc lv (v :: .ref a :: st) ws k n := by
  intro p e s m args below meth c X H locs ls hS hP hD hl
  subst hset
  exact va_put (D := D) X.1 X.2.1 X.2.2.2.2.2.2.1 hin ty0 hty hnm X.2.2.2.2.2.1 X.2.2.2.2.2.2.2.2.1 hP hD hS q0 he hc k0 hk (X.2.2.2.2.2.2.1 _ hw) (fun _ h => h) hfin hdt hn hfit hlen hd (fun H1 locs1 hP1 hD1 hS1 => kk p e s m args below meth c X H1 locs1 ls hS1 hP1 hD1 hl)
theorem C_putF {C : String} {T : u_T} {N ci i a : Nat} {v : Value} {fs : List Value} {ws2 : va_W} {ty : FieldType} (q0 k0 : Nat) (hin : ∀ w ∈ u_ws C T N, w ∈ TT) (ty0 : Nat → FieldType) (hty : ∀ k, k < N → parseFieldDescriptor (T k).2.2.1 = some (ty0 k)) (hnm : ∀ a, a < N → ∀ b, b < N → a ≠ b → (T a).2.1 ≠ (T b).2.1) (he : ws[q0]? = some (a, .inr (ci, fs))) (hc : vwCl[ci]? = some (C, T, N)) (hk : k0 < N) (hw : Cond.fieldLink own i (T k0).1 (T k0).2.1 (T k0).2.2.1 ∈ TT) (hfin : (T k0).2.2.2 = true) (hdecl : (T k0).1 = own) (hdt : parseFieldDescriptor (T k0).2.2.1 = some ty) (hn : narrow ty v = v) (hfit : fits ty v = true) (hlen : k0 < fs.length) (hset : ws.set q0 (a, .inr (ci, fs.set k0 v)) = ws2) (hd : decode cc pc = .ok (.putfield i, 3)) (kk : CJ l D (tyL cI cZ cS) A0 cc nL own d mc ms Q (pc + 3) lv (st) ws2 k n) : CJ l D (tyL cI cZ cS) A0 cc nL own d mc ms Q pc lv (v :: .ref a :: st) ws k n := by
  intro p e s m args below meth c X H locs ls hS hP hD hl
  subst hset
  exact va_putF (D := D) X.1 X.2.1 X.2.2.2.2.2.2.1 hin ty0 hty hnm X.2.2.2.2.2.1 X.2.2.2.2.2.2.2.2.1 hP hD hS q0 he hc k0 hk (X.2.2.2.2.2.2.1 _ hw) (fun _ h => h) hfin X.2.2.2.2.2.2.2.2.2.2.2 hdecl hdt hn hfit hlen hd (fun H1 locs1 hP1 hD1 hS1 => kk p e s m args below meth c X H1 locs1 ls hS1 hP1 hD1 hl)
theorem C_newI {i : Int32} {N : Nat} (hw : Cond.arrayClass .int ∈ TT) (hn : ¬ i < 0) (hN : i.toNatClampNeg = N) (hb : N * componentBytes .int ≤ 536870912) (hc : k + 1 ≤ mc) (hs : n + N ≤ ms) (hd : decode cc pc = .ok (.newarray .int, 2)) (kk : ∀ q, CJ l D (tyL cI cZ cS) A0 cc nL own d mc ms Q (pc + 2) lv (.ref q :: st) (ws ++ [(q, .inl (cI, N, .inl (fun _ => 0)))]) (k + 1) (n + N)) : CJ l D (tyL cI cZ cS) A0 cc nL own d mc ms Q pc lv (.int i :: st) ws k n := by
  intro p e s m args below meth c X H locs ls hS hP hD hl
  refine va_newa (atype := .int) X.1 X.2.1 (X.2.2.2.2.2.2.1 _ hw) rfl X.2.2.2.2.2.2.2.2.1 hP hD hS X.2.2.2.2.2.2.2.2.2.2.1 (a0 := (N, .inl (fun _ => 0))) (fun _ => rfl) hn hN hb hc hs hd (fun q cA H1 hK1 hP1 hD1 hS1 => ?_)
  have e1 : cA = cI := Option.some.inj ((va_K1 hK1).symm.trans (X.2.2.2.2.2.2.2.2.1.2 0 _ rfl).2)
  subst e1
  exact kk q p e s m args below meth c X H1 locs ls hS1 hP1 hD1 hl
theorem C_newZ {i : Int32} {N : Nat} (hw : Cond.arrayClass .boolean ∈ TT) (hn : ¬ i < 0) (hN : i.toNatClampNeg = N) (hb : N * componentBytes .boolean ≤ 536870912) (hc : k + 1 ≤ mc) (hs : n + N ≤ ms) (hd : decode cc pc = .ok (.newarray .boolean, 2)) (kk : ∀ q, CJ l D (tyL cI cZ cS) A0 cc nL own d mc ms Q (pc + 2) lv (.ref q :: st) (ws ++ [(q, .inl (cZ, N, .inl (fun _ => 0)))]) (k + 1) (n + N)) : CJ l D (tyL cI cZ cS) A0 cc nL own d mc ms Q pc lv (.int i :: st) ws k n := by
  intro p e s m args below meth c X H locs ls hS hP hD hl
  refine va_newa (atype := .boolean) X.1 X.2.1 (X.2.2.2.2.2.2.1 _ hw) rfl X.2.2.2.2.2.2.2.2.1 hP hD hS X.2.2.2.2.2.2.2.2.2.2.1 (a0 := (N, .inl (fun _ => 0))) (fun _ => rfl) hn hN hb hc hs hd (fun q cA H1 hK1 hP1 hD1 hS1 => ?_)
  have e1 : cA = cZ := Option.some.inj ((va_K1 hK1).symm.trans (X.2.2.2.2.2.2.2.2.1.2 1 _ rfl).2)
  subst e1
  exact kk q p e s m args below meth c X H1 locs ls hS1 hP1 hD1 hl
theorem C_newQ {i : Int32} {N j : Nat} (hw : Cond.classLink own j "SmallFirst$Sheet" ∈ TT) (hn : ¬ i < 0) (hN : i.toNatClampNeg = N) (hb : N * 4 ≤ 536870912) (hc : k + 1 ≤ mc) (hs : n + N ≤ ms) (hd : decode cc pc = .ok (.anewarray j, 3)) (kk : ∀ q, CJ l D (tyL cI cZ cS) A0 cc nL own d mc ms Q (pc + 3) lv (.ref q :: st) (ws ++ [(q, .inl (cS, N, .inr (.inr (.inr (.inr (fun _ => none))))))]) (k + 1) (n + N)) : CJ l D (tyL cI cZ cS) A0 cc nL own d mc ms Q pc lv (.int i :: st) ws k n := by
  intro p e s m args below meth c X H locs ls hS hP hD hl
  refine va_newq X.1 X.2.1 X.2.2.2.2.2.1 (X.2.2.2.2.2.2.1 _ hw) X.2.2.2.2.2.2.2.2.2.1 X.2.2.2.2.2.2.2.2.1 hP hD hS X.2.2.2.2.2.2.2.2.2.2.1 hn hN hb hc hs hd (fun q cA H1 hK1 hP1 hD1 hS1 => ?_)
  have e1 : cA = cS := by
    obtain ⟨_, _, -, -, -, g1⟩ := va_K1 hK1
    obtain ⟨_, _, -, -, -, g2⟩ := (X.2.2.2.2.2.2.2.2.1.2 2 _ rfl).2
    exact Option.some.inj (g1.symm.trans g2)
  subst e1
  exact kk q p e s m args below meth c X H1 locs ls hS1 hP1 hD1 hl
theorem C_new {C : String} {T : u_T} {N ci j : Nat} {fs : List Value} (hin : ∀ w ∈ u_ws C T N, w ∈ TT) (ty : Nat → FieldType) (hty : ∀ k, k < N → parseFieldDescriptor (T k).2.2.1 = some (ty k)) (hw : Cond.classLink own j C ∈ TT) (hw2 : Cond.instantiable C N ∈ TT) (hw3 : Cond.initialized C ∈ TT) (hc : vwCl[ci]? = some (C, T, N)) (hfs : ∀ j, j < N → defaultValue (ty j) = vp_V fs j) (h1 : k + 1 ≤ mc) (h2 : n + N ≤ ms) (hd : decode cc pc = .ok (.new j, 3)) (kk : ∀ q, CJ l D (tyL cI cZ cS) A0 cc nL own d mc ms Q (pc + 3) lv (.ref q :: st) (ws ++ [(q, .inr (ci, fs))]) (k + 1) (n + N)) : CJ l D (tyL cI cZ cS) A0 cc nL own d mc ms Q pc lv (st) ws k n := by
  intro p e s m args below meth c X H locs ls hS hP hD hl
  exact va_new X.1 X.2.1 X.2.2.2.2.2.2.1 hin ty hty X.2.2.2.2.2.1 (X.2.2.2.2.2.2.1 _ hw) (X.2.2.2.2.2.2.1 _ hw2) (X.2.2.2.2.2.2.1 _ hw3) X.2.2.2.2.2.2.2.2.1 hP hD hS X.2.2.2.2.2.2.2.2.2.2.1 hc hfs h1 h2 hd (fun q H1 hP1 hD1 hS1 => kk q p e s m args below meth c X H1 locs ls hS1 hP1 hD1 hl)
theorem C_aast {a n0 v ci : Nat} {r : vw_C} {vs : List Value} {f : Nat → Option Nat} {i : Int32} {ws2 : va_W} (q0 qk : Nat) (ha : ws[q0]? = some (a, .inl (cS, n0, .inr (.inr (.inr (.inr f)))))) (hr : r.1 = "SmallFirst$Sheet") (hv : ws[qk]? = some (v, .inr (ci, vs))) (hc : vwCl[ci]? = some r) (hin : vp_in i n0) (hset : ws.set q0 (a, .inl (cS, n0, .inr (.inr (.inr (.inr (va_up f i.toNatClampNeg (some v))))))) = ws2) (hd : decode cc pc = .ok (.aastore, 1)) (kk : CJ l D (tyL cI cZ cS) A0 cc nL own d mc ms Q (pc + 1) lv (st) ws2 k n) : CJ l D (tyL cI cZ cS) A0 cc nL own d mc ms Q pc lv (.ref v :: .int i :: .ref a :: st) ws k n := by
  intro p e s m args below meth c X H locs ls hS hP hD hl
  subst hset
  exact va_astq X.1 X.2.1 X.2.2.2.2.2.2.2.2.1 hP hD hS q0 2 qk ci ha (by rw [hr]; rfl) hv hc hin hd (fun H1 locs1 hP1 hD1 hS1 => kk p e s m args below meth c X H1 locs1 ls hS1 hP1 hD1 hl)
theorem C_iast {a n0 : Nat} {f : Nat → Int32} {i x : Int32} {ws2 : va_W} (q0 : Nat) (ha : ws[q0]? = some (a, .inl (cI, n0, .inl f))) (hin : vp_in i n0) (hset : ws.set q0 (a, .inl (cI, n0, .inl (upd f i.toNatClampNeg x))) = ws2) (hd : decode cc pc = .ok (.iastore, 1)) (kk : CJ l D (tyL cI cZ cS) A0 cc nL own d mc ms Q (pc + 1) lv (st) ws2 k n) : CJ l D (tyL cI cZ cS) A0 cc nL own d mc ms Q pc lv (.int x :: .int i :: .ref a :: st) ws k n := by
  intro p e s m args below meth c X H locs ls hS hP hD hl
  subst hset
  exact va_iast X.1 X.2.1 X.2.2.2.2.2.2.2.2.1 hP hD hS q0 0 ha rfl hin hd (fun H1 locs1 hP1 hD1 hS1 => kk p e s m args below meth c X H1 locs1 ls hS1 hP1 hD1 hl)
theorem C_perm {ws2 : va_W} (is : List Nat) (hn : va_nd is = true) (h1 : is.filterMap (fun i => ws[i]?) = ws2) (h2 : is.map (fun i => ws[i]?) = ws2.map some) (kk : CJ l D (tyL cI cZ cS) A0 cc nL own d mc ms Q pc lv (st) ws2 k n) : CJ l D (tyL cI cZ cS) A0 cc nL own d mc ms Q pc lv (st) ws k n := by
  intro p e s m args below meth c X H locs ls hS hP hD hl
  exact kk p e s m args below meth c X H locs ls hS (hP.sub is h1) (hD.sub is hn h2) hl
theorem C_obj {j a : Nat} (hw : Cond.methodLink own j Lib.objectInit ∈ TT) (hw2 : Cond.instanceMethod Lib.objectInit ∈ TT) (hw3 : Cond.code Lib.objectInit ⟨#[0xb1]⟩ 1 none ∈ TT) (hdd : 1 ≤ d) (hr : (st.map fun v => v.category).sum ≤ 8) (hd : decode cc pc = .ok (.invokespecial j, 3)) (kk : CJ l D (tyL cI cZ cS) A0 cc nL own d mc ms Q (pc + 3) lv (st) ws k n) : CJ l D (tyL cI cZ cS) A0 cc nL own d mc ms Q pc lv (.ref a :: st) ws k n := by
  intro p e s m args below meth c X H locs ls hS hP hD hl
  exact W.objInit X.1 X.2.1 X.2.2.2.2.2.1 (X.2.2.2.2.2.2.1 _ hw) (X.2.2.2.2.2.2.1 _ hw2) (X.2.2.2.2.2.2.1 _ hw3) rfl (by rw [X.2.2.1]; exact hl.1) rfl hd hdd (by show 2 * 0 + _ + 12 ≤ 100 * d; omega) (kk p e s m args below meth c X H locs ls hS hP hD hl)
theorem C_ret (hk : k ≤ mc) (hn : n ≤ ms) (hd : decode cc pc = .ok (.return_, 1)) (h : Q ws) : CJ l D (tyL cI cZ cS) A0 cc nL own d mc ms Q pc lv ([]) ws k n := by
  intro p e s m args below meth c X H locs ls hS hP hD hl
  exact W.widen hk hn (W.vret X.1 X.2.1 X.2.2.2.1 (fun t ht hW => ⟨⟨ws, rfl, h, by rw [ht]; exact hP, va_K.moved hW.alike X.2.2.2.2.2.2.2.2.1, hD⟩, hS.F ht⟩) hS.2.2 hd X.2.2.2.2.1)
theorem C_max {x y v : Int32} {j : Nat} (hw : Cond.methodLink own j Lib.Math.max.name ∈ TT) (hdd : 1 ≤ d) (hr : (st.map fun v => v.category).sum ≤ 8) (hk : k ≤ mc) (hn : n ≤ ms) (hv : (if x < y then y else x) = v) (hd : decode cc pc = .ok (.invokestatic j, 3)) (kk : CJ l D (tyL cI cZ cS) A0 cc nL own d mc ms Q (pc + 3) lv (.int v :: st) ws k n) : CJ l D (tyL cI cZ cS) A0 cc nL own d mc ms Q pc lv (.int y :: .int x :: st) ws k n := by
  intro p e s m args below meth c X H locs ls hS hP hD hl
  subst hv
  exact va_mmax X.1 X.2.1 (X.2.2.1.trans hl.1.symm) X.2.2.2.2.2.1 (X.2.2.2.2.2.2.1 _ hw) (X.2.2.2.2.2.2.1 _ km_s_max) (X.2.2.2.2.2.2.1 _ ki_RJ9) (X.2.2.2.2.2.2.1 _ km_c_max) hdd (by show _ ≤ 100 * d; omega) hk hn hd (kk p e s m args below meth c X H locs ls hS hP hD hl)
theorem cP_blind {av : List Value} {tys : List (ClassId × FieldType)} : FrameBlind (va_Pc av (cP D tys A0 ws)) := by
  intro a U g mk q
  obtain ⟨q0, qP, qK, qD, qN, qO, qA⟩ := q
  exact ⟨q0, qP, va_K.moved (u := U) (U := U.calling g mk a) (Vm.Alike.refl U.vm) qK, qD, NW.same (s := U) (U := U.calling g mk a) rfl qN, va_AO.moved (u := U) (U := U.calling g mk a) (Vm.Alike.refl U.vm) qO, qA⟩
def kI (own : String) (i : Nat) (y : MethodName) (c2 : ByteArray) (n2 np : Nat) : Prop := Cond.code y c2 n2 none ∈ TT ∧ Cond.methodLink own i y ∈ TT ∧ Cond.instanceMethod y ∈ TT ∧ Cond.initialized y.cls ∈ TT ∧ jD y np ∧ n2 ≤ 80 ∧ y.name = "<init>"
def kJ (own : String) (i : Nat) (y : MethodName) (host : String) (c2 : ByteArray) (n2 np : Nat) : Prop := Cond.code y c2 n2 none ∈ TT ∧ Cond.methodLinkNest own i y host ∈ NWs ∧ Cond.instanceMethod y ∈ TT ∧ Cond.initialized y.cls ∈ TT ∧ jD y np ∧ n2 ≤ 80 ∧ y.name = "<init>"
theorem C_ofrun {p : Program} {e : Env} {R : Room} {s : State} {m : MethodId} {args : Array Value} {below : List Frame} {meth : Method} {c : Code} {H : Heap} {locs : List Loc} {ls : Array Slot} {st0 : List Value} {a : Array Value} {tys : List (ClassId × FieldType)} {m2 s2 : Nat} {K : va_W → Prop} {QQ : State → Prop} (hr : va_Run p l e R s m args below meth c H locs k n m2 s2 (F0 m pc ls st0) st (cQ D tys A0 K a) A0) (hS : va_S A0 s.heap H locs)
    (kk : ∀ (ws1 : va_W) (H1 : Heap) (locs1 : List Loc), K ws1 → va_S A0 s.heap H1 locs1 → va_P D vwCl ws1 H1 → va_D A0 ws1 → W p l e R s m args below meth c H1 locs1 (k + m2) (n + s2) QQ (F0 m (pc + 3) ls st)) : W p l e R s m args below meth c H locs k n QQ (F0 m pc ls st0) := by
  intro T hT Y
  obtain ⟨v, st₀, t, T', L, h0, X', hL, e1, e2, ⟨⟨ws1, hv, hq, hP1, hK1, hD1⟩, hz, hk⟩, sp⟩ := hr T hT Y
  cases hv
  rw [h0] at hz hk
  obtain ⟨t2, a1, b1⟩ := kk ws1 T'.heap (locs ++ L) hq
    ⟨Nat.le_trans hS.1 (by rw [e1]; exact hz), fun q h1 h2 => by rw [e1, hk q (Nat.lt_of_lt_of_le h1 hS.1) (fun z => h2 z)]; exact hS.2.1 q h1 h2, fun q hq => by
      rcases List.mem_append.mp hq with h | h
      · exact hS.2.2 q h
      · exact hL q h⟩ (by rw [e1]; exact hP1) hD1 T' rfl X'
  exact ⟨t2, sp t2 a1, b1⟩
theorem C_callI {y : MethodName} {c2 : ByteArray} {n2 np d2 m2 s2 a i : Nat} {As st0 : List Value} {K : va_W → Prop} (w : kI own i y c2 n2 np) (hM : CMet l D (tyL cI cZ cS) A0 y c2 n2 d2 m2 s2 (.ref a :: As) ws K) (hn : As.length = np) (hst : st0 = As.reverse ++ .ref a :: st) (hdd : d2 + 1 ≤ d) (hroom : (st.map fun v => v.category).sum ≤ 8) (h1 : k + m2 ≤ mc) (h2 : n + s2 ≤ ms) (hd : decode cc pc = .ok (.invokespecial i, 3)) (kk : ∀ ws1, K ws1 → CJ l D (tyL cI cZ cS) A0 cc nL own d mc ms Q (pc + 3) lv (st) ws1 (k + m2) (n + s2)) : CJ l D (tyL cI cZ cS) A0 cc nL own d mc ms Q pc lv (st0) ws k n := by
  intro p e s m args below meth c X H locs ls hS hP hD hl
  obtain ⟨w1, w2, w3, w4, w5, w6, w7⟩ := w
  refine C_ofrun (va_runI (As := As) (rest := st) ⟨X.1, X.2.1, X.2.2.1, X.2.2.2.2.2.1, X.2.2.2.2.2.2.1⟩ hM ⟨callB_of np X.2.2.2.2.2.2.1 (tt_in w1) rfl rfl rfl (X.2.2.2.2.2.2.1 _ w4) (X.2.2.2.2.2.2.1 _ w2) w5 ⟨by show d2 + 1 ≤ d; exact hdd, by show 8 + (n2 + 11) + 100 * d2 ≤ 100 * d; omega⟩, w7, X.2.2.2.2.2.2.1 _ w3⟩ ⟨cP_blind, fun U hU hW => ⟨rfl, by rw [hU]; exact hP, va_K.moved hW.alike X.2.2.2.2.2.2.2.2.1, hD, NW.warm hW X.2.2.2.2.2.2.2.1, va_AO.moved hW.alike X.2.2.2.2.2.2.2.2.2.1, fun q hq => X.2.2.2.2.2.2.2.2.2.2.1 q (Nat.le_trans (by rw [hU]; exact hS.1) hq)⟩⟩ rfl hn hl.1 hst (lv_room hroom) hd ⟨h1, h2⟩) hS (fun ws1 H1 locs1 hK1 hS1 hP1 hD1 => kk ws1 hK1 p e s m args below meth c X H1 locs1 ls hS1 hP1 hD1 hl)
theorem C_callJ {y : MethodName} {c2 : ByteArray} {n2 np d2 m2 s2 a i : Nat} {host : String} {As st0 : List Value} {K : va_W → Prop} (w : kJ own i y host c2 n2 np) (hM : CMet l D (tyL cI cZ cS) A0 y c2 n2 d2 m2 s2 (.ref a :: As) ws K) (hn : As.length = np) (hst : st0 = As.reverse ++ .ref a :: st) (hdd : d2 + 1 ≤ d) (hroom : (st.map fun v => v.category).sum ≤ 8) (h1 : k + m2 ≤ mc) (h2 : n + s2 ≤ ms) (hd : decode cc pc = .ok (.invokespecial i, 3)) (kk : ∀ ws1, K ws1 → CJ l D (tyL cI cZ cS) A0 cc nL own d mc ms Q (pc + 3) lv (st) ws1 (k + m2) (n + s2)) : CJ l D (tyL cI cZ cS) A0 cc nL own d mc ms Q pc lv (st0) ws k n := by
  intro p e s m args below meth c X H locs ls hS hP hD hl
  obtain ⟨w1, w2, w3, w4, w5, w6, w7⟩ := w
  refine C_ofrun (va_runIN (As := As) (rest := st) ⟨X.1, X.2.1, X.2.2.1, X.2.2.2.2.2.1, X.2.2.2.2.2.2.1⟩ hM ⟨va_cnB np X.2.2.2.2.2.2.1 (tt_in w1) rfl rfl rfl (X.2.2.2.2.2.2.2.1 _ w2) (X.2.2.2.2.2.2.1 _ w4) w5 ⟨by show d2 + 1 ≤ d; exact hdd, by show 8 + (n2 + 11) + 100 * d2 ≤ 100 * d; omega⟩, w7, X.2.2.2.2.2.2.1 _ w3⟩ ⟨cP_blind, fun U hU hW => ⟨rfl, by rw [hU]; exact hP, va_K.moved hW.alike X.2.2.2.2.2.2.2.2.1, hD, NW.warm hW X.2.2.2.2.2.2.2.1, va_AO.moved hW.alike X.2.2.2.2.2.2.2.2.2.1, fun q hq => X.2.2.2.2.2.2.2.2.2.2.1 q (Nat.le_trans (by rw [hU]; exact hS.1) hq)⟩⟩ rfl hn hl.1 hst (lv_room hroom) hd ⟨h1, h2⟩) hS (fun ws1 H1 locs1 hK1 hS1 hP1 hD1 => kk ws1 hK1 p e s m args below meth c X H1 locs1 ls hS1 hP1 hD1 hl)
end CROWS
theorem kw_arrI : Cond.arrayClass .int ∈ TT := tt_of 90 (by decide +kernel) rfl
theorem kw_arrZ : Cond.arrayClass .boolean ∈ TT := tt_of 122 (by decide +kernel) rfl
theorem kw_obI : Cond.instanceMethod Lib.objectInit ∈ TT := tt_of 72 (by decide +kernel) rfl
theorem kw_obC : Cond.code Lib.objectInit ⟨#[0xb1]⟩ 1 none ∈ TT := tt_of 73 (by decide +kernel) rfl
theorem kob_RX10_1 : Cond.methodLink RX10 1 Lib.objectInit ∈ TT := tt_of 71 (by decide +kernel) rfl
theorem kI_RX10_11 : kI RX10 11 yX8_init cX8_init 2 1 := ⟨kc_X8_init, tt_of 76 (by decide +kernel) rfl, kn_X8_init, ki_RX8, ⟨by decide, by decide, by decide +kernel⟩, by decide, rfl⟩
theorem kI_RX10_48 : kI RX10 48 yX9_init cX9_init 1 0 := ⟨kc_X9_init, tt_of 159 (by decide +kernel) rfl, kn_X9_init, ki_RX9, ⟨by decide, by decide, by decide +kernel⟩, by decide, rfl⟩
theorem kI_RX10_55 : kI RX10 55 yX6_init cX6_init 1 0 := ⟨kc_X6_init, tt_of 187 (by decide +kernel) rfl, kn_X6_init, ki_RX6, ⟨by decide, by decide, by decide +kernel⟩, by decide, rfl⟩
theorem kI_RX10_66 : kI RX10 66 yX7_init cX7_init 1 0 := ⟨kc_X7_init, tt_of 204 (by decide +kernel) rfl, kn_X7_init, ki_RX7, ⟨by decide, by decide, by decide +kernel⟩, by decide, rfl⟩
theorem kI_RX1_3 : kI RX1 3 yX5_init cX5_init 1 0 := ⟨kc_X5_init, tt_of 128 (by decide +kernel) rfl, kn_X5_init, ki_RX5, ⟨by decide, by decide, by decide +kernel⟩, by decide, rfl⟩
theorem kob_RX2_3 : Cond.methodLink RX2 3 Lib.objectInit ∈ TT := tt_of 146 (by decide +kernel) rfl
theorem kI_RX3_3 : kI RX3 3 yX5_init cX5_init 1 0 := ⟨kc_X5_init, tt_of 96 (by decide +kernel) rfl, kn_X5_init, ki_RX5, ⟨by decide, by decide, by decide +kernel⟩, by decide, rfl⟩
theorem kob_RX5_3 : Cond.methodLink RX5 3 Lib.objectInit ∈ TT := tt_of 99 (by decide +kernel) rfl
theorem kob_RX6_3 : Cond.methodLink RX6 3 Lib.objectInit ∈ TT := tt_of 190 (by decide +kernel) rfl
theorem kob_RX7_3 : Cond.methodLink RX7 3 Lib.objectInit ∈ TT := tt_of 207 (by decide +kernel) rfl
theorem kob_RX8_3 : Cond.methodLink RX8 3 Lib.objectInit ∈ TT := tt_of 79 (by decide +kernel) rfl
theorem kob_RX9_3 : Cond.methodLink RX9 3 Lib.objectInit ∈ TT := tt_of 162 (by decide +kernel) rfl
theorem kI_RL_9 : kI RL 9 yX10_init cX10_init 2 0 := ⟨kc_X10_init, tt_of 68 (by decide +kernel) rfl, kn_X10_init, ki_RX10, ⟨by decide, by decide, by decide +kernel⟩, by decide, rfl⟩
theorem kI_RL_12 : kI RL 12 yX11_init cX11_init 2 0 := ⟨kc_X11_init, tt_of 821 (by decide +kernel) rfl, kn_X11_init, ki_RX11, ⟨by decide, by decide, by decide +kernel⟩, by decide, rfl⟩
theorem kob_RX11_1 : Cond.methodLink RX11 1 Lib.objectInit ∈ TT := tt_of 824 (by decide +kernel) rfl
theorem kJ_RX10_23 : kJ RX10 23 yX3_init RX10 cX3_init 1 0 := ⟨kc_X3_init, by decide +kernel, kn_X3_init, ki_RX3, ⟨by decide, by decide, by decide +kernel⟩, by decide, rfl⟩
theorem kJ_RX10_30 : kJ RX10 30 yX1_init RX10 cX1_init 1 0 := ⟨kc_X1_init, by decide +kernel, kn_X1_init, ki_RX1, ⟨by decide, by decide, by decide +kernel⟩, by decide, rfl⟩
theorem kJ_RX10_37 : kJ RX10 37 yX2_init RX10 cX2_init 1 0 := ⟨kc_X2_init, by decide +kernel, kn_X2_init, ki_RX2, ⟨by decide, by decide, by decide +kernel⟩, by decide, rfl⟩
theorem kcl_RX10_7 : Cond.classLink RX10 7 RX8 ∈ TT := tt_of 74 (by decide +kernel) rfl
theorem kcl_RX10_21 : Cond.classLink RX10 21 RX3 ∈ TT := tt_of 91 (by decide +kernel) rfl
theorem kcl_RX10_28 : Cond.classLink RX10 28 RX1 ∈ TT := tt_of 123 (by decide +kernel) rfl
theorem kcl_RX10_35 : Cond.classLink RX10 35 RX2 ∈ TT := tt_of 141 (by decide +kernel) rfl
theorem kcl_RX10_46 : Cond.classLink RX10 46 RX9 ∈ TT := tt_of 157 (by decide +kernel) rfl
theorem kcl_RX10_53 : Cond.classLink RX10 53 RX6 ∈ TT := tt_of 185 (by decide +kernel) rfl
theorem kcl_RX10_60 : Cond.classLink RX10 60 RX7 ∈ TT := tt_of 201 (by decide +kernel) rfl
theorem kcl_RL_7 : Cond.classLink RL 7 RX10 ∈ TT := tt_of 66 (by decide +kernel) rfl
theorem kcl_RL_10 : Cond.classLink RL 10 RX11 ∈ TT := tt_of 819 (by decide +kernel) rfl
theorem kin_RX10 : Cond.instantiable RX10 10 ∈ TT := tt_of 67 (by decide +kernel) rfl
theorem kin_RX8 : Cond.instantiable RX8 2 ∈ TT := tt_of 75 (by decide +kernel) rfl
theorem kin_RX3 : Cond.instantiable RX3 7 ∈ TT := tt_of 92 (by decide +kernel) rfl
theorem kin_RX1 : Cond.instantiable RX1 5 ∈ TT := tt_of 124 (by decide +kernel) rfl
theorem kin_RX2 : Cond.instantiable RX2 3 ∈ TT := tt_of 142 (by decide +kernel) rfl
theorem kin_RX9 : Cond.instantiable RX9 7 ∈ TT := tt_of 158 (by decide +kernel) rfl
theorem kin_RX6 : Cond.instantiable RX6 3 ∈ TT := tt_of 186 (by decide +kernel) rfl
theorem kin_RX7 : Cond.instantiable RX7 4 ∈ TT := tt_of 203 (by decide +kernel) rfl
theorem kin_RX11 : Cond.instantiable RX11 23 ∈ TT := tt_of 820 (by decide +kernel) rfl
