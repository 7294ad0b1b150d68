def jRi (u : Mem) (Q : Int32 → Prop) : Option Value → Mem → Prop := fun v w => w = u ∧ ∃ x, v = some (.int x) ∧ Q x
def jWi (Q : Int32 → Mem → Prop) : Option Value → Mem → Prop := fun v w => ∃ x, v = some (.int x) ∧ Q x w
def jRl (u : Mem) (Q : Int64 → Prop) : Option Value → Mem → Prop := fun v w => w = u ∧ ∃ x, v = some (.long x) ∧ Q x
def jWl (Q : Int64 → Mem → Prop) : Option Value → Mem → Prop := fun v w => ∃ x, v = some (.long x) ∧ Q x w
def jWv (Q : Mem → Prop) : Option Value → Mem → Prop := fun v w => v = none ∧ Q w
def jWh (ad : Nat → Nat) (Q : Mem → Prop) : Option Value → Mem → Prop := fun v w => v = some (.ref (ad 5)) ∧ Q w
def trf (ad : Nat → Nat) (r : Nat) : Value := match r with
  | 0 => .null
  | k + 1 => .ref (ad (k + 1))
def jRt (ad : Nat → Nat) (u : Mem) (Q : Nat → Prop) : Option Value → Mem → Prop := fun v w => w = u ∧ ∃ r, r ≤ 2 ∧ v = some (trf ad r) ∧ Q r
section CALLS2
variable {l : Launch} {D : va_G} {tys : List (ClassId × FieldType)} {wd : Mem → va_W} {A0 : Nat → Prop} {cc : ByteArray} {nL : Nat} {rt : Option FieldType} {own : String} {d : Nat} {Q : Option Value → Mem → Prop} {pc : Nat} {lv : List (Nat × Value)} {st : List Value} {u : Mem}
variable {y x : MethodName} {c2 : ByteArray} {n2 n i d2 : Nat} {r2 : Option FieldType} {As : List Value} {st0 : List Value} {C host owner : String} {ad : Nat → Nat}
theorem JS_Ri  {K : Int32 → Prop} (w : kS own i y c2 n2 r2 n)  (hM : JMet l D tys wd A0 y c2 n2 r2 d2 As u (jRi u K)) (hn : As.length = n) (hst : st0 = As.reverse ++ st) (hdd : d2 + 1 ≤ d) (hroom : (st.map fun v => v.category).sum ≤ 8) (hd : decode cc pc = .ok (.invokestatic i, 3)) (k : ∀ r, K r → AJ l D tys wd A0 cc nL rt own d Q (pc + 3) lv (.int r :: st) u) : AJ l D tys wd A0 cc nL rt own d Q pc lv (st0) u := J_callS w hM hn hst hdd hroom hd (by rintro _ _ ⟨rfl, r, rfl, h⟩; exact k r h)
theorem JS_Rl  {K : Int64 → Prop} (w : kS own i y c2 n2 r2 n)  (hM : JMet l D tys wd A0 y c2 n2 r2 d2 As u (jRl u K)) (hn : As.length = n) (hst : st0 = As.reverse ++ st) (hdd : d2 + 1 ≤ d) (hroom : (st.map fun v => v.category).sum ≤ 8) (hd : decode cc pc = .ok (.invokestatic i, 3)) (k : ∀ r, K r → AJ l D tys wd A0 cc nL rt own d Q (pc + 3) lv (.long r :: st) u) : AJ l D tys wd A0 cc nL rt own d Q pc lv (st0) u := J_callS w hM hn hst hdd hroom hd (by rintro _ _ ⟨rfl, r, rfl, h⟩; exact k r h)
theorem JN_Ri  {K : Int32 → Prop} (w : kN own i y host c2 n2 r2 n)  (hM : JMet l D tys wd A0 y c2 n2 r2 d2 As u (jRi u K)) (hn : As.length = n) (hst : st0 = As.reverse ++ st) (hdd : d2 + 1 ≤ d) (hroom : (st.map fun v => v.category).sum ≤ 8) (hd : decode cc pc = .ok (.invokestatic i, 3)) (k : ∀ r, K r → AJ l D tys wd A0 cc nL rt own d Q (pc + 3) lv (.int r :: st) u) : AJ l D tys wd A0 cc nL rt own d Q pc lv (st0) u := J_callN w hM hn hst hdd hroom hd (by rintro _ _ ⟨rfl, r, rfl, h⟩; exact k r h)
theorem JV_Ri {a ci : Nat} {q : vw_C} {fs : List Value} {K : Int32 → Prop} (w : kV own i C y c2 n2 r2 n) (q0 : Nat) (he : (wd u)[q0]? = some (a, .inr (ci, fs))) (hc : vwCl[ci]? = some q) (hC : q.1 = C) (hM : JMet l D tys wd A0 y c2 n2 r2 d2 (.ref a :: As) u (jRi u K)) (hn : As.length = n) (hst : st0 = As.reverse ++ .ref a :: st) (hdd : d2 + 1 ≤ d) (hroom : (st.map fun v => v.category).sum ≤ 8) (hd : decode cc pc = .ok (.invokevirtual i, 3)) (k : ∀ r, K r → AJ l D tys wd A0 cc nL rt own d Q (pc + 3) lv (.int r :: st) u) : AJ l D tys wd A0 cc nL rt own d Q pc lv (st0) u := J_callV w q0 he hc hC hM hn hst hdd hroom hd (by rintro _ _ ⟨rfl, r, rfl, h⟩; exact k r h)
theorem JV_Wi {a ci : Nat} {q : vw_C} {fs : List Value} {K : Int32 → Mem → Prop} (w : kV own i C y c2 n2 r2 n) (q0 : Nat) (he : (wd u)[q0]? = some (a, .inr (ci, fs))) (hc : vwCl[ci]? = some q) (hC : q.1 = C) (hM : JMet l D tys wd A0 y c2 n2 r2 d2 (.ref a :: As) u (jWi K)) (hn : As.length = n) (hst : st0 = As.reverse ++ .ref a :: st) (hdd : d2 + 1 ≤ d) (hroom : (st.map fun v => v.category).sum ≤ 8) (hd : decode cc pc = .ok (.invokevirtual i, 3)) (k : ∀ r u1, K r u1 → AJ l D tys wd A0 cc nL rt own d Q (pc + 3) lv (.int r :: st) u1) : AJ l D tys wd A0 cc nL rt own d Q pc lv (st0) u := J_callV w q0 he hc hC hM hn hst hdd hroom hd (by rintro _ u1 ⟨r, rfl, h⟩; exact k r u1 h)
theorem JV_Rl {a ci : Nat} {q : vw_C} {fs : List Value} {K : Int64 → Prop} (w : kV own i C y c2 n2 r2 n) (q0 : Nat) (he : (wd u)[q0]? = some (a, .inr (ci, fs))) (hc : vwCl[ci]? = some q) (hC : q.1 = C) (hM : JMet l D tys wd A0 y c2 n2 r2 d2 (.ref a :: As) u (jRl u K)) (hn : As.length = n) (hst : st0 = As.reverse ++ .ref a :: st) (hdd : d2 + 1 ≤ d) (hroom : (st.map fun v => v.category).sum ≤ 8) (hd : decode cc pc = .ok (.invokevirtual i, 3)) (k : ∀ r, K r → AJ l D tys wd A0 cc nL rt own d Q (pc + 3) lv (.long r :: st) u) : AJ l D tys wd A0 cc nL rt own d Q pc lv (st0) u := J_callV w q0 he hc hC hM hn hst hdd hroom hd (by rintro _ _ ⟨rfl, r, rfl, h⟩; exact k r h)
theorem JV_Wl {a ci : Nat} {q : vw_C} {fs : List Value} {K : Int64 → Mem → Prop} (w : kV own i C y c2 n2 r2 n) (q0 : Nat) (he : (wd u)[q0]? = some (a, .inr (ci, fs))) (hc : vwCl[ci]? = some q) (hC : q.1 = C) (hM : JMet l D tys wd A0 y c2 n2 r2 d2 (.ref a :: As) u (jWl K)) (hn : As.length = n) (hst : st0 = As.reverse ++ .ref a :: st) (hdd : d2 + 1 ≤ d) (hroom : (st.map fun v => v.category).sum ≤ 8) (hd : decode cc pc = .ok (.invokevirtual i, 3)) (k : ∀ r u1, K r u1 → AJ l D tys wd A0 cc nL rt own d Q (pc + 3) lv (.long r :: st) u1) : AJ l D tys wd A0 cc nL rt own d Q pc lv (st0) u := J_callV w q0 he hc hC hM hn hst hdd hroom hd (by rintro _ u1 ⟨r, rfl, h⟩; exact k r u1 h)
theorem JV_Wv {a ci : Nat} {q : vw_C} {fs : List Value} {K : Mem → Prop} (w : kV own i C y c2 n2 r2 n) (q0 : Nat) (he : (wd u)[q0]? = some (a, .inr (ci, fs))) (hc : vwCl[ci]? = some q) (hC : q.1 = C) (hM : JMet l D tys wd A0 y c2 n2 r2 d2 (.ref a :: As) u (jWv K)) (hn : As.length = n) (hst : st0 = As.reverse ++ .ref a :: st) (hdd : d2 + 1 ≤ d) (hroom : (st.map fun v => v.category).sum ≤ 8) (hd : decode cc pc = .ok (.invokevirtual i, 3)) (k : ∀ u1, K u1 → AJ l D tys wd A0 cc nL rt own d Q (pc + 3) lv (st) u1) : AJ l D tys wd A0 cc nL rt own d Q pc lv (st0) u := J_callV w q0 he hc hC hM hn hst hdd hroom hd (by rintro _ u1 ⟨rfl, h⟩; exact k u1 h)
theorem JV_Wh {a ci : Nat} {q : vw_C} {fs : List Value} {K : Mem → Prop} (w : kV own i C y c2 n2 r2 n) (q0 : Nat) (he : (wd u)[q0]? = some (a, .inr (ci, fs))) (hc : vwCl[ci]? = some q) (hC : q.1 = C) (hM : JMet l D tys wd A0 y c2 n2 r2 d2 (.ref a :: As) u (jWh ad K)) (hn : As.length = n) (hst : st0 = As.reverse ++ .ref a :: st) (hdd : d2 + 1 ≤ d) (hroom : (st.map fun v => v.category).sum ≤ 8) (hd : decode cc pc = .ok (.invokevirtual i, 3)) (k : ∀ u1, K u1 → AJ l D tys wd A0 cc nL rt own d Q (pc + 3) lv (.ref (ad 5) :: st) u1) : AJ l D tys wd A0 cc nL rt own d Q pc lv (st0) u := J_callV w q0 he hc hC hM hn hst hdd hroom hd (by rintro _ u1 ⟨rfl, h⟩; exact k u1 h)
theorem JV_Rt {a ci : Nat} {q : vw_C} {fs : List Value} {K : Nat → Prop} (w : kV own i C y c2 n2 r2 n) (q0 : Nat) (he : (wd u)[q0]? = some (a, .inr (ci, fs))) (hc : vwCl[ci]? = some q) (hC : q.1 = C) (hM : JMet l D tys wd A0 y c2 n2 r2 d2 (.ref a :: As) u (jRt ad u K)) (hn : As.length = n) (hst : st0 = As.reverse ++ .ref a :: st) (hdd : d2 + 1 ≤ d) (hroom : (st.map fun v => v.category).sum ≤ 8) (hd : decode cc pc = .ok (.invokevirtual i, 3)) (k : ∀ r, r ≤ 2 → K r → AJ l D tys wd A0 cc nL rt own d Q (pc + 3) lv (trf ad r :: st) u) : AJ l D tys wd A0 cc nL rt own d Q pc lv (st0) u := J_callV w q0 he hc hC hM hn hst hdd hroom hd (by rintro _ _ ⟨rfl, r, hr, rfl, h⟩; exact k r hr h)
theorem JU_Ri {a ci : Nat} {q : vw_C} {fs : List Value} {K : Int32 → Prop} (w : kU own i C owner x y c2 n2 r2 n) (hyx : y = ⟨owner, x.name, x.desc⟩) (q0 : Nat) (he : (wd u)[q0]? = some (a, .inr (ci, fs))) (hc : vwCl[ci]? = some q) (hC : q.1 = C) (hM : JMet l D tys wd A0 y c2 n2 r2 d2 (.ref a :: As) u (jRi u K)) (hn : As.length = n) (hst : st0 = As.reverse ++ .ref a :: st) (hdd : d2 + 1 ≤ d) (hroom : (st.map fun v => v.category).sum ≤ 8) (hd : decode cc pc = .ok (.invokevirtual i, 3)) (k : ∀ r, K r → AJ l D tys wd A0 cc nL rt own d Q (pc + 3) lv (.int r :: st) u) : AJ l D tys wd A0 cc nL rt own d Q pc lv (st0) u := J_callU w hyx q0 he hc hC hM hn hst hdd hroom hd (by rintro _ _ ⟨rfl, r, rfl, h⟩; exact k r h)
theorem JU_Wv {a ci : Nat} {q : vw_C} {fs : List Value} {K : Mem → Prop} (w : kU own i C owner x y c2 n2 r2 n) (hyx : y = ⟨owner, x.name, x.desc⟩) (q0 : Nat) (he : (wd u)[q0]? = some (a, .inr (ci, fs))) (hc : vwCl[ci]? = some q) (hC : q.1 = C) (hM : JMet l D tys wd A0 y c2 n2 r2 d2 (.ref a :: As) u (jWv K)) (hn : As.length = n) (hst : st0 = As.reverse ++ .ref a :: st) (hdd : d2 + 1 ≤ d) (hroom : (st.map fun v => v.category).sum ≤ 8) (hd : decode cc pc = .ok (.invokevirtual i, 3)) (k : ∀ u1, K u1 → AJ l D tys wd A0 cc nL rt own d Q (pc + 3) lv (st) u1) : AJ l D tys wd A0 cc nL rt own d Q pc lv (st0) u := J_callU w hyx q0 he hc hC hM hn hst hdd hroom hd (by rintro _ u1 ⟨rfl, h⟩; exact k u1 h)
theorem JA_Wi {a ci : Nat} {q : vw_C} {fs : List Value} {K : Int32 → Mem → Prop} (w : kU own i C owner x y c2 n2 r2 n) (hyx : Cond.declares ⟨owner, x.name, x.desc⟩ ∈ NWs) (q0 : Nat) (he : (wd u)[q0]? = some (a, .inr (ci, fs))) (hc : vwCl[ci]? = some q) (hC : q.1 = C) (hM : JMet l D tys wd A0 y c2 n2 r2 d2 (.ref a :: As) u (jWi K)) (hn : As.length = n) (hst : st0 = As.reverse ++ .ref a :: st) (hdd : d2 + 1 ≤ d) (hroom : (st.map fun v => v.category).sum ≤ 8) (hd : decode cc pc = .ok (.invokevirtual i, 3)) (k : ∀ r u1, K r u1 → AJ l D tys wd A0 cc nL rt own d Q (pc + 3) lv (.int r :: st) u1) : AJ l D tys wd A0 cc nL rt own d Q pc lv (st0) u := J_callA w hyx q0 he hc hC hM hn hst hdd hroom hd (by rintro _ u1 ⟨r, rfl, h⟩; exact k r u1 h)
end CALLS2
set_option maxRecDepth 20000 in
theorem kc_X10_init : Cond.code yX10_init cX10_init 2 none ∈ TT := tt_of 70 rfl rfl
set_option maxRecDepth 20000 in
theorem kc_X8_init : Cond.code yX8_init cX8_init 2 none ∈ TT := tt_of 78 rfl rfl
set_option maxRecDepth 20000 in
theorem kc_J9_max_7cf53 : Cond.code yJ9_max_7cf53 cJ9_max_7cf53 2 (some .int) ∈ TT := tt_of 82 rfl rfl
set_option maxRecDepth 20000 in
theorem kc_X3_init : Cond.code yX3_init cX3_init 1 none ∈ TT := tt_of 95 rfl rfl
set_option maxRecDepth 20000 in
theorem kc_X5_init : Cond.code yX5_init cX5_init 1 none ∈ TT := tt_of 98 rfl rfl
set_option maxRecDepth 20000 in
theorem kc_X1_init : Cond.code yX1_init cX1_init 1 none ∈ TT := tt_of 127 rfl rfl
set_option maxRecDepth 20000 in
theorem kc_X2_init : Cond.code yX2_init cX2_init 1 none ∈ TT := tt_of 145 rfl rfl
set_option maxRecDepth 20000 in
theorem kc_X9_init : Cond.code yX9_init cX9_init 1 none ∈ TT := tt_of 161 rfl rfl
set_option maxRecDepth 20000 in
theorem kc_X6_init : Cond.code yX6_init cX6_init 1 none ∈ TT := tt_of 189 rfl rfl
set_option maxRecDepth 20000 in
theorem kc_X7_init : Cond.code yX7_init cX7_init 1 none ∈ TT := tt_of 206 rfl rfl
set_option maxRecDepth 20000 in
theorem kc_X10_type : Cond.code yX10_type cX10_type 4 (some .int) ∈ TT := tt_of 255 rfl rfl
set_option maxRecDepth 20000 in
theorem kc_X10_textOf : Cond.code yX10_textOf cX10_textOf 2 (some (.object "SmallFirst$Text")) ∈ TT := tt_of 259 rfl rfl
set_option maxRecDepth 20000 in
theorem kc_X10_isBits : Cond.code yX10_isBits cX10_isBits 1 (some .boolean) ∈ TT := tt_of 262 rfl rfl
set_option maxRecDepth 20000 in
theorem kc_X8_append : Cond.code yX8_append cX8_append 2 (some .boolean) ∈ TT := tt_of 266 rfl rfl
set_option maxRecDepth 20000 in
theorem kc_X10_readAgain : Cond.code yX10_readAgain cX10_readAgain 2 none ∈ TT := tt_of 270 rfl rfl
set_option maxRecDepth 20000 in
theorem kc_X5_readFrom : Cond.code yX5_readFrom cX5_readFrom 4 none ∈ TT := tt_of 276 rfl rfl
set_option maxRecDepth 20000 in
theorem kc_X8_size : Cond.code yX8_size cX8_size 1 (some .int) ∈ TT := tt_of 280 rfl rfl
set_option maxRecDepth 20000 in
theorem kc_X8_byteAt : Cond.code yX8_byteAt cX8_byteAt 2 (some .int) ∈ TT := tt_of 284 rfl rfl
set_option maxRecDepth 20000 in
theorem kc_X1_stateBehind : Cond.code yX1_stateBehind cX1_stateBehind 3 (some .int) ∈ TT := tt_of 290 rfl rfl
set_option maxRecDepth 20000 in
theorem kc_X1_beginDust : Cond.code yX1_beginDust cX1_beginDust 2 (some .int) ∈ TT := tt_of 294 rfl rfl
set_option maxRecDepth 20000 in
theorem kc_X5_size : Cond.code yX5_size cX5_size 1 (some .int) ∈ TT := tt_of 300 rfl rfl
set_option maxRecDepth 20000 in
theorem kc_X10_isBigLetter : Cond.code yX10_isBigLetter cX10_isBigLetter 1 (some .boolean) ∈ TT := tt_of 303 rfl rfl
set_option maxRecDepth 20000 in
theorem kc_X1_endDust : Cond.code yX1_endDust cX1_endDust 3 (some .int) ∈ TT := tt_of 307 rfl rfl
set_option maxRecDepth 20000 in
theorem kc_X10_isSmallLetter : Cond.code yX10_isSmallLetter cX10_isSmallLetter 1 (some .boolean) ∈ TT := tt_of 310 rfl rfl
set_option maxRecDepth 20000 in
theorem kc_X5_addOne : Cond.code yX5_addOne cX5_addOne 1 none ∈ TT := tt_of 316 rfl rfl
set_option maxRecDepth 20000 in
theorem kc_X3_stateBehind : Cond.code yX3_stateBehind cX3_stateBehind 3 (some .int) ∈ TT := tt_of 319 rfl rfl
set_option maxRecDepth 20000 in
theorem kc_X3_beginLaw : Cond.code yX3_beginLaw cX3_beginLaw 2 (some .int) ∈ TT := tt_of 323 rfl rfl
set_option maxRecDepth 20000 in
theorem kc_X3_pairWith : Cond.code yX3_pairWith cX3_pairWith 3 (some .int) ∈ TT := tt_of 331 rfl rfl
set_option maxRecDepth 20000 in
theorem kc_X3_takeSign : Cond.code yX3_takeSign cX3_takeSign 2 (some .int) ∈ TT := tt_of 335 rfl rfl
set_option maxRecDepth 20000 in
theorem kc_X3_endLaw : Cond.code yX3_endLaw cX3_endLaw 3 (some .int) ∈ TT := tt_of 339 rfl rfl
set_option maxRecDepth 20000 in
theorem kc_X10_wipe : Cond.code yX10_wipe cX10_wipe 4 (some .int) ∈ TT := tt_of 351 rfl rfl
set_option maxRecDepth 20000 in
theorem kc_X8_clear : Cond.code yX8_clear cX8_clear 1 none ∈ TT := tt_of 355 rfl rfl
set_option maxRecDepth 20000 in
theorem kc_X10_undo : Cond.code yX10_undo cX10_undo 3 (some .int) ∈ TT := tt_of 359 rfl rfl
set_option maxRecDepth 20000 in
theorem kc_X8_dropLast : Cond.code yX8_dropLast cX8_dropLast 1 (some .boolean) ∈ TT := tt_of 363 rfl rfl
set_option maxRecDepth 20000 in
theorem kc_X10_fault : Cond.code yX10_fault cX10_fault 2 (some .int) ∈ TT := tt_of 367 rfl rfl
set_option maxRecDepth 20000 in
theorem kc_X5_faultPlace : Cond.code yX5_faultPlace cX5_faultPlace 1 (some .int) ∈ TT := tt_of 373 rfl rfl
set_option maxRecDepth 20000 in
theorem kc_X10_rule : Cond.code yX10_rule cX10_rule 3 (some .int) ∈ TT := tt_of 380 rfl rfl
set_option maxRecDepth 20000 in
theorem kc_X3_smallOf : Cond.code yX3_smallOf cX3_smallOf 2 (some .int) ∈ TT := tt_of 385 rfl rfl
set_option maxRecDepth 20000 in
theorem kc_X3_isPlus : Cond.code yX3_isPlus cX3_isPlus 2 (some .boolean) ∈ TT := tt_of 389 rfl rfl
set_option maxRecDepth 20000 in
theorem kc_X3_bigOf : Cond.code yX3_bigOf cX3_bigOf 2 (some .int) ∈ TT := tt_of 393 rfl rfl
set_option maxRecDepth 20000 in
theorem kc_X10_dust : Cond.code yX10_dust cX10_dust 3 (some .int) ∈ TT := tt_of 397 rfl rfl
set_option maxRecDepth 20000 in
theorem kc_X10_isEither : Cond.code yX10_isEither cX10_isEither 1 (some .boolean) ∈ TT := tt_of 401 rfl rfl
set_option maxRecDepth 20000 in
theorem kc_X1_bigOf : Cond.code yX1_bigOf cX1_bigOf 2 (some .int) ∈ TT := tt_of 405 rfl rfl
set_option maxRecDepth 20000 in
theorem kc_X1_smallOf : Cond.code yX1_smallOf cX1_smallOf 2 (some .int) ∈ TT := tt_of 409 rfl rfl
set_option maxRecDepth 20000 in
theorem kc_X10_first : Cond.code yX10_first cX10_first 3 (some .int) ∈ TT := tt_of 413 rfl rfl
set_option maxRecDepth 20000 in
theorem kc_X9_firstSet : Cond.code yX9_firstSet cX9_firstSet 1 (some .int) ∈ TT := tt_of 417 rfl rfl
set_option maxRecDepth 20000 in
theorem kc_X9_setFirst : Cond.code yX9_setFirst cX9_setFirst 2 none ∈ TT := tt_of 421 rfl rfl
set_option maxRecDepth 20000 in
theorem kc_X10_comes : Cond.code yX10_comes cX10_comes 2 (some .int) ∈ TT := tt_of 425 rfl rfl
set_option maxRecDepth 20000 in
theorem kc_X10_freshHouse : Cond.code yX10_freshHouse cX10_freshHouse 1 (some (.object "SmallFirst$House")) ∈ TT := tt_of 429 rfl rfl
set_option maxRecDepth 20000 in
theorem kc_X2_fill : Cond.code yX2_fill cX2_fill 4 none ∈ TT := tt_of 433 rfl rfl
set_option maxRecDepth 20000 in
theorem kc_X3_heldBy : Cond.code yX3_heldBy cX3_heldBy 5 (some .int) ∈ TT := tt_of 437 rfl rfl
set_option maxRecDepth 20000 in
theorem kc_X1_laidBy : Cond.code yX1_laidBy cX1_laidBy 4 (some .int) ∈ TT := tt_of 444 rfl rfl
set_option maxRecDepth 20000 in
theorem kc_X2_comesBy : Cond.code yX2_comesBy cX2_comesBy 2 (some .int) ∈ TT := tt_of 450 rfl rfl
set_option maxRecDepth 20000 in
theorem kc_X10_lays : Cond.code yX10_lays cX10_lays 2 (some .int) ∈ TT := tt_of 454 rfl rfl
set_option maxRecDepth 20000 in
theorem kc_X10_lay : Cond.code yX10_lay cX10_lay 4 (some .int) ∈ TT := tt_of 459 rfl rfl
set_option maxRecDepth 20000 in
theorem kc_X10_isWeek : Cond.code yX10_isWeek cX10_isWeek 1 (some .boolean) ∈ TT := tt_of 462 rfl rfl
set_option maxRecDepth 20000 in
theorem kc_X10_isThing : Cond.code yX10_isThing cX10_isThing 1 (some .boolean) ∈ TT := tt_of 465 rfl rfl
set_option maxRecDepth 20000 in
theorem kc_X9_addLaying : Cond.code yX9_addLaying cX9_addLaying 4 (some .boolean) ∈ TT := tt_of 469 rfl rfl
set_option maxRecDepth 20000 in
theorem kc_X9_layings : Cond.code yX9_layings cX9_layings 1 (some .int) ∈ TT := tt_of 473 rfl rfl
set_option maxRecDepth 20000 in
theorem kc_X10_back : Cond.code yX10_back cX10_back 1 (some .int) ∈ TT := tt_of 477 rfl rfl
set_option maxRecDepth 20000 in
theorem kc_X9_dropLaying : Cond.code yX9_dropLaying cX9_dropLaying 1 (some .boolean) ∈ TT := tt_of 481 rfl rfl
set_option maxRecDepth 20000 in
theorem kc_X10_week : Cond.code yX10_week cX10_week 3 (some .int) ∈ TT := tt_of 485 rfl rfl
set_option maxRecDepth 20000 in
theorem kc_X9_runTo : Cond.code yX9_runTo cX9_runTo 6 none ∈ TT := tt_of 489 rfl rfl
set_option maxRecDepth 20000 in
theorem kc_X2_weekBehind : Cond.code yX2_weekBehind cX2_weekBehind 2 (some .int) ∈ TT := tt_of 494 rfl rfl
set_option maxRecDepth 20000 in
theorem kc_X9_withLayings : Cond.code yX9_withLayings cX9_withLayings 5 (some .int) ∈ TT := tt_of 498 rfl rfl
set_option maxRecDepth 20000 in
theorem kc_X9_smallIn : Cond.code yX9_smallIn cX9_smallIn 2 (some .int) ∈ TT := tt_of 502 rfl rfl
set_option maxRecDepth 20000 in
theorem kc_X9_bigIn : Cond.code yX9_bigIn cX9_bigIn 2 (some .int) ∈ TT := tt_of 506 rfl rfl
set_option maxRecDepth 20000 in
theorem kc_X10_judged : Cond.code yX10_judged cX10_judged 3 (some .int) ∈ TT := tt_of 510 rfl rfl
set_option maxRecDepth 20000 in
theorem kc_X2_disagreeBy : Cond.code yX2_disagreeBy cX2_disagreeBy 2 (some .int) ∈ TT := tt_of 514 rfl rfl
set_option maxRecDepth 20000 in
theorem kc_X10_two : Cond.code yX10_two cX10_two 2 (some .int) ∈ TT := tt_of 518 rfl rfl
set_option maxRecDepth 20000 in
theorem kc_X3_standsFor : Cond.code yX3_standsFor cX3_standsFor 4 (some .int) ∈ TT := tt_of 522 rfl rfl
set_option maxRecDepth 20000 in
theorem kc_J6_bitCount_0f7a4 : Cond.code yJ6_bitCount_0f7a4 cJ6_bitCount_0f7a4 1 (some .int) ∈ TT := tt_of 525 rfl rfl
set_option maxRecDepth 20000 in
theorem kc_X10_second : Cond.code yX10_second cX10_second 3 (some .int) ∈ TT := tt_of 532 rfl rfl
set_option maxRecDepth 20000 in
theorem kc_X10_touch : Cond.code yX10_touch cX10_touch 5 (some .int) ∈ TT := tt_of 536 rfl rfl
set_option maxRecDepth 20000 in
theorem kc_X10_isSpan : Cond.code yX10_isSpan cX10_isSpan 1 (some .boolean) ∈ TT := tt_of 539 rfl rfl
set_option maxRecDepth 20000 in
theorem kc_X4_fewestTouched : Cond.code yX4_fewestTouched cX4_fewestTouched 8 (some .int) ∈ TT := tt_of 542 rfl rfl
set_option maxRecDepth 20000 in
theorem kc_X4_isFewer : Cond.code yX4_isFewer cX4_isFewer 2 (some .boolean) ∈ TT := tt_of 545 rfl rfl
set_option maxRecDepth 20000 in
theorem kc_X4_bigsIn : Cond.code yX4_bigsIn cX4_bigsIn 5 (some .int) ∈ TT := tt_of 549 rfl rfl
set_option maxRecDepth 20000 in
theorem kc_X10_numberOrBits : Cond.code yX10_numberOrBits cX10_numberOrBits 2 (some .int) ∈ TT := tt_of 554 rfl rfl
set_option maxRecDepth 20000 in
theorem kc_X10_keepOff : Cond.code yX10_keepOff cX10_keepOff 4 (some .int) ∈ TT := tt_of 558 rfl rfl
set_option maxRecDepth 20000 in
theorem kc_X4_fewestSwept : Cond.code yX4_fewestSwept cX4_fewestSwept 7 (some .int) ∈ TT := tt_of 561 rfl rfl
set_option maxRecDepth 20000 in
theorem kc_X4_staysOff : Cond.code yX4_staysOff cX4_staysOff 6 (some .boolean) ∈ TT := tt_of 564 rfl rfl
set_option maxRecDepth 20000 in
theorem kc_X10_bars : Cond.code yX10_bars cX10_bars 5 (some .int) ∈ TT := tt_of 568 rfl rfl
set_option maxRecDepth 20000 in
theorem kc_X10_play : Cond.code yX10_play cX10_play 6 (some .int) ∈ TT := tt_of 572 rfl rfl
set_option maxRecDepth 20000 in
theorem kc_X4_endsInComing : Cond.code yX4_endsInComing cX4_endsInComing 4 (some .boolean) ∈ TT := tt_of 575 rfl rfl
set_option maxRecDepth 20000 in
theorem kc_X4_itComes : Cond.code yX4_itComes cX4_itComes 6 (some .boolean) ∈ TT := tt_of 578 rfl rfl
set_option maxRecDepth 20000 in
theorem kc_X4_firstTouch : Cond.code yX4_firstTouch cX4_firstTouch 5 (some .int) ∈ TT := tt_of 581 rfl rfl
set_option maxRecDepth 20000 in
theorem kc_X10_steady : Cond.code yX10_steady cX10_steady 5 (some .int) ∈ TT := tt_of 585 rfl rfl
set_option maxRecDepth 20000 in
theorem kc_X10_round : Cond.code yX10_round cX10_round 4 (some .int) ∈ TT := tt_of 590 rfl rfl
set_option maxRecDepth 20000 in
theorem kc_X4_weeksToRepeat : Cond.code yX4_weeksToRepeat cX4_weeksToRepeat 4 (some .int) ∈ TT := tt_of 593 rfl rfl
set_option maxRecDepth 20000 in
theorem kc_X4_weekOf : Cond.code yX4_weekOf cX4_weekOf 6 (some .int) ∈ TT := tt_of 596 rfl rfl
set_option maxRecDepth 20000 in
theorem kc_X4_roundLength : Cond.code yX4_roundLength cX4_roundLength 5 (some .int) ∈ TT := tt_of 599 rfl rfl
set_option maxRecDepth 20000 in
theorem kc_X10_seen : Cond.code yX10_seen cX10_seen 3 (some .int) ∈ TT := tt_of 604 rfl rfl
set_option maxRecDepth 20000 in
theorem kc_X6_addSight : Cond.code yX6_addSight cX6_addSight 3 (some .boolean) ∈ TT := tt_of 608 rfl rfl
set_option maxRecDepth 20000 in
theorem kc_X6_size : Cond.code yX6_size cX6_size 1 (some .int) ∈ TT := tt_of 612 rfl rfl
set_option maxRecDepth 20000 in
theorem kc_X10_forget : Cond.code yX10_forget cX10_forget 2 (some .int) ∈ TT := tt_of 616 rfl rfl
set_option maxRecDepth 20000 in
theorem kc_X6_clear : Cond.code yX6_clear cX6_clear 1 none ∈ TT := tt_of 620 rfl rfl
set_option maxRecDepth 20000 in
theorem kc_X10_read : Cond.code yX10_read cX10_read 7 (some .int) ∈ TT := tt_of 624 rfl rfl
set_option maxRecDepth 20000 in
theorem kc_X10_isSheet : Cond.code yX10_isSheet cX10_isSheet 1 (some .boolean) ∈ TT := tt_of 627 rfl rfl
set_option maxRecDepth 20000 in
theorem kc_X7_isLost : Cond.code yX7_isLost cX7_isLost 1 (some .boolean) ∈ TT := tt_of 631 rfl rfl
set_option maxRecDepth 20000 in
theorem kc_X10_finding : Cond.code yX10_finding cX10_finding 2 (some .int) ∈ TT := tt_of 635 rfl rfl
set_option maxRecDepth 20000 in
theorem kc_X7_size : Cond.code yX7_size cX7_size 1 (some .int) ∈ TT := tt_of 639 rfl rfl
set_option maxRecDepth 20000 in
theorem kc_X7_item : Cond.code yX7_item cX7_item 2 (some .int) ∈ TT := tt_of 643 rfl rfl
set_option maxRecDepth 20000 in
theorem kc_X7_hasItems : Cond.code yX7_hasItems cX7_hasItems 3 (some .boolean) ∈ TT := tt_of 647 rfl rfl
set_option maxRecDepth 20000 in
theorem kc_X10_stands : Cond.code yX10_stands cX10_stands 3 (some .int) ∈ TT := tt_of 651 rfl rfl
set_option maxRecDepth 20000 in
theorem kc_X6_howManyStand : Cond.code yX6_howManyStand cX6_howManyStand 4 (some .int) ∈ TT := tt_of 655 rfl rfl
set_option maxRecDepth 20000 in
theorem kc_X6_mayStand : Cond.code yX6_mayStand cX6_mayStand 5 (some .boolean) ∈ TT := tt_of 659 rfl rfl
set_option maxRecDepth 20000 in
theorem kc_X6_fewestStand : Cond.code yX6_fewestStand cX6_fewestStand 4 (some .int) ∈ TT := tt_of 663 rfl rfl
set_option maxRecDepth 20000 in
theorem kc_X10_watch : Cond.code yX10_watch cX10_watch 2 (some .int) ∈ TT := tt_of 668 rfl rfl
set_option maxRecDepth 20000 in
theorem kc_X6_nearestHalf : Cond.code yX6_nearestHalf cX6_nearestHalf 7 (some .int) ∈ TT := tt_of 672 rfl rfl
set_option maxRecDepth 20000 in
theorem kc_X6_howManyStandWith : Cond.code yX6_howManyStandWith cX6_howManyStandWith 5 (some .int) ∈ TT := tt_of 677 rfl rfl
set_option maxRecDepth 20000 in
theorem kc_J9_abs_0f7a4 : Cond.code yJ9_abs_0f7a4 cJ9_abs_0f7a4 1 (some .int) ∈ TT := tt_of 680 rfl rfl
set_option maxRecDepth 20000 in
theorem kc_X10_moved : Cond.code yX10_moved cX10_moved 5 (some .int) ∈ TT := tt_of 684 rfl rfl
set_option maxRecDepth 20000 in
theorem kc_X10_cat : Cond.code yX10_cat cX10_cat 6 (some .long) ∈ TT := tt_of 688 rfl rfl
set_option maxRecDepth 20000 in
theorem kc_X10_isChance : Cond.code yX10_isChance cX10_isChance 1 (some .boolean) ∈ TT := tt_of 691 rfl rfl
set_option maxRecDepth 20000 in
theorem kc_X0_withCat : Cond.code yX0_withCat cX0_withCat 6 (some .int) ∈ TT := tt_of 695 rfl rfl
set_option maxRecDepth 20000 in
theorem kc_X0_lowest : Cond.code yX0_lowest cX0_lowest 7 (some .int) ∈ TT := tt_of 699 rfl rfl
set_option maxRecDepth 20000 in
theorem kc_X10_let : Cond.code yX10_let cX10_let 7 (some .int) ∈ TT := tt_of 703 rfl rfl
set_option maxRecDepth 20000 in
theorem kc_X10_lot : Cond.code yX10_lot cX10_lot 9 (some .int) ∈ TT := tt_of 707 rfl rfl
set_option maxRecDepth 20000 in
theorem kc_X10_sheet : Cond.code yX10_sheet cX10_sheet 4 (some .int) ∈ TT := tt_of 712 rfl rfl
set_option maxRecDepth 20000 in
theorem kc_X10_isForm : Cond.code yX10_isForm cX10_isForm 1 (some .boolean) ∈ TT := tt_of 715 rfl rfl
set_option maxRecDepth 20000 in
theorem kc_X7_begin : Cond.code yX7_begin cX7_begin 4 none ∈ TT := tt_of 719 rfl rfl
set_option maxRecDepth 20000 in
theorem kc_J9_min_7cf53 : Cond.code yJ9_min_7cf53 cJ9_min_7cf53 2 (some .int) ∈ TT := tt_of 722 rfl rfl
set_option maxRecDepth 20000 in
theorem kc_X10_lose : Cond.code yX10_lose cX10_lose 3 (some .int) ∈ TT := tt_of 727 rfl rfl
set_option maxRecDepth 20000 in
theorem kc_X7_end : Cond.code yX7_end cX7_end 1 none ∈ TT := tt_of 731 rfl rfl
set_option maxRecDepth 20000 in
theorem kc_X10_put : Cond.code yX10_put cX10_put 6 (some .int) ∈ TT := tt_of 735 rfl rfl
set_option maxRecDepth 20000 in
theorem kc_X10_itemRefusal : Cond.code yX10_itemRefusal cX10_itemRefusal 4 (some .int) ∈ TT := tt_of 739 rfl rfl
set_option maxRecDepth 20000 in
theorem kc_X7_formOf : Cond.code yX7_formOf cX7_formOf 1 (some .int) ∈ TT := tt_of 743 rfl rfl
set_option maxRecDepth 20000 in
theorem kc_X7_setItem : Cond.code yX7_setItem cX7_setItem 3 none ∈ TT := tt_of 748 rfl rfl
set_option maxRecDepth 20000 in
theorem kc_X7_asForm : Cond.code yX7_asForm cX7_asForm 2 (some .int) ∈ TT := tt_of 752 rfl rfl
set_option maxRecDepth 20000 in
theorem kc_X10_get : Cond.code yX10_get cX10_get 4 (some .int) ∈ TT := tt_of 756 rfl rfl
set_option maxRecDepth 20000 in
theorem kc_X10_copy : Cond.code yX10_copy cX10_copy 8 (some .int) ∈ TT := tt_of 761 rfl rfl
set_option maxRecDepth 20000 in
theorem kc_X7_takeFrom : Cond.code yX7_takeFrom cX7_takeFrom 5 none ∈ TT := tt_of 765 rfl rfl
set_option maxRecDepth 20000 in
theorem kc_X10_write : Cond.code yX10_write cX10_write 5 (some .int) ∈ TT := tt_of 772 rfl rfl
set_option maxRecDepth 20000 in
theorem kc_X10_count : Cond.code yX10_count cX10_count 2 (some .int) ∈ TT := tt_of 777 rfl rfl
set_option maxRecDepth 20000 in
theorem kc_X3_plusCount : Cond.code yX3_plusCount cX3_plusCount 3 (some .int) ∈ TT := tt_of 781 rfl rfl
set_option maxRecDepth 20000 in
theorem kc_X10_digest : Cond.code yX10_digest cX10_digest 5 (some .long) ∈ TT := tt_of 785 rfl rfl
set_option maxRecDepth 20000 in
theorem kc_X10_digestTexts : Cond.code yX10_digestTexts cX10_digestTexts 6 (some .long) ∈ TT := tt_of 790 rfl rfl
set_option maxRecDepth 20000 in
theorem kc_X10_mix : Cond.code yX10_mix cX10_mix 4 (some .long) ∈ TT := tt_of 794 rfl rfl
set_option maxRecDepth 20000 in
theorem kc_X10_digestBig : Cond.code yX10_digestBig cX10_digestBig 6 (some .long) ∈ TT := tt_of 811 rfl rfl
set_option maxRecDepth 20000 in
theorem kc_X11_init : Cond.code yX11_init cX11_init 2 none ∈ TT := tt_of 823 rfl rfl
set_option maxRecDepth 20000 in
theorem kc_X11_sheet : Cond.code yX11_sheet cX11_sheet 5 (some .int) ∈ TT := tt_of 898 rfl rfl
set_option maxRecDepth 20000 in
theorem kc_X11_isSheet : Cond.code yX11_isSheet cX11_isSheet 1 (some .boolean) ∈ TT := tt_of 901 rfl rfl
set_option maxRecDepth 20000 in
theorem kc_X11_in : Cond.code yX11_in cX11_in 6 (some .boolean) ∈ TT := tt_of 905 rfl rfl
set_option maxRecDepth 20000 in
theorem kc_X11_met : Cond.code yX11_met cX11_met 2 (some .int) ∈ TT := tt_of 910 rfl rfl
set_option maxRecDepth 20000 in
theorem kc_X11_lose : Cond.code yX11_lose cX11_lose 2 (some .int) ∈ TT := tt_of 914 rfl rfl
set_option maxRecDepth 20000 in
theorem kc_X11_put : Cond.code yX11_put cX11_put 6 (some .int) ∈ TT := tt_of 918 rfl rfl
set_option maxRecDepth 20000 in
theorem kc_X11_lacks : Cond.code yX11_lacks cX11_lacks 4 (some .int) ∈ TT := tt_of 922 rfl rfl
set_option maxRecDepth 20000 in
theorem kc_X11_cut : Cond.code yX11_cut cX11_cut 2 (some .int) ∈ TT := tt_of 925 rfl rfl
set_option maxRecDepth 20000 in
theorem kc_X11_get : Cond.code yX11_get cX11_get 4 (some .int) ∈ TT := tt_of 929 rfl rfl
set_option maxRecDepth 20000 in
theorem kc_X11_copy : Cond.code yX11_copy cX11_copy 7 (some .int) ∈ TT := tt_of 934 rfl rfl
set_option maxRecDepth 20000 in
theorem kc_X11_type : Cond.code yX11_type cX11_type 3 (some .int) ∈ TT := tt_of 938 rfl rfl
set_option maxRecDepth 20000 in
theorem kc_X11_isTwo : Cond.code yX11_isTwo cX11_isTwo 1 (some .boolean) ∈ TT := tt_of 941 rfl rfl
set_option maxRecDepth 20000 in
theorem kc_X11_wipe : Cond.code yX11_wipe cX11_wipe 3 (some .int) ∈ TT := tt_of 946 rfl rfl
set_option maxRecDepth 20000 in
theorem kc_X11_undo : Cond.code yX11_undo cX11_undo 2 (some .int) ∈ TT := tt_of 950 rfl rfl
set_option maxRecDepth 20000 in
theorem kc_X11_fault : Cond.code yX11_fault cX11_fault 2 (some .int) ∈ TT := tt_of 954 rfl rfl
set_option maxRecDepth 20000 in
theorem kc_X11_readsLaws : Cond.code yX11_readsLaws cX11_readsLaws 3 (some .int) ∈ TT := tt_of 958 rfl rfl
set_option maxRecDepth 20000 in
theorem kc_X11_readsLaw : Cond.code yX11_readsLaw cX11_readsLaw 6 (some .boolean) ∈ TT := tt_of 962 rfl rfl
set_option maxRecDepth 20000 in
theorem kc_X11_small : Cond.code yX11_small cX11_small 2 (some .int) ∈ TT := tt_of 966 rfl rfl
set_option maxRecDepth 20000 in
theorem kc_X11_here : Cond.code yX11_here cX11_here 2 (some .int) ∈ TT := tt_of 970 rfl rfl
set_option maxRecDepth 20000 in
theorem kc_X11_big : Cond.code yX11_big cX11_big 2 (some .int) ∈ TT := tt_of 976 rfl rfl
set_option maxRecDepth 20000 in
theorem kc_X11_readsDust : Cond.code yX11_readsDust cX11_readsDust 3 (some .int) ∈ TT := tt_of 982 rfl rfl
set_option maxRecDepth 20000 in
theorem kc_X11_readsOneDust : Cond.code yX11_readsOneDust cX11_readsOneDust 3 (some .boolean) ∈ TT := tt_of 986 rfl rfl
set_option maxRecDepth 20000 in
theorem kc_X11_rule : Cond.code yX11_rule cX11_rule 3 (some .int) ∈ TT := tt_of 990 rfl rfl
set_option maxRecDepth 20000 in
theorem kc_X11_dust : Cond.code yX11_dust cX11_dust 3 (some .int) ∈ TT := tt_of 994 rfl rfl
set_option maxRecDepth 20000 in
theorem kc_X11_first : Cond.code yX11_first cX11_first 3 (some .int) ∈ TT := tt_of 998 rfl rfl
set_option maxRecDepth 20000 in
theorem kc_X11_isSet : Cond.code yX11_isSet cX11_isSet 1 (some .boolean) ∈ TT := tt_of 1001 rfl rfl
set_option maxRecDepth 20000 in
theorem kc_X11_comes : Cond.code yX11_comes cX11_comes 2 (some .int) ∈ TT := tt_of 1005 rfl rfl
set_option maxRecDepth 20000 in
theorem kc_X11_reads : Cond.code yX11_reads cX11_reads 3 none ∈ TT := tt_of 1009 rfl rfl
set_option maxRecDepth 20000 in
theorem kc_X11_heldBy : Cond.code yX11_heldBy cX11_heldBy 5 (some .int) ∈ TT := tt_of 1013 rfl rfl
set_option maxRecDepth 20000 in
theorem kc_X11_holds : Cond.code yX11_holds cX11_holds 3 (some .boolean) ∈ TT := tt_of 1017 rfl rfl
set_option maxRecDepth 20000 in
theorem kc_X11_isIn : Cond.code yX11_isIn cX11_isIn 2 (some .boolean) ∈ TT := tt_of 1020 rfl rfl
set_option maxRecDepth 20000 in
theorem kc_X11_lays : Cond.code yX11_lays cX11_lays 2 (some .int) ∈ TT := tt_of 1024 rfl rfl
set_option maxRecDepth 20000 in
theorem kc_X11_lay : Cond.code yX11_lay cX11_lay 4 (some .int) ∈ TT := tt_of 1028 rfl rfl
set_option maxRecDepth 20000 in
theorem kc_X11_isThing : Cond.code yX11_isThing cX11_isThing 1 (some .boolean) ∈ TT := tt_of 1032 rfl rfl
set_option maxRecDepth 20000 in
theorem kc_X11_back : Cond.code yX11_back cX11_back 1 (some .int) ∈ TT := tt_of 1037 rfl rfl
set_option maxRecDepth 20000 in
theorem kc_X11_week : Cond.code yX11_week cX11_week 3 (some .int) ∈ TT := tt_of 1041 rfl rfl
set_option maxRecDepth 20000 in
theorem kc_X11_lives : Cond.code yX11_lives cX11_lives 4 none ∈ TT := tt_of 1045 rfl rfl
set_option maxRecDepth 20000 in
theorem kc_X11_judged : Cond.code yX11_judged cX11_judged 1 (some .int) ∈ TT := tt_of 1049 rfl rfl
set_option maxRecDepth 20000 in
theorem kc_X11_judgedNow : Cond.code yX11_judgedNow cX11_judgedNow 2 (some .int) ∈ TT := tt_of 1053 rfl rfl
set_option maxRecDepth 20000 in
theorem kc_X11_two : Cond.code yX11_two cX11_two 1 (some .int) ∈ TT := tt_of 1057 rfl rfl
set_option maxRecDepth 20000 in
theorem kc_X11_twoNow : Cond.code yX11_twoNow cX11_twoNow 4 (some .int) ∈ TT := tt_of 1061 rfl rfl
set_option maxRecDepth 20000 in
theorem kc_X11_ones : Cond.code yX11_ones cX11_ones 3 (some .int) ∈ TT := tt_of 1064 rfl rfl
set_option maxRecDepth 20000 in
theorem kc_X11_second : Cond.code yX11_second cX11_second 2 (some .int) ∈ TT := tt_of 1068 rfl rfl
set_option maxRecDepth 20000 in
theorem kc_X11_touch : Cond.code yX11_touch cX11_touch 5 (some .int) ∈ TT := tt_of 1072 rfl rfl
set_option maxRecDepth 20000 in
theorem kc_X11_touchOf : Cond.code yX11_touchOf cX11_touchOf 8 (some .int) ∈ TT := tt_of 1077 rfl rfl
set_option maxRecDepth 20000 in
theorem kc_X11_comeIn : Cond.code yX11_comeIn cX11_comeIn 5 (some .int) ∈ TT := tt_of 1081 rfl rfl
set_option maxRecDepth 20000 in
theorem kc_X11_next : Cond.code yX11_next cX11_next 2 (some .int) ∈ TT := tt_of 1085 rfl rfl
set_option maxRecDepth 20000 in
theorem kc_X11_told : Cond.code yX11_told cX11_told 2 (some .int) ∈ TT := tt_of 1088 rfl rfl
set_option maxRecDepth 20000 in
theorem kc_X11_keepOff : Cond.code yX11_keepOff cX11_keepOff 4 (some .int) ∈ TT := tt_of 1092 rfl rfl
set_option maxRecDepth 20000 in
theorem kc_X11_keepOffOf : Cond.code yX11_keepOffOf cX11_keepOffOf 6 (some .int) ∈ TT := tt_of 1096 rfl rfl
set_option maxRecDepth 20000 in
theorem kc_X11_isOff : Cond.code yX11_isOff cX11_isOff 6 (some .boolean) ∈ TT := tt_of 1100 rfl rfl
set_option maxRecDepth 20000 in
theorem kc_X11_bars : Cond.code yX11_bars cX11_bars 2 (some .int) ∈ TT := tt_of 1104 rfl rfl
set_option maxRecDepth 20000 in
theorem kc_X11_barsOf : Cond.code yX11_barsOf cX11_barsOf 4 (some .int) ∈ TT := tt_of 1108 rfl rfl
set_option maxRecDepth 20000 in
theorem kc_X11_play : Cond.code yX11_play cX11_play 4 (some .int) ∈ TT := tt_of 1112 rfl rfl
set_option maxRecDepth 20000 in
theorem kc_X11_playOf : Cond.code yX11_playOf cX11_playOf 6 (some .int) ∈ TT := tt_of 1117 rfl rfl
set_option maxRecDepth 20000 in
theorem kc_X11_findWins : Cond.code yX11_findWins cX11_findWins 9 none ∈ TT := tt_of 1121 rfl rfl
set_option maxRecDepth 20000 in
theorem kc_X11_steady : Cond.code yX11_steady cX11_steady 2 (some .int) ∈ TT := tt_of 1125 rfl rfl
set_option maxRecDepth 20000 in
theorem kc_X11_steadyOf : Cond.code yX11_steadyOf cX11_steadyOf 4 (some .int) ∈ TT := tt_of 1130 rfl rfl
set_option maxRecDepth 20000 in
theorem kc_X11_round : Cond.code yX11_round cX11_round 3 (some .int) ∈ TT := tt_of 1134 rfl rfl
set_option maxRecDepth 20000 in
theorem kc_X11_roundOf : Cond.code yX11_roundOf cX11_roundOf 5 (some .int) ∈ TT := tt_of 1138 rfl rfl
set_option maxRecDepth 20000 in
theorem kc_X11_seen : Cond.code yX11_seen cX11_seen 3 (some .int) ∈ TT := tt_of 1142 rfl rfl
set_option maxRecDepth 20000 in
theorem kc_X11_forget : Cond.code yX11_forget cX11_forget 2 (some .int) ∈ TT := tt_of 1146 rfl rfl
set_option maxRecDepth 20000 in
theorem kc_X11_read : Cond.code yX11_read cX11_read 4 (some .int) ∈ TT := tt_of 1150 rfl rfl
set_option maxRecDepth 20000 in
theorem kc_X11_stands : Cond.code yX11_stands cX11_stands 3 (some .int) ∈ TT := tt_of 1155 rfl rfl
set_option maxRecDepth 20000 in
theorem kc_X11_standsOf : Cond.code yX11_standsOf cX11_standsOf 6 (some .int) ∈ TT := tt_of 1159 rfl rfl
set_option maxRecDepth 20000 in
theorem kc_X11_standsFor : Cond.code yX11_standsFor cX11_standsFor 5 (some .boolean) ∈ TT := tt_of 1163 rfl rfl
set_option maxRecDepth 20000 in
theorem kc_X11_watch : Cond.code yX11_watch cX11_watch 2 (some .int) ∈ TT := tt_of 1167 rfl rfl
set_option maxRecDepth 20000 in
theorem kc_X11_watchOf : Cond.code yX11_watchOf cX11_watchOf 9 (some .int) ∈ TT := tt_of 1171 rfl rfl
set_option maxRecDepth 20000 in
theorem kc_X11_moved : Cond.code yX11_moved cX11_moved 2 (some .int) ∈ TT := tt_of 1175 rfl rfl
set_option maxRecDepth 20000 in
theorem kc_X11_movedOf : Cond.code yX11_movedOf cX11_movedOf 4 (some .int) ∈ TT := tt_of 1179 rfl rfl
set_option maxRecDepth 20000 in
theorem kc_X11_cat : Cond.code yX11_cat cX11_cat 4 (some .long) ∈ TT := tt_of 1183 rfl rfl
set_option maxRecDepth 20000 in
theorem kc_X11_catBy : Cond.code yX11_catBy cX11_catBy 5 (some .int) ∈ TT := tt_of 1188 rfl rfl
set_option maxRecDepth 20000 in
theorem kc_X11_part : Cond.code yX11_part cX11_part 11 (some .long) ∈ TT := tt_of 1192 rfl rfl
set_option maxRecDepth 20000 in
theorem kc_X11_no : Cond.code yX11_no cX11_no 1 (some .long) ∈ TT := tt_of 1195 rfl rfl
set_option maxRecDepth 20000 in
theorem kc_X11_let : Cond.code yX11_let cX11_let 3 (some .int) ∈ TT := tt_of 1200 rfl rfl
set_option maxRecDepth 20000 in
theorem kc_X11_letOf : Cond.code yX11_letOf cX11_letOf 3 (some .int) ∈ TT := tt_of 1204 rfl rfl
set_option maxRecDepth 20000 in
theorem kc_X11_lot : Cond.code yX11_lot cX11_lot 4 (some .int) ∈ TT := tt_of 1208 rfl rfl
set_option maxRecDepth 20000 in
theorem kc_X11_lotOf : Cond.code yX11_lotOf cX11_lotOf 8 (some .int) ∈ TT := tt_of 1213 rfl rfl
set_option maxRecDepth 20000 in
theorem kc_X11_write : Cond.code yX11_write cX11_write 5 (some .int) ∈ TT := tt_of 1218 rfl rfl
set_option maxRecDepth 20000 in
theorem kc_X11_count : Cond.code yX11_count cX11_count 4 (some .int) ∈ TT := tt_of 1222 rfl rfl
set_option maxRecDepth 20000 in
theorem kc_X11_digest : Cond.code yX11_digest cX11_digest 5 (some .long) ∈ TT := tt_of 1226 rfl rfl
set_option maxRecDepth 20000 in
theorem kc_X11_tellsBig : Cond.code yX11_tellsBig cX11_tellsBig 6 (some .long) ∈ TT := tt_of 1234 rfl rfl
theorem ki_RL : Cond.initialized RL ∈ TT := tt_of 50 (by decide +kernel) rfl
theorem ki_RX10 : Cond.initialized RX10 ∈ TT := tt_of 51 (by decide +kernel) rfl
theorem ki_RX8 : Cond.initialized RX8 ∈ TT := tt_of 52 (by decide +kernel) rfl
theorem ki_RJ9 : Cond.initialized RJ9 ∈ TT := tt_of 53 (by decide +kernel) rfl
theorem ki_RX5 : Cond.initialized RX5 ∈ TT := tt_of 54 (by decide +kernel) rfl
theorem ki_RX3 : Cond.initialized RX3 ∈ TT := tt_of 55 (by decide +kernel) rfl
theorem ki_RX1 : Cond.initialized RX1 ∈ TT := tt_of 56 (by decide +kernel) rfl
theorem ki_RX2 : Cond.initialized RX2 ∈ TT := tt_of 57 (by decide +kernel) rfl
theorem ki_RX9 : Cond.initialized RX9 ∈ TT := tt_of 58 (by decide +kernel) rfl
theorem ki_RX6 : Cond.initialized RX6 ∈ TT := tt_of 59 (by decide +kernel) rfl
theorem ki_RX7 : Cond.initialized RX7 ∈ TT := tt_of 60 (by decide +kernel) rfl
theorem ki_RX11 : Cond.initialized RX11 ∈ TT := tt_of 61 (by decide +kernel) rfl
theorem ki_RJ6 : Cond.initialized RJ6 ∈ TT := tt_of 62 (by decide +kernel) rfl
theorem ki_RX4 : Cond.initialized RX4 ∈ TT := tt_of 63 (by decide +kernel) rfl
theorem ki_RX0 : Cond.initialized RX0 ∈ TT := tt_of 64 (by decide +kernel) rfl
theorem ki_RJ10 : Cond.initialized RJ10 ∈ TT := tt_of 65 (by decide +kernel) rfl
theorem kt_J9_max_7cf53 : Cond.static yJ9_max_7cf53 ∈ TT := tt_of 81 (by decide +kernel) rfl
theorem kt_X10_isBits : Cond.static yX10_isBits ∈ TT := tt_of 261 (by decide +kernel) rfl
theorem kt_X10_isBigLetter : Cond.static yX10_isBigLetter ∈ TT := tt_of 302 (by decide +kernel) rfl
theorem kt_X10_isSmallLetter : Cond.static yX10_isSmallLetter ∈ TT := tt_of 309 (by decide +kernel) rfl
theorem kt_X10_isEither : Cond.static yX10_isEither ∈ TT := tt_of 400 (by decide +kernel) rfl
theorem kt_X10_isWeek : Cond.static yX10_isWeek ∈ TT := tt_of 461 (by decide +kernel) rfl
theorem kt_X10_isThing : Cond.static yX10_isThing ∈ TT := tt_of 464 (by decide +kernel) rfl
theorem kt_J6_bitCount_0f7a4 : Cond.static yJ6_bitCount_0f7a4 ∈ TT := tt_of 524 (by decide +kernel) rfl
theorem kt_X10_isSpan : Cond.static yX10_isSpan ∈ TT := tt_of 538 (by decide +kernel) rfl
theorem kt_X4_fewestTouched : Cond.static yX4_fewestTouched ∈ TT := tt_of 541 (by decide +kernel) rfl
theorem kt_X4_isFewer : Cond.static yX4_isFewer ∈ TT := tt_of 544 (by decide +kernel) rfl
theorem kt_X4_bigsIn : Cond.static yX4_bigsIn ∈ TT := tt_of 548 (by decide +kernel) rfl
theorem kt_X10_numberOrBits : Cond.static yX10_numberOrBits ∈ TT := tt_of 553 (by decide +kernel) rfl
theorem kt_X4_fewestSwept : Cond.static yX4_fewestSwept ∈ TT := tt_of 560 (by decide +kernel) rfl
theorem kt_X4_staysOff : Cond.static yX4_staysOff ∈ TT := tt_of 563 (by decide +kernel) rfl
theorem kt_X4_endsInComing : Cond.static yX4_endsInComing ∈ TT := tt_of 574 (by decide +kernel) rfl
theorem kt_X4_itComes : Cond.static yX4_itComes ∈ TT := tt_of 577 (by decide +kernel) rfl
theorem kt_X4_firstTouch : Cond.static yX4_firstTouch ∈ TT := tt_of 580 (by decide +kernel) rfl
theorem kt_X4_weeksToRepeat : Cond.static yX4_weeksToRepeat ∈ TT := tt_of 592 (by decide +kernel) rfl
theorem kt_X4_weekOf : Cond.static yX4_weekOf ∈ TT := tt_of 595 (by decide +kernel) rfl
theorem kt_X4_roundLength : Cond.static yX4_roundLength ∈ TT := tt_of 598 (by decide +kernel) rfl
theorem kt_X10_isSheet : Cond.static yX10_isSheet ∈ TT := tt_of 626 (by decide +kernel) rfl
theorem kt_J9_abs_0f7a4 : Cond.static yJ9_abs_0f7a4 ∈ TT := tt_of 679 (by decide +kernel) rfl
theorem kt_X10_isChance : Cond.static yX10_isChance ∈ TT := tt_of 690 (by decide +kernel) rfl
theorem kt_X0_withCat : Cond.static yX0_withCat ∈ TT := tt_of 694 (by decide +kernel) rfl
theorem kt_X0_lowest : Cond.static yX0_lowest ∈ TT := tt_of 698 (by decide +kernel) rfl
theorem kt_X10_isForm : Cond.static yX10_isForm ∈ TT := tt_of 714 (by decide +kernel) rfl
theorem kt_J9_min_7cf53 : Cond.static yJ9_min_7cf53 ∈ TT := tt_of 721 (by decide +kernel) rfl
theorem kt_X10_mix : Cond.static yX10_mix ∈ TT := tt_of 793 (by decide +kernel) rfl
theorem kt_X11_isSheet : Cond.static yX11_isSheet ∈ TT := tt_of 900 (by decide +kernel) rfl
theorem kt_X11_in : Cond.static yX11_in ∈ TT := tt_of 904 (by decide +kernel) rfl
theorem kt_X11_cut : Cond.static yX11_cut ∈ TT := tt_of 924 (by decide +kernel) rfl
theorem kt_X11_isTwo : Cond.static yX11_isTwo ∈ TT := tt_of 940 (by decide +kernel) rfl
theorem kt_X11_isSet : Cond.static yX11_isSet ∈ TT := tt_of 1000 (by decide +kernel) rfl
theorem kt_X11_isIn : Cond.static yX11_isIn ∈ TT := tt_of 1019 (by decide +kernel) rfl
theorem kt_X11_isThing : Cond.static yX11_isThing ∈ TT := tt_of 1031 (by decide +kernel) rfl
theorem kt_X11_ones : Cond.static yX11_ones ∈ TT := tt_of 1063 (by decide +kernel) rfl
theorem kt_X11_told : Cond.static yX11_told ∈ TT := tt_of 1087 (by decide +kernel) rfl
theorem kt_X11_part : Cond.static yX11_part ∈ TT := tt_of 1191 (by decide +kernel) rfl
theorem kt_X11_no : Cond.static yX11_no ∈ TT := tt_of 1194 (by decide +kernel) rfl
theorem kn_X10_init : Cond.instanceMethod yX10_init ∈ TT := tt_of 69 (by decide +kernel) rfl
theorem kn_X8_init : Cond.instanceMethod yX8_init ∈ TT := tt_of 77 (by decide +kernel) rfl
theorem kn_X3_init : Cond.instanceMethod yX3_init ∈ TT := tt_of 94 (by decide +kernel) rfl
theorem kn_X5_init : Cond.instanceMethod yX5_init ∈ TT := tt_of 97 (by decide +kernel) rfl
theorem kn_X1_init : Cond.instanceMethod yX1_init ∈ TT := tt_of 126 (by decide +kernel) rfl
theorem kn_X2_init : Cond.instanceMethod yX2_init ∈ TT := tt_of 144 (by decide +kernel) rfl
theorem kn_X9_init : Cond.instanceMethod yX9_init ∈ TT := tt_of 160 (by decide +kernel) rfl
theorem kn_X6_init : Cond.instanceMethod yX6_init ∈ TT := tt_of 188 (by decide +kernel) rfl
theorem kn_X7_init : Cond.instanceMethod yX7_init ∈ TT := tt_of 205 (by decide +kernel) rfl
theorem kn_X10_type : Cond.instanceMethod yX10_type ∈ TT := tt_of 253 (by decide +kernel) rfl
theorem kn_X10_textOf : Cond.instanceMethod yX10_textOf ∈ TT := tt_of 258 (by decide +kernel) rfl
theorem kn_X8_append : Cond.instanceMethod yX8_append ∈ TT := tt_of 264 (by decide +kernel) rfl
theorem kn_X10_readAgain : Cond.instanceMethod yX10_readAgain ∈ TT := tt_of 269 (by decide +kernel) rfl
theorem kn_X5_readFrom : Cond.instanceMethod yX5_readFrom ∈ TT := tt_of 275 (by decide +kernel) rfl
theorem kn_X8_size : Cond.instanceMethod yX8_size ∈ TT := tt_of 278 (by decide +kernel) rfl
theorem kn_X8_byteAt : Cond.instanceMethod yX8_byteAt ∈ TT := tt_of 282 (by decide +kernel) rfl
theorem kn_X1_stateBehind : Cond.instanceMethod yX1_stateBehind ∈ TT := tt_of 289 (by decide +kernel) rfl
theorem kn_X1_beginDust : Cond.instanceMethod yX1_beginDust ∈ TT := tt_of 293 (by decide +kernel) rfl
theorem kn_X5_size : Cond.instanceMethod yX5_size ∈ TT := tt_of 299 (by decide +kernel) rfl
theorem kn_X1_endDust : Cond.instanceMethod yX1_endDust ∈ TT := tt_of 306 (by decide +kernel) rfl
theorem kn_X5_addOne : Cond.instanceMethod yX5_addOne ∈ TT := tt_of 315 (by decide +kernel) rfl
theorem kn_X3_stateBehind : Cond.instanceMethod yX3_stateBehind ∈ TT := tt_of 318 (by decide +kernel) rfl
theorem kn_X3_beginLaw : Cond.instanceMethod yX3_beginLaw ∈ TT := tt_of 322 (by decide +kernel) rfl
theorem kn_X3_pairWith : Cond.instanceMethod yX3_pairWith ∈ TT := tt_of 330 (by decide +kernel) rfl
theorem kn_X3_takeSign : Cond.instanceMethod yX3_takeSign ∈ TT := tt_of 334 (by decide +kernel) rfl
theorem kn_X3_endLaw : Cond.instanceMethod yX3_endLaw ∈ TT := tt_of 338 (by decide +kernel) rfl
theorem kn_X10_wipe : Cond.instanceMethod yX10_wipe ∈ TT := tt_of 349 (by decide +kernel) rfl
theorem kn_X8_clear : Cond.instanceMethod yX8_clear ∈ TT := tt_of 353 (by decide +kernel) rfl
theorem kn_X10_undo : Cond.instanceMethod yX10_undo ∈ TT := tt_of 357 (by decide +kernel) rfl
theorem kn_X8_dropLast : Cond.instanceMethod yX8_dropLast ∈ TT := tt_of 361 (by decide +kernel) rfl
theorem kn_X10_fault : Cond.instanceMethod yX10_fault ∈ TT := tt_of 365 (by decide +kernel) rfl
theorem kn_X5_faultPlace : Cond.instanceMethod yX5_faultPlace ∈ TT := tt_of 372 (by decide +kernel) rfl
theorem kn_X10_rule : Cond.instanceMethod yX10_rule ∈ TT := tt_of 378 (by decide +kernel) rfl
theorem kn_X3_smallOf : Cond.instanceMethod yX3_smallOf ∈ TT := tt_of 383 (by decide +kernel) rfl
theorem kn_X3_isPlus : Cond.instanceMethod yX3_isPlus ∈ TT := tt_of 387 (by decide +kernel) rfl
theorem kn_X3_bigOf : Cond.instanceMethod yX3_bigOf ∈ TT := tt_of 391 (by decide +kernel) rfl
theorem kn_X10_dust : Cond.instanceMethod yX10_dust ∈ TT := tt_of 395 (by decide +kernel) rfl
theorem kn_X1_bigOf : Cond.instanceMethod yX1_bigOf ∈ TT := tt_of 403 (by decide +kernel) rfl
theorem kn_X1_smallOf : Cond.instanceMethod yX1_smallOf ∈ TT := tt_of 407 (by decide +kernel) rfl
theorem kn_X10_first : Cond.instanceMethod yX10_first ∈ TT := tt_of 411 (by decide +kernel) rfl
theorem kn_X9_firstSet : Cond.instanceMethod yX9_firstSet ∈ TT := tt_of 415 (by decide +kernel) rfl
theorem kn_X9_setFirst : Cond.instanceMethod yX9_setFirst ∈ TT := tt_of 419 (by decide +kernel) rfl
theorem kn_X10_comes : Cond.instanceMethod yX10_comes ∈ TT := tt_of 423 (by decide +kernel) rfl
theorem kn_X10_freshHouse : Cond.instanceMethod yX10_freshHouse ∈ TT := tt_of 428 (by decide +kernel) rfl
theorem kn_X2_fill : Cond.instanceMethod yX2_fill ∈ TT := tt_of 431 (by decide +kernel) rfl
theorem kn_X3_heldBy : Cond.instanceMethod yX3_heldBy ∈ TT := tt_of 435 (by decide +kernel) rfl
theorem kn_X1_laidBy : Cond.instanceMethod yX1_laidBy ∈ TT := tt_of 442 (by decide +kernel) rfl
theorem kn_X2_comesBy : Cond.instanceMethod yX2_comesBy ∈ TT := tt_of 448 (by decide +kernel) rfl
theorem kn_X10_lays : Cond.instanceMethod yX10_lays ∈ TT := tt_of 452 (by decide +kernel) rfl
theorem kn_X10_lay : Cond.instanceMethod yX10_lay ∈ TT := tt_of 457 (by decide +kernel) rfl
theorem kn_X9_addLaying : Cond.instanceMethod yX9_addLaying ∈ TT := tt_of 467 (by decide +kernel) rfl
theorem kn_X9_layings : Cond.instanceMethod yX9_layings ∈ TT := tt_of 471 (by decide +kernel) rfl
theorem kn_X10_back : Cond.instanceMethod yX10_back ∈ TT := tt_of 475 (by decide +kernel) rfl
theorem kn_X9_dropLaying : Cond.instanceMethod yX9_dropLaying ∈ TT := tt_of 479 (by decide +kernel) rfl
theorem kn_X10_week : Cond.instanceMethod yX10_week ∈ TT := tt_of 483 (by decide +kernel) rfl
theorem kn_X9_runTo : Cond.instanceMethod yX9_runTo ∈ TT := tt_of 487 (by decide +kernel) rfl
theorem kn_X2_weekBehind : Cond.instanceMethod yX2_weekBehind ∈ TT := tt_of 492 (by decide +kernel) rfl
theorem kn_X9_withLayings : Cond.instanceMethod yX9_withLayings ∈ TT := tt_of 497 (by decide +kernel) rfl
theorem kn_X9_smallIn : Cond.instanceMethod yX9_smallIn ∈ TT := tt_of 500 (by decide +kernel) rfl
theorem kn_X9_bigIn : Cond.instanceMethod yX9_bigIn ∈ TT := tt_of 504 (by decide +kernel) rfl
theorem kn_X10_judged : Cond.instanceMethod yX10_judged ∈ TT := tt_of 508 (by decide +kernel) rfl
theorem kn_X2_disagreeBy : Cond.instanceMethod yX2_disagreeBy ∈ TT := tt_of 512 (by decide +kernel) rfl
theorem kn_X10_two : Cond.instanceMethod yX10_two ∈ TT := tt_of 516 (by decide +kernel) rfl
theorem kn_X3_standsFor : Cond.instanceMethod yX3_standsFor ∈ TT := tt_of 520 (by decide +kernel) rfl
theorem kn_X10_second : Cond.instanceMethod yX10_second ∈ TT := tt_of 530 (by decide +kernel) rfl
theorem kn_X10_touch : Cond.instanceMethod yX10_touch ∈ TT := tt_of 534 (by decide +kernel) rfl
theorem kn_X10_keepOff : Cond.instanceMethod yX10_keepOff ∈ TT := tt_of 556 (by decide +kernel) rfl
theorem kn_X10_bars : Cond.instanceMethod yX10_bars ∈ TT := tt_of 566 (by decide +kernel) rfl
theorem kn_X10_play : Cond.instanceMethod yX10_play ∈ TT := tt_of 570 (by decide +kernel) rfl
theorem kn_X10_steady : Cond.instanceMethod yX10_steady ∈ TT := tt_of 583 (by decide +kernel) rfl
theorem kn_X10_round : Cond.instanceMethod yX10_round ∈ TT := tt_of 588 (by decide +kernel) rfl
theorem kn_X10_seen : Cond.instanceMethod yX10_seen ∈ TT := tt_of 602 (by decide +kernel) rfl
theorem kn_X6_addSight : Cond.instanceMethod yX6_addSight ∈ TT := tt_of 606 (by decide +kernel) rfl
theorem kn_X6_size : Cond.instanceMethod yX6_size ∈ TT := tt_of 610 (by decide +kernel) rfl
theorem kn_X10_forget : Cond.instanceMethod yX10_forget ∈ TT := tt_of 614 (by decide +kernel) rfl
theorem kn_X6_clear : Cond.instanceMethod yX6_clear ∈ TT := tt_of 618 (by decide +kernel) rfl
theorem kn_X10_read : Cond.instanceMethod yX10_read ∈ TT := tt_of 622 (by decide +kernel) rfl
theorem kn_X7_isLost : Cond.instanceMethod yX7_isLost ∈ TT := tt_of 629 (by decide +kernel) rfl
theorem kn_X10_finding : Cond.instanceMethod yX10_finding ∈ TT := tt_of 634 (by decide +kernel) rfl
theorem kn_X7_size : Cond.instanceMethod yX7_size ∈ TT := tt_of 637 (by decide +kernel) rfl
theorem kn_X7_item : Cond.instanceMethod yX7_item ∈ TT := tt_of 641 (by decide +kernel) rfl
theorem kn_X7_hasItems : Cond.instanceMethod yX7_hasItems ∈ TT := tt_of 645 (by decide +kernel) rfl
theorem kn_X10_stands : Cond.instanceMethod yX10_stands ∈ TT := tt_of 649 (by decide +kernel) rfl
theorem kn_X6_howManyStand : Cond.instanceMethod yX6_howManyStand ∈ TT := tt_of 653 (by decide +kernel) rfl
theorem kn_X6_mayStand : Cond.instanceMethod yX6_mayStand ∈ TT := tt_of 658 (by decide +kernel) rfl
theorem kn_X6_fewestStand : Cond.instanceMethod yX6_fewestStand ∈ TT := tt_of 661 (by decide +kernel) rfl
theorem kn_X10_watch : Cond.instanceMethod yX10_watch ∈ TT := tt_of 666 (by decide +kernel) rfl
theorem kn_X6_nearestHalf : Cond.instanceMethod yX6_nearestHalf ∈ TT := tt_of 670 (by decide +kernel) rfl
theorem kn_X6_howManyStandWith : Cond.instanceMethod yX6_howManyStandWith ∈ TT := tt_of 676 (by decide +kernel) rfl
theorem kn_X10_moved : Cond.instanceMethod yX10_moved ∈ TT := tt_of 682 (by decide +kernel) rfl
theorem kn_X10_cat : Cond.instanceMethod yX10_cat ∈ TT := tt_of 686 (by decide +kernel) rfl
theorem kn_X10_let : Cond.instanceMethod yX10_let ∈ TT := tt_of 701 (by decide +kernel) rfl
theorem kn_X10_lot : Cond.instanceMethod yX10_lot ∈ TT := tt_of 705 (by decide +kernel) rfl
theorem kn_X10_sheet : Cond.instanceMethod yX10_sheet ∈ TT := tt_of 710 (by decide +kernel) rfl
theorem kn_X7_begin : Cond.instanceMethod yX7_begin ∈ TT := tt_of 717 (by decide +kernel) rfl
theorem kn_X10_lose : Cond.instanceMethod yX10_lose ∈ TT := tt_of 725 (by decide +kernel) rfl
theorem kn_X7_end : Cond.instanceMethod yX7_end ∈ TT := tt_of 729 (by decide +kernel) rfl
theorem kn_X10_put : Cond.instanceMethod yX10_put ∈ TT := tt_of 733 (by decide +kernel) rfl
theorem kn_X10_itemRefusal : Cond.instanceMethod yX10_itemRefusal ∈ TT := tt_of 738 (by decide +kernel) rfl
theorem kn_X7_formOf : Cond.instanceMethod yX7_formOf ∈ TT := tt_of 741 (by decide +kernel) rfl
theorem kn_X7_setItem : Cond.instanceMethod yX7_setItem ∈ TT := tt_of 746 (by decide +kernel) rfl
theorem kn_X7_asForm : Cond.instanceMethod yX7_asForm ∈ TT := tt_of 751 (by decide +kernel) rfl
theorem kn_X10_get : Cond.instanceMethod yX10_get ∈ TT := tt_of 754 (by decide +kernel) rfl
theorem kn_X10_copy : Cond.instanceMethod yX10_copy ∈ TT := tt_of 759 (by decide +kernel) rfl
theorem kn_X7_takeFrom : Cond.instanceMethod yX7_takeFrom ∈ TT := tt_of 763 (by decide +kernel) rfl
theorem kn_X10_write : Cond.instanceMethod yX10_write ∈ TT := tt_of 770 (by decide +kernel) rfl
theorem kn_X10_count : Cond.instanceMethod yX10_count ∈ TT := tt_of 775 (by decide +kernel) rfl
theorem kn_X3_plusCount : Cond.instanceMethod yX3_plusCount ∈ TT := tt_of 779 (by decide +kernel) rfl
theorem kn_X10_digest : Cond.instanceMethod yX10_digest ∈ TT := tt_of 783 (by decide +kernel) rfl
theorem kn_X10_digestTexts : Cond.instanceMethod yX10_digestTexts ∈ TT := tt_of 789 (by decide +kernel) rfl
theorem kn_X10_digestBig : Cond.instanceMethod yX10_digestBig ∈ TT := tt_of 810 (by decide +kernel) rfl
theorem kn_X11_init : Cond.instanceMethod yX11_init ∈ TT := tt_of 822 (by decide +kernel) rfl
theorem kn_X11_sheet : Cond.instanceMethod yX11_sheet ∈ TT := tt_of 896 (by decide +kernel) rfl
theorem kn_X11_met : Cond.instanceMethod yX11_met ∈ TT := tt_of 909 (by decide +kernel) rfl
theorem kn_X11_lose : Cond.instanceMethod yX11_lose ∈ TT := tt_of 912 (by decide +kernel) rfl
theorem kn_X11_put : Cond.instanceMethod yX11_put ∈ TT := tt_of 916 (by decide +kernel) rfl
theorem kn_X11_lacks : Cond.instanceMethod yX11_lacks ∈ TT := tt_of 921 (by decide +kernel) rfl
theorem kn_X11_get : Cond.instanceMethod yX11_get ∈ TT := tt_of 927 (by decide +kernel) rfl
theorem kn_X11_copy : Cond.instanceMethod yX11_copy ∈ TT := tt_of 932 (by decide +kernel) rfl
theorem kn_X11_type : Cond.instanceMethod yX11_type ∈ TT := tt_of 936 (by decide +kernel) rfl
theorem kn_X11_wipe : Cond.instanceMethod yX11_wipe ∈ TT := tt_of 944 (by decide +kernel) rfl
theorem kn_X11_undo : Cond.instanceMethod yX11_undo ∈ TT := tt_of 948 (by decide +kernel) rfl
theorem kn_X11_fault : Cond.instanceMethod yX11_fault ∈ TT := tt_of 952 (by decide +kernel) rfl
theorem kn_X11_readsLaws : Cond.instanceMethod yX11_readsLaws ∈ TT := tt_of 957 (by decide +kernel) rfl
theorem kn_X11_readsLaw : Cond.instanceMethod yX11_readsLaw ∈ TT := tt_of 961 (by decide +kernel) rfl
theorem kn_X11_small : Cond.instanceMethod yX11_small ∈ TT := tt_of 965 (by decide +kernel) rfl
theorem kn_X11_here : Cond.instanceMethod yX11_here ∈ TT := tt_of 969 (by decide +kernel) rfl
theorem kn_X11_big : Cond.instanceMethod yX11_big ∈ TT := tt_of 975 (by decide +kernel) rfl
theorem kn_X11_readsDust : Cond.instanceMethod yX11_readsDust ∈ TT := tt_of 981 (by decide +kernel) rfl
theorem kn_X11_readsOneDust : Cond.instanceMethod yX11_readsOneDust ∈ TT := tt_of 985 (by decide +kernel) rfl
theorem kn_X11_rule : Cond.instanceMethod yX11_rule ∈ TT := tt_of 988 (by decide +kernel) rfl
theorem kn_X11_dust : Cond.instanceMethod yX11_dust ∈ TT := tt_of 992 (by decide +kernel) rfl
theorem kn_X11_first : Cond.instanceMethod yX11_first ∈ TT := tt_of 996 (by decide +kernel) rfl
theorem kn_X11_comes : Cond.instanceMethod yX11_comes ∈ TT := tt_of 1003 (by decide +kernel) rfl
theorem kn_X11_reads : Cond.instanceMethod yX11_reads ∈ TT := tt_of 1008 (by decide +kernel) rfl
theorem kn_X11_heldBy : Cond.instanceMethod yX11_heldBy ∈ TT := tt_of 1012 (by decide +kernel) rfl
theorem kn_X11_holds : Cond.instanceMethod yX11_holds ∈ TT := tt_of 1016 (by decide +kernel) rfl
theorem kn_X11_lays : Cond.instanceMethod yX11_lays ∈ TT := tt_of 1022 (by decide +kernel) rfl
theorem kn_X11_lay : Cond.instanceMethod yX11_lay ∈ TT := tt_of 1026 (by decide +kernel) rfl
theorem kn_X11_back : Cond.instanceMethod yX11_back ∈ TT := tt_of 1035 (by decide +kernel) rfl
theorem kn_X11_week : Cond.instanceMethod yX11_week ∈ TT := tt_of 1039 (by decide +kernel) rfl
theorem kn_X11_lives : Cond.instanceMethod yX11_lives ∈ TT := tt_of 1044 (by decide +kernel) rfl
theorem kn_X11_judged : Cond.instanceMethod yX11_judged ∈ TT := tt_of 1047 (by decide +kernel) rfl
theorem kn_X11_judgedNow : Cond.instanceMethod yX11_judgedNow ∈ TT := tt_of 1052 (by decide +kernel) rfl
theorem kn_X11_two : Cond.instanceMethod yX11_two ∈ TT := tt_of 1055 (by decide +kernel) rfl
theorem kn_X11_twoNow : Cond.instanceMethod yX11_twoNow ∈ TT := tt_of 1060 (by decide +kernel) rfl
theorem kn_X11_second : Cond.instanceMethod yX11_second ∈ TT := tt_of 1066 (by decide +kernel) rfl
theorem kn_X11_touch : Cond.instanceMethod yX11_touch ∈ TT := tt_of 1070 (by decide +kernel) rfl
theorem kn_X11_touchOf : Cond.instanceMethod yX11_touchOf ∈ TT := tt_of 1076 (by decide +kernel) rfl
theorem kn_X11_comeIn : Cond.instanceMethod yX11_comeIn ∈ TT := tt_of 1080 (by decide +kernel) rfl
theorem kn_X11_next : Cond.instanceMethod yX11_next ∈ TT := tt_of 1084 (by decide +kernel) rfl
theorem kn_X11_keepOff : Cond.instanceMethod yX11_keepOff ∈ TT := tt_of 1090 (by decide +kernel) rfl
theorem kn_X11_keepOffOf : Cond.instanceMethod yX11_keepOffOf ∈ TT := tt_of 1095 (by decide +kernel) rfl
theorem kn_X11_isOff : Cond.instanceMethod yX11_isOff ∈ TT := tt_of 1099 (by decide +kernel) rfl
theorem kn_X11_bars : Cond.instanceMethod yX11_bars ∈ TT := tt_of 1102 (by decide +kernel) rfl
theorem kn_X11_barsOf : Cond.instanceMethod yX11_barsOf ∈ TT := tt_of 1107 (by decide +kernel) rfl
theorem kn_X11_play : Cond.instanceMethod yX11_play ∈ TT := tt_of 1110 (by decide +kernel) rfl
theorem kn_X11_playOf : Cond.instanceMethod yX11_playOf ∈ TT := tt_of 1116 (by decide +kernel) rfl
theorem kn_X11_findWins : Cond.instanceMethod yX11_findWins ∈ TT := tt_of 1120 (by decide +kernel) rfl
theorem kn_X11_steady : Cond.instanceMethod yX11_steady ∈ TT := tt_of 1123 (by decide +kernel) rfl
theorem kn_X11_steadyOf : Cond.instanceMethod yX11_steadyOf ∈ TT := tt_of 1129 (by decide +kernel) rfl
theorem kn_X11_round : Cond.instanceMethod yX11_round ∈ TT := tt_of 1132 (by decide +kernel) rfl
theorem kn_X11_roundOf : Cond.instanceMethod yX11_roundOf ∈ TT := tt_of 1137 (by decide +kernel) rfl
theorem kn_X11_seen : Cond.instanceMethod yX11_seen ∈ TT := tt_of 1140 (by decide +kernel) rfl
theorem kn_X11_forget : Cond.instanceMethod yX11_forget ∈ TT := tt_of 1144 (by decide +kernel) rfl
theorem kn_X11_read : Cond.instanceMethod yX11_read ∈ TT := tt_of 1148 (by decide +kernel) rfl
theorem kn_X11_stands : Cond.instanceMethod yX11_stands ∈ TT := tt_of 1153 (by decide +kernel) rfl
theorem kn_X11_standsOf : Cond.instanceMethod yX11_standsOf ∈ TT := tt_of 1158 (by decide +kernel) rfl
theorem kn_X11_standsFor : Cond.instanceMethod yX11_standsFor ∈ TT := tt_of 1162 (by decide +kernel) rfl
theorem kn_X11_watch : Cond.instanceMethod yX11_watch ∈ TT := tt_of 1165 (by decide +kernel) rfl
theorem kn_X11_watchOf : Cond.instanceMethod yX11_watchOf ∈ TT := tt_of 1170 (by decide +kernel) rfl
theorem kn_X11_moved : Cond.instanceMethod yX11_moved ∈ TT := tt_of 1173 (by decide +kernel) rfl
theorem kn_X11_movedOf : Cond.instanceMethod yX11_movedOf ∈ TT := tt_of 1178 (by decide +kernel) rfl
theorem kn_X11_cat : Cond.instanceMethod yX11_cat ∈ TT := tt_of 1181 (by decide +kernel) rfl
theorem kn_X11_catBy : Cond.instanceMethod yX11_catBy ∈ TT := tt_of 1187 (by decide +kernel) rfl
theorem kn_X11_let : Cond.instanceMethod yX11_let ∈ TT := tt_of 1198 (by decide +kernel) rfl
theorem kn_X11_letOf : Cond.instanceMethod yX11_letOf ∈ TT := tt_of 1203 (by decide +kernel) rfl
theorem kn_X11_lot : Cond.instanceMethod yX11_lot ∈ TT := tt_of 1206 (by decide +kernel) rfl
theorem kn_X11_lotOf : Cond.instanceMethod yX11_lotOf ∈ TT := tt_of 1212 (by decide +kernel) rfl
theorem kn_X11_write : Cond.instanceMethod yX11_write ∈ TT := tt_of 1216 (by decide +kernel) rfl
theorem kn_X11_count : Cond.instanceMethod yX11_count ∈ TT := tt_of 1220 (by decide +kernel) rfl
theorem kn_X11_digest : Cond.instanceMethod yX11_digest ∈ TT := tt_of 1224 (by decide +kernel) rfl
theorem kn_X11_tellsBig : Cond.instanceMethod yX11_tellsBig ∈ TT := tt_of 1233 (by decide +kernel) rfl
theorem kl_RX10_X10_type : Cond.selects RX10 yX10_type yX10_type ∈ TT := tt_of 254 (by decide +kernel) rfl
theorem kl_RX8_X8_append : Cond.selects RX8 yX8_append yX8_append ∈ TT := tt_of 265 (by decide +kernel) rfl
theorem kl_RX8_X8_size : Cond.selects RX8 yX8_size yX8_size ∈ TT := tt_of 279 (by decide +kernel) rfl
theorem kl_RX8_X8_byteAt : Cond.selects RX8 yX8_byteAt yX8_byteAt ∈ TT := tt_of 283 (by decide +kernel) rfl
theorem kl_RX10_X10_wipe : Cond.selects RX10 yX10_wipe yX10_wipe ∈ TT := tt_of 350 (by decide +kernel) rfl
theorem kl_RX8_X8_clear : Cond.selects RX8 yX8_clear yX8_clear ∈ TT := tt_of 354 (by decide +kernel) rfl
theorem kl_RX10_X10_undo : Cond.selects RX10 yX10_undo yX10_undo ∈ TT := tt_of 358 (by decide +kernel) rfl
theorem kl_RX8_X8_dropLast : Cond.selects RX8 yX8_dropLast yX8_dropLast ∈ TT := tt_of 362 (by decide +kernel) rfl
theorem kl_RX10_X10_fault : Cond.selects RX10 yX10_fault yX10_fault ∈ TT := tt_of 366 (by decide +kernel) rfl
theorem kl_RX10_X10_rule : Cond.selects RX10 yX10_rule yX10_rule ∈ TT := tt_of 379 (by decide +kernel) rfl
theorem kl_RX3_X3_smallOf : Cond.selects RX3 yX3_smallOf yX3_smallOf ∈ TT := tt_of 384 (by decide +kernel) rfl
theorem kl_RX3_X3_isPlus : Cond.selects RX3 yX3_isPlus yX3_isPlus ∈ TT := tt_of 388 (by decide +kernel) rfl
theorem kl_RX3_X3_bigOf : Cond.selects RX3 yX3_bigOf yX3_bigOf ∈ TT := tt_of 392 (by decide +kernel) rfl
theorem kl_RX10_X10_dust : Cond.selects RX10 yX10_dust yX10_dust ∈ TT := tt_of 396 (by decide +kernel) rfl
theorem kl_RX1_X1_bigOf : Cond.selects RX1 yX1_bigOf yX1_bigOf ∈ TT := tt_of 404 (by decide +kernel) rfl
theorem kl_RX1_X1_smallOf : Cond.selects RX1 yX1_smallOf yX1_smallOf ∈ TT := tt_of 408 (by decide +kernel) rfl
theorem kl_RX10_X10_first : Cond.selects RX10 yX10_first yX10_first ∈ TT := tt_of 412 (by decide +kernel) rfl
theorem kl_RX9_X9_firstSet : Cond.selects RX9 yX9_firstSet yX9_firstSet ∈ TT := tt_of 416 (by decide +kernel) rfl
theorem kl_RX9_X9_setFirst : Cond.selects RX9 yX9_setFirst yX9_setFirst ∈ TT := tt_of 420 (by decide +kernel) rfl
theorem kl_RX10_X10_comes : Cond.selects RX10 yX10_comes yX10_comes ∈ TT := tt_of 424 (by decide +kernel) rfl
theorem kl_RX2_X2_fill : Cond.selects RX2 yX2_fill yX2_fill ∈ TT := tt_of 432 (by decide +kernel) rfl
theorem kl_RX3_X3_heldBy : Cond.selects RX3 yX3_heldBy yX3_heldBy ∈ TT := tt_of 436 (by decide +kernel) rfl
theorem kl_RX1_X1_laidBy : Cond.selects RX1 yX1_laidBy yX1_laidBy ∈ TT := tt_of 443 (by decide +kernel) rfl
theorem kl_RX2_X2_comesBy : Cond.selects RX2 yX2_comesBy yX2_comesBy ∈ TT := tt_of 449 (by decide +kernel) rfl
theorem kl_RX10_X10_lays : Cond.selects RX10 yX10_lays yX10_lays ∈ TT := tt_of 453 (by decide +kernel) rfl
theorem kl_RX10_X10_lay : Cond.selects RX10 yX10_lay yX10_lay ∈ TT := tt_of 458 (by decide +kernel) rfl
theorem kl_RX9_X9_addLaying : Cond.selects RX9 yX9_addLaying yX9_addLaying ∈ TT := tt_of 468 (by decide +kernel) rfl
theorem kl_RX9_X9_layings : Cond.selects RX9 yX9_layings yX9_layings ∈ TT := tt_of 472 (by decide +kernel) rfl
theorem kl_RX10_X10_back : Cond.selects RX10 yX10_back yX10_back ∈ TT := tt_of 476 (by decide +kernel) rfl
theorem kl_RX9_X9_dropLaying : Cond.selects RX9 yX9_dropLaying yX9_dropLaying ∈ TT := tt_of 480 (by decide +kernel) rfl
theorem kl_RX10_X10_week : Cond.selects RX10 yX10_week yX10_week ∈ TT := tt_of 484 (by decide +kernel) rfl
theorem kl_RX9_X9_runTo : Cond.selects RX9 yX9_runTo yX9_runTo ∈ TT := tt_of 488 (by decide +kernel) rfl
theorem kl_RX2_X2_weekBehind : Cond.selects RX2 yX2_weekBehind yX2_weekBehind ∈ TT := tt_of 493 (by decide +kernel) rfl
theorem kl_RX9_X9_smallIn : Cond.selects RX9 yX9_smallIn yX9_smallIn ∈ TT := tt_of 501 (by decide +kernel) rfl
theorem kl_RX9_X9_bigIn : Cond.selects RX9 yX9_bigIn yX9_bigIn ∈ TT := tt_of 505 (by decide +kernel) rfl
theorem kl_RX10_X10_judged : Cond.selects RX10 yX10_judged yX10_judged ∈ TT := tt_of 509 (by decide +kernel) rfl
theorem kl_RX2_X2_disagreeBy : Cond.selects RX2 yX2_disagreeBy yX2_disagreeBy ∈ TT := tt_of 513 (by decide +kernel) rfl
theorem kl_RX10_X10_two : Cond.selects RX10 yX10_two yX10_two ∈ TT := tt_of 517 (by decide +kernel) rfl
theorem kl_RX3_X3_standsFor : Cond.selects RX3 yX3_standsFor yX3_standsFor ∈ TT := tt_of 521 (by decide +kernel) rfl
theorem kl_RX10_X10_second : Cond.selects RX10 yX10_second yX10_second ∈ TT := tt_of 531 (by decide +kernel) rfl
theorem kl_RX10_X10_touch : Cond.selects RX10 yX10_touch yX10_touch ∈ TT := tt_of 535 (by decide +kernel) rfl
theorem kl_RX10_X10_keepOff : Cond.selects RX10 yX10_keepOff yX10_keepOff ∈ TT := tt_of 557 (by decide +kernel) rfl
theorem kl_RX10_X10_bars : Cond.selects RX10 yX10_bars yX10_bars ∈ TT := tt_of 567 (by decide +kernel) rfl
theorem kl_RX10_X10_play : Cond.selects RX10 yX10_play yX10_play ∈ TT := tt_of 571 (by decide +kernel) rfl
theorem kl_RX10_X10_steady : Cond.selects RX10 yX10_steady yX10_steady ∈ TT := tt_of 584 (by decide +kernel) rfl
theorem kl_RX10_X10_round : Cond.selects RX10 yX10_round yX10_round ∈ TT := tt_of 589 (by decide +kernel) rfl
theorem kl_RX10_X10_seen : Cond.selects RX10 yX10_seen yX10_seen ∈ TT := tt_of 603 (by decide +kernel) rfl
theorem kl_RX6_X6_addSight : Cond.selects RX6 yX6_addSight yX6_addSight ∈ TT := tt_of 607 (by decide +kernel) rfl
theorem kl_RX6_X6_size : Cond.selects RX6 yX6_size yX6_size ∈ TT := tt_of 611 (by decide +kernel) rfl
theorem kl_RX10_X10_forget : Cond.selects RX10 yX10_forget yX10_forget ∈ TT := tt_of 615 (by decide +kernel) rfl
theorem kl_RX6_X6_clear : Cond.selects RX6 yX6_clear yX6_clear ∈ TT := tt_of 619 (by decide +kernel) rfl
theorem kl_RX10_X10_read : Cond.selects RX10 yX10_read yX10_read ∈ TT := tt_of 623 (by decide +kernel) rfl
theorem kl_RX7_X7_isLost : Cond.selects RX7 yX7_isLost yX7_isLost ∈ TT := tt_of 630 (by decide +kernel) rfl
theorem kl_RX7_X7_size : Cond.selects RX7 yX7_size yX7_size ∈ TT := tt_of 638 (by decide +kernel) rfl
theorem kl_RX7_X7_item : Cond.selects RX7 yX7_item yX7_item ∈ TT := tt_of 642 (by decide +kernel) rfl
theorem kl_RX7_X7_hasItems : Cond.selects RX7 yX7_hasItems yX7_hasItems ∈ TT := tt_of 646 (by decide +kernel) rfl
theorem kl_RX10_X10_stands : Cond.selects RX10 yX10_stands yX10_stands ∈ TT := tt_of 650 (by decide +kernel) rfl
theorem kl_RX6_X6_howManyStand : Cond.selects RX6 yX6_howManyStand yX6_howManyStand ∈ TT := tt_of 654 (by decide +kernel) rfl
theorem kl_RX6_X6_fewestStand : Cond.selects RX6 yX6_fewestStand yX6_fewestStand ∈ TT := tt_of 662 (by decide +kernel) rfl
theorem kl_RX10_X10_watch : Cond.selects RX10 yX10_watch yX10_watch ∈ TT := tt_of 667 (by decide +kernel) rfl
theorem kl_RX6_X6_nearestHalf : Cond.selects RX6 yX6_nearestHalf yX6_nearestHalf ∈ TT := tt_of 671 (by decide +kernel) rfl
theorem kl_RX10_X10_moved : Cond.selects RX10 yX10_moved yX10_moved ∈ TT := tt_of 683 (by decide +kernel) rfl
theorem kl_RX10_X10_cat : Cond.selects RX10 yX10_cat yX10_cat ∈ TT := tt_of 687 (by decide +kernel) rfl
theorem kl_RX10_X10_let : Cond.selects RX10 yX10_let yX10_let ∈ TT := tt_of 702 (by decide +kernel) rfl
theorem kl_RX10_X10_lot : Cond.selects RX10 yX10_lot yX10_lot ∈ TT := tt_of 706 (by decide +kernel) rfl
theorem kl_RX10_X10_sheet : Cond.selects RX10 yX10_sheet yX10_sheet ∈ TT := tt_of 711 (by decide +kernel) rfl
theorem kl_RX7_X7_begin : Cond.selects RX7 yX7_begin yX7_begin ∈ TT := tt_of 718 (by decide +kernel) rfl
theorem kl_RX10_X10_lose : Cond.selects RX10 yX10_lose yX10_lose ∈ TT := tt_of 726 (by decide +kernel) rfl
theorem kl_RX7_X7_end : Cond.selects RX7 yX7_end yX7_end ∈ TT := tt_of 730 (by decide +kernel) rfl
theorem kl_RX10_X10_put : Cond.selects RX10 yX10_put yX10_put ∈ TT := tt_of 734 (by decide +kernel) rfl
theorem kl_RX7_X7_formOf : Cond.selects RX7 yX7_formOf yX7_formOf ∈ TT := tt_of 742 (by decide +kernel) rfl
theorem kl_RX7_X7_setItem : Cond.selects RX7 yX7_setItem yX7_setItem ∈ TT := tt_of 747 (by decide +kernel) rfl
theorem kl_RX10_X10_get : Cond.selects RX10 yX10_get yX10_get ∈ TT := tt_of 755 (by decide +kernel) rfl
theorem kl_RX10_X10_copy : Cond.selects RX10 yX10_copy yX10_copy ∈ TT := tt_of 760 (by decide +kernel) rfl
theorem kl_RX7_X7_takeFrom : Cond.selects RX7 yX7_takeFrom yX7_takeFrom ∈ TT := tt_of 764 (by decide +kernel) rfl
theorem kl_RX10_X10_write : Cond.selects RX10 yX10_write yX10_write ∈ TT := tt_of 771 (by decide +kernel) rfl
theorem kl_RX10_X10_count : Cond.selects RX10 yX10_count yX10_count ∈ TT := tt_of 776 (by decide +kernel) rfl
theorem kl_RX3_X3_plusCount : Cond.selects RX3 yX3_plusCount yX3_plusCount ∈ TT := tt_of 780 (by decide +kernel) rfl
theorem kl_RX10_X10_digest : Cond.selects RX10 yX10_digest yX10_digest ∈ TT := tt_of 784 (by decide +kernel) rfl
theorem kl_RX11_X11_sheet : Cond.selects RX11 yX11_sheet yX11_sheet ∈ TT := tt_of 897 (by decide +kernel) rfl
theorem kl_RX11_X11_lose : Cond.selects RX11 yX11_lose yX11_lose ∈ TT := tt_of 913 (by decide +kernel) rfl
theorem kl_RX11_X11_put : Cond.selects RX11 yX11_put yX11_put ∈ TT := tt_of 917 (by decide +kernel) rfl
theorem kl_RX11_X11_get : Cond.selects RX11 yX11_get yX11_get ∈ TT := tt_of 928 (by decide +kernel) rfl
theorem kl_RX11_X11_copy : Cond.selects RX11 yX11_copy yX11_copy ∈ TT := tt_of 933 (by decide +kernel) rfl
theorem kl_RX11_X11_type : Cond.selects RX11 yX11_type yX11_type ∈ TT := tt_of 937 (by decide +kernel) rfl
theorem kl_RX11_X11_wipe : Cond.selects RX11 yX11_wipe yX11_wipe ∈ TT := tt_of 945 (by decide +kernel) rfl
theorem kl_RX11_X11_undo : Cond.selects RX11 yX11_undo yX11_undo ∈ TT := tt_of 949 (by decide +kernel) rfl
theorem kl_RX11_X11_fault : Cond.selects RX11 yX11_fault yX11_fault ∈ TT := tt_of 953 (by decide +kernel) rfl
theorem kl_RX11_X11_rule : Cond.selects RX11 yX11_rule yX11_rule ∈ TT := tt_of 989 (by decide +kernel) rfl
theorem kl_RX11_X11_dust : Cond.selects RX11 yX11_dust yX11_dust ∈ TT := tt_of 993 (by decide +kernel) rfl
theorem kl_RX11_X11_first : Cond.selects RX11 yX11_first yX11_first ∈ TT := tt_of 997 (by decide +kernel) rfl
theorem kl_RX11_X11_comes : Cond.selects RX11 yX11_comes yX11_comes ∈ TT := tt_of 1004 (by decide +kernel) rfl
theorem kl_RX11_X11_lays : Cond.selects RX11 yX11_lays yX11_lays ∈ TT := tt_of 1023 (by decide +kernel) rfl
theorem kl_RX11_X11_lay : Cond.selects RX11 yX11_lay yX11_lay ∈ TT := tt_of 1027 (by decide +kernel) rfl
theorem kl_RX11_X11_back : Cond.selects RX11 yX11_back yX11_back ∈ TT := tt_of 1036 (by decide +kernel) rfl
theorem kl_RX11_X11_week : Cond.selects RX11 yX11_week yX11_week ∈ TT := tt_of 1040 (by decide +kernel) rfl
theorem kl_RX11_X11_judged : Cond.selects RX11 yX11_judged yX11_judged ∈ TT := tt_of 1048 (by decide +kernel) rfl
theorem kl_RX11_X11_two : Cond.selects RX11 yX11_two yX11_two ∈ TT := tt_of 1056 (by decide +kernel) rfl
theorem kl_RX11_X11_second : Cond.selects RX11 yX11_second yX11_second ∈ TT := tt_of 1067 (by decide +kernel) rfl
theorem kl_RX11_X11_touch : Cond.selects RX11 yX11_touch yX11_touch ∈ TT := tt_of 1071 (by decide +kernel) rfl
theorem kl_RX11_X11_keepOff : Cond.selects RX11 yX11_keepOff yX11_keepOff ∈ TT := tt_of 1091 (by decide +kernel) rfl
theorem kl_RX11_X11_bars : Cond.selects RX11 yX11_bars yX11_bars ∈ TT := tt_of 1103 (by decide +kernel) rfl
theorem kl_RX11_X11_play : Cond.selects RX11 yX11_play yX11_play ∈ TT := tt_of 1111 (by decide +kernel) rfl
theorem kl_RX11_X11_steady : Cond.selects RX11 yX11_steady yX11_steady ∈ TT := tt_of 1124 (by decide +kernel) rfl
theorem kl_RX11_X11_round : Cond.selects RX11 yX11_round yX11_round ∈ TT := tt_of 1133 (by decide +kernel) rfl
theorem kl_RX11_X11_seen : Cond.selects RX11 yX11_seen yX11_seen ∈ TT := tt_of 1141 (by decide +kernel) rfl
theorem kl_RX11_X11_forget : Cond.selects RX11 yX11_forget yX11_forget ∈ TT := tt_of 1145 (by decide +kernel) rfl
theorem kl_RX11_X11_read : Cond.selects RX11 yX11_read yX11_read ∈ TT := tt_of 1149 (by decide +kernel) rfl
theorem kl_RX11_X11_stands : Cond.selects RX11 yX11_stands yX11_stands ∈ TT := tt_of 1154 (by decide +kernel) rfl
theorem kl_RX11_X11_watch : Cond.selects RX11 yX11_watch yX11_watch ∈ TT := tt_of 1166 (by decide +kernel) rfl
theorem kl_RX11_X11_moved : Cond.selects RX11 yX11_moved yX11_moved ∈ TT := tt_of 1174 (by decide +kernel) rfl
theorem kl_RX11_X11_cat : Cond.selects RX11 yX11_cat yX11_cat ∈ TT := tt_of 1182 (by decide +kernel) rfl
theorem kl_RX11_X11_let : Cond.selects RX11 yX11_let yX11_let ∈ TT := tt_of 1199 (by decide +kernel) rfl
theorem kl_RX11_X11_lot : Cond.selects RX11 yX11_lot yX11_lot ∈ TT := tt_of 1207 (by decide +kernel) rfl
theorem kl_RX11_X11_write : Cond.selects RX11 yX11_write yX11_write ∈ TT := tt_of 1217 (by decide +kernel) rfl
theorem kl_RX11_X11_count : Cond.selects RX11 yX11_count yX11_count ∈ TT := tt_of 1221 (by decide +kernel) rfl
theorem kl_RX11_X11_digest : Cond.selects RX11 yX11_digest yX11_digest ∈ TT := tt_of 1225 (by decide +kernel) rfl
theorem kl_RX10_X10_textOf : Cond.selects RX10 yX10_textOf yX10_textOf ∈ TT := tt_of 0 (by decide +kernel) rfl
theorem kl_RX10_X10_readAgain : Cond.selects RX10 yX10_readAgain yX10_readAgain ∈ TT := tt_of 1 (by decide +kernel) rfl
theorem kl_RX1_X1_beginDust : Cond.selects RX1 yX1_beginDust yX1_beginDust ∈ TT := tt_of 2 (by decide +kernel) rfl
theorem kl_RX1_X1_endDust : Cond.selects RX1 yX1_endDust yX1_endDust ∈ TT := tt_of 3 (by decide +kernel) rfl
theorem kl_RX3_X3_beginLaw : Cond.selects RX3 yX3_beginLaw yX3_beginLaw ∈ TT := tt_of 4 (by decide +kernel) rfl
theorem kl_RX3_X3_pairWith : Cond.selects RX3 yX3_pairWith yX3_pairWith ∈ TT := tt_of 5 (by decide +kernel) rfl
theorem kl_RX3_X3_takeSign : Cond.selects RX3 yX3_takeSign yX3_takeSign ∈ TT := tt_of 6 (by decide +kernel) rfl
theorem kl_RX3_X3_endLaw : Cond.selects RX3 yX3_endLaw yX3_endLaw ∈ TT := tt_of 7 (by decide +kernel) rfl
theorem kl_RX10_X10_freshHouse : Cond.selects RX10 yX10_freshHouse yX10_freshHouse ∈ TT := tt_of 8 (by decide +kernel) rfl
theorem kl_RX9_X9_withLayings : Cond.selects RX9 yX9_withLayings yX9_withLayings ∈ TT := tt_of 9 (by decide +kernel) rfl
theorem kl_RX10_X10_finding : Cond.selects RX10 yX10_finding yX10_finding ∈ TT := tt_of 10 (by decide +kernel) rfl
theorem kl_RX6_X6_mayStand : Cond.selects RX6 yX6_mayStand yX6_mayStand ∈ TT := tt_of 11 (by decide +kernel) rfl
theorem kl_RX6_X6_howManyStandWith : Cond.selects RX6 yX6_howManyStandWith yX6_howManyStandWith ∈ TT := tt_of 12 (by decide +kernel) rfl
theorem kl_RX10_X10_itemRefusal : Cond.selects RX10 yX10_itemRefusal yX10_itemRefusal ∈ TT := tt_of 13 (by decide +kernel) rfl
theorem kl_RX7_X7_asForm : Cond.selects RX7 yX7_asForm yX7_asForm ∈ TT := tt_of 14 (by decide +kernel) rfl
theorem kl_RX10_X10_digestTexts : Cond.selects RX10 yX10_digestTexts yX10_digestTexts ∈ TT := tt_of 15 (by decide +kernel) rfl
theorem kl_RX10_X10_digestBig : Cond.selects RX10 yX10_digestBig yX10_digestBig ∈ TT := tt_of 16 (by decide +kernel) rfl
theorem kl_RX11_X11_met : Cond.selects RX11 yX11_met yX11_met ∈ TT := tt_of 17 (by decide +kernel) rfl
theorem kl_RX11_X11_lacks : Cond.selects RX11 yX11_lacks yX11_lacks ∈ TT := tt_of 18 (by decide +kernel) rfl
theorem kl_RX11_X11_readsLaws : Cond.selects RX11 yX11_readsLaws yX11_readsLaws ∈ TT := tt_of 19 (by decide +kernel) rfl
theorem kl_RX11_X11_readsLaw : Cond.selects RX11 yX11_readsLaw yX11_readsLaw ∈ TT := tt_of 20 (by decide +kernel) rfl
theorem kl_RX11_X11_small : Cond.selects RX11 yX11_small yX11_small ∈ TT := tt_of 21 (by decide +kernel) rfl
theorem kl_RX11_X11_here : Cond.selects RX11 yX11_here yX11_here ∈ TT := tt_of 22 (by decide +kernel) rfl
theorem kl_RX11_X11_big : Cond.selects RX11 yX11_big yX11_big ∈ TT := tt_of 23 (by decide +kernel) rfl
theorem kl_RX11_X11_readsDust : Cond.selects RX11 yX11_readsDust yX11_readsDust ∈ TT := tt_of 24 (by decide +kernel) rfl
theorem kl_RX11_X11_readsOneDust : Cond.selects RX11 yX11_readsOneDust yX11_readsOneDust ∈ TT := tt_of 25 (by decide +kernel) rfl
theorem kl_RX11_X11_reads : Cond.selects RX11 yX11_reads yX11_reads ∈ TT := tt_of 26 (by decide +kernel) rfl
theorem kl_RX11_X11_heldBy : Cond.selects RX11 yX11_heldBy yX11_heldBy ∈ TT := tt_of 27 (by decide +kernel) rfl
theorem kl_RX11_X11_holds : Cond.selects RX11 yX11_holds yX11_holds ∈ TT := tt_of 28 (by decide +kernel) rfl
theorem kl_RX11_X11_lives : Cond.selects RX11 yX11_lives yX11_lives ∈ TT := tt_of 29 (by decide +kernel) rfl
theorem kl_RX11_X11_judgedNow : Cond.selects RX11 yX11_judgedNow yX11_judgedNow ∈ TT := tt_of 30 (by decide +kernel) rfl
theorem kl_RX11_X11_twoNow : Cond.selects RX11 yX11_twoNow yX11_twoNow ∈ TT := tt_of 31 (by decide +kernel) rfl
theorem kl_RX11_X11_touchOf : Cond.selects RX11 yX11_touchOf yX11_touchOf ∈ TT := tt_of 32 (by decide +kernel) rfl
theorem kl_RX11_X11_comeIn : Cond.selects RX11 yX11_comeIn yX11_comeIn ∈ TT := tt_of 33 (by decide +kernel) rfl
theorem kl_RX11_X11_next : Cond.selects RX11 yX11_next yX11_next ∈ TT := tt_of 34 (by decide +kernel) rfl
theorem kl_RX11_X11_keepOffOf : Cond.selects RX11 yX11_keepOffOf yX11_keepOffOf ∈ TT := tt_of 35 (by decide +kernel) rfl
theorem kl_RX11_X11_isOff : Cond.selects RX11 yX11_isOff yX11_isOff ∈ TT := tt_of 36 (by decide +kernel) rfl
theorem kl_RX11_X11_barsOf : Cond.selects RX11 yX11_barsOf yX11_barsOf ∈ TT := tt_of 37 (by decide +kernel) rfl
theorem kl_RX11_X11_playOf : Cond.selects RX11 yX11_playOf yX11_playOf ∈ TT := tt_of 38 (by decide +kernel) rfl
theorem kl_RX11_X11_findWins : Cond.selects RX11 yX11_findWins yX11_findWins ∈ TT := tt_of 39 (by decide +kernel) rfl
theorem kl_RX11_X11_steadyOf : Cond.selects RX11 yX11_steadyOf yX11_steadyOf ∈ TT := tt_of 40 (by decide +kernel) rfl
theorem kl_RX11_X11_roundOf : Cond.selects RX11 yX11_roundOf yX11_roundOf ∈ TT := tt_of 41 (by decide +kernel) rfl
theorem kl_RX11_X11_standsOf : Cond.selects RX11 yX11_standsOf yX11_standsOf ∈ TT := tt_of 42 (by decide +kernel) rfl
theorem kl_RX11_X11_standsFor : Cond.selects RX11 yX11_standsFor yX11_standsFor ∈ TT := tt_of 43 (by decide +kernel) rfl
theorem kl_RX11_X11_watchOf : Cond.selects RX11 yX11_watchOf yX11_watchOf ∈ TT := tt_of 44 (by decide +kernel) rfl
theorem kl_RX11_X11_movedOf : Cond.selects RX11 yX11_movedOf yX11_movedOf ∈ TT := tt_of 45 (by decide +kernel) rfl
theorem kl_RX11_X11_catBy : Cond.selects RX11 yX11_catBy yX11_catBy ∈ TT := tt_of 46 (by decide +kernel) rfl
theorem kl_RX11_X11_letOf : Cond.selects RX11 yX11_letOf yX11_letOf ∈ TT := tt_of 47 (by decide +kernel) rfl
theorem kl_RX11_X11_lotOf : Cond.selects RX11 yX11_lotOf yX11_lotOf ∈ TT := tt_of 48 (by decide +kernel) rfl
theorem kl_RX11_X11_tellsBig : Cond.selects RX11 yX11_tellsBig yX11_tellsBig ∈ TT := tt_of 49 (by decide +kernel) rfl
theorem kV_RX10_71 : kV RX10 71 RX10 yX10_textOf cX10_textOf 2 (some (.object "SmallFirst$Text")) 1 := ⟨kc_X10_textOf, (tt_of 256 (by decide +kernel) rfl), kn_X10_textOf, kl_RX10_X10_textOf, ki_RX10, ⟨by decide, by decide, by decide +kernel⟩, by decide⟩
theorem kS_RX10_75 : kS RX10 75 yX10_isBits cX10_isBits 1 (some .boolean) 1 := ⟨kc_X10_isBits, (tt_of 260 (by decide +kernel) rfl), kt_X10_isBits, ki_RX10, ⟨by decide, by decide, by decide +kernel⟩, by decide⟩
theorem kV_RX10_79 : kV RX10 79 RX8 yX8_append cX8_append 2 (some .boolean) 1 := ⟨kc_X8_append, (tt_of 263 (by decide +kernel) rfl), kn_X8_append, kl_RX8_X8_append, ki_RX8, ⟨by decide, by decide, by decide +kernel⟩, by decide⟩
theorem kV_RX10_82 : kV RX10 82 RX10 yX10_readAgain cX10_readAgain 2 none 1 := ⟨kc_X10_readAgain, (tt_of 267 (by decide +kernel) rfl), kn_X10_readAgain, kl_RX10_X10_readAgain, ki_RX10, ⟨by decide, by decide, by decide +kernel⟩, by decide⟩
theorem kV_RX10_85 : kV RX10 85 RX8 yX8_size cX8_size 1 (some .int) 0 := ⟨kc_X8_size, (tt_of 347 (by decide +kernel) rfl), kn_X8_size, kl_RX8_X8_size, ki_RX8, ⟨by decide, by decide, by decide +kernel⟩, by decide⟩
theorem kV_RX10_89 : kV RX10 89 RX8 yX8_clear cX8_clear 1 none 0 := ⟨kc_X8_clear, (tt_of 352 (by decide +kernel) rfl), kn_X8_clear, kl_RX8_X8_clear, ki_RX8, ⟨by decide, by decide, by decide +kernel⟩, by decide⟩
theorem kV_RX10_92 : kV RX10 92 RX8 yX8_dropLast cX8_dropLast 1 (some .boolean) 0 := ⟨kc_X8_dropLast, (tt_of 360 (by decide +kernel) rfl), kn_X8_dropLast, kl_RX8_X8_dropLast, ki_RX8, ⟨by decide, by decide, by decide +kernel⟩, by decide⟩
theorem kU_RX10_96_RX3 : kU RX10 96 RX3 RX5 ⟨RX3, "faultPlace", "()I"⟩ yX5_faultPlace cX5_faultPlace 1 (some .int) 0 := ⟨kc_X5_faultPlace, (tt_of 368 (by decide +kernel) rfl), (tt_of 369 (by decide +kernel) rfl), (tt_of 371 (by decide +kernel) rfl), kn_X5_faultPlace, ki_RX5, by decide, by decide, by decide, by decide +kernel⟩
theorem kU_RX10_99_RX1 : kU RX10 99 RX1 RX5 ⟨RX1, "faultPlace", "()I"⟩ yX5_faultPlace cX5_faultPlace 1 (some .int) 0 := ⟨kc_X5_faultPlace, (tt_of 374 (by decide +kernel) rfl), (tt_of 375 (by decide +kernel) rfl), (tt_of 376 (by decide +kernel) rfl), kn_X5_faultPlace, ki_RX5, by decide, by decide, by decide, by decide +kernel⟩
theorem kU_RX10_100_RX3 : kU RX10 100 RX3 RX5 ⟨RX3, "size", "()I"⟩ yX5_size cX5_size 1 (some .int) 0 := ⟨kc_X5_size, (tt_of 381 (by decide +kernel) rfl), (tt_of 325 (by decide +kernel) rfl), (tt_of 326 (by decide +kernel) rfl), kn_X5_size, ki_RX5, by decide, by decide, by decide, by decide +kernel⟩
theorem kV_RX10_101 : kV RX10 101 RX3 yX3_smallOf cX3_smallOf 2 (some .int) 1 := ⟨kc_X3_smallOf, (tt_of 382 (by decide +kernel) rfl), kn_X3_smallOf, kl_RX3_X3_smallOf, ki_RX3, ⟨by decide, by decide, by decide +kernel⟩, by decide⟩
theorem kV_RX10_105 : kV RX10 105 RX3 yX3_isPlus cX3_isPlus 2 (some .boolean) 1 := ⟨kc_X3_isPlus, (tt_of 386 (by decide +kernel) rfl), kn_X3_isPlus, kl_RX3_X3_isPlus, ki_RX3, ⟨by decide, by decide, by decide +kernel⟩, by decide⟩
theorem kV_RX10_108 : kV RX10 108 RX3 yX3_bigOf cX3_bigOf 2 (some .int) 1 := ⟨kc_X3_bigOf, (tt_of 390 (by decide +kernel) rfl), kn_X3_bigOf, kl_RX3_X3_bigOf, ki_RX3, ⟨by decide, by decide, by decide +kernel⟩, by decide⟩
theorem kU_RX10_111_RX1 : kU RX10 111 RX1 RX5 ⟨RX1, "size", "()I"⟩ yX5_size cX5_size 1 (some .int) 0 := ⟨kc_X5_size, (tt_of 398 (by decide +kernel) rfl), (tt_of 296 (by decide +kernel) rfl), (tt_of 298 (by decide +kernel) rfl), kn_X5_size, ki_RX5, by decide, by decide, by decide, by decide +kernel⟩
theorem kS_RX10_112 : kS RX10 112 yX10_isEither cX10_isEither 1 (some .boolean) 1 := ⟨kc_X10_isEither, (tt_of 399 (by decide +kernel) rfl), kt_X10_isEither, ki_RX10, ⟨by decide, by decide, by decide +kernel⟩, by decide⟩
theorem kV_RX10_115 : kV RX10 115 RX1 yX1_bigOf cX1_bigOf 2 (some .int) 1 := ⟨kc_X1_bigOf, (tt_of 402 (by decide +kernel) rfl), kn_X1_bigOf, kl_RX1_X1_bigOf, ki_RX1, ⟨by decide, by decide, by decide +kernel⟩, by decide⟩
theorem kV_RX10_116 : kV RX10 116 RX1 yX1_smallOf cX1_smallOf 2 (some .int) 1 := ⟨kc_X1_smallOf, (tt_of 406 (by decide +kernel) rfl), kn_X1_smallOf, kl_RX1_X1_smallOf, ki_RX1, ⟨by decide, by decide, by decide +kernel⟩, by decide⟩
theorem kV_RX10_117 : kV RX10 117 RX9 yX9_firstSet cX9_firstSet 1 (some .int) 0 := ⟨kc_X9_firstSet, (tt_of 414 (by decide +kernel) rfl), kn_X9_firstSet, kl_RX9_X9_firstSet, ki_RX9, ⟨by decide, by decide, by decide +kernel⟩, by decide⟩
theorem kV_RX10_120 : kV RX10 120 RX9 yX9_setFirst cX9_setFirst 2 none 1 := ⟨kc_X9_setFirst, (tt_of 418 (by decide +kernel) rfl), kn_X9_setFirst, kl_RX9_X9_setFirst, ki_RX9, ⟨by decide, by decide, by decide +kernel⟩, by decide⟩
theorem kV_RX10_123 : kV RX10 123 RX10 yX10_freshHouse cX10_freshHouse 1 (some (.object "SmallFirst$House")) 0 := ⟨kc_X10_freshHouse, (tt_of 426 (by decide +kernel) rfl), kn_X10_freshHouse, kl_RX10_X10_freshHouse, ki_RX10, ⟨by decide, by decide, by decide +kernel⟩, by decide⟩
theorem kV_RX10_127 : kV RX10 127 RX2 yX2_comesBy cX2_comesBy 2 (some .int) 1 := ⟨kc_X2_comesBy, (tt_of 447 (by decide +kernel) rfl), kn_X2_comesBy, kl_RX2_X2_comesBy, ki_RX2, ⟨by decide, by decide, by decide +kernel⟩, by decide⟩
theorem kV_RX10_130 : kV RX10 130 RX1 yX1_laidBy cX1_laidBy 4 (some .int) 1 := ⟨kc_X1_laidBy, (tt_of 455 (by decide +kernel) rfl), kn_X1_laidBy, kl_RX1_X1_laidBy, ki_RX1, ⟨by decide, by decide, by decide +kernel⟩, by decide⟩
theorem kS_RX10_133 : kS RX10 133 yX10_isWeek cX10_isWeek 1 (some .boolean) 1 := ⟨kc_X10_isWeek, (tt_of 460 (by decide +kernel) rfl), kt_X10_isWeek, ki_RX10, ⟨by decide, by decide, by decide +kernel⟩, by decide⟩
theorem kS_RX10_136 : kS RX10 136 yX10_isThing cX10_isThing 1 (some .boolean) 1 := ⟨kc_X10_isThing, (tt_of 463 (by decide +kernel) rfl), kt_X10_isThing, ki_RX10, ⟨by decide, by decide, by decide +kernel⟩, by decide⟩
theorem kV_RX10_139 : kV RX10 139 RX9 yX9_addLaying cX9_addLaying 4 (some .boolean) 3 := ⟨kc_X9_addLaying, (tt_of 466 (by decide +kernel) rfl), kn_X9_addLaying, kl_RX9_X9_addLaying, ki_RX9, ⟨by decide, by decide, by decide +kernel⟩, by decide⟩
theorem kV_RX10_143 : kV RX10 143 RX9 yX9_layings cX9_layings 1 (some .int) 0 := ⟨kc_X9_layings, (tt_of 470 (by decide +kernel) rfl), kn_X9_layings, kl_RX9_X9_layings, ki_RX9, ⟨by decide, by decide, by decide +kernel⟩, by decide⟩
theorem kV_RX10_146 : kV RX10 146 RX9 yX9_dropLaying cX9_dropLaying 1 (some .boolean) 0 := ⟨kc_X9_dropLaying, (tt_of 478 (by decide +kernel) rfl), kn_X9_dropLaying, kl_RX9_X9_dropLaying, ki_RX9, ⟨by decide, by decide, by decide +kernel⟩, by decide⟩
theorem kV_RX10_149 : kV RX10 149 RX9 yX9_runTo cX9_runTo 6 none 2 := ⟨kc_X9_runTo, (tt_of 486 (by decide +kernel) rfl), kn_X9_runTo, kl_RX9_X9_runTo, ki_RX9, ⟨by decide, by decide, by decide +kernel⟩, by decide⟩
theorem kV_RX10_153 : kV RX10 153 RX9 yX9_smallIn cX9_smallIn 2 (some .int) 1 := ⟨kc_X9_smallIn, (tt_of 499 (by decide +kernel) rfl), kn_X9_smallIn, kl_RX9_X9_smallIn, ki_RX9, ⟨by decide, by decide, by decide +kernel⟩, by decide⟩
theorem kV_RX10_156 : kV RX10 156 RX9 yX9_bigIn cX9_bigIn 2 (some .int) 1 := ⟨kc_X9_bigIn, (tt_of 503 (by decide +kernel) rfl), kn_X9_bigIn, kl_RX9_X9_bigIn, ki_RX9, ⟨by decide, by decide, by decide +kernel⟩, by decide⟩
theorem kV_RX10_159 : kV RX10 159 RX2 yX2_disagreeBy cX2_disagreeBy 2 (some .int) 1 := ⟨kc_X2_disagreeBy, (tt_of 511 (by decide +kernel) rfl), kn_X2_disagreeBy, kl_RX2_X2_disagreeBy, ki_RX2, ⟨by decide, by decide, by decide +kernel⟩, by decide⟩
theorem kV_RX10_162 : kV RX10 162 RX3 yX3_standsFor cX3_standsFor 4 (some .int) 1 := ⟨kc_X3_standsFor, (tt_of 519 (by decide +kernel) rfl), kn_X3_standsFor, kl_RX3_X3_standsFor, ki_RX3, ⟨by decide, by decide, by decide +kernel⟩, by decide⟩
theorem kS_RX10_165 : kS RX10 165 yJ6_bitCount_0f7a4 cJ6_bitCount_0f7a4 1 (some .int) 1 := ⟨kc_J6_bitCount_0f7a4, (tt_of 523 (by decide +kernel) rfl), kt_J6_bitCount_0f7a4, ki_RJ6, ⟨by decide, by decide, by decide +kernel⟩, by decide⟩
theorem kS_RX10_170 : kS RX10 170 yX10_isSpan cX10_isSpan 1 (some .boolean) 1 := ⟨kc_X10_isSpan, (tt_of 537 (by decide +kernel) rfl), kt_X10_isSpan, ki_RX10, ⟨by decide, by decide, by decide +kernel⟩, by decide⟩
theorem kS_RX10_173 : kS RX10 173 yX4_fewestTouched cX4_fewestTouched 8 (some .int) 5 := ⟨kc_X4_fewestTouched, (tt_of 540 (by decide +kernel) rfl), kt_X4_fewestTouched, ki_RX4, ⟨by decide, by decide, by decide +kernel⟩, by decide⟩
theorem kS_RX10_179 : kS RX10 179 yX10_numberOrBits cX10_numberOrBits 2 (some .int) 2 := ⟨kc_X10_numberOrBits, (tt_of 552 (by decide +kernel) rfl), kt_X10_numberOrBits, ki_RX10, ⟨by decide, by decide, by decide +kernel⟩, by decide⟩
theorem kS_RX10_183 : kS RX10 183 yX4_fewestSwept cX4_fewestSwept 7 (some .int) 4 := ⟨kc_X4_fewestSwept, (tt_of 559 (by decide +kernel) rfl), kt_X4_fewestSwept, ki_RX4, ⟨by decide, by decide, by decide +kernel⟩, by decide⟩
theorem kS_RX10_187 : kS RX10 187 yX4_endsInComing cX4_endsInComing 4 (some .boolean) 4 := ⟨kc_X4_endsInComing, (tt_of 573 (by decide +kernel) rfl), kt_X4_endsInComing, ki_RX4, ⟨by decide, by decide, by decide +kernel⟩, by decide⟩
theorem kS_RX10_191 : kS RX10 191 yX4_firstTouch cX4_firstTouch 5 (some .int) 4 := ⟨kc_X4_firstTouch, (tt_of 579 (by decide +kernel) rfl), kt_X4_firstTouch, ki_RX4, ⟨by decide, by decide, by decide +kernel⟩, by decide⟩
theorem kV_RX10_194 : kV RX10 194 RX2 yX2_weekBehind cX2_weekBehind 2 (some .int) 1 := ⟨kc_X2_weekBehind, (tt_of 586 (by decide +kernel) rfl), kn_X2_weekBehind, kl_RX2_X2_weekBehind, ki_RX2, ⟨by decide, by decide, by decide +kernel⟩, by decide⟩
theorem kS_RX10_197 : kS RX10 197 yX4_weeksToRepeat cX4_weeksToRepeat 4 (some .int) 2 := ⟨kc_X4_weeksToRepeat, (tt_of 591 (by decide +kernel) rfl), kt_X4_weeksToRepeat, ki_RX4, ⟨by decide, by decide, by decide +kernel⟩, by decide⟩
theorem kS_RX10_201 : kS RX10 201 yX4_roundLength cX4_roundLength 5 (some .int) 2 := ⟨kc_X4_roundLength, (tt_of 597 (by decide +kernel) rfl), kt_X4_roundLength, ki_RX4, ⟨by decide, by decide, by decide +kernel⟩, by decide⟩
theorem kV_RX10_204 : kV RX10 204 RX6 yX6_addSight cX6_addSight 3 (some .boolean) 2 := ⟨kc_X6_addSight, (tt_of 605 (by decide +kernel) rfl), kn_X6_addSight, kl_RX6_X6_addSight, ki_RX6, ⟨by decide, by decide, by decide +kernel⟩, by decide⟩
theorem kV_RX10_208 : kV RX10 208 RX6 yX6_size cX6_size 1 (some .int) 0 := ⟨kc_X6_size, (tt_of 609 (by decide +kernel) rfl), kn_X6_size, kl_RX6_X6_size, ki_RX6, ⟨by decide, by decide, by decide +kernel⟩, by decide⟩
theorem kV_RX10_209 : kV RX10 209 RX6 yX6_clear cX6_clear 1 none 0 := ⟨kc_X6_clear, (tt_of 617 (by decide +kernel) rfl), kn_X6_clear, kl_RX6_X6_clear, ki_RX6, ⟨by decide, by decide, by decide +kernel⟩, by decide⟩
theorem kS_RX10_210 : kS RX10 210 yX10_isSheet cX10_isSheet 1 (some .boolean) 1 := ⟨kc_X10_isSheet, (tt_of 625 (by decide +kernel) rfl), kt_X10_isSheet, ki_RX10, ⟨by decide, by decide, by decide +kernel⟩, by decide⟩
theorem kV_RX10_213 : kV RX10 213 RX7 yX7_isLost cX7_isLost 1 (some .boolean) 0 := ⟨kc_X7_isLost, (tt_of 628 (by decide +kernel) rfl), kn_X7_isLost, kl_RX7_X7_isLost, ki_RX7, ⟨by decide, by decide, by decide +kernel⟩, by decide⟩
theorem kV_RX10_216 : kV RX10 216 RX10 yX10_finding cX10_finding 2 (some .int) 1 := ⟨kc_X10_finding, (tt_of 632 (by decide +kernel) rfl), kn_X10_finding, kl_RX10_X10_finding, ki_RX10, ⟨by decide, by decide, by decide +kernel⟩, by decide⟩
theorem kV_RX10_219 : kV RX10 219 RX7 yX7_size cX7_size 1 (some .int) 0 := ⟨kc_X7_size, (tt_of 636 (by decide +kernel) rfl), kn_X7_size, kl_RX7_X7_size, ki_RX7, ⟨by decide, by decide, by decide +kernel⟩, by decide⟩
theorem kV_RX10_220 : kV RX10 220 RX7 yX7_item cX7_item 2 (some .int) 1 := ⟨kc_X7_item, (tt_of 640 (by decide +kernel) rfl), kn_X7_item, kl_RX7_X7_item, ki_RX7, ⟨by decide, by decide, by decide +kernel⟩, by decide⟩
theorem kV_RX10_223 : kV RX10 223 RX6 yX6_howManyStand cX6_howManyStand 4 (some .int) 1 := ⟨kc_X6_howManyStand, (tt_of 652 (by decide +kernel) rfl), kn_X6_howManyStand, kl_RX6_X6_howManyStand, ki_RX6, ⟨by decide, by decide, by decide +kernel⟩, by decide⟩
theorem kV_RX10_226 : kV RX10 226 RX6 yX6_fewestStand cX6_fewestStand 4 (some .int) 1 := ⟨kc_X6_fewestStand, (tt_of 660 (by decide +kernel) rfl), kn_X6_fewestStand, kl_RX6_X6_fewestStand, ki_RX6, ⟨by decide, by decide, by decide +kernel⟩, by decide⟩
theorem kV_RX10_229 : kV RX10 229 RX6 yX6_nearestHalf cX6_nearestHalf 7 (some .int) 1 := ⟨kc_X6_nearestHalf, (tt_of 669 (by decide +kernel) rfl), kn_X6_nearestHalf, kl_RX6_X6_nearestHalf, ki_RX6, ⟨by decide, by decide, by decide +kernel⟩, by decide⟩
theorem kS_RX10_232 : kS RX10 232 yX10_isChance cX10_isChance 1 (some .boolean) 1 := ⟨kc_X10_isChance, (tt_of 689 (by decide +kernel) rfl), kt_X10_isChance, ki_RX10, ⟨by decide, by decide, by decide +kernel⟩, by decide⟩
theorem kS_RX10_239 : kS RX10 239 yX0_withCat cX0_withCat 6 (some .int) 4 := ⟨kc_X0_withCat, (tt_of 693 (by decide +kernel) rfl), kt_X0_withCat, ki_RX0, ⟨by decide, by decide, by decide +kernel⟩, by decide⟩
theorem kS_RX10_242 : kS RX10 242 yX0_lowest cX0_lowest 7 (some .int) 3 := ⟨kc_X0_lowest, (tt_of 697 (by decide +kernel) rfl), kt_X0_lowest, ki_RX0, ⟨by decide, by decide, by decide +kernel⟩, by decide⟩
theorem kS_RX10_247 : kS RX10 247 yX10_isForm cX10_isForm 1 (some .boolean) 1 := ⟨kc_X10_isForm, (tt_of 713 (by decide +kernel) rfl), kt_X10_isForm, ki_RX10, ⟨by decide, by decide, by decide +kernel⟩, by decide⟩
theorem kV_RX10_250 : kV RX10 250 RX7 yX7_begin cX7_begin 4 none 2 := ⟨kc_X7_begin, (tt_of 716 (by decide +kernel) rfl), kn_X7_begin, kl_RX7_X7_begin, ki_RX7, ⟨by decide, by decide, by decide +kernel⟩, by decide⟩
theorem kV_RX10_254 : kV RX10 254 RX7 yX7_end cX7_end 1 none 0 := ⟨kc_X7_end, (tt_of 728 (by decide +kernel) rfl), kn_X7_end, kl_RX7_X7_end, ki_RX7, ⟨by decide, by decide, by decide +kernel⟩, by decide⟩
theorem kV_RX10_257 : kV RX10 257 RX10 yX10_itemRefusal cX10_itemRefusal 4 (some .int) 3 := ⟨kc_X10_itemRefusal, (tt_of 736 (by decide +kernel) rfl), kn_X10_itemRefusal, kl_RX10_X10_itemRefusal, ki_RX10, ⟨by decide, by decide, by decide +kernel⟩, by decide⟩
theorem kV_RX10_260 : kV RX10 260 RX7 yX7_setItem cX7_setItem 3 none 2 := ⟨kc_X7_setItem, (tt_of 745 (by decide +kernel) rfl), kn_X7_setItem, kl_RX7_X7_setItem, ki_RX7, ⟨by decide, by decide, by decide +kernel⟩, by decide⟩
theorem kV_RX10_264 : kV RX10 264 RX7 yX7_formOf cX7_formOf 1 (some .int) 0 := ⟨kc_X7_formOf, (tt_of 740 (by decide +kernel) rfl), kn_X7_formOf, kl_RX7_X7_formOf, ki_RX7, ⟨by decide, by decide, by decide +kernel⟩, by decide⟩
theorem kV_RX10_267 : kV RX10 267 RX7 yX7_hasItems cX7_hasItems 3 (some .boolean) 2 := ⟨kc_X7_hasItems, (tt_of 744 (by decide +kernel) rfl), kn_X7_hasItems, kl_RX7_X7_hasItems, ki_RX7, ⟨by decide, by decide, by decide +kernel⟩, by decide⟩
theorem kV_RX10_270 : kV RX10 270 RX7 yX7_takeFrom cX7_takeFrom 5 none 4 := ⟨kc_X7_takeFrom, (tt_of 762 (by decide +kernel) rfl), kn_X7_takeFrom, kl_RX7_X7_takeFrom, ki_RX7, ⟨by decide, by decide, by decide +kernel⟩, by decide⟩
theorem kS_RX10_274 : kS RX10 274 yJ9_min_7cf53 cJ9_min_7cf53 2 (some .int) 2 := ⟨kc_J9_min_7cf53, (tt_of 773 (by decide +kernel) rfl), kt_J9_min_7cf53, ki_RJ9, ⟨by decide, by decide, by decide +kernel⟩, by decide⟩
theorem kV_RX10_279 : kV RX10 279 RX3 yX3_plusCount cX3_plusCount 3 (some .int) 0 := ⟨kc_X3_plusCount, (tt_of 778 (by decide +kernel) rfl), kn_X3_plusCount, kl_RX3_X3_plusCount, ki_RX3, ⟨by decide, by decide, by decide +kernel⟩, by decide⟩
theorem kV_RX10_284 : kV RX10 284 RX10 yX10_digestTexts cX10_digestTexts 6 (some .long) 1 := ⟨kc_X10_digestTexts, (tt_of 787 (by decide +kernel) rfl), kn_X10_digestTexts, kl_RX10_X10_digestTexts, ki_RX10, ⟨by decide, by decide, by decide +kernel⟩, by decide⟩
theorem kV_RX10_288 : kV RX10 288 RX10 yX10_week cX10_week 3 (some .int) 2 := ⟨kc_X10_week, (tt_of 799 (by decide +kernel) rfl), kn_X10_week, kl_RX10_X10_week, ki_RX10, ⟨by decide, by decide, by decide +kernel⟩, by decide⟩
theorem kS_RX10_291 : kS RX10 291 yX10_mix cX10_mix 4 (some .long) 2 := ⟨kc_X10_mix, (tt_of 792 (by decide +kernel) rfl), kt_X10_mix, ki_RX10, ⟨by decide, by decide, by decide +kernel⟩, by decide⟩
theorem kV_RX10_295 : kV RX10 295 RX10 yX10_judged cX10_judged 3 (some .int) 0 := ⟨kc_X10_judged, (tt_of 800 (by decide +kernel) rfl), kn_X10_judged, kl_RX10_X10_judged, ki_RX10, ⟨by decide, by decide, by decide +kernel⟩, by decide⟩
theorem kV_RX10_298 : kV RX10 298 RX10 yX10_two cX10_two 2 (some .int) 0 := ⟨kc_X10_two, (tt_of 801 (by decide +kernel) rfl), kn_X10_two, kl_RX10_X10_two, ki_RX10, ⟨by decide, by decide, by decide +kernel⟩, by decide⟩
theorem kV_RX10_301 : kV RX10 301 RX10 yX10_second cX10_second 3 (some .int) 1 := ⟨kc_X10_second, (tt_of 802 (by decide +kernel) rfl), kn_X10_second, kl_RX10_X10_second, ki_RX10, ⟨by decide, by decide, by decide +kernel⟩, by decide⟩
theorem kV_RX10_304 : kV RX10 304 RX10 yX10_touch cX10_touch 5 (some .int) 4 := ⟨kc_X10_touch, (tt_of 803 (by decide +kernel) rfl), kn_X10_touch, kl_RX10_X10_touch, ki_RX10, ⟨by decide, by decide, by decide +kernel⟩, by decide⟩
theorem kV_RX10_308 : kV RX10 308 RX10 yX10_steady cX10_steady 5 (some .int) 1 := ⟨kc_X10_steady, (tt_of 804 (by decide +kernel) rfl), kn_X10_steady, kl_RX10_X10_steady, ki_RX10, ⟨by decide, by decide, by decide +kernel⟩, by decide⟩
theorem kV_RX10_311 : kV RX10 311 RX10 yX10_round cX10_round 4 (some .int) 2 := ⟨kc_X10_round, (tt_of 805 (by decide +kernel) rfl), kn_X10_round, kl_RX10_X10_round, ki_RX10, ⟨by decide, by decide, by decide +kernel⟩, by decide⟩
theorem kV_RX10_314 : kV RX10 314 RX10 yX10_moved cX10_moved 5 (some .int) 1 := ⟨kc_X10_moved, (tt_of 806 (by decide +kernel) rfl), kn_X10_moved, kl_RX10_X10_moved, ki_RX10, ⟨by decide, by decide, by decide +kernel⟩, by decide⟩
theorem kV_RX10_317 : kV RX10 317 RX10 yX10_lot cX10_lot 9 (some .int) 3 := ⟨kc_X10_lot, (tt_of 807 (by decide +kernel) rfl), kn_X10_lot, kl_RX10_X10_lot, ki_RX10, ⟨by decide, by decide, by decide +kernel⟩, by decide⟩
theorem kV_RX10_320 : kV RX10 320 RX10 yX10_digestBig cX10_digestBig 6 (some .long) 2 := ⟨kc_X10_digestBig, (tt_of 808 (by decide +kernel) rfl), kn_X10_digestBig, kl_RX10_X10_digestBig, ki_RX10, ⟨by decide, by decide, by decide +kernel⟩, by decide⟩
theorem kV_RX10_324 : kV RX10 324 RX10 yX10_count cX10_count 2 (some .int) 1 := ⟨kc_X10_count, (tt_of 791 (by decide +kernel) rfl), kn_X10_count, kl_RX10_X10_count, ki_RX10, ⟨by decide, by decide, by decide +kernel⟩, by decide⟩
theorem kV_RX10_327 : kV RX10 327 RX10 yX10_fault cX10_fault 2 (some .int) 1 := ⟨kc_X10_fault, (tt_of 796 (by decide +kernel) rfl), kn_X10_fault, kl_RX10_X10_fault, ki_RX10, ⟨by decide, by decide, by decide +kernel⟩, by decide⟩
theorem kV_RX10_330 : kV RX10 330 RX10 yX10_rule cX10_rule 3 (some .int) 2 := ⟨kc_X10_rule, (tt_of 797 (by decide +kernel) rfl), kn_X10_rule, kl_RX10_X10_rule, ki_RX10, ⟨by decide, by decide, by decide +kernel⟩, by decide⟩
theorem kV_RX10_333 : kV RX10 333 RX10 yX10_dust cX10_dust 3 (some .int) 2 := ⟨kc_X10_dust, (tt_of 798 (by decide +kernel) rfl), kn_X10_dust, kl_RX10_X10_dust, ki_RX10, ⟨by decide, by decide, by decide +kernel⟩, by decide⟩
theorem kV_RX10_336 : kV RX10 336 RX10 yX10_keepOff cX10_keepOff 4 (some .int) 3 := ⟨kc_X10_keepOff, (tt_of 812 (by decide +kernel) rfl), kn_X10_keepOff, kl_RX10_X10_keepOff, ki_RX10, ⟨by decide, by decide, by decide +kernel⟩, by decide⟩
theorem kV_RX10_339 : kV RX10 339 RX10 yX10_bars cX10_bars 5 (some .int) 1 := ⟨kc_X10_bars, (tt_of 813 (by decide +kernel) rfl), kn_X10_bars, kl_RX10_X10_bars, ki_RX10, ⟨by decide, by decide, by decide +kernel⟩, by decide⟩
theorem kV_RX10_342 : kV RX10 342 RX10 yX10_play cX10_play 6 (some .int) 3 := ⟨kc_X10_play, (tt_of 814 (by decide +kernel) rfl), kn_X10_play, kl_RX10_X10_play, ki_RX10, ⟨by decide, by decide, by decide +kernel⟩, by decide⟩
theorem kV_RX10_345 : kV RX10 345 RX10 yX10_stands cX10_stands 3 (some .int) 2 := ⟨kc_X10_stands, (tt_of 815 (by decide +kernel) rfl), kn_X10_stands, kl_RX10_X10_stands, ki_RX10, ⟨by decide, by decide, by decide +kernel⟩, by decide⟩
theorem kV_RX10_348 : kV RX10 348 RX10 yX10_watch cX10_watch 2 (some .int) 1 := ⟨kc_X10_watch, (tt_of 816 (by decide +kernel) rfl), kn_X10_watch, kl_RX10_X10_watch, ki_RX10, ⟨by decide, by decide, by decide +kernel⟩, by decide⟩
theorem kV_RX10_351 : kV RX10 351 RX10 yX10_cat cX10_cat 6 (some .long) 3 := ⟨kc_X10_cat, (tt_of 817 (by decide +kernel) rfl), kn_X10_cat, kl_RX10_X10_cat, ki_RX10, ⟨by decide, by decide, by decide +kernel⟩, by decide⟩
theorem kV_RX10_355 : kV RX10 355 RX10 yX10_let cX10_let 7 (some .int) 2 := ⟨kc_X10_let, (tt_of 818 (by decide +kernel) rfl), kn_X10_let, kl_RX10_X10_let, ki_RX10, ⟨by decide, by decide, by decide +kernel⟩, by decide⟩
theorem kU_RX10_360_RX3 : kU RX10 360 RX3 RX5 ⟨RX3, "readFrom", "(LSmallFirst$Text;)V"⟩ yX5_readFrom cX5_readFrom 4 none 1 := ⟨kc_X5_readFrom, (tt_of 271 (by decide +kernel) rfl), (tt_of 272 (by decide +kernel) rfl), (tt_of 274 (by decide +kernel) rfl), kn_X5_readFrom, ki_RX5, by decide, by decide, by decide, by decide +kernel⟩
theorem kU_RX10_364_RX1 : kU RX10 364 RX1 RX5 ⟨RX1, "readFrom", "(LSmallFirst$Text;)V"⟩ yX5_readFrom cX5_readFrom 4 none 1 := ⟨kc_X5_readFrom, (tt_of 344 (by decide +kernel) rfl), (tt_of 345 (by decide +kernel) rfl), (tt_of 346 (by decide +kernel) rfl), kn_X5_readFrom, ki_RX5, by decide, by decide, by decide, by decide +kernel⟩
theorem kV_RX10_365 : kV RX10 365 RX2 yX2_fill cX2_fill 4 none 2 := ⟨kc_X2_fill, (tt_of 430 (by decide +kernel) rfl), kn_X2_fill, kl_RX2_X2_fill, ki_RX2, ⟨by decide, by decide, by decide +kernel⟩, by decide⟩
theorem kV_RX0_9 : kV RX0 9 RX2 yX2_comesBy cX2_comesBy 2 (some .int) 1 := ⟨kc_X2_comesBy, (tt_of 696 (by decide +kernel) rfl), kn_X2_comesBy, kl_RX2_X2_comesBy, ki_RX2, ⟨by decide, by decide, by decide +kernel⟩, by decide⟩
theorem kU_RX1_18_RX1 : kU RX1 18 RX1 RX5 ⟨RX1, "size", "()I"⟩ yX5_size cX5_size 1 (some .int) 0 := ⟨kc_X5_size, (tt_of 295 (by decide +kernel) rfl), (tt_of 296 (by decide +kernel) rfl), (tt_of 298 (by decide +kernel) rfl), kn_X5_size, ki_RX5, by decide, by decide, by decide, by decide +kernel⟩
theorem kV_RX1_22 : kV RX1 22 RX1 yX1_bigOf cX1_bigOf 2 (some .int) 1 := ⟨kc_X1_bigOf, (tt_of 445 (by decide +kernel) rfl), kn_X1_bigOf, kl_RX1_X1_bigOf, ki_RX1, ⟨by decide, by decide, by decide +kernel⟩, by decide⟩
theorem kV_RX1_26 : kV RX1 26 RX1 yX1_smallOf cX1_smallOf 2 (some .int) 1 := ⟨kc_X1_smallOf, (tt_of 446 (by decide +kernel) rfl), kn_X1_smallOf, kl_RX1_X1_smallOf, ki_RX1, ⟨by decide, by decide, by decide +kernel⟩, by decide⟩
theorem kV_RX1_29 : kV RX1 29 RX1 yX1_beginDust cX1_beginDust 2 (some .int) 1 := ⟨kc_X1_beginDust, (tt_of 291 (by decide +kernel) rfl), kn_X1_beginDust, kl_RX1_X1_beginDust, ki_RX1, ⟨by decide, by decide, by decide +kernel⟩, by decide⟩
theorem kV_RX1_32 : kV RX1 32 RX1 yX1_endDust cX1_endDust 3 (some .int) 1 := ⟨kc_X1_endDust, (tt_of 304 (by decide +kernel) rfl), kn_X1_endDust, kl_RX1_X1_endDust, ki_RX1, ⟨by decide, by decide, by decide +kernel⟩, by decide⟩
theorem kU_RX1_46_RX1 : kU RX1 46 RX1 RX5 ⟨RX1, "addOne", "()V"⟩ yX5_addOne cX5_addOne 1 none 0 := ⟨kc_X5_addOne, (tt_of 311 (by decide +kernel) rfl), (tt_of 312 (by decide +kernel) rfl), (tt_of 314 (by decide +kernel) rfl), kn_X5_addOne, ki_RX5, by decide, by decide, by decide, by decide +kernel⟩
theorem kV_RX2_21 : kV RX2 21 RX3 yX3_heldBy cX3_heldBy 5 (some .int) 2 := ⟨kc_X3_heldBy, (tt_of 434 (by decide +kernel) rfl), kn_X3_heldBy, kl_RX3_X3_heldBy, ki_RX3, ⟨by decide, by decide, by decide +kernel⟩, by decide⟩
theorem kV_RX2_27 : kV RX2 27 RX1 yX1_laidBy cX1_laidBy 4 (some .int) 1 := ⟨kc_X1_laidBy, (tt_of 441 (by decide +kernel) rfl), kn_X1_laidBy, kl_RX1_X1_laidBy, ki_RX1, ⟨by decide, by decide, by decide +kernel⟩, by decide⟩
theorem kU_RX3_22_RX3 : kU RX3 22 RX3 RX5 ⟨RX3, "size", "()I"⟩ yX5_size cX5_size 1 (some .int) 0 := ⟨kc_X5_size, (tt_of 324 (by decide +kernel) rfl), (tt_of 325 (by decide +kernel) rfl), (tt_of 326 (by decide +kernel) rfl), kn_X5_size, ki_RX5, by decide, by decide, by decide, by decide +kernel⟩
theorem kV_RX3_26 : kV RX3 26 RX3 yX3_isPlus cX3_isPlus 2 (some .boolean) 1 := ⟨kc_X3_isPlus, (tt_of 438 (by decide +kernel) rfl), kn_X3_isPlus, kl_RX3_X3_isPlus, ki_RX3, ⟨by decide, by decide, by decide +kernel⟩, by decide⟩
theorem kV_RX3_30 : kV RX3 30 RX3 yX3_smallOf cX3_smallOf 2 (some .int) 1 := ⟨kc_X3_smallOf, (tt_of 439 (by decide +kernel) rfl), kn_X3_smallOf, kl_RX3_X3_smallOf, ki_RX3, ⟨by decide, by decide, by decide +kernel⟩, by decide⟩
theorem kV_RX3_34 : kV RX3 34 RX3 yX3_bigOf cX3_bigOf 2 (some .int) 1 := ⟨kc_X3_bigOf, (tt_of 440 (by decide +kernel) rfl), kn_X3_bigOf, kl_RX3_X3_bigOf, ki_RX3, ⟨by decide, by decide, by decide +kernel⟩, by decide⟩
theorem kV_RX3_37 : kV RX3 37 RX3 yX3_beginLaw cX3_beginLaw 2 (some .int) 1 := ⟨kc_X3_beginLaw, (tt_of 320 (by decide +kernel) rfl), kn_X3_beginLaw, kl_RX3_X3_beginLaw, ki_RX3, ⟨by decide, by decide, by decide +kernel⟩, by decide⟩
theorem kV_RX3_43 : kV RX3 43 RX3 yX3_pairWith cX3_pairWith 3 (some .int) 1 := ⟨kc_X3_pairWith, (tt_of 328 (by decide +kernel) rfl), kn_X3_pairWith, kl_RX3_X3_pairWith, ki_RX3, ⟨by decide, by decide, by decide +kernel⟩, by decide⟩
theorem kV_RX3_46 : kV RX3 46 RX3 yX3_takeSign cX3_takeSign 2 (some .int) 1 := ⟨kc_X3_takeSign, (tt_of 332 (by decide +kernel) rfl), kn_X3_takeSign, kl_RX3_X3_takeSign, ki_RX3, ⟨by decide, by decide, by decide +kernel⟩, by decide⟩
theorem kV_RX3_49 : kV RX3 49 RX3 yX3_endLaw cX3_endLaw 3 (some .int) 1 := ⟨kc_X3_endLaw, (tt_of 336 (by decide +kernel) rfl), kn_X3_endLaw, kl_RX3_X3_endLaw, ki_RX3, ⟨by decide, by decide, by decide +kernel⟩, by decide⟩
theorem kU_RX3_63_RX3 : kU RX3 63 RX3 RX5 ⟨RX3, "addOne", "()V"⟩ yX5_addOne cX5_addOne 1 none 0 := ⟨kc_X5_addOne, (tt_of 341 (by decide +kernel) rfl), (tt_of 342 (by decide +kernel) rfl), (tt_of 343 (by decide +kernel) rfl), kn_X5_addOne, ki_RX5, by decide, by decide, by decide, by decide +kernel⟩
theorem kS_RX4_9 : kS RX4 9 yX4_isFewer cX4_isFewer 2 (some .boolean) 2 := ⟨kc_X4_isFewer, (tt_of 543 (by decide +kernel) rfl), kt_X4_isFewer, ki_RX4, ⟨by decide, by decide, by decide +kernel⟩, by decide⟩
theorem kS_RX4_15 : kS RX4 15 yX4_bigsIn cX4_bigsIn 5 (some .int) 3 := ⟨kc_X4_bigsIn, (tt_of 547 (by decide +kernel) rfl), kt_X4_bigsIn, ki_RX4, ⟨by decide, by decide, by decide +kernel⟩, by decide⟩
theorem kS_RX4_19 : kS RX4 19 yX4_staysOff cX4_staysOff 6 (some .boolean) 4 := ⟨kc_X4_staysOff, (tt_of 562 (by decide +kernel) rfl), kt_X4_staysOff, ki_RX4, ⟨by decide, by decide, by decide +kernel⟩, by decide⟩
theorem kV_RX4_23 : kV RX4 23 RX2 yX2_weekBehind cX2_weekBehind 2 (some .int) 1 := ⟨kc_X2_weekBehind, (tt_of 550 (by decide +kernel) rfl), kn_X2_weekBehind, kl_RX2_X2_weekBehind, ki_RX2, ⟨by decide, by decide, by decide +kernel⟩, by decide⟩
theorem kS_RX4_29 : kS RX4 29 yX4_weekOf cX4_weekOf 6 (some .int) 4 := ⟨kc_X4_weekOf, (tt_of 594 (by decide +kernel) rfl), kt_X4_weekOf, ki_RX4, ⟨by decide, by decide, by decide +kernel⟩, by decide⟩
theorem kS_RX4_33 : kS RX4 33 yX4_weeksToRepeat cX4_weeksToRepeat 4 (some .int) 2 := ⟨kc_X4_weeksToRepeat, (tt_of 600 (by decide +kernel) rfl), kt_X4_weeksToRepeat, ki_RX4, ⟨by decide, by decide, by decide +kernel⟩, by decide⟩
theorem kS_RX4_37 : kS RX4 37 yX4_itComes cX4_itComes 6 (some .boolean) 5 := ⟨kc_X4_itComes, (tt_of 576 (by decide +kernel) rfl), kt_X4_itComes, ki_RX4, ⟨by decide, by decide, by decide +kernel⟩, by decide⟩
theorem kV_RX4_41 : kV RX4 41 RX2 yX2_comesBy cX2_comesBy 2 (some .int) 1 := ⟨kc_X2_comesBy, (tt_of 551 (by decide +kernel) rfl), kn_X2_comesBy, kl_RX2_X2_comesBy, ki_RX2, ⟨by decide, by decide, by decide +kernel⟩, by decide⟩
theorem kS_RX4_44 : kS RX4 44 yJ6_bitCount_0f7a4 cJ6_bitCount_0f7a4 1 (some .int) 1 := ⟨kc_J6_bitCount_0f7a4, (tt_of 546 (by decide +kernel) rfl), kt_J6_bitCount_0f7a4, ki_RJ6, ⟨by decide, by decide, by decide +kernel⟩, by decide⟩
theorem kV_RX5_18 : kV RX5 18 RX8 yX8_size cX8_size 1 (some .int) 0 := ⟨kc_X8_size, (tt_of 277 (by decide +kernel) rfl), kn_X8_size, kl_RX8_X8_size, ki_RX8, ⟨by decide, by decide, by decide +kernel⟩, by decide⟩
theorem kV_RX5_24 : kV RX5 24 RX8 yX8_byteAt cX8_byteAt 2 (some .int) 1 := ⟨kc_X8_byteAt, (tt_of 281 (by decide +kernel) rfl), kn_X8_byteAt, kl_RX8_X8_byteAt, ki_RX8, ⟨by decide, by decide, by decide +kernel⟩, by decide⟩
theorem kU_RX5_28_RX1 : kU RX5 28 RX1 RX5 ⟨RX5, "stateBehind", "(II)I"⟩ yX1_stateBehind cX1_stateBehind 3 (some .int) 2 := ⟨kc_X1_stateBehind, (tt_of 285 (by decide +kernel) rfl), (tt_of 287 (by decide +kernel) rfl), (tt_of 288 (by decide +kernel) rfl), kn_X1_stateBehind, ki_RX1, by decide, by decide, by decide, by decide +kernel⟩
theorem kU_RX5_28_RX3 : kU RX5 28 RX3 RX5 ⟨RX5, "stateBehind", "(II)I"⟩ yX3_stateBehind cX3_stateBehind 3 (some .int) 2 := ⟨kc_X3_stateBehind, (tt_of 285 (by decide +kernel) rfl), (tt_of 287 (by decide +kernel) rfl), (tt_of 317 (by decide +kernel) rfl), kn_X3_stateBehind, ki_RX3, by decide, by decide, by decide, by decide +kernel⟩
theorem kV_RX6_22 : kV RX6 22 RX6 yX6_mayStand cX6_mayStand 5 (some .boolean) 2 := ⟨kc_X6_mayStand, (tt_of 656 (by decide +kernel) rfl), kn_X6_mayStand, kl_RX6_X6_mayStand, ki_RX6, ⟨by decide, by decide, by decide +kernel⟩, by decide⟩
theorem kS_RX6_26 : kS RX6 26 yJ6_bitCount_0f7a4 cJ6_bitCount_0f7a4 1 (some .int) 1 := ⟨kc_J6_bitCount_0f7a4, (tt_of 664 (by decide +kernel) rfl), kt_J6_bitCount_0f7a4, ki_RJ6, ⟨by decide, by decide, by decide +kernel⟩, by decide⟩
theorem kV_RX6_32 : kV RX6 32 RX6 yX6_howManyStand cX6_howManyStand 4 (some .int) 1 := ⟨kc_X6_howManyStand, (tt_of 673 (by decide +kernel) rfl), kn_X6_howManyStand, kl_RX6_X6_howManyStand, ki_RX6, ⟨by decide, by decide, by decide +kernel⟩, by decide⟩
theorem kV_RX6_35 : kV RX6 35 RX6 yX6_howManyStandWith cX6_howManyStandWith 5 (some .int) 2 := ⟨kc_X6_howManyStandWith, (tt_of 674 (by decide +kernel) rfl), kn_X6_howManyStandWith, kl_RX6_X6_howManyStandWith, ki_RX6, ⟨by decide, by decide, by decide +kernel⟩, by decide⟩
theorem kS_RX6_39 : kS RX6 39 yJ9_abs_0f7a4 cJ9_abs_0f7a4 1 (some .int) 1 := ⟨kc_J9_abs_0f7a4, (tt_of 678 (by decide +kernel) rfl), kt_J9_abs_0f7a4, ki_RJ9, ⟨by decide, by decide, by decide +kernel⟩, by decide⟩
theorem kS_RX7_26 : kS RX7 26 yJ9_min_7cf53 cJ9_min_7cf53 2 (some .int) 2 := ⟨kc_J9_min_7cf53, (tt_of 720 (by decide +kernel) rfl), kt_J9_min_7cf53, ki_RJ9, ⟨by decide, by decide, by decide +kernel⟩, by decide⟩
theorem kS_RX7_32 : kS RX7 32 yJ9_max_7cf53 cJ9_max_7cf53 2 (some .int) 2 := ⟨kc_J9_max_7cf53, (tt_of 723 (by decide +kernel) rfl), kt_J9_max_7cf53, ki_RJ9, ⟨by decide, by decide, by decide +kernel⟩, by decide⟩
theorem kV_RX7_35 : kV RX7 35 RX7 yX7_hasItems cX7_hasItems 3 (some .boolean) 2 := ⟨kc_X7_hasItems, (tt_of 644 (by decide +kernel) rfl), kn_X7_hasItems, kl_RX7_X7_hasItems, ki_RX7, ⟨by decide, by decide, by decide +kernel⟩, by decide⟩
theorem kV_RX7_39 : kV RX7 39 RX7 yX7_asForm cX7_asForm 2 (some .int) 1 := ⟨kc_X7_asForm, (tt_of 749 (by decide +kernel) rfl), kn_X7_asForm, kl_RX7_X7_asForm, ki_RX7, ⟨by decide, by decide, by decide +kernel⟩, by decide⟩
theorem kS_RX8_9 : kS RX8 9 yJ9_max_7cf53 cJ9_max_7cf53 2 (some .int) 2 := ⟨kc_J9_max_7cf53, (tt_of 80 (by decide +kernel) rfl), kt_J9_max_7cf53, ki_RJ9, ⟨by decide, by decide, by decide +kernel⟩, by decide⟩
theorem kV_RX9_35 : kV RX9 35 RX2 yX2_comesBy cX2_comesBy 2 (some .int) 1 := ⟨kc_X2_comesBy, (tt_of 490 (by decide +kernel) rfl), kn_X2_comesBy, kl_RX2_X2_comesBy, ki_RX2, ⟨by decide, by decide, by decide +kernel⟩, by decide⟩
theorem kV_RX9_41 : kV RX9 41 RX2 yX2_weekBehind cX2_weekBehind 2 (some .int) 1 := ⟨kc_X2_weekBehind, (tt_of 491 (by decide +kernel) rfl), kn_X2_weekBehind, kl_RX2_X2_weekBehind, ki_RX2, ⟨by decide, by decide, by decide +kernel⟩, by decide⟩
theorem kV_RX9_44 : kV RX9 44 RX9 yX9_withLayings cX9_withLayings 5 (some .int) 2 := ⟨kc_X9_withLayings, (tt_of 495 (by decide +kernel) rfl), kn_X9_withLayings, kl_RX9_X9_withLayings, ki_RX9, ⟨by decide, by decide, by decide +kernel⟩, by decide⟩
theorem kV_RL_13 : kV RL 13 RX10 yX10_type cX10_type 4 (some .int) 2 := ⟨kc_X10_type, (tt_of 252 (by decide +kernel) rfl), kn_X10_type, kl_RX10_X10_type, ki_RX10, ⟨by decide, by decide, by decide +kernel⟩, by decide⟩
theorem kV_RL_17 : kV RL 17 RX11 yX11_type cX11_type 3 (some .int) 2 := ⟨kc_X11_type, (tt_of 935 (by decide +kernel) rfl), kn_X11_type, kl_RX11_X11_type, ki_RX11, ⟨by decide, by decide, by decide +kernel⟩, by decide⟩
theorem kV_RL_18 : kV RL 18 RX10 yX10_wipe cX10_wipe 4 (some .int) 1 := ⟨kc_X10_wipe, (tt_of 348 (by decide +kernel) rfl), kn_X10_wipe, kl_RX10_X10_wipe, ki_RX10, ⟨by decide, by decide, by decide +kernel⟩, by decide⟩
theorem kV_RL_22 : kV RL 22 RX11 yX11_wipe cX11_wipe 3 (some .int) 1 := ⟨kc_X11_wipe, (tt_of 943 (by decide +kernel) rfl), kn_X11_wipe, kl_RX11_X11_wipe, ki_RX11, ⟨by decide, by decide, by decide +kernel⟩, by decide⟩
theorem kV_RL_23 : kV RL 23 RX10 yX10_undo cX10_undo 3 (some .int) 1 := ⟨kc_X10_undo, (tt_of 356 (by decide +kernel) rfl), kn_X10_undo, kl_RX10_X10_undo, ki_RX10, ⟨by decide, by decide, by decide +kernel⟩, by decide⟩
theorem kV_RL_26 : kV RL 26 RX11 yX11_undo cX11_undo 2 (some .int) 1 := ⟨kc_X11_undo, (tt_of 947 (by decide +kernel) rfl), kn_X11_undo, kl_RX11_X11_undo, ki_RX11, ⟨by decide, by decide, by decide +kernel⟩, by decide⟩
theorem kV_RL_27 : kV RL 27 RX10 yX10_fault cX10_fault 2 (some .int) 1 := ⟨kc_X10_fault, (tt_of 364 (by decide +kernel) rfl), kn_X10_fault, kl_RX10_X10_fault, ki_RX10, ⟨by decide, by decide, by decide +kernel⟩, by decide⟩
theorem kV_RL_30 : kV RL 30 RX11 yX11_fault cX11_fault 2 (some .int) 1 := ⟨kc_X11_fault, (tt_of 951 (by decide +kernel) rfl), kn_X11_fault, kl_RX11_X11_fault, ki_RX11, ⟨by decide, by decide, by decide +kernel⟩, by decide⟩
theorem kV_RL_31 : kV RL 31 RX10 yX10_rule cX10_rule 3 (some .int) 2 := ⟨kc_X10_rule, (tt_of 377 (by decide +kernel) rfl), kn_X10_rule, kl_RX10_X10_rule, ki_RX10, ⟨by decide, by decide, by decide +kernel⟩, by decide⟩
theorem kV_RL_34 : kV RL 34 RX11 yX11_rule cX11_rule 3 (some .int) 2 := ⟨kc_X11_rule, (tt_of 987 (by decide +kernel) rfl), kn_X11_rule, kl_RX11_X11_rule, ki_RX11, ⟨by decide, by decide, by decide +kernel⟩, by decide⟩
theorem kV_RL_35 : kV RL 35 RX10 yX10_dust cX10_dust 3 (some .int) 2 := ⟨kc_X10_dust, (tt_of 394 (by decide +kernel) rfl), kn_X10_dust, kl_RX10_X10_dust, ki_RX10, ⟨by decide, by decide, by decide +kernel⟩, by decide⟩
theorem kV_RL_38 : kV RL 38 RX11 yX11_dust cX11_dust 3 (some .int) 2 := ⟨kc_X11_dust, (tt_of 991 (by decide +kernel) rfl), kn_X11_dust, kl_RX11_X11_dust, ki_RX11, ⟨by decide, by decide, by decide +kernel⟩, by decide⟩
theorem kV_RL_39 : kV RL 39 RX10 yX10_first cX10_first 3 (some .int) 1 := ⟨kc_X10_first, (tt_of 410 (by decide +kernel) rfl), kn_X10_first, kl_RX10_X10_first, ki_RX10, ⟨by decide, by decide, by decide +kernel⟩, by decide⟩
theorem kV_RL_42 : kV RL 42 RX11 yX11_first cX11_first 3 (some .int) 1 := ⟨kc_X11_first, (tt_of 995 (by decide +kernel) rfl), kn_X11_first, kl_RX11_X11_first, ki_RX11, ⟨by decide, by decide, by decide +kernel⟩, by decide⟩
theorem kV_RL_43 : kV RL 43 RX10 yX10_comes cX10_comes 2 (some .int) 1 := ⟨kc_X10_comes, (tt_of 422 (by decide +kernel) rfl), kn_X10_comes, kl_RX10_X10_comes, ki_RX10, ⟨by decide, by decide, by decide +kernel⟩, by decide⟩
theorem kV_RL_46 : kV RL 46 RX11 yX11_comes cX11_comes 2 (some .int) 1 := ⟨kc_X11_comes, (tt_of 1002 (by decide +kernel) rfl), kn_X11_comes, kl_RX11_X11_comes, ki_RX11, ⟨by decide, by decide, by decide +kernel⟩, by decide⟩
theorem kV_RL_47 : kV RL 47 RX10 yX10_lays cX10_lays 2 (some .int) 1 := ⟨kc_X10_lays, (tt_of 451 (by decide +kernel) rfl), kn_X10_lays, kl_RX10_X10_lays, ki_RX10, ⟨by decide, by decide, by decide +kernel⟩, by decide⟩
theorem kV_RL_50 : kV RL 50 RX11 yX11_lays cX11_lays 2 (some .int) 1 := ⟨kc_X11_lays, (tt_of 1021 (by decide +kernel) rfl), kn_X11_lays, kl_RX11_X11_lays, ki_RX11, ⟨by decide, by decide, by decide +kernel⟩, by decide⟩
theorem kV_RL_51 : kV RL 51 RX10 yX10_lay cX10_lay 4 (some .int) 3 := ⟨kc_X10_lay, (tt_of 456 (by decide +kernel) rfl), kn_X10_lay, kl_RX10_X10_lay, ki_RX10, ⟨by decide, by decide, by decide +kernel⟩, by decide⟩
theorem kV_RL_55 : kV RL 55 RX11 yX11_lay cX11_lay 4 (some .int) 3 := ⟨kc_X11_lay, (tt_of 1025 (by decide +kernel) rfl), kn_X11_lay, kl_RX11_X11_lay, ki_RX11, ⟨by decide, by decide, by decide +kernel⟩, by decide⟩
theorem kV_RL_56 : kV RL 56 RX10 yX10_back cX10_back 1 (some .int) 0 := ⟨kc_X10_back, (tt_of 474 (by decide +kernel) rfl), kn_X10_back, kl_RX10_X10_back, ki_RX10, ⟨by decide, by decide, by decide +kernel⟩, by decide⟩
theorem kV_RL_60 : kV RL 60 RX11 yX11_back cX11_back 1 (some .int) 0 := ⟨kc_X11_back, (tt_of 1034 (by decide +kernel) rfl), kn_X11_back, kl_RX11_X11_back, ki_RX11, ⟨by decide, by decide, by decide +kernel⟩, by decide⟩
theorem kV_RL_61 : kV RL 61 RX10 yX10_week cX10_week 3 (some .int) 2 := ⟨kc_X10_week, (tt_of 482 (by decide +kernel) rfl), kn_X10_week, kl_RX10_X10_week, ki_RX10, ⟨by decide, by decide, by decide +kernel⟩, by decide⟩
theorem kV_RL_64 : kV RL 64 RX11 yX11_week cX11_week 3 (some .int) 2 := ⟨kc_X11_week, (tt_of 1038 (by decide +kernel) rfl), kn_X11_week, kl_RX11_X11_week, ki_RX11, ⟨by decide, by decide, by decide +kernel⟩, by decide⟩
theorem kV_RL_65 : kV RL 65 RX10 yX10_judged cX10_judged 3 (some .int) 0 := ⟨kc_X10_judged, (tt_of 507 (by decide +kernel) rfl), kn_X10_judged, kl_RX10_X10_judged, ki_RX10, ⟨by decide, by decide, by decide +kernel⟩, by decide⟩
theorem kV_RL_68 : kV RL 68 RX11 yX11_judged cX11_judged 1 (some .int) 0 := ⟨kc_X11_judged, (tt_of 1046 (by decide +kernel) rfl), kn_X11_judged, kl_RX11_X11_judged, ki_RX11, ⟨by decide, by decide, by decide +kernel⟩, by decide⟩
theorem kV_RL_69 : kV RL 69 RX10 yX10_two cX10_two 2 (some .int) 0 := ⟨kc_X10_two, (tt_of 515 (by decide +kernel) rfl), kn_X10_two, kl_RX10_X10_two, ki_RX10, ⟨by decide, by decide, by decide +kernel⟩, by decide⟩
theorem kV_RL_72 : kV RL 72 RX11 yX11_two cX11_two 1 (some .int) 0 := ⟨kc_X11_two, (tt_of 1054 (by decide +kernel) rfl), kn_X11_two, kl_RX11_X11_two, ki_RX11, ⟨by decide, by decide, by decide +kernel⟩, by decide⟩
theorem kV_RL_73 : kV RL 73 RX10 yX10_second cX10_second 3 (some .int) 1 := ⟨kc_X10_second, (tt_of 529 (by decide +kernel) rfl), kn_X10_second, kl_RX10_X10_second, ki_RX10, ⟨by decide, by decide, by decide +kernel⟩, by decide⟩
theorem kV_RL_76 : kV RL 76 RX11 yX11_second cX11_second 2 (some .int) 1 := ⟨kc_X11_second, (tt_of 1065 (by decide +kernel) rfl), kn_X11_second, kl_RX11_X11_second, ki_RX11, ⟨by decide, by decide, by decide +kernel⟩, by decide⟩
theorem kV_RL_77 : kV RL 77 RX10 yX10_touch cX10_touch 5 (some .int) 4 := ⟨kc_X10_touch, (tt_of 533 (by decide +kernel) rfl), kn_X10_touch, kl_RX10_X10_touch, ki_RX10, ⟨by decide, by decide, by decide +kernel⟩, by decide⟩
theorem kV_RL_81 : kV RL 81 RX11 yX11_touch cX11_touch 5 (some .int) 4 := ⟨kc_X11_touch, (tt_of 1069 (by decide +kernel) rfl), kn_X11_touch, kl_RX11_X11_touch, ki_RX11, ⟨by decide, by decide, by decide +kernel⟩, by decide⟩
theorem kV_RL_82 : kV RL 82 RX10 yX10_keepOff cX10_keepOff 4 (some .int) 3 := ⟨kc_X10_keepOff, (tt_of 555 (by decide +kernel) rfl), kn_X10_keepOff, kl_RX10_X10_keepOff, ki_RX10, ⟨by decide, by decide, by decide +kernel⟩, by decide⟩
theorem kV_RL_85 : kV RL 85 RX11 yX11_keepOff cX11_keepOff 4 (some .int) 3 := ⟨kc_X11_keepOff, (tt_of 1089 (by decide +kernel) rfl), kn_X11_keepOff, kl_RX11_X11_keepOff, ki_RX11, ⟨by decide, by decide, by decide +kernel⟩, by decide⟩
theorem kV_RL_86 : kV RL 86 RX10 yX10_bars cX10_bars 5 (some .int) 1 := ⟨kc_X10_bars, (tt_of 565 (by decide +kernel) rfl), kn_X10_bars, kl_RX10_X10_bars, ki_RX10, ⟨by decide, by decide, by decide +kernel⟩, by decide⟩
theorem kV_RL_89 : kV RL 89 RX11 yX11_bars cX11_bars 2 (some .int) 1 := ⟨kc_X11_bars, (tt_of 1101 (by decide +kernel) rfl), kn_X11_bars, kl_RX11_X11_bars, ki_RX11, ⟨by decide, by decide, by decide +kernel⟩, by decide⟩
theorem kV_RL_90 : kV RL 90 RX10 yX10_play cX10_play 6 (some .int) 3 := ⟨kc_X10_play, (tt_of 569 (by decide +kernel) rfl), kn_X10_play, kl_RX10_X10_play, ki_RX10, ⟨by decide, by decide, by decide +kernel⟩, by decide⟩
theorem kV_RL_93 : kV RL 93 RX11 yX11_play cX11_play 4 (some .int) 3 := ⟨kc_X11_play, (tt_of 1109 (by decide +kernel) rfl), kn_X11_play, kl_RX11_X11_play, ki_RX11, ⟨by decide, by decide, by decide +kernel⟩, by decide⟩
theorem kV_RL_94 : kV RL 94 RX10 yX10_steady cX10_steady 5 (some .int) 1 := ⟨kc_X10_steady, (tt_of 582 (by decide +kernel) rfl), kn_X10_steady, kl_RX10_X10_steady, ki_RX10, ⟨by decide, by decide, by decide +kernel⟩, by decide⟩
theorem kV_RL_97 : kV RL 97 RX11 yX11_steady cX11_steady 2 (some .int) 1 := ⟨kc_X11_steady, (tt_of 1122 (by decide +kernel) rfl), kn_X11_steady, kl_RX11_X11_steady, ki_RX11, ⟨by decide, by decide, by decide +kernel⟩, by decide⟩
theorem kV_RL_98 : kV RL 98 RX10 yX10_round cX10_round 4 (some .int) 2 := ⟨kc_X10_round, (tt_of 587 (by decide +kernel) rfl), kn_X10_round, kl_RX10_X10_round, ki_RX10, ⟨by decide, by decide, by decide +kernel⟩, by decide⟩
theorem kV_RL_101 : kV RL 101 RX11 yX11_round cX11_round 3 (some .int) 2 := ⟨kc_X11_round, (tt_of 1131 (by decide +kernel) rfl), kn_X11_round, kl_RX11_X11_round, ki_RX11, ⟨by decide, by decide, by decide +kernel⟩, by decide⟩
theorem kV_RL_102 : kV RL 102 RX10 yX10_seen cX10_seen 3 (some .int) 2 := ⟨kc_X10_seen, (tt_of 601 (by decide +kernel) rfl), kn_X10_seen, kl_RX10_X10_seen, ki_RX10, ⟨by decide, by decide, by decide +kernel⟩, by decide⟩
theorem kV_RL_105 : kV RL 105 RX11 yX11_seen cX11_seen 3 (some .int) 2 := ⟨kc_X11_seen, (tt_of 1139 (by decide +kernel) rfl), kn_X11_seen, kl_RX11_X11_seen, ki_RX11, ⟨by decide, by decide, by decide +kernel⟩, by decide⟩
theorem kV_RL_106 : kV RL 106 RX10 yX10_forget cX10_forget 2 (some .int) 0 := ⟨kc_X10_forget, (tt_of 613 (by decide +kernel) rfl), kn_X10_forget, kl_RX10_X10_forget, ki_RX10, ⟨by decide, by decide, by decide +kernel⟩, by decide⟩
theorem kV_RL_109 : kV RL 109 RX11 yX11_forget cX11_forget 2 (some .int) 0 := ⟨kc_X11_forget, (tt_of 1143 (by decide +kernel) rfl), kn_X11_forget, kl_RX11_X11_forget, ki_RX11, ⟨by decide, by decide, by decide +kernel⟩, by decide⟩
theorem kV_RL_110 : kV RL 110 RX10 yX10_read cX10_read 7 (some .int) 1 := ⟨kc_X10_read, (tt_of 621 (by decide +kernel) rfl), kn_X10_read, kl_RX10_X10_read, ki_RX10, ⟨by decide, by decide, by decide +kernel⟩, by decide⟩
theorem kV_RL_113 : kV RL 113 RX11 yX11_read cX11_read 4 (some .int) 1 := ⟨kc_X11_read, (tt_of 1147 (by decide +kernel) rfl), kn_X11_read, kl_RX11_X11_read, ki_RX11, ⟨by decide, by decide, by decide +kernel⟩, by decide⟩
theorem kV_RL_114 : kV RL 114 RX10 yX10_stands cX10_stands 3 (some .int) 2 := ⟨kc_X10_stands, (tt_of 648 (by decide +kernel) rfl), kn_X10_stands, kl_RX10_X10_stands, ki_RX10, ⟨by decide, by decide, by decide +kernel⟩, by decide⟩
theorem kV_RL_117 : kV RL 117 RX11 yX11_stands cX11_stands 3 (some .int) 2 := ⟨kc_X11_stands, (tt_of 1152 (by decide +kernel) rfl), kn_X11_stands, kl_RX11_X11_stands, ki_RX11, ⟨by decide, by decide, by decide +kernel⟩, by decide⟩
theorem kV_RL_118 : kV RL 118 RX10 yX10_watch cX10_watch 2 (some .int) 1 := ⟨kc_X10_watch, (tt_of 665 (by decide +kernel) rfl), kn_X10_watch, kl_RX10_X10_watch, ki_RX10, ⟨by decide, by decide, by decide +kernel⟩, by decide⟩
theorem kV_RL_121 : kV RL 121 RX11 yX11_watch cX11_watch 2 (some .int) 1 := ⟨kc_X11_watch, (tt_of 1164 (by decide +kernel) rfl), kn_X11_watch, kl_RX11_X11_watch, ki_RX11, ⟨by decide, by decide, by decide +kernel⟩, by decide⟩
theorem kV_RL_122 : kV RL 122 RX10 yX10_moved cX10_moved 5 (some .int) 1 := ⟨kc_X10_moved, (tt_of 681 (by decide +kernel) rfl), kn_X10_moved, kl_RX10_X10_moved, ki_RX10, ⟨by decide, by decide, by decide +kernel⟩, by decide⟩
theorem kV_RL_125 : kV RL 125 RX11 yX11_moved cX11_moved 2 (some .int) 1 := ⟨kc_X11_moved, (tt_of 1172 (by decide +kernel) rfl), kn_X11_moved, kl_RX11_X11_moved, ki_RX11, ⟨by decide, by decide, by decide +kernel⟩, by decide⟩
theorem kV_RL_126 : kV RL 126 RX10 yX10_cat cX10_cat 6 (some .long) 3 := ⟨kc_X10_cat, (tt_of 685 (by decide +kernel) rfl), kn_X10_cat, kl_RX10_X10_cat, ki_RX10, ⟨by decide, by decide, by decide +kernel⟩, by decide⟩
theorem kV_RL_130 : kV RL 130 RX11 yX11_cat cX11_cat 4 (some .long) 3 := ⟨kc_X11_cat, (tt_of 1180 (by decide +kernel) rfl), kn_X11_cat, kl_RX11_X11_cat, ki_RX11, ⟨by decide, by decide, by decide +kernel⟩, by decide⟩
theorem kV_RL_131 : kV RL 131 RX10 yX10_let cX10_let 7 (some .int) 2 := ⟨kc_X10_let, (tt_of 700 (by decide +kernel) rfl), kn_X10_let, kl_RX10_X10_let, ki_RX10, ⟨by decide, by decide, by decide +kernel⟩, by decide⟩
theorem kV_RL_134 : kV RL 134 RX11 yX11_let cX11_let 3 (some .int) 2 := ⟨kc_X11_let, (tt_of 1197 (by decide +kernel) rfl), kn_X11_let, kl_RX11_X11_let, ki_RX11, ⟨by decide, by decide, by decide +kernel⟩, by decide⟩
theorem kV_RL_135 : kV RL 135 RX10 yX10_lot cX10_lot 9 (some .int) 3 := ⟨kc_X10_lot, (tt_of 704 (by decide +kernel) rfl), kn_X10_lot, kl_RX10_X10_lot, ki_RX10, ⟨by decide, by decide, by decide +kernel⟩, by decide⟩
theorem kV_RL_138 : kV RL 138 RX11 yX11_lot cX11_lot 4 (some .int) 3 := ⟨kc_X11_lot, (tt_of 1205 (by decide +kernel) rfl), kn_X11_lot, kl_RX11_X11_lot, ki_RX11, ⟨by decide, by decide, by decide +kernel⟩, by decide⟩
theorem kV_RL_139 : kV RL 139 RX10 yX10_sheet cX10_sheet 4 (some .int) 3 := ⟨kc_X10_sheet, (tt_of 709 (by decide +kernel) rfl), kn_X10_sheet, kl_RX10_X10_sheet, ki_RX10, ⟨by decide, by decide, by decide +kernel⟩, by decide⟩
theorem kV_RL_142 : kV RL 142 RX11 yX11_sheet cX11_sheet 5 (some .int) 3 := ⟨kc_X11_sheet, (tt_of 895 (by decide +kernel) rfl), kn_X11_sheet, kl_RX11_X11_sheet, ki_RX11, ⟨by decide, by decide, by decide +kernel⟩, by decide⟩
theorem kV_RL_143 : kV RL 143 RX10 yX10_lose cX10_lose 3 (some .int) 1 := ⟨kc_X10_lose, (tt_of 724 (by decide +kernel) rfl), kn_X10_lose, kl_RX10_X10_lose, ki_RX10, ⟨by decide, by decide, by decide +kernel⟩, by decide⟩
theorem kV_RL_146 : kV RL 146 RX11 yX11_lose cX11_lose 2 (some .int) 1 := ⟨kc_X11_lose, (tt_of 911 (by decide +kernel) rfl), kn_X11_lose, kl_RX11_X11_lose, ki_RX11, ⟨by decide, by decide, by decide +kernel⟩, by decide⟩
theorem kV_RL_147 : kV RL 147 RX10 yX10_put cX10_put 6 (some .int) 4 := ⟨kc_X10_put, (tt_of 732 (by decide +kernel) rfl), kn_X10_put, kl_RX10_X10_put, ki_RX10, ⟨by decide, by decide, by decide +kernel⟩, by decide⟩
theorem kV_RL_150 : kV RL 150 RX11 yX11_put cX11_put 6 (some .int) 4 := ⟨kc_X11_put, (tt_of 915 (by decide +kernel) rfl), kn_X11_put, kl_RX11_X11_put, ki_RX11, ⟨by decide, by decide, by decide +kernel⟩, by decide⟩
theorem kV_RL_151 : kV RL 151 RX10 yX10_get cX10_get 4 (some .int) 3 := ⟨kc_X10_get, (tt_of 753 (by decide +kernel) rfl), kn_X10_get, kl_RX10_X10_get, ki_RX10, ⟨by decide, by decide, by decide +kernel⟩, by decide⟩
theorem kV_RL_154 : kV RL 154 RX11 yX11_get cX11_get 4 (some .int) 3 := ⟨kc_X11_get, (tt_of 926 (by decide +kernel) rfl), kn_X11_get, kl_RX11_X11_get, ki_RX11, ⟨by decide, by decide, by decide +kernel⟩, by decide⟩
theorem kV_RL_155 : kV RL 155 RX10 yX10_copy cX10_copy 8 (some .int) 5 := ⟨kc_X10_copy, (tt_of 758 (by decide +kernel) rfl), kn_X10_copy, kl_RX10_X10_copy, ki_RX10, ⟨by decide, by decide, by decide +kernel⟩, by decide⟩
theorem kV_RL_159 : kV RL 159 RX11 yX11_copy cX11_copy 7 (some .int) 5 := ⟨kc_X11_copy, (tt_of 931 (by decide +kernel) rfl), kn_X11_copy, kl_RX11_X11_copy, ki_RX11, ⟨by decide, by decide, by decide +kernel⟩, by decide⟩
theorem kV_RL_160 : kV RL 160 RX10 yX10_write cX10_write 5 (some .int) 2 := ⟨kc_X10_write, (tt_of 769 (by decide +kernel) rfl), kn_X10_write, kl_RX10_X10_write, ki_RX10, ⟨by decide, by decide, by decide +kernel⟩, by decide⟩
theorem kV_RL_163 : kV RL 163 RX11 yX11_write cX11_write 5 (some .int) 2 := ⟨kc_X11_write, (tt_of 1215 (by decide +kernel) rfl), kn_X11_write, kl_RX11_X11_write, ki_RX11, ⟨by decide, by decide, by decide +kernel⟩, by decide⟩
theorem kV_RL_164 : kV RL 164 RX10 yX10_count cX10_count 2 (some .int) 1 := ⟨kc_X10_count, (tt_of 774 (by decide +kernel) rfl), kn_X10_count, kl_RX10_X10_count, ki_RX10, ⟨by decide, by decide, by decide +kernel⟩, by decide⟩
theorem kV_RL_167 : kV RL 167 RX11 yX11_count cX11_count 4 (some .int) 1 := ⟨kc_X11_count, (tt_of 1219 (by decide +kernel) rfl), kn_X11_count, kl_RX11_X11_count, ki_RX11, ⟨by decide, by decide, by decide +kernel⟩, by decide⟩
theorem kV_RL_168 : kV RL 168 RX10 yX10_digest cX10_digest 5 (some .long) 0 := ⟨kc_X10_digest, (tt_of 782 (by decide +kernel) rfl), kn_X10_digest, kl_RX10_X10_digest, ki_RX10, ⟨by decide, by decide, by decide +kernel⟩, by decide⟩
theorem kV_RL_172 : kV RL 172 RX11 yX11_digest cX11_digest 5 (some .long) 0 := ⟨kc_X11_digest, (tt_of 1223 (by decide +kernel) rfl), kn_X11_digest, kl_RX11_X11_digest, ki_RX11, ⟨by decide, by decide, by decide +kernel⟩, by decide⟩
theorem kS_RX11_61 : kS RX11 61 yX11_in cX11_in 6 (some .boolean) 3 := ⟨kc_X11_in, (tt_of 903 (by decide +kernel) rfl), kt_X11_in, ki_RX11, ⟨by decide, by decide, by decide +kernel⟩, by decide⟩
theorem kS_RX11_71 : kS RX11 71 yX11_isSheet cX11_isSheet 1 (some .boolean) 1 := ⟨kc_X11_isSheet, (tt_of 899 (by decide +kernel) rfl), kt_X11_isSheet, ki_RX11, ⟨by decide, by decide, by decide +kernel⟩, by decide⟩
theorem kV_RX11_77 : kV RX11 77 RX11 yX11_met cX11_met 2 (some .int) 1 := ⟨kc_X11_met, (tt_of 907 (by decide +kernel) rfl), kn_X11_met, kl_RX11_X11_met, ki_RX11, ⟨by decide, by decide, by decide +kernel⟩, by decide⟩
theorem kV_RX11_81 : kV RX11 81 RX11 yX11_lacks cX11_lacks 4 (some .int) 3 := ⟨kc_X11_lacks, (tt_of 919 (by decide +kernel) rfl), kn_X11_lacks, kl_RX11_X11_lacks, ki_RX11, ⟨by decide, by decide, by decide +kernel⟩, by decide⟩
theorem kS_RX11_85 : kS RX11 85 yX11_cut cX11_cut 2 (some .int) 2 := ⟨kc_X11_cut, (tt_of 923 (by decide +kernel) rfl), kt_X11_cut, ki_RX11, ⟨by decide, by decide, by decide +kernel⟩, by decide⟩
theorem kS_RX11_90 : kS RX11 90 yX11_isTwo cX11_isTwo 1 (some .boolean) 1 := ⟨kc_X11_isTwo, (tt_of 939 (by decide +kernel) rfl), kt_X11_isTwo, ki_RX11, ⟨by decide, by decide, by decide +kernel⟩, by decide⟩
theorem kV_RX11_98 : kV RX11 98 RX11 yX11_here cX11_here 2 (some .int) 1 := ⟨kc_X11_here, (tt_of 967 (by decide +kernel) rfl), kn_X11_here, kl_RX11_X11_here, ki_RX11, ⟨by decide, by decide, by decide +kernel⟩, by decide⟩
theorem kV_RX11_109 : kV RX11 109 RX11 yX11_small cX11_small 2 (some .int) 1 := ⟨kc_X11_small, (tt_of 963 (by decide +kernel) rfl), kn_X11_small, kl_RX11_X11_small, ki_RX11, ⟨by decide, by decide, by decide +kernel⟩, by decide⟩
theorem kV_RX11_115 : kV RX11 115 RX11 yX11_big cX11_big 2 (some .int) 1 := ⟨kc_X11_big, (tt_of 973 (by decide +kernel) rfl), kn_X11_big, kl_RX11_X11_big, ki_RX11, ⟨by decide, by decide, by decide +kernel⟩, by decide⟩
theorem kV_RX11_118 : kV RX11 118 RX11 yX11_readsLaw cX11_readsLaw 6 (some .boolean) 0 := ⟨kc_X11_readsLaw, (tt_of 959 (by decide +kernel) rfl), kn_X11_readsLaw, kl_RX11_X11_readsLaw, ki_RX11, ⟨by decide, by decide, by decide +kernel⟩, by decide⟩
theorem kV_RX11_125 : kV RX11 125 RX11 yX11_readsOneDust cX11_readsOneDust 3 (some .boolean) 0 := ⟨kc_X11_readsOneDust, (tt_of 983 (by decide +kernel) rfl), kn_X11_readsOneDust, kl_RX11_X11_readsOneDust, ki_RX11, ⟨by decide, by decide, by decide +kernel⟩, by decide⟩
theorem kV_RX11_128 : kV RX11 128 RX11 yX11_holds cX11_holds 3 (some .boolean) 2 := ⟨kc_X11_holds, (tt_of 1014 (by decide +kernel) rfl), kn_X11_holds, kl_RX11_X11_holds, ki_RX11, ⟨by decide, by decide, by decide +kernel⟩, by decide⟩
theorem kV_RX11_132 : kV RX11 132 RX11 yX11_readsLaws cX11_readsLaws 3 (some .int) 0 := ⟨kc_X11_readsLaws, (tt_of 955 (by decide +kernel) rfl), kn_X11_readsLaws, kl_RX11_X11_readsLaws, ki_RX11, ⟨by decide, by decide, by decide +kernel⟩, by decide⟩
theorem kV_RX11_136 : kV RX11 136 RX11 yX11_readsDust cX11_readsDust 3 (some .int) 0 := ⟨kc_X11_readsDust, (tt_of 979 (by decide +kernel) rfl), kn_X11_readsDust, kl_RX11_X11_readsDust, ki_RX11, ⟨by decide, by decide, by decide +kernel⟩, by decide⟩
theorem kV_RX11_139 : kV RX11 139 RX11 yX11_heldBy cX11_heldBy 5 (some .int) 2 := ⟨kc_X11_heldBy, (tt_of 1010 (by decide +kernel) rfl), kn_X11_heldBy, kl_RX11_X11_heldBy, ki_RX11, ⟨by decide, by decide, by decide +kernel⟩, by decide⟩
theorem kS_RX11_142 : kS RX11 142 yX11_isIn cX11_isIn 2 (some .boolean) 2 := ⟨kc_X11_isIn, (tt_of 1018 (by decide +kernel) rfl), kt_X11_isIn, ki_RX11, ⟨by decide, by decide, by decide +kernel⟩, by decide⟩
theorem kS_RX11_147 : kS RX11 147 yX11_isSet cX11_isSet 1 (some .boolean) 1 := ⟨kc_X11_isSet, (tt_of 999 (by decide +kernel) rfl), kt_X11_isSet, ki_RX11, ⟨by decide, by decide, by decide +kernel⟩, by decide⟩
theorem kV_RX11_153 : kV RX11 153 RX11 yX11_reads cX11_reads 3 none 0 := ⟨kc_X11_reads, (tt_of 1006 (by decide +kernel) rfl), kn_X11_reads, kl_RX11_X11_reads, ki_RX11, ⟨by decide, by decide, by decide +kernel⟩, by decide⟩
theorem kS_RX11_158 : kS RX11 158 yX11_isThing cX11_isThing 1 (some .boolean) 1 := ⟨kc_X11_isThing, (tt_of 1030 (by decide +kernel) rfl), kt_X11_isThing, ki_RX11, ⟨by decide, by decide, by decide +kernel⟩, by decide⟩
theorem kV_RX11_164 : kV RX11 164 RX11 yX11_lives cX11_lives 4 none 0 := ⟨kc_X11_lives, (tt_of 1042 (by decide +kernel) rfl), kn_X11_lives, kl_RX11_X11_lives, ki_RX11, ⟨by decide, by decide, by decide +kernel⟩, by decide⟩
theorem kV_RX11_167 : kV RX11 167 RX11 yX11_judgedNow cX11_judgedNow 2 (some .int) 0 := ⟨kc_X11_judgedNow, (tt_of 1050 (by decide +kernel) rfl), kn_X11_judgedNow, kl_RX11_X11_judgedNow, ki_RX11, ⟨by decide, by decide, by decide +kernel⟩, by decide⟩
theorem kS_RX11_170 : kS RX11 170 yX11_ones cX11_ones 3 (some .int) 1 := ⟨kc_X11_ones, (tt_of 1062 (by decide +kernel) rfl), kt_X11_ones, ki_RX11, ⟨by decide, by decide, by decide +kernel⟩, by decide⟩
theorem kV_RX11_173 : kV RX11 173 RX11 yX11_twoNow cX11_twoNow 4 (some .int) 0 := ⟨kc_X11_twoNow, (tt_of 1058 (by decide +kernel) rfl), kn_X11_twoNow, kl_RX11_X11_twoNow, ki_RX11, ⟨by decide, by decide, by decide +kernel⟩, by decide⟩
theorem kV_RX11_176 : kV RX11 176 RX11 yX11_next cX11_next 2 (some .int) 1 := ⟨kc_X11_next, (tt_of 1082 (by decide +kernel) rfl), kn_X11_next, kl_RX11_X11_next, ki_RX11, ⟨by decide, by decide, by decide +kernel⟩, by decide⟩
theorem kV_RX11_179 : kV RX11 179 RX11 yX11_comeIn cX11_comeIn 5 (some .int) 2 := ⟨kc_X11_comeIn, (tt_of 1078 (by decide +kernel) rfl), kn_X11_comeIn, kl_RX11_X11_comeIn, ki_RX11, ⟨by decide, by decide, by decide +kernel⟩, by decide⟩
theorem kV_RX11_184 : kV RX11 184 RX11 yX11_touchOf cX11_touchOf 8 (some .int) 3 := ⟨kc_X11_touchOf, (tt_of 1074 (by decide +kernel) rfl), kn_X11_touchOf, kl_RX11_X11_touchOf, ki_RX11, ⟨by decide, by decide, by decide +kernel⟩, by decide⟩
theorem kS_RX11_187 : kS RX11 187 yX11_told cX11_told 2 (some .int) 2 := ⟨kc_X11_told, (tt_of 1086 (by decide +kernel) rfl), kt_X11_told, ki_RX11, ⟨by decide, by decide, by decide +kernel⟩, by decide⟩
theorem kV_RX11_190 : kV RX11 190 RX11 yX11_isOff cX11_isOff 6 (some .boolean) 3 := ⟨kc_X11_isOff, (tt_of 1097 (by decide +kernel) rfl), kn_X11_isOff, kl_RX11_X11_isOff, ki_RX11, ⟨by decide, by decide, by decide +kernel⟩, by decide⟩
theorem kV_RX11_194 : kV RX11 194 RX11 yX11_keepOffOf cX11_keepOffOf 6 (some .int) 2 := ⟨kc_X11_keepOffOf, (tt_of 1093 (by decide +kernel) rfl), kn_X11_keepOffOf, kl_RX11_X11_keepOffOf, ki_RX11, ⟨by decide, by decide, by decide +kernel⟩, by decide⟩
theorem kV_RX11_197 : kV RX11 197 RX11 yX11_barsOf cX11_barsOf 4 (some .int) 1 := ⟨kc_X11_barsOf, (tt_of 1105 (by decide +kernel) rfl), kn_X11_barsOf, kl_RX11_X11_barsOf, ki_RX11, ⟨by decide, by decide, by decide +kernel⟩, by decide⟩
theorem kV_RX11_200 : kV RX11 200 RX11 yX11_findWins cX11_findWins 9 none 2 := ⟨kc_X11_findWins, (tt_of 1118 (by decide +kernel) rfl), kn_X11_findWins, kl_RX11_X11_findWins, ki_RX11, ⟨by decide, by decide, by decide +kernel⟩, by decide⟩
theorem kV_RX11_206 : kV RX11 206 RX11 yX11_playOf cX11_playOf 6 (some .int) 3 := ⟨kc_X11_playOf, (tt_of 1114 (by decide +kernel) rfl), kn_X11_playOf, kl_RX11_X11_playOf, ki_RX11, ⟨by decide, by decide, by decide +kernel⟩, by decide⟩
theorem kV_RX11_211 : kV RX11 211 RX11 yX11_steadyOf cX11_steadyOf 4 (some .int) 1 := ⟨kc_X11_steadyOf, (tt_of 1127 (by decide +kernel) rfl), kn_X11_steadyOf, kl_RX11_X11_steadyOf, ki_RX11, ⟨by decide, by decide, by decide +kernel⟩, by decide⟩
theorem kV_RX11_214 : kV RX11 214 RX11 yX11_roundOf cX11_roundOf 5 (some .int) 2 := ⟨kc_X11_roundOf, (tt_of 1135 (by decide +kernel) rfl), kn_X11_roundOf, kl_RX11_X11_roundOf, ki_RX11, ⟨by decide, by decide, by decide +kernel⟩, by decide⟩
theorem kV_RX11_220 : kV RX11 220 RX11 yX11_seen cX11_seen 3 (some .int) 2 := ⟨kc_X11_seen, (tt_of 1151 (by decide +kernel) rfl), kn_X11_seen, kl_RX11_X11_seen, ki_RX11, ⟨by decide, by decide, by decide +kernel⟩, by decide⟩
theorem kV_RX11_222 : kV RX11 222 RX11 yX11_standsFor cX11_standsFor 5 (some .boolean) 2 := ⟨kc_X11_standsFor, (tt_of 1160 (by decide +kernel) rfl), kn_X11_standsFor, kl_RX11_X11_standsFor, ki_RX11, ⟨by decide, by decide, by decide +kernel⟩, by decide⟩
theorem kV_RX11_225 : kV RX11 225 RX11 yX11_standsOf cX11_standsOf 6 (some .int) 2 := ⟨kc_X11_standsOf, (tt_of 1156 (by decide +kernel) rfl), kn_X11_standsOf, kl_RX11_X11_standsOf, ki_RX11, ⟨by decide, by decide, by decide +kernel⟩, by decide⟩
theorem kV_RX11_228 : kV RX11 228 RX11 yX11_watchOf cX11_watchOf 9 (some .int) 1 := ⟨kc_X11_watchOf, (tt_of 1168 (by decide +kernel) rfl), kn_X11_watchOf, kl_RX11_X11_watchOf, ki_RX11, ⟨by decide, by decide, by decide +kernel⟩, by decide⟩
theorem kV_RX11_231 : kV RX11 231 RX11 yX11_movedOf cX11_movedOf 4 (some .int) 1 := ⟨kc_X11_movedOf, (tt_of 1176 (by decide +kernel) rfl), kn_X11_movedOf, kl_RX11_X11_movedOf, ki_RX11, ⟨by decide, by decide, by decide +kernel⟩, by decide⟩
theorem kV_RX11_236 : kV RX11 236 RX11 yX11_catBy cX11_catBy 5 (some .int) 2 := ⟨kc_X11_catBy, (tt_of 1185 (by decide +kernel) rfl), kn_X11_catBy, kl_RX11_X11_catBy, ki_RX11, ⟨by decide, by decide, by decide +kernel⟩, by decide⟩
theorem kS_RX11_241 : kS RX11 241 yX11_part cX11_part 11 (some .long) 3 := ⟨kc_X11_part, (tt_of 1190 (by decide +kernel) rfl), kt_X11_part, ki_RX11, ⟨by decide, by decide, by decide +kernel⟩, by decide⟩
theorem kS_RX11_245 : kS RX11 245 yX11_no cX11_no 1 (some .long) 1 := ⟨kc_X11_no, (tt_of 1193 (by decide +kernel) rfl), kt_X11_no, ki_RX11, ⟨by decide, by decide, by decide +kernel⟩, by decide⟩
theorem kV_RX11_249 : kV RX11 249 RX11 yX11_letOf cX11_letOf 3 (some .int) 2 := ⟨kc_X11_letOf, (tt_of 1201 (by decide +kernel) rfl), kn_X11_letOf, kl_RX11_X11_letOf, ki_RX11, ⟨by decide, by decide, by decide +kernel⟩, by decide⟩
theorem kV_RX11_255 : kV RX11 255 RX11 yX11_lotOf cX11_lotOf 8 (some .int) 3 := ⟨kc_X11_lotOf, (tt_of 1210 (by decide +kernel) rfl), kn_X11_lotOf, kl_RX11_X11_lotOf, ki_RX11, ⟨by decide, by decide, by decide +kernel⟩, by decide⟩
theorem kV_RX11_260 : kV RX11 260 RX11 yX11_keepOff cX11_keepOff 4 (some .int) 3 := ⟨kc_X11_keepOff, (tt_of 1235 (by decide +kernel) rfl), kn_X11_keepOff, kl_RX11_X11_keepOff, ki_RX11, ⟨by decide, by decide, by decide +kernel⟩, by decide⟩
theorem kV_RX11_263 : kV RX11 263 RX11 yX11_cat cX11_cat 4 (some .long) 3 := ⟨kc_X11_cat, (tt_of 1236 (by decide +kernel) rfl), kn_X11_cat, kl_RX11_X11_cat, ki_RX11, ⟨by decide, by decide, by decide +kernel⟩, by decide⟩
theorem kV_RX11_269 : kV RX11 269 RX11 yX11_count cX11_count 4 (some .int) 1 := ⟨kc_X11_count, (tt_of 1229 (by decide +kernel) rfl), kn_X11_count, kl_RX11_X11_count, ki_RX11, ⟨by decide, by decide, by decide +kernel⟩, by decide⟩
theorem kV_RX11_272 : kV RX11 272 RX11 yX11_second cX11_second 2 (some .int) 1 := ⟨kc_X11_second, (tt_of 1230 (by decide +kernel) rfl), kn_X11_second, kl_RX11_X11_second, ki_RX11, ⟨by decide, by decide, by decide +kernel⟩, by decide⟩
theorem kV_RX11_275 : kV RX11 275 RX11 yX11_tellsBig cX11_tellsBig 6 (some .long) 2 := ⟨kc_X11_tellsBig, (tt_of 1231 (by decide +kernel) rfl), kn_X11_tellsBig, kl_RX11_X11_tellsBig, ki_RX11, ⟨by decide, by decide, by decide +kernel⟩, by decide⟩
theorem kN_RX1_35 : kN RX1 35 yX10_isBigLetter RX10 cX10_isBigLetter 1 (some .boolean) 1 := ⟨kc_X10_isBigLetter, by decide +kernel, kt_X10_isBigLetter, ki_RX10, ⟨by decide, by decide, by decide +kernel⟩, by decide⟩
theorem kN_RX1_43 : kN RX1 43 yX10_isSmallLetter RX10 cX10_isSmallLetter 1 (some .boolean) 1 := ⟨kc_X10_isSmallLetter, by decide +kernel, kt_X10_isSmallLetter, ki_RX10, ⟨by decide, by decide, by decide +kernel⟩, by decide⟩
theorem kN_RX3_40 : kN RX3 40 yX10_isSmallLetter RX10 cX10_isSmallLetter 1 (some .boolean) 1 := ⟨kc_X10_isSmallLetter, by decide +kernel, kt_X10_isSmallLetter, ki_RX10, ⟨by decide, by decide, by decide +kernel⟩, by decide⟩
theorem kN_RX3_60 : kN RX3 60 yX10_isBigLetter RX10 cX10_isBigLetter 1 (some .boolean) 1 := ⟨kc_X10_isBigLetter, by decide +kernel, kt_X10_isBigLetter, ki_RX10, ⟨by decide, by decide, by decide +kernel⟩, by decide⟩
theorem kk_RX10_246 : Cond.constant RX10 246 (1103515245) ∈ TT := tt_of 708 (by decide +kernel) rfl
theorem kk_RX10_263 : Cond.constant RX10 263 (-2147483648) ∈ TT := tt_of 757 (by decide +kernel) rfl
theorem kk_RX11_89 : Cond.constant RX11 89 (-2147483648) ∈ TT := tt_of 930 (by decide +kernel) rfl
theorem kk_RX11_252 : Cond.constant RX11 252 (1103515245) ∈ TT := tt_of 1214 (by decide +kernel) rfl
theorem kk_RJ6_265 : Cond.constant RJ6 265 (1431655765) ∈ TT := tt_of 526 (by decide +kernel) rfl
theorem kk_RJ6_266 : Cond.constant RJ6 266 (858993459) ∈ TT := tt_of 527 (by decide +kernel) rfl
theorem kk_RJ6_267 : Cond.constant RJ6 267 (252645135) ∈ TT := tt_of 528 (by decide +kernel) rfl
theorem kk_RX10_235 : Cond.constantLong RX10 235 (-9223372036854775806) ∈ TT := tt_of 692 (by decide +kernel) rfl
theorem kk_RX10_282 : Cond.constantLong RX10 282 (17) ∈ TT := tt_of 786 (by decide +kernel) rfl
theorem kk_RX10_358 : Cond.constantLong RX10 358 (31) ∈ TT := tt_of 795 (by decide +kernel) rfl
theorem kk_RX11_59 : Cond.constantLong RX11 59 (-9223372036854775808) ∈ TT := tt_of 1196 (by decide +kernel) rfl
theorem kk_RX11_69 : Cond.constantLong RX11 69 (3) ∈ TT := tt_of 902 (by decide +kernel) rfl
theorem kk_RX11_75 : Cond.constantLong RX11 75 (2) ∈ TT := tt_of 906 (by decide +kernel) rfl
theorem kk_RX11_93 : Cond.constantLong RX11 93 (255) ∈ TT := tt_of 942 (by decide +kernel) rfl
theorem kk_RX11_101 : Cond.constantLong RX11 101 (97) ∈ TT := tt_of 971 (by decide +kernel) rfl
theorem kk_RX11_103 : Cond.constantLong RX11 103 (104) ∈ TT := tt_of 972 (by decide +kernel) rfl
theorem kk_RX11_105 : Cond.constantLong RX11 105 (65) ∈ TT := tt_of 977 (by decide +kernel) rfl
theorem kk_RX11_107 : Cond.constantLong RX11 107 (72) ∈ TT := tt_of 978 (by decide +kernel) rfl
theorem kk_RX11_145 : Cond.constantLong RX11 145 (7) ∈ TT := tt_of 1033 (by decide +kernel) rfl
theorem kk_RX11_156 : Cond.constantLong RX11 156 (29) ∈ TT := tt_of 1029 (by decide +kernel) rfl
theorem kk_RX11_182 : Cond.constantLong RX11 182 (9) ∈ TT := tt_of 1073 (by decide +kernel) rfl
theorem kk_RX11_204 : Cond.constantLong RX11 204 (4) ∈ TT := tt_of 1113 (by decide +kernel) rfl
theorem kk_RX11_209 : Cond.constantLong RX11 209 (-1) ∈ TT := tt_of 1126 (by decide +kernel) rfl
theorem kk_RX11_234 : Cond.constantLong RX11 234 (16) ∈ TT := tt_of 1184 (by decide +kernel) rfl
theorem kk_RX11_239 : Cond.constantLong RX11 239 (128) ∈ TT := tt_of 1189 (by decide +kernel) rfl
theorem kk_RX11_253 : Cond.constantLong RX11 253 (99) ∈ TT := tt_of 1209 (by decide +kernel) rfl
theorem kk_RX11_258 : Cond.constantLong RX11 258 (31) ∈ TT := tt_of 1228 (by decide +kernel) rfl
theorem kk_RX11_267 : Cond.constantLong RX11 267 (17) ∈ TT := tt_of 1227 (by decide +kernel) rfl
theorem kac_1 : Cond.methodLink RX7 43 arraycopyName ∈ TT := tt_of 766 (by decide +kernel) rfl
theorem kac_2 : Cond.native arraycopyName ∈ TT := tt_of 768 (by decide +kernel) rfl
theorem kac_3 : Cond.static arraycopyName ∈ TT := tt_of 767 (by decide +kernel) rfl
