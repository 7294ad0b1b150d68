/-! copy, write, read -/
theorem HasP_nI {x y : Int32} {sz : Nat} (hs : sz ≤ 60) (h : HasP x y sz) : ∃ i l, i + l ≤ sz ∧ x = nI i ∧ y = nI l := by
  have z0 : (0 : Int32).toInt = 0 := rfl
  obtain ⟨i, hi, rfl⟩ := nI_of (x := x) (by rw [Int32.lt_iff_toInt_lt]; have := h.1; omega)
  obtain ⟨l, hl, rfl⟩ := nI_of (x := y) (by rw [Int32.lt_iff_toInt_lt]; have := h.2.1; omega)
  have h3 := h.2.2
  rw [nI_toInt hi, nI_toInt hl] at h3
  exact ⟨i, l, by omega, rfl, rfl⟩
theorem lg_le (x y : Int64) : lg_cmp x y ≤ 0 ↔ x ≤ y := by
  rw [← Int32.not_lt, lg_gt, Int64.not_lt]
theorem sum64 {x y : Int32} {sz : Nat} (hs : sz ≤ 60) (hx : ¬ x < 0) (hy : ¬ y < 0) : x.toInt64 + y.toInt64 ≤ (nI sz).toInt64 ↔ HasP x y sz := by
  have z0 : (0 : Int32).toInt = 0 := rfl
  have h1 := fb_rng x
  have h2 := fb_rng y
  rw [Int32.lt_iff_toInt_lt] at hx hy
  rw [Int64.le_iff_toInt_le, fb_addL (by rw [Int32.toInt_toInt64, Int32.toInt_toInt64]; omega) (by rw [Int32.toInt_toInt64, Int32.toInt_toInt64]; omega), Int32.toInt_toInt64, Int32.toInt_toInt64, Int32.toInt_toInt64, nI_toInt (by omega)]
  unfold HasP
  omega
section
variable {u v w : Mem} {ux um wx wm : Mem} {b d : Nat → Int32} {n m : Nat} {f : Int32} {lw lb lz : Nat → Int32} {c : Nat} {ss sb : Nat → Int32} {k : Nat}
theorem e60 (s i : Nat) : (60 : Int32) * nI s + nI i = nI (60 * s + i) := by rw [show (60 : Int32) = nI 60 from rfl, pk_mul, nI_add]
theorem e60k (s : Nat) : (60 : Int32) * nI s = nI (60 * s) := by rw [show (60 : Int32) = nI 60 from rfl, pk_mul]
theorem xc_go {s1 s3 : Nat} {x2 x4 x5 : Int32} {Q : Int32 → Mem → Prop} (h1 : s1 < 4) (h3 : s3 < 4) (hb1 : bz (u.1 (16 + 3 * s1))) (hb3 : bz (u.1 (16 + 3 * s3)))
    (q : (¬ u.1 (16 + 3 * s1) = 0 → Q ((-10) - 1) (sS u 1 1)) ∧ (u.1 (16 + 3 * s1) = 0 → (¬ u.1 (16 + 3 * s3) = 0 → Q ((-10) - 1) (sS u 1 1)) ∧ (u.1 (16 + 3 * s3) = 0 → (¬ u.1 (14 + 3 * s1) = u.1 (14 + 3 * s3) → Q ((-10) - 4) (sS u 1 4)) ∧ (u.1 (14 + 3 * s1) = u.1 (14 + 3 * s3) → w_Z_hasItems s1 x2 x5 u (fun r => (r = 0 → Q ((-10) - 2) (sS u 1 2)) ∧ (¬ r = 0 → w_Z_hasItems s3 x4 x5 u (fun r => (¬ r = 0 → w_Z_takeFrom s3 s1 x2 x4 x5 u (fun z => Q 1 z)) ∧ (r = 0 → Q ((-10) - 2) (sS u 1 2))))))))) : w_X_copy (nI s1) x2 (nI s3) x4 x5 u Q := by
  refine p_isSheet (fun _ => t01 (p_isSheet (fun _ => t10 ?_) (fun e => absurd (SH_of h3) e))) (fun e => absurd (SH_of h1) e)
  unfold w_Z_isLost w_Z_formOf w_X_copy_b49 w_X_copy_b97 w_X_finding
  rw [nI_clamp (by omega), nI_clamp (by omega)]
  exact ⟨vp_in_nI h1 (by omega), vp_in_nI h3 (by omega), hb1, fun e => q.1 e, fun e => ⟨hb3, fun e2 => ⟨fun e3 => ((q.2 e).2 e2).2 e3, fun e3 => ((q.2 e).2 e2).1 e3⟩, fun e2 => (q.2 e).1 e2⟩⟩
theorem mc_go {s1 s3 z1 z3 : Nat} {x2 x4 x5 : Int32} {Q : Int32 → Mem → Prop} (h1 : s1 < 4) (h3 : s3 < 4)
    (q : (u.2 0 s1 < 0 → Q ((-10) - 1) (sS u 0 1)) ∧ (¬ u.2 0 s1 < 0 → (¬ 0 ≤ u.2 0 s3 → Q ((-10) - 1) (sS u 0 1)) ∧ (0 ≤ u.2 0 s3 → (¬ u.2 0 s1 = u.2 0 s3 → Q ((-10) - 4) (sS u 0 4)) ∧ (u.2 0 s1 = u.2 0 s3 → z1 ≤ 60 ∧ z3 ≤ 60 ∧ u.2 1 s1 = nI z1 ∧ u.2 1 s3 = nI z3 ∧ (¬ (HasP x2 x5 z1 ∧ HasP x4 x5 z3) → Q ((-10) - 2) (sS u 0 2)) ∧ ((HasP x2 x5 z1 ∧ HasP x4 x5 z3) → ∃ g, w_M_copy_l120 (fun u9 => ∃ g, w_M_copy_l157 (fun z => Q 1 z) (nI s3) x4 x5 Q g 0 u9) (nI s1) x2 (nI s3) x4 x5 Q g 0 u))))) : w_M_copy (nI s1) x2 (nI s3) x4 x5 u Q := by
  have hv1 : vp_in (nI s1) 4 := vp_in_nI h1 (by omega)
  have hv3 : vp_in (nI s3) 4 := vp_in_nI h3 (by omega)
  refine p_M_isSheet (fun _ => t01 (p_M_isSheet (fun _ => t10 ?_) (fun e => absurd (SH_of h3) e))) (fun e => absurd (SH_of h1) e)
  unfold w_M_copy_b35 w_M_copy_b111 w_M_met
  rw [nI_clamp (by omega), nI_clamp (by omega)]
  refine ⟨hv1, fun e => q.1 e, fun e => ⟨hv3, fun e2 => ⟨hv1, hv3, fun e3 => ?_, fun e3 => ((q.2 e).2 e2).1 e3⟩, fun e2 => (q.2 e).1 e2⟩⟩
  obtain ⟨hz1, hz3, y1, y3, q0, q1⟩ := ((q.2 e).2 e2).2 e3
  have z0 : (0 : Int32).toInt = 0 := rfl
  rw [y1, y3]
  refine ⟨fun g => q0 (fun p => ?_), fun g => ⟨fun g2 => q0 (fun p => ?_), fun g2 => ⟨fun g3 => q0 (fun p => ?_), fun g3 => ⟨hv1, fun g4 => q0 (fun p => ?_), fun g4 => ⟨hv3, fun g5 => q1 ⟨?_, ?_⟩, fun g5 => q0 (fun p => ?_)⟩⟩⟩⟩⟩
  · rw [Int32.lt_iff_toInt_lt] at g; have := p.1.1; omega
  · rw [Int32.lt_iff_toInt_lt] at g2; have := p.2.1; omega
  · rw [Int32.lt_iff_toInt_lt] at g3; have := p.1.2.1; omega
  · rw [lg_gt, ← Int64.not_le, sum64 hz1 g g3] at g4; exact g4 p.1
  · rw [lg_gt, ← Int64.not_le, sum64 hz1 g g3, Classical.not_not] at g4; exact g4
  · rw [lg_le, sum64 hz3 g2 g3] at g5; exact g5
  · rw [lg_le, sum64 hz3 g2 g3] at g5; exact g5 p.2
theorem mc_loop {s1 s3 i2 i4 l : Nat} {X : Mem → Prop} {Q : Int32 → Mem → Prop} (h1 : s1 < 4) (h3 : s3 < 4) (hi2 : i2 + l ≤ 60) (hi4 : i4 + l ≤ 60) (q : ∀ w, w.1 = u.1 → w.2 0 = u.2 0 → w.2 1 = u.2 1 → (∀ i, w.2 2 i = if 60 * s3 + i4 ≤ i ∧ i < 60 * s3 + i4 + l then u.2 2 (60 * s1 + i2 + (i - (60 * s3 + i4))) else u.2 2 i) → FY u w → X w) : ∃ g, w_M_copy_l120 (fun u9 => ∃ g, w_M_copy_l157 X (nI s3) (nI i4) (nI l) Q g 0 u9) (nI s1) (nI i2) (nI s3) (nI i4) (nI l) Q g 0 u := by
  refine exinv (fun g (a : Int32 × Mem) => w_M_copy_l120 (fun u9 => ∃ g, w_M_copy_l157 X (nI s3) (nI i4) (nI l) Q g 0 u9) (nI s1) (nI i2) (nI s3) (nI i4) (nI l) Q g a.1 a.2) (fun j a => a.1 = nI j ∧ Fr [] [3] u a.2 ∧ ∀ i, i < j → a.2.2 3 i = u.2 2 (60 * s1 + i2 + i)) l (0, u) ⟨rfl, Fr.rf, fun j hj => absurd hj (Nat.not_lt_zero j)⟩ ?_ ?_
  · rintro g ⟨_, v⟩ ⟨rfl, gv, hv⟩
    dsimp only at gv hv ⊢
    rw [w_M_copy_l120]
    refine ⟨fun _ => ?_, fun e => absurd ((nI_leI (by omega) (by omega)).mpr (by omega)) e⟩
    refine exinv (fun g (a : Int32 × Mem) => w_M_copy_l157 X (nI s3) (nI i4) (nI l) Q g a.1 a.2) (fun j a => a.1 = nI j ∧ Fr [] [2] v a.2 ∧ ∀ i, a.2.2 2 i = if 60 * s3 + i4 ≤ i ∧ i < 60 * s3 + i4 + j then u.2 2 (60 * s1 + i2 + (i - (60 * s3 + i4))) else u.2 2 i) l (0, v) ⟨rfl, Fr.rf, fun i => ?_⟩ ?_ ?_
    · rw [if_neg (by omega)]; exact congrFun (gv.2 2 (by decide)) i
    · rintro g ⟨_, w⟩ ⟨rfl, gw, hw⟩
      dsimp only at gw hw ⊢
      rw [w_M_copy_l157]
      refine ⟨fun _ => q w ?_ ?_ ?_ hw ?_, fun e => absurd ((nI_leI (by omega) (by omega)).mpr (by omega)) e⟩
      · funext j; rw [gw.1 j (by simp), gv.1 j (by simp)]
      · rw [gw.2 0 (by decide), gv.2 0 (by decide)]
      · rw [gw.2 1 (by decide), gv.2 1 (by decide)]
      · exact (gv.wide (by decide) (by decide)).tr (gw.wide (by decide) (by decide))
    · rintro g j ⟨_, w⟩ hj ⟨rfl, gw, hw⟩ ih
      dsimp only at gw hw ⊢
      rw [w_M_copy_l157, e60, nI_add, nI_clamp (by omega), nI_clamp (by omega)]
      refine ⟨fun e => absurd ((nI_leI (by omega) (by omega)).mp e) (by omega), fun _ => ⟨vp_in_nI (by omega) (by omega), vp_in_nI (by omega) (by omega), ih (_, _) ⟨nI_1 j, Fr.sA (by decide) gw, fun i => ?_⟩⟩⟩
      dsimp only
      rw [if_pos rfl, upd_ap, gw.2 3 (by decide), hv j hj, hw i]
      by_cases e : i = 60 * s3 + i4 + j
      · rw [if_pos e, if_pos (by omega), show i - (60 * s3 + i4) = j by omega]
      · rw [if_neg e]
        by_cases e2 : 60 * s3 + i4 ≤ i ∧ i < 60 * s3 + i4 + j
        · rw [if_pos e2, if_pos (by omega)]
        · rw [if_neg e2, if_neg (by omega)]
  · rintro g j ⟨_, v⟩ hj ⟨rfl, gv, hv⟩ ih
    dsimp only at gv hv ⊢
    rw [w_M_copy_l120, e60, nI_add, nI_clamp (by omega), nI_clamp (by omega)]
    refine ⟨fun e => absurd ((nI_leI (by omega) (by omega)).mp e) (by omega), fun _ => ⟨vp_in_nI (by omega) (by omega), vp_in_nI (by omega) (by omega), ih (_, _) ⟨nI_1 j, Fr.sA (by decide) gv, fun i hi => ?_⟩⟩⟩
    dsimp only
    rw [if_pos rfl, upd_ap]
    by_cases e : i = j
    · rw [if_pos e, e, gv.2 2 (by decide)]
    · rw [if_neg e]; exact hv i (by omega)
theorem s_copy (h : Rel ux um) : ∀ a1 a2 a3 a4 a5 : Int32, w_X_copy a1 a2 a3 a4 a5 ux (fun rX wX => w_M_copy a1 a2 a3 a4 a5 um (fun rM wM => rX = rM ∧ Rel wX wM)) := by
  intro a1 a2 a3 a4 a5
  have sh := h.2.1
  by_cases hc : SH a1 ∧ SH a3
  · obtain ⟨s1, h1, rfl⟩ := SH_nI hc.1
    obtain ⟨s3, h3, rfl⟩ := SH_nI hc.2
    rcases sh s1 h1 with ⟨l1, l2⟩ | ⟨l1, fo, sz, hfo, hsz, q1, q2, q3, q4, q5⟩
    · have hb3 : bz (ux.1 (16 + 3 * s3)) := by
        rcases sh s3 h3 with x | x
        · exact Or.inr x.1
        · exact Or.inl x.1
      refine xc_go h1 h3 (Or.inr l1) hb3 ⟨fun _ => ?_, fun e => absurd (l1.symm.trans e) (by decide)⟩
      exact mc_go (z1 := 0) (z3 := 0) h1 h3 ⟨fun _ => ⟨rfl, Rel_find h⟩, fun e => absurd (by rw [l2]; decide) e⟩
    · have np : ¬ um.2 0 s1 < 0 := by rw [q2]; exact nI_pos (by omega)
      rcases sh s3 h3 with ⟨k1, k2⟩ | ⟨k1, fo3, sz3, hfo3, hsz3, r1, r2, r3, r4, r5⟩
      · refine xc_go h1 h3 (Or.inl l1) (Or.inr k1) ⟨fun e => absurd l1 e, fun _ => ⟨fun _ => ?_, fun e => absurd (k1.symm.trans e) (by decide)⟩⟩
        exact mc_go (z1 := 0) (z3 := 0) h1 h3 ⟨fun e => absurd e np, fun _ => ⟨fun _ => ⟨rfl, Rel_find h⟩, fun e => absurd e (by rw [k2]; decide)⟩⟩
      · have nq : 0 ≤ um.2 0 s3 := by rw [r2]; exact nI_pos' (by omega)
        refine xc_go h1 h3 (Or.inl l1) (Or.inl k1) ⟨fun e => absurd l1 e, fun _ => ⟨fun e => absurd k1 e, fun _ => ⟨fun e => ?_, fun e => ?_⟩⟩⟩
        · rw [q1, r1] at e
          exact mc_go (z1 := 0) (z3 := 0) h1 h3 ⟨fun e => absurd e np, fun _ => ⟨fun e => absurd nq e, fun _ => ⟨fun _ => ⟨rfl, Rel_find h⟩, fun y => absurd (by rw [q2, r2] at y; exact y) e⟩⟩⟩
        · rw [q1, r1] at e
          have hbad : ¬ (HasP a2 a5 sz ∧ HasP a4 a5 sz3) → w_M_copy (nI s1) a2 (nI s3) a4 a5 um (fun rM wM => (-10) - 2 = rM ∧ Rel (sS ux 1 2) wM) := fun hn => mc_go (z1 := sz) (z3 := sz3) h1 h3 ⟨fun e => absurd e np, fun _ => ⟨fun e => absurd nq e, fun _ => ⟨fun y => absurd (by rw [q2, r2]; exact e) y, fun _ => ⟨hsz, hsz3, q4, r4, fun _ => ⟨rfl, Rel_find h⟩, fun y => absurd y hn⟩⟩⟩⟩
          refine p_has q3 hsz (fun p1 => t01 (p_has r3 hsz3 (fun p3 => t10 ?_) (fun p3 => f10 (hbad (fun y => p3 y.2))))) (fun p1 => f01 (hbad (fun y => p1 y.1)))
          obtain ⟨i2, l, hl, rfl, rfl⟩ := HasP_nI hsz p1
          obtain ⟨i4, l', hl', rfl, el⟩ := HasP_nI hsz3 p3
          obtain rfl : l = l' := (nI_eq (by omega) (by omega)).mp el
          unfold w_Z_takeFrom
          refine p_has q3 hsz (fun _ => t01 (p_has r3 hsz3 (fun _ => t01 ?_) (fun y => absurd p3 y))) (fun y => absurd p1 y)
          rw [nI_clamp (by omega), nI_clamp (by omega), nI_clamp (by omega)]
          refine ⟨⟨nI_pos (by omega), nI_pos (by omega), nI_pos (by omega), by omega, by omega⟩, ?_⟩
          refine mc_go (z1 := sz) (z3 := sz3) h1 h3 ⟨fun e => absurd e np, fun _ => ⟨fun e => absurd nq e, fun _ => ⟨fun y => absurd (by rw [q2, r2]; exact e) y, fun _ => ⟨hsz, hsz3, q4, r4, fun y => absurd ⟨p1, p3⟩ y, fun _ => mc_loop h1 h3 (by omega) (by omega) (fun wm v1 v2 v3 v4 gm => ⟨rfl, ?_⟩)⟩⟩⟩⟩
          have gx : FZ s3 ux (sR ux (17 + s3) (va_cpy (ux.2 (17 + s1)) (ux.2 (17 + s3)) i2 i4 l)) := ⟨fun _ _ => rfl, fun j hj => by rw [sR_2, if_neg (fun y => hj (by rw [y]; simp))]⟩
          refine Rel_sh h gx gm rfl (by rw [v1]) (ShR_upd sh gx (fun j _ => by rw [v2, v3]; exact ⟨rfl, rfl⟩) (fun i hi => by rw [v4 i, if_neg (by omega)]) (Or.inr ⟨k1, fo3, sz3, hfo3, hsz3, r1, by rw [v2]; exact r2, r3, by rw [v3]; exact r4, fun i hi => ?_⟩))
          rw [sR_2, if_pos rfl, v4]
          by_cases g : i4 ≤ i ∧ i < i4 + l
          · rw [if_pos (by omega), pk_cpy_in g.1 g.2, q5 _ (by omega), show 60 * s3 + i - (60 * s3 + i4) = i - i4 by omega, Nat.add_assoc]
          · rw [if_neg (by omega), pk_cpy_out (by omega)]; exact r5 i hi
  · exact p_isSheet (fun c1 => t01 (p_isSheet (fun c2 => absurd ⟨c1, c2⟩ hc) (fun c2 => f10 (p_M_isSheet (fun _ => t01 (p_M_isSheet (fun e => absurd e c2) (fun _ => f10 ⟨rfl, h⟩))) (fun e => absurd c1 e))))) (fun c1 => f01 (p_M_isSheet (fun e => absurd e c1) (fun _ => f01 ⟨rfl, h⟩)))
/-! write -/
def pkV (x : Int32) (p : Int32 × Int32) : Int32 := if x = 0 then p.1 else p.2
theorem xw_loop {s N sz : Nat} {x1 : Int32} {g : Nat → Int32 × Int32} {X : Mem → Prop} {Q : Int32 → Mem → Prop} (hs : s < 4) (hN : N ≤ 30) (hN2 : N ≤ sz) (hsz : sz ≤ 60) (e15 : v.1 (15 + 3 * s) = nI sz) (hk : WksX v g N) (q : ∀ w, Fr [] [17 + s] v w → (∀ i, w.2 (17 + s) i = if i < N then cutF (v.1 (14 + 3 * s)) (pkV x1 (g i)) else v.2 (17 + s) i) → X w) : ∃ f, w_X_write_l67 X x1 (nI s) (nI N) Q f 0 v := by
  refine exinv (fun h (a : Int32 × Mem) => w_X_write_l67 X x1 (nI s) (nI N) Q h a.1 a.2) (fun j a => a.1 = nI j ∧ Fr [] [17 + s] v a.2 ∧ ∀ i, a.2.2 (17 + s) i = if i < j then cutF (v.1 (14 + 3 * s)) (pkV x1 (g i)) else v.2 (17 + s) i) N (0, v) ⟨rfl, Fr.rf, fun i => rfl⟩ ?_ ?_
  · rintro h ⟨_, w⟩ ⟨rfl, gw, hw⟩
    dsimp only at gw hw ⊢
    rw [w_X_write_l67]
    exact ⟨fun _ => q w gw hw, fun e => absurd ((nI_leI (by omega) (by omega)).mpr (by omega)) e⟩
  · rintro h j ⟨_, w⟩ hj ⟨rfl, gw, hw⟩ ih
    dsimp only at gw hw ⊢
    rw [w_X_write_l67]
    have fin : ∀ r, r = (pkV x1 (g j)) → w_X_write_b106 (w_X_write_l67 X x1 (nI s) (nI N) Q h) X x1 (nI s) (nI N) (nI j) r (nI j) (nI s).toNatClampNeg w Q := by
      rintro _ rfl
      unfold w_X_write_b106 w_Z_setItem
      rw [nI_clamp (by omega)]
      refine p_has (sz := sz) (by rw [gw.1 _ (by simp)]; exact e15) hsz (fun _ => t01 ⟨fun e => absurd ((nI_leI (a := 60) (by omega) (by omega)).mp e) (by omega), fun _ => p_asForm ⟨vp_in_nI (by omega) (by omega), ?_⟩⟩) (fun e => absurd ?_ e)
      · rw [gw.1 _ (by simp), nI_clamp (by omega)]
        refine ih (_, _) ⟨nI_1 j, Fr.sA (by simp) gw, fun i => ?_⟩
        dsimp only
        rw [if_pos rfl, upd_ap, hw i]
        by_cases e : i = j
        · rw [if_pos e, if_pos (by omega), e]
        · rw [if_neg e]
          by_cases e2 : i < j
          · rw [if_pos e2, if_pos (by omega)]
          · rw [if_neg e2, if_neg (by omega)]
      · have e1 : (1 : Int32).toInt = 1 := rfl
        unfold HasP
        rw [nI_toInt (by omega), e1]
        omega
    have e13 : 13 ∉ [17 + s] ∧ 14 ∉ [17 + s] := by
      constructor <;> (intro x; simp only [List.mem_cons, List.not_mem_nil, or_false] at x; omega)
    refine ⟨fun e => absurd ((nI_leI (by omega) (by omega)).mp e) (by omega), fun _ => ⟨vp_in_nI hs (by omega), fun e => p_bigIn (by omega) (fin _ ?_), fun e => p_smallIn (by omega) (fin _ ?_)⟩⟩
    · unfold pkV; rw [if_neg e, gw.2 14 e13.2, (hk j hj).2]
    · unfold pkV; rw [if_pos e, gw.2 13 e13.1, (hk j hj).1]
theorem mw_loop {s N : Nat} {x1 : Int32} {g : Nat → Int32 × Int32} {X : Mem → Prop} {Q : Int32 → Mem → Prop} (hs : s < 4) (hN : N ≤ 30) (hk : WksM v g 30) (q : ∀ w, Fr [] [2] v w → (∀ i, w.2 2 i = if 60 * s ≤ i ∧ i < 60 * s + N then cutF (v.2 0 s) (pkV x1 (g (i - 60 * s))) else v.2 2 i) → X w) : ∃ f, w_M_write_l62 X x1 (nI s) (nI N) Q f 0 v := by
  refine exinv (fun h (a : Int32 × Mem) => w_M_write_l62 X x1 (nI s) (nI N) Q h a.1 a.2) (fun j a => a.1 = nI j ∧ Fr [] [2] v a.2 ∧ ∀ i, a.2.2 2 i = if 60 * s ≤ i ∧ i < 60 * s + j then cutF (v.2 0 s) (pkV x1 (g (i - 60 * s))) else v.2 2 i) N (0, v) ⟨rfl, Fr.rf, fun i => by rw [if_neg (by omega)]⟩ ?_ ?_
  · rintro h ⟨_, w⟩ ⟨rfl, gw, hw⟩
    dsimp only at gw hw ⊢
    rw [w_M_write_l62]
    exact ⟨fun _ => q w gw hw, fun e => absurd ((nI_leI (by omega) (by omega)).mpr (by omega)) e⟩
  · rintro h j ⟨_, w⟩ hj ⟨rfl, gw, hw⟩ ih
    dsimp only at gw hw ⊢
    rw [w_M_write_l62, nI_clamp (by omega), nI_clamp (by omega)]
    have fin : ∀ r, r = (pkV x1 (g j)) → w_M_write_b106 (w_M_write_l62 X x1 (nI s) (nI N) Q h) X x1 (nI s) (nI N) (nI j) r (w.2 0 s) ((60 * nI s) + nI j) w Q := by
      rintro _ rfl
      unfold w_M_write_b106
      rw [e60]
      refine p_cut ⟨vp_in_nI (by omega) (by omega), ?_⟩
      rw [gw.2 0 (by decide), nI_clamp (by omega)]
      refine ih (_, _) ⟨nI_1 j, Fr.sA (by decide) gw, fun i => ?_⟩
      dsimp only
      rw [if_pos rfl, upd_ap, hw i]
      by_cases e : i = 60 * s + j
      · rw [if_pos e, if_pos (by omega), show i - 60 * s = j by omega]
      · rw [if_neg e]
        by_cases e2 : 60 * s ≤ i ∧ i < 60 * s + j
        · rw [if_pos e2, if_pos (by omega)]
        · rw [if_neg e2, if_neg (by omega)]
    refine ⟨fun e => absurd ((nI_leI (by omega) (by omega)).mp e) (by omega), fun _ => ⟨vp_in_nI hs (by omega), fun e => ⟨vp_in_nI (by omega) (by omega), fin _ ?_⟩, fun e => ⟨vp_in_nI (by omega) (by omega), fin _ ?_⟩⟩⟩
    · unfold pkV; rw [if_neg e, gw.2 12 (by decide), (hk j (by omega)).2]
    · unfold pkV; rw [if_pos e, gw.2 11 (by decide), (hk j (by omega)).1]
theorem s_write (h : Rel ux um) : ∀ a1 a2 : Int32, w_X_write a1 a2 ux (fun rX wX => w_M_write a1 a2 um (fun rM wM => rX = rM ∧ Rel wX wM)) := by
  intro a1 a2
  have sh := h.2.1
  by_cases hc : T2 a1 ∧ SH a2
  · obtain ⟨s, hs, rfl⟩ := SH_nI hc.2
    have hv : vp_in (nI s) 4 := vp_in_nI hs (by omega)
    refine p_isEither (fun _ => t01 (p_isSheet (fun _ => t10 ?_) (fun e => absurd hc.2 e))) (fun e => absurd hc.1 e)
    unfold w_Z_isLost w_Z_size w_X_finding
    rw [nI_clamp (by omega)]
    rcases sh s hs with ⟨l1, l2⟩ | ⟨l1, fo, sz, hfo, hsz, q1, q2, q3, q4, q5⟩
    · refine ⟨hv, Or.inr l1, fun e => absurd (l1.symm.trans e) (by decide), fun _ => ?_⟩
      refine p_isTwo (fun _ => t01 (p_M_isSheet (fun _ => t10 ⟨hv, ?_⟩) (fun e => absurd hc.2 e))) (fun e => absurd hc.1 e)
      rw [nI_clamp (by omega), l2]
      exact ⟨fun e => absurd e (by decide), fun _ => ⟨rfl, Rel_find h⟩⟩
    · refine ⟨hv, Or.inl l1, fun _ => ⟨hv, ?_⟩, fun e => absurd l1 e⟩
      obtain ⟨⟨b, n, d, m, f, lw, lb, lz, c, ss, sb, k, ok, hx, hm⟩, -, hl⟩ := h
      rw [q3]
      refine pX_fresh hx fun w1 hw1 hh1 g1 => ?_
      obtain ⟨N, hN30, hNs, eN, eN2⟩ : ∃ N, N ≤ 30 ∧ N ≤ sz ∧ (if (30 : Int32) < nI sz then 30 else nI sz) = nI N ∧ N = (if 30 ≤ sz then 30 else sz) := by
        by_cases e : 30 < sz
        · exact ⟨30, by omega, by omega, if_pos ((nI_ltI (a := 30) (by omega) (by omega)).mpr e), by rw [if_pos (by omega)]⟩
        · exact ⟨sz, by omega, by omega, if_neg (fun x => e ((nI_ltI (a := 30) (by omega) (by omega)).mp x)), by split <;> omega⟩
      rw [eN]
      refine pX_run (N := N) hN30 rfl ok hw1 hh1 fun w2 hw2 hh2 hk g2 => ?_
      have gx : FX ux w2 := g1.tr g2
      have e15 : w2.1 (15 + 3 * s) = nI sz := by rw [gx.1 _ (by simp)]; exact q3
      refine xw_loop hs hN30 hNs hsz e15 hk (fun wx gwx hwx => ?_)
      refine p_isTwo (fun _ => t01 (p_M_isSheet (fun _ => t10 ⟨hv, ?_⟩) (fun e => absurd hc.2 e))) (fun e => absurd hc.1 e)
      rw [nI_clamp (by omega), q2]
      refine ⟨fun _ => pM_lv ok hm fun v hmv hr hkm gm => ⟨hv, ?_⟩, fun e => absurd (nI_pos' (by omega)) e⟩
      have v1 : v.2 1 s = nI sz := by rw [gm.2 1 (by decide)]; exact q4
      have v0 : v.2 0 s = nI fo := by rw [gm.2 0 (by decide)]; exact q2
      have hR : Rel w2 v := s_fin ok sh hl hw2 gx hmv gm
      have fin : w_M_write_b58 a1 (nI s) (nI N) v (fun rM wM => nI N = rM ∧ Rel wx wM) := by
        refine mw_loop hs hN30 hkm (fun wm gwm hwm => ⟨rfl, ?_⟩)
        have gz : FZ s w2 wx := gwx.wide (by simp) (by simp)
        have gy : FY v wm := gwm.wide (by decide) (by decide)
        refine Rel_sh hR gz gy (gwx.1 1 (by simp)) (gwm.1 0 (by simp)) (ShR_upd hR.2.1 gz (fun j _ => ?_) (fun i hi => by rw [hwm i, if_neg (by omega)]) (Or.inr ⟨?_, fo, sz, hfo, hsz, ?_, ?_, ?_, ?_, fun i hi => ?_⟩))
        · rw [gwm.2 0 (by decide), gwm.2 1 (by decide)]; exact ⟨rfl, rfl⟩
        · rw [gwx.1 _ (by simp), gx.1 _ (by simp)]; exact l1
        · rw [gwx.1 _ (by simp), gx.1 _ (by simp)]; exact q1
        · rw [gwm.2 0 (by decide)]; exact v0
        · rw [gwx.1 _ (by simp)]; exact e15
        · rw [gwm.2 1 (by decide)]; exact v1
        · rw [hwx i, hwm (60 * s + i), v0, gx.1 (14 + 3 * s) (by simp), q1]
          by_cases e : i < N
          · rw [if_pos e, if_pos (by omega), show 60 * s + i - 60 * s = i by omega]
          · rw [if_neg e, if_neg (by omega), gm.2 2 (by decide), gx.2 (17 + s) (by simp only [List.mem_cons, List.not_mem_nil, or_false]; omega)]; exact q5 i hi
      rw [v1, show (30 : Int32) = nI 30 from rfl, nI_leI (by omega) (by omega)]
      refine ⟨fun e => ?_, fun e => ⟨hv, ?_⟩⟩
      · rw [if_pos e] at eN2; rw [← eN2]; exact fin
      · rw [if_neg e] at eN2; rw [← eN2]; exact fin
  · refine p_isEither (fun c1 => t01 (p_isSheet (fun c2 => absurd ⟨c1, c2⟩ hc) (fun c2 => f10 ?_))) (fun c1 => f01 ?_)
    · exact p_isTwo (fun _ => t01 (p_M_isSheet (fun e => absurd e c2) (fun _ => f10 ⟨rfl, h⟩))) (fun e => absurd c1 e)
    · exact p_isTwo (fun e => absurd e c1) (fun _ => f01 ⟨rfl, h⟩)
end
