/-! the sheets -/
theorem SH_nI {x : Int32} (h : SH x) : ∃ s, s < 4 ∧ x = nI s := by
  obtain ⟨j, hj, e⟩ := nb_N (N := 3) rfl h
  exact ⟨j, by omega, e⟩
abbrev FZ (s : Nat) (u w : Mem) : Prop := Fr [1, 14 + 3 * s, 15 + 3 * s, 16 + 3 * s] [17 + s] u w
abbrev FY (u w : Mem) : Prop := Fr [0] [0, 1, 2, 3] u w
def cutF (fo x : Int32) : Int32 := if fo = 0 then x.toInt8.toInt32 else if fo = 1 then x.toInt16.toInt32 else x
def HasP (x y : Int32) (sz : Nat) : Prop := 0 ≤ x.toInt ∧ 0 ≤ y.toInt ∧ x.toInt + y.toInt ≤ sz
section
variable {u w : Mem} {ux um wx wm : Mem} {b d : Nat → Int32} {n m : Nat} {f : Int32} {lw lb lz : Nat → Int32} {c : Nat} {ss sb : Nat → Int32} {k : Nat}
theorem QX.sh {s : Nat} (h : QX u b n d m f lw lb lz c ss sb k) (g : FZ s u w) : QX w b n d m f lw lb lz c ss sb k := by
  have hS : ∀ j, j ≠ 1 → j < 14 → j ∉ [1, 14 + 3 * s, 15 + 3 * s, 16 + 3 * s] := fun j h1 h2 hj => by
    simp only [List.mem_cons, List.not_mem_nil, or_false] at hj; omega
  have hA : ∀ j, j < 17 → j ∉ [17 + s] := fun j h2 hj => by
    simp only [List.mem_cons, List.not_mem_nil, or_false] at hj; omega
  obtain ⟨h1, h2, h3, h4, h5, h6, h7, h8, h9, h10⟩ := h
  exact ⟨by rw [g.1 2 (hS 2 (by decide) (by decide))]; exact h1, by rw [g.1 3 (hS 3 (by decide) (by decide))]; exact h2, by rw [g.2 0 (hA 0 (by decide))]; exact h3, by rw [g.2 1 (hA 1 (by decide))]; exact h4, h5.keep g ⟨hS 4 (by decide) (by decide), hS 5 (by decide) (by decide)⟩ ⟨hA 2 (by decide), hA 3 (by decide), hA 4 (by decide)⟩, h6.keep g ⟨hS 8 (by decide) (by decide), hS 9 (by decide) (by decide)⟩ ⟨hA 5 (by decide), hA 6 (by decide)⟩, fun e => (h7 (by rw [g.1 0 (hS 0 (by decide) (by decide))] at e; exact e)).keep g ⟨hA 7 (by decide), hA 8 (by decide), hA 9 (by decide)⟩, by rw [g.1 11 (hS 11 (by decide) (by decide))]; exact h8, h9.keep g (hS 12 (by decide) (by decide)) ⟨hA 10 (by decide), hA 11 (by decide), hA 12 (by decide)⟩, h10.keep g (hS 13 (by decide) (by decide)) ⟨hA 15 (by decide), hA 16 (by decide)⟩⟩
theorem QM.sh (h : QM u b n d m f lw lb lz c ss sb k) (g : FY u w) : QM w b n d m f lw lb lz c ss sb k := by
  obtain ⟨h1, h2, h3, h4, h5⟩ := h
  exact ⟨h1.keep g (by decide) (by decide), h2.keep g (by decide) (by decide), by rw [g.1 4 (by decide)]; exact h3, h4.keep g (by decide) (by decide), h5.keep g (by decide) (by decide)⟩
theorem ShR_upd {s : Nat} (h : ShR ux um) (gx : FZ s ux wx) (gm0 : ∀ j, j ≠ s → wm.2 0 j = um.2 0 j ∧ wm.2 1 j = um.2 1 j) (gm2 : ∀ i, (i < 60 * s ∨ 60 * s + 60 ≤ i) → wm.2 2 i = um.2 2 i)
    (hnew : (wx.1 (16 + 3 * s) = 1 ∧ wm.2 0 s = -1) ∨ (wx.1 (16 + 3 * s) = 0 ∧ ∃ fo sz : Nat, fo ≤ 2 ∧ sz ≤ 60 ∧ wx.1 (14 + 3 * s) = nI fo ∧ wm.2 0 s = nI fo ∧ wx.1 (15 + 3 * s) = nI sz ∧ wm.2 1 s = nI sz ∧ ∀ i, i < sz → wx.2 (17 + s) i = wm.2 2 (60 * s + i))) : ShR wx wm := by
  intro t ht
  by_cases e : t = s
  · subst e; exact hnew
  · have hS : ∀ j, 14 + 3 * t ≤ j → j ≤ 16 + 3 * t → j ∉ [1, 14 + 3 * s, 15 + 3 * s, 16 + 3 * s] := fun j h1 h2 hj => by
      simp only [List.mem_cons, List.not_mem_nil, or_false] at hj; omega
    have hA : 17 + t ∉ [17 + s] := fun hj => by
      simp only [List.mem_cons, List.not_mem_nil, or_false] at hj; omega
    rw [gx.1 (16 + 3 * t) (hS _ (by omega) (by omega)), gx.1 (14 + 3 * t) (hS _ (by omega) (by omega)), gx.1 (15 + 3 * t) (hS _ (by omega) (by omega)), gx.2 (17 + t) hA, (gm0 t e).1, (gm0 t e).2]
    rcases h t ht with hq | ⟨q1, fo, sz, q2, q3, q4, q5, q6, q7, q8⟩
    · exact Or.inl hq
    · exact Or.inr ⟨q1, fo, sz, q2, q3, q4, q5, q6, q7, fun i hi => by rw [gm2 (60 * t + i) (by omega)]; exact q8 i hi⟩
theorem Rel_find {a : Int32} (h : Rel ux um) : Rel (sS ux 1 a) (sS um 0 a) := by
  obtain ⟨⟨b, n, d, m, f, lw, lb, lz, c, ss, sb, k, ok, hx, hm⟩, hs, hl⟩ := h
  have gx : FZ 0 ux (sS ux 1 a) := Fr.sS (by decide) Fr.rf
  have gm : FY um (sS um 0 a) := Fr.sS (by decide) Fr.rf
  refine ⟨⟨b, n, d, m, f, lw, lb, lz, c, ss, sb, k, ok, hx.sh gx, hm.sh gm⟩, ?_, rfl⟩
  intro s hs'
  have e : ∀ j, j ≠ 1 → (sS ux 1 a).1 j = ux.1 j := fun j hj => by rw [sS_1, if_neg hj]
  rw [e _ (by omega), e _ (by omega), e _ (by omega)]
  exact hs s hs'
theorem Rel_sh {s : Nat} (h : Rel ux um) (gx : FZ s ux wx) (gm : FY um wm) (h1 : wx.1 1 = ux.1 1) (h2 : wm.1 0 = um.1 0) (hs : ShR wx wm) : Rel wx wm := by
  obtain ⟨⟨b, n, d, m, f, lw, lb, lz, c, ss, sb, k, ok, hx, hm⟩, -, hl⟩ := h
  exact ⟨⟨b, n, d, m, f, lw, lb, lz, c, ss, sb, k, ok, hx.sh gx, hm.sh gm⟩, hs, by rw [h1, h2]; exact hl⟩
theorem p_asForm {s : Nat} {x : Int32} {Q : Int32 → Prop} (q : Q (cutF (u.1 (14 + 3 * s)) x)) : w_Z_asForm s x u Q := by
  unfold cutF at q
  refine ⟨fun e => ⟨fun e2 => ?_, fun e2 => ?_⟩, fun e => ?_⟩
  · rw [if_neg e, if_neg e2] at q; exact q
  · rw [if_neg e, if_pos e2] at q; exact q
  · rw [if_pos e] at q; exact q
theorem p_cut {fo x : Int32} {Q : Int32 → Prop} (q : Q (cutF fo x)) : w_M_cut fo x Q := by
  unfold cutF at q
  refine ⟨fun e => ⟨fun e2 => ?_, fun e2 => ?_⟩, fun e => ?_⟩
  · rw [if_neg e, if_neg e2] at q; exact q
  · rw [if_neg e, if_pos e2] at q; exact q
  · rw [if_pos e] at q; exact q
theorem p_has {s sz : Nat} {x y : Int32} {Q : Int32 → Prop} (hz : u.1 (15 + 3 * s) = nI sz) (hs : sz ≤ 60) (qt : HasP x y sz → Q 1) (qf : ¬ HasP x y sz → Q 0) : w_Z_hasItems s x y u Q := by
  have ez : (nI sz).toInt = sz := nI_toInt (by omega)
  have z0 : (0 : Int32).toInt = 0 := rfl
  unfold w_Z_hasItems
  rw [hz]
  refine ⟨fun e => qf (fun p => ?_), fun e => ⟨fun e2 => qf (fun p => ?_), fun e2 => ⟨fun e3 => qf (fun p => ?_), fun e3 => ?_⟩⟩⟩
  · rw [Int32.lt_iff_toInt_lt] at e; have := p.1; omega
  · rw [Int32.lt_iff_toInt_lt] at e2; have := p.2.1; omega
  · rw [Int32.lt_iff_toInt_lt] at e3; have := p.2.1; have := p.2.2; omega
  · rw [Int32.lt_iff_toInt_lt] at e e2 e3
    have es : (nI sz - x).toInt = sz - x.toInt := by rw [fb_subI (by omega) (by omega), ez]
    refine ⟨fun e4 => qf (fun p => ?_), fun e4 => qt ⟨by omega, by omega, ?_⟩⟩
    · rw [Int32.lt_iff_toInt_lt] at e4; have := p.2.2; omega
    · rw [Int32.lt_iff_toInt_lt] at e4; omega
theorem RuP_has {x : Int32} {sz : Nat} (hs : sz ≤ 60) : RuP x sz ↔ HasP x 1 sz := by
  unfold RuP HasP
  rw [Int32.le_iff_toInt_le, Int32.le_iff_toInt_le, show (1 : Int32) = nI 1 from rfl, pk_sub_toInt (by omega) (by omega)]
  have : (0 : Int32).toInt = 0 := rfl
  have : (nI 1).toInt = 1 := rfl
  omega
/-! what refuses an item, class -/
theorem xr1 {x y z : Int32} {Q : Int32 → Mem → Prop} (h : ¬ (SH x ∧ FO y)) (q : Q (-2) u) : w_X_itemRefusal x y z u Q := p_isSheet (fun c1 => t01 (p_isForm (fun c2 => absurd ⟨c1, c2⟩ h) (fun _ => f10 q))) (fun _ => f01 q)
theorem SH_of {s : Nat} (h : s < 4) : SH (nI s) := ⟨nI_pos' (by omega), (nI_leI (b := 3) (by omega) (by omega)).mpr (by omega)⟩
theorem xr_go {s : Nat} {y z : Int32} {Q : Int32 → Mem → Prop} (hs : s < 4) (hy : FO y) (hb : bz (u.1 (16 + 3 * s)))
    (q : (¬ u.1 (16 + 3 * s) = 0 → Q ((-10) - 1) (sS u 1 1)) ∧ (u.1 (16 + 3 * s) = 0 → (¬ u.1 (14 + 3 * s) = y → Q ((-10) - 3) (sS u 1 3)) ∧ (u.1 (14 + 3 * s) = y → w_Z_hasItems s z 1 u (fun r => (r = 0 → Q ((-10) - 2) (sS u 1 2)) ∧ (¬ r = 0 → Q 0 u))))) : w_X_itemRefusal (nI s) y z u Q := by
  refine p_isSheet (fun _ => t01 (p_isForm (fun _ => t10 ?_) (fun e => absurd hy e))) (fun e => absurd (SH_of hs) e)
  unfold w_Z_isLost w_Z_formOf w_X_finding
  rw [nI_clamp (by omega)]
  have hv : vp_in (nI s) 4 := vp_in_nI hs (by omega)
  exact ⟨hv, hb, fun e => ⟨hv, fun e2 => ⟨hv, (q.2 e).2 e2⟩, fun e2 => (q.2 e).1 e2⟩, fun e => q.1 e⟩
/-! and reference -/
theorem mr_go {s : Nat} {y z : Int32} {Q : Int32 → Mem → Prop} (hs : s < 4)
    (q : (¬ 0 ≤ u.2 0 s → Q ((-10) - 1) (sS u 0 1)) ∧ (0 ≤ u.2 0 s → (¬ u.2 0 s = y → Q ((-10) - 3) (sS u 0 3)) ∧ (u.2 0 s = y → (¬ (0 ≤ z ∧ z ≤ u.2 1 s - 1) → Q ((-10) - 2) (sS u 0 2)) ∧ ((0 ≤ z ∧ z ≤ u.2 1 s - 1) → Q 0 u)))) : w_M_lacks (nI s) y z u Q := by
  unfold w_M_lacks w_M_met
  rw [nI_clamp (by omega)]
  have hv : vp_in (nI s) 4 := vp_in_nI hs (by omega)
  refine ⟨hv, fun e => ⟨hv, fun e2 => ⟨hv, p_M_in (lo := 0) (hi := u.2 1 s - 1) rfl rfl (fun e3 => t01 (((q.2 e).2 e2).2 e3)) (fun e3 => f01 (((q.2 e).2 e2).1 e3))⟩, fun e2 => (q.2 e).1 e2⟩, fun e => q.1 e⟩
theorem x_begin {s z : Nat} {x : Int32} {Q : Mem → Prop} (hz : z ≤ 60) (q : ∀ w, w.1 1 = u.1 1 → w.1 (14 + 3 * s) = x → w.1 (15 + 3 * s) = nI z → w.1 (16 + 3 * s) = 0 → (∀ i, i < z → w.2 (17 + s) i = 0) → FZ s u w → Q w) : w_Z_begin s x (nI z) u Q := by
  intro y1 hy
  have e1 : (if (60 : Int32) < nI z then 60 else nI z) = nI z := if_neg (fun x => absurd ((nI_ltI (a := 60) (by omega) (by omega)).mp x) (by omega))
  have ey : y1 = nI z := by
    rw [hy, e1]
    split
    · rfl
    · rename_i x
      have : ¬ 0 < z := fun y => x ((nI_ltI (a := 0) (by omega) (by omega)).mpr y)
      rw [show z = 0 by omega]; rfl
  rw [ey]
  have g0 : FZ s u (sS (sS (sS u (14 + 3 * s) x) (15 + 3 * s) (nI z)) (16 + 3 * s) 0) := Fr.sS (by simp) (Fr.sS (by simp) (Fr.sS (by simp) Fr.rf))
  refine exinv (fun g (a : Int32 × Mem) => w_Z_begin_l26 (fun u2 => Q u2) s Q g a.1 a.2) (fun i a => a.1 = nI i ∧ a.2.1 = (sS (sS (sS u (14 + 3 * s) x) (15 + 3 * s) (nI z)) (16 + 3 * s) 0).1 ∧ (∀ j, j < i → a.2.2 (17 + s) j = 0) ∧ FZ s u a.2) z (0, _) ⟨rfl, rfl, fun j hj => absurd hj (Nat.not_lt_zero j), g0⟩ ?_ ?_
  · rintro g ⟨_, v⟩ ⟨rfl, h1, h2, h3⟩
    dsimp only at h1 h2 h3 ⊢
    have e15 : v.1 (15 + 3 * s) = nI z := by rw [h1, sS_1, if_neg (by omega), sS_1, if_pos rfl]
    rw [w_Z_begin_l26, e15]
    refine ⟨fun _ => q v (by rw [h1, sS_1, if_neg (by omega), sS_1, if_neg (by omega), sS_1, if_neg (by omega)]) (by rw [h1, sS_1, if_neg (by omega), sS_1, if_neg (by omega), sS_1, if_pos rfl]) e15 (by rw [h1, sS_1, if_pos rfl]) h2 h3, fun e => absurd ((nI_leI (by omega) (by omega)).mpr (by omega)) e⟩
  · rintro g i ⟨_, v⟩ hi ⟨rfl, h1, h2, h3⟩ ih
    dsimp only at h1 h2 h3 ⊢
    have e15 : v.1 (15 + 3 * s) = nI z := by rw [h1, sS_1, if_neg (by omega), sS_1, if_pos rfl]
    rw [w_Z_begin_l26, e15, nI_clamp (by omega)]
    refine ⟨fun e => absurd ((nI_leI (by omega) (by omega)).mp e) (by omega), fun _ => ⟨vp_in_nI (by omega) (by omega), ih (_, _) ⟨nI_1 i, h1, fun j hj => ?_, Fr.sA (by simp) h3⟩⟩⟩
    dsimp only
    rw [if_pos rfl, upd_ap]
    split
    · rfl
    · exact h2 j (by omega)
theorem m_begin {s z : Nat} {x : Int32} {Q : Int32 → Mem → Prop} {X : Mem → Prop} (hs : s < 4) (hz : z ≤ 60) (q : ∀ w, w.1 = u.1 → w.2 0 s = x → w.2 1 s = nI z → (∀ i, i < z → w.2 2 (60 * s + i) = 0) → (∀ j, j ≠ s → w.2 0 j = u.2 0 j ∧ w.2 1 j = u.2 1 j) → (∀ i, (i < 60 * s ∨ 60 * s + 60 ≤ i) → w.2 2 i = u.2 2 i) → FY u w → X w) : ∃ g, w_M_sheet_l55 X (nI s) (nI z) Q g 0 (sA (sA u 0 s x) 1 s (nI z)) := by
  have g0 : FY u (sA (sA u 0 s x) 1 s (nI z)) := Fr.sA (by decide) (Fr.sA (by decide) Fr.rf)
  have e60 : ∀ i, (60 : Int32) * nI s + nI i = nI (60 * s + i) := fun i => by rw [show (60 : Int32) = nI 60 from rfl, pk_mul, nI_add]
  refine exinv (fun g (a : Int32 × Mem) => w_M_sheet_l55 X (nI s) (nI z) Q g a.1 a.2) (fun i a => a.1 = nI i ∧ a.2.1 = u.1 ∧ a.2.2 0 = upd (u.2 0) s x ∧ a.2.2 1 = upd (u.2 1) s (nI z) ∧ (∀ j, j < i → a.2.2 2 (60 * s + j) = 0) ∧ (∀ j, (j < 60 * s ∨ 60 * s + 60 ≤ j) → a.2.2 2 j = u.2 2 j) ∧ FY u a.2) z (0, _) ⟨rfl, rfl, rfl, rfl, fun j hj => absurd hj (Nat.not_lt_zero j), fun j _ => rfl, g0⟩ ?_ ?_
  · rintro g ⟨_, v⟩ ⟨rfl, h1, h2, h3, h4, h5, h6⟩
    dsimp only at h1 h2 h3 h4 h5 h6 ⊢
    rw [w_M_sheet_l55]
    refine ⟨fun _ => q v h1 (by rw [h2, upd_ap, if_pos rfl]) (by rw [h3, upd_ap, if_pos rfl]) h4 (fun j hj => by rw [h2, h3, upd_ap, upd_ap, if_neg hj, if_neg hj]; exact ⟨rfl, rfl⟩) h5 h6, fun e => absurd ((nI_leI (by omega) (by omega)).mpr (by omega)) e⟩
  · rintro g i ⟨_, v⟩ hi ⟨rfl, h1, h2, h3, h4, h5, h6⟩ ih
    dsimp only at h1 h2 h3 h4 h5 h6 ⊢
    rw [w_M_sheet_l55, e60, nI_clamp (by omega)]
    refine ⟨fun e => absurd ((nI_leI (by omega) (by omega)).mp e) (by omega), fun _ => ⟨vp_in_nI (by omega) (by omega), ih (_, _) ⟨nI_1 i, h1, h2, h3, fun j hj => ?_, fun j hj => ?_, Fr.sA (by decide) h6⟩⟩⟩
    · dsimp only
      rw [if_pos rfl, upd_ap]
      split
      · rfl
      · exact h4 j (by omega)
    · dsimp only
      rw [if_pos rfl, upd_ap, if_neg (by omega)]
      exact h5 j hj
end
section
variable {ux um : Mem}
theorem s_sheet (h : Rel ux um) : ∀ a1 a2 a3 : Int32, w_X_sheet a1 a2 a3 ux (fun rX wX => w_M_sheet a1 a2 a3 um (fun rM wM => rX = rM ∧ Rel wX wM)) := by
  intro a1 a2 a3
  have sh := h.2.1
  refine p_isSheet (fun c1 => t01 (p_isForm (fun c2 => t01 ⟨fun c3 => ⟨fun c4 => ?_, fun c4 => ?_⟩, fun c3 => ?_⟩) (fun c2 => f01 ?_))) (fun c1 => f01 ?_)
  · obtain ⟨s, hs, rfl⟩ := SH_nI c1
    obtain ⟨z, hz, rfl⟩ := nb_N (N := 60) rfl ⟨c4, c3⟩
    obtain ⟨fo, hfo, rfl⟩ := nb_N (N := 2) rfl c2
    rw [nI_clamp (by omega)]
    refine ⟨vp_in_nI hs (by omega), x_begin hz (fun wx w1 w2 w3 w4 w5 gx => ?_)⟩
    refine p_M_isSheet (fun _ => t01 (p_M_in (lo := 0) (hi := 2) rfl rfl (fun _ => t01 ⟨fun _ => ⟨fun _ => ?_, fun e => absurd c4 e⟩, fun e => absurd c3 e⟩) (fun e => absurd c2 e))) (fun e => absurd c1 e)
    rw [nI_clamp (by omega)]
    refine ⟨vp_in_nI hs (by omega), vp_in_nI hs (by omega), m_begin hs hz (fun wm v1 v2 v3 v4 v5 v6 gm => ⟨rfl, Rel_sh h gx gm w1 (by rw [v1]) (ShR_upd sh gx v5 v6 (Or.inr ⟨w4, fo, z, hfo, hz, w2, v2, w3, v3, fun i hi => ?_⟩))⟩)⟩
    rw [w5 i hi, v4 i hi]
  · unfold w_X_finding
    exact p_M_isSheet (fun _ => t01 (p_M_in (lo := 0) (hi := 2) rfl rfl (fun _ => t01 ⟨fun _ => ⟨fun e => absurd e c4, fun _ => ⟨rfl, Rel_find h⟩⟩, fun e => absurd c3 e⟩) (fun e => absurd c2 e))) (fun e => absurd c1 e)
  · exact p_M_isSheet (fun _ => t01 (p_M_in (lo := 0) (hi := 2) rfl rfl (fun _ => t01 ⟨fun e => absurd e c3, fun _ => ⟨rfl, h⟩⟩) (fun e => absurd c2 e))) (fun e => absurd c1 e)
  · exact p_M_isSheet (fun _ => t01 (p_M_in (lo := 0) (hi := 2) rfl rfl (fun e => absurd e c2) (fun _ => f01 ⟨rfl, h⟩))) (fun e => absurd c1 e)
  · exact p_M_isSheet (fun e => absurd e c1) (fun _ => f01 ⟨rfl, h⟩)
theorem s_lose (h : Rel ux um) : ∀ a1 : Int32, w_X_lose a1 ux (fun rX wX => w_M_lose a1 um (fun rM wM => rX = rM ∧ Rel wX wM)) := by
  intro a1
  have sh := h.2.1
  refine p_isSheet (fun c1 => t10 ?_) (fun c1 => f10 (p_M_isSheet (fun e => absurd e c1) (fun _ => f10 ⟨rfl, h⟩)))
  obtain ⟨s, hs, rfl⟩ := SH_nI c1
  have hv : vp_in (nI s) 4 := vp_in_nI hs (by omega)
  unfold w_Z_isLost w_Z_size w_Z_end w_X_finding
  rw [nI_clamp (by omega)]
  rcases sh s hs with ⟨l1, l2⟩ | ⟨l1, fo, sz, hfo, hsz, q1, q2, q3, q4, q5⟩
  · refine ⟨hv, Or.inr l1, fun e => absurd (l1.symm.trans e) (by decide), fun _ => ?_⟩
    refine p_M_isSheet (fun _ => t10 ⟨hv, ?_⟩) (fun e => absurd c1 e)
    rw [nI_clamp (by omega), l2]
    exact ⟨fun e => absurd e (by decide), fun _ => ⟨rfl, Rel_find h⟩⟩
  · refine ⟨hv, Or.inl l1, fun _ => ⟨hv, hv, ?_⟩, fun e => absurd l1 e⟩
    refine p_M_isSheet (fun _ => t10 ⟨hv, ?_⟩) (fun e => absurd c1 e)
    rw [nI_clamp (by omega), q2, q3, q4]
    refine ⟨fun _ => ⟨hv, hv, rfl, ?_⟩, fun e => absurd (nI_pos' (by omega)) e⟩
    have gx : FZ s ux (sS (sS ux (15 + 3 * s) 0) (16 + 3 * s) 1) := Fr.sS (by simp) (Fr.sS (by simp) Fr.rf)
    have gm : FY um (sA um 0 s (-1)) := Fr.sA (by decide) Fr.rf
    refine Rel_sh h gx gm (by rw [sS_1, if_neg (by omega), sS_1, if_neg (by omega)]) rfl (ShR_upd sh gx (fun j hj => ?_) (fun i _ => rfl) (Or.inl ⟨by rw [sS_1, if_pos rfl], by rw [sA_2, if_pos rfl, upd_ap, if_pos rfl]⟩))
    rw [sA_2, if_pos rfl, upd_ap, if_neg hj]; exact ⟨rfl, rfl⟩
theorem s_put (h : Rel ux um) : ∀ a1 a2 a3 a4 : Int32, w_X_put a1 a2 a3 a4 ux (fun rX wX => w_M_put a1 a2 a3 a4 um (fun rM wM => rX = rM ∧ Rel wX wM)) := by
  intro a1 a2 a3 a4
  have sh := h.2.1
  by_cases hc : SH a1 ∧ FO a2
  · obtain ⟨s, hs, rfl⟩ := SH_nI hc.1
    have hv : vp_in (nI s) 4 := vp_in_nI hs (by omega)
    have e60 : ∀ i, (60 : Int32) * nI s + nI i = nI (60 * s + i) := fun i => by rw [show (60 : Int32) = nI 60 from rfl, pk_mul, nI_add]
    rcases sh s hs with ⟨l1, l2⟩ | ⟨l1, fo, sz, hfo, hsz, q1, q2, q3, q4, q5⟩
    · refine xr_go hs hc.2 (Or.inr l1) ⟨fun _ => ⟨fun e => absurd e (by decide), fun _ => ?_⟩, fun e => absurd (l1.symm.trans e) (by decide)⟩
      exact p_M_isSheet (fun _ => t01 (p_M_in (lo := 0) (hi := 2) rfl rfl (fun _ => t10 (mr_go hs ⟨fun _ => ⟨fun e => absurd e (by decide), fun _ => ⟨rfl, Rel_find h⟩⟩, fun e => absurd e (by rw [l2]; decide)⟩)) (fun e => absurd hc.2 e))) (fun e => absurd (SH_of hs) e)
    · refine xr_go hs hc.2 (Or.inl l1) ⟨fun e => absurd l1 e, fun _ => ⟨fun c3 => ⟨fun e => absurd e (by decide), fun _ => ?_⟩, fun c3 => p_has q3 hsz (fun c4 => t01 ?_) (fun c4 => f01 ⟨fun e => absurd e (by decide), fun _ => ?_⟩)⟩⟩
      · exact p_M_isSheet (fun _ => t01 (p_M_in (lo := 0) (hi := 2) rfl rfl (fun _ => t10 (mr_go hs ⟨fun e => absurd (by rw [q2]; exact nI_pos' (by omega)) e, fun _ => ⟨fun _ => ⟨fun e => absurd e (by decide), fun _ => ⟨rfl, Rel_find h⟩⟩, fun e => absurd (by rw [q1, ← e, q2]) c3⟩⟩)) (fun e => absurd hc.2 e))) (fun e => absurd (SH_of hs) e)
      · rw [← RuP_has hsz] at c4
        rw [q1] at c3
        obtain rfl := c3
        refine ⟨fun _ => ⟨hv, ?_⟩, fun e => absurd rfl e⟩
        rw [nI_clamp (by omega)]
        obtain ⟨i, hi, rfl⟩ := RuP_nI (by omega) c4
        unfold w_Z_setItem
        refine p_has q3 hsz (fun _ => t01 ⟨fun e => absurd ((nI_leI (a := 60) (by omega) (by omega)).mp e) (by omega), fun _ => p_asForm ⟨vp_in_nI (by omega) (by omega), ?_⟩⟩) (fun e => absurd ((RuP_has hsz).mp c4) e)
        rw [q1, nI_clamp (by omega)]
        refine p_M_isSheet (fun _ => t01 (p_M_in (lo := 0) (hi := 2) rfl rfl (fun _ => t10 (mr_go hs ⟨fun e => absurd (by rw [q2]; exact nI_pos' (by omega)) e, fun _ => ⟨fun e => absurd q2 e, fun _ => ⟨fun e => absurd (by rw [q4]; exact c4) e, fun _ => ⟨fun _ => p_cut ⟨?_, ?_⟩, fun e => absurd rfl e⟩⟩⟩⟩)) (fun e => absurd hc.2 e))) (fun e => absurd (SH_of hs) e)
        · rw [e60]; exact vp_in_nI (by omega) (by omega)
        · rw [e60, nI_clamp (by omega)]
          refine ⟨rfl, ?_⟩
          have gx : FZ s ux (sA ux (17 + s) i (cutF (nI fo) a4)) := Fr.sA (by simp) Fr.rf
          have gm : FY um (sA um 2 (60 * s + i) (cutF (nI fo) a4)) := Fr.sA (by decide) Fr.rf
          refine Rel_sh h gx gm rfl rfl (ShR_upd sh gx (fun j _ => ⟨rfl, rfl⟩) (fun j hj => ?_) (Or.inr ⟨l1, fo, sz, hfo, hsz, q1, q2, q3, q4, fun j hj => ?_⟩))
          · rw [sA_2, if_pos rfl, upd_ap, if_neg (by omega)]
          · rw [sA_2, if_pos rfl, sA_2, if_pos rfl, upd_ap, upd_ap]
            by_cases e : j = i
            · rw [if_pos e, if_pos (by omega)]
            · rw [if_neg e, if_neg (by omega)]; exact q5 j hj
      · rw [← RuP_has hsz] at c4
        rw [q1] at c3
        obtain rfl := c3
        exact p_M_isSheet (fun _ => t01 (p_M_in (lo := 0) (hi := 2) rfl rfl (fun _ => t10 (mr_go hs ⟨fun e => absurd (by rw [q2]; exact nI_pos' (by omega)) e, fun _ => ⟨fun e => absurd q2 e, fun _ => ⟨fun _ => ⟨fun e => absurd e (by decide), fun _ => ⟨rfl, Rel_find h⟩⟩, fun e => absurd (by rw [q4] at e; exact e) c4⟩⟩⟩)) (fun e => absurd hc.2 e))) (fun e => absurd (SH_of hs) e)
  · refine xr1 hc ⟨fun e => absurd e (by decide), fun _ => ?_⟩
    exact p_M_isSheet (fun c1 => t01 (p_M_in (lo := 0) (hi := 2) rfl rfl (fun c2 => absurd ⟨c1, c2⟩ hc) (fun _ => f10 ⟨rfl, h⟩))) (fun _ => f01 ⟨rfl, h⟩)
theorem s_get (h : Rel ux um) : ∀ a1 a2 a3 : Int32, w_X_get a1 a2 a3 ux (fun rX wX => w_M_get a1 a2 a3 um (fun rM wM => rX = rM ∧ Rel wX wM)) := by
  intro a1 a2 a3
  have sh := h.2.1
  by_cases hc : SH a1 ∧ FO a2
  · obtain ⟨s, hs, rfl⟩ := SH_nI hc.1
    have hv : vp_in (nI s) 4 := vp_in_nI hs (by omega)
    have e60 : ∀ i, (60 : Int32) * nI s + nI i = nI (60 * s + i) := fun i => by rw [show (60 : Int32) = nI 60 from rfl, pk_mul, nI_add]
    rcases sh s hs with ⟨l1, l2⟩ | ⟨l1, fo, sz, hfo, hsz, q1, q2, q3, q4, q5⟩
    · refine xr_go hs hc.2 (Or.inr l1) ⟨fun _ => ⟨fun e => absurd e (by decide), fun _ => ?_⟩, fun e => absurd (l1.symm.trans e) (by decide)⟩
      exact p_M_isSheet (fun _ => t01 (p_M_in (lo := 0) (hi := 2) rfl rfl (fun _ => t01 (mr_go hs ⟨fun _ => ⟨fun e => absurd e (by decide), fun _ => ⟨rfl, Rel_find h⟩⟩, fun e => absurd e (by rw [l2]; decide)⟩)) (fun e => absurd hc.2 e))) (fun e => absurd (SH_of hs) e)
    · refine xr_go hs hc.2 (Or.inl l1) ⟨fun e => absurd l1 e, fun _ => ⟨fun c3 => ⟨fun e => absurd e (by decide), fun _ => ?_⟩, fun c3 => p_has q3 hsz (fun c4 => t01 ?_) (fun c4 => f01 ⟨fun e => absurd e (by decide), fun _ => ?_⟩)⟩⟩
      · exact p_M_isSheet (fun _ => t01 (p_M_in (lo := 0) (hi := 2) rfl rfl (fun _ => t01 (mr_go hs ⟨fun e => absurd (by rw [q2]; exact nI_pos' (by omega)) e, fun _ => ⟨fun _ => ⟨fun e => absurd e (by decide), fun _ => ⟨rfl, Rel_find h⟩⟩, fun e => absurd (by rw [q1, ← e, q2]) c3⟩⟩)) (fun e => absurd hc.2 e))) (fun e => absurd (SH_of hs) e)
      · rw [← RuP_has hsz] at c4
        rw [q1] at c3
        obtain rfl := c3
        refine ⟨fun _ => ⟨hv, ?_⟩, fun e => absurd rfl e⟩
        rw [nI_clamp (by omega)]
        obtain ⟨i, hi, rfl⟩ := RuP_nI (by omega) c4
        unfold w_Z_item
        refine p_has q3 hsz (fun _ => t01 ⟨fun e => absurd ((nI_leI (a := 60) (by omega) (by omega)).mp e) (by omega), fun _ => ⟨vp_in_nI (by omega) (by omega), ?_⟩⟩) (fun e => absurd ((RuP_has hsz).mp c4) e)
        rw [nI_clamp (by omega)]
        refine p_M_isSheet (fun _ => t01 (p_M_in (lo := 0) (hi := 2) rfl rfl (fun _ => t01 (mr_go hs ⟨fun e => absurd (by rw [q2]; exact nI_pos' (by omega)) e, fun _ => ⟨fun e => absurd q2 e, fun _ => ⟨fun e => absurd (by rw [q4]; exact c4) e, fun _ => ⟨fun _ => ⟨?_, ?_⟩, fun e => absurd rfl e⟩⟩⟩⟩)) (fun e => absurd hc.2 e))) (fun e => absurd (SH_of hs) e)
        · rw [e60]; exact vp_in_nI (by omega) (by omega)
        · rw [e60, nI_clamp (by omega)]
          exact ⟨q5 i hi, h⟩
      · rw [← RuP_has hsz] at c4
        rw [q1] at c3
        obtain rfl := c3
        exact p_M_isSheet (fun _ => t01 (p_M_in (lo := 0) (hi := 2) rfl rfl (fun _ => t01 (mr_go hs ⟨fun e => absurd (by rw [q2]; exact nI_pos' (by omega)) e, fun _ => ⟨fun e => absurd q2 e, fun _ => ⟨fun _ => ⟨fun e => absurd e (by decide), fun _ => ⟨rfl, Rel_find h⟩⟩, fun e => absurd (by rw [q4] at e; exact e) c4⟩⟩⟩)) (fun e => absurd hc.2 e))) (fun e => absurd (SH_of hs) e)
  · refine xr1 hc ⟨fun e => absurd e (by decide), fun _ => ?_⟩
    exact p_M_isSheet (fun c1 => t01 (p_M_in (lo := 0) (hi := 2) rfl rfl (fun c2 => absurd ⟨c1, c2⟩ hc) (fun _ => f01 ⟨rfl, h⟩))) (fun _ => f01 ⟨rfl, h⟩)
end
