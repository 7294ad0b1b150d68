/-! the relation, and the steps that leave the sheets alone -/
def ShR (ux um : Mem) : Prop := ∀ s, s < 4 → (ux.1 (16 + 3 * s) = 1 ∧ um.2 0 s = -1) ∨ (ux.1 (16 + 3 * s) = 0 ∧ ∃ fo sz : Nat, fo ≤ 2 ∧ sz ≤ 60 ∧ ux.1 (14 + 3 * s) = nI fo ∧ um.2 0 s = nI fo ∧ ux.1 (15 + 3 * s) = nI sz ∧ um.2 1 s = nI sz ∧ ∀ i, i < sz → ux.2 (17 + s) i = um.2 2 (60 * s + i))
def Rel (ux um : Mem) : Prop := (∃ (b : Nat → Int32) (n : Nat) (d : Nat → Int32) (m : Nat) (f : Int32) (lw lb lz : Nat → Int32) (c : Nat) (ss sb : Nat → Int32) (k : Nat), SgOK n m f lb lz c k ∧ QX ux b n d m f lw lb lz c ss sb k ∧ QM um b n d m f lw lb lz c ss sb k) ∧ ShR ux um ∧ ux.1 1 = um.1 0
theorem ShR.keep {ux um wx wm : Mem} {S A S' A' : List Nat} (h : ShR ux um) (gx : Fr S A ux wx) (hS : ∀ i ∈ S, i < 14) (hA : ∀ i ∈ A, i < 17) (gm : Fr S' A' um wm) (hA' : 0 ∉ A' ∧ 1 ∉ A' ∧ 2 ∉ A') : ShR wx wm := by
  intro s hs
  rw [gx.1 (16 + 3 * s) (fun x => by have := hS _ x; omega), gx.1 (14 + 3 * s) (fun x => by have := hS _ x; omega), gx.1 (15 + 3 * s) (fun x => by have := hS _ x; omega), gx.2 (17 + s) (fun x => by have := hA _ x; omega), gm.2 0 hA'.1, gm.2 1 hA'.2.1, gm.2 2 hA'.2.2]
  exact h s hs
section
variable {u : Mem} {ux um wx wm : Mem} {b d : Nat → Int32} {n m : Nat} {f : Int32} {lw lb lz : Nat → Int32} {c : Nat} {ss sb : Nat → Int32} {k : Nat}
theorem Rel_q {S A S' A' : List Nat} (ok : SgOK n m f lb lz c k) (hx : QX wx b n d m f lw lb lz c ss sb k) (hm : QM wm b n d m f lw lb lz c ss sb k) (gx : Fr S A ux wx) (hS : (∀ i ∈ S, i < 14) ∧ 1 ∉ S) (hA : ∀ i ∈ A, i < 17) (gm : Fr S' A' um wm) (hS' : 0 ∉ S') (hA' : 0 ∉ A' ∧ 1 ∉ A' ∧ 2 ∉ A') (hs : ShR ux um) (hl : ux.1 1 = um.1 0) : Rel wx wm :=
  ⟨⟨b, n, d, m, f, lw, lb, lz, c, ss, sb, k, ok, hx, hm⟩, hs.keep gx hS.1 hA gm hA', by rw [gx.1 1 hS.2, gm.1 0 hS']; exact hl⟩
theorem s_fin (ok : SgOK n m f lb lz c k) (hs : ShR ux um) (hl : ux.1 1 = um.1 0) (hx : QX wx b n d m f lw lb lz c ss sb k) (gx : FX ux wx) (hm : QM wm b n d m f lw lb lz c ss sb k) (gm : FM um wm) : Rel wx wm := Rel_q ok hx hm gx (by decide) (by decide) gm (by decide) (by decide) hs hl
/-! the texts, class -/
theorem tx0 {F : Nat → Prop} (h : F 1) : w_X_textOf 0 F := ⟨fun e => absurd rfl e, fun _ => h⟩
theorem tx1 {F : Nat → Prop} (h : F 2) : w_X_textOf 1 F := ⟨fun _ => ⟨fun e => absurd rfl e, fun _ => h⟩, fun e => absurd e (by decide)⟩
theorem txn {x : Int32} {F : Nat → Prop} (hx : ¬ T2 x) (h : F 0) : w_X_textOf x F := ⟨fun _ => ⟨fun _ => h, fun e => absurd (Or.inr e) hx⟩, fun e => absurd (Or.inl e) hx⟩
theorem sw0 {A B C : Prop} (h : A) : ((0 : Nat) = 0 → A) ∧ ((0 : Nat) = 1 → B) ∧ ((0 : Nat) = 2 → C) := ⟨fun _ => h, fun e => absurd e (by decide), fun e => absurd e (by decide)⟩
theorem sw1 {A B C : Prop} (h : B) : ((1 : Nat) = 0 → A) ∧ ((1 : Nat) = 1 → B) ∧ ((1 : Nat) = 2 → C) := ⟨fun e => absurd e (by decide), fun _ => h, fun e => absurd e (by decide)⟩
theorem sw2 {A B C : Prop} (h : C) : ((2 : Nat) = 0 → A) ∧ ((2 : Nat) = 1 → B) ∧ ((2 : Nat) = 2 → C) := ⟨fun e => absurd e (by decide), fun e => absurd e (by decide), fun _ => h⟩
theorem x_again0 {v : Mem} {i : Nat} {Q : Mem → Prop} (hi : i ≤ 79) (hv : v.1 2 = nI i) (q : ∀ w, LawsX w (v.2 0) i → w.1 0 = 1 → Fr [0, 4, 5, 6, 7] [2, 3, 4] v w → Q w) : w_X_readAgain 0 v Q := by
  refine ⟨fun e => absurd rfl e, fun _ => p_readFrom_0 hi hv (fun w hw g => ?_)⟩
  refine q (sS w 0 1) ?_ rfl (Fr.sS (by decide) (g.wide (by decide) (by decide)))
  exact hw.keep (S := [0]) (A := []) (Fr.sS (by decide) Fr.rf) (by decide) (by decide)
theorem x_again1 {v : Mem} {i : Nat} {Q : Mem → Prop} (hi : i ≤ 35) (hv : v.1 3 = nI i) (q : ∀ w, DustX w (v.2 1) i → w.1 0 = 1 → Fr [0, 8, 9, 10] [5, 6] v w → Q w) : w_X_readAgain 1 v Q := by
  refine ⟨fun _ => p_readFrom_1 hi hv (fun w hw g => ?_), fun e => absurd e (by decide)⟩
  refine q (sS w 0 1) ?_ rfl (Fr.sS (by decide) (g.wide (by decide) (by decide)))
  exact hw.keep (S := [0]) (A := []) (Fr.sS (by decide) Fr.rf) (by decide) (by decide)
abbrev FT0 (u w : Mem) : Prop := Fr [0, 2, 4, 5, 6, 7] [0, 2, 3, 4] u w
abbrev FT1 (u w : Mem) : Prop := Fr [0, 3, 8, 9, 10] [1, 5, 6] u w
theorem QX_t0 {w : Mem} {b' : Nat → Int32} {n' : Nat} (h : QX u b n d m f lw lb lz c ss sb k) (g : FT0 u w) (h1 : w.1 2 = nI n') (h2 : w.2 0 = b') (h3 : LawsX w b' n') (h4 : w.1 0 = 1) : QX w b' n' d m f lw lb lz c ss sb k := by
  obtain ⟨-, i2, -, i4, -, i6, -, i8, i9, i10⟩ := h
  exact ⟨h1, by rw [g.1 3 (by decide)]; exact i2, h2, by rw [g.2 1 (by decide)]; exact i4, h3, i6.keep g (by decide) (by decide), fun e => absurd (h4.symm.trans e) (by decide), by rw [g.1 11 (by decide)]; exact i8, i9.keep g (by decide) (by decide), i10.keep g (by decide) (by decide)⟩
theorem QX_t1 {w : Mem} {b' : Nat → Int32} {n' : Nat} (h : QX u b n d m f lw lb lz c ss sb k) (g : FT1 u w) (h1 : w.1 3 = nI n') (h2 : w.2 1 = b') (h3 : DustX w b' n') (h4 : w.1 0 = 1) : QX w b n b' n' f lw lb lz c ss sb k := by
  obtain ⟨i1, -, i3, -, i5, -, -, i8, i9, i10⟩ := h
  exact ⟨by rw [g.1 2 (by decide)]; exact i1, h1, by rw [g.2 0 (by decide)]; exact i3, h2, i5.keep g (by decide) (by decide), h3, fun e => absurd (h4.symm.trans e) (by decide), by rw [g.1 11 (by decide)]; exact i8, i9.keep g (by decide) (by decide), i10.keep g (by decide) (by decide)⟩
theorem QM_t {w : Mem} {b' d' : Nat → Int32} {n' m' : Nat} (h : QM u b n d m f lw lb lz c ss sb k) (g : Fr [] [4, 5] u w) (h1 : TxM 0 w b' n') (h2 : TxM 1 w d' m') : QM w b' n' d' m' f lw lb lz c ss sb k := by
  obtain ⟨-, -, i3, i4, i5⟩ := h
  exact ⟨h1, h2, by rw [g.1 4 (by decide)]; exact i3, i4.keep g (by decide) (by decide), i5.keep g (by decide) (by decide)⟩
theorem x_type0 {x : Int32} {Q : Int32 → Mem → Prop} (ok : SgOK n m f lb lz c k) (h : QX u b n d m f lw lb lz c ss sb k) (hx : B8 x) (q1 : n < 79 → ∀ w, QX w (upd b n x) (n + 1) d m f lw lb lz c ss sb k → FT0 u w → Q (nI (n + 1)) w) (q0 : n = 79 → Q (-4) u) : w_X_type 0 x u Q := by
  have hn := ok.1
  refine tx0 (sw1 (p_isBits (fun _ => t10 ?_) (fun e => absurd hx e)))
  unfold w_T_append_0 w_T_size_0
  rw [h.1, nI_clamp (by omega), nI_1]
  refine ⟨fun e => absurd e (nI_pos (by omega)), fun _ => ⟨fun e => ⟨vp_in_nI ((nI_ltI (b := 79) (by omega) (by omega)).mp e) (by omega), t10 ?_⟩, fun e => f10 (q0 ?_)⟩⟩
  · have hlt := (nI_ltI (b := 79) (by omega) (by omega)).mp e
    refine x_again0 (i := n + 1) (by omega) rfl (fun w hw h0 g => ?_)
    have hb : (sS (sA u 0 n x) 2 (nI (n + 1))).2 0 = upd b n x := by rw [sS_2, sA_2, if_pos rfl, h.2.2.1]
    have g1 : FT0 u (sS (sA u 0 n x) 2 (nI (n + 1))) := Fr.sS (by decide) (Fr.sA (by decide) Fr.rf)
    have e2 : w.1 2 = nI (n + 1) := by rw [g.1 2 (by decide)]; rfl
    rw [e2]
    have g2 : FT0 u w := g1.tr (g.wide (by decide) (by decide))
    exact q1 hlt w (QX_t0 h g2 e2 (by rw [g.2 0 (by decide)]; exact hb) (by rw [hb] at hw; exact hw) h0) g2
  · have : ¬ n < 79 := fun x => e ((nI_ltI (b := 79) (by omega) (by omega)).mpr x); omega
theorem x_type1 {x : Int32} {Q : Int32 → Mem → Prop} (ok : SgOK n m f lb lz c k) (h : QX u b n d m f lw lb lz c ss sb k) (hx : B8 x) (q1 : m < 35 → ∀ w, QX w b n (upd d m x) (m + 1) f lw lb lz c ss sb k → FT1 u w → Q (nI (m + 1)) w) (q0 : m = 35 → Q (-4) u) : w_X_type 1 x u Q := by
  have hn := ok.2.1
  refine tx1 (sw2 (p_isBits (fun _ => t10 ?_) (fun e => absurd hx e)))
  unfold w_T_append_1 w_T_size_1
  rw [h.2.1, nI_clamp (by omega), nI_1]
  refine ⟨fun e => absurd e (nI_pos (by omega)), fun _ => ⟨fun e => ⟨vp_in_nI ((nI_ltI (b := 35) (by omega) (by omega)).mp e) (by omega), t10 ?_⟩, fun e => f10 (q0 ?_)⟩⟩
  · have hlt := (nI_ltI (b := 35) (by omega) (by omega)).mp e
    refine x_again1 (i := m + 1) (by omega) rfl (fun w hw h0 g => ?_)
    have hb : (sS (sA u 1 m x) 3 (nI (m + 1))).2 1 = upd d m x := by rw [sS_2, sA_2, if_pos rfl, h.2.2.2.1]
    have g1 : FT1 u (sS (sA u 1 m x) 3 (nI (m + 1))) := Fr.sS (by decide) (Fr.sA (by decide) Fr.rf)
    have e2 : w.1 3 = nI (m + 1) := by rw [g.1 3 (by decide)]; rfl
    rw [e2]
    have g2 : FT1 u w := g1.tr (g.wide (by decide) (by decide))
    exact q1 hlt w (QX_t1 h g2 e2 (by rw [g.2 1 (by decide)]; exact hb) (by rw [hb] at hw; exact hw) h0) g2
  · have : ¬ m < 35 := fun x => e ((nI_ltI (b := 35) (by omega) (by omega)).mpr x); omega
theorem x_cut0 {v : Int32} {i : Nat} {Q : Mem → Prop} (hv : v = nI i) (hi : i ≤ 79) (h : QX u b n d m f lw lb lz c ss sb k) (q : ∀ w, QX w b i d m f lw lb lz c ss sb k → FT0 u w → Q w) : w_X_readAgain 0 (sS u 2 v) Q := by
  refine x_again0 hi (by rw [sS_1, if_pos rfl]; exact hv) (fun w hw h0 g => ?_)
  have g1 : FT0 u (sS u 2 v) := Fr.sS (by decide) Fr.rf
  have g2 : FT0 u w := g1.tr (g.wide (by decide) (by decide))
  have e2 : w.1 2 = nI i := by rw [g.1 2 (by decide)]; exact hv
  rw [sS_2, h.2.2.1] at hw
  exact q w (QX_t0 h g2 e2 (by rw [g.2 0 (by decide)]; exact h.2.2.1) hw h0) g2
theorem x_cut1 {v : Int32} {i : Nat} {Q : Mem → Prop} (hv : v = nI i) (hi : i ≤ 35) (h : QX u b n d m f lw lb lz c ss sb k) (q : ∀ w, QX w b n d i f lw lb lz c ss sb k → FT1 u w → Q w) : w_X_readAgain 1 (sS u 3 v) Q := by
  refine x_again1 hi (by rw [sS_1, if_pos rfl]; exact hv) (fun w hw h0 g => ?_)
  have g1 : FT1 u (sS u 3 v) := Fr.sS (by decide) Fr.rf
  have g2 : FT1 u w := g1.tr (g.wide (by decide) (by decide))
  have e2 : w.1 3 = nI i := by rw [g.1 3 (by decide)]; exact hv
  rw [sS_2, h.2.2.2.1] at hw
  exact q w (QX_t1 h g2 e2 (by rw [g.2 1 (by decide)]; exact h.2.2.2.1) hw h0) g2
/-! the texts, reference -/
theorem m_type0 {x : Int32} {Q : Int32 → Mem → Prop} (ok : SgOK n m f lb lz c k) (h : QM u b n d m f lw lb lz c ss sb k) (hx : B8 x) (q1 : n < 79 → ∀ w, QM w (upd b n x) (n + 1) d m f lw lb lz c ss sb k → Fr [] [4, 5] u w → Q (nI (n + 1)) w) (q0 : n = 79 → Q (-4) u) : w_M_type 0 x u Q := by
  have hn := ok.1
  have hn1 := ok.2.1
  refine p_isTwo (fun _ => t01 (p_M_in (lo := 0) (hi := 255) rfl rfl (fun _ => t10 ⟨vp_in_nI (n := 0) (by omega) (by omega), fun e => absurd rfl e, fun _ => ?_⟩) (fun e => absurd hx e))) (fun e => absurd T2_0 e)
  unfold w_M_type_b39
  have z0 : (0 : Int32).toNatClampNeg = 0 := rfl
  rw [z0, h.1.1, show (80 : Int32) * 0 = 0 from rfl, Int32.zero_add, nI_clamp (by omega), nI_1]
  refine ⟨fun e => ?_, fun e => q0 ((nI_eq (b := 79) (by omega) (by omega)).mp e)⟩
  have hlt : n < 79 := by have : ¬ n = 79 := fun x => e ((nI_eq (b := 79) (by omega) (by omega)).mpr x); omega
  refine ⟨vp_in_nI (n := 0) (by omega) (by omega), vp_in_nI (by omega) (by omega), vp_in_nI (n := 0) (by omega) (by omega), vp_in_nI (n := 0) (by omega) (by omega), vp_in_nI (n := 0) (by omega) (by omega), ?_⟩
  rintro _ rfl
  have g : Fr [] [4, 5] u (sA (sA u 4 n x) 5 0 (nI (n + 1))) := Fr.sA (by decide) (Fr.sA (by decide) Fr.rf)
  have e5 : (sA (sA u 4 n x) 5 0 (nI (n + 1))).2 5 0 = nI (n + 1) := by rw [sA_2, if_pos rfl, upd_ap, if_pos rfl]
  rw [e5]
  refine q1 hlt _ (QM_t h g ⟨e5, fun j hj => ?_⟩ ⟨?_, fun j hj => ?_⟩) g
  · rw [sA_2, if_neg (by decide), sA_2, if_pos rfl, upd_ap, upd_ap]
    split
    · rename_i y; rw [if_pos (by omega)]
    · rename_i y; rw [if_neg (by omega)]; exact h.1.2 j (by omega)
  · rw [sA_2, if_pos rfl, upd_ap, if_neg (by decide), sA_2, if_neg (by decide)]; exact h.2.1.1
  · rw [sA_2, if_neg (by decide), sA_2, if_pos rfl, upd_ap, if_neg (by omega)]; exact h.2.1.2 j hj
theorem m_type1 {x : Int32} {Q : Int32 → Mem → Prop} (ok : SgOK n m f lb lz c k) (h : QM u b n d m f lw lb lz c ss sb k) (hx : B8 x) (q1 : m < 35 → ∀ w, QM w b n (upd d m x) (m + 1) f lw lb lz c ss sb k → Fr [] [4, 5] u w → Q (nI (m + 1)) w) (q0 : m = 35 → Q (-4) u) : w_M_type 1 x u Q := by
  have hn := ok.1
  have hn1 := ok.2.1
  refine p_isTwo (fun _ => t01 (p_M_in (lo := 0) (hi := 255) rfl rfl (fun _ => t10 ⟨vp_in_nI (n := 1) (by omega) (by omega), fun _ => ?_, fun e => absurd e (by decide)⟩) (fun e => absurd hx e))) (fun e => absurd T2_1 e)
  unfold w_M_type_b39
  have z0 : (1 : Int32).toNatClampNeg = 1 := rfl
  rw [z0, h.2.1.1, show (80 : Int32) * 1 = nI 80 from rfl, nI_add, nI_clamp (by omega), nI_1]
  refine ⟨fun e => ?_, fun e => q0 ((nI_eq (b := 35) (by omega) (by omega)).mp e)⟩
  have hlt : m < 35 := by have : ¬ m = 35 := fun x => e ((nI_eq (b := 35) (by omega) (by omega)).mpr x); omega
  refine ⟨vp_in_nI (n := 1) (by omega) (by omega), vp_in_nI (by omega) (by omega), vp_in_nI (n := 1) (by omega) (by omega), vp_in_nI (n := 1) (by omega) (by omega), vp_in_nI (n := 1) (by omega) (by omega), ?_⟩
  rintro _ rfl
  have g : Fr [] [4, 5] u (sA (sA u 4 (80 + m) x) 5 1 (nI (m + 1))) := Fr.sA (by decide) (Fr.sA (by decide) Fr.rf)
  have e5 : (sA (sA u 4 (80 + m) x) 5 1 (nI (m + 1))).2 5 1 = nI (m + 1) := by rw [sA_2, if_pos rfl, upd_ap, if_pos rfl]
  rw [e5]
  refine q1 hlt _ (QM_t h g ⟨?_, fun j hj => ?_⟩ ⟨e5, fun j hj => ?_⟩) g
  · rw [sA_2, if_pos rfl, upd_ap, if_neg (by decide), sA_2, if_neg (by decide)]; exact h.1.1
  · rw [sA_2, if_neg (by decide), sA_2, if_pos rfl, upd_ap, if_neg (by omega)]; exact h.1.2 j hj
  · rw [sA_2, if_neg (by decide), sA_2, if_pos rfl, upd_ap, upd_ap]
    split
    · rename_i y; rw [if_pos (by omega)]
    · rename_i y; rw [if_neg (by omega)]; exact h.2.1.2 j (by omega)
theorem QM_c0 {i : Nat} (h : QM u b n d m f lw lb lz c ss sb k) (hi : i ≤ n) : QM (sA u 5 0 (nI i)) b i d m f lw lb lz c ss sb k ∧ Fr [] [4, 5] u (sA u 5 0 (nI i)) := by
  have g : Fr [] [4, 5] u (sA u 5 0 (nI i)) := Fr.sA (by decide) Fr.rf
  refine ⟨QM_t h g ⟨by rw [sA_2, if_pos rfl, upd_ap, if_pos rfl], fun j hj => ?_⟩ ⟨?_, fun j hj => ?_⟩, g⟩
  · rw [sA_2, if_neg (by decide)]; exact h.1.2 j (by omega)
  · rw [sA_2, if_pos rfl, upd_ap, if_neg (by decide)]; exact h.2.1.1
  · rw [sA_2, if_neg (by decide)]; exact h.2.1.2 j hj
theorem QM_c1 {i : Nat} (h : QM u b n d m f lw lb lz c ss sb k) (hi : i ≤ m) : QM (sA u 5 1 (nI i)) b n d i f lw lb lz c ss sb k ∧ Fr [] [4, 5] u (sA u 5 1 (nI i)) := by
  have g : Fr [] [4, 5] u (sA u 5 1 (nI i)) := Fr.sA (by decide) Fr.rf
  refine ⟨QM_t h g ⟨?_, fun j hj => ?_⟩ ⟨by rw [sA_2, if_pos rfl, upd_ap, if_pos rfl], fun j hj => ?_⟩, g⟩
  · rw [sA_2, if_pos rfl, upd_ap, if_neg (by decide)]; exact h.1.1
  · rw [sA_2, if_neg (by decide)]; exact h.1.2 j hj
  · rw [sA_2, if_neg (by decide)]; exact h.2.1.2 j (by omega)
end
section
variable {ux um : Mem}
theorem s_comes (h : Rel ux um) : ∀ a1 : Int32, w_X_comes a1 ux (fun rX wX => w_M_comes a1 um (fun rM wM => rX = rM ∧ Rel wX wM)) := by
  obtain ⟨⟨b, n, d, m, f, lw, lb, lz, c, ss, sb, k, ok, hx, hm⟩, hs, hl⟩ := h
  intro a1
  exact x_comes ok hx (fun wx hwx gx => m_comes ok hm (fun wm hwm gm => ⟨rfl, s_fin ok hs hl hwx gx hwm gm⟩))
theorem s_week (h : Rel ux um) : ∀ a1 a2 : Int32, w_X_week a1 a2 ux (fun rX wX => w_M_week a1 a2 um (fun rM wM => rX = rM ∧ Rel wX wM)) := by
  obtain ⟨⟨b, n, d, m, f, lw, lb, lz, c, ss, sb, k, ok, hx, hm⟩, hs, hl⟩ := h
  intro a1 a2
  exact x_week ok hx (fun wx hwx gx => m_week ok hm (fun wm hwm gm => ⟨rfl, s_fin ok hs hl hwx gx hwm gm⟩))
theorem s_judged (h : Rel ux um) : w_X_judged ux (fun rX wX => w_M_judged um (fun rM wM => rX = rM ∧ Rel wX wM)) := by
  obtain ⟨⟨b, n, d, m, f, lw, lb, lz, c, ss, sb, k, ok, hx, hm⟩, hs, hl⟩ := h
  exact x_judged ok hx (fun wx hwx gx => m_judged ok hm (fun wm hwm gm => ⟨rfl, s_fin ok hs hl hwx gx hwm gm⟩))
theorem s_second (h : Rel ux um) : ∀ a1 : Int32, w_X_second a1 ux (fun rX wX => w_M_second a1 um (fun rM wM => rX = rM ∧ Rel wX wM)) := by
  obtain ⟨⟨b, n, d, m, f, lw, lb, lz, c, ss, sb, k, ok, hx, hm⟩, hs, hl⟩ := h
  intro a1
  exact x_second ok hx (fun wx hwx gx => m_second ok hm (fun wm hwm gm => ⟨rfl, s_fin ok hs hl hwx gx hwm gm⟩))
theorem s_touch (h : Rel ux um) : ∀ a1 a2 a3 a4 : Int32, w_X_touch a1 a2 a3 a4 ux (fun rX wX => w_M_touch a1 a2 a3 a4 um (fun rM wM => rX = rM ∧ Rel wX wM)) := by
  obtain ⟨⟨b, n, d, m, f, lw, lb, lz, c, ss, sb, k, ok, hx, hm⟩, hs, hl⟩ := h
  intro a1 a2 a3 a4
  exact x_touch ok hx (fun wx hwx gx => m_touch ok hm (fun wm hwm gm => ⟨rfl, s_fin ok hs hl hwx gx hwm gm⟩))
theorem s_keepOff (h : Rel ux um) : ∀ a1 a2 a3 : Int32, w_X_keepOff a1 a2 a3 ux (fun rX wX => w_M_keepOff a1 a2 a3 um (fun rM wM => rX = rM ∧ Rel wX wM)) := by
  obtain ⟨⟨b, n, d, m, f, lw, lb, lz, c, ss, sb, k, ok, hx, hm⟩, hs, hl⟩ := h
  intro a1 a2 a3
  exact x_keepOff ok hx (fun wx hwx gx => m_keepOff ok hm (fun wm hwm gm => ⟨rfl, s_fin ok hs hl hwx gx hwm gm⟩))
theorem s_bars (h : Rel ux um) : ∀ a1 : Int32, w_X_bars a1 ux (fun rX wX => w_M_bars a1 um (fun rM wM => rX = rM ∧ Rel wX wM)) := by
  obtain ⟨⟨b, n, d, m, f, lw, lb, lz, c, ss, sb, k, ok, hx, hm⟩, hs, hl⟩ := h
  intro a1
  exact x_bars ok hx (fun wx hwx gx => m_bars ok hm (fun wm hwm gm => ⟨rfl, s_fin ok hs hl hwx gx hwm gm⟩))
theorem s_play (h : Rel ux um) : ∀ a1 a2 a3 : Int32, w_X_play a1 a2 a3 ux (fun rX wX => w_M_play a1 a2 a3 um (fun rM wM => rX = rM ∧ Rel wX wM)) := by
  obtain ⟨⟨b, n, d, m, f, lw, lb, lz, c, ss, sb, k, ok, hx, hm⟩, hs, hl⟩ := h
  intro a1 a2 a3
  exact x_play ok hx (fun wx hwx gx => m_play ok hm (fun wm hwm gm => ⟨rfl, s_fin ok hs hl hwx gx hwm gm⟩))
theorem s_steady (h : Rel ux um) : ∀ a1 : Int32, w_X_steady a1 ux (fun rX wX => w_M_steady a1 um (fun rM wM => rX = rM ∧ Rel wX wM)) := by
  obtain ⟨⟨b, n, d, m, f, lw, lb, lz, c, ss, sb, k, ok, hx, hm⟩, hs, hl⟩ := h
  intro a1
  exact x_steady ok hx (fun wx hwx gx => m_steady ok hm (fun wm hwm gm => ⟨rfl, s_fin ok hs hl hwx gx hwm gm⟩))
theorem s_round (h : Rel ux um) : ∀ a1 a2 : Int32, w_X_round a1 a2 ux (fun rX wX => w_M_round a1 a2 um (fun rM wM => rX = rM ∧ Rel wX wM)) := by
  obtain ⟨⟨b, n, d, m, f, lw, lb, lz, c, ss, sb, k, ok, hx, hm⟩, hs, hl⟩ := h
  intro a1 a2
  exact x_round ok hx (fun wx hwx gx => m_round ok hm (fun wm hwm gm => ⟨rfl, s_fin ok hs hl hwx gx hwm gm⟩))
theorem s_moved (h : Rel ux um) : ∀ a1 : Int32, w_X_moved a1 ux (fun rX wX => w_M_moved a1 um (fun rM wM => rX = rM ∧ Rel wX wM)) := by
  obtain ⟨⟨b, n, d, m, f, lw, lb, lz, c, ss, sb, k, ok, hx, hm⟩, hs, hl⟩ := h
  intro a1
  exact x_moved ok hx (fun wx hwx gx => m_moved ok hm (fun wm hwm gm => ⟨rfl, s_fin ok hs hl hwx gx hwm gm⟩))
theorem s_cat (h : Rel ux um) : ∀ a1 a2 a3 : Int32, w_X_cat a1 a2 a3 ux (fun rX wX => w_M_cat a1 a2 a3 um (fun rM wM => rX = rM ∧ Rel wX wM)) := by
  obtain ⟨⟨b, n, d, m, f, lw, lb, lz, c, ss, sb, k, ok, hx, hm⟩, hs, hl⟩ := h
  intro a1 a2 a3
  exact x_cat ok hx (fun wx hwx gx => m_cat ok hm (fun wm hwm gm => ⟨rfl, s_fin ok hs hl hwx gx hwm gm⟩))
theorem s_let (h : Rel ux um) : ∀ a1 a2 : Int32, w_X_let a1 a2 ux (fun rX wX => w_M_let a1 a2 um (fun rM wM => rX = rM ∧ Rel wX wM)) := by
  obtain ⟨⟨b, n, d, m, f, lw, lb, lz, c, ss, sb, k, ok, hx, hm⟩, hs, hl⟩ := h
  intro a1 a2
  exact x_let ok hx (fun wx hwx gx => m_let ok hm (fun wm hwm gm => ⟨rfl, s_fin ok hs hl hwx gx hwm gm⟩))
theorem s_lot (h : Rel ux um) : ∀ a1 a2 a3 : Int32, w_X_lot a1 a2 a3 ux (fun rX wX => w_M_lot a1 a2 a3 um (fun rM wM => rX = rM ∧ Rel wX wM)) := by
  obtain ⟨⟨b, n, d, m, f, lw, lb, lz, c, ss, sb, k, ok, hx, hm⟩, hs, hl⟩ := h
  intro a1 a2 a3
  exact x_lot ok hx (fun wx hwx gx => m_lot ok hm (fun wm hwm gm => ⟨rfl, s_fin ok hs hl hwx gx hwm gm⟩))
theorem s_fault (h : Rel ux um) : ∀ a1 : Int32, w_X_fault a1 ux (fun rX => w_M_fault a1 um (fun rM wM => rX = rM ∧ Rel ux wM)) := by
  obtain ⟨⟨b, n, d, m, f, lw, lb, lz, c, ss, sb, k, ok, hx, hm⟩, hs, hl⟩ := h
  intro a1
  exact x_fault ok hx (m_fault ok hm (fun wm hwm gm => ⟨rfl, s_fin ok hs hl hx Fr.rf hwm gm⟩))
theorem s_rule (h : Rel ux um) : ∀ a1 a2 : Int32, w_X_rule a1 a2 ux (fun rX => w_M_rule a1 a2 um (fun rM wM => rX = rM ∧ Rel ux wM)) := by
  obtain ⟨⟨b, n, d, m, f, lw, lb, lz, c, ss, sb, k, ok, hx, hm⟩, hs, hl⟩ := h
  intro a1 a2
  exact x_rule ok hx (m_rule ok hm (fun wm hwm gm => ⟨rfl, s_fin ok hs hl hx Fr.rf hwm gm⟩))
theorem s_dust (h : Rel ux um) : ∀ a1 a2 : Int32, w_X_dust a1 a2 ux (fun rX => w_M_dust a1 a2 um (fun rM wM => rX = rM ∧ Rel ux wM)) := by
  obtain ⟨⟨b, n, d, m, f, lw, lb, lz, c, ss, sb, k, ok, hx, hm⟩, hs, hl⟩ := h
  intro a1 a2
  exact x_dust ok hx (m_dust ok hm (fun wm hwm gm => ⟨rfl, s_fin ok hs hl hx Fr.rf hwm gm⟩))
theorem s_lays (h : Rel ux um) : ∀ a1 : Int32, w_X_lays a1 ux (fun rX => w_M_lays a1 um (fun rM wM => rX = rM ∧ Rel ux wM)) := by
  obtain ⟨⟨b, n, d, m, f, lw, lb, lz, c, ss, sb, k, ok, hx, hm⟩, hs, hl⟩ := h
  intro a1
  exact x_lays ok hx (m_lays ok hm (fun wm hwm gm => ⟨rfl, s_fin ok hs hl hx Fr.rf hwm gm⟩))
theorem s_two (h : Rel ux um) : w_X_two ux (fun rX => w_M_two um (fun rM wM => rX = rM ∧ Rel ux wM)) := by
  obtain ⟨⟨b, n, d, m, f, lw, lb, lz, c, ss, sb, k, ok, hx, hm⟩, hs, hl⟩ := h
  exact x_two ok hx (m_two ok hm (fun wm hwm gm => ⟨rfl, s_fin ok hs hl hx Fr.rf hwm gm⟩))
theorem s_stands (h : Rel ux um) : ∀ a1 a2 : Int32, w_X_stands a1 a2 ux (fun rX => w_M_stands a1 a2 um (fun rM => rX = rM ∧ Rel ux um)) := by
  obtain ⟨⟨b, n, d, m, f, lw, lb, lz, c, ss, sb, k, ok, hx, hm⟩, hs, hl⟩ := h
  intro a1 a2
  exact x_stands ok hx (m_stands ok hm ⟨rfl, s_fin ok hs hl hx Fr.rf hm Fr.rf⟩)
theorem s_watch (h : Rel ux um) : ∀ a1 : Int32, w_X_watch a1 ux (fun rX => w_M_watch a1 um (fun rM => rX = rM ∧ Rel ux um)) := by
  obtain ⟨⟨b, n, d, m, f, lw, lb, lz, c, ss, sb, k, ok, hx, hm⟩, hs, hl⟩ := h
  intro a1
  exact x_watch ok hx (m_watch ok hm ⟨rfl, s_fin ok hs hl hx Fr.rf hm Fr.rf⟩)
theorem s_count (h : Rel ux um) : ∀ a1 : Int32, w_X_count a1 ux (fun rX => w_M_count a1 um (fun rM wM => rX = rM ∧ Rel ux wM)) := by
  obtain ⟨⟨b, n, d, m, f, lw, lb, lz, c, ss, sb, k, ok, hx, hm⟩, hs, hl⟩ := h
  intro a1
  exact x_count hx hl (m_count ok hm rfl (fun wm hwm gm => ⟨rfl, s_fin ok hs hl hx Fr.rf hwm gm⟩))
theorem s_digest (h : Rel ux um) : w_X_digest ux (fun rX wX => w_M_digest um (fun rM wM => rX = rM ∧ Rel wX wM)) := by
  obtain ⟨⟨b, n, d, m, f, lw, lb, lz, c, ss, sb, k, ok, hx, hm⟩, hs, hl⟩ := h
  exact x_digest ok hx hl (fun wx hwx gx => m_digest ok hm rfl (fun wm hwm gm => ⟨rfl, s_fin ok hs hl hwx gx hwm gm⟩))
theorem s_type (h : Rel ux um) : ∀ a1 a2 : Int32, w_X_type a1 a2 ux (fun rX wX => w_M_type a1 a2 um (fun rM wM => rX = rM ∧ Rel wX wM)) := by
  obtain ⟨⟨b, n, d, m, f, lw, lb, lz, c, ss, sb, k, ok, hx, hm⟩, hs, hl⟩ := h
  intro a1 a2
  have same : Rel ux um := s_fin ok hs hl hx Fr.rf hm Fr.rf
  by_cases c1 : T2 a1
  · by_cases c2 : B8 a2
    · rcases c1 with rfl | rfl
      · refine x_type0 ok hx c2 (fun hn wx hwx gx => m_type0 ok hm c2 (fun _ wm hwm gm => ⟨rfl, Rel_q ⟨hn, ok.2⟩ hwx hwm gx (by decide) (by decide) gm (by decide) (by decide) hs hl⟩) (fun e => absurd hn (by omega))) (fun hn => m_type0 ok hm c2 (fun e => absurd hn (by omega)) (fun _ => ⟨rfl, same⟩))
      · refine x_type1 ok hx c2 (fun hn wx hwx gx => m_type1 ok hm c2 (fun _ wm hwm gm => ⟨rfl, Rel_q ⟨ok.1, hn, ok.2.2⟩ hwx hwm gx (by decide) (by decide) gm (by decide) (by decide) hs hl⟩) (fun e => absurd hn (by omega))) (fun hn => m_type1 ok hm c2 (fun e => absurd hn (by omega)) (fun _ => ⟨rfl, same⟩))
    · have hM : w_M_type a1 a2 um (fun rM wM => -2 = rM ∧ Rel ux wM) := p_isTwo (fun _ => t01 (p_M_in (lo := 0) (hi := 255) rfl rfl (fun e => absurd e c2) (fun _ => f10 ⟨rfl, same⟩))) (fun e => absurd c1 e)
      rcases c1 with rfl | rfl
      · exact tx0 (sw1 (p_isBits (fun e => absurd e c2) (fun _ => f10 hM)))
      · exact tx1 (sw2 (p_isBits (fun e => absurd e c2) (fun _ => f10 hM)))
  · exact txn c1 (sw0 (p_isTwo (fun e => absurd e c1) (fun _ => f01 ⟨rfl, same⟩)))
theorem s_wipe (h : Rel ux um) : ∀ a1 : Int32, w_X_wipe a1 ux (fun rX wX => w_M_wipe a1 um (fun rM wM => rX = rM ∧ Rel wX wM)) := by
  obtain ⟨⟨b, n, d, m, f, lw, lb, lz, c, ss, sb, k, ok, hx, hm⟩, hs, hl⟩ := h
  intro a1
  have same : Rel ux um := s_fin ok hs hl hx Fr.rf hm Fr.rf
  by_cases c1 : T2 a1
  · rcases c1 with rfl | rfl
    · refine tx0 (sw1 ?_)
      unfold w_T_size_0 w_T_clear_0
      refine x_cut0 (i := 0) rfl (by omega) hx (fun wx hwx gx => ?_)
      refine p_isTwo (fun _ => t10 ⟨vp_in_nI (n := 0) (by omega) (by omega), vp_in_nI (n := 0) (by omega) (by omega), ?_⟩) (fun e => absurd T2_0 e)
      rw [show (0 : Int32).toNatClampNeg = 0 from rfl, hm.1.1, hx.1]
      obtain ⟨h1, g1⟩ := QM_c0 (i := 0) hm (by omega)
      exact ⟨rfl, Rel_q ⟨by omega, ok.2⟩ hwx h1 gx (by decide) (by decide) g1 (by decide) (by decide) hs hl⟩
    · refine tx1 (sw2 ?_)
      unfold w_T_size_1 w_T_clear_1
      refine x_cut1 (i := 0) rfl (by omega) hx (fun wx hwx gx => ?_)
      refine p_isTwo (fun _ => t10 ⟨vp_in_nI (n := 1) (by omega) (by omega), vp_in_nI (n := 1) (by omega) (by omega), ?_⟩) (fun e => absurd T2_1 e)
      rw [show (1 : Int32).toNatClampNeg = 1 from rfl, hm.2.1.1, hx.2.1]
      obtain ⟨h1, g1⟩ := QM_c1 (i := 0) hm (by omega)
      exact ⟨rfl, Rel_q ⟨ok.1, by omega, ok.2.2⟩ hwx h1 gx (by decide) (by decide) g1 (by decide) (by decide) hs hl⟩
  · exact txn c1 (sw0 (p_isTwo (fun e => absurd e c1) (fun _ => f10 ⟨rfl, same⟩)))
theorem s_undo (h : Rel ux um) : ∀ a1 : Int32, w_X_undo a1 ux (fun rX wX => w_M_undo a1 um (fun rM wM => rX = rM ∧ Rel wX wM)) := by
  obtain ⟨⟨b, n, d, m, f, lw, lb, lz, c, ss, sb, k, ok, hx, hm⟩, hs, hl⟩ := h
  intro a1
  have same : Rel ux um := s_fin ok hs hl hx Fr.rf hm Fr.rf
  have hn := ok.1
  have hn1 := ok.2.1
  by_cases c1 : T2 a1
  · rcases c1 with rfl | rfl
    · refine tx0 (sw1 ?_)
      unfold w_T_dropLast_0 w_T_size_0
      rw [hx.1]
      refine ⟨fun e => t10 ?_, fun e => f10 ?_⟩
      · rw [show (0 : Int32) = nI 0 from rfl, nI_ltI (by omega) (by omega)] at e
        obtain ⟨i, rfl⟩ : ∃ i, n = i + 1 := ⟨n - 1, by omega⟩
        rw [nI_pred]
        refine x_cut0 (i := i) rfl (by omega) hx (fun wx hwx gx => ?_)
        rw [hwx.1]
        refine p_isTwo (fun _ => t10 ⟨vp_in_nI (n := 0) (by omega) (by omega), ?_⟩) (fun e => absurd T2_0 e)
        rw [show (0 : Int32).toNatClampNeg = 0 from rfl, hm.1.1, nI_pred]
        obtain ⟨h1, g1⟩ := QM_c0 (i := i) hm (by omega)
        refine ⟨fun _ => ⟨vp_in_nI (n := 0) (by omega) (by omega), vp_in_nI (n := 0) (by omega) (by omega), vp_in_nI (n := 0) (by omega) (by omega), ?_⟩, fun e => absurd e (nI_ne0 (by omega) (by omega))⟩
        rintro _ rfl
        exact ⟨by rw [sA_2, if_pos rfl, upd_ap, if_pos rfl], Rel_q ⟨by omega, ok.2⟩ hwx h1 gx (by decide) (by decide) g1 (by decide) (by decide) hs hl⟩
      · rw [show (0 : Int32) = nI 0 from rfl, nI_ltI (by omega) (by omega)] at e
        obtain rfl : n = 0 := by omega
        refine p_isTwo (fun _ => t10 ⟨vp_in_nI (n := 0) (by omega) (by omega), ?_⟩) (fun e => absurd T2_0 e)
        rw [show (0 : Int32).toNatClampNeg = 0 from rfl, hm.1.1]
        exact ⟨fun e => absurd rfl e, fun _ => ⟨rfl, same⟩⟩
    · refine tx1 (sw2 ?_)
      unfold w_T_dropLast_1 w_T_size_1
      rw [hx.2.1]
      refine ⟨fun e => t10 ?_, fun e => f10 ?_⟩
      · rw [show (0 : Int32) = nI 0 from rfl, nI_ltI (by omega) (by omega)] at e
        obtain ⟨i, rfl⟩ : ∃ i, m = i + 1 := ⟨m - 1, by omega⟩
        rw [nI_pred]
        refine x_cut1 (i := i) rfl (by omega) hx (fun wx hwx gx => ?_)
        rw [hwx.2.1]
        refine p_isTwo (fun _ => t10 ⟨vp_in_nI (n := 1) (by omega) (by omega), ?_⟩) (fun e => absurd T2_1 e)
        rw [show (1 : Int32).toNatClampNeg = 1 from rfl, hm.2.1.1, nI_pred]
        obtain ⟨h1, g1⟩ := QM_c1 (i := i) hm (by omega)
        refine ⟨fun _ => ⟨vp_in_nI (n := 1) (by omega) (by omega), vp_in_nI (n := 1) (by omega) (by omega), vp_in_nI (n := 1) (by omega) (by omega), ?_⟩, fun e => absurd e (nI_ne0 (by omega) (by omega))⟩
        rintro _ rfl
        exact ⟨by rw [sA_2, if_pos rfl, upd_ap, if_pos rfl], Rel_q ⟨ok.1, by omega, ok.2.2⟩ hwx h1 gx (by decide) (by decide) g1 (by decide) (by decide) hs hl⟩
      · rw [show (0 : Int32) = nI 0 from rfl, nI_ltI (by omega) (by omega)] at e
        obtain rfl : m = 0 := by omega
        refine p_isTwo (fun _ => t10 ⟨vp_in_nI (n := 1) (by omega) (by omega), ?_⟩) (fun e => absurd T2_1 e)
        rw [show (1 : Int32).toNatClampNeg = 1 from rfl, hm.2.1.1]
        exact ⟨fun e => absurd rfl e, fun _ => ⟨rfl, same⟩⟩
  · exact txn c1 (sw0 (p_isTwo (fun e => absurd e c1) (fun _ => f10 ⟨rfl, same⟩)))
end
