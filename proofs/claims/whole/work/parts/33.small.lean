/-! first, lay, back, seen, forget -/
section
variable {u w : Mem} {b d : Nat → Int32} {n m : Nat} {f : Int32} {lw lb lz : Nat → Int32} {c : Nat} {ss sb : Nat → Int32} {k : Nat} {lw' lb' lz' ss' sb' : Nat → Int32} {c' k' : Nat} {f' : Int32}
theorem QX_lay (h : QX u b n d m f lw lb lz c ss sb k) (g : Fr [12] [10, 11, 12] u w) (hl : LayX w lw' lb' lz' c') : QX w b n d m f lw' lb' lz' c' ss sb k := by
  obtain ⟨h1, h2, h3, h4, h5, h6, h7, h8, h9, h10⟩ := h
  exact ⟨by rw [g.1 2 (by decide)]; exact h1, by rw [g.1 3 (by decide)]; exact h2, by rw [g.2 0 (by decide)]; exact h3, by rw [g.2 1 (by decide)]; exact h4, h5.keep g (by decide) (by decide), h6.keep g (by decide) (by decide), fun e => (h7 (by rw [g.1 0 (by decide)] at e; exact e)).keep g (by decide), by rw [g.1 11 (by decide)]; exact h8, hl, h10.keep g (by decide) (by decide)⟩
theorem QX_seen (h : QX u b n d m f lw lb lz c ss sb k) (g : Fr [13] [15, 16] u w) (hl : SeenX w ss' sb' k') : QX w b n d m f lw lb lz c ss' sb' k' := by
  obtain ⟨h1, h2, h3, h4, h5, h6, h7, h8, h9, h10⟩ := h
  exact ⟨by rw [g.1 2 (by decide)]; exact h1, by rw [g.1 3 (by decide)]; exact h2, by rw [g.2 0 (by decide)]; exact h3, by rw [g.2 1 (by decide)]; exact h4, h5.keep g (by decide) (by decide), h6.keep g (by decide) (by decide), fun e => (h7 (by rw [g.1 0 (by decide)] at e; exact e)).keep g (by decide), by rw [g.1 11 (by decide)]; exact h8, h9.keep g (by decide) (by decide), hl⟩
theorem QX_first (h : QX u b n d m f lw lb lz c ss sb k) (g : Fr [11] [] u w) (hl : w.1 11 = f') : QX w b n d m f' lw lb lz c ss sb k := by
  obtain ⟨h1, h2, h3, h4, h5, h6, h7, h8, h9, h10⟩ := h
  exact ⟨by rw [g.1 2 (by decide)]; exact h1, by rw [g.1 3 (by decide)]; exact h2, by rw [g.2 0 (by decide)]; exact h3, by rw [g.2 1 (by decide)]; exact h4, h5.keep g (by decide) (by decide), h6.keep g (by decide) (by decide), fun e => (h7 (by rw [g.1 0 (by decide)] at e; exact e)).keep g (by decide), hl, h9.keep g (by decide) (by decide), h10.keep g (by decide) (by decide)⟩
theorem QM_lay (h : QM u b n d m f lw lb lz c ss sb k) (g : Fr [5] [10] u w) (hl : LayM w lw' lb' lz' c') : QM w b n d m f lw' lb' lz' c' ss sb k := by
  obtain ⟨h1, h2, h3, h4, h5⟩ := h
  exact ⟨h1.keep g (by decide) (by decide), h2.keep g (by decide) (by decide), by rw [g.1 4 (by decide)]; exact h3, hl, h5.keep g (by decide) (by decide)⟩
theorem QM_seen (h : QM u b n d m f lw lb lz c ss sb k) (g : Fr [6] [15] u w) (hl : SeenM w ss' sb' k') : QM w b n d m f lw lb lz c ss' sb' k' := by
  obtain ⟨h1, h2, h3, h4, h5⟩ := h
  exact ⟨h1.keep g (by decide) (by decide), h2.keep g (by decide) (by decide), by rw [g.1 4 (by decide)]; exact h3, h4.keep g (by decide) (by decide), hl⟩
theorem QM_first (h : QM u b n d m f lw lb lz c ss sb k) (g : Fr [4] [] u w) (hl : w.1 4 = f') : QM w b n d m f' lw lb lz c ss sb k := by
  obtain ⟨h1, h2, h3, h4, h5⟩ := h
  exact ⟨h1.keep g (by decide) (by decide), h2.keep g (by decide) (by decide), hl, h4.keep g (by decide) (by decide), h5.keep g (by decide) (by decide)⟩
theorem x_add {x y : Int32} {Q : Int32 → Mem → Prop} (hk : k ≤ 8) (h : QX u b n d m f lw lb lz c ss sb k) (q1 : k < 8 → ∀ w, QX w b n d m f lw lb lz c (upd ss k x) (upd sb k y) (k + 1) → Fr [13] [15, 16] u w → Q 1 w) (q0 : k = 8 → Q 0 u) : w_S_addSight x y u Q := by
  unfold w_S_addSight
  have h10 := h.2.2.2.2.2.2.2.2.2
  rw [h10.1, nI_clamp (by omega), nI_1]
  refine ⟨fun e => absurd e (nI_pos (by omega)), fun _ => ⟨fun e => ?_, fun e => q0 ?_⟩⟩
  · have hlt := (nI_ltI (b := 8) (by omega) (by omega)).mp e
    have g : Fr [13] [15, 16] u (sS (sA (sA u 15 k x) 16 k y) 13 (nI (k + 1))) := Fr.sS (by decide) (Fr.sA (by decide) (Fr.sA (by decide) Fr.rf))
    refine ⟨vp_in_nI hlt (by omega), vp_in_nI hlt (by omega), q1 hlt _ (QX_seen h g ⟨rfl, fun i hi => ?_⟩) g⟩
    rw [sS_2, sA_2, if_neg (by decide), sA_2, if_pos rfl, sA_2, if_pos rfl, sA_2, if_neg (by decide), upd_ap, upd_ap, upd_ap, upd_ap]
    by_cases e2 : i = k
    · rw [if_pos e2, if_pos e2, if_pos e2, if_pos e2]; exact ⟨rfl, rfl⟩
    · rw [if_neg e2, if_neg e2, if_neg e2, if_neg e2]; exact h10.2 i (by omega)
  · have : ¬ k < 8 := fun x => e ((nI_ltI (b := 8) (by omega) (by omega)).mpr x)
    omega
theorem m_seen1 {x y : Int32} {Q : Int32 → Mem → Prop} (hk : k ≤ 8) (h : QM u b n d m f lw lb lz c ss sb k) (hx : B8 x) (hy : B8 y) (q1 : k < 8 → ∀ w, QM w b n d m f lw lb lz c (upd ss k x) (upd sb k y) (k + 1) → Fr [6] [15] u w → Q (nI (k + 1)) w) (q0 : k = 8 → Q (-4) u) : w_M_seen x y u Q := by
  refine p_isSet (fun _ => t01 (p_isSet (fun _ => t10 ?_) (fun e => absurd hy e))) (fun e => absurd hx e)
  have h5 := h.2.2.2.2
  rw [h5.1, e21k, e2k, nI_clamp (by omega), nI_clamp (by omega), nI_1]
  refine ⟨fun e => ?_, fun e => q0 ((nI_eq (b := 8) (by omega) (by omega)).mp e)⟩
  have hne : ¬ k = 8 := fun x => e ((nI_eq (b := 8) (by omega) (by omega)).mpr x)
  have hlt : k < 8 := by omega
  have g : Fr [6] [15] u (sS (sA (sA u 15 (2 * k) x) 15 (2 * k + 1) y) 6 (nI (k + 1))) := Fr.sS (by decide) (Fr.sA (by decide) (Fr.sA (by decide) Fr.rf))
  refine ⟨vp_in_nI (by omega) (by omega), vp_in_nI (by omega) (by omega), q1 hlt _ (QM_seen h g ⟨rfl, fun i hi => ?_⟩) g⟩
  rw [sS_2, sA_2, if_pos rfl, sA_2, if_pos rfl, upd_ap, upd_ap, upd_ap, upd_ap, upd_ap, upd_ap]
  by_cases e2 : i = k
  · subst e2
    rw [if_neg (by omega), if_pos rfl, if_pos rfl, if_pos rfl, if_pos rfl]; exact ⟨rfl, rfl⟩
  · rw [if_neg (by omega), if_neg (by omega), if_neg e2, if_neg (by omega), if_neg (by omega), if_neg e2]; exact h5.2 i (by omega)
theorem m_seen0 {x y : Int32} {Q : Int32 → Mem → Prop} (h : ¬ (B8 x ∧ B8 y)) (q : Q (-2) u) : w_M_seen x y u Q := p_isSet (fun c1 => t01 (p_isSet (fun c2 => absurd ⟨c1, c2⟩ h) (fun _ => f10 q))) (fun _ => f01 q)
theorem x_seen0 {x y : Int32} {Q : Int32 → Mem → Prop} (h : ¬ (B8 x ∧ B8 y)) (q : Q (-2) u) : w_X_seen x y u Q := p_isBits (fun c1 => t01 (p_isBits (fun c2 => absurd ⟨c1, c2⟩ h) (fun _ => f10 q))) (fun _ => f01 q)
end
section
variable {ux um : Mem}
theorem s_first (h : Rel ux um) : ∀ a1 : Int32, w_X_first a1 ux (fun rX wX => w_M_first a1 um (fun rM wM => rX = rM ∧ Rel wX wM)) := by
  obtain ⟨⟨b, n, d, m, f, lw, lb, lz, c, ss, sb, k, ok, hx, hm⟩, hs, hl⟩ := h
  have same : Rel ux um := s_fin ok hs hl hx Fr.rf hm Fr.rf
  intro a1
  refine p_isBits (fun c1 => t10 ?_) (fun c1 => f10 (p_isSet (fun e => absurd e c1) (fun _ => f10 ⟨rfl, same⟩)))
  unfold w_K_firstSet w_K_setFirst
  refine p_isSet (fun _ => t10 ?_) (fun e => absurd c1 e)
  have gx : Fr [11] [] ux (sS ux 11 (a1 &&& 255)) := Fr.sS (by decide) Fr.rf
  have gm : Fr [4] [] um (sS um 4 a1) := Fr.sS (by decide) Fr.rf
  refine ⟨by rw [hx.fr, hm.fr], ?_⟩
  exact Rel_q (f := a1) ⟨ok.1, ok.2.1, c1, ok.2.2.2⟩ (QX_first hx gx (B8_iff.mp c1)) (QM_first hm gm rfl) gx (by decide) (by decide) gm (by decide) (by decide) hs hl
theorem s_lay (h : Rel ux um) : ∀ a1 a2 a3 : Int32, w_X_lay a1 a2 a3 ux (fun rX wX => w_M_lay a1 a2 a3 um (fun rM wM => rX = rM ∧ Rel wX wM)) := by
  obtain ⟨⟨b, n, d, m, f, lw, lb, lz, c, ss, sb, k, ok, hx, hm⟩, hs, hl⟩ := h
  have same : Rel ux um := s_fin ok hs hl hx Fr.rf hm Fr.rf
  intro a1 a2 a3
  refine p_isWeek (fun c1 => t01 (p_isThing (fun c2 => t01 (p_isEither (fun c3 => t10 ?_) (fun c3 => f10 ?_))) (fun c2 => f01 ?_))) (fun c1 => f01 ?_)
  · have hl9 := hx.2.2.2.2.2.2.2.2.1
    have hm4 := hm.2.2.2.1
    have hc := ok.2.2.2.1
    have hM : (c = 12 → w_M_lay a1 a2 a3 um (fun rM wM => -4 = rM ∧ Rel ux wM)) ∧ (c < 12 → ∀ wx, QX wx b n d m f (upd lw c a1) (upd lb c (bit1 a2)) (upd lz c a3) (c + 1) ss sb k → Fr [12] [10, 11, 12] ux wx → w_M_lay a1 a2 a3 um (fun rM wM => nI (c + 1) = rM ∧ Rel wx wM)) := by
      refine ⟨fun e => ?_, fun e wx hwx gx => ?_⟩
      · refine p_M_in (lo := 0) (hi := 29) rfl rfl (fun _ => t01 (p_M_isThing (fun _ => t01 (p_isTwo (fun _ => t10 ?_) (fun x => absurd c3 x))) (fun x => absurd c2 x))) (fun x => absurd c1 x)
        rw [hm4.1, e]
        exact ⟨fun x => absurd rfl x, fun _ => ⟨rfl, same⟩⟩
      · refine p_M_in (lo := 0) (hi := 29) rfl rfl (fun _ => t01 (p_M_isThing (fun _ => t01 (p_isTwo (fun _ => t10 ?_) (fun x => absurd c3 x))) (fun x => absurd c2 x))) (fun x => absurd c1 x)
        rw [hm4.1, e31k, e32k, e3k, nI_clamp (by omega), nI_clamp (by omega), nI_clamp (by omega), nI_1]
        refine ⟨fun _ => ⟨vp_in_nI (by omega) (by omega), vp_in_nI (by omega) (by omega), vp_in_nI (by omega) (by omega), ?_⟩, fun x => absurd ((nI_eq (b := 12) (by omega) (by omega)).mp x) (by omega)⟩
        rintro _ rfl
        have gm : Fr [5] [10] um (sS (sA (sA (sA um 10 (3 * c) a1) 10 (3 * c + 1) a2) 10 (3 * c + 2) a3) 5 (nI (c + 1))) := Fr.sS (by decide) (Fr.sA (by decide) (Fr.sA (by decide) (Fr.sA (by decide) Fr.rf)))
        refine ⟨rfl, Rel_q ⟨ok.1, ok.2.1, ok.2.2.1, ⟨by omega, fun i hi => ?_⟩, ok.2.2.2.2⟩ hwx (QM_lay hm gm ⟨rfl, fun i hi => ?_⟩) gx (by decide) (by decide) gm (by decide) (by decide) hs hl⟩
        · rw [upd_ap, upd_ap]
          by_cases e2 : i = c
          · rw [if_pos e2, if_pos e2]; exact ⟨B8_bit c2, c3⟩
          · rw [if_neg e2, if_neg e2]; exact hc.2 i (by omega)
        · rw [sS_2, sA_2, if_pos rfl, sA_2, if_pos rfl, sA_2, if_pos rfl, upd_ap, upd_ap, upd_ap, upd_ap, upd_ap, upd_ap, upd_ap, upd_ap, upd_ap, upd_ap, upd_ap, upd_ap]
          by_cases e2 : i = c
          · subst e2
            rw [if_neg (by omega), if_neg (by omega), if_pos rfl, if_pos rfl, if_neg (by omega), if_pos rfl, if_pos rfl, if_pos rfl, if_pos rfl]; exact ⟨rfl, rfl, rfl⟩
          · rw [if_neg (by omega), if_neg (by omega), if_neg (by omega), if_neg e2, if_neg (by omega), if_neg (by omega), if_neg (by omega), if_neg e2, if_neg (by omega), if_neg (by omega), if_neg (by omega), if_neg e2]; exact hm4.2 i (by omega)
    unfold w_K_addLaying w_K_addLaying_b58 w_K_layings
    rw [hl9.1, nI_clamp (by have := hc.1; omega)]
    have hc1 := hc.1
    refine ⟨fun e => absurd e (nI_pos (by omega)), fun _ => ⟨fun e => ?_, fun e => f10 (hM.1 ?_)⟩⟩
    · have hlt := (nI_ltI (b := 12) (by omega) (by omega)).mp e
      have fin : ∀ s0, s0 = a3 → vp_in (nI c) 12 ∧ ((¬ (1 : Int32) = 0 → (fun r9 => w_M_lay a1 a2 a3 um (fun rM wM => r9 = rM ∧ Rel (sS (sA (sA (sA ux 10 c a1) 11 c (bit1 a2)) 12 c (vp_nar .boolean s0)) 12 (nI c + 1)) wM)) ((sS (sA (sA (sA ux 10 c a1) 11 c (bit1 a2)) 12 c (vp_nar .boolean s0)) 12 (nI c + 1)).1 12)) ∧ ((1 : Int32) = 0 → w_M_lay a1 a2 a3 um (fun rM wM => -4 = rM ∧ Rel (sS (sA (sA (sA ux 10 c a1) 11 c (bit1 a2)) 12 c (vp_nar .boolean s0)) 12 (nI c + 1)) wM))) := by
        intro s0 e0
        rw [e0]
        refine ⟨vp_in_nI hlt (by omega), t10 ?_⟩
        rw [nar_bz c3, nI_1]
        have gx : Fr [12] [10, 11, 12] ux (sS (sA (sA (sA ux 10 c a1) 11 c (bit1 a2)) 12 c a3) 12 (nI (c + 1))) := Fr.sS (by decide) (Fr.sA (by decide) (Fr.sA (by decide) (Fr.sA (by decide) Fr.rf)))
        refine hM.2 hlt _ (QX_lay hx gx ⟨rfl, fun i hi => ?_⟩) gx
        rw [sS_2, sA_2, if_neg (by decide), sA_2, if_neg (by decide), sA_2, if_pos rfl, sA_2, if_neg (by decide), sA_2, if_pos rfl, sA_2, if_neg (by decide), sA_2, if_pos rfl, sA_2, if_neg (by decide), sA_2, if_neg (by decide), upd_ap, upd_ap, upd_ap, upd_ap, upd_ap, upd_ap]
        by_cases e2 : i = c
        · rw [if_pos e2, if_pos e2, if_pos e2, if_pos e2, if_pos e2, if_pos e2]; exact ⟨rfl, rfl, rfl⟩
        · rw [if_neg e2, if_neg e2, if_neg e2, if_neg e2, if_neg e2, if_neg e2]; exact hl9.2 i (by omega)
      refine ⟨vp_in_nI hlt (by omega), vp_in_nI hlt (by omega), fun e3 => ?_, fun e3 => ?_⟩
      · have := fin 0 ((c3.resolve_right e3).symm)
        rw [sA_1, sA_1, hl9.1]
        exact this
      · have := fin 1 e3.symm
        rw [sA_1, sA_1, hl9.1]
        exact this
    · have : ¬ c < 12 := fun x => e ((nI_ltI (b := 12) (by omega) (by omega)).mpr x)
      omega
  · exact p_M_in (lo := 0) (hi := 29) rfl rfl (fun _ => t01 (p_M_isThing (fun _ => t01 (p_isTwo (fun x => absurd x c3) (fun _ => f10 ⟨rfl, same⟩))) (fun x => absurd c2 x))) (fun x => absurd c1 x)
  · exact p_M_in (lo := 0) (hi := 29) rfl rfl (fun _ => t01 (p_M_isThing (fun x => absurd x c2) (fun _ => f01 ⟨rfl, same⟩))) (fun x => absurd c1 x)
  · exact p_M_in (lo := 0) (hi := 29) rfl rfl (fun x => absurd x c1) (fun _ => f01 ⟨rfl, same⟩)
theorem s_back (h : Rel ux um) : w_X_back ux (fun rX wX => w_M_back um (fun rM wM => rX = rM ∧ Rel wX wM)) := by
  obtain ⟨⟨b, n, d, m, f, lw, lb, lz, c, ss, sb, k, ok, hx, hm⟩, hs, hl⟩ := h
  have same : Rel ux um := s_fin ok hs hl hx Fr.rf hm Fr.rf
  have hl9 := hx.2.2.2.2.2.2.2.2.1
  have hm4 := hm.2.2.2.1
  have hc := ok.2.2.2.1.1
  unfold w_X_back w_K_dropLaying w_K_layings w_M_back
  rw [hl9.1, hm4.1]
  refine ⟨fun e => t10 ?_, fun e => f10 ?_⟩
  · rw [show (0 : Int32) = nI 0 from rfl, nI_ltI (by omega) (by omega)] at e
    obtain ⟨i, rfl⟩ : ∃ i, c = i + 1 := ⟨c - 1, by omega⟩
    refine ⟨fun _ => ?_, fun x => absurd x (nI_ne0 (by omega) (by omega))⟩
    rw [nI_pred]
    have gx : Fr [12] [10, 11, 12] ux (sS ux 12 (nI i)) := Fr.sS (by decide) Fr.rf
    have gm : Fr [5] [10] um (sS um 5 (nI i)) := Fr.sS (by decide) Fr.rf
    exact ⟨rfl, Rel_q ⟨ok.1, ok.2.1, ok.2.2.1, ⟨by omega, fun j hj => ok.2.2.2.1.2 j (by omega)⟩, ok.2.2.2.2⟩ (QX_lay (lw' := lw) (lb' := lb) (lz' := lz) (c' := i) hx gx ⟨rfl, fun j hj => hl9.2 j (by omega)⟩) (QM_lay hm gm ⟨rfl, fun j hj => hm4.2 j (by omega)⟩) gx (by decide) (by decide) gm (by decide) (by decide) hs hl⟩
  · rw [show (0 : Int32) = nI 0 from rfl, nI_ltI (by omega) (by omega)] at e
    obtain rfl : c = 0 := by omega
    exact ⟨fun x => absurd rfl x, fun _ => ⟨rfl, same⟩⟩
theorem s_seen (h : Rel ux um) : ∀ a1 a2 : Int32, w_X_seen a1 a2 ux (fun rX wX => w_M_seen a1 a2 um (fun rM wM => rX = rM ∧ Rel wX wM)) := by
  obtain ⟨⟨b, n, d, m, f, lw, lb, lz, c, ss, sb, k, ok, hx, hm⟩, hs, hl⟩ := h
  have same : Rel ux um := s_fin ok hs hl hx Fr.rf hm Fr.rf
  intro a1 a2
  have hk := ok.2.2.2.2
  by_cases hc : B8 a1 ∧ B8 a2
  · refine p_isBits (fun _ => t01 (p_isBits (fun _ => t10 ?_) (fun e => absurd hc.2 e))) (fun e => absurd hc.1 e)
    refine x_add hk hx (fun hlt wx hwx gx => t10 ?_) (fun he => f10 ?_)
    · unfold w_S_size
      rw [hwx.2.2.2.2.2.2.2.2.2.1]
      exact m_seen1 hk hm hc.1 hc.2 (fun _ wm hwm gm => ⟨rfl, Rel_q ⟨ok.1, ok.2.1, ok.2.2.1, ok.2.2.2.1, hlt⟩ hwx hwm gx (by decide) (by decide) gm (by decide) (by decide) hs hl⟩) (fun e => absurd hlt (by omega))
    · exact m_seen1 hk hm hc.1 hc.2 (fun e => absurd e (by omega)) (fun _ => ⟨rfl, same⟩)
  · exact x_seen0 hc (m_seen0 hc ⟨rfl, same⟩)
theorem s_forget (h : Rel ux um) : w_X_forget ux (fun rX wX => w_M_forget um (fun rM wM => rX = rM ∧ Rel wX wM)) := by
  obtain ⟨⟨b, n, d, m, f, lw, lb, lz, c, ss, sb, k, ok, hx, hm⟩, hs, hl⟩ := h
  have same : Rel ux um := s_fin ok hs hl hx Fr.rf hm Fr.rf
  unfold w_X_forget w_S_size w_S_clear w_M_forget
  have gx : Fr [13] [15, 16] ux (sS ux 13 0) := Fr.sS (by decide) Fr.rf
  have gm : Fr [6] [15] um (sS um 6 0) := Fr.sS (by decide) Fr.rf
  refine ⟨by rw [hx.2.2.2.2.2.2.2.2.2.1, hm.2.2.2.2.1], ?_⟩
  exact Rel_q (ss := ss) (sb := sb) (k := 0) ⟨ok.1, ok.2.1, ok.2.2.1, ok.2.2.2.1, by omega⟩ (QX_seen hx gx ⟨rfl, fun j hj => absurd hj (Nat.not_lt_zero j)⟩) (QM_seen hm gm ⟨rfl, fun j hj => absurd hj (Nat.not_lt_zero j)⟩) gx (by decide) (by decide) gm (by decide) (by decide) hs hl
end
