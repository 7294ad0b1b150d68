/-! the two memories, and what each query answers of them -/
noncomputable def sel {α : Type} (P : Prop) (x y : α) : α := @ite α P (Classical.propDecidable P) x y
theorem sel_t {α : Type} {P : Prop} {x y : α} (h : P) : sel P x y = x := by unfold sel; rw [if_pos h]
theorem sel_f {α : Type} {P : Prop} {x y : α} (h : ¬ P) : sel P x y = y := by unfold sel; rw [if_neg h]
theorem qsel {α : Type} {P : Prop} {x y : α} {R : α → Prop} (h : R (sel P x y)) : (P → R x) ∧ (¬ P → R y) := ⟨fun c => by rw [sel_t c] at h; exact h, fun c => by rw [sel_f c] at h; exact h⟩
theorem t01 {A B : Prop} (h : B) : ((1 : Int32) = 0 → A) ∧ (¬ (1 : Int32) = 0 → B) := ⟨fun e => absurd e (by decide), fun _ => h⟩
theorem t10 {A B : Prop} (h : A) : (¬ (1 : Int32) = 0 → A) ∧ ((1 : Int32) = 0 → B) := ⟨fun _ => h, fun e => absurd e (by decide)⟩
theorem f01 {A B : Prop} (h : A) : ((0 : Int32) = 0 → A) ∧ (¬ (0 : Int32) = 0 → B) := ⟨fun _ => h, fun e => absurd rfl e⟩
theorem f10 {A B : Prop} (h : B) : (¬ (0 : Int32) = 0 → A) ∧ ((0 : Int32) = 0 → B) := ⟨fun e => absurd rfl e, fun _ => h⟩
def SgOK (n m : Nat) (f : Int32) (lb lz : Nat → Int32) (c k : Nat) : Prop := n ≤ 79 ∧ m ≤ 35 ∧ B8 f ∧ LayOK lb lz c ∧ k ≤ 8
def QX (u : Mem) (b : Nat → Int32) (n : Nat) (d : Nat → Int32) (m : Nat) (f : Int32) (lw lb lz : Nat → Int32) (c : Nat) (ss sb : Nat → Int32) (k : Nat) : Prop :=
  u.1 2 = nI n ∧ u.1 3 = nI m ∧ u.2 0 = b ∧ u.2 1 = d ∧ LawsX u b n ∧ DustX u d m ∧ (u.1 0 = 0 → HouseX u b n d m) ∧ u.1 11 = f ∧ LayX u lw lb lz c ∧ SeenX u ss sb k
def QM (u : Mem) (b : Nat → Int32) (n : Nat) (d : Nat → Int32) (m : Nat) (f : Int32) (lw lb lz : Nat → Int32) (c : Nat) (ss sb : Nat → Int32) (k : Nat) : Prop :=
  TxM 0 u b n ∧ TxM 1 u d m ∧ u.1 4 = f ∧ LayM u lw lb lz c ∧ SeenM u ss sb k
abbrev FX (u w : Mem) : Prop := Fr [0] [7, 8, 9, 13, 14] u w
abbrev FM (u w : Mem) : Prop := Fr [1, 2, 3] [6, 7, 8, 9, 11, 12, 13, 14] u w
def RdM (u : Mem) (b : Nat → Int32) (n : Nat) (d : Nat → Int32) (m : Nat) : Prop := LawsM u b n ∧ DustM u d m ∧ HouseM u b n d m
theorem nb_SP {x : Int32} (h : SP x) : ∃ j, j < 9 ∧ x = nI (j + 1) := by
  obtain ⟨j, hj, e⟩ := nI_of2 (x := x) (M := 9) (n := 9) rfl (by have := h.1; simp only [Int32.lt_iff_toInt_lt, Int32.le_iff_toInt_le] at *; have : (0 : Int32).toInt = 0 := rfl; have : (1 : Int32).toInt = 1 := rfl; omega) h.2
  cases j with
  | zero => have := h.1; rw [e] at this; exact absurd this (by decide)
  | succ j => exact ⟨j, by omega, e⟩
theorem nb_N {x M : Int32} {N : Nat} (hM : M.toInt = N) (h : 0 ≤ x ∧ x ≤ M) : ∃ j, j ≤ N ∧ x = nI j := nI_of2 hM (Int32.not_lt.mpr h.1) h.2
def PL (x : Int32) : Prop := 0 ≤ x ∧ x ≤ 4
def S9 (x : Int32) : Prop := -1 ≤ x ∧ x ≤ 255
def N9 (x : Int32) : Prop := 0 ≤ x ∧ x ≤ 99
def TN (x : Int32) : Prop := -1 ≤ x ∧ x ≤ 7
def nbr (a x : Int32) : Int32 := if a = -1 ∨ x = 1 then a else bcf a
section
variable {u : Mem} {b d : Nat → Int32} {n m : Nat} {f : Int32} {lw lb lz : Nat → Int32} {c : Nat} {ss sb : Nat → Int32} {k : Nat}
theorem SeenX.keep {w : Mem} {S A : List Nat} (h : SeenX u ss sb k) (g : Fr S A u w) (h1 : 13 ∉ S) (h2 : 15 ∉ A ∧ 16 ∉ A) : SeenX w ss sb k := ⟨by rw [g.1 13 h1]; exact h.1, fun i hi => by rw [g.2 15 h2.1, g.2 16 h2.2]; exact h.2 i hi⟩
theorem SeenM.keep {w : Mem} {S A : List Nat} (h : SeenM u ss sb k) (g : Fr S A u w) (h1 : 6 ∉ S) (h2 : 15 ∉ A) : SeenM w ss sb k := ⟨by rw [g.1 6 h1]; exact h.1, fun i hi => by rw [g.2 15 h2]; exact h.2 i hi⟩
theorem QX.keep {w : Mem} (h : QX u b n d m f lw lb lz c ss sb k) (g : FX u w) (hs : w.1 0 = 0 → HouseX w b n d m) : QX w b n d m f lw lb lz c ss sb k := by
  obtain ⟨h1, h2, h3, h4, h5, h6, h7, h8, h9, h10⟩ := h
  exact ⟨by rw [g.1 2 (by decide)]; exact h1, by rw [g.1 3 (by decide)]; exact h2, by rw [g.2 0 (by decide)]; exact h3, by rw [g.2 1 (by decide)]; exact h4, h5.keep g (by decide) (by decide), h6.keep g (by decide) (by decide), hs, by rw [g.1 11 (by decide)]; exact h8, h9.keep g (by decide) (by decide), h10.keep g (by decide) (by decide)⟩
theorem QM.keep {w : Mem} (h : QM u b n d m f lw lb lz c ss sb k) (g : FM u w) : QM w b n d m f lw lb lz c ss sb k := by
  obtain ⟨h1, h2, h3, h4, h5⟩ := h
  exact ⟨h1.keep g (by decide) (by decide), h2.keep g (by decide) (by decide), by rw [g.1 4 (by decide)]; exact h3, h4.keep g (by decide) (by decide), h5.keep g (by decide) (by decide)⟩
theorem pX_fresh {Q : Mem → Prop} (h : QX u b n d m f lw lb lz c ss sb k) (q : ∀ w, QX w b n d m f lw lb lz c ss sb k → HouseX w b n d m → FX u w → Q w) : w_X_freshHouse u Q := by
  refine p_freshHouse h.2.2.2.2.1 h.2.2.2.2.2.1 h.2.2.2.2.2.2.1 (fun w hw e g => ?_)
  have g2 : FX u w := g.wide (by decide) (by decide)
  exact q w (h.keep g2 (fun _ => hw)) hw g2
theorem QX.fr (h : QX u b n d m f lw lb lz c ss sb k) : u.1 11 = f := h.2.2.2.2.2.2.2.1
theorem QM.fr (h : QM u b n d m f lw lb lz c ss sb k) : u.1 4 = f := h.2.2.1
theorem pM_rd {Q : Mem → Prop} (ok : SgOK n m f lb lz c k) (h : QM u b n d m f lw lb lz c ss sb k) (q : ∀ w, QM w b n d m f lw lb lz c ss sb k → RdM w b n d m → FM u w → Q w) : w_M_reads u Q := by
  refine pM_reads ok.1 ok.2.1 h.1 h.2.1 (fun w h1 h2 h3 g => ?_)
  have g2 : FM u w := g.wide (by decide) (by decide)
  exact q w (h.keep g2) ⟨h1, h2, h3⟩ g2
abbrev gW (b : Nat → Int32) (n : Nat) (d : Nat → Int32) (m : Nat) (f : Int32) (lw lb lz : Nat → Int32) (c : Nat) : Nat → Int32 × Int32 := wkN (CMf b n) (NXf b n d m) lw lb lz c f
theorem pM_lv {Q : Mem → Prop} (ok : SgOK n m f lb lz c k) (h : QM u b n d m f lw lb lz c ss sb k) (q : ∀ w, QM w b n d m f lw lb lz c ss sb k → RdM w b n d m → WksM w (gW b n d m f lw lb lz c) 30 → FM u w → Q w) : w_M_lives u Q := by
  refine pM_lives ok.1 ok.2.1 h.1 h.2.1 ok.2.2.2.1 h.2.2.2.1 h.2.2.1 ok.2.2.1 (fun w h1 h2 h3 h4 g => ?_)
  have g2 : FM u w := g.wide (by decide) (by decide)
  exact q w (h.keep g2) ⟨h1, h2, h3⟩ h4 g2
theorem pX_run {x : Int32} {N : Nat} {Q : Mem → Prop} (hN : N ≤ 30) (hx : x = nI N - 1) (ok : SgOK n m f lb lz c k) (h : QX u b n d m f lw lb lz c ss sb k) (hh : HouseX u b n d m) (q : ∀ w, QX w b n d m f lw lb lz c ss sb k → HouseX w b n d m → WksX w (gW b n d m f lw lb lz c) N → FX u w → Q w) : w_K_runTo x u Q := by
  refine p_runTo hN hx hh ok.2.2.2.1 h.2.2.2.2.2.2.2.2.1 h.fr ok.2.2.1 (fun w hw g => ?_)
  have g2 : FX u w := g.wide (by decide) (by decide)
  have h3 := hh.keep g (by decide)
  exact q w (h.keep g2 (fun _ => h3)) h3 hw g2
theorem x_comes {x : Int32} {Q : Int32 → Mem → Prop} (ok : SgOK n m f lb lz c k) (h : QX u b n d m f lw lb lz c ss sb k) (q : ∀ w, QX w b n d m f lw lb lz c ss sb k → FX u w → Q (sel (B8 x) (CMf b n x) (-2)) w) : w_X_comes x u Q := by
  obtain ⟨qt, qf⟩ := qsel (R := fun r => ∀ w, QX w b n d m f lw lb lz c ss sb k → FX u w → Q r w) q
  exact p_isBits (fun c => t01 (pX_fresh h fun w hw hh fw => p_comesBy hh c (qt c w hw fw))) (fun c => f01 (qf c u h Fr.rf))
theorem m_comes {x : Int32} {Q : Int32 → Mem → Prop} (ok : SgOK n m f lb lz c k) (h : QM u b n d m f lw lb lz c ss sb k) (q : ∀ w, QM w b n d m f lw lb lz c ss sb k → FM u w → Q (sel (B8 x) (CMf b n x) (-2)) w) : w_M_comes x u Q := by
  obtain ⟨qt, qf⟩ := qsel (R := fun r => ∀ w, QM w b n d m f lw lb lz c ss sb k → FM u w → Q r w) q
  refine pM_rd ok h fun w hw hr fw => p_isSet (fun c => t01 ?_) (fun c => f01 (qf c w hw fw))
  obtain ⟨k1, k2⟩ := come_at hr.2.2 c
  rw [k2]; exact ⟨k1, qt c w hw fw⟩
theorem x_lays {x : Int32} {Q : Int32 → Prop} (ok : SgOK n m f lb lz c k) (h : QX u b n d m f lw lb lz c ss sb k) (q : Q (sel (B8 x) (LDf d m x) (-2))) : w_X_lays x u Q := by
  obtain ⟨qt, qf⟩ := qsel (R := fun r => Q r) q
  exact p_isBits (fun c => t01 (p_D_laidBy h.2.2.2.2.2.1 (qt c))) (fun c => f01 (qf c))
theorem m_lays {x : Int32} {Q : Int32 → Mem → Prop} (ok : SgOK n m f lb lz c k) (h : QM u b n d m f lw lb lz c ss sb k) (q : ∀ w, QM w b n d m f lw lb lz c ss sb k → FM u w → Q (sel (B8 x) (LDf d m x) (-2)) w) : w_M_lays x u Q := by
  obtain ⟨qt, qf⟩ := qsel (R := fun r => ∀ w, QM w b n d m f lw lb lz c ss sb k → FM u w → Q r w) q
  refine pM_rd ok h fun w hw hr fw => p_isSet (fun c => t01 ?_) (fun c => f01 (qf c w hw fw))
  obtain ⟨k1, k2⟩ := laid_at hr.2.2 c
  rw [k2]; exact ⟨k1, qt c w hw fw⟩
theorem x_week {x y : Int32} {Q : Int32 → Mem → Prop} (ok : SgOK n m f lb lz c k) (h : QX u b n d m f lw lb lz c ss sb k) (q : ∀ w, QX w b n d m f lw lb lz c ss sb k → FX u w → Q (sel (WK x ∧ T2 y) (if y = 0 then (gW b n d m f lw lb lz c x.toNatClampNeg).1 else (gW b n d m f lw lb lz c x.toNatClampNeg).2) (-2)) w) : w_X_week x y u Q := by
  obtain ⟨qt, qf⟩ := qsel (R := fun r => ∀ w, QX w b n d m f lw lb lz c ss sb k → FX u w → Q r w) q
  refine p_isWeek (fun c => t01 (p_isEither (fun c2 => t10 (pX_fresh h fun w hw hh fw => ?_)) (fun c2 => f10 (qf (fun x => c2 x.2) u h Fr.rf)))) (fun c => f01 (qf (fun x => c x.1) u h Fr.rf))
  obtain ⟨j, hj, rfl⟩ := nb_N (N := 29) rfl c
  refine pX_run (N := j + 1) (by omega) (nI_pred j).symm ok hw hh fun w2 hw2 hh2 hk fw2 => ?_
  have q2 := qt ⟨c, c2⟩ w2 hw2 (fw.tr fw2)
  rw [nI_clamp (by omega)] at q2
  refine ⟨fun e => p_bigIn (by omega) ?_, fun e => p_smallIn (by omega) ?_⟩
  · rw [if_neg e] at q2; rw [(hk j (by omega)).2]; exact q2
  · rw [if_pos e] at q2; rw [(hk j (by omega)).1]; exact q2
theorem m_week {x y : Int32} {Q : Int32 → Mem → Prop} (ok : SgOK n m f lb lz c k) (h : QM u b n d m f lw lb lz c ss sb k) (q : ∀ w, QM w b n d m f lw lb lz c ss sb k → FM u w → Q (sel (WK x ∧ T2 y) (if y = 0 then (gW b n d m f lw lb lz c x.toNatClampNeg).1 else (gW b n d m f lw lb lz c x.toNatClampNeg).2) (-2)) w) : w_M_week x y u Q := by
  obtain ⟨qt, qf⟩ := qsel (R := fun r => ∀ w, QM w b n d m f lw lb lz c ss sb k → FM u w → Q r w) q
  refine pM_lv ok h fun w hw hr hk fw => p_M_in (lo := 0) (hi := 29) rfl rfl (fun c => t01 (p_isTwo (fun c2 => t01 ?_) (fun c2 => f01 (qf (fun x => c2 x.2) w hw fw)))) (fun c => f01 (qf (fun x => c x.1) w hw fw))
  obtain ⟨j, hj, rfl⟩ := nb_N (N := 29) rfl c
  have q2 := qt ⟨c, c2⟩ w hw fw
  rw [nI_clamp (by omega)] at q2 ⊢
  refine ⟨fun e => ⟨vp_in_nI (by omega) (by omega), ?_⟩, fun e => ⟨vp_in_nI (by omega) (by omega), ?_⟩⟩
  · rw [if_neg e] at q2; rw [(hk j (by omega)).2]; exact q2
  · rw [if_pos e] at q2; rw [(hk j (by omega)).1]; exact q2
theorem x_judged {Q : Int32 → Mem → Prop} (ok : SgOK n m f lb lz c k) (h : QX u b n d m f lw lb lz c ss sb k) (q : ∀ w, QX w b n d m f lw lb lz c ss sb k → FX u w → Q (fnd (jdP b n (gW b n d m f lw lb lz c)) 0 30) w) : w_X_judged u Q := by
  refine pX_fresh h fun w hw hh fw => pX_run (N := 30) (by omega) rfl ok hw hh fun w2 hw2 hh2 hk fw2 => ⟨31, ?_⟩
  exact pX_judgedL hh2 hk (fun j => B8_wk ok.2.2.2.1 ok.2.2.1 (fun s _ => B8_NX b n d m s) j) 30 0 (by omega) (q w2 hw2 (fw.tr fw2))
theorem m_judged {Q : Int32 → Mem → Prop} (ok : SgOK n m f lb lz c k) (h : QM u b n d m f lw lb lz c ss sb k) (q : ∀ w, QM w b n d m f lw lb lz c ss sb k → FM u w → Q (fnd (jdP b n (gW b n d m f lw lb lz c)) 0 30) w) : w_M_judged u Q := by
  exact pM_lv ok h fun w hw hr hk fw => pM_judgedNow hr.1 hk (q w hw fw)
theorem x_two {Q : Int32 → Prop} (ok : SgOK n m f lb lz c k) (h : QX u b n d m f lw lb lz c ss sb k) (q : Q (fnd (twP b n) 0 8)) : w_X_two u Q := by
  exact pX_two h.2.2.2.2.1 q
theorem m_two {Q : Int32 → Mem → Prop} (ok : SgOK n m f lb lz c k) (h : QM u b n d m f lw lb lz c ss sb k) (q : ∀ w, QM w b n d m f lw lb lz c ss sb k → FM u w → Q (fnd (twP b n) 0 8) w) : w_M_two u Q := by
  exact pM_readsLaws ok.1 h.1 fun w hl g => pM_twoNow hl (q w (h.keep (g.wide (by decide) (by decide))) (g.wide (by decide) (by decide)))
theorem x_second {x : Int32} {Q : Int32 → Mem → Prop} (ok : SgOK n m f lb lz c k) (h : QX u b n d m f lw lb lz c ss sb k) (q : ∀ w, QX w b n d m f lw lb lz c ss sb k → FX u w → Q (sel (B8 x) (CMf b n (CMf b n x)) (-2)) w) : w_X_second x u Q := by
  obtain ⟨qt, qf⟩ := qsel (R := fun r => ∀ w, QX w b n d m f lw lb lz c ss sb k → FX u w → Q r w) q
  exact p_isBits (fun c => t10 (pX_fresh h fun w hw hh fw => p_comesBy hh c (p_comesBy hh (B8_CM b n _) (qt c w hw fw)))) (fun c => f10 (qf c u h Fr.rf))
theorem m_second {x : Int32} {Q : Int32 → Mem → Prop} (ok : SgOK n m f lb lz c k) (h : QM u b n d m f lw lb lz c ss sb k) (q : ∀ w, QM w b n d m f lw lb lz c ss sb k → FM u w → Q (sel (B8 x) (CMf b n (CMf b n x)) (-2)) w) : w_M_second x u Q := by
  obtain ⟨qt, qf⟩ := qsel (R := fun r => ∀ w, QM w b n d m f lw lb lz c ss sb k → FM u w → Q r w) q
  refine pM_rd ok h fun w hw hr fw => p_isSet (fun c => t01 ?_) (fun c => f01 (qf c w hw fw))
  obtain ⟨k1, k2⟩ := come_at hr.2.2 c
  obtain ⟨k3, k4⟩ := come_at hr.2.2 (B8_CM b n x)
  rw [k2, k4]; exact ⟨k1, k3, qt c w hw fw⟩
theorem x_touch {x y z v : Int32} {Q : Int32 → Mem → Prop} (ok : SgOK n m f lb lz c k) (h : QX u b n d m f lw lb lz c ss sb k) (q : ∀ w, QX w b n d m f lw lb lz c ss sb k → FX u w → Q (sel (SP x ∧ B8 y ∧ B8 z ∧ T2 v ∧ (y &&& z) = 0) (nbr (bstN (tcP (CMf b n) (NXf b n d m) f (x.toNatClampNeg - 1) y z) 256) v) (-2)) w) : w_X_touch x y z v u Q := by
  obtain ⟨qt, qf⟩ := qsel (R := fun r => ∀ w, QX w b n d m f lw lb lz c ss sb k → FX u w → Q r w) q
  refine p_isSpan (fun c => t01 (p_isBits (fun c2 => t01 (p_isBits (fun c3 => t01 (p_isEither (fun c4 => t01 ⟨fun c5 => pX_fresh h fun w hw hh fw => ?_, fun c5 => qf (fun x => c5 x.2.2.2.2) u h Fr.rf⟩) (fun c4 => f01 (qf (fun x => c4 x.2.2.2.1) u h Fr.rf)))) (fun c3 => f01 (qf (fun x => c3 x.2.2.1) u h Fr.rf)))) (fun c2 => f01 (qf (fun x => c2 x.2.1) u h Fr.rf)))) (fun c => f01 (qf (fun x => c x.1) u h Fr.rf))
  have q2 := qt ⟨c, c2, c3, c4, c5⟩ w hw fw
  obtain ⟨j, hj, rfl⟩ := nb_SP c
  rw [nI_clamp (by omega), Nat.add_sub_cancel] at q2
  unfold w_K_firstSet
  rw [hw.fr]
  exact pX_touch (kk := j) (by omega) rfl hh ok.2.2.1 (p_numberOrBits q2)
theorem m_touch {x y z v : Int32} {Q : Int32 → Mem → Prop} (ok : SgOK n m f lb lz c k) (h : QM u b n d m f lw lb lz c ss sb k) (q : ∀ w, QM w b n d m f lw lb lz c ss sb k → FM u w → Q (sel (SP x ∧ B8 y ∧ B8 z ∧ T2 v ∧ (y &&& z) = 0) (nbr (bstN (tcP (CMf b n) (NXf b n d m) f (x.toNatClampNeg - 1) y z) 256) v) (-2)) w) : w_M_touch x y z v u Q := by
  obtain ⟨qt, qf⟩ := qsel (R := fun r => ∀ w, QM w b n d m f lw lb lz c ss sb k → FM u w → Q r w) q
  refine p_M_in (lo := 1) (hi := 9) rfl rfl (fun c => t01 (p_isSet (fun c2 => t01 (p_isSet (fun c3 => t01 ⟨fun c5 => qf (fun x => c5 x.2.2.2.2) u h Fr.rf, fun c5 => p_isTwo (fun c4 => t10 (pM_rd ok h fun w hw hr fw => ?_)) (fun c4 => f10 (qf (fun x => c4 x.2.2.2.1) u h Fr.rf))⟩) (fun c3 => f01 (qf (fun x => c3 x.2.2.1) u h Fr.rf)))) (fun c2 => f01 (qf (fun x => c2 x.2.1) u h Fr.rf)))) (fun c => f01 (qf (fun x => c x.1) u h Fr.rf))
  have q2 := qt ⟨c, c2, c3, c4, c5⟩ w hw fw
  obtain ⟨j, hj, rfl⟩ := nb_SP c
  rw [nI_clamp (by omega), Nat.add_sub_cancel] at q2
  exact pM_touchOf (by omega) hr.2.2 hw.fr ok.2.2.1 (p_told (bst_in _ 256 (by omega)) q2)
theorem mo_keepOff {x y z : Int32} {Q : Int32 → Mem → Prop} (ok : SgOK n m f lb lz c k) (h : QM u b n d m f lw lb lz c ss sb k) (hx : SP x) (hy : TH y) (hz : T2 z) (q : ∀ w, QM w b n d m f lw lb lz c ss sb k → RdM w b n d m → FM u w → Q (nbr (bstN (swP (CMf b n) (NXf b n d m) f x.toNatClampNeg y) 256) z) w) : w_M_keepOff x y z u Q := by
  refine p_M_in (lo := 1) (hi := 9) rfl rfl (fun c => t01 (p_M_isThing (fun c2 => t01 (p_isTwo (fun c3 => t10 (pM_rd ok h fun w hw hr fw => ?_)) (fun c3 => absurd hz c3))) (fun c2 => absurd hy c2))) (fun c => absurd hx c)
  have q2 := q w hw hr fw
  obtain ⟨j, hj, rfl⟩ := nb_SP c
  rw [nI_clamp (by omega)] at q2
  exact pM_keepOffOf (by omega) hr.2.2 hw.fr ok.2.2.1 c2 (p_told (bst_in _ 256 (by omega)) q2)
theorem x_keepOff {x y z : Int32} {Q : Int32 → Mem → Prop} (ok : SgOK n m f lb lz c k) (h : QX u b n d m f lw lb lz c ss sb k) (q : ∀ w, QX w b n d m f lw lb lz c ss sb k → FX u w → Q (sel (SP x ∧ TH y ∧ T2 z) (nbr (bstN (swP (CMf b n) (NXf b n d m) f x.toNatClampNeg y) 256) z) (-2)) w) : w_X_keepOff x y z u Q := by
  obtain ⟨qt, qf⟩ := qsel (R := fun r => ∀ w, QX w b n d m f lw lb lz c ss sb k → FX u w → Q r w) q
  refine p_isSpan (fun c => t01 (p_isThing (fun c2 => t01 (p_isEither (fun c3 => t10 (pX_fresh h fun w hw hh fw => ?_)) (fun c3 => f10 (qf (fun x => c3 x.2.2) u h Fr.rf)))) (fun c2 => f01 (qf (fun x => c2 x.2.1) u h Fr.rf)))) (fun c => f01 (qf (fun x => c x.1) u h Fr.rf))
  have q2 := qt ⟨c, c2, c3⟩ w hw fw
  obtain ⟨j, hj, rfl⟩ := nb_SP c
  rw [nI_clamp (by omega)] at q2
  unfold w_K_firstSet
  rw [hw.fr]
  exact pX_sweep (by omega) hh ok.2.2.1 (p_numberOrBits q2)
theorem m_keepOff {x y z : Int32} {Q : Int32 → Mem → Prop} (ok : SgOK n m f lb lz c k) (h : QM u b n d m f lw lb lz c ss sb k) (q : ∀ w, QM w b n d m f lw lb lz c ss sb k → FM u w → Q (sel (SP x ∧ TH y ∧ T2 z) (nbr (bstN (swP (CMf b n) (NXf b n d m) f x.toNatClampNeg y) 256) z) (-2)) w) : w_M_keepOff x y z u Q := by
  obtain ⟨qt, qf⟩ := qsel (R := fun r => ∀ w, QM w b n d m f lw lb lz c ss sb k → FM u w → Q r w) q
  refine Classical.byCases (fun e : SP x ∧ TH y ∧ T2 z => mo_keepOff ok h e.1 e.2.1 e.2.2 (fun w hw hr fw => qt e w hw fw)) (fun e => ?_)
  exact p_M_in (lo := 1) (hi := 9) rfl rfl (fun c => t01 (p_M_isThing (fun c2 => t01 (p_isTwo (fun c3 => absurd ⟨c, c2, c3⟩ e) (fun c3 => f10 (qf e u h Fr.rf)))) (fun c2 => f01 (qf e u h Fr.rf)))) (fun c => f01 (qf e u h Fr.rf))
theorem x_bars {x : Int32} {Q : Int32 → Mem → Prop} (ok : SgOK n m f lb lz c k) (h : QX u b n d m f lw lb lz c ss sb k) (q : ∀ w, QX w b n d m f lw lb lz c ss sb k → FX u w → Q (sel (TH x) (brN b n x 256) (-2)) w) : w_X_bars x u Q := by
  obtain ⟨qt, qf⟩ := qsel (R := fun r => ∀ w, QX w b n d m f lw lb lz c ss sb k → FX u w → Q r w) q
  exact p_isThing (fun c => t10 (pX_fresh h fun w hw hh fw => pX_barsL hh (qt c w hw fw))) (fun c => f10 (qf c u h Fr.rf))
theorem m_bars {x : Int32} {Q : Int32 → Mem → Prop} (ok : SgOK n m f lb lz c k) (h : QM u b n d m f lw lb lz c ss sb k) (q : ∀ w, QM w b n d m f lw lb lz c ss sb k → FM u w → Q (sel (TH x) (brN b n x 256) (-2)) w) : w_M_bars x u Q := by
  obtain ⟨qt, qf⟩ := qsel (R := fun r => ∀ w, QM w b n d m f lw lb lz c ss sb k → FM u w → Q r w) q
  exact pM_rd ok h fun w hw hr fw => p_M_isThing (fun c => t01 (pM_barsOf hr.1 hr.2.2 c (qt c w hw fw))) (fun c => f01 (qf c w hw fw))
theorem QM.k13 {w : Mem} {A : List Nat} (h : QM u b n d m f lw lb lz c ss sb k) (g : Fr [] A u w) (hA : ∀ i ∈ A, i ∈ [6, 7, 8, 9, 11, 12, 13, 14]) : QM w b n d m f lw lb lz c ss sb k ∧ FM u w := by
  have g2 : FM u w := g.wide (by decide) hA
  exact ⟨h.keep g2, g2⟩
theorem RdM.keep {w : Mem} {S A : List Nat} (h : RdM u b n d m) (g : Fr S A u w) (h1 : 2 ∉ S ∧ 3 ∉ S) (h2 : 6 ∉ A ∧ 7 ∉ A ∧ 8 ∉ A ∧ 9 ∉ A) : RdM w b n d m := ⟨h.1.keep g h1.1 h2.1, h.2.1.keep g h1.2 h2.2.1, h.2.2.keep g ⟨h2.2.2.1, h2.2.2.2⟩⟩
theorem x_play {x y z : Int32} {Q : Int32 → Mem → Prop} (ok : SgOK n m f lb lz c k) (h : QX u b n d m f lw lb lz c ss sb k) (q : ∀ w, QX w b n d m f lw lb lz c ss sb k → FX u w → Q (sel (PL x ∧ TH y ∧ T2 z) (if z = 0 then bI (wnN (CMf b n) y x.toNatClampNeg true f) else tchN (CMf b n) y f x.toNatClampNeg) (-2)) w) : w_X_play x y z u Q := by
  obtain ⟨qt, qf⟩ := qsel (R := fun r => ∀ w, QX w b n d m f lw lb lz c ss sb k → FX u w → Q r w) q
  unfold w_X_play
  refine ⟨fun e => qf (fun x => Int32.not_lt.mpr x.1.1 e) u h Fr.rf, fun e => ⟨fun e2 => qf (fun x => Int32.not_lt.mpr x.1.2 e2) u h Fr.rf, fun e2 => p_isThing (fun c2 => t01 (p_isEither (fun c3 => t10 (pX_fresh h fun w hw hh fw => ?_)) (fun c3 => f10 (qf (fun x => c3 x.2.2) u h Fr.rf)))) (fun c2 => f01 (qf (fun x => c2 x.2.1) u h Fr.rf))⟩⟩
  have c1 : PL x := ⟨Int32.not_lt.mp e, Int32.not_lt.mp e2⟩
  have q2 := qt ⟨c1, c2, c3⟩ w hw fw
  obtain ⟨j, hj, rfl⟩ := nb_N (N := 4) rfl c1
  rw [nI_clamp (by omega)] at q2
  unfold w_K_firstSet
  rw [hw.fr]
  refine ⟨fun e => pX_first hj hh ok.2.2.1 ?_, fun e => pX_ends hj hh ok.2.2.1 ⟨fun e2 => ?_, fun e2 => ?_⟩⟩
  · rw [if_neg e] at q2; exact q2
  · rw [if_pos e, e2] at q2; exact q2
  · rw [if_pos e] at q2; rw [bI_0, Bool.not_eq_false] at e2; rw [e2] at q2; exact q2
theorem m_play {x y z : Int32} {Q : Int32 → Mem → Prop} (ok : SgOK n m f lb lz c k) (h : QM u b n d m f lw lb lz c ss sb k) (q : ∀ w, QM w b n d m f lw lb lz c ss sb k → FM u w → Q (sel (PL x ∧ TH y ∧ T2 z) (if z = 0 then bI (wnN (CMf b n) y x.toNatClampNeg true f) else tchN (CMf b n) y f x.toNatClampNeg) (-2)) w) : w_M_play x y z u Q := by
  obtain ⟨qt, qf⟩ := qsel (R := fun r => ∀ w, QM w b n d m f lw lb lz c ss sb k → FM u w → Q r w) q
  refine pM_rd ok h fun w hw hr fw => p_M_in (lo := 0) (hi := 4) rfl rfl (fun c => t01 (p_M_isThing (fun c2 => t01 (p_isTwo (fun c3 => t01 ?_) (fun c3 => f01 (qf (fun x => c3 x.2.2) w hw fw)))) (fun c2 => f01 (qf (fun x => c2 x.2.1) w hw fw)))) (fun c => f01 (qf (fun x => c x.1) w hw fw))
  have c1 : PL x := c
  have q2 := qt ⟨c1, c2, c3⟩
  obtain ⟨j, hj, rfl⟩ := nb_N (N := 4) rfl c1
  rw [nI_clamp (by omega)] at q2
  refine pM_playOf hj c2 hr.2.2 hw.fr ok.2.2.1 (fun w2 g => ?_)
  obtain ⟨h2, g2⟩ := hw.k13 g (by decide)
  exact q2 w2 h2 (fw.tr g2)
theorem x_steady {x : Int32} {Q : Int32 → Mem → Prop} (ok : SgOK n m f lb lz c k) (h : QX u b n d m f lw lb lz c ss sb k) (q : ∀ w, QX w b n d m f lw lb lz c ss sb k → FX u w → Q (sel (S9 x) (sdN (NXf b n d m) x 256 0 0) (-2)) w) : w_X_steady x u Q := by
  obtain ⟨qt, qf⟩ := qsel (R := fun r => ∀ w, QX w b n d m f lw lb lz c ss sb k → FX u w → Q r w) q
  refine ⟨fun e => qf (fun x => Int32.not_lt.mpr x.1 e) u h Fr.rf, fun e => ⟨fun e2 => pX_fresh h fun w hw hh fw => pX_steadyL hh (qt ⟨Int32.not_lt.mp e, e2⟩ w hw fw), fun e2 => qf (fun x => e2 x.2) u h Fr.rf⟩⟩
theorem m_steady {x : Int32} {Q : Int32 → Mem → Prop} (ok : SgOK n m f lb lz c k) (h : QM u b n d m f lw lb lz c ss sb k) (q : ∀ w, QM w b n d m f lw lb lz c ss sb k → FM u w → Q (sel (S9 x) (sdN (NXf b n d m) x 256 0 0) (-2)) w) : w_M_steady x u Q := by
  obtain ⟨qt, qf⟩ := qsel (R := fun r => ∀ w, QM w b n d m f lw lb lz c ss sb k → FM u w → Q r w) q
  exact pM_rd ok h fun w hw hr fw => p_M_in (lo := -1) (hi := 255) rfl rfl (fun c => t01 (pM_steadyOf hr.2.2 (qt c w hw fw))) (fun c => f01 (qf c w hw fw))
theorem x_round {x y : Int32} {Q : Int32 → Mem → Prop} (ok : SgOK n m f lb lz c k) (h : QX u b n d m f lw lb lz c ss sb k) (q : ∀ w, QX w b n d m f lw lb lz c ss sb k → FX u w → Q (sel (B8 x ∧ T2 y) (if y = 0 then nI (repW (NXf b n d m) x).1 else nI (repW (NXf b n d m) x).1 - nI (repW (NXf b n d m) x).2) (-2)) w) : w_X_round x y u Q := by
  obtain ⟨qt, qf⟩ := qsel (R := fun r => ∀ w, QX w b n d m f lw lb lz c ss sb k → FX u w → Q r w) q
  refine p_isBits (fun c => t01 (p_isEither (fun c2 => t10 (pX_fresh h fun w hw hh fw => ?_)) (fun c2 => f10 (qf (fun x => c2 x.2) u h Fr.rf)))) (fun c => f01 (qf (fun x => c x.1) u h Fr.rf))
  have q2 := qt ⟨c, c2⟩ w hw fw
  have hr := rep_ex (nx := NXf b n d m) (B8_NX b n d m) c
  refine ⟨fun e => p_roundLength hh c hr ?_, fun e => p_weeksToRepeat hh c hr ?_⟩
  · rw [if_neg e] at q2; exact q2
  · rw [if_pos e] at q2; exact q2
theorem m_round {x y : Int32} {Q : Int32 → Mem → Prop} (ok : SgOK n m f lb lz c k) (h : QM u b n d m f lw lb lz c ss sb k) (q : ∀ w, QM w b n d m f lw lb lz c ss sb k → FM u w → Q (sel (B8 x ∧ T2 y) (if y = 0 then nI (repW (NXf b n d m) x).1 else nI (repW (NXf b n d m) x).1 - nI (repW (NXf b n d m) x).2) (-2)) w) : w_M_round x y u Q := by
  obtain ⟨qt, qf⟩ := qsel (R := fun r => ∀ w, QM w b n d m f lw lb lz c ss sb k → FM u w → Q r w) q
  refine pM_rd ok h fun w hw hr fw => p_isSet (fun c => t01 (p_isTwo (fun c2 => t01 ?_) (fun c2 => f01 (qf (fun x => c2 x.2) w hw fw)))) (fun c => f01 (qf (fun x => c x.1) w hw fw))
  refine pM_roundOf hr.2.2 c (rep_ex (nx := NXf b n d m) (B8_NX b n d m) c) (fun w2 g => ?_)
  obtain ⟨h2, g2⟩ := hw.k13 g (by decide)
  exact qt ⟨c, c2⟩ w2 h2 (fw.tr g2)
theorem x_stands {x y : Int32} {Q : Int32 → Prop} (ok : SgOK n m f lb lz c k) (h : QX u b n d m f lw lb lz c ss sb k) (q : Q (sel (TH x ∧ T2 y) (if y = 0 then nI (fb_ct (fun s => stB ss sb x (nI s) k) 256) else bstN (fun s => stB ss sb x (nI s) k) 256) (-2))) : w_X_stands x y u Q := by
  obtain ⟨qt, qf⟩ := qsel (R := fun r => Q r) q
  refine p_isThing (fun c => t01 (p_isEither (fun c2 => t10 ?_) (fun c2 => f10 (qf (fun x => c2 x.2))))) (fun c => f01 (qf (fun x => c x.1)))
  have q2 := qt ⟨c, c2⟩
  refine ⟨fun e => pX_fewest ok.2.2.2.2 h.2.2.2.2.2.2.2.2.2 ?_, fun e => pX_howMany ok.2.2.2.2 h.2.2.2.2.2.2.2.2.2 ?_⟩
  · rw [if_neg e] at q2; exact q2
  · rw [if_pos e] at q2; exact q2
theorem m_stands {x y : Int32} {Q : Int32 → Prop} (ok : SgOK n m f lb lz c k) (h : QM u b n d m f lw lb lz c ss sb k) (q : Q (sel (TH x ∧ T2 y) (if y = 0 then nI (fb_ct (fun s => stB ss sb x (nI s) k) 256) else bstN (fun s => stB ss sb x (nI s) k) 256) (-2))) : w_M_stands x y u Q := by
  obtain ⟨qt, qf⟩ := qsel (R := fun r => Q r) q
  exact p_M_isThing (fun c => t01 (p_isTwo (fun c2 => t01 (pM_standsOf ok.2.2.2.2 h.2.2.2.2 (qt ⟨c, c2⟩))) (fun c2 => f01 (qf (fun x => c2 x.2))))) (fun c => f01 (qf (fun x => c x.1)))
theorem x_watch {x : Int32} {Q : Int32 → Prop} (ok : SgOK n m f lb lz c k) (h : QX u b n d m f lw lb lz c ss sb k) (q : Q (sel (TH x) (if fb_ct (fun s => stB ss sb x (nI s) k) 256 = 0 then -1 else (nrN (dfN ss sb x k) 8).1) (-2))) : w_X_watch x u Q := by
  obtain ⟨qt, qf⟩ := qsel (R := fun r => Q r) q
  exact p_isThing (fun c => t01 (pX_nearest ok.2.2.2.2 h.2.2.2.2.2.2.2.2.2 (qt c))) (fun c => f01 (qf c))
theorem m_watch {x : Int32} {Q : Int32 → Prop} (ok : SgOK n m f lb lz c k) (h : QM u b n d m f lw lb lz c ss sb k) (q : Q (sel (TH x) (if fb_ct (fun s => stB ss sb x (nI s) k) 256 = 0 then -1 else (nrN (dfN ss sb x k) 8).1) (-2))) : w_M_watch x u Q := by
  obtain ⟨qt, qf⟩ := qsel (R := fun r => Q r) q
  exact p_M_isThing (fun c => t01 (pM_watchOf ok.2.2.2.2 h.2.2.2.2 (qt c))) (fun c => f01 (qf c))
theorem x_moved {x : Int32} {Q : Int32 → Mem → Prop} (ok : SgOK n m f lb lz c k) (h : QX u b n d m f lw lb lz c ss sb k) (q : ∀ w, QX w b n d m f lw lb lz c ss sb k → FX u w → Q (sel (B8 x) (moN (CMf b n) f x 8) (-2)) w) : w_X_moved x u Q := by
  obtain ⟨qt, qf⟩ := qsel (R := fun r => ∀ w, QX w b n d m f lw lb lz c ss sb k → FX u w → Q r w) q
  exact p_isBits (fun c => t10 (pX_fresh h fun w hw hh fw => pX_moved hh hw.fr ok.2.2.1 (qt c w hw fw))) (fun c => f10 (qf c u h Fr.rf))
theorem m_moved {x : Int32} {Q : Int32 → Mem → Prop} (ok : SgOK n m f lb lz c k) (h : QM u b n d m f lw lb lz c ss sb k) (q : ∀ w, QM w b n d m f lw lb lz c ss sb k → FM u w → Q (sel (B8 x) (moN (CMf b n) f x 8) (-2)) w) : w_M_moved x u Q := by
  obtain ⟨qt, qf⟩ := qsel (R := fun r => ∀ w, QM w b n d m f lw lb lz c ss sb k → FM u w → Q r w) q
  exact pM_rd ok h fun w hw hr fw => p_isSet (fun c => t01 (pM_movedOf hr.2.2 hw.fr ok.2.2.1 (qt c w hw fw))) (fun c => f01 (qf c w hw fw))
abbrev ctV (v : Nat) (z : Int32) : Int64 := if z = 0 then (nI v / nI (Nat.gcd 128 v)).toInt64 else (128 / nI (Nat.gcd 128 v)).toInt64
theorem caN_129 {cm : Int32 → Int32} {f t : Int32} {j : Nat} (h : j ≤ 16) : caN cm f t j 8 < 129 := by
  have := caN_le (cm := cm) (f := f) (t := t) (c := j) 8
  omega
theorem mo_cat {x y z : Int32} {Q : Int64 → Mem → Prop} (ok : SgOK n m f lb lz c k) (h : QM u b n d m f lw lb lz c ss sb k) (hx : CH x) (hy : TH y) (hz : T2 z) (q : ∀ w, QM w b n d m f lw lb lz c ss sb k → RdM w b n d m → FM u w → Q (ctV (caN (CMf b n) f y x.toNatClampNeg 8) z) w) : w_M_cat x y z u Q := by
  refine pM_rd ok h fun w hw hr fw => p_M_in (lo := 0) (hi := 16) rfl rfl (fun c => t01 (p_M_isThing (fun c2 => t01 (p_isTwo (fun c3 => t01 ?_) (fun c3 => absurd hz c3))) (fun c2 => absurd hy c2))) (fun c => absurd hx c)
  have q2 := q w hw hr fw
  obtain ⟨j, hj, rfl⟩ := nb_N (N := 16) rfl hx
  rw [nI_clamp (by omega)] at q2
  exact pM_catBy hj c2 hr.2.2 hw.fr ok.2.2.1 (p_part (caN_129 hj) q2)
theorem x_cat {x y z : Int32} {Q : Int64 → Mem → Prop} (ok : SgOK n m f lb lz c k) (h : QX u b n d m f lw lb lz c ss sb k) (q : ∀ w, QX w b n d m f lw lb lz c ss sb k → FX u w → Q (sel (CH x ∧ TH y ∧ T2 z) (ctV (caN (CMf b n) f y x.toNatClampNeg 8) z) (-9223372036854775806)) w) : w_X_cat x y z u Q := by
  obtain ⟨qt, qf⟩ := qsel (R := fun r => ∀ w, QX w b n d m f lw lb lz c ss sb k → FX u w → Q r w) q
  refine p_isChance (fun c => t01 (p_isThing (fun c2 => t01 (p_isEither (fun c3 => t10 (pX_fresh h fun w hw hh fw => ?_)) (fun c3 => f10 (qf (fun x => c3 x.2.2) u h Fr.rf)))) (fun c2 => f01 (qf (fun x => c2 x.2.1) u h Fr.rf)))) (fun c => f01 (qf (fun x => c x.1) u h Fr.rf))
  have q2 := qt ⟨c, c2, c3⟩ w hw fw
  obtain ⟨j, hj, rfl⟩ := nb_N (N := 16) rfl c
  rw [nI_clamp (by omega)] at q2
  unfold w_K_firstSet
  rw [hw.fr]
  refine pX_cat hj hh ok.2.2.1 ⟨fun e => p_lowest (caN_129 hj) ?_, fun e => p_lowest (caN_129 hj) ?_⟩
  · unfold ctV at q2; rw [if_neg e] at q2; exact q2
  · unfold ctV at q2; rw [if_pos e] at q2; exact q2
theorem m_cat {x y z : Int32} {Q : Int64 → Mem → Prop} (ok : SgOK n m f lb lz c k) (h : QM u b n d m f lw lb lz c ss sb k) (q : ∀ w, QM w b n d m f lw lb lz c ss sb k → FM u w → Q (sel (CH x ∧ TH y ∧ T2 z) (ctV (caN (CMf b n) f y x.toNatClampNeg 8) z) (-9223372036854775806)) w) : w_M_cat x y z u Q := by
  obtain ⟨qt, qf⟩ := qsel (R := fun r => ∀ w, QM w b n d m f lw lb lz c ss sb k → FM u w → Q r w) q
  refine Classical.byCases (fun e : CH x ∧ TH y ∧ T2 z => mo_cat ok h e.1 e.2.1 e.2.2 (fun w hw hr fw => qt e w hw fw)) (fun e => ?_)
  exact pM_rd ok h fun w hw hr fw => p_M_in (lo := 0) (hi := 16) rfl rfl (fun c => t01 (p_M_isThing (fun c2 => t01 (p_isTwo (fun c3 => absurd ⟨c, c2, c3⟩ e) (fun c3 => f01 (qf e w hw fw)))) (fun c2 => f01 (qf e w hw fw)))) (fun c => f01 (qf e w hw fw))
theorem mo_letOf {x y : Int32} {Q : Int32 → Prop} (ok : SgOK n m f lb lz c k) (h : QM u b n d m f lw lb lz c ss sb k) (hr : RdM u b n d m) (hx : CH x) (hy : TH y) (q : Q (if nI (caN (CMf b n) f y 0 8) ≤ nI (caN (CMf b n) f y x.toNatClampNeg 8) then 0 else 1)) : w_M_letOf x y u Q := by
  obtain ⟨j, hj, rfl⟩ := nb_N (N := 16) rfl hx
  rw [nI_clamp (by omega), caN_0] at q
  refine pM_catBy hj hy hr.2.2 h.fr ok.2.2.1 ?_
  obtain ⟨k1, k2⟩ := come_at hr.2.2 ok.2.2.1
  unfold w_M_letOf_b29
  rw [h.fr, k2]
  refine ⟨k1, p_isIn (fun e => t01 ⟨fun e2 => ?_, fun e2 => ?_⟩) (fun e => f01 ⟨fun e2 => ?_, fun e2 => ?_⟩)⟩
  · rw [isin (B8_CM b n _) hy] at e; rw [if_neg e, if_pos (show nI 128 ≤ _ from e2)] at q; exact q
  · rw [isin (B8_CM b n _) hy] at e; rw [if_neg e, if_neg (show ¬ nI 128 ≤ _ from e2)] at q; exact q
  · rw [isin (B8_CM b n _) hy, Classical.not_not] at e; rw [if_pos e, if_pos (show nI 0 ≤ _ from e2)] at q; exact q
  · rw [isin (B8_CM b n _) hy, Classical.not_not] at e; rw [if_pos e, if_neg (show ¬ nI 0 ≤ _ from e2)] at q; exact q
theorem x_let {x y : Int32} {Q : Int32 → Mem → Prop} (ok : SgOK n m f lb lz c k) (h : QX u b n d m f lw lb lz c ss sb k) (q : ∀ w, QX w b n d m f lw lb lz c ss sb k → FX u w → Q (sel (CH x ∧ TH y) (if nI (caN (CMf b n) f y 0 8) ≤ nI (caN (CMf b n) f y x.toNatClampNeg 8) then 0 else 1) (-2)) w) : w_X_let x y u Q := by
  obtain ⟨qt, qf⟩ := qsel (R := fun r => ∀ w, QX w b n d m f lw lb lz c ss sb k → FX u w → Q r w) q
  refine p_isChance (fun c => t01 (p_isThing (fun c2 => t10 (pX_fresh h fun w hw hh fw => ?_)) (fun c2 => f10 (qf (fun x => c2 x.2) u h Fr.rf)))) (fun c => f01 (qf (fun x => c x.1) u h Fr.rf))
  have q2 := qt ⟨c, c2⟩ w hw fw
  obtain ⟨j, hj, rfl⟩ := nb_N (N := 16) rfl c
  rw [nI_clamp (by omega)] at q2
  unfold w_K_firstSet
  rw [hw.fr]
  refine pX_cat hj hh ok.2.2.1 (pX_cat (c := 0) (by omega) hh ok.2.2.1 ⟨fun e => ?_, fun e => ?_⟩)
  · rw [if_pos e] at q2; exact q2
  · rw [if_neg e] at q2; exact q2
theorem m_let {x y : Int32} {Q : Int32 → Mem → Prop} (ok : SgOK n m f lb lz c k) (h : QM u b n d m f lw lb lz c ss sb k) (q : ∀ w, QM w b n d m f lw lb lz c ss sb k → FM u w → Q (sel (CH x ∧ TH y) (if nI (caN (CMf b n) f y 0 8) ≤ nI (caN (CMf b n) f y x.toNatClampNeg 8) then 0 else 1) (-2)) w) : w_M_let x y u Q := by
  obtain ⟨qt, qf⟩ := qsel (R := fun r => ∀ w, QM w b n d m f lw lb lz c ss sb k → FM u w → Q r w) q
  exact pM_rd ok h fun w hw hr fw => p_M_in (lo := 0) (hi := 16) rfl rfl (fun c => t01 (p_M_isThing (fun c2 => t01 (mo_letOf ok hw hr c c2 (qt ⟨c, c2⟩ w hw fw))) (fun c2 => f01 (qf (fun x => c2 x.2) w hw fw)))) (fun c => f01 (qf (fun x => c x.1) w hw fw))
theorem TN_th {x : Int32} : TN x ↔ x = -1 ∨ TH x := by
  unfold TN TH
  simp only [Int32.le_iff_toInt_le, ← Int32.toInt_inj]
  have : (-1 : Int32).toInt = -1 := rfl
  have : (0 : Int32).toInt = 0 := rfl
  have : (7 : Int32).toInt = 7 := rfl
  omega
theorem x_lot {x y z : Int32} {Q : Int32 → Mem → Prop} (ok : SgOK n m f lb lz c k) (h : QX u b n d m f lw lb lz c ss sb k) (q : ∀ w, QX w b n d m f lw lb lz c ss sb k → FX u w → Q (sel (N9 y ∧ TN z) (if z = -1 then (ltN (CMf b n) (NXf b n d m) z f x y.toNatClampNeg).2.1 else (ltN (CMf b n) (NXf b n d m) z f x y.toNatClampNeg).2.2) (-2)) w) : w_X_lot x y z u Q := by
  obtain ⟨qt, qf⟩ := qsel (R := fun r => ∀ w, QX w b n d m f lw lb lz c ss sb k → FX u w → Q r w) q
  have go : N9 y → TN z → w_X_lot_b25 x y z u Q := fun c c2 => by
    refine pX_fresh h fun w hw hh fw => ?_
    have q2 := qt ⟨c, c2⟩ w hw fw
    obtain ⟨j, hj, rfl⟩ := nb_N (N := 99) rfl c
    rw [nI_clamp (by omega)] at q2
    unfold w_K_firstSet
    rw [hw.fr]
    exact pX_lot (by omega) hh ok.2.2.1 q2
  refine ⟨fun e => qf (fun x => Int32.not_lt.mpr x.1.1 e) u h Fr.rf, fun e => ⟨fun e2 => qf (fun x => Int32.not_lt.mpr x.1.2 e2) u h Fr.rf, fun e2 => ⟨fun e3 => go ⟨Int32.not_lt.mp e, Int32.not_lt.mp e2⟩ (by rw [e3]; exact ⟨by decide, by decide⟩), fun e3 => p_isThing (fun c => t10 (go ⟨Int32.not_lt.mp e, Int32.not_lt.mp e2⟩ (TN_th.mpr (Or.inr c)))) (fun c => f10 (qf (fun x => (TN_th.mp x.2).elim e3 c) u h Fr.rf))⟩⟩⟩
theorem m_lot {x y z : Int32} {Q : Int32 → Mem → Prop} (ok : SgOK n m f lb lz c k) (h : QM u b n d m f lw lb lz c ss sb k) (q : ∀ w, QM w b n d m f lw lb lz c ss sb k → FM u w → Q (sel (N9 y ∧ TN z) (if z = -1 then (ltN (CMf b n) (NXf b n d m) z f x y.toNatClampNeg).2.1 else (ltN (CMf b n) (NXf b n d m) z f x y.toNatClampNeg).2.2) (-2)) w) : w_M_lot x y z u Q := by
  obtain ⟨qt, qf⟩ := qsel (R := fun r => ∀ w, QM w b n d m f lw lb lz c ss sb k → FM u w → Q r w) q
  refine pM_rd ok h fun w hw hr fw => p_M_in (lo := 0) (hi := 99) rfl rfl (fun c => t01 (p_M_in (lo := -1) (hi := 7) rfl rfl (fun c2 => t01 ?_) (fun c2 => f01 (qf (fun x => c2 x.2) w hw fw)))) (fun c => f01 (qf (fun x => c x.1) w hw fw))
  have q2 := qt ⟨c, c2⟩ w hw fw
  obtain ⟨j, hj, rfl⟩ := nb_N (N := 99) rfl c
  rw [nI_clamp (by omega)] at q2
  exact pM_lotOf (by omega) hr.2.2 hw.fr ok.2.2.1 q2
theorem x_fault {x : Int32} {Q : Int32 → Prop} (ok : SgOK n m f lb lz c k) (h : QX u b n d m f lw lb lz c ss sb k) (q : Q (sel (T2 x) (if x = 0 then faultL b n else faultD d m) (-2))) : w_X_fault x u Q := by
  obtain ⟨qt, qf⟩ := qsel (R := fun r => Q r) q
  have e0 : x = 0 → w_R_faultPlace_0 u Q := fun e => by
    have := qt (Or.inl e); rw [if_pos e] at this; unfold w_R_faultPlace_0; rw [h.2.2.2.2.1.1]; exact this
  have e1 : x = 1 → w_R_faultPlace_1 u Q := fun e => by
    have := qt (Or.inr e); rw [if_neg (by rw [e]; decide)] at this; unfold w_R_faultPlace_1; rw [h.2.2.2.2.2.1.1]; exact this
  unfold w_X_fault w_X_textOf
  refine ⟨fun e => ⟨fun e2 => ⟨fun _ => qf (fun x => x.elim e e2), fun x => absurd x (by decide), fun x => absurd x (by decide)⟩, fun e2 => ⟨fun x => absurd x (by decide), fun x => absurd x (by decide), fun _ => ⟨fun _ => e1 e2, fun x => absurd x e⟩⟩⟩, fun e => ⟨fun x => absurd x (by decide), fun _ => ⟨fun x => absurd e x, fun _ => e0 e⟩, fun x => absurd x (by decide)⟩⟩
theorem m_fault {x : Int32} {Q : Int32 → Mem → Prop} (ok : SgOK n m f lb lz c k) (h : QM u b n d m f lw lb lz c ss sb k) (q : ∀ w, QM w b n d m f lw lb lz c ss sb k → FM u w → Q (sel (T2 x) (if x = 0 then faultL b n else faultD d m) (-2)) w) : w_M_fault x u Q := by
  obtain ⟨qt, qf⟩ := qsel (R := fun r => ∀ w, QM w b n d m f lw lb lz c ss sb k → FM u w → Q r w) q
  refine p_isTwo (fun c => t10 ⟨fun e => pM_readsDust ok.2.1 h.2.1 fun w hd g => ?_, fun e => pM_readsLaws ok.1 h.1 fun w hd g => ?_⟩) (fun c => f10 (qf c u h Fr.rf))
  · have := qt c w (h.keep (g.wide (by decide) (by decide))) (g.wide (by decide) (by decide)); rw [if_neg e] at this; exact this
  · have := qt c w (h.keep (g.wide (by decide) (by decide))) (g.wide (by decide) (by decide)); rw [if_pos e] at this; exact this
def RuP (x : Int32) (N : Nat) : Prop := 0 ≤ x ∧ x ≤ nI N - 1
theorem RuP_nI {x : Int32} {N : Nat} (hN : N < 100) (h : RuP x N) : ∃ j, j < N ∧ x = nI j := by
  have h2 := h.2
  rw [Int32.le_iff_toInt_le, show (1 : Int32) = nI 1 from rfl, pk_sub_toInt (by omega) (by omega)] at h2
  obtain ⟨j, hj, rfl⟩ := nI_of (Int32.not_lt.mpr h.1)
  rw [nI_toInt hj] at h2
  exact ⟨j, by omega, rfl⟩
theorem RuP_of {x : Int32} {N : Nat} (hN : N < 100) (h : ¬ x < 0) (h2 : ¬ nI N ≤ x) : RuP x N := by
  obtain ⟨j, hj, rfl⟩ := nI_of h
  rw [nI_leI (by omega) hj] at h2
  refine ⟨nI_pos' hj, ?_⟩
  rw [Int32.le_iff_toInt_le, show (1 : Int32) = nI 1 from rfl, pk_sub_toInt (by omega) (by omega), nI_toInt hj]
  omega
theorem RuP_no {x : Int32} {N : Nat} (hN : N < 100) (h2 : nI N ≤ x) : ¬ RuP x N := fun h => by
  obtain ⟨j, hj, rfl⟩ := RuP_nI hN h
  rw [nI_leI (by omega) (by omega)] at h2
  omega
theorem x_rule {x y : Int32} {Q : Int32 → Prop} (ok : SgOK n m f lb lz c k) (h : QX u b n d m f lw lb lz c ss sb k) (q : Q (sel (RuP x (cntL b n) ∧ FO y) (if y = 0 then smF b n x.toNatClampNeg else if y = 1 then plF b n x.toNatClampNeg else bgF b n x.toNatClampNeg) (-2))) : w_X_rule x y u Q := by
  obtain ⟨qt, qf⟩ := qsel (R := fun r => Q r) q
  have hc := cntL_le b n
  have hl := h.2.2.2.2.1
  unfold w_X_rule w_R_size_0
  rw [hl.2.1]
  refine ⟨fun e => qf (fun x => Int32.not_lt.mpr x.1.1 e), fun e => ⟨fun e2 => qf (fun x => RuP_no (by omega) e2 x.1), fun e2 => ⟨fun e3 => qf (fun x => Int32.not_lt.mpr x.2.1 e3), fun e3 => ⟨fun e4 => ?_, fun e4 => qf (fun x => e4 x.2.2)⟩⟩⟩⟩
  have c1 := RuP_of (by omega) e e2
  have q2 := qt ⟨c1, Int32.not_lt.mp e3, e4⟩
  obtain ⟨j, hj, rfl⟩ := RuP_nI (by omega) c1
  rw [nI_clamp (by omega)] at q2
  unfold w_L_bigOf w_L_isPlus w_L_smallOf
  rw [nI_clamp (by omega), (hl.2.2 j hj).1, (hl.2.2 j hj).2.1, (hl.2.2 j hj).2.2]
  have hz : ∀ {A B : Prop}, B → (nI j < 0 → A) ∧ (¬ nI j < 0 → (16 ≤ nI j → A) ∧ (¬ 16 ≤ nI j → vp_in (nI j) 16 ∧ B)) := fun hB => ⟨fun x => absurd x e, fun _ => ⟨fun x => absurd ((nI_leI (a := 16) (by omega) (by omega)).mp x) (by omega), fun _ => ⟨vp_in_nI (by omega) (by omega), hB⟩⟩⟩
  refine ⟨fun f1 => ⟨fun f2 => hz ?_, fun f2 => hz ⟨fun f3 => f01 ?_, fun f3 => t01 ?_⟩⟩, fun f1 => hz ?_⟩
  · rw [if_neg f1, if_neg f2] at q2; exact q2
  · rw [if_neg f1, if_pos f2, f3] at q2; exact q2
  · rw [if_neg f1, if_pos f2] at q2
    have hb := (okL_r b n).2.2 j (by have := hj; unfold cntL at this; split at this <;> omega)
    rcases hb.1 with x | x
    · exact absurd x f3
    · rw [show plF b n j = 1 from x] at q2; exact q2
  · rw [if_pos f1] at q2; exact q2
theorem m_rule {x y : Int32} {Q : Int32 → Mem → Prop} (ok : SgOK n m f lb lz c k) (h : QM u b n d m f lw lb lz c ss sb k) (q : ∀ w, QM w b n d m f lw lb lz c ss sb k → FM u w → Q (sel (RuP x (cntL b n) ∧ FO y) (if y = 0 then smF b n x.toNatClampNeg else if y = 1 then plF b n x.toNatClampNeg else bgF b n x.toNatClampNeg) (-2)) w) : w_M_rule x y u Q := by
  obtain ⟨qt, qf⟩ := qsel (R := fun r => ∀ w, QM w b n d m f lw lb lz c ss sb k → FM u w → Q r w) q
  have hc := cntL_le b n
  refine pM_readsLaws ok.1 h.1 fun w hl g => ?_
  have hw := h.keep (w := w) (g.wide (by decide) (by decide))
  have fw : FM u w := g.wide (by decide) (by decide)
  rw [hl.1]
  refine p_M_in (lo := 0) (hi := nI (cntL b n) - 1) rfl rfl (fun c => t01 (p_M_in (lo := 0) (hi := 2) rfl rfl (fun c2 => t01 ?_) (fun c2 => f01 (qf (fun x => c2 x.2) w hw fw)))) (fun c => f01 (qf (fun x => c x.1) w hw fw))
  have c1 : RuP x (cntL b n) := c
  have q2 := qt ⟨c1, c2⟩ w hw fw
  obtain ⟨j, hj, rfl⟩ := RuP_nI (by omega) c1
  obtain ⟨i, hi, rfl⟩ := nb_N (N := 2) rfl c2
  rw [nI_clamp (by omega)] at q2
  rw [e3k, nI_add, nI_clamp (by omega)]
  refine ⟨vp_in_nI (by omega) (by omega), ?_⟩
  have hi3 : i = 0 ∨ i = 1 ∨ i = 2 := by omega
  rcases hi3 with rfl | rfl | rfl
  · rw [if_pos (by decide)] at q2; rw [Nat.add_zero, (hl.2 j hj).1]; exact q2
  · rw [if_neg (by decide), if_pos (by decide)] at q2; rw [(hl.2 j hj).2.1]; exact q2
  · rw [if_neg (by decide), if_neg (by decide)] at q2; rw [(hl.2 j hj).2.2]; exact q2
theorem x_dust {x y : Int32} {Q : Int32 → Prop} (ok : SgOK n m f lb lz c k) (h : QX u b n d m f lw lb lz c ss sb k) (q : Q (sel (RuP x (cntD d m) ∧ T2 y) (if y = 0 then dbF d m x.toNatClampNeg else dsF d m x.toNatClampNeg) (-2))) : w_X_dust x y u Q := by
  obtain ⟨qt, qf⟩ := qsel (R := fun r => Q r) q
  have hc := cntD_le d m
  have hl := h.2.2.2.2.2.1
  unfold w_X_dust w_R_size_1
  rw [hl.2.1]
  refine ⟨fun e => qf (fun x => Int32.not_lt.mpr x.1.1 e), fun e => ⟨fun e2 => qf (fun x => RuP_no (by omega) e2 x.1), fun e2 => p_isEither (fun c2 => t10 ?_) (fun c2 => f10 (qf (fun x => c2 x.2)))⟩⟩
  have c1 := RuP_of (by omega) e e2
  have q2 := qt ⟨c1, c2⟩
  obtain ⟨j, hj, rfl⟩ := RuP_nI (by omega) c1
  rw [nI_clamp (by omega)] at q2
  unfold w_D_bigOf w_D_smallOf
  rw [nI_clamp (by omega), (hl.2.2 j hj).1, (hl.2.2 j hj).2]
  have hz : ∀ {A B : Prop}, B → (nI j < 0 → A) ∧ (¬ nI j < 0 → (12 ≤ nI j → A) ∧ (¬ 12 ≤ nI j → vp_in (nI j) 12 ∧ B)) := fun hB => ⟨fun x => absurd x e, fun _ => ⟨fun x => absurd ((nI_leI (a := 12) (by omega) (by omega)).mp x) (by omega), fun _ => ⟨vp_in_nI (by omega) (by omega), hB⟩⟩⟩
  refine ⟨fun f1 => hz ?_, fun f1 => hz ?_⟩
  · rw [if_neg f1] at q2; exact q2
  · rw [if_pos f1] at q2; exact q2
theorem m_dust {x y : Int32} {Q : Int32 → Mem → Prop} (ok : SgOK n m f lb lz c k) (h : QM u b n d m f lw lb lz c ss sb k) (q : ∀ w, QM w b n d m f lw lb lz c ss sb k → FM u w → Q (sel (RuP x (cntD d m) ∧ T2 y) (if y = 0 then dbF d m x.toNatClampNeg else dsF d m x.toNatClampNeg) (-2)) w) : w_M_dust x y u Q := by
  obtain ⟨qt, qf⟩ := qsel (R := fun r => ∀ w, QM w b n d m f lw lb lz c ss sb k → FM u w → Q r w) q
  have hc := cntD_le d m
  refine pM_readsDust ok.2.1 h.2.1 fun w hl g => ?_
  have hw := h.keep (w := w) (g.wide (by decide) (by decide))
  have fw : FM u w := g.wide (by decide) (by decide)
  rw [hl.1]
  refine p_M_in (lo := 0) (hi := nI (cntD d m) - 1) rfl rfl (fun c => t01 (p_isTwo (fun c2 => t01 ?_) (fun c2 => f01 (qf (fun x => c2 x.2) w hw fw)))) (fun c => f01 (qf (fun x => c x.1) w hw fw))
  have c1 : RuP x (cntD d m) := c
  have q2 := qt ⟨c1, c2⟩ w hw fw
  obtain ⟨j, hj, rfl⟩ := RuP_nI (by omega) c1
  rw [nI_clamp (by omega)] at q2
  rcases c2 with rfl | rfl
  · rw [e2k, Int32.add_zero, nI_clamp (by omega), (hl.2 j hj).1]; rw [if_pos rfl] at q2; exact ⟨vp_in_nI (by omega) (by omega), q2⟩
  · rw [e21k, nI_clamp (by omega), (hl.2 j hj).2]; rw [if_neg (by decide)] at q2; exact ⟨vp_in_nI (by omega) (by omega), q2⟩
abbrev coV (b : Nat → Int32) (n : Nat) (d : Nat → Int32) (m : Nat) (f : Int32) (c k : Nat) (la x : Int32) : Int32 := if x = 0 then nI (cntL b n) else if x = 1 then nI (cntD d m) else if x = 2 then nI n else if x = 3 then nI m else if x = 4 then nI c else if x = 5 then nI k else if x = 6 then plN (plF b n) (cntL b n) else if x = 7 then f else if x = 8 then la else -2
theorem co_out {x la : Int32} (h : x.toInt < 0 ∨ 8 < x.toInt) : coV b n d m f c k la x = -2 := by
  unfold coV
  have e : ∀ (y : Int32), 0 ≤ y.toInt → y.toInt ≤ 8 → ¬ x = y := fun y h1 h2 e => by subst e; omega
  rw [if_neg (e 0 (by decide) (by decide)), if_neg (e 1 (by decide) (by decide)), if_neg (e 2 (by decide) (by decide)), if_neg (e 3 (by decide) (by decide)), if_neg (e 4 (by decide) (by decide)), if_neg (e 5 (by decide) (by decide)), if_neg (e 6 (by decide) (by decide)), if_neg (e 7 (by decide) (by decide)), if_neg (e 8 (by decide) (by decide))]
theorem x_count {x la : Int32} {Q : Int32 → Prop} (h : QX u b n d m f lw lb lz c ss sb k) (hla : u.1 1 = la) (q : Q (coV b n d m f c k la x)) : w_X_count x u Q := by
  unfold w_X_count w_R_size_0 w_R_size_1 w_T_size_0 w_T_size_1 w_K_layings w_S_size w_K_firstSet
  rw [h.2.2.2.2.1.2.1, h.2.2.2.2.2.1.2.1, h.1, h.2.1, h.2.2.2.2.2.2.2.2.1.1, h.2.2.2.2.2.2.2.2.2.1, h.fr, hla]
  refine ⟨?_, ?_, ?_, ?_, ?_, ?_, ?_, ?_, ?_, fun e => by rw [co_out e] at q; exact q⟩
  · rintro rfl; exact q
  · rintro rfl; exact q
  · rintro rfl; exact q
  · rintro rfl; exact q
  · rintro rfl; exact q
  · rintro rfl; exact q
  · rintro rfl; exact pX_plusCount h.2.2.2.2.1 q
  · rintro rfl; exact q
  · rintro rfl; exact q
theorem m_count {x la : Int32} {Q : Int32 → Mem → Prop} (ok : SgOK n m f lb lz c k) (h : QM u b n d m f lw lb lz c ss sb k) (hla : u.1 0 = la) (q : ∀ w, QM w b n d m f lw lb lz c ss sb k → FM u w → Q (coV b n d m f c k la x) w) : w_M_count x u Q := by
  refine pM_rd ok h fun w hw hr fw => ?_
  have q := q w hw fw
  rw [hr.1.1, hr.2.1.1, hw.2.2.2.1.1, hw.2.2.2.2.1, hw.fr, fw.1 0 (by decide), hla]
  refine ⟨?_, ?_, ?_, ?_, ?_, ?_, ?_, ?_, ?_, fun e => by rw [co_out e] at q; exact q⟩
  · rintro rfl; exact q
  · rintro rfl; exact q
  · rintro rfl; exact ⟨vp_in_nI (n := 0) (by omega) (by omega), by rw [show ((2 : Int32) - 2).toNatClampNeg = 0 from rfl, hw.1.1]; exact q⟩
  · rintro rfl; exact ⟨vp_in_nI (n := 1) (by omega) (by omega), by rw [show ((3 : Int32) - 2).toNatClampNeg = 1 from rfl, hw.2.1.1]; exact q⟩
  · rintro rfl; exact q
  · rintro rfl; exact q
  · rintro rfl
    have hc := cntL_le b n
    refine exfor (fun g (a : Int32 × Int32) => w_M_count_l87 (fun z3 => Q z3 w) w Q g a.1 a.2) (fun i => (plN (plF b n) i, nI i)) (cntL b n) (fun g => ?_) (fun g i hi ih => ?_)
    · dsimp only
      rw [w_M_count_l87, hr.1.1]
      exact ⟨fun _ => q, fun e => absurd ((nI_leI (by omega) (by omega)).mpr (by omega)) e⟩
    · dsimp only at ih ⊢
      rw [w_M_count_l87, hr.1.1, e31k, nI_clamp (by omega), (hr.1.2 i hi).2.1, nI_1]
      exact ⟨fun e => absurd ((nI_leI (by omega) (by omega)).mp e) (by omega), fun _ => ⟨vp_in_nI (by omega) (by omega), ih⟩⟩
  · rintro rfl; exact q
  · rintro rfl; exact q
end
