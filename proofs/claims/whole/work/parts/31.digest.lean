/-! the digest -/
abbrev mx (a : Int64) (r : Int32) : Int64 := 31 * a + r.toInt64
section
variable (b : Nat → Int32) (n : Nat) (d : Nat → Int32) (m : Nat) (f : Int32) (lw lb lz : Nat → Int32) (c : Nat) (ss sb : Nat → Int32) (k : Nat) (la : Int32)
def dgA : Nat → Int64
  | 0 => 17
  | i + 1 => mx (dgA i) (coV b n d m f c k la (nI i))
def dgC (a : Int64) : Nat → Int64
  | 0 => a
  | j + 1 => mx (mx (mx (dgC a j) (smF b n j)) (plF b n j)) (bgF b n j)
def dgD (a : Int64) : Nat → Int64
  | 0 => a
  | j + 1 => mx (mx (dgD a j) (dbF d m j)) (dsF d m j)
def dgT : Int64 := dgD d m (dgC b n (mx (mx (dgA b n d m f c k la 8) (faultL b n)) (faultD d m)) (cntL b n)) (cntD d m)
def ixE (i : Nat) : Nat := if 3 ≤ i then 9 else i
def dgE (g : Nat → Int32 × Int32) (a : Int64) : Nat → Int64
  | 0 => a
  | i + 1 => mx (mx (dgE g a i) (g (ixE i)).1) (g (ixE i)).2
noncomputable def dgF (a : Int64) : Int64 := mx (mx (mx a (fnd (jdP b n (gW b n d m f lw lb lz c)) 0 30)) (fnd (twP b n) 0 8)) (CMf b n (CMf b n 3))
noncomputable def dgG (a : Int64) : Int64 := mx (mx a (nbr (bstN (tcP (CMf b n) (NXf b n d m) f 1 1 2) 256) 0)) (nbr (bstN (tcP (CMf b n) (NXf b n d m) f 1 1 2) 256) 1)
noncomputable def dgH (a : Int64) : Int64 := mx (mx a (sdN (NXf b n d m) (-1) 256 0 0)) (sdN (NXf b n d m) 0 256 0 0)
noncomputable def dgR (a : Int64) : Int64 := mx (mx a (nI (repW (NXf b n d m) 5).1)) (nI (repW (NXf b n d m) 5).1 - nI (repW (NXf b n d m) 5).2)
noncomputable def dgM (a : Int64) : Int64 := mx (mx a (moN (CMf b n) f 1 8)) (ltN (CMf b n) (NXf b n d m) (-1) f 7 9).2.1
def big1 (t : Int32) (a : Int64) : Int64 := mx (mx (mx a (nbr (bstN (swP (CMf b n) (NXf b n d m) f 3 t) 256) 0)) (nbr (bstN (swP (CMf b n) (NXf b n d m) f 3 t) 256) 1)) (brN b n t 256)
def big2 (t : Int32) (a : Int64) : Int64 := mx (mx a (bI (wnN (CMf b n) t 2 true f))) (tchN (CMf b n) t f 2)
def big3 (t : Int32) (a : Int64) : Int64 := mx (mx (mx a (nI (fb_ct (fun s => stB ss sb t (nI s) k) 256))) (bstN (fun s => stB ss sb t (nI s) k) 256)) (if fb_ct (fun s => stB ss sb t (nI s) k) 256 = 0 then -1 else (nrN (dfN ss sb t k) 8).1)
def big4 (t : Int32) (a : Int64) : Int64 := mx (31 * (31 * a + ctV (caN (CMf b n) f t 4 8) 0) + ctV (caN (CMf b n) f t 4 8) 1) (if nI (caN (CMf b n) f t 0 8) ≤ nI (caN (CMf b n) f t 4 8) then 0 else 1)
def bigV (t : Int32) (a : Int64) : Int64 := big4 b n f t (big3 ss sb k t (big2 b n f t (big1 b n d m f t a)))
def dgI (a : Int64) : Nat → Int64
  | 0 => a
  | i + 1 => bigV b n d m f ss sb k (nI i) (dgI a i)
noncomputable def dgV : Int64 := dgI b n d m f ss sb k (dgM b n d m f (dgR b n d m (dgH b n d m (dgG b n d m f (dgF b n d m f lw lb lz c (dgE (gW b n d m f lw lb lz c) (dgT b n d m f c k la) 4)))))) 8
end
section
variable {u : Mem} {b d : Nat → Int32} {n m : Nat} {f : Int32} {lw lb lz : Nat → Int32} {c : Nat} {ss sb : Nat → Int32} {k : Nat} {la : Int32}
theorem T2_0 : T2 0 := Or.inl rfl
theorem T2_1 : T2 1 := Or.inr rfl
theorem x_counts {X Q : Int64 → Prop} (h : QX u b n d m f lw lb lz c ss sb k) (hla : u.1 1 = la) (q : X (dgA b n d m f c k la 8)) : ∃ g, w_X_digestTexts_l5 X u Q g 17 0 := by
  refine exfor (fun g (a : Int64 × Int32) => w_X_digestTexts_l5 X u Q g a.1 a.2) (fun i => (dgA b n d m f c k la i, nI i)) 8 (fun g => ?_) (fun g i hi ih => ?_)
  · dsimp only
    rw [w_X_digestTexts_l5]
    exact ⟨fun _ => q, fun e => absurd ((nI_leI (a := 8) (by omega) (by omega)).mpr (by omega)) e⟩
  · dsimp only at ih ⊢
    rw [w_X_digestTexts_l5]
    unfold w_X_mix
    rw [nI_1]
    exact ⟨fun e => absurd ((nI_leI (a := 8) (by omega) (by omega)).mp e) (by omega), fun _ => x_count h hla ih⟩
theorem x_dgC {a : Int64} {X Q : Int64 → Prop} (ok : SgOK n m f lb lz c k) (h : QX u b n d m f lw lb lz c ss sb k) (q : X (dgC b n a (cntL b n))) : ∃ g, w_X_digestTexts_l55 X u Q g a 0 := by
  have hcL := cntL_le b n
  refine exfor (fun g (s : Int64 × Int32) => w_X_digestTexts_l55 X u Q g s.1 s.2) (fun i => (dgC b n a i, nI i)) (cntL b n) (fun g => ?_) (fun g i hi ih => ?_)
  · dsimp only
    rw [w_X_digestTexts_l55]
    unfold w_R_size_0
    rw [h.2.2.2.2.1.2.1]
    exact ⟨fun _ => q, fun e => absurd ((nI_leI (by omega) (by omega)).mpr (by omega)) e⟩
  · dsimp only at ih ⊢
    rw [w_X_digestTexts_l55]
    unfold w_R_size_0 w_X_mix
    rw [h.2.2.2.2.1.2.1, nI_1]
    have hR : RuP (nI i) (cntL b n) := RuP_of (by omega) (nI_pos (by omega)) (fun x => absurd ((nI_leI (by omega) (by omega)).mp x) (by omega))
    refine ⟨fun e => absurd ((nI_leI (by omega) (by omega)).mp e) (by omega), fun _ => x_rule ok h ?_⟩
    rw [sel_t ⟨hR, ⟨by decide, by decide⟩⟩, if_pos rfl, nI_clamp (by omega)]
    refine x_rule ok h ?_
    rw [sel_t ⟨hR, ⟨by decide, by decide⟩⟩, if_neg (by decide), if_pos rfl, nI_clamp (by omega)]
    refine x_rule ok h ?_
    rw [sel_t ⟨hR, ⟨by decide, by decide⟩⟩, if_neg (by decide), if_neg (by decide), nI_clamp (by omega)]
    exact ih
theorem x_dgD {a : Int64} {X Q : Int64 → Prop} (ok : SgOK n m f lb lz c k) (h : QX u b n d m f lw lb lz c ss sb k) (q : X (dgD d m a (cntD d m))) : ∃ g, w_X_digestTexts_l115 X u Q g a 0 := by
  have hcD := cntD_le d m
  refine exfor (fun g (s : Int64 × Int32) => w_X_digestTexts_l115 X u Q g s.1 s.2) (fun i => (dgD d m a i, nI i)) (cntD d m) (fun g => ?_) (fun g i hi ih => ?_)
  · dsimp only
    rw [w_X_digestTexts_l115]
    unfold w_R_size_1
    rw [h.2.2.2.2.2.1.2.1]
    exact ⟨fun _ => q, fun e => absurd ((nI_leI (by omega) (by omega)).mpr (by omega)) e⟩
  · dsimp only at ih ⊢
    rw [w_X_digestTexts_l115]
    unfold w_R_size_1 w_X_mix
    rw [h.2.2.2.2.2.1.2.1, nI_1]
    have hR : RuP (nI i) (cntD d m) := RuP_of (by omega) (nI_pos (by omega)) (fun x => absurd ((nI_leI (by omega) (by omega)).mp x) (by omega))
    refine ⟨fun e => absurd ((nI_leI (by omega) (by omega)).mp e) (by omega), fun _ => x_dust ok h ?_⟩
    rw [sel_t ⟨hR, T2_0⟩, if_pos rfl, nI_clamp (by omega)]
    refine x_dust ok h ?_
    rw [sel_t ⟨hR, T2_1⟩, if_neg (by decide), nI_clamp (by omega)]
    exact ih
theorem x_digestTexts {Q : Int64 → Prop} (ok : SgOK n m f lb lz c k) (h : QX u b n d m f lw lb lz c ss sb k) (hla : u.1 1 = la) (q : Q (dgT b n d m f c k la)) : w_X_digestTexts 17 u Q := by
  refine x_counts h hla ?_
  unfold w_X_mix
  refine x_fault ok h ?_
  rw [sel_t T2_0, if_pos rfl]
  refine x_fault ok h ?_
  rw [sel_t T2_1, if_neg (by decide)]
  refine x_dgC ok h ?_
  exact x_dgD ok h q
theorem x_big {t : Int32} {a : Int64} {Q : Int64 → Mem → Prop} (ok : SgOK n m f lb lz c k) (h : QX u b n d m f lw lb lz c ss sb k) (ht : TH t) (q : ∀ w, QX w b n d m f lw lb lz c ss sb k → FX u w → Q (bigV b n d m f ss sb k t a) w) : w_X_digestBig a t u Q := by
  unfold w_X_digestBig w_X_mix
  unfold bigV big4 big3 big2 big1 at q
  refine x_keepOff ok h (fun w1 h1 g1 => ?_)
  rw [sel_t ⟨⟨by decide, by decide⟩, ht, Or.inl rfl⟩]
  refine x_keepOff ok h1 (fun w2 h2 g2 => ?_)
  rw [sel_t ⟨⟨by decide, by decide⟩, ht, Or.inr rfl⟩]
  refine x_bars ok h2 (fun w3 h3 g3 => ?_)
  rw [sel_t ht]
  refine x_play ok h3 (fun w4 h4 g4 => ?_)
  rw [sel_t ⟨⟨by decide, by decide⟩, ht, Or.inl rfl⟩, if_pos rfl]
  refine x_play ok h4 (fun w5 h5 g5 => ?_)
  rw [sel_t ⟨⟨by decide, by decide⟩, ht, Or.inr rfl⟩, if_neg (by decide)]
  refine x_stands ok h5 ?_
  rw [sel_t ⟨ht, Or.inl rfl⟩, if_pos rfl]
  refine x_stands ok h5 ?_
  rw [sel_t ⟨ht, Or.inr rfl⟩, if_neg (by decide)]
  refine x_watch ok h5 ?_
  rw [sel_t ht]
  refine x_cat ok h5 (fun w6 h6 g6 => ?_)
  rw [sel_t ⟨⟨by decide, by decide⟩, ht, Or.inl rfl⟩]
  refine x_cat ok h6 (fun w7 h7 g7 => ?_)
  rw [sel_t ⟨⟨by decide, by decide⟩, ht, Or.inr rfl⟩]
  refine x_let ok h7 (fun w8 h8 g8 => ?_)
  rw [sel_t ⟨⟨by decide, by decide⟩, ht⟩]
  exact q w8 h8 (g1.tr (g2.tr (g3.tr (g4.tr (g5.tr (g6.tr (g7.tr g8)))))))
theorem x_dgE {a : Int64} {X Q : Int64 → Mem → Prop} (ok : SgOK n m f lb lz c k) (h : QX u b n d m f lw lb lz c ss sb k) (q : ∀ w, QX w b n d m f lw lb lz c ss sb k → FX u w → X (dgE (gW b n d m f lw lb lz c) a 4) w) : ∃ g, w_X_digest_l10 X Q g a 0 u := by
  refine exinv (fun g (s : Int64 × Int32 × Mem) => w_X_digest_l10 X Q g s.1 s.2.1 s.2.2) (fun i s => s.1 = dgE (gW b n d m f lw lb lz c) a i ∧ s.2.1 = nI i ∧ QX s.2.2 b n d m f lw lb lz c ss sb k ∧ FX u s.2.2) 4 (a, 0, u) ⟨rfl, rfl, h, Fr.rf⟩ ?_ ?_
  · rintro g ⟨_, _, w⟩ ⟨rfl, rfl, hw, gw⟩
    dsimp only at hw gw ⊢
    rw [w_X_digest_l10]
    exact ⟨fun _ => q w hw gw, fun e => absurd ((nI_leI (a := 4) (by omega) (by omega)).mpr (by omega)) e⟩
  · rintro g i ⟨_, _, w⟩ hi ⟨rfl, rfl, hw, gw⟩ ih
    dsimp only at hw gw ⊢
    rw [w_X_digest_l10]
    have fin : ∀ s0, s0 = nI (ixE i) → w_X_digest_b26 (w_X_digest_l10 X Q g) X (dgE (gW b n d m f lw lb lz c) a i) (nI i) s0 w Q := by
      rintro _ rfl
      unfold w_X_digest_b26 w_X_mix
      have hx : ixE i < 10 := by unfold ixE; split <;> omega
      have hW : WK (nI (ixE i)) := ⟨nI_pos' (by omega), (nI_leI (b := 29) (by omega) (by omega)).mpr (by omega)⟩
      refine x_week ok hw (fun w1 h1 g1 => ?_)
      rw [sel_t ⟨hW, T2_0⟩, if_pos rfl]
      refine x_week ok h1 (fun w2 h2 g2 => ?_)
      rw [sel_t ⟨hW, T2_1⟩, if_neg (by decide), nI_clamp (by omega), nI_1]
      exact ih (_, _, w2) ⟨rfl, rfl, h2, gw.tr (g1.tr g2)⟩
    refine ⟨fun e => absurd ((nI_leI (a := 4) (by omega) (by omega)).mp e) (by omega), fun _ => ⟨fun e => fin _ ?_, fun e => fin _ ?_⟩⟩
    · have := (nI_leI (a := 3) (by omega) (by omega)).mp e
      unfold ixE; rw [if_pos this]; rfl
    · unfold ixE; rw [if_neg (fun x => e ((nI_leI (a := 3) (by omega) (by omega)).mpr x))]
theorem x_bigs {a : Int64} {X Q : Int64 → Mem → Prop} (ok : SgOK n m f lb lz c k) (h : QX u b n d m f lw lb lz c ss sb k) (q : ∀ w, QX w b n d m f lw lb lz c ss sb k → FX u w → X (dgI b n d m f ss sb k a 8) w) : ∃ g, w_X_digest_l193 X Q g a 0 u := by
  refine exinv (fun g (s : Int64 × Int32 × Mem) => w_X_digest_l193 X Q g s.1 s.2.1 s.2.2) (fun i s => s.1 = dgI b n d m f ss sb k a i ∧ s.2.1 = nI i ∧ QX s.2.2 b n d m f lw lb lz c ss sb k ∧ FX u s.2.2) 8 (a, 0, u) ⟨rfl, rfl, h, Fr.rf⟩ ?_ ?_
  · rintro g ⟨_, _, w⟩ ⟨rfl, rfl, hw, gw⟩
    dsimp only at hw gw ⊢
    rw [w_X_digest_l193]
    exact ⟨fun _ => q w hw gw, fun e => absurd ((nI_leI (a := 8) (by omega) (by omega)).mpr (by omega)) e⟩
  · rintro g i ⟨_, _, w⟩ hi ⟨rfl, rfl, hw, gw⟩ ih
    dsimp only at hw gw ⊢
    rw [w_X_digest_l193]
    refine ⟨fun e => absurd ((nI_leI (a := 8) (by omega) (by omega)).mp e) (by omega), fun _ => x_big ok hw (TH_of hi) (fun v hv gv => ?_)⟩
    exact ih (_, _, v) ⟨rfl, nI_1 i, hv, gw.tr gv⟩
theorem x_digest {Q : Int64 → Mem → Prop} (ok : SgOK n m f lb lz c k) (h : QX u b n d m f lw lb lz c ss sb k) (hla : u.1 1 = la) (q : ∀ w, QX w b n d m f lw lb lz c ss sb k → FX u w → Q (dgV b n d m f lw lb lz c ss sb k la) w) : w_X_digest u Q := by
  refine x_digestTexts ok h hla ?_
  refine x_dgE ok h (fun w hw gw => ?_)
  unfold w_X_mix
  unfold dgV dgM dgR dgH dgG dgF at q
  refine x_judged ok hw (fun w1 h1 g1 => ?_)
  refine x_two ok h1 ?_
  refine x_second ok h1 (fun w2 h2 g2 => ?_)
  rw [sel_t ⟨by decide, by decide⟩]
  refine x_touch ok h2 (fun w3 h3 g3 => ?_)
  rw [sel_t ⟨⟨by decide, by decide⟩, ⟨by decide, by decide⟩, ⟨by decide, by decide⟩, T2_0, by decide⟩, show (2 : Int32).toNatClampNeg - 1 = 1 from rfl]
  refine x_touch ok h3 (fun w4 h4 g4 => ?_)
  rw [sel_t ⟨⟨by decide, by decide⟩, ⟨by decide, by decide⟩, ⟨by decide, by decide⟩, T2_1, by decide⟩, show (2 : Int32).toNatClampNeg - 1 = 1 from rfl]
  refine x_steady ok h4 (fun w5 h5 g5 => ?_)
  rw [sel_t ⟨by decide, by decide⟩]
  refine x_steady ok h5 (fun w6 h6 g6 => ?_)
  rw [sel_t ⟨by decide, by decide⟩]
  refine x_round ok h6 (fun w7 h7 g7 => ?_)
  rw [sel_t ⟨⟨by decide, by decide⟩, T2_0⟩, if_pos rfl]
  refine x_round ok h7 (fun w8 h8 g8 => ?_)
  rw [sel_t ⟨⟨by decide, by decide⟩, T2_1⟩, if_neg (by decide)]
  refine x_moved ok h8 (fun w9 h9 g9 => ?_)
  rw [sel_t ⟨by decide, by decide⟩]
  refine x_lot ok h9 (fun v hv gv => ?_)
  rw [sel_t ⟨⟨by decide, by decide⟩, ⟨by decide, by decide⟩⟩, if_pos rfl, show (9 : Int32).toNatClampNeg = 9 from rfl]
  exact x_bigs ok hv (fun y hy gy => q y hy (gw.tr (g1.tr (g2.tr (g3.tr (g4.tr (g5.tr (g6.tr (g7.tr (g8.tr (g9.tr (gv.tr gy))))))))))))
/-! the reference's -/
theorem mo_second {x : Int32} {Q : Int32 → Mem → Prop} (ok : SgOK n m f lb lz c k) (h : QM u b n d m f lw lb lz c ss sb k) (hx : B8 x) (q : ∀ w, QM w b n d m f lw lb lz c ss sb k → RdM w b n d m → FM u w → Q (CMf b n (CMf b n x)) w) : w_M_second x u Q := by
  refine pM_rd ok h fun w hw hr fw => p_isSet (fun c => t01 ?_) (fun c => absurd hx c)
  obtain ⟨k1, k2⟩ := come_at hr.2.2 c
  obtain ⟨k3, k4⟩ := come_at hr.2.2 (B8_CM b n x)
  rw [k2, k4]; exact ⟨k1, k3, q w hw hr fw⟩
theorem m_big {t : Int32} {a : Int64} {Q : Int64 → Mem → Prop} (ok : SgOK n m f lb lz c k) (h : QM u b n d m f lw lb lz c ss sb k) (ht : TH t) (q : ∀ w, QM w b n d m f lw lb lz c ss sb k → FM u w → Q (bigV b n d m f ss sb k t a) w) : w_M_tellsBig a t u Q := by
  unfold w_M_tellsBig
  unfold bigV big4 big3 big2 big1 at q
  refine mo_keepOff ok h ⟨by decide, by decide⟩ ht (Or.inl rfl) (fun w1 h1 r1 g1 => ?_)
  refine mo_keepOff ok h1 ⟨by decide, by decide⟩ ht (Or.inr rfl) (fun w2 h2 r2 g2 => ?_)
  refine pM_barsOf r2.1 r2.2.2 ht ?_
  rintro _ rfl
  refine pM_playOf (N := 2) (by omega) ht r2.2.2 h2.fr ok.2.2.1 (fun w3 g3 => ?_)
  rw [if_pos rfl]
  obtain ⟨h3, g3'⟩ := h2.k13 g3 (by decide)
  have r3 := r2.keep g3 (by decide) (by decide)
  refine pM_playOf (N := 2) (by omega) ht r3.2.2 h3.fr ok.2.2.1 (fun w4 g4 => ?_)
  rw [if_neg (by decide)]
  obtain ⟨h4, g4'⟩ := h3.k13 g4 (by decide)
  refine pM_standsOf ok.2.2.2.2 h4.2.2.2.2 ?_
  rw [if_pos rfl]
  refine pM_standsOf ok.2.2.2.2 h4.2.2.2.2 ?_
  rw [if_neg (by decide)]
  rintro _ rfl
  refine pM_watchOf ok.2.2.2.2 h4.2.2.2.2 ?_
  refine mo_cat ok h4 ⟨by decide, by decide⟩ ht (Or.inl rfl) (fun w5 h5 r5 g5 => ?_)
  refine mo_cat ok h5 ⟨by decide, by decide⟩ ht (Or.inr rfl) (fun w6 h6 r6 g6 => ?_)
  refine mo_letOf ok h6 r6 ⟨by decide, by decide⟩ ht ?_
  rintro _ rfl
  exact q w6 h6 (g1.tr (g2.tr (g3'.tr (g4'.tr (g5.tr g6)))))
theorem m_counts {X Q : Int64 → Mem → Prop} (ok : SgOK n m f lb lz c k) (h : QM u b n d m f lw lb lz c ss sb k) (hla : u.1 0 = la) (q : ∀ w, QM w b n d m f lw lb lz c ss sb k → FM u w → X (dgA b n d m f c k la 8) w) : ∃ g, w_M_digest_l6 X Q g 17 0 u := by
  refine exinv (fun g (s : Int64 × Int32 × Mem) => w_M_digest_l6 X Q g s.1 s.2.1 s.2.2) (fun i s => s.1 = dgA b n d m f c k la i ∧ s.2.1 = nI i ∧ QM s.2.2 b n d m f lw lb lz c ss sb k ∧ FM u s.2.2) 8 (17, 0, u) ⟨rfl, rfl, h, Fr.rf⟩ ?_ ?_
  · rintro g ⟨_, _, w⟩ ⟨rfl, rfl, hw, gw⟩
    dsimp only at hw gw ⊢
    rw [w_M_digest_l6]
    exact ⟨fun _ => q w hw gw, fun e => absurd ((nI_leI (a := 8) (by omega) (by omega)).mpr (by omega)) e⟩
  · rintro g i ⟨_, _, w⟩ hi ⟨rfl, rfl, hw, gw⟩ ih
    dsimp only at hw gw ⊢
    rw [w_M_digest_l6]
    refine ⟨fun e => absurd ((nI_leI (a := 8) (by omega) (by omega)).mp e) (by omega), fun _ => m_count ok hw ((gw.1 0 (by decide)).trans hla) (fun v hv gv => ?_)⟩
    exact ih (_, _, v) ⟨rfl, nI_1 i, hv, gw.tr gv⟩
theorem m_dgC {a : Int64} {X : Int64 → Prop} {Q : Int64 → Mem → Prop} (hl : LawsM u b n) (q : X (dgC b n a (cntL b n))) : ∃ g, w_M_digest_l57 X u Q g a 0 := by
  have hcL := cntL_le b n
  refine exfor (fun g (s : Int64 × Int32) => w_M_digest_l57 X u Q g s.1 s.2) (fun i => (dgC b n a i, nI i)) (cntL b n) (fun g => ?_) (fun g i hi ih => ?_)
  · dsimp only
    rw [w_M_digest_l57, hl.1]
    exact ⟨fun _ => q, fun e => absurd ((nI_leI (by omega) (by omega)).mpr (by omega)) e⟩
  · dsimp only at ih ⊢
    rw [w_M_digest_l57, hl.1, nI_1]
    refine ⟨fun e => absurd ((nI_leI (by omega) (by omega)).mp e) (by omega), fun _ => ⟨4, ?_⟩⟩
    rw [w_M_digest_l68, Int32.add_zero, e3k, nI_clamp (by omega), (hl.2 i hi).1]
    refine ⟨fun e => absurd e (by decide), fun _ => ⟨vp_in_nI (by omega) (by omega), ?_⟩⟩
    rw [w_M_digest_l68, Int32.zero_add, e31k, nI_clamp (by omega), (hl.2 i hi).2.1]
    refine ⟨fun e => absurd e (by decide), fun _ => ⟨vp_in_nI (by omega) (by omega), ?_⟩⟩
    rw [w_M_digest_l68, show (1 : Int32) + 1 = 2 from rfl, e32k, nI_clamp (by omega), (hl.2 i hi).2.2]
    refine ⟨fun e => absurd e (by decide), fun _ => ⟨vp_in_nI (by omega) (by omega), ?_⟩⟩
    rw [w_M_digest_l68]
    exact ⟨fun _ => ih, fun e => absurd (by decide) e⟩
theorem m_dgD {a : Int64} {X : Int64 → Prop} {Q : Int64 → Mem → Prop} (hd : DustM u d m) (q : X (dgD d m a (cntD d m))) : ∃ g, w_M_digest_l107 X u Q g a 0 := by
  have hcD := cntD_le d m
  refine exfor (fun g (s : Int64 × Int32) => w_M_digest_l107 X u Q g s.1 s.2) (fun i => (dgD d m a i, nI i)) (cntD d m) (fun g => ?_) (fun g i hi ih => ?_)
  · dsimp only
    rw [w_M_digest_l107, hd.1]
    exact ⟨fun _ => q, fun e => absurd ((nI_leI (by omega) (by omega)).mpr (by omega)) e⟩
  · dsimp only at ih ⊢
    rw [w_M_digest_l107, hd.1, e21k, e2k, nI_clamp (by omega), nI_clamp (by omega), (hd.2 i hi).1, (hd.2 i hi).2, nI_1]
    refine ⟨fun e => absurd ((nI_leI (by omega) (by omega)).mp e) (by omega), fun _ => ⟨vp_in_nI (by omega) (by omega), vp_in_nI (by omega) (by omega), ?_⟩⟩
    rintro _ rfl
    exact ih
theorem m_dgE {a : Int64} {g0 : Nat → Int32 × Int32} {X : Int64 → Prop} {Q : Int64 → Mem → Prop} (hk : WksM u g0 30) (q : X (dgE g0 a 4)) : ∃ g, w_M_digest_l161 X u Q g a 0 := by
  refine exfor (fun g (s : Int64 × Int32) => w_M_digest_l161 X u Q g s.1 s.2) (fun i => (dgE g0 a i, nI i)) 4 (fun g => ?_) (fun g i hi ih => ?_)
  · dsimp only
    rw [w_M_digest_l161]
    exact ⟨fun _ => q, fun e => absurd ((nI_leI (a := 4) (by omega) (by omega)).mpr (by omega)) e⟩
  · dsimp only at ih ⊢
    rw [w_M_digest_l161]
    have fin : ∀ s0, s0 = nI (ixE i) → w_M_digest_b177 (w_M_digest_l161 X u Q g) X (dgE g0 a i) (nI i) s0 u Q := by
      rintro _ rfl
      unfold w_M_digest_b177
      have hx : ixE i < 10 := by unfold ixE; split <;> omega
      refine ⟨vp_in_nI (by omega) (by omega), vp_in_nI (by omega) (by omega), ?_⟩
      rintro _ rfl
      rw [nI_clamp (by omega), (hk _ (by omega)).1, (hk _ (by omega)).2, nI_1]
      exact ih
    refine ⟨fun e => absurd ((nI_leI (a := 4) (by omega) (by omega)).mp e) (by omega), fun _ => ⟨fun e => fin _ ?_, fun e => fin _ ?_⟩⟩
    · have := (nI_leI (a := 3) (by omega) (by omega)).mp e
      unfold ixE; rw [if_pos this]; rfl
    · unfold ixE; rw [if_neg (fun x => e ((nI_leI (a := 3) (by omega) (by omega)).mpr x))]
theorem m_told2 {a : Int64} {r : Int32} {X : Int64 → Prop} {Q : Int64 → Mem → Prop} (hb : B8 r ∨ r = -1) (q : X (mx (mx a (nbr r 0)) (nbr r 1))) : ∃ g, w_M_digest_l263 X r u Q g a 0 := by
  refine ⟨3, ?_⟩
  rw [w_M_digest_l263]
  refine ⟨fun e => absurd e (by decide), fun _ => p_told hb ?_⟩
  rw [w_M_digest_l263]
  refine ⟨fun e => absurd e (by decide), fun _ => p_told hb ?_⟩
  rw [w_M_digest_l263]
  exact ⟨fun _ => q, fun e => absurd (by decide) e⟩
theorem m_rounds {a : Int64} {X Q : Int64 → Mem → Prop} (h : QM u b n d m f lw lb lz c ss sb k) (hr : RdM u b n d m) (q : ∀ w, QM w b n d m f lw lb lz c ss sb k → RdM w b n d m → FM u w → X (dgR b n d m a) w) : ∃ g, w_M_digest_l318 X Q g a 0 u := by
  have c5 : B8 (5 : Int32) := ⟨by decide, by decide⟩
  have hrep := rep_ex (nx := NXf b n d m) (B8_NX b n d m) c5
  refine ⟨3, ?_⟩
  rw [w_M_digest_l318]
  refine ⟨fun e => absurd e (by decide), fun _ => pM_roundOf hr.2.2 c5 hrep (fun w5 g5 => ?_)⟩
  obtain ⟨h5, g5'⟩ := h.k13 g5 (by decide)
  have r5 := hr.keep g5 (by decide) (by decide)
  rw [if_pos rfl, w_M_digest_l318]
  refine ⟨fun e => absurd e (by decide), fun _ => pM_roundOf r5.2.2 c5 hrep (fun w6 g6 => ?_)⟩
  obtain ⟨h6, g6'⟩ := h5.k13 g6 (by decide)
  have r6 := r5.keep g6 (by decide) (by decide)
  rw [if_neg (by decide), w_M_digest_l318]
  exact ⟨fun _ => q w6 h6 r6 (g5'.tr g6'), fun e => absurd (by decide) e⟩
theorem m_bigs {a : Int64} {X Q : Int64 → Mem → Prop} (ok : SgOK n m f lb lz c k) (h : QM u b n d m f lw lb lz c ss sb k) (q : ∀ w, QM w b n d m f lw lb lz c ss sb k → FM u w → X (dgI b n d m f ss sb k a 8) w) : ∃ g, w_M_digest_l378 X Q g a 0 u := by
  refine exinv (fun g (s : Int64 × Int32 × Mem) => w_M_digest_l378 X Q g s.1 s.2.1 s.2.2) (fun i s => s.1 = dgI b n d m f ss sb k a i ∧ s.2.1 = nI i ∧ QM s.2.2 b n d m f lw lb lz c ss sb k ∧ FM u s.2.2) 8 (a, 0, u) ⟨rfl, rfl, h, Fr.rf⟩ ?_ ?_
  · rintro g ⟨_, _, w⟩ ⟨rfl, rfl, hw, gw⟩
    dsimp only at hw gw ⊢
    rw [w_M_digest_l378]
    exact ⟨fun _ => q w hw gw, fun e => absurd ((nI_leI (a := 8) (by omega) (by omega)).mpr (by omega)) e⟩
  · rintro g i ⟨_, _, w⟩ hi ⟨rfl, rfl, hw, gw⟩ ih
    dsimp only at hw gw ⊢
    rw [w_M_digest_l378]
    refine ⟨fun e => absurd ((nI_leI (a := 8) (by omega) (by omega)).mp e) (by omega), fun _ => m_big ok hw (TH_of hi) (fun v hv gv => ?_)⟩
    exact ih (_, _, v) ⟨rfl, nI_1 i, hv, gw.tr gv⟩
theorem m_digest {Q : Int64 → Mem → Prop} (ok : SgOK n m f lb lz c k) (h : QM u b n d m f lw lb lz c ss sb k) (hla : u.1 0 = la) (q : ∀ w, QM w b n d m f lw lb lz c ss sb k → FM u w → Q (dgV b n d m f lw lb lz c ss sb k la) w) : w_M_digest u Q := by
  unfold dgV dgM dgH dgG dgF dgT at q
  refine m_counts ok h hla (fun w hw gw => ?_)
  refine pM_readsLaws ok.1 hw.1 fun w1 hl1 g1 => ?_
  have g1' : FM w w1 := g1.wide (by decide) (by decide)
  have h1 := hw.keep g1'
  refine pM_readsDust ok.2.1 h1.2.1 fun w2 hd2 g2 => ?_
  have g2' : FM w1 w2 := g2.wide (by decide) (by decide)
  have h2 := h1.keep g2'
  have hl2 := hl1.keep g2 (by decide) (by decide)
  refine m_dgC hl2 ?_
  refine m_dgD hd2 ?_
  refine pM_lv ok h2 fun w3 h3 r3 hk g3 => ?_
  refine m_dgE hk ?_
  refine pM_judgedNow r3.1 hk ?_
  refine pM_twoNow r3.1 ?_
  refine mo_second ok h3 ⟨by decide, by decide⟩ (fun w4 h4 r4 g4 => ?_)
  rintro _ rfl
  refine pM_touchOf (k := 1) (by omega) r4.2.2 h4.fr ok.2.2.1 ?_
  refine m_told2 (bst_in _ 256 (by omega)) ?_
  refine pM_steadyOf r4.2.2 ?_
  refine pM_steadyOf r4.2.2 ?_
  refine m_rounds h4 r4 (fun w6 h6 r6 g6 => ?_)
  refine pM_movedOf r6.2.2 h6.fr ok.2.2.1 ?_
  refine pM_lotOf (k := 9) (by omega) r6.2.2 h6.fr ok.2.2.1 ?_
  rw [if_pos rfl]
  exact m_bigs ok h6 (fun y hy gy => q y hy (gw.tr (g1'.tr (g2'.tr (g3.tr (g4.tr (g6.tr gy)))))))
end
