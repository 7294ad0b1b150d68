/-! the class reads its laws -/
def LawsX (u : Mem) (b : Nat → Int32) (n : Nat) : Prop := u.1 5 = faultL b n ∧ u.1 4 = nI (cntL b n) ∧ ∀ k, k < cntL b n → u.2 2 k = smF b n k ∧ u.2 3 k = plF b n k ∧ u.2 4 k = bgF b n k
theorem nI_ne {n : Nat} (h : n < 2 ^ 31) : ¬ nI n = -1 := fun e => nI_pos h (by rw [e]; decide)
theorem LawsX_end {u v w : Mem} {b : Nat → Int32} {n i : Nat} {st : Int32} (hn : n < 1000) (hi : i ≤ n) (hl : v.1 2 = nI n) (hs : SimL st v (LAr b i)) (hf : v.1 5 = flL b i) (he : i = n ∨ ¬ flL b i = -1) {Q : Mem → Prop}
    (hfr : Fr [4, 5, 6, 7] [2, 3, 4] u v) (k : ∀ w, LawsX w b n → Fr [4, 5, 6, 7] [2, 3, 4] u w → Q w) : w_R_readFrom_0_b57 st v Q := by
  unfold w_R_readFrom_0_b57 w_R_readFrom_0_b85 w_T_size_0
  have key : ¬ flL b i = -1 → Q (sS v 4 0) := fun g => by
    have e1 : flL b n = flL b i := by rw [show n = i + (n - i) by omega]; exact flL_stay g _
    have e2 : faultL b n = flL b i := by unfold faultL; rw [e1, if_neg g]
    have e3 : cntL b n = 0 := by unfold cntL; rw [e2, if_neg g]
    refine k _ ⟨?_, ?_, ?_⟩ (Fr.sS (by decide) hfr)
    · rw [e2, ← hf]; rfl
    · rw [e3]; rfl
    · intro j hj; rw [e3] at hj; exact absurd hj (Nat.not_lt_zero j)
  rw [hf]
  refine ⟨fun c => ⟨fun d => absurd d c, fun _ => key c⟩, fun c => ?_⟩
  have hin : i = n := he.resolve_right (fun g => g c)
  subst hin
  obtain ⟨h0, h1, -, -, h4⟩ := hs
  refine ⟨fun d => ⟨fun _ => ?_, fun g => absurd c g⟩, fun d => ?_⟩
  · have e2 : faultL b i = -1 := by unfold faultL; rw [if_pos c, if_pos (Or.inr (by rw [← h0, d]))]
    have e3 : cntL b i = (LAr b i).2.1 := by unfold cntL; rw [if_pos e2]
    exact k _ ⟨by rw [hf, c, e2], by rw [e3]; exact h1, by rw [e3]; exact h4⟩ hfr
  · rw [hl]
    refine ⟨fun g => ⟨fun _ => ?_, fun g => absurd c g⟩, fun g => ?_⟩
    · rw [show (0 : Int32) = nI 0 from rfl, nI_leI (by omega) (by omega)] at g
      have hz : i = 0 := by omega
      have e2 : faultL b i = -1 := by unfold faultL; rw [if_pos c, if_pos (Or.inl hz)]
      have e3 : cntL b i = (LAr b i).2.1 := by unfold cntL; rw [if_pos e2]
      exact k _ ⟨by rw [hf, c, e2], by rw [e3]; exact h1, by rw [e3]; exact h4⟩ hfr
    · rw [show (0 : Int32) = nI 0 from rfl, nI_leI (by omega) (by omega)] at g
      have hne : ¬ nI i = -1 := nI_ne (by omega)
      have e2 : faultL b i = nI i := by unfold faultL; rw [if_pos c, if_neg (fun q => q.elim (fun q => by omega) (fun q => d (h0.trans q)))]
      have e3 : cntL b i = 0 := by unfold cntL; rw [e2, if_neg hne]
      refine ⟨fun q => absurd q hne, fun _ => ?_⟩
      refine k _ ⟨?_, ?_, ?_⟩ (Fr.sS (by decide) (Fr.sS (by decide) hfr))
      · rw [e2]; rfl
      · rw [e3]; rfl
      · intro j hj; rw [e3] at hj; exact absurd hj (Nat.not_lt_zero j)
theorem p_readFrom_0 {u : Mem} {n : Nat} {Q : Mem → Prop} (hn : n ≤ 79) (hl : u.1 2 = nI n) (k : ∀ w, LawsX w (u.2 0) n → Fr [4, 5, 6, 7] [2, 3, 4] u w → Q w) : w_R_readFrom_0 u Q := by
  unfold w_R_readFrom_0
  refine loop_m (fun f (s : Int32 × Int32 × Mem) => w_R_readFrom_0_l14 (fun z7 u8 => (w_R_readFrom_0_b57 z7 u8 Q)) Q f s.1 s.2.1 s.2.2) (fun s => ∃ i, i ≤ n ∧ s.2.1 = nI i ∧ SimL s.1 s.2.2 (LAr (u.2 0) i) ∧ s.2.2.1 5 = flL (u.2 0) i ∧ Fr [4, 5, 6, 7] [2, 3, 4] u s.2.2) (fun s => n - s.2.1.toNatClampNeg) ?_ (0, 0, sS (sS u 4 0) 5 (-1)) ⟨0, Nat.zero_le _, rfl, ⟨rfl, rfl, fun d => absurd d (by simp [LAr]), fun d => absurd d (by simp [LAr]), fun k hk => absurd hk (Nat.not_lt_zero k)⟩, rfl, Fr.sS (by decide) (Fr.sS (by decide) Fr.rf)⟩
  rintro f ⟨st, x3, v⟩ ⟨i, hi, e3, hs, hf, hfr⟩ ih
  dsimp only at e3 hs hf hfr ih ⊢
  subst e3
  rw [w_R_readFrom_0_l14]
  unfold w_T_size_0
  have hl2 : v.1 2 = nI n := (hfr.1 2 (by decide)).trans hl
  have hb : v.2 0 = u.2 0 := hfr.2 0 (by decide)
  rw [hl2]
  refine ⟨fun c => ?_, fun c => ⟨fun d => ?_, fun d => ?_⟩⟩
  · rw [nI_leI (by omega) (by omega)] at c
    exact LawsX_end (w := v) (by omega) hi hl2 hs hf (Or.inl (by omega)) hfr k
  · exact LawsX_end (w := v) (by omega) hi hl2 hs hf (Or.inr (by rw [← hf]; exact d)) hfr k
  · rw [nI_leI (by omega) (by omega)] at c
    unfold w_T_byteAt_0
    rw [hl2]
    refine ⟨fun e => absurd e (nI_pos (by omega)), fun _ => ⟨fun e => absurd ((nI_leI (by omega) (by omega)).mp e) c, fun _ => ⟨fun e => absurd ((nI_leI (a := 79) (by omega) (by omega)).mp e) (by omega), fun _ => ⟨vp_in_nI (by omega) (by omega), ?_⟩⟩⟩⟩
    rw [nI_clamp (by omega), hb]
    have hm : n - (nI i + 1).toNatClampNeg < n - (nI i).toNatClampNeg := by
      rw [nI_1, nI_clamp (by omega), nI_clamp (by omega)]; omega
    refine p_L_stateBehind (okL_r _ i) hs (fun r w hs2 hf2 => ⟨fun e => ?_, fun e => ?_⟩)
    · refine ih (r, nI i + 1, w) ⟨i + 1, by omega, nI_1 i, hs2, ?_, Fr.tr hfr (hf2.wide (by decide) (by decide))⟩ hm
      show w.1 5 = flL (u.2 0) (i + 1)
      have h2 : (LAr (u.2 0) (i + 1)).1 = r := hs2.1.symm
      rw [hf2.1 5 (by decide), d]
      show -1 = if flL (u.2 0) i = -1 then (if (LAr (u.2 0) (i + 1)).1 = -1 then nI i else -1) else flL (u.2 0) i
      rw [if_pos (by rw [← hf]; exact d), h2, if_neg e]
    · have h2 : (LAr (u.2 0) (i + 1)).1 = r := hs2.1.symm
      refine ih (r, nI i + 1, sS w 5 (nI i)) ⟨i + 1, by omega, nI_1 i, ?_, ?_, Fr.sS (by decide) (Fr.tr hfr (hf2.wide (by decide) (by decide)))⟩ hm
      · exact hs2
      · show nI i = if flL (u.2 0) i = -1 then (if (LAr (u.2 0) (i + 1)).1 = -1 then nI i else -1) else flL (u.2 0) i
        rw [if_pos (by rw [← hf]; exact d), h2, if_pos e]
/-! dust as a text -/
/-- state, how many, the open one's big thing, the big things, the small ones -/
abbrev DA : Type := Int32 × Nat × Int32 × (Nat → Int32) × (Nat → Int32)
def stD (a : DA) (b : Int32) : DA :=
  if a.1 = 0 then (if a.2.1 < 12 ∧ bgL b then (2, a.2.1, b - 65, a.2.2.2) else (-1, a.2))
  else if a.1 = 1 then (if b = 59 then (0, a.2) else (-1, a.2))
  else if a.1 = 2 then (if smL b ∧ a.2.1 < 12 then (1, a.2.1 + 1, a.2.2.1, upd a.2.2.2.1 a.2.1 a.2.2.1, upd a.2.2.2.2 a.2.1 (b - 97)) else (-1, a.2))
  else (-1, a.2)
def DAr (b : Nat → Int32) : Nat → DA
  | 0 => (0, 0, 0, fun _ => 0, fun _ => 0)
  | i + 1 => stD (DAr b i) (b i)
def flD (b : Nat → Int32) : Nat → Int32
  | 0 => -1
  | i + 1 => if flD b i = -1 then (if (DAr b (i + 1)).1 = -1 then nI i else -1) else flD b i
def faultD (b : Nat → Int32) (n : Nat) : Int32 := if flD b n = -1 then (if n = 0 ∨ (DAr b n).1 = 1 then -1 else nI n) else flD b n
def cntD (b : Nat → Int32) (n : Nat) : Nat := if faultD b n = -1 then (DAr b n).2.1 else 0
abbrev dbF (b : Nat → Int32) (n : Nat) : Nat → Int32 := (DAr b n).2.2.2.1
abbrev dsF (b : Nat → Int32) (n : Nat) : Nat → Int32 := (DAr b n).2.2.2.2
def okD (a : DA) : Prop := a.2.1 ≤ 12 ∧ (a.1 = 2 → TH a.2.2.1) ∧ ∀ k, k < a.2.1 → TH (a.2.2.2.1 k) ∧ TH (a.2.2.2.2 k)
theorem smL_TH {b : Int32} (h : smL b) : TH (b - 97) := by
  unfold TH
  obtain ⟨h1, h2⟩ := h
  rw [Int32.le_iff_toInt_le] at h1 h2
  have e : (97 : Int32).toInt = 97 := rfl
  have e2 : (104 : Int32).toInt = 104 := rfl
  have := fb_subI (x := b) (y := 97) (by omega) (by omega)
  rw [Int32.le_iff_toInt_le, Int32.le_iff_toInt_le, this]
  have e3 : (0 : Int32).toInt = 0 := rfl
  have e4 : (7 : Int32).toInt = 7 := rfl
  omega
theorem okD_st {a : DA} {b : Int32} (h : okD a) : okD (stD a b) := by
  unfold stD
  split
  · split
    · rename_i hc; exact ⟨h.1, fun _ => bgL_TH hc.2, h.2.2⟩
    · exact ⟨h.1, fun c => absurd c (by first | decide | simp), h.2.2⟩
  · split
    · split <;> exact ⟨h.1, fun c => absurd c (by first | decide | simp), h.2.2⟩
    · split
      · rename_i h4
        split
        · rename_i hc
          refine ⟨by show a.2.1 + 1 ≤ 12; omega, fun c => absurd c (by first | decide | simp), fun k hk => ?_⟩
          have hk : k < a.2.1 + 1 := hk
          show TH (upd a.2.2.2.1 a.2.1 a.2.2.1 k) ∧ TH (upd a.2.2.2.2 a.2.1 (b - 97) k)
          rw [upd_ap, upd_ap]
          split
          · exact ⟨h.2.1 h4, smL_TH hc.1⟩
          · exact h.2.2 k (by omega)
        · exact ⟨h.1, fun c => absurd c (by first | decide | simp), h.2.2⟩
      · exact ⟨h.1, fun c => absurd c (by first | decide | simp), h.2.2⟩
theorem okD_r (b : Nat → Int32) : ∀ i, okD (DAr b i)
  | 0 => ⟨Nat.zero_le _, fun c => absurd c (by simp [DAr]), fun k hk => absurd hk (Nat.not_lt_zero k)⟩
  | i + 1 => okD_st (okD_r b i)
theorem flD_stay {b : Nat → Int32} {k : Nat} (h : ¬ flD b k = -1) : ∀ m, flD b (k + m) = flD b k
  | 0 => rfl
  | m + 1 => by
    show (if flD b (k + m) = -1 then _ else flD b (k + m)) = _
    rw [flD_stay h m, if_neg h]
def SimD (st : Int32) (u : Mem) (a : DA) : Prop := st = a.1 ∧ u.1 8 = nI a.2.1 ∧ (a.1 = 2 → u.1 10 = a.2.2.1) ∧ ∀ k, k < a.2.1 → u.2 5 k = a.2.2.2.1 k ∧ u.2 6 k = a.2.2.2.2 k
theorem p_D_stateBehind {st b : Int32} {u : Mem} {a : DA} {Q : Int32 → Mem → Prop} (ok : okD a) (h : SimD st u a) (k : ∀ r w, SimD r w (stD a b) → Fr [8, 10] [5, 6] u w → Q r w) : w_D_stateBehind st b u Q := by
  obtain ⟨h0, h1, h2, h4⟩ := h
  subst h0
  unfold stD at k
  unfold w_D_stateBehind
  have e12 : (12 : Int32) = nI 12 := rfl
  have ok1 := ok.1
  refine ⟨fun c => ?_, fun c => ?_, fun c => ?_, fun c => ?_⟩
  · rw [if_pos c] at k
    unfold w_D_beginDust w_R_size_1
    rw [h1]
    refine ⟨fun d => ?_, fun d => p_isBig (fun e => ⟨fun _ => ?_, fun f => absurd f (by decide)⟩) (fun e => ⟨fun f => absurd rfl f, fun _ => ?_⟩)⟩
    · rw [e12, nI_leI (by omega) (by omega)] at d
      rw [if_neg (by omega)] at k
      exact k _ _ ⟨rfl, h1, fun d => absurd d (by first | decide | simp), h4⟩ Fr.rf
    · rw [e12, nI_leI (by omega) (by omega)] at d
      rw [if_pos ⟨by omega, e⟩] at k
      exact k _ _ ⟨rfl, h1, fun _ => rfl, h4⟩ (Fr.sS (by decide) Fr.rf)
    · rw [if_neg (fun g => e g.2)] at k
      exact k _ _ ⟨rfl, h1, fun d => absurd d (by first | decide | simp), h4⟩ Fr.rf
  · rw [if_neg (by rw [c]; decide), if_pos c] at k
    refine ⟨fun d => ?_, fun d => ?_⟩
    · rw [if_neg d] at k
      exact k _ _ ⟨rfl, h1, fun d => absurd d (by first | decide | simp), h4⟩ Fr.rf
    · rw [if_pos d] at k
      exact k _ _ ⟨rfl, h1, fun d => absurd d (by first | decide | simp), h4⟩ Fr.rf
  · rw [if_neg (by rw [c]; decide), if_neg (by rw [c]; decide), if_pos c] at k
    have h6 := h2 c
    unfold w_D_endDust w_R_size_1 w_R_addOne_1
    rw [h1]
    refine p_isSmall (fun e => ⟨fun f => absurd f (by decide), fun _ => ⟨fun f => absurd f (nI_pos (by omega)), fun _ => ⟨fun f => ?_, fun f => ?_⟩⟩⟩) (fun e => ⟨fun _ => ?_, fun f => absurd rfl f⟩)
    · rw [e12, nI_ltI (by omega) (by omega)] at f
      have hin : vp_in (nI a.2.1) 12 := vp_in_nI f (by omega)
      refine ⟨hin, hin, ?_⟩
      rw [if_pos ⟨e, f⟩] at k
      refine k _ _ ⟨rfl, ?_, fun d => absurd d (by first | decide | simp), fun k hk => ?_⟩ (Fr.sS (by decide) (Fr.sA (by decide) (Fr.sA (by decide) Fr.rf)))
      · show u.1 8 + 1 = nI (a.2.1 + 1)
        rw [h1, nI_1]
      · have hk : k < a.2.1 + 1 := hk
        have hc : (nI a.2.1).toNatClampNeg = a.2.1 := nI_clamp (by omega)
        rw [hc]
        show upd (u.2 5) a.2.1 (u.1 10) k = upd _ _ _ k ∧ upd (u.2 6) a.2.1 (b - 97) k = upd _ _ _ k
        rw [h6]
        simp only [upd_ap]
        split
        · exact ⟨rfl, rfl⟩
        · exact h4 k (by omega)
    · rw [e12, nI_ltI (by omega) (by omega)] at f
      rw [if_neg (fun g => f g.2)] at k
      exact k _ _ ⟨rfl, h1, fun d => absurd d (by first | decide | simp), h4⟩ Fr.rf
    · rw [if_neg (fun g => e g.1)] at k
      exact k _ _ ⟨rfl, h1, fun d => absurd d (by first | decide | simp), h4⟩ Fr.rf
  · rw [if_neg (by intro g; rw [g] at c; exact absurd c (by decide)), if_neg (by intro g; rw [g] at c; exact absurd c (by decide)), if_neg (by intro g; rw [g] at c; exact absurd c (by decide))] at k
    exact k _ _ ⟨rfl, h1, fun d => absurd d (by first | decide | simp), h4⟩ Fr.rf
def DustX (u : Mem) (b : Nat → Int32) (n : Nat) : Prop := u.1 9 = faultD b n ∧ u.1 8 = nI (cntD b n) ∧ ∀ k, k < cntD b n → u.2 5 k = dbF b n k ∧ u.2 6 k = dsF b n k
theorem DustX_end {u v w : Mem} {b : Nat → Int32} {n i : Nat} {st : Int32} (hn : n < 1000) (hi : i ≤ n) (hl : v.1 3 = nI n) (hs : SimD st v (DAr b i)) (hf : v.1 9 = flD b i) (he : i = n ∨ ¬ flD b i = -1) {Q : Mem → Prop}
    (hfr : Fr [8, 9, 10] [5, 6] u v) (k : ∀ w, DustX w b n → Fr [8, 9, 10] [5, 6] u w → Q w) : w_R_readFrom_1_b57 st v Q := by
  unfold w_R_readFrom_1_b57 w_R_readFrom_1_b85 w_T_size_1
  have key : ¬ flD b i = -1 → Q (sS v 8 0) := fun g => by
    have e1 : flD b n = flD b i := by rw [show n = i + (n - i) by omega]; exact flD_stay g _
    have e2 : faultD b n = flD b i := by unfold faultD; rw [e1, if_neg g]
    have e3 : cntD b n = 0 := by unfold cntD; rw [e2, if_neg g]
    refine k _ ⟨?_, ?_, ?_⟩ (Fr.sS (by decide) hfr)
    · rw [e2, ← hf]; rfl
    · rw [e3]; rfl
    · intro j hj; rw [e3] at hj; exact absurd hj (Nat.not_lt_zero j)
  rw [hf]
  refine ⟨fun c => ⟨fun d => absurd d c, fun _ => key c⟩, fun c => ?_⟩
  have hin : i = n := he.resolve_right (fun g => g c)
  subst hin
  obtain ⟨h0, h1, -, h4⟩ := hs
  refine ⟨fun d => ⟨fun _ => ?_, fun g => absurd c g⟩, fun d => ?_⟩
  · have e2 : faultD b i = -1 := by unfold faultD; rw [if_pos c, if_pos (Or.inr (by rw [← h0, d]))]
    have e3 : cntD b i = (DAr b i).2.1 := by unfold cntD; rw [if_pos e2]
    exact k _ ⟨by rw [hf, c, e2], by rw [e3]; exact h1, by rw [e3]; exact h4⟩ hfr
  · rw [hl]
    refine ⟨fun g => ⟨fun _ => ?_, fun g => absurd c g⟩, fun g => ?_⟩
    · rw [show (0 : Int32) = nI 0 from rfl, nI_leI (by omega) (by omega)] at g
      have hz : i = 0 := by omega
      have e2 : faultD b i = -1 := by unfold faultD; rw [if_pos c, if_pos (Or.inl hz)]
      have e3 : cntD b i = (DAr b i).2.1 := by unfold cntD; rw [if_pos e2]
      exact k _ ⟨by rw [hf, c, e2], by rw [e3]; exact h1, by rw [e3]; exact h4⟩ hfr
    · rw [show (0 : Int32) = nI 0 from rfl, nI_leI (by omega) (by omega)] at g
      have hne : ¬ nI i = -1 := nI_ne (by omega)
      have e2 : faultD b i = nI i := by unfold faultD; rw [if_pos c, if_neg (fun q => q.elim (fun q => by omega) (fun q => d (h0.trans q)))]
      have e3 : cntD b i = 0 := by unfold cntD; rw [e2, if_neg hne]
      refine ⟨fun q => absurd q hne, fun _ => ?_⟩
      refine k _ ⟨?_, ?_, ?_⟩ (Fr.sS (by decide) (Fr.sS (by decide) hfr))
      · rw [e2]; rfl
      · rw [e3]; rfl
      · intro j hj; rw [e3] at hj; exact absurd hj (Nat.not_lt_zero j)
theorem p_readFrom_1 {u : Mem} {n : Nat} {Q : Mem → Prop} (hn : n ≤ 35) (hl : u.1 3 = nI n) (k : ∀ w, DustX w (u.2 1) n → Fr [8, 9, 10] [5, 6] u w → Q w) : w_R_readFrom_1 u Q := by
  unfold w_R_readFrom_1
  refine loop_m (fun f (s : Int32 × Int32 × Mem) => w_R_readFrom_1_l14 (fun z7 u8 => (w_R_readFrom_1_b57 z7 u8 Q)) Q f s.1 s.2.1 s.2.2) (fun s => ∃ i, i ≤ n ∧ s.2.1 = nI i ∧ SimD s.1 s.2.2 (DAr (u.2 1) i) ∧ s.2.2.1 9 = flD (u.2 1) i ∧ Fr [8, 9, 10] [5, 6] u s.2.2) (fun s => n - s.2.1.toNatClampNeg) ?_ (0, 0, sS (sS u 8 0) 9 (-1)) ⟨0, Nat.zero_le _, rfl, ⟨rfl, rfl, fun d => absurd d (by simp [DAr]), fun k hk => absurd hk (Nat.not_lt_zero k)⟩, rfl, Fr.sS (by decide) (Fr.sS (by decide) Fr.rf)⟩
  rintro f ⟨st, x3, v⟩ ⟨i, hi, e3, hs, hf, hfr⟩ ih
  dsimp only at e3 hs hf hfr ih ⊢
  subst e3
  rw [w_R_readFrom_1_l14]
  unfold w_T_size_1
  have hl2 : v.1 3 = nI n := (hfr.1 3 (by decide)).trans hl
  have hb : v.2 1 = u.2 1 := hfr.2 1 (by decide)
  rw [hl2]
  refine ⟨fun c => ?_, fun c => ⟨fun d => ?_, fun d => ?_⟩⟩
  · rw [nI_leI (by omega) (by omega)] at c
    exact DustX_end (w := v) (by omega) hi hl2 hs hf (Or.inl (by omega)) hfr k
  · exact DustX_end (w := v) (by omega) hi hl2 hs hf (Or.inr (by rw [← hf]; exact d)) hfr k
  · rw [nI_leI (by omega) (by omega)] at c
    unfold w_T_byteAt_1
    rw [hl2]
    refine ⟨fun e => absurd e (nI_pos (by omega)), fun _ => ⟨fun e => absurd ((nI_leI (by omega) (by omega)).mp e) c, fun _ => ⟨fun e => absurd ((nI_leI (a := 35) (by omega) (by omega)).mp e) (by omega), fun _ => ⟨vp_in_nI (by omega) (by omega), ?_⟩⟩⟩⟩
    rw [nI_clamp (by omega), hb]
    have hm : n - (nI i + 1).toNatClampNeg < n - (nI i).toNatClampNeg := by
      rw [nI_1, nI_clamp (by omega), nI_clamp (by omega)]; omega
    refine p_D_stateBehind (okD_r _ i) hs (fun r w hs2 hf2 => ⟨fun e => ?_, fun e => ?_⟩)
    · refine ih (r, nI i + 1, w) ⟨i + 1, by omega, nI_1 i, hs2, ?_, Fr.tr hfr (hf2.wide (by decide) (by decide))⟩ hm
      show w.1 9 = flD (u.2 1) (i + 1)
      have h2 : (DAr (u.2 1) (i + 1)).1 = r := hs2.1.symm
      rw [hf2.1 9 (by decide), d]
      show -1 = if flD (u.2 1) i = -1 then (if (DAr (u.2 1) (i + 1)).1 = -1 then nI i else -1) else flD (u.2 1) i
      rw [if_pos (by rw [← hf]; exact d), h2, if_neg e]
    · have h2 : (DAr (u.2 1) (i + 1)).1 = r := hs2.1.symm
      refine ih (r, nI i + 1, sS w 9 (nI i)) ⟨i + 1, by omega, nI_1 i, ?_, ?_, Fr.sS (by decide) (Fr.tr hfr (hf2.wide (by decide) (by decide)))⟩ hm
      · exact hs2
      · show nI i = if flD (u.2 1) i = -1 then (if (DAr (u.2 1) (i + 1)).1 = -1 then nI i else -1) else flD (u.2 1) i
        rw [if_pos (by rw [← hf]; exact d), h2, if_pos e]
