/-! weeks -/
def layN (lw lb lz : Nat → Int32) (w s : Int32) : Nat → Int32
  | 0 => s
  | k + 1 => if lw k = w then (if lz k = 0 then layN lw lb lz w s k &&& (lb k ^^^ (-1)) else layN lw lb lz w s k ||| lb k) else layN lw lb lz w s k
def wkN (cm nx : Int32 → Int32) (lw lb lz : Nat → Int32) (c : Nat) (f : Int32) : Nat → Int32 × Int32
  | 0 => (layN lw lb lz 0 f c, 0)
  | w + 1 => (layN lw lb lz (nI (w + 1)) (nx (wkN cm nx lw lb lz c f w).1) c, cm (wkN cm nx lw lb lz c f w).1)
/-- the layings that are told: how many, and what is well of them -/
def LayOK (lb lz : Nat → Int32) (c : Nat) : Prop := c ≤ 12 ∧ ∀ i, i < c → B8 (lb i) ∧ bz (lz i)
def LayX (u : Mem) (lw lb lz : Nat → Int32) (c : Nat) : Prop := u.1 12 = nI c ∧ ∀ i, i < c → u.2 10 i = lw i ∧ u.2 11 i = lb i ∧ u.2 12 i = lz i
def LayM (u : Mem) (lw lb lz : Nat → Int32) (c : Nat) : Prop := u.1 5 = nI c ∧ ∀ i, i < c → u.2 10 (3 * i) = lw i ∧ bit1 (u.2 10 (3 * i + 1)) = lb i ∧ u.2 10 (3 * i + 2) = lz i
theorem B8_lay {lw lb lz : Nat → Int32} {w s : Int32} : ∀ {c : Nat}, (∀ i, i < c → B8 (lb i)) → B8 s → B8 (layN lw lb lz w s c)
  | 0, _, h => h
  | c + 1, hb, h => by
    have ih := B8_lay (lw := lw) (lz := lz) (w := w) (fun i hi => hb i (Nat.lt_succ_of_lt hi)) h
    unfold layN
    split
    · split
      · exact B8_and ih
      · exact B8_or ih (hb c (Nat.lt_succ_self c))
    · exact ih
theorem B8_wk {cm nx : Int32 → Int32} {lw lb lz : Nat → Int32} {c : Nat} {f : Int32} (hl : LayOK lb lz c) (hf : B8 f) (hn : ∀ s, B8 s → B8 (nx s)) : ∀ w, B8 (wkN cm nx lw lb lz c f w).1
  | 0 => B8_lay (fun i hi => (hl.2 i hi).1) hf
  | w + 1 => B8_lay (fun i hi => (hl.2 i hi).1) (hn _ (B8_wk hl hf hn w))
section
variable {u : Mem} {b d : Nat → Int32} {n m : Nat} {lw lb lz : Nat → Int32} {c : Nat} {f0 : Int32}
theorem LayX.keep {w : Mem} {S A : List Nat} (h : LayX u lw lb lz c) (f : Fr S A u w) (h1 : 12 ∉ S) (h2 : 10 ∉ A ∧ 11 ∉ A ∧ 12 ∉ A) : LayX w lw lb lz c := ⟨by rw [f.1 12 h1]; exact h.1, fun k hk => by rw [f.2 10 h2.1, f.2 11 h2.2.1, f.2 12 h2.2.2]; exact h.2 k hk⟩
theorem LayM.keep {w : Mem} {S A : List Nat} (h : LayM u lw lb lz c) (f : Fr S A u w) (h1 : 5 ∉ S) (h2 : 10 ∉ A) : LayM w lw lb lz c := ⟨by rw [f.1 5 h1]; exact h.1, fun k hk => by rw [f.2 10 h2]; exact h.2 k hk⟩
theorem p_withLayings {w s : Int32} {Q : Int32 → Prop} (ok : LayOK lb lz c) (h : LayX u lw lb lz c) (q : Q (layN lw lb lz w s c)) : w_K_withLayings w s u Q := by
  have hc := ok.1
  refine exfor (fun f (t : Int32 × Int32) => w_K_withLayings_l5 (fun z => Q z) w u Q f t.1 t.2) (fun k => (layN lw lb lz w s k, nI k)) c (fun f => ?_) (fun f k hk ih => ?_)
  · dsimp only
    rw [w_K_withLayings_l5, h.1]
    exact ⟨fun _ => q, fun e => absurd ((nI_leI (by omega) (by omega)).mpr (Nat.le_refl _)) e⟩
  · dsimp only at ih ⊢
    rw [w_K_withLayings_l5, h.1]
    unfold w_K_withLayings_b65
    obtain ⟨h1, h2, h3, h4⟩ := in12 (show k < 12 by omega)
    obtain ⟨e1, e2, e3⟩ := h.2 k hk
    rw [h4, e1, e2, e3, nI_1]
    unfold layN at ih
    refine ⟨fun e => absurd ((nI_leI (by omega) (by omega)).mp e) (by omega), fun _ => ⟨fun e => absurd e h2, fun _ => ⟨h3, fun e => ?_, fun e => ⟨h3, fun g => ⟨h3, ?_⟩, fun g => ⟨h3, ?_⟩⟩⟩⟩⟩
    · rw [if_neg e] at ih; exact ih
    · rw [if_pos e, if_pos g] at ih; exact ih
    · rw [if_pos e, if_neg g] at ih; exact ih
/-- the weeks' rows, as far as N -/
def WksX (u : Mem) (g : Nat → Int32 × Int32) (N : Nat) : Prop := ∀ j, j < N → u.2 13 j = (g j).1 ∧ u.2 14 j = (g j).2
theorem p_runTo {x : Int32} {N : Nat} {Q : Mem → Prop} (hN : N ≤ 30) (hx : x = nI N - 1) (hh : HouseX u b n d m) (ok : LayOK lb lz c) (hl : LayX u lw lb lz c) (hf : u.1 11 = f0) (h8 : B8 f0) (k : ∀ w, WksX w (wkN (CMf b n) (NXf b n d m) lw lb lz c f0) N → Fr [] [13, 14] u w → Q w) : w_K_runTo x u Q := by
  unfold w_K_runTo
  have hlt : ∀ j, j < 1000 → (x < nI j ↔ N ≤ j) := fun j hj => by
    rw [Int32.lt_iff_toInt_lt, hx, show (1 : Int32) = nI 1 from rfl, pk_sub_toInt (by omega) (by omega), nI_toInt (by omega)]
    omega
  obtain ⟨g, hg⟩ : ∃ g, g = wkN (CMf b n) (NXf b n d m) lw lb lz c f0 := ⟨_, rfl⟩
  rw [← hg] at k
  have h8g : ∀ w, B8 (g w).1 := fun w => by rw [hg]; exact B8_wk ok h8 (fun s _ => B8_NX b n d m s) w
  refine exinv (fun f (t : Int32 × Int32 × Int32 × Mem) => w_K_runTo_l11 (fun u7 => Q u7) x Q f t.1 t.2.1 t.2.2.1 t.2.2.2) (fun i t => t.2.2.1 = nI i ∧ Fr [] [13, 14] u t.2.2.2 ∧ WksX t.2.2.2 g i ∧ (i = 0 → t.1 = f0 ∧ t.2.1 = 0) ∧ ∀ j, i = j + 1 → t.1 = (g j).1 ∧ t.2.1 = (g j).2) N (u.1 11, 0, 0, u) ⟨rfl, Fr.rf, fun j hj => absurd hj (Nat.not_lt_zero j), fun _ => ⟨hf, rfl⟩, fun j hj => by omega⟩ ?_ ?_
  · rintro f ⟨x3, x4, x5, v⟩ ⟨e, hfv, hv, -⟩
    dsimp only at e hfv hv ⊢
    subst e
    rw [w_K_runTo_l11]
    exact ⟨fun _ => k v hv hfv, fun e => absurd ((hlt N (by omega)).mpr (Nat.le_refl _)) e⟩
  · rintro f i ⟨x3, x4, x5, v⟩ hi ⟨e, hfv, hv, h0, hj⟩ ih
    dsimp only at e hfv hv h0 hj ih ⊢
    subst e
    rw [w_K_runTo_l11]
    have hin : vp_in (nI i) 30 := vp_in_nI (by omega) (by omega)
    have hc : (nI i).toNatClampNeg = i := nI_clamp (by omega)
    have hhv := hh.keep hfv (by decide)
    have hlv := hl.keep hfv (by decide) (by decide)
    have body : ∀ s bg : Int32, (g i).1 = layN lw lb lz (nI i) s c → (g i).2 = bg → w_K_runTo_b42 (w_K_runTo_l11 (fun u7 => Q u7) x Q f) (fun u7 => Q u7) x s bg (nI i) v Q := fun s bg e1 e2 => by
      unfold w_K_runTo_b42
      refine p_withLayings ok hlv ⟨hin, hin, ?_⟩
      rw [hc, ← e1, ← e2]
      refine ih ((g i).1, (g i).2, nI i + 1, _) ⟨nI_1 i, Fr.sA (by decide) (Fr.sA (by decide) hfv), fun j hj => ?_, fun e => by omega, fun j hj => ?_⟩
      · dsimp only
        simp only [sA_2, show ¬ ((13 : Nat) = 14) by decide, show ¬ ((14 : Nat) = 13) by decide, if_true, if_false, upd_ap]
        rcases Nat.lt_or_ge j i with q | q
        · rw [if_neg (by omega), if_neg (by omega)]; exact hv j q
        · have : j = i := by omega
          subst this
          rw [if_pos rfl, if_pos rfl]; exact ⟨rfl, rfl⟩
      · rw [show j = i by omega]; exact ⟨rfl, rfl⟩
    refine ⟨fun e => absurd ((hlt i (by omega)).mp e) (by omega), fun _ => ⟨fun e => absurd ((nI_leI (a := 30) (by omega) (by omega)).mp e) (by omega), fun _ => ⟨fun e => ?_, fun e => ?_⟩⟩⟩
    · rw [show (0 : Int32) = nI 0 from rfl, nI_leI (by omega) (by omega)] at e
      have : i = 0 := by omega
      subst this
      obtain ⟨e1, e2⟩ := h0 rfl
      subst e1; subst e2
      exact body _ _ (by rw [hg]; rfl) (by rw [hg]; rfl)
    · rw [show (0 : Int32) = nI 0 from rfl, nI_leI (by omega) (by omega)] at e
      obtain ⟨j, rfl⟩ : ∃ j, i = j + 1 := ⟨i - 1, by omega⟩
      obtain ⟨e1, e2⟩ := hj j rfl
      subst e1; subst e2
      refine p_comesBy hhv (h8g j) (p_weekBehind hhv (h8g j) (body _ _ ?_ ?_))
      · rw [hg]; rfl
      · rw [hg]; rfl
theorem p_smallIn {j : Nat} {Q : Int32 → Prop} (hj : j < 30) (q : Q (u.2 13 j)) : w_K_smallIn (nI j) u Q := by
  refine ⟨fun e => absurd e (nI_pos (by omega)), fun _ => ⟨fun e => absurd ((nI_leI (a := 30) (by omega) (by omega)).mp e) (by omega), fun _ => ⟨vp_in_nI hj (by omega), ?_⟩⟩⟩
  rw [nI_clamp (by omega)]; exact q
theorem p_bigIn {j : Nat} {Q : Int32 → Prop} (hj : j < 30) (q : Q (u.2 14 j)) : w_K_bigIn (nI j) u Q := by
  refine ⟨fun e => absurd e (nI_pos (by omega)), fun _ => ⟨fun e => absurd ((nI_leI (a := 30) (by omega) (by omega)).mp e) (by omega), fun _ => ⟨vp_in_nI hj (by omega), ?_⟩⟩⟩
  rw [nI_clamp (by omega)]; exact q
/-! the reference's weeks -/
def WksM (u : Mem) (g : Nat → Int32 × Int32) (N : Nat) : Prop := ∀ j, j < N → u.2 11 j = (g j).1 ∧ u.2 12 j = (g j).2
abbrev FrW (u w : Mem) : Prop := Fr [1, 2, 3] [6, 7, 8, 9, 11, 12] u w
theorem sA_tw (v : Mem) (r i : Nat) (x y : Int32) : sA (sA v r i x) r i y = sA v r i y := by
  unfold sA
  refine Prod.ext rfl (funext fun j => ?_)
  dsimp only
  split
  · rw [if_pos rfl, fa_upd_twice]
  · rfl
theorem pM_layrow {v : Mem} {i : Nat} {s : Int32} {X Q : Mem → Prop} (hi : i < 30) (ok : LayOK lb lz c) (hl : LayM v lw lb lz c) (q : X (sA v 11 i (layN lw lb lz (nI i) s c))) : ∃ f, w_M_lives_l69 X (nI i) Q f 0 (sA v 11 i s) := by
  have hc := ok.1
  have hin : vp_in (nI i) 30 := vp_in_nI hi (by omega)
  have hci : (nI i).toNatClampNeg = i := nI_clamp (by omega)
  refine exfor (fun f (t : Int32 × Mem) => w_M_lives_l69 X (nI i) Q f t.1 t.2) (fun k => (nI k, sA v 11 i (layN lw lb lz (nI i) s k))) c (fun f => ?_) (fun f k hk ih => ?_)
  · dsimp only
    have hlk : LayM (sA v 11 i (layN lw lb lz (nI i) s c)) lw lb lz c := hl.keep (Fr.sA (S := []) (A := [11]) (by decide) Fr.rf) (by decide) (by decide)
    rw [w_M_lives_l69, hlk.1]
    exact ⟨fun _ => q, fun e => absurd ((nI_leI (by omega) (by omega)).mpr (Nat.le_refl _)) e⟩
  · dsimp only at ih ⊢
    have hlk : LayM (sA v 11 i (layN lw lb lz (nI i) s k)) lw lb lz c := hl.keep (Fr.sA (S := []) (A := [11]) (by decide) Fr.rf) (by decide) (by decide)
    obtain ⟨e1, e2, e3⟩ := hlk.2 k hk
    have e9 : (sA v 11 i (layN lw lb lz (nI i) s k)).2 11 i = layN lw lb lz (nI i) s k := by simp [sA_2, upd_ap]
    rw [w_M_lives_l69, hlk.1]
    unfold w_M_lives_b142
    rw [e31k, e32k, e3k, hci, nI_clamp (by omega), nI_clamp (by omega), nI_clamp (by omega), e1, e3, e9, nI_1 k]
    have e2' : (1 : Int32) <<< ((sA v 11 i (layN lw lb lz (nI i) s k)).2 10 (3 * k + 1) &&& 31) = lb k := e2
    rw [e2']
    have hz := (ok.2 k hk).2
    unfold layN at ih
    refine ⟨fun e => absurd ((nI_leI (by omega) (by omega)).mp e) (by omega), fun _ => ⟨vp_in_nI (by omega) (by omega), fun e => ?_, fun e => ⟨vp_in_nI (by omega) (by omega), vp_in_nI (by omega) (by omega), fun g => ⟨hin, ?_⟩, fun g => ⟨hin, ?_⟩⟩⟩⟩
    · rw [if_neg e] at ih; exact ih
    · rintro _ rfl
      refine ⟨hin, ?_⟩
      rw [sA_tw]
      rw [if_pos e, if_pos (hz.resolve_right g)] at ih; exact ih
    · rintro _ rfl
      refine ⟨hin, ?_⟩
      rw [sA_tw]
      rw [if_pos e, if_neg (by rw [g]; decide)] at ih; exact ih
theorem pM_lives {Q : Mem → Prop} (hn : n ≤ 79) (hm : m ≤ 35) (ht : TxM 0 u b n) (htd : TxM 1 u d m) (ok : LayOK lb lz c) (hl : LayM u lw lb lz c) (hf : u.1 4 = f0) (h8 : B8 f0)
    (k : ∀ w, LawsM w b n → DustM w d m → HouseM w b n d m → WksM w (wkN (CMf b n) (NXf b n d m) lw lb lz c f0) 30 → FrW u w → Q w) : w_M_lives u Q := by
  unfold w_M_lives
  refine pM_reads hn hm ht htd (fun u2 hl2 hd2 hh2 hf2 => ?_)
  obtain ⟨g, hg⟩ : ∃ g, g = wkN (CMf b n) (NXf b n d m) lw lb lz c f0 := ⟨_, rfl⟩
  rw [← hg] at k
  have h8g : ∀ w, B8 (g w).1 := fun w => by rw [hg]; exact B8_wk ok h8 (fun s _ => B8_NX b n d m s) w
  refine exinv (fun f (t : Int32 × Mem) => w_M_lives_l6 (fun u8 => Q u8) Q f t.1 t.2) (fun i t => t.1 = nI i ∧ Fr [] [11, 12] u2 t.2 ∧ WksM t.2 g i) 30 (0, u2) ⟨rfl, Fr.rf, fun j hj => absurd hj (Nat.not_lt_zero j)⟩ ?_ ?_
  · rintro f ⟨x, v⟩ ⟨e, hfv, hv⟩
    dsimp only at e hfv hv ⊢
    subst e
    rw [w_M_lives_l6]
    exact ⟨fun _ => k v (hl2.keep hfv (by decide) (by decide)) (hd2.keep hfv (by decide) (by decide)) (hh2.keep hfv (by decide)) hv (Fr.tr (hf2.wide (by decide) (by decide)) (hfv.wide (by decide) (by decide))), fun e => absurd ((nI_leI (a := 30) (by omega) (by omega)).mpr (Nat.le_refl _)) e⟩
  · rintro f i ⟨x, v⟩ hi ⟨e, hfv, hv⟩ ih
    dsimp only at e hfv hv ih ⊢
    subst e
    have hin : vp_in (nI i) 30 := vp_in_nI hi (by omega)
    have hci : (nI i).toNatClampNeg = i := nI_clamp (by omega)
    have hhv := hh2.keep hfv (by decide)
    have hlv : LayM v lw lb lz c := (hl.keep hf2 (by decide) (by decide)).keep hfv (by decide) (by decide)
    have hfv4 : v.1 4 = f0 := by rw [hfv.1 4 (by decide), hf2.1 4 (by decide)]; exact hf
    have fin : ∀ s bg : Int32, (g i).1 = layN lw lb lz (nI i) s c → (g i).2 = bg → w_M_lives_b66 (w_M_lives_l6 (fun u8 => Q u8) Q f) (fun u8 => Q u8) (nI i) s (nI i) (sA v 12 i bg) Q := fun s bg e1 e2 => by
      unfold w_M_lives_b66
      refine ⟨hin, ?_⟩
      rw [hci]
      refine pM_layrow hi ok (hlv.keep (Fr.sA (S := []) (A := [12]) (by decide) Fr.rf) (by decide) (by decide)) ?_
      refine ih (nI i + 1, _) ⟨nI_1 i, Fr.sA (by decide) (Fr.sA (by decide) hfv), fun j hj => ?_⟩
      dsimp only
      simp only [sA_2, show ¬ ((11 : Nat) = 12) by decide, show ¬ ((12 : Nat) = 11) by decide, if_true, if_false, upd_ap]
      rcases Nat.lt_or_ge j i with q | q
      · rw [if_neg (by omega), if_neg (by omega)]; exact hv j q
      · have : j = i := by omega
        subst this
        rw [if_pos rfl, if_pos rfl]; exact ⟨e1.symm, e2.symm⟩
    rw [w_M_lives_l6]
    unfold w_M_lives_b38
    refine ⟨fun e => absurd ((nI_leI (a := 30) (by omega) (by omega)).mp e) (by omega), fun _ => ⟨fun e => ?_, fun e => ⟨hin, fun e2 => absurd e e2, fun _ => ?_⟩⟩⟩
    · rw [show (0 : Int32) = nI 0 from rfl, nI_eq (by omega) (by omega)] at e
      obtain ⟨j, rfl⟩ : ∃ j, i = j + 1 := ⟨i - 1, by omega⟩
      rw [nI_pred, nI_clamp (by omega), (hv j (by omega)).1]
      obtain ⟨-, j1, hj1, ej1, -, ek1, kin1⟩ := in256 (h8g j)
      refine ⟨vp_in_nI (by omega) (by omega), kin1, hin, fun _ => ⟨hin, ?_⟩, fun e2 => absurd ((nI_eq (b := 0) (by omega) (by omega)).mp e2) (by omega)⟩
      have ecm : v.2 8 (g j).1.toNatClampNeg = CMf b n (g j).1 := by rw [ek1, (hhv j1 hj1).1, ← ej1]
      rw [hci, ecm]
      have e12 : (sA v 12 (j + 1) (CMf b n (g j).1)).2 12 (j + 1) = CMf b n (g j).1 := by simp [sA_2, upd_ap]
      rw [e12]
      obtain ⟨-, j2, hj2, ej2, -, ek2, kin2⟩ := in256 (B8_CM b n (g j).1)
      refine ⟨kin2, ?_⟩
      rintro _ rfl
      have eld : v.2 9 (CMf b n (g j).1).toNatClampNeg = NXf b n d m (g j).1 := by rw [ek2, (hhv j2 hj2).2, ← ej2]; rfl
      rw [eld]
      exact fin _ _ (by rw [hg]; rfl) (by rw [hg]; rfl)
    · rw [show (0 : Int32) = nI 0 from rfl, nI_eq (by omega) (by omega)] at e
      subst e
      rw [hci, hfv4]
      exact fin _ _ (by rw [hg]; rfl) (by rw [hg]; rfl)
end
