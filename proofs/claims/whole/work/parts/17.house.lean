/-! what comes, what lies: the tables -/
def heldN (sm pl bg : Nat → Int32) (s sg : Int32) : Nat → Int32
  | 0 => 0
  | k + 1 => if pl k = sg ∧ (sm k &&& (s ^^^ (-1))) = 0 then heldN sm pl bg s sg k ||| bit1 (bg k) else heldN sm pl bg s sg k
def laidN (db ds : Nat → Int32) (bs : Int32) : Nat → Int32
  | 0 => 0
  | k + 1 => if ((bs >>> (db k &&& 31)) &&& 1) = 1 then laidN db ds bs k ||| bit1 (ds k) else laidN db ds bs k
def HEf (b : Nat → Int32) (n : Nat) (s sg : Int32) : Int32 := heldN (smF b n) (plF b n) (bgF b n) s sg (cntL b n)
def LDf (b : Nat → Int32) (n : Nat) (bs : Int32) : Int32 := laidN (dbF b n) (dsF b n) bs (cntD b n)
def CMf (b : Nat → Int32) (n : Nat) (s : Int32) : Int32 := HEf b n s 1 &&& (HEf b n s 0 ^^^ (-1))
def NXf (b : Nat → Int32) (n : Nat) (d : Nat → Int32) (m : Nat) (s : Int32) : Int32 := LDf d m (CMf b n s)
theorem cntL_le (b : Nat → Int32) (n : Nat) : cntL b n ≤ 16 := by
  unfold cntL; split
  · exact (okL_r b n).1
  · omega
theorem cntD_le (b : Nat → Int32) (n : Nat) : cntD b n ≤ 12 := by
  unfold cntD; split
  · exact (okD_r b n).1
  · omega
theorem law_ok {b : Nat → Int32} {n k : Nat} (h : k < cntL b n) : bz (plF b n k) ∧ TH (bgF b n k) := by
  unfold cntL at h; split at h
  · exact (okL_r b n).2.2 k h
  · omega
theorem dust_ok {b : Nat → Int32} {n k : Nat} (h : k < cntD b n) : TH (dbF b n k) ∧ TH (dsF b n k) := by
  unfold cntD at h; split at h
  · exact (okD_r b n).2.2 k h
  · omega
theorem B8_0 : B8 0 := by unfold B8; decide
theorem B8_or {x y : Int32} (hx : B8 x) (hy : B8 y) : B8 (x ||| y) := by
  obtain ⟨i, hi, rfl⟩ := B8_nI hx
  obtain ⟨j, hj, rfl⟩ := B8_nI hy
  rw [fa_or]
  exact B8_of (Nat.or_lt_two_pow (n := 8) hi hj)
theorem B8_and {x y : Int32} (hx : B8 x) : B8 (x &&& y) := by
  rw [B8_iff] at hx ⊢
  rw [← Int32.toBitVec_inj] at hx ⊢
  simp only [Int32.toBitVec_and] at hx ⊢
  rw [BitVec.and_assoc, BitVec.and_comm y.toBitVec, ← BitVec.and_assoc, hx]
theorem B8_xor {x y : Int32} (hx : B8 x) (hy : B8 y) : B8 (x ^^^ y) := by
  obtain ⟨i, hi, rfl⟩ := B8_nI hx
  obtain ⟨j, hj, rfl⟩ := B8_nI hy
  rw [fb_xorI]
  exact B8_of (Nat.xor_lt_two_pow (n := 8) hi hj)
theorem bit8 : ∀ j, j < 8 → bit1 (nI j) &&& 255 = bit1 (nI j) := by decide +kernel
theorem B8_bit {x : Int32} (h : TH x) : B8 (bit1 x) := by
  obtain ⟨j, hj, rfl⟩ := TH_nI h
  exact B8_iff.mpr (bit8 j hj)
theorem B8_held {sm pl bg : Nat → Int32} {s sg : Int32} : ∀ {n : Nat}, (∀ k, k < n → TH (bg k)) → B8 (heldN sm pl bg s sg n)
  | 0, _ => B8_0
  | n + 1, h => by
    unfold heldN
    have ih := B8_held (sm := sm) (pl := pl) (s := s) (sg := sg) (fun k hk => h k (Nat.lt_succ_of_lt hk))
    split
    · exact B8_or ih (B8_bit (h n (Nat.lt_succ_self n)))
    · exact ih
theorem B8_laid {db ds : Nat → Int32} {bs : Int32} : ∀ {n : Nat}, (∀ k, k < n → TH (ds k)) → B8 (laidN db ds bs n)
  | 0, _ => B8_0
  | n + 1, h => by
    unfold laidN
    have ih := B8_laid (db := db) (bs := bs) (fun k hk => h k (Nat.lt_succ_of_lt hk))
    split
    · exact B8_or ih (B8_bit (h n (Nat.lt_succ_self n)))
    · exact ih
theorem B8_HE (b : Nat → Int32) (n : Nat) (s sg : Int32) : B8 (HEf b n s sg) := B8_held (fun _ hk => (law_ok hk).2)
theorem B8_LD (b : Nat → Int32) (n : Nat) (s : Int32) : B8 (LDf b n s) := B8_laid (fun _ hk => (dust_ok hk).2)
theorem B8_CM (b : Nat → Int32) (n : Nat) (s : Int32) : B8 (CMf b n s) := B8_and (B8_HE b n s 1)
theorem B8_NX (b : Nat → Int32) (n : Nat) (d : Nat → Int32) (m : Nat) (s : Int32) : B8 (NXf b n d m s) := B8_LD d m _
section
variable {u : Mem} {b d : Nat → Int32} {n m : Nat}
/-- an index of a row of the class that is asked by its own test -/
theorem in16 {k : Nat} (h : k < 16) : ¬ nI k < 0 ∧ ¬ 16 ≤ nI k ∧ vp_in (nI k) 16 ∧ (nI k).toNatClampNeg = k := ⟨nI_pos (by omega), fun e => absurd ((nI_leI (a := 16) (by omega) (by omega)).mp e) (by omega), vp_in_nI h (by omega), nI_clamp (by omega)⟩
theorem in12 {k : Nat} (h : k < 12) : ¬ nI k < 0 ∧ ¬ 12 ≤ nI k ∧ vp_in (nI k) 12 ∧ (nI k).toNatClampNeg = k := ⟨nI_pos (by omega), fun e => absurd ((nI_leI (a := 12) (by omega) (by omega)).mp e) (by omega), vp_in_nI h (by omega), nI_clamp (by omega)⟩
theorem p_isPlus {k : Nat} {Q : Int32 → Prop} (hk : k < 16) (hz : bz (u.2 3 k)) (q : Q (u.2 3 k)) : w_L_isPlus (nI k) u Q := by
  obtain ⟨h1, h2, h3, h4⟩ := in16 hk
  refine ⟨fun c => absurd c h1, fun _ => ⟨fun c => absurd c h2, fun _ => ⟨h3, ?_⟩⟩⟩
  rw [h4]
  rcases hz with e | e
  · rw [e] at q ⊢; exact ⟨fun _ => q, fun c => absurd rfl c⟩
  · rw [e] at q ⊢; exact ⟨fun c => absurd c (by decide), fun _ => q⟩
theorem p_L_smallOf {k : Nat} {Q : Int32 → Prop} (hk : k < 16) (q : Q (u.2 2 k)) : w_L_smallOf (nI k) u Q := by
  obtain ⟨h1, h2, h3, h4⟩ := in16 hk
  exact ⟨fun c => absurd c h1, fun _ => ⟨fun c => absurd c h2, fun _ => ⟨h3, by rw [h4]; exact q⟩⟩⟩
theorem p_L_bigOf {k : Nat} {Q : Int32 → Prop} (hk : k < 16) (q : Q (u.2 4 k)) : w_L_bigOf (nI k) u Q := by
  obtain ⟨h1, h2, h3, h4⟩ := in16 hk
  exact ⟨fun c => absurd c h1, fun _ => ⟨fun c => absurd c h2, fun _ => ⟨h3, by rw [h4]; exact q⟩⟩⟩
theorem p_D_bigOf {k : Nat} {Q : Int32 → Prop} (hk : k < 12) (q : Q (u.2 5 k)) : w_D_bigOf (nI k) u Q := by
  obtain ⟨h1, h2, h3, h4⟩ := in12 hk
  exact ⟨fun c => absurd c h1, fun _ => ⟨fun c => absurd c h2, fun _ => ⟨h3, by rw [h4]; exact q⟩⟩⟩
theorem p_D_smallOf {k : Nat} {Q : Int32 → Prop} (hk : k < 12) (q : Q (u.2 6 k)) : w_D_smallOf (nI k) u Q := by
  obtain ⟨h1, h2, h3, h4⟩ := in12 hk
  exact ⟨fun c => absurd c h1, fun _ => ⟨fun c => absurd c h2, fun _ => ⟨h3, by rw [h4]; exact q⟩⟩⟩
theorem p_L_heldBy {s sg : Int32} {Q : Int32 → Prop} (h : LawsX u b n) (q : Q (HEf b n s sg)) : w_L_heldBy s sg u Q := by
  have hc := cntL_le b n
  refine exfor (fun f (t : Int32 × Int32) => w_L_heldBy_l5 (fun z9 => Q z9) s sg u Q f t.1 t.2) (fun k => (heldN (smF b n) (plF b n) (bgF b n) s sg k, nI k)) (cntL b n) (fun f => ?_) (fun f k hk ih => ?_)
  · dsimp only
    rw [w_L_heldBy_l5]
    unfold w_R_size_0
    rw [h.2.1]
    exact ⟨fun _ => q, fun c => absurd ((nI_leI (by omega) (by omega)).mpr (Nat.le_refl _)) c⟩
  · dsimp only at ih ⊢
    rw [w_L_heldBy_l5]
    unfold w_R_size_0
    rw [h.2.1]
    refine ⟨fun c => absurd ((nI_leI (by omega) (by omega)).mp c) (by omega), fun _ => ?_⟩
    obtain ⟨e1, e2, e3⟩ := h.2.2 k hk
    have hz := (law_ok hk).1
    refine p_isPlus (by omega) (by rw [e2]; exact hz) ?_
    rw [nI_1, e2]
    unfold heldN at ih
    refine ⟨fun c => ?_, fun c => p_L_smallOf (by omega) ?_⟩
    · rw [if_neg (fun g => c g.1)] at ih; exact ih
    · rw [e1]
      refine ⟨fun g => ?_, fun g => p_L_bigOf (by omega) ?_⟩
      · rw [if_neg (fun x => g x.2)] at ih; exact ih
      · rw [if_pos ⟨c, g⟩] at ih
        rw [e3]; exact ih
theorem p_D_laidBy {s : Int32} {Q : Int32 → Prop} (h : DustX u d m) (q : Q (LDf d m s)) : w_D_laidBy s u Q := by
  have hc := cntD_le d m
  refine exfor (fun f (t : Int32 × Int32) => w_D_laidBy_l4 (fun z9 => Q z9) s u Q f t.1 t.2) (fun k => (laidN (dbF d m) (dsF d m) s k, nI k)) (cntD d m) (fun f => ?_) (fun f k hk ih => ?_)
  · dsimp only
    rw [w_D_laidBy_l4]
    unfold w_R_size_1
    rw [h.2.1]
    exact ⟨fun _ => q, fun c => absurd ((nI_leI (by omega) (by omega)).mpr (Nat.le_refl _)) c⟩
  · dsimp only at ih ⊢
    rw [w_D_laidBy_l4]
    unfold w_R_size_1
    rw [h.2.1]
    refine ⟨fun c => absurd ((nI_leI (by omega) (by omega)).mp c) (by omega), fun _ => ?_⟩
    obtain ⟨e1, e2⟩ := h.2.2 k hk
    refine p_D_bigOf (by omega) ?_
    rw [nI_1, e1]
    unfold laidN at ih
    refine ⟨fun c => ?_, fun c => p_D_smallOf (by omega) ?_⟩
    · rw [if_neg c] at ih; exact ih
    · rw [if_pos c] at ih
      rw [e2]; exact ih
def HouseX (u : Mem) (b : Nat → Int32) (n : Nat) (d : Nat → Int32) (m : Nat) : Prop := ∀ j, j < 256 → u.2 7 j = HEf b n (nI j) 1 ∧ u.2 8 j = HEf b n (nI j) 0 ∧ u.2 9 j = NXf b n d m (nI j)
theorem LawsX.keep {w : Mem} {S A : List Nat} (h : LawsX u b n) (f : Fr S A u w) (h1 : 4 ∉ S ∧ 5 ∉ S) (h2 : 2 ∉ A ∧ 3 ∉ A ∧ 4 ∉ A) : LawsX w b n := by
  refine ⟨by rw [f.1 5 h1.2]; exact h.1, by rw [f.1 4 h1.1]; exact h.2.1, fun k hk => ?_⟩
  rw [f.2 2 h2.1, f.2 3 h2.2.1, f.2 4 h2.2.2]; exact h.2.2 k hk
theorem DustX.keep {w : Mem} {S A : List Nat} (h : DustX u d m) (f : Fr S A u w) (h1 : 8 ∉ S ∧ 9 ∉ S) (h2 : 5 ∉ A ∧ 6 ∉ A) : DustX w d m := by
  refine ⟨by rw [f.1 9 h1.2]; exact h.1, by rw [f.1 8 h1.1]; exact h.2.1, fun k hk => ?_⟩
  rw [f.2 5 h2.1, f.2 6 h2.2]; exact h.2.2 k hk
theorem HouseX.keep {w : Mem} {S A : List Nat} (h : HouseX u b n d m) (f : Fr S A u w) (h2 : 7 ∉ A ∧ 8 ∉ A ∧ 9 ∉ A) : HouseX w b n d m := fun j hj => by
  rw [f.2 7 h2.1, f.2 8 h2.2.1, f.2 9 h2.2.2]; exact h j hj
theorem p_H_fill {Q : Mem → Prop} (hl : LawsX u b n) (hd : DustX u d m) (k : ∀ w, HouseX w b n d m → Fr [] [7, 8, 9] u w → Q w) : w_H_fill u Q := by
  unfold w_H_fill
  refine exinv (fun f (t : Int32 × Mem) => w_H_fill_l2 (fun u9 => Q u9) Q f t.1 t.2) (fun i t => t.1 = nI i ∧ Fr [] [7, 8, 9] u t.2 ∧ ∀ j, j < i → t.2.2 7 j = HEf b n (nI j) 1 ∧ t.2.2 8 j = HEf b n (nI j) 0 ∧ t.2.2 9 j = NXf b n d m (nI j)) 256 (0, u) ⟨rfl, Fr.rf, fun j hj => absurd hj (Nat.not_lt_zero j)⟩ ?_ ?_
  · rintro f ⟨x, v⟩ ⟨e, hf, hv⟩
    dsimp only at e hf hv ⊢
    subst e
    rw [w_H_fill_l2]
    exact ⟨fun _ => k v hv hf, fun c => absurd ((nI_leI (a := 256) (by omega) (by omega)).mpr (Nat.le_refl _)) c⟩
  · rintro f i ⟨x, v⟩ hi ⟨e, hf, hv⟩ ih
    dsimp only at e hf hv ih ⊢
    subst e
    rw [w_H_fill_l2]
    refine ⟨fun c => absurd ((nI_leI (a := 256) (by omega) (by omega)).mp c) (by omega), fun _ => ?_⟩
    have hin : vp_in (nI i) 256 := vp_in_nI hi (by omega)
    have hc : (nI i).toNatClampNeg = i := nI_clamp (by omega)
    have hl1 := hl.keep hf (by decide) (by decide)
    refine p_L_heldBy hl1 ⟨hin, ?_⟩
    rw [hc]
    have hf1 : Fr [] [7, 8, 9] u (sA v 7 i (HEf b n (nI i) 1)) := Fr.sA (by decide) hf
    refine p_L_heldBy (hl.keep hf1 (by decide) (by decide)) ⟨hin, hin, hin, ?_⟩
    rintro _ rfl _ rfl
    have hf2 : Fr [] [7, 8, 9] u (sA (sA v 7 i (HEf b n (nI i) 1)) 8 i (HEf b n (nI i) 0)) := Fr.sA (by decide) hf1
    refine p_D_laidBy (hd.keep hf2 (by decide) (by decide)) ⟨hin, ?_⟩
    have e7 : (sA v 7 i (HEf b n (nI i) 1)).2 7 i = HEf b n (nI i) 1 := by simp [sA_2, upd_ap]
    have e8 : (sA (sA v 7 i (HEf b n (nI i) 1)) 8 i (HEf b n (nI i) 0)).2 8 i = HEf b n (nI i) 0 := by simp [sA_2, upd_ap]
    rw [e7, e8]
    refine ih (nI i + 1, _) ⟨nI_1 i, Fr.sA (by decide) hf2, fun j hj => ?_⟩
    dsimp only
    simp only [sA_2, upd_ap]
    simp only [show ¬ ((7 : Nat) = 9) by decide, show ¬ ((7 : Nat) = 8) by decide, show ¬ ((8 : Nat) = 9) by decide, show ¬ ((9 : Nat) = 8) by decide, show ¬ ((9 : Nat) = 7) by decide, show ¬ ((8 : Nat) = 7) by decide, if_true, if_false, upd_ap]
    rcases Nat.lt_or_ge j i with q | q
    · rw [if_neg (by omega), if_neg (by omega), if_neg (by omega)]
      exact hv j q
    · have : j = i := by omega
      subst this
      rw [if_pos rfl, if_pos rfl, if_pos rfl]
      exact ⟨rfl, rfl, rfl⟩
theorem p_freshHouse {Q : Mem → Prop} (hl : LawsX u b n) (hd : DustX u d m) (hs : u.1 0 = 0 → HouseX u b n d m) (k : ∀ w, HouseX w b n d m → w.1 0 = 0 → Fr [0] [7, 8, 9] u w → Q w) : w_X_freshHouse u Q := by
  unfold w_X_freshHouse w_X_freshHouse_b27
  refine ⟨fun c => k u (hs c) c Fr.rf, fun c => p_H_fill hl hd (fun w hw hf => ?_)⟩
  exact k _ hw rfl (Fr.sS (by decide) (hf.wide (by decide) (by decide)))
theorem in256 {s : Int32} (h : B8 s) : vp_in (s &&& 255) 256 ∧ ∃ j, j < 256 ∧ s = nI j ∧ (s &&& 255).toNatClampNeg = j ∧ s.toNatClampNeg = j ∧ vp_in s 256 := by
  have e := B8_iff.mp h
  obtain ⟨j, hj, rfl⟩ := B8_nI h
  rw [e]
  exact ⟨vp_in_nI hj (by omega), j, hj, rfl, nI_clamp (by omega), nI_clamp (by omega), vp_in_nI hj (by omega)⟩
theorem p_comesBy {s : Int32} {Q : Int32 → Prop} (h : HouseX u b n d m) (hs : B8 s) (q : Q (CMf b n s)) : w_H_comesBy s u Q := by
  obtain ⟨h1, j, hj, e, e2, -⟩ := in256 hs
  refine ⟨h1, h1, ?_⟩
  rintro _ rfl
  rw [e2, (h j hj).1, (h j hj).2.1, ← e]; exact q
theorem p_disagreeBy {s : Int32} {Q : Int32 → Prop} (h : HouseX u b n d m) (hs : B8 s) (q : Q (HEf b n s 1 &&& HEf b n s 0)) : w_H_disagreeBy s u Q := by
  obtain ⟨h1, j, hj, e, e2, -⟩ := in256 hs
  refine ⟨h1, h1, ?_⟩
  rintro _ rfl
  rw [e2, (h j hj).1, (h j hj).2.1, ← e]; exact q
theorem p_weekBehind {s : Int32} {Q : Int32 → Prop} (h : HouseX u b n d m) (hs : B8 s) (q : Q (NXf b n d m s)) : w_H_weekBehind s u Q := by
  obtain ⟨h1, j, hj, e, e2, -⟩ := in256 hs
  refine ⟨h1, ?_⟩
  rw [e2, (h j hj).2.2, ← e]; exact q
end
