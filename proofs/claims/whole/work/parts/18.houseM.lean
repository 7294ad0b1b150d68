/-! the reference's tables -/
section
variable {u : Mem} {b d : Nat → Int32} {n m : Nat}
theorem e3k (k : Nat) : (3 : Int32) * nI k = nI (3 * k) := by rw [show (3 : Int32) = nI 3 from rfl, pk_mul]
theorem e31k (k : Nat) : (3 : Int32) * nI k + 1 = nI (3 * k + 1) := by rw [e3k, nI_1]
theorem e32k (k : Nat) : (3 : Int32) * nI k + 2 = nI (3 * k + 2) := by rw [e3k, show (2 : Int32) = nI 2 from rfl, nI_add]
theorem e2k (k : Nat) : (2 : Int32) * nI k = nI (2 * k) := by rw [show (2 : Int32) = nI 2 from rfl, pk_mul]
theorem e21k (k : Nat) : (2 : Int32) * nI k + 1 = nI (2 * k + 1) := by rw [e2k, nI_1]
theorem or0 (x : Int32) : x ||| 0 = x := by
  rw [← Int32.toBitVec_inj]; simp
theorem pM_heldBy {s sg : Int32} {Q : Int32 → Prop} (h : LawsM u b n) (q : Q (HEf b n s sg)) : w_M_heldBy s sg u Q := by
  have hc := cntL_le b n
  refine exfor (fun f (t : Int32 × Int32) => w_M_heldBy_l5 (fun z9 => Q z9) s sg u Q f t.1 t.2) (fun k => (heldN (smF b n) (plF b n) (bgF b n) s sg k, nI k)) (cntL b n) (fun f => ?_) (fun f k hk ih => ?_)
  · dsimp only
    rw [w_M_heldBy_l5, h.1]
    exact ⟨fun _ => q, fun c => absurd ((nI_leI (by omega) (by omega)).mpr (Nat.le_refl _)) c⟩
  · dsimp only at ih ⊢
    rw [w_M_heldBy_l5, h.1]
    refine ⟨fun c => absurd ((nI_leI (by omega) (by omega)).mp c) (by omega), fun _ => ?_⟩
    obtain ⟨e1, e2, e3⟩ := h.2 k hk
    unfold w_M_heldBy_b56 w_M_heldBy_b57 w_M_holds
    rw [e31k, e32k, e3k, nI_clamp (by omega), nI_clamp (by omega), nI_clamp (by omega), nI_1, e1, e2, e3, or0]
    refine ⟨vp_in_nI (by omega) (by omega), ?_⟩
    unfold heldN at ih
    refine ⟨fun c => ?_, fun c => ⟨vp_in_nI (by omega) (by omega), fun g => ⟨fun _ => ?_, fun x => absurd rfl x⟩, fun g => ⟨fun x => absurd x (by decide), fun _ => ⟨vp_in_nI (by omega) (by omega), ?_⟩⟩⟩⟩
    · rw [if_neg (fun g => c g.1)] at ih; exact ih
    · rw [if_neg (fun x => g x.2)] at ih; exact ih
    · rw [if_pos ⟨c, g⟩] at ih; exact ih
theorem LawsM.keep {w : Mem} {S A : List Nat} (h : LawsM u b n) (f : Fr S A u w) (h1 : 2 ∉ S) (h2 : 6 ∉ A) : LawsM w b n := ⟨by rw [f.1 2 h1]; exact h.1, fun k hk => by rw [f.2 6 h2]; exact h.2 k hk⟩
theorem DustM.keep {w : Mem} {S A : List Nat} (h : DustM u d m) (f : Fr S A u w) (h1 : 3 ∉ S) (h2 : 7 ∉ A) : DustM w d m := ⟨by rw [f.1 3 h1]; exact h.1, fun k hk => by rw [f.2 7 h2]; exact h.2 k hk⟩
def HouseM (u : Mem) (b : Nat → Int32) (n : Nat) (d : Nat → Int32) (m : Nat) : Prop := ∀ j, j < 256 → u.2 8 j = CMf b n (nI j) ∧ u.2 9 j = LDf d m (nI j)
theorem HouseM.keep {w : Mem} {S A : List Nat} (h : HouseM u b n d m) (f : Fr S A u w) (h2 : 8 ∉ A ∧ 9 ∉ A) : HouseM w b n d m := fun j hj => by
  rw [f.2 8 h2.1, f.2 9 h2.2]; exact h j hj
/-- what of the reference's memory its readings don't touch -/
abbrev FrR (u w : Mem) : Prop := Fr [1, 2, 3] [6, 7, 8, 9] u w
theorem pM_reads {Q : Mem → Prop} (hn : n ≤ 79) (hm : m ≤ 35) (ht : TxM 0 u b n) (htd : TxM 1 u d m) (k : ∀ w, LawsM w b n → DustM w d m → HouseM w b n d m → FrR u w → Q w) : w_M_reads u Q := by
  unfold w_M_reads
  refine pM_readsLaws hn ht (fun u2 hl2 hf2 => ?_)
  refine pM_readsDust hm (htd.keep hf2 (by decide) (by decide)) (fun u4 hd4 hf4 => ?_)
  have hl4 : LawsM u4 b n := hl2.keep hf4 (by decide) (by decide)
  have hf : FrR u u4 := Fr.tr (hf2.wide (by decide) (by decide)) (hf4.wide (by decide) (by decide))
  refine exinv (fun f (t : Int32 × Mem) => w_M_reads_l12 (fun u9 => Q u9) Q f t.1 t.2) (fun i t => t.1 = nI i ∧ Fr [] [8, 9] u4 t.2 ∧ ∀ j, j < i → t.2.2 8 j = CMf b n (nI j) ∧ t.2.2 9 j = LDf d m (nI j)) 256 (0, u4) ⟨rfl, Fr.rf, fun j hj => absurd hj (Nat.not_lt_zero j)⟩ ?_ ?_
  · rintro f ⟨x, v⟩ ⟨e, hfv, hv⟩
    dsimp only at e hfv hv ⊢
    subst e
    rw [w_M_reads_l12]
    exact ⟨fun _ => k v (hl4.keep hfv (by decide) (by decide)) (hd4.keep hfv (by decide) (by decide)) hv (Fr.tr hf (hfv.wide (by decide) (by decide))), fun c => absurd ((nI_leI (a := 256) (by omega) (by omega)).mpr (Nat.le_refl _)) c⟩
  · rintro f i ⟨x, v⟩ hi ⟨e, hfv, hv⟩ ih
    dsimp only at e hfv hv ih ⊢
    subst e
    rw [w_M_reads_l12]
    refine ⟨fun c => absurd ((nI_leI (a := 256) (by omega) (by omega)).mp c) (by omega), fun _ => ?_⟩
    have hin : vp_in (nI i) 256 := vp_in_nI hi (by omega)
    have hc : (nI i).toNatClampNeg = i := nI_clamp (by omega)
    have hlv : LawsM v b n := hl4.keep hfv (by decide) (by decide)
    refine pM_heldBy hlv (pM_heldBy hlv ⟨hin, hin, ?_⟩)
    rw [hc]
    have hcd := cntD_le d m
    obtain ⟨v8, e8⟩ : ∃ v8, v8 = sA v 8 i (HEf b n (nI i) 1 &&& (HEf b n (nI i) 0 ^^^ (-1))) := ⟨_, rfl⟩
    rw [← e8]
    have hf8 : Fr [] [8, 9] u4 v8 := by rw [e8]; exact Fr.sA (by decide) hfv
    refine exfor (fun f2 (t : Int32 × Mem) => w_M_reads_l49 (fun u11 => w_M_reads_l12 (fun u9 => Q u9) Q f (nI i + 1) u11) (nI i) Q f2 t.1 t.2) (fun k => (nI k, sA v8 9 i (laidN (dbF d m) (dsF d m) (nI i) k))) (cntD d m) (fun f2 => ?_) (fun f2 k hk ih2 => ?_)
    · dsimp only
      have hd8 : DustM (sA v8 9 i (laidN (dbF d m) (dsF d m) (nI i) (cntD d m))) d m := hd4.keep (Fr.sA (by decide) hf8) (by decide) (by decide)
      rw [w_M_reads_l49, hd8.1]
      refine ⟨fun _ => ?_, fun c => absurd ((nI_leI (by omega) (by omega)).mpr (Nat.le_refl _)) c⟩
      refine ih (nI i + 1, _) ⟨nI_1 i, Fr.sA (by decide) hf8, fun j hj => ?_⟩
      dsimp only
      rw [e8]
      simp only [sA_2, show ¬ ((8 : Nat) = 9) by decide, show ¬ ((9 : Nat) = 8) by decide, if_true, if_false, upd_ap]
      rcases Nat.lt_or_ge j i with q | q
      · rw [if_neg (by omega), if_neg (by omega)]
        exact hv j q
      · have : j = i := by omega
        subst this
        rw [if_pos rfl, if_pos rfl]
        exact ⟨rfl, rfl⟩
    · dsimp only at ih2 ⊢
      have hfk : Fr [] [8, 9] u4 (sA v8 9 i (laidN (dbF d m) (dsF d m) (nI i) k)) := Fr.sA (by decide) hf8
      have hdk : DustM (sA v8 9 i (laidN (dbF d m) (dsF d m) (nI i) k)) d m := hd4.keep hfk (by decide) (by decide)
      obtain ⟨e1, e2⟩ := hdk.2 k hk
      have e9 : (sA v8 9 i (laidN (dbF d m) (dsF d m) (nI i) k)).2 9 i = laidN (dbF d m) (dsF d m) (nI i) k := by simp [sA_2, upd_ap]
      rw [w_M_reads_l49, hdk.1]
      refine ⟨fun c => absurd ((nI_leI (by omega) (by omega)).mp c) (by omega), fun _ => ⟨hin, ?_⟩⟩
      unfold w_M_reads_b95
      rw [e21k, e2k, hc, nI_clamp (by omega), nI_clamp (by omega), e1, e2, e9, nI_1 k]
      refine ⟨vp_in_nI (by omega) (by omega), ?_⟩
      have tw : ∀ x y : Int32, sA (sA v8 9 i x) 9 i y = sA v8 9 i y := fun x y => by
        unfold sA
        refine Prod.ext rfl (funext fun j => ?_)
        dsimp only
        split
        · rw [if_pos rfl, fa_upd_twice]
        · rfl
      rw [tw, tw, or0]
      unfold laidN at ih2
      refine p_isIn (fun c => ⟨fun x => absurd x (by decide), fun _ => ⟨vp_in_nI (by omega) (by omega), hin, ?_⟩⟩) (fun c => ⟨fun _ => ⟨hin, ?_⟩, fun x => absurd rfl x⟩)
      · rw [if_pos c] at ih2; exact ih2
      · rw [if_neg c] at ih2; exact ih2
end
