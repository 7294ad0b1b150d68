def LawsM (u : Mem) (b : Nat → Int32) (n : Nat) : Prop := u.1 2 = nI (cntL b n) ∧ ∀ k, k < cntL b n → u.2 6 (3 * k) = smF b n k ∧ u.2 6 (3 * k + 1) = plF b n k ∧ u.2 6 (3 * k + 2) = bgF b n k
section
variable {u : Mem} {b : Nat → Int32} {n : Nat} {Q : Int32 → Mem → Prop}
theorem z2 : (0 : Int32).toNatClampNeg = 0 := rfl
theorem o2 : (1 : Int32).toNatClampNeg = 1 := rfl
theorem pM_readsLaws (hn : n ≤ 79) (ht : TxM 0 u b n) (k : ∀ w, LawsM w b n → Fr [1, 2] [6] u w → Q (faultL b n) w) : w_M_readsLaws u Q := by
  unfold w_M_readsLaws w_M_readsLaws_b24
  refine ⟨vp_in_nI (n := 0) (by omega) (by omega), ?_⟩
  rw [z2, ht.1]
  have main : ∀ x1 : Int32, ∀ v : Mem, Fr [1, 2] [6] u v → ((x1 = 0 ∧ faultL b n = -1 ∧ LawsM v b n) ∨ (x1 = 1 ∧ ¬ n = 0 ∧ ∃ i c, i ≤ n ∧ v.1 1 = nI i ∧ v.1 2 = nI c ∧ (LAr b i).1 = 0 ∧ (LAr b i).2.1 = c ∧ flL b i = -1 ∧ entM v (LAr b i))) → ∃ f, w_M_readsLaws_l25 (fun u5 => Q (-1) u5) Q f x1 v := by
    intro x1 v hfr hinv
    refine loop_m (fun f (s : Int32 × Mem) => w_M_readsLaws_l25 (fun u5 => Q (-1) u5) Q f s.1 s.2) (fun s => Fr [1, 2] [6] u s.2 ∧ ((s.1 = 0 ∧ faultL b n = -1 ∧ LawsM s.2 b n) ∨ (s.1 = 1 ∧ ¬ n = 0 ∧ ∃ i c, i ≤ n ∧ s.2.1 1 = nI i ∧ s.2.1 2 = nI c ∧ (LAr b i).1 = 0 ∧ (LAr b i).2.1 = c ∧ flL b i = -1 ∧ entM s.2 (LAr b i)))) (fun s => if s.1 = 0 then 0 else n - (s.2.1 1).toNatClampNeg + 1) ?_ (x1, v) ⟨hfr, hinv⟩
    rintro f ⟨x1, v⟩ ⟨hfr, hinv⟩ ih
    dsimp only at hfr hinv ih ⊢
    rw [w_M_readsLaws_l25]
    rcases hinv with ⟨rfl, hfa, hl⟩ | ⟨rfl, hn0, i, c, hi, ha, hc, a0, ac, hf, he⟩
    · refine ⟨fun _ => ?_, fun d => absurd rfl d⟩
      have := k v hl hfr
      rw [hfa] at this
      exact this
    · refine ⟨fun d => absurd d (by decide), fun _ => ?_⟩
      have htv : TxM 0 v b n := ht.keep hfr (by decide) (by decide)
      unfold w_M_readsLaws_b55 w_M_readsLaws_b56 w_M_readsLaws_b75 w_M_readsLaws_b85 w_M_readsLaws_b99
      have hbad : ∀ (j : Nat) (w : Mem), faultL b n = nI j → cntL b n = 0 → w.1 1 = nI j → Fr [1, 2] [6] u w → Q (w.1 1) (sS w 2 0) := fun j w f1 f2 f3 f4 => by
        rw [f3, ← f1]
        exact k _ ⟨by rw [f2]; rfl, fun k hk => by rw [f2] at hk; exact absurd hk (Nat.not_lt_zero k)⟩ (Fr.sS (by decide) f4)
      refine pM_readsLaw hn hn0 hi htv ha hc a0 ac hf he (fun j w hj hij s1 s2 hf2 wa wc we wf => ⟨fun d => absurd d (by decide), fun _ => ⟨vp_in_nI (n := 0) (by omega) (by omega), ?_⟩⟩) (fun j w f1 f2 wa wf => ⟨fun _ => ⟨fun _ => hbad j w f1 f2 wa (Fr.tr hfr wf), fun d => absurd rfl d⟩, fun d => absurd rfl d⟩)
      have hfw := Fr.tr hfr wf
      have htw : TxM 0 w b n := ht.keep hfw (by decide) (by decide)
      rw [z2, htw.1, wa]
      refine ⟨fun d => ?_, fun d => ?_⟩
      · rw [nI_leI (by omega) (by omega)] at d
        have hjn : j = n := by omega
        subst hjn
        refine ⟨fun g => absurd g (by decide), fun _ => ⟨fun _ => ⟨fun _ => ?_, fun g => absurd rfl g⟩, fun g => absurd rfl g⟩⟩
        have hfa : faultL b j = -1 := by unfold faultL; rw [if_pos hf2, if_pos (Or.inr s1)]
        have hcn : cntL b j = c + 1 := by unfold cntL; rw [if_pos hfa]; exact s2
        refine ih (0, _) ⟨Fr.sS (by decide) hfw, Or.inl ⟨rfl, hfa, ?_, ?_⟩⟩ (by simp)
        · rw [hcn]; exact wc
        · intro k hk; exact we k (by rw [s2, ← hcn]; exact hk)
      · rw [nI_leI (by omega) (by omega)] at d
        refine ⟨fun g => absurd g (by decide), fun _ => ⟨fun g => absurd g (by decide), fun _ => ?_⟩⟩
        refine p_here (t := 0) (by omega) hn (by omega) hj htw wa ⟨fun g => ⟨fun g => absurd g (by decide), fun _ => ?_⟩, fun g => ?_⟩
        · rw [hv_in (by omega)] at g
          have hL : LAr b (j + 1) = (0, (LAr b j).2) := by
            show stL (LAr b j) (b j) = _
            unfold stL
            rw [if_neg (by rw [s1]; decide), if_pos s1, if_pos g]
          refine ih (1, sS w 1 (nI j + 1)) ⟨Fr.sS (by decide) hfw, Or.inr ⟨rfl, hn0, j + 1, c + 1, by omega, nI_1 j, wc, by rw [hL], by rw [hL]; exact s2, flL_go hf2 (by rw [hL]; simp), by rw [hL]; exact we⟩⟩ ?_
          show (if (1 : Int32) = 0 then 0 else n - (nI j + 1).toNatClampNeg + 1) < if (1 : Int32) = 0 then 0 else n - (v.1 1).toNatClampNeg + 1
          rw [if_neg (by decide), if_neg (by decide), ha, nI_1, nI_clamp (by omega), nI_clamp (by omega)]
          omega
        · rw [hv_in (by omega)] at g
          obtain ⟨f1, f2⟩ := failL (by omega) hj hf2 (Or.inl ⟨by omega, by
            show (stL (LAr b j) (b j)).1 = -1
            unfold stL
            rw [if_neg (by rw [s1]; decide), if_pos s1, if_neg g]⟩)
          have := hbad j w f1 f2 wa hfw
          rw [wa] at this
          exact this
  refine ⟨fun c => ?_, fun c => ?_⟩
  · rw [show (0 : Int32) = nI 0 from rfl, nI_leI (by omega) (by omega)] at c
    have : n = 0 := by omega
    subst this
    exact main 0 _ (Fr.sS (by decide) (Fr.sS (by decide) Fr.rf)) (Or.inl ⟨rfl, rfl, rfl, fun k hk => absurd hk (Nat.not_lt_zero k)⟩)
  · rw [show (0 : Int32) = nI 0 from rfl, nI_leI (by omega) (by omega)] at c
    exact main 1 _ (Fr.sS (by decide) (Fr.sS (by decide) Fr.rf)) (Or.inr ⟨rfl, by omega, 0, 0, by omega, rfl, rfl, rfl, rfl, rfl, fun k hk => absurd hk (Nat.not_lt_zero k)⟩)
end
/-! dust -/
theorem failD {b : Nat → Int32} {n j : Nat} (hn : n < 1000) (hj : j ≤ n) (hf : flD b j = -1) (h : (j < n ∧ (DAr b (j + 1)).1 = -1) ∨ (j = n ∧ ¬ n = 0 ∧ ¬ (DAr b n).1 = 1)) : faultD b n = nI j ∧ cntD b n = 0 := by
  have hne : ¬ nI j = -1 := nI_ne (by omega)
  have e : faultD b n = nI j := by
    rcases h with ⟨h1, h2⟩ | ⟨rfl, h1, h2⟩
    · have e1 : flD b (j + 1) = nI j := by
        show (if flD b j = -1 then (if (DAr b (j + 1)).1 = -1 then nI j else -1) else flD b j) = nI j
        rw [if_pos hf, if_pos h2]
      have e2 : flD b n = nI j := by
        rw [show n = (j + 1) + (n - (j + 1)) by omega, flD_stay (by rw [e1]; exact hne), e1]
      unfold faultD
      rw [e2, if_neg hne]
    · unfold faultD
      rw [if_pos hf, if_neg (fun q => q.elim h1 h2)]
  exact ⟨e, by unfold cntD; rw [e, if_neg hne]⟩
theorem flD_go {b : Nat → Int32} {i : Nat} (hf : flD b i = -1) (h : ¬ (DAr b (i + 1)).1 = -1) : flD b (i + 1) = -1 := by
  show (if flD b i = -1 then (if (DAr b (i + 1)).1 = -1 then nI i else -1) else flD b i) = -1
  rw [if_pos hf, if_neg h]
def entD (u : Mem) (a : DA) : Prop := ∀ k, k < a.2.1 → u.2 7 (2 * k) = a.2.2.2.1 k ∧ u.2 7 (2 * k + 1) = a.2.2.2.2 k
section
variable {u : Mem} {b : Nat → Int32} {n i c : Nat} {Q : Int32 → Mem → Prop}
theorem pM_readsOneDust (hn : n ≤ 35) (hn0 : ¬ n = 0) (hi : i ≤ n) (ht : TxM 1 u b n) (ha : u.1 1 = nI i) (hc : u.1 3 = nI c) (a0 : (DAr b i).1 = 0) (ac : (DAr b i).2.1 = c) (hf : flD b i = -1) (he : entD u (DAr b i))
    (kt : ∀ j w, j ≤ n → i < j → (DAr b j).1 = 1 → (DAr b j).2.1 = c + 1 → flD b j = -1 → w.1 1 = nI j → w.1 3 = nI (c + 1) → entD w (DAr b j) → Fr [1, 3] [7] u w → Q 1 w)
    (kf : ∀ j w, faultD b n = nI j → cntD b n = 0 → w.1 1 = nI j → Fr [1, 3] [7] u w → Q 0 w) : w_M_readsOneDust u Q := by
  unfold w_M_readsOneDust
  have hc12 : c ≤ 12 := by rw [← ac]; exact (okD_r b i).1
  have e12 : (12 : Int32) = nI 12 := rfl
  have fail0 : (i < n → (stD (DAr b i) (b i)).1 = -1) → Q 0 u := fun h => by
    obtain ⟨f1, f2⟩ := failD (by omega) hi hf (by
      rcases Nat.lt_or_ge i n with q | q
      · exact Or.inl ⟨q, h q⟩
      · have : i = n := by omega
        subst this
        exact Or.inr ⟨rfl, hn0, by rw [a0]; decide⟩)
    exact kf i _ f1 f2 ha Fr.rf
  have full : u.1 3 = 12 → Q 0 u := fun g => by
    rw [hc, e12, nI_eq (by omega) (by omega)] at g
    refine fail0 (fun q => ?_)
    unfold stD
    rw [if_pos a0, if_neg (by omega)]
  refine p_big (t := 1) (by omega) (by omega) (by omega) hi ht ha (fun g => ⟨full, fun gc => ⟨fun _ => ?_, fun d => absurd d (TH_ne (bgL_TH g))⟩⟩) (fun g => ⟨full, fun gc => ⟨fun d => absurd rfl d, fun _ => ?_⟩⟩)
  · rw [hc, e12, nI_eq (by omega) (by omega)] at gc
    have hlt := bg_lt g
    rw [hv_in hlt] at g ⊢
    have hL1 : DAr b (i + 1) = (2, c, b i - 65, (DAr b i).2.2.2) := by
      show stD (DAr b i) (b i) = _
      unfold stD
      rw [if_pos a0, if_pos ⟨by omega, g⟩, ac]
    have hf1 : flD b (i + 1) = -1 := flD_go hf (by rw [hL1]; simp)
    have ha1 : (sS u 1 (u.1 1 + 1)).1 1 = nI (i + 1) := by rw [sS_s, ha, nI_1]
    have hfr1 : Fr [1, 3] [7] u (sS u 1 (u.1 1 + 1)) := Fr.sS (by decide) Fr.rf
    refine p_small (t := 1) (by omega) (by omega) (by omega) (by omega : i + 1 ≤ n) ht ha1 (fun g1 => ⟨fun _ => ?_, fun d => absurd d (TH_ne (smL_TH g1))⟩) (fun g1 => ⟨fun d => absurd rfl d, fun _ => ?_⟩)
    · have hlt1 := sm_lt g1
      rw [hv_in hlt1] at g1 ⊢
      have hL2 : DAr b (i + 1 + 1) = (1, c + 1, b i - 65, upd (DAr b i).2.2.2.1 c (b i - 65), upd (DAr b i).2.2.2.2 c (b (i + 1) - 97)) := by
        show stD (DAr b (i + 1)) (b (i + 1)) = _
        rw [hL1]
        unfold stD
        simp only [show ¬ ((2 : Int32) = 0) by decide, show ¬ ((2 : Int32) = 1) by decide, if_false, if_true]
        rw [if_pos ⟨g1, by omega⟩]
      have hf2 : flD b (i + 1 + 1) = -1 := flD_go hf1 (by rw [hL2]; simp)
      have e2 : (2 : Int32) * u.1 3 = nI (2 * c) := by rw [hc, show (2 : Int32) = nI 2 from rfl, pk_mul]
      have e21 : (2 : Int32) * u.1 3 + 1 = nI (2 * c + 1) := by rw [e2, nI_1]
      rw [e21, e2]
      refine ⟨vp_in_nI (by omega) (by omega), vp_in_nI (by omega) (by omega), ?_⟩
      rintro w rfl
      rw [nI_clamp (by omega), nI_clamp (by omega)]
      refine kt (i + 1 + 1) _ (by omega) (by omega) (by rw [hL2]) (by rw [hL2]) hf2 ?_ ?_ ?_ (Fr.sS (by decide) (Fr.sA (by decide) (Fr.sA (by decide) (Fr.sS (by decide) hfr1))))
      · show u.1 1 + 1 + 1 = nI (i + 1 + 1)
        rw [ha, nI_1, nI_1]
      · show u.1 3 + 1 = nI (c + 1)
        rw [hc, nI_1]
      · intro k hk
        rw [hL2] at hk ⊢
        have hk : k < c + 1 := hk
        simp only [sS_2, sA_2, sA_1, if_true, upd_ap]
        rcases Nat.lt_or_ge k c with q | q
        · have h3 := he k (by rw [ac]; exact q)
          rw [if_neg (by omega), if_neg (by omega), if_neg (by omega), if_neg (by omega), if_neg (by omega), if_neg (by omega)]
          exact h3
        · have : k = c := by omega
          subst this
          rw [if_neg (by omega), if_pos rfl, if_pos rfl, if_pos rfl, if_pos rfl]
          exact ⟨rfl, rfl⟩
    · obtain ⟨f1, f2⟩ := failD (by omega) (by omega : i + 1 ≤ n) hf1 (by
        rcases Nat.lt_or_ge (i + 1) n with q | q
        · refine Or.inl ⟨q, ?_⟩
          show (stD (DAr b (i + 1)) (b (i + 1))).1 = -1
          rw [hL1]
          rw [hv_in q] at g1
          unfold stD
          simp only [show ¬ ((2 : Int32) = 0) by decide, show ¬ ((2 : Int32) = 1) by decide, if_false, if_true]
          rw [if_neg (fun h => g1 h.1)]
        · have : i + 1 = n := by omega
          refine Or.inr ⟨this, hn0, ?_⟩
          rw [← this, hL1]; simp)
      exact kf (i + 1) _ f1 f2 ha1 hfr1
  · refine fail0 (fun q => ?_)
    rw [hv_in q] at g
    unfold stD
    rw [if_pos a0, if_neg (fun h => g h.2)]
end
def DustM (u : Mem) (b : Nat → Int32) (n : Nat) : Prop := u.1 3 = nI (cntD b n) ∧ ∀ k, k < cntD b n → u.2 7 (2 * k) = dbF b n k ∧ u.2 7 (2 * k + 1) = dsF b n k
section
variable {u : Mem} {b : Nat → Int32} {n : Nat} {Q : Int32 → Mem → Prop}
theorem pM_readsDust (hn : n ≤ 35) (ht : TxM 1 u b n) (k : ∀ w, DustM w b n → Fr [1, 3] [7] u w → Q (faultD b n) w) : w_M_readsDust u Q := by
  unfold w_M_readsDust w_M_readsDust_b24
  refine ⟨vp_in_nI (n := 1) (by omega) (by omega), ?_⟩
  rw [o2, ht.1]
  have main : ∀ x1 : Int32, ∀ v : Mem, Fr [1, 3] [7] u v → ((x1 = 0 ∧ faultD b n = -1 ∧ DustM v b n) ∨ (x1 = 1 ∧ ¬ n = 0 ∧ ∃ i c, i ≤ n ∧ v.1 1 = nI i ∧ v.1 3 = nI c ∧ (DAr b i).1 = 0 ∧ (DAr b i).2.1 = c ∧ flD b i = -1 ∧ entD v (DAr b i))) → ∃ f, w_M_readsDust_l25 (fun u5 => Q (-1) u5) Q f x1 v := by
    intro x1 v hfr hinv
    refine loop_m (fun f (s : Int32 × Mem) => w_M_readsDust_l25 (fun u5 => Q (-1) u5) Q f s.1 s.2) (fun s => Fr [1, 3] [7] u s.2 ∧ ((s.1 = 0 ∧ faultD b n = -1 ∧ DustM s.2 b n) ∨ (s.1 = 1 ∧ ¬ n = 0 ∧ ∃ i c, i ≤ n ∧ s.2.1 1 = nI i ∧ s.2.1 3 = nI c ∧ (DAr b i).1 = 0 ∧ (DAr b i).2.1 = c ∧ flD b i = -1 ∧ entD s.2 (DAr b i)))) (fun s => if s.1 = 0 then 0 else n - (s.2.1 1).toNatClampNeg + 1) ?_ (x1, v) ⟨hfr, hinv⟩
    rintro f ⟨x1, v⟩ ⟨hfr, hinv⟩ ih
    dsimp only at hfr hinv ih ⊢
    rw [w_M_readsDust_l25]
    rcases hinv with ⟨rfl, hfa, hl⟩ | ⟨rfl, hn0, i, c, hi, ha, hc, a0, ac, hf, he⟩
    · refine ⟨fun _ => ?_, fun d => absurd rfl d⟩
      have := k v hl hfr
      rw [hfa] at this
      exact this
    · refine ⟨fun d => absurd d (by decide), fun _ => ?_⟩
      have htv : TxM 1 v b n := ht.keep hfr (by decide) (by decide)
      unfold w_M_readsDust_b55 w_M_readsDust_b56 w_M_readsDust_b75 w_M_readsDust_b85 w_M_readsDust_b99
      have hbad : ∀ (j : Nat) (w : Mem), faultD b n = nI j → cntD b n = 0 → w.1 1 = nI j → Fr [1, 3] [7] u w → Q (w.1 1) (sS w 3 0) := fun j w f1 f2 f3 f4 => by
        rw [f3, ← f1]
        exact k _ ⟨by rw [f2]; rfl, fun k hk => by rw [f2] at hk; exact absurd hk (Nat.not_lt_zero k)⟩ (Fr.sS (by decide) f4)
      refine pM_readsOneDust hn hn0 hi htv ha hc a0 ac hf he (fun j w hj hij s1 s2 hf2 wa wc we wf => ⟨fun d => absurd d (by decide), fun _ => ⟨vp_in_nI (n := 1) (by omega) (by omega), ?_⟩⟩) (fun j w f1 f2 wa wf => ⟨fun _ => ⟨fun _ => hbad j w f1 f2 wa (Fr.tr hfr wf), fun d => absurd rfl d⟩, fun d => absurd rfl d⟩)
      have hfw := Fr.tr hfr wf
      have htw : TxM 1 w b n := ht.keep hfw (by decide) (by decide)
      rw [o2, htw.1, wa]
      refine ⟨fun d => ?_, fun d => ?_⟩
      · rw [nI_leI (by omega) (by omega)] at d
        have hjn : j = n := by omega
        subst hjn
        refine ⟨fun g => absurd g (by decide), fun _ => ⟨fun _ => ⟨fun _ => ?_, fun g => absurd rfl g⟩, fun g => absurd rfl g⟩⟩
        have hfa : faultD b j = -1 := by unfold faultD; rw [if_pos hf2, if_pos (Or.inr s1)]
        have hcn : cntD b j = c + 1 := by unfold cntD; rw [if_pos hfa]; exact s2
        refine ih (0, _) ⟨Fr.sS (by decide) hfw, Or.inl ⟨rfl, hfa, ?_, ?_⟩⟩ (by simp)
        · rw [hcn]; exact wc
        · intro k hk; exact we k (by rw [s2, ← hcn]; exact hk)
      · rw [nI_leI (by omega) (by omega)] at d
        refine ⟨fun g => absurd g (by decide), fun _ => ⟨fun g => absurd g (by decide), fun _ => ?_⟩⟩
        refine p_here (t := 1) (by omega) (by omega) (by omega) hj htw wa ⟨fun g => ⟨fun g => absurd g (by decide), fun _ => ?_⟩, fun g => ?_⟩
        · rw [hv_in (by omega)] at g
          have hL : DAr b (j + 1) = (0, (DAr b j).2) := by
            show stD (DAr b j) (b j) = _
            unfold stD
            rw [if_neg (by rw [s1]; decide), if_pos s1, if_pos g]
          refine ih (1, sS w 1 (nI j + 1)) ⟨Fr.sS (by decide) hfw, Or.inr ⟨rfl, hn0, j + 1, c + 1, by omega, nI_1 j, wc, by rw [hL], by rw [hL]; exact s2, flD_go hf2 (by rw [hL]; simp), by rw [hL]; exact we⟩⟩ ?_
          show (if (1 : Int32) = 0 then 0 else n - (nI j + 1).toNatClampNeg + 1) < if (1 : Int32) = 0 then 0 else n - (v.1 1).toNatClampNeg + 1
          rw [if_neg (by decide), if_neg (by decide), ha, nI_1, nI_clamp (by omega), nI_clamp (by omega)]
          omega
        · rw [hv_in (by omega)] at g
          obtain ⟨f1, f2⟩ := failD (by omega) hj hf2 (Or.inl ⟨by omega, by
            show (stD (DAr b j) (b j)).1 = -1
            unfold stD
            rw [if_neg (by rw [s1]; decide), if_pos s1, if_neg g]⟩)
          have := hbad j w f1 f2 wa hfw
          rw [wa] at this
          exact this
  refine ⟨fun c => ?_, fun c => ?_⟩
  · rw [show (0 : Int32) = nI 0 from rfl, nI_leI (by omega) (by omega)] at c
    have : n = 0 := by omega
    subst this
    exact main 0 _ (Fr.sS (by decide) (Fr.sS (by decide) Fr.rf)) (Or.inl ⟨rfl, rfl, rfl, fun k hk => absurd hk (Nat.not_lt_zero k)⟩)
  · rw [show (0 : Int32) = nI 0 from rfl, nI_leI (by omega) (by omega)] at c
    exact main 1 _ (Fr.sS (by decide) (Fr.sS (by decide) Fr.rf)) (Or.inr ⟨rfl, by omega, 0, 0, by omega, rfl, rfl, rfl, rfl, rfl, fun k hk => absurd hk (Nat.not_lt_zero k)⟩)
end
