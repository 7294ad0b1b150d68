/-! the reference reads its laws: the same reading -/
def hv (b : Nat → Int32) (n i : Nat) : Int32 := if i < n then b i else -1
theorem hv_in {b : Nat → Int32} {n i : Nat} (h : i < n) : hv b n i = b i := if_pos h
theorem hv_out {b : Nat → Int32} {n i : Nat} (h : ¬ i < n) : hv b n i = -1 := if_neg h
/-- a text of the reference -/
def TxM (t : Nat) (u : Mem) (b : Nat → Int32) (n : Nat) : Prop := u.2 5 t = nI n ∧ ∀ k, k < n → u.2 4 (80 * t + k) = b k
theorem TxM.keep {t : Nat} {u w : Mem} {b : Nat → Int32} {n : Nat} {S A : List Nat} (h : TxM t u b n) (f : Fr S A u w) (h4 : 4 ∉ A) (h5 : 5 ∉ A) : TxM t w b n := ⟨by rw [f.2 5 h5]; exact h.1, fun k hk => by rw [f.2 4 h4]; exact h.2 k hk⟩
theorem p_here {u : Mem} {b : Nat → Int32} {n i t : Nat} {Q : Int32 → Prop} (ht : t < 2) (hn : n ≤ 79) (hn2 : t = 1 → n ≤ 35) (hi : i ≤ n) (h : TxM t u b n) (ha : u.1 1 = nI i) (k : Q (hv b n i)) : w_M_here (nI t) u Q := by
  unfold w_M_here
  have hc : (nI t).toNatClampNeg = t := nI_clamp (by omega)
  refine ⟨vp_in_nI ht (by omega), ?_⟩
  rw [hc, h.1, ha]
  have he : (80 : Int32) * nI t + nI i = nI (80 * t + i) := by rw [show (80 : Int32) = nI 80 from rfl, pk_mul, nI_add]
  refine ⟨fun c => ?_, fun c => ?_⟩
  · rw [nI_leI (by omega) (by omega)] at c
    rw [hv_out (by omega)] at k
    exact k
  · rw [nI_leI (by omega) (by omega)] at c
    rw [he]
    refine ⟨vp_in_nI (by omega) (by omega), ?_⟩
    rw [nI_clamp (by omega), h.2 i (by omega)]
    rw [hv_in (by omega)] at k
    exact k
theorem p_small {u : Mem} {b : Nat → Int32} {n i t : Nat} {Q : Int32 → Prop} (ht : t < 2) (hn : n ≤ 79) (hn2 : t = 1 → n ≤ 35) (hi : i ≤ n) (h : TxM t u b n) (ha : u.1 1 = nI i) (kt : smL (hv b n i) → Q (hv b n i - 97)) (kf : ¬ smL (hv b n i) → Q (-1)) : w_M_small (nI t) u Q := by
  unfold w_M_small
  refine p_here ht hn hn2 hi h ha ?_
  refine p_M_in (lo := 97) (hi := 104) rfl rfl (fun c => ⟨fun d => absurd d (by decide), fun _ => p_here ht hn hn2 hi h ha (kt c)⟩) (fun c => ⟨fun _ => kf c, fun d => absurd rfl d⟩)
theorem p_big {u : Mem} {b : Nat → Int32} {n i t : Nat} {Q : Int32 → Prop} (ht : t < 2) (hn : n ≤ 79) (hn2 : t = 1 → n ≤ 35) (hi : i ≤ n) (h : TxM t u b n) (ha : u.1 1 = nI i) (kt : bgL (hv b n i) → Q (hv b n i - 65)) (kf : ¬ bgL (hv b n i) → Q (-1)) : w_M_big (nI t) u Q := by
  unfold w_M_big
  refine p_here ht hn hn2 hi h ha ?_
  refine p_M_in (lo := 65) (hi := 72) rfl rfl (fun c => ⟨fun d => absurd d (by decide), fun _ => p_here ht hn hn2 hi h ha (kt c)⟩) (fun c => ⟨fun _ => kf c, fun d => absurd rfl d⟩)
theorem sm_lt {b : Nat → Int32} {n i : Nat} (h : smL (hv b n i)) : i < n := by
  rcases Nat.lt_or_ge i n with q | q
  · exact q
  · rw [hv_out (by omega)] at h; exact absurd h (by decide)
theorem bg_lt {b : Nat → Int32} {n i : Nat} (h : bgL (hv b n i)) : i < n := by
  rcases Nat.lt_or_ge i n with q | q
  · exact q
  · rw [hv_out (by omega)] at h; exact absurd h (by decide)
theorem TH_ne {x : Int32} (h : TH x) : ¬ x = -1 := by
  rintro rfl
  exact absurd h (by unfold TH; decide)
theorem TH_nI {x : Int32} (h : TH x) : ∃ j, j < 8 ∧ x = nI j := by
  obtain ⟨j, hj, e⟩ := nI_of2 (M := 7) (n := 7) rfl (by rw [Int32.not_lt]; exact h.1) h.2
  exact ⟨j, by omega, e⟩
theorem bit_lt : ∀ i, i < 8 → ∀ j, j < 8 → (bit1 (nI i) < bit1 (nI j) ↔ nI i < nI j) := by decide +kernel
theorem failL {b : Nat → Int32} {n j : Nat} (hn : n < 1000) (hj : j ≤ n) (hf : flL b j = -1) (h : (j < n ∧ (LAr b (j + 1)).1 = -1) ∨ (j = n ∧ ¬ n = 0 ∧ ¬ (LAr b n).1 = 1)) : faultL b n = nI j ∧ cntL b n = 0 := by
  have hne : ¬ nI j = -1 := nI_ne (by omega)
  have e : faultL b n = nI j := by
    rcases h with ⟨h1, h2⟩ | ⟨rfl, h1, h2⟩
    · have e1 : flL b (j + 1) = nI j := by
        show (if flL b j = -1 then (if (LAr b (j + 1)).1 = -1 then nI j else -1) else flL b j) = nI j
        rw [if_pos hf, if_pos h2]
      have e2 : flL b n = nI j := by
        rw [show n = (j + 1) + (n - (j + 1)) by omega, flL_stay (by rw [e1]; exact hne), e1]
      unfold faultL
      rw [e2, if_neg hne]
    · unfold faultL
      rw [if_pos hf, if_neg (fun q => q.elim h1 h2)]
  exact ⟨e, by unfold cntL; rw [e, if_neg hne]⟩
theorem flL_go {b : Nat → Int32} {i : Nat} (hf : flL b i = -1) (h : ¬ (LAr b (i + 1)).1 = -1) : flL b (i + 1) = -1 := by
  show (if flL b i = -1 then (if (LAr b (i + 1)).1 = -1 then nI i else -1) else flL b i) = -1
  rw [if_pos hf, if_neg h]
def entM (u : Mem) (a : LA) : Prop := ∀ k, k < a.2.1 → u.2 6 (3 * k) = a.2.2.2.2.1 k ∧ u.2 6 (3 * k + 1) = a.2.2.2.2.2.1 k ∧ u.2 6 (3 * k + 2) = a.2.2.2.2.2.2 k
theorem sS_s {u : Mem} {k : Nat} {x : Int32} : (sS u k x).1 k = x := if_pos rfl
section
variable {u u0 : Mem} {b : Nat → Int32} {n i c : Nat} {Q : Int32 → Mem → Prop}
/-- behind the small things: the sign and the big thing -/
theorem pM_b70 {j : Nat} {bits : Int32} (hn : n ≤ 79) (hn0 : ¬ n = 0) (hj : j ≤ n) (hij : i < j) (ht : TxM 0 u b n) (ha : u.1 1 = nI j) (hc : u.1 2 = nI c) (hc16 : c < 16) (hst : ¬ (LAr b j).1 = 1) (hnx : j < n → LAr b (j + 1) = sgL (LAr b j) (b j)) (hac : (LAr b j).2.1 = c) (hos : (LAr b j).2.2.1 = bits) (hf : flL b j = -1) (he : entM u (LAr b j)) (hfr : Fr [1, 2] [6] u0 u)
    (kt : ∀ j w, j ≤ n → i < j → (LAr b j).1 = 1 → (LAr b j).2.1 = c + 1 → flL b j = -1 → w.1 1 = nI j → w.1 2 = nI (c + 1) → entM w (LAr b j) → Fr [1, 2] [6] u0 w → Q 1 w)
    (kf : ∀ j w, faultL b n = nI j → cntL b n = 0 → w.1 1 = nI j → Fr [1, 2] [6] u0 w → Q 0 w) : w_M_readsLaw_b70 bits u Q := by
  unfold w_M_readsLaw_b70
  have step : ∀ s0 : Int32, (s0 = 43 ∨ s0 = 45) → hv b n j = s0 → w_M_readsLaw_b93 bits s0 u Q := by
    intro s0 hs0 hvj
    have hlt : j < n := by
      rcases Nat.lt_or_ge j n with q | q
      · exact q
      · rw [hv_out (by omega)] at hvj; rcases hs0 with g | g <;> exact absurd (hvj.trans g) (by decide)
    rw [hv_in hlt] at hvj
    have hL1 : LAr b (j + 1) = (4, c, bits, (if s0 = 43 then 1 else 0), (LAr b j).2.2.2.2) := by
      rw [hnx hlt, hvj]
      unfold sgL
      rcases hs0 with g | g
      · rw [if_pos g, if_pos g, hac, hos]
      · rw [if_neg (by rw [g]; decide), if_pos g, if_neg (by rw [g]; decide), hac, hos]
    have hf1 : flL b (j + 1) = -1 := flL_go hf (by rw [hL1]; simp)
    unfold w_M_readsLaw_b93
    have ha1 : (sS u 1 (u.1 1 + 1)).1 1 = nI (j + 1) := by rw [sS_s, ha, nI_1]
    have ht1 : TxM 0 (sS u 1 (u.1 1 + 1)) b n := ht
    have hfr1 : Fr [1, 2] [6] u0 (sS u 1 (u.1 1 + 1)) := Fr.sS (by decide) hfr
    refine p_big (t := 0) (by omega) hn (by omega) (by omega : j + 1 ≤ n) ht1 ha1 (fun g => ⟨fun _ => ?_, fun d => absurd d (TH_ne (bgL_TH g))⟩) (fun g => ⟨fun d => absurd rfl d, fun _ => ?_⟩)
    · have hlt1 := bg_lt g
      rw [hv_in hlt1] at g ⊢
      have hL2 : LAr b (j + 1 + 1) = (1, c + 1, bits, (if s0 = 43 then 1 else 0), upd (LAr b j).2.2.2.2.1 c bits, upd (LAr b j).2.2.2.2.2.1 c (if s0 = 43 then 1 else 0), upd (LAr b j).2.2.2.2.2.2 c (b (j + 1) - 65)) := by
        show stL (LAr b (j + 1)) (b (j + 1)) = _
        rw [hL1]
        unfold stL
        simp only [show ¬ ((4 : Int32) = 0) by decide, show ¬ ((4 : Int32) = 1) by decide, show ¬ ((4 : Int32) = 2) by decide, show ¬ ((4 : Int32) = 3) by decide, if_false, if_true]
        rw [if_pos ⟨g, hc16⟩]
      have hf2 : flL b (j + 1 + 1) = -1 := flL_go hf1 (by rw [hL2]; simp)
      have e3 : (3 : Int32) * u.1 2 = nI (3 * c) := by rw [hc, show (3 : Int32) = nI 3 from rfl, pk_mul]
      have e31 : (3 : Int32) * u.1 2 + 1 = nI (3 * c + 1) := by rw [e3, nI_1]
      have e32 : (3 : Int32) * u.1 2 + 2 = nI (3 * c + 2) := by rw [e3, show (2 : Int32) = nI 2 from rfl, nI_add]
      refine ⟨by rw [e3]; exact vp_in_nI (by omega) (by omega), ?_⟩
      have fin : ∀ z : Int32, z = (if s0 = 43 then 1 else 0) → w_M_readsLaw_b164 (b (j + 1) - 65) z (3 * u.1 2 + 1) (sA (sS (sS u 1 (u.1 1 + 1)) 1 (u.1 1 + 1 + 1)) 6 (3 * u.1 2).toNatClampNeg bits) Q := by
        intro z hz
        unfold w_M_readsLaw_b164
        have hz2 : (sA (sS (sS u 1 (u.1 1 + 1)) 1 (u.1 1 + 1 + 1)) 6 (3 * u.1 2).toNatClampNeg bits).1 2 = u.1 2 := rfl
        rw [hz2, e31, e32, e3]
        refine ⟨vp_in_nI (by omega) (by omega), vp_in_nI (by omega) (by omega), ?_⟩
        rw [nI_clamp (by omega), nI_clamp (by omega), nI_clamp (by omega)]
        refine kt (j + 1 + 1) _ (by omega) (by omega) (by rw [hL2]) (by rw [hL2]) hf2 ?_ ?_ ?_ (Fr.sS (by decide) (Fr.sA (by decide) (Fr.sA (by decide) (Fr.sA (by decide) (Fr.sS (by decide) hfr1)))))
        · show u.1 1 + 1 + 1 = nI (j + 1 + 1)
          rw [ha, nI_1, nI_1]
        · show u.1 2 + 1 = nI (c + 1)
          rw [hc, nI_1]
        · intro k hk
          rw [hL2] at hk ⊢
          have hk : k < c + 1 := hk
          simp only [sS_2, sA_2, sA_1, if_true, upd_ap]
          rcases Nat.lt_or_ge k c with q | q
          · have h3 := he k (by rw [hac]; exact q)
            rw [if_neg (by omega), if_neg (by omega), if_neg (by omega), if_neg (by omega), if_neg (by omega), if_neg (by omega), if_neg (by omega), if_neg (by omega), if_neg (by omega), if_neg (by omega), if_neg (by omega), if_neg (by omega)]
            exact h3
          · have : k = c := by omega
            subst this
            rw [if_neg (by omega), if_neg (by omega), if_pos rfl, if_pos rfl, if_neg (by omega), if_pos rfl, if_pos rfl, if_pos rfl, if_pos rfl]
            exact ⟨rfl, hz, rfl⟩
      refine ⟨fun d => fin 0 (by rw [if_neg d]), fun d => fin 1 (by rw [if_pos d])⟩
    · obtain ⟨f1, f2⟩ := failL (by omega) (by omega : j + 1 ≤ n) hf1 (by
        rcases Nat.lt_or_ge (j + 1) n with q | q
        · refine Or.inl ⟨q, ?_⟩
          show (stL (LAr b (j + 1)) (b (j + 1))).1 = -1
          rw [hL1]
          rw [hv_in q] at g
          unfold stL
          simp only [show ¬ ((4 : Int32) = 0) by decide, show ¬ ((4 : Int32) = 1) by decide, show ¬ ((4 : Int32) = 2) by decide, show ¬ ((4 : Int32) = 3) by decide, if_false, if_true]
          rw [if_neg (fun h => g h.1)]
        · have : j + 1 = n := by omega
          refine Or.inr ⟨this, hn0, ?_⟩
          rw [← this, hL1]; simp)
      exact kf (j + 1) _ f1 f2 ha1 hfr1
  refine p_here (t := 0) (by omega) hn (by omega) hj ht ha ⟨fun g => ?_, fun g => ⟨fun g2 => ?_, fun g2 => ?_⟩⟩
  · exact step _ (Or.inl g) rfl
  · exact step _ (Or.inr g2) rfl
  · obtain ⟨f1, f2⟩ := failL (by omega) hj hf (by
      rcases Nat.lt_or_ge j n with q | q
      · refine Or.inl ⟨q, ?_⟩
        rw [hv_in q] at g g2
        rw [hnx q]
        unfold sgL
        rw [if_neg g, if_neg g2]
      · have : j = n := by omega
        subst this
        exact Or.inr ⟨rfl, hn0, hst⟩)
    exact kf j _ f1 f2 ha hfr
theorem pM_readsLaw (hn : n ≤ 79) (hn0 : ¬ n = 0) (hi : i ≤ n) (ht : TxM 0 u b n) (ha : u.1 1 = nI i) (hc : u.1 2 = nI c) (a0 : (LAr b i).1 = 0) (ac : (LAr b i).2.1 = c) (hf : flL b i = -1) (he : entM u (LAr b i))
    (kt : ∀ j w, j ≤ n → i < j → (LAr b j).1 = 1 → (LAr b j).2.1 = c + 1 → flL b j = -1 → w.1 1 = nI j → w.1 2 = nI (c + 1) → entM w (LAr b j) → Fr [1, 2] [6] u w → Q 1 w)
    (kf : ∀ j w, faultL b n = nI j → cntL b n = 0 → w.1 1 = nI j → Fr [1, 2] [6] u w → Q 0 w) : w_M_readsLaw u Q := by
  unfold w_M_readsLaw
  have hc16 : c ≤ 16 := by rw [← ac]; exact (okL_r b i).1
  have e16 : (16 : Int32) = nI 16 := rfl
  have fail0 : (i < n → (stL (LAr b i) (b i)).1 = -1) → Q 0 u := fun h => by
    obtain ⟨f1, f2⟩ := failL (by omega) hi hf (by
      rcases Nat.lt_or_ge i n with q | q
      · exact Or.inl ⟨q, h q⟩
      · have : i = n := by omega
        subst this
        exact Or.inr ⟨rfl, hn0, by rw [a0]; decide⟩)
    exact kf i _ f1 f2 ha Fr.rf
  have full : u.1 2 = 16 → Q 0 u := fun g => by
    rw [hc, e16, nI_eq (by omega) (by omega)] at g
    refine fail0 (fun q => ?_)
    unfold stL
    rw [if_pos a0, if_neg (by omega)]
  refine p_small (t := 0) (by omega) hn (by omega) hi ht ha (fun g => ⟨full, fun gc => ⟨fun _ => ?_, fun d => absurd d (TH_ne (smL_TH g))⟩⟩) (fun g => ⟨full, fun gc => ⟨fun d => absurd rfl d, fun _ => ?_⟩⟩)
  · rw [hc, e16, nI_eq (by omega) (by omega)] at gc
    have hlt := sm_lt g
    rw [hv_in hlt] at g ⊢
    have hL1 : LAr b (i + 1) = (2, c, bit1 (b i - 97), (LAr b i).2.2.2) := by
      show stL (LAr b i) (b i) = _
      unfold stL
      rw [if_pos a0, if_pos ⟨by omega, g⟩, ac]
    have hf1 : flL b (i + 1) = -1 := flL_go hf (by rw [hL1]; simp)
    have ha1 : (sS u 1 (u.1 1 + 1)).1 1 = nI (i + 1) := by rw [sS_s, ha, nI_1]
    have hfr1 : Fr [1, 2] [6] u (sS u 1 (u.1 1 + 1)) := Fr.sS (by decide) Fr.rf
    have he1 : entM (sS u 1 (u.1 1 + 1)) (LAr b (i + 1)) := by
      rw [hL1]
      intro k hk
      exact he k (by rw [ac]; exact hk)
    refine p_small (t := 0) (by omega) hn (by omega) (by omega : i + 1 ≤ n) ht ha1 (fun g1 => ⟨fun d => absurd d (TH_ne (smL_TH g1)), fun _ => ⟨fun d => ?_, fun d => ?_⟩⟩) (fun g1 => ⟨fun _ => ?_, fun d => absurd rfl d⟩)
    · have hlt1 := sm_lt g1
      rw [hv_in hlt1] at g1 d ⊢
      obtain ⟨p1, q1, e1⟩ := TH_nI (smL_TH g)
      obtain ⟨p2, q2, e2⟩ := TH_nI (smL_TH g1)
      have hb : bit1 (b i - 97) < bit1 (b (i + 1) - 97) := by rw [e1, e2, bit_lt p1 q1 p2 q2, ← e1, ← e2]; exact d
      have hL2 : LAr b (i + 1 + 1) = (3, c, bit1 (b i - 97) ||| bit1 (b (i + 1) - 97), (LAr b i).2.2.2) := by
        show stL (LAr b (i + 1)) (b (i + 1)) = _
        rw [hL1]
        unfold stL
        simp only [show ¬ ((2 : Int32) = 0) by decide, show ¬ ((2 : Int32) = 1) by decide, if_false, if_true]
        rw [if_pos g1, if_pos hb]
      have hf2 : flL b (i + 1 + 1) = -1 := flL_go hf1 (by rw [hL2]; simp)
      refine pM_b70 (i := i) (j := i + 1 + 1) hn hn0 (by omega) (by omega) ht ?_ hc (by omega) (by rw [hL2]; simp) ?_ (by rw [hL2]) (by rw [hL2]) hf2 ?_ (Fr.sS (by decide) hfr1) kt kf
      · rw [sS_s, ha, nI_1, nI_1]
      · intro _
        show stL (LAr b (i + 1 + 1)) _ = _
        rw [hL2]
        unfold stL
        simp only [show ¬ ((3 : Int32) = 0) by decide, show ¬ ((3 : Int32) = 1) by decide, show ¬ ((3 : Int32) = 2) by decide, if_false, if_true]
      · rw [hL2]
        intro k hk
        exact he k (by rw [ac]; exact hk)
    · have hlt1 := sm_lt g1
      rw [hv_in hlt1] at g1 d
      obtain ⟨p1, q1, e1⟩ := TH_nI (smL_TH g)
      obtain ⟨p2, q2, e2⟩ := TH_nI (smL_TH g1)
      have hb : ¬ bit1 (b i - 97) < bit1 (b (i + 1) - 97) := by rw [e1, e2, bit_lt p1 q1 p2 q2, ← e1, ← e2]; exact d
      obtain ⟨f1, f2⟩ := failL (by omega) (by omega : i + 1 ≤ n) hf1 (Or.inl ⟨hlt1, by
        show (stL (LAr b (i + 1)) (b (i + 1))).1 = -1
        rw [hL1]
        unfold stL
        simp only [show ¬ ((2 : Int32) = 0) by decide, show ¬ ((2 : Int32) = 1) by decide, if_false, if_true]
        rw [if_pos g1, if_neg hb]⟩)
      exact kf (i + 1) _ f1 f2 ha1 hfr1
    · refine pM_b70 (i := i) (j := i + 1) hn hn0 (by omega) (by omega) ht ha1 hc (by omega) (by rw [hL1]; simp) ?_ (by rw [hL1]) (by rw [hL1]) hf1 he1 hfr1 kt kf
      intro q
      rw [hv_in q] at g1
      show stL (LAr b (i + 1)) _ = _
      rw [hL1]
      unfold stL
      simp only [show ¬ ((2 : Int32) = 0) by decide, show ¬ ((2 : Int32) = 1) by decide, if_false, if_true]
      rw [if_neg g1]
  · refine fail0 (fun q => ?_)
    rw [hv_in q] at g
    unfold stL
    rw [if_pos a0, if_neg (fun h => g h.2)]
end
