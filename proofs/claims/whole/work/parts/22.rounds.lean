/-! bars, steady weeks, rounds -/
theorem sb_tb : ∀ i, i < 256 → ∀ j, j < 8 → ((nI i >>> (nI j &&& 31)) &&& 1) = if i.testBit j = true then 1 else 0 := by decide +kernel
theorem and_not (x y : Int32) : x &&& (y ^^^ (-1)) = x ^^^ (x &&& y) := by
  rw [← Int32.toBitVec_inj]
  simp only [Int32.toBitVec_and, Int32.toBitVec_xor]
  rw [show (-1 : Int32).toBitVec = BitVec.allOnes 32 from rfl, BitVec.xor_allOnes]
  ext i hi
  simp
  cases x.toBitVec[i] <;> cases y.toBitVec[i] <;> rfl
theorem bar1 {x y t : Int32} (hx : B8 x) (hy : B8 y) (ht : TH t) : (((x &&& y) >>> (t &&& 31)) &&& 1) = if ((x >>> (t &&& 31)) &&& 1) = 1 ∧ ¬ (((x &&& (y ^^^ (-1))) >>> (t &&& 31)) &&& 1) = 1 then 1 else 0 := by
  obtain ⟨a, ha, rfl⟩ := B8_nI hx
  obtain ⟨c, hc, rfl⟩ := B8_nI hy
  obtain ⟨j, hj, rfl⟩ := TH_nI ht
  have h1 : a &&& c < 256 := Nat.lt_of_le_of_lt Nat.and_le_left ha
  rw [and_not, fa_and, fb_xorI, sb_tb _ h1 j hj, sb_tb _ ha j hj, sb_tb _ (Nat.xor_lt_two_pow (n := 8) ha h1) j hj, Nat.testBit_xor, Nat.testBit_and]
  cases a.testBit j <;> cases c.testBit j <;> decide
def brN (b : Nat → Int32) (n : Nat) (t : Int32) : Nat → Int32
  | 0 => 0
  | k + 1 => brN b n t k + (((HEf b n (nI k) 1 &&& HEf b n (nI k) 0) >>> (t &&& 31)) &&& 1)
def sdN (nx : Int32 → Int32) (i : Int32) : Nat → Nat → Int32 → Int32
  | 0, _, c => if i = -1 then c else -1
  | r + 1, k, c => if nx (nI k) = nI k then (if c = i then nI k else sdN nx i r (k + 1) (c + 1)) else sdN nx i r (k + 1) c
section
variable {u : Mem} {b d : Nat → Int32} {n m : Nat}
theorem pX_barsL {t : Int32} {X : Int32 → Prop} {Q : Int32 → Mem → Prop} (hh : HouseX u b n d m) (q : X (brN b n t 256)) : ∃ f, w_X_bars_l20 X t u Q f 0 0 := by
  refine exfor (fun g (a : Int32 × Int32) => w_X_bars_l20 X t u Q g a.1 a.2) (fun i => (brN b n t i, nI i)) 256 (fun g => ?_) (fun g i hi ih => ?_)
  · dsimp only
    rw [w_X_bars_l20]
    exact ⟨fun _ => q, fun e => absurd ((nI_leI (a := 256) (by omega) (by omega)).mpr (Nat.le_refl _)) e⟩
  · dsimp only at ih ⊢
    rw [w_X_bars_l20, nI_1]
    exact ⟨fun e => absurd ((nI_leI (a := 256) (by omega) (by omega)).mp e) (by omega), fun _ => p_disagreeBy hh (B8_of hi) ih⟩
theorem pM_barsOf {t : Int32} {Q : Int32 → Prop} (hl : LawsM u b n) (hh : HouseM u b n d m) (ht : TH t) (q : Q (brN b n t 256)) : w_M_barsOf t u Q := by
  refine exfor (fun g (a : Int32 × Int32) => w_M_barsOf_l4 (fun z7 => Q z7) t u Q g a.1 a.2) (fun i => (brN b n t i, nI i)) 256 (fun g => ?_) (fun g i hi ih => ?_)
  · dsimp only
    rw [w_M_barsOf_l4]
    exact ⟨fun _ => q, fun e => absurd ((nI_leI (a := 256) (by omega) (by omega)).mpr (Nat.le_refl _)) e⟩
  · dsimp only at ih ⊢
    rw [w_M_barsOf_l4]
    unfold w_M_barsOf_b42 w_M_barsOf_b43
    obtain ⟨k1, k2⟩ := come_at hh (B8_of hi)
    rw [k2, nI_1, Int32.add_zero]
    unfold brN at ih
    rw [bar1 (B8_HE b n _ 1) (B8_HE b n _ 0) ht] at ih
    refine ⟨fun e => absurd ((nI_leI (a := 256) (by omega) (by omega)).mp e) (by omega), fun _ => pM_heldBy hl (p_isIn (fun c => ⟨fun x => absurd x (by decide), fun _ => ⟨k1, p_isIn (fun e => ⟨fun _ => ?_, fun x => absurd x (by decide)⟩) (fun e => ⟨fun x => absurd rfl x, fun _ => ?_⟩)⟩⟩) (fun c => ⟨fun _ => ?_, fun x => absurd rfl x⟩))⟩
    · rw [if_neg (fun x => x.2 e), Int32.add_zero] at ih; exact ih
    · rw [if_pos ⟨c, e⟩] at ih; exact ih
    · rw [if_neg (fun x => c x.1), Int32.add_zero] at ih; exact ih
theorem pX_steadyL {i : Int32} {Q : Int32 → Mem → Prop} (hh : HouseX u b n d m) (q : Q (sdN (NXf b n d m) i 256 0 0) u) : ∃ f, w_X_steady_l25 (fun z5 => ((¬ i = (-1) → (Q (-1) u)) ∧ (i = (-1) → (Q z5 u)))) i u Q f 0 0 := by
  have main : ∀ r k (c : Int32), k + r = 256 → Q (sdN (NXf b n d m) i r k c) u → w_X_steady_l25 (fun z5 => ((¬ i = (-1) → (Q (-1) u)) ∧ (i = (-1) → (Q z5 u)))) i u Q (r + 1) c (nI k) := by
    intro r
    induction r with
    | zero =>
      intro k c hk q
      rw [w_X_steady_l25]
      unfold sdN at q
      refine ⟨fun _ => ⟨fun e => ?_, fun e => ?_⟩, fun e => absurd ((nI_leI (a := 256) (by omega) (by omega)).mpr (by omega)) e⟩
      · rw [if_neg e] at q; exact q
      · rw [if_pos e] at q; exact q
    | succ r ih =>
      intro k c hk q
      rw [w_X_steady_l25, nI_1]
      unfold sdN at q
      refine ⟨fun e => absurd ((nI_leI (a := 256) (by omega) (by omega)).mp e) (by omega), fun _ => p_weekBehind hh (B8_of (by omega)) ⟨fun e => ?_, fun e => ⟨fun g => ?_, fun g => ?_⟩⟩⟩
      · rw [if_neg e] at q; exact ih _ _ (by omega) q
      · rw [if_pos e, if_neg g] at q; exact ih _ _ (by omega) q
      · rw [if_pos e, if_pos g] at q; exact q
  exact ⟨257, main 256 0 0 (by omega) q⟩
theorem pM_steadyOf {i : Int32} {Q : Int32 → Prop} (hh : HouseM u b n d m) (q : Q (sdN (NXf b n d m) i 256 0 0)) : w_M_steadyOf i u Q := by
  have main : ∀ r k (c : Int32), k + r = 256 → Q (sdN (NXf b n d m) i r k c) → w_M_steadyOf_l4 (fun z5 => ((¬ i = (-1) → (Q (-1))) ∧ (i = (-1) → (Q z5)))) i u Q (r + 1) c (nI k) := by
    intro r
    induction r with
    | zero =>
      intro k c hk q
      rw [w_M_steadyOf_l4]
      unfold sdN at q
      refine ⟨fun _ => ⟨fun e => ?_, fun e => ?_⟩, fun e => absurd ((nI_leI (a := 256) (by omega) (by omega)).mpr (by omega)) e⟩
      · rw [if_neg e] at q; exact q
      · rw [if_pos e] at q; exact q
    | succ r ih =>
      intro k c hk q
      rw [w_M_steadyOf_l4, nI_1]
      unfold sdN at q
      refine ⟨fun e => absurd ((nI_leI (a := 256) (by omega) (by omega)).mp e) (by omega), fun _ => p_next hh (B8_of (by omega)) ⟨fun e => ?_, fun e => ⟨fun g => ?_, fun g => ?_⟩⟩⟩
      · rw [if_neg e] at q; exact ih _ _ (by omega) q
      · rw [if_pos e, if_neg g] at q; exact ih _ _ (by omega) q
      · rw [if_pos e, if_pos g] at q; exact q
  exact ⟨257, main 256 0 0 (by omega) q⟩
/-! rounds -/
/-- behind p.1 weeks it is first one that was there ahead, at week p.2 -/
def RepP (nx : Int32 → Int32) (s : Int32) (p : Nat × Nat) : Prop := p.1 ≤ 256 ∧ p.2 < p.1 ∧ itN nx s p.2 = itN nx s p.1 ∧ ∀ w j, j < w → w < p.1 → ¬ itN nx s j = itN nx s w
noncomputable def repW (nx : Int32 → Int32) (s : Int32) : Nat × Nat := Classical.epsilon (RepP nx s)
theorem rep_ex {nx : Int32 → Int32} {s : Int32} (hn : ∀ s, B8 (nx s)) (hs : B8 s) : RepP nx s (repW nx s) := by
  refine Classical.epsilon_spec (p := RepP nx s) ?_
  have h8 := B8_it hn hs
  have hlt : ∀ i, i < 257 → (itN nx s i).toNatClampNeg < 256 := fun i _ => by
    obtain ⟨-, j, hj, -, -, ek, -⟩ := in256 (h8 i)
    rw [ek]; exact hj
  obtain ⟨i, j, hij, hj, e⟩ := fb_twice (f := fun i => (itN nx s i).toNatClampNeg) hlt (by omega)
  have inj : ∀ i j, (itN nx s i).toNatClampNeg = (itN nx s j).toNatClampNeg → itN nx s i = itN nx s j := fun i j e => by
    obtain ⟨-, a, ha, ea, -, eka, -⟩ := in256 (h8 i)
    obtain ⟨-, c, hc, ec, -, ekc, -⟩ := in256 (h8 j)
    rw [eka, ekc] at e
    rw [ea, ec, e]
  obtain ⟨w, ⟨j2, hj2, e2⟩, hmin⟩ := pk_least (fun w => ∃ j, j < w ∧ itN nx s j = itN nx s w) ⟨j, i, hij, inj _ _ e⟩
  refine ⟨(w, j2), ?_, hj2, e2, fun w2 j3 h1 h2 h3 => hmin w2 h2 ⟨j3, h1, h3⟩⟩
  rcases Nat.lt_or_ge 256 w with q | q
  · exact absurd ⟨i, hij, inj _ _ e⟩ (hmin j (by omega))
  · exact q
theorem fnd_none {p : Nat → Bool} : ∀ {r k : Nat}, (∀ i, k ≤ i → i < k + r → p i = false) → fnd p k r = -1
  | 0, _, _ => rfl
  | r + 1, k, h => by
    unfold fnd
    rw [if_neg (by rw [h k (Nat.le_refl _) (by omega)]; decide)]
    exact fnd_none (fun i h1 h2 => h i (by omega) (by omega))
theorem fnd_some {p : Nat → Bool} {j : Nat} (hp : p j = true) : ∀ {r k : Nat}, k ≤ j → j < k + r → (∀ i, k ≤ i → i < j → p i = false) → fnd p k r = nI j
  | 0, _, _, h2, _ => by omega
  | r + 1, k, h1, h2, h => by
    unfold fnd
    rcases Nat.lt_or_ge k j with q | q
    · rw [if_neg (by rw [h k (Nat.le_refl _) q]; decide)]
      exact fnd_some hp (by omega) (by omega) (fun i g1 g2 => h i (by omega) g2)
    · have : k = j := by omega
      subst this
      rw [if_pos hp]
theorem p_weekOf {s t : Int32} {w : Nat} {Q : Int32 → Prop} (hw : w < 1000) (hh : HouseX u b n d m) (hs : B8 s) (q : Q (fnd (fun j => decide (itN (NXf b n d m) s j = t)) 0 w)) : w_P_weekOf s t (nI w) u Q := by
  have h8 := B8_it (nx := NXf b n d m) (B8_NX b n d m) hs
  have main : ∀ r k, k + r = w → Q (fnd (fun j => decide (itN (NXf b n d m) s j = t)) k r) → w_P_weekOf_l6 (Q (-1)) t (nI w) u Q (r + 1) (itN (NXf b n d m) s k) (nI k) := by
    intro r
    induction r with
    | zero =>
      intro k hk q
      rw [w_P_weekOf_l6]
      exact ⟨fun _ => q, fun e => absurd ((nI_leI (by omega) (by omega)).mpr (by omega)) e⟩
    | succ r ih =>
      intro k hk q
      rw [w_P_weekOf_l6, nI_1]
      unfold fnd at q
      refine ⟨fun e => absurd ((nI_leI (by omega) (by omega)).mp e) (by omega), fun _ => ⟨fun e => p_weekBehind hh (h8 k) ?_, fun e => ?_⟩⟩
      · rw [if_neg (by simpa using e)] at q
        exact ih (k + 1) (by omega) q
      · rw [if_pos (by simpa using e)] at q
        exact q
  exact ⟨w + 1, main w 0 (by omega) q⟩
theorem rep_at {nx : Int32 → Int32} {s : Int32} {w j : Nat} (h : RepP nx s (w, j)) : fnd (fun i => decide (itN nx s i = itN nx s w)) 0 w = nI j := by
  refine fnd_some (j := j) (by simpa using h.2.2.1) (Nat.zero_le _) (by have := h.2.1; omega) (fun i _ hi => ?_)
  rw [decide_eq_false_iff_not]
  intro e
  exact h.2.2.2 j i hi h.2.1 (e.trans h.2.2.1.symm)
theorem p_weeksToRepeat {s : Int32} {w j : Nat} {Q : Int32 → Prop} (hh : HouseX u b n d m) (hs : B8 s) (h : RepP (NXf b n d m) s (w, j)) (q : Q (nI w)) : w_P_weeksToRepeat s u Q := by
  have h8 := B8_it (nx := NXf b n d m) (B8_NX b n d m) hs
  have hw : w ≤ 256 := h.1
  have hj : j < w := h.2.1
  have main : ∀ r k, k + r + 1 = w → w_P_weeksToRepeat_l4 (Q (-1)) s u Q (r + 1) (itN (NXf b n d m) s k) (nI (k + 1)) := by
    intro r
    induction r with
    | zero =>
      intro k hk
      rw [w_P_weeksToRepeat_l4]
      refine ⟨fun e => absurd ((nI_ltI (a := 256) (by omega) (by omega)).mp e) (by omega), fun _ => p_weekBehind hh (h8 k) ?_⟩
      have ek : k + 1 = w := by omega
      refine p_weekOf (by omega) hh hs ?_
      have e1 : NXf b n d m (itN (NXf b n d m) s k) = itN (NXf b n d m) s w := by rw [← ek]; rfl
      rw [ek, e1, rep_at h]
      exact ⟨fun e => absurd e (nI_ne (by omega)), fun _ => q⟩
    | succ r ih =>
      intro k hk
      rw [w_P_weeksToRepeat_l4]
      refine ⟨fun e => absurd ((nI_ltI (a := 256) (by omega) (by omega)).mp e) (by omega), fun _ => p_weekBehind hh (h8 k) ?_⟩
      refine p_weekOf (by omega) hh hs ?_
      have e1 : NXf b n d m (itN (NXf b n d m) s k) = itN (NXf b n d m) s (k + 1) := rfl
      rw [e1, fnd_none (fun i _ hi => by rw [decide_eq_false_iff_not]; exact h.2.2.2 (k + 1) i (by omega) (by show k + 1 < w; omega))]
      refine ⟨fun _ => ?_, fun e => absurd rfl e⟩
      rw [nI_1]
      exact ih (k + 1) (by omega)
  exact ⟨w, by have := main (w - 1) 0 (by omega); rw [show w - 1 + 1 = w by omega] at this; exact this⟩
theorem p_roundLength {s : Int32} {w j : Nat} {Q : Int32 → Prop} (hh : HouseX u b n d m) (hs : B8 s) (h : RepP (NXf b n d m) s (w, j)) (q : Q (nI w - nI j)) : w_P_roundLength s u Q := by
  have h8 := B8_it (nx := NXf b n d m) (B8_NX b n d m) hs
  have hw : w ≤ 256 := h.1
  refine p_weeksToRepeat hh hs h ?_
  refine exfor (fun f (a : Int32 × Int32) => w_P_roundLength_l11 (fun z5 => w_P_weekOf s z5 (nI w) u (fun r6 => Q (nI w - r6))) s (nI w) u Q f a.1 a.2) (fun i => (itN (NXf b n d m) s i, nI i)) w (fun f => ?_) (fun f i hi ih => ?_)
  · dsimp only
    rw [w_P_roundLength_l11]
    refine ⟨fun _ => p_weekOf (by omega) hh hs ?_, fun e => absurd ((nI_leI (by omega) (by omega)).mpr (Nat.le_refl _)) e⟩
    rw [rep_at h]; exact q
  · dsimp only at ih ⊢
    rw [w_P_roundLength_l11, nI_1]
    exact ⟨fun e => absurd ((nI_leI (by omega) (by omega)).mp e) (by omega), fun _ => p_weekBehind hh (h8 i) ih⟩
theorem pM_roundOf {s x2 : Int32} {w j : Nat} {Q : Int32 → Mem → Prop} (hh : HouseM u b n d m) (hs : B8 s) (h : RepP (NXf b n d m) s (w, j)) (q : ∀ v, Fr [] [14] u v → Q (if x2 = 0 then nI w else nI w - nI j) v) : w_M_roundOf s x2 u Q := by
  have h8 := B8_it (nx := NXf b n d m) (B8_NX b n d m) hs
  have hw : w ≤ 256 := h.1
  have hj : j < w := h.2.1
  unfold w_M_roundOf
  refine exinv (fun f (a : Int32 × Mem) => w_M_roundOf_l2 _ s x2 Q f a.1 a.2) (fun i a => a.1 = nI i ∧ Fr [] [14] u a.2 ∧ ∀ k, k < i → a.2.2 14 k = -1) 256 (0, u) ⟨rfl, Fr.rf, fun k hk => absurd hk (Nat.not_lt_zero k)⟩ ?_ ?_
  · rintro f ⟨x, v⟩ ⟨e, hf, hv⟩
    dsimp only at e hf hv ⊢
    subst e
    rw [w_M_roundOf_l2]
    refine ⟨fun _ => ?_, fun e => absurd ((nI_leI (a := 256) (by omega) (by omega)).mpr (Nat.le_refl _)) e⟩
    have hidx : ∀ i, (itN (NXf b n d m) s i).toNatClampNeg < 256 ∧ vp_in (itN (NXf b n d m) s i) 256 := fun i => by
      obtain ⟨-, k, hk, -, -, ek, kin⟩ := in256 (h8 i)
      exact ⟨by rw [ek]; exact hk, kin⟩
    have inj : ∀ i j, (itN (NXf b n d m) s i).toNatClampNeg = (itN (NXf b n d m) s j).toNatClampNeg → itN (NXf b n d m) s i = itN (NXf b n d m) s j := fun i j e => by
      obtain ⟨-, a, ha, ea, -, eka, -⟩ := in256 (h8 i)
      obtain ⟨-, c, hc, ec, -, ekc, -⟩ := in256 (h8 j)
      rw [eka, ekc] at e
      rw [ea, ec, e]
    refine exinv (fun f (a : Int32 × Int32 × Mem) => w_M_roundOf_l27 _ x2 Q f a.1 a.2.1 a.2.2) (fun i a => a.1 = itN (NXf b n d m) s i ∧ a.2.1 = nI i ∧ Fr [] [14] u a.2.2 ∧ (∀ k, k < i → a.2.2.2 14 (itN (NXf b n d m) s k).toNatClampNeg = nI k) ∧ ∀ k, k < 256 → (∀ l, l < i → ¬ k = (itN (NXf b n d m) s l).toNatClampNeg) → a.2.2.2 14 k = -1) w (s, 0, v) ⟨rfl, rfl, hf, fun k hk => absurd hk (Nat.not_lt_zero k), fun k hk _ => hv k hk⟩ ?_ ?_
    · rintro f ⟨x3, x4, v2⟩ ⟨e3, e4, hf2, hv2, -⟩
      dsimp only at e3 e4 hf2 hv2 ⊢
      subst e3; subst e4
      rw [w_M_roundOf_l27]
      obtain ⟨k1, k2⟩ := hidx w
      have ew : v2.2 14 (itN (NXf b n d m) s w).toNatClampNeg = nI j := by rw [← h.2.2.1]; exact hv2 j hj
      rw [ew]
      have q2 := q v2 hf2
      refine ⟨k2, fun _ => ⟨fun e => ⟨k2, ?_⟩, fun e => ?_⟩, fun e => absurd e (nI_ne (by omega))⟩
      · rw [if_neg e] at q2; exact q2
      · rw [if_pos e] at q2; exact q2
    · rintro f i ⟨x3, x4, v2⟩ hi ⟨e3, e4, hf2, hv2, hz⟩ ih
      dsimp only at e3 e4 hf2 hv2 hz ih ⊢
      subst e3; subst e4
      rw [w_M_roundOf_l27]
      obtain ⟨k1, k2⟩ := hidx i
      have ew : v2.2 14 (itN (NXf b n d m) s i).toNatClampNeg = -1 := hz _ k1 (fun l hl e => h.2.2.2 i l hl hi (inj l i e.symm))
      rw [ew]
      refine ⟨k2, fun e => absurd rfl e, fun _ => ⟨k2, ?_⟩⟩
      have hf3 : Fr [] [14] u (sA v2 14 (itN (NXf b n d m) s i).toNatClampNeg (nI i)) := Fr.sA (by decide) hf2
      refine p_next (hh.keep hf3 (by decide)) (h8 i) ?_
      refine ih (NXf b n d m (itN (NXf b n d m) s i), nI i + 1, _) ⟨rfl, nI_1 i, hf3, fun k hk => ?_, fun k hk hl => ?_⟩
      · dsimp only
        simp only [sA_2, if_true, upd_ap]
        rcases Nat.lt_or_ge k i with q3 | q3
        · rw [if_neg (fun e => h.2.2.2 i k q3 hi (inj k i e))]
          exact hv2 k q3
        · rw [show k = i by omega, if_pos rfl]
      · dsimp only
        simp only [sA_2, if_true, upd_ap]
        rw [if_neg (hl i (by omega))]
        exact hz k hk (fun l hl2 => hl l (by omega))
  · rintro f i ⟨x, v⟩ hi ⟨e, hf, hv⟩ ih
    dsimp only at e hf hv ih ⊢
    subst e
    rw [w_M_roundOf_l2, nI_clamp (by omega)]
    refine ⟨fun e => absurd ((nI_leI (a := 256) (by omega) (by omega)).mp e) (by omega), fun _ => ⟨vp_in_nI hi (by omega), ?_⟩⟩
    refine ih (nI i + 1, _) ⟨nI_1 i, Fr.sA (by decide) hf, fun k hk => ?_⟩
    dsimp only
    simp only [sA_2, if_true, upd_ap]
    split
    · rfl
    · exact hv k (by omega)
end
