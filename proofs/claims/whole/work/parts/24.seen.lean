/-! what was seen -/
def SeenX (u : Mem) (ss sb : Nat → Int32) (k : Nat) : Prop := u.1 13 = nI k ∧ ∀ i, i < k → u.2 15 i = ss i ∧ u.2 16 i = sb i
def SeenM (u : Mem) (ss sb : Nat → Int32) (k : Nat) : Prop := u.1 6 = nI k ∧ ∀ i, i < k → u.2 15 (2 * i) = ss i ∧ u.2 15 (2 * i + 1) = sb i
def stB (ss sb : Nat → Int32) (t s : Int32) (k : Nat) : Bool := decide (∀ i, i < k → ((((sb i >>> (t &&& 31)) &&& 1) = 1) ↔ ¬ (ss i &&& s) = 0))
theorem stB_s {ss sb : Nat → Int32} {t s : Int32} {k : Nat} : stB ss sb t s (k + 1) = true ↔ stB ss sb t s k = true ∧ ((((sb k >>> (t &&& 31)) &&& 1) = 1) ↔ ¬ (ss k &&& s) = 0) := by
  unfold stB
  simp only [decide_eq_true_eq]
  constructor
  · intro h; exact ⟨fun i hi => h i (by omega), h k (by omega)⟩
  · rintro ⟨h1, h2⟩ i hi
    rcases Nat.lt_or_ge i k with x | x
    · exact h1 i x
    · rw [show i = k by omega]; exact h2
theorem stB_no {ss sb : Nat → Int32} {t s : Int32} {i k : Nat} (hi : i < k) (h : ¬ ((((sb i >>> (t &&& 31)) &&& 1) = 1) ↔ ¬ (ss i &&& s) = 0)) : stB ss sb t s k = false := by
  unfold stB
  rw [decide_eq_false_iff_not]
  exact fun g => h (g i hi)
section
variable {u : Mem} {ss sb : Nat → Int32} {c : Nat}
theorem p_mayStand {s t : Int32} {Q : Int32 → Prop} (hc : c ≤ 8) (h : SeenX u ss sb c) (q : Q (bI (stB ss sb t s c))) : w_S_mayStand s t u Q := by
  have main : ∀ r i, i + r = c → stB ss sb t s i = true → w_S_mayStand_l2 (Q 1) s t u Q (r + 1) (nI i) := by
    intro r
    induction r with
    | zero =>
      intro i hi hj
      rw [w_S_mayStand_l2, h.1]
      refine ⟨fun _ => ?_, fun e => absurd ((nI_leI (by omega) (by omega)).mpr (by omega)) e⟩
      rw [show i = c by omega] at hj
      rw [hj] at q; exact q
    | succ r ih =>
      intro i hi hj
      rw [w_S_mayStand_l2, h.1]
      unfold w_S_mayStand_b35 w_S_mayStand_b55
      rw [nI_clamp (by omega), (h.2 i (by omega)).1, (h.2 i (by omega)).2, nI_1]
      refine ⟨fun e => absurd ((nI_leI (by omega) (by omega)).mp e) (by omega), fun _ => ⟨fun e => absurd ((nI_leI (a := 8) (by omega) (by omega)).mp e) (by omega), fun _ => ⟨vp_in_nI (by omega) (by omega), fun e1 => ⟨vp_in_nI (by omega) (by omega), fun e2 => ⟨fun _ => ?_, fun x => absurd rfl x⟩, fun e2 => ⟨fun x => absurd x (by decide), fun _ => ?_⟩⟩, fun e1 => ⟨vp_in_nI (by omega) (by omega), fun e2 => ⟨fun x => absurd x (by decide), fun _ => ?_⟩, fun e2 => ⟨fun _ => ?_, fun x => absurd rfl x⟩⟩⟩⟩⟩
      · exact ih (i + 1) (by omega) (stB_s.mpr ⟨hj, ⟨fun x => absurd x e1, fun x => absurd e2 x⟩⟩)
      · rw [stB_no (i := i) (by omega) (fun x => e1 (x.mpr e2))] at q; exact q
      · rw [stB_no (i := i) (by omega) (fun x => x.mp e1 e2)] at q; exact q
      · exact ih (i + 1) (by omega) (stB_s.mpr ⟨hj, ⟨fun _ => e2, fun _ => e1⟩⟩)
  exact ⟨c + 1, main c 0 (by omega) (by unfold stB; rw [decide_eq_true_eq]; intro i hi; exact absurd hi (Nat.not_lt_zero i))⟩
theorem pM_standsFor {s t : Int32} {Q : Int32 → Prop} (hc : c ≤ 8) (h : SeenM u ss sb c) (q : Q (bI (stB ss sb t s c))) : w_M_standsFor s t u Q := by
  have h0 : (1 : Int32) = bI (stB ss sb t s 0) := by
    unfold stB; rw [decide_eq_true (fun i hi => absurd hi (Nat.not_lt_zero i))]; rfl
  unfold w_M_standsFor
  suffices H : ∃ f, w_M_standsFor_l5 (fun z3 => bz z3 ∧ Q z3) s t u Q f (bI (stB ss sb t s 0)) (nI 0) by rw [← h0] at H; exact H
  refine exfor (fun f (a : Int32 × Int32) => w_M_standsFor_l5 (fun z3 => bz z3 ∧ Q z3) s t u Q f a.1 a.2) (fun i => (bI (stB ss sb t s i), nI i)) c (fun f => ?_) (fun f i hi ih => ?_)
  · dsimp only
    rw [w_M_standsFor_l5, h.1]
    exact ⟨fun _ => ⟨bI_bz _, q⟩, fun e => absurd ((nI_leI (by omega) (by omega)).mpr (by omega)) e⟩
  · dsimp only at ih ⊢
    rw [w_M_standsFor_l5, h.1]
    unfold w_M_standsFor_b59 w_M_standsFor_b37 w_M_standsFor_b60 w_M_standsFor_b59 w_M_standsFor_b60
    rw [e21k, e2k, nI_clamp (by omega), nI_clamp (by omega), (h.2 i hi).1, (h.2 i hi).2, nI_1, and_c s]
    refine ⟨fun e => absurd ((nI_leI (by omega) (by omega)).mp e) (by omega), fun _ => ⟨fun e => ?_, fun e => ⟨vp_in_nI (by omega) (by omega), fun e2 => ⟨vp_in_nI (by omega) (by omega), p_isIn (fun e1 => ⟨fun _ => ?_, fun x => absurd x (by decide)⟩) (fun e1 => ⟨fun x => absurd rfl x, fun _ => ?_⟩)⟩, fun e2 => ⟨vp_in_nI (by omega) (by omega), p_isIn (fun e1 => ⟨fun x => absurd rfl x, fun _ => ?_⟩) (fun e1 => ⟨fun _ => ?_, fun x => absurd x (by decide)⟩)⟩⟩⟩⟩
    · rw [bI_0] at e
      rw [show stB ss sb t s (i + 1) = false from by
        rw [← Bool.not_eq_true]; intro x; rw [stB_s, e] at x; exact absurd x.1 (by decide)] at ih
      exact ih
    · rw [stB_no (i := i) (by omega) (fun x => x.mp e1 e2)] at ih; exact ih
    · rw [bI_0, Bool.not_eq_false] at e
      rw [stB_s.mpr ⟨e, ⟨fun x => absurd x e1, fun x => absurd e2 x⟩⟩] at ih; exact ih
    · rw [bI_0, Bool.not_eq_false] at e
      rw [stB_s.mpr ⟨e, ⟨fun _ => e2, fun _ => e1⟩⟩] at ih; exact ih
    · rw [stB_no (i := i) (by omega) (fun x => e1 (x.mpr e2))] at ih; exact ih
theorem pX_howMany {t : Int32} {Q : Int32 → Prop} (hc : c ≤ 8) (h : SeenX u ss sb c) (q : Q (nI (fb_ct (fun s => stB ss sb t (nI s) c) 256))) : w_S_howManyStand t u Q := by
  refine exfor (fun f (a : Int32 × Int32) => w_S_howManyStand_l4 (fun z3 => Q z3) t u Q f a.1 a.2) (fun i => (nI (fb_ct (fun s => stB ss sb t (nI s) c) i), nI i)) 256 (fun f => ?_) (fun f i hi ih => ?_)
  · dsimp only
    rw [w_S_howManyStand_l4]
    exact ⟨fun _ => q, fun e => absurd ((nI_leI (a := 256) (by omega) (by omega)).mpr (by omega)) e⟩
  · dsimp only at ih ⊢
    rw [w_S_howManyStand_l4, nI_1 i, nI_1]
    rw [fb_ct_succ] at ih
    refine ⟨fun e => absurd ((nI_leI (a := 256) (by omega) (by omega)).mp e) (by omega), fun _ => p_mayStand hc h ⟨fun e => ?_, fun e => ?_⟩⟩
    · rw [bI_0] at e; rw [e] at ih; exact ih
    · rw [bI_0, Bool.not_eq_false] at e; rw [e] at ih; exact ih
theorem pX_fewest {t : Int32} {Q : Int32 → Prop} (hc : c ≤ 8) (h : SeenX u ss sb c) (q : Q (bstN (fun s => stB ss sb t (nI s) c) 256)) : w_S_fewestStand t u Q := by
  refine exfor (fun f (a : Int32 × Int32) => w_S_fewestStand_l4 (fun z7 => Q z7) t u Q f a.1 a.2) (fun i => (bstN (fun s => stB ss sb t (nI s) c) i, nI i)) 256 (fun f => ?_) (fun f i hi ih => ?_)
  · dsimp only
    rw [w_S_fewestStand_l4]
    exact ⟨fun _ => q, fun e => absurd ((nI_leI (a := 256) (by omega) (by omega)).mpr (by omega)) e⟩
  · dsimp only at ih ⊢
    rw [w_S_fewestStand_l4]
    unfold w_S_fewestStand_b27
    rw [nI_1 i]
    rw [bstN] at ih
    refine ⟨fun e => absurd ((nI_leI (a := 256) (by omega) (by omega)).mp e) (by omega), fun _ => ⟨fun e1 => p_mayStand hc h ⟨fun e => ?_, fun e => ?_⟩, fun e1 => p_bitCount (p_bitCount ⟨fun e2 => ?_, fun e2 => p_mayStand hc h ⟨fun e => ?_, fun e => ?_⟩⟩)⟩⟩
    · rw [bI_0] at e; rw [if_neg (fun x => by rw [e] at x; exact absurd x.1 (by decide))] at ih; exact ih
    · rw [bI_0, Bool.not_eq_false] at e; rw [if_pos ⟨e, Or.inl e1⟩] at ih; exact ih
    · rw [if_neg (fun x => x.2.elim e1 (Int32.not_lt.mpr e2))] at ih; exact ih
    · rw [bI_0] at e; rw [if_neg (fun x => by rw [e] at x; exact absurd x.1 (by decide))] at ih; exact ih
    · rw [bI_0, Bool.not_eq_false] at e; rw [if_pos ⟨e, Or.inr (Int32.not_le.mp e2)⟩] at ih; exact ih
theorem pM_standsOf {t x2 : Int32} {Q : Int32 → Prop} (hc : c ≤ 8) (h : SeenM u ss sb c) (q : Q (if x2 = 0 then nI (fb_ct (fun s => stB ss sb t (nI s) c) 256) else bstN (fun s => stB ss sb t (nI s) c) 256)) : w_M_standsOf t x2 u Q := by
  refine exfor (fun f (a : Int32 × Int32 × Int32) => w_M_standsOf_l8 (fun z7 z8 => (¬ x2 = 0 → Q z8) ∧ (x2 = 0 → Q z7)) t x2 u Q f a.1 a.2.1 a.2.2) (fun i => (nI (fb_ct (fun s => stB ss sb t (nI s) c) i), bstN (fun s => stB ss sb t (nI s) c) i, nI i)) 256 (fun f => ?_) (fun f i hi ih => ?_)
  · dsimp only
    rw [w_M_standsOf_l8]
    refine ⟨fun _ => ⟨fun e => ?_, fun e => ?_⟩, fun e => absurd ((nI_leI (a := 256) (by omega) (by omega)).mpr (by omega)) e⟩
    · rw [if_neg e] at q; exact q
    · rw [if_pos e] at q; exact q
  · dsimp only at ih ⊢
    rw [w_M_standsOf_l8]
    unfold w_M_standsOf_b48 w_M_standsOf_b55
    rw [nI_1 i, nI_1]
    rw [fb_ct_succ, bstN] at ih
    have hb := bst_in (fun s => stB ss sb t (nI s) c) i (by omega)
    refine ⟨fun e => absurd ((nI_leI (a := 256) (by omega) (by omega)).mp e) (by omega), fun _ => pM_standsFor hc h ⟨fun e => ?_, fun e => ⟨fun e1 => ?_, fun e1 => p_ones (B8_of hi) (p_ones (hb.resolve_right e1) ⟨fun e2 => ?_, fun e2 => ?_⟩)⟩⟩⟩
    · rw [bI_0] at e; rw [e, if_neg (by decide : ¬ (false = true)), if_neg (fun x => absurd x.1 (by decide))] at ih; exact ih
    · rw [bI_0, Bool.not_eq_false] at e; rw [e, if_pos rfl, if_pos ⟨rfl, Or.inl e1⟩] at ih; exact ih
    · rw [bI_0, Bool.not_eq_false] at e; rw [e, if_pos rfl, if_neg (fun x => x.2.elim e1 (Int32.not_lt.mpr e2))] at ih; exact ih
    · rw [bI_0, Bool.not_eq_false] at e; rw [e, if_pos rfl, if_pos ⟨rfl, Or.inr (Int32.not_le.mp e2)⟩] at ih; exact ih
/-! which thing to watch -/
def wiN (ss sb : Nat → Int32) (t : Int32) (c i k : Nat) : Nat := fb_ct (fun s => decide (((nI s >>> (nI i &&& 31)) &&& 1) = 1) && stB ss sb t (nI s) c) k
def dfN (ss sb : Nat → Int32) (t : Int32) (c i : Nat) : Nat := if 2 * wiN ss sb t c i 256 ≤ fb_ct (fun s => stB ss sb t (nI s) c) 256 then fb_ct (fun s => stB ss sb t (nI s) c) 256 - 2 * wiN ss sb t c i 256 else 2 * wiN ss sb t c i 256 - fb_ct (fun s => stB ss sb t (nI s) c) 256
def nrN (D : Nat → Nat) : Nat → Int32 × Int32
  | 0 => (-1, 0)
  | i + 1 => if (nrN D i).1 = -1 ∨ nI (D i) < (nrN D i).2 then (nI i, nI (D i)) else nrN D i
theorem dfX {a k : Nat} (ha : a ≤ 1000) (hk : k ≤ 1000) : (if (0 : Int32) ≤ nI a - nI k then nI a - nI k else 0 - (nI a - nI k)) = nI (if a ≤ k then k - a else a - k) := by
  rcases Nat.lt_or_ge a k with x | x
  · rw [if_neg (Int32.not_le.mpr (pk_sneg (by omega) x)), if_pos (by omega), Int32.zero_sub, Int32.neg_sub, pk_sub (by omega)]
  · rw [pk_sub x, if_pos (nI_pos' (by omega))]
    split
    · rw [show a - k = k - a by omega]
    · rfl
theorem pX_with {t : Int32} {i : Nat} {Q : Int32 → Prop} (hc : c ≤ 8) (h : SeenX u ss sb c) (q : Q (nI (wiN ss sb t c i 256))) : w_S_howManyStandWith t (nI i) u Q := by
  refine exfor (fun f (a : Int32 × Int32) => w_S_howManyStandWith_l5 (fun z3 => Q z3) t (nI i) u Q f a.1 a.2) (fun k => (nI (wiN ss sb t c i k), nI k)) 256 (fun f => ?_) (fun f k hk ih => ?_)
  · dsimp only
    rw [w_S_howManyStandWith_l5]
    exact ⟨fun _ => q, fun e => absurd ((nI_leI (a := 256) (by omega) (by omega)).mpr (by omega)) e⟩
  · dsimp only at ih ⊢
    rw [w_S_howManyStandWith_l5, nI_1 k, nI_1]
    unfold wiN at ih ⊢
    rw [fb_ct_succ] at ih
    refine ⟨fun e => absurd ((nI_leI (a := 256) (by omega) (by omega)).mp e) (by omega), fun _ => ⟨fun e1 => ?_, fun e1 => p_mayStand hc h ⟨fun e => ?_, fun e => ?_⟩⟩⟩
    · rw [decide_eq_false e1] at ih; exact ih
    · rw [bI_0] at e; rw [decide_eq_true e1, e] at ih; exact ih
    · rw [bI_0, Bool.not_eq_false] at e; rw [decide_eq_true e1, e] at ih; exact ih
theorem pX_nearest {t : Int32} {Q : Int32 → Prop} (hc : c ≤ 8) (h : SeenX u ss sb c) (q : Q (if fb_ct (fun s => stB ss sb t (nI s) c) 256 = 0 then -1 else (nrN (dfN ss sb t c) 8).1)) : w_S_nearestHalf t u Q := by
  have hct := fb_ct_le (fun s => stB ss sb t (nI s) c) 256
  unfold w_S_nearestHalf
  refine pX_howMany hc h ⟨fun e => ?_, fun e => ?_⟩
  · rw [show (0 : Int32) = nI 0 from rfl, nI_eq (by omega) (by omega)] at e
    rw [if_neg e] at q
    refine exfor (fun f (a : Int32 × Int32 × Int32) => w_S_nearestHalf_l20 (fun z5 => Q z5) t (nI (fb_ct (fun s => stB ss sb t (nI s) c) 256)) u Q f a.1 a.2.1 a.2.2) (fun k => ((nrN (dfN ss sb t c) k).1, (nrN (dfN ss sb t c) k).2, nI k)) 8 (fun f => ?_) (fun f k hk ih => ?_)
    · dsimp only
      rw [w_S_nearestHalf_l20]
      exact ⟨fun _ => q, fun e => absurd ((nI_leI (a := 8) (by omega) (by omega)).mpr (by omega)) e⟩
    · dsimp only at ih ⊢
      rw [w_S_nearestHalf_l20]
      unfold w_S_nearestHalf_b55
      rw [nI_1 k]
      have hw : wiN ss sb t c k 256 ≤ 256 := fb_ct_le _ 256
      refine ⟨fun e => absurd ((nI_leI (a := 8) (by omega) (by omega)).mp e) (by omega), fun _ => pX_with hc h ?_⟩
      rw [e2k, dfX (by omega) (by omega)]
      change (_ → w_S_nearestHalf_l20 _ _ _ _ _ _ _ (nI (dfN ss sb t c k)) _) ∧ (_ → (_ ≤ nI (dfN ss sb t c k) → _) ∧ (¬ _ ≤ nI (dfN ss sb t c k) → w_S_nearestHalf_l20 _ _ _ _ _ _ _ (nI (dfN ss sb t c k)) _))
      rw [nrN] at ih
      refine ⟨fun e1 => ?_, fun e1 => ⟨fun e2 => ?_, fun e2 => ?_⟩⟩
      · rw [if_pos (Or.inl e1)] at ih; exact ih
      · rw [if_neg (fun x => x.elim e1 (fun x => Int32.not_lt.mpr e2 x))] at ih; exact ih
      · rw [if_pos (Or.inr (Int32.not_le.mp e2))] at ih; exact ih
  · rw [show (0 : Int32) = nI 0 from rfl, nI_eq (by omega) (by omega)] at e
    rw [if_pos e] at q; exact q
theorem pM_watchOf {t : Int32} {Q : Int32 → Prop} (hc : c ≤ 8) (h : SeenM u ss sb c) (q : Q (if fb_ct (fun s => stB ss sb t (nI s) c) 256 = 0 then -1 else (nrN (dfN ss sb t c) 8).1)) : w_M_watchOf t u Q := by
  have hct := fb_ct_le (fun s => stB ss sb t (nI s) c) 256
  unfold w_M_watchOf
  refine pM_standsOf hc h ?_
  rw [if_pos rfl]
  by_cases e : fb_ct (fun s => stB ss sb t (nI s) c) 256 = 0
  · rw [if_pos e] at q
    refine ⟨1, ?_⟩
    rw [w_M_watchOf_l15, e]
    exact ⟨fun e => absurd e (by decide), fun _ => ⟨fun _ => q, fun e => absurd (by decide) e⟩⟩
  · rw [if_neg e] at q
    refine exfor (fun f (a : Int32 × Int32 × Int32) => w_M_watchOf_l15 (fun z9 => Q z9) t (nI (fb_ct (fun s => stB ss sb t (nI s) c) 256)) u Q f a.1 a.2.1 a.2.2) (fun k => ((nrN (dfN ss sb t c) k).1, (nrN (dfN ss sb t c) k).2, nI k)) 8 (fun f => ?_) (fun f k hk ih => ?_)
    · dsimp only
      rw [w_M_watchOf_l15]
      exact ⟨fun _ => q, fun e => absurd ((nI_leI (a := 8) (by omega) (by omega)).mpr (by omega)) e⟩
    · dsimp only at ih ⊢
      rw [w_M_watchOf_l15]
      have hw : wiN ss sb t c k 256 ≤ 256 := fb_ct_le _ 256
      refine ⟨fun e => absurd ((nI_leI (a := 8) (by omega) (by omega)).mp e) (by omega), fun _ => ⟨fun e1 => absurd ((nI_leI (b := 0) (by omega) (by omega)).mp e1) (by omega), fun _ => ?_⟩⟩
      have fin : ∀ x, x = nI (dfN ss sb t c k) → w_M_watchOf_b99 (w_M_watchOf_l15 (fun z9 => Q z9) t (nI (fb_ct (fun s => stB ss sb t (nI s) c) 256)) u Q f) (fun z9 => Q z9) t (nI (fb_ct (fun s => stB ss sb t (nI s) c) 256)) (nrN (dfN ss sb t c) k).1 (nrN (dfN ss sb t c) k).2 (nI k) x u Q := by
        rintro _ rfl
        unfold w_M_watchOf_b99 w_M_watchOf_b113 w_M_watchOf_b118 w_M_watchOf_b131 w_M_watchOf_b144
        rw [nI_1 k]
        rw [nrN] at ih
        refine ⟨fun e1 => ⟨fun x => absurd x (by decide), fun _ => ⟨fun x => absurd x (by decide), fun _ => ?_⟩⟩, fun e1 => ⟨fun e2 => ⟨fun _ => ⟨fun _ => ?_, fun x => absurd rfl x⟩, fun x => absurd rfl x⟩, fun e2 => ⟨fun x => absurd x (by decide), fun _ => ⟨fun x => absurd x (by decide), fun _ => ?_⟩⟩⟩⟩
        · rw [if_pos (Or.inl e1)] at ih; exact ih
        · rw [if_neg (fun x => x.elim e1 (fun x => Int32.not_lt.mpr e2 x))] at ih; exact ih
        · rw [if_pos (Or.inr (Int32.not_le.mp e2))] at ih; exact ih
      refine exfor (fun g (a : Int32 × Int32) => w_M_watchOf_l32 (fun z7 => ((2 * z7) ≤ nI (fb_ct (fun s => stB ss sb t (nI s) c) 256) → w_M_watchOf_b99 (w_M_watchOf_l15 (fun z9 => Q z9) t (nI (fb_ct (fun s => stB ss sb t (nI s) c) 256)) u Q f) (fun z9 => Q z9) t (nI (fb_ct (fun s => stB ss sb t (nI s) c) 256)) (nrN (dfN ss sb t c) k).1 (nrN (dfN ss sb t c) k).2 (nI k) (nI (fb_ct (fun s => stB ss sb t (nI s) c) 256) - (2 * z7)) u Q) ∧ (¬ (2 * z7) ≤ nI (fb_ct (fun s => stB ss sb t (nI s) c) 256) → w_M_watchOf_b99 (w_M_watchOf_l15 (fun z9 => Q z9) t (nI (fb_ct (fun s => stB ss sb t (nI s) c) 256)) u Q f) (fun z9 => Q z9) t (nI (fb_ct (fun s => stB ss sb t (nI s) c) 256)) (nrN (dfN ss sb t c) k).1 (nrN (dfN ss sb t c) k).2 (nI k) ((2 * z7) - nI (fb_ct (fun s => stB ss sb t (nI s) c) 256)) u Q)) t (nI (fb_ct (fun s => stB ss sb t (nI s) c) 256)) (nrN (dfN ss sb t c) k).1 (nrN (dfN ss sb t c) k).2 (nI k) u Q g a.1 a.2) (fun j => (nI (wiN ss sb t c k j), nI j)) 256 (fun g => ?_) (fun g j hj ihj => ?_)
      · dsimp only
        rw [w_M_watchOf_l32]
        refine ⟨fun _ => ?_, fun e => absurd ((nI_leI (a := 256) (by omega) (by omega)).mpr (by omega)) e⟩
        rw [e2k, nI_leI (by omega) (by omega)]
        refine ⟨fun e1 => fin _ ?_, fun e1 => fin _ ?_⟩
        · unfold dfN; rw [if_pos e1, pk_sub e1]
        · unfold dfN; rw [if_neg e1, pk_sub (by omega)]
      · dsimp only at ihj ⊢
        rw [w_M_watchOf_l32]
        unfold w_M_watchOf_b66 w_M_watchOf_b67
        rw [nI_1 j, nI_1]
        unfold wiN at ihj ⊢
        rw [fb_ct_succ _ j] at ihj
        refine ⟨fun e => absurd ((nI_leI (a := 256) (by omega) (by omega)).mp e) (by omega), fun _ => p_isIn (fun e1 => ⟨fun x => absurd x (by decide), fun _ => pM_standsFor hc h ⟨fun e => ?_, fun e => ?_⟩⟩) (fun e1 => ⟨fun _ => ?_, fun x => absurd rfl x⟩)⟩
        · rw [bI_0] at e; rw [decide_eq_true e1, e] at ihj; rw [Int32.add_zero]; exact ihj
        · rw [bI_0, Bool.not_eq_false] at e; rw [decide_eq_true e1, e] at ihj; exact ihj
        · rw [decide_eq_false e1] at ihj; rw [Int32.add_zero]; exact ihj
end
