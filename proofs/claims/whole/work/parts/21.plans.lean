/-! plans: what is touched, what is swept -/
def itN (nx : Int32 → Int32) (s : Int32) : Nat → Int32
  | 0 => s
  | k + 1 => nx (itN nx s k)
theorem B8_it {nx : Int32 → Int32} {s : Int32} (hn : ∀ s, B8 (nx s)) (h : B8 s) : ∀ k, B8 (itN nx s k)
  | 0 => h
  | k + 1 => hn _
def bstN (P : Nat → Bool) : Nat → Int32
  | 0 => -1
  | k + 1 => if P k = true ∧ (bstN P k = -1 ∨ bcf (nI k) < bcf (bstN P k)) then nI k else bstN P k
theorem bst_in (P : Nat → Bool) : ∀ k, k ≤ 256 → B8 (bstN P k) ∨ bstN P k = -1
  | 0, _ => Or.inr rfl
  | k + 1, h => by
    unfold bstN
    split
    · exact Or.inl (B8_of (by omega))
    · exact bst_in P k (by omega)
theorem and_all {x r : Int32} : (r &&& x) = x ↔ (x &&& (r ^^^ (-1))) = 0 := by
  rw [← Int32.toBitVec_inj, ← Int32.toBitVec_inj]
  simp only [Int32.toBitVec_and, Int32.toBitVec_xor]
  rw [show (-1 : Int32).toBitVec = BitVec.allOnes 32 from rfl, show (0 : Int32).toBitVec = 0#32 from rfl, BitVec.xor_allOnes]
  constructor
  · intro h
    rw [← h]
    ext i hi
    simp
    intro h1 h2
    exact h1
  · intro h
    ext i hi
    have h1 := congrArg (fun v : BitVec 32 => v.getLsbD i) h
    simp [hi] at h1 ⊢
    intro h2
    exact h1 h2
theorem and_c (x y : Int32) : x &&& y = y &&& x := by
  rw [← Int32.toBitVec_inj]; simp [BitVec.and_comm]
theorem isin_bit : ∀ t, t < 8 → ∀ r, r < 256 → (((nI r >>> (nI t &&& 31)) &&& 1) = 1 ↔ ¬ (nI r &&& bit1 (nI t)) = 0) := by decide +kernel
theorem isin {r t : Int32} (hr : B8 r) (ht : TH t) : ((r >>> (t &&& 31)) &&& 1) = 1 ↔ ¬ (r &&& bit1 t) = 0 := by
  obtain ⟨i, hi, rfl⟩ := B8_nI hr
  obtain ⟨j, hj, rfl⟩ := TH_nI ht
  exact isin_bit j hj i hi
def tcP (cm nx : Int32 → Int32) (f : Int32) (k : Nat) (come no : Int32) (j : Nat) : Bool := decide ((come &&& (cm (itN nx (f ^^^ nI j) k) ^^^ (-1))) = 0 ∧ (no &&& cm (itN nx (f ^^^ nI j) k)) = 0)
def offB (cm nx : Int32 → Int32) (s t : Int32) (k : Nat) : Bool := decide (∀ j, j < k → (cm (itN nx s j) &&& bit1 t) = 0)
def swP (cm nx : Int32 → Int32) (f : Int32) (k : Nat) (t : Int32) (j : Nat) : Bool := decide ((nI j &&& (f ^^^ (-1))) = 0) && offB cm nx (f &&& (nI j ^^^ (-1))) t k
theorem p_isFewer {x y : Int32} {Q : Int32 → Prop} (ht : (y = -1 ∨ bcf x < bcf y) → Q 1) (hf : ¬ (y = -1 ∨ bcf x < bcf y) → Q 0) : w_P_isFewer x y Q := by
  unfold w_P_isFewer w_P_isFewer_b16
  refine ⟨fun c => ht (Or.inl c), fun c => p_bitCount (p_bitCount ⟨fun e => hf (fun g => g.elim c (fun g => ?_)), fun e => ht (Or.inr (Int32.not_le.mp e))⟩)⟩
  exact Int32.not_lt.mpr e g
section
variable {u : Mem} {b d : Nat → Int32} {n m : Nat}
theorem p_bigsIn {s : Int32} {k : Nat} {Q : Int32 → Prop} (hk : k < 100) (hh : HouseX u b n d m) (hs : B8 s) (q : Q (CMf b n (itN (NXf b n d m) s k))) : w_P_bigsIn s (nI (k + 1)) u Q := by
  have h8 := B8_it (nx := NXf b n d m) (B8_NX b n d m) hs
  refine exfor (fun f (t : Int32 × Int32) => w_P_bigsIn_l5 (fun z3 => w_H_comesBy z3 u (fun r4 => Q r4)) (nI (k + 1)) u Q f t.1 t.2) (fun i => (itN (NXf b n d m) s i, nI (i + 1))) k (fun f => ?_) (fun f i hi ih => ?_)
  · dsimp only
    rw [w_P_bigsIn_l5]
    exact ⟨fun _ => p_comesBy hh (h8 k) q, fun e => absurd ((nI_leI (by omega) (by omega)).mpr (Nat.le_refl _)) e⟩
  · dsimp only at ih ⊢
    rw [w_P_bigsIn_l5]
    refine ⟨fun e => absurd ((nI_leI (by omega) (by omega)).mp e) (by omega), fun _ => p_weekBehind hh (h8 i) ?_⟩
    rw [nI_1]; exact ih
theorem pX_touch {f k come no : Int32} {kk : Nat} {Q : Int32 → Prop} (hk : kk < 100) (ek : k = nI (kk + 1)) (hh : HouseX u b n d m) (hf : B8 f) (q : Q (bstN (tcP (CMf b n) (NXf b n d m) f kk come no) 256)) : w_P_fewestTouched f k come no u Q := by
  refine exfor (fun g (t : Int32 × Int32) => w_P_fewestTouched_l6 (fun z5 => Q z5) f k come no u Q g t.1 t.2) (fun i => (bstN (tcP (CMf b n) (NXf b n d m) f kk come no) i, nI i)) 256 (fun g => ?_) (fun g i hi ih => ?_)
  · dsimp only
    rw [w_P_fewestTouched_l6]
    exact ⟨fun _ => q, fun e => absurd ((nI_leI (a := 256) (by omega) (by omega)).mpr (Nat.le_refl _)) e⟩
  · dsimp only at ih ⊢
    rw [w_P_fewestTouched_l6, nI_1]
    unfold bstN at ih
    refine ⟨fun e => absurd ((nI_leI (a := 256) (by omega) (by omega)).mp e) (by omega), fun _ => p_isFewer (fun c => ⟨fun x => absurd x (by decide), fun _ => ?_⟩) (fun c => ⟨fun _ => ?_, fun x => absurd rfl x⟩)⟩
    · rw [ek]
      refine p_bigsIn hk hh (B8_xor hf (B8_of hi)) ⟨fun e => ?_, fun e => ⟨fun g => ?_, fun g => ?_⟩⟩
      · rw [and_all] at e
        rw [if_neg (fun x => by have := x.1; simp only [tcP, decide_eq_true_eq] at this; exact e this.1)] at ih
        rw [← ek]; exact ih
      · rw [and_c] at g
        rw [if_neg (fun x => by have := x.1; simp only [tcP, decide_eq_true_eq] at this; exact g this.2)] at ih
        rw [← ek]; exact ih
      · rw [and_all] at e
        rw [and_c] at g
        rw [if_pos ⟨by simp only [tcP, decide_eq_true_eq]; exact ⟨e, g⟩, c⟩] at ih
        rw [← ek]; exact ih
    · rw [if_neg (fun x => c x.2)] at ih
      exact ih
theorem off_no {cm nx : Int32 → Int32} {s t : Int32} {k i : Nat} (hi : i < k) (h : ¬ (cm (itN nx s i) &&& bit1 t) = 0) : offB cm nx s t k = false := by
  unfold offB
  rw [decide_eq_false_iff_not]
  exact fun g => h (g i hi)
theorem p_staysOff {s t : Int32} {k : Nat} {Q : Int32 → Prop} (hk : k < 100) (hh : HouseX u b n d m) (hs : B8 s) (q : Q (if offB (CMf b n) (NXf b n d m) s t k = true then 1 else 0)) : w_P_staysOff s (nI k) (bit1 t) u Q := by
  have h8 := B8_it (nx := NXf b n d m) (B8_NX b n d m) hs
  have main : ∀ r i, i + r = k → (∀ j, j < i → (CMf b n (itN (NXf b n d m) s j) &&& bit1 t) = 0) → w_P_staysOff_l6 (Q 1) (nI k) (bit1 t) u Q (r + 1) (itN (NXf b n d m) s i) (nI (i + 1)) := by
    intro r
    induction r with
    | zero =>
      intro i hi hj
      rw [w_P_staysOff_l6]
      refine ⟨fun _ => ?_, fun e => absurd ((nI_ltI (by omega) (by omega)).mpr (by omega)) e⟩
      rw [if_pos (by unfold offB; rw [decide_eq_true_eq]; intro j hjk; exact hj j (by omega))] at q
      exact q
    | succ r ih =>
      intro i hi hj
      rw [w_P_staysOff_l6]
      refine ⟨fun e => absurd ((nI_ltI (by omega) (by omega)).mp e) (by omega), fun _ => p_comesBy hh (h8 i) ⟨fun e => p_weekBehind hh (h8 i) ?_, fun e => ?_⟩⟩
      · rw [nI_1]
        refine ih (i + 1) (by omega) (fun j hj2 => ?_)
        rcases Nat.lt_or_ge j i with x | x
        · exact hj j x
        · rw [show j = i by omega]; exact e
      · rw [off_no (by omega) e, if_neg (by decide)] at q
        exact q
  exact ⟨k + 1, main k 0 (by omega) (fun j hj => absurd hj (Nat.not_lt_zero j))⟩
theorem pX_sweep {f t : Int32} {k : Nat} {Q : Int32 → Prop} (hk : k < 100) (hh : HouseX u b n d m) (hf : B8 f) (q : Q (bstN (swP (CMf b n) (NXf b n d m) f k t) 256)) : w_P_fewestSwept f (nI k) (bit1 t) u Q := by
  refine exfor (fun g (s : Int32 × Int32) => w_P_fewestSwept_l6 (fun z5 => Q z5) f (nI k) (bit1 t) u Q g s.1 s.2) (fun i => (bstN (swP (CMf b n) (NXf b n d m) f k t) i, nI i)) 256 (fun g => ?_) (fun g i hi ih => ?_)
  · dsimp only
    rw [w_P_fewestSwept_l6]
    exact ⟨fun _ => q, fun e => absurd ((nI_leI (a := 256) (by omega) (by omega)).mpr (Nat.le_refl _)) e⟩
  · dsimp only at ih ⊢
    rw [w_P_fewestSwept_l6]
    unfold w_P_fewestSwept_b28
    rw [nI_1]
    unfold bstN at ih
    refine ⟨fun e => absurd ((nI_leI (a := 256) (by omega) (by omega)).mp e) (by omega), fun _ => ⟨fun e => ⟨fun _ => ?_, fun x => absurd rfl x⟩, fun e => ⟨fun x => absurd x (by decide), fun _ => p_isFewer (fun c => ⟨fun x => absurd x (by decide), fun _ => p_staysOff hk hh (B8_and hf) ?_⟩) (fun c => ⟨fun _ => ?_, fun x => absurd rfl x⟩)⟩⟩⟩
    · rw [if_neg (fun x => by have := x.1; simp only [swP, Bool.and_eq_true, decide_eq_true_eq] at this; exact e this.1)] at ih
      exact ih
    · split
      · rename_i ho
        refine ⟨fun x => absurd x (by decide), fun _ => ?_⟩
        rw [if_pos ⟨by simp only [swP, Bool.and_eq_true, decide_eq_true_eq]; exact ⟨e, ho⟩, c⟩] at ih
        exact ih
      · rename_i ho
        refine ⟨fun _ => ?_, fun x => absurd rfl x⟩
        rw [if_neg (fun x => by have := x.1; simp only [swP, Bool.and_eq_true, decide_eq_true_eq] at this; exact ho this.2)] at ih
        exact ih
    · rw [if_neg (fun x => c x.2)] at ih
      exact ih
/-! the reference's -/
theorem p_next {s : Int32} {Q : Int32 → Prop} (hh : HouseM u b n d m) (hs : B8 s) (q : Q (NXf b n d m s)) : w_M_next s u Q := by
  obtain ⟨-, j, hj, ej, -, ek, kin⟩ := in256 hs
  unfold w_M_next
  rw [ek, (hh j hj).1, ← ej]
  obtain ⟨-, j2, hj2, ej2, -, ek2, kin2⟩ := in256 (B8_CM b n s)
  refine ⟨kin, kin2, ?_⟩
  rw [ek2, (hh j2 hj2).2, ← ej2]
  exact q
theorem come_at {s : Int32} (hh : HouseM u b n d m) (hs : B8 s) : vp_in s 256 ∧ u.2 8 s.toNatClampNeg = CMf b n s := by
  obtain ⟨-, j, hj, ej, -, ek, kin⟩ := in256 hs
  exact ⟨kin, by rw [ek, (hh j hj).1, ← ej]⟩
theorem laid_at {s : Int32} (hh : HouseM u b n d m) (hs : B8 s) : vp_in s 256 ∧ u.2 9 s.toNatClampNeg = LDf d m s := by
  obtain ⟨-, j, hj, ej, -, ek, kin⟩ := in256 hs
  exact ⟨kin, by rw [ek, (hh j hj).2, ← ej]⟩
theorem pM_comeIn {s : Int32} {k : Nat} {Q : Int32 → Prop} (hk : k < 100) (hh : HouseM u b n d m) (hs : B8 s) (q : Q (CMf b n (itN (NXf b n d m) s k))) : w_M_comeIn (nI (k + 1)) s u Q := by
  have h8 := B8_it (nx := NXf b n d m) (B8_NX b n d m) hs
  refine exfor (fun f (t : Int32 × Int32) => w_M_comeIn_l5 (fun z3 => vp_in z3 256 ∧ Q (u.2 8 z3.toNatClampNeg)) (nI (k + 1)) u Q f t.1 t.2) (fun i => (itN (NXf b n d m) s i, nI (i + 1))) k (fun f => ?_) (fun f i hi ih => ?_)
  · dsimp only
    rw [w_M_comeIn_l5]
    obtain ⟨k1, k2⟩ := come_at hh (h8 k)
    exact ⟨fun _ => ⟨k1, by rw [k2]; exact q⟩, fun e => absurd ((nI_leI (by omega) (by omega)).mpr (Nat.le_refl _)) e⟩
  · dsimp only at ih ⊢
    rw [w_M_comeIn_l5]
    refine ⟨fun e => absurd ((nI_leI (by omega) (by omega)).mp e) (by omega), fun _ => p_next hh (h8 i) ?_⟩
    rw [nI_1]; exact ih
theorem pM_touchOf {f come no : Int32} {k : Nat} {Q : Int32 → Prop} (hk : k < 100) (hh : HouseM u b n d m) (hf0 : u.1 4 = f) (hf : B8 f) (q : Q (bstN (tcP (CMf b n) (NXf b n d m) f k come no) 256)) : w_M_touchOf (nI (k + 1)) come no u Q := by
  refine exfor (fun g (t : Int32 × Int32) => w_M_touchOf_l6 (fun z5 => Q z5) (nI (k + 1)) come no u Q g t.1 t.2) (fun i => (bstN (tcP (CMf b n) (NXf b n d m) f k come no) i, nI i)) 256 (fun g => ?_) (fun g i hi ih => ?_)
  · dsimp only
    rw [w_M_touchOf_l6]
    exact ⟨fun _ => q, fun e => absurd ((nI_leI (a := 256) (by omega) (by omega)).mpr (Nat.le_refl _)) e⟩
  · dsimp only at ih ⊢
    rw [w_M_touchOf_l6, hf0]
    unfold w_M_touchOf_b48 w_M_touchOf_b49 w_M_touchOf_b80 w_M_touchOf_b75 w_M_touchOf_b82
    rw [nI_1 i]
    have hbi := bst_in (tcP (CMf b n) (NXf b n d m) f k come no) i (by omega)
    unfold bstN at ih
    refine ⟨fun e => absurd ((nI_leI (a := 256) (by omega) (by omega)).mp e) (by omega), fun _ => pM_comeIn hk hh (B8_xor hf (B8_of hi)) ⟨fun e => ⟨fun _ => ?_, fun x => absurd rfl x⟩, fun e => ⟨fun g => ⟨fun _ => ?_, fun x => absurd rfl x⟩, fun g => ⟨fun x => absurd x (by decide), fun _ => ⟨fun c => ?_, fun c => p_ones (B8_of hi) (p_ones (hbi.resolve_right c) ⟨fun x => ?_, fun x => ?_⟩)⟩⟩⟩⟩⟩
    · rw [if_neg (fun x => by have := x.1; simp only [tcP, decide_eq_true_eq] at this; exact e this.1)] at ih
      exact ih
    · rw [if_neg (fun x => by have := x.1; simp only [tcP, decide_eq_true_eq] at this; exact g this.2)] at ih
      exact ih
    · rw [if_pos ⟨by simp only [tcP, decide_eq_true_eq]; exact ⟨e, g⟩, Or.inl c⟩] at ih
      exact ih
    · rw [if_neg (fun y => y.2.elim c (fun y => Int32.not_lt.mpr x y))] at ih
      exact ih
    · rw [if_pos ⟨by simp only [tcP, decide_eq_true_eq]; exact ⟨e, g⟩, Or.inr (Int32.not_le.mp x)⟩] at ih
      exact ih
theorem off_succ {cm nx : Int32 → Int32} {s t : Int32} {i : Nat} : offB cm nx s t (i + 1) = true ↔ offB cm nx s t i = true ∧ (cm (itN nx s i) &&& bit1 t) = 0 := by
  unfold offB
  simp only [decide_eq_true_eq]
  constructor
  · intro h; exact ⟨fun j hj => h j (by omega), h i (by omega)⟩
  · rintro ⟨h1, h2⟩ j hj
    rcases Nat.lt_or_ge j i with x | x
    · exact h1 j x
    · rw [show j = i by omega]; exact h2
theorem pM_isOff {s t : Int32} {k : Nat} {Q : Int32 → Prop} (hk : k < 100) (hh : HouseM u b n d m) (hs : B8 s) (ht : TH t) (q : Q (if offB (CMf b n) (NXf b n d m) s t k = true then 1 else 0)) : w_M_isOff (nI k) t s u Q := by
  have h8 := B8_it (nx := NXf b n d m) (B8_NX b n d m) hs
  refine exfor (fun f (a : Int32 × Int32) => w_M_isOff_l6 (fun z5 => bz z5 ∧ Q z5) (nI k) t s u Q f a.1 a.2) (fun i => ((if offB (CMf b n) (NXf b n d m) s t i = true then 1 else 0), nI (i + 1))) k (fun f => ?_) (fun f i hi ih => ?_)
  · dsimp only
    rw [w_M_isOff_l6]
    refine ⟨fun _ => ⟨?_, q⟩, fun e => absurd ((nI_ltI (by omega) (by omega)).mpr (by omega)) e⟩
    split
    · exact bz_1
    · exact bz_0
  · dsimp only at ih ⊢
    rw [w_M_isOff_l6]
    unfold w_M_isOff_b35 w_M_isOff_b36
    rw [nI_1]
    refine ⟨fun e => absurd ((nI_ltI (by omega) (by omega)).mp e) (by omega), fun _ => ?_⟩
    split
    · rename_i ho
      refine ⟨fun x => absurd x (by decide), fun _ => pM_comeIn (by omega) hh hs (p_isIn (fun c => ⟨fun _ => ?_, fun x => absurd x (by decide)⟩) (fun c => ⟨fun x => absurd rfl x, fun _ => ?_⟩))⟩
      · rw [isin (B8_CM b n _) ht] at c
        rw [if_neg (fun x => c (off_succ.mp x).2)] at ih
        exact ih
      · rw [isin (B8_CM b n _) ht, Classical.not_not] at c
        rw [if_pos (off_succ.mpr ⟨ho, c⟩)] at ih
        exact ih
    · rename_i ho
      refine ⟨fun _ => ?_, fun x => absurd rfl x⟩
      rw [if_neg (fun x => ho (off_succ.mp x).1)] at ih
      exact ih
theorem pM_keepOffOf {f t : Int32} {k : Nat} {Q : Int32 → Prop} (hk : k < 100) (hh : HouseM u b n d m) (hf0 : u.1 4 = f) (hf : B8 f) (ht : TH t) (q : Q (bstN (swP (CMf b n) (NXf b n d m) f k t) 256)) : w_M_keepOffOf (nI k) t u Q := by
  refine exfor (fun g (a : Int32 × Int32) => w_M_keepOffOf_l5 (fun z5 => Q z5) (nI k) t u Q g a.1 a.2) (fun i => (bstN (swP (CMf b n) (NXf b n d m) f k t) i, nI i)) 256 (fun g => ?_) (fun g i hi ih => ?_)
  · dsimp only
    rw [w_M_keepOffOf_l5]
    exact ⟨fun _ => q, fun e => absurd ((nI_leI (a := 256) (by omega) (by omega)).mpr (Nat.le_refl _)) e⟩
  · dsimp only at ih ⊢
    rw [w_M_keepOffOf_l5, hf0]
    unfold w_M_keepOffOf_b46 w_M_keepOffOf_b42 w_M_keepOffOf_b47 w_M_keepOffOf_b77 w_M_keepOffOf_b78
    rw [nI_1 i, hf0]
    have hbi := bst_in (swP (CMf b n) (NXf b n d m) f k t) i (by omega)
    unfold bstN at ih
    have go : (nI i &&& (f ^^^ (-1))) = 0 → (bstN (swP (CMf b n) (NXf b n d m) f k t) i = -1 ∨ bcf (nI i) < bcf (bstN (swP (CMf b n) (NXf b n d m) f k t) i)) → w_M_isOff (nI k) t (f &&& (nI i ^^^ (-1))) u (fun r1 => ((r1 = 0 → w_M_keepOffOf_l5 (fun z5 => Q z5) (nI k) t u Q g (bstN (swP (CMf b n) (NXf b n d m) f k t) i) (nI (i + 1))) ∧ (¬ r1 = 0 → w_M_keepOffOf_l5 (fun z5 => Q z5) (nI k) t u Q g (nI i) (nI (i + 1))))) := fun e c => by
      refine pM_isOff hk hh (B8_and hf) ht ?_
      split
      · rename_i ho
        refine ⟨fun x => absurd x (by decide), fun _ => ?_⟩
        rw [if_pos ⟨by simp only [swP, Bool.and_eq_true, decide_eq_true_eq]; exact ⟨e, ho⟩, c⟩] at ih
        exact ih
      · rename_i ho
        refine ⟨fun _ => ?_, fun x => absurd rfl x⟩
        rw [if_neg (fun x => by have := x.1; simp only [swP, Bool.and_eq_true, decide_eq_true_eq] at this; exact ho this.2)] at ih
        exact ih
    refine ⟨fun e => absurd ((nI_leI (a := 256) (by omega) (by omega)).mp e) (by omega), fun _ => ⟨fun e => ⟨fun _ => ?_, fun x => absurd rfl x⟩, fun e => ⟨fun c => ⟨fun x => absurd x (by decide), fun _ => go e (Or.inl c)⟩, fun c => p_ones (B8_of hi) (p_ones (hbi.resolve_right c) ⟨fun x => ⟨fun _ => ?_, fun x => absurd rfl x⟩, fun x => ⟨fun x => absurd x (by decide), fun _ => go e (Or.inr (Int32.not_le.mp x))⟩⟩)⟩⟩⟩
    · rw [if_neg (fun x => by have := x.1; simp only [swP, Bool.and_eq_true, decide_eq_true_eq] at this; exact e this.1)] at ih
      exact ih
    · rw [if_neg (fun y => y.2.elim c (fun y => Int32.not_lt.mpr x y))] at ih
      exact ih
end
