/-! moved, cat, let, lot -/
section
variable {u : Mem} {b d : Nat → Int32} {n m : Nat}
def moN (cm : Int32 → Int32) (f x : Int32) : Nat → Int32
  | 0 => 0
  | k + 1 => if cm (f ^^^ bit1 (nI k)) = x then moN cm f x k ||| bit1 (nI k) else moN cm f x k
theorem pX_moved {f x : Int32} {Q : Int32 → Mem → Prop} (hh : HouseX u b n d m) (hf0 : u.1 11 = f) (hf : B8 f) (q : Q (moN (CMf b n) f x 8) u) : ∃ g, w_X_moved_l20 (fun z9 => Q z9 u) x u Q g 0 0 := by
  refine exfor (fun g (a : Int32 × Int32) => w_X_moved_l20 (fun z9 => Q z9 u) x u Q g a.1 a.2) (fun i => (moN (CMf b n) f x i, nI i)) 8 (fun g => ?_) (fun g i hi ih => ?_)
  · dsimp only
    rw [w_X_moved_l20]
    exact ⟨fun _ => q, fun e => absurd ((nI_leI (a := 8) (by omega) (by omega)).mpr (by omega)) e⟩
  · dsimp only at ih ⊢
    rw [w_X_moved_l20]
    unfold w_K_firstSet
    rw [hf0, nI_1]
    rw [moN] at ih
    refine ⟨fun e => absurd ((nI_leI (a := 8) (by omega) (by omega)).mp e) (by omega), fun _ => p_comesBy hh (B8_xb hf hi) ⟨fun e => ?_, fun e => ?_⟩⟩
    · rw [if_neg e] at ih; exact ih
    · rw [if_pos e] at ih; exact ih
theorem pM_movedOf {f x : Int32} {Q : Int32 → Prop} (hh : HouseM u b n d m) (hf0 : u.1 4 = f) (hf : B8 f) (q : Q (moN (CMf b n) f x 8)) : w_M_movedOf x u Q := by
  refine exfor (fun g (a : Int32 × Int32) => w_M_movedOf_l4 (fun z1 => Q z1) x u Q g a.1 a.2) (fun i => (moN (CMf b n) f x i, nI i)) 8 (fun g => ?_) (fun g i hi ih => ?_)
  · dsimp only
    rw [w_M_movedOf_l4]
    exact ⟨fun _ => q, fun e => absurd ((nI_leI (a := 8) (by omega) (by omega)).mpr (by omega)) e⟩
  · dsimp only at ih ⊢
    rw [w_M_movedOf_l4]
    unfold w_M_movedOf_b35
    obtain ⟨k1, k2⟩ := come_at hh (B8_xb (i := i) hf hi)
    have k2' : u.2 8 (f ^^^ ((1 : Int32) <<< (nI i &&& 31))).toNatClampNeg = CMf b n (f ^^^ bit1 (nI i)) := k2
    rw [hf0, k2', nI_1, or0]
    rw [moN] at ih
    refine ⟨fun e => absurd ((nI_leI (a := 8) (by omega) (by omega)).mp e) (by omega), fun _ => ⟨k1, fun e => ?_, fun e => ?_⟩⟩
    · rw [if_neg e] at ih; exact ih
    · rw [if_pos e] at ih; exact ih
def caN (cm : Int32 → Int32) (f t : Int32) (c : Nat) : Nat → Nat
  | 0 => if (cm f &&& bit1 t) = 0 then 0 else 8 * (16 - c)
  | k + 1 => if (cm (f ^^^ bit1 (nI k)) &&& bit1 t) = 0 then caN cm f t c k else caN cm f t c k + c
theorem caN_le {cm : Int32 → Int32} {f t : Int32} {c : Nat} : ∀ k, caN cm f t c k ≤ 8 * (16 - c) + k * c
  | 0 => by unfold caN; split <;> omega
  | k + 1 => by
    have := caN_le (cm := cm) (f := f) (t := t) (c := c) k
    have e : (k + 1) * c = k * c + c := Nat.succ_mul k c
    rw [caN]; split <;> omega
theorem caN_0 {cm : Int32 → Int32} {f t : Int32} : ∀ k, caN cm f t 0 k = if (cm f &&& bit1 t) = 0 then 0 else 128
  | 0 => rfl
  | k + 1 => by
    rw [caN, caN_0 k]; split <;> rfl
theorem pX_cat {f t : Int32} {c : Nat} {Q : Int32 → Prop} (hc : c ≤ 16) (hh : HouseX u b n d m) (hf : B8 f) (q : Q (nI (caN (CMf b n) f t c 8))) : w_C_withCat f (bit1 t) (nI c) u Q := by
  have fin : ∀ x4, x4 = nI (caN (CMf b n) f t c 0) → w_C_withCat_b25 f (bit1 t) (nI c) x4 u Q := by
    rintro _ rfl
    refine exfor (fun g (a : Int32 × Int32) => w_C_withCat_l28 (fun z5 => Q z5) f (bit1 t) (nI c) u Q g a.1 a.2) (fun i => (nI (caN (CMf b n) f t c i), nI i)) 8 (fun g => ?_) (fun g i hi ih => ?_)
    · dsimp only
      rw [w_C_withCat_l28]
      exact ⟨fun _ => q, fun e => absurd ((nI_leI (a := 8) (by omega) (by omega)).mpr (by omega)) e⟩
    · dsimp only at ih ⊢
      rw [w_C_withCat_l28, nI_1, nI_add]
      rw [caN] at ih
      refine ⟨fun e => absurd ((nI_leI (a := 8) (by omega) (by omega)).mp e) (by omega), fun _ => p_comesBy hh (B8_xb hf hi) ⟨fun e => ?_, fun e => ?_⟩⟩
      · rw [if_pos e] at ih; exact ih
      · rw [if_neg e] at ih; exact ih
  unfold w_C_withCat
  refine p_comesBy hh hf ⟨fun e => fin _ ?_, fun e => fin _ ?_⟩
  · rw [caN, if_pos e]; rfl
  · rw [caN, if_neg e, Int32.zero_add, show (16 : Int32) = nI 16 from rfl, pk_sub hc, show (8 : Int32) = nI 8 from rfl, pk_mul, Nat.mul_comm]
theorem pM_catBy {f t : Int32} {c : Nat} {Q : Int32 → Prop} (hc : c ≤ 16) (ht : TH t) (hh : HouseM u b n d m) (hf0 : u.1 4 = f) (hf : B8 f) (q : Q (nI (caN (CMf b n) f t c 8))) : w_M_catBy (nI c) t u Q := by
  have fin : ∀ x4, x4 = nI (caN (CMf b n) f t c 0) → w_M_catBy_b27 (nI c) t x4 u Q := by
    rintro _ rfl
    refine exfor (fun g (a : Int32 × Int32) => w_M_catBy_l31 (fun z5 => Q z5) (nI c) t u Q g a.1 a.2) (fun i => (nI (caN (CMf b n) f t c i), nI i)) 8 (fun g => ?_) (fun g i hi ih => ?_)
    · dsimp only
      rw [w_M_catBy_l31]
      exact ⟨fun _ => q, fun e => absurd ((nI_leI (a := 8) (by omega) (by omega)).mpr (by omega)) e⟩
    · dsimp only at ih ⊢
      rw [w_M_catBy_l31]
      unfold w_M_catBy_b65
      obtain ⟨k1, k2⟩ := come_at hh (B8_xb (i := i) hf hi)
      have k2' : u.2 8 (f ^^^ ((1 : Int32) <<< (nI i &&& 31))).toNatClampNeg = CMf b n (f ^^^ bit1 (nI i)) := k2
      rw [hf0, k2', nI_1, nI_add, Int32.add_zero]
      rw [caN] at ih
      refine ⟨fun e => absurd ((nI_leI (a := 8) (by omega) (by omega)).mp e) (by omega), fun _ => ⟨k1, p_isIn (fun e => ⟨fun x => absurd x (by decide), fun _ => ?_⟩) (fun e => ⟨fun _ => ?_, fun x => absurd rfl x⟩)⟩⟩
      · rw [isin (B8_CM b n _) ht] at e; rw [if_neg e] at ih; exact ih
      · rw [isin (B8_CM b n _) ht, Classical.not_not] at e; rw [if_pos e] at ih; exact ih
  unfold w_M_catBy
  obtain ⟨k1, k2⟩ := come_at hh hf
  rw [hf0, k2]
  refine ⟨k1, p_isIn (fun e => ⟨fun x => absurd x (by decide), fun _ => fin _ ?_⟩) (fun e => ⟨fun _ => fin _ ?_, fun x => absurd rfl x⟩)⟩
  · rw [isin (B8_CM b n _) ht] at e
    rw [caN, if_neg e, show (16 : Int32) = nI 16 from rfl, pk_sub hc, show (8 : Int32) = nI 8 from rfl, pk_mul]
  · rw [isin (B8_CM b n _) ht, Classical.not_not] at e
    rw [caN, if_pos e]; rfl
end
def loF : Nat → Int32 → Int32 → Int32 → Option Int32
  | 0, _, _, _ => none
  | n + 1, a, b, c => if 128 ≤ c then some a else if b = 0 then some a else loF n b (a - a / b * b) (c + 1)
theorem loF_run {X Q : Int32 → Prop} {x0 : Int32} : ∀ (n : Nat) (a b c r : Int32), loF n a b c = some r → X r → w_C_lowest_l8 X x0 Q n a b c := by
  intro n
  induction n with
  | zero => intro a b c r h; simp [loF] at h
  | succ n ih =>
    intro a b c r h hx
    rw [w_C_lowest_l8]
    unfold loF at h
    split at h
    · rename_i hl
      cases h
      exact ⟨fun _ => hx, fun c => absurd hl c⟩
    · rename_i hl
      split at h
      · rename_i hb
        cases h
        exact ⟨fun c => absurd c hl, fun _ => ⟨fun _ => hx, fun c => absurd hb c⟩⟩
      · rename_i hb
        exact ⟨fun c => absurd c hl, fun _ => ⟨fun c => absurd c hb, fun _ => ⟨hb, ih _ _ _ _ h hx⟩⟩⟩
def paF : Nat → Int64 → Int64 → Option Int64
  | 0, _, _ => none
  | n + 1, a, b => if b = 0 then some a else paF n b (a - a / b * b)
theorem paF_run {X Q : Int64 → Prop} {x0 x2 : Int64} {x4 : Int32} : ∀ (n : Nat) (a b r : Int64), paF n a b = some r → X r → w_M_part_l6 X x0 x2 x4 Q n a b := by
  intro n
  induction n with
  | zero => intro a b r h; simp [paF] at h
  | succ n ih =>
    intro a b r h hx
    rw [w_M_part_l6, lg_eq]
    unfold paF at h
    split at h
    · rename_i hb
      cases h
      exact ⟨fun _ => hx, fun c => absurd hb c⟩
    · rename_i hb
      exact ⟨fun c => absurd c hb, fun _ => ⟨hb, ih _ _ _ h hx⟩⟩
theorem loF_128 : ∀ v, v < 129 → loF 20 128 (nI v) 0 = some (nI (Nat.gcd 128 v)) := by decide +kernel
theorem paF_128 : ∀ v, v < 129 → paF 20 (nI v).toInt64 128 = some (nI (Nat.gcd 128 v)).toInt64 := by decide +kernel
theorem div_128 : ∀ v, v < 129 → (nI v).toInt64 / (nI (Nat.gcd 128 v)).toInt64 = (nI v / nI (Nat.gcd 128 v)).toInt64 ∧ (128 : Int64) / (nI (Nat.gcd 128 v)).toInt64 = (128 / nI (Nat.gcd 128 v)).toInt64 ∧ ¬ nI (Nat.gcd 128 v) = 0 ∧ ¬ (nI (Nat.gcd 128 v)).toInt64 = 0 := by decide +kernel
theorem p_lowest {x0 : Int32} {v : Nat} {Q : Int32 → Prop} (hv : v < 129) (q : Q (x0 / nI (Nat.gcd 128 v))) : w_C_lowest x0 (nI v) 128 Q := by
  refine ⟨20, loF_run 20 _ _ _ _ (loF_128 v hv) ?_⟩
  have := (div_128 v hv).2.2.1
  exact ⟨fun _ => ⟨this, q⟩, fun e => absurd e this⟩
theorem p_part {x : Int32} {v : Nat} {Q : Int64 → Prop} (hv : v < 129) (q : Q (if x = 0 then (nI v / nI (Nat.gcd 128 v)).toInt64 else (128 / nI (Nat.gcd 128 v)).toInt64)) : w_M_part (nI v).toInt64 128 x Q := by
  obtain ⟨h1, h2, -, h3⟩ := div_128 v hv
  refine ⟨20, paF_run 20 _ _ _ (paF_128 v hv) ⟨fun e => ⟨h3, ?_⟩, fun e => ⟨h3, ?_⟩⟩⟩
  · rw [if_neg e] at q; rw [h2]; exact q
  · rw [if_pos e] at q; rw [h1]; exact q
/-! the lot -/
abbrev lcg (x : Int32) : Int32 := (1103515245 * x) + 12345
abbrev lcs (x : Int32) : Int32 := (x.toUInt32 >>> ((16 : Int32).toUInt32 &&& Int32.toUInt32 31)).toInt32
abbrev lcr (x : Int32) : Int32 := lcs x - lcs x / 8 * 8
theorem nI_any (x : Int32) : x = nI x.toBitVec.toNat := by
  rw [← Int32.toBitVec_inj]
  simp [nI]
theorem lcr_TH (x : Int32) : TH (lcr x) := by
  have h := x.toBitVec.isLt
  have e : lcs x = nI (x.toBitVec.toNat / 2 ^ 16) := by
    unfold lcs
    conv => lhs; rw [nI_any x]
    exact pk_ushrN (by omega) 16 16 rfl
  unfold lcr
  rw [e, show (8 : Int32) = nI 8 from rfl, pk_rem (by omega) (by omega) (by omega)]
  exact TH_of (by omega)
def ltN (cm nx : Int32 → Int32) (t f sd : Int32) : Nat → Int32 × Int32 × Int32
  | 0 => (sd, f, 0)
  | k + 1 => (lcg (ltN cm nx t f sd k).1, nx ((ltN cm nx t f sd k).2.1 ^^^ bit1 (lcr (lcg (ltN cm nx t f sd k).1))), if t = -1 then (ltN cm nx t f sd k).2.2 else (ltN cm nx t f sd k).2.2 + ((cm ((ltN cm nx t f sd k).2.1 ^^^ bit1 (lcr (lcg (ltN cm nx t f sd k).1))) >>> (t &&& 31)) &&& 1))
theorem B8_lt {cm nx : Int32 → Int32} {t f sd : Int32} (hn : ∀ s, B8 (nx s)) (hf : B8 f) : ∀ k, B8 (ltN cm nx t f sd k).2.1
  | 0 => hf
  | k + 1 => hn _
theorem bit_01 (x : Int32) (h : ¬ (x &&& 1) = 1) : (x &&& 1) = 0 := by
  obtain ⟨j, hj, e⟩ := pk_andE x (m := 1) 1 rfl
  rw [e] at h ⊢
  rcases Nat.lt_or_ge j 1 with y | y
  · rw [show j = 0 by omega]; rfl
  · exact absurd (by rw [show j = 1 by omega]; rfl) h
section
variable {u : Mem} {b d : Nat → Int32} {n m : Nat}
theorem pX_lot {f sd t : Int32} {k : Nat} {Q : Int32 → Mem → Prop} (hk : k < 1000) (hh : HouseX u b n d m) (hf : B8 f) (q : Q (if t = -1 then (ltN (CMf b n) (NXf b n d m) t f sd k).2.1 else (ltN (CMf b n) (NXf b n d m) t f sd k).2.2) u) : ∃ g, w_X_lot_l49 (fun z10 z11 => (¬ t = -1 → Q z11 u) ∧ (t = -1 → Q z10 u)) (nI k) t u Q g f sd 0 0 := by
  have h8 := B8_lt (cm := CMf b n) (t := t) (sd := sd) (B8_NX b n d m) hf
  refine exfor (fun g (a : Int32 × Int32 × Int32 × Int32) => w_X_lot_l49 (fun z10 z11 => (¬ t = -1 → Q z11 u) ∧ (t = -1 → Q z10 u)) (nI k) t u Q g a.1 a.2.1 a.2.2.1 a.2.2.2) (fun i => ((ltN (CMf b n) (NXf b n d m) t f sd i).2.1, (ltN (CMf b n) (NXf b n d m) t f sd i).1, (ltN (CMf b n) (NXf b n d m) t f sd i).2.2, nI i)) k (fun g => ?_) (fun g i hi ih => ?_)
  · dsimp only
    rw [w_X_lot_l49]
    refine ⟨fun _ => ⟨fun e => ?_, fun e => ?_⟩, fun e => absurd ((nI_leI (by omega) (by omega)).mpr (by omega)) e⟩
    · rw [if_neg e] at q; exact q
    · rw [if_pos e] at q; exact q
  · dsimp only at ih ⊢
    rw [w_X_lot_l49]
    unfold w_X_lot_b102
    rw [ltN] at ih
    dsimp only at ih
    rw [nI_1]
    refine ⟨fun e => absurd ((nI_leI (by omega) (by omega)).mp e) (by omega), fun _ => ?_⟩
    rintro _ rfl
    have hb8 : B8 ((ltN (CMf b n) (NXf b n d m) t f sd i).2.1 ^^^ bit1 (lcr (lcg (ltN (CMf b n) (NXf b n d m) t f sd i).1))) := B8_xor (h8 i) (B8_bit (lcr_TH _))
    refine ⟨fun e => p_weekBehind hh hb8 ?_, fun e => p_comesBy hh hb8 (p_weekBehind hh hb8 ?_)⟩
    · rw [if_pos e] at ih; exact ih
    · rw [if_neg e] at ih; exact ih
theorem pM_lotOf {f sd t : Int32} {k : Nat} {Q : Int32 → Prop} (hk : k < 1000) (hh : HouseM u b n d m) (hf0 : u.1 4 = f) (hf : B8 f) (q : Q (if t = -1 then (ltN (CMf b n) (NXf b n d m) t f sd k).2.1 else (ltN (CMf b n) (NXf b n d m) t f sd k).2.2)) : w_M_lotOf sd (nI k) t u Q := by
  have h8 := B8_lt (cm := CMf b n) (t := t) (sd := sd) (B8_NX b n d m) hf
  unfold w_M_lotOf
  rw [hf0]
  refine exfor (fun g (a : Int32 × Int32 × Int32 × Int32) => w_M_lotOf_l15 (fun z7 z8 => (¬ t = -1 → Q z8) ∧ (t = -1 → Q z7)) (nI k) t u Q g a.1 a.2.1 a.2.2.1 a.2.2.2) (fun i => ((ltN (CMf b n) (NXf b n d m) t f sd i).1, (ltN (CMf b n) (NXf b n d m) t f sd i).2.1, (ltN (CMf b n) (NXf b n d m) t f sd i).2.2, nI i)) k (fun g => ?_) (fun g i hi ih => ?_)
  · dsimp only
    rw [w_M_lotOf_l15]
    refine ⟨fun _ => ⟨fun e => ?_, fun e => ?_⟩, fun e => absurd ((nI_leI (by omega) (by omega)).mpr (by omega)) e⟩
    · rw [if_neg e] at q; exact q
    · rw [if_pos e] at q; exact q
  · dsimp only at ih ⊢
    rw [w_M_lotOf_l15]
    unfold w_M_lotOf_b72 w_M_lotOf_b73
    rw [ltN] at ih
    dsimp only at ih
    rw [nI_1, Int32.add_zero]
    refine ⟨fun e => absurd ((nI_leI (by omega) (by omega)).mp e) (by omega), fun _ => ?_⟩
    rintro _ rfl
    have hb8 : B8 ((ltN (CMf b n) (NXf b n d m) t f sd i).2.1 ^^^ bit1 (lcr (lcg (ltN (CMf b n) (NXf b n d m) t f sd i).1))) := B8_xor (h8 i) (B8_bit (lcr_TH _))
    obtain ⟨k1, k2⟩ := come_at hh hb8
    refine ⟨fun e => p_next hh hb8 ?_, fun e => ⟨k1, ?_⟩⟩
    · rw [if_pos e] at ih; exact ih
    · rw [if_neg e] at ih
      rintro _ rfl
      change w_M_isIn (u.2 8 ((ltN (CMf b n) (NXf b n d m) t f sd i).2.1 ^^^ bit1 (lcr (lcg (ltN (CMf b n) (NXf b n d m) t f sd i).1))).toNatClampNeg) t _
      rw [k2]
      refine p_isIn (fun e => ⟨fun x => absurd x (by decide), fun _ => p_next hh hb8 ?_⟩) (fun e => ⟨fun _ => p_next hh hb8 ?_, fun x => absurd rfl x⟩)
      · rw [e] at ih; exact ih
      · rw [bit_01 _ e, Int32.add_zero] at ih; exact ih
end
