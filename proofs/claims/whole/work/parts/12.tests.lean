/-! the tests of arguments, both sides -/
def TH (x : Int32) : Prop := 0 ≤ x ∧ x ≤ 7
def T2 (x : Int32) : Prop := x = 0 ∨ x = 1
def WK (x : Int32) : Prop := 0 ≤ x ∧ x ≤ 29
def SP (x : Int32) : Prop := 1 ≤ x ∧ x ≤ 9
def CH (x : Int32) : Prop := 0 ≤ x ∧ x ≤ 16
def SH (x : Int32) : Prop := 0 ≤ x ∧ x ≤ 3
def FO (x : Int32) : Prop := 0 ≤ x ∧ x ≤ 2
section
variable {x : Int32} {Q : Int32 → Prop}
theorem p_isThing (ht : TH x → Q 1) (hf : ¬ TH x → Q 0) : w_X_isThing x Q := by
  unfold w_X_isThing; simp only [TH, Int32.le_iff_toInt_le, Int32.lt_iff_toInt_lt] at *; grind
theorem p_isEither (ht : T2 x → Q 1) (hf : ¬ T2 x → Q 0) : w_X_isEither x Q := by
  unfold w_X_isEither w_X_isEither_b9; grind [T2]
theorem p_isWeek (ht : WK x → Q 1) (hf : ¬ WK x → Q 0) : w_X_isWeek x Q := by
  unfold w_X_isWeek; simp only [WK, Int32.le_iff_toInt_le, Int32.lt_iff_toInt_lt] at *; grind
theorem p_isSpan (ht : SP x → Q 1) (hf : ¬ SP x → Q 0) : w_X_isSpan x Q := by
  unfold w_X_isSpan; simp only [SP, Int32.le_iff_toInt_le, Int32.lt_iff_toInt_lt] at *; grind
theorem p_isChance (ht : CH x → Q 1) (hf : ¬ CH x → Q 0) : w_X_isChance x Q := by
  unfold w_X_isChance; simp only [CH, Int32.le_iff_toInt_le, Int32.lt_iff_toInt_lt] at *; grind
theorem p_isSheet (ht : SH x → Q 1) (hf : ¬ SH x → Q 0) : w_X_isSheet x Q := by
  unfold w_X_isSheet; simp only [SH, Int32.le_iff_toInt_le, Int32.lt_iff_toInt_lt] at *; grind
theorem p_isForm (ht : FO x → Q 1) (hf : ¬ FO x → Q 0) : w_X_isForm x Q := by
  unfold w_X_isForm; simp only [FO, Int32.le_iff_toInt_le, Int32.lt_iff_toInt_lt] at *; grind
theorem lg_lt (x y : Int64) : lg_cmp x y < 0 ↔ x < y := by
  unfold lg_cmp
  split
  · rename_i h; constructor
    · intro c; exact absurd c (by decide)
    · intro c; simp only [gt_iff_lt, Int64.lt_iff_toInt_lt] at *; omega
  · split
    · rename_i h g; subst g; constructor
      · intro c; exact absurd c (by decide)
      · intro c; simp only [gt_iff_lt, Int64.lt_iff_toInt_lt] at *; omega
    · rename_i h g; constructor
      · intro _; simp only [gt_iff_lt, Int64.lt_iff_toInt_lt, ← Int64.toInt_inj] at *; omega
      · intro _; decide
theorem lg_gt (x y : Int64) : 0 < lg_cmp x y ↔ y < x := by
  unfold lg_cmp
  split
  · rename_i h; exact ⟨fun _ => h, fun _ => by decide⟩
  · split
    · rename_i h g; exact ⟨fun c => absurd c (by decide), fun c => absurd c h⟩
    · rename_i h g; exact ⟨fun c => absurd c (by decide), fun c => absurd c h⟩
theorem lg_eq (x y : Int64) : lg_cmp x y = 0 ↔ x = y := by
  unfold lg_cmp
  split
  · rename_i h; exact ⟨fun c => absurd c (by decide), fun c => by subst c; simp only [gt_iff_lt, Int64.lt_iff_toInt_lt] at h; omega⟩
  · split
    · rename_i h g; exact ⟨fun _ => g, fun _ => rfl⟩
    · rename_i h g; exact ⟨fun c => absurd c (by decide), fun c => absurd c g⟩
theorem p_in {v lo hi : Int64} (ht : lo ≤ v ∧ v ≤ hi → Q 1) (hf : ¬ (lo ≤ v ∧ v ≤ hi) → Q 0) : w_M_in v lo hi Q := by
  unfold w_M_in
  simp only [lg_lt, lg_gt, Int64.le_iff_toInt_le, Int64.lt_iff_toInt_lt] at *
  grind
theorem p_M_in {lo hi : Int32} {l h : Int64} (el : l = lo.toInt64) (eh : h = hi.toInt64) (ht : lo ≤ x ∧ x ≤ hi → Q 1) (hf : ¬ (lo ≤ x ∧ x ≤ hi) → Q 0) : w_M_in x.toInt64 l h Q := by
  subst el; subst eh
  refine p_in (fun c => ht ?_) (fun c => hf ?_)
  · exact ⟨(fa_wide_le _ _).mp c.1, (fa_wide_le _ _).mp c.2⟩
  · exact fun d => c ⟨(fa_wide_le _ _).mpr d.1, (fa_wide_le _ _).mpr d.2⟩
theorem p_isTwo (ht : T2 x → Q 1) (hf : ¬ T2 x → Q 0) : w_M_isTwo x Q := by
  unfold w_M_isTwo
  refine p_M_in (lo := 0) (hi := 1) rfl rfl (fun c => ⟨bz_1, ht ?_⟩) (fun c => ⟨bz_0, hf ?_⟩)
  · unfold T2; simp only [Int32.le_iff_toInt_le, ← Int32.toInt_inj] at *; have : (0 : Int32).toInt = 0 := rfl; have : (1 : Int32).toInt = 1 := rfl; omega
  · unfold T2; simp only [Int32.le_iff_toInt_le, ← Int32.toInt_inj] at *; have : (0 : Int32).toInt = 0 := rfl; have : (1 : Int32).toInt = 1 := rfl; omega
theorem p_M_isSheet (ht : SH x → Q 1) (hf : ¬ SH x → Q 0) : w_M_isSheet x Q := by
  unfold w_M_isSheet
  exact p_M_in (lo := 0) (hi := 3) rfl rfl (fun c => ⟨bz_1, ht c⟩) (fun c => ⟨bz_0, hf c⟩)
theorem p_isSet (ht : B8 x → Q 1) (hf : ¬ B8 x → Q 0) : w_M_isSet x Q := by
  unfold w_M_isSet
  exact p_M_in (lo := 0) (hi := 255) rfl rfl (fun c => ⟨bz_1, ht c⟩) (fun c => ⟨bz_0, hf c⟩)
theorem p_M_isThing (ht : TH x → Q 1) (hf : ¬ TH x → Q 0) : w_M_isThing x Q := by
  unfold w_M_isThing
  exact p_M_in (lo := 0) (hi := 7) rfl rfl (fun c => ⟨bz_1, ht c⟩) (fun c => ⟨bz_0, hf c⟩)
/-- the machine's count of bits -/
def bcf (x0 : Int32) : Int32 :=
  let y1 := ((x0.toUInt32 >>> ((1 : Int32).toUInt32 &&& Int32.toUInt32 31)).toInt32 &&& 1431655765)
  let a := x0 - y1
  let b := ((a &&& 858993459) + ((a.toUInt32 >>> ((2 : Int32).toUInt32 &&& Int32.toUInt32 31)).toInt32 &&& 858993459))
  let c := ((b + (b.toUInt32 >>> ((4 : Int32).toUInt32 &&& Int32.toUInt32 31)).toInt32) &&& 252645135)
  let d := (c + (c.toUInt32 >>> ((8 : Int32).toUInt32 &&& Int32.toUInt32 31)).toInt32)
  let e := (d + (d.toUInt32 >>> ((16 : Int32).toUInt32 &&& Int32.toUInt32 31)).toInt32)
  e &&& 63
theorem p_bitCount (k : Q (bcf x)) : w_I_bitCount x Q := by
  unfold w_I_bitCount
  intros
  subst_vars
  exact k
def onf : Nat → Int32 → Int32 → Option Int32
  | 0, _, _ => none
  | n + 1, a, l => if l = 0 then some a else onf n (a + 1) (l &&& (l - 1))
theorem onf_run {X Q : Int32 → Prop} : ∀ (n : Nat) (a l r : Int32), onf n a l = some r → X r → w_M_ones_l4 X Q n a l := by
  intro n
  induction n with
  | zero => intro a l r h; simp [onf] at h
  | succ n ih =>
    intro a l r h hx
    rw [w_M_ones_l4]
    unfold onf at h
    split at h
    · rename_i hl
      cases h
      exact ⟨fun _ => hx, fun c => absurd hl c⟩
    · rename_i hl
      exact ⟨fun c => absurd c hl, fun _ => ih _ _ _ h hx⟩
theorem onf_256 : ∀ j, j < 256 → onf 10 0 (nI j) = some (bcf (nI j)) := by decide +kernel
theorem p_ones (h : B8 x) (k : Q (bcf x)) : w_M_ones x Q := by
  obtain ⟨j, hj, rfl⟩ := B8_nI h
  exact ⟨10, onf_run 10 0 (nI j) _ (onf_256 j hj) k⟩
theorem p_told {a : Int32} (h : B8 a ∨ a = -1) (k : Q (if a = -1 ∨ x = 1 then a else bcf a)) : w_M_told a x Q := by
  unfold w_M_told w_M_told_b10
  refine ⟨fun c => ?_, fun c => ⟨fun d => ?_, fun d => ?_⟩⟩
  · rw [if_pos (Or.inl c)] at k; exact k
  · rw [if_neg (fun e => e.elim c d)] at k
    exact p_ones (h.resolve_right c) k
  · rw [if_pos (Or.inr d)] at k; exact k
theorem p_numberOrBits {a : Int32} (k : Q (if a = -1 ∨ x = 1 then a else bcf a)) : w_X_numberOrBits a x Q := by
  unfold w_X_numberOrBits w_X_numberOrBits_b10
  refine ⟨fun c => ?_, fun c => ⟨fun d => ?_, fun d => ?_⟩⟩
  · rw [if_pos (Or.inl c)] at k; exact k
  · rw [if_neg (fun e => e.elim c d)] at k
    exact p_bitCount k
  · rw [if_pos (Or.inr d)] at k; exact k
theorem p_isIn {a b : Int32} (ht : ((a >>> (b &&& 31)) &&& 1) = 1 → Q 1) (hf : ¬ ((a >>> (b &&& 31)) &&& 1) = 1 → Q 0) : w_M_isIn a b Q := ⟨hf, ht⟩
end
