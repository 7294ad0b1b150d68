/-! the first that is so, of r from k on; else NONE -/
def fnd (p : Nat → Bool) (k : Nat) : Nat → Int32
  | 0 => -1
  | r + 1 => if p k = true then nI k else fnd p (k + 1) r
section
variable {u : Mem} {b d : Nat → Int32} {n m : Nat}
def jdP (b : Nat → Int32) (n : Nat) (g : Nat → Int32 × Int32) (w : Nat) : Bool := decide (¬ (HEf b n (g w).1 1 &&& HEf b n (g w).1 0) = 0)
theorem pX_judgedL {g : Nat → Int32 × Int32} {Q : Int32 → Mem → Prop} (hh : HouseX u b n d m) (hw : WksX u g 30) (h8 : ∀ w, B8 (g w).1) : ∀ r k, k + r = 30 → Q (fnd (jdP b n g) k r) u → w_X_judged_l17 (Q (-1) u) u Q (r + 1) (nI k) := by
  intro r
  induction r with
  | zero =>
    intro k hk q
    rw [w_X_judged_l17]
    exact ⟨fun _ => q, fun e => absurd ((nI_leI (a := 30) (by omega) (by omega)).mpr (by omega)) e⟩
  | succ r ih =>
    intro k hk q
    rw [w_X_judged_l17]
    refine ⟨fun e => absurd ((nI_leI (a := 30) (by omega) (by omega)).mp e) (by omega), fun _ => p_smallIn (by omega) ?_⟩
    rw [(hw k (by omega)).1]
    unfold fnd jdP at q
    refine p_disagreeBy hh (h8 k) ⟨fun e => ?_, fun e => ?_⟩
    · rw [if_neg (by simpa using e)] at q
      rw [nI_1]
      exact ih (k + 1) (by omega) q
    · rw [if_pos (by simpa using e)] at q
      exact q
theorem pM_judgedNow {g : Nat → Int32 × Int32} {Q : Int32 → Prop} (hl : LawsM u b n) (hw : WksM u g 30) (q : Q (fnd (jdP b n g) 0 30)) : w_M_judgedNow u Q := by
  have main : ∀ r k, k + r = 30 → Q (fnd (jdP b n g) k r) → w_M_judgedNow_l2 (Q (-1)) u Q (r + 1) (nI k) := by
    intro r
    induction r with
    | zero =>
      intro k hk q
      rw [w_M_judgedNow_l2]
      exact ⟨fun _ => q, fun e => absurd ((nI_leI (a := 30) (by omega) (by omega)).mpr (by omega)) e⟩
    | succ r ih =>
      intro k hk q
      have hin : vp_in (nI k) 30 := vp_in_nI (by omega) (by omega)
      rw [w_M_judgedNow_l2, nI_clamp (by omega), (hw k (by omega)).1]
      refine ⟨fun e => absurd ((nI_leI (a := 30) (by omega) (by omega)).mp e) (by omega), fun _ => ⟨hin, pM_heldBy hl ⟨hin, pM_heldBy hl ?_⟩⟩⟩
      unfold fnd jdP at q
      refine ⟨fun e => ?_, fun e => ?_⟩
      · rw [if_neg (by simpa using e)] at q
        rw [nI_1]
        exact ih (k + 1) (by omega) q
      · rw [if_pos (by simpa using e)] at q
        exact q
  exact ⟨31, main 30 0 (by omega) q⟩
/-! two -/
def stdN (sm pl bg : Nat → Int32) (t : Int32) : Nat → Int32
  | 0 => 0
  | k + 1 => if pl k = 1 ∧ ((sm k >>> (t &&& 31)) &&& 1) = 1 then stdN sm pl bg t k ||| bit1 (bg k) else stdN sm pl bg t k
def STf (b : Nat → Int32) (n : Nat) (t : Int32) : Int32 := stdN (smF b n) (plF b n) (bgF b n) t (cntL b n)
theorem B8_std {sm pl bg : Nat → Int32} {t : Int32} : ∀ {n : Nat}, (∀ k, k < n → TH (bg k)) → B8 (stdN sm pl bg t n)
  | 0, _ => B8_0
  | n + 1, h => by
    unfold stdN
    have ih := B8_std (sm := sm) (pl := pl) (t := t) (fun k hk => h k (Nat.lt_succ_of_lt hk))
    split
    · exact B8_or ih (B8_bit (h n (Nat.lt_succ_self n)))
    · exact ih
theorem p_standsFor {t : Int32} {Q : Int32 → Prop} (h : LawsX u b n) (q : Q (STf b n t)) : w_L_standsFor t u Q := by
  have hc := cntL_le b n
  refine exfor (fun f (s : Int32 × Int32) => w_L_standsFor_l4 (fun z9 => Q z9) t u Q f s.1 s.2) (fun k => (stdN (smF b n) (plF b n) (bgF b n) t k, nI k)) (cntL b n) (fun f => ?_) (fun f k hk ih => ?_)
  · dsimp only
    rw [w_L_standsFor_l4]
    unfold w_R_size_0
    rw [h.2.1]
    exact ⟨fun _ => q, fun c => absurd ((nI_leI (by omega) (by omega)).mpr (Nat.le_refl _)) c⟩
  · dsimp only at ih ⊢
    rw [w_L_standsFor_l4]
    unfold w_R_size_0
    rw [h.2.1]
    refine ⟨fun c => absurd ((nI_leI (by omega) (by omega)).mp c) (by omega), fun _ => ?_⟩
    obtain ⟨e1, e2, e3⟩ := h.2.2 k hk
    have hz := (law_ok hk).1
    refine p_isPlus (by omega) (by rw [e2]; exact hz) ?_
    rw [nI_1, e2]
    unfold stdN at ih
    refine ⟨fun c => ?_, fun c => p_L_smallOf (by omega) ?_⟩
    · rw [if_neg (by rw [c]; simp)] at ih; exact ih
    · rw [e1]
      refine ⟨fun g => ?_, fun g => p_L_bigOf (by omega) ?_⟩
      · rw [if_neg (fun x => g x.2)] at ih; exact ih
      · rw [if_pos ⟨hz.resolve_left c, g⟩] at ih
        rw [e3]; exact ih
def twP (b : Nat → Int32) (n : Nat) (t : Nat) : Bool := decide (1 < bcf (STf b n (nI t)))
theorem lt2 {x : Int32} : x < 2 ↔ ¬ 1 < x := by
  simp only [Int32.lt_iff_toInt_lt]
  have e1 : (1 : Int32).toInt = 1 := rfl
  have e2 : (2 : Int32).toInt = 2 := rfl
  omega
theorem le1 {x : Int32} : x ≤ 1 ↔ ¬ 1 < x := Int32.not_lt.symm
theorem pX_two {Q : Int32 → Prop} (h : LawsX u b n) (q : Q (fnd (twP b n) 0 8)) : w_X_two u Q := by
  have main : ∀ r k, k + r = 8 → Q (fnd (twP b n) k r) → w_X_two_l2 (Q (-1)) u Q (r + 1) (nI k) := by
    intro r
    induction r with
    | zero =>
      intro k hk q
      rw [w_X_two_l2]
      exact ⟨fun _ => q, fun e => absurd ((nI_leI (a := 8) (by omega) (by omega)).mpr (by omega)) e⟩
    | succ r ih =>
      intro k hk q
      rw [w_X_two_l2]
      unfold fnd twP at q
      refine ⟨fun e => absurd ((nI_leI (a := 8) (by omega) (by omega)).mp e) (by omega), fun _ => p_standsFor h (p_bitCount ⟨fun e => ?_, fun e => ?_⟩)⟩
      · rw [if_neg (by simpa using lt2.mp e)] at q
        rw [nI_1]; exact ih (k + 1) (by omega) q
      · rw [lt2, Classical.not_not] at e
        rw [if_pos (by simpa using e)] at q
        exact q
  exact ⟨9, main 8 0 (by omega) q⟩
theorem pM_twoNow {Q : Int32 → Prop} (h : LawsM u b n) (q : Q (fnd (twP b n) 0 8)) : w_M_twoNow u Q := by
  have hc := cntL_le b n
  have inner : ∀ (t : Int32) (X : Int32 → Prop), X (STf b n t) → ∃ f, w_M_twoNow_l12 X t u Q f 0 0 := by
    intro t X q
    refine exfor (fun f (s : Int32 × Int32) => w_M_twoNow_l12 X t u Q f s.1 s.2) (fun k => (stdN (smF b n) (plF b n) (bgF b n) t k, nI k)) (cntL b n) (fun f => ?_) (fun f k hk ih => ?_)
    · dsimp only
      rw [w_M_twoNow_l12, h.1]
      exact ⟨fun _ => q, fun c => absurd ((nI_leI (by omega) (by omega)).mpr (Nat.le_refl _)) c⟩
    · dsimp only at ih ⊢
      rw [w_M_twoNow_l12, h.1]
      obtain ⟨e1, e2, e3⟩ := h.2 k hk
      unfold w_M_twoNow_b65 w_M_twoNow_b66
      rw [e31k, e32k, e3k, nI_clamp (by omega), nI_clamp (by omega), nI_clamp (by omega), nI_1, e1, e2, e3, or0]
      unfold stdN at ih
      refine ⟨fun c => absurd ((nI_leI (by omega) (by omega)).mp c) (by omega), fun _ => ⟨vp_in_nI (by omega) (by omega), fun c => ?_, fun c => ⟨vp_in_nI (by omega) (by omega), p_isIn (fun g => ⟨fun x => absurd x (by decide), fun _ => ⟨vp_in_nI (by omega) (by omega), ?_⟩⟩) (fun g => ⟨fun _ => ?_, fun x => absurd rfl x⟩)⟩⟩⟩
      · rw [if_neg (fun x => c x.1)] at ih; exact ih
      · rw [if_pos ⟨c, g⟩] at ih; exact ih
      · rw [if_neg (fun x => g x.2)] at ih; exact ih
  have main : ∀ r k, k + r = 8 → Q (fnd (twP b n) k r) → w_M_twoNow_l2 (Q (-1)) u Q (r + 1) (nI k) := by
    intro r
    induction r with
    | zero =>
      intro k hk q
      rw [w_M_twoNow_l2]
      exact ⟨fun _ => q, fun e => absurd ((nI_leI (a := 8) (by omega) (by omega)).mpr (by omega)) e⟩
    | succ r ih =>
      intro k hk q
      rw [w_M_twoNow_l2]
      unfold fnd twP at q
      refine ⟨fun e => absurd ((nI_leI (a := 8) (by omega) (by omega)).mp e) (by omega), fun _ => inner _ _ (p_ones (B8_std (fun _ hk => (law_ok hk).2)) ⟨fun e => ?_, fun e => ?_⟩)⟩
      · rw [if_neg (by simpa using le1.mp e)] at q
        rw [nI_1]; exact ih (k + 1) (by omega) q
      · rw [le1, Classical.not_not] at e
        rw [if_pos (by simpa using e)] at q
        exact q
  exact ⟨9, main 8 0 (by omega) q⟩
def plN (pl : Nat → Int32) : Nat → Int32
  | 0 => 0
  | k + 1 => plN pl k + pl k
theorem pX_plusCount {Q : Int32 → Prop} (h : LawsX u b n) (q : Q (plN (plF b n) (cntL b n))) : w_L_plusCount u Q := by
  have hc := cntL_le b n
  refine exfor (fun f (s : Int32 × Int32) => w_L_plusCount_l4 (fun z9 => Q z9) u Q f s.1 s.2) (fun k => (plN (plF b n) k, nI k)) (cntL b n) (fun f => ?_) (fun f k hk ih => ?_)
  · dsimp only
    rw [w_L_plusCount_l4]
    unfold w_R_size_0
    rw [h.2.1]
    exact ⟨fun _ => q, fun c => absurd ((nI_leI (by omega) (by omega)).mpr (Nat.le_refl _)) c⟩
  · dsimp only at ih ⊢
    rw [w_L_plusCount_l4]
    unfold w_R_size_0
    rw [h.2.1]
    refine ⟨fun c => absurd ((nI_leI (by omega) (by omega)).mp c) (by omega), fun _ => ?_⟩
    obtain ⟨e1, e2, e3⟩ := h.2.2 k hk
    have hz := (law_ok hk).1
    refine p_isPlus (by omega) (by rw [e2]; exact hz) ?_
    rw [nI_1, e2]
    unfold plN at ih
    refine ⟨fun c => ?_, fun c => ?_⟩
    · rw [c, Int32.add_zero] at ih; exact ih
    · rw [hz.resolve_left c] at ih; exact ih
end
