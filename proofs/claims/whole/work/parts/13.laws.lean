/-! laws as a text: the reading as an automaton, byte by byte; the class's own reading is one -/
abbrev smL (b : Int32) : Prop := 97 ≤ b ∧ b ≤ 104
abbrev bgL (b : Int32) : Prop := 65 ≤ b ∧ b ≤ 72
theorem p_isSmall {x : Int32} {Q : Int32 → Prop} (ht : smL x → Q 1) (hf : ¬ smL x → Q 0) : w_X_isSmallLetter x Q := by
  unfold w_X_isSmallLetter; simp only [smL, Int32.le_iff_toInt_le, Int32.lt_iff_toInt_lt] at *; grind
theorem p_isBig {x : Int32} {Q : Int32 → Prop} (ht : bgL x → Q 1) (hf : ¬ bgL x → Q 0) : w_X_isBigLetter x Q := by
  unfold w_X_isBigLetter; simp only [bgL, Int32.le_iff_toInt_le, Int32.lt_iff_toInt_lt] at *; grind
abbrev bit1 (x : Int32) : Int32 := (1 : Int32) <<< (x &&& 31)
/-- state, how many laws, the open law's small things, its sign, the laws -/
abbrev LA : Type := Int32 × Nat × Int32 × Int32 × (Nat → Int32) × (Nat → Int32) × (Nat → Int32)
def sgL (a : LA) (b : Int32) : LA := if b = 43 then (4, a.2.1, a.2.2.1, 1, a.2.2.2.2) else if b = 45 then (4, a.2.1, a.2.2.1, 0, a.2.2.2.2) else (-1, a.2)
def stL (a : LA) (b : Int32) : LA :=
  if a.1 = 0 then (if a.2.1 < 16 ∧ smL b then (2, a.2.1, bit1 (b - 97), a.2.2.2) else (-1, a.2))
  else if a.1 = 1 then (if b = 59 then (0, a.2) else (-1, a.2))
  else if a.1 = 2 then (if smL b then (if a.2.2.1 < bit1 (b - 97) then (3, a.2.1, a.2.2.1 ||| bit1 (b - 97), a.2.2.2) else (-1, a.2)) else sgL a b)
  else if a.1 = 3 then sgL a b
  else if a.1 = 4 then (if bgL b ∧ a.2.1 < 16 then (1, a.2.1 + 1, a.2.2.1, a.2.2.2.1, upd a.2.2.2.2.1 a.2.1 a.2.2.1, upd a.2.2.2.2.2.1 a.2.1 a.2.2.2.1, upd a.2.2.2.2.2.2 a.2.1 (b - 65)) else (-1, a.2))
  else (-1, a.2)
def LAr (b : Nat → Int32) : Nat → LA
  | 0 => (0, 0, 0, 0, fun _ => 0, fun _ => 0, fun _ => 0)
  | i + 1 => stL (LAr b i) (b i)
def flL (b : Nat → Int32) : Nat → Int32
  | 0 => -1
  | i + 1 => if flL b i = -1 then (if (LAr b (i + 1)).1 = -1 then nI i else -1) else flL b i
def faultL (b : Nat → Int32) (n : Nat) : Int32 := if flL b n = -1 then (if n = 0 ∨ (LAr b n).1 = 1 then -1 else nI n) else flL b n
def cntL (b : Nat → Int32) (n : Nat) : Nat := if faultL b n = -1 then (LAr b n).2.1 else 0
abbrev smF (b : Nat → Int32) (n : Nat) : Nat → Int32 := (LAr b n).2.2.2.2.1
abbrev plF (b : Nat → Int32) (n : Nat) : Nat → Int32 := (LAr b n).2.2.2.2.2.1
abbrev bgF (b : Nat → Int32) (n : Nat) : Nat → Int32 := (LAr b n).2.2.2.2.2.2
/-- what is well of a state: its laws are laws -/
def okL (a : LA) : Prop := a.2.1 ≤ 16 ∧ (a.1 = 4 → bz a.2.2.2.1) ∧ ∀ k, k < a.2.1 → bz (a.2.2.2.2.2.1 k) ∧ TH (a.2.2.2.2.2.2 k)
theorem bgL_TH {b : Int32} (h : bgL b) : TH (b - 65) := by
  unfold TH
  obtain ⟨h1, h2⟩ := h
  rw [Int32.le_iff_toInt_le] at h1 h2
  have e : (65 : Int32).toInt = 65 := rfl
  have e2 : (72 : Int32).toInt = 72 := rfl
  have := fb_subI (x := b) (y := 65) (by omega) (by omega)
  rw [Int32.le_iff_toInt_le, Int32.le_iff_toInt_le, this]
  have e3 : (0 : Int32).toInt = 0 := rfl
  have e4 : (7 : Int32).toInt = 7 := rfl
  omega
theorem okL_sg {a : LA} {b : Int32} (h : okL a) : okL (sgL a b) := by
  unfold sgL
  split
  · exact ⟨h.1, fun _ => bz_1, h.2.2⟩
  · split
    · exact ⟨h.1, fun _ => bz_0, h.2.2⟩
    · exact ⟨h.1, fun c => absurd c (by first | decide | simp), h.2.2⟩
theorem okL_st {a : LA} {b : Int32} (h : okL a) : okL (stL a b) := by
  unfold stL
  split
  · split
    · exact ⟨h.1, fun c => absurd c (by first | decide | simp), h.2.2⟩
    · exact ⟨h.1, fun c => absurd c (by first | decide | simp), h.2.2⟩
  · split
    · split <;> exact ⟨h.1, fun c => absurd c (by first | decide | simp), h.2.2⟩
    · split
      · split
        · split <;> exact ⟨h.1, fun c => absurd c (by first | decide | simp), h.2.2⟩
        · exact okL_sg h
      · split
        · exact okL_sg h
        · split
          · rename_i h4
            split
            · rename_i hc
              refine ⟨by show a.2.1 + 1 ≤ 16; omega, fun c => absurd c (by first | decide | simp), fun k hk => ?_⟩
              have hk : k < a.2.1 + 1 := hk
              show bz (upd a.2.2.2.2.2.1 a.2.1 a.2.2.2.1 k) ∧ TH (upd a.2.2.2.2.2.2 a.2.1 (b - 65) k)
              rw [upd_ap, upd_ap]
              split
              · exact ⟨h.2.1 h4, bgL_TH hc.1⟩
              · exact h.2.2 k (by omega)
            · exact ⟨h.1, fun c => absurd c (by first | decide | simp), h.2.2⟩
          · exact ⟨h.1, fun c => absurd c (by first | decide | simp), h.2.2⟩
theorem okL_r (b : Nat → Int32) : ∀ i, okL (LAr b i)
  | 0 => ⟨Nat.zero_le _, fun c => absurd c (by simp [LAr]), fun k hk => absurd hk (Nat.not_lt_zero k)⟩
  | i + 1 => okL_st (okL_r b i)
theorem flL_stay {b : Nat → Int32} {k : Nat} (h : ¬ flL b k = -1) : ∀ m, flL b (k + m) = flL b k
  | 0 => rfl
  | m + 1 => by
    show (if flL b (k + m) = -1 then _ else flL b (k + m)) = _
    rw [flL_stay h m, if_neg h]
/-- the class's memory holds a state of the reading -/
def SimL (st : Int32) (u : Mem) (a : LA) : Prop := st = a.1 ∧ u.1 4 = nI a.2.1 ∧ ((a.1 = 2 ∨ a.1 = 3 ∨ a.1 = 4) → u.1 6 = a.2.2.1) ∧ (a.1 = 4 → u.1 7 = a.2.2.2.1) ∧ ∀ k, k < a.2.1 → u.2 2 k = a.2.2.2.2.1 k ∧ u.2 3 k = a.2.2.2.2.2.1 k ∧ u.2 4 k = a.2.2.2.2.2.2 k
theorem nar_bz {x : Int32} (h : bz x) : vp_nar .boolean x = x := by rcases h with rfl | rfl <;> rfl
theorem p_takeSign {u : Mem} {a : LA} {b : Int32} {Q : Int32 → Mem → Prop} (h1 : u.1 4 = nI a.2.1) (h2 : u.1 6 = a.2.2.1) (h3 : ∀ k, k < a.2.1 → u.2 2 k = a.2.2.2.2.1 k ∧ u.2 3 k = a.2.2.2.2.2.1 k ∧ u.2 4 k = a.2.2.2.2.2.2 k)
    (k : ∀ r w, SimL r w (sgL a b) → Fr [4, 6, 7] [2, 3, 4] u w → Q r w) : w_L_takeSign b u Q := by
  unfold w_L_takeSign w_L_takeSign_b12 w_L_takeSign_b28
  refine ⟨fun c => ⟨bz_0, fun d => absurd rfl d, fun _ => ⟨fun e => ?_, fun e => ?_⟩⟩, fun c => ⟨bz_1, fun _ => ?_, fun d => absurd d (by first | decide | simp)⟩⟩
  · refine k _ _ ?_ (Fr.sS (by decide) Fr.rf)
    unfold sgL
    rw [if_neg c, if_neg e]
    exact ⟨rfl, h1, fun d => absurd d (by first | decide | simp), fun d => absurd d (by first | decide | simp), h3⟩
  · refine k _ _ ?_ (Fr.sS (by decide) Fr.rf)
    unfold sgL
    rw [if_neg c, if_pos e]
    exact ⟨rfl, h1, fun _ => h2, fun _ => rfl, h3⟩
  · refine k _ _ ?_ (Fr.sS (by decide) Fr.rf)
    unfold sgL
    rw [if_pos c]
    exact ⟨rfl, h1, fun _ => h2, fun _ => rfl, h3⟩
theorem p_L_stateBehind {st b : Int32} {u : Mem} {a : LA} {Q : Int32 → Mem → Prop} (ok : okL a) (h : SimL st u a) (k : ∀ r w, SimL r w (stL a b) → Fr [4, 6, 7] [2, 3, 4] u w → Q r w) : w_L_stateBehind st b u Q := by
  obtain ⟨h0, h1, h2, h3, h4⟩ := h
  subst h0
  unfold stL at k
  unfold w_L_stateBehind
  refine ⟨fun c => ?_, fun c => ?_, fun c => ?_, fun c => ?_, fun c => ?_, fun c => ?_⟩
  · rw [if_pos c] at k
    unfold w_L_beginLaw w_R_size_0
    rw [h1]
    have e16 : (16 : Int32) = nI 16 := rfl
    have ok1 := ok.1
    refine ⟨fun d => ?_, fun d => p_isSmall (fun e => ⟨fun _ => ?_, fun f => absurd f (by decide)⟩) (fun e => ⟨fun f => absurd rfl f, fun _ => ?_⟩)⟩
    · rw [e16, nI_leI (by omega) (by omega)] at d
      rw [if_neg (by omega)] at k
      exact k _ _ ⟨rfl, h1, fun d => absurd d (by first | decide | simp), fun d => absurd d (by first | decide | simp), h4⟩ Fr.rf
    · rw [e16, nI_leI (by omega) (by omega)] at d
      rw [if_pos ⟨by omega, e⟩] at k
      exact k _ _ ⟨rfl, h1, fun _ => rfl, fun d => absurd d (by first | decide | simp), h4⟩ (Fr.sS (by decide) Fr.rf)
    · rw [if_neg (fun g => e g.2)] at k
      exact k _ _ ⟨rfl, h1, fun d => absurd d (by first | decide | simp), fun d => absurd d (by first | decide | simp), h4⟩ Fr.rf
  · rw [if_neg (by rw [c]; decide), if_pos c] at k
    refine ⟨fun d => ?_, fun d => ?_⟩
    · rw [if_neg d] at k
      exact k _ _ ⟨rfl, h1, fun d => absurd d (by first | decide | simp), fun d => absurd d (by first | decide | simp), h4⟩ Fr.rf
    · rw [if_pos d] at k
      exact k _ _ ⟨rfl, h1, fun d => absurd d (by first | decide | simp), fun d => absurd d (by first | decide | simp), h4⟩ Fr.rf
  · rw [if_neg (by rw [c]; decide), if_neg (by rw [c]; decide), if_pos c] at k
    have h6 := h2 (Or.inl c)
    refine p_isSmall (fun e => ⟨fun f => absurd f (by decide), fun _ => ?_⟩) (fun e => ⟨fun _ => ?_, fun f => absurd rfl f⟩)
    · rw [if_pos e] at k
      unfold w_L_pairWith
      rw [h6]
      refine ⟨fun d => ?_, fun d => ?_⟩
      · rw [if_pos d] at k
        exact k _ _ ⟨rfl, h1, fun _ => rfl, fun d => absurd d (by first | decide | simp), h4⟩ (Fr.sS (by decide) Fr.rf)
      · rw [if_neg d] at k
        exact k _ _ ⟨rfl, h1, fun d => absurd d (by first | decide | simp), fun d => absurd d (by first | decide | simp), h4⟩ Fr.rf
    · rw [if_neg e] at k
      exact p_takeSign h1 h6 h4 k
  · rw [if_neg (by rw [c]; decide), if_neg (by rw [c]; decide), if_neg (by rw [c]; decide), if_pos c] at k
    exact p_takeSign h1 (h2 (Or.inr (Or.inl c))) h4 k
  · rw [if_neg (by rw [c]; decide), if_neg (by rw [c]; decide), if_neg (by rw [c]; decide), if_neg (by rw [c]; decide), if_pos c] at k
    have h6 := h2 (Or.inr (Or.inr c))
    have h7 := h3 c
    have e16 : (16 : Int32) = nI 16 := rfl
    have ok1 := ok.1
    unfold w_L_endLaw w_R_size_0 w_R_addOne_0
    rw [h1]
    refine p_isBig (fun e => ⟨fun f => absurd f (by decide), fun _ => ⟨fun f => absurd f (nI_pos (by omega)), fun _ => ⟨fun f => ?_, fun f => ?_⟩⟩⟩) (fun e => ⟨fun _ => ?_, fun f => absurd rfl f⟩)
    · rw [e16, nI_ltI (by omega) (by omega)] at f
      have hin : vp_in (nI a.2.1) 16 := vp_in_nI f (by omega)
      refine ⟨hin, hin, hin, ?_⟩
      rw [if_pos ⟨e, f⟩] at k
      refine k _ _ ⟨rfl, ?_, fun d => absurd d (by first | decide | simp), fun d => absurd d (by first | decide | simp), fun k hk => ?_⟩ (Fr.sS (by decide) (Fr.sA (by decide) (Fr.sA (by decide) (Fr.sA (by decide) Fr.rf))))
      · show u.1 4 + 1 = nI (a.2.1 + 1)
        rw [h1, nI_1]
      · have hk : k < a.2.1 + 1 := hk
        have hc : (nI a.2.1).toNatClampNeg = a.2.1 := nI_clamp (by omega)
        rw [hc]
        show upd (u.2 2) a.2.1 (u.1 6) k = upd _ _ _ k ∧ upd (u.2 3) a.2.1 (vp_nar .boolean (u.1 7)) k = upd _ _ _ k ∧ upd (u.2 4) a.2.1 (b - 65) k = upd _ _ _ k
        rw [h6, h7, nar_bz (ok.2.1 c)]
        simp only [upd_ap]
        split
        · exact ⟨rfl, rfl, rfl⟩
        · exact h4 k (by omega)
    · rw [e16, nI_ltI (by omega) (by omega)] at f
      rw [if_neg (fun g => f g.2)] at k
      exact k _ _ ⟨rfl, h1, fun d => absurd d (by first | decide | simp), fun d => absurd d (by first | decide | simp), h4⟩ Fr.rf
    · rw [if_neg (fun g => e g.1)] at k
      exact k _ _ ⟨rfl, h1, fun d => absurd d (by first | decide | simp), fun d => absurd d (by first | decide | simp), h4⟩ Fr.rf
  · rw [if_neg (by intro g; rw [g] at c; exact absurd c (by first | decide | simp)), if_neg (by intro g; rw [g] at c; exact absurd c (by first | decide | simp)), if_neg (by intro g; rw [g] at c; exact absurd c (by first | decide | simp)), if_neg (by intro g; rw [g] at c; exact absurd c (by first | decide | simp)), if_neg (by intro g; rw [g] at c; exact absurd c (by first | decide | simp))] at k
    exact k _ _ ⟨rfl, h1, fun d => absurd d (by first | decide | simp), fun d => absurd d (by first | decide | simp), h4⟩ Fr.rf
