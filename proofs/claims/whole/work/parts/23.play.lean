/-! the play -/
def bI (b : Bool) : Int32 := if b = true then 1 else 0
theorem bI_bz (b : Bool) : bz (bI b) := by cases b; exact bz_0; exact bz_1
theorem bI_0 {b : Bool} : bI b = 0 ↔ b = false := by cases b <;> decide
theorem bI_inj {a b : Bool} : bI a = bI b ↔ a = b := by cases a <;> cases b <;> decide
def acN (w g0 : Bool) (g : Nat → Bool) : Nat → Bool
  | 0 => g0
  | k + 1 => if w = true then (acN w g0 g k || g k) else (acN w g0 g k && g k)
theorem ac_stay {w g0 : Bool} {g : Nat → Bool} {k : Nat} (h : acN w g0 g k = w) : ∀ m, acN w g0 g (k + m) = w
  | 0 => h
  | m + 1 => by
    rw [show k + (m + 1) = (k + m) + 1 by omega]
    unfold acN
    rw [ac_stay h m]
    cases w <;> simp
theorem ac_to {w g0 : Bool} {g : Nat → Bool} {k n : Nat} (h : acN w g0 g k = w) (hk : k ≤ n) : acN w g0 g n = w := by
  rw [show n = k + (n - k) by omega]; exact ac_stay h _
def wnN (cm : Int32 → Int32) (t : Int32) : Nat → Bool → Int32 → Bool
  | 0, _, s => !decide ((cm s &&& bit1 t) = 0)
  | l + 1, w, s => acN w (wnN cm t l (!w) s) (fun i => wnN cm t l (!w) (s ^^^ bit1 (nI i))) 8
theorem TH_of {i : Nat} (h : i < 8) : TH (nI i) := ⟨nI_pos' (by omega), (nI_leI (b := 7) (by omega) (by omega)).mpr (by omega)⟩
theorem B8_xb {s : Int32} {i : Nat} (h : B8 s) (hi : i < 8) : B8 (s ^^^ bit1 (nI i)) := B8_xor h (B8_bit (TH_of hi))
section
variable {u : Mem} {b d : Nat → Int32} {n m : Nat}
theorem p_itComes {t : Int32} (hh : HouseX u b n d m) : ∀ (l f : Nat) (s : Int32) (w : Bool) (Q : Int32 → Prop), l < f → l ≤ 4 → B8 s → Q (bI (wnN (CMf b n) t l w s)) → w_P_itComes f s (bit1 t) (nI l) (bI w) u Q := by
  intro l
  induction l with
  | zero =>
    intro f s w Q hf _ hs q
    obtain ⟨g, rfl⟩ : ∃ g, f = g + 1 := ⟨f - 1, by omega⟩
    rw [w_P_itComes]
    unfold w_P_itComes_body w_P_itComes_b9
    refine ⟨fun _ => p_comesBy hh hs ⟨fun e => ?_, fun e => ?_⟩, fun e => absurd (by decide) e⟩
    · unfold wnN at q; rw [decide_eq_true e] at q; exact q
    · unfold wnN at q; rw [decide_eq_false e] at q; exact q
  | succ l ih =>
    intro f s w Q hf hl hs q
    obtain ⟨g, rfl⟩ : ∃ g, f = g + 1 := ⟨f - 1, by omega⟩
    rw [w_P_itComes]
    unfold w_P_itComes_body
    rw [nI_pred]
    unfold wnN at q
    have key : ∀ r, r + 0 ≤ 8 → ∀ i, i + r = 8 → acN w (wnN (CMf b n) t l (!w) s) (fun i => wnN (CMf b n) t l (!w) (s ^^^ bit1 (nI i))) i = !w → w_P_itComes_l55 (fun x1 x2 x3 x4 Q => w_P_itComes g x1 x2 x3 x4 u Q) ((¬ bI w = 0 → Q 0) ∧ (bI w = 0 → Q 1)) s (bit1 t) (nI (l + 1)) (bI w) u Q (r + 1) (nI i) := by
      intro r
      induction r with
      | zero =>
        intro _ i hi ha
        rw [w_P_itComes_l55]
        refine ⟨fun _ => ⟨fun e => ?_, fun e => ?_⟩, fun e => absurd ((nI_leI (a := 8) (by omega) (by omega)).mpr (by omega)) e⟩
        · rw [show i = 8 by omega] at ha; rw [ha] at q; cases w
          · exact absurd rfl e
          · exact q
        · rw [show i = 8 by omega] at ha; rw [ha] at q; cases w
          · exact q
          · exact absurd e (by decide)
      | succ r ihr =>
        intro hr i hi ha
        rw [w_P_itComes_l55]
        unfold w_P_itComes_b83
        rw [nI_1, nI_pred]
        have fin : ∀ x4, x4 = bI (!w) → w_P_itComes g (s ^^^ bit1 (nI i)) (bit1 t) (nI l) x4 u (fun r5 => (¬ r5 = bI w → w_P_itComes_l55 (fun x1 x2 x3 x4 Q => w_P_itComes g x1 x2 x3 x4 u Q) ((¬ bI w = 0 → Q 0) ∧ (bI w = 0 → Q 1)) s (bit1 t) (nI (l + 1)) (bI w) u Q (r + 1) (nI (i + 1))) ∧ (r5 = bI w → bz (bI w) ∧ Q (bI w))) := by
          rintro _ rfl
          refine ih g _ (!w) _ (by omega) (by omega) (B8_xb hs (by omega)) ⟨fun e => ?_, fun e => ⟨bI_bz w, ?_⟩⟩
          · rw [bI_inj] at e
            refine ihr (by omega) (i + 1) (by omega) ?_
            unfold acN
            rw [ha]
            cases w
            · simp at e ⊢; exact e
            · simp at e ⊢; exact e
          · rw [bI_inj] at e
            rw [ac_to (k := i + 1) (by unfold acN; rw [ha, e]; cases w <;> rfl) (by omega)] at q
            exact q
        refine ⟨fun e => absurd ((nI_leI (a := 8) (by omega) (by omega)).mp e) (by omega), fun _ => ⟨fun e => fin 0 ?_, fun e => fin 1 ?_⟩⟩
        · cases w
          · exact absurd rfl e
          · rfl
        · cases w
          · rfl
          · exact absurd e (by decide)
    have fin : ∀ x4, x4 = bI (!w) → w_P_itComes_b41 (fun x1 x2 x3 x4 Q => w_P_itComes g x1 x2 x3 x4 u Q) s (bit1 t) (nI (l + 1)) (bI w) x4 (nI l) (bit1 t) s u Q := by
      rintro _ rfl
      unfold w_P_itComes_b41
      refine ih g _ (!w) _ (by omega) (by omega) hs ⟨fun e => ⟨9, ?_⟩, fun e => ⟨bI_bz w, ?_⟩⟩
      · rw [bI_inj] at e
        refine key 8 (by omega) 0 (by omega) ?_
        unfold acN
        cases w
        · simp at e ⊢; exact e
        · simp at e ⊢; exact e
      · rw [bI_inj] at e
        rw [ac_to (k := 0) (by unfold acN; exact e) (by omega)] at q
        exact q
    refine ⟨fun e => absurd ((nI_leI (b := 0) (by omega) (by omega)).mp e) (by omega), fun _ => ⟨fun _ => ⟨fun e => fin 0 ?_, fun e => fin 1 ?_⟩, fun e => absurd ((nI_leI (b := 4) (by omega) (by omega)).mpr (by omega)) e⟩⟩
    · cases w
      · exact absurd rfl e
      · rfl
    · cases w
      · rfl
      · exact absurd e (by decide)
theorem pX_ends {s t : Int32} {l : Nat} {Q : Int32 → Prop} (hl : l ≤ 4) (hh : HouseX u b n d m) (hs : B8 s) (q : Q (bI (wnN (CMf b n) t l true s))) : w_P_endsInComing s (bit1 t) (nI l) u Q :=
  p_itComes hh l 5 s true _ (by omega) hl hs ⟨bI_bz _, q⟩
def fsI (p : Nat → Bool) : Int32 := if fa_first p 8 < 8 then nI (fa_first p 8) else -1
def tchN (cm : Int32 → Int32) (t f : Int32) : Nat → Int32
  | 0 => -1
  | l + 1 => if wnN cm t l false f = true then -1 else fsI (fun i => wnN cm t l false (f ^^^ bit1 (nI i)))
theorem first_at {p : Nat → Bool} {i n : Nat} (h : ∀ j, j < i → p j = false) (hi : p i = true) (hn : i < n) : fa_first p n = i := by
  have h1 : fa_first p n ≤ i := by
    rcases Nat.lt_or_ge i (fa_first p n) with x | x
    · have := fa_first_no p n i x; rw [hi] at this; exact absurd this (by decide)
    · exact x
  have h2 := fa_first_yes p n (by omega)
  rcases Nat.lt_or_ge (fa_first p n) i with x | x
  · have := h _ x; rw [h2] at this; exact absurd this (by decide)
  · omega
theorem first_none {p : Nat → Bool} {n : Nat} (h : ∀ j, j < n → p j = false) : ¬ fa_first p n < n := fun x => by
  have := fa_first_yes p n x; rw [h _ x] at this; exact absurd this (by decide)
theorem pX_first {s t : Int32} {l : Nat} {Q : Int32 → Prop} (hl : l ≤ 4) (hh : HouseX u b n d m) (hs : B8 s) (q : Q (tchN (CMf b n) t s l)) : w_P_firstTouch s (bit1 t) (nI l) u Q := by
  unfold w_P_firstTouch
  cases l with
  | zero => exact ⟨fun _ => q, fun e => absurd (by decide) e⟩
  | succ l =>
    refine ⟨fun e => absurd ((nI_leI (b := 0) (by omega) (by omega)).mp e) (by omega), fun _ => ?_⟩
    rw [tchN] at q
    rw [nI_pred]
    refine p_itComes hh l 5 s false _ (by omega) (by omega) hs ⟨fun e => ?_, fun e => ?_⟩
    · rw [bI_0] at e
      rw [if_neg (by rw [e]; decide)] at q
      have key : ∀ r i, i + r = 8 → (∀ j, j < i → wnN (CMf b n) t l false (s ^^^ bit1 (nI j)) = false) → w_P_firstTouch_l22 (Q (-1)) s (bit1 t) (nI (l + 1)) u Q (r + 1) (nI i) := by
        intro r
        induction r with
        | zero =>
          intro i hi ha
          rw [w_P_firstTouch_l22]
          refine ⟨fun _ => ?_, fun e => absurd ((nI_leI (a := 8) (by omega) (by omega)).mpr (by omega)) e⟩
          unfold fsI at q
          rw [if_neg (first_none (fun j hj => ha j (by omega)))] at q
          exact q
        | succ r ihr =>
          intro i hi ha
          rw [w_P_firstTouch_l22, nI_pred, nI_1]
          refine ⟨fun e => absurd ((nI_leI (a := 8) (by omega) (by omega)).mp e) (by omega), fun _ => p_itComes hh l 5 _ false _ (by omega) (by omega) (B8_xb hs (by omega)) ⟨fun e => ?_, fun e => ?_⟩⟩
          · rw [bI_0] at e
            refine ihr (i + 1) (by omega) (fun j hj => ?_)
            rcases Nat.lt_or_ge j i with x | x
            · exact ha j x
            · rw [show j = i by omega]; exact e
          · rw [bI_0, Bool.not_eq_false] at e
            unfold fsI at q
            rw [first_at ha e (by omega), if_pos (by omega)] at q
            exact q
      exact ⟨9, key 8 0 (by omega) (fun j hj => absurd hj (Nat.not_lt_zero j))⟩
    · rw [bI_0, Bool.not_eq_false] at e
      rw [if_pos e] at q
      exact q
/-! the reference's -/
theorem e256 (l s : Nat) : (256 : Int32) * nI l + nI s = nI (256 * l + s) := by rw [show (256 : Int32) = nI 256 from rfl, pk_mul, nI_add]
def wtB (N l : Nat) : Bool := decide ((N - l) % 2 = 0)
theorem wtB_s {N l : Nat} (h : l + 1 ≤ N) : wtB N l = !wtB N (l + 1) := by
  unfold wtB
  rcases Nat.mod_two_eq_zero_or_one (N - (l + 1)) with x | x
  · rw [decide_eq_true x, decide_eq_false (by omega)]; rfl
  · rw [decide_eq_false (p := (N - (l + 1)) % 2 = 0) (by omega), decide_eq_true (by omega)]; rfl
def WinM (cm : Int32 → Int32) (t : Int32) (N l k : Nat) (w : Mem) : Prop := (∀ j, j < l → ∀ s, s < 256 → w.2 13 (256 * j + s) = bI (wnN cm t j (wtB N j) (nI s))) ∧ ∀ s, s < k → w.2 13 (256 * l + s) = bI (wnN cm t l (wtB N l) (nI s))
theorem WinM_put {cm : Int32 → Int32} {t x : Int32} {N l k : Nat} {w : Mem} (h : WinM cm t N l k w) (hk : k < 256) (hx : x = bI (wnN cm t l (wtB N l) (nI k))) : WinM cm t N l (k + 1) (sA w 13 (256 * l + k) x) := by
  refine ⟨fun j hj s hs => ?_, fun s hs => ?_⟩
  · rw [sA_2, if_pos rfl, upd_ap, if_neg (by omega)]; exact h.1 j hj s hs
  · rw [sA_2, if_pos rfl, upd_ap]
    split
    · rename_i e; rw [show s = k by omega]; exact hx
    · exact h.2 s (by omega)
theorem pM_findWins {t : Int32} {N : Nat} {Q : Mem → Prop} (hN : N ≤ 4) (ht : TH t) (hh : HouseM u b n d m) (q : ∀ w, Fr [] [13] u w → WinM (CMf b n) t N (N + 1) 0 w → Q w) : w_M_findWins (nI N) t u Q := by
  refine exinv (fun f (a : Int32 × Mem) => w_M_findWins_l2 (fun u8 => Q u8) (nI N) t Q f a.1 a.2) (fun k a => a.1 = nI k ∧ Fr [] [13] u a.2 ∧ WinM (CMf b n) t N k 0 a.2) (N + 1) (0, u) ⟨rfl, Fr.rf, fun j hj => absurd hj (Nat.not_lt_zero j), fun j hj => absurd hj (Nat.not_lt_zero j)⟩ ?_ ?_
  · rintro f ⟨_, w⟩ ⟨rfl, hf, hw⟩
    dsimp only
    rw [w_M_findWins_l2]
    exact ⟨fun _ => q w hf hw, fun e => absurd ((nI_ltI (by omega) (by omega)).mpr (by omega)) e⟩
  · rintro f k ⟨_, w⟩ hk ⟨rfl, hf, hw⟩ ih
    dsimp only at hf hw ⊢
    rw [w_M_findWins_l2]
    refine ⟨fun e => absurd ((nI_ltI (by omega) (by omega)).mp e) (by omega), fun _ => ?_⟩
    rw [pk_sub (by omega), show (2 : Int32) = nI 2 from rfl, pk_rem (by omega) (by omega) (by omega), show (0 : Int32) = nI 0 from rfl, nI_eq (by omega) (by omega)]
    have fin : ∀ x4, x4 = bI (wtB N k) → w_M_findWins_b20 (w_M_findWins_l2 (fun u8 => Q u8) (nI N) t Q f) (fun u8 => Q u8) (nI N) t (nI k) x4 w Q := by
      rintro _ rfl
      unfold w_M_findWins_b20
      refine exinv (fun g (a : Int32 × Mem) => w_M_findWins_l25 (fun u6 => w_M_findWins_l2 (fun u8 => Q u8) (nI N) t Q f (nI k + 1) u6) (nI N) t (nI k) (bI (wtB N k)) Q g a.1 a.2) (fun s a => a.1 = nI s ∧ Fr [] [13] u a.2 ∧ WinM (CMf b n) t N k s a.2) 256 (0, w) ⟨rfl, hf, hw⟩ ?_ ?_
      · rintro g ⟨_, v⟩ ⟨rfl, hf, hw⟩
        dsimp only at hf hw ⊢
        rw [w_M_findWins_l25]
        refine ⟨fun _ => ?_, fun e => absurd ((nI_leI (a := 256) (by omega) (by omega)).mpr (by omega)) e⟩
        refine ih (_, v) ⟨nI_1 k, hf, ?_, fun s hs => absurd hs (Nat.not_lt_zero s)⟩
        intro j hj s hs
        rcases Nat.lt_or_ge j k with x | x
        · exact hw.1 j x s hs
        · rw [show j = k by omega]; exact hw.2 s hs
      · rintro g s ⟨_, v⟩ hs ⟨rfl, hf, hw⟩ ih2
        dsimp only at hf hw ⊢
        rw [w_M_findWins_l25]
        have hhv : HouseM v b n d m := by
          intro j hj
          rw [hf.2 8 (by decide), hf.2 9 (by decide)]
          exact hh j hj
        refine ⟨fun e => absurd ((nI_leI (a := 256) (by omega) (by omega)).mp e) (by omega), fun _ => ⟨fun e => ?_, fun e => ?_⟩⟩
        · obtain ⟨l, rfl⟩ : ∃ l, k = l + 1 := by
            cases k with
            | zero => exact absurd rfl e
            | succ l => exact ⟨l, rfl⟩
          rw [nI_pred, e256]
          refine ⟨vp_in_nI (by omega) (by omega), ?_⟩
          rw [nI_clamp (by omega), hw.1 l (by omega) s hs, wtB_s (N := N) (l := l) (by omega)]
          unfold w_M_findWins_b66
          refine exfor (fun h (a : Int32 × Int32) => w_M_findWins_l71 (fun z2 => w_M_findWins_b150 (w_M_findWins_l25 (fun u6 => w_M_findWins_l2 (fun u8 => Q u8) (nI N) t Q f (nI (l + 1) + 1) u6) (nI N) t (nI (l + 1)) (bI (wtB N (l + 1))) Q g) (fun u6 => w_M_findWins_l2 (fun u8 => Q u8) (nI N) t Q f (nI (l + 1) + 1) u6) (nI N) t (nI (l + 1)) (bI (wtB N (l + 1))) (nI s) z2 v Q) (nI N) t (nI (l + 1)) (bI (wtB N (l + 1))) (nI s) v Q h a.1 a.2) (fun i => (bI (acN (wtB N (l + 1)) (wnN (CMf b n) t l (!wtB N (l + 1)) (nI s)) (fun i => wnN (CMf b n) t l (!wtB N (l + 1)) (nI s ^^^ bit1 (nI i))) i), nI i)) 8 (fun h => ?_) (fun h i hi ihi => ?_)
          · dsimp only
            rw [w_M_findWins_l71]
            refine ⟨fun _ => ?_, fun e => absurd ((nI_leI (a := 8) (by omega) (by omega)).mpr (by omega)) e⟩
            unfold w_M_findWins_b150
            rw [e256]
            refine ⟨vp_in_nI (by omega) (by omega), ?_⟩
            rw [nI_clamp (by omega), nar_bz (bI_bz _)]
            exact ih2 (_, _) ⟨nI_1 s, Fr.sA (by decide) hf, WinM_put hw hs rfl⟩
          · dsimp only at ihi ⊢
            rw [w_M_findWins_l71]
            unfold w_M_findWins_b141 w_M_findWins_b119 w_M_findWins_b142
            rw [nI_1 i, nI_pred]
            obtain ⟨j, hj, ej⟩ := B8_nI (B8_xb (B8_of hs) hi)
            have ej' : nI s ^^^ ((1 : Int32) <<< (nI i &&& 31)) = nI j := ej
            rw [ej', e256]
            refine ⟨fun e => absurd ((nI_leI (a := 8) (by omega) (by omega)).mp e) (by omega), fun _ => ⟨fun e => absurd ((nI_leI (b := 0) (by omega) (by omega)).mp e) (by omega), fun _ => ⟨vp_in_nI (by omega) (by omega), ?_⟩⟩⟩
            rintro _ rfl
            rw [nI_clamp (by omega), hw.1 l (by omega) j hj, wtB_s (N := N) (l := l) (by omega), ← ej]
            unfold acN at ihi
            generalize (acN (wtB N (l + 1)) (wnN (CMf b n) t l (!wtB N (l + 1)) (nI s)) (fun i => wnN (CMf b n) t l (!wtB N (l + 1)) (nI s ^^^ bit1 (nI i))) i) = A at ihi ⊢
            generalize wnN (CMf b n) t l (!wtB N (l + 1)) (nI s ^^^ bit1 (nI i)) = B at ihi ⊢
            generalize wtB N (l + 1) = W at ihi ⊢
            cases W <;> cases A <;> cases B <;> simp [bI] at ihi ⊢ <;> exact ihi
        · obtain rfl : k = 0 := by
            cases k with
            | zero => rfl
            | succ l => exact absurd e (nI_ne0 (by omega) (by omega))
          obtain ⟨k1, k2⟩ := come_at hhv (B8_of hs)
          have fin2 : ∀ r4, r4 = bI (wnN (CMf b n) t 0 (wtB N 0) (nI s)) → w_M_findWins_b66 (w_M_findWins_l25 (fun u6 => w_M_findWins_l2 (fun u8 => Q u8) (nI N) t Q f (nI 0 + 1) u6) (nI N) t (nI 0) (bI (wtB N 0)) Q g) (fun u6 => w_M_findWins_l2 (fun u8 => Q u8) (nI N) t Q f (nI 0 + 1) u6) (nI N) t (nI 0) (bI (wtB N 0)) (nI s) r4 v Q := by
            rintro _ rfl
            refine ⟨1, ?_⟩
            rw [w_M_findWins_l71]
            refine ⟨fun e => absurd e (by decide), fun _ => ⟨fun _ => ?_, fun e => absurd (by decide) e⟩⟩
            unfold w_M_findWins_b150
            rw [e256]
            refine ⟨vp_in_nI (by omega) (by omega), ?_⟩
            rw [nI_clamp (by omega), nar_bz (bI_bz _)]
            exact ih2 (_, _) ⟨nI_1 s, Fr.sA (by decide) hf, WinM_put hw hs rfl⟩
          refine ⟨k1, p_isIn (fun c => fin2 1 ?_) (fun c => fin2 0 ?_)⟩
          · rw [k2, isin (B8_CM b n _) ht] at c
            unfold wnN; rw [decide_eq_false c]; rfl
          · rw [k2, isin (B8_CM b n _) ht, Classical.not_not] at c
            unfold wnN; rw [decide_eq_true c]; rfl
    refine ⟨fun e => fin _ ?_, fun e => fin _ ?_⟩
    · unfold wtB; rw [decide_eq_false e]; rfl
    · unfold wtB; rw [decide_eq_true e]; rfl
theorem ac_wit {w : Bool} {g : Nat → Bool} : ∀ {k : Nat}, acN true w g k = true → w = false → ∃ i, i < k ∧ g i = true
  | 0, h, e => by unfold acN at h; rw [e] at h; exact absurd h (by decide)
  | k + 1, h, e => by
    unfold acN at h
    rw [if_pos rfl, Bool.or_eq_true] at h
    rcases h with h | h
    · obtain ⟨i, hi, g⟩ := ac_wit h e
      exact ⟨i, by omega, g⟩
    · exact ⟨k, by omega, h⟩
theorem ac_no {w : Bool} {g : Nat → Bool} {k : Nat} (h : acN true w g k = false) : w = false ∧ ∀ i, i < k → g i = false := by
  induction k with
  | zero => exact ⟨h, fun i hi => absurd hi (Nat.not_lt_zero i)⟩
  | succ k ih =>
    unfold acN at h
    rw [if_pos rfl, Bool.or_eq_false_iff] at h
    refine ⟨(ih h.1).1, fun i hi => ?_⟩
    rcases Nat.lt_or_ge i k with x | x
    · exact (ih h.1).2 i x
    · rw [show i = k by omega]; exact h.2
theorem pM_playOf {f t x3 : Int32} {N : Nat} {Q : Int32 → Mem → Prop} (hN : N ≤ 4) (ht : TH t) (hh : HouseM u b n d m) (hf0 : u.1 4 = f) (hf : B8 f) (q : ∀ w, Fr [] [13] u w → Q (if x3 = 0 then bI (wnN (CMf b n) t N true f) else tchN (CMf b n) t f N) w) : w_M_playOf (nI N) t x3 u Q := by
  unfold w_M_playOf
  refine pM_findWins hN ht hh (fun w hw hW => ?_)
  have q := q w hw
  have e4 : w.1 4 = f := by rw [hw.1 4 (by decide)]; exact hf0
  rw [e4]
  obtain ⟨j, hj, ej⟩ := B8_nI hf
  have eN : w.2 13 (256 * N + j) = bI (wnN (CMf b n) t N true f) := by
    rw [hW.1 N (by omega) j hj, ← ej]; unfold wtB; rw [Nat.sub_self, decide_eq_true (by rfl)]
  rw [ej, e256, nI_clamp (by omega), eN]
  refine ⟨vp_in_nI (by omega) (by omega), fun e => ?_, fun e => ?_⟩
  · rw [if_neg e] at q
    cases N with
    | zero => exact ⟨fun _ => q, fun _ => ⟨fun _ => q, fun e => absurd rfl e⟩⟩
    | succ l =>
      rw [tchN] at q
      have el : ∀ s, s < 256 → w.2 13 (256 * l + s) = bI (wnN (CMf b n) t l false (nI s)) := fun s hs => by
        rw [hW.1 l (by omega) s hs, wtB_s (by omega)]
        unfold wtB; rw [Nat.sub_self, decide_eq_true (by rfl)]; rfl
      refine ⟨fun e => ?_, fun e => ⟨fun g => absurd g (nI_ne0 (by omega) (by omega)), fun _ => ?_⟩⟩
      · rw [bI_0] at e
        unfold wnN at e
        obtain ⟨e1, e2⟩ := ac_no e
        unfold fsI at q
        rw [if_neg (first_none (p := fun i => wnN (CMf b n) t l false (f ^^^ bit1 (nI i))) e2), ite_self] at q
        exact q
      · rw [bI_0, Bool.not_eq_false] at e
        rw [nI_pred, e256, nI_clamp (by omega), el j hj, ← ej]
        refine ⟨vp_in_nI (by omega) (by omega), fun g => ?_, fun g => ?_⟩
        · rw [bI_0] at g
          unfold wnN at e
          obtain ⟨i0, hi0, g0⟩ := ac_wit e g
          rw [if_neg (by rw [g]; decide)] at q
          obtain ⟨i, hi, hp, hno⟩ := fb_first (p := fun i => wnN (CMf b n) t l false (f ^^^ bit1 (nI i)) = true) ⟨i0, hi0, g0⟩
          unfold fsI at q
          rw [first_at (i := i) (fun j hj => by simpa using hno j hj) hp hi, if_pos hi] at q
          have key : ∀ r k, k + r = i → w_M_playOf_l72 (fun z4 => Q z4 w) (nI (l + 1)) w Q (r + 1) (nI k) := by
            intro r
            induction r with
            | zero =>
              intro k hk
              rw [show k = i by omega, w_M_playOf_l72, e4, nI_pred]
              obtain ⟨j2, hj2, ej2⟩ := B8_nI (B8_xb hf hi)
              have ej2' : f ^^^ ((1 : Int32) <<< (nI i &&& 31)) = nI j2 := ej2
              rw [ej2', e256]
              refine ⟨vp_in_nI (by omega) (by omega), ?_⟩
              rintro _ rfl
              rw [nI_clamp (by omega), el j2 hj2, ← ej2]
              exact ⟨fun _ => q, fun x => absurd (bI_0.mp x) (by rw [hp]; decide)⟩
            | succ r ihr =>
              intro k hk
              rw [w_M_playOf_l72, e4, nI_pred, nI_1]
              obtain ⟨j2, hj2, ej2⟩ := B8_nI (B8_xb (i := k) hf (by omega))
              have ej2' : f ^^^ ((1 : Int32) <<< (nI k &&& 31)) = nI j2 := ej2
              rw [ej2', e256]
              refine ⟨vp_in_nI (by omega) (by omega), ?_⟩
              rintro _ rfl
              rw [nI_clamp (by omega), el j2 hj2, ← ej2]
              exact ⟨fun x => absurd (bI_0.mpr (by simpa using hno k (by omega))) x, fun _ => ihr (k + 1) (by omega)⟩
          exact ⟨i + 1, key i 0 (by omega)⟩
        · rw [bI_0, Bool.not_eq_false] at g
          rw [if_pos g] at q
          exact q
  · rw [if_pos e] at q
    refine ⟨fun e => ?_, fun e => ?_⟩
    · rw [bI_0] at e; rw [e] at q; exact q
    · rw [bI_0, Bool.not_eq_false] at e; rw [e] at q; exact q
end
