/-! read -/
def upN (ss : Nat → Int32) (k : Nat) (it : Nat → Int32) (o : Nat) : Nat → Nat → Int32
  | 0 => ss
  | j + 1 => upd (upN ss k it o j) (k + j) (it (2 * j + o))
def okJ (it : Nat → Int32) (k j : Nat) : Prop := B8 (it (2 * j)) ∧ B8 (it (2 * j + 1)) ∧ k + j < 8
theorem rd_ex (P : Nat → Prop) (sz : Nat) : ∃ R, 2 * R ≤ sz ∧ (∀ j, j < R → P j) ∧ (sz < 2 * R + 2 ∨ ¬ P R) := by
  have : ∀ e R, sz ≤ 2 * R + e → 2 * R ≤ sz → (∀ j, j < R → P j) → ∃ R, 2 * R ≤ sz ∧ (∀ j, j < R → P j) ∧ (sz < 2 * R + 2 ∨ ¬ P R) := by
    intro e
    induction e with
    | zero => intro R h1 h2 h3; exact ⟨R, h2, h3, Or.inl (by omega)⟩
    | succ e ih =>
      intro R h1 h2 h3
      by_cases c1 : sz < 2 * R + 2
      · exact ⟨R, h2, h3, Or.inl c1⟩
      · by_cases c2 : P R
        · refine ih (R + 1) (by omega) (by omega) (fun j hj => ?_)
          rcases Nat.lt_or_ge j R with x | x
          · exact h3 j x
          · rw [show j = R by omega]; exact c2
        · exact ⟨R, h2, h3, Or.inr c2⟩
  exact this sz 0 (by omega) (by omega) (fun j hj => absurd hj (Nat.not_lt_zero j))
section
variable {u v w : Mem} {ux um wx wm : Mem} {b d : Nat → Int32} {n m : Nat} {f : Int32} {lw lb lz : Nat → Int32} {c : Nat} {ss sb : Nat → Int32} {k : Nat}
theorem p_item {s sz i : Nat} {Q : Int32 → Prop} (hz : u.1 (15 + 3 * s) = nI sz) (hsz : sz ≤ 60) (hi : i < sz) (q : Q (u.2 (17 + s) i)) : w_Z_item s (nI i) u Q := by
  refine p_has hz hsz (fun _ => t01 ⟨fun e => absurd ((nI_leI (a := 60) (by omega) (by omega)).mp e) (by omega), fun _ => ⟨vp_in_nI (by omega) (by omega), ?_⟩⟩) (fun e => absurd ?_ e)
  · rw [nI_clamp (by omega)]; exact q
  · have e1 : (1 : Int32).toInt = 1 := rfl
    unfold HasP
    rw [nI_toInt (by omega), e1]
    omega
theorem k_R {it : Nat → Int32} {R : Nat} (hk : k ≤ 8) (hall : ∀ j, j < R → okJ it k j) : k + R ≤ 8 := by
  cases R with
  | zero => exact hk
  | succ R => have := (hall R (by omega)).2.2; omega
theorem x_read_loop {s sz R : Nat} {it : Nat → Int32} {Q : Int32 → Mem → Prop} (hk : k ≤ 8) (h : QX u b n d m f lw lb lz c ss sb k) (hsz : sz ≤ 60) (hz : u.1 (15 + 3 * s) = nI sz) (hit : ∀ i, i < sz → u.2 (17 + s) i = it i) (hR : 2 * R ≤ sz) (hall : ∀ j, j < R → okJ it k j) (hend : sz < 2 * R + 2 ∨ ¬ okJ it k R)
    (q : ∀ w, QX w b n d m f lw lb lz c (upN ss k it 0 R) (upN sb k it 1 R) (k + R) → Fr [13] [15, 16] u w → Q (nI R) w) : ∃ g, w_X_read_l40 (fun z19 u20 => Q z19 u20) s Q g 0 0 u := by
  have kp : ∀ w, Fr [13] [15, 16] u w → w.1 (15 + 3 * s) = nI sz ∧ ∀ i, i < sz → w.2 (17 + s) i = it i := fun w g => by
    rw [g.1 _ (by simp only [List.mem_cons, List.not_mem_nil, or_false]; omega), g.2 _ (by simp only [List.mem_cons, List.not_mem_nil, or_false]; omega)]
    exact ⟨hz, hit⟩
  refine exinv (fun g (a : Int32 × Int32 × Mem) => w_X_read_l40 (fun z19 u20 => Q z19 u20) s Q g a.1 a.2.1 a.2.2) (fun j a => a.1 = nI j ∧ a.2.1 = nI (2 * j) ∧ QX a.2.2 b n d m f lw lb lz c (upN ss k it 0 j) (upN sb k it 1 j) (k + j) ∧ Fr [13] [15, 16] u a.2.2) R (0, 0, u) ⟨rfl, rfl, h, Fr.rf⟩ ?_ ?_
  · rintro g ⟨_, _, w⟩ ⟨rfl, rfl, hw, gw⟩
    dsimp only at hw gw ⊢
    obtain ⟨z1, z2⟩ := kp w gw
    rw [w_X_read_l40]
    unfold w_Z_size
    rw [z1, nI_1 (2 * R)]
    dsimp only
    rw [nI_leI (by omega) (by omega)]
    refine ⟨fun _ => q w hw gw, fun e => ?_⟩
    have hn := hend.resolve_left (by omega)
    refine p_item z1 hsz (by omega) (p_item z1 hsz (by omega) ?_)
    rw [z2 _ (by omega), z2 _ (by omega)]
    refine p_isBits (fun c1 => t01 (p_isBits (fun c2 => t01 ?_) (fun _ => f01 (q w hw gw)))) (fun _ => f01 (q w hw gw))
    have hk8 := k_R hk hall
    exact x_add hk8 hw (fun c3 => absurd ⟨c1, c2, c3⟩ hn) (fun _ => f10 (q w hw gw))
  · rintro g j ⟨_, _, w⟩ hj ⟨rfl, rfl, hw, gw⟩ ih
    dsimp only at hw gw ⊢
    obtain ⟨z1, z2⟩ := kp w gw
    rw [w_X_read_l40]
    unfold w_Z_size
    rw [z1, nI_1 (2 * j)]
    dsimp only
    rw [nI_leI (by omega) (by omega)]
    refine ⟨fun e => absurd e (by omega), fun e => ?_⟩
    have hjj := hall j hj
    refine p_item z1 hsz (by omega) (p_item z1 hsz (by omega) ?_)
    rw [z2 _ (by omega), z2 _ (by omega)]
    refine p_isBits (fun c1 => t01 (p_isBits (fun c2 => t01 ?_) (fun e => absurd hjj.2.1 e))) (fun e => absurd hjj.1 e)
    refine x_add (by have := hjj.2.2; omega) hw (fun c3 wx hwx gx => t10 ?_) (fun e => absurd hjj.2.2 (by omega))
    exact ih (_, _, wx) ⟨nI_1 j, by dsimp only; rw [show (2 : Int32) = nI 2 from rfl, nI_add]; rfl, hwx, gw.tr gx⟩
theorem m_read_loop {s sz R : Nat} {it : Nat → Int32} {X Q : Int32 → Mem → Prop} (hs : s < 4) (hk : k ≤ 8) (h : QM u b n d m f lw lb lz c ss sb k) (hsz : sz ≤ 60) (hz : u.2 1 s = nI sz) (hit : ∀ i, i < sz → u.2 2 (60 * s + i) = it i) (hR : 2 * R ≤ sz) (hall : ∀ j, j < R → okJ it k j) (hend : sz < 2 * R + 2 ∨ ¬ okJ it k R)
    (q : ∀ w, QM w b n d m f lw lb lz c (upN ss k it 0 R) (upN sb k it 1 R) (k + R) → Fr [6] [15] u w → X (nI R) w) : ∃ g, w_M_read_l29 X (nI s) Q g 0 1 u := by
  have kp : ∀ w, Fr [6] [15] u w → w.2 1 s = nI sz ∧ ∀ i, i < sz → w.2 2 (60 * s + i) = it i := fun w g => by
    rw [g.2 1 (by decide), g.2 2 (by decide)]
    exact ⟨hz, hit⟩
  have i2 : ∀ j : Nat, (2 : Int32) * nI j + 2 = nI (2 * j + 2) := fun j => by rw [e2k, show (2 : Int32) = nI 2 from rfl, nI_add]
  have hv : vp_in (nI s) 4 := vp_in_nI hs (by omega)
  refine exinv (fun g (a : Int32 × Int32 × Mem) => w_M_read_l29 X (nI s) Q g a.1 a.2.1 a.2.2) (fun j a => (j ≤ R ∧ a.1 = nI j ∧ a.2.1 = 1 ∧ QM a.2.2 b n d m f lw lb lz c (upN ss k it 0 j) (upN sb k it 1 j) (k + j) ∧ Fr [6] [15] u a.2.2) ∨ (j = R + 1 ∧ a.1 = nI R ∧ a.2.1 = 0 ∧ QM a.2.2 b n d m f lw lb lz c (upN ss k it 0 R) (upN sb k it 1 R) (k + R) ∧ Fr [6] [15] u a.2.2)) (R + 1) (0, 1, u) (Or.inl ⟨by omega, rfl, rfl, h, Fr.rf⟩) ?_ ?_
  · rintro g ⟨_, _, w⟩ (⟨e, -⟩ | ⟨-, rfl, rfl, hw, gw⟩)
    · omega
    · dsimp only at hw gw ⊢
      rw [w_M_read_l29]
      exact ⟨fun _ => q w hw gw, fun e => absurd rfl e⟩
  · rintro g j ⟨_, _, w⟩ hj (⟨hjR, rfl, rfl, hw, gw⟩ | ⟨e, -⟩) ih
    · dsimp only at hw gw ⊢
      obtain ⟨z1, z2⟩ := kp w gw
      rw [w_M_read_l29, nI_clamp (by omega), z1, i2, nI_ltI (by omega) (by omega)]
      have ea : (60 * nI s + 2 * nI j).toNatClampNeg = 60 * s + 2 * j := by rw [e2k, e60, nI_clamp (by omega)]
      have eb : (60 * nI s + 2 * nI j + 1).toNatClampNeg = 60 * s + (2 * j + 1) := by rw [e2k, e60, nI_1, nI_clamp (by omega)]; omega
      refine ⟨fun e => absurd e (by decide), fun _ => ⟨hv, fun e => ?_, fun e => ?_⟩⟩
      · obtain rfl : j = R := by omega
        exact q w hw gw
      · have va : vp_in (60 * nI s + 2 * nI j) 240 := by rw [e2k, e60]; exact vp_in_nI (by omega) (by omega)
        have vb : vp_in (60 * nI s + 2 * nI j + 1) 240 := by rw [e2k, e60, nI_1]; exact vp_in_nI (by omega) (by omega)
        refine ⟨va, vb, ?_⟩
        rw [ea, eb, z2 _ (by omega), z2 _ (by omega)]
        unfold w_M_read_b87 w_M_read_b98
        have hk8 : k + j ≤ 8 := k_R hk (fun i hi => hall i (by omega))
        by_cases hjj : okJ it k j
        · have hlt : j < R := by
            rcases Nat.lt_or_ge j R with x | x
            · exact x
            · obtain rfl : j = R := by omega
              exact absurd hjj (hend.resolve_left e)
          refine m_seen1 hk8 hw hjj.1 hjj.2.1 (fun c3 wm hwm gm => ⟨fun y => absurd y (nI_pos (by omega)), fun _ => ⟨fun y => absurd y (by decide), fun _ => ?_⟩⟩) (fun y => absurd hjj.2.2 (by omega))
          exact ih (_, _, wm) (Or.inl ⟨by omega, nI_1 j, rfl, hwm, gw.tr gm⟩)
        · obtain rfl : j = R := by
            rcases Nat.lt_or_ge j R with x | x
            · exact absurd (hall j x) hjj
            · omega
          have stop : ∀ r : Int32, r < 0 → ((r < 0 → ((0 : Int32) = 0 → w_M_read_l29 X (nI s) Q g (nI j + 0) 0 w) ∧ (¬ (0 : Int32) = 0 → w_M_read_l29 X (nI s) Q g (nI j + 1) 0 w)) ∧ (¬ r < 0 → ((1 : Int32) = 0 → w_M_read_l29 X (nI s) Q g (nI j + 0) 1 w) ∧ (¬ (1 : Int32) = 0 → w_M_read_l29 X (nI s) Q g (nI j + 1) 1 w))) := fun r hr => by
            refine ⟨fun _ => f01 ?_, fun y => absurd hr y⟩
            rw [Int32.add_zero]
            exact ih (_, _, w) (Or.inr ⟨rfl, rfl, rfl, hw, gw⟩)
          by_cases hb : B8 (it (2 * j)) ∧ B8 (it (2 * j + 1))
          · exact m_seen1 hk8 hw hb.1 hb.2 (fun c3 => absurd ⟨hb.1, hb.2, c3⟩ hjj) (fun _ => stop (-4) (by decide))
          · exact m_seen0 hb (stop (-2) (by decide))
    · omega
theorem s_read (h : Rel ux um) : ∀ a1 : Int32, w_X_read a1 ux (fun rX wX => w_M_read a1 um (fun rM wM => rX = rM ∧ Rel wX wM)) := by
  intro a1
  have sh := h.2.1
  refine p_isSheet (fun c1 => t10 ?_) (fun c1 => f10 (p_M_isSheet (fun e => absurd e c1) (fun _ => f10 ⟨rfl, h⟩)))
  obtain ⟨s, hs, rfl⟩ := SH_nI c1
  have hv : vp_in (nI s) 4 := vp_in_nI hs (by omega)
  unfold w_Z_isLost w_X_finding
  rw [nI_clamp (by omega)]
  rcases sh s hs with ⟨l1, l2⟩ | ⟨l1, fo, sz, hfo, hsz, q1, q2, q3, q4, q5⟩
  · refine ⟨hv, Or.inr l1, fun e => absurd (l1.symm.trans e) (by decide), fun _ => ?_⟩
    refine p_M_isSheet (fun _ => t10 ⟨hv, ?_⟩) (fun e => absurd c1 e)
    rw [nI_clamp (by omega), l2]
    exact ⟨fun e => absurd e (by decide), fun _ => ⟨rfl, Rel_find h⟩⟩
  · refine ⟨hv, Or.inl l1, fun _ => ⟨hv, ?_⟩, fun e => absurd l1 e⟩
    obtain ⟨⟨b, n, d, m, f, lw, lb, lz, c, ss, sb, k, ok, hx, hm⟩, -, hl⟩ := h
    obtain ⟨R, hR, hall, hend⟩ := rd_ex (okJ (fun i => um.2 2 (60 * s + i)) k) sz
    have hk := ok.2.2.2.2
    refine x_read_loop (it := fun i => um.2 2 (60 * s + i)) hk hx hsz q3 q5 hR hall hend (fun wx hwx gx => ?_)
    refine p_M_isSheet (fun _ => t10 ⟨hv, ?_⟩) (fun e => absurd c1 e)
    rw [nI_clamp (by omega), q2]
    refine ⟨fun _ => m_read_loop (it := fun i => um.2 2 (60 * s + i)) hs hk hm hsz q4 (fun i _ => rfl) hR hall hend (fun wm hwm gm => ⟨rfl, ?_⟩), fun e => absurd (nI_pos' (by omega)) e⟩
    exact Rel_q ⟨ok.1, ok.2.1, ok.2.2.1, ok.2.2.2.1, k_R hk hall⟩ hwx hwm gx (by decide) (by decide) gm (by decide) (by decide) sh hl
end
