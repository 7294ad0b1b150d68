/-! the pure half: base rows -/
/-- a loop whose state at turn k is known: I k; it goes on for n turns, and ends at turn n -/
theorem exfor {σ : Type} (W : Nat → σ → Prop) (I : Nat → σ) (n : Nat) (hend : ∀ f, W (f + 1) (I n)) (hstep : ∀ f k, k < n → W f (I (k + 1)) → W (f + 1) (I k)) : ∃ f, W f (I 0) := by
  have h : ∀ m k, k + m = n → W (m + 1) (I k) := by
    intro m
    induction m with
    | zero => intro k hk; rw [show k = n by omega]; exact hend 0
    | succ m ih => intro k hk; exact hstep (m + 1) k (by omega) (ih (k + 1) (by omega))
  exact ⟨n + 1, h n 0 (by omega)⟩
/-- a loop with an invariant -/
theorem exinv {σ : Type} (W : Nat → σ → Prop) (I : Nat → σ → Prop) (n : Nat) (s : σ) (h0 : I 0 s) (hend : ∀ f s, I n s → W (f + 1) s) (hstep : ∀ f k s, k < n → I k s → (∀ s', I (k + 1) s' → W f s') → W (f + 1) s) : ∃ f, W f s := by
  have h : ∀ m k s, k + m = n → I k s → W (m + 1) s := by
    intro m
    induction m with
    | zero => intro k s hk hi; exact hend 0 s (by rw [← show k = n by omega]; exact hi)
    | succ m ih => intro k s hk hi; exact hstep (m + 1) k s (by omega) hi (fun s' hi' => ih (k + 1) s' (by omega) hi')
  exact ⟨n + 1, h n 0 s (by omega) h0⟩
/-- what a call leaves as it was: all scalars but S, all rows but A -/
def Fr (S A : List Nat) (u w : Mem) : Prop := (∀ k, k ∉ S → w.1 k = u.1 k) ∧ ∀ k, k ∉ A → w.2 k = u.2 k
theorem Fr.rf {S A : List Nat} {u : Mem} : Fr S A u u := ⟨fun _ _ => rfl, fun _ _ => rfl⟩
theorem Fr.tr {S A : List Nat} {u v w : Mem} (h : Fr S A u v) (g : Fr S A v w) : Fr S A u w := ⟨fun k hk => (g.1 k hk).trans (h.1 k hk), fun k hk => (g.2 k hk).trans (h.2 k hk)⟩
theorem Fr.sS {S A : List Nat} {u v : Mem} {k : Nat} {x : Int32} (hk : k ∈ S) (h : Fr S A u v) : Fr S A u (sS v k x) := ⟨fun j hj => by
  have : j ≠ k := fun e => hj (e ▸ hk)
  simp only [_root_.Jvm.Pilot.@@N@@.sS, if_neg this]; exact h.1 j hj, h.2⟩
theorem Fr.sA {S A : List Nat} {u v : Mem} {k i : Nat} {x : Int32} (hk : k ∈ A) (h : Fr S A u v) : Fr S A u (sA v k i x) := ⟨h.1, fun j hj => by
  have : j ≠ k := fun e => hj (e ▸ hk)
  simp only [_root_.Jvm.Pilot.@@N@@.sA, if_neg this]; exact h.2 j hj⟩
theorem Fr.wide {S A S2 A2 : List Nat} {u v : Mem} (h : Fr S A u v) (hS : ∀ k ∈ S, k ∈ S2) (hA : ∀ k ∈ A, k ∈ A2) : Fr S2 A2 u v := ⟨fun k hk => h.1 k (fun q => hk (hS k q)), fun k hk => h.2 k (fun q => hk (hA k q))⟩
theorem sS_1 {u : Mem} {k j : Nat} {x : Int32} : (sS u k x).1 j = if j = k then x else u.1 j := rfl
theorem sS_2 {u : Mem} {k : Nat} {x : Int32} : (sS u k x).2 = u.2 := rfl
theorem sA_1 {u : Mem} {k i : Nat} {x : Int32} : (sA u k i x).1 = u.1 := rfl
theorem sA_2 {u : Mem} {k i j : Nat} {x : Int32} : (sA u k i x).2 j = if j = k then upd (u.2 k) i x else u.2 j := rfl
theorem sR_1 {u : Mem} {k : Nat} {f : Nat → Int32} : (sR u k f).1 = u.1 := rfl
theorem sR_2 {u : Mem} {k j : Nat} {f : Nat → Int32} : (sR u k f).2 j = if j = k then f else u.2 j := rfl
theorem upd_ap (f : Nat → Int32) (i j : Nat) (x : Int32) : upd f i x j = if j = i then x else f j := rfl
/-- a set of eight things -/
def B8 (x : Int32) : Prop := 0 ≤ x ∧ x ≤ 255
theorem B8_nI {x : Int32} (h : B8 x) : ∃ j, j < 256 ∧ x = nI j := by
  obtain ⟨j, hj, e⟩ := nI_of2 (M := 255) (n := 255) rfl (by rw [Int32.not_lt]; exact h.1) h.2
  exact ⟨j, by omega, e⟩
theorem B8_of {j : Nat} (h : j < 256) : B8 (nI j) := ⟨nI_pos' (by omega), (nI_leI (b := 255) (by omega) (by omega)).mpr (by omega)⟩
theorem B8_iff {x : Int32} : B8 x ↔ x &&& 255 = x := by
  constructor
  · intro h
    obtain ⟨j, hj, rfl⟩ := B8_nI h
    rw [pk_andN (by omega) 8 rfl, Nat.mod_eq_of_lt hj]
  · intro h
    obtain ⟨j, hj, e⟩ := pk_andE x (m := 255) 8 rfl
    rw [← h, e]
    exact B8_of hj
theorem p_isBits {x : Int32} {Q : Int32 → Prop} (ht : B8 x → Q 1) (hf : ¬ B8 x → Q 0) : w_X_isBits x Q := by
  unfold w_X_isBits
  grind [B8]
