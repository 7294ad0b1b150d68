/-! every step keeps the relation; it holds at first -/
theorem fl_0 (b : Nat → Int32) : faultL b 0 = -1 := by
  unfold faultL; rw [if_pos (show flL b 0 = -1 from rfl), if_pos (Or.inl rfl)]
theorem fd_0 (b : Nat → Int32) : faultD b 0 = -1 := by
  unfold faultD; rw [if_pos (show flD b 0 = -1 from rfl), if_pos (Or.inl rfl)]
theorem cl_0 (b : Nat → Int32) : cntL b 0 = 0 := by
  unfold cntL; rw [if_pos (fl_0 b)]; rfl
theorem cd_0 (b : Nat → Int32) : cntD b 0 = 0 := by
  unfold cntD; rw [if_pos (fd_0 b)]; rfl
theorem he_0 (b : Nat → Int32) (s sg : Int32) : HEf b 0 s sg = 0 := by
  unfold HEf; rw [cl_0]; rfl
theorem ld_0 (b : Nat → Int32) (s : Int32) : LDf b 0 s = 0 := by
  unfold LDf; rw [cd_0]; rfl
theorem rel_init : Rel u0X u0M := by
  refine ⟨⟨fun _ => 0, 0, fun _ => 0, 0, 0, fun _ => 0, fun _ => 0, fun _ => 0, 0, fun _ => 0, fun _ => 0, 0, ⟨by omega, by omega, ⟨by decide, by decide⟩, ⟨by omega, fun i hi => absurd hi (Nat.not_lt_zero i)⟩, by omega⟩, ⟨rfl, rfl, rfl, rfl, ⟨?_, ?_, ?_⟩, ⟨?_, ?_, ?_⟩, ?_, rfl, ⟨rfl, fun i hi => absurd hi (Nat.not_lt_zero i)⟩, ⟨rfl, fun i hi => absurd hi (Nat.not_lt_zero i)⟩⟩, ⟨⟨rfl, fun i hi => absurd hi (Nat.not_lt_zero i)⟩, ⟨rfl, fun i hi => absurd hi (Nat.not_lt_zero i)⟩, rfl, ⟨rfl, fun i hi => absurd hi (Nat.not_lt_zero i)⟩, ⟨rfl, fun i hi => absurd hi (Nat.not_lt_zero i)⟩⟩⟩, ?_, rfl⟩
  · rw [fl_0]; rfl
  · rw [cl_0]; rfl
  · intro j hj; rw [cl_0] at hj; exact absurd hj (Nat.not_lt_zero j)
  · rw [fd_0]; rfl
  · rw [cd_0]; rfl
  · intro j hj; rw [cd_0] at hj; exact absurd hj (Nat.not_lt_zero j)
  · intro _ j _
    unfold NXf
    rw [he_0, he_0, ld_0]
    exact ⟨rfl, rfl, rfl⟩
  · intro s hs
    have hs4 : s = 0 ∨ s = 1 ∨ s = 2 ∨ s = 3 := by omega
    rcases hs4 with rfl | rfl | rfl | rfl
    · exact Or.inl ⟨by decide, by decide⟩
    · exact Or.inl ⟨by decide, by decide⟩
    · exact Or.inl ⟨by decide, by decide⟩
    · exact Or.inl ⟨by decide, by decide⟩
theorem steps_ok : Steps_ok Rel := fun ux um h => ⟨s_type h, s_wipe h, s_undo h, s_fault h, s_rule h, s_dust h, s_first h, s_comes h, s_lays h, s_lay h, s_back h, s_week h, s_judged h, s_two h, s_second h, s_touch h, s_keepOff h, s_bars h, s_play h, s_steady h, s_round h, s_seen h, s_forget h, s_read h, s_stands h, s_watch h, s_moved h, s_cat h, s_let h, s_lot h, s_sheet h, s_lose h, s_put h, s_get h, s_copy h, s_write h, s_count h, s_digest h⟩
