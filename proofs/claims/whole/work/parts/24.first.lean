/-! the beginning -/
def x00 : Rg := (fun k => if k = 14 then 1 else 0, fun _ => (0, fun _ => 0, fun _ => 0))
def A00 : All := (x00, fun _ => none, fun k => if k = 1 ∨ k = 2 then -1 else 0, (0, fun _ => 0), (0, fun _ => (0, 0, 0, 0)), (none, 0, fun _ => 0))
theorem gd00 : Gd A00 := by
  have h1 : GdR x00 := ⟨by decide, by decide, by decide, by decide, by decide, by decide, by decide, by decide, by decide, by decide, by decide, fun j hj => absurd hj (Nat.not_lt_zero _)⟩
  have h2 : GdI (fun _ => none) := fun k y h => by cases h
  have h5 : GdD (none, 0, fun _ => 0) := fun d h => by cases h
  exact ⟨h1, h2, ⟨by decide, fun j hj => absurd hj (Nat.not_lt_zero _)⟩, ⟨by decide, fun j hj => absurd hj (Nat.not_lt_zero _)⟩, h5⟩
set_option maxRecDepth 100000 in
theorem stI_23 : ∀ j, sI stI 23 j = 0 := fun _ => rfl
set_option maxRecDepth 100000 in
theorem stI_24 : ∀ j, sI stI 24 j = 0 := fun _ => rfl
set_option maxRecDepth 100000 in
theorem stI_R19 : sR stI 19 7 = none := rfl
set_option maxRecDepth 100000 in
theorem stI_R6' : ∀ j, sR stI 6 j = none := fun _ => rfl
set_option maxRecDepth 100000 in
theorem cv00 : CV stI A00 := by
  refine ⟨wt_stI, ⟨⟨⟨rfl, rfl, rfl, rfl, rfl⟩, ⟨rfl, rfl, rfl, rfl⟩, fun j hj => ?_, fun j hj => ?_⟩, fun i hi => absurd hi (Nat.not_lt_zero _)⟩, ⟨fun k hk => Or.inl ⟨rfl, stI_R6' k⟩, fun t h => by rw [stI_R6'] at h; cases h.1⟩, ⟨rfl, rfl, rfl, rfl, fun j hj => ?_⟩, ⟨rfl, fun j hj => absurd hj (Nat.not_lt_zero _)⟩, ⟨rfl, fun j hj => absurd hj (Nat.not_lt_zero _)⟩, Or.inl ⟨rfl, rfl⟩, ⟨none, 0, 0, 1, Or.inl ⟨rfl, stI_R19⟩, ⟨by decide, by decide, rfl, rfl⟩, ⟨by decide, by decide, rfl⟩, fun c hc => ⟨0, by decide, stI_23 c, fun h => absurd h (by decide)⟩, fun c hc => ⟨0, by decide, stI_24 c, fun h => absurd h (by decide)⟩⟩⟩
  · have hc : j = 0 ∨ j = 1 ∨ j = 2 ∨ j = 3 ∨ j = 4 ∨ j = 5 := by omega
    rcases hc with rfl | rfl | rfl | rfl | rfl | rfl <;> rfl
  · have hc : j = 0 ∨ j = 1 ∨ j = 2 ∨ j = 3 ∨ j = 4 := by omega
    rcases hc with rfl | rfl | rfl | rfl | rfl <;> rfl
  · have hc : j = 0 ∨ j = 1 ∨ j = 2 ∨ j = 3 ∨ j = 4 := by omega
    rcases hc with rfl | rfl | rfl | rfl | rfl <;> rfl
set_option maxRecDepth 100000 in
theorem mv00 : MV stI A00 := by
  refine ⟨fun _ => rfl, ⟨fun k hk => ?_, rfl, fun i hi => absurd hi (Nat.not_lt_zero _)⟩, fun k hk => Or.inl ⟨rfl, ?_⟩, ⟨rfl, rfl, rfl, rfl, rfl, rfl, rfl, rfl, rfl⟩, ⟨rfl, fun j hj => absurd hj (Nat.not_lt_zero _)⟩, ⟨rfl, fun j hj => absurd hj (Nat.not_lt_zero _)⟩, Or.inl ⟨rfl, rfl⟩⟩
  · have h : ∀ k, k < 19 → sI stI 40 (0 + k) = nI (x00.1 k) := by decide +kernel
    exact h k hk
  · have hc : k = 0 ∨ k = 1 := by omega
    rcases hc with rfl | rfl <;> rfl
theorem inv00 : Inv stI := ⟨A00, gd00, cv00, mv00⟩
/-! reads alone -/
theorem st9 : Step9 Inv := by
  rintro st ⟨A, g, c, m⟩
  exact ⟨A.2.2.1 3, c.2.2.2.1.2.2.2.1, m.2.2.2.1.2.2.2.1⟩
theorem st12 : Step12 Inv := by
  rintro st ⟨A, g, c, m⟩
  exact ⟨A.2.2.1 1, c.2.2.2.1.2.1, m.2.2.2.1.2.1⟩
theorem st13 : Step13 Inv := by
  rintro st ⟨A, g, c, m⟩
  exact ⟨A.2.2.1 2, c.2.2.2.1.2.2.1, m.2.2.2.1.2.2.1⟩
theorem st33 : Step33 Inv := by
  rintro st ⟨A, g, c, m⟩
  exact ⟨A.2.2.1 0, c.2.2.2.1.1, m.2.2.2.1.1⟩
