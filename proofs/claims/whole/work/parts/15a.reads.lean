/-! reading what was written -/
theorem sn_alc {st : St} {k n : Nat} : sn (alc st k n) = sn st + 1 := rfl
theorem sn_pI {st : St} {a j : Nat} {v : Int32} : sn (pI st a j v) = sn st := rfl
theorem sn_pL {st : St} {a j : Nat} {v : Int64} : sn (pL st a j v) = sn st := rfl
theorem sn_pR {st : St} {a j : Nat} {r : Option Nat} : sn (pR st a j r) = sn st := rfl
theorem sn_rI {st : St} {a : Nat} {f : Nat → Int32} : sn (rI st a f) = sn st := rfl
theorem sK_alc {st : St} {k n a : Nat} : sK (alc st k n) a = if a = sn st then k else sK st a := rfl
theorem sK_pI {st : St} {a j b : Nat} {v : Int32} : sK (pI st a j v) b = sK st b := rfl
theorem sK_pL {st : St} {a j b : Nat} {v : Int64} : sK (pL st a j v) b = sK st b := rfl
theorem sK_pR {st : St} {a j b : Nat} {r : Option Nat} : sK (pR st a j r) b = sK st b := rfl
theorem sK_rI {st : St} {a b : Nat} {f : Nat → Int32} : sK (rI st a f) b = sK st b := rfl
theorem sN_alc {st : St} {k n a : Nat} : sN (alc st k n) a = if a = sn st then n else sN st a := rfl
theorem sN_pI {st : St} {a j b : Nat} {v : Int32} : sN (pI st a j v) b = sN st b := rfl
theorem sN_pL {st : St} {a j b : Nat} {v : Int64} : sN (pL st a j v) b = sN st b := rfl
theorem sN_pR {st : St} {a j b : Nat} {r : Option Nat} : sN (pR st a j r) b = sN st b := rfl
theorem sN_rI {st : St} {a b : Nat} {f : Nat → Int32} : sN (rI st a f) b = sN st b := rfl
theorem sR_alc {st : St} {k n a i : Nat} : sR (alc st k n) a i = if a = sn st then none else sR st a i := by
  show va_up st.1.2.2.1 (sn st) (fun _ => none) a i = _
  unfold va_up; split <;> rfl
theorem sR_pI {st : St} {a j b i : Nat} {v : Int32} : sR (pI st a j v) b i = sR st b i := rfl
theorem sR_pL {st : St} {a j b i : Nat} {v : Int64} : sR (pL st a j v) b i = sR st b i := rfl
theorem sR_rI {st : St} {a b i : Nat} {f : Nat → Int32} : sR (rI st a f) b i = sR st b i := rfl
theorem sR_pR {st : St} {a j b i : Nat} {r : Option Nat} : sR (pR st a j r) b i = if b = a ∧ i = j then r else sR st b i := by
  show up2 st.1.2.2.1 a j r b i = _
  unfold up2 va_up
  by_cases h1 : b = a
  · subst h1
    by_cases h2 : i = j <;> simp [h2, sR]
  · simp [h1, sR]
theorem sI_alc {st : St} {k n a i : Nat} : sI (alc st k n) a i = if a = sn st then 0 else sI st a i := by
  show va_up st.2.1 (sn st) (fun _ => 0) a i = _
  unfold va_up; split <;> rfl
theorem sI_pI {st : St} {a j b i : Nat} {v : Int32} : sI (pI st a j v) b i = if b = a ∧ i = j then v else sI st b i := by
  show up2 st.2.1 a j v b i = _
  unfold up2 va_up
  by_cases h1 : b = a
  · subst h1
    by_cases h2 : i = j <;> simp [h2, sI]
  · simp [h1, sI]
theorem sI_pL {st : St} {a j b i : Nat} {v : Int64} : sI (pL st a j v) b i = sI st b i := rfl
theorem sI_pR {st : St} {a j b i : Nat} {r : Option Nat} : sI (pR st a j r) b i = sI st b i := rfl
theorem sI_rI {st : St} {a b i : Nat} {f : Nat → Int32} : sI (rI st a f) b i = if b = a then f i else sI st b i := by
  show va_up st.2.1 a f b i = _
  unfold va_up; split <;> rfl
theorem sL_pI {st : St} {a j b i : Nat} {v : Int32} : sL (pI st a j v) b i = sL st b i := rfl
theorem sL_pR {st : St} {a j b i : Nat} {r : Option Nat} : sL (pR st a j r) b i = sL st b i := rfl
theorem sL_rI {st : St} {a b i : Nat} {f : Nat → Int32} : sL (rI st a f) b i = sL st b i := rfl
theorem sL_pL {st : St} {a j b i : Nat} {v : Int64} : sL (pL st a j v) b i = if b = a ∧ i = j then v else sL st b i := by
  show up2 st.2.2 a j v b i = _
  unfold up2 va_up
  by_cases h1 : b = a
  · subst h1
    by_cases h2 : i = j <;> simp [h2, sL]
  · simp [h1, sL]
theorem a_ne {st : St} {a : Nat} (h : a < sn st) : ¬ a = sn st ∧ ¬ a = sn st + 1 ∧ ¬ a = sn st + 2 ∧ ¬ a = sn st + 3 ∧ ¬ a = sn st + 4 ∧ ¬ a = sn st + 5 ∧ ¬ a = sn st + 6 := by omega
set_option maxHeartbeats 1000000 in
theorem wt_scr {st : St} {p : Int32} (w : WT st) : WT (iX5_init (sn st) p (alc st 5 0)) := by
  refine fr_scr rfl w rfl (fun a ha => ⟨?_, ?_, fun i => ?_⟩) ?_ (fun q hq => ?_) (fun q hq => ?_) (fun q hq => ?_)
  · obtain ⟨h0, h1, h2, h3, h4, h5, h6⟩ := a_ne ha
    simp [iX5_init, sK_alc, sK_pI, sK_pR, sn_alc, sn_pI, sn_pR, h0, h1, h2, h3, h4, h5, h6]
  · obtain ⟨h0, h1, h2, h3, h4, h5, h6⟩ := a_ne ha
    simp [iX5_init, sN_alc, sN_pI, sN_pR, sn_alc, sn_pI, sn_pR, h0, h1, h2, h3, h4, h5, h6]
  · obtain ⟨h0, h1, h2, h3, h4, h5, h6⟩ := a_ne ha
    simp [iX5_init, sR_alc, sR_pI, sR_pR, sn_alc, sn_pI, sn_pR, h0, h1, h2, h3, h4, h5, h6]
  · simp [iX5_init, sK_alc, sK_pI, sK_pR, sn_alc, sn_pI, sn_pR, Nat.add_assoc]
  · have hc : q = 0 ∨ q = 1 ∨ q = 2 ∨ q = 3 ∨ q = 4 := by omega
    rcases hc with rfl | rfl | rfl | rfl | rfl <;> simp [iX5_init, sK_alc, sK_pI, sK_pR, sn_alc, sn_pI, sn_pR, Nat.add_assoc]
  · have hc : q = 0 ∨ q = 1 ∨ q = 2 ∨ q = 3 := by omega
    rcases hc with rfl | rfl | rfl | rfl <;> simp [iX5_init, sN_alc, sN_pI, sN_pR, sn_alc, sn_pI, sn_pR, Nat.add_assoc]
  · have hc : q = 0 ∨ q = 1 ∨ q = 2 ∨ q = 3 ∨ q = 4 := by omega
    rcases hc with rfl | rfl | rfl | rfl | rfl <;> simp [iX5_init, sR_alc, sR_pI, sR_pR, sn_alc, sn_pI, sn_pR, Nat.add_assoc]
set_option maxHeartbeats 1000000 in
theorem wt_rng {st : St} (w : WT st) : WT (iX4_init (sn st) (alc st 4 0)) := by
  have hn : sn (iX4_init (sn st) (alc st 4 0)) = sn st + 5 := rfl
  refine fr_ring rfl w rfl (fun a ha => ⟨?_, ?_, fun i => ?_⟩) ?_ ?_ (fun q hq => ?_)
  · obtain ⟨h0, h1, h2, h3, h4, h5, h6⟩ := a_ne ha
    simp [iX4_init, sK_alc, sK_pI, sK_pR, sn_alc, sn_pI, sn_pR, h0, h1, h2, h3, h4, h5, h6]
  · obtain ⟨h0, h1, h2, h3, h4, h5, h6⟩ := a_ne ha
    simp [iX4_init, sN_alc, sN_pI, sN_pR, sn_alc, sn_pI, sn_pR, h0, h1, h2, h3, h4, h5, h6]
  · obtain ⟨h0, h1, h2, h3, h4, h5, h6⟩ := a_ne ha
    simp [iX4_init, sR_alc, sR_pI, sR_pR, sn_alc, sn_pI, sn_pR, h0, h1, h2, h3, h4, h5, h6]
  · simp [iX4_init, sK_alc, sK_pI, sK_pR, sn_alc, sn_pI, sn_pR, Nat.add_assoc]
  · have key : ∀ (q k n : Nat), q < 4 → sR (iX4_init (sn st) (alc st 4 0)) (sn st) q = some (sn st + (q + 1)) → sK (iX4_init (sn st) (alc st 4 0)) (sn st + (q + 1)) = k → sN (iX4_init (sn st) (alc st 4 0)) (sn st + (q + 1)) = n → ((iX4_init (sn st) (alc st 4 0)).1.2.2.1 (sn st) q = some (sn st + (q + 1)) ∧ ArrF (iX4_init (sn st) (alc st 4 0)).1 k n (sn st + (q + 1))) := fun q k n hq h1 h2 h3 => ⟨h1, by show _ < sn _; rw [hn]; omega, h2, h3⟩
    refine ⟨key 0 10 6 (by decide) ?_ ?_ ?_, key 1 10 5 (by decide) ?_ ?_ ?_, key 2 14 6 (by decide) ?_ ?_ ?_, key 3 10 4 (by decide) ?_ ?_ ?_, fun i b h => ?_⟩
    · simp [iX4_init, sR_alc, sR_pI, sR_pR, sn_alc, sn_pI, sn_pR, Nat.add_assoc]
    · simp [iX4_init, sK_alc, sK_pI, sK_pR, sn_alc, sn_pI, sn_pR, Nat.add_assoc]
    · simp [iX4_init, sN_alc, sN_pI, sN_pR, sn_alc, sn_pI, sn_pR, Nat.add_assoc]
    · simp [iX4_init, sR_alc, sR_pI, sR_pR, sn_alc, sn_pI, sn_pR, Nat.add_assoc]
    · simp [iX4_init, sK_alc, sK_pI, sK_pR, sn_alc, sn_pI, sn_pR, Nat.add_assoc]
    · simp [iX4_init, sN_alc, sN_pI, sN_pR, sn_alc, sn_pI, sn_pR, Nat.add_assoc]
    · simp [iX4_init, sR_alc, sR_pI, sR_pR, sn_alc, sn_pI, sn_pR, Nat.add_assoc]
    · simp [iX4_init, sK_alc, sK_pI, sK_pR, sn_alc, sn_pI, sn_pR, Nat.add_assoc]
    · simp [iX4_init, sN_alc, sN_pI, sN_pR, sn_alc, sn_pI, sn_pR, Nat.add_assoc]
    · simp [iX4_init, sR_alc, sR_pI, sR_pR, sn_alc, sn_pI, sn_pR, Nat.add_assoc]
    · simp [iX4_init, sK_alc, sK_pI, sK_pR, sn_alc, sn_pI, sn_pR, Nat.add_assoc]
    · simp [iX4_init, sN_alc, sN_pI, sN_pR, sn_alc, sn_pI, sn_pR, Nat.add_assoc]
    · have e : sR (iX4_init (sn st) (alc st 4 0)) (sn st + 3) i = none := by
        simp [iX4_init, sR_alc, sR_pI, sR_pR, sn_alc, sn_pI, sn_pR, Nat.add_assoc]
      have h2 : sR (iX4_init (sn st) (alc st 4 0)) (sn st + 3) i = some b := h
      rw [e] at h2; cases h2
  · have hc : q = 0 ∨ q = 1 ∨ q = 2 ∨ q = 3 := by omega
    rcases hc with rfl | rfl | rfl | rfl <;> simp [iX4_init, sK_alc, sK_pI, sK_pR, sn_alc, sn_pI, sn_pR, Nat.add_assoc]
