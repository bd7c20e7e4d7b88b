/-! who is one, which is one -/
theorem n_in (a : Int32) (n : Nat) (hn : n < 2147483648) : (∃ k, k < n ∧ a = nI k) ∨ (a < 0 ∨ ∃ k, k < 2147483648 ∧ n ≤ k ∧ a = nI k) := by
  rcases n_cases a with h | ⟨k, hk, e⟩
  · exact Or.inr (Or.inl h)
  · by_cases c : k < n
    · exact Or.inl ⟨k, c, e⟩
    · exact Or.inr (Or.inr ⟨k, hk, by omega, e⟩)
def out (a : Int32) (n : Nat) : Prop := a < 0 ∨ ∃ k, k < 2147483648 ∧ n ≤ k ∧ a = nI k
theorem lack_in {k n : Nat} (hk : k < n) (hn : n < 2147483648) : (if nI k < 0 then (1 : Int32) else if nI k < nI n then 0 else 1) = 0 := by
  simp only [n_neg (show k < 2147483648 by omega), n_lt (show k < 2147483648 by omega) hn, hk, if_false, if_true]
theorem lack_out {a : Int32} {n : Nat} (h : out a n) (hn : n < 2147483648) : (if a < 0 then (1 : Int32) else if a < nI n then 0 else 1) = 1 := by
  rcases h with h | ⟨k, hk, h, rfl⟩
  · rw [if_pos h]
  · simp only [n_neg hk, n_lt hk hn, if_false, show ¬ k < n by omega]
theorem n_pred {n : Nat} : nI (n + 1) - 1 = nI n := n_sub (a := n + 1) (b := 1) (by omega)
theorem lies_in {k n : Nat} (hk : k < n) (hn : n < 2147483648) : fX8_lies (nI k) 0 (nI n - 1) = 1 := by
  obtain ⟨m, rfl⟩ : ∃ m, n = m + 1 := ⟨n - 1, by omega⟩
  rw [n_pred, show (0 : Int32) = nI 0 from rfl, n_lies (by omega) (by decide) (by omega), if_pos (by omega)]
theorem lies_out {a : Int32} {n : Nat} (h : out a n) (hn : n < 2147483648) : fX8_lies a 0 (nI n - 1) = 0 := by
  rcases h with h | ⟨k, hk, h, rfl⟩
  · exact n_liesn (lo := 0) h (by decide)
  · cases n with
    | zero =>
      unfold fX8_lies
      have h1 : nI 0 - 1 < nI k := by
        rw [Int32.lt_iff_toInt_lt, n_toInt hk]
        have : (nI 0 - 1).toInt = -1 := by decide
        omega
      rw [if_neg (by rw [n_neg hk]; simp), if_pos h1]
    | succ m =>
      rw [n_pred, show (0 : Int32) = nI 0 from rfl, n_lies hk (by decide) (by omega), if_neg (by omega)]; rfl
theorem cC_in {st : St} {x : Rg} {k : Nat} (g : GdR x) (c : CRg st 1 x) (h : k < x.1 16) : fX4_lacksChild st (nI k) = 0 := by
  unfold fX4_lacksChild; rw [c.1.1]; exact lack_in h (by have := g.1; omega)
theorem cC_out {st : St} {x : Rg} {a : Int32} (g : GdR x) (c : CRg st 1 x) (h : out a (x.1 16)) : fX4_lacksChild st a = 1 := by
  unfold fX4_lacksChild; rw [c.1.1]; exact lack_out h (by have := g.1; omega)
theorem cR_in {st : St} {x : Rg} {k : Nat} (g : GdR x) (c : CRg st 1 x) (h : k < x.1 17) : fX4_lacksRhyme st (nI k) = 0 := by
  unfold fX4_lacksRhyme; rw [c.1.2.2.1]; exact lack_in h (by have := g.2.2.1; omega)
theorem cR_out {st : St} {x : Rg} {a : Int32} (g : GdR x) (c : CRg st 1 x) (h : out a (x.1 17)) : fX4_lacksRhyme st a = 1 := by
  unfold fX4_lacksRhyme; rw [c.1.2.2.1]; exact lack_out h (by have := g.2.2.1; omega)
theorem cL_in {st : St} {x : Rg} {k : Nat} (g : GdR x) (c : CRg st 1 x) (h : k < x.1 18) : fX4_lacksLaw st (nI k) = 0 := by
  unfold fX4_lacksLaw; rw [c.1.2.2.2.1]; exact lack_in h (by have := g.2.2.2.2.2.2.2.1; omega)
theorem cL_out {st : St} {x : Rg} {a : Int32} (g : GdR x) (c : CRg st 1 x) (h : out a (x.1 18)) : fX4_lacksLaw st a = 1 := by
  unfold fX4_lacksLaw; rw [c.1.2.2.2.1]; exact lack_out h (by have := g.2.2.2.2.2.2.2.1; omega)
theorem MRg.k {st : St} {x : Rg} (m : MRg st 40 0 x) {k : Nat} (h : k < 19) : sI st 40 k = nI (x.1 k) := by
  have := m.1 k h
  rwa [Nat.zero_add] at this
theorem MRg.f {st : St} {x : Rg} (m : MRg st 40 0 x) : sI st 40 19 = nI (x.1 19) - 1 := by
  have := m.2.1
  rwa [Nat.zero_add] at this
theorem mC_in {st : St} {x : Rg} {k : Nat} (g : GdR x) (m : MRg st 40 0 x) (h : k < x.1 16) : fX8_isChild st (nI k) = 1 := by
  unfold fX8_isChild; rw [m.k (by omega)]; exact lies_in h (by have := g.1; omega)
theorem mC_out {st : St} {x : Rg} {a : Int32} (g : GdR x) (m : MRg st 40 0 x) (h : out a (x.1 16)) : fX8_isChild st a = 0 := by
  unfold fX8_isChild; rw [m.k (by omega)]; exact lies_out h (by have := g.1; omega)
theorem mR_in {st : St} {x : Rg} {k : Nat} (g : GdR x) (m : MRg st 40 0 x) (h : k < x.1 17) : fX8_isRhyme st (nI k) = 1 := by
  unfold fX8_isRhyme; rw [m.k (by omega)]; exact lies_in h (by have := g.2.2.1; omega)
theorem mR_out {st : St} {x : Rg} {a : Int32} (g : GdR x) (m : MRg st 40 0 x) (h : out a (x.1 17)) : fX8_isRhyme st a = 0 := by
  unfold fX8_isRhyme; rw [m.k (by omega)]; exact lies_out h (by have := g.2.2.1; omega)
theorem b_lt64 {x : Rg} (g : GdR x) : x.1 0 < 64 := by
  have h1 := g.1
  have h2 := g.2.1
  have h3 : 2 ^ x.1 16 ≤ 2 ^ 6 := Nat.pow_le_pow_right (by decide) h1
  omega
theorem st1 : Step1 Inv := by
  rintro a b st ⟨A, g, c, m⟩
  have gR := g.1
  have cr := c.2.1.1
  have mr := m.2.1
  have hn := gR.1
  unfold fX7_of fX8_of
  rcases n_in a (A.1.1 16) (by omega) with ⟨k, hk, rfl⟩ | h
  · have e3 : (3 : Int32) + nI k = nI (3 + k) := n_add 3 k
    simp only [cC_in gR cr hk, mC_in gR mr hk, e3, n_ixb (show k < 2147483648 by omega), n_ixb (show 3 + k < 2147483648 by omega), n_toNat (show k < 2147483648 by omega), n_toNat (show 3 + k < 2147483648 by omega), cr.2.2.1 k (by omega), mr.k (show 3 + k < 19 by omega), cr.1.2.1, mr.k (show 0 < 19 by omega)]
    simp only [if_true, show (1 : Int32) ≠ 0 by decide, if_false, show k < 6 by omega, show 3 + k < 5627 by omega, decide_true, chk_t]
    by_cases h0 : b = 0
    · simp only [h0, if_true]; exact ⟨_, rfl, rfl⟩
    · by_cases h1 : b = 1
      · simp only [h1]; exact ⟨_, rfl, rfl⟩
      · simp only [h0, h1, if_false]; exact ⟨_, rfl, rfl⟩
  · simp only [cC_out gR cr h, mC_out gR mr h]
    exact ⟨-1, rfl, rfl⟩
theorem st3 : Step3 Inv := by
  rintro a st ⟨A, g, c, m⟩
  have gR := g.1
  have cr := c.2.1.1
  have mr := m.2.1
  have hn := gR.2.2.1
  unfold fX7_beats fX8_beats
  rcases n_in a (A.1.1 17) (by omega) with ⟨k, hk, rfl⟩ | h
  · have e3 : (9 : Int32) + nI k = nI (9 + k) := n_add 9 k
    simp only [cR_in gR cr hk, mR_in gR mr hk, e3, n_ixb (show k < 2147483648 by omega), n_ixb (show 9 + k < 2147483648 by omega), n_toNat (show k < 2147483648 by omega), n_toNat (show 9 + k < 2147483648 by omega), cr.2.2.2 k (by omega), mr.k (show 9 + k < 19 by omega)]
    simp only [if_true, show (1 : Int32) ≠ 0 by decide, if_false, show k < 5 by omega, show 9 + k < 5627 by omega, decide_true, chk_t]
    exact ⟨_, rfl, rfl⟩
  · simp only [cR_out gR cr h, mR_out gR mr h]
    exact ⟨-1, rfl, rfl⟩
