/-! small numbers as ints -/
theorem n_lit (k : Nat) : (OfNat.ofNat k : Int32) = nI (OfNat.ofNat k) := rfl
theorem n_toInt {a : Nat} (h : a < 2147483648) : (nI a).toInt = (a : Int) := Int32.toInt_ofNat_of_lt h
theorem n_lt {a b : Nat} (ha : a < 2147483648) (hb : b < 2147483648) : (nI a < nI b) = (a < b) := by
  rw [Int32.lt_iff_toInt_lt, n_toInt ha, n_toInt hb]; simp
theorem n_le {a b : Nat} (ha : a < 2147483648) (hb : b < 2147483648) : (nI a ≤ nI b) = (a ≤ b) := by
  rw [Int32.le_iff_toInt_le, n_toInt ha, n_toInt hb]; simp
theorem n_eq {a b : Nat} (ha : a < 2147483648) (hb : b < 2147483648) : (nI a = nI b) = (a = b) := by
  rw [← Int32.toInt_inj, n_toInt ha, n_toInt hb]; exact propext ⟨fun h => by omega, fun h => by omega⟩
theorem n_toNat {a : Nat} (h : a < 2147483648) : (nI a).toNatClampNeg = a := by
  rw [← Int32.toNat_toInt, n_toInt h]; simp
theorem n_add (a b : Nat) : nI a + nI b = nI (a + b) := (Int32.ofNat_add a b).symm
theorem n_mul (a b : Nat) : nI a * nI b = nI (a * b) := (Int32.ofNat_mul a b).symm
theorem n_sub {a b : Nat} (h : b ≤ a) : nI a - nI b = nI (a - b) := (Int32.ofNat_sub a b h).symm
theorem n_neg {a : Nat} (h : a < 2147483648) : (nI a < 0) = False := by
  have : (0 : Int32) = nI 0 := rfl
  rw [this, n_lt h (by decide)]; simp
theorem n_nn {a : Nat} (h : a < 2147483648) : (0 ≤ nI a) = True := by
  have : (0 : Int32) = nI 0 := rfl
  rw [this, n_le (by decide) h]; simp
theorem n_div {a b : Nat} (ha : a < 2147483648) (hb : b < 2147483648) : nI a / nI b = nI (a / b) := by
  have hd : a / b ≤ a := Nat.div_le_self a b
  rw [← Int32.toInt_inj, Int32.toInt_div_of_ne_left, n_toInt ha, n_toInt hb, n_toInt (by omega)]
  · exact (Int.ofNat_tdiv a b).symm
  · intro e
    have := congrArg Int32.toInt e
    rw [n_toInt ha] at this
    have h2 : Int32.minValue.toInt = -2147483648 := by decide
    omega
theorem n_rem {a b : Nat} (ha : a < 2147483648) (hb : b < 2147483648) : jrem (nI a) (nI b) = nI (a % b) := by
  unfold jrem
  rw [n_div ha hb, n_mul, n_sub (Nat.div_mul_le_self a b)]
  congr 1
  have := Nat.div_add_mod a b
  rw [Nat.mul_comm] at this
  omega
theorem n_ixb {i n : Nat} (h : i < 2147483648) : ixb (nI i) n = decide (i < n) := by
  unfold ixb
  simp [n_neg h, n_toNat h]
theorem n_cases (a : Int32) : a < 0 ∨ ∃ k, k < 2147483648 ∧ a = nI k := by
  by_cases h : a < 0
  · exact Or.inl h
  · refine Or.inr ⟨a.toInt.toNat, ?_, ?_⟩
    · have := Int32.toInt_lt a; omega
    · rw [Int32.lt_iff_toInt_lt] at h
      have h0 : (0 : Int32).toInt = 0 := rfl
      have h1 := Int32.toInt_lt a
      rw [← Int32.toInt_inj, n_toInt (by omega)]; omega
theorem n_nlt {a : Int32} {k : Nat} (h : a < 0) (hk : k < 2147483648) : (a < nI k) = True := by
  rw [Int32.lt_iff_toInt_lt] at h ⊢
  have h0 : (0 : Int32).toInt = 0 := rfl
  rw [n_toInt hk]; simp; omega
theorem n_nle {a : Int32} {k : Nat} (h : a < 0) (hk : k < 2147483648) : (nI k ≤ a) = False := by
  rw [Int32.lt_iff_toInt_lt] at h
  rw [Int32.le_iff_toInt_le]
  have h0 : (0 : Int32).toInt = 0 := rfl
  rw [n_toInt hk]; simp; omega
theorem n_neq {a : Int32} {k : Nat} (h : a < 0) (hk : k < 2147483648) : (a = nI k) = False := by
  rw [Int32.lt_iff_toInt_lt] at h
  have h0 : (0 : Int32).toInt = 0 := rfl
  rw [← Int32.toInt_inj, n_toInt hk]; simp; omega
theorem n_nz {b : Nat} (hb : b < 2147483648) (h0 : 0 < b) : nz (nI b) = true := by
  have : (0 : Int32) = nI 0 := rfl
  unfold nz; simp only [this, n_eq hb (by decide : 0 < 2147483648)]; simp; omega
theorem chk_t {α : Type} {k : Option α} : chk true k = k := rfl
theorem n_lies {k lo hi : Nat} (hk : k < 2147483648) (h1 : lo < 2147483648) (h2 : hi < 2147483648) : fX8_lies (nI k) (nI lo) (nI hi) = if lo ≤ k ∧ k ≤ hi then 1 else 0 := by
  unfold fX8_lies
  simp only [n_lt hk h1, n_lt h2 hk]
  by_cases c1 : k < lo
  · rw [if_pos c1, if_neg (by omega)]
  · rw [if_neg c1]
    by_cases c2 : hi < k
    · rw [if_pos c2, if_neg (by omega)]
    · rw [if_neg c2, if_pos (by omega)]
theorem n_liesn {a : Int32} {lo : Nat} {hi : Int32} (h : a < 0) (h1 : lo < 2147483648) : fX8_lies a (nI lo) hi = 0 := by
  unfold fX8_lies
  simp only [n_nlt h h1, if_true]
