/-! long numbers -/
theorem lc_gt (x y : Int64) : (0 < lg_cmp x y) = (y.toInt < x.toInt) := by
  unfold lg_cmp
  by_cases h : x > y
  · have : y.toInt < x.toInt := Int64.lt_iff_toInt_lt.mp h
    simp [h, this]
  · have h1 : ¬ y.toInt < x.toInt := fun e => h (Int64.lt_iff_toInt_lt.mpr e)
    by_cases h2 : x = y
    · simp [h2]
    · simp only [h, h1, h2, if_false]; decide
theorem lc_ge (x y : Int64) : (0 ≤ lg_cmp x y) = (y.toInt ≤ x.toInt) := by
  unfold lg_cmp
  by_cases h : x > y
  · have : y.toInt < x.toInt := Int64.lt_iff_toInt_lt.mp h
    simp only [h, if_true, show y.toInt ≤ x.toInt by omega]; decide
  · have h1 : ¬ y.toInt < x.toInt := fun e => h (Int64.lt_iff_toInt_lt.mpr e)
    by_cases h2 : x = y
    · simp [h2]
    · have h3 : x.toInt ≠ y.toInt := fun e => h2 (Int64.toInt_inj.mp e)
      simp only [h, h2, if_false, show ¬ y.toInt ≤ x.toInt by omega]; decide
theorem lc_le (x y : Int64) : (lg_cmp x y ≤ 0) = (x.toInt ≤ y.toInt) := by
  unfold lg_cmp
  by_cases h : x > y
  · have : y.toInt < x.toInt := Int64.lt_iff_toInt_lt.mp h
    simp only [h, if_true, show ¬ x.toInt ≤ y.toInt by omega]; decide
  · have h1 : ¬ y.toInt < x.toInt := fun e => h (Int64.lt_iff_toInt_lt.mpr e)
    by_cases h2 : x = y
    · simp [h2]
    · simp only [h, h2, if_false, show x.toInt ≤ y.toInt by omega]; decide
theorem lc_eq (x y : Int64) : (lg_cmp x y = 0) = (x.toInt = y.toInt) := by
  unfold lg_cmp
  by_cases h : x > y
  · have : y.toInt < x.toInt := Int64.lt_iff_toInt_lt.mp h
    simp only [h, if_true, show ¬ x.toInt = y.toInt by omega]; decide
  · have h1 : ¬ y.toInt < x.toInt := fun e => h (Int64.lt_iff_toInt_lt.mpr e)
    by_cases h2 : x = y
    · simp [h2]
    · have h3 : x.toInt ≠ y.toInt := fun e => h2 (Int64.toInt_inj.mp e)
      simp only [h, h2, if_false, h3]; decide
/-- within what two ints make -/
def Sm (x : Int64) (z : Int) : Prop := x.toInt = z ∧ -4611686018427387904 ≤ z ∧ z ≤ 4611686018427387904
theorem i_bd (a : Int32) : -2147483648 ≤ a.toInt ∧ a.toInt ≤ 2147483647 := ⟨Int32.le_toInt a, Int32.toInt_le a⟩
theorem bm (z : Int) (h1 : -9223372036854775808 ≤ z) (h2 : z < 9223372036854775808) : z.bmod (2 ^ 64) = z := Int.bmod_eq_of_le (by omega) (by omega)
theorem mulb {a b : Int} (h1 : -2147483648 ≤ a) (h2 : a ≤ 2147483648) (h3 : -2147483648 ≤ b) (h4 : b ≤ 2147483648) : -4611686018427387904 ≤ a * b ∧ a * b ≤ 4611686018427387904 := by
  have h := Int.natAbs_mul a b
  have ha : a.natAbs ≤ 2147483648 := by omega
  have hb : b.natAbs ≤ 2147483648 := by omega
  have := Nat.mul_le_mul ha hb
  omega
theorem Sm.add {x y : Int64} {a b : Int} (hx : x.toInt = a) (hy : y.toInt = b) (h1 : -2147483648 ≤ a) (h2 : a ≤ 2147483648) (h3 : -2147483648 ≤ b) (h4 : b ≤ 2147483648) : (x + y).toInt = a + b := by
  rw [Int64.toInt_add, hx, hy]; exact bm _ (by omega) (by omega)
theorem Sm.sub {x y : Int64} {a b : Int} (hx : x.toInt = a) (hy : y.toInt = b) (h1 : -2147483648 ≤ a) (h2 : a ≤ 2147483648) (h3 : -2147483648 ≤ b) (h4 : b ≤ 2147483648) : (x - y).toInt = a - b := by
  rw [Int64.toInt_sub, hx, hy]; exact bm _ (by omega) (by omega)
theorem Sm.mul {x y : Int64} {a b : Int} (hx : x.toInt = a) (hy : y.toInt = b) (h1 : -2147483648 ≤ a) (h2 : a ≤ 2147483648) (h3 : -2147483648 ≤ b) (h4 : b ≤ 2147483648) : (x * y).toInt = a * b := by
  have := mulb h1 h2 h3 h4
  rw [Int64.toInt_mul, hx, hy]; exact bm _ (by omega) (by omega)
theorem Sm.div {x y : Int64} {a b : Int} (hx : x.toInt = a) (hy : y.toInt = b) (h1 : -2147483648 ≤ a) (h2 : a ≤ 2147483648) : (x / y).toInt = a.tdiv b := by
  rw [Int64.toInt_div_of_ne_left _ _ (fun e => by
    have h := congrArg Int64.toInt e
    have h3 : Int64.minValue.toInt = -9223372036854775808 := by decide
    omega), hx, hy]
theorem Sm.rem {x y : Int64} {a b : Int} (hx : x.toInt = a) (hy : y.toInt = b) (h1 : -2147483648 ≤ a) (h2 : a ≤ 2147483648) (h3 : -2147483648 ≤ b) (h4 : b ≤ 2147483648) : (ljrem x y).toInt = a.tmod b := by
  have hd := Sm.div hx hy h1 h2
  have hb : (a.tdiv b).natAbs ≤ a.natAbs := by rw [Int.natAbs_tdiv]; exact Nat.div_le_self _ _
  have hm : (x / y * y).toInt = a.tdiv b * b := Sm.mul hd hy (by omega) (by omega) h3 h4
  unfold ljrem
  have he := Int.tdiv_mul_add_tmod a b
  have hr := Int.natAbs_tmod a b
  have hr2 : a.natAbs % b.natAbs ≤ a.natAbs := Nat.mod_le _ _
  rw [Int64.toInt_sub, hx, hm, show a - a.tdiv b * b = a.tmod b by omega]
  exact bm _ (by omega) (by omega)
theorem lim_max (z : Int) : (lim z).getD (-2000000000) = if 1000000000 < z ∨ z < -1000000000 then -2000000000 else Int32.ofInt z := by
  unfold lim
  split <;> rfl
theorem joined_lim {x : Int64} {z : Int} (h : x.toInt = z) : fX5_joined_b212 x = some ((lim z).getD (-2000000000)) := by
  have e1 : (1000000000 : Int64).toInt = 1000000000 := by decide
  have e2 : (-1000000000 : Int64).toInt = -1000000000 := by decide
  unfold fX5_joined_b212
  rw [lim_max]
  simp only [lc_gt, lc_ge, e1, e2, h]
  by_cases c1 : 1000000000 < z
  · rw [if_pos c1, if_pos (Or.inl c1)]
  · by_cases c2 : -1000000000 ≤ z
    · rw [if_neg c1, if_pos c2, if_neg (by omega)]
      rw [show x.toInt32 = Int32.ofInt z by rw [← h]; exact (Int32.ofInt_int64ToInt x).symm]
    · rw [if_neg c1, if_neg c2, if_pos (Or.inr (by omega))]
def isJ (s : Nat) : Prop := s = 160 ∨ s = 161 ∨ s = 162 ∨ s = 143 ∨ s = 145 ∨ s = 142 ∨ s = 147 ∨ s = 137
theorem nzl_t {y : Int64} (h : y.toInt ≠ 0) : nzl y = true := by
  unfold nzl
  exact decide_eq_true (fun e => h (by rw [e]; decide))
theorem joined_ok {s : Nat} (hs : isJ s) (a b : Int32) : fX5_joined (nI (s - 100)) a.toInt64 b.toInt64 = some ((jn s a b).getD (-2000000000)) := by
  have ha : a.toInt64.toInt = a.toInt := Int32.toInt_toInt64 a
  have hb : b.toInt64.toInt = b.toInt := Int32.toInt_toInt64 b
  have h1 := i_bd a
  have h2 := i_bd b
  have z0 : (0 : Int64).toInt = 0 := by decide
  have A := Sm.add ha hb (by omega) (by omega) (by omega) (by omega)
  have B := Sm.sub ha hb (by omega) (by omega) (by omega) (by omega)
  have C := Sm.mul ha hb (by omega) (by omega) (by omega) (by omega)
  have D := Sm.div ha hb (by omega) (by omega)
  have E := Sm.rem ha hb (by omega) (by omega) (by omega) (by omega)
  unfold fX5_joined jn
  rcases hs with rfl | rfl | rfl | rfl | rfl | rfl | rfl | rfl
  · simp only [show nI (160 - 100) = 60 from rfl, show ((60 : Int32) = 37) = False by decide, show ((60 : Int32) = 42) = False by decide, show ((60 : Int32) = 43) = False by decide, show ((60 : Int32) = 45) = False by decide, show ((60 : Int32) = 47) = False by decide, if_true, if_false, lc_ge, ha, hb]
    by_cases c : a.toInt < b.toInt
    · rw [if_neg (by omega), if_pos c]; rfl
    · rw [if_pos (by omega), if_neg c]; rfl
  · simp only [show nI (161 - 100) = 61 from rfl, show ((61 : Int32) = 37) = False by decide, show ((61 : Int32) = 42) = False by decide, show ((61 : Int32) = 43) = False by decide, show ((61 : Int32) = 45) = False by decide, show ((61 : Int32) = 47) = False by decide, show ((61 : Int32) = 60) = False by decide, show (161 = 160) = False by decide, if_true, if_false, lc_eq, ha, hb]
    by_cases c : a.toInt = b.toInt
    · rw [if_pos c, if_pos c]; rfl
    · rw [if_neg c, if_neg c]; rfl
  · simp only [show nI (162 - 100) = 62 from rfl, show ((62 : Int32) = 37) = False by decide, show ((62 : Int32) = 42) = False by decide, show ((62 : Int32) = 43) = False by decide, show ((62 : Int32) = 45) = False by decide, show ((62 : Int32) = 47) = False by decide, show ((62 : Int32) = 60) = False by decide, show ((62 : Int32) = 61) = False by decide, show (162 = 160) = False by decide, show (162 = 161) = False by decide, if_true, if_false, lc_le, ha, hb]
    by_cases c : b.toInt < a.toInt
    · rw [if_neg (by omega), if_pos c]; rfl
    · rw [if_pos (by omega), if_neg c]; rfl
  · simp only [show nI (143 - 100) = 43 from rfl, show ((43 : Int32) = 37) = False by decide, show ((43 : Int32) = 42) = False by decide, if_true, if_false, show (143 = 160) = False by decide, show (143 = 161) = False by decide, show (143 = 162) = False by decide]
    exact joined_lim A
  · simp only [show nI (145 - 100) = 45 from rfl, show ((45 : Int32) = 37) = False by decide, show ((45 : Int32) = 42) = False by decide, show ((45 : Int32) = 43) = False by decide, if_true, if_false, show (145 = 160) = False by decide, show (145 = 161) = False by decide, show (145 = 162) = False by decide, show (145 = 143) = False by decide]
    exact joined_lim B
  · simp only [show nI (142 - 100) = 42 from rfl, show ((42 : Int32) = 37) = False by decide, if_true, if_false, show (142 = 160) = False by decide, show (142 = 161) = False by decide, show (142 = 162) = False by decide, show (142 = 143) = False by decide, show (142 = 145) = False by decide]
    exact joined_lim C
  · simp only [show nI (147 - 100) = 47 from rfl, show ((47 : Int32) = 37) = False by decide, show ((47 : Int32) = 42) = False by decide, show ((47 : Int32) = 43) = False by decide, show ((47 : Int32) = 45) = False by decide, if_true, if_false, show (147 = 160) = False by decide, show (147 = 161) = False by decide, show (147 = 162) = False by decide, show (147 = 143) = False by decide, show (147 = 145) = False by decide, show (147 = 142) = False by decide, lc_eq, hb, z0]
    by_cases c : b.toInt = 0
    · rw [if_pos c, if_pos c]; rfl
    · rw [if_neg c, if_neg c, nzl_t (by rw [hb]; exact c), chk_t]; exact joined_lim D
  · simp only [show nI (137 - 100) = 37 from rfl, show ((37 : Int32) = 47) = False by decide, if_true, if_false, show (137 = 160) = False by decide, show (137 = 161) = False by decide, show (137 = 162) = False by decide, show (137 = 143) = False by decide, show (137 = 145) = False by decide, show (137 = 142) = False by decide, show (137 = 147) = False by decide, lc_eq, hb, z0]
    by_cases c : b.toInt = 0
    · rw [if_pos c, if_pos c]; rfl
    · rw [if_neg c, if_neg c, nzl_t (by rw [hb]; exact c), chk_t]; exact joined_lim E
theorem ofI {z : Int} (h1 : -2147483648 ≤ z) (h2 : z ≤ 2147483647) : (Int32.ofInt z).toInt = z := Int32.toInt_ofInt_of_le h1 (by omega)
theorem lim_ne {z : Int} : lim z ≠ some (-2000000000) := by
  unfold lim
  split
  · intro h; cases h
  · rename_i h
    intro e
    have e1 := congrArg Int32.toInt (Option.some.inj e)
    rw [ofI (by omega) (by omega)] at e1
    have : (-2000000000 : Int32).toInt = -2000000000 := by decide
    omega
theorem if_ne {p : Prop} [Decidable p] : (some (if p then (1 : Int32) else 0)) ≠ some (-2000000000) := by
  split <;> decide
theorem jn_ne {s : Nat} {a b : Int32} : jn s a b ≠ some (-2000000000) := by
  unfold jn
  repeat' split
  all_goals first
    | exact lim_ne
    | (intro h; cases h; done)
    | decide
