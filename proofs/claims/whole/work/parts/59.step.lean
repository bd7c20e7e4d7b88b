/-! the class goes along the tokens -/
def Tc (st : St) (n : Nat) (b : Nat → Int32) : Prop := sI st 7 2 = nI n ∧ n ≤ 400 ∧ (∀ j, j < n → sI st 8 j = b j) ∧ ∀ j, j < n → Byt (b j)
theorem Tc.fr {S : List (Nat × Option Nat)} {st u : St} {n : Nat} {b : Nat → Int32} (e : (inS S 7 2 || hasA S 8) = false) (h : FR S st u) (m : Tc st n b) : Tc u n b := by
  simp only [Bool.or_eq_false_iff] at e
  exact ⟨(h.i e.1).trans m.1, m.2.1, fun j hj => (h.i (hasA_in e.2)).trans (m.2.2.1 j hj), m.2.2.2⟩
def vR (m c : Nat) : Prop := (m ≤ 1000 ∧ c = m) ∨ (1000 < m ∧ 1000 < c ∧ c ≤ 10009)
theorem vl_rel {b : Nat → Int32} : ∀ (k i m c : Nat), (∀ j, i ≤ j → j < i + k → dgT b j ≤ 9) → vR m c → vR (vlF 1000000 b k i m) (vlF 1000 b k i c) := by
  intro k
  induction k with
  | zero => intro i m c _ h; exact h
  | succ k ih =>
    intro i m c hd h
    refine ih (i + 1) _ _ (fun j h1 h2 => hd j (by omega) (by omega)) ?_
    have := hd i (by omega) (by omega)
    unfold vR at h ⊢
    rcases h with ⟨h1, h2⟩ | ⟨h1, h2, h3⟩
    · rw [if_pos (by omega), if_pos (by omega), h2]; omega
    · rw [if_neg (show ¬ c ≤ 1000 by omega)]
      right
      refine ⟨?_, h2, h3⟩
      split <;> omega
def knd (b : Nat → Int32) (s : Nat) : Int32 := if isL (b s) = true then 2 else if isD (b s) = true then 3 else 1
def AtC (st : St) (n : Nat) (b : Nat → Int32) (k : Nat) : Prop := match (tkL n b 0)[k]? with
  | none => sI st 7 5 = 0 ∧ sI st 7 6 = nI n ∧ sI st 7 7 = nI n
  | some s => sI st 7 6 = nI s ∧ sI st 7 7 = nI (enT n b s) ∧ sI st 7 5 = knd b s ∧ ∃ v, sI st 7 8 = nI v ∧ v ≤ 10009 ∧ (isD (b s) = true → vR (vlT n b s) v)
def BfC (st : St) (n : Nat) (b : Nat → Int32) (k : Nat) : Prop := ∃ i, i ≤ n ∧ sI st 7 7 = nI i ∧ tkL n b i = (tkL n b 0).drop k
theorem tk_drop {n : Nat} {b : Nat → Int32} : ∀ (k i s : Nat), i ≤ n → (tkL n b i)[k]? = some s → tkL n b (enT n b s) = (tkL n b i).drop (k + 1) := by
  intro k
  induction k with
  | zero =>
    intro i s hi h
    rw [tk_u hi] at h ⊢
    by_cases c : run isB n b i < n
    · rw [if_pos c] at h ⊢
      rw [← Option.some.inj (show some (run isB n b i) = some s from h)]; rfl
    · rw [if_neg c] at h; cases h
  | succ k ih =>
    intro i s hi h
    rw [tk_u hi] at h ⊢
    by_cases c : run isB n b i < n
    · rw [if_pos c] at h ⊢
      rw [List.drop_succ_cons]
      exact ih _ s (en_b c).2 (by simpa using h)
    · rw [if_neg c] at h; cases h
theorem AtC.bf {st : St} {n : Nat} {b : Nat → Int32} {k : Nat} (a : AtC st n b k) (h : k < (tkT n b).1) : BfC st n b (k + 1) := by
  have h' : k < (tkL n b 0).length := h
  have hg := List.getElem?_eq_getElem h'
  unfold AtC at a
  rw [hg] at a
  have hs := (tk_in hg).1
  exact ⟨_, (en_b hs).2, a.2.1, tk_drop k 0 _ (by omega) hg⟩
abbrev S_st : List (Nat × Option Nat) := [(7, some 5), (7, some 6), (7, some 7), (7, some 8)]
theorem skip7 {st : St} {n : Nat} {b : Nat → Int32} (tc : Tc st n b) : ∀ (d m i : Nat), n - i = d → i ≤ n → d < m → fX3_step_b5 m (nI i) st = fX3_step_b30 (nI (run isB n b i)) st := by
  have hn := tc.2.1
  intro d
  induction d with
  | zero =>
    intro m i hd hi hm
    obtain ⟨m, rfl⟩ : ∃ j, m = j + 1 := ⟨m - 1, by omega⟩
    rw [fX3_step_b5, tc.1, if_pos (by rw [n_le (by omega) (by omega)]; omega), run_e (by omega)]
  | succ d ih =>
    intro m i hd hi hm
    obtain ⟨m, rfl⟩ : ∃ j, m = j + 1 := ⟨m - 1, by omega⟩
    rw [fX3_step_b5, tc.1, if_neg (by rw [n_le (by omega) (by omega)]; omega), n_ixb (by omega), decide_eq_true (show i < 400 by omega), chk_t, n_toNat (by omega), tc.2.2.1 i (by omega)]
    cases h : isB (b i) with
    | true =>
      have h32 : b i = 32 := by unfold isB at h; simpa using h
      rw [if_pos h32, n_p1, run_s (by omega) h]; exact ih m (i + 1) (by omega) (by omega) (by omega)
    | false =>
      have h32 : ¬ b i = 32 := by
        intro e; unfold isB at h; rw [e] at h; simp at h
      rw [if_neg h32, run_n (by omega) h]
theorem isL_if {α : Type} {v : Int32} {x y : α} : (if v < 97 then x else if 122 < v then x else y) = if isL v = true then y else x := by
  unfold isL
  by_cases c1 : v < 97
  · rw [if_pos c1, if_neg (by simp [c1])]
  · rw [if_neg c1]
    by_cases c2 : 122 < v
    · rw [if_pos c2, if_neg (by simp [c2])]
    · rw [if_neg c2, if_pos (by simp [c1, c2])]
theorem isD_if {α : Type} {v : Int32} {x y : α} : (if v < 48 then x else if 57 < v then x else y) = if isD v = true then y else x := by
  unfold isD
  by_cases c1 : v < 48
  · rw [if_pos c1, if_neg (by simp [c1])]
  · rw [if_neg c1]
    by_cases c2 : 57 < v
    · rw [if_pos c2, if_neg (by simp [c2])]
    · rw [if_neg c2, if_pos (by simp [c1, c2])]
theorem let7 {n : Nat} {b : Nat → Int32} : ∀ (d m i : Nat) (st : St), n - i = d → i ≤ n → d < m → Tc st n b → ∃ u, fX3_step_b58 m (nI i) st = fX3_step_b99 FU (nI (run isL n b i)) u ∧ sI u 7 5 = (if i < run isL n b i then 2 else sI st 7 5) ∧ FR [(7, some 5)] st u := by
  intro d
  induction d with
  | zero =>
    intro m i st hd hi hm tc
    obtain ⟨m, rfl⟩ : ∃ j, m = j + 1 := ⟨m - 1, by omega⟩
    have hn := tc.2.1
    refine ⟨st, ?_, by rw [run_e (by omega), if_neg (by omega)], FR.rf⟩
    rw [fX3_step_b58, tc.1, if_pos (by rw [n_le (by omega) (by omega)]; omega), run_e (by omega)]
  | succ d ih =>
    intro m i st hd hi hm tc
    obtain ⟨m, rfl⟩ : ∃ j, m = j + 1 := ⟨m - 1, by omega⟩
    have hn := tc.2.1
    rw [fX3_step_b58, tc.1, if_neg (by rw [n_le (by omega) (by omega)]; omega), n_ixb (by omega), decide_eq_true (show i < 400 by omega), chk_t, n_toNat (by omega), tc.2.2.1 i (by omega), chk_t, isL_if]
    cases h : isL (b i) with
    | true =>
      rw [if_pos rfl, n_p1, run_s (by omega) h]
      have f1 : FR [(7, some 5)] st (pI st 7 5 2) := FR.pI (by rfl) FR.rf
      obtain ⟨u, r1, r2, r3⟩ := ih m (i + 1) (pI st 7 5 2) (by omega) (by omega) (by omega) (tc.fr (by rfl) f1)
      have hb := (run_b (n := n) (b := b) (P := isL) (i := i + 1) (by omega)).1
      refine ⟨u, r1, ?_, f1.trans r3⟩
      have e5 : sI (pI st 7 5 2) 7 5 = 2 := by rw [sI_pI, if_pos ⟨rfl, rfl⟩]
      rw [r2, e5, ite_self, if_pos (by omega)]
    | false =>
      rw [if_neg (by decide), run_n (by omega) h]
      exact ⟨st, rfl, by rw [if_neg (by omega)], FR.rf⟩
theorem dig7 {n : Nat} {b : Nat → Int32} : ∀ (d m i v : Nat) (st : St), n - i = d → i ≤ n → d < m → Tc st n b → ¬ sI st 7 5 = 2 → sI st 7 8 = nI v → v ≤ 10009 → ∃ u, fX3_step_b99 m (nI i) st = fX3_step_b186 (nI (run isD n b i)) u ∧ sI u 7 5 = (if i < run isD n b i then 3 else sI st 7 5) ∧ sI u 7 8 = nI (vlF 1000 b (run isD n b i - i) i v) ∧ FR [(7, some 5), (7, some 8)] st u := by
  intro d
  induction d with
  | zero =>
    intro m i v st hd hi hm tc h5 h8 hv
    obtain ⟨m, rfl⟩ : ∃ j, m = j + 1 := ⟨m - 1, by omega⟩
    have hn := tc.2.1
    refine ⟨st, ?_, by rw [run_e (by omega), if_neg (by omega)], by rw [run_e (by omega), Nat.sub_self]; exact h8, FR.rf⟩
    rw [fX3_step_b99, if_neg h5, tc.1, if_pos (by rw [n_le (by omega) (by omega)]; omega), run_e (by omega)]
  | succ d ih =>
    intro m i v st hd hi hm tc h5 h8 hv
    obtain ⟨m, rfl⟩ : ∃ j, m = j + 1 := ⟨m - 1, by omega⟩
    have hn := tc.2.1
    have e8 : sI (pI st 7 5 3) 7 8 = nI v := by rw [sI_pI, if_neg (by omega)]; exact h8
    have e45 : sI (pI st 7 5 3) 8 i = b i := by rw [sI_pI, if_neg (by omega)]; exact tc.2.2.1 i (by omega)
    rw [fX3_step_b99, if_neg h5, tc.1, if_neg (by rw [n_le (by omega) (by omega)]; omega), n_ixb (by omega), decide_eq_true (show i < 400 by omega), chk_t, n_toNat (by omega), tc.2.2.1 i (by omega), chk_t, isD_if, e8, chk_t]
    have hle : (nI v ≤ (1000 : Int32)) = (v ≤ 1000) := n_le (b := 1000) (by omega) (by omega)
    simp only [hle]
    cases h : isD (b i) with
    | true =>
      rw [if_pos rfl]
      obtain ⟨k, k1, k2, ek⟩ := isD_v h
      have hdk : dgT b i = k - 48 := by unfold dgT; rw [ek, n_toNat (by omega)]
      have hb := (run_b (n := n) (b := b) (P := isD) (i := i + 1) (by omega)).1
      unfold fX3_step_b177
      have go : ∀ v', v' = (if v ≤ 1000 then 10 * v + dgT b i else v) → ∃ u, fX3_step_b99 m (nI i + 1) (pI (pI st 7 5 3) 7 8 (nI v')) = fX3_step_b186 (nI (run isD n b i)) u ∧ sI u 7 5 = (if i < run isD n b i then 3 else sI st 7 5) ∧ sI u 7 8 = nI (vlF 1000 b (run isD n b i - i) i v) ∧ FR [(7, some 5), (7, some 8)] st u := by
        intro v' hv'
        have f1 : FR [(7, some 5), (7, some 8)] st (pI (pI st 7 5 3) 7 8 (nI v')) := FR.pI (by rfl) (FR.pI (by rfl) FR.rf)
        obtain ⟨u, r1, r2, r3, r4⟩ := ih m (i + 1) v' (pI (pI st 7 5 3) 7 8 (nI v')) (by omega) (by omega) (by omega) (tc.fr (by rfl) f1) (by rw [sI_pI, if_neg (by omega), sI_pI, if_pos ⟨rfl, rfl⟩]; decide) (by rw [sI_pI, if_pos ⟨rfl, rfl⟩]) (by rw [hv', hdk]; split <;> omega)
        rw [n_p1, run_s (by omega) h]
        refine ⟨u, r1, ?_, ?_, f1.trans r4⟩
        · have e5 : sI (pI (pI st 7 5 3) 7 8 (nI v')) 7 5 = 3 := by rw [sI_pI, if_neg (by omega), sI_pI, if_pos ⟨rfl, rfl⟩]
          rw [r2, e5, ite_self, if_pos (by omega)]
        · rw [r3, show run isD n b (i + 1) - i = (run isD n b (i + 1) - (i + 1)) + 1 by omega, hv']; rfl
      by_cases c : v ≤ 1000
      · rw [if_pos c, e45, ek, show (10 : Int32) = nI 10 from rfl, n_mul, n_add, show (48 : Int32) = nI 48 from rfl, n_sub (by omega)]
        refine go (v * 10 + k - 48) ?_
        rw [if_pos c, hdk]; omega
      · rw [if_neg c]
        refine go v ?_
        rw [if_neg c]
    | false =>
      rw [if_neg (by decide), run_n (by omega) h]
      exact ⟨st, rfl, by rw [if_neg (by omega)], by rw [Nat.sub_self]; exact h8, FR.rf⟩
theorem step7 {st : St} {n : Nat} {b : Nat → Int32} {k : Nat} (tc : Tc st n b) (bf : BfC st n b k) : ∃ u, fX3_step st = some u ∧ AtC u n b k ∧ FR S_st st u := by
  obtain ⟨i, hi, h7, hd⟩ := bf
  have hn := tc.2.1
  have hrb := run_b (n := n) (b := b) (P := isB) hi
  unfold fX3_step
  rw [h7, skip7 tc _ FU i rfl hi (by unfold FU; omega)]
  rw [tk_u hi] at hd
  generalize hs : run isB n b i = s at hd hrb
  unfold fX3_step_b30
  have e2 : sI (pI (pI (pI st 7 6 (nI s)) 7 8 0) 7 5 0) 7 2 = nI n := by
    rw [sI_pI, if_neg (by omega), sI_pI, if_neg (by omega), sI_pI, if_neg (by omega)]; exact tc.1
  rw [e2]
  by_cases c : s < n
  · rw [if_pos c] at hd
    have hg : (tkL n b 0)[k]? = some s := by
      have h0 : (tkL n b 0)[k]? = ((tkL n b 0).drop k)[0]? := by rw [List.getElem?_drop, Nat.add_zero]
      rw [h0, ← hd]; rfl
    have he := en_b (b := b) c
    rw [if_neg (by rw [n_le (by omega) (by omega)]; omega)]
    have f0 : FR S_st st (pI (pI (pI (pI st 7 6 (nI s)) 7 8 0) 7 5 0) 7 5 1) := FR.pI (by rfl) (FR.pI (by rfl) (FR.pI (by rfl) (FR.pI (by rfl) FR.rf)))
    obtain ⟨u, r1, r2, r3⟩ := let7 (n := n) (b := b) _ FU s (pI (pI (pI (pI st 7 6 (nI s)) 7 8 0) 7 5 0) 7 5 1) rfl (by omega) (by unfold FU; omega) (tc.fr (by rfl) f0)
    rw [r1]
    have q6 : sI u 7 6 = nI s := by rw [r3.i (by rfl), sI_pI, if_neg (by omega), sI_pI, if_neg (by omega), sI_pI, if_neg (by omega), sI_pI, if_pos ⟨rfl, rfl⟩]
    have q8 : sI u 7 8 = nI 0 := by rw [r3.i (by rfl), sI_pI, if_neg (by omega), sI_pI, if_neg (by omega), sI_pI, if_pos ⟨rfl, rfl⟩]; rfl
    have q5 : sI (pI (pI (pI (pI st 7 6 (nI s)) 7 8 0) 7 5 0) 7 5 1) 7 5 = 1 := by rw [sI_pI, if_pos ⟨rfl, rfl⟩]
    have fu : FR S_st st u := f0.trans (FR.mono (by rfl) r3)
    rw [q5] at r2
    cases hL : isL (b s) with
    | true =>
      have hb := (run_b (n := n) (b := b) (P := isL) (i := s + 1) (by omega)).1
      have hr : run isL n b s = enT n b s := by unfold enT; rw [if_pos hL, run_s c hL]
      rw [hr, if_pos (by omega)] at r2
      rw [hr, show FU = 99999 + 1 from rfl, fX3_step_b99, if_pos r2]
      unfold fX3_step_b186
      rw [r2, if_neg (by decide)]
      refine ⟨_, rfl, ?_, FR.pI (by rfl) fu⟩
      unfold AtC
      rw [hg]
      refine ⟨by rw [sI_pI, if_neg (by omega)]; exact q6, by rw [sI_pI, if_pos ⟨rfl, rfl⟩], by rw [sI_pI, if_neg (by omega), r2]; unfold knd; rw [if_pos hL], 0, by rw [sI_pI, if_neg (by omega)]; exact q8, by omega, fun h => by rw [LD hL] at h; cases h⟩
    | false =>
      rw [run_n c hL, if_neg (by omega)] at r2
      rw [run_n c hL]
      obtain ⟨u2, s1, s2, s3, s4⟩ := dig7 (n := n) (b := b) _ FU s 0 u rfl (by omega) (by unfold FU; omega) (tc.fr (by rfl) fu) (by rw [r2]; decide) q8 (by omega)
      rw [s1]
      have fu2 : FR S_st st u2 := fu.trans (FR.mono (by rfl) s4)
      rw [r2] at s2
      cases hD : isD (b s) with
      | true =>
        have hr : run isD n b s = enT n b s := by unfold enT; rw [if_neg (by rw [hL]; decide), if_pos hD, run_s c hD]
        rw [hr] at s2 s3 ⊢
        rw [if_pos (by omega)] at s2
        unfold fX3_step_b186
        rw [s2, if_neg (by decide)]
        refine ⟨_, rfl, ?_, FR.pI (by rfl) fu2⟩
        unfold AtC
        rw [hg]
        have hrel := vl_rel (b := b) (enT n b s - s) s 0 0 (fun j h1 h2 => by
          obtain ⟨k, k1, k2, e⟩ := isD_v (en_d c hD j h1 (by omega))
          unfold dgT
          rw [e, n_toNat (by omega)]; omega) (Or.inl ⟨by omega, rfl⟩)
        refine ⟨by rw [sI_pI, if_neg (by omega), s4.i (by rfl)]; exact q6, by rw [sI_pI, if_pos ⟨rfl, rfl⟩], by rw [sI_pI, if_neg (by omega), s2]; unfold knd; rw [if_neg (by rw [hL]; decide), if_pos hD], _, by rw [sI_pI, if_neg (by omega)]; exact s3, ?_, fun _ => ?_⟩
        · unfold vR at hrel; omega
        · unfold vlT
          rw [if_pos hD]; exact hrel
      | false =>
        have hr : enT n b s = s + 1 := by unfold enT; rw [if_neg (by rw [hL]; decide), if_neg (by rw [hD]; decide)]
        rw [run_n c hD] at s2 s3 ⊢
        rw [if_neg (by omega)] at s2
        unfold fX3_step_b186
        rw [s2, if_pos rfl, n_p1]
        refine ⟨_, rfl, ?_, FR.pI (by rfl) fu2⟩
        unfold AtC
        rw [hg]
        refine ⟨by rw [sI_pI, if_neg (by omega), s4.i (by rfl)]; exact q6, by rw [sI_pI, if_pos ⟨rfl, rfl⟩, hr], by rw [sI_pI, if_neg (by omega), s2]; unfold knd; rw [if_neg (by rw [hL]; decide), if_neg (by rw [hD]; decide)], 0, ?_, by omega, fun h => by rw [hD] at h; cases h⟩
        rw [sI_pI, if_neg (by omega), s3, Nat.sub_self]; rfl
  · rw [if_neg c] at hd
    have hg : (tkL n b 0)[k]? = none := by
      have h0 : (tkL n b 0)[k]? = ((tkL n b 0).drop k)[0]? := by rw [List.getElem?_drop, Nat.add_zero]
      rw [h0, ← hd]; rfl
    have es : s = n := by omega
    rw [if_pos (by rw [n_le (by omega) (by omega)]; omega)]
    refine ⟨_, rfl, ?_, FR.pI (by rfl) (FR.pI (by rfl) (FR.pI (by rfl) (FR.pI (by rfl) FR.rf)))⟩
    unfold AtC
    rw [hg]
    refine ⟨by rw [sI_pI, if_neg (by omega), sI_pI, if_pos ⟨rfl, rfl⟩], by rw [sI_pI, if_neg (by omega), sI_pI, if_neg (by omega), sI_pI, if_neg (by omega), sI_pI, if_pos ⟨rfl, rfl⟩, es], by rw [sI_pI, if_pos ⟨rfl, rfl⟩, es]⟩
/-! what is read of the token at which one stands -/
theorem AtC.fr {S : List (Nat × Option Nat)} {st u : St} {n : Nat} {b : Nat → Int32} {k : Nat} (e : (inS S 7 5 || inS S 7 6 || inS S 7 7 || inS S 7 8) = false) (h : FR S st u) (m : AtC st n b k) : AtC u n b k := by
  simp only [Bool.or_eq_false_iff] at e
  unfold AtC at m ⊢
  rw [h.i e.1.1.1, h.i e.1.1.2, h.i e.1.2, h.i e.2]; exact m
theorem AtC.pl {st : St} {n : Nat} {b : Nat → Int32} {k : Nat} (a : AtC st n b k) : sI st 7 6 = nI (plT n b k) := by
  unfold AtC at a
  unfold plT
  cases h : (tkL n b 0)[k]? with
  | none => rw [h] at a; exact a.2.1
  | some s => rw [h] at a; exact a.1
theorem whR_o : ∀ id, id < 9 → ∀ c, c = 0 ∨ c = 50 ∨ 100 ≤ c → whR id c = -1 := by
  intro id hid c hc
  have hcs : id = 0 ∨ id = 1 ∨ id = 2 ∨ id = 3 ∨ id = 4 ∨ id = 5 ∨ id = 6 ∨ id = 7 ∨ id = 8 := by omega
  rcases hcs with rfl | rfl | rfl | rfl | rfl | rfl | rfl | rfl | rfl <;> (unfold whR; simp only []; rw [if_neg (by omega)])
theorem which_at {st : St} {n : Nat} {b : Nat → Int32} {k id : Nat} (tc : Tc st n b) (a : AtC st n b k) (hid : id < 9) : fX3_which st id = some (whR id ((tkT n b).2.1 k)) := by
  have hn := tc.2.1
  show _ = some (whR id (match (tkL n b 0)[k]? with | some s => cdT n b s | none => 0))
  unfold AtC at a
  cases h : (tkL n b 0)[k]? with
  | none =>
    rw [h] at a
    unfold fX3_which
    rw [a.1, if_neg (by decide)]
    simp only []
    rw [whR_o id hid 0 (Or.inl rfl)]
  | some s =>
    rw [h] at a
    have hs := (tk_in h).1
    have he := en_b (b := b) hs
    simp only []
    unfold cdT
    cases hL : isL (b s) with
    | true =>
      rw [if_pos rfl]
      have := which7 (st := st) (s := s) (id := id) (W := wdT b s (enT n b s)) (by rw [a.2.2.1]; unfold knd; rw [if_pos hL]) a.1 (by rw [wd_len, a.2.1, show s + (enT n b s - s) = enT n b s by omega]) (fun j hj => by
        rw [wd_len] at hj
        rw [wd_get hj, tc.2.2.1 (s + j) (by omega)]) (by rw [wd_len]; omega) hid
      exact this
    | false =>
      rw [if_neg (by decide)]
      have h5 : ¬ sI st 7 5 = 2 := by
        rw [a.2.2.1]; unfold knd
        rw [if_neg (by rw [hL]; decide)]
        split <;> decide
      unfold fX3_which
      rw [if_neg h5, whR_o id hid _ (by
        have := (and255 (tc.2.2.2 s hs)).1
        split
        · exact Or.inr (Or.inl rfl)
        · exact Or.inr (Or.inr (by omega)))]
theorem sign_at {st : St} {n : Nat} {b : Nat → Int32} {k c : Nat} (tc : Tc st n b) (a : AtC st n b k) (hc : c < 128) : fX3_isSign st (nI c) = some (b2i (decide ((tkT n b).2.1 k = 100 + c))) := by
  have hn := tc.2.1
  show _ = some (b2i (decide ((match (tkL n b 0)[k]? with | some s => cdT n b s | none => 0) = 100 + c)))
  unfold AtC at a
  unfold fX3_isSign
  cases h : (tkL n b 0)[k]? with
  | none =>
    rw [h] at a
    rw [a.1, if_neg (by decide)]
    simp only []
    rw [decide_eq_false (by omega)]; rfl
  | some s =>
    rw [h] at a
    have hs := (tk_in h).1
    simp only []
    rw [a.2.2.1]
    unfold cdT knd
    by_cases hL : isL (b s) = true
    · have := dIx_b (W := wdT b s (enT n b s))
      simp only [hL, if_true]
      rw [if_neg (by decide), decide_eq_false (by omega)]; rfl
    · by_cases hD : isD (b s) = true
      · simp only [hL, hD, if_true]
        rw [if_neg (by decide), if_neg (by decide), decide_eq_false (by omega)]; rfl
      · simp only [hL, hD, Bool.false_eq_true, if_false, if_true]
        rw [a.1, n_ixb (by omega), decide_eq_true (show s < 400 by omega), chk_t, n_toNat (by omega), tc.2.2.1 s hs]
        rcases tc.2.2.2 s hs with ⟨q, q1, q2, q3⟩ | ⟨q, q1, q2, q3, q4⟩
        · rw [q3, n_toNat (by omega), q2]
          have he : (nI q = nI c) = (q = c) := n_eq (by omega) (by omega)
          simp only [he]
          by_cases e : q = c
          · rw [if_pos e, decide_eq_true (by omega)]; rfl
          · rw [if_neg e, decide_eq_false (by omega)]; rfl
        · rw [q4, n_toNat (by omega), decide_eq_false (by omega), if_neg (fun e => by
            rw [e] at q3
            rw [n_neg (by omega)] at q3; exact q3)]; rfl
theorem kind_at {st : St} {n : Nat} {b : Nat → Int32} {k : Nat} (tc : Tc st n b) (a : AtC st n b k) : ((sI st 7 5 = 3) = ((tkT n b).2.1 k = 50)) ∧ ((sI st 7 5 = 0) = ((tkT n b).1 ≤ k)) := by
  show ((sI st 7 5 = 3) = ((match (tkL n b 0)[k]? with | some s => cdT n b s | none => 0) = 50)) ∧ ((sI st 7 5 = 0) = ((tkL n b 0).length ≤ k))
  unfold AtC at a
  cases h : (tkL n b 0)[k]? with
  | none =>
    rw [h] at a
    have hl := List.getElem?_eq_none_iff.mp h
    rw [a.1]
    exact ⟨propext ⟨fun e => absurd e (by decide), fun e => by cases e⟩, propext ⟨fun _ => hl, fun _ => rfl⟩⟩
  | some s =>
    rw [h] at a
    obtain ⟨hs, _, hkl⟩ := tk_in h
    rw [a.2.2.1]
    have h2 := (and255 (tc.2.2.2 s hs)).1
    have h1 := dIx_b (W := wdT b s (enT n b s))
    simp only []
    unfold knd cdT
    by_cases hL : isL (b s) = true
    · rw [if_pos hL, if_pos hL]
      exact ⟨propext ⟨fun e => absurd e (by decide), fun e => by omega⟩, propext ⟨fun e => absurd e (by decide), fun e => by omega⟩⟩
    · rw [if_neg hL, if_neg hL]
      by_cases hD : isD (b s) = true
      · rw [if_pos hD, if_pos hD]
        exact ⟨propext ⟨fun _ => rfl, fun _ => rfl⟩, propext ⟨fun e => absurd e (by decide), fun e => by omega⟩⟩
      · rw [if_neg hD, if_neg hD]
        exact ⟨propext ⟨fun e => absurd e (by decide), fun e => by omega⟩, propext ⟨fun e => absurd e (by decide), fun e => by omega⟩⟩
theorem num_at {st : St} {n : Nat} {b : Nat → Int32} {k : Nat} (tc : Tc st n b) (a : AtC st n b k) (h50 : (tkT n b).2.1 k = 50) : ∃ v, sI st 7 8 = nI v ∧ v ≤ 10009 ∧ vR ((tkT n b).2.2 k) v := by
  have h50' : (match (tkL n b 0)[k]? with | some s => cdT n b s | none => 0) = 50 := h50
  show ∃ v, sI st 7 8 = nI v ∧ v ≤ 10009 ∧ vR (match (tkL n b 0)[k]? with | some s => vlT n b s | none => 0) v
  unfold AtC at a
  cases h : (tkL n b 0)[k]? with
  | none => rw [h] at h50'; cases h50'
  | some s =>
    rw [h] at a h50'
    obtain ⟨hs, _, _⟩ := tk_in h
    simp only [] at h50' ⊢
    obtain ⟨v, v1, v2, v3⟩ := a.2.2.2
    refine ⟨v, v1, v2, v3 ?_⟩
    unfold cdT at h50'
    have h1 := dIx_b (W := wdT b s (enT n b s))
    split at h50'
    · omega
    · split at h50'
      · assumption
      · omega
theorem byte_at {st : St} {n : Nat} {b : Nat → Int32} {k c : Nat} (tc : Tc st n b) (a : AtC st n b k) (hc : (tkT n b).2.1 k = c) (h1 : 100 ≤ c) (h2 : c < 228) : ixb (sI st 7 6) 400 = true ∧ sI st 8 (sI st 7 6).toNatClampNeg = nI (c - 100) := by
  have hc' : (match (tkL n b 0)[k]? with | some s => cdT n b s | none => 0) = c := hc
  have hn := tc.2.1
  unfold AtC at a
  cases h : (tkL n b 0)[k]? with
  | none => rw [h] at hc'; simp only [] at hc'; omega
  | some s =>
    rw [h] at a hc'
    obtain ⟨hs, _, _⟩ := tk_in h
    simp only [] at hc'
    rw [a.1, n_ixb (by omega), n_toNat (by omega), tc.2.2.1 s hs]
    refine ⟨decide_eq_true (by omega), ?_⟩
    unfold cdT at hc'
    have hd := dIx_b (W := wdT b s (enT n b s))
    split at hc'
    · omega
    · split at hc'
      · omega
      · rcases tc.2.2.2 s hs with ⟨q, q1, q2, q3⟩ | ⟨q, q1, q2, q3, q4⟩
        · rw [q3, n_toNat (by omega)] at hc'
          rw [q2]; congr 1; omega
        · rw [q4, n_toNat (by omega)] at hc'; omega
