/-! a law is laid: the class keeps a trimmed script -/
def cp12 (q a : Nat) (i : St) : St := rI i q (va_cpy (sI i a) (sI i q) (0 : Int32).toNatClampNeg (0 : Int32).toNatClampNeg (12 : Int32).toNatClampNeg)
def tr0 (st : St) : St := iX5_init (sn st) (sI (alc st 5 0) 9 6) (alc st 5 0)
def tr4 (st : St) : St := cp12 (sn st + 4) 13 (cp12 (sn st + 3) 12 (cp12 (sn st + 2) 11 (cp12 (sn st + 1) 10 (tr0 st))))
def tr5 (q : Nat) (i : St) : St := rI i (q + 5) (va_cpy (sI i 14) (sI i (q + 5)) (0 : Int32).toNatClampNeg (0 : Int32).toNatClampNeg (jmin (sI i 9 6) (nI (sN i (q + 5)))).toNatClampNeg)
def tr6 (q : Nat) (i : St) : St := pI i q 5 (sI i 9 5)
def tr7 (q : Nat) (i : St) : St := pI i q 6 (sI i 9 6)
def tr8 (q : Nat) (i : St) : St := pI i q 7 (sI i 9 7)
theorem trim_eq {st : St} : fX5_trimmed st = chk (trb (sI (alc st 5 0) 9 6)) (chk (cpb 0 0 (jmin (sI (tr4 st) 9 6) (nI (sN (tr4 st) (sn st + 5)))) 826 (sN (tr4 st) (sn st + 5))) (some (some (sn st), tr8 (sn st) (tr7 (sn st) (tr6 (sn st) (tr5 (sn st) (tr4 st))))))) := rfl
theorem cp12_i {q a : Nat} {i : St} {b j : Nat} : sI (cp12 q a i) b j = if b = q ∧ j < 12 then sI i a j else sI i b j := by
  unfold cp12
  rw [sI_rI]
  by_cases c : b = q
  · subst c
    rw [if_pos rfl]
    unfold va_cpy
    show (if 0 ≤ j ∧ j < 0 + 12 then sI i a (0 + (j - 0)) else sI i b j) = _
    by_cases d : j < 12
    · rw [if_pos ⟨Nat.zero_le _, by omega⟩, if_pos ⟨rfl, d⟩, Nat.zero_add, Nat.sub_zero]
    · rw [if_neg (by omega), if_neg (by omega)]
  · rw [if_neg c, if_neg (fun e => c e.1)]
theorem tr0_i {st : St} {a j : Nat} (h : a < sn st) : sI (tr0 st) a j = sI st a j := by
  obtain ⟨h0, h1, h2, h3, h4, h5, h6⟩ := a_ne h
  simp [tr0, iX5_init, sI_alc, sI_pI, sI_pR, sn_alc, sn_pI, sn_pR, h0, h1, h2, h3, h4, h5, h6]
theorem tr0_N {st : St} {a : Nat} (h : a < sn st) : sN (tr0 st) a = sN st a := by
  obtain ⟨h0, h1, h2, h3, h4, h5, h6⟩ := a_ne h
  simp [tr0, iX5_init, sN_alc, sN_pI, sN_pR, sn_alc, sn_pI, sn_pR, h0, h1, h2, h3, h4, h5, h6]
theorem tr0_N5 {st : St} : sN (tr0 st) (sn st + 5) = (jmax 1 (sI (alc st 5 0) 9 6)).toNatClampNeg := by
  simp [tr0, iX5_init, sN_alc, sN_pI, sN_pR, sn_alc, sn_pI, sn_pR, Nat.add_assoc]
theorem tr0_R {st : St} {a j : Nat} (h : a < sn st) : sR (tr0 st) a j = sR st a j := by
  obtain ⟨h0, h1, h2, h3, h4, h5, h6⟩ := a_ne h
  simp [tr0, iX5_init, sR_alc, sR_pI, sR_pR, sn_alc, sn_pI, sn_pR, h0, h1, h2, h3, h4, h5, h6]
theorem jmaxn {sz : Nat} (h1 : 1 ≤ sz) (h2 : sz < 2147483648) : jmax 1 (nI sz) = nI sz := by
  unfold jmax
  have : ((1 : Int32) < nI sz) = (1 < sz) := n_lt (a := 1) (by omega) h2
  simp only [this]
  by_cases q : 1 < sz
  · rw [if_pos q]
  · rw [if_neg q, show sz = 1 by omega]; rfl
theorem jminn {sz : Nat} : jmin (nI sz) (nI sz) = nI sz := by
  unfold jmin; simp
theorem trim_ok {st : St} {sz : Nat} (w : WT st) (h6 : sI st 9 6 = nI sz) (h1 : 1 ≤ sz) (h2 : sz ≤ 826) : ∃ u, fX5_trimmed st = some (some (sn st), u) ∧ WT u ∧ Obj u 5 (sn st) ∧ sn u = sn st + 6 ∧ (∀ a j, a < sn st → sI u a j = sI st a j) ∧ (∀ a, a < sn st → sN u a = sN st a) ∧ (∀ a j, a < sn st → sR u a j = sR st a j) ∧ (∀ j, 5 ≤ j → j ≤ 7 → sI u (sn st) j = sI st 9 j) ∧ (∀ a j, 10 ≤ a → a ≤ 13 → j < 12 → sI u (sn st + (a - 9)) j = sI st a j) ∧ (∀ j, j < sz → sI u (sn st + 5) j = sI st 14 j) ∧ sN u (sn st + 5) = sz := by
  have w65 : 65 ≤ sn st := w.1
  have ea : sI (alc st 5 0) 9 6 = nI sz := by rw [sI_alc, if_neg (by omega)]; exact h6
  have i4 : ∀ a j, a < sn st → sI (tr4 st) a j = sI st a j := by
    intro a j h
    unfold tr4
    rw [cp12_i, if_neg (by omega), cp12_i, if_neg (by omega), cp12_i, if_neg (by omega), cp12_i, if_neg (by omega)]
    exact tr0_i h
  have n5 : sN (tr4 st) (sn st + 5) = sz := by
    show sN (tr0 st) (sn st + 5) = sz
    rw [tr0_N5, ea, jmaxn h1 (by omega), n_toNat (by omega)]
  have c5 : sI (tr4 st) 9 6 = nI sz := (i4 9 6 (by omega)).trans h6
  have k1 : trb (nI sz) = true := by
    unfold trb
    rw [jmaxn h1 (by omega), n_toNat (by omega)]
    exact decide_eq_true ⟨by rw [n_neg (by omega)]; exact fun h => h, h2⟩
  have k2 : cpb 0 0 (nI sz) 826 sz = true := by
    unfold cpb
    rw [n_toNat (by omega), decide_eq_true (show ¬ nI sz < 0 from fun h => by rw [n_neg (by omega)] at h; exact h)]
    show (decide (¬ (0 : Int32) < 0) && decide (¬ (0 : Int32) < 0) && true && decide (0 + sz ≤ 826) && decide (0 + sz ≤ sz)) = true
    rw [decide_eq_true (show 0 + sz ≤ 826 by omega), decide_eq_true (show 0 + sz ≤ sz by omega)]
    decide
  have w4 : WT (tr4 st) := wrI (wrI (wrI (wrI (wt_scr w))))
  have o4 : Obj (tr4 st) 5 (sn st) := iX5_init_ob (st := alc st 5 0) alc_new.obj
  have R4 : ∀ a j, a < sn st → sR (tr4 st) a j = sR st a j := fun a j h => tr0_R h
  have N4 : ∀ a, a < sn st → sN (tr4 st) a = sN st a := fun a h => tr0_N h
  have sn4 : sn (tr4 st) = sn st + 6 := rfl
  have d4 : ∀ a j, 10 ≤ a → a ≤ 13 → j < 12 → sI (tr4 st) (sn st + (a - 9)) j = sI st a j := by
    intro a j ha hb hj
    unfold tr4
    have hc : a = 10 ∨ a = 11 ∨ a = 12 ∨ a = 13 := by omega
    rcases hc with rfl | rfl | rfl | rfl
    · rw [cp12_i, if_neg (by omega), cp12_i, if_neg (by omega), cp12_i, if_neg (by omega), cp12_i, if_pos ⟨rfl, hj⟩]
      exact tr0_i (by omega)
    · rw [cp12_i, if_neg (by omega), cp12_i, if_neg (by omega), cp12_i, if_pos ⟨rfl, hj⟩, cp12_i, if_neg (by omega)]
      exact tr0_i (by omega)
    · rw [cp12_i, if_neg (by omega), cp12_i, if_pos ⟨rfl, hj⟩, cp12_i, if_neg (by omega), cp12_i, if_neg (by omega)]
      exact tr0_i (by omega)
    · rw [cp12_i, if_pos ⟨rfl, hj⟩, cp12_i, if_neg (by omega), cp12_i, if_neg (by omega), cp12_i, if_neg (by omega)]
      exact tr0_i (by omega)
  rw [trim_eq, ea, k1, chk_t, c5, n5, jminn, k2, chk_t]
  have e5 : ∀ a j, sI (tr5 (sn st) (tr4 st)) a j = if a = sn st + 5 ∧ j < sz then sI (tr4 st) 14 j else sI (tr4 st) a j := by
    intro a j
    unfold tr5
    rw [sI_rI, c5, n5, jminn, n_toNat (by omega)]
    by_cases c : a = sn st + 5
    · subst c
      rw [if_pos rfl]
      unfold va_cpy
      show (if 0 ≤ j ∧ j < 0 + sz then sI (tr4 st) 14 (0 + (j - 0)) else sI (tr4 st) (sn st + 5) j) = _
      by_cases d : j < sz
      · rw [if_pos ⟨Nat.zero_le _, by omega⟩, if_pos ⟨rfl, d⟩, Nat.zero_add, Nat.sub_zero]
      · rw [if_neg (by omega), if_neg (by omega)]
    · rw [if_neg c, if_neg (fun e => c e.1)]
  have w5 : WT (tr5 (sn st) (tr4 st)) := wrI w4
  have o5 : Obj (tr5 (sn st) (tr4 st)) 5 (sn st) := o4
  have R5 : ∀ a j, a < sn st → sR (tr5 (sn st) (tr4 st)) a j = sR st a j := R4
  have N5 : ∀ a, a < sn st → sN (tr5 (sn st) (tr4 st)) a = sN st a := N4
  have NN : sN (tr5 (sn st) (tr4 st)) (sn st + 5) = sz := n5
  have sn5 : sn (tr5 (sn st) (tr4 st)) = sn st + 6 := rfl
  generalize tr5 (sn st) (tr4 st) = s5 at *
  have e8 : ∀ a j, sI (tr8 (sn st) (tr7 (sn st) (tr6 (sn st) s5))) a j = if a = sn st ∧ 5 ≤ j ∧ j ≤ 7 then sI s5 9 j else sI s5 a j := by
    intro a j
    unfold tr8 tr7 tr6
    simp only [sI_pI, show ¬ (9 = sn st) by omega, false_and, if_false]
    by_cases c : a = sn st
    · simp only [c, true_and]
      by_cases q7 : j = 7
      · subst q7; simp
      · by_cases q6 : j = 6
        · subst q6; simp
        · by_cases q5 : j = 5
          · subst q5; simp
          · rw [if_neg q7, if_neg q6, if_neg q5, if_neg (by omega)]
    · simp only [c, false_and, if_false]
  refine ⟨_, rfl, w5, o5, sn5, fun a j h => ?_, N5, R5, fun j ha hb => ?_, fun a j ha hb hj => ?_, fun j hj => ?_, NN⟩
  · rw [e8, if_neg (by omega), e5, if_neg (by omega)]; exact i4 a j h
  · rw [e8, if_pos ⟨rfl, ha, hb⟩, e5, if_neg (by omega)]; exact i4 9 j (by omega)
  · rw [e8, if_neg (by omega), e5, if_neg (by omega)]; exact d4 a j ha hb hj
  · rw [e8, if_neg (by omega), e5, if_pos ⟨rfl, hj⟩]; exact i4 14 j (by omega)
/-- a trimmed script tells the same -/
theorem impl_cp {nf q : Nat} {st u : St} {L : List Cls} {sz : Nat} (h1 : 1 ≤ sz) (h6 : sI st 9 6 = nI sz) (hsz : sz ≤ 826) (a1 : ∀ j, 5 ≤ j → j ≤ 7 → sI u q j = sI st 9 j) (a2 : ∀ a j, 10 ≤ a → a ≤ 13 → j < 12 → sI u (q + (a - 9)) j = sI st a j) (a3 : ∀ j, j < sz → sI u (q + 5) j = sI st 14 j) (a4 : sN u (q + 5) = sz) (m : Impl nf (scr st 9) L) : Impl nf (scr u q) L := by
  obtain ⟨b1, b2, sz', cap, ku, b3, b4, b5, b6, b7, b8, b9, b10, b11, b12⟩ := m
  rw [scr_i (by omega)] at b2 b7 b8
  have e : sz' = sz := n_inj (by omega) (by omega) (b7.symm.trans h6)
  subst e
  have r : ∀ i j, 1 ≤ i → i ≤ 4 → j < 12 → scr u q i j = scr st 9 i j := by
    intro i j c1 c2 c3
    rw [scr_i (by omega), scr_i (by omega)]
    have := a2 (9 + i) j (by omega) (by omega) c3
    rw [show 9 + i - 9 = i by omega] at this
    exact this
  have r5 : ∀ j, j < sz' → scr u q 5 j = scr st 9 5 j := fun j hj => by rw [scr_i (by omega), scr_i (by omega)]; exact a3 j hj
  have cod : ∀ v D, Cod nf (scr st 9) sz' v D → Cod nf (scr u q) sz' v D := by
    rintro v D ⟨p, p1, e1, e2, e3, e4, e5⟩
    exact ⟨p, p1, e1, e2, e3, (r5 p1 e3).trans e4, e5.eq (fun j h1 h2 => r5 j (by omega))⟩
  refine ⟨b1, ?_, sz', sz', ku, b3, Nat.le_refl _, by omega, ?_, ?_, ?_, b9, b10, fun i c hc => ?_, b12⟩
  · rw [scr_i (by omega)]; exact (a1 5 (by omega) (by omega)).trans b2
  · show nI (min (sN u (q + 5)) 1000) = nI sz'
    rw [a4, Nat.min_eq_left (by omega)]
  · rw [scr_i (by omega)]; exact (a1 6 (by omega) (by omega)).trans b7
  · rw [scr_i (by omega)]; exact (a1 7 (by omega) (by omega)).trans b8
  · have hi : i < 12 := by have := (List.getElem?_eq_some_iff.mp hc).1; omega
    obtain ⟨m1, m2, m3, m4, m5, m6⟩ := b11 i c hc
    refine ⟨by rw [r 1 i (by omega) (by omega) hi]; exact m1, by rw [r 2 i (by omega) (by omega) hi]; exact m2, m3, m4, ?_, ?_⟩
    · rw [r 3 i (by omega) (by omega) hi]
      rcases m5 with m5 | ⟨m5, m7⟩
      · exact Or.inl m5
      · exact Or.inr ⟨m5, cod _ _ m7⟩
    · rw [r 4 i (by omega) (by omega) hi]
      rcases m6 with m6 | m6
      · exact Or.inl m6
      · exact Or.inr (cod _ _ m6)
