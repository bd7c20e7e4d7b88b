/-! a ring becomes another one -/
theorem ring_scr {st : St} {t q : Nat} (w : WT st) (h1 : Obj st 4 t) (h2 : Obj st 5 q) : q + 6 ≤ t ∨ t + 5 ≤ q := by
  obtain ⟨⟨_, a1⟩, ⟨_, a2⟩, ⟨_, a3⟩, ⟨_, a4⟩, _⟩ := w.ring h1
  obtain ⟨⟨_, b1⟩, ⟨_, b2⟩, ⟨_, b3⟩, ⟨_, b4⟩, ⟨_, b5⟩⟩ := w.scr h2
  have k1 : st.1.1 t = 4 := h1.2
  have k2 : st.1.1 q = 5 := h2.2
  have c1 : st.1.1 (t + 1) = 10 := a1.2.1
  have c2 : st.1.1 (t + 2) = 10 := a2.2.1
  have c3 : st.1.1 (t + 3) = 14 := a3.2.1
  have c4 : st.1.1 (t + 4) = 10 := a4.2.1
  have d1 : st.1.1 (q + 1) = 10 := b1.2.1
  have d2 : st.1.1 (q + 2) = 10 := b2.2.1
  have d3 : st.1.1 (q + 3) = 10 := b3.2.1
  have d4 : st.1.1 (q + 4) = 10 := b4.2.1
  have d5 : st.1.1 (q + 5) = 10 := b5.2
  by_cases e : q + 6 ≤ t ∨ t + 5 ≤ q
  · exact e
  · exfalso
    have : q = t ∨ q = t + 1 ∨ q = t + 2 ∨ q = t + 3 ∨ q = t + 4 ∨ t = q + 1 ∨ t = q + 2 ∨ t = q + 3 ∨ t = q + 4 ∨ t = q + 5 := by omega
    rcases this with h | h | h | h | h | h | h | h | h | h <;> (have e := congrArg st.1.1 h; omega)
theorem ring_ring {st : St} {t q : Nat} (w : WT st) (h1 : Obj st 4 t) (h2 : Obj st 4 q) (ne : t ≠ q) : q + 5 ≤ t ∨ t + 5 ≤ q := by
  obtain ⟨⟨_, a1⟩, ⟨_, a2⟩, ⟨_, a3⟩, ⟨_, a4⟩, _⟩ := w.ring h1
  obtain ⟨⟨_, b1⟩, ⟨_, b2⟩, ⟨_, b3⟩, ⟨_, b4⟩, _⟩ := w.ring h2
  have k1 : st.1.1 t = 4 := h1.2
  have k2 : st.1.1 q = 4 := h2.2
  have c1 : st.1.1 (t + 1) = 10 := a1.2.1
  have c2 : st.1.1 (t + 2) = 10 := a2.2.1
  have c3 : st.1.1 (t + 3) = 14 := a3.2.1
  have c4 : st.1.1 (t + 4) = 10 := a4.2.1
  have d1 : st.1.1 (q + 1) = 10 := b1.2.1
  have d2 : st.1.1 (q + 2) = 10 := b2.2.1
  have d3 : st.1.1 (q + 3) = 14 := b3.2.1
  have d4 : st.1.1 (q + 4) = 10 := b4.2.1
  by_cases e : q + 5 ≤ t ∨ t + 5 ≤ q
  · exact e
  · exfalso
    have : q = t + 1 ∨ q = t + 2 ∨ q = t + 3 ∨ q = t + 4 ∨ t = q + 1 ∨ t = q + 2 ∨ t = q + 3 ∨ t = q + 4 := by omega
    rcases this with h | h | h | h | h | h | h | h <;> (have e := congrArg st.1.1 h; omega)
theorem bec_loop {t o : Nat} (ht : t ≠ o) : ∀ (d n i : Nat) (st : St), i + d = 6 → d < n → WT st → Obj st 4 t → Obj st 4 o → ∃ u n', fX4_becomes_b31 n t o (nI i) st = fX4_becomes_b31 (n' + 1) t o (nI 6) u ∧ WT u ∧ sn u = sn st ∧ (∀ a, sN u a = sN st a) ∧ (∀ a j, sI u a j = sI st a j) ∧ (∀ a j, a ≠ t + 3 → sR u a j = sR st a j) ∧ ∀ j, sR u (t + 3) j = if i ≤ j ∧ j < 6 then sR st (o + 3) j else sR st (t + 3) j := by
  intro d
  induction d with
  | zero =>
    intro n i st h1 h2 w o1 o2
    obtain ⟨n, rfl⟩ : ∃ m, n = m + 1 := ⟨n - 1, by omega⟩
    obtain rfl : i = 6 := by omega
    exact ⟨st, n, rfl, w, rfl, fun _ => rfl, fun _ _ => rfl, fun _ _ _ => rfl, fun j => by rw [if_neg (by omega)]⟩
  | succ d ih =>
    intro n i st h1 h2 w o1 o2
    obtain ⟨n, rfl⟩ : ∃ m, n = m + 1 := ⟨n - 1, by omega⟩
    have w1 : WT (pR st (t + 3) i (sR st (o + 3) i)) := wpRlaw o1 (fun b hb => (w.ring o2).2.2.2.2 i b hb) w
    obtain ⟨u, n', e1, e2, e3, e4, e5, e6, e7⟩ := ih n (i + 1) (pR st (t + 3) i (sR st (o + 3) i)) (by omega) (by omega) w1 o1 o2
    refine ⟨u, n', ?_, e2, e3, e4, e5, fun a j h => ?_, fun j => ?_⟩
    · rw [fX4_becomes_b31, if_neg (by rw [show (6 : Int32) = nI 6 from rfl, n_le (by omega) (by omega)]; omega), n_ixb (by omega), decide_eq_true (show i < 6 by omega), chk_t, chk_t, n_toNat (by omega), n_p1]; exact e1
    · rw [e6 a j h, sR_pR, if_neg (fun e => h e.1)]
    · rw [e7 j, sR_pR, sR_pR]
      by_cases c : j = i
      · subst c; rw [if_neg (by omega), if_pos ⟨rfl, rfl⟩, if_pos (by omega)]
      · by_cases c2 : i + 1 ≤ j ∧ j < 6
        · rw [if_pos c2, if_neg (by omega), if_pos (by omega)]
        · rw [if_neg c2, if_neg (fun e => c e.2), if_neg (by omega)]
theorem bec_end {t o n : Nat} {st : St} (hd : t + 5 ≤ o ∨ o + 5 ≤ t) : ∃ u, fX4_becomes_b31 (n + 1) t o (nI 6) st = some u ∧ u.1 = st.1 ∧ ∀ a j, sI u a j = if a = t + 4 ∧ j < 4 then sI st (o + 4) j else if a = t ∧ 4 ≤ j ∧ j ≤ 8 then sI st o j else sI st a j := by
  rw [fX4_becomes_b31, if_pos (by decide)]
  have h1 : ¬ o = t + 4 := by omega
  have h2 : ¬ o = t := by omega
  have h3 : ¬ t = t + 4 := by omega
  have h4 : ¬ t + 4 = t := by omega
  simp only [sI_pI, sI_rI, h1, h2, h3, h4, false_and, if_false]
  refine ⟨_, rfl, rfl, fun a j => ?_⟩
  simp only [sI_pI, sI_rI, va_cpy]
  by_cases c1 : a = t
  · subst c1
    simp only [h3, true_and, false_and, if_false]
    by_cases q8 : j = 8
    · subst q8; simp
    · by_cases q7 : j = 7
      · subst q7; simp
      · by_cases q6 : j = 6
        · subst q6; simp
        · by_cases q5 : j = 5
          · subst q5; simp
          · by_cases q4 : j = 4
            · subst q4; simp
            · rw [if_neg q8, if_neg q7, if_neg q6, if_neg q5, if_neg q4, if_neg (by omega)]
  · simp only [c1, false_and, if_false]
    by_cases c2 : a = t + 4
    · subst c2
      simp only [true_and, if_true]
      by_cases c3 : j < 4
      · rw [if_pos c3, if_pos (by simp; omega)]; simp
      · rw [if_neg c3, if_neg (by simp; omega)]
    · simp only [c2, false_and, if_false]
theorem becomes_ok {t o : Nat} {st : St} (w : WT st) (o1 : Obj st 4 t) (o2 : Obj st 4 o) (ne : t ≠ o) : ∃ u, fX4_becomes t o st = some u ∧ WT u ∧ sn u = sn st ∧ (∀ a, sN u a = sN st a) ∧ (∀ a j, a ≠ t + 3 → sR u a j = sR st a j) ∧ (∀ j, j < 6 → sR u (t + 3) j = sR st (o + 3) j) ∧ (∀ a j, a < t ∨ t + 5 ≤ a → sI u a j = sI st a j) ∧ ∀ x, CRg st o x → CRg u t x := by
  have hd := ring_ring w o1 o2 ne
  unfold fX4_becomes
  have h1 : ¬ o + 2 = t + 1 := by omega
  have h2 : ¬ t + 2 = t + 1 := by omega
  have hA : ∀ F, sI (rI st (t + 1) F) (o + 2) = sI st (o + 2) := fun F => funext fun j => by rw [sI_rI, if_neg h1]
  have hB : ∀ F, sI (rI st (t + 1) F) (t + 2) = sI st (t + 2) := fun F => funext fun j => by rw [sI_rI, if_neg h2]
  simp only [hA, hB]
  obtain ⟨u, n', e1, e2, e3, e4, e5, e6, e7⟩ := bec_loop ne 6 FU 0 (rI (rI st (t + 1) (va_cpy (sI st (o + 1)) (sI st (t + 1)) (0 : Int32).toNatClampNeg (0 : Int32).toNatClampNeg (6 : Int32).toNatClampNeg)) (t + 2) (va_cpy (sI st (o + 2)) (sI st (t + 2)) (0 : Int32).toNatClampNeg (0 : Int32).toNatClampNeg (5 : Int32).toNatClampNeg)) (by omega) (by unfold FU; omega) w o1 o2
  obtain ⟨v, k1, k2, k3⟩ := bec_end (n := n') (st := u) (by omega : t + 5 ≤ o ∨ o + 5 ≤ t)
  refine ⟨v, ?_, ?_, ?_, fun a => ?_, fun a j h => ?_, fun j h => ?_, fun a j h => ?_, fun x c => ?_⟩
  · rw [show (0 : Int32) = nI 0 from rfl] at *
    exact e1.trans k1
  · unfold WT; rw [k2]; exact e2
  · show v.1.2.2.2 = _; rw [k2]; exact e3
  · show v.1.2.1 a = _; rw [k2]; exact e4 a
  · show v.1.2.2.1 a j = _; rw [k2]; exact e6 a j h
  · show v.1.2.2.1 (t + 3) j = _; rw [k2]
    have := e7 j
    rw [if_pos (by omega)] at this
    exact this
  · rw [k3, if_neg (by omega), if_neg (by omega), e5, sI_rI, if_neg (by omega), sI_rI, if_neg (by omega)]
  · obtain ⟨⟨a1, a2, a3, a4, a5⟩, ⟨b1, b2, b3, b4⟩, c1, c2⟩ := c
    have r0 : ∀ j, 4 ≤ j → j ≤ 8 → sI v t j = sI st o j := by
      intro j h3 h4
      rw [k3, if_neg (by omega), if_pos ⟨rfl, h3, h4⟩, e5, sI_rI, if_neg (by omega), sI_rI, if_neg (by omega)]
    have r4 : ∀ j, j < 4 → sI v (t + 4) j = sI st (o + 4) j := by
      intro j h3
      rw [k3, if_pos ⟨rfl, h3⟩, e5, sI_rI, if_neg (by omega), sI_rI, if_neg (by omega)]
    have r1 : ∀ j, j < 6 → sI v (t + 1) j = sI st (o + 1) j := by
      intro j h3
      rw [k3, if_neg (by omega), if_neg (by omega), e5, sI_rI, if_neg (by omega), sI_rI, if_pos rfl]
      unfold va_cpy
      rw [if_pos ⟨Nat.zero_le _, h3⟩]
      show sI st (o + 1) (0 + (j - 0)) = _
      rw [Nat.zero_add, Nat.sub_zero]
    have r2 : ∀ j, j < 5 → sI v (t + 2) j = sI st (o + 2) j := by
      intro j h3
      rw [k3, if_neg (by omega), if_neg (by omega), e5, sI_rI, if_pos rfl]
      unfold va_cpy
      rw [if_pos ⟨Nat.zero_le _, h3⟩]
      show sI st (o + 2) (0 + (j - 0)) = _
      rw [Nat.zero_add, Nat.sub_zero]
    exact ⟨⟨(r0 4 (by omega) (by omega)).trans a1, (r0 5 (by omega) (by omega)).trans a2, (r0 6 (by omega) (by omega)).trans a3, (r0 7 (by omega) (by omega)).trans a4, (r0 8 (by omega) (by omega)).trans a5⟩, ⟨(r4 0 (by omega)).trans b1, (r4 1 (by omega)).trans b2, (r4 2 (by omega)).trans b3, (r4 3 (by omega)).trans b4⟩, fun j hj => (r1 j hj).trans (c1 j hj), fun j hj => (r2 j hj).trans (c2 j hj)⟩
theorem Lws_mv {st u : St} {t o : Nat} {x : Rg} (h : Hi st u) (h18 : x.1 18 ≤ 6) (hr : ∀ i, i < 6 → sR u (t + 3) i = sR st (o + 3) i) (m : Lws st o x) : Lws u t x := by
  intro i hi
  obtain ⟨q, L, h1, h5, h2, h3, h4⟩ := m i hi
  refine ⟨q, L, h1, Nat.le_trans h5 h.1, (hr i (by omega)).trans h2, h3, ?_⟩
  rw [scr_eq h h1 h5]; exact h4
theorem MRg_cp {st u : St} {a a' o o' : Nat} {x : Rg} (h18 : x.1 18 ≤ 6) (h : ∀ i, i < 5627 → sI u a' (o' + i) = sI st a (o + i)) (m : MRg st a o x) : MRg u a' o' x := by
  refine ⟨fun k hk => (h k (by omega)).trans (m.1 k hk), (h 19 (by omega)).trans m.2.1, fun i hi => ?_⟩
  obtain ⟨h1, h2, h3⟩ := m.2.2 i hi
  have h400 := h1.1
  exact ⟨h1, (h (20 + i) (by omega)).trans h2, fun k hk => ⟨(h _ (by omega)).trans (h3 k hk).1, (h _ (by omega)).trans (h3 k hk).2⟩⟩
/-! back to an image -/
theorem back8 {k : Nat} (hk : k < 2) : ∀ (d n i : Nat) (st : St), i + d = 5627 → d < n → ∃ u, fX8_back_b33 n (nI k) (nI i) st = fX8_settled 0 u ∧ (∀ j, sI u 40 j = if i ≤ j ∧ j < 5627 then sI st 41 (5627 * k + j) else sI st 40 j) ∧ FR [(40, none)] st u := by
  intro d
  induction d with
  | zero =>
    intro n i st h1 h2
    obtain ⟨n, rfl⟩ : ∃ m, n = m + 1 := ⟨n - 1, by omega⟩
    refine ⟨st, ?_, fun j => by rw [if_neg (by omega)], FR.rf⟩
    rw [fX8_back_b33, if_pos (by rw [show (5627 : Int32) = nI 5627 from rfl, n_le (by omega) (by omega)]; omega)]
  | succ d ih =>
    intro n i st h1 h2
    obtain ⟨n, rfl⟩ : ∃ m, n = m + 1 := ⟨n - 1, by omega⟩
    obtain ⟨u, e1, e2, e3⟩ := ih n (i + 1) (pI st 40 i (sI st 41 (5627 * k + i))) (by omega) (by omega)
    refine ⟨u, ?_, fun j => ?_, FR.trans (FR.pI (by rfl) FR.rf) e3⟩
    · rw [fX8_back_b33, if_neg (by rw [show (5627 : Int32) = nI 5627 from rfl, n_le (by omega) (by omega)]; omega), show (5627 : Int32) * nI k = nI (5627 * k) from n_mul 5627 k, n_add, n_ixb (by omega), n_ixb (by omega), decide_eq_true (show 5627 * k + i < 11254 by omega), decide_eq_true (show i < 5627 by omega), chk_t, chk_t, n_toNat (by omega), n_toNat (by omega), n_p1]; exact e1
    · rw [e2 j, sI_pI, sI_pI, if_neg (show ¬ ((41 : Nat) = 40 ∧ 5627 * k + j = i) by omega)]
      by_cases c : j = i
      · subst c; rw [if_neg (by omega), if_pos ⟨rfl, rfl⟩, if_pos (by omega)]
      · by_cases c2 : i + 1 ≤ j ∧ j < 5627
        · rw [if_pos c2, if_pos (by omega)]
        · rw [if_neg c2, if_neg (fun e => c e.2), if_neg (by omega)]
theorem image8 {k : Nat} (hk : k < 2) : ∀ (d n i : Nat) (st : St), i + d = 5627 → d < n → ∃ u, fX8_image_b17 n (nI k) (nI i) st = fX8_good 0 (pI u 42 k 1) ∧ (∀ j, sI u 41 j = if 5627 * k + i ≤ j ∧ j < 5627 * k + 5627 then sI st 40 (j - 5627 * k) else sI st 41 j) ∧ FR [(41, none)] st u := by
  intro d
  induction d with
  | zero =>
    intro n i st h1 h2
    obtain ⟨n, rfl⟩ : ∃ m, n = m + 1 := ⟨n - 1, by omega⟩
    refine ⟨st, ?_, fun j => by rw [if_neg (by omega)], FR.rf⟩
    rw [fX8_image_b17, if_pos (by rw [show (5627 : Int32) = nI 5627 from rfl, n_le (by omega) (by omega)]; omega), n_ixb (by omega), decide_eq_true hk, chk_t, n_toNat (by omega)]
    rfl
  | succ d ih =>
    intro n i st h1 h2
    obtain ⟨n, rfl⟩ : ∃ m, n = m + 1 := ⟨n - 1, by omega⟩
    obtain ⟨u, e1, e2, e3⟩ := ih n (i + 1) (pI st 41 (5627 * k + i) (sI st 40 i)) (by omega) (by omega)
    refine ⟨u, ?_, fun j => ?_, FR.trans (FR.pI (by rfl) FR.rf) e3⟩
    · rw [fX8_image_b17, if_neg (by rw [show (5627 : Int32) = nI 5627 from rfl, n_le (by omega) (by omega)]; omega), show (5627 : Int32) * nI k = nI (5627 * k) from n_mul 5627 k, n_add, n_ixb (by omega), n_ixb (by omega), decide_eq_true (show 5627 * k + i < 11254 by omega), decide_eq_true (show i < 5627 by omega), chk_t, chk_t, n_toNat (by omega), n_toNat (by omega), n_p1]; exact e1
    · rw [e2 j, sI_pI, sI_pI, if_neg (show ¬ ((40 : Nat) = 41 ∧ j - 5627 * k = 5627 * k + i) by omega)]
      by_cases c : j = 5627 * k + i
      · subst c; rw [if_neg (by omega), if_pos ⟨rfl, rfl⟩, if_pos (by omega), show 5627 * k + i - 5627 * k = i by omega]
      · by_cases c2 : 5627 * k + (i + 1) ≤ j ∧ j < 5627 * k + 5627
        · rw [if_pos c2, if_pos (by omega)]
        · rw [if_neg c2, if_neg (fun e => c e.2), if_neg (by omega)]
theorem img_ob {st : St} {k t : Nat} (w : WT st) (h : sR st 6 k = some t) : Obj st 4 t := w.2.2.2.2.2.2.1 k t h
theorem ring_ob {st : St} (w : WT st) : Obj st 4 1 := w.ob (a := 1) (n := 0) rfl
theorem st31 : Step31 Inv := by
  rintro a st ⟨A, g, c, m⟩
  unfold fX7_back fX8_back fX7_back_b9
  rcases rng a 0 1 0 1 rfl rfl (by omega) (by omega) with ⟨k, h0, h1, rfl, l1, l2, l3, l4⟩ | ⟨l1, l2⟩
  · have hk : k < 2 := by omega
    have e2 : (nI k < (2 : Int32)) := by rw [show (2 : Int32) = nI 2 from rfl, n_lt (by omega) (by omega)]; exact hk
    simp only [l2, e2, if_false, if_true, l1, n_ixb (show k < 2147483648 by omega), hk, decide_true, chk_t, n_toNat (show k < 2147483648 by omega), show ((1 : Int32) = 0) = False by decide]
    rcases c.2.2.1.1 k hk with ⟨q1, q2⟩ | ⟨y, t, q1, q2, q3, q4, q5, q6⟩
    · simp only [q2, optE]
      refine both_ref' (fc := fun s => fX7_refused (-2) s) (fm := _) R2 g c m rfl (fun s ms => ?_)
      rcases ms.2.2.1 k hk with ⟨p1, p2⟩ | ⟨y, p1, p2, p3⟩
      · rw [p2, if_pos rfl]
      · rw [q1] at p1; cases p1
    · simp only [q2, optE]
      have w := c.1
      have gy : GdR y := g.2.1 k y q1
      obtain ⟨u, b1, b2, b3, b4, b5, b6, b7, b8⟩ := becomes_ok w (ring_ob w) (img_ob w q2) (by omega : 1 ≠ t)
      have hi : Hi st u := ⟨by omega, fun a h1 h2 => ⟨fun j => b7 a j (by omega), b4 a, fun j => b5 a j (by omega)⟩⟩
      have hr6 : ∀ j, sR u 6 j = sR st 6 j := fun j => b5 6 j (by omega)
      have cvo : CVo u (sx A.1) := CVo_eq hi (b5 _ _ (by omega)) (fun j _ => b7 _ j (by omega)) (fun j => b7 _ j (by omega)) (fun j => b7 _ j (by omega)) c.2.2.2.2.2.2.2
      obtain ⟨u2, e1, f1, v1, p1⟩ := ring_changed (A := A) b2 cvo
      have c2 : CV u2 (y, A.2.1, A.2.2.1, A.2.2.2.1, psE, A.2.2.2.2.2) := ⟨WT_low (by rfl) f1 b2, ⟨CRg_fr (by rfl) f1 (b8 y q5), Lws_fr (by rfl) f1 (Lws_mv hi gy.2.2.2.2.2.2.2.1 b6 q6)⟩, CI_fr (by rfl) f1 (CI_eq hi hr6 c.2.2.1), CS_fr (by rfl) f1 (CS_eq (fun j => b7 _ j (by omega)) (fun j => b7 _ j (by omega)) c.2.2.2.1), CT_fr (by rfl) f1 (CT_eq (b7 _ _ (by omega)) (fun j => b7 _ j (by omega)) c.2.2.2.2.1), p1, CD_fr (by rfl) f1 (CD_eq (fun j _ => b7 _ j (by omega)) (fun j => b7 _ j (by omega)) c.2.2.2.2.2.2.1), v1 _⟩
      obtain ⟨u3, e3, c3, f3⟩ := c_settled (r := 0) c2
      have m3 : MV u3 A := MV_c (S := [(0, none), (35, none)]) (by rfl) f3 (MV_c (S := S_rc) (by rfl) f1 (MV_raw (fun a j h1 _ => b7 a j (by omega)) m))
      rcases m3.2.2.1 k hk with ⟨p1, p2⟩ | ⟨y', p1, p2, p3⟩
      · rw [q1] at p1; cases p1
      · rw [q1] at p1
        have hy : y' = y := (Option.some.inj p1).symm
        subst hy
        obtain ⟨v, v1, v2, v3⟩ := back8 hk 5627 FU 0 u3 (by omega) (by unfold FU; omega)
        have mv := MV_ring (S := [(40, none)]) (x := y') (by rfl) v3 m3 (MRg_cp (o := 5627 * k) (o' := 0) gy.2.2.2.2.2.2.2.1 (fun i hi => by rw [v2, if_pos (by omega), Nat.zero_add]) p3)
        obtain ⟨v', w1, w2, w3⟩ := m_settled (r := 0) mv
        have c4 := CV_m (S := [(38, none)]) (by rfl) w3 (CV_m (S := [(40, none)]) (by rfl) v3 c3)
        refine ⟨0, u3, v', by rw [b1, Option.bind_some, e1, Option.bind_some]; exact e3, ?_, (y', A.2.1, va_up A.2.2.1 0 0, A.2.2.2.1, psE, A.2.2.2.2.2), ⟨gy, g.2.1, g.2.2.1, GdP_E, g.2.2.2.2⟩, c4, w2⟩
        rw [p2, if_neg (by decide)]
        exact v1.trans w1
  · have e2 : ∀ z : Option (Int32 × St), (if a < 0 then fX7_refused (-1) st else if a < 2 then z else fX7_refused (-1) st) = fX7_refused (-1) st := by
      intro z
      rcases l2 with l2 | ⟨l2, l3, l4⟩
      · exact if_pos l2
      · rw [if_neg l2, if_neg]
        rw [Int32.lt_iff_toInt_lt] at l4 ⊢
        have h3 : (1 : Int32).toInt = 1 := by decide
        have h4 : (2 : Int32).toInt = 2 := by decide
        omega
    simp only [e2, l1, if_true]
    exact both_ref R1 g c m
