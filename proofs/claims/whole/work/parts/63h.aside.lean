/-! orders: what the model lays aside, takes back -/
theorem aside_loop : ∀ (d m i : Nat) (st : St), i + d = 3 → d < m → ∃ u, fX8_laysAside_b2 m 1 (nI i) st = some u ∧ (∀ j, sI u 43 j = if 3 + i ≤ j ∧ j < 6 then sI st 40 (j - 3) else sI st 43 j) ∧ FR [(43, none)] st u := by
  intro d
  induction d with
  | zero =>
    intro m i st h1 h2
    obtain ⟨m, rfl⟩ : ∃ j, m = j + 1 := ⟨m - 1, by omega⟩
    rw [fX8_laysAside_b2, if_pos (show (3 : Int32) ≤ nI i by rw [show i = 3 by omega]; decide)]
    exact ⟨st, rfl, fun j => by rw [if_neg (by omega)], FR.rf⟩
  | succ d ih =>
    intro m i st h1 h2
    obtain ⟨m, rfl⟩ : ∃ j, m = j + 1 := ⟨m - 1, by omega⟩
    have e3 : ((3 : Int32) ≤ nI i) = (3 ≤ i) := n_le (a := 3) (by omega) (by omega)
    have e1 : (3 : Int32) * 1 + nI i = nI (3 + i) := by rw [show (3 : Int32) * 1 = nI 3 from rfl, n_add]
    rw [fX8_laysAside_b2]
    simp only [e3, e1]
    rw [if_neg (by omega), n_ixb (show i < 2147483648 by omega), decide_eq_true (show i < 5627 by omega), chk_t, n_ixb (show 3 + i < 2147483648 by omega), decide_eq_true (show 3 + i < 6 by omega), chk_t, n_p1, n_toNat (show 3 + i < 2147483648 by omega), n_toNat (show i < 2147483648 by omega)]
    have f1 : FR [(43, none)] st (pI st 43 (3 + i) (sI st 40 i)) := FR.pI (by rfl) FR.rf
    obtain ⟨u, u1, u2, u3⟩ := ih m (i + 1) (pI st 43 (3 + i) (sI st 40 i)) (by omega) (by omega)
    refine ⟨u, u1, fun j => ?_, f1.trans u3⟩
    rw [u2]
    by_cases c : 3 + (i + 1) ≤ j ∧ j < 6
    · rw [if_pos c, if_pos (by omega), sI_pI, if_neg (by omega)]
    · rw [if_neg c, sI_pI]
      by_cases c2 : j = 3 + i
      · rw [if_pos ⟨rfl, c2⟩, if_pos (by omega), show j - 3 = i by omega]
      · rw [if_neg (by omega), if_neg (by omega)]
theorem asideP_loop : ∀ (d m i : Nat) (st : St), i + d = 64 → d < m → ∃ u, fX8_laysAllAside_b7 m (nI i) st = some u ∧ (∀ j, sI u 53 j = if i ≤ j ∧ j < 64 then sI st 52 j else sI st 53 j) ∧ sI u 38 50 = sI st 38 32 ∧ FR [(53, none), (38, some 50)] st u := by
  intro d
  induction d with
  | zero =>
    intro m i st h1 h2
    obtain ⟨m, rfl⟩ : ∃ j, m = j + 1 := ⟨m - 1, by omega⟩
    rw [fX8_laysAllAside_b7, if_pos (show (64 : Int32) ≤ nI i by rw [show i = 64 by omega]; decide)]
    exact ⟨_, rfl, fun j => by rw [if_neg (by omega), sI_pI, if_neg (by omega)], by rw [sI_pI, if_pos ⟨rfl, rfl⟩], FR.pI (by rfl) FR.rf⟩
  | succ d ih =>
    intro m i st h1 h2
    obtain ⟨m, rfl⟩ : ∃ j, m = j + 1 := ⟨m - 1, by omega⟩
    have e3 : ((64 : Int32) ≤ nI i) = (64 ≤ i) := n_le (a := 64) (by omega) (by omega)
    rw [fX8_laysAllAside_b7]
    simp only [e3]
    rw [if_neg (by omega), n_ixb (show i < 2147483648 by omega), decide_eq_true (show i < 64 by omega), chk_t, chk_t, n_p1, n_toNat (show i < 2147483648 by omega)]
    have f1 : FR [(53, none), (38, some 50)] st (pI st 53 i (sI st 52 i)) := FR.pI (by rfl) FR.rf
    obtain ⟨u, u1, u2, u4, u3⟩ := ih m (i + 1) (pI st 53 i (sI st 52 i)) (by omega) (by omega)
    refine ⟨u, u1, fun j => ?_, by rw [u4, sI_pI, if_neg (by omega)], f1.trans u3⟩
    rw [u2]
    by_cases c : i + 1 ≤ j ∧ j < 64
    · rw [if_pos c, if_pos (by omega), sI_pI, if_neg (by omega)]
    · rw [if_neg c, sI_pI]
      by_cases c2 : j = i
      · rw [if_pos ⟨rfl, c2⟩, if_pos (by omega), c2]
      · rw [if_neg (by omega), if_neg (by omega)]
theorem aside8 {st : St} {A : All} (g : Gd A) (m : MV st A) : ∃ u, fX8_laysAllAside st = some u ∧ As8 u A ∧ FR [(43, none), (53, none), (38, some 50)] st u := by
  unfold fX8_laysAllAside fX8_laysAside
  obtain ⟨u, u1, u2, u3⟩ := aside_loop 3 FU 0 st (by omega) (by unfold FU; omega)
  rw [show fX8_laysAside_b2 FU 1 0 st = _ from u1, Option.bind_some]
  obtain ⟨v, v1, v2, v4, v3⟩ := asideP_loop 64 FU 0 u (by omega) (by unfold FU; omega)
  have r : ∀ k, k < 19 → sI st 40 k = nI (A.1.1 k) := fun k hk => by have := m.2.1.1 k hk; rw [Nat.zero_add] at this; exact this
  have w43 : ∀ j, 3 ≤ j → j < 6 → sI v 43 j = nI (A.1.1 (j - 3)) := fun j h1 h2 => by rw [v3.i (hasA_in (by rfl)), u2, if_pos (by omega), r _ (by omega)]
  have w53 : ∀ j, j < 64 → sI v 53 j = sI st 52 j := fun j hj => by rw [v2, if_pos (by omega), u3.i (hasA_in (by rfl))]
  have hp := g.2.2.2.1.1
  obtain ⟨p1, p2⟩ := m.2.2.2.2.2.1
  refine ⟨v, v1, ⟨⟨w43 3 (by omega) (by omega), w43 4 (by omega) (by omega), w43 5 (by omega) (by omega)⟩, ?_, fun j hj => ?_⟩, (FR.mono (by rfl) u3 : FR [(43, none), (53, none), (38, some 50)] st u).trans (FR.mono (by rfl) v3)⟩
  · rw [v4, u3.i (by rfl)]; exact p1
  · rw [w53 _ (by omega), w53 _ (by omega), w53 _ (by omega), w53 _ (by omega)]; exact p2 j hj
theorem back_loop : ∀ (d m i : Nat) (st : St), i + d = 3 → d < m → ∃ u, fX8_takesBack_b2 m 1 (nI i) st = some u ∧ (∀ j, sI u 40 j = if i ≤ j ∧ j < 3 then sI st 43 (3 + j) else sI st 40 j) ∧ FR [(40, none)] st u := by
  intro d
  induction d with
  | zero =>
    intro m i st h1 h2
    obtain ⟨m, rfl⟩ : ∃ j, m = j + 1 := ⟨m - 1, by omega⟩
    rw [fX8_takesBack_b2, if_pos (show (3 : Int32) ≤ nI i by rw [show i = 3 by omega]; decide)]
    exact ⟨st, rfl, fun j => by rw [if_neg (by omega)], FR.rf⟩
  | succ d ih =>
    intro m i st h1 h2
    obtain ⟨m, rfl⟩ : ∃ j, m = j + 1 := ⟨m - 1, by omega⟩
    have e3 : ((3 : Int32) ≤ nI i) = (3 ≤ i) := n_le (a := 3) (by omega) (by omega)
    have e1 : (3 : Int32) * 1 + nI i = nI (3 + i) := by rw [show (3 : Int32) * 1 = nI 3 from rfl, n_add]
    rw [fX8_takesBack_b2]
    simp only [e3, e1]
    rw [if_neg (by omega), n_ixb (show 3 + i < 2147483648 by omega), decide_eq_true (show 3 + i < 6 by omega), chk_t, n_ixb (show i < 2147483648 by omega), decide_eq_true (show i < 5627 by omega), chk_t, n_p1, n_toNat (show 3 + i < 2147483648 by omega), n_toNat (show i < 2147483648 by omega)]
    have f1 : FR [(40, none)] st (pI st 40 i (sI st 43 (3 + i))) := FR.pI (by rfl) FR.rf
    obtain ⟨u, u1, u2, u3⟩ := ih m (i + 1) (pI st 40 i (sI st 43 (3 + i))) (by omega) (by omega)
    refine ⟨u, u1, fun j => ?_, f1.trans u3⟩
    rw [u2]
    by_cases c : i + 1 ≤ j ∧ j < 3
    · rw [if_pos c, if_pos (by omega), sI_pI, if_neg (by omega)]
    · rw [if_neg c, sI_pI]
      by_cases c2 : j = i
      · rw [if_pos ⟨rfl, c2⟩, if_pos (by omega), c2]
      · rw [if_neg (by omega), if_neg (by omega)]
theorem backP_loop : ∀ (d m i : Nat) (st : St), i + d = 64 → d < m → ∃ u, fX8_takesAllBack_b7 m (nI i) st = some u ∧ (∀ j, sI u 52 j = if i ≤ j ∧ j < 64 then sI st 53 j else sI st 52 j) ∧ sI u 38 32 = sI st 38 50 ∧ FR [(38, some 32), (52, none)] st u := by
  intro d
  induction d with
  | zero =>
    intro m i st h1 h2
    obtain ⟨m, rfl⟩ : ∃ j, m = j + 1 := ⟨m - 1, by omega⟩
    rw [fX8_takesAllBack_b7, if_pos (show (64 : Int32) ≤ nI i by rw [show i = 64 by omega]; decide)]
    exact ⟨_, rfl, fun j => by rw [if_neg (by omega), sI_pI, if_neg (by omega)], by rw [sI_pI, if_pos ⟨rfl, rfl⟩], FR.pI (by rfl) FR.rf⟩
  | succ d ih =>
    intro m i st h1 h2
    obtain ⟨m, rfl⟩ : ∃ j, m = j + 1 := ⟨m - 1, by omega⟩
    have e3 : ((64 : Int32) ≤ nI i) = (64 ≤ i) := n_le (a := 64) (by omega) (by omega)
    rw [fX8_takesAllBack_b7]
    simp only [e3]
    rw [if_neg (by omega), n_ixb (show i < 2147483648 by omega), decide_eq_true (show i < 64 by omega), chk_t, chk_t, n_p1, n_toNat (show i < 2147483648 by omega)]
    have f1 : FR [(38, some 32), (52, none)] st (pI st 52 i (sI st 53 i)) := FR.pI (by rfl) FR.rf
    obtain ⟨u, u1, u2, u4, u3⟩ := ih m (i + 1) (pI st 52 i (sI st 53 i)) (by omega) (by omega)
    refine ⟨u, u1, fun j => ?_, by rw [u4, sI_pI, if_neg (by omega)], f1.trans u3⟩
    rw [u2]
    by_cases c : i + 1 ≤ j ∧ j < 64
    · rw [if_pos c, if_pos (by omega), sI_pI, if_neg (by omega)]
    · rw [if_neg c, sI_pI]
      by_cases c2 : j = i
      · rw [if_pos ⟨rfl, c2⟩, if_pos (by omega), c2]
      · rw [if_neg (by omega), if_neg (by omega)]
theorem back8o {u : St} {A0 A : All} (g : Gd A0) (m : MV u A) (sm : Smo A0 A) (as : As8 u A0) : ∃ w, fX8_takesAllBack u = some w ∧ MV w A0 := by
  unfold fX8_takesAllBack fX8_takesBack
  obtain ⟨v, v1, v2, v3⟩ := back_loop 3 FU 0 u (by omega) (by unfold FU; omega)
  rw [show fX8_takesBack_b2 FU 1 0 u = _ from v1, Option.bind_some]
  have s := sm.2.1
  have mr : MRg v 40 0 A0.1 := by
    obtain ⟨m1, m2, m3⟩ := m.2.1
    refine ⟨fun k hk => ?_, ?_, fun i hi => ?_⟩
    · rw [Nat.zero_add, v2]
      by_cases c : 0 ≤ k ∧ k < 3
      · rw [if_pos c]
        have hc : k = 0 ∨ k = 1 ∨ k = 2 := by omega
        rcases hc with rfl | rfl | rfl
        · exact as.1.1
        · exact as.1.2.1
        · exact as.1.2.2
      · rw [if_neg c, ← s k (by omega)]
        have := m1 k hk
        rw [Nat.zero_add] at this; exact this
    · rw [v2, if_neg (by omega), ← s 19 (by omega)]; exact m2
    · rw [← s 18 (by omega)] at hi
      rw [← sm.1]
      obtain ⟨q1, q2, q3⟩ := m3 i hi
      refine ⟨q1, by rw [v2, if_neg (by omega)]; exact q2, fun k hk => ⟨by rw [v2, if_neg (by omega)]; exact (q3 k hk).1, by rw [v2, if_neg (by omega)]; exact (q3 k hk).2⟩⟩
  have mv : MV v (A0.1, A.2) := MV_xr (S := [(40, none)]) (by rfl) v3 m mr
  obtain ⟨w, w1, w2, w4, w3⟩ := backP_loop 64 FU 0 v (by omega) (by unfold FU; omega)
  have hp := g.2.2.2.1.1
  have q : ∀ j, j < 64 → sI w 52 j = sI u 53 j := fun j hj => by rw [w2, if_pos (by omega), v3.i (hasA_in (by rfl))]
  have mp : MP w A0.2.2.2.2.1 := by
    refine ⟨by rw [w4, v3.i (by rfl)]; exact as.2.1, fun j hj => ?_⟩
    rw [q _ (by omega), q _ (by omega), q _ (by omega), q _ (by omega)]; exact as.2.2 j hj
  have mw := MV_P (by rfl) w3 mv mp
  refine ⟨w, w1, ?_⟩
  have ec : sP (A0.1, A.2) A0.2.2.2.2.1 = A0 := by
    unfold sP
    show (A0.1, A.2.1, A.2.2.1, A.2.2.2.1, A0.2.2.2.2.1, A.2.2.2.2.2) = A0
    rw [sm.2.2.1, sm.2.2.2.1, sm.2.2.2.2.1, sm.2.2.2.2.2]
  rw [ec] at mw; exact mw
theorem MV_stop {w : St} {A : All} {v : Int32} (m : MV w A) : MV (pI w 38 46 v) (scA A (va_up A.2.2.1 2 v)) := by
  have h : FR [(38, some 46)] w (pI w 38 46 v) := FR.pI (by rfl) FR.rf
  obtain ⟨m0, m1, m2, m3, m4, m5, m6⟩ := m
  have h38 : ∀ j, j ≠ 46 → sI (pI w 38 46 v) 38 j = sI w 38 j := fun j hj => h.i (by simp [inS, inA]; omega)
  have h39 := fun j => h.i (a := 39) (j := j) (hasA_in (by rfl))
  refine ⟨fun j => (h.i (hasA_in (by rfl))).trans (m0 j), MRg_eq (fun j => h.i (hasA_in (by rfl))) m1, fun k hk => ?_, ?_, ?_, ?_, ?_⟩
  · rcases m2 k hk with ⟨e1, e2⟩ | ⟨y, e1, e2, e3⟩
    · exact Or.inl ⟨e1, (h.i (hasA_in (by rfl))).trans e2⟩
    · exact Or.inr ⟨y, e1, (h.i (hasA_in (by rfl))).trans e2, MRg_eq (fun j => h.i (hasA_in (by rfl))) e3⟩
  · obtain ⟨a0, a1, a2, a3, a4, a5, a6, a7, a8⟩ := m3
    refine ⟨(h38 0 (by omega)).trans a0, (h38 14 (by omega)).trans a1, ?_, (h38 6 (by omega)).trans a3, (h39 1).trans a4, (h39 2).trans a5, (h39 3).trans a6, (h39 5).trans a7, (h39 6).trans a8⟩
    rw [sI_pI, if_pos ⟨rfl, rfl⟩]; simp [scA, va_up]
  · unfold MT at m4 ⊢; rw [h38 13 (by omega)]; simp only [h.i (a := 45) (hasA_in (by rfl)), scA]; exact m4
  · unfold MP at m5 ⊢; rw [h38 32 (by omega)]; simp only [h.i (a := 52) (hasA_in (by rfl)), scA]; exact m5
  · unfold MD at m6 ⊢; rw [h38 55 (by omega), h38 56 (by omega)]; simp only [h.i (a := 64) (hasA_in (by rfl)), scA]; exact m6
theorem CV_stop {w : St} {A : All} {v : Int32} (m : CV w A) : CV (pI w 0 13 v) (scA A (va_up A.2.2.1 2 v)) := by
  have f0 : FR [(0, none), (35, none)] w (pI w 0 13 v) := FR.pI (by rfl) FR.rf
  refine CV_S f0 m ?_
  obtain ⟨s1, s2, s3, s4, s5⟩ := m.2.2.2.1
  refine ⟨by simp [sI_pI, va_up, s1], by simp [sI_pI, va_up, s2], by simp [sI_pI, va_up], by simp [sI_pI, va_up, s4], fun k hk => ?_⟩
  simp [sI_pI, va_up, s5 k hk, show ¬ 4 + k = 2 by omega]
theorem MRg_o {n : Nat} {b : Nat → Int32} {st u : St} {x : Rg} (g : GdR x) (t : TkE (tkT n b)) (m : MRg st 40 0 x) (h : ∀ j, sI u 40 j = if j = 20 + 6 then nI (tkT n b).1 else if 27 + 400 * 6 ≤ j ∧ j < 27 + 400 * 6 + (tkT n b).1 then nI ((tkT n b).2.1 (j - (27 + 400 * 6))) else if 2827 + 400 * 6 ≤ j ∧ j < 2827 + 400 * 6 + (tkT n b).1 then nI ((tkT n b).2.2 (j - (2827 + 400 * 6))) else sI st 40 j) : MRg u 40 0 x ∧ TkO u (tkT n b) ∧ sI u 40 26 = nI (tkT n b).1 := by
  have g18 := g.2.2.2.2.2.2.2.1
  have t4 := t.1
  obtain ⟨m1, m2, m3⟩ := m
  refine ⟨⟨fun k hk => ?_, ?_, fun i hi => ?_⟩, fun k hk => ⟨?_, ?_⟩, ?_⟩
  · rw [h, if_neg (by omega), if_neg (by omega), if_neg (by omega)]; exact m1 k hk
  · rw [h, if_neg (by omega), if_neg (by omega), if_neg (by omega)]; exact m2
  · obtain ⟨q1, q2, q3⟩ := m3 i hi
    have h4 := q1.1
    refine ⟨q1, by rw [h, if_neg (by omega), if_neg (by omega), if_neg (by omega)]; exact q2, fun k hk => ⟨?_, ?_⟩⟩
    · rw [h, if_neg (by omega), if_neg (by omega), if_neg (by omega)]; exact (q3 k hk).1
    · rw [h, if_neg (by omega), if_neg (by omega), if_neg (by omega)]; exact (q3 k hk).2
  · rw [h, if_neg (by omega), if_pos (by omega), show 27 + (2400 + k) - (27 + 400 * 6) = k by omega]
  · rw [h, if_neg (by omega), if_neg (by omega), if_pos (by omega), show 2827 + (2400 + k) - (2827 + 400 * 6) = k by omega]
  · rw [h, if_pos rfl]
