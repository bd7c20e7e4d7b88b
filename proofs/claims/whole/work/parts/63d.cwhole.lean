/-! orders: the class, wholly or not -/
theorem bec2 {st : St} {t o : Nat} {ps : Ps} (h : t = 17 ∧ o = 15 ∨ t = 15 ∧ o = 17) (hp : ps.1 ≤ 16) (c : CP st o ps) : ∃ u, fX2_becomes t o st = some u ∧ CP u t ps ∧ FR (if t = 17 then [(17, none), (18, none)] else [(15, none), (16, none)]) st u := by
  unfold fX2_becomes
  refine ⟨_, rfl, ⟨?_, fun j hj => ?_⟩, ?_⟩
  · rw [sI_pI, if_pos ⟨rfl, rfl⟩, sI_rI, if_neg (by omega)]; exact c.1
  · rw [sI_pI, if_neg (by omega), sI_rI, if_pos rfl]
    unfold va_cpy
    rw [if_pos ⟨Nat.zero_le _, show j < 0 + 16 by omega⟩]
    show sI st (o + 1) (0 + (j - 0)) = _
    rw [Nat.zero_add, Nat.sub_zero]; exact c.2 j hj
  · rcases h with ⟨rfl, rfl⟩ | ⟨rfl, rfl⟩
    · rw [if_pos rfl]; exact FR.pI (by rfl) (FR.rI (by intro j; rfl) FR.rf)
    · rw [if_neg (by omega)]; exact FR.pI (by rfl) (FR.rI (by intro j; rfl) FR.rf)
theorem CP_17 {S : List (Nat × Option Nat)} {st u : St} {ps : Ps} (e : (hasA S 17 || hasA S 18) = false) (h : FR S st u) (m : CP st 17 ps) : CP u 17 ps := by
  simp only [Bool.or_eq_false_iff] at e
  exact ⟨(h.i (hasA_in e.1)).trans m.1, fun j hj => (h.i (hasA_in e.2)).trans (m.2 j hj)⟩
theorem smo_sx {A0 A : All} (h : Smo A0 A) : sx A0.1 = sx A.1 := by
  funext i
  unfold sx
  by_cases c : 3 ≤ i ∧ i < 14 ∨ i = 16
  · rw [if_pos c, if_pos c, h.2.1 i (by omega)]
  · rw [if_neg c, if_neg c]
abbrev S_of : List (Nat × Option Nat) := [(0, none), (1, none), (5, none), (15, none), (16, none)]
theorem fail7 {A0 A : All} {u : St} {j : Nat} (g : Gd A0) (cv : CV u A) (sm : Smo A0 A) (cp : CP u 17 A0.2.2.2.2.1) : ∃ w, failC (nI (A0.1.1 0)) (nI (A0.1.1 1)) (nI (A0.1.1 2)) (nI j) u = some (-3, w) ∧ CV w (scA A0 (va_up A0.2.2.1 2 (nI j))) ∧ FR S_of u w := by
  have h64 := b_lt64 g.1
  have g1 := g.1.2.2.2.2.1
  unfold failC fX4_settle
  have em : nI (A0.1.1 0) * (6 : Int32) + nI (A0.1.1 1) = nI (A0.1.1 0 * 6 + A0.1.1 1) := by
    rw [show (6 : Int32) = nI 6 from rfl, n_mul, n_add]
  have ed : nI (A0.1.1 0 * 6 + A0.1.1 1) / (6 : Int32) = nI (A0.1.1 0) := by
    rw [show (6 : Int32) = nI 6 from rfl, n_div (by omega) (by omega), show (A0.1.1 0 * 6 + A0.1.1 1) / 6 = A0.1.1 0 by omega]
  have er : jrem (nI (A0.1.1 0 * 6 + A0.1.1 1)) (6 : Int32) = nI (A0.1.1 1) := by
    rw [show (6 : Int32) = nI 6 from rfl, n_rem (by omega) (by omega), show (A0.1.1 0 * 6 + A0.1.1 1) % 6 = A0.1.1 1 by omega]
  rw [em, ed, er, Option.bind_some]
  have f1 : FR [(1, none), (5, none)] u (pI (pI (pI u 1 5 (nI (A0.1.1 0))) 5 1 (nI (A0.1.1 1))) 5 0 (nI (A0.1.1 2))) := FR.pI (by rfl) (FR.pI (by rfl) (FR.pI (by rfl) FR.rf))
  have hI : ∀ a k, ¬ (a = 1 ∧ k = 5) → ¬ (a = 5 ∧ k = 1) → ¬ (a = 5 ∧ k = 0) → sI (pI (pI (pI u 1 5 (nI (A0.1.1 0))) 5 1 (nI (A0.1.1 1))) 5 0 (nI (A0.1.1 2))) a k = sI u a k := fun a k h1 h2 h3 => by rw [sI_pI, if_neg h3, sI_pI, if_neg h2, sI_pI, if_neg h1]
  have k1 : sI (pI (pI (pI u 1 5 (nI (A0.1.1 0))) 5 1 (nI (A0.1.1 1))) 5 0 (nI (A0.1.1 2))) 1 5 = nI (A0.1.1 0) := by rw [sI_pI, if_neg (by omega), sI_pI, if_neg (by omega), sI_pI, if_pos ⟨rfl, rfl⟩]
  have k2 : sI (pI (pI (pI u 1 5 (nI (A0.1.1 0))) 5 1 (nI (A0.1.1 1))) 5 0 (nI (A0.1.1 2))) 5 1 = nI (A0.1.1 1) := by rw [sI_pI, if_neg (by omega), sI_pI, if_pos ⟨rfl, rfl⟩]
  have k3 : sI (pI (pI (pI u 1 5 (nI (A0.1.1 0))) 5 1 (nI (A0.1.1 1))) 5 0 (nI (A0.1.1 2))) 5 0 = nI (A0.1.1 2) := by rw [sI_pI, if_pos ⟨rfl, rfl⟩]
  generalize pI (pI (pI u 1 5 (nI (A0.1.1 0))) 5 1 (nI (A0.1.1 1))) 5 0 (nI (A0.1.1 2)) = v at *
  obtain ⟨w, w1, w2, w3⟩ := bec2 (st := v) (t := 15) (o := 17) (Or.inr ⟨rfl, rfl⟩) g.2.2.2.1.1 (CP_17 (by rfl) f1 cp)
  rw [if_neg (by omega)] at w3
  rw [w1, Option.bind_some]
  have fw : FR [(1, none), (2, none), (3, none), (5, none), (15, none), (16, none)] u w := (FR.mono (by rfl) f1 : FR [(1, none), (2, none), (3, none), (5, none), (15, none), (16, none)] u v).trans (FR.mono (by rfl) w3)
  have cr : CRg w 1 A0.1 := by
    obtain ⟨⟨r1, r2, r3, r4, r5⟩, ⟨b1, b2, b3, b4⟩, d1, d2⟩ := cv.2.1.1
    have s := sm.2.1
    have wI : ∀ a k, a < 15 → sI w a k = sI v a k := fun a k ha => w3.i (by simp [inS, inA]; omega)
    have o := fun a k (h0 : a < 15) (h1 : ¬ (a = 1 ∧ k = 5)) (h2 : ¬ (a = 5 ∧ k = 1)) (h3 : ¬ (a = 5 ∧ k = 0)) => (wI a k h0).trans (hI a k h1 h2 h3)
    refine ⟨⟨?_, (wI _ _ (by omega)).trans k1, ?_, ?_, ?_⟩, ⟨(wI _ _ (by omega)).trans k3, (wI _ _ (by omega)).trans k2, ?_, ?_⟩, fun k hk => ?_, fun k hk => ?_⟩
    · rw [o 1 4 (by omega) (by omega) (by omega) (by omega), r1, s 16 (by omega)]
    · rw [o 1 6 (by omega) (by omega) (by omega) (by omega), r3, s 17 (by omega)]
    · rw [o 1 7 (by omega) (by omega) (by omega) (by omega), r4, s 18 (by omega)]
    · rw [o 1 8 (by omega) (by omega) (by omega) (by omega), r5, s 19 (by omega)]
    · rw [o (1 + 4) 2 (by omega) (by omega) (by omega) (by omega), b3, s 14 (by omega)]
    · rw [o (1 + 4) 3 (by omega) (by omega) (by omega) (by omega), b4, s 15 (by omega)]
    · rw [o (1 + 1) k (by omega) (by omega) (by omega) (by omega), d1 k hk, s _ (by omega)]
    · rw [o (1 + 2) k (by omega) (by omega) (by omega) (by omega), d2 k hk, s _ (by omega)]
  have c1 := CV_keep (x := A0.1) (ps := A0.2.2.2.2.1) (by rfl) fw cv cr (sm.2.1 18 (by omega)).symm sm.1.symm (smo_sx sm) w2
  have ec : (A0.1, A.2.1, A.2.2.1, A.2.2.2.1, A0.2.2.2.2.1, A.2.2.2.2.2) = A0 := by rw [sm.2.2.1, sm.2.2.2.1, sm.2.2.2.2.1, sm.2.2.2.2.2]
  rw [ec] at c1
  have f0 : FR [(0, none), (35, none)] w (pI w 0 13 (nI j)) := FR.pI (by rfl) FR.rf
  refine ⟨pI w 0 13 (nI j), rfl, CV_S f0 c1 ?_, (FR.mono (by rfl) f1 : FR S_of u v).trans ((FR.mono (by rfl) w3 : FR S_of v w).trans (FR.pI (by rfl) FR.rf))⟩
  obtain ⟨s1, s2, s3, s4, s5⟩ := c1.2.2.2.1
  refine ⟨by simp [sI_pI, va_up, s1], by simp [sI_pI, va_up, s2], by simp [sI_pI, va_up], by simp [sI_pI, va_up, s4], fun k hk => ?_⟩
  simp [sI_pI, va_up, s5 k hk, show ¬ 4 + k = 2 by omega]
abbrev S_ow : List (Nat × Option Nat) := [(0, none), (1, none), (5, none), (15, none), (16, none), (17, none), (18, none), (19, none), (20, none), (21, none), (22, none), (23, none), (24, none), (36, none), (37, none)]
theorem whole7 {st : St} {A : All} {L : List Cls} (g : Gd A) (cv : CV st A) (im : Impl 17 (scr st 9) L) : match allA L 0 (A, 0, -1) with | .inl j => j < 12 ∧ ∃ u, fX7_runWhollyOrNot st = some (-3, u) ∧ CV u (scA A (va_up A.2.2.1 2 (nI j))) ∧ FR S_ow st u | .inr s' => ∃ u, fX7_runWhollyOrNot st = some (nI s'.2.1, u) ∧ CV u s'.1 ∧ OkS A s' 240 ∧ FR S_ow st u := by
  obtain ⟨w, w1, w2, w3⟩ := bec2 (st := st) (t := 17) (o := 15) (Or.inl ⟨rfl, rfl⟩) g.2.2.2.1.1 cv.2.2.2.2.2.1
  rw [if_pos rfl] at w3
  have cw := CV_lo (by rfl) w3 cv
  have imw : Impl 17 (scr w 9) L := by rw [scr9_fr (by rfl) w3]; exact im
  have fw : FR S_ow st w := FR.mono (by rfl) w3
  have e0 : fX7_runWhollyOrNot st = fX7_runWhollyOrNot_b49 FU (nI (A.1.1 0)) (nI (A.1.1 1)) (nI (A.1.1 2)) (nI 0) (-1) (nI 0) w := by
    unfold fX7_runWhollyOrNot
    rw [w1, Option.bind_some, cv.2.1.1.1.2.1, show sI st 5 1 = _ from cv.2.1.1.2.1.2.1, show sI st 5 0 = _ from cv.2.1.1.2.1.1]
    rfl
  have k := all7 (A0 := A) (L := L) (l2 := nI (A.1.1 0)) (l3 := nI (A.1.1 1)) (l4 := nI (A.1.1 2)) L 0 FU (A, 0, -1) w rfl (by omega) (by have := im.1; unfold FU; omega) ⟨g, Smo.rf, Nat.le_refl _, m1_min⟩ cw imw
  cases hx : allA L 0 (A, 0, -1) with
  | inl j =>
    rw [hx] at k
    obtain ⟨u, s2, u1, u2, u3, u4, u5, u6⟩ := k
    obtain ⟨v, v1, v2, v3⟩ := fail7 (j := j) g u2 u4 (CP_17 (by rfl) u6 w2)
    exact ⟨u5, v, e0.trans (u1.trans v1), v2, (fw.trans (FR.mono (by rfl) u6)).trans (FR.mono (by rfl) v3)⟩
  | inr s' =>
    rw [hx] at k
    obtain ⟨u, u1, u2, u3, u4⟩ := k
    exact ⟨u, e0.trans u1, u2, u3, fw.trans (FR.mono (by rfl) u4)⟩
