/-! the tape is fed -/
theorem CV_T {S : List (Nat × Option Nat)} {st u : St} {A : All} {tp : Tp} (hS : subS S [(7, none), (8, none)] = true) (h0 : FR S st u) (m : CV st A) (t : CT u tp) : CV u (A.1, A.2.1, A.2.2.1, tp, A.2.2.2.2) := by
  have f1 : FR [(7, none), (8, none)] st u := FR.mono hS h0
  exact ⟨WT_low (by rfl) f1 m.1, ⟨CRg_fr (by rfl) f1 m.2.1.1, Lws_fr (by rfl) f1 m.2.1.2⟩, CI_fr (by rfl) f1 m.2.2.1, CS_fr (by rfl) f1 m.2.2.2.1, t, CP_fr (by rfl) f1 m.2.2.2.2.2.1, CD_fr (by rfl) f1 m.2.2.2.2.2.2.1, CVo_fr (by rfl) (by rfl) f1 m.2.2.2.2.2.2.2⟩
theorem MV_T {S : List (Nat × Option Nat)} {st u : St} {A : All} {tp : Tp} (hS : subS S [(38, some 13), (45, none), (46, none)] = true) (h0 : FR S st u) (m : MV st A) (t : MT u tp) : MV u (A.1, A.2.1, A.2.2.1, tp, A.2.2.2.2) := by
  have h : FR [(38, some 13), (45, none), (46, none)] st u := FR.mono hS h0
  obtain ⟨m0, m1, m2, m3, m4, m5, m6⟩ := m
  have h38 : ∀ j, j ≠ 13 → sI u 38 j = sI st 38 j := fun j hj => h.i (by simp [inS, inA]; omega)
  have h39 := fun j => h.i (a := 39) (j := j) (hasA_in (by rfl))
  have h41 := fun j => h.i (a := 41) (j := j) (hasA_in (by rfl))
  have h42 := fun j => h.i (a := 42) (j := j) (hasA_in (by rfl))
  have h52 := fun j => h.i (a := 52) (j := j) (hasA_in (by rfl))
  have h64 := fun j => h.i (a := 64) (j := j) (hasA_in (by rfl))
  refine ⟨fun j => (h.i (hasA_in (by rfl))).trans (m0 j), MRg_eq (fun j => h.i (hasA_in (by rfl))) m1, fun k hk => ?_, ?_, t, ?_, ?_⟩
  · rcases m2 k hk with ⟨e1, e2⟩ | ⟨y, e1, e2, e3⟩
    · exact Or.inl ⟨e1, (h42 k).trans e2⟩
    · exact Or.inr ⟨y, e1, (h42 k).trans e2, MRg_eq h41 e3⟩
  · unfold MS at m3 ⊢; rw [h38 0 (by omega), h38 14 (by omega), h38 46 (by omega), h38 6 (by omega)]; simp only [h39]; exact m3
  · unfold MP at m5 ⊢; rw [h38 32 (by omega)]; simp only [h52]; exact m5
  · unfold MD at m6 ⊢; rw [h38 55 (by omega), h38 56 (by omega)]; simp only [h64]; exact m6
def bt (p : Int32) (r : Nat) : Int32 := vp_nar .byte (i2b (jshr p (nI (24 - 8 * r))))
theorem app1 {st : St} {p : Int32} {n k r : Nat} {l : Int32} (hr : r < 4) (hl : l = nI (24 - 8 * r)) (h : sI st 7 2 = nI k) (hk : k < 400) : fX3_append_b3 (n + 1) p l st = fX3_append_b3 n p (l + (-8)) (pI (pI st 8 k (bt p r)) 7 2 (nI (k + 1))) := by
  subst hl
  rw [fX3_append_b3]
  simp only [n_neg (show 24 - 8 * r < 2147483648 by omega), if_false, h, show (400 : Int32) = nI 400 from rfl, n_le (show 400 < 2147483648 by omega) (show k < 2147483648 by omega), show ¬ 400 ≤ k by omega, n_ixb (show k < 2147483648 by omega), hk, decide_true, chk_t, n_toNat (show k < 2147483648 by omega), sI_pI, show ¬ ((7 : Nat) = 8) by omega, false_and, n_p1, bt]
theorem app4 {st : St} {p : Int32} {k : Nat} (h : sI st 7 2 = nI k) (hk : k + 4 ≤ 400) : ∃ u, fX3_append p st = some u ∧ sI u 7 2 = nI (k + 4) ∧ (∀ j, sI u 8 j = if k ≤ j ∧ j < k + 4 then bt p (j - k) else sI st 8 j) ∧ FR wX3_append_S st u := by
  have e : fX3_append p st = some (pI (pI (pI (pI (pI (pI (pI (pI st 8 k (bt p 0)) 7 2 (nI (k + 1))) 8 (k + 1) (bt p 1)) 7 2 (nI (k + 2))) 8 (k + 2) (bt p 2)) 7 2 (nI (k + 3))) 8 (k + 3) (bt p 3)) 7 2 (nI (k + 4))) := by
    unfold fX3_append
    rw [show FU = 99995 + 1 + 1 + 1 + 1 + 1 from rfl, app1 (l := 24) (r := 0) (by omega) (by decide) h (by omega), app1 (k := k + 1) (r := 1) (by omega) (by decide) (by rw [sI_pI, if_pos ⟨rfl, rfl⟩]) (by omega), app1 (k := k + 2) (r := 2) (by omega) (by decide) (by rw [sI_pI, if_pos ⟨rfl, rfl⟩]) (by omega), app1 (k := k + 3) (r := 3) (by omega) (by decide) (by rw [sI_pI, if_pos ⟨rfl, rfl⟩]) (by omega), fX3_append_b3, if_pos (by decide)]
  refine ⟨_, e, by rw [sI_pI, if_pos ⟨rfl, rfl⟩], fun j => ?_, mX3_append e⟩
  simp only [sI_pI, show ¬ ((8 : Nat) = 7) by omega, false_and, if_false, true_and]
  by_cases c3 : j = k + 3
  · rw [if_pos c3, if_pos (by omega), show j - k = 3 by omega]
  · by_cases c2 : j = k + 2
    · rw [if_neg c3, if_pos c2, if_pos (by omega), show j - k = 2 by omega]
    · by_cases c1 : j = k + 1
      · rw [if_neg c3, if_neg c2, if_pos c1, if_pos (by omega), show j - k = 1 by omega]
      · by_cases c0 : j = k
        · rw [if_neg c3, if_neg c2, if_neg c1, if_pos c0, if_pos (by omega), show j - k = 0 by omega]
        · rw [if_neg c3, if_neg c2, if_neg c1, if_neg c0, if_neg (by omega)]
def fiv (a b c d e : Int32) (i : Nat) : Int32 := if i = 0 then a else if i = 1 then b else if i = 2 then c else if i = 3 then d else e
theorem feed8 {k : Nat} (hk : k + 20 ≤ 400) : ∀ (d n i : Nat) (st : St), i + d = 20 → d < n → sI st 38 13 = nI k → ∃ u, fX8_feed_b55 n (nI i) st = some (nI (k + 20), u) ∧ sI u 38 13 = nI (k + 20) ∧ (∀ j, sI u 45 j = if k + i ≤ j ∧ j < k + 20 then bt (sI st 46 ((j - k) / 4)) ((j - k) % 4) else sI st 45 j) ∧ FR [(38, some 13), (45, none), (46, none)] st u := by
  intro d
  induction d with
  | zero =>
    intro n i st h1 h2 h3
    obtain ⟨n, rfl⟩ : ∃ m, n = m + 1 := ⟨n - 1, by omega⟩
    obtain rfl : i = 20 := by omega
    rw [fX8_feed_b55, if_pos (by decide)]
    have e : nI k + 20 = nI (k + 20) := n_add k 20
    simp only [sI_pI, and_self, if_true, h3, e]
    refine ⟨_, rfl, by rw [sI_pI, if_pos ⟨rfl, rfl⟩], fun j => by rw [sI_pI, if_neg (by omega), if_neg (by omega)], FR.pI (by rfl) FR.rf⟩
  | succ d ih =>
    intro n i st h1 h2 h3
    obtain ⟨n, rfl⟩ : ∃ m, n = m + 1 := ⟨n - 1, by omega⟩
    rw [fX8_feed_b55, if_neg (by rw [show (20 : Int32) = nI 20 from rfl, n_le (by omega) (by omega)]; omega)]
    have e4 : nI i / 4 = nI (i / 4) := n_div (a := i) (b := 4) (by omega) (by omega)
    have er : jrem (nI i) 4 = nI (i % 4) := n_rem (a := i) (b := 4) (by omega) (by omega)
    have em : (8 : Int32) * nI (i % 4) = nI (8 * (i % 4)) := n_mul 8 _
    have es : (24 : Int32) - nI (8 * (i % 4)) = nI (24 - 8 * (i % 4)) := n_sub (a := 24) (b := 8 * (i % 4)) (by omega)
    have f1 : FR [(38, some 13), (45, none), (46, none)] st (pI st 45 (k + i) (bt (sI st 46 (i / 4)) (i % 4))) := FR.pI (by rfl) FR.rf
    obtain ⟨u, q1, q2, q3, q4⟩ := ih n (i + 1) (pI st 45 (k + i) (bt (sI st 46 (i / 4)) (i % 4))) (by omega) (by omega) (by rw [sI_pI, if_neg (by omega)]; exact h3)
    refine ⟨u, ?_, q2, fun j => ?_, f1.trans q4⟩
    · simp only [e4, er, em, es, h3, n_add, n_p1, n_ixb (show i / 4 < 2147483648 by omega), n_ixb (show k + i < 2147483648 by omega), show i / 4 < 5 by omega, show k + i < 400 by omega, decide_true, chk_t, n_toNat (show i / 4 < 2147483648 by omega), n_toNat (show k + i < 2147483648 by omega)]
      exact q1
    · rw [q3 j]
      simp only [sI_pI, show ¬ ((46 : Nat) = 45) by omega, false_and, if_false, true_and]
      by_cases c : j = k + i
      · rw [if_neg (by omega), if_pos c, if_pos (by omega), show j - k = i by omega]
      · by_cases c2 : k + (i + 1) ≤ j ∧ j < k + 20
        · rw [if_pos c2, if_pos (by omega)]
        · rw [if_neg c2, if_neg c, if_neg (by omega)]
theorem st6 : Step6 Inv := by
  rintro a b c0 d e st ⟨A, g, c, m⟩
  have gT := g.2.2.1
  have ct := c.2.2.2.2.1
  have hT := gT.1
  have hh : fX3_hasRoomFor st 20 = if A.2.2.2.1.1 + 20 ≤ 400 then 1 else 0 := by
    unfold fX3_hasRoomFor
    rw [ct.1, show nI A.2.2.2.1.1 + 20 = nI (A.2.2.2.1.1 + 20) from n_add _ 20, show (400 : Int32) = nI 400 from rfl]
    simp only [n_lt (show 400 < 2147483648 by omega) (show A.2.2.2.1.1 + 20 < 2147483648 by omega)]
    by_cases c : A.2.2.2.1.1 + 20 ≤ 400
    · rw [if_pos c, if_neg (by omega)]
    · rw [if_neg c, if_pos (by omega)]
  unfold fX7_feed fX8_feed
  rw [hh]
  by_cases hk : A.2.2.2.1.1 + 20 ≤ 400
  · rw [if_pos hk]
    simp only [show ((1 : Int32) = 0) = False by decide, if_false]
    obtain ⟨u1, a1, a2, a3, a4⟩ := app4 (p := a) ct.1 (by omega)
    obtain ⟨u2, b1, b2, b3, b4⟩ := app4 (p := b) a2 (by omega)
    obtain ⟨u3, c1, c2, c3, c4⟩ := app4 (p := c0) b2 (by omega)
    obtain ⟨u4, d1, d2, d3, d4⟩ := app4 (p := d) c2 (by omega)
    obtain ⟨u5, e1, e2, e3, e4⟩ := app4 (p := e) d2 (by omega)
    simp only [a1, b1, c1, d1, e1, Option.bind_some]
    have fu : FR wX3_append_S st u5 := (((a4.trans b4).trans c4).trans d4).trans e4
    have tp : ∃ tp : Tp, tp = (A.2.2.2.1.1 + 20, fun j => if j < A.2.2.2.1.1 then A.2.2.2.1.2 j else bt (fiv a b c0 d e ((j - A.2.2.2.1.1) / 4)) ((j - A.2.2.2.1.1) % 4)) := ⟨_, rfl⟩
    obtain ⟨tp, htp⟩ := tp
    have t1 : tp.1 = A.2.2.2.1.1 + 20 := by rw [htp]
    have t2 : ∀ j, tp.2 j = if j < A.2.2.2.1.1 then A.2.2.2.1.2 j else bt (fiv a b c0 d e ((j - A.2.2.2.1.1) / 4)) ((j - A.2.2.2.1.1) % 4) := by intro j; rw [htp]
    have gT' : GdT tp := by
      refine ⟨by omega, fun j hj => ?_⟩
      rw [t2]
      by_cases cj : j < A.2.2.2.1.1
      · rw [if_pos cj]; exact gT.2 j cj
      · rw [if_neg cj]; exact ⟨_, rfl⟩
    have cT : CT u5 tp := by
      refine ⟨by rw [e2, t1], fun j hj => ?_⟩
      rw [t2, e3, d3, c3, b3, a3]
      generalize hN : A.2.2.2.1.1 = N at *
      by_cases cj : j < N
      · rw [if_neg (by omega), if_neg (by omega), if_neg (by omega), if_neg (by omega), if_neg (by omega), if_pos cj]; exact ct.2 j (by omega)
      · rw [if_neg cj]
        by_cases x5 : N + 16 ≤ j
        · rw [if_pos (by omega), show (j - N) / 4 = 4 by omega, show (j - N) % 4 = j - (N + 4 + 4 + 4 + 4) by omega]; rfl
        · by_cases x4 : N + 12 ≤ j
          · rw [if_neg (by omega), if_pos (by omega), show (j - N) / 4 = 3 by omega, show (j - N) % 4 = j - (N + 4 + 4 + 4) by omega]; rfl
          · by_cases x3 : N + 8 ≤ j
            · rw [if_neg (by omega), if_neg (by omega), if_pos (by omega), show (j - N) / 4 = 2 by omega, show (j - N) % 4 = j - (N + 4 + 4) by omega]; rfl
            · by_cases x2 : N + 4 ≤ j
              · rw [if_neg (by omega), if_neg (by omega), if_neg (by omega), if_pos (by omega), show (j - N) / 4 = 1 by omega, show (j - N) % 4 = j - (N + 4) by omega]; rfl
              · rw [if_neg (by omega), if_neg (by omega), if_neg (by omega), if_neg (by omega), if_pos (by omega), show (j - N) / 4 = 0 by omega, show (j - N) % 4 = j - N by omega]; rfl
    have cu := CV_T (S := wX3_append_S) (by rfl) fu c cT
    have mu : MV u5 A := MV_c (S := wX3_append_S) (by rfl) fu m
    have mt := mu.2.2.2.2.1
    have f0 : FR [(38, some 13), (45, none), (46, none)] u5 (pI (pI (pI (pI (pI u5 46 0 a) 46 1 b) 46 2 c0) 46 3 d) 46 4 e) := FR.pI (by rfl) (FR.pI (by rfl) (FR.pI (by rfl) (FR.pI (by rfl) (FR.pI (by rfl) FR.rf))))
    obtain ⟨v, v1, v2, v3, v4⟩ := feed8 hk 20 FU 0 (pI (pI (pI (pI (pI u5 46 0 a) 46 1 b) 46 2 c0) 46 3 d) 46 4 e) (by omega) (by unfold FU; omega) (by simp only [sI_pI, show ¬ ((38 : Nat) = 46) by omega, false_and, if_false]; exact mt.1)
    have mT : MT v tp := by
      refine ⟨by rw [v2, t1], fun j hj => ?_⟩
      rw [v3, t2]
      by_cases cj : j < A.2.2.2.1.1
      · rw [if_pos cj, if_neg (by omega)]
        simp only [sI_pI, show ¬ ((45 : Nat) = 46) by omega, false_and, if_false]; exact mt.2 j cj
      · rw [if_neg cj, if_pos (by omega)]
        congr 1
        simp only [sI_pI, true_and]
        unfold fiv
        have hq : (j - A.2.2.2.1.1) / 4 < 5 := by omega
        generalize (j - A.2.2.2.1.1) / 4 = i at hq
        have : i = 0 ∨ i = 1 ∨ i = 2 ∨ i = 3 ∨ i = 4 := by omega
        rcases this with rfl | rfl | rfl | rfl | rfl <;> rfl
    have mv := MV_T (S := [(38, some 13), (45, none), (46, none)]) (by rfl) (f0.trans v4) mu mT
    refine ⟨nI (A.2.2.2.1.1 + 20), u5, v, by rw [e2], ?_, (A.1, A.2.1, A.2.2.1, tp, A.2.2.2.2), ⟨g.1, g.2.1, gT', g.2.2.2⟩, CV_m (S := [(38, some 13), (45, none), (46, none)]) (by rfl) (f0.trans v4) cu, mv⟩
    rw [mt.1, show nI A.2.2.2.1.1 + 20 = nI (A.2.2.2.1.1 + 20) from n_add _ 20, if_pos (by rw [show (400 : Int32) = nI 400 from rfl, n_le (by omega) (by omega)]; exact hk)]
    exact v1
  · rw [if_neg hk]
    refine ⟨-1, st, st, rfl, ?_, A, g, c, m⟩
    rw [m.2.2.2.2.1.1, show nI A.2.2.2.1.1 + 20 = nI (A.2.2.2.1.1 + 20) from n_add _ 20, if_neg (by rw [show (400 : Int32) = nI 400 from rfl, n_le (by omega) (by omega)]; exact hk)]
