/-! more steps -/
theorem both_ref' {st : St} {A : All} {k : Int32} {p : Nat} {fc fm : St → Option (Int32 × St)} (hk : Ref k p) (g : Gd A) (c : CV st A) (m : MV st A) (h1 : fc st = fX7_refused k st) (h2 : ∀ s, MV s A → fm s = fX8_refuses k s) : ∃ r st1 st2, fc st = some (r, st1) ∧ fm st1 = some (r, st2) ∧ Inv st2 := by
  obtain ⟨u, e1, c1, f1⟩ := c_refused hk c
  have m1 := MV_c (S := [(0, none), (35, none)]) (by rfl) f1 m
  obtain ⟨v, e2, m2, f2⟩ := m_refuses hk m1
  exact ⟨k, u, v, h1.trans e1, (h2 u m1).trans e2, _, Gd_sc g, CV_m (S := [(38, none), (39, none)]) (by rfl) f2 c1, m2⟩
abbrev R1 : Ref (-1) 0 := Or.inl ⟨rfl, rfl⟩
abbrev R2 : Ref (-2) 1 := Or.inr (Or.inl ⟨rfl, rfl⟩)
abbrev R3 : Ref (-3) 2 := Or.inr (Or.inr (Or.inl ⟨rfl, rfl⟩))
abbrev R5 : Ref (-5) 3 := Or.inr (Or.inr (Or.inr (Or.inl ⟨rfl, rfl⟩)))
abbrev R6 : Ref (-6) 4 := Or.inr (Or.inr (Or.inr (Or.inr ⟨rfl, rfl⟩)))
theorem or_rng {α : Type} {a l h : Int32} {x z : α} (l2 : a < l ∨ ¬ a < l ∧ ¬ a ≤ h ∧ h < a) : (if a < l then x else if a ≤ h then z else x) = x := by
  rcases l2 with l2 | ⟨l2, l3, l4⟩
  · exact if_pos l2
  · rw [if_neg l2, if_neg l3]
def rhy (x : Rg) (q : Nat) : Rg := upR (upR x (9 + x.1 17) q) 17 (x.1 17 + 1)
theorem rhy_1 {x : Rg} {q i : Nat} : (rhy x q).1 i = if i = 17 then x.1 17 + 1 else if i = 9 + x.1 17 then q else x.1 i := rfl
theorem Gd_rhy {x : Rg} {q : Nat} (g : GdR x) (h : x.1 17 < 5) (h1 : 1 ≤ q) (hq : q ≤ 15) : GdR (rhy x q) := by
  obtain ⟨g1, g2, g3, g4, g5, g6, g7, g8, g9, g10, g11, g12⟩ := g
  refine ⟨?_, ?_, ?_, ?_, ?_, ?_, ?_, ?_, ?_, fun j hj => ?_, fun j hj => ?_, fun j hj => ?_⟩
  · rw [rhy_1, if_neg (by omega), if_neg (by omega)]; exact g1
  · rw [rhy_1, if_neg (by omega), if_neg (by omega), rhy_1, if_neg (by omega), if_neg (by omega)]; exact g2
  · rw [rhy_1, if_pos rfl]; omega
  · rw [rhy_1, if_neg (by omega), if_neg (by omega)]; exact g4
  · rw [rhy_1, if_neg (by omega), if_neg (by omega)]; exact g5
  · rw [rhy_1, if_neg (by omega), if_neg (by omega)]; exact g6
  · rw [rhy_1, if_neg (by omega), if_neg (by omega)]; exact g7
  · rw [rhy_1, if_neg (by omega), if_neg (by omega)]; exact g8
  · rw [rhy_1, if_neg (by omega), if_neg (by omega), rhy_1, if_neg (by omega), if_neg (by omega)]; exact g9
  · rw [rhy_1, if_neg (by omega), if_neg (by omega)]; exact g10 j hj
  · rw [rhy_1, if_neg (by omega)]
    split
    · exact hq
    · exact g11 j hj
  · rw [rhy_1, if_pos rfl] at hj
    rw [rhy_1, if_neg (by omega)]
    split
    · exact h1
    · exact g12 j (by omega)
theorem st2 : Step2 Inv := by
  rintro a st ⟨A, g, c, m⟩
  have gR := g.1
  have hn := gR.2.2.1
  unfold fX7_rhyme fX8_rhyme fX7_rhyme_b11
  rcases rng a 1 15 1 15 rfl rfl (by omega) (by omega) with ⟨q, h0, h9, rfl, l1, l2, l3, l4⟩ | ⟨l1, l2⟩
  · rw [if_neg l2, if_pos l3]
    simp only [l1, show ((1 : Int32) = 0) = False by decide, if_false, c.2.1.1.1.2.2.1, show (5 : Int32) = nI 5 from rfl, n_lt (show A.1.1 17 < 2147483648 by omega) (show 5 < 2147483648 by omega)]
    by_cases h6 : A.1.1 17 < 5
    · simp only [h6, if_true, n_ixb (show A.1.1 17 < 2147483648 by omega), decide_true, chk_t, n_toNat (show A.1.1 17 < 2147483648 by omega), sI_pI, show ¬ ((1 : Nat) = 3) by omega, false_and, if_false, c.2.1.1.1.2.2.1, n_p1]
      refine both_settle (S := [(1, none), (3, none)]) g (Gd_rhy (q := q) gR h6 h0 h9) (by rfl) (FR.pI (by rfl) (FR.pI (by rfl) FR.rf)) c m (CRg_17 (CRg_b h6 c.2.1.1)) (by rw [rhy_1, if_neg (by omega), if_neg (by omega)]) rfl (fun q => sI q 1 6 - 1) (r := nI (A.1.1 17)) (fun u2 k => by show sI u2 1 6 - 1 = _; rw [k.1.2.2.1, rhy_1, if_pos rfl]; exact n_pred) (fm := _) (fun s ms => ?_)
      have e3 : (9 : Int32) + nI (A.1.1 17) = nI (9 + A.1.1 17) := n_add 9 _
      refine ⟨pI (pI s 40 (9 + A.1.1 17) (nI q)) 40 17 (nI (A.1.1 17 + 1)), ?_, FR.pI (by rfl) (FR.pI (by rfl) FR.rf), MRg_up (by omega) (MRg_up (by omega) ms.2.1)⟩
      simp only [ms.2.1.k (show 17 < 19 by omega), n_eq (show A.1.1 17 < 2147483648 by omega) (show 5 < 2147483648 by omega), show ¬ A.1.1 17 = 5 by omega, if_false, e3, n_ixb (show 9 + A.1.1 17 < 2147483648 by omega), show 9 + A.1.1 17 < 5627 by omega, decide_true, chk_t, n_toNat (show 9 + A.1.1 17 < 2147483648 by omega), show ¬ (17 = 9 + A.1.1 17) by omega, and_false, n_p1]
    · simp only [h6, if_false]
      refine both_ref' (fc := fun st => fX7_refused (-5) st) (fm := _) R5 g c m rfl (fun s ms => ?_)
      rw [if_pos (by rw [ms.2.1.k (by omega), n_eq (by omega) (by omega)]; omega)]
      rfl
  · simp only [l1, if_true, or_rng l2]
    exact both_ref R1 g c m
def trm (w : Nat) : Nat := if w = 0 then 2 else if w = 1 then 1 else if w = 2 then 14 else 15
def trH (w : Nat) : Nat := if w = 0 then 999 else if w = 1 then 5 else if w = 2 then 10 else 9
theorem Gd_trm {x : Rg} {w v : Nat} (hw : w < 4) (g : GdR x) (h : v ≤ trH w) : GdR (upR x (trm w) v) := by
  obtain ⟨g1, g2, g3, g4, g5, g6, g7, g8, g9, g10, g11, g12⟩ := g
  have : w = 0 ∨ w = 1 ∨ w = 2 ∨ w = 3 := by omega
  rcases this with rfl | rfl | rfl | rfl <;> simp only [trm, trH, if_true, if_false, show ¬ ((1 : Nat) = 0) by omega, show ¬ ((2 : Nat) = 0) by omega, show ¬ ((2 : Nat) = 1) by omega, show ¬ ((3 : Nat) = 0) by omega, show ¬ ((3 : Nat) = 1) by omega, show ¬ ((3 : Nat) = 2) by omega] at h ⊢
  · refine ⟨by simpa [upR_1] using g1, by simpa [upR_1] using g2, by simpa [upR_1] using g3, by simpa [upR_1] using h, by simpa [upR_1] using g5, by simpa [upR_1] using g6, by simpa [upR_1] using g7, by simpa [upR_1] using g8, by simpa [upR_1] using g9, fun j hj => ?_, fun j hj => ?_, fun j hj => ?_⟩
    · rw [upR_1, if_neg (by omega)]; exact g10 j hj
    · rw [upR_1, if_neg (by omega)]; exact g11 j hj
    · rw [upR_1, if_neg (by omega)] at hj; rw [upR_1, if_neg (by omega)]; exact g12 j hj
  · refine ⟨by simpa [upR_1] using g1, by simpa [upR_1] using g2, by simpa [upR_1] using g3, by simpa [upR_1] using g4, by simpa [upR_1] using h, by simpa [upR_1] using g6, by simpa [upR_1] using g7, by simpa [upR_1] using g8, by simpa [upR_1] using g9, fun j hj => ?_, fun j hj => ?_, fun j hj => ?_⟩
    · rw [upR_1, if_neg (by omega)]; exact g10 j hj
    · rw [upR_1, if_neg (by omega)]; exact g11 j hj
    · rw [upR_1, if_neg (by omega)] at hj; rw [upR_1, if_neg (by omega)]; exact g12 j hj
  · refine ⟨by simpa [upR_1] using g1, by simpa [upR_1] using g2, by simpa [upR_1] using g3, by simpa [upR_1] using g4, by simpa [upR_1] using g5, by simpa [upR_1] using h, by simpa [upR_1] using g7, by simpa [upR_1] using g8, by simpa [upR_1] using g9, fun j hj => ?_, fun j hj => ?_, fun j hj => ?_⟩
    · rw [upR_1, if_neg (by omega)]; exact g10 j hj
    · rw [upR_1, if_neg (by omega)]; exact g11 j hj
    · rw [upR_1, if_neg (by omega)] at hj; rw [upR_1, if_neg (by omega)]; exact g12 j hj
  · refine ⟨by simpa [upR_1] using g1, by simpa [upR_1] using g2, by simpa [upR_1] using g3, by simpa [upR_1] using g4, by simpa [upR_1] using g5, by simpa [upR_1] using g6, by simpa [upR_1] using h, by simpa [upR_1] using g8, by simpa [upR_1] using g9, fun j hj => ?_, fun j hj => ?_, fun j hj => ?_⟩
    · rw [upR_1, if_neg (by omega)]; exact g10 j hj
    · rw [upR_1, if_neg (by omega)]; exact g11 j hj
    · rw [upR_1, if_neg (by omega)] at hj; rw [upR_1, if_neg (by omega)]; exact g12 j hj
theorem CRg_trm {st : St} {x : Rg} {w v : Nat} (hw : w < 4) (m : CRg st 1 x) : CRg (pI st 5 w (nI v)) 1 (upR x (trm w) v) := by
  have : w = 0 ∨ w = 1 ∨ w = 2 ∨ w = 3 := by omega
  rcases this with rfl | rfl | rfl | rfl
  · exact CRg_2 m
  · exact CRg_1 m
  · exact CRg_14 m
  · exact CRg_15 m
theorem CRg.t {st : St} {x : Rg} {w : Nat} (hw : w < 4) (m : CRg st 1 x) : sI st 5 w = nI (x.1 (trm w)) := by
  have : w = 0 ∨ w = 1 ∨ w = 2 ∨ w = 3 := by omega
  rcases this with rfl | rfl | rfl | rfl
  · exact m.2.1.1
  · exact m.2.1.2.1
  · exact m.2.1.2.2.1
  · exact m.2.1.2.2.2
theorem trm_m {w : Nat} (hw : w < 4) : fX8_termAt (nI w) = nI (trm w) ∧ trm w < 18 ∧ tmax w = nI (trH w) ∧ fX8_isTerm (nI w) = fun v => fX8_lies v 0 (nI (trH w)) := by
  have : w = 0 ∨ w = 1 ∨ w = 2 ∨ w = 3 := by omega
  rcases this with rfl | rfl | rfl | rfl <;> exact ⟨by decide, by decide, by decide, rfl⟩
/-- the class changes its ring but keeps what was said -/
theorem CV_keep {S : List (Nat × Option Nat)} {st u : St} {A : All} {x : Rg} {ps : Ps} (hS : subS S [(1, none), (2, none), (3, none), (5, none), (15, none), (16, none)] = true) (h0 : FR S st u) (m : CV st A) (c : CRg u 1 x) (h1 : x.1 18 = A.1.1 18) (h2 : x.2 = A.1.2) (h3 : sx x = sx A.1) (p : CP u 15 ps) : CV u (x, A.2.1, A.2.2.1, A.2.2.2.1, ps, A.2.2.2.2.2) := by
  have h : FR [(1, none), (2, none), (3, none), (5, none), (15, none), (16, none)] st u := FR.mono hS h0
  refine ⟨WT_low (by rfl) h m.1, ⟨c, Lws_x h1 h2 (Lws_fr (by rfl) h m.2.1.2)⟩, CI_fr (by rfl) h m.2.2.1, CS_fr (by rfl) h m.2.2.2.1, CT_fr (by rfl) h m.2.2.2.2.1, p, CD_fr (by rfl) h m.2.2.2.2.2.2.1, ?_⟩
  rw [h3]; exact CVo_fr (by rfl) (by rfl) h m.2.2.2.2.2.2.2
theorem st5 : Step5 Inv := by
  rintro a b st ⟨A, g, c, m⟩
  have gR := g.1
  unfold fX7_terms fX8_terms fX7_terms_b22
  rcases rng a 0 3 0 3 rfl rfl (by omega) (by omega) with ⟨w, h0, h3, rfl, l1, l2, l3, l4⟩ | ⟨l1, l2⟩
  · have hw : w < 4 := by omega
    obtain ⟨t1, t2, t3, t4⟩ := trm_m hw
    have htH : trH w < 2147483648 := by unfold trH; (repeat' split) <;> omega
    simp only [l2, if_false, show (4 : Int32) = nI 4 from rfl, n_le (show 4 < 2147483648 by omega) (show w < 2147483648 by omega), show ¬ 4 ≤ w by omega, n_ixb (show w < 2147483648 by omega), hw, decide_true, chk_t, n_toNat (show w < 2147483648 by omega), t3, t4, t1]
    rcases rng b 0 (trH w) 0 (nI (trH w)) rfl rfl (by omega) htH with ⟨v, k0, k3, rfl, k1, k2, k4, k5⟩ | ⟨k1, k2⟩
    · simp only [k2, k4, k1, if_false, if_true, show ((1 : Int32) = 0) = False by decide, fX2_forget, Option.bind_some, c.2.1.1.t hw, n_ixb (show trm w < 2147483648 by omega), show trm w < 5627 by omega, decide_true, chk_t, n_toNat (show trm w < 2147483648 by omega)]
      have f1 : FR [(5, none), (15, none)] st (pI (pI st 5 w (nI v)) 15 1 0) := FR.pI (by rfl) (FR.pI (by rfl) FR.rf)
      have hx : GdR (upR A.1 (trm w) v) := Gd_trm hw gR k3
      have ht18 : 18 ≠ trm w := by omega
      have c1 : CV (pI (pI st 5 w (nI v)) 15 1 0) (upR A.1 (trm w) v, A.2.1, A.2.2.1, A.2.2.2.1, psE, A.2.2.2.2.2) := by
        refine CV_keep (by rfl) f1 c (CRg_fr (S := [(15, none)]) (by rfl) (FR.pI (by rfl) FR.rf) (CRg_trm hw c.2.1.1)) ?_ rfl (sx_up ?_) ⟨by rw [sI_pI, if_pos ⟨rfl, rfl⟩]; rfl, fun j hj => absurd hj (Nat.not_lt_zero j)⟩
        · rw [upR_1, if_neg ht18]
        · unfold trm; (repeat' split) <;> omega
      obtain ⟨u3, e3, c3, f3⟩ := c_settled (r := nI (A.1.1 (trm w))) c1
      have m3 : MV u3 A := MV_c (S := [(0, none), (35, none)]) (by rfl) f3 (MV_c (S := [(5, none), (15, none)]) (by rfl) f1 m)
      have f4 : FR [(40, none)] u3 (pI u3 40 (trm w) (nI v)) := FR.pI (by rfl) FR.rf
      obtain ⟨v2, e5, m5, f5⟩ := m_settled (r := nI (A.1.1 (trm w))) (MV_ring (S := [(40, none)]) (by rfl) f4 m3 (MRg_up t2 m3.2.1))
      have c4 := CV_m (S := [(38, none)]) (by rfl) f5 (CV_m (S := [(40, none)]) (by rfl) f4 c3)
      refine ⟨_, u3, v2, e3, ?_, (upR A.1 (trm w) v, A.2.1, va_up A.2.2.1 0 0, A.2.2.2.1, psE, A.2.2.2.2.2), ⟨hx, g.2.1, g.2.2.1, GdP_E, g.2.2.2.2⟩, c4, m5⟩
      rw [m3.2.1.k (by omega)]; exact e5
    · simp only [k1, or_rng k2, if_true]
      exact both_ref R1 g c m
  · have e1 : ∀ z : Option (Int32 × St), (if a < 0 then fX7_refused (-1) st else if 4 ≤ a then fX7_refused (-1) st else z) = fX7_refused (-1) st := by
      intro z
      rcases l2 with l2 | ⟨l2, l3, l4⟩
      · exact if_pos l2
      · rw [if_neg l2, if_pos]
        have h := Int32.lt_iff_toInt_lt.mp l4
        rw [Int32.le_iff_toInt_le]
        have h3 : (3 : Int32).toInt = 3 := by decide
        have h4 : (4 : Int32).toInt = 4 := by decide
        omega
    have e2 : fX8_isTerm a b = 0 := by
      unfold fX8_isTerm
      have ne : ∀ k : Nat, k ≤ 3 → ¬ a = nI k := by
        intro k hk e
        subst e
        rw [show (3 : Int32) = nI 3 from rfl, show (0 : Int32) = nI 0 from rfl, n_lies (by omega) (by omega) (by omega), if_pos (by omega)] at l1
        revert l1; decide
      rw [if_neg (show ¬ a = 0 from ne 0 (by omega)), if_neg (show ¬ a = 1 from ne 1 (by omega)), if_neg (show ¬ a = 2 from ne 2 (by omega)), if_neg (show ¬ a = 3 from ne 3 (by omega))]
    simp only [e1, e2, if_true]
    exact both_ref R1 g c m
