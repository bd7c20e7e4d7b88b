/-! orders: step 11 -/
/-- what orders end in -/
theorem both_o {st st1 st2 : St} {A A' : All} {r : Int32} (m : ∀ s, MV s A → s = st1 → ∃ v, fX8_orders s = some (r, v) ∧ MV v A') (hm : MV st A) (g : Gd A') (hc : fX7_orders st = some (r, st1)) (c : CV st1 A') : ∃ (r : Int32) (st1 : St) (st2 : St), fX7_orders st = some (r, st1) ∧ fX8_orders st1 = some (r, st2) ∧ Inv st2 := by
  have f := mX7_orders hc
  have m1 : MV st1 A := MV_c (S := wX7_orders_S) (by rfl) f hm
  obtain ⟨v, v1, v2⟩ := m st1 m1 rfl
  exact ⟨r, st1, v, hc, v1, A', g, CV_m (S := wX8_orders_S) (by rfl) (mX8_orders v1) c, v2⟩
theorem st11 : Step11 Inv := by
  rintro st ⟨A, g, c, m⟩
  have gt : GdT A.2.2.2.1 := g.2.2.1
  have hb : ∀ j, j < A.2.2.2.1.1 → Byt (A.2.2.2.1.2 j) := fun j hj => gt.b hj
  have t := tkT_E gt.1 hb
  have hn := gt.1
  have lo := c.low
  have c1 : CV (pI st 0 13 (-1)) (scA A (va_up A.2.2.1 2 (-1))) := CV_stop c
  have n14 : sN (pI st 0 13 (-1)) 14 = 826 := (c1.1.2.1 14 10 826 rfl).2
  have gA : Gd (scA A (va_up A.2.2.1 2 (-1))) := Gd_sc g
  have gR : ∀ v, Gd (rdA (scA A (va_up A.2.2.1 2 (-1))) v) := fun v => ⟨g.1, g.2.1, ⟨Nat.zero_le _, fun j hj => absurd hj (Nat.not_lt_zero _)⟩, g.2.2.2⟩
  have mS : ∀ s, MV s A → MV (pI s 38 46 (-1)) (scA A (va_up A.2.2.1 2 (-1))) := fun s ms => MV_stop ms
  rcases readAllC (o := true) t (tc_of gt c1.2.2.2.2.1) n14 with ⟨j, u, r1, r2, r3, r4⟩ | ⟨L, u, r1, r2, r3, r4, r5, sz, z1, z2, z3⟩
  · have hpl : plT A.2.2.2.1.1 A.2.2.2.1.2 j < 2147483648 := by have := plT_le (n := A.2.2.2.1.1) (b := A.2.2.2.1.2) (j := j); omega
    have cv := CV_rd (v := nI (plT A.2.2.2.1.1 A.2.2.2.1.2 j)) r4 r3 c1
    obtain ⟨u2, k1, k2, k3⟩ := c_refused (k := -6) (p := 4) (by right; right; right; right; exact ⟨rfl, rfl⟩) cv
    have hc : fX7_orders st = some (-6, u2) := by
      unfold fX7_orders
      rw [show fX3_readAll 0 (pI st 0 13 (-1)) = _ from r2, Option.bind_some]
      have e12 : sI (pI u 0 12 (nI (plT A.2.2.2.1.1 A.2.2.2.1.2 j))) 0 12 = nI (plT A.2.2.2.1.1 A.2.2.2.1.2 j) := by rw [sI_pI, if_pos ⟨rfl, rfl⟩]
      simp only [e12]
      rw [if_neg (n_nm1 hpl)]
      exact k1
    have hrf : rFault true (tkT A.2.2.2.1.1 A.2.2.2.1.2) = some j := by unfold rFault; rw [r1]
    refine both_o (st2 := st) (A := A) (fun s ms _ => ?_) m (Gd_sc (gR _)) hc k2
    have m1 := mS s ms
    obtain ⟨v, v1, v2, v3, v4⟩ := readsAs8 (o := true) gt m1.1 m1.2.2.2.2.1
    rw [hrf] at v4
    have mv := MV_rd v1 v2 v4.2 m1
    obtain ⟨v', w1, w2, w3⟩ := m_refuses (k := -6) (p := 4) (by right; right; right; right; exact ⟨rfl, rfl⟩) mv
    refine ⟨v', ?_, w2⟩
    unfold fX8_orders
    rw [show fX8_readsAs 1 (pI s 38 46 (-1)) = _ from v4.1, Option.bind_some, if_pos (show (0 : Int32) = 0 from rfl)]
    exact w1
  · have cv := CV_rd (v := -1) r4 r3 c1
    have g2 := gR (-1)
    have f12 : FR [(0, some 12)] u (pI u 0 12 (-1)) := FR.pI (by rfl) FR.rf
    have im : Impl 17 (scr (pI u 0 12 (-1)) 9) L := by rw [scr9_fr (by rfl) f12]; exact r5
    have wh := whole7 g2 cv im
    have hrf : rFault true (tkT A.2.2.2.1.1 A.2.2.2.1.2) = none := by unfold rFault; rw [r1]
    -- the model comes so far
    have pre : ∀ s, MV s A → ∃ q, fX8_orders s = fX8_orders_b62 FU (nI (2400 + (tkT A.2.2.2.1.1 A.2.2.2.1.2).1)) (nI 0) q ∧ MO q (tkT A.2.2.2.1.1 A.2.2.2.1.2) (rdA (scA A (va_up A.2.2.1 2 (-1))) (-1)) (rdA (scA A (va_up A.2.2.1 2 (-1))) (-1), 0, -1) ∧ sI q 38 47 = nI (2400 + 0) := by
      intro s ms
      have m1 := mS s ms
      obtain ⟨v, v1, v2, v3, v4⟩ := readsAs8 (o := true) gt m1.1 m1.2.2.2.2.1
      rw [hrf] at v4
      have mv := MV_rd v1 v2 v4.2 m1
      obtain ⟨w, w1, w2, w3⟩ := aside8 g2 mv
      have mw : MV w (rdA (scA A (va_up A.2.2.1 2 (-1))) (-1)) := MV_x (by rfl) (by rfl) w3 mv
      obtain ⟨y, y1, y2, y3⟩ := lays8 (c := 6) (by omega) t.1 (v3.fr (by rfl) w3)
      obtain ⟨o1, o2, o3⟩ := MRg_o g.1 t mw.2.1 y3
      have my : MV y (rdA (scA A (va_up A.2.2.1 2 (-1))) (-1)) := MV_xr (S := [(40, none)]) (by rfl) y2 mw o1
      have ff : FR [(38, some 27), (38, some 28), (38, some 47)] y (pI (pI (pI y 38 27 0) 38 28 (-1)) 38 47 2400) := FR.pI (by rfl) (FR.pI (by rfl) (FR.pI (by rfl) FR.rf))
      refine ⟨pI (pI (pI y 38 27 0) 38 28 (-1)) 38 47 2400, ?_, ⟨MV_x (by rfl) (by rfl) ff my, o2.fr (fun j hj => hasA_in (by rfl)) ff, ?_, ?_, (w2.fr (by rfl) y2).fr (by rfl) ff⟩, ?_⟩
      · unfold fX8_orders
        rw [show fX8_readsAs 1 (pI s 38 46 (-1)) = _ from v4.1, Option.bind_some, if_neg (show ¬ (1 : Int32) = 0 by decide), w1, Option.bind_some, show fX8_lays 6 w = _ from y1, Option.bind_some]
        have e47 : sI (pI (pI (pI y 38 27 0) 38 28 (-1)) 38 47 2400) 38 47 = nI 2400 := by rw [sI_pI, if_pos ⟨rfl, rfl⟩]; rfl
        have e26 : sI (pI (pI (pI y 38 27 0) 38 28 (-1)) 38 47 2400) 40 26 = nI (tkT A.2.2.2.1.1 A.2.2.2.1.2).1 := (ff.i (hasA_in (by rfl))).trans o3
        rw [e47, e26, n_add]
        rfl
      · rw [sI_pI, if_neg (by omega), sI_pI, if_neg (by omega), sI_pI, if_pos ⟨rfl, rfl⟩]; rfl
      · rw [sI_pI, if_neg (by omega), sI_pI, if_pos ⟨rfl, rfl⟩]
      · rw [sI_pI, if_pos ⟨rfl, rfl⟩]; rfl
    have hc0 : fX7_orders st = (fX7_runWhollyOrNot (pI u 0 12 (-1))).bind (fun q4 => fX7_answered q4.1 q4.2) := by
      unfold fX7_orders
      rw [show fX3_readAll 0 (pI st 0 13 (-1)) = _ from r2, Option.bind_some]
      have e12 : sI (pI u 0 12 (-1)) 0 12 = -1 := by rw [sI_pI, if_pos ⟨rfl, rfl⟩]
      simp only [e12, if_true]
    have ok0 : OkS (rdA (scA A (va_up A.2.2.1 2 (-1))) (-1)) (rdA (scA A (va_up A.2.2.1 2 (-1))) (-1), 0, -1) (20 * 0) := ⟨g2, Smo.rf, Nat.le_refl _, m1_min⟩
    have lo8 := fun q mo h47 => loop8 (A0 := rdA (scA A (va_up A.2.2.1 2 (-1))) (-1)) t lo L 12 0 0 0 FU (rdA (scA A (va_up A.2.2.1 2 (-1))) (-1), 0, -1) q (Or.inr r1) (by omega) (by unfold FU; omega) ok0 mo h47
    cases hx : allA L 0 (rdA (scA A (va_up A.2.2.1 2 (-1))) (-1), 0, -1) with
    | inl j =>
      rw [hx] at wh
      obtain ⟨h12, u1, k1, k2, k3⟩ := wh
      obtain ⟨u2, a1, a2, a3⟩ := c_refused (k := -3) (p := 2) (by right; right; left; exact ⟨rfl, rfl⟩) k2
      have hc : fX7_orders st = some (-3, u2) := by
        rw [hc0, k1, Option.bind_some]
        unfold fX7_answered
        rw [if_neg (show ¬ (0 : Int32) ≤ -3 by decide), a1, Option.bind_some]
      refine both_o (st2 := st) (A := A) (fun s ms _ => ?_) m (Gd_sc (Gd_sc g2)) hc a2
      obtain ⟨q, q1, q2, q3⟩ := pre s ms
      have l := lo8 q q2 q3
      rw [hx] at l
      obtain ⟨v, s2, v1, v2, v3, v4⟩ := l
      obtain ⟨w, w1, w2⟩ := back8o g2 v3 v4 v2
      obtain ⟨v', y1, y2, y3⟩ := m_refuses (k := -3) (p := 2) (by right; right; left; exact ⟨rfl, rfl⟩) (MV_stop (v := nI j) w2)
      exact ⟨v', by rw [q1, v1, w1, Option.bind_some]; exact y1, y2⟩
    | inr s' =>
      rw [hx] at wh
      obtain ⟨u1, k1, k2, k3, k4⟩ := wh
      obtain ⟨u2, a1, a2, a3⟩ := c_settled (r := nI s'.2.1) k2
      have hc : fX7_orders st = some (nI s'.2.1, u2) := by
        rw [hc0, k1, Option.bind_some]
        unfold fX7_answered
        rw [if_pos (n_ge0 (by have := k3.2.2.1; omega)), a1]
      refine both_o (st2 := st) (A := A) (fun s ms _ => ?_) m (Gd_sc k3.1) hc a2
      obtain ⟨q, q1, q2, q3⟩ := pre s ms
      have l := lo8 q q2 q3
      rw [hx] at l
      obtain ⟨v, v1, v2⟩ := l
      obtain ⟨v', y1, y2, y3⟩ := m_good (r := nI s'.2.1) v2
      exact ⟨v', by rw [q1, v1]; exact y1, y2⟩
