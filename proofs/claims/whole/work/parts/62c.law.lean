/-! a law is told: the model lays it -/
theorem lays_loop {n c : Nat} {b : Nat → Int32} (hc : c ≤ 6) (ht : (tkT n b).1 ≤ 400) : ∀ (d m i : Nat) (st : St), i + d = (tkT n b).1 → d < m → TkM st n b → ∃ u, fX8_lays_b15 m (nI c) (nI i) st = some u ∧ FR [(40, none)] st u ∧ ∀ j, sI u 40 j = if 27 + 400 * c + i ≤ j ∧ j < 27 + 400 * c + (tkT n b).1 then nI ((tkT n b).2.1 (j - (27 + 400 * c))) else if 2827 + 400 * c + i ≤ j ∧ j < 2827 + 400 * c + (tkT n b).1 then nI ((tkT n b).2.2 (j - (2827 + 400 * c))) else sI st 40 j := by
  intro d
  induction d with
  | zero =>
    intro m i st h1 h2 h3
    obtain ⟨m, rfl⟩ : ∃ j, m = j + 1 := ⟨m - 1, by omega⟩
    have e : (sI st 38 18 ≤ nI i) = ((tkT n b).1 ≤ i) := by rw [h3.1]; exact n_le (by omega) (by omega)
    rw [fX8_lays_b15]
    simp only [e]
    rw [if_pos (by omega)]
    exact ⟨st, rfl, FR.rf, fun j => by rw [if_neg (by omega), if_neg (by omega)]⟩
  | succ d ih =>
    intro m i st h1 h2 h3
    obtain ⟨m, rfl⟩ : ∃ j, m = j + 1 := ⟨m - 1, by omega⟩
    have e : (sI st 38 18 ≤ nI i) = ((tkT n b).1 ≤ i) := by rw [h3.1]; exact n_le (by omega) (by omega)
    have e1 : (27 : Int32) + (400 : Int32) * nI c + nI i = nI (27 + 400 * c + i) := by
      rw [show (27 : Int32) = nI 27 from rfl, show (400 : Int32) = nI 400 from rfl, n_mul, n_add, n_add]
    have e2 : (2827 : Int32) + (400 : Int32) * nI c + nI i = nI (2827 + 400 * c + i) := by
      rw [show (2827 : Int32) = nI 2827 from rfl, show (400 : Int32) = nI 400 from rfl, n_mul, n_add, n_add]
    rw [fX8_lays_b15]
    simp only [e, e1, e2]
    obtain ⟨k1, k2, _⟩ := h3.2 i (by omega)
    rw [if_neg (by omega), n_ixb (by omega), decide_eq_true (show i < 401 by omega), chk_t, n_ixb (by omega), decide_eq_true (show 27 + 400 * c + i < 5627 by omega), chk_t, chk_t, n_ixb (by omega), decide_eq_true (show 2827 + 400 * c + i < 5627 by omega), chk_t, n_toNat (by omega), n_toNat (by omega), n_toNat (by omega), n_p1]
    have q2 : sI (pI st 40 (27 + 400 * c + i) (sI st 47 i)) 48 i = nI ((tkT n b).2.2 i) := by rw [sI_pI, if_neg (by omega)]; exact k2
    rw [q2, k1]
    have f1 : FR [(40, none)] st (pI (pI st 40 (27 + 400 * c + i) (nI ((tkT n b).2.1 i))) 40 (2827 + 400 * c + i) (nI ((tkT n b).2.2 i))) := FR.pI (by rfl) (FR.pI (by rfl) FR.rf)
    obtain ⟨u, u1, u2, u3⟩ := ih m (i + 1) _ (by omega) (by omega) (h3.fr (by rfl) f1)
    refine ⟨u, u1, f1.trans u2, fun j => ?_⟩
    rw [u3]
    by_cases a1 : 27 + 400 * c + (i + 1) ≤ j ∧ j < 27 + 400 * c + (tkT n b).1
    · rw [if_pos a1, if_pos (by omega)]
    · rw [if_neg a1]
      by_cases a2 : 2827 + 400 * c + (i + 1) ≤ j ∧ j < 2827 + 400 * c + (tkT n b).1
      · rw [if_pos a2, if_neg (by omega), if_pos (by omega)]
      · rw [if_neg a2, sI_pI]
        by_cases a3 : j = 2827 + 400 * c + i
        · rw [if_pos ⟨rfl, a3⟩, if_neg (by omega), if_pos (by omega), show j - (2827 + 400 * c) = i by omega]
        · rw [if_neg (by omega), sI_pI]
          by_cases a4 : j = 27 + 400 * c + i
          · rw [if_pos ⟨rfl, a4⟩, if_pos (by omega), show j - (27 + 400 * c) = i by omega]
          · rw [if_neg (by omega), if_neg (by omega), if_neg (by omega)]
theorem lays8 {n c : Nat} {b : Nat → Int32} {st : St} (hc : c ≤ 6) (ht : (tkT n b).1 ≤ 400) (h : TkM st n b) : ∃ u, fX8_lays (nI c) st = some u ∧ FR [(40, none)] st u ∧ ∀ j, sI u 40 j = if j = 20 + c then nI (tkT n b).1 else if 27 + 400 * c ≤ j ∧ j < 27 + 400 * c + (tkT n b).1 then nI ((tkT n b).2.1 (j - (27 + 400 * c))) else if 2827 + 400 * c ≤ j ∧ j < 2827 + 400 * c + (tkT n b).1 then nI ((tkT n b).2.2 (j - (2827 + 400 * c))) else sI st 40 j := by
  unfold fX8_lays
  have e1 : (20 : Int32) + nI c = nI (20 + c) := by rw [show (20 : Int32) = nI 20 from rfl, n_add]
  rw [e1, n_ixb (by omega), decide_eq_true (show 20 + c < 5627 by omega), chk_t, n_toNat (by omega), h.1]
  have f1 : FR [(40, none)] st (pI st 40 (20 + c) (nI (tkT n b).1)) := FR.pI (by rfl) FR.rf
  obtain ⟨u, u1, u2, u3⟩ := lays_loop hc ht (tkT n b).1 FU 0 _ (by omega) (by unfold FU; omega) (h.fr (by rfl) f1)
  refine ⟨u, u1, f1.trans u2, fun j => ?_⟩
  rw [u3, sI_pI]
  simp only [Nat.add_zero, true_and]
  by_cases a1 : j = 20 + c
  · rw [if_neg (by omega), if_neg (by omega), if_pos a1, if_pos a1]
  · simp only [a1, if_false]
theorem MRg_lw {n : Nat} {b : Nat → Int32} {st u : St} {x : Rg} (g : GdR x) (hk : x.1 18 < 6) (t : TkE (tkT n b)) (m : MRg st 40 0 x) (h : ∀ j, sI u 40 j = if j = 20 + x.1 18 then nI (tkT n b).1 else if 27 + 400 * x.1 18 ≤ j ∧ j < 27 + 400 * x.1 18 + (tkT n b).1 then nI ((tkT n b).2.1 (j - (27 + 400 * x.1 18))) else if 2827 + 400 * x.1 18 ≤ j ∧ j < 2827 + 400 * x.1 18 + (tkT n b).1 then nI ((tkT n b).2.2 (j - (2827 + 400 * x.1 18))) else sI st 40 j) : MRg (pI u 40 18 (nI (x.1 18 + 1))) 40 0 (lwA x (tkT n b)) := by
  obtain ⟨m1, m2, m3⟩ := m
  have ht := t.1
  have old : ∀ j, j < 20 → j ≠ 18 → sI (pI u 40 18 (nI (x.1 18 + 1))) 40 j = sI st 40 j := fun j h1 h2 => by
    rw [sI_pI, if_neg (by omega), h, if_neg (by omega), if_neg (by omega), if_neg (by omega)]
  refine ⟨fun k hk' => ?_, ?_, fun i hi => ?_⟩
  · rw [Nat.zero_add]
    by_cases c : k = 18
    · subst c; rw [sI_pI, if_pos ⟨rfl, rfl⟩, lwA_18]
    · rw [old k (by omega) c, lwA_1 c]
      have := m1 k hk'
      rw [Nat.zero_add] at this; exact this
  · rw [Nat.zero_add, old 19 (by omega) (by omega), lwA_1 (by omega)]
    rw [Nat.zero_add] at m2; exact m2
  · rw [lwA_18] at hi
    have n18 : ∀ j, 20 ≤ j → sI (pI u 40 18 (nI (x.1 18 + 1))) 40 j = sI u 40 j := fun j hj => by rw [sI_pI, if_neg (by omega)]
    by_cases c : i = x.1 18
    · have e : (lwA x (tkT n b)).2 i = tkT n b := if_pos c
      rw [e]
      refine ⟨t, ?_, fun k hk' => ⟨?_, ?_⟩⟩
      · rw [n18 _ (by omega), h, if_pos (by omega)]
      · rw [n18 _ (by omega), h, if_neg (by omega), if_pos (by omega), show 0 + (27 + (400 * i + k)) - (27 + 400 * x.1 18) = k by subst c; omega]
      · rw [n18 _ (by omega), h, if_neg (by omega), if_neg (by omega), if_pos (by omega), show 0 + (2827 + (400 * i + k)) - (2827 + 400 * x.1 18) = k by subst c; omega]
    · have e : (lwA x (tkT n b)).2 i = x.2 i := if_neg c
      rw [e]
      obtain ⟨q1, q2, q3⟩ := m3 i (by omega)
      have h4 := q1.1
      refine ⟨q1, ?_, fun k hk' => ⟨?_, ?_⟩⟩
      · rw [n18 _ (by omega), h, if_neg (by omega), if_neg (by omega), if_neg (by omega)]; exact q2
      · rw [n18 _ (by omega), h, if_neg (by omega), if_neg (by omega), if_neg (by omega)]; exact (q3 k hk').1
      · rw [n18 _ (by omega), h, if_neg (by omega), if_neg (by omega), if_neg (by omega)]; exact (q3 k hk').2
theorem plT_le {n : Nat} {b : Nat → Int32} {j : Nat} : plT n b j ≤ n := by
  unfold plT
  cases h : (tkL n b 0)[j]? with
  | none => exact Nat.le_refl _
  | some s => exact Nat.le_of_lt (tk_in h).1
theorem n_nm1 {a : Nat} (h : a < 2147483648) : ¬ nI a = (-1 : Int32) := fun e => by
  have h2 := n_neg h
  rw [e] at h2
  exact absurd (show (-1 : Int32) < 0 by decide) (by rw [h2]; exact fun f => f)
theorem tc_of {st : St} {tp : Tp} (g : GdT tp) (c : CT st tp) : Tc st tp.1 tp.2 := ⟨c.1, g.1, c.2, fun j hj => g.b hj⟩
theorem st10 : Step10 Inv := by
  rintro st ⟨A, g, c, m⟩
  have g18 := g.1.2.2.2.2.2.2.2.1
  have gt : GdT A.2.2.2.1 := g.2.2.1
  have hb : ∀ j, j < A.2.2.2.1.1 → Byt (A.2.2.2.1.2 j) := fun j hj => gt.b hj
  have t := tkT_E gt.1 hb
  have hn := gt.1
  have c7 : sI st 1 7 = nI (A.1.1 18) := c.2.1.1.1.2.2.2.1
  have e6 : (nI (A.1.1 18) < (6 : Int32)) = (A.1.1 18 < 6) := n_lt (b := 6) (by omega) (by omega)
  have gR : ∀ v, Gd (rdA A v) := fun v => ⟨g.1, g.2.1, ⟨Nat.zero_le _, fun j hj => absurd hj (Nat.not_lt_zero _)⟩, g.2.2.2⟩
  unfold fX7_law
  rw [c7]
  simp only [e6]
  by_cases hk : A.1.1 18 < 6
  · rw [if_pos hk]
    have hm6 : ∀ s, MRg s 40 0 A.1 → ¬ sI s 40 18 = (6 : Int32) := fun s ms => by
      have := ms.1 18 (by omega)
      rw [Nat.zero_add] at this
      rw [this, show (6 : Int32) = nI 6 from rfl, n_eq (by omega) (by omega)]; omega
    have n14 : sN st 14 = 826 := (c.1.2.1 14 10 826 rfl).2
    rcases readAllC (o := false) t (tc_of gt c.2.2.2.2.1) n14 with ⟨j, u, r1, r2, r3, r4⟩ | ⟨L, u, r1, r2, r3, r4, r5, sz, z1, z2, z3⟩
    · have hpl : plT A.2.2.2.1.1 A.2.2.2.1.2 j < 2147483648 := by have := plT_le (n := A.2.2.2.1.1) (b := A.2.2.2.1.2) (j := j); omega
      rw [show fX3_readAll 1 st = _ from r2, Option.bind_some]
      have e12 : sI (pI u 0 12 (nI (plT A.2.2.2.1.1 A.2.2.2.1.2 j))) 0 12 = nI (plT A.2.2.2.1.1 A.2.2.2.1.2 j) := by rw [sI_pI, if_pos ⟨rfl, rfl⟩]
      simp only [e12]
      rw [if_neg (n_nm1 hpl)]
      have cv := CV_rd (v := nI (plT A.2.2.2.1.1 A.2.2.2.1.2 j)) r4 r3 c
      obtain ⟨u2, k1, k2, k3⟩ := c_refused (k := -6) (p := 4) (by right; right; right; right; exact ⟨rfl, rfl⟩) cv
      have m1 : MV u2 A := MV_c (S := [(0, none), (35, none)]) (by rfl) k3 (MV_c (S := [(0, some 12)]) (by rfl) (FR.pI (by rfl) FR.rf) (MV_c (S := S_cr) (by rfl) r4 m))
      obtain ⟨v, v1, v2, v3, v4⟩ := readsAs8 (o := false) gt m1.1 m1.2.2.2.2.1
      have hrf : rFault false (tkT A.2.2.2.1.1 A.2.2.2.1.2) = some j := by unfold rFault; rw [r1]
      rw [hrf] at v4
      have mv := MV_rd v1 v2 v4.2 m1
      obtain ⟨v', w1, w2, w3⟩ := m_refuses (k := -6) (p := 4) (by right; right; right; right; exact ⟨rfl, rfl⟩) mv
      refine ⟨-6, u2, v', k1, ?_, _, Gd_sc (gR _), CV_m (S := [(38, none), (39, none)]) (by rfl) w3 (CV_m (S := S_ra) (by rfl) v1 k2), w2⟩
      unfold fX8_law
      rw [if_neg (hm6 u2 m1.2.1), show fX8_readsAs 0 u2 = _ from v4.1, Option.bind_some]
      exact w1
    · rw [show fX3_readAll 1 st = _ from r2, Option.bind_some]
      have e12 : sI (pI u 0 12 (-1)) 0 12 = -1 := by rw [sI_pI, if_pos ⟨rfl, rfl⟩]
      have f12 : FR [(0, some 12)] u (pI u 0 12 (-1)) := FR.pI (by rfl) FR.rf
      have e7 : sI (pI u 0 12 (-1)) 1 7 = nI (A.1.1 18) := by rw [f12.i (by rfl), r4.i (by rfl)]; exact c7
      simp only [e12, e7, if_true]
      have cv := CV_rd (v := -1) r4 r3 c
      have hL : rLaw (tkT A.2.2.2.1.1 A.2.2.2.1.2) = some L := by unfold rLaw; rw [r1]
      have im : Impl 7 (scr (pI u 0 12 (-1)) 9) L := by
        have : scr (pI u 0 12 (-1)) 9 = scr u 9 := by
          funext i k
          unfold scr
          by_cases ci : i < 6
          · rw [if_pos ci, if_pos ci, sI_pI, if_neg (by omega)]
          · rw [if_neg ci, if_neg ci]; rfl
        rw [this]; exact r5
      obtain ⟨u1, p1, p2, p3⟩ := c_lays (gR (-1)) cv hk hL im ((f12.i (by rfl)).trans z1) z2 z3
      have hk2 : (rdA A (-1)).1.1 18 = A.1.1 18 := rfl
      rw [hk2] at p2 p3
      rw [p1, Option.bind_some, n_ixb (by omega), decide_eq_true hk, chk_t, n_toNat (by omega)]
      have e17 : sI (pR u1 4 (A.1.1 18) (some (sn (pI u 0 12 (-1))))) 1 7 = nI (A.1.1 18) := by
        rw [sI_pR]
        obtain ⟨ux, x1, x2, x3, x4, x5, x6⟩ := trim_ok cv.1 ((f12.i (by rfl)).trans z1) z2 z3
        have : ux = u1 := by
          have := x1.symm.trans p1
          exact (Prod.mk.inj (Option.some.inj this)).2
        subst this
        have w65 : 65 ≤ sn (pI u 0 12 (-1)) := cv.1.1
        rw [x5 1 7 (by omega)]; exact e7
      rw [e17, n_p1]
      generalize hv : pI (pR u1 4 (A.1.1 18) (some (sn (pI u 0 12 (-1))))) 1 7 (nI (A.1.1 18 + 1)) = v at *
      have ev : sI v 1 7 = nI (A.1.1 18 + 1) := by rw [← hv, sI_pI, if_pos ⟨rfl, rfl⟩]
      have es : nI (A.1.1 18 + 1) - (1 : Int32) = nI (A.1.1 18) := by rw [show (1 : Int32) = nI 1 from rfl, n_sub (by omega)]; rfl
      rw [ev, es]
      obtain ⟨u2, k1, k2, k3⟩ := c_settled (r := nI (A.1.1 18)) p2
      have m0 : MV v A := MV_raw (fun a j h1 h2 => by rw [p3 a j h2 (by omega), f12.i (by simp [inS, inA]; omega), r4.i (lowS_in (by rfl) h1)]) m
      have m1 : MV u2 A := MV_c (S := [(0, none), (35, none)]) (by rfl) k3 m0
      obtain ⟨v2, v1, v3, v4, v5⟩ := readsAs8 (o := false) gt m1.1 m1.2.2.2.2.1
      have hrf : rFault false (tkT A.2.2.2.1.1 A.2.2.2.1.2) = none := by unfold rFault; rw [r1]
      rw [hrf] at v5
      have mv := MV_rd v1 v3 v5.2 m1
      obtain ⟨v6, y1, y2, y3⟩ := lays8 (c := A.1.1 18) (by omega) t.1 v4
      have mr := MRg_lw g.1 hk t mv.2.1 y3
      have f6 : FR [(40, none)] v2 (pI v6 40 18 (nI (A.1.1 18 + 1))) := y2.trans (FR.pI (by rfl) FR.rf)
      have mv2 : MV (pI v6 40 18 (nI (A.1.1 18 + 1))) (lwA A.1 (tkT A.2.2.2.1.1 A.2.2.2.1.2), (rdA A (-1)).2) := MV_xr (by rfl) f6 mv mr
      obtain ⟨v', w1, w2, w3⟩ := m_good (r := nI (A.1.1 18)) mv2
      refine ⟨nI (A.1.1 18), u2, v', k1, ?_, _, Gd_sc (Gd_lw (gR (-1)) hk), CV_m (S := [(38, none), (39, none)]) (by rfl) w3 (CV_m (S := [(40, none)]) (by rfl) f6 (CV_m (S := S_ra) (by rfl) v1 k2)), w2⟩
      unfold fX8_law
      rw [if_neg (hm6 u2 m1.2.1), show fX8_readsAs 0 u2 = _ from v5.1, Option.bind_some]
      have e18 : sI v2 40 18 = nI (A.1.1 18) := by have := mv.2.1.1 18 (by omega); rw [Nat.zero_add] at this; exact this
      have e18' : sI v6 40 18 = nI (A.1.1 18) := by rw [y3, if_neg (by omega), if_neg (by omega), if_neg (by omega)]; exact e18
      rw [if_neg one0, e18, y1, Option.bind_some, e18', n_p1]
      have ee : sI (pI v6 40 18 (nI (A.1.1 18 + 1))) 40 18 = nI (A.1.1 18 + 1) := by rw [sI_pI, if_pos ⟨rfl, rfl⟩]
      rw [ee, es]
      exact w1
  · rw [if_neg hk]
    have ft : FR [(7, some 2)] st (pI st 7 2 0) := FR.pI (by rfl) FR.rf
    have cv := CV_T (tp := (0, A.2.2.2.1.2)) (by rfl) ft c ⟨by rw [sI_pI, if_pos ⟨rfl, rfl⟩]; rfl, fun j hj => absurd hj (Nat.not_lt_zero _)⟩
    obtain ⟨u2, k1, k2, k3⟩ := c_refused (k := -5) (p := 3) (by right; right; right; left; exact ⟨rfl, rfl⟩) cv
    have m1 : MV u2 A := MV_c (S := [(0, none), (35, none)]) (by rfl) k3 (MV_c (S := [(7, some 2)]) (by rfl) ft m)
    have fm : FR [(38, some 13)] u2 (pI u2 38 13 0) := FR.pI (by rfl) FR.rf
    have mv := MV_T (tp := (0, A.2.2.2.1.2)) (by rfl) fm m1 ⟨by rw [sI_pI, if_pos ⟨rfl, rfl⟩]; rfl, fun j hj => absurd hj (Nat.not_lt_zero _)⟩
    obtain ⟨v', w1, w2, w3⟩ := m_refuses (k := -5) (p := 3) (by right; right; right; left; exact ⟨rfl, rfl⟩) mv
    refine ⟨-5, u2, v', k1, ?_, _, Gd_sc (A := (A.1, A.2.1, A.2.2.1, (0, A.2.2.2.1.2), A.2.2.2.2)) ⟨g.1, g.2.1, ⟨Nat.zero_le _, fun j hj => absurd hj (Nat.not_lt_zero _)⟩, g.2.2.2⟩, CV_m (S := [(38, none), (39, none)]) (by rfl) w3 (CV_m (S := [(38, some 13)]) (by rfl) fm k2), w2⟩
    unfold fX8_law
    have e18 : sI u2 40 18 = nI (A.1.1 18) := by have := m1.2.1.1 18 (by omega); rw [Nat.zero_add] at this; exact this
    rw [e18, show A.1.1 18 = 6 by omega, if_pos (show nI 6 = (6 : Int32) from rfl)]
    exact w1
