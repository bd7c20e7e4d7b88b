/-! left, safe, compared -/
theorem m_left {s : St} {A : All} {r : Nat} (g : Gd A) (lo : LwOK A.1) (ms : MV s A) (hr : r < A.1.1 17) : ∃ v, fX8_leftBy (nI r) s = some (oneI (lbX A.1 r).1, v) ∧ MV v A ∧ FR S_lb s v ∧ LsM v (lbX A.1 r).2 := by
  obtain ⟨v, e1, e2, e3, e4⟩ := left8 g.1 lo ms.2.1 hr
  exact ⟨v, e1, MV_xr (S := S_lb) (by rfl) e3 ms e2, e3, e4⟩
theorem st21 : Step21 Inv := by
  rintro a b st ⟨A, g, c, m⟩
  have h6 := g.1.2.2.1
  rcases n_in a (A.1.1 17) (by omega) with ⟨r, hr, rfl⟩ | h
  · obtain ⟨u, e1, v1, c1, f1⟩ := tuned g c
    have hx := stX_ok g.1
    obtain ⟨u2, e2, v2, f2, l2, l3⟩ := last_ok (s := stX A.1) (r := r) g.1 v1 hr hx.1 hx.2
    have c2 : CV u2 A := CV_v (S := S_pl) (by rfl) f2 c1 v2.1 v2.o
    have fS : FR S_vo st u2 := (FR.mono (by rfl) f1 : FR S_vo st u).trans (FR.mono (by rfl) f2)
    have hC : fX7_left (nI r) b st = if b = (-1 : Int32) then (some (oneI (lbX A.1 r).1, u2)) else (if oneI (lbX A.1 r).1 = (-1 : Int32) then (some (oneI (lbX A.1 r).1, u2)) else (if b < 0 then (some ((-1 : Int32), u2)) else (if b < (nI (lbX A.1 r).2.length) then (chk (ixb b 6) (some (sI u2 26 b.toNatClampNeg, u2))) else (some ((-1 : Int32), u2))))) := by
      unfold fX7_left
      rw [cR_in g.1 c.2.1.1 hr, if_pos rfl, e1, Option.bind_some, state_ok g.1 c1.2.1.1, Option.bind_some, e2, Option.bind_some]
      simp only [l2.1]
    have hM : ∀ s, MV s A → (¬ (-1 : Int32) ≤ b ∧ fX8_left (nI r) b s = some (-1, s)) ∨ ((-1 : Int32) ≤ b ∧ ∃ v, MV v A ∧ FR S_lb s v ∧ LsM v (lbX A.1 r).2 ∧ fX8_left (nI r) b s = if b = (-1 : Int32) then (some (oneI (lbX A.1 r).1, v)) else (if oneI (lbX A.1 r).1 = (-1 : Int32) then (some (oneI (lbX A.1 r).1, v)) else (if nI (lbX A.1 r).2.length ≤ b then (some ((-1 : Int32), v)) else (chk (ixb b 60) (some (sI v 54 b.toNatClampNeg, v)))))) := by
      intro s ms
      unfold fX8_left
      rw [mR_in g.1 ms.2.1 hr, if_neg (by decide)]
      by_cases hb : (-1 : Int32) ≤ b
      · obtain ⟨v, p1, p2, p3, p4⟩ := m_left g c.low ms hr
        rw [if_pos hb, p1, Option.bind_some]
        exact Or.inr ⟨hb, v, p2, p3, p4, by simp only [p4.1]⟩
      · rw [if_neg hb]
        exact Or.inl ⟨hb, rfl⟩
    -- an answer
    have fin : ∀ r0 : Int32, fX7_left (nI r) b st = some (r0, u2) → (∀ s, MV s A → ∃ v, fX8_left (nI r) b s = some (r0, v) ∧ MV v A ∧ FR S_lb s v) → ∃ r0 st1 st2, fX7_left (nI r) b st = some (r0, st1) ∧ fX8_left (nI r) b st1 = some (r0, st2) ∧ Inv st2 := by
      intro r0 h1 h2
      exact both_q (S := S_vo) (S' := S_lb) (r := r0) (fc := fun s => fX7_left (nI r) b s) (fm := fun s => fX8_left (nI r) b s) (by rfl) (by rfl) g m ⟨u2, h1, c2, fS⟩ h2
    generalize (lbX A.1 r).1 = z1 at hC hM
    generalize (lbX A.1 r).2 = z2 at hC hM l2 l3
    by_cases b1 : b = -1
    · rw [if_pos b1] at hC
      refine fin _ hC (fun s ms => ?_)
      rcases hM s ms with ⟨h1, h2⟩ | ⟨h1, v, h2, h3, h4, h5⟩
      · exact absurd (by rw [b1]; decide) h1
      · rw [if_pos b1] at h5
        exact ⟨v, h5, h2, h3⟩
    · rw [if_neg b1] at hC
      by_cases b2 : oneI z1 = -1
      · rw [if_pos b2, b2] at hC
        refine fin _ hC (fun s ms => ?_)
        rcases hM s ms with ⟨h1, h2⟩ | ⟨h1, v, h2, h3, h4, h5⟩
        · exact ⟨s, h2, ms, FR.rf⟩
        · rw [if_neg b1, if_pos b2, b2] at h5
          exact ⟨v, h5, h2, h3⟩
      · rw [if_neg b2] at hC
        rcases n_cases b with hb | ⟨k, hk, rfl⟩
        · rw [if_pos hb] at hC
          refine fin _ hC (fun s ms => ?_)
          rcases hM s ms with ⟨h1, h2⟩ | ⟨h1, v, h2, h3, h4, h5⟩
          · exact ⟨s, h2, ms, FR.rf⟩
          · exfalso
            apply b1
            rw [Int32.le_iff_toInt_le] at h1
            rw [Int32.lt_iff_toInt_lt] at hb
            rw [← Int32.toInt_inj]
            have e0 : (0 : Int32).toInt = 0 := by decide
            have e1 : (-1 : Int32).toInt = -1 := by decide
            omega
        · have hge : (-1 : Int32) ≤ nI k := by
            rw [Int32.le_iff_toInt_le, n_toInt hk]
            have e1 : (-1 : Int32).toInt = -1 := by decide
            omega
          rw [if_neg (by rw [n_neg hk]; exact id)] at hC
          by_cases hkl : k < z2.length
          · rw [if_pos (by rw [n_lt hk (by omega)]; exact hkl), n_ixb hk, decide_eq_true (show k < 6 by omega), chk_t, n_toNat hk, l2.2 k z2[k] (List.getElem?_eq_getElem hkl)] at hC
            refine fin _ hC (fun s ms => ?_)
            rcases hM s ms with ⟨h1, h2⟩ | ⟨h1, v, h2, h3, h4, h5⟩
            · exact absurd hge h1
            · rw [if_neg b1, if_neg b2, if_neg (by rw [n_le (by omega) hk]; omega), n_ixb hk, decide_eq_true (show k < 60 by omega), chk_t, n_toNat hk, h4.2 k z2[k] (List.getElem?_eq_getElem hkl)] at h5
              exact ⟨v, h5, h2, h3⟩
          · rw [if_neg (by rw [n_lt hk (by omega)]; exact hkl)] at hC
            refine fin _ hC (fun s ms => ?_)
            rcases hM s ms with ⟨h1, h2⟩ | ⟨h1, v, h2, h3, h4, h5⟩
            · exact absurd hge h1
            · rw [if_neg b1, if_neg b2, if_pos (by rw [n_le (by omega) hk]; omega)] at h5
              exact ⟨v, h5, h2, h3⟩
  · refine both_n (r := (-1 : Int32)) (fc := fun s => fX7_left a b s) (fm := fun s => fX8_left a b s) g c m ?_ (fun s ms => ?_)
    · show fX7_left a b st = _
      unfold fX7_left
      rw [cR_out g.1 c.2.1.1 h, if_neg (by decide)]
    · show fX8_left a b s = _
      unfold fX8_left
      rw [mR_out g.1 ms.2.1 h, if_pos rfl]
/-! where to begin -/
def sfI (P : Nat → Prop) [DecidablePred P] : Nat → Nat → Int32 → Int32
  | 0, _, a => a
  | k + 1, i, a => sfI P k (i + 1) (if P i then a ||| jshl 1 (nI i) else a)
abbrev sfP (x : Rg) (r ch : Nat) : Nat → Prop := fun i => oneI (lbA (x.1 16) (tlX x r) 60 (x.1 0 * 6 + i) []).1 = nI ch
theorem safe7 {x : Rg} {r ch : Nat} (g : GdR x) (hr : r < x.1 17) : ∀ (k m i : Nat) (acc : Int32) (st : St), i + k = x.1 16 → k < m → Vt st x (lwF x) (x.1 2) (x.1 15) → ∃ u, fX7_safe_b33 m (nI ch) (nI r) acc (nI i) st = some (sfI (sfP x r ch) k i acc, u) ∧ Vt u x (lwF x) (x.1 2) (x.1 15) ∧ FR S_pl st u := by
  intro k
  have hn := g.1
  have h64 := b_lt64 g
  induction k with
  | zero =>
    intro m i acc st h1 h2 v
    obtain ⟨m, rfl⟩ : ∃ j, m = j + 1 := ⟨m - 1, by omega⟩
    refine ⟨st, ?_, v, FR.rf⟩
    rw [fX7_safe_b33, v.2.1.1.1, if_pos (by rw [n_le (by omega) (by omega)]; omega)]; rfl
  | succ k ih =>
    intro m i acc st h1 h2 v
    obtain ⟨m, rfl⟩ : ∃ j, m = j + 1 := ⟨m - 1, by omega⟩
    rw [fX7_safe_b33, v.2.1.1.1, if_neg (by rw [n_le (by omega) (by omega)]; omega), v.2.1.1.2.1, show (6 : Int32) = nI 6 from rfl, n_mul, n_add]
    have hd : (x.1 0 * 6 + i) / 6 = x.1 0 ∧ (x.1 0 * 6 + i) % 6 = i := by omega
    obtain ⟨u, e1, v1, f1, _⟩ := last_ok (s := x.1 0 * 6 + i) (r := r) g v hr (by rw [hd.1]; exact g.2.1) (fun _ => by rw [hd.2]; omega)
    rw [e1, Option.bind_some]
    unfold fX7_safe_b77 sfI
    by_cases hp : sfP x r ch i
    · obtain ⟨u2, e2, v2, f2⟩ := ih m (i + 1) (acc ||| jshl 1 (nI i)) u (by omega) (by omega) v1
      rw [if_pos hp, if_pos hp, n_p1]
      exact ⟨u2, e2, v2, f1.trans f2⟩
    · obtain ⟨u2, e2, v2, f2⟩ := ih m (i + 1) acc u (by omega) (by omega) v1
      rw [if_neg hp, if_neg hp, n_p1]
      exact ⟨u2, e2, v2, f1.trans f2⟩
theorem upR_up {x : Rg} {k v w : Nat} : upR (upR x k v) k w = upR x k w := by
  unfold upR
  congr 1
  funext i
  unfold va_up
  by_cases c : i = k
  · rw [if_pos c, if_pos c]
  · rw [if_neg c, if_neg c]; show (if i = k then v else x.1 i) = x.1 i; rw [if_neg c]
theorem upR_id {x : Rg} {k : Nat} : upR x k (x.1 k) = x := by
  unfold upR
  have : va_up x.1 k (x.1 k) = x.1 := by
    funext i
    unfold va_up
    by_cases c : i = k
    · rw [if_pos c, c]
    · rw [if_neg c]
  rw [this]
theorem Gd_1 {x : Rg} {v : Nat} (g : GdR x) (h : v ≤ 5) : GdR (upR x 1 v) := by
  obtain ⟨g1, g2, g3, g4, g5, g6, g7, g8, g9, g10, g11, g12⟩ := g
  refine ⟨g1, g2, g3, g4, h, g6, g7, g8, g9, fun j hj => ?_, fun j hj => ?_, fun j hj => ?_⟩
  · rw [upR_1, if_neg (by omega)]; exact g10 j hj
  · rw [upR_1, if_neg (by omega)]; exact g11 j hj
  · rw [upR_1, if_neg (by omega)]; exact g12 j hj
theorem tlX_1 {x : Rg} {r v : Nat} : tlX (upR x 1 v) r = tlX x r := by
  funext s
  show sayA (lwF (upR x 1 v)) (sx (upR x 1 v)) _ _ _ _ _ _ = _
  rw [sx_up (by omega)]
  rfl
theorem safe8 {x : Rg} {r ch : Nat} (g : GdR x) (lo : LwOK x) (hr : r < x.1 17) : ∀ (k m i a : Nat) (acc : Int32) (st : St), i + k = x.1 16 → k < m → a ≤ 5 → MRg st 40 0 (upR x 1 a) → ∃ u a', fX8_safe_b31 m (nI ch) (nI r) (nI (x.1 1)) acc (nI i) st = some (sfI (sfP x r ch) k i acc, pI u 40 1 (nI (x.1 1))) ∧ a' ≤ 5 ∧ MRg u 40 0 (upR x 1 a') ∧ FR S_lb st u := by
  intro k
  have hn := g.1
  induction k with
  | zero =>
    intro m i a acc st h1 h2 ha mr
    obtain ⟨m, rfl⟩ : ∃ j, m = j + 1 := ⟨m - 1, by omega⟩
    refine ⟨st, a, ?_, ha, mr, FR.rf⟩
    rw [fX8_safe_b31, show sI st 40 16 = nI (x.1 16) from mr.k (by omega), if_pos (by rw [n_le (by omega) (by omega)]; omega)]; rfl
  | succ k ih =>
    intro m i a acc st h1 h2 ha mr
    obtain ⟨m, rfl⟩ : ∃ j, m = j + 1 := ⟨m - 1, by omega⟩
    rw [fX8_safe_b31, show sI st 40 16 = nI (x.1 16) from mr.k (by omega), if_neg (by rw [n_le (by omega) (by omega)]; omega)]
    have m1 : MRg (pI st 40 1 (nI i)) 40 0 (upR x 1 i) := by
      have := MRg_up (v := i) (show 1 < 18 by omega) mr
      rw [upR_up] at this; exact this
    have f0 : FR S_lb st (pI st 40 1 (nI i)) := FR.pI (by rfl) FR.rf
    obtain ⟨u, e1, e2, e3, _⟩ := left8 (r := r) (Gd_1 g (show i ≤ 5 by omega)) (show LwOK (upR x 1 i) from lo) m1 hr
    have hz : lbX (upR x 1 i) r = lbA (x.1 16) (tlX x r) 60 (x.1 0 * 6 + i) [] := by
      show lbA (x.1 16) (tlX (upR x 1 i) r) 60 (stX (upR x 1 i)) [] = _
      rw [tlX_1]
      congr 1
      show x.1 0 * 6 + plX (upR x 1 i) = _
      unfold plX
      show x.1 0 * 6 + (if x.1 16 = 0 then 0 else i % x.1 16) = _
      rw [if_neg (by omega), Nat.mod_eq_of_lt (by omega)]
    rw [e1, hz, Option.bind_some]
    unfold fX8_safe_b70 sfI
    by_cases hp : sfP x r ch i
    · obtain ⟨u2, a', r1, r2, r3, r4⟩ := ih m (i + 1) i (acc ||| jshl 1 (nI i)) u (by omega) (by omega) (by omega) e2
      rw [if_pos hp, if_pos hp, n_p1]
      exact ⟨u2, a', r1, r2, r3, f0.trans (e3.trans r4)⟩
    · obtain ⟨u2, a', r1, r2, r3, r4⟩ := ih m (i + 1) i acc u (by omega) (by omega) (by omega) e2
      rw [if_neg hp, if_neg hp, n_p1, show acc ||| (0 : Int32) = acc from Int32.or_zero]
      exact ⟨u2, a', r1, r2, r3, f0.trans (e3.trans r4)⟩
theorem st22 : Step22 Inv := by
  rintro a b st ⟨A, g, c, m⟩
  have h16 := g.1.1
  have h17 := g.1.2.2.1
  have h1 := g.1.2.2.2.2.1
  rcases n_in a (A.1.1 16) (by omega) with ⟨k, hk, rfl⟩ | h
  · rcases n_in b (A.1.1 17) (by omega) with ⟨r, hr, rfl⟩ | h
    · obtain ⟨u, e1, v1, c1, f1⟩ := tuned g c
      obtain ⟨u2, e2, v2, f2⟩ := safe7 (ch := k) g.1 hr (A.1.1 16) FU 0 0 u (by omega) (by unfold FU; omega) v1
      refine both_q (S := S_vo) (S' := S_lb) (r := sfI (sfP A.1 r k) (A.1.1 16) 0 0) (fc := fun s => fX7_safe (nI k) (nI r) s) (fm := fun s => fX8_safe (nI k) (nI r) s) (by rfl) (by rfl) g m ⟨u2, ?_, CV_v (S := S_pl) (by rfl) f2 c1 v2.1 v2.o, (FR.mono (by rfl) f1 : FR S_vo st u).trans (FR.mono (by rfl) f2)⟩ (fun s ms => ?_)
      · show fX7_safe (nI k) (nI r) st = _
        unfold fX7_safe
        rw [cC_in g.1 c.2.1.1 hk, if_pos rfl, cR_in g.1 c.2.1.1 hr, if_pos rfl, e1, Option.bind_some]
        exact e2
      · have m0 : MRg s 40 0 (upR A.1 1 (A.1.1 1)) := by rw [upR_id]; exact ms.2.1
        obtain ⟨u3, a', r1, r2, r3, r4⟩ := safe8 (ch := k) g.1 c.low hr (A.1.1 16) FU 0 (A.1.1 1) 0 s (by omega) (by unfold FU; omega) h1 m0
        have f3 : FR S_lb s (pI u3 40 1 (nI (A.1.1 1))) := FR.pI (by rfl) r4
        have m3 : MRg (pI u3 40 1 (nI (A.1.1 1))) 40 0 A.1 := by
          have := MRg_up (v := A.1.1 1) (show 1 < 18 by omega) r3
          rw [upR_up, upR_id] at this; exact this
        refine ⟨_, ?_, MV_xr (S := S_lb) (by rfl) f3 ms m3, f3⟩
        show fX8_safe (nI k) (nI r) s = _
        unfold fX8_safe
        rw [mC_in g.1 ms.2.1 hk, if_neg (by decide), mR_in g.1 ms.2.1 hr, if_neg (by decide), ms.2.1.k (by omega)]
        exact r1
    · refine both_n (r := (-1 : Int32)) (fc := fun s => fX7_safe (nI k) b s) (fm := fun s => fX8_safe (nI k) b s) g c m ?_ (fun s ms => ?_)
      · show fX7_safe (nI k) b st = _
        unfold fX7_safe
        rw [cC_in g.1 c.2.1.1 hk, if_pos rfl, cR_out g.1 c.2.1.1 h, if_neg (by decide)]
      · show fX8_safe (nI k) b s = _
        unfold fX8_safe
        rw [mC_in g.1 ms.2.1 hk, if_neg (by decide), mR_out g.1 ms.2.1 h, if_pos rfl]
  · refine both_n (r := (-1 : Int32)) (fc := fun s => fX7_safe a b s) (fm := fun s => fX8_safe a b s) g c m ?_ (fun s ms => ?_)
    · show fX7_safe a b st = _
      unfold fX7_safe
      rw [cC_out g.1 c.2.1.1 h, if_neg (by decide)]
    · show fX8_safe a b s = _
      unfold fX8_safe
      rw [mC_out g.1 ms.2.1 h, if_pos rfl]
/-! a law in place of that in force -/
theorem st27 : Step27 Inv := by
  rintro a b st ⟨A, g, c, m⟩
  have h17 := g.1.2.2.1
  have h18 := g.1.2.2.2.2.2.2.2.1
  have hx := stX_ok g.1
  rcases law_rng a (A.1.1 18) (by omega) with ⟨k, hk, ea, l1, l2⟩ | ⟨l1, l2, l3⟩
  · have hC : fX7_compare a b st = fX7_compare_b16 a b st := by
      unfold fX7_compare fX4_lacksLaw
      rw [c.2.1.1.1.2.2.2.1]
      rcases l2 with l2 | l2
      · rw [if_pos l2]
      · rw [l2]
        by_cases z : a = -1
        · rw [if_pos z]
        · rw [if_neg z, if_pos rfl]
    have hM : ∀ s, MV s A → fX8_compare a b s = (if (fX8_isRhyme s b) = 0 then (some ((-1 : Int32), s)) else ((fX8_leftBy b (pI s 40 19 a)).bind (fun q3 => some (q3.1, pI q3.2 40 19 (sI s 40 19))))) := by
      intro s ms
      unfold fX8_compare fX8_isLaw
      rw [ms.2.1.k (by omega), l1, if_neg (by decide)]
    rcases n_in b (A.1.1 17) (by omega) with ⟨r, hr, rfl⟩ | h
    · -- the law that is named
      have gk : GdR (upR A.1 19 k) := Gd_f g.1 hk
      have hl : ∃ nl, fX7_compare_b16 a (nI r) st = fX7_compare_b51 (nI r) nl st ∧ Lwo st nl (lwF (upR A.1 19 k)) := by
        unfold fX7_compare_b16
        rw [cR_in g.1 c.2.1.1 hr, if_pos rfl]
        by_cases z : k = 0
        · have ea' : a = -1 := by rw [ea, z]; decide
          refine ⟨none, by rw [if_pos ea'], Or.inl ⟨?_, rfl⟩⟩
          show (if k = 0 then none else _) = none
          rw [if_pos z]
        · obtain ⟨j, hj⟩ : ∃ j, k = j + 1 := ⟨k - 1, by omega⟩
          have ea' : a = nI j := by rw [ea, hj, n_pred]
          obtain ⟨q, L, q1, q2, q3⟩ := law_ok c (show j < A.1.1 18 by omega) h18
          refine ⟨some q, ?_, ?_⟩
          · rw [ea', if_neg (fun e => by
              have : nI j < 0 := by rw [e]; decide
              rw [n_neg (by omega)] at this; exact this), n_ixb (by omega), decide_eq_true (show j < 6 by omega), chk_t, n_toNat (by omega), q1]
          · have : lwF (upR A.1 19 k) = rLaw (A.1.2 j) := by
              show (if k = 0 then none else rLaw (A.1.2 (k - 1))) = _
              rw [if_neg z, hj]; rfl
            rw [this, q2]; exact q3
      obtain ⟨nl, e0, hlw⟩ := hl
      obtain ⟨u, e1, v1, f1⟩ := tune_ok g.1 c.1 c.2.1.1 c.2.2.2.2.2.2.2 hlw g.1.2.2.2.1
      have c1 : CV u A := CV_v (S := wX6_tune_S) (by rfl) f1 c v1.1 v1.o
      obtain ⟨u2, e2, v2, f2, _⟩ := last_ok (s := stX A.1) (r := r) g.1 v1 hr hx.1 hx.2
      refine both_q (S := S_vo) (S' := [(38, some 22), (38, some 23), (38, some 24), (38, some 25), (50, none), (51, none), (40, none), (38, some 34), (54, none), (43, none)]) (r := oneI (lbX (upR A.1 19 k) r).1) (fc := fun s => fX7_compare a (nI r) s) (fm := fun s => fX8_compare a (nI r) s) (by rfl) (by rfl) g m ⟨u2, ?_, CV_v (S := S_pl) (by rfl) f2 c1 v2.1 v2.o, (FR.mono (by rfl) f1 : FR S_vo st u).trans (FR.mono (by rfl) f2)⟩ (fun s ms => ?_)
      · show fX7_compare a (nI r) st = _
        rw [hC, e0]
        unfold fX7_compare_b51
        rw [show sI st 5 0 = nI (A.1.1 2) from c.2.1.1.2.1.1, e1, Option.bind_some, state_ok g.1 c1.2.1.1, Option.bind_some, e2]
        have hz : tlX (upR A.1 19 k) r = tlA (lwF (upR A.1 19 k)) A.1 (A.1.1 2) (A.1.1 15) r := by
          funext s
          show sayA (lwF (upR A.1 19 k)) (sx (upR A.1 19 k)) _ _ _ _ _ _ = _
          rw [sx_up (by omega)]
          rfl
        show _ = some (oneI (lbA (A.1.1 16) (tlX (upR A.1 19 k) r) 60 (stX A.1) []).1, u2)
        rw [hz]
      · have m1 : MRg (pI s 40 19 a) 40 0 (upR A.1 19 k) := MRg_f ea ms.2.1
        obtain ⟨v, p1, p2, p3, _⟩ := left8 (r := r) gk (show LwOK (upR A.1 19 k) from c.low) m1 hr
        have m3 : MRg (pI v 40 19 (nI (A.1.1 19) - 1)) 40 0 A.1 := by
          have := MRg_f (v := A.1.1 19) rfl p2
          rw [upR_up, upR_id] at this; exact this
        have f3 : FR [(38, some 22), (38, some 23), (38, some 24), (38, some 25), (50, none), (51, none), (40, none), (38, some 34), (54, none), (43, none)] s (pI v 40 19 (nI (A.1.1 19) - 1)) := FR.pI (by rfl) ((FR.pI (by rfl) FR.rf : FR _ s (pI s 40 19 a)).trans (FR.mono (by rfl) p3))
        refine ⟨_, ?_, MV_xr (by rfl) f3 ms m3, f3⟩
        show fX8_compare a (nI r) s = _
        rw [hM s ms, mR_in g.1 ms.2.1 hr, if_neg (by decide), p1, Option.bind_some, ms.2.1.f]
    · refine both_n (r := (-1 : Int32)) (fc := fun s => fX7_compare a b s) (fm := fun s => fX8_compare a b s) g c m ?_ (fun s ms => ?_)
      · show fX7_compare a b st = _
        rw [hC]
        unfold fX7_compare_b16
        rw [cR_out g.1 c.2.1.1 h, if_neg (by decide)]
      · show fX8_compare a b s = _
        rw [hM s ms, mR_out g.1 ms.2.1 h, if_pos rfl]
  · refine both_n (r := (-1 : Int32)) (fc := fun s => fX7_compare a b s) (fm := fun s => fX8_compare a b s) g c m ?_ (fun s ms => ?_)
    · show fX7_compare a b st = _
      unfold fX7_compare fX4_lacksLaw
      rw [c.2.1.1.1.2.2.2.1, l3, if_neg l2, if_neg (by decide)]
    · show fX8_compare a b s = _
      unfold fX8_compare fX8_isLaw
      rw [ms.2.1.k (by omega), l1, if_pos rfl]
