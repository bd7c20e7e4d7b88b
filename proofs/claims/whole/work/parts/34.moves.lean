/-! joinings, leavings, rounds, and their undoing -/
theorem both_ans {S S' : List (Nat × Option Nat)} {st : St} {A A' : All} {r : Int32} {fc fm : St → Option (Int32 × St)} (hS : lowS S = true) (hS' : midS S' = true) (m : MV st A) (g' : Gd A') (hr : r = -2 ∨ r = -3 ∨ ∃ k, k < 2147483648 ∧ r = nI k) (hc : ∃ u, fc st = some (r, u) ∧ CV u A' ∧ FR S st u) (hm : ∀ s, MV s A → ∃ v, fm s = some (r, v) ∧ MV v A' ∧ FR S' s v) : ∃ r st1 st2, (fc st).bind (fun q => fX7_answered q.1 q.2) = some (r, st1) ∧ (fm st1).bind (fun q => fX8_goodOr q.1 q.2) = some (r, st2) ∧ Inv st2 := by
  obtain ⟨u, e1, c1, f1⟩ := hc
  have h2 : ∃ u2 sc, fX7_answered r u = some (r, u2) ∧ CV u2 (scA A' sc) ∧ FR [(0, none), (35, none)] u u2 ∧ ∀ s, MV s A' → ∃ v, fX8_goodOr r s = some (r, v) ∧ MV v (scA A' sc) ∧ FR [(38, none), (39, none)] s v := by
    unfold fX7_answered fX8_goodOr
    rcases hr with rfl | rfl | ⟨k, hk, rfl⟩
    · obtain ⟨u2, q1, q2, q3⟩ := c_refused R2 c1
      refine ⟨u2, _, by rw [if_neg (by decide), q1]; rfl, q2, q3, fun s ms => ?_⟩
      obtain ⟨v, p1, p2, p3⟩ := m_refuses R2 ms
      exact ⟨v, by rw [if_neg (by decide), p1]; rfl, p2, p3⟩
    · obtain ⟨u2, q1, q2, q3⟩ := c_refused R3 c1
      refine ⟨u2, _, by rw [if_neg (by decide), q1]; rfl, q2, q3, fun s ms => ?_⟩
      obtain ⟨v, p1, p2, p3⟩ := m_refuses R3 ms
      exact ⟨v, by rw [if_neg (by decide), p1]; rfl, p2, p3⟩
    · obtain ⟨u2, q1, q2, q3⟩ := c_settled (r := nI k) c1
      refine ⟨u2, _, by rw [if_pos (by rw [n_nn hk]; trivial)]; exact q1, q2, q3, fun s ms => ?_⟩
      obtain ⟨v, p1, p2, p3⟩ := m_good (r := nI k) ms
      exact ⟨v, by rw [if_pos (by rw [n_nn hk]; trivial)]; exact p1, p2, p3⟩
  obtain ⟨u2, sc, q1, q2, q3, q4⟩ := h2
  obtain ⟨v, p1, p2, p3⟩ := hm u2 (MV_c (S := [(0, none), (35, none)]) (by rfl) q3 (MV_c hS f1 m))
  obtain ⟨v2, w1, w2, w3⟩ := q4 v p2
  exact ⟨r, u2, v2, by rw [e1]; exact q1, by rw [p1]; exact w1, _, Gd_sc g', CV_m (S := [(38, none), (39, none)]) (by rfl) w3 (CV_m hS' p3 q2), w2⟩
def mvB (b k : Nat) : Nat := if bit b k = 0 then b + 2 ^ k else b - 2 ^ k
def mvA (A : All) (kd k : Nat) : All := sX (sP A (psK A.1 kd A.2.2.2.2.1)) (upR A.1 0 (mvB (A.1.1 0) k))
theorem mvB_lt {n b k : Nat} (hn : n ≤ 6) (hb : b < 2 ^ n) (hk : k < n) : mvB b k < 2 ^ n := by
  unfold mvB
  split
  · rename_i h; exact add_top n (by omega) b hb k hk h
  · exact Nat.lt_of_le_of_lt (Nat.sub_le _ _) hb
theorem Gd_0 {x : Rg} {v : Nat} (g : GdR x) (h : v < 2 ^ x.1 16) : GdR (upR x 0 v) := by
  obtain ⟨g1, g2, g3, g4, g5, g6, g7, g8, g9, g10, g11, g12⟩ := g
  refine ⟨by simpa [upR_1] using g1, by simpa [upR_1] using h, by simpa [upR_1] using g3, by simpa [upR_1] using g4, by simpa [upR_1] using g5, by simpa [upR_1] using g6, by simpa [upR_1] using g7, by simpa [upR_1] using g8, by simpa [upR_1] using g9, fun j hj => ?_, fun j hj => ?_, fun j hj => ?_⟩
  · rw [upR_1, if_neg (by omega)]; exact g10 j hj
  · rw [upR_1, if_neg (by omega)]; exact g11 j hj
  · rw [upR_1, if_neg (by omega)] at hj; rw [upR_1, if_neg (by omega)]; exact g12 j hj
theorem GdP_up {x : Rg} {k v : Nat} {ps : Ps} (hk : k ≠ 16) (g : GdP x ps) : GdP (upR x k v) ps := by
  refine ⟨g.1, fun j hj => ?_⟩
  rw [upR_1, if_neg (Ne.symm hk)]; exact g.2 j hj
theorem Gd_mv {A : All} {kd k : Nat} (g : Gd A) (hd : kd < 4) (hk : k < A.1.1 16) : Gd (mvA A kd k) :=
  ⟨Gd_0 g.1 (mvB_lt g.1.1 g.1.2.1 hk), g.2.1, g.2.2.1, GdP_up (by omega) (GdP_K g.1 g.2.2.2.1 hd), g.2.2.2.2⟩
theorem c_move_out {st : St} {A : All} {p : Int32} {kd : Int32} (g : Gd A) (c : CV st A) (h : out p (A.1.1 16)) : fX7_performMove kd p st = some (-2, st) := by
  unfold fX7_performMove
  rw [cC_out g.1 c.2.1.1 h, if_neg (by decide)]
theorem c_move_no {st : St} {A : All} {k kd : Nat} (g : Gd A) (c : CV st A) (h : k < A.1.1 16) (hd : kd = 1 ∧ bit (A.1.1 0) k = 1 ∨ kd = 2 ∧ bit (A.1.1 0) k = 0) : fX7_performMove (nI kd) (nI k) st = some (-3, st) := by
  have h6 := g.1.1
  unfold fX7_performMove fX7_performMove_b34 fX7_performMove_b46
  rw [cC_in g.1 c.2.1.1 h, if_pos rfl, c.2.1.1.1.2.1, shr64 _ (b_lt64 g.1) _ (by omega)]
  rcases hd with ⟨rfl, hb⟩ | ⟨rfl, hb⟩
  · rw [hb]; rfl
  · rw [hb]; rfl
theorem c_move_do {st : St} {A : All} {k kd : Nat} (g : Gd A) (c : CV st A) (h : k < A.1.1 16) (hd : kd = 1 ∧ bit (A.1.1 0) k = 0 ∨ kd = 2 ∧ bit (A.1.1 0) k = 1) : ∃ u, fX7_performMove (nI kd) (nI k) st = some (nI (pc (mvB (A.1.1 0) k)), u) ∧ CV u (mvA A kd k) ∧ FR [(1, none), (15, none), (16, none)] st u := by
  have h6 := g.1.1
  have hb64 := b_lt64 g.1
  have hk4 : kd < 4 := by omega
  obtain ⟨u, e1, c1, f1⟩ := c_keep g c hk4
  have hx : sI u 1 5 = nI (A.1.1 0) := c1.2.1.1.1.2.1
  have hxx : sI u 1 5 ^^^ jshl 1 (nI k) = nI (mvB (A.1.1 0) k) := by rw [hx, xor64 _ hb64 _ (by omega)]; rfl
  have hm : mvB (A.1.1 0) k < 64 := by
    have h1 := mvB_lt g.1.1 g.1.2.1 h
    have h2 : 2 ^ A.1.1 16 ≤ 2 ^ 6 := Nat.pow_le_pow_right (by decide) h6
    omega
  have f2 : FR [(1, none)] u (pI u 1 5 (nI (mvB (A.1.1 0) k))) := FR.pI (by rfl) FR.rf
  refine ⟨pI u 1 5 (nI (mvB (A.1.1 0) k)), ?_, ?_, FR.trans (FR.mono (by rfl) f1) (FR.mono (by rfl) f2)⟩
  · have tail : (fX2_keep (nI kd) st).bind (fun q2 => some (fJ6_bitCount_0f7a4 (sI (pI q2 1 5 ((sI q2 1 5) ^^^ (jshl (1 : Int32) (nI k)))) 1 5), pI q2 1 5 ((sI q2 1 5) ^^^ (jshl (1 : Int32) (nI k))))) = some (nI (pc (mvB (A.1.1 0) k)), pI u 1 5 (nI (mvB (A.1.1 0) k))) := by
      rw [e1, Option.bind_some]
      simp only [sI_pI, and_self, if_true, hxx, bc64 _ hm]
    unfold fX7_performMove fX7_performMove_b34 fX7_performMove_b46
    rw [cC_in g.1 c.2.1.1 h, if_pos rfl, c.2.1.1.1.2.1, shr64 _ hb64 _ (by omega)]
    rcases hd with ⟨rfl, hb⟩ | ⟨rfl, hb⟩
    · rw [hb, if_neg (by decide), if_pos (by decide), if_neg (by decide)]; exact tail
    · rw [hb, if_pos (by decide), if_neg (by decide), if_neg (by decide)]; exact tail
  · exact CV_keep (A := sP A (psK A.1 kd A.2.2.2.2.1)) (S := [(1, none)]) (by rfl) f2 c1 (CRg_0 c1.2.1.1) (by rw [upR_1, if_neg (by omega)]; rfl) rfl (sx_up (by omega)) (CP_fr (by rfl) f2 c1.2.2.2.2.2.1)
theorem inside_ok {st : St} {x : Rg} {b : Nat} (hb : b < 64) (h : sI st 40 0 = nI b) : fX8_inside st = some (nI (pc b)) := by
  unfold fX8_inside; rw [h, ones64 _ hb]
theorem m_mv {st : St} {A : All} {k kd : Nat} (g : Gd A) (m : MV st A) (h : k < A.1.1 16) (hd : kd < 4) : ∃ u, fX8_keepsAll (nI kd) st = some u ∧ sI u 40 0 = nI (A.1.1 0) ∧ fX8_inside (pI u 40 0 (nI (mvB (A.1.1 0) k))) = some (nI (pc (mvB (A.1.1 0) k))) ∧ MV (pI u 40 0 (nI (mvB (A.1.1 0) k))) (mvA A kd k) ∧ FR [(38, some 32), (52, none), (40, none)] st (pI u 40 0 (nI (mvB (A.1.1 0) k))) := by
  have h6 := g.1.1
  obtain ⟨u, e1, m1, f1⟩ := m_keep g m hd
  have hm : mvB (A.1.1 0) k < 64 := by
    have h1 := mvB_lt g.1.1 g.1.2.1 h
    have h2 : 2 ^ A.1.1 16 ≤ 2 ^ 6 := Nat.pow_le_pow_right (by decide) h6
    omega
  have f2 : FR [(40, none)] u (pI u 40 0 (nI (mvB (A.1.1 0) k))) := FR.pI (by rfl) FR.rf
  exact ⟨u, e1, m1.2.1.k (by omega), inside_ok (x := A.1) hm (by rw [sI_pI, if_pos ⟨rfl, rfl⟩]), MV_ring (S := [(40, none)]) (by rfl) f2 m1 (MRg_up (by omega) m1.2.1), FR.trans (FR.mono (by rfl) f1) (FR.mono (by rfl) f2)⟩
theorem m_join_out {st : St} {A : All} {p : Int32} (g : Gd A) (m : MV st A) (h : out p (A.1.1 16)) : fX8_joinsKept p st = some (-2, st) := by
  unfold fX8_joinsKept
  rw [mC_out g.1 m.2.1 h, if_pos rfl]
theorem m_leave_out {st : St} {A : All} {p : Int32} (g : Gd A) (m : MV st A) (h : out p (A.1.1 16)) : fX8_leavesKept p st = some (-2, st) := by
  unfold fX8_leavesKept
  rw [mC_out g.1 m.2.1 h, if_pos rfl]
theorem m_join_no {st : St} {A : All} {k : Nat} (g : Gd A) (m : MV st A) (h : k < A.1.1 16) (hb : bit (A.1.1 0) k = 1) : fX8_joinsKept (nI k) st = some (-3, st) := by
  have h6 := g.1.1
  unfold fX8_joinsKept
  rw [mC_in g.1 m.2.1 h, if_neg (by decide), m.2.1.k (by omega), isIn64 _ (b_lt64 g.1) _ (by omega), hb, if_neg (by decide)]
theorem m_leave_no {st : St} {A : All} {k : Nat} (g : Gd A) (m : MV st A) (h : k < A.1.1 16) (hb : bit (A.1.1 0) k = 0) : fX8_leavesKept (nI k) st = some (-3, st) := by
  have h6 := g.1.1
  unfold fX8_leavesKept
  rw [mC_in g.1 m.2.1 h, if_neg (by decide), m.2.1.k (by omega), isIn64 _ (b_lt64 g.1) _ (by omega), hb, if_pos (by decide)]
theorem m_join_do {st : St} {A : All} {k : Nat} (g : Gd A) (m : MV st A) (h : k < A.1.1 16) (hb : bit (A.1.1 0) k = 0) : ∃ u, fX8_joinsKept (nI k) st = some (nI (pc (mvB (A.1.1 0) k)), u) ∧ MV u (mvA A 1 k) ∧ FR [(38, some 32), (52, none), (40, none)] st u := by
  have h6 := g.1.1
  obtain ⟨u, e1, e2, e3, e4, e5⟩ := m_mv g m h (show 1 < 4 by omega)
  refine ⟨_, ?_, e4, e5⟩
  unfold fX8_joinsKept
  have em : mvB (A.1.1 0) k = A.1.1 0 + 2 ^ k := if_pos hb
  have eo : sI u 40 0 ||| jshl 1 (nI k) = nI (mvB (A.1.1 0) k) := by rw [e2, or64 _ (b_lt64 g.1) _ (by omega) hb, em]
  rw [mC_in g.1 m.2.1 h, if_neg (by decide), m.2.1.k (by omega), isIn64 _ (b_lt64 g.1) _ (by omega), hb, if_pos (by decide), show (1 : Int32) = nI 1 from rfl, e1, Option.bind_some, show nI 1 = (1 : Int32) from rfl, eo, e3]; rfl
theorem m_leave_do {st : St} {A : All} {k : Nat} (g : Gd A) (m : MV st A) (h : k < A.1.1 16) (hb : bit (A.1.1 0) k = 1) : ∃ u, fX8_leavesKept (nI k) st = some (nI (pc (mvB (A.1.1 0) k)), u) ∧ MV u (mvA A 2 k) ∧ FR [(38, some 32), (52, none), (40, none)] st u := by
  have h6 := g.1.1
  obtain ⟨u, e1, e2, e3, e4, e5⟩ := m_mv g m h (show 2 < 4 by omega)
  refine ⟨_, ?_, e4, e5⟩
  unfold fX8_leavesKept
  have em : mvB (A.1.1 0) k = A.1.1 0 - 2 ^ k := if_neg (by omega)
  have eo : sI u 40 0 &&& (jshl 1 (nI k) ^^^ -1) = nI (mvB (A.1.1 0) k) := by rw [e2, andn64 _ (b_lt64 g.1) _ (by omega) hb, em]
  rw [mC_in g.1 m.2.1 h, if_neg (by decide), m.2.1.k (by omega), isIn64 _ (b_lt64 g.1) _ (by omega), hb, if_neg (by decide), show (2 : Int32) = nI 2 from rfl, e1, Option.bind_some, eo, e3]; rfl
theorem pc_lt {b : Nat} : pc b < 2147483648 := by unfold pc; omega
theorem st17 : Step17 Inv := by
  rintro a st ⟨A, g, c, m⟩
  unfold fX7_join fX8_join
  have h6 := g.1.1
  rcases n_in a (A.1.1 16) (by omega) with ⟨k, hk, rfl⟩ | h
  · rcases bit_le (A.1.1 0) k with hb | hb
    · exact both_ans (S := [(1, none), (15, none), (16, none)]) (S' := [(38, some 32), (52, none), (40, none)]) (fc := fun s => fX7_performMove 1 (nI k) s) (fm := fun s => fX8_joinsKept (nI k) s) (by rfl) (by rfl) m (Gd_mv g (show 1 < 4 by omega) hk) (Or.inr (Or.inr ⟨_, pc_lt, rfl⟩)) (c_move_do g c hk (Or.inl ⟨rfl, hb⟩)) (fun s ms => m_join_do g ms hk hb)
    · exact both_ans (S := []) (S' := []) (fc := fun s => fX7_performMove 1 (nI k) s) (fm := fun s => fX8_joinsKept (nI k) s) (by rfl) (by rfl) m g (Or.inr (Or.inl rfl)) ⟨st, c_move_no g c hk (Or.inl ⟨rfl, hb⟩), c, FR.rf⟩ (fun s ms => ⟨s, m_join_no g ms hk hb, ms, FR.rf⟩)
  · exact both_ans (S := []) (S' := []) (fc := fun s => fX7_performMove 1 a s) (fm := fun s => fX8_joinsKept a s) (by rfl) (by rfl) m g (Or.inl rfl) ⟨st, c_move_out g c h, c, FR.rf⟩ (fun s ms => ⟨s, m_join_out g ms h, ms, FR.rf⟩)
theorem st18 : Step18 Inv := by
  rintro a st ⟨A, g, c, m⟩
  unfold fX7_leave fX8_leave
  have h6 := g.1.1
  rcases n_in a (A.1.1 16) (by omega) with ⟨k, hk, rfl⟩ | h
  · rcases bit_le (A.1.1 0) k with hb | hb
    · exact both_ans (S := []) (S' := []) (fc := fun s => fX7_performMove 2 (nI k) s) (fm := fun s => fX8_leavesKept (nI k) s) (by rfl) (by rfl) m g (Or.inr (Or.inl rfl)) ⟨st, c_move_no g c hk (Or.inr ⟨rfl, hb⟩), c, FR.rf⟩ (fun s ms => ⟨s, m_leave_no g ms hk hb, ms, FR.rf⟩)
    · exact both_ans (S := [(1, none), (15, none), (16, none)]) (S' := [(38, some 32), (52, none), (40, none)]) (fc := fun s => fX7_performMove 2 (nI k) s) (fm := fun s => fX8_leavesKept (nI k) s) (by rfl) (by rfl) m (Gd_mv g (show 2 < 4 by omega) hk) (Or.inr (Or.inr ⟨_, pc_lt, rfl⟩)) (c_move_do g c hk (Or.inr ⟨rfl, hb⟩)) (fun s ms => m_leave_do g ms hk hb)
  · exact both_ans (S := []) (S' := []) (fc := fun s => fX7_performMove 2 a s) (fm := fun s => fX8_leavesKept a s) (by rfl) (by rfl) m g (Or.inl rfl) ⟨st, c_move_out g c h, c, FR.rf⟩ (fun s ms => ⟨s, m_leave_out g ms h, ms, FR.rf⟩)
/-! rounds -/
def psX (x : Rg) (b a r : Nat) : Rg := upR (upR (upR x 0 b) 1 a) 2 r
theorem psX_1 {x : Rg} {b a r i : Nat} : (psX x b a r).1 i = if i = 2 then r else if i = 1 then a else if i = 0 then b else x.1 i := rfl
theorem sx_psX {x : Rg} {b a r : Nat} : sx (psX x b a r) = sx x := by
  unfold psX
  rw [sx_up (by omega), sx_up (by omega), sx_up (by omega)]
theorem Gd_psX {x : Rg} {b a r : Nat} (g : GdR x) (h1 : b < 2 ^ x.1 16) (h2 : a ≤ 5) (h3 : r ≤ 999) : GdR (psX x b a r) := by
  obtain ⟨g1, g2, g3, g4, g5, g6, g7, g8, g9, g10, g11, g12⟩ := g
  refine ⟨by simpa [psX_1] using g1, by simpa [psX_1] using h1, by simpa [psX_1] using g3, by simpa [psX_1] using h3, by simpa [psX_1] using h2, by simpa [psX_1] using g6, by simpa [psX_1] using g7, by simpa [psX_1] using g8, by simpa [psX_1] using g9, fun j hj => ?_, fun j hj => ?_, fun j hj => ?_⟩
  · rw [psX_1, if_neg (by omega), if_neg (by omega), if_neg (by omega)]; exact g10 j hj
  · rw [psX_1, if_neg (by omega), if_neg (by omega), if_neg (by omega)]; exact g11 j hj
  · rw [psX_1, if_neg (by omega), if_neg (by omega), if_neg (by omega)] at hj; rw [psX_1, if_neg (by omega), if_neg (by omega), if_neg (by omega)]; exact g12 j hj
theorem GdP_psX {x : Rg} {b a r : Nat} {ps : Ps} (g : GdP x ps) : GdP (psX x b a r) ps := GdP_up (by omega) (GdP_up (by omega) (GdP_up (by omega) g))
theorem settle_ok {st : St} {b a : Nat} (hb : b < 64) (ha : a ≤ 5) : fX4_settle (nI (b * 6 + a)) st = some (pI (pI st 1 5 (nI b)) 5 1 (nI a)) := by
  unfold fX4_settle
  rw [show (6 : Int32) = nI 6 from rfl, n_div (by omega) (by omega), n_rem (by omega) (by omega), show (b * 6 + a) / 6 = b by omega, show (b * 6 + a) % 6 = a by omega]
theorem every_ok {st : St} {x : Rg} (g : GdR x) (c : CRg st 1 x) : fX4_everyone st = nI (2 ^ x.1 16 - 1) := by
  unfold fX4_everyone; rw [c.1.1, all6 _ (by have := g.1; omega)]
theorem p64 {n : Nat} (h : n ≤ 6) : 2 ^ n ≤ 64 := by
  have : 2 ^ n ≤ 2 ^ 6 := Nat.pow_le_pow_right (by decide) h
  omega
theorem p1 {n : Nat} : 1 ≤ 2 ^ n := Nat.one_le_two_pow
def pssA (A : All) : All := sX (sP A (psK A.1 3 A.2.2.2.2.1)) (psX A.1 (2 ^ A.1.1 16 - 1) 0 (A.1.1 2 + 1))
theorem Gd_pss {A : All} (g : Gd A) (h : A.1.1 2 < 999) : Gd (pssA A) :=
  ⟨Gd_psX g.1 (by have := p1 (n := A.1.1 16); omega) (by omega) (by omega), g.2.1, g.2.2.1, GdP_psX (GdP_K g.1 g.2.2.2.1 (by omega)), g.2.2.2.2⟩
theorem c_pass_no {st : St} {A : All} (g : Gd A) (c : CV st A) (h : A.1.1 2 = 999) : fX7_performRound st = some (-3, st) := by
  unfold fX7_performRound
  rw [show sI st 5 0 = nI (A.1.1 2) from c.2.1.1.2.1.1, h, if_neg (by decide)]
theorem c_pass_do {st : St} {A : All} (g : Gd A) (c : CV st A) (h : A.1.1 2 < 999) : ∃ u, fX7_performRound st = some (nI (A.1.1 2 + 1), u) ∧ CV u (pssA A) ∧ FR [(1, none), (5, none), (15, none), (16, none)] st u := by
  obtain ⟨u, e1, c1, f1⟩ := c_keep g c (show 3 < 4 by omega)
  have c1r : CRg u 1 A.1 := c1.2.1.1
  have h64 := p64 g.1.1
  have h1 := p1 (n := A.1.1 16)
  have f2 : FR [(1, none), (5, none)] u (pI (pI (pI u 1 5 (nI (2 ^ A.1.1 16 - 1))) 5 1 (nI 0)) 5 0 (nI (A.1.1 2 + 1))) := FR.pI (by rfl) (FR.pI (by rfl) (FR.pI (by rfl) FR.rf))
  refine ⟨_, ?_, ?_, FR.trans (FR.mono (by rfl) f1) (FR.mono (by rfl) f2)⟩
  · unfold fX7_performRound
    rw [show sI st 5 0 = nI (A.1.1 2) from c.2.1.1.2.1.1, if_pos (by rw [show (999 : Int32) = nI 999 from rfl, n_lt (by omega) (by omega)]; exact h), show (3 : Int32) = nI 3 from rfl, e1, Option.bind_some, every_ok g.1 c1r, show nI (2 ^ A.1.1 16 - 1) * (6 : Int32) = nI ((2 ^ A.1.1 16 - 1) * 6 + 0) from n_mul _ 6, settle_ok (by omega) (by omega), Option.bind_some]
    simp only [sI_pI, and_self, if_true, show ¬ ((5 : Nat) = 1) by omega, show ¬ ((0 : Nat) = 1) by omega, false_and, and_false, if_false, show sI u 5 0 = nI (A.1.1 2) from c1r.2.1.1, n_p1]
  · exact CV_keep (A := sP A (psK A.1 3 A.2.2.2.2.1)) (S := [(1, none), (5, none)]) (by rfl) f2 c1 (CRg_2 (CRg_1 (CRg_0 c1r))) (by rw [psX_1, if_neg (by omega), if_neg (by omega), if_neg (by omega)]; rfl) rfl sx_psX (CP_fr (by rfl) f2 c1.2.2.2.2.2.1)
theorem m_pass_no {st : St} {A : All} (g : Gd A) (m : MV st A) (h : A.1.1 2 = 999) : fX8_passesKept st = some (-3, st) := by
  unfold fX8_passesKept
  rw [m.2.1.k (by omega), h, if_pos (by decide)]
theorem m_pass_do {st : St} {A : All} (g : Gd A) (m : MV st A) (h : A.1.1 2 < 999) : ∃ u, fX8_passesKept st = some (nI (A.1.1 2 + 1), u) ∧ MV u (pssA A) ∧ FR [(38, some 32), (52, none), (40, none)] st u := by
  obtain ⟨u, e1, m1, f1⟩ := m_keep g m (show 3 < 4 by omega)
  have m1r : MRg u 40 0 A.1 := m1.2.1
  have f2 : FR [(40, none)] u (pI (pI (pI u 40 0 (nI (2 ^ A.1.1 16 - 1))) 40 1 (nI 0)) 40 2 (nI (A.1.1 2 + 1))) := FR.pI (by rfl) (FR.pI (by rfl) (FR.pI (by rfl) FR.rf))
  refine ⟨_, ?_, MV_ring (S := [(40, none)]) (by rfl) f2 m1 (MRg_up (by omega) (MRg_up (by omega) (MRg_up (by omega) m1r))), FR.trans (FR.mono (by rfl) f1) (FR.mono (by rfl) f2)⟩
  unfold fX8_passesKept fX8_roundPasses fX8_allChildren
  have h6 := g.1.1
  rw [m.2.1.k (by omega), if_neg (by rw [show (999 : Int32) = nI 999 from rfl, n_eq (by omega) (by omega)]; omega), show (3 : Int32) = nI 3 from rfl, e1, Option.bind_some, Option.bind_some, m1r.k (by omega), all6 _ (by omega)]
  simp only [sI_pI, and_self, if_true, show ¬ ((2 : Nat) = 1) by omega, show ¬ ((2 : Nat) = 0) by omega, and_false, if_false, m1r.k (show 2 < 19 by omega), n_p1]
  rfl
theorem st19 : Step19 Inv := by
  rintro st ⟨A, g, c, m⟩
  unfold fX7_pass fX8_pass
  have h9 := g.1.2.2.2.1
  by_cases h : A.1.1 2 = 999
  · exact both_ans (S := []) (S' := []) (fc := fun s => fX7_performRound s) (fm := fun s => fX8_passesKept s) (by rfl) (by rfl) m g (Or.inr (Or.inl rfl)) ⟨st, c_pass_no g c h, c, FR.rf⟩ (fun s ms => ⟨s, m_pass_no g ms h, ms, FR.rf⟩)
  · exact both_ans (S := [(1, none), (5, none), (15, none), (16, none)]) (S' := [(38, some 32), (52, none), (40, none)]) (fc := fun s => fX7_performRound s) (fm := fun s => fX8_passesKept s) (by rfl) (by rfl) m (Gd_pss g (by omega)) (Or.inr (Or.inr ⟨A.1.1 2 + 1, by omega, rfl⟩)) (c_pass_do g c (by omega)) (fun s ms => m_pass_do g ms (by omega))
/-! undoing -/
theorem st20 : Step20 Inv := by
  rintro st ⟨A, g, c, m⟩
  unfold fX7_undo fX8_undo fX2_takeBack
  have cp := c.2.2.2.2.2.1
  have gp := g.2.2.2.1
  have g16 := gp.1
  rw [cp.1]
  by_cases h0 : A.2.2.2.2.1.1 = 0
  · rw [h0, if_pos (by rfl), Option.bind_some]
    obtain ⟨u, e1, c1, f1⟩ := c_refused R3 c
    have m1 := MV_c (S := [(0, none), (35, none)]) (by rfl) f1 m
    obtain ⟨v, e2, m2, f2⟩ := m_refuses R3 m1
    refine ⟨-3, u, v, ?_, ?_, _, Gd_sc g, CV_m (S := [(38, none), (39, none)]) (by rfl) f2 c1, m2⟩
    · rw [if_pos rfl, e1]; rfl
    · rw [m1.2.2.2.2.2.1.1, h0, if_pos (by rfl)]; exact e2
  · obtain ⟨n, hn⟩ : ∃ n, A.2.2.2.2.1.1 = n + 1 := ⟨A.2.2.2.2.1.1 - 1, by omega⟩
    have hn16 : n < 16 := by omega
    have nz : ¬ nI (n + 1) = 0 := by rw [show (0 : Int32) = nI 0 from rfl, n_eq (by omega) (by omega)]; omega
    obtain ⟨hb, ha, hr, hd⟩ := gp.2 n (by omega)
    have cpn := cp.2 n (by omega)
    generalize hq : A.2.2.2.2.1.2 n = q at *
    obtain ⟨b, a, r, kd⟩ := q
    simp only at hb ha hr hd cpn
    have h64 := p64 g.1.1
    rw [hn, if_neg nz, n_pred]
    simp only [sI_pI, and_self, if_true, n_ixb (show n < 2147483648 by omega), hn16, decide_true, chk_t, n_toNat (show n < 2147483648 by omega), show ¬ ((16 : Nat) = 15) by omega, false_and, if_false, show sI st 16 n = nI ((r * 384 + (b * 6 + a)) * 4 + kd) from cpn]
    have e4 : nI ((r * 384 + (b * 6 + a)) * 4 + kd) / 4 = nI (r * 384 + (b * 6 + a)) := by rw [show (4 : Int32) = nI 4 from rfl, n_div (by omega) (by omega)]; congr 1; omega
    have e5 : jrem (nI (r * 384 + (b * 6 + a))) 384 = nI (b * 6 + a) := by rw [show (384 : Int32) = nI 384 from rfl, n_rem (by omega) (by omega)]; congr 1; omega
    have e6 : nI (r * 384 + (b * 6 + a)) / 384 = nI r := by rw [show (384 : Int32) = nI 384 from rfl, n_div (by omega) (by omega)]; congr 1; omega
    have e7 : jrem (nI ((r * 384 + (b * 6 + a)) * 4 + kd)) 4 = nI kd := by rw [show (4 : Int32) = nI 4 from rfl, n_rem (by omega) (by omega)]; congr 1; omega
    rw [e4, e5, e6, e7, settle_ok (by omega) ha, Option.bind_some, Option.bind_some]
    have nm : ¬ nI kd = -1 := by
      have : kd = 0 ∨ kd = 1 ∨ kd = 2 ∨ kd = 3 := by omega
      rcases this with rfl | rfl | rfl | rfl <;> decide
    have f1 : FR [(1, none), (5, none), (15, none)] st (pI (pI (pI (pI st 15 1 (nI n)) 1 5 (nI b)) 5 1 (nI a)) 5 0 (nI r)) := FR.pI (by rfl) (FR.pI (by rfl) (FR.pI (by rfl) (FR.pI (by rfl) FR.rf)))
    have fc : FR [(15, none)] st (pI st 15 1 (nI n)) := FR.pI (by rfl) FR.rf
    have cpu : CP (pI (pI (pI (pI st 15 1 (nI n)) 1 5 (nI b)) 5 1 (nI a)) 5 0 (nI r)) 15 (n, A.2.2.2.2.1.2) := by
      refine ⟨by simp [sI_pI], fun j hj => ?_⟩
      have hj' : j < n := hj
      simp only [sI_pI, show ¬ ((15 + 1 : Nat) = 5) by omega, show ¬ ((15 + 1 : Nat) = 1) by omega, show ¬ ((15 + 1 : Nat) = 15) by omega, false_and, if_false]
      exact cp.2 j (by omega)
    have c1 := CV_keep (S := [(1, none), (5, none), (15, none)]) (x := psX A.1 b a r) (by rfl) f1 c (CRg_2 (CRg_1 (CRg_0 (CRg_fr (by rfl) fc c.2.1.1)))) (by rw [psX_1, if_neg (by omega), if_neg (by omega), if_neg (by omega)]) rfl sx_psX cpu
    obtain ⟨u3, e3, c3, f3⟩ := c_settled (r := nI kd) c1
    have m3 : MV u3 A := MV_c (S := [(0, none), (35, none)]) (by rfl) f3 (MV_c (S := [(1, none), (5, none), (15, none)]) (by rfl) f1 m)
    have mp := m3.2.2.2.2.2.1
    obtain ⟨o1, o2, o3, o4⟩ := mp.2 n (by omega)
    rw [hq] at o1 o2 o3 o4
    have one : ∀ (k i : Nat) (s : St), i < 3 → fX8_undo_b33 (k + 1) (nI (4 * n)) (nI i) s = fX8_undo_b33 k (nI (4 * n)) (nI (i + 1)) (pI s 40 i (sI s 52 (4 * n + i))) := by
      intro k i s hi
      rw [fX8_undo_b33, if_neg (by rw [show (3 : Int32) = nI 3 from rfl, n_le (by omega) (by omega)]; omega), n_add, n_ixb (by omega), n_ixb (by omega), decide_eq_true (show i < 5627 by omega), decide_eq_true (show 4 * n + i < 64 by omega), chk_t, chk_t, n_toNat (by omega), n_toNat (by omega), n_p1]
    have f4 : FR [(38, some 32)] u3 (pI u3 38 32 (nI n)) := FR.pI (by rfl) FR.rf
    have f5 : FR [(40, none)] (pI u3 38 32 (nI n)) (pI (pI (pI (pI u3 38 32 (nI n)) 40 0 (nI b)) 40 1 (nI a)) 40 2 (nI r)) := FR.pI (by rfl) (FR.pI (by rfl) (FR.pI (by rfl) FR.rf))
    have m4 := MV_P (S := [(38, some 32)]) (ps := (n, A.2.2.2.2.1.2)) (by rfl) f4 m3 ⟨by rw [sI_pI, if_pos ⟨rfl, rfl⟩], fun j hj => by
      have hj' : j < n := hj
      simp only [sI_pI, show ¬ ((52 : Nat) = 38) by omega, false_and, if_false]
      exact mp.2 j (by omega)⟩
    have m5 := MV_ring (S := [(40, none)]) (x := psX A.1 b a r) (by rfl) f5 m4 (MRg_up (by omega) (MRg_up (by omega) (MRg_up (by omega) m4.2.1)))
    obtain ⟨v, e8, m6, f6⟩ := m_good (r := nI kd) m5
    have gg : Gd (psX A.1 b a r, A.2.1, A.2.2.1, A.2.2.2.1, (n, A.2.2.2.2.1.2), A.2.2.2.2.2) :=
      ⟨Gd_psX g.1 hb ha hr, g.2.1, g.2.2.1, GdP_psX ⟨by show n ≤ 16; omega, fun j hj => gp.2 j (by have hj' : j < n := hj; omega)⟩, g.2.2.2.2⟩
    refine ⟨nI kd, u3, v, by rw [if_neg nm]; exact e3, ?_, _, Gd_sc gg, CV_m (S := [(38, none), (39, none)]) (by rfl) f6 (CV_m (S := [(40, none)]) (by rfl) f5 (CV_m (S := [(38, some 32)]) (by rfl) f4 c3)), m6⟩
    rw [mp.1, hn, if_neg nz, n_pred, show (4 : Int32) * nI n = nI (4 * n) from n_mul 4 n, show FU = 99996 + 1 + 1 + 1 + 1 from rfl, show (0 : Int32) = nI 0 from rfl, one _ 0 _ (by omega), one _ 1 _ (by omega), one _ 2 _ (by omega), fX8_undo_b33, if_pos (by decide)]
    simp only [sI_pI, show ¬ ((52 : Nat) = 38) by omega, show ¬ ((52 : Nat) = 40) by omega, false_and, if_false, o1, o2, o3, o4, show nI (4 * n) + 3 = nI (4 * n + 3) from n_add _ 3, n_ixb (show 4 * n + 3 < 2147483648 by omega), show 4 * n + 3 < 64 by omega, decide_true, chk_t, n_toNat (show 4 * n + 3 < 2147483648 by omega), Nat.add_zero]
    exact e8
