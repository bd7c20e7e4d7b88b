/-! orders: the class runs them -/
abbrev S_lo : List (Nat × Option Nat) := [(9, none), (10, none), (11, none), (12, none), (13, none), (14, none), (17, none), (18, none), (36, none), (37, none)]
theorem CV_lo {S : List (Nat × Option Nat)} {st u : St} {A : All} (hS : subS S S_lo = true) (h0 : FR S st u) (m : CV st A) : CV u A := by
  have f1 : FR S_lo st u := FR.mono hS h0
  exact ⟨WT_low (by rfl) f1 m.1, ⟨CRg_fr (by rfl) f1 m.2.1.1, Lws_fr (by rfl) f1 m.2.1.2⟩, CI_fr (by rfl) f1 m.2.2.1, CS_fr (by rfl) f1 m.2.2.2.1, CT_fr (by rfl) f1 m.2.2.2.2.1, CP_fr (by rfl) f1 m.2.2.2.2.2.1, CD_fr (by rfl) f1 m.2.2.2.2.2.2.1, CVo_fr (by rfl) (by rfl) f1 m.2.2.2.2.2.2.2⟩
theorem scr9_fr {S : List (Nat × Option Nat)} {st u : St} (e : (hasA S 9 || hasA S 10 || hasA S 11 || hasA S 12 || hasA S 13 || hasA S 14) = false) (h : FR S st u) : scr u 9 = scr st 9 := by
  simp only [Bool.or_eq_false_iff] at e
  funext i j
  unfold scr
  by_cases c : i < 6
  · rw [if_pos c, if_pos c]
    have hcs : i = 0 ∨ i = 1 ∨ i = 2 ∨ i = 3 ∨ i = 4 ∨ i = 5 := by omega
    rcases hcs with rfl | rfl | rfl | rfl | rfl | rfl
    · exact h.i (hasA_in e.1.1.1.1.1)
    · exact h.i (hasA_in e.1.1.1.1.2)
    · exact h.i (hasA_in e.1.1.1.2)
    · exact h.i (hasA_in e.1.1.2)
    · exact h.i (hasA_in e.1.2)
    · exact h.i (hasA_in e.2)
  · rw [if_neg c, if_neg c, (h.1.2.1 (9 + 5)).2]
theorem gath_loop {A : All} {dn : Nat} {ls : Int32} (g : Gd A) : ∀ (d m i : Nat) (st : St), i + d = 6 → d < m → CV st A → ∃ u, fX7_gatherFacts_b62 m (nI i) st = some u ∧ (∀ j, sI u 36 j = if 5 + i ≤ j ∧ j < 11 ∨ 11 + i ≤ j ∧ j < 17 then oF A dn ls j else sI st 36 j) ∧ FR [(36, none)] st u := by
  intro d
  induction d with
  | zero =>
    intro m i st h1 h2 c
    obtain ⟨m, rfl⟩ : ∃ j, m = j + 1 := ⟨m - 1, by omega⟩
    rw [fX7_gatherFacts_b62, if_pos (show (6 : Int32) ≤ nI i by rw [show i = 6 by omega]; decide)]
    exact ⟨st, rfl, fun j => by rw [if_neg (by omega)], FR.rf⟩
  | succ d ih =>
    intro m i st h1 h2 c
    obtain ⟨m, rfl⟩ : ∃ j, m = j + 1 := ⟨m - 1, by omega⟩
    have hn := g.1.1
    have e6 : ((6 : Int32) ≤ nI i) = (6 ≤ i) := n_le (a := 6) (by omega) (by omega)
    have e4 : (sI st 1 4 ≤ nI i) = (A.1.1 16 ≤ i) := by rw [c.2.1.1.1.1]; exact n_le (by omega) (by omega)
    have a5 : (5 : Int32) + nI i = nI (5 + i) := n_add 5 i
    have a11 : (11 : Int32) + nI i = nI (11 + i) := n_add 11 i
    rw [fX7_gatherFacts_b62]
    simp only [e6, e4]
    rw [if_neg (by omega)]
    have key : ∀ v w : Int32, v = oF A dn ls (5 + i) → w = oF A dn ls (11 + i) → ∃ u, fX7_gatherFacts_b62 m (nI i + 1) (pI (pI st 36 (5 + i) v) 36 (11 + i) w) = some u ∧ (∀ j, sI u 36 j = if 5 + i ≤ j ∧ j < 11 ∨ 11 + i ≤ j ∧ j < 17 then oF A dn ls j else sI st 36 j) ∧ FR [(36, none)] st u := by
      intro v w hv hw
      have f1 : FR [(36, none)] st (pI (pI st 36 (5 + i) v) 36 (11 + i) w) := FR.pI (by rfl) (FR.pI (by rfl) FR.rf)
      obtain ⟨u, u1, u2, u3⟩ := ih m (i + 1) _ (by omega) (by omega) (CV_lo (by rfl) f1 c)
      refine ⟨u, by rw [n_p1]; exact u1, fun j => ?_, f1.trans u3⟩
      rw [u2]
      by_cases c1 : 5 + (i + 1) ≤ j ∧ j < 11 ∨ 11 + (i + 1) ≤ j ∧ j < 17
      · rw [if_pos c1, if_pos (by omega)]
      · rw [if_neg c1, sI_pI]
        by_cases c2 : j = 11 + i
        · rw [if_pos ⟨rfl, c2⟩, if_pos (by omega), hw, c2]
        · rw [if_neg (by omega), sI_pI]
          by_cases c3 : j = 5 + i
          · rw [if_pos ⟨rfl, c3⟩, if_pos (by omega), hv, c3]
          · rw [if_neg (by omega), if_neg (by omega)]
    by_cases q : A.1.1 16 ≤ i
    · rw [if_pos q]
      unfold fX7_gatherFacts_b84 fX7_gatherFacts_b113 fX7_gatherFacts_b140
      rw [if_pos rfl, a5, a11, n_ixb (by omega), decide_eq_true (show 5 + i < 17 by omega), chk_t, if_pos rfl, n_ixb (by omega), decide_eq_true (show 11 + i < 17 by omega), chk_t, n_toNat (by omega), n_toNat (by omega)]
      exact key _ _ (by rw [oF5 (by omega), if_neg (by omega)]) (by rw [oF11 (by omega), if_neg (by omega)])
    · rw [if_neg q]
      unfold fX7_gatherFacts_b84 fX7_gatherFacts_b113 fX7_gatherFacts_b140
      rw [if_neg one0, a5, a11, n_ixb (by omega), decide_eq_true (show 5 + i < 17 by omega), chk_t, if_neg one0, n_ixb (show i < 2147483648 by omega), decide_eq_true (show i < 6 by omega), chk_t, n_ixb (by omega), decide_eq_true (show 11 + i < 17 by omega), chk_t, n_toNat (show 5 + i < 2147483648 by omega), n_toNat (show 11 + i < 2147483648 by omega), n_toNat (show i < 2147483648 by omega)]
      have hb : jshr (sI st 1 5) (nI i) &&& 1 = nI (bit (A.1.1 0) i) := by
        rw [c.2.1.1.1.2.1]; exact shr64 _ (b_lt64 g.1) i (by omega)
      have h2' : ∀ v, sI (pI st 36 (5 + i) v) 2 i = nI (A.1.1 (3 + i)) := fun v => by rw [sI_pI, if_neg (by omega)]; exact c.2.1.1.2.2.1 i (by omega)
      rw [h2', hb]
      exact key _ _ (by rw [oF5 (by omega), if_pos (by omega)]) (by rw [oF11 (by omega), if_pos (by omega)])
theorem gather7 {st : St} {A : All} {dn : Nat} {ls : Int32} (g : Gd A) (c : CV st A) : ∃ u, fX7_gatherFacts (nI dn) ls st = some u ∧ (∀ w, w < 17 → sI u 36 w = oF A dn ls w) ∧ FR [(36, none)] st u := by
  unfold fX7_gatherFacts
  have b5 : sI (pI (pI (pI st 36 0 (sI st 5 0)) 36 1 (nI dn)) 36 2 ls) 1 5 = sI st 1 5 := by simp [sI_pI]
  rw [b5, bcC g c]
  have b51 : sI (pI (pI (pI (pI st 36 0 (sI st 5 0)) 36 1 (nI dn)) 36 2 ls) 36 3 (nI (pc (A.1.1 0)))) 5 1 = nI (A.1.1 1) := by
    rw [sI_pI, if_neg (by omega), sI_pI, if_neg (by omega), sI_pI, if_neg (by omega), sI_pI, if_neg (by omega)]
    exact c.2.1.1.2.1.2.1
  rw [b51, c.2.1.1.2.1.1]
  have f1 : FR [(36, none)] st (pI (pI (pI (pI (pI st 36 0 (nI (A.1.1 2))) 36 1 (nI dn)) 36 2 ls) 36 3 (nI (pc (A.1.1 0)))) 36 4 (nI (A.1.1 1))) := FR.pI (by rfl) (FR.pI (by rfl) (FR.pI (by rfl) (FR.pI (by rfl) (FR.pI (by rfl) FR.rf))))
  obtain ⟨u, u1, u2, u3⟩ := gath_loop (dn := dn) (ls := ls) g 6 FU 0 _ (by omega) (by unfold FU; omega) (CV_lo (by rfl) f1 c)
  refine ⟨u, u1, fun w hw => ?_, f1.trans u3⟩
  rw [u2]
  by_cases q : 5 + 0 ≤ w ∧ w < 11 ∨ 11 + 0 ≤ w ∧ w < 17
  · rw [if_pos q]
  · rw [if_neg q]
    have hc : w = 0 ∨ w = 1 ∨ w = 2 ∨ w = 3 ∨ w = 4 := by omega
    rcases hc with rfl | rfl | rfl | rfl | rfl <;> simp [sI_pI, oF]
theorem ev17 {s : St} {sz : Nat} {f : Nat → Int32} {v : Int32} {D : Dn} (w : Wc 17 f s 9 36 37 sz) (h : Cod 17 (scr s 9) sz v D) : ∃ u, fX5_worth 9 v 36 37 s = some ((D f).getD BRK, u) ∧ FR [(37, none)] s u := by
  obtain ⟨p, p1, rfl, h1, h2, h3, h4⟩ := h
  obtain ⟨u, e, _⟩ := seg_run h4 h3 w (fun j _ _ => (scr_i (by omega)).symm) h2 h1 (by omega)
  exact ⟨u, e, mX5_worth e⟩
theorem cod_0 {C : Nat → Nat → Int32} {nf sz : Nat} {v : Int32} {D : Dn} (h : Cod nf C sz v D) (hs : sz ≤ 826) : ¬ v = 0 := by
  obtain ⟨p, p1, rfl, h1, h2, h3, h4⟩ := h
  have := h4.1
  rw [show (0 : Int32) = nI 0 from rfl, n_eq (by omega) (by omega)]; omega
abbrev S_oc : List (Nat × Option Nat) := [(1, none), (5, none), (15, none), (16, none), (19, none), (20, none), (21, none), (22, none), (23, none), (24, none), (36, none), (37, none)]
def failC (l2 l3 l4 l7 : Int32) (u : St) : Option (Int32 × St) := (fX4_settle ((l2 * (6 : Int32)) + l3) u).bind (fun q6 => (fX2_becomes 15 17 (pI q6 5 0 l4)).bind (fun q9 => some ((-3 : Int32), pI q9 0 13 l7)))
theorem b40C {w : St} {i kd : Nat} {a : Int32} (hi : i < 12) (hk : kd < 4) (h : sI w 10 i = nI kd) : fX7_runClause_b40 (nI i) a w = actC kd a w := by
  unfold fX7_runClause_b40 actC
  have e0 : (nI kd = (0 : Int32)) = (kd = 0) := n_eq (b := 0) (by omega) (by omega)
  have e1 : (nI kd = (1 : Int32)) = (kd = 1) := n_eq (b := 1) (by omega) (by omega)
  have e2 : (nI kd = (2 : Int32)) = (kd = 2) := n_eq (b := 2) (by omega) (by omega)
  rw [n_ixb (by omega), decide_eq_true hi, chk_t, n_toNat (by omega), h]
  simp only [e0, e1, e2, chk_t]
  have hc : kd = 0 ∨ kd = 1 ∨ kd = 2 ∨ kd = 3 := by omega
  rcases hc with rfl | rfl | rfl | rfl <;> rfl
theorem ge0 {v : Int32} (h : v < 0) : ¬ (0 : Int32) ≤ v := by
  rw [Int32.lt_iff_toInt_lt] at h
  rw [Int32.le_iff_toInt_le]; omega
theorem n_ge0 {v : Nat} (h : v < 2147483648) : (0 : Int32) ≤ nI v := by
  rw [show (0 : Int32) = nI 0 from rfl, n_le (by omega) h]; omega
/-- an order whose test is true -/
theorem b116C {A0 : All} {w : St} {s : Os} {L : List Cls} {c : Cls} {i t n : Nat} {k49 : Int32 → Int32 → Int32 → Int32 → Int32 → Int32 → St → Option (Int32 × St)} {k61 : Int32 → Int32 → Int32 → Int32 → Int32 → Int32 → Int32 → St → Option (Int32 × St)} {l2 l3 l4 : Int32} (ok : OkS A0 s n) (hn : n < 1000000) (cv : CV w s.1) (im : Impl 17 (scr w 9) L) (hc : L[i]? = some c) (hf : ∀ j, j < 17 → sI w 36 j = oF s.1 s.2.1 s.2.2 j) (h1 : c.2.2.2 (oF s.1 s.2.1 s.2.2) = some 1) : match oneA c s with | none => ∃ u, fX7_runWhollyOrNot_b116 k49 k61 l2 l3 l4 (nI s.2.1) s.2.2 (nI i) (nI t) w = failC l2 l3 l4 (nI i) u ∧ CV u s.1 ∧ FR S_oc w u | some s' => ∃ u, fX7_runWhollyOrNot_b116 k49 k61 l2 l3 l4 (nI s.2.1) s.2.2 (nI i) (nI t) w = k61 l2 l3 l4 (nI s'.2.1) s'.2.2 (nI i) (nI (t + 1)) u ∧ CV u s'.1 ∧ FR S_oc w u := by
  obtain ⟨i1, i2, sz, cap, ku, i3, i4, i5, i6, i7, i8, i9, i10, i11, i12⟩ := im
  have hi : i < 12 := by have := (List.getElem?_eq_some_iff.mp hc).1; omega
  obtain ⟨m1, m2, m3, m4, m5, m6⟩ := i11 i c hc
  have hd := ok.2.2.1
  have hne := oF_ne (A := s.1) (dn := s.2.1) (ls := s.2.2) ok.1 (by omega) ok.2.2.2
  rw [scr_i (by omega)] at m1
  have e10 : sI w 10 i = nI c.1 := m1
  have wc : Wc 17 (oF s.1 s.2.1 s.2.2) w 9 36 37 sz := imp_wc i3 i4 i5 i6 i7 (cv.1.2.1 37 10 40 rfl).2 (cv.1.2.1 36 10 17 rfl).2 hf (by omega) (by omega) (by omega)
  have nd : ∀ x, c.2.2.1 (oF s.1 s.2.1 s.2.2) = some x → x ≠ BRK := fun x hx e => i12 c (List.mem_of_getElem? hc) _ hne (by rw [hx, e])
  -- what the class finds
  have run : (∃ u, fX7_runClause (nI i) w = some (-3, u) ∧ sumA c (oF s.1 s.2.1 s.2.2) = none ∧ FR [(37, none)] w u) ∨ ∃ a u, sumA c (oF s.1 s.2.1 s.2.2) = some a ∧ fX7_runClause (nI i) w = actC c.1 a u ∧ FR [(37, none)] w u := by
    unfold fX7_runClause
    rw [n_ixb (by omega), decide_eq_true hi, chk_t, n_toNat (by omega), chk_t]
    rw [scr_i (by omega)] at m5
    rcases m5 with ⟨q1, q2⟩ | ⟨q1, q2⟩
    · have k3 : c.1 = 3 := by
        unfold hasS at q1
        rw [if_neg (by decide)] at q1
        simpa using q1
      refine Or.inr ⟨0, w, by unfold sumA; rw [if_pos k3], ?_, FR.rf⟩
      rw [if_pos (show sI w 12 i = 0 from q2)]
      exact b40C hi m3 e10
    · have k3 : ¬ c.1 = 3 := by
        unfold hasS at q1
        rw [if_neg (by decide)] at q1
        simpa using q1
      have es : sumA c (oF s.1 s.2.1 s.2.2) = c.2.2.1 (oF s.1 s.2.1 s.2.2) := by unfold sumA; rw [if_neg k3]
      rw [if_neg (show ¬ sI w 12 i = 0 from cod_0 q2 i3)]
      obtain ⟨u, u1, u2⟩ := ev17 wc q2
      rw [show fX5_worth 9 (sI w 12 i) 36 37 w = _ from u1, Option.bind_some, es]
      cases hx : c.2.2.1 (oF s.1 s.2.1 s.2.2) with
      | none =>
        refine Or.inl ⟨u, ?_, rfl, u2⟩
        show (if BRK = -2000000000 then _ else _) = _
        rw [if_pos (by decide)]
      | some a =>
        refine Or.inr ⟨a, u, rfl, ?_, u2⟩
        show (if a = -2000000000 then _ else _) = _
        rw [if_neg (fun e => nd a hx (by rw [e]))]
        exact b40C hi m3 ((u2.i (hasA_in (by rfl))).trans e10)
  unfold oneA
  rw [if_pos h1]
  unfold fX7_runWhollyOrNot_b116
  rcases run with ⟨u, u1, u2, u3⟩ | ⟨a, w', a1, a2, a3⟩
  · rw [u2, u1]
    exact ⟨u, by rw [Option.bind_some, if_neg (show ¬ (0 : Int32) ≤ -3 by decide)]; rfl, CV_lo (by rfl) u3 cv, FR.mono (by rfl) u3⟩
  · rw [a1, a2]
    have cv' := CV_lo (by rfl) a3 cv
    have ac := act_c (a := a) ok.1 cv' m3
    simp only []
    cases hy : actA s.1 c.1 a with
    | none =>
      rw [hy] at ac
      obtain ⟨v, v1, v2⟩ := ac
      exact ⟨w', by rw [v1, Option.bind_some, if_neg (ge0 v2)]; rfl, cv', FR.mono (by rfl) a3⟩
    | some z =>
      obtain ⟨v, A'⟩ := z
      rw [hy] at ac
      obtain ⟨u, v1, v2, v3⟩ := ac
      obtain ⟨k1, k2, k3⟩ := act_sm ok.1 m3 hy
      refine ⟨u, ?_, v2, (FR.mono (by rfl) a3 : FR S_oc w w').trans (FR.mono (by rfl) v3)⟩
      have e10' : sI u 10 i = nI c.1 := by rw [v3.i (hasA_in (by rfl)), a3.i (hasA_in (by rfl))]; exact e10
      have e0 : (nI c.1 = (0 : Int32)) = (c.1 = 0) := n_eq (b := 0) (by omega) (by omega)
      rw [v1, Option.bind_some, if_pos (n_ge0 k3), n_ixb (by omega), decide_eq_true hi, chk_t, n_toNat (by omega)]
      simp only [e10', e0]
      unfold fX7_runWhollyOrNot_b191
      rw [n_p1, n_p1]
      by_cases q : c.1 = 0
      · rw [if_pos q, if_pos q]
      · rw [if_neg q, if_neg q]
