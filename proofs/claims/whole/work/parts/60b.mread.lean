/-! the model's reader: parts, tests -/
section
variable {n : Nat} {b : Nat → Int32} {o : Bool}
theorem partR {rc : TG0} {d : Nat} {sub : Option Ps1} (hn : n ≤ 400) (hd : d ≤ 8) (hsub : ∀ s, sub = some s → d < 8 ∧ RP n b o (rc.2.2.2.1 (nI (d + 1))) s) (hnone : sub = none → d = 8) : RP n b o (fX8_readPart_g rc (nI d)) (rPart o (tkT n b) sub) := by
  refine ⟨fun k l st r => ?_, fun st v h => ?_⟩
  · obtain ⟨c1, c2, c3, c4⟩ := rd_code r
    have hT := r.2.1.2.2 k
    have s91 : fX8_sign (91 : Int32) = nI 191 := by decide
    have s93 : fX8_sign (93 : Int32) = nI 193 := by decide
    unfold fX8_readPart_g rPart
    rw [r.f, if_neg one0, c1, chk_t, chk_t, c2, c3, s91]
    have e191 : (nI ((tkT n b).2.1 k) = nI 191) = ((tkT n b).2.1 k = 191) := n_eq (by omega) (by omega)
    have e50 : (nI ((tkT n b).2.1 k) = (50 : Int32)) = ((tkT n b).2.1 k = 50) := n_eq (b := 50) (by omega) (by omega)
    have e1000 : (nI ((tkT n b).2.2 k) ≤ (1000 : Int32)) = ((tkT n b).2.2 k ≤ 1000) := n_le (b := 1000) (by omega) (by omega)
    have e8 : (nI d = (8 : Int32)) = (d = 8) := n_eq (b := 8) (by omega) (by omega)
    simp only [e191, e50, e1000, e8]
    by_cases q : (tkT n b).2.1 k = 191
    · rw [if_pos q, if_pos q]
      have hk : k < (tkT n b).1 := in_T r.2.1 (by omega)
      cases sub with
      | none =>
        rw [if_pos (hnone rfl)]
        obtain ⟨u, f1, f2, f3⟩ := rd_faults hn r
        rw [f1, Option.bind_some]
        unfold fX8_readPart_b37
        rw [f2.f, if_pos rfl]
        exact Or.inl ⟨k, u, rfl, rfl, f2, f3⟩
      | some s =>
        obtain ⟨h8, hs⟩ := hsub s rfl
        rw [if_neg (show ¬ d = 8 by omega)]
        unfold fX8_readPart_b37
        rw [r.f, if_neg one0, r.2.2.1, n_p1, n_p1, s93]
        obtain ⟨rn, fn⟩ := rd_next r hk
        rcases brackR (W := fun D => D) hn hs (show 193 ≠ 0 by decide) (by decide) rn with ⟨j, u, w1, w2, w3, w4⟩ | ⟨k', l', D, u, w1, w2, w3, w4⟩
        · exact Or.inl ⟨j, u, w1, w2, w3, fn.trans w4⟩
        · exact Or.inr ⟨k', l', D, u, w1, w2, w3, fn.trans w4⟩
    · rw [if_neg q, if_neg q]
      -- a leaf of a word or of a number
      have leafy : ∀ E : Dn, k < (tkT n b).1 → ¬ (o = true ∧ ((tkT n b).2.1 k = 13 ∨ (tkT n b).2.1 k = 19)) → (∃ j u, (if 50 ≤ l then .inl k else .inr (k + 1, l + 1, E) : PR) = .inl j ∧ fX8_readPart_b111 rc (nI ((tkT n b).2.1 k)) st = some u ∧ Bad u (plT n b j) ∧ FR S_rd st u) ∨ ∃ k' l' D u, (if 50 ≤ l then .inl k else .inr (k + 1, l + 1, E) : PR) = .inr (k', l', D) ∧ fX8_readPart_b111 rc (nI ((tkT n b).2.1 k)) st = some u ∧ RdM u n b o k' l' ∧ FR S_rd st u := by
        intro E hk hno
        have hfin : ∀ u : St, sI u 38 10 = b2i o → (if (sI u 38 10) = 0 then (some u) else (if nI ((tkT n b).2.1 k) = (13 : Int32) then (fX8_readPart_b134 rc u) else (if nI ((tkT n b).2.1 k) = (19 : Int32) then (fX8_readPart_b134 rc u) else (some u)))) = some u := by
          intro u hu
          rw [hu]
          cases o with
          | false => rw [if_pos (by rfl)]
          | true =>
            have e13 : (nI ((tkT n b).2.1 k) = (13 : Int32)) = ((tkT n b).2.1 k = 13) := n_eq (b := 13) (by omega) (by omega)
            have e19 : (nI ((tkT n b).2.1 k) = (19 : Int32)) = ((tkT n b).2.1 k = 19) := n_eq (b := 19) (by omega) (by omega)
            simp only [e13, e19]
            rw [if_neg (by decide), if_neg (fun e => hno ⟨rfl, Or.inl e⟩), if_neg (fun e => hno ⟨rfl, Or.inr e⟩)]
        unfold fX8_readPart_b111
        rcases leafR hn r hk with ⟨g1, u, g2, g3, g4, g5⟩ | ⟨g1, u, g2, g3, g4⟩
        · rw [if_pos g1, g2, Option.bind_some, hfin u g5]
          exact Or.inl ⟨k, u, rfl, rfl, g3, g4⟩
        · rw [if_neg (by omega), g2, Option.bind_some, hfin u g3.2.2.2.2.2.2.2.1]
          exact Or.inr ⟨k + 1, l + 1, E, u, rfl, rfl, g3, g4⟩
      have faulty : (∃ j u, (.inl k : PR) = .inl j ∧ fX8_readPart_b143 rc st = some u ∧ Bad u (plT n b j) ∧ FR S_rd st u) ∨ ∃ k' l' D u, (.inl k : PR) = .inr (k', l', D) ∧ fX8_readPart_b143 rc st = some u ∧ RdM u n b o k' l' ∧ FR S_rd st u := by
        obtain ⟨u, f1, f2, f3⟩ := rd_faults hn r
        exact Or.inl ⟨k, u, rfl, f1, f2, f3⟩
      unfold rLeaf
      by_cases q50 : (tkT n b).2.1 k = 50 ∧ (tkT n b).2.2 k ≤ 1000
      · rw [if_pos q50.1, if_pos q50.2, if_pos q50]
        exact leafy _ (in_T r.2.1 (by omega)) (by omega)
      · have hb95 : (if (tkT n b).2.1 k = 50 then (if (tkT n b).2.2 k ≤ 1000 then fX8_readPart_b111 rc (nI ((tkT n b).2.1 k)) st else fX8_readPart_b95 rc (nI ((tkT n b).2.1 k)) st) else fX8_readPart_b95 rc (nI ((tkT n b).2.1 k)) st) = fX8_readPart_b95 rc (nI ((tkT n b).2.1 k)) st := by
          by_cases z : (tkT n b).2.1 k = 50
          · rw [if_pos z, if_neg (fun h => q50 ⟨z, h⟩)]
          · rw [if_neg z]
        rw [hb95, if_neg q50]
        unfold fX8_readPart_b95
        rw [r.2.2.2.2.2.2.2.2.1, r.2.2.2.2.2.2.2.2.2]
        cases ho : o with
        | false =>
          simp only [Bool.false_eq_true, if_false, true_and, false_and]
          have e9 : (nI ((tkT n b).2.1 k) < (9 : Int32)) = ((tkT n b).2.1 k < 9) := n_lt (b := 9) (by omega) (by omega)
          have e15 : ((15 : Int32) < nI ((tkT n b).2.1 k)) = (15 < (tkT n b).2.1 k) := n_lt (a := 15) (by omega) (by omega)
          simp only [e9, e15]
          subst ho
          by_cases z : 9 ≤ (tkT n b).2.1 k ∧ (tkT n b).2.1 k ≤ 15
          · rw [if_pos z, if_neg (show ¬ (tkT n b).2.1 k < 9 by omega), if_neg (show ¬ 15 < (tkT n b).2.1 k by omega)]
            exact leafy _ (in_T r.2.1 (by omega)) (fun h => by cases h.1)
          · rw [if_neg z]
            by_cases z1 : (tkT n b).2.1 k < 9
            · rw [if_pos z1]; exact faulty
            · rw [if_neg z1, if_pos (by omega)]; exact faulty
        | true =>
          simp only [if_true, true_and, Bool.true_eq_false, false_and, if_false]
          have e9 : (nI ((tkT n b).2.1 k) < (13 : Int32)) = ((tkT n b).2.1 k < 13) := n_lt (b := 13) (by omega) (by omega)
          have e15 : ((19 : Int32) < nI ((tkT n b).2.1 k)) = (19 < (tkT n b).2.1 k) := n_lt (a := 19) (by omega) (by omega)
          simp only [e9, e15]
          subst ho
          by_cases z : 13 ≤ (tkT n b).2.1 k ∧ (tkT n b).2.1 k ≤ 19
          · have hk : k < (tkT n b).1 := in_T r.2.1 (by omega)
            rw [if_pos z, if_neg (show ¬ (tkT n b).2.1 k < 13 by omega), if_neg (show ¬ 19 < (tkT n b).2.1 k by omega)]
            by_cases z2 : (tkT n b).2.1 k = 13 ∨ (tkT n b).2.1 k = 19
            · simp only [z2, if_true]
              have hif : ∀ u : St, sI u 38 10 = b2i true → (if (sI u 38 10) = 0 then (some u) else (if nI ((tkT n b).2.1 k) = (13 : Int32) then (fX8_readPart_b134 rc u) else (if nI ((tkT n b).2.1 k) = (19 : Int32) then (fX8_readPart_b134 rc u) else (some u)))) = fX8_mustNumber 0 5 u := by
                intro u hu
                have e13 : (nI ((tkT n b).2.1 k) = (13 : Int32)) = ((tkT n b).2.1 k = 13) := n_eq (b := 13) (by omega) (by omega)
                have e19 : (nI ((tkT n b).2.1 k) = (19 : Int32)) = ((tkT n b).2.1 k = 19) := n_eq (b := 19) (by omega) (by omega)
                have e134 : fX8_readPart_b134 rc u = fX8_mustNumber 0 5 u := by
                  unfold fX8_readPart_b134
                  cases fX8_mustNumber 0 5 u <;> rfl
                simp only [e13, e19, hu]
                rw [if_neg (by decide), e134]
                rcases z2 with z2 | z2
                · rw [if_pos z2]
                · rw [if_neg (by omega), if_pos z2]
              unfold fX8_readPart_b111
              rcases leafR hn r hk with ⟨g1, u, g2, g3, g4, g5⟩ | ⟨g1, u, g2, g3, g4⟩
              · rw [if_pos g1, g2, Option.bind_some, hif u g5, bad_num g3]
                exact Or.inl ⟨k, u, rfl, rfl, g3, g4⟩
              · rw [if_neg (show ¬ 50 ≤ l by omega), g2, Option.bind_some, hif u g3.2.2.2.2.2.2.2.1, show (0 : Int32) = nI 0 from rfl, show (5 : Int32) = nI 5 from rfl]
                rcases numR (lo := 0) (hi := 5) hn g3 (by omega) (by omega) with ⟨y1, w, y2, y3, y4⟩ | ⟨y1, w, y2, y3, y4⟩
                · rw [if_neg (fun h => y1 ⟨h.1, by omega, by omega⟩), y2]
                  exact Or.inl ⟨k + 1, w, rfl, rfl, y3, g4.trans y4⟩
                · rw [if_pos ⟨y1.1, by omega⟩, y2]
                  exact Or.inr ⟨k + 2, l + 1, _, w, rfl, rfl, y3, g4.trans y4⟩
            · simp only [z2, if_false]
              exact leafy _ hk (fun h => z2 h.2)
          · rw [if_neg z]
            by_cases z1 : (tkT n b).2.1 k < 13
            · rw [if_pos z1]; exact faulty
            · rw [if_neg z1, if_pos (by omega)]; exact faulty
  · unfold fX8_readPart_g
    rw [h.f, if_pos rfl]
theorem sumDR (hn : n ≤ 400) (t : TkE (tkT n b)) : ∀ (m L : Nat), m ≤ 8 → RP n b o ((LG0 (3 * m + 3 + L)).2.2.2.1 (nI (8 - m))) (rSumD o (tkT n b) m) := by
  intro m
  induction m with
  | zero =>
    intro L _
    rw [show 3 * 0 + 3 + L = ((L + 1) + 1) + 1 by omega]
    have hp : RP n b o (fX8_readPart_g (LG0 L) (nI 8)) (rPart o (tkT n b) none) := partR hn (by omega) (fun s h => by cases h) (fun _ => rfl)
    have hm := mo_part (o := o) (sub := none) t (fun s h => by cases h)
    exact sumR (rc := LG0 (L + 1 + 1)) (termR (rc := LG0 (L + 1)) hp hm.q) (mo_term hm).q
  | succ m ih =>
    intro L hm8
    rw [show 3 * (m + 1) + 3 + L = (((3 * m + 3 + L) + 1) + 1) + 1 by omega]
    have hs := ih L (by omega)
    rw [show 8 - m = (8 - (m + 1)) + 1 by omega] at hs
    have hp : RP n b o (fX8_readPart_g (LG0 (3 * m + 3 + L)) (nI (8 - (m + 1)))) (rPart o (tkT n b) (some (rSumD o (tkT n b) m))) := partR hn (by omega) (fun s h => by rw [← Option.some.inj h]; exact ⟨by omega, hs⟩) (fun h => by cases h)
    have hmm := mo_part (o := o) (sub := some (rSumD o (tkT n b) m)) t (fun s h => by rw [← Option.some.inj h]; exact mo_sumD t m)
    exact sumR (rc := LG0 (3 * m + 3 + L + 1 + 1)) (termR (rc := LG0 (3 * m + 3 + L + 1)) hp hmm.q) (mo_term hmm).q
theorem posR {rc : TG0} {d : Nat} {sum : Ps1} {sub : Option Ps1} {g : Bool} (hn : n ≤ 400) (hd : d ≤ 8) (hs : RP n b o (rc.2.2.2.1 (nI d)) sum) (hsub : ∀ s, sub = some s → d < 8 ∧ RP n b o (rc.1 (nI (d + 1))) s) (hnone : sub = none → d = 8) (m : Nat) : RP n b o (fun st => fX8_readPlain_b2 rc (m + 1) (nI d) 0 st) (rPos (tkT n b) sum sub g) := by
  have s40 : fX8_sign (40 : Int32) = nI 140 := by decide
  have s41 : fX8_sign (41 : Int32) = nI 141 := by decide
  have s60 : fX8_sign (60 : Int32) = nI 160 := by decide
  have s61 : fX8_sign (61 : Int32) = nI 161 := by decide
  have s62 : fX8_sign (62 : Int32) = nI 162 := by decide
  refine ⟨fun k l st r => ?_, fun st v h => ?_⟩
  · obtain ⟨c1, c2, c3, c4⟩ := rd_code r
    have hT := r.2.1.2.2 k
    have e140 : (nI ((tkT n b).2.1 k) = nI 140) = ((tkT n b).2.1 k = 140) := n_eq (by omega) (by omega)
    have e8 : (nI d = (8 : Int32)) = (d = 8) := n_eq (b := 8) (by omega) (by omega)
    show (∃ j u, _ ∧ fX8_readPlain_b2 rc (m + 1) (nI d) 0 st = some u ∧ _) ∨ ∃ k' l' D u, _ ∧ fX8_readPlain_b2 rc (m + 1) (nI d) 0 st = some u ∧ _
    rw [fX8_readPlain_b2, if_pos rfl, r.f, if_neg one0, c1, chk_t, c2, s40, s60, s61, s62]
    simp only [e140, e8]
    unfold rPos
    by_cases q : (tkT n b).2.1 k = 140
    · rw [if_pos q, if_pos q]
      have hk : k < (tkT n b).1 := in_T r.2.1 (by omega)
      cases sub with
      | none =>
        rw [if_pos (hnone rfl)]
        obtain ⟨u, f1, f2, f3⟩ := rd_faults hn r
        rw [f1, Option.bind_some]
        unfold fX8_readPlain_b53
        rw [f2.f, if_pos rfl]
        exact Or.inl ⟨k, u, rfl, rfl, f2, f3⟩
      | some s =>
        obtain ⟨h8, hs'⟩ := hsub s rfl
        rw [if_neg (show ¬ d = 8 by omega)]
        unfold fX8_readPlain_b53
        rw [r.f, if_neg one0, r.2.2.1, n_p1, n_p1, s41]
        obtain ⟨rn, fn⟩ := rd_next r hk
        rcases brackR (W := fun D => dNot g D) hn hs' (show 141 ≠ 0 by decide) (by decide) rn with ⟨j, u, w1, w2, w3, w4⟩ | ⟨k', l', D, u, w1, w2, w3, w4⟩
        · exact Or.inl ⟨j, u, w1, w2, w3, fn.trans w4⟩
        · exact Or.inr ⟨k', l', D, u, w1, w2, w3, fn.trans w4⟩
    · rw [if_neg q, if_neg q]
      unfold fX8_readPlain_b128
      rcases hs.1 k l st r with ⟨j, w, q1, q2, q3, q4⟩ | ⟨k1, l1, D1, w, q1, q2, q3, q4⟩
      · refine Or.inl ⟨j, w, by rw [q1]; rfl, ?_, q3, q4⟩
        rw [q2, Option.bind_some, bad_takes q3, Option.bind_some, if_pos rfl, bad_takes q3, Option.bind_some, if_pos rfl, bad_must q3, Option.bind_some]
        exact hs.2 w _ q3
      · rw [q1, q2, Option.bind_some]
        -- the second sum
        have sec : ∀ (c : Nat) (x : St), (tkT n b).2.1 k1 = c → (c = 160 ∨ c = 161 ∨ c = 162) → RdM x n b o (k1 + 1) l1 → FR S_rd w x → (∃ j u, (if c = 160 ∨ c = 161 ∨ c = 162 then rThen (sum (k1 + 1) l1) (fun k2 l2 D2 => .inr (k2, l2, dNot g (dJn c D1 D2))) else .inl k1 : PR) = .inl j ∧ rc.2.2.2.1 (nI d) x = some u ∧ Bad u (plT n b j) ∧ FR S_rd st u) ∨ ∃ k' l' D u, (if c = 160 ∨ c = 161 ∨ c = 162 then rThen (sum (k1 + 1) l1) (fun k2 l2 D2 => .inr (k2, l2, dNot g (dJn c D1 D2))) else .inl k1 : PR) = .inr (k', l', D) ∧ rc.2.2.2.1 (nI d) x = some u ∧ RdM u n b o k' l' ∧ FR S_rd st u := by
          intro c x hc hcs rx fx
          rw [if_pos hcs]
          rcases hs.1 (k1 + 1) l1 x rx with ⟨j, y, p1, p2, p3, p4⟩ | ⟨k2, l2, D2, y, p1, p2, p3, p4⟩
          · exact Or.inl ⟨j, y, by rw [p1]; rfl, p2, p3, q4.trans (fx.trans p4)⟩
          · exact Or.inr ⟨k2, l2, _, y, by rw [p1]; rfl, p2, p3, q4.trans (fx.trans p4)⟩
        show (∃ j u, (if (tkT n b).2.1 k1 = 160 ∨ (tkT n b).2.1 k1 = 161 ∨ (tkT n b).2.1 k1 = 162 then _ else _ : PR) = .inl j ∧ _) ∨ ∃ k' l' D u, (if (tkT n b).2.1 k1 = 160 ∨ (tkT n b).2.1 k1 = 161 ∨ (tkT n b).2.1 k1 = 162 then _ else _ : PR) = .inr (k', l', D) ∧ _
        by_cases z0 : (tkT n b).2.1 k1 = 160
        · obtain ⟨t1, t2, t3⟩ := takesY q3 z0 (by decide) (by decide)
          rw [t1, Option.bind_some, if_neg one0]
          exact sec _ _ rfl (Or.inl z0) t2 t3
        · rw [takesN q3 z0 (by decide) (by decide), Option.bind_some, if_pos rfl]
          by_cases z2 : (tkT n b).2.1 k1 = 162
          · obtain ⟨t1, t2, t3⟩ := takesY q3 z2 (by decide) (by decide)
            rw [t1, Option.bind_some, if_neg one0]
            exact sec _ _ rfl (Or.inr (Or.inr z2)) t2 t3
          · rw [takesN q3 z2 (by decide) (by decide), Option.bind_some, if_pos rfl]
            unfold fX8_must
            by_cases z1 : (tkT n b).2.1 k1 = 161
            · obtain ⟨t1, t2, t3⟩ := takesY q3 z1 (by decide) (by decide)
              rw [t1, Option.bind_some, if_neg one0, Option.bind_some]
              exact sec _ _ rfl (Or.inr (Or.inl z1)) t2 t3
            · obtain ⟨u, f1, f2, f3⟩ := rd_faults hn q3
              rw [takesN q3 z1 (by decide) (by decide), Option.bind_some, if_pos rfl, f1, Option.bind_some, if_neg (by omega)]
              exact Or.inl ⟨k1, u, rfl, hs.2 u _ f2, f2, q4.trans f3⟩
  · show fX8_readPlain_b2 rc (m + 1) (nI d) 0 st = some st
    rw [fX8_readPlain_b2, if_pos rfl, h.f, if_pos rfl]
theorem plainR {rc : TG0} {d : Nat} {sum : Ps1} {sub : Option Ps1} (hn : n ≤ 400) (hd : d ≤ 8) (hs : RP n b o (rc.2.2.2.1 (nI d)) sum) (hsub : ∀ s, sub = some s → d < 8 ∧ RP n b o (rc.1 (nI (d + 1))) s) (hnone : sub = none → d = 8) : RP n b o (fX8_readPlain_g rc (nI d)) (rPlain (tkT n b) sum sub) := by
  have bad : ∀ (m : Nat) (st : St) (v : Nat), Bad st v → fX8_readPlain_b2 rc (m + 2) (nI d) 1 st = some st := by
    intro m st v h
    rw [fX8_readPlain_b2, if_neg one0, bad_takes h, Option.bind_some]
    exact (posR (g := false) hn hd hs hsub hnone m).2 st v h
  have loop : ∀ (F m k l : Nat) (g : Bool) (st : St), 400 ≤ F + k → F + 1 < m → RdM st n b o k l → (∃ j u, rPos (tkT n b) sum sub (rNots (tkT n b) F k g).2 (rNots (tkT n b) F k g).1 l = .inl j ∧ fX8_readPlain_b2 rc m (nI d) 1 st = some u ∧ Bad u (plT n b j) ∧ FR S_rd st u) ∨ ∃ k' l' D u, rPos (tkT n b) sum sub (rNots (tkT n b) F k g).2 (rNots (tkT n b) F k g).1 l = .inr (k', l', D) ∧ fX8_readPlain_b2 rc m (nI d) 1 st = some u ∧ RdM u n b o k' l' ∧ FR S_rd st u := by
    intro F
    induction F with
    | zero =>
      intro m k l g st h4 hm r
      obtain ⟨m, rfl⟩ : ∃ j, m = j + 2 := ⟨m - 2, by omega⟩
      have hk0 : (tkT n b).2.1 k = 0 := r.2.1.2.1 k (by have := r.2.1.1; omega)
      rw [fX8_readPlain_b2, if_neg one0, show (8 : Int32) = nI 8 from rfl, takesN r (by omega) (by decide) (by decide), Option.bind_some]
      exact (posR (g := g) hn hd hs hsub hnone m).1 k l st r
    | succ F ih =>
      intro m k l g st h4 hm r
      obtain ⟨m, rfl⟩ : ∃ j, m = j + 2 := ⟨m - 2, by omega⟩
      unfold rNots
      rw [fX8_readPlain_b2, if_neg one0, show (8 : Int32) = nI 8 from rfl]
      by_cases q : (tkT n b).2.1 k = 8
      · obtain ⟨t1, t2, t3⟩ := takesY r q (by decide) (by decide)
        rw [t1, Option.bind_some]
        simp only [q, if_true]
        rcases ih (m + 1) (k + 1) l (!g) _ (by omega) (by omega) t2 with ⟨j, u, w1, w2, w3, w4⟩ | ⟨k', l', D, u, w1, w2, w3, w4⟩
        · exact Or.inl ⟨j, u, w1, w2, w3, t3.trans w4⟩
        · exact Or.inr ⟨k', l', D, u, w1, w2, w3, t3.trans w4⟩
      · rw [takesN r q (by decide) (by decide), Option.bind_some]
        simp only [q, if_false]
        exact (posR (g := g) hn hd hs hsub hnone m).1 k l st r
  refine ⟨fun k l st r => ?_, fun st v h => ?_⟩
  · exact loop 400 FU k l false st (by omega) (by unfold FU; omega) r
  · exact bad 99998 st v h
theorem testDR (hn : n ≤ 400) (t : TkE (tkT n b)) : ∀ (m L : Nat), m ≤ 8 → RP n b o ((LG0 (3 * m + 6 + L)).1 (nI (8 - m))) (rTestD o (tkT n b) m) := by
  intro m
  induction m with
  | zero =>
    intro L _
    rw [show 3 * 0 + 6 + L = (((3 + L) + 1) + 1) + 1 by omega]
    have hs := sumDR (o := o) hn t 0 L (by omega)
    have hp : RP n b o (fX8_readPlain_g (LG0 (3 + L)) (nI 8)) (rPlain (tkT n b) (rSumD o (tkT n b) 0) none) := plainR hn (by omega) (by simpa using hs) (fun s h => by cases h) (fun _ => rfl)
    have hm := mo_plain (sub := none) t (mo_sumD (o := o) t 0) (fun s h => by cases h)
    exact testR (rc := LG0 (3 + L + 1 + 1)) (bothR (rc := LG0 (3 + L + 1)) hp hm) (mo_both hm)
  | succ m ih =>
    intro L hm8
    rw [show 3 * (m + 1) + 6 + L = (((3 * m + 6 + L) + 1) + 1) + 1 by omega]
    have hs := sumDR (o := o) hn t (m + 1) L (by omega)
    rw [show 3 * (m + 1) + 3 + L = 3 * m + 6 + L by omega] at hs
    have ht := ih L (by omega)
    rw [show 8 - m = (8 - (m + 1)) + 1 by omega] at ht
    have hp : RP n b o (fX8_readPlain_g (LG0 (3 * m + 6 + L)) (nI (8 - (m + 1)))) (rPlain (tkT n b) (rSumD o (tkT n b) (m + 1)) (some (rTestD o (tkT n b) m))) := plainR hn (by omega) hs (fun s h => by rw [← Option.some.inj h]; exact ⟨by omega, ht⟩) (fun h => by cases h)
    have hm := mo_plain (sub := some (rTestD o (tkT n b) m)) t (mo_sumD (o := o) t (m + 1)) (fun s h => by rw [← Option.some.inj h]; exact mo_testD t m)
    exact testR (rc := LG0 (3 * m + 6 + L + 1 + 1)) (bothR (rc := LG0 (3 * m + 6 + L + 1)) hp hm) (mo_both hm)
theorem sum8R (hn : n ≤ 400) (t : TkE (tkT n b)) : RP n b o (fX8_readSum 0) (rSumD o (tkT n b) 8) := by
  have := sumDR (o := o) hn t 8 73 (by omega)
  exact this
theorem test8R (hn : n ≤ 400) (t : TkE (tkT n b)) : RP n b o (fX8_readTest 0) (rTestD o (tkT n b) 8) := by
  have := testDR (o := o) hn t 8 70 (by omega)
  exact this
end
