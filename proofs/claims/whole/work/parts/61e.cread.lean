/-! the class's reader: a clause from its head -/
section
variable {n : Nat} {b : Nat → Int32} {o : Bool}
theorem wh_head {o : Bool} {c : Nat} : whR (if o = true then 1 else 0) c = match rHead o c with | none => -1 | some kd => nI kd := by
  cases o with
  | false =>
    unfold rHead
    simp only [Bool.false_eq_true, if_false]
    show (if 1 ≤ c ∧ c ≤ 4 then nI (c - 1) else -1) = _
    by_cases q : 1 ≤ c ∧ c ≤ 4
    · rw [if_pos q, if_pos q]
    · rw [if_neg q, if_neg q]
  | true =>
    unfold rHead
    simp only [if_true]
    show (if 20 ≤ c ∧ c ≤ 23 then nI (c - 20) else -1) = _
    by_cases q : 20 ≤ c ∧ c ≤ 23
    · rw [if_pos q, if_pos q]
    · rw [if_neg q, if_neg q]
theorem head_lt {o : Bool} {c kd : Nat} (h : rHead o c = some kd) : kd < 4 ∧ c ≠ 0 := by
  unfold rHead at h
  split at h <;> split at h <;> first | (cases h; omega) | (cases h)
abbrev WH (u : St) (c kd ku : Nat) : St := pI (pI (pI (pI (pI (pI u 10 c (nI kd)) 9 7 (nI (ku ||| 2 ^ kd))) 11 c 1) 12 c 0) 13 c 0) 9 5 (nI (c + 1))
abbrev S_wh : List (Nat × Option Nat) := [(9, some 5), (9, some 7), (10, none), (11, none), (12, none), (13, none)]
theorem WH_fr {u : St} {c kd ku : Nat} : FR S_wh u (WH u c kd ku) := FR.pI (by rfl) (FR.pI (by rfl) (FR.pI (by rfl) (FR.pI (by rfl) (FR.pI (by rfl) (FR.pI (by rfl) FR.rf)))))
theorem b15C {st u : St} {c kd ku id : Nat} (hc : c < 12) (hkd : kd < 4) (e1 : fX3_which st id = some (nI kd)) (e2 : fX3_step st = some u) (h3 : sI u 7 3 = b2i (!o)) (h7 : sI u 9 7 = nI ku) : fX3_clause_b15 (nI c) id st = if hasS (nfo o) kd = true then fX3_clause_b114 (nI c) (WH u c kd ku) else fX3_clause_b148 (nI c) (WH u c kd ku) := by
  unfold fX3_clause_b15
  have hm : ¬ nI kd = (-1 : Int32) := by
    rw [show (-1 : Int32) = -1 from rfl]
    have : ∀ k, k < 4 → ¬ nI k = (-1 : Int32) := by decide
    exact this kd hkd
  have e7 : sI (pI u 10 c (nI kd)) 9 7 = nI ku := by rw [sI_pI, if_neg (by omega)]; exact h7
  rw [e1, Option.bind_some, if_neg hm, e2, Option.bind_some, n_ixb (by omega), decide_eq_true hc, chk_t, chk_t, chk_t, chk_t, n_toNat (by omega), e7, (shl4 kd hkd).1, n_or, n_p1]
  have ew : sI (WH u c kd ku) 7 3 = b2i (!o) := (WH_fr.i (by rfl)).trans h3
  rw [ew]
  have k3 : (nI kd = (3 : Int32)) = (kd = 3) := n_eq (b := 3) (by omega) (by omega)
  have k0 : (nI kd = (0 : Int32)) = (kd = 0) := n_eq (b := 0) (by omega) (by omega)
  simp only [k3, k0]
  cases o with
  | false =>
    rw [if_neg (show ¬ (b2i !false) = 0 by decide)]
    by_cases q : kd = 0
    · rw [if_pos q, if_pos (by unfold hasS nfo; simp [q])]
    · rw [if_neg q, if_neg (by unfold hasS nfo; simp [q])]
  | true =>
    rw [if_pos (show (b2i !true) = 0 by rfl)]
    by_cases q : kd = 3
    · rw [if_pos q, if_neg (by unfold hasS nfo; simp [q])]
    · rw [if_neg q, if_pos (by unfold hasS nfo; simp [q])]
theorem clauseC (hn : n ≤ 400) (t : TkE (tkT n b)) {st : St} {k l sz : Nat} {L : List Cls} (h : RA st n b o k l sz L) (hL : L.length < 12) : CL n b o st L (rClause o (tkT n b) k l) (fX3_clause (nI L.length) st) := by
  obtain ⟨r, _, h5, ⟨ku, hku, kuo⟩, hC, hN⟩ := h
  have hsz := r.2.2.2.2.2.2.2.2.2
  have e0 : fX3_clause (nI L.length) st = fX3_clause_b15 (nI L.length) (if o = true then 1 else 0) st := by
    unfold fX3_clause
    rw [r.2.2.2.2.2.2.1]
    cases o with
    | false => rw [if_neg (show ¬ (b2i !false) = 0 by decide)]; rfl
    | true => rw [if_pos (show (b2i !true) = 0 by rfl)]; rfl
  have ew : fX3_which st (if o = true then 1 else 0) = some (match rHead o ((tkT n b).2.1 k) with | none => -1 | some kd => nI kd) := by
    rw [r.which (by split <;> omega), wh_head]
  rw [e0, rClause_r]
  cases hh : rHead o ((tkT n b).2.1 k) with
  | none =>
    rw [hh] at ew
    unfold fX3_clause_b15
    rw [ew, Option.bind_some, if_pos rfl]
    exact Or.inl ⟨k, st, rfl, rfl, r.pl, FR.rf⟩
  | some kd =>
    rw [hh] at ew
    obtain ⟨hkd, hc0⟩ := head_lt hh
    obtain ⟨u, e1, r1, f1⟩ := r.step (in_T t hc0)
    rw [b15C hL hkd ew e1 r1.2.2.2.2.2.2.1 ((f1.i (by rfl)).trans hku)]
    have f2 : FR S_wh u (WH u L.length kd ku) := WH_fr
    have f12 : FR S_cl st (WH u L.length kd ku) := (FR.mono (by rfl) f1 : FR S_cl st u).trans (FR.mono (by rfl) f2)
    have r2 : RdC (WH u L.length kd ku) n b o (k + 1) l sz := by
      obtain ⟨a1, a2, a3, a4, a5, a6, a7, a8, a9, a10⟩ := r1
      exact ⟨a1.fr (by rfl) f2, a2, a3.fr (by rfl) f2, a4, (f2.i (by rfl)).trans a5, a6, (f2.i (by rfl)).trans a7, (f2.i (by rfl)).trans a8, a9, a10⟩
    have c5 : sI (WH u L.length kd ku) 9 5 = nI (L.length + 1) := by rw [sI_pI, if_pos ⟨rfl, rfl⟩]
    have c7 : sI (WH u L.length kd ku) 9 7 = nI (ku ||| 2 ^ kd) := by
      rw [sI_pI, if_neg (by omega), sI_pI, if_neg (by omega), sI_pI, if_neg (by omega), sI_pI, if_neg (by omega), sI_pI, if_pos ⟨rfl, rfl⟩]
    have c10 : sI (WH u L.length kd ku) 10 L.length = nI kd := by
      rw [sI_pI, if_neg (by omega), sI_pI, if_neg (by omega), sI_pI, if_neg (by omega), sI_pI, if_neg (by omega), sI_pI, if_neg (by omega), sI_pI, if_pos ⟨rfl, rfl⟩]
    have c11 : sI (WH u L.length kd ku) 11 L.length = 1 := by
      rw [sI_pI, if_neg (by omega), sI_pI, if_neg (by omega), sI_pI, if_neg (by omega), sI_pI, if_pos ⟨rfl, rfl⟩]
    have c12 : sI (WH u L.length kd ku) 12 L.length = 0 := by
      rw [sI_pI, if_neg (by omega), sI_pI, if_neg (by omega), sI_pI, if_pos ⟨rfl, rfl⟩]
    have c13 : sI (WH u L.length kd ku) 13 L.length = 0 := by
      rw [sI_pI, if_neg (by omega), sI_pI, if_pos ⟨rfl, rfl⟩]
    have c14 : ∀ j, sI (WH u L.length kd ku) 14 j = sI st 14 j := fun j => by rw [f2.i (hasA_in (by rfl)), f1.i (hasA_in (by rfl))]
    have cold : ∀ a i, 10 ≤ a → a ≤ 13 → i ≠ L.length → sI (WH u L.length kd ku) a i = sI st a i := by
      intro a i h1 h2 hi
      have : sI (WH u L.length kd ku) a i = sI u a i := by
        rw [sI_pI, if_neg (by omega), sI_pI, if_neg (by omega), sI_pI, if_neg (by omega), sI_pI, if_neg (by omega), sI_pI, if_neg (by omega), sI_pI, if_neg (by omega)]
      rw [this]
      have hcs : a = 10 ∨ a = 11 ∨ a = 12 ∨ a = 13 := by omega
      rcases hcs with rfl | rfl | rfl | rfl <;> exact f1.i (hasA_in (by rfl))
    generalize WH u L.length kd ku = W at *
    have hS : (if (if o = true then kd ≠ 3 else kd = 0) then rSumD o (tkT n b) 8 (k + 1) l else Sum.inr (k + 1, l, dNum 0)) = if hasS (nfo o) kd = true then rSumD o (tkT n b) 8 (k + 1) l else Sum.inr (k + 1, l, dNum 0) := by
      cases o with
      | false =>
        by_cases q : kd = 0
        · rw [if_pos (by simp [q]), if_pos (by unfold hasS nfo; simp [q])]
        · rw [if_neg (by simp [q]), if_neg (by unfold hasS nfo; simp [q])]
      | true =>
        by_cases q : kd = 3
        · rw [if_neg (by simp [q]), if_neg (by unfold hasS nfo; simp [q])]
        · rw [if_pos (by simp [q]), if_pos (by unfold hasS nfo; simp [q])]
    have kuo' : ∀ D, kuOK (ku ||| 2 ^ kd) (L ++ [(kd, 1, D, dNum 1)]) := fun D => kuOK_app kuo hkd rfl
    simp only []
    rw [show rSumC o (tkT n b) kd (k + 1) l = _ from hS]
    by_cases q : hasS (nfo o) kd = true
    · rw [if_pos q, if_pos q]
      unfold fX3_clause_b114
      rw [n_ixb (by omega), decide_eq_true hL, chk_t, n_toNat (by omega), r2.2.2.2.2.2.2.2.1]
      have f3 : FR [(12, none)] W (pI W 12 L.length (nI sz)) := FR.pI (by rfl) FR.rf
      have r3 : RdC (pI W 12 L.length (nI sz)) n b o (k + 1) l sz := by
        obtain ⟨a1, a2, a3, a4, a5, a6, a7, a8, a9, a10⟩ := r2
        exact ⟨a1.fr (by rfl) f3, a2, a3.fr (by rfl) f3, a4, (f3.i (by rfl)).trans a5, a6, (f3.i (by rfl)).trans a7, (f3.i (by rfl)).trans a8, a9, a10⟩
      have f13 : FR S_cl st (pI W 12 L.length (nI sz)) := f12.trans (FR.mono (by rfl) f3)
      rcases sum8X hn t (k + 1) l sz _ r3 with ⟨j, w, w1, w2, w3, w4⟩ | ⟨k', l', D, w, sz', w1, w2, w3, w4, w5, w6, w7⟩
      · rw [w1, w2, Option.bind_some, if_pos rfl]
        exact Or.inl ⟨j, w, rfl, rfl, w3, f13.trans (FR.mono (by rfl) w4)⟩
      · obtain ⟨p1, p2, p3⟩ := w3.put (v := 0) (by have := w4.1; omega)
        rw [w1, w2, Option.bind_some, if_neg one0, p1, Option.bind_some]
        simp only []
        have hlt := w4.1
        have fo : ∀ a i, (a = 10 ∨ a = 11 ∨ a = 13 ∨ a = 12 ∧ i ≠ L.length) → sI (P2 w sz' 0) a i = sI W a i := by
          intro a i ha
          rcases ha with rfl | rfl | rfl | ⟨rfl, hi⟩
          · rw [p3.i (hasA_in (by rfl)), w7.i (hasA_in (by rfl)), f3.i (hasA_in (by rfl))]
          · rw [p3.i (hasA_in (by rfl)), w7.i (hasA_in (by rfl)), f3.i (hasA_in (by rfl))]
          · rw [p3.i (hasA_in (by rfl)), w7.i (hasA_in (by rfl)), f3.i (hasA_in (by rfl))]
          · rw [p3.i (hasA_in (by rfl)), w7.i (hasA_in (by rfl)), sI_pI, if_neg (by omega)]
        have h12 : sI (P2 w sz' 0) 12 L.length = nI sz := by
          rw [p3.i (hasA_in (by rfl)), w7.i (hasA_in (by rfl)), sI_pI, if_pos ⟨rfl, rfl⟩]
        have h14 : ∀ j, j < sz → sI (P2 w sz' 0) 14 j = sI st 14 j := fun j hj => by
          rw [P2_c, if_neg (by omega), w5 j hj, f3.i (hasA_in (by rfl)), c14]
        have ha : HA (P2 w sz' 0) n b o k' l' (sz' + 1) L kd 1 D := by
          refine ⟨p2, hL, ?_, ⟨ku ||| 2 ^ kd, ?_, kuo' D⟩, fun i c hc => ?_, hN, (mo_sumD t 8 _ _ _ _ _ w1).2.2⟩
          · rw [p3.i (by rfl), w7.i (by rfl), f3.i (by rfl)]; exact c5
          · rw [p3.i (by rfl), w7.i (by rfl), f3.i (by rfl)]; exact c7
          · rcases app_get hc with ⟨g1, g2⟩ | ⟨g1, g2⟩
            · exact CIm_fr (by omega) (fun a h1 h2 => (fo a i (by omega)).trans (cold a i h1 h2 (by omega))) h14 (hC i c g2)
            · subst g1 g2
              refine ⟨?_, ?_, hkd, ⟨Nat.le_refl _, by show 1 ≤ 20; omega⟩, Or.inr ⟨q, sz, sz', ?_, r.2.2.2.2.2.2.2.2.1, by omega, ?_, ?_⟩, Or.inl ⟨?_, rfl⟩⟩
              · rw [scr_9 (by omega)]; exact (fo 10 _ (by omega)).trans c10
              · rw [scr_9 (by omega)]; exact (fo 11 _ (by omega)).trans c11
              · rw [scr_9 (by omega)]; exact h12
              · rw [scr_9 (by omega)]
                show sI (P2 w sz' 0) 14 sz' = 0
                rw [P2_c, if_pos rfl]
              · refine w4.eq (fun j h1 h2 => ?_)
                rw [scr_9 (by omega)]
                show sI (P2 w sz' 0) 14 j = sI w 14 j
                rw [P2_c, if_neg (by omega)]
              · rw [scr_9 (by omega)]; exact (fo 13 _ (by omega)).trans c13
        exact (tmsC hn t ha).fr ((f13.trans (FR.mono (by rfl) w7)).trans (FR.mono (by rfl) p3))
    · rw [if_neg q, if_neg q]
      simp only []
      have ha : HA W n b o (k + 1) l sz L kd 1 (dNum 0) := by
        refine ⟨r2, hL, c5, ⟨ku ||| 2 ^ kd, c7, kuo' _⟩, fun i c hc => ?_, hN, fun f _ e => ?_⟩
        · rcases app_get hc with ⟨g1, g2⟩ | ⟨g1, g2⟩
          · exact CIm_fr (Nat.le_refl _) (fun a h1 h2 => cold a i h1 h2 (by omega)) (fun j _ => c14 j) (hC i c g2)
          · subst g1 g2
            refine ⟨?_, ?_, hkd, ⟨Nat.le_refl _, by show 1 ≤ 20; omega⟩, Or.inl ⟨by simpa using q, ?_⟩, Or.inl ⟨?_, rfl⟩⟩
            · rw [scr_9 (by omega)]; exact c10
            · rw [scr_9 (by omega)]; exact c11
            · rw [scr_9 (by omega)]; exact c12
            · rw [scr_9 (by omega)]; exact c13
        · exact absurd (Option.some.inj e) (by decide)
      exact (tmsC hn t ha).fr f12
end
