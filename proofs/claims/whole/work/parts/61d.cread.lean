/-! the class's reader: clauses, texts -/
section
variable {n : Nat} {b : Nat → Int32} {o : Bool}
abbrev S_cl : List (Nat × Option Nat) := [(7, some 4), (7, some 5), (7, some 6), (7, some 7), (7, some 8), (9, some 5), (9, some 6), (9, some 7), (10, none), (11, none), (12, none), (13, none), (14, none)]
theorem scr_9 {st : St} {i j : Nat} (h : i < 6) : scr st 9 i j = sI st (9 + i) j := scr_i h
theorem Cod_fr {st u : St} {sz sz' : Nat} (hs : sz ≤ sz') (h5 : ∀ j, j < sz → sI u 14 j = sI st 14 j) (v : Int32) (D : Dn) (m : Cod (nfo o) (scr st 9) sz v D) : Cod (nfo o) (scr u 9) sz' v D := by
  obtain ⟨p, p1, e1, e2, e3, e4, e5⟩ := m
  refine ⟨p, p1, e1, e2, by omega, ?_, e5.eq (fun j h1 h2 => ?_)⟩
  · rw [scr_9 (by omega)]; rw [scr_9 (by omega)] at e4
    exact (h5 p1 e3).trans e4
  · rw [scr_9 (by omega), scr_9 (by omega)]; exact h5 j (by omega)
theorem CIm_fr {st u : St} {sz sz' i : Nat} {c : Cls} (hs : sz ≤ sz') (h : ∀ a, 10 ≤ a → a ≤ 13 → sI u a i = sI st a i) (h5 : ∀ j, j < sz → sI u 14 j = sI st 14 j) (m : CIm (nfo o) (scr st 9) sz i c) : CIm (nfo o) (scr u 9) sz' i c := by
  have cod := Cod_fr (o := o) hs h5
  obtain ⟨m1, m2, m3, m4, m5, m6⟩ := m
  have q1 : scr u 9 1 i = scr st 9 1 i := by rw [scr_9 (by omega), scr_9 (by omega)]; exact h 10 (by omega) (by omega)
  have q2 : scr u 9 2 i = scr st 9 2 i := by rw [scr_9 (by omega), scr_9 (by omega)]; exact h 11 (by omega) (by omega)
  have q3 : scr u 9 3 i = scr st 9 3 i := by rw [scr_9 (by omega), scr_9 (by omega)]; exact h 12 (by omega) (by omega)
  have q4 : scr u 9 4 i = scr st 9 4 i := by rw [scr_9 (by omega), scr_9 (by omega)]; exact h 13 (by omega) (by omega)
  refine ⟨by rw [q1]; exact m1, by rw [q2]; exact m2, m3, m4, ?_, ?_⟩
  · rw [q3]
    rcases m5 with m5 | ⟨m5, m6⟩
    · exact Or.inl m5
    · exact Or.inr ⟨m5, cod _ _ m6⟩
  · rw [q4]
    rcases m6 with m6 | m6
    · exact Or.inl m6
    · exact Or.inr (cod _ _ m6)
def kuOK (ku : Nat) (L : List Cls) : Prop := ku < 16 ∧ ∀ k, k < 4 → (bit ku k = 1 ↔ ∃ c ∈ L, c.1 = k)
theorem ku_or : ∀ ku, ku < 16 → ∀ v, v < 4 → ku ||| 2 ^ v < 16 ∧ ∀ k, k < 4 → bit (ku ||| 2 ^ v) k = if k = v then 1 else bit ku k := by decide +kernel
theorem kuOK_app {ku v : Nat} {L : List Cls} {c : Cls} (h : kuOK ku L) (hv : v < 4) (hc : c.1 = v) : kuOK (ku ||| 2 ^ v) (L ++ [c]) := by
  obtain ⟨h1, h2⟩ := ku_or ku h.1 v hv
  refine ⟨h1, fun k hk => ?_⟩
  rw [h2 k hk]
  by_cases e : k = v
  · rw [if_pos e]
    exact ⟨fun _ => ⟨c, by simp, by omega⟩, fun _ => rfl⟩
  · rw [if_neg e, h.2 k hk]
    constructor
    · rintro ⟨d, d1, d2⟩; exact ⟨d, by simp [d1], d2⟩
    · rintro ⟨d, d1, d2⟩
      rcases List.mem_append.mp d1 with q | q
      · exact ⟨d, q, d2⟩
      · simp at q; rw [q] at d2; omega
/-- clauses read -/
def RA (st : St) (n : Nat) (b : Nat → Int32) (o : Bool) (k l sz : Nat) (L : List Cls) : Prop := RdC st n b o k l sz ∧ L.length ≤ 12 ∧ sI st 9 5 = nI L.length ∧ (∃ ku, sI st 9 7 = nI ku ∧ kuOK ku L) ∧ (∀ (i : Nat) (c : Cls), L[i]? = some c → CIm (nfo o) (scr st 9) sz i c) ∧ ∀ c ∈ L, NmD (nfo o) c.2.2.1
def CL (n : Nat) (b : Nat → Int32) (o : Bool) (st : St) (L : List Cls) (z : Nat ⊕ (Nat × Nat × Cls)) (w : Option (Int32 × St)) : Prop := (∃ j u, z = .inl j ∧ w = some (0, u) ∧ sI u 7 6 = nI (plT n b j) ∧ FR S_cl st u) ∨ ∃ k' l' c u sz', z = .inr (k', l', c) ∧ w = some (1, u) ∧ RA u n b o k' l' sz' (L ++ [c]) ∧ FR S_cl st u
theorem CL.fr {st st' : St} {L : List Cls} {z : Nat ⊕ (Nat × Nat × Cls)} {w : Option (Int32 × St)} (f : FR S_cl st st') (h : CL n b o st' L z w) : CL n b o st L z w := by
  rcases h with ⟨j, u, h1, h2, h3, h4⟩ | ⟨k', l', c, u, sz', h1, h2, h3, h4⟩
  · exact Or.inl ⟨j, u, h1, h2, h3, f.trans h4⟩
  · exact Or.inr ⟨k', l', c, u, sz', h1, h2, h3, f.trans h4⟩
/-- a clause half read: its head, its sum -/
def HA (st : St) (n : Nat) (b : Nat → Int32) (o : Bool) (k l sz : Nat) (L : List Cls) (kd tm : Nat) (D : Dn) : Prop := RdC st n b o k l sz ∧ L.length < 12 ∧ sI st 9 5 = nI (L.length + 1) ∧ (∃ ku, sI st 9 7 = nI ku ∧ kuOK ku (L ++ [(kd, tm, D, dNum 1)])) ∧ (∀ (i : Nat) (c : Cls), (L ++ [(kd, tm, D, dNum 1)])[i]? = some c → CIm (nfo o) (scr st 9) sz i c) ∧ (∀ c ∈ L, NmD (nfo o) c.2.2.1) ∧ NmD (nfo o) D
theorem ku_cls {ku kd tm tm' : Nat} {L : List Cls} {D D' E E' : Dn} (h : kuOK ku (L ++ [(kd, tm, D, E)])) : kuOK ku (L ++ [(kd, tm', D', E')]) := by
  refine ⟨h.1, fun k hk => (h.2 k hk).trans ?_⟩
  constructor
  · rintro ⟨d, d1, d2⟩
    rcases List.mem_append.mp d1 with q | q
    · exact ⟨d, by simp [q], d2⟩
    · simp at q; rw [q] at d2; exact ⟨(kd, tm', D', E'), by simp, d2⟩
  · rintro ⟨d, d1, d2⟩
    rcases List.mem_append.mp d1 with q | q
    · exact ⟨d, by simp [q], d2⟩
    · simp at q; rw [q] at d2; exact ⟨(kd, tm, D, E), by simp, d2⟩
theorem app_get {α : Type} {L : List α} {x c : α} {i : Nat} (h : (L ++ [x])[i]? = some c) : (i < L.length ∧ L[i]? = some c) ∨ (i = L.length ∧ c = x) := by
  by_cases q : i < L.length
  · rw [List.getElem?_append_left q] at h; exact Or.inl ⟨q, h⟩
  · have := (List.getElem?_eq_some_iff.mp h).1
    rw [List.length_append] at this
    simp at this
    have e : i = L.length := by omega
    subst e
    rw [List.getElem?_append_right (Nat.le_refl _), Nat.sub_self] at h
    exact Or.inr ⟨rfl, (Option.some.inj h).symm⟩
theorem app_last {α : Type} {L : List α} {x : α} : (L ++ [x])[L.length]? = some x := by
  rw [List.getElem?_append_right (Nat.le_refl _), Nat.sub_self]; rfl
theorem app_old {α : Type} {L : List α} {x c : α} {i : Nat} (h : L[i]? = some c) : (L ++ [x])[i]? = some c := by
  rw [List.getElem?_append_left (List.getElem?_eq_some_iff.mp h).1]; exact h
/-- the test at a clause's end -/
theorem ifC (hn : n ≤ 400) (t : TkE (tkT n b)) {st : St} {k l sz kd tm : Nat} {L : List Cls} {D : Dn} (h : HA st n b o k l sz L kd tm D) : CL n b o st L (match rIf o (tkT n b) k l with | .inl j => .inl j | .inr (k3, l3, E) => .inr (k3, l3, kd, tm, D, E)) (fX3_clause_b212 (nI L.length) st) := by
  obtain ⟨r, hL, h5, ⟨ku, hku, kuo⟩, hC, hN, hD⟩ := h
  have hsz := r.2.2.2.2.2.2.2.2.2
  unfold fX3_clause_b212 rIf
  rw [r.which (by omega), Option.bind_some]
  by_cases q : (tkT n b).2.1 k = 5
  · have hk : k < (tkT n b).1 := in_T r.2.1 (by omega)
    rw [show whR 5 ((tkT n b).2.1 k) = 0 by rw [q]; rfl, if_pos rfl, if_pos q]
    obtain ⟨u, e1, r1, f1⟩ := r.step hk
    rw [e1, Option.bind_some, n_ixb (by omega), decide_eq_true hL, chk_t, n_toNat (by omega), r1.2.2.2.2.2.2.2.1]
    have f2 : FR [(13, none)] u (pI u 13 L.length (nI sz)) := FR.pI (by rfl) FR.rf
    have r2 : RdC (pI u 13 L.length (nI sz)) n b o (k + 1) l sz := by
      obtain ⟨a1, a2, a3, a4, a5, a6, a7, a8, a9, a10⟩ := r1
      exact ⟨a1.fr (by rfl) f2, a2, a3.fr (by rfl) f2, a4, (f2.i (by rfl)).trans a5, a6, (f2.i (by rfl)).trans a7, (f2.i (by rfl)).trans a8, a9, a10⟩
    rcases testX hn t (k + 1) l sz _ r2 with ⟨j, w, w1, w2, w3, w4⟩ | ⟨k', l', E, w, sz', w1, w2, w3, w4, w5, w6, w7⟩
    · refine Or.inl ⟨j, w, by rw [w1], ?_, w3, ((FR.mono (by rfl) f1 : FR S_cl st u).trans (FR.mono (by rfl) f2)).trans (FR.mono (by rfl) w4)⟩
      rw [w2, Option.bind_some, if_pos rfl]
    · obtain ⟨p1, p2, p3⟩ := w3.put (v := 0) (by have := w4.1; omega)
      have fall : FR S_cl st (P2 w sz' 0) := (((FR.mono (by rfl) f1 : FR S_cl st u).trans (FR.mono (by rfl) f2)).trans (FR.mono (by rfl) w7)).trans (FR.mono (by rfl) p3)
      rw [w2, Option.bind_some, if_neg one0, p1, Option.bind_some]
      have h1213 : ∀ a i, (10 ≤ a ∧ a ≤ 12 ∨ a = 13 ∧ i ≠ L.length) → sI (P2 w sz' 0) a i = sI st a i := by
        intro a i ha
        have e1 : sI (P2 w sz' 0) a i = sI (pI u 13 L.length (nI sz)) a i := by
          rcases ha with ⟨h1, h2⟩ | ⟨h1, _⟩
          · have hcs : a = 10 ∨ a = 11 ∨ a = 12 := by omega
            rcases hcs with rfl | rfl | rfl <;> rw [p3.i (hasA_in (by rfl)), w7.i (hasA_in (by rfl))]
          · subst h1; rw [p3.i (hasA_in (by rfl)), w7.i (hasA_in (by rfl))]
        rw [e1, sI_pI, if_neg (by omega)]
        rcases ha with ⟨h1, h2⟩ | ⟨h1, _⟩
        · have hcs : a = 10 ∨ a = 11 ∨ a = 12 := by omega
          rcases hcs with rfl | rfl | rfl <;> exact f1.i (hasA_in (by rfl))
        · subst h1; exact f1.i (hasA_in (by rfl))
      have h13 : sI (P2 w sz' 0) 13 L.length = nI sz := by
        rw [p3.i (hasA_in (by rfl)), w7.i (hasA_in (by rfl)), sI_pI, if_pos ⟨rfl, rfl⟩]
      have hlt := w4.1
      have h14 : ∀ j, j < sz → sI (P2 w sz' 0) 14 j = sI st 14 j := fun j hj => by
        rw [P2_c, if_neg (by omega), w5 j hj, f2.i (hasA_in (by rfl)), f1.i (hasA_in (by rfl))]
      refine Or.inr ⟨k', l', (kd, tm, D, E), _, sz' + 1, by rw [w1], rfl, ⟨p2, by rw [List.length_append]; simp; omega, ?_, ⟨ku, ?_, ku_cls kuo⟩, fun i c hc => ?_, fun c hc => ?_⟩, fall⟩
      · rw [p3.i (by rfl), w7.i (by rfl), f2.i (by rfl), f1.i (by rfl), h5, List.length_append]; rfl
      · rw [p3.i (by rfl), w7.i (by rfl), f2.i (by rfl), f1.i (by rfl)]; exact hku
      · rcases app_get hc with ⟨g1, g2⟩ | ⟨g1, g2⟩
        · exact CIm_fr (by omega) (fun a h1 h2 => h1213 a i (by omega)) h14 (hC i c (app_old g2))
        · subst g1 g2
          obtain ⟨m1, m2, m3, m4, m5, m6⟩ := hC L.length _ app_last
          refine ⟨?_, ?_, m3, m4, ?_, Or.inr ⟨sz, sz', ?_, r.2.2.2.2.2.2.2.2.1, by omega, ?_, ?_⟩⟩
          · rw [scr_9 (by omega)] at m1 ⊢
            exact (h1213 10 _ (by omega)).trans m1
          · rw [scr_9 (by omega)] at m2 ⊢
            exact (h1213 11 _ (by omega)).trans m2
          · have q3 : scr (P2 w sz' 0) 9 3 L.length = scr st 9 3 L.length := by rw [scr_9 (by omega), scr_9 (by omega)]; exact h1213 12 _ (by omega)
            rw [q3]
            rcases m5 with m5 | ⟨m5, p, p', e1, e2, e3, e4, e5⟩
            · exact Or.inl m5
            · refine Or.inr ⟨m5, p, p', e1, e2, by omega, ?_, e5.eq (fun j h1 h2 => ?_)⟩
              · rw [scr_9 (by omega)] at e4 ⊢
                exact (h14 p' e3).trans e4
              · rw [scr_9 (by omega), scr_9 (by omega)]; exact h14 j (by omega)
          · rw [scr_9 (by omega)]; exact h13
          · rw [scr_9 (by omega)]
            show sI (P2 w sz' 0) 14 sz' = 0
            rw [P2_c, if_pos rfl]
          · refine w4.eq (fun j h1 h2 => ?_)
            rw [scr_9 (by omega)]
            show sI (P2 w sz' 0) 14 j = sI w 14 j
            rw [P2_c, if_neg (by omega)]
      · rcases List.mem_append.mp hc with q | q
        · exact hN c q
        · simp at q; rw [q]; exact hD
  · have hw : ¬ whR 5 ((tkT n b).2.1 k) = 0 := by unfold whR; simp only []; rw [if_neg q]; decide
    rw [if_neg hw, if_neg q]
    refine Or.inr ⟨k, l, (kd, tm, D, dNum 1), st, sz, rfl, rfl, ⟨r, by rw [List.length_append]; simp; omega, by rw [h5, List.length_append]; rfl, ⟨ku, hku, kuo⟩, hC, fun c hc => ?_⟩, FR.rf⟩
    rcases List.mem_append.mp hc with q | q
    · exact hN c q
    · simp at q; rw [q]; exact hD
/-- how often -/
theorem tmsC (hn : n ≤ 400) (t : TkE (tkT n b)) {st : St} {k l sz kd : Nat} {L : List Cls} {D : Dn} (h : HA st n b o k l sz L kd 1 D) : CL n b o st L (rRest o (tkT n b) kd k l D) (fX3_clause_b148 (nI L.length) st) := by
  have h' := h
  obtain ⟨r, hL, h5, ⟨ku, hku, kuo⟩, hC, hN, hD⟩ := h
  unfold fX3_clause_b148 rRest rTms
  rw [r.2.2.2.2.2.2.1]
  cases ho : o with
  | false =>
    subst ho
    simp only [Bool.false_eq_true, false_and, if_false]
    rw [if_neg (show ¬ (b2i !false) = 0 by decide)]
    exact ifC hn t h'
  | true =>
    subst ho
    simp only [true_and]
    rw [if_pos (show (b2i !true) = 0 by rfl), r.which (by omega), Option.bind_some]
    by_cases q : (tkT n b).2.1 k = 24
    · have hk : k < (tkT n b).1 := in_T r.2.1 (by omega)
      rw [show whR 4 ((tkT n b).2.1 k) = 0 by rw [q]; rfl, if_pos rfl, if_pos q]
      obtain ⟨u, e1, r1, f1⟩ := r.step hk
      rw [e1, Option.bind_some]
      have hk3 := (kind_at r1.1 r1.2.2.1).1
      by_cases z : (tkT n b).2.1 (k + 1) = 50
      · obtain ⟨v, v1, v2, v3⟩ := num_at r1.1 r1.2.2.1 z
        have e1' : (nI v < (1 : Int32)) = (v < 1) := n_lt (b := 1) (by omega) (by omega)
        have e20 : (nI v ≤ (20 : Int32)) = (v ≤ 20) := n_le (b := 20) (by omega) (by omega)
        rw [if_pos (show sI u 7 5 = 3 by rw [hk3]; exact z), v1]
        simp only [e1', e20]
        by_cases z2 : 1 ≤ (tkT n b).2.2 (k + 1) ∧ (tkT n b).2.2 (k + 1) ≤ 20
        · have hv : v = (tkT n b).2.2 (k + 1) := by unfold vR at v3; omega
          rw [if_neg (show ¬ v < 1 by omega), if_pos (show v ≤ 20 by omega), n_ixb (by omega), decide_eq_true hL, chk_t, n_toNat (by omega), if_pos (show (tkT n b).2.1 (k + 1) = 50 ∧ 1 ≤ (tkT n b).2.2 (k + 1) ∧ (tkT n b).2.2 (k + 1) ≤ 20 from ⟨z, z2⟩)]
          have f2 : FR [(11, none)] u (pI u 11 L.length (nI v)) := FR.pI (by rfl) FR.rf
          have r2 : RdC (pI u 11 L.length (nI v)) n b true (k + 1) l sz := by
            obtain ⟨a1, a2, a3, a4, a5, a6, a7, a8, a9, a10⟩ := r1
            exact ⟨a1.fr (by rfl) f2, a2, a3.fr (by rfl) f2, a4, (f2.i (by rfl)).trans a5, a6, (f2.i (by rfl)).trans a7, (f2.i (by rfl)).trans a8, a9, a10⟩
          obtain ⟨w, y1, y2, y3⟩ := r2.step (in_T r.2.1 (by omega))
          rw [y1, Option.bind_some]
          have fall : FR S_cl st w := ((FR.mono (by rfl) f1 : FR S_cl st u).trans (FR.mono (by rfl) f2)).trans (FR.mono (by rfl) y3)
          have hcell : ∀ a i, (a = 10 ∨ a = 12 ∨ a = 13 ∨ a = 14 ∨ a = 11 ∧ i ≠ L.length) → sI w a i = sI st a i := by
            intro a i ha
            rcases ha with rfl | rfl | rfl | rfl | ⟨rfl, hi⟩
            · rw [y3.i (hasA_in (by rfl)), f2.i (hasA_in (by rfl)), f1.i (hasA_in (by rfl))]
            · rw [y3.i (hasA_in (by rfl)), f2.i (hasA_in (by rfl)), f1.i (hasA_in (by rfl))]
            · rw [y3.i (hasA_in (by rfl)), f2.i (hasA_in (by rfl)), f1.i (hasA_in (by rfl))]
            · rw [y3.i (hasA_in (by rfl)), f2.i (hasA_in (by rfl)), f1.i (hasA_in (by rfl))]
            · rw [y3.i (hasA_in (by rfl)), sI_pI, if_neg (by omega), f1.i (hasA_in (by rfl))]
          have ha : HA w n b true (k + 1 + 1) l sz L kd ((tkT n b).2.2 (k + 1)) D := by
            refine ⟨y2, hL, by rw [y3.i (by rfl), f2.i (by rfl), f1.i (by rfl)]; exact h5, ⟨ku, by rw [y3.i (by rfl), f2.i (by rfl), f1.i (by rfl)]; exact hku, ku_cls kuo⟩, fun i c hc => ?_, hN, hD⟩
            rcases app_get hc with ⟨g1, g2⟩ | ⟨g1, g2⟩
            · exact CIm_fr (Nat.le_refl _) (fun a h1 h2 => hcell a i (by omega)) (fun j _ => hcell 14 j (by omega)) (hC i c (app_old g2))
            · subst g1 g2
              obtain ⟨m1, m2, m3, m4, m5, m6⟩ := hC L.length _ app_last
              have cod := Cod_fr (o := true) (u := w) (st := st) (sz := sz) (sz' := sz) (Nat.le_refl _) (fun j _ => hcell 14 j (by omega))
              refine ⟨?_, ?_, m3, z2, ?_, ?_⟩
              · rw [scr_9 (by omega)] at m1 ⊢
                exact (hcell 10 _ (by omega)).trans m1
              · rw [scr_9 (by omega)]
                show sI w 11 L.length = nI ((tkT n b).2.2 (k + 1))
                rw [y3.i (hasA_in (by rfl)), sI_pI, if_pos ⟨rfl, rfl⟩, hv]
              · have q3 : scr w 9 3 L.length = scr st 9 3 L.length := by rw [scr_9 (by omega), scr_9 (by omega)]; exact hcell 12 _ (by omega)
                rw [q3]
                rcases m5 with m5 | ⟨m5, m7⟩
                · exact Or.inl m5
                · exact Or.inr ⟨m5, cod _ _ m7⟩
              · have q4 : scr w 9 4 L.length = scr st 9 4 L.length := by rw [scr_9 (by omega), scr_9 (by omega)]; exact hcell 13 _ (by omega)
                rw [q4]
                rcases m6 with m6 | m6
                · exact Or.inl m6
                · exact Or.inr (cod _ _ m6)
          exact (ifC hn t ha).fr fall
        · have hno : ¬ ((tkT n b).2.1 (k + 1) = 50 ∧ 1 ≤ (tkT n b).2.2 (k + 1) ∧ (tkT n b).2.2 (k + 1) ≤ 20) := fun h => z2 h.2
          rw [if_neg hno]
          by_cases z3 : v < 1
          · rw [if_pos z3]
            exact Or.inl ⟨k + 1, u, rfl, rfl, r1.pl, FR.mono (by rfl) f1⟩
          · rw [if_neg z3, if_neg (show ¬ v ≤ 20 by unfold vR at v3; omega)]
            exact Or.inl ⟨k + 1, u, rfl, rfl, r1.pl, FR.mono (by rfl) f1⟩
      · rw [if_neg (show ¬ sI u 7 5 = 3 by rw [hk3]; exact z), if_neg (show ¬ ((tkT n b).2.1 (k + 1) = 50 ∧ 1 ≤ (tkT n b).2.2 (k + 1) ∧ (tkT n b).2.2 (k + 1) ≤ 20) from fun h => z h.1)]
        exact Or.inl ⟨k + 1, u, rfl, rfl, r1.pl, FR.mono (by rfl) f1⟩
    · have hw : ¬ whR 4 ((tkT n b).2.1 k) = 0 := by unfold whR; simp only []; rw [if_neg q]; decide
      rw [if_neg hw, if_neg q]
      exact ifC hn t h'
end
