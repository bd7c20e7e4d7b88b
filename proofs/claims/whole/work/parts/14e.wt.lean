/-- the state behind both constructors -/
def stI : St := qB178
set_option maxRecDepth 100000 in
set_option maxHeartbeats 4000000 in
theorem stI_R4 : ∀ i, stI.1.2.2.1 4 i = none := fun _ => rfl
set_option maxRecDepth 100000 in
set_option maxHeartbeats 4000000 in
theorem stI_R6 : ∀ i, stI.1.2.2.1 6 i = none := fun _ => rfl
set_option maxRecDepth 100000 in
set_option maxHeartbeats 4000000 in
theorem wt_stI : WT stI := by
  have hn : stI.1.2.2.2 = 65 := by decide +kernel
  have hl : (List.range 65).all (fun a => decide (lay[a]? = some (stI.1.1 a, stI.1.2.1 a))) = true := by decide +kernel
  have h4 : (List.range 65).all (fun t => decide (stI.1.1 t ≠ 4) || decide (t = 1)) = true := by decide +kernel
  have h5 : (List.range 65).all (fun t => decide (stI.1.1 t ≠ 5) || decide (t = 9)) = true := by decide +kernel
  have h2 : (List.range 65).all (fun t => decide (stI.1.1 t ≠ 2) || (decide (t = 15) || decide (t = 17))) = true := by decide +kernel
  refine ⟨by rw [hn]; decide, fun a k n h => ?_, by decide +kernel, fun t ht => ?_, fun t ht => ?_, fun t ht => ?_, fun i b h => ?_, fun b h => ?_⟩
  · have ha : a < 65 := (List.getElem?_eq_some_iff.mp h).1
    have h1 := of_decide_eq_true (List.all_eq_true.mp hl a (List.mem_range.mpr ha))
    rw [h] at h1
    have h2 := Option.some.inj h1
    exact ⟨(Prod.mk.inj h2).1.symm, (Prod.mk.inj h2).2.symm⟩
  · have ha : t < 65 := by have := ht.1; rw [hn] at this; exact this
    have h1 := List.all_eq_true.mp h4 t (List.mem_range.mpr ha)
    simp only [Bool.or_eq_true, decide_eq_true_eq] at h1
    rcases h1 with h1 | h1
    · exact absurd ht.2 h1
    · subst h1
      refine ⟨⟨by decide +kernel, by decide +kernel, by decide +kernel, by decide +kernel⟩, ⟨by decide +kernel, by decide +kernel, by decide +kernel, by decide +kernel⟩, ⟨by decide +kernel, by decide +kernel, by decide +kernel, by decide +kernel⟩, ⟨by decide +kernel, by decide +kernel, by decide +kernel, by decide +kernel⟩, fun i b h => ?_⟩
      rw [show (1 + 3 : Nat) = 4 from rfl, stI_R4 i] at h
      cases h
  · have ha : t < 65 := by have := ht.1; rw [hn] at this; exact this
    have h1 := List.all_eq_true.mp h5 t (List.mem_range.mpr ha)
    simp only [Bool.or_eq_true, decide_eq_true_eq] at h1
    rcases h1 with h1 | h1
    · exact absurd ht.2 h1
    · subst h1
      exact ⟨⟨by decide +kernel, by decide +kernel, by decide +kernel, by decide +kernel⟩, ⟨by decide +kernel, by decide +kernel, by decide +kernel, by decide +kernel⟩, ⟨by decide +kernel, by decide +kernel, by decide +kernel, by decide +kernel⟩, ⟨by decide +kernel, by decide +kernel, by decide +kernel, by decide +kernel⟩, ⟨by decide +kernel, by decide +kernel, by decide +kernel⟩⟩
  · have ha : t < 65 := by have := ht.1; rw [hn] at this; exact this
    have h1 := List.all_eq_true.mp h2 t (List.mem_range.mpr ha)
    simp only [Bool.or_eq_true, decide_eq_true_eq] at h1
    rcases h1 with h1 | h1 | h1
    · exact absurd ht.2 h1
    · subst h1
      exact ⟨by decide +kernel, by decide +kernel, by decide +kernel, by decide +kernel⟩
    · subst h1
      exact ⟨by decide +kernel, by decide +kernel, by decide +kernel, by decide +kernel⟩
  · rw [stI_R6 i] at h; cases h
  · have e : stI.1.2.2.1 19 7 = none := by decide +kernel
    rw [e] at h; cases h
/-- a frame with more cells -/
theorem fr_scr {st u : St} {b : Nat} (hb : b = sn st) (w : WT st) (hn : sn u = sn st + 6) (hK : ∀ a, a < sn st → sK u a = sK st a ∧ sN u a = sN st a ∧ ∀ i, sR u a i = sR st a i) (k0 : sK u b = 5) (k1 : ∀ q, q < 5 → sK u (b + 1 + q) = 10) (n1 : ∀ q, q < 4 → sN u (b + 1 + q) = 12) (r1 : ∀ q, q < 5 → sR u b q = some (b + 1 + q)) : WT u := by
  subst hb
  obtain ⟨w1, w2, w3, w4, w5, w6, w7, w8⟩ := w
  have w1' : 65 ≤ sn st := w1
  have old : ∀ {k a}, Obj st k a → ObjF u.1 k a := fun {k a} h => ⟨by show a < sn u; have := h.1; omega, by show sK u a = k; rw [(hK a h.1).1]; exact h.2⟩
  have olda : ∀ {k n a}, ArrF st.1 k n a → ArrF u.1 k n a := fun {k n a} h => ⟨by show a < sn u; have : a < sn st := h.1; omega, by show sK u a = k; rw [(hK a h.1).1]; exact h.2.1, by show sN u a = n; rw [(hK a h.1).2.1]; exact h.2.2⟩
  have oldR : ∀ {a i}, a < sn st → u.1.2.2.1 a i = st.1.2.2.1 a i := fun {a i} h => (hK a h).2.2 i
  have back : ∀ {k a}, k ≠ 5 → k ≠ 10 → ObjF u.1 k a → Obj st k a := by
    intro k a h5 h10 h
    have ha : a < sn st + 6 := by have : a < sn u := h.1; omega
    have hk : sK u a = k := h.2
    rcases Nat.lt_or_ge a (sn st) with h1 | h1
    · exact ⟨h1, by rw [← (hK a h1).1]; exact hk⟩
    · exfalso
      by_cases e : a = sn st
      · subst e; rw [k0] at hk; exact h5 hk.symm
      · have e2 := k1 (a - sn st - 1) (by omega)
        rw [show sn st + 1 + (a - sn st - 1) = a by omega, hk] at e2
        exact h10 e2
  have layl : ∀ a k n, lay[a]? = some (k, n) → a < sn st := fun a k n h => Nat.lt_of_lt_of_le (List.getElem?_eq_some_iff.mp h).1 w1
  refine ⟨by show 65 ≤ sn u; omega, fun a k n h => ?_, fun q hq => ?_, fun t ht => ?_, fun t ht => ?_, fun t ht => ?_, fun i b h => ?_, fun b h => ?_⟩
  · have ha := layl a k n h
    obtain ⟨h1, h2⟩ := w2 a k n h
    exact ⟨(hK a ha).1.trans h1, (hK a ha).2.1.trans h2⟩
  · obtain ⟨k, n, h1, h2⟩ := wires_obj q hq
    rw [oldR (layl _ _ _ h1)]
    exact w3 q hq
  · have h0 := back (by decide) (by decide) ht
    obtain ⟨⟨a1, a2⟩, ⟨b1, b2⟩, ⟨c1, c2⟩, ⟨d1, d2⟩, e1⟩ := w4 t h0
    have c3 : t + 3 < sn st := c2.1
    refine ⟨⟨by rw [oldR h0.1]; exact a1, olda a2⟩, ⟨by rw [oldR h0.1]; exact b1, olda b2⟩, ⟨by rw [oldR h0.1]; exact c1, olda c2⟩, ⟨by rw [oldR h0.1]; exact d1, olda d2⟩, fun i b h => ?_⟩
    rw [oldR c3] at h
    exact old (e1 i b h)
  · have ha : t < sn st + 6 := by have : t < sn u := ht.1; omega
    have hk : sK u t = 5 := ht.2
    rcases Nat.lt_or_ge t (sn st) with h1 | h1
    · have h0 : Obj st 5 t := ⟨h1, by rw [← (hK t h1).1]; exact hk⟩
      obtain ⟨⟨a1, a2⟩, ⟨b1, b2⟩, ⟨c1, c2⟩, ⟨d1, d2⟩, ⟨e1, e2⟩⟩ := w5 t h0
      exact ⟨⟨by rw [oldR h1]; exact a1, olda a2⟩, ⟨by rw [oldR h1]; exact b1, olda b2⟩, ⟨by rw [oldR h1]; exact c1, olda c2⟩, ⟨by rw [oldR h1]; exact d1, olda d2⟩, ⟨by rw [oldR h1]; exact e1, old e2⟩⟩
    · by_cases e : t = sn st
      · subst e
        have ar : ∀ q, q < 4 → ArrF u.1 10 12 (sn st + 1 + q) := fun q hq => ⟨by show _ < sn u; omega, k1 q (by omega), n1 q hq⟩
        exact ⟨⟨r1 0 (by decide), ar 0 (by decide)⟩, ⟨r1 1 (by decide), ar 1 (by decide)⟩, ⟨r1 2 (by decide), ar 2 (by decide)⟩, ⟨r1 3 (by decide), ar 3 (by decide)⟩, ⟨r1 4 (by decide), by show _ < sn u; omega, k1 4 (by decide)⟩⟩
      · exfalso
        have e2 := k1 (t - sn st - 1) (by omega)
        rw [show sn st + 1 + (t - sn st - 1) = t by omega, hk] at e2
        exact absurd e2 (by decide)
  · have h0 := back (by decide) (by decide) ht
    obtain ⟨a1, a2⟩ := w6 t h0
    exact ⟨by rw [oldR h0.1]; exact a1, olda a2⟩
  · rw [oldR (by omega)] at h
    exact old (w7 i b h)
  · rw [oldR (by omega)] at h
    exact old (w8 b h)
/-- and with a ring's -/
theorem fr_ring {st u : St} {b : Nat} (hb : b = sn st) (w : WT st) (hn : sn u = sn st + 5) (hK : ∀ a, a < sn st → sK u a = sK st a ∧ sN u a = sN st a ∧ ∀ i, sR u a i = sR st a i) (k0 : sK u b = 4) (hr : RingF u.1 b) (k1 : ∀ q, q < 4 → sK u (b + 1 + q) = 10 ∨ sK u (b + 1 + q) = 14) : WT u := by
  subst hb
  obtain ⟨w1, w2, w3, w4, w5, w6, w7, w8⟩ := w
  have w1' : 65 ≤ sn st := w1
  have old : ∀ {k a}, Obj st k a → ObjF u.1 k a := fun {k a} h => ⟨by show a < sn u; have := h.1; omega, by show sK u a = k; rw [(hK a h.1).1]; exact h.2⟩
  have olda : ∀ {k n a}, ArrF st.1 k n a → ArrF u.1 k n a := fun {k n a} h => ⟨by show a < sn u; have : a < sn st := h.1; omega, by show sK u a = k; rw [(hK a h.1).1]; exact h.2.1, by show sN u a = n; rw [(hK a h.1).2.1]; exact h.2.2⟩
  have oldR : ∀ {a i}, a < sn st → u.1.2.2.1 a i = st.1.2.2.1 a i := fun {a i} h => (hK a h).2.2 i
  have back : ∀ {k a}, k ≠ 4 → k ≠ 10 → k ≠ 14 → ObjF u.1 k a → Obj st k a := by
    intro k a h5 h10 h14 h
    have ha : a < sn st + 5 := by have : a < sn u := h.1; omega
    have hk : sK u a = k := h.2
    rcases Nat.lt_or_ge a (sn st) with h1 | h1
    · exact ⟨h1, by rw [← (hK a h1).1]; exact hk⟩
    · exfalso
      by_cases e : a = sn st
      · subst e; rw [k0] at hk; exact h5 hk.symm
      · have e2 := k1 (a - sn st - 1) (by omega)
        rw [show sn st + 1 + (a - sn st - 1) = a by omega, hk] at e2
        exact e2.elim h10 h14
  have layl : ∀ a k n, lay[a]? = some (k, n) → a < sn st := fun a k n h => Nat.lt_of_lt_of_le (List.getElem?_eq_some_iff.mp h).1 w1
  refine ⟨by show 65 ≤ sn u; omega, fun a k n h => ?_, fun q hq => ?_, fun t ht => ?_, fun t ht => ?_, fun t ht => ?_, fun i b h => ?_, fun b h => ?_⟩
  · have ha := layl a k n h
    obtain ⟨h1, h2⟩ := w2 a k n h
    exact ⟨(hK a ha).1.trans h1, (hK a ha).2.1.trans h2⟩
  · obtain ⟨k, n, h1, h2⟩ := wires_obj q hq
    rw [oldR (layl _ _ _ h1)]
    exact w3 q hq
  · have ha : t < sn st + 5 := by have : t < sn u := ht.1; omega
    have hk : sK u t = 4 := ht.2
    rcases Nat.lt_or_ge t (sn st) with h1 | h1
    · have h0 : Obj st 4 t := ⟨h1, by rw [← (hK t h1).1]; exact hk⟩
      obtain ⟨⟨a1, a2⟩, ⟨b1, b2⟩, ⟨c1, c2⟩, ⟨d1, d2⟩, e1⟩ := w4 t h0
      have c3 : t + 3 < sn st := c2.1
      refine ⟨⟨by rw [oldR h0.1]; exact a1, olda a2⟩, ⟨by rw [oldR h0.1]; exact b1, olda b2⟩, ⟨by rw [oldR h0.1]; exact c1, olda c2⟩, ⟨by rw [oldR h0.1]; exact d1, olda d2⟩, fun i b h => ?_⟩
      rw [oldR c3] at h
      exact old (e1 i b h)
    · by_cases e : t = sn st
      · subst e; exact hr
      · exfalso
        have e2 := k1 (t - sn st - 1) (by omega)
        rw [show sn st + 1 + (t - sn st - 1) = t by omega, hk] at e2
        exact e2.elim (by decide) (by decide)
  · have h0 := back (by decide) (by decide) (by decide) ht
    obtain ⟨⟨a1, a2⟩, ⟨b1, b2⟩, ⟨c1, c2⟩, ⟨d1, d2⟩, ⟨e1, e2⟩⟩ := w5 t h0
    exact ⟨⟨by rw [oldR h0.1]; exact a1, olda a2⟩, ⟨by rw [oldR h0.1]; exact b1, olda b2⟩, ⟨by rw [oldR h0.1]; exact c1, olda c2⟩, ⟨by rw [oldR h0.1]; exact d1, olda d2⟩, ⟨by rw [oldR h0.1]; exact e1, old e2⟩⟩
  · have h0 := back (by decide) (by decide) (by decide) ht
    obtain ⟨a1, a2⟩ := w6 t h0
    exact ⟨by rw [oldR h0.1]; exact a1, olda a2⟩
  · rw [oldR (by omega)] at h
    exact old (w7 i b h)
  · rw [oldR (by omega)] at h
    exact old (w8 b h)
