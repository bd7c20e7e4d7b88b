/-! orders: the class runs them all -/
abbrev K49 : Type := Int32 → Int32 → Int32 → Int32 → Int32 → Int32 → St → Option (Int32 × St)
theorem one7o {A0 : All} {st : St} {s : Os} {L : List Cls} {c : Cls} {i t n m : Nat} {k49 : K49} {l2 l3 l4 : Int32} (ok : OkS A0 s n) (hn : n < 1000000) (cv : CV st s.1) (im : Impl 17 (scr st 9) L) (hc : L[i]? = some c) (ht : t < c.2.1) : match oneA c s with | none => ∃ u, fX7_runWhollyOrNot_b61 k49 (m + 1) l2 l3 l4 (nI s.2.1) s.2.2 (nI i) (nI t) st = failC l2 l3 l4 (nI i) u ∧ CV u s.1 ∧ FR S_oc st u | some s' => ∃ u, fX7_runWhollyOrNot_b61 k49 (m + 1) l2 l3 l4 (nI s.2.1) s.2.2 (nI i) (nI t) st = fX7_runWhollyOrNot_b61 k49 m l2 l3 l4 (nI s'.2.1) s'.2.2 (nI i) (nI (t + 1)) u ∧ CV u s'.1 ∧ FR S_oc st u := by
  have im0 := im
  obtain ⟨i1, i2, sz, cap, ku, i3, i4, i5, i6, i7, i8, i9, i10, i11, i12⟩ := im0
  have hi : i < 12 := by have := (List.getElem?_eq_some_iff.mp hc).1; omega
  obtain ⟨m1, m2, m3, m4, m5, m6⟩ := i11 i c hc
  rw [scr_i (by omega)] at m2
  have e11 : (sI st 11 i ≤ nI t) = (c.2.1 ≤ t) := by rw [show sI st 11 i = _ from m2]; exact n_le (by omega) (by omega)
  rw [fX7_runWhollyOrNot_b61, n_ixb (by omega), decide_eq_true hi, chk_t, n_toNat (by omega)]
  simp only [e11]
  rw [if_neg (by omega)]
  obtain ⟨u, u1, u2, u3⟩ := gather7 (dn := s.2.1) (ls := s.2.2) ok.1 cv
  rw [u1, Option.bind_some, chk_t]
  have cu := CV_lo (by rfl) u3 cv
  have fu : FR S_oc st u := FR.mono (by rfl) u3
  have imu : Impl 17 (scr u 9) L := by rw [scr9_fr (by rfl) u3]; exact im
  have e13 : sI u 13 i = scr st 9 4 i := by rw [scr_i (by omega)]; exact u3.i (hasA_in (by rfl))
  rw [e13]
  rcases m6 with ⟨q1, q2⟩ | q
  · rw [if_pos q1]
    have h1 : c.2.2.2 (oF s.1 s.2.1 s.2.2) = some 1 := by rw [q2]; rfl
    have := b116C (t := t) (k49 := k49) (k61 := fun zl2 zl3 zl4 zl5 zl6 zl7 zl8 zst => fX7_runWhollyOrNot_b61 k49 m zl2 zl3 zl4 zl5 zl6 zl7 zl8 zst) (l2 := l2) (l3 := l3) (l4 := l4) ok hn cu imu hc u2 h1
    cases ho : oneA c s with
    | none =>
      rw [ho] at this
      obtain ⟨v, v1, v2, v3⟩ := this
      exact ⟨v, v1, v2, fu.trans v3⟩
    | some s' =>
      rw [ho] at this
      obtain ⟨v, v1, v2, v3⟩ := this
      exact ⟨v, v1, v2, fu.trans v3⟩
  · rw [if_neg (cod_0 q i3)]
    have hne := oF_ne (A := s.1) (dn := s.2.1) (ls := s.2.2) ok.1 (by have := ok.2.2.1; omega) ok.2.2.2
    have sc := scr9_fr (u := u) (st := st) (by rfl) u3
    have wc : Wc 17 (oF s.1 s.2.1 s.2.2) u 9 36 37 sz := imp_wc i3 i4 i5 (by rw [sc]; exact i6) (by rw [sc]; exact i7) (cu.1.2.1 37 10 40 rfl).2 (cu.1.2.1 36 10 17 rfl).2 u2 (by omega) (by omega) (by omega)
    obtain ⟨v, v1, v2⟩ := ev17 wc (by rw [sc]; exact q)
    rw [v1, Option.bind_some]
    have cvv := CV_lo (by rfl) v2 cu
    have fv : FR S_oc st v := fu.trans (FR.mono (by rfl) v2)
    by_cases h1 : c.2.2.2 (oF s.1 s.2.1 s.2.2) = some 1
    · rw [h1]
      show match oneA c s with | none => _ | some s' => _
      have imv : Impl 17 (scr v 9) L := by rw [scr9_fr (by rfl) v2]; exact imu
      have := b116C (t := t) (k49 := k49) (k61 := fun zl2 zl3 zl4 zl5 zl6 zl7 zl8 zst => fX7_runWhollyOrNot_b61 k49 m zl2 zl3 zl4 zl5 zl6 zl7 zl8 zst) (l2 := l2) (l3 := l3) (l4 := l4) ok hn cvv imv hc (fun j hj => (v2.i (hasA_in (by rfl))).trans (u2 j hj)) h1
      cases ho : oneA c s with
      | none =>
        rw [ho] at this
        obtain ⟨w, w1, w2, w3⟩ := this
        exact ⟨w, w1, w2, fv.trans w3⟩
      | some s' =>
        rw [ho] at this
        obtain ⟨w, w1, w2, w3⟩ := this
        exact ⟨w, w1, w2, fv.trans w3⟩
    · have hg : ¬ (c.2.2.2 (oF s.1 s.2.1 s.2.2)).getD BRK = 1 := by
        intro e
        cases hx : c.2.2.2 (oF s.1 s.2.1 s.2.2) with
        | none => rw [hx] at e; exact absurd e (by decide)
        | some x => rw [hx] at e; exact h1 (by rw [hx]; exact congrArg some e)
      have ho : oneA c s = some s := by unfold oneA; rw [if_neg h1]
      rw [ho]
      refine ⟨v, ?_, cvv, fv⟩
      rw [if_neg hg]
      unfold fX7_runWhollyOrNot_b191
      rw [n_p1]
theorem tim7 {A0 : All} {L : List Cls} {c : Cls} {i : Nat} {k49 : K49} {l2 l3 l4 : Int32} (hc : L[i]? = some c) (h4 : c.1 < 4) : ∀ (r t m n : Nat) (s : Os) (st : St), t + r = c.2.1 → r < m → OkS A0 s n → n + r < 1000000 → CV st s.1 → Impl 17 (scr st 9) L → match timA c r s with | none => ∃ u s2, fX7_runWhollyOrNot_b61 k49 m l2 l3 l4 (nI s.2.1) s.2.2 (nI i) (nI t) st = failC l2 l3 l4 (nI i) u ∧ CV u s2 ∧ Gd s2 ∧ Smo A0 s2 ∧ FR S_oc st u | some s' => ∃ u, fX7_runWhollyOrNot_b61 k49 m l2 l3 l4 (nI s.2.1) s.2.2 (nI i) (nI t) st = k49 l2 l3 l4 (nI s'.2.1) s'.2.2 (nI (i + 1)) u ∧ CV u s'.1 ∧ OkS A0 s' (n + r) ∧ FR S_oc st u := by
  intro r
  induction r with
  | zero =>
    intro t m n s st h1 h2 ok hn cv im
    obtain ⟨m, rfl⟩ : ∃ j, m = j + 1 := ⟨m - 1, by omega⟩
    have hi : i < 12 := by have := (List.getElem?_eq_some_iff.mp hc).1; have := im.1; omega
    obtain ⟨i1, i2, sz, cap, ku, i3, i4, i5, i6, i7, i8, i9, i10, i11, i12⟩ := im
    obtain ⟨m1, m2, m3, m4, m5, m6⟩ := i11 i c hc
    rw [scr_i (by omega)] at m2
    have e11 : (sI st 11 i ≤ nI t) = (c.2.1 ≤ t) := by rw [show sI st 11 i = _ from m2]; exact n_le (by omega) (by omega)
    refine ⟨st, ?_, cv, ok, FR.rf⟩
    rw [fX7_runWhollyOrNot_b61, n_ixb (by omega), decide_eq_true hi, chk_t, n_toNat (by omega)]
    simp only [e11]
    rw [if_pos (by omega), n_p1]
  | succ r ih =>
    intro t m n s st h1 h2 ok hn cv im
    obtain ⟨m, rfl⟩ : ∃ j, m = j + 1 := ⟨m - 1, by omega⟩
    have := one7o (m := m) (t := t) (k49 := k49) (l2 := l2) (l3 := l3) (l4 := l4) ok (by omega) cv im hc (by omega)
    rw [timA]
    cases ho : oneA c s with
    | none =>
      rw [ho] at this
      obtain ⟨u, u1, u2, u3⟩ := this
      exact ⟨u, s.1, u1, u2, ok.1, ok.2.1, u3⟩
    | some s' =>
      rw [ho] at this
      obtain ⟨u, u1, u2, u3⟩ := this
      have ok' := one_ok h4 ok ho
      have imu : Impl 17 (scr u 9) L := by rw [scr9_fr (by rfl) u3]; exact im
      have k := ih (t + 1) m (n + 1) s' u (by omega) (by omega) ok' (by omega) u2 imu
      simp only []
      cases hx : timA c r s' with
      | none =>
        rw [hx] at k
        obtain ⟨v, s2, v1, v2, v3, v4, v5⟩ := k
        exact ⟨v, s2, u1.trans v1, v2, v3, v4, u3.trans v5⟩
      | some s2 =>
        rw [hx] at k
        obtain ⟨v, v1, v2, v3, v4⟩ := k
        exact ⟨v, u1.trans v1, v2, by rw [show n + (r + 1) = n + 1 + r by omega]; exact v3, u3.trans v4⟩
theorem OkS.le {A0 : All} {s : Os} {n n' : Nat} (h : OkS A0 s n) (hn : n ≤ n') : OkS A0 s n' := ⟨h.1, h.2.1, Nat.le_trans h.2.2.1 hn, h.2.2.2⟩
theorem all7 {A0 : All} {L : List Cls} {l2 l3 l4 : Int32} : ∀ (R : List Cls) (i m : Nat) (s : Os) (st : St), L.drop i = R → i + R.length = L.length → R.length < m → OkS A0 s (20 * i) → CV st s.1 → Impl 17 (scr st 9) L → match allA R i s with | .inl j => ∃ u s2, fX7_runWhollyOrNot_b49 m l2 l3 l4 (nI s.2.1) s.2.2 (nI i) st = failC l2 l3 l4 (nI j) u ∧ CV u s2 ∧ Gd s2 ∧ Smo A0 s2 ∧ j < 12 ∧ FR S_oc st u | .inr s' => ∃ u, fX7_runWhollyOrNot_b49 m l2 l3 l4 (nI s.2.1) s.2.2 (nI i) st = some (nI s'.2.1, u) ∧ CV u s'.1 ∧ OkS A0 s' 240 ∧ FR S_oc st u := by
  intro R
  induction R with
  | nil =>
    intro i m s st hd hl hm ok cv im
    obtain ⟨m, rfl⟩ : ∃ j, m = j + 1 := ⟨m - 1, by omega⟩
    have h12 := im.1
    have e5 : (sI st 9 5 ≤ nI i) = (L.length ≤ i) := by
      have := im.2.1
      rw [scr_i (by omega)] at this
      rw [show sI st 9 5 = _ from this]; simp at hl; exact n_le (by omega) (by omega)
    simp at hl
    refine ⟨st, ?_, cv, ok.le (by omega), FR.rf⟩
    rw [fX7_runWhollyOrNot_b49]
    simp only [e5]
    rw [if_pos (by omega)]
  | cons c R ih =>
    intro i m s st hd hl hm ok cv im
    obtain ⟨m, rfl⟩ : ∃ j, m = j + 1 := ⟨m - 1, by omega⟩
    have h12 := im.1
    simp at hl hm
    have e5 : (sI st 9 5 ≤ nI i) = (L.length ≤ i) := by
      have := im.2.1
      rw [scr_i (by omega)] at this
      rw [show sI st 9 5 = _ from this]; exact n_le (by omega) (by omega)
    have hc : L[i]? = some c := by
      have : (L.drop i)[0]? = some c := by rw [hd]; rfl
      rw [List.getElem?_drop] at this; exact this
    have hd' : L.drop (i + 1) = R := by
      have : (L.drop i).drop 1 = R := by rw [hd]; rfl
      rw [List.drop_drop] at this; exact this
    have h4 := (imp_k im hc).2.1
    obtain ⟨j1, j2, sz, cap, ku, j3, j4, j5, j6, j7, j8, j9, j10, j11, j12⟩ := id im
    have h20 := (j11 i c hc).2.2.2.1.2
    rw [fX7_runWhollyOrNot_b49]
    simp only [e5]
    rw [if_neg (by omega)]
    have k := tim7 (A0 := A0) (k49 := fun zl2 zl3 zl4 zl5 zl6 zl7 zst => fX7_runWhollyOrNot_b49 m zl2 zl3 zl4 zl5 zl6 zl7 zst) (l2 := l2) (l3 := l3) (l4 := l4) hc h4 c.2.1 0 FU (20 * i) s st (by omega) (by unfold FU; omega) ok (by omega) cv im
    rw [allA]
    cases ht : timA c c.2.1 s with
    | none =>
      rw [ht] at k
      obtain ⟨u, s2, u1, u2, u3, u4, u5⟩ := k
      exact ⟨u, s2, u1, u2, u3, u4, by omega, u5⟩
    | some s' =>
      rw [ht] at k
      obtain ⟨u, u1, u2, u3, u4⟩ := k
      have imu : Impl 17 (scr u 9) L := by rw [scr9_fr (by rfl) u4]; exact im
      have k2 := ih (i + 1) m s' u hd' (by omega) (by omega) (u3.le (by omega)) u2 imu
      simp only []
      cases hx : allA R (i + 1) s' with
      | inl j =>
        rw [hx] at k2
        obtain ⟨v, s2, v1, v2, v3, v4, v5, v6⟩ := k2
        exact ⟨v, s2, u1.trans v1, v2, v3, v4, v5, u4.trans v6⟩
      | inr s2 =>
        rw [hx] at k2
        obtain ⟨v, v1, v2, v3, v4⟩ := k2
        exact ⟨v, u1.trans v1, v2, v3, u4.trans v4⟩
