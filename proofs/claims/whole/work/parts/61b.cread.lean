/-! the class's reader: sums -/
section
variable {n : Nat} {b : Nat → Int32} {o : Bool}
abbrev K4s : Type := Int32 → Int32 → Int32 → St → Option (Int32 × St)
theorem RdC.byte {st : St} {k l sz c : Nat} (r : RdC st n b o k l sz) (hc : (tkT n b).2.1 k = c) (h1 : 100 ≤ c) (h2 : c < 228) : ixb (sI st 7 6) 400 = true ∧ sI st 8 (sI st 7 6).toNatClampNeg = nI (c - 100) := byte_at r.1 r.2.2.1 hc h1 h2
theorem mulC {rc : TG3} {d i ad : Int32} {N p0 k0 : Nat} {p : Ps1} {K : K4s} (hp : Pc n b o N (rc.2 d) p) (hmo : Mo (tkT n b) Q0 p) : ∀ (F m k l sz jx : Nat) (D : Dn) (st : St), RdC st n b o k l sz → Seg (nfo o) (sI st 14) p0 sz (N + 1) D → sz + 2 * k0 ≤ p0 + 2 * k → 400 ≤ F + k → F < m → jx ≤ k → (∃ j u, rTermL (tkT n b) p F k l D = .inl j ∧ fX3_sum_b24 rc K m d ad i (nI jx) st = some (0, u) ∧ sI u 7 6 = nI (plT n b j) ∧ FR S_pc st u) ∨ ∃ k' l' E u sz', rTermL (tkT n b) p F k l D = .inr (k', l', E) ∧ fX3_sum_b24 rc K m d ad i (nI jx) st = fX3_sum_b99 rc K d ad i u ∧ RdC u n b o k' l' sz' ∧ Seg (nfo o) (sI u 14) p0 sz' (N + 1) E ∧ Cs st u p0 ∧ sz' + 2 * k0 ≤ p0 + 2 * k' ∧ FR S_pc st u ∧ k ≤ k' := by
  -- no sign: the term ends
  have stop : ∀ (m k l sz jx : Nat) (st : St), RdC st n b o k l sz → jx ≤ k → ¬ ((tkT n b).2.1 k = 142 ∨ (tkT n b).2.1 k = 147 ∨ (tkT n b).2.1 k = 137) → fX3_sum_b24 rc K (m + 1) d ad i (nI jx) st = fX3_sum_b99 rc K d ad i st := by
    intro m k l sz jx st r hj hno
    rw [fX3_sum_b24]
    split
    · rfl
    · rw [show (42 : Int32) = nI 42 from rfl, r.signN (by omega) (by omega), Option.bind_some, if_pos rfl, show (47 : Int32) = nI 47 from rfl, r.signN (by omega) (by omega), Option.bind_some, if_pos rfl, show (37 : Int32) = nI 37 from rfl, r.signN (by omega) (by omega), Option.bind_some, if_pos rfl]
  intro F
  induction F with
  | zero =>
    intro m k l sz jx D st r sg hb h4 hm hj
    obtain ⟨m, rfl⟩ : ∃ j, m = j + 1 := ⟨m - 1, by omega⟩
    have hk0 : (tkT n b).2.1 k = 0 := r.2.1.2.1 k (by have := r.2.1.1; omega)
    exact Or.inr ⟨k, l, D, st, sz, rfl, stop m k l sz jx st r hj (by omega), r, sg, Cs.rf, hb, FR.rf, Nat.le_refl _⟩
  | succ F ih =>
    intro m k l sz jx D st r sg hb h4 hm hj
    obtain ⟨m, rfl⟩ : ∃ j, m = j + 1 := ⟨m - 1, by omega⟩
    unfold rTermL
    by_cases q : (tkT n b).2.1 k = 142 ∨ (tkT n b).2.1 k = 147 ∨ (tkT n b).2.1 k = 137
    · rw [if_pos q]
      have hk : k < (tkT n b).1 := in_T r.2.1 (by omega)
      have h400 := r.2.1.1
      have hsz := r.2.2.2.2.2.2.2.2.2
      have hp0 := sg.1
      obtain ⟨bx, bv⟩ := r.byte (c := (tkT n b).2.1 k) rfl (by omega) (by omega)
      have hb59 : fX3_sum_b24 rc K (m + 1) d ad i (nI jx) st = fX3_sum_b59 rc K (fun zl1 zl2 zl3 zl4 zst => fX3_sum_b24 rc K m zl1 zl2 zl3 zl4 zst) d ad i (nI jx) st := by
        rw [fX3_sum_b24, if_neg (by rw [show (400 : Int32) = nI 400 from rfl, n_le (by omega) (by omega)]; omega)]
        by_cases q1 : (tkT n b).2.1 k = 142
        · rw [show (42 : Int32) = nI 42 from rfl, r.signY (by omega) (by omega), Option.bind_some, if_neg one0]
        · rw [show (42 : Int32) = nI 42 from rfl, r.signN (by omega) (by omega), Option.bind_some, if_pos rfl]
          by_cases q2 : (tkT n b).2.1 k = 147
          · rw [show (47 : Int32) = nI 47 from rfl, r.signY (by omega) (by omega), Option.bind_some, if_neg one0]
          · rw [show (47 : Int32) = nI 47 from rfl, r.signN (by omega) (by omega), Option.bind_some, if_pos rfl, show (37 : Int32) = nI 37 from rfl, r.signY (by omega) (by omega), Option.bind_some, if_neg one0]
      obtain ⟨u, e1, r1, f1⟩ := r.step hk
      rw [hb59]
      unfold fX3_sum_b59
      rw [bx, chk_t, e1, Option.bind_some, bv]
      rcases hp (k + 1) l sz u r1 with ⟨j, w, w1, w2, w3, w4⟩ | ⟨k', l', D', w, sz', w1, w2, w3, w4, w5, w6, w7⟩
      · refine Or.inl ⟨j, w, by rw [w1]; rfl, ?_, w3, (FR.mono (by rfl) f1 : FR S_pc st u).trans w4⟩
        rw [w2, Option.bind_some, if_pos rfl]
      · have hm' := hmo _ _ _ _ _ w1
        obtain ⟨p1, p2, p3⟩ := w3.put (v := nI ((tkT n b).2.1 k - 100)) (by have := w3.2.2.2.2.2.2.2.2.2; omega)
        rw [w2, Option.bind_some, if_neg one0, p1, Option.bind_some, n_p1]
        have csu : Cs st w sz := Cs.tr (Cs.st (by rfl) f1) w5 (Nat.le_refl _)
        have sgD : Seg (nfo o) (sI (P2 w sz' (nI ((tkT n b).2.1 k - 100))) 14) p0 sz (N + 1) D := sg.eq (fun j h1 h2 => by
          have := w4.1
          rw [P2_c, if_neg (by omega)]; exact csu j h2)
        have sgE : Seg (nfo o) (sI (P2 w sz' (nI ((tkT n b).2.1 k - 100))) 14) sz sz' N D' := w4.eq (fun j h1 h2 => by rw [P2_c, if_neg (by omega)])
        have hJ : isJ ((tkT n b).2.1 k) := by unfold isJ; omega
        have sgJ := seg_jn sgD sgE hJ (by rw [P2_c, if_pos rfl]) (Nat.le_refl _)
        rcases ih m k' l' (sz' + 1) (jx + 1) (dJn ((tkT n b).2.1 k) D D') _ p2 sgJ (by omega) (by omega) (by omega) (by omega) with ⟨j, y, y1, y2, y3, y4⟩ | ⟨k2, l2, E, y, sz2, y1, y2, y3, y4, y5, y6, y7, y8⟩
        · exact Or.inl ⟨j, y, by rw [w1]; exact y1, y2, y3, ((FR.mono (by rfl) f1 : FR S_pc st u).trans w7).trans (p3.trans y4)⟩
        · refine Or.inr ⟨k2, l2, E, y, sz2, by rw [w1]; exact y1, y2, y3, y4, ?_, y6, ((FR.mono (by rfl) f1 : FR S_pc st u).trans w7).trans (p3.trans y7), by omega⟩
          have := w4.1
          exact fun j hj => (y5 j hj).trans ((Cs.p2 (st := w) (sz := sz') j (by omega)).trans (csu j (by omega)))
    · rw [if_neg q]
      exact Or.inr ⟨k, l, D, st, sz, rfl, stop m k l sz jx st r hj q, r, sg, Cs.rf, hb, FR.rf, Nat.le_refl _⟩
theorem termC {rc : TG3} {d ad : Int32} {N m i : Nat} {p : Ps1} (hp : Pc n b o N (rc.2 d) p) (hmo : Mo (tkT n b) Q0 p) {k l sz : Nat} {st : St} (r : RdC st n b o k l sz) (hi : i < 400) : (∃ j u, rTerm (tkT n b) p k l = .inl j ∧ fX3_sum_b4 rc (m + 1) d ad (nI i) st = some (0, u) ∧ sI u 7 6 = nI (plT n b j) ∧ FR S_pc st u) ∨ ∃ k' l' E u sz', rTerm (tkT n b) p k l = .inr (k', l', E) ∧ fX3_sum_b4 rc (m + 1) d ad (nI i) st = fX3_sum_b99 rc (fun zl1 zl2 zl3 zst => fX3_sum_b4 rc m zl1 zl2 zl3 zst) d ad (nI i) u ∧ RdC u n b o k' l' sz' ∧ Seg (nfo o) (sI u 14) sz sz' (N + 1) E ∧ Cs st u sz ∧ sz' + 2 * k ≤ sz + 2 * k' ∧ FR S_pc st u ∧ k < k' := by
  rw [fX3_sum_b4, if_neg (by rw [show (400 : Int32) = nI 400 from rfl, n_le (by omega) (by omega)]; omega)]
  unfold rTerm
  rcases hp k l sz st r with ⟨j, w, w1, w2, w3, w4⟩ | ⟨k', l', D', w, sz', w1, w2, w3, w4, w5, w6, w7⟩
  · refine Or.inl ⟨j, w, by rw [w1]; rfl, ?_, w3, w4⟩
    rw [w2, Option.bind_some, if_pos rfl]
  · have hm' := hmo _ _ _ _ _ w1
    rw [w1, w2, Option.bind_some, if_neg one0]
    show (∃ j u, rTermL (tkT n b) p 400 k' l' D' = .inl j ∧ _) ∨ ∃ k2 l2 E u sz2, rTermL (tkT n b) p 400 k' l' D' = .inr (k2, l2, E) ∧ _
    rcases mulC (K := fun zl1 zl2 zl3 zst => fX3_sum_b4 rc m zl1 zl2 zl3 zst) (ad := ad) (i := nI i) (p0 := sz) (k0 := k) hp hmo 400 FU k' l' sz' 0 D' w w3 (w4.mono (by omega)) w6 (by omega) (by unfold FU; omega) (by omega) with ⟨j, y, y1, y2, y3, y4⟩ | ⟨k2, l2, E, y, sz2, y1, y2, y3, y4, y5, y6, y7, y8⟩
    · exact Or.inl ⟨j, y, y1, y2, y3, w7.trans y4⟩
    · exact Or.inr ⟨k2, l2, E, y, sz2, y1, y2, y3, y4, Cs.tr w5 y5 (Nat.le_refl _), y6, w7.trans y7, by omega⟩
theorem addC {rc : TG3} {d : Int32} {N p0 k0 : Nat} {p : Ps1} (hp : Pc n b o N (rc.2 d) p) (hmo : Mo (tkT n b) Q0 p) (hmt : Mo (tkT n b) Q0 (rTerm (tkT n b) p)) : ∀ (F m i k l sz : Nat) (D : Dn) (st : St), RdC st n b o k l sz → Seg (nfo o) (sI st 14) p0 sz (N + 2) D → sz + 2 * k0 ≤ p0 + 2 * k → 400 ≤ F + k → F < m → 2 * i ≤ k → PC n b o (N + 2) st k l sz p0 k0 (rSumL (tkT n b) (rTerm (tkT n b) p) F k l D) (fX3_sum_b111 rc (fun zl1 zl2 zl3 zst => fX3_sum_b4 rc m zl1 zl2 zl3 zst) d (nI i) st) := by
  have stop : ∀ (m i k l sz : Nat) (st : St), RdC st n b o k l sz → ¬ ((tkT n b).2.1 k = 143 ∨ (tkT n b).2.1 k = 145) → fX3_sum_b111 rc (fun zl1 zl2 zl3 zst => fX3_sum_b4 rc m zl1 zl2 zl3 zst) d (nI i) st = some (1, st) := by
    intro m i k l sz st r hno
    unfold fX3_sum_b111
    rw [show (43 : Int32) = nI 43 from rfl, r.signN (by omega) (by omega), Option.bind_some, if_pos rfl, show (45 : Int32) = nI 45 from rfl, r.signN (by omega) (by omega), Option.bind_some, if_pos rfl]
  intro F
  induction F with
  | zero =>
    intro m i k l sz D st r sg hb h4 hm hi
    have hk0 : (tkT n b).2.1 k = 0 := r.2.1.2.1 k (by have := r.2.1.1; omega)
    exact Or.inr ⟨k, l, D, st, sz, rfl, stop m i k l sz st r (by omega), r, sg, Cs.rf, hb, FR.rf⟩
  | succ F ih =>
    intro m i k l sz D st r sg hb h4 hm hi
    obtain ⟨m, rfl⟩ : ∃ j, m = j + 1 := ⟨m - 1, by omega⟩
    unfold rSumL
    by_cases q : (tkT n b).2.1 k = 143 ∨ (tkT n b).2.1 k = 145
    · rw [if_pos q]
      have hk : k < (tkT n b).1 := in_T r.2.1 (by omega)
      have h400 := r.2.1.1
      have hp0 := sg.1
      obtain ⟨bx, bv⟩ := r.byte (c := (tkT n b).2.1 k) rfl (by omega) (by omega)
      have h131 : fX3_sum_b111 rc (fun zl1 zl2 zl3 zst => fX3_sum_b4 rc (m + 1) zl1 zl2 zl3 zst) d (nI i) st = fX3_sum_b131 rc (fun zl1 zl2 zl3 zst => fX3_sum_b4 rc (m + 1) zl1 zl2 zl3 zst) d (nI i) st := by
        unfold fX3_sum_b111
        by_cases q1 : (tkT n b).2.1 k = 143
        · rw [show (43 : Int32) = nI 43 from rfl, r.signY (by omega) (by omega), Option.bind_some, if_neg one0]
        · rw [show (43 : Int32) = nI 43 from rfl, r.signN (by omega) (by omega), Option.bind_some, if_pos rfl, show (45 : Int32) = nI 45 from rfl, r.signY (by omega) (by omega), Option.bind_some, if_neg one0]
      obtain ⟨u, e1, r1, f1⟩ := r.step hk
      rw [h131]
      unfold fX3_sum_b131
      rw [bx, chk_t, e1, Option.bind_some, bv, n_p1]
      show PC n b o (N + 2) st k l sz p0 k0 _ (fX3_sum_b4 rc (m + 1) d (nI ((tkT n b).2.1 k - 100)) (nI (i + 1)) u)
      rcases termC (ad := nI ((tkT n b).2.1 k - 100)) (m := m) (i := i + 1) hp hmo r1 (by omega) with ⟨j, w, w1, w2, w3, w4⟩ | ⟨k', l', E, w, sz', w1, w2, w3, w4, w5, w6, w7, w8⟩
      · exact Or.inl ⟨j, w, by rw [w1]; rfl, w2, w3, (FR.mono (by rfl) f1 : FR S_pc st u).trans w4⟩
      · obtain ⟨p1, p2, p3⟩ := w3.put (v := nI ((tkT n b).2.1 k - 100)) (by have := r.2.2.2.2.2.2.2.2.2; omega)
        have hne : ¬ nI ((tkT n b).2.1 k - 100) = 0 := by
          rw [show (0 : Int32) = nI 0 from rfl, n_eq (by omega) (by omega)]; omega
        have csu : Cs st w sz := Cs.tr (Cs.st (by rfl) f1) w5 (Nat.le_refl _)
        have sgD : Seg (nfo o) (sI (P2 w sz' (nI ((tkT n b).2.1 k - 100))) 14) p0 sz (N + 2) D := sg.eq (fun j h1 h2 => by
          have := w4.1
          rw [P2_c, if_neg (by omega)]; exact csu j h2)
        have sgE : Seg (nfo o) (sI (P2 w sz' (nI ((tkT n b).2.1 k - 100))) 14) sz sz' (N + 1) E := w4.eq (fun j h1 h2 => by rw [P2_c, if_neg (by omega)])
        have hJ : isJ ((tkT n b).2.1 k) := by unfold isJ; omega
        have sgJ := seg_jn sgD sgE hJ (by rw [P2_c, if_pos rfl]) (Nat.le_refl _)
        rw [w1, w2]
        unfold fX3_sum_b99
        rw [if_neg hne, p1, Option.bind_some]
        have := w4.1
        rcases ih m (i + 1) k' l' (sz' + 1) (dJn ((tkT n b).2.1 k) D E) _ p2 sgJ (by omega) (by omega) (by omega) (by omega) with ⟨j, y, y1, y2, y3, y4⟩ | ⟨k2, l2, E2, y, sz2, y1, y2, y3, y4, y5, y6, y7⟩
        · exact Or.inl ⟨j, y, y1, y2, y3, ((FR.mono (by rfl) f1 : FR S_pc st u).trans w7).trans (p3.trans y4)⟩
        · exact Or.inr ⟨k2, l2, E2, y, sz2, y1, y2, y3, y4, fun j hj => (y5 j hj).trans ((Cs.p2 (st := w) (sz := sz') j (by omega)).trans (csu j (by omega))), y6, ((FR.mono (by rfl) f1 : FR S_pc st u).trans w7).trans (p3.trans y7)⟩
    · rw [if_neg q]
      exact Or.inr ⟨k, l, D, st, sz, rfl, stop _ i k l sz st r q, r, sg, Cs.rf, hb, FR.rf⟩
theorem sumC {rc : TG3} {d : Int32} {N : Nat} {p : Ps1} (hp : Pc n b o N (rc.2 d) p) (hmo : Mo (tkT n b) Q0 p) (hmt : Mo (tkT n b) Q0 (rTerm (tkT n b) p)) : Pc n b o (N + 2) (fX3_sum_g rc d) (rSum (tkT n b) p) := by
  intro k l sz st r
  unfold fX3_sum_g rSum
  rcases termC (ad := 0) (m := 99999) (i := 0) hp hmo r (by omega) with ⟨j, w, w1, w2, w3, w4⟩ | ⟨k', l', E, w, sz', w1, w2, w3, w4, w5, w6, w7, w8⟩
  · exact Or.inl ⟨j, w, by rw [w1]; rfl, w2, w3, w4⟩
  · rw [w1, show fX3_sum_b4 rc FU d 0 0 st = _ from w2]
    unfold fX3_sum_b99
    rw [if_pos rfl]
    show PC n b o (N + 2) st k l sz sz k (rSumL (tkT n b) (rTerm (tkT n b) p) 400 k' l' E) _
    rcases addC (p0 := sz) (k0 := k) hp hmo hmt 400 99999 0 k' l' sz' E w w3 (w4.mono (by omega)) w6 (by omega) (by omega) (by omega) with ⟨j, y, y1, y2, y3, y4⟩ | ⟨k2, l2, E2, y, sz2, y1, y2, y3, y4, y5, y6, y7⟩
    · exact Or.inl ⟨j, y, y1, y2, y3, w7.trans y4⟩
    · exact Or.inr ⟨k2, l2, E2, y, sz2, y1, y2, y3, y4, Cs.tr w5 y5 (Nat.le_refl _), y6, w7.trans y7⟩
theorem sumDC (hn : n ≤ 400) (t : TkE (tkT n b)) : ∀ (m L : Nat), m ≤ 8 → Pc n b o (2 * m + 4) ((LG3 (2 * m + 2 + L)).1 (nI (8 - m))) (rSumD o (tkT n b) m) := by
  intro m
  induction m with
  | zero =>
    intro L _
    rw [show 2 * 0 + 2 + L = (L + 1) + 1 by omega]
    have hp : Pc n b o 2 (fX3_part_g (LG3 L) (nI 8)) (rPart o (tkT n b) none) := partC hn (by omega) (by omega) (fun s h => by cases h) (fun _ => rfl)
    have hm := mo_part (o := o) (sub := none) t (fun s h => by cases h)
    exact sumC (rc := LG3 (L + 1)) hp hm.q (mo_term hm).q
  | succ m ih =>
    intro L hm8
    rw [show 2 * (m + 1) + 2 + L = ((2 * m + 2 + L) + 1) + 1 by omega, show 2 * (m + 1) + 4 = (2 * m + 4) + 2 by omega]
    have hs := ih L (by omega)
    rw [show 8 - m = (8 - (m + 1)) + 1 by omega] at hs
    have hp : Pc n b o (2 * m + 4) (fX3_part_g (LG3 (2 * m + 2 + L)) (nI (8 - (m + 1)))) (rPart o (tkT n b) (some (rSumD o (tkT n b) m))) := partC hn (by omega) (by omega) (fun s h => by rw [← Option.some.inj h]; exact ⟨by omega, hs⟩) (fun h => by cases h)
    have hm := mo_part (o := o) (sub := some (rSumD o (tkT n b) m)) t (fun s h => by rw [← Option.some.inj h]; exact mo_sumD t m)
    exact sumC (rc := LG3 (2 * m + 2 + L + 1)) hp hm.q (mo_term hm).q
theorem sumX (hn : n ≤ 400) (t : TkE (tkT n b)) {m : Nat} (hm : m ≤ 8) : Pc n b o (2 * m + 4) (fX3_sum (nI (8 - m))) (rSumD o (tkT n b) m) := by
  have h := sumDC (o := o) hn t m (100 - (2 * m + 2)) hm
  rw [show 2 * m + 2 + (100 - (2 * m + 2)) = 100 by omega] at h
  exact h
end
