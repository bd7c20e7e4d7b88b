/-! the class's reader: a text -/
section
variable {n : Nat} {b : Nat → Int32} {o : Bool}
abbrev S_cr : List (Nat × Option Nat) := [(7, some 2), (7, some 3), (7, some 4), (7, some 5), (7, some 6), (7, some 7), (7, some 8), (9, some 5), (9, some 6), (9, some 7), (10, none), (11, none), (12, none), (13, none), (14, none)]
theorem frA {S : List (Nat × Option Nat)} {st u : St} {i : Nat} (e : (hasA S 10 || hasA S 11 || hasA S 12 || hasA S 13) = false) (f : FR S st u) : ∀ a, 10 ≤ a → a ≤ 13 → sI u a i = sI st a i := by
  intro a h1 h2
  simp only [Bool.or_eq_false_iff] at e
  have hcs : a = 10 ∨ a = 11 ∨ a = 12 ∨ a = 13 := by omega
  rcases hcs with rfl | rfl | rfl | rfl
  · exact f.i (hasA_in e.1.1.1)
  · exact f.i (hasA_in e.1.1.2)
  · exact f.i (hasA_in e.1.2)
  · exact f.i (hasA_in e.2)
def CR (n : Nat) (b : Nat → Int32) (o : Bool) (st : St) (L : List Cls) (z : Nat ⊕ List Cls) (w : Option (Int32 × St)) : Prop := (∃ j u, z = .inl j ∧ w = some (nI (plT n b j), u) ∧ sI u 7 2 = 0 ∧ FR S_cr st u) ∨ ∃ L' u k l sz, z = .inr L' ∧ w = some (-1, pI u 7 2 0) ∧ RA u n b o k l sz (L ++ L') ∧ FR S_cr st u
theorem CR.fr {st st' : St} {L : List Cls} {z : Nat ⊕ List Cls} {w : Option (Int32 × St)} (f : FR S_cr st st') (h : CR n b o st' L z w) : CR n b o st L z w := by
  rcases h with ⟨j, u, h1, h2, h3, h4⟩ | ⟨L', u, k, l, sz, h1, h2, h3, h4⟩
  · exact Or.inl ⟨j, u, h1, h2, h3, f.trans h4⟩
  · exact Or.inr ⟨L', u, k, l, sz, h1, h2, h3, f.trans h4⟩
theorem b79_bad {st : St} {L : List Cls} {j : Nat} (h : sI st 7 6 = nI (plT n b j)) : CR n b o st L (.inl j) (fX3_readAll_b79 0 st) := by
  unfold fX3_readAll_b79
  have e : sI (pI st 7 2 0) 7 6 = nI (plT n b j) := by rw [sI_pI, if_neg (by omega)]; exact h
  rw [if_pos rfl, e]
  exact Or.inl ⟨j, pI st 7 2 0, rfl, rfl, by rw [sI_pI, if_pos ⟨rfl, rfl⟩], FR.pI (by rfl) FR.rf⟩
theorem all_loop (hn : n ≤ 400) (t : TkE (tkT n b)) : ∀ (F m k l sz : Nat) (L : List Cls) (st : St), F + L.length = 12 → F < m → RA st n b o k l sz L → CR n b o st L (rAll o (tkT n b) F k l) (fX3_readAll_b30 m 0 (nI L.length) st) := by
  intro F
  induction F with
  | zero =>
    intro m k l sz L st hc hm r
    obtain ⟨m, rfl⟩ : ∃ j, m = j + 1 := ⟨m - 1, by omega⟩
    rw [fX3_readAll_b30, rAll, if_pos (show (12 : Int32) ≤ nI L.length by rw [show L.length = 12 by omega]; decide)]
    exact b79_bad r.1.pl
  | succ F ih =>
    intro m k l sz L st hc hm r
    obtain ⟨m, rfl⟩ : ∃ j, m = j + 1 := ⟨m - 1, by omega⟩
    have e12 : ((12 : Int32) ≤ nI L.length) = (12 ≤ L.length) := n_le (a := 12) (by omega) (by omega)
    rw [fX3_readAll_b30, rAll]
    simp only [e12]
    rw [if_neg (show ¬ 12 ≤ L.length by omega)]
    rcases clauseC hn t r (by omega) with ⟨j, u, w1, w2, w3, w4⟩ | ⟨k', l', c, u, sz', w1, w2, w3, w4⟩
    · rw [w1, w2, Option.bind_some, if_pos rfl]
      exact (b79_bad w3).fr (FR.mono (by rfl) w4)
    · rw [w1, w2, Option.bind_some, if_neg one0]
      simp only []
      have f4 : FR S_cr st u := FR.mono (by rfl) w4
      have hk := (kind_at w3.1.1 w3.1.2.2.1).2
      simp only [hk]
      unfold fX3_readAll_b56
      by_cases q : (tkT n b).2.1 k' = 159
      · have hlt := in_T t (k := k') (by omega)
        rw [if_pos q, if_neg (show ¬ (tkT n b).1 ≤ k' by omega), show (59 : Int32) = nI 59 from rfl, w3.1.signY (by omega) (by omega), Option.bind_some, if_neg one0]
        obtain ⟨v, e1, r1, f1⟩ := w3.1.step hlt
        rw [e1, Option.bind_some, n_p1]
        have hlen : (L ++ [c]).length = L.length + 1 := by rw [List.length_append]; rfl
        have ra : RA v n b o (k' + 1) l' sz' (L ++ [c]) := by
          obtain ⟨_, a2, a3, ⟨ku, a4, a5⟩, a6, a7⟩ := w3
          exact ⟨r1, a2, (f1.i (by rfl)).trans a3, ⟨ku, (f1.i (by rfl)).trans a4, a5⟩, fun i d hd => CIm_fr (Nat.le_refl _) (frA (by rfl) f1) (fun j _ => f1.i (hasA_in (by rfl))) (a6 i d hd), a7⟩
        have := ih m (k' + 1) l' sz' (L ++ [c]) v (by omega) (by omega) ra
        rw [hlen] at this
        have ff : FR S_cr st v := f4.trans (FR.mono (by rfl) f1)
        rcases this with ⟨j, x, h1, h2, h3, h4⟩ | ⟨L', x, k2, l2, sz2, h1, h2, h3, h4⟩
        · rw [h1]
          exact Or.inl ⟨j, x, rfl, h2, h3, ff.trans h4⟩
        · rw [h1]
          exact Or.inr ⟨c :: L', x, k2, l2, sz2, rfl, h2, by rw [List.append_assoc] at h3; exact h3, ff.trans h4⟩
      · rw [if_neg q]
        have hs := w3.1.signN (c := 59) (by omega) (by omega)
        by_cases q2 : (tkT n b).1 ≤ k'
        · rw [if_pos q2, if_pos q2, show (59 : Int32) = nI 59 from rfl, hs, Option.bind_some, if_pos rfl]
          unfold fX3_readAll_b79
          rw [if_neg one0]
          exact Or.inr ⟨[c], u, k', l', sz', rfl, rfl, w3, f4⟩
        · rw [if_neg q2, if_neg q2, show (59 : Int32) = nI 59 from rfl, hs, Option.bind_some, if_pos rfl]
          exact (b79_bad w3.1.pl).fr f4
/-- a text is read by the class -/
theorem readAllC {st : St} (t : TkE (tkT n b)) (tc : Tc st n b) (h14 : sN st 14 = 826) : (∃ j u, rAll o (tkT n b) 12 0 0 = .inl j ∧ fX3_readAll (b2i (!o)) st = some (nI (plT n b j), u) ∧ sI u 7 2 = 0 ∧ FR S_cr st u) ∨ ∃ L u, rAll o (tkT n b) 12 0 0 = .inr L ∧ fX3_readAll (b2i (!o)) st = some (-1, u) ∧ sI u 7 2 = 0 ∧ FR S_cr st u ∧ Impl (nfo o) (scr u 9) L ∧ ∃ sz, sI u 9 6 = nI sz ∧ 1 ≤ sz ∧ sz ≤ 826 := by
  have hn := tc.2.1
  unfold fX3_readAll fX5_clear
  have hib : isb (b2i (!o)) = true := by cases o <;> rfl
  rw [hib, chk_t, Option.bind_some]
  have f1 : FR S_cr st (pI (pI (pI (pI (pI (pI st 7 3 (b2i (!o))) 7 4 0) 7 7 0) 9 5 0) 9 6 1) 9 7 0) := FR.pI (by rfl) (FR.pI (by rfl) (FR.pI (by rfl) (FR.pI (by rfl) (FR.pI (by rfl) (FR.pI (by rfl) FR.rf)))))
  have f1' : FR [(7, some 3), (7, some 4), (7, some 7), (9, some 5), (9, some 6), (9, some 7)] st (pI (pI (pI (pI (pI (pI st 7 3 (b2i (!o))) 7 4 0) 7 7 0) 9 5 0) 9 6 1) 9 7 0) := FR.pI (by rfl) (FR.pI (by rfl) (FR.pI (by rfl) (FR.pI (by rfl) (FR.pI (by rfl) (FR.pI (by rfl) FR.rf)))))
  have c3 : sI (pI (pI (pI (pI (pI (pI st 7 3 (b2i (!o))) 7 4 0) 7 7 0) 9 5 0) 9 6 1) 9 7 0) 7 3 = b2i (!o) := by
    rw [sI_pI, if_neg (by omega), sI_pI, if_neg (by omega), sI_pI, if_neg (by omega), sI_pI, if_neg (by omega), sI_pI, if_neg (by omega), sI_pI, if_pos ⟨rfl, rfl⟩]
  have c4 : sI (pI (pI (pI (pI (pI (pI st 7 3 (b2i (!o))) 7 4 0) 7 7 0) 9 5 0) 9 6 1) 9 7 0) 7 4 = 0 := by
    rw [sI_pI, if_neg (by omega), sI_pI, if_neg (by omega), sI_pI, if_neg (by omega), sI_pI, if_neg (by omega), sI_pI, if_pos ⟨rfl, rfl⟩]
  have c7 : sI (pI (pI (pI (pI (pI (pI st 7 3 (b2i (!o))) 7 4 0) 7 7 0) 9 5 0) 9 6 1) 9 7 0) 7 7 = 0 := by
    rw [sI_pI, if_neg (by omega), sI_pI, if_neg (by omega), sI_pI, if_neg (by omega), sI_pI, if_pos ⟨rfl, rfl⟩]
  have c95 : sI (pI (pI (pI (pI (pI (pI st 7 3 (b2i (!o))) 7 4 0) 7 7 0) 9 5 0) 9 6 1) 9 7 0) 9 5 = 0 := by
    rw [sI_pI, if_neg (by omega), sI_pI, if_neg (by omega), sI_pI, if_pos ⟨rfl, rfl⟩]
  have c96 : sI (pI (pI (pI (pI (pI (pI st 7 3 (b2i (!o))) 7 4 0) 7 7 0) 9 5 0) 9 6 1) 9 7 0) 9 6 = 1 := by
    rw [sI_pI, if_neg (by omega), sI_pI, if_pos ⟨rfl, rfl⟩]
  have c97 : sI (pI (pI (pI (pI (pI (pI st 7 3 (b2i (!o))) 7 4 0) 7 7 0) 9 5 0) 9 6 1) 9 7 0) 9 7 = 0 := by
    rw [sI_pI, if_pos ⟨rfl, rfl⟩]
  generalize pI (pI (pI (pI (pI (pI st 7 3 (b2i (!o))) 7 4 0) 7 7 0) 9 5 0) 9 6 1) 9 7 0 = s1 at *
  have tc1 : Tc s1 n b := tc.fr (by rfl) f1'
  obtain ⟨u, e1, e2, e3⟩ := step7 (k := 0) tc1 ⟨0, by omega, c7, rfl⟩
  rw [e1, Option.bind_some]
  have ra : RA u n b o 0 0 1 [] := by
    refine ⟨⟨tc1.fr (by rfl) e3, t, e2, Nat.zero_le _, (e3.i (by rfl)).trans c4, by omega, (e3.i (by rfl)).trans c3, (e3.i (by rfl)).trans c96, Nat.le_refl _, by omega⟩, by show 0 ≤ 12; omega, (e3.i (by rfl)).trans c95, ⟨0, (e3.i (by rfl)).trans c97, by omega, fun k hk => ?_⟩, fun i c hc => (by cases hc), fun c hc => (by cases hc)⟩
    have : ∀ k, k < 4 → ¬ bit 0 k = 1 := by decide
    exact ⟨fun h => absurd h (this k hk), fun ⟨c, hc, _⟩ => by cases hc⟩
  rcases all_loop hn t 12 FU 0 0 1 [] u (by rfl) (by decide) ra with ⟨j, v, w1, w2, w3, w4⟩ | ⟨L, v, k, l, sz, w1, w2, w3, w4⟩
  · exact Or.inl ⟨j, v, w1, w2, w3, (f1.trans (FR.mono (by rfl) e3)).trans w4⟩
  · have ff : FR S_cr st (pI v 7 2 0) := ((f1.trans (FR.mono (by rfl) e3)).trans w4).trans (FR.pI (by rfl) FR.rf)
    have fl : FR [(7, some 2)] v (pI v 7 2 0) := FR.pI (by rfl) FR.rf
    refine Or.inr ⟨L, pI v 7 2 0, w1, w2, by rw [sI_pI, if_pos ⟨rfl, rfl⟩], ff, ?_⟩
    rw [List.nil_append] at w3
    obtain ⟨r, a2, a3, ⟨ku, a4, a5⟩, a6, a7⟩ := w3
    have hsz := r.2.2.2.2.2.2.2.2.2
    have hk := r.2.2.2.1
    have ht := t.1
    have h826 : sz ≤ 826 := by omega
    refine ⟨?_, sz, (fl.i (by rfl)).trans r.2.2.2.2.2.2.2.1, r.2.2.2.2.2.2.2.2.1, h826⟩
    refine ⟨a2, ?_, sz, 826, ku, h826, h826, by omega, ?_, ?_, ?_, a5.1, a5.2, fun i c hc => ?_, a7⟩
    · rw [scr_9 (by omega)]; exact (fl.i (by rfl)).trans a3
    · show nI (min (sN (pI v 7 2 0) (9 + 5)) 1000) = nI 826
      rw [(ff.1.2.1 14).2, h14]; rfl
    · rw [scr_9 (by omega)]; exact (fl.i (by rfl)).trans r.2.2.2.2.2.2.2.1
    · rw [scr_9 (by omega)]; exact (fl.i (by rfl)).trans a4
    · exact CIm_fr (Nat.le_refl _) (frA (by rfl) fl) (fun j _ => fl.i (hasA_in (by rfl))) (a6 i c hc)
end
