/-! the class's reader: tests -/
section
variable {n : Nat} {b : Nat → Int32} {o : Bool}
/-- what is put ahead of a jump, and on to the next token -/
theorem jmpC {st : St} {k l sz : Nat} {c : Int32} (r : RdC st n b o k l sz) (hk : k < (tkT n b).1) : ∃ w u, fX5_putJump c st = some (nI (sz + 1), w) ∧ fX3_step w = some u ∧ RdC u n b o (k + 1) l (sz + 2) ∧ sI u 14 sz = c ∧ Cs st u sz ∧ FR S_pc st u := by
  obtain ⟨r1, r2, r3, r4, r5, r6, r7, r8, r9, r10⟩ := r
  have h4 := r2.1
  have f1 : FR [(14, none), (9, some 6)] st (P2 (P2 st sz c) (sz + 1) 0) := FR.pI (by rfl) (FR.pI (by rfl) (FR.pI (by rfl) (FR.pI (by rfl) FR.rf)))
  have put : ∀ (s : St) (z : Nat) (v : Int32), sI s 9 6 = nI z → z < 826 → fX5_put v s = some (P2 s z v) := by
    intro s z v h hz
    unfold fX5_put
    have e6 : sI (pI s 14 z v) 9 6 = nI z := by rw [sI_pI, if_neg (by omega)]; exact h
    rw [h, if_neg (by rw [show (826 : Int32) = nI 826 from rfl, n_le (by omega) (by omega)]; omega), n_ixb (by omega), decide_eq_true hz, chk_t, n_toNat (by omega), e6, n_p1]
  obtain ⟨u, e1, e2, e3⟩ := step7 (r1.fr (by rfl) f1) ((r3.fr (by rfl) f1).bf hk)
  have e96 : sI (P2 (P2 st sz c) (sz + 1) 0) 9 6 = nI (sz + 2) := by rw [sI_pI, if_pos ⟨rfl, rfl⟩]
  refine ⟨_, u, ?_, e1, ⟨(r1.fr (by rfl) f1).fr (by rfl) e3, r2, e2, by omega, ?_, r6, ?_, (e3.i (by rfl)).trans e96, by omega, by omega⟩, ?_, fun j hj => ?_, (FR.mono (by rfl) f1 : FR S_pc st _).trans (FR.mono (by rfl) e3)⟩
  · unfold fX5_putJump
    rw [put st sz c r8 (by omega), Option.bind_some, put (P2 st sz c) (sz + 1) 0 (by rw [sI_pI, if_pos ⟨rfl, rfl⟩]) (by omega), Option.bind_some, e96, n_one (by omega)]
    rfl
  · rw [e3.i (by rfl), f1.i (by rfl)]; exact r5
  · rw [e3.i (by rfl), f1.i (by rfl)]; exact r7
  · rw [e3.i (hasA_in (by rfl)), P2_c, if_neg (by omega), P2_c, if_pos rfl]
  · rw [e3.i (hasA_in (by rfl)), P2_c, if_neg (by omega), P2_c, if_neg (by omega)]
theorem land0 {st : St} : fX5_land 0 st = some st := by
  unfold fX5_land
  rw [if_pos (by decide)]
theorem RdC.land {st : St} {k l sz j : Nat} (r : RdC st n b o k l sz) (h1 : 1 ≤ j) (h2 : j < sz) : fX5_land (nI j) st = some (pI st 14 j (nI sz)) ∧ RdC (pI st 14 j (nI sz)) n b o k l sz ∧ FR S_pc st (pI st 14 j (nI sz)) := by
  obtain ⟨r1, r2, r3, r4, r5, r6, r7, r8, r9, r10⟩ := r
  have h4 := r2.1
  have f1 : FR [(14, none)] st (pI st 14 j (nI sz)) := FR.pI (by rfl) FR.rf
  refine ⟨?_, ⟨r1.fr (by rfl) f1, r2, r3.fr (by rfl) f1, r4, (f1.i (by rfl)).trans r5, r6, (f1.i (by rfl)).trans r7, (f1.i (by rfl)).trans r8, r9, r10⟩, FR.mono (by rfl) f1⟩
  unfold fX5_land
  rw [if_neg (by rw [show (0 : Int32) = nI 0 from rfl, n_le (by omega) (by omega)]; omega), if_neg (by rw [show (826 : Int32) = nI 826 from rfl, n_le (by omega) (by omega)]; omega), n_ixb (by omega), decide_eq_true (show j < 826 by omega), chk_t, n_toNat (by omega), r8]
theorem lnd_c {st : St} {j sz i : Nat} : sI (pI st 14 j (nI sz)) 14 i = if i = j then nI sz else sI st 14 i := by
  rw [sI_pI]
  by_cases c : i = j
  · rw [if_pos ⟨rfl, c⟩, if_pos c]
  · rw [if_neg (by omega), if_neg c]
theorem not_f {D : Dn} : dNot false D = D := by funext f; unfold dNot; simp
/-- "not" at the end of a plain test -/
theorem notC {rc : TG4} {M p0 k0 k l sz : Nat} {g : Bool} {D : Dn} {st s0 : St} (r : RdC st n b o k l sz) (sg : Seg (nfo o) (sI st 14) p0 sz M D) (cs : Cs s0 st p0) (fs : FR S_pc s0 st) (hb : sz + 1 + 2 * k0 ≤ p0 + 2 * k) (hp : p0 ≤ 1 + 2 * k0) {k9 l9 sz9 : Nat} : PC n b o M s0 k9 l9 sz9 p0 k0 (.inr (k, l, dNot g D)) (fX3_plain_b158 rc (b2i g) st) := by
  unfold fX3_plain_b158
  simp only [b2i_0]
  cases g with
  | false =>
    rw [if_pos rfl, not_f]
    exact Or.inr ⟨k, l, D, st, sz, rfl, rfl, r, sg, cs, by omega, fs⟩
  | true =>
    have := sg.1
    obtain ⟨p1, p2, p3⟩ := r.put (v := 5) (by omega)
    rw [if_neg (by decide), p1, Option.bind_some]
    exact Or.inr ⟨k, l, dNot true D, _, sz + 1, rfl, rfl, p2, seg_not (sg.eq (fun j h1 h2 => by rw [P2_c, if_neg (by omega)])) (by rw [P2_c, if_pos rfl]), fun j hj => (Cs.p2 (st := st) (sz := sz) j (by omega)).trans (cs j hj), by omega, fs.trans p3⟩
theorem posC {rc : TG4} {d S : Nat} {sum : Ps1} {sub : Option Ps1} {g : Bool} (hd : d ≤ 8) (hs : Pc n b o S (fX3_sum (nI d)) sum) (hms : Mo (tkT n b) Q0 sum) (hsub : ∀ s, sub = some s → d < 8 ∧ Pc n b o (S + 1) (rc.1 (nI (d + 1))) s) (hnone : sub = none → d = 8) : Pc n b o (S + 1) (fun st => fX3_plain_b40 rc (nI d) (b2i g) st) (rPos (tkT n b) sum sub g) := by
  intro k l sz st r
  have hT := r.2.1.2.2 k
  have h400 := r.2.1.1
  have hsz := r.2.2.2.2.2.2.2.2.2
  show PC n b o (S + 1) st k l sz sz k _ (fX3_plain_b40 rc (nI d) (b2i g) st)
  unfold fX3_plain_b40 rPos
  by_cases q : (tkT n b).2.1 k = 140
  · rw [show (40 : Int32) = nI 40 from rfl, r.signY (by omega) (by omega), Option.bind_some, if_neg one0, if_pos q]
    have hk : k < (tkT n b).1 := in_T r.2.1 (by omega)
    have e8 : (nI d < (8 : Int32)) = (d < 8) := n_lt (b := 8) (by omega) (by omega)
    simp only [e8]
    cases sub with
    | none =>
      rw [if_neg (by have := hnone rfl; omega)]
      exact Or.inl ⟨k, st, rfl, rfl, r.pl, FR.rf⟩
    | some s =>
      obtain ⟨h8, hs'⟩ := hsub s rfl
      rw [if_pos h8]
      show PC n b o (S + 1) st k l sz sz k (rThen (s (k + 1) l) (fun k' l' D => if (tkT n b).2.1 k' = 141 then .inr (k' + 1, l', dNot g D) else .inl k')) _
      obtain ⟨u, e1, r1, f1⟩ := r.step hk
      rw [e1, Option.bind_some, n_p1]
      rcases hs' (k + 1) l sz u r1 with ⟨j, w, w1, w2, w3, w4⟩ | ⟨k', l', D, w, sz', w1, w2, w3, w4, w5, w6, w7⟩
      · refine Or.inl ⟨j, w, by rw [w1]; rfl, ?_, w3, (FR.mono (by rfl) f1 : FR S_pc st u).trans w4⟩
        rw [w2, Option.bind_some, if_pos rfl]
      · rw [w1, w2, Option.bind_some, if_neg one0]
        show PC n b o (S + 1) st k l sz sz k (if (tkT n b).2.1 k' = 141 then .inr (k' + 1, l', dNot g D) else .inl k') _
        by_cases c : (tkT n b).2.1 k' = 141
        · rw [if_pos c, show (41 : Int32) = nI 41 from rfl, w3.signY (by omega) (by omega), Option.bind_some, if_neg one0]
          obtain ⟨y, y1, y2, y3⟩ := w3.step (in_T r.2.1 (by omega))
          rw [y1, Option.bind_some]
          exact notC y2 (w4.eq (fun j _ _ => y3.i (hasA_in (by rfl)))) (Cs.tr (Cs.st (by rfl) f1) (Cs.tr w5 (Cs.st (sz := sz) (by rfl) y3) (Nat.le_refl _)) (Nat.le_refl _)) (((FR.mono (by rfl) f1 : FR S_pc st u).trans w7).trans (FR.mono (by rfl) y3)) (by omega) hsz
        · rw [if_neg c, show (41 : Int32) = nI 41 from rfl, w3.signN (by omega) (by omega), Option.bind_some, if_pos rfl]
          exact Or.inl ⟨k', w, rfl, rfl, w3.pl, (FR.mono (by rfl) f1 : FR S_pc st u).trans w7⟩
  · rw [show (40 : Int32) = nI 40 from rfl, r.signN (by omega) (by omega), Option.bind_some, if_pos rfl, if_neg q]
    rcases hs k l sz st r with ⟨j, w, w1, w2, w3, w4⟩ | ⟨k1, l1, D1, w, sz1, w1, w2, w3, w4, w5, w6, w7⟩
    · refine Or.inl ⟨j, w, by rw [w1]; rfl, ?_, w3, w4⟩
      rw [w2, Option.bind_some, if_pos rfl]
    · rw [w1, w2, Option.bind_some, if_neg one0]
      show PC n b o (S + 1) st k l sz sz k (if (tkT n b).2.1 k1 = 160 ∨ (tkT n b).2.1 k1 = 161 ∨ (tkT n b).2.1 k1 = 162 then rThen (sum (k1 + 1) l1) (fun k2 l2 D2 => .inr (k2, l2, dNot g (dJn ((tkT n b).2.1 k1) D1 D2))) else .inl k1) _
      by_cases c : (tkT n b).2.1 k1 = 160 ∨ (tkT n b).2.1 k1 = 161 ∨ (tkT n b).2.1 k1 = 162
      · rw [if_pos c]
        have hk1 : k1 < (tkT n b).1 := in_T r.2.1 (by omega)
        obtain ⟨bx, bv⟩ := w3.byte (c := (tkT n b).2.1 k1) rfl (by omega) (by omega)
        have h126 : ((fX3_isSign w (60 : Int32)).bind (fun q7 => if q7 = 0 then ((fX3_isSign w (62 : Int32)).bind (fun q10 => if q10 = 0 then ((fX3_isSign w (61 : Int32)).bind (fun q13 => if q13 = 0 then (some ((0 : Int32), w)) else (fX3_plain_b126 rc (nI d) (b2i g) w))) else (fX3_plain_b126 rc (nI d) (b2i g) w))) else (fX3_plain_b126 rc (nI d) (b2i g) w))) = fX3_plain_b126 rc (nI d) (b2i g) w := by
          by_cases z0 : (tkT n b).2.1 k1 = 160
          · rw [show (60 : Int32) = nI 60 from rfl, w3.signY (by omega) (by omega), Option.bind_some, if_neg one0]
          · rw [show (60 : Int32) = nI 60 from rfl, w3.signN (by omega) (by omega), Option.bind_some, if_pos rfl]
            by_cases z2 : (tkT n b).2.1 k1 = 162
            · rw [show (62 : Int32) = nI 62 from rfl, w3.signY (by omega) (by omega), Option.bind_some, if_neg one0]
            · rw [show (62 : Int32) = nI 62 from rfl, w3.signN (by omega) (by omega), Option.bind_some, if_pos rfl, show (61 : Int32) = nI 61 from rfl, w3.signY (by omega) (by omega), Option.bind_some, if_neg one0]
        rw [h126]
        unfold fX3_plain_b126
        obtain ⟨u, e1, r1, f1⟩ := w3.step hk1
        rw [bx, chk_t, e1, Option.bind_some, bv]
        rcases hs (k1 + 1) l1 sz1 u r1 with ⟨j, y, y1, y2, y3, y4⟩ | ⟨k2, l2, D2, y, sz2, y1, y2, y3, y4, y5, y6, y7⟩
        · refine Or.inl ⟨j, y, by rw [y1]; rfl, ?_, y3, w7.trans ((FR.mono (by rfl) f1 : FR S_pc w u).trans y4)⟩
          rw [y2, Option.bind_some, if_pos rfl]
        · have hm2 := hms _ _ _ _ _ y1
          have hm1 := hms _ _ _ _ _ w1
          obtain ⟨p1, p2, p3⟩ := y3.put (v := nI ((tkT n b).2.1 k1 - 100)) (by omega)
          rw [y1, y2, Option.bind_some, if_neg one0, p1, Option.bind_some]
          have hl1 := w4.1
          have hl2 := y4.1
          have csu : Cs w y sz1 := Cs.tr (Cs.st (by rfl) f1) y5 (Nat.le_refl _)
          have sgD : Seg (nfo o) (sI (P2 y sz2 (nI ((tkT n b).2.1 k1 - 100))) 14) sz sz1 S D1 := w4.eq (fun j h1 h2 => by
            rw [P2_c, if_neg (by omega)]; exact csu j h2)
          have sgE : Seg (nfo o) (sI (P2 y sz2 (nI ((tkT n b).2.1 k1 - 100))) 14) sz1 sz2 S D2 := y4.eq (fun j h1 h2 => by rw [P2_c, if_neg (by omega)])
          have hJ : isJ ((tkT n b).2.1 k1) := by unfold isJ; omega
          have sgJ := seg_jn sgD sgE hJ (by rw [P2_c, if_pos rfl]) (by omega)
          exact notC p2 sgJ (fun j hj => (Cs.p2 (st := y) (sz := sz2) j (by omega)).trans ((csu j (by omega)).trans (w5 j hj))) ((w7.trans ((FR.mono (by rfl) f1 : FR S_pc w u).trans y7)).trans p3) (by omega) hsz
      · rw [if_neg c, show (60 : Int32) = nI 60 from rfl, w3.signN (by omega) (by omega), Option.bind_some, if_pos rfl, show (62 : Int32) = nI 62 from rfl, w3.signN (by omega) (by omega), Option.bind_some, if_pos rfl, show (61 : Int32) = nI 61 from rfl, w3.signN (by omega) (by omega), Option.bind_some, if_pos rfl]
        exact Or.inl ⟨k1, w, rfl, rfl, w3.pl, w7⟩
theorem plainC {rc : TG4} {d S : Nat} {sum : Ps1} {sub : Option Ps1} (hd : d ≤ 8) (hs : Pc n b o S (fX3_sum (nI d)) sum) (hms : Mo (tkT n b) Q0 sum) (hsub : ∀ s, sub = some s → d < 8 ∧ Pc n b o (S + 1) (rc.1 (nI (d + 1))) s) (hnone : sub = none → d = 8) : Pc n b o (S + 1) (fX3_plain_g rc (nI d)) (rPlain (tkT n b) sum sub) := by
  have loop : ∀ (F m k l sz i : Nat) (g : Bool) (st : St), RdC st n b o k l sz → 400 ≤ F + k → F < m → i ≤ k → PC n b o (S + 1) st k l sz sz k (rPos (tkT n b) sum sub (rNots (tkT n b) F k g).2 (rNots (tkT n b) F k g).1 l) (fX3_plain_b4 rc m (nI d) (b2i g) (nI i) st) := by
    intro F
    induction F with
    | zero =>
      intro m k l sz i g st r h4 hm hi
      obtain ⟨m, rfl⟩ : ∃ j, m = j + 1 := ⟨m - 1, by omega⟩
      have hk0 : (tkT n b).2.1 k = 0 := r.2.1.2.1 k (by have := r.2.1.1; omega)
      rw [fX3_plain_b4]
      split
      · exact posC hd hs hms hsub hnone k l sz st r
      · rw [r.which (by omega), Option.bind_some, hk0, if_neg (by decide)]
        exact posC hd hs hms hsub hnone k l sz st r
    | succ F ih =>
      intro m k l sz i g st r h4 hm hi
      obtain ⟨m, rfl⟩ : ∃ j, m = j + 1 := ⟨m - 1, by omega⟩
      unfold rNots
      by_cases q : (tkT n b).2.1 k = 8
      · have hk : k < (tkT n b).1 := in_T r.2.1 (by omega)
        have h400 := r.2.1.1
        rw [fX3_plain_b4, if_neg (show ¬ (400 : Int32) ≤ nI i by rw [show (400 : Int32) = nI 400 from rfl, n_le (by omega) (by omega)]; omega), r.which (by omega), Option.bind_some, show whR 6 ((tkT n b).2.1 k) = 0 by rw [q]; rfl, if_pos rfl]
        simp only [q, if_true, b2i_0]
        unfold fX3_plain_b29
        obtain ⟨u, e1, r1, f1⟩ := r.step hk
        simp only [e1, Option.bind_some, n_p1]
        have hsame : (if g = false then fX3_plain_b4 rc m (nI d) 1 (nI (i + 1)) u else fX3_plain_b4 rc m (nI d) 0 (nI (i + 1)) u) = fX3_plain_b4 rc m (nI d) (b2i (!g)) (nI (i + 1)) u := by
          cases g <;> rfl
        show PC n b o (S + 1) st k l sz sz k _ (if g = false then fX3_plain_b4 rc m (nI d) 1 (nI (i + 1)) u else fX3_plain_b4 rc m (nI d) 0 (nI (i + 1)) u)
        rw [hsame]
        rcases ih m (k + 1) l sz (i + 1) (!g) u r1 (by omega) (by omega) (by omega) with ⟨j, y, y1, y2, y3, y4⟩ | ⟨k2, l2, E2, y, sz2, y1, y2, y3, y4, y5, y6, y7⟩
        · exact Or.inl ⟨j, y, y1, y2, y3, (FR.mono (by rfl) f1 : FR S_pc st u).trans y4⟩
        · exact Or.inr ⟨k2, l2, E2, y, sz2, y1, y2, y3, y4, Cs.tr (Cs.st (by rfl) f1) y5 (Nat.le_refl _), by omega, (FR.mono (by rfl) f1 : FR S_pc st u).trans y7⟩
      · simp only [q, if_false]
        rw [fX3_plain_b4]
        split
        · exact posC hd hs hms hsub hnone k l sz st r
        · have hw : ¬ whR 6 ((tkT n b).2.1 k) = 0 := by unfold whR; simp only []; rw [if_neg q]; decide
          rw [r.which (by omega), Option.bind_some, if_neg hw]
          exact posC hd hs hms hsub hnone k l sz st r
  intro k l sz st r
  exact loop 400 FU k l sz 0 false st r (by omega) (by unfold FU; omega) (by omega)
abbrev K4t : Type := Int32 → Int32 → Int32 → St → Option (Int32 × St)
/-- behind a plain test -/
abbrev midB (rc : TG4) (K : K4t) (m : Nat) (d oj i j : Int32) (st : St) : Option (Int32 × St) := (fX3_which st 7).bind (fun q7 => if q7 = (-1 : Int32) then (fX3_test_b77 rc K d oj i st) else ((fX5_putJump (3 : Int32) st).bind (fun q10 => (fX3_step q10.2).bind (fun q12 => fX3_test_b17 rc K m d oj i q10.1 (j + (1 : Int32)) q12))))
theorem bothL_C {rc : TG4} {K : K4t} {d oj i : Int32} {M p0 k0 : Nat} {p : Ps1} (hp : Pc n b o M (rc.2 d) p) (hmo : Mo (tkT n b) Q0 p) : ∀ (F m k l sz jx : Nat) (D : Dn) (st : St), RdC st n b o k l sz → Seg (nfo o) (sI st 14) p0 sz M D → sz + 2 * k0 ≤ p0 + 2 * k → 1 ≤ p0 → 400 ≤ F + k → F < m → 2 * jx ≤ k → (∃ j u, rBothL (tkT n b) p F k l D = .inl j ∧ midB rc K m d oj i (nI jx) st = some (0, u) ∧ sI u 7 6 = nI (plT n b j) ∧ FR S_pc st u) ∨ ∃ k' l' E u sz', rBothL (tkT n b) p F k l D = .inr (k', l', E) ∧ midB rc K m d oj i (nI jx) st = fX3_test_b77 rc K d oj i u ∧ RdC u n b o k' l' sz' ∧ Seg (nfo o) (sI u 14) p0 sz' M E ∧ Cs st u p0 ∧ sz' + 2 * k0 ≤ p0 + 2 * k' ∧ FR S_pc st u ∧ k ≤ k' := by
  have stop : ∀ (m k l sz jx : Nat) (st : St), RdC st n b o k l sz → ¬ (tkT n b).2.1 k = 7 → midB rc K m d oj i (nI jx) st = fX3_test_b77 rc K d oj i st := by
    intro m k l sz jx st r hno
    have hw : whR 7 ((tkT n b).2.1 k) = -1 := by unfold whR; simp only []; rw [if_neg hno]
    unfold midB
    rw [r.which (by omega), Option.bind_some, hw, if_pos rfl]
  intro F
  induction F with
  | zero =>
    intro m k l sz jx D st r sg hb hp1 h4 hm hj
    have hk0 : (tkT n b).2.1 k = 0 := r.2.1.2.1 k (by have := r.2.1.1; omega)
    exact Or.inr ⟨k, l, D, st, sz, rfl, stop m k l sz jx st r (by omega), r, sg, Cs.rf, hb, FR.rf, Nat.le_refl _⟩
  | succ F ih =>
    intro m k l sz jx D st r sg hb hp1 h4 hm hj
    obtain ⟨m, rfl⟩ : ∃ j, m = j + 1 := ⟨m - 1, by omega⟩
    unfold rBothL
    by_cases q : (tkT n b).2.1 k = 7
    · rw [if_pos q]
      have hk : k < (tkT n b).1 := in_T r.2.1 (by omega)
      have h400 := r.2.1.1
      have hp0 := sg.1
      obtain ⟨w, u, e1, e2, r1, c1, cs1, f1⟩ := jmpC (c := 3) r hk
      have hmid : midB rc K (m + 1) d oj i (nI jx) st = fX3_test_b17 rc K (m + 1) d oj i (nI (sz + 1)) (nI (jx + 1)) u := by
        unfold midB
        rw [r.which (by omega), Option.bind_some, show whR 7 ((tkT n b).2.1 k) = 0 by rw [q]; rfl, if_neg (by decide), e1, Option.bind_some]
        simp only [e2, Option.bind_some, n_p1]
      rw [hmid, fX3_test_b17, if_neg (by rw [show (400 : Int32) = nI 400 from rfl, n_le (by omega) (by omega)]; omega)]
      rcases hp (k + 1) l (sz + 2) u r1 with ⟨j, y, y1, y2, y3, y4⟩ | ⟨k2, l2, E, y, sz2, y1, y2, y3, y4, y5, y6, y7⟩
      · refine Or.inl ⟨j, y, by rw [y1]; rfl, ?_, y3, f1.trans y4⟩
        rw [y2, Option.bind_some, if_pos rfl]
      · have hm' := hmo _ _ _ _ _ y1
        have hl2 := y4.1
        obtain ⟨g1, g2, g3⟩ := y3.land (j := sz + 1) (by omega) (by omega)
        rw [y2, Option.bind_some, if_neg one0, g1, Option.bind_some]
        have hcs : ∀ j, j < sz → sI (pI y 14 (sz + 1) (nI sz2)) 14 j = sI st 14 j := fun j hj => by
          rw [lnd_c, if_neg (by omega), y5 j (by omega), cs1 j hj]
        have sgD : Seg (nfo o) (sI (pI y 14 (sz + 1) (nI sz2)) 14) p0 sz M D := sg.eq (fun j h1 h2 => hcs j h2)
        have sgE : Seg (nfo o) (sI (pI y 14 (sz + 1) (nI sz2)) 14) (sz + 2) sz2 M E := y4.eq (fun j h1 h2 => by rw [lnd_c, if_neg (by omega)])
        have sgA := seg_and sgD (by rw [lnd_c, if_neg (by omega), y5 sz (by omega)]; exact c1) (by rw [lnd_c, if_pos rfl]) sgE
        rcases ih m k2 l2 sz2 (jx + 1) (dAnd D E) _ g2 sgA (by omega) hp1 (by omega) (by omega) (by omega) with ⟨j, z, z1, z2, z3, z4⟩ | ⟨k3, l3, E3, z, sz3, z1, z2, z3, z4, z5, z6, z7, z8⟩
        · exact Or.inl ⟨j, z, by rw [y1]; exact z1, z2, z3, (f1.trans y7).trans (g3.trans z4)⟩
        · exact Or.inr ⟨k3, l3, E3, z, sz3, by rw [y1]; exact z1, z2, z3, z4, fun j hj => (z5 j hj).trans (hcs j (by omega)), z6, (f1.trans y7).trans (g3.trans z7), by omega⟩
    · rw [if_neg q]
      exact Or.inr ⟨k, l, D, st, sz, rfl, stop _ k l sz jx st r q, r, sg, Cs.rf, hb, FR.rf, Nat.le_refl _⟩
theorem bothC {rc : TG4} {K : K4t} {d oj i : Int32} {M : Nat} {p : Ps1} (hp : Pc n b o M (rc.2 d) p) (hmo : Mo (tkT n b) Q0 p) {k l sz : Nat} {st : St} (r : RdC st n b o k l sz) : (∃ j u, rBoth (tkT n b) p k l = .inl j ∧ fX3_test_b17 rc K FU d oj i 0 0 st = some (0, u) ∧ sI u 7 6 = nI (plT n b j) ∧ FR S_pc st u) ∨ ∃ k' l' E u sz', rBoth (tkT n b) p k l = .inr (k', l', E) ∧ fX3_test_b17 rc K FU d oj i 0 0 st = fX3_test_b77 rc K d oj i u ∧ RdC u n b o k' l' sz' ∧ Seg (nfo o) (sI u 14) sz sz' M E ∧ Cs st u sz ∧ sz' + 2 * k ≤ sz + 2 * k' ∧ FR S_pc st u ∧ k < k' := by
  rw [show FU = 99999 + 1 from rfl, fX3_test_b17, if_neg (by decide)]
  unfold rBoth
  rcases hp k l sz st r with ⟨j, y, y1, y2, y3, y4⟩ | ⟨k2, l2, E, y, sz2, y1, y2, y3, y4, y5, y6, y7⟩
  · refine Or.inl ⟨j, y, by rw [y1]; rfl, ?_, y3, y4⟩
    rw [y2, Option.bind_some, if_pos rfl]
  · have hm' := hmo _ _ _ _ _ y1
    rw [y1, y2, Option.bind_some, if_neg one0, land0, Option.bind_some]
    show (∃ j u, rBothL (tkT n b) p 400 k2 l2 E = .inl j ∧ midB rc K 99999 d oj i (nI 0) y = some (0, u) ∧ _) ∨ ∃ k' l' E' u sz', rBothL (tkT n b) p 400 k2 l2 E = .inr (k', l', E') ∧ midB rc K 99999 d oj i (nI 0) y = _ ∧ _
    rcases bothL_C (K := K) (oj := oj) (i := i) (p0 := sz) (k0 := k) hp hmo 400 99999 k2 l2 sz2 0 E y y3 y4 y6 r.2.2.2.2.2.2.2.2.1 (by omega) (by omega) (by omega) with ⟨j, z, z1, z2, z3, z4⟩ | ⟨k3, l3, E3, z, sz3, z1, z2, z3, z4, z5, z6, z7, z8⟩
    · exact Or.inl ⟨j, z, z1, z2, z3, y7.trans z4⟩
    · exact Or.inr ⟨k3, l3, E3, z, sz3, z1, z2, z3, z4, Cs.tr y5 z5 (Nat.le_refl _), z6, y7.trans z7, by omega⟩
abbrev midT (rc : TG4) (m : Nat) (d i : Int32) (st : St) : Option (Int32 × St) := (fX3_which st 8).bind (fun q3 => if q3 = (-1 : Int32) then (some ((1 : Int32), st)) else ((fX5_putJump (4 : Int32) st).bind (fun q6 => (fX3_step q6.2).bind (fun q8 => fX3_test_b4 rc m d q6.1 (i + (1 : Int32)) q8))))
theorem testL_C {rc : TG4} {d : Int32} {M p0 k0 : Nat} {p : Ps1} (hp : Pc n b o M (rc.2 d) p) (hmo : Mo (tkT n b) Q0 p) : ∀ (F m k l sz i : Nat) (D : Dn) (st : St), RdC st n b o k l sz → Seg (nfo o) (sI st 14) p0 sz M D → sz + 2 * k0 ≤ p0 + 2 * k → 1 ≤ p0 → 400 ≤ F + k → F < m → 2 * i ≤ k → PC n b o M st k l sz p0 k0 (rTestL (tkT n b) (rBoth (tkT n b) p) F k l D) (midT rc m d (nI i) st) := by
  have stop : ∀ (m k l sz i : Nat) (st : St), RdC st n b o k l sz → ¬ (tkT n b).2.1 k = 6 → midT rc m d (nI i) st = some (1, st) := by
    intro m k l sz i st r hno
    have hw : whR 8 ((tkT n b).2.1 k) = -1 := by unfold whR; simp only []; rw [if_neg hno]
    unfold midT
    rw [r.which (by omega), Option.bind_some, hw, if_pos rfl]
  intro F
  induction F with
  | zero =>
    intro m k l sz i D st r sg hb hp1 h4 hm hi
    have hk0 : (tkT n b).2.1 k = 0 := r.2.1.2.1 k (by have := r.2.1.1; omega)
    exact Or.inr ⟨k, l, D, st, sz, rfl, stop m k l sz i st r (by omega), r, sg, Cs.rf, hb, FR.rf⟩
  | succ F ih =>
    intro m k l sz i D st r sg hb hp1 h4 hm hi
    obtain ⟨m, rfl⟩ : ∃ j, m = j + 1 := ⟨m - 1, by omega⟩
    unfold rTestL
    by_cases q : (tkT n b).2.1 k = 6
    · rw [if_pos q]
      have hk : k < (tkT n b).1 := in_T r.2.1 (by omega)
      have h400 := r.2.1.1
      have hp0 := sg.1
      obtain ⟨w, u, e1, e2, r1, c1, cs1, f1⟩ := jmpC (c := 4) r hk
      have hmid : midT rc (m + 1) d (nI i) st = fX3_test_b17 rc (fun zl1 zl2 zl3 zst => fX3_test_b4 rc m zl1 zl2 zl3 zst) FU d (nI (sz + 1)) (nI (i + 1)) 0 0 u := by
        unfold midT
        rw [r.which (by omega), Option.bind_some, show whR 8 ((tkT n b).2.1 k) = 0 by rw [q]; rfl, if_neg (by decide), e1, Option.bind_some]
        simp only [e2, Option.bind_some, n_p1]
        rw [fX3_test_b4, if_neg (by rw [show (400 : Int32) = nI 400 from rfl, n_le (by omega) (by omega)]; omega)]
      rw [hmid]
      rcases bothC (K := fun zl1 zl2 zl3 zst => fX3_test_b4 rc m zl1 zl2 zl3 zst) (oj := nI (sz + 1)) (i := nI (i + 1)) hp hmo r1 with ⟨j, y, y1, y2, y3, y4⟩ | ⟨k2, l2, E, y, sz2, y1, y2, y3, y4, y5, y6, y7, y8⟩
      · exact Or.inl ⟨j, y, by rw [y1]; rfl, y2, y3, f1.trans y4⟩
      · have hl2 := y4.1
        obtain ⟨g1, g2, g3⟩ := y3.land (j := sz + 1) (by omega) (by omega)
        rw [y1, y2]
        unfold fX3_test_b77
        rw [g1, Option.bind_some]
        have hcs : ∀ j, j < sz → sI (pI y 14 (sz + 1) (nI sz2)) 14 j = sI st 14 j := fun j hj => by
          rw [lnd_c, if_neg (by omega), y5 j (by omega), cs1 j hj]
        have sgD : Seg (nfo o) (sI (pI y 14 (sz + 1) (nI sz2)) 14) p0 sz M D := sg.eq (fun j h1 h2 => hcs j h2)
        have sgE : Seg (nfo o) (sI (pI y 14 (sz + 1) (nI sz2)) 14) (sz + 2) sz2 M E := y4.eq (fun j h1 h2 => by rw [lnd_c, if_neg (by omega)])
        have sgA := seg_or sgD (by rw [lnd_c, if_neg (by omega), y5 sz (by omega)]; exact c1) (by rw [lnd_c, if_pos rfl]) sgE
        rcases ih m k2 l2 sz2 (i + 1) (dOr D E) _ g2 sgA (by omega) hp1 (by omega) (by omega) (by omega) with ⟨j, z, z1, z2, z3, z4⟩ | ⟨k3, l3, E3, z, sz3, z1, z2, z3, z4, z5, z6, z7⟩
        · exact Or.inl ⟨j, z, z1, z2, z3, (f1.trans y7).trans (g3.trans z4)⟩
        · exact Or.inr ⟨k3, l3, E3, z, sz3, z1, z2, z3, z4, fun j hj => (z5 j hj).trans (hcs j (by omega)), z6, (f1.trans y7).trans (g3.trans z7)⟩
    · rw [if_neg q]
      exact Or.inr ⟨k, l, D, st, sz, rfl, stop _ k l sz i st r q, r, sg, Cs.rf, hb, FR.rf⟩
theorem testC {rc : TG4} {d : Int32} {M : Nat} {p : Ps1} (hp : Pc n b o M (rc.2 d) p) (hmo : Mo (tkT n b) Q0 p) : Pc n b o M (fX3_test_g rc d) (rTest (tkT n b) p) := by
  intro k l sz st r
  unfold fX3_test_g rTest
  rw [show FU = 99999 + 1 from rfl, fX3_test_b4, if_neg (by decide)]
  rcases bothC (K := fun zl1 zl2 zl3 zst => fX3_test_b4 rc 99999 zl1 zl2 zl3 zst) (oj := 0) (i := 0) hp hmo r with ⟨j, y, y1, y2, y3, y4⟩ | ⟨k2, l2, E, y, sz2, y1, y2, y3, y4, y5, y6, y7, y8⟩
  · exact Or.inl ⟨j, y, by rw [y1]; rfl, y2, y3, y4⟩
  · rw [y1, y2]
    unfold fX3_test_b77
    rw [land0, Option.bind_some]
    show PC n b o M st k l sz sz k (rTestL (tkT n b) (rBoth (tkT n b) p) 400 k2 l2 E) (midT rc 99999 d (nI 0) y)
    rcases testL_C (p0 := sz) (k0 := k) hp hmo 400 99999 k2 l2 sz2 0 E y y3 y4 y6 r.2.2.2.2.2.2.2.2.1 (by omega) (by omega) (by omega) with ⟨j, z, z1, z2, z3, z4⟩ | ⟨k3, l3, E3, z, sz3, z1, z2, z3, z4, z5, z6, z7⟩
    · exact Or.inl ⟨j, z, z1, z2, z3, y7.trans z4⟩
    · exact Or.inr ⟨k3, l3, E3, z, sz3, z1, z2, z3, z4, Cs.tr y5 z5 (Nat.le_refl _), z6, y7.trans z7⟩
theorem Pc.mono {N M : Nat} {fn : St → Option (Int32 × St)} {p : Ps1} (h : Pc n b o N fn p) (hl : N ≤ M) : Pc n b o M fn p := by
  intro k l sz st r
  rcases h k l sz st r with h | ⟨k3, l3, E3, z, sz3, z1, z2, z3, z4, z5⟩
  · exact Or.inl h
  · exact Or.inr ⟨k3, l3, E3, z, sz3, z1, z2, z3, z4.mono hl, z5⟩
theorem testDC (hn : n ≤ 400) (t : TkE (tkT n b)) : ∀ (m L : Nat), m ≤ 8 → Pc n b o (2 * m + 5) ((LG4 (2 * m + 2 + L)).1 (nI (8 - m))) (rTestD o (tkT n b) m) := by
  intro m
  induction m with
  | zero =>
    intro L _
    rw [show 2 * 0 + 2 + L = (L + 1) + 1 by omega]
    have hs := sumX (o := o) hn t (m := 0) (by omega)
    have hp : Pc n b o 5 (fX3_plain_g (LG4 L) (nI 8)) (rPlain (tkT n b) (rSumD o (tkT n b) 0) none) := plainC (by omega) hs (mo_sumD t 0).q (fun s h => by cases h) (fun _ => rfl)
    have hm := mo_plain (sub := none) t (mo_sumD (o := o) t 0) (fun s h => by cases h)
    exact testC (rc := LG4 (L + 1)) hp hm
  | succ m ih =>
    intro L hm8
    rw [show 2 * (m + 1) + 2 + L = ((2 * m + 2 + L) + 1) + 1 by omega]
    have hs := sumX (o := o) hn t (m := m + 1) (by omega)
    have ht := (ih L (by omega)).mono (show 2 * m + 5 ≤ 2 * (m + 1) + 4 + 1 by omega)
    rw [show 8 - m = (8 - (m + 1)) + 1 by omega] at ht
    have hp : Pc n b o (2 * (m + 1) + 4 + 1) (fX3_plain_g (LG4 (2 * m + 2 + L)) (nI (8 - (m + 1)))) (rPlain (tkT n b) (rSumD o (tkT n b) (m + 1)) (some (rTestD o (tkT n b) m))) := plainC (by omega) hs (mo_sumD t (m + 1)).q (fun s h => by rw [← Option.some.inj h]; exact ⟨by omega, ht⟩) (fun h => by cases h)
    have hm := mo_plain (sub := some (rTestD o (tkT n b) m)) t (mo_sumD (o := o) t (m + 1)) (fun s h => by rw [← Option.some.inj h]; exact mo_testD t m)
    exact testC (rc := LG4 (2 * m + 2 + L + 1)) hp hm
theorem testX (hn : n ≤ 400) (t : TkE (tkT n b)) : Pc n b o 30 (fX3_test 0) (rTestD o (tkT n b) 8) := (testDC (o := o) hn t 8 82 (by omega)).mono (by omega)
theorem sum8X (hn : n ≤ 400) (t : TkE (tkT n b)) : Pc n b o 30 (fX3_sum 0) (rSumD o (tkT n b) 8) := (sumX (o := o) hn t (m := 8) (by omega)).mono (by omega)
end
