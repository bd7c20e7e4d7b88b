/-! the class's reader -/
section
variable {n : Nat} {b : Nat → Int32} {o : Bool}
abbrev S_pc : List (Nat × Option Nat) := [(7, some 4), (7, some 5), (7, some 6), (7, some 7), (7, some 8), (9, some 6), (14, none)]
def RdC (st : St) (n : Nat) (b : Nat → Int32) (o : Bool) (k l sz : Nat) : Prop := Tc st n b ∧ TkE (tkT n b) ∧ AtC st n b k ∧ k ≤ (tkT n b).1 ∧ sI st 7 4 = nI l ∧ l ≤ 50 ∧ sI st 7 3 = b2i (!o) ∧ sI st 9 6 = nI sz ∧ 1 ≤ sz ∧ sz ≤ 1 + 2 * k
theorem RdC.step {st : St} {k l sz : Nat} (r : RdC st n b o k l sz) (h : k < (tkT n b).1) : ∃ u, fX3_step st = some u ∧ RdC u n b o (k + 1) l sz ∧ FR S_st st u := by
  obtain ⟨r1, r2, r3, r4, r5, r6, r7, r8, r9, r10⟩ := r
  obtain ⟨u, e1, e2, e3⟩ := step7 r1 (r3.bf h)
  exact ⟨u, e1, ⟨r1.fr (by rfl) e3, r2, e2, by omega, (e3.i (by rfl)).trans r5, r6, (e3.i (by rfl)).trans r7, (e3.i (by rfl)).trans r8, r9, by omega⟩, e3⟩
abbrev P2 (st : St) (sz : Nat) (v : Int32) : St := pI (pI st 14 sz v) 9 6 (nI (sz + 1))
theorem RdC.put {st : St} {k l sz : Nat} {v : Int32} (r : RdC st n b o k l sz) (h : sz + 1 ≤ 1 + 2 * k) : fX5_put v st = some (P2 st sz v) ∧ RdC (P2 st sz v) n b o k l (sz + 1) ∧ FR S_pc st (P2 st sz v) := by
  obtain ⟨r1, r2, r3, r4, r5, r6, r7, r8, r9, r10⟩ := r
  have h4 := r2.1
  have f1 : FR [(14, none), (9, some 6)] st (P2 st sz v) := FR.pI (by rfl) (FR.pI (by rfl) FR.rf)
  refine ⟨?_, ⟨r1.fr (by rfl) f1, r2, r3.fr (by rfl) f1, r4, (f1.i (by rfl)).trans r5, r6, (f1.i (by rfl)).trans r7, by rw [sI_pI, if_pos ⟨rfl, rfl⟩], by omega, h⟩, FR.mono (by rfl) f1⟩
  unfold fX5_put
  have e6 : sI (pI st 14 sz v) 9 6 = nI sz := by rw [sI_pI, if_neg (by omega)]; exact r8
  rw [r8, if_neg (by rw [show (826 : Int32) = nI 826 from rfl, n_le (by omega) (by omega)]; omega), n_ixb (by omega), decide_eq_true (show sz < 826 by omega), chk_t, n_toNat (by omega), e6, n_p1]
theorem P2_c {st : St} {sz j : Nat} {v : Int32} : sI (P2 st sz v) 14 j = if j = sz then v else sI st 14 j := by
  rw [sI_pI, if_neg (by omega), sI_pI]
  by_cases c : j = sz
  · rw [if_pos ⟨rfl, c⟩, if_pos c]
  · rw [if_neg (by omega), if_neg c]
theorem RdC.sign {st : St} {k l sz c : Nat} (r : RdC st n b o k l sz) (hc : c < 128) : fX3_isSign st (nI c) = some (b2i (decide ((tkT n b).2.1 k = 100 + c))) := sign_at r.1 r.2.2.1 hc
theorem RdC.signY {st : St} {k l sz c : Nat} (r : RdC st n b o k l sz) (hc : c < 128) (h : (tkT n b).2.1 k = 100 + c) : fX3_isSign st (nI c) = some 1 := by rw [r.sign hc, decide_eq_true h]; rfl
theorem RdC.signN {st : St} {k l sz c : Nat} (r : RdC st n b o k l sz) (hc : c < 128) (h : (tkT n b).2.1 k ≠ 100 + c) : fX3_isSign st (nI c) = some 0 := by rw [r.sign hc, decide_eq_false h]; rfl
theorem RdC.which {st : St} {k l sz id : Nat} (r : RdC st n b o k l sz) (hid : id < 9) : fX3_which st id = some (whR id ((tkT n b).2.1 k)) := which_at r.1 r.2.2.1 hid
/-- codes put behind one another -/
def Cs (st u : St) (sz : Nat) : Prop := ∀ j, j < sz → sI u 14 j = sI st 14 j
theorem Cs.rf {st : St} {sz : Nat} : Cs st st sz := fun _ _ => rfl
theorem Cs.tr {a c d : St} {sz sz' : Nat} (h : Cs a c sz) (h' : Cs c d sz') (hl : sz ≤ sz') : Cs a d sz := fun j hj => (h' j (by omega)).trans (h j hj)
theorem Cs.st {st u : St} {S : List (Nat × Option Nat)} {sz : Nat} (e : hasA S 14 = false) (f : FR S st u) : Cs st u sz := fun j _ => f.i (hasA_in e)
theorem Cs.p2 {st : St} {sz : Nat} {v : Int32} : Cs st (P2 st sz v) sz := fun j hj => by rw [P2_c, if_neg (by omega)]
def PC (n : Nat) (b : Nat → Int32) (o : Bool) (nd : Nat) (st : St) (k l sz p0 k0 : Nat) (z : PR) (w : Option (Int32 × St)) : Prop := (∃ j u, z = .inl j ∧ w = some (0, u) ∧ sI u 7 6 = nI (plT n b j) ∧ FR S_pc st u) ∨ ∃ k' l' D u sz', z = .inr (k', l', D) ∧ w = some (1, u) ∧ RdC u n b o k' l' sz' ∧ Seg (nfo o) (sI u 14) p0 sz' nd D ∧ Cs st u p0 ∧ sz' + 2 * k0 ≤ p0 + 2 * k' ∧ FR S_pc st u
def Pc (n : Nat) (b : Nat → Int32) (o : Bool) (nd : Nat) (fn : St → Option (Int32 × St)) (p : Ps1) : Prop := ∀ (k l sz : Nat) (st : St), RdC st n b o k l sz → PC n b o nd st k l sz sz k (p k l) (fn st)
theorem RdC.pl {st : St} {k l sz : Nat} (r : RdC st n b o k l sz) : sI st 7 6 = nI (plT n b k) := r.2.2.1.pl
theorem RdC.part {st : St} {k l sz : Nat} (r : RdC st n b o k l sz) (hl : l < 50) : RdC (pI st 7 4 (nI (l + 1))) n b o k (l + 1) sz ∧ FR S_pc st (pI st 7 4 (nI (l + 1))) ∧ ∀ s, Cs st (pI st 7 4 (nI (l + 1))) s := by
  obtain ⟨r1, r2, r3, r4, r5, r6, r7, r8, r9, r10⟩ := r
  have f1 : FR [(7, some 4)] st (pI st 7 4 (nI (l + 1))) := FR.pI (by rfl) FR.rf
  exact ⟨⟨r1.fr (by rfl) f1, r2, r3.fr (by rfl) f1, r4, by rw [sI_pI, if_pos ⟨rfl, rfl⟩], by omega, (f1.i (by rfl)).trans r7, (f1.i (by rfl)).trans r8, r9, r10⟩, FR.mono (by rfl) f1, fun s => Cs.st (by rfl) f1⟩
/-- two codes: a number, a word -/
theorem put2 {rc : TG3} {st : St} {k k0 l sz : Nat} {a v : Int32} (r : RdC st n b o k l sz) (h : sz + 2 ≤ 1 + 2 * k) : ∃ u, fX3_part_b198 rc v a st = some (1, u) ∧ RdC u n b o k l (sz + 2) ∧ sI u 14 sz = a ∧ sI u 14 (sz + 1) = v ∧ Cs st u sz ∧ FR S_pc st u := by
  obtain ⟨p1, p2, p3⟩ := r.put (v := a) (by omega)
  obtain ⟨q1, q2, q3⟩ := p2.put (v := v) (by omega)
  refine ⟨_, ?_, q2, by rw [P2_c, if_neg (by omega), P2_c, if_pos rfl], by rw [P2_c, if_pos rfl], Cs.tr Cs.p2 Cs.p2 (by omega), p3.trans q3⟩
  unfold fX3_part_b198
  rw [p1, Option.bind_some, q1, Option.bind_some]
theorem partC {rc : TG3} {d N : Nat} {sub : Option Ps1} (hn : n ≤ 400) (hd : d ≤ 8) (hN : 2 ≤ N) (hsub : ∀ s, sub = some s → d < 8 ∧ Pc n b o N (rc.1 (nI (d + 1))) s) (hnone : sub = none → d = 8) : Pc n b o N (fX3_part_g rc (nI d)) (rPart o (tkT n b) sub) := by
  intro k l sz st r
  have hT := r.2.1.2.2 k
  have h400 := r.2.1.1
  have hsz := r.2.2.2.2.2.2.2.2.2
  unfold fX3_part_g rPart
  by_cases q : (tkT n b).2.1 k = 191
  · rw [show (91 : Int32) = nI 91 from rfl, r.signY (by omega) (by omega), Option.bind_some, if_neg one0, if_pos q]
    have hk : k < (tkT n b).1 := in_T r.2.1 (by omega)
    have e8 : (nI d < (8 : Int32)) = (d < 8) := n_lt (b := 8) (by omega) (by omega)
    simp only [e8]
    cases sub with
    | none =>
      rw [if_neg (by have := hnone rfl; omega)]
      exact Or.inl ⟨k, st, rfl, rfl, r.pl, FR.rf⟩
    | some s =>
      obtain ⟨h8, hs⟩ := hsub s rfl
      rw [if_pos h8]
      show PC n b o N st k l sz sz k (rThen (s (k + 1) l) (fun k' l' D => if (tkT n b).2.1 k' = 193 then .inr (k' + 1, l', D) else .inl k')) _
      obtain ⟨u, e1, r1, f1⟩ := r.step hk
      rw [e1, Option.bind_some, n_p1]
      rcases hs (k + 1) l sz u r1 with ⟨j, w, w1, w2, w3, w4⟩ | ⟨k', l', D, w, sz', w1, w2, w3, w4, w5, w6, w7⟩
      · refine Or.inl ⟨j, w, by rw [w1]; rfl, ?_, w3, (FR.mono (by rfl) f1 : FR S_pc st u).trans w4⟩
        rw [w2, Option.bind_some, if_pos rfl]
      · rw [w1, w2, Option.bind_some, if_neg one0]
        show PC n b o N st k l sz sz k (if (tkT n b).2.1 k' = 193 then .inr (k' + 1, l', D) else .inl k') _
        by_cases c : (tkT n b).2.1 k' = 193
        · rw [if_pos c, show (93 : Int32) = nI 93 from rfl, w3.signY (by omega) (by omega), Option.bind_some, if_neg one0]
          obtain ⟨y, y1, y2, y3⟩ := w3.step (in_T r.2.1 (by omega))
          rw [y1, Option.bind_some]
          refine Or.inr ⟨k' + 1, l', D, y, sz', rfl, rfl, y2, w4.eq (fun j _ _ => y3.i (hasA_in (by rfl))), ?_, by omega, ?_⟩
          · exact Cs.tr (Cs.st (by rfl) f1) (Cs.tr w5 (Cs.st (sz := sz) (by rfl) y3) (Nat.le_refl _)) (Nat.le_refl _)
          · exact ((FR.mono (by rfl) f1 : FR S_pc st u).trans w7).trans (FR.mono (by rfl) y3)
        · rw [if_neg c, show (93 : Int32) = nI 93 from rfl, w3.signN (by omega) (by omega), Option.bind_some, if_pos rfl]
          exact Or.inl ⟨k', w, rfl, rfl, w3.pl, (FR.mono (by rfl) f1 : FR S_pc st u).trans w7⟩
  · rw [show (91 : Int32) = nI 91 from rfl, r.signN (by omega) (by omega), Option.bind_some, if_pos rfl, if_neg q]
    have hk3 := (kind_at r.1 r.2.2.1).1
    have hl := r.2.2.2.2.1
    have hl50 := r.2.2.2.2.2.1
    have elt : (nI l < (50 : Int32)) = (l < 50) := n_lt (b := 50) (by omega) (by omega)
    -- a leaf that puts two codes
    have two : ∀ (k' : Nat) (w : St) (a v : Int32) (D : Dn), k < k' → RdC w n b o k' (l + 1) sz → Cs st w sz → FR S_pc st w → (∀ c : Nat → Int32, c sz = a → c (sz + 1) = v → Seg (nfo o) c sz (sz + 2) 2 D) → PC n b o N st k l sz sz k (.inr (k', l + 1, D)) (fX3_part_b198 rc v a w) := by
      intro k' w a v D hkk rw_ cs fw hseg
      obtain ⟨u, e1, e2, e3, e4, e5, e6⟩ := put2 (rc := rc) (k0 := k) (a := a) (v := v) rw_ (by omega)
      exact Or.inr ⟨k', l + 1, D, u, sz + 2, rfl, e1, e2, (hseg (sI u 14) e3 e4).mono hN, Cs.tr cs e5 (Nat.le_refl _), by omega, fw.trans e6⟩
    unfold rLeaf
    by_cases q50 : (tkT n b).2.1 k = 50 ∧ (tkT n b).2.2 k ≤ 1000
    · obtain ⟨v, v1, v2, v3⟩ := num_at r.1 r.2.2.1 q50.1
      have hv : v = (tkT n b).2.2 k := by unfold vR at v3; omega
      have hk : k < (tkT n b).1 := in_T r.2.1 (by omega)
      rw [if_pos (show sI st 7 5 = 3 by rw [hk3]; exact q50.1), v1, if_neg (show ¬ (1000 : Int32) < nI v by rw [show (1000 : Int32) = nI 1000 from rfl, n_lt (by omega) (by omega)]; omega), if_pos q50]
      unfold fX3_part_b71 fX3_part_b101
      rw [if_neg one0, v1, if_neg (show ¬ nI v = (-1 : Int32) from fun e => by
        have : nI v < 0 := by rw [e]; decide
        rw [n_neg (by omega)] at this; exact this), hl]
      simp only [elt]
      by_cases c : l < 50
      · rw [if_pos c, if_neg (show ¬ 50 ≤ l by omega), n_p1]
        obtain ⟨p1, p2, p3⟩ := r.part c
        obtain ⟨w, e1, r1, f1⟩ := p1.step hk
        rw [e1, Option.bind_some]
        unfold fX3_part_b185
        rw [if_neg one0, if_neg one0, hv]
        exact two (k + 1) w 1 (nI ((tkT n b).2.2 k)) _ (by omega) r1 (Cs.tr (p3 sz) (Cs.st (by rfl) f1) (Nat.le_refl _)) (p2.trans (FR.mono (by rfl) f1)) (fun c h1 h2 => seg_num h1 h2)
      · rw [if_neg c, if_pos (show 50 ≤ l by omega)]
        exact Or.inl ⟨k, st, rfl, rfl, r.pl, FR.rf⟩
    · have hpath : (if sI st 7 5 = (3 : Int32) then (if (1000 : Int32) < sI st 7 8 then fX3_part_b70 rc st else fX3_part_b71 rc 1 st) else fX3_part_b70 rc st) = fX3_part_b70 rc st := by
        by_cases z : (tkT n b).2.1 k = 50
        · obtain ⟨v, v1, v2, v3⟩ := num_at r.1 r.2.2.1 z
          rw [if_pos (by rw [hk3]; exact z), v1, if_pos (by rw [show (1000 : Int32) = nI 1000 from rfl, n_lt (by omega) (by omega)]; unfold vR at v3; omega)]
        · rw [if_neg (by rw [hk3]; exact z)]
      rw [hpath, if_neg q50]
      unfold fX3_part_b70 fX3_part_b71 fX3_part_b98
      rw [if_pos rfl, r.2.2.2.2.2.2.1]
      cases ho : o with
      | false =>
        simp only [Bool.false_eq_true, true_and, false_and, if_false]
        subst ho
        rw [if_neg (show ¬ (b2i !false) = 0 by decide), r.which (by omega), Option.bind_some]
        unfold fX3_part_b101
        by_cases z : 9 ≤ (tkT n b).2.1 k ∧ (tkT n b).2.1 k ≤ 15
        · have hk : k < (tkT n b).1 := in_T r.2.1 (by omega)
          have hw : whR 2 ((tkT n b).2.1 k) = nI (wL ((tkT n b).2.1 k)) := by unfold whR; simp only []; rw [if_pos z]
          have hwl := wL_lt (c := (tkT n b).2.1 k)
          rw [hw, if_neg (show ¬ nI (wL ((tkT n b).2.1 k)) = (-1 : Int32) from fun e => by
            have : nI (wL ((tkT n b).2.1 k)) < 0 := by rw [e]; decide
            rw [n_neg (by omega)] at this; exact this), hl, if_pos z]
          simp only [elt]
          by_cases c : l < 50
          · rw [if_pos c, if_neg (show ¬ 50 ≤ l by omega), n_p1]
            obtain ⟨p1, p2, p3⟩ := r.part c
            obtain ⟨w, e1, r1, f1⟩ := p1.step hk
            rw [e1, Option.bind_some, if_pos trivial, r1.2.2.2.2.2.2.1, if_neg (show ¬ (b2i !false) = 0 by decide)]
            unfold fX3_part_b185
            rw [if_pos rfl]
            exact two (k + 1) w 2 _ _ (by omega) r1 (Cs.tr (p3 sz) (Cs.st (by rfl) f1) (Nat.le_refl _)) (p2.trans (FR.mono (by rfl) f1)) (fun c h1 h2 => seg_wrd h1 h2 hwl (by decide))
          · rw [if_neg c, if_pos (show 50 ≤ l by omega)]
            exact Or.inl ⟨k, st, rfl, rfl, r.pl, FR.rf⟩
        · have hw : whR 2 ((tkT n b).2.1 k) = -1 := by unfold whR; simp only []; rw [if_neg z]
          rw [hw, if_pos rfl, if_neg z]
          exact Or.inl ⟨k, st, rfl, rfl, r.pl, FR.rf⟩
      | true =>
        simp only [Bool.true_eq_false, true_and, false_and, if_false]
        subst ho
        rw [if_pos (show (b2i !true) = 0 by rfl), r.which (by omega), Option.bind_some]
        unfold fX3_part_b101
        by_cases z : 13 ≤ (tkT n b).2.1 k ∧ (tkT n b).2.1 k ≤ 19
        · have hk : k < (tkT n b).1 := in_T r.2.1 (by omega)
          obtain ⟨ix, hix, hw, hlo⟩ : ∃ ix, ix ≤ 6 ∧ whR 3 ((tkT n b).2.1 k) = nI ix ∧ (if (tkT n b).2.1 k = 13 ∨ (tkT n b).2.1 k = 19 then (5 ≤ ix ∧ 5 + (ix - 5) * 6 = wO ((tkT n b).2.1 k)) else (ix < 5 ∧ ix = wO ((tkT n b).2.1 k))) := by
            have hcs : (tkT n b).2.1 k = 13 ∨ (tkT n b).2.1 k = 14 ∨ (tkT n b).2.1 k = 15 ∨ (tkT n b).2.1 k = 16 ∨ (tkT n b).2.1 k = 17 ∨ (tkT n b).2.1 k = 18 ∨ (tkT n b).2.1 k = 19 := by omega
            rcases hcs with e | e | e | e | e | e | e <;> rw [e]
            · exact ⟨6, by decide, rfl, by decide⟩
            · exact ⟨3, by decide, rfl, by decide⟩
            · exact ⟨0, by decide, rfl, by decide⟩
            · exact ⟨1, by decide, rfl, by decide⟩
            · exact ⟨2, by decide, rfl, by decide⟩
            · exact ⟨4, by decide, rfl, by decide⟩
            · exact ⟨5, by decide, rfl, by decide⟩
          rw [hw, if_neg (show ¬ nI ix = (-1 : Int32) from fun e => by
            have : nI ix < 0 := by rw [e]; decide
            rw [n_neg (by omega)] at this; exact this), hl, if_pos z]
          simp only [elt]
          by_cases c : l < 50
          · rw [if_pos c, if_neg (show ¬ 50 ≤ l by omega), n_p1]
            obtain ⟨p1, p2, p3⟩ := r.part c
            obtain ⟨w, e1, r1, f1⟩ := p1.step hk
            have csw : Cs st w sz := Cs.tr (p3 sz) (Cs.st (by rfl) f1) (Nat.le_refl _)
            have fw : FR S_pc st w := p2.trans (FR.mono (by rfl) f1)
            have e5 : (nI ix < (5 : Int32)) = (ix < 5) := n_lt (b := 5) (by omega) (by omega)
            rw [e1, Option.bind_some, if_pos trivial, r1.2.2.2.2.2.2.1, if_pos (show (b2i !true) = 0 by rfl)]
            simp only [e5]
            unfold fX3_part_b185
            by_cases z2 : (tkT n b).2.1 k = 13 ∨ (tkT n b).2.1 k = 19
            · rw [if_pos z2] at hlo
              rw [if_pos z2, if_neg (show ¬ ix < 5 by omega)]
              have hk3' := (kind_at r1.1 r1.2.2.1).1
              by_cases z3 : (tkT n b).2.1 (k + 1) = 50
              · obtain ⟨v, v1, v2, v3⟩ := num_at r1.1 r1.2.2.1 z3
                have e6 : (nI v < (6 : Int32)) = (v < 6) := n_lt (b := 6) (by omega) (by omega)
                rw [if_pos (show sI w 7 5 = 3 by rw [hk3']; exact z3), v1]
                simp only [e6]
                by_cases z4 : v < 6
                · have hv : v = (tkT n b).2.2 (k + 1) := by unfold vR at v3; omega
                  obtain ⟨w2, e2, r2, f2⟩ := r1.step (in_T r.2.1 (by omega))
                  rw [if_pos z4, e2, Option.bind_some, if_pos trivial, if_pos (show (tkT n b).2.1 (k + 1) = 50 ∧ (tkT n b).2.2 (k + 1) < 6 from ⟨z3, by omega⟩)]
                  have harith : (5 : Int32) + (nI ix - 5) * 6 + nI v = nI (wO ((tkT n b).2.1 k) + (tkT n b).2.2 (k + 1)) := by
                    rw [show nI ix - (5 : Int32) = nI (ix - 5) from n_sub hlo.1, show (6 : Int32) = nI 6 from rfl, show (5 : Int32) = nI 5 from rfl, n_mul, n_add, n_add, ← hlo.2, hv]
                  rw [harith]
                  have hwo := wO_lt (c := (tkT n b).2.1 k)
                  exact two (k + 2) w2 2 _ _ (by omega) r2 (Cs.tr csw (Cs.st (by rfl) f2) (Nat.le_refl _)) (fw.trans (FR.mono (by rfl) f2)) (fun c h1 h2 => seg_wrd h1 h2 (by show _ < 17; omega) (by decide))
                · rw [if_neg z4, if_neg (show ¬ ((tkT n b).2.1 (k + 1) = 50 ∧ (tkT n b).2.2 (k + 1) < 6) from fun h => by unfold vR at v3; omega)]
                  exact Or.inl ⟨k + 1, w, rfl, rfl, r1.pl, fw⟩
              · rw [if_neg (show ¬ sI w 7 5 = 3 by rw [hk3']; exact z3), if_neg (show ¬ ((tkT n b).2.1 (k + 1) = 50 ∧ (tkT n b).2.2 (k + 1) < 6) from fun h => z3 h.1)]
                exact Or.inl ⟨k + 1, w, rfl, rfl, r1.pl, fw⟩
            · rw [if_neg z2] at hlo
              rw [if_neg z2, if_pos hlo.1, if_pos rfl, hlo.2]
              exact two (k + 1) w 2 _ _ (by omega) r1 csw fw (fun c h1 h2 => seg_wrd h1 h2 (by have := hlo.1; have := hlo.2; show _ < 17; omega) (by decide))
          · rw [if_neg c, if_pos (show 50 ≤ l by omega)]
            exact Or.inl ⟨k, st, rfl, rfl, r.pl, FR.rf⟩
        · have hw : whR 3 ((tkT n b).2.1 k) = -1 := by unfold whR; simp only []; rw [if_neg z]
          rw [hw, if_pos rfl, if_neg z]
          exact Or.inl ⟨k, st, rfl, rfl, r.pl, FR.rf⟩
end
