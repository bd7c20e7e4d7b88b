/-! a game by the class -/
def Qc (st : St) (Q : List Qe) : Prop := sI st 25 10 = nI Q.length ∧ ∀ (i s : Nat) (p : List Nat), Q[i]? = some (s, p) → sI st 27 i = nI s
theorem Qc.fr {S : List (Nat × Option Nat)} {st u : St} {Q : List Qe} (e : (inS S 25 10 || hasA S 27) = false) (h : FR S st u) (m : Qc st Q) : Qc u Q := by
  simp only [Bool.or_eq_false_iff] at e
  exact ⟨(h.i e.1).trans m.1, fun i s p hq => (h.i (hasA_in e.2)).trans (m.2 i s p hq)⟩
def inQ (Q : List Qe) (s : Nat) : Prop := s ∈ Q.map (·.1)
def Nw (st : St) (Q : List Qe) (a : Nat) (f : Nat → Int32) : Prop := ∀ s, inQ Q s → sI st a s = f s
def abG (a b : Nat) : Prop := (a = 29 ∧ b = 30) ∨ (a = 30 ∧ b = 29)
abbrev S_cg : List (Nat × Option Nat) := [(19, some 10), (20, none), (21, none), (22, none), (23, none), (24, none), (25, some 11), (29, none), (30, none)]
theorem inCg {a j : Nat} (h : a = 29 ∨ a = 30) : inS S_cg a j = true := by rcases h with rfl | rfl <;> rfl
theorem Vx.g {st : St} {x : Rg} {a j : Nat} {v : Int32} (h : a = 29 ∨ a = 30) (m : Vx st x) : Vx (pI st a j v) x := by
  rcases h with rfl | rfl
  · exact Vt.fr (S := [(29, none)]) (by rfl) (by rfl) (by rfl) (by rfl) (by rfl) (FR.pI (by rfl) FR.rf) m
  · exact Vt.fr (S := [(30, none)]) (by rfl) (by rfl) (by rfl) (by rfl) (by rfl) (FR.pI (by rfl) FR.rf) m
theorem Vx.c {st : St} {x : Rg} {v : Int32} (m : Vx st x) : Vx (pI st 25 11 v) x := Vt.fr (S := [(25, some 11)]) (by rfl) (by rfl) (by rfl) (by rfl) (by rfl) (FR.pI (by rfl) FR.rf) m
theorem af_a {st u : St} {a j : Nat} (h : a = 29 ∨ a = 30) (r : FR wX6_after_S st u) : sI u a j = sI st a j := by
  rcases h with rfl | rfl
  · exact r.i (hasA_in (by rfl))
  · exact r.i (hasA_in (by rfl))
theorem choose_loop {x : Rg} {s a : Nat} {f : Nat → Int32} {c : Int32} {Q : List Qe} (g : GdR x) (ha : a = 29 ∨ a = 30) (hs : Cn x s) (hp : 2 ≤ pc (s / 6)) (hQ : ∀ r, r < x.1 17 → inQ Q (ldA x s r)) : ∀ (k m r : Nat) (st : St), r + k = x.1 17 → k < m → Vx st x → Nw st Q a f → ∃ u, fX1_choose_b19 m (nI s) a c (nI r) st = some (nI (chF x f s c k r), u) ∧ Vx u x ∧ FR wX6_after_S st u := by
  intro k
  have h17 := g.2.2.1
  have h64 := p64 g.1
  have hn1 : 1 ≤ x.1 16 := by
    have := pc2 _ (show s / 6 < 64 by have := hs.1; omega) hp
    by_cases z : x.1 16 = 0
    · have := hs.1; rw [z] at this; omega
    · omega
  induction k with
  | zero =>
    intro m r st h1 h2 v nw
    obtain ⟨m, rfl⟩ : ∃ j, m = j + 1 := ⟨m - 1, by omega⟩
    refine ⟨st, ?_, v, FR.rf⟩
    rw [fX1_choose_b19, v.2.1.1.2.2.1, if_pos (by rw [n_le (by omega) (by omega)]; omega)]; rfl
  | succ k ih =>
    intro m r st h1 h2 v nw
    obtain ⟨m, rfl⟩ : ∃ j, m = j + 1 := ⟨m - 1, by omega⟩
    rw [fX1_choose_b19, v.2.1.1.2.2.1, if_neg (by rw [n_le (by omega) (by omega)]; omega)]
    obtain ⟨u, e1, v1, f1⟩ := ld7 (r := r) g v hs.1 hp (hs.2 hn1) (by omega)
    have hC : Cn x (ldA x s r) := ld_Cn g hs.1 hp
    have ht := hC.lt g
    have nu : Nw u Q a f := fun t ht => (af_a ha f1).trans (nw t ht)
    rw [e1, Option.bind_some]
    simp only [n_ixb (show ldA x s r < 2147483648 by omega), ht, decide_true, chk_t, n_toNat (show ldA x s r < 2147483648 by omega), nu _ (hQ r (by omega)), n_p1]
    unfold chF
    by_cases q : f (ldA x s r) = c
    · rw [if_pos q, if_pos q]
      obtain ⟨u2, r1, r2, r3⟩ := ih m (r + 1) u (by omega) (by omega) v1 nu
      exact ⟨u2, r1, r2, f1.trans r3⟩
    · rw [if_neg q, if_neg q]
      exact ⟨u, rfl, v1, f1⟩
theorem choose_ok {x : Rg} {s a : Nat} {f : Nat → Int32} {Q : List Qe} {st : St} (g : GdR x) (ha : a = 29 ∨ a = 30) (hs : Cn x s) (hp : 2 ≤ pc (s / 6)) (hQ : ∀ r, r < x.1 17 → inQ Q (ldA x s r)) (v : Vx st x) (nw : Nw st Q a f) : ∃ u, fX1_choose (nI s) a st = some (nI (chN x f s), u) ∧ Vx u x ∧ FR wX6_after_S st u := by
  have h64 := p64 g.1
  have h17 := g.2.2.1
  have h384 := hs.lt g
  have hn1 : 1 ≤ x.1 16 := by
    have := pc2 _ (show s / 6 < 64 by have := hs.1; omega) hp
    by_cases z : x.1 16 = 0
    · have := hs.1; rw [z] at this; omega
    · omega
  unfold fX1_choose
  rw [n_d6 (by omega), n_r6 (by omega), first_ok g.1 (by have := hs.1; omega) v.2.1.1.1 (hs.2 hn1), Option.bind_some]
  have hb : firstA (x.1 16) (s / 6) (s % 6) = begS x s := by unfold begS; rw [Nat.mod_eq_of_lt (hs.2 hn1)]
  rw [hb]
  exact choose_loop g ha hs hp hQ (x.1 17) FU 0 st (by omega) (by unfold FU; omega) v nw
abbrev K79 : Type := Int32 → Nat → Nat → Int32 → Int32 → St → Option (Int32 × St)
/-- one round of choices over all that can be come to -/
theorem pass_loop {x : Rg} {s0 a b k0 : Nat} {f : Nat → Int32} {Q : List Qe} {K : K79} (g : GdR x) (hab : abG a b) (qv : QV x Q) (hclo : Clo x Q Q.length) (hq1 : 1 ≤ x.1 17) (hs0 : s0 < 384) (hf1 : ∀ s, ¬ 2 ≤ pc (s / 6) → f s = oneI s) : ∀ (k m i : Nat) (ch : Bool) (st : St), i + k = Q.length → k < m → Vx st x → Qc st Q → Nw st Q a f → (∀ (j s : Nat) (p : List Nat), j < i → Q[j]? = some (s, p) → sI st b s = itS x f s) → ∃ u ch', fX1_play_b97 K m (nI s0) a b (b2i ch) (nI k0) (nI i) st = K (nI s0) b a (b2i ch') (nI (k0 + 1)) u ∧ Vx u x ∧ Qc u Q ∧ Nw u Q a f ∧ Nw u Q b (itS x f) ∧ FR S_cg st u ∧ (ch' = false → ch = false ∧ ∀ (j s : Nat) (p : List Nat), i ≤ j → Q[j]? = some (s, p) → itS x f s = f s) ∧ sI u 25 11 = (if (2 ≤ pc (s0 / 6) ∧ s0 ∈ (Q.drop i).map (·.1)) then nI (chN x f s0) else sI st 25 11) := by
  intro k
  have h17 := g.2.2.1
  have h64 := p64 g.1
  have hb : b = 29 ∨ b = 30 := by rcases hab with ⟨_, h⟩ | ⟨_, h⟩ <;> omega
  have ha : a = 29 ∨ a = 30 := by rcases hab with ⟨h, _⟩ | ⟨h, _⟩ <;> omega
  have hne : a ≠ b := by rcases hab with ⟨h, h'⟩ | ⟨h, h'⟩ <;> omega
  have hle := qv.le g
  induction k with
  | zero =>
    intro m i ch st h1 h2 v qc nw hd
    obtain ⟨m, rfl⟩ : ∃ j, m = j + 1 := ⟨m - 1, by omega⟩
    refine ⟨st, ch, ?_, v, qc, nw, fun s hs => ?_, FR.rf, fun h => ⟨h, fun j s p hj hq => ?_⟩, ?_⟩
    · rw [fX1_play_b97, qc.1, if_pos (by rw [n_le (by omega) (by omega)]; omega), n_p1]
    · obtain ⟨e, he, hee⟩ := List.mem_map.mp hs
      obtain ⟨j, hj⟩ := List.getElem?_of_mem he
      have hjl := (List.getElem?_eq_some_iff.mp hj).1
      exact hd j s e.2 (by omega) (by rw [hj, ← hee])
    · have := (List.getElem?_eq_some_iff.mp hq).1; omega
    · rw [if_neg (by rw [List.drop_eq_nil_of_le (by omega)]; simp)]
  | succ k ih =>
    intro m i ch st h1 h2 v qc nw hd
    obtain ⟨m, rfl⟩ : ∃ j, m = j + 1 := ⟨m - 1, by omega⟩
    have hi : i < Q.length := by omega
    obtain ⟨s, p, hq⟩ : ∃ s p, Q[i]? = some (s, p) := ⟨Q[i].1, Q[i].2, List.getElem?_eq_getElem hi⟩
    obtain ⟨hC, hin⟩ := qv.in hq
    have h384 := hC.lt g
    have hdr : Q.drop i = (s, p) :: Q.drop (i + 1) := by
      rw [List.drop_eq_getElem_cons hi]
      congr 1
      have := List.getElem?_eq_getElem hi
      rw [hq] at this
      exact (Option.some.inj this).symm
    rw [fX1_play_b97, qc.1, if_neg (by rw [n_le (by omega) (by omega)]; omega), n_ixb (by omega), decide_eq_true (show i < 384 by omega), chk_t, n_toNat (by omega), qc.2 i s p hq, n_ixb (by omega), decide_eq_true h384, chk_t, chk_t, goes7 (by have := hC.1; omega), n_toNat (by omega), nw s hin]
    have f1 : FR S_cg st (pI st b s (f s)) := FR.pI (inCg hb) FR.rf
    have nwb : ∀ (u : St) (w : Int32), Nw u Q a f → Nw (pI u b s w) Q a f := fun u w h t ht => by rw [sI_pI, if_neg (fun e => hne e.1)]; exact h t ht
    unfold fX1_play_b199
    by_cases hp : 2 ≤ pc (s / 6)
    · rw [if_pos hp, if_neg (by decide)]
      have hQ : ∀ r, r < x.1 17 → inQ Q (ldA x s r) := fun r hr => hclo i s p hi hq hp r hr
      have q1 : Qc (pI st b s (f s)) Q := qc.fr (S := S_cg) (by rfl) f1
      obtain ⟨u, e1, v1, f2⟩ := choose_ok (f := f) (st := pI st b s (f s)) g ha hC hp hQ (Vx.g hb v) (nwb st (f s) nw)
      have hcl := chN_lt (x := x) (f := f) (s := s) hq1
      have hn1 : 1 ≤ x.1 16 := by
        have := pc2 _ (show s / 6 < 64 by have := hC.1; omega) hp
        by_cases z : x.1 16 = 0
        · have := hC.1; rw [z] at this; omega
        · omega
      obtain ⟨w, e2, v2, f3⟩ := ld7 (r := chN x f s) g v1 hC.1 hp (hC.2 hn1) hcl
      have hCl : Cn x (ldA x s (chN x f s)) := ld_Cn g hC.1 hp
      have hl := hCl.lt g
      have nu : Nw w Q a f := fun t ht => (af_a ha f3).trans ((af_a ha f2).trans (nwb st (f s) nw t ht))
      have eit : itS x f s = f (ldA x s (chN x f s)) := by unfold itS; rw [if_pos hp, if_neg (by omega)]
      rw [e1, Option.bind_some]
      simp only [e2, Option.bind_some, n_ixb (show ldA x s (chN x f s) < 2147483648 by omega), hl, n_ixb (show s < 2147483648 by omega), h384, decide_true, chk_t, n_toNat (show ldA x s (chN x f s) < 2147483648 by omega), n_toNat (show s < 2147483648 by omega), nu _ (hQ _ hcl)]
      rw [← eit]
      have f4 : FR S_cg st (pI w b s (itS x f s)) := FR.pI (inCg hb) ((f1.trans (FR.mono (by rfl) f2)).trans (FR.mono (by rfl) f3))
      have heq : (nI s = nI s0) = (s = s0) := n_eq (by omega) (by omega)
      simp only [heq]
      -- behind this one
      have nxt : ∀ (c1 : Int32) (ch1 : Bool), (ch1 = false → ch = false ∧ itS x f s = f s) → c1 = (if s = s0 then nI (chN x f s) else sI st 25 11) → ∃ u' ch', fX1_play_b97 K m (nI s0) a b (b2i ch1) (nI k0) (nI (i + 1)) (pI (pI w b s (itS x f s)) 25 11 c1) = K (nI s0) b a (b2i ch') (nI (k0 + 1)) u' ∧ Vx u' x ∧ Qc u' Q ∧ Nw u' Q a f ∧ Nw u' Q b (itS x f) ∧ FR S_cg st u' ∧ (ch' = false → ch = false ∧ ∀ (j s : Nat) (p : List Nat), i ≤ j → Q[j]? = some (s, p) → itS x f s = f s) ∧ sI u' 25 11 = (if (2 ≤ pc (s0 / 6) ∧ s0 ∈ (Q.drop i).map (·.1)) then nI (chN x f s0) else sI st 25 11) := by
        intro c1 ch1 hch hc1
        have f5 : FR S_cg st (pI (pI w b s (itS x f s)) 25 11 c1) := FR.pI (by rfl) f4
        obtain ⟨u', ch', r1, r2, r3, r4, r5, r6, r7, r8⟩ := ih m (i + 1) ch1 (pI (pI w b s (itS x f s)) 25 11 c1) (by omega) (by omega) (Vx.c (Vx.g hb v2)) (qc.fr (S := S_cg) (by rfl) f5) (fun t ht => by
          rw [sI_pI, if_neg (by omega)]; exact nwb w _ nu t ht) (fun j s1 p1 hj hq1 => by
          rw [sI_pI, if_neg (by omega), sI_pI]
          by_cases c : s1 = s
          · rw [if_pos ⟨rfl, c⟩, c]
          · have hj' : j < i := by
              by_cases e : j = i
              · rw [e, hq] at hq1
                exact absurd (Prod.mk.inj (Option.some.inj hq1)).1.symm c
              · omega
            rw [if_neg (by omega)]
            have hbf : sI w b s1 = sI (pI st b s (f s)) b s1 := (af_a hb f3).trans (af_a hb f2)
            rw [hbf, sI_pI, if_neg (by omega)]
            exact hd j s1 p1 hj' hq1)
        refine ⟨u', ch', r1, r2, r3, r4, r5, f5.trans r6, fun h => ?_, ?_⟩
        · obtain ⟨z1, z2⟩ := r7 h
          obtain ⟨z3, z4⟩ := hch z1
          refine ⟨z3, fun j s1 p1 hj hq1 => ?_⟩
          by_cases e : j = i
          · rw [e, hq] at hq1
            rw [← (Prod.mk.inj (Option.some.inj hq1)).1]; exact z4
          · exact z2 j s1 p1 (by omega) hq1
        · have e11 : sI (pI (pI w b s (itS x f s)) 25 11 c1) 25 11 = c1 := by rw [sI_pI, if_pos ⟨rfl, rfl⟩]
          rw [r8, e11, hc1]
          by_cases e : s = s0
          · subst e
            rw [if_pos rfl, if_pos (show 2 ≤ pc (s / 6) ∧ s ∈ (Q.drop i).map (·.1) from ⟨hp, by rw [hdr]; simp⟩), ite_self]
          · rw [if_neg e]
            have hiff : (2 ≤ pc (s0 / 6) ∧ s0 ∈ (Q.drop (i + 1)).map (·.1)) = (2 ≤ pc (s0 / 6) ∧ s0 ∈ (Q.drop i).map (·.1)) := by
              rw [hdr, List.map_cons, List.mem_cons]
              exact propext ⟨fun w => ⟨w.1, Or.inr w.2⟩, fun w => ⟨w.1, w.2.elim (fun w => absurd w.symm e) id⟩⟩
            simp only [hiff]
      have hbs : ∀ c1, sI (pI (pI w b s (itS x f s)) 25 11 c1) b s = itS x f s := fun c1 => by
        rw [sI_pI, if_neg (by omega), sI_pI, if_pos ⟨rfl, rfl⟩]
      have has : ∀ c1, sI (pI (pI w b s (itS x f s)) 25 11 c1) a s = f s := fun c1 => by
        rw [sI_pI, if_neg (by omega), sI_pI, if_neg (fun e => hne e.1)]; exact nu s hin
      have b173 : ∀ c1, c1 = (if s = s0 then nI (chN x f s) else sI st 25 11) → ∃ u' ch', fX1_play_b173 K (fun zl1 zl2 zl3 zl4 zl5 zl6 zst => fX1_play_b97 K m zl1 zl2 zl3 zl4 zl5 zl6 zst) (nI s0) a b (b2i ch) (nI k0) (nI i) (nI s) c1 (pI w b s (itS x f s)) = K (nI s0) b a (b2i ch') (nI (k0 + 1)) u' ∧ Vx u' x ∧ Qc u' Q ∧ Nw u' Q a f ∧ Nw u' Q b (itS x f) ∧ FR S_cg st u' ∧ (ch' = false → ch = false ∧ ∀ (j s : Nat) (p : List Nat), i ≤ j → Q[j]? = some (s, p) → itS x f s = f s) ∧ sI u' 25 11 = (if (2 ≤ pc (s0 / 6) ∧ s0 ∈ (Q.drop i).map (·.1)) then nI (chN x f s0) else sI st 25 11) := by
        intro c1 hc1
        unfold fX1_play_b173 fX1_play_b192 fX1_play_b197 fX1_play_b199
        simp only [b2i_0, n_ixb (show s < 2147483648 by omega), h384, decide_true, chk_t, n_toNat (show s < 2147483648 by omega), hbs, has, n_p1]
        by_cases cc : ch = false
        · rw [if_pos cc]
          by_cases ce : itS x f s = f s
          · rw [if_pos ce]
            exact nxt c1 false (fun _ => ⟨cc, ce⟩) hc1
          · rw [if_neg ce]
            exact nxt c1 true (fun h => by cases h) hc1
        · rw [if_neg cc]
          exact nxt c1 true (fun h => by cases h) hc1
      by_cases e : s = s0
      · rw [if_pos e]
        exact b173 _ (by rw [if_pos e])
      · rw [if_neg e]
        refine b173 _ ?_
        rw [if_neg e, sI_pI, if_neg (by omega), f3.i (by rfl), f2.i (by rfl), sI_pI, if_neg (by omega)]
    · rw [if_neg hp, if_pos rfl, n_p1]
      have eit : itS x f s = f s := by unfold itS; rw [if_neg hp, hf1 s hp]
      obtain ⟨u', ch', r1, r2, r3, r4, r5, r6, r7, r8⟩ := ih m (i + 1) ch (pI st b s (f s)) (by omega) (by omega) (Vx.g hb v) (qc.fr (S := S_cg) (by rfl) f1) (nwb st _ nw) (fun j s1 p1 hj hq1 => by
        rw [sI_pI]
        by_cases c : s1 = s
        · rw [if_pos ⟨rfl, c⟩, c, eit]
        · have hj' : j < i := by
            by_cases e : j = i
            · rw [e, hq] at hq1
              exact absurd (Prod.mk.inj (Option.some.inj hq1)).1.symm c
            · omega
          rw [if_neg (by omega)]; exact hd j s1 p1 hj' hq1)
      refine ⟨u', ch', r1, r2, r3, r4, r5, f1.trans r6, fun h => ?_, ?_⟩
      · obtain ⟨z1, z2⟩ := r7 h
        refine ⟨z1, fun j s1 p1 hj hq1 => ?_⟩
        by_cases e : j = i
        · rw [e, hq] at hq1
          rw [← (Prod.mk.inj (Option.some.inj hq1)).1]; exact eit
        · exact z2 j s1 p1 (by omega) hq1
      · have e11 : sI (pI st b s (f s)) 25 11 = sI st 25 11 := by rw [sI_pI, if_neg (by omega)]
        rw [r8, e11]
        have hiff : (2 ≤ pc (s0 / 6) ∧ s0 ∈ (Q.drop (i + 1)).map (·.1)) = (2 ≤ pc (s0 / 6) ∧ s0 ∈ (Q.drop i).map (·.1)) := by
          rw [hdr, List.map_cons, List.mem_cons]
          exact propext ⟨fun w => ⟨w.1, Or.inr w.2⟩, fun w => ⟨w.1, w.2.elim (fun w' => absurd (by rw [← show s0 = s from w']; exact w.1) hp) id⟩⟩
        simp only [hiff]
