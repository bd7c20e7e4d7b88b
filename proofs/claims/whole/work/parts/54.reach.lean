/-! what is come to, by the class -/
def LkC (st : St) (Q : List Qe) (i s : Nat) (p : List Nat) : Prop := (p = [] ∧ sI st 28 s = -2) ∨ ∃ r p' s' i', p = r :: p' ∧ i' < i ∧ Q[i']? = some (s', p') ∧ s' < 384 ∧ r < 5 ∧ sI st 28 s = nI (s' * 5 + r)
def BC (st : St) (Q : List Qe) : Prop := sI st 25 10 = nI Q.length ∧ (∀ (i s : Nat) (p : List Nat), Q[i]? = some (s, p) → sI st 27 i = nI s ∧ p.length ≤ i ∧ LkC st Q i s p) ∧ ∀ s, s < 384 → ¬ s ∈ Q.map (·.1) → sI st 28 s = -1
def QV (x : Rg) (Q : List Qe) : Prop := (Q.map (·.1)).Nodup ∧ ∀ e ∈ Q, Cn x e.1
theorem BC.fr {S : List (Nat × Option Nat)} {st u : St} {Q : List Qe} (e : (inS S 25 10 || hasA S 27 || hasA S 28) = false) (h : FR S st u) (m : BC st Q) : BC u Q := by
  simp only [Bool.or_eq_false_iff] at e
  have h28 := fun j => h.i (a := 28) (j := j) (hasA_in e.2)
  refine ⟨(h.i e.1.1).trans m.1, fun i s p hq => ?_, fun s hs hn => (h28 s).trans (m.2.2 s hs hn)⟩
  obtain ⟨m1, m2, m3⟩ := m.2.1 i s p hq
  refine ⟨(h.i (hasA_in e.1.2)).trans m1, m2, ?_⟩
  unfold LkC at m3 ⊢
  simp only [h28]; exact m3
theorem QV.vd {x : Rg} {Q : List Qe} (g : GdR x) (h : QV x Q) : Vd (Q.map (·.1)) := ⟨h.1, fun t ht => by
  obtain ⟨e, e1, e2⟩ := List.mem_map.mp ht
  rw [← e2]; exact (h.2 e e1).lt g⟩
theorem QV.le {x : Rg} {Q : List Qe} (g : GdR x) (h : QV x Q) : Q.length ≤ 384 := by
  have := (h.vd g).le
  rwa [List.length_map] at this
theorem QV.in {x : Rg} {Q : List Qe} {i s : Nat} {p : List Nat} (h : QV x Q) (hq : Q[i]? = some (s, p)) : Cn x s ∧ s ∈ Q.map (·.1) := by
  have hm : (s, p) ∈ Q := List.mem_of_getElem? hq
  exact ⟨h.2 _ hm, List.mem_map.mpr ⟨_, hm, rfl⟩⟩
theorem QV.app {x : Rg} {Q : List Qe} {t : Nat} {p : List Nat} (h : QV x Q) (hC : Cn x t) (hn : ¬ t ∈ Q.map (·.1)) : QV x (Q ++ [(t, p)]) := by
  refine ⟨?_, fun e he => ?_⟩
  · rw [List.map_append, List.nodup_append]
    exact ⟨h.1, by simp, fun a ha b hb => by
      simp at hb
      rw [hb]; exact fun e => hn (by rw [← e]; exact ha)⟩
  · rcases List.mem_append.mp he with q | q
    · exact h.2 e q
    · simp at q; rw [q]; exact hC
theorem BC_ins {x : Rg} {st : St} {Q : List Qe} {i s r t : Nat} {p : List Nat} (g : GdR x) (m : BC st Q) (v : QV x Q) (ht : t < 384) (hn : ¬ t ∈ Q.map (·.1)) (hq : Q[i]? = some (s, p)) (hr : r < 5) : BC (pI (pI (pI st 28 t (nI (s * 5 + r))) 27 Q.length (nI t)) 25 10 (nI (Q.length + 1))) (Q ++ [(t, r :: p)]) := by
  have hi : i < Q.length := (List.getElem?_eq_some_iff.mp hq).1
  have hs := (v.in hq).1.lt g
  refine ⟨by rw [sI_pI, if_pos ⟨rfl, rfl⟩, List.length_append]; rfl, fun j s1 p1 hj => ?_, fun s1 hs1 hn1 => ?_⟩
  · by_cases c : j < Q.length
    · rw [List.getElem?_append_left c] at hj
      obtain ⟨m1, m2, m3⟩ := m.2.1 j s1 p1 hj
      have hne : s1 ≠ t := fun e => hn (by rw [← e]; exact (v.in hj).2)
      refine ⟨by rw [sI_pI, if_neg (by omega), sI_pI, if_neg (by omega), sI_pI, if_neg (by omega)]; exact m1, m2, ?_⟩
      unfold LkC
      rw [sI_pI, if_neg (by omega), sI_pI, if_neg (by omega), sI_pI, if_neg (by omega)]
      rcases m3 with m3 | ⟨r', p', s', i', k1, k2, k3, k4⟩
      · exact Or.inl m3
      · exact Or.inr ⟨r', p', s', i', k1, k2, by rw [List.getElem?_append_left (by omega)]; exact k3, k4⟩
    · have hj' : j = Q.length := by
        have := (List.getElem?_eq_some_iff.mp hj).1
        rw [List.length_append] at this
        simp at this
        omega
      subst hj'
      rw [List.getElem?_append_right (Nat.le_refl _), Nat.sub_self] at hj
      have he := Option.some.inj hj
      have e1 : t = s1 := (Prod.mk.inj he).1
      have e2 : r :: p = p1 := (Prod.mk.inj he).2
      subst e1 e2
      obtain ⟨m1, m2, m3⟩ := m.2.1 i s p hq
      refine ⟨by rw [sI_pI, if_neg (by omega), sI_pI, if_pos ⟨rfl, rfl⟩], by simp; omega, Or.inr ⟨r, p, s, i, rfl, hi, by rw [List.getElem?_append_left hi]; exact hq, hs, hr, ?_⟩⟩
      rw [sI_pI, if_neg (by omega), sI_pI, if_neg (by omega), sI_pI, if_pos ⟨rfl, rfl⟩]
  · have h1 : ¬ s1 ∈ Q.map (·.1) := fun q => hn1 (by rw [List.map_append]; exact List.mem_append_left _ q)
    have h2 : s1 ≠ t := fun q => hn1 (by rw [q]; simp)
    rw [sI_pI, if_neg (by omega), sI_pI, if_neg (by omega), sI_pI, if_neg (by omega)]
    exact m.2.2 s1 hs1 h1
theorem LkC.ne {st : St} {Q : List Qe} {i s : Nat} {p : List Nat} (h : LkC st Q i s p) : ¬ sI st 28 s = -1 := by
  rcases h with ⟨_, h⟩ | ⟨r, p', s', i', _, _, _, h1, h2, h⟩
  · rw [h]; decide
  · rw [h]
    intro e
    have : nI (s' * 5 + r) < 0 := by rw [e]; decide
    rw [n_neg (by omega)] at this; exact this
abbrev S_bf : List (Nat × Option Nat) := [(19, some 10), (20, none), (21, none), (22, none), (23, none), (24, none), (25, some 10), (27, none), (28, none)]
theorem Vx.bf {st u : St} {x : Rg} (h : FR [(25, some 10), (27, none), (28, none)] st u) (m : Vx st x) : Vx u x := Vt.fr (S := [(25, some 10), (27, none), (28, none)]) (by rfl) (by rfl) (by rfl) (by rfl) (by rfl) h m
abbrev K40r : Type := Int32 → Int32 → St → Option (Int32 × St)
theorem reach_in {x : Rg} {G : Int32} {i s : Nat} {p : List Nat} {K : K40r} (g : GdR x) (hs : Cn x s) (hp : 2 ≤ pc (s / 6)) : ∀ (k m r : Nat) (Q : List Qe) (st : St), r + k = x.1 17 → k < m → Vx st x → BC st Q → QV x Q → Q[i]? = some (s, p) → (∀ e ∈ Q, ¬ nI (e.1 / 6) = G) → ∃ u Q', Vx u x ∧ BC u Q' ∧ QV x Q' ∧ FR S_bf st u ∧ ((fX1_reach_b66 K m G (nI i) (nI s) (nI r) st = K G (nI (i + 1)) u ∧ Q' = Q ++ newB x s p k r (Q.map (·.1)) ∧ ∀ e ∈ Q', ¬ nI (e.1 / 6) = G) ∨ ∃ (t : Nat) (q : List Nat) (N1 N2 : List Qe), newB x s p k r (Q.map (·.1)) = N1 ++ (t, q) :: N2 ∧ (∀ e ∈ N1, ¬ nI (e.1 / 6) = G) ∧ nI (t / 6) = G ∧ Q' = Q ++ N1 ++ [(t, q)] ∧ fX1_reach_b66 K m G (nI i) (nI s) (nI r) st = some (nI t, u)) := by
  intro k
  have h17 := g.2.2.1
  have h64 := p64 g.1
  have hn1 : 1 ≤ x.1 16 := by
    have := pc2 _ (show s / 6 < 64 by have := hs.1; omega) hp
    by_cases z : x.1 16 = 0
    · have := hs.1; rw [z] at this; omega
    · omega
  have h384 := hs.lt g
  induction k with
  | zero =>
    intro m r Q st h1 h2 v b qv hq hg
    obtain ⟨m, rfl⟩ : ∃ j, m = j + 1 := ⟨m - 1, by omega⟩
    have hi : i < Q.length := (List.getElem?_eq_some_iff.mp hq).1
    have hle := qv.le g
    refine ⟨st, Q, v, b, qv, FR.rf, Or.inl ⟨?_, by simp [newB], hg⟩⟩
    rw [fX1_reach_b66, v.2.1.1.2.2.1, if_pos (by rw [n_le (by omega) (by omega)]; omega)]
    unfold fX1_reach_b176
    rw [n_p1]
  | succ k ih =>
    intro m r Q st h1 h2 v b qv hq hg
    obtain ⟨m, rfl⟩ : ∃ j, m = j + 1 := ⟨m - 1, by omega⟩
    have hi : i < Q.length := (List.getElem?_eq_some_iff.mp hq).1
    have hle := qv.le g
    rw [fX1_reach_b66, v.2.1.1.2.2.1, if_neg (by rw [n_le (by omega) (by omega)]; omega), goes7 (by have := hs.1; omega), if_pos hp, if_neg (by decide)]
    obtain ⟨u, e1, v1, f1⟩ := ld7 (r := r) g v hs.1 hp (hs.2 hn1) (by omega)
    have hC : Cn x (ldA x s r) := ld_Cn g hs.1 hp
    have ht := hC.lt g
    have bu : BC u Q := b.fr (S := wX6_after_S) (by rfl) f1
    rw [e1, Option.bind_some]
    simp only [n_ixb (show ldA x s r < 2147483648 by omega), ht, decide_true, chk_t, n_toNat (show ldA x s r < 2147483648 by omega)]
    unfold newB fX1_reach_b170
    by_cases c : ldA x s r ∈ Q.map (·.1)
    · obtain ⟨e, he, hee⟩ := List.mem_map.mp c
      obtain ⟨j, hj⟩ := List.getElem?_of_mem he
      have hj' : Q[j]? = some (ldA x s r, e.2) := by rw [hj, ← hee]
      have hne := (bu.2.1 j _ _ hj').2.2.ne
      rw [if_pos c, if_neg hne, n_p1]
      obtain ⟨u2, Q', r1, r2, r3, r4, r5⟩ := ih m (r + 1) Q u (by omega) (by omega) v1 bu qv hq hg
      exact ⟨u2, Q', r1, r2, r3, (FR.mono (by rfl) f1 : FR S_bf st u).trans r4, r5⟩
    · have hlt : Q.length < 384 := by
        have := (qv.app (p := r :: p) hC c).le g
        rw [List.length_append] at this
        simp at this
        omega
      have h10 : ∀ v, sI (pI u 28 (ldA x s r) v) 25 10 = nI Q.length := fun v => by rw [sI_pI, if_neg (by omega)]; exact bu.1
      have h10' : ∀ v w, sI (pI (pI u 28 (ldA x s r) v) 27 Q.length w) 25 10 = nI Q.length := fun v w => by rw [sI_pI, if_neg (by omega)]; exact h10 v
      rw [if_neg c, bu.2.2 _ ht c, if_pos rfl, bu.1, if_pos (by rw [show (384 : Int32) = nI 384 from rfl, n_lt (by omega) (by omega)]; exact hlt), h10, n_ixb (by omega), decide_eq_true hlt, chk_t, n_toNat (by omega), h10', n_p1, show nI s * (5 : Int32) + nI r = nI (s * 5 + r) by rw [show (5 : Int32) = nI 5 from rfl, n_mul, n_add], n_d6 (by omega)]
      have b2 := BC_ins (r := r) g bu qv ht c hq (by omega)
      have q2 := qv.app (p := r :: p) hC c
      have f2 : FR [(25, some 10), (27, none), (28, none)] u (pI (pI (pI u 28 (ldA x s r) (nI (s * 5 + r))) 27 Q.length (nI (ldA x s r))) 25 10 (nI (Q.length + 1))) := FR.pI (by rfl) (FR.pI (by rfl) (FR.pI (by rfl) FR.rf))
      have fS : FR S_bf st (pI (pI (pI u 28 (ldA x s r) (nI (s * 5 + r))) 27 Q.length (nI (ldA x s r))) 25 10 (nI (Q.length + 1))) := (FR.mono (by rfl) f1 : FR S_bf st u).trans (FR.mono (by rfl) f2)
      by_cases cg : nI (ldA x s r / 6) = G
      · rw [if_pos cg]
        exact ⟨_, _, Vx.bf f2 v1, b2, q2, fS, Or.inr ⟨ldA x s r, r :: p, [], _, rfl, fun e he => absurd he (by simp), cg, by simp, rfl⟩⟩
      · rw [if_neg cg, n_p1]
        obtain ⟨u2, Q', r1, r2, r3, r4, r5⟩ := ih m (r + 1) (Q ++ [(ldA x s r, r :: p)]) _ (by omega) (by omega) (Vx.bf f2 v1) b2 q2 (by rw [List.getElem?_append_left hi]; exact hq) (fun e he => by
          rcases List.mem_append.mp he with q | q
          · exact hg e q
          · simp at q; rw [q]; exact cg)
        have em : (Q ++ [(ldA x s r, r :: p)]).map (·.1) = Q.map (·.1) ++ [ldA x s r] := by simp
        rw [em] at r5
        refine ⟨u2, Q', r1, r2, r3, fS.trans r4, ?_⟩
        rcases r5 with ⟨w1, w2, w3⟩ | ⟨t, q, N1, N2, w1, w2, w3, w4, w5⟩
        · exact Or.inl ⟨w1, by rw [w2]; simp, w3⟩
        · refine Or.inr ⟨t, q, (ldA x s r, r :: p) :: N1, N2, by rw [w1]; rfl, fun e he => ?_, w3, by rw [w4]; simp, w5⟩
          rcases List.mem_cons.mp he with q | q
          · rw [q]; exact cg
          · exact w2 e q
/-- all that one leads to is in the row -/
def Clo (x : Rg) (Q : List Qe) (i : Nat) : Prop := ∀ (j s : Nat) (p : List Nat), j < i → Q[j]? = some (s, p) → 2 ≤ pc (s / 6) → ∀ r, r < x.1 17 → ldA x s r ∈ Q.map (·.1)
theorem reach_loop {x : Rg} {G : Int32} (g : GdR x) : ∀ (f m i : Nat) (Q : List Qe) (st : St), i + f = 385 → f < m → i ≤ Q.length → Vx st x → BC st Q → QV x Q → (∀ e ∈ Q, ¬ nI (e.1 / 6) = G) → Clo x Q i → ∃ u Q' R ret, fX1_reach_b40 m G (nI i) st = some (ret, u) ∧ Vx u x ∧ BC u Q' ∧ QV x Q' ∧ FR S_bf st u ∧ Q' = Q ++ R ∧ ((ret = -1 ∧ bfP x G f (Q.map (·.1)) (Q.drop i) = none ∧ Clo x Q' Q'.length) ∨ ∃ (t : Nat) (q : List Nat) (j : Nat), ret = nI t ∧ Q'[j]? = some (t, q) ∧ bfP x G f (Q.map (·.1)) (Q.drop i) = some q) := by
  intro f
  have h64 := p64 g.1
  have h17 := g.2.2.1
  induction f with
  | zero =>
    intro m i Q st h1 h2 h3 v b qv
    have := qv.le g
    omega
  | succ f ih =>
    intro m i Q st h1 h2 h3 v b qv hg hc
    obtain ⟨m, rfl⟩ : ∃ j, m = j + 1 := ⟨m - 1, by omega⟩
    have hle := qv.le g
    rw [fX1_reach_b40, b.1]
    by_cases he : i = Q.length
    · rw [if_pos (by rw [n_le (by omega) (by omega)]; omega)]
      refine ⟨st, Q, [], -1, rfl, v, b, qv, FR.rf, by simp, Or.inl ⟨rfl, ?_, by rw [← he]; exact hc⟩⟩
      rw [List.drop_eq_nil_of_le (by omega)]; rfl
    · have hi : i < Q.length := by omega
      obtain ⟨s, p, hq⟩ : ∃ s p, Q[i]? = some (s, p) := ⟨Q[i].1, Q[i].2, List.getElem?_eq_getElem hi⟩
      have hm : (s, p) ∈ Q := List.mem_of_getElem? hq
      have hC := (qv.in hq).1
      have h384 := hC.lt g
      have hdr : Q.drop i = (s, p) :: Q.drop (i + 1) := by
        rw [List.drop_eq_getElem_cons hi]
        congr 1
        have := List.getElem?_eq_getElem hi
        rw [hq] at this
        exact (Option.some.inj this).symm
      rw [if_neg (by rw [n_le (by omega) (by omega)]; omega), if_neg (by rw [show (384 : Int32) = nI 384 from rfl, n_le (by omega) (by omega)]; omega), n_ixb (by omega), decide_eq_true (show i < 384 by omega), chk_t, n_toNat (by omega), (b.2.1 i s p hq).1, hdr]
      unfold bfP
      rw [if_neg (hg (s, p) hm)]
      by_cases hp : 2 ≤ pc (s / 6)
      · rw [if_pos hp]
        obtain ⟨u, Q', r1, r2, r3, r4, r5⟩ := reach_in (G := G) (i := i) (p := p) (K := fun zl2 zl3 zst => fX1_reach_b40 m zl2 zl3 zst) g hC hp (x.1 17) FU 0 Q st (by omega) (by unfold FU; omega) v b qv hq hg
        have hdrop : ∀ N : List Qe, (Q ++ N).drop (i + 1) = Q.drop (i + 1) ++ N := fun N => List.drop_append_of_le_length (by omega)
        rcases r5 with ⟨w1, w2, w3⟩ | ⟨t, q, N1, N2, w1, w2, w3, w4, w5⟩
        · have hc' : Clo x Q' (i + 1) := by
            intro j s1 p1 hj hq1 hp1 r hr
            rw [w2] at hq1 ⊢
            by_cases ej : j = i
            · subst ej
              rw [List.getElem?_append_left hi, hq] at hq1
              have e1 : s = s1 := (Prod.mk.inj (Option.some.inj hq1)).1
              have e2 : p = p1 := (Prod.mk.inj (Option.some.inj hq1)).2
              subst e1 e2
              rw [List.map_append]
              exact new_all (x.1 17) 0 _ r (by omega) (by omega)
            · rw [List.getElem?_append_left (by omega)] at hq1
              rw [List.map_append]
              exact List.mem_append_left _ (hc j s1 p1 (by omega) hq1 hp1 r hr)
          obtain ⟨u2, Q2, R, ret, s1, s2, s3, s4, s5, s6, s7⟩ := ih m (i + 1) Q' u (by omega) (by omega) (by rw [w2, List.length_append]; omega) r1 r2 r3 w3 hc'
          rw [w2, List.map_append, hdrop] at s7
          refine ⟨u2, Q2, newB x s p (x.1 17) 0 (Q.map (·.1)) ++ R, ret, ?_, s2, s3, s4, r4.trans s5, by rw [s6, w2, List.append_assoc], s7⟩
          exact w1.trans s1
        · refine ⟨u, Q', N1 ++ [(t, q)], nI t, w5, r1, r2, r3, r4, by rw [w4, List.append_assoc], Or.inr ⟨t, q, Q.length + N1.length, rfl, ?_, ?_⟩⟩
          · rw [w4, List.getElem?_append_right (by simp)]
            simp
          · rw [w1, ← List.append_assoc]
            have hl := r3.le g
            rw [w4] at hl
            simp only [List.length_append, List.length_cons, List.length_nil] at hl
            refine bf_first w3 f _ _ _ (fun e he => ?_) ?_
            · rcases List.mem_append.mp he with w | w
              · exact hg e (List.mem_of_mem_drop w)
              · exact w2 e w
            · rw [List.length_append, List.length_drop]; omega
      · rw [if_neg hp]
        have hb66 : fX1_reach_b66 (fun zl2 zl3 zst => fX1_reach_b40 m zl2 zl3 zst) FU G (nI i) (nI s) 0 st = fX1_reach_b40 m G (nI (i + 1)) st := by
          rw [show FU = 99999 + 1 from rfl, fX1_reach_b66, goes7 (by have := hC.1; omega), if_neg hp]
          unfold fX1_reach_b176
          rw [if_pos rfl, n_p1, ite_self]
        have hc' : Clo x Q (i + 1) := by
          intro j s1 p1 hj hq1 hp1 r hr
          by_cases ej : j = i
          · subst ej
            rw [hq] at hq1
            have e1 : s = s1 := (Prod.mk.inj (Option.some.inj hq1)).1
            subst e1
            exact absurd hp1 hp
          · exact hc j s1 p1 (by omega) hq1 hp1 r hr
        obtain ⟨u2, Q2, R, ret, s1, s2, s3, s4, s5, s6, s7⟩ := ih m (i + 1) Q st (by omega) (by omega) (by omega) v b qv hg hc'
        exact ⟨u2, Q2, R, ret, hb66.trans s1, s2, s3, s4, s5, s6, s7⟩
theorem reach_ok {x : Rg} {G : Int32} {s0 : Nat} {st : St} (g : GdR x) (v : Vx st x) (hC : Cn x s0) : ∃ u Q' R ret, fX1_reach (nI s0) G st = some (ret, u) ∧ Vx u x ∧ BC u Q' ∧ QV x Q' ∧ FR S_bf st u ∧ Q' = (s0, []) :: R ∧ ((ret = -1 ∧ bfP x G 385 [s0] [(s0, [])] = none ∧ Clo x Q' Q'.length) ∨ ∃ (t : Nat) (q : List Nat) (j : Nat), ret = nI t ∧ Q'[j]? = some (t, q) ∧ bfP x G 385 [s0] [(s0, [])] = some q) := by
  have h384 := hC.lt g
  have n28 : sN st 28 = 384 := v.1.N (a := 28) rfl
  obtain ⟨w, w1, w2, w3, w4⟩ := fill_all (S := [(28, none)]) (ar := 28) (v := -1) (st := st) (fun j => rfl) (by omega)
  have f3 : FR [(25, some 10), (27, none), (28, none)] st (pI (pI (pI w 28 s0 (-2)) 27 0 (nI s0)) 25 10 1) := FR.pI (by rfl) (FR.pI (by rfl) (FR.pI (by rfl) (FR.mono (by rfl) w2)))
  have v3 := Vx.bf f3 v
  have b3 : BC (pI (pI (pI w 28 s0 (-2)) 27 0 (nI s0)) 25 10 1) [(s0, [])] := by
    refine ⟨by rw [sI_pI, if_pos ⟨rfl, rfl⟩]; rfl, fun i s p hi => ?_, fun s hs hn => ?_⟩
    · have hl := (List.getElem?_eq_some_iff.mp hi).1
      simp at hl
      subst hl
      have he := Option.some.inj hi
      have e1 : s0 = s := (Prod.mk.inj he).1
      have e2 : [] = p := (Prod.mk.inj he).2
      subst e1 e2
      exact ⟨by rw [sI_pI, if_neg (by omega), sI_pI, if_pos ⟨rfl, rfl⟩], by simp, Or.inl ⟨rfl, by rw [sI_pI, if_neg (by omega), sI_pI, if_neg (by omega), sI_pI, if_pos ⟨rfl, rfl⟩]⟩⟩
    · have hne : s ≠ s0 := fun e => hn (by rw [e]; simp)
      rw [sI_pI, if_neg (by omega), sI_pI, if_neg (by omega), sI_pI, if_neg (by omega)]
      exact w4 s (by omega)
  have q3 : QV x [(s0, [])] := ⟨by simp, fun e he => by simp at he; rw [he]; exact hC⟩
  unfold fX1_reach
  rw [w1, Option.bind_some, n_ixb (by omega), decide_eq_true h384, chk_t, n_toNat (by omega), n_d6 (by omega)]
  by_cases cg : nI (s0 / 6) = G
  · rw [if_pos cg]
    refine ⟨_, _, [], _, rfl, v3, b3, q3, FR.mono (by rfl) f3, rfl, Or.inr ⟨s0, [], 0, rfl, rfl, ?_⟩⟩
    show (if nI (s0 / 6) = G then some [] else _) = _
    rw [if_pos cg]
  · rw [if_neg cg]
    obtain ⟨u, Q', R, ret, r1, r2, r3, r4, r5, r6, r7⟩ := reach_loop (G := G) g 385 FU 0 [(s0, [])] _ (by omega) (by unfold FU; omega) (by simp) v3 b3 q3 (fun e he => by simp at he; rw [he]; exact cg) (fun j s p hj => by omega)
    exact ⟨u, Q', R, ret, r1, r2, r3, r4, (FR.mono (by rfl) f3 : FR S_bf st _).trans r5, r6, r7⟩
/-! the way back -/
theorem says_to {st : St} {Q : List Qe} (b : BC st Q) (hlt : ∀ (i s : Nat) (p : List Nat), Q[i]? = some (s, p) → s < 384) : ∀ (p : List Nat) (m k j s : Nat), Q[j]? = some (s, p) → p.length < m → k + p.length ≤ 383 → fX1_sayingsTo_b4 st m (nI k) (nI s) = some (nI (k + p.length)) := by
  intro p
  induction p with
  | nil =>
    intro m k j s hq hm hk
    obtain ⟨m, rfl⟩ : ∃ j, m = j + 1 := ⟨m - 1, by simp at hm; omega⟩
    have hs := hlt j s [] hq
    rcases (b.2.1 j s [] hq).2.2 with ⟨_, h⟩ | ⟨r, p', s', i', h, _⟩
    · simp at hk
      rw [fX1_sayingsTo_b4, if_neg (by rw [show (384 : Int32) = nI 384 from rfl, n_le (by omega) (by omega)]; omega), n_ixb (by omega), decide_eq_true hs, chk_t, n_toNat (by omega), h, if_pos (by decide)]
      rfl
    · cases h
  | cons r p ih =>
    intro m k j s hq hm hk
    obtain ⟨m, rfl⟩ : ∃ j, m = j + 1 := ⟨m - 1, by omega⟩
    have hs := hlt j s _ hq
    simp only [List.length_cons] at hm hk ⊢
    rcases (b.2.1 j s _ hq).2.2 with ⟨h, _⟩ | ⟨r', p', s', i', h, h1, h2, h3, h4, h5⟩
    · cases h
    · obtain ⟨e1, e2⟩ := List.cons.inj h
      subst e1 e2
      rw [fX1_sayingsTo_b4, if_neg (by rw [show (384 : Int32) = nI 384 from rfl, n_le (by omega) (by omega)]; omega), n_ixb (by omega), decide_eq_true hs, chk_t, n_toNat (by omega), h5, if_neg (by rw [n_neg (by omega)]; exact id), chk_t, n_p1, show nI (s' * 5 + r) / (5 : Int32) = nI s' by rw [show (5 : Int32) = nI 5 from rfl, n_div (by omega) (by omega)]; congr 1; omega]
      rw [ih m (k + 1) i' s' h2 (by omega) (by omega)]
      congr 2; omega
theorem ahead7 {st : St} {Q : List Qe} (b : BC st Q) (hlt : ∀ (i s : Nat) (p : List Nat), Q[i]? = some (s, p) → s < 384) {ah : Nat} (hah : ah < 384) : ∀ (d m i j s w : Nat) (p : List Nat), Q[j]? = some (s, p) → i + d = ah → d < m → p[d]? = some w → fX1_rhymeAhead_b5 st m (nI ah) (nI s) (nI i) = some (nI w) := by
  intro d
  induction d with
  | zero =>
    intro m i j s w p hq h1 hm hw
    obtain ⟨m, rfl⟩ : ∃ j, m = j + 1 := ⟨m - 1, by omega⟩
    have hs := hlt j s _ hq
    rcases (b.2.1 j s _ hq).2.2 with ⟨h, _⟩ | ⟨r', p', s', i', h, h1', h2, h3, h4, h5⟩
    · rw [h] at hw; cases hw
    · rw [h] at hw
      have e1 : r' = w := Option.some.inj hw
      subst e1
      rw [fX1_rhymeAhead_b5, if_pos (by rw [n_le (by omega) (by omega)]; omega)]
      unfold fX1_rhymeAhead_b35
      rw [n_ixb (by omega), decide_eq_true hs, chk_t, n_toNat (by omega), h5, if_pos (by rw [n_nn (by omega)]; trivial), chk_t, show (5 : Int32) = nI 5 from rfl, n_rem (by omega) (by omega)]
      congr 2; omega
  | succ d ih =>
    intro m i j s w p hq h1 hm hw
    obtain ⟨m, rfl⟩ : ∃ j, m = j + 1 := ⟨m - 1, by omega⟩
    have hs := hlt j s _ hq
    rcases (b.2.1 j s _ hq).2.2 with ⟨h, _⟩ | ⟨r', p', s', i', h, h1', h2, h3, h4, h5⟩
    · rw [h] at hw; cases hw
    · rw [h] at hw
      have hw' : p'[d]? = some w := by simpa using hw
      rw [fX1_rhymeAhead_b5, if_neg (by rw [n_le (by omega) (by omega)]; omega), n_ixb (by omega), decide_eq_true hs, chk_t, n_toNat (by omega), h5, if_neg (by rw [n_neg (by omega)]; exact id), chk_t, n_p1, show nI (s' * 5 + r') / (5 : Int32) = nI s' by rw [show (5 : Int32) = nI 5 from rfl, n_div (by omega) (by omega)]; congr 1; omega]
      exact ih m (i + 1) i' s' w p' h2 (by omega) (by omega) hw'
