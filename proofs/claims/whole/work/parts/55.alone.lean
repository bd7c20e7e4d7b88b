/-! what is come to, by the model -/
def LkM (st : St) (Q : List Qe) (i s : Nat) (p : List Nat) : Prop := (p = [] ∧ sI st 57 s = -1) ∨ ∃ r p' s' i', p = r :: p' ∧ i' < i ∧ Q[i']? = some (s', p') ∧ s' < 384 ∧ sI st 57 s = nI s' ∧ sI st 58 s = nI r
def BM (st : St) (Q : List Qe) : Prop := sI st 38 40 = nI Q.length ∧ (∀ (i s : Nat) (p : List Nat), Q[i]? = some (s, p) → sI st 56 i = nI s ∧ p.length ≤ i ∧ LkM st Q i s p) ∧ ∀ s, s < 384 → sI st 59 s = if s ∈ Q.map (·.1) then 1 else 0
def QW (x : Rg) (Q : List Qe) : Prop := (Q.map (·.1)).Nodup ∧ ∀ e ∈ Q, e.1 < 384 ∧ e.1 / 6 < 2 ^ x.1 16
theorem QW.vd {x : Rg} {Q : List Qe} (h : QW x Q) : Vd (Q.map (·.1)) := ⟨h.1, fun t ht => by
  obtain ⟨e, e1, e2⟩ := List.mem_map.mp ht
  rw [← e2]; exact (h.2 e e1).1⟩
theorem QW.le {x : Rg} {Q : List Qe} (h : QW x Q) : Q.length ≤ 384 := by
  have := h.vd.le
  rwa [List.length_map] at this
theorem QW.in {x : Rg} {Q : List Qe} {i s : Nat} {p : List Nat} (h : QW x Q) (hq : Q[i]? = some (s, p)) : s < 384 ∧ s / 6 < 2 ^ x.1 16 ∧ s ∈ Q.map (·.1) := by
  have hm : (s, p) ∈ Q := List.mem_of_getElem? hq
  exact ⟨(h.2 _ hm).1, (h.2 _ hm).2, List.mem_map.mpr ⟨_, hm, rfl⟩⟩
theorem QW.app {x : Rg} {Q : List Qe} {t : Nat} {p : List Nat} (h : QW x Q) (h1 : t < 384) (h2 : t / 6 < 2 ^ x.1 16) (hn : ¬ t ∈ Q.map (·.1)) : QW x (Q ++ [(t, p)]) := by
  refine ⟨?_, fun e he => ?_⟩
  · rw [List.map_append, List.nodup_append]
    exact ⟨h.1, by simp, fun a ha b hb => by
      simp at hb
      rw [hb]; exact fun e => hn (by rw [← e]; exact ha)⟩
  · rcases List.mem_append.mp he with q | q
    · exact h.2 e q
    · simp at q; rw [q]; exact ⟨h1, h2⟩
abbrev S_rm : List (Nat × Option Nat) := [(38, some 40), (56, none), (57, none), (58, none), (59, none)]
theorem nar1 : vp_nar .boolean (1 : Int32) = 1 := by decide
theorem nar0 : vp_nar .boolean (0 : Int32) = 0 := by decide
/-- one more in the row; or not, if it is there -/
theorem reaches8 {x : Rg} {st : St} {Q : List Qe} {t : Nat} {a b : Int32} {q : List Nat} (m : BM st Q) (v : QW x Q) (ht : t < 384) (ht2 : t / 6 < 2 ^ x.1 16) (hl : q.length ≤ Q.length) (hk : (q = [] ∧ a = -1) ∨ ∃ r p' s' i', q = r :: p' ∧ i' < Q.length ∧ Q[i']? = some (s', p') ∧ s' < 384 ∧ a = nI s' ∧ b = nI r) : ∃ u, fX8_reaches (nI t) a b st = some u ∧ FR S_rm st u ∧ BM u (if t ∈ Q.map (·.1) then Q else Q ++ [(t, q)]) ∧ QW x (if t ∈ Q.map (·.1) then Q else Q ++ [(t, q)]) := by
  unfold fX8_reaches
  rw [n_ixb (by omega), decide_eq_true ht, chk_t, n_toNat (by omega), m.2.2 t ht]
  by_cases c : t ∈ Q.map (·.1)
  · rw [if_pos c, if_neg (by decide), if_pos c]
    exact ⟨st, rfl, FR.rf, m, v⟩
  · have v2 := v.app (p := q) ht ht2 c
    have hlt : Q.length < 384 := by
      have := v2.le
      rw [List.length_append] at this
      simp at this
      omega
    have h40 : sI (pI st 59 t (vp_nar .boolean 1)) 38 40 = nI Q.length := by rw [sI_pI, if_neg (by omega)]; exact m.1
    have h40' : sI (pI (pI (pI (pI st 59 t (vp_nar .boolean 1)) 56 Q.length (nI t)) 57 t a) 58 t b) 38 40 = nI Q.length := by
      rw [sI_pI, if_neg (by omega), sI_pI, if_neg (by omega), sI_pI, if_neg (by omega)]; exact h40
    rw [if_neg c, if_pos rfl, chk_t, h40, n_ixb (by omega), decide_eq_true hlt, chk_t, chk_t, chk_t, n_toNat (by omega), h40', n_p1, if_neg c, nar1]
    refine ⟨_, rfl, FR.pI (by rfl) (FR.pI (by rfl) (FR.pI (by rfl) (FR.pI (by rfl) (FR.pI (by rfl) FR.rf)))), ⟨by rw [sI_pI, if_pos ⟨rfl, rfl⟩, List.length_append]; rfl, fun j s1 p1 hj => ?_, fun s1 hs1 => ?_⟩, v2⟩
    · by_cases cj : j < Q.length
      · rw [List.getElem?_append_left cj] at hj
        obtain ⟨m1, m2, m3⟩ := m.2.1 j s1 p1 hj
        have hne : s1 ≠ t := fun e => c (by rw [← e]; exact (v.in hj).2.2)
        refine ⟨?_, m2, ?_⟩
        · rw [sI_pI, if_neg (by omega), sI_pI, if_neg (by omega), sI_pI, if_neg (by omega), sI_pI, if_neg (by omega), sI_pI, if_neg (by omega)]; exact m1
        · have e57 : sI (pI (pI (pI (pI (pI st 59 t 1) 56 Q.length (nI t)) 57 t a) 58 t b) 38 40 (nI (Q.length + 1))) 57 s1 = sI st 57 s1 := by
            rw [sI_pI, if_neg (by omega), sI_pI, if_neg (by omega), sI_pI, if_neg (by omega), sI_pI, if_neg (by omega), sI_pI, if_neg (by omega)]
          have e58 : sI (pI (pI (pI (pI (pI st 59 t 1) 56 Q.length (nI t)) 57 t a) 58 t b) 38 40 (nI (Q.length + 1))) 58 s1 = sI st 58 s1 := by
            rw [sI_pI, if_neg (by omega), sI_pI, if_neg (by omega), sI_pI, if_neg (by omega), sI_pI, if_neg (by omega), sI_pI, if_neg (by omega)]
          unfold LkM
          rw [e57, e58]
          rcases m3 with m3 | ⟨r', p', s', i', k1, k2, k3, k4⟩
          · exact Or.inl m3
          · exact Or.inr ⟨r', p', s', i', k1, k2, by rw [List.getElem?_append_left (by omega)]; exact k3, k4⟩
      · have hj' : j = Q.length := by
          have := (List.getElem?_eq_some_iff.mp hj).1
          rw [List.length_append] at this
          simp at this
          omega
        subst hj'
        rw [List.getElem?_append_right (Nat.le_refl _), Nat.sub_self] at hj
        have he := Option.some.inj hj
        have e1 : t = s1 := (Prod.mk.inj he).1
        have e2 : q = p1 := (Prod.mk.inj he).2
        subst e1 e2
        refine ⟨by rw [sI_pI, if_neg (by omega), sI_pI, if_neg (by omega), sI_pI, if_neg (by omega), sI_pI, if_pos ⟨rfl, rfl⟩], hl, ?_⟩
        have e57 : sI (pI (pI (pI (pI (pI st 59 t 1) 56 Q.length (nI t)) 57 t a) 58 t b) 38 40 (nI (Q.length + 1))) 57 t = a := by
          rw [sI_pI, if_neg (by omega), sI_pI, if_neg (by omega), sI_pI, if_pos ⟨rfl, rfl⟩]
        have e58 : sI (pI (pI (pI (pI (pI st 59 t 1) 56 Q.length (nI t)) 57 t a) 58 t b) 38 40 (nI (Q.length + 1))) 58 t = b := by
          rw [sI_pI, if_neg (by omega), sI_pI, if_pos ⟨rfl, rfl⟩]
        unfold LkM
        rw [e57, e58]
        rcases hk with hk | ⟨r', p', s', i', k1, k2, k3, k4, k5, k6⟩
        · exact Or.inl hk
        · exact Or.inr ⟨r', p', s', i', k1, k2, by rw [List.getElem?_append_left k2]; exact k3, k4, k5, k6⟩
    · rw [sI_pI, if_neg (by omega), sI_pI, if_neg (by omega), sI_pI, if_neg (by omega), sI_pI, if_neg (by omega), sI_pI]
      by_cases e : s1 = t
      · rw [if_pos ⟨rfl, e⟩, if_pos (by rw [e]; simp)]
      · rw [if_neg (by omega), m.2.2 s1 hs1]
        have : (s1 ∈ (Q ++ [(t, q)]).map (·.1)) = (s1 ∈ Q.map (·.1)) := by
          rw [List.map_append, List.mem_append]
          exact propext ⟨fun h => h.elim id (fun h => absurd (by simpa using h) e), Or.inl⟩
        simp only [this]
theorem BM.p {st : St} {Q : List Qe} {i s : Nat} {p : List Nat} (m : BM st Q) (h : Q[i]? = some (s, p)) : p.length ≤ i := (m.2.1 i s p h).2.1
abbrev K39 : Type := Int32 → Int32 → St → Option (Int32 × St)
theorem ralone_in {x : Rg} {c : Int32} {i s : Nat} {p : List Nat} {K : K39} (g : GdR x) (hs : s / 6 < 2 ^ x.1 16) (hp : 2 ≤ pc (s / 6)) : ∀ (k m r : Nat) (Q : List Qe) (st : St), r + k = x.1 17 → k < m → MRg st 40 0 x → LdM st x → BM st Q → QW x Q → Q[i]? = some (s, p) → ∃ u, fX8_reachesAlone_b83 K m c (nI i) (nI s) (nI r) st = K c (nI (i + 1)) u ∧ BM u (Q ++ newB x s p k r (Q.map (·.1))) ∧ QW x (Q ++ newB x s p k r (Q.map (·.1))) ∧ FR S_rm st u := by
  intro k
  have h17 := g.2.2.1
  have h64 := p64 g.1
  induction k with
  | zero =>
    intro m r Q st h1 h2 mr l b qw hq
    obtain ⟨m, rfl⟩ : ∃ j, m = j + 1 := ⟨m - 1, by omega⟩
    have hi : i < Q.length := (List.getElem?_eq_some_iff.mp hq).1
    have hle := qw.le
    refine ⟨st, ?_, by simpa [newB] using b, by simpa [newB] using qw, FR.rf⟩
    rw [fX8_reachesAlone_b83, mr.k (by omega), if_pos (by rw [n_le (by omega) (by omega)]; omega)]
    unfold fX8_reachesAlone_b119
    rw [n_p1]
  | succ k ih =>
    intro m r Q st h1 h2 mr l b qw hq
    obtain ⟨m, rfl⟩ : ∃ j, m = j + 1 := ⟨m - 1, by omega⟩
    have hi : i < Q.length := (List.getElem?_eq_some_iff.mp hq).1
    have hC : Cn x (ldA x s r) := ld_Cn g hs hp
    have hs3 := (qw.in hq).1
    have hpl := b.p hq
    rw [fX8_reachesAlone_b83, mr.k (show 17 < 19 by omega), if_neg (by rw [n_le (by omega) (by omega)]; omega), show (5 : Int32) = nI 5 from rfl, n_mul, n_add, n_ixb (by omega), decide_eq_true (show 5 * s + r < 1920 by omega), chk_t, n_toNat (by omega), l s hs hp r (by omega)]
    obtain ⟨u, e1, f1, b1, q1⟩ := reaches8 (a := nI s) (b := nI r) (q := r :: p) b qw (hC.lt g) hC.1 (by simp; omega) (Or.inr ⟨r, p, s, i, rfl, hi, hq, hs3, rfl, rfl⟩)
    rw [e1, Option.bind_some, n_p1]
    unfold newB
    by_cases c2 : ldA x s r ∈ Q.map (·.1)
    · rw [if_pos c2] at b1 q1 ⊢
      obtain ⟨u2, r1, r2, r3, r4⟩ := ih m (r + 1) Q u (by omega) (by omega) (MRg.fr (by rfl) f1 mr) (LdM.fr (by rfl) f1 l) b1 q1 hq
      exact ⟨u2, r1, r2, r3, f1.trans r4⟩
    · rw [if_neg c2] at b1 q1 ⊢
      obtain ⟨u2, r1, r2, r3, r4⟩ := ih m (r + 1) (Q ++ [(ldA x s r, r :: p)]) u (by omega) (by omega) (MRg.fr (by rfl) f1 mr) (LdM.fr (by rfl) f1 l) b1 q1 (by rw [List.getElem?_append_left hi]; exact hq)
      have em : (Q ++ [(ldA x s r, r :: p)]).map (·.1) = Q.map (·.1) ++ [ldA x s r] := by simp
      rw [em] at r2 r3
      refine ⟨u2, r1, ?_, ?_, f1.trans r4⟩
      · simpa using r2
      · simpa using r3
theorem ralone_loop {x : Rg} {c : Nat} (g : GdR x) (hc : c < 6) : ∀ (f m i : Nat) (Q : List Qe) (st : St), i + f = 385 → f < m → i ≤ Q.length → MRg st 40 0 x → LdM st x → BM st Q → QW x Q → ∃ u Q', FR S_rm st u ∧ BM u Q' ∧ QW x Q' ∧ ((fX8_reachesAlone_b39 m (nI c) (nI i) st = some (-1, u) ∧ bfP x (jshl 1 (nI c)) f (Q.map (·.1)) (Q.drop i) = none) ∨ ∃ (t : Nat) (q : List Nat) (j : Nat), fX8_reachesAlone_b39 m (nI c) (nI i) st = some (nI t, u) ∧ Q'[j]? = some (t, q) ∧ bfP x (jshl 1 (nI c)) f (Q.map (·.1)) (Q.drop i) = some q) := by
  intro f
  have h64 := p64 g.1
  have h17 := g.2.2.1
  induction f with
  | zero =>
    intro m i Q st h1 h2 h3 mr l b qw
    have := qw.le
    omega
  | succ f ih =>
    intro m i Q st h1 h2 h3 mr l b qw
    obtain ⟨m, rfl⟩ : ∃ j, m = j + 1 := ⟨m - 1, by omega⟩
    have hle := qw.le
    rw [fX8_reachesAlone_b39, b.1]
    by_cases he : i = Q.length
    · rw [if_pos (by rw [n_le (by omega) (by omega)]; omega)]
      refine ⟨st, Q, FR.rf, b, qw, Or.inl ⟨rfl, ?_⟩⟩
      rw [List.drop_eq_nil_of_le (by omega)]; rfl
    · have hi : i < Q.length := by omega
      obtain ⟨s, p, hq⟩ : ∃ s p, Q[i]? = some (s, p) := ⟨Q[i].1, Q[i].2, List.getElem?_eq_getElem hi⟩
      obtain ⟨hs3, hs6, _⟩ := qw.in hq
      have hdr : Q.drop i = (s, p) :: Q.drop (i + 1) := by
        rw [List.drop_eq_getElem_cons hi]
        congr 1
        have := List.getElem?_eq_getElem hi
        rw [hq] at this
        exact (Option.some.inj this).symm
      rw [if_neg (by rw [n_le (by omega) (by omega)]; omega), n_ixb (by omega), decide_eq_true (show i < 384 by omega), chk_t, n_toNat (by omega), (b.2.1 i s p hq).1, hdr]
      unfold bfP fX8_insideOf
      rw [n_d6 (by omega)]
      by_cases cg : nI (s / 6) = jshl 1 (nI c)
      · rw [if_pos cg, if_pos cg]
        exact ⟨st, Q, FR.rf, b, qw, Or.inr ⟨s, p, i, rfl, hq, rfl⟩⟩
      · rw [if_neg cg, if_neg cg, ones64 _ (by omega), Option.bind_some]
        have hpc := pc_le (s / 6) (by omega)
        have hle2 : ((2 : Int32) ≤ nI (pc (s / 6))) = (2 ≤ pc (s / 6)) := n_le (a := 2) (by omega) (by omega)
        simp only [hle2]
        by_cases hp : 2 ≤ pc (s / 6)
        · rw [if_pos hp, if_pos hp]
          obtain ⟨u, r1, r2, r3, r4⟩ := ralone_in (c := nI c) (i := i) (p := p) (K := fun zl1 zl2 zst => fX8_reachesAlone_b39 m zl1 zl2 zst) g hs6 hp (x.1 17) FU 0 Q st (by omega) (by unfold FU; omega) mr l b qw hq
          rw [show fX8_reachesAlone_b83 (fun zl1 zl2 zst => fX8_reachesAlone_b39 m zl1 zl2 zst) FU (nI c) (nI i) (nI s) 0 st = _ from r1]
          obtain ⟨u2, Q2, s1, s2, s3, s4⟩ := ih m (i + 1) _ u (by omega) (by omega) (by rw [List.length_append]; omega) (MRg.fr (by rfl) r4 mr) (LdM.fr (by rfl) r4 l) r2 r3
          rw [List.map_append, List.drop_append_of_le_length (by omega)] at s4
          exact ⟨u2, Q2, r4.trans s1, s2, s3, s4⟩
        · rw [if_neg hp, if_neg hp]
          unfold fX8_reachesAlone_b119
          rw [n_p1]
          obtain ⟨u2, Q2, s1, s2, s3, s4⟩ := ih m (i + 1) Q st (by omega) (by omega) (by omega) mr l b qw
          exact ⟨u2, Q2, s1, s2, s3, s4⟩
theorem unreach {c : Int32} : ∀ (d n i : Nat) (st : St), i + d = 384 → d < n → (∀ j, j < i → sI st 59 j = 0) → ∃ u, fX8_reachesAlone_b2 n c (nI i) st = ((fX8_reaches (fX8_stateNow (pI u 38 40 (0 : Int32))) (-1 : Int32) (-1 : Int32) (pI u 38 40 (0 : Int32))).bind (fun q2 => fX8_reachesAlone_b39 FU c (0 : Int32) q2)) ∧ (∀ j, j < 384 → sI u 59 j = 0) ∧ FR [(59, none)] st u := by
  intro d
  induction d with
  | zero =>
    intro n i st h1 h2 hz
    obtain ⟨n, rfl⟩ : ∃ j, n = j + 1 := ⟨n - 1, by omega⟩
    refine ⟨st, ?_, fun j hj => hz j (by omega), FR.rf⟩
    rw [fX8_reachesAlone_b2, if_pos (by rw [show (384 : Int32) = nI 384 from rfl, n_le (by omega) (by omega)]; omega)]
  | succ d ih =>
    intro n i st h1 h2 hz
    obtain ⟨n, rfl⟩ : ∃ j, n = j + 1 := ⟨n - 1, by omega⟩
    obtain ⟨u, e1, e2, e3⟩ := ih n (i + 1) (pI st 59 i (vp_nar .boolean 0)) (by omega) (by omega) (fun j hj => by
      rw [sI_pI, nar0]
      by_cases c : j = i
      · rw [if_pos ⟨rfl, c⟩]
      · rw [if_neg (by omega)]; exact hz j (by omega))
    refine ⟨u, ?_, e2, FR.trans (FR.pI (by rfl) FR.rf) e3⟩
    rw [fX8_reachesAlone_b2, if_neg (by rw [show (384 : Int32) = nI 384 from rfl, n_le (by omega) (by omega)]; omega), n_ixb (by omega), decide_eq_true (by omega), chk_t, n_toNat (by omega), n_p1]
    exact e1
theorem ralone8 {x : Rg} {c : Nat} {st : St} (g : GdR x) (hc : c < 6) (mr : MRg st 40 0 x) (l : LdM st x) : ∃ u Q', FR S_rm st u ∧ BM u Q' ∧ QW x Q' ∧ ((fX8_reachesAlone (nI c) st = some (-1, u) ∧ bfP x (jshl 1 (nI c)) 385 [tgX x] [(tgX x, [])] = none) ∨ ∃ (t : Nat) (q : List Nat) (j : Nat), fX8_reachesAlone (nI c) st = some (nI t, u) ∧ Q'[j]? = some (t, q) ∧ bfP x (jshl 1 (nI c)) 385 [tgX x] [(tgX x, [])] = some q) := by
  have h5 := g.2.2.2.2.1
  have h64 := b_lt64 g
  have htg : tgX x < 384 ∧ tgX x / 6 = x.1 0 := by show x.1 0 * 6 + x.1 1 < 384 ∧ (x.1 0 * 6 + x.1 1) / 6 = _; omega
  obtain ⟨u, e1, e2, e3⟩ := unreach (c := nI c) 384 FU 0 st (by omega) (by unfold FU; omega) (fun j hj => by omega)
  have f2 : FR S_rm st (pI u 38 40 0) := FR.pI (by rfl) (FR.mono (by rfl) e3)
  have m2 := MRg.fr (by rfl) f2 mr
  have b0 : BM (pI u 38 40 0) [] := ⟨by rw [sI_pI, if_pos ⟨rfl, rfl⟩]; rfl, fun i s p h => by simp at h, fun s hs => by
    rw [sI_pI, if_neg (by omega), e2 s hs, if_neg (by simp)]⟩
  have q0 : QW x [] := ⟨by simp, fun e he => by simp at he⟩
  obtain ⟨v, r1, r2, r3, r4⟩ := reaches8 (t := tgX x) (a := -1) (b := -1) (q := []) b0 q0 htg.1 (by rw [htg.2]; exact g.2.1) (by simp) (Or.inl ⟨rfl, rfl⟩)
  rw [if_neg (by simp), List.nil_append] at r3 r4
  obtain ⟨w, Q', s1, s2, s3, s4⟩ := ralone_loop (c := c) g hc 385 FU 0 [(tgX x, [])] v (by omega) (by unfold FU; omega) (by simp) (MRg.fr (by rfl) r2 m2) (LdM.fr (by rfl) (f2.trans r2) l) r3 r4
  refine ⟨w, Q', (f2.trans r2).trans s1, s2, s3, ?_⟩
  unfold fX8_reachesAlone
  rw [show fX8_reachesAlone_b2 FU (nI c) 0 st = _ from e1, now8 m2, r1, Option.bind_some]
  exact s4
/-! the answers -/
def ansA (i : Int32) (P : List Nat) : Int32 := if i = -1 then nI P.length else if i < 0 then -1 else if i < nI P.length then nI (P.getD (P.length - 1 - i.toNatClampNeg) 0) else -1
theorem path8 {Q : List Qe} {i : Int32} {Pt : List Nat} (hlt : ∀ (i s : Nat) (p : List Nat), Q[i]? = some (s, p) → s < 384) (hi : (-1 : Int32) ≤ i) (hP : Pt.length ≤ 383) : ∀ (p : List Nat) (m k j s : Nat) (st : St), BM st Q → Q[j]? = some (s, p) → p.length < m → k + p.length = Pt.length → Pt.drop k = p → (∀ j', j' < k → sI st 60 j' = nI (Pt.getD j' 0)) → ∃ u, fX8_alone_b35 m i (nI s) (nI k) st = some (ansA i Pt, u) ∧ FR [(60, none)] st u := by
  intro p
  induction p with
  | nil =>
    intro m k j s st b hq hm hk hd hc
    obtain ⟨m, rfl⟩ : ∃ j, m = j + 1 := ⟨m - 1, by simp at hm; omega⟩
    simp at hk
    have hs := hlt j s [] hq
    rcases (b.2.1 j s [] hq).2.2 with ⟨_, h⟩ | ⟨r, p', s', i', h, _⟩
    · refine ⟨st, ?_, FR.rf⟩
      rw [fX8_alone_b35, n_ixb (by omega), decide_eq_true hs, chk_t, n_toNat (by omega), h, if_pos rfl]
      unfold ansA
      by_cases c1 : i = -1
      · rw [if_pos c1, if_pos c1, hk]
      · obtain ⟨ii, hii, rfl⟩ := i32_m1 hi c1
        rw [if_neg c1, if_neg c1, if_neg (show ¬ nI ii < 0 by rw [n_neg hii]; exact id)]
        by_cases c2 : ii < Pt.length
        · rw [if_neg (by rw [n_le (by omega) hii]; omega), if_pos (by rw [n_lt hii (by omega)]; exact c2), n_one (by omega), n_sub (by omega), n_ixb (by omega), decide_eq_true (show k - 1 - ii < 384 by omega), chk_t, n_toNat (by omega), n_toNat hii, hc _ (by omega), hk]
        · rw [if_pos (by rw [n_le (by omega) hii]; omega), if_neg (by rw [n_lt hii (by omega)]; exact c2)]
    · cases h
  | cons r p ih =>
    intro m k j s st b hq hm hk hd hc
    obtain ⟨m, rfl⟩ : ∃ j, m = j + 1 := ⟨m - 1, by omega⟩
    have hs := hlt j s _ hq
    simp only [List.length_cons] at hm hk
    rcases (b.2.1 j s _ hq).2.2 with ⟨h, _⟩ | ⟨r', p', s', i', h, h1, h2, h3, h4, h5⟩
    · cases h
    · obtain ⟨e1, e2⟩ := List.cons.inj h
      subst e1 e2
      have hne : ¬ nI s' = (-1 : Int32) := fun e => by
        have : nI s' < 0 := by rw [e]; decide
        rw [n_neg (by omega)] at this; exact this
      have f1 : FR [(60, none)] st (pI st 60 k (nI r)) := FR.pI (by rfl) FR.rf
      have e57 : sI (pI st 60 k (nI r)) 57 s = nI s' := by rw [sI_pI, if_neg (by omega)]; exact h4
      rw [fX8_alone_b35, n_ixb (by omega), decide_eq_true hs, chk_t, n_toNat (by omega), h4, if_neg hne, chk_t, n_ixb (by omega), decide_eq_true (show k < 384 by omega), chk_t, chk_t, n_toNat (by omega), h5, e57, n_p1]
      have b1 : BM (pI st 60 k (nI r)) Q := by
        refine ⟨by rw [sI_pI, if_neg (by omega)]; exact b.1, fun i1 s1 p1 hq1 => ?_, fun s1 hs1 => by rw [sI_pI, if_neg (by omega)]; exact b.2.2 s1 hs1⟩
        obtain ⟨m1, m2, m3⟩ := b.2.1 i1 s1 p1 hq1
        refine ⟨by rw [sI_pI, if_neg (by omega)]; exact m1, m2, ?_⟩
        unfold LkM at m3 ⊢
        rw [sI_pI, if_neg (by omega), sI_pI, if_neg (by omega)]; exact m3
      have hrk : Pt.getD k 0 = r := by
        have h0 : Pt[k]? = (Pt.drop k)[0]? := by rw [List.getElem?_drop, Nat.add_zero]
        rw [hd] at h0
        rw [List.getD_eq_getElem?_getD, h0]; rfl
      obtain ⟨u, r1, r2⟩ := ih m (k + 1) i' s' (pI st 60 k (nI r)) b1 h2 (by omega) (by omega) (by rw [← List.drop_drop, hd]; rfl) (fun j' hj' => by
        rw [sI_pI]
        by_cases c : j' = k
        · rw [if_pos ⟨rfl, c⟩, c, hrk]
        · rw [if_neg (by omega)]; exact hc j' (by omega))
      exact ⟨u, r1, f1.trans r2⟩
theorem Cn_stX {x : Rg} (g : GdR x) : Cn x (stX x) := stX_ok g
abbrev S_al : List (Nat × Option Nat) := [(38, some 22), (38, some 23), (38, some 24), (38, some 25), (50, none), (51, none), (40, some 0), (40, some 1), (40, some 2), (43, none), (55, none), (38, some 40), (56, none), (57, none), (58, none), (59, none), (60, none)]
theorem st23 : Step23 Inv := by
  rintro a i st ⟨A, g, c, m⟩
  have h16 := g.1.1
  rcases n_in a (A.1.1 16) (by omega) with ⟨k, hk, rfl⟩ | h
  · have hn1 : 1 ≤ A.1.1 16 := by omega
    obtain ⟨u, e1, v1, c1, f1⟩ := tuned g c
    obtain ⟨u2, Q, R, ret, e2, v2, b2, q2, f2, hQ, hr⟩ := reach_ok (G := jshl 1 (nI k)) g.1 v1 (Cn_stX g.1)
    have c2 : CV u2 A := CV_v (S := S_bf) (by rfl) f2 c1 v2.1 v2.o
    have fS : FR S_vo st u2 := (FR.mono (by rfl) f1 : FR S_vo st u).trans (FR.mono (by rfl) f2)
    obtain ⟨y1, y2, y3, y4, y5⟩ := cn_stX g.1 hn1
    have hsd := (stX_d g.1).1
    have hbf := bf_start (G := jshl 1 (nI k)) (sM := tgX A.1) (sC := stX A.1) g.1 hn1 (by rw [y3, hsd]) (by rw [y3]; exact g.1.2.1) (Cn_stX g.1) y1 y4
    have hC : fX7_alone (nI k) i st = if ret = (-1 : Int32) then (some ((-1 : Int32), u2)) else ((fX1_sayingsTo u2 ret).bind (fun q9 => if i = (-1 : Int32) then (some (q9, u2)) else (if i < 0 then (some ((-1 : Int32), u2)) else (if i < q9 then ((fX1_rhymeAhead u2 ret ((q9 - (1 : Int32)) - i)).bind (fun q14 => some (q14, u2))) else (some ((-1 : Int32), u2)))))) := by
      unfold fX7_alone
      rw [cC_in g.1 c.2.1.1 hk, if_pos rfl, e1, Option.bind_some, state_ok g.1 c1.2.1.1, Option.bind_some, e2, Option.bind_some]
    have hlt : ∀ (i s : Nat) (p : List Nat), Q[i]? = some (s, p) → s < 384 := fun i s p h => (q2.in h).1.lt g.1
    -- the model
    have hM : ∀ s, MV s A → (-1 : Int32) ≤ i → ∃ v, MV v A ∧ FR S_al s v ∧ ((fX8_alone (nI k) i s = some (-1, v) ∧ bfP A.1 (jshl 1 (nI k)) 385 [stX A.1] [(stX A.1, [])] = none) ∨ ∃ q : List Nat, fX8_alone (nI k) i s = some (ansA i q, v) ∧ bfP A.1 (jshl 1 (nI k)) 385 [stX A.1] [(stX A.1, [])] = some q) := by
      intro s ms hi
      obtain ⟨w, w1, w2, w3, w4⟩ := leads8 g.1 c.low ms.2.1
      obtain ⟨w5, Q5, k1, k2, k3, k4⟩ := ralone8 (c := k) g.1 (by omega) w2 w4
      have fA : FR S_al s w5 := (FR.mono (by rfl) w3 : FR S_al s w).trans (FR.mono (by rfl) k1)
      have hal : fX8_alone (nI k) i s = ((fX8_reachesAlone (nI k) w).bind (fun q5 => if q5.1 = (-1 : Int32) then (some ((-1 : Int32), q5.2)) else (fX8_alone_b35 FU i q5.1 (0 : Int32) q5.2))) := by
        unfold fX8_alone
        rw [mC_in g.1 ms.2.1 hk, if_neg (by decide), if_pos hi, w1, Option.bind_some]
      rw [hbf] at k4
      rcases k4 with ⟨p1, p2⟩ | ⟨t, q, j, p1, p2, p3⟩
      · refine ⟨w5, MV_xr (by rfl) fA ms (MRg.fr (by rfl) k1 w2), fA, Or.inl ⟨?_, p2⟩⟩
        rw [hal, p1, Option.bind_some, if_pos rfl]
      · have hjl : j < Q5.length := (List.getElem?_eq_some_iff.mp p2).1
        have hql := k2.p p2
        have hle := k3.le
        have ht := (k3.in p2).1
        obtain ⟨z, z1, z2⟩ := path8 (i := i) (Pt := q) (fun i s p h => (k3.in h).1) hi (by omega) q FU 0 j t w5 k2 p2 (by unfold FU; omega) (by omega) rfl (fun j' hj' => by omega)
        have fB : FR S_al s z := fA.trans (FR.mono (by rfl) z2)
        refine ⟨z, MV_xr (by rfl) fB ms (MRg.fr (by rfl) z2 (MRg.fr (by rfl) k1 w2)), fB, Or.inr ⟨q, ?_, p3⟩⟩
        rw [hal, p1, Option.bind_some, if_neg (show ¬ nI t = -1 from fun e => by
          have : nI t < 0 := by rw [e]; decide
          rw [n_neg (by omega)] at this; exact this)]
        exact z1
    have hMn : ∀ s, MV s A → ¬ (-1 : Int32) ≤ i → fX8_alone (nI k) i s = some (-1, s) := by
      intro s ms hi
      unfold fX8_alone
      rw [mC_in g.1 ms.2.1 hk, if_neg (by decide), if_neg hi]
    rcases hr with ⟨r1, r2, _⟩ | ⟨t, q, j, r1, r2, r3⟩
    · rw [if_pos r1] at hC
      refine both_q (S := S_vo) (S' := S_al) (r := (-1 : Int32)) (fc := fun s => fX7_alone (nI k) i s) (fm := fun s => fX8_alone (nI k) i s) (by rfl) (by rfl) g m ⟨u2, hC, c2, fS⟩ (fun s ms => ?_)
      by_cases hi : (-1 : Int32) ≤ i
      · obtain ⟨v, p1, p2, p3⟩ := hM s ms hi
        rcases p3 with ⟨p3, _⟩ | ⟨q, _, p4⟩
        · exact ⟨v, p3, p1, p2⟩
        · rw [r2] at p4; cases p4
      · exact ⟨s, hMn s ms hi, ms, FR.rf⟩
    · have ht := hlt j t q r2
      have hjl : j < Q.length := (List.getElem?_eq_some_iff.mp r2).1
      have hql := (b2.2.1 j t q r2).2.1
      have hle := q2.le g.1
      have hsay : fX1_sayingsTo u2 (nI t) = some (nI q.length) := by
        have := says_to b2 hlt q FU 0 j t r2 (by unfold FU; omega) (by omega)
        rw [Nat.zero_add] at this
        exact this
      rw [r1, if_neg (fun e => by
        have : nI t < 0 := by rw [e]; decide
        rw [n_neg (by omega)] at this; exact this), hsay, Option.bind_some] at hC
      have hCa : fX7_alone (nI k) i st = some (ansA i q, u2) := by
        rw [hC]
        unfold ansA
        by_cases c1 : i = -1
        · rw [if_pos c1, if_pos c1]
        · rw [if_neg c1, if_neg c1]
          by_cases c2 : i < 0
          · rw [if_pos c2, if_pos c2]
          · rw [if_neg c2, if_neg c2]
            rcases n_cases i with hneg | ⟨ii, hii, rfl⟩
            · exact absurd hneg c2
            · by_cases c3 : ii < q.length
              · rw [if_pos (by rw [n_lt hii (by omega)]; exact c3), if_pos (by rw [n_lt hii (by omega)]; exact c3), n_one (by omega), n_sub (by omega), n_toNat hii]
                have hw : q[q.length - 1 - ii]? = some (q.getD (q.length - 1 - ii) 0) := by
                  rw [List.getD_eq_getElem?_getD, List.getElem?_eq_getElem (show q.length - 1 - ii < q.length by omega)]; rfl
                have := ahead7 b2 hlt (ah := q.length - 1 - ii) (by omega) (q.length - 1 - ii) FU 0 j t _ q r2 (by omega) (by unfold FU; omega) hw
                rw [show fX1_rhymeAhead u2 (nI t) (nI (q.length - 1 - ii)) = _ from this, Option.bind_some]
              · rw [if_neg (by rw [n_lt hii (by omega)]; exact c3), if_neg (by rw [n_lt hii (by omega)]; exact c3)]
      refine both_q (S := S_vo) (S' := S_al) (r := ansA i q) (fc := fun s => fX7_alone (nI k) i s) (fm := fun s => fX8_alone (nI k) i s) (by rfl) (by rfl) g m ⟨u2, hCa, c2, fS⟩ (fun s ms => ?_)
      by_cases hi : (-1 : Int32) ≤ i
      · obtain ⟨v, p1, p2, p3⟩ := hM s ms hi
        rcases p3 with ⟨_, p4⟩ | ⟨q', p3, p4⟩
        · rw [r3] at p4; cases p4
        · rw [r3] at p4
          rw [← Option.some.inj p4] at p3
          exact ⟨v, p3, p1, p2⟩
      · refine ⟨s, ?_, ms, FR.rf⟩
        rw [hMn s ms hi]
        unfold ansA
        rw [if_neg (fun e => hi (by rw [e]; decide)), if_pos (by
          rw [Int32.le_iff_toInt_le] at hi
          rw [Int32.lt_iff_toInt_lt]
          have e0 : (0 : Int32).toInt = 0 := by decide
          have e1 : (-1 : Int32).toInt = -1 := by decide
          omega)]
  · refine both_n (r := (-1 : Int32)) (fc := fun s => fX7_alone a i s) (fm := fun s => fX8_alone a i s) g c m ?_ (fun s ms => ?_)
    · show fX7_alone a i st = _
      unfold fX7_alone
      rw [cC_out g.1 c.2.1.1 h, if_neg (by decide)]
    · show fX8_alone a i s = _
      unfold fX8_alone
      rw [mC_out g.1 ms.2.1 h, if_pos rfl]
