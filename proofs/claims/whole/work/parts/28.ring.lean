/-! a ring is changed at a place -/
theorem CRg_16 {st : St} {x : Rg} {v : Nat} (m : CRg st 1 x) : CRg (pI st 1 4 (nI v)) 1 (upR x 16 v) := by
  obtain ⟨⟨a1, a2, a3, a4, a5⟩, ⟨b1, b2, b3, b4⟩, c1, c2⟩ := m
  refine ⟨⟨?_, ?_, ?_, ?_, ?_⟩, ⟨?_, ?_, ?_, ?_⟩, fun j hj => ?_, fun j hj => ?_⟩
  · simp [sI_pI, upR_1, a1]
  · simp [sI_pI, upR_1, a2]
  · simp [sI_pI, upR_1, a3]
  · simp [sI_pI, upR_1, a4]
  · simp [sI_pI, upR_1, a5]
  · simp only [Nat.reduceAdd] at b1; simp [sI_pI, upR_1, b1]
  · simp only [Nat.reduceAdd] at b2; simp [sI_pI, upR_1, b2]
  · simp only [Nat.reduceAdd] at b3; simp [sI_pI, upR_1, b3]
  · simp only [Nat.reduceAdd] at b4; simp [sI_pI, upR_1, b4]
  · rw [sI_pI, if_neg (by omega), upR_1, if_neg (by omega)]; exact c1 j hj
  · rw [sI_pI, if_neg (by omega), upR_1, if_neg (by omega)]; exact c2 j hj
theorem CRg_0 {st : St} {x : Rg} {v : Nat} (m : CRg st 1 x) : CRg (pI st 1 5 (nI v)) 1 (upR x 0 v) := by
  obtain ⟨⟨a1, a2, a3, a4, a5⟩, ⟨b1, b2, b3, b4⟩, c1, c2⟩ := m
  refine ⟨⟨?_, ?_, ?_, ?_, ?_⟩, ⟨?_, ?_, ?_, ?_⟩, fun j hj => ?_, fun j hj => ?_⟩
  · simp [sI_pI, upR_1, a1]
  · simp [sI_pI, upR_1, a2]
  · simp [sI_pI, upR_1, a3]
  · simp [sI_pI, upR_1, a4]
  · simp [sI_pI, upR_1, a5]
  · simp only [Nat.reduceAdd] at b1; simp [sI_pI, upR_1, b1]
  · simp only [Nat.reduceAdd] at b2; simp [sI_pI, upR_1, b2]
  · simp only [Nat.reduceAdd] at b3; simp [sI_pI, upR_1, b3]
  · simp only [Nat.reduceAdd] at b4; simp [sI_pI, upR_1, b4]
  · rw [sI_pI, if_neg (by omega), upR_1, if_neg (by omega)]; exact c1 j hj
  · rw [sI_pI, if_neg (by omega), upR_1, if_neg (by omega)]; exact c2 j hj
theorem CRg_17 {st : St} {x : Rg} {v : Nat} (m : CRg st 1 x) : CRg (pI st 1 6 (nI v)) 1 (upR x 17 v) := by
  obtain ⟨⟨a1, a2, a3, a4, a5⟩, ⟨b1, b2, b3, b4⟩, c1, c2⟩ := m
  refine ⟨⟨?_, ?_, ?_, ?_, ?_⟩, ⟨?_, ?_, ?_, ?_⟩, fun j hj => ?_, fun j hj => ?_⟩
  · simp [sI_pI, upR_1, a1]
  · simp [sI_pI, upR_1, a2]
  · simp [sI_pI, upR_1, a3]
  · simp [sI_pI, upR_1, a4]
  · simp [sI_pI, upR_1, a5]
  · simp only [Nat.reduceAdd] at b1; simp [sI_pI, upR_1, b1]
  · simp only [Nat.reduceAdd] at b2; simp [sI_pI, upR_1, b2]
  · simp only [Nat.reduceAdd] at b3; simp [sI_pI, upR_1, b3]
  · simp only [Nat.reduceAdd] at b4; simp [sI_pI, upR_1, b4]
  · rw [sI_pI, if_neg (by omega), upR_1, if_neg (by omega)]; exact c1 j hj
  · rw [sI_pI, if_neg (by omega), upR_1, if_neg (by omega)]; exact c2 j hj
theorem CRg_18 {st : St} {x : Rg} {v : Nat} (m : CRg st 1 x) : CRg (pI st 1 7 (nI v)) 1 (upR x 18 v) := by
  obtain ⟨⟨a1, a2, a3, a4, a5⟩, ⟨b1, b2, b3, b4⟩, c1, c2⟩ := m
  refine ⟨⟨?_, ?_, ?_, ?_, ?_⟩, ⟨?_, ?_, ?_, ?_⟩, fun j hj => ?_, fun j hj => ?_⟩
  · simp [sI_pI, upR_1, a1]
  · simp [sI_pI, upR_1, a2]
  · simp [sI_pI, upR_1, a3]
  · simp [sI_pI, upR_1, a4]
  · simp [sI_pI, upR_1, a5]
  · simp only [Nat.reduceAdd] at b1; simp [sI_pI, upR_1, b1]
  · simp only [Nat.reduceAdd] at b2; simp [sI_pI, upR_1, b2]
  · simp only [Nat.reduceAdd] at b3; simp [sI_pI, upR_1, b3]
  · simp only [Nat.reduceAdd] at b4; simp [sI_pI, upR_1, b4]
  · rw [sI_pI, if_neg (by omega), upR_1, if_neg (by omega)]; exact c1 j hj
  · rw [sI_pI, if_neg (by omega), upR_1, if_neg (by omega)]; exact c2 j hj
theorem CRg_2 {st : St} {x : Rg} {v : Nat} (m : CRg st 1 x) : CRg (pI st 5 0 (nI v)) 1 (upR x 2 v) := by
  obtain ⟨⟨a1, a2, a3, a4, a5⟩, ⟨b1, b2, b3, b4⟩, c1, c2⟩ := m
  refine ⟨⟨?_, ?_, ?_, ?_, ?_⟩, ⟨?_, ?_, ?_, ?_⟩, fun j hj => ?_, fun j hj => ?_⟩
  · simp [sI_pI, upR_1, a1]
  · simp [sI_pI, upR_1, a2]
  · simp [sI_pI, upR_1, a3]
  · simp [sI_pI, upR_1, a4]
  · simp [sI_pI, upR_1, a5]
  · simp only [Nat.reduceAdd] at b1; simp [sI_pI, upR_1, b1]
  · simp only [Nat.reduceAdd] at b2; simp [sI_pI, upR_1, b2]
  · simp only [Nat.reduceAdd] at b3; simp [sI_pI, upR_1, b3]
  · simp only [Nat.reduceAdd] at b4; simp [sI_pI, upR_1, b4]
  · rw [sI_pI, if_neg (by omega), upR_1, if_neg (by omega)]; exact c1 j hj
  · rw [sI_pI, if_neg (by omega), upR_1, if_neg (by omega)]; exact c2 j hj
theorem CRg_1 {st : St} {x : Rg} {v : Nat} (m : CRg st 1 x) : CRg (pI st 5 1 (nI v)) 1 (upR x 1 v) := by
  obtain ⟨⟨a1, a2, a3, a4, a5⟩, ⟨b1, b2, b3, b4⟩, c1, c2⟩ := m
  refine ⟨⟨?_, ?_, ?_, ?_, ?_⟩, ⟨?_, ?_, ?_, ?_⟩, fun j hj => ?_, fun j hj => ?_⟩
  · simp [sI_pI, upR_1, a1]
  · simp [sI_pI, upR_1, a2]
  · simp [sI_pI, upR_1, a3]
  · simp [sI_pI, upR_1, a4]
  · simp [sI_pI, upR_1, a5]
  · simp only [Nat.reduceAdd] at b1; simp [sI_pI, upR_1, b1]
  · simp only [Nat.reduceAdd] at b2; simp [sI_pI, upR_1, b2]
  · simp only [Nat.reduceAdd] at b3; simp [sI_pI, upR_1, b3]
  · simp only [Nat.reduceAdd] at b4; simp [sI_pI, upR_1, b4]
  · rw [sI_pI, if_neg (by omega), upR_1, if_neg (by omega)]; exact c1 j hj
  · rw [sI_pI, if_neg (by omega), upR_1, if_neg (by omega)]; exact c2 j hj
theorem CRg_14 {st : St} {x : Rg} {v : Nat} (m : CRg st 1 x) : CRg (pI st 5 2 (nI v)) 1 (upR x 14 v) := by
  obtain ⟨⟨a1, a2, a3, a4, a5⟩, ⟨b1, b2, b3, b4⟩, c1, c2⟩ := m
  refine ⟨⟨?_, ?_, ?_, ?_, ?_⟩, ⟨?_, ?_, ?_, ?_⟩, fun j hj => ?_, fun j hj => ?_⟩
  · simp [sI_pI, upR_1, a1]
  · simp [sI_pI, upR_1, a2]
  · simp [sI_pI, upR_1, a3]
  · simp [sI_pI, upR_1, a4]
  · simp [sI_pI, upR_1, a5]
  · simp only [Nat.reduceAdd] at b1; simp [sI_pI, upR_1, b1]
  · simp only [Nat.reduceAdd] at b2; simp [sI_pI, upR_1, b2]
  · simp only [Nat.reduceAdd] at b3; simp [sI_pI, upR_1, b3]
  · simp only [Nat.reduceAdd] at b4; simp [sI_pI, upR_1, b4]
  · rw [sI_pI, if_neg (by omega), upR_1, if_neg (by omega)]; exact c1 j hj
  · rw [sI_pI, if_neg (by omega), upR_1, if_neg (by omega)]; exact c2 j hj
theorem CRg_15 {st : St} {x : Rg} {v : Nat} (m : CRg st 1 x) : CRg (pI st 5 3 (nI v)) 1 (upR x 15 v) := by
  obtain ⟨⟨a1, a2, a3, a4, a5⟩, ⟨b1, b2, b3, b4⟩, c1, c2⟩ := m
  refine ⟨⟨?_, ?_, ?_, ?_, ?_⟩, ⟨?_, ?_, ?_, ?_⟩, fun j hj => ?_, fun j hj => ?_⟩
  · simp [sI_pI, upR_1, a1]
  · simp [sI_pI, upR_1, a2]
  · simp [sI_pI, upR_1, a3]
  · simp [sI_pI, upR_1, a4]
  · simp [sI_pI, upR_1, a5]
  · simp only [Nat.reduceAdd] at b1; simp [sI_pI, upR_1, b1]
  · simp only [Nat.reduceAdd] at b2; simp [sI_pI, upR_1, b2]
  · simp only [Nat.reduceAdd] at b3; simp [sI_pI, upR_1, b3]
  · simp only [Nat.reduceAdd] at b4; simp [sI_pI, upR_1, b4]
  · rw [sI_pI, if_neg (by omega), upR_1, if_neg (by omega)]; exact c1 j hj
  · rw [sI_pI, if_neg (by omega), upR_1, if_neg (by omega)]; exact c2 j hj
theorem CRg_q {st : St} {x : Rg} {i v : Nat} (hi : i < 6) (m : CRg st 1 x) : CRg (pI st 2 i (nI v)) 1 (upR x (3 + i) v) := by
  obtain ⟨⟨a1, a2, a3, a4, a5⟩, ⟨b1, b2, b3, b4⟩, c1, c2⟩ := m
  refine ⟨⟨?_, ?_, ?_, ?_, ?_⟩, ⟨?_, ?_, ?_, ?_⟩, fun j hj => ?_, fun j hj => ?_⟩
  · rw [sI_pI, if_neg (by omega), upR_1, if_neg (by omega)]; exact a1
  · rw [sI_pI, if_neg (by omega), upR_1, if_neg (by omega)]; exact a2
  · rw [sI_pI, if_neg (by omega), upR_1, if_neg (by omega)]; exact a3
  · rw [sI_pI, if_neg (by omega), upR_1, if_neg (by omega)]; exact a4
  · rw [sI_pI, if_neg (by omega), upR_1, if_neg (by omega)]; exact a5
  · rw [sI_pI, if_neg (by omega), upR_1, if_neg (by omega)]; exact b1
  · rw [sI_pI, if_neg (by omega), upR_1, if_neg (by omega)]; exact b2
  · rw [sI_pI, if_neg (by omega), upR_1, if_neg (by omega)]; exact b3
  · rw [sI_pI, if_neg (by omega), upR_1, if_neg (by omega)]; exact b4
  · by_cases c : j = i
    · subst c; rw [sI_pI, if_pos ⟨rfl, rfl⟩, upR_1, if_pos rfl]
    · rw [sI_pI, if_neg (by omega), upR_1, if_neg (by omega)]; exact c1 j hj
  · rw [sI_pI, if_neg (by omega), upR_1, if_neg (by omega)]; exact c2 j hj
theorem CRg_b {st : St} {x : Rg} {i v : Nat} (hi : i < 5) (m : CRg st 1 x) : CRg (pI st 3 i (nI v)) 1 (upR x (9 + i) v) := by
  obtain ⟨⟨a1, a2, a3, a4, a5⟩, ⟨b1, b2, b3, b4⟩, c1, c2⟩ := m
  refine ⟨⟨?_, ?_, ?_, ?_, ?_⟩, ⟨?_, ?_, ?_, ?_⟩, fun j hj => ?_, fun j hj => ?_⟩
  · rw [sI_pI, if_neg (by omega), upR_1, if_neg (by omega)]; exact a1
  · rw [sI_pI, if_neg (by omega), upR_1, if_neg (by omega)]; exact a2
  · rw [sI_pI, if_neg (by omega), upR_1, if_neg (by omega)]; exact a3
  · rw [sI_pI, if_neg (by omega), upR_1, if_neg (by omega)]; exact a4
  · rw [sI_pI, if_neg (by omega), upR_1, if_neg (by omega)]; exact a5
  · rw [sI_pI, if_neg (by omega), upR_1, if_neg (by omega)]; exact b1
  · rw [sI_pI, if_neg (by omega), upR_1, if_neg (by omega)]; exact b2
  · rw [sI_pI, if_neg (by omega), upR_1, if_neg (by omega)]; exact b3
  · rw [sI_pI, if_neg (by omega), upR_1, if_neg (by omega)]; exact b4
  · rw [sI_pI, if_neg (by omega), upR_1, if_neg (by omega)]; exact c1 j hj
  · by_cases c : j = i
    · subst c; rw [sI_pI, if_pos ⟨rfl, rfl⟩, upR_1, if_pos rfl]
    · rw [sI_pI, if_neg (by omega), upR_1, if_neg (by omega)]; exact c2 j hj
theorem CRg_f {st : St} {x : Rg} {v : Nat} {w : Int32} (hw : w = nI v - 1) (m : CRg st 1 x) : CRg (pI st 1 8 w) 1 (upR x 19 v) := by
  obtain ⟨⟨a1, a2, a3, a4, a5⟩, ⟨b1, b2, b3, b4⟩, c1, c2⟩ := m
  refine ⟨⟨?_, ?_, ?_, ?_, ?_⟩, ⟨?_, ?_, ?_, ?_⟩, fun j hj => ?_, fun j hj => ?_⟩
  · rw [sI_pI, if_neg (by omega), upR_1, if_neg (by omega)]; exact a1
  · rw [sI_pI, if_neg (by omega), upR_1, if_neg (by omega)]; exact a2
  · rw [sI_pI, if_neg (by omega), upR_1, if_neg (by omega)]; exact a3
  · rw [sI_pI, if_neg (by omega), upR_1, if_neg (by omega)]; exact a4
  · rw [sI_pI, if_pos ⟨rfl, rfl⟩, upR_1, if_pos rfl]; exact hw
  · rw [sI_pI, if_neg (by omega), upR_1, if_neg (by omega)]; exact b1
  · rw [sI_pI, if_neg (by omega), upR_1, if_neg (by omega)]; exact b2
  · rw [sI_pI, if_neg (by omega), upR_1, if_neg (by omega)]; exact b3
  · rw [sI_pI, if_neg (by omega), upR_1, if_neg (by omega)]; exact b4
  · rw [sI_pI, if_neg (by omega), upR_1, if_neg (by omega)]; exact c1 j hj
  · rw [sI_pI, if_neg (by omega), upR_1, if_neg (by omega)]; exact c2 j hj
theorem MRg_up {st : St} {x : Rg} {k v : Nat} (hk : k < 18) (m : MRg st 40 0 x) : MRg (pI st 40 k (nI v)) 40 0 (upR x k v) := by
  refine ⟨fun i hi => ?_, ?_, fun i hi => ?_⟩
  · by_cases c : i = k
    · subst c; rw [sI_pI, if_pos ⟨rfl, by omega⟩, upR_1, if_pos rfl]
    · rw [sI_pI, if_neg (by omega), upR_1, if_neg c]; exact m.1 i hi
  · rw [sI_pI, if_neg (by omega), upR_1, if_neg (by omega)]; exact m.2.1
  · rw [upR_1, if_neg (by omega)] at hi
    obtain ⟨h1, h2, h3⟩ := m.2.2 i hi
    refine ⟨h1, by rw [sI_pI, if_neg (by omega)]; exact h2, fun j hj => ?_⟩
    rw [sI_pI, if_neg (by omega), sI_pI, if_neg (by omega)]; exact h3 j hj
theorem MRg_f {st : St} {x : Rg} {v : Nat} {w : Int32} (hw : w = nI v - 1) (m : MRg st 40 0 x) : MRg (pI st 40 19 w) 40 0 (upR x 19 v) := by
  refine ⟨fun i hi => ?_, ?_, fun i hi => ?_⟩
  · rw [sI_pI, if_neg (by omega), upR_1, if_neg (by omega)]; exact m.1 i hi
  · rw [sI_pI, if_pos ⟨rfl, by omega⟩, upR_1, if_pos rfl]; exact hw
  · rw [upR_1, if_neg (by omega)] at hi
    obtain ⟨h1, h2, h3⟩ := m.2.2 i hi
    refine ⟨h1, by rw [sI_pI, if_neg (by omega)]; exact h2, fun j hj => ?_⟩
    rw [sI_pI, if_neg (by omega), sI_pI, if_neg (by omega)]; exact h3 j hj
abbrev psE : Ps := (0, fun _ => (0, 0, 0, 0))
abbrev S_ring : List (Nat × Option Nat) := [(1, none), (2, none), (3, none), (5, none)]
theorem Lws_x {st : St} {x y : Rg} (h1 : y.1 18 = x.1 18) (h2 : y.2 = x.2) (m : Lws st 1 x) : Lws st 1 y := by
  intro i hi
  rw [h1] at hi
  rw [h2]
  exact m i hi
/-- the ring of the class is changed, nothing else -/
theorem CV_ring {S : List (Nat × Option Nat)} {st u : St} {A : All} {x : Rg} (hS : subS S S_ring = true) (h0 : FR S st u) (m : CV st A) (c : CRg u 1 x) (h1 : x.1 18 = A.1.1 18) (h2 : x.2 = A.1.2) : ∃ u2, fX7_ringChanged u = some u2 ∧ CV u2 (x, A.2.1, A.2.2.1, A.2.2.2.1, psE, A.2.2.2.2.2) ∧ FR S_rc u u2 := by
  have h : FR S_ring st u := FR.mono hS h0
  have w := WT_low (by rfl) h m.1
  have hv := CVo_fr (by rfl) (by rfl) h m.2.2.2.2.2.2.2
  obtain ⟨u2, e1, f1, v1, p1⟩ := ring_changed (A := A) w hv
  refine ⟨u2, e1, ⟨WT_low (by rfl) f1 w, ⟨CRg_fr (by rfl) f1 c, Lws_fr (by rfl) f1 (Lws_x h1 h2 (Lws_fr (by rfl) h m.2.1.2))⟩, CI_fr (by rfl) f1 (CI_fr (by rfl) h m.2.2.1), CS_fr (by rfl) f1 (CS_fr (by rfl) h m.2.2.2.1), CT_fr (by rfl) f1 (CT_fr (by rfl) h m.2.2.2.2.1), p1, CD_fr (by rfl) f1 (CD_fr (by rfl) h m.2.2.2.2.2.2.1), v1 _⟩, f1⟩
theorem MV_ring {S : List (Nat × Option Nat)} {st v : St} {A : All} {x : Rg} (hS : subS S [(40, none)] = true) (h0 : FR S st v) (m : MV st A) (c : MRg v 40 0 x) : MV v (x, A.2) := by
  have h : FR [(40, none)] st v := FR.mono hS h0
  obtain ⟨m0, m1, m2, m3, m4, m5, m6⟩ := m
  have h41 := fun j => h.i (a := 41) (j := j) (hasA_in (by rfl))
  have h42 := fun j => h.i (a := 42) (j := j) (hasA_in (by rfl))
  have h38 := fun j => h.i (a := 38) (j := j) (hasA_in (by rfl))
  have h39 := fun j => h.i (a := 39) (j := j) (hasA_in (by rfl))
  have h45 := fun j => h.i (a := 45) (j := j) (hasA_in (by rfl))
  have h52 := fun j => h.i (a := 52) (j := j) (hasA_in (by rfl))
  have h64 := fun j => h.i (a := 64) (j := j) (hasA_in (by rfl))
  refine ⟨fun j => (h.i (hasA_in (by rfl))).trans (m0 j), c, fun k hk => ?_, ?_, ?_, ?_, ?_⟩
  · rcases m2 k hk with ⟨e1, e2⟩ | ⟨y, e1, e2, e3⟩
    · exact Or.inl ⟨e1, (h42 k).trans e2⟩
    · exact Or.inr ⟨y, e1, (h42 k).trans e2, MRg_eq h41 e3⟩
  · unfold MS at m3 ⊢; simp only [h38, h39]; exact m3
  · unfold MT at m4 ⊢; simp only [h38, h45]; exact m4
  · unfold MP at m5 ⊢; simp only [h38, h52]; exact m5
  · unfold MD at m6 ⊢; simp only [h38, h64]; exact m6
theorem m_settled {st : St} {A : All} {r : Int32} (m : MV st A) : ∃ u, fX8_settled r st = some (r, u) ∧ MV u (A.1, A.2.1, va_up A.2.2.1 0 0, A.2.2.2.1, psE, A.2.2.2.2.2) ∧ FR [(38, none)] st u := by
  have h : FR [(38, none)] st (pI (pI st 38 32 0) 38 0 0) := FR.pI (by rfl) (FR.pI (by rfl) FR.rf)
  refine ⟨_, rfl, ?_, h⟩
  obtain ⟨m0, m1, m2, m3, m4, m5, m6⟩ := m
  refine ⟨fun j => (h.i (hasA_in (by rfl))).trans (m0 j), MRg_eq (fun j => h.i (hasA_in (by rfl))) m1, fun k hk => ?_, ?_, ?_, ?_, ?_⟩
  · rcases m2 k hk with ⟨e1, e2⟩ | ⟨y, e1, e2, e3⟩
    · exact Or.inl ⟨e1, (h.i (hasA_in (by rfl))).trans e2⟩
    · exact Or.inr ⟨y, e1, (h.i (hasA_in (by rfl))).trans e2, MRg_eq (fun j => h.i (hasA_in (by rfl))) e3⟩
  · unfold MS at m3 ⊢; simp only [sI_pI, va_up]; simpa using m3.2
  · unfold MT at m4 ⊢; simp only [sI_pI]; simpa using m4
  · exact ⟨by simp only [sI_pI]; rfl, fun j hj => absurd hj (Nat.not_lt_zero j)⟩
  · unfold MD at m6 ⊢; simp only [sI_pI]; simpa using m6
theorem GdP_E {x : Rg} : GdP x psE := ⟨by decide, fun j hj => absurd hj (Nat.not_lt_zero j)⟩
/-- the class has changed its ring and settles, the model too -/
theorem both_settle {S : List (Nat × Option Nat)} {st u : St} {A : All} {x : Rg} {r : Int32} {fm : St → Option (Int32 × St)} (g : Gd A) (hx : GdR x) (hS : subS S S_ring = true) (hu : FR S st u) (c : CV st A) (m : MV st A) (cx : CRg u 1 x) (h1 : x.1 18 = A.1.1 18) (h2 : x.2 = A.1.2) (fc : St → Int32) (hr : ∀ u2, CRg u2 1 x → fc u2 = r)
    (hm : ∀ s, MV s A → ∃ v, fm s = fX8_settled r v ∧ FR [(40, none)] s v ∧ MRg v 40 0 x) : ∃ r st1 st2, ((fX7_ringChanged u).bind (fun q => fX7_settled (fc q) q)) = some (r, st1) ∧ fm st1 = some (r, st2) ∧ Inv st2 := by
  obtain ⟨u2, e1, c2, f2⟩ := CV_ring hS hu c cx h1 h2
  obtain ⟨u3, e3, c3, f3⟩ := c_settled (r := r) c2
  have m3 : MV u3 A := MV_c (S := [(0, none), (35, none)]) (by rfl) f3 (MV_c (S := S_rc) (by rfl) f2 (MV_c (S := S_ring) (by rfl) (FR.mono hS hu) m))
  obtain ⟨v, e4, f4, m4⟩ := hm u3 m3
  obtain ⟨v2, e5, m5, f5⟩ := m_settled (r := r) (MV_ring (S := [(40, none)]) (by rfl) f4 m3 m4)
  refine ⟨r, u3, v2, ?_, e4.trans e5, _, ?_, CV_m (S := [(38, none)]) (by rfl) f5 (CV_m (S := [(40, none)]) (by rfl) f4 c3), m5⟩
  · rw [e1, Option.bind_some, hr u2 c2.2.1.1]; exact e3
  · exact ⟨hx, g.2.1, g.2.2.1, GdP_E, g.2.2.2.2⟩
/-- a child comes -/
def wel (x : Rg) (q : Nat) : Rg := upR (upR (upR x (3 + x.1 16) q) 0 (x.1 0 + 2 ^ x.1 16)) 16 (x.1 16 + 1)
theorem wel_1 {x : Rg} {q i : Nat} : (wel x q).1 i = if i = 16 then x.1 16 + 1 else if i = 0 then x.1 0 + 2 ^ x.1 16 else if i = 3 + x.1 16 then q else x.1 i := rfl
theorem Gd_wel {x : Rg} {q : Nat} (g : GdR x) (h : x.1 16 < 6) (hq : q ≤ 9) : GdR (wel x q) := by
  obtain ⟨g1, g2, g3, g4, g5, g6, g7, g8, g9, g10, g11, g12⟩ := g
  have hp : 2 ^ (x.1 16 + 1) = 2 ^ x.1 16 + 2 ^ x.1 16 := by rw [Nat.pow_succ]; omega
  refine ⟨?_, ?_, ?_, ?_, ?_, ?_, ?_, ?_, ?_, fun j hj => ?_, fun j hj => ?_, fun j hj => ?_⟩
  · rw [wel_1, if_pos rfl]; omega
  · rw [wel_1, wel_1, if_neg (by omega), if_pos rfl, if_pos rfl, hp]; omega
  · rw [wel_1, if_neg (by omega), if_neg (by omega), if_neg (by omega)]; exact g3
  · rw [wel_1, if_neg (by omega), if_neg (by omega), if_neg (by omega)]; exact g4
  · rw [wel_1, if_neg (by omega), if_neg (by omega), if_neg (by omega)]; exact g5
  · rw [wel_1, if_neg (by omega), if_neg (by omega), if_neg (by omega)]; exact g6
  · rw [wel_1, if_neg (by omega), if_neg (by omega), if_neg (by omega)]; exact g7
  · rw [wel_1, if_neg (by omega), if_neg (by omega), if_neg (by omega)]; exact g8
  · rw [wel_1, wel_1, if_neg (by omega), if_neg (by omega), if_neg (by omega), if_neg (by omega), if_neg (by omega), if_neg (by omega)]; exact g9
  · rw [wel_1, if_neg (by omega), if_neg (by omega)]
    split
    · exact hq
    · exact g10 j hj
  · rw [wel_1, if_neg (by omega), if_neg (by omega), if_neg (by omega)]; exact g11 j hj
  · rw [wel_1, if_neg (by omega), if_neg (by omega), if_neg (by omega)] at hj
    rw [wel_1, if_neg (by omega), if_neg (by omega), if_neg (by omega)]; exact g12 j hj
theorem c_welcome {st : St} {x : Rg} {q : Nat} (g : GdR x) (h : x.1 16 < 6) (c : CRg st 1 x) : ∃ u, fX4_welcome (nI q) st = some u ∧ CRg u 1 (wel x q) ∧ FR [(1, none), (2, none)] st u := by
  have hb := b_lt64 g
  have h0 := bit_top (x.1 16) (by omega) (x.1 0) g.2.1 (x.1 16) h (by omega)
  refine ⟨pI (pI (pI st 2 (x.1 16) (nI q)) 1 5 (nI (x.1 0 + 2 ^ x.1 16))) 1 4 (nI (x.1 16 + 1)), ?_, ?_, FR.pI (by rfl) (FR.pI (by rfl) (FR.pI (by rfl) FR.rf))⟩
  · unfold fX4_welcome
    simp only [sI_pI, c.1.1, c.1.2.1, n_toNat (show x.1 16 < 2147483648 by omega), show ¬ ((1 : Nat) = 2) by omega, false_and, if_false, show ¬ ((4 : Nat) = 5) by omega, and_false, n_ixb (show x.1 16 < 2147483648 by omega), h, decide_true, chk_t, or64 _ hb _ h h0, n_p1]
    rw [if_neg (by rw [show (6 : Int32) = nI 6 from rfl, n_le (by omega) (by omega)]; omega)]
  · exact CRg_16 (CRg_0 (CRg_q h c))
theorem m_adds {st : St} {x : Rg} {q : Nat} (g : GdR x) (h : x.1 16 < 6) (m : MRg st 40 0 x) : ∃ u, fX8_addsChild (nI q) st = some u ∧ MRg u 40 0 (wel x q) ∧ FR [(40, none)] st u := by
  have hb := b_lt64 g
  have h0 := bit_top (x.1 16) (by omega) (x.1 0) g.2.1 (x.1 16) h (by omega)
  refine ⟨pI (pI (pI st 40 (3 + x.1 16) (nI q)) 40 0 (nI (x.1 0 + 2 ^ x.1 16))) 40 16 (nI (x.1 16 + 1)), ?_, ?_, FR.pI (by rfl) (FR.pI (by rfl) (FR.pI (by rfl) FR.rf))⟩
  · unfold fX8_addsChild
    have e3 : (3 : Int32) + nI (x.1 16) = nI (3 + x.1 16) := n_add 3 _
    simp only [sI_pI, m.k (show 16 < 19 by omega), m.k (show 0 < 19 by omega), e3, n_toNat (show 3 + x.1 16 < 2147483648 by omega), n_ixb (show 3 + x.1 16 < 2147483648 by omega), show 3 + x.1 16 < 5627 by omega, decide_true, chk_t, show ¬ (0 = 3 + x.1 16) by omega, show ¬ (16 = 3 + x.1 16) by omega, and_false, if_false, show ¬ ((16 : Nat) = 0) by omega, or64 _ hb _ h h0, n_p1]
  · exact MRg_up (by omega) (MRg_up (by omega) (MRg_up (by omega) m))
theorem rng (a : Int32) (lo hi : Nat) (l h : Int32) (el : l = nI lo) (eh : h = nI hi) (h1 : lo < 2147483648) (h2 : hi < 2147483648) : (∃ k, lo ≤ k ∧ k ≤ hi ∧ a = nI k ∧ fX8_lies a l h = 1 ∧ ¬ a < l ∧ a ≤ h ∧ ¬ h < a) ∨ (fX8_lies a l h = 0 ∧ (a < l ∨ ¬ a < l ∧ ¬ a ≤ h ∧ h < a)) := by
  subst el eh
  rcases n_cases a with ha | ⟨q, hq, rfl⟩
  · exact Or.inr ⟨n_liesn ha h1, Or.inl (by rw [n_nlt ha h1]; trivial)⟩
  · simp only [n_lies hq h1 h2, n_lt hq h1, n_le hq h2, n_lt h2 hq]
    by_cases c : lo ≤ q ∧ q ≤ hi
    · exact Or.inl ⟨q, c.1, c.2, rfl, by rw [if_pos c], by omega, by omega, by omega⟩
    · refine Or.inr ⟨by rw [if_neg c], by omega⟩
theorem st0 : Step0 Inv := by
  rintro a st ⟨A, g, c, m⟩
  have gR := g.1
  have hn := gR.1
  unfold fX7_child fX8_child fX7_child_b10
  rcases rng a 0 9 0 9 rfl rfl (by omega) (by omega) with ⟨q, h0, h9, rfl, l1, l2, l3, l4⟩ | ⟨l1, l2⟩
  · rw [if_neg l2, if_pos l3]
    simp only [show fX8_lies (nI q) 0 9 = 1 from l1, show ((1 : Int32) = 0) = False by decide, if_false, c.2.1.1.1.1, show (6 : Int32) = nI 6 from rfl, n_lt (show A.1.1 16 < 2147483648 by omega) (show 6 < 2147483648 by omega)]
    by_cases h6 : A.1.1 16 < 6
    · obtain ⟨u, e1, c1, f1⟩ := c_welcome (q := q) gR h6 c.2.1.1
      simp only [h6, if_true, e1, Option.bind_some]
      refine both_settle (S := [(1, none), (2, none)]) g (Gd_wel gR h6 h9) (by rfl) f1 c m c1 (by rw [wel_1, if_neg (by omega), if_neg (by omega), if_neg (by omega)]) rfl (fun q => sI q 1 4 - 1) (r := nI (A.1.1 16)) (fun u2 k => by show sI u2 1 4 - 1 = _; rw [k.1.1, wel_1, if_pos rfl]; exact n_pred) (fm := fun st => if sI st 40 16 = nI 6 then fX8_refuses (-5) st else (fX8_addsChild (nI q) st).bind fun q3 => fX8_settled (sI q3 40 16 - 1) q3) (fun s ms => ?_)
      obtain ⟨v, e2, m2, f2⟩ := m_adds (q := q) gR h6 ms.2.1
      refine ⟨v, ?_, f2, m2⟩
      show (if sI s 40 16 = nI 6 then _ else _) = _
      rw [if_neg (by rw [ms.2.1.k (by omega), n_eq (by omega) (by omega)]; omega), e2, Option.bind_some, m2.k (by omega), wel_1, if_pos rfl, n_pred]
    · simp only [h6, if_false]
      obtain ⟨u, e1, c1, f1⟩ := c_refused (k := -5) (p := 3) (Or.inr (Or.inr (Or.inr (Or.inl ⟨rfl, rfl⟩)))) c
      have m1 := MV_c (S := [(0, none), (35, none)]) (by rfl) f1 m
      obtain ⟨v, e2, m2, f2⟩ := m_refuses (k := -5) (p := 3) (Or.inr (Or.inr (Or.inr (Or.inl ⟨rfl, rfl⟩)))) m1
      refine ⟨-5, u, v, e1, ?_, _, Gd_sc g, CV_m (S := [(38, none), (39, none)]) (by rfl) f2 c1, m2⟩
      rw [if_pos (by rw [m1.2.1.k (by omega), n_eq (by omega) (by omega)]; omega)]; exact e2
  · simp only [show fX8_lies a 0 9 = 0 from l1, if_true]
    have : ∀ z : Option (Int32 × St), (if a < 0 then fX7_refused (-1) st else if a ≤ 9 then z else fX7_refused (-1) st) = fX7_refused (-1) st := by
      intro z
      rcases l2 with l2 | ⟨l2, l3, l4⟩
      · exact if_pos l2
      · rw [if_neg l2, if_neg l3]
    simp only [this]
    exact both_ref (Or.inl ⟨rfl, rfl⟩) g c m
