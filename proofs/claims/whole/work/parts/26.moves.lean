/-! small changes of the class -/
theorem CRg_fr {S : List (Nat × Option Nat)} {st u : St} {x : Rg} (e : (hasA S 1 || hasA S 2 || hasA S 3 || hasA S 5) = false) (h : FR S st u) (m : CRg st 1 x) : CRg u 1 x := by
  simp only [Bool.or_eq_false_iff] at e
  unfold CRg at m ⊢
  have h0 := fun j => h.i (j := j) (hasA_in e.1.1.1)
  have h1 := fun j => h.i (j := j) (hasA_in e.1.1.2)
  have h2 := fun j => h.i (j := j) (hasA_in e.1.2)
  have h4 := fun j => h.i (j := j) (hasA_in e.2)
  simp only [h0, h1, h2, h4]; exact m
theorem Lws_fr {S : List (Nat × Option Nat)} {st u : St} {x : Rg} (d : lowS S = true) (h : FR S st u) (m : Lws st 1 x) : Lws u 1 x := Lws_eq (Hi.fr (fun a j c => lowS_in d (by omega)) h) (fun i => h.r2 (by omega)) m
theorem CI_fr {S : List (Nat × Option Nat)} {st u : St} {im : Im} (d : lowS S = true) (h : FR S st u) (m : CI st im) : CI u im := CI_eq (Hi.fr (fun a j c => lowS_in d (by omega)) h) (fun j => h.r2 (by omega)) m
theorem CS_fr {S : List (Nat × Option Nat)} {st u : St} {sc : Nat → Int32} (e : (hasA S 0 || hasA S 35) = false) (h : FR S st u) (m : CS st sc) : CS u sc := by
  simp only [Bool.or_eq_false_iff] at e
  exact CS_eq (fun j => h.i (hasA_in e.1)) (fun j => h.i (hasA_in e.2)) m
theorem CT_fr {S : List (Nat × Option Nat)} {st u : St} {tp : Tp} (e : (inS S 7 2 || hasA S 8) = false) (h : FR S st u) (m : CT st tp) : CT u tp := by
  simp only [Bool.or_eq_false_iff] at e
  exact CT_eq (h.i e.1) (fun j => h.i (hasA_in e.2)) m
theorem CP_fr {S : List (Nat × Option Nat)} {st u : St} {ps : Ps} (e : (inS S 15 1 || hasA S 16) = false) (h : FR S st u) (m : CP st 15 ps) : CP u 15 ps := by
  simp only [Bool.or_eq_false_iff] at e
  exact CP_eq (h.i e.1) (fun j => h.i (hasA_in e.2)) m
theorem CD_fr {S : List (Nat × Option Nat)} {st u : St} {dr : Dr} (e : (inS S 33 3 || inS S 33 4 || hasA S 34) = false) (h : FR S st u) (m : CD st dr) : CD u dr := by
  simp only [Bool.or_eq_false_iff] at e
  exact CD_eq (fun j c => c.elim (fun q => by rw [q]; exact h.i e.1.1) (fun q => by rw [q]; exact h.i e.1.2)) (fun j => h.i (hasA_in e.2)) m
theorem CVo_fr {S : List (Nat × Option Nat)} {st u : St} {y : Nat → Nat} (d : lowS S = true) (e : (inS S 19 6 || inS S 19 7 || inS S 19 8 || inS S 19 9 || hasA S 23 || hasA S 24) = false) (h : FR S st u) (m : CVo st y) : CVo u y := by
  simp only [Bool.or_eq_false_iff] at e
  exact CVo_eq (Hi.fr (fun a j c => lowS_in d (by omega)) h) (h.r e.1.1.1.1.2) (fun j c => c.elim (fun q => by rw [q]; exact h.i e.1.1.1.1.1) (fun c => c.elim (fun q => by rw [q]; exact h.i e.1.1.1.2) (fun q => by rw [q]; exact h.i e.1.1.2))) (fun j => h.i (hasA_in e.1.2)) (fun j => h.i (hasA_in e.2)) m
theorem WT_low {S : List (Nat × Option Nat)} {st u : St} (e : inS S 19 7 = false) (h : FR S st u) (m : WT st) : WT u := WT_eq (fr_eq h.1.1 h.1.2.1 (fun a j => h.r e)) m
/-- a change of answers alone -/
theorem CV_S {st u : St} {A : All} {sc : Nat → Int32} (h : FR [(0, none), (35, none)] st u) (m : CV st A) (s : CS u sc) : CV u (A.1, A.2.1, sc, A.2.2.2) :=
  ⟨WT_low (by rfl) h m.1, ⟨CRg_fr (by rfl) h m.2.1.1, Lws_fr (by rfl) h m.2.1.2⟩, CI_fr (by rfl) h m.2.2.1, s, CT_fr (by rfl) h m.2.2.2.2.1, CP_fr (by rfl) h m.2.2.2.2.2.1, CD_fr (by rfl) h m.2.2.2.2.2.2.1, CVo_fr (by rfl) (by rfl) h m.2.2.2.2.2.2.2⟩
def scA (A : All) (sc : Nat → Int32) : All := (A.1, A.2.1, sc, A.2.2.2)
def refS (sc : Nat → Int32) (k : Int32) (p : Nat) : Nat → Int32 := va_up (va_up sc (4 + p) (sc (4 + p) + 1)) 0 k
def Ref (k : Int32) (p : Nat) : Prop := (k = -1 ∧ p = 0) ∨ (k = -2 ∧ p = 1) ∨ (k = -3 ∧ p = 2) ∨ (k = -5 ∧ p = 3) ∨ (k = -6 ∧ p = 4)
theorem c_settled {st : St} {A : All} {r : Int32} (m : CV st A) : ∃ u, fX7_settled r st = some (r, u) ∧ CV u (scA A (va_up A.2.2.1 0 0)) ∧ FR [(0, none), (35, none)] st u := by
  have h : FR [(0, none), (35, none)] st (pI st 0 11 0) := FR.pI (by rfl) FR.rf
  refine ⟨_, rfl, CV_S h m ?_, h⟩
  obtain ⟨s1, s2, s3, s4, s5⟩ := m.2.2.2.1
  refine ⟨by simp [sI_pI, va_up], by simp [sI_pI, va_up, s2], by simp [sI_pI, va_up, s3], by simp [sI_pI, va_up, s4], fun j hj => ?_⟩
  simp [sI_pI, va_up, s5 j hj]
theorem c_refused {st : St} {A : All} {k : Int32} {p : Nat} (hk : Ref k p) (m : CV st A) : ∃ u, fX7_refused k st = some (k, u) ∧ CV u (scA A (refS A.2.2.1 k p)) ∧ FR [(0, none), (35, none)] st u := by
  have h : FR [(0, none), (35, none)] st (pI (pI st 35 p (sI st 35 p + 1)) 0 11 k) := FR.pI (by rfl) (FR.pI (by rfl) FR.rf)
  refine ⟨pI (pI st 35 p (sI st 35 p + 1)) 0 11 k, ?_, CV_S h m ?_, h⟩
  · rcases hk with ⟨rfl, rfl⟩ | ⟨rfl, rfl⟩ | ⟨rfl, rfl⟩ | ⟨rfl, rfl⟩ | ⟨rfl, rfl⟩ <;> rfl
  · have hp : p < 5 := by rcases hk with ⟨_, rfl⟩ | ⟨_, rfl⟩ | ⟨_, rfl⟩ | ⟨_, rfl⟩ | ⟨_, rfl⟩ <;> decide
    obtain ⟨s1, s2, s3, s4, s5⟩ := m.2.2.2.1
    refine ⟨by simp [sI_pI, va_up, refS], ?_, ?_, ?_, fun j hj => ?_⟩
    · simp [sI_pI, va_up, refS, s2, show ¬ 1 = 4 + p by omega]
    · simp [sI_pI, va_up, refS, s3, show ¬ 2 = 4 + p by omega]
    · simp [sI_pI, va_up, refS, s4, show ¬ 3 = 4 + p by omega]
    · by_cases c : j = p
      · subst c; simp [sI_pI, va_up, refS, s5 j hj]
      · simp [sI_pI, va_up, refS, s5 j hj, c, show ¬ 4 + j = 4 + p by omega]
/-! small changes of the model -/
theorem m_good {st : St} {A : All} {r : Int32} (m : MV st A) : ∃ u, fX8_good r st = some (r, u) ∧ MV u (scA A (va_up A.2.2.1 0 0)) ∧ FR [(38, none), (39, none)] st u := by
  have h : FR [(38, none), (39, none)] st (pI st 38 0 0) := FR.pI (by rfl) FR.rf
  refine ⟨_, rfl, ?_, h⟩
  obtain ⟨m0, m1, m2, m3, m4, m5, m6⟩ := m
  refine ⟨fun j => (h.i (by rfl)).trans (m0 j), MRg_eq (fun j => h.i (hasA_in (by rfl))) m1, fun k hk => ?_, ?_, ?_, ?_, ?_⟩
  · rcases m2 k hk with ⟨e1, e2⟩ | ⟨y, e1, e2, e3⟩
    · exact Or.inl ⟨e1, (h.i (hasA_in (by rfl))).trans e2⟩
    · exact Or.inr ⟨y, e1, (h.i (hasA_in (by rfl))).trans e2, MRg_eq (fun j => h.i (hasA_in (by rfl))) e3⟩
  · unfold MS at m3 ⊢; simp only [sI_pI, va_up, scA]; simpa using m3.2
  · unfold MT at m4 ⊢; simp only [sI_pI, scA]; simpa using m4
  · unfold MP at m5 ⊢; simp only [sI_pI, scA]; simpa using m5
  · unfold MD at m6 ⊢; simp only [sI_pI, scA]; simpa using m6
theorem m_refuses {st : St} {A : All} {k : Int32} {p : Nat} (hk : Ref k p) (m : MV st A) : ∃ u, fX8_refuses k st = some (k, u) ∧ MV u (scA A (refS A.2.2.1 k p)) ∧ FR [(38, none), (39, none)] st u := by
  have hq : ∃ q, q = (-k).toNatClampNeg := ⟨_, rfl⟩
  obtain ⟨q, eq⟩ := hq
  have hf : fX8_refuses k st = some (k, pI (pI st 38 0 k) 39 q (sI st 39 q + 1)) := by
    rcases hk with ⟨rfl, rfl⟩ | ⟨rfl, rfl⟩ | ⟨rfl, rfl⟩ | ⟨rfl, rfl⟩ | ⟨rfl, rfl⟩ <;> (subst eq; rfl)
  have h : FR [(38, none), (39, none)] st (pI (pI st 38 0 k) 39 q (sI st 39 q + 1)) := FR.pI (by rfl) (FR.pI (by rfl) FR.rf)
  refine ⟨_, hf, ?_, h⟩
  obtain ⟨m0, m1, m2, m3, m4, m5, m6⟩ := m
  refine ⟨fun j => (h.i (by rfl)).trans (m0 j), MRg_eq (fun j => h.i (hasA_in (by rfl))) m1, fun k hk => ?_, ?_, ?_, ?_, ?_⟩
  · rcases m2 k hk with ⟨e1, e2⟩ | ⟨y, e1, e2, e3⟩
    · exact Or.inl ⟨e1, (h.i (hasA_in (by rfl))).trans e2⟩
    · exact Or.inr ⟨y, e1, (h.i (hasA_in (by rfl))).trans e2, MRg_eq (fun j => h.i (hasA_in (by rfl))) e3⟩
  · obtain ⟨s0, s1, s2, s3, s4, s5, s6, s7, s8⟩ := m3
    rcases hk with ⟨rfl, rfl⟩ | ⟨rfl, rfl⟩ | ⟨rfl, rfl⟩ | ⟨rfl, rfl⟩ | ⟨rfl, rfl⟩
    · have : q = 1 := eq.trans (by decide)
      subst this
      refine ⟨?_, ?_, ?_, ?_, ?_, ?_, ?_, ?_, ?_⟩ <;> simp [sI_pI, va_up, scA, refS, s0, s1, s2, s3, s4, s5, s6, s7, s8]
    · have : q = 2 := eq.trans (by decide)
      subst this
      refine ⟨?_, ?_, ?_, ?_, ?_, ?_, ?_, ?_, ?_⟩ <;> simp [sI_pI, va_up, scA, refS, s0, s1, s2, s3, s4, s5, s6, s7, s8]
    · have : q = 3 := eq.trans (by decide)
      subst this
      refine ⟨?_, ?_, ?_, ?_, ?_, ?_, ?_, ?_, ?_⟩ <;> simp [sI_pI, va_up, scA, refS, s0, s1, s2, s3, s4, s5, s6, s7, s8]
    · have : q = 5 := eq.trans (by decide)
      subst this
      refine ⟨?_, ?_, ?_, ?_, ?_, ?_, ?_, ?_, ?_⟩ <;> simp [sI_pI, va_up, scA, refS, s0, s1, s2, s3, s4, s5, s6, s7, s8]
    · have : q = 6 := eq.trans (by decide)
      subst this
      refine ⟨?_, ?_, ?_, ?_, ?_, ?_, ?_, ?_, ?_⟩ <;> simp [sI_pI, va_up, scA, refS, s0, s1, s2, s3, s4, s5, s6, s7, s8]
  · unfold MT at m4 ⊢; simp only [sI_pI, scA]; simpa using m4
  · unfold MP at m5 ⊢; simp only [sI_pI, scA]; simpa using m5
  · unfold MD at m6 ⊢; simp only [sI_pI, scA]; simpa using m6
theorem Gd_sc {A : All} {sc : Nat → Int32} (g : Gd A) : Gd (scA A sc) := g
/-- both refuse -/
theorem both_ref {st : St} {A : All} {k : Int32} {p : Nat} (hk : Ref k p) (g : Gd A) (c : CV st A) (m : MV st A) : ∃ r st1 st2, fX7_refused k st = some (r, st1) ∧ fX8_refuses k st1 = some (r, st2) ∧ Inv st2 := by
  obtain ⟨u, e1, c1, f1⟩ := c_refused hk c
  obtain ⟨v, e2, m2, f2⟩ := m_refuses hk (MV_c (by rfl) f1 m)
  exact ⟨k, u, v, e1, e2, _, Gd_sc g, CV_m (by rfl) f2 c1, m2⟩
