/-! what is left as it was keeps what is told -/
def hasA (S : List (Nat × Option Nat)) (a : Nat) : Bool := S.any (fun q => q.1 == a)
def lowS (S : List (Nat × Option Nat)) : Bool := S.all (fun q => decide (q.1 < 38))
def midS (S : List (Nat × Option Nat)) : Bool := S.all (fun q => decide (38 ≤ q.1 ∧ q.1 < 65))
theorem hasA_in {S : List (Nat × Option Nat)} {a j : Nat} (h : hasA S a = false) : inS S a j = false := by
  cases e : inS S a j with
  | false => rfl
  | true =>
    obtain ⟨q, hq, e1⟩ := List.any_eq_true.mp e
    simp only [inA, Bool.and_eq_true] at e1
    have : hasA S a = true := List.any_eq_true.mpr ⟨q, hq, e1.1⟩
    rw [h] at this; cases this
theorem lowS_in {S : List (Nat × Option Nat)} {a j : Nat} (h : lowS S = true) (ha : 38 ≤ a) : inS S a j = false := by
  cases e : inS S a j with
  | false => rfl
  | true =>
    obtain ⟨q, hq, e1⟩ := List.any_eq_true.mp e
    simp only [inA, Bool.and_eq_true, beq_iff_eq] at e1
    have h1 := of_decide_eq_true (List.all_eq_true.mp h q hq)
    omega
theorem midS_in {S : List (Nat × Option Nat)} {a j : Nat} (h : midS S = true) (ha : a < 38 ∨ 65 ≤ a) : inS S a j = false := by
  cases e : inS S a j with
  | false => rfl
  | true =>
    obtain ⟨q, hq, e1⟩ := List.any_eq_true.mp e
    simp only [inA, Bool.and_eq_true, beq_iff_eq] at e1
    have h1 := of_decide_eq_true (List.all_eq_true.mp h q hq)
    omega
theorem FR.i {S : List (Nat × Option Nat)} {st u : St} (h : FR S st u) {a j : Nat} (e : inS S a j = false) : sI u a j = sI st a j := (h.2 a j e).1
theorem FR.r {S : List (Nat × Option Nat)} {st u : St} (h : FR S st u) {a j : Nat} (e : inS S 19 7 = false) : sR u a j = sR st a j := h.1.2.2 a j (fun _ _ => e)
theorem FR.r2 {S : List (Nat × Option Nat)} {st u : St} (h : FR S st u) {a j : Nat} (e : ¬ (a = 19 ∧ j = 7)) : sR u a j = sR st a j := h.1.2.2 a j (fun e1 e2 => absurd ⟨e1, e2⟩ e)
/-- what was made later stays as it was -/
def Hi (st u : St) : Prop := sn st ≤ sn u ∧ ∀ a, 65 ≤ a → a < sn st → (∀ j, sI u a j = sI st a j) ∧ sN u a = sN st a ∧ ∀ j, sR u a j = sR st a j
theorem Hi.fr {S : List (Nat × Option Nat)} {st u : St} (d : ∀ a j, 65 ≤ a → inS S a j = false) (h : FR S st u) : Hi st u := ⟨by rw [h.1.1]; omega, fun a h1 h2 => ⟨fun j => h.i (d a j h1), (h.1.2.1 a).2, fun j => h.r2 (by omega)⟩⟩
theorem scr_eq {st u : St} {q : Nat} (h : Hi st u) (h1 : 65 ≤ q) (h2 : q + 6 ≤ sn st) : scr u q = scr st q := by
  funext i j
  unfold scr
  by_cases c : i < 6
  · rw [if_pos c, if_pos c, (h.2 (q + i) (by omega) (by omega)).1 j]
  · rw [if_neg c, if_neg c, (h.2 (q + 5) (by omega) (by omega)).2.1]
theorem MRg_eq {st u : St} {a o : Nat} {x : Rg} (h : ∀ j, sI u a j = sI st a j) (m : MRg st a o x) : MRg u a o x := by
  unfold MRg at m ⊢
  simp only [h]; exact m
theorem CRg_eq {st u : St} {t : Nat} {x : Rg} (h : ∀ a j, t ≤ a → a < t + 5 → sI u a j = sI st a j) (m : CRg st t x) : CRg u t x := by
  unfold CRg at m ⊢
  have h0 := fun j => h t j (by omega) (by omega)
  have h1 := fun j => h (t + 1) j (by omega) (by omega)
  have h2 := fun j => h (t + 2) j (by omega) (by omega)
  have h4 := fun j => h (t + 4) j (by omega) (by omega)
  simp only [h0, h1, h2, h4]; exact m
theorem Lws_eq {st u : St} {t : Nat} {x : Rg} (h : Hi st u) (hr : ∀ i, sR u (t + 3) i = sR st (t + 3) i) (m : Lws st t x) : Lws u t x := by
  intro i hi
  obtain ⟨q, L, h1, h5, h2, h3, h4⟩ := m i hi
  refine ⟨q, L, h1, Nat.le_trans h5 h.1, (hr i).trans h2, h3, ?_⟩
  rw [scr_eq h h1 h5]; exact h4
theorem CI_eq {st u : St} {im : Im} (h : Hi st u) (hr : ∀ j, sR u 6 j = sR st 6 j) (m : CI st im) : CI u im := by
  refine ⟨fun k hk => ?_, fun t e => m.2 t ?_⟩
  · rcases m.1 k hk with ⟨e1, e2⟩ | ⟨y, t, e1, e2, e3, e6, e4, e5⟩
    · exact Or.inl ⟨e1, (hr k).trans e2⟩
    · exact Or.inr ⟨y, t, e1, (hr k).trans e2, e3, Nat.le_trans e6 h.1, CRg_eq (fun a j h1 h2 => (h.2 a (by omega) (by omega)).1 j) e4, Lws_eq h (fun i => (h.2 (t + 3) (by omega) (by omega)).2.2 i) e5⟩
  · rw [hr 0, hr 1] at e; exact e
theorem VL_eq {st u : St} {lw : Lw0} (h : Hi st u) (hr : sR u 19 7 = sR st 19 7) (m : VL st lw) : VL u lw := by
  rcases m with ⟨e1, e2⟩ | ⟨L, q, e1, e2, e3, e5, e4⟩
  · exact Or.inl ⟨e1, hr.trans e2⟩
  · refine Or.inr ⟨L, q, e1, hr.trans e2, e3, Nat.le_trans e5 h.1, ?_⟩
    rw [scr_eq h e3 e5]; exact e4
theorem VC_eq {st u : St} {lw : Lw0} {y : Nat → Nat} {vr vm sp : Nat} (h0 : sI u 19 6 = sI st 19 6) (h1 : ∀ j, sI u 23 j = sI st 23 j) (h2 : ∀ j, sI u 24 j = sI st 24 j) (m : VC st lw y vr vm sp) : VC u lw y vr vm sp := by
  unfold VC at m ⊢
  simp only [h0, h1, h2]; exact m
theorem CVo_eq {st u : St} {y : Nat → Nat} (h : Hi st u) (hr : sR u 19 7 = sR st 19 7) (h0 : ∀ j, j = 6 ∨ j = 8 ∨ j = 9 → sI u 19 j = sI st 19 j) (h1 : ∀ j, sI u 23 j = sI st 23 j) (h2 : ∀ j, sI u 24 j = sI st 24 j) (m : CVo st y) : CVo u y := by
  obtain ⟨lw, vr, vm, sp, m1, m2, m3⟩ := m
  refine ⟨lw, vr, vm, sp, VL_eq h hr m1, ?_, VC_eq (h0 6 (by simp)) h1 h2 m3⟩
  unfold VT at m2 ⊢
  rw [h0 8 (by simp), h0 9 (by simp)]; exact m2
theorem CS_eq {st u : St} {sc : Nat → Int32} (h : ∀ j, sI u 0 j = sI st 0 j) (h1 : ∀ j, sI u 35 j = sI st 35 j) (m : CS st sc) : CS u sc := by
  unfold CS at m ⊢
  simp only [h, h1]; exact m
theorem CT_eq {st u : St} {tp : Tp} (h : sI u 7 2 = sI st 7 2) (h1 : ∀ j, sI u 8 j = sI st 8 j) (m : CT st tp) : CT u tp := by
  unfold CT at m ⊢
  simp only [h, h1]; exact m
theorem CP_eq {st u : St} {t : Nat} {ps : Ps} (h : sI u t 1 = sI st t 1) (h1 : ∀ j, sI u (t + 1) j = sI st (t + 1) j) (m : CP st t ps) : CP u t ps := by
  unfold CP at m ⊢
  simp only [h, h1]; exact m
theorem CD_eq {st u : St} {dr : Dr} (h : ∀ j, j = 3 ∨ j = 4 → sI u 33 j = sI st 33 j) (h1 : ∀ j, sI u 34 j = sI st 34 j) (m : CD st dr) : CD u dr := by
  unfold CD at m ⊢
  simp only [h 3 (by simp), h 4 (by simp), h1]; exact m
theorem fr_eq {st u : St} (h1 : sn u = sn st) (h2 : ∀ a, sK u a = sK st a ∧ sN u a = sN st a) (h3 : ∀ a j, sR u a j = sR st a j) : u.1 = st.1 := by
  obtain ⟨⟨k, n, r, z⟩, iu⟩ := u
  obtain ⟨⟨k2, n2, r2, z2⟩, is⟩ := st
  have e1 : k = k2 := funext fun a => (h2 a).1
  have e2 : n = n2 := funext fun a => (h2 a).2
  have e3 : r = r2 := funext fun a => funext fun j => h3 a j
  have e4 : z = z2 := h1
  simp [e1, e2, e3, e4]
theorem WT_eq {st u : St} (h : u.1 = st.1) (m : WT st) : WT u := by
  unfold WT at m ⊢; rw [h]; exact m
/-- references as they were, but the voice's law, which is a script -/
theorem WT_fr {st u : St} (h1 : sn u = sn st) (h2 : ∀ a, sK u a = sK st a ∧ sN u a = sN st a) (h3 : ∀ a j, ¬ (a = 19 ∧ j = 7) → sR u a j = sR st a j) (h4 : ∀ b, sR u 19 7 = some b → ObjF st.1 5 b) (m : WT st) : WT u := by
  have hO : ∀ k a, ObjF u.1 k a ↔ ObjF st.1 k a := by
    intro k a
    show (a < sn u ∧ sK u a = k) ↔ (a < sn st ∧ sK st a = k)
    rw [h1, (h2 a).1]
  have hA : ∀ k n a, ArrF u.1 k n a ↔ ArrF st.1 k n a := by
    intro k n a
    show (a < sn u ∧ sK u a = k ∧ sN u a = n) ↔ (a < sn st ∧ sK st a = k ∧ sN st a = n)
    rw [h1, (h2 a).1, (h2 a).2]
  have hR : ∀ a j, ¬ (a = 19 ∧ j = 7) → u.1.2.2.1 a j = st.1.2.2.1 a j := h3
  obtain ⟨m1, m2, m3, m4, m5, m6, m7, m8⟩ := m
  refine ⟨by show _ ≤ sn u; rw [h1]; exact m1, fun a k n e => ?_, fun q hq => ?_, fun t ht => ?_, fun t ht => ?_, fun t ht => ?_, fun i b e => ?_, fun b e => (hO 5 b).mpr (h4 b e)⟩
  · have := m2 a k n e
    exact ⟨(h2 a).1.trans this.1, (h2 a).2.trans this.2⟩
  · have hd : ∀ q ∈ wires, ¬ (q.1 = 19 ∧ q.2.1 = 7) := by decide
    rw [hR _ _ (hd q hq)]; exact m3 q hq
  · have := m4 t ((hO 4 t).mp ht)
    have ht4 := ((hO 4 t).mp ht).2
    have h19 : st.1.1 19 = 6 := (m2 19 6 0 rfl).1
    have h16 : st.1.1 16 = 10 := (m2 16 10 16 rfl).1
    have n1 : t ≠ 19 := fun e => by rw [e, h19] at ht4; cases ht4
    have n2 : t + 3 ≠ 19 := fun e => by
      have e2 : t = 16 := by omega
      rw [e2, h16] at ht4; cases ht4
    unfold RingF at this ⊢
    simp only [hA, hO, hR t _ (fun e => n1 e.1), hR (t + 3) _ (fun e => n2 e.1)]
    exact this
  · have := m5 t ((hO 5 t).mp ht)
    have ht4 := ((hO 5 t).mp ht).2
    have h19 : st.1.1 19 = 6 := (m2 19 6 0 rfl).1
    have n1 : t ≠ 19 := fun e => by rw [e, h19] at ht4; cases ht4
    unfold ScrF at this ⊢
    simp only [hA, hO, hR t _ (fun e => n1 e.1)]
    exact this
  · have := m6 t ((hO 2 t).mp ht)
    have ht4 := ((hO 2 t).mp ht).2
    have h19 : st.1.1 19 = 6 := (m2 19 6 0 rfl).1
    have n1 : t ≠ 19 := fun e => by rw [e, h19] at ht4; cases ht4
    unfold PastF at this ⊢
    simp only [hA, hR t _ (fun e => n1 e.1)]
    exact this
  · rw [hR _ _ (by omega)] at e
    exact (hO 4 b).mpr (m7 i b e)
theorem CV_m {S : List (Nat × Option Nat)} {st u : St} {A : All} (d : midS S = true) (h : FR S st u) (m : CV st A) : CV u A := by
  have hi : ∀ a j, a < 38 ∨ 65 ≤ a → sI u a j = sI st a j := fun a j c => h.i (midS_in d c)
  obtain ⟨m1, ⟨m2, m3⟩, m4, m5, m6, m7, m8, m9⟩ := m
  have hr : ∀ a j, sR u a j = sR st a j := fun a j => h.r (midS_in d (by omega))
  have hh : Hi st u := Hi.fr (fun a j c => midS_in d (by omega)) h
  exact ⟨WT_eq (fr_eq h.1.1 h.1.2.1 hr) m1, ⟨CRg_eq (fun a j h1 h2 => hi a j (by omega)) m2, Lws_eq hh (fun i => hr _ i) m3⟩, CI_eq hh (fun j => hr 6 j) m4, CS_eq (fun j => hi _ j (by omega)) (fun j => hi _ j (by omega)) m5, CT_eq (hi _ _ (by omega)) (fun j => hi _ j (by omega)) m6, CP_eq (hi _ _ (by omega)) (fun j => hi _ j (by omega)) m7, CD_eq (fun j _ => hi _ j (by omega)) (fun j => hi _ j (by omega)) m8, CVo_eq hh (hr _ _) (fun j _ => hi _ j (by omega)) (fun j => hi _ j (by omega)) (fun j => hi _ j (by omega)) m9⟩
theorem MV_raw {st u : St} {A : All} (h : ∀ a j, 38 ≤ a → a < 65 → sI u a j = sI st a j) (m : MV st A) : MV u A := by
  obtain ⟨m0, m1, m2, m3, m4, m5, m6⟩ := m
  have h40 := fun j => h 40 j (by omega) (by omega)
  have h41 := fun j => h 41 j (by omega) (by omega)
  have h42 := fun j => h 42 j (by omega) (by omega)
  have h38 := fun j => h 38 j (by omega) (by omega)
  have h39 := fun j => h 39 j (by omega) (by omega)
  have h44 := fun j => h 44 j (by omega) (by omega)
  have h45 := fun j => h 45 j (by omega) (by omega)
  have h52 := fun j => h 52 j (by omega) (by omega)
  have h64 := fun j => h 64 j (by omega) (by omega)
  refine ⟨fun j => (h44 j).trans (m0 j), MRg_eq h40 m1, fun k hk => ?_, ?_, ?_, ?_, ?_⟩
  · rcases m2 k hk with ⟨e1, e2⟩ | ⟨y, e1, e2, e3⟩
    · exact Or.inl ⟨e1, (h42 k).trans e2⟩
    · exact Or.inr ⟨y, e1, (h42 k).trans e2, MRg_eq h41 e3⟩
  · unfold MS at m3 ⊢; simp only [h38, h39]; exact m3
  · unfold MT at m4 ⊢; simp only [h38, h45]; exact m4
  · unfold MP at m5 ⊢; simp only [h38, h52]; exact m5
  · unfold MD at m6 ⊢; simp only [h38, h64]; exact m6
theorem MV_c {S : List (Nat × Option Nat)} {st u : St} {A : All} (d : lowS S = true) (h : FR S st u) (m : MV st A) : MV u A := MV_raw (fun a j h1 _ => h.i (lowS_in d h1)) m
