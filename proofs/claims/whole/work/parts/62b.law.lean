/-! a law is told: class and model -/
def rdA (A : All) (v : Int32) : All := (A.1, A.2.1, va_up A.2.2.1 1 v, (0, A.2.2.2.1.2), A.2.2.2.2)
theorem CV_rd {st u : St} {A : All} {v : Int32} (f : FR S_cr st u) (h : sI u 7 2 = 0) (m : CV st A) : CV (pI u 0 12 v) (rdA A v) := by
  have f1 : FR ((0, some 12) :: S_cr) st (pI u 0 12 v) := (FR.mono (by rfl) f : FR ((0, some 12) :: S_cr) st u).trans (FR.pI (by rfl) FR.rf)
  refine ⟨WT_low (by rfl) f1 m.1, ⟨CRg_fr (by rfl) f1 m.2.1.1, Lws_fr (by rfl) f1 m.2.1.2⟩, CI_fr (by rfl) f1 m.2.2.1, ?_, ⟨?_, fun j hj => absurd hj (Nat.not_lt_zero _)⟩, CP_fr (by rfl) f1 m.2.2.2.2.2.1, CD_fr (by rfl) f1 m.2.2.2.2.2.2.1, CVo_fr (by rfl) (by rfl) f1 m.2.2.2.2.2.2.2⟩
  · obtain ⟨s1, s2, s3, s4, s5⟩ := m.2.2.2.1
    refine ⟨(f1.i (by rfl)).trans s1, ?_, (f1.i (by rfl)).trans s3, (f1.i (by rfl)).trans s4, fun j hj => ?_⟩
    · rw [sI_pI, if_pos ⟨rfl, rfl⟩]; simp [rdA, va_up]
    · rw [f1.i (hasA_in (by rfl)), s5 j hj]
      simp [rdA, va_up, show ¬ 4 + j = 1 by omega]
  · rw [sI_pI, if_neg (by omega)]; exact h
theorem MV_rd {st u : St} {A : All} {v : Int32} (f : FR S_ra st u) (h13 : sI u 38 13 = 0) (h14 : sI u 38 14 = v) (m : MV st A) : MV u (rdA A v) := by
  obtain ⟨m0, m1, m2, m3, m4, m5, m6⟩ := m
  have h38 : ∀ j, inS S_ra 38 j = false → sI u 38 j = sI st 38 j := fun j e => f.i e
  have h39 := fun j => f.i (a := 39) (j := j) (hasA_in (by rfl))
  have h41 := fun j => f.i (a := 41) (j := j) (hasA_in (by rfl))
  have h42 := fun j => f.i (a := 42) (j := j) (hasA_in (by rfl))
  have h44 := fun j => f.i (a := 44) (j := j) (hasA_in (by rfl))
  have h52 := fun j => f.i (a := 52) (j := j) (hasA_in (by rfl))
  have h64 := fun j => f.i (a := 64) (j := j) (hasA_in (by rfl))
  refine ⟨fun j => (h44 j).trans (m0 j), MRg_eq (fun j => f.i (hasA_in (by rfl))) m1, fun k hk => ?_, ?_, ⟨h13, fun j hj => absurd hj (Nat.not_lt_zero _)⟩, ?_, ?_⟩
  · rcases m2 k hk with ⟨e1, e2⟩ | ⟨y, e1, e2, e3⟩
    · exact Or.inl ⟨e1, (h42 k).trans e2⟩
    · exact Or.inr ⟨y, e1, (h42 k).trans e2, MRg_eq h41 e3⟩
  · obtain ⟨a0, a1, a2, a3, a4, a5, a6, a7, a8⟩ := m3
    refine ⟨(h38 0 (by rfl)).trans a0, ?_, (h38 46 (by rfl)).trans a2, (h38 6 (by rfl)).trans a3, (h39 1).trans a4, (h39 2).trans a5, (h39 3).trans a6, (h39 5).trans a7, (h39 6).trans a8⟩
    rw [h14]; simp [rdA, va_up]
  · unfold MP at m5 ⊢; simp only [h38 32 (by rfl), h52]; exact m5
  · unfold MD at m6 ⊢; simp only [h38 55 (by rfl), h38 56 (by rfl), h64]; exact m6
def lwA (x : Rg) (T : Tok) : Rg := (va_up x.1 18 (x.1 18 + 1), fun i => if i = x.1 18 then T else x.2 i)
theorem lwA_1 {x : Rg} {T : Tok} {k : Nat} (h : k ≠ 18) : (lwA x T).1 k = x.1 k := if_neg h
theorem lwA_18 {x : Rg} {T : Tok} : (lwA x T).1 18 = x.1 18 + 1 := by
  show va_up x.1 18 (x.1 18 + 1) 18 = _
  unfold va_up; rw [if_pos rfl]
theorem sx_lw {x : Rg} {T : Tok} : sx (lwA x T) = sx x := by
  funext i
  unfold sx
  by_cases c : 3 ≤ i ∧ i < 14 ∨ i = 16
  · rw [if_pos c, if_pos c, lwA_1 (by omega)]
  · rw [if_neg c, if_neg c]
/-- the class keeps a law -/
theorem c_lays {s : St} {A : All} {T : Tok} {L : List Cls} {sz : Nat} (g : Gd A) (c : CV s A) (hk : A.1.1 18 < 6) (hL : rLaw T = some L) (im : Impl 7 (scr s 9) L) (h6 : sI s 9 6 = nI sz) (h1 : 1 ≤ sz) (h2 : sz ≤ 826) : ∃ u, fX5_trimmed s = some (some (sn s), u) ∧ CV (pI (pR u 4 (A.1.1 18) (some (sn s))) 1 7 (nI (A.1.1 18 + 1))) (lwA A.1 T, A.2) ∧ ∀ a j, a < 65 → ¬ (a = 1 ∧ j = 7) → sI (pI (pR u 4 (A.1.1 18) (some (sn s))) 1 7 (nI (A.1.1 18 + 1))) a j = sI s a j := by
  have w := c.1
  have w65 : 65 ≤ sn s := w.1
  obtain ⟨u, e1, wu, ou, snu, uI, uN, uR, a1, a2, a3, a4⟩ := trim_ok w h6 h1 h2
  have hq : Impl 7 (scr u (sn s)) L := impl_cp h1 h6 h2 a1 a2 a3 a4 im
  refine ⟨u, e1, ?_, ?_⟩
  · have wv : WT (pI (pR u 4 (A.1.1 18) (some (sn s))) 1 7 (nI (A.1.1 18 + 1))) := wpI (wpRlaw (t := 1) (oS1 wu) (fun b hb => by rw [← Option.some.inj hb]; exact ou) wu)
    have vI : ∀ a j, a < sn s → ¬ (a = 1 ∧ j = 7) → sI (pI (pR u 4 (A.1.1 18) (some (sn s))) 1 7 (nI (A.1.1 18 + 1))) a j = sI s a j := fun a j h h' => by rw [sI_pI, if_neg h', sI_pR]; exact uI a j h
    have v7 : sI (pI (pR u 4 (A.1.1 18) (some (sn s))) 1 7 (nI (A.1.1 18 + 1))) 1 7 = nI (A.1.1 18 + 1) := by rw [sI_pI, if_pos ⟨rfl, rfl⟩]
    have vR : ∀ a j, a < sn s → ¬ (a = 4 ∧ j = A.1.1 18) → sR (pI (pR u 4 (A.1.1 18) (some (sn s))) 1 7 (nI (A.1.1 18 + 1))) a j = sR s a j := fun a j h h' => by rw [sR_pI, sR_pR, if_neg h']; exact uR a j h
    have vR4 : sR (pI (pR u 4 (A.1.1 18) (some (sn s))) 1 7 (nI (A.1.1 18 + 1))) 4 (A.1.1 18) = some (sn s) := by rw [sR_pI, sR_pR, if_pos ⟨rfl, rfl⟩]
    have vN : ∀ a, a < sn s → sN (pI (pR u 4 (A.1.1 18) (some (sn s))) 1 7 (nI (A.1.1 18 + 1))) a = sN s a := fun a h => uN a h
    have vS : scr (pI (pR u 4 (A.1.1 18) (some (sn s))) 1 7 (nI (A.1.1 18 + 1))) (sn s) = scr u (sn s) := by
      funext i j
      unfold scr
      by_cases ci : i < 6
      · rw [if_pos ci, if_pos ci, sI_pI, if_neg (by omega), sI_pR]
      · rw [if_neg ci, if_neg ci]; rfl
    have vn : sn (pI (pR u 4 (A.1.1 18) (some (sn s))) 1 7 (nI (A.1.1 18 + 1))) = sn s + 6 := snu
    generalize pI (pR u 4 (A.1.1 18) (some (sn s))) 1 7 (nI (A.1.1 18 + 1)) = v at *
    have hi : Hi s v := ⟨by omega, fun a h1 h2 => ⟨fun j => vI a j h2 (by omega), vN a h2, fun j => vR a j h2 (by omega)⟩⟩
    refine ⟨wv, ⟨?_, fun i hi' => ?_⟩, CI_eq hi (fun j => vR 6 j (by omega) (by omega)) c.2.2.1, CS_eq (fun j => vI _ j (by omega) (by omega)) (fun j => vI _ j (by omega) (by omega)) c.2.2.2.1, CT_eq (vI _ _ (by omega) (by omega)) (fun j => vI _ j (by omega) (by omega)) c.2.2.2.2.1, CP_eq (vI _ _ (by omega) (by omega)) (fun j => vI _ j (by omega) (by omega)) c.2.2.2.2.2.1, CD_eq (fun j _ => vI _ j (by omega) (by omega)) (fun j => vI _ j (by omega) (by omega)) c.2.2.2.2.2.2.1, ?_⟩
    · obtain ⟨⟨r1, r2, r3, r4, r5⟩, ⟨b1, b2, b3, b4⟩, d1, d2⟩ := c.2.1.1
      have q : ∀ a j, a < 65 → ¬ (a = 1 ∧ j = 7) → sI v a j = sI s a j := fun a j h h' => vI a j (by omega) h'
      unfold CRg
      simp only [lwA_18]
      rw [lwA_1 (by omega : (16 : Nat) ≠ 18), lwA_1 (by omega : (0 : Nat) ≠ 18), lwA_1 (by omega : (17 : Nat) ≠ 18), lwA_1 (by omega : (19 : Nat) ≠ 18), lwA_1 (by omega : (2 : Nat) ≠ 18), lwA_1 (by omega : (1 : Nat) ≠ 18), lwA_1 (by omega : (14 : Nat) ≠ 18), lwA_1 (by omega : (15 : Nat) ≠ 18)]
      refine ⟨⟨(q _ _ (by omega) (by omega)).trans r1, (q _ _ (by omega) (by omega)).trans r2, (q _ _ (by omega) (by omega)).trans r3, v7, (q _ _ (by omega) (by omega)).trans r5⟩, ⟨(q _ _ (by omega) (by omega)).trans b1, (q _ _ (by omega) (by omega)).trans b2, (q _ _ (by omega) (by omega)).trans b3, (q _ _ (by omega) (by omega)).trans b4⟩, fun j hj => ?_, fun j hj => ?_⟩
      · rw [lwA_1 (by omega)]; exact (q _ _ (by omega) (by omega)).trans (d1 j hj)
      · rw [lwA_1 (by omega)]; exact (q _ _ (by omega) (by omega)).trans (d2 j hj)
    · have hi2 : i < A.1.1 18 + 1 := by rw [← lwA_18 (T := T)]; exact hi'
      by_cases ci : i = A.1.1 18
      · refine ⟨sn s, L, w65, by omega, by rw [ci]; exact vR4, ?_, by rw [vS]; exact hq⟩
        show rLaw (if i = A.1.1 18 then T else A.1.2 i) = some L
        rw [if_pos ci]; exact hL
      · obtain ⟨q, L', h1, h2, h3, h4, h5⟩ := c.2.1.2 i (by omega)
        refine ⟨q, L', h1, by omega, (vR 4 i (by omega) (by omega)).trans h3, ?_, by rw [scr_eq hi h1 h2]; exact h5⟩
        show rLaw (if i = A.1.1 18 then T else A.1.2 i) = some L'
        rw [if_neg ci]; exact h4
    · show CVo v (sx (lwA A.1 T))
      rw [sx_lw]
      exact CVo_eq hi (vR _ _ (by omega) (by omega)) (fun j _ => vI _ j (by omega) (by omega)) (fun j => vI _ j (by omega) (by omega)) (fun j => vI _ j (by omega) (by omega)) c.2.2.2.2.2.2.2
  · intro a j h h'
    rw [sI_pI, if_neg h', sI_pR]; exact uI a j (by omega)
theorem Gd_lw {A : All} {T : Tok} (g : Gd A) (hk : A.1.1 18 < 6) : Gd (lwA A.1 T, A.2) := by
  obtain ⟨⟨g1, g2, g3, g4, g5, g6, g7, g8, g9, g10, g11, g12⟩, h1, h2, h3, h4⟩ := g
  have l : ∀ k, k ≠ 18 → (lwA A.1 T).1 k = A.1.1 k := fun k h => lwA_1 h
  refine ⟨⟨by rw [l 16 (by omega)]; exact g1, by rw [l 0 (by omega), l 16 (by omega)]; exact g2, by rw [l 17 (by omega)]; exact g3, by rw [l 2 (by omega)]; exact g4, by rw [l 1 (by omega)]; exact g5, by rw [l 14 (by omega)]; exact g6, by rw [l 15 (by omega)]; exact g7, by rw [lwA_18]; omega, by rw [l 19 (by omega), lwA_18]; omega, fun j hj => by rw [l _ (by omega)]; exact g10 j hj, fun j hj => by rw [l _ (by omega)]; exact g11 j hj, fun j hj => ?_⟩, h1, h2, ?_, h4⟩
  · rw [l 17 (by omega)] at hj
    rw [l _ (by omega)]; exact g12 j hj
  · obtain ⟨p1, p2⟩ := h3
    refine ⟨p1, fun j hj => ?_⟩
    have := p2 j hj
    rw [show (lwA A.1 T, A.2).1.1 16 = A.1.1 16 from l 16 (by omega)]
    exact this
