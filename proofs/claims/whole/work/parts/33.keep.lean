/-! what was ahead is kept -/
def psC (ps : Ps) : Ps := if ps.1 < 16 then ps else (15, fun j => ps.2 (j + 1))
def psK (x : Rg) (kd : Nat) (ps : Ps) : Ps := ((psC ps).1 + 1, fun j => if j = (psC ps).1 then (x.1 0, x.1 1, x.1 2, kd) else (psC ps).2 j)
def sP (A : All) (ps : Ps) : All := (A.1, A.2.1, A.2.2.1, A.2.2.2.1, ps, A.2.2.2.2.2)
def sX (A : All) (x : Rg) : All := (x, A.2)
theorem psC_le (ps : Ps) : (psC ps).1 < 16 := by
  unfold psC; split
  · assumption
  · show (15 : Nat) < 16; decide
theorem GdP_K {x : Rg} {ps : Ps} {kd : Nat} (g : GdR x) (gp : GdP x ps) (hk : kd < 4) : GdP x (psK x kd ps) := by
  have hl := psC_le ps
  refine ⟨by show (psC ps).1 + 1 ≤ 16; omega, fun j hj => ?_⟩
  have hj' : j < (psC ps).1 + 1 := hj
  show (if j = (psC ps).1 then _ else _ : Nat × Nat × Nat × Nat).1 < _ ∧ _
  unfold psK
  by_cases c : j = (psC ps).1
  · simp only [c, if_true]; exact ⟨g.2.1, g.2.2.2.2.1, g.2.2.2.1, hk⟩
  · simp only [c, if_false]
    unfold psC at hj' c ⊢
    split
    · rename_i h; rw [if_pos h] at hj' c; exact gp.2 j (by omega)
    · rename_i h
      rw [if_neg h] at hj' c
      have h16 := gp.1
      have hj2 : j < 15 + 1 := hj'
      have c2 : ¬ j = 15 := c
      exact gp.2 (j + 1) (by omega)
theorem c_keep {st : St} {A : All} {kd : Nat} (g : Gd A) (c : CV st A) (hk : kd < 4) : ∃ u, fX2_keep (nI kd) st = some u ∧ CV u (sP A (psK A.1 kd A.2.2.2.2.1)) ∧ FR [(15, none), (16, none)] st u := by
  have gR := g.1
  have g16 := g.2.2.2.1.1
  have hb := b_lt64 gR
  have g2 := gR.2.2.2.1
  have g1 := gR.2.2.2.2.1
  have cp := c.2.2.2.2.2.1
  have hv : ((sI st 5 0 * 384 + (sI st 1 5 * 6 + sI st 5 1)) * 4 + nI kd) = nI ((A.1.1 2 * 384 + (A.1.1 0 * 6 + A.1.1 1)) * 4 + kd) := by
    rw [show sI st 5 0 = nI (A.1.1 2) from c.2.1.1.2.1.1, show sI st 5 1 = nI (A.1.1 1) from c.2.1.1.2.1.2.1, c.2.1.1.1.2.1, show (384 : Int32) = nI 384 from rfl, show (6 : Int32) = nI 6 from rfl, show (4 : Int32) = nI 4 from rfl, n_mul, n_mul, n_add, n_add, n_mul, n_add]
  unfold fX2_keep fX2_keep_b30
  rw [cp.1, show (16 : Int32) = nI 16 from rfl]
  simp only [n_lt (show A.2.2.2.2.1.1 < 2147483648 by omega) (show 16 < 2147483648 by omega)]
  by_cases h : A.2.2.2.2.1.1 < 16
  · rw [if_pos h]
    simp only [cp.1, n_ixb (show A.2.2.2.2.1.1 < 2147483648 by omega), h, decide_true, chk_t, n_toNat (show A.2.2.2.2.1.1 < 2147483648 by omega), hv, sI_pI, show ¬ ((15 : Nat) = 16) by omega, false_and, if_false, n_p1]
    have f1 : FR [(15, none), (16, none)] st (pI (pI st 16 A.2.2.2.2.1.1 (nI ((A.1.1 2 * 384 + (A.1.1 0 * 6 + A.1.1 1)) * 4 + kd))) 15 1 (nI (A.2.2.2.2.1.1 + 1))) := FR.pI (by rfl) (FR.pI (by rfl) FR.rf)
    refine ⟨_, rfl, CV_keep (S := [(15, none), (16, none)]) (x := A.1) (by rfl) f1 c (CRg_fr (by rfl) f1 c.2.1.1) rfl rfl rfl ?_, f1⟩
    have e1 : psC A.2.2.2.2.1 = A.2.2.2.2.1 := if_pos h
    refine ⟨by rw [sI_pI, if_pos ⟨rfl, rfl⟩]; show _ = nI ((psC A.2.2.2.2.1).1 + 1); rw [e1], fun j hj => ?_⟩
    have hj' : j < (psC A.2.2.2.2.1).1 + 1 := hj
    rw [e1] at hj'
    unfold psK
    rw [e1]
    simp only [sI_pI, show ¬ ((15 + 1 : Nat) = 15) by omega, false_and, if_false, true_and]
    by_cases cj : j = A.2.2.2.2.1.1
    · simp only [cj, if_true]
    · simp only [cj, if_false]; exact cp.2 j (by omega)
  · rw [if_neg h]
    have e16 : A.2.2.2.2.1.1 = 16 := by omega
    simp only [sI_pI, and_self, if_true, show ixb 15 16 = true from rfl, chk_t, show (15 : Int32).toNatClampNeg = 15 from rfl, show (1 : Int32).toNatClampNeg = 1 from rfl, show (0 : Int32).toNatClampNeg = 0 from rfl, sI_rI, show ¬ ((5 : Nat) = 15) by omega, show ¬ ((1 : Nat) = 15) by omega, show ¬ ((5 : Nat) = 16) by omega, show ¬ ((1 : Nat) = 16) by omega, show ¬ ((15 : Nat) = 16) by omega, false_and, if_false, hv]
    refine ⟨_, rfl, ?_⟩
    have f1 : ∀ f w z, FR [(15, none), (16, none)] st (pI (pI (pI (rI st 16 f) 15 1 z) 16 15 w) 15 1 (15 + 1)) := fun f w z => FR.pI (by rfl) (FR.pI (by rfl) (FR.pI (by rfl) (FR.rI (by intros; rfl) FR.rf)))
    refine ⟨CV_keep (S := [(15, none), (16, none)]) (x := A.1) (by rfl) (f1 _ _ _) c (CRg_fr (by rfl) (f1 _ _ _) c.2.1.1) rfl rfl rfl ?_, f1 _ _ _⟩
    have e1 : psC A.2.2.2.2.1 = (15, fun j => A.2.2.2.2.1.2 (j + 1)) := if_neg h
    refine ⟨by rw [sI_pI, if_pos ⟨rfl, rfl⟩]; show _ = nI ((psC A.2.2.2.2.1).1 + 1); rw [e1]; rfl, fun j hj => ?_⟩
    have hj' : j < (psC A.2.2.2.2.1).1 + 1 := hj
    rw [e1] at hj'
    have hj2 : j < 15 + 1 := hj'
    unfold psK
    rw [e1]
    simp only [sI_pI, sI_rI, show ¬ ((15 + 1 : Nat) = 15) by omega, false_and, if_false, true_and]
    by_cases cj : j = 15
    · simp only [cj, if_true]
    · simp only [cj, if_false, if_true]
      unfold va_cpy
      rw [if_pos (by omega), show 1 + (j - 0) = j + 1 by omega]; exact cp.2 (j + 1) (by omega)
theorem eld8 : ∀ (d n i : Nat) (st : St), i + d = 60 → d < n → ∃ u, fX8_forgetsEldest_b4 n 4 (nI i) st = some (pI u 38 32 (sI u 38 32 - 1)) ∧ (∀ j, sI u 52 j = if i ≤ j ∧ j < 60 then sI st 52 (j + 4) else sI st 52 j) ∧ FR [(52, none)] st u := by
  intro d
  induction d with
  | zero =>
    intro n i st h1 h2
    obtain ⟨n, rfl⟩ : ∃ m, n = m + 1 := ⟨n - 1, by omega⟩
    refine ⟨st, ?_, fun j => by rw [if_neg (by omega)], FR.rf⟩
    rw [fX8_forgetsEldest_b4, if_pos (by rw [show (15 : Int32) * 4 = nI 60 by decide, n_le (by omega) (by omega)]; omega)]
  | succ d ih =>
    intro n i st h1 h2
    obtain ⟨n, rfl⟩ : ∃ m, n = m + 1 := ⟨n - 1, by omega⟩
    rw [fX8_forgetsEldest_b4, if_neg (by rw [show (15 : Int32) * 4 = nI 60 by decide, n_le (by omega) (by omega)]; omega), show nI i + 4 = nI (i + 4) from n_add i 4, n_ixb (by omega), n_ixb (by omega), decide_eq_true (show i + 4 < 64 by omega), decide_eq_true (show i < 64 by omega), chk_t, chk_t, n_toNat (by omega), n_toNat (by omega), n_p1]
    obtain ⟨u, e1, e2, e3⟩ := ih n (i + 1) (pI st 52 i (sI st 52 (i + 4))) (by omega) (by omega)
    refine ⟨u, e1, fun j => ?_, FR.trans (FR.pI (by rfl) FR.rf) e3⟩
    rw [e2 j]
    simp only [sI_pI, true_and]
    by_cases c : j = i
    · rw [if_neg (by omega), if_pos c, if_pos (by omega), c]
    · by_cases c2 : i + 1 ≤ j ∧ j < 60
      · rw [if_pos c2, if_neg (by omega), if_pos (by omega)]
      · rw [if_neg c2, if_neg c, if_neg (by omega)]
theorem keep8 {st : St} {n kd : Nat} (hn : sI st 38 32 = nI n) (h : n < 16) (hk : kd < 4) : ∃ u, fX8_keepsAll_b15 (nI kd) 4 st = some u ∧ sI u 38 32 = nI (n + 1) ∧ (∀ j, sI u 52 j = if j = 4 * n then sI st 40 0 else if j = 4 * n + 1 then sI st 40 1 else if j = 4 * n + 2 then sI st 40 2 else if j = 4 * n + 3 then nI kd else sI st 52 j) ∧ FR [(38, some 32), (52, none)] st u := by
  have one : ∀ (m i : Nat) (s : St), i < 3 → sI s 38 32 = nI n → fX8_keepsAll_b17 (m + 1) (nI kd) 4 (nI i) s = fX8_keepsAll_b17 m (nI kd) 4 (nI (i + 1)) (pI s 52 (4 * n + i) (sI s 40 i)) := by
    intro m i s hi hs
    rw [fX8_keepsAll_b17, if_neg (by rw [show (3 : Int32) = nI 3 from rfl, n_le (by omega) (by omega)]; omega), hs, show (4 : Int32) * nI n = nI (4 * n) from n_mul 4 n, n_add, n_ixb (by omega), n_ixb (by omega), decide_eq_true (show i < 5627 by omega), decide_eq_true (show 4 * n + i < 64 by omega), chk_t, chk_t, n_toNat (by omega), n_toNat (by omega), n_p1]
  have e : fX8_keepsAll_b15 (nI kd) 4 st = some (pI (pI (pI (pI (pI st 52 (4 * n) (sI st 40 0)) 52 (4 * n + 1) (sI st 40 1)) 52 (4 * n + 2) (sI st 40 2)) 52 (4 * n + 3) (nI kd)) 38 32 (nI (n + 1))) := by
    unfold fX8_keepsAll_b15
    rw [show FU = 99996 + 1 + 1 + 1 + 1 from rfl, show (0 : Int32) = nI 0 from rfl, one _ 0 _ (by omega) hn, one _ 1 _ (by omega) (by rw [sI_pI, if_neg (by omega)]; exact hn), one _ 2 _ (by omega) (by rw [sI_pI, if_neg (by omega), sI_pI, if_neg (by omega)]; exact hn), fX8_keepsAll_b17, if_pos (by decide)]
    simp only [sI_pI, show ¬ ((38 : Nat) = 52) by omega, show ¬ ((40 : Nat) = 52) by omega, false_and, if_false, hn, show (4 : Int32) * nI n = nI (4 * n) from n_mul 4 n, show nI (4 * n) + 3 = nI (4 * n + 3) from n_add _ 3, n_ixb (show 4 * n + 3 < 2147483648 by omega), show 4 * n + 3 < 64 by omega, decide_true, chk_t, n_toNat (show 4 * n + 3 < 2147483648 by omega), n_p1, Nat.add_zero]
  refine ⟨_, e, by rw [sI_pI, if_pos ⟨rfl, rfl⟩], fun j => ?_, FR.pI (by rfl) (FR.pI (by rfl) (FR.pI (by rfl) (FR.pI (by rfl) (FR.pI (by rfl) FR.rf))))⟩
  simp only [sI_pI, show ¬ ((52 : Nat) = 38) by omega, false_and, if_false, true_and]
  by_cases c3 : j = 4 * n + 3
  · rw [if_pos c3, if_neg (by omega), if_neg (by omega), if_neg (by omega), if_pos c3]
  · by_cases c2 : j = 4 * n + 2
    · rw [if_neg c3, if_pos c2, if_neg (by omega), if_neg (by omega), if_pos c2]
    · by_cases c1 : j = 4 * n + 1
      · rw [if_neg c3, if_neg c2, if_pos c1, if_neg (by omega), if_pos c1]
      · by_cases c0 : j = 4 * n
        · rw [if_neg c3, if_neg c2, if_neg c1, if_pos c0, if_pos c0]
        · rw [if_neg c3, if_neg c2, if_neg c1, if_neg c0, if_neg c0, if_neg c1, if_neg c2, if_neg c3]
theorem MV_P {S : List (Nat × Option Nat)} {st v : St} {A : All} {ps : Ps} (hS : subS S [(38, some 32), (52, none)] = true) (h0 : FR S st v) (m : MV st A) (p : MP v ps) : MV v (sP A ps) := by
  have h : FR [(38, some 32), (52, none)] st v := FR.mono hS h0
  obtain ⟨m0, m1, m2, m3, m4, m5, m6⟩ := m
  have h38 : ∀ j, j ≠ 32 → sI v 38 j = sI st 38 j := fun j hj => h.i (by simp [inS, inA]; omega)
  have h39 := fun j => h.i (a := 39) (j := j) (hasA_in (by rfl))
  have h41 := fun j => h.i (a := 41) (j := j) (hasA_in (by rfl))
  have h42 := fun j => h.i (a := 42) (j := j) (hasA_in (by rfl))
  have h45 := fun j => h.i (a := 45) (j := j) (hasA_in (by rfl))
  have h64 := fun j => h.i (a := 64) (j := j) (hasA_in (by rfl))
  refine ⟨fun j => (h.i (hasA_in (by rfl))).trans (m0 j), MRg_eq (fun j => h.i (hasA_in (by rfl))) m1, fun k hk => ?_, ?_, ?_, p, ?_⟩
  · rcases m2 k hk with ⟨e1, e2⟩ | ⟨y, e1, e2, e3⟩
    · exact Or.inl ⟨e1, (h42 k).trans e2⟩
    · exact Or.inr ⟨y, e1, (h42 k).trans e2, MRg_eq h41 e3⟩
  · unfold MS at m3 ⊢; rw [h38 0 (by omega), h38 14 (by omega), h38 46 (by omega), h38 6 (by omega)]; simp only [h39]; exact m3
  · unfold MT at m4 ⊢; rw [h38 13 (by omega)]; simp only [h45]; exact m4
  · unfold MD at m6 ⊢; rw [h38 55 (by omega), h38 56 (by omega)]; simp only [h64]; exact m6
theorem m_keep {st : St} {A : All} {kd : Nat} (g : Gd A) (m : MV st A) (hk : kd < 4) : ∃ u, fX8_keepsAll (nI kd) st = some u ∧ MV u (sP A (psK A.1 kd A.2.2.2.2.1)) ∧ FR [(38, some 32), (52, none)] st u := by
  have g16 := g.2.2.2.1.1
  have mp := m.2.2.2.2.2.1
  have mr := m.2.1
  have core : ∀ (s : St) (ps : Ps), ps.1 < 16 → FR [(38, some 32), (52, none)] st s → MP s ps → ∃ u, fX8_keepsAll_b15 (nI kd) 4 s = some u ∧ MP u (ps.1 + 1, fun j => if j = ps.1 then (A.1.1 0, A.1.1 1, A.1.1 2, kd) else ps.2 j) ∧ FR [(38, some 32), (52, none)] st u := by
    intro s ps hp fs ms
    obtain ⟨u, e1, e2, e3, e4⟩ := keep8 ms.1 hp hk
    refine ⟨u, e1, ⟨e2, fun j hj => ?_⟩, fs.trans e4⟩
    have r0 : sI s 40 0 = nI (A.1.1 0) := (fs.i (by rfl)).trans (mr.k (by omega))
    have r1 : sI s 40 1 = nI (A.1.1 1) := (fs.i (by rfl)).trans (mr.k (by omega))
    have r2 : sI s 40 2 = nI (A.1.1 2) := (fs.i (by rfl)).trans (mr.k (by omega))
    have hj' : j < ps.1 + 1 := hj
    rw [e3, e3, e3, e3, r0, r1, r2]
    by_cases c : j = ps.1
    · subst c
      simp only [if_true]
      refine ⟨trivial, ?_, ?_, ?_⟩
      · rw [if_neg (by omega)]
      · rw [if_neg (by omega), if_neg (by omega)]
      · rw [if_neg (by omega), if_neg (by omega), if_neg (by omega)]
    · simp only [c, if_false]
      have o := ms.2 j (by omega)
      refine ⟨?_, ?_, ?_, ?_⟩
      · rw [if_neg (by omega), if_neg (by omega), if_neg (by omega), if_neg (by omega)]; exact o.1
      · rw [if_neg (by omega), if_neg (by omega), if_neg (by omega), if_neg (by omega)]; exact o.2.1
      · rw [if_neg (by omega), if_neg (by omega), if_neg (by omega), if_neg (by omega)]; exact o.2.2.1
      · rw [if_neg (by omega), if_neg (by omega), if_neg (by omega), if_neg (by omega)]; exact o.2.2.2
  unfold fX8_keepsAll
  rw [mp.1, show (16 : Int32) = nI 16 from rfl]
  simp only [n_eq (show A.2.2.2.2.1.1 < 2147483648 by omega) (show 16 < 2147483648 by omega)]
  by_cases h : A.2.2.2.2.1.1 < 16
  · rw [if_neg (by omega)]
    obtain ⟨u, e1, e2, e3⟩ := core st A.2.2.2.2.1 h FR.rf mp
    have e4 : psC A.2.2.2.2.1 = A.2.2.2.2.1 := if_pos h
    refine ⟨u, e1, MV_P (by rfl) e3 m ?_, e3⟩
    unfold psK; rw [e4]; exact e2
  · rw [if_pos (by omega)]
    obtain ⟨u, e1, e2, e3⟩ := eld8 60 FU 0 st (by omega) (by unfold FU; omega)
    have h16 : A.2.2.2.2.1.1 = 16 := by omega
    have hu : sI u 38 32 = nI 16 := (e3.i (by rfl)).trans (mp.1.trans (by rw [h16]))
    have e1' : fX8_forgetsEldest st = some (pI u 38 32 (nI 15)) := by
      have : fX8_forgetsEldest_b4 FU 4 0 st = _ := e1
      unfold fX8_forgetsEldest
      rw [this, hu]; rfl
    rw [e1', Option.bind_some]
    have fs : FR [(38, some 32), (52, none)] st (pI u 38 32 (nI 15)) := FR.trans (FR.mono (by rfl) e3) (FR.pI (by rfl) FR.rf)
    have mps : MP (pI u 38 32 (nI 15)) (15, fun j => A.2.2.2.2.1.2 (j + 1)) := by
      refine ⟨by rw [sI_pI, if_pos ⟨rfl, rfl⟩], fun j hj => ?_⟩
      have hj' : j < 15 := hj
      have o := mp.2 (j + 1) (by omega)
      simp only [sI_pI, show ¬ ((52 : Nat) = 38) by omega, false_and, if_false, e2]
      rw [if_pos (by omega), if_pos (by omega), if_pos (by omega), if_pos (by omega), show 4 * j + 4 = 4 * (j + 1) by omega, show 4 * j + 1 + 4 = 4 * (j + 1) + 1 by omega, show 4 * j + 2 + 4 = 4 * (j + 1) + 2 by omega, show 4 * j + 3 + 4 = 4 * (j + 1) + 3 by omega]
      exact o
    obtain ⟨u2, k1, k2, k3⟩ := core _ (15, fun j => A.2.2.2.2.1.2 (j + 1)) (show (15 : Nat) < 16 by decide) fs mps
    have e4 : psC A.2.2.2.2.1 = (15, fun j => A.2.2.2.2.1.2 (j + 1)) := if_neg h
    refine ⟨u2, k1, MV_P (by rfl) k3 m ?_, k3⟩
    unfold psK; rw [e4]; exact k2
