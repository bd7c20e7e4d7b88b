/-! a row of children -/
def rowS (tp : Nat → Int32) : Nat → Nat → Rg → Nat → Rg × Nat
  | 0, _, x, c => (x, c)
  | d + 1, i, x, c => if (0 ≤ tp i ∧ tp i ≤ 9) ∧ x.1 16 < 6 then rowS tp d (i + 1) (wel x (tp i).toNatClampNeg) (c + 1) else rowS tp d (i + 1) x c
theorem byq {v : Int32} (h : Byt v) : (∃ q, q ≤ 9 ∧ v = nI q ∧ v &&& 255 = nI q ∧ (0 ≤ v ∧ v ≤ 9) ∧ fX8_lies v 0 9 = 1 ∧ v.toNatClampNeg = q) ∨ (9 < v &&& 255 ∧ ¬ (0 ≤ v ∧ v ≤ 9) ∧ fX8_lies v 0 9 = 0) := by
  rcases h with ⟨k, h1, h2, h3⟩ | ⟨k, h1, h2, h3, h4⟩
  · subst h2
    by_cases c : k ≤ 9
    · refine Or.inl ⟨k, c, rfl, h3, ⟨?_, ?_⟩, ?_, n_toNat (by omega)⟩
      · rw [n_nn (by omega)]; trivial
      · rw [show (9 : Int32) = nI 9 from rfl, n_le (by omega) (by omega)]; exact c
      · rw [show (9 : Int32) = nI 9 from rfl, show (0 : Int32) = nI 0 from rfl, n_lies (by omega) (by omega) (by omega), if_pos (by omega)]
    · refine Or.inr ⟨?_, fun e => ?_, ?_⟩
      · rw [h3, show (9 : Int32) = nI 9 from rfl, n_lt (by omega) (by omega)]; omega
      · have := e.2
        rw [show (9 : Int32) = nI 9 from rfl, n_le (by omega) (by omega)] at this; omega
      · rw [show (9 : Int32) = nI 9 from rfl, show (0 : Int32) = nI 0 from rfl, n_lies (by omega) (by omega) (by omega), if_neg (by omega)]; rfl
  · refine Or.inr ⟨?_, fun e => ?_, n_liesn (lo := 0) h3 (by omega)⟩
    · rw [h4, show (9 : Int32) = nI 9 from rfl, n_lt (by omega) (by omega)]; omega
    · have h0 := e.1
      rw [Int32.le_iff_toInt_le] at h0
      rw [Int32.lt_iff_toInt_lt] at h3
      omega
theorem row7 {len : Nat} (hl : len ≤ 400) {tp : Nat → Int32} (hb : ∀ j, j < len → Byt (tp j)) : ∀ (d n i : Nat) (x : Rg) (cm : Nat) (st : St), i + d = len → d < n → cm ≤ i → GdR x → CRg st 1 x → (∀ j, j < len → sI st 8 j = tp j) → ∃ u, fX7_row_b23 n (nI len) (nI cm) (nI i) st = ((fX7_ringChanged (pI (pI u 7 2 0) 0 14 (nI (len - (rowS tp d i x cm).2)))).bind (fun q2 => fX7_settled (nI (rowS tp d i x cm).2) q2)) ∧ CRg u 1 (rowS tp d i x cm).1 ∧ GdR (rowS tp d i x cm).1 ∧ (rowS tp d i x cm).2 ≤ len ∧ cm ≤ (rowS tp d i x cm).2 ∧ (rowS tp d i x cm).1.1 18 = x.1 18 ∧ (rowS tp d i x cm).1.2 = x.2 ∧ FR [(1, none), (2, none)] st u := by
  intro d
  induction d with
  | zero =>
    intro n i x cm st h1 h2 h3 g c ht
    obtain ⟨n, rfl⟩ : ∃ m, n = m + 1 := ⟨n - 1, by omega⟩
    refine ⟨st, ?_, c, g, by show cm ≤ len; omega, Nat.le_refl _, rfl, rfl, FR.rf⟩
    rw [fX7_row_b23, if_pos (by rw [n_le (by omega) (by omega)]; omega), n_sub (show cm ≤ len by omega)]
    rfl
  | succ d ih =>
    intro n i x cm st h1 h2 h3 g c ht
    obtain ⟨n, rfl⟩ : ∃ m, n = m + 1 := ⟨n - 1, by omega⟩
    have g1 := g.1
    rw [fX7_row_b23, if_neg (by rw [n_le (by omega) (by omega)]; omega), n_ixb (by omega), decide_eq_true (show i < 400 by omega), chk_t, n_toNat (show i < 2147483648 by omega), ht i (by omega), c.1.1]
    have e6 : ((6 : Int32) ≤ nI (x.1 16)) = (6 ≤ x.1 16) := n_le (a := 6) (by omega) (by omega)
    simp only [e6]
    unfold rowS
    rcases byq (hb i (by omega)) with ⟨q, k1, k2, k3, k4, k5, k6⟩ | ⟨k1, k2, k3⟩
    · rw [if_neg (by rw [k3, show (9 : Int32) = nI 9 from rfl, n_lt (by omega) (by omega)]; omega)]
      by_cases h6 : x.1 16 < 6
      · rw [if_neg (by omega), if_pos ⟨k4, h6⟩, k3, k6]
        obtain ⟨u, e1, c1, f1⟩ := c_welcome (q := q) g h6 c
        rw [e1, Option.bind_some]
        unfold fX7_row_b74
        obtain ⟨u2, r1, r2, r3, r4, r5, r6, r7, r8⟩ := ih n (i + 1) (wel x q) (cm + 1) u (by omega) (by omega) (by omega) (Gd_wel g h6 k1) c1 (fun j hj => (f1.i (hasA_in (by rfl))).trans (ht j hj))
        simp only [n_p1]
        exact ⟨u2, r1, r2, r3, r4, by omega, r6.trans (by rw [wel_1, if_neg (by omega), if_neg (by omega), if_neg (by omega)]), r7, f1.trans r8⟩
      · rw [if_pos (by omega), if_neg (fun e => h6 e.2)]
        unfold fX7_row_b74
        obtain ⟨u2, r1, r2, r3, r4, r5, r6, r7, r8⟩ := ih n (i + 1) x cm st (by omega) (by omega) (by omega) g c ht
        simp only [n_p1]
        exact ⟨u2, r1, r2, r3, r4, r5, r6, r7, r8⟩
    · rw [if_pos k1, if_neg (fun e => k2 e.1)]
      unfold fX7_row_b74
      obtain ⟨u2, r1, r2, r3, r4, r5, r6, r7, r8⟩ := ih n (i + 1) x cm st (by omega) (by omega) (by omega) g c ht
      simp only [n_p1]
      exact ⟨u2, r1, r2, r3, r4, r5, r6, r7, r8⟩
theorem row8 {len : Nat} (hl : len ≤ 400) {tp : Nat → Int32} (hb : ∀ j, j < len → Byt (tp j)) : ∀ (d n i : Nat) (x : Rg) (cm l : Nat) (st : St), i + d = len → d < n → cm + l = i → GdR x → MRg st 40 0 x → (∀ j, j < len → sI st 45 j = tp j) → sI st 38 6 = nI l → ∃ u, fX8_row_b30 n (nI len) (nI cm) (nI i) st = fX8_settled (nI (rowS tp d i x cm).2) u ∧ MRg u 40 0 (rowS tp d i x cm).1 ∧ sI u 38 6 = nI (len - (rowS tp d i x cm).2) ∧ FR [(40, none), (38, some 6)] st u := by
  intro d
  induction d with
  | zero =>
    intro n i x cm l st h1 h2 h3 g c ht h6
    obtain ⟨n, rfl⟩ : ∃ m, n = m + 1 := ⟨n - 1, by omega⟩
    refine ⟨st, ?_, c, ?_, FR.rf⟩
    · rw [fX8_row_b30, if_pos (by rw [n_le (by omega) (by omega)]; omega)]; rfl
    · rw [h6]; show nI l = nI (len - cm); congr 1; omega
  | succ d ih =>
    intro n i x cm l st h1 h2 h3 g c ht h6
    obtain ⟨n, rfl⟩ : ∃ m, n = m + 1 := ⟨n - 1, by omega⟩
    have g1 := g.1
    rw [fX8_row_b30, if_neg (by rw [n_le (by omega) (by omega)]; omega), n_ixb (by omega), decide_eq_true (show i < 400 by omega), chk_t, n_toNat (show i < 2147483648 by omega), ht i (by omega), c.k (by omega)]
    have e6 : ((6 : Int32) ≤ nI (x.1 16)) = (6 ≤ x.1 16) := n_le (a := 6) (by omega) (by omega)
    simp only [e6]
    unfold rowS
    have no : ∃ u, fX8_row_b66 (fun zl1 zl2 zl3 zst => fX8_row_b30 n zl1 zl2 zl3 zst) (nI len) (nI cm) (nI i) st = fX8_settled (nI (rowS tp d (i + 1) x cm).2) u ∧ MRg u 40 0 (rowS tp d (i + 1) x cm).1 ∧ sI u 38 6 = nI (len - (rowS tp d (i + 1) x cm).2) ∧ FR [(40, none), (38, some 6)] st u := by
      unfold fX8_row_b66 fX8_row_b67 fX8_row_b84 fX8_row_b95 fX8_row_b112
      rw [if_pos rfl, if_pos rfl, if_pos rfl, h6, n_p1, n_p1, show nI cm + 0 = nI cm from n_add cm 0]
      have f1 : FR [(40, none), (38, some 6)] st (pI st 38 6 (nI (l + 1))) := FR.pI (by rfl) FR.rf
      obtain ⟨u2, r1, r2, r3, r4⟩ := ih n (i + 1) x cm (l + 1) (pI st 38 6 (nI (l + 1))) (by omega) (by omega) (by omega) g (MRg_eq (fun j => by rw [sI_pI, if_neg (by omega)]) c) (fun j hj => by rw [sI_pI, if_neg (by omega)]; exact ht j hj) (by rw [sI_pI, if_pos ⟨rfl, rfl⟩])
      exact ⟨u2, r1, r2, r3, f1.trans r4⟩
    rcases byq (hb i (by omega)) with ⟨q, k1, k2, k3, k4, k5, k6⟩ | ⟨k1, k2, k3⟩
    · by_cases hh : x.1 16 < 6
      · rw [if_neg (by omega), if_neg (by rw [k5]; decide), if_pos ⟨k4, hh⟩, k6]
        obtain ⟨u, e1, c1, f1⟩ := m_adds (q := q) g hh c
        unfold fX8_row_b67
        rw [if_neg (by decide), n_ixb (by omega), decide_eq_true (show i < 400 by omega), chk_t, n_toNat (show i < 2147483648 by omega), ht i (by omega), k2, e1, Option.bind_some]
        unfold fX8_row_b84 fX8_row_b95 fX8_row_b112
        have h6u : sI u 38 6 = nI l := (f1.i (hasA_in (by rfl))).trans h6
        rw [if_neg (by decide), if_neg (by decide), n_p1, n_p1, h6u, show nI l + 0 = nI l from n_add l 0]
        have f2 : FR [(40, none), (38, some 6)] st (pI u 38 6 (nI l)) := (FR.mono (by rfl) f1).trans (FR.pI (by rfl) FR.rf)
        obtain ⟨u2, r1, r2, r3, r4⟩ := ih n (i + 1) (wel x q) (cm + 1) l (pI u 38 6 (nI l)) (by omega) (by omega) (by omega) (Gd_wel g hh k1) (MRg_eq (fun j => by rw [sI_pI, if_neg (by omega)]) c1) (fun j hj => by rw [sI_pI, if_neg (by omega)]; exact (f1.i (hasA_in (by rfl))).trans (ht j hj)) (by rw [sI_pI, if_pos ⟨rfl, rfl⟩])
        exact ⟨u2, r1, r2, r3, f2.trans r4⟩
      · rw [if_pos (by omega), if_neg (fun e => hh e.2)]; exact no
    · rw [if_pos k3, if_neg (show ¬ ((0 ≤ tp i ∧ tp i ≤ 9) ∧ x.1 16 < 6) from fun e => k2 e.1)]
      split <;> exact no
abbrev S_row : List (Nat × Option Nat) := [(0, none), (1, none), (2, none), (7, some 2)]
theorem st8 : Step8 Inv := by
  rintro st ⟨A, g, c, m⟩
  have gR := g.1
  have gT := g.2.2.1
  have hT := gT.1
  have ct := c.2.2.2.2.1
  unfold fX7_row fX8_row
  rw [ct.1]
  by_cases h0 : A.2.2.2.1.1 = 0
  · rw [h0]
    simp only [show (nI 0 = 0) = True from eq_true rfl, if_true]
    obtain ⟨u, e1, c1, f1⟩ := c_refused R6 c
    have m1 := MV_c (S := [(0, none), (35, none)]) (by rfl) f1 m
    have f2 : FR [(38, some 13)] u (pI u 38 13 0) := FR.pI (by rfl) FR.rf
    have hs : (sI u 38 13 = 0) := by rw [m1.2.2.2.2.1.1, h0]; rfl
    have hT0 : A.2.2.2.1 = (0, A.2.2.2.1.2) := by rw [← h0]
    have m2 := MV_T (tp := (0, A.2.2.2.1.2)) (S := [(38, some 13)]) (by rfl) f2 m1 ⟨by rw [sI_pI, if_pos ⟨rfl, rfl⟩]; rfl, fun j hj => absurd hj (Nat.not_lt_zero j)⟩
    rw [← hT0] at m2
    obtain ⟨v, e2, m3, f3⟩ := m_refuses R6 m2
    refine ⟨-6, u, v, e1, ?_, _, Gd_sc g, CV_m (S := [(38, none), (39, none)]) (by rfl) f3 (CV_m (S := [(38, some 13)]) (by rfl) f2 c1), m3⟩
    rw [if_pos hs]; exact e2
  · have nz : ¬ nI A.2.2.2.1.1 = 0 := by rw [show (0 : Int32) = nI 0 from rfl, n_eq (by omega) (by omega)]; exact h0
    rw [if_neg nz]
    obtain ⟨u, e1, c1, gx, le1, le2, x18, x2, f1⟩ := row7 hT (fun j hj => gT.b hj) A.2.2.2.1.1 FU 0 A.1 0 st (by omega) (by unfold FU; omega) (by omega) gR c.2.1.1 ct.2
    generalize hr : rowS A.2.2.2.1.2 A.2.2.2.1.1 0 A.1 0 = R at *
    have e1' : fX7_row_b23 FU (nI A.2.2.2.1.1) 0 0 st = _ := e1
    rw [e1']
    have fu : FR S_row st (pI (pI u 7 2 0) 0 14 (nI (A.2.2.2.1.1 - R.2))) := FR.trans (FR.mono (by rfl) f1) (FR.pI (by rfl) (FR.pI (by rfl) FR.rf))
    have fl : FR [(0, none), (7, some 2)] u (pI (pI u 7 2 0) 0 14 (nI (A.2.2.2.1.1 - R.2))) := FR.pI (by rfl) (FR.pI (by rfl) FR.rf)
    generalize hu0 : pI (pI u 7 2 0) 0 14 (nI (A.2.2.2.1.1 - R.2)) = u0 at *
    have w := WT_low (by rfl) fu c.1
    obtain ⟨u2, q1, q2, q3, q4⟩ := ring_changed (A := A) w (CVo_fr (by rfl) (by rfl) fu c.2.2.2.2.2.2.2)
    have cs0 : CS u0 (va_up A.2.2.1 3 (nI (A.2.2.2.1.1 - R.2))) := by
      obtain ⟨s0, s1, s2, s3, s4⟩ := CS_fr (by rfl) f1 c.2.2.2.1
      subst hu0
      refine ⟨?_, ?_, ?_, ?_, fun j hj => ?_⟩
      · simp [sI_pI, va_up, s0]
      · simp [sI_pI, va_up, s1]
      · simp [sI_pI, va_up, s2]
      · simp [sI_pI, va_up]
      · rw [sI_pI, if_neg (by omega), sI_pI, if_neg (by omega), s4 j hj]; simp [va_up]; omega
    have ct0 : CT u0 (0, A.2.2.2.1.2) := by
      subst hu0
      refine ⟨?_, fun j hj => absurd hj (Nat.not_lt_zero j)⟩
      simp [sI_pI]; rfl
    have c2 : CV u2 (R.1, A.2.1, va_up A.2.2.1 3 (nI (A.2.2.2.1.1 - R.2)), (0, A.2.2.2.1.2), psE, A.2.2.2.2.2) :=
      ⟨WT_low (by rfl) q2 w, ⟨CRg_fr (by rfl) q2 (CRg_fr (by rfl) fl c1), Lws_fr (by rfl) q2 (Lws_x x18 x2 (Lws_fr (by rfl) fu c.2.1.2))⟩, CI_fr (by rfl) q2 (CI_fr (by rfl) fu c.2.2.1), CS_fr (by rfl) q2 cs0, CT_fr (by rfl) q2 ct0, q4, CD_fr (by rfl) q2 (CD_fr (by rfl) fu c.2.2.2.2.2.2.1), q3 _⟩
    obtain ⟨u3, e3, c3, f3⟩ := c_settled (r := nI R.2) c2
    have m3 : MV u3 A := MV_c (S := [(0, none), (35, none)]) (by rfl) f3 (MV_c (S := S_rc) (by rfl) q2 (MV_c (S := S_row) (by rfl) fu m))
    have mt := m3.2.2.2.2.1
    have fv : FR [(38, some 13), (38, some 6)] u3 (pI (pI u3 38 13 0) 38 6 0) := FR.pI (by rfl) (FR.pI (by rfl) FR.rf)
    obtain ⟨v, v1, v2, v3, v4⟩ := row8 hT (fun j hj => gT.b hj) A.2.2.2.1.1 FU 0 A.1 0 0 (pI (pI u3 38 13 0) 38 6 0) (by omega) (by unfold FU; omega) (by omega) gR (MRg_eq (fun j => by rw [sI_pI, if_neg (by omega), sI_pI, if_neg (by omega)]) m3.2.1) (fun j hj => by rw [sI_pI, if_neg (by omega), sI_pI, if_neg (by omega)]; exact mt.2 j hj) (by rw [sI_pI, if_pos ⟨rfl, rfl⟩]; rfl)
    rw [hr] at v1 v2 v3
    have ff : FR [(38, some 13), (38, some 6), (40, none)] u3 v := FR.trans (FR.mono (by rfl) fv) (FR.mono (by rfl) v4)
    have m4 : MV v (R.1, A.2.1, va_up A.2.2.1 3 (nI (A.2.2.2.1.1 - R.2)), (0, A.2.2.2.1.2), A.2.2.2.2) := by
      obtain ⟨m0, m1, m2, m3, m4, m5, m6⟩ := m3
      have h38 : ∀ j, j ≠ 13 → j ≠ 6 → sI v 38 j = sI u3 38 j := fun j hj hj2 => ff.i (by simp [inS, inA]; omega)
      have h39 := fun j => ff.i (a := 39) (j := j) (hasA_in (by rfl))
      have h41 := fun j => ff.i (a := 41) (j := j) (hasA_in (by rfl))
      have h42 := fun j => ff.i (a := 42) (j := j) (hasA_in (by rfl))
      have h52 := fun j => ff.i (a := 52) (j := j) (hasA_in (by rfl))
      have h64 := fun j => ff.i (a := 64) (j := j) (hasA_in (by rfl))
      refine ⟨fun j => (ff.i (hasA_in (by rfl))).trans (m0 j), v2, fun k hk => ?_, ?_, ?_, ?_, ?_⟩
      · rcases m2 k hk with ⟨e1, e2⟩ | ⟨y, e1, e2, e3⟩
        · exact Or.inl ⟨e1, (h42 k).trans e2⟩
        · exact Or.inr ⟨y, e1, (h42 k).trans e2, MRg_eq h41 e3⟩
      · unfold MS at m3 ⊢; rw [h38 0 (by omega) (by omega), h38 14 (by omega) (by omega), h38 46 (by omega) (by omega), v3]; simp only [h39]; simpa [va_up] using ⟨m3.1, m3.2.1, m3.2.2.1, m3.2.2.2.2⟩
      · refine ⟨?_, fun j hj => absurd hj (Nat.not_lt_zero j)⟩
        rw [v4.i (by rfl), sI_pI, if_neg (by omega), sI_pI, if_pos ⟨rfl, rfl⟩]; rfl
      · unfold MP at m5 ⊢; rw [h38 32 (by omega) (by omega)]; simp only [h52]; exact m5
      · unfold MD at m6 ⊢; rw [h38 55 (by omega) (by omega), h38 56 (by omega) (by omega)]; simp only [h64]; exact m6
    obtain ⟨v', w1, w2, w3⟩ := m_settled (r := nI R.2) m4
    have c5 := CV_m (S := [(38, none)]) (by rfl) w3 (CV_m (S := [(38, some 13), (38, some 6), (40, none)]) (by rfl) ff c3)
    refine ⟨nI R.2, u3, v', by rw [q1, Option.bind_some]; exact e3, ?_, (R.1, A.2.1, va_up (va_up A.2.2.1 3 (nI (A.2.2.2.1.1 - R.2))) 0 0, (0, A.2.2.2.1.2), psE, A.2.2.2.2.2), ⟨gx, g.2.1, ⟨Nat.zero_le _, fun j hj => absurd hj (Nat.not_lt_zero j)⟩, GdP_E, g.2.2.2.2⟩, c5, w2⟩
    rw [mt.1, if_neg nz]
    exact v1.trans w1
