/-! an image is made -/
theorem Lws_ob {st u : St} {t t' : Nat} {x : Rg} (w : WT st) (o : Obj st 4 t) (hn : sn st ≤ sn u) (hs : ∀ q, Obj st 5 q → scr u q = scr st q) (hr : ∀ i, i < x.1 18 → sR u (t' + 3) i = sR st (t + 3) i) (m : Lws st t x) : Lws u t' x := by
  intro i hi
  obtain ⟨q, L, h1, h5, h2, h3, h4⟩ := m i hi
  refine ⟨q, L, h1, Nat.le_trans h5 hn, (hr i hi).trans h2, h3, ?_⟩
  rw [hs q ((w.ring o).2.2.2.2 i q h2)]; exact h4
theorem CVo_ob {st u : St} {y : Nat → Nat} (w : WT st) (hn : sn st ≤ sn u) (hs : ∀ q, Obj st 5 q → scr u q = scr st q) (hr : sR u 19 7 = sR st 19 7) (h0 : ∀ j, sI u 19 j = sI st 19 j) (h1 : ∀ j, sI u 23 j = sI st 23 j) (h2 : ∀ j, sI u 24 j = sI st 24 j) (m : CVo st y) : CVo u y := by
  obtain ⟨lw, vr, vm, sp, m1, m2, m3⟩ := m
  refine ⟨lw, vr, vm, sp, ?_, ?_, VC_eq (h0 6) h1 h2 m3⟩
  · rcases m1 with ⟨e1, e2⟩ | ⟨L, q, e1, e2, e3, e5, e4⟩
    · exact Or.inl ⟨e1, hr.trans e2⟩
    · refine Or.inr ⟨L, q, e1, hr.trans e2, e3, Nat.le_trans e5 hn, ?_⟩
      rw [hs q (w.2.2.2.2.2.2.2 q e2)]; exact e4
  · unfold VT at m2 ⊢
    rw [h0 8, h0 9]; exact m2
/-- all but one image -/
def CIx (st : St) (im : Im) (k t : Nat) : Prop := ∀ i, i < 2 → i ≠ k → (im i = none ∧ sR st 6 i = none) ∨ ∃ y t', im i = some y ∧ sR st 6 i = some t' ∧ t' ≠ t ∧ 65 ≤ t' ∧ t' + 5 ≤ sn st ∧ CRg st t' y ∧ Lws st t' y
def imU (im : Im) (k : Nat) (x : Rg) : Im := fun i => if i = k then some x else im i
theorem img_core {s : St} {A : All} {k t : Nat} (g : Gd A) (w : WT s) (o : Obj s 4 t) (h65 : 65 ≤ t) (hsn : t + 5 ≤ sn s) (hr6 : sR s 6 k = some t) (hk : k < 2) (c1 : CRg s 1 A.1) (c2 : Lws s 1 A.1) (c3 : CIx s A.2.1 k t) (c4 : CS s A.2.2.1) (c5 : CT s A.2.2.2.1) (c6 : CP s 15 A.2.2.2.2.1) (c7 : CD s A.2.2.2.2.2) (c8 : CVo s (sx A.1)) : ∃ u, fX4_becomes t 1 s = some u ∧ CV u (A.1, imU A.2.1 k A.1, A.2.2) ∧ ∀ a j, a < t → sI u a j = sI s a j := by
  have g18 := g.1.2.2.2.2.2.2.2.1
  obtain ⟨u, b1, b2, b3, b4, b5, b6, b7, b8⟩ := becomes_ok w o (ring_ob w) (by omega : t ≠ 1)
  have hs : ∀ q, Obj s 5 q → scr u q = scr s q := by
    intro q oq
    have hd := ring_scr w o oq
    funext i j
    unfold scr
    by_cases c : i < 6
    · rw [if_pos c, if_pos c, b7 (q + i) j (by omega)]
    · rw [if_neg c, if_neg c, b4]
  have hn : sn s ≤ sn u := by omega
  refine ⟨u, b1, ⟨b2, ⟨CRg_eq (fun a j h1 h2 => b7 a j (by omega)) c1, Lws_ob w (ring_ob w) hn hs (fun i _ => b5 _ i (by omega)) c2⟩, ⟨fun i hi => ?_, fun t' e => ?_⟩, CS_eq (fun j => b7 _ j (by omega)) (fun j => b7 _ j (by omega)) c4, CT_eq (b7 _ _ (by omega)) (fun j => b7 _ j (by omega)) c5, CP_eq (b7 _ _ (by omega)) (fun j => b7 _ j (by omega)) c6, CD_eq (fun j _ => b7 _ j (by omega)) (fun j => b7 _ j (by omega)) c7, CVo_ob w hn hs (b5 _ _ (by omega)) (fun j => b7 _ j (by omega)) (fun j => b7 _ j (by omega)) (fun j => b7 _ j (by omega)) c8⟩, fun a j h => b7 a j (Or.inl h)⟩
  · by_cases c : i = k
    · subst c
      exact Or.inr ⟨A.1, t, if_pos rfl, (b5 6 i (by omega)).trans hr6, h65, by omega, b8 _ c1, Lws_ob w (ring_ob w) hn hs (fun j hj => b6 j (by omega)) c2⟩
    · have e : imU A.2.1 k A.1 i = A.2.1 i := if_neg c
      rcases c3 i hi c with ⟨q1, q2⟩ | ⟨y, t', q1, q2, q3, q4, q5, q6, q7⟩
      · exact Or.inl ⟨e.trans q1, (b5 6 i (by omega)).trans q2⟩
      · have ot := img_ob w q2
        have hd := ring_ring w o ot (Ne.symm q3)
        exact Or.inr ⟨y, t', e.trans q1, (b5 6 i (by omega)).trans q2, q4, by omega, CRg_eq (fun a j h1 h2 => b7 a j (by omega)) q6, Lws_ob w ot hn hs (fun j _ => b5 _ j (by omega)) q7⟩
  · rw [b5 6 0 (by omega), b5 6 1 (by omega)] at e
    have : ∀ i, i < 2 → i ≠ k → sR s 6 i = some t → False := by
      intro i hi hne he
      rcases c3 i hi hne with ⟨q1, q2⟩ | ⟨y, t', q1, q2, q3, q4, q5, q6, q7⟩
      · rw [q2] at he; cases he
      · rw [q2] at he; exact q3 (Option.some.inj he)
    by_cases c : k = 0
    · subst c
      have e0 : t' = t := Option.some.inj (e.1.symm.trans hr6)
      subst e0
      exact this 1 (by omega) (by omega) e.2
    · have hk1 : k = 1 := by omega
      subst hk1
      have e0 : t' = t := Option.some.inj (e.2.symm.trans hr6)
      subst e0
      exact this 0 (by omega) (by omega) e.1
theorem new_sI {st : St} {a j : Nat} (h : a < sn st) : sI (iX4_init (sn st) (alc st 4 0)) a j = sI st a j := by
  obtain ⟨h0, h1, h2, h3, h4, h5, h6⟩ := a_ne h
  simp [iX4_init, sI_alc, sI_pI, sI_pR, sn_alc, sn_pI, sn_pR, h0, h1, h2, h3, h4, h5, h6]
theorem new_sN {st : St} {a : Nat} (h : a < sn st) : sN (iX4_init (sn st) (alc st 4 0)) a = sN st a := by
  obtain ⟨h0, h1, h2, h3, h4, h5, h6⟩ := a_ne h
  simp [iX4_init, sN_alc, sN_pI, sN_pR, sn_alc, sn_pI, sn_pR, h0, h1, h2, h3, h4, h5, h6]
theorem new_sR {st : St} {a j : Nat} (h : a < sn st) : sR (iX4_init (sn st) (alc st 4 0)) a j = sR st a j := by
  obtain ⟨h0, h1, h2, h3, h4, h5, h6⟩ := a_ne h
  simp [iX4_init, sR_alc, sR_pI, sR_pR, sn_alc, sn_pI, sn_pR, h0, h1, h2, h3, h4, h5, h6]
theorem new_ob {st : St} : Obj (iX4_init (sn st) (alc st 4 0)) 4 (sn st) := by
  refine ⟨?_, ?_⟩
  · show sn st < sn st + 5; omega
  · show sK (iX4_init (sn st) (alc st 4 0)) (sn st) = 4
    simp [iX4_init, sK_alc, sK_pI, sK_pR, sn_alc, sn_pI, sn_pR, Nat.add_assoc]
theorem c_image {st : St} {A : All} {k : Nat} (g : Gd A) (c : CV st A) (hk : k < 2) : ∃ u, fX7_image (nI k) st = (fX7_settled 0 u) ∧ CV u (A.1, imU A.2.1 k A.1, A.2.2) ∧ ∀ a j, a < 65 → sI u a j = sI st a j := by
  have w := c.1
  have w65 : 65 ≤ sn st := w.1
  unfold fX7_image
  have e2 : (nI k < (2 : Int32)) := by rw [show (2 : Int32) = nI 2 from rfl, n_lt (by omega) (by omega)]; exact hk
  simp only [n_neg (show k < 2147483648 by omega), e2, if_false, if_true, n_ixb (show k < 2147483648 by omega), hk, decide_true, chk_t, n_toNat (show k < 2147483648 by omega)]
  rcases c.2.2.1.1 k hk with ⟨q1, q2⟩ | ⟨y, t, q1, q2, q3, q4, q5, q6⟩
  · simp only [q2, optE, sR_pR, and_self, if_true]
    have w1 : WT (pR (iX4_init (sn st) (alc st 4 0)) 6 k (some (sn st))) := wpRimg new_ob (wt_rng w)
    have hsn : sn (pR (iX4_init (sn st) (alc st 4 0)) 6 k (some (sn st))) = sn st + 5 := rfl
    have hI : ∀ a j, a < sn st → sI (pR (iX4_init (sn st) (alc st 4 0)) 6 k (some (sn st))) a j = sI st a j := fun a j h => by rw [sI_pR]; exact new_sI h
    have hR : ∀ a j, a < sn st → ¬ (a = 6 ∧ j = k) → sR (pR (iX4_init (sn st) (alc st 4 0)) 6 k (some (sn st))) a j = sR st a j := fun a j h h2 => by rw [sR_pR, if_neg h2]; exact new_sR h
    have hN : ∀ a, a < sn st → sN (pR (iX4_init (sn st) (alc st 4 0)) 6 k (some (sn st))) a = sN st a := fun a h => by rw [sN_pR]; exact new_sN h
    have hr6 : sR (pR (iX4_init (sn st) (alc st 4 0)) 6 k (some (sn st))) 6 k = some (sn st) := by rw [sR_pR, if_pos ⟨rfl, rfl⟩]
    have ho : Obj (pR (iX4_init (sn st) (alc st 4 0)) 6 k (some (sn st))) 4 (sn st) := new_ob
    generalize hs1 : pR (iX4_init (sn st) (alc st 4 0)) 6 k (some (sn st)) = s at *
    have hi : Hi st s := ⟨by omega, fun a h1 h2 => ⟨fun j => hI a j h2, hN a h2, fun j => hR a j h2 (by omega)⟩⟩
    have cix : CIx s A.2.1 k (sn st) := by
      intro i hi2 hne
      rcases c.2.2.1.1 i hi2 with ⟨p1, p2⟩ | ⟨y, t', p1, p2, p3, p4, p5, p6⟩
      · exact Or.inl ⟨p1, (hR 6 i (by omega) (by omega)).trans p2⟩
      · exact Or.inr ⟨y, t', p1, (hR 6 i (by omega) (by omega)).trans p2, by omega, p3, by omega, CRg_eq (fun a j h1 h2 => hI a j (by omega)) p5, Lws_eq hi (fun j => hR _ j (by omega) (by omega)) p6⟩
    obtain ⟨u, b1, b2, b3⟩ := img_core g w1 ho w65 (by omega) hr6 hk (CRg_eq (fun a j h1 h2 => hI a j (by omega)) c.2.1.1) (Lws_eq hi (fun j => hR _ j (by omega) (by omega)) c.2.1.2) cix (CS_eq (fun j => hI _ j (by omega)) (fun j => hI _ j (by omega)) c.2.2.2.1) (CT_eq (hI _ _ (by omega)) (fun j => hI _ j (by omega)) c.2.2.2.2.1) (CP_eq (hI _ _ (by omega)) (fun j => hI _ j (by omega)) c.2.2.2.2.2.1) (CD_eq (fun j _ => hI _ j (by omega)) (fun j => hI _ j (by omega)) c.2.2.2.2.2.2.1) (CVo_eq hi (hR _ _ (by omega) (by omega)) (fun j _ => hI _ j (by omega)) (fun j => hI _ j (by omega)) (fun j => hI _ j (by omega)) c.2.2.2.2.2.2.2)
    exact ⟨u, by rw [b1]; rfl, b2, fun a j h => (b3 a j (by omega)).trans (hI a j (by omega))⟩
  · simp only [q2, optE]
    have cix : CIx st A.2.1 k t := by
      intro i hi2 hne
      rcases c.2.2.1.1 i hi2 with ⟨p1, p2⟩ | ⟨y, t', p1, p2, p3, p4, p5, p6⟩
      · exact Or.inl ⟨p1, p2⟩
      · refine Or.inr ⟨y, t', p1, p2, fun e => ?_, p3, p4, p5, p6⟩
        subst e
        have : i = 0 ∧ k = 1 ∨ i = 1 ∧ k = 0 := by omega
        rcases this with ⟨rfl, rfl⟩ | ⟨rfl, rfl⟩
        · exact c.2.2.1.2 _ ⟨p2, q2⟩
        · exact c.2.2.1.2 _ ⟨q2, p2⟩
    obtain ⟨u, b1, b2, b3⟩ := img_core g w (img_ob w q2) q3 q4 q2 hk c.2.1.1 c.2.1.2 cix c.2.2.2.1 c.2.2.2.2.1 c.2.2.2.2.2.1 c.2.2.2.2.2.2.1 c.2.2.2.2.2.2.2
    exact ⟨u, by rw [b1]; rfl, b2, fun a j h => b3 a j (by omega)⟩
theorem st30 : Step30 Inv := by
  rintro a st ⟨A, g, c, m⟩
  rcases rng a 0 1 0 1 rfl rfl (by omega) (by omega) with ⟨k, h0, h1, rfl, l1, l2, l3, l4⟩ | ⟨l1, l2⟩
  · have hk : k < 2 := by omega
    obtain ⟨u, e1, c1, hI⟩ := c_image g c hk
    obtain ⟨u3, e3, c3, f3⟩ := c_settled (r := 0) c1
    have m3 : MV u3 A := MV_c (S := [(0, none), (35, none)]) (by rfl) f3 (MV_raw (fun a j h1 h2 => hI a j h2) m)
    obtain ⟨v, v1, v2, v3⟩ := image8 hk 5627 FU 0 u3 (by omega) (by unfold FU; omega)
    have ff : FR [(41, none), (42, none)] u3 (pI v 42 k 1) := FR.trans (FR.mono (by rfl) v3) (FR.pI (by rfl) FR.rf)
    have g18 := g.1.2.2.2.2.2.2.2.1
    have mv : MV (pI v 42 k 1) (A.1, imU A.2.1 k A.1, A.2.2) := by
      obtain ⟨m0, m1, m2, m3, m4, m5, m6⟩ := m3
      have h38 := fun j => ff.i (a := 38) (j := j) (hasA_in (by rfl))
      have h39 := fun j => ff.i (a := 39) (j := j) (hasA_in (by rfl))
      have h45 := fun j => ff.i (a := 45) (j := j) (hasA_in (by rfl))
      have h52 := fun j => ff.i (a := 52) (j := j) (hasA_in (by rfl))
      have h64 := fun j => ff.i (a := 64) (j := j) (hasA_in (by rfl))
      refine ⟨fun j => (ff.i (hasA_in (by rfl))).trans (m0 j), MRg_eq (fun j => ff.i (hasA_in (by rfl))) m1, fun i hi => ?_, ?_, ?_, ?_, ?_⟩
      · by_cases ci : i = k
        · subst ci
          refine Or.inr ⟨A.1, if_pos rfl, by rw [sI_pI, if_pos ⟨rfl, rfl⟩], MRg_cp (st := u3) (a := 40) (o := 0) g18 (fun j hj => ?_) m1⟩
          rw [sI_pI, if_neg (by omega), v2, if_pos (by omega), show 5627 * i + j - 5627 * i = 0 + j by omega]
        · have e : imU A.2.1 k A.1 i = A.2.1 i := if_neg ci
          rcases m2 i hi with ⟨q1, q2⟩ | ⟨y, q1, q2, q3⟩
          · exact Or.inl ⟨e.trans q1, by rw [sI_pI, if_neg (fun x => ci x.2), v3.i (hasA_in (by rfl))]; exact q2⟩
          · refine Or.inr ⟨y, e.trans q1, by rw [sI_pI, if_neg (fun x => ci x.2), v3.i (hasA_in (by rfl))]; exact q2, MRg_cp (st := u3) (a := 41) (o := 5627 * i) (g.2.1 i y q1).2.2.2.2.2.2.2.1 (fun j hj => ?_) q3⟩
            rw [sI_pI, if_neg (by omega), v2, if_neg (by omega)]
      · unfold MS at m3 ⊢; simp only [h38, h39]; exact m3
      · unfold MT at m4 ⊢; simp only [h38, h45]; exact m4
      · unfold MP at m5 ⊢; simp only [h38, h52]; exact m5
      · unfold MD at m6 ⊢; simp only [h38, h64]; exact m6
    obtain ⟨v', w1, w2, w3⟩ := m_good (r := 0) mv
    refine ⟨0, u3, v', e1.trans e3, ?_, _, Gd_sc (A := (A.1, imU A.2.1 k A.1, A.2.2)) ⟨g.1, fun i y hy => ?_, g.2.2⟩, CV_m (S := [(38, none), (39, none)]) (by rfl) w3 (CV_m (S := [(41, none), (42, none)]) (by rfl) ff c3), w2⟩
    · unfold fX8_image
      rw [l1, if_neg (by decide)]
      exact v1.trans w1
    · by_cases ci : i = k
      · have e : imU A.2.1 k A.1 i = some A.1 := if_pos ci
        rw [show (A.1, imU A.2.1 k A.1, A.2.2).2.1 i = imU A.2.1 k A.1 i from rfl, e] at hy
        rw [← Option.some.inj hy]; exact g.1
      · have e : imU A.2.1 k A.1 i = A.2.1 i := if_neg ci
        rw [show (A.1, imU A.2.1 k A.1, A.2.2).2.1 i = imU A.2.1 k A.1 i from rfl, e] at hy
        exact g.2.1 i y hy
  · unfold fX7_image fX8_image fX7_image_b9
    have e2 : ∀ z : Option (Int32 × St), (if a < 0 then fX7_refused (-1) st else if a < 2 then z else fX7_refused (-1) st) = fX7_refused (-1) st := by
      intro z
      rcases l2 with l2 | ⟨l2, l3, l4⟩
      · exact if_pos l2
      · rw [if_neg l2, if_neg]
        rw [Int32.lt_iff_toInt_lt] at l4 ⊢
        have h3 : (1 : Int32).toInt = 1 := by decide
        have h4 : (2 : Int32).toInt = 2 := by decide
        omega
    simp only [e2, l1, if_true]
    exact both_ref R1 g c m
