/-! bytes -/
theorem byt8 : ∀ n, n < 256 → (n < 128 ∧ vp_nar .byte (Int8.ofNat n).toInt32 = nI n ∧ nI n &&& 255 = nI n) ∨ (128 ≤ n ∧ vp_nar .byte (Int8.ofNat n).toInt32 < 0 ∧ vp_nar .byte (Int8.ofNat n).toInt32 &&& 255 = nI n) := by decide +kernel
theorem byt_n (z : Int32) : ∃ n, n < 256 ∧ i2b z = (Int8.ofNat n).toInt32 := by
  refine ⟨z.toInt8.toUInt8.toNat, UInt8.toNat_lt _, ?_⟩
  unfold i2b
  congr 1
  rw [← Int8.toBitVec_inj]
  show z.toInt8.toBitVec = BitVec.ofNat 8 z.toInt8.toBitVec.toNat
  rw [BitVec.ofNat_toNat, BitVec.setWidth_eq]
/-- a byte: from 0 to 127 as it is, or below 0 -/
def Byt (v : Int32) : Prop := (∃ k, k < 128 ∧ v = nI k ∧ v &&& 255 = nI k) ∨ ∃ k, 128 ≤ k ∧ k < 256 ∧ v < 0 ∧ v &&& 255 = nI k
theorem byt (z : Int32) : Byt (vp_nar .byte (i2b z)) := by
  obtain ⟨n, h, e⟩ := byt_n z
  rw [e]
  rcases byt8 n h with ⟨h1, h2, h3⟩ | ⟨h1, h2, h3⟩
  · exact Or.inl ⟨n, h1, h2, by rw [h2]; exact h3⟩
  · exact Or.inr ⟨n, h1, h, h2, h3⟩
theorem GdT.b {tp : Tp} (g : GdT tp) {j : Nat} (h : j < tp.1) : Byt (tp.2 j) := by
  obtain ⟨z, e⟩ := g.2 j h
  rw [e]; exact byt z
/-! the tape's end -/
theorem st7 : Step7 Inv := by
  rintro a st ⟨A, g, c, m⟩
  have gT := g.2.2.1
  have ct := c.2.2.2.2.1
  have mt := m.2.2.2.2.1
  have hT := gT.1
  unfold fX7_end fX8_end
  rcases rng a 0 A.2.2.2.1.1 0 (nI A.2.2.2.1.1) rfl rfl (by omega) (by omega) with ⟨q, h0, h9, rfl, l1, l2, l3, l4⟩ | ⟨l1, l2⟩
  · have f1 : FR [(7, some 2)] st (pI st 7 2 (nI q)) := FR.pI (by rfl) FR.rf
    have f2 : FR [(38, some 13)] (pI st 7 2 (nI q)) (pI (pI st 7 2 (nI q)) 38 13 (nI q)) := FR.pI (by rfl) FR.rf
    have m1 := MV_c (S := [(7, some 2)]) (by rfl) f1 m
    have c1 : CV (pI st 7 2 (nI q)) (A.1, A.2.1, A.2.2.1, (q, A.2.2.2.1.2), A.2.2.2.2) := ⟨WT_low (by rfl) f1 c.1, ⟨CRg_fr (by rfl) f1 c.2.1.1, Lws_fr (by rfl) f1 c.2.1.2⟩, CI_fr (by rfl) f1 c.2.2.1, CS_fr (by rfl) f1 c.2.2.2.1, ⟨by rw [sI_pI, if_pos ⟨rfl, rfl⟩], fun j hj => by rw [sI_pI, if_neg (by omega)]; exact ct.2 j (Nat.lt_of_lt_of_le hj h9)⟩, CP_fr (by rfl) f1 c.2.2.2.2.2.1, CD_fr (by rfl) f1 c.2.2.2.2.2.2.1, CVo_fr (by rfl) (by rfl) f1 c.2.2.2.2.2.2.2⟩
    obtain ⟨m0, m1, m2, m3, m4, m5, m6⟩ := m1
    refine ⟨nI q, _, _, by rw [ct.1, if_neg l2, if_pos l3], ?_, (A.1, A.2.1, A.2.2.1, (q, A.2.2.2.1.2), A.2.2.2.2), ⟨g.1, g.2.1, ⟨by show q ≤ 400; omega, fun j hj => gT.2 j (Nat.lt_of_lt_of_le hj h9)⟩, g.2.2.2⟩, CV_m (S := [(38, some 13)]) (by rfl) f2 c1, ⟨m0, MRg_eq (fun j => f2.i (by rfl)) m1, fun k hk => ?_, ?_, ?_, ?_, ?_⟩⟩
    · rw [m4.1, l1]; rfl
    · rcases m2 k hk with ⟨e1, e2⟩ | ⟨y, e1, e2, e3⟩
      · exact Or.inl ⟨e1, (f2.i (by rfl)).trans e2⟩
      · exact Or.inr ⟨y, e1, (f2.i (by rfl)).trans e2, MRg_eq (fun j => f2.i (hasA_in (by rfl))) e3⟩
    · unfold MS at m3 ⊢; simp only [sI_pI] at m3 ⊢; simpa using m3
    · exact ⟨by rw [sI_pI, if_pos ⟨rfl, rfl⟩], fun j hj => by rw [sI_pI, if_neg (by omega)]; exact m4.2 j (Nat.lt_of_lt_of_le hj h9)⟩
    · unfold MP at m5 ⊢; simp only [sI_pI] at m5 ⊢; simpa using m5
    · unfold MD at m6 ⊢; simp only [sI_pI] at m6 ⊢; simpa using m6
  · refine ⟨-1, st, st, by rw [ct.1]; exact or_rng l2, by rw [mt.1, l1]; rfl, A, g, c, m⟩
/-! a law in force -/
theorem law_rng (a : Int32) (n : Nat) (hn : n < 2147483647) : (∃ k, k ≤ n ∧ a = nI k - 1 ∧ fX8_lies a (-1) (nI n - 1) = 1 ∧ (a = -1 ∨ (if a < 0 then (1 : Int32) else if a < nI n then 0 else 1) = 0)) ∨ (fX8_lies a (-1) (nI n - 1) = 0 ∧ ¬ a = -1 ∧ (if a < 0 then (1 : Int32) else if a < nI n then 0 else 1) = 1) := by
  have e1 : (-1 : Int32).toInt = -1 := by decide
  have e0 : (0 : Int32).toInt = 0 := by decide
  have en : (nI n - 1).toInt = (n : Int) - 1 := by
    cases n with
    | zero => decide
    | succ m => rw [n_pred, n_toInt (by omega)]; omega
  have enn : (nI n).toInt = n := n_toInt (by omega)
  have hl : fX8_lies a (-1) (nI n - 1) = if -1 ≤ a.toInt ∧ a.toInt ≤ (n : Int) - 1 then 1 else 0 := by
    unfold fX8_lies
    simp only [Int32.lt_iff_toInt_lt, e1, en]
    by_cases c1 : a.toInt < -1
    · rw [if_pos c1, if_neg (by omega)]
    · by_cases c2 : (n : Int) - 1 < a.toInt
      · rw [if_neg c1, if_pos c2, if_neg (by omega)]
      · rw [if_neg c1, if_neg c2, if_pos (by omega)]
  have hc : (if a < 0 then (1 : Int32) else if a < nI n then 0 else 1) = if 0 ≤ a.toInt ∧ a.toInt < n then 0 else 1 := by
    simp only [Int32.lt_iff_toInt_lt, e0, enn]
    by_cases c1 : a.toInt < 0
    · rw [if_pos c1, if_neg (by omega)]
    · by_cases c2 : a.toInt < n
      · rw [if_neg c1, if_pos c2, if_pos (by omega)]
      · rw [if_neg c1, if_neg c2, if_neg (by omega)]
  rw [hl, hc]
  by_cases c : -1 ≤ a.toInt ∧ a.toInt ≤ (n : Int) - 1
  · refine Or.inl ⟨(a.toInt + 1).toNat, by omega, ?_, by rw [if_pos c], ?_⟩
    · rw [← Int32.toInt_inj]
      by_cases z : a.toInt = -1
      · rw [z]; decide
      · obtain ⟨k, hk⟩ : ∃ k : Nat, (a.toInt + 1).toNat = k + 1 := ⟨(a.toInt + 1).toNat - 1, by omega⟩
        rw [hk, n_pred, n_toInt (by omega)]; omega
    · by_cases z : a.toInt = -1
      · exact Or.inl (by rw [← Int32.toInt_inj, z]; decide)
      · exact Or.inr (by rw [if_pos (by omega)])
  · refine Or.inr ⟨by rw [if_neg c], fun e => by rw [e, e1] at c; omega, by rw [if_neg (by omega)]⟩
theorem Gd_f {x : Rg} {v : Nat} (g : GdR x) (h : v ≤ x.1 18) : GdR (upR x 19 v) := by
  obtain ⟨g1, g2, g3, g4, g5, g6, g7, g8, g9, g10, g11, g12⟩ := g
  refine ⟨by simpa [upR_1] using g1, by simpa [upR_1] using g2, by simpa [upR_1] using g3, by simpa [upR_1] using g4, by simpa [upR_1] using g5, by simpa [upR_1] using g6, by simpa [upR_1] using g7, by simpa [upR_1] using g8, by simpa [upR_1] using h, fun j hj => ?_, fun j hj => ?_, fun j hj => ?_⟩
  · rw [upR_1, if_neg (by omega)]; exact g10 j hj
  · rw [upR_1, if_neg (by omega)]; exact g11 j hj
  · rw [upR_1, if_neg (by omega)] at hj; rw [upR_1, if_neg (by omega)]; exact g12 j hj
theorem st14 : Step14 Inv := by
  rintro a st ⟨A, g, c, m⟩
  have gR := g.1
  have h18 := gR.2.2.2.2.2.2.2.1
  unfold fX7_force fX8_force fX7_force_b23 fX8_isLaw fX4_lacksLaw
  rcases law_rng a (A.1.1 18) (by omega) with ⟨k, hk, ea, l1, l2⟩ | ⟨l1, l2, l3⟩
  · have f1 : FR [(1, none)] st (pI st 1 8 a) := FR.pI (by rfl) FR.rf
    have c1 := CV_keep (S := [(1, none)]) (ps := A.2.2.2.2.1) (by rfl) f1 c (CRg_f ea c.2.1.1) (by rw [upR_1, if_neg (by omega)]) rfl (sx_up (by omega)) (CP_fr (by rfl) f1 c.2.2.2.2.2.1)
    obtain ⟨u3, e3, c3, f3⟩ := c_settled (r := nI (A.1.1 19) - 1) c1
    have m3 : MV u3 A := MV_c (S := [(0, none), (35, none)]) (by rfl) f3 (MV_c (S := [(1, none)]) (by rfl) f1 m)
    have f4 : FR [(40, none)] u3 (pI u3 40 19 a) := FR.pI (by rfl) FR.rf
    obtain ⟨v2, e5, m5, f5⟩ := m_good (r := nI (A.1.1 19) - 1) (MV_ring (S := [(40, none)]) (by rfl) f4 m3 (MRg_f ea m3.2.1))
    have c4 := CV_m (S := [(38, none), (39, none)]) (by rfl) f5 (CV_m (S := [(40, none)]) (by rfl) f4 c3)
    refine ⟨nI (A.1.1 19) - 1, u3, v2, ?_, ?_, (upR A.1 19 k, A.2.1, va_up A.2.2.1 0 0, A.2.2.2), ⟨Gd_f gR hk, g.2.1, g.2.2.1, ?_, g.2.2.2.2⟩, c4, m5⟩
    · rw [c.2.1.1.1.2.2.2.1, c.2.1.1.1.2.2.2.2]
      rcases l2 with l2 | l2
      · rw [if_pos l2]; exact e3
      · rw [l2]
        by_cases z : a = -1
        · rw [if_pos z]; exact e3
        · rw [if_neg z, if_pos rfl]; exact e3
    · rw [m3.2.1.k (by omega), m3.2.1.f, l1]; exact e5
    · refine ⟨g.2.2.2.1.1, fun j hj => ?_⟩
      rw [upR_1, if_neg (by omega)]; exact g.2.2.2.1.2 j hj
  · simp only [c.2.1.1.1.2.2.2.1, l3, l2, if_false, show ((1 : Int32) = 0) = False by decide]
    refine both_ref' (fc := fun st => fX7_refused (-2) st) (fm := _) R2 g c m rfl (fun s ms => ?_)
    rw [ms.2.1.k (by omega), l1]; rfl
/-! what draws led to -/
theorem st29 : Step29 Inv := by
  rintro a b st ⟨A, g, c, m⟩
  have gD := g.2.2.2.2
  have cd := c.2.2.2.2.2.2.1
  have md := m.2.2.2.2.2.2
  unfold fX7_drawn fX8_drawn
  rcases cd with ⟨e1, e2⟩ | ⟨d, e1, e2, e3, e4⟩ <;> rcases md with ⟨k1, k2⟩ | ⟨d', k1, k2, k3, k4⟩
  · rw [e2, k2]
    refine ⟨-1, ?_, ?_⟩
    · by_cases z : a < 0
      · rw [if_pos z]
      · rw [if_neg z, if_neg z]
    · have : fX8_lies a 0 (-1 - 1) = 0 := by
        unfold fX8_lies
        by_cases z : a < 0
        · rw [if_pos z]
        · rw [if_neg z, if_pos]
          rw [Int32.lt_iff_toInt_lt] at z ⊢
          have h1 : (-1 - 1 : Int32).toInt = -2 := by decide
          have h0 : (0 : Int32).toInt = 0 := by decide
          omega
      rw [this]; rfl
  · rw [e1] at k1; cases k1
  · rw [e1] at k1; cases k1
  · rw [e1] at k1
    have hd : d' = d := (Option.some.inj k1).symm
    subst hd
    have hdd := gD d' e1
    rw [e2, k2, e3, k3]
    rcases n_in a d' (by omega) with ⟨k, hk, rfl⟩ | h
    · rw [if_neg (by rw [n_neg (by omega)]; exact id), if_pos (by rw [n_lt (by omega) (by omega)]; exact hk), lies_in hk (by omega), n_ixb (by omega), decide_eq_true (show k < 6 by omega), chk_t, chk_t, n_toNat (by omega), e4 k (by omega), k4 k (by omega)]
      by_cases h0 : b = 0
      · subst h0; exact ⟨_, rfl, rfl⟩
      · by_cases h1 : b = 1
        · subst h1; exact ⟨_, rfl, rfl⟩
        · have : fX8_lies b 0 1 = 0 := by
            rcases rng b 0 1 0 1 rfl rfl (by omega) (by omega) with ⟨q, q0, q1, rfl, l1, _⟩ | ⟨l1, _⟩
            · have : q = 0 ∨ q = 1 := by omega
              rcases this with rfl | rfl
              · exact absurd rfl h0
              · exact absurd rfl h1
            · exact l1
          rw [this, if_neg h0, if_neg h1]; exact ⟨-1, rfl, rfl⟩
    · rw [lies_out h (by omega)]
      refine ⟨-1, ?_, rfl⟩
      rcases h with h | ⟨k, h1, h2, rfl⟩
      · rw [if_pos h]
      · rw [if_neg (by rw [n_neg (by omega)]; exact id), if_neg (by rw [n_lt (by omega) (by omega)]; omega)]
/-! counts -/
theorem cnt7_0 {st : St} : fX7_count st (nI 0) = some (sI st 1 4) := by
  unfold fX7_count fX7_count_b22 fX7_count_b47
  rw [if_pos (by decide), if_pos (by decide), if_pos (by decide)]
theorem cnt8_0 {st : St} : fX8_count st (nI 0) = some (sI st 40 16) := by
  unfold fX8_count
  rw [if_pos (by decide)]
theorem cnt7_1 {st : St} : fX7_count st (nI 1) = some (fJ6_bitCount_0f7a4 (sI st 1 5)) := by
  unfold fX7_count fX7_count_b22 fX7_count_b47
  rw [if_pos (by decide), if_pos (by decide), if_neg (by decide), if_pos (by decide)]
theorem cnt8_1 {st : St} : fX8_count st (nI 1) = fX8_ones (sI st 40 0) := by
  unfold fX8_count
  rw [if_neg (by decide), if_pos (by decide)]
  rfl
theorem cnt7_2 {st : St} : fX7_count st (nI 2) = some (sI st 1 6) := by
  unfold fX7_count fX7_count_b22 fX7_count_b47
  rw [if_pos (by decide), if_pos (by decide), if_neg (by decide), if_neg (by decide), if_pos (by decide)]
theorem cnt8_2 {st : St} : fX8_count st (nI 2) = some (sI st 40 17) := by
  unfold fX8_count
  rw [if_neg (by decide), if_neg (by decide), if_pos (by decide)]
theorem cnt7_3 {st : St} : fX7_count st (nI 3) = some (sI st 1 7) := by
  unfold fX7_count fX7_count_b22 fX7_count_b47
  rw [if_pos (by decide), if_pos (by decide), if_neg (by decide), if_neg (by decide), if_neg (by decide), if_pos (by decide)]
theorem cnt8_3 {st : St} : fX8_count st (nI 3) = some (sI st 40 18) := by
  unfold fX8_count
  rw [if_neg (by decide), if_neg (by decide), if_neg (by decide), if_pos (by decide)]
theorem cnt7_4 {st : St} : fX7_count st (nI 4) = some (sI st 15 1) := by
  unfold fX7_count fX7_count_b22 fX7_count_b47
  rw [if_pos (by decide), if_pos (by decide), if_neg (by decide), if_neg (by decide), if_neg (by decide), if_neg (by decide), if_pos (by decide)]
theorem cnt8_4 {st : St} : fX8_count st (nI 4) = some (sI st 38 32) := by
  unfold fX8_count
  rw [if_neg (by decide), if_neg (by decide), if_neg (by decide), if_neg (by decide), if_pos (by decide)]
theorem cnt7_5 {st : St} : fX7_count st (nI 5) = some (sI st 7 2) := by
  unfold fX7_count fX7_count_b22 fX7_count_b47
  rw [if_pos (by decide), if_pos (by decide), if_neg (by decide), if_neg (by decide), if_neg (by decide), if_neg (by decide), if_neg (by decide), if_pos (by decide)]
theorem cnt8_5 {st : St} : fX8_count st (nI 5) = some (sI st 38 13) := by
  unfold fX8_count
  rw [if_neg (by decide), if_neg (by decide), if_neg (by decide), if_neg (by decide), if_neg (by decide), if_pos (by decide)]
theorem cnt7_6 {st : St} : fX7_count st (nI 6) = some (sI st 35 0) := by
  unfold fX7_count fX7_count_b22 fX7_count_b47
  rw [if_neg (by decide), if_neg (by decide)]
  rw [show ixb (nI 6 - 6) 5 = true by decide, chk_t, show (nI 6 - 6).toNatClampNeg = 0 by decide]
theorem cnt8_6 {st : St} : fX8_count st (nI 6) = some (sI st 39 1) := by
  unfold fX8_count
  rw [if_neg (by decide), if_neg (by decide), if_neg (by decide), if_neg (by decide), if_neg (by decide), if_neg (by decide), if_pos (by decide)]
  rw [show ixb (nI 6 - 5) 7 = true by decide, chk_t, show (nI 6 - 5).toNatClampNeg = 1 by decide]
theorem cnt7_7 {st : St} : fX7_count st (nI 7) = some (sI st 35 1) := by
  unfold fX7_count fX7_count_b22 fX7_count_b47
  rw [if_neg (by decide), if_neg (by decide)]
  rw [show ixb (nI 7 - 6) 5 = true by decide, chk_t, show (nI 7 - 6).toNatClampNeg = 1 by decide]
theorem cnt8_7 {st : St} : fX8_count st (nI 7) = some (sI st 39 2) := by
  unfold fX8_count
  rw [if_neg (by decide), if_neg (by decide), if_neg (by decide), if_neg (by decide), if_neg (by decide), if_neg (by decide), if_neg (by decide), if_pos (by decide)]
  rw [show ixb (nI 7 - 5) 7 = true by decide, chk_t, show (nI 7 - 5).toNatClampNeg = 2 by decide]
theorem cnt7_8 {st : St} : fX7_count st (nI 8) = some (sI st 35 2) := by
  unfold fX7_count fX7_count_b22 fX7_count_b47
  rw [if_neg (by decide), if_neg (by decide)]
  rw [show ixb (nI 8 - 6) 5 = true by decide, chk_t, show (nI 8 - 6).toNatClampNeg = 2 by decide]
theorem cnt8_8 {st : St} : fX8_count st (nI 8) = some (sI st 39 3) := by
  unfold fX8_count
  rw [if_neg (by decide), if_neg (by decide), if_neg (by decide), if_neg (by decide), if_neg (by decide), if_neg (by decide), if_neg (by decide), if_neg (by decide), if_pos (by decide)]
  rw [show ixb (nI 8 - 5) 7 = true by decide, chk_t, show (nI 8 - 5).toNatClampNeg = 3 by decide]
theorem cnt7_9 {st : St} : fX7_count st (nI 9) = some (sI st 35 3) := by
  unfold fX7_count fX7_count_b22 fX7_count_b47
  rw [if_neg (by decide), if_neg (by decide)]
  rw [show ixb (nI 9 - 6) 5 = true by decide, chk_t, show (nI 9 - 6).toNatClampNeg = 3 by decide]
theorem cnt8_9 {st : St} : fX8_count st (nI 9) = some (sI st 39 5) := by
  unfold fX8_count
  rw [if_neg (by decide), if_neg (by decide), if_neg (by decide), if_neg (by decide), if_neg (by decide), if_neg (by decide), if_neg (by decide), if_neg (by decide), if_neg (by decide), if_pos (by decide)]
theorem cnt7_10 {st : St} : fX7_count st (nI 10) = some (sI st 35 4) := by
  unfold fX7_count fX7_count_b22 fX7_count_b47
  rw [if_neg (by decide), if_neg (by decide)]
  rw [show ixb (nI 10 - 6) 5 = true by decide, chk_t, show (nI 10 - 6).toNatClampNeg = 4 by decide]
theorem cnt8_10 {st : St} : fX8_count st (nI 10) = some (sI st 39 6) := by
  unfold fX8_count
  rw [if_neg (by decide), if_neg (by decide), if_neg (by decide), if_neg (by decide), if_neg (by decide), if_neg (by decide), if_neg (by decide), if_neg (by decide), if_neg (by decide), if_neg (by decide), if_pos (by decide)]
theorem cnt7_11 {st : St} : fX7_count st (nI 11) = some (sI st 1 8) := by
  unfold fX7_count fX7_count_b22 fX7_count_b47
  rw [if_neg (by decide), if_pos (by decide), if_pos (by decide), if_neg (by decide), if_neg (by decide), if_neg (by decide), if_neg (by decide), if_neg (by decide), if_neg (by decide), if_pos (by decide)]
theorem cnt8_11 {st : St} : fX8_count st (nI 11) = some (sI st 40 19) := by
  unfold fX8_count
  rw [if_neg (by decide), if_neg (by decide), if_neg (by decide), if_neg (by decide), if_neg (by decide), if_neg (by decide), if_neg (by decide), if_neg (by decide), if_neg (by decide), if_neg (by decide), if_neg (by decide), if_pos (by decide)]
theorem cnt7_12 {st : St} : fX7_count st (nI 12) = some (sI st 5 0) := by
  unfold fX7_count fX7_count_b22 fX7_count_b47
  rw [if_neg (by decide), if_pos (by decide), if_neg (by decide), if_neg (by decide)]
  rw [show ixb (nI 12 - 12) 4 = true by decide, chk_t, show (nI 12 - 12).toNatClampNeg = 0 by decide]
theorem cnt8_12 {st : St} : fX8_count st (nI 12) = some (sI st 40 2) := by
  unfold fX8_count
  rw [if_neg (by decide), if_neg (by decide), if_neg (by decide), if_neg (by decide), if_neg (by decide), if_neg (by decide), if_neg (by decide), if_neg (by decide), if_neg (by decide), if_neg (by decide), if_neg (by decide), if_neg (by decide), if_pos (by decide)]
  rw [show fX8_termAt (nI 12 - 12) = nI 2 by decide, show ixb (nI 2) 5627 = true by decide, chk_t, show (nI 2).toNatClampNeg = 2 by decide]
theorem cnt7_13 {st : St} : fX7_count st (nI 13) = some (sI st 5 1) := by
  unfold fX7_count fX7_count_b22 fX7_count_b47
  rw [if_neg (by decide), if_pos (by decide), if_neg (by decide), if_neg (by decide)]
  rw [show ixb (nI 13 - 12) 4 = true by decide, chk_t, show (nI 13 - 12).toNatClampNeg = 1 by decide]
theorem cnt8_13 {st : St} : fX8_count st (nI 13) = some (sI st 40 1) := by
  unfold fX8_count
  rw [if_neg (by decide), if_neg (by decide), if_neg (by decide), if_neg (by decide), if_neg (by decide), if_neg (by decide), if_neg (by decide), if_neg (by decide), if_neg (by decide), if_neg (by decide), if_neg (by decide), if_neg (by decide), if_neg (by decide), if_pos (by decide)]
  rw [show fX8_termAt (nI 13 - 12) = nI 1 by decide, show ixb (nI 1) 5627 = true by decide, chk_t, show (nI 1).toNatClampNeg = 1 by decide]
theorem cnt7_14 {st : St} : fX7_count st (nI 14) = some (sI st 5 2) := by
  unfold fX7_count fX7_count_b22 fX7_count_b47
  rw [if_neg (by decide), if_pos (by decide), if_neg (by decide), if_neg (by decide)]
  rw [show ixb (nI 14 - 12) 4 = true by decide, chk_t, show (nI 14 - 12).toNatClampNeg = 2 by decide]
theorem cnt8_14 {st : St} : fX8_count st (nI 14) = some (sI st 40 14) := by
  unfold fX8_count
  rw [if_neg (by decide), if_neg (by decide), if_neg (by decide), if_neg (by decide), if_neg (by decide), if_neg (by decide), if_neg (by decide), if_neg (by decide), if_neg (by decide), if_neg (by decide), if_neg (by decide), if_neg (by decide), if_neg (by decide), if_neg (by decide), if_pos (by decide)]
  rw [show fX8_termAt (nI 14 - 12) = nI 14 by decide, show ixb (nI 14) 5627 = true by decide, chk_t, show (nI 14).toNatClampNeg = 14 by decide]
theorem cnt7_15 {st : St} : fX7_count st (nI 15) = some (sI st 5 3) := by
  unfold fX7_count fX7_count_b22 fX7_count_b47
  rw [if_neg (by decide), if_pos (by decide), if_neg (by decide), if_neg (by decide)]
  rw [show ixb (nI 15 - 12) 4 = true by decide, chk_t, show (nI 15 - 12).toNatClampNeg = 3 by decide]
theorem cnt8_15 {st : St} : fX8_count st (nI 15) = some (sI st 40 15) := by
  unfold fX8_count
  rw [if_neg (by decide), if_neg (by decide), if_neg (by decide), if_neg (by decide), if_neg (by decide), if_neg (by decide), if_neg (by decide), if_neg (by decide), if_neg (by decide), if_neg (by decide), if_neg (by decide), if_neg (by decide), if_neg (by decide), if_neg (by decide), if_neg (by decide), if_pos (by decide)]
  rw [show fX8_termAt (nI 15 - 12) = nI 15 by decide, show ixb (nI 15) 5627 = true by decide, chk_t, show (nI 15).toNatClampNeg = 15 by decide]
theorem st32 : Step32 Inv := by
  rintro a st ⟨A, g, c, m⟩
  have gR := g.1
  have hb := b_lt64 gR
  obtain ⟨c1, c2, c3, c4, c5⟩ := c.2.1.1.1
  obtain ⟨d1, d2, d3, d4⟩ := c.2.1.1.2.1
  have mr := m.2.1
  obtain ⟨s0, s1, s2, s3, s4⟩ := c.2.2.2.1
  obtain ⟨t0, t1, t2, t3, t4, t5, t6, t7, t8⟩ := m.2.2.2.1
  rcases rng a 0 15 0 15 rfl rfl (by omega) (by omega) with ⟨q, h0, h9, rfl, l1, l2, l3, l4⟩ | ⟨l1, l2⟩
  · have : q = 0 ∨ q = 1 ∨ q = 2 ∨ q = 3 ∨ q = 4 ∨ q = 5 ∨ q = 6 ∨ q = 7 ∨ q = 8 ∨ q = 9 ∨ q = 10 ∨ q = 11 ∨ q = 12 ∨ q = 13 ∨ q = 14 ∨ q = 15 := by omega
    rcases this with rfl | rfl | rfl | rfl | rfl | rfl | rfl | rfl | rfl | rfl | rfl | rfl | rfl | rfl | rfl | rfl
    · exact ⟨_, cnt7_0.trans (congrArg some (c1)), cnt8_0.trans (congrArg some (mr.k (k := 16) (by omega)))⟩
    · exact ⟨nI (pc (A.1.1 0)), by rw [cnt7_1, c2, bc64 _ hb], by rw [cnt8_1, mr.k (by omega), ones64 _ hb]⟩
    · exact ⟨_, cnt7_2.trans (congrArg some (c3)), cnt8_2.trans (congrArg some (mr.k (k := 17) (by omega)))⟩
    · exact ⟨_, cnt7_3.trans (congrArg some (c4)), cnt8_3.trans (congrArg some (mr.k (k := 18) (by omega)))⟩
    · exact ⟨_, cnt7_4.trans (congrArg some (c.2.2.2.2.2.1.1)), cnt8_4.trans (congrArg some (m.2.2.2.2.2.1.1))⟩
    · exact ⟨_, cnt7_5.trans (congrArg some (c.2.2.2.2.1.1)), cnt8_5.trans (congrArg some (m.2.2.2.2.1.1))⟩
    · exact ⟨_, cnt7_6.trans (congrArg some (s4 0 (by omega))), cnt8_6.trans (congrArg some (t4))⟩
    · exact ⟨_, cnt7_7.trans (congrArg some (s4 1 (by omega))), cnt8_7.trans (congrArg some (t5))⟩
    · exact ⟨_, cnt7_8.trans (congrArg some (s4 2 (by omega))), cnt8_8.trans (congrArg some (t6))⟩
    · exact ⟨_, cnt7_9.trans (congrArg some (s4 3 (by omega))), cnt8_9.trans (congrArg some (t7))⟩
    · exact ⟨_, cnt7_10.trans (congrArg some (s4 4 (by omega))), cnt8_10.trans (congrArg some (t8))⟩
    · exact ⟨_, cnt7_11.trans (congrArg some (c5)), cnt8_11.trans (congrArg some (mr.f))⟩
    · exact ⟨_, cnt7_12.trans (congrArg some (d1)), cnt8_12.trans (congrArg some (mr.k (k := 2) (by omega)))⟩
    · exact ⟨_, cnt7_13.trans (congrArg some (d2)), cnt8_13.trans (congrArg some (mr.k (k := 1) (by omega)))⟩
    · exact ⟨_, cnt7_14.trans (congrArg some (d3)), cnt8_14.trans (congrArg some (mr.k (k := 14) (by omega)))⟩
    · exact ⟨_, cnt7_15.trans (congrArg some (d4)), cnt8_15.trans (congrArg some (mr.k (k := 15) (by omega)))⟩
  · have ne : ∀ k : Nat, k ≤ 15 → ¬ a = nI k := by
      intro k hk e
      subst e
      rw [show (15 : Int32) = nI 15 from rfl, show (0 : Int32) = nI 0 from rfl, n_lies (by omega) (by omega) (by omega), if_pos (by omega)] at l1
      revert l1; decide
    refine ⟨-1, ?_, ?_⟩
    · have h47 : fX7_count_b47 st a = some (-1) := by
        unfold fX7_count_b47
        rw [if_neg (show ¬ a = 0 from ne 0 (by omega)), if_neg (show ¬ a = 1 from ne 1 (by omega)), if_neg (show ¬ a = 2 from ne 2 (by omega)), if_neg (show ¬ a = 3 from ne 3 (by omega)), if_neg (show ¬ a = 4 from ne 4 (by omega)), if_neg (show ¬ a = 5 from ne 5 (by omega)), if_neg (show ¬ a = 11 from ne 11 (by omega))]
      have e0 : (0 : Int32).toInt = 0 := by decide
      have e6 : (6 : Int32).toInt = 6 := by decide
      have e10 : (10 : Int32).toInt = 10 := by decide
      have e12 : (12 : Int32).toInt = 12 := by decide
      have e15 : (15 : Int32).toInt = 15 := by decide
      unfold fX7_count fX7_count_b22
      simp only [h47, Int32.lt_iff_toInt_lt, Int32.le_iff_toInt_le, e0, e6, e10, e12, e15] at l2 ⊢
      by_cases z : a.toInt < 0
      · rw [if_pos (by omega), if_pos (by omega)]
      · rw [if_neg (by omega), if_pos (by omega), if_neg (by omega), if_pos (by omega)]
    · unfold fX8_count
      rw [if_neg (show ¬ a = 0 from ne 0 (by omega)), if_neg (show ¬ a = 1 from ne 1 (by omega)), if_neg (show ¬ a = 2 from ne 2 (by omega)), if_neg (show ¬ a = 3 from ne 3 (by omega)), if_neg (show ¬ a = 4 from ne 4 (by omega)), if_neg (show ¬ a = 5 from ne 5 (by omega)), if_neg (show ¬ a = 6 from ne 6 (by omega)), if_neg (show ¬ a = 7 from ne 7 (by omega)), if_neg (show ¬ a = 8 from ne 8 (by omega)), if_neg (show ¬ a = 9 from ne 9 (by omega)), if_neg (show ¬ a = 10 from ne 10 (by omega)), if_neg (show ¬ a = 11 from ne 11 (by omega)), if_neg (show ¬ a = 12 from ne 12 (by omega)), if_neg (show ¬ a = 13 from ne 13 (by omega)), if_neg (show ¬ a = 14 from ne 14 (by omega)), if_neg (show ¬ a = 15 from ne 15 (by omega))]
