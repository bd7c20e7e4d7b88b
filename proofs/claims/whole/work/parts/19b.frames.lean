def wG2 : List (Nat × Option Nat) := [(38, some 22), (38, some 24)]
def RmOK2 (rc : TG2) : Prop := (∀ {st : St} {p1 : Int32} {r0 : Int32} {u0 : St}, rc.1 p1 st = some (r0, u0) → FR wG2 st u0) ∧ (∀ {st : St} {p1 : Int32} {r0 : Int32} {u0 : St}, rc.2.1 p1 st = some (r0, u0) → FR wG2 st u0) ∧ (∀ {st : St} {p1 : Int32} {r0 : Int32} {u0 : St}, rc.2.2.1 p1 st = some (r0, u0) → FR wG2 st u0) ∧ (∀ {st : St} {p1 : Int32} {r0 : Int32} {u0 : St}, rc.2.2.2 p1 st = some (r0, u0) → FR wG2 st u0)
set_option maxHeartbeats 1000000 in
theorem mX8_testOf_b46 {rc : TG2} (hrm : RmOK2 rc) {r0 : Int32} {u0 : St} {k6 : Int32 → Int32 → St → Option (Int32 × St)} (hk6 : ∀ (l1 : Int32) (l2 : Int32) (st : St), k6 l1 l2 st = some (r0, u0) → FR wG2 st u0) (l1 : Int32) (s0 : Int32) (st : St)  (hf : fX8_testOf_b46 rc k6 l1 s0 st = some (r0, u0)) : FR wG2 st u0 := by
  unfold fX8_testOf_b46 at hf
  exact FR.trans FR.rf (hk6 l1 s0 st hf)
set_option maxHeartbeats 1000000 in
theorem mX8_testOf_b41 {rc : TG2} (hrm : RmOK2 rc) {r0 : Int32} {u0 : St} {k6 : Int32 → Int32 → St → Option (Int32 × St)} (hk6 : ∀ (l1 : Int32) (l2 : Int32) (st : St), k6 l1 l2 st = some (r0, u0) → FR wG2 st u0) (l1 : Int32) (st : St)  (hf : fX8_testOf_b41 rc k6 l1 st = some (r0, u0)) : FR wG2 st u0 := by
  unfold fX8_testOf_b41 at hf
  exact FR.trans FR.rf (mX8_testOf_b46 hrm hk6 l1 (1 : Int32) st hf)
set_option maxHeartbeats 1000000 in
theorem mX8_testOf_b29 {rc : TG2} (hrm : RmOK2 rc) {r0 : Int32} {u0 : St} {k6 : Int32 → Int32 → St → Option (Int32 × St)} (hk6 : ∀ (l1 : Int32) (l2 : Int32) (st : St), k6 l1 l2 st = some (r0, u0) → FR wG2 st u0) (l1 : Int32) (l2 : Int32) (s1 : Int32) (st : St)  (hf : fX8_testOf_b29 rc k6 l1 l2 s1 st = some (r0, u0)) : FR wG2 st u0 := by
  unfold fX8_testOf_b29 at hf
  obtain ⟨q1, h2, hf⟩ := bnd_some hf
  rcases (Classical.em (l2 = 0)).symm with h3 | h3
  · rw [if_neg h3] at hf
    exact FR.trans (FR.trans FR.rf (hrm.2.1 h2)) (mX8_testOf_b41 hrm hk6 l1 q1.2 hf)
  · rw [if_pos h3] at hf
    by_cases h4 : q1.1 = 0
    · rw [if_pos h4] at hf
      exact FR.trans (FR.trans FR.rf (hrm.2.1 h2)) (mX8_testOf_b46 hrm hk6 l1 (0 : Int32) q1.2 hf)
    · rw [if_neg h4] at hf
      exact FR.trans (FR.trans FR.rf (hrm.2.1 h2)) (mX8_testOf_b41 hrm hk6 l1 q1.2 hf)
set_option maxHeartbeats 1000000 in
theorem mX8_testOf_b28 {rc : TG2} (hrm : RmOK2 rc) {r0 : Int32} {u0 : St} {k6 : Int32 → Int32 → St → Option (Int32 × St)} (hk6 : ∀ (l1 : Int32) (l2 : Int32) (st : St), k6 l1 l2 st = some (r0, u0) → FR wG2 st u0) (l1 : Int32) (l2 : Int32) (st : St)  (hf : fX8_testOf_b28 rc k6 l1 l2 st = some (r0, u0)) : FR wG2 st u0 := by
  unfold fX8_testOf_b28 at hf
  exact FR.trans FR.rf (mX8_testOf_b29 hrm hk6 l1 l2 (0 : Int32) st hf)
set_option maxHeartbeats 1000000 in
theorem mX8_testOf_b6 {rc : TG2} (hrm : RmOK2 rc) {r0 : Int32} {u0 : St} : ∀ (n : Nat) (l1 : Int32) (l2 : Int32) (st : St) , fX8_testOf_b6 rc n l1 l2 st = some (r0, u0) → FR wG2 st u0 := by
  intro n
  induction n with
  | zero =>
    intros
    rename_i hf
    rw [fX8_testOf_b6] at hf
    cases hf
  | succ n ih =>
    intro l1 l2 st hf
    rw [fX8_testOf_b6] at hf
    obtain ⟨q1, h2, hf⟩ := bnd_some hf
    by_cases h3 : q1.1 = 0
    · rw [if_pos h3] at hf
      obtain ⟨h4, hf⟩ := chk_some hf
      rw [← (Prod.mk.inj (Option.some.inj hf)).2]; exact (FR.trans FR.rf (FR.mono (by rfl) (mX8_passes0 h2)))
    · rw [if_neg h3] at hf
      by_cases h5 : l1 = 0
      · rw [if_pos h5] at hf
        exact FR.trans (FR.trans FR.rf (FR.mono (by rfl) (mX8_passes0 h2))) (mX8_testOf_b28 hrm ih l1 l2 q1.2 hf)
      · rw [if_neg h5] at hf
        rcases (Classical.em (l2 = 0)).symm with h6 | h6
        · rw [if_neg h6] at hf
          exact FR.trans (FR.trans FR.rf (FR.mono (by rfl) (mX8_passes0 h2))) (mX8_testOf_b28 hrm ih l1 l2 q1.2 hf)
        · rw [if_pos h6] at hf
          exact FR.trans (FR.trans FR.rf (FR.mono (by rfl) (mX8_passes0 h2))) (mX8_testOf_b29 hrm ih l1 l2 (1 : Int32) q1.2 hf)
set_option maxHeartbeats 1000000 in
theorem mX8_testOf_g {rc : TG2} (hrm : RmOK2 rc) {r0 : Int32} {u0 : St} {p1 : Int32} {st : St}  (hf : fX8_testOf_g rc p1 st = some (r0, u0)) : FR wG2 st u0 := by
  unfold fX8_testOf_g at hf
  obtain ⟨q1, h2, hf⟩ := bnd_some hf
  exact FR.trans (FR.trans FR.rf (hrm.2.1 h2)) (mX8_testOf_b6 hrm  FU p1 q1.1 q1.2 hf)
set_option maxHeartbeats 1000000 in
theorem mX8_bothOf_b46 {rc : TG2} (hrm : RmOK2 rc) {r0 : Int32} {u0 : St} {k6 : Int32 → Int32 → St → Option (Int32 × St)} (hk6 : ∀ (l1 : Int32) (l2 : Int32) (st : St), k6 l1 l2 st = some (r0, u0) → FR wG2 st u0) (l1 : Int32) (s0 : Int32) (st : St)  (hf : fX8_bothOf_b46 rc k6 l1 s0 st = some (r0, u0)) : FR wG2 st u0 := by
  unfold fX8_bothOf_b46 at hf
  exact FR.trans FR.rf (hk6 l1 s0 st hf)
set_option maxHeartbeats 1000000 in
theorem mX8_bothOf_b45 {rc : TG2} (hrm : RmOK2 rc) {r0 : Int32} {u0 : St} {k6 : Int32 → Int32 → St → Option (Int32 × St)} (hk6 : ∀ (l1 : Int32) (l2 : Int32) (st : St), k6 l1 l2 st = some (r0, u0) → FR wG2 st u0) (l1 : Int32) (st : St)  (hf : fX8_bothOf_b45 rc k6 l1 st = some (r0, u0)) : FR wG2 st u0 := by
  unfold fX8_bothOf_b45 at hf
  exact FR.trans FR.rf (mX8_bothOf_b46 hrm hk6 l1 (0 : Int32) st hf)
set_option maxHeartbeats 1000000 in
theorem mX8_bothOf_b29 {rc : TG2} (hrm : RmOK2 rc) {r0 : Int32} {u0 : St} {k6 : Int32 → Int32 → St → Option (Int32 × St)} (hk6 : ∀ (l1 : Int32) (l2 : Int32) (st : St), k6 l1 l2 st = some (r0, u0) → FR wG2 st u0) (l1 : Int32) (l2 : Int32) (s1 : Int32) (st : St)  (hf : fX8_bothOf_b29 rc k6 l1 l2 s1 st = some (r0, u0)) : FR wG2 st u0 := by
  unfold fX8_bothOf_b29 at hf
  obtain ⟨q1, h2, hf⟩ := bnd_some hf
  by_cases h3 : l2 = 0
  · rw [if_pos h3] at hf
    exact FR.trans (FR.trans FR.rf (hrm.2.2.1 h2)) (mX8_bothOf_b45 hrm hk6 l1 q1.2 hf)
  · rw [if_neg h3] at hf
    by_cases h4 : q1.1 = 0
    · rw [if_pos h4] at hf
      exact FR.trans (FR.trans FR.rf (hrm.2.2.1 h2)) (mX8_bothOf_b45 hrm hk6 l1 q1.2 hf)
    · rw [if_neg h4] at hf
      exact FR.trans (FR.trans FR.rf (hrm.2.2.1 h2)) (mX8_bothOf_b46 hrm hk6 l1 (1 : Int32) q1.2 hf)
set_option maxHeartbeats 1000000 in
theorem mX8_bothOf_b28 {rc : TG2} (hrm : RmOK2 rc) {r0 : Int32} {u0 : St} {k6 : Int32 → Int32 → St → Option (Int32 × St)} (hk6 : ∀ (l1 : Int32) (l2 : Int32) (st : St), k6 l1 l2 st = some (r0, u0) → FR wG2 st u0) (l1 : Int32) (l2 : Int32) (st : St)  (hf : fX8_bothOf_b28 rc k6 l1 l2 st = some (r0, u0)) : FR wG2 st u0 := by
  unfold fX8_bothOf_b28 at hf
  exact FR.trans FR.rf (mX8_bothOf_b29 hrm hk6 l1 l2 (0 : Int32) st hf)
set_option maxHeartbeats 1000000 in
theorem mX8_bothOf_b6 {rc : TG2} (hrm : RmOK2 rc) {r0 : Int32} {u0 : St} : ∀ (n : Nat) (l1 : Int32) (l2 : Int32) (st : St) , fX8_bothOf_b6 rc n l1 l2 st = some (r0, u0) → FR wG2 st u0 := by
  intro n
  induction n with
  | zero =>
    intros
    rename_i hf
    rw [fX8_bothOf_b6] at hf
    cases hf
  | succ n ih =>
    intro l1 l2 st hf
    rw [fX8_bothOf_b6] at hf
    obtain ⟨q1, h2, hf⟩ := bnd_some hf
    by_cases h3 : q1.1 = 0
    · rw [if_pos h3] at hf
      obtain ⟨h4, hf⟩ := chk_some hf
      rw [← (Prod.mk.inj (Option.some.inj hf)).2]; exact (FR.trans FR.rf (FR.mono (by rfl) (mX8_passes0 h2)))
    · rw [if_neg h3] at hf
      by_cases h5 : l1 = 0
      · rw [if_pos h5] at hf
        exact FR.trans (FR.trans FR.rf (FR.mono (by rfl) (mX8_passes0 h2))) (mX8_bothOf_b28 hrm ih l1 l2 q1.2 hf)
      · rw [if_neg h5] at hf
        by_cases h6 : l2 = 0
        · rw [if_pos h6] at hf
          exact FR.trans (FR.trans FR.rf (FR.mono (by rfl) (mX8_passes0 h2))) (mX8_bothOf_b28 hrm ih l1 l2 q1.2 hf)
        · rw [if_neg h6] at hf
          exact FR.trans (FR.trans FR.rf (FR.mono (by rfl) (mX8_passes0 h2))) (mX8_bothOf_b29 hrm ih l1 l2 (1 : Int32) q1.2 hf)
set_option maxHeartbeats 1000000 in
theorem mX8_bothOf_g {rc : TG2} (hrm : RmOK2 rc) {r0 : Int32} {u0 : St} {p1 : Int32} {st : St}  (hf : fX8_bothOf_g rc p1 st = some (r0, u0)) : FR wG2 st u0 := by
  unfold fX8_bothOf_g at hf
  obtain ⟨q1, h2, hf⟩ := bnd_some hf
  exact FR.trans (FR.trans FR.rf (hrm.2.2.1 h2)) (mX8_bothOf_b6 hrm  FU p1 q1.1 q1.2 hf)
set_option maxHeartbeats 1000000 in
theorem mX8_plainOf_b20 {rc : TG2} (hrm : RmOK2 rc) {r0 : Int32} {u0 : St} {k2 : Int32 → Int32 → St → Option (Int32 × St)} (hk2 : ∀ (l1 : Int32) (l2 : Int32) (st : St), k2 l1 l2 st = some (r0, u0) → FR wG2 st u0) (l1 : Int32) (s0 : Int32) (st : St)  (hf : fX8_plainOf_b20 rc k2 l1 s0 st = some (r0, u0)) : FR wG2 st u0 := by
  unfold fX8_plainOf_b20 at hf
  exact FR.trans FR.rf (hk2 l1 s0 st hf)
set_option maxHeartbeats 1000000 in
theorem mX8_plainOf_b2 {rc : TG2} (hrm : RmOK2 rc) {r0 : Int32} {u0 : St} : ∀ (n : Nat) (l1 : Int32) (l2 : Int32) (st : St) , fX8_plainOf_b2 rc n l1 l2 st = some (r0, u0) → FR wG2 st u0 := by
  intro n
  induction n with
  | zero =>
    intros
    rename_i hf
    rw [fX8_plainOf_b2] at hf
    cases hf
  | succ n ih =>
    intro l1 l2 st hf
    rw [fX8_plainOf_b2] at hf
    obtain ⟨q1, h2, hf⟩ := bnd_some hf
    by_cases h3 : q1.1 = 0
    · rw [if_pos h3] at hf
      obtain ⟨q4, h5, hf⟩ := bnd_some hf
      by_cases h6 : q4.1 = l2
      · rw [if_pos h6] at hf
        rw [← (Prod.mk.inj (Option.some.inj hf)).2]; exact (FR.trans (FR.trans FR.rf (FR.mono (by rfl) (mX8_passes0 h2))) (hrm.2.2.2 h5))
      · rw [if_neg h6] at hf
        rw [← (Prod.mk.inj (Option.some.inj hf)).2]; exact (FR.trans (FR.trans FR.rf (FR.mono (by rfl) (mX8_passes0 h2))) (hrm.2.2.2 h5))
    · rw [if_neg h3] at hf
      rcases (Classical.em (l2 = 0)).symm with h7 | h7
      · rw [if_neg h7] at hf
        exact FR.trans (FR.trans FR.rf (FR.mono (by rfl) (mX8_passes0 h2))) (mX8_plainOf_b20 hrm ih l1 (0 : Int32) q1.2 hf)
      · rw [if_pos h7] at hf
        exact FR.trans (FR.trans FR.rf (FR.mono (by rfl) (mX8_passes0 h2))) (mX8_plainOf_b20 hrm ih l1 (1 : Int32) q1.2 hf)
set_option maxHeartbeats 1000000 in
theorem mX8_plainOf_g {rc : TG2} (hrm : RmOK2 rc) {r0 : Int32} {u0 : St} {p1 : Int32} {st : St}  (hf : fX8_plainOf_g rc p1 st = some (r0, u0)) : FR wG2 st u0 := by
  unfold fX8_plainOf_g at hf
  exact FR.trans FR.rf (mX8_plainOf_b2 hrm  FU p1 (0 : Int32) st hf)
set_option maxHeartbeats 1000000 in
theorem mX8_positiveOf_g {rc : TG2} (hrm : RmOK2 rc) {r0 : Int32} {u0 : St} {p1 : Int32} {st : St}  (hf : fX8_positiveOf_g rc p1 st = some (r0, u0)) : FR wG2 st u0 := by
  unfold fX8_positiveOf_g at hf
  obtain ⟨q1, h2, hf⟩ := bnd_some hf
  by_cases h3 : q1.1 = 0
  · rw [if_pos h3] at hf
    obtain ⟨q4, h5, hf⟩ := bnd_some hf
    obtain ⟨q6, h7, hf⟩ := bnd_some hf
    obtain ⟨q8, h9, hf⟩ := bnd_some hf
    by_cases h10 : p1 = 0
    · rw [if_pos h10] at hf
      rw [← (Prod.mk.inj (Option.some.inj hf)).2]; exact (FR.trans (FR.pI (by rfl) (FR.trans (FR.trans FR.rf (FR.mono (by rfl) (mX8_passes0 h2))) (FR.mono (by rfl) (mX8_sumOf h5)))) (FR.mono (by rfl) (mX8_sumOf h9)))
    · rw [if_neg h10] at hf
      rcases (Classical.em ((sI q8.2 38 24) = 0)).symm with h11 | h11
      · rw [if_neg h11] at hf
        rw [← (Prod.mk.inj (Option.some.inj hf)).2]; exact (FR.trans (FR.pI (by rfl) (FR.trans (FR.trans FR.rf (FR.mono (by rfl) (mX8_passes0 h2))) (FR.mono (by rfl) (mX8_sumOf h5)))) (FR.mono (by rfl) (mX8_sumOf h9)))
      · rw [if_pos h11] at hf
        rcases (Classical.em (q6 = (fX8_sign (60 : Int32)))).symm with h12 | h12
        · rw [if_neg h12] at hf
          rcases (Classical.em (q6 = (fX8_sign (62 : Int32)))).symm with h13 | h13
          · rw [if_neg h13] at hf
            rcases (Classical.em ((lg_cmp q4.1 q8.1) = 0)).symm with h14 | h14
            · rw [if_neg h14] at hf
              rw [← (Prod.mk.inj (Option.some.inj hf)).2]; exact (FR.trans (FR.pI (by rfl) (FR.trans (FR.trans FR.rf (FR.mono (by rfl) (mX8_passes0 h2))) (FR.mono (by rfl) (mX8_sumOf h5)))) (FR.mono (by rfl) (mX8_sumOf h9)))
            · rw [if_pos h14] at hf
              rw [← (Prod.mk.inj (Option.some.inj hf)).2]; exact (FR.trans (FR.pI (by rfl) (FR.trans (FR.trans FR.rf (FR.mono (by rfl) (mX8_passes0 h2))) (FR.mono (by rfl) (mX8_sumOf h5)))) (FR.mono (by rfl) (mX8_sumOf h9)))
          · rw [if_pos h13] at hf
            by_cases h15 : (lg_cmp q4.1 q8.1) ≤ 0
            · rw [if_pos h15] at hf
              rw [← (Prod.mk.inj (Option.some.inj hf)).2]; exact (FR.trans (FR.pI (by rfl) (FR.trans (FR.trans FR.rf (FR.mono (by rfl) (mX8_passes0 h2))) (FR.mono (by rfl) (mX8_sumOf h5)))) (FR.mono (by rfl) (mX8_sumOf h9)))
            · rw [if_neg h15] at hf
              rw [← (Prod.mk.inj (Option.some.inj hf)).2]; exact (FR.trans (FR.pI (by rfl) (FR.trans (FR.trans FR.rf (FR.mono (by rfl) (mX8_passes0 h2))) (FR.mono (by rfl) (mX8_sumOf h5)))) (FR.mono (by rfl) (mX8_sumOf h9)))
        · rw [if_pos h12] at hf
          by_cases h16 : 0 ≤ (lg_cmp q4.1 q8.1)
          · rw [if_pos h16] at hf
            rw [← (Prod.mk.inj (Option.some.inj hf)).2]; exact (FR.trans (FR.pI (by rfl) (FR.trans (FR.trans FR.rf (FR.mono (by rfl) (mX8_passes0 h2))) (FR.mono (by rfl) (mX8_sumOf h5)))) (FR.mono (by rfl) (mX8_sumOf h9)))
          · rw [if_neg h16] at hf
            rw [← (Prod.mk.inj (Option.some.inj hf)).2]; exact (FR.trans (FR.pI (by rfl) (FR.trans (FR.trans FR.rf (FR.mono (by rfl) (mX8_passes0 h2))) (FR.mono (by rfl) (mX8_sumOf h5)))) (FR.mono (by rfl) (mX8_sumOf h9)))
  · rw [if_neg h3] at hf
    obtain ⟨q17, h18, hf⟩ := bnd_some hf
    obtain ⟨h19, hf⟩ := chk_some hf
    rw [← (Prod.mk.inj (Option.some.inj hf)).2]; exact (FR.pI (by rfl) (FR.trans (FR.trans FR.rf (FR.mono (by rfl) (mX8_passes0 h2))) (hrm.1 h18)))
theorem rmLG2 : ∀ d, RmOK2 (LG2 d) := by
  intro d
  induction d with
  | zero => exact ⟨(fun h => nomatch h), (fun h => nomatch h), (fun h => nomatch h), (fun h => nomatch h)⟩
  | succ d ih => exact ⟨(fun hf => mX8_testOf_g ih hf), (fun hf => mX8_bothOf_g ih hf), (fun hf => mX8_plainOf_g ih hf), (fun hf => mX8_positiveOf_g ih hf)⟩
theorem mX8_testOf {st : St} {p1 : Int32} {r0 : Int32} {u0 : St} (hf : fX8_testOf p1 st = some (r0, u0)) : FR wG2 st u0 := (rmLG2 100).1 hf
theorem mX8_bothOf {st : St} {p1 : Int32} {r0 : Int32} {u0 : St} (hf : fX8_bothOf p1 st = some (r0, u0)) : FR wG2 st u0 := (rmLG2 100).2.1 hf
theorem mX8_plainOf {st : St} {p1 : Int32} {r0 : Int32} {u0 : St} (hf : fX8_plainOf p1 st = some (r0, u0)) : FR wG2 st u0 := (rmLG2 100).2.2.1 hf
theorem mX8_positiveOf {st : St} {p1 : Int32} {r0 : Int32} {u0 : St} (hf : fX8_positiveOf p1 st = some (r0, u0)) : FR wG2 st u0 := (rmLG2 100).2.2.2 hf
def wX8_setsAsked_S : List (Nat × Option Nat) := [(50, some 0), (50, some 1), (50, some 2), (50, some 3), (50, some 4), (50, some 5), (50, some 6)]
set_option maxHeartbeats 1000000 in
theorem mX8_setsAsked {u0 : St} {p1 : Int32} {p2 : Int32} {p3 : Int32} {p4 : Int32} {st : St}  (hf : fX8_setsAsked p1 p2 p3 p4 st = some u0) : FR wX8_setsAsked_S st u0 := by
  unfold fX8_setsAsked at hf
  obtain ⟨h1, hf⟩ := chk_some hf
  rw [← Option.some.inj hf]; exact (FR.pI (by rfl) (FR.pI (by rfl) (FR.pI (by rfl) (FR.pI (by rfl) (FR.pI (by rfl) (FR.pI (by rfl) (FR.pI (by rfl) FR.rf)))))))
def wX8_tells_S : List (Nat × Option Nat) := [(38, some 22), (38, some 23), (38, some 24), (38, some 25), (50, some 0), (50, some 1), (50, some 2), (50, some 3), (50, some 4), (50, some 5), (50, some 6)]
set_option maxHeartbeats 1000000 in
theorem mX8_tells_b213 {r0 : Int32} {u0 : St} {k73 : Int32 → Int64 → St → Option (Int32 × St)} (hk73 : ∀ (l1 : Int32) (l7 : Int64) (st : St), k73 l1 l7 st = some (r0, u0) → FR wX8_tells_S st u0) (l1 : Int32) (l7 : Int64) (st : St)  (hf : fX8_tells_b213 k73 l1 l7 st = some (r0, u0)) : FR wX8_tells_S st u0 := by
  unfold fX8_tells_b213 at hf
  exact FR.trans (FR.pI (by rfl) FR.rf) (hk73 l1 l7 (pI st 38 22 ((sI st 38 22) + (1 : Int32))) hf)
set_option maxHeartbeats 1000000 in
theorem mX8_tells_b211 {r0 : Int32} {u0 : St} {k73 : Int32 → Int64 → St → Option (Int32 × St)} (hk73 : ∀ (l1 : Int32) (l7 : Int64) (st : St), k73 l1 l7 st = some (r0, u0) → FR wX8_tells_S st u0) (l1 : Int32) (s0 : Int64) (st : St)  (hf : fX8_tells_b211 k73 l1 s0 st = some (r0, u0)) : FR wX8_tells_S st u0 := by
  unfold fX8_tells_b211 at hf
  exact FR.trans FR.rf (mX8_tells_b213 hk73 l1 s0 st hf)
set_option maxHeartbeats 1000000 in
theorem mX8_tells_b158 {r0 : Int32} {u0 : St} {k73 : Int32 → Int64 → St → Option (Int32 × St)} (hk73 : ∀ (l1 : Int32) (l7 : Int64) (st : St), k73 l1 l7 st = some (r0, u0) → FR wX8_tells_S st u0) (l1 : Int32) (l7 : Int64) (l9 : Int32) (l10 : Int64) (l12 : Int32) (s0 : Int32) (st : St)  (hf : fX8_tells_b158 k73 l1 l7 l9 l10 l12 s0 st = some (r0, u0)) : FR wX8_tells_S st u0 := by
  unfold fX8_tells_b158 at hf
  rcases (Classical.em (l9 = l1)).symm with h1 | h1
  · rw [if_neg h1] at hf
    exact FR.trans FR.rf (mX8_tells_b213 hk73 l1 l7 st hf)
  · rw [if_pos h1] at hf
    by_cases h2 : s0 = 0
    · rw [if_pos h2] at hf
      exact FR.trans FR.rf (mX8_tells_b213 hk73 l1 l7 st hf)
    · rw [if_neg h2] at hf
      rcases (Classical.em ((sI st 38 24) = 0)).symm with h3 | h3
      · rw [if_neg h3] at hf
        exact FR.trans FR.rf (mX8_tells_b213 hk73 l1 l7 st hf)
      · rw [if_pos h3] at hf
        rcases (Classical.em (l12 = 0)).symm with h4 | h4
        · rw [if_neg h4] at hf
          exact FR.trans FR.rf (mX8_tells_b213 hk73 l1 l7 st hf)
        · rw [if_pos h4] at hf
          by_cases h5 : 0 ≤ (lg_cmp l10 (1 : Int64))
          · rw [if_pos h5] at hf
            by_cases h6 : (lg_cmp l10 (15 : Int64)) ≤ 0
            · rw [if_pos h6] at hf
              exact FR.trans FR.rf (mX8_tells_b211 hk73 l1 l10 st hf)
            · rw [if_neg h6] at hf
              exact FR.trans FR.rf (mX8_tells_b211 hk73 l1 (15 : Int64) st hf)
          · rw [if_neg h5] at hf
            exact FR.trans FR.rf (mX8_tells_b211 hk73 l1 (1 : Int64) st hf)
set_option maxHeartbeats 1000000 in
theorem mX8_tells_b153 {r0 : Int32} {u0 : St} {k73 : Int32 → Int64 → St → Option (Int32 × St)} (hk73 : ∀ (l1 : Int32) (l7 : Int64) (st : St), k73 l1 l7 st = some (r0, u0) → FR wX8_tells_S st u0) (l1 : Int32) (l7 : Int64) (l9 : Int32) (l10 : Int64) (l12 : Int32) (st : St)  (hf : fX8_tells_b153 k73 l1 l7 l9 l10 l12 st = some (r0, u0)) : FR wX8_tells_S st u0 := by
  unfold fX8_tells_b153 at hf
  exact FR.trans FR.rf (mX8_tells_b158 hk73 l1 l7 l9 l10 l12 (1 : Int32) st hf)
set_option maxHeartbeats 1000000 in
theorem mX8_tells_b124 {r0 : Int32} {u0 : St} {k73 : Int32 → Int64 → St → Option (Int32 × St)} (hk73 : ∀ (l1 : Int32) (l7 : Int64) (st : St), k73 l1 l7 st = some (r0, u0) → FR wX8_tells_S st u0) (l1 : Int32) (l7 : Int64) (l9 : Int32) (s0 : Int64) (st : St)  (hf : fX8_tells_b124 k73 l1 l7 l9 s0 st = some (r0, u0)) : FR wX8_tells_S st u0 := by
  unfold fX8_tells_b124 at hf
  obtain ⟨q1, h2, hf⟩ := bnd_some hf
  by_cases h3 : q1.1 = 0
  · rw [if_pos h3] at hf
    exact FR.trans (FR.trans (FR.pI (by rfl) FR.rf) (FR.mono (by rfl) (mX8_passes0 h2))) (mX8_tells_b153 hk73 l1 l7 l9 s0 (sI st 38 24) q1.2 hf)
  · rw [if_neg h3] at hf
    obtain ⟨q4, h5, hf⟩ := bnd_some hf
    by_cases h6 : q4.1 = 0
    · rw [if_pos h6] at hf
      exact FR.trans (FR.trans (FR.trans (FR.pI (by rfl) FR.rf) (FR.mono (by rfl) (mX8_passes0 h2))) (FR.mono (by rfl) (mX8_testOf h5))) (mX8_tells_b158 hk73 l1 l7 l9 s0 (sI st 38 24) (0 : Int32) q4.2 hf)
    · rw [if_neg h6] at hf
      exact FR.trans (FR.trans (FR.trans (FR.pI (by rfl) FR.rf) (FR.mono (by rfl) (mX8_passes0 h2))) (FR.mono (by rfl) (mX8_testOf h5))) (mX8_tells_b153 hk73 l1 l7 l9 s0 (sI st 38 24) q4.2 hf)
set_option maxHeartbeats 1000000 in
theorem mX8_tells_b73 {r0 : Int32} {u0 : St} : ∀ (n : Nat) (l1 : Int32) (l7 : Int64) (st : St) , fX8_tells_b73 n l1 l7 st = some (r0, u0) → FR wX8_tells_S st u0 := by
  intro n
  induction n with
  | zero =>
    intros
    rename_i hf
    rw [fX8_tells_b73] at hf
    cases hf
  | succ n ih =>
    intro l1 l7 st hf
    rw [fX8_tells_b73] at hf
    by_cases h1 : (sI st 38 23) ≤ (sI st 38 22)
    · rw [if_pos h1] at hf
      rw [← (Prod.mk.inj (Option.some.inj hf)).2]; exact FR.rf
    · rw [if_neg h1] at hf
      obtain ⟨q2, h3, hf⟩ := bnd_some hf
      rcases (Classical.em (q2 = (1 : Int32))).symm with h4 | h4
      · rw [if_neg h4] at hf
        exact FR.trans (FR.pI (by rfl) (FR.pI (by rfl) FR.rf)) (mX8_tells_b124 ih l1 l7 q2 (1 : Int64) (pI (pI st 38 24 (0 : Int32)) 38 22 ((sI (pI st 38 24 (0 : Int32)) 38 22) + (1 : Int32))) hf)
      · rw [if_pos h4] at hf
        obtain ⟨q5, h6, hf⟩ := bnd_some hf
        exact FR.trans (FR.trans (FR.pI (by rfl) (FR.pI (by rfl) FR.rf)) (FR.mono (by rfl) (mX8_sumOf h6))) (mX8_tells_b124 ih l1 l7 q2 q5.1 q5.2 hf)
set_option maxHeartbeats 1000000 in
theorem mX8_tells {r0 : Int32} {u0 : St} {p1 : Int32} {p2 : Int32} {p3 : Int32} {p4 : Int32} {p5 : Int32} {p6 : Int32} {st : St}  (hf : fX8_tells p1 p2 p3 p4 p5 p6 st = some (r0, u0)) : FR wX8_tells_S st u0 := by
  unfold fX8_tells at hf
  rcases (Classical.em ((sI st 40 19) = (-1 : Int32))).symm with h1 | h1
  · rw [if_neg h1] at hf
    obtain ⟨q2, h3, hf⟩ := bnd_some hf
    obtain ⟨h4, hf⟩ := chk_some hf
    exact FR.trans (FR.pI (by rfl) (FR.pI (by rfl) (FR.pI (by rfl) (FR.trans FR.rf (FR.mono (by rfl) (mX8_setsAsked h3)))))) (mX8_tells_b73  FU p1 p6.toInt64 (pI (pI (pI q2 38 25 (0 : Int32)) 38 22 ((400 : Int32) * (sI (pI q2 38 25 (0 : Int32)) 40 19))) 38 23 ((sI (pI (pI q2 38 25 (0 : Int32)) 38 22 ((400 : Int32) * (sI (pI q2 38 25 (0 : Int32)) 40 19))) 38 22) + (sI (pI (pI q2 38 25 (0 : Int32)) 38 22 ((400 : Int32) * (sI (pI q2 38 25 (0 : Int32)) 40 19))) 40 (((20 : Int32) + (sI (pI (pI q2 38 25 (0 : Int32)) 38 22 ((400 : Int32) * (sI (pI q2 38 25 (0 : Int32)) 40 19))) 40 19)).toNatClampNeg)))) hf)
  · rw [if_pos h1] at hf
    rw [← (Prod.mk.inj (Option.some.inj hf)).2]; exact FR.rf
def wX8_beatsOf_S : List (Nat × Option Nat) := [(38, some 22), (38, some 23), (38, some 24), (38, some 25), (50, some 0), (50, some 1), (50, some 2), (50, some 3), (50, some 4), (50, some 5), (50, some 6)]
set_option maxHeartbeats 1000000 in
theorem mX8_beatsOf {r0 : Int32} {u0 : St} {p1 : Int32} {p2 : Int32} {p3 : Int32} {st : St}  (hf : fX8_beatsOf p1 p2 p3 st = some (r0, u0)) : FR wX8_beatsOf_S st u0 := by
  unfold fX8_beatsOf at hf
  obtain ⟨h1, hf⟩ := chk_some hf
  exact FR.trans FR.rf (FR.mono (by rfl) (mX8_tells hf))
def wX8_isSo_S : List (Nat × Option Nat) := [(38, some 22), (38, some 23), (38, some 24), (38, some 25), (50, some 0), (50, some 1), (50, some 2), (50, some 3), (50, some 4), (50, some 5), (50, some 6)]
set_option maxHeartbeats 1000000 in
theorem mX8_isSo {r0 : Int32} {u0 : St} {p1 : Int32} {p2 : Int32} {p3 : Int32} {p4 : Int32} {p5 : Int32} {st : St}  (hf : fX8_isSo p1 p2 p3 p4 p5 st = some (r0, u0)) : FR wX8_isSo_S st u0 := by
  unfold fX8_isSo at hf
  obtain ⟨q1, h2, hf⟩ := bnd_some hf
  rcases (Classical.em (q1.1 = (1 : Int32))).symm with h3 | h3
  · rw [if_neg h3] at hf
    rw [← (Prod.mk.inj (Option.some.inj hf)).2]; exact (FR.trans FR.rf (FR.mono (by rfl) (mX8_tells h2)))
  · rw [if_pos h3] at hf
    rw [← (Prod.mk.inj (Option.some.inj hf)).2]; exact (FR.trans FR.rf (FR.mono (by rfl) (mX8_tells h2)))
def wX8_asks_S : List (Nat × Option Nat) := [(38, some 22), (38, some 23), (38, some 24), (38, some 25), (50, some 0), (50, some 1), (50, some 2), (50, some 3), (50, some 4), (50, some 5), (50, some 6)]
set_option maxHeartbeats 1000000 in
theorem mX8_asks {r0 : Int32} {u0 : St} {p1 : Int32} {p2 : Int32} {p3 : Int32} {p4 : Int32} {st : St}  (hf : fX8_asks p1 p2 p3 p4 st = some (r0, u0)) : FR wX8_asks_S st u0 := by
  unfold fX8_asks at hf
  by_cases h1 : (fX8_isRhyme st p1) = 0
  · rw [if_pos h1] at hf
    rw [← (Prod.mk.inj (Option.some.inj hf)).2]; exact FR.rf
  · rw [if_neg h1] at hf
    by_cases h2 : (fX8_isChild st p2) = 0
    · rw [if_pos h2] at hf
      rw [← (Prod.mk.inj (Option.some.inj hf)).2]; exact FR.rf
    · rw [if_neg h2] at hf
      rcases (Classical.em ((fX8_lies p3 (0 : Int32) (15 : Int32)) = 0)).symm with h3 | h3
      · rw [if_neg h3] at hf
        by_cases h4 : p4 = (0 : Int32)
        · rw [if_pos h4] at hf
          obtain ⟨q5, h6, hf⟩ := bnd_some hf
          exact FR.trans FR.rf (FR.mono (by rfl) (mX8_beatsOf hf))
        · rw [if_neg h4] at hf
          by_cases h7 : p4 = (1 : Int32)
          · rw [if_pos h7] at hf
            obtain ⟨q8, h9, hf⟩ := bnd_some hf
            obtain ⟨q10, h11, hf⟩ := bnd_some hf
            by_cases h12 : q10.1 = 0
            · rw [if_pos h12] at hf
              rw [← (Prod.mk.inj (Option.some.inj hf)).2]; exact (FR.trans FR.rf (FR.mono (by rfl) (mX8_isSo h11)))
            · rw [if_neg h12] at hf
              rw [← (Prod.mk.inj (Option.some.inj hf)).2]; exact (FR.trans FR.rf (FR.mono (by rfl) (mX8_isSo h11)))
          · rw [if_neg h7] at hf
            by_cases h13 : p4 = (2 : Int32)
            · rw [if_pos h13] at hf
              obtain ⟨q14, h15, hf⟩ := bnd_some hf
              obtain ⟨q16, h17, hf⟩ := bnd_some hf
              by_cases h18 : q16.1 = 0
              · rw [if_pos h18] at hf
                rw [← (Prod.mk.inj (Option.some.inj hf)).2]; exact (FR.trans FR.rf (FR.mono (by rfl) (mX8_isSo h17)))
              · rw [if_neg h18] at hf
                rw [← (Prod.mk.inj (Option.some.inj hf)).2]; exact (FR.trans FR.rf (FR.mono (by rfl) (mX8_isSo h17)))
            · rw [if_neg h13] at hf
              by_cases h19 : p4 = (3 : Int32)
              · rw [if_pos h19] at hf
                obtain ⟨q20, h21, hf⟩ := bnd_some hf
                obtain ⟨q22, h23, hf⟩ := bnd_some hf
                by_cases h24 : q22.1 = 0
                · rw [if_pos h24] at hf
                  rw [← (Prod.mk.inj (Option.some.inj hf)).2]; exact (FR.trans FR.rf (FR.mono (by rfl) (mX8_isSo h23)))
                · rw [if_neg h24] at hf
                  rw [← (Prod.mk.inj (Option.some.inj hf)).2]; exact (FR.trans FR.rf (FR.mono (by rfl) (mX8_isSo h23)))
              · rw [if_neg h19] at hf
                rw [← (Prod.mk.inj (Option.some.inj hf)).2]; exact FR.rf
      · rw [if_pos h3] at hf
        rw [← (Prod.mk.inj (Option.some.inj hf)).2]; exact FR.rf
def wX8_passedOn_S : List (Nat × Option Nat) := [(38, some 22), (38, some 23), (38, some 24), (38, some 25), (50, some 0), (50, some 1), (50, some 2), (50, some 3), (50, some 4), (50, some 5), (50, some 6)]
set_option maxHeartbeats 1000000 in
theorem mX8_passedOn_b6 {r0 : Int32} {u0 : St} : ∀ (n : Nat) (l1 : Int32) (l3 : Int32) (l4 : Int32) (l5 : Int32) (l6 : Int32) (l7 : Int32) (st : St) , fX8_passedOn_b6 n l1 l3 l4 l5 l6 l7 st = some (r0, u0) → FR wX8_passedOn_S st u0 := by
  intro n
  induction n with
  | zero =>
    intros
    rename_i hf
    rw [fX8_passedOn_b6] at hf
    cases hf
  | succ n ih =>
    intro l1 l3 l4 l5 l6 l7 st hf
    rw [fX8_passedOn_b6] at hf
    by_cases h1 : l5 ≤ l7
    · rw [if_pos h1] at hf
      rw [← (Prod.mk.inj (Option.some.inj hf)).2]; exact FR.rf
    · rw [if_neg h1] at hf
      obtain ⟨q2, h3, hf⟩ := bnd_some hf
      by_cases h4 : q2.1 = 0
      · rw [if_pos h4] at hf
        rw [← (Prod.mk.inj (Option.some.inj hf)).2]; exact (FR.trans FR.rf (FR.mono (by rfl) (mX8_isSo h3)))
      · rw [if_neg h4] at hf
        obtain ⟨q5, h6, hf⟩ := bnd_some hf
        exact FR.trans (FR.trans FR.rf (FR.mono (by rfl) (mX8_isSo h3))) (ih l1 l3 l4 l5 q5 (l7 + (1 : Int32)) q2.2 hf)
set_option maxHeartbeats 1000000 in
theorem mX8_passedOn {r0 : Int32} {u0 : St} {p1 : Int32} {p2 : Int32} {p3 : Int32} {p4 : Int32} {p5 : Int32} {st : St}  (hf : fX8_passedOn p1 p2 p3 p4 p5 st = some (r0, u0)) : FR wX8_passedOn_S st u0 := by
  unfold fX8_passedOn at hf
  exact FR.trans FR.rf (mX8_passedOn_b6  FU p1 p3 p4 p5 p2 (0 : Int32) st hf)
def wX8_counts_S : List (Nat × Option Nat) := [(38, some 22), (38, some 23), (38, some 24), (38, some 25), (50, some 0), (50, some 1), (50, some 2), (50, some 3), (50, some 4), (50, some 5), (50, some 6), (51, some 0), (51, none)]
set_option maxHeartbeats 1000000 in
theorem mX8_counts_b106 {r0 : Int32} {u0 : St} {k41 : Int32 → Int32 → Int32 → Int32 → Int32 → Int32 → St → Option (Int32 × St)} (hk41 : ∀ (l1 : Int32) (l3 : Int32) (l4 : Int32) (l5 : Int32) (l6 : Int32) (l7 : Int32) (st : St), k41 l1 l3 l4 l5 l6 l7 st = some (r0, u0) → FR wX8_counts_S st u0) (l1 : Int32) (l3 : Int32) (l4 : Int32) (l5 : Int32) (l6 : Int32) (l7 : Int32) (st : St)  (hf : fX8_counts_b106 k41 l1 l3 l4 l5 l6 l7 st = some (r0, u0)) : FR wX8_counts_S st u0 := by
  unfold fX8_counts_b106 at hf
  exact FR.trans FR.rf (hk41 l1 l3 l4 l5 l6 (l7 + (1 : Int32)) st hf)
set_option maxHeartbeats 1000000 in
theorem mX8_counts_b64 {r0 : Int32} {u0 : St} {k41 : Int32 → Int32 → Int32 → Int32 → Int32 → Int32 → St → Option (Int32 × St)} (hk41 : ∀ (l1 : Int32) (l3 : Int32) (l4 : Int32) (l5 : Int32) (l6 : Int32) (l7 : Int32) (st : St), k41 l1 l3 l4 l5 l6 l7 st = some (r0, u0) → FR wX8_counts_S st u0) (l1 : Int32) (l3 : Int32) (l4 : Int32) (l5 : Int32) (l6 : Int32) (l7 : Int32) (st : St)  (hf : fX8_counts_b64 k41 l1 l3 l4 l5 l6 l7 st = some (r0, u0)) : FR wX8_counts_S st u0 := by
  unfold fX8_counts_b64 at hf
  obtain ⟨q1, h2, hf⟩ := bnd_some hf
  obtain ⟨h3, hf⟩ := chk_some hf
  obtain ⟨q4, h5, hf⟩ := bnd_some hf
  by_cases h6 : q4.1 = 0
  · rw [if_pos h6] at hf
    exact FR.trans (FR.trans (FR.pI (inS_all (by rfl)) (FR.trans FR.rf (FR.mono (by rfl) (mX8_passedOn h2)))) (FR.mono (by rfl) (mX8_isSo h5))) (mX8_counts_b106 hk41 l1 l3 q1.1 l5 l6 l7 q4.2 hf)
  · rw [if_neg h6] at hf
    exact FR.trans (FR.trans (FR.pI (inS_all (by rfl)) (FR.trans FR.rf (FR.mono (by rfl) (mX8_passedOn h2)))) (FR.mono (by rfl) (mX8_isSo h5))) (mX8_counts_b106 hk41 l1 l3 q1.1 l5 (-l6) l7 q4.2 hf)
set_option maxHeartbeats 1000000 in
theorem mX8_counts_b41 {r0 : Int32} {u0 : St} : ∀ (n : Nat) (l1 : Int32) (l3 : Int32) (l4 : Int32) (l5 : Int32) (l6 : Int32) (l7 : Int32) (st : St) , fX8_counts_b41 n l1 l3 l4 l5 l6 l7 st = some (r0, u0) → FR wX8_counts_S st u0 := by
  intro n
  induction n with
  | zero =>
    intros
    rename_i hf
    rw [fX8_counts_b41] at hf
    cases hf
  | succ n ih =>
    intro l1 l3 l4 l5 l6 l7 st hf
    rw [fX8_counts_b41] at hf
    by_cases h1 : l5 < l7
    · rw [if_pos h1] at hf
      rw [← (Prod.mk.inj (Option.some.inj hf)).2]; exact FR.rf
    · rw [if_neg h1] at hf
      by_cases h2 : l7 ≤ (1 : Int32)
      · rw [if_pos h2] at hf
        exact FR.trans FR.rf (mX8_counts_b64 ih l1 l3 l4 l5 l6 l7 st hf)
      · rw [if_neg h2] at hf
        obtain ⟨q3, h4, hf⟩ := bnd_some hf
        exact FR.trans FR.rf (mX8_counts_b64 ih l1 l3 q3 l5 l6 l7 st hf)
set_option maxHeartbeats 1000000 in
theorem mX8_counts {r0 : Int32} {u0 : St} {p1 : Int32} {p2 : Int32} {st : St}  (hf : fX8_counts p1 p2 st = some (r0, u0)) : FR wX8_counts_S st u0 := by
  unfold fX8_counts at hf
  obtain ⟨q1, h2, hf⟩ := bnd_some hf
  obtain ⟨q3, h4, hf⟩ := bnd_some hf
  obtain ⟨q5, h6, hf⟩ := bnd_some hf
  exact FR.trans (FR.pI (by rfl) (FR.trans FR.rf (FR.mono (by rfl) (mX8_beatsOf h6)))) (mX8_counts_b41  FU p1 q1 q3 (fX8_greater (1 : Int32) (q5.1 - p2)) (1 : Int32) (1 : Int32) (pI q5.2 51 0 q3) hf)
def wX8_says_S : List (Nat × Option Nat) := [(38, some 22), (38, some 23), (38, some 24), (38, some 25), (40, some 0), (40, some 1), (50, some 0), (50, some 1), (50, some 2), (50, some 3), (50, some 4), (50, some 5), (50, some 6), (51, some 0), (51, none)]
set_option maxHeartbeats 1000000 in
theorem mX8_says {r0 : Int32} {u0 : St} {p1 : Int32} {p2 : Int32} {st : St}  (hf : fX8_says p1 p2 st = some (r0, u0)) : FR wX8_says_S st u0 := by
  unfold fX8_says at hf
  obtain ⟨q1, h2, hf⟩ := bnd_some hf
  obtain ⟨h3, hf⟩ := chk_some hf
  obtain ⟨q4, h5, hf⟩ := bnd_some hf
  obtain ⟨q6, h7, hf⟩ := bnd_some hf
  obtain ⟨h8, hf⟩ := chk_some hf
  by_cases h9 : q6.1 = 0
  · rw [if_pos h9] at hf
    rw [← (Prod.mk.inj (Option.some.inj hf)).2]; exact (FR.pI (by rfl) (FR.pI (by rfl) (FR.trans (FR.trans FR.rf (FR.mono (by rfl) (mX8_counts h2))) (FR.mono (by rfl) (mX8_isSo h7)))))
  · rw [if_neg h9] at hf
    rw [← (Prod.mk.inj (Option.some.inj hf)).2]; exact (FR.pI (by rfl) (FR.trans (FR.trans FR.rf (FR.mono (by rfl) (mX8_counts h2))) (FR.mono (by rfl) (mX8_isSo h7))))
def wX8_roundPasses_S : List (Nat × Option Nat) := [(40, some 0), (40, some 1), (40, some 2)]
set_option maxHeartbeats 1000000 in
theorem mX8_roundPasses {u0 : St}  {st : St}  (hf : fX8_roundPasses st = some u0) : FR wX8_roundPasses_S st u0 := by
  unfold fX8_roundPasses at hf
  rw [← Option.some.inj hf]; exact (FR.pI (by rfl) (FR.pI (by rfl) (FR.pI (by rfl) FR.rf)))
def wX8_falls_S : List (Nat × Option Nat) := [(38, some 22), (38, some 23), (38, some 24), (38, some 25), (50, some 0), (50, some 1), (50, some 2), (50, some 3), (50, some 4), (50, some 5), (50, some 6), (51, some 0), (51, none)]
set_option maxHeartbeats 1000000 in
theorem mX8_falls {r0 : Int32} {u0 : St} {p1 : Int32} {p2 : Int32} {st : St}  (hf : fX8_falls p1 p2 st = some (r0, u0)) : FR wX8_falls_S st u0 := by
  unfold fX8_falls at hf
  by_cases h1 : (fX8_isRhyme st p1) = 0
  · rw [if_pos h1] at hf
    rw [← (Prod.mk.inj (Option.some.inj hf)).2]; exact FR.rf
  · rw [if_neg h1] at hf
    obtain ⟨q2, h3, hf⟩ := bnd_some hf
    rcases (Classical.em (q2 = 0)).symm with h4 | h4
    · rw [if_neg h4] at hf
      obtain ⟨q5, h6, hf⟩ := bnd_some hf
      rcases (Classical.em ((fX8_lies p2 (0 : Int32) q5.1) = 0)).symm with h7 | h7
      · rw [if_neg h7] at hf
        obtain ⟨h8, hf⟩ := chk_some hf
        rw [← (Prod.mk.inj (Option.some.inj hf)).2]; exact (FR.trans FR.rf (FR.mono (by rfl) (mX8_counts h6)))
      · rw [if_pos h7] at hf
        rw [← (Prod.mk.inj (Option.some.inj hf)).2]; exact (FR.trans FR.rf (FR.mono (by rfl) (mX8_counts h6)))
    · rw [if_pos h4] at hf
      rw [← (Prod.mk.inj (Option.some.inj hf)).2]; exact FR.rf
def wX8_forgetsEldest_S : List (Nat × Option Nat) := [(38, some 32), (52, none)]
set_option maxHeartbeats 1000000 in
theorem mX8_forgetsEldest_b4 {u0 : St} : ∀ (n : Nat) (l1 : Int32) (l2 : Int32) (st : St) , fX8_forgetsEldest_b4 n l1 l2 st = some u0 → FR wX8_forgetsEldest_S st u0 := by
  intro n
  induction n with
  | zero =>
    intros
    rename_i hf
    rw [fX8_forgetsEldest_b4] at hf
    cases hf
  | succ n ih =>
    intro l1 l2 st hf
    rw [fX8_forgetsEldest_b4] at hf
    by_cases h1 : ((15 : Int32) * l1) ≤ l2
    · rw [if_pos h1] at hf
      rw [← Option.some.inj hf]; exact (FR.pI (by rfl) FR.rf)
    · rw [if_neg h1] at hf
      obtain ⟨h2, hf⟩ := chk_some hf
      obtain ⟨h3, hf⟩ := chk_some hf
      exact FR.trans (FR.pI (inS_all (by rfl)) FR.rf) (ih l1 (l2 + (1 : Int32)) (pI st 52 l2.toNatClampNeg (sI st 52 ((l2 + l1).toNatClampNeg))) hf)
set_option maxHeartbeats 1000000 in
theorem mX8_forgetsEldest {u0 : St}  {st : St}  (hf : fX8_forgetsEldest st = some u0) : FR wX8_forgetsEldest_S st u0 := by
  unfold fX8_forgetsEldest at hf
  exact FR.trans FR.rf (mX8_forgetsEldest_b4  FU (4 : Int32) (0 : Int32) st hf)
def wX8_keepsAll_S : List (Nat × Option Nat) := [(38, some 32), (52, none)]
set_option maxHeartbeats 1000000 in
theorem mX8_keepsAll_b17 {u0 : St} : ∀ (n : Nat) (l1 : Int32) (l2 : Int32) (l3 : Int32) (st : St) , fX8_keepsAll_b17 n l1 l2 l3 st = some u0 → FR wX8_keepsAll_S st u0 := by
  intro n
  induction n with
  | zero =>
    intros
    rename_i hf
    rw [fX8_keepsAll_b17] at hf
    cases hf
  | succ n ih =>
    intro l1 l2 l3 st hf
    rw [fX8_keepsAll_b17] at hf
    by_cases h1 : (3 : Int32) ≤ l3
    · rw [if_pos h1] at hf
      obtain ⟨h2, hf⟩ := chk_some hf
      rw [← Option.some.inj hf]; exact (FR.pI (by rfl) (FR.pI (inS_all (by rfl)) FR.rf))
    · rw [if_neg h1] at hf
      obtain ⟨h3, hf⟩ := chk_some hf
      obtain ⟨h4, hf⟩ := chk_some hf
      exact FR.trans (FR.pI (inS_all (by rfl)) FR.rf) (ih l1 l2 (l3 + (1 : Int32)) (pI st 52 (((l2 * (sI st 38 32)) + l3).toNatClampNeg) (sI st 40 l3.toNatClampNeg)) hf)
set_option maxHeartbeats 1000000 in
theorem mX8_keepsAll_b15 {u0 : St} (l1 : Int32) (l2 : Int32) (st : St)  (hf : fX8_keepsAll_b15 l1 l2 st = some u0) : FR wX8_keepsAll_S st u0 := by
  unfold fX8_keepsAll_b15 at hf
  exact FR.trans FR.rf (mX8_keepsAll_b17  FU l1 l2 (0 : Int32) st hf)
set_option maxHeartbeats 1000000 in
theorem mX8_keepsAll {u0 : St} {p1 : Int32} {st : St}  (hf : fX8_keepsAll p1 st = some u0) : FR wX8_keepsAll_S st u0 := by
  unfold fX8_keepsAll at hf
  rcases (Classical.em ((sI st 38 32) = (16 : Int32))).symm with h1 | h1
  · rw [if_neg h1] at hf
    exact FR.trans FR.rf (mX8_keepsAll_b15  p1 (4 : Int32) st hf)
  · rw [if_pos h1] at hf
    obtain ⟨q2, h3, hf⟩ := bnd_some hf
    exact FR.trans (FR.trans FR.rf (FR.mono (by rfl) (mX8_forgetsEldest h3))) (mX8_keepsAll_b15  p1 (4 : Int32) q2 hf)
def wX8_undo_S : List (Nat × Option Nat) := [(38, some 0), (38, some 32), (39, none), (40, none)]
set_option maxHeartbeats 1000000 in
theorem mX8_undo_b33 {r0 : Int32} {u0 : St} : ∀ (n : Nat) (l1 : Int32) (l2 : Int32) (st : St) , fX8_undo_b33 n l1 l2 st = some (r0, u0) → FR wX8_undo_S st u0 := by
  intro n
  induction n with
  | zero =>
    intros
    rename_i hf
    rw [fX8_undo_b33] at hf
    cases hf
  | succ n ih =>
    intro l1 l2 st hf
    rw [fX8_undo_b33] at hf
    by_cases h1 : (3 : Int32) ≤ l2
    · rw [if_pos h1] at hf
      obtain ⟨h2, hf⟩ := chk_some hf
      exact FR.trans FR.rf (FR.mono (by rfl) (mX8_good hf))
    · rw [if_neg h1] at hf
      obtain ⟨h3, hf⟩ := chk_some hf
      obtain ⟨h4, hf⟩ := chk_some hf
      exact FR.trans (FR.pI (inS_all (by rfl)) FR.rf) (ih l1 (l2 + (1 : Int32)) (pI st 40 l2.toNatClampNeg (sI st 52 ((l1 + l2).toNatClampNeg))) hf)
set_option maxHeartbeats 1000000 in
theorem mX8_undo {r0 : Int32} {u0 : St}  {st : St}  (hf : fX8_undo st = some (r0, u0)) : FR wX8_undo_S st u0 := by
  unfold fX8_undo at hf
  rcases (Classical.em ((sI st 38 32) = 0)).symm with h1 | h1
  · rw [if_neg h1] at hf
    exact FR.trans (FR.pI (by rfl) FR.rf) (mX8_undo_b33  FU ((4 : Int32) * (sI (pI st 38 32 ((sI st 38 32) - (1 : Int32))) 38 32)) (0 : Int32) (pI st 38 32 ((sI st 38 32) - (1 : Int32))) hf)
  · rw [if_pos h1] at hf
    exact FR.trans FR.rf (FR.mono (by rfl) (mX8_refuses hf))
def wX8_goodOr_S : List (Nat × Option Nat) := [(38, some 0), (39, none)]
set_option maxHeartbeats 1000000 in
theorem mX8_goodOr {r0 : Int32} {u0 : St} {p1 : Int32} {st : St}  (hf : fX8_goodOr p1 st = some (r0, u0)) : FR wX8_goodOr_S st u0 := by
  unfold fX8_goodOr at hf
  by_cases h1 : 0 ≤ p1
  · rw [if_pos h1] at hf
    exact FR.trans FR.rf (FR.mono (by rfl) (mX8_good hf))
  · rw [if_neg h1] at hf
    obtain ⟨q2, h3, hf⟩ := bnd_some hf
    rw [← (Prod.mk.inj (Option.some.inj hf)).2]; exact (FR.trans FR.rf (FR.mono (by rfl) (mX8_refuses h3)))
def wX8_saysKept_S : List (Nat × Option Nat) := [(38, some 22), (38, some 23), (38, some 24), (38, some 25), (38, some 32), (40, some 0), (40, some 1), (50, some 0), (50, some 1), (50, some 2), (50, some 3), (50, some 4), (50, some 5), (50, some 6), (51, some 0), (51, none), (52, none)]
set_option maxHeartbeats 1000000 in
theorem mX8_saysKept {r0 : Int32} {u0 : St} {p1 : Int32} {st : St}  (hf : fX8_saysKept p1 st = some (r0, u0)) : FR wX8_saysKept_S st u0 := by
  unfold fX8_saysKept at hf
  rcases (Classical.em ((fX8_isRhyme st p1) = 0)).symm with h1 | h1
  · rw [if_neg h1] at hf
    obtain ⟨q2, h3, hf⟩ := bnd_some hf
    rcases (Classical.em (q2 = 0)).symm with h4 | h4
    · rw [if_neg h4] at hf
      obtain ⟨q5, h6, hf⟩ := bnd_some hf
      exact FR.trans (FR.trans FR.rf (FR.mono (by rfl) (mX8_keepsAll h6))) (FR.mono (by rfl) (mX8_says hf))
    · rw [if_pos h4] at hf
      rw [← (Prod.mk.inj (Option.some.inj hf)).2]; exact FR.rf
  · rw [if_pos h1] at hf
    rw [← (Prod.mk.inj (Option.some.inj hf)).2]; exact FR.rf
def wX8_joinsKept_S : List (Nat × Option Nat) := [(38, some 32), (40, some 0), (52, none)]
set_option maxHeartbeats 1000000 in
theorem mX8_joinsKept {r0 : Int32} {u0 : St} {p1 : Int32} {st : St}  (hf : fX8_joinsKept p1 st = some (r0, u0)) : FR wX8_joinsKept_S st u0 := by
  unfold fX8_joinsKept at hf
  rcases (Classical.em ((fX8_isChild st p1) = 0)).symm with h1 | h1
  · rw [if_neg h1] at hf
    by_cases h2 : (fX8_isIn (sI st 40 0) p1) = 0
    · rw [if_pos h2] at hf
      obtain ⟨q3, h4, hf⟩ := bnd_some hf
      obtain ⟨q5, h6, hf⟩ := bnd_some hf
      rw [← (Prod.mk.inj (Option.some.inj hf)).2]; exact (FR.pI (by rfl) (FR.trans FR.rf (FR.mono (by rfl) (mX8_keepsAll h4))))
    · rw [if_neg h2] at hf
      rw [← (Prod.mk.inj (Option.some.inj hf)).2]; exact FR.rf
  · rw [if_pos h1] at hf
    rw [← (Prod.mk.inj (Option.some.inj hf)).2]; exact FR.rf
def wX8_leavesKept_S : List (Nat × Option Nat) := [(38, some 32), (40, some 0), (52, none)]
set_option maxHeartbeats 1000000 in
theorem mX8_leavesKept {r0 : Int32} {u0 : St} {p1 : Int32} {st : St}  (hf : fX8_leavesKept p1 st = some (r0, u0)) : FR wX8_leavesKept_S st u0 := by
  unfold fX8_leavesKept at hf
  rcases (Classical.em ((fX8_isChild st p1) = 0)).symm with h1 | h1
  · rw [if_neg h1] at hf
    rcases (Classical.em ((fX8_isIn (sI st 40 0) p1) = 0)).symm with h2 | h2
    · rw [if_neg h2] at hf
      obtain ⟨q3, h4, hf⟩ := bnd_some hf
      obtain ⟨q5, h6, hf⟩ := bnd_some hf
      rw [← (Prod.mk.inj (Option.some.inj hf)).2]; exact (FR.pI (by rfl) (FR.trans FR.rf (FR.mono (by rfl) (mX8_keepsAll h4))))
    · rw [if_pos h2] at hf
      rw [← (Prod.mk.inj (Option.some.inj hf)).2]; exact FR.rf
  · rw [if_pos h1] at hf
    rw [← (Prod.mk.inj (Option.some.inj hf)).2]; exact FR.rf
def wX8_passesKept_S : List (Nat × Option Nat) := [(38, some 32), (40, some 0), (40, some 1), (40, some 2), (52, none)]
set_option maxHeartbeats 1000000 in
theorem mX8_passesKept {r0 : Int32} {u0 : St}  {st : St}  (hf : fX8_passesKept st = some (r0, u0)) : FR wX8_passesKept_S st u0 := by
  unfold fX8_passesKept at hf
  rcases (Classical.em ((sI st 40 2) = (999 : Int32))).symm with h1 | h1
  · rw [if_neg h1] at hf
    obtain ⟨q2, h3, hf⟩ := bnd_some hf
    obtain ⟨q4, h5, hf⟩ := bnd_some hf
    rw [← (Prod.mk.inj (Option.some.inj hf)).2]; exact (FR.trans (FR.trans FR.rf (FR.mono (by rfl) (mX8_keepsAll h3))) (FR.mono (by rfl) (mX8_roundPasses h5)))
  · rw [if_pos h1] at hf
    rw [← (Prod.mk.inj (Option.some.inj hf)).2]; exact FR.rf
def wX8_say_S : List (Nat × Option Nat) := [(38, some 0), (38, some 22), (38, some 23), (38, some 24), (38, some 25), (38, some 32), (39, none), (40, some 0), (40, some 1), (50, some 0), (50, some 1), (50, some 2), (50, some 3), (50, some 4), (50, some 5), (50, some 6), (51, some 0), (51, none), (52, none)]
set_option maxHeartbeats 1000000 in
theorem mX8_say {r0 : Int32} {u0 : St} {p1 : Int32} {st : St}  (hf : fX8_say p1 st = some (r0, u0)) : FR wX8_say_S st u0 := by
  unfold fX8_say at hf
  obtain ⟨q1, h2, hf⟩ := bnd_some hf
  exact FR.trans (FR.trans FR.rf (FR.mono (by rfl) (mX8_saysKept h2))) (FR.mono (by rfl) (mX8_goodOr hf))
def wX8_join_S : List (Nat × Option Nat) := [(38, some 0), (38, some 32), (39, none), (40, some 0), (52, none)]
set_option maxHeartbeats 1000000 in
theorem mX8_join {r0 : Int32} {u0 : St} {p1 : Int32} {st : St}  (hf : fX8_join p1 st = some (r0, u0)) : FR wX8_join_S st u0 := by
  unfold fX8_join at hf
  obtain ⟨q1, h2, hf⟩ := bnd_some hf
  exact FR.trans (FR.trans FR.rf (FR.mono (by rfl) (mX8_joinsKept h2))) (FR.mono (by rfl) (mX8_goodOr hf))
def wX8_leave_S : List (Nat × Option Nat) := [(38, some 0), (38, some 32), (39, none), (40, some 0), (52, none)]
set_option maxHeartbeats 1000000 in
theorem mX8_leave {r0 : Int32} {u0 : St} {p1 : Int32} {st : St}  (hf : fX8_leave p1 st = some (r0, u0)) : FR wX8_leave_S st u0 := by
  unfold fX8_leave at hf
  obtain ⟨q1, h2, hf⟩ := bnd_some hf
  exact FR.trans (FR.trans FR.rf (FR.mono (by rfl) (mX8_leavesKept h2))) (FR.mono (by rfl) (mX8_goodOr hf))
def wX8_pass_S : List (Nat × Option Nat) := [(38, some 0), (38, some 32), (39, none), (40, some 0), (40, some 1), (40, some 2), (52, none)]
set_option maxHeartbeats 1000000 in
theorem mX8_pass {r0 : Int32} {u0 : St}  {st : St}  (hf : fX8_pass st = some (r0, u0)) : FR wX8_pass_S st u0 := by
  unfold fX8_pass at hf
  obtain ⟨q1, h2, hf⟩ := bnd_some hf
  exact FR.trans (FR.trans FR.rf (FR.mono (by rfl) (mX8_passesKept h2))) (FR.mono (by rfl) (mX8_goodOr hf))
def wX8_leftBy_S : List (Nat × Option Nat) := [(38, some 22), (38, some 23), (38, some 24), (38, some 25), (38, some 34), (40, some 0), (40, some 1), (40, none), (43, none), (50, some 0), (50, some 1), (50, some 2), (50, some 3), (50, some 4), (50, some 5), (50, some 6), (51, some 0), (51, none), (54, none)]
set_option maxHeartbeats 1000000 in
theorem mX8_leftBy_b67 {r0 : Int32} {u0 : St}  (st : St)  (hf : fX8_leftBy_b67 st = some (r0, u0)) : FR wX8_leftBy_S st u0 := by
  unfold fX8_leftBy_b67 at hf
  obtain ⟨q1, h2, hf⟩ := bnd_some hf
  obtain ⟨q3, h4, hf⟩ := bnd_some hf
  rw [← (Prod.mk.inj (Option.some.inj hf)).2]; exact (FR.trans FR.rf (FR.mono (by rfl) (mX8_takesBack h4)))
set_option maxHeartbeats 1000000 in
theorem mX8_leftBy_b61 {r0 : Int32} {u0 : St} {k12 : Int32 → Int32 → St → Option (Int32 × St)} (hk12 : ∀ (l1 : Int32) (l2 : Int32) (st : St), k12 l1 l2 st = some (r0, u0) → FR wX8_leftBy_S st u0) (l1 : Int32) (l2 : Int32) (st : St)  (hf : fX8_leftBy_b61 k12 l1 l2 st = some (r0, u0)) : FR wX8_leftBy_S st u0 := by
  unfold fX8_leftBy_b61 at hf
  exact FR.trans FR.rf (hk12 l1 (l2 + (1 : Int32)) st hf)
set_option maxHeartbeats 1000000 in
theorem mX8_leftBy_b12 {r0 : Int32} {u0 : St} : ∀ (n : Nat) (l1 : Int32) (l2 : Int32) (st : St) , fX8_leftBy_b12 n l1 l2 st = some (r0, u0) → FR wX8_leftBy_S st u0 := by
  intro n
  induction n with
  | zero =>
    intros
    rename_i hf
    rw [fX8_leftBy_b12] at hf
    cases hf
  | succ n ih =>
    intro l1 l2 st hf
    rw [fX8_leftBy_b12] at hf
    by_cases h1 : (60 : Int32) ≤ l2
    · rw [if_pos h1] at hf
      exact FR.trans FR.rf (mX8_leftBy_b67  st hf)
    · rw [if_neg h1] at hf
      obtain ⟨q2, h3, hf⟩ := bnd_some hf
      by_cases h4 : q2 = 0
      · rw [if_pos h4] at hf
        exact FR.trans FR.rf (mX8_leftBy_b67  st hf)
      · rw [if_neg h4] at hf
        obtain ⟨q5, h6, hf⟩ := bnd_some hf
        by_cases h7 : q5.1 < (100 : Int32)
        · rw [if_pos h7] at hf
          obtain ⟨h8, hf⟩ := chk_some hf
          exact FR.trans (FR.pI (by rfl) (FR.pI (inS_all (by rfl)) (FR.trans FR.rf (FR.mono (by rfl) (mX8_says h6))))) (mX8_leftBy_b61 ih l1 l2 (pI (pI q5.2 54 ((sI q5.2 38 34).toNatClampNeg) q5.1) 38 34 ((sI (pI q5.2 54 ((sI q5.2 38 34).toNatClampNeg) q5.1) 38 34) + (1 : Int32))) hf)
        · rw [if_neg h7] at hf
          exact FR.trans (FR.trans FR.rf (FR.mono (by rfl) (mX8_says h6))) (mX8_leftBy_b61 ih l1 l2 q5.2 hf)
set_option maxHeartbeats 1000000 in
theorem mX8_leftBy {r0 : Int32} {u0 : St} {p1 : Int32} {st : St}  (hf : fX8_leftBy p1 st = some (r0, u0)) : FR wX8_leftBy_S st u0 := by
  unfold fX8_leftBy at hf
  obtain ⟨q1, h2, hf⟩ := bnd_some hf
  exact FR.trans (FR.pI (by rfl) (FR.trans FR.rf (FR.mono (by rfl) (mX8_laysAside h2)))) (mX8_leftBy_b12  FU p1 (0 : Int32) (pI q1 38 34 (0 : Int32)) hf)
def wX8_left_S : List (Nat × Option Nat) := [(38, some 22), (38, some 23), (38, some 24), (38, some 25), (38, some 34), (40, some 0), (40, some 1), (40, none), (43, none), (50, some 0), (50, some 1), (50, some 2), (50, some 3), (50, some 4), (50, some 5), (50, some 6), (51, some 0), (51, none), (54, none)]
set_option maxHeartbeats 1000000 in
theorem mX8_left {r0 : Int32} {u0 : St} {p1 : Int32} {p2 : Int32} {st : St}  (hf : fX8_left p1 p2 st = some (r0, u0)) : FR wX8_left_S st u0 := by
  unfold fX8_left at hf
  by_cases h1 : (fX8_isRhyme st p1) = 0
  · rw [if_pos h1] at hf
    rw [← (Prod.mk.inj (Option.some.inj hf)).2]; exact FR.rf
  · rw [if_neg h1] at hf
    by_cases h2 : (-1 : Int32) ≤ p2
    · rw [if_pos h2] at hf
      obtain ⟨q3, h4, hf⟩ := bnd_some hf
      by_cases h5 : p2 = (-1 : Int32)
      · rw [if_pos h5] at hf
        rw [← (Prod.mk.inj (Option.some.inj hf)).2]; exact (FR.trans FR.rf (FR.mono (by rfl) (mX8_leftBy h4)))
      · rw [if_neg h5] at hf
        rcases (Classical.em (q3.1 = (-1 : Int32))).symm with h6 | h6
        · rw [if_neg h6] at hf
          by_cases h7 : (sI q3.2 38 34) ≤ p2
          · rw [if_pos h7] at hf
            rw [← (Prod.mk.inj (Option.some.inj hf)).2]; exact (FR.trans FR.rf (FR.mono (by rfl) (mX8_leftBy h4)))
          · rw [if_neg h7] at hf
            obtain ⟨h8, hf⟩ := chk_some hf
            rw [← (Prod.mk.inj (Option.some.inj hf)).2]; exact (FR.trans FR.rf (FR.mono (by rfl) (mX8_leftBy h4)))
        · rw [if_pos h6] at hf
          rw [← (Prod.mk.inj (Option.some.inj hf)).2]; exact (FR.trans FR.rf (FR.mono (by rfl) (mX8_leftBy h4)))
    · rw [if_neg h2] at hf
      rw [← (Prod.mk.inj (Option.some.inj hf)).2]; exact FR.rf
def wX8_safe_S : List (Nat × Option Nat) := [(38, some 22), (38, some 23), (38, some 24), (38, some 25), (38, some 34), (40, some 0), (40, some 1), (40, none), (43, none), (50, some 0), (50, some 1), (50, some 2), (50, some 3), (50, some 4), (50, some 5), (50, some 6), (51, some 0), (51, none), (54, none)]
set_option maxHeartbeats 1000000 in
theorem mX8_safe_b70 {r0 : Int32} {u0 : St} {k31 : Int32 → Int32 → Int32 → Int32 → Int32 → St → Option (Int32 × St)} (hk31 : ∀ (l1 : Int32) (l2 : Int32) (l3 : Int32) (l4 : Int32) (l5 : Int32) (st : St), k31 l1 l2 l3 l4 l5 st = some (r0, u0) → FR wX8_safe_S st u0) (l1 : Int32) (l2 : Int32) (l3 : Int32) (l5 : Int32) (s0 : Int32) (s1 : Int32) (st : St)  (hf : fX8_safe_b70 k31 l1 l2 l3 l5 s0 s1 st = some (r0, u0)) : FR wX8_safe_S st u0 := by
  unfold fX8_safe_b70 at hf
  exact FR.trans FR.rf (hk31 l1 l2 l3 (s0 ||| s1) (l5 + (1 : Int32)) st hf)
set_option maxHeartbeats 1000000 in
theorem mX8_safe_b31 {r0 : Int32} {u0 : St} : ∀ (n : Nat) (l1 : Int32) (l2 : Int32) (l3 : Int32) (l4 : Int32) (l5 : Int32) (st : St) , fX8_safe_b31 n l1 l2 l3 l4 l5 st = some (r0, u0) → FR wX8_safe_S st u0 := by
  intro n
  induction n with
  | zero =>
    intros
    rename_i hf
    rw [fX8_safe_b31] at hf
    cases hf
  | succ n ih =>
    intro l1 l2 l3 l4 l5 st hf
    rw [fX8_safe_b31] at hf
    by_cases h1 : (sI st 40 16) ≤ l5
    · rw [if_pos h1] at hf
      rw [← (Prod.mk.inj (Option.some.inj hf)).2]; exact (FR.pI (by rfl) FR.rf)
    · rw [if_neg h1] at hf
      obtain ⟨q2, h3, hf⟩ := bnd_some hf
      rcases (Classical.em (q2.1 = l1)).symm with h4 | h4
      · rw [if_neg h4] at hf
        exact FR.trans (FR.trans (FR.pI (by rfl) FR.rf) (FR.mono (by rfl) (mX8_leftBy h3))) (mX8_safe_b70 ih l1 l2 l3 l5 l4 (0 : Int32) q2.2 hf)
      · rw [if_pos h4] at hf
        exact FR.trans (FR.trans (FR.pI (by rfl) FR.rf) (FR.mono (by rfl) (mX8_leftBy h3))) (mX8_safe_b70 ih l1 l2 l3 l5 l4 (jshl (1 : Int32) l5) q2.2 hf)
set_option maxHeartbeats 1000000 in
theorem mX8_safe {r0 : Int32} {u0 : St} {p1 : Int32} {p2 : Int32} {st : St}  (hf : fX8_safe p1 p2 st = some (r0, u0)) : FR wX8_safe_S st u0 := by
  unfold fX8_safe at hf
  by_cases h1 : (fX8_isChild st p1) = 0
  · rw [if_pos h1] at hf
    rw [← (Prod.mk.inj (Option.some.inj hf)).2]; exact FR.rf
  · rw [if_neg h1] at hf
    rcases (Classical.em ((fX8_isRhyme st p2) = 0)).symm with h2 | h2
    · rw [if_neg h2] at hf
      exact FR.trans FR.rf (mX8_safe_b31  FU p1 p2 (sI st 40 1) (0 : Int32) (0 : Int32) st hf)
    · rw [if_pos h2] at hf
      rw [← (Prod.mk.inj (Option.some.inj hf)).2]; exact FR.rf
def wX8_compare_S : List (Nat × Option Nat) := [(38, some 22), (38, some 23), (38, some 24), (38, some 25), (38, some 34), (40, some 0), (40, some 1), (40, some 19), (40, none), (43, none), (50, some 0), (50, some 1), (50, some 2), (50, some 3), (50, some 4), (50, some 5), (50, some 6), (51, some 0), (51, none), (54, none)]
set_option maxHeartbeats 1000000 in
theorem mX8_compare {r0 : Int32} {u0 : St} {p1 : Int32} {p2 : Int32} {st : St}  (hf : fX8_compare p1 p2 st = some (r0, u0)) : FR wX8_compare_S st u0 := by
  unfold fX8_compare at hf
  by_cases h1 : (fX8_isLaw st p1) = 0
  · rw [if_pos h1] at hf
    rw [← (Prod.mk.inj (Option.some.inj hf)).2]; exact FR.rf
  · rw [if_neg h1] at hf
    rcases (Classical.em ((fX8_isRhyme st p2) = 0)).symm with h2 | h2
    · rw [if_neg h2] at hf
      obtain ⟨q3, h4, hf⟩ := bnd_some hf
      rw [← (Prod.mk.inj (Option.some.inj hf)).2]; exact (FR.pI (by rfl) (FR.trans (FR.pI (by rfl) FR.rf) (FR.mono (by rfl) (mX8_leftBy h4))))
    · rw [if_pos h2] at hf
      rw [← (Prod.mk.inj (Option.some.inj hf)).2]; exact FR.rf
def wX8_setsState_S : List (Nat × Option Nat) := [(40, some 0), (40, some 1)]
set_option maxHeartbeats 1000000 in
theorem mX8_setsState {u0 : St} {p1 : Int32} {st : St}  (hf : fX8_setsState p1 st = some u0) : FR wX8_setsState_S st u0 := by
  unfold fX8_setsState at hf
  rw [← Option.some.inj hf]; exact (FR.pI (by rfl) (FR.pI (by rfl) FR.rf))
def wX8_laysLeads_S : List (Nat × Option Nat) := [(38, some 22), (38, some 23), (38, some 24), (38, some 25), (40, some 0), (40, some 1), (40, none), (43, none), (50, some 0), (50, some 1), (50, some 2), (50, some 3), (50, some 4), (50, some 5), (50, some 6), (51, some 0), (51, none), (55, none)]
set_option maxHeartbeats 1000000 in
theorem mX8_laysLeads_b81 {u0 : St} {k7 : Int32 → St → Option St} (hk7 : ∀ (l1 : Int32) (st : St), k7 l1 st = some u0 → FR wX8_laysLeads_S st u0) (l1 : Int32) (st : St)  (hf : fX8_laysLeads_b81 k7 l1 st = some u0) : FR wX8_laysLeads_S st u0 := by
  unfold fX8_laysLeads_b81 at hf
  exact FR.trans FR.rf (hk7 (l1 + (1 : Int32)) st hf)
set_option maxHeartbeats 1000000 in
theorem mX8_laysLeads_b38 {u0 : St} {k7 : Int32 → St → Option St} (hk7 : ∀ (l1 : Int32) (st : St), k7 l1 st = some u0 → FR wX8_laysLeads_S st u0) : ∀ (n : Nat) (l1 : Int32) (l2 : Int32) (st : St) , fX8_laysLeads_b38 k7 n l1 l2 st = some u0 → FR wX8_laysLeads_S st u0 := by
  intro n
  induction n with
  | zero =>
    intros
    rename_i hf
    rw [fX8_laysLeads_b38] at hf
    cases hf
  | succ n ih =>
    intro l1 l2 st hf
    rw [fX8_laysLeads_b38] at hf
    by_cases h1 : (sI st 40 17) ≤ l2
    · rw [if_pos h1] at hf
      exact FR.trans FR.rf (mX8_laysLeads_b81 hk7 l1 st hf)
    · rw [if_neg h1] at hf
      obtain ⟨q2, h3, hf⟩ := bnd_some hf
      obtain ⟨q4, h5, hf⟩ := bnd_some hf
      obtain ⟨h6, hf⟩ := chk_some hf
      exact FR.trans (FR.pI (inS_all (by rfl)) (FR.trans (FR.trans FR.rf (FR.mono (by rfl) (mX8_setsState h3))) (FR.mono (by rfl) (mX8_says h5)))) (ih l1 (l2 + (1 : Int32)) (pI q4.2 55 ((((5 : Int32) * l1) + l2).toNatClampNeg) (fX8_stateNow q4.2)) hf)
set_option maxHeartbeats 1000000 in
theorem mX8_laysLeads_b7 {u0 : St} : ∀ (n : Nat) (l1 : Int32) (st : St) , fX8_laysLeads_b7 n l1 st = some u0 → FR wX8_laysLeads_S st u0 := by
  intro n
  induction n with
  | zero =>
    intros
    rename_i hf
    rw [fX8_laysLeads_b7] at hf
    cases hf
  | succ n ih =>
    intro l1 st hf
    rw [fX8_laysLeads_b7] at hf
    by_cases h1 : (384 : Int32) ≤ l1
    · rw [if_pos h1] at hf
      exact FR.trans FR.rf (FR.mono (by rfl) (mX8_takesBack hf))
    · rw [if_neg h1] at hf
      by_cases h2 : (fX8_isState st l1) = 0
      · rw [if_pos h2] at hf
        exact FR.trans FR.rf (mX8_laysLeads_b81 ih l1 st hf)
      · rw [if_neg h2] at hf
        obtain ⟨q3, h4, hf⟩ := bnd_some hf
        by_cases h5 : (2 : Int32) ≤ q3
        · rw [if_pos h5] at hf
          exact FR.trans FR.rf (mX8_laysLeads_b38 ih FU l1 (0 : Int32) st hf)
        · rw [if_neg h5] at hf
          exact FR.trans FR.rf (mX8_laysLeads_b81 ih l1 st hf)
set_option maxHeartbeats 1000000 in
theorem mX8_laysLeads {u0 : St}  {st : St}  (hf : fX8_laysLeads st = some u0) : FR wX8_laysLeads_S st u0 := by
  unfold fX8_laysLeads at hf
  obtain ⟨q1, h2, hf⟩ := bnd_some hf
  exact FR.trans (FR.trans FR.rf (FR.mono (by rfl) (mX8_laysAside h2))) (mX8_laysLeads_b7  FU (0 : Int32) q1 hf)
def wX8_reaches_S : List (Nat × Option Nat) := [(38, some 40), (56, none), (57, none), (58, none), (59, none)]
set_option maxHeartbeats 1000000 in
theorem mX8_reaches {u0 : St} {p1 : Int32} {p2 : Int32} {p3 : Int32} {st : St}  (hf : fX8_reaches p1 p2 p3 st = some u0) : FR wX8_reaches_S st u0 := by
  unfold fX8_reaches at hf
  obtain ⟨h1, hf⟩ := chk_some hf
  by_cases h2 : (sI st 59 p1.toNatClampNeg) = 0
  · rw [if_pos h2] at hf
    obtain ⟨h3, hf⟩ := chk_some hf
    obtain ⟨h4, hf⟩ := chk_some hf
    obtain ⟨h5, hf⟩ := chk_some hf
    obtain ⟨h6, hf⟩ := chk_some hf
    rw [← Option.some.inj hf]; exact (FR.pI (by rfl) (FR.pI (inS_all (by rfl)) (FR.pI (inS_all (by rfl)) (FR.pI (inS_all (by rfl)) (FR.pI (inS_all (by rfl)) FR.rf)))))
  · rw [if_neg h2] at hf
    rw [← Option.some.inj hf]; exact FR.rf
def wX8_reachesAlone_S : List (Nat × Option Nat) := [(38, some 40), (56, none), (57, none), (58, none), (59, none)]
set_option maxHeartbeats 1000000 in
theorem mX8_reachesAlone_b119 {r0 : Int32} {u0 : St} {k39 : Int32 → Int32 → St → Option (Int32 × St)} (hk39 : ∀ (l1 : Int32) (l2 : Int32) (st : St), k39 l1 l2 st = some (r0, u0) → FR wX8_reachesAlone_S st u0) (l1 : Int32) (l2 : Int32) (st : St)  (hf : fX8_reachesAlone_b119 k39 l1 l2 st = some (r0, u0)) : FR wX8_reachesAlone_S st u0 := by
  unfold fX8_reachesAlone_b119 at hf
  exact FR.trans FR.rf (hk39 l1 (l2 + (1 : Int32)) st hf)
set_option maxHeartbeats 1000000 in
theorem mX8_reachesAlone_b83 {r0 : Int32} {u0 : St} {k39 : Int32 → Int32 → St → Option (Int32 × St)} (hk39 : ∀ (l1 : Int32) (l2 : Int32) (st : St), k39 l1 l2 st = some (r0, u0) → FR wX8_reachesAlone_S st u0) : ∀ (n : Nat) (l1 : Int32) (l2 : Int32) (l3 : Int32) (l4 : Int32) (st : St) , fX8_reachesAlone_b83 k39 n l1 l2 l3 l4 st = some (r0, u0) → FR wX8_reachesAlone_S st u0 := by
  intro n
  induction n with
  | zero =>
    intros
    rename_i hf
    rw [fX8_reachesAlone_b83] at hf
    cases hf
  | succ n ih =>
    intro l1 l2 l3 l4 st hf
    rw [fX8_reachesAlone_b83] at hf
    by_cases h1 : (sI st 40 17) ≤ l4
    · rw [if_pos h1] at hf
      exact FR.trans FR.rf (mX8_reachesAlone_b119 hk39 l1 l2 st hf)
    · rw [if_neg h1] at hf
      obtain ⟨h2, hf⟩ := chk_some hf
      obtain ⟨q3, h4, hf⟩ := bnd_some hf
      exact FR.trans (FR.trans FR.rf (FR.mono (by rfl) (mX8_reaches h4))) (ih l1 l2 l3 (l4 + (1 : Int32)) q3 hf)
set_option maxHeartbeats 1000000 in
theorem mX8_reachesAlone_b39 {r0 : Int32} {u0 : St} : ∀ (n : Nat) (l1 : Int32) (l2 : Int32) (st : St) , fX8_reachesAlone_b39 n l1 l2 st = some (r0, u0) → FR wX8_reachesAlone_S st u0 := by
  intro n
  induction n with
  | zero =>
    intros
    rename_i hf
    rw [fX8_reachesAlone_b39] at hf
    cases hf
  | succ n ih =>
    intro l1 l2 st hf
    rw [fX8_reachesAlone_b39] at hf
    by_cases h1 : (sI st 38 40) ≤ l2
    · rw [if_pos h1] at hf
      rw [← (Prod.mk.inj (Option.some.inj hf)).2]; exact FR.rf
    · rw [if_neg h1] at hf
      obtain ⟨h2, hf⟩ := chk_some hf
      rcases (Classical.em ((fX8_insideOf (sI st 56 l2.toNatClampNeg)) = (jshl (1 : Int32) l1))).symm with h3 | h3
      · rw [if_neg h3] at hf
        obtain ⟨q4, h5, hf⟩ := bnd_some hf
        by_cases h6 : (2 : Int32) ≤ q4
        · rw [if_pos h6] at hf
          exact FR.trans FR.rf (mX8_reachesAlone_b83 ih FU l1 l2 (sI st 56 l2.toNatClampNeg) (0 : Int32) st hf)
        · rw [if_neg h6] at hf
          exact FR.trans FR.rf (mX8_reachesAlone_b119 ih l1 l2 st hf)
      · rw [if_pos h3] at hf
        rw [← (Prod.mk.inj (Option.some.inj hf)).2]; exact FR.rf
set_option maxHeartbeats 1000000 in
theorem mX8_reachesAlone_b2 {r0 : Int32} {u0 : St} : ∀ (n : Nat) (l1 : Int32) (l2 : Int32) (st : St) , fX8_reachesAlone_b2 n l1 l2 st = some (r0, u0) → FR wX8_reachesAlone_S st u0 := by
  intro n
  induction n with
  | zero =>
    intros
    rename_i hf
    rw [fX8_reachesAlone_b2] at hf
    cases hf
  | succ n ih =>
    intro l1 l2 st hf
    rw [fX8_reachesAlone_b2] at hf
    by_cases h1 : (384 : Int32) ≤ l2
    · rw [if_pos h1] at hf
      obtain ⟨q2, h3, hf⟩ := bnd_some hf
      exact FR.trans (FR.trans (FR.pI (by rfl) FR.rf) (FR.mono (by rfl) (mX8_reaches h3))) (mX8_reachesAlone_b39  FU l1 (0 : Int32) q2 hf)
    · rw [if_neg h1] at hf
      obtain ⟨h4, hf⟩ := chk_some hf
      exact FR.trans (FR.pI (inS_all (by rfl)) FR.rf) (ih l1 (l2 + (1 : Int32)) (pI st 59 l2.toNatClampNeg (vp_nar .boolean (0 : Int32))) hf)
set_option maxHeartbeats 1000000 in
theorem mX8_reachesAlone {r0 : Int32} {u0 : St} {p1 : Int32} {st : St}  (hf : fX8_reachesAlone p1 st = some (r0, u0)) : FR wX8_reachesAlone_S st u0 := by
  unfold fX8_reachesAlone at hf
  exact FR.trans FR.rf (mX8_reachesAlone_b2  FU p1 (0 : Int32) st hf)
def wX8_alone_S : List (Nat × Option Nat) := [(38, some 22), (38, some 23), (38, some 24), (38, some 25), (38, some 40), (40, some 0), (40, some 1), (40, none), (43, none), (50, some 0), (50, some 1), (50, some 2), (50, some 3), (50, some 4), (50, some 5), (50, some 6), (51, some 0), (51, none), (55, none), (56, none), (57, none), (58, none), (59, none), (60, none)]
set_option maxHeartbeats 1000000 in
theorem mX8_alone_b35 {r0 : Int32} {u0 : St} : ∀ (n : Nat) (l2 : Int32) (l3 : Int32) (l4 : Int32) (st : St) , fX8_alone_b35 n l2 l3 l4 st = some (r0, u0) → FR wX8_alone_S st u0 := by
  intro n
  induction n with
  | zero =>
    intros
    rename_i hf
    rw [fX8_alone_b35] at hf
    cases hf
  | succ n ih =>
    intro l2 l3 l4 st hf
    rw [fX8_alone_b35] at hf
    obtain ⟨h1, hf⟩ := chk_some hf
    by_cases h2 : (sI st 57 l3.toNatClampNeg) = (-1 : Int32)
    · rw [if_pos h2] at hf
      rcases (Classical.em (l2 = (-1 : Int32))).symm with h3 | h3
      · rw [if_neg h3] at hf
        by_cases h4 : l4 ≤ l2
        · rw [if_pos h4] at hf
          rw [← (Prod.mk.inj (Option.some.inj hf)).2]; exact FR.rf
        · rw [if_neg h4] at hf
          obtain ⟨h5, hf⟩ := chk_some hf
          rw [← (Prod.mk.inj (Option.some.inj hf)).2]; exact FR.rf
      · rw [if_pos h3] at hf
        rw [← (Prod.mk.inj (Option.some.inj hf)).2]; exact FR.rf
    · rw [if_neg h2] at hf
      obtain ⟨h6, hf⟩ := chk_some hf
      obtain ⟨h7, hf⟩ := chk_some hf
      obtain ⟨h8, hf⟩ := chk_some hf
      exact FR.trans (FR.pI (inS_all (by rfl)) FR.rf) (ih l2 (sI (pI st 60 l4.toNatClampNeg (sI st 58 l3.toNatClampNeg)) 57 l3.toNatClampNeg) (l4 + (1 : Int32)) (pI st 60 l4.toNatClampNeg (sI st 58 l3.toNatClampNeg)) hf)
set_option maxHeartbeats 1000000 in
theorem mX8_alone {r0 : Int32} {u0 : St} {p1 : Int32} {p2 : Int32} {st : St}  (hf : fX8_alone p1 p2 st = some (r0, u0)) : FR wX8_alone_S st u0 := by
  unfold fX8_alone at hf
  by_cases h1 : (fX8_isChild st p1) = 0
  · rw [if_pos h1] at hf
    rw [← (Prod.mk.inj (Option.some.inj hf)).2]; exact FR.rf
  · rw [if_neg h1] at hf
    by_cases h2 : (-1 : Int32) ≤ p2
    · rw [if_pos h2] at hf
      obtain ⟨q3, h4, hf⟩ := bnd_some hf
      obtain ⟨q5, h6, hf⟩ := bnd_some hf
      rcases (Classical.em (q5.1 = (-1 : Int32))).symm with h7 | h7
      · rw [if_neg h7] at hf
        exact FR.trans (FR.trans (FR.trans FR.rf (FR.mono (by rfl) (mX8_laysLeads h4))) (FR.mono (by rfl) (mX8_reachesAlone h6))) (mX8_alone_b35  FU p2 q5.1 (0 : Int32) q5.2 hf)
      · rw [if_pos h7] at hf
        rw [← (Prod.mk.inj (Option.some.inj hf)).2]; exact (FR.trans (FR.trans FR.rf (FR.mono (by rfl) (mX8_laysLeads h4))) (FR.mono (by rfl) (mX8_reachesAlone h6)))
    · rw [if_neg h2] at hf
      rw [← (Prod.mk.inj (Option.some.inj hf)).2]; exact FR.rf
def wX8_choiceAt_S : List (Nat × Option Nat) := [(40, some 0), (40, some 1)]
set_option maxHeartbeats 1000000 in
theorem mX8_choiceAt_b57 {r0 : Int32} {u0 : St} (l4 : Int32) (st : St)  (hf : fX8_choiceAt_b57 l4 st = some (r0, u0)) : FR wX8_choiceAt_S st u0 := by
  unfold fX8_choiceAt_b57 at hf
  rcases (Classical.em (l4 = (sI st 40 17))).symm with h1 | h1
  · rw [if_neg h1] at hf
    rw [← (Prod.mk.inj (Option.some.inj hf)).2]; exact FR.rf
  · rw [if_pos h1] at hf
    rw [← (Prod.mk.inj (Option.some.inj hf)).2]; exact FR.rf
set_option maxHeartbeats 1000000 in
theorem mX8_choiceAt_b13 {r0 : Int32} {u0 : St} : ∀ (n : Nat) (l1 : Int32) (l2 : Int32) (l3 : Int32) (l4 : Int32) (st : St) , fX8_choiceAt_b13 n l1 l2 l3 l4 st = some (r0, u0) → FR wX8_choiceAt_S st u0 := by
  intro n
  induction n with
  | zero =>
    intros
    rename_i hf
    rw [fX8_choiceAt_b13] at hf
    cases hf
  | succ n ih =>
    intro l1 l2 l3 l4 st hf
    rw [fX8_choiceAt_b13] at hf
    by_cases h1 : (sI st 40 17) ≤ l4
    · rw [if_pos h1] at hf
      exact FR.trans FR.rf (mX8_choiceAt_b57  l4 st hf)
    · rw [if_neg h1] at hf
      obtain ⟨h2, hf⟩ := chk_some hf
      obtain ⟨h3, hf⟩ := chk_some hf
      rcases (Classical.em ((sI st 61 ((((384 : Int32) * l2) + (sI st 55 ((((5 : Int32) * l1) + l4).toNatClampNeg))).toNatClampNeg)) = l3)).symm with h4 | h4
      · rw [if_neg h4] at hf
        exact FR.trans FR.rf (mX8_choiceAt_b57  l4 st hf)
      · rw [if_pos h4] at hf
        exact FR.trans FR.rf (ih l1 l2 l3 (l4 + (1 : Int32)) st hf)
set_option maxHeartbeats 1000000 in
theorem mX8_choiceAt {r0 : Int32} {u0 : St} {p1 : Int32} {p2 : Int32} {st : St}  (hf : fX8_choiceAt p1 p2 st = some (r0, u0)) : FR wX8_choiceAt_S st u0 := by
  unfold fX8_choiceAt at hf
  obtain ⟨q1, h2, hf⟩ := bnd_some hf
  obtain ⟨q3, h4, hf⟩ := bnd_some hf
  exact FR.trans (FR.trans FR.rf (FR.mono (by rfl) (mX8_setsState h2))) (mX8_choiceAt_b13  FU p1 p2 q3 (0 : Int32) q1 hf)
def wX8_itAt_S : List (Nat × Option Nat) := [(38, some 43), (40, some 0), (40, some 1)]
set_option maxHeartbeats 1000000 in
theorem mX8_itAt {r0 : Int32} {u0 : St} {p1 : Int32} {p2 : Int32} {st : St}  (hf : fX8_itAt p1 p2 st = some (r0, u0)) : FR wX8_itAt_S st u0 := by
  unfold fX8_itAt at hf
  obtain ⟨q1, h2, hf⟩ := bnd_some hf
  by_cases h3 : (2 : Int32) ≤ q1
  · rw [if_pos h3] at hf
    rcases (Classical.em ((sI st 40 17) = 0)).symm with h4 | h4
    · rw [if_neg h4] at hf
      obtain ⟨q5, h6, hf⟩ := bnd_some hf
      obtain ⟨h7, hf⟩ := chk_some hf
      obtain ⟨h8, hf⟩ := chk_some hf
      rw [← (Prod.mk.inj (Option.some.inj hf)).2]; exact (FR.pI (by rfl) (FR.trans FR.rf (FR.mono (by rfl) (mX8_choiceAt h6))))
    · rw [if_pos h4] at hf
      rw [← (Prod.mk.inj (Option.some.inj hf)).2]; exact FR.rf
  · rw [if_neg h3] at hf
    rcases (Classical.em ((fX8_insideOf p1) = 0)).symm with h9 | h9
    · rw [if_neg h9] at hf
      obtain ⟨q10, h11, hf⟩ := bnd_some hf
      rw [← (Prod.mk.inj (Option.some.inj hf)).2]; exact FR.rf
    · rw [if_pos h9] at hf
      rw [← (Prod.mk.inj (Option.some.inj hf)).2]; exact FR.rf
def wX8_laysIts_S : List (Nat × Option Nat) := [(38, some 43), (40, some 0), (40, some 1), (61, none)]
set_option maxHeartbeats 1000000 in
theorem mX8_laysIts_b40 {u0 : St} {k2 : Int32 → Int32 → St → Option St} (hk2 : ∀ (l1 : Int32) (l2 : Int32) (st : St), k2 l1 l2 st = some u0 → FR wX8_laysIts_S st u0) (l1 : Int32) (l2 : Int32) (st : St)  (hf : fX8_laysIts_b40 k2 l1 l2 st = some u0) : FR wX8_laysIts_S st u0 := by
  unfold fX8_laysIts_b40 at hf
  exact FR.trans FR.rf (hk2 l1 (l2 + (1 : Int32)) st hf)
set_option maxHeartbeats 1000000 in
theorem mX8_laysIts_b2 {u0 : St} : ∀ (n : Nat) (l1 : Int32) (l2 : Int32) (st : St) , fX8_laysIts_b2 n l1 l2 st = some u0 → FR wX8_laysIts_S st u0 := by
  intro n
  induction n with
  | zero =>
    intros
    rename_i hf
    rw [fX8_laysIts_b2] at hf
    cases hf
  | succ n ih =>
    intro l1 l2 st hf
    rw [fX8_laysIts_b2] at hf
    by_cases h1 : (384 : Int32) ≤ l2
    · rw [if_pos h1] at hf
      rw [← Option.some.inj hf]; exact FR.rf
    · rw [if_neg h1] at hf
      rcases (Classical.em ((fX8_isState st l2) = 0)).symm with h2 | h2
      · rw [if_neg h2] at hf
        obtain ⟨q3, h4, hf⟩ := bnd_some hf
        obtain ⟨h5, hf⟩ := chk_some hf
        exact FR.trans (FR.pI (inS_all (by rfl)) (FR.trans FR.rf (FR.mono (by rfl) (mX8_itAt h4)))) (mX8_laysIts_b40 ih l1 l2 (pI q3.2 61 ((((384 : Int32) * ((1 : Int32) - l1)) + l2).toNatClampNeg) q3.1) hf)
      · rw [if_pos h2] at hf
        exact FR.trans FR.rf (mX8_laysIts_b40 ih l1 l2 st hf)
set_option maxHeartbeats 1000000 in
theorem mX8_laysIts {u0 : St} {p1 : Int32} {st : St}  (hf : fX8_laysIts p1 st = some u0) : FR wX8_laysIts_S st u0 := by
  unfold fX8_laysIts at hf
  exact FR.trans FR.rf (mX8_laysIts_b2  FU p1 (0 : Int32) st hf)
def wX8_laysEnd_S : List (Nat × Option Nat) := [(61, none)]
set_option maxHeartbeats 1000000 in
theorem mX8_laysEnd_b35 {u0 : St} {k2 : Int32 → St → Option St} (hk2 : ∀ (l1 : Int32) (st : St), k2 l1 st = some u0 → FR wX8_laysEnd_S st u0) (l1 : Int32) (s1 : Int32) (s2 : Int32) (st : St)  (hf : fX8_laysEnd_b35 k2 l1 s1 s2 st = some u0) : FR wX8_laysEnd_S st u0 := by
  unfold fX8_laysEnd_b35 at hf
  obtain ⟨h1, hf⟩ := chk_some hf
  exact FR.trans (FR.pI (inS_all (by rfl)) FR.rf) (hk2 (l1 + (1 : Int32)) (pI st 61 s1.toNatClampNeg s2) hf)
set_option maxHeartbeats 1000000 in
theorem mX8_laysEnd_b2 {u0 : St} : ∀ (n : Nat) (l1 : Int32) (st : St) , fX8_laysEnd_b2 n l1 st = some u0 → FR wX8_laysEnd_S st u0 := by
  intro n
  induction n with
  | zero =>
    intros
    rename_i hf
    rw [fX8_laysEnd_b2] at hf
    cases hf
  | succ n ih =>
    intro l1 st hf
    rw [fX8_laysEnd_b2] at hf
    by_cases h1 : (384 : Int32) ≤ l1
    · rw [if_pos h1] at hf
      rw [← Option.some.inj hf]; exact FR.rf
    · rw [if_neg h1] at hf
      obtain ⟨q2, h3, hf⟩ := bnd_some hf
      rcases (Classical.em (q2 = (1 : Int32))).symm with h4 | h4
      · rw [if_neg h4] at hf
        exact FR.trans FR.rf (mX8_laysEnd_b35 ih l1 l1 (-1 : Int32) st hf)
      · rw [if_pos h4] at hf
        obtain ⟨q5, h6, hf⟩ := bnd_some hf
        exact FR.trans FR.rf (mX8_laysEnd_b35 ih l1 l1 q5 st hf)
set_option maxHeartbeats 1000000 in
theorem mX8_laysEnd {u0 : St}  {st : St}  (hf : fX8_laysEnd st = some u0) : FR wX8_laysEnd_S st u0 := by
  unfold fX8_laysEnd at hf
  exact FR.trans FR.rf (mX8_laysEnd_b2  FU (0 : Int32) st hf)
def wX8_game_S : List (Nat × Option Nat) := [(38, some 22), (38, some 23), (38, some 24), (38, some 25), (38, some 43), (40, some 0), (40, some 1), (40, none), (43, none), (50, some 0), (50, some 1), (50, some 2), (50, some 3), (50, some 4), (50, some 5), (50, some 6), (51, some 0), (51, none), (55, none), (61, none)]
set_option maxHeartbeats 1000000 in
theorem mX8_game_b56 {r0 : Int32} {u0 : St} : ∀ (n : Nat) (l1 : Int32) (l2 : Int32) (l3 : Int32) (st : St) , fX8_game_b56 n l1 l2 l3 st = some (r0, u0) → FR wX8_game_S st u0 := by
  intro n
  induction n with
  | zero =>
    intros
    rename_i hf
    rw [fX8_game_b56] at hf
    cases hf
  | succ n ih =>
    intro l1 l2 l3 st hf
    rw [fX8_game_b56] at hf
    by_cases h1 : (11 : Int32) ≤ l3
    · rw [if_pos h1] at hf
      obtain ⟨q2, h3, hf⟩ := bnd_some hf
      obtain ⟨q4, h5, hf⟩ := bnd_some hf
      rcases (Classical.em (l1 = 0)).symm with h6 | h6
      · rw [if_neg h6] at hf
        rw [← (Prod.mk.inj (Option.some.inj hf)).2]; exact (FR.trans (FR.trans FR.rf (FR.mono (by rfl) (mX8_itAt h3))) (FR.mono (by rfl) (mX8_takesBack h5)))
      · rw [if_pos h6] at hf
        rw [← (Prod.mk.inj (Option.some.inj hf)).2]; exact (FR.trans (FR.trans FR.rf (FR.mono (by rfl) (mX8_itAt h3))) (FR.mono (by rfl) (mX8_takesBack h5)))
    · rw [if_neg h1] at hf
      obtain ⟨q7, h8, hf⟩ := bnd_some hf
      exact FR.trans (FR.trans FR.rf (FR.mono (by rfl) (mX8_laysIts h8))) (ih l1 l2 (l3 + (1 : Int32)) q7 hf)
set_option maxHeartbeats 1000000 in
theorem mX8_game_b36 {r0 : Int32} {u0 : St} (l1 : Int32) (st : St)  (hf : fX8_game_b36 l1 st = some (r0, u0)) : FR wX8_game_S st u0 := by
  unfold fX8_game_b36 at hf
  obtain ⟨q1, h2, hf⟩ := bnd_some hf
  obtain ⟨q3, h4, hf⟩ := bnd_some hf
  obtain ⟨q5, h6, hf⟩ := bnd_some hf
  exact FR.trans (FR.trans (FR.trans (FR.trans FR.rf (FR.mono (by rfl) (mX8_laysLeads h2))) (FR.mono (by rfl) (mX8_laysAside h4))) (FR.mono (by rfl) (mX8_laysEnd h6))) (mX8_game_b56  FU l1 (fX8_stateNow st) (0 : Int32) q5 hf)
set_option maxHeartbeats 1000000 in
theorem mX8_game {r0 : Int32} {u0 : St} {p1 : Int32} {st : St}  (hf : fX8_game p1 st = some (r0, u0)) : FR wX8_game_S st u0 := by
  unfold fX8_game at hf
  rcases (Classical.em ((fX8_lies p1 (0 : Int32) (1 : Int32)) = 0)).symm with h1 | h1
  · rw [if_neg h1] at hf
    rcases (Classical.em (p1 = (1 : Int32))).symm with h2 | h2
    · rw [if_neg h2] at hf
      exact FR.trans FR.rf (mX8_game_b36  p1 st hf)
    · rw [if_pos h2] at hf
      obtain ⟨q3, h4, hf⟩ := bnd_some hf
      by_cases h5 : q3 < (2 : Int32)
      · rw [if_pos h5] at hf
        rw [← (Prod.mk.inj (Option.some.inj hf)).2]; exact FR.rf
      · rw [if_neg h5] at hf
        rcases (Classical.em ((sI st 40 17) = 0)).symm with h6 | h6
        · rw [if_neg h6] at hf
          exact FR.trans FR.rf (mX8_game_b36  p1 st hf)
        · rw [if_pos h6] at hf
          rw [← (Prod.mk.inj (Option.some.inj hf)).2]; exact FR.rf
  · rw [if_pos h1] at hf
    rw [← (Prod.mk.inj (Option.some.inj hf)).2]; exact FR.rf
def wX8_spreadsPart_S : List (Nat × Option Nat) := [(62, none)]
set_option maxHeartbeats 1000000 in
theorem mX8_spreadsPart_b35 {u0 : St} : ∀ (n : Nat) (l1 : Int32) (l2 : Int64) (l4 : Int32) (l5 : Int32) (st : St) , fX8_spreadsPart_b35 n l1 l2 l4 l5 st = some u0 → FR wX8_spreadsPart_S st u0 := by
  intro n
  induction n with
  | zero =>
    intros
    rename_i hf
    rw [fX8_spreadsPart_b35] at hf
    cases hf
  | succ n ih =>
    intro l1 l2 l4 l5 st hf
    rw [fX8_spreadsPart_b35] at hf
    by_cases h1 : (sI st 40 17) ≤ l5
    · rw [if_pos h1] at hf
      rw [← Option.some.inj hf]; exact FR.rf
    · rw [if_neg h1] at hf
      obtain ⟨h2, hf⟩ := chk_some hf
      obtain ⟨h3, hf⟩ := chk_some hf
      obtain ⟨h4, hf⟩ := chk_some hf
      obtain ⟨h5, hf⟩ := chk_some hf
      exact FR.trans (FR.pL (inS_all (by rfl)) FR.rf) (ih l1 l2 l4 (l5 + (1 : Int32)) (pL st 62 ((l4 + (sI st 55 ((((5 : Int32) * l1) + l5).toNatClampNeg))).toNatClampNeg) ((sL st 62 ((l4 + (sI st 55 ((((5 : Int32) * l1) + l5).toNatClampNeg))).toNatClampNeg)) + (l2 / ((sI st 40 17).toInt64)))) hf)
set_option maxHeartbeats 1000000 in
theorem mX8_spreadsPart {u0 : St} {p1 : Int32} {p2 : Int64} {p3 : Int32} {st : St}  (hf : fX8_spreadsPart p1 p2 p3 st = some u0) : FR wX8_spreadsPart_S st u0 := by
  unfold fX8_spreadsPart at hf
  rcases (Classical.em ((lg_cmp p2 (0 : Int64)) = 0)).symm with h1 | h1
  · rw [if_neg h1] at hf
    obtain ⟨q2, h3, hf⟩ := bnd_some hf
    by_cases h4 : (2 : Int32) ≤ q2
    · rw [if_pos h4] at hf
      exact FR.trans FR.rf (mX8_spreadsPart_b35  FU p1 p2 p3 (0 : Int32) st hf)
    · rw [if_neg h4] at hf
      obtain ⟨h5, hf⟩ := chk_some hf
      obtain ⟨h6, hf⟩ := chk_some hf
      rw [← Option.some.inj hf]; exact (FR.pL (inS_all (by rfl)) FR.rf)
  · rw [if_pos h1] at hf
    rw [← Option.some.inj hf]; exact FR.rf
def wX8_spreads_S : List (Nat × Option Nat) := [(62, none)]
set_option maxHeartbeats 1000000 in
theorem mX8_spreads_b34 {u0 : St} : ∀ (n : Nat) (l1 : Int32) (l2 : Int32) (l3 : Int32) (st : St) , fX8_spreads_b34 n l1 l2 l3 st = some u0 → FR wX8_spreads_S st u0 := by
  intro n
  induction n with
  | zero =>
    intros
    rename_i hf
    rw [fX8_spreads_b34] at hf
    cases hf
  | succ n ih =>
    intro l1 l2 l3 st hf
    rw [fX8_spreads_b34] at hf
    by_cases h1 : (384 : Int32) ≤ l3
    · rw [if_pos h1] at hf
      rw [← Option.some.inj hf]; exact FR.rf
    · rw [if_neg h1] at hf
      obtain ⟨h2, hf⟩ := chk_some hf
      obtain ⟨q3, h4, hf⟩ := bnd_some hf
      exact FR.trans (FR.trans FR.rf (FR.mono (by rfl) (mX8_spreadsPart h4))) (ih l1 l2 (l3 + (1 : Int32)) q3 hf)
set_option maxHeartbeats 1000000 in
theorem mX8_spreads_b10 {u0 : St} : ∀ (n : Nat) (l1 : Int32) (l2 : Int32) (l3 : Int32) (st : St) , fX8_spreads_b10 n l1 l2 l3 st = some u0 → FR wX8_spreads_S st u0 := by
  intro n
  induction n with
  | zero =>
    intros
    rename_i hf
    rw [fX8_spreads_b10] at hf
    cases hf
  | succ n ih =>
    intro l1 l2 l3 st hf
    rw [fX8_spreads_b10] at hf
    by_cases h1 : (384 : Int32) ≤ l3
    · rw [if_pos h1] at hf
      exact FR.trans FR.rf (mX8_spreads_b34  FU l1 l2 (0 : Int32) st hf)
    · rw [if_neg h1] at hf
      obtain ⟨h2, hf⟩ := chk_some hf
      exact FR.trans (FR.pL (inS_all (by rfl)) FR.rf) (ih l1 l2 (l3 + (1 : Int32)) (pL st 62 ((l2 + l3).toNatClampNeg) (0 : Int64)) hf)
set_option maxHeartbeats 1000000 in
theorem mX8_spreads {u0 : St} {p1 : Int32} {st : St}  (hf : fX8_spreads p1 st = some u0) : FR wX8_spreads_S st u0 := by
  unfold fX8_spreads at hf
  exact FR.trans FR.rf (mX8_spreads_b10  FU p1 ((384 : Int32) * ((1 : Int32) - p1)) (0 : Int32) st hf)
def wX8_chances_S : List (Nat × Option Nat) := [(38, some 22), (38, some 23), (38, some 24), (38, some 25), (40, some 0), (40, some 1), (40, none), (43, none), (50, some 0), (50, some 1), (50, some 2), (50, some 3), (50, some 4), (50, some 5), (50, some 6), (51, some 0), (51, none), (55, none), (62, none)]
set_option maxHeartbeats 1000000 in
theorem mX8_chances_b72 {r0 : Int64} {u0 : St} : ∀ (n : Nat) (l1 : Int32) (l2 : Int32) (l3 : Int32) (st : St) , fX8_chances_b72 n l1 l2 l3 st = some (r0, u0) → FR wX8_chances_S st u0 := by
  intro n
  induction n with
  | zero =>
    intros
    rename_i hf
    rw [fX8_chances_b72] at hf
    cases hf
  | succ n ih =>
    intro l1 l2 l3 st hf
    rw [fX8_chances_b72] at hf
    by_cases h1 : l2 ≤ l3
    · rw [if_pos h1] at hf
      obtain ⟨q2, h3, hf⟩ := bnd_some hf
      rw [← (Prod.mk.inj (Option.some.inj hf)).2]; exact FR.rf
    · rw [if_neg h1] at hf
      obtain ⟨q4, h5, hf⟩ := bnd_some hf
      exact FR.trans (FR.trans FR.rf (FR.mono (by rfl) (mX8_spreads h5))) (ih l1 l2 (l3 + (1 : Int32)) q4 hf)
set_option maxHeartbeats 1000000 in
theorem mX8_chances_b38 {r0 : Int64} {u0 : St} : ∀ (n : Nat) (l1 : Int32) (l2 : Int32) (l3 : Int32) (st : St) , fX8_chances_b38 n l1 l2 l3 st = some (r0, u0) → FR wX8_chances_S st u0 := by
  intro n
  induction n with
  | zero =>
    intros
    rename_i hf
    rw [fX8_chances_b38] at hf
    cases hf
  | succ n ih =>
    intro l1 l2 l3 st hf
    rw [fX8_chances_b38] at hf
    by_cases h1 : (768 : Int32) ≤ l3
    · rw [if_pos h1] at hf
      obtain ⟨h2, hf⟩ := chk_some hf
      exact FR.trans (FR.pL (inS_all (by rfl)) FR.rf) (mX8_chances_b72  FU l1 l2 (0 : Int32) (pL st 62 ((fX8_stateNow st).toNatClampNeg) (1000000000000 : Int64)) hf)
    · rw [if_neg h1] at hf
      obtain ⟨h3, hf⟩ := chk_some hf
      exact FR.trans (FR.pL (inS_all (by rfl)) FR.rf) (ih l1 l2 (l3 + (1 : Int32)) (pL st 62 l3.toNatClampNeg (0 : Int64)) hf)
set_option maxHeartbeats 1000000 in
theorem mX8_chances {r0 : Int64} {u0 : St} {p1 : Int32} {p2 : Int32} {st : St}  (hf : fX8_chances p1 p2 st = some (r0, u0)) : FR wX8_chances_S st u0 := by
  unfold fX8_chances at hf
  by_cases h1 : (fX8_isChild st p1) = 0
  · rw [if_pos h1] at hf
    rw [← (Prod.mk.inj (Option.some.inj hf)).2]; exact FR.rf
  · rw [if_neg h1] at hf
    by_cases h2 : (fX8_lies p2 (0 : Int32) (20 : Int32)) = 0
    · rw [if_pos h2] at hf
      rw [← (Prod.mk.inj (Option.some.inj hf)).2]; exact FR.rf
    · rw [if_neg h2] at hf
      rcases (Classical.em ((sI st 40 17) = 0)).symm with h3 | h3
      · rw [if_neg h3] at hf
        obtain ⟨q4, h5, hf⟩ := bnd_some hf
        exact FR.trans (FR.trans FR.rf (FR.mono (by rfl) (mX8_laysLeads h5))) (mX8_chances_b38  FU p1 p2 (0 : Int32) q4 hf)
      · rw [if_pos h3] at hf
        rw [← (Prod.mk.inj (Option.some.inj hf)).2]; exact FR.rf
def wX8_laysRow_S : List (Nat × Option Nat) := [(63, none)]
set_option maxHeartbeats 1000000 in
theorem mX8_laysRow_b7 {u0 : St} : ∀ (n : Nat) (l3 : Int32) (l4 : Int32) (st : St) , fX8_laysRow_b7 n l3 l4 st = some u0 → FR wX8_laysRow_S st u0 := by
  intro n
  induction n with
  | zero =>
    intros
    rename_i hf
    rw [fX8_laysRow_b7] at hf
    cases hf
  | succ n ih =>
    intro l3 l4 st hf
    rw [fX8_laysRow_b7] at hf
    by_cases h1 : l4 < 0
    · rw [if_pos h1] at hf
      rw [← Option.some.inj hf]; exact FR.rf
    · rw [if_neg h1] at hf
      obtain ⟨h2, hf⟩ := chk_some hf
      obtain ⟨h3, hf⟩ := chk_some hf
      obtain ⟨h4, hf⟩ := chk_some hf
      exact FR.trans (FR.pI (inS_all (by rfl)) FR.rf) (ih (l3 / (sI (pI st 63 l4.toNatClampNeg (jrem l3 (sI st 40 17))) 40 17)) (l4 + (-1 : Int32)) (pI st 63 l4.toNatClampNeg (jrem l3 (sI st 40 17))) hf)
set_option maxHeartbeats 1000000 in
theorem mX8_laysRow {u0 : St} {p1 : Int32} {p2 : Int32} {st : St}  (hf : fX8_laysRow p1 p2 st = some u0) : FR wX8_laysRow_S st u0 := by
  unfold fX8_laysRow at hf
  exact FR.trans FR.rf (mX8_laysRow_b7  FU p1 (p2 - (1 : Int32)) st hf)
def wX8_said_S : List (Nat × Option Nat) := [(38, some 22), (38, some 23), (38, some 24), (38, some 25), (40, some 0), (40, some 1), (40, none), (43, none), (50, some 0), (50, some 1), (50, some 2), (50, some 3), (50, some 4), (50, some 5), (50, some 6), (51, some 0), (51, none), (55, none), (63, none)]
set_option maxHeartbeats 1000000 in
theorem mX8_said_b90 {r0 : Int32} {u0 : St} {k42 : Int32 → Int32 → Int32 → Int32 → Int32 → St → Option (Int32 × St)} (hk42 : ∀ (l1 : Int32) (l2 : Int32) (l3 : Int32) (l4 : Int32) (l5 : Int32) (st : St), k42 l1 l2 l3 l4 l5 st = some (r0, u0) → FR wX8_said_S st u0) (l1 : Int32) (l2 : Int32) (l3 : Int32) (l4 : Int32) (l5 : Int32) (st : St)  (hf : fX8_said_b90 k42 l1 l2 l3 l4 l5 st = some (r0, u0)) : FR wX8_said_S st u0 := by
  unfold fX8_said_b90 at hf
  exact FR.trans FR.rf (hk42 l1 l2 l3 l4 (l5 + (1 : Int32)) st hf)
set_option maxHeartbeats 1000000 in
theorem mX8_said_b42 {r0 : Int32} {u0 : St} : ∀ (n : Nat) (l1 : Int32) (l2 : Int32) (l3 : Int32) (l4 : Int32) (l5 : Int32) (st : St) , fX8_said_b42 n l1 l2 l3 l4 l5 st = some (r0, u0) → FR wX8_said_S st u0 := by
  intro n
  induction n with
  | zero =>
    intros
    rename_i hf
    rw [fX8_said_b42] at hf
    cases hf
  | succ n ih =>
    intro l1 l2 l3 l4 l5 st hf
    rw [fX8_said_b42] at hf
    obtain ⟨q1, h2, hf⟩ := bnd_some hf
    by_cases h3 : q1 ≤ l5
    · rw [if_pos h3] at hf
      rcases (Classical.em (l2 = (-1 : Int32))).symm with h4 | h4
      · rw [if_neg h4] at hf
        rw [← (Prod.mk.inj (Option.some.inj hf)).2]; exact FR.rf
      · rw [if_pos h4] at hf
        rw [← (Prod.mk.inj (Option.some.inj hf)).2]; exact FR.rf
    · rw [if_neg h3] at hf
      obtain ⟨q5, h6, hf⟩ := bnd_some hf
      obtain ⟨q7, h8, hf⟩ := bnd_some hf
      by_cases h9 : q7 = (fX8_stateNow q5)
      · rw [if_pos h9] at hf
        rcases (Classical.em (l4 = l2)).symm with h10 | h10
        · rw [if_neg h10] at hf
          exact FR.trans (FR.trans FR.rf (FR.mono (by rfl) (mX8_laysRow h6))) (mX8_said_b90 ih l1 l2 l3 (l4 + (1 : Int32)) l5 q5 hf)
        · rw [if_pos h10] at hf
          obtain ⟨h11, hf⟩ := chk_some hf
          rw [← (Prod.mk.inj (Option.some.inj hf)).2]; exact (FR.trans FR.rf (FR.mono (by rfl) (mX8_laysRow h6)))
      · rw [if_neg h9] at hf
        exact FR.trans (FR.trans FR.rf (FR.mono (by rfl) (mX8_laysRow h6))) (mX8_said_b90 ih l1 l2 l3 l4 l5 q5 hf)
set_option maxHeartbeats 1000000 in
theorem mX8_said_b32 {r0 : Int32} {u0 : St} (l1 : Int32) (l2 : Int32) (l3 : Int32) (st : St)  (hf : fX8_said_b32 l1 l2 l3 st = some (r0, u0)) : FR wX8_said_S st u0 := by
  unfold fX8_said_b32 at hf
  obtain ⟨q1, h2, hf⟩ := bnd_some hf
  exact FR.trans (FR.trans FR.rf (FR.mono (by rfl) (mX8_laysLeads h2))) (mX8_said_b42  FU l1 l2 l3 (0 : Int32) (0 : Int32) q1 hf)
set_option maxHeartbeats 1000000 in
theorem mX8_said {r0 : Int32} {u0 : St} {p1 : Int32} {p2 : Int32} {p3 : Int32} {st : St}  (hf : fX8_said p1 p2 p3 st = some (r0, u0)) : FR wX8_said_S st u0 := by
  unfold fX8_said at hf
  by_cases h1 : (fX8_lies p1 (0 : Int32) (4 : Int32)) = 0
  · rw [if_pos h1] at hf
    rw [← (Prod.mk.inj (Option.some.inj hf)).2]; exact FR.rf
  · rw [if_neg h1] at hf
    by_cases h2 : p2 < (-1 : Int32)
    · rw [if_pos h2] at hf
      rw [← (Prod.mk.inj (Option.some.inj hf)).2]; exact FR.rf
    · rw [if_neg h2] at hf
      by_cases h3 : p2 ≤ (-1 : Int32)
      · rw [if_pos h3] at hf
        exact FR.trans FR.rf (mX8_said_b32  p1 p2 p3 st hf)
      · rw [if_neg h3] at hf
        rcases (Classical.em ((fX8_lies p3 (0 : Int32) (p1 - (1 : Int32))) = 0)).symm with h4 | h4
        · rw [if_neg h4] at hf
          exact FR.trans FR.rf (mX8_said_b32  p1 p2 p3 st hf)
        · rw [if_pos h4] at hf
          rw [← (Prod.mk.inj (Option.some.inj hf)).2]; exact FR.rf
def wX8_laysAllAside_S : List (Nat × Option Nat) := [(38, some 50), (43, none), (53, none)]
set_option maxHeartbeats 1000000 in
theorem mX8_laysAllAside_b7 {u0 : St} : ∀ (n : Nat) (l1 : Int32) (st : St) , fX8_laysAllAside_b7 n l1 st = some u0 → FR wX8_laysAllAside_S st u0 := by
  intro n
  induction n with
  | zero =>
    intros
    rename_i hf
    rw [fX8_laysAllAside_b7] at hf
    cases hf
  | succ n ih =>
    intro l1 st hf
    rw [fX8_laysAllAside_b7] at hf
    by_cases h1 : (64 : Int32) ≤ l1
    · rw [if_pos h1] at hf
      rw [← Option.some.inj hf]; exact (FR.pI (by rfl) FR.rf)
    · rw [if_neg h1] at hf
      obtain ⟨h2, hf⟩ := chk_some hf
      obtain ⟨h3, hf⟩ := chk_some hf
      exact FR.trans (FR.pI (inS_all (by rfl)) FR.rf) (ih (l1 + (1 : Int32)) (pI st 53 l1.toNatClampNeg (sI st 52 l1.toNatClampNeg)) hf)
set_option maxHeartbeats 1000000 in
theorem mX8_laysAllAside {u0 : St}  {st : St}  (hf : fX8_laysAllAside st = some u0) : FR wX8_laysAllAside_S st u0 := by
  unfold fX8_laysAllAside at hf
  obtain ⟨q1, h2, hf⟩ := bnd_some hf
  exact FR.trans (FR.trans FR.rf (FR.mono (by rfl) (mX8_laysAside h2))) (mX8_laysAllAside_b7  FU (0 : Int32) q1 hf)
def wX8_takesAllBack_S : List (Nat × Option Nat) := [(38, some 32), (40, none), (52, none)]
set_option maxHeartbeats 1000000 in
theorem mX8_takesAllBack_b7 {u0 : St} : ∀ (n : Nat) (l1 : Int32) (st : St) , fX8_takesAllBack_b7 n l1 st = some u0 → FR wX8_takesAllBack_S st u0 := by
  intro n
  induction n with
  | zero =>
    intros
    rename_i hf
    rw [fX8_takesAllBack_b7] at hf
    cases hf
  | succ n ih =>
    intro l1 st hf
    rw [fX8_takesAllBack_b7] at hf
    by_cases h1 : (64 : Int32) ≤ l1
    · rw [if_pos h1] at hf
      rw [← Option.some.inj hf]; exact (FR.pI (by rfl) FR.rf)
    · rw [if_neg h1] at hf
      obtain ⟨h2, hf⟩ := chk_some hf
      obtain ⟨h3, hf⟩ := chk_some hf
      exact FR.trans (FR.pI (inS_all (by rfl)) FR.rf) (ih (l1 + (1 : Int32)) (pI st 52 l1.toNatClampNeg (sI st 53 l1.toNatClampNeg)) hf)
set_option maxHeartbeats 1000000 in
theorem mX8_takesAllBack {u0 : St}  {st : St}  (hf : fX8_takesAllBack st = some u0) : FR wX8_takesAllBack_S st u0 := by
  unfold fX8_takesAllBack at hf
  obtain ⟨q1, h2, hf⟩ := bnd_some hf
  exact FR.trans (FR.trans FR.rf (FR.mono (by rfl) (mX8_takesBack h2))) (mX8_takesAllBack_b7  FU (0 : Int32) q1 hf)
def wX8_goesAlong_S : List (Nat × Option Nat) := [(38, some 22), (38, some 23), (38, some 24), (38, some 25), (38, some 48), (38, some 49), (38, some 51), (38, some 52), (38, some 53)]
set_option maxHeartbeats 1000000 in
theorem mX8_goesAlong_b174 {u0 : St} (s1 : Int32) (st : St)  (hf : fX8_goesAlong_b174 s1 st = some u0) : FR wX8_goesAlong_S st u0 := by
  unfold fX8_goesAlong_b174 at hf
  obtain ⟨h1, hf⟩ := chk_some hf
  rw [← Option.some.inj hf]; exact (FR.pI (by rfl) (FR.pI (by rfl) FR.rf))
set_option maxHeartbeats 1000000 in
theorem mX8_goesAlong_b173 {u0 : St}  (st : St)  (hf : fX8_goesAlong_b173 st = some u0) : FR wX8_goesAlong_S st u0 := by
  unfold fX8_goesAlong_b173 at hf
  exact FR.trans FR.rf (mX8_goesAlong_b174  (0 : Int32) st hf)
set_option maxHeartbeats 1000000 in
theorem mX8_goesAlong_b151 {u0 : St} (s1 : Int32) (st : St)  (hf : fX8_goesAlong_b151 s1 st = some u0) : FR wX8_goesAlong_S st u0 := by
  unfold fX8_goesAlong_b151 at hf
  obtain ⟨h1, hf⟩ := chk_some hf
  by_cases h2 : (sI (pI st 38 52 s1) 38 52) = 0
  · rw [if_pos h2] at hf
    exact FR.trans (FR.pI (by rfl) FR.rf) (mX8_goesAlong_b173  (pI st 38 52 s1) hf)
  · rw [if_neg h2] at hf
    rcases (Classical.em ((sI (pI st 38 52 s1) 38 24) = 0)).symm with h3 | h3
    · rw [if_neg h3] at hf
      exact FR.trans (FR.pI (by rfl) FR.rf) (mX8_goesAlong_b173  (pI st 38 52 s1) hf)
    · rw [if_pos h3] at hf
      exact FR.trans (FR.pI (by rfl) FR.rf) (mX8_goesAlong_b174  (1 : Int32) (pI st 38 52 s1) hf)
set_option maxHeartbeats 1000000 in
theorem mX8_goesAlong_b146 {u0 : St}  (st : St)  (hf : fX8_goesAlong_b146 st = some u0) : FR wX8_goesAlong_S st u0 := by
  unfold fX8_goesAlong_b146 at hf
  exact FR.trans FR.rf (mX8_goesAlong_b151  (1 : Int32) st hf)
set_option maxHeartbeats 1000000 in
theorem mX8_goesAlong_b124 {u0 : St} (l2 : Int32) (st : St)  (hf : fX8_goesAlong_b124 l2 st = some u0) : FR wX8_goesAlong_S st u0 := by
  unfold fX8_goesAlong_b124 at hf
  obtain ⟨q1, h2, hf⟩ := bnd_some hf
  by_cases h3 : q1.1 = 0
  · rw [if_pos h3] at hf
    exact FR.trans (FR.trans (FR.pI (by rfl) FR.rf) (FR.mono (by rfl) (mX8_passes0 h2))) (mX8_goesAlong_b146  q1.2 hf)
  · rw [if_neg h3] at hf
    obtain ⟨q4, h5, hf⟩ := bnd_some hf
    by_cases h6 : q4.1 = 0
    · rw [if_pos h6] at hf
      exact FR.trans (FR.trans (FR.trans (FR.pI (by rfl) FR.rf) (FR.mono (by rfl) (mX8_passes0 h2))) (FR.mono (by rfl) (mX8_testOf h5))) (mX8_goesAlong_b151  (0 : Int32) q4.2 hf)
    · rw [if_neg h6] at hf
      exact FR.trans (FR.trans (FR.trans (FR.pI (by rfl) FR.rf) (FR.mono (by rfl) (mX8_passes0 h2))) (FR.mono (by rfl) (mX8_testOf h5))) (mX8_goesAlong_b146  q4.2 hf)
set_option maxHeartbeats 1000000 in
theorem mX8_goesAlong_b80 {u0 : St} (l2 : Int32) (s1 : Int32) (st : St)  (hf : fX8_goesAlong_b80 l2 s1 st = some u0) : FR wX8_goesAlong_S st u0 := by
  unfold fX8_goesAlong_b80 at hf
  obtain ⟨h1, hf⟩ := chk_some hf
  obtain ⟨q2, h3, hf⟩ := bnd_some hf
  by_cases h4 : q2.1 = 0
  · rw [if_pos h4] at hf
    exact FR.trans (FR.trans (FR.pI (by rfl) (FR.pI (by rfl) FR.rf)) (FR.mono (by rfl) (mX8_passes0 h3))) (mX8_goesAlong_b124  l2 q2.2 hf)
  · rw [if_neg h4] at hf
    obtain ⟨h5, hf⟩ := chk_some hf
    exact FR.trans (FR.pI (by rfl) (FR.pI (by rfl) (FR.trans (FR.pI (by rfl) (FR.pI (by rfl) FR.rf)) (FR.mono (by rfl) (mX8_passes0 h3))))) (mX8_goesAlong_b124  l2 (pI (pI q2.2 38 48 (sI q2.2 40 (((2827 : Int32) + (sI q2.2 38 22)).toNatClampNeg))) 38 22 ((sI (pI q2.2 38 48 (sI q2.2 40 (((2827 : Int32) + (sI q2.2 38 22)).toNatClampNeg))) 38 22) + (1 : Int32))) hf)
set_option maxHeartbeats 1000000 in
theorem mX8_goesAlong_b64 {u0 : St} (l2 : Int32) (s1 : Int64) (st : St)  (hf : fX8_goesAlong_b64 l2 s1 st = some u0) : FR wX8_goesAlong_S st u0 := by
  unfold fX8_goesAlong_b64 at hf
  rcases (Classical.em ((sI (pL st 38 53 s1) 38 24) = 0)).symm with h1 | h1
  · rw [if_neg h1] at hf
    exact FR.trans (FR.pL (by rfl) FR.rf) (mX8_goesAlong_b80  l2 (0 : Int32) (pL st 38 53 s1) hf)
  · rw [if_pos h1] at hf
    exact FR.trans (FR.pL (by rfl) FR.rf) (mX8_goesAlong_b80  l2 (1 : Int32) (pL st 38 53 s1) hf)
set_option maxHeartbeats 1000000 in
theorem mX8_goesAlong {u0 : St} {p1 : Int32} {p2 : Int32} {st : St}  (hf : fX8_goesAlong p1 p2 st = some u0) : FR wX8_goesAlong_S st u0 := by
  unfold fX8_goesAlong at hf
  obtain ⟨q1, h2, hf⟩ := bnd_some hf
  rcases (Classical.em ((sI (pI (pI (pI (pI (pI (pI st 38 25 (1 : Int32)) 38 23 p1) 38 22 (sI (pI (pI st 38 25 (1 : Int32)) 38 23 p1) 38 47)) 38 49 q1) 38 22 ((sI (pI (pI (pI (pI st 38 25 (1 : Int32)) 38 23 p1) 38 22 (sI (pI (pI st 38 25 (1 : Int32)) 38 23 p1) 38 47)) 38 49 q1) 38 22) + (1 : Int32))) 38 24 (0 : Int32)) 38 49) = (23 : Int32))).symm with h3 | h3
  · rw [if_neg h3] at hf
    obtain ⟨q4, h5, hf⟩ := bnd_some hf
    exact FR.trans (FR.trans (FR.pI (by rfl) (FR.pI (by rfl) (FR.pI (by rfl) (FR.pI (by rfl) (FR.pI (by rfl) (FR.pI (by rfl) FR.rf)))))) (FR.mono (by rfl) (mX8_sumOf h5))) (mX8_goesAlong_b64  p2 q4.1 q4.2 hf)
  · rw [if_pos h3] at hf
    exact FR.trans (FR.pI (by rfl) (FR.pI (by rfl) (FR.pI (by rfl) (FR.pI (by rfl) (FR.pI (by rfl) (FR.pI (by rfl) FR.rf)))))) (mX8_goesAlong_b64  p2 (0 : Int64) (pI (pI (pI (pI (pI (pI st 38 25 (1 : Int32)) 38 23 p1) 38 22 (sI (pI (pI st 38 25 (1 : Int32)) 38 23 p1) 38 47)) 38 49 q1) 38 22 ((sI (pI (pI (pI (pI st 38 25 (1 : Int32)) 38 23 p1) 38 22 (sI (pI (pI st 38 25 (1 : Int32)) 38 23 p1) 38 47)) 38 49 q1) 38 22) + (1 : Int32))) 38 24 (0 : Int32)) hf)
def wX8_obeys_S : List (Nat × Option Nat) := [(38, some 22), (38, some 23), (38, some 24), (38, some 25), (38, some 28), (38, some 32), (40, some 0), (40, some 1), (40, some 2), (50, some 0), (50, some 1), (50, some 2), (50, some 3), (50, some 4), (50, some 5), (50, some 6), (51, some 0), (51, none), (52, none)]
set_option maxHeartbeats 1000000 in
theorem mX8_obeys {r0 : Int32} {u0 : St}  {st : St}  (hf : fX8_obeys st = some (r0, u0)) : FR wX8_obeys_S st u0 := by
  unfold fX8_obeys at hf
  by_cases h1 : sI st 38 49 = (21 : Int32)
  · rw [if_pos h1] at hf
    exact FR.trans FR.rf (FR.mono (by rfl) (mX8_joinsKept hf))
  · rw [if_neg h1] at hf
    by_cases h2 : sI st 38 49 = (22 : Int32)
    · rw [if_pos h2] at hf
      exact FR.trans FR.rf (FR.mono (by rfl) (mX8_leavesKept hf))
    · rw [if_neg h2] at hf
      by_cases h3 : sI st 38 49 = (23 : Int32)
      · rw [if_pos h3] at hf
        exact FR.trans FR.rf (FR.mono (by rfl) (mX8_passesKept hf))
      · rw [if_neg h3] at hf
        obtain ⟨q4, h5, hf⟩ := bnd_some hf
        by_cases h6 : 0 ≤ q4.1
        · rw [if_pos h6] at hf
          rw [← (Prod.mk.inj (Option.some.inj hf)).2]; exact (FR.pI (by rfl) (FR.trans FR.rf (FR.mono (by rfl) (mX8_saysKept h5))))
        · rw [if_neg h6] at hf
          rw [← (Prod.mk.inj (Option.some.inj hf)).2]; exact (FR.pI (by rfl) (FR.trans FR.rf (FR.mono (by rfl) (mX8_saysKept h5))))
def wX8_runs_S : List (Nat × Option Nat) := [(38, some 22), (38, some 23), (38, some 24), (38, some 25), (38, some 27), (38, some 28), (38, some 32), (38, some 47), (38, some 48), (38, some 49), (38, some 51), (38, some 52), (38, some 53), (40, some 0), (40, some 1), (40, some 2), (50, some 0), (50, some 1), (50, some 2), (50, some 3), (50, some 4), (50, some 5), (50, some 6), (51, some 0), (51, none), (52, none)]
set_option maxHeartbeats 1000000 in
theorem mX8_runs_b67 {r0 : Int32} {u0 : St} {k19 : Int32 → Int32 → Int32 → Int32 → St → Option (Int32 × St)} (hk19 : ∀ (l1 : Int32) (l2 : Int32) (l3 : Int32) (l4 : Int32) (st : St), k19 l1 l2 l3 l4 st = some (r0, u0) → FR wX8_runs_S st u0) (l1 : Int32) (l2 : Int32) (l3 : Int32) (l4 : Int32) (st : St)  (hf : fX8_runs_b67 k19 l1 l2 l3 l4 st = some (r0, u0)) : FR wX8_runs_S st u0 := by
  unfold fX8_runs_b67 at hf
  exact FR.trans FR.rf (hk19 l1 l2 l3 (l4 + (1 : Int32)) st hf)
set_option maxHeartbeats 1000000 in
theorem mX8_runs_b19 {r0 : Int32} {u0 : St} : ∀ (n : Nat) (l1 : Int32) (l2 : Int32) (l3 : Int32) (l4 : Int32) (st : St) , fX8_runs_b19 n l1 l2 l3 l4 st = some (r0, u0) → FR wX8_runs_S st u0 := by
  intro n
  induction n with
  | zero =>
    intros
    rename_i hf
    rw [fX8_runs_b19] at hf
    cases hf
  | succ n ih =>
    intro l1 l2 l3 l4 st hf
    rw [fX8_runs_b19] at hf
    by_cases h1 : l2 ≤ l4
    · rw [if_pos h1] at hf
      rw [← (Prod.mk.inj (Option.some.inj hf)).2]; exact (FR.pI (by rfl) FR.rf)
    · rw [if_neg h1] at hf
      obtain ⟨q2, h3, hf⟩ := bnd_some hf
      rcases (Classical.em ((sI q2 38 52) = 0)).symm with h4 | h4
      · rw [if_neg h4] at hf
        by_cases h5 : (sI q2 38 51) = 0
        · rw [if_pos h5] at hf
          rw [← (Prod.mk.inj (Option.some.inj hf)).2]; exact (FR.trans FR.rf (FR.mono (by rfl) (mX8_goesAlong h3)))
        · rw [if_neg h5] at hf
          obtain ⟨q6, h7, hf⟩ := bnd_some hf
          by_cases h8 : 0 ≤ q6.1
          · rw [if_pos h8] at hf
            exact FR.trans (FR.pI (by rfl) (FR.trans (FR.trans FR.rf (FR.mono (by rfl) (mX8_goesAlong h3))) (FR.mono (by rfl) (mX8_obeys h7)))) (mX8_runs_b67 ih l1 l2 l3 l4 (pI q6.2 38 27 ((sI q6.2 38 27) + (1 : Int32))) hf)
          · rw [if_neg h8] at hf
            rw [← (Prod.mk.inj (Option.some.inj hf)).2]; exact (FR.trans (FR.trans FR.rf (FR.mono (by rfl) (mX8_goesAlong h3))) (FR.mono (by rfl) (mX8_obeys h7)))
      · rw [if_pos h4] at hf
        exact FR.trans (FR.trans FR.rf (FR.mono (by rfl) (mX8_goesAlong h3))) (mX8_runs_b67 ih l1 l2 l3 l4 q2 hf)
set_option maxHeartbeats 1000000 in
theorem mX8_runs {r0 : Int32} {u0 : St} {p1 : Int32} {st : St}  (hf : fX8_runs p1 st = some (r0, u0)) : FR wX8_runs_S st u0 := by
  unfold fX8_runs at hf
  obtain ⟨q1, h2, hf⟩ := bnd_some hf
  exact FR.trans (FR.trans FR.rf (FR.mono (by rfl) (mX8_goesAlong h2))) (mX8_runs_b19  FU p1 (sI q1 38 48) (sI q1 38 22) (0 : Int32) q1 hf)
def wX8_orders_S : List (Nat × Option Nat) := [(38, some 0), (38, some 10), (38, some 13), (38, some 14), (38, some 18), (38, some 19), (38, some 20), (38, some 21), (38, some 22), (38, some 23), (38, some 24), (38, some 25), (38, some 27), (38, some 28), (38, some 32), (38, some 46), (38, some 47), (38, some 48), (38, some 49), (38, some 50), (38, some 51), (38, some 52), (38, some 53), (38, some 8), (38, some 9), (39, none), (40, some 0), (40, some 1), (40, some 2), (40, none), (43, none), (47, none), (48, none), (49, none), (50, some 0), (50, some 1), (50, some 2), (50, some 3), (50, some 4), (50, some 5), (50, some 6), (51, some 0), (51, none), (52, none), (53, none)]
set_option maxHeartbeats 1000000 in
theorem mX8_orders_b62 {r0 : Int32} {u0 : St} : ∀ (n : Nat) (l1 : Int32) (l2 : Int32) (st : St) , fX8_orders_b62 n l1 l2 st = some (r0, u0) → FR wX8_orders_S st u0 := by
  intro n
  induction n with
  | zero =>
    intros
    rename_i hf
    rw [fX8_orders_b62] at hf
    cases hf
  | succ n ih =>
    intro l1 l2 st hf
    rw [fX8_orders_b62] at hf
    by_cases h1 : l1 ≤ (sI st 38 47)
    · rw [if_pos h1] at hf
      exact FR.trans FR.rf (FR.mono (by rfl) (mX8_good hf))
    · rw [if_neg h1] at hf
      obtain ⟨q2, h3, hf⟩ := bnd_some hf
      by_cases h4 : q2.1 = 0
      · rw [if_pos h4] at hf
        obtain ⟨q5, h6, hf⟩ := bnd_some hf
        exact FR.trans (FR.pI (by rfl) (FR.trans (FR.trans FR.rf (FR.mono (by rfl) (mX8_runs h3))) (FR.mono (by rfl) (mX8_takesAllBack h6)))) (FR.mono (by rfl) (mX8_refuses hf))
      · rw [if_neg h4] at hf
        exact FR.trans (FR.trans FR.rf (FR.mono (by rfl) (mX8_runs h3))) (ih l1 (l2 + (1 : Int32)) q2.2 hf)
set_option maxHeartbeats 1000000 in
theorem mX8_orders {r0 : Int32} {u0 : St}  {st : St}  (hf : fX8_orders st = some (r0, u0)) : FR wX8_orders_S st u0 := by
  unfold fX8_orders at hf
  obtain ⟨q1, h2, hf⟩ := bnd_some hf
  rcases (Classical.em (q1.1 = 0)).symm with h3 | h3
  · rw [if_neg h3] at hf
    obtain ⟨q4, h5, hf⟩ := bnd_some hf
    obtain ⟨q6, h7, hf⟩ := bnd_some hf
    exact FR.trans (FR.pI (by rfl) (FR.pI (by rfl) (FR.pI (by rfl) (FR.trans (FR.trans (FR.trans (FR.pI (by rfl) FR.rf) (FR.mono (by rfl) (mX8_readsAs h2))) (FR.mono (by rfl) (mX8_laysAllAside h5))) (FR.mono (by rfl) (mX8_lays h7)))))) (mX8_orders_b62  FU ((sI (pI (pI (pI q6 38 27 (0 : Int32)) 38 28 (-1 : Int32)) 38 47 (2400 : Int32)) 38 47) + (sI (pI (pI (pI q6 38 27 (0 : Int32)) 38 28 (-1 : Int32)) 38 47 (2400 : Int32)) 40 26)) (0 : Int32) (pI (pI (pI q6 38 27 (0 : Int32)) 38 28 (-1 : Int32)) 38 47 (2400 : Int32)) hf)
  · rw [if_pos h3] at hf
    exact FR.trans (FR.trans (FR.pI (by rfl) FR.rf) (FR.mono (by rfl) (mX8_readsAs h2))) (FR.mono (by rfl) (mX8_refuses hf))
def wX8_draws_S : List (Nat × Option Nat) := [(38, some 58)]
set_option maxHeartbeats 1000000 in
theorem mX8_draws {r0 : Int32} {u0 : St} {p1 : Int32} {st : St}  (hf : fX8_draws p1 st = some (r0, u0)) : FR wX8_draws_S st u0 := by
  unfold fX8_draws at hf
  obtain ⟨h1, hf⟩ := chk_some hf
  rw [← (Prod.mk.inj (Option.some.inj hf)).2]; exact (FR.pI (by rfl) FR.rf)
def wX8_canGoOn_S : List (Nat × Option Nat) := [(38, some 57), (40, some 0), (40, some 1), (40, some 2)]
set_option maxHeartbeats 1000000 in
theorem mX8_canGoOn {r0 : Int32} {u0 : St}  {st : St}  (hf : fX8_canGoOn st = some (r0, u0)) : FR wX8_canGoOn_S st u0 := by
  unfold fX8_canGoOn at hf
  obtain ⟨q1, h2, hf⟩ := bnd_some hf
  by_cases h3 : q1 = 0
  · rw [if_pos h3] at hf
    rcases (Classical.em ((sI st 40 2) = (999 : Int32))).symm with h4 | h4
    · rw [if_neg h4] at hf
      obtain ⟨q5, h6, hf⟩ := bnd_some hf
      obtain ⟨q7, h8, hf⟩ := bnd_some hf
      obtain ⟨h9, hf⟩ := chk_some hf
      rw [← (Prod.mk.inj (Option.some.inj hf)).2]; exact (FR.pI (by rfl) (FR.trans FR.rf (FR.mono (by rfl) (mX8_roundPasses h6))))
    · rw [if_pos h4] at hf
      rw [← (Prod.mk.inj (Option.some.inj hf)).2]; exact FR.rf
  · rw [if_neg h3] at hf
    rw [← (Prod.mk.inj (Option.some.inj hf)).2]; exact FR.rf
def wX8_saysDrawn_S : List (Nat × Option Nat) := [(38, some 22), (38, some 23), (38, some 24), (38, some 25), (38, some 58), (40, some 0), (40, some 1), (50, some 0), (50, some 1), (50, some 2), (50, some 3), (50, some 4), (50, some 5), (50, some 6), (51, some 0), (51, none), (64, none)]
set_option maxHeartbeats 1000000 in
theorem mX8_saysDrawn_b35 {u0 : St} (s1 : Int32) (s2 : Int32) (st : St)  (hf : fX8_saysDrawn_b35 s1 s2 st = some u0) : FR wX8_saysDrawn_S st u0 := by
  unfold fX8_saysDrawn_b35 at hf
  obtain ⟨q1, h2, hf⟩ := bnd_some hf
  obtain ⟨q3, h4, hf⟩ := bnd_some hf
  by_cases h5 : q3 = (-1 : Int32)
  · rw [if_pos h5] at hf
    rw [← Option.some.inj hf]; exact (FR.trans FR.rf (FR.mono (by rfl) (mX8_says h2)))
  · rw [if_neg h5] at hf
    obtain ⟨h6, hf⟩ := chk_some hf
    obtain ⟨h7, hf⟩ := chk_some hf
    rw [← Option.some.inj hf]; exact (FR.pI (inS_all (by rfl)) (FR.trans FR.rf (FR.mono (by rfl) (mX8_says h2))))
set_option maxHeartbeats 1000000 in
theorem mX8_saysDrawn {u0 : St}  {st : St}  (hf : fX8_saysDrawn st = some u0) : FR wX8_saysDrawn_S st u0 := by
  unfold fX8_saysDrawn at hf
  obtain ⟨q1, h2, hf⟩ := bnd_some hf
  obtain ⟨q3, h4, hf⟩ := bnd_some hf
  by_cases h5 : (sI q3.2 40 14) ≤ q3.1
  · rw [if_pos h5] at hf
    exact FR.trans (FR.trans (FR.trans FR.rf (FR.mono (by rfl) (mX8_draws h2))) (FR.mono (by rfl) (mX8_draws h4))) (mX8_saysDrawn_b35  q1.1 (0 : Int32) q3.2 hf)
  · rw [if_neg h5] at hf
    exact FR.trans (FR.trans (FR.trans FR.rf (FR.mono (by rfl) (mX8_draws h2))) (FR.mono (by rfl) (mX8_draws h4))) (mX8_saysDrawn_b35  q1.1 (1 : Int32) q3.2 hf)
def wX8_quarters_S : List (Nat × Option Nat) := [(38, some 0), (38, some 22), (38, some 23), (38, some 24), (38, some 25), (38, some 55), (38, some 56), (38, some 57), (38, some 58), (39, none), (40, some 0), (40, some 1), (40, some 2), (40, none), (43, none), (50, some 0), (50, some 1), (50, some 2), (50, some 3), (50, some 4), (50, some 5), (50, some 6), (51, some 0), (51, none), (64, none)]
set_option maxHeartbeats 1000000 in
theorem mX8_quarters_b124 {r0 : Int32} {u0 : St}  (st : St)  (hf : fX8_quarters_b124 st = some (r0, u0)) : FR wX8_quarters_S st u0 := by
  unfold fX8_quarters_b124 at hf
  obtain ⟨q1, h2, hf⟩ := bnd_some hf
  exact FR.trans (FR.trans (FR.pI (by rfl) FR.rf) (FR.mono (by rfl) (mX8_takesBack h2))) (FR.mono (by rfl) (mX8_good hf))
set_option maxHeartbeats 1000000 in
theorem mX8_quarters_b102 {r0 : Int32} {u0 : St} : ∀ (n : Nat) (l2 : Int32) (l3 : Int32) (st : St) , fX8_quarters_b102 n l2 l3 st = some (r0, u0) → FR wX8_quarters_S st u0 := by
  intro n
  induction n with
  | zero =>
    intros
    rename_i hf
    rw [fX8_quarters_b102] at hf
    cases hf
  | succ n ih =>
    intro l2 l3 st hf
    rw [fX8_quarters_b102] at hf
    by_cases h1 : l2 ≤ l3
    · rw [if_pos h1] at hf
      exact FR.trans FR.rf (mX8_quarters_b124  st hf)
    · rw [if_neg h1] at hf
      obtain ⟨q2, h3, hf⟩ := bnd_some hf
      by_cases h4 : q2.1 = 0
      · rw [if_pos h4] at hf
        exact FR.trans (FR.trans FR.rf (FR.mono (by rfl) (mX8_canGoOn h3))) (mX8_quarters_b124  q2.2 hf)
      · rw [if_neg h4] at hf
        obtain ⟨q5, h6, hf⟩ := bnd_some hf
        exact FR.trans (FR.trans (FR.trans FR.rf (FR.mono (by rfl) (mX8_canGoOn h3))) (FR.mono (by rfl) (mX8_saysDrawn h6))) (ih l2 (l3 + (1 : Int32)) q5 hf)
set_option maxHeartbeats 1000000 in
theorem mX8_quarters_b76 {r0 : Int32} {u0 : St} : ∀ (n : Nat) (l2 : Int32) (l3 : Int32) (st : St) , fX8_quarters_b76 n l2 l3 st = some (r0, u0) → FR wX8_quarters_S st u0 := by
  intro n
  induction n with
  | zero =>
    intros
    rename_i hf
    rw [fX8_quarters_b76] at hf
    cases hf
  | succ n ih =>
    intro l2 l3 st hf
    rw [fX8_quarters_b76] at hf
    by_cases h1 : (6 : Int32) ≤ l3
    · rw [if_pos h1] at hf
      exact FR.trans (FR.pI (by rfl) FR.rf) (mX8_quarters_b102  FU l2 (0 : Int32) (pI st 38 57 (0 : Int32)) hf)
    · rw [if_neg h1] at hf
      obtain ⟨h2, hf⟩ := chk_some hf
      exact FR.trans (FR.pI (inS_all (by rfl)) FR.rf) (ih l2 (l3 + (1 : Int32)) (pI st 64 l3.toNatClampNeg (0 : Int32)) hf)
set_option maxHeartbeats 1000000 in
theorem mX8_quarters_b46 {r0 : Int32} {u0 : St}  (st : St)  (hf : fX8_quarters_b46 st = some (r0, u0)) : FR wX8_quarters_S st u0 := by
  unfold fX8_quarters_b46 at hf
  exact FR.trans FR.rf (FR.mono (by rfl) (mX8_refuses hf))
set_option maxHeartbeats 1000000 in
theorem mX8_quarters_b20 {r0 : Int32} {u0 : St}  (st : St)  (hf : fX8_quarters_b20 st = some (r0, u0)) : FR wX8_quarters_S st u0 := by
  unfold fX8_quarters_b20 at hf
  exact FR.trans FR.rf (FR.mono (by rfl) (mX8_refuses hf))
set_option maxHeartbeats 1000000 in
theorem mX8_quarters {r0 : Int32} {u0 : St} {p1 : Int32} {p2 : Int32} {st : St}  (hf : fX8_quarters p1 p2 st = some (r0, u0)) : FR wX8_quarters_S st u0 := by
  unfold fX8_quarters at hf
  by_cases h1 : (fX8_lies p1 (0 : Int32) (1000000 : Int32)) = 0
  · rw [if_pos h1] at hf
    exact FR.trans FR.rf (mX8_quarters_b20  st hf)
  · rw [if_neg h1] at hf
    rcases (Classical.em ((fX8_lies p2 (1 : Int32) (60 : Int32)) = 0)).symm with h2 | h2
    · rw [if_neg h2] at hf
      by_cases h3 : (sI st 40 16) = 0
      · rw [if_pos h3] at hf
        exact FR.trans FR.rf (mX8_quarters_b46  st hf)
      · rw [if_neg h3] at hf
        rcases (Classical.em ((sI st 40 17) = 0)).symm with h4 | h4
        · rw [if_neg h4] at hf
          obtain ⟨q5, h6, hf⟩ := bnd_some hf
          exact FR.trans (FR.trans (FR.pI (by rfl) (FR.pI (by rfl) FR.rf)) (FR.mono (by rfl) (mX8_laysAside h6))) (mX8_quarters_b76  FU p2 (0 : Int32) q5 hf)
        · rw [if_pos h4] at hf
          exact FR.trans FR.rf (mX8_quarters_b46  st hf)
    · rw [if_pos h2] at hf
      exact FR.trans FR.rf (mX8_quarters_b20  st hf)
