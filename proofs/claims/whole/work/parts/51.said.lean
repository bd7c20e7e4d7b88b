/-! rows of rhymes that lead here -/
def dgt (q c j : Nat) : Nat := c / q ^ j % q
def wlk (x : Rg) (c : Nat) : Nat → Nat → Option Nat
  | 0, s => some s
  | j + 1, s => if 2 ≤ pc (s / 6) then wlk x c j (ldA x s (dgt (x.1 17) c j)) else none
def sr (P : Nat → Prop) [DecidablePred P] (i : Int32) : Nat → Nat → Nat → Nat ⊕ Nat
  | 0, _, f => .inl f
  | d + 1, c, f => if P c then (if nI f = i then .inr c else sr P i d (c + 1) (f + 1)) else sr P i d (c + 1) f
abbrev tgX (x : Rg) : Nat := x.1 0 * 6 + x.1 1
abbrev PX (x : Rg) (k : Nat) : Nat → Prop := fun c => wlk x c k ((2 ^ x.1 16 - 1) * 6) = some (tgX x)
theorem pow5 : ∀ q, q < 6 → ∀ k, k < 5 → q ^ k ≤ 625 := by decide +kernel
theorem digit_loop {st : St} {q j : Nat} (hq : 1 ≤ q) (hq5 : q ≤ 5) (h6 : sI st 1 6 = nI q) (hj : j < 5) : ∀ (k m i c : Nat), i + k = j → k < m → c < 2147483648 → fX1_digit_b17 st m (nI j) (nI c) (nI i) = some (nI (c / q ^ k % q)) := by
  intro k
  induction k with
  | zero =>
    intro m i c h1 h2 hc
    obtain ⟨m, rfl⟩ : ∃ j, m = j + 1 := ⟨m - 1, by omega⟩
    rw [fX1_digit_b17, if_pos (by rw [n_le (by omega) (by omega)]; omega), h6, n_nz (by omega) (by omega), chk_t, n_rem hc (by omega), Nat.pow_zero, Nat.div_one]
  | succ k ih =>
    intro m i c h1 h2 hc
    obtain ⟨m, rfl⟩ : ∃ j, m = j + 1 := ⟨m - 1, by omega⟩
    have hd : c / q ≤ c := Nat.div_le_self _ _
    rw [fX1_digit_b17, if_neg (by rw [n_le (by omega) (by omega)]; omega), h6, n_nz (by omega) (by omega), chk_t, n_div hc (by omega), n_p1, ih m (i + 1) (c / q) (by omega) (by omega) (by omega), Nat.div_div_eq_div_mul, ← Nat.pow_succ']
theorem digit_ok {st : St} {q j c : Nat} (hq : 1 ≤ q) (hq5 : q ≤ 5) (h6 : sI st 1 6 = nI q) (hj : j < 5) (hc : c < 2147483648) : fX1_digit st (nI c) (nI j) = some (nI (dgt q c j)) := by
  unfold fX1_digit
  rw [h6, if_neg (by rw [show (0 : Int32) = nI 0 from rfl, n_eq (by omega) (by omega)]; omega)]
  rw [show (0 : Int32) = nI 0 from rfl]
  exact digit_loop hq hq5 h6 hj j FU 0 c (by omega) (by unfold FU; omega) hc
theorem here_loop {x : Rg} {c : Nat} (g : GdR x) (hc : c < 2147483648) : ∀ (j m s : Nat) (st : St), j < m → j < 5 → (j = 0 ∨ 1 ≤ x.1 17) → s / 6 < 2 ^ x.1 16 → (1 ≤ x.1 16 → s % 6 < x.1 16) → Vt st x (lwF x) (x.1 2) (x.1 15) → ∃ u, fX1_leadsHere_b16 m (nI c) (nI s) (nI j - 1) st = some (b2i (decide (wlk x c j s = some (tgX x))), u) ∧ Vt u x (lwF x) (x.1 2) (x.1 15) ∧ FR wX6_after_S st u := by
  intro j
  have hn := g.1
  have h64 := p64 hn
  have hb := b_lt64 g
  have h5 := g.2.2.2.2.1
  have h17 := g.2.2.1
  induction j with
  | zero =>
    intro m s st h1 h2 h3 hs ha v
    obtain ⟨m, rfl⟩ : ∃ j, m = j + 1 := ⟨m - 1, by omega⟩
    refine ⟨st, ?_, v, FR.rf⟩
    rw [fX1_leadsHere_b16, if_pos (by decide), v.2.1.1.2.1, v.2.1.2.1.2.1, show (6 : Int32) = nI 6 from rfl, n_mul, n_add]
    have he : (nI s = nI (x.1 0 * 6 + x.1 1)) = (s = x.1 0 * 6 + x.1 1) := n_eq (by omega) (by omega)
    simp only [he]
    unfold wlk
    by_cases q : s = x.1 0 * 6 + x.1 1
    · rw [if_pos q, decide_eq_true (by rw [q])]; rfl
    · rw [if_neg q, decide_eq_false (fun e => q (Option.some.inj e))]; rfl
  | succ j ih =>
    intro m s st h1 h2 h3 hs ha v
    obtain ⟨m, rfl⟩ : ∃ j, m = j + 1 := ⟨m - 1, by omega⟩
    rw [n_pred, fX1_leadsHere_b16, if_neg (by rw [n_neg (by omega)]; exact id), goes7 (by omega)]
    unfold wlk
    by_cases q : 2 ≤ pc (s / 6)
    · have hn1 : 1 ≤ x.1 16 := by
        have := pc2 _ (show s / 6 < 64 by omega) q
        by_cases z : x.1 16 = 0
        · rw [z] at hs; omega
        · omega
      have hq1 : 1 ≤ x.1 17 := by omega
      have hdg : dgt (x.1 17) c j < x.1 17 := Nat.mod_lt _ (by omega)
      rw [if_pos q, if_neg (by decide), if_pos q, digit_ok hq1 h17 v.2.1.1.2.2.1 (by omega) hc, Option.bind_some]
      obtain ⟨u, e1, v1, f1⟩ := ld7 g v hs q (ha hn1) hdg
      have hl := ld_lt (r := dgt (x.1 17) c j) g hn1 hs
      rw [e1, Option.bind_some]
      obtain ⟨u2, e2, v2, f2⟩ := ih m (ldA x s (dgt (x.1 17) c j)) u (by omega) (by omega) (by omega) hl.1 (fun _ => hl.2.1) v1
      rw [show nI j + (-1 : Int32) = nI j - 1 by rw [Int32.sub_eq_add_neg]]
      exact ⟨u2, e2, v2, f1.trans f2⟩
    · rw [if_neg q, if_pos rfl, if_neg q]
      exact ⟨st, by simp [b2i], v, FR.rf⟩
def rsI (i : Int32) (z : Nat ⊕ Nat) : Int32 := match z with | .inl f => if i = -1 then nI f else -1 | .inr c => nI c
theorem rows_loop {x : Rg} {k : Nat} {i : Int32} (g : GdR x) (hk : k < 5) : ∀ (d m c f : Nat) (st : St), c + d = x.1 17 ^ k → d < m → f ≤ c → (k = 0 ∨ d = 0 ∨ 1 ≤ x.1 17) → Vt st x (lwF x) (x.1 2) (x.1 15) → ∃ u, fX1_rowsSaid_b33 m (nI k) i (nI (x.1 17 ^ k)) (nI f) (nI c) st = some (rsI i (sr (PX x k) i d c f), u) ∧ Vt u x (lwF x) (x.1 2) (x.1 15) ∧ FR wX6_after_S st u := by
  intro d
  have h17 := g.2.2.1
  have hR := pow5 (x.1 17) (by omega) k hk
  have hp1 := p1 (n := x.1 16)
  have h64 := p64 g.1
  induction d with
  | zero =>
    intro m c f st h1 h2 hf hz v
    obtain ⟨m, rfl⟩ : ∃ j, m = j + 1 := ⟨m - 1, by omega⟩
    refine ⟨st, ?_, v, FR.rf⟩
    rw [fX1_rowsSaid_b33, if_pos (by rw [n_le (by omega) (by omega)]; omega)]
    unfold sr rsI
    simp only []
    split <;> rfl
  | succ d ih =>
    intro m c f st h1 h2 hf hz v
    obtain ⟨m, rfl⟩ : ∃ j, m = j + 1 := ⟨m - 1, by omega⟩
    rw [fX1_rowsSaid_b33, if_neg (by rw [n_le (by omega) (by omega)]; omega)]
    obtain ⟨u, e1, v1, f1⟩ := here_loop (c := c) g (by omega) k FU ((2 ^ x.1 16 - 1) * 6) st (by unfold FU; omega) hk (by omega) (by omega) (fun h => by omega) v
    have e0 : fX1_leadsHere (nI c) (nI k) st = fX1_leadsHere_b16 FU (nI c) (nI ((2 ^ x.1 16 - 1) * 6)) (nI k - 1) st := by
      unfold fX1_leadsHere
      rw [every_ok g v.2.1, show (6 : Int32) = nI 6 from rfl, n_mul]
    rw [e0, e1, Option.bind_some]
    simp only [b2i_0]
    unfold fX1_rowsSaid_b61 sr
    by_cases q : PX x k c
    · have q' : wlk x c k ((2 ^ x.1 16 - 1) * 6) = some (tgX x) := q
      rw [if_pos q, if_neg (by rw [decide_eq_true q']; decide)]
      by_cases qi : nI f = i
      · rw [if_pos qi, if_pos qi]
        exact ⟨u, rfl, v1, f1⟩
      · rw [if_neg qi, if_neg qi, n_p1, n_p1]
        obtain ⟨u2, r1, r2, r3⟩ := ih m (c + 1) (f + 1) u (by omega) (by omega) (by omega) (by omega) v1
        exact ⟨u2, r1, r2, f1.trans r3⟩
    · have q' : ¬ wlk x c k ((2 ^ x.1 16 - 1) * 6) = some (tgX x) := q
      rw [if_neg q, if_pos (decide_eq_false q'), n_p1]
      obtain ⟨u2, r1, r2, r3⟩ := ih m (c + 1) f u (by omega) (by omega) (by omega) (by omega) v1
      exact ⟨u2, r1, r2, f1.trans r3⟩
theorem rowsN_loop {x : Rg} {k : Nat} {i : Int32} {st : St} (g : GdR x) (c : CRg st 1 x) (hk : k < 5) : ∀ (d m j : Nat), j + d = k → d < m → fX1_rowsSaid_b5 m (nI k) i (nI (x.1 17 ^ j)) (nI j) st = fX1_rowsSaid_b33 FU (nI k) i (nI (x.1 17 ^ k)) 0 0 st := by
  intro d
  induction d with
  | zero =>
    intro m j h1 h2
    obtain ⟨m, rfl⟩ : ∃ j, m = j + 1 := ⟨m - 1, by omega⟩
    rw [fX1_rowsSaid_b5, if_pos (by rw [n_le (by omega) (by omega)]; omega), show j = k by omega]
  | succ d ih =>
    intro m j h1 h2
    obtain ⟨m, rfl⟩ : ∃ j, m = j + 1 := ⟨m - 1, by omega⟩
    rw [fX1_rowsSaid_b5, if_neg (by rw [n_le (by omega) (by omega)]; omega), c.1.2.2.1, n_mul, ← Nat.pow_succ, n_p1, ih m (j + 1) (by omega) (by omega)]
/-! the same by the model -/
theorem rowsOf8 {st : St} {q k : Nat} (h : sI st 40 17 = nI q) (hk : k < 5) : ∀ (d m j : Nat), j + d = k → d < m → fX8_rowsOf_b4 st m (nI k) (nI (q ^ j)) (nI j) = some (nI (q ^ k)) := by
  intro d
  induction d with
  | zero =>
    intro m j h1 h2
    obtain ⟨m, rfl⟩ : ∃ j, m = j + 1 := ⟨m - 1, by omega⟩
    rw [fX8_rowsOf_b4, if_pos (by rw [n_le (by omega) (by omega)]; omega), show j = k by omega]
  | succ d ih =>
    intro m j h1 h2
    obtain ⟨m, rfl⟩ : ∃ j, m = j + 1 := ⟨m - 1, by omega⟩
    rw [fX8_rowsOf_b4, if_neg (by rw [n_le (by omega) (by omega)]; omega), h, n_mul, ← Nat.pow_succ, n_p1, ih m (j + 1) (by omega) (by omega)]
theorem row8' {q c k : Nat} (hq : 1 ≤ q) (hq5 : q ≤ 5) (hk : k < 5) (hc : c < 2147483648) : ∀ (j m : Nat) (st : St), j ≤ k → j < m → sI st 40 17 = nI q → ∃ u, fX8_laysRow_b7 m (nI (c / q ^ (k - j))) (nI j - 1) st = some u ∧ (∀ i, i < j → sI u 63 i = nI (dgt q c (k - 1 - i))) ∧ (∀ i, j ≤ i → sI u 63 i = sI st 63 i) ∧ FR [(63, none)] st u := by
  intro j
  induction j with
  | zero =>
    intro m st h1 h2 h17
    obtain ⟨m, rfl⟩ : ∃ j, m = j + 1 := ⟨m - 1, by omega⟩
    refine ⟨st, ?_, fun i hi => by omega, fun _ _ => rfl, FR.rf⟩
    rw [fX8_laysRow_b7, if_pos (by decide)]
  | succ j ih =>
    intro m st h1 h2 h17
    obtain ⟨m, rfl⟩ : ∃ j, m = j + 1 := ⟨m - 1, by omega⟩
    have hd : c / q ^ (k - (j + 1)) ≤ c := Nat.div_le_self _ _
    have e17 : ∀ v, sI (pI st 63 j v) 40 17 = nI q := fun v => by rw [sI_pI, if_neg (by omega)]; exact h17
    have hz := n_nz (show q < 2147483648 by omega) (show 0 < q by omega)
    rw [n_pred, fX8_laysRow_b7, if_neg (by rw [n_neg (by omega)]; exact id), h17, hz, chk_t, n_ixb (by omega), decide_eq_true (show j < 4 by omega), chk_t, n_toNat (by omega), e17, hz, chk_t, n_rem (by omega) (by omega), n_div (by omega) (by omega), Nat.div_div_eq_div_mul, ← Nat.pow_succ, show (k - (j + 1)).succ = k - j by omega, show nI j + (-1 : Int32) = nI j - 1 by rw [Int32.sub_eq_add_neg]]
    obtain ⟨u, r1, r2, r3, r4⟩ := ih m (pI st 63 j (nI (c / q ^ (k - (j + 1)) % q))) (by omega) (by omega) (e17 _)
    refine ⟨u, r1, fun i hi => ?_, fun i hi => ?_, (FR.pI (by rfl) FR.rf : FR [(63, none)] st (pI st 63 j (nI (c / q ^ (k - (j + 1)) % q)))).trans r4⟩
    · by_cases q1 : i = j
      · subst q1
        rw [r3 i (by omega), sI_pI, if_pos ⟨rfl, rfl⟩, show k - 1 - i = k - (i + 1) by omega]
        rfl
      · exact r2 i (by omega)
    · rw [r3 i (by omega), sI_pI, if_neg (by omega)]
theorem end8 {x : Rg} {c k : Nat} {st : St} (g : GdR x) (l : LdM st x) (hk : k < 5) (hrow : ∀ i, i < k → sI st 63 i = nI (dgt (x.1 17) c (k - 1 - i))) : ∀ (j m i s : Nat), i + j = k → j < m → (j = 0 ∨ 1 ≤ x.1 17) → s / 6 < 2 ^ x.1 16 → fX8_endOf_b10 st m (nI k) (nI s) (nI i) = some (match wlk x c j s with | some t => nI t | none => -1) := by
  intro j
  have hn := g.1
  have h64 := p64 hn
  have h17 := g.2.2.1
  induction j with
  | zero =>
    intro m i s h1 h2 h3 hs
    obtain ⟨m, rfl⟩ : ∃ j, m = j + 1 := ⟨m - 1, by omega⟩
    rw [fX8_endOf_b10, if_pos (by rw [n_le (by omega) (by omega)]; omega)]; rfl
  | succ j ih =>
    intro m i s h1 h2 h3 hs
    obtain ⟨m, rfl⟩ : ∃ j, m = j + 1 := ⟨m - 1, by omega⟩
    have hpc := pc_le (s / 6) (by omega)
    have hle : ((2 : Int32) ≤ nI (pc (s / 6))) = (2 ≤ pc (s / 6)) := n_le (a := 2) (by omega) (by omega)
    rw [fX8_endOf_b10, if_neg (by rw [n_le (by omega) (by omega)]; omega)]
    unfold fX8_insideOf
    rw [n_d6 (by omega), ones64 _ (by omega), Option.bind_some]
    simp only [hle]
    unfold wlk
    by_cases q : 2 ≤ pc (s / 6)
    · have hn1 : 1 ≤ x.1 16 := by
        have := pc2 _ (show s / 6 < 64 by omega) q
        by_cases z : x.1 16 = 0
        · rw [z] at hs; omega
        · omega
      have hdg : dgt (x.1 17) c j < x.1 17 := Nat.mod_lt _ (by omega)
      rw [if_pos q, if_pos q, n_ixb (by omega), decide_eq_true (show i < 4 by omega), chk_t, n_toNat (by omega), hrow i (by omega), show k - 1 - i = j by omega, show (5 : Int32) = nI 5 from rfl, n_mul, n_add, n_ixb (by omega), decide_eq_true (show 5 * s + dgt (x.1 17) c j < 1920 by omega), chk_t, n_toNat (by omega), l s hs q _ hdg, n_p1]
      exact ih m (i + 1) (ldA x s (dgt (x.1 17) c j)) (by omega) (by omega) (by omega) (ld_lt g hn1 hs).1
    · rw [if_neg q, if_neg q]
def rsM (q k pl : Nat) (i : Int32) (z : Nat ⊕ Nat) : Int32 := match z with | .inl f => if i = -1 then nI f else -1 | .inr c => nI (dgt q c (k - 1 - pl))
theorem said_loop {x : Rg} {k pl : Nat} {i p : Int32} (g : GdR x) (hk : k < 5) (hip : i = -1 ∨ (p = nI pl ∧ pl < k)) : ∀ (d m c f : Nat) (st : St), c + d = x.1 17 ^ k → d < m → f ≤ c → (k = 0 ∨ d = 0 ∨ 1 ≤ x.1 17) → MRg st 40 0 x → LdM st x → ∃ u, fX8_said_b42 m (nI k) i p (nI f) (nI c) st = some (rsM (x.1 17) k pl i (sr (PX x k) i d c f), u) ∧ MRg u 40 0 x ∧ FR [(63, none)] st u := by
  intro d
  have hn := g.1
  have h17 := g.2.2.1
  have hR := pow5 (x.1 17) (by omega) k hk
  have hp1 := p1 (n := x.1 16)
  have h64 := p64 g.1
  have hb := b_lt64 g
  have h5 := g.2.2.2.2.1
  induction d with
  | zero =>
    intro m c f st h1 h2 hf hz mr l
    obtain ⟨m, rfl⟩ : ∃ j, m = j + 1 := ⟨m - 1, by omega⟩
    refine ⟨st, ?_, mr, FR.rf⟩
    have hro : fX8_rowsOf st (nI k) = some (nI (x.1 17 ^ k)) := rowsOf8 (mr.k (by omega)) hk k FU 0 (by omega) (by unfold FU; omega)
    rw [fX8_said_b42, hro, Option.bind_some, if_pos (by rw [n_le (by omega) (by omega)]; omega)]
    unfold sr rsM
    simp only []
    split <;> rfl
  | succ d ih =>
    intro m c f st h1 h2 hf hz mr l
    obtain ⟨m, rfl⟩ : ∃ j, m = j + 1 := ⟨m - 1, by omega⟩
    have hro : fX8_rowsOf st (nI k) = some (nI (x.1 17 ^ k)) := rowsOf8 (mr.k (by omega)) hk k FU 0 (by omega) (by unfold FU; omega)
    rw [fX8_said_b42, hro, Option.bind_some, if_neg (by rw [n_le (by omega) (by omega)]; omega)]
    have hrow : ∃ u, fX8_laysRow (nI c) (nI k) st = some u ∧ (∀ i, i < k → sI u 63 i = nI (dgt (x.1 17) c (k - 1 - i))) ∧ FR [(63, none)] st u := by
      unfold fX8_laysRow
      by_cases k0 : k = 0
      · subst k0
        refine ⟨st, ?_, fun i hi => by omega, FR.rf⟩
        rw [show FU = 99999 + 1 from rfl, fX8_laysRow_b7, if_pos (by decide)]
      · obtain ⟨u, r1, r2, r3, r4⟩ := row8' (q := x.1 17) (c := c) (k := k) (by omega) h17 hk (by omega) k FU st (Nat.le_refl _) (by unfold FU; omega) (mr.k (by omega))
        rw [Nat.sub_self, Nat.pow_zero, Nat.div_one] at r1
        exact ⟨u, r1, r2, r4⟩
    obtain ⟨u, e1, e2, e3⟩ := hrow
    have mu := MRg.fr (by rfl) e3 mr
    have lu := LdM.fr (by rfl) e3 l
    rw [e1, Option.bind_some]
    have he : fX8_endOf u (nI k) = some (match wlk x c k ((2 ^ x.1 16 - 1) * 6) with | some t => nI t | none => -1) := by
      unfold fX8_endOf fX8_allChildren
      rw [mu.k (show 16 < 19 by omega), all6 _ (by omega), show (6 : Int32) = nI 6 from rfl, n_mul, Nat.mul_comm 6]
      exact end8 g lu hk e2 k FU 0 ((2 ^ x.1 16 - 1) * 6) (by omega) (by unfold FU; omega) (by omega) (by omega)
    rw [he, Option.bind_some]
    have hnow : fX8_stateNow u = nI (tgX x) := by
      unfold fX8_stateNow
      rw [mu.k (by omega), mu.k (by omega), show (6 : Int32) = nI 6 from rfl, n_mul, n_add, Nat.mul_comm 6]
    rw [hnow]
    have heq : ((match wlk x c k ((2 ^ x.1 16 - 1) * 6) with | some t => nI t | none => -1) = nI (tgX x)) = PX x k c := by
      show _ = (wlk x c k ((2 ^ x.1 16 - 1) * 6) = some (tgX x))
      have hw : ∀ (j s : Nat), s / 6 < 2 ^ x.1 16 → (j = 0 ∨ 1 ≤ x.1 17) → ∀ t, wlk x c j s = some t → t / 6 < 2 ^ x.1 16 := by
        intro j
        induction j with
        | zero => intro s hs _ t ht; rw [← Option.some.inj ht]; exact hs
        | succ j ihj =>
          intro s hs hz t ht
          unfold wlk at ht
          by_cases q : 2 ≤ pc (s / 6)
          · rw [if_pos q] at ht
            have hn1 : 1 ≤ x.1 16 := by
              have := pc2 _ (show s / 6 < 64 by omega) q
              by_cases z : x.1 16 = 0
              · rw [z] at hs; omega
              · omega
            exact ihj _ (ld_lt g hn1 hs).1 (by omega) t ht
          · rw [if_neg q] at ht; cases ht
      cases e : wlk x c k ((2 ^ x.1 16 - 1) * 6) with
      | none =>
        have : ¬ (-1 : Int32) = nI (tgX x) := fun h => by
          have h' : nI (tgX x) < 0 := by rw [← h]; decide
          rw [n_neg (show tgX x < 2147483648 by show x.1 0 * 6 + x.1 1 < _; omega)] at h'; exact h'
        exact propext ⟨fun h => absurd h this, fun h => by cases h⟩
      | some t =>
        have ht := hw k ((2 ^ x.1 16 - 1) * 6) (by omega) (by omega) t e
        simp only []
        rw [n_eq (by omega) (show tgX x < 2147483648 by show x.1 0 * 6 + x.1 1 < _; omega)]
        exact propext ⟨fun h => by rw [h], fun h => Option.some.inj h⟩
    simp only [heq]
    unfold fX8_said_b90 sr
    by_cases q : PX x k c
    · rw [if_pos q, if_pos q]
      by_cases qi : nI f = i
      · rw [if_pos qi, if_pos qi]
        rcases hip with h | ⟨h, h'⟩
        · exfalso
          have h2 : nI f < 0 := by rw [qi, h]; decide
          rw [n_neg (by omega)] at h2; exact h2
        · rw [h, n_ixb (by omega), decide_eq_true (show pl < 4 by omega), chk_t, n_toNat (by omega), e2 pl h']
          exact ⟨u, rfl, mu, e3⟩
      · rw [if_neg qi, if_neg qi, n_p1, n_p1]
        obtain ⟨u2, r1, r2, r3⟩ := ih m (c + 1) (f + 1) u (by omega) (by omega) (by omega) (by omega) mu lu
        exact ⟨u2, r1, r2, e3.trans r3⟩
    · rw [if_neg q, if_neg q, n_p1]
      obtain ⟨u2, r1, r2, r3⟩ := ih m (c + 1) f u (by omega) (by omega) (by omega) (by omega) mu lu
      exact ⟨u2, r1, r2, e3.trans r3⟩
theorem sr_lt {P : Nat → Prop} [DecidablePred P] {i : Int32} : ∀ (d c f c' : Nat), sr P i d c f = .inr c' → c' < c + d := by
  intro d
  induction d with
  | zero => intro c f c' h; cases h
  | succ d ih =>
    intro c f c' h
    unfold sr at h
    split at h
    · split at h
      · have := Sum.inr.inj h; omega
      · have := ih _ _ _ h; omega
    · have := ih _ _ _ h; omega
theorem sr_n {P : Nat → Prop} [DecidablePred P] : ∀ (d c f c' : Nat), f + d < 2147483648 → ¬ sr P (-1) d c f = .inr c' := by
  intro d
  induction d with
  | zero => intro c f c' _ h; cases h
  | succ d ih =>
    intro c f c' hf h
    unfold sr at h
    split at h
    · split at h
      · rename_i h2
        have h3 : nI f < 0 := by rw [h2]; decide
        rw [n_neg (by omega)] at h3; exact h3
      · exact ih _ _ _ (by omega) h
    · exact ih _ _ _ (by omega) h
theorem i32_m1 {b : Int32} (h1 : (-1 : Int32) ≤ b) (h2 : b ≠ -1) : ∃ k, k < 2147483648 ∧ b = nI k := by
  rcases n_cases b with h | h
  · exfalso
    apply h2
    rw [Int32.le_iff_toInt_le] at h1
    rw [Int32.lt_iff_toInt_lt] at h
    rw [← Int32.toInt_inj]
    have e0 : (0 : Int32).toInt = 0 := by decide
    have e1 : (-1 : Int32).toInt = -1 := by decide
    omega
  · exact h
theorem st26 : Step26 Inv := by
  rintro a i p st ⟨A, g, c, m⟩
  have h17 := g.1.2.2.1
  rcases rng a 0 4 0 4 rfl rfl (by omega) (by omega) with ⟨k, k1, k2, rfl, a3, a4, a5, a6⟩ | ⟨a3, a4⟩
  · have hR := pow5 (A.1.1 17) (by omega) k (by omega)
    by_cases hi : (-1 : Int32) ≤ i
    · have hi' : ¬ i < (-1 : Int32) := by
        rw [Int32.le_iff_toInt_le] at hi
        rw [Int32.lt_iff_toInt_lt]; omega
      obtain ⟨u, e1, v1, c1, f1⟩ := tuned g c
      have hz0 : k = 0 ∨ A.1.1 17 ^ k = 0 ∨ 1 ≤ A.1.1 17 := by
        by_cases q : A.1.1 17 = 0
        · by_cases q2 : k = 0
          · exact Or.inl q2
          · refine Or.inr (Or.inl ?_)
            rw [q]; exact Nat.zero_pow (by omega)
        · omega
      obtain ⟨u2, e2, v2, f2⟩ := rows_loop (k := k) (i := i) g.1 (by omega) (A.1.1 17 ^ k) FU 0 0 u (by omega) (by unfold FU; omega) (by omega) hz0 v1
      have hrs : fX1_rowsSaid (nI k) i u = some (rsI i (sr (PX A.1 k) i (A.1.1 17 ^ k) 0 0), u2) := by
        unfold fX1_rowsSaid
        have := rowsN_loop (i := i) g.1 c1.2.1.1 (show k < 5 by omega) k FU 0 (by omega) (by unfold FU; omega)
        rw [Nat.pow_zero] at this
        exact this.trans e2
      have c2 : CV u2 A := CV_v (S := wX6_after_S) (by rfl) f2 c1 v2.1 v2.o
      have fS : FR S_vo st u2 := (FR.mono (by rfl) f1 : FR S_vo st u).trans (FR.mono (by rfl) f2)
      have hC : fX7_said (nI k) i p st = if i = (-1 : Int32) then (some (rsI i (sr (PX A.1 k) i (A.1.1 17 ^ k) 0 0), u2)) else (if rsI i (sr (PX A.1 k) i (A.1.1 17 ^ k) 0 0) = (-1 : Int32) then (some (rsI i (sr (PX A.1 k) i (A.1.1 17 ^ k) 0 0), u2)) else (if p < 0 then (some ((-1 : Int32), u2)) else (if p < nI k then ((fX1_digit u2 (rsI i (sr (PX A.1 k) i (A.1.1 17 ^ k) 0 0)) ((nI k - (1 : Int32)) - p)).bind (fun q12 => some (q12, u2))) else (some ((-1 : Int32), u2))))) := by
        unfold fX7_said
        rw [if_neg a4, if_neg a6, if_pos hi, e1, Option.bind_some, hrs, Option.bind_some]
      have m32 : ∀ s (pl : Nat), MV s A → (i = -1 ∨ (p = nI pl ∧ pl < k)) → ∃ v, fX8_said_b32 (nI k) i p s = some (rsM (A.1.1 17) k pl i (sr (PX A.1 k) i (A.1.1 17 ^ k) 0 0), v) ∧ MV v A ∧ FR [(38, some 22), (38, some 23), (38, some 24), (38, some 25), (50, none), (51, none), (40, some 0), (40, some 1), (40, some 2), (43, none), (55, none), (63, none)] s v := by
        intro s pl ms hip
        obtain ⟨w, w1, w2, w3, w4⟩ := leads8 g.1 c.low ms.2.1
        obtain ⟨v, y1, y2, y3⟩ := said_loop (k := k) (pl := pl) (i := i) (p := p) g.1 (by omega) hip (A.1.1 17 ^ k) FU 0 0 w (by omega) (by unfold FU; omega) (by omega) hz0 w2 w4
        have ff : FR [(38, some 22), (38, some 23), (38, some 24), (38, some 25), (50, none), (51, none), (40, some 0), (40, some 1), (40, some 2), (43, none), (55, none), (63, none)] s v := (FR.mono (by rfl) w3 : FR [(38, some 22), (38, some 23), (38, some 24), (38, some 25), (50, none), (51, none), (40, some 0), (40, some 1), (40, some 2), (43, none), (55, none), (63, none)] s w).trans (FR.mono (by rfl) y3)
        refine ⟨v, ?_, MV_xr (by rfl) ff ms y2, ff⟩
        unfold fX8_said_b32
        rw [w1, Option.bind_some]
        exact y1
      have hM : ∀ s, fX8_said (nI k) i p s = if i ≤ (-1 : Int32) then (fX8_said_b32 (nI k) i p s) else (if (fX8_lies p (0 : Int32) (nI k - (1 : Int32))) = 0 then (some ((-1 : Int32), s)) else (fX8_said_b32 (nI k) i p s)) := by
        intro s
        unfold fX8_said
        rw [a3, if_neg (by decide), if_neg hi']
      by_cases i1 : i = -1
      · subst i1
        rw [if_pos rfl] at hC
        have hz : ∃ f, sr (PX A.1 k) (-1) (A.1.1 17 ^ k) 0 0 = .inl f := by
          cases e : sr (PX A.1 k) (-1) (A.1.1 17 ^ k) 0 0 with
          | inl f => exact ⟨f, rfl⟩
          | inr c' => exact absurd e (sr_n _ _ _ _ (by omega))
        obtain ⟨f, hz⟩ := hz
        refine both_q (S := S_vo) (S' := [(38, some 22), (38, some 23), (38, some 24), (38, some 25), (50, none), (51, none), (40, some 0), (40, some 1), (40, some 2), (43, none), (55, none), (63, none)]) (r := nI f) (fc := fun s => fX7_said (nI k) (-1) p s) (fm := fun s => fX8_said (nI k) (-1) p s) (by rfl) (by rfl) g m ⟨u2, ?_, c2, fS⟩ (fun s ms => ?_)
        · show fX7_said (nI k) (-1) p st = _
          rw [hC, hz]; rfl
        · obtain ⟨v, y1, y2, y3⟩ := m32 s 0 ms (Or.inl rfl)
          refine ⟨v, ?_, y2, y3⟩
          show fX8_said (nI k) (-1) p s = _
          rw [hM s, if_pos (by decide), y1, hz]; rfl
      · obtain ⟨ii, hii, rfl⟩ := i32_m1 hi i1
        have hi2 : ¬ nI ii ≤ (-1 : Int32) := by
          intro h
          rw [Int32.le_iff_toInt_le, n_toInt hii] at h
          have e1 : (-1 : Int32).toInt = -1 := by decide
          omega
        rw [if_neg i1] at hC
        rcases n_in p k (by omega) with ⟨pl, hpl, rfl⟩ | hp
        · have hlies : fX8_lies (nI pl) 0 (nI k - 1) = 1 := lies_in hpl (by omega)
          have hsub : nI k - 1 - nI pl = nI (k - 1 - pl) := by
            rw [n_one (show 1 ≤ k by omega), n_sub (show pl ≤ k - 1 by omega)]
          refine both_q (S := S_vo) (S' := [(38, some 22), (38, some 23), (38, some 24), (38, some 25), (50, none), (51, none), (40, some 0), (40, some 1), (40, some 2), (43, none), (55, none), (63, none)]) (r := rsM (A.1.1 17) k pl (nI ii) (sr (PX A.1 k) (nI ii) (A.1.1 17 ^ k) 0 0)) (fc := fun s => fX7_said (nI k) (nI ii) (nI pl) s) (fm := fun s => fX8_said (nI k) (nI ii) (nI pl) s) (by rfl) (by rfl) g m ⟨u2, ?_, c2, fS⟩ (fun s ms => ?_)
          · show fX7_said (nI k) (nI ii) (nI pl) st = _
            rw [hC]
            cases hz : sr (PX A.1 k) (nI ii) (A.1.1 17 ^ k) 0 0 with
            | inl f =>
              unfold rsI rsM
              simp only []
              rw [if_neg i1, if_pos rfl]
            | inr c' =>
              have hlt : c' < 0 + A.1.1 17 ^ k := sr_lt _ _ _ _ hz
              have hc' : c' < 2147483648 := by omega
              have hq1 : 1 ≤ A.1.1 17 := by
                by_cases q : A.1.1 17 = 0
                · rw [q, Nat.zero_pow (by omega)] at hlt; omega
                · omega
              unfold rsI rsM
              simp only []
              rw [if_neg (fun e => by
                have h3 : nI c' < 0 := by rw [e]; decide
                rw [n_neg hc'] at h3; exact h3), if_neg (by rw [n_neg (by omega)]; exact id), if_pos (by rw [n_lt (by omega) (by omega)]; exact hpl), hsub, digit_ok hq1 h17 c2.2.1.1.1.2.2.1 (by omega) hc', Option.bind_some]
          · obtain ⟨v, y1, y2, y3⟩ := m32 s pl ms (Or.inr ⟨rfl, hpl⟩)
            refine ⟨v, ?_, y2, y3⟩
            show fX8_said (nI k) (nI ii) (nI pl) s = _
            rw [hM s, if_neg hi2, hlies, if_neg (by decide), y1]
        · have hlies : fX8_lies p 0 (nI k - 1) = 0 := lies_out hp (by omega)
          refine both_q (S := S_vo) (S' := []) (r := (-1 : Int32)) (fc := fun s => fX7_said (nI k) (nI ii) p s) (fm := fun s => fX8_said (nI k) (nI ii) p s) (by rfl) (by rfl) g m ⟨u2, ?_, c2, fS⟩ (fun s ms => ⟨s, ?_, ms, FR.rf⟩)
          · show fX7_said (nI k) (nI ii) p st = _
            rw [hC]
            by_cases q : rsI (nI ii) (sr (PX A.1 k) (nI ii) (A.1.1 17 ^ k) 0 0) = -1
            · rw [if_pos q, q]
            · rw [if_neg q]
              rcases hp with hp | ⟨pp, hp1, hp2, rfl⟩
              · rw [if_pos hp]
              · rw [if_neg (by rw [n_neg hp1]; exact id), if_neg (by rw [n_lt hp1 (by omega)]; omega)]
          · show fX8_said (nI k) (nI ii) p s = _
            rw [hM s, if_neg hi2, hlies, if_pos rfl]
    · have hi' : i < (-1 : Int32) := by
        rw [Int32.le_iff_toInt_le] at hi
        rw [Int32.lt_iff_toInt_lt]; omega
      refine both_n (r := (-1 : Int32)) (fc := fun s => fX7_said (nI k) i p s) (fm := fun s => fX8_said (nI k) i p s) g c m ?_ (fun s ms => ?_)
      · show fX7_said (nI k) i p st = _
        unfold fX7_said
        rw [if_neg a4, if_neg a6, if_neg hi]
      · show fX8_said (nI k) i p s = _
        unfold fX8_said
        rw [a3, if_neg (by decide), if_pos hi']
  · refine both_n (r := (-1 : Int32)) (fc := fun s => fX7_said a i p s) (fm := fun s => fX8_said a i p s) g c m ?_ (fun s ms => ?_)
    · show fX7_said a i p st = _
      unfold fX7_said
      rcases a4 with h | ⟨h1, h2, h3⟩
      · rw [if_pos h]
      · rw [if_neg h1, if_pos h3]
    · show fX8_said a i p s = _
      unfold fX8_said
      rw [a3, if_pos rfl]
