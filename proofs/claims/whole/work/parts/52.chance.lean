/-! chances -/
abbrev Fl : Type := Nat → Int64
def adL (t : Fl) (j : Nat) (v : Int64) : Fl := fun i => if i = j then t j + v else t i
def spI (x : Rg) (s : Nat) (sh : Int64) : Nat → Nat → Fl → Fl
  | 0, _, t => t
  | k + 1, r, t => spI x s sh k (r + 1) (adL t (ldA x s r) sh)
def spS (x : Rg) (s : Nat) (v : Int64) (t : Fl) : Fl := if v = 0 then t else if 2 ≤ pc (s / 6) then spI x s (v / (nI (x.1 17)).toInt64) (x.1 17) 0 t else adL t s v
def spL (x : Rg) (f : Fl) : Nat → Nat → Fl → Fl
  | 0, _, t => t
  | k + 1, s, t => spL x f k (s + 1) (spS x s (f s) t)
def spr (x : Rg) (f : Fl) : Fl := spL x f 384 0 (fun _ => 0)
def itf (x : Rg) : Nat → Fl → Fl
  | 0, f => f
  | k + 1, f => itf x k (spr x f)
def smL (c : Nat) (f : Fl) : Nat → Nat → Int64 → Int64
  | 0, _, a => a
  | k + 1, s, a => smL c f k (s + 1) (if bit (s / 6) c = 1 then a + f s else a)
def dlt (s : Nat) : Fl := fun i => if i = s then 1000000000000 else 0
theorem z64 (v : Int64) : (lg_cmp v 0 = 0) = (v = 0) := by
  rw [lc_eq]; exact propext ⟨fun h => Int64.toInt_inj.mp h, fun h => by rw [h]⟩
theorem adL_n {t : Fl} {j i : Nat} {v : Int64} (h : adL t j v i ≠ 0) : i = j ∨ t i ≠ 0 := by
  unfold adL at h
  by_cases c : i = j
  · exact Or.inl c
  · rw [if_neg c] at h; exact Or.inr h
theorem spI_Q {x : Rg} {s : Nat} {sh : Int64} {Q : Nat → Prop} (hQ : ∀ r, Q (ldA x s r)) : ∀ (k r : Nat) (t : Fl), (∀ i, t i ≠ 0 → Q i) → ∀ i, spI x s sh k r t i ≠ 0 → Q i := by
  intro k
  induction k with
  | zero => intro r t h i hi; exact h i hi
  | succ k ih =>
    intro r t h i hi
    refine ih (r + 1) _ (fun i hi => ?_) i hi
    rcases adL_n hi with e | e
    · rw [e]; exact hQ r
    · exact h i e
theorem spL_Q {x : Rg} {f : Fl} {Q : Nat → Prop} (hf : ∀ i, f i ≠ 0 → Q i) (hQ : ∀ s r, Q s → 2 ≤ pc (s / 6) → Q (ldA x s r)) : ∀ (k s : Nat) (t : Fl), (∀ i, t i ≠ 0 → Q i) → ∀ i, spL x f k s t i ≠ 0 → Q i := by
  intro k
  induction k with
  | zero => intro s t h i hi; exact h i hi
  | succ k ih =>
    intro s t h i hi
    refine ih (s + 1) _ (fun i hi => ?_) i hi
    unfold spS at hi
    by_cases c : f s = 0
    · rw [if_pos c] at hi; exact h i hi
    · rw [if_neg c] at hi
      by_cases c2 : 2 ≤ pc (s / 6)
      · rw [if_pos c2] at hi
        exact spI_Q (fun r => hQ s r (hf s c) c2) _ _ t h i hi
      · rw [if_neg c2] at hi
        rcases adL_n hi with e | e
        · rw [e]; exact hf s c
        · exact h i e
theorem spr_Q {x : Rg} {f : Fl} {Q : Nat → Prop} (hf : ∀ i, f i ≠ 0 → Q i) (hQ : ∀ s r, Q s → 2 ≤ pc (s / 6) → Q (ldA x s r)) : ∀ i, spr x f i ≠ 0 → Q i := spL_Q hf hQ 384 0 _ (fun i hi => absurd rfl hi)
theorem spL_z {x : Rg} {f : Fl} : ∀ (k s : Nat) (t : Fl), (∀ i, s ≤ i → f i = 0) → spL x f k s t = t := by
  intro k
  induction k with
  | zero => intro s t _; rfl
  | succ k ih =>
    intro s t h
    unfold spL
    rw [ih (s + 1) _ (fun i hi => h i (by omega))]
    unfold spS
    rw [if_pos (h s (by omega))]
theorem spL_fix {x : Rg} {f : Fl} (hf : ∀ i, f i ≠ 0 → ¬ 2 ≤ pc (i / 6)) : ∀ (k s : Nat) (t : Fl) (j : Nat), spL x f k s t j = if s ≤ j ∧ j < s + k then t j + f j else t j := by
  intro k
  induction k with
  | zero => intro s t j; unfold spL; rw [if_neg (by omega)]
  | succ k ih =>
    intro s t j
    unfold spL
    rw [ih]
    have e : ∀ i, spS x s (f s) t i = if i = s then t s + f s else t i := by
      intro i
      unfold spS
      by_cases c : f s = 0
      · rw [if_pos c]
        by_cases ci : i = s
        · rw [if_pos ci, c, ci, Int64.add_zero]
        · rw [if_neg ci]
      · rw [if_neg c, if_neg (hf s c)]; rfl
    by_cases cj : j = s
    · subst cj
      rw [if_neg (by omega), e, if_pos rfl, if_pos (by omega)]
    · rw [e, if_neg cj]
      by_cases c2 : s + 1 ≤ j ∧ j < s + 1 + k
      · rw [if_pos c2, if_pos (by omega)]
      · rw [if_neg c2, if_neg (by omega)]
theorem spr_fix {x : Rg} {f : Fl} (hf : ∀ i, f i ≠ 0 → ¬ 2 ≤ pc (i / 6)) (h3 : ∀ i, 384 ≤ i → f i = 0) : spr x f = f := by
  funext j
  unfold spr
  rw [spL_fix hf]
  by_cases c : 0 ≤ j ∧ j < 0 + 384
  · rw [if_pos c, Int64.zero_add]
  · rw [if_neg c, h3 j (by omega)]
theorem itf_fix {x : Rg} {f : Fl} (hf : ∀ i, f i ≠ 0 → ¬ 2 ≤ pc (i / 6)) (h3 : ∀ i, 384 ≤ i → f i = 0) : ∀ k, itf x k f = f := by
  intro k
  induction k with
  | zero => rfl
  | succ k ih => unfold itf; rw [spr_fix hf h3]; exact ih
theorem spL_one {x : Rg} {f : Fl} {a : Nat} (hf : ∀ i, i ≠ a → f i = 0) : ∀ (k s : Nat) (t : Fl), s ≤ a → a < s + k → spL x f k s t = spS x a (f a) t := by
  intro k
  induction k with
  | zero => intro s t h1 h2; omega
  | succ k ih =>
    intro s t h1 h2
    unfold spL
    by_cases c : s = a
    · subst c
      exact spL_z k (s + 1) _ (fun i hi => hf i (by omega))
    · rw [show spS x s (f s) t = t by unfold spS; rw [if_pos (hf s c)]]
      exact ih (s + 1) t (by omega) (by omega)
theorem w12 : ¬ (1000000000000 : Int64) = 0 := by decide
theorem dlt_n {s i : Nat} (h : dlt s i ≠ 0) : i = s := by
  unfold dlt at h
  by_cases c : i = s
  · exact c
  · rw [if_neg c] at h; exact absurd rfl h
theorem dlt_z {s i : Nat} (h : i ≠ s) : dlt s i = 0 := if_neg h
theorem spI_cn {x : Rg} {s s' : Nat} {sh : Int64} (h : ∀ r, ldA x s r = ldA x s' r) : ∀ (k r : Nat) (t : Fl), spI x s sh k r t = spI x s' sh k r t := by
  intro k
  induction k with
  | zero => intro r t; rfl
  | succ k ih => intro r t; unfold spI; rw [h r, ih]
theorem sm_z {c : Nat} {f : Fl} : ∀ (k s : Nat) (a : Int64), (∀ i, s ≤ i → f i = 0) → smL c f k s a = a := by
  intro k
  induction k with
  | zero => intro s a _; rfl
  | succ k ih =>
    intro s a h
    unfold smL
    rw [h s (by omega), Int64.add_zero, ite_self]
    exact ih (s + 1) a (fun i hi => h i (by omega))
theorem sm_one {c : Nat} {f : Fl} {b : Nat} (hf : ∀ i, i ≠ b → f i = 0) : ∀ (k s : Nat) (a : Int64), s ≤ b → b < s + k → smL c f k s a = if bit (b / 6) c = 1 then a + f b else a := by
  intro k
  induction k with
  | zero => intro s a h1 h2; omega
  | succ k ih =>
    intro s a h1 h2
    unfold smL
    by_cases cs : s = b
    · subst cs
      exact sm_z k (s + 1) _ (fun i hi => hf i (by omega))
    · rw [hf s cs, Int64.add_zero, ite_self]
      exact ih (s + 1) a (by omega) (by omega)
/-- it matters not by which of its names the place is told -/
theorem chance_cn {x : Rg} {c a b : Nat} (g : GdR x) (hn : 1 ≤ x.1 16) (ha : a < 384) (hb : b < 384) (h6 : a / 6 = b / 6) (hc : cnS x a = cnS x b) : ∀ k, smL c (itf x k (dlt a)) 384 0 0 = smL c (itf x k (dlt b)) 384 0 0 := by
  have h0 : smL c (dlt a) 384 0 0 = smL c (dlt b) 384 0 0 := by
    rw [sm_one (f := dlt a) (b := a) (fun i hi => dlt_z hi) 384 0 0 (by omega) (by omega), sm_one (f := dlt b) (b := b) (fun i hi => dlt_z hi) 384 0 0 (by omega) (by omega), h6]
    show (if _ then 0 + dlt a a else _) = (if _ then 0 + dlt b b else _)
    unfold dlt
    rw [if_pos rfl, if_pos rfl]
  intro k
  cases k with
  | zero => exact h0
  | succ k =>
    by_cases q : 2 ≤ pc (a / 6)
    · have e : spr x (dlt a) = spr x (dlt b) := by
        unfold spr
        rw [spL_one (f := dlt a) (a := a) (fun i hi => dlt_z hi) 384 0 _ (by omega) (by omega), spL_one (f := dlt b) (a := b) (fun i hi => dlt_z hi) 384 0 _ (by omega) (by omega)]
        have ea : dlt a a = 1000000000000 := if_pos rfl
        have eb : dlt b b = 1000000000000 := if_pos rfl
        unfold spS
        rw [ea, eb, if_neg w12, if_neg w12, if_pos q, if_pos (by rw [← h6]; exact q)]
        refine spI_cn (fun r => ?_) _ _ _
        rw [← ld_cn g hn (s := a), ← ld_cn g hn (s := b), hc]
      show smL c (itf x k (spr x (dlt a))) 384 0 0 = smL c (itf x k (spr x (dlt b))) 384 0 0
      rw [e]
    · rw [itf_fix (f := dlt a) (fun i hi => by rw [dlt_n hi]; exact q) (fun i hi => dlt_z (by omega)), itf_fix (f := dlt b) (fun i hi => by rw [dlt_n hi, ← h6]; exact q) (fun i hi => dlt_z (by omega))]
      exact h0
/-! by the model -/
def Hf (st : St) (h : Nat) (f : Fl) : Prop := ∀ j, j < 384 → sL st 62 (384 * h + j) = f j
theorem Hf_o {st : St} {h h' i : Nat} {f : Fl} {v : Int64} (hh : h < 2) (hh' : h' < 2) (hne : h ≠ h') (hi : i < 384) (m : Hf st h f) : Hf (pL st 62 (384 * h' + i) v) h f := fun j hj => by
  rw [sL_pL, if_neg (by omega)]; exact m j hj
theorem Hf_ad {st : St} {h i : Nat} {t : Fl} {v : Int64} (hi : i < 384) (m : Hf st h t) : Hf (pL st 62 (384 * h + i) (sL st 62 (384 * h + i) + v)) h (adL t i v) := fun j hj => by
  rw [sL_pL]
  unfold adL
  by_cases c : j = i
  · rw [if_pos ⟨rfl, by omega⟩, if_pos c, m i hi]
  · rw [if_neg (by omega), if_neg c]; exact m j hj
theorem part_loop {x : Rg} {s h : Nat} {v : Int64} (g : GdR x) (hs : s / 6 < 2 ^ x.1 16) (hp : 2 ≤ pc (s / 6)) (hh : h < 2) : ∀ (k m r : Nat) (t f : Fl) (st : St), r + k = x.1 17 → k < m → MRg st 40 0 x → LdM st x → Hf st h t → Hf st (1 - h) f → ∃ u, fX8_spreadsPart_b35 m (nI s) v (nI (384 * h)) (nI r) st = some u ∧ Hf u h (spI x s (v / (nI (x.1 17)).toInt64) k r t) ∧ Hf u (1 - h) f ∧ FR [(62, none)] st u := by
  intro k
  have hn := g.1
  have h64 := p64 hn
  have h17 := g.2.2.1
  have hn1 : 1 ≤ x.1 16 := by
    have := pc2 _ (show s / 6 < 64 by omega) hp
    by_cases z : x.1 16 = 0
    · rw [z] at hs; omega
    · omega
  induction k with
  | zero =>
    intro m r t f st h1 h2 mr l ht hf
    obtain ⟨m, rfl⟩ : ∃ j, m = j + 1 := ⟨m - 1, by omega⟩
    refine ⟨st, ?_, ht, hf, FR.rf⟩
    rw [fX8_spreadsPart_b35, mr.k (by omega), if_pos (by rw [n_le (by omega) (by omega)]; omega)]
  | succ k ih =>
    intro m r t f st h1 h2 mr l ht hf
    obtain ⟨m, rfl⟩ : ∃ j, m = j + 1 := ⟨m - 1, by omega⟩
    have hl := ld_lt (r := r) g hn1 hs
    have t1 : (nI (x.1 17)).toInt64.toInt = (x.1 17 : Int) := by rw [Int32.toInt_toInt64, n_toInt (by omega)]
    rw [fX8_spreadsPart_b35, mr.k (show 17 < 19 by omega), if_neg (by rw [n_le (by omega) (by omega)]; omega), show (5 : Int32) = nI 5 from rfl, n_mul, n_add, n_ixb (by omega), decide_eq_true (show 5 * s + r < 1920 by omega), chk_t, n_toNat (by omega), l s hs hp r (by omega), n_add, n_ixb (by omega), decide_eq_true (show 384 * h + ldA x s r < 768 by omega), chk_t, nzl_t (by rw [t1]; omega), chk_t, chk_t, n_toNat (by omega), n_p1]
    have f1 : FR [(62, none)] st (pL st 62 (384 * h + ldA x s r) (sL st 62 (384 * h + ldA x s r) + v / (nI (x.1 17)).toInt64)) := FR.pL (by rfl) FR.rf
    obtain ⟨u, r1, r2, r3, r4⟩ := ih m (r + 1) (adL t (ldA x s r) (v / (nI (x.1 17)).toInt64)) f _ (by omega) (by omega) (MRg.fr (by rfl) f1 mr) (LdM.fr (by rfl) f1 l) (Hf_ad hl.2.2 ht) (Hf_o (by omega) hh (by omega) hl.2.2 hf)
    exact ⟨u, r1, r2, r3, f1.trans r4⟩
theorem spread_loop {x : Rg} {h : Nat} {f : Fl} (g : GdR x) (hh : h < 2) (hf0 : ∀ s, f s ≠ 0 → s / 6 < 2 ^ x.1 16) : ∀ (k m s : Nat) (t : Fl) (st : St), s + k = 384 → k < m → MRg st 40 0 x → LdM st x → Hf st h f → Hf st (1 - h) t → ∃ u, fX8_spreads_b34 m (nI h) (nI (384 * (1 - h))) (nI s) st = some u ∧ Hf u (1 - h) (spL x f k s t) ∧ FR [(62, none)] st u := by
  intro k
  have hn := g.1
  have h64 := p64 hn
  have h17 := g.2.2.1
  induction k with
  | zero =>
    intro m s t st h1 h2 mr l hf ht
    obtain ⟨m, rfl⟩ : ∃ j, m = j + 1 := ⟨m - 1, by omega⟩
    refine ⟨st, ?_, ht, FR.rf⟩
    rw [fX8_spreads_b34, if_pos (by rw [show (384 : Int32) = nI 384 from rfl, n_le (by omega) (by omega)]; omega)]
  | succ k ih =>
    intro m s t st h1 h2 mr l hf ht
    obtain ⟨m, rfl⟩ : ∃ j, m = j + 1 := ⟨m - 1, by omega⟩
    rw [fX8_spreads_b34, if_neg (by rw [show (384 : Int32) = nI 384 from rfl, n_le (by omega) (by omega)]; omega), show (384 : Int32) = nI 384 from rfl, n_mul, n_add, n_ixb (by omega), decide_eq_true (show 384 * h + s < 768 by omega), chk_t, n_toNat (by omega), hf s (by omega)]
    have part : ∃ u, fX8_spreadsPart (nI s) (f s) (nI (384 * (1 - h))) st = some u ∧ Hf u (1 - h) (spS x s (f s) t) ∧ Hf u h f ∧ FR [(62, none)] st u := by
      unfold fX8_spreadsPart spS
      simp only [z64]
      by_cases c : f s = 0
      · rw [if_pos c, if_pos c]
        exact ⟨st, rfl, ht, hf, FR.rf⟩
      · have hsv := hf0 s c
        have hpc := pc_le (s / 6) (by omega)
        have hle : ((2 : Int32) ≤ nI (pc (s / 6))) = (2 ≤ pc (s / 6)) := n_le (a := 2) (by omega) (by omega)
        rw [if_neg c, if_neg c]
        unfold fX8_insideOf
        rw [n_d6 (by omega), ones64 _ (by omega), Option.bind_some]
        simp only [hle]
        by_cases c2 : 2 ≤ pc (s / 6)
        · rw [if_pos c2, if_pos c2]
          have e1 : 1 - (1 - h) = h := by omega
          obtain ⟨u, r1, r2, r3, r4⟩ := part_loop (h := 1 - h) (v := f s) g hsv c2 (by omega) (x.1 17) FU 0 t f st (by omega) (by unfold FU; omega) mr l ht (by rw [e1]; exact hf)
          rw [e1] at r3
          exact ⟨u, r1, r2, r3, r4⟩
        · rw [if_neg c2, if_neg c2, n_add, n_ixb (by omega), decide_eq_true (show 384 * (1 - h) + s < 768 by omega), chk_t, chk_t, n_toNat (by omega)]
          exact ⟨_, rfl, Hf_ad (by omega) ht, Hf_o hh (by omega) (by omega) (by omega) hf, FR.pL (by rfl) FR.rf⟩
    obtain ⟨u, p1, p2, p3, p4⟩ := part
    rw [p1, Option.bind_some, n_p1]
    obtain ⟨u2, r1, r2, r3⟩ := ih m (s + 1) (spS x s (f s) t) u (by omega) (by omega) (MRg.fr (by rfl) p4 mr) (LdM.fr (by rfl) p4 l) p3 p2
    exact ⟨u2, r1, r2, p4.trans r3⟩
theorem zero_loop {h : Nat} {f : Fl} (hh : h < 2) : ∀ (k m i : Nat) (st : St), i + k = 384 → k < m → Hf st h f → (∀ j, j < i → sL st 62 (384 * (1 - h) + j) = 0) → ∃ u, fX8_spreads_b10 m (nI h) (nI (384 * (1 - h))) (nI i) st = fX8_spreads_b34 FU (nI h) (nI (384 * (1 - h))) 0 u ∧ Hf u h f ∧ Hf u (1 - h) (fun _ => 0) ∧ FR [(62, none)] st u := by
  intro k
  induction k with
  | zero =>
    intro m i st h1 h2 hf hz
    obtain ⟨m, rfl⟩ : ∃ j, m = j + 1 := ⟨m - 1, by omega⟩
    refine ⟨st, ?_, hf, fun j hj => hz j (by omega), FR.rf⟩
    rw [fX8_spreads_b10, if_pos (by rw [show (384 : Int32) = nI 384 from rfl, n_le (by omega) (by omega)]; omega)]
  | succ k ih =>
    intro m i st h1 h2 hf hz
    obtain ⟨m, rfl⟩ : ∃ j, m = j + 1 := ⟨m - 1, by omega⟩
    rw [fX8_spreads_b10, if_neg (by rw [show (384 : Int32) = nI 384 from rfl, n_le (by omega) (by omega)]; omega), n_add, n_ixb (by omega), decide_eq_true (show 384 * (1 - h) + i < 768 by omega), chk_t, n_toNat (by omega), n_p1]
    obtain ⟨u, r1, r2, r3, r4⟩ := ih m (i + 1) (pL st 62 (384 * (1 - h) + i) 0) (by omega) (by omega) (Hf_o hh (by omega) (by omega) (by omega) hf) (fun j hj => by
      rw [sL_pL]
      by_cases c : j = i
      · rw [if_pos ⟨rfl, by omega⟩]
      · rw [if_neg (by omega)]; exact hz j (by omega))
    exact ⟨u, r1, r2, r3, (FR.pL (by rfl) FR.rf : FR [(62, none)] st (pL st 62 (384 * (1 - h) + i) 0)).trans r4⟩
theorem spreads8 {x : Rg} {h : Nat} {f : Fl} {st : St} (g : GdR x) (hh : h < 2) (hf0 : ∀ s, f s ≠ 0 → s / 6 < 2 ^ x.1 16) (mr : MRg st 40 0 x) (l : LdM st x) (hf : Hf st h f) : ∃ u, fX8_spreads (nI h) st = some u ∧ Hf u (1 - h) (spr x f) ∧ FR [(62, none)] st u := by
  unfold fX8_spreads
  have e : (384 : Int32) * ((1 : Int32) - nI h) = nI (384 * (1 - h)) := by
    rw [show (1 : Int32) = nI 1 from rfl, n_sub (by omega), show (384 : Int32) = nI 384 from rfl, n_mul]
  rw [e]
  obtain ⟨u, r1, r2, r3, r4⟩ := zero_loop hh 384 FU 0 st (by omega) (by unfold FU; omega) hf (fun j hj => by omega)
  rw [show fX8_spreads_b10 FU (nI h) (nI (384 * (1 - h))) 0 st = _ from r1]
  obtain ⟨u2, s1, s2, s3⟩ := spread_loop g hh hf0 384 FU 0 (fun _ => 0) u (by omega) (by unfold FU; omega) (MRg.fr (by rfl) r4 mr) (LdM.fr (by rfl) r4 l) r2 r3
  exact ⟨u2, s1, s2, r4.trans s3⟩
theorem parts8 {c h : Nat} {f : Fl} {st : St} (hc : c < 6) (hh : h < 2) (hf : Hf st h f) : ∀ (k m s : Nat) (a : Int64), s + k = 384 → k < m → fX8_partsOf_b5 st m (nI c) (nI h) a (nI s) = some (smL c f k s a) := by
  intro k
  induction k with
  | zero =>
    intro m s a h1 h2
    obtain ⟨m, rfl⟩ : ∃ j, m = j + 1 := ⟨m - 1, by omega⟩
    rw [fX8_partsOf_b5, if_pos (by rw [show (384 : Int32) = nI 384 from rfl, n_le (by omega) (by omega)]; omega)]; rfl
  | succ k ih =>
    intro m s a h1 h2
    obtain ⟨m, rfl⟩ : ∃ j, m = j + 1 := ⟨m - 1, by omega⟩
    rw [fX8_partsOf_b5, if_neg (by rw [show (384 : Int32) = nI 384 from rfl, n_le (by omega) (by omega)]; omega)]
    unfold fX8_insideOf fX8_partsOf_b44 smL
    rw [n_d6 (by omega), isIn64 _ (by omega) _ hc]
    by_cases q : bit (s / 6) c = 1
    · rw [q, if_neg (by decide), if_pos rfl, show (384 : Int32) = nI 384 from rfl, n_mul, n_add, n_ixb (by omega), decide_eq_true (show 384 * h + s < 768 by omega), chk_t, n_toNat (by omega), hf s (by omega), n_p1]
      exact ih m (s + 1) _ (by omega) (by omega)
    · have q0 : bit (s / 6) c = 0 := by have := bit_le (s / 6) c; omega
      rw [q0, if_pos (by rfl), if_neg (by decide), n_p1]
      exact ih m (s + 1) _ (by omega) (by omega)
theorem jrem2 {i : Nat} (h : i < 2147483648) : jrem (nI i) (2 : Int32) = nI (i % 2) := n_rem h (b := 2) (by omega)
theorem chance_loop {x : Rg} {c N : Nat} (g : GdR x) (hn1 : 1 ≤ x.1 16) (hc : c < 6) (hN : N ≤ 20) : ∀ (k m i : Nat) (f : Fl) (st : St), i + k = N → k < m → (∀ s, f s ≠ 0 → s / 6 < 2 ^ x.1 16) → MRg st 40 0 x → LdM st x → Hf st (i % 2) f → ∃ u, fX8_chances_b72 m (nI c) (nI N) (nI i) st = some (smL c (itf x k f) 384 0 0, u) ∧ MRg u 40 0 x ∧ FR [(62, none)] st u := by
  intro k
  induction k with
  | zero =>
    intro m i f st h1 h2 hf0 mr l hf
    obtain ⟨m, rfl⟩ : ∃ j, m = j + 1 := ⟨m - 1, by omega⟩
    refine ⟨st, ?_, mr, FR.rf⟩
    rw [fX8_chances_b72, if_pos (by rw [n_le (by omega) (by omega)]; omega), jrem2 (by omega)]
    unfold fX8_partsOf
    rw [show N = i by omega]
    rw [show fX8_partsOf_b5 st FU (nI c) (nI (i % 2)) 0 0 = _ from parts8 hc (by omega) hf 384 FU 0 0 (by omega) (by unfold FU; omega), Option.bind_some]
    rfl
  | succ k ih =>
    intro m i f st h1 h2 hf0 mr l hf
    obtain ⟨m, rfl⟩ : ∃ j, m = j + 1 := ⟨m - 1, by omega⟩
    rw [fX8_chances_b72, if_neg (by rw [n_le (by omega) (by omega)]; omega), jrem2 (by omega)]
    obtain ⟨u, r1, r2, r3⟩ := spreads8 g (by omega) hf0 mr l hf
    rw [r1, Option.bind_some, n_p1]
    obtain ⟨u2, s1, s2, s3⟩ := ih m (i + 1) (spr x f) u (by omega) (by omega) (spr_Q hf0 (fun s r hs _ => (ld_lt g hn1 hs).1)) (MRg.fr (by rfl) r3 mr) (LdM.fr (by rfl) r3 l) (by rw [show (i + 1) % 2 = 1 - i % 2 by omega]; exact r2)
    exact ⟨u2, s1, s2, r3.trans s3⟩
theorem all0_loop {c N : Int32} : ∀ (k m i : Nat) (st : St), i + k = 768 → k < m → (∀ j, j < i → sL st 62 j = 0) → ∃ u, fX8_chances_b38 m c N (nI i) st = fX8_chances_b38 1 c N (nI 768) u ∧ (∀ j, j < 768 → sL u 62 j = 0) ∧ FR [(62, none)] st u := by
  intro k
  induction k with
  | zero =>
    intro m i st h1 h2 hz
    obtain ⟨m, rfl⟩ : ∃ j, m = j + 1 := ⟨m - 1, by omega⟩
    refine ⟨st, ?_, fun j hj => hz j (by omega), FR.rf⟩
    rw [fX8_chances_b38, fX8_chances_b38, show i = 768 by omega, if_pos (by decide), if_pos (by decide)]
  | succ k ih =>
    intro m i st h1 h2 hz
    obtain ⟨m, rfl⟩ : ∃ j, m = j + 1 := ⟨m - 1, by omega⟩
    rw [fX8_chances_b38, if_neg (by rw [show (768 : Int32) = nI 768 from rfl, n_le (by omega) (by omega)]; omega), n_ixb (by omega), decide_eq_true (show i < 768 by omega), chk_t, n_toNat (by omega), n_p1]
    obtain ⟨u, r1, r2, r3⟩ := ih m (i + 1) (pL st 62 i 0) (by omega) (by omega) (fun j hj => by
      rw [sL_pL]
      by_cases q : j = i
      · rw [if_pos ⟨rfl, q⟩]
      · rw [if_neg (by omega)]; exact hz j (by omega))
    exact ⟨u, r1, r2, (FR.pL (by rfl) FR.rf : FR [(62, none)] st (pL st 62 i 0)).trans r3⟩
theorem now8 {st : St} {x : Rg} (m : MRg st 40 0 x) : fX8_stateNow st = nI (tgX x) := by
  unfold fX8_stateNow
  rw [m.k (by omega), m.k (by omega), show (6 : Int32) = nI 6 from rfl, n_mul, n_add, Nat.mul_comm 6]
theorem chances8 {x : Rg} {c N : Nat} {st : St} (g : GdR x) (hn1 : 1 ≤ x.1 16) (hc : c < 6) (hN : N ≤ 20) (mr : MRg st 40 0 x) (l : LdM st x) : ∃ u, fX8_chances_b38 FU (nI c) (nI N) 0 st = some (smL c (itf x N (dlt (tgX x))) 384 0 0, u) ∧ MRg u 40 0 x ∧ FR [(62, none)] st u := by
  have h64 := b_lt64 g
  have h5 := g.2.2.2.2.1
  have htg : tgX x < 384 := by show x.1 0 * 6 + x.1 1 < 384; omega
  obtain ⟨u, r1, r2, r3⟩ := all0_loop (c := nI c) (N := nI N) 768 FU 0 st (by omega) (by unfold FU; omega) (fun j hj => by omega)
  have mu := MRg.fr (by rfl) r3 mr
  have f2 : FR [(62, none)] st (pL u 62 (tgX x) 1000000000000) := FR.pL (by rfl) r3
  obtain ⟨u2, s1, s2, s3⟩ := chance_loop (c := c) g hn1 hc hN N FU 0 (dlt (tgX x)) (pL u 62 (tgX x) 1000000000000) (by omega) (by unfold FU; omega) (fun s hs => by rw [dlt_n hs]; show (x.1 0 * 6 + x.1 1) / 6 < _; rw [show (x.1 0 * 6 + x.1 1) / 6 = x.1 0 by omega]; exact g.2.1) (MRg.fr (by rfl) f2 mr) (LdM.fr (by rfl) f2 l) (fun j hj => by
    rw [sL_pL]
    unfold dlt
    by_cases q : j = tgX x
    · rw [if_pos ⟨rfl, by omega⟩, if_pos q]
    · rw [if_neg (by omega), if_neg q]; exact r2 _ (by omega))
  refine ⟨u2, ?_, s2, f2.trans s3⟩
  rw [show fX8_chances_b38 FU (nI c) (nI N) 0 st = _ from r1, fX8_chances_b38, if_pos (by decide), now8 mu, n_ixb (by omega), decide_eq_true (show tgX x < 768 by omega), chk_t, n_toNat (by omega)]
  exact s1
