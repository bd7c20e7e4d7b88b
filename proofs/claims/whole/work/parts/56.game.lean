/-! a game -/
def begS (x : Rg) (s : Nat) : Nat := firstA (x.1 16) (s / 6) (s % 6 % x.1 16)
def chF (x : Rg) (f : Nat → Int32) (s : Nat) (c : Int32) : Nat → Nat → Nat
  | 0, _ => 0
  | k + 1, r => if f (ldA x s r) = c then chF x f s c k (r + 1) else r
def chN (x : Rg) (f : Nat → Int32) (s : Nat) : Nat := chF x f s (nI (begS x s)) (x.1 17) 0
def itS (x : Rg) (f : Nat → Int32) (s : Nat) : Int32 := if 2 ≤ pc (s / 6) then (if x.1 17 = 0 then -1 else f (ldA x s (chN x f s))) else oneI s
def itN (x : Rg) : Nat → Nat → Int32
  | 0 => oneI
  | k + 1 => itS x (itN x k)
theorem chF_lt {x : Rg} {f : Nat → Int32} {s : Nat} {c : Int32} : ∀ (k r q : Nat), r + k = q → 1 ≤ q → chF x f s c k r < q := by
  intro k
  induction k with
  | zero => intro r q h1 h2; exact h2
  | succ k ih =>
    intro r q h1 h2
    unfold chF
    split
    · exact ih (r + 1) q (by omega) h2
    · omega
theorem chN_lt {x : Rg} {f : Nat → Int32} {s : Nat} (h : 1 ≤ x.1 17) : chN x f s < x.1 17 := chF_lt _ _ _ (by omega) h
theorem chF_eq {x : Rg} {f f' : Nat → Int32} {s s' : Nat} {c : Int32} : ∀ (k r : Nat), (∀ r', r ≤ r' → r' < r + k → f (ldA x s r') = f' (ldA x s' r')) → chF x f s c k r = chF x f' s' c k r := by
  intro k
  induction k with
  | zero => intro r _; rfl
  | succ k ih =>
    intro r h
    unfold chF
    rw [h r (by omega) (by omega), ih (r + 1) (fun r' h1 h2 => h r' (by omega) (by omega))]
theorem it_one {x : Rg} {k s : Nat} (h : ¬ 2 ≤ pc (s / 6)) : itN x k s = oneI s := by
  cases k with
  | zero => rfl
  | succ k => show itS x _ s = _; unfold itS; rw [if_neg h]
theorem one_n {s : Nat} (h : 2 ≤ pc (s / 6)) : oneI s = -1 := oneI_0 (by omega)
theorem it_q0 {x : Rg} {k s : Nat} (h : x.1 17 = 0) : itN x k s = oneI s := by
  cases k with
  | zero => rfl
  | succ k =>
    show itS x _ s = _
    unfold itS
    by_cases c : 2 ≤ pc (s / 6)
    · rw [if_pos c, if_pos h, one_n c]
    · rw [if_neg c]
/-- by which name the place is told matters not -/
theorem beg_cn {x : Rg} (g : GdR x) (hn : 1 ≤ x.1 16) {s s' : Nat} (h6 : s / 6 = s' / 6) (hc : cnS x s = cnS x s') : begS x s = begS x s' := by
  have h1 := (cn_d g hn s).2.1
  have h2 := (cn_d g hn s').2.1
  unfold begS
  rw [h6, ← h1, ← h2, hc]
theorem ch_cn {x : Rg} (g : GdR x) (hn : 1 ≤ x.1 16) {s s' : Nat} {f : Nat → Int32} (h6 : s / 6 = s' / 6) (hc : cnS x s = cnS x s') : chN x f s = chN x f s' := by
  unfold chN
  rw [beg_cn g hn h6 hc]
  exact chF_eq _ _ (fun r _ _ => by rw [← ld_cn g hn (s := s), ← ld_cn g hn (s := s'), hc])
theorem it_cn {x : Rg} (g : GdR x) {s s' k : Nat} (h6 : s / 6 = s' / 6) (hc : 1 ≤ x.1 16 → cnS x s = cnS x s') (hs : s / 6 < 2 ^ x.1 16) : itN x k s = itN x k s' := by
  have ho : oneI s = oneI s' := by unfold oneI; rw [h6]
  by_cases c : 2 ≤ pc (s / 6)
  · have h64 := p64 g.1
    have hn1 : 1 ≤ x.1 16 := by
      have := pc2 _ (show s / 6 < 64 by omega) c
      by_cases z : x.1 16 = 0
      · rw [z] at hs; omega
      · omega
    cases k with
    | zero => exact ho
    | succ k =>
      show itS x _ s = itS x _ s'
      unfold itS
      rw [if_pos c, if_pos (show 2 ≤ pc (s' / 6) by rw [← h6]; exact c), ch_cn g hn1 h6 (hc hn1), ← ld_cn g hn1 (s := s), ← ld_cn g hn1 (s := s'), hc hn1]
  · rw [it_one c, it_one (by rw [← h6]; exact c)]; exact ho
/-- what changes no more -/
theorem it_stab {x : Rg} {V : Nat → Prop} {k : Nat} (hV : ∀ s, V s → 2 ≤ pc (s / 6) → ∀ r, r < x.1 17 → V (ldA x s r)) (h : ∀ s, V s → itN x (k + 1) s = itN x k s) : ∀ j s, V s → itN x (k + j) s = itN x k s := by
  intro j
  induction j with
  | zero => intro s _; rfl
  | succ j ih =>
    intro s hs
    rw [← h s hs]
    show itS x (itN x (k + j)) s = itS x (itN x k) s
    unfold itS
    by_cases c : 2 ≤ pc (s / 6)
    · rw [if_pos c, if_pos c]
      by_cases q : x.1 17 = 0
      · rw [if_pos q, if_pos q]
      · rw [if_neg q, if_neg q]
        have e : chN x (itN x (k + j)) s = chN x (itN x k) s := by
          unfold chN
          exact chF_eq _ _ (fun r _ h2 => ih _ (hV s hs c r (by omega)))
        rw [e]
        exact ih _ (hV s hs c _ (chN_lt (by omega)))
    · rw [if_neg c, if_neg c]
theorem ch_stab {x : Rg} {V : Nat → Prop} {k : Nat} (hV : ∀ s, V s → 2 ≤ pc (s / 6) → ∀ r, r < x.1 17 → V (ldA x s r)) (h : ∀ s, V s → itN x (k + 1) s = itN x k s) {j s : Nat} (hs : V s) (c : 2 ≤ pc (s / 6)) : chN x (itN x (k + j)) s = chN x (itN x k) s := by
  unfold chN
  exact chF_eq _ _ (fun r _ h2 => it_stab hV h j _ (hV s hs c r (by omega)))
/-! by the model -/
def HI (st : St) (x : Rg) (h : Nat) (f : Nat → Int32) : Prop := ∀ s, s / 6 < 2 ^ x.1 16 → sI st 61 (384 * h + s) = f s
theorem HI.fr {S : List (Nat × Option Nat)} {st u : St} {x : Rg} {h : Nat} {f : Nat → Int32} (e : hasA S 61 = false) (r : FR S st u) (m : HI st x h f) : HI u x h f := fun s hs => (r.i (hasA_in e)).trans (m s hs)
abbrev S_it : List (Nat × Option Nat) := [(40, some 0), (40, some 1), (38, some 43)]
theorem choice8_loop {x : Rg} {s h : Nat} {f : Nat → Int32} {c : Int32} (g : GdR x) (hs : s / 6 < 2 ^ x.1 16) (hp : 2 ≤ pc (s / 6)) (hh : h < 2) {st : St} {x' : Rg} (ag : Ag2 x x') (mr : MRg st 40 0 x') (l : LdM st x) (hi : HI st x h f) (hq : 1 ≤ x.1 17) : ∀ (k m r : Nat), r + k = x.1 17 → k < m → fX8_choiceAt_b13 m (nI s) (nI h) c (nI r) st = some (nI (chF x f s c k r), st) := by
  intro k
  have h64 := p64 g.1
  have h17 := g.2.2.1
  have e17 : sI st 40 17 = nI (x.1 17) := by rw [mr.k (by omega), ag.1 17 (by omega)]
  induction k with
  | zero =>
    intro m r h1 h2
    obtain ⟨m, rfl⟩ : ∃ j, m = j + 1 := ⟨m - 1, by omega⟩
    rw [fX8_choiceAt_b13, e17, if_pos (by rw [n_le (by omega) (by omega)]; omega)]
    unfold fX8_choiceAt_b57
    rw [e17, if_pos (by rw [show r = x.1 17 by omega])]; rfl
  | succ k ih =>
    intro m r h1 h2
    obtain ⟨m, rfl⟩ : ∃ j, m = j + 1 := ⟨m - 1, by omega⟩
    have hC : Cn x (ldA x s r) := ld_Cn g hs hp
    have ht := hC.lt g
    rw [fX8_choiceAt_b13, e17, if_neg (by rw [n_le (by omega) (by omega)]; omega), show (5 : Int32) = nI 5 from rfl, n_mul, n_add, n_ixb (by omega), decide_eq_true (show 5 * s + r < 1920 by omega), chk_t, n_toNat (by omega), l s hs hp r (by omega), show (384 : Int32) = nI 384 from rfl, n_mul, n_add, n_ixb (by omega), decide_eq_true (show 384 * h + ldA x s r < 768 by omega), chk_t, n_toNat (by omega), hi _ hC.1, n_p1]
    unfold chF
    by_cases q : f (ldA x s r) = c
    · rw [if_pos q, if_pos q]
      exact ih m (r + 1) (by omega) (by omega)
    · rw [if_neg q, if_neg q]
      unfold fX8_choiceAt_b57
      rw [e17, if_neg (by rw [n_eq (by omega) (by omega)]; omega)]
theorem it8 {x : Rg} {s h : Nat} {f : Nat → Int32} {st : St} {x' : Rg} (g : GdR x) (hs : s / 6 < 2 ^ x.1 16) (hh : h < 2) (ag : Ag2 x x') (mr : MRg st 40 0 x') (l : LdM st x) (hi : HI st x h f) : ∃ u x'', fX8_itAt (nI s) (nI h) st = some (itS x f s, u) ∧ Ag2 x x'' ∧ MRg u 40 0 x'' ∧ FR S_it st u ∧ (2 ≤ pc (s / 6) → 1 ≤ x.1 17 → sI u 38 43 = nI (chN x f s)) := by
  have h64 := p64 g.1
  have h17 := g.2.2.1
  have hn := g.1
  have e17 : sI st 40 17 = nI (x.1 17) := by rw [mr.k (by omega), ag.1 17 (by omega)]
  have hpc := pc_le (s / 6) (by omega)
  have hle : ((2 : Int32) ≤ nI (pc (s / 6))) = (2 ≤ pc (s / 6)) := n_le (a := 2) (by omega) (by omega)
  have z17 : (nI (x.1 17) = 0) = (x.1 17 = 0) := n_eq (b := 0) (by omega) (by omega)
  unfold fX8_itAt fX8_insideOf itS
  rw [n_d6 (by omega), ones64 _ (by omega), Option.bind_some]
  simp only [hle, e17, z17]
  by_cases hp : 2 ≤ pc (s / 6)
  · rw [if_pos hp, if_pos hp]
    by_cases q : x.1 17 = 0
    · rw [if_pos q, if_pos q]
      exact ⟨st, x', rfl, ag, mr, FR.rf, fun _ h => by omega⟩
    · rw [if_neg q, if_neg q]
      have h0 := pc2 _ (show s / 6 < 64 by omega) hp
      have hn1 : 1 ≤ x.1 16 := by
        by_cases z : x.1 16 = 0
        · rw [z] at hs; omega
        · omega
      have ms : MRg (pI (pI st 40 0 (nI (s / 6))) 40 1 (nI (s % 6))) 40 0 (upR (upR x' 0 (s / 6)) 1 (s % 6)) := MRg_up (by omega) (MRg_up (by omega) mr)
      have as : Ag2 x (upR (upR x' 0 (s / 6)) 1 (s % 6)) := ⟨fun i hi => by rw [upR_1, if_neg (by omega), upR_1, if_neg (by omega)]; exact ag.1 i hi, ag.2⟩
      have f1 : FR S_it st (pI (pI st 40 0 (nI (s / 6))) 40 1 (nI (s % 6))) := FR.pI (by rfl) (FR.pI (by rfl) FR.rf)
      have hbeg : fX8_beginner (pI (pI st 40 0 (nI (s / 6))) 40 1 (nI (s % 6))) = some (nI (begS x s)) := by
        have k0 : sI (pI (pI st 40 0 (nI (s / 6))) 40 1 (nI (s % 6))) 40 0 = nI (s / 6) := ms.k (by omega)
        have k1 : sI (pI (pI st 40 0 (nI (s / 6))) 40 1 (nI (s % 6))) 40 1 = nI (s % 6) := ms.k (by omega)
        have k16 : sI (pI (pI st 40 0 (nI (s / 6))) 40 1 (nI (s % 6))) 40 16 = nI (x.1 16) := by rw [ms.k (by omega), as.1 16 (by omega)]
        exact beg8 hn hn1 hs h0 (by omega) k0 k1 k16
      have hch := choice8_loop (c := nI (begS x s)) g hs hp hh as ms (LdM.fr (by rfl) f1 l) (HI.fr (by rfl) f1 hi) (by omega) (x.1 17) FU 0 (by omega) (by unfold FU; omega)
      have hcl := chN_lt (x := x) (f := f) (s := s) (by omega)
      have hca : fX8_choiceAt (nI s) (nI h) st = some (nI (chN x f s), pI (pI st 40 0 (nI (s / 6))) 40 1 (nI (s % 6))) := by
        unfold fX8_choiceAt fX8_setsState fX8_insideOf
        rw [n_d6 (by omega), n_r6 (by omega), Option.bind_some, hbeg, Option.bind_some]
        exact hch
      rw [hca, Option.bind_some]
      have hC : Cn x (ldA x s (chN x f s)) := ld_Cn g hs hp
      have ht := hC.lt g
      have f2 : FR S_it st (pI (pI (pI st 40 0 (nI (s / 6))) 40 1 (nI (s % 6))) 38 43 (nI (chN x f s))) := FR.pI (by rfl) f1
      have e43 : sI (pI (pI (pI st 40 0 (nI (s / 6))) 40 1 (nI (s % 6))) 38 43 (nI (chN x f s))) 38 43 = nI (chN x f s) := by rw [sI_pI, if_pos ⟨rfl, rfl⟩]
      have l2 := LdM.fr (by rfl) f2 l
      have i2 := HI.fr (by rfl) f2 hi
      simp only [e43]
      rw [show (5 : Int32) = nI 5 from rfl, n_mul, n_add, n_ixb (by omega), decide_eq_true (show 5 * s + chN x f s < 1920 by omega), chk_t, n_toNat (by omega), l2 s hs hp _ hcl, show (384 : Int32) = nI 384 from rfl, n_mul, n_add, n_ixb (by omega), decide_eq_true (show 384 * h + ldA x s (chN x f s) < 768 by omega), chk_t, n_toNat (by omega), i2 _ hC.1]
      exact ⟨_, _, rfl, as, MRg.fr (S := [(38, some 43)]) (by rfl) (FR.pI (by rfl) FR.rf) ms, f2, fun _ _ => e43⟩
  · rw [if_neg hp, if_neg hp]
    have z0 : (nI (s / 6) = 0) = (s / 6 = 0) := n_eq (b := 0) (by omega) (by omega)
    simp only [z0]
    refine ⟨st, x', ?_, ag, mr, FR.rf, fun h => absurd h hp⟩
    by_cases q : s / 6 = 0
    · rw [if_pos q, oneI_0 (by rw [q]; decide)]
    · have h1 : pc (s / 6) = 1 := by
        have : ∀ b, b < 64 → b ≠ 0 → pc b ≠ 0 := by decide +kernel
        have := this _ (show s / 6 < 64 by omega) q
        omega
      rw [if_neg q, (pc1 _ (by omega) h1).2, Option.bind_some]
      unfold oneI
      rw [if_pos h1]
abbrev S_li : List (Nat × Option Nat) := [(40, some 0), (40, some 1), (38, some 43), (61, none)]
theorem its_loop {x : Rg} {h : Nat} {f : Nat → Int32} (g : GdR x) (hh : h < 2) : ∀ (k m s : Nat) (st : St) (x' : Rg), s + k = 384 → k < m → Ag2 x x' → MRg st 40 0 x' → LdM st x → HI st x h f → (∀ j, j < s → j / 6 < 2 ^ x.1 16 → sI st 61 (384 * (1 - h) + j) = itS x f j) → ∃ u x'', fX8_laysIts_b2 m (nI h) (nI s) st = some u ∧ Ag2 x x'' ∧ MRg u 40 0 x'' ∧ HI u x (1 - h) (itS x f) ∧ FR S_li st u := by
  intro k
  have h64 := p64 g.1
  have hp1 := p1 (n := x.1 16)
  have hn := g.1
  induction k with
  | zero =>
    intro m s st x' h1 h2 ag mr l hi hd
    obtain ⟨m, rfl⟩ : ∃ j, m = j + 1 := ⟨m - 1, by omega⟩
    refine ⟨st, x', ?_, ag, mr, fun j hj => hd j (by omega) hj, FR.rf⟩
    rw [fX8_laysIts_b2, if_pos (by rw [show (384 : Int32) = nI 384 from rfl, n_le (by omega) (by omega)]; omega)]
  | succ k ih =>
    intro m s st x' h1 h2 ag mr l hi hd
    obtain ⟨m, rfl⟩ : ∃ j, m = j + 1 := ⟨m - 1, by omega⟩
    rw [fX8_laysIts_b2, if_neg (by rw [show (384 : Int32) = nI 384 from rfl, n_le (by omega) (by omega)]; omega)]
    unfold fX8_isState fX8_allChildren fX8_insideOf
    rw [mr.k (show 16 < 19 by omega), ag.1 16 (by omega), all6 _ (by omega), n_d6 (by omega)]
    have hlt : (nI (2 ^ x.1 16 - 1) < nI (s / 6)) = (2 ^ x.1 16 - 1 < s / 6) := n_lt (by omega) (by omega)
    simp only [hlt]
    unfold fX8_laysIts_b40
    by_cases q1 : 2 ^ x.1 16 - 1 < s / 6
    · rw [if_pos q1, if_pos rfl, n_p1]
      exact ih m (s + 1) st x' (by omega) (by omega) ag mr l hi (fun j h3 h4 => hd j (by omega) h4)
    · rw [if_neg q1, if_neg (by decide)]
      obtain ⟨u, x2, e1, a2, m2, f2, _⟩ := it8 g (show s / 6 < 2 ^ x.1 16 by omega) hh ag mr l hi
      rw [e1, Option.bind_some, show (384 : Int32) * ((1 : Int32) - nI h) + nI s = nI (384 * (1 - h) + s) by rw [show (1 : Int32) = nI 1 from rfl, n_sub (by omega), show (384 : Int32) = nI 384 from rfl, n_mul, n_add], n_ixb (by omega), decide_eq_true (show 384 * (1 - h) + s < 768 by omega), chk_t, n_toNat (by omega), n_p1]
      have f3 : FR S_li st (pI u 61 (384 * (1 - h) + s) (itS x f s)) := FR.pI (by rfl) (FR.mono (by rfl) f2)
      obtain ⟨u3, x3, r1, r2, r3, r4, r5⟩ := ih m (s + 1) (pI u 61 (384 * (1 - h) + s) (itS x f s)) x2 (by omega) (by omega) a2 (MRg.fr (S := [(61, none)]) (by rfl) (FR.pI (by rfl) FR.rf) m2) (LdM.fr (by rfl) f3 l) (fun j hj => by
        rw [sI_pI, if_neg (by omega)]; exact HI.fr (by rfl) f2 hi j hj) (fun j h3 h4 => by
        rw [sI_pI]
        by_cases c : j = s
        · rw [if_pos ⟨rfl, by omega⟩, c]
        · rw [if_neg (by omega), f2.i (hasA_in (by rfl))]; exact hd j (by omega) h4)
      exact ⟨u3, x3, r1, r2, r3, r4, f3.trans r5⟩
theorem end8g : ∀ (k m s : Nat) (st : St), s + k = 384 → k < m → (∀ j, j < s → sI st 61 j = oneI j) → ∃ u, fX8_laysEnd_b2 m (nI s) st = some u ∧ (∀ j, j < 384 → sI u 61 j = oneI j) ∧ FR [(61, none)] st u := by
  intro k
  induction k with
  | zero =>
    intro m s st h1 h2 hd
    obtain ⟨m, rfl⟩ : ∃ j, m = j + 1 := ⟨m - 1, by omega⟩
    refine ⟨st, ?_, fun j hj => hd j (by omega), FR.rf⟩
    rw [fX8_laysEnd_b2, if_pos (by rw [show (384 : Int32) = nI 384 from rfl, n_le (by omega) (by omega)]; omega)]
  | succ k ih =>
    intro m s st h1 h2 hd
    obtain ⟨m, rfl⟩ : ∃ j, m = j + 1 := ⟨m - 1, by omega⟩
    rw [fX8_laysEnd_b2, if_neg (by rw [show (384 : Int32) = nI 384 from rfl, n_le (by omega) (by omega)]; omega)]
    unfold fX8_insideOf fX8_laysEnd_b35
    have hpc := pc_le (s / 6) (by omega)
    rw [n_d6 (by omega), ones64 _ (by omega), Option.bind_some]
    have he : (nI (pc (s / 6)) = (1 : Int32)) = (pc (s / 6) = 1) := n_eq (b := 1) (by omega) (by omega)
    simp only [he]
    obtain ⟨u, r1, r2, r3⟩ := ih m (s + 1) (pI st 61 s (oneI s)) (by omega) (by omega) (fun j hj => by
      rw [sI_pI]
      by_cases c : j = s
      · rw [if_pos ⟨rfl, c⟩, c]
      · rw [if_neg (by omega)]; exact hd j (by omega))
    refine ⟨u, ?_, r2, (FR.pI (by rfl) FR.rf : FR [(61, none)] st (pI st 61 s (oneI s))).trans r3⟩
    by_cases q : pc (s / 6) = 1
    · rw [if_pos q, (pc1 _ (by omega) q).2, Option.bind_some, n_ixb (by omega), decide_eq_true (show s < 768 by omega), chk_t, n_toNat (by omega), n_p1]
      have : oneI s = fJ6_numberOfTrailingZeros_0f7a4 (nI (s / 6)) := if_pos q
      rw [← this]; exact r1
    · rw [if_neg q, n_ixb (by omega), decide_eq_true (show s < 768 by omega), chk_t, n_toNat (by omega), n_p1, ← oneI_0 q]
      exact r1
theorem game_loop {x : Rg} {w : Int32} {s : Nat} (g : GdR x) (hs : s / 6 < 2 ^ x.1 16) : ∀ (k m i : Nat) (st : St) (x' : Rg), i + k = 11 → k < m → Ag2 x x' → MRg st 40 0 x' → LdM st x → HI st x (i % 2) (itN x i) → ∃ u x'', fX8_game_b56 m w (nI s) (nI i) st = ((fX8_takesBack (0 : Int32) u).bind (fun q4 => if w = 0 then (some (itN x 12 s, q4)) else (some (sI q4 38 43, q4)))) ∧ Ag2 x x'' ∧ MRg u 40 0 x'' ∧ (2 ≤ pc (s / 6) → 1 ≤ x.1 17 → sI u 38 43 = nI (chN x (itN x 11) s)) ∧ FR S_li st u := by
  intro k
  induction k with
  | zero =>
    intro m i st x' h1 h2 ag mr l hi
    obtain ⟨m, rfl⟩ : ∃ j, m = j + 1 := ⟨m - 1, by omega⟩
    have ei : i = 11 := by omega
    subst ei
    obtain ⟨u, x2, e1, a2, m2, f2, c2⟩ := it8 (h := 1) g hs (by omega) ag mr l hi
    refine ⟨u, x2, ?_, a2, m2, c2, FR.mono (by rfl) f2⟩
    rw [fX8_game_b56, if_pos (by decide), show (1 : Int32) = nI 1 from rfl, e1, Option.bind_some]
    rfl
  | succ k ih =>
    intro m i st x' h1 h2 ag mr l hi
    obtain ⟨m, rfl⟩ : ∃ j, m = j + 1 := ⟨m - 1, by omega⟩
    obtain ⟨u, x2, r1, r2, r3, r4, r5⟩ := its_loop (h := i % 2) g (by omega) 384 FU 0 st x' (by omega) (by unfold FU; omega) ag mr l hi (fun j hj => by omega)
    rw [fX8_game_b56, if_neg (by rw [show (11 : Int32) = nI 11 from rfl, n_le (by omega) (by omega)]; omega), jrem2 (by omega), show fX8_laysIts (nI (i % 2)) st = _ from r1, Option.bind_some, n_p1]
    obtain ⟨u2, x3, s1, s2, s3, s4, s5⟩ := ih m (i + 1) u x2 (by omega) (by omega) r2 r3 (LdM.fr (by rfl) r5 l) (by rw [show (i + 1) % 2 = 1 - i % 2 by omega]; exact r4)
    exact ⟨u2, x3, s1, s2, s3, s4, r5.trans s5⟩
abbrev S_gm : List (Nat × Option Nat) := [(38, some 22), (38, some 23), (38, some 24), (38, some 25), (50, none), (51, none), (40, some 0), (40, some 1), (40, some 2), (43, none), (55, none), (38, some 43), (61, none)]
theorem game8 {x : Rg} {w : Int32} {st : St} (g : GdR x) (lo : LwOK x) (m : MRg st 40 0 x) : ∃ u, fX8_game_b36 w st = (if w = 0 then (some (itN x 12 (tgX x), u)) else (some (sI u 38 43, u))) ∧ MRg u 40 0 x ∧ (2 ≤ pc (x.1 0) → 1 ≤ x.1 17 → sI u 38 43 = nI (chN x (itN x 11) (tgX x))) ∧ FR S_gm st u := by
  have h5 := g.2.2.2.2.1
  have h64 := b_lt64 g
  have htg : tgX x < 384 ∧ tgX x / 6 = x.1 0 := by show x.1 0 * 6 + x.1 1 < 384 ∧ (x.1 0 * 6 + x.1 1) / 6 = _; omega
  obtain ⟨u, e1, e2, e3, e4⟩ := leads8 g lo m
  unfold fX8_game_b36
  rw [e1, Option.bind_some, show fX8_laysAside 0 u = _ from aside_ok (k := 0) (by omega), Option.bind_some]
  have f0 : FR [(43, none)] u (pI (pI (pI u 43 (3 * 0) (sI u 40 0)) 43 (3 * 0 + 1) (sI u 40 1)) 43 (3 * 0 + 2) (sI u 40 2)) := FR.pI (by rfl) (FR.pI (by rfl) (FR.pI (by rfl) FR.rf))
  generalize hw : pI (pI (pI u 43 (3 * 0) (sI u 40 0)) 43 (3 * 0 + 1) (sI u 40 1)) 43 (3 * 0 + 2) (sI u 40 2) = u1 at f0
  obtain ⟨u2, r1, r2, r3⟩ := end8g 384 FU 0 u1 (by omega) (by unfold FU; omega) (fun j hj => by omega)
  rw [show fX8_laysEnd u1 = _ from r1, Option.bind_some, now8 m]
  have m2 := MRg.fr (by rfl) r3 (MRg.fr (by rfl) f0 e2)
  obtain ⟨u3, x3, s1, s2, s3, s4, s5⟩ := game_loop (w := w) (s := tgX x) g (by rw [htg.2]; exact g.2.1) 11 FU 0 u2 x (by omega) (by unfold FU; omega) ⟨fun _ _ => rfl, rfl⟩ m2 (LdM.fr (by rfl) r3 (LdM.fr (by rfl) f0 e4)) (fun s hs => by
    have := p64 g.1
    show sI u2 61 (384 * 0 + s) = oneI s
    rw [Nat.mul_zero, Nat.zero_add]; exact r2 s (by omega))
  rw [show fX8_game_b56 FU w (nI (tgX x)) 0 u2 = _ from s1]
  have h43 : ∀ j, sI u3 43 j = sI u1 43 j := fun j => by rw [s5.i (hasA_in (by rfl)), r3.i (hasA_in (by rfl))]
  obtain ⟨v, t1, t2, t3⟩ := takes_x (k := 0) (by omega) s3 s2.ag (by rw [h43, ← hw]; simp [sI_pI, e2.k (show 0 < 19 by omega)]) (by rw [h43, ← hw]; simp [sI_pI, e2.k (show 1 < 19 by omega)]) (by rw [h43, ← hw]; simp [sI_pI, e2.k (show 2 < 19 by omega)])
  refine ⟨v, ?_, t3, fun h1 h2 => ?_, ((((FR.mono (by rfl) e3 : FR S_gm st u).trans (FR.mono (by rfl) f0)).trans (FR.mono (by rfl) r3)).trans (FR.mono (by rfl) s5)).trans (FR.mono (by rfl) t2)⟩
  · rw [show fX8_takesBack 0 u3 = _ from t1, Option.bind_some]
  · rw [t2.i (by rfl)]
    exact s4 (by rw [htg.2]; exact h1) h2
