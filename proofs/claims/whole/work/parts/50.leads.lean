/-! where each saying leads, laid by the model -/
def cnS (x : Rg) (s : Nat) : Nat := s / 6 * 6 + s % 6 % x.1 16
def ldA (x : Rg) (s r : Nat) : Nat := aftA (lwF x) (sx x) (x.1 2) (x.1 15) (cnS x s) r
def Ag2 (x x' : Rg) : Prop := (∀ i, 2 ≤ i → x'.1 i = x.1 i) ∧ x'.2 = x.2
theorem Ag2.ag {x x' : Rg} (h : Ag2 x x') : Ag x x' := ⟨fun i hi => h.1 i (by omega), h.2⟩
theorem Ag2.lw {x x' : Rg} (h : Ag2 x x') : lwF x' = lwF x := by
  unfold lwF
  rw [h.1 19 (by omega), h.2]
theorem Ag2.sxE {x x' : Rg} (h : Ag2 x x') : sx x' = sx x := by
  funext k
  unfold sx
  by_cases c : 3 ≤ k ∧ k < 14 ∨ k = 16
  · rw [if_pos c, if_pos c, h.1 k (by omega)]
  · rw [if_neg c, if_neg c]
theorem Ag2.gd {x x' : Rg} (g : GdR x) (h : Ag2 x x') (h0 : x'.1 0 < 2 ^ x.1 16) (h1 : x'.1 1 ≤ 5) : GdR x' := by
  obtain ⟨g1, g2, g3, g4, g5, g6, g7, g8, g9, g10, g11, g12⟩ := g
  have e := h.1
  refine ⟨by rw [e 16 (by omega)]; exact g1, by rw [e 16 (by omega)]; exact h0, by rw [e 17 (by omega)]; exact g3, by rw [e 2 (by omega)]; exact g4, h1, by rw [e 14 (by omega)]; exact g6, by rw [e 15 (by omega)]; exact g7, by rw [e 18 (by omega)]; exact g8, by rw [e 19 (by omega), e 18 (by omega)]; exact g9, fun j hj => ?_, fun j hj => ?_, fun j hj => ?_⟩
  · rw [e _ (by omega)]; exact g10 j hj
  · rw [e _ (by omega)]; exact g11 j hj
  · rw [e 17 (by omega)] at hj; rw [e _ (by omega)]; exact g12 j hj
theorem Ag2.lo {x x' : Rg} (lo : LwOK x) (h : Ag2 x x') : LwOK x' := fun i hi => by
  rw [h.2]; exact lo i (by rw [← h.1 18 (by omega)]; exact hi)
theorem cn_d {x : Rg} (g : GdR x) (hn : 1 ≤ x.1 16) (s : Nat) : cnS x s / 6 = s / 6 ∧ cnS x s % 6 = s % 6 % x.1 16 ∧ s % 6 % x.1 16 < x.1 16 := by
  have := g.1
  have := Nat.mod_lt (s % 6) (show x.1 16 > 0 by omega)
  unfold cnS
  omega
theorem cn_id {x : Rg} {s : Nat} (h : s % 6 < x.1 16) : cnS x s = s := by
  unfold cnS
  rw [Nat.mod_eq_of_lt h]; omega
theorem ld_cn {x : Rg} (g : GdR x) (hn : 1 ≤ x.1 16) {s r : Nat} : ldA x (cnS x s) r = ldA x s r := by
  have h := cn_d g hn s
  unfold ldA
  rw [cn_id (by rw [h.2.1]; exact h.2.2)]
theorem ld_lt {x : Rg} (g : GdR x) (hn : 1 ≤ x.1 16) {s r : Nat} (hs : s / 6 < 2 ^ x.1 16) : ldA x s r / 6 < 2 ^ x.1 16 ∧ ldA x s r % 6 < x.1 16 ∧ ldA x s r < 384 := by
  have h := cn_d g hn s
  have e : sx x 16 = x.1 16 := sx_e (by omega)
  unfold ldA aftA
  rw [e, h.1]
  have := behA_lt (n := x.1 16) (b := s / 6) (t := sayA (lwF x) (sx x) (x.1 2) (x.1 15) (s / 6) (cnS x s % 6) r 0) g.1 hs
  exact ⟨this.1, this.2.2.2 hn, this.2.2.1⟩
abbrev S_ll : List (Nat × Option Nat) := [(38, some 22), (38, some 23), (38, some 24), (38, some 25), (50, none), (51, none), (40, some 0), (40, some 1), (55, none)]
theorem leads_in {x : Rg} {s : Nat} {K : Int32 → St → Option St} (g : GdR x) (lo : LwOK x) (hs : s / 6 < 2 ^ x.1 16) (hp : 2 ≤ pc (s / 6)) : ∀ (k m r : Nat) (x' : Rg) (st : St), r + k = x.1 17 → k < m → Ag2 x x' → MRg st 40 0 x' → ∃ u x'', fX8_laysLeads_b38 K m (nI s) (nI r) st = K (nI (s + 1)) u ∧ Ag2 x x'' ∧ MRg u 40 0 x'' ∧ (∀ j, sI u 55 j = if 5 * s + r ≤ j ∧ j < 5 * s + x.1 17 then nI (ldA x s (j - 5 * s)) else sI st 55 j) ∧ FR S_ll st u := by
  intro k
  have hn := g.1
  have h64 := p64 hn
  have h17 := g.2.2.1
  induction k with
  | zero =>
    intro m r x' st h1 h2 ag mr
    obtain ⟨m, rfl⟩ : ∃ j, m = j + 1 := ⟨m - 1, by omega⟩
    refine ⟨st, x', ?_, ag, mr, fun j => by rw [if_neg (by omega)], FR.rf⟩
    rw [fX8_laysLeads_b38, mr.k (by omega), ag.1 17 (by omega), if_pos (by rw [n_le (by omega) (by omega)]; omega)]
    unfold fX8_laysLeads_b81
    rw [n_p1]
  | succ k ih =>
    intro m r x' st h1 h2 ag mr
    obtain ⟨m, rfl⟩ : ∃ j, m = j + 1 := ⟨m - 1, by omega⟩
    have h0 := pc2 _ (show s / 6 < 64 by omega) hp
    have hn1 : 1 ≤ x.1 16 := by
      by_cases q : x.1 16 = 0
      · rw [q] at hs; omega
      · omega
    rw [fX8_laysLeads_b38, mr.k (by omega), ag.1 17 (by omega), if_neg (by rw [n_le (by omega) (by omega)]; omega)]
    unfold fX8_setsState fX8_insideOf
    rw [n_d6 (by omega), n_r6 (by omega), Option.bind_some]
    -- the state that is set
    have ms : MRg (pI (pI st 40 0 (nI (s / 6))) 40 1 (nI (s % 6))) 40 0 (upR (upR x' 0 (s / 6)) 1 (s % 6)) := MRg_up (by omega) (MRg_up (by omega) mr)
    have as : Ag2 x (upR (upR x' 0 (s / 6)) 1 (s % 6)) := ⟨fun i hi => by rw [upR_1, if_neg (by omega), upR_1, if_neg (by omega)]; exact ag.1 i hi, ag.2⟩
    have gs : GdR (upR (upR x' 0 (s / 6)) 1 (s % 6)) := as.gd g hs (by show s % 6 ≤ 5; omega)
    generalize hxs : upR (upR x' 0 (s / 6)) 1 (s % 6) = xs at ms as gs
    have x0 : xs.1 0 = s / 6 := by rw [← hxs]; rfl
    have x1 : xs.1 1 = s % 6 := by rw [← hxs]; rfl
    have x16 : xs.1 16 = x.1 16 := as.1 16 (by omega)
    obtain ⟨u, e1, e2, e3⟩ := says_ok (r := r) (less := 0) gs (as.lo lo) ms (by rw [x0]; exact h0) (by rw [as.1 17 (by omega)]; omega) (by omega)
    rw [show (0 : Int32) = nI 0 from rfl, e1, Option.bind_some]
    have hb := behA_lt (n := x.1 16) (b := s / 6) (t := tellX xs r 0) hn hs
    have y0 : (sayX xs r 0).1 0 = behA (x.1 16) (s / 6) (tellX xs r 0) / 6 := by
      rw [sayX_1, if_pos rfl, x16, x0]
    have y1 : (sayX xs r 0).1 1 = behA (x.1 16) (s / 6) (tellX xs r 0) % 6 := by
      rw [sayX_1, if_neg (by omega), if_pos rfl, x16, x0]
    have hld : ldA x s r = behA (x.1 16) (s / 6) (tellX xs r 0) := by
      have h := cn_d g hn1 s
      unfold ldA aftA
      rw [show sx x 16 = x.1 16 from sx_e (by omega), h.1, h.2.1]
      show _ = behA _ _ (sayA (lwF xs) (sx xs) (xs.1 2) (xs.1 15) (xs.1 0) (xs.1 1 % xs.1 16) r 0)
      rw [as.lw, as.sxE, as.1 2 (by omega), as.1 15 (by omega), x0, x1, x16]
    have hnow : fX8_stateNow u = nI (ldA x s r) := by
      unfold fX8_stateNow
      rw [e3.k (by omega), e3.k (by omega), y0, y1, show (6 : Int32) = nI 6 from rfl, n_mul, n_add, hld]
      congr 1
      omega
    have hij : (5 : Int32) * nI s + nI r = nI (5 * s + r) := by rw [show (5 : Int32) = nI 5 from rfl, n_mul, n_add]
    have h384 : s < 384 := by omega
    simp only [hnow, hij, n_ixb (show 5 * s + r < 2147483648 by omega), show 5 * s + r < 1920 by omega, decide_true, chk_t, n_toNat (show 5 * s + r < 2147483648 by omega), n_p1]
    have f1 : FR S_ll st (pI u 55 (5 * s + r) (nI (ldA x s r))) := FR.pI (by rfl) ((FR.pI (by rfl) (FR.pI (by rfl) FR.rf) : FR S_ll st (pI (pI st 40 0 (nI (s / 6))) 40 1 (nI (s % 6)))).trans (FR.mono (by rfl) e2))
    have a2 : Ag2 x (sayX xs r 0) := ⟨fun i hi => by rw [sayX_1, if_neg (by omega), if_neg (by omega)]; exact as.1 i hi, as.2⟩
    obtain ⟨u2, x'', r1, r2, r3, r4, r5⟩ := ih m (r + 1) (sayX xs r 0) (pI u 55 (5 * s + r) (nI (ldA x s r))) (by omega) (by omega) a2 (MRg.fr (S := [(55, none)]) (by rfl) (FR.pI (by rfl) FR.rf) e3)
    refine ⟨u2, x'', r1, r2, r3, fun j => ?_, f1.trans r5⟩
    rw [r4 j]
    by_cases q : 5 * s + (r + 1) ≤ j ∧ j < 5 * s + x.1 17
    · rw [if_pos q, if_pos (by omega)]
    · rw [if_neg q, sI_pI]
      by_cases qj : j = 5 * s + r
      · rw [if_pos ⟨rfl, qj⟩, if_pos (by omega), show j - 5 * s = r by omega]
      · rw [if_neg (by omega), if_neg (by omega), e2.i (hasA_in (by rfl)), sI_pI, if_neg (by omega), sI_pI, if_neg (by omega)]
theorem leads_loop {x : Rg} (g : GdR x) (lo : LwOK x) : ∀ (k m s : Nat) (x' : Rg) (st : St), s + k = 384 → k < m → Ag2 x x' → MRg st 40 0 x' → ∃ u x'', fX8_laysLeads_b7 m (nI s) st = fX8_takesBack 0 u ∧ Ag2 x x'' ∧ MRg u 40 0 x'' ∧ (∀ j, j < 5 * s → sI u 55 j = sI st 55 j) ∧ (∀ s', s ≤ s' → s' / 6 < 2 ^ x.1 16 → 2 ≤ pc (s' / 6) → ∀ r, r < x.1 17 → sI u 55 (5 * s' + r) = nI (ldA x s' r)) ∧ FR S_ll st u := by
  intro k
  have hn := g.1
  have h64 := p64 hn
  have hp1 := p1 (n := x.1 16)
  have h17 := g.2.2.1
  induction k with
  | zero =>
    intro m s x' st h1 h2 ag mr
    obtain ⟨m, rfl⟩ : ∃ j, m = j + 1 := ⟨m - 1, by omega⟩
    refine ⟨st, x', ?_, ag, mr, fun _ _ => rfl, fun s' h3 h4 => by omega, FR.rf⟩
    rw [fX8_laysLeads_b7, if_pos (by rw [show (384 : Int32) = nI 384 from rfl, n_le (by omega) (by omega)]; omega)]
  | succ k ih =>
    intro m s x' st h1 h2 ag mr
    obtain ⟨m, rfl⟩ : ∃ j, m = j + 1 := ⟨m - 1, by omega⟩
    rw [fX8_laysLeads_b7, if_neg (by rw [show (384 : Int32) = nI 384 from rfl, n_le (by omega) (by omega)]; omega)]
    unfold fX8_isState fX8_allChildren fX8_insideOf
    rw [mr.k (show 16 < 19 by omega), ag.1 16 (by omega), all6 _ (by omega), n_d6 (by omega)]
    have hlt : (nI (2 ^ x.1 16 - 1) < nI (s / 6)) = (2 ^ x.1 16 - 1 < s / 6) := n_lt (by omega) (by omega)
    simp only [hlt]
    have skip : ¬ (s / 6 < 2 ^ x.1 16 ∧ 2 ≤ pc (s / 6)) → ∃ u x'', fX8_laysLeads_b81 (fun zl1 zst => fX8_laysLeads_b7 m zl1 zst) (nI s) st = fX8_takesBack 0 u ∧ Ag2 x x'' ∧ MRg u 40 0 x'' ∧ (∀ j, j < 5 * s → sI u 55 j = sI st 55 j) ∧ (∀ s', s ≤ s' → s' / 6 < 2 ^ x.1 16 → 2 ≤ pc (s' / 6) → ∀ r, r < x.1 17 → sI u 55 (5 * s' + r) = nI (ldA x s' r)) ∧ FR S_ll st u := by
      intro hno
      obtain ⟨u, x'', r1, r2, r3, r4, r5, r6⟩ := ih m (s + 1) x' st (by omega) (by omega) ag mr
      unfold fX8_laysLeads_b81
      rw [n_p1]
      refine ⟨u, x'', r1, r2, r3, fun j hj => r4 j (by omega), fun s' h3 h4 h5 r hr => ?_, r6⟩
      by_cases q : s' = s
      · subst q; exact absurd ⟨h4, h5⟩ hno
      · exact r5 s' (by omega) h4 h5 r hr
    by_cases q1 : 2 ^ x.1 16 - 1 < s / 6
    · rw [if_pos q1, if_pos rfl]
      exact skip (by omega)
    · rw [if_neg q1, if_neg (by decide), ones64 _ (by omega), Option.bind_some]
      have hpc := pc_le (s / 6) (by omega)
      have hle : ((2 : Int32) ≤ nI (pc (s / 6))) = (2 ≤ pc (s / 6)) := n_le (a := 2) (by omega) (by omega)
      simp only [hle]
      by_cases q2 : 2 ≤ pc (s / 6)
      · rw [if_pos q2]
        obtain ⟨u, x'', r1, r2, r3, r4, r5⟩ := leads_in (K := fun zl1 zst => fX8_laysLeads_b7 m zl1 zst) g lo (show s / 6 < 2 ^ x.1 16 by omega) q2 (x.1 17) FU 0 x' st (by omega) (by unfold FU; omega) ag mr
        rw [show fX8_laysLeads_b38 (fun zl1 zst => fX8_laysLeads_b7 m zl1 zst) FU (nI s) 0 st = _ from r1]
        obtain ⟨u2, x3, s1, s2, s3, s4, s5, s6⟩ := ih m (s + 1) x'' u (by omega) (by omega) r2 r3
        refine ⟨u2, x3, s1, s2, s3, fun j hj => ?_, fun s' h3 h4 h5 r hr => ?_, r5.trans s6⟩
        · rw [s4 j (by omega), r4 j, if_neg (by omega)]
        · by_cases q : s' = s
          · subst q
            rw [s4 _ (by omega), r4, if_pos (by omega), show 5 * s' + r - 5 * s' = r by omega]
          · exact s5 s' (by omega) h4 h5 r hr
      · rw [if_neg q2]
        exact skip (by omega)
def LdM (st : St) (x : Rg) : Prop := ∀ s, s / 6 < 2 ^ x.1 16 → 2 ≤ pc (s / 6) → ∀ r, r < x.1 17 → sI st 55 (5 * s + r) = nI (ldA x s r)
theorem LdM.fr {S : List (Nat × Option Nat)} {st u : St} {x : Rg} (e : hasA S 55 = false) (h : FR S st u) (m : LdM st x) : LdM u x := fun s h1 h2 r hr => (h.i (hasA_in e)).trans (m s h1 h2 r hr)
abbrev S_ld : List (Nat × Option Nat) := [(38, some 22), (38, some 23), (38, some 24), (38, some 25), (50, none), (51, none), (40, some 0), (40, some 1), (40, some 2), (43, none), (55, none)]
theorem leads8 {st : St} {x : Rg} (g : GdR x) (lo : LwOK x) (m : MRg st 40 0 x) : ∃ u, fX8_laysLeads st = some u ∧ MRg u 40 0 x ∧ FR S_ld st u ∧ LdM u x := by
  unfold fX8_laysLeads
  rw [show fX8_laysAside 0 st = _ from aside_ok (k := 0) (by omega), Option.bind_some]
  have f0 : FR S_ld st (pI (pI (pI st 43 (3 * 0) (sI st 40 0)) 43 (3 * 0 + 1) (sI st 40 1)) 43 (3 * 0 + 2) (sI st 40 2)) := FR.pI (by rfl) (FR.pI (by rfl) (FR.pI (by rfl) FR.rf))
  have m0 : MRg (pI (pI (pI st 43 (3 * 0) (sI st 40 0)) 43 (3 * 0 + 1) (sI st 40 1)) 43 (3 * 0 + 2) (sI st 40 2)) 40 0 x := MRg.fr (S := [(43, none)]) (by rfl) (FR.pI (by rfl) (FR.pI (by rfl) (FR.pI (by rfl) FR.rf))) m
  obtain ⟨u, x', r1, r2, r3, r4, r5, r6⟩ := leads_loop g lo 384 FU 0 x _ (by omega) (by unfold FU; omega) ⟨fun _ _ => rfl, rfl⟩ m0
  have h43 : ∀ j, sI u 43 j = sI (pI (pI (pI st 43 (3 * 0) (sI st 40 0)) 43 (3 * 0 + 1) (sI st 40 1)) 43 (3 * 0 + 2) (sI st 40 2)) 43 j := fun j => by
    rw [r6.i (hasA_in (by rfl))]
  obtain ⟨v, e1, e2, e3⟩ := takes_x (k := 0) (by omega) r3 r2.ag (by rw [h43]; simp [sI_pI, m.k (show 0 < 19 by omega)]) (by rw [h43]; simp [sI_pI, m.k (show 1 < 19 by omega)]) (by rw [h43]; simp [sI_pI, m.k (show 2 < 19 by omega)])
  refine ⟨v, ?_, e3, (f0.trans (FR.mono (by rfl) r6)).trans (FR.mono (by rfl) e2), LdM.fr (by rfl) e2 (fun s h1 h2 r hr => r5 s (by omega) h1 h2 r hr)⟩
  exact r1.trans e1
theorem MV_ld {st v : St} {A : All} (h : FR S_ld st v) (m : MV st A) (c : MRg v 40 0 A.1) : MV v A := MV_xr (S := S_ld) (by rfl) h m c
/-- the class's own way -/
theorem ld7 {st : St} {x : Rg} {s r : Nat} (g : GdR x) (v : Vt st x (lwF x) (x.1 2) (x.1 15)) (hs : s / 6 < 2 ^ x.1 16) (hp : 2 ≤ pc (s / 6)) (ha : s % 6 < x.1 16) (hr : r < x.1 17) : ∃ u, fX6_after (nI s) (nI r) st = some (nI (ldA x s r), u) ∧ Vt u x (lwF x) (x.1 2) (x.1 15) ∧ FR wX6_after_S st u := by
  have h64 := p64 g.1
  obtain ⟨u, e1, e2, e3⟩ := after_ok g v hs (pc2 _ (by omega) hp) ha hr
  refine ⟨u, ?_, e2, e3⟩
  rw [e1]
  unfold ldA
  rw [cn_id ha]
