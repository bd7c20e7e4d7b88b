/-! quarters by draws -/
def lowB (b : Nat) : Nat := if bit b 0 = 1 then 0 else if bit b 1 = 1 then 1 else if bit b 2 = 1 then 2 else if bit b 3 = 1 then 3 else if bit b 4 = 1 then 4 else 5
theorem low64 : ∀ b, b < 64 → pc b = 1 → fJ6_numberOfTrailingZeros_0f7a4 (nI b) = nI (lowB b) ∧ lowB b < 6 := by decide +kernel
theorem oneI_1 {s : Nat} (h : s / 6 < 64) (h1 : pc (s / 6) = 1) : oneI s = nI (lowB (s / 6)) := by
  unfold oneI
  rw [if_pos h1, (low64 _ h h1).1]
theorem oneI_0 {s : Nat} (h1 : ¬ pc (s / 6) = 1) : oneI s = -1 := by
  unfold oneI
  rw [if_neg h1]
def d1 (s : Nat) : Nat := (s * 1103 + 12345) % 1000003
theorem d1_lt (s : Nat) : d1 s < 1000003 := Nat.mod_lt _ (by omega)
theorem d1_ok {x : Int64} {sd : Nat} (h : x.toInt = (sd : Int)) (hs : sd < 1000003) : (ljrem (x * (1103 : Int64) + (12345 : Int64)) (1000003 : Int64)).toInt = (d1 sd : Int) := by
  have t1 : (1103 : Int64).toInt = 1103 := by decide
  have t2 : (12345 : Int64).toInt = 12345 := by decide
  have t3 : (1000003 : Int64).toInt = 1000003 := by decide
  have a1 := Sm.mul h t1 (by omega) (by omega) (by omega) (by omega)
  have a2 := Sm.add a1 t2 (by omega) (by omega) (by omega) (by omega)
  have a3 := Sm.rem a2 t3 (by omega) (by omega) (by omega) (by omega)
  rw [a3]
  unfold d1
  rw [show ((sd : Int) * 1103 + 12345) = ((sd * 1103 + 12345 : Nat) : Int) by omega, show (1000003 : Int) = ((1000003 : Nat) : Int) from rfl, ← Int.ofNat_tmod]
theorem d1_ok' {x : Int64} {sd : Nat} (h : x.toInt = (sd : Int)) (hs : sd < 1000003) : (ljrem ((1103 : Int64) * x + (12345 : Int64)) (1000003 : Int64)).toInt = (d1 sd : Int) := by
  rw [Int64.mul_comm]; exact d1_ok h hs
theorem rem64 {x : Int64} {a q : Nat} (h : x.toInt = (a : Int)) (ha : a < 1000003) (hq : q ≤ 1000) (h1 : 1 ≤ q) : (ljrem x (nI q).toInt64).toInt32 = nI (a % q) := by
  have t1 : (nI q).toInt64.toInt = (q : Int) := by rw [Int32.toInt_toInt64, n_toInt (by omega)]
  have a3 := Sm.rem h t1 (by omega) (by omega) (by omega) (by omega)
  rw [← Int.ofNat_tmod] at a3
  have := Nat.mod_lt a (show q > 0 by omega)
  exact toI32 a3 (by omega)
theorem draw7 {st : St} {sd q : Nat} (h : (sL st 33 5).toInt = (sd : Int)) (hs : sd < 1000003) (hq : q ≤ 1000) (h1 : 1 ≤ q) : ∃ v : Int64, fX0_draw (nI q) st = some (nI (d1 sd % q), pL st 33 5 v) ∧ v.toInt = (d1 sd : Int) := by
  have hd := d1_ok h hs
  refine ⟨_, ?_, hd⟩
  unfold fX0_draw
  have t1 : (nI q).toInt64.toInt = (q : Int) := by rw [Int32.toInt_toInt64, n_toInt (by omega)]
  rw [if_pos (by rw [show (1 : Int32) = nI 1 from rfl, n_le (by omega) (by omega)]; exact h1), nzl_t (by rw [t1]; omega), chk_t, sL_pL, if_pos ⟨rfl, rfl⟩, rem64 hd (d1_lt sd) hq h1]
theorem draw8 {st : St} {sd q : Nat} (h : sI st 38 58 = nI sd) (hs : sd < 1000003) (hq : q ≤ 1000) (h1 : 1 ≤ q) : fX8_draws (nI q) st = some (nI (d1 sd % q), pI st 38 58 (nI (d1 sd))) := by
  have t1 : (nI sd).toInt64.toInt = (sd : Int) := by rw [Int32.toInt_toInt64, n_toInt (by omega)]
  have hd := d1_ok' t1 hs
  have hl := d1_lt sd
  unfold fX8_draws
  rw [n_nz (by omega) (by omega), chk_t, h, toI32 hd (by omega), sI_pI, if_pos ⟨rfl, rfl⟩, n_rem (by omega) (by omega)]
def qS (sd : Nat) (x : Rg) : Rg := sayX x (d1 sd % x.1 17) (if x.1 14 ≤ d1 (d1 sd) % 10 then 0 else 1)
def qW (x : Rg) (W : Nat → Int32) : Nat → Int32 := if pc (x.1 0) = 1 then va_up W (lowB (x.1 0)) (W (lowB (x.1 0)) + 1) else W
abbrev rdX (x : Rg) : Rg := psX x (2 ^ x.1 16 - 1) 0 (x.1 2 + 1)
def qrX : Nat → Nat → Rg → Nat → (Nat → Int32) → Rg × Nat × (Nat → Int32)
  | 0, _, x, p, W => (x, p, W)
  | k + 1, sd, x, p, W => if 2 ≤ pc (x.1 0) then qrX k (d1 (d1 sd)) (qS sd x) p (qW (qS sd x) W)
    else if x.1 2 = 999 then (x, p, W)
    else if 2 ≤ pc (2 ^ x.1 16 - 1) then qrX k (d1 (d1 sd)) (qS sd (rdX x)) (p + 1) (qW (qS sd (rdX x)) W)
    else (rdX x, p + 1, W)
def dA (A : All) (dr : Dr) : All := (A.1, A.2.1, A.2.2.1, A.2.2.2.1, A.2.2.2.2.1, dr)
theorem CV_dr {S : List (Nat × Option Nat)} {st u : St} {A : All} {dr : Dr} (hS : subS S [(33, none), (34, none)] = true) (h0 : FR S st u) (m : CV st A) (d : CD u dr) : CV u (dA A dr) := by
  have h : FR [(33, none), (34, none)] st u := FR.mono hS h0
  exact ⟨WT_low (by rfl) h m.1, ⟨CRg_fr (by rfl) h m.2.1.1, Lws_fr (by rfl) h m.2.1.2⟩, CI_fr (by rfl) h m.2.2.1, CS_fr (by rfl) h m.2.2.2.1, CT_fr (by rfl) h m.2.2.2.2.1, CP_fr (by rfl) h m.2.2.2.2.2.1, d, CVo_fr (by rfl) (by rfl) h m.2.2.2.2.2.2.2⟩
/-- what the ring tells, at another time of it -/
def Tm (A : All) (x : Rg) : Prop := GdR x ∧ Ag A.1 x
theorem Tm.lw {A : All} {x : Rg} (h : Tm A x) : lwF x = lwF A.1 := by
  unfold lwF
  rw [h.2.1 19 (by omega), h.2.2]
theorem Tm.sxE {A : All} {x : Rg} (h : Tm A x) : sx x = sx A.1 := by
  funext k
  unfold sx
  by_cases c : 3 ≤ k ∧ k < 14 ∨ k = 16
  · rw [if_pos c, if_pos c, h.2.1 k (by omega)]
  · rw [if_neg c, if_neg c]
theorem Tm.say {A : All} {x : Rg} {r less : Nat} (h : Tm A x) : Tm A (sayX x r less) := ⟨Gd_say h.1, h.2.tr Ag_say⟩
theorem Tm.rd {A : All} {x : Rg} (h : Tm A x) (h9 : x.1 2 < 999) : Tm A (rdX x) := by
  refine ⟨Gd_psX h.1 (by have := p1 (n := x.1 16); omega) (by omega) (by omega), fun i hi => ?_, h.2.2⟩
  rw [psX_1, if_neg (by omega), if_neg (by omega), if_neg (by omega)]
  exact h.2.1 i hi
abbrev S_qr : List (Nat × Option Nat) := [(19, none), (20, none), (21, none), (22, none), (23, none), (24, none), (33, none), (34, none)]
abbrev K50 : Type := Int32 → Int32 → Int32 → Int32 → Int32 → St → Option (Int32 × St)
theorem run_say {A : All} {N i p sd : Nat} {x : Rg} {W : Nat → Int32} {w0 : Int32} {st : St} {K : K50} (g : Gd A) (tm : Tm A x) (h17 : 1 ≤ A.1.1 17) (c2 : 2 ≤ pc (x.1 0)) (c : CV st (dA A (some (A.1.1 16), w0, W))) (hs : (sL st 33 5).toInt = (sd : Int)) (hsd : sd < 1000003) : ∃ u, fX0_run_b103 K (nI N) (nI (x.1 2)) (nI (stX x)) (nI p) (nI i) st = K (nI N) (nI (x.1 2)) (nI (stX (qS sd x))) (nI p) (nI (i + 1)) u ∧ CV u (dA A (some (A.1.1 16), w0, qW (qS sd x) W)) ∧ (sL u 33 5).toInt = (d1 (d1 sd) : Int) ∧ FR S_qr st u := by
  obtain ⟨gx, ag⟩ := tm
  have hx64 := b_lt64 gx
  have h0 := pc2 _ hx64 c2
  have hn1 := many_in gx h0
  have e16 : x.1 16 = A.1.1 16 := ag.1 16 (by omega)
  have e17 : x.1 17 = A.1.1 17 := ag.1 17 (by omega)
  have e14 : x.1 14 = A.1.1 14 := ag.1 14 (by omega)
  have hn := g.1.1
  have h17' := g.1.2.2.1
  have g' : Gd (dA A (some (A.1.1 16), w0, W)) := ⟨g.1, g.2.1, g.2.2.1, g.2.2.2.1, fun d hd => by
    have := Option.some.inj hd
    omega⟩
  obtain ⟨nl, e1, l1⟩ := force_ok g' c
  obtain ⟨u, e2, v2, f2⟩ := tune_ok (x := A.1) g.1 c.1 c.2.1.1 c.2.2.2.2.2.2.2 l1 gx.2.2.2.1
  have c2' : CV u (dA A (some (A.1.1 16), w0, W)) := CV_v (S := wX6_tune_S) (by rfl) f2 c v2.1 v2.o
  have hsu : (sL u 33 5).toInt = (sd : Int) := by rw [(f2.2 33 5 (by rfl)).2]; exact hs
  have e6 : sI u 1 6 = nI (A.1.1 17) := c2'.2.1.1.1.2.2.1
  obtain ⟨v1, e3, d3⟩ := draw7 (q := A.1.1 17) hsu hsd (by omega) h17
  have hd1 := d1_lt sd
  have hd2 := d1_lt (d1 sd)
  obtain ⟨v2', e4, d4⟩ := draw7 (st := pL u 33 5 v1) (sd := d1 sd) (q := 10) (by rw [sL_pL, if_pos ⟨rfl, rfl⟩]; exact d3) hd1 (by omega) (by omega)
  have fL : FR [(33, none)] u (pL (pL u 33 5 v1) 33 5 v2') := FR.pL (by rfl) (FR.pL (by rfl) FR.rf)
  have vL : Vt (pL (pL u 33 5 v1) 33 5 v2') A.1 (lwF A.1) (x.1 2) (A.1.1 15) := Vt.fr (S := [(33, none)]) (by rfl) (by rfl) (by rfl) (by rfl) (by rfl) fL v2
  have hr : d1 sd % A.1.1 17 < A.1.1 17 := Nat.mod_lt _ (by omega)
  -- a saying
  have core : ∀ less, less ≤ 1 → less = (if x.1 14 ≤ d1 (d1 sd) % 10 then 0 else 1) → ∃ u2, fX0_stateBehindDraws_b35 (nI (stX x)) (nI (d1 sd % A.1.1 17)) (nI less) (pL (pL u 33 5 v1) 33 5 v2') = some (nI (stX (qS sd x)), u2) ∧ Vt u2 A.1 (lwF A.1) (x.1 2) (A.1.1 15) ∧ FR wX6_speak_S (pL (pL u 33 5 v1) 33 5 v2') u2 := by
    intro less hl el
    have hst := stX_d gx
    have hpl : plX x < A.1.1 16 := by rw [← e16]; exact (plX_lt gx).2 hn1
    obtain ⟨u2, p1, p2, p3, p4, p5, p6⟩ := speak_ok (b := x.1 0) (at_ := plX x) (r := d1 sd % A.1.1 17) (less := less) g.1 vL hx64 hpl hr hl
    refine ⟨u2, ?_, p2, p3⟩
    unfold fX0_stateBehindDraws_b35
    have h384 : stX x < 384 := by have := hst.1; omega
    rw [n_d6 (by omega), n_r6 (by omega), hst.1, hst.2, p1, Option.bind_some]
    have tx : tellX x (d1 sd % A.1.1 17) less = sayA (lwF A.1) (sx A.1) (x.1 2) (A.1.1 15) (x.1 0) (plX x) (d1 sd % A.1.1 17) less := by
      show sayA (lwF x) (sx x) (x.1 2) (x.1 15) (x.1 0) (x.1 1 % x.1 16) _ _ = _
      rw [Tm.lw ⟨gx, ag⟩, Tm.sxE ⟨gx, ag⟩, ag.1 15 (by omega)]
      unfold plX
      rw [if_neg (by omega)]
    obtain ⟨q1, q2⟩ := sayF_in (lw := lwF A.1) (vr := x.1 2) (vm := A.1.1 15) (b := x.1 0) (at_ := plX x) (r := d1 sd % A.1.1 17) (less := less) g.1 (by rw [← e16]; exact gx.2.1) h0 hpl
    have hb := behind_ok (b := x.1 0) (t := sayA (lwF A.1) (sx A.1) (x.1 2) (A.1.1 15) (x.1 0) (plX x) (d1 sd % A.1.1 17) less) g.1 p2.2.1 hx64 q1 q2 sayA_c
    simp only [hb]
    rw [← tx]
    unfold qS
    rw [← el, e17, stX_say gx hn1, e16]
  have hless : ∃ u2, fX0_stateBehindDraws (nI (stX x)) u = some (nI (stX (qS sd x)), u2) ∧ Vt u2 A.1 (lwF A.1) (x.1 2) (A.1.1 15) ∧ FR wX6_speak_S (pL (pL u 33 5 v1) 33 5 v2') u2 := by
    unfold fX0_stateBehindDraws
    rw [e6, e3, Option.bind_some, show (10 : Int32) = nI 10 from rfl, e4, Option.bind_some]
    have h52 : sI (pL (pL u 33 5 v1) 33 5 v2') 5 2 = nI (A.1.1 14) := by
      rw [fL.i (hasA_in (by rfl))]; exact c2'.2.1.1.2.1.2.2.1
    have hb14 := g.1.2.2.2.2.2.1
    have h10 := Nat.mod_lt (d1 (d1 sd)) (show 10 > 0 by omega)
    simp only [h52]
    by_cases q : x.1 14 ≤ d1 (d1 sd) % 10
    · rw [if_pos (by rw [n_le (by omega) (by omega)]; omega)]
      exact core 0 (by omega) (by rw [if_pos q])
    · rw [if_neg (by rw [n_le (by omega) (by omega)]; omega)]
      exact core 1 (by omega) (by rw [if_neg q])
  obtain ⟨u2, e5, v5, f5⟩ := hless
  have tq : Tm A (qS sd x) := Tm.say ⟨gx, ag⟩
  have hq := stX_d tq.1
  have hq64 := b_lt64 tq.1
  have cL : CV (pL (pL u 33 5 v1) 33 5 v2') (dA A (some (A.1.1 16), w0, W)) := by
    have dd : CD u (some (A.1.1 16), w0, W) := c2'.2.2.2.2.2.2.1
    have := CV_dr (dr := (some (A.1.1 16), w0, W)) (by rfl) fL c2' (by
      unfold CD at dd ⊢
      simpa only [sI_pL] using dd)
    exact this
  have c5 : CV u2 (dA A (some (A.1.1 16), w0, W)) := CV_v (S := wX6_speak_S) (by rfl) f5 cL v5.1 v5.o
  have hs5 : (sL u2 33 5).toInt = (d1 (d1 sd) : Int) := by
    rw [(f5.2 33 5 (by rfl)).2, sL_pL, if_pos ⟨rfl, rfl⟩]; exact d4
  have fS : FR S_qr st u2 := ((FR.mono (by rfl) f2 : FR S_qr st u).trans (FR.mono (by rfl) fL)).trans (FR.mono (by rfl) f5)
  have hone : fX1_onlyOneIn (nI (stX (qS sd x))) = oneI (stX (qS sd x)) := one7 (by rw [hq.1]; exact hq64)
  unfold fX0_run_b103
  rw [e1, Option.bind_some, e2, Option.bind_some, e5, Option.bind_some]
  simp only [hone]
  unfold fX0_run_b159 qW
  by_cases q : pc ((qS sd x).1 0) = 1
  · have ho : oneI (stX (qS sd x)) = nI (lowB ((qS sd x).1 0)) := by
      rw [oneI_1 (by rw [hq.1]; exact hq64) (by rw [hq.1]; exact q), hq.1]
    have hlb := (low64 _ hq64 q).2
    rw [ho, if_pos q]
    generalize lowB ((qS sd x).1 0) = w at hlb
    have cd5 : CD u2 (some (A.1.1 16), w0, W) := c5.2.2.2.2.2.2.1
    have h34 : ∀ j, j < 6 → sI u2 34 j = W j := by
      rcases cd5 with ⟨h, _⟩ | ⟨d, _, _, _, h⟩
      · cases h
      · exact h
    rw [if_neg (by rw [n_neg (by omega)]; exact id), if_neg (by rw [show (6 : Int32) = nI 6 from rfl, n_le (by omega) (by omega)]; omega), n_ixb (by omega), decide_eq_true hlb, chk_t, chk_t, n_toNat (by omega), h34 w hlb, n_p1]
    refine ⟨_, rfl, ?_, by rw [sL_pI]; exact hs5, FR.pI (by rfl) fS⟩
    refine CV_dr (A := dA A (some (A.1.1 16), w0, W)) (dr := (some (A.1.1 16), w0, va_up W w (W w + 1))) (S := [(34, none)]) (by rfl) (FR.pI (by rfl) FR.rf) c5 ?_
    rcases cd5 with ⟨h, _⟩ | ⟨d, k1, k2, k3, k4⟩
    · cases h
    · refine Or.inr ⟨d, k1, by rw [sI_pI, if_neg (by omega)]; exact k2, by rw [sI_pI, if_neg (by omega)]; exact k3, fun j hj => ?_⟩
      rw [sI_pI]
      show _ = va_up W w (W w + 1) j
      unfold va_up
      by_cases e : j = w
      · rw [if_pos ⟨rfl, e⟩, if_pos e]
      · rw [if_neg (by omega), if_neg e]; exact k4 j hj
  · have ho : oneI (stX (qS sd x)) = -1 := oneI_0 (by rw [hq.1]; exact q)
    rw [ho, if_neg q, if_pos (by decide), n_p1]
    exact ⟨u2, rfl, c5, hs5, fS⟩
theorem pc_all : ∀ n, n < 7 → pc (2 ^ n - 1) = n := by decide +kernel
theorem stX_rd {x : Rg} : stX (rdX x) = (2 ^ x.1 16 - 1) * 6 := by
  show (2 ^ x.1 16 - 1) * 6 + (if x.1 16 = 0 then 0 else 0 % x.1 16) = _
  rw [Nat.zero_mod]; simp
theorem run_loop {A : All} {N : Nat} (g : Gd A) (h17 : 1 ≤ A.1.1 17) (hN : N ≤ 60) : ∀ (k m i p sd : Nat) (x : Rg) (W : Nat → Int32) (w0 : Int32) (st : St), i + k = N → k < m → p ≤ i → Tm A x → CV st (dA A (some (A.1.1 16), w0, W)) → (sL st 33 5).toInt = (sd : Int) → sd < 1000003 → ∃ u, fX0_run_b50 m (nI N) (nI (x.1 2)) (nI (stX x)) (nI p) (nI i) st = some (nI (qrX k sd x p W).2.1, u) ∧ CV u (dA A (some (A.1.1 16), nI ((qrX k sd x p W).1.1 0), (qrX k sd x p W).2.2)) ∧ FR S_qr st u := by
  have hn := g.1.1
  have fin : ∀ (x : Rg) (p : Nat) (W : Nat → Int32) (w0 : Int32) (st : St), Tm A x → CV st (dA A (some (A.1.1 16), w0, W)) → ∃ u, fX0_run_b165 (nI (stX x)) (nI p) st = some (nI p, u) ∧ CV u (dA A (some (A.1.1 16), nI (x.1 0), W)) ∧ FR S_qr st u := by
    intro x p W w0 st tm c
    have hst := stX_d tm.1
    have hx := b_lt64 tm.1
    unfold fX0_run_b165
    rw [n_d6 (by have := hst.1; omega), hst.1]
    refine ⟨_, rfl, ?_, FR.pI (by rfl) FR.rf⟩
    refine CV_dr (A := dA A (some (A.1.1 16), w0, W)) (dr := (some (A.1.1 16), nI (x.1 0), W)) (S := [(33, none)]) (by rfl) (FR.pI (by rfl) FR.rf) c ?_
    have cd5 : CD st (some (A.1.1 16), w0, W) := c.2.2.2.2.2.2.1
    rcases cd5 with ⟨h, _⟩ | ⟨d, k1, k2, k3, k4⟩
    · cases h
    · exact Or.inr ⟨d, k1, by rw [sI_pI, if_neg (by omega)]; exact k2, by rw [sI_pI, if_pos ⟨rfl, rfl⟩], fun j hj => by rw [sI_pI, if_neg (by omega)]; exact k4 j hj⟩
  intro k
  induction k with
  | zero =>
    intro m i p sd x W w0 st h1 h2 hp tm c hs hsd
    obtain ⟨m, rfl⟩ : ∃ j, m = j + 1 := ⟨m - 1, by omega⟩
    obtain ⟨u, r1, r2, r3⟩ := fin x p W w0 st tm c
    refine ⟨u, ?_, r2, r3⟩
    rw [fX0_run_b50, if_pos (by rw [n_le (by omega) (by omega)]; omega)]; exact r1
  | succ k ih =>
    intro m i p sd x W w0 st h1 h2 hp tm c hs hsd
    obtain ⟨m, rfl⟩ : ∃ j, m = j + 1 := ⟨m - 1, by omega⟩
    have hst := stX_d tm.1
    have hx := b_lt64 tm.1
    have h9 := tm.1.2.2.2.1
    have e16 : x.1 16 = A.1.1 16 := tm.2.1 16 (by omega)
    have hd2 := d1_lt (d1 sd)
    rw [fX0_run_b50, if_neg (by rw [n_le (by omega) (by omega)]; omega), goes7 (by rw [hst.1]; exact hx), hst.1]
    unfold qrX
    by_cases q : 2 ≤ pc (x.1 0)
    · rw [if_pos q, if_neg (by decide), if_pos q]
      obtain ⟨u, r1, r2, r3, r4⟩ := run_say (N := N) (i := i) (p := p) (K := fun zl2 zl3 zl4 zl5 zl6 zst => fX0_run_b50 m zl2 zl3 zl4 zl5 zl6 zst) g tm h17 q c hs hsd
      rw [r1]
      obtain ⟨u2, s1, s2, s3⟩ := ih m (i + 1) p (d1 (d1 sd)) (qS sd x) (qW (qS sd x) W) w0 u (by omega) (by omega) (by omega) tm.say r2 r3 hd2
      exact ⟨u2, s1, s2, r4.trans s3⟩
    · rw [if_neg q, if_pos rfl, if_neg q]
      have hlt : (nI (x.1 2) < (999 : Int32)) = (x.1 2 < 999) := n_lt (b := 999) (by omega) (by omega)
      simp only [hlt]
      by_cases q9 : x.1 2 = 999
      · rw [if_neg (by omega), if_pos q9]
        exact fin x p W w0 st tm c
      · have tr := tm.rd (by omega)
        have hrs := stX_d tr.1
        have hr64 := b_lt64 tr.1
        have e0 : (rdX x).1 0 = 2 ^ x.1 16 - 1 := rfl
        have ev : fX4_everyone st * (6 : Int32) = nI (stX (rdX x)) := by
          rw [every_ok g.1 c.2.1.1, show (6 : Int32) = nI 6 from rfl, n_mul, stX_rd, e16]
        rw [if_pos (by omega), if_neg q9, ev, goes7 (by rw [hrs.1]; exact hr64), hrs.1, e0]
        by_cases qa : 2 ≤ pc (2 ^ x.1 16 - 1)
        · rw [if_pos qa, if_neg (by decide), if_pos qa, n_p1, n_p1]
          obtain ⟨u, r1, r2, r3, r4⟩ := run_say (N := N) (i := i) (p := p + 1) (K := fun zl2 zl3 zl4 zl5 zl6 zst => fX0_run_b50 m zl2 zl3 zl4 zl5 zl6 zst) g tr h17 qa c hs hsd
          have r1' : fX0_run_b103 (fun zl2 zl3 zl4 zl5 zl6 zst => fX0_run_b50 m zl2 zl3 zl4 zl5 zl6 zst) (nI N) (nI (x.1 2 + 1)) (nI (stX (rdX x))) (nI (p + 1)) (nI i) st = _ := r1
          rw [r1']
          obtain ⟨u2, s1, s2, s3⟩ := ih m (i + 1) (p + 1) (d1 (d1 sd)) (qS sd (rdX x)) (qW (qS sd (rdX x)) W) w0 u (by omega) (by omega) (by omega) tr.say r2 r3 hd2
          exact ⟨u2, s1, s2, r4.trans s3⟩
        · rw [if_neg qa, if_pos rfl, if_neg qa, n_p1]
          exact fin (rdX x) (p + 1) W w0 st tr c
/-! the same by the model -/
abbrev S_qm : List (Nat × Option Nat) := [(38, some 22), (38, some 23), (38, some 24), (38, some 25), (50, none), (51, none), (40, some 0), (40, some 1), (40, some 2), (38, some 57), (38, some 58), (64, none)]
/-- where the model stands in quarters -/
def Qm (st : St) (x : Rg) (p sd : Nat) (W : Nat → Int32) : Prop := MRg st 40 0 x ∧ sI st 38 57 = nI p ∧ sI st 38 58 = nI sd ∧ ∀ j, j < 6 → sI st 64 j = W j
theorem drawn8 {A : All} {p sd : Nat} {x : Rg} {W : Nat → Int32} {st : St} (lo : LwOK A.1) (tm : Tm A x) (h17 : 1 ≤ A.1.1 17) (c2 : 2 ≤ pc (x.1 0)) (q : Qm st x p sd W) (hsd : sd < 1000003) : ∃ u, fX8_saysDrawn st = some u ∧ Qm u (qS sd x) p (d1 (d1 sd)) (qW (qS sd x) W) ∧ FR S_qm st u := by
  obtain ⟨gx, ag⟩ := tm
  obtain ⟨mr, q1, q2, q3⟩ := q
  have hx64 := b_lt64 gx
  have h0 := pc2 _ hx64 c2
  have e17 : x.1 17 = A.1.1 17 := ag.1 17 (by omega)
  have h17' := gx.2.2.1
  have h14 := gx.2.2.2.2.2.1
  have hd1 := d1_lt sd
  have hd2 := d1_lt (d1 sd)
  have lox : LwOK x := fun i hi => by
    rw [ag.2]; exact lo i (by rw [← ag.1 18 (by omega)]; exact hi)
  have a1 := draw8 (q := x.1 17) q2 hsd (by omega) (by omega)
  have a2 := draw8 (st := pI st 38 58 (nI (d1 sd))) (sd := d1 sd) (q := 10) (by rw [sI_pI, if_pos ⟨rfl, rfl⟩]) hd1 (by omega) (by omega)
  have fd : FR S_qm st (pI (pI st 38 58 (nI (d1 sd))) 38 58 (nI (d1 (d1 sd)))) := FR.pI (by rfl) (FR.pI (by rfl) FR.rf)
  have md : MRg (pI (pI st 38 58 (nI (d1 sd))) 38 58 (nI (d1 (d1 sd)))) 40 0 x := MRg.fr (S := [(38, some 58)]) (by rfl) (FR.pI (by rfl) (FR.pI (by rfl) FR.rf)) mr
  have hr : d1 sd % x.1 17 < x.1 17 := Nat.mod_lt _ (by omega)
  have core : ∀ less, less ≤ 1 → less = (if x.1 14 ≤ d1 (d1 sd) % 10 then 0 else 1) → ∃ u, fX8_saysDrawn_b35 (nI (d1 sd % x.1 17)) (nI less) (pI (pI st 38 58 (nI (d1 sd))) 38 58 (nI (d1 (d1 sd)))) = some u ∧ Qm u (qS sd x) p (d1 (d1 sd)) (qW (qS sd x) W) ∧ FR S_qm st u := by
    intro less hl el
    obtain ⟨u, p1, p2, p3⟩ := says_ok (r := d1 sd % x.1 17) (less := less) gx lox md h0 hr hl
    have eq : sayX x (d1 sd % x.1 17) less = qS sd x := by unfold qS; rw [← el]
    rw [eq] at p3
    have gq : GdR (qS sd x) := Gd_say gx
    have hq := stX_d gq
    have hq64 := b_lt64 gq
    have fu : FR S_qm st u := fd.trans (FR.mono (by rfl) p2)
    have k57 : sI u 38 57 = nI p := by rw [p2.i (by rfl), sI_pI, if_neg (by omega), sI_pI, if_neg (by omega)]; exact q1
    have k58 : sI u 38 58 = nI (d1 (d1 sd)) := by rw [p2.i (by rfl), sI_pI, if_pos ⟨rfl, rfl⟩]
    have k64 : ∀ j, j < 6 → sI u 64 j = W j := fun j hj => by
      rw [p2.i (hasA_in (by rfl)), sI_pI, if_neg (by omega), sI_pI, if_neg (by omega)]; exact q3 j hj
    unfold fX8_saysDrawn_b35 qW
    rw [p1, Option.bind_some, alone8 (s := stX (qS sd x)) gq p3 hq.1.symm, Option.bind_some]
    by_cases q : pc ((qS sd x).1 0) = 1
    · have ho : oneI (stX (qS sd x)) = nI (lowB ((qS sd x).1 0)) := by
        rw [oneI_1 (by rw [hq.1]; exact hq64) (by rw [hq.1]; exact q), hq.1]
      have hlb := (low64 _ hq64 q).2
      rw [ho, if_pos q]
      generalize lowB ((qS sd x).1 0) = w at hlb
      rw [if_neg (fun e => by
        have : nI w < 0 := by rw [e]; decide
        rw [n_neg (by omega)] at this; exact this), n_ixb (by omega), decide_eq_true hlb, chk_t, chk_t, n_toNat (by omega), k64 w hlb]
      refine ⟨_, rfl, ⟨MRg.fr (S := [(64, none)]) (by rfl) (FR.pI (by rfl) FR.rf) p3, by rw [sI_pI, if_neg (by omega)]; exact k57, by rw [sI_pI, if_neg (by omega)]; exact k58, fun j hj => ?_⟩, FR.pI (by rfl) fu⟩
      rw [sI_pI]
      unfold va_up
      by_cases e : j = w
      · rw [if_pos ⟨rfl, e⟩, if_pos e]
      · rw [if_neg (by omega), if_neg e]; exact k64 j hj
    · have ho : oneI (stX (qS sd x)) = -1 := oneI_0 (by rw [hq.1]; exact q)
      rw [ho, if_neg q, if_pos rfl]
      exact ⟨u, rfl, ⟨p3, k57, k58, k64⟩, fu⟩
  unfold fX8_saysDrawn
  rw [mr.k (by omega), a1, Option.bind_some, show (10 : Int32) = nI 10 from rfl, a2, Option.bind_some]
  have h10 := Nat.mod_lt (d1 (d1 sd)) (show 10 > 0 by omega)
  simp only [md.k (show 14 < 19 by omega)]
  by_cases q : x.1 14 ≤ d1 (d1 sd) % 10
  · rw [if_pos (by rw [n_le (by omega) (by omega)]; exact q)]
    exact core 0 (by omega) (by rw [if_pos q])
  · rw [if_neg (by rw [n_le (by omega) (by omega)]; exact q)]
    exact core 1 (by omega) (by rw [if_neg q])
theorem quart_loop {A : All} {N : Nat} (lo : LwOK A.1) (h17 : 1 ≤ A.1.1 17) (hN : N ≤ 60) : ∀ (k m i p sd : Nat) (x : Rg) (W : Nat → Int32) (st : St), i + k = N → k < m → p ≤ i → Tm A x → Qm st x p sd W → sd < 1000003 → ∃ u sd', fX8_quarters_b102 m (nI N) (nI i) st = fX8_quarters_b124 u ∧ Qm u (qrX k sd x p W).1 (qrX k sd x p W).2.1 sd' (qrX k sd x p W).2.2 ∧ Tm A (qrX k sd x p W).1 ∧ FR S_qm st u := by
  intro k
  induction k with
  | zero =>
    intro m i p sd x W st h1 h2 hp tm q hsd
    obtain ⟨m, rfl⟩ : ∃ j, m = j + 1 := ⟨m - 1, by omega⟩
    refine ⟨st, sd, ?_, q, tm, FR.rf⟩
    rw [fX8_quarters_b102, if_pos (by rw [n_le (by omega) (by omega)]; omega)]
  | succ k ih =>
    intro m i p sd x W st h1 h2 hp tm q hsd
    obtain ⟨m, rfl⟩ : ∃ j, m = j + 1 := ⟨m - 1, by omega⟩
    have hd2 := d1_lt (d1 sd)
    have h9 := tm.1.2.2.2.1
    have hn := tm.1.1
    rw [fX8_quarters_b102, if_neg (by rw [n_le (by omega) (by omega)]; omega)]
    unfold fX8_canGoOn
    rw [canSay8 tm.1 q.1, Option.bind_some]
    unfold qrX
    by_cases c : 2 ≤ pc (x.1 0)
    · rw [if_pos c, if_neg (by decide), Option.bind_some]
      simp only [show ((1 : Int32) = 0) = False by decide, if_false, c, if_true]
      obtain ⟨u, r1, r2, r3⟩ := drawn8 lo tm h17 c q hsd
      rw [r1, Option.bind_some, n_p1]
      obtain ⟨u2, sd', s1, s2, s3, s4⟩ := ih m (i + 1) p (d1 (d1 sd)) (qS sd x) (qW (qS sd x) W) u (by omega) (by omega) (by omega) tm.say r2 hd2
      exact ⟨u2, sd', s1, s2, s3, r3.trans s4⟩
    · rw [if_neg c, if_pos rfl, if_neg c]
      have heq : (nI (x.1 2) = (999 : Int32)) = (x.1 2 = 999) := n_eq (b := 999) (by omega) (by omega)
      rw [q.1.k (show 2 < 19 by omega)]
      simp only [heq]
      by_cases c9 : x.1 2 = 999
      · rw [if_pos c9, if_pos c9, Option.bind_some]
        exact ⟨st, sd, rfl, q, tm, FR.rf⟩
      · rw [if_neg c9, if_neg c9]
        have tr := tm.rd (by omega)
        -- the round that passes
        have hrp : fX8_roundPasses st = some (pI (pI (pI st 40 0 (nI (2 ^ x.1 16 - 1))) 40 1 (nI 0)) 40 2 (nI (x.1 2 + 1))) := by
          unfold fX8_roundPasses fX8_allChildren
          rw [q.1.k (show 16 < 19 by omega), all6 _ (by omega)]
          simp only [sI_pI, show ¬ ((2 : Nat) = 1) by omega, show ¬ ((2 : Nat) = 0) by omega, and_false, if_false, q.1.k (show 2 < 19 by omega), n_p1]
          rfl
        have mr : MRg (pI (pI (pI st 40 0 (nI (2 ^ x.1 16 - 1))) 40 1 (nI 0)) 40 2 (nI (x.1 2 + 1))) 40 0 (rdX x) := MRg_up (by omega) (MRg_up (by omega) (MRg_up (by omega) q.1))
        have k57 : sI (pI (pI (pI st 40 0 (nI (2 ^ x.1 16 - 1))) 40 1 (nI 0)) 40 2 (nI (x.1 2 + 1))) 38 57 = nI p := by
          rw [sI_pI, if_neg (by omega), sI_pI, if_neg (by omega), sI_pI, if_neg (by omega)]; exact q.2.1
        rw [hrp, Option.bind_some, k57, n_p1]
        have mr2 : MRg (pI (pI (pI (pI st 40 0 (nI (2 ^ x.1 16 - 1))) 40 1 (nI 0)) 40 2 (nI (x.1 2 + 1))) 38 57 (nI (p + 1))) 40 0 (rdX x) := MRg.fr (S := [(38, some 57)]) (by rfl) (FR.pI (by rfl) FR.rf) mr
        have q2 : Qm (pI (pI (pI (pI st 40 0 (nI (2 ^ x.1 16 - 1))) 40 1 (nI 0)) 40 2 (nI (x.1 2 + 1))) 38 57 (nI (p + 1))) (rdX x) (p + 1) sd W := by
          refine ⟨mr2, by rw [sI_pI, if_pos ⟨rfl, rfl⟩], ?_, fun j hj => ?_⟩
          · rw [sI_pI, if_neg (by omega), sI_pI, if_neg (by omega), sI_pI, if_neg (by omega), sI_pI, if_neg (by omega)]; exact q.2.2.1
          · rw [sI_pI, if_neg (by omega), sI_pI, if_neg (by omega), sI_pI, if_neg (by omega), sI_pI, if_neg (by omega)]; exact q.2.2.2 j hj
        have f0 : FR S_qm st (pI (pI (pI (pI st 40 0 (nI (2 ^ x.1 16 - 1))) 40 1 (nI 0)) 40 2 (nI (x.1 2 + 1))) 38 57 (nI (p + 1))) := FR.pI (by rfl) (FR.pI (by rfl) (FR.pI (by rfl) (FR.pI (by rfl) FR.rf)))
        have cs := canSay8 tr.1 mr2
        have cs' : fX8_canSay (pI (pI (pI (pI st 40 0 (nI (2 ^ x.1 16 - 1))) 40 1 (nI 0)) 40 2 (nI (x.1 2 + 1))) 38 57 (nI (p + 1))) = some (if 2 ≤ pc (2 ^ x.1 16 - 1) then 1 else 0) := cs
        rw [cs', Option.bind_some]
        by_cases ca : 2 ≤ pc (2 ^ x.1 16 - 1)
        · rw [if_pos ca, if_pos ca]
          show ∃ u sd', (fX8_saysDrawn _).bind _ = _ ∧ _
          obtain ⟨u, r1, r2, r3⟩ := drawn8 lo tr h17 ca q2 hsd
          rw [r1, Option.bind_some, n_p1]
          obtain ⟨u2, sd', s1, s2, s3, s4⟩ := ih m (i + 1) (p + 1) (d1 (d1 sd)) (qS sd (rdX x)) (qW (qS sd (rdX x)) W) u (by omega) (by omega) (by omega) tr.say r2 hd2
          exact ⟨u2, sd', s1, s2, s3, f0.trans (r3.trans s4)⟩
        · rw [if_neg ca, if_neg ca]
          exact ⟨_, sd, rfl, q2, tr, f0⟩
theorem MV_dr {S : List (Nat × Option Nat)} {st v : St} {A : All} {dr : Dr} (hS : subS S ((38, some 55) :: (38, some 56) :: (64, none) :: S_mx) = true) (h0 : FR S st v) (m : MV st A) (c : MRg v 40 0 A.1) (d : MD v dr) : MV v (dA A dr) := by
  have h : FR ((38, some 55) :: (38, some 56) :: (64, none) :: S_mx) st v := FR.mono hS h0
  obtain ⟨m0, m1, m2, m3, m4, m5, m6⟩ := m
  have h38 : ∀ j, inS ((38, some 55) :: (38, some 56) :: (64, none) :: S_mx) 38 j = false → sI v 38 j = sI st 38 j := fun j e => h.i e
  have h39 := fun j => h.i (a := 39) (j := j) (hasA_in (by rfl))
  have h41 := fun j => h.i (a := 41) (j := j) (hasA_in (by rfl))
  have h42 := fun j => h.i (a := 42) (j := j) (hasA_in (by rfl))
  have h44 := fun j => h.i (a := 44) (j := j) (hasA_in (by rfl))
  have h45 := fun j => h.i (a := 45) (j := j) (hasA_in (by rfl))
  have h52 := fun j => h.i (a := 52) (j := j) (hasA_in (by rfl))
  refine ⟨fun j => (h44 j).trans (m0 j), c, fun k hk => ?_, ?_, ?_, ?_, d⟩
  · rcases m2 k hk with ⟨e1, e2⟩ | ⟨y, e1, e2, e3⟩
    · exact Or.inl ⟨e1, (h42 k).trans e2⟩
    · exact Or.inr ⟨y, e1, (h42 k).trans e2, MRg_eq h41 e3⟩
  · unfold MS at m3 ⊢; simp only [h38 0 (by rfl), h38 14 (by rfl), h38 46 (by rfl), h38 6 (by rfl), h39]; exact m3
  · unfold MT at m4 ⊢; simp only [h38 13 (by rfl), h45]; exact m4
  · unfold MP at m5 ⊢; simp only [h38 32 (by rfl), h52]; exact m5
theorem wins0 {N : Nat} : ∀ (d n i : Nat) (st : St), i + d = 6 → d < n → ∃ u, fX8_quarters_b76 n (nI N) (nI i) st = fX8_quarters_b102 FU (nI N) 0 (pI u 38 57 0) ∧ (∀ j, i ≤ j → j < 6 → sI u 64 j = 0) ∧ (∀ j, j < i → sI u 64 j = sI st 64 j) ∧ FR [(64, none)] st u := by
  intro d
  induction d with
  | zero =>
    intro n i st h1 h2
    obtain ⟨n, rfl⟩ : ∃ j, n = j + 1 := ⟨n - 1, by omega⟩
    refine ⟨st, ?_, fun j _ _ => by omega, fun _ _ => rfl, FR.rf⟩
    rw [fX8_quarters_b76, if_pos (by rw [show (6 : Int32) = nI 6 from rfl, n_le (by omega) (by omega)]; omega)]
  | succ d ih =>
    intro n i st h1 h2
    obtain ⟨n, rfl⟩ : ∃ j, n = j + 1 := ⟨n - 1, by omega⟩
    obtain ⟨u, e1, e2, e3, e4⟩ := ih n (i + 1) (pI st 64 i 0) (by omega) (by omega)
    refine ⟨u, ?_, fun j h3 h4 => ?_, fun j hj => ?_, FR.trans (FR.pI (by rfl) FR.rf) e4⟩
    · rw [fX8_quarters_b76, if_neg (by rw [show (6 : Int32) = nI 6 from rfl, n_le (by omega) (by omega)]; omega), n_ixb (by omega), decide_eq_true (by omega), chk_t, n_toNat (by omega), n_p1]
      exact e1
    · by_cases c : j = i
      · subst c; rw [e3 j (by omega), sI_pI, if_pos ⟨rfl, rfl⟩]
      · exact e2 j (by omega) h4
    · rw [e3 j (by omega), sI_pI, if_neg (by omega)]
theorem st28 : Step28 Inv := by
  rintro a b st ⟨A, g, c, m⟩
  have h16 := g.1.1
  have h17 := g.1.2.2.1
  have h9 := g.1.2.2.2.1
  have no1 : (fX8_lies a 0 1000000 = 0 ∨ fX8_lies b 1 60 = 0) → fX7_quarters a b st = fX7_refused (-1) st → ∃ r st1 st2, fX7_quarters a b st = some (r, st1) ∧ fX8_quarters a b st1 = some (r, st2) ∧ Inv st2 := by
    intro h1 h2
    refine both_ref' (fc := fun s => fX7_quarters a b s) (fm := fun s => fX8_quarters a b s) R1 g c m h2 (fun s ms => ?_)
    show fX8_quarters a b s = _
    unfold fX8_quarters fX8_quarters_b20
    rcases h1 with h1 | h1
    · rw [if_pos h1]
    · rw [if_pos h1]
      split <;> rfl
  rcases rng a 0 1000000 0 1000000 rfl rfl (by omega) (by omega) with ⟨sd, s1, s2, rfl, a3, a4, a5, a6⟩ | ⟨a3, a4⟩
  · rcases rng b 1 60 1 60 rfl rfl (by omega) (by omega) with ⟨N, n1, n2, rfl, b3, b4, b5, b6⟩ | ⟨b3, b4⟩
    · have hC : fX7_quarters (nI sd) (nI N) st = (if (sI st 1 6) = 0 then (fX7_refused (-3) st) else (if (sI st 1 4) = 0 then (fX7_refused (-3) st) else ((fX0_run (nI sd) (nI N) st).bind (fun q7 => fX7_settled q7.1 q7.2)))) := by
        unfold fX7_quarters fX7_quarters_b48
        rw [if_neg a4, if_neg a6, if_neg b4, if_pos b5]
      have hM : ∀ s, MV s A → fX8_quarters (nI sd) (nI N) s = (if (sI s 40 16) = 0 then (fX8_refuses (-3) s) else (if (sI s 40 17) = 0 then (fX8_refuses (-3) s) else ((fX8_laysAside (0 : Int32) (pI (pI s 38 58 (nI sd)) 38 55 (sI (pI s 38 58 (nI sd)) 40 16))).bind (fun q5 => fX8_quarters_b76 FU (nI N) (0 : Int32) q5)))) := by
        intro s ms
        unfold fX8_quarters fX8_quarters_b46
        rw [a3, if_neg (by decide), b3, if_neg (by decide)]
      have z6 : (nI (A.1.1 17) = 0) = (A.1.1 17 = 0) := n_eq (b := 0) (by omega) (by omega)
      have z4 : (nI (A.1.1 16) = 0) = (A.1.1 16 = 0) := n_eq (b := 0) (by omega) (by omega)
      rw [c.2.1.1.1.2.2.1, c.2.1.1.1.1] at hC
      simp only [z6, z4] at hC
      have hM' : ∀ s, MV s A → fX8_quarters (nI sd) (nI N) s = (if A.1.1 16 = 0 then (fX8_refuses (-3) s) else (if A.1.1 17 = 0 then (fX8_refuses (-3) s) else ((fX8_laysAside (0 : Int32) (pI (pI s 38 58 (nI sd)) 38 55 (nI (A.1.1 16)))).bind (fun q5 => fX8_quarters_b76 FU (nI N) (0 : Int32) q5)))) := by
        intro s ms
        rw [hM s ms, show sI (pI s 38 58 (nI sd)) 40 16 = nI (A.1.1 16) from (by rw [sI_pI, if_neg (by omega)]; exact ms.2.1.k (by omega)), ms.2.1.k (show 16 < 19 by omega), ms.2.1.k (show 17 < 19 by omega)]
        simp only [z6, z4]
      by_cases q : A.1.1 17 = 0 ∨ A.1.1 16 = 0
      · refine both_ref' (fc := fun s => fX7_quarters (nI sd) (nI N) s) (fm := fun s => fX8_quarters (nI sd) (nI N) s) R3 g c m ?_ (fun s ms => ?_)
        · show fX7_quarters (nI sd) (nI N) st = _
          rw [hC]
          by_cases q1 : A.1.1 17 = 0
          · rw [if_pos q1]
          · rw [if_neg q1, if_pos (by omega)]
        · show fX8_quarters (nI sd) (nI N) s = _
          rw [hM' s ms]
          by_cases q1 : A.1.1 16 = 0
          · rw [if_pos q1]
          · rw [if_neg q1, if_pos (by omega)]
      · have q17 : 1 ≤ A.1.1 17 := by omega
        have q16 : 1 ≤ A.1.1 16 := by omega
        rw [if_neg (by omega), if_neg (by omega)] at hC
        -- the class
        have n34 : sN st 34 = 6 := c.1.N (a := 34) rfl
        have t64 : (nI sd).toInt64.toInt = (sd : Int) := by rw [Int32.toInt_toInt64, n_toInt (by omega)]
        obtain ⟨w, w1, w2, w3, w4⟩ := fill_all (S := [(33, none), (34, none)]) (ar := 34) (v := 0) (st := pI (pL st 33 5 (nI sd).toInt64) 33 3 (nI (A.1.1 16))) (fun j => rfl) (by simp only [sN_pI, sN_pL, n34]; omega)
        have fw : FR [(33, none), (34, none)] st w := (FR.pI (by rfl) (FR.pL (by rfl) FR.rf) : FR [(33, none), (34, none)] st (pI (pL st 33 5 (nI sd).toInt64) 33 3 (nI (A.1.1 16)))).trans w2
        have cw : CV w (dA A (some (A.1.1 16), sI w 33 4, fun _ => 0)) := by
          refine CV_dr (by rfl) fw c (Or.inr ⟨A.1.1 16, rfl, ?_, rfl, fun j hj => w4 j (by simp only [sN_pI, sN_pL, n34]; omega)⟩)
          rw [w3 _ _ (by omega), sI_pI, if_pos ⟨rfl, rfl⟩]
        have hLw : (sL w 33 5).toInt = (sd : Int) := by
          have fill34 : FR [(34, none)] (pI (pL st 33 5 (nI sd).toInt64) 33 3 (nI (A.1.1 16))) w := by
            obtain ⟨w', x1, x2, _, _⟩ := fill_all (S := [(34, none)]) (ar := 34) (v := 0) (st := pI (pL st 33 5 (nI sd).toInt64) 33 3 (nI (A.1.1 16))) (fun j => rfl) (by simp only [sN_pI, sN_pL, n34]; omega)
            rw [w1] at x1
            rw [Option.some.inj x1]; exact x2
          rw [(fill34.2 33 5 (by rfl)).2, sL_pI, sL_pL, if_pos ⟨rfl, rfl⟩]; exact t64
        obtain ⟨u, u1, u2, u3⟩ := run_loop (N := N) g q17 n2 N FU 0 0 sd A.1 (fun _ => 0) (sI w 33 4) w (by omega) (by unfold FU; omega) (by omega) ⟨g.1, fun _ _ => rfl, rfl⟩ cw hLw (by omega)
        have hrun : fX0_run (nI sd) (nI N) st = some (nI (qrX N sd A.1 0 (fun _ => 0)).2.1, u) := by
          unfold fX0_run
          rw [state_ok g.1 c.2.1.1, Option.bind_some, sI_pL, c.2.1.1.1.1, w1, Option.bind_some, c.2.1.1.2.1.1]
          exact u1
        rw [hrun, Option.bind_some] at hC
        obtain ⟨u5, k1, k2, k3⟩ := c_settled (r := nI (qrX N sd A.1 0 (fun _ => 0)).2.1) u2
        have fC : FR [(0, none), (35, none), (19, none), (20, none), (21, none), (22, none), (23, none), (24, none), (33, none), (34, none)] st u5 := ((FR.mono (by rfl) fw : FR [(0, none), (35, none), (19, none), (20, none), (21, none), (22, none), (23, none), (24, none), (33, none), (34, none)] st w).trans (FR.mono (by rfl) u3)).trans (FR.mono (by rfl) k3)
        have m5 : MV u5 A := MV_c (by rfl) fC m
        -- the model
        have hm0 := hM' u5 m5
        rw [if_neg (by omega), if_neg (by omega), show fX8_laysAside 0 (pI (pI u5 38 58 (nI sd)) 38 55 (nI (A.1.1 16))) = _ from aside_ok (k := 0) (by omega), Option.bind_some] at hm0
        have b0 : ∀ j, j < 3 → sI (pI (pI u5 38 58 (nI sd)) 38 55 (nI (A.1.1 16))) 40 j = nI (A.1.1 j) := fun j hj => by
          rw [sI_pI, if_neg (by omega), sI_pI, if_neg (by omega)]; exact m5.2.1.k (by omega)
        rw [b0 0 (by omega), b0 1 (by omega), b0 2 (by omega)] at hm0
        obtain ⟨y, y1, y2, _, y4⟩ := wins0 (N := N) 6 FU 0 (pI (pI (pI (pI (pI u5 38 58 (nI sd)) 38 55 (nI (A.1.1 16))) 43 (3 * 0) (nI (A.1.1 0))) 43 (3 * 0 + 1) (nI (A.1.1 1))) 43 (3 * 0 + 2) (nI (A.1.1 2))) (by omega) (by unfold FU; omega)
        rw [show fX8_quarters_b76 FU (nI N) 0 _ = _ from y1] at hm0
        have fy : FR [(38, some 58), (38, some 55), (43, none), (64, none), (38, some 57)] u5 (pI y 38 57 0) := FR.pI (by rfl) ((FR.pI (by rfl) (FR.pI (by rfl) (FR.pI (by rfl) (FR.pI (by rfl) (FR.pI (by rfl) FR.rf)))) : FR [(38, some 58), (38, some 55), (43, none), (64, none), (38, some 57)] u5 (pI (pI (pI (pI (pI u5 38 58 (nI sd)) 38 55 (nI (A.1.1 16))) 43 (3 * 0) (nI (A.1.1 0))) 43 (3 * 0 + 1) (nI (A.1.1 1))) 43 (3 * 0 + 2) (nI (A.1.1 2)))).trans (FR.mono (by rfl) y4))
        have yq : Qm (pI y 38 57 0) A.1 0 sd (fun _ => 0) := by
          refine ⟨MRg.fr (by rfl) fy m5.2.1, by rw [sI_pI, if_pos ⟨rfl, rfl⟩]; rfl, ?_, fun j hj => by rw [sI_pI, if_neg (by omega)]; exact y2 j (by omega) hj⟩
          rw [sI_pI, if_neg (by omega), y4.i (by rfl)]
          simp [sI_pI]
        obtain ⟨v, sd', v1, v2, v3, v4⟩ := quart_loop (N := N) c.low q17 n2 N FU 0 0 sd A.1 (fun _ => 0) (pI y 38 57 0) (by omega) (by unfold FU; omega) (by omega) ⟨g.1, fun _ _ => rfl, rfl⟩ yq (by omega)
        rw [show fX8_quarters_b102 FU (nI N) 0 (pI y 38 57 0) = _ from v1] at hm0
        obtain ⟨vm, v57, v58, v64⟩ := v2
        have y43 : ∀ j, sI v 43 j = sI (pI (pI (pI (pI (pI u5 38 58 (nI sd)) 38 55 (nI (A.1.1 16))) 43 (3 * 0) (nI (A.1.1 0))) 43 (3 * 0 + 1) (nI (A.1.1 1))) 43 (3 * 0 + 2) (nI (A.1.1 2))) 43 j := fun j => by
          rw [v4.i (hasA_in (by rfl)), sI_pI, if_neg (by omega), y4.i (hasA_in (by rfl))]
        have vm' : MRg (pI v 38 56 (sI v 40 0)) 40 0 (qrX N sd A.1 0 (fun _ => 0)).1 := MRg.fr (S := [(38, some 56)]) (by rfl) (FR.pI (by rfl) FR.rf) vm
        obtain ⟨z, z1, z2, z3⟩ := takes_x (k := 0) (x := A.1) (by omega) vm' v3.2 (by rw [sI_pI, if_neg (by omega), y43]; simp [sI_pI]) (by rw [sI_pI, if_neg (by omega), y43]; simp [sI_pI]) (by rw [sI_pI, if_neg (by omega), y43]; simp [sI_pI])
        have z57 : sI z 38 57 = nI (qrX N sd A.1 0 (fun _ => 0)).2.1 := by
          rw [z2.i (by rfl), sI_pI, if_neg (by omega)]; exact v57
        have hfin : fX8_quarters (nI sd) (nI N) u5 = fX8_good (nI (qrX N sd A.1 0 (fun _ => 0)).2.1) z := by
          rw [hm0]
          unfold fX8_quarters_b124
          rw [show fX8_takesBack 0 (pI v 38 56 (sI v 40 0)) = _ from z1, Option.bind_some, z57]
        have fz : FR ((38, some 55) :: (38, some 56) :: (64, none) :: S_mx) u5 z := (((FR.mono (by rfl) fy : FR ((38, some 55) :: (38, some 56) :: (64, none) :: S_mx) u5 (pI y 38 57 0)).trans (FR.mono (by rfl) v4)).trans (FR.pI (by rfl) FR.rf)).trans (FR.mono (by rfl) z2)
        have dz : MD z (some (A.1.1 16), nI ((qrX N sd A.1 0 (fun _ => 0)).1.1 0), (qrX N sd A.1 0 (fun _ => 0)).2.2) := by
          refine Or.inr ⟨A.1.1 16, rfl, ?_, ?_, fun j hj => ?_⟩
          · rw [z2.i (by rfl), sI_pI, if_neg (by omega), v4.i (by rfl), sI_pI, if_neg (by omega), y4.i (by rfl)]
            simp [sI_pI]
          · rw [z2.i (by rfl), sI_pI, if_pos ⟨rfl, rfl⟩]; exact vm.k (by omega)
          · rw [z2.i (hasA_in (by rfl)), sI_pI, if_neg (by omega)]; exact v64 j hj
        have mz := MV_dr (by rfl) fz m5 z3 dz
        obtain ⟨y5, j1, j2, j3⟩ := m_good (r := nI (qrX N sd A.1 0 (fun _ => 0)).2.1) mz
        refine ⟨_, u5, y5, hC.trans k1, hfin.trans j1, scA (dA A (some (A.1.1 16), nI ((qrX N sd A.1 0 (fun _ => 0)).1.1 0), (qrX N sd A.1 0 (fun _ => 0)).2.2)) (va_up A.2.2.1 0 0), ⟨g.1, g.2.1, g.2.2.1, g.2.2.2.1, fun d hd => ?_⟩, CV_m (S := [(38, none), (39, none)]) (by rfl) j3 (CV_m (S := ((38, some 55) :: (38, some 56) :: (64, none) :: S_mx)) (by rfl) fz k2), j2⟩
        have := Option.some.inj hd
        omega
    · refine no1 (Or.inr b3) ?_
      unfold fX7_quarters fX7_quarters_b22
      rw [if_neg a4, if_neg a6]
      exact or_rng b4
  · refine no1 (Or.inl a3) ?_
    unfold fX7_quarters fX7_quarters_b22
    rcases a4 with h | ⟨h1, h2, h3⟩
    · rw [if_pos h]
    · rw [if_neg h1, if_pos h3]
