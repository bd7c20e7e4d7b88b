/-! who is left by one rhyme said again and again -/
def lbA (n : Nat) (tl : Nat → Nat) : Nat → Nat → List Nat → Nat × List Nat
  | 0, s, L => (s, L)
  | k + 1, s, L => if 2 ≤ pc (s / 6) then lbA n tl k (behA n (s / 6) (tl s)) (if tl s < 100 then L ++ [tl s] else L) else (s, L)
def oneI (s : Nat) : Int32 := if pc (s / 6) = 1 then fJ6_numberOfTrailingZeros_0f7a4 (nI (s / 6)) else -1
def LsC (st : St) (L : List Nat) : Prop := sI st 25 9 = nI L.length ∧ ∀ (j w : Nat), L[j]? = some w → sI st 26 j = nI w
def LsM (st : St) (L : List Nat) : Prop := sI st 38 34 = nI L.length ∧ ∀ (j w : Nat), L[j]? = some w → sI st 54 j = nI w
theorem n_d6 {s : Nat} (h : s < 2147483648) : nI s / (6 : Int32) = nI (s / 6) := n_div h (b := 6) (by omega)
theorem n_r6 {s : Nat} (h : s < 2147483648) : jrem (nI s) (6 : Int32) = nI (s % 6) := n_rem h (b := 6) (by omega)
theorem s384 {s : Nat} (h : s / 6 < 64) : s < 384 := by omega
theorem one7 {s : Nat} (h : s / 6 < 64) : fX1_onlyOneIn (nI s) = oneI s := by
  have := pc_le _ h
  unfold fX1_onlyOneIn oneI
  rw [n_d6 (by omega), bc64 _ h, show (1 : Int32) = nI 1 from rfl]
  simp only [n_eq (show pc (s / 6) < 2147483648 by omega) (show 1 < 2147483648 by omega)]
theorem goes7 {s : Nat} (h : s / 6 < 64) : fX1_goesOn (nI s) = if 2 ≤ pc (s / 6) then 1 else 0 := by
  have := pc_le _ h
  unfold fX1_goesOn
  rw [n_d6 (by omega), bc64 _ h, show (1 : Int32) = nI 1 from rfl]
  simp only [n_le (show pc (s / 6) < 2147483648 by omega) (show 1 < 2147483648 by omega)]
  by_cases c : 2 ≤ pc (s / 6)
  · rw [if_neg (by omega), if_pos c]
  · rw [if_pos (by omega), if_neg c]
theorem out7 : ∀ b, b < 64 → ∀ w, w < 6 → bit b w = 1 → ¬ (nI b &&& (nI (b - 2 ^ w) ^^^ (-1))) = 0 ∧ fJ6_numberOfTrailingZeros_0f7a4 (nI b &&& (nI (b - 2 ^ w) ^^^ (-1))) = nI w ∧ pc (b - 2 ^ w) + 1 = pc b := by decide +kernel
theorem same7 : ∀ b, b < 64 → (nI b &&& (nI b ^^^ (-1))) = 0 := by decide +kernel
abbrev tlA (lw : Lw0) (x : Rg) (vr vm r : Nat) : Nat → Nat := fun s => sayA lw (sx x) vr vm (s / 6) (s % 6) r 0
abbrev S_pl : List (Nat × Option Nat) := [(19, some 10), (20, none), (21, none), (22, none), (23, none), (24, none), (25, some 9), (26, none)]
theorem LsC.fr {S : List (Nat × Option Nat)} {st u : St} {L : List Nat} (e : (inS S 25 9 || hasA S 26) = false) (h : FR S st u) (l : LsC st L) : LsC u L := by
  simp only [Bool.or_eq_false_iff] at e
  exact ⟨(h.i e.1).trans l.1, fun j w hj => (h.i (hasA_in e.2)).trans (l.2 j w hj)⟩
theorem LsC_app {st : St} {L : List Nat} {w : Nat} (l : LsC st L) : LsC (pI (pI st 26 L.length (nI w)) 25 9 (nI (L.length + 1))) (L ++ [w]) := by
  refine ⟨by rw [sI_pI, if_pos ⟨rfl, rfl⟩, List.length_append]; rfl, fun j v hj => ?_⟩
  rw [sI_pI, if_neg (by omega), sI_pI]
  by_cases c : j = L.length
  · subst c
    rw [if_pos ⟨rfl, rfl⟩]
    rw [List.getElem?_append_right (Nat.le_refl _), Nat.sub_self] at hj
    rw [← Option.some.inj hj]
  · rw [if_neg (by omega)]
    by_cases c2 : j < L.length
    · rw [List.getElem?_append_left c2] at hj
      exact l.2 j v hj
    · rw [List.getElem?_eq_none (by rw [List.length_append]; simp; omega)] at hj
      cases hj
theorem last_loop {x : Rg} {lw : Lw0} {vr vm r : Nat} (g : GdR x) (hr : r < x.1 17) : ∀ (k m s i : Nat) (L : List Nat) (st : St), i + k = 60 → k < m → Vt st x lw vr vm → s / 6 < 2 ^ x.1 16 → (1 ≤ x.1 16 → s % 6 < x.1 16) → L.length + pc (s / 6) ≤ 6 → LsC st L → ∃ u, fX1_lastBy_b10 m (nI r) (nI s) (nI i) st = some (oneI (lbA (x.1 16) (tlA lw x vr vm r) k s L).1, u) ∧ Vt u x lw vr vm ∧ FR S_pl st u ∧ LsC u (lbA (x.1 16) (tlA lw x vr vm r) k s L).2 ∧ (lbA (x.1 16) (tlA lw x vr vm r) k s L).2.length ≤ 6 := by
  intro k
  have hn := g.1
  have h64 := p64 hn
  induction k with
  | zero =>
    intro m s i L st h1 h2 v hs ha hl ls
    obtain ⟨m, rfl⟩ : ∃ j, m = j + 1 := ⟨m - 1, by omega⟩
    refine ⟨st, ?_, v, FR.rf, ls, (show L.length ≤ 6 by omega)⟩
    rw [fX1_lastBy_b10, if_pos (by rw [show (60 : Int32) = nI 60 from rfl, n_le (by omega) (by omega)]; omega)]
    unfold fX1_lastBy_b99
    rw [one7 (by omega)]; rfl
  | succ k ih =>
    intro m s i L st h1 h2 v hs ha hl ls
    obtain ⟨m, rfl⟩ : ∃ j, m = j + 1 := ⟨m - 1, by omega⟩
    rw [fX1_lastBy_b10, if_neg (by rw [show (60 : Int32) = nI 60 from rfl, n_le (by omega) (by omega)]; omega), goes7 (by omega)]
    unfold lbA
    by_cases c : 2 ≤ pc (s / 6)
    · have h0 := pc2 _ (show s / 6 < 64 by omega) c
      have hn1 : 1 ≤ x.1 16 := by
        by_cases q : x.1 16 = 0
        · rw [q] at hs; omega
        · omega
      rw [if_pos c, if_pos c, if_neg (by decide)]
      obtain ⟨u, e1, v1, f1⟩ := after_ok g v hs h0 (ha hn1) hr
      have ef : aftA lw (sx x) vr vm s r = behA (x.1 16) (s / 6) (tlA lw x vr vm r s) := by
        unfold aftA
        rw [show sx x 16 = x.1 16 from sx_e (by omega)]
      obtain ⟨hw, hi⟩ := sayF_in (lw := lw) (vr := vr) (vm := vm) (r := r) (less := 0) g hs h0 (ha hn1)
      have ht : tlA lw x vr vm r s = (sayF lw (sx x) vr vm (s / 6) (s % 6) r 0).1 ∨ tlA lw x vr vm r s = 100 + (sayF lw (sx x) vr vm (s / 6) (s % 6) r 0).1 := sayA_c
      generalize (sayF lw (sx x) vr vm (s / 6) (s % 6) r 0).1 = w at hw hi ht
      generalize tlA lw x vr vm r s = t at ef ht ⊢
      have hb := beh_p (n := x.1 16) (b := s / 6) (t := t) hn
      have hbl := behA_lt (n := x.1 16) (b := s / 6) (t := t) hn hs
      rw [e1, ef, Option.bind_some]
      simp only [n_d6 (show s < 2147483648 by omega), n_d6 (show behA (x.1 16) (s / 6) t < 2147483648 by omega)]
      unfold fX1_lastBy_b90
      have lu : LsC u L := ls.fr (S := wX6_after_S) (by rfl) f1
      obtain ⟨o1, o2, o3⟩ := out7 (s / 6) (by omega) w (by omega) hi
      rcases ht with ht | ht
      · have hbe : behA (x.1 16) (s / 6) t / 6 = s / 6 - 2 ^ w := by
          rw [hb.1, ht, if_pos (by omega), Nat.mod_eq_of_lt (show w < 100 by omega)]
        simp only [hbe, o1, if_false, lu.1, n_p1, sI_pI, show ¬ (25 = 26 ∧ 9 = L.length) by omega, o2, show (6 : Int32) = nI 6 from rfl, n_le (show 6 < 2147483648 by omega) (show L.length < 2147483648 by omega), show ¬ 6 ≤ L.length by omega, n_ixb (show L.length < 2147483648 by omega), show L.length < 6 by omega, decide_true, chk_t, n_toNat (show L.length < 2147483648 by omega)]
        have fu : FR S_pl st (pI (pI u 26 L.length (nI w)) 25 9 (nI (L.length + 1))) := FR.pI (by rfl) (FR.pI (by rfl) (FR.mono (by rfl) f1))
        obtain ⟨u2, r1, r2, r3, r4, r5⟩ := ih m (behA (x.1 16) (s / 6) t) (i + 1) (L ++ [w]) (pI (pI u 26 L.length (nI w)) 25 9 (nI (L.length + 1))) (by omega) (by omega) (Vt.fr (S := [(25, some 9), (26, none)]) (by rfl) (by rfl) (by rfl) (by rfl) (by rfl) (FR.pI (by rfl) (FR.pI (by rfl) FR.rf)) v1) hbl.1 (fun h => hbl.2.2.2 h) (by rw [hbe, List.length_append]; simp; omega) (LsC_app lu)
        rw [show (if t < 100 then L ++ [t] else L) = L ++ [w] by rw [if_pos (by omega), ht]]
        exact ⟨u2, r1, r2, fu.trans r3, r4, r5⟩
      · have hbe : behA (x.1 16) (s / 6) t / 6 = s / 6 := by
          rw [hb.1, ht, if_neg (by omega)]
        simp only [hbe, same7 (s / 6) (by omega), if_true, n_p1]
        obtain ⟨u2, r1, r2, r3, r4, r5⟩ := ih m (behA (x.1 16) (s / 6) t) (i + 1) L u (by omega) (by omega) v1 hbl.1 (fun h => hbl.2.2.2 h) (by rw [hbe]; exact hl) lu
        rw [show (if t < 100 then L ++ [t] else L) = L by rw [if_neg (by omega)]]
        exact ⟨u2, r1, r2, (FR.mono (by rfl) f1 : FR S_pl st u).trans r3, r4, r5⟩
    · rw [if_neg c, if_neg c, if_pos rfl]
      refine ⟨st, ?_, v, FR.rf, ls, by simp only []; omega⟩
      unfold fX1_lastBy_b99
      rw [one7 (by omega)]
theorem last_ok {st : St} {x : Rg} {lw : Lw0} {vr vm r s : Nat} (g : GdR x) (v : Vt st x lw vr vm) (hr : r < x.1 17) (hs : s / 6 < 2 ^ x.1 16) (ha : 1 ≤ x.1 16 → s % 6 < x.1 16) : ∃ u, fX1_lastBy (nI s) (nI r) st = some (oneI (lbA (x.1 16) (tlA lw x vr vm r) 60 s []).1, u) ∧ Vt u x lw vr vm ∧ FR S_pl st u ∧ LsC u (lbA (x.1 16) (tlA lw x vr vm r) 60 s []).2 ∧ (lbA (x.1 16) (tlA lw x vr vm r) 60 s []).2.length ≤ 6 := by
  have h64 := p64 g.1
  have hp := pc_le (s / 6) (by omega)
  obtain ⟨u, r1, r2, r3, r4⟩ := last_loop g hr 60 FU s 0 [] (pI st 25 9 0) (by omega) (by unfold FU; omega) (Vt.fr (S := [(25, some 9)]) (by rfl) (by rfl) (by rfl) (by rfl) (by rfl) (FR.pI (by rfl) FR.rf) v) hs ha (by simpa using hp) ⟨by rw [sI_pI, if_pos ⟨rfl, rfl⟩]; rfl, fun j w h => by simp at h⟩
  exact ⟨u, r1, r2, (FR.pI (by rfl) FR.rf : FR S_pl st (pI st 25 9 0)).trans r3, r4⟩
/-! the same by the model -/
def plX (x : Rg) : Nat := if x.1 16 = 0 then 0 else x.1 1 % x.1 16
def stX (x : Rg) : Nat := x.1 0 * 6 + plX x
theorem plX_lt {x : Rg} (g : GdR x) : plX x < 6 ∧ (1 ≤ x.1 16 → plX x < x.1 16) := by
  have := g.1
  unfold plX
  by_cases c : x.1 16 = 0
  · rw [if_pos c]; omega
  · have := Nat.mod_lt (x.1 1) (show x.1 16 > 0 by omega)
    rw [if_neg c]; omega
theorem stX_d {x : Rg} (g : GdR x) : stX x / 6 = x.1 0 ∧ stX x % 6 = plX x := by
  have := (plX_lt g).1
  unfold stX
  omega
theorem stX_ok {x : Rg} (g : GdR x) : stX x / 6 < 2 ^ x.1 16 ∧ (1 ≤ x.1 16 → stX x % 6 < x.1 16) := by
  rw [(stX_d g).1, (stX_d g).2]
  exact ⟨g.2.1, (plX_lt g).2⟩
theorem state_ok {st : St} {x : Rg} (g : GdR x) (c : CRg st 1 x) : fX4_state st = some (nI (stX x)) := by
  have hp : fX4_place st = some (nI (plX x)) := by
    unfold plX
    by_cases q : x.1 16 = 0
    · unfold fX4_place
      rw [c.1.1, q, if_pos (by rfl), if_pos rfl]; rfl
    · rw [place_ok g c (by omega), if_neg q]
  unfold fX4_state
  rw [hp, Option.bind_some, c.1.2.1, show (6 : Int32) = nI 6 from rfl, n_mul, n_add]; rfl
/-- what stands but who is in, where, which round -/
def Ag (x x' : Rg) : Prop := (∀ i, 3 ≤ i → x'.1 i = x.1 i) ∧ x'.2 = x.2
theorem aside_ok {st : St} {k : Nat} (hk : k < 2) : fX8_laysAside (nI k) st = some (pI (pI (pI st 43 (3 * k) (sI st 40 0)) 43 (3 * k + 1) (sI st 40 1)) 43 (3 * k + 2) (sI st 40 2)) := by
  unfold fX8_laysAside
  rw [show FU = 99996 + 1 + 1 + 1 + 1 from rfl, show (0 : Int32) = nI 0 from rfl]
  rw [fX8_laysAside_b2, if_neg (by decide), fX8_laysAside_b2, if_neg (by decide), fX8_laysAside_b2, if_neg (by decide), fX8_laysAside_b2, if_pos (by decide)]
  simp only [show (3 : Int32) = nI 3 from rfl, show (1 : Int32) = nI 1 from rfl, n_mul, n_add, n_ixb (show 3 * k + 0 < 2147483648 by omega), n_ixb (show 3 * k + (0 + 1) < 2147483648 by omega), n_ixb (show 3 * k + (0 + 1 + 1) < 2147483648 by omega), n_ixb (show 0 < 2147483648 by omega), n_ixb (show 0 + 1 < 2147483648 by omega), n_ixb (show 0 + 1 + 1 < 2147483648 by omega), n_toNat (show 3 * k + 0 < 2147483648 by omega), n_toNat (show 3 * k + (0 + 1) < 2147483648 by omega), n_toNat (show 3 * k + (0 + 1 + 1) < 2147483648 by omega), n_toNat (show 0 < 2147483648 by omega), n_toNat (show 0 + 1 < 2147483648 by omega), n_toNat (show 0 + 1 + 1 < 2147483648 by omega), show 3 * k + 0 < 6 by omega, show 3 * k + (0 + 1) < 6 by omega, show 3 * k + (0 + 1 + 1) < 6 by omega, show 0 < 5627 by omega, show 0 + 1 < 5627 by omega, show 0 + 1 + 1 < 5627 by omega, decide_true, chk_t, sI_pI, show ¬ ((40 : Nat) = 43) by omega, false_and, if_false]
  rfl
theorem takes_ok {st : St} {k : Nat} (hk : k < 2) : fX8_takesBack (nI k) st = some (pI (pI (pI st 40 0 (sI st 43 (3 * k))) 40 1 (sI st 43 (3 * k + 1))) 40 2 (sI st 43 (3 * k + 2))) := by
  unfold fX8_takesBack
  rw [show FU = 99996 + 1 + 1 + 1 + 1 from rfl, show (0 : Int32) = nI 0 from rfl]
  rw [fX8_takesBack_b2, if_neg (by decide), fX8_takesBack_b2, if_neg (by decide), fX8_takesBack_b2, if_neg (by decide), fX8_takesBack_b2, if_pos (by decide)]
  simp only [show (3 : Int32) = nI 3 from rfl, show (1 : Int32) = nI 1 from rfl, n_mul, n_add, n_ixb (show 3 * k + 0 < 2147483648 by omega), n_ixb (show 3 * k + (0 + 1) < 2147483648 by omega), n_ixb (show 3 * k + (0 + 1 + 1) < 2147483648 by omega), n_ixb (show 0 < 2147483648 by omega), n_ixb (show 0 + 1 < 2147483648 by omega), n_ixb (show 0 + 1 + 1 < 2147483648 by omega), n_toNat (show 3 * k + 0 < 2147483648 by omega), n_toNat (show 3 * k + (0 + 1) < 2147483648 by omega), n_toNat (show 3 * k + (0 + 1 + 1) < 2147483648 by omega), n_toNat (show 0 < 2147483648 by omega), n_toNat (show 0 + 1 < 2147483648 by omega), n_toNat (show 0 + 1 + 1 < 2147483648 by omega), show 3 * k + 0 < 6 by omega, show 3 * k + (0 + 1) < 6 by omega, show 3 * k + (0 + 1 + 1) < 6 by omega, show 0 < 5627 by omega, show 0 + 1 < 5627 by omega, show 0 + 1 + 1 < 5627 by omega, decide_true, chk_t, sI_pI, show ¬ ((43 : Nat) = 40) by omega, false_and, if_false]
  rfl
theorem Ag_x {x x' : Rg} (h : Ag x x') : upR (upR (upR x' 0 (x.1 0)) 1 (x.1 1)) 2 (x.1 2) = x := by
  obtain ⟨f, t⟩ := x
  obtain ⟨f', t'⟩ := x'
  obtain ⟨h1, h2⟩ := h
  unfold upR
  have : va_up (va_up (va_up f' 0 (f 0)) 1 (f 1)) 2 (f 2) = f := by
    funext i
    unfold va_up
    by_cases c2 : i = 2
    · rw [if_pos c2, c2]
    · rw [if_neg c2]
      by_cases c1 : i = 1
      · rw [if_pos c1, c1]
      · rw [if_neg c1]
        by_cases c0 : i = 0
        · rw [if_pos c0, c0]
        · rw [if_neg c0]; exact h1 i (by omega)
  simp only [this]
  rw [show t' = t from h2]
/-- taken back -/
theorem takes_x {u : St} {x x' : Rg} {k : Nat} (hk : k < 2) (m : MRg u 40 0 x') (a : Ag x x') (h0 : sI u 43 (3 * k) = nI (x.1 0)) (h1 : sI u 43 (3 * k + 1) = nI (x.1 1)) (h2 : sI u 43 (3 * k + 2) = nI (x.1 2)) : ∃ v, fX8_takesBack (nI k) u = some v ∧ FR [(40, some 0), (40, some 1), (40, some 2)] u v ∧ MRg v 40 0 x := by
  refine ⟨_, takes_ok hk, FR.pI (by rfl) (FR.pI (by rfl) (FR.pI (by rfl) FR.rf)), ?_⟩
  rw [h0, h1, h2]
  have := MRg_up (v := x.1 2) (show 2 < 18 by omega) (MRg_up (v := x.1 1) (show 1 < 18 by omega) (MRg_up (v := x.1 0) (show 0 < 18 by omega) m))
  rw [Ag_x a] at this
  exact this
theorem LsM.fr {S : List (Nat × Option Nat)} {st u : St} {L : List Nat} (e : (inS S 38 34 || hasA S 54) = false) (h : FR S st u) (l : LsM st L) : LsM u L := by
  simp only [Bool.or_eq_false_iff] at e
  exact ⟨(h.i e.1).trans l.1, fun j w hj => (h.i (hasA_in e.2)).trans (l.2 j w hj)⟩
theorem LsM_app {st : St} {L : List Nat} {w : Nat} (l : LsM st L) : LsM (pI (pI st 54 L.length (nI w)) 38 34 (nI (L.length + 1))) (L ++ [w]) := by
  refine ⟨by rw [sI_pI, if_pos ⟨rfl, rfl⟩, List.length_append]; rfl, fun j v hj => ?_⟩
  rw [sI_pI, if_neg (by omega), sI_pI]
  by_cases c : j = L.length
  · subst c
    rw [if_pos ⟨rfl, rfl⟩]
    rw [List.getElem?_append_right (Nat.le_refl _), Nat.sub_self] at hj
    rw [← Option.some.inj hj]
  · rw [if_neg (by omega)]
    by_cases c2 : j < L.length
    · rw [List.getElem?_append_left c2] at hj
      exact l.2 j v hj
    · rw [List.getElem?_eq_none (by rw [List.length_append]; simp; omega)] at hj
      cases hj
theorem lwF_say {x : Rg} {r less : Nat} : lwF (sayX x r less) = lwF x := rfl
theorem LwOK_say {x : Rg} {r less : Nat} (h : LwOK x) : LwOK (sayX x r less) := h
theorem stX_say {x : Rg} {r less : Nat} (g : GdR x) (hn : 1 ≤ x.1 16) : stX (sayX x r less) = behA (x.1 16) (x.1 0) (tellX x r less) := by
  have hb := behA_lt (n := x.1 16) (b := x.1 0) (t := tellX x r less) g.1 g.2.1
  unfold stX plX
  have h16 : (sayX x r less).1 16 = x.1 16 := rfl
  have h0 : (sayX x r less).1 0 = behA (x.1 16) (x.1 0) (tellX x r less) / 6 := rfl
  have h1 : (sayX x r less).1 1 = behA (x.1 16) (x.1 0) (tellX x r less) % 6 := rfl
  rw [h16, h0, h1, if_neg (by omega), Nat.mod_eq_of_lt (hb.2.2.2 hn)]
  omega
theorem Ag_say {x : Rg} {r less : Nat} : Ag x (sayX x r less) := by
  refine ⟨fun i hi => ?_, rfl⟩
  rw [sayX_1, if_neg (by omega), if_neg (by omega)]
theorem Ag.tr {x y z : Rg} (h : Ag x y) (k : Ag y z) : Ag x z := ⟨fun i hi => (k.1 i hi).trans (h.1 i hi), k.2.trans h.2⟩
abbrev tlX (x : Rg) (r : Nat) : Nat → Nat := tlA (lwF x) x (x.1 2) (x.1 15) r
theorem tlX_x {x : Rg} {r : Nat} (g : GdR x) (hn : 1 ≤ x.1 16) : tlX x r (stX x) = tellX x r 0 := by
  show sayA _ _ _ _ (stX x / 6) (stX x % 6) _ _ = sayA _ _ _ _ _ _ _ _
  rw [(stX_d g).1, (stX_d g).2]
  unfold plX
  rw [if_neg (by omega)]
theorem tlX_say {x : Rg} {r r' less : Nat} : tlX (sayX x r less) r' = tlX x r' := by
  funext s
  show sayA (lwF (sayX x r less)) (sx (sayX x r less)) _ _ _ _ _ _ = _
  rw [sx_say]
  rfl
abbrev S_sl : List (Nat × Option Nat) := [(38, some 22), (38, some 23), (38, some 24), (38, some 25), (50, none), (51, none), (40, some 0), (40, some 1), (38, some 34), (54, none)]
theorem left_loop {r : Nat} : ∀ (k m i : Nat) (x : Rg) (L : List Nat) (st : St), i + k = 60 → k < m → GdR x → LwOK x → r < x.1 17 → MRg st 40 0 x → L.length + pc (x.1 0) ≤ 6 → LsM st L → ∃ u x', fX8_leftBy_b12 m (nI r) (nI i) st = fX8_leftBy_b67 u ∧ MRg u 40 0 x' ∧ GdR x' ∧ Ag x x' ∧ x'.1 0 = (lbA (x.1 16) (tlX x r) k (stX x) L).1 / 6 ∧ LsM u (lbA (x.1 16) (tlX x r) k (stX x) L).2 ∧ FR S_sl st u := by
  intro k
  induction k with
  | zero =>
    intro m i x L st h1 h2 g lo hr mr hl ls
    obtain ⟨m, rfl⟩ : ∃ j, m = j + 1 := ⟨m - 1, by omega⟩
    refine ⟨st, x, ?_, mr, g, ⟨fun _ _ => rfl, rfl⟩, (stX_d g).1.symm, ls, FR.rf⟩
    rw [fX8_leftBy_b12, if_pos (by rw [show (60 : Int32) = nI 60 from rfl, n_le (by omega) (by omega)]; omega)]
  | succ k ih =>
    intro m i x L st h1 h2 g lo hr mr hl ls
    obtain ⟨m, rfl⟩ : ∃ j, m = j + 1 := ⟨m - 1, by omega⟩
    have hn := g.1
    have h64 := b_lt64 g
    rw [fX8_leftBy_b12, if_neg (by rw [show (60 : Int32) = nI 60 from rfl, n_le (by omega) (by omega)]; omega), canSay8 g mr, Option.bind_some]
    unfold lbA
    rw [(stX_d g).1]
    by_cases c : 2 ≤ pc (x.1 0)
    · have h0 := pc2 _ h64 c
      have hn1 := many_in g h0
      rw [if_pos c, if_neg (by decide), if_pos c, tlX_x g hn1]
      obtain ⟨u, e1, f1, m1⟩ := says_ok (less := 0) g lo mr h0 hr (by omega)
      have hm : x.1 1 % x.1 16 < x.1 16 := Nat.mod_lt _ (by omega)
      obtain ⟨hw, hi⟩ := sayF_in (lw := lwF x) (vr := x.1 2) (vm := x.1 15) (r := r) (less := 0) g g.2.1 h0 hm
      have ht : tellX x r 0 = (fallX x r 0).1 ∨ tellX x r 0 = 100 + (fallX x r 0).1 := sayA_c
      have hx := stX_say (r := r) (less := 0) g hn1
      have hxd := (stX_d (Gd_say (r := r) (less := 0) g)).1
      have htl := tlX_say (x := x) (r := r) (r' := r) (less := 0)
      have hb := beh_p (n := x.1 16) (b := x.1 0) (t := tellX x r 0) hn
      have hw' : (fallX x r 0).1 < x.1 16 := hw
      have hi' : bit (x.1 0) (fallX x r 0).1 = 1 := hi
      have hx0 : (sayX x r 0).1 0 = behA (x.1 16) (x.1 0) (tellX x r 0) / 6 := rfl
      rw [show (0 : Int32) = nI 0 from rfl, e1, Option.bind_some]
      unfold fX8_leftBy_b61
      have lu : LsM u L := ls.fr (S := S_sy) (by rfl) f1
      obtain ⟨o1, o2, o3⟩ := out7 (x.1 0) h64 (fallX x r 0).1 (by omega) hi'
      have hlt : (nI (tellX x r 0) < (100 : Int32)) = (tellX x r 0 < 100) := n_lt (b := 100) (by omega) (by omega)
      simp only [hlt]
      rcases ht with ht | ht
      · rw [if_pos (show tellX x r 0 < 100 by omega), if_pos (show tellX x r 0 < 100 by omega), lu.1, n_ixb (by omega), decide_eq_true (show L.length < 60 by omega), chk_t, n_toNat (by omega), sI_pI, if_neg (by omega), lu.1, n_p1, n_p1]
        obtain ⟨u2, x', r1, r2, r3, r4, r5, r6, r7⟩ := ih m (i + 1) (sayX x r 0) (L ++ [tellX x r 0]) (pI (pI u 54 L.length (nI (tellX x r 0))) 38 34 (nI (L.length + 1))) (by omega) (by omega) (Gd_say g) (LwOK_say lo) hr (MRg.fr (S := [(38, some 34), (54, none)]) (by rfl) (FR.pI (by rfl) (FR.pI (by rfl) FR.rf)) m1) (by
          rw [hx0, hb.1, if_pos (by omega), ht, Nat.mod_eq_of_lt (show (fallX x r 0).1 < 100 by omega), List.length_append]; simp; omega) (LsM_app lu)
        rw [hx, htl] at r5 r6
        exact ⟨u2, x', r1, r2, r3, Ag_say.tr r4, r5, r6, ((FR.pI (by rfl) (FR.pI (by rfl) (FR.mono (by rfl) f1)) : FR S_sl st (pI (pI u 54 L.length (nI (tellX x r 0))) 38 34 (nI (L.length + 1))))).trans r7⟩
      · rw [if_neg (show ¬ tellX x r 0 < 100 by omega), if_neg (show ¬ tellX x r 0 < 100 by omega), n_p1]
        obtain ⟨u2, x', r1, r2, r3, r4, r5, r6, r7⟩ := ih m (i + 1) (sayX x r 0) L u (by omega) (by omega) (Gd_say g) (LwOK_say lo) hr m1 (by
          rw [hx0, hb.1, if_neg (by omega)]; exact hl) lu
        rw [hx, htl] at r5 r6
        exact ⟨u2, x', r1, r2, r3, Ag_say.tr r4, r5, r6, (FR.mono (by rfl) f1 : FR S_sl st u).trans r7⟩
    · rw [if_neg c, if_pos rfl, if_neg c]
      exact ⟨st, x, rfl, mr, g, ⟨fun _ _ => rfl, rfl⟩, (stX_d g).1.symm, ls, FR.rf⟩
abbrev S_lb : List (Nat × Option Nat) := [(38, some 22), (38, some 23), (38, some 24), (38, some 25), (50, none), (51, none), (40, some 0), (40, some 1), (40, some 2), (38, some 34), (54, none), (43, none)]
abbrev lbX (x : Rg) (r : Nat) : Nat × List Nat := lbA (x.1 16) (tlX x r) 60 (stX x) []
theorem alone8 {u : St} {x : Rg} {s : Nat} (g : GdR x) (m : MRg u 40 0 x) (h : x.1 0 = s / 6) : fX8_aloneNow u = some (oneI s) := by
  have h64 := b_lt64 g
  have hp := pc_le6 g
  unfold fX8_aloneNow oneI
  rw [inside_ok (x := x) h64 (m.k (by omega)), Option.bind_some, ← h, m.k (by omega)]
  have e1 : (nI (pc (x.1 0)) = (1 : Int32)) = (pc (x.1 0) = 1) := n_eq (b := 1) (by omega) (by omega)
  simp only [e1]
  by_cases c : pc (x.1 0) = 1
  · rw [if_pos c, if_pos c, (pc1 _ h64 c).2]; rfl
  · rw [if_neg c, if_neg c]
theorem left8 {st : St} {x : Rg} {r : Nat} (g : GdR x) (lo : LwOK x) (m : MRg st 40 0 x) (hr : r < x.1 17) : ∃ u, fX8_leftBy (nI r) st = some (oneI (lbX x r).1, u) ∧ MRg u 40 0 x ∧ FR S_lb st u ∧ LsM u (lbX x r).2 := by
  have hp := pc_le6 g
  unfold fX8_leftBy
  rw [show fX8_laysAside 0 st = _ from aside_ok (k := 0) (by omega), Option.bind_some]
  have f0 : FR S_lb st (pI (pI (pI (pI st 43 (3 * 0) (sI st 40 0)) 43 (3 * 0 + 1) (sI st 40 1)) 43 (3 * 0 + 2) (sI st 40 2)) 38 34 0) := FR.pI (by rfl) (FR.pI (by rfl) (FR.pI (by rfl) (FR.pI (by rfl) FR.rf)))
  have m0 := MRg.fr (S := [(43, none), (38, some 34)]) (by rfl) (FR.pI (a := 38) (j := 34) (v := 0) (by rfl) (FR.pI (a := 43) (j := 3 * 0 + 2) (v := sI st 40 2) (by rfl) (FR.pI (a := 43) (j := 3 * 0 + 1) (v := sI st 40 1) (by rfl) (FR.pI (a := 43) (j := 3 * 0) (v := sI st 40 0) (by rfl) FR.rf)))) m
  obtain ⟨u, x', r1, r2, r3, r4, r5, r6, r7⟩ := left_loop (r := r) 60 FU 0 x [] _ (by omega) (by unfold FU; omega) g lo hr m0 (by simpa using hp) ⟨by rw [sI_pI, if_pos ⟨rfl, rfl⟩]; rfl, fun j w h => by simp at h⟩
  have h43 : ∀ j, sI u 43 j = sI (pI (pI (pI st 43 (3 * 0) (sI st 40 0)) 43 (3 * 0 + 1) (sI st 40 1)) 43 (3 * 0 + 2) (sI st 40 2)) 43 j := fun j => by
    rw [r7.i (hasA_in (by rfl)), sI_pI, if_neg (by omega)]
  obtain ⟨v, e1, e2, e3⟩ := takes_x (k := 0) (by omega) r2 r4 (by rw [h43]; simp [sI_pI, m.k (show 0 < 19 by omega)]) (by rw [h43]; simp [sI_pI, m.k (show 1 < 19 by omega)]) (by rw [h43]; simp [sI_pI, m.k (show 2 < 19 by omega)])
  refine ⟨v, ?_, e3, (f0.trans (FR.mono (by rfl) r7)).trans (FR.mono (by rfl) e2), r6.fr (by rfl) e2⟩
  rw [show (0 : Int32) = nI 0 from rfl] at r1 ⊢
  rw [r1]
  unfold fX8_leftBy_b67
  rw [alone8 r3 r2 r5, Option.bind_some, show (0 : Int32) = nI 0 from rfl, e1, Option.bind_some]
