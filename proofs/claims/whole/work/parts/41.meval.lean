/-! what the model tells of tokens -/
abbrev S_e : List (Nat × Option Nat) := [(38, some 22), (38, some 24)]
theorem of_eq {st u : St} {a b : Int32} (h : ∀ j, sI u 40 j = sI st 40 j) : fX8_of u a b = fX8_of st a b := by
  unfold fX8_of fX8_isChild; simp only [h]
theorem inside_eq {st u : St} (h : ∀ j, sI u 40 j = sI st 40 j) : fX8_inside u = fX8_inside st := by
  unfold fX8_inside; rw [h]
def Mf (st : St) (o : Bool) (f : Nat → Int32) : Prop := if o = true then (sI st 40 2 = f 0 ∧ sI st 38 27 = f 1 ∧ sI st 38 28 = f 2 ∧ fX8_inside st = some (f 3) ∧ sI st 40 1 = f 4 ∧ ∀ k, k < 6 → fX8_of st (nI k) 1 = some (f (5 + k)) ∧ fX8_of st (nI k) 0 = some (f (11 + k))) else ∀ i, i < 7 → sI st 50 i = f (wL (9 + i))
/-- tokens laid at a place, what is asked -/
def Mc (base : Nat) (T : Tok) (o : Bool) (f : Nat → Int32) (st : St) : Prop := base ≤ 2400 ∧ TkE T ∧ sI st 38 23 = nI (base + T.1) ∧ (∀ k, k < T.1 → sI st 40 (27 + (base + k)) = nI (T.2.1 k) ∧ sI st 40 (2827 + (base + k)) = nI (T.2.2 k)) ∧ sI st 38 25 = b2i o ∧ Mf st o f
theorem Mc.fr {base : Nat} {T : Tok} {o : Bool} {f : Nat → Int32} {st u : St} (h : FR S_e st u) (m : Mc base T o f st) : Mc base T o f u := by
  obtain ⟨m1, m2, m3, m4, m5, m6⟩ := m
  have h40 := fun j => h.i (a := 40) (j := j) (hasA_in (by rfl))
  refine ⟨m1, m2, (h.i (by rfl)).trans m3, fun k hk => ⟨(h40 _).trans (m4 k hk).1, (h40 _).trans (m4 k hk).2⟩, (h.i (by rfl)).trans m5, ?_⟩
  unfold Mf at m6 ⊢
  cases o with
  | true =>
    simp only [if_true] at m6 ⊢
    obtain ⟨a1, a2, a3, a4, a5, a6⟩ := m6
    refine ⟨(h40 _).trans a1, (h.i (by rfl)).trans a2, (h.i (by rfl)).trans a3, (inside_eq h40).trans a4, (h40 _).trans a5, fun k hk => ⟨(of_eq h40).trans (a6 k hk).1, (of_eq h40).trans (a6 k hk).2⟩⟩
  | false =>
    simp only [Bool.false_eq_true, if_false] at m6 ⊢
    exact fun i hi => (h.i (hasA_in (by rfl))).trans (m6 i hi)
/-- where the model stands: token, broken -/
def At8 (base k : Nat) (b : Bool) (st : St) : Prop := k ≤ 1000 ∧ sI st 38 22 = nI (base + k) ∧ sI st 38 24 = b2i b
theorem codeAt_ok {base k : Nat} {T : Tok} {o b : Bool} {f : Nat → Int32} {st : St} (m : Mc base T o f st) (a : At8 base k b st) : fX8_codeAt st (sI st 38 22) = some (nI (T.2.1 k)) := by
  obtain ⟨m1, m2, m3, m4, m5, m6⟩ := m
  obtain ⟨a0, a1, a2⟩ := a
  have h400 := m2.1
  unfold fX8_codeAt
  rw [a1, m3]
  by_cases c : T.1 ≤ k
  · rw [if_pos (by rw [n_le (by omega) (by omega)]; omega), m2.2.1 k c]; rfl
  · rw [if_neg (by rw [n_le (by omega) (by omega)]; omega), show (27 : Int32) = nI 27 from rfl, n_add, n_ixb (by omega), decide_eq_true (show 27 + (base + k) < 5627 by omega), chk_t, n_toNat (by omega), (m4 k (by omega)).1]
theorem go1 {base k : Nat} {b : Bool} {st : St} (hb : base ≤ 2400) (hk : k < 1000) (a : At8 base k b st) : FR S_e st (pI st 38 22 (sI st 38 22 + 1)) ∧ At8 base (k + 1) b (pI st 38 22 (sI st 38 22 + 1)) := by
  refine ⟨FR.pI (by rfl) FR.rf, by omega, ?_, ?_⟩
  · rw [sI_pI, if_pos ⟨rfl, rfl⟩, a.2.1, n_p1]; rfl
  · rw [sI_pI, if_neg (by omega)]; exact a.2.2
theorem passes_ok {base k c : Nat} {T : Tok} {o b : Bool} {f : Nat → Int32} {st : St} (hc : c < 400) (m : Mc base T o f st) (a : At8 base k b st) (hk : k < 1000) : (T.2.1 k = c ∧ ∃ u, fX8_passes0 (nI c) st = some (1, u) ∧ FR S_e st u ∧ At8 base (k + 1) b u) ∨ (T.2.1 k ≠ c ∧ fX8_passes0 (nI c) st = some (0, st)) := by
  unfold fX8_passes0 fX8_passes0_b17
  have hT := (m.2.1.2.2 k).1
  rw [codeAt_ok m a, Option.bind_some]
  have e : (nI (T.2.1 k) = nI c) = (T.2.1 k = c) := n_eq (by omega) (by omega)
  simp only [e]
  by_cases h : T.2.1 k = c
  · obtain ⟨f1, a1⟩ := go1 m.1 hk a
    exact Or.inl ⟨h, _, by rw [if_pos h, if_neg (by decide)]; rfl, f1, a1⟩
  · exact Or.inr ⟨h, by rw [if_neg h, if_pos trivial]; rfl⟩
def bb (b live : Bool) (o : Option Int32) : Bool := b || (live && o.isNone)
def vv (b live : Bool) (o : Option Int32) : Int := if b = false ∧ live = true then (match o with | some x => x.toInt | none => 0) else 0
/-- a function of the model that goes along a sum -/
def EvP (base : Nat) (T : Tok) (o : Bool) (f : Nat → Int32) (fn : Int32 → St → Option (Int64 × St)) (k k' : Nat) (D : Dn) : Prop :=
  ∀ (live b : Bool) (st : St), Mc base T o f st → At8 base k b st → ∃ v u, fn (b2i live) st = some (v, u) ∧ FR S_e st u ∧ At8 base k' (bb b live (D f)) u ∧ v.toInt = vv b live (D f)
def jo (s : Nat) (o1 o2 : Option Int32) : Option Int32 := match o1 with | none => none | some a => match o2 with | none => none | some b => jn s a b
theorem dJn_jo {s : Nat} {D E : Dn} {f : Nat → Int32} : dJn s D E f = jo s (D f) (E f) := by
  unfold dJn jo
  cases D f with
  | none => rfl
  | some a => cases E f <;> rfl
theorem bounded_dead {x : Int64} {l1 : Int32} {st : St} (h : sI st 38 24 = 1) : ∃ u, fX8_bounded x l1 st = some (0, u) ∧ FR S_e st u ∧ sI u 38 24 = 1 ∧ sI u 38 22 = sI st 38 22 := by
  unfold fX8_bounded fX8_bounded_b20 fX8_bounded_b25
  have e1 : ¬ sI st 38 24 = 0 := by rw [h]; decide
  have e2 : ¬ sI (pI st 38 24 1) 38 24 = 0 := by rw [sI_pI, if_pos ⟨rfl, rfl⟩]; decide
  have f1 : FR S_e st (pI st 38 24 1) := FR.pI (by rfl) FR.rf
  simp only [e1, e2, if_false]
  have r2 : sI (pI st 38 24 1) 38 24 = 1 := by rw [sI_pI, if_pos ⟨rfl, rfl⟩]
  have r3 : sI (pI st 38 24 1) 38 22 = sI st 38 22 := by rw [sI_pI, if_neg (by omega)]
  by_cases c1 : l1 = 0
  · exact ⟨st, by simp only [c1, if_true], FR.rf, h, rfl⟩
  · by_cases c2 : 0 < lg_cmp x 1000000000
    · exact ⟨_, by simp only [c1, c2, if_true, if_false], f1, r2, r3⟩
    · by_cases c3 : 0 ≤ lg_cmp x (-1000000000)
      · exact ⟨st, by simp only [c1, c2, c3, if_true, if_false], FR.rf, h, rfl⟩
      · exact ⟨_, by simp only [c1, c2, c3, if_false], f1, r2, r3⟩
theorem bounded_off {x : Int64} {st : St} (h : sI st 38 24 = 0) : fX8_bounded x 0 st = some (x, st) := by
  unfold fX8_bounded fX8_bounded_b25
  rw [if_pos rfl, if_pos h]
theorem bounded_on {x : Int64} {z : Int} {st : St} (h : sI st 38 24 = 0) (hz : x.toInt = z) : ∃ v u, fX8_bounded x 1 st = some (v, u) ∧ FR S_e st u ∧ sI u 38 22 = sI st 38 22 ∧ sI u 38 24 = b2i (lim z).isNone ∧ v.toInt = vv false true (lim z) := by
  have t1 : (1000000000 : Int64).toInt = 1000000000 := by decide
  have t2 : (-1000000000 : Int64).toInt = -1000000000 := by decide
  have t0 : (0 : Int64).toInt = 0 := by decide
  have f1 : FR S_e st (pI st 38 24 1) := FR.pI (by rfl) FR.rf
  have r2 : sI (pI st 38 24 1) 38 24 = 1 := by rw [sI_pI, if_pos ⟨rfl, rfl⟩]
  have r3 : sI (pI st 38 24 1) 38 22 = sI st 38 22 := by rw [sI_pI, if_neg (by omega)]
  have e2 : ¬ sI (pI st 38 24 1) 38 24 = 0 := by rw [r2]; decide
  unfold fX8_bounded fX8_bounded_b20 fX8_bounded_b25
  simp only [lc_gt, lc_ge, t1, t2, hz, h, e2, if_true, if_false, show ((1 : Int32) = 0) = False by decide]
  by_cases c1 : 1000000000 < z
  · have hl : lim z = none := if_pos (Or.inl c1)
    rw [hl]
    simp only [c1, if_true]
    exact ⟨_, _, rfl, f1, r3, r2, t0⟩
  · by_cases c2 : -1000000000 ≤ z
    · have hl : lim z = some (Int32.ofInt z) := if_neg (by omega)
      rw [hl]
      simp only [c1, c2, if_true, if_false]
      refine ⟨_, _, rfl, FR.rf, rfl, h, ?_⟩
      show x.toInt = (Int32.ofInt z).toInt
      rw [ofI (by omega) (by omega)]; exact hz
    · have hl : lim z = none := if_pos (by omega)
      rw [hl]
      simp only [c1, c2, if_false]
      exact ⟨_, _, rfl, f1, r3, r2, t0⟩
theorem vv_b {b live : Bool} {o : Option Int32} : -2147483648 ≤ vv b live o ∧ vv b live o ≤ 2147483648 := by
  unfold vv
  split
  · cases o with
    | none => simp
    | some x => have := i_bd x; simp only []; omega
  · omega
theorem vv_0 {b live : Bool} {o : Option Int32} (h : bb b live o = true ∨ live = false) : vv b live o = 0 := by
  unfold vv bb at *
  cases b <;> cases live <;> cases o <;> simp at h ⊢
abbrev K6 : Type := Int32 → Int64 → St → Option (Int64 × St)
/-- two numbers joined by a sign; broken goes on -/
theorem opB {base k s : Nat} {b live : Bool} {o1 o2 : Option Int32} {x : Int64} {st : St} {k6 : K6} (a : At8 base k (bb (bb b live o1) live o2) st)
    (hx : ∀ p q, b = false → live = true → o1 = some p → o2 = some q → jn s p q = lim x.toInt) (h0 : live = false → b = false → x.toInt = 0) : ∃ v' u, (fX8_bounded x (b2i live) st).bind (fun q1 => k6 (b2i live) q1.1 q1.2) = k6 (b2i live) v' u ∧ FR S_e st u ∧ At8 base k (bb b live (jo s o1 o2)) u ∧ v'.toInt = vv b live (jo s o1 o2) := by
  obtain ⟨a0, a1, a2⟩ := a
  have t0 : (0 : Int64).toInt = 0 := by decide
  have dead : bb (bb b live o1) live o2 = true → bb b live (jo s o1 o2) = true → ∃ v' u, (fX8_bounded x (b2i live) st).bind (fun q1 => k6 (b2i live) q1.1 q1.2) = k6 (b2i live) v' u ∧ FR S_e st u ∧ At8 base k (bb b live (jo s o1 o2)) u ∧ v'.toInt = vv b live (jo s o1 o2) := by
    intro h h'
    rw [h] at a2
    obtain ⟨u, e1, e2, e3, e4⟩ := bounded_dead (x := x) (l1 := b2i live) a2
    refine ⟨0, u, by rw [e1]; rfl, e2, ⟨a0, e4.trans a1, by rw [h']; exact e3⟩, by rw [vv_0 (Or.inl h'), t0]⟩
  cases b with
  | true => exact dead (by unfold bb; simp) (by unfold bb; simp)
  | false =>
    cases live with
    | false =>
      have hz : sI st 38 24 = 0 := a2.trans (by unfold bb; simp [b2i])
      refine ⟨x, st, by rw [show b2i false = 0 from rfl, bounded_off hz]; rfl, FR.rf, ⟨a0, a1, by rw [hz]; unfold bb; simp [b2i]⟩, by rw [h0 rfl rfl, vv_0 (Or.inr rfl)]⟩
    | true =>
      cases o1 with
      | none => exact dead (by unfold bb; simp) (by unfold bb jo; simp)
      | some p =>
        cases o2 with
        | none => exact dead (by unfold bb; simp) (by unfold bb jo; simp)
        | some q =>
          have hz : sI st 38 24 = 0 := a2.trans (by unfold bb; simp [b2i])
          obtain ⟨v, u, e1, e2, e3, e4, e5⟩ := bounded_on hz (rfl : x.toInt = x.toInt)
          have hj : jo s (some p) (some q) = lim x.toInt := hx p q rfl rfl rfl rfl
          refine ⟨v, u, by rw [show b2i true = 1 from rfl, e1]; rfl, e2, ⟨a0, e3.trans a1, ?_⟩, by rw [hj]; exact e5⟩
          rw [hj, e4]; unfold bb; simp
