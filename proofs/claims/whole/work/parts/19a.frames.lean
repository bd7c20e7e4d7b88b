/-! what a method leaves as it was: all but the places that it is told to write -/
def inA (q : Nat × Option Nat) (a j : Nat) : Bool := q.1 == a && (match q.2 with | none => true | some k => k == j)
def inS (S : List (Nat × Option Nat)) (a j : Nat) : Bool := S.any (fun q => inA q a j)
def subS (S1 S : List (Nat × Option Nat)) : Bool := S1.all (fun q => S.any (fun p => p.1 == q.1 && (p.2 == none || p.2 == q.2)))
def FR (S : List (Nat × Option Nat)) (st u : St) : Prop := (sn u = sn st ∧ (∀ a, sK u a = sK st a ∧ sN u a = sN st a) ∧ ∀ a j, (a = 19 → j = 7 → inS S 19 7 = false) → sR u a j = sR st a j) ∧ ∀ a j, inS S a j = false → sI u a j = sI st a j ∧ sL u a j = sL st a j
theorem FR.rf {S : List (Nat × Option Nat)} {st : St} : FR S st st := ⟨⟨rfl, fun _ => ⟨rfl, rfl⟩, fun _ _ _ => rfl⟩, fun _ _ _ => ⟨rfl, rfl⟩⟩
theorem FR.trans {S : List (Nat × Option Nat)} {a b c : St} (h1 : FR S a b) (h2 : FR S b c) : FR S a c := ⟨⟨h2.1.1.trans h1.1.1, fun x => ⟨(h2.1.2.1 x).1.trans (h1.1.2.1 x).1, (h2.1.2.1 x).2.trans (h1.1.2.1 x).2⟩, fun x j n => (h2.1.2.2 x j n).trans (h1.1.2.2 x j n)⟩, fun x j p => ⟨((h2.2 x j p).1).trans (h1.2 x j p).1, ((h2.2 x j p).2).trans (h1.2 x j p).2⟩⟩
theorem inS_sub {S1 S : List (Nat × Option Nat)} (h : subS S1 S = true) {a j : Nat} (hn : inS S a j = false) : inS S1 a j = false := by
  cases e : inS S1 a j with
  | false => rfl
  | true =>
    exfalso
    obtain ⟨q, hq, e1⟩ := List.any_eq_true.mp e
    have h1 := List.all_eq_true.mp h q hq
    obtain ⟨p, hp, e2⟩ := List.any_eq_true.mp h1
    have : inS S a j = true := by
      refine List.any_eq_true.mpr ⟨p, hp, ?_⟩
      obtain ⟨q1, q2⟩ := q
      obtain ⟨p1, p2⟩ := p
      simp only [inA, Bool.and_eq_true, beq_iff_eq, Bool.or_eq_true] at e1 e2 ⊢
      obtain ⟨x1, x2⟩ := e1
      obtain ⟨y1, y2⟩ := e2
      refine ⟨y1.trans x1, ?_⟩
      rcases y2 with y | y
      · rw [y]
      · rw [y]; exact x2
    rw [hn] at this; cases this
theorem FR.mono {S1 S : List (Nat × Option Nat)} {st u : St} (h : subS S1 S = true) (hf : FR S1 st u) : FR S st u := ⟨⟨hf.1.1, hf.1.2.1, fun a j p => hf.1.2.2 a j (fun e1 e2 => inS_sub h (p e1 e2))⟩, fun a j p => hf.2 a j (inS_sub h p)⟩
theorem inS_all {S : List (Nat × Option Nat)} {a : Nat} (h : subS [(a, none)] S = true) {j : Nat} : inS S a j = true := by
  cases e : inS S a j with
  | true => rfl
  | false =>
    have h1 := inS_sub h e
    simp [inS, inA] at h1
theorem FR.pI {S : List (Nat × Option Nat)} {st u : St} {a j : Nat} {v : Int32} (ha : inS S a j = true) (h : FR S st u) : FR S st (pI u a j v) := ⟨h.1, fun x i p => ⟨by rw [sI_pI, if_neg (fun e => by rw [e.1, e.2, ha] at p; cases p)]; exact (h.2 x i p).1, by rw [sL_pI]; exact (h.2 x i p).2⟩⟩
theorem FR.pL {S : List (Nat × Option Nat)} {st u : St} {a j : Nat} {v : Int64} (ha : inS S a j = true) (h : FR S st u) : FR S st (pL u a j v) := ⟨h.1, fun x i p => ⟨by rw [sI_pL]; exact (h.2 x i p).1, by rw [sL_pL, if_neg (fun e => by rw [e.1, e.2, ha] at p; cases p)]; exact (h.2 x i p).2⟩⟩
theorem FR.pR {S : List (Nat × Option Nat)} {st u : St} {v : Option Nat} (ha : inS S 19 7 = true) (h : FR S st u) : FR S st (pR u 19 7 v) := ⟨⟨h.1.1, h.1.2.1, fun x i n => by rw [sR_pR, if_neg (fun e => by have n2 := n e.1 e.2; rw [ha] at n2; cases n2)]; exact h.1.2.2 x i n⟩, fun x i p => ⟨by rw [sI_pR]; exact (h.2 x i p).1, by rw [sL_pR]; exact (h.2 x i p).2⟩⟩
theorem FR.rI {S : List (Nat × Option Nat)} {st u : St} {a : Nat} {f : Nat → Int32} (ha : ∀ {j : Nat}, inS S a j = true) (h : FR S st u) : FR S st (rI u a f) := ⟨h.1, fun x i p => ⟨by rw [sI_rI, if_neg (fun e => by rw [e, ha] at p; cases p)]; exact (h.2 x i p).1, by rw [sL_rI]; exact (h.2 x i p).2⟩⟩
def wX0_draw_S : List (Nat × Option Nat) := [(33, some 5)]
set_option maxHeartbeats 1000000 in
theorem mX0_draw {r0 : Int32} {u0 : St} {p1 : Int32} {st : St}  (hf : fX0_draw p1 st = some (r0, u0)) : FR wX0_draw_S st u0 := by
  unfold fX0_draw at hf
  by_cases h1 : (1 : Int32) ≤ p1
  · rw [if_pos h1] at hf
    obtain ⟨h2, hf⟩ := chk_some hf
    rw [← (Prod.mk.inj (Option.some.inj hf)).2]; exact (FR.pL (by rfl) FR.rf)
  · rw [if_neg h1] at hf
    rw [← (Prod.mk.inj (Option.some.inj hf)).2]; exact (FR.pL (by rfl) FR.rf)
def wJ7_fill_53178_S (ar : Nat) : List (Nat × Option Nat) := [(ar, none)]
set_option maxHeartbeats 1000000 in
theorem mJ7_fill_53178_b5 {u0 : St} : ∀ (n : Nat) (ar : Nat) (l1 : Int32) (l2 : Int32) (l3 : Int32) (st : St) , fJ7_fill_53178_b5 n ar l1 l2 l3 st = some u0 → FR (wJ7_fill_53178_S ar) st u0 := by
  intro n
  induction n with
  | zero =>
    intros
    rename_i hf
    rw [fJ7_fill_53178_b5] at hf
    cases hf
  | succ n ih =>
    intro ar l1 l2 l3 st hf
    rw [fJ7_fill_53178_b5] at hf
    by_cases h1 : l3 ≤ l2
    · rw [if_pos h1] at hf
      rw [← Option.some.inj hf]; exact FR.rf
    · rw [if_neg h1] at hf
      obtain ⟨h2, hf⟩ := chk_some hf
      exact FR.trans (FR.pI (inS_all (by simp [subS, inS, inA, wJ7_fill_53178_S])) FR.rf) (ih ar l1 (l2 + (1 : Int32)) l3 (pI st ar l2.toNatClampNeg l1) hf)
set_option maxHeartbeats 1000000 in
theorem mJ7_fill_53178 {u0 : St} {ar : Nat} {p1 : Int32} {st : St}  (hf : fJ7_fill_53178 ar p1 st = some u0) : FR (wJ7_fill_53178_S ar) st u0 := by
  unfold fJ7_fill_53178 at hf
  exact FR.trans FR.rf (mJ7_fill_53178_b5  FU ar p1 (0 : Int32) (nI (sN st ar)) st hf)
def wX6_forget_S : List (Nat × Option Nat) := [(19, some 6), (23, none), (24, none)]
set_option maxHeartbeats 1000000 in
theorem mX6_forget {u0 : St}  {st : St}  (hf : fX6_forget st = some u0) : FR wX6_forget_S st u0 := by
  unfold fX6_forget at hf
  by_cases h1 : (sI (pI st 19 6 ((sI st 19 6) + (1 : Int32))) 19 6) ≤ (1000000 : Int32)
  · rw [if_pos h1] at hf
    rw [← Option.some.inj hf]; exact (FR.pI (by rfl) FR.rf)
  · rw [if_neg h1] at hf
    obtain ⟨q3, h4, hf⟩ := bnd_some hf
    exact FR.trans (FR.trans (FR.pI (by rfl) (FR.pI (by rfl) FR.rf)) (FR.mono (by rfl) (mJ7_fill_53178 h4))) (FR.mono (by rfl) (mJ7_fill_53178 hf))
def wX6_tune_S : List (Nat × Option Nat) := [(19, some 6), (19, some 7), (19, some 8), (19, some 9), (23, none), (24, none)]
set_option maxHeartbeats 1000000 in
theorem mX6_tune_b32 {u0 : St} (l1 : Option Nat) (l2 : Int32) (st : St)  (hf : fX6_tune_b32 l1 l2 st = some u0) : FR wX6_tune_S st u0 := by
  unfold fX6_tune_b32 at hf
  obtain ⟨q1, h2, hf⟩ := bnd_some hf
  rw [← Option.some.inj hf]; exact (FR.pI (by rfl) (FR.pI (by rfl) (FR.pR (by rfl) (FR.trans FR.rf (FR.mono (by rfl) (mX6_forget h2))))))
set_option maxHeartbeats 1000000 in
theorem mX6_tune {u0 : St} {nl : Option Nat} {p2 : Int32} {st : St}  (hf : fX6_tune nl p2 st = some u0) : FR wX6_tune_S st u0 := by
  unfold fX6_tune at hf
  rcases (Classical.em (nl = (sR st 19 7))).symm with h1 | h1
  · rw [if_neg h1] at hf
    exact FR.trans FR.rf (mX6_tune_b32  nl p2 st hf)
  · rw [if_pos h1] at hf
    rcases (Classical.em (p2 = (sI st 19 8))).symm with h2 | h2
    · rw [if_neg h2] at hf
      exact FR.trans FR.rf (mX6_tune_b32  nl p2 st hf)
    · rw [if_pos h2] at hf
      by_cases h3 : (sI st 5 3) = (sI st 19 9)
      · rw [if_pos h3] at hf
        rw [← Option.some.inj hf]; exact FR.rf
      · rw [if_neg h3] at hf
        exact FR.trans FR.rf (mX6_tune_b32  nl p2 st hf)
def wX6_gatherFacts_S : List (Nat × Option Nat) := [(20, some 0), (20, some 1), (20, some 2), (20, some 3), (20, some 4), (20, some 5), (20, some 6)]
set_option maxHeartbeats 1000000 in
theorem mX6_gatherFacts {u0 : St} {p1 : Int32} {p2 : Int32} {p3 : Int32} {p4 : Int32} {st : St}  (hf : fX6_gatherFacts p1 p2 p3 p4 st = some u0) : FR wX6_gatherFacts_S st u0 := by
  unfold fX6_gatherFacts at hf
  obtain ⟨h1, hf⟩ := chk_some hf
  rw [← Option.some.inj hf]; exact (FR.pI (by rfl) (FR.pI (by rfl) (FR.pI (by rfl) (FR.pI (by rfl) (FR.pI (by rfl) (FR.pI (by rfl) (FR.pI (by rfl) FR.rf)))))))
def wX5_worth_S (sk : Nat) : List (Nat × Option Nat) := [(sk, none)]
set_option maxHeartbeats 1000000 in
theorem mX5_worth_b311 {r0 : Int32} {u0 : St} {k9 : Nat → Nat → Nat → Int32 → Int32 → Int32 → St → Option (Int32 × St)} (hk9 : ∀ (t : Nat) (fa : Nat) (sk : Nat) (l4 : Int32) (l5 : Int32) (l6 : Int32) (st : St), k9 t fa sk l4 l5 l6 st = some (r0, u0) → FR (wX5_worth_S sk) st u0) (t : Nat) (fa : Nat) (sk : Nat) (l4 : Int32) (l5 : Int32) (l6 : Int32) (st : St)  (hf : fX5_worth_b311 k9 t fa sk l4 l5 l6 st = some (r0, u0)) : FR (wX5_worth_S sk) st u0 := by
  unfold fX5_worth_b311 at hf
  exact FR.trans FR.rf (hk9 t fa sk l4 l5 (l6 + (1 : Int32)) st hf)
set_option maxHeartbeats 1000000 in
theorem mX5_worth_b285 {r0 : Int32} {u0 : St} {k9 : Nat → Nat → Nat → Int32 → Int32 → Int32 → St → Option (Int32 × St)} (hk9 : ∀ (t : Nat) (fa : Nat) (sk : Nat) (l4 : Int32) (l5 : Int32) (l6 : Int32) (st : St), k9 t fa sk l4 l5 l6 st = some (r0, u0) → FR (wX5_worth_S sk) st u0) (t : Nat) (fa : Nat) (sk : Nat) (l4 : Int32) (l5 : Int32) (l6 : Int32) (s0 : Int32) (st : St)  (hf : fX5_worth_b285 k9 t fa sk l4 l5 l6 s0 st = some (r0, u0)) : FR (wX5_worth_S sk) st u0 := by
  unfold fX5_worth_b285 at hf
  rcases (Classical.em (s0 = (-2000000000 : Int32))).symm with h1 | h1
  · rw [if_neg h1] at hf
    obtain ⟨h2, hf⟩ := chk_some hf
    exact FR.trans (FR.pI (inS_all (by simp [subS, inS, inA, wX5_worth_S])) FR.rf) (mX5_worth_b311 hk9 t fa sk (l4 + (1 : Int32)) (l5 + (-1 : Int32)) l6 (pI st sk (((l5 + (-1 : Int32)) - (1 : Int32)).toNatClampNeg) s0) hf)
  · rw [if_pos h1] at hf
    rw [← (Prod.mk.inj (Option.some.inj hf)).2]; exact FR.rf
set_option maxHeartbeats 1000000 in
theorem mX5_worth_b212 {r0 : Int32} {u0 : St} {k9 : Nat → Nat → Nat → Int32 → Int32 → Int32 → St → Option (Int32 × St)} (hk9 : ∀ (t : Nat) (fa : Nat) (sk : Nat) (l4 : Int32) (l5 : Int32) (l6 : Int32) (st : St), k9 t fa sk l4 l5 l6 st = some (r0, u0) → FR (wX5_worth_S sk) st u0) (t : Nat) (fa : Nat) (sk : Nat) (l5 : Int32) (l6 : Int32) (s0 : Int32) (st : St)  (hf : fX5_worth_b212 k9 t fa sk l5 l6 s0 st = some (r0, u0)) : FR (wX5_worth_S sk) st u0 := by
  unfold fX5_worth_b212 at hf
  exact FR.trans FR.rf (mX5_worth_b311 hk9 t fa sk s0 l5 l6 st hf)
set_option maxHeartbeats 1000000 in
theorem mX5_worth_b196 {r0 : Int32} {u0 : St} {k9 : Nat → Nat → Nat → Int32 → Int32 → Int32 → St → Option (Int32 × St)} (hk9 : ∀ (t : Nat) (fa : Nat) (sk : Nat) (l4 : Int32) (l5 : Int32) (l6 : Int32) (st : St), k9 t fa sk l4 l5 l6 st = some (r0, u0) → FR (wX5_worth_S sk) st u0) (t : Nat) (fa : Nat) (sk : Nat) (l4 : Int32) (l6 : Int32) (l8 : Int32) (l9 : Int32) (s0 : Int32) (st : St)  (hf : fX5_worth_b196 k9 t fa sk l4 l6 l8 l9 s0 st = some (r0, u0)) : FR (wX5_worth_S sk) st u0 := by
  unfold fX5_worth_b196 at hf
  by_cases h1 : l9 = 0
  · rw [if_pos h1] at hf
    exact FR.trans FR.rf (mX5_worth_b212 hk9 t fa sk s0 l6 (l4 + (2 : Int32)) st hf)
  · rw [if_neg h1] at hf
    exact FR.trans FR.rf (mX5_worth_b212 hk9 t fa sk s0 l6 l8 st hf)
set_option maxHeartbeats 1000000 in
theorem mX5_worth_b180 {r0 : Int32} {u0 : St} {k9 : Nat → Nat → Nat → Int32 → Int32 → Int32 → St → Option (Int32 × St)} (hk9 : ∀ (t : Nat) (fa : Nat) (sk : Nat) (l4 : Int32) (l5 : Int32) (l6 : Int32) (st : St), k9 t fa sk l4 l5 l6 st = some (r0, u0) → FR (wX5_worth_S sk) st u0) (t : Nat) (fa : Nat) (sk : Nat) (l4 : Int32) (l5 : Int32) (l6 : Int32) (l8 : Int32) (s0 : Int32) (st : St)  (hf : fX5_worth_b180 k9 t fa sk l4 l5 l6 l8 s0 st = some (r0, u0)) : FR (wX5_worth_S sk) st u0 := by
  unfold fX5_worth_b180 at hf
  by_cases h1 : s0 = 0
  · rw [if_pos h1] at hf
    exact FR.trans FR.rf (mX5_worth_b196 hk9 t fa sk l4 l6 l8 s0 (l5 - (1 : Int32)) st hf)
  · rw [if_neg h1] at hf
    exact FR.trans FR.rf (mX5_worth_b196 hk9 t fa sk l4 l6 l8 s0 l5 st hf)
set_option maxHeartbeats 1000000 in
theorem mX5_worth_b172 {r0 : Int32} {u0 : St} {k9 : Nat → Nat → Nat → Int32 → Int32 → Int32 → St → Option (Int32 × St)} (hk9 : ∀ (t : Nat) (fa : Nat) (sk : Nat) (l4 : Int32) (l5 : Int32) (l6 : Int32) (st : St), k9 t fa sk l4 l5 l6 st = some (r0, u0) → FR (wX5_worth_S sk) st u0) (t : Nat) (fa : Nat) (sk : Nat) (l4 : Int32) (l5 : Int32) (l6 : Int32) (l8 : Int32) (s0 : Int32) (s1 : Int32) (st : St)  (hf : fX5_worth_b172 k9 t fa sk l4 l5 l6 l8 s0 s1 st = some (r0, u0)) : FR (wX5_worth_S sk) st u0 := by
  unfold fX5_worth_b172 at hf
  rcases (Classical.em (s0 = s1)).symm with h1 | h1
  · rw [if_neg h1] at hf
    exact FR.trans FR.rf (mX5_worth_b180 hk9 t fa sk l4 l5 l6 l8 (0 : Int32) st hf)
  · rw [if_pos h1] at hf
    exact FR.trans FR.rf (mX5_worth_b180 hk9 t fa sk l4 l5 l6 l8 (1 : Int32) st hf)
set_option maxHeartbeats 1000000 in
theorem mX5_worth_b161 {r0 : Int32} {u0 : St} {k9 : Nat → Nat → Nat → Int32 → Int32 → Int32 → St → Option (Int32 × St)} (hk9 : ∀ (t : Nat) (fa : Nat) (sk : Nat) (l4 : Int32) (l5 : Int32) (l6 : Int32) (st : St), k9 t fa sk l4 l5 l6 st = some (r0, u0) → FR (wX5_worth_S sk) st u0) (t : Nat) (fa : Nat) (sk : Nat) (l4 : Int32) (l5 : Int32) (l6 : Int32) (l7 : Int32) (l8 : Int32) (s0 : Int32) (st : St)  (hf : fX5_worth_b161 k9 t fa sk l4 l5 l6 l7 l8 s0 st = some (r0, u0)) : FR (wX5_worth_S sk) st u0 := by
  unfold fX5_worth_b161 at hf
  rcases (Classical.em (l7 = (4 : Int32))).symm with h1 | h1
  · rw [if_neg h1] at hf
    exact FR.trans FR.rf (mX5_worth_b172 hk9 t fa sk l4 l5 l6 l8 s0 (0 : Int32) st hf)
  · rw [if_pos h1] at hf
    exact FR.trans FR.rf (mX5_worth_b172 hk9 t fa sk l4 l5 l6 l8 s0 (1 : Int32) st hf)
set_option maxHeartbeats 1000000 in
theorem mX5_worth_b147 {r0 : Int32} {u0 : St} {k9 : Nat → Nat → Nat → Int32 → Int32 → Int32 → St → Option (Int32 × St)} (hk9 : ∀ (t : Nat) (fa : Nat) (sk : Nat) (l4 : Int32) (l5 : Int32) (l6 : Int32) (st : St), k9 t fa sk l4 l5 l6 st = some (r0, u0) → FR (wX5_worth_S sk) st u0) (t : Nat) (fa : Nat) (sk : Nat) (l4 : Int32) (l5 : Int32) (l6 : Int32) (l7 : Int32) (l8 : Int32) (st : St)  (hf : fX5_worth_b147 k9 t fa sk l4 l5 l6 l7 l8 st = some (r0, u0)) : FR (wX5_worth_S sk) st u0 := by
  unfold fX5_worth_b147 at hf
  obtain ⟨h1, hf⟩ := chk_some hf
  by_cases h2 : (sI st sk ((l5 - (1 : Int32)).toNatClampNeg)) = 0
  · rw [if_pos h2] at hf
    exact FR.trans FR.rf (mX5_worth_b161 hk9 t fa sk l4 l5 l6 l7 l8 (0 : Int32) st hf)
  · rw [if_neg h2] at hf
    exact FR.trans FR.rf (mX5_worth_b161 hk9 t fa sk l4 l5 l6 l7 l8 (1 : Int32) st hf)
set_option maxHeartbeats 1000000 in
theorem mX5_worth_b126 {r0 : Int32} {u0 : St} {k9 : Nat → Nat → Nat → Int32 → Int32 → Int32 → St → Option (Int32 × St)} (hk9 : ∀ (t : Nat) (fa : Nat) (sk : Nat) (l4 : Int32) (l5 : Int32) (l6 : Int32) (st : St), k9 t fa sk l4 l5 l6 st = some (r0, u0) → FR (wX5_worth_S sk) st u0) (t : Nat) (fa : Nat) (sk : Nat) (l4 : Int32) (l5 : Int32) (l6 : Int32) (l7 : Int32) (l8 : Int32) (st : St)  (hf : fX5_worth_b126 k9 t fa sk l4 l5 l6 l7 l8 st = some (r0, u0)) : FR (wX5_worth_S sk) st u0 := by
  unfold fX5_worth_b126 at hf
  by_cases h1 : (1 : Int32) ≤ l5
  · rw [if_pos h1] at hf
    by_cases h2 : l7 = (3 : Int32)
    · rw [if_pos h2] at hf
      exact FR.trans FR.rf (mX5_worth_b147 hk9 t fa sk l4 l5 l6 l7 l8 st hf)
    · rw [if_neg h2] at hf
      rcases (Classical.em (l7 = (4 : Int32))).symm with h3 | h3
      · rw [if_neg h3] at hf
        rcases (Classical.em (l7 = (5 : Int32))).symm with h4 | h4
        · rw [if_neg h4] at hf
          rcases (Classical.em (l7 = 0)).symm with h5 | h5
          · rw [if_neg h5] at hf
            by_cases h6 : (2 : Int32) ≤ l5
            · rw [if_pos h6] at hf
              obtain ⟨h7, hf⟩ := chk_some hf
              obtain ⟨h8, hf⟩ := chk_some hf
              obtain ⟨q9, h10, hf⟩ := bnd_some hf
              exact FR.trans FR.rf (mX5_worth_b285 hk9 t fa sk l4 l5 l6 q9 st hf)
            · rw [if_neg h6] at hf
              exact FR.trans FR.rf (mX5_worth_b285 hk9 t fa sk l4 l5 l6 (-2000000000 : Int32) st hf)
          · rw [if_pos h5] at hf
            obtain ⟨h11, hf⟩ := chk_some hf
            rw [← (Prod.mk.inj (Option.some.inj hf)).2]; exact FR.rf
        · rw [if_pos h4] at hf
          obtain ⟨h12, hf⟩ := chk_some hf
          obtain ⟨h13, hf⟩ := chk_some hf
          exact FR.trans (FR.pI (inS_all (by simp [subS, inS, inA, wX5_worth_S])) FR.rf) (mX5_worth_b311 hk9 t fa sk (l4 + (1 : Int32)) l5 l6 (pI st sk ((l5 - (1 : Int32)).toNatClampNeg) ((1 : Int32) - (sI st sk ((l5 - (1 : Int32)).toNatClampNeg)))) hf)
      · rw [if_pos h3] at hf
        exact FR.trans FR.rf (mX5_worth_b147 hk9 t fa sk l4 l5 l6 l7 l8 st hf)
  · rw [if_neg h1] at hf
    rw [← (Prod.mk.inj (Option.some.inj hf)).2]; exact FR.rf
set_option maxHeartbeats 1000000 in
theorem mX5_worth_b116 {r0 : Int32} {u0 : St} {k9 : Nat → Nat → Nat → Int32 → Int32 → Int32 → St → Option (Int32 × St)} (hk9 : ∀ (t : Nat) (fa : Nat) (sk : Nat) (l4 : Int32) (l5 : Int32) (l6 : Int32) (st : St), k9 t fa sk l4 l5 l6 st = some (r0, u0) → FR (wX5_worth_S sk) st u0) (t : Nat) (fa : Nat) (sk : Nat) (l4 : Int32) (l5 : Int32) (l6 : Int32) (s1 : Int32) (s2 : Int32) (st : St)  (hf : fX5_worth_b116 k9 t fa sk l4 l5 l6 s1 s2 st = some (r0, u0)) : FR (wX5_worth_S sk) st u0 := by
  unfold fX5_worth_b116 at hf
  obtain ⟨h1, hf⟩ := chk_some hf
  exact FR.trans (FR.pI (inS_all (by simp [subS, inS, inA, wX5_worth_S])) FR.rf) (mX5_worth_b311 hk9 t fa sk (l4 + (2 : Int32)) (l5 + (1 : Int32)) l6 (pI st sk s1.toNatClampNeg s2) hf)
set_option maxHeartbeats 1000000 in
theorem mX5_worth_b98 {r0 : Int32} {u0 : St} {k9 : Nat → Nat → Nat → Int32 → Int32 → Int32 → St → Option (Int32 × St)} (hk9 : ∀ (t : Nat) (fa : Nat) (sk : Nat) (l4 : Int32) (l5 : Int32) (l6 : Int32) (st : St), k9 t fa sk l4 l5 l6 st = some (r0, u0) → FR (wX5_worth_S sk) st u0) (t : Nat) (fa : Nat) (sk : Nat) (l4 : Int32) (l5 : Int32) (l6 : Int32) (l7 : Int32) (l8 : Int32) (st : St)  (hf : fX5_worth_b98 k9 t fa sk l4 l5 l6 l7 l8 st = some (r0, u0)) : FR (wX5_worth_S sk) st u0 := by
  unfold fX5_worth_b98 at hf
  rcases (Classical.em (l7 = (1 : Int32))).symm with h1 | h1
  · rw [if_neg h1] at hf
    obtain ⟨h2, hf⟩ := chk_some hf
    exact FR.trans FR.rf (mX5_worth_b116 hk9 t fa sk l4 l5 l6 l5 (sI st fa l8.toNatClampNeg) st hf)
  · rw [if_pos h1] at hf
    exact FR.trans FR.rf (mX5_worth_b116 hk9 t fa sk l4 l5 l6 l5 l8 st hf)
set_option maxHeartbeats 1000000 in
theorem mX5_worth_b72 {r0 : Int32} {u0 : St} {k9 : Nat → Nat → Nat → Int32 → Int32 → Int32 → St → Option (Int32 × St)} (hk9 : ∀ (t : Nat) (fa : Nat) (sk : Nat) (l4 : Int32) (l5 : Int32) (l6 : Int32) (st : St), k9 t fa sk l4 l5 l6 st = some (r0, u0) → FR (wX5_worth_S sk) st u0) (t : Nat) (fa : Nat) (sk : Nat) (l4 : Int32) (l5 : Int32) (l6 : Int32) (l7 : Int32) (s0 : Int32) (st : St)  (hf : fX5_worth_b72 k9 t fa sk l4 l5 l6 l7 s0 st = some (r0, u0)) : FR (wX5_worth_S sk) st u0 := by
  unfold fX5_worth_b72 at hf
  by_cases h1 : l7 = (1 : Int32)
  · rw [if_pos h1] at hf
    exact FR.trans FR.rf (mX5_worth_b98 hk9 t fa sk l4 l5 l6 l7 s0 st hf)
  · rw [if_neg h1] at hf
    rcases (Classical.em (l7 = (2 : Int32))).symm with h2 | h2
    · rw [if_neg h2] at hf
      exact FR.trans FR.rf (mX5_worth_b126 hk9 t fa sk l4 l5 l6 l7 s0 st hf)
    · rw [if_pos h2] at hf
      by_cases h3 : s0 < 0
      · rw [if_pos h3] at hf
        exact FR.trans FR.rf (mX5_worth_b126 hk9 t fa sk l4 l5 l6 l7 s0 st hf)
      · rw [if_neg h3] at hf
        by_cases h4 : (nI (sN st fa)) ≤ s0
        · rw [if_pos h4] at hf
          exact FR.trans FR.rf (mX5_worth_b126 hk9 t fa sk l4 l5 l6 l7 s0 st hf)
        · rw [if_neg h4] at hf
          exact FR.trans FR.rf (mX5_worth_b98 hk9 t fa sk l4 l5 l6 l7 s0 st hf)
set_option maxHeartbeats 1000000 in
theorem mX5_worth_b9 {r0 : Int32} {u0 : St} : ∀ (n : Nat) (t : Nat) (fa : Nat) (sk : Nat) (l4 : Int32) (l5 : Int32) (l6 : Int32) (st : St) , fX5_worth_b9 n t fa sk l4 l5 l6 st = some (r0, u0) → FR (wX5_worth_S sk) st u0 := by
  intro n
  induction n with
  | zero =>
    intros
    rename_i hf
    rw [fX5_worth_b9] at hf
    cases hf
  | succ n ih =>
    intro t fa sk l4 l5 l6 st hf
    rw [fX5_worth_b9] at hf
    by_cases h1 : (sI st t 6) ≤ l6
    · rw [if_pos h1] at hf
      rw [← (Prod.mk.inj (Option.some.inj hf)).2]; exact FR.rf
    · rw [if_neg h1] at hf
      by_cases h2 : l4 ≤ 0
      · rw [if_pos h2] at hf
        rw [← (Prod.mk.inj (Option.some.inj hf)).2]; exact FR.rf
      · rw [if_neg h2] at hf
        by_cases h3 : (sI st t 6) ≤ l4
        · rw [if_pos h3] at hf
          rw [← (Prod.mk.inj (Option.some.inj hf)).2]; exact FR.rf
        · rw [if_neg h3] at hf
          by_cases h4 : (nI (sN st sk)) ≤ l5
          · rw [if_pos h4] at hf
            rw [← (Prod.mk.inj (Option.some.inj hf)).2]; exact FR.rf
          · rw [if_neg h4] at hf
            obtain ⟨h5, hf⟩ := chk_some hf
            by_cases h6 : (sI st t 6) ≤ (l4 + (1 : Int32))
            · rw [if_pos h6] at hf
              exact FR.trans FR.rf (mX5_worth_b72 ih t fa sk l4 l5 l6 (sI st (t + 5) l4.toNatClampNeg) (0 : Int32) st hf)
            · rw [if_neg h6] at hf
              obtain ⟨h7, hf⟩ := chk_some hf
              exact FR.trans FR.rf (mX5_worth_b72 ih t fa sk l4 l5 l6 (sI st (t + 5) l4.toNatClampNeg) (sI st (t + 5) ((l4 + (1 : Int32)).toNatClampNeg)) st hf)
set_option maxHeartbeats 1000000 in
theorem mX5_worth {r0 : Int32} {u0 : St} {t : Nat} {p1 : Int32} {fa : Nat} {sk : Nat} {st : St}  (hf : fX5_worth t p1 fa sk st = some (r0, u0)) : FR (wX5_worth_S sk) st u0 := by
  unfold fX5_worth at hf
  exact FR.trans FR.rf (mX5_worth_b9  FU t fa sk p1 (0 : Int32) (0 : Int32) st hf)
def wX6_lengthOf_S : List (Nat × Option Nat) := [(20, some 0), (20, some 1), (20, some 2), (20, some 3), (20, some 4), (20, some 5), (20, some 6), (21, none)]
set_option maxHeartbeats 1000000 in
theorem mX6_lengthOf_b153 {r0 : Int32} {u0 : St} {k51 : Int32 → Int32 → St → Option (Int32 × St)} (hk51 : ∀ (l4 : Int32) (l5 : Int32) (st : St), k51 l4 l5 st = some (r0, u0) → FR wX6_lengthOf_S st u0) (l4 : Int32) (l5 : Int32) (st : St)  (hf : fX6_lengthOf_b153 k51 l4 l5 st = some (r0, u0)) : FR wX6_lengthOf_S st u0 := by
  unfold fX6_lengthOf_b153 at hf
  exact FR.trans FR.rf (hk51 l4 (l5 + (-1 : Int32)) st hf)
set_option maxHeartbeats 1000000 in
theorem mX6_lengthOf_b107 {r0 : Int32} {u0 : St} {k51 : Int32 → Int32 → St → Option (Int32 × St)} (hk51 : ∀ (l4 : Int32) (l5 : Int32) (st : St), k51 l4 l5 st = some (r0, u0) → FR wX6_lengthOf_S st u0) (l4 : Int32) (l5 : Int32) (st : St)  (hf : fX6_lengthOf_b107 k51 l4 l5 st = some (r0, u0)) : FR wX6_lengthOf_S st u0 := by
  unfold fX6_lengthOf_b107 at hf
  rcases optE_c hf with ⟨_, hf⟩ | ⟨a2, h1, hf⟩
  · exact nomatch hf
  obtain ⟨h4, hf⟩ := chk_some hf
  obtain ⟨q6, h7, hf⟩ := bnd_some hf
  by_cases h8 : q6.1 = (-2000000000 : Int32)
  · rw [if_pos h8] at hf
    exact FR.trans (FR.trans FR.rf (FR.mono (by rfl) (mX5_worth h7))) (mX6_lengthOf_b153 hk51 l4 l5 q6.2 hf)
  · rw [if_neg h8] at hf
    rw [← (Prod.mk.inj (Option.some.inj hf)).2]; exact (FR.trans FR.rf (FR.mono (by rfl) (mX5_worth h7)))
set_option maxHeartbeats 1000000 in
theorem mX6_lengthOf_b51 {r0 : Int32} {u0 : St} : ∀ (n : Nat) (l4 : Int32) (l5 : Int32) (st : St) , fX6_lengthOf_b51 n l4 l5 st = some (r0, u0) → FR wX6_lengthOf_S st u0 := by
  intro n
  induction n with
  | zero =>
    intros
    rename_i hf
    rw [fX6_lengthOf_b51] at hf
    cases hf
  | succ n ih =>
    intro l4 l5 st hf
    rw [fX6_lengthOf_b51] at hf
    by_cases h1 : l5 < 0
    · rw [if_pos h1] at hf
      rw [← (Prod.mk.inj (Option.some.inj hf)).2]; exact FR.rf
    · rw [if_neg h1] at hf
      rcases optE_c hf with ⟨_, hf⟩ | ⟨a3, h2, hf⟩
      · exact nomatch hf
      obtain ⟨h5, hf⟩ := chk_some hf
      rcases optE_c hf with ⟨_, hf⟩ | ⟨a7, h6, hf⟩
      · exact nomatch hf
      obtain ⟨h9, hf⟩ := chk_some hf
      rcases (Classical.em ((sI st (a7 + 1) l5.toNatClampNeg) = 0)).symm with h10 | h10
      · rw [if_neg h10] at hf
        exact FR.trans FR.rf (mX6_lengthOf_b153 ih l4 l5 st hf)
      · rw [if_pos h10] at hf
        by_cases h11 : (sI st (a3 + 4) l5.toNatClampNeg) = 0
        · rw [if_pos h11] at hf
          exact FR.trans FR.rf (mX6_lengthOf_b107 ih l4 l5 st hf)
        · rw [if_neg h11] at hf
          rcases optE_c hf with ⟨_, hf⟩ | ⟨a13, h12, hf⟩
          · exact nomatch hf
          obtain ⟨q16, h17, hf⟩ := bnd_some hf
          rcases (Classical.em (q16.1 = (1 : Int32))).symm with h18 | h18
          · rw [if_neg h18] at hf
            exact FR.trans (FR.trans FR.rf (FR.mono (by rfl) (mX5_worth h17))) (mX6_lengthOf_b153 ih l4 l5 q16.2 hf)
          · rw [if_pos h18] at hf
            exact FR.trans (FR.trans FR.rf (FR.mono (by rfl) (mX5_worth h17))) (mX6_lengthOf_b107 ih l4 l5 q16.2 hf)
set_option maxHeartbeats 1000000 in
theorem mX6_lengthOf {r0 : Int32} {u0 : St} {p1 : Int32} {p2 : Int32} {p3 : Int32} {st : St}  (hf : fX6_lengthOf p1 p2 p3 st = some (r0, u0)) : FR wX6_lengthOf_S st u0 := by
  unfold fX6_lengthOf at hf
  obtain ⟨h1, hf⟩ := chk_some hf
  rcases optE_c hf with ⟨h2, hf⟩ | ⟨a3, h2, hf⟩
  · skip
    rw [← (Prod.mk.inj (Option.some.inj hf)).2]; exact FR.rf
  · skip
    rcases optE_c hf with ⟨_, hf⟩ | ⟨a5, h4, hf⟩
    · exact nomatch hf
    rcases (Classical.em ((fX5_has st a5 (0 : Int32)) = 0)).symm with h8 | h8
    · rw [if_neg h8] at hf
      obtain ⟨q9, h10, hf⟩ := bnd_some hf
      rcases optE_c hf with ⟨_, hf⟩ | ⟨a12, h11, hf⟩
      · exact nomatch hf
      exact FR.trans (FR.trans FR.rf (FR.mono (by rfl) (mX6_gatherFacts h10))) (mX6_lengthOf_b51  FU (sI st 3 p1.toNatClampNeg) ((sI q9 a12 5) - (1 : Int32)) q9 hf)
    · rw [if_pos h8] at hf
      rw [← (Prod.mk.inj (Option.some.inj hf)).2]; exact FR.rf
def wX6_isSo_S : List (Nat × Option Nat) := [(20, some 0), (20, some 1), (20, some 2), (20, some 3), (20, some 4), (20, some 5), (20, some 6), (21, none), (23, none)]
set_option maxHeartbeats 1000000 in
theorem mX6_isSo_b234 {r0 : Int32} {u0 : St} (l1 : Int32) (l8 : Int32) (s1 : Int32) (s2 : Int32) (s3 : Int32) (st : St)  (hf : fX6_isSo_b234 l1 l8 s1 s2 s3 st = some (r0, u0)) : FR wX6_isSo_S st u0 := by
  unfold fX6_isSo_b234 at hf
  obtain ⟨h1, hf⟩ := chk_some hf
  obtain ⟨h2, hf⟩ := chk_some hf
  rw [← (Prod.mk.inj (Option.some.inj hf)).2]; exact (FR.pI (inS_all (by rfl)) FR.rf)
set_option maxHeartbeats 1000000 in
theorem mX6_isSo_b215 {r0 : Int32} {u0 : St} (l1 : Int32) (l6 : Int32) (l7 : Int32) (l8 : Int32) (st : St)  (hf : fX6_isSo_b215 l1 l6 l7 l8 st = some (r0, u0)) : FR wX6_isSo_S st u0 := by
  unfold fX6_isSo_b215 at hf
  by_cases h1 : l8 = 0
  · rw [if_pos h1] at hf
    exact FR.trans FR.rf (mX6_isSo_b234  l1 l8 l6 l7 (1 : Int32) st hf)
  · rw [if_neg h1] at hf
    exact FR.trans FR.rf (mX6_isSo_b234  l1 l8 l6 l7 (17 : Int32) st hf)
set_option maxHeartbeats 1000000 in
theorem mX6_isSo_b207 {r0 : Int32} {u0 : St} {k133 : Int32 → Int32 → Int32 → Int32 → Int32 → St → Option (Int32 × St)} (hk133 : ∀ (l1 : Int32) (l6 : Int32) (l7 : Int32) (l8 : Int32) (l9 : Int32) (st : St), k133 l1 l6 l7 l8 l9 st = some (r0, u0) → FR wX6_isSo_S st u0) (l1 : Int32) (l6 : Int32) (l7 : Int32) (l9 : Int32) (s0 : Int32) (st : St)  (hf : fX6_isSo_b207 k133 l1 l6 l7 l9 s0 st = some (r0, u0)) : FR wX6_isSo_S st u0 := by
  unfold fX6_isSo_b207 at hf
  exact FR.trans FR.rf (hk133 l1 l6 l7 s0 (l9 + (1 : Int32)) st hf)
set_option maxHeartbeats 1000000 in
theorem mX6_isSo_b206 {r0 : Int32} {u0 : St} {k133 : Int32 → Int32 → Int32 → Int32 → Int32 → St → Option (Int32 × St)} (hk133 : ∀ (l1 : Int32) (l6 : Int32) (l7 : Int32) (l8 : Int32) (l9 : Int32) (st : St), k133 l1 l6 l7 l8 l9 st = some (r0, u0) → FR wX6_isSo_S st u0) (l1 : Int32) (l6 : Int32) (l7 : Int32) (l9 : Int32) (st : St)  (hf : fX6_isSo_b206 k133 l1 l6 l7 l9 st = some (r0, u0)) : FR wX6_isSo_S st u0 := by
  unfold fX6_isSo_b206 at hf
  exact FR.trans FR.rf (mX6_isSo_b207 hk133 l1 l6 l7 l9 (0 : Int32) st hf)
set_option maxHeartbeats 1000000 in
theorem mX6_isSo_b202 {r0 : Int32} {u0 : St} {k133 : Int32 → Int32 → Int32 → Int32 → Int32 → St → Option (Int32 × St)} (hk133 : ∀ (l1 : Int32) (l6 : Int32) (l7 : Int32) (l8 : Int32) (l9 : Int32) (st : St), k133 l1 l6 l7 l8 l9 st = some (r0, u0) → FR wX6_isSo_S st u0) (l1 : Int32) (l6 : Int32) (l7 : Int32) (l9 : Int32) (st : St)  (hf : fX6_isSo_b202 k133 l1 l6 l7 l9 st = some (r0, u0)) : FR wX6_isSo_S st u0 := by
  unfold fX6_isSo_b202 at hf
  exact FR.trans FR.rf (mX6_isSo_b207 hk133 l1 l6 l7 l9 (1 : Int32) st hf)
set_option maxHeartbeats 1000000 in
theorem mX6_isSo_b133 {r0 : Int32} {u0 : St} : ∀ (n : Nat) (l1 : Int32) (l6 : Int32) (l7 : Int32) (l8 : Int32) (l9 : Int32) (st : St) , fX6_isSo_b133 n l1 l6 l7 l8 l9 st = some (r0, u0) → FR wX6_isSo_S st u0 := by
  intro n
  induction n with
  | zero =>
    intros
    rename_i hf
    rw [fX6_isSo_b133] at hf
    cases hf
  | succ n ih =>
    intro l1 l6 l7 l8 l9 st hf
    rw [fX6_isSo_b133] at hf
    rcases optE_c hf with ⟨_, hf⟩ | ⟨a2, h1, hf⟩
    · exact nomatch hf
    by_cases h4 : (sI st a2 5) ≤ l9
    · rw [if_pos h4] at hf
      exact FR.trans FR.rf (mX6_isSo_b215  l1 l6 l7 l8 st hf)
    · rw [if_neg h4] at hf
      rcases (Classical.em (l8 = 0)).symm with h5 | h5
      · rw [if_neg h5] at hf
        exact FR.trans FR.rf (mX6_isSo_b215  l1 l6 l7 l8 st hf)
      · rw [if_pos h5] at hf
        rcases optE_c hf with ⟨_, hf⟩ | ⟨a7, h6, hf⟩
        · exact nomatch hf
        obtain ⟨h9, hf⟩ := chk_some hf
        rcases optE_c hf with ⟨_, hf⟩ | ⟨a11, h10, hf⟩
        · exact nomatch hf
        obtain ⟨h13, hf⟩ := chk_some hf
        rcases (Classical.em ((sI st (a11 + 1) l9.toNatClampNeg) = l1)).symm with h14 | h14
        · rw [if_neg h14] at hf
          exact FR.trans FR.rf (mX6_isSo_b206 ih l1 l6 l7 l9 st hf)
        · rw [if_pos h14] at hf
          by_cases h15 : (sI st (a7 + 4) l9.toNatClampNeg) = 0
          · rw [if_pos h15] at hf
            exact FR.trans FR.rf (mX6_isSo_b202 ih l1 l6 l7 l9 st hf)
          · rw [if_neg h15] at hf
            rcases optE_c hf with ⟨_, hf⟩ | ⟨a17, h16, hf⟩
            · exact nomatch hf
            obtain ⟨q20, h21, hf⟩ := bnd_some hf
            rcases (Classical.em (q20.1 = (1 : Int32))).symm with h22 | h22
            · rw [if_neg h22] at hf
              exact FR.trans (FR.trans FR.rf (FR.mono (by rfl) (mX5_worth h21))) (mX6_isSo_b206 ih l1 l6 l7 l9 q20.2 hf)
            · rw [if_pos h22] at hf
              exact FR.trans (FR.trans FR.rf (FR.mono (by rfl) (mX5_worth h21))) (mX6_isSo_b202 ih l1 l6 l7 l9 q20.2 hf)
set_option maxHeartbeats 1000000 in
theorem mX6_isSo_b89 {r0 : Int32} {u0 : St} (l1 : Int32) (l2 : Int32) (l3 : Int32) (l4 : Int32) (l5 : Int32) (l6 : Int32) (s0 : Int32) (st : St)  (hf : fX6_isSo_b89 l1 l2 l3 l4 l5 l6 s0 st = some (r0, u0)) : FR wX6_isSo_S st u0 := by
  unfold fX6_isSo_b89 at hf
  rcases (Classical.em (((jshr s0 l1) &&& (1 : Int32)) = (1 : Int32))).symm with h1 | h1
  · rw [if_neg h1] at hf
    obtain ⟨q2, h3, hf⟩ := bnd_some hf
    exact FR.trans (FR.trans FR.rf (FR.mono (by rfl) (mX6_gatherFacts h3))) (mX6_isSo_b133  FU l1 l6 s0 (0 : Int32) (0 : Int32) q2 hf)
  · rw [if_pos h1] at hf
    by_cases h4 : ((jshr s0 l1) &&& (16 : Int32)) = 0
    · rw [if_pos h4] at hf
      rw [← (Prod.mk.inj (Option.some.inj hf)).2]; exact FR.rf
    · rw [if_neg h4] at hf
      rw [← (Prod.mk.inj (Option.some.inj hf)).2]; exact FR.rf
set_option maxHeartbeats 1000000 in
theorem mX6_isSo {r0 : Int32} {u0 : St} {p1 : Int32} {p2 : Int32} {p3 : Int32} {p4 : Int32} {p5 : Int32} {st : St}  (hf : fX6_isSo p1 p2 p3 p4 p5 st = some (r0, u0)) : FR wX6_isSo_S st u0 := by
  unfold fX6_isSo at hf
  rcases optE_c hf with ⟨h1, hf⟩ | ⟨a2, h1, hf⟩
  · skip
    rw [← (Prod.mk.inj (Option.some.inj hf)).2]; exact FR.rf
  · skip
    rcases optE_c hf with ⟨_, hf⟩ | ⟨a4, h3, hf⟩
    · exact nomatch hf
    by_cases h7 : (fX5_has st a4 p1) = 0
    · rw [if_pos h7] at hf
      rw [← (Prod.mk.inj (Option.some.inj hf)).2]; exact FR.rf
    · rw [if_neg h7] at hf
      by_cases h8 : ((((((p2 * (6 : Int32)) + p3) * (16 : Int32)) + p4) * (7 : Int32)) + p5) < 0
      · rw [if_pos h8] at hf
        rw [← (Prod.mk.inj (Option.some.inj hf)).2]; exact FR.rf
      · rw [if_neg h8] at hf
        by_cases h9 : ((((((p2 * (6 : Int32)) + p3) * (16 : Int32)) + p4) * (7 : Int32)) + p5) < (3360 : Int32)
        · rw [if_pos h9] at hf
          obtain ⟨h10, hf⟩ := chk_some hf
          rcases (Classical.em ((jshr (sI st 23 (((((((p2 * (6 : Int32)) + p3) * (16 : Int32)) + p4) * (7 : Int32)) + p5).toNatClampNeg)) (8 : Int32)) = (sI st 19 6))).symm with h11 | h11
          · rw [if_neg h11] at hf
            exact FR.trans FR.rf (mX6_isSo_b89  p1 p2 p3 p4 p5 ((((((p2 * (6 : Int32)) + p3) * (16 : Int32)) + p4) * (7 : Int32)) + p5) (jshl (sI st 19 6) (8 : Int32)) st hf)
          · rw [if_pos h11] at hf
            obtain ⟨h12, hf⟩ := chk_some hf
            exact FR.trans FR.rf (mX6_isSo_b89  p1 p2 p3 p4 p5 ((((((p2 * (6 : Int32)) + p3) * (16 : Int32)) + p4) * (7 : Int32)) + p5) (sI st 23 (((((((p2 * (6 : Int32)) + p3) * (16 : Int32)) + p4) * (7 : Int32)) + p5).toNatClampNeg)) st hf)
        · rw [if_neg h9] at hf
          rw [← (Prod.mk.inj (Option.some.inj hf)).2]; exact FR.rf
def wX6_speak_S : List (Nat × Option Nat) := [(19, some 10), (20, some 0), (20, some 1), (20, some 2), (20, some 3), (20, some 4), (20, some 5), (20, some 6), (21, none), (22, none), (23, none)]
set_option maxHeartbeats 1000000 in
theorem mX6_speak_b150 {r0 : Int32} {u0 : St} (l3 : Int32) (l5 : Int32) (l6 : Int32) (st : St)  (hf : fX6_speak_b150 l3 l5 l6 st = some (r0, u0)) : FR wX6_speak_S st u0 := by
  unfold fX6_speak_b150 at hf
  obtain ⟨q1, h2, hf⟩ := bnd_some hf
  by_cases h3 : q1.1 = 0
  · rw [if_pos h3] at hf
    rw [← (Prod.mk.inj (Option.some.inj hf)).2]; exact (FR.trans FR.rf (FR.mono (by rfl) (mX6_isSo h2)))
  · rw [if_neg h3] at hf
    rw [← (Prod.mk.inj (Option.some.inj hf)).2]; exact (FR.trans FR.rf (FR.mono (by rfl) (mX6_isSo h2)))
set_option maxHeartbeats 1000000 in
theorem mX6_speak_b144 {r0 : Int32} {u0 : St} {k40 : Int32 → Int32 → Int32 → Int32 → Int32 → Int32 → St → Option (Int32 × St)} (hk40 : ∀ (l1 : Int32) (l3 : Int32) (l5 : Int32) (l6 : Int32) (l7 : Int32) (l8 : Int32) (st : St), k40 l1 l3 l5 l6 l7 l8 st = some (r0, u0) → FR wX6_speak_S st u0) (l1 : Int32) (l3 : Int32) (l5 : Int32) (l6 : Int32) (l7 : Int32) (l8 : Int32) (st : St)  (hf : fX6_speak_b144 k40 l1 l3 l5 l6 l7 l8 st = some (r0, u0)) : FR wX6_speak_S st u0 := by
  unfold fX6_speak_b144 at hf
  exact FR.trans FR.rf (hk40 l1 l3 l5 l6 l7 (l8 + (1 : Int32)) st hf)
set_option maxHeartbeats 1000000 in
theorem mX6_speak_b115 {r0 : Int32} {u0 : St} {k40 : Int32 → Int32 → Int32 → Int32 → Int32 → Int32 → St → Option (Int32 × St)} (hk40 : ∀ (l1 : Int32) (l3 : Int32) (l5 : Int32) (l6 : Int32) (l7 : Int32) (l8 : Int32) (st : St), k40 l1 l3 l5 l6 l7 l8 st = some (r0, u0) → FR wX6_speak_S st u0) (l1 : Int32) (l3 : Int32) (l5 : Int32) (l6 : Int32) (l7 : Int32) (l8 : Int32) (st : St)  (hf : fX6_speak_b115 k40 l1 l3 l5 l6 l7 l8 st = some (r0, u0)) : FR wX6_speak_S st u0 := by
  unfold fX6_speak_b115 at hf
  obtain ⟨h1, hf⟩ := chk_some hf
  obtain ⟨q2, h3, hf⟩ := bnd_some hf
  by_cases h4 : q2.1 = 0
  · rw [if_pos h4] at hf
    exact FR.trans (FR.trans (FR.pI (inS_all (by rfl)) FR.rf) (FR.mono (by rfl) (mX6_isSo h3))) (mX6_speak_b144 hk40 l1 l3 l5 l6 l7 l8 q2.2 hf)
  · rw [if_neg h4] at hf
    exact FR.trans (FR.trans (FR.pI (inS_all (by rfl)) FR.rf) (FR.mono (by rfl) (mX6_isSo h3))) (mX6_speak_b144 hk40 l1 l3 l5 l6 (-l7) l8 q2.2 hf)
set_option maxHeartbeats 1000000 in
theorem mX6_speak_b76 {r0 : Int32} {u0 : St} {k40 : Int32 → Int32 → Int32 → Int32 → Int32 → Int32 → St → Option (Int32 × St)} (hk40 : ∀ (l1 : Int32) (l3 : Int32) (l5 : Int32) (l6 : Int32) (l7 : Int32) (l8 : Int32) (st : St), k40 l1 l3 l5 l6 l7 l8 st = some (r0, u0) → FR wX6_speak_S st u0) : ∀ (n : Nat) (l1 : Int32) (l3 : Int32) (l5 : Int32) (l6 : Int32) (l7 : Int32) (l8 : Int32) (l9 : Int32) (st : St) , fX6_speak_b76 k40 n l1 l3 l5 l6 l7 l8 l9 st = some (r0, u0) → FR wX6_speak_S st u0 := by
  intro n
  induction n with
  | zero =>
    intros
    rename_i hf
    rw [fX6_speak_b76] at hf
    cases hf
  | succ n ih =>
    intro l1 l3 l5 l6 l7 l8 l9 st hf
    rw [fX6_speak_b76] at hf
    by_cases h1 : l5 ≤ l9
    · rw [if_pos h1] at hf
      exact FR.trans FR.rf (mX6_speak_b115 hk40 l1 l3 l5 l6 l7 l8 st hf)
    · rw [if_neg h1] at hf
      obtain ⟨q2, h3, hf⟩ := bnd_some hf
      by_cases h4 : q2.1 = 0
      · rw [if_pos h4] at hf
        exact FR.trans (FR.trans FR.rf (FR.mono (by rfl) (mX6_isSo h3))) (mX6_speak_b115 hk40 l1 l3 l5 l6 l7 l8 q2.2 hf)
      · rw [if_neg h4] at hf
        obtain ⟨q5, h6, hf⟩ := bnd_some hf
        exact FR.trans (FR.trans FR.rf (FR.mono (by rfl) (mX6_isSo h3))) (ih l1 l3 l5 q5 l7 l8 (l9 + (1 : Int32)) q2.2 hf)
set_option maxHeartbeats 1000000 in
theorem mX6_speak_b73 {r0 : Int32} {u0 : St} {k40 : Int32 → Int32 → Int32 → Int32 → Int32 → Int32 → St → Option (Int32 × St)} (hk40 : ∀ (l1 : Int32) (l3 : Int32) (l5 : Int32) (l6 : Int32) (l7 : Int32) (l8 : Int32) (st : St), k40 l1 l3 l5 l6 l7 l8 st = some (r0, u0) → FR wX6_speak_S st u0) (l1 : Int32) (l3 : Int32) (l5 : Int32) (l6 : Int32) (l7 : Int32) (l8 : Int32) (st : St)  (hf : fX6_speak_b73 k40 l1 l3 l5 l6 l7 l8 st = some (r0, u0)) : FR wX6_speak_S st u0 := by
  unfold fX6_speak_b73 at hf
  exact FR.trans FR.rf (mX6_speak_b76 hk40 FU l1 l3 l5 l6 l7 l8 (0 : Int32) st hf)
set_option maxHeartbeats 1000000 in
theorem mX6_speak_b40 {r0 : Int32} {u0 : St} : ∀ (n : Nat) (l1 : Int32) (l3 : Int32) (l5 : Int32) (l6 : Int32) (l7 : Int32) (l8 : Int32) (st : St) , fX6_speak_b40 n l1 l3 l5 l6 l7 l8 st = some (r0, u0) → FR wX6_speak_S st u0 := by
  intro n
  induction n with
  | zero =>
    intros
    rename_i hf
    rw [fX6_speak_b40] at hf
    cases hf
  | succ n ih =>
    intro l1 l3 l5 l6 l7 l8 st hf
    rw [fX6_speak_b40] at hf
    by_cases h1 : (sI st 19 10) < l8
    · rw [if_pos h1] at hf
      exact FR.trans FR.rf (mX6_speak_b150  l3 l5 l6 st hf)
    · rw [if_neg h1] at hf
      by_cases h2 : (15 : Int32) < l8
      · rw [if_pos h2] at hf
        exact FR.trans FR.rf (mX6_speak_b150  l3 l5 l6 st hf)
      · rw [if_neg h2] at hf
        by_cases h3 : l8 ≤ (1 : Int32)
        · rw [if_pos h3] at hf
          exact FR.trans FR.rf (mX6_speak_b73 ih l1 l3 l5 l6 l7 l8 st hf)
        · rw [if_neg h3] at hf
          obtain ⟨q4, h5, hf⟩ := bnd_some hf
          exact FR.trans FR.rf (mX6_speak_b73 ih l1 l3 l5 q4 l7 l8 st hf)
set_option maxHeartbeats 1000000 in
theorem mX6_speak {r0 : Int32} {u0 : St} {p1 : Int32} {p2 : Int32} {p3 : Int32} {p4 : Int32} {st : St}  (hf : fX6_speak p1 p2 p3 p4 st = some (r0, u0)) : FR wX6_speak_S st u0 := by
  unfold fX6_speak at hf
  obtain ⟨q1, h2, hf⟩ := bnd_some hf
  obtain ⟨q3, h4, hf⟩ := bnd_some hf
  exact FR.trans (FR.pI (by rfl) (FR.trans FR.rf (FR.mono (by rfl) (mX6_lengthOf h4)))) (mX6_speak_b40  FU p1 p3 (fJ6_bitCount_0f7a4 p1) q1 (1 : Int32) (1 : Int32) (pI q3.2 19 10 (jmax (1 : Int32) (q3.1 - p4))) hf)
def wX0_stateBehindDraws_S : List (Nat × Option Nat) := [(19, some 10), (20, some 0), (20, some 1), (20, some 2), (20, some 3), (20, some 4), (20, some 5), (20, some 6), (21, none), (22, none), (23, none), (33, some 5)]
set_option maxHeartbeats 1000000 in
theorem mX0_stateBehindDraws_b35 {r0 : Int32} {u0 : St} (l1 : Int32) (l2 : Int32) (s0 : Int32) (st : St)  (hf : fX0_stateBehindDraws_b35 l1 l2 s0 st = some (r0, u0)) : FR wX0_stateBehindDraws_S st u0 := by
  unfold fX0_stateBehindDraws_b35 at hf
  obtain ⟨q1, h2, hf⟩ := bnd_some hf
  rw [← (Prod.mk.inj (Option.some.inj hf)).2]; exact (FR.trans FR.rf (FR.mono (by rfl) (mX6_speak h2)))
set_option maxHeartbeats 1000000 in
theorem mX0_stateBehindDraws {r0 : Int32} {u0 : St} {p1 : Int32} {st : St}  (hf : fX0_stateBehindDraws p1 st = some (r0, u0)) : FR wX0_stateBehindDraws_S st u0 := by
  unfold fX0_stateBehindDraws at hf
  obtain ⟨q1, h2, hf⟩ := bnd_some hf
  obtain ⟨q3, h4, hf⟩ := bnd_some hf
  by_cases h5 : (sI q3.2 5 2) ≤ q3.1
  · rw [if_pos h5] at hf
    exact FR.trans (FR.trans (FR.trans FR.rf (FR.mono (by rfl) (mX0_draw h2))) (FR.mono (by rfl) (mX0_draw h4))) (mX0_stateBehindDraws_b35  p1 q1.1 (0 : Int32) q3.2 hf)
  · rw [if_neg h5] at hf
    exact FR.trans (FR.trans (FR.trans FR.rf (FR.mono (by rfl) (mX0_draw h2))) (FR.mono (by rfl) (mX0_draw h4))) (mX0_stateBehindDraws_b35  p1 q1.1 (1 : Int32) q3.2 hf)
def wX0_run_S : List (Nat × Option Nat) := [(19, some 10), (19, some 6), (19, some 7), (19, some 8), (19, some 9), (20, some 0), (20, some 1), (20, some 2), (20, some 3), (20, some 4), (20, some 5), (20, some 6), (21, none), (22, none), (23, none), (24, none), (33, some 3), (33, some 4), (33, some 5), (34, none)]
set_option maxHeartbeats 1000000 in
theorem mX0_run_b165 {r0 : Int32} {u0 : St} (l4 : Int32) (l5 : Int32) (st : St)  (hf : fX0_run_b165 l4 l5 st = some (r0, u0)) : FR wX0_run_S st u0 := by
  unfold fX0_run_b165 at hf
  rw [← (Prod.mk.inj (Option.some.inj hf)).2]; exact (FR.pI (by rfl) FR.rf)
set_option maxHeartbeats 1000000 in
theorem mX0_run_b159 {r0 : Int32} {u0 : St} {k50 : Int32 → Int32 → Int32 → Int32 → Int32 → St → Option (Int32 × St)} (hk50 : ∀ (l2 : Int32) (l3 : Int32) (l4 : Int32) (l5 : Int32) (l6 : Int32) (st : St), k50 l2 l3 l4 l5 l6 st = some (r0, u0) → FR wX0_run_S st u0) (l2 : Int32) (l3 : Int32) (l4 : Int32) (l5 : Int32) (l6 : Int32) (st : St)  (hf : fX0_run_b159 k50 l2 l3 l4 l5 l6 st = some (r0, u0)) : FR wX0_run_S st u0 := by
  unfold fX0_run_b159 at hf
  exact FR.trans FR.rf (hk50 l2 l3 l4 l5 (l6 + (1 : Int32)) st hf)
set_option maxHeartbeats 1000000 in
theorem mX0_run_b103 {r0 : Int32} {u0 : St} {k50 : Int32 → Int32 → Int32 → Int32 → Int32 → St → Option (Int32 × St)} (hk50 : ∀ (l2 : Int32) (l3 : Int32) (l4 : Int32) (l5 : Int32) (l6 : Int32) (st : St), k50 l2 l3 l4 l5 l6 st = some (r0, u0) → FR wX0_run_S st u0) (l2 : Int32) (l3 : Int32) (l4 : Int32) (l5 : Int32) (l6 : Int32) (st : St)  (hf : fX0_run_b103 k50 l2 l3 l4 l5 l6 st = some (r0, u0)) : FR wX0_run_S st u0 := by
  unfold fX0_run_b103 at hf
  obtain ⟨q1, h2, hf⟩ := bnd_some hf
  obtain ⟨q4, h5, hf⟩ := bnd_some hf
  obtain ⟨q6, h7, hf⟩ := bnd_some hf
  by_cases h8 : (fX1_onlyOneIn q6.1) < 0
  · rw [if_pos h8] at hf
    exact FR.trans (FR.trans (FR.trans FR.rf (FR.mono (by rfl) (mX6_tune h5))) (FR.mono (by rfl) (mX0_stateBehindDraws h7))) (mX0_run_b159 hk50 l2 l3 q6.1 l5 l6 q6.2 hf)
  · rw [if_neg h8] at hf
    by_cases h9 : (6 : Int32) ≤ (fX1_onlyOneIn q6.1)
    · rw [if_pos h9] at hf
      exact FR.trans (FR.trans (FR.trans FR.rf (FR.mono (by rfl) (mX6_tune h5))) (FR.mono (by rfl) (mX0_stateBehindDraws h7))) (mX0_run_b159 hk50 l2 l3 q6.1 l5 l6 q6.2 hf)
    · rw [if_neg h9] at hf
      obtain ⟨h10, hf⟩ := chk_some hf
      obtain ⟨h11, hf⟩ := chk_some hf
      exact FR.trans (FR.pI (inS_all (by rfl)) (FR.trans (FR.trans FR.rf (FR.mono (by rfl) (mX6_tune h5))) (FR.mono (by rfl) (mX0_stateBehindDraws h7)))) (mX0_run_b159 hk50 l2 l3 q6.1 l5 l6 (pI q6.2 34 ((fX1_onlyOneIn q6.1).toNatClampNeg) ((sI q6.2 34 ((fX1_onlyOneIn q6.1).toNatClampNeg)) + (1 : Int32))) hf)
set_option maxHeartbeats 1000000 in
theorem mX0_run_b50 {r0 : Int32} {u0 : St} : ∀ (n : Nat) (l2 : Int32) (l3 : Int32) (l4 : Int32) (l5 : Int32) (l6 : Int32) (st : St) , fX0_run_b50 n l2 l3 l4 l5 l6 st = some (r0, u0) → FR wX0_run_S st u0 := by
  intro n
  induction n with
  | zero =>
    intros
    rename_i hf
    rw [fX0_run_b50] at hf
    cases hf
  | succ n ih =>
    intro l2 l3 l4 l5 l6 st hf
    rw [fX0_run_b50] at hf
    by_cases h1 : l2 ≤ l6
    · rw [if_pos h1] at hf
      exact FR.trans FR.rf (mX0_run_b165  l4 l5 st hf)
    · rw [if_neg h1] at hf
      rcases (Classical.em ((fX1_goesOn l4) = 0)).symm with h2 | h2
      · rw [if_neg h2] at hf
        exact FR.trans FR.rf (mX0_run_b103 ih l2 l3 l4 l5 l6 st hf)
      · rw [if_pos h2] at hf
        by_cases h3 : l3 < (999 : Int32)
        · rw [if_pos h3] at hf
          rcases (Classical.em ((fX1_goesOn ((fX4_everyone st) * (6 : Int32))) = 0)).symm with h4 | h4
          · rw [if_neg h4] at hf
            exact FR.trans FR.rf (mX0_run_b103 ih l2 (l3 + (1 : Int32)) ((fX4_everyone st) * (6 : Int32)) (l5 + (1 : Int32)) l6 st hf)
          · rw [if_pos h4] at hf
            exact FR.trans FR.rf (mX0_run_b165  ((fX4_everyone st) * (6 : Int32)) (l5 + (1 : Int32)) st hf)
        · rw [if_neg h3] at hf
          exact FR.trans FR.rf (mX0_run_b165  l4 l5 st hf)
set_option maxHeartbeats 1000000 in
theorem mX0_run {r0 : Int32} {u0 : St} {p1 : Int32} {p2 : Int32} {st : St}  (hf : fX0_run p1 p2 st = some (r0, u0)) : FR wX0_run_S st u0 := by
  unfold fX0_run at hf
  obtain ⟨q1, h2, hf⟩ := bnd_some hf
  obtain ⟨q4, h5, hf⟩ := bnd_some hf
  exact FR.trans (FR.trans (FR.pI (by rfl) (FR.pL (by rfl) FR.rf)) (FR.mono (by rfl) (mJ7_fill_53178 h5))) (mX0_run_b50  FU p2 (sI st 5 0) q1 (0 : Int32) (0 : Int32) q4 hf)
def wX6_after_S : List (Nat × Option Nat) := [(19, some 10), (20, some 0), (20, some 1), (20, some 2), (20, some 3), (20, some 4), (20, some 5), (20, some 6), (21, none), (22, none), (23, none), (24, none)]
set_option maxHeartbeats 1000000 in
theorem mX6_after_b83 {r0 : Int32} {u0 : St} (l3 : Int32) (st : St)  (hf : fX6_after_b83 l3 st = some (r0, u0)) : FR wX6_after_S st u0 := by
  unfold fX6_after_b83 at hf
  obtain ⟨h1, hf⟩ := chk_some hf
  rw [← (Prod.mk.inj (Option.some.inj hf)).2]; exact FR.rf
set_option maxHeartbeats 1000000 in
theorem mX6_after {r0 : Int32} {u0 : St} {p1 : Int32} {p2 : Int32} {st : St}  (hf : fX6_after p1 p2 st = some (r0, u0)) : FR wX6_after_S st u0 := by
  unfold fX6_after at hf
  by_cases h1 : ((p2 * (384 : Int32)) + p1) < 0
  · rw [if_pos h1] at hf
    rw [← (Prod.mk.inj (Option.some.inj hf)).2]; exact FR.rf
  · rw [if_neg h1] at hf
    by_cases h2 : ((p2 * (384 : Int32)) + p1) < (1920 : Int32)
    · rw [if_pos h2] at hf
      obtain ⟨h3, hf⟩ := chk_some hf
      by_cases h4 : ((sI st 24 (((p2 * (384 : Int32)) + p1).toNatClampNeg)) / (384 : Int32)) = (sI st 19 6)
      · rw [if_pos h4] at hf
        exact FR.trans FR.rf (mX6_after_b83  ((p2 * (384 : Int32)) + p1) st hf)
      · rw [if_neg h4] at hf
        obtain ⟨q5, h6, hf⟩ := bnd_some hf
        obtain ⟨h7, hf⟩ := chk_some hf
        exact FR.trans (FR.pI (inS_all (by rfl)) (FR.trans FR.rf (FR.mono (by rfl) (mX6_speak h6)))) (mX6_after_b83  ((p2 * (384 : Int32)) + p1) (pI q5.2 24 (((p2 * (384 : Int32)) + p1).toNatClampNeg) (((sI q5.2 19 6) * (384 : Int32)) + (fX6_stateBehind q5.2 (p1 / (6 : Int32)) q5.1))) hf)
    · rw [if_neg h2] at hf
      rw [← (Prod.mk.inj (Option.some.inj hf)).2]; exact FR.rf
def wX1_lastBy_S : List (Nat × Option Nat) := [(19, some 10), (20, some 0), (20, some 1), (20, some 2), (20, some 3), (20, some 4), (20, some 5), (20, some 6), (21, none), (22, none), (23, none), (24, none), (25, some 9), (26, none)]
set_option maxHeartbeats 1000000 in
theorem mX1_lastBy_b99 {r0 : Int32} {u0 : St} (l3 : Int32) (st : St)  (hf : fX1_lastBy_b99 l3 st = some (r0, u0)) : FR wX1_lastBy_S st u0 := by
  unfold fX1_lastBy_b99 at hf
  rw [← (Prod.mk.inj (Option.some.inj hf)).2]; exact FR.rf
set_option maxHeartbeats 1000000 in
theorem mX1_lastBy_b90 {r0 : Int32} {u0 : St} {k10 : Int32 → Int32 → Int32 → St → Option (Int32 × St)} (hk10 : ∀ (l2 : Int32) (l3 : Int32) (l4 : Int32) (st : St), k10 l2 l3 l4 st = some (r0, u0) → FR wX1_lastBy_S st u0) (l2 : Int32) (l4 : Int32) (l5 : Int32) (st : St)  (hf : fX1_lastBy_b90 k10 l2 l4 l5 st = some (r0, u0)) : FR wX1_lastBy_S st u0 := by
  unfold fX1_lastBy_b90 at hf
  exact FR.trans FR.rf (hk10 l2 l5 (l4 + (1 : Int32)) st hf)
set_option maxHeartbeats 1000000 in
theorem mX1_lastBy_b10 {r0 : Int32} {u0 : St} : ∀ (n : Nat) (l2 : Int32) (l3 : Int32) (l4 : Int32) (st : St) , fX1_lastBy_b10 n l2 l3 l4 st = some (r0, u0) → FR wX1_lastBy_S st u0 := by
  intro n
  induction n with
  | zero =>
    intros
    rename_i hf
    rw [fX1_lastBy_b10] at hf
    cases hf
  | succ n ih =>
    intro l2 l3 l4 st hf
    rw [fX1_lastBy_b10] at hf
    by_cases h1 : (60 : Int32) ≤ l4
    · rw [if_pos h1] at hf
      exact FR.trans FR.rf (mX1_lastBy_b99  l3 st hf)
    · rw [if_neg h1] at hf
      by_cases h2 : (fX1_goesOn l3) = 0
      · rw [if_pos h2] at hf
        exact FR.trans FR.rf (mX1_lastBy_b99  l3 st hf)
      · rw [if_neg h2] at hf
        obtain ⟨q3, h4, hf⟩ := bnd_some hf
        by_cases h5 : ((l3 / (6 : Int32)) &&& ((q3.1 / (6 : Int32)) ^^^ (-1 : Int32))) = 0
        · rw [if_pos h5] at hf
          exact FR.trans (FR.trans FR.rf (FR.mono (by rfl) (mX6_after h4))) (mX1_lastBy_b90 ih l2 l4 q3.1 q3.2 hf)
        · rw [if_neg h5] at hf
          by_cases h6 : (6 : Int32) ≤ (sI q3.2 25 9)
          · rw [if_pos h6] at hf
            exact FR.trans (FR.trans FR.rf (FR.mono (by rfl) (mX6_after h4))) (mX1_lastBy_b90 ih l2 l4 q3.1 q3.2 hf)
          · rw [if_neg h6] at hf
            obtain ⟨h7, hf⟩ := chk_some hf
            exact FR.trans (FR.pI (by rfl) (FR.pI (inS_all (by rfl)) (FR.trans FR.rf (FR.mono (by rfl) (mX6_after h4))))) (mX1_lastBy_b90 ih l2 l4 q3.1 (pI (pI q3.2 26 ((sI q3.2 25 9).toNatClampNeg) (fJ6_numberOfTrailingZeros_0f7a4 ((l3 / (6 : Int32)) &&& ((q3.1 / (6 : Int32)) ^^^ (-1 : Int32))))) 25 9 ((sI (pI q3.2 26 ((sI q3.2 25 9).toNatClampNeg) (fJ6_numberOfTrailingZeros_0f7a4 ((l3 / (6 : Int32)) &&& ((q3.1 / (6 : Int32)) ^^^ (-1 : Int32))))) 25 9) + (1 : Int32))) hf)
set_option maxHeartbeats 1000000 in
theorem mX1_lastBy {r0 : Int32} {u0 : St} {p1 : Int32} {p2 : Int32} {st : St}  (hf : fX1_lastBy p1 p2 st = some (r0, u0)) : FR wX1_lastBy_S st u0 := by
  unfold fX1_lastBy at hf
  exact FR.trans (FR.pI (by rfl) FR.rf) (mX1_lastBy_b10  FU p2 p1 (0 : Int32) (pI st 25 9 (0 : Int32)) hf)
def wX1_reach_S : List (Nat × Option Nat) := [(19, some 10), (20, some 0), (20, some 1), (20, some 2), (20, some 3), (20, some 4), (20, some 5), (20, some 6), (21, none), (22, none), (23, none), (24, none), (25, some 10), (27, some 0), (27, none), (28, none)]
set_option maxHeartbeats 1000000 in
theorem mX1_reach_b176 {r0 : Int32} {u0 : St} {k40 : Int32 → Int32 → St → Option (Int32 × St)} (hk40 : ∀ (l2 : Int32) (l3 : Int32) (st : St), k40 l2 l3 st = some (r0, u0) → FR wX1_reach_S st u0) (l2 : Int32) (l3 : Int32) (st : St)  (hf : fX1_reach_b176 k40 l2 l3 st = some (r0, u0)) : FR wX1_reach_S st u0 := by
  unfold fX1_reach_b176 at hf
  exact FR.trans FR.rf (hk40 l2 (l3 + (1 : Int32)) st hf)
set_option maxHeartbeats 1000000 in
theorem mX1_reach_b170 {r0 : Int32} {u0 : St} {k40 : Int32 → Int32 → St → Option (Int32 × St)} (hk40 : ∀ (l2 : Int32) (l3 : Int32) (st : St), k40 l2 l3 st = some (r0, u0) → FR wX1_reach_S st u0) {k66 : Int32 → Int32 → Int32 → Int32 → St → Option (Int32 × St)} (hk66 : ∀ (l2 : Int32) (l3 : Int32) (l4 : Int32) (l5 : Int32) (st : St), k66 l2 l3 l4 l5 st = some (r0, u0) → FR wX1_reach_S st u0) (l2 : Int32) (l3 : Int32) (l4 : Int32) (l5 : Int32) (st : St)  (hf : fX1_reach_b170 k40 k66 l2 l3 l4 l5 st = some (r0, u0)) : FR wX1_reach_S st u0 := by
  unfold fX1_reach_b170 at hf
  exact FR.trans FR.rf (hk66 l2 l3 l4 (l5 + (1 : Int32)) st hf)
set_option maxHeartbeats 1000000 in
theorem mX1_reach_b66 {r0 : Int32} {u0 : St} {k40 : Int32 → Int32 → St → Option (Int32 × St)} (hk40 : ∀ (l2 : Int32) (l3 : Int32) (st : St), k40 l2 l3 st = some (r0, u0) → FR wX1_reach_S st u0) : ∀ (n : Nat) (l2 : Int32) (l3 : Int32) (l4 : Int32) (l5 : Int32) (st : St) , fX1_reach_b66 k40 n l2 l3 l4 l5 st = some (r0, u0) → FR wX1_reach_S st u0 := by
  intro n
  induction n with
  | zero =>
    intros
    rename_i hf
    rw [fX1_reach_b66] at hf
    cases hf
  | succ n ih =>
    intro l2 l3 l4 l5 st hf
    rw [fX1_reach_b66] at hf
    by_cases h1 : (sI st 1 6) ≤ l5
    · rw [if_pos h1] at hf
      exact FR.trans FR.rf (mX1_reach_b176 hk40 l2 l3 st hf)
    · rw [if_neg h1] at hf
      by_cases h2 : (fX1_goesOn l4) = 0
      · rw [if_pos h2] at hf
        exact FR.trans FR.rf (mX1_reach_b176 hk40 l2 l3 st hf)
      · rw [if_neg h2] at hf
        obtain ⟨q3, h4, hf⟩ := bnd_some hf
        obtain ⟨h5, hf⟩ := chk_some hf
        rcases (Classical.em ((sI q3.2 28 q3.1.toNatClampNeg) = (-1 : Int32))).symm with h6 | h6
        · rw [if_neg h6] at hf
          exact FR.trans (FR.trans FR.rf (FR.mono (by rfl) (mX6_after h4))) (mX1_reach_b170 hk40 ih l2 l3 l4 l5 q3.2 hf)
        · rw [if_pos h6] at hf
          by_cases h7 : (sI q3.2 25 10) < (384 : Int32)
          · rw [if_pos h7] at hf
            obtain ⟨h8, hf⟩ := chk_some hf
            obtain ⟨h9, hf⟩ := chk_some hf
            rcases (Classical.em ((q3.1 / (6 : Int32)) = l2)).symm with h10 | h10
            · rw [if_neg h10] at hf
              exact FR.trans (FR.pI (by rfl) (FR.pI (inS_all (by rfl)) (FR.pI (inS_all (by rfl)) (FR.trans FR.rf (FR.mono (by rfl) (mX6_after h4)))))) (mX1_reach_b170 hk40 ih l2 l3 l4 l5 (pI (pI (pI q3.2 28 q3.1.toNatClampNeg ((l4 * (5 : Int32)) + l5)) 27 ((sI (pI q3.2 28 q3.1.toNatClampNeg ((l4 * (5 : Int32)) + l5)) 25 10).toNatClampNeg) q3.1) 25 10 ((sI (pI (pI q3.2 28 q3.1.toNatClampNeg ((l4 * (5 : Int32)) + l5)) 27 ((sI (pI q3.2 28 q3.1.toNatClampNeg ((l4 * (5 : Int32)) + l5)) 25 10).toNatClampNeg) q3.1) 25 10) + (1 : Int32))) hf)
            · rw [if_pos h10] at hf
              rw [← (Prod.mk.inj (Option.some.inj hf)).2]; exact (FR.pI (by rfl) (FR.pI (inS_all (by rfl)) (FR.pI (inS_all (by rfl)) (FR.trans FR.rf (FR.mono (by rfl) (mX6_after h4))))))
          · rw [if_neg h7] at hf
            exact FR.trans (FR.trans FR.rf (FR.mono (by rfl) (mX6_after h4))) (mX1_reach_b170 hk40 ih l2 l3 l4 l5 q3.2 hf)
set_option maxHeartbeats 1000000 in
theorem mX1_reach_b40 {r0 : Int32} {u0 : St} : ∀ (n : Nat) (l2 : Int32) (l3 : Int32) (st : St) , fX1_reach_b40 n l2 l3 st = some (r0, u0) → FR wX1_reach_S st u0 := by
  intro n
  induction n with
  | zero =>
    intros
    rename_i hf
    rw [fX1_reach_b40] at hf
    cases hf
  | succ n ih =>
    intro l2 l3 st hf
    rw [fX1_reach_b40] at hf
    by_cases h1 : (sI st 25 10) ≤ l3
    · rw [if_pos h1] at hf
      rw [← (Prod.mk.inj (Option.some.inj hf)).2]; exact FR.rf
    · rw [if_neg h1] at hf
      by_cases h2 : (384 : Int32) ≤ l3
      · rw [if_pos h2] at hf
        rw [← (Prod.mk.inj (Option.some.inj hf)).2]; exact FR.rf
      · rw [if_neg h2] at hf
        obtain ⟨h3, hf⟩ := chk_some hf
        exact FR.trans FR.rf (mX1_reach_b66 ih FU l2 l3 (sI st 27 l3.toNatClampNeg) (0 : Int32) st hf)
set_option maxHeartbeats 1000000 in
theorem mX1_reach {r0 : Int32} {u0 : St} {p1 : Int32} {p2 : Int32} {st : St}  (hf : fX1_reach p1 p2 st = some (r0, u0)) : FR wX1_reach_S st u0 := by
  unfold fX1_reach at hf
  obtain ⟨q2, h3, hf⟩ := bnd_some hf
  obtain ⟨h4, hf⟩ := chk_some hf
  rcases (Classical.em ((p1 / (6 : Int32)) = p2)).symm with h5 | h5
  · rw [if_neg h5] at hf
    exact FR.trans (FR.pI (by rfl) (FR.pI (by rfl) (FR.pI (inS_all (by rfl)) (FR.trans FR.rf (FR.mono (by rfl) (mJ7_fill_53178 h3)))))) (mX1_reach_b40  FU p2 (0 : Int32) (pI (pI (pI q2 28 p1.toNatClampNeg (-2 : Int32)) 27 0 p1) 25 10 (1 : Int32)) hf)
  · rw [if_pos h5] at hf
    rw [← (Prod.mk.inj (Option.some.inj hf)).2]; exact (FR.pI (by rfl) (FR.pI (by rfl) (FR.pI (inS_all (by rfl)) (FR.trans FR.rf (FR.mono (by rfl) (mJ7_fill_53178 h3))))))
def wX1_choose_S : List (Nat × Option Nat) := [(19, some 10), (20, some 0), (20, some 1), (20, some 2), (20, some 3), (20, some 4), (20, some 5), (20, some 6), (21, none), (22, none), (23, none), (24, none)]
set_option maxHeartbeats 1000000 in
theorem mX1_choose_b19 {r0 : Int32} {u0 : St} : ∀ (n : Nat) (l1 : Int32) (l2 : Nat) (l3 : Int32) (l4 : Int32) (st : St) , fX1_choose_b19 n l1 l2 l3 l4 st = some (r0, u0) → FR wX1_choose_S st u0 := by
  intro n
  induction n with
  | zero =>
    intros
    rename_i hf
    rw [fX1_choose_b19] at hf
    cases hf
  | succ n ih =>
    intro l1 l2 l3 l4 st hf
    rw [fX1_choose_b19] at hf
    by_cases h1 : (sI st 1 6) ≤ l4
    · rw [if_pos h1] at hf
      rw [← (Prod.mk.inj (Option.some.inj hf)).2]; exact FR.rf
    · rw [if_neg h1] at hf
      obtain ⟨q2, h3, hf⟩ := bnd_some hf
      obtain ⟨h4, hf⟩ := chk_some hf
      by_cases h5 : (sI q2.2 l2 q2.1.toNatClampNeg) = l3
      · rw [if_pos h5] at hf
        exact FR.trans (FR.trans FR.rf (FR.mono (by simp [inS, inA, subS, wX1_choose_S, wX6_after_S]) (mX6_after h3))) (ih l1 l2 l3 (l4 + (1 : Int32)) q2.2 hf)
      · rw [if_neg h5] at hf
        rw [← (Prod.mk.inj (Option.some.inj hf)).2]; exact (FR.trans FR.rf (FR.mono (by simp [inS, inA, subS, wX1_choose_S, wX6_after_S]) (mX6_after h3)))
set_option maxHeartbeats 1000000 in
theorem mX1_choose {r0 : Int32} {u0 : St} {p1 : Int32} {ar : Nat} {st : St}  (hf : fX1_choose p1 ar st = some (r0, u0)) : FR wX1_choose_S st u0 := by
  unfold fX1_choose at hf
  obtain ⟨q1, h2, hf⟩ := bnd_some hf
  exact FR.trans FR.rf (mX1_choose_b19  FU p1 ar q1 (0 : Int32) st hf)
def wJ7_fill_d0a16_S (ar : Nat) : List (Nat × Option Nat) := [(ar, none)]
set_option maxHeartbeats 1000000 in
theorem mJ7_fill_d0a16_b6 {u0 : St} : ∀ (n : Nat) (ar : Nat) (l1 : Int64) (l3 : Int32) (l4 : Int32) (st : St) , fJ7_fill_d0a16_b6 n ar l1 l3 l4 st = some u0 → FR (wJ7_fill_d0a16_S ar) st u0 := by
  intro n
  induction n with
  | zero =>
    intros
    rename_i hf
    rw [fJ7_fill_d0a16_b6] at hf
    cases hf
  | succ n ih =>
    intro ar l1 l3 l4 st hf
    rw [fJ7_fill_d0a16_b6] at hf
    by_cases h1 : l4 ≤ l3
    · rw [if_pos h1] at hf
      rw [← Option.some.inj hf]; exact FR.rf
    · rw [if_neg h1] at hf
      obtain ⟨h2, hf⟩ := chk_some hf
      exact FR.trans (FR.pL (inS_all (by simp [subS, inS, inA, wJ7_fill_d0a16_S])) FR.rf) (ih ar l1 (l3 + (1 : Int32)) l4 (pL st ar l3.toNatClampNeg l1) hf)
set_option maxHeartbeats 1000000 in
theorem mJ7_fill_d0a16 {u0 : St} {ar : Nat} {p1 : Int64} {st : St}  (hf : fJ7_fill_d0a16 ar p1 st = some u0) : FR (wJ7_fill_d0a16_S ar) st u0 := by
  unfold fJ7_fill_d0a16 at hf
  exact FR.trans FR.rf (mJ7_fill_d0a16_b6  FU ar p1 (0 : Int32) (nI (sN st ar)) st hf)
def wX1_leadsHere_S : List (Nat × Option Nat) := [(19, some 10), (20, some 0), (20, some 1), (20, some 2), (20, some 3), (20, some 4), (20, some 5), (20, some 6), (21, none), (22, none), (23, none), (24, none)]
set_option maxHeartbeats 1000000 in
theorem mX1_leadsHere_b16 {r0 : Int32} {u0 : St} : ∀ (n : Nat) (l1 : Int32) (l3 : Int32) (l4 : Int32) (st : St) , fX1_leadsHere_b16 n l1 l3 l4 st = some (r0, u0) → FR wX1_leadsHere_S st u0 := by
  intro n
  induction n with
  | zero =>
    intros
    rename_i hf
    rw [fX1_leadsHere_b16] at hf
    cases hf
  | succ n ih =>
    intro l1 l3 l4 st hf
    rw [fX1_leadsHere_b16] at hf
    by_cases h1 : l4 < 0
    · rw [if_pos h1] at hf
      rcases (Classical.em (l3 = (((sI st 1 5) * (6 : Int32)) + (sI st 5 1)))).symm with h2 | h2
      · rw [if_neg h2] at hf
        rw [← (Prod.mk.inj (Option.some.inj hf)).2]; exact FR.rf
      · rw [if_pos h2] at hf
        rw [← (Prod.mk.inj (Option.some.inj hf)).2]; exact FR.rf
    · rw [if_neg h1] at hf
      rcases (Classical.em ((fX1_goesOn l3) = 0)).symm with h3 | h3
      · rw [if_neg h3] at hf
        obtain ⟨q4, h5, hf⟩ := bnd_some hf
        obtain ⟨q6, h7, hf⟩ := bnd_some hf
        exact FR.trans (FR.trans FR.rf (FR.mono (by rfl) (mX6_after h7))) (ih l1 q6.1 (l4 + (-1 : Int32)) q6.2 hf)
      · rw [if_pos h3] at hf
        rw [← (Prod.mk.inj (Option.some.inj hf)).2]; exact FR.rf
set_option maxHeartbeats 1000000 in
theorem mX1_leadsHere {r0 : Int32} {u0 : St} {p1 : Int32} {p2 : Int32} {st : St}  (hf : fX1_leadsHere p1 p2 st = some (r0, u0)) : FR wX1_leadsHere_S st u0 := by
  unfold fX1_leadsHere at hf
  exact FR.trans FR.rf (mX1_leadsHere_b16  FU p1 ((fX4_everyone st) * (6 : Int32)) (p2 - (1 : Int32)) st hf)
def wX1_rowsSaid_S : List (Nat × Option Nat) := [(19, some 10), (20, some 0), (20, some 1), (20, some 2), (20, some 3), (20, some 4), (20, some 5), (20, some 6), (21, none), (22, none), (23, none), (24, none)]
set_option maxHeartbeats 1000000 in
theorem mX1_rowsSaid_b61 {r0 : Int32} {u0 : St} {k33 : Int32 → Int32 → Int32 → Int32 → Int32 → St → Option (Int32 × St)} (hk33 : ∀ (l1 : Int32) (l2 : Int32) (l3 : Int32) (l4 : Int32) (l5 : Int32) (st : St), k33 l1 l2 l3 l4 l5 st = some (r0, u0) → FR wX1_rowsSaid_S st u0) (l1 : Int32) (l2 : Int32) (l3 : Int32) (l4 : Int32) (l5 : Int32) (st : St)  (hf : fX1_rowsSaid_b61 k33 l1 l2 l3 l4 l5 st = some (r0, u0)) : FR wX1_rowsSaid_S st u0 := by
  unfold fX1_rowsSaid_b61 at hf
  exact FR.trans FR.rf (hk33 l1 l2 l3 l4 (l5 + (1 : Int32)) st hf)
set_option maxHeartbeats 1000000 in
theorem mX1_rowsSaid_b33 {r0 : Int32} {u0 : St} : ∀ (n : Nat) (l1 : Int32) (l2 : Int32) (l3 : Int32) (l4 : Int32) (l5 : Int32) (st : St) , fX1_rowsSaid_b33 n l1 l2 l3 l4 l5 st = some (r0, u0) → FR wX1_rowsSaid_S st u0 := by
  intro n
  induction n with
  | zero =>
    intros
    rename_i hf
    rw [fX1_rowsSaid_b33] at hf
    cases hf
  | succ n ih =>
    intro l1 l2 l3 l4 l5 st hf
    rw [fX1_rowsSaid_b33] at hf
    by_cases h1 : l3 ≤ l5
    · rw [if_pos h1] at hf
      rcases (Classical.em (l2 = (-1 : Int32))).symm with h2 | h2
      · rw [if_neg h2] at hf
        rw [← (Prod.mk.inj (Option.some.inj hf)).2]; exact FR.rf
      · rw [if_pos h2] at hf
        rw [← (Prod.mk.inj (Option.some.inj hf)).2]; exact FR.rf
    · rw [if_neg h1] at hf
      obtain ⟨q3, h4, hf⟩ := bnd_some hf
      by_cases h5 : q3.1 = 0
      · rw [if_pos h5] at hf
        exact FR.trans (FR.trans FR.rf (FR.mono (by rfl) (mX1_leadsHere h4))) (mX1_rowsSaid_b61 ih l1 l2 l3 l4 l5 q3.2 hf)
      · rw [if_neg h5] at hf
        rcases (Classical.em (l4 = l2)).symm with h6 | h6
        · rw [if_neg h6] at hf
          exact FR.trans (FR.trans FR.rf (FR.mono (by rfl) (mX1_leadsHere h4))) (mX1_rowsSaid_b61 ih l1 l2 l3 (l4 + (1 : Int32)) l5 q3.2 hf)
        · rw [if_pos h6] at hf
          rw [← (Prod.mk.inj (Option.some.inj hf)).2]; exact (FR.trans FR.rf (FR.mono (by rfl) (mX1_leadsHere h4)))
set_option maxHeartbeats 1000000 in
theorem mX1_rowsSaid_b5 {r0 : Int32} {u0 : St} : ∀ (n : Nat) (l1 : Int32) (l2 : Int32) (l3 : Int32) (l4 : Int32) (st : St) , fX1_rowsSaid_b5 n l1 l2 l3 l4 st = some (r0, u0) → FR wX1_rowsSaid_S st u0 := by
  intro n
  induction n with
  | zero =>
    intros
    rename_i hf
    rw [fX1_rowsSaid_b5] at hf
    cases hf
  | succ n ih =>
    intro l1 l2 l3 l4 st hf
    rw [fX1_rowsSaid_b5] at hf
    by_cases h1 : l1 ≤ l4
    · rw [if_pos h1] at hf
      exact FR.trans FR.rf (mX1_rowsSaid_b33  FU l1 l2 l3 (0 : Int32) (0 : Int32) st hf)
    · rw [if_neg h1] at hf
      exact FR.trans FR.rf (ih l1 l2 (l3 * (sI st 1 6)) (l4 + (1 : Int32)) st hf)
set_option maxHeartbeats 1000000 in
theorem mX1_rowsSaid {r0 : Int32} {u0 : St} {p1 : Int32} {p2 : Int32} {st : St}  (hf : fX1_rowsSaid p1 p2 st = some (r0, u0)) : FR wX1_rowsSaid_S st u0 := by
  unfold fX1_rowsSaid at hf
  exact FR.trans FR.rf (mX1_rowsSaid_b5  FU p1 p2 (1 : Int32) (0 : Int32) st hf)
def wX2_forget_S : List (Nat × Option Nat) := [(15, some 1)]
set_option maxHeartbeats 1000000 in
theorem mX2_forget {u0 : St}  {st : St}  (hf : fX2_forget st = some u0) : FR wX2_forget_S st u0 := by
  unfold fX2_forget at hf
  rw [← Option.some.inj hf]; exact (FR.pI (by rfl) FR.rf)
def wX2_becomes_S (t : Nat) : List (Nat × Option Nat) := [((t + 1), none), (t, some 1)]
set_option maxHeartbeats 1000000 in
theorem mX2_becomes {u0 : St} {t : Nat} {o : Nat} {st : St}  (hf : fX2_becomes t o st = some u0) : FR (wX2_becomes_S t) st u0 := by
  unfold fX2_becomes at hf
  rw [← Option.some.inj hf]; exact (FR.pI (by simp [subS, inS, inA, wX2_becomes_S]) (FR.rI (inS_all (by simp [subS, inS, inA, wX2_becomes_S])) FR.rf))
def wX2_keep_S : List (Nat × Option Nat) := [(15, some 1), (16, none)]
set_option maxHeartbeats 1000000 in
theorem mX2_keep_b30 {u0 : St} (l1 : Int32) (st : St)  (hf : fX2_keep_b30 l1 st = some u0) : FR wX2_keep_S st u0 := by
  unfold fX2_keep_b30 at hf
  obtain ⟨h1, hf⟩ := chk_some hf
  rw [← Option.some.inj hf]; exact (FR.pI (by rfl) (FR.pI (inS_all (by rfl)) FR.rf))
set_option maxHeartbeats 1000000 in
theorem mX2_keep {u0 : St} {p1 : Int32} {st : St}  (hf : fX2_keep p1 st = some u0) : FR wX2_keep_S st u0 := by
  unfold fX2_keep at hf
  by_cases h1 : (sI st 15 1) < (16 : Int32)
  · rw [if_pos h1] at hf
    exact FR.trans FR.rf (mX2_keep_b30  p1 st hf)
  · rw [if_neg h1] at hf
    exact FR.trans (FR.pI (by rfl) (FR.rI (inS_all (by rfl)) FR.rf)) (mX2_keep_b30  p1 (pI (rI st 16 (va_cpy (sI st 16) (sI st 16) (1 : Int32).toNatClampNeg (0 : Int32).toNatClampNeg (15 : Int32).toNatClampNeg)) 15 1 (15 : Int32)) hf)
def wX4_settle_S : List (Nat × Option Nat) := [(1, some 5), (5, some 1)]
set_option maxHeartbeats 1000000 in
theorem mX4_settle {u0 : St} {p1 : Int32} {st : St}  (hf : fX4_settle p1 st = some u0) : FR wX4_settle_S st u0 := by
  unfold fX4_settle at hf
  rw [← Option.some.inj hf]; exact (FR.pI (by rfl) (FR.pI (by rfl) FR.rf))
def wX2_takeBack_S : List (Nat × Option Nat) := [(1, some 5), (15, some 1), (5, some 0), (5, some 1)]
set_option maxHeartbeats 1000000 in
theorem mX2_takeBack {r0 : Int32} {u0 : St}  {st : St}  (hf : fX2_takeBack st = some (r0, u0)) : FR wX2_takeBack_S st u0 := by
  unfold fX2_takeBack at hf
  rcases (Classical.em ((sI st 15 1) = 0)).symm with h1 | h1
  · rw [if_neg h1] at hf
    obtain ⟨h2, hf⟩ := chk_some hf
    obtain ⟨q3, h4, hf⟩ := bnd_some hf
    rw [← (Prod.mk.inj (Option.some.inj hf)).2]; exact (FR.pI (by rfl) (FR.trans (FR.pI (by rfl) FR.rf) (FR.mono (by rfl) (mX4_settle h4))))
  · rw [if_pos h1] at hf
    rw [← (Prod.mk.inj (Option.some.inj hf)).2]; exact FR.rf
def wX3_append_S : List (Nat × Option Nat) := [(7, some 2), (8, none)]
set_option maxHeartbeats 1000000 in
theorem mX3_append_b3 {u0 : St} : ∀ (n : Nat) (l1 : Int32) (l2 : Int32) (st : St) , fX3_append_b3 n l1 l2 st = some u0 → FR wX3_append_S st u0 := by
  intro n
  induction n with
  | zero =>
    intros
    rename_i hf
    rw [fX3_append_b3] at hf
    cases hf
  | succ n ih =>
    intro l1 l2 st hf
    rw [fX3_append_b3] at hf
    by_cases h1 : l2 < 0
    · rw [if_pos h1] at hf
      rw [← Option.some.inj hf]; exact FR.rf
    · rw [if_neg h1] at hf
      by_cases h2 : (400 : Int32) ≤ (sI st 7 2)
      · rw [if_pos h2] at hf
        rw [← Option.some.inj hf]; exact FR.rf
      · rw [if_neg h2] at hf
        obtain ⟨h3, hf⟩ := chk_some hf
        exact FR.trans (FR.pI (by rfl) (FR.pI (inS_all (by rfl)) FR.rf)) (ih l1 (l2 + (-8 : Int32)) (pI (pI st 8 ((sI st 7 2).toNatClampNeg) (vp_nar .byte (i2b (jshr l1 l2)))) 7 2 ((sI (pI st 8 ((sI st 7 2).toNatClampNeg) (vp_nar .byte (i2b (jshr l1 l2)))) 7 2) + (1 : Int32))) hf)
set_option maxHeartbeats 1000000 in
theorem mX3_append {u0 : St} {p1 : Int32} {st : St}  (hf : fX3_append p1 st = some u0) : FR wX3_append_S st u0 := by
  unfold fX3_append at hf
  exact FR.trans FR.rf (mX3_append_b3  FU p1 (24 : Int32) st hf)
def wX5_clear_S : List (Nat × Option Nat) := [(9, some 5), (9, some 6), (9, some 7)]
set_option maxHeartbeats 1000000 in
theorem mX5_clear {u0 : St}  {st : St}  (hf : fX5_clear st = some u0) : FR wX5_clear_S st u0 := by
  unfold fX5_clear at hf
  rw [← Option.some.inj hf]; exact (FR.pI (by rfl) (FR.pI (by rfl) (FR.pI (by rfl) FR.rf)))
def wX3_step_S : List (Nat × Option Nat) := [(7, some 5), (7, some 6), (7, some 7), (7, some 8)]
set_option maxHeartbeats 1000000 in
theorem mX3_step_b186 {u0 : St} (l1 : Int32) (st : St)  (hf : fX3_step_b186 l1 st = some u0) : FR wX3_step_S st u0 := by
  unfold fX3_step_b186 at hf
  rcases (Classical.em ((sI st 7 5) = (1 : Int32))).symm with h1 | h1
  · rw [if_neg h1] at hf
    rw [← Option.some.inj hf]; exact (FR.pI (by rfl) FR.rf)
  · rw [if_pos h1] at hf
    rw [← Option.some.inj hf]; exact (FR.pI (by rfl) FR.rf)
set_option maxHeartbeats 1000000 in
theorem mX3_step_b177 {u0 : St} {k99 : Int32 → St → Option St} (hk99 : ∀ (l1 : Int32) (st : St), k99 l1 st = some u0 → FR wX3_step_S st u0) (l1 : Int32) (s1 : Int32) (st : St)  (hf : fX3_step_b177 k99 l1 s1 st = some u0) : FR wX3_step_S st u0 := by
  unfold fX3_step_b177 at hf
  exact FR.trans (FR.pI (by rfl) FR.rf) (hk99 (l1 + (1 : Int32)) (pI st 7 8 s1) hf)
set_option maxHeartbeats 1000000 in
theorem mX3_step_b99 {u0 : St} : ∀ (n : Nat) (l1 : Int32) (st : St) , fX3_step_b99 n l1 st = some u0 → FR wX3_step_S st u0 := by
  intro n
  induction n with
  | zero =>
    intros
    rename_i hf
    rw [fX3_step_b99] at hf
    cases hf
  | succ n ih =>
    intro l1 st hf
    rw [fX3_step_b99] at hf
    by_cases h1 : (sI st 7 5) = (2 : Int32)
    · rw [if_pos h1] at hf
      exact FR.trans FR.rf (mX3_step_b186  l1 st hf)
    · rw [if_neg h1] at hf
      by_cases h2 : (sI st 7 2) ≤ l1
      · rw [if_pos h2] at hf
        exact FR.trans FR.rf (mX3_step_b186  l1 st hf)
      · rw [if_neg h2] at hf
        obtain ⟨h3, hf⟩ := chk_some hf
        by_cases h4 : (sI st 8 l1.toNatClampNeg) < (48 : Int32)
        · rw [if_pos h4] at hf
          exact FR.trans FR.rf (mX3_step_b186  l1 st hf)
        · rw [if_neg h4] at hf
          obtain ⟨h5, hf⟩ := chk_some hf
          by_cases h6 : (57 : Int32) < (sI st 8 l1.toNatClampNeg)
          · rw [if_pos h6] at hf
            exact FR.trans FR.rf (mX3_step_b186  l1 st hf)
          · rw [if_neg h6] at hf
            by_cases h7 : (sI (pI st 7 5 (3 : Int32)) 7 8) ≤ (1000 : Int32)
            · rw [if_pos h7] at hf
              obtain ⟨h8, hf⟩ := chk_some hf
              exact FR.trans (FR.pI (by rfl) FR.rf) (mX3_step_b177 ih l1 ((((sI (pI st 7 5 (3 : Int32)) 7 8) * (10 : Int32)) + (sI (pI st 7 5 (3 : Int32)) 8 l1.toNatClampNeg)) - (48 : Int32)) (pI st 7 5 (3 : Int32)) hf)
            · rw [if_neg h7] at hf
              exact FR.trans (FR.pI (by rfl) FR.rf) (mX3_step_b177 ih l1 (sI (pI st 7 5 (3 : Int32)) 7 8) (pI st 7 5 (3 : Int32)) hf)
set_option maxHeartbeats 1000000 in
theorem mX3_step_b58 {u0 : St} : ∀ (n : Nat) (l1 : Int32) (st : St) , fX3_step_b58 n l1 st = some u0 → FR wX3_step_S st u0 := by
  intro n
  induction n with
  | zero =>
    intros
    rename_i hf
    rw [fX3_step_b58] at hf
    cases hf
  | succ n ih =>
    intro l1 st hf
    rw [fX3_step_b58] at hf
    by_cases h1 : (sI st 7 2) ≤ l1
    · rw [if_pos h1] at hf
      exact FR.trans FR.rf (mX3_step_b99  FU l1 st hf)
    · rw [if_neg h1] at hf
      obtain ⟨h2, hf⟩ := chk_some hf
      by_cases h3 : (sI st 8 l1.toNatClampNeg) < (97 : Int32)
      · rw [if_pos h3] at hf
        exact FR.trans FR.rf (mX3_step_b99  FU l1 st hf)
      · rw [if_neg h3] at hf
        obtain ⟨h4, hf⟩ := chk_some hf
        by_cases h5 : (122 : Int32) < (sI st 8 l1.toNatClampNeg)
        · rw [if_pos h5] at hf
          exact FR.trans FR.rf (mX3_step_b99  FU l1 st hf)
        · rw [if_neg h5] at hf
          exact FR.trans (FR.pI (by rfl) FR.rf) (ih (l1 + (1 : Int32)) (pI st 7 5 (2 : Int32)) hf)
set_option maxHeartbeats 1000000 in
theorem mX3_step_b30 {u0 : St} (l1 : Int32) (st : St)  (hf : fX3_step_b30 l1 st = some u0) : FR wX3_step_S st u0 := by
  unfold fX3_step_b30 at hf
  by_cases h1 : (sI (pI (pI (pI st 7 6 l1) 7 8 (0 : Int32)) 7 5 (0 : Int32)) 7 2) ≤ l1
  · rw [if_pos h1] at hf
    rw [← Option.some.inj hf]; exact (FR.pI (by rfl) (FR.pI (by rfl) (FR.pI (by rfl) (FR.pI (by rfl) FR.rf))))
  · rw [if_neg h1] at hf
    exact FR.trans (FR.pI (by rfl) (FR.pI (by rfl) (FR.pI (by rfl) (FR.pI (by rfl) FR.rf)))) (mX3_step_b58  FU l1 (pI (pI (pI (pI st 7 6 l1) 7 8 (0 : Int32)) 7 5 (0 : Int32)) 7 5 (1 : Int32)) hf)
set_option maxHeartbeats 1000000 in
theorem mX3_step_b5 {u0 : St} : ∀ (n : Nat) (l1 : Int32) (st : St) , fX3_step_b5 n l1 st = some u0 → FR wX3_step_S st u0 := by
  intro n
  induction n with
  | zero =>
    intros
    rename_i hf
    rw [fX3_step_b5] at hf
    cases hf
  | succ n ih =>
    intro l1 st hf
    rw [fX3_step_b5] at hf
    by_cases h1 : (sI st 7 2) ≤ l1
    · rw [if_pos h1] at hf
      exact FR.trans FR.rf (mX3_step_b30  l1 st hf)
    · rw [if_neg h1] at hf
      obtain ⟨h2, hf⟩ := chk_some hf
      rcases (Classical.em ((sI st 8 l1.toNatClampNeg) = (32 : Int32))).symm with h3 | h3
      · rw [if_neg h3] at hf
        exact FR.trans FR.rf (mX3_step_b30  l1 st hf)
      · rw [if_pos h3] at hf
        exact FR.trans FR.rf (ih (l1 + (1 : Int32)) st hf)
set_option maxHeartbeats 1000000 in
theorem mX3_step {u0 : St}  {st : St}  (hf : fX3_step st = some u0) : FR wX3_step_S st u0 := by
  unfold fX3_step at hf
  exact FR.trans FR.rf (mX3_step_b5  FU (sI st 7 7) st hf)
def wX5_put_S : List (Nat × Option Nat) := [(14, none), (9, some 6)]
set_option maxHeartbeats 1000000 in
theorem mX5_put {u0 : St} {p1 : Int32} {st : St}  (hf : fX5_put p1 st = some u0) : FR wX5_put_S st u0 := by
  unfold fX5_put at hf
  by_cases h1 : (826 : Int32) ≤ (sI st 9 6)
  · rw [if_pos h1] at hf
    rw [← Option.some.inj hf]; exact FR.rf
  · rw [if_neg h1] at hf
    obtain ⟨h2, hf⟩ := chk_some hf
    rw [← Option.some.inj hf]; exact (FR.pI (by rfl) (FR.pI (inS_all (by rfl)) FR.rf))
def wG3 : List (Nat × Option Nat) := [(14, none), (7, some 4), (7, some 5), (7, some 6), (7, some 7), (7, some 8), (9, some 6)]
def RmOK3 (rc : TG3) : Prop := (∀ {st : St} {p1 : Int32} {r0 : Int32} {u0 : St}, rc.1 p1 st = some (r0, u0) → FR wG3 st u0) ∧ (∀ {st : St} {p1 : Int32} {r0 : Int32} {u0 : St}, rc.2 p1 st = some (r0, u0) → FR wG3 st u0)
set_option maxHeartbeats 1000000 in
theorem mX3_sum_b131 {rc : TG3} (hrm : RmOK3 rc) {r0 : Int32} {u0 : St} {k4 : Int32 → Int32 → Int32 → St → Option (Int32 × St)} (hk4 : ∀ (l1 : Int32) (l2 : Int32) (l3 : Int32) (st : St), k4 l1 l2 l3 st = some (r0, u0) → FR wG3 st u0) (l1 : Int32) (l3 : Int32) (st : St)  (hf : fX3_sum_b131 rc k4 l1 l3 st = some (r0, u0)) : FR wG3 st u0 := by
  unfold fX3_sum_b131 at hf
  obtain ⟨h1, hf⟩ := chk_some hf
  obtain ⟨q2, h3, hf⟩ := bnd_some hf
  exact FR.trans (FR.trans FR.rf (FR.mono (by rfl) (mX3_step h3))) (hk4 l1 (sI st 8 ((sI st 7 6).toNatClampNeg)) (l3 + (1 : Int32)) q2 hf)
set_option maxHeartbeats 1000000 in
theorem mX3_sum_b111 {rc : TG3} (hrm : RmOK3 rc) {r0 : Int32} {u0 : St} {k4 : Int32 → Int32 → Int32 → St → Option (Int32 × St)} (hk4 : ∀ (l1 : Int32) (l2 : Int32) (l3 : Int32) (st : St), k4 l1 l2 l3 st = some (r0, u0) → FR wG3 st u0) (l1 : Int32) (l3 : Int32) (st : St)  (hf : fX3_sum_b111 rc k4 l1 l3 st = some (r0, u0)) : FR wG3 st u0 := by
  unfold fX3_sum_b111 at hf
  obtain ⟨q1, h2, hf⟩ := bnd_some hf
  rcases (Classical.em (q1 = 0)).symm with h3 | h3
  · rw [if_neg h3] at hf
    exact FR.trans FR.rf (mX3_sum_b131 hrm hk4 l1 l3 st hf)
  · rw [if_pos h3] at hf
    obtain ⟨q4, h5, hf⟩ := bnd_some hf
    rcases (Classical.em (q4 = 0)).symm with h6 | h6
    · rw [if_neg h6] at hf
      exact FR.trans FR.rf (mX3_sum_b131 hrm hk4 l1 l3 st hf)
    · rw [if_pos h6] at hf
      rw [← (Prod.mk.inj (Option.some.inj hf)).2]; exact FR.rf
set_option maxHeartbeats 1000000 in
theorem mX3_sum_b99 {rc : TG3} (hrm : RmOK3 rc) {r0 : Int32} {u0 : St} {k4 : Int32 → Int32 → Int32 → St → Option (Int32 × St)} (hk4 : ∀ (l1 : Int32) (l2 : Int32) (l3 : Int32) (st : St), k4 l1 l2 l3 st = some (r0, u0) → FR wG3 st u0) (l1 : Int32) (l2 : Int32) (l3 : Int32) (st : St)  (hf : fX3_sum_b99 rc k4 l1 l2 l3 st = some (r0, u0)) : FR wG3 st u0 := by
  unfold fX3_sum_b99 at hf
  by_cases h1 : l2 = 0
  · rw [if_pos h1] at hf
    exact FR.trans FR.rf (mX3_sum_b111 hrm hk4 l1 l3 st hf)
  · rw [if_neg h1] at hf
    obtain ⟨q2, h3, hf⟩ := bnd_some hf
    exact FR.trans (FR.trans FR.rf (FR.mono (by rfl) (mX5_put h3))) (mX3_sum_b111 hrm hk4 l1 l3 q2 hf)
set_option maxHeartbeats 1000000 in
theorem mX3_sum_b59 {rc : TG3} (hrm : RmOK3 rc) {r0 : Int32} {u0 : St} {k4 : Int32 → Int32 → Int32 → St → Option (Int32 × St)} (hk4 : ∀ (l1 : Int32) (l2 : Int32) (l3 : Int32) (st : St), k4 l1 l2 l3 st = some (r0, u0) → FR wG3 st u0) {k24 : Int32 → Int32 → Int32 → Int32 → St → Option (Int32 × St)} (hk24 : ∀ (l1 : Int32) (l2 : Int32) (l3 : Int32) (l4 : Int32) (st : St), k24 l1 l2 l3 l4 st = some (r0, u0) → FR wG3 st u0) (l1 : Int32) (l2 : Int32) (l3 : Int32) (l4 : Int32) (st : St)  (hf : fX3_sum_b59 rc k4 k24 l1 l2 l3 l4 st = some (r0, u0)) : FR wG3 st u0 := by
  unfold fX3_sum_b59 at hf
  obtain ⟨h1, hf⟩ := chk_some hf
  obtain ⟨q2, h3, hf⟩ := bnd_some hf
  obtain ⟨q4, h5, hf⟩ := bnd_some hf
  rcases (Classical.em (q4.1 = 0)).symm with h6 | h6
  · rw [if_neg h6] at hf
    obtain ⟨q7, h8, hf⟩ := bnd_some hf
    exact FR.trans (FR.trans (FR.trans (FR.trans FR.rf (FR.mono (by rfl) (mX3_step h3))) (hrm.2 h5)) (FR.mono (by rfl) (mX5_put h8))) (hk24 l1 l2 l3 (l4 + (1 : Int32)) q7 hf)
  · rw [if_pos h6] at hf
    rw [← (Prod.mk.inj (Option.some.inj hf)).2]; exact (FR.trans (FR.trans FR.rf (FR.mono (by rfl) (mX3_step h3))) (hrm.2 h5))
set_option maxHeartbeats 1000000 in
theorem mX3_sum_b24 {rc : TG3} (hrm : RmOK3 rc) {r0 : Int32} {u0 : St} {k4 : Int32 → Int32 → Int32 → St → Option (Int32 × St)} (hk4 : ∀ (l1 : Int32) (l2 : Int32) (l3 : Int32) (st : St), k4 l1 l2 l3 st = some (r0, u0) → FR wG3 st u0) : ∀ (n : Nat) (l1 : Int32) (l2 : Int32) (l3 : Int32) (l4 : Int32) (st : St) , fX3_sum_b24 rc k4 n l1 l2 l3 l4 st = some (r0, u0) → FR wG3 st u0 := by
  intro n
  induction n with
  | zero =>
    intros
    rename_i hf
    rw [fX3_sum_b24] at hf
    cases hf
  | succ n ih =>
    intro l1 l2 l3 l4 st hf
    rw [fX3_sum_b24] at hf
    by_cases h1 : (400 : Int32) ≤ l4
    · rw [if_pos h1] at hf
      exact FR.trans FR.rf (mX3_sum_b99 hrm hk4 l1 l2 l3 st hf)
    · rw [if_neg h1] at hf
      obtain ⟨q2, h3, hf⟩ := bnd_some hf
      rcases (Classical.em (q2 = 0)).symm with h4 | h4
      · rw [if_neg h4] at hf
        exact FR.trans FR.rf (mX3_sum_b59 hrm hk4 ih l1 l2 l3 l4 st hf)
      · rw [if_pos h4] at hf
        obtain ⟨q5, h6, hf⟩ := bnd_some hf
        rcases (Classical.em (q5 = 0)).symm with h7 | h7
        · rw [if_neg h7] at hf
          exact FR.trans FR.rf (mX3_sum_b59 hrm hk4 ih l1 l2 l3 l4 st hf)
        · rw [if_pos h7] at hf
          obtain ⟨q8, h9, hf⟩ := bnd_some hf
          by_cases h10 : q8 = 0
          · rw [if_pos h10] at hf
            exact FR.trans FR.rf (mX3_sum_b99 hrm hk4 l1 l2 l3 st hf)
          · rw [if_neg h10] at hf
            exact FR.trans FR.rf (mX3_sum_b59 hrm hk4 ih l1 l2 l3 l4 st hf)
set_option maxHeartbeats 1000000 in
theorem mX3_sum_b4 {rc : TG3} (hrm : RmOK3 rc) {r0 : Int32} {u0 : St} : ∀ (n : Nat) (l1 : Int32) (l2 : Int32) (l3 : Int32) (st : St) , fX3_sum_b4 rc n l1 l2 l3 st = some (r0, u0) → FR wG3 st u0 := by
  intro n
  induction n with
  | zero =>
    intros
    rename_i hf
    rw [fX3_sum_b4] at hf
    cases hf
  | succ n ih =>
    intro l1 l2 l3 st hf
    rw [fX3_sum_b4] at hf
    by_cases h1 : (400 : Int32) ≤ l3
    · rw [if_pos h1] at hf
      rw [← (Prod.mk.inj (Option.some.inj hf)).2]; exact FR.rf
    · rw [if_neg h1] at hf
      obtain ⟨q2, h3, hf⟩ := bnd_some hf
      rcases (Classical.em (q2.1 = 0)).symm with h4 | h4
      · rw [if_neg h4] at hf
        exact FR.trans (FR.trans FR.rf (hrm.2 h3)) (mX3_sum_b24 hrm ih FU l1 l2 l3 (0 : Int32) q2.2 hf)
      · rw [if_pos h4] at hf
        rw [← (Prod.mk.inj (Option.some.inj hf)).2]; exact (FR.trans FR.rf (hrm.2 h3))
set_option maxHeartbeats 1000000 in
theorem mX3_sum_g {rc : TG3} (hrm : RmOK3 rc) {r0 : Int32} {u0 : St} {p1 : Int32} {st : St}  (hf : fX3_sum_g rc p1 st = some (r0, u0)) : FR wG3 st u0 := by
  unfold fX3_sum_g at hf
  exact FR.trans FR.rf (mX3_sum_b4 hrm  FU p1 (0 : Int32) (0 : Int32) st hf)
set_option maxHeartbeats 1000000 in
theorem mX3_part_b198 {rc : TG3} (hrm : RmOK3 rc) {r0 : Int32} {u0 : St} (l3 : Int32) (s1 : Int32) (st : St)  (hf : fX3_part_b198 rc l3 s1 st = some (r0, u0)) : FR wG3 st u0 := by
  unfold fX3_part_b198 at hf
  obtain ⟨q1, h2, hf⟩ := bnd_some hf
  obtain ⟨q3, h4, hf⟩ := bnd_some hf
  rw [← (Prod.mk.inj (Option.some.inj hf)).2]; exact (FR.trans (FR.trans FR.rf (FR.mono (by rfl) (mX5_put h2))) (FR.mono (by rfl) (mX5_put h4)))
set_option maxHeartbeats 1000000 in
theorem mX3_part_b185 {rc : TG3} (hrm : RmOK3 rc) {r0 : Int32} {u0 : St} (l2 : Int32) (l3 : Int32) (st : St)  (hf : fX3_part_b185 rc l2 l3 st = some (r0, u0)) : FR wG3 st u0 := by
  unfold fX3_part_b185 at hf
  by_cases h1 : l2 = 0
  · rw [if_pos h1] at hf
    exact FR.trans FR.rf (mX3_part_b198 hrm  l3 (2 : Int32) st hf)
  · rw [if_neg h1] at hf
    exact FR.trans FR.rf (mX3_part_b198 hrm  l3 (1 : Int32) st hf)
set_option maxHeartbeats 1000000 in
theorem mX3_part_b101 {rc : TG3} (hrm : RmOK3 rc) {r0 : Int32} {u0 : St} (l2 : Int32) (s0 : Int32) (st : St)  (hf : fX3_part_b101 rc l2 s0 st = some (r0, u0)) : FR wG3 st u0 := by
  unfold fX3_part_b101 at hf
  by_cases h1 : s0 = (-1 : Int32)
  · rw [if_pos h1] at hf
    rw [← (Prod.mk.inj (Option.some.inj hf)).2]; exact FR.rf
  · rw [if_neg h1] at hf
    by_cases h2 : (sI st 7 4) < (50 : Int32)
    · rw [if_pos h2] at hf
      obtain ⟨q3, h4, hf⟩ := bnd_some hf
      rcases (Classical.em (l2 = 0)).symm with h5 | h5
      · rw [if_neg h5] at hf
        exact FR.trans (FR.trans (FR.pI (by rfl) FR.rf) (FR.mono (by rfl) (mX3_step h4))) (mX3_part_b185 hrm  l2 s0 q3 hf)
      · rw [if_pos h5] at hf
        rcases (Classical.em ((sI q3 7 3) = 0)).symm with h6 | h6
        · rw [if_neg h6] at hf
          exact FR.trans (FR.trans (FR.pI (by rfl) FR.rf) (FR.mono (by rfl) (mX3_step h4))) (mX3_part_b185 hrm  l2 s0 q3 hf)
        · rw [if_pos h6] at hf
          by_cases h7 : s0 < (5 : Int32)
          · rw [if_pos h7] at hf
            exact FR.trans (FR.trans (FR.pI (by rfl) FR.rf) (FR.mono (by rfl) (mX3_step h4))) (mX3_part_b185 hrm  l2 s0 q3 hf)
          · rw [if_neg h7] at hf
            rcases (Classical.em ((sI q3 7 5) = (3 : Int32))).symm with h8 | h8
            · rw [if_neg h8] at hf
              rw [← (Prod.mk.inj (Option.some.inj hf)).2]; exact (FR.trans (FR.pI (by rfl) FR.rf) (FR.mono (by rfl) (mX3_step h4)))
            · rw [if_pos h8] at hf
              by_cases h9 : (sI q3 7 8) < (6 : Int32)
              · rw [if_pos h9] at hf
                obtain ⟨q10, h11, hf⟩ := bnd_some hf
                exact FR.trans (FR.trans (FR.trans (FR.pI (by rfl) FR.rf) (FR.mono (by rfl) (mX3_step h4))) (FR.mono (by rfl) (mX3_step h11))) (mX3_part_b185 hrm  l2 (((5 : Int32) + ((s0 - (5 : Int32)) * (6 : Int32))) + (sI q3 7 8)) q10 hf)
              · rw [if_neg h9] at hf
                rw [← (Prod.mk.inj (Option.some.inj hf)).2]; exact (FR.trans (FR.pI (by rfl) FR.rf) (FR.mono (by rfl) (mX3_step h4)))
    · rw [if_neg h2] at hf
      rw [← (Prod.mk.inj (Option.some.inj hf)).2]; exact FR.rf
set_option maxHeartbeats 1000000 in
theorem mX3_part_b98 {rc : TG3} (hrm : RmOK3 rc) {r0 : Int32} {u0 : St} (l2 : Int32) (s1 : Nat) (st : St)  (hf : fX3_part_b98 rc l2 s1 st = some (r0, u0)) : FR wG3 st u0 := by
  unfold fX3_part_b98 at hf
  obtain ⟨q1, h2, hf⟩ := bnd_some hf
  exact FR.trans FR.rf (mX3_part_b101 hrm  l2 q1 st hf)
set_option maxHeartbeats 1000000 in
theorem mX3_part_b71 {rc : TG3} (hrm : RmOK3 rc) {r0 : Int32} {u0 : St} (s0 : Int32) (st : St)  (hf : fX3_part_b71 rc s0 st = some (r0, u0)) : FR wG3 st u0 := by
  unfold fX3_part_b71 at hf
  by_cases h1 : s0 = 0
  · rw [if_pos h1] at hf
    by_cases h2 : (sI st 7 3) = 0
    · rw [if_pos h2] at hf
      exact FR.trans FR.rf (mX3_part_b98 hrm  s0 3 st hf)
    · rw [if_neg h2] at hf
      exact FR.trans FR.rf (mX3_part_b98 hrm  s0 2 st hf)
  · rw [if_neg h1] at hf
    exact FR.trans FR.rf (mX3_part_b101 hrm  s0 (sI st 7 8) st hf)
set_option maxHeartbeats 1000000 in
theorem mX3_part_b70 {rc : TG3} (hrm : RmOK3 rc) {r0 : Int32} {u0 : St}  (st : St)  (hf : fX3_part_b70 rc st = some (r0, u0)) : FR wG3 st u0 := by
  unfold fX3_part_b70 at hf
  exact FR.trans FR.rf (mX3_part_b71 hrm  (0 : Int32) st hf)
set_option maxHeartbeats 1000000 in
theorem mX3_part_g {rc : TG3} (hrm : RmOK3 rc) {r0 : Int32} {u0 : St} {p1 : Int32} {st : St}  (hf : fX3_part_g rc p1 st = some (r0, u0)) : FR wG3 st u0 := by
  unfold fX3_part_g at hf
  obtain ⟨q1, h2, hf⟩ := bnd_some hf
  by_cases h3 : q1 = 0
  · rw [if_pos h3] at hf
    rcases (Classical.em ((sI st 7 5) = (3 : Int32))).symm with h4 | h4
    · rw [if_neg h4] at hf
      exact FR.trans FR.rf (mX3_part_b70 hrm  st hf)
    · rw [if_pos h4] at hf
      by_cases h5 : (1000 : Int32) < (sI st 7 8)
      · rw [if_pos h5] at hf
        exact FR.trans FR.rf (mX3_part_b70 hrm  st hf)
      · rw [if_neg h5] at hf
        exact FR.trans FR.rf (mX3_part_b71 hrm  (1 : Int32) st hf)
  · rw [if_neg h3] at hf
    by_cases h6 : p1 < (8 : Int32)
    · rw [if_pos h6] at hf
      obtain ⟨q7, h8, hf⟩ := bnd_some hf
      obtain ⟨q9, h10, hf⟩ := bnd_some hf
      by_cases h11 : q9.1 = 0
      · rw [if_pos h11] at hf
        rw [← (Prod.mk.inj (Option.some.inj hf)).2]; exact (FR.trans (FR.trans FR.rf (FR.mono (by rfl) (mX3_step h8))) (hrm.1 h10))
      · rw [if_neg h11] at hf
        obtain ⟨q12, h13, hf⟩ := bnd_some hf
        rcases (Classical.em (q12 = 0)).symm with h14 | h14
        · rw [if_neg h14] at hf
          obtain ⟨q15, h16, hf⟩ := bnd_some hf
          rw [← (Prod.mk.inj (Option.some.inj hf)).2]; exact (FR.trans (FR.trans (FR.trans FR.rf (FR.mono (by rfl) (mX3_step h8))) (hrm.1 h10)) (FR.mono (by rfl) (mX3_step h16)))
        · rw [if_pos h14] at hf
          rw [← (Prod.mk.inj (Option.some.inj hf)).2]; exact (FR.trans (FR.trans FR.rf (FR.mono (by rfl) (mX3_step h8))) (hrm.1 h10))
    · rw [if_neg h6] at hf
      rw [← (Prod.mk.inj (Option.some.inj hf)).2]; exact FR.rf
theorem rmLG3 : ∀ d, RmOK3 (LG3 d) := by
  intro d
  induction d with
  | zero => exact ⟨(fun h => nomatch h), (fun h => nomatch h)⟩
  | succ d ih => exact ⟨(fun hf => mX3_sum_g ih hf), (fun hf => mX3_part_g ih hf)⟩
theorem mX3_sum {st : St} {p1 : Int32} {r0 : Int32} {u0 : St} (hf : fX3_sum p1 st = some (r0, u0)) : FR wG3 st u0 := (rmLG3 100).1 hf
theorem mX3_part {st : St} {p1 : Int32} {r0 : Int32} {u0 : St} (hf : fX3_part p1 st = some (r0, u0)) : FR wG3 st u0 := (rmLG3 100).2 hf
def wX5_land_S : List (Nat × Option Nat) := [(14, none)]
set_option maxHeartbeats 1000000 in
theorem mX5_land {u0 : St} {p1 : Int32} {st : St}  (hf : fX5_land p1 st = some u0) : FR wX5_land_S st u0 := by
  unfold fX5_land at hf
  by_cases h1 : p1 ≤ 0
  · rw [if_pos h1] at hf
    rw [← Option.some.inj hf]; exact FR.rf
  · rw [if_neg h1] at hf
    by_cases h2 : (826 : Int32) ≤ p1
    · rw [if_pos h2] at hf
      rw [← Option.some.inj hf]; exact FR.rf
    · rw [if_neg h2] at hf
      obtain ⟨h3, hf⟩ := chk_some hf
      rw [← Option.some.inj hf]; exact (FR.pI (inS_all (by rfl)) FR.rf)
def wX5_putJump_S : List (Nat × Option Nat) := [(14, none), (9, some 6)]
set_option maxHeartbeats 1000000 in
theorem mX5_putJump {r0 : Int32} {u0 : St} {p1 : Int32} {st : St}  (hf : fX5_putJump p1 st = some (r0, u0)) : FR wX5_putJump_S st u0 := by
  unfold fX5_putJump at hf
  obtain ⟨q1, h2, hf⟩ := bnd_some hf
  obtain ⟨q3, h4, hf⟩ := bnd_some hf
  rw [← (Prod.mk.inj (Option.some.inj hf)).2]; exact (FR.trans (FR.trans FR.rf (FR.mono (by rfl) (mX5_put h2))) (FR.mono (by rfl) (mX5_put h4)))
def wG4 : List (Nat × Option Nat) := [(14, none), (7, some 4), (7, some 5), (7, some 6), (7, some 7), (7, some 8), (9, some 6)]
def RmOK4 (rc : TG4) : Prop := (∀ {st : St} {p1 : Int32} {r0 : Int32} {u0 : St}, rc.1 p1 st = some (r0, u0) → FR wG4 st u0) ∧ (∀ {st : St} {p1 : Int32} {r0 : Int32} {u0 : St}, rc.2 p1 st = some (r0, u0) → FR wG4 st u0)
set_option maxHeartbeats 1000000 in
theorem mX3_test_b77 {rc : TG4} (hrm : RmOK4 rc) {r0 : Int32} {u0 : St} {k4 : Int32 → Int32 → Int32 → St → Option (Int32 × St)} (hk4 : ∀ (l1 : Int32) (l2 : Int32) (l3 : Int32) (st : St), k4 l1 l2 l3 st = some (r0, u0) → FR wG4 st u0) (l1 : Int32) (l2 : Int32) (l3 : Int32) (st : St)  (hf : fX3_test_b77 rc k4 l1 l2 l3 st = some (r0, u0)) : FR wG4 st u0 := by
  unfold fX3_test_b77 at hf
  obtain ⟨q1, h2, hf⟩ := bnd_some hf
  obtain ⟨q3, h4, hf⟩ := bnd_some hf
  rcases (Classical.em (q3 = (-1 : Int32))).symm with h5 | h5
  · rw [if_neg h5] at hf
    obtain ⟨q6, h7, hf⟩ := bnd_some hf
    obtain ⟨q8, h9, hf⟩ := bnd_some hf
    exact FR.trans (FR.trans (FR.trans (FR.trans FR.rf (FR.mono (by rfl) (mX5_land h2))) (FR.mono (by rfl) (mX5_putJump h7))) (FR.mono (by rfl) (mX3_step h9))) (hk4 l1 q6.1 (l3 + (1 : Int32)) q8 hf)
  · rw [if_pos h5] at hf
    rw [← (Prod.mk.inj (Option.some.inj hf)).2]; exact (FR.trans FR.rf (FR.mono (by rfl) (mX5_land h2)))
set_option maxHeartbeats 1000000 in
theorem mX3_test_b17 {rc : TG4} (hrm : RmOK4 rc) {r0 : Int32} {u0 : St} {k4 : Int32 → Int32 → Int32 → St → Option (Int32 × St)} (hk4 : ∀ (l1 : Int32) (l2 : Int32) (l3 : Int32) (st : St), k4 l1 l2 l3 st = some (r0, u0) → FR wG4 st u0) : ∀ (n : Nat) (l1 : Int32) (l2 : Int32) (l3 : Int32) (l4 : Int32) (l5 : Int32) (st : St) , fX3_test_b17 rc k4 n l1 l2 l3 l4 l5 st = some (r0, u0) → FR wG4 st u0 := by
  intro n
  induction n with
  | zero =>
    intros
    rename_i hf
    rw [fX3_test_b17] at hf
    cases hf
  | succ n ih =>
    intro l1 l2 l3 l4 l5 st hf
    rw [fX3_test_b17] at hf
    by_cases h1 : (400 : Int32) ≤ l5
    · rw [if_pos h1] at hf
      exact FR.trans FR.rf (mX3_test_b77 hrm hk4 l1 l2 l3 st hf)
    · rw [if_neg h1] at hf
      obtain ⟨q2, h3, hf⟩ := bnd_some hf
      rcases (Classical.em (q2.1 = 0)).symm with h4 | h4
      · rw [if_neg h4] at hf
        obtain ⟨q5, h6, hf⟩ := bnd_some hf
        obtain ⟨q7, h8, hf⟩ := bnd_some hf
        rcases (Classical.em (q7 = (-1 : Int32))).symm with h9 | h9
        · rw [if_neg h9] at hf
          obtain ⟨q10, h11, hf⟩ := bnd_some hf
          obtain ⟨q12, h13, hf⟩ := bnd_some hf
          exact FR.trans (FR.trans (FR.trans (FR.trans (FR.trans FR.rf (hrm.2 h3)) (FR.mono (by rfl) (mX5_land h6))) (FR.mono (by rfl) (mX5_putJump h11))) (FR.mono (by rfl) (mX3_step h13))) (ih l1 l2 l3 q10.1 (l5 + (1 : Int32)) q12 hf)
        · rw [if_pos h9] at hf
          exact FR.trans (FR.trans (FR.trans FR.rf (hrm.2 h3)) (FR.mono (by rfl) (mX5_land h6))) (mX3_test_b77 hrm hk4 l1 l2 l3 q5 hf)
      · rw [if_pos h4] at hf
        rw [← (Prod.mk.inj (Option.some.inj hf)).2]; exact (FR.trans FR.rf (hrm.2 h3))
set_option maxHeartbeats 1000000 in
theorem mX3_test_b4 {rc : TG4} (hrm : RmOK4 rc) {r0 : Int32} {u0 : St} : ∀ (n : Nat) (l1 : Int32) (l2 : Int32) (l3 : Int32) (st : St) , fX3_test_b4 rc n l1 l2 l3 st = some (r0, u0) → FR wG4 st u0 := by
  intro n
  induction n with
  | zero =>
    intros
    rename_i hf
    rw [fX3_test_b4] at hf
    cases hf
  | succ n ih =>
    intro l1 l2 l3 st hf
    rw [fX3_test_b4] at hf
    by_cases h1 : (400 : Int32) ≤ l3
    · rw [if_pos h1] at hf
      rw [← (Prod.mk.inj (Option.some.inj hf)).2]; exact FR.rf
    · rw [if_neg h1] at hf
      exact FR.trans FR.rf (mX3_test_b17 hrm ih FU l1 l2 l3 (0 : Int32) (0 : Int32) st hf)
set_option maxHeartbeats 1000000 in
theorem mX3_test_g {rc : TG4} (hrm : RmOK4 rc) {r0 : Int32} {u0 : St} {p1 : Int32} {st : St}  (hf : fX3_test_g rc p1 st = some (r0, u0)) : FR wG4 st u0 := by
  unfold fX3_test_g at hf
  exact FR.trans FR.rf (mX3_test_b4 hrm  FU p1 (0 : Int32) (0 : Int32) st hf)
set_option maxHeartbeats 1000000 in
theorem mX3_plain_b158 {rc : TG4} (hrm : RmOK4 rc) {r0 : Int32} {u0 : St} (l2 : Int32) (st : St)  (hf : fX3_plain_b158 rc l2 st = some (r0, u0)) : FR wG4 st u0 := by
  unfold fX3_plain_b158 at hf
  by_cases h1 : l2 = 0
  · rw [if_pos h1] at hf
    rw [← (Prod.mk.inj (Option.some.inj hf)).2]; exact FR.rf
  · rw [if_neg h1] at hf
    obtain ⟨q2, h3, hf⟩ := bnd_some hf
    rw [← (Prod.mk.inj (Option.some.inj hf)).2]; exact (FR.trans FR.rf (FR.mono (by rfl) (mX5_put h3)))
set_option maxHeartbeats 1000000 in
theorem mX3_plain_b126 {rc : TG4} (hrm : RmOK4 rc) {r0 : Int32} {u0 : St} (l1 : Int32) (l2 : Int32) (st : St)  (hf : fX3_plain_b126 rc l1 l2 st = some (r0, u0)) : FR wG4 st u0 := by
  unfold fX3_plain_b126 at hf
  obtain ⟨h1, hf⟩ := chk_some hf
  obtain ⟨q2, h3, hf⟩ := bnd_some hf
  obtain ⟨q4, h5, hf⟩ := bnd_some hf
  rcases (Classical.em (q4.1 = 0)).symm with h6 | h6
  · rw [if_neg h6] at hf
    obtain ⟨q7, h8, hf⟩ := bnd_some hf
    exact FR.trans (FR.trans (FR.trans (FR.trans FR.rf (FR.mono (by rfl) (mX3_step h3))) (FR.mono (by rfl) (mX3_sum h5))) (FR.mono (by rfl) (mX5_put h8))) (mX3_plain_b158 hrm  l2 q7 hf)
  · rw [if_pos h6] at hf
    rw [← (Prod.mk.inj (Option.some.inj hf)).2]; exact (FR.trans (FR.trans FR.rf (FR.mono (by rfl) (mX3_step h3))) (FR.mono (by rfl) (mX3_sum h5)))
set_option maxHeartbeats 1000000 in
theorem mX3_plain_b40 {rc : TG4} (hrm : RmOK4 rc) {r0 : Int32} {u0 : St} (l1 : Int32) (l2 : Int32) (st : St)  (hf : fX3_plain_b40 rc l1 l2 st = some (r0, u0)) : FR wG4 st u0 := by
  unfold fX3_plain_b40 at hf
  obtain ⟨q1, h2, hf⟩ := bnd_some hf
  by_cases h3 : q1 = 0
  · rw [if_pos h3] at hf
    obtain ⟨q4, h5, hf⟩ := bnd_some hf
    by_cases h6 : q4.1 = 0
    · rw [if_pos h6] at hf
      rw [← (Prod.mk.inj (Option.some.inj hf)).2]; exact (FR.trans FR.rf (FR.mono (by rfl) (mX3_sum h5)))
    · rw [if_neg h6] at hf
      obtain ⟨q7, h8, hf⟩ := bnd_some hf
      rcases (Classical.em (q7 = 0)).symm with h9 | h9
      · rw [if_neg h9] at hf
        exact FR.trans (FR.trans FR.rf (FR.mono (by rfl) (mX3_sum h5))) (mX3_plain_b126 hrm  l1 l2 q4.2 hf)
      · rw [if_pos h9] at hf
        obtain ⟨q10, h11, hf⟩ := bnd_some hf
        rcases (Classical.em (q10 = 0)).symm with h12 | h12
        · rw [if_neg h12] at hf
          exact FR.trans (FR.trans FR.rf (FR.mono (by rfl) (mX3_sum h5))) (mX3_plain_b126 hrm  l1 l2 q4.2 hf)
        · rw [if_pos h12] at hf
          obtain ⟨q13, h14, hf⟩ := bnd_some hf
          rcases (Classical.em (q13 = 0)).symm with h15 | h15
          · rw [if_neg h15] at hf
            exact FR.trans (FR.trans FR.rf (FR.mono (by rfl) (mX3_sum h5))) (mX3_plain_b126 hrm  l1 l2 q4.2 hf)
          · rw [if_pos h15] at hf
            rw [← (Prod.mk.inj (Option.some.inj hf)).2]; exact (FR.trans FR.rf (FR.mono (by rfl) (mX3_sum h5)))
  · rw [if_neg h3] at hf
    by_cases h16 : l1 < (8 : Int32)
    · rw [if_pos h16] at hf
      obtain ⟨q17, h18, hf⟩ := bnd_some hf
      obtain ⟨q19, h20, hf⟩ := bnd_some hf
      by_cases h21 : q19.1 = 0
      · rw [if_pos h21] at hf
        rw [← (Prod.mk.inj (Option.some.inj hf)).2]; exact (FR.trans (FR.trans FR.rf (FR.mono (by rfl) (mX3_step h18))) (hrm.1 h20))
      · rw [if_neg h21] at hf
        obtain ⟨q22, h23, hf⟩ := bnd_some hf
        rcases (Classical.em (q22 = 0)).symm with h24 | h24
        · rw [if_neg h24] at hf
          obtain ⟨q25, h26, hf⟩ := bnd_some hf
          exact FR.trans (FR.trans (FR.trans (FR.trans FR.rf (FR.mono (by rfl) (mX3_step h18))) (hrm.1 h20)) (FR.mono (by rfl) (mX3_step h26))) (mX3_plain_b158 hrm  l2 q25 hf)
        · rw [if_pos h24] at hf
          rw [← (Prod.mk.inj (Option.some.inj hf)).2]; exact (FR.trans (FR.trans FR.rf (FR.mono (by rfl) (mX3_step h18))) (hrm.1 h20))
    · rw [if_neg h16] at hf
      rw [← (Prod.mk.inj (Option.some.inj hf)).2]; exact FR.rf
set_option maxHeartbeats 1000000 in
theorem mX3_plain_b29 {rc : TG4} (hrm : RmOK4 rc) {r0 : Int32} {u0 : St} {k4 : Int32 → Int32 → Int32 → St → Option (Int32 × St)} (hk4 : ∀ (l1 : Int32) (l2 : Int32) (l3 : Int32) (st : St), k4 l1 l2 l3 st = some (r0, u0) → FR wG4 st u0) (l1 : Int32) (l3 : Int32) (s0 : Int32) (st : St)  (hf : fX3_plain_b29 rc k4 l1 l3 s0 st = some (r0, u0)) : FR wG4 st u0 := by
  unfold fX3_plain_b29 at hf
  obtain ⟨q1, h2, hf⟩ := bnd_some hf
  exact FR.trans (FR.trans FR.rf (FR.mono (by rfl) (mX3_step h2))) (hk4 l1 s0 (l3 + (1 : Int32)) q1 hf)
set_option maxHeartbeats 1000000 in
theorem mX3_plain_b4 {rc : TG4} (hrm : RmOK4 rc) {r0 : Int32} {u0 : St} : ∀ (n : Nat) (l1 : Int32) (l2 : Int32) (l3 : Int32) (st : St) , fX3_plain_b4 rc n l1 l2 l3 st = some (r0, u0) → FR wG4 st u0 := by
  intro n
  induction n with
  | zero =>
    intros
    rename_i hf
    rw [fX3_plain_b4] at hf
    cases hf
  | succ n ih =>
    intro l1 l2 l3 st hf
    rw [fX3_plain_b4] at hf
    by_cases h1 : (400 : Int32) ≤ l3
    · rw [if_pos h1] at hf
      exact FR.trans FR.rf (mX3_plain_b40 hrm  l1 l2 st hf)
    · rw [if_neg h1] at hf
      obtain ⟨q2, h3, hf⟩ := bnd_some hf
      rcases (Classical.em (q2 = 0)).symm with h4 | h4
      · rw [if_neg h4] at hf
        exact FR.trans FR.rf (mX3_plain_b40 hrm  l1 l2 st hf)
      · rw [if_pos h4] at hf
        rcases (Classical.em (l2 = 0)).symm with h5 | h5
        · rw [if_neg h5] at hf
          exact FR.trans FR.rf (mX3_plain_b29 hrm ih l1 l3 (0 : Int32) st hf)
        · rw [if_pos h5] at hf
          exact FR.trans FR.rf (mX3_plain_b29 hrm ih l1 l3 (1 : Int32) st hf)
set_option maxHeartbeats 1000000 in
theorem mX3_plain_g {rc : TG4} (hrm : RmOK4 rc) {r0 : Int32} {u0 : St} {p1 : Int32} {st : St}  (hf : fX3_plain_g rc p1 st = some (r0, u0)) : FR wG4 st u0 := by
  unfold fX3_plain_g at hf
  exact FR.trans FR.rf (mX3_plain_b4 hrm  FU p1 (0 : Int32) (0 : Int32) st hf)
theorem rmLG4 : ∀ d, RmOK4 (LG4 d) := by
  intro d
  induction d with
  | zero => exact ⟨(fun h => nomatch h), (fun h => nomatch h)⟩
  | succ d ih => exact ⟨(fun hf => mX3_test_g ih hf), (fun hf => mX3_plain_g ih hf)⟩
theorem mX3_test {st : St} {p1 : Int32} {r0 : Int32} {u0 : St} (hf : fX3_test p1 st = some (r0, u0)) : FR wG4 st u0 := (rmLG4 100).1 hf
theorem mX3_plain {st : St} {p1 : Int32} {r0 : Int32} {u0 : St} (hf : fX3_plain p1 st = some (r0, u0)) : FR wG4 st u0 := (rmLG4 100).2 hf
def wX3_clause_S : List (Nat × Option Nat) := [(10, none), (11, none), (12, none), (13, none), (14, none), (7, some 4), (7, some 5), (7, some 6), (7, some 7), (7, some 8), (9, some 5), (9, some 6), (9, some 7)]
set_option maxHeartbeats 1000000 in
theorem mX3_clause_b212 {r0 : Int32} {u0 : St} (l1 : Int32) (st : St)  (hf : fX3_clause_b212 l1 st = some (r0, u0)) : FR wX3_clause_S st u0 := by
  unfold fX3_clause_b212 at hf
  obtain ⟨q1, h2, hf⟩ := bnd_some hf
  rcases (Classical.em (q1 = 0)).symm with h3 | h3
  · rw [if_neg h3] at hf
    rw [← (Prod.mk.inj (Option.some.inj hf)).2]; exact FR.rf
  · rw [if_pos h3] at hf
    obtain ⟨q4, h5, hf⟩ := bnd_some hf
    obtain ⟨h6, hf⟩ := chk_some hf
    obtain ⟨q7, h8, hf⟩ := bnd_some hf
    rcases (Classical.em (q7.1 = 0)).symm with h9 | h9
    · rw [if_neg h9] at hf
      obtain ⟨q10, h11, hf⟩ := bnd_some hf
      rw [← (Prod.mk.inj (Option.some.inj hf)).2]; exact (FR.trans (FR.trans (FR.pI (inS_all (by rfl)) (FR.trans FR.rf (FR.mono (by rfl) (mX3_step h5)))) (FR.mono (by rfl) (mX3_test h8))) (FR.mono (by rfl) (mX5_put h11)))
    · rw [if_pos h9] at hf
      rw [← (Prod.mk.inj (Option.some.inj hf)).2]; exact (FR.trans (FR.pI (inS_all (by rfl)) (FR.trans FR.rf (FR.mono (by rfl) (mX3_step h5)))) (FR.mono (by rfl) (mX3_test h8)))
set_option maxHeartbeats 1000000 in
theorem mX3_clause_b148 {r0 : Int32} {u0 : St} (l1 : Int32) (st : St)  (hf : fX3_clause_b148 l1 st = some (r0, u0)) : FR wX3_clause_S st u0 := by
  unfold fX3_clause_b148 at hf
  rcases (Classical.em ((sI st 7 3) = 0)).symm with h1 | h1
  · rw [if_neg h1] at hf
    exact FR.trans FR.rf (mX3_clause_b212  l1 st hf)
  · rw [if_pos h1] at hf
    obtain ⟨q2, h3, hf⟩ := bnd_some hf
    rcases (Classical.em (q2 = 0)).symm with h4 | h4
    · rw [if_neg h4] at hf
      exact FR.trans FR.rf (mX3_clause_b212  l1 st hf)
    · rw [if_pos h4] at hf
      obtain ⟨q5, h6, hf⟩ := bnd_some hf
      rcases (Classical.em ((sI q5 7 5) = (3 : Int32))).symm with h7 | h7
      · rw [if_neg h7] at hf
        rw [← (Prod.mk.inj (Option.some.inj hf)).2]; exact (FR.trans FR.rf (FR.mono (by rfl) (mX3_step h6)))
      · rw [if_pos h7] at hf
        by_cases h8 : (sI q5 7 8) < (1 : Int32)
        · rw [if_pos h8] at hf
          rw [← (Prod.mk.inj (Option.some.inj hf)).2]; exact (FR.trans FR.rf (FR.mono (by rfl) (mX3_step h6)))
        · rw [if_neg h8] at hf
          by_cases h9 : (sI q5 7 8) ≤ (20 : Int32)
          · rw [if_pos h9] at hf
            obtain ⟨h10, hf⟩ := chk_some hf
            obtain ⟨q11, h12, hf⟩ := bnd_some hf
            exact FR.trans (FR.trans (FR.pI (inS_all (by rfl)) (FR.trans FR.rf (FR.mono (by rfl) (mX3_step h6)))) (FR.mono (by rfl) (mX3_step h12))) (mX3_clause_b212  l1 q11 hf)
          · rw [if_neg h9] at hf
            rw [← (Prod.mk.inj (Option.some.inj hf)).2]; exact (FR.trans FR.rf (FR.mono (by rfl) (mX3_step h6)))
set_option maxHeartbeats 1000000 in
theorem mX3_clause_b114 {r0 : Int32} {u0 : St} (l1 : Int32) (st : St)  (hf : fX3_clause_b114 l1 st = some (r0, u0)) : FR wX3_clause_S st u0 := by
  unfold fX3_clause_b114 at hf
  obtain ⟨h1, hf⟩ := chk_some hf
  obtain ⟨q2, h3, hf⟩ := bnd_some hf
  rcases (Classical.em (q2.1 = 0)).symm with h4 | h4
  · rw [if_neg h4] at hf
    obtain ⟨q5, h6, hf⟩ := bnd_some hf
    exact FR.trans (FR.trans (FR.trans (FR.pI (inS_all (by rfl)) FR.rf) (FR.mono (by rfl) (mX3_sum h3))) (FR.mono (by rfl) (mX5_put h6))) (mX3_clause_b148  l1 q5 hf)
  · rw [if_pos h4] at hf
    rw [← (Prod.mk.inj (Option.some.inj hf)).2]; exact (FR.trans (FR.pI (inS_all (by rfl)) FR.rf) (FR.mono (by rfl) (mX3_sum h3)))
set_option maxHeartbeats 1000000 in
theorem mX3_clause_b15 {r0 : Int32} {u0 : St} (l1 : Int32) (s1 : Nat) (st : St)  (hf : fX3_clause_b15 l1 s1 st = some (r0, u0)) : FR wX3_clause_S st u0 := by
  unfold fX3_clause_b15 at hf
  obtain ⟨q1, h2, hf⟩ := bnd_some hf
  rcases (Classical.em (q1 = (-1 : Int32))).symm with h3 | h3
  · rw [if_neg h3] at hf
    obtain ⟨q4, h5, hf⟩ := bnd_some hf
    obtain ⟨h6, hf⟩ := chk_some hf
    obtain ⟨h7, hf⟩ := chk_some hf
    obtain ⟨h8, hf⟩ := chk_some hf
    obtain ⟨h9, hf⟩ := chk_some hf
    by_cases h10 : (sI (pI (pI (pI (pI (pI (pI q4 10 l1.toNatClampNeg q1) 9 7 ((sI (pI q4 10 l1.toNatClampNeg q1) 9 7) ||| (jshl (1 : Int32) q1))) 11 l1.toNatClampNeg (1 : Int32)) 12 l1.toNatClampNeg (0 : Int32)) 13 l1.toNatClampNeg (0 : Int32)) 9 5 (l1 + (1 : Int32))) 7 3) = 0
    · rw [if_pos h10] at hf
      by_cases h11 : q1 = (3 : Int32)
      · rw [if_pos h11] at hf
        exact FR.trans (FR.pI (by rfl) (FR.pI (inS_all (by rfl)) (FR.pI (inS_all (by rfl)) (FR.pI (inS_all (by rfl)) (FR.pI (by rfl) (FR.pI (inS_all (by rfl)) (FR.trans FR.rf (FR.mono (by rfl) (mX3_step h5))))))))) (mX3_clause_b148  l1 (pI (pI (pI (pI (pI (pI q4 10 l1.toNatClampNeg q1) 9 7 ((sI (pI q4 10 l1.toNatClampNeg q1) 9 7) ||| (jshl (1 : Int32) q1))) 11 l1.toNatClampNeg (1 : Int32)) 12 l1.toNatClampNeg (0 : Int32)) 13 l1.toNatClampNeg (0 : Int32)) 9 5 (l1 + (1 : Int32))) hf)
      · rw [if_neg h11] at hf
        exact FR.trans (FR.pI (by rfl) (FR.pI (inS_all (by rfl)) (FR.pI (inS_all (by rfl)) (FR.pI (inS_all (by rfl)) (FR.pI (by rfl) (FR.pI (inS_all (by rfl)) (FR.trans FR.rf (FR.mono (by rfl) (mX3_step h5))))))))) (mX3_clause_b114  l1 (pI (pI (pI (pI (pI (pI q4 10 l1.toNatClampNeg q1) 9 7 ((sI (pI q4 10 l1.toNatClampNeg q1) 9 7) ||| (jshl (1 : Int32) q1))) 11 l1.toNatClampNeg (1 : Int32)) 12 l1.toNatClampNeg (0 : Int32)) 13 l1.toNatClampNeg (0 : Int32)) 9 5 (l1 + (1 : Int32))) hf)
    · rw [if_neg h10] at hf
      rcases (Classical.em (q1 = 0)).symm with h12 | h12
      · rw [if_neg h12] at hf
        exact FR.trans (FR.pI (by rfl) (FR.pI (inS_all (by rfl)) (FR.pI (inS_all (by rfl)) (FR.pI (inS_all (by rfl)) (FR.pI (by rfl) (FR.pI (inS_all (by rfl)) (FR.trans FR.rf (FR.mono (by rfl) (mX3_step h5))))))))) (mX3_clause_b148  l1 (pI (pI (pI (pI (pI (pI q4 10 l1.toNatClampNeg q1) 9 7 ((sI (pI q4 10 l1.toNatClampNeg q1) 9 7) ||| (jshl (1 : Int32) q1))) 11 l1.toNatClampNeg (1 : Int32)) 12 l1.toNatClampNeg (0 : Int32)) 13 l1.toNatClampNeg (0 : Int32)) 9 5 (l1 + (1 : Int32))) hf)
      · rw [if_pos h12] at hf
        exact FR.trans (FR.pI (by rfl) (FR.pI (inS_all (by rfl)) (FR.pI (inS_all (by rfl)) (FR.pI (inS_all (by rfl)) (FR.pI (by rfl) (FR.pI (inS_all (by rfl)) (FR.trans FR.rf (FR.mono (by rfl) (mX3_step h5))))))))) (mX3_clause_b114  l1 (pI (pI (pI (pI (pI (pI q4 10 l1.toNatClampNeg q1) 9 7 ((sI (pI q4 10 l1.toNatClampNeg q1) 9 7) ||| (jshl (1 : Int32) q1))) 11 l1.toNatClampNeg (1 : Int32)) 12 l1.toNatClampNeg (0 : Int32)) 13 l1.toNatClampNeg (0 : Int32)) 9 5 (l1 + (1 : Int32))) hf)
  · rw [if_pos h3] at hf
    rw [← (Prod.mk.inj (Option.some.inj hf)).2]; exact FR.rf
set_option maxHeartbeats 1000000 in
theorem mX3_clause {r0 : Int32} {u0 : St} {p1 : Int32} {st : St}  (hf : fX3_clause p1 st = some (r0, u0)) : FR wX3_clause_S st u0 := by
  unfold fX3_clause at hf
  by_cases h1 : (sI st 7 3) = 0
  · rw [if_pos h1] at hf
    exact FR.trans FR.rf (mX3_clause_b15  p1 1 st hf)
  · rw [if_neg h1] at hf
    exact FR.trans FR.rf (mX3_clause_b15  p1 0 st hf)
def wX3_readAll_S : List (Nat × Option Nat) := [(10, none), (11, none), (12, none), (13, none), (14, none), (7, some 2), (7, some 3), (7, some 4), (7, some 5), (7, some 6), (7, some 7), (7, some 8), (9, some 5), (9, some 6), (9, some 7)]
set_option maxHeartbeats 1000000 in
theorem mX3_readAll_b79 {r0 : Int32} {u0 : St} (l2 : Int32) (st : St)  (hf : fX3_readAll_b79 l2 st = some (r0, u0)) : FR wX3_readAll_S st u0 := by
  unfold fX3_readAll_b79 at hf
  by_cases h1 : l2 = 0
  · rw [if_pos h1] at hf
    rw [← (Prod.mk.inj (Option.some.inj hf)).2]; exact (FR.pI (by rfl) FR.rf)
  · rw [if_neg h1] at hf
    rw [← (Prod.mk.inj (Option.some.inj hf)).2]; exact (FR.pI (by rfl) FR.rf)
set_option maxHeartbeats 1000000 in
theorem mX3_readAll_b56 {r0 : Int32} {u0 : St} {k30 : Int32 → Int32 → St → Option (Int32 × St)} (hk30 : ∀ (l2 : Int32) (l3 : Int32) (st : St), k30 l2 l3 st = some (r0, u0) → FR wX3_readAll_S st u0) (l3 : Int32) (s0 : Int32) (st : St)  (hf : fX3_readAll_b56 k30 l3 s0 st = some (r0, u0)) : FR wX3_readAll_S st u0 := by
  unfold fX3_readAll_b56 at hf
  obtain ⟨q1, h2, hf⟩ := bnd_some hf
  rcases (Classical.em (q1 = 0)).symm with h3 | h3
  · rw [if_neg h3] at hf
    obtain ⟨q4, h5, hf⟩ := bnd_some hf
    exact FR.trans (FR.trans FR.rf (FR.mono (by rfl) (mX3_step h5))) (hk30 s0 (l3 + (1 : Int32)) q4 hf)
  · rw [if_pos h3] at hf
    exact FR.trans FR.rf (mX3_readAll_b79  s0 st hf)
set_option maxHeartbeats 1000000 in
theorem mX3_readAll_b30 {r0 : Int32} {u0 : St} : ∀ (n : Nat) (l2 : Int32) (l3 : Int32) (st : St) , fX3_readAll_b30 n l2 l3 st = some (r0, u0) → FR wX3_readAll_S st u0 := by
  intro n
  induction n with
  | zero =>
    intros
    rename_i hf
    rw [fX3_readAll_b30] at hf
    cases hf
  | succ n ih =>
    intro l2 l3 st hf
    rw [fX3_readAll_b30] at hf
    by_cases h1 : (12 : Int32) ≤ l3
    · rw [if_pos h1] at hf
      exact FR.trans FR.rf (mX3_readAll_b79  l2 st hf)
    · rw [if_neg h1] at hf
      obtain ⟨q2, h3, hf⟩ := bnd_some hf
      by_cases h4 : q2.1 = 0
      · rw [if_pos h4] at hf
        exact FR.trans (FR.trans FR.rf (FR.mono (by rfl) (mX3_clause h3))) (mX3_readAll_b79  l2 q2.2 hf)
      · rw [if_neg h4] at hf
        rcases (Classical.em ((sI q2.2 7 5) = 0)).symm with h5 | h5
        · rw [if_neg h5] at hf
          exact FR.trans (FR.trans FR.rf (FR.mono (by rfl) (mX3_clause h3))) (mX3_readAll_b56 ih l3 (0 : Int32) q2.2 hf)
        · rw [if_pos h5] at hf
          exact FR.trans (FR.trans FR.rf (FR.mono (by rfl) (mX3_clause h3))) (mX3_readAll_b56 ih l3 (1 : Int32) q2.2 hf)
set_option maxHeartbeats 1000000 in
theorem mX3_readAll {r0 : Int32} {u0 : St} {p1 : Int32} {st : St}  (hf : fX3_readAll p1 st = some (r0, u0)) : FR wX3_readAll_S st u0 := by
  unfold fX3_readAll at hf
  obtain ⟨h1, hf⟩ := chk_some hf
  obtain ⟨q2, h3, hf⟩ := bnd_some hf
  obtain ⟨q4, h5, hf⟩ := bnd_some hf
  exact FR.trans (FR.trans (FR.trans (FR.pI (by rfl) (FR.pI (by rfl) (FR.pI (by rfl) FR.rf))) (FR.mono (by rfl) (mX5_clear h3))) (FR.mono (by rfl) (mX3_step h5))) (mX3_readAll_b30  FU (0 : Int32) (0 : Int32) q4 hf)
def wX4_welcome_S : List (Nat × Option Nat) := [(1, some 4), (1, some 5), (2, none)]
set_option maxHeartbeats 1000000 in
theorem mX4_welcome {u0 : St} {p1 : Int32} {st : St}  (hf : fX4_welcome p1 st = some u0) : FR wX4_welcome_S st u0 := by
  unfold fX4_welcome at hf
  by_cases h1 : (6 : Int32) ≤ (sI st 1 4)
  · rw [if_pos h1] at hf
    rw [← Option.some.inj hf]; exact FR.rf
  · rw [if_neg h1] at hf
    obtain ⟨h2, hf⟩ := chk_some hf
    rw [← Option.some.inj hf]; exact (FR.pI (by rfl) (FR.pI (by rfl) (FR.pI (inS_all (by rfl)) FR.rf)))
def wX7_refused_S : List (Nat × Option Nat) := [(0, some 11), (35, none)]
set_option maxHeartbeats 1000000 in
theorem mX7_refused_b41 {r0 : Int32} {u0 : St} (l1 : Int32) (st : St)  (hf : fX7_refused_b41 l1 st = some (r0, u0)) : FR wX7_refused_S st u0 := by
  unfold fX7_refused_b41 at hf
  rw [← (Prod.mk.inj (Option.some.inj hf)).2]; exact (FR.pI (by rfl) FR.rf)
set_option maxHeartbeats 1000000 in
theorem mX7_refused_b17 {r0 : Int32} {u0 : St} (l1 : Int32) (s0 : Int32) (st : St)  (hf : fX7_refused_b17 l1 s0 st = some (r0, u0)) : FR wX7_refused_S st u0 := by
  unfold fX7_refused_b17 at hf
  by_cases h1 : s0 < 0
  · rw [if_pos h1] at hf
    exact FR.trans FR.rf (mX7_refused_b41  l1 st hf)
  · rw [if_neg h1] at hf
    by_cases h2 : (5 : Int32) ≤ s0
    · rw [if_pos h2] at hf
      exact FR.trans FR.rf (mX7_refused_b41  l1 st hf)
    · rw [if_neg h2] at hf
      obtain ⟨h3, hf⟩ := chk_some hf
      obtain ⟨h4, hf⟩ := chk_some hf
      exact FR.trans (FR.pI (inS_all (by rfl)) FR.rf) (mX7_refused_b41  l1 (pI st 35 s0.toNatClampNeg ((sI st 35 s0.toNatClampNeg) + (1 : Int32))) hf)
set_option maxHeartbeats 1000000 in
theorem mX7_refused {r0 : Int32} {u0 : St} {p1 : Int32} {st : St}  (hf : fX7_refused p1 st = some (r0, u0)) : FR wX7_refused_S st u0 := by
  unfold fX7_refused at hf
  by_cases h1 : p1 ≤ (-4 : Int32)
  · rw [if_pos h1] at hf
    exact FR.trans FR.rf (mX7_refused_b17  p1 ((-p1) - (2 : Int32)) st hf)
  · rw [if_neg h1] at hf
    exact FR.trans FR.rf (mX7_refused_b17  p1 ((-p1) - (1 : Int32)) st hf)
def wX7_ringChanged_S : List (Nat × Option Nat) := [(15, some 1), (19, some 6), (23, none), (24, none)]
set_option maxHeartbeats 1000000 in
theorem mX7_ringChanged {u0 : St}  {st : St}  (hf : fX7_ringChanged st = some u0) : FR wX7_ringChanged_S st u0 := by
  unfold fX7_ringChanged at hf
  obtain ⟨q1, h2, hf⟩ := bnd_some hf
  exact FR.trans (FR.trans FR.rf (FR.mono (by rfl) (mX2_forget h2))) (FR.mono (by rfl) (mX6_forget hf))
def wX7_settled_S : List (Nat × Option Nat) := [(0, some 11)]
set_option maxHeartbeats 1000000 in
theorem mX7_settled {r0 : Int32} {u0 : St} {p1 : Int32} {st : St}  (hf : fX7_settled p1 st = some (r0, u0)) : FR wX7_settled_S st u0 := by
  unfold fX7_settled at hf
  rw [← (Prod.mk.inj (Option.some.inj hf)).2]; exact (FR.pI (by rfl) FR.rf)
def wX7_child_S : List (Nat × Option Nat) := [(0, some 11), (1, some 4), (1, some 5), (15, some 1), (19, some 6), (2, none), (23, none), (24, none), (35, none)]
set_option maxHeartbeats 1000000 in
theorem mX7_child_b10 {r0 : Int32} {u0 : St}  (st : St)  (hf : fX7_child_b10 st = some (r0, u0)) : FR wX7_child_S st u0 := by
  unfold fX7_child_b10 at hf
  exact FR.trans FR.rf (FR.mono (by rfl) (mX7_refused hf))
set_option maxHeartbeats 1000000 in
theorem mX7_child {r0 : Int32} {u0 : St} {p1 : Int32} {st : St}  (hf : fX7_child p1 st = some (r0, u0)) : FR wX7_child_S st u0 := by
  unfold fX7_child at hf
  by_cases h1 : p1 < 0
  · rw [if_pos h1] at hf
    exact FR.trans FR.rf (mX7_child_b10  st hf)
  · rw [if_neg h1] at hf
    by_cases h2 : p1 ≤ (9 : Int32)
    · rw [if_pos h2] at hf
      by_cases h3 : (sI st 1 4) < (6 : Int32)
      · rw [if_pos h3] at hf
        obtain ⟨q4, h5, hf⟩ := bnd_some hf
        obtain ⟨q6, h7, hf⟩ := bnd_some hf
        exact FR.trans (FR.trans (FR.trans FR.rf (FR.mono (by rfl) (mX4_welcome h5))) (FR.mono (by rfl) (mX7_ringChanged h7))) (FR.mono (by rfl) (mX7_settled hf))
      · rw [if_neg h3] at hf
        exact FR.trans FR.rf (FR.mono (by rfl) (mX7_refused hf))
    · rw [if_neg h2] at hf
      exact FR.trans FR.rf (mX7_child_b10  st hf)
def wX7_rhyme_S : List (Nat × Option Nat) := [(0, some 11), (1, some 6), (15, some 1), (19, some 6), (23, none), (24, none), (3, none), (35, none)]
set_option maxHeartbeats 1000000 in
theorem mX7_rhyme_b11 {r0 : Int32} {u0 : St}  (st : St)  (hf : fX7_rhyme_b11 st = some (r0, u0)) : FR wX7_rhyme_S st u0 := by
  unfold fX7_rhyme_b11 at hf
  exact FR.trans FR.rf (FR.mono (by rfl) (mX7_refused hf))
set_option maxHeartbeats 1000000 in
theorem mX7_rhyme {r0 : Int32} {u0 : St} {p1 : Int32} {st : St}  (hf : fX7_rhyme p1 st = some (r0, u0)) : FR wX7_rhyme_S st u0 := by
  unfold fX7_rhyme at hf
  by_cases h1 : p1 < (1 : Int32)
  · rw [if_pos h1] at hf
    exact FR.trans FR.rf (mX7_rhyme_b11  st hf)
  · rw [if_neg h1] at hf
    by_cases h2 : p1 ≤ (15 : Int32)
    · rw [if_pos h2] at hf
      by_cases h3 : (sI st 1 6) < (5 : Int32)
      · rw [if_pos h3] at hf
        obtain ⟨h4, hf⟩ := chk_some hf
        obtain ⟨q5, h6, hf⟩ := bnd_some hf
        exact FR.trans (FR.trans (FR.pI (by rfl) (FR.pI (inS_all (by rfl)) FR.rf)) (FR.mono (by rfl) (mX7_ringChanged h6))) (FR.mono (by rfl) (mX7_settled hf))
      · rw [if_neg h3] at hf
        exact FR.trans FR.rf (FR.mono (by rfl) (mX7_refused hf))
    · rw [if_neg h2] at hf
      exact FR.trans FR.rf (mX7_rhyme_b11  st hf)
def wX7_tuneVoice_S : List (Nat × Option Nat) := [(19, some 6), (19, some 7), (19, some 8), (19, some 9), (23, none), (24, none)]
set_option maxHeartbeats 1000000 in
theorem mX7_tuneVoice {u0 : St}  {st : St}  (hf : fX7_tuneVoice st = some u0) : FR wX7_tuneVoice_S st u0 := by
  unfold fX7_tuneVoice at hf
  obtain ⟨q1, h2, hf⟩ := bnd_some hf
  exact FR.trans FR.rf (FR.mono (by rfl) (mX6_tune hf))
def wX7_asks_S : List (Nat × Option Nat) := [(19, some 6), (19, some 7), (19, some 8), (19, some 9), (20, some 0), (20, some 1), (20, some 2), (20, some 3), (20, some 4), (20, some 5), (20, some 6), (21, none), (23, none), (24, none)]
set_option maxHeartbeats 1000000 in
theorem mX7_asks {r0 : Int32} {u0 : St} {p1 : Int32} {p2 : Int32} {p3 : Int32} {p4 : Int32} {st : St}  (hf : fX7_asks p1 p2 p3 p4 st = some (r0, u0)) : FR wX7_asks_S st u0 := by
  unfold fX7_asks at hf
  rcases (Classical.em ((fX4_lacksRhyme st p1) = 0)).symm with h1 | h1
  · rw [if_neg h1] at hf
    rw [← (Prod.mk.inj (Option.some.inj hf)).2]; exact FR.rf
  · rw [if_pos h1] at hf
    rcases (Classical.em ((fX4_lacksChild st p2) = 0)).symm with h2 | h2
    · rw [if_neg h2] at hf
      rw [← (Prod.mk.inj (Option.some.inj hf)).2]; exact FR.rf
    · rw [if_pos h2] at hf
      by_cases h3 : p3 < 0
      · rw [if_pos h3] at hf
        rw [← (Prod.mk.inj (Option.some.inj hf)).2]; exact FR.rf
      · rw [if_neg h3] at hf
        by_cases h4 : p3 ≤ (15 : Int32)
        · rw [if_pos h4] at hf
          obtain ⟨q5, h6, hf⟩ := bnd_some hf
          by_cases h7 : p4 = (0 : Int32)
          · rw [if_pos h7] at hf
            exact FR.trans (FR.trans FR.rf (FR.mono (by rfl) (mX7_tuneVoice h6))) (FR.mono (by rfl) (mX6_lengthOf hf))
          · rw [if_neg h7] at hf
            by_cases h8 : p4 = (1 : Int32)
            · rw [if_pos h8] at hf
              obtain ⟨q9, h10, hf⟩ := bnd_some hf
              by_cases h11 : q9.1 = 0
              · rw [if_pos h11] at hf
                rw [← (Prod.mk.inj (Option.some.inj hf)).2]; exact (FR.trans (FR.trans FR.rf (FR.mono (by rfl) (mX7_tuneVoice h6))) (FR.mono (by rfl) (mX6_isSo h10)))
              · rw [if_neg h11] at hf
                rw [← (Prod.mk.inj (Option.some.inj hf)).2]; exact (FR.trans (FR.trans FR.rf (FR.mono (by rfl) (mX7_tuneVoice h6))) (FR.mono (by rfl) (mX6_isSo h10)))
            · rw [if_neg h8] at hf
              by_cases h12 : p4 = (2 : Int32)
              · rw [if_pos h12] at hf
                obtain ⟨q13, h14, hf⟩ := bnd_some hf
                by_cases h15 : q13.1 = 0
                · rw [if_pos h15] at hf
                  rw [← (Prod.mk.inj (Option.some.inj hf)).2]; exact (FR.trans (FR.trans FR.rf (FR.mono (by rfl) (mX7_tuneVoice h6))) (FR.mono (by rfl) (mX6_isSo h14)))
                · rw [if_neg h15] at hf
                  rw [← (Prod.mk.inj (Option.some.inj hf)).2]; exact (FR.trans (FR.trans FR.rf (FR.mono (by rfl) (mX7_tuneVoice h6))) (FR.mono (by rfl) (mX6_isSo h14)))
              · rw [if_neg h12] at hf
                by_cases h16 : p4 = (3 : Int32)
                · rw [if_pos h16] at hf
                  obtain ⟨q17, h18, hf⟩ := bnd_some hf
                  by_cases h19 : q17.1 = 0
                  · rw [if_pos h19] at hf
                    rw [← (Prod.mk.inj (Option.some.inj hf)).2]; exact (FR.trans (FR.trans FR.rf (FR.mono (by rfl) (mX7_tuneVoice h6))) (FR.mono (by rfl) (mX6_isSo h18)))
                  · rw [if_neg h19] at hf
                    rw [← (Prod.mk.inj (Option.some.inj hf)).2]; exact (FR.trans (FR.trans FR.rf (FR.mono (by rfl) (mX7_tuneVoice h6))) (FR.mono (by rfl) (mX6_isSo h18)))
                · rw [if_neg h16] at hf
                  rw [← (Prod.mk.inj (Option.some.inj hf)).2]; exact (FR.trans FR.rf (FR.mono (by rfl) (mX7_tuneVoice h6)))
        · rw [if_neg h4] at hf
          rw [← (Prod.mk.inj (Option.some.inj hf)).2]; exact FR.rf
def wX7_terms_S : List (Nat × Option Nat) := [(0, some 11), (15, some 1), (35, none), (5, none)]
set_option maxHeartbeats 1000000 in
theorem mX7_terms_b22 {r0 : Int32} {u0 : St}  (st : St)  (hf : fX7_terms_b22 st = some (r0, u0)) : FR wX7_terms_S st u0 := by
  unfold fX7_terms_b22 at hf
  exact FR.trans FR.rf (FR.mono (by rfl) (mX7_refused hf))
set_option maxHeartbeats 1000000 in
theorem mX7_terms {r0 : Int32} {u0 : St} {p1 : Int32} {p2 : Int32} {st : St}  (hf : fX7_terms p1 p2 st = some (r0, u0)) : FR wX7_terms_S st u0 := by
  unfold fX7_terms at hf
  by_cases h1 : p1 < 0
  · rw [if_pos h1] at hf
    exact FR.trans FR.rf (mX7_terms_b22  st hf)
  · rw [if_neg h1] at hf
    by_cases h2 : (4 : Int32) ≤ p1
    · rw [if_pos h2] at hf
      exact FR.trans FR.rf (mX7_terms_b22  st hf)
    · rw [if_neg h2] at hf
      by_cases h3 : p2 < 0
      · rw [if_pos h3] at hf
        exact FR.trans FR.rf (mX7_terms_b22  st hf)
      · rw [if_neg h3] at hf
        obtain ⟨h4, hf⟩ := chk_some hf
        by_cases h5 : p2 ≤ (tmax p1.toNatClampNeg)
        · rw [if_pos h5] at hf
          obtain ⟨h6, hf⟩ := chk_some hf
          obtain ⟨h7, hf⟩ := chk_some hf
          obtain ⟨q8, h9, hf⟩ := bnd_some hf
          exact FR.trans (FR.trans (FR.pI (inS_all (by rfl)) FR.rf) (FR.mono (by rfl) (mX2_forget h9))) (FR.mono (by rfl) (mX7_settled hf))
        · rw [if_neg h5] at hf
          exact FR.trans FR.rf (mX7_terms_b22  st hf)
def wX7_feed_S : List (Nat × Option Nat) := [(7, some 2), (8, none)]
set_option maxHeartbeats 1000000 in
theorem mX7_feed {r0 : Int32} {u0 : St} {p1 : Int32} {p2 : Int32} {p3 : Int32} {p4 : Int32} {p5 : Int32} {st : St}  (hf : fX7_feed p1 p2 p3 p4 p5 st = some (r0, u0)) : FR wX7_feed_S st u0 := by
  unfold fX7_feed at hf
  rcases (Classical.em ((fX3_hasRoomFor st (20 : Int32)) = 0)).symm with h1 | h1
  · rw [if_neg h1] at hf
    obtain ⟨q2, h3, hf⟩ := bnd_some hf
    obtain ⟨q4, h5, hf⟩ := bnd_some hf
    obtain ⟨q6, h7, hf⟩ := bnd_some hf
    obtain ⟨q8, h9, hf⟩ := bnd_some hf
    obtain ⟨q10, h11, hf⟩ := bnd_some hf
    rw [← (Prod.mk.inj (Option.some.inj hf)).2]; exact (FR.trans (FR.trans (FR.trans (FR.trans (FR.trans FR.rf (FR.mono (by rfl) (mX3_append h3))) (FR.mono (by rfl) (mX3_append h5))) (FR.mono (by rfl) (mX3_append h7))) (FR.mono (by rfl) (mX3_append h9))) (FR.mono (by rfl) (mX3_append h11)))
  · rw [if_pos h1] at hf
    rw [← (Prod.mk.inj (Option.some.inj hf)).2]; exact FR.rf
def wX7_end_S : List (Nat × Option Nat) := [(7, some 2)]
set_option maxHeartbeats 1000000 in
theorem mX7_end {r0 : Int32} {u0 : St} {p1 : Int32} {st : St}  (hf : fX7_end p1 st = some (r0, u0)) : FR wX7_end_S st u0 := by
  unfold fX7_end at hf
  by_cases h1 : p1 < 0
  · rw [if_pos h1] at hf
    rw [← (Prod.mk.inj (Option.some.inj hf)).2]; exact FR.rf
  · rw [if_neg h1] at hf
    by_cases h2 : p1 ≤ (sI st 7 2)
    · rw [if_pos h2] at hf
      rw [← (Prod.mk.inj (Option.some.inj hf)).2]; exact (FR.pI (by rfl) FR.rf)
    · rw [if_neg h2] at hf
      rw [← (Prod.mk.inj (Option.some.inj hf)).2]; exact FR.rf
def wX7_row_S : List (Nat × Option Nat) := [(0, some 11), (0, some 14), (1, some 4), (1, some 5), (15, some 1), (19, some 6), (2, none), (23, none), (24, none), (35, none), (7, some 2)]
set_option maxHeartbeats 1000000 in
theorem mX7_row_b74 {r0 : Int32} {u0 : St} {k23 : Int32 → Int32 → Int32 → St → Option (Int32 × St)} (hk23 : ∀ (l1 : Int32) (l2 : Int32) (l3 : Int32) (st : St), k23 l1 l2 l3 st = some (r0, u0) → FR wX7_row_S st u0) (l1 : Int32) (l2 : Int32) (l3 : Int32) (st : St)  (hf : fX7_row_b74 k23 l1 l2 l3 st = some (r0, u0)) : FR wX7_row_S st u0 := by
  unfold fX7_row_b74 at hf
  exact FR.trans FR.rf (hk23 l1 l2 (l3 + (1 : Int32)) st hf)
set_option maxHeartbeats 1000000 in
theorem mX7_row_b23 {r0 : Int32} {u0 : St} : ∀ (n : Nat) (l1 : Int32) (l2 : Int32) (l3 : Int32) (st : St) , fX7_row_b23 n l1 l2 l3 st = some (r0, u0) → FR wX7_row_S st u0 := by
  intro n
  induction n with
  | zero =>
    intros
    rename_i hf
    rw [fX7_row_b23] at hf
    cases hf
  | succ n ih =>
    intro l1 l2 l3 st hf
    rw [fX7_row_b23] at hf
    by_cases h1 : l1 ≤ l3
    · rw [if_pos h1] at hf
      obtain ⟨q2, h3, hf⟩ := bnd_some hf
      exact FR.trans (FR.trans (FR.pI (by rfl) (FR.pI (by rfl) FR.rf)) (FR.mono (by rfl) (mX7_ringChanged h3))) (FR.mono (by rfl) (mX7_settled hf))
    · rw [if_neg h1] at hf
      obtain ⟨h4, hf⟩ := chk_some hf
      by_cases h5 : (9 : Int32) < ((sI st 8 l3.toNatClampNeg) &&& (255 : Int32))
      · rw [if_pos h5] at hf
        exact FR.trans FR.rf (mX7_row_b74 ih l1 l2 l3 st hf)
      · rw [if_neg h5] at hf
        by_cases h6 : (6 : Int32) ≤ (sI st 1 4)
        · rw [if_pos h6] at hf
          exact FR.trans FR.rf (mX7_row_b74 ih l1 l2 l3 st hf)
        · rw [if_neg h6] at hf
          obtain ⟨q7, h8, hf⟩ := bnd_some hf
          exact FR.trans (FR.trans FR.rf (FR.mono (by rfl) (mX4_welcome h8))) (mX7_row_b74 ih l1 (l2 + (1 : Int32)) l3 q7 hf)
set_option maxHeartbeats 1000000 in
theorem mX7_row {r0 : Int32} {u0 : St}  {st : St}  (hf : fX7_row st = some (r0, u0)) : FR wX7_row_S st u0 := by
  unfold fX7_row at hf
  rcases (Classical.em ((sI st 7 2) = 0)).symm with h1 | h1
  · rw [if_neg h1] at hf
    exact FR.trans FR.rf (mX7_row_b23  FU (sI st 7 2) (0 : Int32) (0 : Int32) st hf)
  · rw [if_pos h1] at hf
    exact FR.trans FR.rf (FR.mono (by rfl) (mX7_refused hf))
def wX7_gatherFacts_S : List (Nat × Option Nat) := [(36, some 0), (36, some 1), (36, some 2), (36, some 3), (36, some 4), (36, none)]
set_option maxHeartbeats 1000000 in
theorem mX7_gatherFacts_b140 {u0 : St} {k62 : Int32 → St → Option St} (hk62 : ∀ (l3 : Int32) (st : St), k62 l3 st = some u0 → FR wX7_gatherFacts_S st u0) (l3 : Int32) (s1 : Int32) (s2 : Int32) (st : St)  (hf : fX7_gatherFacts_b140 k62 l3 s1 s2 st = some u0) : FR wX7_gatherFacts_S st u0 := by
  unfold fX7_gatherFacts_b140 at hf
  obtain ⟨h1, hf⟩ := chk_some hf
  exact FR.trans (FR.pI (inS_all (by rfl)) FR.rf) (hk62 (l3 + (1 : Int32)) (pI st 36 s1.toNatClampNeg s2) hf)
set_option maxHeartbeats 1000000 in
theorem mX7_gatherFacts_b113 {u0 : St} {k62 : Int32 → St → Option St} (hk62 : ∀ (l3 : Int32) (st : St), k62 l3 st = some u0 → FR wX7_gatherFacts_S st u0) (l3 : Int32) (l4 : Int32) (s1 : Int32) (s2 : Int32) (st : St)  (hf : fX7_gatherFacts_b113 k62 l3 l4 s1 s2 st = some u0) : FR wX7_gatherFacts_S st u0 := by
  unfold fX7_gatherFacts_b113 at hf
  obtain ⟨h1, hf⟩ := chk_some hf
  by_cases h2 : l4 = 0
  · rw [if_pos h2] at hf
    exact FR.trans (FR.pI (inS_all (by rfl)) FR.rf) (mX7_gatherFacts_b140 hk62 l3 ((11 : Int32) + l3) (-1 : Int32) (pI st 36 s1.toNatClampNeg s2) hf)
  · rw [if_neg h2] at hf
    obtain ⟨h3, hf⟩ := chk_some hf
    exact FR.trans (FR.pI (inS_all (by rfl)) FR.rf) (mX7_gatherFacts_b140 hk62 l3 ((11 : Int32) + l3) (sI (pI st 36 s1.toNatClampNeg s2) 2 l3.toNatClampNeg) (pI st 36 s1.toNatClampNeg s2) hf)
set_option maxHeartbeats 1000000 in
theorem mX7_gatherFacts_b84 {u0 : St} {k62 : Int32 → St → Option St} (hk62 : ∀ (l3 : Int32) (st : St), k62 l3 st = some u0 → FR wX7_gatherFacts_S st u0) (l3 : Int32) (s0 : Int32) (st : St)  (hf : fX7_gatherFacts_b84 k62 l3 s0 st = some u0) : FR wX7_gatherFacts_S st u0 := by
  unfold fX7_gatherFacts_b84 at hf
  by_cases h1 : s0 = 0
  · rw [if_pos h1] at hf
    exact FR.trans FR.rf (mX7_gatherFacts_b113 hk62 l3 s0 ((5 : Int32) + l3) (-1 : Int32) st hf)
  · rw [if_neg h1] at hf
    exact FR.trans FR.rf (mX7_gatherFacts_b113 hk62 l3 s0 ((5 : Int32) + l3) ((jshr (sI st 1 5) l3) &&& (1 : Int32)) st hf)
set_option maxHeartbeats 1000000 in
theorem mX7_gatherFacts_b62 {u0 : St} : ∀ (n : Nat) (l3 : Int32) (st : St) , fX7_gatherFacts_b62 n l3 st = some u0 → FR wX7_gatherFacts_S st u0 := by
  intro n
  induction n with
  | zero =>
    intros
    rename_i hf
    rw [fX7_gatherFacts_b62] at hf
    cases hf
  | succ n ih =>
    intro l3 st hf
    rw [fX7_gatherFacts_b62] at hf
    by_cases h1 : (6 : Int32) ≤ l3
    · rw [if_pos h1] at hf
      rw [← Option.some.inj hf]; exact FR.rf
    · rw [if_neg h1] at hf
      by_cases h2 : (sI st 1 4) ≤ l3
      · rw [if_pos h2] at hf
        exact FR.trans FR.rf (mX7_gatherFacts_b84 ih l3 (0 : Int32) st hf)
      · rw [if_neg h2] at hf
        exact FR.trans FR.rf (mX7_gatherFacts_b84 ih l3 (1 : Int32) st hf)
set_option maxHeartbeats 1000000 in
theorem mX7_gatherFacts {u0 : St} {p1 : Int32} {p2 : Int32} {st : St}  (hf : fX7_gatherFacts p1 p2 st = some u0) : FR wX7_gatherFacts_S st u0 := by
  unfold fX7_gatherFacts at hf
  exact FR.trans (FR.pI (by rfl) (FR.pI (by rfl) (FR.pI (by rfl) (FR.pI (by rfl) (FR.pI (by rfl) FR.rf))))) (mX7_gatherFacts_b62  FU (0 : Int32) (pI (pI (pI (pI (pI st 36 0 (sI st 5 0)) 36 1 p1) 36 2 p2) 36 3 (fJ6_bitCount_0f7a4 (sI (pI (pI (pI st 36 0 (sI st 5 0)) 36 1 p1) 36 2 p2) 1 5))) 36 4 (sI (pI (pI (pI (pI st 36 0 (sI st 5 0)) 36 1 p1) 36 2 p2) 36 3 (fJ6_bitCount_0f7a4 (sI (pI (pI (pI st 36 0 (sI st 5 0)) 36 1 p1) 36 2 p2) 1 5))) 5 1)) hf)
def wX7_performSaying_S : List (Nat × Option Nat) := [(1, some 5), (15, some 1), (16, none), (19, some 10), (19, some 6), (19, some 7), (19, some 8), (19, some 9), (20, some 0), (20, some 1), (20, some 2), (20, some 3), (20, some 4), (20, some 5), (20, some 6), (21, none), (22, none), (23, none), (24, none), (5, some 1)]
set_option maxHeartbeats 1000000 in
theorem mX7_performSaying {r0 : Int32} {u0 : St} {p1 : Int32} {st : St}  (hf : fX7_performSaying p1 st = some (r0, u0)) : FR wX7_performSaying_S st u0 := by
  unfold fX7_performSaying at hf
  by_cases h1 : (fX4_lacksRhyme st p1) = 0
  · rw [if_pos h1] at hf
    by_cases h2 : (2 : Int32) ≤ (fJ6_bitCount_0f7a4 (sI st 1 5))
    · rw [if_pos h2] at hf
      obtain ⟨q3, h4, hf⟩ := bnd_some hf
      obtain ⟨q5, h6, hf⟩ := bnd_some hf
      obtain ⟨q7, h8, hf⟩ := bnd_some hf
      obtain ⟨q9, h10, hf⟩ := bnd_some hf
      obtain ⟨q11, h12, hf⟩ := bnd_some hf
      rw [← (Prod.mk.inj (Option.some.inj hf)).2]; exact (FR.trans (FR.trans (FR.trans (FR.trans FR.rf (FR.mono (by rfl) (mX7_tuneVoice h4))) (FR.mono (by rfl) (mX6_speak h8))) (FR.mono (by rfl) (mX2_keep h10))) (FR.mono (by rfl) (mX4_settle h12)))
    · rw [if_neg h2] at hf
      rw [← (Prod.mk.inj (Option.some.inj hf)).2]; exact FR.rf
  · rw [if_neg h1] at hf
    rw [← (Prod.mk.inj (Option.some.inj hf)).2]; exact FR.rf
def wX7_performMove_S : List (Nat × Option Nat) := [(1, some 5), (15, some 1), (16, none)]
set_option maxHeartbeats 1000000 in
theorem mX7_performMove_b46 {r0 : Int32} {u0 : St} (l1 : Int32) (l2 : Int32) (s0 : Int32) (s1 : Int32) (st : St)  (hf : fX7_performMove_b46 l1 l2 s0 s1 st = some (r0, u0)) : FR wX7_performMove_S st u0 := by
  unfold fX7_performMove_b46 at hf
  rcases (Classical.em (s0 = s1)).symm with h1 | h1
  · rw [if_neg h1] at hf
    obtain ⟨q2, h3, hf⟩ := bnd_some hf
    rw [← (Prod.mk.inj (Option.some.inj hf)).2]; exact (FR.pI (by rfl) (FR.trans FR.rf (FR.mono (by rfl) (mX2_keep h3))))
  · rw [if_pos h1] at hf
    rw [← (Prod.mk.inj (Option.some.inj hf)).2]; exact FR.rf
set_option maxHeartbeats 1000000 in
theorem mX7_performMove_b34 {r0 : Int32} {u0 : St} (l1 : Int32) (l2 : Int32) (s0 : Int32) (st : St)  (hf : fX7_performMove_b34 l1 l2 s0 st = some (r0, u0)) : FR wX7_performMove_S st u0 := by
  unfold fX7_performMove_b34 at hf
  rcases (Classical.em (l1 = (1 : Int32))).symm with h1 | h1
  · rw [if_neg h1] at hf
    exact FR.trans FR.rf (mX7_performMove_b46  l1 l2 s0 (0 : Int32) st hf)
  · rw [if_pos h1] at hf
    exact FR.trans FR.rf (mX7_performMove_b46  l1 l2 s0 (1 : Int32) st hf)
set_option maxHeartbeats 1000000 in
theorem mX7_performMove {r0 : Int32} {u0 : St} {p1 : Int32} {p2 : Int32} {st : St}  (hf : fX7_performMove p1 p2 st = some (r0, u0)) : FR wX7_performMove_S st u0 := by
  unfold fX7_performMove at hf
  by_cases h1 : (fX4_lacksChild st p2) = 0
  · rw [if_pos h1] at hf
    rcases (Classical.em (((jshr (sI st 1 5) p2) &&& (1 : Int32)) = (1 : Int32))).symm with h2 | h2
    · rw [if_neg h2] at hf
      exact FR.trans FR.rf (mX7_performMove_b34  p1 p2 (0 : Int32) st hf)
    · rw [if_pos h2] at hf
      exact FR.trans FR.rf (mX7_performMove_b34  p1 p2 (1 : Int32) st hf)
  · rw [if_neg h1] at hf
    rw [← (Prod.mk.inj (Option.some.inj hf)).2]; exact FR.rf
def wX7_performRound_S : List (Nat × Option Nat) := [(1, some 5), (15, some 1), (16, none), (5, some 0), (5, some 1)]
set_option maxHeartbeats 1000000 in
theorem mX7_performRound {r0 : Int32} {u0 : St}  {st : St}  (hf : fX7_performRound st = some (r0, u0)) : FR wX7_performRound_S st u0 := by
  unfold fX7_performRound at hf
  by_cases h1 : (sI st 5 0) < (999 : Int32)
  · rw [if_pos h1] at hf
    obtain ⟨q2, h3, hf⟩ := bnd_some hf
    obtain ⟨q4, h5, hf⟩ := bnd_some hf
    rw [← (Prod.mk.inj (Option.some.inj hf)).2]; exact (FR.pI (by rfl) (FR.trans (FR.trans FR.rf (FR.mono (by rfl) (mX2_keep h3))) (FR.mono (by rfl) (mX4_settle h5))))
  · rw [if_neg h1] at hf
    rw [← (Prod.mk.inj (Option.some.inj hf)).2]; exact FR.rf
def wX7_runClause_S : List (Nat × Option Nat) := [(1, some 5), (15, some 1), (16, none), (19, some 10), (19, some 6), (19, some 7), (19, some 8), (19, some 9), (20, some 0), (20, some 1), (20, some 2), (20, some 3), (20, some 4), (20, some 5), (20, some 6), (21, none), (22, none), (23, none), (24, none), (37, none), (5, some 0), (5, some 1)]
set_option maxHeartbeats 1000000 in
theorem mX7_runClause_b40 {r0 : Int32} {u0 : St} (l2 : Int32) (l3 : Int32) (st : St)  (hf : fX7_runClause_b40 l2 l3 st = some (r0, u0)) : FR wX7_runClause_S st u0 := by
  unfold fX7_runClause_b40 at hf
  obtain ⟨h1, hf⟩ := chk_some hf
  by_cases h2 : sI st 10 l2.toNatClampNeg = (0 : Int32)
  · rw [if_pos h2] at hf
    exact FR.trans FR.rf (FR.mono (by rfl) (mX7_performSaying hf))
  · rw [if_neg h2] at hf
    by_cases h3 : sI st 10 l2.toNatClampNeg = (1 : Int32)
    · rw [if_pos h3] at hf
      obtain ⟨h4, hf⟩ := chk_some hf
      exact FR.trans FR.rf (FR.mono (by rfl) (mX7_performMove hf))
    · rw [if_neg h3] at hf
      by_cases h5 : sI st 10 l2.toNatClampNeg = (2 : Int32)
      · rw [if_pos h5] at hf
        obtain ⟨h6, hf⟩ := chk_some hf
        exact FR.trans FR.rf (FR.mono (by rfl) (mX7_performMove hf))
      · rw [if_neg h5] at hf
        exact FR.trans FR.rf (FR.mono (by rfl) (mX7_performRound hf))
set_option maxHeartbeats 1000000 in
theorem mX7_runClause {r0 : Int32} {u0 : St} {p2 : Int32} {st : St}  (hf : fX7_runClause p2 st = some (r0, u0)) : FR wX7_runClause_S st u0 := by
  unfold fX7_runClause at hf
  obtain ⟨h1, hf⟩ := chk_some hf
  by_cases h2 : (sI st 12 p2.toNatClampNeg) = 0
  · rw [if_pos h2] at hf
    exact FR.trans FR.rf (mX7_runClause_b40  p2 (0 : Int32) st hf)
  · rw [if_neg h2] at hf
    obtain ⟨h3, hf⟩ := chk_some hf
    obtain ⟨q5, h6, hf⟩ := bnd_some hf
    rcases (Classical.em (q5.1 = (-2000000000 : Int32))).symm with h7 | h7
    · rw [if_neg h7] at hf
      exact FR.trans (FR.trans FR.rf (FR.mono (by rfl) (mX5_worth h6))) (mX7_runClause_b40  p2 q5.1 q5.2 hf)
    · rw [if_pos h7] at hf
      rw [← (Prod.mk.inj (Option.some.inj hf)).2]; exact (FR.trans FR.rf (FR.mono (by rfl) (mX5_worth h6)))
def wX7_runWhollyOrNot_S : List (Nat × Option Nat) := [(0, some 13), (1, some 5), (15, some 1), (16, none), (17, some 1), (18, none), (19, some 10), (19, some 6), (19, some 7), (19, some 8), (19, some 9), (20, some 0), (20, some 1), (20, some 2), (20, some 3), (20, some 4), (20, some 5), (20, some 6), (21, none), (22, none), (23, none), (24, none), (36, some 0), (36, some 1), (36, some 2), (36, some 3), (36, some 4), (36, none), (37, none), (5, some 0), (5, some 1)]
set_option maxHeartbeats 1000000 in
theorem mX7_runWhollyOrNot_b191 {r0 : Int32} {u0 : St} {k49 : Int32 → Int32 → Int32 → Int32 → Int32 → Int32 → St → Option (Int32 × St)} (hk49 : ∀ (l2 : Int32) (l3 : Int32) (l4 : Int32) (l5 : Int32) (l6 : Int32) (l7 : Int32) (st : St), k49 l2 l3 l4 l5 l6 l7 st = some (r0, u0) → FR wX7_runWhollyOrNot_S st u0) {k61 : Int32 → Int32 → Int32 → Int32 → Int32 → Int32 → Int32 → St → Option (Int32 × St)} (hk61 : ∀ (l2 : Int32) (l3 : Int32) (l4 : Int32) (l5 : Int32) (l6 : Int32) (l7 : Int32) (l8 : Int32) (st : St), k61 l2 l3 l4 l5 l6 l7 l8 st = some (r0, u0) → FR wX7_runWhollyOrNot_S st u0) (l2 : Int32) (l3 : Int32) (l4 : Int32) (l5 : Int32) (l6 : Int32) (l7 : Int32) (l8 : Int32) (st : St)  (hf : fX7_runWhollyOrNot_b191 k49 k61 l2 l3 l4 l5 l6 l7 l8 st = some (r0, u0)) : FR wX7_runWhollyOrNot_S st u0 := by
  unfold fX7_runWhollyOrNot_b191 at hf
  exact FR.trans FR.rf (hk61 l2 l3 l4 l5 l6 l7 (l8 + (1 : Int32)) st hf)
set_option maxHeartbeats 1000000 in
theorem mX7_runWhollyOrNot_b116 {r0 : Int32} {u0 : St} {k49 : Int32 → Int32 → Int32 → Int32 → Int32 → Int32 → St → Option (Int32 × St)} (hk49 : ∀ (l2 : Int32) (l3 : Int32) (l4 : Int32) (l5 : Int32) (l6 : Int32) (l7 : Int32) (st : St), k49 l2 l3 l4 l5 l6 l7 st = some (r0, u0) → FR wX7_runWhollyOrNot_S st u0) {k61 : Int32 → Int32 → Int32 → Int32 → Int32 → Int32 → Int32 → St → Option (Int32 × St)} (hk61 : ∀ (l2 : Int32) (l3 : Int32) (l4 : Int32) (l5 : Int32) (l6 : Int32) (l7 : Int32) (l8 : Int32) (st : St), k61 l2 l3 l4 l5 l6 l7 l8 st = some (r0, u0) → FR wX7_runWhollyOrNot_S st u0) (l2 : Int32) (l3 : Int32) (l4 : Int32) (l5 : Int32) (l6 : Int32) (l7 : Int32) (l8 : Int32) (st : St)  (hf : fX7_runWhollyOrNot_b116 k49 k61 l2 l3 l4 l5 l6 l7 l8 st = some (r0, u0)) : FR wX7_runWhollyOrNot_S st u0 := by
  unfold fX7_runWhollyOrNot_b116 at hf
  obtain ⟨q1, h2, hf⟩ := bnd_some hf
  by_cases h3 : 0 ≤ q1.1
  · rw [if_pos h3] at hf
    obtain ⟨h4, hf⟩ := chk_some hf
    rcases (Classical.em ((sI q1.2 10 l7.toNatClampNeg) = 0)).symm with h5 | h5
    · rw [if_neg h5] at hf
      exact FR.trans (FR.trans FR.rf (FR.mono (by rfl) (mX7_runClause h2))) (mX7_runWhollyOrNot_b191 hk49 hk61 l2 l3 l4 (l5 + (1 : Int32)) l6 l7 l8 q1.2 hf)
    · rw [if_pos h5] at hf
      exact FR.trans (FR.trans FR.rf (FR.mono (by rfl) (mX7_runClause h2))) (mX7_runWhollyOrNot_b191 hk49 hk61 l2 l3 l4 (l5 + (1 : Int32)) q1.1 l7 l8 q1.2 hf)
  · rw [if_neg h3] at hf
    obtain ⟨q6, h7, hf⟩ := bnd_some hf
    obtain ⟨q9, h10, hf⟩ := bnd_some hf
    rw [← (Prod.mk.inj (Option.some.inj hf)).2]; exact (FR.pI (by rfl) (FR.trans (FR.pI (by rfl) (FR.trans (FR.trans FR.rf (FR.mono (by rfl) (mX7_runClause h2))) (FR.mono (by rfl) (mX4_settle h7)))) (FR.mono (by rfl) (mX2_becomes h10))))
set_option maxHeartbeats 1000000 in
theorem mX7_runWhollyOrNot_b61 {r0 : Int32} {u0 : St} {k49 : Int32 → Int32 → Int32 → Int32 → Int32 → Int32 → St → Option (Int32 × St)} (hk49 : ∀ (l2 : Int32) (l3 : Int32) (l4 : Int32) (l5 : Int32) (l6 : Int32) (l7 : Int32) (st : St), k49 l2 l3 l4 l5 l6 l7 st = some (r0, u0) → FR wX7_runWhollyOrNot_S st u0) : ∀ (n : Nat) (l2 : Int32) (l3 : Int32) (l4 : Int32) (l5 : Int32) (l6 : Int32) (l7 : Int32) (l8 : Int32) (st : St) , fX7_runWhollyOrNot_b61 k49 n l2 l3 l4 l5 l6 l7 l8 st = some (r0, u0) → FR wX7_runWhollyOrNot_S st u0 := by
  intro n
  induction n with
  | zero =>
    intros
    rename_i hf
    rw [fX7_runWhollyOrNot_b61] at hf
    cases hf
  | succ n ih =>
    intro l2 l3 l4 l5 l6 l7 l8 st hf
    rw [fX7_runWhollyOrNot_b61] at hf
    obtain ⟨h1, hf⟩ := chk_some hf
    by_cases h2 : (sI st 11 l7.toNatClampNeg) ≤ l8
    · rw [if_pos h2] at hf
      exact FR.trans FR.rf (hk49 l2 l3 l4 l5 l6 (l7 + (1 : Int32)) st hf)
    · rw [if_neg h2] at hf
      obtain ⟨q3, h4, hf⟩ := bnd_some hf
      obtain ⟨h5, hf⟩ := chk_some hf
      by_cases h6 : (sI q3 13 l7.toNatClampNeg) = 0
      · rw [if_pos h6] at hf
        exact FR.trans (FR.trans FR.rf (FR.mono (by rfl) (mX7_gatherFacts h4))) (mX7_runWhollyOrNot_b116 hk49 ih l2 l3 l4 l5 l6 l7 l8 q3 hf)
      · rw [if_neg h6] at hf
        obtain ⟨q8, h9, hf⟩ := bnd_some hf
        by_cases h10 : q8.1 = (1 : Int32)
        · rw [if_pos h10] at hf
          exact FR.trans (FR.trans (FR.trans FR.rf (FR.mono (by rfl) (mX7_gatherFacts h4))) (FR.mono (by rfl) (mX5_worth h9))) (mX7_runWhollyOrNot_b116 hk49 ih l2 l3 l4 l5 l6 l7 l8 q8.2 hf)
        · rw [if_neg h10] at hf
          exact FR.trans (FR.trans (FR.trans FR.rf (FR.mono (by rfl) (mX7_gatherFacts h4))) (FR.mono (by rfl) (mX5_worth h9))) (mX7_runWhollyOrNot_b191 hk49 ih l2 l3 l4 l5 l6 l7 l8 q8.2 hf)
set_option maxHeartbeats 1000000 in
theorem mX7_runWhollyOrNot_b49 {r0 : Int32} {u0 : St} : ∀ (n : Nat) (l2 : Int32) (l3 : Int32) (l4 : Int32) (l5 : Int32) (l6 : Int32) (l7 : Int32) (st : St) , fX7_runWhollyOrNot_b49 n l2 l3 l4 l5 l6 l7 st = some (r0, u0) → FR wX7_runWhollyOrNot_S st u0 := by
  intro n
  induction n with
  | zero =>
    intros
    rename_i hf
    rw [fX7_runWhollyOrNot_b49] at hf
    cases hf
  | succ n ih =>
    intro l2 l3 l4 l5 l6 l7 st hf
    rw [fX7_runWhollyOrNot_b49] at hf
    by_cases h1 : (sI st 9 5) ≤ l7
    · rw [if_pos h1] at hf
      rw [← (Prod.mk.inj (Option.some.inj hf)).2]; exact FR.rf
    · rw [if_neg h1] at hf
      exact FR.trans FR.rf (mX7_runWhollyOrNot_b61 ih FU l2 l3 l4 l5 l6 l7 (0 : Int32) st hf)
set_option maxHeartbeats 1000000 in
theorem mX7_runWhollyOrNot {r0 : Int32} {u0 : St}  {st : St}  (hf : fX7_runWhollyOrNot st = some (r0, u0)) : FR wX7_runWhollyOrNot_S st u0 := by
  unfold fX7_runWhollyOrNot at hf
  obtain ⟨q2, h3, hf⟩ := bnd_some hf
  exact FR.trans (FR.trans FR.rf (FR.mono (by rfl) (mX2_becomes h3))) (mX7_runWhollyOrNot_b49  FU (sI st 1 5) (sI st 5 1) (sI st 5 0) (0 : Int32) (-1 : Int32) (0 : Int32) q2 hf)
def wX7_answered_S : List (Nat × Option Nat) := [(0, some 11), (35, none)]
set_option maxHeartbeats 1000000 in
theorem mX7_answered {r0 : Int32} {u0 : St} {p1 : Int32} {st : St}  (hf : fX7_answered p1 st = some (r0, u0)) : FR wX7_answered_S st u0 := by
  unfold fX7_answered at hf
  by_cases h1 : 0 ≤ p1
  · rw [if_pos h1] at hf
    exact FR.trans FR.rf (FR.mono (by rfl) (mX7_settled hf))
  · rw [if_neg h1] at hf
    obtain ⟨q2, h3, hf⟩ := bnd_some hf
    rw [← (Prod.mk.inj (Option.some.inj hf)).2]; exact (FR.trans FR.rf (FR.mono (by rfl) (mX7_refused h3)))
def wX7_orders_S : List (Nat × Option Nat) := [(0, some 11), (0, some 12), (0, some 13), (1, some 5), (10, none), (11, none), (12, none), (13, none), (14, none), (15, some 1), (16, none), (17, some 1), (18, none), (19, some 10), (19, some 6), (19, some 7), (19, some 8), (19, some 9), (20, some 0), (20, some 1), (20, some 2), (20, some 3), (20, some 4), (20, some 5), (20, some 6), (21, none), (22, none), (23, none), (24, none), (35, none), (36, some 0), (36, some 1), (36, some 2), (36, some 3), (36, some 4), (36, none), (37, none), (5, some 0), (5, some 1), (7, some 2), (7, some 3), (7, some 4), (7, some 5), (7, some 6), (7, some 7), (7, some 8), (9, some 5), (9, some 6), (9, some 7)]
set_option maxHeartbeats 1000000 in
theorem mX7_orders {r0 : Int32} {u0 : St}  {st : St}  (hf : fX7_orders st = some (r0, u0)) : FR wX7_orders_S st u0 := by
  unfold fX7_orders at hf
  obtain ⟨q1, h2, hf⟩ := bnd_some hf
  by_cases h3 : (sI (pI q1.2 0 12 q1.1) 0 12) = (-1 : Int32)
  · rw [if_pos h3] at hf
    obtain ⟨q4, h5, hf⟩ := bnd_some hf
    exact FR.trans (FR.trans (FR.pI (by rfl) (FR.trans (FR.pI (by rfl) FR.rf) (FR.mono (by rfl) (mX3_readAll h2)))) (FR.mono (by rfl) (mX7_runWhollyOrNot h5))) (FR.mono (by rfl) (mX7_answered hf))
  · rw [if_neg h3] at hf
    exact FR.trans (FR.pI (by rfl) (FR.trans (FR.pI (by rfl) FR.rf) (FR.mono (by rfl) (mX3_readAll h2)))) (FR.mono (by rfl) (mX7_refused hf))
def wX7_force_S : List (Nat × Option Nat) := [(0, some 11), (1, some 8), (35, none)]
set_option maxHeartbeats 1000000 in
theorem mX7_force_b23 {r0 : Int32} {u0 : St} (l1 : Int32) (st : St)  (hf : fX7_force_b23 l1 st = some (r0, u0)) : FR wX7_force_S st u0 := by
  unfold fX7_force_b23 at hf
  exact FR.trans (FR.pI (by rfl) FR.rf) (FR.mono (by rfl) (mX7_settled hf))
set_option maxHeartbeats 1000000 in
theorem mX7_force {r0 : Int32} {u0 : St} {p1 : Int32} {st : St}  (hf : fX7_force p1 st = some (r0, u0)) : FR wX7_force_S st u0 := by
  unfold fX7_force at hf
  by_cases h1 : p1 = (-1 : Int32)
  · rw [if_pos h1] at hf
    exact FR.trans FR.rf (mX7_force_b23  p1 st hf)
  · rw [if_neg h1] at hf
    by_cases h2 : (fX4_lacksLaw st p1) = 0
    · rw [if_pos h2] at hf
      exact FR.trans FR.rf (mX7_force_b23  p1 st hf)
    · rw [if_neg h2] at hf
      exact FR.trans FR.rf (FR.mono (by rfl) (mX7_refused hf))
def wX7_say_S : List (Nat × Option Nat) := [(0, some 11), (1, some 5), (15, some 1), (16, none), (19, some 10), (19, some 6), (19, some 7), (19, some 8), (19, some 9), (20, some 0), (20, some 1), (20, some 2), (20, some 3), (20, some 4), (20, some 5), (20, some 6), (21, none), (22, none), (23, none), (24, none), (35, none), (5, some 1)]
set_option maxHeartbeats 1000000 in
theorem mX7_say {r0 : Int32} {u0 : St} {p1 : Int32} {st : St}  (hf : fX7_say p1 st = some (r0, u0)) : FR wX7_say_S st u0 := by
  unfold fX7_say at hf
  obtain ⟨q1, h2, hf⟩ := bnd_some hf
  exact FR.trans (FR.trans FR.rf (FR.mono (by rfl) (mX7_performSaying h2))) (FR.mono (by rfl) (mX7_answered hf))
def wX7_falls_S : List (Nat × Option Nat) := [(19, some 10), (19, some 6), (19, some 7), (19, some 8), (19, some 9), (20, some 0), (20, some 1), (20, some 2), (20, some 3), (20, some 4), (20, some 5), (20, some 6), (21, none), (22, none), (23, none), (24, none)]
set_option maxHeartbeats 1000000 in
theorem mX7_falls {r0 : Int32} {u0 : St} {p1 : Int32} {p2 : Int32} {st : St}  (hf : fX7_falls p1 p2 st = some (r0, u0)) : FR wX7_falls_S st u0 := by
  unfold fX7_falls at hf
  rcases (Classical.em ((fX4_lacksRhyme st p1) = 0)).symm with h1 | h1
  · rw [if_neg h1] at hf
    rw [← (Prod.mk.inj (Option.some.inj hf)).2]; exact FR.rf
  · rw [if_pos h1] at hf
    by_cases h2 : p2 < 0
    · rw [if_pos h2] at hf
      rw [← (Prod.mk.inj (Option.some.inj hf)).2]; exact FR.rf
    · rw [if_neg h2] at hf
      by_cases h3 : (15 : Int32) < p2
      · rw [if_pos h3] at hf
        rw [← (Prod.mk.inj (Option.some.inj hf)).2]; exact FR.rf
      · rw [if_neg h3] at hf
        by_cases h4 : (2 : Int32) ≤ (fJ6_bitCount_0f7a4 (sI st 1 5))
        · rw [if_pos h4] at hf
          rcases (Classical.em (p2 = 0)).symm with h5 | h5
          · rw [if_neg h5] at hf
            obtain ⟨q6, h7, hf⟩ := bnd_some hf
            obtain ⟨q8, h9, hf⟩ := bnd_some hf
            obtain ⟨q10, h11, hf⟩ := bnd_some hf
            by_cases h12 : p2 ≤ (sI q10.2 19 10)
            · rw [if_pos h12] at hf
              obtain ⟨h13, hf⟩ := chk_some hf
              rw [← (Prod.mk.inj (Option.some.inj hf)).2]; exact (FR.trans (FR.trans FR.rf (FR.mono (by rfl) (mX7_tuneVoice h7))) (FR.mono (by rfl) (mX6_speak h11)))
            · rw [if_neg h12] at hf
              rw [← (Prod.mk.inj (Option.some.inj hf)).2]; exact (FR.trans (FR.trans FR.rf (FR.mono (by rfl) (mX7_tuneVoice h7))) (FR.mono (by rfl) (mX6_speak h11)))
          · rw [if_pos h5] at hf
            obtain ⟨q14, h15, hf⟩ := bnd_some hf
            obtain ⟨q16, h17, hf⟩ := bnd_some hf
            rw [← (Prod.mk.inj (Option.some.inj hf)).2]; exact FR.rf
        · rw [if_neg h4] at hf
          rw [← (Prod.mk.inj (Option.some.inj hf)).2]; exact FR.rf
def wX7_join_S : List (Nat × Option Nat) := [(0, some 11), (1, some 5), (15, some 1), (16, none), (35, none)]
set_option maxHeartbeats 1000000 in
theorem mX7_join {r0 : Int32} {u0 : St} {p1 : Int32} {st : St}  (hf : fX7_join p1 st = some (r0, u0)) : FR wX7_join_S st u0 := by
  unfold fX7_join at hf
  obtain ⟨q1, h2, hf⟩ := bnd_some hf
  exact FR.trans (FR.trans FR.rf (FR.mono (by rfl) (mX7_performMove h2))) (FR.mono (by rfl) (mX7_answered hf))
def wX7_leave_S : List (Nat × Option Nat) := [(0, some 11), (1, some 5), (15, some 1), (16, none), (35, none)]
set_option maxHeartbeats 1000000 in
theorem mX7_leave {r0 : Int32} {u0 : St} {p1 : Int32} {st : St}  (hf : fX7_leave p1 st = some (r0, u0)) : FR wX7_leave_S st u0 := by
  unfold fX7_leave at hf
  obtain ⟨q1, h2, hf⟩ := bnd_some hf
  exact FR.trans (FR.trans FR.rf (FR.mono (by rfl) (mX7_performMove h2))) (FR.mono (by rfl) (mX7_answered hf))
def wX7_pass_S : List (Nat × Option Nat) := [(0, some 11), (1, some 5), (15, some 1), (16, none), (35, none), (5, some 0), (5, some 1)]
set_option maxHeartbeats 1000000 in
theorem mX7_pass {r0 : Int32} {u0 : St}  {st : St}  (hf : fX7_pass st = some (r0, u0)) : FR wX7_pass_S st u0 := by
  unfold fX7_pass at hf
  obtain ⟨q1, h2, hf⟩ := bnd_some hf
  exact FR.trans (FR.trans FR.rf (FR.mono (by rfl) (mX7_performRound h2))) (FR.mono (by rfl) (mX7_answered hf))
def wX7_undo_S : List (Nat × Option Nat) := [(0, some 11), (1, some 5), (15, some 1), (35, none), (5, some 0), (5, some 1)]
set_option maxHeartbeats 1000000 in
theorem mX7_undo {r0 : Int32} {u0 : St}  {st : St}  (hf : fX7_undo st = some (r0, u0)) : FR wX7_undo_S st u0 := by
  unfold fX7_undo at hf
  obtain ⟨q1, h2, hf⟩ := bnd_some hf
  rcases (Classical.em (q1.1 = (-1 : Int32))).symm with h3 | h3
  · rw [if_neg h3] at hf
    exact FR.trans (FR.trans FR.rf (FR.mono (by rfl) (mX2_takeBack h2))) (FR.mono (by rfl) (mX7_settled hf))
  · rw [if_pos h3] at hf
    obtain ⟨q4, h5, hf⟩ := bnd_some hf
    rw [← (Prod.mk.inj (Option.some.inj hf)).2]; exact (FR.trans (FR.trans FR.rf (FR.mono (by rfl) (mX2_takeBack h2))) (FR.mono (by rfl) (mX7_refused h5)))
def wX7_left_S : List (Nat × Option Nat) := [(19, some 10), (19, some 6), (19, some 7), (19, some 8), (19, some 9), (20, some 0), (20, some 1), (20, some 2), (20, some 3), (20, some 4), (20, some 5), (20, some 6), (21, none), (22, none), (23, none), (24, none), (25, some 9), (26, none)]
set_option maxHeartbeats 1000000 in
theorem mX7_left {r0 : Int32} {u0 : St} {p1 : Int32} {p2 : Int32} {st : St}  (hf : fX7_left p1 p2 st = some (r0, u0)) : FR wX7_left_S st u0 := by
  unfold fX7_left at hf
  by_cases h1 : (fX4_lacksRhyme st p1) = 0
  · rw [if_pos h1] at hf
    obtain ⟨q2, h3, hf⟩ := bnd_some hf
    obtain ⟨q4, h5, hf⟩ := bnd_some hf
    obtain ⟨q6, h7, hf⟩ := bnd_some hf
    by_cases h8 : p2 = (-1 : Int32)
    · rw [if_pos h8] at hf
      rw [← (Prod.mk.inj (Option.some.inj hf)).2]; exact (FR.trans (FR.trans FR.rf (FR.mono (by rfl) (mX7_tuneVoice h3))) (FR.mono (by rfl) (mX1_lastBy h7)))
    · rw [if_neg h8] at hf
      rcases (Classical.em (q6.1 = (-1 : Int32))).symm with h9 | h9
      · rw [if_neg h9] at hf
        by_cases h10 : p2 < 0
        · rw [if_pos h10] at hf
          rw [← (Prod.mk.inj (Option.some.inj hf)).2]; exact (FR.trans (FR.trans FR.rf (FR.mono (by rfl) (mX7_tuneVoice h3))) (FR.mono (by rfl) (mX1_lastBy h7)))
        · rw [if_neg h10] at hf
          by_cases h11 : p2 < (sI q6.2 25 9)
          · rw [if_pos h11] at hf
            obtain ⟨h12, hf⟩ := chk_some hf
            rw [← (Prod.mk.inj (Option.some.inj hf)).2]; exact (FR.trans (FR.trans FR.rf (FR.mono (by rfl) (mX7_tuneVoice h3))) (FR.mono (by rfl) (mX1_lastBy h7)))
          · rw [if_neg h11] at hf
            rw [← (Prod.mk.inj (Option.some.inj hf)).2]; exact (FR.trans (FR.trans FR.rf (FR.mono (by rfl) (mX7_tuneVoice h3))) (FR.mono (by rfl) (mX1_lastBy h7)))
      · rw [if_pos h9] at hf
        rw [← (Prod.mk.inj (Option.some.inj hf)).2]; exact (FR.trans (FR.trans FR.rf (FR.mono (by rfl) (mX7_tuneVoice h3))) (FR.mono (by rfl) (mX1_lastBy h7)))
  · rw [if_neg h1] at hf
    rw [← (Prod.mk.inj (Option.some.inj hf)).2]; exact FR.rf
def wX7_safe_S : List (Nat × Option Nat) := [(19, some 10), (19, some 6), (19, some 7), (19, some 8), (19, some 9), (20, some 0), (20, some 1), (20, some 2), (20, some 3), (20, some 4), (20, some 5), (20, some 6), (21, none), (22, none), (23, none), (24, none), (25, some 9), (26, none)]
set_option maxHeartbeats 1000000 in
theorem mX7_safe_b77 {r0 : Int32} {u0 : St} {k33 : Int32 → Int32 → Int32 → Int32 → St → Option (Int32 × St)} (hk33 : ∀ (l1 : Int32) (l2 : Int32) (l3 : Int32) (l4 : Int32) (st : St), k33 l1 l2 l3 l4 st = some (r0, u0) → FR wX7_safe_S st u0) (l1 : Int32) (l2 : Int32) (l3 : Int32) (l4 : Int32) (st : St)  (hf : fX7_safe_b77 k33 l1 l2 l3 l4 st = some (r0, u0)) : FR wX7_safe_S st u0 := by
  unfold fX7_safe_b77 at hf
  exact FR.trans FR.rf (hk33 l1 l2 l3 (l4 + (1 : Int32)) st hf)
set_option maxHeartbeats 1000000 in
theorem mX7_safe_b33 {r0 : Int32} {u0 : St} : ∀ (n : Nat) (l1 : Int32) (l2 : Int32) (l3 : Int32) (l4 : Int32) (st : St) , fX7_safe_b33 n l1 l2 l3 l4 st = some (r0, u0) → FR wX7_safe_S st u0 := by
  intro n
  induction n with
  | zero =>
    intros
    rename_i hf
    rw [fX7_safe_b33] at hf
    cases hf
  | succ n ih =>
    intro l1 l2 l3 l4 st hf
    rw [fX7_safe_b33] at hf
    by_cases h1 : (sI st 1 4) ≤ l4
    · rw [if_pos h1] at hf
      rw [← (Prod.mk.inj (Option.some.inj hf)).2]; exact FR.rf
    · rw [if_neg h1] at hf
      obtain ⟨q2, h3, hf⟩ := bnd_some hf
      rcases (Classical.em (q2.1 = l1)).symm with h4 | h4
      · rw [if_neg h4] at hf
        exact FR.trans (FR.trans FR.rf (FR.mono (by rfl) (mX1_lastBy h3))) (mX7_safe_b77 ih l1 l2 l3 l4 q2.2 hf)
      · rw [if_pos h4] at hf
        exact FR.trans (FR.trans FR.rf (FR.mono (by rfl) (mX1_lastBy h3))) (mX7_safe_b77 ih l1 l2 (l3 ||| (jshl (1 : Int32) l4)) l4 q2.2 hf)
set_option maxHeartbeats 1000000 in
theorem mX7_safe {r0 : Int32} {u0 : St} {p1 : Int32} {p2 : Int32} {st : St}  (hf : fX7_safe p1 p2 st = some (r0, u0)) : FR wX7_safe_S st u0 := by
  unfold fX7_safe at hf
  rcases (Classical.em ((fX4_lacksChild st p1) = 0)).symm with h1 | h1
  · rw [if_neg h1] at hf
    rw [← (Prod.mk.inj (Option.some.inj hf)).2]; exact FR.rf
  · rw [if_pos h1] at hf
    by_cases h2 : (fX4_lacksRhyme st p2) = 0
    · rw [if_pos h2] at hf
      obtain ⟨q3, h4, hf⟩ := bnd_some hf
      exact FR.trans (FR.trans FR.rf (FR.mono (by rfl) (mX7_tuneVoice h4))) (mX7_safe_b33  FU p1 p2 (0 : Int32) (0 : Int32) q3 hf)
    · rw [if_neg h2] at hf
      rw [← (Prod.mk.inj (Option.some.inj hf)).2]; exact FR.rf
def wX7_alone_S : List (Nat × Option Nat) := [(19, some 10), (19, some 6), (19, some 7), (19, some 8), (19, some 9), (20, some 0), (20, some 1), (20, some 2), (20, some 3), (20, some 4), (20, some 5), (20, some 6), (21, none), (22, none), (23, none), (24, none), (25, some 10), (27, some 0), (27, none), (28, none)]
set_option maxHeartbeats 1000000 in
theorem mX7_alone {r0 : Int32} {u0 : St} {p1 : Int32} {p2 : Int32} {st : St}  (hf : fX7_alone p1 p2 st = some (r0, u0)) : FR wX7_alone_S st u0 := by
  unfold fX7_alone at hf
  by_cases h1 : (fX4_lacksChild st p1) = 0
  · rw [if_pos h1] at hf
    obtain ⟨q2, h3, hf⟩ := bnd_some hf
    obtain ⟨q4, h5, hf⟩ := bnd_some hf
    obtain ⟨q6, h7, hf⟩ := bnd_some hf
    rcases (Classical.em (q6.1 = (-1 : Int32))).symm with h8 | h8
    · rw [if_neg h8] at hf
      obtain ⟨q9, h10, hf⟩ := bnd_some hf
      rcases (Classical.em (p2 = (-1 : Int32))).symm with h11 | h11
      · rw [if_neg h11] at hf
        by_cases h12 : p2 < 0
        · rw [if_pos h12] at hf
          rw [← (Prod.mk.inj (Option.some.inj hf)).2]; exact (FR.trans (FR.trans FR.rf (FR.mono (by rfl) (mX7_tuneVoice h3))) (FR.mono (by rfl) (mX1_reach h7)))
        · rw [if_neg h12] at hf
          by_cases h13 : p2 < q9
          · rw [if_pos h13] at hf
            obtain ⟨q14, h15, hf⟩ := bnd_some hf
            rw [← (Prod.mk.inj (Option.some.inj hf)).2]; exact (FR.trans (FR.trans FR.rf (FR.mono (by rfl) (mX7_tuneVoice h3))) (FR.mono (by rfl) (mX1_reach h7)))
          · rw [if_neg h13] at hf
            rw [← (Prod.mk.inj (Option.some.inj hf)).2]; exact (FR.trans (FR.trans FR.rf (FR.mono (by rfl) (mX7_tuneVoice h3))) (FR.mono (by rfl) (mX1_reach h7)))
      · rw [if_pos h11] at hf
        rw [← (Prod.mk.inj (Option.some.inj hf)).2]; exact (FR.trans (FR.trans FR.rf (FR.mono (by rfl) (mX7_tuneVoice h3))) (FR.mono (by rfl) (mX1_reach h7)))
    · rw [if_pos h8] at hf
      rw [← (Prod.mk.inj (Option.some.inj hf)).2]; exact (FR.trans (FR.trans FR.rf (FR.mono (by rfl) (mX7_tuneVoice h3))) (FR.mono (by rfl) (mX1_reach h7)))
  · rw [if_neg h1] at hf
    rw [← (Prod.mk.inj (Option.some.inj hf)).2]; exact FR.rf
def wX7_said_S : List (Nat × Option Nat) := [(19, some 10), (19, some 6), (19, some 7), (19, some 8), (19, some 9), (20, some 0), (20, some 1), (20, some 2), (20, some 3), (20, some 4), (20, some 5), (20, some 6), (21, none), (22, none), (23, none), (24, none)]
set_option maxHeartbeats 1000000 in
theorem mX7_said {r0 : Int32} {u0 : St} {p1 : Int32} {p2 : Int32} {p3 : Int32} {st : St}  (hf : fX7_said p1 p2 p3 st = some (r0, u0)) : FR wX7_said_S st u0 := by
  unfold fX7_said at hf
  by_cases h1 : p1 < 0
  · rw [if_pos h1] at hf
    rw [← (Prod.mk.inj (Option.some.inj hf)).2]; exact FR.rf
  · rw [if_neg h1] at hf
    by_cases h2 : (4 : Int32) < p1
    · rw [if_pos h2] at hf
      rw [← (Prod.mk.inj (Option.some.inj hf)).2]; exact FR.rf
    · rw [if_neg h2] at hf
      by_cases h3 : (-1 : Int32) ≤ p2
      · rw [if_pos h3] at hf
        obtain ⟨q4, h5, hf⟩ := bnd_some hf
        obtain ⟨q6, h7, hf⟩ := bnd_some hf
        by_cases h8 : p2 = (-1 : Int32)
        · rw [if_pos h8] at hf
          rw [← (Prod.mk.inj (Option.some.inj hf)).2]; exact (FR.trans (FR.trans FR.rf (FR.mono (by rfl) (mX7_tuneVoice h5))) (FR.mono (by rfl) (mX1_rowsSaid h7)))
        · rw [if_neg h8] at hf
          rcases (Classical.em (q6.1 = (-1 : Int32))).symm with h9 | h9
          · rw [if_neg h9] at hf
            by_cases h10 : p3 < 0
            · rw [if_pos h10] at hf
              rw [← (Prod.mk.inj (Option.some.inj hf)).2]; exact (FR.trans (FR.trans FR.rf (FR.mono (by rfl) (mX7_tuneVoice h5))) (FR.mono (by rfl) (mX1_rowsSaid h7)))
            · rw [if_neg h10] at hf
              by_cases h11 : p3 < p1
              · rw [if_pos h11] at hf
                obtain ⟨q12, h13, hf⟩ := bnd_some hf
                rw [← (Prod.mk.inj (Option.some.inj hf)).2]; exact (FR.trans (FR.trans FR.rf (FR.mono (by rfl) (mX7_tuneVoice h5))) (FR.mono (by rfl) (mX1_rowsSaid h7)))
              · rw [if_neg h11] at hf
                rw [← (Prod.mk.inj (Option.some.inj hf)).2]; exact (FR.trans (FR.trans FR.rf (FR.mono (by rfl) (mX7_tuneVoice h5))) (FR.mono (by rfl) (mX1_rowsSaid h7)))
          · rw [if_pos h9] at hf
            rw [← (Prod.mk.inj (Option.some.inj hf)).2]; exact (FR.trans (FR.trans FR.rf (FR.mono (by rfl) (mX7_tuneVoice h5))) (FR.mono (by rfl) (mX1_rowsSaid h7)))
      · rw [if_neg h3] at hf
        rw [← (Prod.mk.inj (Option.some.inj hf)).2]; exact FR.rf
def wX7_compare_S : List (Nat × Option Nat) := [(19, some 10), (19, some 6), (19, some 7), (19, some 8), (19, some 9), (20, some 0), (20, some 1), (20, some 2), (20, some 3), (20, some 4), (20, some 5), (20, some 6), (21, none), (22, none), (23, none), (24, none), (25, some 9), (26, none)]
set_option maxHeartbeats 1000000 in
theorem mX7_compare_b51 {r0 : Int32} {u0 : St} (l2 : Int32) (s1 : Option Nat) (st : St)  (hf : fX7_compare_b51 l2 s1 st = some (r0, u0)) : FR wX7_compare_S st u0 := by
  unfold fX7_compare_b51 at hf
  obtain ⟨q2, h3, hf⟩ := bnd_some hf
  obtain ⟨q4, h5, hf⟩ := bnd_some hf
  exact FR.trans (FR.trans FR.rf (FR.mono (by rfl) (mX6_tune h3))) (FR.mono (by rfl) (mX1_lastBy hf))
set_option maxHeartbeats 1000000 in
theorem mX7_compare_b16 {r0 : Int32} {u0 : St} (l1 : Int32) (l2 : Int32) (st : St)  (hf : fX7_compare_b16 l1 l2 st = some (r0, u0)) : FR wX7_compare_S st u0 := by
  unfold fX7_compare_b16 at hf
  by_cases h1 : (fX4_lacksRhyme st l2) = 0
  · rw [if_pos h1] at hf
    rcases (Classical.em (l1 = (-1 : Int32))).symm with h2 | h2
    · rw [if_neg h2] at hf
      obtain ⟨h3, hf⟩ := chk_some hf
      exact FR.trans FR.rf (mX7_compare_b51  l2 (sR st 4 l1.toNatClampNeg) st hf)
    · rw [if_pos h2] at hf
      exact FR.trans FR.rf (mX7_compare_b51  l2 none st hf)
  · rw [if_neg h1] at hf
    rw [← (Prod.mk.inj (Option.some.inj hf)).2]; exact FR.rf
set_option maxHeartbeats 1000000 in
theorem mX7_compare {r0 : Int32} {u0 : St} {p1 : Int32} {p2 : Int32} {st : St}  (hf : fX7_compare p1 p2 st = some (r0, u0)) : FR wX7_compare_S st u0 := by
  unfold fX7_compare at hf
  by_cases h1 : p1 = (-1 : Int32)
  · rw [if_pos h1] at hf
    exact FR.trans FR.rf (mX7_compare_b16  p1 p2 st hf)
  · rw [if_neg h1] at hf
    rcases (Classical.em ((fX4_lacksLaw st p1) = 0)).symm with h2 | h2
    · rw [if_neg h2] at hf
      rw [← (Prod.mk.inj (Option.some.inj hf)).2]; exact FR.rf
    · rw [if_pos h2] at hf
      exact FR.trans FR.rf (mX7_compare_b16  p1 p2 st hf)
def wX7_quarters_S : List (Nat × Option Nat) := [(0, some 11), (19, some 10), (19, some 6), (19, some 7), (19, some 8), (19, some 9), (20, some 0), (20, some 1), (20, some 2), (20, some 3), (20, some 4), (20, some 5), (20, some 6), (21, none), (22, none), (23, none), (24, none), (33, some 3), (33, some 4), (33, some 5), (34, none), (35, none)]
set_option maxHeartbeats 1000000 in
theorem mX7_quarters_b48 {r0 : Int32} {u0 : St}  (st : St)  (hf : fX7_quarters_b48 st = some (r0, u0)) : FR wX7_quarters_S st u0 := by
  unfold fX7_quarters_b48 at hf
  exact FR.trans FR.rf (FR.mono (by rfl) (mX7_refused hf))
set_option maxHeartbeats 1000000 in
theorem mX7_quarters_b22 {r0 : Int32} {u0 : St}  (st : St)  (hf : fX7_quarters_b22 st = some (r0, u0)) : FR wX7_quarters_S st u0 := by
  unfold fX7_quarters_b22 at hf
  exact FR.trans FR.rf (FR.mono (by rfl) (mX7_refused hf))
set_option maxHeartbeats 1000000 in
theorem mX7_quarters {r0 : Int32} {u0 : St} {p1 : Int32} {p2 : Int32} {st : St}  (hf : fX7_quarters p1 p2 st = some (r0, u0)) : FR wX7_quarters_S st u0 := by
  unfold fX7_quarters at hf
  by_cases h1 : p1 < 0
  · rw [if_pos h1] at hf
    exact FR.trans FR.rf (mX7_quarters_b22  st hf)
  · rw [if_neg h1] at hf
    by_cases h2 : (1000000 : Int32) < p1
    · rw [if_pos h2] at hf
      exact FR.trans FR.rf (mX7_quarters_b22  st hf)
    · rw [if_neg h2] at hf
      by_cases h3 : p2 < (1 : Int32)
      · rw [if_pos h3] at hf
        exact FR.trans FR.rf (mX7_quarters_b22  st hf)
      · rw [if_neg h3] at hf
        by_cases h4 : p2 ≤ (60 : Int32)
        · rw [if_pos h4] at hf
          by_cases h5 : (sI st 1 6) = 0
          · rw [if_pos h5] at hf
            exact FR.trans FR.rf (mX7_quarters_b48  st hf)
          · rw [if_neg h5] at hf
            rcases (Classical.em ((sI st 1 4) = 0)).symm with h6 | h6
            · rw [if_neg h6] at hf
              obtain ⟨q7, h8, hf⟩ := bnd_some hf
              exact FR.trans (FR.trans FR.rf (FR.mono (by rfl) (mX0_run h8))) (FR.mono (by rfl) (mX7_settled hf))
            · rw [if_pos h6] at hf
              exact FR.trans FR.rf (mX7_quarters_b48  st hf)
        · rw [if_neg h4] at hf
          exact FR.trans FR.rf (mX7_quarters_b22  st hf)
def wX8_refuses_S : List (Nat × Option Nat) := [(38, some 0), (39, none)]
set_option maxHeartbeats 1000000 in
theorem mX8_refuses {r0 : Int32} {u0 : St} {p1 : Int32} {st : St}  (hf : fX8_refuses p1 st = some (r0, u0)) : FR wX8_refuses_S st u0 := by
  unfold fX8_refuses at hf
  obtain ⟨h1, hf⟩ := chk_some hf
  obtain ⟨h2, hf⟩ := chk_some hf
  rw [← (Prod.mk.inj (Option.some.inj hf)).2]; exact (FR.pI (inS_all (by rfl)) (FR.pI (by rfl) FR.rf))
def wX8_good_S : List (Nat × Option Nat) := [(38, some 0)]
set_option maxHeartbeats 1000000 in
theorem mX8_good {r0 : Int32} {u0 : St} {p1 : Int32} {st : St}  (hf : fX8_good p1 st = some (r0, u0)) : FR wX8_good_S st u0 := by
  unfold fX8_good at hf
  rw [← (Prod.mk.inj (Option.some.inj hf)).2]; exact (FR.pI (by rfl) FR.rf)
def wX8_settled_S : List (Nat × Option Nat) := [(38, some 0), (38, some 32)]
set_option maxHeartbeats 1000000 in
theorem mX8_settled {r0 : Int32} {u0 : St} {p1 : Int32} {st : St}  (hf : fX8_settled p1 st = some (r0, u0)) : FR wX8_settled_S st u0 := by
  unfold fX8_settled at hf
  exact FR.trans (FR.pI (by rfl) FR.rf) (FR.mono (by rfl) (mX8_good hf))
def wX8_laysAside_S : List (Nat × Option Nat) := [(43, none)]
set_option maxHeartbeats 1000000 in
theorem mX8_laysAside_b2 {u0 : St} : ∀ (n : Nat) (l1 : Int32) (l2 : Int32) (st : St) , fX8_laysAside_b2 n l1 l2 st = some u0 → FR wX8_laysAside_S st u0 := by
  intro n
  induction n with
  | zero =>
    intros
    rename_i hf
    rw [fX8_laysAside_b2] at hf
    cases hf
  | succ n ih =>
    intro l1 l2 st hf
    rw [fX8_laysAside_b2] at hf
    by_cases h1 : (3 : Int32) ≤ l2
    · rw [if_pos h1] at hf
      rw [← Option.some.inj hf]; exact FR.rf
    · rw [if_neg h1] at hf
      obtain ⟨h2, hf⟩ := chk_some hf
      obtain ⟨h3, hf⟩ := chk_some hf
      exact FR.trans (FR.pI (inS_all (by rfl)) FR.rf) (ih l1 (l2 + (1 : Int32)) (pI st 43 ((((3 : Int32) * l1) + l2).toNatClampNeg) (sI st 40 l2.toNatClampNeg)) hf)
set_option maxHeartbeats 1000000 in
theorem mX8_laysAside {u0 : St} {p1 : Int32} {st : St}  (hf : fX8_laysAside p1 st = some u0) : FR wX8_laysAside_S st u0 := by
  unfold fX8_laysAside at hf
  exact FR.trans FR.rf (mX8_laysAside_b2  FU p1 (0 : Int32) st hf)
def wX8_takesBack_S : List (Nat × Option Nat) := [(40, none)]
set_option maxHeartbeats 1000000 in
theorem mX8_takesBack_b2 {u0 : St} : ∀ (n : Nat) (l1 : Int32) (l2 : Int32) (st : St) , fX8_takesBack_b2 n l1 l2 st = some u0 → FR wX8_takesBack_S st u0 := by
  intro n
  induction n with
  | zero =>
    intros
    rename_i hf
    rw [fX8_takesBack_b2] at hf
    cases hf
  | succ n ih =>
    intro l1 l2 st hf
    rw [fX8_takesBack_b2] at hf
    by_cases h1 : (3 : Int32) ≤ l2
    · rw [if_pos h1] at hf
      rw [← Option.some.inj hf]; exact FR.rf
    · rw [if_neg h1] at hf
      obtain ⟨h2, hf⟩ := chk_some hf
      obtain ⟨h3, hf⟩ := chk_some hf
      exact FR.trans (FR.pI (inS_all (by rfl)) FR.rf) (ih l1 (l2 + (1 : Int32)) (pI st 40 l2.toNatClampNeg (sI st 43 ((((3 : Int32) * l1) + l2).toNatClampNeg))) hf)
set_option maxHeartbeats 1000000 in
theorem mX8_takesBack {u0 : St} {p1 : Int32} {st : St}  (hf : fX8_takesBack p1 st = some u0) : FR wX8_takesBack_S st u0 := by
  unfold fX8_takesBack at hf
  exact FR.trans FR.rf (mX8_takesBack_b2  FU p1 (0 : Int32) st hf)
def wX8_image_S : List (Nat × Option Nat) := [(38, some 0), (39, none), (41, none), (42, none)]
set_option maxHeartbeats 1000000 in
theorem mX8_image_b17 {r0 : Int32} {u0 : St} : ∀ (n : Nat) (l1 : Int32) (l2 : Int32) (st : St) , fX8_image_b17 n l1 l2 st = some (r0, u0) → FR wX8_image_S st u0 := by
  intro n
  induction n with
  | zero =>
    intros
    rename_i hf
    rw [fX8_image_b17] at hf
    cases hf
  | succ n ih =>
    intro l1 l2 st hf
    rw [fX8_image_b17] at hf
    by_cases h1 : (5627 : Int32) ≤ l2
    · rw [if_pos h1] at hf
      obtain ⟨h2, hf⟩ := chk_some hf
      exact FR.trans (FR.pI (inS_all (by rfl)) FR.rf) (FR.mono (by rfl) (mX8_good hf))
    · rw [if_neg h1] at hf
      obtain ⟨h3, hf⟩ := chk_some hf
      obtain ⟨h4, hf⟩ := chk_some hf
      exact FR.trans (FR.pI (inS_all (by rfl)) FR.rf) (ih l1 (l2 + (1 : Int32)) (pI st 41 ((((5627 : Int32) * l1) + l2).toNatClampNeg) (sI st 40 l2.toNatClampNeg)) hf)
set_option maxHeartbeats 1000000 in
theorem mX8_image {r0 : Int32} {u0 : St} {p1 : Int32} {st : St}  (hf : fX8_image p1 st = some (r0, u0)) : FR wX8_image_S st u0 := by
  unfold fX8_image at hf
  rcases (Classical.em ((fX8_lies p1 (0 : Int32) (1 : Int32)) = 0)).symm with h1 | h1
  · rw [if_neg h1] at hf
    exact FR.trans FR.rf (mX8_image_b17  FU p1 (0 : Int32) st hf)
  · rw [if_pos h1] at hf
    exact FR.trans FR.rf (FR.mono (by rfl) (mX8_refuses hf))
def wX8_back_S : List (Nat × Option Nat) := [(38, some 0), (38, some 32), (39, none), (40, none)]
set_option maxHeartbeats 1000000 in
theorem mX8_back_b33 {r0 : Int32} {u0 : St} : ∀ (n : Nat) (l1 : Int32) (l2 : Int32) (st : St) , fX8_back_b33 n l1 l2 st = some (r0, u0) → FR wX8_back_S st u0 := by
  intro n
  induction n with
  | zero =>
    intros
    rename_i hf
    rw [fX8_back_b33] at hf
    cases hf
  | succ n ih =>
    intro l1 l2 st hf
    rw [fX8_back_b33] at hf
    by_cases h1 : (5627 : Int32) ≤ l2
    · rw [if_pos h1] at hf
      exact FR.trans FR.rf (FR.mono (by rfl) (mX8_settled hf))
    · rw [if_neg h1] at hf
      obtain ⟨h2, hf⟩ := chk_some hf
      obtain ⟨h3, hf⟩ := chk_some hf
      exact FR.trans (FR.pI (inS_all (by rfl)) FR.rf) (ih l1 (l2 + (1 : Int32)) (pI st 40 l2.toNatClampNeg (sI st 41 ((((5627 : Int32) * l1) + l2).toNatClampNeg))) hf)
set_option maxHeartbeats 1000000 in
theorem mX8_back {r0 : Int32} {u0 : St} {p1 : Int32} {st : St}  (hf : fX8_back p1 st = some (r0, u0)) : FR wX8_back_S st u0 := by
  unfold fX8_back at hf
  rcases (Classical.em ((fX8_lies p1 (0 : Int32) (1 : Int32)) = 0)).symm with h1 | h1
  · rw [if_neg h1] at hf
    obtain ⟨h2, hf⟩ := chk_some hf
    rcases (Classical.em ((sI st 42 p1.toNatClampNeg) = 0)).symm with h3 | h3
    · rw [if_neg h3] at hf
      exact FR.trans FR.rf (mX8_back_b33  FU p1 (0 : Int32) st hf)
    · rw [if_pos h3] at hf
      exact FR.trans FR.rf (FR.mono (by rfl) (mX8_refuses hf))
  · rw [if_pos h1] at hf
    exact FR.trans FR.rf (FR.mono (by rfl) (mX8_refuses hf))
def wX8_addsChild_S : List (Nat × Option Nat) := [(40, some 0), (40, some 16), (40, none)]
set_option maxHeartbeats 1000000 in
theorem mX8_addsChild {u0 : St} {p1 : Int32} {st : St}  (hf : fX8_addsChild p1 st = some u0) : FR wX8_addsChild_S st u0 := by
  unfold fX8_addsChild at hf
  obtain ⟨h1, hf⟩ := chk_some hf
  rw [← Option.some.inj hf]; exact (FR.pI (by rfl) (FR.pI (by rfl) (FR.pI (inS_all (by rfl)) FR.rf)))
def wX8_child_S : List (Nat × Option Nat) := [(38, some 0), (38, some 32), (39, none), (40, some 0), (40, some 16), (40, none)]
set_option maxHeartbeats 1000000 in
theorem mX8_child {r0 : Int32} {u0 : St} {p1 : Int32} {st : St}  (hf : fX8_child p1 st = some (r0, u0)) : FR wX8_child_S st u0 := by
  unfold fX8_child at hf
  rcases (Classical.em ((fX8_lies p1 (0 : Int32) (9 : Int32)) = 0)).symm with h1 | h1
  · rw [if_neg h1] at hf
    rcases (Classical.em ((sI st 40 16) = (6 : Int32))).symm with h2 | h2
    · rw [if_neg h2] at hf
      obtain ⟨q3, h4, hf⟩ := bnd_some hf
      exact FR.trans (FR.trans FR.rf (FR.mono (by rfl) (mX8_addsChild h4))) (FR.mono (by rfl) (mX8_settled hf))
    · rw [if_pos h2] at hf
      exact FR.trans FR.rf (FR.mono (by rfl) (mX8_refuses hf))
  · rw [if_pos h1] at hf
    exact FR.trans FR.rf (FR.mono (by rfl) (mX8_refuses hf))
def wX8_rhyme_S : List (Nat × Option Nat) := [(38, some 0), (38, some 32), (39, none), (40, some 17), (40, none)]
set_option maxHeartbeats 1000000 in
theorem mX8_rhyme {r0 : Int32} {u0 : St} {p1 : Int32} {st : St}  (hf : fX8_rhyme p1 st = some (r0, u0)) : FR wX8_rhyme_S st u0 := by
  unfold fX8_rhyme at hf
  rcases (Classical.em ((fX8_lies p1 (1 : Int32) (15 : Int32)) = 0)).symm with h1 | h1
  · rw [if_neg h1] at hf
    rcases (Classical.em ((sI st 40 17) = (5 : Int32))).symm with h2 | h2
    · rw [if_neg h2] at hf
      obtain ⟨h3, hf⟩ := chk_some hf
      exact FR.trans (FR.pI (by rfl) (FR.pI (inS_all (by rfl)) FR.rf)) (FR.mono (by rfl) (mX8_settled hf))
    · rw [if_pos h2] at hf
      exact FR.trans FR.rf (FR.mono (by rfl) (mX8_refuses hf))
  · rw [if_pos h1] at hf
    exact FR.trans FR.rf (FR.mono (by rfl) (mX8_refuses hf))
def wX8_terms_S : List (Nat × Option Nat) := [(38, some 0), (38, some 32), (39, none), (40, none)]
set_option maxHeartbeats 1000000 in
theorem mX8_terms {r0 : Int32} {u0 : St} {p1 : Int32} {p2 : Int32} {st : St}  (hf : fX8_terms p1 p2 st = some (r0, u0)) : FR wX8_terms_S st u0 := by
  unfold fX8_terms at hf
  rcases (Classical.em ((fX8_isTerm p1 p2) = 0)).symm with h1 | h1
  · rw [if_neg h1] at hf
    obtain ⟨h2, hf⟩ := chk_some hf
    obtain ⟨h3, hf⟩ := chk_some hf
    exact FR.trans (FR.pI (inS_all (by rfl)) FR.rf) (FR.mono (by rfl) (mX8_settled hf))
  · rw [if_pos h1] at hf
    exact FR.trans FR.rf (FR.mono (by rfl) (mX8_refuses hf))
def wX8_row_S : List (Nat × Option Nat) := [(38, some 0), (38, some 13), (38, some 32), (38, some 6), (39, none), (40, some 0), (40, some 16), (40, none)]
set_option maxHeartbeats 1000000 in
theorem mX8_row_b112 {r0 : Int32} {u0 : St} {k30 : Int32 → Int32 → Int32 → St → Option (Int32 × St)} (hk30 : ∀ (l1 : Int32) (l2 : Int32) (l3 : Int32) (st : St), k30 l1 l2 l3 st = some (r0, u0) → FR wX8_row_S st u0) (l1 : Int32) (l2 : Int32) (l3 : Int32) (s1 : Int32) (s2 : Int32) (st : St)  (hf : fX8_row_b112 k30 l1 l2 l3 s1 s2 st = some (r0, u0)) : FR wX8_row_S st u0 := by
  unfold fX8_row_b112 at hf
  exact FR.trans (FR.pI (by rfl) FR.rf) (hk30 l1 l2 (l3 + (1 : Int32)) (pI st 38 6 (s1 + s2)) hf)
set_option maxHeartbeats 1000000 in
theorem mX8_row_b95 {r0 : Int32} {u0 : St} {k30 : Int32 → Int32 → Int32 → St → Option (Int32 × St)} (hk30 : ∀ (l1 : Int32) (l2 : Int32) (l3 : Int32) (st : St), k30 l1 l2 l3 st = some (r0, u0) → FR wX8_row_S st u0) (l1 : Int32) (l3 : Int32) (l4 : Int32) (s0 : Int32) (s1 : Int32) (st : St)  (hf : fX8_row_b95 k30 l1 l3 l4 s0 s1 st = some (r0, u0)) : FR wX8_row_S st u0 := by
  unfold fX8_row_b95 at hf
  by_cases h1 : l4 = 0
  · rw [if_pos h1] at hf
    exact FR.trans FR.rf (mX8_row_b112 hk30 l1 (s0 + s1) l3 (sI st 38 6) (1 : Int32) st hf)
  · rw [if_neg h1] at hf
    exact FR.trans FR.rf (mX8_row_b112 hk30 l1 (s0 + s1) l3 (sI st 38 6) (0 : Int32) st hf)
set_option maxHeartbeats 1000000 in
theorem mX8_row_b84 {r0 : Int32} {u0 : St} {k30 : Int32 → Int32 → Int32 → St → Option (Int32 × St)} (hk30 : ∀ (l1 : Int32) (l2 : Int32) (l3 : Int32) (st : St), k30 l1 l2 l3 st = some (r0, u0) → FR wX8_row_S st u0) (l1 : Int32) (l2 : Int32) (l3 : Int32) (l4 : Int32) (st : St)  (hf : fX8_row_b84 k30 l1 l2 l3 l4 st = some (r0, u0)) : FR wX8_row_S st u0 := by
  unfold fX8_row_b84 at hf
  by_cases h1 : l4 = 0
  · rw [if_pos h1] at hf
    exact FR.trans FR.rf (mX8_row_b95 hk30 l1 l3 l4 l2 (0 : Int32) st hf)
  · rw [if_neg h1] at hf
    exact FR.trans FR.rf (mX8_row_b95 hk30 l1 l3 l4 l2 (1 : Int32) st hf)
set_option maxHeartbeats 1000000 in
theorem mX8_row_b67 {r0 : Int32} {u0 : St} {k30 : Int32 → Int32 → Int32 → St → Option (Int32 × St)} (hk30 : ∀ (l1 : Int32) (l2 : Int32) (l3 : Int32) (st : St), k30 l1 l2 l3 st = some (r0, u0) → FR wX8_row_S st u0) (l1 : Int32) (l2 : Int32) (l3 : Int32) (s0 : Int32) (st : St)  (hf : fX8_row_b67 k30 l1 l2 l3 s0 st = some (r0, u0)) : FR wX8_row_S st u0 := by
  unfold fX8_row_b67 at hf
  by_cases h1 : s0 = 0
  · rw [if_pos h1] at hf
    exact FR.trans FR.rf (mX8_row_b84 hk30 l1 l2 l3 s0 st hf)
  · rw [if_neg h1] at hf
    obtain ⟨h2, hf⟩ := chk_some hf
    obtain ⟨q3, h4, hf⟩ := bnd_some hf
    exact FR.trans (FR.trans FR.rf (FR.mono (by rfl) (mX8_addsChild h4))) (mX8_row_b84 hk30 l1 l2 l3 s0 q3 hf)
set_option maxHeartbeats 1000000 in
theorem mX8_row_b66 {r0 : Int32} {u0 : St} {k30 : Int32 → Int32 → Int32 → St → Option (Int32 × St)} (hk30 : ∀ (l1 : Int32) (l2 : Int32) (l3 : Int32) (st : St), k30 l1 l2 l3 st = some (r0, u0) → FR wX8_row_S st u0) (l1 : Int32) (l2 : Int32) (l3 : Int32) (st : St)  (hf : fX8_row_b66 k30 l1 l2 l3 st = some (r0, u0)) : FR wX8_row_S st u0 := by
  unfold fX8_row_b66 at hf
  exact FR.trans FR.rf (mX8_row_b67 hk30 l1 l2 l3 (0 : Int32) st hf)
set_option maxHeartbeats 1000000 in
theorem mX8_row_b30 {r0 : Int32} {u0 : St} : ∀ (n : Nat) (l1 : Int32) (l2 : Int32) (l3 : Int32) (st : St) , fX8_row_b30 n l1 l2 l3 st = some (r0, u0) → FR wX8_row_S st u0 := by
  intro n
  induction n with
  | zero =>
    intros
    rename_i hf
    rw [fX8_row_b30] at hf
    cases hf
  | succ n ih =>
    intro l1 l2 l3 st hf
    rw [fX8_row_b30] at hf
    by_cases h1 : l1 ≤ l3
    · rw [if_pos h1] at hf
      exact FR.trans FR.rf (FR.mono (by rfl) (mX8_settled hf))
    · rw [if_neg h1] at hf
      by_cases h2 : (6 : Int32) ≤ (sI st 40 16)
      · rw [if_pos h2] at hf
        exact FR.trans FR.rf (mX8_row_b66 ih l1 l2 l3 st hf)
      · rw [if_neg h2] at hf
        obtain ⟨h3, hf⟩ := chk_some hf
        by_cases h4 : (fX8_lies (sI st 45 l3.toNatClampNeg) (0 : Int32) (9 : Int32)) = 0
        · rw [if_pos h4] at hf
          exact FR.trans FR.rf (mX8_row_b66 ih l1 l2 l3 st hf)
        · rw [if_neg h4] at hf
          exact FR.trans FR.rf (mX8_row_b67 ih l1 l2 l3 (1 : Int32) st hf)
set_option maxHeartbeats 1000000 in
theorem mX8_row {r0 : Int32} {u0 : St}  {st : St}  (hf : fX8_row st = some (r0, u0)) : FR wX8_row_S st u0 := by
  unfold fX8_row at hf
  rcases (Classical.em ((sI st 38 13) = 0)).symm with h1 | h1
  · rw [if_neg h1] at hf
    exact FR.trans (FR.pI (by rfl) (FR.pI (by rfl) FR.rf)) (mX8_row_b30  FU (sI st 38 13) (0 : Int32) (0 : Int32) (pI (pI st 38 13 (0 : Int32)) 38 6 (0 : Int32)) hf)
  · rw [if_pos h1] at hf
    exact FR.trans (FR.pI (by rfl) FR.rf) (FR.mono (by rfl) (mX8_refuses hf))
def wX8_feed_S : List (Nat × Option Nat) := [(38, some 13), (45, none), (46, some 0), (46, some 1), (46, some 2), (46, some 3), (46, some 4)]
set_option maxHeartbeats 1000000 in
theorem mX8_feed_b55 {r0 : Int32} {u0 : St} : ∀ (n : Nat) (l6 : Int32) (st : St) , fX8_feed_b55 n l6 st = some (r0, u0) → FR wX8_feed_S st u0 := by
  intro n
  induction n with
  | zero =>
    intros
    rename_i hf
    rw [fX8_feed_b55] at hf
    cases hf
  | succ n ih =>
    intro l6 st hf
    rw [fX8_feed_b55] at hf
    by_cases h1 : (20 : Int32) ≤ l6
    · rw [if_pos h1] at hf
      rw [← (Prod.mk.inj (Option.some.inj hf)).2]; exact (FR.pI (by rfl) FR.rf)
    · rw [if_neg h1] at hf
      obtain ⟨h2, hf⟩ := chk_some hf
      obtain ⟨h3, hf⟩ := chk_some hf
      exact FR.trans (FR.pI (inS_all (by rfl)) FR.rf) (ih (l6 + (1 : Int32)) (pI st 45 (((sI st 38 13) + l6).toNatClampNeg) (vp_nar .byte (i2b (jshr (sI st 46 ((l6 / (4 : Int32)).toNatClampNeg)) ((24 : Int32) - ((8 : Int32) * (jrem l6 (4 : Int32)))))))) hf)
set_option maxHeartbeats 1000000 in
theorem mX8_feed {r0 : Int32} {u0 : St} {p1 : Int32} {p2 : Int32} {p3 : Int32} {p4 : Int32} {p5 : Int32} {st : St}  (hf : fX8_feed p1 p2 p3 p4 p5 st = some (r0, u0)) : FR wX8_feed_S st u0 := by
  unfold fX8_feed at hf
  by_cases h1 : ((sI st 38 13) + (20 : Int32)) ≤ (400 : Int32)
  · rw [if_pos h1] at hf
    exact FR.trans (FR.pI (by rfl) (FR.pI (by rfl) (FR.pI (by rfl) (FR.pI (by rfl) (FR.pI (by rfl) FR.rf))))) (mX8_feed_b55  FU (0 : Int32) (pI (pI (pI (pI (pI st 46 0 p1) 46 1 p2) 46 2 p3) 46 3 p4) 46 4 p5) hf)
  · rw [if_neg h1] at hf
    rw [← (Prod.mk.inj (Option.some.inj hf)).2]; exact FR.rf
def wX8_end_S : List (Nat × Option Nat) := [(38, some 13)]
set_option maxHeartbeats 1000000 in
theorem mX8_end {r0 : Int32} {u0 : St} {p1 : Int32} {st : St}  (hf : fX8_end p1 st = some (r0, u0)) : FR wX8_end_S st u0 := by
  unfold fX8_end at hf
  rcases (Classical.em ((fX8_lies p1 (0 : Int32) (sI st 38 13)) = 0)).symm with h1 | h1
  · rw [if_neg h1] at hf
    rw [← (Prod.mk.inj (Option.some.inj hf)).2]; exact (FR.pI (by rfl) FR.rf)
  · rw [if_pos h1] at hf
    rw [← (Prod.mk.inj (Option.some.inj hf)).2]; exact FR.rf
def wX8_splits_S : List (Nat × Option Nat) := [(38, some 18), (47, none), (48, none), (49, none)]
set_option maxHeartbeats 1000000 in
theorem mX8_splits_b247 {u0 : St} {k7 : Int32 → Int32 → St → Option St} (hk7 : ∀ (l1 : Int32) (l2 : Int32) (st : St), k7 l1 l2 st = some u0 → FR wX8_splits_S st u0) (l1 : Int32) (l4 : Int32) (st : St)  (hf : fX8_splits_b247 k7 l1 l4 st = some u0) : FR wX8_splits_S st u0 := by
  unfold fX8_splits_b247 at hf
  exact FR.trans (FR.pI (by rfl) FR.rf) (hk7 l1 l4 (pI st 38 18 ((sI st 38 18) + (1 : Int32))) hf)
set_option maxHeartbeats 1000000 in
theorem mX8_splits_b240 {u0 : St} {k7 : Int32 → Int32 → St → Option St} (hk7 : ∀ (l1 : Int32) (l2 : Int32) (st : St), k7 l1 l2 st = some u0 → FR wX8_splits_S st u0) {k169 : Int32 → Int32 → Int32 → Int32 → St → Option St} (hk169 : ∀ (l1 : Int32) (l3 : Int32) (l4 : Int32) (l5 : Int32) (st : St), k169 l1 l3 l4 l5 st = some u0 → FR wX8_splits_S st u0) (l1 : Int32) (l3 : Int32) (l4 : Int32) (l5 : Int32) (s1 : Int32) (s2 : Int32) (st : St)  (hf : fX8_splits_b240 k7 k169 l1 l3 l4 l5 s1 s2 st = some u0) : FR wX8_splits_S st u0 := by
  unfold fX8_splits_b240 at hf
  obtain ⟨h1, hf⟩ := chk_some hf
  exact FR.trans (FR.pI (inS_all (by rfl)) FR.rf) (hk169 l1 l3 l4 (l5 + (1 : Int32)) (pI st 48 s1.toNatClampNeg s2) hf)
set_option maxHeartbeats 1000000 in
theorem mX8_splits_b169 {u0 : St} {k7 : Int32 → Int32 → St → Option St} (hk7 : ∀ (l1 : Int32) (l2 : Int32) (st : St), k7 l1 l2 st = some u0 → FR wX8_splits_S st u0) : ∀ (n : Nat) (l1 : Int32) (l3 : Int32) (l4 : Int32) (l5 : Int32) (st : St) , fX8_splits_b169 k7 n l1 l3 l4 l5 st = some u0 → FR wX8_splits_S st u0 := by
  intro n
  induction n with
  | zero =>
    intros
    rename_i hf
    rw [fX8_splits_b169] at hf
    cases hf
  | succ n ih =>
    intro l1 l3 l4 l5 st hf
    rw [fX8_splits_b169] at hf
    by_cases h1 : l4 ≤ l5
    · rw [if_pos h1] at hf
      exact FR.trans FR.rf (mX8_splits_b247 hk7 l1 l4 st hf)
    · rw [if_neg h1] at hf
      by_cases h2 : (fX8_isDigit l3) = 0
      · rw [if_pos h2] at hf
        exact FR.trans FR.rf (mX8_splits_b247 hk7 l1 l4 st hf)
      · rw [if_neg h2] at hf
        obtain ⟨h3, hf⟩ := chk_some hf
        by_cases h4 : (sI st 48 ((sI st 38 18).toNatClampNeg)) ≤ (1000000 : Int32)
        · rw [if_pos h4] at hf
          obtain ⟨h5, hf⟩ := chk_some hf
          obtain ⟨h6, hf⟩ := chk_some hf
          exact FR.trans FR.rf (mX8_splits_b240 hk7 ih l1 l3 l4 l5 (sI st 38 18) ((((10 : Int32) * (sI st 48 ((sI st 38 18).toNatClampNeg))) + (sI st 45 l5.toNatClampNeg)) - (48 : Int32)) st hf)
        · rw [if_neg h4] at hf
          obtain ⟨h7, hf⟩ := chk_some hf
          exact FR.trans FR.rf (mX8_splits_b240 hk7 ih l1 l3 l4 l5 (sI st 38 18) (sI st 48 ((sI st 38 18).toNatClampNeg)) st hf)
set_option maxHeartbeats 1000000 in
theorem mX8_splits_b165 {u0 : St} {k7 : Int32 → Int32 → St → Option St} (hk7 : ∀ (l1 : Int32) (l2 : Int32) (st : St), k7 l1 l2 st = some u0 → FR wX8_splits_S st u0) (l1 : Int32) (l2 : Int32) (l3 : Int32) (l4 : Int32) (s1 : Int32) (s2 : Int32) (st : St)  (hf : fX8_splits_b165 k7 l1 l2 l3 l4 s1 s2 st = some u0) : FR wX8_splits_S st u0 := by
  unfold fX8_splits_b165 at hf
  obtain ⟨h1, hf⟩ := chk_some hf
  exact FR.trans (FR.pI (inS_all (by rfl)) FR.rf) (mX8_splits_b169 hk7 FU l1 l3 l4 l2 (pI st 47 s1.toNatClampNeg s2) hf)
set_option maxHeartbeats 1000000 in
theorem mX8_splits_b100 {u0 : St} {k7 : Int32 → Int32 → St → Option St} (hk7 : ∀ (l1 : Int32) (l2 : Int32) (st : St), k7 l1 l2 st = some u0 → FR wX8_splits_S st u0) (l1 : Int32) (l2 : Int32) (l3 : Int32) (l4 : Int32) (st : St)  (hf : fX8_splits_b100 k7 l1 l2 l3 l4 st = some u0) : FR wX8_splits_S st u0 := by
  unfold fX8_splits_b100 at hf
  obtain ⟨h1, hf⟩ := chk_some hf
  obtain ⟨h2, hf⟩ := chk_some hf
  by_cases h3 : (fX8_isSmall l3) = 0
  · rw [if_pos h3] at hf
    by_cases h4 : (fX8_isDigit l3) = 0
    · rw [if_pos h4] at hf
      exact FR.trans (FR.pI (inS_all (by rfl)) (FR.pI (inS_all (by rfl)) FR.rf)) (mX8_splits_b165 hk7 l1 l2 l3 l4 (sI (pI (pI st 49 ((sI st 38 18).toNatClampNeg) l2) 48 ((sI (pI st 49 ((sI st 38 18).toNatClampNeg) l2) 38 18).toNatClampNeg) (0 : Int32)) 38 18) ((100 : Int32) + (l3 &&& (255 : Int32))) (pI (pI st 49 ((sI st 38 18).toNatClampNeg) l2) 48 ((sI (pI st 49 ((sI st 38 18).toNatClampNeg) l2) 38 18).toNatClampNeg) (0 : Int32)) hf)
    · rw [if_neg h4] at hf
      exact FR.trans (FR.pI (inS_all (by rfl)) (FR.pI (inS_all (by rfl)) FR.rf)) (mX8_splits_b165 hk7 l1 l2 l3 l4 (sI (pI (pI st 49 ((sI st 38 18).toNatClampNeg) l2) 48 ((sI (pI st 49 ((sI st 38 18).toNatClampNeg) l2) 38 18).toNatClampNeg) (0 : Int32)) 38 18) (50 : Int32) (pI (pI st 49 ((sI st 38 18).toNatClampNeg) l2) 48 ((sI (pI st 49 ((sI st 38 18).toNatClampNeg) l2) 38 18).toNatClampNeg) (0 : Int32)) hf)
  · rw [if_neg h3] at hf
    obtain ⟨q5, h6, hf⟩ := bnd_some hf
    exact FR.trans (FR.pI (inS_all (by rfl)) (FR.pI (inS_all (by rfl)) FR.rf)) (mX8_splits_b165 hk7 l1 l2 l3 l4 (sI (pI (pI st 49 ((sI st 38 18).toNatClampNeg) l2) 48 ((sI (pI st 49 ((sI st 38 18).toNatClampNeg) l2) 38 18).toNatClampNeg) (0 : Int32)) 38 18) q5 (pI (pI st 49 ((sI st 38 18).toNatClampNeg) l2) 48 ((sI (pI st 49 ((sI st 38 18).toNatClampNeg) l2) 38 18).toNatClampNeg) (0 : Int32)) hf)
set_option maxHeartbeats 1000000 in
theorem mX8_splits_b75 {u0 : St} {k7 : Int32 → Int32 → St → Option St} (hk7 : ∀ (l1 : Int32) (l2 : Int32) (st : St), k7 l1 l2 st = some u0 → FR wX8_splits_S st u0) : ∀ (n : Nat) (l1 : Int32) (l2 : Int32) (l3 : Int32) (l4 : Int32) (st : St) , fX8_splits_b75 k7 n l1 l2 l3 l4 st = some u0 → FR wX8_splits_S st u0 := by
  intro n
  induction n with
  | zero =>
    intros
    rename_i hf
    rw [fX8_splits_b75] at hf
    cases hf
  | succ n ih =>
    intro l1 l2 l3 l4 st hf
    rw [fX8_splits_b75] at hf
    by_cases h1 : l1 ≤ l4
    · rw [if_pos h1] at hf
      exact FR.trans FR.rf (mX8_splits_b100 hk7 l1 l2 l3 l4 st hf)
    · rw [if_neg h1] at hf
      obtain ⟨h2, hf⟩ := chk_some hf
      by_cases h3 : (fX8_isDigit (sI st 45 l4.toNatClampNeg)) = 0
      · rw [if_pos h3] at hf
        exact FR.trans FR.rf (mX8_splits_b100 hk7 l1 l2 l3 l4 st hf)
      · rw [if_neg h3] at hf
        exact FR.trans FR.rf (ih l1 l2 l3 (l4 + (1 : Int32)) st hf)
set_option maxHeartbeats 1000000 in
theorem mX8_splits_b68 {u0 : St} {k7 : Int32 → Int32 → St → Option St} (hk7 : ∀ (l1 : Int32) (l2 : Int32) (st : St), k7 l1 l2 st = some u0 → FR wX8_splits_S st u0) (l1 : Int32) (l2 : Int32) (l3 : Int32) (l4 : Int32) (st : St)  (hf : fX8_splits_b68 k7 l1 l2 l3 l4 st = some u0) : FR wX8_splits_S st u0 := by
  unfold fX8_splits_b68 at hf
  by_cases h1 : (fX8_isDigit l3) = 0
  · rw [if_pos h1] at hf
    exact FR.trans FR.rf (mX8_splits_b100 hk7 l1 l2 l3 l4 st hf)
  · rw [if_neg h1] at hf
    exact FR.trans FR.rf (mX8_splits_b75 hk7 FU l1 l2 l3 l4 st hf)
set_option maxHeartbeats 1000000 in
theorem mX8_splits_b43 {u0 : St} {k7 : Int32 → Int32 → St → Option St} (hk7 : ∀ (l1 : Int32) (l2 : Int32) (st : St), k7 l1 l2 st = some u0 → FR wX8_splits_S st u0) : ∀ (n : Nat) (l1 : Int32) (l2 : Int32) (l3 : Int32) (l4 : Int32) (st : St) , fX8_splits_b43 k7 n l1 l2 l3 l4 st = some u0 → FR wX8_splits_S st u0 := by
  intro n
  induction n with
  | zero =>
    intros
    rename_i hf
    rw [fX8_splits_b43] at hf
    cases hf
  | succ n ih =>
    intro l1 l2 l3 l4 st hf
    rw [fX8_splits_b43] at hf
    by_cases h1 : l1 ≤ l4
    · rw [if_pos h1] at hf
      exact FR.trans FR.rf (mX8_splits_b68 hk7 l1 l2 l3 l4 st hf)
    · rw [if_neg h1] at hf
      obtain ⟨h2, hf⟩ := chk_some hf
      by_cases h3 : (fX8_isSmall (sI st 45 l4.toNatClampNeg)) = 0
      · rw [if_pos h3] at hf
        exact FR.trans FR.rf (mX8_splits_b68 hk7 l1 l2 l3 l4 st hf)
      · rw [if_neg h3] at hf
        exact FR.trans FR.rf (ih l1 l2 l3 (l4 + (1 : Int32)) st hf)
set_option maxHeartbeats 1000000 in
theorem mX8_splits_b7 {u0 : St} : ∀ (n : Nat) (l1 : Int32) (l2 : Int32) (st : St) , fX8_splits_b7 n l1 l2 st = some u0 → FR wX8_splits_S st u0 := by
  intro n
  induction n with
  | zero =>
    intros
    rename_i hf
    rw [fX8_splits_b7] at hf
    cases hf
  | succ n ih =>
    intro l1 l2 st hf
    rw [fX8_splits_b7] at hf
    by_cases h1 : l1 ≤ l2
    · rw [if_pos h1] at hf
      obtain ⟨h2, hf⟩ := chk_some hf
      obtain ⟨h3, hf⟩ := chk_some hf
      obtain ⟨h4, hf⟩ := chk_some hf
      rw [← Option.some.inj hf]; exact (FR.pI (inS_all (by rfl)) (FR.pI (inS_all (by rfl)) (FR.pI (inS_all (by rfl)) FR.rf)))
    · rw [if_neg h1] at hf
      obtain ⟨h5, hf⟩ := chk_some hf
      rcases (Classical.em ((sI st 45 l2.toNatClampNeg) = (32 : Int32))).symm with h6 | h6
      · rw [if_neg h6] at hf
        by_cases h7 : (fX8_isSmall (sI st 45 l2.toNatClampNeg)) = 0
        · rw [if_pos h7] at hf
          exact FR.trans FR.rf (mX8_splits_b68 ih l1 l2 (sI st 45 l2.toNatClampNeg) (l2 + (1 : Int32)) st hf)
        · rw [if_neg h7] at hf
          exact FR.trans FR.rf (mX8_splits_b43 ih FU l1 l2 (sI st 45 l2.toNatClampNeg) (l2 + (1 : Int32)) st hf)
      · rw [if_pos h6] at hf
        exact FR.trans FR.rf (ih l1 (l2 + (1 : Int32)) st hf)
set_option maxHeartbeats 1000000 in
theorem mX8_splits {u0 : St} {p1 : Int32} {st : St}  (hf : fX8_splits p1 st = some u0) : FR wX8_splits_S st u0 := by
  unfold fX8_splits at hf
  exact FR.trans (FR.pI (by rfl) FR.rf) (mX8_splits_b7  FU p1 (0 : Int32) (pI st 38 18 (0 : Int32)) hf)
def wX8_faults_S : List (Nat × Option Nat) := [(38, some 21)]
set_option maxHeartbeats 1000000 in
theorem mX8_faults {u0 : St}  {st : St}  (hf : fX8_faults st = some u0) : FR wX8_faults_S st u0 := by
  unfold fX8_faults at hf
  by_cases h1 : (fX8_fine st) = 0
  · rw [if_pos h1] at hf
    rw [← Option.some.inj hf]; exact FR.rf
  · rw [if_neg h1] at hf
    obtain ⟨h2, hf⟩ := chk_some hf
    rw [← Option.some.inj hf]; exact (FR.pI (by rfl) FR.rf)
def wX8_takes0_S : List (Nat × Option Nat) := [(38, some 19)]
set_option maxHeartbeats 1000000 in
theorem mX8_takes0_b25 {r0 : Int32} {u0 : St} (s0 : Int32) (st : St)  (hf : fX8_takes0_b25 s0 st = some (r0, u0)) : FR wX8_takes0_S st u0 := by
  unfold fX8_takes0_b25 at hf
  by_cases h1 : s0 = 0
  · rw [if_pos h1] at hf
    obtain ⟨h2, hf⟩ := chk_some hf
    rw [← (Prod.mk.inj (Option.some.inj hf)).2]; exact FR.rf
  · rw [if_neg h1] at hf
    obtain ⟨h3, hf⟩ := chk_some hf
    rw [← (Prod.mk.inj (Option.some.inj hf)).2]; exact (FR.pI (by rfl) FR.rf)
set_option maxHeartbeats 1000000 in
theorem mX8_takes0_b24 {r0 : Int32} {u0 : St}  (st : St)  (hf : fX8_takes0_b24 st = some (r0, u0)) : FR wX8_takes0_S st u0 := by
  unfold fX8_takes0_b24 at hf
  exact FR.trans FR.rf (mX8_takes0_b25  (0 : Int32) st hf)
set_option maxHeartbeats 1000000 in
theorem mX8_takes0 {r0 : Int32} {u0 : St} {p1 : Int32} {st : St}  (hf : fX8_takes0 p1 st = some (r0, u0)) : FR wX8_takes0_S st u0 := by
  unfold fX8_takes0 at hf
  by_cases h1 : (fX8_fine st) = 0
  · rw [if_pos h1] at hf
    exact FR.trans FR.rf (mX8_takes0_b24  st hf)
  · rw [if_neg h1] at hf
    obtain ⟨h2, hf⟩ := chk_some hf
    rcases (Classical.em ((sI st 47 ((sI st 38 19).toNatClampNeg)) = p1)).symm with h3 | h3
    · rw [if_neg h3] at hf
      exact FR.trans FR.rf (mX8_takes0_b24  st hf)
    · rw [if_pos h3] at hf
      exact FR.trans FR.rf (mX8_takes0_b25  (1 : Int32) st hf)
def wX8_must_S : List (Nat × Option Nat) := [(38, some 19), (38, some 21)]
set_option maxHeartbeats 1000000 in
theorem mX8_must {u0 : St} {p1 : Int32} {st : St}  (hf : fX8_must p1 st = some u0) : FR wX8_must_S st u0 := by
  unfold fX8_must at hf
  obtain ⟨q1, h2, hf⟩ := bnd_some hf
  rcases (Classical.em (q1.1 = 0)).symm with h3 | h3
  · rw [if_neg h3] at hf
    rw [← Option.some.inj hf]; exact (FR.trans FR.rf (FR.mono (by rfl) (mX8_takes0 h2)))
  · rw [if_pos h3] at hf
    exact FR.trans (FR.trans FR.rf (FR.mono (by rfl) (mX8_takes0 h2))) (FR.mono (by rfl) (mX8_faults hf))
def wX8_leaf_S : List (Nat × Option Nat) := [(38, some 19), (38, some 20), (38, some 21)]
set_option maxHeartbeats 1000000 in
theorem mX8_leaf_b13 {u0 : St}  (st : St)  (hf : fX8_leaf_b13 st = some u0) : FR wX8_leaf_S st u0 := by
  unfold fX8_leaf_b13 at hf
  by_cases h1 : (fX8_fine (pI st 38 20 ((sI st 38 20) + (1 : Int32)))) = 0
  · rw [if_pos h1] at hf
    rw [← Option.some.inj hf]; exact (FR.pI (by rfl) FR.rf)
  · rw [if_neg h1] at hf
    rw [← Option.some.inj hf]; exact (FR.pI (by rfl) (FR.pI (by rfl) FR.rf))
set_option maxHeartbeats 1000000 in
theorem mX8_leaf {u0 : St}  {st : St}  (hf : fX8_leaf st = some u0) : FR wX8_leaf_S st u0 := by
  unfold fX8_leaf at hf
  rcases (Classical.em ((sI st 38 20) = (50 : Int32))).symm with h1 | h1
  · rw [if_neg h1] at hf
    exact FR.trans FR.rf (mX8_leaf_b13  st hf)
  · rw [if_pos h1] at hf
    obtain ⟨q2, h3, hf⟩ := bnd_some hf
    exact FR.trans (FR.trans FR.rf (FR.mono (by rfl) (mX8_faults h3))) (mX8_leaf_b13  q2 hf)
def wX8_mustNumber_S : List (Nat × Option Nat) := [(38, some 19), (38, some 21)]
set_option maxHeartbeats 1000000 in
theorem mX8_mustNumber_b42 {u0 : St}  (st : St)  (hf : fX8_mustNumber_b42 st = some u0) : FR wX8_mustNumber_S st u0 := by
  unfold fX8_mustNumber_b42 at hf
  by_cases h1 : (fX8_fine st) = 0
  · rw [if_pos h1] at hf
    rw [← Option.some.inj hf]; exact FR.rf
  · rw [if_neg h1] at hf
    rw [← Option.some.inj hf]; exact (FR.pI (by rfl) FR.rf)
set_option maxHeartbeats 1000000 in
theorem mX8_mustNumber_b38 {u0 : St}  (st : St)  (hf : fX8_mustNumber_b38 st = some u0) : FR wX8_mustNumber_S st u0 := by
  unfold fX8_mustNumber_b38 at hf
  obtain ⟨q1, h2, hf⟩ := bnd_some hf
  exact FR.trans (FR.trans FR.rf (FR.mono (by rfl) (mX8_faults h2))) (mX8_mustNumber_b42  q1 hf)
set_option maxHeartbeats 1000000 in
theorem mX8_mustNumber {u0 : St} {p1 : Int32} {p2 : Int32} {st : St}  (hf : fX8_mustNumber p1 p2 st = some u0) : FR wX8_mustNumber_S st u0 := by
  unfold fX8_mustNumber at hf
  by_cases h1 : (fX8_fine st) = 0
  · rw [if_pos h1] at hf
    exact FR.trans FR.rf (mX8_mustNumber_b42  st hf)
  · rw [if_neg h1] at hf
    obtain ⟨h2, hf⟩ := chk_some hf
    rcases (Classical.em ((sI st 47 ((sI st 38 19).toNatClampNeg)) = (50 : Int32))).symm with h3 | h3
    · rw [if_neg h3] at hf
      exact FR.trans FR.rf (mX8_mustNumber_b38  st hf)
    · rw [if_pos h3] at hf
      obtain ⟨h4, hf⟩ := chk_some hf
      rcases (Classical.em ((fX8_lies (sI st 48 ((sI st 38 19).toNatClampNeg)) p1 p2) = 0)).symm with h5 | h5
      · rw [if_neg h5] at hf
        exact FR.trans FR.rf (mX8_mustNumber_b42  st hf)
      · rw [if_pos h5] at hf
        exact FR.trans FR.rf (mX8_mustNumber_b38  st hf)
def wG0 : List (Nat × Option Nat) := [(38, some 19), (38, some 20), (38, some 21)]
def RmOK0 (rc : TG0) : Prop := (∀ {st : St} {p1 : Int32} {u0 : St}, rc.1 p1 st = some u0 → FR wG0 st u0) ∧ (∀ {st : St} {p1 : Int32} {u0 : St}, rc.2.1 p1 st = some u0 → FR wG0 st u0) ∧ (∀ {st : St} {p1 : Int32} {u0 : St}, rc.2.2.1 p1 st = some u0 → FR wG0 st u0) ∧ (∀ {st : St} {p1 : Int32} {u0 : St}, rc.2.2.2.1 p1 st = some u0 → FR wG0 st u0) ∧ (∀ {st : St} {p1 : Int32} {u0 : St}, rc.2.2.2.2.1 p1 st = some u0 → FR wG0 st u0) ∧ (∀ {st : St} {p1 : Int32} {u0 : St}, rc.2.2.2.2.2 p1 st = some u0 → FR wG0 st u0)
set_option maxHeartbeats 1000000 in
theorem mX8_readTest_b5 {rc : TG0} (hrm : RmOK0 rc) {u0 : St} : ∀ (n : Nat) (l1 : Int32) (st : St) , fX8_readTest_b5 rc n l1 st = some u0 → FR wG0 st u0 := by
  intro n
  induction n with
  | zero =>
    intros
    rename_i hf
    rw [fX8_readTest_b5] at hf
    cases hf
  | succ n ih =>
    intro l1 st hf
    rw [fX8_readTest_b5] at hf
    obtain ⟨q1, h2, hf⟩ := bnd_some hf
    by_cases h3 : q1.1 = 0
    · rw [if_pos h3] at hf
      rw [← Option.some.inj hf]; exact (FR.trans FR.rf (FR.mono (by rfl) (mX8_takes0 h2)))
    · rw [if_neg h3] at hf
      obtain ⟨q4, h5, hf⟩ := bnd_some hf
      exact FR.trans (FR.trans (FR.trans FR.rf (FR.mono (by rfl) (mX8_takes0 h2))) (hrm.2.1 h5)) (ih l1 q4 hf)
set_option maxHeartbeats 1000000 in
theorem mX8_readTest_g {rc : TG0} (hrm : RmOK0 rc) {u0 : St} {p1 : Int32} {st : St}  (hf : fX8_readTest_g rc p1 st = some u0) : FR wG0 st u0 := by
  unfold fX8_readTest_g at hf
  obtain ⟨q1, h2, hf⟩ := bnd_some hf
  exact FR.trans (FR.trans FR.rf (hrm.2.1 h2)) (mX8_readTest_b5 hrm  FU p1 q1 hf)
set_option maxHeartbeats 1000000 in
theorem mX8_readBoth_b5 {rc : TG0} (hrm : RmOK0 rc) {u0 : St} : ∀ (n : Nat) (l1 : Int32) (st : St) , fX8_readBoth_b5 rc n l1 st = some u0 → FR wG0 st u0 := by
  intro n
  induction n with
  | zero =>
    intros
    rename_i hf
    rw [fX8_readBoth_b5] at hf
    cases hf
  | succ n ih =>
    intro l1 st hf
    rw [fX8_readBoth_b5] at hf
    obtain ⟨q1, h2, hf⟩ := bnd_some hf
    by_cases h3 : q1.1 = 0
    · rw [if_pos h3] at hf
      rw [← Option.some.inj hf]; exact (FR.trans FR.rf (FR.mono (by rfl) (mX8_takes0 h2)))
    · rw [if_neg h3] at hf
      obtain ⟨q4, h5, hf⟩ := bnd_some hf
      exact FR.trans (FR.trans (FR.trans FR.rf (FR.mono (by rfl) (mX8_takes0 h2))) (hrm.2.2.1 h5)) (ih l1 q4 hf)
set_option maxHeartbeats 1000000 in
theorem mX8_readBoth_g {rc : TG0} (hrm : RmOK0 rc) {u0 : St} {p1 : Int32} {st : St}  (hf : fX8_readBoth_g rc p1 st = some u0) : FR wG0 st u0 := by
  unfold fX8_readBoth_g at hf
  obtain ⟨q1, h2, hf⟩ := bnd_some hf
  exact FR.trans (FR.trans FR.rf (hrm.2.2.1 h2)) (mX8_readBoth_b5 hrm  FU p1 q1 hf)
set_option maxHeartbeats 1000000 in
theorem mX8_readPlain_b128 {rc : TG0} (hrm : RmOK0 rc) {u0 : St} (l1 : Int32) (st : St)  (hf : fX8_readPlain_b128 rc l1 st = some u0) : FR wG0 st u0 := by
  unfold fX8_readPlain_b128 at hf
  exact FR.trans FR.rf (hrm.2.2.2.1 hf)
set_option maxHeartbeats 1000000 in
theorem mX8_readPlain_b53 {rc : TG0} (hrm : RmOK0 rc) {u0 : St} (l1 : Int32) (st : St)  (hf : fX8_readPlain_b53 rc l1 st = some u0) : FR wG0 st u0 := by
  unfold fX8_readPlain_b53 at hf
  rcases (Classical.em ((fX8_fine st) = 0)).symm with h1 | h1
  · rw [if_neg h1] at hf
    obtain ⟨q2, h3, hf⟩ := bnd_some hf
    obtain ⟨q4, h5, hf⟩ := bnd_some hf
    rw [← Option.some.inj hf]; exact (FR.trans (FR.trans (FR.pI (by rfl) FR.rf) (hrm.1 h3)) (FR.mono (by rfl) (mX8_must h5)))
  · rw [if_pos h1] at hf
    rw [← Option.some.inj hf]; exact FR.rf
set_option maxHeartbeats 1000000 in
theorem mX8_readPlain_b2 {rc : TG0} (hrm : RmOK0 rc) {u0 : St} : ∀ (n : Nat) (l1 : Int32) (l2 : Int32) (st : St) , fX8_readPlain_b2 rc n l1 l2 st = some u0 → FR wG0 st u0 := by
  intro n
  induction n with
  | zero =>
    intros
    rename_i hf
    rw [fX8_readPlain_b2] at hf
    cases hf
  | succ n ih =>
    intro l1 l2 st hf
    rw [fX8_readPlain_b2] at hf
    by_cases h1 : l2 = 0
    · rw [if_pos h1] at hf
      rcases (Classical.em ((fX8_fine st) = 0)).symm with h2 | h2
      · rw [if_neg h2] at hf
        obtain ⟨h3, hf⟩ := chk_some hf
        rcases (Classical.em ((sI st 47 ((sI st 38 19).toNatClampNeg)) = (fX8_sign (40 : Int32)))).symm with h4 | h4
        · rw [if_neg h4] at hf
          obtain ⟨q5, h6, hf⟩ := bnd_some hf
          obtain ⟨q7, h8, hf⟩ := bnd_some hf
          rcases (Classical.em (q7.1 = 0)).symm with h9 | h9
          · rw [if_neg h9] at hf
            exact FR.trans (FR.trans (FR.trans FR.rf (hrm.2.2.2.1 h6)) (FR.mono (by rfl) (mX8_takes0 h8))) (mX8_readPlain_b128 hrm  l1 q7.2 hf)
          · rw [if_pos h9] at hf
            obtain ⟨q10, h11, hf⟩ := bnd_some hf
            rcases (Classical.em (q10.1 = 0)).symm with h12 | h12
            · rw [if_neg h12] at hf
              exact FR.trans (FR.trans (FR.trans (FR.trans FR.rf (hrm.2.2.2.1 h6)) (FR.mono (by rfl) (mX8_takes0 h8))) (FR.mono (by rfl) (mX8_takes0 h11))) (mX8_readPlain_b128 hrm  l1 q10.2 hf)
            · rw [if_pos h12] at hf
              obtain ⟨q13, h14, hf⟩ := bnd_some hf
              exact FR.trans (FR.trans (FR.trans (FR.trans (FR.trans FR.rf (hrm.2.2.2.1 h6)) (FR.mono (by rfl) (mX8_takes0 h8))) (FR.mono (by rfl) (mX8_takes0 h11))) (FR.mono (by rfl) (mX8_must h14))) (mX8_readPlain_b128 hrm  l1 q13 hf)
        · rw [if_pos h4] at hf
          rcases (Classical.em (l1 = (8 : Int32))).symm with h15 | h15
          · rw [if_neg h15] at hf
            exact FR.trans FR.rf (mX8_readPlain_b53 hrm  l1 st hf)
          · rw [if_pos h15] at hf
            obtain ⟨q16, h17, hf⟩ := bnd_some hf
            exact FR.trans (FR.trans FR.rf (FR.mono (by rfl) (mX8_faults h17))) (mX8_readPlain_b53 hrm  l1 q16 hf)
      · rw [if_pos h2] at hf
        rw [← Option.some.inj hf]; exact FR.rf
    · rw [if_neg h1] at hf
      obtain ⟨q18, h19, hf⟩ := bnd_some hf
      exact FR.trans (FR.trans FR.rf (FR.mono (by rfl) (mX8_takes0 h19))) (ih l1 q18.1 q18.2 hf)
set_option maxHeartbeats 1000000 in
theorem mX8_readPlain_g {rc : TG0} (hrm : RmOK0 rc) {u0 : St} {p1 : Int32} {st : St}  (hf : fX8_readPlain_g rc p1 st = some u0) : FR wG0 st u0 := by
  unfold fX8_readPlain_g at hf
  exact FR.trans FR.rf (mX8_readPlain_b2 hrm  FU p1 (1 : Int32) st hf)
set_option maxHeartbeats 1000000 in
theorem mX8_readSum_b29 {rc : TG0} (hrm : RmOK0 rc) {u0 : St} {k5 : Int32 → St → Option St} (hk5 : ∀ (l1 : Int32) (st : St), k5 l1 st = some u0 → FR wG0 st u0) (l1 : Int32) (st : St)  (hf : fX8_readSum_b29 rc k5 l1 st = some u0) : FR wG0 st u0 := by
  unfold fX8_readSum_b29 at hf
  obtain ⟨q1, h2, hf⟩ := bnd_some hf
  exact FR.trans (FR.trans FR.rf (hrm.2.2.2.2.1 h2)) (hk5 l1 q1 hf)
set_option maxHeartbeats 1000000 in
theorem mX8_readSum_b5 {rc : TG0} (hrm : RmOK0 rc) {u0 : St} : ∀ (n : Nat) (l1 : Int32) (st : St) , fX8_readSum_b5 rc n l1 st = some u0 → FR wG0 st u0 := by
  intro n
  induction n with
  | zero =>
    intros
    rename_i hf
    rw [fX8_readSum_b5] at hf
    cases hf
  | succ n ih =>
    intro l1 st hf
    rw [fX8_readSum_b5] at hf
    obtain ⟨q1, h2, hf⟩ := bnd_some hf
    rcases (Classical.em (q1.1 = 0)).symm with h3 | h3
    · rw [if_neg h3] at hf
      exact FR.trans (FR.trans FR.rf (FR.mono (by rfl) (mX8_takes0 h2))) (mX8_readSum_b29 hrm ih l1 q1.2 hf)
    · rw [if_pos h3] at hf
      obtain ⟨q4, h5, hf⟩ := bnd_some hf
      by_cases h6 : q4.1 = 0
      · rw [if_pos h6] at hf
        rw [← Option.some.inj hf]; exact (FR.trans (FR.trans FR.rf (FR.mono (by rfl) (mX8_takes0 h2))) (FR.mono (by rfl) (mX8_takes0 h5)))
      · rw [if_neg h6] at hf
        exact FR.trans (FR.trans (FR.trans FR.rf (FR.mono (by rfl) (mX8_takes0 h2))) (FR.mono (by rfl) (mX8_takes0 h5))) (mX8_readSum_b29 hrm ih l1 q4.2 hf)
set_option maxHeartbeats 1000000 in
theorem mX8_readSum_g {rc : TG0} (hrm : RmOK0 rc) {u0 : St} {p1 : Int32} {st : St}  (hf : fX8_readSum_g rc p1 st = some u0) : FR wG0 st u0 := by
  unfold fX8_readSum_g at hf
  obtain ⟨q1, h2, hf⟩ := bnd_some hf
  exact FR.trans (FR.trans FR.rf (hrm.2.2.2.2.1 h2)) (mX8_readSum_b5 hrm  FU p1 q1 hf)
set_option maxHeartbeats 1000000 in
theorem mX8_readTerm_b41 {rc : TG0} (hrm : RmOK0 rc) {u0 : St} {k5 : Int32 → St → Option St} (hk5 : ∀ (l1 : Int32) (st : St), k5 l1 st = some u0 → FR wG0 st u0) (l1 : Int32) (st : St)  (hf : fX8_readTerm_b41 rc k5 l1 st = some u0) : FR wG0 st u0 := by
  unfold fX8_readTerm_b41 at hf
  obtain ⟨q1, h2, hf⟩ := bnd_some hf
  exact FR.trans (FR.trans FR.rf (hrm.2.2.2.2.2 h2)) (hk5 l1 q1 hf)
set_option maxHeartbeats 1000000 in
theorem mX8_readTerm_b5 {rc : TG0} (hrm : RmOK0 rc) {u0 : St} : ∀ (n : Nat) (l1 : Int32) (st : St) , fX8_readTerm_b5 rc n l1 st = some u0 → FR wG0 st u0 := by
  intro n
  induction n with
  | zero =>
    intros
    rename_i hf
    rw [fX8_readTerm_b5] at hf
    cases hf
  | succ n ih =>
    intro l1 st hf
    rw [fX8_readTerm_b5] at hf
    obtain ⟨q1, h2, hf⟩ := bnd_some hf
    rcases (Classical.em (q1.1 = 0)).symm with h3 | h3
    · rw [if_neg h3] at hf
      exact FR.trans (FR.trans FR.rf (FR.mono (by rfl) (mX8_takes0 h2))) (mX8_readTerm_b41 hrm ih l1 q1.2 hf)
    · rw [if_pos h3] at hf
      obtain ⟨q4, h5, hf⟩ := bnd_some hf
      rcases (Classical.em (q4.1 = 0)).symm with h6 | h6
      · rw [if_neg h6] at hf
        exact FR.trans (FR.trans (FR.trans FR.rf (FR.mono (by rfl) (mX8_takes0 h2))) (FR.mono (by rfl) (mX8_takes0 h5))) (mX8_readTerm_b41 hrm ih l1 q4.2 hf)
      · rw [if_pos h6] at hf
        obtain ⟨q7, h8, hf⟩ := bnd_some hf
        by_cases h9 : q7.1 = 0
        · rw [if_pos h9] at hf
          rw [← Option.some.inj hf]; exact (FR.trans (FR.trans (FR.trans FR.rf (FR.mono (by rfl) (mX8_takes0 h2))) (FR.mono (by rfl) (mX8_takes0 h5))) (FR.mono (by rfl) (mX8_takes0 h8)))
        · rw [if_neg h9] at hf
          exact FR.trans (FR.trans (FR.trans (FR.trans FR.rf (FR.mono (by rfl) (mX8_takes0 h2))) (FR.mono (by rfl) (mX8_takes0 h5))) (FR.mono (by rfl) (mX8_takes0 h8))) (mX8_readTerm_b41 hrm ih l1 q7.2 hf)
set_option maxHeartbeats 1000000 in
theorem mX8_readTerm_g {rc : TG0} (hrm : RmOK0 rc) {u0 : St} {p1 : Int32} {st : St}  (hf : fX8_readTerm_g rc p1 st = some u0) : FR wG0 st u0 := by
  unfold fX8_readTerm_g at hf
  obtain ⟨q1, h2, hf⟩ := bnd_some hf
  exact FR.trans (FR.trans FR.rf (hrm.2.2.2.2.2 h2)) (mX8_readTerm_b5 hrm  FU p1 q1 hf)
set_option maxHeartbeats 1000000 in
theorem mX8_readPart_b143 {rc : TG0} (hrm : RmOK0 rc) {u0 : St}  (st : St)  (hf : fX8_readPart_b143 rc st = some u0) : FR wG0 st u0 := by
  unfold fX8_readPart_b143 at hf
  exact FR.trans FR.rf (FR.mono (by rfl) (mX8_faults hf))
set_option maxHeartbeats 1000000 in
theorem mX8_readPart_b134 {rc : TG0} (hrm : RmOK0 rc) {u0 : St}  (st : St)  (hf : fX8_readPart_b134 rc st = some u0) : FR wG0 st u0 := by
  unfold fX8_readPart_b134 at hf
  obtain ⟨q1, h2, hf⟩ := bnd_some hf
  rw [← Option.some.inj hf]; exact (FR.trans FR.rf (FR.mono (by rfl) (mX8_mustNumber h2)))
set_option maxHeartbeats 1000000 in
theorem mX8_readPart_b111 {rc : TG0} (hrm : RmOK0 rc) {u0 : St} (l2 : Int32) (st : St)  (hf : fX8_readPart_b111 rc l2 st = some u0) : FR wG0 st u0 := by
  unfold fX8_readPart_b111 at hf
  obtain ⟨q1, h2, hf⟩ := bnd_some hf
  by_cases h3 : (sI q1 38 10) = 0
  · rw [if_pos h3] at hf
    rw [← Option.some.inj hf]; exact (FR.trans FR.rf (FR.mono (by rfl) (mX8_leaf h2)))
  · rw [if_neg h3] at hf
    by_cases h4 : l2 = (13 : Int32)
    · rw [if_pos h4] at hf
      exact FR.trans (FR.trans FR.rf (FR.mono (by rfl) (mX8_leaf h2))) (mX8_readPart_b134 hrm  q1 hf)
    · rw [if_neg h4] at hf
      rcases (Classical.em (l2 = (19 : Int32))).symm with h5 | h5
      · rw [if_neg h5] at hf
        rw [← Option.some.inj hf]; exact (FR.trans FR.rf (FR.mono (by rfl) (mX8_leaf h2)))
      · rw [if_pos h5] at hf
        exact FR.trans (FR.trans FR.rf (FR.mono (by rfl) (mX8_leaf h2))) (mX8_readPart_b134 hrm  q1 hf)
set_option maxHeartbeats 1000000 in
theorem mX8_readPart_b95 {rc : TG0} (hrm : RmOK0 rc) {u0 : St} (l2 : Int32) (st : St)  (hf : fX8_readPart_b95 rc l2 st = some u0) : FR wG0 st u0 := by
  unfold fX8_readPart_b95 at hf
  by_cases h1 : l2 < (sI st 38 8)
  · rw [if_pos h1] at hf
    exact FR.trans FR.rf (mX8_readPart_b143 hrm  st hf)
  · rw [if_neg h1] at hf
    by_cases h2 : (sI st 38 9) < l2
    · rw [if_pos h2] at hf
      exact FR.trans FR.rf (mX8_readPart_b143 hrm  st hf)
    · rw [if_neg h2] at hf
      exact FR.trans FR.rf (mX8_readPart_b111 hrm  l2 st hf)
set_option maxHeartbeats 1000000 in
theorem mX8_readPart_b37 {rc : TG0} (hrm : RmOK0 rc) {u0 : St} (l1 : Int32) (st : St)  (hf : fX8_readPart_b37 rc l1 st = some u0) : FR wG0 st u0 := by
  unfold fX8_readPart_b37 at hf
  rcases (Classical.em ((fX8_fine st) = 0)).symm with h1 | h1
  · rw [if_neg h1] at hf
    obtain ⟨q2, h3, hf⟩ := bnd_some hf
    obtain ⟨q4, h5, hf⟩ := bnd_some hf
    rw [← Option.some.inj hf]; exact (FR.trans (FR.trans (FR.pI (by rfl) FR.rf) (hrm.2.2.2.1 h3)) (FR.mono (by rfl) (mX8_must h5)))
  · rw [if_pos h1] at hf
    rw [← Option.some.inj hf]; exact FR.rf
set_option maxHeartbeats 1000000 in
theorem mX8_readPart_g {rc : TG0} (hrm : RmOK0 rc) {u0 : St} {p1 : Int32} {st : St}  (hf : fX8_readPart_g rc p1 st = some u0) : FR wG0 st u0 := by
  unfold fX8_readPart_g at hf
  rcases (Classical.em ((fX8_fine st) = 0)).symm with h1 | h1
  · rw [if_neg h1] at hf
    obtain ⟨h2, hf⟩ := chk_some hf
    rcases (Classical.em ((sI st 47 ((sI st 38 19).toNatClampNeg)) = (fX8_sign (91 : Int32)))).symm with h3 | h3
    · rw [if_neg h3] at hf
      rcases (Classical.em ((sI st 47 ((sI st 38 19).toNatClampNeg)) = (50 : Int32))).symm with h4 | h4
      · rw [if_neg h4] at hf
        exact FR.trans FR.rf (mX8_readPart_b95 hrm  (sI st 47 ((sI st 38 19).toNatClampNeg)) st hf)
      · rw [if_pos h4] at hf
        obtain ⟨h5, hf⟩ := chk_some hf
        by_cases h6 : (sI st 48 ((sI st 38 19).toNatClampNeg)) ≤ (1000 : Int32)
        · rw [if_pos h6] at hf
          exact FR.trans FR.rf (mX8_readPart_b111 hrm  (sI st 47 ((sI st 38 19).toNatClampNeg)) st hf)
        · rw [if_neg h6] at hf
          exact FR.trans FR.rf (mX8_readPart_b95 hrm  (sI st 47 ((sI st 38 19).toNatClampNeg)) st hf)
    · rw [if_pos h3] at hf
      rcases (Classical.em (p1 = (8 : Int32))).symm with h7 | h7
      · rw [if_neg h7] at hf
        exact FR.trans FR.rf (mX8_readPart_b37 hrm  p1 st hf)
      · rw [if_pos h7] at hf
        obtain ⟨q8, h9, hf⟩ := bnd_some hf
        exact FR.trans (FR.trans FR.rf (FR.mono (by rfl) (mX8_faults h9))) (mX8_readPart_b37 hrm  p1 q8 hf)
  · rw [if_pos h1] at hf
    rw [← Option.some.inj hf]; exact FR.rf
theorem rmLG0 : ∀ d, RmOK0 (LG0 d) := by
  intro d
  induction d with
  | zero => exact ⟨(fun h => nomatch h), (fun h => nomatch h), (fun h => nomatch h), (fun h => nomatch h), (fun h => nomatch h), (fun h => nomatch h)⟩
  | succ d ih => exact ⟨(fun hf => mX8_readTest_g ih hf), (fun hf => mX8_readBoth_g ih hf), (fun hf => mX8_readPlain_g ih hf), (fun hf => mX8_readSum_g ih hf), (fun hf => mX8_readTerm_g ih hf), (fun hf => mX8_readPart_g ih hf)⟩
theorem mX8_readTest {st : St} {p1 : Int32} {u0 : St} (hf : fX8_readTest p1 st = some u0) : FR wG0 st u0 := (rmLG0 100).1 hf
theorem mX8_readBoth {st : St} {p1 : Int32} {u0 : St} (hf : fX8_readBoth p1 st = some u0) : FR wG0 st u0 := (rmLG0 100).2.1 hf
theorem mX8_readPlain {st : St} {p1 : Int32} {u0 : St} (hf : fX8_readPlain p1 st = some u0) : FR wG0 st u0 := (rmLG0 100).2.2.1 hf
theorem mX8_readSum {st : St} {p1 : Int32} {u0 : St} (hf : fX8_readSum p1 st = some u0) : FR wG0 st u0 := (rmLG0 100).2.2.2.1 hf
theorem mX8_readTerm {st : St} {p1 : Int32} {u0 : St} (hf : fX8_readTerm p1 st = some u0) : FR wG0 st u0 := (rmLG0 100).2.2.2.2.1 hf
theorem mX8_readPart {st : St} {p1 : Int32} {u0 : St} (hf : fX8_readPart p1 st = some u0) : FR wG0 st u0 := (rmLG0 100).2.2.2.2.2 hf
def wX8_readClause_S : List (Nat × Option Nat) := [(38, some 19), (38, some 20), (38, some 21)]
set_option maxHeartbeats 1000000 in
theorem mX8_readClause_b37 {u0 : St}  (st : St)  (hf : fX8_readClause_b37 st = some u0) : FR wX8_readClause_S st u0 := by
  unfold fX8_readClause_b37 at hf
  obtain ⟨q1, h2, hf⟩ := bnd_some hf
  by_cases h3 : q1.1 = 0
  · rw [if_pos h3] at hf
    rw [← Option.some.inj hf]; exact (FR.trans FR.rf (FR.mono (by rfl) (mX8_takes0 h2)))
  · rw [if_neg h3] at hf
    exact FR.trans (FR.trans FR.rf (FR.mono (by rfl) (mX8_takes0 h2))) (FR.mono (by rfl) (mX8_readTest hf))
set_option maxHeartbeats 1000000 in
theorem mX8_readClause {u0 : St}  {st : St}  (hf : fX8_readClause st = some u0) : FR wX8_readClause_S st u0 := by
  unfold fX8_readClause at hf
  obtain ⟨q1, h2, hf⟩ := bnd_some hf
  by_cases h3 : q1.1 = 0
  · rw [if_pos h3] at hf
    obtain ⟨q4, h5, hf⟩ := bnd_some hf
    rcases (Classical.em (q4.1 = 0)).symm with h6 | h6
    · rw [if_neg h6] at hf
      exact FR.trans (FR.trans (FR.trans FR.rf (FR.mono (by rfl) (mX8_takes0 h2))) (FR.mono (by rfl) (mX8_takes0 h5))) (mX8_readClause_b37  q4.2 hf)
    · rw [if_pos h6] at hf
      obtain ⟨q7, h8, hf⟩ := bnd_some hf
      rcases (Classical.em (q7.1 = 0)).symm with h9 | h9
      · rw [if_neg h9] at hf
        exact FR.trans (FR.trans (FR.trans (FR.trans FR.rf (FR.mono (by rfl) (mX8_takes0 h2))) (FR.mono (by rfl) (mX8_takes0 h5))) (FR.mono (by rfl) (mX8_takes0 h8))) (mX8_readClause_b37  q7.2 hf)
      · rw [if_pos h9] at hf
        obtain ⟨q10, h11, hf⟩ := bnd_some hf
        exact FR.trans (FR.trans (FR.trans (FR.trans (FR.trans FR.rf (FR.mono (by rfl) (mX8_takes0 h2))) (FR.mono (by rfl) (mX8_takes0 h5))) (FR.mono (by rfl) (mX8_takes0 h8))) (FR.mono (by rfl) (mX8_must h11))) (mX8_readClause_b37  q10 hf)
  · rw [if_neg h3] at hf
    obtain ⟨q12, h13, hf⟩ := bnd_some hf
    exact FR.trans (FR.trans (FR.trans FR.rf (FR.mono (by rfl) (mX8_takes0 h2))) (FR.mono (by rfl) (mX8_readSum h13))) (mX8_readClause_b37  q12 hf)
def wX8_readOrder_S : List (Nat × Option Nat) := [(38, some 19), (38, some 20), (38, some 21)]
set_option maxHeartbeats 1000000 in
theorem mX8_readOrder_b57 {u0 : St}  (st : St)  (hf : fX8_readOrder_b57 st = some u0) : FR wX8_readOrder_S st u0 := by
  unfold fX8_readOrder_b57 at hf
  obtain ⟨q1, h2, hf⟩ := bnd_some hf
  by_cases h3 : q1.1 = 0
  · rw [if_pos h3] at hf
    rw [← Option.some.inj hf]; exact (FR.trans FR.rf (FR.mono (by rfl) (mX8_takes0 h2)))
  · rw [if_neg h3] at hf
    exact FR.trans (FR.trans FR.rf (FR.mono (by rfl) (mX8_takes0 h2))) (FR.mono (by rfl) (mX8_readTest hf))
set_option maxHeartbeats 1000000 in
theorem mX8_readOrder_b41 {u0 : St}  (st : St)  (hf : fX8_readOrder_b41 st = some u0) : FR wX8_readOrder_S st u0 := by
  unfold fX8_readOrder_b41 at hf
  obtain ⟨q1, h2, hf⟩ := bnd_some hf
  by_cases h3 : q1.1 = 0
  · rw [if_pos h3] at hf
    exact FR.trans (FR.trans FR.rf (FR.mono (by rfl) (mX8_takes0 h2))) (mX8_readOrder_b57  q1.2 hf)
  · rw [if_neg h3] at hf
    obtain ⟨q4, h5, hf⟩ := bnd_some hf
    exact FR.trans (FR.trans (FR.trans FR.rf (FR.mono (by rfl) (mX8_takes0 h2))) (FR.mono (by rfl) (mX8_mustNumber h5))) (mX8_readOrder_b57  q4 hf)
set_option maxHeartbeats 1000000 in
theorem mX8_readOrder_b27 {u0 : St}  (st : St)  (hf : fX8_readOrder_b27 st = some u0) : FR wX8_readOrder_S st u0 := by
  unfold fX8_readOrder_b27 at hf
  obtain ⟨q1, h2, hf⟩ := bnd_some hf
  exact FR.trans (FR.trans FR.rf (FR.mono (by rfl) (mX8_readSum h2))) (mX8_readOrder_b41  q1 hf)
set_option maxHeartbeats 1000000 in
theorem mX8_readOrder {u0 : St}  {st : St}  (hf : fX8_readOrder st = some u0) : FR wX8_readOrder_S st u0 := by
  unfold fX8_readOrder at hf
  obtain ⟨q1, h2, hf⟩ := bnd_some hf
  rcases (Classical.em (q1.1 = 0)).symm with h3 | h3
  · rw [if_neg h3] at hf
    exact FR.trans (FR.trans FR.rf (FR.mono (by rfl) (mX8_takes0 h2))) (mX8_readOrder_b27  q1.2 hf)
  · rw [if_pos h3] at hf
    obtain ⟨q4, h5, hf⟩ := bnd_some hf
    rcases (Classical.em (q4.1 = 0)).symm with h6 | h6
    · rw [if_neg h6] at hf
      exact FR.trans (FR.trans (FR.trans FR.rf (FR.mono (by rfl) (mX8_takes0 h2))) (FR.mono (by rfl) (mX8_takes0 h5))) (mX8_readOrder_b27  q4.2 hf)
    · rw [if_pos h6] at hf
      obtain ⟨q7, h8, hf⟩ := bnd_some hf
      by_cases h9 : q7.1 = 0
      · rw [if_pos h9] at hf
        obtain ⟨q10, h11, hf⟩ := bnd_some hf
        exact FR.trans (FR.trans (FR.trans (FR.trans (FR.trans FR.rf (FR.mono (by rfl) (mX8_takes0 h2))) (FR.mono (by rfl) (mX8_takes0 h5))) (FR.mono (by rfl) (mX8_takes0 h8))) (FR.mono (by rfl) (mX8_must h11))) (mX8_readOrder_b41  q10 hf)
      · rw [if_neg h9] at hf
        exact FR.trans (FR.trans (FR.trans (FR.trans FR.rf (FR.mono (by rfl) (mX8_takes0 h2))) (FR.mono (by rfl) (mX8_takes0 h5))) (FR.mono (by rfl) (mX8_takes0 h8))) (mX8_readOrder_b27  q7.2 hf)
def wX8_readOne_S : List (Nat × Option Nat) := [(38, some 19), (38, some 20), (38, some 21)]
set_option maxHeartbeats 1000000 in
theorem mX8_readOne {u0 : St}  {st : St}  (hf : fX8_readOne st = some u0) : FR wX8_readOne_S st u0 := by
  unfold fX8_readOne at hf
  by_cases h1 : (sI st 38 10) = 0
  · rw [if_pos h1] at hf
    exact FR.trans FR.rf (FR.mono (by rfl) (mX8_readClause hf))
  · rw [if_neg h1] at hf
    obtain ⟨q2, h3, hf⟩ := bnd_some hf
    rw [← Option.some.inj hf]; exact (FR.trans FR.rf (FR.mono (by rfl) (mX8_readOrder h3)))
def wX8_reads_S : List (Nat × Option Nat) := [(38, some 13), (38, some 14), (38, some 18), (38, some 19), (38, some 20), (38, some 21), (47, none), (48, none), (49, none)]
set_option maxHeartbeats 1000000 in
theorem mX8_reads_b95 {r0 : Int32} {u0 : St}  (st : St)  (hf : fX8_reads_b95 st = some (r0, u0)) : FR wX8_reads_S st u0 := by
  unfold fX8_reads_b95 at hf
  rw [← (Prod.mk.inj (Option.some.inj hf)).2]; exact (FR.pI (by rfl) FR.rf)
set_option maxHeartbeats 1000000 in
theorem mX8_reads_b67 {r0 : Int32} {u0 : St} {k34 : Int32 → St → Option (Int32 × St)} (hk34 : ∀ (l1 : Int32) (st : St), k34 l1 st = some (r0, u0) → FR wX8_reads_S st u0) (l1 : Int32) (st : St)  (hf : fX8_reads_b67 k34 l1 st = some (r0, u0)) : FR wX8_reads_S st u0 := by
  unfold fX8_reads_b67 at hf
  exact FR.trans FR.rf (hk34 (l1 + (1 : Int32)) st hf)
set_option maxHeartbeats 1000000 in
theorem mX8_reads_b56 {r0 : Int32} {u0 : St} {k34 : Int32 → St → Option (Int32 × St)} (hk34 : ∀ (l1 : Int32) (st : St), k34 l1 st = some (r0, u0) → FR wX8_reads_S st u0) (l1 : Int32) (st : St)  (hf : fX8_reads_b56 k34 l1 st = some (r0, u0)) : FR wX8_reads_S st u0 := by
  unfold fX8_reads_b56 at hf
  by_cases h1 : (fX8_fine st) = 0
  · rw [if_pos h1] at hf
    exact FR.trans FR.rf (mX8_reads_b67 hk34 l1 st hf)
  · rw [if_neg h1] at hf
    obtain ⟨q2, h3, hf⟩ := bnd_some hf
    exact FR.trans (FR.trans FR.rf (FR.mono (by rfl) (mX8_readOne h3))) (mX8_reads_b67 hk34 l1 q2 hf)
set_option maxHeartbeats 1000000 in
theorem mX8_reads_b34 {r0 : Int32} {u0 : St} : ∀ (n : Nat) (l1 : Int32) (st : St) , fX8_reads_b34 n l1 st = some (r0, u0) → FR wX8_reads_S st u0 := by
  intro n
  induction n with
  | zero =>
    intros
    rename_i hf
    rw [fX8_reads_b34] at hf
    cases hf
  | succ n ih =>
    intro l1 st hf
    rw [fX8_reads_b34] at hf
    obtain ⟨q1, h2, hf⟩ := bnd_some hf
    by_cases h3 : q1.1 = 0
    · rw [if_pos h3] at hf
      by_cases h4 : (fX8_fine q1.2) = 0
      · rw [if_pos h4] at hf
        exact FR.trans (FR.trans FR.rf (FR.mono (by rfl) (mX8_takes0 h2))) (mX8_reads_b95  q1.2 hf)
      · rw [if_neg h4] at hf
        by_cases h5 : (sI q1.2 38 18) ≤ (sI q1.2 38 19)
        · rw [if_pos h5] at hf
          exact FR.trans (FR.trans FR.rf (FR.mono (by rfl) (mX8_takes0 h2))) (mX8_reads_b95  q1.2 hf)
        · rw [if_neg h5] at hf
          obtain ⟨q6, h7, hf⟩ := bnd_some hf
          exact FR.trans (FR.trans (FR.trans FR.rf (FR.mono (by rfl) (mX8_takes0 h2))) (FR.mono (by rfl) (mX8_faults h7))) (mX8_reads_b95  q6 hf)
    · rw [if_neg h3] at hf
      rcases (Classical.em (l1 = (12 : Int32))).symm with h8 | h8
      · rw [if_neg h8] at hf
        exact FR.trans (FR.trans FR.rf (FR.mono (by rfl) (mX8_takes0 h2))) (mX8_reads_b56 ih l1 q1.2 hf)
      · rw [if_pos h8] at hf
        obtain ⟨q9, h10, hf⟩ := bnd_some hf
        exact FR.trans (FR.trans (FR.trans FR.rf (FR.mono (by rfl) (mX8_takes0 h2))) (FR.mono (by rfl) (mX8_faults h10))) (mX8_reads_b56 ih l1 q9 hf)
set_option maxHeartbeats 1000000 in
theorem mX8_reads {r0 : Int32} {u0 : St}  {st : St}  (hf : fX8_reads st = some (r0, u0)) : FR wX8_reads_S st u0 := by
  unfold fX8_reads at hf
  obtain ⟨q1, h2, hf⟩ := bnd_some hf
  obtain ⟨q3, h4, hf⟩ := bnd_some hf
  exact FR.trans (FR.trans (FR.pI (by rfl) (FR.pI (by rfl) (FR.pI (by rfl) (FR.pI (by rfl) (FR.trans FR.rf (FR.mono (by rfl) (mX8_splits h2))))))) (FR.mono (by rfl) (mX8_readOne h4))) (mX8_reads_b34  FU (1 : Int32) q3 hf)
def wX8_readsAs_S : List (Nat × Option Nat) := [(38, some 10), (38, some 13), (38, some 14), (38, some 18), (38, some 19), (38, some 20), (38, some 21), (38, some 8), (38, some 9), (47, none), (48, none), (49, none)]
set_option maxHeartbeats 1000000 in
theorem mX8_readsAs_b32 {r0 : Int32} {u0 : St} (s1 : Int32) (st : St)  (hf : fX8_readsAs_b32 s1 st = some (r0, u0)) : FR wX8_readsAs_S st u0 := by
  unfold fX8_readsAs_b32 at hf
  obtain ⟨q1, h2, hf⟩ := bnd_some hf
  obtain ⟨h3, hf⟩ := chk_some hf
  rw [← (Prod.mk.inj (Option.some.inj hf)).2]; exact (FR.trans (FR.pI (by rfl) FR.rf) (FR.mono (by rfl) (mX8_reads h2)))
set_option maxHeartbeats 1000000 in
theorem mX8_readsAs_b17 {r0 : Int32} {u0 : St} (l1 : Int32) (s1 : Int32) (st : St)  (hf : fX8_readsAs_b17 l1 s1 st = some (r0, u0)) : FR wX8_readsAs_S st u0 := by
  unfold fX8_readsAs_b17 at hf
  by_cases h1 : l1 = 0
  · rw [if_pos h1] at hf
    exact FR.trans (FR.pI (by rfl) FR.rf) (mX8_readsAs_b32  (15 : Int32) (pI st 38 8 s1) hf)
  · rw [if_neg h1] at hf
    exact FR.trans (FR.pI (by rfl) FR.rf) (mX8_readsAs_b32  (19 : Int32) (pI st 38 8 s1) hf)
set_option maxHeartbeats 1000000 in
theorem mX8_readsAs {r0 : Int32} {u0 : St} {p1 : Int32} {st : St}  (hf : fX8_readsAs p1 st = some (r0, u0)) : FR wX8_readsAs_S st u0 := by
  unfold fX8_readsAs at hf
  obtain ⟨h1, hf⟩ := chk_some hf
  by_cases h2 : p1 = 0
  · rw [if_pos h2] at hf
    exact FR.trans (FR.pI (by rfl) FR.rf) (mX8_readsAs_b17  p1 (9 : Int32) (pI st 38 10 p1) hf)
  · rw [if_neg h2] at hf
    exact FR.trans (FR.pI (by rfl) FR.rf) (mX8_readsAs_b17  p1 (13 : Int32) (pI st 38 10 p1) hf)
def wX8_lays_S : List (Nat × Option Nat) := [(40, none)]
set_option maxHeartbeats 1000000 in
theorem mX8_lays_b15 {u0 : St} : ∀ (n : Nat) (l1 : Int32) (l2 : Int32) (st : St) , fX8_lays_b15 n l1 l2 st = some u0 → FR wX8_lays_S st u0 := by
  intro n
  induction n with
  | zero =>
    intros
    rename_i hf
    rw [fX8_lays_b15] at hf
    cases hf
  | succ n ih =>
    intro l1 l2 st hf
    rw [fX8_lays_b15] at hf
    by_cases h1 : (sI st 38 18) ≤ l2
    · rw [if_pos h1] at hf
      rw [← Option.some.inj hf]; exact FR.rf
    · rw [if_neg h1] at hf
      obtain ⟨h2, hf⟩ := chk_some hf
      obtain ⟨h3, hf⟩ := chk_some hf
      obtain ⟨h4, hf⟩ := chk_some hf
      obtain ⟨h5, hf⟩ := chk_some hf
      exact FR.trans (FR.pI (inS_all (by rfl)) (FR.pI (inS_all (by rfl)) FR.rf)) (ih l1 (l2 + (1 : Int32)) (pI (pI st 40 ((((27 : Int32) + ((400 : Int32) * l1)) + l2).toNatClampNeg) (sI st 47 l2.toNatClampNeg)) 40 ((((2827 : Int32) + ((400 : Int32) * l1)) + l2).toNatClampNeg) (sI (pI st 40 ((((27 : Int32) + ((400 : Int32) * l1)) + l2).toNatClampNeg) (sI st 47 l2.toNatClampNeg)) 48 l2.toNatClampNeg)) hf)
set_option maxHeartbeats 1000000 in
theorem mX8_lays {u0 : St} {p1 : Int32} {st : St}  (hf : fX8_lays p1 st = some u0) : FR wX8_lays_S st u0 := by
  unfold fX8_lays at hf
  obtain ⟨h1, hf⟩ := chk_some hf
  exact FR.trans (FR.pI (inS_all (by rfl)) FR.rf) (mX8_lays_b15  FU p1 (0 : Int32) (pI st 40 (((20 : Int32) + p1).toNatClampNeg) (sI st 38 18)) hf)
def wX8_law_S : List (Nat × Option Nat) := [(38, some 0), (38, some 10), (38, some 13), (38, some 14), (38, some 18), (38, some 19), (38, some 20), (38, some 21), (38, some 8), (38, some 9), (39, none), (40, some 18), (40, none), (47, none), (48, none), (49, none)]
set_option maxHeartbeats 1000000 in
theorem mX8_law {r0 : Int32} {u0 : St}  {st : St}  (hf : fX8_law st = some (r0, u0)) : FR wX8_law_S st u0 := by
  unfold fX8_law at hf
  rcases (Classical.em ((sI st 40 18) = (6 : Int32))).symm with h1 | h1
  · rw [if_neg h1] at hf
    obtain ⟨q2, h3, hf⟩ := bnd_some hf
    rcases (Classical.em (q2.1 = 0)).symm with h4 | h4
    · rw [if_neg h4] at hf
      obtain ⟨q5, h6, hf⟩ := bnd_some hf
      exact FR.trans (FR.pI (by rfl) (FR.trans (FR.trans FR.rf (FR.mono (by rfl) (mX8_readsAs h3))) (FR.mono (by rfl) (mX8_lays h6)))) (FR.mono (by rfl) (mX8_good hf))
    · rw [if_pos h4] at hf
      exact FR.trans (FR.trans FR.rf (FR.mono (by rfl) (mX8_readsAs h3))) (FR.mono (by rfl) (mX8_refuses hf))
  · rw [if_pos h1] at hf
    exact FR.trans (FR.pI (by rfl) FR.rf) (FR.mono (by rfl) (mX8_refuses hf))
def wX8_force_S : List (Nat × Option Nat) := [(38, some 0), (39, none), (40, some 19)]
set_option maxHeartbeats 1000000 in
theorem mX8_force {r0 : Int32} {u0 : St} {p1 : Int32} {st : St}  (hf : fX8_force p1 st = some (r0, u0)) : FR wX8_force_S st u0 := by
  unfold fX8_force at hf
  rcases (Classical.em ((fX8_isLaw st p1) = 0)).symm with h1 | h1
  · rw [if_neg h1] at hf
    exact FR.trans (FR.pI (by rfl) FR.rf) (FR.mono (by rfl) (mX8_good hf))
  · rw [if_pos h1] at hf
    exact FR.trans FR.rf (FR.mono (by rfl) (mX8_refuses hf))
def wX8_passes0_S : List (Nat × Option Nat) := [(38, some 22)]
set_option maxHeartbeats 1000000 in
theorem mX8_passes0_b17 {r0 : Int32} {u0 : St} (s0 : Int32) (st : St)  (hf : fX8_passes0_b17 s0 st = some (r0, u0)) : FR wX8_passes0_S st u0 := by
  unfold fX8_passes0_b17 at hf
  by_cases h1 : s0 = 0
  · rw [if_pos h1] at hf
    obtain ⟨h2, hf⟩ := chk_some hf
    rw [← (Prod.mk.inj (Option.some.inj hf)).2]; exact FR.rf
  · rw [if_neg h1] at hf
    obtain ⟨h3, hf⟩ := chk_some hf
    rw [← (Prod.mk.inj (Option.some.inj hf)).2]; exact (FR.pI (by rfl) FR.rf)
set_option maxHeartbeats 1000000 in
theorem mX8_passes0 {r0 : Int32} {u0 : St} {p1 : Int32} {st : St}  (hf : fX8_passes0 p1 st = some (r0, u0)) : FR wX8_passes0_S st u0 := by
  unfold fX8_passes0 at hf
  obtain ⟨q1, h2, hf⟩ := bnd_some hf
  rcases (Classical.em (q1 = p1)).symm with h3 | h3
  · rw [if_neg h3] at hf
    exact FR.trans FR.rf (mX8_passes0_b17  (0 : Int32) st hf)
  · rw [if_pos h3] at hf
    exact FR.trans FR.rf (mX8_passes0_b17  (1 : Int32) st hf)
def wX8_bounded_S : List (Nat × Option Nat) := [(38, some 24)]
set_option maxHeartbeats 1000000 in
theorem mX8_bounded_b25 {r0 : Int64} {u0 : St} (l1 : Int64) (st : St)  (hf : fX8_bounded_b25 l1 st = some (r0, u0)) : FR wX8_bounded_S st u0 := by
  unfold fX8_bounded_b25 at hf
  by_cases h1 : (sI st 38 24) = 0
  · rw [if_pos h1] at hf
    rw [← (Prod.mk.inj (Option.some.inj hf)).2]; exact FR.rf
  · rw [if_neg h1] at hf
    rw [← (Prod.mk.inj (Option.some.inj hf)).2]; exact FR.rf
set_option maxHeartbeats 1000000 in
theorem mX8_bounded_b20 {r0 : Int64} {u0 : St} (l1 : Int64) (st : St)  (hf : fX8_bounded_b20 l1 st = some (r0, u0)) : FR wX8_bounded_S st u0 := by
  unfold fX8_bounded_b20 at hf
  exact FR.trans (FR.pI (by rfl) FR.rf) (mX8_bounded_b25  l1 (pI st 38 24 (1 : Int32)) hf)
set_option maxHeartbeats 1000000 in
theorem mX8_bounded {r0 : Int64} {u0 : St} {p1 : Int64} {p2 : Int32} {st : St}  (hf : fX8_bounded p1 p2 st = some (r0, u0)) : FR wX8_bounded_S st u0 := by
  unfold fX8_bounded at hf
  by_cases h1 : p2 = 0
  · rw [if_pos h1] at hf
    exact FR.trans FR.rf (mX8_bounded_b25  p1 st hf)
  · rw [if_neg h1] at hf
    by_cases h2 : 0 < (lg_cmp p1 (1000000000 : Int64))
    · rw [if_pos h2] at hf
      exact FR.trans FR.rf (mX8_bounded_b20  p1 st hf)
    · rw [if_neg h2] at hf
      by_cases h3 : 0 ≤ (lg_cmp p1 (-1000000000 : Int64))
      · rw [if_pos h3] at hf
        exact FR.trans FR.rf (mX8_bounded_b25  p1 st hf)
      · rw [if_neg h3] at hf
        exact FR.trans FR.rf (mX8_bounded_b20  p1 st hf)
def wG1 : List (Nat × Option Nat) := [(38, some 22), (38, some 24)]
def RmOK1 (rc : TG1) : Prop := (∀ {st : St} {p1 : Int32} {r0 : Int64} {u0 : St}, rc.1 p1 st = some (r0, u0) → FR wG1 st u0) ∧ (∀ {st : St} {p1 : Int32} {r0 : Int64} {u0 : St}, rc.2.1 p1 st = some (r0, u0) → FR wG1 st u0) ∧ (∀ {st : St} {p1 : Int32} {r0 : Int64} {u0 : St}, rc.2.2 p1 st = some (r0, u0) → FR wG1 st u0)
set_option maxHeartbeats 1000000 in
theorem mX8_sumOf_b95 {rc : TG1} (hrm : RmOK1 rc) {r0 : Int64} {u0 : St} {k6 : Int32 → Int64 → St → Option (Int64 × St)} (hk6 : ∀ (l1 : Int32) (l2 : Int64) (st : St), k6 l1 l2 st = some (r0, u0) → FR wG1 st u0) (l1 : Int32) (s1 : Int64) (st : St)  (hf : fX8_sumOf_b95 rc k6 l1 s1 st = some (r0, u0)) : FR wG1 st u0 := by
  unfold fX8_sumOf_b95 at hf
  obtain ⟨q1, h2, hf⟩ := bnd_some hf
  exact FR.trans (FR.trans FR.rf (FR.mono (by rfl) (mX8_bounded h2))) (hk6 l1 q1.1 q1.2 hf)
set_option maxHeartbeats 1000000 in
theorem mX8_sumOf_b59 {rc : TG1} (hrm : RmOK1 rc) {r0 : Int64} {u0 : St} {k6 : Int32 → Int64 → St → Option (Int64 × St)} (hk6 : ∀ (l1 : Int32) (l2 : Int64) (st : St), k6 l1 l2 st = some (r0, u0) → FR wG1 st u0) (l1 : Int32) (l2 : Int64) (s0 : Int32) (st : St)  (hf : fX8_sumOf_b59 rc k6 l1 l2 s0 st = some (r0, u0)) : FR wG1 st u0 := by
  unfold fX8_sumOf_b59 at hf
  obtain ⟨q1, h2, hf⟩ := bnd_some hf
  by_cases h3 : s0 = 0
  · rw [if_pos h3] at hf
    exact FR.trans (FR.trans (FR.pI (by rfl) FR.rf) (hrm.2.1 h2)) (mX8_sumOf_b95 hrm hk6 l1 (l2 - q1.1) q1.2 hf)
  · rw [if_neg h3] at hf
    exact FR.trans (FR.trans (FR.pI (by rfl) FR.rf) (hrm.2.1 h2)) (mX8_sumOf_b95 hrm hk6 l1 (l2 + q1.1) q1.2 hf)
set_option maxHeartbeats 1000000 in
theorem mX8_sumOf_b38 {rc : TG1} (hrm : RmOK1 rc) {r0 : Int64} {u0 : St} {k6 : Int32 → Int64 → St → Option (Int64 × St)} (hk6 : ∀ (l1 : Int32) (l2 : Int64) (st : St), k6 l1 l2 st = some (r0, u0) → FR wG1 st u0) (l1 : Int32) (l2 : Int64) (st : St)  (hf : fX8_sumOf_b38 rc k6 l1 l2 st = some (r0, u0)) : FR wG1 st u0 := by
  unfold fX8_sumOf_b38 at hf
  obtain ⟨q1, h2, hf⟩ := bnd_some hf
  rcases (Classical.em (q1 = (fX8_sign (43 : Int32)))).symm with h3 | h3
  · rw [if_neg h3] at hf
    exact FR.trans FR.rf (mX8_sumOf_b59 hrm hk6 l1 l2 (0 : Int32) st hf)
  · rw [if_pos h3] at hf
    exact FR.trans FR.rf (mX8_sumOf_b59 hrm hk6 l1 l2 (1 : Int32) st hf)
set_option maxHeartbeats 1000000 in
theorem mX8_sumOf_b6 {rc : TG1} (hrm : RmOK1 rc) {r0 : Int64} {u0 : St} : ∀ (n : Nat) (l1 : Int32) (l2 : Int64) (st : St) , fX8_sumOf_b6 rc n l1 l2 st = some (r0, u0) → FR wG1 st u0 := by
  intro n
  induction n with
  | zero =>
    intros
    rename_i hf
    rw [fX8_sumOf_b6] at hf
    cases hf
  | succ n ih =>
    intro l1 l2 st hf
    rw [fX8_sumOf_b6] at hf
    obtain ⟨q1, h2, hf⟩ := bnd_some hf
    by_cases h3 : q1 = (fX8_sign (43 : Int32))
    · rw [if_pos h3] at hf
      exact FR.trans FR.rf (mX8_sumOf_b38 hrm ih l1 l2 st hf)
    · rw [if_neg h3] at hf
      obtain ⟨q4, h5, hf⟩ := bnd_some hf
      rcases (Classical.em (q4 = (fX8_sign (45 : Int32)))).symm with h6 | h6
      · rw [if_neg h6] at hf
        rw [← (Prod.mk.inj (Option.some.inj hf)).2]; exact FR.rf
      · rw [if_pos h6] at hf
        exact FR.trans FR.rf (mX8_sumOf_b38 hrm ih l1 l2 st hf)
set_option maxHeartbeats 1000000 in
theorem mX8_sumOf_g {rc : TG1} (hrm : RmOK1 rc) {r0 : Int64} {u0 : St} {p1 : Int32} {st : St}  (hf : fX8_sumOf_g rc p1 st = some (r0, u0)) : FR wG1 st u0 := by
  unfold fX8_sumOf_g at hf
  obtain ⟨q1, h2, hf⟩ := bnd_some hf
  exact FR.trans (FR.trans FR.rf (hrm.2.1 h2)) (mX8_sumOf_b6 hrm  FU p1 q1.1 q1.2 hf)
set_option maxHeartbeats 1000000 in
theorem mX8_termOf_b160 {rc : TG1} (hrm : RmOK1 rc) {r0 : Int64} {u0 : St} {k6 : Int32 → Int64 → St → Option (Int64 × St)} (hk6 : ∀ (l1 : Int32) (l2 : Int64) (st : St), k6 l1 l2 st = some (r0, u0) → FR wG1 st u0) (l1 : Int32) (s1 : Int64) (st : St)  (hf : fX8_termOf_b160 rc k6 l1 s1 st = some (r0, u0)) : FR wG1 st u0 := by
  unfold fX8_termOf_b160 at hf
  obtain ⟨q1, h2, hf⟩ := bnd_some hf
  exact FR.trans (FR.trans FR.rf (FR.mono (by rfl) (mX8_bounded h2))) (hk6 l1 q1.1 q1.2 hf)
set_option maxHeartbeats 1000000 in
theorem mX8_termOf_b121 {rc : TG1} (hrm : RmOK1 rc) {r0 : Int64} {u0 : St} {k6 : Int32 → Int64 → St → Option (Int64 × St)} (hk6 : ∀ (l1 : Int32) (l2 : Int64) (st : St), k6 l1 l2 st = some (r0, u0) → FR wG1 st u0) (l1 : Int32) (l2 : Int64) (l4 : Int32) (l5 : Int64) (st : St)  (hf : fX8_termOf_b121 rc k6 l1 l2 l4 l5 st = some (r0, u0)) : FR wG1 st u0 := by
  unfold fX8_termOf_b121 at hf
  rcases (Classical.em (l4 = (fX8_sign (42 : Int32)))).symm with h1 | h1
  · rw [if_neg h1] at hf
    rcases (Classical.em (l4 = (fX8_sign (47 : Int32)))).symm with h2 | h2
    · rw [if_neg h2] at hf
      obtain ⟨h3, hf⟩ := chk_some hf
      exact FR.trans FR.rf (mX8_termOf_b160 hrm hk6 l1 (ljrem l2 l5) st hf)
    · rw [if_pos h2] at hf
      obtain ⟨h4, hf⟩ := chk_some hf
      exact FR.trans FR.rf (mX8_termOf_b160 hrm hk6 l1 (l2 / l5) st hf)
  · rw [if_pos h1] at hf
    exact FR.trans FR.rf (mX8_termOf_b160 hrm hk6 l1 (l2 * l5) st hf)
set_option maxHeartbeats 1000000 in
theorem mX8_termOf_b115 {rc : TG1} (hrm : RmOK1 rc) {r0 : Int64} {u0 : St} {k6 : Int32 → Int64 → St → Option (Int64 × St)} (hk6 : ∀ (l1 : Int32) (l2 : Int64) (st : St), k6 l1 l2 st = some (r0, u0) → FR wG1 st u0) (l1 : Int32) (l2 : Int64) (l4 : Int32) (s1 : Int32) (st : St)  (hf : fX8_termOf_b115 rc k6 l1 l2 l4 s1 st = some (r0, u0)) : FR wG1 st u0 := by
  unfold fX8_termOf_b115 at hf
  obtain ⟨h1, hf⟩ := chk_some hf
  exact FR.trans (FR.pI (by rfl) FR.rf) (mX8_termOf_b121 hrm hk6 l1 l2 l4 (1 : Int64) (pI st 38 24 s1) hf)
set_option maxHeartbeats 1000000 in
theorem mX8_termOf_b110 {rc : TG1} (hrm : RmOK1 rc) {r0 : Int64} {u0 : St} {k6 : Int32 → Int64 → St → Option (Int64 × St)} (hk6 : ∀ (l1 : Int32) (l2 : Int64) (st : St), k6 l1 l2 st = some (r0, u0) → FR wG1 st u0) (l1 : Int32) (l2 : Int64) (l4 : Int32) (st : St)  (hf : fX8_termOf_b110 rc k6 l1 l2 l4 st = some (r0, u0)) : FR wG1 st u0 := by
  unfold fX8_termOf_b110 at hf
  exact FR.trans FR.rf (mX8_termOf_b115 hrm hk6 l1 l2 l4 (1 : Int32) st hf)
set_option maxHeartbeats 1000000 in
theorem mX8_termOf_b54 {rc : TG1} (hrm : RmOK1 rc) {r0 : Int64} {u0 : St} {k6 : Int32 → Int64 → St → Option (Int64 × St)} (hk6 : ∀ (l1 : Int32) (l2 : Int64) (st : St), k6 l1 l2 st = some (r0, u0) → FR wG1 st u0) (l1 : Int32) (l2 : Int64) (st : St)  (hf : fX8_termOf_b54 rc k6 l1 l2 st = some (r0, u0)) : FR wG1 st u0 := by
  unfold fX8_termOf_b54 at hf
  obtain ⟨q1, h2, hf⟩ := bnd_some hf
  obtain ⟨q3, h4, hf⟩ := bnd_some hf
  by_cases h5 : q1 = (fX8_sign (42 : Int32))
  · rw [if_pos h5] at hf
    exact FR.trans (FR.trans (FR.pI (by rfl) FR.rf) (hrm.2.2 h4)) (mX8_termOf_b121 hrm hk6 l1 l2 q1 q3.1 q3.2 hf)
  · rw [if_neg h5] at hf
    rcases (Classical.em ((lg_cmp q3.1 (0 : Int64)) = 0)).symm with h6 | h6
    · rw [if_neg h6] at hf
      exact FR.trans (FR.trans (FR.pI (by rfl) FR.rf) (hrm.2.2 h4)) (mX8_termOf_b121 hrm hk6 l1 l2 q1 q3.1 q3.2 hf)
    · rw [if_pos h6] at hf
      rcases (Classical.em ((sI q3.2 38 24) = 0)).symm with h7 | h7
      · rw [if_neg h7] at hf
        exact FR.trans (FR.trans (FR.pI (by rfl) FR.rf) (hrm.2.2 h4)) (mX8_termOf_b110 hrm hk6 l1 l2 q1 q3.2 hf)
      · rw [if_pos h7] at hf
        by_cases h8 : l1 = 0
        · rw [if_pos h8] at hf
          exact FR.trans (FR.trans (FR.pI (by rfl) FR.rf) (hrm.2.2 h4)) (mX8_termOf_b115 hrm hk6 l1 l2 q1 (0 : Int32) q3.2 hf)
        · rw [if_neg h8] at hf
          exact FR.trans (FR.trans (FR.pI (by rfl) FR.rf) (hrm.2.2 h4)) (mX8_termOf_b110 hrm hk6 l1 l2 q1 q3.2 hf)
set_option maxHeartbeats 1000000 in
theorem mX8_termOf_b6 {rc : TG1} (hrm : RmOK1 rc) {r0 : Int64} {u0 : St} : ∀ (n : Nat) (l1 : Int32) (l2 : Int64) (st : St) , fX8_termOf_b6 rc n l1 l2 st = some (r0, u0) → FR wG1 st u0 := by
  intro n
  induction n with
  | zero =>
    intros
    rename_i hf
    rw [fX8_termOf_b6] at hf
    cases hf
  | succ n ih =>
    intro l1 l2 st hf
    rw [fX8_termOf_b6] at hf
    obtain ⟨q1, h2, hf⟩ := bnd_some hf
    by_cases h3 : q1 = (fX8_sign (42 : Int32))
    · rw [if_pos h3] at hf
      exact FR.trans FR.rf (mX8_termOf_b54 hrm ih l1 l2 st hf)
    · rw [if_neg h3] at hf
      obtain ⟨q4, h5, hf⟩ := bnd_some hf
      by_cases h6 : q4 = (fX8_sign (47 : Int32))
      · rw [if_pos h6] at hf
        exact FR.trans FR.rf (mX8_termOf_b54 hrm ih l1 l2 st hf)
      · rw [if_neg h6] at hf
        obtain ⟨q7, h8, hf⟩ := bnd_some hf
        rcases (Classical.em (q7 = (fX8_sign (37 : Int32)))).symm with h9 | h9
        · rw [if_neg h9] at hf
          rw [← (Prod.mk.inj (Option.some.inj hf)).2]; exact FR.rf
        · rw [if_pos h9] at hf
          exact FR.trans FR.rf (mX8_termOf_b54 hrm ih l1 l2 st hf)
set_option maxHeartbeats 1000000 in
theorem mX8_termOf_g {rc : TG1} (hrm : RmOK1 rc) {r0 : Int64} {u0 : St} {p1 : Int32} {st : St}  (hf : fX8_termOf_g rc p1 st = some (r0, u0)) : FR wG1 st u0 := by
  unfold fX8_termOf_g at hf
  obtain ⟨q1, h2, hf⟩ := bnd_some hf
  exact FR.trans (FR.trans FR.rf (hrm.2.2 h2)) (mX8_termOf_b6 hrm  FU p1 q1.1 q1.2 hf)
set_option maxHeartbeats 1000000 in
theorem mX8_partOf_b94 {rc : TG1} (hrm : RmOK1 rc) {r0 : Int64} {u0 : St} (l1 : Int32) (l2 : Int32) (l3 : Int32) (st : St)  (hf : fX8_partOf_b94 rc l1 l2 l3 st = some (r0, u0)) : FR wG1 st u0 := by
  unfold fX8_partOf_b94 at hf
  by_cases h1 : l1 = 0
  · rw [if_pos h1] at hf
    rw [← (Prod.mk.inj (Option.some.inj hf)).2]; exact FR.rf
  · rw [if_neg h1] at hf
    by_cases h2 : (sI st 38 24) = 0
    · rw [if_pos h2] at hf
      rcases (Classical.em (l2 = (50 : Int32))).symm with h3 | h3
      · rw [if_neg h3] at hf
        by_cases h4 : (sI st 38 25) = 0
        · rw [if_pos h4] at hf
          obtain ⟨h5, hf⟩ := chk_some hf
          rw [← (Prod.mk.inj (Option.some.inj hf)).2]; exact FR.rf
        · rw [if_neg h4] at hf
          obtain ⟨q6, h7, hf⟩ := bnd_some hf
          rw [← (Prod.mk.inj (Option.some.inj hf)).2]; exact FR.rf
      · rw [if_pos h3] at hf
        obtain ⟨h8, hf⟩ := chk_some hf
        rw [← (Prod.mk.inj (Option.some.inj hf)).2]; exact FR.rf
    · rw [if_neg h2] at hf
      rw [← (Prod.mk.inj (Option.some.inj hf)).2]; exact FR.rf
set_option maxHeartbeats 1000000 in
theorem mX8_partOf_b70 {rc : TG1} (hrm : RmOK1 rc) {r0 : Int64} {u0 : St} (l1 : Int32) (l2 : Int32) (st : St)  (hf : fX8_partOf_b70 rc l1 l2 st = some (r0, u0)) : FR wG1 st u0 := by
  unfold fX8_partOf_b70 at hf
  obtain ⟨h1, hf⟩ := chk_some hf
  exact FR.trans (FR.pI (by rfl) FR.rf) (mX8_partOf_b94 hrm  l1 l2 (sI st 40 (((2827 : Int32) + (sI st 38 22)).toNatClampNeg)) (pI st 38 22 ((sI st 38 22) + (1 : Int32))) hf)
set_option maxHeartbeats 1000000 in
theorem mX8_partOf_g {rc : TG1} (hrm : RmOK1 rc) {r0 : Int64} {u0 : St} {p1 : Int32} {st : St}  (hf : fX8_partOf_g rc p1 st = some (r0, u0)) : FR wG1 st u0 := by
  unfold fX8_partOf_g at hf
  obtain ⟨q1, h2, hf⟩ := bnd_some hf
  by_cases h3 : q1.1 = 0
  · rw [if_pos h3] at hf
    obtain ⟨q4, h5, hf⟩ := bnd_some hf
    by_cases h6 : (sI (pI q1.2 38 22 ((sI q1.2 38 22) + (1 : Int32))) 38 25) = 0
    · rw [if_pos h6] at hf
      exact FR.trans (FR.pI (by rfl) (FR.trans FR.rf (FR.mono (by rfl) (mX8_passes0 h2)))) (mX8_partOf_b94 hrm  p1 q4 (0 : Int32) (pI q1.2 38 22 ((sI q1.2 38 22) + (1 : Int32))) hf)
    · rw [if_neg h6] at hf
      by_cases h7 : q4 = (13 : Int32)
      · rw [if_pos h7] at hf
        exact FR.trans (FR.pI (by rfl) (FR.trans FR.rf (FR.mono (by rfl) (mX8_passes0 h2)))) (mX8_partOf_b70 hrm  p1 q4 (pI q1.2 38 22 ((sI q1.2 38 22) + (1 : Int32))) hf)
      · rw [if_neg h7] at hf
        rcases (Classical.em (q4 = (19 : Int32))).symm with h8 | h8
        · rw [if_neg h8] at hf
          exact FR.trans (FR.pI (by rfl) (FR.trans FR.rf (FR.mono (by rfl) (mX8_passes0 h2)))) (mX8_partOf_b94 hrm  p1 q4 (0 : Int32) (pI q1.2 38 22 ((sI q1.2 38 22) + (1 : Int32))) hf)
        · rw [if_pos h8] at hf
          exact FR.trans (FR.pI (by rfl) (FR.trans FR.rf (FR.mono (by rfl) (mX8_passes0 h2)))) (mX8_partOf_b70 hrm  p1 q4 (pI q1.2 38 22 ((sI q1.2 38 22) + (1 : Int32))) hf)
  · rw [if_neg h3] at hf
    obtain ⟨q9, h10, hf⟩ := bnd_some hf
    rw [← (Prod.mk.inj (Option.some.inj hf)).2]; exact (FR.pI (by rfl) (FR.trans (FR.trans FR.rf (FR.mono (by rfl) (mX8_passes0 h2))) (hrm.1 h10)))
theorem rmLG1 : ∀ d, RmOK1 (LG1 d) := by
  intro d
  induction d with
  | zero => exact ⟨(fun h => nomatch h), (fun h => nomatch h), (fun h => nomatch h)⟩
  | succ d ih => exact ⟨(fun hf => mX8_sumOf_g ih hf), (fun hf => mX8_termOf_g ih hf), (fun hf => mX8_partOf_g ih hf)⟩
theorem mX8_sumOf {st : St} {p1 : Int32} {r0 : Int64} {u0 : St} (hf : fX8_sumOf p1 st = some (r0, u0)) : FR wG1 st u0 := (rmLG1 100).1 hf
theorem mX8_termOf {st : St} {p1 : Int32} {r0 : Int64} {u0 : St} (hf : fX8_termOf p1 st = some (r0, u0)) : FR wG1 st u0 := (rmLG1 100).2.1 hf
theorem mX8_partOf {st : St} {p1 : Int32} {r0 : Int64} {u0 : St} (hf : fX8_partOf p1 st = some (r0, u0)) : FR wG1 st u0 := (rmLG1 100).2.2 hf
