/-! tests, told by the model -/
section
variable {base : Nat} {T : Tok} {o : Bool} {f : Nat → Int32}
def EvB (base : Nat) (T : Tok) (o : Bool) (f : Nat → Int32) (fn : Int32 → St → Option (Int32 × St)) (k k' : Nat) (D : Dn) : Prop :=
  ∀ (live b : Bool) (st : St), Mc base T o f st → At8 base k b st → ∃ w u, fn (b2i live) st = some (b2i w, u) ∧ FR S_e st u ∧ At8 base k' (bb b live (D f)) u ∧ (live = true → b = false → ∀ x, D f = some x → x = b2i w)
def PartB (fn : Int32 → St → Option (Int32 × St)) (p : Ps1) : Prop := Mo T Q0 p ∧ ∀ k l k' l' D, p k l = .inr (k', l', D) → EvB base T o f fn k k' D
theorem isb_b {b : Bool} : isb (b2i b) = true := by cases b <;> rfl
theorem b2i_ne {b : Bool} : (b2i b = 1) = (b = true) := by cases b <;> decide
theorem bb_and {b live w1 : Bool} {D E : Dn} (h : live = true → b = false → ∀ x, D f = some x → x = b2i w1) : bb (bb b live (D f)) (live && w1) (E f) = bb b live (dAnd D E f) := by
  unfold bb dAnd
  cases b with
  | true => simp
  | false =>
    cases live with
    | false => simp
    | true =>
      cases hD : D f with
      | none => simp
      | some x =>
        have := h rfl rfl x hD
        subst this
        cases w1 <;> simp [b2i]
theorem bb_or {b live w1 : Bool} {D E : Dn} (h : live = true → b = false → ∀ x, D f = some x → x = b2i w1) : bb (bb b live (D f)) (live && !w1) (E f) = bb b live (dOr D E f) := by
  unfold bb dOr
  cases b with
  | true => simp
  | false =>
    cases live with
    | false => simp
    | true =>
      cases hD : D f with
      | none => simp
      | some x =>
        have := h rfl rfl x hD
        subst this
        cases w1 <;> simp [b2i]
theorem vl_and {b live w1 w2 : Bool} {D E : Dn} (h : live = true → b = false → ∀ x, D f = some x → x = b2i w1) (h2 : (live && w1) = true → bb b live (D f) = false → ∀ x, E f = some x → x = b2i w2) : live = true → b = false → ∀ x, dAnd D E f = some x → x = b2i (w1 && w2) := by
  intro hl hb x hx
  subst hl hb
  unfold dAnd at hx
  cases hD : D f with
  | none => rw [hD] at hx; cases hx
  | some y =>
    rw [hD] at hx h2
    have := h rfl rfl y hD
    subst this
    cases w1 with
    | false => simp [b2i] at hx; subst hx; rfl
    | true =>
      have hx' : E f = some x := by simpa [b2i] using hx
      have := h2 rfl rfl x hx'
      rw [this]; rfl
theorem vl_or {b live w1 w2 : Bool} {D E : Dn} (h : live = true → b = false → ∀ x, D f = some x → x = b2i w1) (h2 : (live && !w1) = true → bb b live (D f) = false → ∀ x, E f = some x → x = b2i w2) : live = true → b = false → ∀ x, dOr D E f = some x → x = b2i (w1 || w2) := by
  intro hl hb x hx
  subst hl hb
  unfold dOr at hx
  cases hD : D f with
  | none => rw [hD] at hx; cases hx
  | some y =>
    rw [hD] at hx h2
    have := h rfl rfl y hD
    subst this
    cases w1 with
    | true => simp [b2i] at hx; subst hx; rfl
    | false =>
      have hx' : E f = some x := by simpa [b2i] using hx
      have := h2 rfl rfl x hx'
      rw [this]; rfl
theorem both_loop {rc : TG2} {p : Ps1} (t : TkE T) (hp : PartB (base := base) (T := T) (o := o) (f := f) rc.2.2.1 p) : ∀ (F n k l k' l' : Nat) (D E : Dn) (live b w : Bool) (st : St), rBothL T p F k l D = .inr (k', l', E) → 400 ≤ F + k → k ≤ T.1 → F < n → Mc base T o f st → At8 base k (bb b live (D f)) st → (live = true → b = false → ∀ x, D f = some x → x = b2i w) → ∃ w' u, fX8_bothOf_b6 rc n (b2i live) (b2i w) st = some (b2i w', u) ∧ FR S_e st u ∧ At8 base k' (bb b live (E f)) u ∧ (live = true → b = false → ∀ x, E f = some x → x = b2i w') := by
  intro F
  have t400 := t.1
  induction F with
  | zero =>
    intro n k l k' l' D E live b w st hr h400 hk hn m a hv
    obtain ⟨n, rfl⟩ : ∃ j, n = j + 1 := ⟨n - 1, by omega⟩
    have hT : T.2.1 k = 0 := t.2.1 k (by omega)
    obtain ⟨rfl, rfl, rfl⟩ := inr3 hr
    refine ⟨w, st, ?_, FR.rf, a, hv⟩
    rcases passes_ok (c := 7) (by omega) m a (by omega) with ⟨h1, _⟩ | ⟨_, h2⟩
    · omega
    · rw [fX8_bothOf_b6, show (7 : Int32) = nI 7 from rfl, h2, Option.bind_some, if_pos rfl, isb_b, chk_t]
  | succ F ih =>
    intro n k l k' l' D E live b w st hr h400 hk hn m a hv
    obtain ⟨n, rfl⟩ : ∃ j, n = j + 1 := ⟨n - 1, by omega⟩
    unfold rBothL at hr
    rw [fX8_bothOf_b6, show (7 : Int32) = nI 7 from rfl]
    rcases passes_ok (c := 7) (by omega) m a (by omega) with ⟨h1, u, h2, h3, h4⟩ | ⟨h1, h2⟩
    · rw [if_pos h1] at hr
      obtain ⟨k1, l1, D1, g1, g2⟩ := then_inr hr
      obtain ⟨q1, q2, _⟩ := hp.1 _ _ _ _ _ g1
      obtain ⟨w2, u2, e1, e2, e3, e4⟩ := hp.2 _ _ _ _ _ g1 (live && w) (bb b live (D f)) u (m.fr h3) h4
      rw [bb_and hv] at e3
      have hv2 := vl_and hv e4
      have fu : FR S_e st u2 := h3.trans e2
      obtain ⟨w3, u3, i1, i2, i3, i4⟩ := ih n k1 l1 k' l' (dAnd D D1) E live b (w && w2) u2 g2 (by omega) q2 (by omega) (m.fr fu) e3 hv2
      refine ⟨w3, u3, ?_, fu.trans i2, i3, i4⟩
      rw [h2, Option.bind_some, if_neg (show ¬ (1 : Int32) = 0 by decide)]
      unfold fX8_bothOf_b28 fX8_bothOf_b29 fX8_bothOf_b45 fX8_bothOf_b46
      cases live <;> cases w
      · have e1' : rc.2.2.1 0 u = some (b2i w2, u2) := e1
        rw [if_pos (by decide), e1', Option.bind_some, if_pos (by decide)]; exact i1
      · have e1' : rc.2.2.1 0 u = some (b2i w2, u2) := e1
        rw [if_pos (by decide), e1', Option.bind_some, if_neg (by decide)]
        cases w2
        · rw [if_pos (by rfl)]; exact i1
        · rw [if_neg (show ¬ b2i true = 0 by decide)]; exact i1
      · have e1' : rc.2.2.1 0 u = some (b2i w2, u2) := e1
        rw [if_neg (by decide), if_pos (by decide), e1', Option.bind_some, if_pos (by decide)]; exact i1
      · have e1' : rc.2.2.1 1 u = some (b2i w2, u2) := e1
        rw [if_neg (by decide), if_neg (by decide), e1', Option.bind_some, if_neg (by decide)]
        cases w2
        · rw [if_pos (by rfl)]; exact i1
        · rw [if_neg (show ¬ b2i true = 0 by decide)]; exact i1
    · rw [if_neg h1] at hr
      obtain ⟨rfl, rfl, rfl⟩ := inr3 hr
      exact ⟨w, st, by rw [h2, Option.bind_some, if_pos rfl, isb_b, chk_t], FR.rf, a, hv⟩
theorem both_ok {rc : TG2} {p : Ps1} (t : TkE T) (hp : PartB (base := base) (T := T) (o := o) (f := f) rc.2.2.1 p) : PartB (base := base) (T := T) (o := o) (f := f) (fX8_bothOf_g rc) (rBoth T p) := by
  refine ⟨mo_both hp.1, fun k l k' l' E hr live b st m a => ?_⟩
  obtain ⟨k1, l1, D1, h1, h2⟩ := then_inr hr
  obtain ⟨g1, g2, _⟩ := hp.1 _ _ _ _ _ h1
  obtain ⟨w, u, e1, e2, e3, e4⟩ := hp.2 _ _ _ _ _ h1 live b st m a
  obtain ⟨w2, u3, i3, i4, i5, i6⟩ := both_loop t hp 400 FU k1 l1 k' l' D1 E live b w u h2 (by omega) g2 (by unfold FU; omega) (m.fr e2) e3 e4
  refine ⟨w2, u3, ?_, e2.trans i4, i5, i6⟩
  unfold fX8_bothOf_g
  rw [e1, Option.bind_some]; exact i3
theorem test_loop {rc : TG2} {p : Ps1} (t : TkE T) (hp : PartB (base := base) (T := T) (o := o) (f := f) rc.2.1 p) : ∀ (F n k l k' l' : Nat) (D E : Dn) (live b w : Bool) (st : St), rTestL T p F k l D = .inr (k', l', E) → 400 ≤ F + k → k ≤ T.1 → F < n → Mc base T o f st → At8 base k (bb b live (D f)) st → (live = true → b = false → ∀ x, D f = some x → x = b2i w) → ∃ w' u, fX8_testOf_b6 rc n (b2i live) (b2i w) st = some (b2i w', u) ∧ FR S_e st u ∧ At8 base k' (bb b live (E f)) u ∧ (live = true → b = false → ∀ x, E f = some x → x = b2i w') := by
  intro F
  have t400 := t.1
  induction F with
  | zero =>
    intro n k l k' l' D E live b w st hr h400 hk hn m a hv
    obtain ⟨n, rfl⟩ : ∃ j, n = j + 1 := ⟨n - 1, by omega⟩
    have hT : T.2.1 k = 0 := t.2.1 k (by omega)
    obtain ⟨rfl, rfl, rfl⟩ := inr3 hr
    refine ⟨w, st, ?_, FR.rf, a, hv⟩
    rcases passes_ok (c := 6) (by omega) m a (by omega) with ⟨h1, _⟩ | ⟨_, h2⟩
    · omega
    · rw [fX8_testOf_b6, show (6 : Int32) = nI 6 from rfl, h2, Option.bind_some, if_pos rfl, isb_b, chk_t]
  | succ F ih =>
    intro n k l k' l' D E live b w st hr h400 hk hn m a hv
    obtain ⟨n, rfl⟩ : ∃ j, n = j + 1 := ⟨n - 1, by omega⟩
    unfold rTestL at hr
    rw [fX8_testOf_b6, show (6 : Int32) = nI 6 from rfl]
    rcases passes_ok (c := 6) (by omega) m a (by omega) with ⟨h1, u, h2, h3, h4⟩ | ⟨h1, h2⟩
    · rw [if_pos h1] at hr
      obtain ⟨k1, l1, D1, g1, g2⟩ := then_inr hr
      obtain ⟨q1, q2, _⟩ := hp.1 _ _ _ _ _ g1
      obtain ⟨w2, u2, e1, e2, e3, e4⟩ := hp.2 _ _ _ _ _ g1 (live && !w) (bb b live (D f)) u (m.fr h3) h4
      rw [bb_or hv] at e3
      have hv2 := vl_or hv e4
      have fu : FR S_e st u2 := h3.trans e2
      obtain ⟨w3, u3, i1, i2, i3, i4⟩ := ih n k1 l1 k' l' (dOr D D1) E live b (w || w2) u2 g2 (by omega) q2 (by omega) (m.fr fu) e3 hv2
      refine ⟨w3, u3, ?_, fu.trans i2, i3, i4⟩
      rw [h2, Option.bind_some, if_neg (show ¬ (1 : Int32) = 0 by decide)]
      unfold fX8_testOf_b28 fX8_testOf_b29 fX8_testOf_b41 fX8_testOf_b46
      cases live <;> cases w
      · have e1' : rc.2.1 0 u = some (b2i w2, u2) := e1
        rw [if_pos (by decide), e1', Option.bind_some, if_pos (by decide)]
        cases w2
        · rw [if_pos (by rfl)]; exact i1
        · rw [if_neg (show ¬ b2i true = 0 by decide)]; exact i1
      · have e1' : rc.2.1 0 u = some (b2i w2, u2) := e1
        rw [if_pos (by decide), e1', Option.bind_some, if_neg (by decide)]; exact i1
      · have e1' : rc.2.1 1 u = some (b2i w2, u2) := e1
        rw [if_neg (by decide), if_pos (by decide), e1', Option.bind_some, if_pos (by decide)]
        cases w2
        · rw [if_pos (by rfl)]; exact i1
        · rw [if_neg (show ¬ b2i true = 0 by decide)]; exact i1
      · have e1' : rc.2.1 0 u = some (b2i w2, u2) := e1
        rw [if_neg (by decide), if_neg (by decide), e1', Option.bind_some, if_neg (by decide)]; exact i1
    · rw [if_neg h1] at hr
      obtain ⟨rfl, rfl, rfl⟩ := inr3 hr
      exact ⟨w, st, by rw [h2, Option.bind_some, if_pos rfl, isb_b, chk_t], FR.rf, a, hv⟩
theorem test_ok {rc : TG2} {p : Ps1} (t : TkE T) (hp : PartB (base := base) (T := T) (o := o) (f := f) rc.2.1 (rBoth T p)) : ∀ k l k' l' D, rTest T p k l = .inr (k', l', D) → EvB base T o f (fX8_testOf_g rc) k k' D := by
  intro k l k' l' E hr live b st m a
  obtain ⟨k1, l1, D1, h1, h2⟩ := then_inr hr
  obtain ⟨g1, g2, _⟩ := hp.1 _ _ _ _ _ h1
  obtain ⟨w, u, e1, e2, e3, e4⟩ := hp.2 _ _ _ _ _ h1 live b st m a
  obtain ⟨w2, u3, i3, i4, i5, i6⟩ := test_loop t hp 400 FU k1 l1 k' l' D1 E live b w u h2 (by omega) g2 (by unfold FU; omega) (m.fr e2) e3 e4
  refine ⟨w2, u3, ?_, e2.trans i4, i5, i6⟩
  unfold fX8_testOf_g
  rw [e1, Option.bind_some]; exact i3
/-- without "not" -/
theorem pos_ok {rc : TG2} {n : Nat} {sub : Option Ps1} (t : TkE T) (hn : n ≤ 8) (hs : ∀ s, sub = some s → PartB (base := base) (T := T) (o := o) (f := f) rc.1 s) : ∀ k l k' l' D, rPos T (rSumD o T n) sub false k l = .inr (k', l', D) → EvB base T o f (fX8_positiveOf_g rc) k k' D := by
  intro k l k' l' D hr live b st m a
  have t400 := t.1
  have ps := sum8 (base := base) (o := o) (f := f) t hn
  have s40 : fX8_sign (40 : Int32) = nI 140 := sgn (c := 40) (by omega)
  have s60 : fX8_sign (60 : Int32) = nI 160 := sgn (c := 60) (by omega)
  have s62 : fX8_sign (62 : Int32) = nI 162 := sgn (c := 62) (by omega)
  have hkN : k < T.1 := by
    have := mo_pos t (mo_sumD t n) (fun s h => (hs s h).1) _ _ _ _ _ hr
    omega
  unfold fX8_positiveOf_g
  unfold rPos at hr
  rw [s40, s60, s62]
  rcases passes_ok (c := 140) (by omega) m a (by omega) with ⟨h1, u, h2, h3, h4⟩ | ⟨h1, h2⟩
  · rw [if_pos h1] at hr
    cases sub with
    | none => cases hr
    | some s =>
      obtain ⟨k1, l1, D1, g1, g2⟩ := then_inr hr
      by_cases c2 : T.2.1 k1 = 141
      · rw [if_pos c2] at g2
        obtain ⟨rfl, rfl, rfl⟩ := inr3 g2
        have hk1 := in_T t (show T.2.1 k1 ≠ 0 by omega)
        obtain ⟨w, u2, q1, q2, q3, q4⟩ := (hs s rfl).2 _ _ _ _ _ g1 live b u (m.fr h3) h4
        rw [h2, Option.bind_some, if_neg (show ¬ (1 : Int32) = 0 by decide), q1, Option.bind_some, isb_b, chk_t]
        obtain ⟨f3, a3⟩ := go1 m.1 (by omega) q3
        exact ⟨w, _, rfl, (h3.trans q2).trans f3, a3, q4⟩
      · rw [if_neg c2] at g2; cases g2
  · rw [if_neg h1] at hr
    obtain ⟨k1, l1, D1, g1, g2⟩ := then_inr hr
    by_cases c2 : T.2.1 k1 = 160 ∨ T.2.1 k1 = 161 ∨ T.2.1 k1 = 162
    · rw [if_pos c2] at g2
      obtain ⟨k2, l2, D2, g3, g4⟩ := then_inr g2
      obtain ⟨rfl, rfl, rfl⟩ := inr3 g4
      have hk1 := in_T t (show T.2.1 k1 ≠ 0 by omega)
      obtain ⟨v, u1, e1, e2, e3, e4⟩ := ps.2 _ _ _ _ _ g1 live b st m a
      have m1 := m.fr e2
      obtain ⟨f2, a2⟩ := go1 m.1 (by omega) e3
      obtain ⟨w, u2, q1, q2, q3, q4⟩ := ps.2 _ _ _ _ _ g3 live (bb b live (D1 f)) _ (m1.fr f2) a2
      have fu : FR S_e st u2 := (e2.trans f2).trans q2
      have hbb : bb (bb b live (D1 f)) live (D2 f) = bb b live (dNot false (dJn (T.2.1 k1) D1 D2) f) := by
        have hj : dNot false (dJn (T.2.1 k1) D1 D2) f = jo (T.2.1 k1) (D1 f) (D2 f) := by rw [← dJn_jo]; rfl
        rw [hj]
        unfold bb jo
        cases b with
        | true => simp
        | false =>
          cases live with
          | false => simp
          | true =>
            cases D1 f with
            | none => simp
            | some x =>
              cases D2 f with
              | none => simp
              | some y =>
                have : (jn (T.2.1 k1) x y).isNone = false := by
                  unfold jn
                  rcases c2 with c | c | c <;> simp [c]
                simp [this]
      rw [hbb] at q3
      rw [h2, Option.bind_some, if_pos rfl, e1, Option.bind_some, codeAt_ok m1 e3, Option.bind_some, q1, Option.bind_some]
      have hT := (t.2.2 k1).1
      have z1 : (nI (T.2.1 k1) = nI 160) = (T.2.1 k1 = 160) := n_eq (by omega) (by omega)
      have z2 : (nI (T.2.1 k1) = nI 162) = (T.2.1 k1 = 162) := n_eq (by omega) (by omega)
      simp only [z1, z2, lc_ge, lc_le, lc_eq, e4, q4, q3.2.2, b2i_0]
      cases live with
      | false => exact ⟨false, u2, rfl, fu, q3, fun h => by cases h⟩
      | true =>
        cases hbv : bb b true (dNot false (dJn (T.2.1 k1) D1 D2) f) with
        | true =>
          refine ⟨false, u2, rfl, fu, by rw [hbv] at q3; exact q3, fun _ hb x hx => ?_⟩
          subst hb
          rw [hx] at hbv
          simp [bb] at hbv
        | false =>
          rw [hbv] at q3
          have hb : b = false := by
            cases b
            · rfl
            · simp [bb] at hbv
          subst hb
          have hj : dNot false (dJn (T.2.1 k1) D1 D2) f = jo (T.2.1 k1) (D1 f) (D2 f) := by rw [← dJn_jo]; rfl
          rw [hj] at hbv ⊢
          cases h1 : D1 f with
          | none => rw [h1] at hbv; simp [bb, jo] at hbv
          | some x =>
            cases h2 : D2 f with
            | none => rw [h1, h2] at hbv; simp [bb, jo] at hbv
            | some y =>
              simp only [h1, h2, bb_s, vv_s, jo]
              rcases c2 with c | c | c
              · simp only [c, if_true]
                by_cases z : y.toInt ≤ x.toInt
                · exact ⟨false, u2, by simp only [z, if_true]; rfl, fu, q3, fun _ _ w hw => by
                    simp only [jn, if_true, show ¬ x.toInt < y.toInt by omega, if_false] at hw
                    exact (Option.some.inj hw).symm⟩
                · exact ⟨true, u2, by simp only [z, if_false]; rfl, fu, q3, fun _ _ w hw => by
                    simp only [jn, if_true, show x.toInt < y.toInt by omega] at hw
                    exact (Option.some.inj hw).symm⟩
              · simp only [c, show ¬ ((161 : Nat) = 160) by omega, show ¬ ((161 : Nat) = 162) by omega, if_false]
                by_cases z : x.toInt = y.toInt
                · exact ⟨true, u2, by simp only [z, if_true]; rfl, fu, q3, fun _ _ w hw => by
                    simp only [jn, show ¬ ((161 : Nat) = 160) by omega, if_false, if_true, z] at hw
                    exact (Option.some.inj hw).symm⟩
                · exact ⟨false, u2, by simp only [z, if_false]; rfl, fu, q3, fun _ _ w hw => by
                    simp only [jn, show ¬ ((161 : Nat) = 160) by omega, if_false, if_true, z] at hw
                    exact (Option.some.inj hw).symm⟩
              · simp only [c, show ¬ ((162 : Nat) = 160) by omega, if_false, if_true]
                by_cases z : x.toInt ≤ y.toInt
                · exact ⟨false, u2, by simp only [z, if_true]; rfl, fu, q3, fun _ _ w hw => by
                    simp only [jn, show ¬ ((162 : Nat) = 160) by omega, show ¬ ((162 : Nat) = 161) by omega, if_false, if_true, show ¬ y.toInt < x.toInt by omega] at hw
                    exact (Option.some.inj hw).symm⟩
                · exact ⟨true, u2, by simp only [z, if_false]; rfl, fu, q3, fun _ _ w hw => by
                    simp only [jn, show ¬ ((162 : Nat) = 160) by omega, show ¬ ((162 : Nat) = 161) by omega, if_false, if_true, show y.toInt < x.toInt by omega] at hw
                    exact (Option.some.inj hw).symm⟩
    · rw [if_neg c2] at g2; cases g2
theorem not_D {g : Bool} {D : Dn} : (dNot g D f).isNone = (D f).isNone := by
  unfold dNot
  cases g <;> cases D f <;> rfl
theorem bb_not {b live g : Bool} {D : Dn} : bb b live (dNot g D f) = bb b live (D f) := by
  unfold bb; rw [not_D]
/-- the same reading with another "not" -/
theorem pos_g {sum : Ps1} {sub : Option Ps1} {g : Bool} {k l k' l' : Nat} {E : Dn} (h : rPos T sum sub g k l = .inr (k', l', E)) : ∃ D, rPos T sum sub false k l = .inr (k', l', dNot false D) ∧ E = dNot g D := by
  unfold rPos at h ⊢
  by_cases c : T.2.1 k = 140
  · rw [if_pos c] at h ⊢
    cases sub with
    | none => cases h
    | some s =>
      obtain ⟨k1, l1, D1, g1, g2⟩ := then_inr h
      by_cases c2 : T.2.1 k1 = 141
      · rw [if_pos c2] at g2
        obtain ⟨rfl, rfl, rfl⟩ := inr3 g2
        refine ⟨D1, ?_, rfl⟩
        show rThen (s (k + 1) l) _ = _
        rw [g1]
        show (if T.2.1 k1 = 141 then _ else _) = _
        rw [if_pos c2]
      · rw [if_neg c2] at g2; cases g2
  · rw [if_neg c] at h ⊢
    obtain ⟨k1, l1, D1, g1, g2⟩ := then_inr h
    by_cases c2 : T.2.1 k1 = 160 ∨ T.2.1 k1 = 161 ∨ T.2.1 k1 = 162
    · rw [if_pos c2] at g2
      obtain ⟨k2, l2, D2, g3, g4⟩ := then_inr g2
      obtain ⟨rfl, rfl, rfl⟩ := inr3 g4
      refine ⟨dJn (T.2.1 k1) D1 D2, ?_, rfl⟩
      rw [g1]
      show (if T.2.1 k1 = 160 ∨ T.2.1 k1 = 161 ∨ T.2.1 k1 = 162 then _ else _) = _
      rw [if_pos c2, g3]
      rfl
    · rw [if_neg c2] at g2; cases g2
theorem plain_loop {rc : TG2} {n : Nat} {sub : Option Ps1} (t : TkE T) (hp : ∀ k l k' l' D, rPos T (rSumD o T n) sub false k l = .inr (k', l', D) → EvB base T o f rc.2.2.2 k k' D) : ∀ (F m k l k' l' : Nat) (g : Bool) (E : Dn) (live b : Bool) (st : St), rPos T (rSumD o T n) sub (rNots T F k g).2 (rNots T F k g).1 l = .inr (k', l', E) → 400 ≤ F + k → k ≤ 400 → F < m → Mc base T o f st → At8 base k b st → ∃ w' u, fX8_plainOf_b2 rc m (b2i live) (b2i g) st = some (b2i w', u) ∧ FR S_e st u ∧ At8 base k' (bb b live (E f)) u ∧ (live = true → b = false → ∀ x, E f = some x → x = b2i w') := by
  intro F
  have t400 := t.1
  have fin : ∀ (m k l k' l' : Nat) (g : Bool) (E : Dn) (live b : Bool) (st : St), rPos T (rSumD o T n) sub g k l = .inr (k', l', E) → T.2.1 k ≠ 8 → k ≤ 400 → Mc base T o f st → At8 base k b st → ∃ w' u, fX8_plainOf_b2 rc (m + 1) (b2i live) (b2i g) st = some (b2i w', u) ∧ FR S_e st u ∧ At8 base k' (bb b live (E f)) u ∧ (live = true → b = false → ∀ x, E f = some x → x = b2i w') := by
    intro m k l k' l' g E live b st hr hne hk mm a
    obtain ⟨D, h1, rfl⟩ := pos_g hr
    obtain ⟨w, u, e1, e2, e3, e4⟩ := hp _ _ _ _ _ h1 live b st mm a
    have e3' : At8 base k' (bb b live (dNot g D f)) u := by rw [bb_not]; rw [bb_not] at e3; exact e3
    have e4' : live = true → b = false → ∀ x, D f = some x → x = b2i w := e4
    rcases passes_ok (c := 8) (by omega) mm a (by omega) with ⟨h2, _⟩ | ⟨_, h2⟩
    · exact absurd h2 hne
    · refine ⟨(w != g), u, ?_, e2, e3', fun hl hb x hx => ?_⟩
      · rw [fX8_plainOf_b2, show (8 : Int32) = nI 8 from rfl, h2, Option.bind_some, if_pos rfl, e1, Option.bind_some]
        cases w <;> cases g <;> rfl
      · unfold dNot at hx
        cases hD : D f with
        | none => rw [hD] at hx; cases g <;> cases hx
        | some y =>
          have hy := e4' hl hb y hD
          rw [hD] at hx
          subst hy
          cases g
          · have : b2i w = x := Option.some.inj hx
            rw [← this]; cases w <;> rfl
          · have : 1 - b2i w = x := Option.some.inj hx
            rw [← this]; cases w <;> rfl
  induction F with
  | zero =>
    intro m k l k' l' g E live b st hr h400 hk hm mm a
    obtain ⟨m, rfl⟩ : ∃ j, m = j + 1 := ⟨m - 1, by omega⟩
    exact fin m k l k' l' g E live b st hr (by rw [t.2.1 k (by omega)]; decide) hk mm a
  | succ F ih =>
    intro m k l k' l' g E live b st hr h400 hk hm mm a
    obtain ⟨m, rfl⟩ : ∃ j, m = j + 1 := ⟨m - 1, by omega⟩
    by_cases c : T.2.1 k = 8
    · have hkT := in_T t (show T.2.1 k ≠ 0 by omega)
      unfold rNots at hr
      rw [if_pos c] at hr
      rcases passes_ok (c := 8) (by omega) mm a (by omega) with ⟨_, u, h2, h3, h4⟩ | ⟨h2, _⟩
      · obtain ⟨w, u2, i1, i2, i3, i4⟩ := ih m (k + 1) l k' l' (!g) E live b u hr (by omega) (by omega) (by omega) (mm.fr h3) h4
        refine ⟨w, u2, ?_, h3.trans i2, i3, i4⟩
        rw [fX8_plainOf_b2, show (8 : Int32) = nI 8 from rfl, h2, Option.bind_some, if_neg (show ¬ (1 : Int32) = 0 by decide)]
        unfold fX8_plainOf_b20
        cases g
        · rw [if_pos (by rfl)]; exact i1
        · rw [if_neg (by decide)]; exact i1
      · exact absurd c h2
    · unfold rNots at hr
      rw [if_neg c] at hr
      exact fin m k l k' l' g E live b st hr c hk mm a
theorem plain_ok {rc : TG2} {n : Nat} {sub : Option Ps1} (t : TkE T) (hs : ∀ s, sub = some s → Mo T Q0 s) (hp : ∀ k l k' l' D, rPos T (rSumD o T n) sub false k l = .inr (k', l', D) → EvB base T o f rc.2.2.2 k k' D) : PartB (base := base) (T := T) (o := o) (f := f) (fX8_plainOf_g rc) (rPlain T (rSumD o T n) sub) := by
  refine ⟨mo_plain t (mo_sumD t n) hs, fun k l k' l' E hr live b st m a => ?_⟩
  have hk : k ≤ 400 := by
    have h1 := mo_plain t (mo_sumD t n) hs _ _ _ _ _ hr
    have h2 := t.1
    omega
  exact plain_loop t hp 400 FU k l k' l' false E live b st hr (by omega) hk (by unfold FU; omega) m a
theorem testD_ok (t : TkE T) : ∀ (n d : Nat), n ≤ 8 → PartB (base := base) (T := T) (o := o) (f := f) (LG2 (4 * n + 4 + d)).1 (rTestD o T n) := by
  intro n
  induction n with
  | zero =>
    intro d _
    refine ⟨mo_testD t 0, ?_⟩
    have hq := pos_ok (base := base) (o := o) (f := f) (rc := LG2 d) (n := 0) (sub := none) t (by omega) (fun s h => by cases h)
    have hp : PartB (base := base) (T := T) (o := o) (f := f) (LG2 (d + 2)).2.2.1 (rPlain T (rSumD o T 0) none) := plain_ok (rc := LG2 (d + 1)) t (fun s h => by cases h) hq
    have hb : PartB (base := base) (T := T) (o := o) (f := f) (LG2 (d + 3)).2.1 (rBoth T (rPlain T (rSumD o T 0) none)) := both_ok (rc := LG2 (d + 2)) t hp
    have := test_ok (rc := LG2 (d + 3)) t hb
    rw [show 4 * 0 + 4 + d = d + 3 + 1 by omega]
    exact this
  | succ n ih =>
    intro d hn
    refine ⟨mo_testD t (n + 1), ?_⟩
    have hq := pos_ok (base := base) (o := o) (f := f) (rc := LG2 (4 * n + 4 + d)) (n := n + 1) (sub := some (rTestD o T n)) t (by omega) (fun s h => by rw [← Option.some.inj h]; exact ih d (by omega))
    have hp : PartB (base := base) (T := T) (o := o) (f := f) (LG2 (4 * n + 4 + d + 2)).2.2.1 (rPlain T (rSumD o T (n + 1)) (some (rTestD o T n))) := plain_ok (rc := LG2 (4 * n + 4 + d + 1)) t (fun s h => by rw [← Option.some.inj h]; exact mo_testD t n) hq
    have hb : PartB (base := base) (T := T) (o := o) (f := f) (LG2 (4 * n + 4 + d + 3)).2.1 (rBoth T (rPlain T (rSumD o T (n + 1)) (some (rTestD o T n)))) := both_ok (rc := LG2 (4 * n + 4 + d + 2)) t hp
    have := test_ok (rc := LG2 (4 * n + 4 + d + 3)) t hb
    rw [show 4 * (n + 1) + 4 + d = 4 * n + 4 + d + 3 + 1 by omega]
    exact this
theorem test8 (t : TkE T) : PartB (base := base) (T := T) (o := o) (f := f) fX8_testOf (rTestD o T 8) := by
  have := testD_ok (base := base) (o := o) (f := f) t 8 64 (by omega)
  exact this
end
