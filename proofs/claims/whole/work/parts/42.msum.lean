/-! sums, told by the model -/
theorem sgn {c : Nat} (h : c < 200) : fX8_sign (nI c) = nI (100 + c) := by
  unfold fX8_sign
  rw [show (100 : Int32) = nI 100 from rfl, n_add]
theorem jn_add {a b : Int32} : jn 143 a b = lim (a.toInt + b.toInt) := by unfold jn; simp
theorem jn_sub {a b : Int32} : jn 145 a b = lim (a.toInt - b.toInt) := by unfold jn; simp
theorem jn_mul {a b : Int32} : jn 142 a b = lim (a.toInt * b.toInt) := by unfold jn; simp
theorem jn_div {a b : Int32} (h : b.toInt ≠ 0) : jn 147 a b = lim (a.toInt.tdiv b.toInt) := by unfold jn; simp [h]
theorem jn_rem {a b : Int32} (h : b.toInt ≠ 0) : jn 137 a b = lim (a.toInt.tmod b.toInt) := by unfold jn; simp [h]
theorem jn_z {a b : Int32} {s : Nat} (hs : s = 147 ∨ s = 137) (h : b.toInt = 0) : jn s a b = none := by
  rcases hs with rfl | rfl <;> (unfold jn; simp [h])
theorem vv_s {b live : Bool} {p : Int32} (h1 : b = false) (h2 : live = true) : vv b live (some p) = p.toInt := by
  subst h1 h2; rfl
theorem vv_l {b : Bool} {o : Option Int32} : vv b false o = 0 := by unfold vv; simp
section
variable {base : Nat} {T : Tok} {o : Bool} {f : Nat → Int32}
/-- the tail of a term: behind the second part -/
theorem opT {rc : TG1} {k s : Nat} {b live : Bool} {o1 o2 : Option Int32} {v w : Int64} {st : St} {k6 : K6} (hs : s = 142 ∨ s = 147 ∨ s = 137) (a : At8 base k (bb (bb b live o1) live o2) st) (hv : v.toInt = vv b live o1) (hw : w.toInt = vv (bb b live o1) live o2) :
    ∃ v' u, (if nI s = fX8_sign (42 : Int32) then (fX8_termOf_b121 rc k6 (b2i live) v (nI s) w st) else (if (lg_cmp w (0 : Int64)) = 0 then (if (sI st 38 24) = 0 then (if b2i live = 0 then (fX8_termOf_b115 rc k6 (b2i live) v (nI s) (0 : Int32) st) else (fX8_termOf_b110 rc k6 (b2i live) v (nI s) st)) else (fX8_termOf_b110 rc k6 (b2i live) v (nI s) st)) else (fX8_termOf_b121 rc k6 (b2i live) v (nI s) w st))) = k6 (b2i live) v' u ∧ FR S_e st u ∧ At8 base k (bb b live (jo s o1 o2)) u ∧ v'.toInt = vv b live (jo s o1 o2) := by
  have t0 : (0 : Int64).toInt = 0 := by decide
  have t1 : (1 : Int64).toInt = 1 := by decide
  have bv := vv_b (b := b) (live := live) (o := o1)
  have bw := vv_b (b := bb b live o1) (live := live) (o := o2)
  have s42 : fX8_sign (42 : Int32) = nI 142 := sgn (c := 42) (by omega)
  have s47 : fX8_sign (47 : Int32) = nI 147 := sgn (c := 47) (by omega)
  have alive : ∀ p q, b = false → live = true → o1 = some p → o2 = some q → v.toInt = p.toInt ∧ w.toInt = q.toInt := by
    intro p q hb hl h1 h2
    subst hb hl h1 h2
    exact ⟨hv, hw⟩
  rw [s42]
  rcases hs with rfl | hs
  · rw [if_pos rfl]
    unfold fX8_termOf_b121 fX8_termOf_b160
    rw [s42, if_pos rfl]
    have hm := Sm.mul hv hw (by omega) (by omega) (by omega) (by omega)
    refine opB a (fun p q hb hl h1 h2 => ?_) (fun hl hb => ?_)
    · obtain ⟨e1, e2⟩ := alive p q hb hl h1 h2
      rw [hm, ← hv, ← hw, e1, e2, jn_mul]
    · subst hl; rw [hm, vv_l]; simp
  · have ne : ¬ nI s = nI 142 := by
      rcases hs with rfl | rfl <;> decide
    rw [if_neg ne]
    have s3 : fX8_sign (42 : Int32) = nI 142 := s42
    have hbb : bb (bb b live o1) live o2 = true → bb b live (jo s o1 o2) = true := by
      unfold bb jo
      cases b <;> cases live <;> cases o1 <;> cases o2 <;> simp
    have one : ∀ (w' : Int64) (st' : St), w'.toInt ≠ 0 → ∃ x : Int64, fX8_termOf_b121 rc k6 (b2i live) v (nI s) w' st' = (fX8_bounded x (b2i live) st').bind (fun q1 => k6 (b2i live) q1.1 q1.2) ∧ x = (if s = 147 then v / w' else ljrem v w') := by
      intro w' st' hz
      refine ⟨_, ?_, rfl⟩
      unfold fX8_termOf_b121 fX8_termOf_b160
      rw [s42, s47, if_neg ne, nzl_t hz, chk_t, chk_t]
      rcases hs with rfl | rfl
      · rw [if_pos rfl, if_pos rfl]
      · rw [if_neg (by decide), if_neg (by decide)]
    have dead : ∀ (st' : St), sI st' 38 24 = 1 → sI st' 38 22 = sI st 38 22 → FR S_e st st' → bb b live (jo s o1 o2) = true → ∃ v' u, fX8_termOf_b121 rc k6 (b2i live) v (nI s) 1 st' = k6 (b2i live) v' u ∧ FR S_e st u ∧ At8 base k (bb b live (jo s o1 o2)) u ∧ v'.toInt = vv b live (jo s o1 o2) := by
      intro st' h1 h2 h3 h4
      obtain ⟨x, hx, _⟩ := one 1 st' (by rw [t1]; decide)
      rw [hx]
      obtain ⟨u, e1, e2, e3, e4⟩ := bounded_dead (x := x) (l1 := b2i live) h1
      exact ⟨0, u, by rw [e1]; rfl, h3.trans e2, ⟨a.1, e4.trans (h2.trans a.2.1), by rw [h4]; exact e3⟩, by rw [vv_0 (Or.inl h4), t0]⟩
    simp only [lc_eq, t0]
    by_cases z : w.toInt = 0
    · rw [if_pos z]
      have f1 : ∀ c, FR S_e st (pI st 38 24 c) := fun c => FR.pI (by rfl) FR.rf
      have r3 : ∀ c, sI (pI st 38 24 c) 38 22 = sI st 38 22 := fun c => by rw [sI_pI, if_neg (by omega)]
      by_cases hb : bb (bb b live o1) live o2 = true
      · have e : ¬ sI st 38 24 = 0 := by rw [a.2.2, hb]; decide
        rw [if_neg e]
        exact dead (pI st 38 24 1) (by rw [sI_pI, if_pos ⟨rfl, rfl⟩]) (r3 1) (f1 1) (hbb hb)
      · have hbf : bb (bb b live o1) live o2 = false := by revert hb; cases bb (bb b live o1) live o2 <;> simp
        have e : sI st 38 24 = 0 := by rw [a.2.2, hbf]; rfl
        rw [if_pos e]
        cases live with
        | false =>
          rw [if_pos (by decide)]
          obtain ⟨x, hx, hxe⟩ := one 1 (pI st 38 24 0) (by rw [t1]; decide)
          unfold fX8_termOf_b115
          rw [show isb 0 = true from rfl, chk_t, hx]
          have a' : At8 base k (bb (bb b false o1) false o2) (pI st 38 24 0) := ⟨a.1, (r3 0).trans a.2.1, by rw [sI_pI, if_pos ⟨rfl, rfl⟩, hbf]; rfl⟩
          obtain ⟨v', u, q1, q2, q3, q4⟩ := opB (s := s) (o1 := o1) (o2 := o2) (k6 := k6) (x := x) a' (fun p q hb hl _ _ => by cases hl) (fun _ _ => by
            rw [hxe]
            rw [vv_l] at hv
            split
            · rw [Sm.div hv t1 (by omega) (by omega)]; rfl
            · rw [Sm.rem hv t1 (by omega) (by omega) (by omega) (by omega)]; rfl)
          exact ⟨v', u, q1, (f1 0).trans q2, q3, q4⟩
        | true =>
          rw [if_neg (by decide)]
          refine dead (pI st 38 24 1) (by rw [sI_pI, if_pos ⟨rfl, rfl⟩]) (r3 1) (f1 1) ?_
          unfold bb at hbf
          cases b with
          | true => simp at hbf
          | false =>
            cases o1 with
            | none => simp at hbf
            | some p =>
              cases o2 with
              | none => simp at hbf
              | some q =>
                have : w.toInt = q.toInt := hw
                unfold bb jo
                simp only []
                rw [jn_z hs (by omega)]; rfl
    · rw [if_neg z]
      obtain ⟨x, hx, hxe⟩ := one w st z
      rw [hx]
      refine opB a (fun p q hb hl h1 h2 => ?_) (fun hl hb => ?_)
      · obtain ⟨e1, e2⟩ := alive p q hb hl h1 h2
        have hd := Sm.div hv hw (by omega) (by omega)
        have hr := Sm.rem hv hw (by omega) (by omega) (by omega) (by omega)
        rw [← hv, ← hw, e1, e2] at hd hr
        rw [hxe]
        rcases hs with rfl | rfl
        · rw [if_pos rfl, hd, jn_div (by omega)]
        · rw [if_neg (by decide), hr, jn_rem (by omega)]
      · subst hl
        rw [vv_l] at hw
        exact absurd hw z
/-- what reads a sum and what tells it -/
def Part (fn : Int32 → St → Option (Int64 × St)) (p : Ps1) : Prop := Mo T (NmD (nfo o)) p ∧ ∀ k l k' l' D, p k l = .inr (k', l', D) → EvP base T o f fn k k' D
theorem term_loop {rc : TG1} {p : Ps1} (t : TkE T) (hp : Part (base := base) (T := T) (o := o) (f := f) rc.2.2 p) : ∀ (F n k l k' l' : Nat) (D E : Dn) (live b : Bool) (v : Int64) (st : St), rTermL T p F k l D = .inr (k', l', E) → 400 ≤ F + k → k ≤ T.1 → F < n → Mc base T o f st → At8 base k (bb b live (D f)) st → v.toInt = vv b live (D f) → ∃ v' u, fX8_termOf_b6 rc n (b2i live) v st = some (v', u) ∧ FR S_e st u ∧ At8 base k' (bb b live (E f)) u ∧ v'.toInt = vv b live (E f) := by
  intro F
  have t400 := t.1
  have s42 : fX8_sign (42 : Int32) = nI 142 := sgn (c := 42) (by omega)
  have s47 : fX8_sign (47 : Int32) = nI 147 := sgn (c := 47) (by omega)
  have s37 : fX8_sign (37 : Int32) = nI 137 := sgn (c := 37) (by omega)
  induction F with
  | zero =>
    intro n k l k' l' D E live b v st hr h400 hk hn m a hv
    obtain ⟨n, rfl⟩ : ∃ j, n = j + 1 := ⟨n - 1, by omega⟩
    have hT : T.2.1 k = 0 := t.2.1 k (by omega)
    obtain ⟨rfl, rfl, rfl⟩ := inr3 hr
    refine ⟨v, st, ?_, FR.rf, a, hv⟩
    rw [fX8_termOf_b6, codeAt_ok m a, Option.bind_some, Option.bind_some, Option.bind_some, s42, s47, s37, hT]
    rfl
  | succ F ih =>
    intro n k l k' l' D E live b v st hr h400 hk hn m a hv
    obtain ⟨n, rfl⟩ : ∃ j, n = j + 1 := ⟨n - 1, by omega⟩
    have hT := (t.2.2 k).1
    have q1 : (nI (T.2.1 k) = nI 142) = (T.2.1 k = 142) := n_eq (by omega) (by omega)
    have q2 : (nI (T.2.1 k) = nI 147) = (T.2.1 k = 147) := n_eq (by omega) (by omega)
    have q3 : (nI (T.2.1 k) = nI 137) = (T.2.1 k = 137) := n_eq (by omega) (by omega)
    unfold rTermL at hr
    rw [fX8_termOf_b6, codeAt_ok m a, Option.bind_some, Option.bind_some, Option.bind_some, s42, s47, s37]
    simp only [q1, q2, q3]
    by_cases c : T.2.1 k = 142 ∨ T.2.1 k = 147 ∨ T.2.1 k = 137
    · rw [if_pos c] at hr
      have pick : ∀ y : Option (Int64 × St), (if T.2.1 k = 142 then fX8_termOf_b54 rc (fun zl1 zl2 zst => fX8_termOf_b6 rc n zl1 zl2 zst) (b2i live) v st else if T.2.1 k = 147 then fX8_termOf_b54 rc (fun zl1 zl2 zst => fX8_termOf_b6 rc n zl1 zl2 zst) (b2i live) v st else if T.2.1 k = 137 then fX8_termOf_b54 rc (fun zl1 zl2 zst => fX8_termOf_b6 rc n zl1 zl2 zst) (b2i live) v st else y) = fX8_termOf_b54 rc (fun zl1 zl2 zst => fX8_termOf_b6 rc n zl1 zl2 zst) (b2i live) v st := by
        intro y
        rcases c with c | c | c
        · rw [if_pos c]
        · rw [if_neg (by omega), if_pos c]
        · rw [if_neg (by omega), if_neg (by omega), if_pos c]
      rw [pick]
      unfold fX8_termOf_b54
      rw [codeAt_ok m a, Option.bind_some]
      obtain ⟨f1, a1⟩ := go1 m.1 (by omega) a
      obtain ⟨k1, l1, D1, h1, h2⟩ := then_inr hr
      obtain ⟨g1, g2, _⟩ := hp.1 _ _ _ _ _ h1
      obtain ⟨w, u, e1, e2, e3, e4⟩ := hp.2 _ _ _ _ _ h1 live (bb b live (D f)) _ (m.fr f1) a1
      rw [e1, Option.bind_some]
      obtain ⟨v', u2, o1, o2, o3, o4⟩ := opT (rc := rc) (k6 := fun zl1 zl2 zst => fX8_termOf_b6 rc n zl1 zl2 zst) c e3 hv e4
      have fu : FR S_e st u2 := (f1.trans e2).trans o2
      rw [← dJn_jo] at o3 o4
      obtain ⟨v2, u3, i3, i4, i5, i6⟩ := ih n k1 l1 k' l' _ E live b v' u2 h2 (by omega) g2 (by omega) (m.fr fu) o3 o4
      refine ⟨v2, u3, ?_, fu.trans i4, i5, i6⟩
      rw [o1]; exact i3
    · rw [if_neg c] at hr
      obtain ⟨rfl, rfl, rfl⟩ := inr3 hr
      refine ⟨v, st, ?_, FR.rf, a, hv⟩
      rw [if_neg (fun z => c (Or.inl z)), if_neg (fun z => c (Or.inr (Or.inl z))), if_neg (fun z => c (Or.inr (Or.inr z)))]
theorem term_ok {rc : TG1} {p : Ps1} (t : TkE T) (hp : Part (base := base) (T := T) (o := o) (f := f) rc.2.2 p) : Part (base := base) (T := T) (o := o) (f := f) (fX8_termOf_g rc) (rTerm T p) := by
  refine ⟨mo_term hp.1, fun k l k' l' E hr live b st m a => ?_⟩
  obtain ⟨k1, l1, D1, h1, h2⟩ := then_inr hr
  obtain ⟨g1, g2, _⟩ := hp.1 _ _ _ _ _ h1
  obtain ⟨v, u, e1, e2, e3, e4⟩ := hp.2 _ _ _ _ _ h1 live b st m a
  obtain ⟨v2, u3, i3, i4, i5, i6⟩ := term_loop t hp 400 FU k1 l1 k' l' D1 E live b v u h2 (by omega) g2 (by unfold FU; omega) (m.fr e2) e3 e4
  refine ⟨v2, u3, ?_, e2.trans i4, i5, i6⟩
  unfold fX8_termOf_g
  rw [e1, Option.bind_some]; exact i3
theorem sum_loop {rc : TG1} {p : Ps1} (t : TkE T) (hp : Part (base := base) (T := T) (o := o) (f := f) rc.2.1 p) : ∀ (F n k l k' l' : Nat) (D E : Dn) (live b : Bool) (v : Int64) (st : St), rSumL T p F k l D = .inr (k', l', E) → 400 ≤ F + k → k ≤ T.1 → F < n → Mc base T o f st → At8 base k (bb b live (D f)) st → v.toInt = vv b live (D f) → ∃ v' u, fX8_sumOf_b6 rc n (b2i live) v st = some (v', u) ∧ FR S_e st u ∧ At8 base k' (bb b live (E f)) u ∧ v'.toInt = vv b live (E f) := by
  intro F
  have t400 := t.1
  have s43 : fX8_sign (43 : Int32) = nI 143 := sgn (c := 43) (by omega)
  have s45 : fX8_sign (45 : Int32) = nI 145 := sgn (c := 45) (by omega)
  induction F with
  | zero =>
    intro n k l k' l' D E live b v st hr h400 hk hn m a hv
    obtain ⟨n, rfl⟩ : ∃ j, n = j + 1 := ⟨n - 1, by omega⟩
    have hT : T.2.1 k = 0 := t.2.1 k (by omega)
    obtain ⟨rfl, rfl, rfl⟩ := inr3 hr
    refine ⟨v, st, ?_, FR.rf, a, hv⟩
    rw [fX8_sumOf_b6, codeAt_ok m a, Option.bind_some, Option.bind_some, s43, s45, hT]
    rfl
  | succ F ih =>
    intro n k l k' l' D E live b v st hr h400 hk hn m a hv
    obtain ⟨n, rfl⟩ : ∃ j, n = j + 1 := ⟨n - 1, by omega⟩
    have hT := (t.2.2 k).1
    have q1 : (nI (T.2.1 k) = nI 143) = (T.2.1 k = 143) := n_eq (by omega) (by omega)
    have q2 : (nI (T.2.1 k) = nI 145) = (T.2.1 k = 145) := n_eq (by omega) (by omega)
    unfold rSumL at hr
    rw [fX8_sumOf_b6, codeAt_ok m a, Option.bind_some, Option.bind_some, s43, s45]
    simp only [q1, q2]
    by_cases c : T.2.1 k = 143 ∨ T.2.1 k = 145
    · rw [if_pos c] at hr
      obtain ⟨f1, a1⟩ := go1 m.1 (by omega) a
      obtain ⟨k1, l1, D1, h1, h2⟩ := then_inr hr
      obtain ⟨g1, g2, _⟩ := hp.1 _ _ _ _ _ h1
      obtain ⟨w, u, e1, e2, e3, e4⟩ := hp.2 _ _ _ _ _ h1 live (bb b live (D f)) _ (m.fr f1) a1
      have bv := vv_b (b := b) (live := live) (o := D f)
      have bw := vv_b (b := bb b live (D f)) (live := live) (o := D1 f)
      have alive : ∀ p q, b = false → live = true → D f = some p → D1 f = some q → v.toInt = p.toInt ∧ w.toInt = q.toInt := by
        intro p q hb hl h1 h2
        rw [hv, e4, h1, h2]
        subst hb hl
        exact ⟨rfl, rfl⟩
      have ha := Sm.add hv e4 (by omega) (by omega) (by omega) (by omega)
      have hb := Sm.sub hv e4 (by omega) (by omega) (by omega) (by omega)
      have stp : ∃ v' u2, fX8_sumOf_b38 rc (fun zl1 zl2 zst => fX8_sumOf_b6 rc n zl1 zl2 zst) (b2i live) v st = fX8_sumOf_b6 rc n (b2i live) v' u2 ∧ FR S_e u u2 ∧ At8 base k1 (bb b live (jo (T.2.1 k) (D f) (D1 f))) u2 ∧ v'.toInt = vv b live (jo (T.2.1 k) (D f) (D1 f)) := by
        unfold fX8_sumOf_b38 fX8_sumOf_b59 fX8_sumOf_b95
        rw [codeAt_ok m a, Option.bind_some, s43]
        simp only [q1]
        rcases c with c | c
        · rw [if_pos c, e1, Option.bind_some, if_neg (by decide)]
          have := opB (k6 := fun zl1 zl2 zst => fX8_sumOf_b6 rc n zl1 zl2 zst) (s := 143) (x := v + w) e3 (fun p q hb hl h1 h2 => by
            obtain ⟨x1, x2⟩ := alive p q hb hl h1 h2
            rw [ha, ← hv, ← e4, x1, x2, jn_add]) (fun hl _ => by subst hl; rw [ha, vv_l, vv_l]; rfl)
          rw [c]; exact this
        · rw [if_neg (by omega), e1, Option.bind_some, if_pos trivial]
          have := opB (k6 := fun zl1 zl2 zst => fX8_sumOf_b6 rc n zl1 zl2 zst) (s := 145) (x := v - w) e3 (fun p q _ hl h1 h2 => by
            obtain ⟨x1, x2⟩ := alive p q (by assumption) hl h1 h2
            rw [hb, ← hv, ← e4, x1, x2, jn_sub]) (fun hl _ => by subst hl; rw [hb, vv_l, vv_l]; rfl)
          rw [c]; exact this
      obtain ⟨v', u2, o1, o2, o3, o4⟩ := stp
      have pick : ∀ y : Option (Int64 × St), (if T.2.1 k = 143 then fX8_sumOf_b38 rc (fun zl1 zl2 zst => fX8_sumOf_b6 rc n zl1 zl2 zst) (b2i live) v st else if T.2.1 k = 145 then fX8_sumOf_b38 rc (fun zl1 zl2 zst => fX8_sumOf_b6 rc n zl1 zl2 zst) (b2i live) v st else y) = fX8_sumOf_b38 rc (fun zl1 zl2 zst => fX8_sumOf_b6 rc n zl1 zl2 zst) (b2i live) v st := by
        intro y
        rcases c with c | c
        · rw [if_pos c]
        · rw [if_neg (by omega), if_pos c]
      rw [pick, o1]
      have fu : FR S_e st u2 := (f1.trans e2).trans o2
      rw [← dJn_jo] at o3 o4
      obtain ⟨v2, u3, i3, i4, i5, i6⟩ := ih n k1 l1 k' l' _ E live b v' u2 h2 (by omega) g2 (by omega) (m.fr fu) o3 o4
      exact ⟨v2, u3, i3, fu.trans i4, i5, i6⟩
    · rw [if_neg c] at hr
      obtain ⟨rfl, rfl, rfl⟩ := inr3 hr
      refine ⟨v, st, ?_, FR.rf, a, hv⟩
      rw [if_neg (fun z => c (Or.inl z)), if_neg (fun z => c (Or.inr z))]
theorem sum_ok {rc : TG1} {p : Ps1} (t : TkE T) (hp : Part (base := base) (T := T) (o := o) (f := f) rc.2.1 (rTerm T p)) : ∀ k l k' l' D, rSum T p k l = .inr (k', l', D) → EvP base T o f (fX8_sumOf_g rc) k k' D := by
  intro k l k' l' E hr live b st m a
  obtain ⟨k1, l1, D1, h1, h2⟩ := then_inr hr
  obtain ⟨g1, g2, _⟩ := hp.1 _ _ _ _ _ h1
  obtain ⟨v, u, e1, e2, e3, e4⟩ := hp.2 _ _ _ _ _ h1 live b st m a
  obtain ⟨v2, u3, i3, i4, i5, i6⟩ := sum_loop t hp 400 FU k1 l1 k' l' D1 E live b v u h2 (by omega) g2 (by unfold FU; omega) (m.fr e2) e3 e4
  refine ⟨v2, u3, ?_, e2.trans i4, i5, i6⟩
  unfold fX8_sumOf_g
  rw [e1, Option.bind_some]; exact i3
theorem bb_s {b live : Bool} {x : Int32} : bb b live (some x) = b := by unfold bb; simp
/-- behind a leaf -/
theorem b94_ok {rc : TG1} {k v : Nat} {live b : Bool} {st : St} {x : Int32} {l3 : Int32} (a : At8 base k b st) (hx : b = false → live = true → ∃ y : Int64, (if nI v = (50 : Int32) then (chk (ixb (((2827 : Int32) + (sI st 38 22)) - (1 : Int32)) 5627) (some ((sI st 40 ((((2827 : Int32) + (sI st 38 22)) - (1 : Int32)).toNatClampNeg)).toInt64, st))) else (if (sI st 38 25) = 0 then (chk (ixb (nI v - (9 : Int32)) 7) (some ((sI st 50 ((nI v - (9 : Int32)).toNatClampNeg)).toInt64, st))) else ((fX8_orderValue st (nI v) l3).bind (fun q6 => some (q6.toInt64, st))))) = some (y, st) ∧ y.toInt = x.toInt) : ∃ y : Int64, fX8_partOf_b94 rc (b2i live) (nI v) l3 st = some (y, st) ∧ y.toInt = vv b live (some x) := by
  have t0 : (0 : Int64).toInt = 0 := by decide
  unfold fX8_partOf_b94
  rw [a.2.2]
  cases live with
  | false => exact ⟨0, by rw [if_pos (by decide)], by rw [vv_l, t0]⟩
  | true =>
    rw [if_neg (by decide)]
    cases b with
    | true => exact ⟨0, by rw [if_neg (by decide)], by rw [t0, vv_0 (Or.inl (by unfold bb; rfl))]⟩
    | false =>
      rw [if_pos (by decide)]
      obtain ⟨y, h1, h2⟩ := hx rfl rfl
      exact ⟨y, h1, h2⟩
theorem leaf_ok {rc : TG1} (t : TkE T) : ∀ k l k' l' D, T.2.1 k ≠ 191 → rLeaf o T k l = .inr (k', l', D) → EvP base T o f (fX8_partOf_g rc) k k' D := by
  intro k l k' l' D hne hr live b st m a
  have t400 := t.1
  have hT := (t.2.2 k).1
  have s91 : fX8_sign (91 : Int32) = nI 191 := sgn (c := 91) (by omega)
  obtain ⟨_, kin, _⟩ := mo_leaf t k l k' l' D hr
  have hkN : k < T.1 := by
    have := (mo_leaf t k l k' l' D hr).1
    omega
  unfold fX8_partOf_g
  rw [s91]
  rcases passes_ok (c := 191) (by omega) m a (by omega) with ⟨h1, _⟩ | ⟨_, h2⟩
  · exact absurd h1 hne
  · rw [h2, Option.bind_some, if_pos rfl, codeAt_ok m a, Option.bind_some]
    obtain ⟨f1, a1⟩ := go1 m.1 (by omega) a
    have m1 := m.fr f1
    generalize hs1 : pI st 38 22 (sI st 38 22 + 1) = s1 at *
    have mcv := (m1.2.2.2.1 k hkN).2
    unfold rLeaf at hr
    by_cases c1 : T.2.1 k = 50 ∧ T.2.2 k ≤ 1000
    · rw [if_pos c1] at hr
      split at hr
      · cases hr
      · obtain ⟨rfl, rfl, rfl⟩ := inr3 hr
        rw [c1.1]
        have pick : ∀ z1 z2 : Option (Int64 × St), (if sI s1 38 25 = 0 then fX8_partOf_b94 rc (b2i live) (nI 50) 0 s1 else if nI 50 = 13 then z1 else if nI 50 = 19 then z2 else fX8_partOf_b94 rc (b2i live) (nI 50) 0 s1) = fX8_partOf_b94 rc (b2i live) (nI 50) 0 s1 := by
          intro z1 z2
          rw [if_neg (show ¬ nI 50 = 13 by decide), if_neg (show ¬ nI 50 = 19 by decide)]
          split <;> rfl
        rw [pick]
        obtain ⟨y, h3, h4⟩ := b94_ok (rc := rc) (v := 50) (live := live) (x := nI (T.2.2 k)) (l3 := 0) a1 (fun _ _ => by
          rw [if_pos (by decide), a1.2.1, show (2827 : Int32) + nI (base + (k + 1)) - 1 = nI (2827 + (base + k)) by rw [show (2827 : Int32) = nI 2827 from rfl, n_add, n_one (by omega)]; congr 1]
          have hbase := m1.1
          rw [n_ixb (by omega), decide_eq_true (show 2827 + (base + k) < 5627 by omega), chk_t, n_toNat (by omega), mcv]
          exact ⟨_, rfl, Int32.toInt_toInt64 _⟩)
        refine ⟨y, s1, h3, f1, ?_, h4⟩
        show At8 base (k + 1) (bb b live (some _)) s1
        rw [bb_s]; exact a1
    · rw [if_neg c1] at hr
      by_cases c2 : o = false ∧ 9 ≤ T.2.1 k ∧ T.2.1 k ≤ 15
      · rw [if_pos c2] at hr
        split at hr
        · cases hr
        · obtain ⟨rfl, rfl, rfl⟩ := inr3 hr
          have h25 : sI s1 38 25 = 0 := by rw [m1.2.2.2.2.1, c2.1]; rfl
          rw [if_pos h25]
          have mf := m1.2.2.2.2.2
          rw [c2.1] at mf
          have mf' : ∀ i, i < 7 → sI s1 50 i = f (wL (9 + i)) := mf
          obtain ⟨y, h3, h4⟩ := b94_ok (rc := rc) (v := T.2.1 k) (live := live) (x := f (wL (T.2.1 k))) (l3 := 0) a1 (fun _ _ => by
            rw [if_neg (by rw [show (50 : Int32) = nI 50 from rfl, n_eq (by omega) (by omega)]; omega), if_pos h25, show nI (T.2.1 k) - 9 = nI (T.2.1 k - 9) from n_sub (b := 9) (by omega), n_ixb (by omega), decide_eq_true (show T.2.1 k - 9 < 7 by omega), chk_t, n_toNat (by omega), mf' _ (by omega), show 9 + (T.2.1 k - 9) = T.2.1 k by omega]
            exact ⟨_, rfl, Int32.toInt_toInt64 _⟩)
          refine ⟨y, s1, h3, f1, ?_, h4⟩
          show At8 base (k + 1) (bb b live (some _)) s1
          rw [bb_s]; exact a1
      · rw [if_neg c2] at hr
        by_cases c3 : o = true ∧ 13 ≤ T.2.1 k ∧ T.2.1 k ≤ 19
        · rw [if_pos c3] at hr
          have h25 : ¬ sI s1 38 25 = 0 := by rw [m1.2.2.2.2.1, c3.1]; decide
          have mf := m1.2.2.2.2.2
          rw [c3.1] at mf
          have mf' : sI s1 40 2 = f 0 ∧ sI s1 38 27 = f 1 ∧ sI s1 38 28 = f 2 ∧ fX8_inside s1 = some (f 3) ∧ sI s1 40 1 = f 4 ∧ ∀ k, k < 6 → fX8_of s1 (nI k) 1 = some (f (5 + k)) ∧ fX8_of s1 (nI k) 0 = some (f (11 + k)) := mf
          rw [if_neg h25]
          split at hr
          · cases hr
          · have e13 : (nI (T.2.1 k) = (13 : Int32)) = (T.2.1 k = 13) := n_eq (b := 13) (by omega) (by omega)
            have e19 : (nI (T.2.1 k) = (19 : Int32)) = (T.2.1 k = 19) := n_eq (b := 19) (by omega) (by omega)
            simp only [e13, e19]
            by_cases c4 : T.2.1 k = 13 ∨ T.2.1 k = 19
            · rw [if_pos c4] at hr
              by_cases c5 : T.2.1 (k + 1) = 50 ∧ T.2.2 (k + 1) < 6
              · rw [if_pos c5] at hr
                obtain ⟨rfl, rfl, rfl⟩ := inr3 hr
                have hk1 : k + 1 < T.1 := in_T t (by omega)
                have mcv2 := (m1.2.2.2.1 (k + 1) hk1).2
                have hbase := m1.1
                have pick : ∀ z, (if T.2.1 k = 13 then fX8_partOf_b70 rc (b2i live) (nI (T.2.1 k)) s1 else if T.2.1 k = 19 then fX8_partOf_b70 rc (b2i live) (nI (T.2.1 k)) s1 else z) = fX8_partOf_b70 rc (b2i live) (nI (T.2.1 k)) s1 := by
                  intro z
                  rcases c4 with c4 | c4
                  · rw [if_pos c4]
                  · rw [if_neg (by omega), if_pos c4]
                rw [pick]
                unfold fX8_partOf_b70
                obtain ⟨f2, a2⟩ := go1 m1.1 (by omega) a1
                have m2 := m1.fr f2
                have h40 := fun j => f2.i (a := 40) (j := j) (hasA_in (by rfl))
                have eg : (2827 : Int32) + sI s1 38 22 = nI (2827 + (base + (k + 1))) := by rw [a1.2.1, show (2827 : Int32) = nI 2827 from rfl, n_add]
                rw [eg, n_ixb (by omega), decide_eq_true (show 2827 + (base + (k + 1)) < 5627 by omega), chk_t, n_toNat (by omega), mcv2]
                generalize hs2 : pI s1 38 22 (sI s1 38 22 + 1) = s2 at *
                have h25' : ¬ sI s2 38 25 = 0 := by rw [m2.2.2.2.2.1, c3.1]; decide
                obtain ⟨o1, o2⟩ := mf'.2.2.2.2.2 (T.2.2 (k + 1)) c5.2
                obtain ⟨y, h3, h4⟩ := b94_ok (rc := rc) (v := T.2.1 k) (live := live) (x := f (wO (T.2.1 k) + T.2.2 (k + 1))) (l3 := nI (T.2.2 (k + 1))) a2 (fun _ _ => by
                  rw [if_neg (by rw [show (50 : Int32) = nI 50 from rfl, n_eq (by omega) (by omega)]; omega), if_neg h25']
                  unfold fX8_orderValue
                  rcases c4 with c4 | c4
                  · rw [c4, if_pos (by decide), of_eq h40, o2]
                    exact ⟨_, rfl, Int32.toInt_toInt64 _⟩
                  · rw [c4, if_neg (by decide), if_neg (by decide), if_neg (by decide), if_neg (by decide), if_neg (by decide), if_pos (by decide), of_eq h40, o1]
                    exact ⟨_, rfl, Int32.toInt_toInt64 _⟩)
                refine ⟨y, s2, h3, f1.trans f2, ?_, h4⟩
                show At8 base (k + 2) (bb b live (some _)) s2
                rw [bb_s]; exact a2
              · rw [if_neg c5] at hr; cases hr
            · rw [if_neg c4] at hr
              obtain ⟨rfl, rfl, rfl⟩ := inr3 hr
              rw [if_neg (fun z => c4 (Or.inl z)), if_neg (fun z => c4 (Or.inr z))]
              obtain ⟨y, h3, h4⟩ := b94_ok (rc := rc) (v := T.2.1 k) (live := live) (x := f (wO (T.2.1 k))) (l3 := 0) a1 (fun _ _ => by
                rw [if_neg (by rw [show (50 : Int32) = nI 50 from rfl, n_eq (by omega) (by omega)]; omega), if_neg h25]
                have hc : T.2.1 k = 14 ∨ T.2.1 k = 15 ∨ T.2.1 k = 16 ∨ T.2.1 k = 17 ∨ T.2.1 k = 18 := by omega
                unfold fX8_orderValue
                rcases hc with c | c | c | c | c
                · rw [c, if_neg (by decide), if_pos (by decide), mf'.2.2.2.1]; exact ⟨_, rfl, Int32.toInt_toInt64 _⟩
                · rw [c, if_neg (by decide), if_neg (by decide), if_pos (by decide), mf'.1]; exact ⟨_, rfl, Int32.toInt_toInt64 _⟩
                · rw [c, if_neg (by decide), if_neg (by decide), if_neg (by decide), if_pos (by decide), mf'.2.1]; exact ⟨_, rfl, Int32.toInt_toInt64 _⟩
                · rw [c, if_neg (by decide), if_neg (by decide), if_neg (by decide), if_neg (by decide), if_pos (by decide), mf'.2.2.1]; exact ⟨_, rfl, Int32.toInt_toInt64 _⟩
                · rw [c, if_neg (by decide), if_neg (by decide), if_neg (by decide), if_neg (by decide), if_neg (by decide), if_neg (by decide), mf'.2.2.2.2.1]; exact ⟨_, rfl, Int32.toInt_toInt64 _⟩)
              refine ⟨y, s1, h3, f1, ?_, h4⟩
              show At8 base (k + 1) (bb b live (some _)) s1
              rw [bb_s]; exact a1
        · rw [if_neg c3] at hr; cases hr
theorem part_ok {rc : TG1} {sub : Option Ps1} (t : TkE T) (hs : ∀ s, sub = some s → Part (base := base) (T := T) (o := o) (f := f) rc.1 s) : Part (base := base) (T := T) (o := o) (f := f) (fX8_partOf_g rc) (rPart o T sub) := by
  refine ⟨mo_part t (fun s h => (hs s h).1), fun k l k' l' D hr => ?_⟩
  unfold rPart at hr
  by_cases c : T.2.1 k = 191
  · rw [if_pos c] at hr
    cases sub with
    | none => cases hr
    | some s =>
      obtain ⟨k1, l1, D1, h1, h2⟩ := then_inr hr
      by_cases c2 : T.2.1 k1 = 193
      · rw [if_pos c2] at h2
        obtain ⟨rfl, rfl, rfl⟩ := inr3 h2
        intro live b st m a
        have t400 := t.1
        have hk := in_T t (show T.2.1 k ≠ 0 by omega)
        have hk1 := in_T t (show T.2.1 k1 ≠ 0 by omega)
        have s91 : fX8_sign (91 : Int32) = nI 191 := sgn (c := 91) (by omega)
        unfold fX8_partOf_g
        rw [s91]
        rcases passes_ok (c := 191) (by omega) m a (by omega) with ⟨_, u, e1, e2, e3⟩ | ⟨h3, _⟩
        · rw [e1, Option.bind_some, if_neg (show ¬ (1 : Int32) = 0 by decide)]
          obtain ⟨v, u2, q1, q2, q3, q4⟩ := (hs s rfl).2 _ _ _ _ _ h1 live b u (m.fr e2) e3
          rw [q1, Option.bind_some]
          obtain ⟨f3, a3⟩ := go1 m.1 (by omega) q3
          exact ⟨v, _, rfl, (e2.trans q2).trans f3, a3, q4⟩
        · exact absurd c h3
      · rw [if_neg c2] at h2; cases h2
  · rw [if_neg c] at hr
    exact leaf_ok t k l k' l' D c hr
theorem sumD_ok (t : TkE T) : ∀ (n d : Nat), Part (base := base) (T := T) (o := o) (f := f) (LG1 (3 * n + 3 + d)).1 (rSumD o T n) := by
  intro n
  induction n with
  | zero =>
    intro d
    refine ⟨mo_sumD t 0, ?_⟩
    have hp : Part (base := base) (T := T) (o := o) (f := f) (LG1 (d + 1)).2.2 (rPart o T none) := part_ok (rc := LG1 d) t (fun s h => by cases h)
    have ht : Part (base := base) (T := T) (o := o) (f := f) (LG1 (d + 2)).2.1 (rTerm T (rPart o T none)) := term_ok (rc := LG1 (d + 1)) t hp
    have := sum_ok (rc := LG1 (d + 2)) t ht
    rw [show 3 * 0 + 3 + d = d + 2 + 1 by omega]
    exact this
  | succ n ih =>
    intro d
    refine ⟨mo_sumD t (n + 1), ?_⟩
    have hp : Part (base := base) (T := T) (o := o) (f := f) (LG1 (3 * n + 3 + d + 1)).2.2 (rPart o T (some (rSumD o T n))) := part_ok (rc := LG1 (3 * n + 3 + d)) t (fun s h => by rw [← Option.some.inj h]; exact ih d)
    have ht : Part (base := base) (T := T) (o := o) (f := f) (LG1 (3 * n + 3 + d + 2)).2.1 (rTerm T (rPart o T (some (rSumD o T n)))) := term_ok (rc := LG1 (3 * n + 3 + d + 1)) t hp
    have := sum_ok (rc := LG1 (3 * n + 3 + d + 2)) t ht
    rw [show 3 * (n + 1) + 3 + d = 3 * n + 3 + d + 2 + 1 by omega]
    exact this
theorem sum8 (t : TkE T) {n : Nat} (hn : n ≤ 8) : Part (base := base) (T := T) (o := o) (f := f) fX8_sumOf (rSumD o T n) := by
  have := sumD_ok (base := base) (o := o) (f := f) t n (97 - 3 * n)
  rw [show 3 * n + 3 + (97 - 3 * n) = 100 by omega] at this
  exact this
end
