/-! the model's reader: clauses, texts -/
section
variable {n : Nat} {b : Nat → Int32} {o : Bool}
theorem ifR (hn : n ≤ 400) (t : TkE (tkT n b)) {fn : St → Option St} (hfn : ∀ st, fn st = (fX8_takes0 (5 : Int32) st).bind (fun q1 => if q1.1 = 0 then (some q1.2) else (fX8_readTest (0 : Int32) q1.2))) : RP n b o fn (rIf o (tkT n b)) := by
  refine ⟨fun k l st r => ?_, fun st v h => ?_⟩
  · rw [hfn]
    unfold rIf
    by_cases c : (tkT n b).2.1 k = 5
    · obtain ⟨t1, t2, t3⟩ := takesY r c (by decide) (by decide)
      rw [show (5 : Int32) = nI 5 from rfl, t1, Option.bind_some, if_neg one0, if_pos c]
      rcases (test8R hn t).1 (k + 1) l _ t2 with ⟨j, u, w1, w2, w3, w4⟩ | ⟨k', l', D, u, w1, w2, w3, w4⟩
      · exact Or.inl ⟨j, u, w1, w2, w3, t3.trans w4⟩
      · exact Or.inr ⟨k', l', D, u, w1, w2, w3, t3.trans w4⟩
    · rw [show (5 : Int32) = nI 5 from rfl, takesN r c (by decide) (by decide), Option.bind_some, if_pos rfl, if_neg c]
      exact Or.inr ⟨k, l, dNum 1, st, rfl, rfl, r, FR.rf⟩
  · rw [hfn, bad_takes h, Option.bind_some, if_pos rfl]
/-- behind the sum: how often, the test -/
def rRest (o : Bool) (T : Tok) (kd : Nat) (k l : Nat) (D : Dn) : Nat ⊕ (Nat × Nat × Cls) := match rTms o T k with
  | .inl j => .inl j
  | .inr (k2, tm) => match rIf o T k2 l with
    | .inl j => .inl j
    | .inr (k3, l3, E) => .inr (k3, l3, kd, tm, D, E)
theorem rClause_r {T : Tok} {k l : Nat} : rClause o T k l = match rHead o (T.2.1 k) with
  | none => .inl k
  | some kd => match rSumC o T kd (k + 1) l with
    | .inl j => .inl j
    | .inr (k1, l1, D) => rRest o T kd k1 l1 D := rfl
def RC (n : Nat) (b : Nat → Int32) (o : Bool) (st : St) (z : Nat ⊕ (Nat × Nat × Cls)) (w : Option St) : Prop := (∃ j u, z = .inl j ∧ w = some u ∧ Bad u (plT n b j) ∧ FR S_rd st u) ∨ ∃ k' l' c u, z = .inr (k', l', c) ∧ w = some u ∧ RdM u n b o k' l' ∧ FR S_rd st u
theorem RC.fr {st st' : St} {z : Nat ⊕ (Nat × Nat × Cls)} {w : Option St} (f : FR S_rd st st') (h : RC n b o st' z w) : RC n b o st z w := by
  rcases h with ⟨j, u, h1, h2, h3, h4⟩ | ⟨k', l', c, u, h1, h2, h3, h4⟩
  · exact Or.inl ⟨j, u, h1, h2, h3, f.trans h4⟩
  · exact Or.inr ⟨k', l', c, u, h1, h2, h3, f.trans h4⟩
/-- a test at the end of a clause -/
theorem restI {st : St} {kd tm k l : Nat} {D : Dn} {fn : St → Option St} (hp : RP n b o fn (rIf o (tkT n b))) (r : RdM st n b o k l) : RC n b o st (match rIf o (tkT n b) k l with | .inl j => .inl j | .inr (k3, l3, E) => .inr (k3, l3, kd, tm, D, E)) (fn st) := by
  rcases hp.1 k l st r with ⟨j, u, w1, w2, w3, w4⟩ | ⟨k', l', E, u, w1, w2, w3, w4⟩
  · exact Or.inl ⟨j, u, by rw [w1], w2, w3, w4⟩
  · exact Or.inr ⟨k', l', _, u, by rw [w1], w2, w3, w4⟩
theorem clauseR (hn : n ≤ 400) (t : TkE (tkT n b)) {k l : Nat} {st : St} (r : RdM st n b false k l) : RC n b false st (rClause false (tkT n b) k l) (fX8_readClause st) := by
  have hi := ifR (o := false) hn t (fn := fX8_readClause_b37) (fun st => rfl)
  have htm : ∀ k1, rTms false (tkT n b) k1 = .inr (k1, 1) := fun k1 => by unfold rTms; simp
  have rest : ∀ (kd k1 l1 : Nat) (D : Dn) (u : St), RdM u n b false k1 l1 → RC n b false u (rRest false (tkT n b) kd k1 l1 D) (fX8_readClause_b37 u) := by
    intro kd k1 l1 D u ru
    unfold rRest
    rw [htm]
    exact restI hi ru
  rw [rClause_r]
  unfold fX8_readClause
  by_cases c1 : (tkT n b).2.1 k = 1
  · obtain ⟨t1, t2, t3⟩ := takesY r c1 (by decide) (by decide)
    have hh : rHead false ((tkT n b).2.1 k) = some 0 := by rw [c1]; rfl
    rw [show (1 : Int32) = nI 1 from rfl, t1, Option.bind_some, if_neg one0, hh]
    simp only []
    have hsc : rSumC false (tkT n b) 0 (k + 1) l = rSumD false (tkT n b) 8 (k + 1) l := rfl
    rw [hsc]
    rcases (sum8R hn t).1 (k + 1) l _ t2 with ⟨j, u, w1, w2, w3, w4⟩ | ⟨k1, l1, D, u, w1, w2, w3, w4⟩
    · refine Or.inl ⟨j, u, by rw [w1], ?_, w3, t3.trans w4⟩
      rw [w2, Option.bind_some]; exact hi.2 u _ w3
    · rw [w1, w2, Option.bind_some]
      exact (rest 0 k1 l1 D u w3).fr (t3.trans w4)
  · rw [show (1 : Int32) = nI 1 from rfl, takesN r c1 (by decide) (by decide), Option.bind_some, if_pos rfl]
    have hsc : ∀ kd, kd ≠ 0 → rSumC false (tkT n b) kd (k + 1) l = .inr (k + 1, l, dNum 0) := fun kd h => by
      unfold rSumC; simp [h]
    by_cases c2 : (tkT n b).2.1 k = 2
    · obtain ⟨t1, t2, t3⟩ := takesY r c2 (by decide) (by decide)
      have hh : rHead false ((tkT n b).2.1 k) = some 1 := by rw [c2]; rfl
      rw [show (2 : Int32) = nI 2 from rfl, t1, Option.bind_some, if_neg one0, hh]
      simp only [hsc 1 (by decide)]
      exact (rest 1 (k + 1) l (dNum 0) _ t2).fr t3
    · rw [show (2 : Int32) = nI 2 from rfl, takesN r c2 (by decide) (by decide), Option.bind_some, if_pos rfl]
      by_cases c3 : (tkT n b).2.1 k = 3
      · obtain ⟨t1, t2, t3⟩ := takesY r c3 (by decide) (by decide)
        have hh : rHead false ((tkT n b).2.1 k) = some 2 := by rw [c3]; rfl
        rw [show (3 : Int32) = nI 3 from rfl, t1, Option.bind_some, if_neg one0, hh]
        simp only [hsc 2 (by decide)]
        exact (rest 2 (k + 1) l (dNum 0) _ t2).fr t3
      · rw [show (3 : Int32) = nI 3 from rfl, takesN r c3 (by decide) (by decide), Option.bind_some, if_pos rfl]
        unfold fX8_must
        by_cases c4 : (tkT n b).2.1 k = 4
        · obtain ⟨t1, t2, t3⟩ := takesY r c4 (by decide) (by decide)
          have hh : rHead false ((tkT n b).2.1 k) = some 3 := by rw [c4]; rfl
          rw [show (4 : Int32) = nI 4 from rfl, t1, Option.bind_some, if_neg one0, Option.bind_some, hh]
          simp only [hsc 3 (by decide)]
          exact (rest 3 (k + 1) l (dNum 0) _ t2).fr t3
        · obtain ⟨u, f1, f2, f3⟩ := rd_faults hn r
          have hh : rHead false ((tkT n b).2.1 k) = none := by
            unfold rHead
            rw [if_neg (by decide), if_neg (by omega)]
          rw [show (4 : Int32) = nI 4 from rfl, takesN r c4 (by decide) (by decide), Option.bind_some, if_pos rfl, f1, Option.bind_some, hh]
          exact Or.inl ⟨k, u, rfl, hi.2 u _ f2, f2, f3⟩
theorem orderR (hn : n ≤ 400) (t : TkE (tkT n b)) {k l : Nat} {st : St} (r : RdM st n b true k l) : RC n b true st (rClause true (tkT n b) k l) (fX8_readOrder st) := by
  have hi := ifR (o := true) hn t (fn := fX8_readOrder_b57) (fun st => rfl)
  have rest : ∀ (kd k1 l1 : Nat) (D : Dn) (u : St), RdM u n b true k1 l1 → RC n b true u (rRest true (tkT n b) kd k1 l1 D) (fX8_readOrder_b41 u) := by
    intro kd k1 l1 D u ru
    unfold rRest rTms fX8_readOrder_b41
    simp only [true_and]
    by_cases c : (tkT n b).2.1 k1 = 24
    · obtain ⟨t1, t2, t3⟩ := takesY ru c (by decide) (by decide)
      rw [show (24 : Int32) = nI 24 from rfl, t1, Option.bind_some, if_neg one0, if_pos c, show (1 : Int32) = nI 1 from rfl, show (20 : Int32) = nI 20 from rfl]
      rcases numR (lo := 1) (hi := 20) hn t2 (by omega) (by omega) with ⟨y1, w, y2, y3, y4⟩ | ⟨y1, w, y2, y3, y4⟩
      · rw [if_neg y1, y2, Option.bind_some]
        exact Or.inl ⟨k1 + 1, w, rfl, hi.2 w _ y3, y3, t3.trans y4⟩
      · rw [if_pos y1, y2, Option.bind_some]
        exact (restI (kd := kd) (tm := (tkT n b).2.2 (k1 + 1)) (D := D) hi y3).fr (t3.trans y4)
    · rw [show (24 : Int32) = nI 24 from rfl, takesN ru c (by decide) (by decide), Option.bind_some, if_pos rfl, if_neg c]
      exact restI hi ru
  have b41bad : ∀ (u : St) (v : Nat), Bad u v → fX8_readOrder_b41 u = some u := by
    intro u v h
    unfold fX8_readOrder_b41
    rw [bad_takes h, Option.bind_some, if_pos rfl]
    exact hi.2 u _ h
  have sums : ∀ (kd : Nat) (u : St), kd ≠ 3 → RdM u n b true (k + 1) l → RC n b true u (match rSumC true (tkT n b) kd (k + 1) l with | .inl j => .inl j | .inr (k1, l1, D) => rRest true (tkT n b) kd k1 l1 D) (fX8_readOrder_b27 u) := by
    intro kd u hkd ru
    have hsc : rSumC true (tkT n b) kd (k + 1) l = rSumD true (tkT n b) 8 (k + 1) l := by unfold rSumC; simp [hkd]
    rw [hsc]
    unfold fX8_readOrder_b27
    rcases (sum8R hn t).1 (k + 1) l u ru with ⟨j, w, w1, w2, w3, w4⟩ | ⟨k1, l1, D, w, w1, w2, w3, w4⟩
    · refine Or.inl ⟨j, w, by rw [w1], ?_, w3, w4⟩
      rw [w2, Option.bind_some]; exact b41bad w _ w3
    · rw [w1, w2, Option.bind_some]
      exact (rest kd k1 l1 D w w3).fr w4
  rw [rClause_r]
  unfold fX8_readOrder
  by_cases c1 : (tkT n b).2.1 k = 20
  · obtain ⟨t1, t2, t3⟩ := takesY r c1 (by decide) (by decide)
    have hh : rHead true ((tkT n b).2.1 k) = some 0 := by rw [c1]; rfl
    rw [show (20 : Int32) = nI 20 from rfl, t1, Option.bind_some, if_neg one0, hh]
    exact (sums 0 _ (by decide) t2).fr t3
  · rw [show (20 : Int32) = nI 20 from rfl, takesN r c1 (by decide) (by decide), Option.bind_some, if_pos rfl]
    by_cases c2 : (tkT n b).2.1 k = 21
    · obtain ⟨t1, t2, t3⟩ := takesY r c2 (by decide) (by decide)
      have hh : rHead true ((tkT n b).2.1 k) = some 1 := by rw [c2]; rfl
      rw [show (21 : Int32) = nI 21 from rfl, t1, Option.bind_some, if_neg one0, hh]
      exact (sums 1 _ (by decide) t2).fr t3
    · rw [show (21 : Int32) = nI 21 from rfl, takesN r c2 (by decide) (by decide), Option.bind_some, if_pos rfl]
      by_cases c3 : (tkT n b).2.1 k = 22
      · obtain ⟨t1, t2, t3⟩ := takesY r c3 (by decide) (by decide)
        have hh : rHead true ((tkT n b).2.1 k) = some 2 := by rw [c3]; rfl
        rw [show (22 : Int32) = nI 22 from rfl, t1, Option.bind_some, if_neg one0, hh]
        exact (sums 2 _ (by decide) t2).fr t3
      · rw [show (22 : Int32) = nI 22 from rfl, takesN r c3 (by decide) (by decide), Option.bind_some, if_pos rfl]
        unfold fX8_must
        by_cases c4 : (tkT n b).2.1 k = 23
        · obtain ⟨t1, t2, t3⟩ := takesY r c4 (by decide) (by decide)
          have hh : rHead true ((tkT n b).2.1 k) = some 3 := by rw [c4]; rfl
          have hsc : rSumC true (tkT n b) 3 (k + 1) l = .inr (k + 1, l, dNum 0) := by unfold rSumC; simp
          rw [show (23 : Int32) = nI 23 from rfl, t1, Option.bind_some, if_neg one0, Option.bind_some, hh]
          simp only [hsc]
          exact (rest 3 (k + 1) l (dNum 0) _ t2).fr t3
        · obtain ⟨u, f1, f2, f3⟩ := rd_faults hn r
          have hh : rHead true ((tkT n b).2.1 k) = none := by
            unfold rHead
            rw [if_pos rfl, if_neg (by omega)]
          rw [show (23 : Int32) = nI 23 from rfl, takesN r c4 (by decide) (by decide), Option.bind_some, if_pos rfl, f1, Option.bind_some, hh]
          exact Or.inl ⟨k, u, rfl, b41bad u _ f2, f2, f3⟩
theorem oneR (hn : n ≤ 400) (t : TkE (tkT n b)) {k l : Nat} {st : St} (r : RdM st n b o k l) : RC n b o st (rClause o (tkT n b) k l) (fX8_readOne st) := by
  unfold fX8_readOne
  rw [r.2.2.2.2.2.2.2.1]
  cases o with
  | false => rw [if_pos (by rfl)]; exact clauseR hn t r
  | true =>
    rw [if_neg (by decide)]
    have e : (fX8_readOrder st).bind (fun q2 => some q2) = fX8_readOrder st := by cases fX8_readOrder st <;> rfl
    rw [e]; exact orderR hn t r
/-- what is read behind a clause -/
def rTail (o : Bool) (T : Tok) (F k l : Nat) : Option Nat := if T.2.1 k = 159 then (match rAll o T F (k + 1) l with | .inl j => some j | .inr _ => none) else if T.1 ≤ k then none else some k
theorem rAll_t {T : Tok} {F k l : Nat} : (match rAll o T (F + 1) k l with | .inl j => some j | .inr _ => none) = match rClause o T k l with | .inl j => some j | .inr (k1, l1, _) => rTail o T F k1 l1 := by
  rw [rAll]
  cases rClause o T k l with
  | inl j => rfl
  | inr z =>
    obtain ⟨k1, l1, c⟩ := z
    simp only []
    unfold rTail
    by_cases q : T.2.1 k1 = 159
    · rw [if_pos q, if_pos q]
      cases rAll o T F (k1 + 1) l1 <;> rfl
    · rw [if_neg q, if_neg q]
      by_cases q2 : T.1 ≤ k1
      · rw [if_pos q2, if_pos q2]
      · rw [if_neg q2, if_neg q2]
abbrev S_re : List (Nat × Option Nat) := [(38, some 14), (38, some 19), (38, some 20), (38, some 21)]
/-- read, or not: the fault's place -/
def Rend (n : Nat) (b : Nat → Int32) (st : St) (z : Option Nat) (w : Option (Int32 × St)) : Prop := ∃ u, FR S_re st u ∧ match z with | none => w = some (1, u) ∧ sI u 38 14 = -1 | some j => w = some (0, u) ∧ sI u 38 14 = nI (plT n b j)
theorem Rend.fr {st st' : St} {z : Option Nat} {w : Option (Int32 × St)} (f : FR S_rd st st') (h : Rend n b st' z w) : Rend n b st z w := by
  obtain ⟨u, h1, h2⟩ := h
  exact ⟨u, (FR.mono (by rfl) f : FR S_re st st').trans h1, h2⟩
theorem b95_bad {st : St} {j : Nat} (h : Bad st (plT n b j)) : Rend n b st (some j) (fX8_reads_b95 st) := by
  refine ⟨pI st 38 14 (sI st 38 21), FR.pI (by rfl) FR.rf, ?_, by rw [sI_pI, if_pos ⟨rfl, rfl⟩]; exact h.2⟩
  unfold fX8_reads_b95
  have b2 : Bad (pI st 38 14 (sI st 38 21)) (plT n b j) := ⟨h.1, by rw [sI_pI, if_neg (by omega)]; exact h.2⟩
  rw [b2.f]
theorem b95_ok {st : St} {k l : Nat} (r : RdM st n b o k l) : Rend n b st none (fX8_reads_b95 st) := by
  refine ⟨pI st 38 14 (sI st 38 21), FR.pI (by rfl) FR.rf, ?_, by rw [sI_pI, if_pos ⟨rfl, rfl⟩]; exact r.2.2.2.2.2.2.1⟩
  unfold fX8_reads_b95
  have : fX8_fine (pI st 38 14 (sI st 38 21)) = 1 := by
    have e21 : sI (pI st 38 14 (sI st 38 21)) 38 21 = -1 := by rw [sI_pI, if_neg (by omega)]; exact r.2.2.2.2.2.2.1
    unfold fX8_fine
    rw [e21, if_pos rfl]
  rw [this]
theorem reads_bad {st : St} {m j : Nat} {c : Int32} (h : Bad st (plT n b j)) : Rend n b st (some j) (fX8_reads_b34 (m + 1) c st) := by
  rw [fX8_reads_b34, bad_takes h, Option.bind_some, if_pos rfl, h.f, if_pos rfl]
  exact b95_bad h
theorem reads_loop (hn : n ≤ 400) (t : TkE (tkT n b)) : ∀ (F m c k l : Nat) (st : St), F + c = 12 → F + 1 < m → RdM st n b o k l → Rend n b st (rTail o (tkT n b) F k l) (fX8_reads_b34 m (nI c) st) := by
  have s59 : fX8_sign (59 : Int32) = nI 159 := by decide
  intro F
  induction F with
  | zero =>
    intro m c k l st hc hm r
    obtain ⟨m, rfl⟩ : ∃ j, m = j + 2 := ⟨m - 2, by omega⟩
    unfold rTail
    rw [fX8_reads_b34, s59]
    by_cases q : (tkT n b).2.1 k = 159
    · obtain ⟨t1, t2, t3⟩ := takesY r q (by decide) (by decide)
      obtain ⟨u, f1, f2, f3⟩ := rd_faults hn t2
      rw [t1, Option.bind_some, if_neg one0, if_pos (show nI c = (12 : Int32) by rw [show c = 12 by omega]; rfl), f1, Option.bind_some, if_pos q]
      unfold fX8_reads_b56 fX8_reads_b67
      rw [f2.f, if_pos rfl]
      exact (reads_bad f2).fr (t3.trans f3)
    · rw [takesN r q (by decide) (by decide), Option.bind_some, if_pos rfl, r.f, if_neg one0, r.1.1, r.2.2.1, if_neg q]
      have hk := r.2.2.2.1
      have h4 := t.1
      have hle : (nI (tkT n b).1 ≤ nI k) = ((tkT n b).1 ≤ k) := n_le (by omega) (by omega)
      simp only [hle]
      by_cases q2 : (tkT n b).1 ≤ k
      · rw [if_pos q2, if_pos q2]; exact b95_ok r
      · obtain ⟨u, f1, f2, f3⟩ := rd_faults hn r
        rw [if_neg q2, if_neg q2, f1, Option.bind_some]
        exact (b95_bad f2).fr f3
  | succ F ih =>
    intro m c k l st hc hm r
    obtain ⟨m, rfl⟩ : ∃ j, m = j + 2 := ⟨m - 2, by omega⟩
    rw [fX8_reads_b34, s59]
    by_cases q : (tkT n b).2.1 k = 159
    · obtain ⟨t1, t2, t3⟩ := takesY r q (by decide) (by decide)
      have e12 : (nI c = (12 : Int32)) = (c = 12) := n_eq (b := 12) (by omega) (by omega)
      rw [t1, Option.bind_some, if_neg one0]
      simp only [e12]
      rw [if_neg (by omega)]
      unfold fX8_reads_b56 fX8_reads_b67 rTail
      rw [t2.f, if_neg one0, if_pos q, rAll_t]
      rcases oneR hn t t2 with ⟨j, u, w1, w2, w3, w4⟩ | ⟨k', l', cl, u, w1, w2, w3, w4⟩
      · rw [w1, w2, Option.bind_some]
        exact (reads_bad w3).fr (t3.trans w4)
      · rw [w1, w2, Option.bind_some, n_p1]
        exact (ih (m + 1) (c + 1) k' l' u (by omega) (by omega) w3).fr (t3.trans w4)
    · unfold rTail
      rw [takesN r q (by decide) (by decide), Option.bind_some, if_pos rfl, r.f, if_neg one0, r.1.1, r.2.2.1, if_neg q]
      have hk := r.2.2.2.1
      have h4 := t.1
      have hle : (nI (tkT n b).1 ≤ nI k) = ((tkT n b).1 ≤ k) := n_le (by omega) (by omega)
      simp only [hle]
      by_cases q2 : (tkT n b).1 ≤ k
      · rw [if_pos q2, if_pos q2]; exact b95_ok r
      · obtain ⟨u, f1, f2, f3⟩ := rd_faults hn r
        rw [if_neg q2, if_neg q2, f1, Option.bind_some]
        exact (b95_bad f2).fr f3
abbrev S_ra : List (Nat × Option Nat) := [(38, some 8), (38, some 9), (38, some 10), (38, some 13), (38, some 14), (38, some 18), (38, some 19), (38, some 20), (38, some 21), (47, none), (48, none), (49, none)]
def rFault (o : Bool) (T : Tok) : Option Nat := match rAll o T 12 0 0 with | .inl j => some j | .inr _ => none
/-- a text is read by the model -/
theorem readsAs8 {st : St} {tp : Tp} (g : GdT tp) (hw : MW st) (mt : MT st tp) : ∃ u, FR S_ra st u ∧ sI u 38 13 = 0 ∧ TkM u tp.1 tp.2 ∧ (match rFault o (tkT tp.1 tp.2) with | none => fX8_readsAs (b2i o) st = some (1, u) ∧ sI u 38 14 = -1 | some j => fX8_readsAs (b2i o) st = some (0, u) ∧ sI u 38 14 = nI (plT tp.1 tp.2 j)) := by
  have hb : ∀ j, j < tp.1 → Byt (tp.2 j) := fun j hj => g.b hj
  have hn := g.1
  have t := tkT_E hn hb
  have f1 : FR S_ra st (pI (pI (pI st 38 10 (b2i o)) 38 8 (if o = true then 13 else 9)) 38 9 (if o = true then 19 else 15)) := FR.pI (by rfl) (FR.pI (by rfl) (FR.pI (by rfl) FR.rf))
  have e0 : fX8_readsAs (b2i o) st = (fX8_reads (pI (pI (pI st 38 10 (b2i o)) 38 8 (if o = true then 13 else 9)) 38 9 (if o = true then 19 else 15))).bind (fun q1 => chk (isb q1.1) (some (q1.1, q1.2))) := by
    unfold fX8_readsAs fX8_readsAs_b17 fX8_readsAs_b32
    cases o with
    | false => rfl
    | true => rfl
  generalize hs1 : pI (pI (pI st 38 10 (b2i o)) 38 8 (if o = true then 13 else 9)) 38 9 (if o = true then 19 else 15) = s1 at f1 e0
  have k10 : sI s1 38 10 = b2i o := by rw [← hs1]; simp [sI_pI]
  have k8 : sI s1 38 8 = (if o = true then 13 else 9) := by rw [← hs1]; simp [sI_pI]
  have k9 : sI s1 38 9 = (if o = true then 19 else 15) := by rw [← hs1]; simp [sI_pI]
  have tp8 : Tp8 s1 tp.1 tp.2 := ⟨fun j => (f1.i (hasA_in (by rfl))).trans (hw j), hn, fun j hj => (f1.i (hasA_in (by rfl))).trans (mt.2 j hj)⟩
  obtain ⟨s2, r1, r2, r3⟩ := splits8 hb tp8
  have h13 : sI s1 38 13 = nI tp.1 := by rw [← hs1, sI_pI, if_neg (by omega), sI_pI, if_neg (by omega), sI_pI, if_neg (by omega)]; exact mt.1
  have f3 : FR [(38, some 13), (38, some 19), (38, some 20), (38, some 21)] s2 (pI (pI (pI (pI s2 38 13 0) 38 19 0) 38 20 0) 38 21 (-1)) := FR.pI (by rfl) (FR.pI (by rfl) (FR.pI (by rfl) (FR.pI (by rfl) FR.rf)))
  generalize hs3 : pI (pI (pI (pI s2 38 13 0) 38 19 0) 38 20 0) 38 21 (-1) = s3 at f3
  have rd : RdM s3 tp.1 tp.2 o 0 0 := by
    refine ⟨r2.fr (by rfl) f3, t, by rw [← hs3]; simp [sI_pI]; rfl, by omega, by rw [← hs3]; simp [sI_pI]; rfl, by omega, by rw [← hs3]; simp [sI_pI], ?_, ?_, ?_⟩
    · rw [f3.i (by rfl), r3.i (by rfl)]; exact k10
    · rw [f3.i (by rfl), r3.i (by rfl)]; exact k8
    · rw [f3.i (by rfl), r3.i (by rfl)]; exact k9
  have e13 : sI s3 38 13 = 0 := by rw [← hs3]; simp [sI_pI]
  have fS : FR S_ra st s3 := (f1.trans (FR.mono (by rfl) r3)).trans (FR.mono (by rfl) f3)
  have hreads : fX8_reads s1 = (fX8_readOne s3).bind (fun q3 => fX8_reads_b34 FU (1 : Int32) q3) := by
    unfold fX8_reads
    rw [h13, r1, Option.bind_some, hs3]
  rw [hreads] at e0
  have key : Rend tp.1 tp.2 s3 (rFault o (tkT tp.1 tp.2)) ((fX8_readOne s3).bind (fun q3 => fX8_reads_b34 FU (1 : Int32) q3)) := by
    unfold rFault
    rw [rAll_t]
    rcases oneR hn t rd with ⟨j, u, w1, w2, w3, w4⟩ | ⟨k', l', cl, u, w1, w2, w3, w4⟩
    · rw [w1, w2, Option.bind_some]
      exact (reads_bad (m := 99999) w3).fr w4
    · rw [w1, w2, Option.bind_some]
      exact (reads_loop hn t 11 FU 1 k' l' u (by omega) (by unfold FU; omega) w3).fr w4
  obtain ⟨u, g1, g2⟩ := key
  refine ⟨u, fS.trans (FR.mono (by rfl) g1), (g1.i (by rfl)).trans e13, rd.1.fr (by rfl) g1, ?_⟩
  cases hz : rFault o (tkT tp.1 tp.2) with
  | none =>
    rw [hz] at g2
    refine ⟨?_, g2.2⟩
    rw [e0, g2.1, Option.bind_some]; rfl
  | some j =>
    rw [hz] at g2
    refine ⟨?_, g2.2⟩
    rw [e0, g2.1, Option.bind_some]; rfl
end
