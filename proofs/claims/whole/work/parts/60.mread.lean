/-! the model's reader -/
section
variable {n : Nat} {b : Nat → Int32} {o : Bool}
abbrev S_rd : List (Nat × Option Nat) := [(38, some 19), (38, some 20), (38, some 21)]
def RdM (st : St) (n : Nat) (b : Nat → Int32) (o : Bool) (k l : Nat) : Prop := TkM st n b ∧ TkE (tkT n b) ∧ sI st 38 19 = nI k ∧ k ≤ (tkT n b).1 ∧ sI st 38 20 = nI l ∧ l ≤ 50 ∧ sI st 38 21 = -1 ∧ sI st 38 10 = b2i o ∧ sI st 38 8 = (if o = true then 13 else 9) ∧ sI st 38 9 = (if o = true then 19 else 15)
def Bad (st : St) (v : Nat) : Prop := v < 2147483648 ∧ sI st 38 21 = nI v
theorem Bad.f {st : St} {v : Nat} (h : Bad st v) : fX8_fine st = 0 := by
  unfold fX8_fine
  rw [h.2, if_neg (fun e => by
    have : nI v < 0 := by rw [e]; decide
    rw [n_neg h.1] at this; exact this)]
theorem RdM.f {st : St} {k l : Nat} (h : RdM st n b o k l) : fX8_fine st = 1 := by
  unfold fX8_fine
  rw [h.2.2.2.2.2.2.1, if_pos rfl]
theorem bad_takes {st : St} {v : Nat} {c : Int32} (h : Bad st v) : fX8_takes0 c st = some (0, st) := by
  unfold fX8_takes0 fX8_takes0_b24 fX8_takes0_b25
  rw [h.f, if_pos rfl, if_pos rfl]; rfl
theorem bad_faults {st : St} {v : Nat} (h : Bad st v) : fX8_faults st = some st := by
  unfold fX8_faults
  rw [h.f, if_pos rfl]
theorem bad_must {st : St} {v : Nat} {c : Int32} (h : Bad st v) : fX8_must c st = some st := by
  unfold fX8_must
  rw [bad_takes h, Option.bind_some, if_pos rfl, bad_faults h]
theorem bad_num {st : St} {v : Nat} {c d : Int32} (h : Bad st v) : fX8_mustNumber c d st = some st := by
  unfold fX8_mustNumber fX8_mustNumber_b42
  rw [h.f, if_pos rfl, if_pos rfl]
theorem pl_lt {k : Nat} (hn : n ≤ 400) : plT n b k ≤ 400 := by
  unfold plT
  cases h : (tkL n b 0)[k]? with
  | none => exact hn
  | some s => have := (tk_in h).1; simp only []; omega
theorem TkM.fr {S : List (Nat × Option Nat)} {st u : St} (e : (inS S 38 18 || hasA S 47 || hasA S 48 || hasA S 49) = false) (h : FR S st u) (m : TkM st n b) : TkM u n b := by
  simp only [Bool.or_eq_false_iff] at e
  exact ⟨(h.i e.1.1.1).trans m.1, fun k hk => ⟨(h.i (hasA_in e.1.1.2)).trans (m.2 k hk).1, (h.i (hasA_in e.1.2)).trans (m.2 k hk).2.1, (h.i (hasA_in e.2)).trans (m.2 k hk).2.2⟩⟩
theorem rd_code {st : St} {k l : Nat} (m : RdM st n b o k l) : ixb (sI st 38 19) 401 = true ∧ sI st 47 (sI st 38 19).toNatClampNeg = nI ((tkT n b).2.1 k) ∧ sI st 48 (sI st 38 19).toNatClampNeg = nI ((tkT n b).2.2 k) ∧ sI st 49 (sI st 38 19).toNatClampNeg = nI (plT n b k) := by
  obtain ⟨m1, m2, m3, m4, _⟩ := m
  have h4 := m2.1
  rw [m3, n_ixb (by omega), n_toNat (by omega)]
  exact ⟨decide_eq_true (by omega), m1.2 k m4⟩
theorem rd_faults {st : St} {k l : Nat} (hn : n ≤ 400) (m : RdM st n b o k l) : ∃ u, fX8_faults st = some u ∧ Bad u (plT n b k) ∧ FR S_rd st u := by
  obtain ⟨c1, c2, c3, c4⟩ := rd_code m
  have := pl_lt (b := b) (k := k) hn
  unfold fX8_faults
  rw [m.f, if_neg (by decide), c1, chk_t, c4]
  exact ⟨_, rfl, ⟨by omega, by rw [sI_pI, if_pos ⟨rfl, rfl⟩]⟩, FR.pI (by rfl) FR.rf⟩
theorem rd_next {st : St} {k l : Nat} (m : RdM st n b o k l) (h : k < (tkT n b).1) : RdM (pI st 38 19 (nI (k + 1))) n b o (k + 1) l ∧ FR S_rd st (pI st 38 19 (nI (k + 1))) := by
  obtain ⟨m1, m2, m3, m4, m5, m6, m7, m8, m9, m10⟩ := m
  have f1 : FR S_rd st (pI st 38 19 (nI (k + 1))) := FR.pI (by rfl) FR.rf
  refine ⟨⟨m1.fr (by rfl) f1, m2, by rw [sI_pI, if_pos ⟨rfl, rfl⟩], by omega, ?_, m6, ?_, ?_, ?_, ?_⟩, f1⟩ <;> (rw [sI_pI, if_neg (by omega)]; assumption)
theorem rd_takes {st : St} {k l c : Nat} (m : RdM st n b o k l) (hc0 : c ≠ 0) (hc : c < 400) : ((tkT n b).2.1 k = c ∧ k < (tkT n b).1 ∧ fX8_takes0 (nI c) st = some (1, pI st 38 19 (nI (k + 1)))) ∨ ((tkT n b).2.1 k ≠ c ∧ fX8_takes0 (nI c) st = some (0, st)) := by
  obtain ⟨c1, c2, c3, c4⟩ := rd_code m
  have hT := (m.2.1.2.2 k).1
  unfold fX8_takes0 fX8_takes0_b24 fX8_takes0_b25
  rw [m.f, if_neg (by decide), c1, chk_t, c2]
  have he : (nI ((tkT n b).2.1 k) = nI c) = ((tkT n b).2.1 k = c) := n_eq (by omega) (by omega)
  simp only [he]
  by_cases q : (tkT n b).2.1 k = c
  · refine Or.inl ⟨q, in_T m.2.1 (by omega), ?_⟩
    rw [if_pos q, if_neg (by decide), m.2.2.1, n_p1]; rfl
  · refine Or.inr ⟨q, ?_⟩
    rw [if_neg q, if_pos trivial]; rfl
/-- a reader of the model goes as one of tokens -/
def RdP (n : Nat) (b : Nat → Int32) (o : Bool) (fn : St → Option St) (p : Ps1) : Prop := ∀ (k l : Nat) (st : St), RdM st n b o k l → (∃ j u, p k l = .inl j ∧ fn st = some u ∧ Bad u (plT n b j) ∧ FR S_rd st u) ∨ ∃ k' l' D u, p k l = .inr (k', l', D) ∧ fn st = some u ∧ RdM u n b o k' l' ∧ FR S_rd st u
def NoO (fn : St → Option St) : Prop := ∀ (st : St) (v : Nat), Bad st v → fn st = some st
def RP (n : Nat) (b : Nat → Int32) (o : Bool) (fn : St → Option St) (p : Ps1) : Prop := RdP n b o fn p ∧ NoO fn
theorem one0 : ¬ ((1 : Int32) = 0) := by decide
theorem sgn8 {c : Nat} (h : c < 200) : fX8_sign (nI c) = nI (100 + c) := sgn h
theorem Mo.q {T : Tok} {Q : Dn → Prop} {p : Ps1} (h : Mo T Q p) : Mo T Q0 p := fun k l k' l' D e => ⟨(h k l k' l' D e).1, (h k l k' l' D e).2.1, trivial⟩
/-- a loop of a reader -/
theorem loopR {p : Ps1} {fn : St → Option St} {J : Nat → Dn → Dn → Dn} {cs : List Nat} {lp : Nat → St → Option St} {pl : Nat → Nat → Nat → Dn → PR} (hp : RP n b o fn p) (hmo : Mo (tkT n b) Q0 p) (h0 : ∀ k l D, pl 0 k l D = .inr (k, l, D)) (h1 : ∀ F k l D, pl (F + 1) k l D = if (tkT n b).2.1 k ∈ cs then rThen (p (k + 1) l) (fun k' l' D' => pl F k' l' (J ((tkT n b).2.1 k) D D')) else .inr (k, l, D)) (hz : ¬ 0 ∈ cs) (hy : ∀ (m k l : Nat) (st : St), RdM st n b o k l → (tkT n b).2.1 k ∈ cs → ∃ u, lp (m + 1) st = (fn u).bind (fun q => lp m q) ∧ RdM u n b o (k + 1) l ∧ FR S_rd st u) (hx : ∀ (m k l : Nat) (st : St), RdM st n b o k l → ¬ (tkT n b).2.1 k ∈ cs → lp (m + 1) st = some st) (hb : ∀ (m : Nat) (st : St) (v : Nat), Bad st v → lp (m + 1) st = some st) : ∀ (F m k l : Nat) (D : Dn) (st : St), 400 ≤ F + k → F < m → RdM st n b o k l → (∃ j u, pl F k l D = .inl j ∧ lp m st = some u ∧ Bad u (plT n b j) ∧ FR S_rd st u) ∨ ∃ k' l' D' u, pl F k l D = .inr (k', l', D') ∧ lp m st = some u ∧ RdM u n b o k' l' ∧ FR S_rd st u := by
  intro F
  induction F with
  | zero =>
    intro m k l D st h4 hm r
    obtain ⟨m, rfl⟩ : ∃ j, m = j + 1 := ⟨m - 1, by omega⟩
    have hT := r.2.1
    have hk : (tkT n b).2.1 k = 0 := hT.2.1 k (by have := hT.1; omega)
    exact Or.inr ⟨k, l, D, st, h0 k l D, hx m k l st r (by rw [hk]; exact hz), r, FR.rf⟩
  | succ F ih =>
    intro m k l D st h4 hm r
    obtain ⟨m, rfl⟩ : ∃ j, m = j + 1 := ⟨m - 1, by omega⟩
    rw [h1]
    by_cases c : (tkT n b).2.1 k ∈ cs
    · rw [if_pos c]
      obtain ⟨u, e1, r1, f1⟩ := hy m k l st r c
      rw [e1]
      rcases hp.1 (k + 1) l u r1 with ⟨j, w, q1, q2, q3, q4⟩ | ⟨k', l', D', w, q1, q2, q3, q4⟩
      · refine Or.inl ⟨j, w, by rw [q1]; rfl, ?_, q3, f1.trans q4⟩
        obtain ⟨m, rfl⟩ : ∃ j, m = j + 1 := ⟨m - 1, by omega⟩
        rw [q2, Option.bind_some, hb m w _ q3]
      · have hmo' := hmo _ _ _ _ _ q1
        rw [q2, Option.bind_some]
        rcases ih m k' l' (J ((tkT n b).2.1 k) D D') w (by omega) (by omega) q3 with ⟨j, z, w1, w2, w3, w4⟩ | ⟨k2, l2, D2, z, w1, w2, w3, w4⟩
        · exact Or.inl ⟨j, z, by rw [q1]; exact w1, w2, w3, f1.trans (q4.trans w4)⟩
        · exact Or.inr ⟨k2, l2, D2, z, by rw [q1]; exact w1, w2, w3, f1.trans (q4.trans w4)⟩
    · rw [if_neg c]
      exact Or.inr ⟨k, l, D, st, rfl, hx m k l st r c, r, FR.rf⟩
/-- first one, then a loop -/
theorem thenR {p : Ps1} {fn : St → Option St} {lp : St → Option St} {pl : Nat → Nat → Dn → PR} (hp : RP n b o fn p) (hl : ∀ (k l : Nat) (D : Dn) (st : St), RdM st n b o k l → (∃ j u, pl k l D = .inl j ∧ lp st = some u ∧ Bad u (plT n b j) ∧ FR S_rd st u) ∨ ∃ k' l' D' u, pl k l D = .inr (k', l', D') ∧ lp st = some u ∧ RdM u n b o k' l' ∧ FR S_rd st u) (hb : ∀ (st : St) (v : Nat), Bad st v → lp st = some st) : RdP n b o (fun st => (fn st).bind (fun q => lp q)) (fun k l => rThen (p k l) pl) := by
  intro k l st r
  rcases hp.1 k l st r with ⟨j, w, q1, q2, q3, q4⟩ | ⟨k', l', D', w, q1, q2, q3, q4⟩
  · exact Or.inl ⟨j, w, by simp only [q1]; rfl, by simp only [q2, Option.bind_some]; exact hb w _ q3, q3, q4⟩
  · rcases hl k' l' D' w q3 with ⟨j, z, w1, w2, w3, w4⟩ | ⟨k2, l2, D2, z, w1, w2, w3, w4⟩
    · exact Or.inl ⟨j, z, by simp only [q1]; exact w1, by simp only [q2, Option.bind_some]; exact w2, w3, q4.trans w4⟩
    · exact Or.inr ⟨k2, l2, D2, z, by simp only [q1]; exact w1, by simp only [q2, Option.bind_some]; exact w2, w3, q4.trans w4⟩
theorem RdP.eq {fn fn' : St → Option St} {p p' : Ps1} (h : RdP n b o fn p) (h1 : ∀ st, fn' st = fn st) (h2 : ∀ k l, p' k l = p k l) : RdP n b o fn' p' := by
  intro k l st r
  rw [h1, h2]; exact h k l st r
theorem or3 {a c d e : Nat} : (a = c ∨ a = d ∨ a = e) ↔ a ∈ [c, d, e] := by simp
theorem takesY {st : St} {k l c : Nat} (r : RdM st n b o k l) (h : (tkT n b).2.1 k = c) (hc0 : c ≠ 0) (hc : c < 400) : fX8_takes0 (nI c) st = some (1, pI st 38 19 (nI (k + 1))) ∧ RdM (pI st 38 19 (nI (k + 1))) n b o (k + 1) l ∧ FR S_rd st (pI st 38 19 (nI (k + 1))) := by
  rcases rd_takes (c := c) r hc0 hc with ⟨t1, t2, t3⟩ | ⟨t1, t3⟩
  · exact ⟨t3, rd_next r t2⟩
  · exact absurd h t1
theorem takesN {st : St} {k l c : Nat} (r : RdM st n b o k l) (h : (tkT n b).2.1 k ≠ c) (hc0 : c ≠ 0) (hc : c < 400) : fX8_takes0 (nI c) st = some (0, st) := by
  rcases rd_takes (c := c) r hc0 hc with ⟨t1, t2, t3⟩ | ⟨t1, t3⟩
  · exact absurd t1 h
  · exact t3
theorem termR {rc : TG0} {d : Int32} {p : Ps1} (hp : RP n b o (rc.2.2.2.2.2 d) p) (hmo : Mo (tkT n b) Q0 p) : RP n b o (fX8_readTerm_g rc d) (rTerm (tkT n b) p) := by
  have s42 : fX8_sign (42 : Int32) = nI 142 := by decide
  have s47 : fX8_sign (47 : Int32) = nI 147 := by decide
  have s37 : fX8_sign (37 : Int32) = nI 137 := by decide
  have bad : ∀ (m : Nat) (st : St) (v : Nat), Bad st v → fX8_readTerm_b5 rc (m + 1) d st = some st := by
    intro m st v h
    rw [fX8_readTerm_b5, bad_takes h, Option.bind_some, if_pos rfl, bad_takes h, Option.bind_some, if_pos rfl, bad_takes h, Option.bind_some, if_pos rfl]
  refine ⟨?_, fun st v h => ?_⟩
  · refine RdP.eq (thenR hp (fun k l D st r => ?_) (fun st v h => bad 99999 st v h)) (fun st => rfl) (fun k l => rfl)
    refine loopR (pl := rTermL (tkT n b) p) (cs := [142, 147, 137]) (J := fun c D D' => dJn c D D') (lp := fun m st => fX8_readTerm_b5 rc m d st) hp hmo (fun _ _ _ => rfl) (fun F k l D => ?_) (by decide) (fun m k l st r hc => ?_) (fun m k l st r hc => ?_) bad 400 FU k l D st (by omega) (by unfold FU; omega) r
    · rw [rTermL]
      simp only [or3]
    · rw [fX8_readTerm_b5, s42, s47, s37]
      unfold fX8_readTerm_b41
      by_cases c1 : (tkT n b).2.1 k = 142
      · obtain ⟨t1, t2⟩ := takesY r c1 (by decide) (by decide)
        rw [t1, Option.bind_some, if_neg one0]; exact ⟨_, rfl, t2⟩
      · rw [takesN r c1 (by decide) (by decide), Option.bind_some, if_pos rfl]
        by_cases c2 : (tkT n b).2.1 k = 147
        · obtain ⟨t1, t2⟩ := takesY r c2 (by decide) (by decide)
          rw [t1, Option.bind_some, if_neg one0]; exact ⟨_, rfl, t2⟩
        · rw [takesN r c2 (by decide) (by decide), Option.bind_some, if_pos rfl]
          have c3 : (tkT n b).2.1 k = 137 := by simpa [c1, c2] using hc
          obtain ⟨t1, t2⟩ := takesY r c3 (by decide) (by decide)
          rw [t1, Option.bind_some, if_neg one0]; exact ⟨_, rfl, t2⟩
    · have hc' : (tkT n b).2.1 k ≠ 142 ∧ (tkT n b).2.1 k ≠ 147 ∧ (tkT n b).2.1 k ≠ 137 := by simpa using hc
      show fX8_readTerm_b5 rc (m + 1) d st = some st
      rw [fX8_readTerm_b5, s42, s47, s37, takesN r hc'.1 (by decide) (by decide), Option.bind_some, if_pos rfl, takesN r hc'.2.1 (by decide) (by decide), Option.bind_some, if_pos rfl, takesN r hc'.2.2 (by decide) (by decide), Option.bind_some, if_pos rfl]
  · unfold fX8_readTerm_g
    rw [hp.2 st v h, Option.bind_some]
    exact bad 99999 st v h
theorem sumR {rc : TG0} {d : Int32} {p : Ps1} (hp : RP n b o (rc.2.2.2.2.1 d) p) (hmo : Mo (tkT n b) Q0 p) : RP n b o (fX8_readSum_g rc d) (fun k l => rThen (p k l) (rSumL (tkT n b) p 400)) := by
  have s43 : fX8_sign (43 : Int32) = nI 143 := by decide
  have s45 : fX8_sign (45 : Int32) = nI 145 := by decide
  have bad : ∀ (m : Nat) (st : St) (v : Nat), Bad st v → fX8_readSum_b5 rc (m + 1) d st = some st := by
    intro m st v h
    rw [fX8_readSum_b5, bad_takes h, Option.bind_some, if_pos rfl, bad_takes h, Option.bind_some, if_pos rfl]
  refine ⟨?_, fun st v h => ?_⟩
  · refine RdP.eq (thenR hp (fun k l D st r => ?_) (fun st v h => bad 99999 st v h)) (fun st => rfl) (fun k l => rfl)
    refine loopR (pl := rSumL (tkT n b) p) (cs := [143, 145]) (J := fun c D D' => dJn c D D') (lp := fun m st => fX8_readSum_b5 rc m d st) hp hmo (fun _ _ _ => rfl) (fun F k l D => ?_) (by decide) (fun m k l st r hc => ?_) (fun m k l st r hc => ?_) bad 400 FU k l D st (by omega) (by unfold FU; omega) r
    · rw [rSumL]
      have : ((tkT n b).2.1 k = 143 ∨ (tkT n b).2.1 k = 145) ↔ (tkT n b).2.1 k ∈ [143, 145] := by simp
      simp only [this]
    · rw [fX8_readSum_b5, s43, s45]
      unfold fX8_readSum_b29
      by_cases c1 : (tkT n b).2.1 k = 143
      · obtain ⟨t1, t2⟩ := takesY r c1 (by decide) (by decide)
        rw [t1, Option.bind_some, if_neg one0]; exact ⟨_, rfl, t2⟩
      · rw [takesN r c1 (by decide) (by decide), Option.bind_some, if_pos rfl]
        have c3 : (tkT n b).2.1 k = 145 := by simpa [c1] using hc
        obtain ⟨t1, t2⟩ := takesY r c3 (by decide) (by decide)
        rw [t1, Option.bind_some, if_neg one0]; exact ⟨_, rfl, t2⟩
    · have hc' : (tkT n b).2.1 k ≠ 143 ∧ (tkT n b).2.1 k ≠ 145 := by simpa using hc
      show fX8_readSum_b5 rc (m + 1) d st = some st
      rw [fX8_readSum_b5, s43, s45, takesN r hc'.1 (by decide) (by decide), Option.bind_some, if_pos rfl, takesN r hc'.2 (by decide) (by decide), Option.bind_some, if_pos rfl]
  · unfold fX8_readSum_g
    rw [hp.2 st v h, Option.bind_some]
    exact bad 99999 st v h
theorem bothR {rc : TG0} {d : Int32} {p : Ps1} (hp : RP n b o (rc.2.2.1 d) p) (hmo : Mo (tkT n b) Q0 p) : RP n b o (fX8_readBoth_g rc d) (rBoth (tkT n b) p) := by
  have bad : ∀ (m : Nat) (st : St) (v : Nat), Bad st v → fX8_readBoth_b5 rc (m + 1) d st = some st := by
    intro m st v h
    rw [fX8_readBoth_b5, bad_takes h, Option.bind_some, if_pos rfl]
  refine ⟨?_, fun st v h => ?_⟩
  · refine RdP.eq (thenR hp (fun k l D st r => ?_) (fun st v h => bad 99999 st v h)) (fun st => rfl) (fun k l => rfl)
    refine loopR (pl := rBothL (tkT n b) p) (cs := [7]) (J := fun _ D D' => dAnd D D') (lp := fun m st => fX8_readBoth_b5 rc m d st) hp hmo (fun _ _ _ => rfl) (fun F k l D => ?_) (by decide) (fun m k l st r hc => ?_) (fun m k l st r hc => ?_) bad 400 FU k l D st (by omega) (by unfold FU; omega) r
    · rw [rBothL]
      have : ((tkT n b).2.1 k = 7) ↔ (tkT n b).2.1 k ∈ [7] := by simp
      simp only [this]
    · rw [fX8_readBoth_b5]
      have c3 : (tkT n b).2.1 k = 7 := by simpa using hc
      obtain ⟨t1, t2⟩ := takesY r c3 (by decide) (by decide)
      rw [show (7 : Int32) = nI 7 from rfl, t1, Option.bind_some, if_neg one0]; exact ⟨_, rfl, t2⟩
    · have hc' : (tkT n b).2.1 k ≠ 7 := by simpa using hc
      show fX8_readBoth_b5 rc (m + 1) d st = some st
      rw [fX8_readBoth_b5, show (7 : Int32) = nI 7 from rfl, takesN r hc' (by decide) (by decide), Option.bind_some, if_pos rfl]
  · unfold fX8_readBoth_g
    rw [hp.2 st v h, Option.bind_some]
    exact bad 99999 st v h
theorem testR {rc : TG0} {d : Int32} {p : Ps1} (hp : RP n b o (rc.2.1 d) p) (hmo : Mo (tkT n b) Q0 p) : RP n b o (fX8_readTest_g rc d) (fun k l => rThen (p k l) (rTestL (tkT n b) p 400)) := by
  have bad : ∀ (m : Nat) (st : St) (v : Nat), Bad st v → fX8_readTest_b5 rc (m + 1) d st = some st := by
    intro m st v h
    rw [fX8_readTest_b5, bad_takes h, Option.bind_some, if_pos rfl]
  refine ⟨?_, fun st v h => ?_⟩
  · refine RdP.eq (thenR hp (fun k l D st r => ?_) (fun st v h => bad 99999 st v h)) (fun st => rfl) (fun k l => rfl)
    refine loopR (pl := rTestL (tkT n b) p) (cs := [6]) (J := fun _ D D' => dOr D D') (lp := fun m st => fX8_readTest_b5 rc m d st) hp hmo (fun _ _ _ => rfl) (fun F k l D => ?_) (by decide) (fun m k l st r hc => ?_) (fun m k l st r hc => ?_) bad 400 FU k l D st (by omega) (by unfold FU; omega) r
    · rw [rTestL]
      have : ((tkT n b).2.1 k = 6) ↔ (tkT n b).2.1 k ∈ [6] := by simp
      simp only [this]
    · rw [fX8_readTest_b5]
      have c3 : (tkT n b).2.1 k = 6 := by simpa using hc
      obtain ⟨t1, t2⟩ := takesY r c3 (by decide) (by decide)
      rw [show (6 : Int32) = nI 6 from rfl, t1, Option.bind_some, if_neg one0]; exact ⟨_, rfl, t2⟩
    · have hc' : (tkT n b).2.1 k ≠ 6 := by simpa using hc
      show fX8_readTest_b5 rc (m + 1) d st = some st
      rw [fX8_readTest_b5, show (6 : Int32) = nI 6 from rfl, takesN r hc' (by decide) (by decide), Option.bind_some, if_pos rfl]
  · unfold fX8_readTest_g
    rw [hp.2 st v h, Option.bind_some]
    exact bad 99999 st v h
/-- a bracket: what is within, its end -/
theorem brackR {fn : St → Option St} {s : Ps1} {c : Nat} {W : Dn → Dn} (hn : n ≤ 400) (hp : RP n b o fn s) (hc0 : c ≠ 0) (hc : c < 400) {k l : Nat} {st : St} (r : RdM st n b o k l) : (∃ j u, rThen (s k l) (fun k' l' D => if (tkT n b).2.1 k' = c then .inr (k' + 1, l', W D) else .inl k') = .inl j ∧ ((fn st).bind (fun q2 => (fX8_must (nI c) q2).bind (fun q4 => some q4))) = some u ∧ Bad u (plT n b j) ∧ FR S_rd st u) ∨ ∃ k' l' D u, rThen (s k l) (fun k' l' D => if (tkT n b).2.1 k' = c then .inr (k' + 1, l', W D) else .inl k') = .inr (k', l', D) ∧ ((fn st).bind (fun q2 => (fX8_must (nI c) q2).bind (fun q4 => some q4))) = some u ∧ RdM u n b o k' l' ∧ FR S_rd st u := by
  rcases hp.1 k l st r with ⟨j, w, q1, q2, q3, q4⟩ | ⟨k', l', D', w, q1, q2, q3, q4⟩
  · refine Or.inl ⟨j, w, by rw [q1]; rfl, ?_, q3, q4⟩
    rw [q2, Option.bind_some, bad_must q3, Option.bind_some]
  · rw [q1, q2, Option.bind_some]
    unfold fX8_must
    show (∃ j u, (if (tkT n b).2.1 k' = c then .inr (k' + 1, l', W D') else .inl k' : PR) = .inl j ∧ _) ∨ ∃ k2 l2 D2 u, (if (tkT n b).2.1 k' = c then .inr (k' + 1, l', W D') else .inl k' : PR) = .inr (k2, l2, D2) ∧ _
    by_cases cc : (tkT n b).2.1 k' = c
    · obtain ⟨t1, t2, t3⟩ := takesY q3 cc hc0 hc
      rw [if_pos cc, t1, Option.bind_some, if_neg one0, Option.bind_some]
      exact Or.inr ⟨k' + 1, l', W D', _, rfl, rfl, t2, q4.trans t3⟩
    · obtain ⟨u, f1, f2, f3⟩ := rd_faults hn q3
      rw [if_neg cc, takesN q3 cc hc0 hc, Option.bind_some, if_pos rfl, f1, Option.bind_some]
      exact Or.inl ⟨k', u, rfl, rfl, f2, q4.trans f3⟩
theorem leafR {st : St} {k l : Nat} (hn : n ≤ 400) (r : RdM st n b o k l) (hk : k < (tkT n b).1) : (50 ≤ l ∧ ∃ u, fX8_leaf st = some u ∧ Bad u (plT n b k) ∧ FR S_rd st u ∧ sI u 38 10 = b2i o) ∨ (l < 50 ∧ ∃ u, fX8_leaf st = some u ∧ RdM u n b o (k + 1) (l + 1) ∧ FR S_rd st u) := by
  obtain ⟨m1, m2, m3, m4, m5, m6, m7, m8, m9, m10⟩ := r
  have r : RdM st n b o k l := ⟨m1, m2, m3, m4, m5, m6, m7, m8, m9, m10⟩
  have h400 := m2.1
  unfold fX8_leaf fX8_leaf_b13
  have he : (nI l = (50 : Int32)) = (l = 50) := n_eq (b := 50) (by omega) (by omega)
  rw [m5]
  simp only [he]
  by_cases c : l = 50
  · obtain ⟨u, f1, f2, f3⟩ := rd_faults hn r
    rw [if_pos c, f1, Option.bind_some]
    have f4 : FR S_rd st (pI u 38 20 (sI u 38 20 + 1)) := FR.pI (by rfl) f3
    have b4 : Bad (pI u 38 20 (sI u 38 20 + 1)) (plT n b k) := ⟨f2.1, by rw [sI_pI, if_neg (by omega)]; exact f2.2⟩
    rw [b4.f, if_pos rfl]
    exact Or.inl ⟨by omega, _, rfl, b4, f4, (f4.i (by rfl)).trans m8⟩
  · have f4 : FR S_rd st (pI st 38 20 (nI l + 1)) := FR.pI (by rfl) FR.rf
    have r4 : RdM (pI st 38 20 (nI (l + 1))) n b o k (l + 1) := by
      refine ⟨m1.fr (S := S_rd) (by rfl) (FR.pI (by rfl) FR.rf), m2, by rw [sI_pI, if_neg (by omega)]; exact m3, m4, by rw [sI_pI, if_pos ⟨rfl, rfl⟩], by omega, ?_, ?_, ?_, ?_⟩ <;> (rw [sI_pI, if_neg (by omega)]; assumption)
    rw [if_neg c, n_p1, r4.f, if_neg one0, r4.2.2.1, n_p1]
    exact Or.inr ⟨by omega, _, rfl, (rd_next r4 hk).1, (FR.pI (by rfl) FR.rf : FR S_rd st (pI st 38 20 (nI (l + 1)))).trans (rd_next r4 hk).2⟩
theorem numR {st : St} {k l lo hi : Nat} (hn : n ≤ 400) (r : RdM st n b o k l) (hlo : lo < 1000) (hhi : hi < 1000) : (¬ ((tkT n b).2.1 k = 50 ∧ lo ≤ (tkT n b).2.2 k ∧ (tkT n b).2.2 k ≤ hi) ∧ ∃ u, fX8_mustNumber (nI lo) (nI hi) st = some u ∧ Bad u (plT n b k) ∧ FR S_rd st u) ∨ (((tkT n b).2.1 k = 50 ∧ lo ≤ (tkT n b).2.2 k ∧ (tkT n b).2.2 k ≤ hi) ∧ ∃ u, fX8_mustNumber (nI lo) (nI hi) st = some u ∧ RdM u n b o (k + 1) l ∧ FR S_rd st u) := by
  obtain ⟨c1, c2, c3, c4⟩ := rd_code r
  have hT := r.2.1.2.2 k
  have no : ∃ u, fX8_mustNumber_b38 st = some u ∧ Bad u (plT n b k) ∧ FR S_rd st u := by
    obtain ⟨u, f1, f2, f3⟩ := rd_faults hn r
    refine ⟨u, ?_, f2, f3⟩
    unfold fX8_mustNumber_b38 fX8_mustNumber_b42
    rw [f1, Option.bind_some, f2.f, if_pos rfl]
  unfold fX8_mustNumber
  rw [r.f, if_neg one0, c1, chk_t, chk_t, c2, c3]
  have he : (nI ((tkT n b).2.1 k) = (50 : Int32)) = ((tkT n b).2.1 k = 50) := n_eq (b := 50) (by omega) (by omega)
  simp only [he]
  by_cases q : (tkT n b).2.1 k = 50
  · rw [if_pos q, n_lies (by omega) (by omega) (by omega)]
    by_cases q2 : lo ≤ (tkT n b).2.2 k ∧ (tkT n b).2.2 k ≤ hi
    · rw [if_pos q2, if_neg one0]
      refine Or.inr ⟨⟨q, q2⟩, ?_⟩
      have hk : k < (tkT n b).1 := in_T r.2.1 (by omega)
      unfold fX8_mustNumber_b42
      rw [r.f, if_neg one0, r.2.2.1, n_p1]
      exact ⟨_, rfl, rd_next r hk⟩
    · rw [if_neg q2, if_pos rfl]
      exact Or.inl ⟨fun h => q2 h.2, no⟩
  · rw [if_neg q]
    exact Or.inl ⟨fun h => q h.1, no⟩
end
