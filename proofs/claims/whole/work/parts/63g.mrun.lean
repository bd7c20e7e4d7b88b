/-! orders: the model runs them all -/
def As8 (st : St) (A0 : All) : Prop := (sI st 43 3 = nI (A0.1.1 0) ∧ sI st 43 4 = nI (A0.1.1 1) ∧ sI st 43 5 = nI (A0.1.1 2)) ∧ sI st 38 50 = nI A0.2.2.2.2.1.1 ∧ ∀ j, j < A0.2.2.2.2.1.1 → sI st 53 (4 * j) = nI (A0.2.2.2.2.1.2 j).1 ∧ sI st 53 (4 * j + 1) = nI (A0.2.2.2.2.1.2 j).2.1 ∧ sI st 53 (4 * j + 2) = nI (A0.2.2.2.2.1.2 j).2.2.1 ∧ sI st 53 (4 * j + 3) = nI (A0.2.2.2.2.1.2 j).2.2.2
theorem As8.fr {S : List (Nat × Option Nat)} {st u : St} {A0 : All} (e : (hasA S 43 || hasA S 53 || inS S 38 50) = false) (h : FR S st u) (m : As8 st A0) : As8 u A0 := by
  simp only [Bool.or_eq_false_iff] at e
  have h43 := fun j => h.i (j := j) (hasA_in e.1.1)
  have h53 := fun j => h.i (j := j) (hasA_in e.1.2)
  unfold As8 at m ⊢
  simp only [h43, h53, h.i e.2]; exact m
theorem TkO.fr {S : List (Nat × Option Nat)} {st u : St} {T : Tok} (e : ∀ j, 27 ≤ j → inS S 40 j = false) (h : FR S st u) (m : TkO st T) : TkO u T := fun k hk => ⟨(h.i (e _ (by omega))).trans (m k hk).1, (h.i (e _ (by omega))).trans (m k hk).2⟩
def MO (st : St) (T : Tok) (A0 : All) (s : Os) : Prop := MV st s.1 ∧ TkO st T ∧ sI st 38 27 = nI s.2.1 ∧ sI st 38 28 = s.2.2 ∧ As8 st A0
theorem LwOK.sm {A0 A : All} (h : Smo A0 A) (l : LwOK A0.1) : LwOK A.1 := by
  intro i hi
  rw [h.2.1 18 (by omega)] at hi
  rw [h.1]; exact l i hi
theorem one8 {A0 : All} {T : Tok} {s : Os} {c : Cls} {k l k' l' n m tt tm : Nat} {l3 : Int32} {st : St} (t : TkE T) (lo : LwOK A0.1) (ok : OkS A0 s n) (hn : n < 1000000) (mo : MO st T A0 s) (h47 : sI st 38 47 = nI (2400 + k)) (hc : rClause true T k l = .inr (k', l', c)) (htt : tt < tm) (htm : tm < 1000000) : match oneA c s with | none => ∃ u, fX8_runs_b19 (m + 1) (nI (2400 + T.1)) (nI tm) l3 (nI tt) st = some (0, u) ∧ As8 u A0 ∧ MV u s.1 | some s' => ∃ u, fX8_runs_b19 (m + 1) (nI (2400 + T.1)) (nI tm) l3 (nI tt) st = fX8_runs_b19 m (nI (2400 + T.1)) (nI tm) l3 (nI (tt + 1)) u ∧ MO u T A0 s' ∧ sI u 38 47 = nI (2400 + k) := by
  obtain ⟨m1, m2, m3, m4, m5⟩ := mo
  obtain ⟨u, u1, u2, u3, u4, u5, u6⟩ := along8 (dn := s.2.1) (ls := s.2.2) t ok.1 m1.2.1 m2 m3 m4 h47 hc true
  obtain ⟨q51, q53, q52⟩ := u6 rfl
  have hk4 := (cl_inv hc).2.1
  have mu : MV u s.1 := MV_x (by rfl) (by rfl) u2 m1
  have asu : As8 u A0 := m5.fr (by rfl) u2
  have tku : TkO u T := m2.fr (fun j hj => hasA_in (by rfl)) u2
  have r27 : sI u 38 27 = nI s.2.1 := (u2.i (by rfl)).trans m3
  have r28 : sI u 38 28 = s.2.2 := (u2.i (by rfl)).trans m4
  have r47 : sI u 38 47 = nI (2400 + k) := (u2.i (by rfl)).trans h47
  have ele : (nI tm ≤ nI tt) = (tm ≤ tt) := n_le (by omega) (by omega)
  rw [fX8_runs_b19]
  simp only [ele]
  rw [if_neg (by omega), show fX8_goesAlong (nI (2400 + T.1)) 1 st = _ from u1, Option.bind_some, q52]
  unfold fX8_runs_b67
  unfold oneA
  by_cases h1 : c.2.2.2 (oF s.1 s.2.1 s.2.2) = some 1
  · rw [decide_eq_true h1, if_neg (show ¬ b2i true = 0 by decide), q51, if_pos h1]
    cases hx : sumA c (oF s.1 s.2.1 s.2.2) with
    | none =>
      exact ⟨u, by rw [if_pos (show b2i (none : Option Int32).isSome = 0 from rfl)], asu, mu⟩
    | some a =>
      rw [if_neg (show ¬ b2i (some a).isSome = 0 from one0)]
      simp only []
      have ob := obeys8 (a := a) ok.1 (lo.sm ok.2.1) mu hk4 u5 (q53 a hx)
      cases hy : actA s.1 c.1 a with
      | none =>
        rw [hy] at ob
        obtain ⟨v, w, w1, w2, w3, w4⟩ := ob
        exact ⟨w, by rw [w1, Option.bind_some, if_neg (ge0 w2)], asu.fr (by rfl) w4, w3⟩
      | some z =>
        obtain ⟨v, A'⟩ := z
        rw [hy] at ob
        obtain ⟨w, w1, w2, w3, w4⟩ := ob
        obtain ⟨k1, k2, k3⟩ := act_sm ok.1 hk4 hy
        have r27' : sI w 38 27 = nI s.2.1 := (w4.i (by rfl)).trans r27
        have ff : FR [(38, some 27)] w (pI w 38 27 (nI (s.2.1 + 1))) := FR.pI (by rfl) FR.rf
        refine ⟨pI w 38 27 (nI (s.2.1 + 1)), ?_, ⟨MV_x (by rfl) (by rfl) ff w2, ?_, by rw [sI_pI, if_pos ⟨rfl, rfl⟩], ?_, (asu.fr (by rfl) w4).fr (by rfl) ff⟩, ?_⟩
        · rw [w1, Option.bind_some, if_pos (n_ge0 k3), r27', n_p1, n_p1]
        · exact (tku.fr (fun j hj => by simp [inS, inA]; omega) w4).fr (fun j hj => hasA_in (by rfl)) ff
        · show sI (pI w 38 27 (nI (s.2.1 + 1))) 38 28 = if c.1 = 0 then nI v else s.2.2
          rw [ff.i (by rfl), w3, r28]
        · rw [ff.i (by rfl), w4.i (by rfl)]; exact r47
  · rw [decide_eq_false h1, if_pos (show b2i false = 0 from rfl), if_neg h1]
    exact ⟨u, by rw [n_p1], ⟨mu, tku, r27, r28, asu⟩, r47⟩
theorem tim8 {A0 : All} {T : Tok} {c : Cls} {k l k' l' tm : Nat} {l3 : Int32} (t : TkE T) (lo : LwOK A0.1) (hc : rClause true T k l = .inr (k', l', c)) (htm : tm < 1000) : ∀ (r tt m n : Nat) (s : Os) (st : St), tt + r = tm → r < m → OkS A0 s n → n + r < 1000000 → MO st T A0 s → sI st 38 47 = nI (2400 + k) → match timA c r s with | none => ∃ u s2, fX8_runs_b19 m (nI (2400 + T.1)) (nI tm) l3 (nI tt) st = some (0, u) ∧ As8 u A0 ∧ MV u s2 ∧ Smo A0 s2 | some s' => ∃ u, fX8_runs_b19 m (nI (2400 + T.1)) (nI tm) l3 (nI tt) st = some (1, pI u 38 47 l3) ∧ MO u T A0 s' ∧ OkS A0 s' (n + r) := by
  have hk4 := (cl_inv hc).2.1
  intro r
  induction r with
  | zero =>
    intro tt m n s st h1 h2 ok hn mo h47
    obtain ⟨m, rfl⟩ : ∃ j, m = j + 1 := ⟨m - 1, by omega⟩
    have ele : (nI tm ≤ nI tt) = (tm ≤ tt) := n_le (by omega) (by omega)
    refine ⟨st, ?_, mo, ok⟩
    rw [fX8_runs_b19]
    simp only [ele]
    rw [if_pos (by omega)]
  | succ r ih =>
    intro tt m n s st h1 h2 ok hn mo h47
    obtain ⟨m, rfl⟩ : ∃ j, m = j + 1 := ⟨m - 1, by omega⟩
    have := one8 (m := m) (tt := tt) (tm := tm) (l3 := l3) t lo ok (by omega) mo h47 hc (by omega) (by omega)
    rw [timA]
    cases ho : oneA c s with
    | none =>
      rw [ho] at this
      obtain ⟨u, u1, u2, u3⟩ := this
      exact ⟨u, s.1, u1, u2, u3, ok.2.1⟩
    | some s' =>
      rw [ho] at this
      obtain ⟨u, u1, u2, u3⟩ := this
      have ok' := one_ok hk4 ok ho
      have k := ih (tt + 1) m (n + 1) s' u (by omega) (by omega) ok' (by omega) u2 u3
      simp only []
      cases hx : timA c r s' with
      | none =>
        rw [hx] at k
        obtain ⟨v, s2, v1, v2, v3, v4⟩ := k
        exact ⟨v, s2, u1.trans v1, v2, v3, v4⟩
      | some s2 =>
        rw [hx] at k
        obtain ⟨v, v1, v2, v3⟩ := k
        exact ⟨v, u1.trans v1, v2, by rw [show n + (r + 1) = n + 1 + r by omega]; exact v3⟩
theorem runs8 {A0 : All} {T : Tok} {c : Cls} {k l k' l' n : Nat} {s : Os} {st : St} (t : TkE T) (lo : LwOK A0.1) (hc : rClause true T k l = .inr (k', l', c)) (ok : OkS A0 s n) (hn : n < 900000) (mo : MO st T A0 s) (h47 : sI st 38 47 = nI (2400 + k)) : match timA c c.2.1 s with | none => ∃ u s2, fX8_runs (nI (2400 + T.1)) st = some (0, u) ∧ As8 u A0 ∧ MV u s2 ∧ Smo A0 s2 | some s' => ∃ u, fX8_runs (nI (2400 + T.1)) st = some (1, u) ∧ MO u T A0 s' ∧ sI u 38 47 = nI (2400 + (k' + 1)) ∧ OkS A0 s' (n + 20) := by
  obtain ⟨m1, m2, m3, m4, m5⟩ := mo
  obtain ⟨u, u1, u2, u3, u4, u5, _⟩ := along8 (dn := s.2.1) (ls := s.2.2) t ok.1 m1.2.1 m2 m3 m4 h47 hc false
  obtain ⟨hk0, hk4, k1, l1, k2, hs, ht, hi⟩ := cl_inv hc
  have hkT : k < T.1 := in_T t (by omega)
  have htm := (tms_in t (sum_in t hkT hs).1 ht).2
  have mou : MO u T A0 s := ⟨MV_x (by rfl) (by rfl) u2 m1, m2.fr (fun j hj => hasA_in (by rfl)) u2, (u2.i (by rfl)).trans m3, (u2.i (by rfl)).trans m4, m5.fr (by rfl) u2⟩
  have e0 : fX8_runs (nI (2400 + T.1)) st = fX8_runs_b19 FU (nI (2400 + T.1)) (nI c.2.1) (nI (2400 + (k' + 1))) (nI 0) u := by
    unfold fX8_runs
    rw [show fX8_goesAlong (nI (2400 + T.1)) 0 st = _ from u1, Option.bind_some, u4, u3]
    rfl
  have := tim8 (l3 := nI (2400 + (k' + 1))) (tm := c.2.1) t lo hc (by omega) c.2.1 0 FU n s u (by omega) (by unfold FU; omega) ok (by omega) mou ((u2.i (by rfl)).trans h47)
  cases hx : timA c c.2.1 s with
  | none =>
    rw [hx] at this
    obtain ⟨v, s2, v1, v2, v3, v4⟩ := this
    exact ⟨v, s2, e0.trans v1, v2, v3, v4⟩
  | some s' =>
    rw [hx] at this
    obtain ⟨v, v1, v2, v3⟩ := this
    have ff : FR [(38, some 47)] v (pI v 38 47 (nI (2400 + (k' + 1)))) := FR.pI (by rfl) FR.rf
    obtain ⟨w1, w2, w3, w4, w5⟩ := v2
    exact ⟨_, e0.trans v1, ⟨MV_x (by rfl) (by rfl) ff w1, w2.fr (fun j hj => hasA_in (by rfl)) ff, (ff.i (by rfl)).trans w3, (ff.i (by rfl)).trans w4, w5.fr (by rfl) ff⟩, by rw [sI_pI, if_pos ⟨rfl, rfl⟩], v3.le (by omega)⟩
theorem loop8 {A0 : All} {T : Tok} (t : TkE T) (lo : LwOK A0.1) : ∀ (R : List Cls) (F k l i m : Nat) (s : Os) (st : St), (R = [] ∧ T.1 ≤ k ∧ k ≤ T.1 + 1 ∨ rAll true T F k l = .inr R) → F + i ≤ 12 → F < m → OkS A0 s (20 * i) → MO st T A0 s → sI st 38 47 = nI (2400 + k) → match allA R i s with | .inl j => ∃ u s2, fX8_orders_b62 m (nI (2400 + T.1)) (nI i) st = (fX8_takesAllBack u).bind (fun q5 => fX8_refuses (-3 : Int32) (pI q5 38 46 (nI j))) ∧ As8 u A0 ∧ MV u s2 ∧ Smo A0 s2 | .inr s' => ∃ u, fX8_orders_b62 m (nI (2400 + T.1)) (nI i) st = fX8_good (nI s'.2.1) u ∧ MV u s'.1 := by
  have t4 := t.1
  intro R
  induction R with
  | nil =>
    intro F k l i m s st h hF hm ok mo h47
    have hk : T.1 ≤ k ∧ k ≤ T.1 + 1 := by
      rcases h with h | h
      · exact h.2
      · cases F with
        | zero => rw [rAll] at h; cases h
        | succ F =>
          rw [rAll] at h
          cases h1 : rClause true T k l with
          | inl j => rw [h1] at h; cases h
          | inr z =>
            obtain ⟨k1, l1, c⟩ := z
            rw [h1] at h
            simp only [] at h
            split at h
            · cases h2 : rAll true T F (k1 + 1) l1 with
              | inl j => rw [h2] at h; cases h
              | inr L => rw [h2] at h; cases h
            · split at h <;> cases h
    obtain ⟨m, rfl⟩ : ∃ j, m = j + 1 := ⟨m - 1, by omega⟩
    refine ⟨st, ?_, mo.1⟩
    have ele : (nI (2400 + T.1) ≤ nI (2400 + k)) = (2400 + T.1 ≤ 2400 + k) := n_le (by omega) (by omega)
    rw [fX8_orders_b62, h47]
    simp only [ele]
    rw [if_pos (by omega), mo.2.2.1]
  | cons c R ih =>
    intro F k l i m s st h hF hm ok mo h47
    rcases h with h | h
    · cases h.1
    · cases F with
      | zero => rw [rAll] at h; cases h
      | succ F =>
        obtain ⟨m, rfl⟩ : ∃ j, m = j + 1 := ⟨m - 1, by omega⟩
        rw [rAll] at h
        cases h1 : rClause true T k l with
        | inl j => rw [h1] at h; cases h
        | inr z =>
          obtain ⟨k1, l1, c'⟩ := z
          rw [h1] at h
          simp only [] at h
          have hkT : k < T.1 := in_T t (by have := (cl_inv h1).1; omega)
          have nxt : c' = c ∧ (R = [] ∧ T.1 ≤ k1 + 1 ∧ k1 + 1 ≤ T.1 + 1 ∨ rAll true T F (k1 + 1) l1 = .inr R) := by
            split at h
            · cases h2 : rAll true T F (k1 + 1) l1 with
              | inl j => rw [h2] at h; cases h
              | inr L' =>
                rw [h2] at h
                have e := Sum.inr.inj h
                injection e with e1 e2
                subst e2
                exact ⟨e1, Or.inr rfl⟩
            · split at h
              · rename_i q
                have e := Sum.inr.inj h
                injection e with e1 e2
                refine ⟨e1, Or.inl ⟨e2.symm, by omega, ?_⟩⟩
                obtain ⟨hk0, hk4, k9, l9, k2, hs, ht, hi⟩ := cl_inv h1
                have hk2 := (tms_in t (sum_in t hkT hs).1 ht).1
                unfold rIf at hi
                by_cases q5 : T.2.1 k2 = 5
                · rw [if_pos q5] at hi
                  have := (test8 (base := 0) (o := true) (f := fun _ => 0) t).1 _ _ _ _ _ hi
                  omega
                · rw [if_neg q5] at hi
                  obtain ⟨e1, e2⟩ := Prod.mk.inj (Sum.inr.inj hi)
                  omega
              · cases h
          obtain ⟨rfl, hn⟩ := nxt
          have ele : (nI (2400 + T.1) ≤ nI (2400 + k)) = (2400 + T.1 ≤ 2400 + k) := n_le (by omega) (by omega)
          rw [fX8_orders_b62, h47]
          simp only [ele]
          rw [if_neg (by omega), allA]
          have r := runs8 t lo h1 ok (by omega) mo h47
          cases hx : timA c' c'.2.1 s with
          | none =>
            rw [hx] at r
            obtain ⟨u, s2, u1, u2, u3, u4⟩ := r
            refine ⟨u, s2, ?_, u2, u3, u4⟩
            rw [u1, Option.bind_some, if_pos (show (0 : Int32) = 0 from rfl)]
          | some s' =>
            rw [hx] at r
            obtain ⟨u, u1, u2, u3, u4⟩ := r
            rw [u1, Option.bind_some, if_neg (show ¬ (1 : Int32) = 0 by decide), n_p1]
            simp only []
            exact ih F (k1 + 1) l1 (i + 1) m s' u hn (by omega) (by omega) (u4.le (by omega)) u2 u3
