/-! orders: what one of them does -/
def oF (A : All) (dn : Nat) (ls : Int32) : Nat → Int32 := fun i => if i = 0 then nI (A.1.1 2) else if i = 1 then nI dn else if i = 2 then ls else if i = 3 then nI (pc (A.1.1 0)) else if i = 4 then nI (A.1.1 1) else if i < 11 then (if i - 5 < A.1.1 16 then nI (bit (A.1.1 0) (i - 5)) else -1) else (if i - 11 < A.1.1 16 then nI (A.1.1 (3 + (i - 11))) else -1)
theorem oF5 {A : All} {dn k : Nat} {ls : Int32} (h : k < 6) : oF A dn ls (5 + k) = if k < A.1.1 16 then nI (bit (A.1.1 0) k) else -1 := by
  unfold oF
  rw [if_neg (by omega), if_neg (by omega), if_neg (by omega), if_neg (by omega), if_neg (by omega), if_pos (by omega), show 5 + k - 5 = k by omega]
theorem oF11 {A : All} {dn k : Nat} {ls : Int32} (h : k < 6) : oF A dn ls (11 + k) = if k < A.1.1 16 then nI (A.1.1 (3 + k)) else -1 := by
  unfold oF
  rw [if_neg (by omega), if_neg (by omega), if_neg (by omega), if_neg (by omega), if_neg (by omega), if_neg (by omega), show 11 + k - 11 = k by omega]
theorem m1_min : (-1 : Int32) ≠ BRK := by decide
theorem bit_l1 (b k : Nat) : bit b k ≤ 1 := by unfold bit; omega
theorem oF_ne {A : All} {dn : Nat} {ls : Int32} (g : Gd A) (hd : dn < 2147483648) (hl : ls ≠ BRK) : ∀ w, w < 17 → oF A dn ls w ≠ BRK := by
  intro w hw
  have g1 := g.1.2.2.2.1
  have g2 := g.1.2.2.2.2.1
  unfold oF
  by_cases c0 : w = 0
  · rw [if_pos c0]; exact n_min (by omega)
  · by_cases c1 : w = 1
    · rw [if_neg c0, if_pos c1]; exact n_min hd
    · by_cases c2 : w = 2
      · rw [if_neg c0, if_neg c1, if_pos c2]; exact hl
      · by_cases c3 : w = 3
        · rw [if_neg c0, if_neg c1, if_neg c2, if_pos c3]; exact n_min pc_lt
        · by_cases c4 : w = 4
          · rw [if_neg c0, if_neg c1, if_neg c2, if_neg c3, if_pos c4]; exact n_min (by omega)
          · rw [if_neg c0, if_neg c1, if_neg c2, if_neg c3, if_neg c4]
            by_cases c5 : w < 11
            · rw [if_pos c5]
              by_cases c6 : w - 5 < A.1.1 16
              · rw [if_pos c6]; exact n_min (by have := bit_l1 (A.1.1 0) (w - 5); omega)
              · rw [if_neg c6]; exact m1_min
            · rw [if_neg c5]
              by_cases c6 : w - 11 < A.1.1 16
              · rw [if_pos c6]; exact n_min (by have := g.1.2.2.2.2.2.2.2.2.2.1 (w - 11) (by omega); omega)
              · rw [if_neg c6]; exact m1_min
def actN (A : All) (kd q : Nat) : Option (Nat × All) := if kd = 0 then (if q < A.1.1 17 ∧ 2 ≤ pc (A.1.1 0) then some (tellX A.1 q 0, syA A q) else none) else if kd = 3 then (if A.1.1 2 < 999 then some (A.1.1 2 + 1, pssA A) else none) else (if q < A.1.1 16 ∧ bit (A.1.1 0) q = kd - 1 then some (pc (mvB (A.1.1 0) q), mvA A kd q) else none)
def actA (A : All) (kd : Nat) (a : Int32) : Option (Nat × All) := actN A kd (if a < 0 then 1000000 else a.toNatClampNeg)
theorem act_n {A : All} {kd k : Nat} (h : k < 2147483648) : actA A kd (nI k) = actN A kd k := by
  unfold actA
  rw [if_neg (fun e => by rw [n_neg h] at e; exact e), n_toNat h]
theorem act_out {A : All} {kd : Nat} {a : Int32} (g : Gd A) (hk : kd < 3) (h : out a (if kd = 0 then A.1.1 17 else A.1.1 16)) : actA A kd a = none := by
  have g17 := g.1.2.2.1
  have g16 := g.1.1
  have hn : ∀ q, (if kd = 0 then A.1.1 17 else A.1.1 16) ≤ q → actN A kd q = none := by
    intro q hq
    unfold actN
    by_cases c : kd = 0
    · rw [if_pos c] at hq; rw [if_pos c, if_neg (by omega)]
    · rw [if_neg c] at hq; rw [if_neg c, if_neg (by omega), if_neg (by omega)]
  rcases h with h | ⟨k, h1, h2, rfl⟩
  · unfold actA; rw [if_pos h]; exact hn _ (by split <;> omega)
  · rw [act_n h1]; exact hn k h2
def Smo (A0 A : All) : Prop := A.1.2 = A0.1.2 ∧ (∀ k, 3 ≤ k → A.1.1 k = A0.1.1 k) ∧ A.2.1 = A0.2.1 ∧ A.2.2.1 = A0.2.2.1 ∧ A.2.2.2.1 = A0.2.2.2.1 ∧ A.2.2.2.2.2 = A0.2.2.2.2.2
theorem Smo.rf {A : All} : Smo A A := ⟨rfl, fun _ _ => rfl, rfl, rfl, rfl, rfl⟩
theorem Smo.tr {A B C : All} (h : Smo A B) (h' : Smo B C) : Smo A C := ⟨h'.1.trans h.1, fun k hk => (h'.2.1 k hk).trans (h.2.1 k hk), h'.2.2.1.trans h.2.2.1, h'.2.2.2.1.trans h.2.2.2.1, h'.2.2.2.2.1.trans h.2.2.2.2.1, h'.2.2.2.2.2.trans h.2.2.2.2.2⟩
theorem act_sm {A A' : All} {kd v : Nat} {a : Int32} (g : Gd A) (hk : kd < 4) (h : actA A kd a = some (v, A')) : Gd A' ∧ Smo A A' ∧ v < 2147483648 := by
  unfold actA at h
  generalize (if a < 0 then 1000000 else a.toNatClampNeg) = q0 at h
  unfold actN at h
  have g2 := g.1.2.2.2.1
  by_cases c : kd = 0
  · rw [if_pos c] at h
    split at h
    · rename_i q
      have e := Prod.mk.inj (Option.some.inj h)
      obtain ⟨rfl, rfl⟩ := e
      refine ⟨Gd_sy g, ⟨rfl, fun k hk => ?_, rfl, rfl, rfl, rfl⟩, ?_⟩
      · show (sayX A.1 _ 0).1 k = A.1.1 k
        unfold sayX
        rw [upR_1, if_neg (by omega), upR_1, if_neg (by omega)]
      · have := tell_b (r := q0) (less := 0) g.1 (pc2 _ (b_lt64 g.1) q.2)
        omega
    · cases h
  · by_cases d : kd = 3
    · rw [if_neg c, if_pos d] at h
      split at h
      · rename_i q
        obtain ⟨rfl, rfl⟩ := Prod.mk.inj (Option.some.inj h)
        refine ⟨Gd_pss g q, ⟨rfl, fun k hk => ?_, rfl, rfl, rfl, rfl⟩, by omega⟩
        show (psX A.1 _ 0 _).1 k = A.1.1 k
        unfold psX
        simp only [upR_1]
        rw [if_neg (by omega), if_neg (by omega), if_neg (by omega)]
      · cases h
    · rw [if_neg c, if_neg d] at h
      split at h
      · rename_i q
        obtain ⟨rfl, rfl⟩ := Prod.mk.inj (Option.some.inj h)
        refine ⟨Gd_mv g hk q.1, ⟨rfl, fun k hk => ?_, rfl, rfl, rfl, rfl⟩, pc_lt⟩
        show (upR A.1 0 _).1 k = A.1.1 k
        rw [upR_1, if_neg (by omega)]
      · cases h
/-- one act, by the class -/
def actC (kd : Nat) (a : Int32) (st : St) : Option (Int32 × St) := if kd = 0 then fX7_performSaying a st else if kd = 3 then fX7_performRound st else fX7_performMove (nI kd) a st
def AC (st : St) (S : List (Nat × Option Nat)) (V : St → All → Prop) (z : Option (Nat × All)) (w : Option (Int32 × St)) : Prop := match z with | none => ∃ v, w = some (v, st) ∧ v < 0 | some (v, A') => ∃ u, w = some (nI v, u) ∧ V u A' ∧ FR S st u
theorem act_c {st : St} {A : All} {kd : Nat} {a : Int32} (g : Gd A) (c : CV st A) (hk : kd < 4) : AC st S_cs CV (actA A kd a) (actC kd a st) := by
  have g17 := g.1.2.2.1
  have g16 := g.1.1
  have g2 := g.1.2.2.2.1
  unfold actC
  by_cases c0 : kd = 0
  · subst c0
    rw [if_pos rfl]
    rcases n_in a (A.1.1 17) (by omega) with ⟨r, hr, rfl⟩ | h
    · rw [act_n (by omega)]
      unfold actN
      rw [if_pos rfl]
      by_cases h2 : 2 ≤ pc (A.1.1 0)
      · rw [if_pos ⟨hr, h2⟩]
        exact c_say_do g c hr h2
      · rw [if_neg (fun e => h2 e.2)]
        exact ⟨-3, c_say_no g c hr h2, by decide⟩
    · rw [act_out (kd := 0) g (by omega) (by rw [if_pos rfl]; exact h)]
      exact ⟨-2, c_say_out g c h, by decide⟩
  · by_cases c3 : kd = 3
    · subst c3
      rw [if_neg c0, if_pos rfl]
      unfold actA actN
      rw [if_neg c0, if_pos rfl]
      by_cases h : A.1.1 2 < 999
      · rw [if_pos h]
        obtain ⟨u, u1, u2, u3⟩ := c_pass_do g c h
        exact ⟨u, u1, u2, FR.mono (by rfl) u3⟩
      · rw [if_neg h]
        exact ⟨-3, c_pass_no g c (by omega), by decide⟩
    · rw [if_neg c0, if_neg c3]
      rcases n_in a (A.1.1 16) (by omega) with ⟨r, hr, rfl⟩ | h
      · rw [act_n (by omega)]
        unfold actN
        rw [if_neg c0, if_neg c3]
        have hb := bit_l1 (A.1.1 0) r
        by_cases h2 : bit (A.1.1 0) r = kd - 1
        · rw [if_pos ⟨hr, h2⟩]
          obtain ⟨u, u1, u2, u3⟩ := c_move_do (k := r) (kd := kd) g c hr (by omega)
          exact ⟨u, u1, u2, FR.mono (by rfl) u3⟩
        · rw [if_neg (fun e => h2 e.2)]
          exact ⟨-3, c_move_no g c hr (by omega), by decide⟩
      · rw [act_out g (by omega) (by rw [if_neg c0]; exact h)]
        exact ⟨-2, c_move_out g c h, by decide⟩
/-- one act, by the model -/
def actM (kd : Nat) (a : Int32) (st : St) : Option (Int32 × St) := if kd = 0 then fX8_saysKept a st else if kd = 3 then fX8_passesKept st else if kd = 1 then fX8_joinsKept a st else fX8_leavesKept a st
abbrev S_am : List (Nat × Option Nat) := [(38, some 32), (52, none), (38, some 22), (38, some 23), (38, some 24), (38, some 25), (50, none), (51, none), (40, some 0), (40, some 1), (40, some 2)]
theorem act_m {st : St} {A : All} {kd : Nat} {a : Int32} (g : Gd A) (lo : LwOK A.1) (m : MV st A) (hk : kd < 4) : AC st S_am MV (actA A kd a) (actM kd a st) := by
  have g17 := g.1.2.2.1
  have g16 := g.1.1
  have g2 := g.1.2.2.2.1
  unfold actM
  by_cases c0 : kd = 0
  · subst c0
    rw [if_pos rfl]
    rcases n_in a (A.1.1 17) (by omega) with ⟨r, hr, rfl⟩ | h
    · rw [act_n (by omega)]
      unfold actN
      rw [if_pos rfl]
      by_cases h2 : 2 ≤ pc (A.1.1 0)
      · rw [if_pos ⟨hr, h2⟩]
        obtain ⟨u, u1, u2, u3⟩ := m_say_do g lo m hr h2
        exact ⟨u, u1, u2, FR.mono (by rfl) u3⟩
      · rw [if_neg (fun e => h2 e.2)]
        exact ⟨-3, m_say_no g m hr h2, by decide⟩
    · rw [act_out (kd := 0) g (by omega) (by rw [if_pos rfl]; exact h)]
      exact ⟨-2, m_say_out g m h, by decide⟩
  · by_cases c3 : kd = 3
    · subst c3
      rw [if_neg c0, if_pos rfl]
      unfold actA actN
      rw [if_neg c0, if_pos rfl]
      by_cases h : A.1.1 2 < 999
      · rw [if_pos h]
        obtain ⟨u, u1, u2, u3⟩ := m_pass_do g m h
        exact ⟨u, u1, u2, FR.mono (by rfl) (mX8_passesKept u1)⟩
      · rw [if_neg h]
        exact ⟨-3, m_pass_no g m (by omega), by decide⟩
    · rw [if_neg c0, if_neg c3]
      rcases n_in a (A.1.1 16) (by omega) with ⟨r, hr, rfl⟩ | h
      · rw [act_n (by omega)]
        unfold actN
        rw [if_neg c0, if_neg c3]
        have hb := bit_l1 (A.1.1 0) r
        by_cases h2 : bit (A.1.1 0) r = kd - 1
        · rw [if_pos ⟨hr, h2⟩]
          by_cases c1 : kd = 1
          · subst c1
            rw [if_pos rfl]
            obtain ⟨u, u1, u2, u3⟩ := m_join_do g m hr h2
            exact ⟨u, u1, u2, FR.mono (by rfl) (mX8_joinsKept u1)⟩
          · obtain rfl : kd = 2 := by omega
            rw [if_neg c1]
            obtain ⟨u, u1, u2, u3⟩ := m_leave_do g m hr h2
            exact ⟨u, u1, u2, FR.mono (by rfl) (mX8_leavesKept u1)⟩
        · rw [if_neg (fun e => h2 e.2)]
          by_cases c1 : kd = 1
          · rw [if_pos c1]
            exact ⟨-3, m_join_no g m hr (by omega), by decide⟩
          · rw [if_neg c1]
            exact ⟨-3, m_leave_no g m hr (by omega), by decide⟩
      · rw [act_out g (by omega) (by rw [if_neg c0]; exact h)]
        by_cases c1 : kd = 1
        · rw [if_pos c1]; exact ⟨-2, m_join_out g m h, by decide⟩
        · rw [if_neg c1]; exact ⟨-2, m_leave_out g m h, by decide⟩
/-- what an order, a row of orders does -/
abbrev Os : Type := All × Nat × Int32
def sumA (c : Cls) (f : Nat → Int32) : Option Int32 := if c.1 = 3 then some 0 else c.2.2.1 f
def oneA (c : Cls) (s : Os) : Option Os := if c.2.2.2 (oF s.1 s.2.1 s.2.2) = some 1 then (match sumA c (oF s.1 s.2.1 s.2.2) with | none => none | some a => match actA s.1 c.1 a with | none => none | some (v, A') => some (A', s.2.1 + 1, if c.1 = 0 then nI v else s.2.2)) else some s
def timA (c : Cls) : Nat → Os → Option Os
  | 0, s => some s
  | t + 1, s => match oneA c s with | none => none | some s' => timA c t s'
def allA : List Cls → Nat → Os → Nat ⊕ Os
  | [], _, s => .inr s
  | c :: L, i, s => match timA c c.2.1 s with | none => .inl i | some s' => allA L (i + 1) s'
def OkS (A0 : All) (s : Os) (n : Nat) : Prop := Gd s.1 ∧ Smo A0 s.1 ∧ s.2.1 ≤ n ∧ s.2.2 ≠ BRK
theorem one_ok {A0 : All} {s s' : Os} {c : Cls} {n : Nat} (hc : c.1 < 4) (h : OkS A0 s n) (e : oneA c s = some s') : OkS A0 s' (n + 1) := by
  unfold oneA at e
  obtain ⟨h1, h2, h3, h4⟩ := h
  split at e
  · cases hx : sumA c (oF s.1 s.2.1 s.2.2) with
    | none => rw [hx] at e; cases e
    | some a =>
      rw [hx] at e
      simp only [] at e
      cases hy : actA s.1 c.1 a with
      | none => rw [hy] at e; cases e
      | some z =>
        obtain ⟨v, A'⟩ := z
        rw [hy] at e
        have e' := Option.some.inj e
        subst e'
        obtain ⟨k1, k2, k3⟩ := act_sm h1 hc hy
        refine ⟨k1, h2.tr k2, by show s.2.1 + 1 ≤ n + 1; omega, ?_⟩
        show (if c.1 = 0 then nI v else s.2.2) ≠ BRK
        by_cases q : c.1 = 0
        · rw [if_pos q]; exact n_min k3
        · rw [if_neg q]; exact h4
  · have e' := Option.some.inj e
    subst e'
    exact ⟨h1, h2, by omega, h4⟩
