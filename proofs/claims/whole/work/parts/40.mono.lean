/-! reading goes on, and stays within the tokens -/
def NmD (nf : Nat) (D : Dn) : Prop := ∀ f : Nat → Int32, (∀ w, w < nf → f w ≠ BRK) → D f ≠ some BRK
def nfo (o : Bool) : Nat := if o = true then 17 else 7
def Mo (T : Tok) (Q : Dn → Prop) (p : Ps1) : Prop := ∀ k l k' l' D, p k l = .inr (k', l', D) → k < k' ∧ k' ≤ T.1 ∧ Q D
theorem then_inr {r : PR} {g : Nat → Nat → Dn → PR} {z : Nat × Nat × Dn} (h : rThen r g = .inr z) : ∃ k l D, r = .inr (k, l, D) ∧ g k l D = .inr z := by
  cases r with
  | inl j => unfold rThen at h; cases h
  | inr y => obtain ⟨k, l, D⟩ := y; exact ⟨k, l, D, rfl, h⟩
theorem inr3 {k l k' l' : Nat} {D E : Dn} (h : (.inr (k, l, D) : PR) = .inr (k', l', E)) : k = k' ∧ l = l' ∧ D = E := by
  have := Sum.inr.inj h
  exact ⟨(Prod.mk.inj this).1, (Prod.mk.inj (Prod.mk.inj this).2).1, (Prod.mk.inj (Prod.mk.inj this).2).2⟩
theorem in_T {T : Tok} (t : TkE T) {k : Nat} (h : T.2.1 k ≠ 0) : k < T.1 := by
  by_cases c : k < T.1
  · exact c
  · exact absurd (t.2.1 k (by omega)) h
theorem wL_lt {c : Nat} : wL c < 7 := by unfold wL; split <;> omega
theorem wO_lt {c : Nat} : wO c ≤ 11 := by unfold wO; split <;> omega
theorem wO_5 {c : Nat} (h : c ≠ 13 ∧ c ≠ 19) (h1 : 13 ≤ c ∧ c ≤ 19) : wO c < 5 := by
  have : c = 14 ∨ c = 15 ∨ c = 16 ∨ c = 17 ∨ c = 18 := by omega
  rcases this with rfl | rfl | rfl | rfl | rfl <;> decide
theorem nm_num {nf v : Nat} (h : v ≤ 1000) : NmD nf (dNum (nI v)) := fun f hf e => n_min (by omega) (Option.some.inj e)
theorem nm_wrd {nf w : Nat} (h : w < nf) : NmD nf (dWrd w) := fun f hf e => hf w h (Option.some.inj e)
theorem nm_jn {nf s : Nat} {D E : Dn} : NmD nf (dJn s D E) := by
  intro f hf e
  unfold dJn at e
  split at e
  · cases e
  · split at e
    · cases e
    · exact jn_ne e
theorem mo_leaf {o : Bool} {T : Tok} (t : TkE T) : Mo T (NmD (nfo o)) (rLeaf o T) := by
  intro k l k' l' D h
  unfold rLeaf at h
  by_cases c1 : T.2.1 k = 50 ∧ T.2.2 k ≤ 1000
  · rw [if_pos c1] at h
    split at h
    · cases h
    · obtain ⟨rfl, rfl, rfl⟩ := inr3 h
      exact ⟨by omega, in_T t (by omega), nm_num c1.2⟩
  · rw [if_neg c1] at h
    by_cases c2 : o = false ∧ 9 ≤ T.2.1 k ∧ T.2.1 k ≤ 15
    · rw [if_pos c2] at h
      split at h
      · cases h
      · obtain ⟨rfl, rfl, rfl⟩ := inr3 h
        exact ⟨by omega, in_T t (by omega), by rw [c2.1]; exact nm_wrd (show wL _ < 7 from wL_lt)⟩
    · rw [if_neg c2] at h
      by_cases c3 : o = true ∧ 13 ≤ T.2.1 k ∧ T.2.1 k ≤ 19
      · rw [if_pos c3] at h
        split at h
        · cases h
        · by_cases c4 : T.2.1 k = 13 ∨ T.2.1 k = 19
          · rw [if_pos c4] at h
            by_cases c5 : T.2.1 (k + 1) = 50 ∧ T.2.2 (k + 1) < 6
            · rw [if_pos c5] at h
              obtain ⟨rfl, rfl, rfl⟩ := inr3 h
              refine ⟨by omega, in_T t (by omega), ?_⟩
              rw [c3.1]
              refine nm_wrd ?_
              have := wO_lt (c := T.2.1 k)
              show _ < 17
              omega
            · rw [if_neg c5] at h; cases h
          · rw [if_neg c4] at h
            obtain ⟨rfl, rfl, rfl⟩ := inr3 h
            refine ⟨by omega, in_T t (by omega), ?_⟩
            rw [c3.1]
            refine nm_wrd ?_
            have := wO_lt (c := T.2.1 k)
            show _ < 17
            omega
      · rw [if_neg c3] at h; cases h
theorem mo_part {o : Bool} {T : Tok} {sub : Option Ps1} (t : TkE T) (hs : ∀ s, sub = some s → Mo T (NmD (nfo o)) s) : Mo T (NmD (nfo o)) (rPart o T sub) := by
  intro k l k' l' D h
  unfold rPart at h
  by_cases c : T.2.1 k = 191
  · rw [if_pos c] at h
    cases sub with
    | none => cases h
    | some s =>
      obtain ⟨k1, l1, D1, h1, h2⟩ := then_inr h
      obtain ⟨a1, a2, a3⟩ := hs s rfl _ _ _ _ _ h1
      by_cases c2 : T.2.1 k1 = 193
      · rw [if_pos c2] at h2
        obtain ⟨rfl, rfl, rfl⟩ := inr3 h2
        exact ⟨by omega, in_T t (by omega), a3⟩
      · rw [if_neg c2] at h2; cases h2
  · rw [if_neg c] at h
    exact mo_leaf t _ _ _ _ _ h
theorem mo_termL {T : Tok} {nf : Nat} {p : Ps1} (hp : Mo T (NmD nf) p) : ∀ (F k l k' l' : Nat) (D E : Dn), rTermL T p F k l D = .inr (k', l', E) → k ≤ T.1 → NmD nf D → k ≤ k' ∧ k' ≤ T.1 ∧ NmD nf E := by
  intro F
  induction F with
  | zero =>
    intro k l k' l' D E h hk hD
    obtain ⟨rfl, rfl, rfl⟩ := inr3 h
    exact ⟨Nat.le_refl _, hk, hD⟩
  | succ F ih =>
    intro k l k' l' D E h hk hD
    unfold rTermL at h
    split at h
    · obtain ⟨k1, l1, D1, h1, h2⟩ := then_inr h
      obtain ⟨a1, a2, a3⟩ := hp _ _ _ _ _ h1
      obtain ⟨b1, b2, b3⟩ := ih _ _ _ _ _ _ h2 a2 nm_jn
      exact ⟨by omega, b2, b3⟩
    · obtain ⟨rfl, rfl, rfl⟩ := inr3 h
      exact ⟨Nat.le_refl _, hk, hD⟩
theorem mo_term {T : Tok} {nf : Nat} {p : Ps1} (hp : Mo T (NmD nf) p) : Mo T (NmD nf) (rTerm T p) := by
  intro k l k' l' D h
  obtain ⟨k1, l1, D1, h1, h2⟩ := then_inr h
  obtain ⟨a1, a2, a3⟩ := hp _ _ _ _ _ h1
  obtain ⟨b1, b2, b3⟩ := mo_termL hp _ _ _ _ _ _ _ h2 a2 a3
  exact ⟨by omega, b2, b3⟩
theorem mo_sumL {T : Tok} {nf : Nat} {p : Ps1} (hp : Mo T (NmD nf) p) : ∀ (F k l k' l' : Nat) (D E : Dn), rSumL T p F k l D = .inr (k', l', E) → k ≤ T.1 → NmD nf D → k ≤ k' ∧ k' ≤ T.1 ∧ NmD nf E := by
  intro F
  induction F with
  | zero =>
    intro k l k' l' D E h hk hD
    obtain ⟨rfl, rfl, rfl⟩ := inr3 h
    exact ⟨Nat.le_refl _, hk, hD⟩
  | succ F ih =>
    intro k l k' l' D E h hk hD
    unfold rSumL at h
    split at h
    · obtain ⟨k1, l1, D1, h1, h2⟩ := then_inr h
      obtain ⟨a1, a2, a3⟩ := hp _ _ _ _ _ h1
      obtain ⟨b1, b2, b3⟩ := ih _ _ _ _ _ _ h2 a2 nm_jn
      exact ⟨by omega, b2, b3⟩
    · obtain ⟨rfl, rfl, rfl⟩ := inr3 h
      exact ⟨Nat.le_refl _, hk, hD⟩
theorem mo_sum {T : Tok} {nf : Nat} {p : Ps1} (hp : Mo T (NmD nf) p) : Mo T (NmD nf) (rSum T p) := by
  intro k l k' l' D h
  obtain ⟨k1, l1, D1, h1, h2⟩ := then_inr h
  obtain ⟨a1, a2, a3⟩ := mo_term hp _ _ _ _ _ h1
  obtain ⟨b1, b2, b3⟩ := mo_sumL (mo_term hp) _ _ _ _ _ _ _ h2 a2 a3
  exact ⟨by omega, b2, b3⟩
theorem mo_sumD {o : Bool} {T : Tok} (t : TkE T) : ∀ n, Mo T (NmD (nfo o)) (rSumD o T n) := by
  intro n
  induction n with
  | zero => exact mo_sum (mo_part t (fun s hs => by cases hs))
  | succ n ih => exact mo_sum (mo_part t (fun s hs => by rw [← Option.some.inj hs]; exact ih))
abbrev Q0 : Dn → Prop := fun _ => True
theorem mo_nots {T : Tok} : ∀ (F k : Nat) (g : Bool), k ≤ (rNots T F k g).1 := by
  intro F
  induction F with
  | zero => intro k g; exact Nat.le_refl _
  | succ F ih =>
    intro k g
    unfold rNots
    split
    · have := ih (k + 1) (!g); omega
    · exact Nat.le_refl _
theorem mo_pos {T : Tok} {nf : Nat} {sum : Ps1} {sub : Option Ps1} {g : Bool} (t : TkE T) (h1 : Mo T (NmD nf) sum) (hs : ∀ s, sub = some s → Mo T Q0 s) : Mo T Q0 (rPos T sum sub g) := by
  intro k l k' l' D h
  unfold rPos at h
  by_cases c : T.2.1 k = 140
  · rw [if_pos c] at h
    cases sub with
    | none => cases h
    | some s =>
      obtain ⟨k1, l1, D1, h2, h3⟩ := then_inr h
      obtain ⟨a1, a2, a3⟩ := hs s rfl _ _ _ _ _ h2
      by_cases c2 : T.2.1 k1 = 141
      · rw [if_pos c2] at h3
        obtain ⟨rfl, rfl, rfl⟩ := inr3 h3
        exact ⟨by omega, in_T t (by omega), trivial⟩
      · rw [if_neg c2] at h3; cases h3
  · rw [if_neg c] at h
    obtain ⟨k1, l1, D1, h2, h3⟩ := then_inr h
    obtain ⟨a1, a2, a3⟩ := h1 _ _ _ _ _ h2
    by_cases c2 : T.2.1 k1 = 160 ∨ T.2.1 k1 = 161 ∨ T.2.1 k1 = 162
    · rw [if_pos c2] at h3
      obtain ⟨k2, l2, D2, h4, h5⟩ := then_inr h3
      obtain ⟨b1, b2, b3⟩ := h1 _ _ _ _ _ h4
      obtain ⟨rfl, rfl, rfl⟩ := inr3 h5
      exact ⟨by omega, b2, trivial⟩
    · rw [if_neg c2] at h3; cases h3
theorem mo_plain {T : Tok} {nf : Nat} {sum : Ps1} {sub : Option Ps1} (t : TkE T) (h1 : Mo T (NmD nf) sum) (hs : ∀ s, sub = some s → Mo T Q0 s) : Mo T Q0 (rPlain T sum sub) := by
  intro k l k' l' D h
  obtain ⟨a1, a2, a3⟩ := mo_pos t h1 hs _ _ _ _ _ h
  have := mo_nots (T := T) 400 k false
  exact ⟨by omega, a2, trivial⟩
theorem mo_bothL {T : Tok} {p : Ps1} (hp : Mo T Q0 p) : ∀ (F k l k' l' : Nat) (D E : Dn), rBothL T p F k l D = .inr (k', l', E) → k ≤ T.1 → k ≤ k' ∧ k' ≤ T.1 := by
  intro F
  induction F with
  | zero =>
    intro k l k' l' D E h hk
    obtain ⟨rfl, rfl, rfl⟩ := inr3 h
    exact ⟨Nat.le_refl _, hk⟩
  | succ F ih =>
    intro k l k' l' D E h hk
    unfold rBothL at h
    split at h
    · obtain ⟨k1, l1, D1, h1, h2⟩ := then_inr h
      obtain ⟨a1, a2, a3⟩ := hp _ _ _ _ _ h1
      obtain ⟨b1, b2⟩ := ih _ _ _ _ _ _ h2 a2
      exact ⟨by omega, b2⟩
    · obtain ⟨rfl, rfl, rfl⟩ := inr3 h
      exact ⟨Nat.le_refl _, hk⟩
theorem mo_both {T : Tok} {p : Ps1} (hp : Mo T Q0 p) : Mo T Q0 (rBoth T p) := by
  intro k l k' l' D h
  obtain ⟨k1, l1, D1, h1, h2⟩ := then_inr h
  obtain ⟨a1, a2, a3⟩ := hp _ _ _ _ _ h1
  obtain ⟨b1, b2⟩ := mo_bothL hp _ _ _ _ _ _ _ h2 a2
  exact ⟨by omega, b2, trivial⟩
theorem mo_testL {T : Tok} {p : Ps1} (hp : Mo T Q0 p) : ∀ (F k l k' l' : Nat) (D E : Dn), rTestL T p F k l D = .inr (k', l', E) → k ≤ T.1 → k ≤ k' ∧ k' ≤ T.1 := by
  intro F
  induction F with
  | zero =>
    intro k l k' l' D E h hk
    obtain ⟨rfl, rfl, rfl⟩ := inr3 h
    exact ⟨Nat.le_refl _, hk⟩
  | succ F ih =>
    intro k l k' l' D E h hk
    unfold rTestL at h
    split at h
    · obtain ⟨k1, l1, D1, h1, h2⟩ := then_inr h
      obtain ⟨a1, a2, a3⟩ := hp _ _ _ _ _ h1
      obtain ⟨b1, b2⟩ := ih _ _ _ _ _ _ h2 a2
      exact ⟨by omega, b2⟩
    · obtain ⟨rfl, rfl, rfl⟩ := inr3 h
      exact ⟨Nat.le_refl _, hk⟩
theorem mo_test {T : Tok} {p : Ps1} (hp : Mo T Q0 p) : Mo T Q0 (rTest T p) := by
  intro k l k' l' D h
  obtain ⟨k1, l1, D1, h1, h2⟩ := then_inr h
  obtain ⟨a1, a2, a3⟩ := mo_both hp _ _ _ _ _ h1
  obtain ⟨b1, b2⟩ := mo_testL (mo_both hp) _ _ _ _ _ _ _ h2 a2
  exact ⟨by omega, b2, trivial⟩
theorem mo_testD {o : Bool} {T : Tok} (t : TkE T) : ∀ n, Mo T Q0 (rTestD o T n) := by
  intro n
  induction n with
  | zero => exact mo_test (mo_plain t (mo_sumD t 0) (fun s hs => by cases hs))
  | succ n ih => exact mo_test (mo_plain t (mo_sumD t (n + 1)) (fun s hs => by rw [← Option.some.inj hs]; exact ih))
