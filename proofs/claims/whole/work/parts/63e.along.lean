/-! orders: the model goes along one -/
abbrev S_ga : List (Nat × Option Nat) := [(38, some 22), (38, some 24), (38, some 48), (38, some 49), (38, some 51), (38, some 52), (38, some 53)]
section
variable {T : Tok} {f : Nat → Int32}
theorem Mc.ga {st u : St} (h : FR S_ga st u) (m : Mc 2400 T true f st) : Mc 2400 T true f u := by
  obtain ⟨m1, m2, m3, m4, m5, m6⟩ := m
  have h40 := fun j => h.i (a := 40) (j := j) (hasA_in (by rfl))
  refine ⟨m1, m2, (h.i (by rfl)).trans m3, fun k hk => ⟨(h40 _).trans (m4 k hk).1, (h40 _).trans (m4 k hk).2⟩, (h.i (by rfl)).trans m5, ?_⟩
  unfold Mf at m6 ⊢
  simp only [if_true] at m6 ⊢
  obtain ⟨a1, a2, a3, a4, a5, a6⟩ := m6
  exact ⟨(h40 _).trans a1, (h.i (by rfl)).trans a2, (h.i (by rfl)).trans a3, (inside_eq h40).trans a4, (h40 _).trans a5, fun k hk => ⟨(of_eq h40).trans (a6 k hk).1, (of_eq h40).trans (a6 k hk).2⟩⟩
theorem b151L {u : St} {k : Nat} {w br : Bool} (a : At8 2400 k br u) : ∃ u', fX8_goesAlong_b151 (b2i w) u = some u' ∧ sI u' 38 22 = nI (2400 + (k + 1)) ∧ sI u' 38 52 = b2i (w && !br) ∧ FR [(38, some 22), (38, some 52)] u u' := by
  unfold fX8_goesAlong_b151 fX8_goesAlong_b173 fX8_goesAlong_b174
  have e52 : sI (pI u 38 52 (b2i w)) 38 52 = b2i w := by rw [sI_pI, if_pos ⟨rfl, rfl⟩]
  have e24 : sI (pI u 38 52 (b2i w)) 38 24 = b2i br := by rw [sI_pI, if_neg (by omega)]; exact a.2.2
  have e22 : ∀ s1, sI (pI (pI u 38 52 (b2i w)) 38 52 s1) 38 22 + 1 = nI (2400 + (k + 1)) := fun s1 => by
    rw [sI_pI, if_neg (by omega), sI_pI, if_neg (by omega), a.2.1, n_p1]; rfl
  have fin : ∀ s1, ∃ u', some (pI (pI (pI u 38 52 (b2i w)) 38 52 s1) 38 22 (nI (2400 + (k + 1)))) = some u' ∧ sI u' 38 22 = nI (2400 + (k + 1)) ∧ sI u' 38 52 = s1 ∧ FR [(38, some 22), (38, some 52)] u u' := fun s1 => ⟨_, rfl, by rw [sI_pI, if_pos ⟨rfl, rfl⟩], by rw [sI_pI, if_neg (by omega), sI_pI, if_pos ⟨rfl, rfl⟩], FR.pI (by rfl) (FR.pI (by rfl) (FR.pI (by rfl) FR.rf))⟩
  rw [isb_b, chk_t, e52, e24]
  simp only [e22]
  cases w with
  | false =>
    rw [if_pos (show b2i false = 0 from rfl), show isb (0 : Int32) = true from rfl, chk_t]
    exact fin 0
  | true =>
    rw [if_neg (show ¬ b2i true = 0 by decide)]
    cases br with
    | false => rw [if_pos (show b2i false = 0 from rfl), show isb (1 : Int32) = true from rfl, chk_t]; exact fin 1
    | true => rw [if_neg (show ¬ b2i true = 0 by decide), show isb (0 : Int32) = true from rfl, chk_t]; exact fin 0
abbrev S_gb : List (Nat × Option Nat) := [(38, some 22), (38, some 24), (38, some 52)]
theorem b124L (t : TkE T) {w : St} {k2 l1 k' l' : Nat} {br live : Bool} {E : Dn} (m : Mc 2400 T true f w) (a : At8 2400 k2 br w) (hk : k2 ≤ T.1) (hi : rIf true T k2 l1 = .inr (k', l', E)) : ∃ u, fX8_goesAlong_b124 (b2i live) w = some u ∧ sI u 38 22 = nI (2400 + (k' + 1)) ∧ (live = true → sI u 38 52 = b2i (decide (E f = some 1))) ∧ FR S_gb w u := by
  have t4 := t.1
  unfold fX8_goesAlong_b124 fX8_goesAlong_b146
  have f0 : FR S_e w (pI w 38 24 0) := FR.pI (by rfl) FR.rf
  have m0 := m.fr f0
  have a0 : At8 2400 k2 false (pI w 38 24 0) := ⟨a.1, by rw [sI_pI, if_neg (by omega)]; exact a.2.1, by rw [sI_pI, if_pos ⟨rfl, rfl⟩]; rfl⟩
  unfold rIf at hi
  rcases passes_ok (c := 5) (by omega) m0 a0 (by omega) with ⟨h5, u, p1, p2, p3⟩ | ⟨h5, p1⟩
  · rw [if_pos h5] at hi
    rw [show fX8_passes0 5 (pI w 38 24 0) = _ from p1, Option.bind_some, if_neg (show ¬ (1 : Int32) = 0 by decide)]
    obtain ⟨x, v, v1, v2, v3, v4⟩ := (test8 (base := 2400) (o := true) (f := f) t).2 _ _ _ _ _ hi live false u (m0.fr p2) p3
    have fv : FR S_gb w v := ((FR.mono (by rfl) f0 : FR S_gb w _).trans (FR.mono (by rfl) p2)).trans (FR.mono (by rfl) v2)
    rw [v1, Option.bind_some]
    obtain ⟨z, z1, z2, z3, z4⟩ := b151L (w := x) v3
    have fz : FR S_gb w z := fv.trans (FR.mono (by rfl) z4)
    refine ⟨z, ?_, z2, fun hl => ?_, fz⟩
    · cases x with
      | false => rw [if_pos (show b2i false = 0 from rfl)]; exact z1
      | true => rw [if_neg (show ¬ b2i true = 0 by decide)]; exact z1
    · rw [z3]
      subst hl
      congr 1
      cases hE : E f with
      | none => simp [bb]
      | some y =>
        have hy := v4 rfl rfl y hE
        subst hy
        cases x <;> simp [bb] <;> decide
  · rw [if_neg h5] at hi
    have e := Sum.inr.inj hi
    obtain ⟨e1, e2⟩ := Prod.mk.inj e
    obtain ⟨e2, e3⟩ := Prod.mk.inj e2
    subst e1 e2 e3
    rw [show fX8_passes0 5 (pI w 38 24 0) = _ from p1, Option.bind_some, if_pos (show (0 : Int32) = 0 from rfl)]
    obtain ⟨z, z1, z2, z3, z4⟩ := b151L (w := true) a0
    refine ⟨z, z1, z2, fun hl => ?_, (FR.mono (by rfl) f0 : FR S_gb w _).trans (FR.mono (by rfl) z4)⟩
    rw [z3]
    show b2i true = b2i (decide (some (1 : Int32) = some 1))
    rw [decide_eq_true rfl]
abbrev S_gc : List (Nat × Option Nat) := [(38, some 22), (38, some 24), (38, some 48), (38, some 51), (38, some 52)]
theorem b64L (t : TkE T) {w : St} {k1 l1 k2 tm k' l' : Nat} {br live : Bool} {E : Dn} {v : Int64} (m : Mc 2400 T true f w) (a : At8 2400 k1 br w) (hk : k1 ≤ T.1) (ht : rTms true T k1 = .inr (k2, tm)) (hi : rIf true T k2 l1 = .inr (k', l', E)) : ∃ u, fX8_goesAlong_b64 (b2i live) v w = some u ∧ sI u 38 22 = nI (2400 + (k' + 1)) ∧ sI u 38 48 = nI tm ∧ sI u 38 51 = b2i (!br) ∧ sL u 38 53 = v ∧ sI u 38 49 = sI w 38 49 ∧ (live = true → sI u 38 52 = b2i (decide (E f = some 1))) := by
  have t4 := t.1
  have f1 : FR S_ga w (pL w 38 53 v) := FR.pL (by rfl) FR.rf
  have e24 : sI (pL w 38 53 v) 38 24 = b2i br := by rw [sI_pL]; exact a.2.2
  have e0 : fX8_goesAlong_b64 (b2i live) v w = fX8_goesAlong_b80 (b2i live) (b2i (!br)) (pL w 38 53 v) := by
    unfold fX8_goesAlong_b64
    rw [e24]
    cases br with
    | false => rw [if_pos (show b2i false = 0 from rfl)]; rfl
    | true => rw [if_neg (show ¬ b2i true = 0 by decide)]; rfl
  have f2 : FR S_ga w (pI (pI (pL w 38 53 v) 38 51 (b2i (!br))) 38 48 1) := FR.pI (by rfl) (FR.pI (by rfl) f1)
  have q51 : sI (pI (pI (pL w 38 53 v) 38 51 (b2i (!br))) 38 48 1) 38 51 = b2i (!br) := by rw [sI_pI, if_neg (by omega), sI_pI, if_pos ⟨rfl, rfl⟩]
  have q48 : sI (pI (pI (pL w 38 53 v) 38 51 (b2i (!br))) 38 48 1) 38 48 = 1 := by rw [sI_pI, if_pos ⟨rfl, rfl⟩]
  have q49 : sI (pI (pI (pL w 38 53 v) 38 51 (b2i (!br))) 38 48 1) 38 49 = sI w 38 49 := by rw [sI_pI, if_neg (by omega), sI_pI, if_neg (by omega), sI_pL]
  have q53 : sL (pI (pI (pL w 38 53 v) 38 51 (b2i (!br))) 38 48 1) 38 53 = v := by rw [sL_pI, sL_pI, sL_pL, if_pos ⟨rfl, rfl⟩]
  have q22 : At8 2400 k1 br (pI (pI (pL w 38 53 v) 38 51 (b2i (!br))) 38 48 1) := ⟨a.1, by rw [sI_pI, if_neg (by omega), sI_pI, if_neg (by omega), sI_pL]; exact a.2.1, by rw [sI_pI, if_neg (by omega), sI_pI, if_neg (by omega), sI_pL]; exact a.2.2⟩
  rw [e0]
  unfold fX8_goesAlong_b80
  rw [isb_b, chk_t]
  generalize pI (pI (pL w 38 53 v) 38 51 (b2i (!br))) 38 48 1 = w2 at *
  have m2 := m.ga f2
  unfold rTms at ht
  rcases passes_ok (c := 24) (by omega) m2 q22 (by omega) with ⟨h24, u, p1, p2, p3⟩ | ⟨h24, p1⟩
  · rw [if_pos ⟨rfl, h24⟩] at ht
    by_cases hq : T.2.1 (k1 + 1) = 50 ∧ 1 ≤ T.2.2 (k1 + 1) ∧ T.2.2 (k1 + 1) ≤ 20
    · rw [if_pos hq] at ht
      obtain ⟨e1, e2⟩ := Prod.mk.inj (Sum.inr.inj ht)
      subst e1 e2
      have hk1 : k1 + 1 < T.1 := in_T t (by omega)
      rw [show fX8_passes0 24 w2 = _ from p1, Option.bind_some, if_neg (show ¬ (1 : Int32) = 0 by decide)]
      have mu := m2.fr p2
      have e22 : (2827 : Int32) + sI u 38 22 = nI (2827 + (2400 + (k1 + 1))) := by rw [p3.2.1, show (2827 : Int32) = nI 2827 from rfl, n_add]
      simp only [e22]
      rw [n_ixb (by omega), decide_eq_true (show 2827 + (2400 + (k1 + 1)) < 5627 by omega), chk_t, n_toNat (by omega), (mu.2.2.2.1 (k1 + 1) hk1).2]
      have e23 : sI (pI u 38 48 (nI (T.2.2 (k1 + 1)))) 38 22 + 1 = nI (2400 + (k1 + 2)) := by rw [sI_pI, if_neg (by omega), p3.2.1, n_p1]; rfl
      rw [e23]
      have f3 : FR S_ga u (pI (pI u 38 48 (nI (T.2.2 (k1 + 1)))) 38 22 (nI (2400 + (k1 + 2)))) := FR.pI (by rfl) (FR.pI (by rfl) FR.rf)
      have a3 : At8 2400 (k1 + 2) br (pI (pI u 38 48 (nI (T.2.2 (k1 + 1)))) 38 22 (nI (2400 + (k1 + 2)))) := ⟨by omega, by rw [sI_pI, if_pos ⟨rfl, rfl⟩], by rw [sI_pI, if_neg (by omega), sI_pI, if_neg (by omega)]; exact p3.2.2⟩
      obtain ⟨z, z1, z2, z3, z4⟩ := b124L (live := live) t (mu.ga f3) a3 (by omega) hi
      refine ⟨z, z1, z2, ?_, ?_, ?_, ?_, z3⟩
      · rw [z4.i (by rfl), sI_pI, if_neg (by omega), sI_pI, if_pos ⟨rfl, rfl⟩]
      · rw [z4.i (by rfl), sI_pI, if_neg (by omega), sI_pI, if_neg (by omega), p2.i (by rfl)]; exact q51
      · rw [(z4.2 38 53 (by rfl)).2, sL_pI, sL_pI, (p2.2 38 53 (by rfl)).2]; exact q53
      · rw [z4.i (by rfl), sI_pI, if_neg (by omega), sI_pI, if_neg (by omega), p2.i (by rfl)]; exact q49
    · rw [if_neg hq] at ht; cases ht
  · rw [if_neg (fun h => h24 h.2)] at ht
    obtain ⟨e1, e2⟩ := Prod.mk.inj (Sum.inr.inj ht)
    subst e1 e2
    rw [show fX8_passes0 24 w2 = _ from p1, Option.bind_some, if_pos (show (0 : Int32) = 0 from rfl)]
    obtain ⟨z, z1, z2, z3, z4⟩ := b124L (live := live) t m2 q22 hk hi
    refine ⟨z, z1, z2, ?_, ?_, ?_, ?_, z3⟩
    · rw [z4.i (by rfl)]; exact q48
    · rw [z4.i (by rfl)]; exact q51
    · rw [(z4.2 38 53 (by rfl)).2]; exact q53
    · rw [z4.i (by rfl)]; exact q49
end
theorem cl_inv {T : Tok} {k l k' l' : Nat} {c : Cls} (h : rClause true T k l = .inr (k', l', c)) : T.2.1 k = 20 + c.1 ∧ c.1 < 4 ∧ ∃ k1 l1 k2, rSumC true T c.1 (k + 1) l = .inr (k1, l1, c.2.2.1) ∧ rTms true T k1 = .inr (k2, c.2.1) ∧ rIf true T k2 l1 = .inr (k', l', c.2.2.2) := by
  unfold rClause at h
  cases h1 : rHead true (T.2.1 k) with
  | none => rw [h1] at h; cases h
  | some kd =>
    rw [h1] at h
    simp only [] at h
    cases h2 : rSumC true T kd (k + 1) l with
    | inl j => rw [h2] at h; cases h
    | inr z =>
      obtain ⟨k1, l1, D⟩ := z
      rw [h2] at h
      simp only [] at h
      cases h3 : rTms true T k1 with
      | inl j => rw [h3] at h; cases h
      | inr z =>
        obtain ⟨k2, tm⟩ := z
        rw [h3] at h
        simp only [] at h
        cases h4 : rIf true T k2 l1 with
        | inl j => rw [h4] at h; cases h
        | inr z =>
          obtain ⟨k3, l3, E⟩ := z
          rw [h4] at h
          have e := Sum.inr.inj h
          obtain ⟨e1, e'⟩ := Prod.mk.inj e
          obtain ⟨e2, e3⟩ := Prod.mk.inj e'
          subst e1 e2 e3
          refine ⟨?_, (head_lt h1).1, k1, l1, k2, h2, h3, h4⟩
          unfold rHead at h1
          simp only [if_true] at h1
          split at h1
          · have := Option.some.inj h1
            show T.2.1 k = 20 + kd
            omega
          · cases h1
