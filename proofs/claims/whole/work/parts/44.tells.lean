/-! what a law tells, by the model -/
def tlS (f : Nat → Int32) (h acc : Nat) (c : Cls) : Nat := if c.1 + 1 = h ∧ c.2.2.2 f = some 1 then (if c.1 = 0 then (if (c.2.2.1 f).getD MIN32 = MIN32 then acc else clamp ((c.2.2.1 f).getD MIN32)) else 1) else acc
def tellF (f : Nat → Int32) (h : Nat) (L : List Cls) (acc : Nat) : Nat := L.foldl (tlS f h) acc
theorem tell_len {f : Nat → Int32} {L : List Cls} {acc : Nat} : tellF f 1 L acc = lenL L f acc := by
  unfold tellF lenL
  congr 1
  funext a c
  unfold tlS lenS
  by_cases h : c.1 = 0
  · simp [h]
  · have : ¬ c.1 + 1 = 1 := by omega
    simp [h, this]
theorem tell_1 {f : Nat → Int32} {h : Nat} (hh : 2 ≤ h) : ∀ {L : List Cls}, tellF f h L 1 = 1 := by
  intro L
  induction L with
  | nil => rfl
  | cons c L ih =>
    unfold tellF
    rw [List.foldl_cons, show tlS f h 1 c = 1 from ?_]
    · exact ih
    · unfold tlS
      split
      · rename_i hc
        rw [if_neg (by omega)]
      · rfl
theorem tell_so {f : Nat → Int32} {k : Nat} (hk : 1 ≤ k) : ∀ {L : List Cls}, tellF f (k + 1) L 0 = if soL L k f = true then 1 else 0 := by
  intro L
  induction L with
  | nil => rfl
  | cons c L ih =>
    unfold tellF soL
    rw [List.foldl_cons, List.any_cons]
    by_cases hc : c.1 = k ∧ c.2.2.2 f = some 1
    · have e1 : tlS f (k + 1) 0 c = 1 := by
        unfold tlS
        rw [if_pos ⟨by omega, hc.2⟩, if_neg (by omega)]
      have e2 : (c.1 == k && c.2.2.2 f == some 1) = true := by simp [hc.1, hc.2]
      rw [e1, e2, Bool.true_or, if_pos rfl]
      exact tell_1 (by omega)
    · have e1 : tlS f (k + 1) 0 c = 0 := by
        unfold tlS
        rw [if_neg (fun h => hc ⟨by omega, h.2⟩)]
      have e2 : (c.1 == k && c.2.2.2 f == some 1) = false := by
        rw [Bool.and_eq_false_iff]
        by_cases h1 : c.1 = k
        · exact Or.inr (beq_eq_false_iff_ne.mpr (fun h2 => hc ⟨h1, h2⟩))
        · exact Or.inl (beq_eq_false_iff_ne.mpr h1)
      rw [e1, e2, Bool.false_or]
      exact ih
theorem codeAt' {base k : Nat} {T : Tok} {o : Bool} {f : Nat → Int32} {st : St} (m : Mc base T o f st) (a0 : k ≤ 1000) (a1 : sI st 38 22 = nI (base + k)) : fX8_codeAt st (sI st 38 22) = some (nI (T.2.1 k)) := by
  obtain ⟨m1, m2, m3, m4, m5, m6⟩ := m
  have h400 := m2.1
  unfold fX8_codeAt
  rw [a1, m3]
  by_cases c : T.1 ≤ k
  · rw [if_pos (by rw [n_le (by omega) (by omega)]; omega), m2.2.1 k c]; rfl
  · rw [if_neg (by rw [n_le (by omega) (by omega)]; omega), show (27 : Int32) = nI 27 from rfl, n_add, n_ixb (by omega), decide_eq_true (show 27 + (base + k) < 5627 by omega), chk_t, n_toNat (by omega), (m4 k (by omega)).1]
theorem clamp64 {v : Int64} {x : Int32} (h : v.toInt = x.toInt) : (if 0 ≤ lg_cmp v 1 then (if lg_cmp v 15 ≤ 0 then v else 15) else (1 : Int64)).toInt = (clamp x : Int) := by
  have t1 : (1 : Int64).toInt = 1 := by decide
  have t15 : (15 : Int64).toInt = 15 := by decide
  have i1 : (1 : Int32).toInt = 1 := by decide
  have i15 : (15 : Int32).toInt = 15 := by decide
  unfold clamp
  simp only [lc_ge, lc_le, t1, t15, Int32.lt_iff_toInt_lt, i1, i15, h]
  by_cases c1 : x.toInt < 1
  · rw [if_neg (by omega), if_pos c1, t1]; rfl
  · rw [if_pos (by omega), if_neg c1]
    by_cases c2 : 15 < x.toInt
    · rw [if_neg (by omega), if_pos c2, t15]; rfl
    · rw [if_pos (by omega), if_neg c2, h]
      obtain ⟨m, hm, rfl⟩ : ∃ m, m < 2147483648 ∧ x = nI m := by
        rcases n_cases x with hh | hh
        · rw [Int32.lt_iff_toInt_lt] at hh
          have i0 : (0 : Int32).toInt = 0 := by decide
          omega
        · exact hh
      rw [n_toNat hm, n_toInt hm]
theorem head_f {c kd : Nat} (h : rHead false c = some kd) : 1 ≤ c ∧ c ≤ 4 ∧ c = kd + 1 := by
  unfold rHead at h
  simp only [Bool.false_eq_true, if_false] at h
  split at h
  · have := Option.some.inj h; omega
  · cases h
/- begun, to go on with:
theorem tells_loop {base h : Nat} {T : Tok} {f : Nat → Int32} (t : TkE T) (hh : 1 ≤ h ∧ h ≤ 4) : ∀ (F n k l acc : Nat) (L : List Cls) (v : Int64) (st : St), rAll false T F k l = .inr L → F < n → Mc base T false f st → sI st 38 22 = nI (base + k) → (∀ c ∈ L, c.2.2.1 f ≠ some MIN32) → v.toInt = (acc : Int) → acc < 2147483648 → ∃ u, fX8_tells_b73 n (nI h) v st = some (nI (tellF f h L acc), u) ∧ FR S_e st u := by
  intro F
  have t400 := t.1
  have t1 : (1 : Int64).toInt = 1 := by decide
  induction F with
  | zero => intro n k l acc L v st hr; cases hr
  | succ F ih =>
    intro n k l acc L v st hr hn m a hL hv ha
    obtain ⟨n, rfl⟩ : ∃ j, n = j + 1 := ⟨n - 1, by omega⟩
    unfold rAll at hr
    cases hcl : rClause false T k l with
    | inl j => rw [hcl] at hr; cases hr
    | inr z =>
      obtain ⟨k3, l3, c⟩ := z
      rw [hcl] at hr
      unfold rClause at hcl
      cases hh0 : rHead false (T.2.1 k) with
      | none => rw [hh0] at hcl; cases hcl
      | some kd =>
        rw [hh0] at hcl
        obtain ⟨c1, c2, c3⟩ := head_f hh0
        have hkT := in_T t (show T.2.1 k ≠ 0 by omega)
        have hbase := m.1
        simp only [] at hcl
        cases hsm : rSumC false T kd (k + 1) l with
        | inl j => rw [hsm] at hcl; cases hcl
        | inr z1 =>
          obtain ⟨k1, l1, D⟩ := z1
          rw [hsm] at hcl
          have htm : rTms false T k1 = .inr (k1, 1) := by unfold rTms; simp
          simp only [htm] at hcl
          cases hif : rIf false T k1 l1 with
          | inl j => rw [hif] at hcl; cases hcl
          | inr z2 =>
            obtain ⟨k3', l3', E⟩ := z2
            rw [hif] at hcl
            have hcc := Sum.inr.inj hcl
            have hk3 : k3' = k3 := (Prod.mk.inj hcc).1
            have hl3 : l3' = l3 := (Prod.mk.inj (Prod.mk.inj hcc).2).1
            have hc : (kd, 1, D, E) = c := (Prod.mk.inj (Prod.mk.inj hcc).2).2
            subst hk3 hl3
            have f0 : FR S_e st (pI (pI st 38 24 0) 38 22 (sI (pI st 38 24 0) 38 22 + 1)) := FR.pI (by rfl) (FR.pI (by rfl) FR.rf)
            have a0 : At8 base (k + 1) false (pI (pI st 38 24 0) 38 22 (sI (pI st 38 24 0) 38 22 + 1)) := by
              refine ⟨by omega, ?_, ?_⟩
              · rw [sI_pI, if_pos ⟨rfl, rfl⟩, sI_pI, if_neg (by omega), a, n_p1]; rfl
              · rw [sI_pI, if_neg (by omega), sI_pI, if_pos ⟨rfl, rfl⟩]; rfl
            sorry
-/
