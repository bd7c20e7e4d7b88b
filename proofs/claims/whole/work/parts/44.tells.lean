/-! what a law tells, by the model -/
def tlS (f : Nat → Int32) (h acc : Nat) (c : Cls) : Nat := if c.1 + 1 = h ∧ c.2.2.2 f = some 1 then (if c.1 = 0 then (if (c.2.2.1 f).getD BRK = BRK then acc else clamp ((c.2.2.1 f).getD BRK)) else 1) else acc
def tellF (f : Nat → Int32) (h : Nat) (L : List Cls) (acc : Nat) : Nat := L.foldl (tlS f h) acc
theorem tell_len {f : Nat → Int32} {L : List Cls} {acc : Nat} : tellF f 1 L acc = lenL L f acc := by
  unfold tellF lenL
  congr 1
  funext a c
  unfold tlS lenS
  by_cases h : c.1 = 0
  · simp [h]
  · have : ¬ c.1 + 1 = 1 := by omega
    simp [h, this]
theorem tell_1 {f : Nat → Int32} {h : Nat} (hh : 2 ≤ h) : ∀ {L : List Cls}, tellF f h L 1 = 1 := by
  intro L
  induction L with
  | nil => rfl
  | cons c L ih =>
    unfold tellF
    rw [List.foldl_cons, show tlS f h 1 c = 1 from ?_]
    · exact ih
    · unfold tlS
      split
      · rename_i hc
        rw [if_neg (by omega)]
      · rfl
theorem tell_so {f : Nat → Int32} {k : Nat} (hk : 1 ≤ k) : ∀ {L : List Cls}, tellF f (k + 1) L 0 = if soL L k f = true then 1 else 0 := by
  intro L
  induction L with
  | nil => rfl
  | cons c L ih =>
    unfold tellF soL
    rw [List.foldl_cons, List.any_cons]
    by_cases hc : c.1 = k ∧ c.2.2.2 f = some 1
    · have e1 : tlS f (k + 1) 0 c = 1 := by
        unfold tlS
        rw [if_pos ⟨by omega, hc.2⟩, if_neg (by omega)]
      have e2 : (c.1 == k && c.2.2.2 f == some 1) = true := by simp [hc.1, hc.2]
      rw [e1, e2, Bool.true_or, if_pos rfl]
      exact tell_1 (by omega)
    · have e1 : tlS f (k + 1) 0 c = 0 := by
        unfold tlS
        rw [if_neg (fun h => hc ⟨by omega, h.2⟩)]
      have e2 : (c.1 == k && c.2.2.2 f == some 1) = false := by
        rw [Bool.and_eq_false_iff]
        by_cases h1 : c.1 = k
        · exact Or.inr (beq_eq_false_iff_ne.mpr (fun h2 => hc ⟨h1, h2⟩))
        · exact Or.inl (beq_eq_false_iff_ne.mpr h1)
      rw [e1, e2, Bool.false_or]
      exact ih
theorem codeAt' {base k : Nat} {T : Tok} {o : Bool} {f : Nat → Int32} {st : St} (m : Mc base T o f st) (a0 : k ≤ 1000) (a1 : sI st 38 22 = nI (base + k)) : fX8_codeAt st (sI st 38 22) = some (nI (T.2.1 k)) := by
  obtain ⟨m1, m2, m3, m4, m5, m6⟩ := m
  have h400 := m2.1
  unfold fX8_codeAt
  rw [a1, m3]
  by_cases c : T.1 ≤ k
  · rw [if_pos (by rw [n_le (by omega) (by omega)]; omega), m2.2.1 k c]; rfl
  · rw [if_neg (by rw [n_le (by omega) (by omega)]; omega), show (27 : Int32) = nI 27 from rfl, n_add, n_ixb (by omega), decide_eq_true (show 27 + (base + k) < 5627 by omega), chk_t, n_toNat (by omega), (m4 k (by omega)).1]
theorem clamp64 {v : Int64} {x : Int32} (h : v.toInt = x.toInt) : (if 0 ≤ lg_cmp v 1 then (if lg_cmp v 15 ≤ 0 then v else 15) else (1 : Int64)).toInt = (clamp x : Int) := by
  have t1 : (1 : Int64).toInt = 1 := by decide
  have t15 : (15 : Int64).toInt = 15 := by decide
  have i1 : (1 : Int32).toInt = 1 := by decide
  have i15 : (15 : Int32).toInt = 15 := by decide
  unfold clamp
  simp only [lc_ge, lc_le, t1, t15, Int32.lt_iff_toInt_lt, i1, i15, h]
  by_cases c1 : x.toInt < 1
  · rw [if_neg (by omega), if_pos c1, t1]; rfl
  · rw [if_pos (by omega), if_neg c1]
    by_cases c2 : 15 < x.toInt
    · rw [if_neg (by omega), if_pos c2, t15]; rfl
    · rw [if_pos (by omega), if_neg c2, h]
      obtain ⟨m, hm, rfl⟩ : ∃ m, m < 2147483648 ∧ x = nI m := by
        rcases n_cases x with hh | hh
        · rw [Int32.lt_iff_toInt_lt] at hh
          have i0 : (0 : Int32).toInt = 0 := by decide
          omega
        · exact hh
      rw [n_toNat hm, n_toInt hm]
theorem head_f {c kd : Nat} (h : rHead false c = some kd) : 1 ≤ c ∧ c ≤ 4 ∧ c = kd + 1 := by
  unfold rHead at h
  simp only [Bool.false_eq_true, if_false] at h
  split at h
  · have := Option.some.inj h; omega
  · cases h
theorem tells_mid {base h kd : Nat} {T : Tok} {f : Nat → Int32} (t : TkE T) (hh : 1 ≤ h ∧ h ≤ 4) (hkd : kd < 4) {k1 l1 k3 l3 acc : Nat} {E : Dn} {b1 : Bool} {v v1 : Int64} {x : Int32} {st : St} {K : Int32 → Int64 → St → Option (Int32 × St)} (hif : rIf false T k1 l1 = .inr (k3, l3, E)) (hk1 : k1 ≤ T.1) (m : Mc base T false f st) (a : At8 base k1 b1 st) (hv : v.toInt = (acc : Int)) (hx : b1 = false → v1.toInt = x.toInt) : k3 ≤ T.1 ∧ ∃ v' u, fX8_tells_b124 K (nI h) v (nI (kd + 1)) v1 st = K (nI h) v' u ∧ FR S_e st u ∧ sI u 38 22 = nI (base + (k3 + 1)) ∧ v'.toInt = ((if kd + 1 = h ∧ E f = some 1 then (if b1 = true then acc else clamp x) else acc : Nat) : Int) := by
  have t400 := t.1
  have a' : At8 base k1 false (pI st 38 24 0) := ⟨a.1, by rw [sI_pI, if_neg (by omega)]; exact a.2.1, by rw [sI_pI, if_pos ⟨rfl, rfl⟩]; rfl⟩
  have f' : FR S_e st (pI st 38 24 0) := FR.pI (by rfl) FR.rf
  have m' := m.fr f'
  have fin : ∀ (b3 w : Bool) (u : St), FR S_e st u → At8 base k3 b3 u → (b3 = true ↔ E f = none) → (∀ x, E f = some x → x = b2i w) → k3 ≤ 999 → ∃ v' u', fX8_tells_b158 K (nI h) v (nI (kd + 1)) v1 (sI st 38 24) (b2i w) u = K (nI h) v' u' ∧ FR S_e st u' ∧ sI u' 38 22 = nI (base + (k3 + 1)) ∧ v'.toInt = ((if kd + 1 = h ∧ E f = some 1 then (if b1 = true then acc else clamp x) else acc : Nat) : Int) := by
    intro b3 w u fu au hb3 hw hk3
    obtain ⟨fg, ag⟩ := go1 m.1 (show k3 < 1000 by omega) au
    have e1 : (nI (kd + 1) = nI h) = (kd + 1 = h) := n_eq (by omega) (by omega)
    unfold fX8_tells_b158 fX8_tells_b211 fX8_tells_b213
    simp only [e1, b2i_0, a.2.2, au.2.2]
    by_cases c1 : kd + 1 = h
    · rw [if_pos c1]
      cases w with
      | false =>
        have hE : E f ≠ some 1 := fun e => absurd (hw 1 e) (by decide)
        rw [if_pos rfl, if_neg (fun h => hE h.2)]
        exact ⟨v, _, rfl, fu.trans fg, ag.2.1, hv⟩
      | true =>
        rw [if_neg (by decide)]
        cases b3 with
        | true =>
          have hE : E f = none := hb3.mp rfl
          rw [if_neg (by decide), if_neg (fun h => by rw [hE] at h; cases h.2)]
          exact ⟨v, _, rfl, fu.trans fg, ag.2.1, hv⟩
        | false =>
          have hE : E f = some 1 := by
            cases e : E f with
            | none => cases hb3.mpr e
            | some y => rw [hw y e]; rfl
          rw [if_pos rfl, if_pos (show kd + 1 = h ∧ E f = some 1 from ⟨c1, hE⟩)]
          cases b1 with
          | true =>
            rw [if_neg (by decide), if_pos rfl]
            exact ⟨v, _, rfl, fu.trans fg, ag.2.1, hv⟩
          | false =>
            rw [if_pos rfl, if_neg (show ¬ (false = true) by decide)]
            refine ⟨if 0 ≤ lg_cmp v1 1 then (if lg_cmp v1 15 ≤ 0 then v1 else 15) else 1, _, ?_, fu.trans fg, ag.2.1, clamp64 (hx rfl)⟩
            by_cases d1 : 0 ≤ lg_cmp v1 1
            · rw [if_pos d1, if_pos d1]
              by_cases d2 : lg_cmp v1 15 ≤ 0
              · rw [if_pos d2, if_pos d2]
              · rw [if_neg d2, if_neg d2]
            · rw [if_neg d1, if_neg d1]
    · rw [if_neg c1, if_neg (fun h => c1 h.1)]
      exact ⟨v, _, rfl, fu.trans fg, ag.2.1, hv⟩
  unfold rIf at hif
  unfold fX8_tells_b124 fX8_tells_b153
  rcases passes_ok (c := 5) (by omega) m' a' (by omega) with ⟨p1, u2, p2, p3, p4⟩ | ⟨p1, p2⟩
  · rw [if_pos p1] at hif
    obtain ⟨M1, M2⟩ := test8 (base := base) (T := T) (o := false) (f := f) t
    obtain ⟨q1, q2, _⟩ := M1 _ _ _ _ _ hif
    obtain ⟨w, u3, e1, e2, e3, e4⟩ := M2 _ _ _ _ _ hif true false u2 (m'.fr p3) p4
    rw [show (5 : Int32) = nI 5 from rfl, p2, Option.bind_some]
    simp only [show ((1 : Int32) = 0) = False by decide, if_false]
    rw [show (1 : Int32) = b2i true from rfl, e1, Option.bind_some]
    refine ⟨q2, ?_⟩
    have hb3 : bb false true (E f) = true ↔ E f = none := by unfold bb; simp
    obtain ⟨v', u', r1, r2⟩ := fin _ w u3 (f'.trans (p3.trans e2)) e3 hb3 (e4 rfl rfl) (by omega)
    refine ⟨v', u', ?_, r2⟩
    cases w with
    | true => exact r1
    | false => exact r1
  · rw [if_neg p1] at hif
    obtain ⟨z1, z2, z3⟩ := inr3 hif
    subst z1 z3
    rw [show (5 : Int32) = nI 5 from rfl, p2, Option.bind_some]
    simp only [if_true]
    exact ⟨hk1, fin false true _ f' a' ⟨fun h => (by cases h), fun h => (by cases h)⟩ (fun x hx => (Option.some.inj hx).symm) (by omega)⟩
theorem toI32 {v : Int64} {a : Nat} (h : v.toInt = (a : Int)) (ha : a < 2147483648) : v.toInt32 = nI a := by
  rw [← Int32.ofInt_int64ToInt, h, ← Int32.toInt_inj, n_toInt ha, ofI (by omega) (by omega)]
theorem tells_loop {base h : Nat} {T : Tok} {f : Nat → Int32} (t : TkE T) (hh : 1 ≤ h ∧ h ≤ 4) (hf : ∀ w, w < 7 → f w ≠ BRK) : ∀ (F n k l acc : Nat) (L : List Cls) (v : Int64) (st : St), rAll false T F k l = .inr L → F < n → Mc base T false f st → sI st 38 22 = nI (base + k) → v.toInt = (acc : Int) → acc < 2147483648 → ∃ u, fX8_tells_b73 n (nI h) v st = some (nI (tellF f h L acc), u) ∧ FR S_e st u := by
  intro F
  have t400 := t.1
  have t1 : (1 : Int64).toInt = 1 := by decide
  induction F with
  | zero => intro n k l acc L v st hr; cases hr
  | succ F ih =>
    intro n k l acc L v st hr hn m a hv ha
    obtain ⟨n, rfl⟩ : ∃ j, n = j + 1 := ⟨n - 1, by omega⟩
    unfold rAll at hr
    cases hcl : rClause false T k l with
    | inl j => rw [hcl] at hr; cases hr
    | inr z =>
      obtain ⟨k3, l3, c⟩ := z
      rw [hcl] at hr
      unfold rClause at hcl
      cases hh0 : rHead false (T.2.1 k) with
      | none => rw [hh0] at hcl; cases hcl
      | some kd =>
        rw [hh0] at hcl
        obtain ⟨c1, c2, c3⟩ := head_f hh0
        have hkT := in_T t (show T.2.1 k ≠ 0 by omega)
        have hbase := m.1
        simp only [] at hcl
        cases hsm : rSumC false T kd (k + 1) l with
        | inl j => rw [hsm] at hcl; cases hcl
        | inr z1 =>
          obtain ⟨k1, l1, D⟩ := z1
          rw [hsm] at hcl
          have htm : rTms false T k1 = .inr (k1, 1) := by unfold rTms; simp
          simp only [htm] at hcl
          cases hif : rIf false T k1 l1 with
          | inl j => rw [hif] at hcl; cases hcl
          | inr z2 =>
            obtain ⟨k3', l3', E⟩ := z2
            rw [hif] at hcl
            have hcc := Sum.inr.inj hcl
            have hk3 : k3' = k3 := (Prod.mk.inj hcc).1
            have hl3 : l3' = l3 := (Prod.mk.inj (Prod.mk.inj hcc).2).1
            have hc : (kd, 1, D, E) = c := (Prod.mk.inj (Prod.mk.inj hcc).2).2
            subst hk3 hl3
            have f0 : FR S_e st (pI (pI st 38 24 0) 38 22 (sI (pI st 38 24 0) 38 22 + 1)) := FR.pI (by rfl) (FR.pI (by rfl) FR.rf)
            have a0 : At8 base (k + 1) false (pI (pI st 38 24 0) 38 22 (sI (pI st 38 24 0) 38 22 + 1)) := by
              refine ⟨by omega, ?_, ?_⟩
              · rw [sI_pI, if_pos ⟨rfl, rfl⟩, sI_pI, if_neg (by omega), a, n_p1]; rfl
              · rw [sI_pI, if_neg (by omega), sI_pI, if_pos ⟨rfl, rfl⟩]; rfl
            -- behind the clause
            have key : ∃ v' u, fX8_tells_b73 (n + 1) (nI h) v st = fX8_tells_b73 n (nI h) v' u ∧ FR S_e st u ∧ sI u 38 22 = nI (base + (k3' + 1)) ∧ v'.toInt = ((tlS f h acc c : Nat) : Int) ∧ k3' ≤ T.1 := by
              rw [fX8_tells_b73, m.2.2.1, a, if_neg (by rw [n_le (by omega) (by omega)]; omega), ← a, codeAt' m (by omega) a, Option.bind_some]
              have e1 : (nI (T.2.1 k) = 1) = (T.2.1 k = 1) := n_eq (b := 1) (by omega) (by omega)
              simp only [e1]
              rw [c3]
              by_cases h0 : kd = 0
              · rw [if_pos (by omega)]
                have hsm' : rSumD false T 8 (k + 1) l = .inr (k1, l1, D) := by
                  rw [← hsm]; unfold rSumC; simp [h0]
                obtain ⟨M1, M2⟩ := sum8 (base := base) (T := T) (o := false) (f := f) t (Nat.le_refl 8)
                obtain ⟨q1, q2, q3⟩ := M1 _ _ _ _ _ hsm'
                obtain ⟨v1, u1, r1, r2, r3, r4⟩ := M2 _ _ _ _ _ hsm' true false _ (m.fr f0) a0
                rw [show (1 : Int32) = b2i true from rfl] at r1 ⊢
                rw [show b2i true = (1 : Int32) from rfl] at r1 ⊢
                rw [r1, Option.bind_some]
                have hD : D f ≠ some BRK := q3 f hf
                obtain ⟨s1, v', u', s2, s3, s4, s5⟩ := tells_mid (x := (D f).getD 0) (v1 := v1) (K := fun zl1 zl7 zst => fX8_tells_b73 n zl1 zl7 zst) t hh (show kd < 4 by omega) hif q2 (m.fr (f0.trans r2)) r3 hv (by
                  intro hb
                  rw [r4]
                  cases e : D f with
                  | none => rw [e] at hb; cases hb
                  | some y => rfl)
                refine ⟨v', u', s2, f0.trans (r2.trans s3), s4, ?_, s1⟩
                rw [s5, ← hc]
                unfold tlS
                simp only [h0, if_true]
                cases e : D f with
                | none => simp [bb]
                | some y =>
                  have hy : ¬ y = BRK := fun q => hD (by rw [e, q])
                  simp [bb, hy]
              · rw [if_neg (by omega)]
                have hsm' : k1 = k + 1 := by
                  unfold rSumC at hsm
                  simp only [Bool.false_eq_true, if_false, h0] at hsm
                  exact (inr3 hsm).1.symm
                subst hsm'
                obtain ⟨s1, v', u', s2, s3, s4, s5⟩ := tells_mid (x := 1) (v1 := 1) (K := fun zl1 zl7 zst => fX8_tells_b73 n zl1 zl7 zst) t hh (show kd < 4 by omega) hif (by omega) (m.fr f0) a0 hv (fun _ => by decide)
                refine ⟨v', u', s2, f0.trans s3, s4, ?_, s1⟩
                rw [s5, ← hc]
                unfold tlS
                have : clamp 1 = 1 := by decide
                simp [h0, this]
            obtain ⟨v', u, e1, e2, e3, e4, e5⟩ := key
            have hb' : tlS f h acc c < 2147483648 := by
              unfold tlS
              have := clamp_b ((c.2.2.1 f).getD BRK)
              split
              · split
                · split
                  · exact ha
                  · omega
                · omega
              · exact ha
            rw [e1]
            by_cases h159 : T.2.1 k3' = 159
            · simp only [h159, if_true] at hr
              cases hr' : rAll false T F (k3' + 1) l3' with
              | inl j => rw [hr'] at hr; cases hr
              | inr L' =>
                rw [hr'] at hr
                have hL : c :: L' = L := Sum.inr.inj hr
                obtain ⟨u', r1, r2⟩ := ih n (k3' + 1) l3' (tlS f h acc c) L' v' u hr' (by omega) (m.fr e2) e3 e4 hb'
                refine ⟨u', ?_, e2.trans r2⟩
                rw [r1, ← hL]; rfl
            · simp only [h159, if_false] at hr
              by_cases hT : T.1 ≤ k3'
              · rw [if_pos hT] at hr
                have hL : [c] = L := Sum.inr.inj hr
                obtain ⟨n, rfl⟩ : ∃ j, n = j + 1 := ⟨n - 1, by omega⟩
                refine ⟨u, ?_, e2⟩
                rw [fX8_tells_b73, (m.fr e2).2.2.1, e3, if_pos (by rw [n_le (by omega) (by omega)]; omega), toI32 e4 hb', ← hL]; rfl
              · rw [if_neg hT] at hr; cases hr
abbrev S_t : List (Nat × Option Nat) := [(38, some 22), (38, some 23), (38, some 24), (38, some 25), (50, none)]
/-- laws that were read -/
def LwOK (x : Rg) : Prop := ∀ i, i < x.1 18 → ∃ L, rLaw (x.2 i) = some L
theorem LwOK.of {st : St} {t : Nat} {x : Rg} (h : Lws st t x) : LwOK x := fun i hi => by
  obtain ⟨q, L, _, _, _, h3, _⟩ := h i hi
  exact ⟨L, h3⟩
theorem asked_ok {st : St} {x : Rg} {r c bt many : Nat} (m : MRg st 40 0 x) (hc : c < 6) : ∃ u, fX8_setsAsked (nI r) (nI c) (nI bt) (nI many) st = some u ∧ FR [(50, none)] st u ∧ ∀ i, i < 7 → sI u 50 i = fct (sx x) (x.1 2) (x.1 15) r c bt many (wL (9 + i)) := by
  unfold fX8_setsAsked
  rw [show (3 : Int32) = nI 3 from rfl, n_add, n_ixb (by omega), decide_eq_true (show 3 + c < 5627 by omega), chk_t, n_toNat (by omega)]
  refine ⟨_, rfl, FR.pI (by rfl) (FR.pI (by rfl) (FR.pI (by rfl) (FR.pI (by rfl) (FR.pI (by rfl) (FR.pI (by rfl) (FR.pI (by rfl) FR.rf)))))), fun i hi => ?_⟩
  have h15 := m.k (show 15 < 19 by omega)
  have h2 := m.k (show 2 < 19 by omega)
  have h3 := m.k (show 3 + c < 19 by omega)
  have hs : sx x (3 + c) = x.1 (3 + c) := sx_e (by omega)
  have hcs : i = 0 ∨ i = 1 ∨ i = 2 ∨ i = 3 ∨ i = 4 ∨ i = 5 ∨ i = 6 := by omega
  rcases hcs with rfl | rfl | rfl | rfl | rfl | rfl | rfl <;> simp [sI_pI, h15, h2, h3, fct, wL, hs]
/-- what is told, by the law in force -/
def telA (x : Rg) (h r c bt many d : Nat) : Nat := match lwF x with
  | none => d | some L => tellF (fct (sx x) (x.1 2) (x.1 15) r c bt many) h L d
theorem tells_ok {st : St} {x : Rg} {h r c bt many d : Nat} (g : GdR x) (lo : LwOK x) (m : MRg st 40 0 x) (hh : 1 ≤ h ∧ h ≤ 4) (hr : r < 5) (hc : c < 6) (hb : bt < 16) (hm : many < 7) (hd : d ≤ 15) : ∃ u, fX8_tells (nI h) (nI r) (nI c) (nI bt) (nI many) (nI d) st = some (nI (telA x h r c bt many d), u) ∧ FR S_t st u := by
  unfold fX8_tells telA
  have h18 := g.2.2.2.2.2.2.2.1
  have h19 := g.2.2.2.2.2.2.2.2.1
  rw [m.f]
  by_cases z : x.1 19 = 0
  · refine ⟨st, ?_, FR.rf⟩
    rw [if_pos (by rw [z]; decide)]
    unfold lwF
    rw [if_pos z]
  · obtain ⟨j, hj⟩ : ∃ j, x.1 19 = j + 1 := ⟨x.1 19 - 1, by omega⟩
    rw [hj, n_pred, if_neg (by
      intro e
      have : nI j < 0 := by rw [e]; decide
      rw [n_neg (by omega)] at this; exact this)]
    obtain ⟨L, hL⟩ := lo j (by omega)
    have hlw : lwF x = some L := by unfold lwF; rw [if_neg z, hj]; exact hL
    rw [hlw]
    obtain ⟨u, e1, e2, e3⟩ := asked_ok (r := r) (bt := bt) (many := many) m hc
    rw [e1, Option.bind_some]
    have h40 := fun i => e2.i (a := 40) (j := i) (hasA_in (by rfl))
    have f40 : sI u 40 19 = nI j := by rw [h40, m.f, hj, n_pred]
    obtain ⟨tk, m1, m2⟩ := m.2.2 j (by omega)
    rw [Nat.zero_add] at m1
    have t400 := tk.1
    simp only [sI_pI, show ¬ (40 = 38 ∧ 19 = 25) by omega, show ¬ (40 = 38 ∧ 19 = 22) by omega, show ¬ (40 = 38) by omega, false_and, if_false, f40, and_self, if_true]
    rw [show (20 : Int32) = nI 20 from rfl, n_add, n_ixb (by omega), decide_eq_true (show 20 + j < 5627 by omega), chk_t, n_toNat (by omega), h40, m1, show (400 : Int32) = nI 400 from rfl, n_mul, n_add]
    have f0 : FR S_t st (pI (pI (pI u 38 25 0) 38 22 (nI (400 * j))) 38 23 (nI (400 * j + (x.2 j).1))) := FR.pI (by rfl) (FR.pI (by rfl) (FR.pI (by rfl) (FR.mono (by rfl) e2)))
    have mc : Mc (400 * j) (x.2 j) false (fct (sx x) (x.1 2) (x.1 15) r c bt many) (pI (pI (pI u 38 25 0) 38 22 (nI (400 * j))) 38 23 (nI (400 * j + (x.2 j).1))) := by
      refine ⟨by omega, tk, by rw [sI_pI, if_pos ⟨rfl, rfl⟩], fun k hk => ?_, ?_, ?_⟩
      · have := m2 k hk
        rw [Nat.zero_add, Nat.zero_add] at this
        simp only [sI_pI, show ¬ (40 = 38) by omega, false_and, if_false, h40]
        exact this
      · simp [sI_pI, b2i]
      · unfold Mf
        simp only [Bool.false_eq_true, if_false]
        intro i hi
        simp only [sI_pI, show ¬ (50 = 38) by omega, false_and, if_false]
        exact e3 i hi
    have hd64 : (nI d).toInt64.toInt = (d : Int) := by rw [Int32.toInt_toInt64, n_toInt (by omega)]
    have hy : sx x (3 + c) ≤ 9 := by rw [sx_e (by omega)]; exact g.2.2.2.2.2.2.2.2.2.1 c hc
    have hr' : rAll false (x.2 j) 12 0 0 = .inr L := by
      unfold rLaw at hL
      cases e : rAll false (x.2 j) 12 0 0 with
      | inl q => rw [e] at hL; cases hL
      | inr L' => rw [e] at hL; rw [Option.some.inj hL]
    obtain ⟨u', r1, r2⟩ := tells_loop (h := h) tk hh (fct_ne (vr := x.1 2) (vm := x.1 15) g.2.2.2.1 g.2.2.2.2.2.2.1 hr hc hb hm hy) 12 FU 0 0 d L (nI d).toInt64 _ hr' (by unfold FU; omega) mc (by simp [sI_pI]) hd64 (by omega)
    exact ⟨u', r1, f0.trans (FR.mono (by rfl) r2)⟩
