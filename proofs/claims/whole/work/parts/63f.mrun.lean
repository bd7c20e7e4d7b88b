/-! orders: the model runs one -/
def TkO (st : St) (T : Tok) : Prop := ∀ k, k < T.1 → sI st 40 (27 + (2400 + k)) = nI (T.2.1 k) ∧ sI st 40 (2827 + (2400 + k)) = nI (T.2.2 k)
theorem mf_of {st : St} {A : All} {dn : Nat} {ls : Int32} (g : Gd A) (m : MRg st 40 0 A.1) (h27 : sI st 38 27 = nI dn) (h28 : sI st 38 28 = ls) : Mf st true (oF A dn ls) := by
  have r : ∀ k, k < 19 → sI st 40 k = nI (A.1.1 k) := fun k hk => by have := m.1 k hk; rw [Nat.zero_add] at this; exact this
  have h64 := b_lt64 g.1
  have h16 := g.1.1
  unfold Mf
  rw [if_pos rfl]
  refine ⟨r 2 (by omega), h27, h28, inside_ok (x := A.1) h64 (r 0 (by omega)), r 1 (by omega), fun k hk => ?_⟩
  rw [oF5 hk, oF11 hk]
  unfold fX8_of
  by_cases c : k < A.1.1 16
  · have ec := mC_in g.1 m c
    rw [if_pos c, if_pos c]
    refine ⟨?_, ?_⟩
    · rw [ec, if_neg one0, if_neg one0, if_pos (show (1 : Int32) = 1 from rfl), r 0 (by omega), shr64 _ h64 k (by omega)]
    · rw [ec, if_neg one0, if_pos (show (0 : Int32) = 0 from rfl), show (3 : Int32) + nI k = nI (3 + k) from n_add 3 k, n_ixb (by omega), decide_eq_true (show 3 + k < 5627 by omega), chk_t, n_toNat (by omega), r (3 + k) (by omega)]
  · rw [mC_out g.1 m (Or.inr ⟨k, by omega, by omega, rfl⟩), if_pos (show (0 : Int32) = 0 from rfl), if_pos (show (0 : Int32) = 0 from rfl), if_neg c, if_neg c]
    exact ⟨rfl, rfl⟩
theorem tms_in {T : Tok} (t : TkE T) {k1 k2 tm : Nat} (hk : k1 ≤ T.1) (h : rTms true T k1 = .inr (k2, tm)) : k2 ≤ T.1 ∧ 1 ≤ tm ∧ tm ≤ 20 := by
  unfold rTms at h
  by_cases q : T.2.1 k1 = 24
  · rw [if_pos ⟨rfl, q⟩] at h
    by_cases q2 : T.2.1 (k1 + 1) = 50 ∧ 1 ≤ T.2.2 (k1 + 1) ∧ T.2.2 (k1 + 1) ≤ 20
    · rw [if_pos q2] at h
      obtain ⟨e1, e2⟩ := Prod.mk.inj (Sum.inr.inj h)
      have := in_T t (k := k1 + 1) (by omega)
      omega
    · rw [if_neg q2] at h; cases h
  · rw [if_neg (fun e => q e.2)] at h
    obtain ⟨e1, e2⟩ := Prod.mk.inj (Sum.inr.inj h)
    omega
theorem sum_in {T : Tok} (t : TkE T) {kd k l k1 l1 : Nat} {D : Dn} (hk : k < T.1) (h : rSumC true T kd (k + 1) l = .inr (k1, l1, D)) : k1 ≤ T.1 ∧ k < k1 := by
  unfold rSumC at h
  simp only [if_true] at h
  by_cases q : kd ≠ 3
  · rw [if_pos q] at h
    have := mo_sumD t 8 _ _ _ _ _ h
    omega
  · rw [if_neg q] at h
    obtain ⟨e1, e2⟩ := Prod.mk.inj (Sum.inr.inj h)
    omega
/-- the model goes along an order -/
theorem along8 {A : All} {dn k l k' l' : Nat} {ls : Int32} {T : Tok} {c : Cls} {st : St} (t : TkE T) (g : Gd A) (m : MRg st 40 0 A.1) (tk : TkO st T) (h27 : sI st 38 27 = nI dn) (h28 : sI st 38 28 = ls) (h47 : sI st 38 47 = nI (2400 + k)) (hc : rClause true T k l = .inr (k', l', c)) (live : Bool) : ∃ u, fX8_goesAlong (nI (2400 + T.1)) (b2i live) st = some u ∧ FR wX8_goesAlong_S st u ∧ sI u 38 22 = nI (2400 + (k' + 1)) ∧ sI u 38 48 = nI c.2.1 ∧ sI u 38 49 = nI (20 + c.1) ∧ (live = true → sI u 38 51 = b2i (sumA c (oF A dn ls)).isSome ∧ (∀ a, sumA c (oF A dn ls) = some a → (sL u 38 53).toInt = a.toInt) ∧ sI u 38 52 = b2i (decide (c.2.2.2 (oF A dn ls) = some 1))) := by
  obtain ⟨hk0, hk4, k1, l1, k2, hs, ht, hi⟩ := cl_inv hc
  have t4 := t.1
  have hkT : k < T.1 := in_T t (by omega)
  obtain ⟨hk1, hk1'⟩ := sum_in t hkT hs
  obtain ⟨hk2, htm⟩ := tms_in t hk1 ht
  suffices hh : ∃ u, fX8_goesAlong (nI (2400 + T.1)) (b2i live) st = some u ∧ sI u 38 22 = nI (2400 + (k' + 1)) ∧ sI u 38 48 = nI c.2.1 ∧ sI u 38 49 = nI (20 + c.1) ∧ (live = true → sI u 38 51 = b2i (sumA c (oF A dn ls)).isSome ∧ (∀ a, sumA c (oF A dn ls) = some a → (sL u 38 53).toInt = a.toInt) ∧ sI u 38 52 = b2i (decide (c.2.2.2 (oF A dn ls) = some 1))) by
    obtain ⟨u, u1, u2⟩ := hh
    exact ⟨u, u1, mX8_goesAlong u1, u2⟩
  have b47 : sI (pI (pI st 38 25 1) 38 23 (nI (2400 + T.1))) 38 47 = nI (2400 + k) := by rw [sI_pI, if_neg (by omega), sI_pI, if_neg (by omega)]; exact h47
  unfold fX8_goesAlong
  rw [b47]
  have fs : FR [(38, some 25), (38, some 23), (38, some 22)] st (pI (pI (pI st 38 25 1) 38 23 (nI (2400 + T.1))) 38 22 (nI (2400 + k))) := FR.pI (by rfl) (FR.pI (by rfl) (FR.pI (by rfl) FR.rf))
  have c22 : sI (pI (pI (pI st 38 25 1) 38 23 (nI (2400 + T.1))) 38 22 (nI (2400 + k))) 38 22 = nI (2400 + k) := by rw [sI_pI, if_pos ⟨rfl, rfl⟩]
  have mc1 : Mc 2400 T true (oF A dn ls) (pI (pI (pI st 38 25 1) 38 23 (nI (2400 + T.1))) 38 22 (nI (2400 + k))) := by
    refine ⟨Nat.le_refl _, t, ?_, fun j hj => ⟨(fs.i (hasA_in (by rfl))).trans (tk j hj).1, (fs.i (hasA_in (by rfl))).trans (tk j hj).2⟩, ?_, mf_of g (MRg_eq (fun j => fs.i (hasA_in (by rfl))) m) ((fs.i (by rfl)).trans h27) ((fs.i (by rfl)).trans h28)⟩
    · rw [sI_pI, if_neg (by omega), sI_pI, if_pos ⟨rfl, rfl⟩]
    · rw [sI_pI, if_neg (by omega), sI_pI, if_neg (by omega), sI_pI, if_pos ⟨rfl, rfl⟩]; rfl
  generalize pI (pI (pI st 38 25 1) 38 23 (nI (2400 + T.1))) 38 22 (nI (2400 + k)) = s1 at *
  rw [codeAt' (k := k) mc1 (by omega) c22, Option.bind_some, hk0]
  have c22' : sI (pI s1 38 49 (nI (20 + c.1))) 38 22 + 1 = nI (2400 + (k + 1)) := by rw [sI_pI, if_neg (by omega), c22, n_p1]; rfl
  rw [c22']
  have f3 : FR S_ga s1 (pI (pI (pI s1 38 49 (nI (20 + c.1))) 38 22 (nI (2400 + (k + 1)))) 38 24 0) := FR.pI (by rfl) (FR.pI (by rfl) (FR.pI (by rfl) FR.rf))
  have a3 : At8 2400 (k + 1) false (pI (pI (pI s1 38 49 (nI (20 + c.1))) 38 22 (nI (2400 + (k + 1)))) 38 24 0) := ⟨by omega, by rw [sI_pI, if_neg (by omega), sI_pI, if_pos ⟨rfl, rfl⟩], by rw [sI_pI, if_pos ⟨rfl, rfl⟩]; rfl⟩
  have c49 : sI (pI (pI (pI s1 38 49 (nI (20 + c.1))) 38 22 (nI (2400 + (k + 1)))) 38 24 0) 38 49 = nI (20 + c.1) := by rw [sI_pI, if_neg (by omega), sI_pI, if_neg (by omega), sI_pI, if_pos ⟨rfl, rfl⟩]
  have mc3 := mc1.ga f3
  generalize pI (pI (pI s1 38 49 (nI (20 + c.1))) 38 22 (nI (2400 + (k + 1)))) 38 24 0 = s3 at *
  rw [c49]
  have e23 : (nI (20 + c.1) = (23 : Int32)) = (c.1 = 3) := by
    rw [show (23 : Int32) = nI 23 from rfl, n_eq (by omega) (by omega)]
    exact propext ⟨fun h => by omega, fun h => by omega⟩
  simp only [e23]
  unfold rSumC at hs
  simp only [if_true] at hs
  by_cases q : c.1 = 3
  · rw [if_pos q]
    rw [if_neg (fun h => h q)] at hs
    obtain ⟨e1, e2⟩ := Prod.mk.inj (Sum.inr.inj hs)
    subst e1
    obtain ⟨u, u1, u2, u3, u4, u5, u6, u7⟩ := b64L (live := live) (v := 0) t mc3 a3 hk1 ht hi
    have es : sumA c (oF A dn ls) = some 0 := by unfold sumA; rw [if_pos q]
    refine ⟨u, u1, u2, u3, u6.trans c49, fun hl => ⟨?_, fun a ha => ?_, u7 hl⟩⟩
    · rw [u4, es]; rfl
    · rw [es] at ha
      rw [u5, ← Option.some.inj ha]; rfl
  · rw [if_neg q]
    rw [if_pos q] at hs
    have es : sumA c (oF A dn ls) = c.2.2.1 (oF A dn ls) := by unfold sumA; rw [if_neg q]
    obtain ⟨v, w, w1, w2, w3, w4⟩ := (sum8 (base := 2400) (o := true) (f := oF A dn ls) t (n := 8) (by omega)).2 _ _ _ _ _ hs live false s3 mc3 a3
    rw [w1, Option.bind_some]
    obtain ⟨u, u1, u2, u3, u4, u5, u6, u7⟩ := b64L (live := live) (v := v) t (mc3.fr w2) w3 hk1 ht hi
    refine ⟨u, u1, u2, u3, (u6.trans (w2.i (by rfl))).trans c49, fun hl => ⟨?_, fun a ha => ?_, u7 hl⟩⟩
    · rw [u4, es]
      subst hl
      cases c.2.2.1 (oF A dn ls) <;> rfl
    · rw [u5, w4]
      rw [es] at ha
      unfold vv
      rw [if_pos ⟨rfl, hl⟩, ha]
/-- what the model obeys -/
theorem act_small {A : All} {kd : Nat} {a : Int32} {x : Int64} (g : Gd A) (h : x.toInt = a.toInt) : actA A kd (fX8_small x) = actA A kd a := by
  have g17 := g.1.2.2.1
  have g16 := g.1.1
  have t0 : (0 : Int64).toInt = 0 := by decide
  have tm : (1000000 : Int64).toInt = 1000000 := by decide
  have neg : actA A kd (-1) = actN A kd 1000000 := by unfold actA; rw [if_pos (by decide)]
  have far : ∀ q, 1000000 < q → actN A kd q = actN A kd 1000000 := by
    intro q hq
    unfold actN
    rw [if_neg (show ¬ (q < A.1.1 17 ∧ 2 ≤ pc (A.1.1 0)) by omega), if_neg (show ¬ (q < A.1.1 16 ∧ bit (A.1.1 0) q = kd - 1) by omega), if_neg (show ¬ (1000000 < A.1.1 17 ∧ 2 ≤ pc (A.1.1 0)) by omega), if_neg (show ¬ (1000000 < A.1.1 16 ∧ bit (A.1.1 0) 1000000 = kd - 1) by omega)]
  have ll : (lg_cmp x 0 < 0) = (x.toInt < 0) := by
    have := lc_ge x 0
    rw [t0] at this
    refine propext ⟨fun e => ?_, fun e => ?_⟩
    · by_cases q : 0 ≤ x.toInt
      · rw [← this] at q; exact absurd q (ge0 e)
      · omega
    · rcases n_cases (lg_cmp x 0) with q | ⟨z, z1, z2⟩
      · exact q
      · have q : (0 : Int32) ≤ lg_cmp x 0 := by rw [z2]; exact n_ge0 z1
        rw [this] at q; omega
  unfold fX8_small
  simp only [ll, lc_le, tm]
  rcases n_cases a with ha | ⟨q, hq, rfl⟩
  · have i0 : a.toInt < 0 := by rw [Int32.lt_iff_toInt_lt] at ha; exact ha
    rw [if_pos (by omega), neg]
    unfold actA; rw [if_pos ha]
  · have hx : x.toInt = (q : Int) := by rw [h, n_toInt hq]
    rw [if_neg (by omega)]
    by_cases d : q ≤ 1000000
    · rw [if_pos (by omega)]
      have : x.toInt32 = nI q := by
        apply Int32.toInt_inj.mp
        rw [n_toInt hq, Int64.toInt_toInt32, hx]
        exact Int.bmod_eq_of_le (by omega) (by omega)
      rw [this]
    · rw [if_neg (by omega), neg, act_n hq, far q (by omega)]
abbrev S_ob : List (Nat × Option Nat) := (38, some 28) :: S_am
theorem obeys8 {st : St} {A : All} {kd : Nat} {a : Int32} (g : Gd A) (lo : LwOK A.1) (m : MV st A) (hk : kd < 4) (h49 : sI st 38 49 = nI (20 + kd)) (h53 : (sL st 38 53).toInt = a.toInt) : match actA A kd a with | none => ∃ v u, fX8_obeys st = some (v, u) ∧ v < 0 ∧ MV u A ∧ FR S_ob st u | some (v, A') => ∃ u, fX8_obeys st = some (nI v, u) ∧ MV u A' ∧ sI u 38 28 = (if kd = 0 then nI v else sI st 38 28) ∧ FR S_ob st u := by
  have e21 : (nI (20 + kd) = (21 : Int32)) = (kd = 1) := by
    rw [show (21 : Int32) = nI 21 from rfl, n_eq (by omega) (by omega)]; exact propext ⟨fun h => by omega, fun h => by omega⟩
  have e22 : (nI (20 + kd) = (22 : Int32)) = (kd = 2) := by
    rw [show (22 : Int32) = nI 22 from rfl, n_eq (by omega) (by omega)]; exact propext ⟨fun h => by omega, fun h => by omega⟩
  have e23 : (nI (20 + kd) = (23 : Int32)) = (kd = 3) := by
    rw [show (23 : Int32) = nI 23 from rfl, n_eq (by omega) (by omega)]; exact propext ⟨fun h => by omega, fun h => by omega⟩
  have ac := act_m (a := fX8_small (sL st 38 53)) g lo m hk
  have hs := act_small (A := A) (kd := kd) g h53
  rw [hs] at ac
  have eo : fX8_obeys st = if kd = 0 then ((fX8_saysKept (fX8_small (sL st 38 53)) st).bind (fun q4 => if 0 ≤ q4.1 then (some (q4.1, pI q4.2 38 28 q4.1)) else (some (q4.1, pI q4.2 38 28 (sI q4.2 38 28))))) else actM kd (fX8_small (sL st 38 53)) st := by
    unfold fX8_obeys actM
    rw [h49]
    simp only [e21, e22, e23]
    have hc : kd = 0 ∨ kd = 1 ∨ kd = 2 ∨ kd = 3 := by omega
    rcases hc with rfl | rfl | rfl | rfl <;> simp
  rw [eo]
  have f28 : ∀ (u : St) (v : Int32), FR [(38, some 28)] u (pI u 38 28 v) := fun u v => FR.pI (by rfl) FR.rf
  cases hy : actA A kd a with
  | none =>
    rw [hy] at ac
    obtain ⟨v, v1, v2⟩ := ac
    by_cases q : kd = 0
    · subst q
      rw [if_pos rfl]
      rw [show fX8_saysKept (fX8_small (sL st 38 53)) st = _ from v1, Option.bind_some, if_neg (ge0 v2)]
      exact ⟨v, _, rfl, v2, MV_x (by rfl) (by rfl) (f28 st _) m, FR.mono (by rfl) (f28 st _)⟩
    · rw [if_neg q, v1]
      exact ⟨v, st, rfl, v2, m, FR.rf⟩
  | some z =>
    obtain ⟨v, A'⟩ := z
    rw [hy] at ac
    obtain ⟨u, v1, v2, v3⟩ := ac
    obtain ⟨k1, k2, k3⟩ := act_sm g hk hy
    by_cases q : kd = 0
    · subst q
      rw [if_pos rfl]
      rw [show fX8_saysKept (fX8_small (sL st 38 53)) st = _ from v1, Option.bind_some, if_pos (n_ge0 k3)]
      exact ⟨_, rfl, MV_x (by rfl) (by rfl) (f28 u _) v2, by rw [sI_pI, if_pos ⟨rfl, rfl⟩, if_pos rfl], (FR.mono (by rfl) v3 : FR S_ob st u).trans (FR.mono (by rfl) (f28 u _))⟩
    · rw [if_neg q]
      exact ⟨u, v1, v2, by rw [if_neg q, v3.i (by rfl)], FR.mono (by rfl) v3⟩
