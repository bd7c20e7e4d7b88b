/-! a law asked by the class -/
def Ec (s : St) (q : Nat) (L : List Cls) (f : Nat → Int32) : Prop := sR s 19 7 = some q ∧ 65 ≤ q ∧ q + 6 ≤ sn s ∧ Impl 7 (scr s q) L ∧ (∀ w, w < 7 → sI s 20 w = f w) ∧ sN s 20 = 7 ∧ sN s 21 = 40
theorem Ec.fr {s u : St} {q : Nat} {L : List Cls} {f : Nat → Int32} (h : Ec s q L f) (r : FR [(21, none)] s u) : Ec u q L f := by
  obtain ⟨h1, h2, h3, h4, h5, h6, h7⟩ := h
  have hh : Hi s u := Hi.fr (fun a j c => lowS_in (S := [(21, none)]) (by rfl) (by omega)) r
  refine ⟨(r.r (by rfl)).trans h1, h2, by rw [r.1.1]; exact h3, by rw [scr_eq hh h2 h3]; exact h4, fun w hw => (r.i (hasA_in (by rfl))).trans (h5 w hw), by rw [(r.1.2.1 20).2]; exact h6, by rw [(r.1.2.1 21).2]; exact h7⟩
theorem n_inj {a b : Nat} (ha : a < 2147483648) (hb : b < 2147483648) (h : nI a = nI b) : a = b := by rwa [n_eq ha hb] at h
theorem scr_i {s : St} {q i j : Nat} (h : i < 6) : scr s q i j = sI s (q + i) j := if_pos h
theorem imp_wc {nf : Nat} {f : Nat → Int32} {s : St} {q fa sk sz cap : Nat} (h1 : sz ≤ 826) (h2 : sz ≤ cap) (h3 : cap ≤ 1000) (h4 : scr s q 6 0 = nI cap) (h5 : scr s q 0 6 = nI sz) (k1 : sN s sk = 40) (k2 : sN s fa = nf) (k3 : ∀ w, w < nf → sI s fa w = f w) (k4 : sk ≠ q) (k5 : sk ≠ q + 5) (k6 : sk ≠ fa) : Wc nf f s q fa sk sz := by
  refine ⟨h5, h1, ?_, k1, k2, k3, k4, k5, k6⟩
  have e : nI (min (sN s (q + 5)) 1000) = nI cap := h4
  have := n_inj (by omega) (by omega) e
  omega
theorem ev_cod {s : St} {q sz : Nat} {f : Nat → Int32} {v : Int32} {D : Dn} (w : Wc 7 f s q 20 21 sz) (h : Cod 7 (scr s q) sz v D) : ∃ u, fX5_worth q v 20 21 s = some ((D f).getD BRK, u) ∧ FR [(21, none)] s u := by
  obtain ⟨p, p1, rfl, h1, h2, h3, h4⟩ := h
  obtain ⟨u, e, _⟩ := seg_run h4 h3 w (fun j _ _ => (scr_i (by omega)).symm) h2 h1 (by omega)
  exact ⟨u, e, mX5_worth e⟩
theorem imp_k {nf : Nat} {C : Nat → Nat → Int32} {L : List Cls} {i : Nat} {c : Cls} (h : Impl nf C L) (hc : L[i]? = some c) : C 1 i = nI c.1 ∧ c.1 < 4 ∧ i < 12 := by
  obtain ⟨i1, i2, sz, cap, ku, h1, h2, h3, h4, h5, h6, h7, h8, h9, h10⟩ := h
  have := (List.getElem?_eq_some_iff.mp hc).1
  exact ⟨(h9 i c hc).1, (h9 i c hc).2.2.1, by omega⟩
theorem ev_test {s : St} {q i : Nat} {L : List Cls} {f : Nat → Int32} {c : Cls} (e : Ec s q L f) (hc : L[i]? = some c) : (sI s (q + 4) i = 0 ∧ c.2.2.2 f = some 1) ∨ (¬ sI s (q + 4) i = 0 ∧ ∃ u, fX5_worth q (sI s (q + 4) i) 20 21 s = some ((c.2.2.2 f).getD BRK, u) ∧ FR [(21, none)] s u) := by
  obtain ⟨e1, e2, e3, ⟨i1, i2, sz, cap, ku, h1, h2, h3, h4, h5, h6, h7, h8, h9, h10⟩, e5, e6, e7⟩ := e
  have hw : Wc 7 f s q 20 21 sz := imp_wc h1 h2 h3 h4 h5 e7 e6 e5 (by omega) (by omega) (by omega)
  obtain ⟨_, _, _, _, _, t⟩ := h9 i c hc
  rw [show scr s q 4 i = sI s (q + 4) i from scr_i (by omega)] at t
  rcases t with ⟨t1, t2⟩ | t
  · exact Or.inl ⟨t1, by rw [t2]; rfl⟩
  · by_cases z : sI s (q + 4) i = 0
    · exfalso
      obtain ⟨p, p1, hp, h1', h2', _, hs⟩ := t
      have := hs.1
      rw [z] at hp
      have := n_inj (a := 0) (by omega) (by omega) hp
      omega
    · exact Or.inr ⟨z, ev_cod hw t⟩
theorem ev_sum {s : St} {q i : Nat} {L : List Cls} {f : Nat → Int32} {c : Cls} (e : Ec s q L f) (hc : L[i]? = some c) (h0 : c.1 = 0) : ∃ u, fX5_worth q (sI s (q + 3) i) 20 21 s = some ((c.2.2.1 f).getD BRK, u) ∧ FR [(21, none)] s u := by
  obtain ⟨e1, e2, e3, ⟨i1, i2, sz, cap, ku, h1, h2, h3, h4, h5, h6, h7, h8, h9, h10⟩, e5, e6, e7⟩ := e
  have hw : Wc 7 f s q 20 21 sz := imp_wc h1 h2 h3 h4 h5 e7 e6 e5 (by omega) (by omega) (by omega)
  obtain ⟨_, _, _, _, t, _⟩ := h9 i c hc
  rw [show scr s q 3 i = sI s (q + 3) i from scr_i (by omega), h0] at t
  rcases t with ⟨t1, t2⟩ | ⟨t1, t2⟩
  · cases t1
  · exact ev_cod hw t2
theorem gt1 {o : Option Int32} : (o.getD BRK = 1) = (o = some 1) := by
  cases o with
  | none => exact eq_false (by decide) |>.trans (eq_false (by intro h; cases h)).symm
  | some v => simp
/-- whether a clause of a kind holds, clauses from one on -/
def soF (L : List Cls) (k : Nat) (f : Nat → Int32) (i : Nat) : Bool := (L.drop i).any (fun c => c.1 == k && c.2.2.2 f == some 1)
theorem soF_0 {L : List Cls} {k : Nat} {f : Nat → Int32} : soF L k f 0 = soL L k f := rfl
theorem soF_s {L : List Cls} {k : Nat} {f : Nat → Int32} {i : Nat} {c : Cls} (h : L[i]? = some c) : soF L k f i = ((c.1 == k && c.2.2.2 f == some 1) || soF L k f (i + 1)) := by
  unfold soF
  obtain ⟨hi, hc⟩ := List.getElem?_eq_some_iff.mp h
  rw [List.drop_eq_getElem_cons hi, List.any_cons, hc]
theorem soF_e {L : List Cls} {k : Nat} {f : Nat → Int32} {i : Nat} (h : L.length ≤ i) : soF L k f i = false := by
  unfold soF
  rw [List.drop_eq_nil_of_le h]; rfl
def b2i (b : Bool) : Int32 := if b = true then 1 else 0
theorem so_loop {q k : Nat} {L : List Cls} {f : Nat → Int32} (hk : k < 4) {cl kp : Int32} : ∀ (d n i : Nat) (s : St), i + d = L.length → d + 1 < n → Ec s q L f → ∃ u, fX6_isSo_b133 n (nI k) cl kp 0 (nI i) s = fX6_isSo_b215 (nI k) cl kp (b2i (soF L k f i)) u ∧ FR [(21, none)] s u := by
  intro d
  induction d with
  | zero =>
    intro n i s h1 h2 e
    obtain ⟨n, rfl⟩ : ∃ m, n = m + 1 := ⟨n - 1, by omega⟩
    have e5 : sI s q 5 = nI L.length := e.2.2.2.1.2.1
    have hl := e.2.2.2.1.1
    refine ⟨s, ?_, FR.rf⟩
    rw [fX6_isSo_b133, e.1]
    simp only [optE, e5]
    rw [if_pos (by rw [n_le (by omega) (by omega)]; omega), soF_e (by omega)]; rfl
  | succ d ih =>
    intro n i s h1 h2 e
    obtain ⟨n, rfl⟩ : ∃ m, n = m + 1 := ⟨n - 1, by omega⟩
    have e5 : sI s q 5 = nI L.length := e.2.2.2.1.2.1
    have hl := e.2.2.2.1.1
    have hi : i < L.length := by omega
    have hc : L[i]? = some L[i] := List.getElem?_eq_some_iff.mpr ⟨hi, rfl⟩
    generalize hcc : L[i] = c at hc
    obtain ⟨k1, k2, k3⟩ := imp_k e.2.2.2.1 hc
    have k1' : sI s (q + 1) i = nI c.1 := (scr_i (s := s) (q := q) (by omega)).symm.trans k1
    rw [fX6_isSo_b133, e.1, soF_s hc]
    simp only [optE, e5]
    rw [if_neg (by rw [n_le (by omega) (by omega)]; omega), if_pos trivial, n_ixb (by omega), decide_eq_true k3, chk_t, chk_t, n_toNat (by omega), k1']
    have go1 : ∀ s' : St, sR s' 19 7 = some q → FR [(21, none)] s s' → ∃ u, fX6_isSo_b202 (fun zl1 zl6 zl7 zl8 zl9 zst => fX6_isSo_b133 n zl1 zl6 zl7 zl8 zl9 zst) (nI k) cl kp (nI i) s' = fX6_isSo_b215 (nI k) cl kp 1 u ∧ FR [(21, none)] s u := by
      intro s' h f'
      unfold fX6_isSo_b202 fX6_isSo_b207
      obtain ⟨n, rfl⟩ : ∃ m, n = m + 1 := ⟨n - 1, by omega⟩
      refine ⟨s', ?_, f'⟩
      show fX6_isSo_b133 (n + 1) (nI k) cl kp 1 (nI i + 1) s' = _
      rw [fX6_isSo_b133, h]
      simp only [optE, show ((1 : Int32) = 0) = False by decide, if_false]
      split <;> rfl
    have go0 : ∀ s' : St, Ec s' q L f → FR [(21, none)] s s' → ∃ u, fX6_isSo_b206 (fun zl1 zl6 zl7 zl8 zl9 zst => fX6_isSo_b133 n zl1 zl6 zl7 zl8 zl9 zst) (nI k) cl kp (nI i) s' = fX6_isSo_b215 (nI k) cl kp (b2i (soF L k f (i + 1))) u ∧ FR [(21, none)] s u := by
      intro s' h f'
      unfold fX6_isSo_b206 fX6_isSo_b207
      obtain ⟨u, r1, r2⟩ := ih n (i + 1) s' (by omega) (by omega) h
      rw [n_p1]
      exact ⟨u, r1, f'.trans r2⟩
    have ek : (nI c.1 = nI k) = (c.1 = k) := n_eq (by omega) (by omega)
    simp only [ek]
    by_cases ck : c.1 = k
    · rw [if_pos ck]
      have cb : (c.1 == k) = true := by rw [ck]; exact beq_self_eq_true k
      rcases ev_test e hc with ⟨t1, t2⟩ | ⟨t1, u, t2, t3⟩
      · rw [if_pos t1, t2, cb]
        exact go1 s e.1 FR.rf
      · rw [if_neg t1, t2]
        simp only [Option.bind_some, gt1]
        by_cases z : c.2.2.2 f = some 1
        · rw [if_pos z, z, cb]
          exact go1 u ((t3.r (by rfl)).trans e.1) t3
        · have zb : (c.2.2.2 f == some 1) = false := beq_eq_false_iff_ne.mpr z
          rw [if_neg z, zb, cb]
          exact go0 u (e.fr t3) t3
    · have cb : (c.1 == k) = false := beq_eq_false_iff_ne.mpr ck
      rw [if_neg ck, cb]
      exact go0 s e FR.rf
theorem clamp15 : ∀ m, m < 16 → jmax 1 (jmin 15 (nI m)) = nI (clamp (nI m)) := by decide +kernel
theorem clamp_ok (v : Int32) : jmax 1 (jmin 15 v) = nI (clamp v) := by
  have t1 : (1 : Int32).toInt = 1 := by decide
  have t15 : (15 : Int32).toInt = 15 := by decide
  have t0 : (0 : Int32).toInt = 0 := by decide
  by_cases c : 0 ≤ v.toInt ∧ v.toInt < 16
  · obtain ⟨m, hm, rfl⟩ : ∃ m, m < 2147483648 ∧ v = nI m := by
      rcases n_cases v with h | h
      · rw [Int32.lt_iff_toInt_lt] at h; omega
      · exact h
    rw [n_toInt hm] at c
    exact clamp15 m (by omega)
  · unfold jmax jmin clamp
    simp only [Int32.lt_iff_toInt_lt, t1, t15]
    by_cases c1 : v.toInt < 1
    · rw [if_pos (show v.toInt < 15 by omega), if_neg (by omega), if_pos c1]; rfl
    · rw [if_neg (show ¬ v.toInt < 15 by omega), if_pos (by rw [t15]; omega), if_neg c1, if_pos (by omega)]; rfl
/-- how many beats, by clauses from one downwards -/
theorem len_loop {q r0 : Nat} {L : List Cls} {f : Nat → Int32} : ∀ (d n : Nat) (s : St), d ≤ L.length → d < n → Ec s q L f → ∃ u, fX6_lengthOf_b51 n (nI r0) (nI d - 1) s = some (nI (lenL (L.take d) f r0), u) ∧ FR [(21, none)] s u := by
  intro d
  induction d with
  | zero =>
    intro n s h1 h2 e
    obtain ⟨n, rfl⟩ : ∃ m, n = m + 1 := ⟨n - 1, by omega⟩
    refine ⟨s, ?_, FR.rf⟩
    rw [fX6_lengthOf_b51, if_pos (by decide)]; rfl
  | succ d ih =>
    intro n s h1 h2 e
    obtain ⟨n, rfl⟩ : ∃ m, n = m + 1 := ⟨n - 1, by omega⟩
    have hl := e.2.2.2.1.1
    have hi : d < L.length := by omega
    have hc : L[d]? = some L[d] := List.getElem?_eq_some_iff.mpr ⟨hi, rfl⟩
    have ht : L.take (d + 1) = L.take d ++ [L[d]] := by rw [List.take_add_one, hc]; rfl
    generalize hcc : L[d] = c at hc ht
    obtain ⟨k1, k2, k3⟩ := imp_k e.2.2.2.1 hc
    have k1' : sI s (q + 1) d = nI c.1 := (scr_i (s := s) (q := q) (by omega)).symm.trans k1
    have hll : lenL (L.take (d + 1)) f r0 = lenS f (lenL (L.take d) f r0) c := by
      unfold lenL; rw [ht, List.foldl_append]; rfl
    rw [n_pred, fX6_lengthOf_b51, e.1, hll]
    simp only [optE]
    rw [if_neg (by rw [n_neg (by omega)]; exact id), n_ixb (by omega), decide_eq_true k3, chk_t, chk_t, n_toNat (by omega), k1']
    have go0 : ∀ s' : St, Ec s' q L f → FR [(21, none)] s s' → ∃ u, fX6_lengthOf_b153 (fun zl4 zl5 zst => fX6_lengthOf_b51 n zl4 zl5 zst) (nI r0) (nI d) s' = some (nI (lenL (L.take d) f r0), u) ∧ FR [(21, none)] s u := by
      intro s' h f'
      unfold fX6_lengthOf_b153
      obtain ⟨u, r1, r2⟩ := ih n s' (by omega) (by omega) h
      rw [show nI d + -1 = nI d - 1 by rw [Int32.sub_eq_add_neg]]
      exact ⟨u, r1, f'.trans r2⟩
    have go1 : ∀ s' : St, c.1 = 0 → Ec s' q L f → FR [(21, none)] s s' → ∃ u, fX6_lengthOf_b107 (fun zl4 zl5 zst => fX6_lengthOf_b51 n zl4 zl5 zst) (nI r0) (nI d) s' = some (nI (if (c.2.2.1 f).getD BRK = BRK then lenL (L.take d) f r0 else clamp ((c.2.2.1 f).getD BRK)), u) ∧ FR [(21, none)] s u := by
      intro s' h0 h f'
      unfold fX6_lengthOf_b107
      obtain ⟨u, r1, r2⟩ := ev_sum h hc h0
      rw [h.1]
      simp only [optE]
      rw [n_ixb (by omega), decide_eq_true k3, chk_t, n_toNat (by omega), r1, Option.bind_some]
      by_cases nv : (c.2.2.1 f).getD BRK = BRK
      · simp only [nv, if_true]
        exact go0 u (h.fr r2) (f'.trans r2)
      · simp only [nv, if_false]
        refine ⟨u, ?_, f'.trans r2⟩
        rw [clamp_ok]
    have z0 : (nI c.1 = 0) = (c.1 = 0) := n_eq (b := 0) (by omega) (by omega)
    simp only [z0]
    unfold lenS
    by_cases ck : c.1 = 0
    · rw [if_pos ck]
      rcases ev_test e hc with ⟨t1, t2⟩ | ⟨t1, u, t2, t3⟩
      · rw [if_pos t1, if_pos ⟨ck, t2⟩]
        exact go1 s ck e FR.rf
      · rw [if_neg t1, t2]
        simp only [Option.bind_some, gt1]
        by_cases z : c.2.2.2 f = some 1
        · rw [if_pos z, if_pos ⟨ck, z⟩]
          exact go1 u ck (e.fr t3) t3
        · rw [if_neg z, if_neg (fun h => z h.2)]
          exact go0 u (e.fr t3) t3
    · rw [if_neg ck, if_neg (fun h => ck h.1)]
      exact go0 s e FR.rf
