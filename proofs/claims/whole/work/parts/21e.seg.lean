/-! codes that push what is told -/
abbrev BRK : Int32 := -2000000000
def Sg1 (p p' top s : Nat) (D : Dn) (f : Nat → Int32) (st : St) (t fa sk : Nat) : Prop :=
  ∃ m u, m ≤ p' - p ∧ Sk sk st u ∧ (∀ j, j < top → sI u sk j = sI st sk j) ∧
    ((D f = none ∧ ∀ n, fX5_worth_b9 (n + m) t fa sk (nI p) (nI top) (nI s) st = some (BRK, u)) ∨
    ∃ v, D f = some v ∧ sI u sk top = v ∧ ∀ n, fX5_worth_b9 (n + m) t fa sk (nI p) (nI top) (nI s) st = fX5_worth_b9 n t fa sk (nI p') (nI (top + 1)) (nI (s + m)) u)
def Seg (nf : Nat) (code : Nat → Int32) (p p' nd : Nat) (D : Dn) : Prop :=
  p < p' ∧ 2 ≤ nd ∧ ∀ (st : St) (t fa sk sz top s : Nat) (f : Nat → Int32), Wc nf f st t fa sk sz → (∀ j, p ≤ j → j < p' → sI st (t + 5) j = code j) → p' ≤ sz → 1 ≤ p → s ≤ p → top + nd ≤ 40 → Sg1 p p' top s D f st t fa sk
theorem Seg.mono {nf p p' nd nd' : Nat} {code : Nat → Int32} {D : Dn} (h : Seg nf code p p' nd D) (hn : nd ≤ nd') : Seg nf code p p' nd' D :=
  ⟨h.1, by have := h.2.1; omega, fun st t fa sk sz top s f w a b c d e => h.2.2 st t fa sk sz top s f w a b c d (by omega)⟩
theorem Seg.eq {nf p p' nd : Nat} {code code' : Nat → Int32} {D : Dn} (h : Seg nf code p p' nd D) (hc : ∀ j, p ≤ j → j < p' → code' j = code j) : Seg nf code' p p' nd D :=
  ⟨h.1, h.2.1, fun st t fa sk sz top s f w a b c d e => h.2.2 st t fa sk sz top s f w (fun j h1 h2 => (a j h1 h2).trans (hc j h1 h2)) b c d e⟩
theorem seg_num {nf p : Nat} {code : Nat → Int32} {v : Int32} (h0 : code p = 1) (h1 : code (p + 1) = v) : Seg nf code p (p + 2) 2 (dNum v) := by
  refine ⟨by omega, by omega, fun st t fa sk sz top s f w a b c d e => ⟨1, _, by omega, Sk.p (v := v) (j := top), fun j hj => by rw [sI_pI, if_neg (by omega)], Or.inr ⟨v, rfl, by rw [sI_pI, if_pos ⟨rfl, rfl⟩], fun n => ?_⟩⟩⟩
  rw [w_num w c (by omega) (by omega) d ((a p (by omega) (by omega)).trans h0), (a (p + 1) (by omega) (by omega)).trans h1]
theorem seg_wrd {nf p w0 : Nat} {code : Nat → Int32} (h0 : code p = 2) (h1 : code (p + 1) = nI w0) (hw : w0 < nf) (hf : nf ≤ 17) : Seg nf code p (p + 2) 2 (dWrd w0) := by
  refine ⟨by omega, by omega, fun st t fa sk sz top s f w a b c d e => ⟨1, _, by omega, Sk.p (v := f w0) (j := top), fun j hj => by rw [sI_pI, if_neg (by omega)], Or.inr ⟨f w0, rfl, by rw [sI_pI, if_pos ⟨rfl, rfl⟩], fun n => ?_⟩⟩⟩
  rw [w_wrd w c (by omega) (by omega) d ((a p (by omega) (by omega)).trans h0) ((a (p + 1) (by omega) (by omega)).trans h1) hw hf]
theorem sgn_ne {s : Nat} (hs : isJ s) : ¬ nI (s - 100) = 1 ∧ ¬ nI (s - 100) = 2 ∧ ¬ nI (s - 100) = 3 ∧ ¬ nI (s - 100) = 4 ∧ ¬ nI (s - 100) = 5 ∧ ¬ nI (s - 100) = 0 := by
  rcases hs with rfl | rfl | rfl | rfl | rfl | rfl | rfl | rfl <;> decide
theorem w_jn {nf : Nat} {f : Nat → Int32} {st : St} {t fa sk sz p top s n c : Nat} (h : Wc nf f st t fa sk sz) (h4 : 1 ≤ p) (h5 : p < sz) (h6 : top + 2 < 40) (h7 : s ≤ p) (hs : isJ c) (hc : sI st (t + 5) p = nI (c - 100)) : fX5_worth_b9 (n + 1) t fa sk (nI p) (nI (top + 2)) (nI s) st = match jn c (sI st sk top) (sI st sk (top + 1)) with | none => some (BRK, st) | some v => fX5_worth_b9 n t fa sk (nI (p + 1)) (nI (top + 1)) (nI (s + 1)) (pI st sk top v) := by
  rw [w_go h h4 (by omega) h6 h7, hc]
  obtain ⟨n1, n2, n3, n4, n5, n0⟩ := sgn_ne hs
  have l1 : (1 : Int32) ≤ nI (top + 2) := by rw [show (1 : Int32) = nI 1 from rfl, n_le (by omega) (by omega)]; omega
  have l2 : (2 : Int32) ≤ nI (top + 2) := by rw [show (2 : Int32) = nI 2 from rfl, n_le (by omega) (by omega)]; omega
  rw [fX5_worth_b72, if_neg n1, if_neg n2, fX5_worth_b126, if_pos l1, if_neg n3, if_neg n4, if_neg n5, if_neg n0, if_pos l2]
  simp only [n_one (show 1 ≤ top + 2 by omega), n_two (show 2 ≤ top + 2 by omega), show top + 2 - 1 = top + 1 by omega, show top + 2 - 2 = top by omega, h.2.2.2.1, n_ixb (show top < 2147483648 by omega), n_ixb (show top + 1 < 2147483648 by omega), show top < 40 by omega, show top + 1 < 40 by omega, decide_true, chk_t, n_toNat (show top < 2147483648 by omega), n_toNat (show top + 1 < 2147483648 by omega)]
  rw [joined_ok hs, Option.bind_some]
  unfold fX5_worth_b285
  cases e : jn c (sI st sk top) (sI st sk (top + 1)) with
  | none => simp only [Option.getD_none, if_true]
  | some v =>
    have hv : ¬ v = BRK := fun q => jn_ne (by rw [e, q])
    simp only [Option.getD_some, hv, if_false, n_m1 (show 1 ≤ top + 2 by omega), show top + 2 - 1 = top + 1 by omega, n_one (show 1 ≤ top + 1 by omega), Nat.add_sub_cancel, h.2.2.2.1, n_ixb (show top < 2147483648 by omega), show top < 40 by omega, decide_true, chk_t, n_toNat (show top < 2147483648 by omega), fX5_worth_b311, n_p1, kW]
theorem seg_jn {nf p p1 p2 nd nd' c : Nat} {code : Nat → Int32} {D E : Dn} (h1 : Seg nf code p p1 nd D) (h2 : Seg nf code p1 p2 nd' E) (hs : isJ c) (hc : code p2 = nI (c - 100)) (k1 : nd ≤ nd' + 1) : Seg nf code p (p2 + 1) (nd' + 1) (dJn c D E) := by
  have q1 := h1.1
  have q2 := h2.1
  have q3 := h2.2.1
  refine ⟨by omega, by omega, fun st t fa sk sz top s f w a b c0 d e => ?_⟩
  obtain ⟨m, u, hm, hu, hk, hr⟩ := h1.2.2 st t fa sk sz top s f w (fun j h3 h4 => a j h3 (by omega)) (by omega) c0 d (by omega)
  rcases hr with ⟨e1, e2⟩ | ⟨v, e1, e2, e3⟩
  · exact ⟨m, u, by omega, hu, hk, Or.inl ⟨by unfold dJn; rw [e1], e2⟩⟩
  · have wu := w.sk hu
    have cu : ∀ j, sI u (t + 5) j = sI st (t + 5) j := fun j => hu.1 _ _ (Ne.symm w.2.2.2.2.2.2.2.1)
    obtain ⟨m', u', hm', hu', hk', hr'⟩ := h2.2.2 u t fa sk sz (top + 1) (s + m) f wu (fun j h3 h4 => (cu j).trans (a j (by omega) (by omega))) (by omega) (by omega) (by omega) (by omega)
    rcases hr' with ⟨e1', e2'⟩ | ⟨v', e1', e2', e3'⟩
    · refine ⟨m' + m, u', by omega, hu.tr hu', fun j hj => (hk' j (by omega)).trans (hk j hj), Or.inl ⟨by unfold dJn; rw [e1]; simp only [e1'], fun n => ?_⟩⟩
      rw [← Nat.add_assoc, e3 (n + m'), e2']
    · have wu' := wu.sk hu'
      have cu' : ∀ j, sI u' (t + 5) j = sI st (t + 5) j := fun j => (hu'.1 _ _ (Ne.symm w.2.2.2.2.2.2.2.1)).trans (cu j)
      have st1 : ∀ n, fX5_worth_b9 (n + (1 + (m' + m))) t fa sk (nI p) (nI top) (nI s) st = match jn c v v' with | none => some (BRK, u') | some x => fX5_worth_b9 n t fa sk (nI (p2 + 1)) (nI (top + 1)) (nI (s + m + m' + 1)) (pI u' sk top x) := by
        intro n
        rw [show n + (1 + (m' + m)) = n + 1 + m' + m by omega, e3 (n + 1 + m'), e3' (n + 1), show top + 1 + 1 = top + 2 from rfl, w_jn wu' (by omega) (by omega) (by omega) (by omega) hs ((cu' p2).trans ((a p2 (by omega) (by omega)).trans hc)), e2', hk' top (by omega), e2]
      cases ej : jn c v v' with
      | none =>
        refine ⟨1 + (m' + m), u', by omega, hu.tr hu', fun j hj => (hk' j (by omega)).trans (hk j hj), Or.inl ⟨by unfold dJn; rw [e1]; simp only [e1', ej], fun n => ?_⟩⟩
        rw [st1 n, ej]
      | some x =>
        refine ⟨1 + (m' + m), pI u' sk top x, by omega, (hu.tr hu').tr Sk.p, fun j hj => ?_, Or.inr ⟨x, by unfold dJn; rw [e1]; simp only [e1', ej], by rw [sI_pI, if_pos ⟨rfl, rfl⟩], fun n => ?_⟩⟩
        · rw [sI_pI, if_neg (by omega)]; exact (hk' j (by omega)).trans (hk j hj)
        · rw [st1 n, ej, show s + (1 + (m' + m)) = s + m + m' + 1 by omega]
theorem seg_not {nf p p1 nd : Nat} {code : Nat → Int32} {D : Dn} (h1 : Seg nf code p p1 nd D) (hc : code p1 = 5) : Seg nf code p (p1 + 1) nd (dNot true D) := by
  have q1 := h1.1
  have q3 := h1.2.1
  refine ⟨by omega, by omega, fun st t fa sk sz top s f w a b c0 d e => ?_⟩
  obtain ⟨m, u, hm, hu, hk, hr⟩ := h1.2.2 st t fa sk sz top s f w (fun j h3 h4 => a j h3 (by omega)) (by omega) c0 d (by omega)
  rcases hr with ⟨e1, e2⟩ | ⟨v, e1, e2, e3⟩
  · exact ⟨m, u, by omega, hu, hk, Or.inl ⟨by simp [dNot, e1], e2⟩⟩
  · have cu : ∀ j, sI u (t + 5) j = sI st (t + 5) j := fun j => hu.1 _ _ (Ne.symm w.2.2.2.2.2.2.2.1)
    refine ⟨1 + m, pI u sk top (1 - v), by omega, hu.tr Sk.p, fun j hj => by rw [sI_pI, if_neg (by omega)]; exact hk j hj, Or.inr ⟨1 - v, by simp [dNot, e1], by rw [sI_pI, if_pos ⟨rfl, rfl⟩], fun n => ?_⟩⟩
    rw [← Nat.add_assoc, e3 (n + 1), w_not (w.sk hu) (by omega) (by omega) (by omega) (by omega) ((cu p1).trans ((a p1 (by omega) (by omega)).trans hc)), e2, show s + (1 + m) = s + m + 1 by omega]
theorem seg_and {nf p p1 p2 nd : Nat} {code : Nat → Int32} {D E : Dn} (h1 : Seg nf code p p1 nd D) (hc : code p1 = 3) (hj : code (p1 + 1) = nI p2) (h2 : Seg nf code (p1 + 2) p2 nd E) : Seg nf code p p2 nd (dAnd D E) := by
  have q1 := h1.1
  have q2 := h2.1
  have q3 := h1.2.1
  refine ⟨by omega, by omega, fun st t fa sk sz top s f w a b c0 d e => ?_⟩
  obtain ⟨m, u, hm, hu, hk, hr⟩ := h1.2.2 st t fa sk sz top s f w (fun j h3 h4 => a j h3 (by omega)) (by omega) c0 d (by omega)
  rcases hr with ⟨e1, e2⟩ | ⟨v, e1, e2, e3⟩
  · exact ⟨m, u, by omega, hu, hk, Or.inl ⟨by simp [dAnd, e1], e2⟩⟩
  · have wu := w.sk hu
    have cu : ∀ j, sI u (t + 5) j = sI st (t + 5) j := fun j => hu.1 _ _ (Ne.symm w.2.2.2.2.2.2.2.1)
    have s1 := fun n => w_and (n := n) (s := s + m) (top := top) wu (show 1 ≤ p1 by omega) (by omega) (by omega) (by omega) ((cu p1).trans ((a p1 (by omega) (by omega)).trans hc))
    rw [e2, (cu (p1 + 1)).trans ((a (p1 + 1) (by omega) (by omega)).trans hj)] at s1
    by_cases z : v = 0
    · refine ⟨1 + m, u, by omega, hu, hk, Or.inr ⟨v, by simp [dAnd, e1, z], e2, fun n => ?_⟩⟩
      rw [← Nat.add_assoc, e3 (n + 1), s1, if_pos z, show s + (1 + m) = s + m + 1 by omega]
    · obtain ⟨m', u', hm', hu', hk', hr'⟩ := h2.2.2 u t fa sk sz top (s + m + 1) f wu (fun j h3 h4 => (cu j).trans (a j (by omega) (by omega))) (by omega) (by omega) (by omega) (by omega)
      have s2 : ∀ n, fX5_worth_b9 (n + (m' + 1 + m)) t fa sk (nI p) (nI top) (nI s) st = fX5_worth_b9 (n + m') t fa sk (nI (p1 + 2)) (nI top) (nI (s + m + 1)) u := by
        intro n
        rw [show n + (m' + 1 + m) = n + m' + 1 + m by omega, e3, s1, if_neg z]
      rcases hr' with ⟨e1', e2'⟩ | ⟨v', e1', e2', e3'⟩
      · exact ⟨m' + 1 + m, u', by omega, hu.tr hu', fun j hj => (hk' j hj).trans (hk j hj), Or.inl ⟨by simp [dAnd, e1, z, e1'], fun n => by rw [s2, e2']⟩⟩
      · exact ⟨m' + 1 + m, u', by omega, hu.tr hu', fun j hj => (hk' j hj).trans (hk j hj), Or.inr ⟨v', by simp [dAnd, e1, z, e1'], e2', fun n => by rw [s2, e3', show s + (m' + 1 + m) = s + m + 1 + m' by omega]⟩⟩
theorem seg_or {nf p p1 p2 nd : Nat} {code : Nat → Int32} {D E : Dn} (h1 : Seg nf code p p1 nd D) (hc : code p1 = 4) (hj : code (p1 + 1) = nI p2) (h2 : Seg nf code (p1 + 2) p2 nd E) : Seg nf code p p2 nd (dOr D E) := by
  have q1 := h1.1
  have q2 := h2.1
  have q3 := h1.2.1
  refine ⟨by omega, by omega, fun st t fa sk sz top s f w a b c0 d e => ?_⟩
  obtain ⟨m, u, hm, hu, hk, hr⟩ := h1.2.2 st t fa sk sz top s f w (fun j h3 h4 => a j h3 (by omega)) (by omega) c0 d (by omega)
  rcases hr with ⟨e1, e2⟩ | ⟨v, e1, e2, e3⟩
  · exact ⟨m, u, by omega, hu, hk, Or.inl ⟨by simp [dOr, e1], e2⟩⟩
  · have wu := w.sk hu
    have cu : ∀ j, sI u (t + 5) j = sI st (t + 5) j := fun j => hu.1 _ _ (Ne.symm w.2.2.2.2.2.2.2.1)
    have s1 := fun n => w_or (n := n) (s := s + m) (top := top) wu (show 1 ≤ p1 by omega) (by omega) (by omega) (by omega) ((cu p1).trans ((a p1 (by omega) (by omega)).trans hc))
    rw [e2, (cu (p1 + 1)).trans ((a (p1 + 1) (by omega) (by omega)).trans hj)] at s1
    by_cases z : v = 0
    · obtain ⟨m', u', hm', hu', hk', hr'⟩ := h2.2.2 u t fa sk sz top (s + m + 1) f wu (fun j h3 h4 => (cu j).trans (a j (by omega) (by omega))) (by omega) (by omega) (by omega) (by omega)
      have s2 : ∀ n, fX5_worth_b9 (n + (m' + 1 + m)) t fa sk (nI p) (nI top) (nI s) st = fX5_worth_b9 (n + m') t fa sk (nI (p1 + 2)) (nI top) (nI (s + m + 1)) u := by
        intro n
        rw [show n + (m' + 1 + m) = n + m' + 1 + m by omega, e3, s1, if_pos z]
      rcases hr' with ⟨e1', e2'⟩ | ⟨v', e1', e2', e3'⟩
      · exact ⟨m' + 1 + m, u', by omega, hu.tr hu', fun j hj => (hk' j hj).trans (hk j hj), Or.inl ⟨by simp [dOr, e1, z, e1'], fun n => by rw [s2, e2']⟩⟩
      · exact ⟨m' + 1 + m, u', by omega, hu.tr hu', fun j hj => (hk' j hj).trans (hk j hj), Or.inr ⟨v', by simp [dOr, e1, z, e1'], e2', fun n => by rw [s2, e3', show s + (m' + 1 + m) = s + m + 1 + m' by omega]⟩⟩
    · refine ⟨1 + m, u, by omega, hu, hk, Or.inr ⟨v, by simp [dOr, e1, z], e2, fun n => ?_⟩⟩
      rw [← Nat.add_assoc, e3 (n + 1), s1, if_neg z, show s + (1 + m) = s + m + 1 by omega]
theorem seg_run {nf p p1 nd sz t fa sk : Nat} {code : Nat → Int32} {D : Dn} {st : St} {f : Nat → Int32} (h1 : Seg nf code p p1 nd D) (hc : code p1 = 0) (w : Wc nf f st t fa sk sz) (a : ∀ j, p ≤ j → j ≤ p1 → sI st (t + 5) j = code j) (hz : p1 < sz) (hp : 1 ≤ p) (hn : nd ≤ 40) : ∃ u, fX5_worth t (nI p) fa sk st = some ((D f).getD BRK, u) ∧ Sk sk st u := by
  have q3 := h1.2.1
  have hz2 := w.2.1
  obtain ⟨m, u, hm, hu, hk, hr⟩ := h1.2.2 st t fa sk sz 0 0 f w (fun j h3 h4 => a j h3 (by omega)) (by omega) hp (by omega) (by omega)
  have q1 := h1.1
  have cu : ∀ j, sI u (t + 5) j = sI st (t + 5) j := fun j => hu.1 _ _ (Ne.symm w.2.2.2.2.2.2.2.1)
  refine ⟨u, ?_, hu⟩
  unfold fX5_worth
  rw [show (0 : Int32) = nI 0 from rfl, show FU = (99999 - m) + 1 + m by unfold FU; omega]
  rcases hr with ⟨e1, e2⟩ | ⟨v, e1, e2, e3⟩
  · rw [e2, e1]; rfl
  · rw [e3, w_stop (w.sk hu) (by omega) hz (by omega) (by omega) ((cu p1).trans ((a p1 (by omega) (by omega)).trans hc)), e2, e1]; rfl
/-- a script does what its clauses tell -/
def Cod (nf : Nat) (C : Nat → Nat → Int32) (sz : Nat) (v : Int32) (D : Dn) : Prop := ∃ p p1, v = nI p ∧ 1 ≤ p ∧ p1 < sz ∧ C 5 p1 = 0 ∧ Seg nf (C 5) p p1 30 D
def hasS (nf kd : Nat) : Bool := if nf = 7 then kd == 0 else kd != 3
def CIm (nf : Nat) (C : Nat → Nat → Int32) (sz i : Nat) (c : Cls) : Prop := C 1 i = nI c.1 ∧ C 2 i = nI c.2.1 ∧ c.1 < 4 ∧ (1 ≤ c.2.1 ∧ c.2.1 ≤ 20) ∧ (hasS nf c.1 = false ∧ C 3 i = 0 ∨ hasS nf c.1 = true ∧ Cod nf C sz (C 3 i) c.2.2.1) ∧ (C 4 i = 0 ∧ c.2.2.2 = dNum 1 ∨ Cod nf C sz (C 4 i) c.2.2.2)
def Impl (nf : Nat) (C : Nat → Nat → Int32) (L : List Cls) : Prop := L.length ≤ 12 ∧ C 0 5 = nI L.length ∧ ∃ sz cap ku, sz ≤ 826 ∧ sz ≤ cap ∧ cap ≤ 1000 ∧ C 6 0 = nI cap ∧ C 0 6 = nI sz ∧ C 0 7 = nI ku ∧ ku < 16 ∧ (∀ k, k < 4 → (bit ku k = 1 ↔ ∃ c ∈ L, c.1 = k)) ∧ (∀ i c, L[i]? = some c → CIm nf C sz i c) ∧ ∀ c ∈ L, ∀ f : Nat → Int32, (∀ w, w < nf → f w ≠ BRK) → c.2.2.1 f ≠ some BRK
