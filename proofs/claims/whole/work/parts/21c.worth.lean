/-! what the codes of a script tell -/
theorem n_one {a : Nat} (h : 1 ≤ a) : nI a - (1 : Int32) = nI (a - 1) := n_sub h
theorem n_two {a : Nat} (h : 2 ≤ a) : nI a - (2 : Int32) = nI (a - 2) := n_sub h
theorem n_p1 (a : Nat) : nI a + (1 : Int32) = nI (a + 1) := n_add a 1
theorem n_p2 (a : Nat) : nI a + (2 : Int32) = nI (a + 2) := n_add a 2
theorem n_m1 {a : Nat} (h : 1 ≤ a) : nI a + (-1 : Int32) = nI (a - 1) := by
  rw [← n_one h, Int32.sub_eq_add_neg]
/-- where a script can be worked out -/
def Wc (nf : Nat) (f : Nat → Int32) (st : St) (t fa sk sz : Nat) : Prop := sI st t 6 = nI sz ∧ sz ≤ 826 ∧ sz ≤ sN st (t + 5) ∧ sN st sk = 40 ∧ sN st fa = nf ∧ (∀ w, w < nf → sI st fa w = f w) ∧ sk ≠ t ∧ sk ≠ t + 5 ∧ sk ≠ fa
def Sk (sk : Nat) (st u : St) : Prop := (∀ a j, a ≠ sk → sI u a j = sI st a j) ∧ ∀ a, sN u a = sN st a
theorem Sk.rf {sk : Nat} {st : St} : Sk sk st st := ⟨fun _ _ _ => rfl, fun _ => rfl⟩
theorem Sk.tr {sk : Nat} {a b c : St} (h : Sk sk a b) (g : Sk sk b c) : Sk sk a c := ⟨fun x j e => (g.1 x j e).trans (h.1 x j e), fun x => (g.2 x).trans (h.2 x)⟩
theorem Sk.p {sk j : Nat} {st : St} {v : Int32} : Sk sk st (pI st sk j v) := ⟨fun x i e => by rw [sI_pI, if_neg (fun c => e c.1)], fun _ => rfl⟩
theorem Wc.sk {nf : Nat} {f : Nat → Int32} {st u : St} {t fa sk sz : Nat} (h : Wc nf f st t fa sk sz) (s : Sk sk st u) : Wc nf f u t fa sk sz := by
  obtain ⟨h1, h2, h3, h4, h5, h6, h7, h8, h9⟩ := h
  exact ⟨(s.1 _ _ (Ne.symm h7)).trans h1, h2, by rw [s.2]; exact h3, by rw [s.2]; exact h4, by rw [s.2]; exact h5, fun w hw => (s.1 _ _ (Ne.symm h9)).trans (h6 w hw), h7, h8, h9⟩
abbrev K9 : Type := Nat → Nat → Nat → Int32 → Int32 → Int32 → St → Option (Int32 × St)
def kW (n : Nat) : K9 := fun zt zfa zsk zl4 zl5 zl6 zst => fX5_worth_b9 n zt zfa zsk zl4 zl5 zl6 zst
theorem w_go {nf : Nat} {f : Nat → Int32} {st : St} {t fa sk sz p top s n : Nat} (h : Wc nf f st t fa sk sz) (h4 : 1 ≤ p) (h5 : p < sz) (h6 : top < 40) (h7 : s ≤ p) : fX5_worth_b9 (n + 1) t fa sk (nI p) (nI top) (nI s) st = fX5_worth_b72 (kW n) t fa sk (nI p) (nI top) (nI s) (sI st (t + 5) p) (if p + 1 < sz then sI st (t + 5) (p + 1) else 0) st := by
  obtain ⟨e1, e2, e3, e4, e5, e6, e7, e8, e9⟩ := h
  have z : (0 : Int32) = nI 0 := rfl
  rw [fX5_worth_b9]
  simp only [e1, e4, n_p1, z, n_le (show sz < 2147483648 by omega) (show s < 2147483648 by omega), n_le (show p < 2147483648 by omega) (show 0 < 2147483648 by omega), n_le (show sz < 2147483648 by omega) (show p < 2147483648 by omega), n_le (show sz < 2147483648 by omega) (show p + 1 < 2147483648 by omega), n_le (show 40 < 2147483648 by omega) (show top < 2147483648 by omega), n_ixb (show p < 2147483648 by omega), n_ixb (show p + 1 < 2147483648 by omega), n_toNat (show p < 2147483648 by omega), n_toNat (show p + 1 < 2147483648 by omega)]
  rw [if_neg (by omega), if_neg (by omega), if_neg (by omega), if_neg (by omega)]
  simp only [show p < sN st (t + 5) by omega, decide_true, chk_t]
  by_cases c : p + 1 < sz
  · rw [if_neg (by omega), if_pos c]
    simp only [show p + 1 < sN st (t + 5) by omega, decide_true, chk_t]
    rfl
  · rw [if_pos (by omega), if_neg c]; rfl
theorem w_num {nf : Nat} {f : Nat → Int32} {st : St} {t fa sk sz p top s n : Nat} (h : Wc nf f st t fa sk sz) (h4 : 1 ≤ p) (h5 : p + 1 < sz) (h6 : top < 40) (h7 : s ≤ p) (hc : sI st (t + 5) p = 1) : fX5_worth_b9 (n + 1) t fa sk (nI p) (nI top) (nI s) st = fX5_worth_b9 n t fa sk (nI (p + 2)) (nI (top + 1)) (nI (s + 1)) (pI st sk top (sI st (t + 5) (p + 1))) := by
  rw [w_go h h4 (by omega) h6 h7, hc, if_pos h5]
  simp only [fX5_worth_b72, fX5_worth_b98, fX5_worth_b116, fX5_worth_b311, if_true, n_p1, n_p2, h.2.2.2.1, n_ixb (show top < 2147483648 by omega), h6, decide_true, chk_t, n_toNat (show top < 2147483648 by omega)]
  rfl
theorem w_wrd {nf : Nat} {f : Nat → Int32} {st : St} {t fa sk sz p top s n w : Nat} (h : Wc nf f st t fa sk sz) (h4 : 1 ≤ p) (h5 : p + 1 < sz) (h6 : top < 40) (h7 : s ≤ p) (hc : sI st (t + 5) p = 2) (hw : sI st (t + 5) (p + 1) = nI w) (hn : w < nf) (hf : nf ≤ 17) : fX5_worth_b9 (n + 1) t fa sk (nI p) (nI top) (nI s) st = fX5_worth_b9 n t fa sk (nI (p + 2)) (nI (top + 1)) (nI (s + 1)) (pI st sk top (f w)) := by
  rw [w_go h h4 (by omega) h6 h7, hc, if_pos h5, hw]
  simp only [fX5_worth_b72, fX5_worth_b98, fX5_worth_b116, fX5_worth_b311, if_true, if_false, show ((2 : Int32) = 1) = False by decide, n_p1, n_p2, h.2.2.2.1, h.2.2.2.2.1, n_neg (show w < 2147483648 by omega), n_le (show nf < 2147483648 by omega) (show w < 2147483648 by omega), show ¬ nf ≤ w by omega, n_ixb (show top < 2147483648 by omega), n_ixb (show w < 2147483648 by omega), hn, h6, decide_true, chk_t, n_toNat (show top < 2147483648 by omega), n_toNat (show w < 2147483648 by omega), h.2.2.2.2.2.1 w hn]
  rfl
theorem w_not {nf : Nat} {f : Nat → Int32} {st : St} {t fa sk sz p top s n : Nat} (h : Wc nf f st t fa sk sz) (h4 : 1 ≤ p) (h5 : p < sz) (h6 : top + 1 < 40) (h7 : s ≤ p) (hc : sI st (t + 5) p = 5) : fX5_worth_b9 (n + 1) t fa sk (nI p) (nI (top + 1)) (nI s) st = fX5_worth_b9 n t fa sk (nI (p + 1)) (nI (top + 1)) (nI (s + 1)) (pI st sk top (1 - sI st sk top)) := by
  rw [w_go h h4 (by omega) h6 h7, hc]
  have l1 : (1 : Int32) ≤ nI (top + 1) := by rw [show (1 : Int32) = nI 1 from rfl, n_le (by omega) (by omega)]; omega
  simp only [fX5_worth_b72, fX5_worth_b126, fX5_worth_b311, if_true, if_false, l1, show ((5 : Int32) = 1) = False by decide, show ((5 : Int32) = 2) = False by decide, show ((5 : Int32) = 3) = False by decide, show ((5 : Int32) = 4) = False by decide, n_p1, n_one (show 1 ≤ top + 1 by omega), Nat.add_sub_cancel, h.2.2.2.1, n_ixb (show top < 2147483648 by omega), show top < 40 by omega, decide_true, chk_t, n_toNat (show top < 2147483648 by omega)]
  rfl
theorem w_stop {nf : Nat} {f : Nat → Int32} {st : St} {t fa sk sz p top s n : Nat} (h : Wc nf f st t fa sk sz) (h4 : 1 ≤ p) (h5 : p < sz) (h6 : top + 1 < 40) (h7 : s ≤ p) (hc : sI st (t + 5) p = 0) : fX5_worth_b9 (n + 1) t fa sk (nI p) (nI (top + 1)) (nI s) st = some (sI st sk top, st) := by
  rw [w_go h h4 (by omega) h6 h7, hc]
  have l1 : (1 : Int32) ≤ nI (top + 1) := by rw [show (1 : Int32) = nI 1 from rfl, n_le (by omega) (by omega)]; omega
  simp only [fX5_worth_b72, fX5_worth_b126, fX5_worth_b311, if_true, if_false, l1, show ((0 : Int32) = 1) = False by decide, show ((0 : Int32) = 2) = False by decide, show ((0 : Int32) = 3) = False by decide, show ((0 : Int32) = 4) = False by decide, show ((0 : Int32) = 5) = False by decide, n_one (show 1 ≤ top + 1 by omega), Nat.add_sub_cancel, h.2.2.2.1, n_ixb (show top < 2147483648 by omega), show top < 40 by omega, decide_true, chk_t, n_toNat (show top < 2147483648 by omega)]
theorem w_and {nf : Nat} {f : Nat → Int32} {st : St} {t fa sk sz p top s n : Nat} (h : Wc nf f st t fa sk sz) (h4 : 1 ≤ p) (h5 : p + 1 < sz) (h6 : top + 1 < 40) (h7 : s ≤ p) (hc : sI st (t + 5) p = 3) : fX5_worth_b9 (n + 1) t fa sk (nI p) (nI (top + 1)) (nI s) st = if sI st sk top = 0 then fX5_worth_b9 n t fa sk (sI st (t + 5) (p + 1)) (nI (top + 1)) (nI (s + 1)) st else fX5_worth_b9 n t fa sk (nI (p + 2)) (nI top) (nI (s + 1)) st := by
  rw [w_go h h4 (by omega) h6 h7, hc, if_pos h5]
  have l1 : (1 : Int32) ≤ nI (top + 1) := by rw [show (1 : Int32) = nI 1 from rfl, n_le (by omega) (by omega)]; omega
  simp only [fX5_worth_b72, fX5_worth_b126, fX5_worth_b147, fX5_worth_b161, fX5_worth_b172, fX5_worth_b180, fX5_worth_b196, fX5_worth_b212, fX5_worth_b311, if_true, if_false, l1, show ((3 : Int32) = 1) = False by decide, show ((3 : Int32) = 2) = False by decide, show ((3 : Int32) = 4) = False by decide, show ((1 : Int32) = 0) = False by decide, n_p1, n_p2, n_one (show 1 ≤ top + 1 by omega), Nat.add_sub_cancel, h.2.2.2.1, n_ixb (show top < 2147483648 by omega), show top < 40 by omega, decide_true, chk_t, n_toNat (show top < 2147483648 by omega)]
  rfl
theorem w_or {nf : Nat} {f : Nat → Int32} {st : St} {t fa sk sz p top s n : Nat} (h : Wc nf f st t fa sk sz) (h4 : 1 ≤ p) (h5 : p + 1 < sz) (h6 : top + 1 < 40) (h7 : s ≤ p) (hc : sI st (t + 5) p = 4) : fX5_worth_b9 (n + 1) t fa sk (nI p) (nI (top + 1)) (nI s) st = if sI st sk top = 0 then fX5_worth_b9 n t fa sk (nI (p + 2)) (nI top) (nI (s + 1)) st else fX5_worth_b9 n t fa sk (sI st (t + 5) (p + 1)) (nI (top + 1)) (nI (s + 1)) st := by
  rw [w_go h h4 (by omega) h6 h7, hc, if_pos h5]
  have l1 : (1 : Int32) ≤ nI (top + 1) := by rw [show (1 : Int32) = nI 1 from rfl, n_le (by omega) (by omega)]; omega
  simp only [fX5_worth_b72, fX5_worth_b126, fX5_worth_b147, fX5_worth_b161, fX5_worth_b172, fX5_worth_b180, fX5_worth_b196, fX5_worth_b212, fX5_worth_b311, if_true, if_false, l1, show ((4 : Int32) = 1) = False by decide, show ((4 : Int32) = 2) = False by decide, show ((4 : Int32) = 3) = False by decide, show ((1 : Int32) = 0) = False by decide, show ((0 : Int32) = 1) = False by decide, n_p1, n_p2, n_one (show 1 ≤ top + 1 by omega), Nat.add_sub_cancel, h.2.2.2.1, n_ixb (show top < 2147483648 by omega), show top < 40 by omega, decide_true, chk_t, n_toNat (show top < 2147483648 by omega)]
  rfl
