/-! what was kept of sayings is forgotten -/
theorem fill_ok {S : List (Nat × Option Nat)} {ar : Nat} {v : Int32} (hS : ∀ j, inS S ar j = true) : ∀ (d n i len : Nat) (st : St), len = i + d → d < n → len ≤ sN st ar → len < 2147483648 → ∃ u, fJ7_fill_53178_b5 n ar v (nI i) (nI len) st = some u ∧ FR S st u ∧ (∀ a j, ¬ (a = ar ∧ i ≤ j ∧ j < len) → sI u a j = sI st a j) ∧ ∀ j, i ≤ j → j < len → sI u ar j = v := by
  intro d
  induction d with
  | zero =>
    intro n i len st h1 h2 h3 h4
    obtain ⟨m, rfl⟩ : ∃ m, n = m + 1 := ⟨n - 1, by omega⟩
    refine ⟨st, ?_, FR.rf, fun _ _ _ => rfl, fun j h5 h6 => by omega⟩
    rw [fJ7_fill_53178_b5, if_pos (by rw [n_le h4 (by omega)]; omega)]
  | succ d ih =>
    intro n i len st h1 h2 h3 h4
    obtain ⟨m, rfl⟩ : ∃ m, n = m + 1 := ⟨n - 1, by omega⟩
    obtain ⟨u, e1, e2, e3, e4⟩ := ih m (i + 1) len (pI st ar i v) (by omega) (by omega) h3 h4
    refine ⟨u, ?_, FR.trans (FR.pI (hS i) FR.rf) e2, fun a j h => ?_, fun j h5 h6 => ?_⟩
    · rw [fJ7_fill_53178_b5, if_neg (by rw [n_le h4 (by omega)]; omega), n_ixb (by omega), decide_eq_true (by omega), chk_t, n_toNat (by omega), n_p1]; exact e1
    · rw [e3 a j (by omega), sI_pI, if_neg (by omega)]
    · by_cases c : j = i
      · subst c; rw [e3 ar j (by omega), sI_pI, if_pos ⟨rfl, rfl⟩]
      · exact e4 j (by omega) h6
theorem fill_all {S : List (Nat × Option Nat)} {ar : Nat} {v : Int32} {st : St} (hS : ∀ j, inS S ar j = true) (hn : sN st ar < 50000) : ∃ u, fJ7_fill_53178 ar v st = some u ∧ FR S st u ∧ (∀ a j, a ≠ ar → sI u a j = sI st a j) ∧ ∀ j, j < sN st ar → sI u ar j = v := by
  obtain ⟨u, e1, e2, e3, e4⟩ := fill_ok (v := v) hS (sN st ar) FU 0 (sN st ar) st (by omega) (by unfold FU; omega) (by omega) (by omega)
  exact ⟨u, e1, e2, fun a j h => e3 a j (fun c => h c.1), fun j h => e4 j (by omega) h⟩
theorem WT.N {st : St} {a k n : Nat} (w : WT st) (h : lay[a]? = some (k, n)) : sN st a = n := (w.ar h).2.2
abbrev S_f : List (Nat × Option Nat) := [(19, some 6), (23, none), (24, none)]
theorem VL_fr {S : List (Nat × Option Nat)} {st u : St} {lw : Lw0} (d : lowS S = true) (e : inS S 19 7 = false) (h : FR S st u) (m : VL st lw) : VL u lw := VL_eq (Hi.fr (fun a j c => lowS_in d (by omega)) h) (h.r e) m
theorem VT_fr {S : List (Nat × Option Nat)} {st u : St} {a b : Nat} (e : (inS S 19 8 || inS S 19 9) = false) (h : FR S st u) (m : VT st a b) : VT u a b := by
  simp only [Bool.or_eq_false_iff] at e
  exact ⟨m.1, m.2.1, (h.i e.1).trans m.2.2.1, (h.i e.2).trans m.2.2.2⟩
/-- behind forgetting nothing is kept -/
theorem v_forget {st : St} {lw : Lw0} {y : Nat → Nat} {vr vm sp : Nat} (w : WT st) (m : VC st lw y vr vm sp) : ∃ u, fX6_forget st = some u ∧ FR S_f st u ∧ ∀ lw' y' vr' vm', ∃ sp', VC u lw' y' vr' vm' sp' := by
  obtain ⟨⟨m1, m2, m3⟩, m4, m5⟩ := m
  have n23 := w.N (a := 23) rfl
  have n24 := w.N (a := 24) rfl
  unfold fX6_forget
  simp only [sI_pI, and_self, if_true, m3, n_p1]
  by_cases c : sp < 1000000
  · have h : FR S_f st (pI st 19 6 (nI (sp + 1))) := FR.pI (by rfl) FR.rf
    refine ⟨_, ?_, h, fun lw' y' vr' vm' => ⟨sp + 1, ⟨by omega, by omega, by rw [sI_pI, if_pos ⟨rfl, rfl⟩]⟩, fun i hi => ?_, fun i hi => ?_⟩⟩
    · rw [if_pos (by rw [show (1000000 : Int32) = nI 1000000 from rfl, n_le (by omega) (by omega)]; omega)]
    · obtain ⟨e, h1, h2, h3⟩ := m4 i hi
      exact ⟨e, by omega, by rw [sI_pI, if_neg (by omega)]; exact h2, fun q => by omega⟩
    · obtain ⟨e, h1, h2, h3⟩ := m5 i hi
      exact ⟨e, by omega, by rw [sI_pI, if_neg (by omega)]; exact h2, fun q => by omega⟩
  · rw [if_neg (by rw [show (1000000 : Int32) = nI 1000000 from rfl, n_le (by omega) (by omega)]; omega)]
    have h0 : FR S_f st (pI (pI st 19 6 (nI (sp + 1))) 19 6 1) := FR.pI (by rfl) (FR.pI (by rfl) FR.rf)
    obtain ⟨u1, e1, f1, g1, k1⟩ := fill_all (S := S_f) (ar := 23) (v := 0) (st := pI (pI st 19 6 (nI (sp + 1))) 19 6 1) (fun j => rfl) (by simp only [sN_pI, n23]; omega)
    have n24' : sN u1 24 = 1920 := by rw [(f1.1.2.1 24).2]; exact n24
    obtain ⟨u2, e2, f2, g2, k2⟩ := fill_all (S := S_f) (ar := 24) (v := 0) (st := u1) (fun j => rfl) (by omega)
    refine ⟨u2, by rw [e1, Option.bind_some, e2], (h0.trans f1).trans f2, fun lw' y' vr' vm' => ⟨1, ⟨by omega, by omega, ?_⟩, fun i hi => ⟨0, by omega, ?_, fun q => by omega⟩, fun i hi => ⟨0, by omega, ?_, fun q => by omega⟩⟩⟩
    · rw [g2 _ _ (by omega), g1 _ _ (by omega), sI_pI, if_pos ⟨rfl, rfl⟩]; rfl
    · rw [g2 _ _ (by omega), k1 i (by simp only [sN_pI, n23]; omega)]; rfl
    · rw [k2 i (by omega)]; rfl
theorem vo_forget {st : St} {y : Nat → Nat} (w : WT st) (m : CVo st y) : ∃ u, fX6_forget st = some u ∧ FR S_f st u ∧ ∀ y', CVo u y' := by
  obtain ⟨lw, vr, vm, sp, m1, m2, m3⟩ := m
  obtain ⟨u, e1, f1, h⟩ := v_forget w m3
  refine ⟨u, e1, f1, fun y' => ?_⟩
  obtain ⟨sp', h'⟩ := h lw y' vr vm
  exact ⟨lw, vr, vm, sp', VL_fr (by rfl) (by rfl) f1 m1, VT_fr (by rfl) f1 m2, h'⟩
/-- ring changed: what can be undone is forgotten too -/
abbrev S_rc : List (Nat × Option Nat) := [(15, some 1), (19, some 6), (23, none), (24, none)]
theorem ring_changed {st : St} {A : All} {y : Nat → Nat} (w : WT st) (m : CVo st y) : ∃ u, fX7_ringChanged st = some u ∧ FR S_rc st u ∧ (∀ y', CVo u y') ∧ CP u 15 (0, fun _ => (0, 0, 0, 0)) := by
  have h0 : FR S_rc st (pI st 15 1 0) := FR.pI (by rfl) FR.rf
  have w0 : WT (pI st 15 1 0) := WT_low (by rfl) h0 w
  have m0 : CVo (pI st 15 1 0) y := CVo_fr (S := [(15, some 1)]) (by rfl) (by rfl) (FR.pI (by rfl) FR.rf) m
  obtain ⟨u, e1, f1, h⟩ := vo_forget w0 m0
  have f2 : FR S_rc st u := h0.trans (FR.mono (by rfl) f1)
  refine ⟨u, ?_, f2, h, ?_, fun j hj => absurd hj (Nat.not_lt_zero j)⟩
  · unfold fX7_ringChanged fX2_forget
    rw [Option.bind_some]; exact e1
  · rw [f1.i (by rfl), sI_pI, if_pos ⟨rfl, rfl⟩]; rfl
