/-! the model's sayings -/
theorem MRg.fr {S : List (Nat × Option Nat)} {st u : St} {x : Rg} (e : hasA S 40 = false) (h : FR S st u) (m : MRg st 40 0 x) : MRg u 40 0 x := MRg_eq (fun _ => h.i (hasA_in e)) m
def fnd (n b : Nat) (up : Bool) : Nat → Nat → Bool
  | 0, _ => false
  | k + 1, c => if bit b (nxt n c up) = 1 then true else fnd n b up k (nxt n c up)
theorem fnd_all : ∀ n, n < 7 → ∀ b, b < 2 ^ n → b ≠ 0 → ∀ c, c < n → fnd n b true n c = true ∧ fnd n b false n c = true := by decide +kernel
theorem nxt8' : ∀ n, n < 7 → ∀ c, c < n → jrem ((nI c + 1) + nI n) (nI n) = nI (nxt n c true) ∧ jrem ((nI c + (-1)) + nI n) (nI n) = nI (nxt n c false) := by decide +kernel
theorem nxt8 {n c : Nat} {up : Bool} (hn : n ≤ 6) (hc : c < n) : jrem ((nI c + wy up) + nI n) (nI n) = nI (nxt n c up) := by
  cases up with
  | true => exact (nxt8' n (by omega) c hc).1
  | false => exact (nxt8' n (by omega) c hc).2
theorem next8_loop {st : St} {n b o : Nat} {up : Bool} (hn : n ≤ 6) (hb : b < 64) (h0 : sI st 40 0 = nI b) : ∀ (k m c : Nat), fnd n b up k c = true → k ≤ m → c < n → fX8_nextIn_b17 st m (wy up) (nI n) (nI (nxt n c up)) = some (nI (nextF n b up o k c)) := by
  intro k
  induction k with
  | zero => intro m c h; cases h
  | succ k ih =>
    intro m c h hm hc
    obtain ⟨m, rfl⟩ : ∃ j, m = j + 1 := ⟨m - 1, by omega⟩
    have hx := nxt_lt (up := up) hc
    unfold fnd at h
    unfold nextF
    rw [fX8_nextIn_b17, h0, isIn64 b hb _ (by omega)]
    by_cases e : bit b (nxt n c up) = 1
    · rw [e, if_neg (by decide), if_pos rfl]
    · rw [if_neg e] at h
      have e0 : bit b (nxt n c up) = 0 := by have := bit_le b (nxt n c up); omega
      rw [e0, if_pos (by rfl), if_neg (by decide), n_nz (by omega) (by omega), chk_t, nxt8 hn hx]
      exact ih m _ h (by omega) hx
theorem next8_ok {st : St} {n b c : Nat} {up : Bool} (hn : n ≤ 6) (hb : b < 2 ^ n) (hb0 : b ≠ 0) (h0 : sI st 40 0 = nI b) (h16 : sI st 40 16 = nI n) (hc : c < n) : fX8_nextIn st (nI c) (wy up) = some (nI (nextA n b c up)) := by
  have h64 := p64 hn
  unfold fX8_nextIn nextA
  rw [h16, n_nz (by omega) (by omega), chk_t, nxt8 hn hc]
  refine next8_loop hn (by omega) h0 n FU c ?_ (by unfold FU; omega) hc
  have := fnd_all n (by omega) b hb hb0 c hc
  cases up with
  | true => exact this.1
  | false => exact this.2
theorem beg8 {st : St} {n b a : Nat} (hn : n ≤ 6) (hn1 : 1 ≤ n) (hb : b < 2 ^ n) (hb0 : b ≠ 0) (ha : a ≤ 5) (h0 : sI st 40 0 = nI b) (h1 : sI st 40 1 = nI a) (h16 : sI st 40 16 = nI n) : fX8_beginner st = some (nI (firstA n b (a % n))) := by
  have h64 := p64 hn
  have hm : a % n < n := Nat.mod_lt _ (by omega)
  have hw : (1 : Int32) = wy true := rfl
  unfold fX8_beginner firstA
  rw [h16, h1, h0, n_nz (by omega) (by omega), chk_t, n_rem (by omega) (by omega), isIn64 b (by omega) _ (by omega)]
  by_cases e : bit b (a % n) = 1
  · rw [e, if_neg (by decide), if_pos rfl]
  · have e0 : bit b (a % n) = 0 := by have := bit_le b (a % n); omega
    rw [e0, if_pos (by rfl), if_neg (by decide), hw, next8_ok hn hb hb0 h0 h16 hm]
theorem isSo8 {st : St} {x : Rg} {k r c bt many : Nat} (g : GdR x) (lo : LwOK x) (m : MRg st 40 0 x) (hk : 1 ≤ k ∧ k < 4) (hr : r < 5) (hc : c < 6) (hb : bt < 16) (hm : many < 7) : ∃ u, fX8_isSo (nI (k + 1)) (nI r) (nI c) (nI bt) (nI many) st = some (b2i (soA (lwF x) (sx x) (x.1 2) (x.1 15) k r c bt many), u) ∧ FR S_t st u := by
  obtain ⟨u, e1, e2⟩ := tells_ok (h := k + 1) (d := 0) g lo m (by omega) hr hc hb hm (by omega)
  refine ⟨u, ?_, e2⟩
  unfold fX8_isSo
  rw [show (0 : Int32) = nI 0 from rfl, e1, Option.bind_some]
  unfold telA soA
  cases lwF x with
  | none => rfl
  | some L =>
    simp only []
    rw [tell_so hk.1]
    cases soL L k (fct (sx x) (x.1 2) (x.1 15) r c bt many) <;> rfl
theorem beats8 {st : St} {x : Rg} {r c many : Nat} (g : GdR x) (lo : LwOK x) (m : MRg st 40 0 x) (hr : r < 5) (hc : c < 6) (hm : many < 7) : ∃ u, fX8_beatsOf (nI r) (nI c) (nI many) st = some (nI (lenA (lwF x) (sx x) (x.1 2) (x.1 15) r c many), u) ∧ FR S_t st u := by
  have hd : x.1 (9 + r) ≤ 15 := g.2.2.2.2.2.2.2.2.2.2.1 r hr
  obtain ⟨u, e1, e2⟩ := tells_ok (h := 1) (r := r) (c := c) (bt := 0) (many := many) (d := x.1 (9 + r)) g lo m (by omega) hr hc (by omega) hm hd
  refine ⟨u, ?_, e2⟩
  have hs : sx x (9 + r) = x.1 (9 + r) := sx_e (by omega)
  unfold fX8_beatsOf
  rw [show (9 : Int32) = nI 9 from rfl, n_add, n_ixb (by omega), decide_eq_true (show 9 + r < 5627 by omega), chk_t, n_toNat (by omega), m.k (by omega)]
  refine e1.trans ?_
  unfold telA lenA
  cases lwF x with
  | none => simp only [hs]
  | some L => simp only [tell_len, hs]
abbrev soX (x : Rg) (r many : Nat) : Nat → Nat → Nat → Bool := fun k c bt => soA (lwF x) (sx x) (x.1 2) (x.1 15) k r c bt many
theorem skip_lt {n b : Nat} {so : Nat → Bool} {up : Bool} : ∀ (k w : Nat), w < n → skipA so (fun c => nextA n b c up) k w < n := by
  intro k
  induction k with
  | zero => intro w h; exact h
  | succ k ih =>
    intro w h
    unfold skipA
    split
    · exact ih _ (nextA_lt h)
    · exact h
theorem passed_loop {x : Rg} {r bt many : Nat} {up : Bool} (g : GdR x) (lo : LwOK x) (h0 : x.1 0 ≠ 0) (hr : r < 5) (hb : bt < 16) (hm : many < 7) : ∀ (d m w i : Nat) (st : St), i + d = many → d < m → w < x.1 16 → MRg st 40 0 x → ∃ u, fX8_passedOn_b6 m (nI r) (nI bt) (wy up) (nI many) (nI w) (nI i) st = some (nI (skipA (fun c => soX x r many 1 c bt) (fun c => nextA (x.1 16) (x.1 0) c up) d w), u) ∧ FR S_t st u := by
  intro d
  have hn := g.1
  induction d with
  | zero =>
    intro m w i st h1 h2 hw mr
    obtain ⟨m, rfl⟩ : ∃ j, m = j + 1 := ⟨m - 1, by omega⟩
    refine ⟨st, ?_, FR.rf⟩
    rw [fX8_passedOn_b6, if_pos (by rw [n_le (by omega) (by omega)]; omega)]; rfl
  | succ d ih =>
    intro m w i st h1 h2 hw mr
    obtain ⟨m, rfl⟩ : ∃ j, m = j + 1 := ⟨m - 1, by omega⟩
    rw [fX8_passedOn_b6, if_neg (by rw [n_le (by omega) (by omega)]; omega)]
    obtain ⟨u, e1, e2⟩ := isSo8 (k := 1) (r := r) (c := w) (bt := bt) (many := many) g lo mr (by omega) hr (by omega) hb hm
    rw [show (2 : Int32) = nI (1 + 1) from rfl, e1, Option.bind_some]
    simp only [b2i_0]
    unfold skipA
    cases hs : soX x r many 1 w bt with
    | false =>
      have hs' : soA (lwF x) (sx x) (x.1 2) (x.1 15) 1 r w bt many = false := hs
      rw [if_pos hs', if_neg (by decide)]
      exact ⟨u, rfl, e2⟩
    | true =>
      have hs' : soA (lwF x) (sx x) (x.1 2) (x.1 15) 1 r w bt many = true := hs
      have mu := MRg.fr (by rfl) e2 mr
      rw [if_neg (by rw [hs']; decide), if_pos rfl, next8_ok hn g.2.1 h0 (mu.k (by omega)) (mu.k (by omega)) hw, Option.bind_some, n_p1]
      obtain ⟨u', e3, e4⟩ := ih m (nextA (x.1 16) (x.1 0) w up) (i + 1) u (by omega) (by omega) (nextA_lt hw) mu
      exact ⟨u', e3, e2.trans e4⟩
abbrev S_ct : List (Nat × Option Nat) := [(38, some 22), (38, some 23), (38, some 24), (38, some 25), (50, none), (51, none)]
theorem counts_loop {x : Rg} {r many len : Nat} (g : GdR x) (lo : LwOK x) (h0 : x.1 0 ≠ 0) (hr : r < 5) (hm : many < 7) (hl : len ≤ 15) : ∀ (k m bt w : Nat) (up : Bool) (f : Nat → Nat) (st : St), k + bt = len + 1 → k < m → 1 ≤ bt → w < x.1 16 → MRg st 40 0 x → (∀ j, j < bt → sI st 51 j = nI (f j)) → ∃ u, fX8_counts_b41 m (nI r) (nI many) (nI w) (nI len) (wy up) (nI bt) st = some (nI len, u) ∧ FR S_ct st u ∧ ∀ j, j ≤ len → sI u 51 j = nI ((spkA (soX x r many) (x.1 16) (x.1 0) many k bt w up f).2 j) := by
  intro k
  have hn := g.1
  induction k with
  | zero =>
    intro m bt w up f st h1 h2 h3 hw mr hf
    obtain ⟨m, rfl⟩ : ∃ j, m = j + 1 := ⟨m - 1, by omega⟩
    refine ⟨st, ?_, FR.rf, fun j hj => hf j (by omega)⟩
    rw [fX8_counts_b41, if_pos (by rw [n_lt (by omega) (by omega)]; omega)]
  | succ k ih =>
    intro m bt w up f st h1 h2 h3 hw mr hf
    obtain ⟨m, rfl⟩ : ∃ j, m = j + 1 := ⟨m - 1, by omega⟩
    rw [fX8_counts_b41, if_neg (by rw [n_lt (by omega) (by omega)]; omega)]
    have mid : ∀ w1, w1 < x.1 16 → w1 = (if bt = 1 then w else nextA (x.1 16) (x.1 0) w up) → ∃ u, fX8_counts_b64 (fun zl1 zl3 zl4 zl5 zl6 zl7 zst => fX8_counts_b41 m zl1 zl3 zl4 zl5 zl6 zl7 zst) (nI r) (nI many) (nI w1) (nI len) (wy up) (nI bt) st = some (nI len, u) ∧ FR S_ct st u ∧ ∀ j, j ≤ len → sI u 51 j = nI ((spkA (soX x r many) (x.1 16) (x.1 0) many (k + 1) bt w up f).2 j) := by
      intro w1 hw1 e0
      unfold fX8_counts_b64 fX8_passedOn
      obtain ⟨u1, e1, e2⟩ := passed_loop (r := r) (bt := bt) (many := many) (up := up) g lo h0 hr (by omega) hm many FU w1 0 st (by omega) (by unfold FU; omega) hw1 mr
      rw [show fX8_passedOn_b6 FU (nI r) (nI bt) (wy up) (nI many) (nI w1) 0 st = _ from e1, Option.bind_some]
      unfold spkA
      rw [← e0]
      have hw2 := skip_lt (n := x.1 16) (b := x.1 0) (so := fun c => soX x r many 1 c bt) (up := up) many w1 hw1
      generalize skipA (fun c => soX x r many 1 c bt) (fun c => nextA (x.1 16) (x.1 0) c up) many w1 = w2 at hw2 ⊢
      have m1 : MRg (pI u1 51 bt (nI w2)) 40 0 x := MRg.fr (S := S_ct) (by rfl) (FR.pI (by rfl) (FR.mono (by rfl) e2)) mr
      obtain ⟨u2, e3, e4⟩ := isSo8 (k := 2) (r := r) (c := w2) (bt := bt) (many := many) g lo m1 (by omega) hr (by omega) (by omega) hm
      simp only [n_ixb (show bt < 2147483648 by omega), show bt < 16 by omega, decide_true, chk_t, n_toNat (show bt < 2147483648 by omega)]
      rw [show (3 : Int32) = nI (2 + 1) from rfl, e3, Option.bind_some]
      simp only [b2i_0]
      have f2 : FR S_ct st u2 := (FR.pI (by rfl) (FR.mono (by rfl) e2) : FR S_ct st (pI u1 51 bt (nI w2))).trans (FR.mono (by rfl) e4)
      have hf2 : ∀ j, j < bt + 1 → sI u2 51 j = nI (va_up f bt w2 j) := by
        intro j hj
        rw [e4.i (hasA_in (by rfl)), sI_pI]
        unfold va_up
        by_cases c : j = bt
        · rw [if_pos ⟨rfl, c⟩, if_pos c]
        · rw [if_neg (by omega), if_neg c, e2.i (hasA_in (by rfl)), hf j (by omega)]
      unfold fX8_counts_b106
      cases hs : soX x r many 2 w2 bt with
      | false =>
        have hs' : soA (lwF x) (sx x) (x.1 2) (x.1 15) 2 r w2 bt many = false := hs
        rw [if_pos hs', n_p1]
        obtain ⟨u3, e5, e6, e7⟩ := ih m (bt + 1) w2 up (va_up f bt w2) u2 (by omega) (by omega) (by omega) hw2 (MRg.fr (by rfl) f2 mr) hf2
        exact ⟨u3, e5, f2.trans e6, e7⟩
      | true =>
        have hs' : soA (lwF x) (sx x) (x.1 2) (x.1 15) 2 r w2 bt many = true := hs
        rw [if_neg (by rw [hs']; decide), n_p1, wy_neg]
        obtain ⟨u3, e5, e6, e7⟩ := ih m (bt + 1) w2 (!up) (va_up f bt w2) u2 (by omega) (by omega) (by omega) hw2 (MRg.fr (by rfl) f2 mr) hf2
        exact ⟨u3, e5, f2.trans e6, e7⟩
    rw [show (1 : Int32) = nI 1 from rfl]
    simp only [n_le (show bt < 2147483648 by omega) (show 1 < 2147483648 by omega)]
    by_cases c : bt = 1
    · rw [if_pos (by omega)]
      exact mid w hw (by rw [if_pos c])
    · rw [if_neg (by omega), next8_ok hn g.2.1 h0 (mr.k (by omega)) (mr.k (by omega)) hw, Option.bind_some]
      exact mid _ (nextA_lt hw) (by rw [if_neg c])
theorem great8 : ∀ l, l < 16 → 1 ≤ l → ∀ s, s < 2 → fX8_greater 1 (nI l - nI s) = nI (max 1 (l - s)) := by decide +kernel
/-- a saying from where one stands -/
abbrev lenX (x : Rg) (r less : Nat) : Nat := lenB (lwF x) (sx x) (x.1 2) (x.1 15) (x.1 0) (x.1 1 % x.1 16) r less
abbrev fallX (x : Rg) (r less : Nat) : Nat × (Nat → Nat) := sayF (lwF x) (sx x) (x.1 2) (x.1 15) (x.1 0) (x.1 1 % x.1 16) r less
abbrev tellX (x : Rg) (r less : Nat) : Nat := sayA (lwF x) (sx x) (x.1 2) (x.1 15) (x.1 0) (x.1 1 % x.1 16) r less
theorem many_in {x : Rg} (g : GdR x) (h0 : x.1 0 ≠ 0) : 1 ≤ x.1 16 := by
  have h := g.2.1
  by_cases c : x.1 16 = 0
  · rw [c] at h; omega
  · omega
theorem lenX_b {x : Rg} {r less : Nat} (g : GdR x) (hr : r < x.1 17) : 1 ≤ lenX x r less ∧ lenX x r less ≤ 15 := by
  have h := lenA_b (lw := lwF x) (vr := x.1 2) (vm := x.1 15) (c := firstA (sx x 16) (x.1 0) (x.1 1 % x.1 16)) (many := pc (x.1 0)) g hr
  show 1 ≤ lenB _ _ _ _ _ _ _ _ ∧ lenB _ _ _ _ _ _ _ _ ≤ 15
  unfold lenB
  omega
theorem counts_ok {st : St} {x : Rg} {r less : Nat} (g : GdR x) (lo : LwOK x) (m : MRg st 40 0 x) (h0 : x.1 0 ≠ 0) (hr : r < x.1 17) (hs : less ≤ 1) : ∃ u, fX8_counts (nI r) (nI less) st = some (nI (lenX x r less), u) ∧ FR S_ct st u ∧ ∀ j, j ≤ lenX x r less → sI u 51 j = nI ((fallX x r less).2 j) := by
  have hn := g.1
  have h17 := g.2.2.1
  have hn1 := many_in g h0
  have h64 := b_lt64 g
  have hm : x.1 1 % x.1 16 < x.1 16 := Nat.mod_lt _ (by omega)
  have hfl := firstA_lt (b := x.1 0) hm
  have s16 : sx x 16 = x.1 16 := sx_e (by omega)
  unfold fX8_counts
  rw [inside_ok (x := x) h64 (m.k (by omega)), Option.bind_some, beg8 hn hn1 g.2.1 h0 g.2.2.2.2.1 (m.k (by omega)) (m.k (by omega)) (m.k (by omega)), Option.bind_some]
  obtain ⟨u, e1, e2⟩ := beats8 (r := r) (c := firstA (x.1 16) (x.1 0) (x.1 1 % x.1 16)) (many := pc (x.1 0)) g lo m (by omega) (by omega) (by have := pc_le _ h64; omega)
  rw [e1, Option.bind_some]
  have hb := lenA_b (lw := lwF x) (vr := x.1 2) (vm := x.1 15) (c := firstA (x.1 16) (x.1 0) (x.1 1 % x.1 16)) (many := pc (x.1 0)) g hr
  have hL : fX8_greater 1 (nI (lenA (lwF x) (sx x) (x.1 2) (x.1 15) r (firstA (x.1 16) (x.1 0) (x.1 1 % x.1 16)) (pc (x.1 0))) - nI less) = nI (lenX x r less) := by
    rw [great8 _ (by omega) hb.1 less (by omega)]
    show nI _ = nI (lenB _ _ _ _ _ _ _ _)
    unfold lenB
    rw [s16]
  simp only [hL]
  have f1 : FR S_ct st (pI u 51 0 (nI (firstA (x.1 16) (x.1 0) (x.1 1 % x.1 16)))) := FR.pI (by rfl) (FR.mono (by rfl) e2)
  have hlb := lenX_b (less := less) g hr
  obtain ⟨u2, e3, e4, e5⟩ := counts_loop (r := r) (many := pc (x.1 0)) (len := lenX x r less) g lo h0 (by omega) (by have := pc_le _ h64; omega) hlb.2 (lenX x r less) FU 1 (firstA (x.1 16) (x.1 0) (x.1 1 % x.1 16)) true (fun _ => firstA (x.1 16) (x.1 0) (x.1 1 % x.1 16)) _ (by omega) (by unfold FU; omega) (by omega) hfl (MRg.fr (by rfl) f1 m) (fun j hj => by rw [sI_pI, if_pos ⟨rfl, by omega⟩])
  refine ⟨u2, e3, f1.trans e4, fun j hj => ?_⟩
  rw [e5 j hj]
  show _ = nI ((sayF _ _ _ _ _ _ _ _).2 j)
  unfold sayF
  rw [s16]
theorem spk_last {n b many : Nat} {so : Nat → Nat → Nat → Bool} : ∀ (k bt w : Nat) (up : Bool) (f : Nat → Nat), (spkA so n b many (k + 1) bt w up f).2 (bt + k) = (spkA so n b many (k + 1) bt w up f).1 := by
  intro k
  induction k with
  | zero => intro bt w up f; unfold spkA; unfold spkA; simp [va_up]
  | succ k ih =>
    intro bt w up f
    rw [spkA]
    have := ih (bt + 1) (skipA (fun c => so 1 c bt) (fun c => nextA n b c up) many (if bt = 1 then w else nextA n b w up)) (if so 2 (skipA (fun c => so 1 c bt) (fun c => nextA n b c up) many (if bt = 1 then w else nextA n b w up)) bt then !up else up) (va_up f bt (skipA (fun c => so 1 c bt) (fun c => nextA n b c up) many (if bt = 1 then w else nextA n b w up)))
    rw [show bt + (k + 1) = bt + 1 + k by omega]
    exact this
theorem spk_0 {n b many : Nat} {so : Nat → Nat → Nat → Bool} : ∀ (k bt w : Nat) (up : Bool) (f : Nat → Nat), 1 ≤ bt → (spkA so n b many k bt w up f).2 0 = f 0 := by
  intro k
  induction k with
  | zero => intro bt w up f _; rfl
  | succ k ih =>
    intro bt w up f h
    rw [spkA, ih _ _ _ _ (by omega)]
    unfold va_up
    rw [if_neg (by omega)]
theorem fall_last {x : Rg} {r less : Nat} (g : GdR x) (hr : r < x.1 17) : (fallX x r less).2 (lenX x r less) = (fallX x r less).1 := by
  have hb := lenX_b (less := less) g hr
  obtain ⟨k, hk⟩ : ∃ k, lenX x r less = k + 1 := ⟨lenX x r less - 1, by omega⟩
  have hk' : lenB (lwF x) (sx x) (x.1 2) (x.1 15) (x.1 0) (x.1 1 % x.1 16) r less = k + 1 := hk
  rw [hk]
  show (sayF _ _ _ _ _ _ _ _).2 _ = (sayF _ _ _ _ _ _ _ _).1
  unfold sayF
  rw [hk']
  have := spk_last (so := fun k c bt => soA (lwF x) (sx x) (x.1 2) (x.1 15) k r c bt (pc (x.1 0))) (n := sx x 16) (b := x.1 0) (many := pc (x.1 0)) k 1 (firstA (sx x 16) (x.1 0) (x.1 1 % x.1 16)) true (fun _ => firstA (sx x 16) (x.1 0) (x.1 1 % x.1 16))
  rw [Nat.add_comm 1 k] at this
  exact this
theorem fall_0 {x : Rg} {r less : Nat} : (fallX x r less).2 0 = firstA (x.1 16) (x.1 0) (x.1 1 % x.1 16) := by
  show (sayF _ _ _ _ _ _ _ _).2 0 = _
  unfold sayF
  rw [spk_0 _ _ _ _ _ (by omega), show sx x 16 = x.1 16 from sx_e (by omega)]
def sayX (x : Rg) (r less : Nat) : Rg := upR (upR x 1 (behA (x.1 16) (x.1 0) (tellX x r less) % 6)) 0 (behA (x.1 16) (x.1 0) (tellX x r less) / 6)
theorem sayX_1 {x : Rg} {r less i : Nat} : (sayX x r less).1 i = if i = 0 then behA (x.1 16) (x.1 0) (tellX x r less) / 6 else if i = 1 then behA (x.1 16) (x.1 0) (tellX x r less) % 6 else x.1 i := rfl
theorem beh_p {n b t : Nat} (hn : n ≤ 6) : behA n b t / 6 = (if t < 100 then b - 2 ^ (t % 100) else b) ∧ behA n b t % 6 = (if t % 100 + 1 < n then t % 100 + 1 else 0) := by
  unfold behA
  have h : (if t % 100 + 1 < n then t % 100 + 1 else 0) < 6 := by split <;> omega
  omega
abbrev S_sy : List (Nat × Option Nat) := [(38, some 22), (38, some 23), (38, some 24), (38, some 25), (50, none), (51, none), (40, some 0), (40, some 1)]
theorem says_ok {st : St} {x : Rg} {r less : Nat} (g : GdR x) (lo : LwOK x) (m : MRg st 40 0 x) (h0 : x.1 0 ≠ 0) (hr : r < x.1 17) (hs : less ≤ 1) : ∃ u, fX8_says (nI r) (nI less) st = some (nI (tellX x r less), u) ∧ FR S_sy st u ∧ MRg u 40 0 (sayX x r less) := by
  have hn := g.1
  have h17 := g.2.2.1
  have hn1 := many_in g h0
  have h64 := b_lt64 g
  have hm : x.1 1 % x.1 16 < x.1 16 := Nat.mod_lt _ (by omega)
  have hpc := pc_le _ h64
  have hlb := lenX_b (less := less) g hr
  obtain ⟨hw, hi⟩ := sayF_in (lw := lwF x) (vr := x.1 2) (vm := x.1 15) (r := r) (less := less) g g.2.1 h0 hm
  obtain ⟨u, e1, e2, e3⟩ := counts_ok (less := less) g lo m h0 hr hs
  have mu := MRg.fr (by rfl) e2 m
  unfold fX8_says
  rw [e1, Option.bind_some]
  simp only [n_ixb (show lenX x r less < 2147483648 by omega), show lenX x r less < 16 by omega, decide_true, chk_t, n_toNat (show lenX x r less < 2147483648 by omega)]
  rw [inside_ok (x := x) h64 (mu.k (by omega)), Option.bind_some, e3 _ (Nat.le_refl _), fall_last g hr]
  generalize hwd : (fallX x r less).1 = w at *
  have hw' : w < x.1 16 := hw
  have hi' : bit (x.1 0) w = 1 := hi
  obtain ⟨u2, e4, e5⟩ := isSo8 (k := 3) (r := r) (c := w) (bt := lenX x r less) (many := pc (x.1 0)) g lo mu (by omega) (by omega) (by omega) (by omega) (by omega)
  rw [show (4 : Int32) = nI (3 + 1) from rfl, e4, Option.bind_some]
  have m2 := MRg.fr (by rfl) e5 mu
  have f2 : FR S_sy st u2 := (FR.mono (by rfl) e2).trans (FR.mono (by rfl) e5)
  have h16 : sI u2 40 16 = nI (x.1 16) := m2.k (by omega)
  simp only [h16, n_nz (show x.1 16 < 2147483648 by omega) hn1, chk_t, b2i_0, n_p1, n_rem (show w + 1 < 2147483648 by omega) (show x.1 16 < 2147483648 by omega)]
  have hat : (w + 1) % x.1 16 = if w + 1 < x.1 16 then w + 1 else 0 := by
    split
    · exact Nat.mod_eq_of_lt (by omega)
    · rw [show w + 1 = x.1 16 by omega]; exact Nat.mod_self _
  have htl : tellX x r less = if soA (lwF x) (sx x) (x.1 2) (x.1 15) 3 r w (lenX x r less) (pc (x.1 0)) = true then 100 + w else w := by
    show sayA _ _ _ _ _ _ _ _ = _
    unfold sayA
    rw [show (sayF (lwF x) (sx x) (x.1 2) (x.1 15) (x.1 0) (x.1 1 % x.1 16) r less).1 = w from hwd]
  have hb := beh_p (n := x.1 16) (b := x.1 0) (t := tellX x r less) hn
  by_cases c : soA (lwF x) (sx x) (x.1 2) (x.1 15) 3 r w (lenX x r less) (pc (x.1 0)) = false
  · rw [if_pos c]
    have ht : tellX x r less = w := by rw [htl, c]; simp
    refine ⟨_, by rw [ht], FR.pI (by rfl) (FR.pI (by rfl) f2), ?_⟩
    unfold sayX
    rw [hb.1, hb.2, ht, show w % 100 = w from Nat.mod_eq_of_lt (by omega), ← hat, if_pos (show w < 100 by omega)]
    have h40 : sI (pI u2 40 1 (nI ((w + 1) % x.1 16))) 40 0 = nI (x.1 0) := by rw [sI_pI, if_neg (by omega)]; exact m2.k (by omega)
    rw [h40, andn64 _ h64 w (by omega) hi']
    exact MRg_up (by omega) (MRg_up (by omega) m2)
  · rw [if_neg c]
    have c' : soA (lwF x) (sx x) (x.1 2) (x.1 15) 3 r w (lenX x r less) (pc (x.1 0)) = true := by
      cases hh : soA (lwF x) (sx x) (x.1 2) (x.1 15) 3 r w (lenX x r less) (pc (x.1 0)) with
      | false => exact absurd hh c
      | true => rfl
    have ht : tellX x r less = 100 + w := by rw [htl, c']; simp
    refine ⟨_, by rw [ht, show (100 : Int32) = nI 100 from rfl, n_add], FR.pI (by rfl) f2, ?_⟩
    unfold sayX
    have h100 : (100 + w) % 100 = w := by omega
    rw [hb.1, hb.2, ht, h100, ← hat, if_neg (show ¬ 100 + w < 100 by omega)]
    have m3 : MRg (pI u2 40 1 (nI ((w + 1) % x.1 16))) 40 0 (upR x 1 ((w + 1) % x.1 16)) := MRg_up (by omega) m2
    have hid : upR (upR x 1 ((w + 1) % x.1 16)) 0 (x.1 0) = upR x 1 ((w + 1) % x.1 16) := by
      unfold upR
      congr 1
      funext i
      unfold va_up
      by_cases ci : i = 0
      · subst ci; simp
      · rw [if_neg ci]
    rw [hid]; exact m3
