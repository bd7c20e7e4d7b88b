/-! a rhyme is said by the class -/
theorem nxt_lt {n c : Nat} {up : Bool} (h : c < n) : nxt n c up < n := by
  unfold nxt
  cases up <;> simp only [if_true, if_false, Bool.false_eq_true] <;> split <;> omega
theorem nextF_lt {n b o : Nat} {up : Bool} (ho : o < n) : ∀ (k c : Nat), c < n → nextF n b up o k c < n := by
  intro k
  induction k with
  | zero => intro c _; exact ho
  | succ k ih =>
    intro c hc
    unfold nextF
    split
    · exact nxt_lt hc
    · exact ih _ (nxt_lt hc)
theorem nextA_lt {n b c : Nat} {up : Bool} (hc : c < n) : nextA n b c up < n := nextF_lt hc n c hc
theorem firstA_lt {n b c : Nat} (hc : c < n) : firstA n b c < n := by
  unfold firstA
  split
  · exact hc
  · exact nextA_lt hc
def wy (up : Bool) : Int32 := if up = true then 1 else -1
theorem next_loop {st : St} {n b o : Nat} {up : Bool} (hn : n ≤ 6) (hb : b < 64) (h4 : sI st 1 4 = nI n) : ∀ (k m c i : Nat), i + k = n → k < m → c < n → fX6_nextIn_b6 st m (nI b) (nI o) (wy up) (nI c) (nI i) = some (nI (nextF n b up o k c)) := by
  intro k
  induction k with
  | zero =>
    intro m c i h1 h2 hc
    obtain ⟨m, rfl⟩ : ∃ j, m = j + 1 := ⟨m - 1, by omega⟩
    rw [fX6_nextIn_b6, h4, if_pos (by rw [n_le (by omega) (by omega)]; omega)]; rfl
  | succ k ih =>
    intro m c i h1 h2 hc
    obtain ⟨m, rfl⟩ : ∃ j, m = j + 1 := ⟨m - 1, by omega⟩
    have hx := nxt_lt (up := up) hc
    have e : (if nI c + wy up < nI n then (if 0 ≤ nI c + wy up then (fX6_nextIn_b58 st (fun zl1 zl2 zl3 zl4 zl5 => fX6_nextIn_b6 st m zl1 zl2 zl3 zl4 zl5) (nI b) (nI o) (wy up) (nI c + wy up) (nI i)) else (fX6_nextIn_b58 st (fun zl1 zl2 zl3 zl4 zl5 => fX6_nextIn_b6 st m zl1 zl2 zl3 zl4 zl5) (nI b) (nI o) (wy up) (nI n - 1) (nI i))) else (fX6_nextIn_b58 st (fun zl1 zl2 zl3 zl4 zl5 => fX6_nextIn_b6 st m zl1 zl2 zl3 zl4 zl5) (nI b) (nI o) (wy up) 0 (nI i))) = fX6_nextIn_b58 st (fun zl1 zl2 zl3 zl4 zl5 => fX6_nextIn_b6 st m zl1 zl2 zl3 zl4 zl5) (nI b) (nI o) (wy up) (nI (nxt n c up)) (nI i) := by
      unfold nxt
      cases up with
      | true =>
        rw [show wy true = 1 from rfl, n_p1]
        by_cases c1 : c + 1 < n
        · rw [if_pos (by rw [n_lt (by omega) (by omega)]; exact c1), if_pos (by rw [n_nn (by omega)]; trivial), if_pos rfl, if_pos c1]
        · rw [if_neg (by rw [n_lt (by omega) (by omega)]; exact c1), if_pos rfl, if_neg c1]; rfl
      | false =>
        rw [show wy false = -1 from rfl]
        by_cases c1 : c = 0
        · subst c1
          rw [if_pos (by rw [Int32.lt_iff_toInt_lt, n_toInt (by omega), show (nI 0 + -1).toInt = -1 by decide]; omega), if_neg (by decide), if_neg (by decide), if_pos rfl, n_one (by omega)]
        · rw [n_m1 (by omega), if_pos (by rw [n_lt (by omega) (by omega)]; omega), if_pos (by rw [n_nn (by omega)]; trivial), if_neg (by decide), if_neg c1]
    rw [fX6_nextIn_b6, h4, if_neg (by rw [n_le (by omega) (by omega)]; omega), e]
    unfold fX6_nextIn_b58 nextF
    rw [shr64 _ hb _ (by omega)]
    rcases bit_le b (nxt n c up) with hz | hz
    · rw [hz, if_neg (by decide), if_neg (by decide), n_p1]
      exact ih m _ (i + 1) (by omega) (by omega) hx
    · rw [hz, if_pos (by decide), if_pos rfl]
theorem next_ok {st : St} {n b c : Nat} {up : Bool} (hn : n ≤ 6) (hb : b < 64) (h4 : sI st 1 4 = nI n) (hc : c < n) : fX6_nextIn st (nI b) (nI c) (wy up) = some (nI (nextA n b c up)) := by
  unfold fX6_nextIn
  exact next_loop hn hb h4 n FU c 0 (by omega) (by unfold FU; omega) hc
theorem first_ok {st : St} {n b c : Nat} (hn : n ≤ 6) (hb : b < 64) (h4 : sI st 1 4 = nI n) (hc : c < n) : fX6_firstIn st (nI b) (nI c) = some (nI (firstA n b c)) := by
  unfold fX6_firstIn firstA
  rw [shr64 _ hb _ (by omega)]
  rcases bit_le b c with hz | hz
  · rw [hz, if_neg (by decide), if_neg (by decide)]
    exact next_ok (up := true) hn hb h4 hc
  · rw [hz, if_pos (by decide), if_pos rfl]
abbrev S_sp : List (Nat × Option Nat) := [(20, none), (21, none), (22, none), (23, none)]
theorem wy_neg (up : Bool) : -wy up = wy (!up) := by cases up <;> decide
abbrev K40 : Type := Int32 → Int32 → Int32 → Int32 → Int32 → Int32 → St → Option (Int32 × St)
theorem b2i_0 {b : Bool} : (b2i b = 0) = (b = false) := by cases b <;> decide
theorem skip_loop {x : Rg} {lw : Lw0} {vr vm b r many bt : Nat} {up : Bool} {k40 : K40} (g : GdR x) (hb : b < 64) (hr : r < 5) (hm : many < 7) (hbt : bt < 16) : ∀ (d m w i : Nat) (st : St), i + d = many → d < m → w < x.1 16 → Vt st x lw vr vm → ∃ u, fX6_speak_b76 k40 m (nI b) (nI r) (nI many) (nI w) (wy up) (nI bt) (nI i) st = fX6_speak_b115 k40 (nI b) (nI r) (nI many) (nI (skipA (fun c => soA lw (sx x) vr vm 1 r c bt many) (fun c => nextA (x.1 16) b c up) d w)) (wy up) (nI bt) u ∧ Vt u x lw vr vm ∧ FR S_so st u ∧ skipA (fun c => soA lw (sx x) vr vm 1 r c bt many) (fun c => nextA (x.1 16) b c up) d w < x.1 16 := by
  intro d
  have h6 := g.1
  induction d with
  | zero =>
    intro m w i st h1 h2 hw v
    obtain ⟨m, rfl⟩ : ∃ j, m = j + 1 := ⟨m - 1, by omega⟩
    refine ⟨st, ?_, v, FR.rf, hw⟩
    rw [fX6_speak_b76, if_pos (by rw [n_le (by omega) (by omega)]; omega)]; rfl
  | succ d ih =>
    intro m w i st h1 h2 hw v
    obtain ⟨m, rfl⟩ : ∃ j, m = j + 1 := ⟨m - 1, by omega⟩
    obtain ⟨u, e1, v1, f1⟩ := so_ok (k := 1) g v (by omega) hr (show w < 6 by omega) hbt hm
    have e1' : fX6_isSo 1 (nI r) (nI w) (nI bt) (nI many) st = _ := e1
    rw [fX6_speak_b76, if_neg (by rw [n_le (by omega) (by omega)]; omega), e1', Option.bind_some]
    simp only [b2i_0]
    unfold skipA
    cases hs : soA lw (sx x) vr vm 1 r w bt many with
    | false =>
      simp only [Bool.false_eq_true, if_false]
      rw [if_pos trivial]
      exact ⟨u, rfl, v1, f1, hw⟩
    | true =>
      simp only [if_true]
      rw [if_neg (by decide), next_ok h6 hb v1.2.1.1.1 hw, Option.bind_some, n_p1]
      obtain ⟨u2, q1, q2, q3, q4⟩ := ih m _ (i + 1) u (by omega) (by omega) (nextA_lt hw) v1
      exact ⟨u2, q1, q2, f1.trans q3, q4⟩
theorem speak_loop {x : Rg} {lw : Lw0} {vr vm b r many len : Nat} (g : GdR x) (hb : b < 64) (hr : r < 5) (hm : many < 7) (hl : len ≤ 15) : ∀ (k m bt w : Nat) (up : Bool) (f : Nat → Nat) (st : St), k + bt = len + 1 → k < m → 1 ≤ bt → w < x.1 16 → Vt st x lw vr vm → sI st 19 10 = nI len → (∀ j, 1 ≤ j → j < bt → sI st 22 j = nI (f j)) → ∃ u, fX6_speak_b40 m (nI b) (nI r) (nI many) (nI w) (wy up) (nI bt) st = fX6_speak_b150 (nI r) (nI many) (nI (spkA (fun k c bt => soA lw (sx x) vr vm k r c bt many) (x.1 16) b many k bt w up f).1) u ∧ Vt u x lw vr vm ∧ FR S_sp st u ∧ (spkA (fun k c bt => soA lw (sx x) vr vm k r c bt many) (x.1 16) b many k bt w up f).1 < x.1 16 ∧ ∀ j, 1 ≤ j → j ≤ len → sI u 22 j = nI ((spkA (fun k c bt => soA lw (sx x) vr vm k r c bt many) (x.1 16) b many k bt w up f).2 j) := by
  intro k
  have h6 := g.1
  induction k with
  | zero =>
    intro m bt w up f st h1 h2 h3 hw v h4 h5
    obtain ⟨m, rfl⟩ : ∃ j, m = j + 1 := ⟨m - 1, by omega⟩
    refine ⟨st, ?_, v, FR.rf, hw, fun j h7 h8 => h5 j h7 (by omega)⟩
    rw [fX6_speak_b40, h4, if_pos (by rw [n_lt (by omega) (by omega)]; omega)]; rfl
  | succ k ih =>
    intro m bt w up f st h1 h2 h3 hw v h4 h5
    obtain ⟨m, rfl⟩ : ∃ j, m = j + 1 := ⟨m - 1, by omega⟩
    rw [fX6_speak_b40, h4, if_neg (by rw [n_lt (by omega) (by omega)]; omega), if_neg (by rw [show (15 : Int32) = nI 15 from rfl, n_lt (by omega) (by omega)]; omega)]
    have hpre : ∀ z : K40, (if nI bt ≤ (1 : Int32) then fX6_speak_b73 z (nI b) (nI r) (nI many) (nI w) (wy up) (nI bt) st else (fX6_nextIn st (nI b) (nI w) (wy up)).bind (fun q4 => fX6_speak_b73 z (nI b) (nI r) (nI many) q4 (wy up) (nI bt) st)) = fX6_speak_b73 z (nI b) (nI r) (nI many) (nI (if bt = 1 then w else nextA (x.1 16) b w up)) (wy up) (nI bt) st := by
      intro z
      by_cases c : bt = 1
      · rw [if_pos (by rw [c]; decide), if_pos c]
      · rw [if_neg (by rw [show (1 : Int32) = nI 1 from rfl, n_le (by omega) (by omega)]; omega), next_ok h6 hb v.2.1.1.1 hw, Option.bind_some, if_neg c]
    rw [hpre]
    unfold fX6_speak_b73
    have hw1 : (if bt = 1 then w else nextA (x.1 16) b w up) < x.1 16 := by
      split
      · exact hw
      · exact nextA_lt hw
    obtain ⟨u, e1, v1, f1, hw2⟩ := skip_loop (bt := bt) (up := up) (k40 := fun zl1 zl3 zl5 zl6 zl7 zl8 zst => fX6_speak_b40 m zl1 zl3 zl5 zl6 zl7 zl8 zst) g hb hr hm (by omega) many FU _ 0 st (by omega) (by unfold FU; omega) hw1 v
    have e1' : fX6_speak_b76 (fun zl1 zl3 zl5 zl6 zl7 zl8 zst => fX6_speak_b40 m zl1 zl3 zl5 zl6 zl7 zl8 zst) FU (nI b) (nI r) (nI many) (nI (if bt = 1 then w else nextA (x.1 16) b w up)) (wy up) (nI bt) 0 st = _ := e1
    rw [e1']
    unfold spkA
    generalize hw' : skipA (fun c => soA lw (sx x) vr vm 1 r c bt many) (fun c => nextA (x.1 16) b c up) many (if bt = 1 then w else nextA (x.1 16) b w up) = w' at *
    unfold fX6_speak_b115
    have f2 : FR S_q u (pI u 22 bt (nI w')) := FR.pI (by rfl) FR.rf
    obtain ⟨u2, e2, v2, f3⟩ := so_ok (k := 2) (r := r) (c := w') (bt := bt) (many := many) g (v1.q f2) (by omega) hr (by omega) (by omega) hm
    have e2' : fX6_isSo 2 (nI r) (nI w') (nI bt) (nI many) (pI u 22 bt (nI w')) = _ := e2
    rw [n_ixb (by omega), decide_eq_true (show bt < 16 by omega), chk_t, n_toNat (by omega), e2', Option.bind_some]
    simp only [b2i_0]
    unfold fX6_speak_b144
    have g1 : FR S_sp st u2 := FR.trans (FR.mono (by rfl) f1) (FR.trans (FR.pI (by rfl) FR.rf) (FR.mono (by rfl) f3))
    have h4' : sI u2 19 10 = nI len := (g1.i (hasA_in (by rfl))).trans h4
    have h5' : ∀ j, 1 ≤ j → j < bt + 1 → sI u2 22 j = nI (va_up f bt w' j) := by
      intro j h7 h8
      rw [f3.i (hasA_in (by rfl)), sI_pI]
      unfold va_up
      by_cases cj : j = bt
      · rw [if_pos ⟨rfl, cj⟩, if_pos cj]
      · rw [if_neg (fun q => cj q.2), if_neg cj, f1.i (hasA_in (by rfl))]; exact h5 j h7 (by omega)
    cases hs : soA lw (sx x) vr vm 2 r w' bt many with
    | false =>
      simp only [Bool.false_eq_true, if_false]
      rw [if_pos trivial, n_p1]
      obtain ⟨u3, q1, q2, q3, q4, q5⟩ := ih m (bt + 1) w' up (va_up f bt w') u2 (by omega) (by omega) (by omega) hw2 v2 h4' h5'
      exact ⟨u3, q1, q2, g1.trans q3, q4, q5⟩
    | true =>
      simp only [if_true]
      rw [if_neg (by decide), n_p1, wy_neg]
      obtain ⟨u3, q1, q2, q3, q4, q5⟩ := ih m (bt + 1) w' (!up) (va_up f bt w') u2 (by omega) (by omega) (by omega) hw2 v2 h4' h5'
      exact ⟨u3, q1, q2, g1.trans q3, q4, q5⟩
theorem clamp_b (v : Int32) : 1 ≤ clamp v ∧ clamp v ≤ 15 := by
  unfold clamp
  by_cases c1 : v < 1
  · rw [if_pos c1]; omega
  · rw [if_neg c1]
    by_cases c2 : 15 < v
    · rw [if_pos c2]; omega
    · rw [if_neg c2]
      rcases n_cases v with h | ⟨m, hm, rfl⟩
      · exfalso; apply c1
        rw [Int32.lt_iff_toInt_lt] at h ⊢
        have h1 : (1 : Int32).toInt = 1 := by decide
        have h0 : (0 : Int32).toInt = 0 := by decide
        omega
      · rw [show (1 : Int32) = nI 1 from rfl, n_lt hm (by omega)] at c1
        rw [show (15 : Int32) = nI 15 from rfl, n_lt (by omega) hm] at c2
        rw [n_toNat hm]; omega
theorem lenL_b {L : List Cls} {f : Nat → Int32} : ∀ {d : Nat}, 1 ≤ d → d ≤ 15 → 1 ≤ lenL L f d ∧ lenL L f d ≤ 15 := by
  induction L with
  | nil => intro d h1 h2; exact ⟨h1, h2⟩
  | cons c L ih =>
    intro d h1 h2
    unfold lenL
    rw [List.foldl_cons]
    have : 1 ≤ lenS f d c ∧ lenS f d c ≤ 15 := by
      unfold lenS
      split
      · split
        · exact ⟨h1, h2⟩
        · exact clamp_b _
      · exact ⟨h1, h2⟩
    exact ih this.1 this.2
theorem lenA_b {lw : Lw0} {x : Rg} {vr vm r c many : Nat} (g : GdR x) (hr : r < x.1 17) : 1 ≤ lenA lw (sx x) vr vm r c many ∧ lenA lw (sx x) vr vm r c many ≤ 15 := by
  have h5 := g.2.2.1
  have h1 := g.2.2.2.2.2.2.2.2.2.2.2 r hr
  have h2 := g.2.2.2.2.2.2.2.2.2.2.1 r (by omega)
  unfold lenA
  cases lw with
  | none => simp only []; rw [sx_e (by omega)]; omega
  | some L => simp only []; rw [sx_e (by omega)]; exact lenL_b h1 h2
theorem speak_ok {st : St} {x : Rg} {lw : Lw0} {vr vm b at_ r less : Nat} (g : GdR x) (v : Vt st x lw vr vm) (hb : b < 64) (ha : at_ < x.1 16) (hr : r < x.1 17) (hls : less ≤ 1) : ∃ u, fX6_speak (nI b) (nI at_) (nI r) (nI less) st = some (nI (sayA lw (sx x) vr vm b at_ r less), u) ∧ Vt u x lw vr vm ∧ FR wX6_speak_S st u ∧ sI u 19 10 = nI (lenB lw (sx x) vr vm b at_ r less) ∧ (∀ j, 1 ≤ j → j ≤ lenB lw (sx x) vr vm b at_ r less → sI u 22 j = nI ((sayF lw (sx x) vr vm b at_ r less).2 j)) ∧ (sayF lw (sx x) vr vm b at_ r less).1 < x.1 16 := by
  have h6 := g.1
  have h5 := g.2.2.1
  have hpc := pc_le b hb
  have e16 : sx x 16 = x.1 16 := sx_e (by omega)
  have hf := firstA_lt (b := b) ha
  obtain ⟨lb1, lb2⟩ := lenA_b (lw := lw) (vr := vr) (vm := vm) (c := firstA (x.1 16) b at_) (many := pc b) g hr
  obtain ⟨u, e1, v1, f1⟩ := len_ok (c := firstA (x.1 16) b at_) (many := pc b) g v (show r < 5 by omega) (by omega) (by omega)
  have hlb : lenB lw (sx x) vr vm b at_ r less = max 1 (lenA lw (sx x) vr vm r (firstA (x.1 16) b at_) (pc b) - less) := by unfold lenB; rw [e16]
  have hmx : jmax 1 (nI (lenA lw (sx x) vr vm r (firstA (x.1 16) b at_) (pc b)) - nI less) = nI (lenB lw (sx x) vr vm b at_ r less) := by
    rw [hlb, n_sub (by omega)]
    unfold jmax
    by_cases c : 1 < lenA lw (sx x) vr vm r (firstA (x.1 16) b at_) (pc b) - less
    · rw [if_pos (by rw [show (1 : Int32) = nI 1 from rfl, n_lt (by omega) (by omega)]; exact c)]
      congr 1; omega
    · rw [if_neg (by rw [show (1 : Int32) = nI 1 from rfl, n_lt (by omega) (by omega)]; exact c)]
      show nI 1 = _
      congr 1; omega
  have hl15 : lenB lw (sx x) vr vm b at_ r less ≤ 15 := by rw [hlb]; omega
  have hl1 : 1 ≤ lenB lw (sx x) vr vm b at_ r less := by rw [hlb]; omega
  have f2 : FR S_q u (pI u 19 10 (nI (lenB lw (sx x) vr vm b at_ r less))) := FR.pI (by rfl) FR.rf
  obtain ⟨u2, e2, v2, f3, hw, hfal⟩ := speak_loop (b := b) (many := pc b) (len := lenB lw (sx x) vr vm b at_ r less) g hb (show r < 5 by omega) (by omega) hl15 (lenB lw (sx x) vr vm b at_ r less) FU 1 (firstA (x.1 16) b at_) true (fun _ => firstA (x.1 16) b at_) (pI u 19 10 (nI (lenB lw (sx x) vr vm b at_ r less))) (by omega) (by unfold FU; omega) (by omega) hf (v1.q f2) (by rw [sI_pI, if_pos ⟨rfl, rfl⟩]) (fun j h7 h8 => by omega)
  have hsF : sayF lw (sx x) vr vm b at_ r less = spkA (fun k c bt => soA lw (sx x) vr vm k r c bt (pc b)) (x.1 16) b (pc b) (lenB lw (sx x) vr vm b at_ r less) 1 (firstA (x.1 16) b at_) true (fun _ => firstA (x.1 16) b at_) := by unfold sayF; rw [e16]
  rw [← hsF] at e2 hw hfal
  have h10 : sI u2 19 10 = nI (lenB lw (sx x) vr vm b at_ r less) := by rw [f3.i (hasA_in (by rfl)), sI_pI, if_pos ⟨rfl, rfl⟩]
  obtain ⟨u3, e3, v3, f4⟩ := so_ok (k := 3) (r := r) (c := (sayF lw (sx x) vr vm b at_ r less).1) (bt := lenB lw (sx x) vr vm b at_ r less) (many := pc b) g v2 (by omega) (by omega) (by omega) (by omega) (by omega)
  have hres : fX6_speak (nI b) (nI at_) (nI r) (nI less) st = some (nI (sayA lw (sx x) vr vm b at_ r less), u3) := by
    unfold fX6_speak
    have e2' : fX6_speak_b40 FU (nI b) (nI r) (nI (pc b)) (nI (firstA (x.1 16) b at_)) 1 1 (pI u 19 10 (nI (lenB lw (sx x) vr vm b at_ r less))) = _ := e2
    rw [first_ok h6 hb v.2.1.1.1 ha, Option.bind_some, bc64 _ hb, e1, Option.bind_some]
    simp only [hmx]
    rw [e2']
    unfold fX6_speak_b150
    have e3' : fX6_isSo 3 (nI r) (nI (sayF lw (sx x) vr vm b at_ r less).1) (nI (lenB lw (sx x) vr vm b at_ r less)) (nI (pc b)) u2 = _ := e3
    rw [h10, e3', Option.bind_some]
    simp only [b2i_0]
    unfold sayA
    cases hs : soA lw (sx x) vr vm 3 r (sayF lw (sx x) vr vm b at_ r less).1 (lenB lw (sx x) vr vm b at_ r less) (pc b) with
    | false => rfl
    | true =>
      simp only [if_true]
      rw [if_neg (by decide), show (100 : Int32) = nI 100 from rfl, n_add]
  exact ⟨u3, hres, v3, mX6_speak hres, (f4.i (hasA_in (by rfl))).trans h10, fun j h7 h8 => (f4.i (hasA_in (by rfl))).trans (hfal j h7 h8), hw⟩
