/-! the voice is tuned; what is behind a saying -/
theorem cod_uniq {st : St} {q sz cap : Nat} {v : Int32} {D E : Dn} (h65 : 65 ≤ q) (n20 : sN st 20 = 7) (n21 : sN st 21 = 40) (h1 : sz ≤ 826) (h2 : sz ≤ cap) (h3 : cap ≤ 1000) (h4 : scr st q 6 0 = nI cap) (h5 : scr st q 0 6 = nI sz) (d : Cod 7 (scr st q) sz v D) (e : Cod 7 (scr st q) sz v E) (f : Nat → Int32) : (D f).getD BRK = (E f).getD BRK := by
  have hs : scr (rI st 20 f) q = scr st q := by
    funext i j
    unfold scr
    by_cases c : i < 6
    · rw [if_pos c, if_pos c, sI_rI, if_neg (by omega)]
    · rw [if_neg c, if_neg c]; rfl
  have w : Wc 7 f (rI st 20 f) q 20 21 sz := imp_wc h1 h2 h3 (by rw [hs]; exact h4) (by rw [hs]; exact h5) n21 n20 (fun w _ => by rw [sI_rI, if_pos rfl]) (by omega) (by omega) (by omega)
  rw [← hs] at d e
  obtain ⟨u, k1, _⟩ := ev_cod w d
  obtain ⟨u', k1', _⟩ := ev_cod w e
  rw [k1] at k1'
  exact (Prod.mk.inj (Option.some.inj k1')).1
theorem any_ext {α : Type} {p p' : α → Bool} : ∀ {L L' : List α}, L.length = L'.length → (∀ (i : Nat) (c c' : α), L[i]? = some c → L'[i]? = some c' → p c = p' c') → L.any p = L'.any p' := by
  intro L
  induction L with
  | nil => intro L' h _; cases L' with | nil => rfl | cons a l => cases h
  | cons a l ih =>
    intro L' h hp
    cases L' with
    | nil => cases h
    | cons a' l' =>
      rw [List.any_cons, List.any_cons, hp 0 a a' rfl rfl, ih (by simpa using h) (fun i c c' hc hc' => hp (i + 1) c c' (by simpa using hc) (by simpa using hc'))]
theorem fold_ext {α β : Type} {p : β → α → β} : ∀ {L L' : List α} {d : β}, L.length = L'.length → (∀ (i : Nat) (c c' : α), L[i]? = some c → L'[i]? = some c' → ∀ z, p z c = p z c') → L.foldl p d = L'.foldl p d := by
  intro L
  induction L with
  | nil => intro L' d h _; cases L' with | nil => rfl | cons a l => cases h
  | cons a l ih =>
    intro L' d h hp
    cases L' with
    | nil => cases h
    | cons a' l' =>
      rw [List.foldl_cons, List.foldl_cons, hp 0 a a' rfl rfl, ih (by simpa using h) (fun i c c' hc hc' => hp (i + 1) c c' (by simpa using hc) (by simpa using hc'))]
theorem gt1' {o o' : Option Int32} (h : o.getD BRK = o'.getD BRK) : (o = some 1) = (o' = some 1) := by rw [← gt1, ← gt1, h]
theorem imp_uniq {st : St} {q : Nat} {L L' : List Cls} (h65 : 65 ≤ q) (n20 : sN st 20 = 7) (n21 : sN st 21 = 40) (h : Impl 7 (scr st q) L) (h' : Impl 7 (scr st q) L') : soA (some L) = soA (some L') ∧ lenA (some L) = lenA (some L') := by
  obtain ⟨i1, i2, sz, cap, ku, h1, h2, h3, h4, h5, h6, h7, h8, h9, h10⟩ := h
  obtain ⟨j1, j2, sz', cap', ku', g1, g2, g3, g4, g5, g6, g7, g8, g9, g10⟩ := h'
  have hl : L.length = L'.length := n_inj (by omega) (by omega) (i2.symm.trans j2)
  have hz : sz' = sz := n_inj (by omega) (by omega) (g5.symm.trans h5)
  subst hz
  have el : ∀ (i : Nat) (c c' : Cls), L[i]? = some c → L'[i]? = some c' → c.1 = c'.1 ∧ (∀ f, (c.2.2.2 f).getD BRK = (c'.2.2.2 f).getD BRK) ∧ (c.1 = 0 → ∀ f, (c.2.2.1 f).getD BRK = (c'.2.2.1 f).getD BRK) := by
    intro i c c' hc hc'
    obtain ⟨a1, a2, a3, a4, a5, a6⟩ := h9 i c hc
    obtain ⟨b1, b2, b3, b4, b5, b6⟩ := g9 i c' hc'
    have hk : c.1 = c'.1 := n_inj (by omega) (by omega) (a1.symm.trans b1)
    refine ⟨hk, fun f => ?_, fun h0 f => ?_⟩
    · have nz : ∀ D, Cod 7 (scr st q) sz' (scr st q 4 i) D → scr st q 4 i ≠ 0 := by
        intro D hD e
        obtain ⟨p, p1, hp, q1, q2, _, hs⟩ := hD
        have := hs.1
        rw [e] at hp
        have := n_inj (a := 0) (by omega) (by omega) hp
        omega
      rcases a6 with ⟨t1, t2⟩ | t <;> rcases b6 with ⟨t1', t2'⟩ | t'
      · rw [t2, t2']
      · exact absurd t1 (nz _ t')
      · exact absurd t1' (nz _ t)
      · exact cod_uniq h65 n20 n21 h1 h2 h3 h4 h5 t t' f
    · rw [← hk, h0] at b5
      rw [h0] at a5
      rcases a5 with ⟨t, _⟩ | ⟨_, t⟩
      · cases t
      · rcases b5 with ⟨t', _⟩ | ⟨_, t'⟩
        · cases t'
        · exact cod_uniq h65 n20 n21 h1 h2 h3 h4 h5 t t' f
  refine ⟨?_, ?_⟩
  · funext y vr vm k r c0 bt many
    show soL L k _ = soL L' k _
    unfold soL
    refine any_ext hl (fun i c c' hc hc' => ?_)
    obtain ⟨e1, e2, _⟩ := el i c c' hc hc'
    rw [e1]
    congr 1
    have := gt1' (e2 (fct y vr vm r c0 bt many))
    rw [Bool.eq_iff_iff, beq_iff_eq, beq_iff_eq, this]
  · funext y vr vm r c0 many
    show lenL L _ _ = lenL L' _ _
    unfold lenL
    refine fold_ext hl (fun i c c' hc hc' z => ?_)
    obtain ⟨e1, e2, e3⟩ := el i c c' hc hc'
    unfold lenS
    by_cases h0 : c.1 = 0
    · rw [← e1, e3 h0]
      simp only [gt1' (e2 _)]
    · rw [if_neg (fun e => h0 e.1), if_neg (fun e => h0 (e1.trans e.1))]
theorem VC_lw {st : St} {lw lw' : Lw0} {y : Nat → Nat} {vr vm sp : Nat} (h1 : soA lw = soA lw') (h2 : lenA lw = lenA lw') (m : VC st lw y vr vm sp) : VC st lw' y vr vm sp := by
  have h3 : aftA lw = aftA lw' := by
    unfold aftA sayA sayF lenB
    rw [h1, h2]
  unfold VC at m ⊢
  rw [← h1, ← h3]; exact m
/-- a law as the class holds it -/
def Lwo (st : St) (nl : Option Nat) (lw : Lw0) : Prop := (lw = none ∧ nl = none) ∨ ∃ L q, lw = some L ∧ nl = some q ∧ 65 ≤ q ∧ q + 6 ≤ sn st ∧ Impl 7 (scr st q) L ∧ Obj st 5 q
theorem tune_ok {st : St} {x : Rg} {nl : Option Nat} {lw : Lw0} {vr : Nat} (g : GdR x) (w : WT st) (c : CRg st 1 x) (m : CVo st (sx x)) (hl : Lwo st nl lw) (hv : vr ≤ 999) : ∃ u, fX6_tune nl (nI vr) st = some u ∧ Vt u x lw vr (x.1 15) ∧ FR wX6_tune_S st u := by
  obtain ⟨lw0, vr0, vm0, sp, m1, m2, m3⟩ := m
  have h15 := g.2.2.2.2.2.2.1
  have e15 : sI st 5 3 = nI (x.1 15) := c.2.1.2.2.2
  have other : ∃ u, fX6_tune_b32 nl (nI vr) st = some u ∧ Vt u x lw vr (x.1 15) := by
    obtain ⟨u, e1, f1, k1⟩ := v_forget w m3
    unfold fX6_tune_b32
    rw [e1, Option.bind_some]
    obtain ⟨sp', k2⟩ := k1 lw (sx x) vr (x.1 15)
    have e15' : sI (pI (pR u 19 7 nl) 19 8 (nI vr)) 5 3 = nI (x.1 15) := by
      rw [sI_pI, if_neg (by omega), sI_pR, f1.i (by rfl)]; exact e15
    rw [e15']
    refine ⟨_, rfl, ?_⟩
    have wu := WT_low (by rfl) f1 w
    have hob : ∀ b, nl = some b → Obj u 5 b := by
      intro b hb
      rcases hl with ⟨_, z⟩ | ⟨L, q, l1, l2, l3, l4, l5, l6⟩
      · rw [z] at hb; cases hb
      · rw [l2] at hb
        have : q = b := Option.some.inj hb
        subst this
        exact ⟨by have h0 : q < sn st := l6.1; show q < sn u; rw [f1.1.1]; exact h0, by have h0 : sK st q = 5 := l6.2; show sK u q = 5; rw [(f1.1.2.1 q).1]; exact h0⟩
    have w2 : WT (pR u 19 7 nl) := wpRv hob wu
    have hi : Hi st u := Hi.fr (fun a j cc => lowS_in (S := S_f) (by rfl) (by omega)) f1
    refine ⟨w2, ?_, ?_, ?_, sp', ?_⟩
    · have cu := CRg_fr (by rfl) f1 c
      refine CRg_eq (fun a j h1 h2 => ?_) cu
      rw [sI_pI, if_neg (by omega), sI_pI, if_neg (by omega), sI_pR]
    · rcases hl with ⟨z1, z⟩ | ⟨L, q, l1, l2, l3, l4, l5, l6⟩
      · exact Or.inl ⟨z1, by show sR (pR u 19 7 nl) 19 7 = none; rw [sR_pR, if_pos ⟨rfl, rfl⟩, z]⟩
      · refine Or.inr ⟨L, q, l1, by show sR (pR u 19 7 nl) 19 7 = some q; rw [sR_pR, if_pos ⟨rfl, rfl⟩, l2], l3, by show q + 6 ≤ sn u; rw [f1.1.1]; exact l4, ?_⟩
        have es : scr (pI (pI (pR u 19 7 nl) 19 8 (nI vr)) 19 9 (nI (x.1 15))) q = scr u q := by
          funext i j
          unfold scr
          by_cases cc : i < 6
          · rw [if_pos cc, if_pos cc, sI_pI, if_neg (by omega), sI_pI, if_neg (by omega), sI_pR]
          · rw [if_neg cc, if_neg cc]; rfl
        rw [es, scr_eq hi l3 l4]; exact l5
    · exact ⟨hv, h15, by rw [sI_pI, if_neg (by omega), sI_pI, if_pos ⟨rfl, rfl⟩], by rw [sI_pI, if_pos ⟨rfl, rfl⟩]⟩
    · refine VC_eq ?_ (fun j => ?_) (fun j => ?_) k2
      · rw [sI_pI, if_neg (by omega), sI_pI, if_neg (by omega), sI_pR]
      · rw [sI_pI, if_neg (by omega), sI_pI, if_neg (by omega), sI_pR]
      · rw [sI_pI, if_neg (by omega), sI_pI, if_neg (by omega), sI_pR]
  have main : ∃ u, fX6_tune nl (nI vr) st = some u ∧ Vt u x lw vr (x.1 15) := by
    unfold fX6_tune
    rw [m2.2.2.1, m2.2.2.2, e15]
    by_cases a1 : nl = sR st 19 7
    · rw [if_pos a1]
      by_cases a2 : nI vr = nI vr0
      · rw [if_pos a2]
        by_cases a3 : nI (x.1 15) = nI vm0
        · rw [if_pos a3]
          have b2 : vr = vr0 := n_inj (by omega) (by have := m2.1; omega) a2
          have b3 : x.1 15 = vm0 := n_inj (by omega) (by have := m2.2.1; omega) a3
          subst b2
          refine ⟨st, rfl, w, c, ?_, ?_, ?_⟩
          · rcases hl with ⟨z1, z⟩ | ⟨L, q, l1, l2, l3, l4, l5, l6⟩
            · exact Or.inl ⟨z1, by rw [← a1, z]⟩
            · exact Or.inr ⟨L, q, l1, by rw [← a1, l2], l3, l4, l5⟩
          · rw [b3]; exact m2
          · rw [b3]
            refine ⟨sp, ?_⟩
            rcases hl with ⟨z1, z⟩ | ⟨L, q, l1, l2, l3, l4, l5, l6⟩
            · rcases m1 with ⟨y1, y2⟩ | ⟨L', q', y1, y2, y3, y4, y5⟩
              · rw [z1]; rw [y1] at m3; exact m3
              · rw [z] at a1; rw [← a1] at y2; cases y2
            · rcases m1 with ⟨y1, y2⟩ | ⟨L', q', y1, y2, y3, y4, y5⟩
              · rw [l2, y2] at a1; cases a1
              · rw [l2, y2] at a1
                have hq : q = q' := Option.some.inj a1
                subst hq
                obtain ⟨u1, u2⟩ := imp_uniq l3 (w.N (a := 20) rfl) (w.N (a := 21) rfl) y5 l5
                rw [l1]; rw [y1] at m3
                exact VC_lw u1 u2 m3
        · rw [if_neg a3]; exact other
      · rw [if_neg a2]; exact other
    · rw [if_neg a1]; exact other
  obtain ⟨u, e1, e2⟩ := main
  exact ⟨u, e1, e2, mX6_tune e1⟩
/-! who is in -/
theorem nextA_in : ∀ n, n < 7 → ∀ b, b < 2 ^ n → b ≠ 0 → ∀ c, c < n → bit b (nextA n b c true) = 1 ∧ bit b (nextA n b c false) = 1 := by decide +kernel
theorem next_in {n b c : Nat} {up : Bool} (hn : n ≤ 6) (hb : b < 2 ^ n) (h0 : b ≠ 0) (hc : c < n) : bit b (nextA n b c up) = 1 := by
  obtain ⟨h1, h2⟩ := nextA_in n (by omega) b hb h0 c hc
  cases up
  · exact h2
  · exact h1
theorem first_in {n b c : Nat} (hn : n ≤ 6) (hb : b < 2 ^ n) (h0 : b ≠ 0) (hc : c < n) : bit b (firstA n b c) = 1 := by
  unfold firstA
  split
  · assumption
  · exact next_in hn hb h0 hc
theorem skip_in {n b : Nat} {so : Nat → Bool} {up : Bool} (hn : n ≤ 6) (hb : b < 2 ^ n) (h0 : b ≠ 0) : ∀ (k w : Nat), w < n → bit b w = 1 → skipA so (fun c => nextA n b c up) k w < n ∧ bit b (skipA so (fun c => nextA n b c up) k w) = 1 := by
  intro k
  induction k with
  | zero => intro w h1 h2; exact ⟨h1, h2⟩
  | succ k ih =>
    intro w h1 h2
    unfold skipA
    split
    · exact ih _ (nextA_lt h1) (next_in hn hb h0 h1)
    · exact ⟨h1, h2⟩
theorem spk_in {n b many : Nat} {so : Nat → Nat → Nat → Bool} (hn : n ≤ 6) (hb : b < 2 ^ n) (h0 : b ≠ 0) : ∀ (k bt w : Nat) (up : Bool) (f : Nat → Nat), w < n → bit b w = 1 → (spkA so n b many k bt w up f).1 < n ∧ bit b (spkA so n b many k bt w up f).1 = 1 := by
  intro k
  induction k with
  | zero => intro bt w up f h1 h2; exact ⟨h1, h2⟩
  | succ k ih =>
    intro bt w up f h1 h2
    unfold spkA
    have h3 : (if bt = 1 then w else nextA n b w up) < n ∧ bit b (if bt = 1 then w else nextA n b w up) = 1 := by
      split
      · exact ⟨h1, h2⟩
      · exact ⟨nextA_lt h1, next_in hn hb h0 h1⟩
    obtain ⟨h4, h5⟩ := skip_in (so := fun c => so 1 c bt) (up := up) hn hb h0 many _ h3.1 h3.2
    exact ih _ _ _ _ h4 h5
theorem sayF_in {x : Rg} {lw : Lw0} {vr vm b at_ r less : Nat} (g : GdR x) (hb : b < 2 ^ x.1 16) (h0 : b ≠ 0) (ha : at_ < x.1 16) : (sayF lw (sx x) vr vm b at_ r less).1 < x.1 16 ∧ bit b (sayF lw (sx x) vr vm b at_ r less).1 = 1 := by
  unfold sayF
  rw [sx_e (show 3 ≤ 16 ∧ 16 < 14 ∨ 16 = 16 by omega)]
  exact spk_in g.1 hb h0 _ _ _ _ _ (firstA_lt ha) (first_in g.1 hb h0 ha)
theorem sayA_c {x : Rg} {lw : Lw0} {vr vm b at_ r less : Nat} : (sayA lw (sx x) vr vm b at_ r less = (sayF lw (sx x) vr vm b at_ r less).1 ∨ sayA lw (sx x) vr vm b at_ r less = 100 + (sayF lw (sx x) vr vm b at_ r less).1) := by
  unfold sayA
  split
  · exact Or.inr rfl
  · exact Or.inl rfl
theorem behA_lt {n b t : Nat} (hn : n ≤ 6) (hb : b < 2 ^ n) : behA n b t / 6 < 2 ^ n ∧ behA n b t % 6 < 6 ∧ behA n b t < 384 ∧ (1 ≤ n → behA n b t % 6 < n) := by
  have h64 := p64 hn
  unfold behA
  have h1 : (if t < 100 then b - 2 ^ (t % 100) else b) ≤ b := by
    split
    · exact Nat.sub_le _ _
    · exact Nat.le_refl _
  have h2 : (if t % 100 + 1 < n then t % 100 + 1 else 0) < 6 := by split <;> omega
  have h3 : 1 ≤ n → (if t % 100 + 1 < n then t % 100 + 1 else 0) < n := by intro h; split <;> omega
  generalize (if t < 100 then b - 2 ^ (t % 100) else b) = p at *
  generalize (if t % 100 + 1 < n then t % 100 + 1 else 0) = q at *
  refine ⟨by omega, by omega, by omega, fun h => ?_⟩
  have := h3 h
  omega
theorem behind_ok {st : St} {x : Rg} {b w : Nat} {t : Nat} (g : GdR x) (c : CRg st 1 x) (hb : b < 64) (hw : w < x.1 16) (hi : bit b w = 1) (ht : t = w ∨ t = 100 + w) : fX6_stateBehind st (nI b) (nI t) = nI (behA (x.1 16) b t) := by
  have h6 := g.1
  have e100 : jrem (nI t) 100 = nI (t % 100) := by rw [show (100 : Int32) = nI 100 from rfl, n_rem (by omega) (by omega)]
  have em : t % 100 = w := by omega
  unfold fX6_stateBehind
  rw [e100, em]
  have tail : ∀ p, fX6_stateBehind_b22 st (nI w) (nI p) = nI (p * 6 + (if w + 1 < x.1 16 then w + 1 else 0)) := by
    intro p
    unfold fX6_stateBehind_b22 fX6_stateBehind_b44
    rw [c.1.1, n_p1, show (6 : Int32) = nI 6 from rfl, n_mul]
    by_cases cc : w + 1 < x.1 16
    · rw [if_neg (by rw [n_le (by omega) (by omega)]; omega), if_pos cc, n_add]
    · rw [if_pos (by rw [n_le (by omega) (by omega)]; omega), if_neg cc, show (0 : Int32) = nI 0 from rfl, n_add]
  unfold behA
  rw [em]
  rcases ht with rfl | rfl
  · rw [if_neg (by rw [show (100 : Int32) = nI 100 from rfl, n_le (by omega) (by omega)]; omega), if_pos (by omega), andn64 _ hb _ (by omega) hi]
    exact tail _
  · rw [if_pos (by rw [show (100 : Int32) = nI 100 from rfl, n_le (by omega) (by omega)]; omega), if_neg (by omega)]
    exact tail _
theorem VC_beh {st : St} {lw : Lw0} {y : Nat → Nat} {vr vm sp c0 e : Nat} (h : VC st lw y vr vm sp) (hc : c0 < 1920) (h1 : e / 384 ≤ sp) (h2 : e / 384 = sp → e % 384 = aftA lw y vr vm (c0 % 384) (c0 / 384)) : VC (pI st 24 c0 (nI e)) lw y vr vm sp := by
  obtain ⟨⟨a1, a2, a3⟩, a4, a5⟩ := h
  refine ⟨⟨a1, a2, by rw [sI_pI, if_neg (by omega)]; exact a3⟩, fun i hi => ?_, fun i hi => ?_⟩
  · obtain ⟨e', k1, k2, k3⟩ := a4 i hi
    exact ⟨e', k1, by rw [sI_pI, if_neg (by omega)]; exact k2, k3⟩
  · by_cases c : i = c0
    · subst c; exact ⟨e, h1, by rw [sI_pI, if_pos ⟨rfl, rfl⟩], h2⟩
    · obtain ⟨e', k1, k2, k3⟩ := a5 i hi
      exact ⟨e', k1, by rw [sI_pI, if_neg (fun q => c q.2)]; exact k2, k3⟩
theorem md384 {sp z : Nat} (h : z < 384) : (sp * 384 + z) % 384 = z := by rw [Nat.add_comm, Nat.add_mul_mod_self_right]; exact Nat.mod_eq_of_lt h
theorem after_ok {st : St} {x : Rg} {lw : Lw0} {vr vm s r : Nat} (g : GdR x) (v : Vt st x lw vr vm) (hb : s / 6 < 2 ^ x.1 16) (h0 : s / 6 ≠ 0) (ha : s % 6 < x.1 16) (hr : r < x.1 17) : ∃ u, fX6_after (nI s) (nI r) st = some (nI (aftA lw (sx x) vr vm s r), u) ∧ Vt u x lw vr vm ∧ FR wX6_after_S st u := by
  have h6 := g.1
  have h5 := g.2.2.1
  have h64 := p64 h6
  have hs : s < 384 := by omega
  have e16 : sx x 16 = x.1 16 := sx_e (by omega)
  obtain ⟨w, cr, vl, vt, sp, vc⟩ := id v
  have main : ∃ u, fX6_after (nI s) (nI r) st = some (nI (aftA lw (sx x) vr vm s r), u) ∧ Vt u x lw vr vm := by
    unfold fX6_after
    rw [show nI r * (384 : Int32) + nI s = nI (r * 384 + s) by rw [show (384 : Int32) = nI 384 from rfl, n_mul, n_add], if_neg (by rw [n_neg (by omega)]; exact id), if_pos (by rw [show (1920 : Int32) = nI 1920 from rfl, n_lt (by omega) (by omega)]; omega), n_ixb (by omega), decide_eq_true (show r * 384 + s < 1920 by omega), chk_t, n_toNat (by omega)]
    obtain ⟨⟨s1, s2, s3⟩, vc2, vc3⟩ := id vc
    obtain ⟨e, k1, k2, k3⟩ := vc3 (r * 384 + s) (by omega)
    have d1 : (r * 384 + s) % 384 = s := by omega
    have d2 : (r * 384 + s) / 384 = r := by omega
    rw [d1, d2] at k3
    rw [k2, s3, show nI e / (384 : Int32) = nI (e / 384) from n_div (b := 384) (by omega) (by omega)]
    unfold fX6_after_b83
    by_cases cs : e / 384 = sp
    · rw [if_pos (by rw [cs]), n_ixb (by omega), decide_eq_true (show r * 384 + s < 1920 by omega), chk_t, n_toNat (by omega), k2, show jrem (nI e) 384 = nI (e % 384) from n_rem (b := 384) (by omega) (by omega), k3 cs]
      exact ⟨st, rfl, v⟩
    · rw [if_neg (fun hh => cs (n_inj (by omega) (by omega) hh))]
      obtain ⟨u, e1, v1, f1, _, _, hw⟩ := speak_ok (b := s / 6) (at_ := s % 6) (less := 0) g v (by omega) ha hr (by omega)
      have e1' : fX6_speak (nI s / 6) (jrem (nI s) 6) (nI r) 0 st = some (nI (sayA lw (sx x) vr vm (s / 6) (s % 6) r 0), u) := by
        rw [show nI s / (6 : Int32) = nI (s / 6) from n_div (b := 6) (by omega) (by omega), show jrem (nI s) 6 = nI (s % 6) from n_rem (b := 6) (by omega) (by omega)]; exact e1
      rw [e1', Option.bind_some]
      obtain ⟨hin1, hin2⟩ := sayF_in (lw := lw) (vr := vr) (vm := vm) (r := r) (less := 0) g hb h0 ha
      have hbe : fX6_stateBehind u (nI s / 6) (nI (sayA lw (sx x) vr vm (s / 6) (s % 6) r 0)) = nI (aftA lw (sx x) vr vm s r) := by
        rw [show nI s / (6 : Int32) = nI (s / 6) from n_div (b := 6) (by omega) (by omega), behind_ok g v1.2.1 (by omega) hin1 hin2 sayA_c]
        unfold aftA; rw [e16]
      have hlt : aftA lw (sx x) vr vm s r < 384 := by unfold aftA; rw [e16]; exact (behA_lt h6 hb).2.2.1
      have hst : sI u 19 6 = nI sp := (f1.i (by rfl)).trans s3
      have vcu : VC u lw (sx x) vr vm sp := by
        obtain ⟨_, _, _, _, sp', vcu⟩ := id v1
        have : sp' = sp := n_inj (by have := vcu.1.2.1; omega) (by omega) (vcu.1.2.2.symm.trans hst)
        rw [this] at vcu
        exact vcu
      obtain ⟨z, hz⟩ : ∃ z, z = aftA lw (sx x) vr vm s r := ⟨_, rfl⟩
      rw [← hz] at hbe hlt ⊢
      simp only [hbe, hst, n_toNat (show r * 384 + s < 2147483648 by omega), n_ixb (show r * 384 + s < 2147483648 by omega), show r * 384 + s < 1920 by omega, decide_true, chk_t]
      have ez : nI sp * (384 : Int32) + nI z = nI (sp * 384 + z) := by rw [show (384 : Int32) = nI 384 from rfl, n_mul, n_add]
      have er : jrem (nI (sp * 384 + z)) 384 = nI z := by
        rw [show (384 : Int32) = nI 384 from rfl, n_rem (by omega) (by omega)]
        rw [md384 hlt]
      rw [ez, sI_pI, if_pos ⟨rfl, rfl⟩, er]
      refine ⟨_, rfl, ?_⟩
      have fz : FR [(24, none)] u (pI u 24 (r * 384 + s) (nI (sp * 384 + z))) := FR.pI (by rfl) FR.rf
      obtain ⟨y1, y2, y3, y4, _⟩ := v1
      refine ⟨WT_low (by rfl) fz y1, CRg_fr (by rfl) fz y2, VL_fr (by rfl) (by rfl) fz y3, VT_fr (by rfl) fz y4, sp, VC_beh vcu (by omega) (by omega) (fun _ => ?_)⟩
      rw [d1, d2, ← hz]; exact md384 hlt
  obtain ⟨u, e1, e2⟩ := main
  exact ⟨u, e1, e2, mX6_after e1⟩
/-! all of the class but the voice stays -/
abbrev S_vo : List (Nat × Option Nat) := [(19, none), (20, none), (21, none), (22, none), (23, none), (24, none), (25, none), (26, none), (27, none), (28, none), (29, none), (30, none), (31, none), (32, none)]
theorem CV_v {S : List (Nat × Option Nat)} {st u : St} {A : All} (hS : subS S S_vo = true) (h0 : FR S st u) (m : CV st A) (w : WT u) (c : CVo u (sx A.1)) : CV u A := by
  have h : FR S_vo st u := FR.mono hS h0
  exact ⟨w, ⟨CRg_fr (by rfl) h m.2.1.1, Lws_fr (by rfl) h m.2.1.2⟩, CI_fr (by rfl) h m.2.2.1, CS_fr (by rfl) h m.2.2.2.1, CT_fr (by rfl) h m.2.2.2.2.1, CP_fr (by rfl) h m.2.2.2.2.2.1, CD_fr (by rfl) h m.2.2.2.2.2.2.1, c⟩
theorem Vt.o {st : St} {x : Rg} {lw : Lw0} {vr vm : Nat} (v : Vt st x lw vr vm) : CVo st (sx x) := by
  obtain ⟨v1, v2, v3, v4, sp, v5⟩ := v
  exact ⟨lw, vr, vm, sp, v3, v4, v5⟩
/-- the law in force -/
def lwF (x : Rg) : Lw0 := if x.1 19 = 0 then none else rLaw (x.2 (x.1 19 - 1))
theorem law_ok {st : St} {A : All} {k : Nat} (c : CV st A) (hk : k < A.1.1 18) (h6 : A.1.1 18 ≤ 6) : ∃ q L, sR st 4 k = some q ∧ rLaw (A.1.2 k) = some L ∧ Lwo st (some q) (some L) := by
  obtain ⟨q, L, h1, h5, h2, h3, h4⟩ := c.2.1.2 k hk
  refine ⟨q, L, h2, h3, Or.inr ⟨L, q, rfl, rfl, h1, h5, h4, ?_⟩⟩
  exact (c.1.ring (ring_ob c.1)).2.2.2.2 k q h2
theorem force_ok {st : St} {A : All} (g : Gd A) (c : CV st A) : ∃ nl, fX4_lawInForce st = some nl ∧ Lwo st nl (lwF A.1) := by
  have h6 := g.1.2.2.2.2.2.2.2.1
  have h19 := g.1.2.2.2.2.2.2.2.2.1
  unfold fX4_lawInForce lwF
  rw [c.2.1.1.1.2.2.2.2, c.2.1.1.1.2.2.2.1]
  by_cases z : A.1.1 19 = 0
  · rw [z, if_pos (by decide), if_pos rfl]
    exact ⟨none, rfl, Or.inl ⟨rfl, rfl⟩⟩
  · obtain ⟨k, hk⟩ : ∃ k, A.1.1 19 = k + 1 := ⟨A.1.1 19 - 1, by omega⟩
    rw [hk, n_pred, if_neg (by rw [n_neg (by omega)]; exact id), if_pos (by rw [n_lt (by omega) (by omega)]; omega), n_ixb (by omega), decide_eq_true (show k < 6 by omega), chk_t, n_toNat (by omega), if_neg (by omega), Nat.add_sub_cancel]
    obtain ⟨q, L, h1, h2, h3⟩ := law_ok c (show k < A.1.1 18 by omega) h6
    exact ⟨some q, by rw [h1], by rw [h2]; exact h3⟩
theorem tuned {st : St} {A : All} (g : Gd A) (c : CV st A) : ∃ u, fX7_tuneVoice st = some u ∧ Vt u A.1 (lwF A.1) (A.1.1 2) (A.1.1 15) ∧ CV u A ∧ FR wX6_tune_S st u := by
  obtain ⟨nl, e1, l1⟩ := force_ok g c
  obtain ⟨u, e2, v2, f2⟩ := tune_ok g.1 c.1 c.2.1.1 c.2.2.2.2.2.2.2 l1 g.1.2.2.2.1
  refine ⟨u, ?_, v2, CV_v (S := wX6_tune_S) (by rfl) f2 c v2.1 v2.o, f2⟩
  unfold fX7_tuneVoice
  rw [e1, Option.bind_some, show sI st 5 0 = nI (A.1.1 2) from c.2.1.1.2.1.1]
  exact e2
