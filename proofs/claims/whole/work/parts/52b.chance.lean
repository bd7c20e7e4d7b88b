/-! chances by the class -/
abbrev S_ch : List (Nat × Option Nat) := [(19, some 10), (20, none), (21, none), (22, none), (23, none), (24, none), (31, none), (32, none)]
def Cl (st : St) (a : Nat) (f : Fl) : Prop := ∀ j, j < 384 → sL st a j = f j
abbrev Vx (st : St) (x : Rg) : Prop := Vt st x (lwF x) (x.1 2) (x.1 15)
def ab2 (a b : Nat) : Prop := (a = 31 ∧ b = 32) ∨ (a = 32 ∧ b = 31)
theorem inCh {a j : Nat} (h : a = 31 ∨ a = 32) : inS S_ch a j = true := by rcases h with rfl | rfl <;> rfl
theorem Vx.pl {st : St} {x : Rg} {a j : Nat} {v : Int64} (h : a = 31 ∨ a = 32) (m : Vx st x) : Vx (pL st a j v) x := by
  rcases h with rfl | rfl
  · exact Vt.fr (S := [(31, none)]) (by rfl) (by rfl) (by rfl) (by rfl) (by rfl) (FR.pL (by rfl) FR.rf) m
  · exact Vt.fr (S := [(32, none)]) (by rfl) (by rfl) (by rfl) (by rfl) (by rfl) (FR.pL (by rfl) FR.rf) m
theorem Cl.af {st u : St} {a : Nat} {f : Fl} (h : a = 31 ∨ a = 32) (r : FR wX6_after_S st u) (m : Cl st a f) : Cl u a f := fun j hj => by
  rcases h with rfl | rfl
  · rw [(r.2 31 j (by rfl)).2]; exact m j hj
  · rw [(r.2 32 j (by rfl)).2]; exact m j hj
theorem Cl_ad {st : St} {a i : Nat} {t : Fl} {v : Int64} (hi : i < 384) (m : Cl st a t) : Cl (pL st a i (sL st a i + v)) a (adL t i v) := fun j hj => by
  rw [sL_pL]
  unfold adL
  by_cases c : j = i
  · rw [if_pos ⟨rfl, c⟩, if_pos c, m i hi]
  · rw [if_neg (by omega), if_neg c]; exact m j hj
theorem Cl_o {st : St} {a b i : Nat} {f : Fl} {v : Int64} (h : a ≠ b) (m : Cl st a f) : Cl (pL st b i v) a f := fun j hj => by
  rw [sL_pL, if_neg (by omega)]; exact m j hj
theorem hand_loop {x : Rg} {s a b : Nat} {sh : Int64} {f : Fl} (g : GdR x) (hab : ab2 a b) (hs : s / 6 < 2 ^ x.1 16) (hp : 2 ≤ pc (s / 6)) (ha : s % 6 < x.1 16) : ∀ (k m r : Nat) (t : Fl) (st : St), r + k = x.1 17 → k < m → Vx st x → Cl st a f → Cl st b t → ∃ u, fX1_handOn_b41 m (nI s) b sh (nI r) st = some u ∧ Vx u x ∧ Cl u a f ∧ Cl u b (spI x s sh k r t) ∧ FR S_ch st u := by
  intro k
  have h17 := g.2.2.1
  have h64 := p64 g.1
  have hb : b = 31 ∨ b = 32 := by rcases hab with ⟨_, h⟩ | ⟨_, h⟩ <;> omega
  have ha' : a = 31 ∨ a = 32 := by rcases hab with ⟨h, _⟩ | ⟨h, _⟩ <;> omega
  have hne : a ≠ b := by rcases hab with ⟨h, h'⟩ | ⟨h, h'⟩ <;> omega
  have hn1 : 1 ≤ x.1 16 := by omega
  induction k with
  | zero =>
    intro m r t st h1 h2 v hf ht
    obtain ⟨m, rfl⟩ : ∃ j, m = j + 1 := ⟨m - 1, by omega⟩
    refine ⟨st, ?_, v, hf, ht, FR.rf⟩
    rw [fX1_handOn_b41, v.2.1.1.2.2.1, if_pos (by rw [n_le (by omega) (by omega)]; omega)]
  | succ k ih =>
    intro m r t st h1 h2 v hf ht
    obtain ⟨m, rfl⟩ : ∃ j, m = j + 1 := ⟨m - 1, by omega⟩
    rw [fX1_handOn_b41, v.2.1.1.2.2.1, if_neg (by rw [n_le (by omega) (by omega)]; omega)]
    obtain ⟨u, e1, v1, f1⟩ := ld7 (r := r) g v hs hp ha (by omega)
    have hl := ld_lt (r := r) g hn1 hs
    rw [e1, Option.bind_some]
    simp only [n_ixb (show ldA x s r < 2147483648 by omega), hl.2.2, decide_true, chk_t, n_toNat (show ldA x s r < 2147483648 by omega), n_p1]
    obtain ⟨u2, r1, r2, r3, r4, r5⟩ := ih m (r + 1) (adL t (ldA x s r) sh) (pL u b (ldA x s r) (sL u b (ldA x s r) + sh)) (by omega) (by omega) (Vx.pl hb v1) (Cl_o hne (Cl.af ha' f1 hf)) (Cl_ad hl.2.2 (Cl.af hb f1 ht))
    exact ⟨u2, r1, r2, r3, r4, (FR.pL (inCh hb) (FR.mono (by rfl) f1) : FR S_ch st _).trans r5⟩
theorem hand_ok {x : Rg} {s a b : Nat} {v : Int64} {f t : Fl} {st : St} (g : GdR x) (hab : ab2 a b) (hs : s / 6 < 2 ^ x.1 16) (ha : s % 6 < x.1 16) (hq : 1 ≤ x.1 17) (hv : v ≠ 0) (vx : Vx st x) (hf : Cl st a f) (ht : Cl st b t) : ∃ u, fX1_handOn (nI s) v b st = some u ∧ Vx u x ∧ Cl u a f ∧ Cl u b (spS x s v t) ∧ FR S_ch st u := by
  have h17 := g.2.2.1
  have h64 := p64 g.1
  have hb : b = 31 ∨ b = 32 := by rcases hab with ⟨_, h⟩ | ⟨_, h⟩ <;> omega
  have hne : a ≠ b := by rcases hab with ⟨h, h'⟩ | ⟨h, h'⟩ <;> omega
  have t1 : (nI (x.1 17)).toInt64.toInt = (x.1 17 : Int) := by rw [Int32.toInt_toInt64, n_toInt (by omega)]
  unfold fX1_handOn spS
  rw [goes7 (by omega), if_neg hv, vx.2.1.1.2.2.1]
  by_cases c : 2 ≤ pc (s / 6)
  · rw [if_pos c, if_neg (by decide), if_pos c, if_neg (by rw [show (0 : Int32) = nI 0 from rfl, n_eq (by omega) (by omega)]; omega), nzl_t (by rw [t1]; omega), chk_t]
    exact hand_loop g hab hs c ha (x.1 17) FU 0 t st (by omega) (by unfold FU; omega) vx hf ht
  · rw [if_neg c, if_pos rfl, if_neg c]
    unfold fX1_handOn_b17
    rw [n_ixb (by omega), decide_eq_true (show s < 384 by omega), chk_t, chk_t, n_toNat (by omega)]
    exact ⟨_, rfl, Vx.pl hb vx, Cl_o hne hf, Cl_ad (by omega) ht, FR.pL (inCh hb) FR.rf⟩
abbrev K57 : Type := Int32 → Int32 → Nat → Nat → Int32 → Int32 → Int32 → St → Option (Int64 × St)
theorem iter_loop {x : Rg} {c N : Int32} {i a b : Nat} {f : Fl} {K : K57} (g : GdR x) (hab : ab2 a b) (hfQ : ∀ s, f s ≠ 0 → s / 6 < 2 ^ x.1 16 ∧ s % 6 < x.1 16) (hq : 1 ≤ x.1 17) : ∀ (k m s : Nat) (sp : Bool) (t : Fl) (st : St), s + k = 2 ^ x.1 16 * 6 → k < m → Vx st x → Cl st a (fun j => if j < s then 0 else f j) → Cl st b t → ∃ u sp', fX1_partsIn_b74 K m c N a b (nI (2 ^ x.1 16 * 6)) (b2i sp) (nI i) (nI s) st = K c N b a (nI (2 ^ x.1 16 * 6)) (b2i sp') (nI (i + 1)) u ∧ Vx u x ∧ Cl u a (fun _ => 0) ∧ Cl u b (spL x f (384 - s) s t) ∧ FR S_ch st u ∧ (sp' = false → sp = false ∧ ∀ s', s ≤ s' → f s' ≠ 0 → ¬ 2 ≤ pc (s' / 6)) := by
  intro k
  have h64 := p64 g.1
  have hb : b = 31 ∨ b = 32 := by rcases hab with ⟨_, h⟩ | ⟨_, h⟩ <;> omega
  have ha' : a = 31 ∨ a = 32 := by rcases hab with ⟨h, _⟩ | ⟨h, _⟩ <;> omega
  have hne : a ≠ b := by rcases hab with ⟨h, h'⟩ | ⟨h, h'⟩ <;> omega
  have hz : ∀ j, 2 ^ x.1 16 * 6 ≤ j → f j = 0 := fun j hj => by
    by_cases q : f j = 0
    · exact q
    · have := (hfQ j q).1; omega
  induction k with
  | zero =>
    intro m s sp t st h1 h2 v hf ht
    obtain ⟨m, rfl⟩ : ∃ j, m = j + 1 := ⟨m - 1, by omega⟩
    refine ⟨st, sp, ?_, v, fun j hj => ?_, ?_, FR.rf, fun h => ⟨h, fun s' h3 h4 => absurd (hz s' (by omega)) h4⟩⟩
    · rw [fX1_partsIn_b74, if_pos (by rw [n_le (by omega) (by omega)]; omega), n_p1]
    · rw [hf j hj]
      show (if j < s then (0 : Int64) else f j) = 0
      by_cases q : j < s
      · rw [if_pos q]
      · rw [if_neg q]; exact hz j (by omega)
    · rw [spL_z _ _ _ (fun j hj => hz j (by omega))]; exact ht
  | succ k ih =>
    intro m s sp t st h1 h2 v hf ht
    obtain ⟨m, rfl⟩ : ∃ j, m = j + 1 := ⟨m - 1, by omega⟩
    have hfs : sL st a s = f s := (hf s (by omega)).trans (if_neg (by omega))
    rw [fX1_partsIn_b74, if_neg (by rw [n_le (by omega) (by omega)]; omega), n_ixb (by omega), decide_eq_true (show s < 384 by omega), chk_t, n_toNat (by omega), hfs]
    have esp : spL x f (384 - s) s t = spL x f (384 - (s + 1)) (s + 1) (spS x s (f s) t) := by
      rw [show 384 - s = (384 - (s + 1)) + 1 by omega]; rfl
    rw [esp]
    simp only [z64]
    by_cases c0 : f s = 0
    · rw [if_pos c0]
      unfold fX1_partsIn_b130
      rw [n_p1]
      have hf' : Cl st a (fun j => if j < s + 1 then 0 else f j) := fun j hj => by
        rw [hf j hj]
        show (if j < s then (0 : Int64) else f j) = (if j < s + 1 then 0 else f j)
        by_cases q : j = s
        · rw [if_neg (by omega), if_pos (by omega), q, c0]
        · by_cases q2 : j < s
          · rw [if_pos q2, if_pos (by omega)]
          · rw [if_neg q2, if_neg (by omega)]
      have es : spS x s (f s) t = t := by unfold spS; rw [if_pos c0]
      obtain ⟨u, sp', r1, r2, r3, r4, r5, r6⟩ := ih m (s + 1) sp t st (by omega) (by omega) v hf' ht
      rw [es]
      refine ⟨u, sp', r1, r2, r3, r4, r5, fun h => ⟨(r6 h).1, fun s' h3 h4 => ?_⟩⟩
      by_cases q : s' = s
      · rw [q] at h4; exact absurd c0 h4
      · exact (r6 h).2 s' (by omega) h4
    · rw [if_neg c0, chk_t]
      obtain ⟨hs6, hsn⟩ := hfQ s c0
      obtain ⟨u, e1, v1, hfu, htu, f1⟩ := hand_ok (v := f s) g hab hs6 hsn hq c0 v hf ht
      rw [e1, Option.bind_some, chk_t, goes7 (by omega)]
      have fu : FR S_ch st (pL u a s 0) := FR.pL (inCh ha') f1
      have hf' : Cl (pL u a s 0) a (fun j => if j < s + 1 then 0 else f j) := fun j hj => by
        rw [sL_pL]
        show _ = (if j < s + 1 then (0 : Int64) else f j)
        by_cases q : j = s
        · rw [if_pos ⟨rfl, q⟩, if_pos (by omega)]
        · rw [if_neg (by omega), hfu j hj]
          show (if j < s then (0 : Int64) else f j) = _
          by_cases q2 : j < s
          · rw [if_pos q2, if_pos (by omega)]
          · rw [if_neg q2, if_neg (by omega)]
      have go : ∀ sp1 : Bool, (sp1 = false → sp = false ∧ ¬ 2 ≤ pc (s / 6)) → ∃ u2 sp', fX1_partsIn_b130 K (fun zl2 zl3 zl4 zl5 zl6 zl7 zl8 zl9 zst => fX1_partsIn_b74 K m zl2 zl3 zl4 zl5 zl6 zl7 zl8 zl9 zst) c N a b (nI (2 ^ x.1 16 * 6)) (b2i sp1) (nI i) (nI s) (pL u a s 0) = K c N b a (nI (2 ^ x.1 16 * 6)) (b2i sp') (nI (i + 1)) u2 ∧ Vx u2 x ∧ Cl u2 a (fun _ => 0) ∧ Cl u2 b (spL x f (384 - (s + 1)) (s + 1) (spS x s (f s) t)) ∧ FR S_ch st u2 ∧ (sp' = false → sp = false ∧ ∀ s', s ≤ s' → f s' ≠ 0 → ¬ 2 ≤ pc (s' / 6)) := by
        intro sp1 hsp
        unfold fX1_partsIn_b130
        rw [n_p1]
        obtain ⟨u2, sp', r1, r2, r3, r4, r5, r6⟩ := ih m (s + 1) sp1 (spS x s (f s) t) (pL u a s 0) (by omega) (by omega) (Vx.pl ha' v1) hf' (Cl_o (Ne.symm hne) htu)
        refine ⟨u2, sp', r1, r2, r3, r4, fu.trans r5, fun h => ⟨(hsp (r6 h).1).1, fun s' h3 h4 => ?_⟩⟩
        by_cases q : s' = s
        · rw [q]; exact (hsp (r6 h).1).2
        · exact (r6 h).2 s' (by omega) h4
      unfold fX1_partsIn_b123 fX1_partsIn_b128
      simp only [b2i_0]
      by_cases q : sp = false
      · rw [if_pos q]
        by_cases q2 : 2 ≤ pc (s / 6)
        · rw [if_pos q2, if_neg (by decide)]
          exact go true (fun h => by cases h)
        · rw [if_neg q2, if_pos rfl]
          exact go false (fun _ => ⟨q, q2⟩)
      · rw [if_neg q]
        exact go true (fun h => by cases h)
theorem sum7 {x : Rg} {c a : Nat} {f : Fl} {st : St} (g : GdR x) (hc : c < 6) (hf : Cl st a f) (hz : ∀ j, 2 ^ x.1 16 * 6 ≤ j → f j = 0) : ∀ (k m s : Nat) (acc : Int64), s + k = 2 ^ x.1 16 * 6 → k < m → fX1_partsIn_b160 m (nI c) a (nI (2 ^ x.1 16 * 6)) acc (nI s) st = some (smL c f (384 - s) s acc, st) := by
  intro k
  have h64 := p64 g.1
  induction k with
  | zero =>
    intro m s acc h1 h2
    obtain ⟨m, rfl⟩ : ∃ j, m = j + 1 := ⟨m - 1, by omega⟩
    rw [fX1_partsIn_b160, if_pos (by rw [n_le (by omega) (by omega)]; omega), sm_z _ _ _ (fun j hj => hz j (by omega))]
  | succ k ih =>
    intro m s acc h1 h2
    obtain ⟨m, rfl⟩ : ∃ j, m = j + 1 := ⟨m - 1, by omega⟩
    have hb1 : (nI (bit (s / 6) c) = (1 : Int32)) = (bit (s / 6) c = 1) := by
      have := bit_le (s / 6) c
      exact n_eq (b := 1) (by omega) (by omega)
    rw [fX1_partsIn_b160, if_neg (by rw [n_le (by omega) (by omega)]; omega), n_d6 (by omega), shr64 _ (by omega) _ hc, show 384 - s = (384 - (s + 1)) + 1 by omega]
    simp only [hb1]
    unfold smL fX1_partsIn_b190
    by_cases q : bit (s / 6) c = 1
    · rw [if_pos q, if_pos q, n_ixb (by omega), decide_eq_true (show s < 384 by omega), chk_t, n_toNat (by omega), hf s (by omega), n_p1]
      exact ih m (s + 1) _ (by omega) (by omega)
    · rw [if_neg q, if_neg q, n_p1]
      exact ih m (s + 1) _ (by omega) (by omega)
theorem parts_loop {x : Rg} {c N : Nat} (g : GdR x) (hc : c < 6) (hq : 1 ≤ x.1 17) (hn1 : 1 ≤ x.1 16) (hN : N ≤ 20) : ∀ (k m i a b : Nat) (sp : Bool) (f : Fl) (st : St), i + k = N → k < m → ab2 a b → (∀ s, f s ≠ 0 → s / 6 < 2 ^ x.1 16 ∧ s % 6 < x.1 16) → Vx st x → Cl st a f → Cl st b (fun _ => 0) → (sp = false → ∀ s, f s ≠ 0 → ¬ 2 ≤ pc (s / 6)) → ∃ u, fX1_partsIn_b57 m (nI c) (nI N) a b (nI (2 ^ x.1 16 * 6)) (b2i sp) (nI i) st = some (smL c (itf x k f) 384 0 0, u) ∧ Vx u x ∧ FR S_ch st u := by
  have h64 := p64 g.1
  have fin : ∀ (a : Nat) (f : Fl) (st : St), (∀ s, f s ≠ 0 → s / 6 < 2 ^ x.1 16 ∧ s % 6 < x.1 16) → Cl st a f → fX1_partsIn_b154 (nI c) a (nI (2 ^ x.1 16 * 6)) st = some (smL c f 384 0 0, st) := by
    intro a f st hfQ hf
    unfold fX1_partsIn_b154
    exact sum7 g hc hf (fun j hj => by
      by_cases q : f j = 0
      · exact q
      · have := (hfQ j q).1; omega) (2 ^ x.1 16 * 6) FU 0 0 (by omega) (by unfold FU; omega)
  intro k
  induction k with
  | zero =>
    intro m i a b sp f st h1 h2 hab hfQ v hf hz hsp
    obtain ⟨m, rfl⟩ : ∃ j, m = j + 1 := ⟨m - 1, by omega⟩
    refine ⟨st, ?_, v, FR.rf⟩
    rw [fX1_partsIn_b57, if_pos (by rw [n_le (by omega) (by omega)]; omega)]
    exact fin a f st hfQ hf
  | succ k ih =>
    intro m i a b sp f st h1 h2 hab hfQ v hf hz hsp
    obtain ⟨m, rfl⟩ : ∃ j, m = j + 1 := ⟨m - 1, by omega⟩
    rw [fX1_partsIn_b57, if_neg (by rw [n_le (by omega) (by omega)]; omega)]
    simp only [b2i_0]
    have h3 : ∀ i, 384 ≤ i → f i = 0 := fun j hj => by
      by_cases q : f j = 0
      · exact q
      · have := (hfQ j q).1; omega
    by_cases q : sp = false
    · rw [if_pos q, itf_fix (hsp q) h3]
      exact ⟨st, fin a f st hfQ hf, v, FR.rf⟩
    · rw [if_neg q]
      obtain ⟨u, sp', r1, r2, r3, r4, r5, r6⟩ := iter_loop (c := nI c) (N := nI N) (i := i) (K := fun zl2 zl3 zl4 zl5 zl6 zl7 zl8 zst => fX1_partsIn_b57 m zl2 zl3 zl4 zl5 zl6 zl7 zl8 zst) g hab hfQ hq (2 ^ x.1 16 * 6) FU 0 false (fun _ => 0) st (by omega) (by unfold FU; omega) v (fun j hj => by rw [hf j hj]; show f j = (if j < 0 then (0 : Int64) else f j); rw [if_neg (by omega)]) hz
      rw [show fX1_partsIn_b74 (fun zl2 zl3 zl4 zl5 zl6 zl7 zl8 zst => fX1_partsIn_b57 m zl2 zl3 zl4 zl5 zl6 zl7 zl8 zst) FU (nI c) (nI N) a b (nI (2 ^ x.1 16 * 6)) 0 (nI i) 0 st = _ from r1]
      have hQ' : ∀ s, spr x f s ≠ 0 → s / 6 < 2 ^ x.1 16 ∧ s % 6 < x.1 16 := spr_Q hfQ (fun s r hs _ => by
        have := ld_lt (r := r) g hn1 hs.1
        exact ⟨this.1, this.2.1⟩)
      obtain ⟨u2, s1, s2, s3⟩ := ih m (i + 1) b a sp' (spr x f) u (by omega) (by omega) (by
        rcases hab with ⟨h, h'⟩ | ⟨h, h'⟩
        · exact Or.inr ⟨h', h⟩
        · exact Or.inl ⟨h', h⟩) hQ' r2 r4 r3 (fun h s hs => by
          have hall : ∀ s', f s' ≠ 0 → ¬ 2 ≤ pc (s' / 6) := fun s' h4 => (r6 h).2 s' (by omega) h4
          rw [spr_fix hall h3] at hs
          exact hall s hs)
      exact ⟨u2, s1, s2, r5.trans s3⟩
theorem fillL_ok {S : List (Nat × Option Nat)} {ar : Nat} {v : Int64} (hS : ∀ j, inS S ar j = true) : ∀ (d n i len : Nat) (st : St), len = i + d → d < n → len ≤ sN st ar → len < 2147483648 → ∃ u, fJ7_fill_d0a16_b6 n ar v (nI i) (nI len) st = some u ∧ FR S st u ∧ (∀ a j, ¬ (a = ar ∧ i ≤ j ∧ j < len) → sL u a j = sL st a j) ∧ ∀ j, i ≤ j → j < len → sL u ar j = v := by
  intro d
  induction d with
  | zero =>
    intro n i len st h1 h2 h3 h4
    obtain ⟨m, rfl⟩ : ∃ m, n = m + 1 := ⟨n - 1, by omega⟩
    refine ⟨st, ?_, FR.rf, fun _ _ _ => rfl, fun j h5 h6 => by omega⟩
    rw [fJ7_fill_d0a16_b6, if_pos (by rw [n_le h4 (by omega)]; omega)]
  | succ d ih =>
    intro n i len st h1 h2 h3 h4
    obtain ⟨m, rfl⟩ : ∃ m, n = m + 1 := ⟨n - 1, by omega⟩
    obtain ⟨u, e1, e2, e3, e4⟩ := ih m (i + 1) len (pL st ar i v) (by omega) (by omega) h3 h4
    refine ⟨u, ?_, FR.trans (FR.pL (hS i) FR.rf) e2, fun a j h => ?_, fun j h5 h6 => ?_⟩
    · rw [fJ7_fill_d0a16_b6, if_neg (by rw [n_le h4 (by omega)]; omega), n_ixb (by omega), decide_eq_true (by omega), chk_t, n_toNat (by omega), n_p1]; exact e1
    · rw [e3 a j (by omega), sL_pL, if_neg (by omega)]
    · by_cases c : j = i
      · subst c; rw [e3 ar j (by omega), sL_pL, if_pos ⟨rfl, rfl⟩]
      · exact e4 j (by omega) h6
theorem fillL {S : List (Nat × Option Nat)} {ar : Nat} {v : Int64} {st : St} (hS : ∀ j, inS S ar j = true) (hn : sN st ar < 50000) : ∃ u, fJ7_fill_d0a16 ar v st = some u ∧ FR S st u ∧ (∀ a j, a ≠ ar → sL u a j = sL st a j) ∧ ∀ j, j < sN st ar → sL u ar j = v := by
  obtain ⟨u, e1, e2, e3, e4⟩ := fillL_ok (v := v) hS (sN st ar) FU 0 (sN st ar) st (by omega) (by unfold FU; omega) (by omega) (by omega)
  exact ⟨u, e1, e2, fun a j h => e3 a j (fun c => h c.1), fun j h => e4 j (by omega) h⟩
theorem jmin384 : ∀ n, n < 7 → jmin (384 : Int32) ((nI (2 ^ n - 1) + 1) * 6) = nI (2 ^ n * 6) := by decide +kernel
theorem parts7 {x : Rg} {c N : Nat} {st : St} (g : GdR x) (hc : c < 6) (hq : 1 ≤ x.1 17) (hn1 : 1 ≤ x.1 16) (hN : N ≤ 20) (v : Vx st x) : ∃ u, fX1_partsIn (nI (stX x)) (nI c) (nI N) st = some (smL c (itf x N (dlt (stX x))) 384 0 0, u) ∧ Vx u x ∧ FR S_ch st u := by
  have hst := stX_ok g
  have h64 := p64 g.1
  have hs384 : stX x < 384 := by omega
  have n31 : sN st 31 = 384 := v.1.N (a := 31) rfl
  have n32 : sN st 32 = 384 := v.1.N (a := 32) rfl
  obtain ⟨u1, e1, f1, g1, k1⟩ := fillL (S := [(31, none)]) (ar := 31) (v := 0) (st := st) (fun j => rfl) (by omega)
  have n32' : sN u1 32 = 384 := by rw [(f1.1.2.1 32).2]; exact n32
  obtain ⟨u2, e2, f2, g2, k2⟩ := fillL (S := [(32, none)]) (ar := 32) (v := 0) (st := u1) (fun j => rfl) (by omega)
  have fF : FR S_ch st (pL u2 31 (stX x) 1000000000000) := FR.pL (by rfl) ((FR.mono (by rfl) f1 : FR S_ch st u1).trans (FR.mono (by rfl) f2))
  have vF : Vx (pL u2 31 (stX x) 1000000000000) x := Vt.fr (S := [(31, none), (32, none)]) (by rfl) (by rfl) (by rfl) (by rfl) (by rfl) (FR.pL (by rfl) ((FR.mono (by rfl) f1 : FR [(31, none), (32, none)] st u1).trans (FR.mono (by rfl) f2))) v
  obtain ⟨u3, r1, r2, r3⟩ := parts_loop (c := c) g hc hq hn1 hN N FU 0 31 32 true (dlt (stX x)) (pL u2 31 (stX x) 1000000000000) (by omega) (by unfold FU; omega) (Or.inl ⟨rfl, rfl⟩) (fun s hs => by rw [dlt_n hs]; exact ⟨hst.1, hst.2 hn1⟩) vF (fun j hj => by
    rw [sL_pL]
    unfold dlt
    by_cases q : j = stX x
    · rw [if_pos ⟨rfl, q⟩, if_pos q]
    · rw [if_neg (by omega), if_neg q, g2 31 j (by omega), k1 j (by omega)]) (fun j hj => by
    rw [sL_pL, if_neg (by omega), k2 j (by omega)]) (fun h => by cases h)
  refine ⟨u3, ?_, r2, fF.trans r3⟩
  unfold fX1_partsIn
  rw [e1, Option.bind_some, e2, Option.bind_some, n_ixb (by omega), decide_eq_true hs384, chk_t, n_toNat (by omega), every_ok g vF.2.1, jmin384 _ (by have := g.1; omega)]
  exact r1
theorem cn_stX {x : Rg} (g : GdR x) (hn1 : 1 ≤ x.1 16) : cnS x (tgX x) = stX x ∧ cnS x (stX x) = stX x ∧ tgX x / 6 = x.1 0 ∧ tgX x < 384 ∧ stX x < 384 := by
  have h5 := g.2.2.2.2.1
  have h64 := b_lt64 g
  have hd : tgX x / 6 = x.1 0 ∧ tgX x % 6 = x.1 1 := by show (x.1 0 * 6 + x.1 1) / 6 = _ ∧ (x.1 0 * 6 + x.1 1) % 6 = _; omega
  have hs := stX_d g
  have hp := plX_lt g
  refine ⟨?_, cn_id (by rw [hs.2]; exact hp.2 hn1), hd.1, by omega, by omega⟩
  unfold cnS
  rw [hd.1, hd.2]
  unfold stX plX
  rw [if_neg (by omega)]
theorem st25 : Step25 Inv := by
  rintro a b st ⟨A, g, c, m⟩
  have h16 := g.1.1
  have h17 := g.1.2.2.1
  have z17 : (nI (A.1.1 17) = 0) = (A.1.1 17 = 0) := n_eq (b := 0) (by omega) (by omega)
  rcases n_in a (A.1.1 16) (by omega) with ⟨k, hk, rfl⟩ | h
  · by_cases q : A.1.1 17 = 0
    · refine both_n (r := (-1 : Int64)) (fc := fun s => fX7_chances (nI k) b s) (fm := fun s => fX8_chances (nI k) b s) g c m ?_ (fun s ms => ?_)
      · show fX7_chances (nI k) b st = _
        unfold fX7_chances
        rw [cC_in g.1 c.2.1.1 hk, if_pos rfl, c.2.1.1.1.2.2.1, if_pos (by rw [z17]; exact q)]
      · show fX8_chances (nI k) b s = _
        unfold fX8_chances
        rw [mC_in g.1 ms.2.1 hk, if_neg (by decide), ms.2.1.k (show 17 < 19 by omega)]
        split
        · rfl
        · rw [if_pos (by rw [z17]; exact q)]
    · have hC : fX7_chances (nI k) b st = (if b < 0 then (some ((-1 : Int64), st)) else (if b ≤ (20 : Int32) then ((fX7_tuneVoice st).bind (fun q5 => (fX4_state q5).bind (fun q7 => fX1_partsIn q7 (nI k) b q5))) else (some ((-1 : Int64), st)))) := by
        unfold fX7_chances
        rw [cC_in g.1 c.2.1.1 hk, if_pos rfl, c.2.1.1.1.2.2.1, if_neg (by rw [z17]; exact q)]
      have hM : ∀ s, MV s A → fX8_chances (nI k) b s = (if (fX8_lies b (0 : Int32) (20 : Int32)) = 0 then (some ((-1 : Int64), s)) else ((fX8_laysLeads s).bind (fun q4 => fX8_chances_b38 FU (nI k) b (0 : Int32) q4))) := by
        intro s ms
        unfold fX8_chances
        rw [mC_in g.1 ms.2.1 hk, if_neg (by decide), ms.2.1.k (show 17 < 19 by omega), if_neg (show ¬ nI (A.1.1 17) = 0 by rw [z17]; exact q)]
      rcases rng b 0 20 0 20 rfl rfl (by omega) (by omega) with ⟨N, n1, n2, rfl, b3, b4, b5, b6⟩ | ⟨b3, b4⟩
      · have hn1 : 1 ≤ A.1.1 16 := by omega
        obtain ⟨u, e1, v1, c1, f1⟩ := tuned g c
        obtain ⟨u2, e2, v2, f2⟩ := parts7 (c := k) (N := N) g.1 (by omega) (by omega) hn1 n2 v1
        obtain ⟨y1, y2, y3, y4, y5⟩ := cn_stX g.1 hn1
        have hs := (stX_d g.1).1
        refine both_q (S := S_vo) (S' := [(38, some 22), (38, some 23), (38, some 24), (38, some 25), (50, none), (51, none), (40, some 0), (40, some 1), (40, some 2), (43, none), (55, none), (62, none)]) (r := smL k (itf A.1 N (dlt (stX A.1))) 384 0 0) (fc := fun s => fX7_chances (nI k) (nI N) s) (fm := fun s => fX8_chances (nI k) (nI N) s) (by rfl) (by rfl) g m ⟨u2, ?_, CV_v (S := S_ch) (by rfl) f2 c1 v2.1 v2.o, (FR.mono (by rfl) f1 : FR S_vo st u).trans (FR.mono (by rfl) f2)⟩ (fun s ms => ?_)
        · show fX7_chances (nI k) (nI N) st = _
          rw [hC, if_neg b4, if_pos b5, e1, Option.bind_some, state_ok g.1 c1.2.1.1, Option.bind_some, e2]
        · obtain ⟨w, w1, w2, w3, w4⟩ := leads8 g.1 c.low ms.2.1
          obtain ⟨v, p1, p2, p3⟩ := chances8 (c := k) (N := N) g.1 hn1 (by omega) n2 w2 w4
          have ff : FR [(38, some 22), (38, some 23), (38, some 24), (38, some 25), (50, none), (51, none), (40, some 0), (40, some 1), (40, some 2), (43, none), (55, none), (62, none)] s v := (FR.mono (by rfl) w3 : FR [(38, some 22), (38, some 23), (38, some 24), (38, some 25), (50, none), (51, none), (40, some 0), (40, some 1), (40, some 2), (43, none), (55, none), (62, none)] s w).trans (FR.mono (by rfl) p3)
          refine ⟨v, ?_, MV_xr (by rfl) ff ms p2, ff⟩
          show fX8_chances (nI k) (nI N) s = _
          rw [hM s ms, b3, if_neg (by decide), w1, Option.bind_some, p1, chance_cn g.1 hn1 y4 y5 (by rw [y3, hs]) (by rw [y1, y2])]
      · refine both_n (r := (-1 : Int64)) (fc := fun s => fX7_chances (nI k) b s) (fm := fun s => fX8_chances (nI k) b s) g c m ?_ (fun s ms => ?_)
        · show fX7_chances (nI k) b st = _
          rw [hC]
          exact or_rng b4
        · show fX8_chances (nI k) b s = _
          rw [hM s ms, b3, if_pos rfl]
  · refine both_n (r := (-1 : Int64)) (fc := fun s => fX7_chances a b s) (fm := fun s => fX8_chances a b s) g c m ?_ (fun s ms => ?_)
    · show fX7_chances a b st = _
      unfold fX7_chances
      rw [cC_out g.1 c.2.1.1 h, if_neg (by decide)]
    · show fX8_chances a b s = _
      unfold fX8_chances
      rw [mC_out g.1 ms.2.1 h, if_pos rfl]
