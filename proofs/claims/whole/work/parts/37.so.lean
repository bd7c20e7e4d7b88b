/-! what is so, and how long a rhyme is, by the class -/
theorem n_or (a b : Nat) : nI a ||| nI b = nI (a ||| b) := by
  rw [← Int32.toBitVec_inj]
  show (BitVec.ofNat 32 a) ||| (BitVec.ofNat 32 b) = BitVec.ofNat 32 (a ||| b)
  exact BitVec.ofNat_or.symm
theorem or256 {sp low w : Nat} (h1 : low < 256) (h2 : w < 256) : (sp * 256 + low) ||| w = sp * 256 + (low ||| w) := by
  have e : ∀ z, z < 256 → sp * 256 + z = sp <<< 8 ||| z := by
    intro z hz
    rw [← Nat.shiftLeft_add_eq_or_of_lt (i := 8) hz, Nat.shiftLeft_eq]
  have hlt : low ||| w < 256 := Nat.or_lt_two_pow (n := 8) h1 h2
  rw [e low h1, e _ hlt, Nat.or_assoc]
theorem shl4 : ∀ k, k < 4 → jshl 1 (nI k) = nI (2 ^ k) ∧ jshl 17 (nI k) = nI (17 * 2 ^ k) ∧ 2 ^ k < 256 ∧ 17 * 2 ^ k < 256 := by decide +kernel
theorem bit_hi {sp low j : Nat} (hj : j < 8) (h : low < 256) : bit (sp * 256 + low) j = bit low j := by
  unfold bit
  have : j = 0 ∨ j = 1 ∨ j = 2 ∨ j = 3 ∨ j = 4 ∨ j = 5 ∨ j = 6 ∨ j = 7 := by omega
  rcases this with rfl | rfl | rfl | rfl | rfl | rfl | rfl | rfl <;> omega
theorem or_low : ∀ low, low < 256 → ∀ k, k < 4 → ∀ j, j < 4 → (bit (low ||| 2 ^ k) j = if j = k then 1 else bit low j) ∧ (bit (low ||| 2 ^ k) (4 + j) = bit low (4 + j)) ∧ (bit (low ||| 17 * 2 ^ k) j = if j = k then 1 else bit low j) ∧ (bit (low ||| 17 * 2 ^ k) (4 + j) = if j = k then 1 else bit low (4 + j)) := by decide +kernel
theorem k31 : ∀ k, k < 32 → nI k &&& 31 = nI k ∧ (nI k).toBitVec.smod 32 = BitVec.ofNat 32 k ∧ (BitVec.ofNat 32 k).toNat = k := by decide +kernel
theorem n_shr {a k : Nat} (ha : a < 2147483648) (hk : k < 32) : jshr (nI a) (nI k) = nI (a / 2 ^ k) := by
  unfold jshr
  obtain ⟨h1, h2, h3⟩ := k31 k hk
  have hd : a / 2 ^ k ≤ a := Nat.div_le_self _ _
  rw [h1, ← Int32.toInt_inj, n_toInt (by omega)]
  show (nI a >>> nI k).toBitVec.toInt = _
  rw [Int32.toBitVec_shiftRight, h2, BitVec.sshiftRight', h3, BitVec.toInt_sshiftRight]
  show (nI a).toInt >>> k = _
  rw [n_toInt ha, Int.shiftRight_eq_div_pow]
  simp
theorem n_and (a b : Nat) : nI a &&& nI b = nI (a &&& b) := by
  rw [← Int32.toBitVec_inj]
  show (BitVec.ofNat 32 a) &&& (BitVec.ofNat 32 b) = BitVec.ofNat 32 (a &&& b)
  exact BitVec.ofNat_and.symm
theorem and16 (a : Nat) : a &&& 2 ^ 4 = 0 ↔ a.testBit 4 = false := by
  constructor
  · intro h
    have h2 : Nat.testBit (a &&& 2 ^ 4) 4 = Nat.testBit 0 4 := by rw [h]
    rw [Nat.testBit_and, Nat.testBit_two_pow, Nat.zero_testBit, decide_eq_true rfl, Bool.and_true] at h2
    exact h2
  · intro h
    apply Nat.eq_of_testBit_eq
    intro i
    rw [Nat.testBit_and, Nat.testBit_two_pow, Nat.zero_testBit]
    by_cases c : 4 = i
    · subst c; rw [h]; rfl
    · rw [decide_eq_false c, Bool.and_false]
theorem n_and16 {a : Nat} (ha : a < 2147483648) : (nI a &&& 16 = 0) = (bit a 4 = 0) := by
  have hle : a &&& 2 ^ 4 ≤ a := Nat.and_le_left
  have ht : a.testBit 4 = decide (a / 2 ^ 4 % 2 = 1) := Nat.testBit_eq_decide_div_mod_eq
  rw [show (16 : Int32) = nI (2 ^ 4) from rfl, n_and, show (0 : Int32) = nI 0 from rfl, n_eq (by omega) (by omega), and16, ht]
  unfold bit
  by_cases c : a / 2 ^ 4 % 2 = 1
  · rw [decide_eq_true c]; simp; omega
  · rw [decide_eq_false c]; simp; omega
theorem n_and1 {a : Nat} : (nI a &&& 1) = nI (a % 2) := by
  rw [show (1 : Int32) = nI 1 from rfl, n_and, Nat.and_one_is_mod]
theorem n_min {k : Nat} (h : k < 2147483648) : nI k ≠ BRK := by
  intro e
  have := congrArg Int32.toInt e
  rw [n_toInt h] at this
  have h2 : (BRK).toInt = -2000000000 := by decide
  omega
/-- the voice is tuned -/
def Vt (st : St) (x : Rg) (lw : Lw0) (vr vm : Nat) : Prop := WT st ∧ CRg st 1 x ∧ VL st lw ∧ VT st vr vm ∧ ∃ sp, VC st lw (sx x) vr vm sp
theorem VC_fr {S : List (Nat × Option Nat)} {st u : St} {lw : Lw0} {y : Nat → Nat} {vr vm sp : Nat} (e : (inS S 19 6 || hasA S 23 || hasA S 24) = false) (h : FR S st u) (m : VC st lw y vr vm sp) : VC u lw y vr vm sp := by
  simp only [Bool.or_eq_false_iff] at e
  exact VC_eq (h.i e.1.1) (fun j => h.i (hasA_in e.1.2)) (fun j => h.i (hasA_in e.2)) m
theorem Vt.fr {S : List (Nat × Option Nat)} {st u : St} {x : Rg} {lw : Lw0} {vr vm : Nat} (d : lowS S = true) (e1 : (hasA S 1 || hasA S 2 || hasA S 3 || hasA S 5) = false) (e2 : inS S 19 7 = false) (e3 : (inS S 19 8 || inS S 19 9) = false) (e4 : (inS S 19 6 || hasA S 23 || hasA S 24) = false) (h : FR S st u) (v : Vt st x lw vr vm) : Vt u x lw vr vm := by
  obtain ⟨v1, v2, v3, v4, sp, v5⟩ := v
  exact ⟨WT_low e2 h v1, CRg_fr e1 h v2, VL_fr d e2 h v3, VT_fr e3 h v4, sp, VC_fr e4 h v5⟩
abbrev S_q : List (Nat × Option Nat) := [(19, some 10), (20, none), (21, none), (22, none)]
theorem Vt.q {st u : St} {x : Rg} {lw : Lw0} {vr vm : Nat} (h : FR S_q st u) (v : Vt st x lw vr vm) : Vt u x lw vr vm := Vt.fr (by rfl) (by rfl) (by rfl) (by rfl) (by rfl) h v
theorem sx_e {x : Rg} {k : Nat} (h : 3 ≤ k ∧ k < 14 ∨ k = 16) : sx x k = x.1 k := if_pos h
theorem fct_ne {y : Nat → Nat} {vr vm r c bt many : Nat} (h1 : vr ≤ 999) (h2 : vm ≤ 9) (h3 : r < 5) (h4 : c < 6) (h5 : bt < 16) (h6 : many < 7) (h7 : y (3 + c) ≤ 9) : ∀ w, w < 7 → fct y vr vm r c bt many w ≠ BRK := by
  intro w hw
  have : w = 0 ∨ w = 1 ∨ w = 2 ∨ w = 3 ∨ w = 4 ∨ w = 5 ∨ w = 6 := by omega
  rcases this with rfl | rfl | rfl | rfl | rfl | rfl | rfl <;> exact n_min (by omega)
theorem gather_ok {st : St} {x : Rg} {vr vm r c bt many : Nat} (hc : c < 6) (cr : CRg st 1 x) (vt : VT st vr vm) : ∃ u, fX6_gatherFacts (nI r) (nI c) (nI bt) (nI many) st = some u ∧ (∀ w, w < 7 → sI u 20 w = fct (sx x) vr vm r c bt many w) ∧ FR [(20, none)] st u := by
  unfold fX6_gatherFacts
  rw [n_ixb (by omega), decide_eq_true hc, chk_t, n_toNat (by omega)]
  simp only [sI_pI, show ¬ ((2 : Nat) = 20) by omega, show ¬ ((19 : Nat) = 20) by omega, false_and, if_false, vt.2.2.1, vt.2.2.2, show sI st 2 c = nI (x.1 (3 + c)) from cr.2.2.1 c hc]
  refine ⟨_, rfl, fun w hw => ?_, FR.pI (by rfl) (FR.pI (by rfl) (FR.pI (by rfl) (FR.pI (by rfl) (FR.pI (by rfl) (FR.pI (by rfl) (FR.pI (by rfl) FR.rf))))))⟩
  have : w = 0 ∨ w = 1 ∨ w = 2 ∨ w = 3 ∨ w = 4 ∨ w = 5 ∨ w = 6 := by omega
  rcases this with rfl | rfl | rfl | rfl | rfl | rfl | rfl <;> simp [sI_pI, fct]
  rw [sx_e (by omega)]
theorem ec_ok {st u : St} {x : Rg} {L : List Cls} {q vr vm r c bt many : Nat} (w : WT st) (h1 : sR st 19 7 = some q) (h2 : 65 ≤ q) (h3 : q + 6 ≤ sn st) (h4 : Impl 7 (scr st q) L) (k : ∀ w, w < 7 → sI u 20 w = fct (sx x) vr vm r c bt many w) (f : FR [(20, none)] st u) : Ec u q L (fct (sx x) vr vm r c bt many) := by
  have hh : Hi st u := Hi.fr (fun a j c => lowS_in (S := [(20, none)]) (by rfl) (by omega)) f
  refine ⟨(f.r (by rfl)).trans h1, h2, by rw [f.1.1]; exact h3, by rw [scr_eq hh h2 h3]; exact h4, k, ?_, ?_⟩
  · rw [(f.1.2.1 20).2]; exact w.N (a := 20) rfl
  · rw [(f.1.2.1 21).2]; exact w.N (a := 21) rfl
theorem has_ok {st : St} {q k : Nat} {L : List Cls} (h : Impl 7 (scr st q) L) (hk : k < 4) : (fX5_has st q (nI k) = 0 ∧ ∀ c ∈ L, c.1 ≠ k) ∨ (fX5_has st q (nI k) = 1) := by
  obtain ⟨i1, i2, sz, cap, ku, h1, h2, h3, h4, h5, h6, h7, h8, h9, h10⟩ := h
  have h6' : sI st q 7 = nI ku := h6
  unfold fX5_has
  rw [h6', shr64 _ (by omega) _ (by omega)]
  rcases bit_le ku k with hb | hb
  · refine Or.inl ⟨by rw [hb]; rfl, fun c hc e => ?_⟩
    have := (h8 k hk).mpr ⟨c, hc, e⟩
    omega
  · exact Or.inr (by rw [hb]; rfl)
theorem so_none {L : List Cls} {k : Nat} {f : Nat → Int32} (h : ∀ c ∈ L, c.1 ≠ k) : soL L k f = false := by
  unfold soL
  rw [List.any_eq_false]
  intro c hc
  have := h c hc
  simp [this]
theorem len_none {L : List Cls} {f : Nat → Int32} : ∀ {d : Nat}, (∀ c ∈ L, c.1 ≠ 0) → lenL L f d = d := by
  induction L with
  | nil => intro d _; rfl
  | cons c L ih =>
    intro d h
    unfold lenL
    rw [List.foldl_cons, show lenS f d c = d from if_neg (fun e => h c (List.mem_cons_self ..) e.1)]
    exact ih (fun c' hc' => h c' (List.mem_cons_of_mem _ hc'))
theorem len_ok {st : St} {x : Rg} {lw : Lw0} {vr vm r c many : Nat} (g : GdR x) (v : Vt st x lw vr vm) (hr : r < 5) (hc : c < 6) (hm : many < 7) : ∃ u, fX6_lengthOf (nI r) (nI c) (nI many) st = some (nI (lenA lw (sx x) vr vm r c many), u) ∧ Vt u x lw vr vm ∧ FR [(20, none), (21, none)] st u := by
  obtain ⟨w, cr, vl, vt, vc⟩ := id v
  have hb : sI st 3 r = nI (x.1 (9 + r)) := cr.2.2.2 r hr
  unfold fX6_lengthOf
  rw [n_ixb (by omega), decide_eq_true hr, chk_t, n_toNat (by omega), hb]
  rcases vl with ⟨rfl, e2⟩ | ⟨L, q, rfl, e2, e3, e5, e4⟩
  · rw [e2]
    exact ⟨st, by simp only [optE]; unfold lenA; rw [sx_e (by omega)], v, FR.rf⟩
  · rw [e2]
    simp only [optE]
    rcases has_ok e4 (show 0 < 4 by omega) with ⟨p1, p2⟩ | p1
    · have p1' : fX5_has st q 0 = 0 := p1
      rw [p1', if_pos rfl]
      refine ⟨st, ?_, v, FR.rf⟩
      show _ = some (nI (lenL L _ (sx x (9 + r))), st)
      rw [len_none p2, sx_e (by omega)]
    · have p1' : fX5_has st q 0 = 1 := p1
      rw [p1', if_neg (by decide)]
      obtain ⟨u, k1, k2, k3⟩ := gather_ok (r := r) (bt := 0) (many := many) hc cr vt
      have ec := ec_ok (r := r) (bt := 0) (many := many) (c := c) w e2 e3 e5 e4 k2 k3
      have k1' : fX6_gatherFacts (nI r) (nI c) 0 (nI many) st = some u := k1
      rw [k1', Option.bind_some, ec.1]
      simp only []
      have hl := ec.2.2.2.1.1
      have h5 : sI u q 5 = nI L.length := ec.2.2.2.1.2.1
      rw [h5]
      obtain ⟨u2, r1, r2⟩ := len_loop (r0 := x.1 (9 + r)) L.length FU u (by omega) (by unfold FU; omega) ec
      have ff : FR [(20, none), (21, none)] st u2 := FR.trans (FR.mono (by rfl) k3) (FR.mono (by rfl) r2)
      refine ⟨u2, ?_, v.q (FR.mono (by rfl) ff), ff⟩
      show _ = some (nI (lenL L _ (sx x (9 + r))), u2)
      rw [r1, List.take_length, sx_e (show 3 ≤ 9 + r ∧ 9 + r < 14 ∨ 9 + r = 16 by omega)]

theorem shl8 {sp : Nat} (h : sp ≤ 1000000) : jshl (nI sp) 8 = nI (sp * 256) := by
  unfold jshl
  rw [show (8 : Int32) &&& 31 = 8 by decide, ← Int32.toBitVec_inj, Int32.toBitVec_shiftLeft, show (8 : Int32).toBitVec.smod 32 = BitVec.ofNat 32 8 by decide]
  apply BitVec.eq_of_toNat_eq
  show ((BitVec.ofNat 32 sp) <<< (BitVec.ofNat 32 8)).toNat = (BitVec.ofNat 32 (sp * 256)).toNat
  simp [BitVec.toNat_ofNat, Nat.shiftLeft_eq]
theorem VC_ask {st : St} {lw : Lw0} {y : Nat → Nat} {vr vm sp c0 e : Nat} (h : VC st lw y vr vm sp) (hc : c0 < 3360) (h1 : e / 256 ≤ sp) (h2 : e / 256 = sp → ∀ k, k < 4 → (bit e (4 + k) = 1 → bit e k = 1) ∧ (bit e k = 1 → (bit e (4 + k) = 1 ↔ soA lw y vr vm k (c0 / 672) (c0 / 112 % 6) (c0 / 7 % 16) (c0 % 7) = true))) : VC (pI st 23 c0 (nI e)) lw y vr vm sp := by
  obtain ⟨⟨a1, a2, a3⟩, a4, a5⟩ := h
  refine ⟨⟨a1, a2, by rw [sI_pI, if_neg (by omega)]; exact a3⟩, fun i hi => ?_, fun i hi => ?_⟩
  · by_cases c : i = c0
    · subst c; exact ⟨e, h1, by rw [sI_pI, if_pos ⟨rfl, rfl⟩], h2⟩
    · obtain ⟨e', k1, k2, k3⟩ := a4 i hi
      exact ⟨e', k1, by rw [sI_pI, if_neg (fun q => c q.2)]; exact k2, k3⟩
  · obtain ⟨e', k1, k2, k3⟩ := a5 i hi
    exact ⟨e', k1, by rw [sI_pI, if_neg (by omega)]; exact k2, k3⟩
abbrev S_so : List (Nat × Option Nat) := [(20, none), (21, none), (23, none)]
theorem so_ok {st : St} {x : Rg} {lw : Lw0} {vr vm k r c bt many : Nat} (g : GdR x) (v : Vt st x lw vr vm) (hk : k < 4) (hr : r < 5) (hc : c < 6) (hb : bt < 16) (hm : many < 7) : ∃ u, fX6_isSo (nI k) (nI r) (nI c) (nI bt) (nI many) st = some (b2i (soA lw (sx x) vr vm k r c bt many), u) ∧ Vt u x lw vr vm ∧ FR S_so st u := by
  obtain ⟨w, cr, vl, vt, sp, vc⟩ := id v
  unfold fX6_isSo
  rcases vl with ⟨rfl, e2⟩ | ⟨L, q, rfl, e2, e3, e5, e4⟩
  · rw [e2]
    exact ⟨st, rfl, v, FR.rf⟩
  · rw [e2]
    simp only [optE]
    rcases has_ok e4 hk with ⟨p1, p2⟩ | p1
    · rw [p1, if_pos rfl]
      refine ⟨st, ?_, v, FR.rf⟩
      show _ = some (b2i (soL L k _), st)
      rw [so_none p2]; rfl
    · rw [p1, if_neg (by decide)]
      have ecell : ((nI r * 6 + nI c) * 16 + nI bt) * 7 + nI many = nI (((r * 6 + c) * 16 + bt) * 7 + many) := by
        rw [show (6 : Int32) = nI 6 from rfl, show (16 : Int32) = nI 16 from rfl, show (7 : Int32) = nI 7 from rfl, n_mul, n_add, n_mul, n_add, n_mul, n_add]
      rw [ecell]
      have hcell : ((r * 6 + c) * 16 + bt) * 7 + many < 3360 := by omega
      have d1 : (((r * 6 + c) * 16 + bt) * 7 + many) / 672 = r := by omega
      have d2 : (((r * 6 + c) * 16 + bt) * 7 + many) / 112 % 6 = c := by omega
      have d3 : (((r * 6 + c) * 16 + bt) * 7 + many) / 7 % 16 = bt := by omega
      have d4 : (((r * 6 + c) * 16 + bt) * 7 + many) % 7 = many := by omega
      generalize hcl : ((r * 6 + c) * 16 + bt) * 7 + many = cell at *
      rw [if_neg (by rw [n_neg (by omega)]; exact id), if_pos (by rw [show (3360 : Int32) = nI 3360 from rfl, n_lt (by omega) (by omega)]; exact hcell), n_ixb (by omega), decide_eq_true hcell, chk_t, chk_t, n_toNat (by omega)]
      obtain ⟨⟨s1, s2, s3⟩, vc2, vc3⟩ := id vc
      obtain ⟨e, k1, k2, k3⟩ := vc2 cell hcell
      have he : e < 2147483648 := by omega
      rw [k2, s3, show jshr (nI e) 8 = nI (e / 2 ^ 8) from n_shr (k := 8) he (by omega), show jshl (nI sp) 8 = nI (sp * 256) from ?_]
      · have key : ∀ low, low < 256 → (∀ j, j < 4 → (bit low (4 + j) = 1 → bit low j = 1) ∧ (bit low j = 1 → (bit low (4 + j) = 1 ↔ soA (some L) (sx x) vr vm j r c bt many = true))) → ∃ u, fX6_isSo_b89 (nI k) (nI r) (nI c) (nI bt) (nI many) (nI cell) (nI (sp * 256 + low)) st = some (b2i (soA (some L) (sx x) vr vm k r c bt many), u) ∧ Vt u x (some L) vr vm ∧ FR S_so st u := by
          intro low hl hp
          unfold fX6_isSo_b89
          have hkp : sp * 256 + low < 2147483648 := by omega
          have hpow : (sp * 256 + low) / 2 ^ k ≤ sp * 256 + low := Nat.div_le_self _ _
          rw [n_shr hkp (by omega), n_and1, show (sp * 256 + low) / 2 ^ k % 2 = bit (sp * 256 + low) k from rfl, bit_hi (by omega) hl]
          rcases bit_le low k with hbk | hbk
          · rw [hbk, if_neg (by decide)]
            obtain ⟨u, j1, j2, j3⟩ := gather_ok (r := r) (bt := bt) (many := many) hc cr vt
            have ec := ec_ok (r := r) (bt := bt) (many := many) (c := c) w e2 e3 e5 e4 j2 j3
            rw [j1, Option.bind_some]
            have hll := ec.2.2.2.1.1
            obtain ⟨u2, r1, r2⟩ := so_loop hk (cl := nI cell) (kp := nI (sp * 256 + low)) L.length FU 0 u (by omega) (by unfold FU; omega) ec
            have r1' : fX6_isSo_b133 FU (nI k) (nI cell) (nI (sp * 256 + low)) 0 0 u = _ := r1
            have ff : FR [(20, none), (21, none)] st u2 := FR.trans (FR.mono (by rfl) j3) (FR.mono (by rfl) r2)
            have vu : Vt u2 x (some L) vr vm := v.q (FR.mono (by rfl) ff)
            rw [r1', soF_0]
            have hso : soL L k (fct (sx x) vr vm r c bt many) = soA (some L) (sx x) vr vm k r c bt many := rfl
            rw [hso]
            obtain ⟨q1, q2, q3, q4⟩ := shl4 k hk
            unfold fX6_isSo_b215 fX6_isSo_b234
            rw [n_ixb (by omega), decide_eq_true hcell, chk_t, n_toNat (by omega), q1, q2, n_or, n_or, or256 hl q3, or256 hl q4]
            have vcu : VC u2 (some L) (sx x) vr vm sp := VC_fr (S := [(20, none), (21, none)]) (by rfl) ff vc
            have fin : ∀ w', w' < 256 → (∀ j, j < 4 → (bit (low ||| w') (4 + j) = 1 → bit (low ||| w') j = 1) ∧ (bit (low ||| w') j = 1 → (bit (low ||| w') (4 + j) = 1 ↔ soA (some L) (sx x) vr vm j r c bt many = true))) → Vt (pI u2 23 cell (nI (sp * 256 + (low ||| w')))) x (some L) vr vm := by
              intro w' hw' hh
              have hlt : low ||| w' < 256 := Nat.or_lt_two_pow (n := 8) hl hw'
              have fz : FR [(23, none)] u2 (pI u2 23 cell (nI (sp * 256 + (low ||| w')))) := FR.pI (by rfl) FR.rf
              obtain ⟨y1, y2, y3, y4, _⟩ := vu
              refine ⟨WT_low (by rfl) fz y1, CRg_fr (by rfl) fz y2, VL_fr (by rfl) (by rfl) fz y3, VT_fr (by rfl) fz y4, sp, VC_ask vcu hcell (by omega) (fun _ j hj => ?_)⟩
              rw [d1, d2, d3, d4, bit_hi (by omega) hlt, bit_hi (by omega) hlt]
              exact hh j hj
            cases hs : soA (some L) (sx x) vr vm k r c bt many with
            | false =>
              refine ⟨pI u2 23 cell (nI (sp * 256 + (low ||| 2 ^ k))), rfl, fin _ q3 (fun j hj => ?_), FR.trans (FR.mono (by rfl) ff) (FR.pI (by rfl) FR.rf)⟩
              obtain ⟨o1, o2, o3, o4⟩ := or_low low hl k hk j hj
              rw [o1, o2]
              by_cases cj : j = k
              · subst cj
                rw [hs, if_pos rfl]
                have hz : bit low (4 + j) ≠ 1 := fun hh => by have := (hp j hj).1 hh; omega
                exact ⟨fun _ => rfl, fun _ => ⟨fun hh => absurd hh hz, fun hh => by cases hh⟩⟩
              · rw [if_neg cj]; exact hp j hj
            | true =>
              refine ⟨pI u2 23 cell (nI (sp * 256 + (low ||| 17 * 2 ^ k))), rfl, fin _ q4 (fun j hj => ?_), FR.trans (FR.mono (by rfl) ff) (FR.pI (by rfl) FR.rf)⟩
              obtain ⟨o1, o2, o3, o4⟩ := or_low low hl k hk j hj
              rw [o3, o4]
              by_cases cj : j = k
              · subst cj
                rw [hs, if_pos rfl, if_pos rfl]; simp
              · rw [if_neg cj, if_neg cj]; exact hp j hj
          · rw [hbk, if_pos (by decide)]
            have hpk := (hp k hk).2 hbk
            simp only [n_and16 (show (sp * 256 + low) / 2 ^ k < 2147483648 by omega)]
            rw [show bit ((sp * 256 + low) / 2 ^ k) 4 = bit (sp * 256 + low) (4 + k) from ?_, bit_hi (by omega) hl]
            · refine ⟨st, ?_, v, FR.rf⟩
              rcases bit_le low (4 + k) with hz | hz
              · rw [hz, if_pos rfl]
                cases hs : soA (some L) (sx x) vr vm k r c bt many with
                | false => rfl
                | true => rw [hs, hz] at hpk; exact absurd (hpk.mpr rfl) (by decide)
              · rw [hz, if_neg (by decide), hpk.mp hz]; rfl
            · unfold bit
              rw [Nat.div_div_eq_div_mul, ← Nat.pow_add, Nat.add_comm k 4]
        by_cases cs : e / 2 ^ 8 = sp
        · rw [if_pos (by rw [cs])]
          have e256 : e / 256 = sp := cs
          have hk3 := k3 e256
          rw [d1, d2, d3, d4] at hk3
          have : e = sp * 256 + e % 256 := by omega
          rw [this]
          refine key (e % 256) (by omega) (fun j hj => ?_)
          have b1 := bit_hi (sp := sp) (low := e % 256) (j := j) (by omega) (by omega)
          have b2 := bit_hi (sp := sp) (low := e % 256) (j := 4 + j) (by omega) (by omega)
          rw [← this] at b1 b2
          rw [← b2, ← b1]
          exact hk3 j hj
        · have hp8 : e / 2 ^ 8 ≤ e := Nat.div_le_self _ _
          rw [if_neg (fun hh => cs (n_inj (by omega) (by omega) hh))]
          have bz : ∀ j, bit 0 j = 0 := fun j => by unfold bit; rw [Nat.zero_div]
          have kk := key 0 (by omega) (fun j hj => by rw [bz, bz]; exact ⟨fun hh => hh, fun hh => by cases hh⟩)
          rw [Nat.add_zero] at kk
          exact kk
      · exact shl8 s2
