/-! questions, sayings -/
abbrev S_mx : List (Nat × Option Nat) := [(38, some 8), (38, some 9), (38, some 10), (38, some 18), (38, some 19), (38, some 20), (38, some 21), (38, some 22), (38, some 23), (38, some 24), (38, some 25), (38, some 27), (38, some 28), (38, some 34), (38, some 40), (38, some 43), (38, some 47), (38, some 48), (38, some 49), (38, some 50), (38, some 51), (38, some 52), (38, some 53), (38, some 57), (38, some 58), (43, none), (46, none), (47, none), (48, none), (49, none), (50, none), (51, none), (53, none), (54, none), (55, none), (56, none), (57, none), (58, none), (59, none), (60, none), (61, none), (62, none), (63, none), (40, none)]
/-- what the model writes down while it works stands apart -/
theorem MV_xr {S : List (Nat × Option Nat)} {st v : St} {A : All} {x : Rg} (hS : subS S S_mx = true) (h0 : FR S st v) (m : MV st A) (c : MRg v 40 0 x) : MV v (x, A.2) := by
  have h : FR S_mx st v := FR.mono hS h0
  obtain ⟨m0, m1, m2, m3, m4, m5, m6⟩ := m
  have h38 : ∀ j, inS S_mx 38 j = false → sI v 38 j = sI st 38 j := fun j e => h.i e
  have h39 := fun j => h.i (a := 39) (j := j) (hasA_in (by rfl))
  have h41 := fun j => h.i (a := 41) (j := j) (hasA_in (by rfl))
  have h42 := fun j => h.i (a := 42) (j := j) (hasA_in (by rfl))
  have h44 := fun j => h.i (a := 44) (j := j) (hasA_in (by rfl))
  have h45 := fun j => h.i (a := 45) (j := j) (hasA_in (by rfl))
  have h52 := fun j => h.i (a := 52) (j := j) (hasA_in (by rfl))
  have h64 := fun j => h.i (a := 64) (j := j) (hasA_in (by rfl))
  refine ⟨fun j => (h44 j).trans (m0 j), c, fun k hk => ?_, ?_, ?_, ?_, ?_⟩
  · rcases m2 k hk with ⟨e1, e2⟩ | ⟨y, e1, e2, e3⟩
    · exact Or.inl ⟨e1, (h42 k).trans e2⟩
    · exact Or.inr ⟨y, e1, (h42 k).trans e2, MRg_eq h41 e3⟩
  · unfold MS at m3 ⊢; simp only [h38 0 (by rfl), h38 14 (by rfl), h38 46 (by rfl), h38 6 (by rfl), h39]; exact m3
  · unfold MT at m4 ⊢; simp only [h38 13 (by rfl), h45]; exact m4
  · unfold MP at m5 ⊢; simp only [h38 32 (by rfl), h52]; exact m5
  · unfold MD at m6 ⊢; simp only [h38 55 (by rfl), h38 56 (by rfl), h64]; exact m6
theorem MV_x {S : List (Nat × Option Nat)} {st v : St} {A : All} (hS : subS S S_mx = true) (e : hasA S 40 = false) (h0 : FR S st v) (m : MV st A) : MV v A := MV_xr hS h0 m (MRg.fr e h0 m.2.1)
/-- both answer a question -/
theorem both_q {α : Type} {S S' : List (Nat × Option Nat)} {st : St} {A : All} {r : α} {fc fm : St → Option (α × St)} (hS : lowS S = true) (hS' : midS S' = true) (g : Gd A) (m : MV st A) (hc : ∃ u, fc st = some (r, u) ∧ CV u A ∧ FR S st u) (hm : ∀ s, MV s A → ∃ v, fm s = some (r, v) ∧ MV v A ∧ FR S' s v) : ∃ r st1 st2, fc st = some (r, st1) ∧ fm st1 = some (r, st2) ∧ Inv st2 := by
  obtain ⟨u, e1, c1, f1⟩ := hc
  obtain ⟨v, p1, p2, p3⟩ := hm u (MV_c hS f1 m)
  exact ⟨r, u, v, e1, p1, A, g, CV_m hS' p3 c1, p2⟩
theorem both_n {α : Type} {st : St} {A : All} {r : α} {fc fm : St → Option (α × St)} (g : Gd A) (c : CV st A) (m : MV st A) (h1 : fc st = some (r, st)) (h2 : ∀ s, MV s A → fm s = some (r, s)) : ∃ r st1 st2, fc st = some (r, st1) ∧ fm st1 = some (r, st2) ∧ Inv st2 :=
  both_q (S := []) (S' := []) (by rfl) (by rfl) g m ⟨st, h1, c, FR.rf⟩ (fun s ms => ⟨s, h2 s ms, ms, FR.rf⟩)
theorem CV.low {st : St} {A : All} (c : CV st A) : LwOK A.1 := LwOK.of c.2.1.2
theorem bcC {st : St} {A : All} (g : Gd A) (c : CV st A) : fJ6_bitCount_0f7a4 (sI st 1 5) = nI (pc (A.1.1 0)) := by
  rw [c.2.1.1.1.2.1, bc64 _ (b_lt64 g.1)]
theorem pc_le6 {x : Rg} (g : GdR x) : pc (x.1 0) ≤ 6 := pc_le _ (b_lt64 g)
theorem b2i_if {b : Bool} {u : St} : (if b2i b = 0 then some ((0 : Int32), u) else some ((1 : Int32), u)) = some (b2i b, u) := by
  cases b <;> rfl
abbrev S_cq : List (Nat × Option Nat) := [(19, none), (20, none), (21, none), (22, none), (23, none), (24, none)]
theorem st4 : Step4 Inv := by
  rintro a1 a2 a3 a4 st ⟨A, g, c, m⟩
  have h17 := g.1.2.2.1
  have h16 := g.1.1
  have hpc := pc_le6 g.1
  rcases n_in a1 (A.1.1 17) (by omega) with ⟨r, hr, rfl⟩ | h
  · rcases n_in a2 (A.1.1 16) (by omega) with ⟨k, hk, rfl⟩ | h
    · rcases rng a3 0 15 0 15 rfl rfl (by omega) (by omega) with ⟨b, b1, b2, rfl, b3, b4, b5, b6⟩ | ⟨b3, b4⟩
      · have hC : fX7_asks (nI r) (nI k) (nI b) a4 st = ((fX7_tuneVoice st).bind (fun q5 => if a4 = (0 : Int32) then (fX6_lengthOf (nI r) (nI k) (nI (pc (A.1.1 0))) q5) else (if a4 = (1 : Int32) then ((fX6_isSo a4 (nI r) (nI k) (nI b) (nI (pc (A.1.1 0))) q5).bind (fun q9 => if q9.1 = 0 then (some ((0 : Int32), q9.2)) else (some ((1 : Int32), q9.2)))) else (if a4 = (2 : Int32) then ((fX6_isSo a4 (nI r) (nI k) (nI b) (nI (pc (A.1.1 0))) q5).bind (fun q13 => if q13.1 = 0 then (some ((0 : Int32), q13.2)) else (some ((1 : Int32), q13.2)))) else (if a4 = (3 : Int32) then ((fX6_isSo a4 (nI r) (nI k) (nI b) (nI (pc (A.1.1 0))) q5).bind (fun q17 => if q17.1 = 0 then (some ((0 : Int32), q17.2)) else (some ((1 : Int32), q17.2)))) else (some ((-1 : Int32), q5))))))) := by
          unfold fX7_asks
          rw [cR_in g.1 c.2.1.1 hr, if_pos rfl, cC_in g.1 c.2.1.1 hk, if_pos rfl, if_neg b4, if_pos b5, bcC g c]
        obtain ⟨u, e1, v1, c1, f1⟩ := tuned g c
        rw [e1, Option.bind_some] at hC
        have hM : ∀ s, MV s A → fX8_asks (nI r) (nI k) (nI b) a4 s = (if a4 = (0 : Int32) then (fX8_beatsOf (nI r) (nI k) (nI (pc (A.1.1 0))) s) else (if a4 = (1 : Int32) then ((fX8_isSo (2 : Int32) (nI r) (nI k) (nI b) (nI (pc (A.1.1 0))) s).bind (fun q10 => if q10.1 = 0 then (some ((0 : Int32), q10.2)) else (some ((1 : Int32), q10.2)))) else (if a4 = (2 : Int32) then ((fX8_isSo (3 : Int32) (nI r) (nI k) (nI b) (nI (pc (A.1.1 0))) s).bind (fun q16 => if q16.1 = 0 then (some ((0 : Int32), q16.2)) else (some ((1 : Int32), q16.2)))) else (if a4 = (3 : Int32) then ((fX8_isSo (4 : Int32) (nI r) (nI k) (nI b) (nI (pc (A.1.1 0))) s).bind (fun q22 => if q22.1 = 0 then (some ((0 : Int32), q22.2)) else (some ((1 : Int32), q22.2)))) else (some ((-1 : Int32), s)))))) := by
          intro s ms
          unfold fX8_asks
          rw [mR_in g.1 ms.2.1 hr, if_neg (by decide), mC_in g.1 ms.2.1 hk, if_neg (by decide), b3, if_neg (by decide), inside_ok (x := A.1) (b_lt64 g.1) (ms.2.1.k (by omega))]
          simp only [Option.bind_some]
        -- one of three kinds
        have kind : ∀ q, 1 ≤ q ∧ q < 4 → a4 = nI q → ∃ r0 st1 st2, fX7_asks (nI r) (nI k) (nI b) a4 st = some (r0, st1) ∧ fX8_asks (nI r) (nI k) (nI b) a4 st1 = some (r0, st2) ∧ Inv st2 := by
          intro q hq ha
          obtain ⟨u2, e2, v2, f2⟩ := so_ok (k := q) (bt := b) (many := pc (A.1.1 0)) g.1 v1 (by omega) (show r < 5 by omega) (show k < 6 by omega) (by omega) (by omega)
          refine both_q (S := S_cq) (S' := S_t) (r := b2i (soA (lwF A.1) (sx A.1) (A.1.1 2) (A.1.1 15) q r k b (pc (A.1.1 0)))) (fc := fun s => fX7_asks (nI r) (nI k) (nI b) a4 s) (fm := fun s => fX8_asks (nI r) (nI k) (nI b) a4 s) (by rfl) (by rfl) g m ⟨u2, ?_, CV_v (S := S_so) (by rfl) f2 c1 v2.1 v2.o, (FR.mono (by rfl) f1 : FR S_cq st u).trans (FR.mono (by rfl) f2)⟩ (fun s ms => ?_)
          · show fX7_asks (nI r) (nI k) (nI b) a4 st = _
            rw [hC]
            have hcs : q = 1 ∨ q = 2 ∨ q = 3 := by omega
            rcases hcs with rfl | rfl | rfl
            · rw [if_neg (by rw [ha]; decide), if_pos (show a4 = 1 from ha), ha, e2]; exact b2i_if
            · rw [if_neg (by rw [ha]; decide), if_neg (by rw [ha]; decide), if_pos (show a4 = 2 from ha), ha, e2]; exact b2i_if
            · rw [if_neg (by rw [ha]; decide), if_neg (by rw [ha]; decide), if_neg (by rw [ha]; decide), if_pos (show a4 = 3 from ha), ha, e2]; exact b2i_if
          · obtain ⟨v, p1, p2⟩ := isSo8 (k := q) (r := r) (c := k) (bt := b) (many := pc (A.1.1 0)) g.1 c.low ms.2.1 hq (by omega) (by omega) (by omega) (by omega)
            refine ⟨v, ?_, MV_x (S := S_t) (by rfl) (by rfl) p2 ms, p2⟩
            show fX8_asks (nI r) (nI k) (nI b) a4 s = _
            rw [hM s ms]
            have hcs : q = 1 ∨ q = 2 ∨ q = 3 := by omega
            rcases hcs with rfl | rfl | rfl
            · rw [if_neg (by rw [ha]; decide), if_pos (show a4 = 1 from ha), show (2 : Int32) = nI (1 + 1) from rfl, p1]; exact b2i_if
            · rw [if_neg (by rw [ha]; decide), if_neg (by rw [ha]; decide), if_pos (show a4 = 2 from ha), show (3 : Int32) = nI (2 + 1) from rfl, p1]; exact b2i_if
            · rw [if_neg (by rw [ha]; decide), if_neg (by rw [ha]; decide), if_neg (by rw [ha]; decide), if_pos (show a4 = 3 from ha), show (4 : Int32) = nI (3 + 1) from rfl, p1]; exact b2i_if
        by_cases h1 : a4 = 1
        · exact kind 1 (by omega) h1
        · by_cases h2 : a4 = 2
          · exact kind 2 (by omega) h2
          · by_cases h3 : a4 = 3
            · exact kind 3 (by omega) h3
            · by_cases h0 : a4 = 0
              · obtain ⟨u2, e2, v2, f2⟩ := len_ok (many := pc (A.1.1 0)) g.1 v1 (show r < 5 by omega) (show k < 6 by omega) (by omega)
                refine both_q (S := S_cq) (S' := S_t) (r := nI (lenA (lwF A.1) (sx A.1) (A.1.1 2) (A.1.1 15) r k (pc (A.1.1 0)))) (fc := fun s => fX7_asks (nI r) (nI k) (nI b) a4 s) (fm := fun s => fX8_asks (nI r) (nI k) (nI b) a4 s) (by rfl) (by rfl) g m ⟨u2, ?_, CV_v (S := [(20, none), (21, none)]) (by rfl) f2 c1 v2.1 v2.o, (FR.mono (by rfl) f1 : FR S_cq st u).trans (FR.mono (by rfl) f2)⟩ (fun s ms => ?_)
                · show fX7_asks (nI r) (nI k) (nI b) a4 st = _
                  rw [hC, if_pos h0, e2]
                · obtain ⟨v, p1, p2⟩ := beats8 (r := r) (c := k) (many := pc (A.1.1 0)) g.1 c.low ms.2.1 (by omega) (by omega) (by omega)
                  refine ⟨v, ?_, MV_x (S := S_t) (by rfl) (by rfl) p2 ms, p2⟩
                  show fX8_asks (nI r) (nI k) (nI b) a4 s = _
                  rw [hM s ms, if_pos h0, p1]
              · refine both_q (S := S_cq) (S' := []) (r := (-1 : Int32)) (fc := fun s => fX7_asks (nI r) (nI k) (nI b) a4 s) (fm := fun s => fX8_asks (nI r) (nI k) (nI b) a4 s) (by rfl) (by rfl) g m ⟨u, ?_, c1, FR.mono (by rfl) f1⟩ (fun s ms => ⟨s, ?_, ms, FR.rf⟩)
                · show fX7_asks (nI r) (nI k) (nI b) a4 st = _
                  rw [hC, if_neg h0, if_neg h1, if_neg h2, if_neg h3]
                · show fX8_asks (nI r) (nI k) (nI b) a4 s = _
                  rw [hM s ms, if_neg h0, if_neg h1, if_neg h2, if_neg h3]
      · refine both_n (r := (-1 : Int32)) (fc := fun s => fX7_asks (nI r) (nI k) a3 a4 s) (fm := fun s => fX8_asks (nI r) (nI k) a3 a4 s) g c m ?_ (fun s ms => ?_)
        · show fX7_asks (nI r) (nI k) a3 a4 st = _
          unfold fX7_asks
          rw [cR_in g.1 c.2.1.1 hr, if_pos rfl, cC_in g.1 c.2.1.1 hk, if_pos rfl]
          exact or_rng b4
        · show fX8_asks (nI r) (nI k) a3 a4 s = _
          unfold fX8_asks
          rw [mR_in g.1 ms.2.1 hr, if_neg (by decide), mC_in g.1 ms.2.1 hk, if_neg (by decide), b3, if_pos rfl]
    · refine both_n (r := (-1 : Int32)) (fc := fun s => fX7_asks (nI r) a2 a3 a4 s) (fm := fun s => fX8_asks (nI r) a2 a3 a4 s) g c m ?_ (fun s ms => ?_)
      · show fX7_asks (nI r) a2 a3 a4 st = _
        unfold fX7_asks
        rw [cR_in g.1 c.2.1.1 hr, if_pos rfl, cC_out g.1 c.2.1.1 h, if_neg (by decide)]
      · show fX8_asks (nI r) a2 a3 a4 s = _
        unfold fX8_asks
        rw [mR_in g.1 ms.2.1 hr, if_neg (by decide), mC_out g.1 ms.2.1 h, if_pos rfl]
  · refine both_n (r := (-1 : Int32)) (fc := fun s => fX7_asks a1 a2 a3 a4 s) (fm := fun s => fX8_asks a1 a2 a3 a4 s) g c m ?_ (fun s ms => ?_)
    · show fX7_asks a1 a2 a3 a4 st = _
      unfold fX7_asks
      rw [cR_out g.1 c.2.1.1 h, if_neg (by decide)]
    · show fX8_asks a1 a2 a3 a4 s = _
      unfold fX8_asks
      rw [mR_out g.1 ms.2.1 h, if_pos rfl]
/-! sayings -/
theorem place_ok {st : St} {x : Rg} (g : GdR x) (c : CRg st 1 x) (h : 1 ≤ x.1 16) : fX4_place st = some (nI (x.1 1 % x.1 16)) := by
  have h6 := g.1
  have h5 := g.2.2.2.2.1
  unfold fX4_place
  rw [c.1.1, c.2.1.2.1, if_neg (by rw [show (0 : Int32) = nI 0 from rfl, n_eq (by omega) (by omega)]; omega), n_nz (by omega) h, chk_t, n_rem (by omega) (by omega)]
theorem pc2 : ∀ b, b < 64 → 2 ≤ pc b → b ≠ 0 := by decide +kernel
theorem canSay8 {st : St} {x : Rg} (g : GdR x) (m : MRg st 40 0 x) : fX8_canSay st = some (if 2 ≤ pc (x.1 0) then 1 else 0) := by
  have := pc_le6 g
  unfold fX8_canSay
  rw [inside_ok (x := x) (b_lt64 g) (m.k (by omega)), Option.bind_some]
  by_cases h : 2 ≤ pc (x.1 0)
  · rw [if_neg (by rw [show (1 : Int32) = nI 1 from rfl, n_le (by omega) (by omega)]; omega), if_pos h]
  · rw [if_pos (by rw [show (1 : Int32) = nI 1 from rfl, n_le (by omega) (by omega)]; omega), if_neg h]
theorem can7 {st : St} {A : All} (g : Gd A) (c : CV st A) : ((2 : Int32) ≤ fJ6_bitCount_0f7a4 (sI st 1 5)) = (2 ≤ pc (A.1.1 0)) := by
  have := pc_le6 g.1
  rw [bcC g c, show (2 : Int32) = nI 2 from rfl, n_le (by omega) (by omega)]
theorem Gd_say {x : Rg} {r less : Nat} (g : GdR x) : GdR (sayX x r less) := by
  have hb := behA_lt (n := x.1 16) (b := x.1 0) (t := tellX x r less) g.1 g.2.1
  have h5 : behA (x.1 16) (x.1 0) (tellX x r less) % 6 ≤ 5 := by omega
  have e : ∀ i, 2 ≤ i → (sayX x r less).1 i = x.1 i := fun i hi => by rw [sayX_1, if_neg (by omega), if_neg (by omega)]
  obtain ⟨g1, g2, g3, g4, g5, g6, g7, g8, g9, g10, g11, g12⟩ := g
  refine ⟨g1, hb.1, g3, g4, h5, g6, g7, g8, g9, fun j hj => ?_, fun j hj => ?_, fun j hj => ?_⟩
  · rw [e _ (by omega)]; exact g10 j hj
  · rw [e _ (by omega)]; exact g11 j hj
  · rw [e _ (by omega)]; exact g12 j hj
theorem sx_say {x : Rg} {r less : Nat} : sx (sayX x r less) = sx x := by
  unfold sayX
  rw [sx_up (by omega), sx_up (by omega)]
def syA (A : All) (r : Nat) : All := sX (sP A (psK A.1 0 A.2.2.2.2.1)) (sayX A.1 r 0)
theorem Gd_sy {A : All} {r : Nat} (g : Gd A) : Gd (syA A r) :=
  ⟨Gd_say g.1, g.2.1, g.2.2.1, GdP_up (by omega) (GdP_up (by omega) (GdP_K g.1 g.2.2.2.1 (by omega))), g.2.2.2.2⟩
abbrev S_cs : List (Nat × Option Nat) := [(1, none), (5, none), (15, none), (16, none), (19, none), (20, none), (21, none), (22, none), (23, none), (24, none)]
theorem c_say_do {st : St} {A : All} {r : Nat} (g : Gd A) (c : CV st A) (hr : r < A.1.1 17) (h2 : 2 ≤ pc (A.1.1 0)) : ∃ u, fX7_performSaying (nI r) st = some (nI (tellX A.1 r 0), u) ∧ CV u (syA A r) ∧ FR S_cs st u := by
  have h64 := b_lt64 g.1
  have h0 := pc2 _ h64 h2
  have hn1 := many_in g.1 h0
  have hn := g.1.1
  have hm : A.1.1 1 % A.1.1 16 < A.1.1 16 := Nat.mod_lt _ (by omega)
  obtain ⟨u, e1, v1, c1, f1⟩ := tuned g c
  obtain ⟨u2, e2, v2, f2, s2, s3, s4⟩ := speak_ok (at_ := A.1.1 1 % A.1.1 16) (r := r) (less := 0) g.1 v1 h64 hm hr (by omega)
  have c2 : CV u2 A := CV_v (S := wX6_speak_S) (by rfl) f2 c1 v2.1 v2.o
  obtain ⟨u3, e3, c3, f3⟩ := c_keep g c2 (show 0 < 4 by omega)
  have c3r : CRg u3 1 A.1 := c3.2.1.1
  obtain ⟨hw, hi⟩ := sayF_in (lw := lwF A.1) (vr := A.1.1 2) (vm := A.1.1 15) (r := r) (less := 0) g.1 g.1.2.1 h0 hm
  have hb := behind_ok (t := tellX A.1 r 0) g.1 c3r h64 hw hi sayA_c
  have hbl := behA_lt (n := A.1.1 16) (b := A.1.1 0) (t := tellX A.1 r 0) g.1.1 g.1.2.1
  have hp64 := p64 g.1.1
  have hdm : behA (A.1.1 16) (A.1.1 0) (tellX A.1 r 0) = behA (A.1.1 16) (A.1.1 0) (tellX A.1 r 0) / 6 * 6 + behA (A.1.1 16) (A.1.1 0) (tellX A.1 r 0) % 6 := by omega
  have f4 : FR [(1, none), (5, none)] u3 (pI (pI u3 1 5 (nI (behA (A.1.1 16) (A.1.1 0) (tellX A.1 r 0) / 6))) 5 1 (nI (behA (A.1.1 16) (A.1.1 0) (tellX A.1 r 0) % 6))) := FR.pI (by rfl) (FR.pI (by rfl) FR.rf)
  refine ⟨_, ?_, ?_, ((((FR.mono (by rfl) f1 : FR S_cs st u).trans (FR.mono (by rfl) f2)).trans (FR.mono (by rfl) f3)).trans (FR.mono (by rfl) f4))⟩
  · unfold fX7_performSaying
    rw [cR_in g.1 c.2.1.1 hr, if_pos rfl, if_pos (by rw [can7 g c]; exact h2), e1, Option.bind_some, place_ok g.1 c1.2.1.1 hn1, Option.bind_some, c1.2.1.1.1.2.1, show (0 : Int32) = nI 0 from rfl, e2, Option.bind_some]
    simp only [e3, Option.bind_some]
    rw [c3r.1.2.1, hb, hdm, settle_ok (by omega) (by omega), Option.bind_some]
    rw [← hdm]
  · refine CV_keep (A := sP A (psK A.1 0 A.2.2.2.2.1)) (S := [(1, none), (5, none)]) (by rfl) f4 c3 ?_ rfl rfl sx_say (CP_fr (by rfl) f4 c3.2.2.2.2.2.1)
    have q := CRg_1 (v := behA (A.1.1 16) (A.1.1 0) (tellX A.1 r 0) % 6) (CRg_0 (v := behA (A.1.1 16) (A.1.1 0) (tellX A.1 r 0) / 6) c3r)
    have hx : sayX A.1 r 0 = upR (upR A.1 0 (behA (A.1.1 16) (A.1.1 0) (tellX A.1 r 0) / 6)) 1 (behA (A.1.1 16) (A.1.1 0) (tellX A.1 r 0) % 6) := by
      unfold sayX upR
      congr 1
      funext i
      unfold va_up
      by_cases c1 : i = 0
      · subst c1; simp
      · simp [c1]
    rw [hx]; exact q
abbrev S_ms : List (Nat × Option Nat) := [(38, some 32), (52, none), (38, some 22), (38, some 23), (38, some 24), (38, some 25), (50, none), (51, none), (40, some 0), (40, some 1)]
theorem m_say_do {st : St} {A : All} {r : Nat} (g : Gd A) (lo : LwOK A.1) (m : MV st A) (hr : r < A.1.1 17) (h2 : 2 ≤ pc (A.1.1 0)) : ∃ u, fX8_saysKept (nI r) st = some (nI (tellX A.1 r 0), u) ∧ MV u (syA A r) ∧ FR S_ms st u := by
  have h0 := pc2 _ (b_lt64 g.1) h2
  obtain ⟨u, e1, m1, f1⟩ := m_keep g m (show 0 < 4 by omega)
  obtain ⟨u2, e2, f2, m2⟩ := says_ok (less := 0) g.1 lo m1.2.1 h0 hr (by omega)
  refine ⟨u2, ?_, MV_xr (A := sP A (psK A.1 0 A.2.2.2.2.1)) (S := S_sy) (by rfl) f2 m1 m2, (FR.mono (by rfl) f1 : FR S_ms st u).trans (FR.mono (by rfl) f2)⟩
  unfold fX8_saysKept
  rw [mR_in g.1 m.2.1 hr, if_neg (by decide), canSay8 g.1 m.2.1, if_pos h2, Option.bind_some, if_neg (by decide), show (0 : Int32) = nI 0 from rfl, e1, Option.bind_some]
  exact e2
theorem c_say_out {st : St} {A : All} {a : Int32} (g : Gd A) (c : CV st A) (h : out a (A.1.1 17)) : fX7_performSaying a st = some (-2, st) := by
  unfold fX7_performSaying
  rw [cR_out g.1 c.2.1.1 h, if_neg (by decide)]
theorem c_say_no {st : St} {A : All} {r : Nat} (g : Gd A) (c : CV st A) (hr : r < A.1.1 17) (h2 : ¬ 2 ≤ pc (A.1.1 0)) : fX7_performSaying (nI r) st = some (-3, st) := by
  unfold fX7_performSaying
  rw [cR_in g.1 c.2.1.1 hr, if_pos rfl, if_neg (by rw [can7 g c]; exact h2)]
theorem m_say_out {st : St} {A : All} {a : Int32} (g : Gd A) (m : MV st A) (h : out a (A.1.1 17)) : fX8_saysKept a st = some (-2, st) := by
  unfold fX8_saysKept
  rw [mR_out g.1 m.2.1 h, if_pos rfl]
theorem m_say_no {st : St} {A : All} {r : Nat} (g : Gd A) (m : MV st A) (hr : r < A.1.1 17) (h2 : ¬ 2 ≤ pc (A.1.1 0)) : fX8_saysKept (nI r) st = some (-3, st) := by
  unfold fX8_saysKept
  rw [mR_in g.1 m.2.1 hr, if_neg (by decide), canSay8 g.1 m.2.1, if_neg h2, Option.bind_some, if_pos rfl]
theorem tell_b {x : Rg} {r less : Nat} (g : GdR x) (h0 : x.1 0 ≠ 0) : tellX x r less < 106 := by
  have hn1 := many_in g h0
  have hn := g.1
  have hm : x.1 1 % x.1 16 < x.1 16 := Nat.mod_lt _ (by omega)
  obtain ⟨hw, hi⟩ := sayF_in (lw := lwF x) (vr := x.1 2) (vm := x.1 15) (r := r) (less := less) g g.2.1 h0 hm
  rcases sayA_c (x := x) (lw := lwF x) (vr := x.1 2) (vm := x.1 15) (b := x.1 0) (at_ := x.1 1 % x.1 16) (r := r) (less := less) with h | h
  · show sayA _ _ _ _ _ _ _ _ < 106
    omega
  · show sayA _ _ _ _ _ _ _ _ < 106
    omega
theorem st15 : Step15 Inv := by
  rintro a st ⟨A, g, c, m⟩
  unfold fX7_say fX8_say
  have h6 := g.1.2.2.1
  rcases n_in a (A.1.1 17) (by omega) with ⟨r, hr, rfl⟩ | h
  · by_cases h2 : 2 ≤ pc (A.1.1 0)
    · have ht := tell_b (r := r) (less := 0) g.1 (pc2 _ (b_lt64 g.1) h2)
      exact both_ans (S := S_cs) (S' := S_ms) (fc := fun s => fX7_performSaying (nI r) s) (fm := fun s => fX8_saysKept (nI r) s) (by rfl) (by rfl) m (Gd_sy g) (Or.inr (Or.inr ⟨tellX A.1 r 0, by omega, rfl⟩)) (c_say_do g c hr h2) (fun s ms => m_say_do g c.low ms hr h2)
    · exact both_ans (S := []) (S' := []) (fc := fun s => fX7_performSaying (nI r) s) (fm := fun s => fX8_saysKept (nI r) s) (by rfl) (by rfl) m g (Or.inr (Or.inl rfl)) ⟨st, c_say_no g c hr h2, c, FR.rf⟩ (fun s ms => ⟨s, m_say_no g ms hr h2, ms, FR.rf⟩)
  · exact both_ans (S := []) (S' := []) (fc := fun s => fX7_performSaying a s) (fm := fun s => fX8_saysKept a s) (by rfl) (by rfl) m g (Or.inl rfl) ⟨st, c_say_out g c h, c, FR.rf⟩ (fun s ms => ⟨s, m_say_out g ms h, ms, FR.rf⟩)
theorem st16 : Step16 Inv := by
  rintro a b st ⟨A, g, c, m⟩
  have h6 := g.1.2.2.1
  have hn := g.1.1
  have h64 := b_lt64 g.1
  rcases n_in a (A.1.1 17) (by omega) with ⟨r, hr, rfl⟩ | h
  · by_cases h2 : 2 ≤ pc (A.1.1 0)
    · have h0 := pc2 _ h64 h2
      have hn1 := many_in g.1 h0
      have hm : A.1.1 1 % A.1.1 16 < A.1.1 16 := Nat.mod_lt _ (by omega)
      have hlb := lenX_b (less := 0) g.1 hr
      have hM : ∀ s, MV s A → ∃ v, FR S_ct s v ∧ fX8_falls (nI r) b s = (if (fX8_lies b (0 : Int32) (nI (lenX A.1 r 0))) = 0 then (some ((-1 : Int32), v)) else (chk (ixb b 16) (some (sI v 51 b.toNatClampNeg, v)))) ∧ ∀ j, j ≤ lenX A.1 r 0 → sI v 51 j = nI ((fallX A.1 r 0).2 j) := by
        intro s ms
        obtain ⟨v, e1, e2, e3⟩ := counts_ok (less := 0) g.1 c.low ms.2.1 h0 hr (by omega)
        refine ⟨v, e2, ?_, e3⟩
        unfold fX8_falls
        rw [mR_in g.1 ms.2.1 hr, if_neg (by decide), canSay8 g.1 ms.2.1, if_pos h2, Option.bind_some, if_neg (by decide), show (0 : Int32) = nI 0 from rfl, e1, Option.bind_some]
      rcases rng b 0 15 0 15 rfl rfl (by omega) (by omega) with ⟨k, b1, b2, rfl, b3, b4, b5, b6⟩ | ⟨b3, b4⟩
      · by_cases k0 : k = 0
        · subst k0
          refine both_q (S := []) (S' := S_ct) (r := nI (firstA (A.1.1 16) (A.1.1 0) (A.1.1 1 % A.1.1 16))) (fc := fun s => fX7_falls (nI r) (nI 0) s) (fm := fun s => fX8_falls (nI r) (nI 0) s) (by rfl) (by rfl) g m ⟨st, ?_, c, FR.rf⟩ (fun s ms => ?_)
          · show fX7_falls (nI r) (nI 0) st = _
            unfold fX7_falls
            rw [cR_in g.1 c.2.1.1 hr, if_pos rfl, if_neg b4, if_neg b6, if_pos (by rw [can7 g c]; exact h2), if_pos (by rfl), place_ok g.1 c.2.1.1 hn1, Option.bind_some, c.2.1.1.1.2.1, first_ok hn h64 c.2.1.1.1.1 hm, Option.bind_some]
          · obtain ⟨v, f1, e1, e2⟩ := hM s ms
            refine ⟨v, ?_, MV_x (S := S_ct) (by rfl) (by rfl) f1 ms, f1⟩
            show fX8_falls (nI r) (nI 0) s = _
            rw [e1, show (0 : Int32) = nI 0 from rfl, n_lies (by omega) (by omega) (by omega), if_pos (show 0 ≤ 0 ∧ 0 ≤ lenX A.1 r 0 by omega), if_neg (by decide), n_ixb (by omega), decide_eq_true (by omega), chk_t, n_toNat (by omega), e2 0 (by omega), fall_0]
        · obtain ⟨u, e1, v1, c1, f1⟩ := tuned g c
          obtain ⟨u2, e2, v2, f2, s2, s3, s4⟩ := speak_ok (at_ := A.1.1 1 % A.1.1 16) (r := r) (less := 0) g.1 v1 h64 hm hr (by omega)
          have c2 : CV u2 A := CV_v (S := wX6_speak_S) (by rfl) f2 c1 v2.1 v2.o
          have hC : fX7_falls (nI r) (nI k) st = if (nI k) ≤ (sI u2 19 10) then (chk (ixb (nI k) 16) (some (sI u2 22 (nI k).toNatClampNeg, u2))) else (some ((-1 : Int32), u2)) := by
            unfold fX7_falls
            rw [cR_in g.1 c.2.1.1 hr, if_pos rfl, if_neg b4, if_neg b6, if_pos (by rw [can7 g c]; exact h2), if_neg (by rw [show (0 : Int32) = nI 0 from rfl, n_eq (by omega) (by omega)]; exact k0), e1, Option.bind_some, place_ok g.1 c1.2.1.1 hn1, Option.bind_some, c1.2.1.1.1.2.1, show (0 : Int32) = nI 0 from rfl, e2, Option.bind_some]
          rw [s2, n_ixb (by omega), decide_eq_true (show k < 16 by omega), chk_t, n_toNat (by omega)] at hC
          have fS : FR S_cq st u2 := (FR.mono (by rfl) f1 : FR S_cq st u).trans (FR.mono (by rfl) f2)
          by_cases hk : k ≤ lenX A.1 r 0
          · rw [if_pos (by rw [n_le (by omega) (by have : lenB (lwF A.1) (sx A.1) (A.1.1 2) (A.1.1 15) (A.1.1 0) (A.1.1 1 % A.1.1 16) r 0 ≤ 15 := hlb.2
                                                   omega)]; exact hk), s3 k (by omega) hk] at hC
            refine both_q (S := S_cq) (S' := S_ct) (r := nI ((fallX A.1 r 0).2 k)) (fc := fun s => fX7_falls (nI r) (nI k) s) (fm := fun s => fX8_falls (nI r) (nI k) s) (by rfl) (by rfl) g m ⟨u2, hC, c2, fS⟩ (fun s ms => ?_)
            obtain ⟨v, f1, e1, e2⟩ := hM s ms
            refine ⟨v, ?_, MV_x (S := S_ct) (by rfl) (by rfl) f1 ms, f1⟩
            show fX8_falls (nI r) (nI k) s = _
            rw [e1, show (0 : Int32) = nI 0 from rfl, n_lies (by omega) (by omega) (by omega), if_pos (show 0 ≤ k ∧ k ≤ lenX A.1 r 0 by omega), if_neg (by decide), n_ixb (by omega), decide_eq_true (by omega), chk_t, n_toNat (by omega), e2 k hk]
          · rw [if_neg (by rw [n_le (by omega) (by have : lenB (lwF A.1) (sx A.1) (A.1.1 2) (A.1.1 15) (A.1.1 0) (A.1.1 1 % A.1.1 16) r 0 ≤ 15 := hlb.2
                                                   omega)]; exact hk)] at hC
            refine both_q (S := S_cq) (S' := S_ct) (r := (-1 : Int32)) (fc := fun s => fX7_falls (nI r) (nI k) s) (fm := fun s => fX8_falls (nI r) (nI k) s) (by rfl) (by rfl) g m ⟨u2, hC, c2, fS⟩ (fun s ms => ?_)
            obtain ⟨v, f1, e1, e2⟩ := hM s ms
            refine ⟨v, ?_, MV_x (S := S_ct) (by rfl) (by rfl) f1 ms, f1⟩
            show fX8_falls (nI r) (nI k) s = _
            rw [e1, show (0 : Int32) = nI 0 from rfl, n_lies (by omega) (by omega) (by omega), if_neg (show ¬ (0 ≤ k ∧ k ≤ lenX A.1 r 0) by omega), if_pos (by rfl)]
      · refine both_q (S := []) (S' := S_ct) (r := (-1 : Int32)) (fc := fun s => fX7_falls (nI r) b s) (fm := fun s => fX8_falls (nI r) b s) (by rfl) (by rfl) g m ⟨st, ?_, c, FR.rf⟩ (fun s ms => ?_)
        · show fX7_falls (nI r) b st = _
          unfold fX7_falls
          rw [cR_in g.1 c.2.1.1 hr, if_pos rfl]
          rcases b4 with h | ⟨h1, h2, h3⟩
          · rw [if_pos h]
          · rw [if_neg h1, if_pos h3]
        · obtain ⟨v, f1, e1, e2⟩ := hM s ms
          refine ⟨v, ?_, MV_x (S := S_ct) (by rfl) (by rfl) f1 ms, f1⟩
          show fX8_falls (nI r) b s = _
          have hl : fX8_lies b 0 (nI (lenX A.1 r 0)) = 0 := by
            rcases n_cases b with h | ⟨k, hk, rfl⟩
            · exact n_liesn (lo := 0) h (by omega)
            · rw [show (0 : Int32) = nI 0 from rfl, show (15 : Int32) = nI 15 from rfl, n_lies hk (by omega) (by omega)] at b3
              rw [show (0 : Int32) = nI 0 from rfl, n_lies hk (by omega) (by omega)]
              split at b3
              · cases b3
              · rw [if_neg (by omega)]; rfl
          rw [e1, hl, if_pos rfl]
    · refine both_n (r := (-1 : Int32)) (fc := fun s => fX7_falls (nI r) b s) (fm := fun s => fX8_falls (nI r) b s) g c m ?_ (fun s ms => ?_)
      · show fX7_falls (nI r) b st = _
        unfold fX7_falls
        rw [cR_in g.1 c.2.1.1 hr, if_pos rfl]
        split
        · rfl
        · split
          · rfl
          · rw [if_neg (by rw [can7 g c]; exact h2)]
      · show fX8_falls (nI r) b s = _
        unfold fX8_falls
        rw [mR_in g.1 ms.2.1 hr, if_neg (by decide), canSay8 g.1 ms.2.1, if_neg h2, Option.bind_some, if_pos rfl]
  · refine both_n (r := (-1 : Int32)) (fc := fun s => fX7_falls a b s) (fm := fun s => fX8_falls a b s) g c m ?_ (fun s ms => ?_)
    · show fX7_falls a b st = _
      unfold fX7_falls
      rw [cR_out g.1 c.2.1.1 h, if_neg (by decide)]
    · show fX8_falls a b s = _
      unfold fX8_falls
      rw [mR_out g.1 ms.2.1 h, if_pos rfl]
