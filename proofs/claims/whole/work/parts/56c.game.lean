/-! a game to its end -/
theorem bf_none {x : Rg} (g : GdR x) : ∀ (f : Nat) (V : List Nat) (P : List Qe), (∀ e ∈ P, Cn x e.1) → bfP x (-1) f V P = none := by
  intro f
  have h64 := p64 g.1
  induction f with
  | zero => intro V P _; rfl
  | succ f ih =>
    intro V P hP
    cases P with
    | nil => rfl
    | cons e P =>
      obtain ⟨s, p⟩ := e
      have hC : Cn x s := hP (s, p) (by simp)
      unfold bfP
      rw [if_neg (fun e => by
        have h1 : nI (s / 6) < 0 := by rw [e]; decide
        have := hC.1
        rw [n_neg (by omega)] at h1; exact h1)]
      by_cases hp : 2 ≤ pc (s / 6)
      · rw [if_pos hp]
        refine ih _ _ (fun e he => ?_)
        rcases List.mem_append.mp he with q | q
        · exact hP e (by simp [q])
        · exact new_C (Q := Cn x) (fun r => ld_Cn g hC.1 hp) _ _ _ e q
      · rw [if_neg hp]
        exact ih _ _ (fun e he => hP e (by simp [he]))
def cX (x : Rg) (s0 k : Nat) : Int32 := if 2 ≤ pc (s0 / 6) then nI (chN x (itN x k) s0) else -1
theorem play_loop {x : Rg} {s0 : Nat} {p0 : List Nat} {R : List Qe} {Q : List Qe} (g : GdR x) (hQ0 : Q = (s0, p0) :: R) (qv : QV x Q) (hclo : Clo x Q Q.length) (hq1 : 1 ≤ x.1 17) : ∀ (j m k a b : Nat) (fl : Bool) (st : St), k + j = 12 → j < m → abG a b → Vx st x → Qc st Q → Nw st Q a (itN x k) → (fl = false → itN x 12 s0 = itN x k s0 ∧ sI st 25 11 = cX x s0 11) → (k = 12 → sI st 25 11 = cX x s0 11) → (¬ 2 ≤ pc (s0 / 6) → sI st 25 11 = -1) → ∃ u, fX1_play_b79 m (nI s0) a b (b2i fl) (nI k) st = some (itN x 12 s0, u) ∧ Vx u x ∧ FR S_cg st u ∧ sI u 25 11 = cX x s0 11 := by
  have hin : inQ Q s0 := by unfold inQ; rw [hQ0]; simp
  have h384 : s0 < 384 := (qv.2 (s0, p0) (by rw [hQ0]; simp)).lt g
  have hV : ∀ s, inQ Q s → 2 ≤ pc (s / 6) → ∀ r, r < x.1 17 → inQ Q (ldA x s r) := by
    intro s hs hp r hr
    obtain ⟨e, he, hee⟩ := List.mem_map.mp hs
    obtain ⟨i, hi⟩ := List.getElem?_of_mem he
    exact hclo i s e.2 (List.getElem?_eq_some_iff.mp hi).1 (by rw [hi, ← hee]) hp r hr
  intro j
  induction j with
  | zero =>
    intro m k a b fl st h1 h2 hab v qc nw hfl h12 hn
    obtain ⟨m, rfl⟩ : ∃ j, m = j + 1 := ⟨m - 1, by omega⟩
    have ek : k = 12 := by omega
    subst ek
    refine ⟨st, ?_, v, FR.rf, h12 rfl⟩
    rw [fX1_play_b79, if_pos (by decide), n_ixb (by omega), decide_eq_true h384, chk_t, n_toNat (by omega), nw s0 hin]
  | succ j ih =>
    intro m k a b fl st h1 h2 hab v qc nw hfl h12 hn
    obtain ⟨m, rfl⟩ : ∃ j, m = j + 1 := ⟨m - 1, by omega⟩
    rw [fX1_play_b79, if_neg (by rw [show (12 : Int32) = nI 12 from rfl, n_le (by omega) (by omega)]; omega)]
    simp only [b2i_0]
    by_cases cf : fl = false
    · rw [if_pos cf]
      refine ⟨st, ?_, v, FR.rf, (hfl cf).2⟩
      rw [n_ixb (by omega), decide_eq_true h384, chk_t, n_toNat (by omega), nw s0 hin, (hfl cf).1]
    · rw [if_neg cf]
      obtain ⟨u, ch', r1, r2, r3, r4, r5, r6, r7, r8⟩ := pass_loop (k0 := k) (f := itN x k) (K := fun zl1 zl2 zl3 zl4 zl5 zst => fX1_play_b79 m zl1 zl2 zl3 zl4 zl5 zst) g hab qv hclo hq1 h384 (fun s hs => it_one hs) Q.length FU 0 false st (by omega) (by have := qv.le g; unfold FU; omega) v qc nw (fun j s p hj => by omega)
      rw [show fX1_play_b97 (fun zl1 zl2 zl3 zl4 zl5 zst => fX1_play_b79 m zl1 zl2 zl3 zl4 zl5 zst) FU (nI s0) a b 0 (nI k) 0 st = _ from r1]
      have hch : sI u 25 11 = cX x s0 k := by
        rw [r8]
        unfold cX
        by_cases hp : 2 ≤ pc (s0 / 6)
        · rw [if_pos hp, if_pos ⟨hp, by rw [List.drop_zero]; exact hin⟩]
        · rw [if_neg hp, if_neg (fun h => hp h.1)]; exact hn hp
      have hb' : abG b a := by
        rcases hab with ⟨h, h'⟩ | ⟨h, h'⟩
        · exact Or.inr ⟨h', h⟩
        · exact Or.inl ⟨h', h⟩
      obtain ⟨u2, s1, s2, s3, s4⟩ := ih m (k + 1) b a ch' u (by omega) (by omega) hb' r2 r3 r5 (fun h => by
        have hsame : ∀ s, inQ Q s → itN x (k + 1) s = itN x k s := by
          intro s hs
          obtain ⟨e, he, hee⟩ := List.mem_map.mp hs
          obtain ⟨i, hi⟩ := List.getElem?_of_mem he
          exact (r7 h).2 i s e.2 (by omega) (by rw [hi, ← hee])
        have h1' := it_stab hV hsame (12 - k) s0 hin
        rw [show k + (12 - k) = 12 by omega] at h1'
        refine ⟨by rw [h1', hsame s0 hin], ?_⟩
        rw [hch]
        unfold cX
        by_cases hp : 2 ≤ pc (s0 / 6)
        · rw [if_pos hp, if_pos hp]
          have h2' := ch_stab hV hsame (j := 11 - k) hin hp
          rw [show k + (11 - k) = 11 by omega] at h2'
          rw [h2']
        · rw [if_neg hp, if_neg hp]) (fun h => by rw [hch, show k = 11 by omega]) (fun hp => by
        rw [hch]; unfold cX; rw [if_neg hp])
      exact ⟨u2, s1, s2, r6.trans s3, s4⟩
theorem its0_loop {x : Rg} {s0 : Int32} {Q : List Qe} (g : GdR x) (qv : QV x Q) : ∀ (k m i : Nat) (st : St), i + k = Q.length → k < m → Vx st x → Qc st Q → (∀ (j s : Nat) (p : List Nat), j < i → Q[j]? = some (s, p) → sI st 29 s = oneI s) → ∃ u, fX1_play_b25 m s0 (nI i) st = (if x.1 17 = 0 then fX1_play_b74 s0 0 u else fX1_play_b74 s0 1 u) ∧ Vx u x ∧ Qc u Q ∧ Nw u Q 29 oneI ∧ FR [(29, none)] st u := by
  intro k
  have h17 := g.2.2.1
  have hle := qv.le g
  have h64 := p64 g.1
  induction k with
  | zero =>
    intro m i st h1 h2 v qc hd
    obtain ⟨m, rfl⟩ : ∃ j, m = j + 1 := ⟨m - 1, by omega⟩
    refine ⟨st, ?_, v, qc, fun s hs => ?_, FR.rf⟩
    · rw [fX1_play_b25, qc.1, if_pos (by rw [n_le (by omega) (by omega)]; omega), v.2.1.1.2.2.1]
      have hz : (nI (x.1 17) ≤ (0 : Int32)) = (x.1 17 ≤ 0) := n_le (b := 0) (by omega) (by omega)
      simp only [hz]
      by_cases q : x.1 17 = 0
      · rw [if_pos (by omega), if_pos q]
      · rw [if_neg (by omega), if_neg q]
    · obtain ⟨e, he, hee⟩ := List.mem_map.mp hs
      obtain ⟨j, hj⟩ := List.getElem?_of_mem he
      have hjl := (List.getElem?_eq_some_iff.mp hj).1
      exact hd j s e.2 (by omega) (by rw [hj, ← hee])
  | succ k ih =>
    intro m i st h1 h2 v qc hd
    obtain ⟨m, rfl⟩ : ∃ j, m = j + 1 := ⟨m - 1, by omega⟩
    have hi : i < Q.length := by omega
    obtain ⟨s, p, hq⟩ : ∃ s p, Q[i]? = some (s, p) := ⟨Q[i].1, Q[i].2, List.getElem?_eq_getElem hi⟩
    obtain ⟨hC, hin⟩ := qv.in hq
    have h384 := hC.lt g
    rw [fX1_play_b25, qc.1, if_neg (by rw [n_le (by omega) (by omega)]; omega), n_ixb (by omega), decide_eq_true (show i < 384 by omega), chk_t, chk_t, n_toNat (by omega), qc.2 i s p hq, n_ixb (by omega), decide_eq_true h384, chk_t, n_toNat (by omega), one7 (by have := hC.1; omega), n_p1]
    have f1 : FR [(29, none)] st (pI st 29 s (oneI s)) := FR.pI (by rfl) FR.rf
    obtain ⟨u, r1, r2, r3, r4, r5⟩ := ih m (i + 1) (pI st 29 s (oneI s)) (by omega) (by omega) (Vx.g (Or.inl rfl) v) (qc.fr (by rfl) f1) (fun j s1 p1 hj hq1 => by
      rw [sI_pI]
      by_cases c : s1 = s
      · rw [if_pos ⟨rfl, c⟩, c]
      · have hj' : j < i := by
          by_cases e : j = i
          · rw [e, hq] at hq1
            exact absurd (Prod.mk.inj (Option.some.inj hq1)).1.symm c
          · omega
        rw [if_neg (by omega)]; exact hd j s1 p1 hj' hq1)
    exact ⟨u, r1, r2, r3, r4, f1.trans r5⟩
abbrev S_py : List (Nat × Option Nat) := [(19, some 10), (20, none), (21, none), (22, none), (23, none), (24, none), (25, some 10), (25, some 11), (27, none), (28, none), (29, none), (30, none)]
theorem play_ok {x : Rg} {s0 : Nat} {st : St} (g : GdR x) (v : Vx st x) (hC : Cn x s0) : ∃ u, fX1_play (nI s0) st = some (itN x 12 s0, u) ∧ Vx u x ∧ FR S_py st u ∧ sI u 25 11 = if 1 ≤ x.1 17 then cX x s0 11 else -1 := by
  have h384 := hC.lt g
  have f0 : FR S_py st (pI st 25 11 (-1)) := FR.pI (by rfl) FR.rf
  obtain ⟨u, Q, R, ret, e1, v1, b1, q1, f1, hQ, hr⟩ := reach_ok (G := -1) g (Vx.c (v := -1) v) hC
  have hclo : Clo x Q Q.length := by
    rcases hr with ⟨_, _, h⟩ | ⟨t, q, j, _, _, h⟩
    · exact h
    · rw [bf_none g 385 [s0] [(s0, [])] (fun e he => by simp at he; rw [he]; exact hC)] at h
      cases h
  have qc : Qc u Q := ⟨b1.1, fun i s p hq => (b1.2.1 i s p hq).1⟩
  obtain ⟨w, r1, r2, r3, r4, r5⟩ := its0_loop (s0 := nI s0) g q1 Q.length FU 0 u (by omega) (by have := q1.le g; unfold FU; omega) v1 qc (fun j s p hj => by omega)
  have hin : inQ Q s0 := by unfold inQ; rw [hQ]; simp
  have fw : FR S_py st w := (f0.trans (FR.mono (by rfl) f1)).trans (FR.mono (by rfl) r5)
  have e11 : sI w 25 11 = -1 := by rw [r5.i (by rfl), f1.i (by rfl), sI_pI, if_pos ⟨rfl, rfl⟩]
  have hpl : fX1_play (nI s0) st = (if x.1 17 = 0 then fX1_play_b74 (nI s0) 0 w else fX1_play_b74 (nI s0) 1 w) := by
    unfold fX1_play
    rw [e1, Option.bind_some]
    exact r1
  rw [hpl]
  by_cases q : x.1 17 = 0
  · rw [if_pos q, if_neg (by omega)]
    refine ⟨w, ?_, r2, fw, e11⟩
    unfold fX1_play_b74
    rw [show FU = 99999 + 1 from rfl, fX1_play_b79, if_neg (by decide), if_pos rfl, n_ixb (by omega), decide_eq_true h384, chk_t, n_toNat (by omega), r4 s0 hin, it_q0 q]
  · rw [if_neg q, if_pos (by omega)]
    obtain ⟨z, s1, s2, s3, s4⟩ := play_loop g hQ q1 hclo (by omega) 12 FU 0 29 30 true w (by omega) (by unfold FU; omega) (Or.inl ⟨rfl, rfl⟩) r2 r3 r4 (fun h => by cases h) (fun h => by omega) (fun _ => e11)
    refine ⟨z, ?_, s2, fw.trans (FR.mono (by rfl) s3), s4⟩
    unfold fX1_play_b74
    exact s1
theorem st24 : Step24 Inv := by
  rintro w st ⟨A, g, c, m⟩
  have h17 := g.1.2.2.1
  have hpc := pc_le6 g.1
  have h64 := b_lt64 g.1
  have key : (w = 0 ∨ w = 1) → ∃ r st1 st2, fX7_game w st = some (r, st1) ∧ fX8_game w st1 = some (r, st2) ∧ Inv st2 := by
    intro hw
    obtain ⟨u, e1, v1, c1, f1⟩ := tuned g c
    obtain ⟨u2, e2, v2, f2, h11⟩ := play_ok g.1 v1 (Cn_stX g.1)
    have c2 : CV u2 A := CV_v (S := S_py) (by rfl) f2 c1 v2.1 v2.o
    have fS : FR S_vo st u2 := (FR.mono (by rfl) f1 : FR S_vo st u).trans (FR.mono (by rfl) f2)
    have hC : fX7_game w st = if w = 0 then (some (itN A.1 12 (stX A.1), u2)) else (some (sI u2 25 11, u2)) := by
      have h1 : fX7_game w st = fX7_game_b11 w st := by
        unfold fX7_game
        rcases hw with h | h
        · rw [if_pos h]
        · rw [if_neg (by rw [h]; decide), if_pos h]
      rw [h1]
      unfold fX7_game_b11
      rw [e1, Option.bind_some, state_ok g.1 c1.2.1.1, Option.bind_some, e2, Option.bind_some]
    have hsd := stX_d g.1
    have h5 := g.1.2.2.2.2.1
    have htg : tgX A.1 / 6 = A.1.1 0 := by show (A.1.1 0 * 6 + A.1.1 1) / 6 = _; omega
    have hit : itN A.1 12 (tgX A.1) = itN A.1 12 (stX A.1) := it_cn g.1 (by rw [htg, hsd.1]) (fun hn1 => by
      obtain ⟨y1, y2, _⟩ := cn_stX g.1 hn1
      rw [y1, y2]) (by rw [htg]; exact g.1.2.1)
    have z17 : (nI (A.1.1 17) = 0) = (A.1.1 17 = 0) := n_eq (b := 0) (by omega) (by omega)
    rcases hw with rfl | rfl
    · rw [if_pos rfl] at hC
      refine both_q (S := S_vo) (S' := S_gm) (r := itN A.1 12 (stX A.1)) (fc := fun s => fX7_game 0 s) (fm := fun s => fX8_game 0 s) (by rfl) (by rfl) g m ⟨u2, hC, c2, fS⟩ (fun s ms => ?_)
      obtain ⟨v, p1, p2, p3, p4⟩ := game8 (w := 0) g.1 c.low ms.2.1
      refine ⟨v, ?_, MV_xr (by rfl) p4 ms p2, p4⟩
      show fX8_game 0 s = _
      unfold fX8_game
      rw [if_neg (by decide), if_neg (by decide), p1, if_pos rfl, hit]
    · rw [if_neg (by decide), h11] at hC
      have hM : ∀ s, MV s A → fX8_game 1 s = if ¬ 2 ≤ pc (A.1.1 0) then some (-1, s) else if A.1.1 17 = 0 then some (-1, s) else fX8_game_b36 1 s := by
        intro s ms
        unfold fX8_game
        rw [if_neg (by decide), if_pos rfl, inside_ok (x := A.1) h64 (ms.2.1.k (by omega)), Option.bind_some, ms.2.1.k (show 17 < 19 by omega)]
        have hlt : (nI (pc (A.1.1 0)) < (2 : Int32)) = (pc (A.1.1 0) < 2) := n_lt (b := 2) (by omega) (by omega)
        simp only [hlt, z17]
        by_cases q : 2 ≤ pc (A.1.1 0)
        · rw [if_neg (show ¬ pc (A.1.1 0) < 2 by omega), if_neg (show ¬ ¬ 2 ≤ pc (A.1.1 0) by omega)]
        · rw [if_pos (show pc (A.1.1 0) < 2 by omega), if_pos q]
      unfold cX at hC
      rw [hsd.1] at hC
      by_cases q : 2 ≤ pc (A.1.1 0) ∧ 1 ≤ A.1.1 17
      · rw [if_pos q.2, if_pos q.1] at hC
        have hn1 := many_in g.1 (pc2 _ h64 q.1)
        obtain ⟨y1, y2, _⟩ := cn_stX g.1 hn1
        have hch : chN A.1 (itN A.1 11) (tgX A.1) = chN A.1 (itN A.1 11) (stX A.1) := ch_cn g.1 hn1 (by rw [htg, hsd.1]) (by rw [y1, y2])
        refine both_q (S := S_vo) (S' := S_gm) (r := nI (chN A.1 (itN A.1 11) (stX A.1))) (fc := fun s => fX7_game 1 s) (fm := fun s => fX8_game 1 s) (by rfl) (by rfl) g m ⟨u2, hC, c2, fS⟩ (fun s ms => ?_)
        obtain ⟨v, p1, p2, p3, p4⟩ := game8 (w := 1) g.1 c.low ms.2.1
        refine ⟨v, ?_, MV_xr (by rfl) p4 ms p2, p4⟩
        show fX8_game 1 s = _
        rw [hM s ms, if_neg (by simpa using q.1), if_neg (by omega), p1, if_neg (by decide), p3 q.1 q.2, hch]
      · have hCn : fX7_game 1 st = some (-1, u2) := by
          rw [hC]
          by_cases q1 : 1 ≤ A.1.1 17
          · rw [if_pos q1, if_neg (fun h => q ⟨h, q1⟩)]
          · rw [if_neg q1]
        refine both_q (S := S_vo) (S' := []) (r := (-1 : Int32)) (fc := fun s => fX7_game 1 s) (fm := fun s => fX8_game 1 s) (by rfl) (by rfl) g m ⟨u2, hCn, c2, fS⟩ (fun s ms => ⟨s, ?_, ms, FR.rf⟩)
        show fX8_game 1 s = _
        rw [hM s ms]
        by_cases q2 : 2 ≤ pc (A.1.1 0)
        · rw [if_neg (by simpa using q2), if_pos (by omega)]
        · rw [if_pos q2]
  by_cases h0 : w = 0
  · exact key (Or.inl h0)
  · by_cases h1 : w = 1
    · exact key (Or.inr h1)
    · refine both_n (r := (-1 : Int32)) (fc := fun s => fX7_game w s) (fm := fun s => fX8_game w s) g c m ?_ (fun s ms => ?_)
      · show fX7_game w st = _
        unfold fX7_game
        rw [if_neg h0, if_neg h1]
      · show fX8_game w s = _
        unfold fX8_game
        have : fX8_lies w 0 1 = 0 := by
          rcases n_cases w with h | ⟨k, hk, rfl⟩
          · exact n_liesn (lo := 0) h (by omega)
          · have k0 : k ≠ 0 := fun e => h0 (by rw [e]; rfl)
            have k1 : k ≠ 1 := fun e => h1 (by rw [e]; rfl)
            rw [show (0 : Int32) = nI 0 from rfl, show (1 : Int32) = nI 1 from rfl, n_lies hk (by omega) (by omega), if_neg (by omega)]; rfl
        rw [this, if_pos rfl]
