section LawStart
variable {E : Ev} {wt : St → Prop} {x : Cx} {own : String} {cc : ByteArray} {nL : Nat} {cs : Nat × Nat} {st : St} {pc : Nat} {lv lv' : List (Nat × Value)} {stk : List Value}
theorem g_newRm {k N idx : Nat} {C : String} {T : u_T} (ad c1 s1 : Nat) (hsn : sn st = ad) (ok : ClsOK k C T N) (hcl : Cond.classLink own idx C ∈ gtbl) (hin : Cond.instantiable C N ∈ gtbl) (hini : Cond.initialized C ∈ gtbl) (hdf : ∀ j, j < N → dfl (tyOf k j) = true) (hR : xR x = room_1) (h1 : cs.1 + 1 = c1) (h3 : cs.2 + N = s1) (hc : c1 ≤ 600000 ∧ s1 ≤ 7302250) (ht : xt x) (hx : wt st → wt (alc st k 0)) (d : decode cc pc = .ok (.new idx, 3)) (kk : G E wt x own cc nL (c1, s1) (alc st k 0) (pc + 3) lv (.ref (eB E + ad) :: stk)) : G E wt x own cc nL cs st pc lv stk := by
  subst hsn
  intro C0 w H locs ls hH hz hS hl
  subst h1; subst h3
  have hfs : ∀ j, j < N → defaultValue (tyOf k j) = vp_V (flds (eB E) (alc st k 0) (sn st) k) j := by
    intro j hj
    rw [dfl_slot (bs := eB E) (st := st) (k := k) (j := j) (hdf j hj)]
    have hj2 : j < nf k := by rw [ok.2.2.2.1]; exact hj
    simp [vp_V, flds, hj2, fty]
  refine va_new (ci := k) (fs := flds (eB E) (alc st k 0) (sn st) k) (C := C) (T := T) (N := N) C0.ex C0.cb C0.ts ok.2.1 (tyOf k) ok.2.2.2.2.2.1 C0.ow (C0.ts _ hcl) (C0.ts _ hin) (C0.ts _ hini) C0.K hH.1 (wd_D E st) hS C0.A ok.1 hfs (by rw [hR]; exact hc.1) (by rw [hR]; exact hc.2) d (fun q H1 hP1 hD1 hS1 => ?_)
  refine W_size fun hb => ?_
  have e1 := hz ht
  have e2 := hH.2
  have hq := new_q hD1 hP1 (by omega)
  subst hq
  have he : ent E (alc st k 0) (sn st) = .inr (k, flds (eB E) (alc st k 0) (sn st) k) := by
    have hk : sK (alc st k 0) (sn st) = k := alc_new.2.1
    unfold ent
    rw [hk, if_pos ok.2.2.1]
  rw [← he, ← wd_alc] at hP1
  have lo := hold_lo hP1 (Nat.succ_pos _)
  have hs2 : sn (alc st k 0) = sn st + 1 := rfl
  exact kk C0 (hx w) H1 locs ls ⟨hP1, by omega⟩ (fun _ => by simp only; omega) hS1 hl
theorem g_callIRm {y : MethodName} {bytes : ByteArray} {maxL n idx h mc ms b : Nat} {As rest : List Value} {u0 : St} (c1 s1 : Nat) (ok : MOK y bytes maxL none n) (hy : y.name = "<init>") (w1 : Cond.methodLink own idx y ∈ gtbl) (w2 : Cond.instanceMethod y ∈ gtbl) (hR : xR x = room_1) (hh : h ≤ 1000) (hM : CM (xl x) E wt y bytes maxL none h mc ms (.ref (eB E + b) :: As) st none u0) (hn : As.length = n) (hstk : stk = As.reverse ++ .ref (eB E + b) :: rest) (hroom : (rest.map fun v => v.category).sum ≤ 8) (e1 : cs.1 + mc = c1) (e2 : cs.2 + ms = s1) (hc : c1 ≤ 600000 ∧ s1 ≤ 7302250) (hg : sn u0 = sn st + mc) (d : decode cc pc = .ok (.invokespecial idx, 3)) (kk : G E wt x own cc nL (c1, s1) u0 (pc + 3) lv rest) : G E wt x own cc nL cs st pc lv stk := by
  intro C0 w H locs ls hH hz hS hl
  subst hstk; subst e1; subst e2
  obtain ⟨k1, k2, k3, k4, k5⟩ := ok
  have hRm : (rmh h mc ms).frames + 1 ≤ (xR x).frames ∧ 8 + (maxL + 11) + (rmh h mc ms).locals ≤ (xR x).locals := by
    rw [hR]; simp only [rmh, room_1]; omega
  have hf : cs.1 + mc ≤ (xR x).cells ∧ cs.2 + ms ≤ (xR x).slots := by rw [hR]; exact hc
  have cw : CallB (xR x) (xs x) (xa x) own idx y bytes maxL none (wsm y bytes maxL none) (rmh h mc ms) mc ms n ∧ y.name = "<init>" ∧ (Cond.instanceMethod y).before (xa x) (xs x) = true := ⟨callB_of n C0.ts (wsm_good k1) rfl rfl rfl (C0.ts _ k2) (C0.ts _ w1) k3 hRm, hy, C0.ts _ w2⟩
  have hp : PreS (xs x) H (PcM E wt (.ref (eB E + b) :: As) st) (.ref (eB E + b) :: As) := ⟨blind, pre_go C0.ew hH w hS⟩
  refine run_go (va_runI ⟨C0.ex, C0.cb, C0.ml, C0.ow, C0.ts⟩ hM cw hp rfl hn hl.1 rfl (lv_room hroom) d hf) hS (fun H1 locs1 hH1 hw1 hz1 hS1 => ?_)
  refine kk C0 hw1 H1 locs1 ls hH1 (fun ht => ?_) hS1 hl
  have e1 := hz ht
  have e2 := hH.2
  have e3 := hH1.2
  simp only
  omega
end LawStart
theorem law_ix {i L : Nat} (h : i + 6 ≤ L) (hL : L ≤ 3072) : LawIx (nI i) L ∧ vp_in (nI i) L := by
  have g : ∀ k : Nat, k < 6 → vp_in (nI i + nI k) L := fun k hk => by rw [nI_add]; exact vp_in_nI (by omega) (by omega)
  exact ⟨⟨g 1 (by decide), g 2 (by decide), g 3 (by decide), g 4 (by decide), g 5 (by decide)⟩, vp_in_nI (by omega) (by omega)⟩
theorem law_go {i L : Nat} (hi : i ≤ 4000) (hL : L ≤ 3072) (h : ¬ nI L - (6 : Int32) < nI i) : i + 6 ≤ L := by
  have e : (nI L - nI 6).toInt = (L : Int) - 6 := pk_sub_toInt (by omega) (by decide)
  have e2 : (nI i).toInt = (i : Int) := nI_toInt (by omega)
  have h2 : ¬ (nI L - nI 6 < nI i) := h
  rw [Int32.lt_iff_toInt_lt, e, e2] at h2
  omega
theorem law_stop {i L : Nat} (hi : i ≤ 4000) (hL : L ≤ 3072) (h : L ≤ i) : nI L - (6 : Int32) < nI i := by
  have e : (nI L - nI 6).toInt = (L : Int) - 6 := pk_sub_toInt (by omega) (by decide)
  have e2 : (nI i).toInt = (i : Int) := nI_toInt (by omega)
  show nI L - nI 6 < nI i
  rw [Int32.lt_iff_toInt_lt, e, e2]
  omega

set_option maxHeartbeats 4000000 in
set_option maxRecDepth 100000 in
/-- THE LAW'S LOOP -/
theorem law_loop {E : Ev} {x : Cx} {b L : Nat} {ys : Nat → Int32} {Inv : St → Prop} (hs : StepOK Inv) (hl : Lw E x b L ys) (hL : L ≤ 3072) (hend : ∀ (c sl : Nat) (st : St) (x3 : Int32), c ≤ 600000 → sl ≤ 7302250 → G E WT x RL cL_law 4 (c, sl) st 1073 (LV E b x3) []) :
    ∀ (n i c sl : Nat) (st : St), i ≤ L + 5 → L ≤ i + 6 * n → c + 6 * n ≤ 600000 → sl + 882 * n ≤ 7302250 → Inv st → G E WT x RL cL_law 4 (c, sl) st 18 (LV E b (nI i)) [] := by
  intro n
  induction n with
  | zero =>
    intro i c sl st hi hn hc hsl hI
    refine g_iload_n rfl 3 rfl dL_law_18 ?_
    refine g_aload_n rfl 0 rfl dL_law_19 ?_
    refine g_slen0 hl dL_law_20 ?_
    refine g_bipush (6 : Int32) (by decide) dL_law_21 ?_
    refine g_isub dL_law_23 ?_
    refine g_icmp_gt 1073 (by decide) dL_law_24 (fun _ => hend c sl st _ (by omega) (by omega)) (fun h => absurd (law_stop (by omega) hL (by omega)) h)
  | succ n ih =>
    intro i c sl st hi hn hc hsl hI
    refine g_iload_n rfl 3 rfl dL_law_18 ?_
    refine g_aload_n rfl 0 rfl dL_law_19 ?_
    refine g_slen0 hl dL_law_20 ?_
    refine g_bipush (6 : Int32) (by decide) dL_law_21 ?_
    refine g_isub dL_law_23 ?_
    refine g_icmp_gt 1073 (by decide) dL_law_24 (fun _ => hend c sl st _ (by omega) (by omega)) (fun h => ?_)
    have hgo := law_go (by omega) hL h
    have hix := law_ix hgo hL
    refine g_aload_n rfl 0 rfl dL_law_27 ?_
    refine g_iload_n rfl 3 rfl dL_law_28 ?_
    refine g_sld hl hix.2 dL_law_29 ?_
    refine g_bipush (63 : Int32) (by decide) dL_law_30 ?_
    refine g_iand dL_law_32 ?_
    generalize ys (nI i).toNatClampNeg &&& 63 = v
    have hb : c + 6 ≤ 600000 ∧ sl + 882 ≤ 7302250 := by omega
    have tail : ∀ (c2 s2 : Nat) (st2 : St), c2 ≤ c + 6 → s2 ≤ sl + 882 → Inv st2 → G E WT x RL cL_law 4 (c2, s2) st2 1067 (LV E b (nI i)) [] := by
      intro c2 s2 st2 h1 h2 hI2
      refine g_iinc (nI (i + 6)) [(3, .int (nI (i + 6))), (0, .ref b), (1, .ref (eB E + 0)), (2, .ref (eB E + 38))] 3 rfl (show nI i + Int32.ofInt 6 = nI (i + 6) from nI_add i 6) (by decide) rfl dL_law_1067 ?_
      refine g_goto 18 (by decide) dL_law_1070 ?_
      refine g_lvs (lv' := LV E b (nI (i + 6))) [1, 2, 3, 0] rfl ?_
      exact ih (i + 6) c2 s2 st2 (by omega) (by omega) (by omega) (by omega) hI2
    by_cases g0 : v = (0 : Int32)
    · refine g_tableIn 151 184 dL_law_33 (by rw [g0]; decide) (by rw [g0]; decide) (by rw [g0]; decide) (by decide) ?_
      exact lawc_0 hs.1 hl hix.1 hI hb tail
    by_cases g1 : v = (1 : Int32)
    · refine g_tableIn 174 207 dL_law_33 (by rw [g1]; decide) (by rw [g1]; decide) (by rw [g1]; decide) (by decide) ?_
      exact lawc_1 hs.2.1 hl hix.1 hI hb tail
    by_cases g2 : v = (2 : Int32)
    · refine g_tableIn 207 240 dL_law_33 (by rw [g2]; decide) (by rw [g2]; decide) (by rw [g2]; decide) (by decide) ?_
      exact lawc_2 hs.2.2.1 hl hix.1 hI hb tail
    by_cases g3 : v = (3 : Int32)
    · refine g_tableIn 230 263 dL_law_33 (by rw [g3]; decide) (by rw [g3]; decide) (by rw [g3]; decide) (by decide) ?_
      exact lawc_3 hs.2.2.2.1 hl hix.1 hI hb tail
    by_cases g4 : v = (4 : Int32)
    · refine g_tableIn 253 286 dL_law_33 (by rw [g4]; decide) (by rw [g4]; decide) (by rw [g4]; decide) (by decide) ?_
      exact lawc_4 hs.2.2.2.2.1 hl hix.1 hI hb tail
    by_cases g5 : v = (5 : Int32)
    · refine g_tableIn 306 339 dL_law_33 (by rw [g5]; decide) (by rw [g5]; decide) (by rw [g5]; decide) (by decide) ?_
      exact lawc_5 hs.2.2.2.2.2.1 hl hix.1 hI hb tail
    by_cases g6 : v = (6 : Int32)
    · refine g_tableIn 339 372 dL_law_33 (by rw [g6]; decide) (by rw [g6]; decide) (by rw [g6]; decide) (by decide) ?_
      exact lawc_6 hs.2.2.2.2.2.2.1 hl hix.1 hI hb tail
    by_cases g7 : v = (7 : Int32)
    · refine g_tableIn 402 435 dL_law_33 (by rw [g7]; decide) (by rw [g7]; decide) (by rw [g7]; decide) (by decide) ?_
      exact lawc_7 hs.2.2.2.2.2.2.2.1 hl hix.1 hI hb tail
    by_cases g8 : v = (8 : Int32)
    · refine g_tableIn 425 458 dL_law_33 (by rw [g8]; decide) (by rw [g8]; decide) (by rw [g8]; decide) (by decide) ?_
      exact lawc_8 hs.2.2.2.2.2.2.2.2.1 hl hix.1 hI hb tail
    by_cases g9 : v = (9 : Int32)
    · refine g_tableIn 438 471 dL_law_33 (by rw [g9]; decide) (by rw [g9]; decide) (by rw [g9]; decide) (by decide) ?_
      exact lawc_9 hs.2.2.2.2.2.2.2.2.2.1 hl hix.1 hI hb tail
    by_cases g10 : v = (10 : Int32)
    · refine g_tableIn 451 484 dL_law_33 (by rw [g10]; decide) (by rw [g10]; decide) (by rw [g10]; decide) (by decide) ?_
      exact lawc_10 hs.2.2.2.2.2.2.2.2.2.2.1 hl hix.1 hI hb tail
    by_cases g11 : v = (11 : Int32)
    · refine g_tableIn 464 497 dL_law_33 (by rw [g11]; decide) (by rw [g11]; decide) (by rw [g11]; decide) (by decide) ?_
      exact lawc_11 hs.2.2.2.2.2.2.2.2.2.2.2.1 hl hix.1 hI hb tail
    by_cases g12 : v = (12 : Int32)
    · refine g_tableIn 477 510 dL_law_33 (by rw [g12]; decide) (by rw [g12]; decide) (by rw [g12]; decide) (by decide) ?_
      exact lawc_12 hs.2.2.2.2.2.2.2.2.2.2.2.2.1 hl hix.1 hI hb tail
    by_cases g13 : v = (13 : Int32)
    · refine g_tableIn 490 523 dL_law_33 (by rw [g13]; decide) (by rw [g13]; decide) (by rw [g13]; decide) (by decide) ?_
      exact lawc_13 hs.2.2.2.2.2.2.2.2.2.2.2.2.2.1 hl hix.1 hI hb tail
    by_cases g14 : v = (14 : Int32)
    · refine g_tableIn 503 536 dL_law_33 (by rw [g14]; decide) (by rw [g14]; decide) (by rw [g14]; decide) (by decide) ?_
      exact lawc_14 hs.2.2.2.2.2.2.2.2.2.2.2.2.2.2.1 hl hix.1 hI hb tail
    by_cases g15 : v = (15 : Int32)
    · refine g_tableIn 526 559 dL_law_33 (by rw [g15]; decide) (by rw [g15]; decide) (by rw [g15]; decide) (by decide) ?_
      exact lawc_15 hs.2.2.2.2.2.2.2.2.2.2.2.2.2.2.2.1 hl hix.1 hI hb tail
    by_cases g16 : v = (16 : Int32)
    · refine g_tableIn 549 582 dL_law_33 (by rw [g16]; decide) (by rw [g16]; decide) (by rw [g16]; decide) (by decide) ?_
      exact lawc_16 hs.2.2.2.2.2.2.2.2.2.2.2.2.2.2.2.2.1 hl hix.1 hI hb tail
    by_cases g17 : v = (17 : Int32)
    · refine g_tableIn 582 615 dL_law_33 (by rw [g17]; decide) (by rw [g17]; decide) (by rw [g17]; decide) (by decide) ?_
      exact lawc_17 hs.2.2.2.2.2.2.2.2.2.2.2.2.2.2.2.2.2.1 hl hix.1 hI hb tail
    by_cases g18 : v = (18 : Int32)
    · refine g_tableIn 605 638 dL_law_33 (by rw [g18]; decide) (by rw [g18]; decide) (by rw [g18]; decide) (by decide) ?_
      exact lawc_18 hs.2.2.2.2.2.2.2.2.2.2.2.2.2.2.2.2.2.2.1 hl hix.1 hI hb tail
    by_cases g19 : v = (19 : Int32)
    · refine g_tableIn 628 661 dL_law_33 (by rw [g19]; decide) (by rw [g19]; decide) (by rw [g19]; decide) (by decide) ?_
      exact lawc_19 hs.2.2.2.2.2.2.2.2.2.2.2.2.2.2.2.2.2.2.2.1 hl hix.1 hI hb tail
    by_cases g20 : v = (20 : Int32)
    · refine g_tableIn 641 674 dL_law_33 (by rw [g20]; decide) (by rw [g20]; decide) (by rw [g20]; decide) (by decide) ?_
      exact lawc_20 hs.2.2.2.2.2.2.2.2.2.2.2.2.2.2.2.2.2.2.2.2.1 hl hix.1 hI hb tail
    by_cases g21 : v = (21 : Int32)
    · refine g_tableIn 654 687 dL_law_33 (by rw [g21]; decide) (by rw [g21]; decide) (by rw [g21]; decide) (by decide) ?_
      exact lawc_21 hs.2.2.2.2.2.2.2.2.2.2.2.2.2.2.2.2.2.2.2.2.2.1 hl hix.1 hI hb tail
    by_cases g22 : v = (22 : Int32)
    · refine g_tableIn 687 720 dL_law_33 (by rw [g22]; decide) (by rw [g22]; decide) (by rw [g22]; decide) (by decide) ?_
      exact lawc_22 hs.2.2.2.2.2.2.2.2.2.2.2.2.2.2.2.2.2.2.2.2.2.2.1 hl hix.1 hI hb tail
    by_cases g23 : v = (23 : Int32)
    · refine g_tableIn 720 753 dL_law_33 (by rw [g23]; decide) (by rw [g23]; decide) (by rw [g23]; decide) (by decide) ?_
      exact lawc_23 hs.2.2.2.2.2.2.2.2.2.2.2.2.2.2.2.2.2.2.2.2.2.2.2.1 hl hix.1 hI hb tail
    by_cases g24 : v = (24 : Int32)
    · refine g_tableIn 753 786 dL_law_33 (by rw [g24]; decide) (by rw [g24]; decide) (by rw [g24]; decide) (by decide) ?_
      exact lawc_24 hs.2.2.2.2.2.2.2.2.2.2.2.2.2.2.2.2.2.2.2.2.2.2.2.2.1 hl hix.1 hI hb tail
    by_cases g25 : v = (25 : Int32)
    · refine g_tableIn 776 809 dL_law_33 (by rw [g25]; decide) (by rw [g25]; decide) (by rw [g25]; decide) (by decide) ?_
      exact lawc_25 hs.2.2.2.2.2.2.2.2.2.2.2.2.2.2.2.2.2.2.2.2.2.2.2.2.2.1 hl hix.1 hI hb tail
    by_cases g26 : v = (26 : Int32)
    · refine g_tableIn 810 843 dL_law_33 (by rw [g26]; decide) (by rw [g26]; decide) (by rw [g26]; decide) (by decide) ?_
      exact lawc_26 hs.2.2.2.2.2.2.2.2.2.2.2.2.2.2.2.2.2.2.2.2.2.2.2.2.2.2.1 hl hix.1 hI hb tail
    by_cases g27 : v = (27 : Int32)
    · refine g_tableIn 853 886 dL_law_33 (by rw [g27]; decide) (by rw [g27]; decide) (by rw [g27]; decide) (by decide) ?_
      exact lawc_27 hs.2.2.2.2.2.2.2.2.2.2.2.2.2.2.2.2.2.2.2.2.2.2.2.2.2.2.2.1 hl hix.1 hI hb tail
    by_cases g28 : v = (28 : Int32)
    · refine g_tableIn 886 919 dL_law_33 (by rw [g28]; decide) (by rw [g28]; decide) (by rw [g28]; decide) (by decide) ?_
      exact lawc_28 hs.2.2.2.2.2.2.2.2.2.2.2.2.2.2.2.2.2.2.2.2.2.2.2.2.2.2.2.2.1 hl hix.1 hI hb tail
    by_cases g29 : v = (29 : Int32)
    · refine g_tableIn 919 952 dL_law_33 (by rw [g29]; decide) (by rw [g29]; decide) (by rw [g29]; decide) (by decide) ?_
      exact lawc_29 hs.2.2.2.2.2.2.2.2.2.2.2.2.2.2.2.2.2.2.2.2.2.2.2.2.2.2.2.2.2.1 hl hix.1 hI hb tail
    by_cases g30 : v = (30 : Int32)
    · refine g_tableIn 952 985 dL_law_33 (by rw [g30]; decide) (by rw [g30]; decide) (by rw [g30]; decide) (by decide) ?_
      exact lawc_30 hs.2.2.2.2.2.2.2.2.2.2.2.2.2.2.2.2.2.2.2.2.2.2.2.2.2.2.2.2.2.2.1 hl hix.1 hI hb tail
    by_cases g31 : v = (31 : Int32)
    · refine g_tableIn 975 1008 dL_law_33 (by rw [g31]; decide) (by rw [g31]; decide) (by rw [g31]; decide) (by decide) ?_
      exact lawc_31 hs.2.2.2.2.2.2.2.2.2.2.2.2.2.2.2.2.2.2.2.2.2.2.2.2.2.2.2.2.2.2.2.1 hl hix.1 hI hb tail
    by_cases g32 : v = (32 : Int32)
    · refine g_tableIn 998 1031 dL_law_33 (by rw [g32]; decide) (by rw [g32]; decide) (by rw [g32]; decide) (by decide) ?_
      exact lawc_32 hs.2.2.2.2.2.2.2.2.2.2.2.2.2.2.2.2.2.2.2.2.2.2.2.2.2.2.2.2.2.2.2.2.1 hl hix.1 hI hb tail
    by_cases g33 : v = (33 : Int32)
    · refine g_tableIn 1021 1054 dL_law_33 (by rw [g33]; decide) (by rw [g33]; decide) (by rw [g33]; decide) (by decide) ?_
      exact lawc_33 hs.2.2.2.2.2.2.2.2.2.2.2.2.2.2.2.2.2.2.2.2.2.2.2.2.2.2.2.2.2.2.2.2.2 hl hix.1 hI hb tail
    refine g_tableOut 1067 dL_law_33 (tab_out [(0 : Int32), (1 : Int32), (2 : Int32), (3 : Int32), (4 : Int32), (5 : Int32), (6 : Int32), (7 : Int32), (8 : Int32), (9 : Int32), (10 : Int32), (11 : Int32), (12 : Int32), (13 : Int32), (14 : Int32), (15 : Int32), (16 : Int32), (17 : Int32), (18 : Int32), (19 : Int32), (20 : Int32), (21 : Int32), (22 : Int32), (23 : Int32), (24 : Int32), (25 : Int32), (26 : Int32), (27 : Int32), (28 : Int32), (29 : Int32), (30 : Int32), (31 : Int32), (32 : Int32), (33 : Int32)] 34 (by decide) (by simp only [List.forall_mem_cons]; exact ⟨g0, g1, g2, g3, g4, g5, g6, g7, g8, g9, g10, g11, g12, g13, g14, g15, g16, g17, g18, g19, g20, g21, g22, g23, g24, g25, g26, g27, g28, g29, g30, g31, g32, g33, fun _ h => nomatch h⟩) (by decide)) (by decide) ?_
    exact tail c sl st (by omega) (by omega) hI
set_option maxHeartbeats 4000000 in
set_option maxRecDepth 100000 in
theorem law_end {E : Ev} {x : Cx} {b c sl : Nat} {st : St} {x3 : Int32} (hR : xR x = room_1) (hQ : xQ x = lw_Z (xb x) #[Value.ref b] (xs x)) (ha : xa x = #[Value.ref b]) (hE : eB E = (xs x).heap.size) (hr : (xM x).sig.returnType = ret) (hc : c ≤ 600000) (hsl : sl ≤ 7302250) : G E WT x RL cL_law 4 (c, sl) st 1073 (LV E b x3) [] := by
  refine g_iconst (1 : Int32) (by decide) dL_law_1073 ?_
  intro C w H locs ls hH hz hS hl
  refine va_forget (fun q hq => by have := hS.2.2 q hq; unfold eA at this; rw [hE] at this; exact this) ?_
  refine W.widen (k := 600000) (n := 7302250) hc hsl ?_
  rw [hQ, ha, hR]
  exact lw_ret C.ex C.cb hr C.lk dL_law_1074
set_option maxHeartbeats 4000000 in
set_option maxRecDepth 100000 in
/-- THE LAW, from its entry, if the steps are so -/
theorem law_all {Inv : St → Prop} (h0 : Inv stI) (hs : StepOK Inv) {p : Program} {e : Env} {s : State} {m : MethodId} {below : List Frame} {meth : Method} {c : Code} (l : Launch) {b L : Nat} {ys : Nat → Int32} (hL : L ≤ 3072) (C0 : lw_At p s m meth c b L ys) : W p l e room_1 s m #[Value.ref b] below meth c s.heap [] 0 0 (lw_Z below #[Value.ref b] s) (entryFrame m ([Value.ref b] : List Value).toArray 4) := by
  obtain ⟨E, hE, hEw⟩ := ew_start C0
  obtain ⟨hx, hb, hr, hml, hown, hts, hX, hbl, hlocks, hgv⟩ := C0
  have htg : ∀ w ∈ gtbl, w.before #[Value.ref b] s = true := fun w hw => hts w (gtbl_in w hw)
  have hl := lv_entry ([.ref b]) (n := 4) (Nat.le_of_ble_eq_true rfl)
  rw [lg_entry_eq]
  generalize (lg_sl ([.ref b]) ++ List.replicate (4 - (lg_sl ([.ref b])).length) Slot.unset).toArray = ls at hl ⊢
  have hl : lv_has ls 4 [(0, .ref b)] := hl
  have hH : Hold E st00 s.heap := ⟨fun k q h => by simp [wd, st00, sn] at h, by rw [hE]; rfl⟩
  have key : ∀ x : Cx, x = (p, l, e, room_1, s, m, #[Value.ref b], below, meth, c, lw_Z below #[Value.ref b] s, True) → G E Wn x RL cL_law 4 (0, 0) st00 0 [(0, .ref b)] [] := by
    intro x hxe
    have hR : xR x = room_1 := by rw [hxe]
    have ht : xt x := by rw [hxe]; trivial
    refine g_newRm 0 1 15 (by decide) cok7 tw1_18 tw1_19 tw1_1 (by decide +kernel) hR rfl rfl ⟨by decide, by decide⟩ ht (fun _ => trivial) dL_law_0 ?_
    refine g_dup rfl dL_law_3 ?_
    refine g_callIRm (As := []) (rest := [.ref (eB E + 0)]) 38 9124 mok_X7_init rfl tw1_20 tw1_21 hR (by decide) kX7_init rfl rfl (Nat.le_of_ble_eq_true rfl) rfl rfl ⟨by decide, by decide⟩ (by decide +kernel) dL_law_4 ?_
    refine g_astore_n rfl [(1, .ref (eB E + 0)), (0, .ref b)] (by decide) rfl dL_law_7 ?_
    refine g_newRm 38 39 9183 (by decide +kernel) cok8 tw4_169 tw4_170 tw1_10 (by decide +kernel) hR rfl rfl ⟨by decide, by decide⟩ ht (fun _ => trivial) dL_law_8 ?_
    refine g_dup rfl dL_law_11 ?_
    refine g_callIRm (As := []) (rest := [.ref (eB E + 38)]) 65 33405 mok_X8_init rfl tw4_171 tw4_172 hR (by decide) kX8_init rfl rfl (Nat.le_of_ble_eq_true rfl) rfl rfl ⟨by decide, by decide⟩ (by decide +kernel) dL_law_12 ?_
    refine g_astore_n rfl [(2, .ref (eB E + 38)), (1, .ref (eB E + 0)), (0, .ref b)] (by decide) rfl dL_law_15 ?_
    refine g_iconst (0 : Int32) (by decide) dL_law_16 ?_
    refine g_istore_n rfl [(3, .int (0 : Int32)), (2, .ref (eB E + 38)), (1, .ref (eB E + 0)), (0, .ref b)] (by decide) rfl dL_law_17 ?_
    refine g_lift wt_stI ?_
    refine g_widen 65 33405 ht (by decide) (by decide) (fun y hy => ?_)
    refine g_lvs (lv' := LV E b (nI 0)) [3, 2, 1, 0] rfl ?_
    have hlw : Lw E y b L ys := by
      rw [hy, hxe]
      exact ⟨rfl, hX, hbl, by unfold eA; rw [hE]; exact Nat.not_le.mpr hbl, fun h => h⟩
    refine law_loop hs hlw hL (fun c2 sl2 st2 x3 h1 h2 => law_end (by rw [hy, hxe]) (by rw [hy, hxe]) (by rw [hy, hxe]) (by rw [hE, hy, hxe]) (by rw [hy, hxe]; exact hr) h1 h2) 512 0 65 33405 stI (by omega) (by omega) (by decide) (by decide) h0
  exact key _ rfl ⟨hx, hb, hml, hown, htg, hEw, hlocks, by rw [hE]; exact Nat.le_refl _⟩ trivial s.heap [] ls hH (fun _ => rfl) va_S.rf hl

