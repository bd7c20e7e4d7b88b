theorem pI_ob {st : St} {a j k b : Nat} {v : Int32} (h : Obj st k b) : Obj (pI st a j v) k b := h
theorem pI_ar {st : St} {a j k n b : Nat} {v : Int32} (h : Arr st k n b) : Arr (pI st a j v) k n b := h
theorem pR_ob {st : St} {a j k b : Nat} {v : Option Nat} (h : Obj st k b) : Obj (pR st a j v) k b := h
theorem pR_ar {st : St} {a j k n b : Nat} {v : Option Nat} (h : Arr st k n b) : Arr (pR st a j v) k n b := h
section R10
variable {E : Ev} {wt : St → Prop} {x : Cx} {own : String} {cc : ByteArray} {nL : Nat} {cs : Nat × Nat} {st : St} {pc : Nat} {lv lv' : List (Nat × Value)} {stk : List Value}
theorem g_newL {k N idx h2 c2 s2 : Nat} {C : String} {T : u_T} (ad c1 s1 : Nat) (hs : sn st = ad) (ok : ClsOK k C T N) (hcl : Cond.classLink own idx C ∈ gtbl) (hin : Cond.instantiable C N ∈ gtbl) (hini : Cond.initialized C ∈ gtbl) (hdf : ∀ j, j < N → dfl (tyOf k j) = true) (hR : xR x = rmh h2 c2 s2) (h1 : cs.1 + 1 = c1) (h3 : cs.2 + N = s1) (hc : c1 ≤ c2 ∧ s1 ≤ s2) (ht : xt x) (hx : wt st → wt (alc st k 0)) (d : decode cc pc = .ok (.new idx, 3)) (kk : G E wt x own cc nL (c1, s1) (alc st k 0) (pc + 3) lv (.ref (eB E + ad) :: stk)) : G E wt x own cc nL cs st pc lv stk := by
  subst hs; exact g_new c1 s1 ok hcl hin hini hdf hR h1 h3 hc ht hx d kk
theorem g_newaL_byte {h2 c2 s2 : Nat} {i : Int32} (ad n c1 s1 : Nat) (hs : sn st = ad) (hi : ¬ i < 0) (hn : i.toNatClampNeg = n) (hb : n ≤ 60000) (hR : xR x = rmh h2 c2 s2) (h1 : cs.1 + 1 = c1) (h3 : cs.2 + n = s1) (hc : c1 ≤ c2 ∧ s1 ≤ s2) (ht : xt x) (hx : wt st → wt (alc st 9 n)) (d : decode cc pc = .ok (.newarray .byte, 2)) (kk : G E wt x own cc nL (c1, s1) (alc st 9 n) (pc + 2) lv (.ref (eB E + ad) :: stk)) : G E wt x own cc nL cs st pc lv (.int i :: stk) := by
  subst hs; exact g_newa_byte c1 s1 hi hn hb hR h1 h3 hc ht hx d kk
theorem g_newaL_int {h2 c2 s2 : Nat} {i : Int32} (ad n c1 s1 : Nat) (hs : sn st = ad) (hi : ¬ i < 0) (hn : i.toNatClampNeg = n) (hb : n ≤ 60000) (hR : xR x = rmh h2 c2 s2) (h1 : cs.1 + 1 = c1) (h3 : cs.2 + n = s1) (hc : c1 ≤ c2 ∧ s1 ≤ s2) (ht : xt x) (hx : wt st → wt (alc st 10 n)) (d : decode cc pc = .ok (.newarray .int, 2)) (kk : G E wt x own cc nL (c1, s1) (alc st 10 n) (pc + 2) lv (.ref (eB E + ad) :: stk)) : G E wt x own cc nL cs st pc lv (.int i :: stk) := by
  subst hs; exact g_newa_int c1 s1 hi hn hb hR h1 h3 hc ht hx d kk
theorem g_newaL_long {h2 c2 s2 : Nat} {i : Int32} (ad n c1 s1 : Nat) (hs : sn st = ad) (hi : ¬ i < 0) (hn : i.toNatClampNeg = n) (hb : n ≤ 60000) (hR : xR x = rmh h2 c2 s2) (h1 : cs.1 + 1 = c1) (h3 : cs.2 + n = s1) (hc : c1 ≤ c2 ∧ s1 ≤ s2) (ht : xt x) (hx : wt st → wt (alc st 11 n)) (d : decode cc pc = .ok (.newarray .long, 2)) (kk : G E wt x own cc nL (c1, s1) (alc st 11 n) (pc + 2) lv (.ref (eB E + ad) :: stk)) : G E wt x own cc nL cs st pc lv (.int i :: stk) := by
  subst hs; exact g_newa_long c1 s1 hi hn hb hR h1 h3 hc ht hx d kk
theorem g_newaL_boolean {h2 c2 s2 : Nat} {i : Int32} (ad n c1 s1 : Nat) (hs : sn st = ad) (hi : ¬ i < 0) (hn : i.toNatClampNeg = n) (hb : n ≤ 60000) (hR : xR x = rmh h2 c2 s2) (h1 : cs.1 + 1 = c1) (h3 : cs.2 + n = s1) (hc : c1 ≤ c2 ∧ s1 ≤ s2) (ht : xt x) (hx : wt st → wt (alc st 12 n)) (d : decode cc pc = .ok (.newarray .boolean, 2)) (kk : G E wt x own cc nL (c1, s1) (alc st 12 n) (pc + 2) lv (.ref (eB E + ad) :: stk)) : G E wt x own cc nL cs st pc lv (.int i :: stk) := by
  subst hs; exact g_newa_boolean c1 s1 hi hn hb hR h1 h3 hc ht hx d kk
theorem g_anewaLG {h2 c2 s2 idx : Nat} {i : Int32} (ad n c1 s1 : Nat) (hs : sn st = ad) (hcl : Cond.classLink own idx RX4 ∈ gtbl) (hi : ¬ i < 0) (hn : i.toNatClampNeg = n) (hb : n ≤ 60000) (hR : xR x = rmh h2 c2 s2) (h1 : cs.1 + 1 = c1) (h3 : cs.2 + n = s1) (hc : c1 ≤ c2 ∧ s1 ≤ s2) (ht : xt x) (hx : wt st → wt (alc st 13 n)) (d : decode cc pc = .ok (.anewarray idx, 3)) (kk : G E wt x own cc nL (c1, s1) (alc st 13 n) (pc + 3) lv (.ref (eB E + ad) :: stk)) : G E wt x own cc nL cs st pc lv (.int i :: stk) := by
  subst hs; exact g_anewaG c1 s1 hcl hi hn hb hR h1 h3 hc ht hx d kk
end R10
def st00 : St := ((fun _ => 0, fun _ => 0, fun _ _ => none, 0), fun _ _ => 0, fun _ _ => 0)
def qA0 : St := alc st00 7 0
theorem qA0_o : Obj qA0 7 0 := ⟨by decide +kernel, by decide +kernel⟩
theorem qA0_s : sn qA0 = 1 := by decide +kernel
def qA1 : St := alc qA0 4 0
theorem qA1_o : Obj qA1 7 0 := by unfold qA1; exact alc_ob qA0_o
theorem qA1_n : Obj qA1 4 1 := by have h : Obj (alc qA0 4 0) 4 (sn qA0) := alc_new.obj; rw [qA0_s] at h; unfold qA1; exact h
def qA2 : St := iX4_init 1 qA1
theorem qA2_o : Obj qA2 7 0 := by unfold qA2; exact iX4_init_ob qA1_o
def qA3 : St := pR qA2 0 0 (some 1)
theorem qA3_o : Obj qA3 7 0 := by unfold qA3; exact pR_ob qA2_o
theorem qA3_s : sn qA3 = 6 := by decide +kernel
def qA4 : St := alc qA3 13 2
theorem qA4_o : Obj qA4 7 0 := by unfold qA4; exact alc_ob qA3_o
def qA5 : St := pR qA4 0 1 (some 6)
theorem qA5_o : Obj qA5 7 0 := by unfold qA5; exact pR_ob qA4_o
theorem qA5_s : sn qA5 = 7 := by decide +kernel
def qA6 : St := alc qA5 3 0
theorem qA6_o : Obj qA6 7 0 := by unfold qA6; exact alc_ob qA5_o
theorem qA6_n : Obj qA6 3 7 := by have h : Obj (alc qA5 3 0) 3 (sn qA5) := alc_new.obj; rw [qA5_s] at h; unfold qA6; exact h
def qA7 : St := iX3_init 7 qA6
theorem qA7_o : Obj qA7 7 0 := by unfold qA7; exact iX3_init_ob qA6_o
def qA8 : St := pR qA7 0 2 (some 7)
theorem qA8_o : Obj qA8 7 0 := by unfold qA8; exact pR_ob qA7_o
theorem qA8_s : sn qA8 = 15 := by decide +kernel
def qA9 : St := alc qA8 2 0
theorem qA9_o : Obj qA9 7 0 := by unfold qA9; exact alc_ob qA8_o
theorem qA9_n : Obj qA9 2 15 := by have h : Obj (alc qA8 2 0) 2 (sn qA8) := alc_new.obj; rw [qA8_s] at h; unfold qA9; exact h
def qA10 : St := iX2_init 15 qA9
theorem qA10_o : Obj qA10 7 0 := by unfold qA10; exact iX2_init_ob qA9_o
def qA11 : St := pR qA10 0 3 (some 15)
theorem qA11_o : Obj qA11 7 0 := by unfold qA11; exact pR_ob qA10_o
theorem qA11_s : sn qA11 = 17 := by decide +kernel
def qA12 : St := alc qA11 2 0
theorem qA12_o : Obj qA12 7 0 := by unfold qA12; exact alc_ob qA11_o
theorem qA12_n : Obj qA12 2 17 := by have h : Obj (alc qA11 2 0) 2 (sn qA11) := alc_new.obj; rw [qA11_s] at h; unfold qA12; exact h
def qA13 : St := iX2_init 17 qA12
theorem qA13_o : Obj qA13 7 0 := by unfold qA13; exact iX2_init_ob qA12_o
def qA14 : St := pR qA13 0 4 (some 17)
theorem qA14_o : Obj qA14 7 0 := by unfold qA14; exact pR_ob qA13_o
theorem qA14_s : sn qA14 = 19 := by decide +kernel
def qA15 : St := alc qA14 6 0
theorem qA15_o : Obj qA15 7 0 := by unfold qA15; exact alc_ob qA14_o
theorem qA15_n : Obj qA15 6 19 := by have h : Obj (alc qA14 6 0) 6 (sn qA14) := alc_new.obj; rw [qA14_s] at h; unfold qA15; exact h
def qA16 : St := iX6_init 19 1 qA15
theorem qA16_o : Obj qA16 7 0 := by unfold qA16; exact iX6_init_ob qA15_o
def qA17 : St := pR qA16 0 5 (some 19)
theorem qA17_o : Obj qA17 7 0 := by unfold qA17; exact pR_ob qA16_o
theorem qA17_s : sn qA17 = 25 := by decide +kernel
def qA18 : St := alc qA17 1 0
theorem qA18_o : Obj qA18 7 0 := by unfold qA18; exact alc_ob qA17_o
theorem qA18_n : Obj qA18 1 25 := by have h : Obj (alc qA17 1 0) 1 (sn qA17) := alc_new.obj; rw [qA17_s] at h; unfold qA18; exact h
def qA19 : St := iX1_init 25 1 19 qA18
theorem qA19_o : Obj qA19 7 0 := by unfold qA19; exact iX1_init_ob qA18_o
def qA20 : St := pR qA19 0 6 (some 25)
theorem qA20_o : Obj qA20 7 0 := by unfold qA20; exact pR_ob qA19_o
theorem qA20_s : sn qA20 = 33 := by decide +kernel
def qA21 : St := alc qA20 0 0
theorem qA21_o : Obj qA21 7 0 := by unfold qA21; exact alc_ob qA20_o
theorem qA21_n : Obj qA21 0 33 := by have h : Obj (alc qA20 0 0) 0 (sn qA20) := alc_new.obj; rw [qA20_s] at h; unfold qA21; exact h
def qA22 : St := iX0_init 33 1 19 qA21
theorem qA22_o : Obj qA22 7 0 := by unfold qA22; exact iX0_init_ob qA21_o
def qA23 : St := pR qA22 0 7 (some 33)
theorem qA23_o : Obj qA23 7 0 := by unfold qA23; exact pR_ob qA22_o
theorem qA23_s : sn qA23 = 35 := by decide +kernel
def qA24 : St := alc qA23 10 5
theorem qA24_o : Obj qA24 7 0 := by unfold qA24; exact alc_ob qA23_o
def qA25 : St := pR qA24 0 8 (some 35)
theorem qA25_o : Obj qA25 7 0 := by unfold qA25; exact pR_ob qA24_o
theorem qA25_s : sn qA25 = 36 := by decide +kernel
def qA26 : St := alc qA25 10 17
theorem qA26_o : Obj qA26 7 0 := by unfold qA26; exact alc_ob qA25_o
def qA27 : St := pR qA26 0 9 (some 36)
theorem qA27_o : Obj qA27 7 0 := by unfold qA27; exact pR_ob qA26_o
theorem qA27_s : sn qA27 = 37 := by decide +kernel
def qA28 : St := alc qA27 10 40
theorem qA28_o : Obj qA28 7 0 := by unfold qA28; exact alc_ob qA27_o
def qA29 : St := pR qA28 0 10 (some 37)
theorem qA29_o : Obj qA29 7 0 := by unfold qA29; exact pR_ob qA28_o
def qA30 : St := pI qA29 0 11 (0 : Int32)
theorem qA30_o : Obj qA30 7 0 := by unfold qA30; exact pI_ob qA29_o
def qA31 : St := pI qA30 0 12 (-1 : Int32)
theorem qA31_o : Obj qA31 7 0 := by unfold qA31; exact pI_ob qA30_o
def qA32 : St := pI qA31 0 13 (-1 : Int32)
theorem qA32_o : Obj qA32 7 0 := by unfold qA32; exact pI_ob qA31_o
def qA33 : St := pI qA32 0 14 (0 : Int32)
theorem qA33_o : Obj qA33 7 0 := by unfold qA33; exact pI_ob qA32_o
set_option maxHeartbeats 4000000 in
set_option maxRecDepth 100000 in
theorem zX7_init_0 {E : Ev} {x : Cx} (hR : xR x = rmh 3 37 9109) (ht : xt x) (hr : (xM x).sig.returnType = none) (hnm : (xM x).name = "<init>") (kk : G E Wn x RX7 cX7_init 1 (14, 1323) qA8 34 [(0, .ref (eB E + 0))] []) : G E Wn x RX7 cX7_init 1 (0, 0) qA0 0 [(0, .ref (eB E + 0))] [] := by
  refine g_aload_n rfl 0 rfl dX7_init_0 ?_
  refine g_objInit tw1_23 hR (by decide) (Nat.le_of_ble_eq_true rfl) dX7_init_1 ?_
  refine g_aload_n rfl 0 rfl dX7_init_4 ?_
  refine g_newL 1 1 9 qA0_s cok4 tw1_26 tw1_27 tw1_2 (by decide +kernel) hR rfl rfl ⟨by decide, by decide⟩ ht (fun _ => trivial) dX7_init_5 ?_
  refine g_dup rfl dX7_init_8 ?_
  refine g_callIN (As := []) (rest := [.ref (eB E + 1), .ref (eB E + 0)]) 5 30 mok_X4_init rfl nmm_0 tw1_29 hR (by decide) (kX4_init qA1_n) rfl rfl (Nat.le_of_ble_eq_true rfl) rfl rfl ⟨by decide, by decide⟩ rfl dX7_init_9 ?_
  refine g_putF (j := 0) cok7 (by decide) rfl rfl hnm rfl rfl rfl tw2_64 (fun _ => qA2_o) ht (fun _ => trivial) dX7_init_12 ?_
  refine g_aload_n rfl 0 rfl dX7_init_15 ?_
  refine g_iconst (2 : Int32) (by decide) dX7_init_16 ?_
  refine g_anewaLG 6 2 6 32 qA3_s tw1_26 (by decide) rfl (by decide) hR rfl rfl ⟨by decide, by decide⟩ ht (fun _ => trivial) dX7_init_17 ?_
  refine g_putF (j := 1) cok7 (by decide) rfl rfl hnm rfl rfl rfl tw2_65 (fun _ => qA4_o) ht (fun _ => trivial) dX7_init_20 ?_
  refine g_aload_n rfl 0 rfl dX7_init_23 ?_
  refine g_newL 7 7 41 qA5_s cok3 tw1_85 tw1_86 tw1_3 (by decide +kernel) hR rfl rfl ⟨by decide, by decide⟩ ht (fun _ => trivial) dX7_init_24 ?_
  refine g_dup rfl dX7_init_27 ?_
  refine g_callIN (As := []) (rest := [.ref (eB E + 7), .ref (eB E + 0)]) 14 1323 mok_X3_init rfl nmm_1 tw1_88 hR (by decide) (kX3_init qA6_n) rfl rfl (Nat.le_of_ble_eq_true rfl) rfl rfl ⟨by decide, by decide⟩ rfl dX7_init_28 ?_
  refine g_putF (j := 2) cok7 (by decide) rfl rfl hnm rfl rfl rfl tw2_66 (fun _ => qA7_o) ht (fun _ => trivial) dX7_init_31 ?_
  exact kk
set_option maxHeartbeats 4000000 in
set_option maxRecDepth 100000 in
theorem zX7_init_1 {E : Ev} {x : Cx} (hR : xR x = rmh 3 37 9109) (ht : xt x) (hr : (xM x).sig.returnType = none) (hnm : (xM x).name = "<init>") (kk : G E Wn x RX7 cX7_init 1 (24, 6713) qA16 68 [(0, .ref (eB E + 0))] [.ref (eB E + 19), .ref (eB E + 0)]) : G E Wn x RX7 cX7_init 1 (14, 1323) qA8 34 [(0, .ref (eB E + 0))] [] := by
  refine g_aload_n rfl 0 rfl dX7_init_34 ?_
  refine g_newL 15 15 1325 qA8_s cok2 tw1_173 tw1_174 tw1_6 (by decide +kernel) hR rfl rfl ⟨by decide, by decide⟩ ht (fun _ => trivial) dX7_init_35 ?_
  refine g_dup rfl dX7_init_38 ?_
  refine g_callIN (As := []) (rest := [.ref (eB E + 15), .ref (eB E + 0)]) 16 1341 mok_X2_init rfl nmm_3 tw1_176 hR (by decide) (kX2_init qA9_n) rfl rfl (Nat.le_of_ble_eq_true rfl) rfl rfl ⟨by decide, by decide⟩ rfl dX7_init_39 ?_
  refine g_putF (j := 3) cok7 (by decide) rfl rfl hnm rfl rfl rfl tw2_67 (fun _ => qA10_o) ht (fun _ => trivial) dX7_init_42 ?_
  refine g_aload_n rfl 0 rfl dX7_init_45 ?_
  refine g_newL 17 17 1343 qA11_s cok2 tw1_173 tw1_174 tw1_6 (by decide +kernel) hR rfl rfl ⟨by decide, by decide⟩ ht (fun _ => trivial) dX7_init_46 ?_
  refine g_dup rfl dX7_init_49 ?_
  refine g_callIN (As := []) (rest := [.ref (eB E + 17), .ref (eB E + 0)]) 18 1359 mok_X2_init rfl nmm_3 tw1_176 hR (by decide) (kX2_init qA12_n) rfl rfl (Nat.le_of_ble_eq_true rfl) rfl rfl ⟨by decide, by decide⟩ rfl dX7_init_50 ?_
  refine g_putF (j := 4) cok7 (by decide) rfl rfl hnm rfl rfl rfl tw2_68 (fun _ => qA13_o) ht (fun _ => trivial) dX7_init_53 ?_
  refine g_aload_n rfl 0 rfl dX7_init_56 ?_
  refine g_newL 19 19 1370 qA14_s cok6 tw1_187 tw1_188 tw1_7 (by decide +kernel) hR rfl rfl ⟨by decide, by decide⟩ ht (fun _ => trivial) dX7_init_57 ?_
  refine g_dup rfl dX7_init_60 ?_
  refine g_aload_n rfl 0 rfl dX7_init_61 ?_
  refine g_get (j := 0) cok7 (by decide) (.ref (eB E + 1)) (Or.inl tw2_64) (fun _ => qA15_o) (fun _ => slot_ref rfl (show sR qA15 0 0 = some 1 by decide +kernel)) dX7_init_62 ?_
  refine g_callIN (As := [.ref (eB E + 1)]) (rest := [.ref (eB E + 19), .ref (eB E + 0)]) 24 6713 mok_X6_init rfl nmm_4 tw1_190 hR (by decide) (kX6_init qA15_n) rfl rfl (Nat.le_of_ble_eq_true rfl) rfl rfl ⟨by decide, by decide⟩ rfl dX7_init_65 ?_
  exact kk
set_option maxHeartbeats 4000000 in
set_option maxRecDepth 100000 in
theorem zX7_init_2 {E : Ev} {x : Cx} (hR : xR x = rmh 3 37 9109) (ht : xt x) (hr : (xM x).sig.returnType = none) (hnm : (xM x).name = "<init>") (kk : G E Wn x RX7 cX7_init 1 (35, 9052) qA24 113 [(0, .ref (eB E + 0))] [.ref (eB E + 35), .ref (eB E + 0)]) : G E Wn x RX7 cX7_init 1 (24, 6713) qA16 68 [(0, .ref (eB E + 0))] [.ref (eB E + 19), .ref (eB E + 0)] := by
  refine g_putF (j := 5) cok7 (by decide) rfl rfl hnm rfl rfl rfl tw2_69 (fun _ => qA16_o) ht (fun _ => trivial) dX7_init_68 ?_
  refine g_aload_n rfl 0 rfl dX7_init_71 ?_
  refine g_newL 25 25 6725 qA17_s cok1 tw1_229 tw1_230 tw1_8 (by decide +kernel) hR rfl rfl ⟨by decide, by decide⟩ ht (fun _ => trivial) dX7_init_72 ?_
  refine g_dup rfl dX7_init_75 ?_
  refine g_aload_n rfl 0 rfl dX7_init_76 ?_
  refine g_get (j := 0) cok7 (by decide) (.ref (eB E + 1)) (Or.inl tw2_64) (fun _ => qA18_o) (fun _ => slot_ref rfl (show sR qA18 0 0 = some 1 by decide +kernel)) dX7_init_77 ?_
  refine g_aload_n rfl 0 rfl dX7_init_80 ?_
  refine g_get (j := 5) cok7 (by decide) (.ref (eB E + 19)) (Or.inl tw2_69) (fun _ => qA18_o) (fun _ => slot_ref rfl (show sR qA18 0 5 = some 19 by decide +kernel)) dX7_init_81 ?_
  refine g_callIN (As := [.ref (eB E + 1), .ref (eB E + 19)]) (rest := [.ref (eB E + 25), .ref (eB E + 0)]) 32 9035 mok_X1_init rfl nmm_5 tw1_232 hR (by decide) (kX1_init qA18_n) rfl rfl (Nat.le_of_ble_eq_true rfl) rfl rfl ⟨by decide, by decide⟩ rfl dX7_init_84 ?_
  refine g_putF (j := 6) cok7 (by decide) rfl rfl hnm rfl rfl rfl tw2_70 (fun _ => qA19_o) ht (fun _ => trivial) dX7_init_87 ?_
  refine g_aload_n rfl 0 rfl dX7_init_90 ?_
  refine g_newL 33 33 9041 qA20_s cok0 tw2_36 tw2_37 tw1_9 (by decide +kernel) hR rfl rfl ⟨by decide, by decide⟩ ht (fun _ => trivial) dX7_init_91 ?_
  refine g_dup rfl dX7_init_94 ?_
  refine g_aload_n rfl 0 rfl dX7_init_95 ?_
  refine g_get (j := 0) cok7 (by decide) (.ref (eB E + 1)) (Or.inl tw2_64) (fun _ => qA21_o) (fun _ => slot_ref rfl (show sR qA21 0 0 = some 1 by decide +kernel)) dX7_init_96 ?_
  refine g_aload_n rfl 0 rfl dX7_init_99 ?_
  refine g_get (j := 5) cok7 (by decide) (.ref (eB E + 19)) (Or.inl tw2_69) (fun _ => qA21_o) (fun _ => slot_ref rfl (show sR qA21 0 5 = some 19 by decide +kernel)) dX7_init_100 ?_
  refine g_callIN (As := [.ref (eB E + 1), .ref (eB E + 19)]) (rest := [.ref (eB E + 33), .ref (eB E + 0)]) 34 9047 mok_X0_init rfl nmm_6 tw2_39 hR (by decide) (kX0_init qA21_n) rfl rfl (Nat.le_of_ble_eq_true rfl) rfl rfl ⟨by decide, by decide⟩ rfl dX7_init_103 ?_
  refine g_putF (j := 7) cok7 (by decide) rfl rfl hnm rfl rfl rfl tw2_71 (fun _ => qA22_o) ht (fun _ => trivial) dX7_init_106 ?_
  refine g_aload_n rfl 0 rfl dX7_init_109 ?_
  refine g_iconst (5 : Int32) (by decide) dX7_init_110 ?_
  refine g_newaL_int 35 5 35 9052 qA23_s (by decide) rfl (by decide) hR rfl rfl ⟨by decide, by decide⟩ ht (fun _ => trivial) dX7_init_111 ?_
  exact kk
set_option maxHeartbeats 4000000 in
set_option maxRecDepth 100000 in
theorem zX7_init_3 {E : Ev} {x : Cx} (hR : xR x = rmh 3 37 9109) (ht : xt x) (hr : (xM x).sig.returnType = none) (hnm : (xM x).name = "<init>") (kk : G E Wn x RX7 cX7_init 1 (37, 9109) qA32 147 [(0, .ref (eB E + 0))] []) : G E Wn x RX7 cX7_init 1 (35, 9052) qA24 113 [(0, .ref (eB E + 0))] [.ref (eB E + 35), .ref (eB E + 0)] := by
  refine g_putF (j := 8) cok7 (by decide) rfl rfl hnm rfl rfl rfl tw2_72 (fun _ => qA24_o) ht (fun _ => trivial) dX7_init_113 ?_
  refine g_aload_n rfl 0 rfl dX7_init_116 ?_
  refine g_bipush (17 : Int32) (by decide) dX7_init_117 ?_
  refine g_newaL_int 36 17 36 9069 qA25_s (by decide) rfl (by decide) hR rfl rfl ⟨by decide, by decide⟩ ht (fun _ => trivial) dX7_init_119 ?_
  refine g_putF (j := 9) cok7 (by decide) rfl rfl hnm rfl rfl rfl tw2_73 (fun _ => qA26_o) ht (fun _ => trivial) dX7_init_121 ?_
  refine g_aload_n rfl 0 rfl dX7_init_124 ?_
  refine g_bipush (40 : Int32) (by decide) dX7_init_125 ?_
  refine g_newaL_int 37 40 37 9109 qA27_s (by decide) rfl (by decide) hR rfl rfl ⟨by decide, by decide⟩ ht (fun _ => trivial) dX7_init_127 ?_
  refine g_putF (j := 10) cok7 (by decide) rfl rfl hnm rfl rfl rfl tw2_74 (fun _ => qA28_o) ht (fun _ => trivial) dX7_init_129 ?_
  refine g_aload_n rfl 0 rfl dX7_init_132 ?_
  refine g_iconst (0 : Int32) (by decide) dX7_init_133 ?_
  refine g_putI (j := 11) cok7 (by decide) rfl rfl rfl rfl (Or.inl tw2_75) (fun _ => qA29_o) ht (fun _ => trivial) dX7_init_134 ?_
  refine g_aload_n rfl 0 rfl dX7_init_137 ?_
  refine g_iconst (-1 : Int32) (by decide) dX7_init_138 ?_
  refine g_putI (j := 12) cok7 (by decide) rfl rfl rfl rfl (Or.inl tw2_76) (fun _ => qA30_o) ht (fun _ => trivial) dX7_init_139 ?_
  refine g_aload_n rfl 0 rfl dX7_init_142 ?_
  refine g_iconst (-1 : Int32) (by decide) dX7_init_143 ?_
  refine g_putI (j := 13) cok7 (by decide) rfl rfl rfl rfl (Or.inl tw2_77) (fun _ => qA31_o) ht (fun _ => trivial) dX7_init_144 ?_
  exact kk
set_option maxHeartbeats 4000000 in
set_option maxRecDepth 100000 in
theorem zX7_init_4 {E : Ev} {x : Cx} (hR : xR x = rmh 3 37 9109) (ht : xt x) (hr : (xM x).sig.returnType = none) (hnm : (xM x).name = "<init>") (hQ : QM E Wn x none qA33 (37, 9109)) : G E Wn x RX7 cX7_init 1 (37, 9109) qA32 147 [(0, .ref (eB E + 0))] [] := by
  refine g_aload_n rfl 0 rfl dX7_init_147 ?_
  refine g_iconst (0 : Int32) (by decide) dX7_init_148 ?_
  refine g_putI (j := 14) cok7 (by decide) rfl rfl rfl rfl (Or.inl tw2_78) (fun _ => qA32_o) ht (fun _ => trivial) dX7_init_149 ?_
  exact g_ret hQ hr rfl rfl dX7_init_152
theorem kX7_init {l : Launch} {E : Ev} : CM l E Wn yX7_init cX7_init 1 none 3 37 9109 [.ref (eB E + 0)] qA0 none qA33 :=
  CM.intro mok_X7_init (Nat.le_of_ble_eq_true rfl) (fun x hl hR ht hr hQ hnm => (zX7_init_0 hR ht hr hnm (zX7_init_1 hR ht hr hnm (zX7_init_2 hR ht hr hnm (zX7_init_3 hR ht hr hnm (zX7_init_4 hR ht hr hnm hQ))))))
