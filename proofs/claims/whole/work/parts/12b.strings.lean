theorem mok_J0_length_8abf5 : MOK yJ0_length_8abf5 cJ0_length_8abf5 1 (some FieldType.int) 0 := ⟨tw3_35, tw1_13, ⟨by decide +kernel, by decide +kernel, by decide +kernel⟩, by decide +kernel, by decide⟩
theorem mok_J0_charAt_5068e : MOK yJ0_charAt_5068e cJ0_charAt_5068e 2 (some FieldType.char) 1 := ⟨tw3_45, tw1_13, ⟨by decide +kernel, by decide +kernel, by decide +kernel⟩, by decide +kernel, by decide⟩
theorem mok_J0_coder_7d493 : MOK yJ0_coder_7d493 cJ0_coder_7d493 1 (some FieldType.byte) 0 := ⟨tw3_39, tw1_13, ⟨by decide +kernel, by decide +kernel, by decide +kernel⟩, by decide +kernel, by decide⟩
theorem mok_J0_isLatin1_aae02 : MOK yJ0_isLatin1_aae02 cJ0_isLatin1_aae02 1 (some FieldType.boolean) 0 := ⟨tw3_49, tw1_13, ⟨by decide +kernel, by decide +kernel, by decide +kernel⟩, by decide +kernel, by decide⟩
theorem mok_J0_checkIndex_df160 : MOK yJ0_checkIndex_df160 cJ0_checkIndex_df160 2 none 2 := ⟨tw3_55, tw1_13, ⟨by decide +kernel, by decide +kernel, by decide +kernel⟩, by decide +kernel, by decide⟩
theorem mok_J1_charAt_3b067 : MOK yJ1_charAt_3b067 cJ1_charAt_3b067 2 (some FieldType.char) 2 := ⟨tw3_52, tw1_14, ⟨by decide +kernel, by decide +kernel, by decide +kernel⟩, by decide +kernel, by decide⟩
theorem mok_J3_checkIndex_8e157 : MOK yJ3_checkIndex_8e157 cJ3_checkIndex_8e157 3 (some FieldType.int) 3 := ⟨tw3_60, tw1_15, ⟨by decide +kernel, by decide +kernel, by decide +kernel⟩, by decide +kernel, by decide⟩
section R6
variable {E : Ev} {wt : St → Prop} {x : Cx} {own : String} {cc : ByteArray} {nL : Nat} {cs : Nat × Nat} {st : St} {pc : Nat} {lv lv' : List (Nat × Value)} {stk : List Value}
theorem g_copy {a0 a n0 n1 idx h2 c2 s2 : Nat} {sp dp n : Int32} {rest : List Value} (w1 : Cond.methodLink own idx arraycopyName ∈ gtbl) (h0 : wt st → Arr st 10 n0 a0) (h1 : wt st → Arr st 10 n1 a) (hR : xR x = rmh h2 c2 s2) (hh : 2 < h2) (hroom : (rest.map fun v => v.category).sum ≤ 8) (ht : xt x) (hc : cpb sp dp n n0 n1 = true) (hx : wt st → wt (rI st a (va_cpy (sI st a0) (sI st a) sp.toNatClampNeg dp.toNatClampNeg n.toNatClampNeg))) (d : decode cc pc = .ok (.invokestatic idx, 3)) (kk : G E wt x own cc nL cs (rI st a (va_cpy (sI st a0) (sI st a) sp.toNatClampNeg dp.toNatClampNeg n.toNatClampNeg)) (pc + 3) lv rest) : G E wt x own cc nL cs st pc lv (.int n :: .int dp :: .ref (eB E + a) :: .int sp :: .ref (eB E + a0) :: rest) := by
  intro C w H locs ls hH hz hS hl
  simp only [cpb, Bool.and_eq_true, decide_eq_true_eq] at hc
  obtain ⟨⟨⟨⟨c1, c2⟩, c3⟩, c4⟩, c5⟩ := hc
  have hlo : (rest.map fun v => v.category).sum + (nativeFrameWords "java/lang/System" "arraycopy" 5 + 11) ≤ (xR x).locals := by
    rw [hR]; simp only [rmh]
    have : nativeFrameWords "java/lang/System" "arraycopy" 5 ≤ 100 := by decide
    omega
  refine va_copyi C.ex C.cb (by rw [C.ml, hl.1]) C.ow (C.ts _ w1) (C.ts _ tw3_128) (C.ts _ tw3_127) (C.ts _ tw1_17) C.K hH.1 (wd_D E st) hS a0 a 1 1 (arr_at (h0 w) (by decide) (by decide) (by decide)) (arr_at (h1 w) (by decide) (by decide) (by decide)) rfl rfl rfl c1 c2 c3 c4 c5 (fun _ _ => rfl) (by rw [hR]; simp only [rmh]; omega) hlo d (fun H1 locs1 hP1 _ hS1 => ?_)
  rw [wd_set (E := E) (st := st) (st' := rI st a (va_cpy (sI st a0) (sI st a) sp.toNatClampNeg dp.toNatClampNeg n.toNatClampNeg)) rfl (arr_rI (h1 w) (by decide) (by decide) (by decide)) (fun _ hb => ent_rI_ne hb)] at hP1
  refine W_size fun hb => ?_
  obtain ⟨z1, z2⟩ := tight_of (st1 := rI st a (va_cpy (sI st a0) (sI st a) sp.toNatClampNeg dp.toNatClampNeg n.toNatClampNeg)) (a := a) (ob := 0) ht (h1 w).1 hH hz hP1 rfl hb
  exact kk C (hx w) H1 locs1 ls z1 z2 hS1 hl
theorem g_ldcS {idx : Nat} (q : Nat) (hq : q < 9) (hi : sIdx.getD q 0 = idx) (d : decode cc pc = .ok (.ldc idx, 2)) (kk : G E wt x RX3 cc nL cs st (pc + 2) lv (.ref (eSK E q) :: stk)) : G E wt x RX3 cc nL cs st pc lv stk := by
  intro C w H locs ls hH hz hS hl
  subst hi
  exact va_ldcS C.ex C.cb C.ow (C.ew.2.2.2.1 q hq) d (kk C w H locs ls hH hz hS hl)
theorem g_gets {idx : Nat} (w1 : Cond.fieldLink own idx RX7 "HIGHEST_TERMS" "[I" ∈ gtbl) (d : decode cc pc = .ok (.getstatic idx, 3)) (kk : G E wt x own cc nL cs st (pc + 3) lv (.ref (eT E) :: stk)) : G E wt x own cc nL cs st pc lv stk := by
  intro C w H locs ls hH hz hS hl
  exact va_gets C.ex C.cb C.ew.2.2.2.2.2.2.1 hS C.ow (C.ts _ w1) (fun _ h => h) d (kk C w H locs ls hH hz hS hl)
theorem g_tald {i : Int32} (hi : vp_in i 4) (d : decode cc pc = .ok (.iaload, 1)) (kk : G E wt x own cc nL cs st (pc + 1) lv (.int (tmax i.toNatClampNeg) :: stk)) : G E wt x own cc nL cs st pc lv (.int i :: .ref (eT E) :: stk) := by
  intro C w H locs ls hH hz hS hl
  obtain ⟨cell, h1, h2, h3, h4, h5, h6, h7⟩ := C.ew.2.2.2.2.2.2.2.1.kept hS.2.1
  have hlt : i.toNatClampNeg < 4 := Nat.not_le.mp fun q => hi (Or.inr q)
  exact W.iald (v := .int (tmax i.toNatClampNeg)) C.ex C.cb h1 h2 h3 (fun q => q.elim (fun z => hi (Or.inl z)) (fun z => by omega)) (h6 _ hlt) rfl rfl d (kk C w H locs ls hH hz hS hl)
/-- a string's own rows -/
theorem g_svalue {idx w0 : Nat} (hw : w0 < 9) (w1 : Cond.fieldLink own idx RJ0 "value" "[B" ∈ gtbl) (d : decode cc pc = .ok (.getfield idx, 3)) (kk : G E wt x own cc nL cs st (pc + 3) lv (.ref (eSV E w0) :: stk)) : G E wt x own cc nL cs st pc lv (.ref (eSK E w0) :: stk) := by
  intro C w H locs ls hH hz hS hl
  exact vk_getf C.ex C.cb (C.ew.2.2.2.2.1.1 w0 hw).2.2.1 hS C.ow (C.ts _ w1) (fun _ h => h) d (kk C w H locs ls hH hz hS hl)
theorem g_scoder {idx w0 : Nat} (hw : w0 < 9) (w1 : Cond.fieldLink own idx RJ0 "coder" "B" ∈ gtbl) (d : decode cc pc = .ok (.getfield idx, 3)) (kk : G E wt x own cc nL cs st (pc + 3) lv (.int 0 :: stk)) : G E wt x own cc nL cs st pc lv (.ref (eSK E w0) :: stk) := by
  intro C w H locs ls hH hz hS hl
  exact vk_getf C.ex C.cb (C.ew.2.2.2.2.1.1 w0 hw).2.1 hS C.ow (C.ts _ w1) (fun _ h => h) d (kk C w H locs ls hH hz hS hl)
theorem g_scompact {idx : Nat} (w1 : Cond.fieldLink own idx RJ0 "COMPACT_STRINGS" "Z" ∈ gtbl) (d : decode cc pc = .ok (.getstatic idx, 3)) (kk : G E wt x own cc nL cs st (pc + 3) lv (.int 1 :: stk)) : G E wt x own cc nL cs st pc lv stk := by
  intro C w H locs ls hH hz hS hl
  exact va_gets C.ex C.cb C.ew.2.2.2.2.2.1 hS C.ow (C.ts _ w1) (fun _ h => h) d (kk C w H locs ls hH hz hS hl)
theorem g_sform {idx : Nat} (w1 : Cond.fieldLink own idx RJ3 "SIOOBE_FORMATTER" "Ljava/util/function/BiFunction;" ∈ gtbl) (d : decode cc pc = .ok (.getstatic idx, 3)) (kk : ∀ r : Option Nat, G E wt x own cc nL cs st (pc + 3) lv (va_rf r :: stk)) : G E wt x own cc nL cs st pc lv stk := by
  intro C w H locs ls hH hz hS hl
  rcases C.ew.2.2.2.2.2.2.2.2.2.2 with h | ⟨t, h⟩
  · exact va_gets C.ex C.cb h hS C.ow (C.ts _ w1) (fun _ h => h) d (kk none C w H locs ls hH hz hS hl)
  · exact va_gets C.ex C.cb h hS C.ow (C.ts _ w1) (fun _ h => h) d (kk (some t) C w H locs ls hH hz hS hl)
theorem g_sblen {w0 : Nat} (hw : w0 < 9) (d : decode cc pc = .ok (.arraylength, 1)) (kk : G E wt x own cc nL cs st (pc + 1) lv (.int (nI (sLen.getD w0 0)) :: stk)) : G E wt x own cc nL cs st pc lv (.ref (eSV E w0) :: stk) := by
  intro C w H locs ls hH hz hS hl
  obtain ⟨cell, h1, h2, h3, h4, h5, h6, h7⟩ := (C.ew.2.2.2.2.1.1 w0 hw).2.2.2.kept hS.2.1
  exact W.alen C.ex C.cb h1 h2 h5 rfl rfl d (kk C w H locs ls hH hz hS hl)
theorem g_sbald {w0 : Nat} {i : Int32} (hw : w0 < 9) (hi : vp_in i (sLen.getD w0 0)) (d : decode cc pc = .ok (.baload, 1)) (kk : G E wt x own cc nL cs st (pc + 1) lv (.int ((sByt.getD w0 []).getD i.toNatClampNeg 0) :: stk)) : G E wt x own cc nL cs st pc lv (.int i :: .ref (eSV E w0) :: stk) := by
  intro C w H locs ls hH hz hS hl
  obtain ⟨cell, h1, h2, h3, h4, h5, h6, h7⟩ := (C.ew.2.2.2.2.1.1 w0 hw).2.2.2.kept hS.2.1
  have hlt : i.toNatClampNeg < sLen.getD w0 0 := Nat.not_le.mp fun q => hi (Or.inr q)
  exact W.bald (v := .int ((sByt.getD w0 []).getD i.toNatClampNeg 0)) C.ex C.cb h1 h2 h3 (fun q => q.elim (fun z => hi (Or.inl z)) (fun z => by omega)) (h6 _ hlt) rfl rfl d (kk C w H locs ls hH hz hS hl)
theorem g_callSt {y : MethodName} {bytes : ByteArray} {maxL n idx h h2 c2 s2 w0 : Nat} {ret : Option FieldType} {As rest : List Value} {r : Int32} (hw : w0 < 9) (ok : MOK y bytes maxL ret n) (w1 : Cond.methodLink own idx y ∈ gtbl) (w2 : Cond.instanceMethod y ∈ gtbl) (w3 : Cond.selects RJ0 y y ∈ gtbl) (hR : xR x = rmh h2 c2 s2) (hh : h < h2) (hM : CM (xl x) E wt y bytes maxL ret h 0 0 (.ref (eSK E w0) :: As) st (some (.int r)) st) (hn : As.length = n) (hstk : stk = As.reverse ++ .ref (eSK E w0) :: rest) (hroom : (rest.map fun v => v.category).sum ≤ 8) (hc : cs.1 ≤ c2 ∧ cs.2 ≤ s2) (d : decode cc pc = .ok (.invokevirtual idx, 3)) (kk : G E wt x own cc nL cs st (pc + 3) lv (.int r :: rest)) : G E wt x own cc nL cs st pc lv stk := by
  intro C0 w H locs ls hH hz hS hl
  subst hstk
  obtain ⟨k1, k2, k3, k4, k5⟩ := ok
  have hRm : (rmh h 0 0).frames + 1 ≤ (xR x).frames ∧ 8 + (maxL + 11) + (rmh h 0 0).locals ≤ (xR x).locals := by
    rw [hR]; simp only [rmh]; omega
  have hf : cs.1 + 0 ≤ (xR x).cells ∧ cs.2 + 0 ≤ (xR x).slots := by rw [hR]; exact hc
  have cw : CallW (xR x) (xs x) (xa x) own RJ0 idx y bytes maxL ret (wsm y bytes maxL ret) (rmh h 0 0) 0 0 n := ⟨callB_of n C0.ts (wsm_good k1) rfl rfl rfl (C0.ts _ k2) (C0.ts _ w1) k3 hRm, C0.ts _ w2, C0.ts _ w3⟩
  have hp : PreV (xs x) H RJ0 (eSK E w0) (PcM E wt (.ref (eSK E w0) :: As) st) As := ⟨blind, vk_recv C0.ew.2.2.2.2.1 hw hS, pre_go C0.ew hH w hS⟩
  refine run_go (va_runV ⟨C0.ex, C0.cb, C0.ml, C0.ow, C0.ts⟩ hM cw hp rfl hn hl.1 rfl (lv_room hroom) d hf) hS (fun H1 locs1 hH1 hw1 hz1 hS1 => ?_)
  refine W_size fun hb => ?_
  refine kk C0 hw1 H1 locs1 ls hH1 (fun ht => ?_) hS1 hl
  have e1 := hz ht
  have e2 := hH.2
  have e3 := hH1.2
  omega
theorem g_zretc {v : Int32} {v0 : Option Value} {u0 : St} (ty : FieldType) (hQ : QM E wt x v0 u0 cs) (hr : (xM x).sig.returnType = some ty) (hn : narrow ty (.int v) = .int v) (h1 : v0 = some (.int v)) (h2 : u0 = st) (d : decode cc pc = .ok (.ireturn, 1)) : G E wt x own cc nL cs st pc lv [.int v] := by
  intro C w H locs ls hH hz hS hl
  subst h1; subst h2
  rw [hQ]
  exact W.zret C.ex C.cb hr hn (fun t ht hW => ⟨⟨rfl, by rw [ht]; exact hH, w⟩, hS.F ht⟩) hS.2.2 d C.lk
theorem g_i2c {v : Int32} (d : decode cc pc = .ok (.i2c, 1)) (k : G E wt x own cc nL cs st (pc + 1) lv (.int (v.toUInt32 % 65536).toInt32 :: stk)) : G E wt x own cc nL cs st pc lv (.int v :: stk) :=
  fun C w H locs ls hH hz hS hl => lv_i2c C.ex C.cb d rfl (k C w H locs ls hH hz hS hl)
end R6
theorem sb_ok : ∀ w, w < 9 → (sLen.getD w 0 < 1000 ∧ ∀ j, j < sLen.getD w 0 → ((((sByt.getD w []).getD j 0) &&& 255).toUInt32 % 65536).toInt32 = (sByt.getD w []).getD j 0) := by decide +kernel
/-- coder() -/
theorem kJ0_coder {l : Launch} {E : Ev} {st : St} {w0 : Nat} (hw : w0 < 9) : CM l E WT yJ0_coder_7d493 cJ0_coder_7d493 1 (some .byte) 0 0 0 [.ref (eSK E w0)] st (some (.int 0)) st :=
  CM.intro mok_J0_coder_7d493 (Nat.le_of_ble_eq_true rfl) (fun x hl hR ht hr hQ _ => by
    refine g_scompact tw3_40 dJ0_coder_7d493_0 ?_
    refine g_if_eq 13 (by decide) dJ0_coder_7d493_3 (fun h => absurd h (by decide)) (fun _ => ?_)
    refine g_aload_n rfl 0 rfl dJ0_coder_7d493_6 ?_
    refine g_scoder hw tw7_162 dJ0_coder_7d493_7 ?_
    refine g_goto 14 (by decide) dJ0_coder_7d493_10 ?_
    exact g_zretc .byte hQ hr rfl rfl rfl dJ0_coder_7d493_14)
theorem kJ0_isLatin1 {l : Launch} {E : Ev} {st : St} {w0 : Nat} (hw : w0 < 9) : CM l E WT yJ0_isLatin1_aae02 cJ0_isLatin1_aae02 1 (some .boolean) 0 0 0 [.ref (eSK E w0)] st (some (.int 1)) st :=
  CM.intro mok_J0_isLatin1_aae02 (Nat.le_of_ble_eq_true rfl) (fun x hl hR ht hr hQ _ => by
    refine g_scompact tw3_40 dJ0_isLatin1_aae02_0 ?_
    refine g_if_eq 17 (by decide) dJ0_isLatin1_aae02_3 (fun h => absurd h (by decide)) (fun _ => ?_)
    refine g_aload_n rfl 0 rfl dJ0_isLatin1_aae02_6 ?_
    refine g_scoder hw tw7_162 dJ0_isLatin1_aae02_7 ?_
    refine g_if_ne 17 (by decide) dJ0_isLatin1_aae02_10 (fun h => absurd rfl h) (fun _ => ?_)
    refine g_iconst 1 (by decide) dJ0_isLatin1_aae02_13 ?_
    refine g_goto 18 (by decide) dJ0_isLatin1_aae02_14 ?_
    exact g_zret hQ hr (Or.inr rfl) rfl rfl dJ0_isLatin1_aae02_18)

theorem kJ0_length_8abf5 {l : Launch} {E : Ev} {st : St} {w0 : Nat} (hw : w0 < 9) : CM l E WT yJ0_length_8abf5 cJ0_length_8abf5 1 (some .int) 1 0 0 [.ref (eSK E w0)] st (some (.int (nI (sLen.getD w0 0)))) st :=
  CM.intro mok_J0_length_8abf5 (Nat.le_of_ble_eq_true rfl) (fun x hl hR ht hr hQ _ => by
    refine g_aload_n rfl 0 rfl dJ0_length_8abf5_0 ?_
    refine g_svalue hw tw7_161 dJ0_length_8abf5_1 ?_
    refine g_sblen hw dJ0_length_8abf5_4 ?_
    refine g_aload_n rfl 0 rfl dJ0_length_8abf5_5 ?_
    refine g_callSt (As := []) (rest := [.int (nI (sLen.getD w0 0))]) hw mok_J0_coder_7d493 tw3_36 tw3_37 tw3_38 hR (by decide) (kJ0_coder hw) rfl rfl (Nat.le_of_ble_eq_true rfl) ⟨Nat.le_refl _, Nat.le_refl _⟩ dJ0_length_8abf5_6 ?_
    refine g_ishr dJ0_length_8abf5_9 ?_
    refine g_iret hQ hr (congrArg (fun z => some (Value.int z)) ?_) rfl dJ0_length_8abf5_10
    exact (sc_shr0 (by have := (sb_ok w0 hw).1; omega)).symm)
theorem kJ3_checkIndex {l : Launch} {E : Ev} {st : St} {i n : Int32} {r : Option Nat} (h0 : ¬ i < 0) (h1 : i < n) : CM l E WT yJ3_checkIndex_8e157 cJ3_checkIndex_8e157 3 (some .int) 0 0 0 [.int i, .int n, va_rf r] st (some (.int i)) st :=
  CM.intro mok_J3_checkIndex_8e157 (by cases r <;> exact Nat.le_of_ble_eq_true rfl) (fun x hl hR ht hr hQ _ => by
    refine g_lvs (lv' := [(0, .int i), (1, .int n)]) [0, 1] (by cases r <;> rfl) ?_
    refine g_iload_n rfl 0 rfl dJ3_checkIndex_8e157_0 ?_
    refine g_if_lt 9 (by decide) dJ3_checkIndex_8e157_1 (fun h => absurd h h0) (fun _ => ?_)
    refine g_iload_n rfl 0 rfl dJ3_checkIndex_8e157_4 ?_
    refine g_iload_n rfl 1 rfl dJ3_checkIndex_8e157_5 ?_
    refine g_icmp_lt 16 (by decide) dJ3_checkIndex_8e157_6 (fun _ => ?_) (fun h => absurd h1 h)
    refine g_iload_n rfl 0 rfl dJ3_checkIndex_8e157_16 ?_
    exact g_iret hQ hr rfl rfl dJ3_checkIndex_8e157_17)
theorem kJ0_checkIndex {l : Launch} {E : Ev} {st : St} {i n : Int32} (h0 : ¬ i < 0) (h1 : i < n) : CM l E WT yJ0_checkIndex_df160 cJ0_checkIndex_df160 2 none 1 0 0 [.int i, .int n] st none st :=
  CM.intro mok_J0_checkIndex_df160 (Nat.le_of_ble_eq_true rfl) (fun x hl hR ht hr hQ _ => by
    refine g_iload_n rfl 0 rfl dJ0_checkIndex_df160_0 ?_
    refine g_iload_n rfl 1 rfl dJ0_checkIndex_df160_1 ?_
    refine g_sform tw3_56 dJ0_checkIndex_df160_2 (fun r => ?_)
    refine g_callS0i (As := [.int i, .int n, va_rf r]) (rest := []) mok_J3_checkIndex_8e157 tw3_58 tw3_59 hR (by decide) (kJ3_checkIndex h0 h1) rfl rfl (Nat.le_of_ble_eq_true rfl) ⟨Nat.le_refl _, Nat.le_refl _⟩ dJ0_checkIndex_df160_5 ?_
    refine g_pop rfl dJ0_checkIndex_df160_8 ?_
    exact g_ret hQ hr rfl rfl dJ0_checkIndex_df160_9)
theorem kJ1_charAt {l : Launch} {E : Ev} {st : St} {w0 : Nat} {i : Int32} (hw : w0 < 9) (hi : vp_in i (sLen.getD w0 0)) : CM l E WT yJ1_charAt_3b067 cJ1_charAt_3b067 2 (some .char) 2 0 0 [.ref (eSV E w0), .int i] st (some (.int ((sByt.getD w0 []).getD i.toNatClampNeg 0))) st :=
  CM.intro mok_J1_charAt_3b067 (Nat.le_of_ble_eq_true rfl) (fun x hl hR ht hr hQ _ => by
    have hb := (sb_ok w0 hw)
    obtain ⟨j, hj, rfl⟩ := vp_in_of hi (by have := hb.1; omega)
    have hj2 : (nI j).toNatClampNeg = j := nI_clamp (by have := hb.1; omega)
    refine g_iload_n rfl 1 rfl dJ1_charAt_3b067_0 ?_
    refine g_aload_n rfl 0 rfl dJ1_charAt_3b067_1 ?_
    refine g_sblen hw dJ1_charAt_3b067_2 ?_
    refine g_callS0v (As := [.int (nI j), .int (nI (sLen.getD w0 0))]) (rest := []) mok_J0_checkIndex_df160 tw3_53 tw3_54 hR (by decide) (kJ0_checkIndex (nI_pos (by have := hb.1; omega)) (nI_lt hj (by have := hb.1; omega))) rfl rfl (Nat.le_of_ble_eq_true rfl) ⟨Nat.le_refl _, Nat.le_refl _⟩ dJ1_charAt_3b067_3 ?_
    refine g_aload_n rfl 0 rfl dJ1_charAt_3b067_6 ?_
    refine g_iload_n rfl 1 rfl dJ1_charAt_3b067_7 ?_
    refine g_sbald hw hi dJ1_charAt_3b067_8 ?_
    refine g_sipush 255 (by decide) dJ1_charAt_3b067_9 ?_
    refine g_iand dJ1_charAt_3b067_12 ?_
    refine g_i2c dJ1_charAt_3b067_13 ?_
    have e := hb.2 j hj
    rw [hj2] at hQ ⊢
    refine g_zretc .char hQ hr ?_ (congrArg (fun z => some (Value.int z)) e.symm) rfl dJ1_charAt_3b067_14
    exact pk_nc _)
theorem kJ0_charAt {l : Launch} {E : Ev} {st : St} {w0 : Nat} {i : Int32} (hw : w0 < 9) (hi : vp_in i (sLen.getD w0 0)) : CM l E WT yJ0_charAt_5068e cJ0_charAt_5068e 2 (some .char) 3 0 0 [.ref (eSK E w0), .int i] st (some (.int ((sByt.getD w0 []).getD i.toNatClampNeg 0))) st :=
  CM.intro mok_J0_charAt_5068e (Nat.le_of_ble_eq_true rfl) (fun x hl hR ht hr hQ _ => by
    refine g_aload_n rfl 0 rfl dJ0_charAt_5068e_0 ?_
    refine g_callSt (As := []) (rest := []) hw mok_J0_isLatin1_aae02 tw3_46 tw3_47 tw3_48 hR (by decide) (kJ0_isLatin1 hw) rfl rfl (Nat.le_of_ble_eq_true rfl) ⟨Nat.le_refl _, Nat.le_refl _⟩ dJ0_charAt_5068e_1 ?_
    refine g_if_eq 16 (by decide) dJ0_charAt_5068e_4 (fun h => absurd h (by decide)) (fun _ => ?_)
    refine g_aload_n rfl 0 rfl dJ0_charAt_5068e_7 ?_
    refine g_svalue hw tw7_161 dJ0_charAt_5068e_8 ?_
    refine g_iload_n rfl 1 rfl dJ0_charAt_5068e_11 ?_
    refine g_callS0i (As := [.ref (eSV E w0), .int i]) (rest := []) mok_J1_charAt_3b067 tw3_50 tw3_51 hR (by decide) (kJ1_charAt hw hi) rfl rfl (Nat.le_of_ble_eq_true rfl) ⟨Nat.le_refl _, Nat.le_refl _⟩ dJ0_charAt_5068e_12 ?_
    have hb := (sb_ok w0 hw)
    obtain ⟨j, hj, rfl⟩ := vp_in_of hi (by have := hb.1; omega)
    have hj2 : (nI j).toNatClampNeg = j := nI_clamp (by have := hb.1; omega)
    have e := hb.2 j hj
    rw [hj2] at hQ ⊢
    refine g_zretc .char hQ hr ?_ rfl rfl dJ0_charAt_5068e_15
    rw [← e]
    exact pk_nc _)
section R7
variable {E : Ev} {x : Cx} {own : String} {cc : ByteArray} {nL : Nat} {cs : Nat × Nat} {st : St} {pc : Nat} {lv lv' : List (Nat × Value)} {stk : List Value}
theorem g_slen {idx h2 c2 s2 w0 : Nat} (w1 : Cond.methodLink own idx yJ0_length_8abf5 ∈ gtbl) (hw : w0 < 9) (hR : xR x = rmh h2 c2 s2) (hh : 1 < h2) (hroom : (stk.map fun v => v.category).sum ≤ 8) (hc : cs.1 ≤ c2 ∧ cs.2 ≤ s2) (d : decode cc pc = .ok (.invokevirtual idx, 3)) (kk : G E WT x own cc nL cs st (pc + 3) lv (.int (nI (sLen.getD w0 0)) :: stk)) : G E WT x own cc nL cs st pc lv (.ref (eSK E w0) :: stk) :=
  g_callSt (As := []) (rest := stk) hw mok_J0_length_8abf5 w1 tw3_33 tw3_34 hR hh (kJ0_length_8abf5 hw) rfl rfl hroom hc d kk
theorem g_char {idx h2 c2 s2 w0 : Nat} {i : Int32} {rest : List Value} (w1 : Cond.methodLink own idx yJ0_charAt_5068e ∈ gtbl) (hw : w0 < 9) (hi : vp_in i (sLen.getD w0 0)) (hR : xR x = rmh h2 c2 s2) (hh : 3 < h2) (hroom : (rest.map fun v => v.category).sum ≤ 8) (hc : cs.1 ≤ c2 ∧ cs.2 ≤ s2) (d : decode cc pc = .ok (.invokevirtual idx, 3)) (kk : G E WT x own cc nL cs st (pc + 3) lv (.int ((sByt.getD w0 []).getD i.toNatClampNeg 0) :: rest)) : G E WT x own cc nL cs st pc lv (.int i :: .ref (eSK E w0) :: rest) :=
  g_callSt (As := [.int i]) (rest := rest) hw mok_J0_charAt_5068e w1 tw3_43 tw3_44 hR hh (kJ0_charAt hw hi) rfl rfl hroom hc d kk
end R7
