def fX0_draw (p1 : Int32) (st : St) : Option (Int32 × St) :=
  if (1 : Int32) ≤ p1 then (chk (nzl p1.toInt64) (some ((ljrem (sL (pL st 33 5 (ljrem (((sL st 33 5) * (1103 : Int64)) + (12345 : Int64)) (1000003 : Int64))) 33 5) p1.toInt64).toInt32, pL st 33 5 (ljrem (((sL st 33 5) * (1103 : Int64)) + (12345 : Int64)) (1000003 : Int64))))) else (some ((0 : Int32), pL st 33 5 (ljrem (((sL st 33 5) * (1103 : Int64)) + (12345 : Int64)) (1000003 : Int64))))
set_option maxHeartbeats 1000000 in
set_option maxRecDepth 20000 in
theorem wX0_draw {E : Ev} {x : Cx} {r0 : Int32} {u0 : St} (B : Bd E x (some FieldType.int) (0) 0 0 (some (.int r0)) u0) (p1 : Int32) (st : St)  (hf : fX0_draw p1 st = some (r0, u0)) : G E WT x RX0 cX0_draw 2 (0, 0) st 0 [(0, .ref (eB E + 33)), (1, .int p1)] [] := by
  unfold fX0_draw at hf
  refine g_aload_n rfl 0 rfl dX0_draw_0 ?_
  refine g_aload_n rfl 0 rfl dX0_draw_1 ?_
  refine g_get (j := 5) cok0 (by decide) (.long (sL st 33 5)) (Or.inl tw2_50) oS33 (fun _ => rfl) dX0_draw_2 ?_
  refine g_ldc2 tw4_138 dX0_draw_5 ?_
  refine g_lmul dX0_draw_8 ?_
  refine g_ldc2 tw4_139 dX0_draw_9 ?_
  refine g_ladd dX0_draw_12 ?_
  refine g_ldc2 tw4_140 dX0_draw_13 ?_
  refine g_lrem (by decide) dX0_draw_16 ?_
  refine g_putL (j := 5) cok0 (by decide) rfl rfl rfl rfl (Or.inl tw2_50) oS33 B.2.1 wpL dX0_draw_17 ?_
  refine g_iload_n rfl 1 rfl dX0_draw_20 ?_
  refine g_iconst (1 : Int32) (by decide) dX0_draw_21 ?_
  refine g_icmp_ge 29 (by decide) dX0_draw_22 (fun h1 => ?_) (fun h1 => ?_)
  · rw [if_pos h1] at hf
    refine g_aload_n rfl 0 rfl dX0_draw_29 ?_
    refine g_get (j := 5) cok0 (by decide) (.long (sL (pL st 33 5 (ljrem (((sL st 33 5) * (1103 : Int64)) + (12345 : Int64)) (1000003 : Int64))) 33 5)) (Or.inl tw2_50) oS33 (fun _ => rfl) dX0_draw_30 ?_
    refine g_iload_n rfl 1 rfl dX0_draw_33 ?_
    refine g_i2l dX0_draw_34 ?_
    obtain ⟨h2, hf⟩ := chk_some hf
    refine g_lrem (nzl_ne h2) dX0_draw_35 ?_
    refine g_l2i dX0_draw_36 ?_
    exact g_iret B.2.2.2 B.2.2.1 (congrArg (fun z => some (Value.int z)) (Prod.mk.inj (Option.some.inj hf)).1.symm) (Prod.mk.inj (Option.some.inj hf)).2.symm dX0_draw_37
  · rw [if_neg h1] at hf
    refine g_iconst (0 : Int32) (by decide) dX0_draw_25 ?_
    refine g_goto 37 (by decide) dX0_draw_26 ?_
    exact g_iret B.2.2.2 B.2.2.1 (congrArg (fun z => some (Value.int z)) (Prod.mk.inj (Option.some.inj hf)).1.symm) (Prod.mk.inj (Option.some.inj hf)).2.symm dX0_draw_37
theorem kX0_draw {l : Launch} {E : Ev} {st : St} {p1 : Int32} {r0 : Int32} {u0 : St}  (hf : fX0_draw p1 st = some (r0, u0)) : CM l E WT yX0_draw cX0_draw 2 (some FieldType.int) 0 0 0 [.ref (eB E + 33), .int p1] st (some (.int r0)) u0 :=
  CM.intro mok_X0_draw (Nat.le_of_ble_eq_true rfl) (fun x hl hR ht hr hQ _ => wX0_draw ⟨hR, ht, hr, hQ⟩ p1 st hf)
def fX4_place (st : St)  : Option Int32 :=
  if (sI st 1 4) = 0 then (some (0 : Int32)) else (chk (nz (sI st 1 4)) (some (jrem (sI st 5 1) (sI st 1 4))))
set_option maxHeartbeats 1000000 in
set_option maxRecDepth 20000 in
theorem wX4_place {E : Ev} {x : Cx} {r0 : Int32} {st : St} (B : Bd E x (some FieldType.int) (0) 0 0 (some (.int r0)) st)   (hf : fX4_place st  = some r0) : G E WT x RX4 cX4_place 1 (0, 0) st 0 [(0, .ref (eB E + 1))] [] := by
  unfold fX4_place at hf
  refine g_aload_n rfl 0 rfl dX4_place_0 ?_
  refine g_get (j := 4) cok4 (by decide) (.int (sI st 1 4)) (Or.inl tw1_48) oS1 (fun _ => rfl) dX4_place_1 ?_
  refine g_if_ne 11 (by decide) dX4_place_4 (fun h1 => ?_) (fun h1 => ?_)
  · rw [if_neg h1] at hf
    refine g_aload_n rfl 0 rfl dX4_place_11 ?_
    refine g_get (j := 3) cok4 (by decide) (.ref (eB E + 5)) (Or.inl tw1_42) oS1 vS1_3 dX4_place_12 ?_
    refine g_iconst (1 : Int32) (by decide) dX4_place_15 ?_
    refine g_ialdj 1 rfl aS5 (ixb_in rfl) dX4_place_16 ?_
    refine g_aload_n rfl 0 rfl dX4_place_17 ?_
    refine g_get (j := 4) cok4 (by decide) (.int (sI st 1 4)) (Or.inl tw1_48) oS1 (fun _ => rfl) dX4_place_18 ?_
    obtain ⟨h2, hf⟩ := chk_some hf
    refine g_irem (nz_ne h2) dX4_place_21 ?_
    exact g_iret B.2.2.2 B.2.2.1 (congrArg (fun z => some (Value.int z)) (Option.some.inj hf).symm) rfl dX4_place_22
  · rw [if_pos h1] at hf
    refine g_iconst (0 : Int32) (by decide) dX4_place_7 ?_
    refine g_goto 22 (by decide) dX4_place_8 ?_
    exact g_iret B.2.2.2 B.2.2.1 (congrArg (fun z => some (Value.int z)) (Option.some.inj hf).symm) rfl dX4_place_22
theorem kX4_place {l : Launch} {E : Ev} {st : St}  {r0 : Int32}  (hf : fX4_place st = some r0) : CM l E WT yX4_place cX4_place 1 (some FieldType.int) 0 0 0 [.ref (eB E + 1)] st (some (.int r0)) st :=
  CM.intro mok_X4_place (Nat.le_of_ble_eq_true rfl) (fun x hl hR ht hr hQ _ => wX4_place ⟨hR, ht, hr, hQ⟩  hf)
def fX4_state (st : St)  : Option Int32 :=
  (fX4_place st).bind (fun q1 => some (((sI st 1 5) * (6 : Int32)) + q1))
set_option maxHeartbeats 1000000 in
set_option maxRecDepth 20000 in
theorem wX4_state {E : Ev} {x : Cx} {r0 : Int32} {st : St} (B : Bd E x (some FieldType.int) (1) 0 0 (some (.int r0)) st)   (hf : fX4_state st  = some r0) : G E WT x RX4 cX4_state 1 (0, 0) st 0 [(0, .ref (eB E + 1))] [] := by
  unfold fX4_state at hf
  refine g_aload_n rfl 0 rfl dX4_state_0 ?_
  refine g_get (j := 5) cok4 (by decide) (.int (sI st 1 5)) (Or.inl tw1_52) oS1 (fun _ => rfl) dX4_state_1 ?_
  refine g_bipush (6 : Int32) (by decide) dX4_state_4 ?_
  refine g_imul dX4_state_6 ?_
  refine g_aload_n rfl 0 rfl dX4_state_7 ?_
  obtain ⟨q1, h2, hf⟩ := bnd_some hf
  refine g_callV0i (As := []) (rest := [.int ((sI st 1 5) * (6 : Int32))]) cok4 mok_X4_place tw4_18 tw3_159 ts3_5 oS1 B.1 (by decide) (kX4_place  h2) rfl rfl (Nat.le_of_ble_eq_true rfl) ⟨Nat.le_refl _, Nat.le_refl _⟩ dX4_state_8 ?_
  refine g_iadd dX4_state_11 ?_
  exact g_iret B.2.2.2 B.2.2.1 (congrArg (fun z => some (Value.int z)) (Option.some.inj hf).symm) rfl dX4_state_12
theorem kX4_state {l : Launch} {E : Ev} {st : St}  {r0 : Int32}  (hf : fX4_state st = some r0) : CM l E WT yX4_state cX4_state 1 (some FieldType.int) 1 0 0 [.ref (eB E + 1)] st (some (.int r0)) st :=
  CM.intro mok_X4_state (Nat.le_of_ble_eq_true rfl) (fun x hl hR ht hr hQ _ => wX4_state ⟨hR, ht, hr, hQ⟩  hf)
def fJ7_fill_53178_b5 : Nat → Nat → Int32 → Int32 → Int32 → St → Option St
  | 0, _, _, _, _, _ => none
  | n + 1, ar, l1, l2, l3, st => if l3 ≤ l2 then (some st) else (chk (ixb l2 (sN st ar)) (fJ7_fill_53178_b5 n ar l1 (l2 + (1 : Int32)) l3 (pI st ar l2.toNatClampNeg l1)))
set_option maxHeartbeats 1000000 in
set_option maxRecDepth 20000 in
theorem wJ7_fill_53178_b5 {E : Ev} {x : Cx} {u0 : St} (B : Bd E x none (0) 0 0 none u0) : ∀ (n : Nat) (ar : Nat) (l1 : Int32) (l2 : Int32) (l3 : Int32) (st : St) (h_ar : Obj st 10 ar), fJ7_fill_53178_b5 n ar l1 l2 l3 st = some u0 → G E WT x RJ7 cJ7_fill_53178 4 (0, 0) st 5 [(0, .ref (eB E + ar)), (1, .int l1), (2, .int l2), (3, .int l3)] [] := by
  intro n
  induction n with
  | zero =>
    intros
    rename_i hf
    rw [fJ7_fill_53178_b5] at hf
    cases hf
  | succ n ih =>
    intro ar l1 l2 l3 st h_ar hf
    rw [fJ7_fill_53178_b5] at hf
    refine g_iload_n rfl 2 rfl dJ7_fill_53178_5 ?_
    refine g_iload_n rfl 3 rfl dJ7_fill_53178_6 ?_
    refine g_icmp_ge 20 (by decide) dJ7_fill_53178_7 (fun h1 => ?_) (fun h1 => ?_)
    · rw [if_pos h1] at hf
      exact g_ret B.2.2.2 B.2.2.1 rfl (Option.some.inj hf).symm dJ7_fill_53178_20
    · rw [if_neg h1] at hf
      refine g_aload_n rfl 0 rfl dJ7_fill_53178_10 ?_
      refine g_iload_n rfl 2 rfl dJ7_fill_53178_11 ?_
      refine g_iload_n rfl 1 rfl dJ7_fill_53178_12 ?_
      obtain ⟨h2, hf⟩ := chk_some hf
      refine g_iastj l2.toNatClampNeg rfl (fun _ => ⟨h_ar.1, h_ar.2, rfl⟩) (ixb_in h2) B.2.1 wpI dJ7_fill_53178_13 ?_
      refine g_iinc (l2 + (1 : Int32)) [(2, .int (l2 + (1 : Int32))), (0, .ref (eB E + ar)), (1, .int l1), (3, .int l3)] 2 rfl (congrArg (fun z => l2 + z) (show Int32.ofInt (1) = (1 : Int32) by decide)) (by decide) rfl dJ7_fill_53178_14 ?_
      refine g_goto 5 (by decide) dJ7_fill_53178_17 ?_
      refine g_lvs [1, 2, 0, 3] rfl ?_
      exact ih ar l1 (l2 + (1 : Int32)) l3 (pI st ar l2.toNatClampNeg l1) h_ar hf
def fJ7_fill_53178 (ar : Nat) (p1 : Int32) (st : St) : Option St :=
  fJ7_fill_53178_b5 FU ar p1 (0 : Int32) (nI (sN st ar)) st
set_option maxHeartbeats 1000000 in
set_option maxRecDepth 20000 in
theorem wJ7_fill_53178 {E : Ev} {x : Cx} {u0 : St} (B : Bd E x none (0) 0 0 none u0) (ar : Nat) (p1 : Int32) (st : St) (h_ar : Obj st 10 ar) (hf : fJ7_fill_53178 ar p1 st = some u0) : G E WT x RJ7 cJ7_fill_53178 4 (0, 0) st 0 [(0, .ref (eB E + ar)), (1, .int p1)] [] := by
  unfold fJ7_fill_53178 at hf
  refine g_iconst (0 : Int32) (by decide) dJ7_fill_53178_0 ?_
  refine g_istore_n rfl [(2, .int (0 : Int32)), (0, .ref (eB E + ar)), (1, .int p1)] (by decide) rfl dJ7_fill_53178_1 ?_
  refine g_aload_n rfl 1 rfl dJ7_fill_53178_2 ?_
  refine g_alen 1 (fun _ => ⟨h_ar.1, h_ar.2, rfl⟩) (by decide) rfl dJ7_fill_53178_3 ?_
  refine g_istore_n rfl [(3, .int (nI (sN st ar))), (2, .int (0 : Int32)), (0, .ref (eB E + ar)), (1, .int p1)] (by decide) rfl dJ7_fill_53178_4 ?_
  refine g_lvs [2, 3, 1, 0] rfl ?_
  exact wJ7_fill_53178_b5 B  FU ar p1 (0 : Int32) (nI (sN st ar)) st h_ar hf
theorem kJ7_fill_53178 {l : Launch} {E : Ev} {st : St} {ar : Nat} {p1 : Int32} {u0 : St} (h_ar : Obj st 10 ar) (hf : fJ7_fill_53178 ar p1 st = some u0) : CM l E WT yJ7_fill_53178 cJ7_fill_53178 4 none 0 0 0 [.ref (eB E + ar), .int p1] st none u0 :=
  CM.intro mok_J7_fill_53178 (Nat.le_of_ble_eq_true rfl) (fun x hl hR ht hr hQ _ => wJ7_fill_53178 ⟨hR, ht, hr, hQ⟩ ar p1 st h_ar hf)
theorem frFill_b : ∀ (n : Nat) {ar : Nat} {l1 l2 l3 : Int32} {st q : St}, fJ7_fill_53178_b5 n ar l1 l2 l3 st = some q → q.1 = st.1 := by
  intro n
  induction n with
  | zero => intro ar l1 l2 l3 st q h; rw [fJ7_fill_53178_b5] at h; cases h
  | succ n ih =>
    intro ar l1 l2 l3 st q h
    rw [fJ7_fill_53178_b5] at h
    by_cases c : l3 ≤ l2
    · rw [if_pos c] at h; cases h; rfl
    · rw [if_neg c] at h
      obtain ⟨_, h⟩ := chk_some h
      have e := ih h
      exact e
theorem frFill {ar : Nat} {v : Int32} {st q : St} (h : fJ7_fill_53178 ar v st = some q) : q.1 = st.1 := frFill_b _ h
def fJ6_bitCount_0f7a4 (p0 : Int32) : Int32 :=
  (((((((p0 - ((jushr p0 (1 : Int32)) &&& (1431655765 : Int32))) &&& (858993459 : Int32)) + ((jushr (p0 - ((jushr p0 (1 : Int32)) &&& (1431655765 : Int32))) (2 : Int32)) &&& (858993459 : Int32))) + (jushr (((p0 - ((jushr p0 (1 : Int32)) &&& (1431655765 : Int32))) &&& (858993459 : Int32)) + ((jushr (p0 - ((jushr p0 (1 : Int32)) &&& (1431655765 : Int32))) (2 : Int32)) &&& (858993459 : Int32))) (4 : Int32))) &&& (252645135 : Int32)) + (jushr (((((p0 - ((jushr p0 (1 : Int32)) &&& (1431655765 : Int32))) &&& (858993459 : Int32)) + ((jushr (p0 - ((jushr p0 (1 : Int32)) &&& (1431655765 : Int32))) (2 : Int32)) &&& (858993459 : Int32))) + (jushr (((p0 - ((jushr p0 (1 : Int32)) &&& (1431655765 : Int32))) &&& (858993459 : Int32)) + ((jushr (p0 - ((jushr p0 (1 : Int32)) &&& (1431655765 : Int32))) (2 : Int32)) &&& (858993459 : Int32))) (4 : Int32))) &&& (252645135 : Int32)) (8 : Int32))) + (jushr ((((((p0 - ((jushr p0 (1 : Int32)) &&& (1431655765 : Int32))) &&& (858993459 : Int32)) + ((jushr (p0 - ((jushr p0 (1 : Int32)) &&& (1431655765 : Int32))) (2 : Int32)) &&& (858993459 : Int32))) + (jushr (((p0 - ((jushr p0 (1 : Int32)) &&& (1431655765 : Int32))) &&& (858993459 : Int32)) + ((jushr (p0 - ((jushr p0 (1 : Int32)) &&& (1431655765 : Int32))) (2 : Int32)) &&& (858993459 : Int32))) (4 : Int32))) &&& (252645135 : Int32)) + (jushr (((((p0 - ((jushr p0 (1 : Int32)) &&& (1431655765 : Int32))) &&& (858993459 : Int32)) + ((jushr (p0 - ((jushr p0 (1 : Int32)) &&& (1431655765 : Int32))) (2 : Int32)) &&& (858993459 : Int32))) + (jushr (((p0 - ((jushr p0 (1 : Int32)) &&& (1431655765 : Int32))) &&& (858993459 : Int32)) + ((jushr (p0 - ((jushr p0 (1 : Int32)) &&& (1431655765 : Int32))) (2 : Int32)) &&& (858993459 : Int32))) (4 : Int32))) &&& (252645135 : Int32)) (8 : Int32))) (16 : Int32))) &&& (63 : Int32)
set_option maxHeartbeats 1000000 in
set_option maxRecDepth 20000 in
theorem wJ6_bitCount_0f7a4 {E : Ev} {x : Cx} {r0 : Int32} {st : St} (B : Bd E x (some FieldType.int) (0) 0 0 (some (.int r0)) st) (p0 : Int32)  (hf : fJ6_bitCount_0f7a4 p0 = r0) : G E WT x RJ6 cJ6_bitCount_0f7a4 1 (0, 0) st 0 [(0, .int p0)] [] := by
  unfold fJ6_bitCount_0f7a4 at hf
  refine g_iload_n rfl 0 rfl dJ6_bitCount_0f7a4_0 ?_
  refine g_iload_n rfl 0 rfl dJ6_bitCount_0f7a4_1 ?_
  refine g_iconst (1 : Int32) (by decide) dJ6_bitCount_0f7a4_2 ?_
  refine g_iushr dJ6_bitCount_0f7a4_3 ?_
  refine g_ldcw tw2_169 dJ6_bitCount_0f7a4_4 ?_
  refine g_iand dJ6_bitCount_0f7a4_7 ?_
  refine g_isub dJ6_bitCount_0f7a4_8 ?_
  refine g_istore_n rfl [(0, .int (p0 - ((jushr p0 (1 : Int32)) &&& (1431655765 : Int32))))] (by decide) rfl dJ6_bitCount_0f7a4_9 ?_
  refine g_iload_n rfl 0 rfl dJ6_bitCount_0f7a4_10 ?_
  refine g_ldcw tw2_170 dJ6_bitCount_0f7a4_11 ?_
  refine g_iand dJ6_bitCount_0f7a4_14 ?_
  refine g_iload_n rfl 0 rfl dJ6_bitCount_0f7a4_15 ?_
  refine g_iconst (2 : Int32) (by decide) dJ6_bitCount_0f7a4_16 ?_
  refine g_iushr dJ6_bitCount_0f7a4_17 ?_
  refine g_ldcw tw2_170 dJ6_bitCount_0f7a4_18 ?_
  refine g_iand dJ6_bitCount_0f7a4_21 ?_
  refine g_iadd dJ6_bitCount_0f7a4_22 ?_
  refine g_istore_n rfl [(0, .int (((p0 - ((jushr p0 (1 : Int32)) &&& (1431655765 : Int32))) &&& (858993459 : Int32)) + ((jushr (p0 - ((jushr p0 (1 : Int32)) &&& (1431655765 : Int32))) (2 : Int32)) &&& (858993459 : Int32))))] (by decide) rfl dJ6_bitCount_0f7a4_23 ?_
  refine g_iload_n rfl 0 rfl dJ6_bitCount_0f7a4_24 ?_
  refine g_iload_n rfl 0 rfl dJ6_bitCount_0f7a4_25 ?_
  refine g_iconst (4 : Int32) (by decide) dJ6_bitCount_0f7a4_26 ?_
  refine g_iushr dJ6_bitCount_0f7a4_27 ?_
  refine g_iadd dJ6_bitCount_0f7a4_28 ?_
  refine g_ldcw tw2_171 dJ6_bitCount_0f7a4_29 ?_
  refine g_iand dJ6_bitCount_0f7a4_32 ?_
  refine g_istore_n rfl [(0, .int (((((p0 - ((jushr p0 (1 : Int32)) &&& (1431655765 : Int32))) &&& (858993459 : Int32)) + ((jushr (p0 - ((jushr p0 (1 : Int32)) &&& (1431655765 : Int32))) (2 : Int32)) &&& (858993459 : Int32))) + (jushr (((p0 - ((jushr p0 (1 : Int32)) &&& (1431655765 : Int32))) &&& (858993459 : Int32)) + ((jushr (p0 - ((jushr p0 (1 : Int32)) &&& (1431655765 : Int32))) (2 : Int32)) &&& (858993459 : Int32))) (4 : Int32))) &&& (252645135 : Int32)))] (by decide) rfl dJ6_bitCount_0f7a4_33 ?_
  refine g_iload_n rfl 0 rfl dJ6_bitCount_0f7a4_34 ?_
  refine g_iload_n rfl 0 rfl dJ6_bitCount_0f7a4_35 ?_
  refine g_bipush (8 : Int32) (by decide) dJ6_bitCount_0f7a4_36 ?_
  refine g_iushr dJ6_bitCount_0f7a4_38 ?_
  refine g_iadd dJ6_bitCount_0f7a4_39 ?_
  refine g_istore_n rfl [(0, .int ((((((p0 - ((jushr p0 (1 : Int32)) &&& (1431655765 : Int32))) &&& (858993459 : Int32)) + ((jushr (p0 - ((jushr p0 (1 : Int32)) &&& (1431655765 : Int32))) (2 : Int32)) &&& (858993459 : Int32))) + (jushr (((p0 - ((jushr p0 (1 : Int32)) &&& (1431655765 : Int32))) &&& (858993459 : Int32)) + ((jushr (p0 - ((jushr p0 (1 : Int32)) &&& (1431655765 : Int32))) (2 : Int32)) &&& (858993459 : Int32))) (4 : Int32))) &&& (252645135 : Int32)) + (jushr (((((p0 - ((jushr p0 (1 : Int32)) &&& (1431655765 : Int32))) &&& (858993459 : Int32)) + ((jushr (p0 - ((jushr p0 (1 : Int32)) &&& (1431655765 : Int32))) (2 : Int32)) &&& (858993459 : Int32))) + (jushr (((p0 - ((jushr p0 (1 : Int32)) &&& (1431655765 : Int32))) &&& (858993459 : Int32)) + ((jushr (p0 - ((jushr p0 (1 : Int32)) &&& (1431655765 : Int32))) (2 : Int32)) &&& (858993459 : Int32))) (4 : Int32))) &&& (252645135 : Int32)) (8 : Int32))))] (by decide) rfl dJ6_bitCount_0f7a4_40 ?_
  refine g_iload_n rfl 0 rfl dJ6_bitCount_0f7a4_41 ?_
  refine g_iload_n rfl 0 rfl dJ6_bitCount_0f7a4_42 ?_
  refine g_bipush (16 : Int32) (by decide) dJ6_bitCount_0f7a4_43 ?_
  refine g_iushr dJ6_bitCount_0f7a4_45 ?_
  refine g_iadd dJ6_bitCount_0f7a4_46 ?_
  refine g_istore_n rfl [(0, .int (((((((p0 - ((jushr p0 (1 : Int32)) &&& (1431655765 : Int32))) &&& (858993459 : Int32)) + ((jushr (p0 - ((jushr p0 (1 : Int32)) &&& (1431655765 : Int32))) (2 : Int32)) &&& (858993459 : Int32))) + (jushr (((p0 - ((jushr p0 (1 : Int32)) &&& (1431655765 : Int32))) &&& (858993459 : Int32)) + ((jushr (p0 - ((jushr p0 (1 : Int32)) &&& (1431655765 : Int32))) (2 : Int32)) &&& (858993459 : Int32))) (4 : Int32))) &&& (252645135 : Int32)) + (jushr (((((p0 - ((jushr p0 (1 : Int32)) &&& (1431655765 : Int32))) &&& (858993459 : Int32)) + ((jushr (p0 - ((jushr p0 (1 : Int32)) &&& (1431655765 : Int32))) (2 : Int32)) &&& (858993459 : Int32))) + (jushr (((p0 - ((jushr p0 (1 : Int32)) &&& (1431655765 : Int32))) &&& (858993459 : Int32)) + ((jushr (p0 - ((jushr p0 (1 : Int32)) &&& (1431655765 : Int32))) (2 : Int32)) &&& (858993459 : Int32))) (4 : Int32))) &&& (252645135 : Int32)) (8 : Int32))) + (jushr ((((((p0 - ((jushr p0 (1 : Int32)) &&& (1431655765 : Int32))) &&& (858993459 : Int32)) + ((jushr (p0 - ((jushr p0 (1 : Int32)) &&& (1431655765 : Int32))) (2 : Int32)) &&& (858993459 : Int32))) + (jushr (((p0 - ((jushr p0 (1 : Int32)) &&& (1431655765 : Int32))) &&& (858993459 : Int32)) + ((jushr (p0 - ((jushr p0 (1 : Int32)) &&& (1431655765 : Int32))) (2 : Int32)) &&& (858993459 : Int32))) (4 : Int32))) &&& (252645135 : Int32)) + (jushr (((((p0 - ((jushr p0 (1 : Int32)) &&& (1431655765 : Int32))) &&& (858993459 : Int32)) + ((jushr (p0 - ((jushr p0 (1 : Int32)) &&& (1431655765 : Int32))) (2 : Int32)) &&& (858993459 : Int32))) + (jushr (((p0 - ((jushr p0 (1 : Int32)) &&& (1431655765 : Int32))) &&& (858993459 : Int32)) + ((jushr (p0 - ((jushr p0 (1 : Int32)) &&& (1431655765 : Int32))) (2 : Int32)) &&& (858993459 : Int32))) (4 : Int32))) &&& (252645135 : Int32)) (8 : Int32))) (16 : Int32))))] (by decide) rfl dJ6_bitCount_0f7a4_47 ?_
  refine g_iload_n rfl 0 rfl dJ6_bitCount_0f7a4_48 ?_
  refine g_bipush (63 : Int32) (by decide) dJ6_bitCount_0f7a4_49 ?_
  refine g_iand dJ6_bitCount_0f7a4_51 ?_
  exact g_iret B.2.2.2 B.2.2.1 (congrArg (fun z => some (Value.int z)) hf.symm) rfl dJ6_bitCount_0f7a4_52
theorem kJ6_bitCount_0f7a4 {l : Launch} {E : Ev} {st : St} {p0 : Int32} {r0 : Int32}  (hf : fJ6_bitCount_0f7a4 p0 = r0) : CM l E WT yJ6_bitCount_0f7a4 cJ6_bitCount_0f7a4 1 (some FieldType.int) 0 0 0 [.int p0] st (some (.int r0)) st :=
  CM.intro mok_J6_bitCount_0f7a4 (Nat.le_of_ble_eq_true rfl) (fun x hl hR ht hr hQ _ => wJ6_bitCount_0f7a4 ⟨hR, ht, hr, hQ⟩ p0 hf)
def fX1_goesOn (p0 : Int32) : Int32 :=
  if (fJ6_bitCount_0f7a4 (p0 / (6 : Int32))) ≤ (1 : Int32) then ((0 : Int32)) else ((1 : Int32))
set_option maxHeartbeats 1000000 in
set_option maxRecDepth 20000 in
theorem wX1_goesOn {E : Ev} {x : Cx} {r0 : Int32} {st : St} (B : Bd E x (some FieldType.boolean) (1) 0 0 (some (.int r0)) st) (p0 : Int32)  (hf : fX1_goesOn p0 = r0) : G E WT x RX1 cX1_goesOn 1 (0, 0) st 0 [(0, .int p0)] [] := by
  unfold fX1_goesOn at hf
  refine g_iload_n rfl 0 rfl dX1_goesOn_0 ?_
  refine g_bipush (6 : Int32) (by decide) dX1_goesOn_1 ?_
  refine g_idiv (by decide) dX1_goesOn_3 ?_
  refine g_callS0i (As := [.int (p0 / (6 : Int32))]) (rest := []) mok_J6_bitCount_0f7a4 tw4_26 tw2_167 B.1 (by decide) (kJ6_bitCount_0f7a4  rfl) rfl rfl (Nat.le_of_ble_eq_true rfl) ⟨Nat.le_refl _, Nat.le_refl _⟩ dX1_goesOn_4 ?_
  refine g_iconst (1 : Int32) (by decide) dX1_goesOn_7 ?_
  refine g_icmp_le 15 (by decide) dX1_goesOn_8 (fun h1 => ?_) (fun h1 => ?_)
  · rw [if_pos h1] at hf
    refine g_iconst (0 : Int32) (by decide) dX1_goesOn_15 ?_
    exact g_zret B.2.2.2 B.2.2.1 (by decide) (congrArg (fun z => some (Value.int z)) hf.symm) rfl dX1_goesOn_16
  · rw [if_neg h1] at hf
    refine g_iconst (1 : Int32) (by decide) dX1_goesOn_11 ?_
    refine g_goto 16 (by decide) dX1_goesOn_12 ?_
    exact g_zret B.2.2.2 B.2.2.1 (by decide) (congrArg (fun z => some (Value.int z)) hf.symm) rfl dX1_goesOn_16
theorem kX1_goesOn {l : Launch} {E : Ev} {st : St} {p0 : Int32} {r0 : Int32}  (hf : fX1_goesOn p0 = r0) : CM l E WT yX1_goesOn cX1_goesOn 1 (some FieldType.boolean) 1 0 0 [.int p0] st (some (.int r0)) st :=
  CM.intro mok_X1_goesOn (Nat.le_of_ble_eq_true rfl) (fun x hl hR ht hr hQ _ => wX1_goesOn ⟨hR, ht, hr, hQ⟩ p0 hf)
theorem fX1_goesOn_b (p0 : Int32) : isb (fX1_goesOn p0) = true := by
  unfold fX1_goesOn
  (repeat' split) <;> first | rfl | exact fX8_lies_b _ _ _
def fX4_everyone (st : St)  : Int32 :=
  (jshl (1 : Int32) (sI st 1 4)) - (1 : Int32)
set_option maxHeartbeats 1000000 in
set_option maxRecDepth 20000 in
theorem wX4_everyone {E : Ev} {x : Cx} {r0 : Int32} {st : St} (B : Bd E x (some FieldType.int) (0) 0 0 (some (.int r0)) st)   (hf : fX4_everyone st  = r0) : G E WT x RX4 cX4_everyone 1 (0, 0) st 0 [(0, .ref (eB E + 1))] [] := by
  unfold fX4_everyone at hf
  refine g_iconst (1 : Int32) (by decide) dX4_everyone_0 ?_
  refine g_aload_n rfl 0 rfl dX4_everyone_1 ?_
  refine g_get (j := 4) cok4 (by decide) (.int (sI st 1 4)) (Or.inl tw1_48) oS1 (fun _ => rfl) dX4_everyone_2 ?_
  refine g_ishl dX4_everyone_5 ?_
  refine g_iconst (1 : Int32) (by decide) dX4_everyone_6 ?_
  refine g_isub dX4_everyone_7 ?_
  exact g_iret B.2.2.2 B.2.2.1 (congrArg (fun z => some (Value.int z)) hf.symm) rfl dX4_everyone_8
theorem kX4_everyone {l : Launch} {E : Ev} {st : St}  {r0 : Int32}  (hf : fX4_everyone st = r0) : CM l E WT yX4_everyone cX4_everyone 1 (some FieldType.int) 0 0 0 [.ref (eB E + 1)] st (some (.int r0)) st :=
  CM.intro mok_X4_everyone (Nat.le_of_ble_eq_true rfl) (fun x hl hR ht hr hQ _ => wX4_everyone ⟨hR, ht, hr, hQ⟩  hf)
def fX4_lawInForce (st : St)  : Option (Option Nat) :=
  if (sI st 1 8) < 0 then (some none) else (if (sI st 1 8) < (sI st 1 7) then (chk (ixb (sI st 1 8) 6) (some (sR st 4 ((sI st 1 8).toNatClampNeg)))) else (some none))
set_option maxHeartbeats 1000000 in
set_option maxRecDepth 20000 in
theorem wX4_lawInForce {E : Ev} {x : Cx} {r0 : Option Nat} {st : St} (B : Bd E x (some (FieldType.object RX5)) (0) 0 0 (some (va_rf (r0.map (fun z => eB E + z)))) st)   (hf : fX4_lawInForce st  = some r0) : G E WT x RX4 cX4_lawInForce 1 (0, 0) st 0 [(0, .ref (eB E + 1))] [] := by
  unfold fX4_lawInForce at hf
  refine g_aload_n rfl 0 rfl dX4_lawInForce_0 ?_
  refine g_get (j := 8) cok4 (by decide) (.int (sI st 1 8)) (Or.inl tw1_62) oS1 (fun _ => rfl) dX4_lawInForce_1 ?_
  refine g_if_lt 18 (by decide) dX4_lawInForce_4 (fun h1 => ?_) (fun h1 => ?_)
  · rw [if_pos h1] at hf
    refine g_null dX4_lawInForce_18 ?_
    refine g_goto 31 (by decide) dX4_lawInForce_19 ?_
    exact g_aret (v := va_rf ((none : Option Nat).map (fun z => eB E + z))) B.2.2.2 B.2.2.1 (rf_cases _) (congrArg (fun z => some (va_rf (Option.map (fun y => eB E + y) z))) (Option.some.inj hf).symm) rfl dX4_lawInForce_31
  · rw [if_neg h1] at hf
    refine g_aload_n rfl 0 rfl dX4_lawInForce_7 ?_
    refine g_get (j := 8) cok4 (by decide) (.int (sI st 1 8)) (Or.inl tw1_62) oS1 (fun _ => rfl) dX4_lawInForce_8 ?_
    refine g_aload_n rfl 0 rfl dX4_lawInForce_11 ?_
    refine g_get (j := 7) cok4 (by decide) (.int (sI st 1 7)) (Or.inl tw1_60) oS1 (fun _ => rfl) dX4_lawInForce_12 ?_
    refine g_icmp_lt 22 (by decide) dX4_lawInForce_15 (fun h2 => ?_) (fun h2 => ?_)
    · rw [if_pos h2] at hf
      refine g_aload_n rfl 0 rfl dX4_lawInForce_22 ?_
      refine g_get (j := 2) cok4 (by decide) (.ref (eB E + 4)) (Or.inl tw1_40) oS1 vS1_2 dX4_lawInForce_23 ?_
      refine g_aload_n rfl 0 rfl dX4_lawInForce_26 ?_
      refine g_get (j := 8) cok4 (by decide) (.int (sI st 1 8)) (Or.inl tw1_62) oS1 (fun _ => rfl) dX4_lawInForce_27 ?_
      obtain ⟨h3, hf⟩ := chk_some hf
      refine g_aaldSj ((sI st 1 8).toNatClampNeg) rfl aS4 (ixb_in h3) dX4_lawInForce_30 ?_
      exact g_aret (v := va_rf ((sR st 4 ((sI st 1 8).toNatClampNeg) : Option Nat).map (fun z => eB E + z))) B.2.2.2 B.2.2.1 (rf_cases _) (congrArg (fun z => some (va_rf (Option.map (fun y => eB E + y) z))) (Option.some.inj hf).symm) rfl dX4_lawInForce_31
    · rw [if_neg h2] at hf
      refine g_null dX4_lawInForce_18 ?_
      refine g_goto 31 (by decide) dX4_lawInForce_19 ?_
      exact g_aret (v := va_rf ((none : Option Nat).map (fun z => eB E + z))) B.2.2.2 B.2.2.1 (rf_cases _) (congrArg (fun z => some (va_rf (Option.map (fun y => eB E + y) z))) (Option.some.inj hf).symm) rfl dX4_lawInForce_31
theorem kX4_lawInForce {l : Launch} {E : Ev} {st : St}  {r0 : Option Nat}  (hf : fX4_lawInForce st = some r0) : CM l E WT yX4_lawInForce cX4_lawInForce 1 (some (FieldType.object RX5)) 0 0 0 [.ref (eB E + 1)] st (some (va_rf (r0.map (fun z => eB E + z)))) st :=
  CM.intro mok_X4_lawInForce (Nat.le_of_ble_eq_true rfl) (fun x hl hR ht hr hQ _ => wX4_lawInForce ⟨hR, ht, hr, hQ⟩  hf)
theorem lif_ob {st : St} {q : Option Nat} (w : WT st) (h : fX4_lawInForce st = some q) : ∀ b, q = some b → Obj st 5 b := by
  intro b e
  subst e
  unfold fX4_lawInForce at h
  by_cases c1 : (sI st 1 8) < 0
  · rw [if_pos c1] at h; cases h
  · rw [if_neg c1] at h
    by_cases c2 : (sI st 1 8) < (sI st 1 7)
    · rw [if_pos c2] at h
      obtain ⟨_, h⟩ := chk_some h
      exact WT.law w (oS1 w) (Option.some.inj h)
    · rw [if_neg c2] at h; cases h
def fX6_forget  (st : St) : Option St :=
  if (sI (pI st 19 6 ((sI st 19 6) + (1 : Int32))) 19 6) ≤ (1000000 : Int32) then (some (pI st 19 6 ((sI st 19 6) + (1 : Int32)))) else ((fJ7_fill_53178 23 (0 : Int32) (pI (pI st 19 6 ((sI st 19 6) + (1 : Int32))) 19 6 (1 : Int32))).bind (fun q3 => fJ7_fill_53178 24 (0 : Int32) q3))
set_option maxHeartbeats 1000000 in
set_option maxRecDepth 20000 in
theorem wX6_forget {E : Ev} {x : Cx} {u0 : St} (B : Bd E x none (1) 0 0 none u0)  (st : St)  (hf : fX6_forget st = some u0) : G E WT x RX6 cX6_forget 1 (0, 0) st 0 [(0, .ref (eB E + 19))] [] := by
  unfold fX6_forget at hf
  refine g_aload_n rfl 0 rfl dX6_forget_0 ?_
  refine g_dup rfl dX6_forget_1 ?_
  refine g_get (j := 6) cok6 (by decide) (.int (sI st 19 6)) (Or.inl tw1_200) oS19 (fun _ => rfl) dX6_forget_2 ?_
  refine g_iconst (1 : Int32) (by decide) dX6_forget_5 ?_
  refine g_iadd dX6_forget_6 ?_
  refine g_putI (j := 6) cok6 (by decide) rfl rfl rfl rfl (Or.inl tw1_200) oS19 B.2.1 wpI dX6_forget_7 ?_
  refine g_aload_n rfl 0 rfl dX6_forget_10 ?_
  refine g_get (j := 6) cok6 (by decide) (.int (sI (pI st 19 6 ((sI st 19 6) + (1 : Int32))) 19 6)) (Or.inl tw1_200) oS19 (fun _ => rfl) dX6_forget_11 ?_
  refine g_ldc tw2_134 dX6_forget_14 ?_
  refine g_icmp_le 40 (by decide) dX6_forget_16 (fun h1 => ?_) (fun h1 => ?_)
  · rw [if_pos h1] at hf
    exact g_ret B.2.2.2 B.2.2.1 rfl (Option.some.inj hf).symm dX6_forget_40
  · rw [if_neg h1] at hf
    refine g_aload_n rfl 0 rfl dX6_forget_19 ?_
    refine g_iconst (1 : Int32) (by decide) dX6_forget_20 ?_
    refine g_putI (j := 6) cok6 (by decide) rfl rfl rfl rfl (Or.inl tw1_200) oS19 B.2.1 wpI dX6_forget_21 ?_
    refine g_aload_n rfl 0 rfl dX6_forget_24 ?_
    refine g_get (j := 4) cok6 (by decide) (.ref (eB E + 23)) (Or.inl tw1_198) oS19 vS19_4 dX6_forget_25 ?_
    refine g_iconst (0 : Int32) (by decide) dX6_forget_28 ?_
    refine g_wt (fun w2 => ?_)
    obtain ⟨q3, h4, hf⟩ := bnd_some hf
    refine g_callS0v (As := [.ref (eB E + 23), .int (0 : Int32)]) (rest := []) mok_J7_fill_53178 tw2_135 tw2_136 B.1 (by decide) (kJ7_fill_53178 (oS23 w2) h4) rfl rfl (Nat.le_of_ble_eq_true rfl) ⟨Nat.le_refl _, Nat.le_refl _⟩ dX6_forget_29 ?_
    refine g_aload_n rfl 0 rfl dX6_forget_32 ?_
    refine g_get (j := 5) cok6 (by decide) (.ref (eB E + 24)) (Or.inl tw1_199) oS19 vS19_5 dX6_forget_33 ?_
    refine g_iconst (0 : Int32) (by decide) dX6_forget_36 ?_
    refine g_wt (fun w5 => ?_)
    refine g_callS0v (As := [.ref (eB E + 24), .int (0 : Int32)]) (rest := []) mok_J7_fill_53178 tw2_135 tw2_136 B.1 (by decide) (kJ7_fill_53178 (oS24 w5) hf) rfl rfl (Nat.le_of_ble_eq_true rfl) ⟨Nat.le_refl _, Nat.le_refl _⟩ dX6_forget_37 ?_
    exact g_ret B.2.2.2 B.2.2.1 rfl rfl dX6_forget_40
theorem kX6_forget {l : Launch} {E : Ev} {st : St}  {u0 : St}  (hf : fX6_forget st = some u0) : CM l E WT yX6_forget cX6_forget 1 none 1 0 0 [.ref (eB E + 19)] st none u0 :=
  CM.intro mok_X6_forget (Nat.le_of_ble_eq_true rfl) (fun x hl hR ht hr hQ _ => wX6_forget ⟨hR, ht, hr, hQ⟩ st hf)
theorem frX6_forget {st q : St} (h : fX6_forget st = some q) : q.1 = st.1 := by
  unfold fX6_forget at h
  by_cases c : (sI (pI st 19 6 ((sI st 19 6) + (1 : Int32))) 19 6) ≤ (1000000 : Int32)
  · rw [if_pos c] at h; cases h; rfl
  · rw [if_neg c] at h
    obtain ⟨q1, h1, h2⟩ := bnd_some h
    have e1 : q1.1 = (pI (pI st 19 6 ((sI st 19 6) + (1 : Int32))) 19 6 (1 : Int32)).1 := frFill h1
    have e2 : q.1 = q1.1 := frFill h2
    exact e2.trans e1
def fX6_tune_b32 (l1 : Option Nat) (l2 : Int32) (st : St) : Option St :=
  (fX6_forget st).bind (fun q1 => some (pI (pI (pR q1 19 7 l1) 19 8 l2) 19 9 (sI (pI (pR q1 19 7 l1) 19 8 l2) 5 3)))
set_option maxHeartbeats 1000000 in
set_option maxRecDepth 20000 in
theorem wX6_tune_b32 {E : Ev} {x : Cx} {u0 : St} (B : Bd E x none (2) 0 0 none u0) (l1 : Option Nat) (l2 : Int32) (st : St) (h_l1 : ∀ b, l1 = some b → Obj st 5 b) (hf : fX6_tune_b32 l1 l2 st = some u0) : G E WT x RX6 cX6_tune 3 (0, 0) st 32 [(0, .ref (eB E + 19)), (1, va_rf (l1.map (fun z => eB E + z))), (2, .int l2)] [] := by
  unfold fX6_tune_b32 at hf
  refine g_aload_n rfl 0 rfl dX6_tune_32 ?_
  obtain ⟨q1, h2, hf⟩ := bnd_some hf
  refine g_callV0v (As := []) (rest := []) cok6 mok_X6_forget tw2_184 tw2_132 ts1_4 oS19 B.1 (by decide) (kX6_forget  h2) rfl rfl (Nat.le_of_ble_eq_true rfl) ⟨Nat.le_refl _, Nat.le_refl _⟩ dX6_tune_33 ?_
  refine g_aload_n rfl 0 rfl dX6_tune_36 ?_
  refine g_aload_q rfl 1 rfl dX6_tune_37 ?_
  refine g_putR (j := 7) (r := l1) cok6 (by decide) rfl rfl (nr_n _) (nr_f _) (Or.inl tw1_201) oS19 B.2.1 (fun w => wpRv (fun b e => fr_ob (frX6_forget h2) (h_l1 b e)) w) dX6_tune_38 ?_
  refine g_aload_n rfl 0 rfl dX6_tune_41 ?_
  refine g_iload_n rfl 2 rfl dX6_tune_42 ?_
  refine g_putI (j := 8) cok6 (by decide) rfl rfl rfl rfl (Or.inl tw1_202) oS19 B.2.1 wpI dX6_tune_43 ?_
  refine g_aload_n rfl 0 rfl dX6_tune_46 ?_
  refine g_aload_n rfl 0 rfl dX6_tune_47 ?_
  refine g_get (j := 0) cok6 (by decide) (.ref (eB E + 1)) (Or.inl tw1_193) oS19 vS19_0 dX6_tune_48 ?_
  refine g_get (j := 3) cok4 (by decide) (.ref (eB E + 5)) (Or.inr nf_6) oS1 vS1_3 dX6_tune_51 ?_
  refine g_iconst (3 : Int32) (by decide) dX6_tune_54 ?_
  refine g_ialdj 3 rfl aS5 (ixb_in rfl) dX6_tune_55 ?_
  refine g_putI (j := 9) cok6 (by decide) rfl rfl rfl rfl (Or.inl tw1_203) oS19 B.2.1 wpI dX6_tune_56 ?_
  exact g_ret B.2.2.2 B.2.2.1 rfl (Option.some.inj hf).symm dX6_tune_59
def fX6_tune (nl : Option Nat) (p2 : Int32) (st : St) : Option St :=
  if nl = (sR st 19 7) then (if p2 = (sI st 19 8) then (if (sI st 5 3) = (sI st 19 9) then (some st) else (fX6_tune_b32 nl p2 st)) else (fX6_tune_b32 nl p2 st)) else (fX6_tune_b32 nl p2 st)
set_option maxHeartbeats 1000000 in
set_option maxRecDepth 20000 in
theorem wX6_tune {E : Ev} {x : Cx} {u0 : St} (B : Bd E x none (2) 0 0 none u0) (nl : Option Nat) (p2 : Int32) (st : St) (h_nl : ∀ b, nl = some b → Obj st 5 b) (hf : fX6_tune nl p2 st = some u0) : G E WT x RX6 cX6_tune 3 (0, 0) st 0 [(0, .ref (eB E + 19)), (1, va_rf (nl.map (fun z => eB E + z))), (2, .int p2)] [] := by
  unfold fX6_tune at hf
  refine g_aload_q rfl 1 rfl dX6_tune_0 ?_
  refine g_aload_n rfl 0 rfl dX6_tune_1 ?_
  refine g_get (j := 7) cok6 (by decide) (va_rf ((sR st 19 7).map (fun z => eB E + z))) (Or.inl tw1_201) oS19 (fun _ => rfl) dX6_tune_2 ?_
  refine g_acmpm_ne 32 (by decide) dX6_tune_5 (fun h1 => ?_) (fun h1 => ?_)
  · rw [if_neg h1] at hf
    refine g_lvs [0, 1, 2] rfl ?_
    exact wX6_tune_b32 B  nl p2 st h_nl hf
  · rw [if_pos h1] at hf
    refine g_iload_n rfl 2 rfl dX6_tune_8 ?_
    refine g_aload_n rfl 0 rfl dX6_tune_9 ?_
    refine g_get (j := 8) cok6 (by decide) (.int (sI st 19 8)) (Or.inl tw1_202) oS19 (fun _ => rfl) dX6_tune_10 ?_
    refine g_icmp_ne 32 (by decide) dX6_tune_13 (fun h2 => ?_) (fun h2 => ?_)
    · rw [if_neg h2] at hf
      refine g_lvs [0, 1, 2] rfl ?_
      exact wX6_tune_b32 B  nl p2 st h_nl hf
    · rw [if_pos h2] at hf
      refine g_aload_n rfl 0 rfl dX6_tune_16 ?_
      refine g_get (j := 0) cok6 (by decide) (.ref (eB E + 1)) (Or.inl tw1_193) oS19 vS19_0 dX6_tune_17 ?_
      refine g_get (j := 3) cok4 (by decide) (.ref (eB E + 5)) (Or.inr nf_6) oS1 vS1_3 dX6_tune_20 ?_
      refine g_iconst (3 : Int32) (by decide) dX6_tune_23 ?_
      refine g_ialdj 3 rfl aS5 (ixb_in rfl) dX6_tune_24 ?_
      refine g_aload_n rfl 0 rfl dX6_tune_25 ?_
      refine g_get (j := 9) cok6 (by decide) (.int (sI st 19 9)) (Or.inl tw1_203) oS19 (fun _ => rfl) dX6_tune_26 ?_
      refine g_icmp_eq 59 (by decide) dX6_tune_29 (fun h3 => ?_) (fun h3 => ?_)
      · rw [if_pos h3] at hf
        exact g_ret B.2.2.2 B.2.2.1 rfl (Option.some.inj hf).symm dX6_tune_59
      · rw [if_neg h3] at hf
        refine g_lvs [0, 1, 2] rfl ?_
        exact wX6_tune_b32 B  nl p2 st h_nl hf
theorem kX6_tune {l : Launch} {E : Ev} {st : St} {nl : Option Nat} {p2 : Int32} {u0 : St} (h_nl : ∀ b, nl = some b → Obj st 5 b) (hf : fX6_tune nl p2 st = some u0) : CM l E WT yX6_tune cX6_tune 3 none 2 0 0 [.ref (eB E + 19), va_rf (nl.map (fun z => eB E + z)), .int p2] st none u0 :=
  CM.intro mok_X6_tune (by cases nl <;> exact Nat.le_of_ble_eq_true rfl) (fun x hl hR ht hr hQ _ => by
    have h := wX6_tune ⟨hR, ht, hr, hQ⟩ nl p2 st h_nl hf
    cases nl <;> exact h)
def fX6_nextIn_b58 (st : St) (k6 : Int32 → Int32 → Int32 → Int32 → Int32 → Option Int32)(l1 : Int32) (l2 : Int32) (l3 : Int32) (l4 : Int32) (l5 : Int32) : Option Int32 :=
  if ((jshr l1 l4) &&& (1 : Int32)) = (1 : Int32) then (some l4) else (k6 l1 l2 l3 l4 (l5 + (1 : Int32)))
set_option maxHeartbeats 1000000 in
set_option maxRecDepth 20000 in
theorem wX6_nextIn_b58 {E : Ev} {x : Cx} {r0 : Int32} {st : St} (B : Bd E x (some FieldType.int) (0) 0 0 (some (.int r0)) st) {k6 : Int32 → Int32 → Int32 → Int32 → Int32 → Option Int32} (hk6 : ∀ (l1 : Int32) (l2 : Int32) (l3 : Int32) (l4 : Int32) (l5 : Int32), k6 l1 l2 l3 l4 l5 = some r0 → G E WT x RX6 cX6_nextIn 6 (0, 0) st 6 [(0, .ref (eB E + 19)), (1, .int l1), (2, .int l2), (3, .int l3), (4, .int l4), (5, .int l5)] []) (l1 : Int32) (l2 : Int32) (l3 : Int32) (l4 : Int32) (l5 : Int32)  (hf : fX6_nextIn_b58 st k6 l1 l2 l3 l4 l5 = some r0) : G E WT x RX6 cX6_nextIn 6 (0, 0) st 58 [(0, .ref (eB E + 19)), (1, .int l1), (2, .int l2), (3, .int l3), (4, .int l4), (5, .int l5)] [] := by
  unfold fX6_nextIn_b58 at hf
  refine g_iload_n rfl 1 rfl dX6_nextIn_58 ?_
  refine g_iload 4 rfl dX6_nextIn_59 ?_
  refine g_ishr dX6_nextIn_61 ?_
  refine g_iconst (1 : Int32) (by decide) dX6_nextIn_62 ?_
  refine g_iand dX6_nextIn_63 ?_
  refine g_iconst (1 : Int32) (by decide) dX6_nextIn_64 ?_
  refine g_icmp_ne 71 (by decide) dX6_nextIn_65 (fun h1 => ?_) (fun h1 => ?_)
  · rw [if_neg h1] at hf
    refine g_iinc (l5 + (1 : Int32)) [(5, .int (l5 + (1 : Int32))), (0, .ref (eB E + 19)), (1, .int l1), (2, .int l2), (3, .int l3), (4, .int l4)] 5 rfl (congrArg (fun z => l5 + z) (show Int32.ofInt (1) = (1 : Int32) by decide)) (by decide) rfl dX6_nextIn_71 ?_
    refine g_goto 6 (by decide) dX6_nextIn_74 ?_
    refine g_lvs [1, 2, 3, 4, 5, 0] rfl ?_
    exact hk6 l1 l2 l3 l4 (l5 + (1 : Int32)) hf
  · rw [if_pos h1] at hf
    refine g_iload 4 rfl dX6_nextIn_68 ?_
    exact g_iret B.2.2.2 B.2.2.1 (congrArg (fun z => some (Value.int z)) (Option.some.inj hf).symm) rfl dX6_nextIn_70
def fX6_nextIn_b6 (st : St)  : Nat → Int32 → Int32 → Int32 → Int32 → Int32 → Option Int32
  | 0, _, _, _, _, _ => none
  | n + 1, l1, l2, l3, l4, l5 => if (sI st 1 4) ≤ l5 then (some l2) else (if (l4 + l3) < (sI st 1 4) then (if 0 ≤ (l4 + l3) then (fX6_nextIn_b58 st (fun zl1 zl2 zl3 zl4 zl5 => fX6_nextIn_b6 st n zl1 zl2 zl3 zl4 zl5) l1 l2 l3 (l4 + l3) l5) else (fX6_nextIn_b58 st (fun zl1 zl2 zl3 zl4 zl5 => fX6_nextIn_b6 st n zl1 zl2 zl3 zl4 zl5) l1 l2 l3 ((sI st 1 4) - (1 : Int32)) l5)) else (fX6_nextIn_b58 st (fun zl1 zl2 zl3 zl4 zl5 => fX6_nextIn_b6 st n zl1 zl2 zl3 zl4 zl5) l1 l2 l3 (0 : Int32) l5))
set_option maxHeartbeats 1000000 in
set_option maxRecDepth 20000 in
theorem wX6_nextIn_b6 {E : Ev} {x : Cx} {r0 : Int32} {st : St} (B : Bd E x (some FieldType.int) (0) 0 0 (some (.int r0)) st) : ∀ (n : Nat) (l1 : Int32) (l2 : Int32) (l3 : Int32) (l4 : Int32) (l5 : Int32) , fX6_nextIn_b6 st n l1 l2 l3 l4 l5 = some r0 → G E WT x RX6 cX6_nextIn 6 (0, 0) st 6 [(0, .ref (eB E + 19)), (1, .int l1), (2, .int l2), (3, .int l3), (4, .int l4), (5, .int l5)] [] := by
  intro n
  induction n with
  | zero =>
    intros
    rename_i hf
    rw [fX6_nextIn_b6] at hf
    cases hf
  | succ n ih =>
    intro l1 l2 l3 l4 l5 hf
    rw [fX6_nextIn_b6] at hf
    refine g_iload 5 rfl dX6_nextIn_6 ?_
    refine g_aload_n rfl 0 rfl dX6_nextIn_8 ?_
    refine g_get (j := 0) cok6 (by decide) (.ref (eB E + 1)) (Or.inl tw1_193) oS19 vS19_0 dX6_nextIn_9 ?_
    refine g_get (j := 4) cok4 (by decide) (.int (sI st 1 4)) (Or.inr nf_12) oS1 (fun _ => rfl) dX6_nextIn_12 ?_
    refine g_icmp_ge 77 (by decide) dX6_nextIn_15 (fun h1 => ?_) (fun h1 => ?_)
    · rw [if_pos h1] at hf
      refine g_iload_n rfl 2 rfl dX6_nextIn_77 ?_
      exact g_iret B.2.2.2 B.2.2.1 (congrArg (fun z => some (Value.int z)) (Option.some.inj hf).symm) rfl dX6_nextIn_78
    · rw [if_neg h1] at hf
      refine g_iload 4 rfl dX6_nextIn_18 ?_
      refine g_iload_n rfl 3 rfl dX6_nextIn_20 ?_
      refine g_iadd dX6_nextIn_21 ?_
      refine g_istore [(4, .int (l4 + l3)), (0, .ref (eB E + 19)), (1, .int l1), (2, .int l2), (3, .int l3), (5, .int l5)] (by decide) rfl dX6_nextIn_22 ?_
      refine g_iload 0 rfl dX6_nextIn_24 ?_
      refine g_aload_n rfl 1 rfl dX6_nextIn_26 ?_
      refine g_get (j := 0) cok6 (by decide) (.ref (eB E + 1)) (Or.inl tw1_193) oS19 vS19_0 dX6_nextIn_27 ?_
      refine g_get (j := 4) cok4 (by decide) (.int (sI st 1 4)) (Or.inr nf_12) oS1 (fun _ => rfl) dX6_nextIn_30 ?_
      refine g_icmp_lt 42 (by decide) dX6_nextIn_33 (fun h2 => ?_) (fun h2 => ?_)
      · rw [if_pos h2] at hf
        refine g_iload 0 rfl dX6_nextIn_42 ?_
        refine g_if_ge 58 (by decide) dX6_nextIn_44 (fun h3 => ?_) (fun h3 => ?_)
        · rw [if_pos h3] at hf
          refine g_lvs [1, 2, 3, 4, 0, 5] rfl ?_
          exact wX6_nextIn_b58 B ih l1 l2 l3 (l4 + l3) l5 hf
        · rw [if_neg h3] at hf
          refine g_aload_n rfl 1 rfl dX6_nextIn_47 ?_
          refine g_get (j := 0) cok6 (by decide) (.ref (eB E + 1)) (Or.inl tw1_193) oS19 vS19_0 dX6_nextIn_48 ?_
          refine g_get (j := 4) cok4 (by decide) (.int (sI st 1 4)) (Or.inr nf_12) oS1 (fun _ => rfl) dX6_nextIn_51 ?_
          refine g_iconst (1 : Int32) (by decide) dX6_nextIn_54 ?_
          refine g_isub dX6_nextIn_55 ?_
          refine g_istore [(4, .int ((sI st 1 4) - (1 : Int32))), (0, .ref (eB E + 19)), (1, .int l1), (2, .int l2), (3, .int l3), (5, .int l5)] (by decide) rfl dX6_nextIn_56 ?_
          refine g_lvs [1, 2, 3, 4, 0, 5] rfl ?_
          exact wX6_nextIn_b58 B ih l1 l2 l3 ((sI st 1 4) - (1 : Int32)) l5 hf
      · rw [if_neg h2] at hf
        refine g_iconst (0 : Int32) (by decide) dX6_nextIn_36 ?_
        refine g_istore [(4, .int (0 : Int32)), (0, .ref (eB E + 19)), (1, .int l1), (2, .int l2), (3, .int l3), (5, .int l5)] (by decide) rfl dX6_nextIn_37 ?_
        refine g_goto 58 (by decide) dX6_nextIn_39 ?_
        refine g_lvs [1, 2, 3, 4, 0, 5] rfl ?_
        exact wX6_nextIn_b58 B ih l1 l2 l3 (0 : Int32) l5 hf
def fX6_nextIn (st : St) (p1 : Int32) (p2 : Int32) (p3 : Int32) : Option Int32 :=
  fX6_nextIn_b6 st FU p1 p2 p3 p2 (0 : Int32)
set_option maxHeartbeats 1000000 in
set_option maxRecDepth 20000 in
theorem wX6_nextIn {E : Ev} {x : Cx} {r0 : Int32} {st : St} (B : Bd E x (some FieldType.int) (0) 0 0 (some (.int r0)) st) (p1 : Int32) (p2 : Int32) (p3 : Int32)  (hf : fX6_nextIn st p1 p2 p3 = some r0) : G E WT x RX6 cX6_nextIn 6 (0, 0) st 0 [(0, .ref (eB E + 19)), (1, .int p1), (2, .int p2), (3, .int p3)] [] := by
  unfold fX6_nextIn at hf
  refine g_iload_n rfl 2 rfl dX6_nextIn_0 ?_
  refine g_istore [(4, .int p2), (0, .ref (eB E + 19)), (1, .int p1), (2, .int p2), (3, .int p3)] (by decide) rfl dX6_nextIn_1 ?_
  refine g_iconst (0 : Int32) (by decide) dX6_nextIn_3 ?_
  refine g_istore [(5, .int (0 : Int32)), (4, .int p2), (0, .ref (eB E + 19)), (1, .int p1), (2, .int p2), (3, .int p3)] (by decide) rfl dX6_nextIn_4 ?_
  refine g_lvs [2, 3, 4, 5, 1, 0] rfl ?_
  exact wX6_nextIn_b6 B  FU p1 p2 p3 p2 (0 : Int32) hf
theorem kX6_nextIn {l : Launch} {E : Ev} {st : St} {p1 : Int32} {p2 : Int32} {p3 : Int32} {r0 : Int32}  (hf : fX6_nextIn st p1 p2 p3 = some r0) : CM l E WT yX6_nextIn cX6_nextIn 6 (some FieldType.int) 0 0 0 [.ref (eB E + 19), .int p1, .int p2, .int p3] st (some (.int r0)) st :=
  CM.intro mok_X6_nextIn (Nat.le_of_ble_eq_true rfl) (fun x hl hR ht hr hQ _ => wX6_nextIn ⟨hR, ht, hr, hQ⟩ p1 p2 p3 hf)
def fX6_firstIn (st : St) (p1 : Int32) (p2 : Int32) : Option Int32 :=
  if ((jshr p1 p2) &&& (1 : Int32)) = (1 : Int32) then (some p2) else (fX6_nextIn st p1 p2 (1 : Int32))
set_option maxHeartbeats 1000000 in
set_option maxRecDepth 20000 in
theorem wX6_firstIn {E : Ev} {x : Cx} {r0 : Int32} {st : St} (B : Bd E x (some FieldType.int) (1) 0 0 (some (.int r0)) st) (p1 : Int32) (p2 : Int32)  (hf : fX6_firstIn st p1 p2 = some r0) : G E WT x RX6 cX6_firstIn 3 (0, 0) st 0 [(0, .ref (eB E + 19)), (1, .int p1), (2, .int p2)] [] := by
  unfold fX6_firstIn at hf
  refine g_iload_n rfl 1 rfl dX6_firstIn_0 ?_
  refine g_iload_n rfl 2 rfl dX6_firstIn_1 ?_
  refine g_ishr dX6_firstIn_2 ?_
  refine g_iconst (1 : Int32) (by decide) dX6_firstIn_3 ?_
  refine g_iand dX6_firstIn_4 ?_
  refine g_iconst (1 : Int32) (by decide) dX6_firstIn_5 ?_
  refine g_icmp_ne 13 (by decide) dX6_firstIn_6 (fun h1 => ?_) (fun h1 => ?_)
  · rw [if_neg h1] at hf
    refine g_aload_n rfl 0 rfl dX6_firstIn_13 ?_
    refine g_iload_n rfl 1 rfl dX6_firstIn_14 ?_
    refine g_iload_n rfl 2 rfl dX6_firstIn_15 ?_
    refine g_iconst (1 : Int32) (by decide) dX6_firstIn_16 ?_
    refine g_callV0i (As := [.int p1, .int p2, .int (1 : Int32)]) (rest := []) cok6 mok_X6_nextIn tw3_170 tw3_172 ts3_8 oS19 B.1 (by decide) (kX6_nextIn  hf) rfl rfl (Nat.le_of_ble_eq_true rfl) ⟨Nat.le_refl _, Nat.le_refl _⟩ dX6_firstIn_17 ?_
    exact g_iret B.2.2.2 B.2.2.1 rfl rfl dX6_firstIn_20
  · rw [if_pos h1] at hf
    refine g_iload_n rfl 2 rfl dX6_firstIn_9 ?_
    refine g_goto 20 (by decide) dX6_firstIn_10 ?_
    exact g_iret B.2.2.2 B.2.2.1 (congrArg (fun z => some (Value.int z)) (Option.some.inj hf).symm) rfl dX6_firstIn_20
theorem kX6_firstIn {l : Launch} {E : Ev} {st : St} {p1 : Int32} {p2 : Int32} {r0 : Int32}  (hf : fX6_firstIn st p1 p2 = some r0) : CM l E WT yX6_firstIn cX6_firstIn 3 (some FieldType.int) 1 0 0 [.ref (eB E + 19), .int p1, .int p2] st (some (.int r0)) st :=
  CM.intro mok_X6_firstIn (Nat.le_of_ble_eq_true rfl) (fun x hl hR ht hr hQ _ => wX6_firstIn ⟨hR, ht, hr, hQ⟩ p1 p2 hf)
def fX5_has (st : St) (t : Nat) (p1 : Int32) : Int32 :=
  if ((jshr (sI st t 7) p1) &&& (1 : Int32)) = (1 : Int32) then ((1 : Int32)) else ((0 : Int32))
set_option maxHeartbeats 1000000 in
set_option maxRecDepth 20000 in
theorem wX5_has {E : Ev} {x : Cx} {r0 : Int32} {st : St} (B : Bd E x (some FieldType.boolean) (0) 0 0 (some (.int r0)) st) (t : Nat) (p1 : Int32) (h_t : Obj st 5 t) (hf : fX5_has st t p1 = r0) : G E WT x RX5 cX5_has 2 (0, 0) st 0 [(0, .ref (eB E + t)), (1, .int p1)] [] := by
  unfold fX5_has at hf
  refine g_aload_n rfl 0 rfl dX5_has_0 ?_
  refine g_get (j := 7) cok5 (by decide) (.int (sI st t 7)) (Or.inl tw1_122) (fun _ => h_t) (fun _ => rfl) dX5_has_1 ?_
  refine g_iload_n rfl 1 rfl dX5_has_4 ?_
  refine g_ishr dX5_has_5 ?_
  refine g_iconst (1 : Int32) (by decide) dX5_has_6 ?_
  refine g_iand dX5_has_7 ?_
  refine g_iconst (1 : Int32) (by decide) dX5_has_8 ?_
  refine g_icmp_ne 16 (by decide) dX5_has_9 (fun h1 => ?_) (fun h1 => ?_)
  · rw [if_neg h1] at hf
    refine g_iconst (0 : Int32) (by decide) dX5_has_16 ?_
    exact g_zret B.2.2.2 B.2.2.1 (by decide) (congrArg (fun z => some (Value.int z)) hf.symm) rfl dX5_has_17
  · rw [if_pos h1] at hf
    refine g_iconst (1 : Int32) (by decide) dX5_has_12 ?_
    refine g_goto 17 (by decide) dX5_has_13 ?_
    exact g_zret B.2.2.2 B.2.2.1 (by decide) (congrArg (fun z => some (Value.int z)) hf.symm) rfl dX5_has_17
theorem kX5_has {l : Launch} {E : Ev} {st : St} {t : Nat} {p1 : Int32} {r0 : Int32} (h_t : Obj st 5 t) (hf : fX5_has st t p1 = r0) : CM l E WT yX5_has cX5_has 2 (some FieldType.boolean) 0 0 0 [.ref (eB E + t), .int p1] st (some (.int r0)) st :=
  CM.intro mok_X5_has (Nat.le_of_ble_eq_true rfl) (fun x hl hR ht hr hQ _ => wX5_has ⟨hR, ht, hr, hQ⟩ t p1 h_t hf)
theorem fX5_has_b (st : St) (t : Nat) (p1 : Int32) : isb (fX5_has st t p1) = true := by
  unfold fX5_has
  (repeat' split) <;> first | rfl | exact fX8_lies_b _ _ _
def fX6_gatherFacts (p1 : Int32) (p2 : Int32) (p3 : Int32) (p4 : Int32) (st : St) : Option St :=
  chk (ixb p2 6) (some (pI (pI (pI (pI (pI (pI (pI st 20 0 p2) 20 1 (sI (pI st 20 0 p2) 2 p2.toNatClampNeg)) 20 2 p1) 20 3 p3) 20 4 p4) 20 5 (sI (pI (pI (pI (pI (pI st 20 0 p2) 20 1 (sI (pI st 20 0 p2) 2 p2.toNatClampNeg)) 20 2 p1) 20 3 p3) 20 4 p4) 19 8)) 20 6 (sI (pI (pI (pI (pI (pI (pI st 20 0 p2) 20 1 (sI (pI st 20 0 p2) 2 p2.toNatClampNeg)) 20 2 p1) 20 3 p3) 20 4 p4) 20 5 (sI (pI (pI (pI (pI (pI st 20 0 p2) 20 1 (sI (pI st 20 0 p2) 2 p2.toNatClampNeg)) 20 2 p1) 20 3 p3) 20 4 p4) 19 8)) 19 9)))
set_option maxHeartbeats 1000000 in
set_option maxRecDepth 20000 in
theorem wX6_gatherFacts {E : Ev} {x : Cx} {u0 : St} (B : Bd E x none (0) 0 0 none u0) (p1 : Int32) (p2 : Int32) (p3 : Int32) (p4 : Int32) (st : St)  (hf : fX6_gatherFacts p1 p2 p3 p4 st = some u0) : G E WT x RX6 cX6_gatherFacts 5 (0, 0) st 0 [(0, .ref (eB E + 19)), (1, .int p1), (2, .int p2), (3, .int p3), (4, .int p4)] [] := by
  unfold fX6_gatherFacts at hf
  refine g_aload_n rfl 0 rfl dX6_gatherFacts_0 ?_
  refine g_get (j := 1) cok6 (by decide) (.ref (eB E + 20)) (Or.inl tw1_194) oS19 vS19_1 dX6_gatherFacts_1 ?_
  refine g_iconst (0 : Int32) (by decide) dX6_gatherFacts_4 ?_
  refine g_iload_n rfl 2 rfl dX6_gatherFacts_5 ?_
  refine g_iastj 0 rfl aS20 (ixb_in rfl) B.2.1 wpI dX6_gatherFacts_6 ?_
  refine g_aload_n rfl 0 rfl dX6_gatherFacts_7 ?_
  refine g_get (j := 1) cok6 (by decide) (.ref (eB E + 20)) (Or.inl tw1_194) oS19 vS19_1 dX6_gatherFacts_8 ?_
  refine g_iconst (1 : Int32) (by decide) dX6_gatherFacts_11 ?_
  refine g_aload_n rfl 0 rfl dX6_gatherFacts_12 ?_
  refine g_get (j := 0) cok6 (by decide) (.ref (eB E + 1)) (Or.inl tw1_193) oS19 vS19_0 dX6_gatherFacts_13 ?_
  refine g_get (j := 0) cok4 (by decide) (.ref (eB E + 2)) (Or.inr nf_1) oS1 vS1_0 dX6_gatherFacts_16 ?_
  refine g_iload_n rfl 2 rfl dX6_gatherFacts_19 ?_
  obtain ⟨h1, hf⟩ := chk_some hf
  refine g_ialdj p2.toNatClampNeg rfl aS2 (ixb_in h1) dX6_gatherFacts_20 ?_
  refine g_iastj 1 rfl aS20 (ixb_in rfl) B.2.1 wpI dX6_gatherFacts_21 ?_
  refine g_aload_n rfl 0 rfl dX6_gatherFacts_22 ?_
  refine g_get (j := 1) cok6 (by decide) (.ref (eB E + 20)) (Or.inl tw1_194) oS19 vS19_1 dX6_gatherFacts_23 ?_
  refine g_iconst (2 : Int32) (by decide) dX6_gatherFacts_26 ?_
  refine g_iload_n rfl 1 rfl dX6_gatherFacts_27 ?_
  refine g_iastj 2 rfl aS20 (ixb_in rfl) B.2.1 wpI dX6_gatherFacts_28 ?_
  refine g_aload_n rfl 0 rfl dX6_gatherFacts_29 ?_
  refine g_get (j := 1) cok6 (by decide) (.ref (eB E + 20)) (Or.inl tw1_194) oS19 vS19_1 dX6_gatherFacts_30 ?_
  refine g_iconst (3 : Int32) (by decide) dX6_gatherFacts_33 ?_
  refine g_iload_n rfl 3 rfl dX6_gatherFacts_34 ?_
  refine g_iastj 3 rfl aS20 (ixb_in rfl) B.2.1 wpI dX6_gatherFacts_35 ?_
  refine g_aload_n rfl 0 rfl dX6_gatherFacts_36 ?_
  refine g_get (j := 1) cok6 (by decide) (.ref (eB E + 20)) (Or.inl tw1_194) oS19 vS19_1 dX6_gatherFacts_37 ?_
  refine g_iconst (4 : Int32) (by decide) dX6_gatherFacts_40 ?_
  refine g_iload 4 rfl dX6_gatherFacts_41 ?_
  refine g_iastj 4 rfl aS20 (ixb_in rfl) B.2.1 wpI dX6_gatherFacts_43 ?_
  refine g_aload_n rfl 0 rfl dX6_gatherFacts_44 ?_
  refine g_get (j := 1) cok6 (by decide) (.ref (eB E + 20)) (Or.inl tw1_194) oS19 vS19_1 dX6_gatherFacts_45 ?_
  refine g_iconst (5 : Int32) (by decide) dX6_gatherFacts_48 ?_
  refine g_aload_n rfl 0 rfl dX6_gatherFacts_49 ?_
  refine g_get (j := 8) cok6 (by decide) (.int (sI (pI (pI (pI (pI (pI st 20 0 p2) 20 1 (sI (pI st 20 0 p2) 2 p2.toNatClampNeg)) 20 2 p1) 20 3 p3) 20 4 p4) 19 8)) (Or.inl tw1_202) oS19 (fun _ => rfl) dX6_gatherFacts_50 ?_
  refine g_iastj 5 rfl aS20 (ixb_in rfl) B.2.1 wpI dX6_gatherFacts_53 ?_
  refine g_aload_n rfl 0 rfl dX6_gatherFacts_54 ?_
  refine g_get (j := 1) cok6 (by decide) (.ref (eB E + 20)) (Or.inl tw1_194) oS19 vS19_1 dX6_gatherFacts_55 ?_
  refine g_bipush (6 : Int32) (by decide) dX6_gatherFacts_58 ?_
  refine g_aload_n rfl 0 rfl dX6_gatherFacts_60 ?_
  refine g_get (j := 9) cok6 (by decide) (.int (sI (pI (pI (pI (pI (pI (pI st 20 0 p2) 20 1 (sI (pI st 20 0 p2) 2 p2.toNatClampNeg)) 20 2 p1) 20 3 p3) 20 4 p4) 20 5 (sI (pI (pI (pI (pI (pI st 20 0 p2) 20 1 (sI (pI st 20 0 p2) 2 p2.toNatClampNeg)) 20 2 p1) 20 3 p3) 20 4 p4) 19 8)) 19 9)) (Or.inl tw1_203) oS19 (fun _ => rfl) dX6_gatherFacts_61 ?_
  refine g_iastj 6 rfl aS20 (ixb_in rfl) B.2.1 wpI dX6_gatherFacts_64 ?_
  exact g_ret B.2.2.2 B.2.2.1 rfl (Option.some.inj hf).symm dX6_gatherFacts_65
theorem kX6_gatherFacts {l : Launch} {E : Ev} {st : St} {p1 : Int32} {p2 : Int32} {p3 : Int32} {p4 : Int32} {u0 : St}  (hf : fX6_gatherFacts p1 p2 p3 p4 st = some u0) : CM l E WT yX6_gatherFacts cX6_gatherFacts 5 none 0 0 0 [.ref (eB E + 19), .int p1, .int p2, .int p3, .int p4] st none u0 :=
  CM.intro mok_X6_gatherFacts (Nat.le_of_ble_eq_true rfl) (fun x hl hR ht hr hQ _ => wX6_gatherFacts ⟨hR, ht, hr, hQ⟩ p1 p2 p3 p4 st hf)
def fX5_joined_b212 (l5 : Int64) : Option Int32 :=
  if 0 < (lg_cmp l5 (1000000000 : Int64)) then (some (-2000000000 : Int32)) else (if 0 ≤ (lg_cmp l5 (-1000000000 : Int64)) then (some l5.toInt32) else (some (-2000000000 : Int32)))
set_option maxHeartbeats 1000000 in
set_option maxRecDepth 20000 in
theorem wX5_joined_b212 {E : Ev} {x : Cx} {r0 : Int32} {st : St} (B : Bd E x (some FieldType.int) (0) 0 0 (some (.int r0)) st) (l5 : Int64)  (hf : fX5_joined_b212 l5 = some r0) : G E WT x RX5 cX5_joined 7 (0, 0) st 212 [(5, .long l5)] [] := by
  unfold fX5_joined_b212 at hf
  refine g_lload 0 rfl dX5_joined_212 ?_
  refine g_ldc2 tw2_205 dX5_joined_214 ?_
  refine g_lcmp dX5_joined_217 ?_
  refine g_if_gt 230 (by decide) dX5_joined_218 (fun h1 => ?_) (fun h1 => ?_)
  · rw [if_pos h1] at hf
    refine g_ldc tw2_201 dX5_joined_230 ?_
    refine g_goto 238 (by decide) dX5_joined_232 ?_
    exact g_iret B.2.2.2 B.2.2.1 (congrArg (fun z => some (Value.int z)) (Option.some.inj hf).symm) rfl dX5_joined_238
  · rw [if_neg h1] at hf
    refine g_lload 0 rfl dX5_joined_221 ?_
    refine g_ldc2 tw2_206 dX5_joined_223 ?_
    refine g_lcmp dX5_joined_226 ?_
    refine g_if_ge 235 (by decide) dX5_joined_227 (fun h2 => ?_) (fun h2 => ?_)
    · rw [if_pos h2] at hf
      refine g_lload 0 rfl dX5_joined_235 ?_
      refine g_l2i dX5_joined_237 ?_
      exact g_iret B.2.2.2 B.2.2.1 (congrArg (fun z => some (Value.int z)) (Option.some.inj hf).symm) rfl dX5_joined_238
    · rw [if_neg h2] at hf
      refine g_ldc tw2_201 dX5_joined_230 ?_
      refine g_goto 238 (by decide) dX5_joined_232 ?_
      exact g_iret B.2.2.2 B.2.2.1 (congrArg (fun z => some (Value.int z)) (Option.some.inj hf).symm) rfl dX5_joined_238
def fX5_joined_b204 (s0 : Int64) : Option Int32 :=
  fX5_joined_b212 s0
set_option maxHeartbeats 1000000 in
set_option maxRecDepth 20000 in
theorem wX5_joined_b204 {E : Ev} {x : Cx} {r0 : Int32} {st : St} (B : Bd E x (some FieldType.int) (0) 0 0 (some (.int r0)) st) (s0 : Int64)  (hf : fX5_joined_b204 s0 = some r0) : G E WT x RX5 cX5_joined 7 (0, 0) st 204 [] [.long s0] := by
  unfold fX5_joined_b204 at hf
  refine g_lstore [(5, .long s0)] (by decide) rfl dX5_joined_204 ?_
  refine g_goto 212 (by decide) dX5_joined_206 ?_
  refine g_lvs [0] rfl ?_
  exact wX5_joined_b212 B  s0 hf
def fX5_joined (p0 : Int32) (p1 : Int64) (p2 : Int64) : Option Int32 :=
  if p0 = (37 : Int32) then (if (lg_cmp p2 (0 : Int64)) = 0 then (some (-2000000000 : Int32)) else (if p0 = (47 : Int32) then (chk (nzl p2) (fX5_joined_b204 (p1 / p2))) else (chk (nzl p2) (fX5_joined_b204 (ljrem p1 p2))))) else (if p0 = (42 : Int32) then (fX5_joined_b212 (p1 * p2)) else (if p0 = (43 : Int32) then (fX5_joined_b212 (p1 + p2)) else (if p0 = (45 : Int32) then (fX5_joined_b212 (p1 - p2)) else (if p0 = (47 : Int32) then (if (lg_cmp p2 (0 : Int64)) = 0 then (some (-2000000000 : Int32)) else (if p0 = (47 : Int32) then (chk (nzl p2) (fX5_joined_b204 (p1 / p2))) else (chk (nzl p2) (fX5_joined_b204 (ljrem p1 p2))))) else (if p0 = (60 : Int32) then (if 0 ≤ (lg_cmp p1 p2) then (some (0 : Int32)) else (some (1 : Int32))) else (if p0 = (61 : Int32) then (if (lg_cmp p1 p2) = 0 then (some (1 : Int32)) else (some (0 : Int32))) else (if p0 = (62 : Int32) then (if (lg_cmp p1 p2) ≤ 0 then (some (0 : Int32)) else (some (1 : Int32))) else (some (-2000000000 : Int32)))))))))
set_option maxHeartbeats 1000000 in
set_option maxRecDepth 20000 in
theorem wX5_joined {E : Ev} {x : Cx} {r0 : Int32} {st : St} (B : Bd E x (some FieldType.int) (0) 0 0 (some (.int r0)) st) (p0 : Int32) (p1 : Int64) (p2 : Int64)  (hf : fX5_joined p0 p1 p2 = some r0) : G E WT x RX5 cX5_joined 7 (0, 0) st 0 [(0, .int p0), (1, .long p1), (3, .long p2)] [] := by
  unfold fX5_joined at hf
  refine g_iload_n rfl 0 rfl dX5_joined_0 ?_
  by_cases h1 : p0 = (37 : Int32)
  · rw [if_pos h1] at hf
    refine g_tableIn 179 180 dX5_joined_1 (by rw [h1]; decide) (by rw [h1]; decide) (by rw [h1]; decide) (by decide) ?_
    refine g_lload_n rfl 2 rfl dX5_joined_180 ?_
    refine g_lconst (0 : Int64) (by decide) dX5_joined_181 ?_
    refine g_lcmp dX5_joined_182 ?_
    refine g_if_ne 189 (by decide) dX5_joined_183 (fun h2 => ?_) (fun h2 => ?_)
    · rw [if_neg h2] at hf
      refine g_iload_n rfl 0 rfl dX5_joined_189 ?_
      refine g_bipush (47 : Int32) (by decide) dX5_joined_190 ?_
      refine g_icmp_ne 201 (by decide) dX5_joined_192 (fun h3 => ?_) (fun h3 => ?_)
      · rw [if_neg h3] at hf
        refine g_lload_n rfl 1 rfl dX5_joined_201 ?_
        refine g_lload_n rfl 2 rfl dX5_joined_202 ?_
        obtain ⟨h4, hf⟩ := chk_some hf
        refine g_lrem (nzl_ne h4) dX5_joined_203 ?_
        refine g_lvs [] rfl ?_
        exact wX5_joined_b204 B  (ljrem p1 p2) hf
      · rw [if_pos h3] at hf
        refine g_lload_n rfl 1 rfl dX5_joined_195 ?_
        refine g_lload_n rfl 2 rfl dX5_joined_196 ?_
        obtain ⟨h5, hf⟩ := chk_some hf
        refine g_ldiv (nzl_ne h5) dX5_joined_197 ?_
        refine g_goto 204 (by decide) dX5_joined_198 ?_
        refine g_lvs [] rfl ?_
        exact wX5_joined_b204 B  (p1 / p2) hf
    · rw [if_pos h2] at hf
      refine g_ldc tw2_201 dX5_joined_186 ?_
      exact g_iret B.2.2.2 B.2.2.1 (congrArg (fun z => some (Value.int z)) (Option.some.inj hf).symm) rfl dX5_joined_188
  · rw [if_neg h1] at hf
    by_cases h6 : p0 = (42 : Int32)
    · rw [if_pos h6] at hf
      refine g_tableIn 171 172 dX5_joined_1 (by rw [h6]; decide) (by rw [h6]; decide) (by rw [h6]; decide) (by decide) ?_
      refine g_lload_n rfl 1 rfl dX5_joined_172 ?_
      refine g_lload_n rfl 2 rfl dX5_joined_173 ?_
      refine g_lmul dX5_joined_174 ?_
      refine g_lstore [(5, .long (p1 * p2)), (0, .int p0), (1, .long p1), (3, .long p2)] (by decide) rfl dX5_joined_175 ?_
      refine g_goto 212 (by decide) dX5_joined_177 ?_
      refine g_lvs [0] rfl ?_
      exact wX5_joined_b212 B  (p1 * p2) hf
    · rw [if_neg h6] at hf
      by_cases h7 : p0 = (43 : Int32)
      · rw [if_pos h7] at hf
        refine g_tableIn 155 156 dX5_joined_1 (by rw [h7]; decide) (by rw [h7]; decide) (by rw [h7]; decide) (by decide) ?_
        refine g_lload_n rfl 1 rfl dX5_joined_156 ?_
        refine g_lload_n rfl 2 rfl dX5_joined_157 ?_
        refine g_ladd dX5_joined_158 ?_
        refine g_lstore [(5, .long (p1 + p2)), (0, .int p0), (1, .long p1), (3, .long p2)] (by decide) rfl dX5_joined_159 ?_
        refine g_goto 212 (by decide) dX5_joined_161 ?_
        refine g_lvs [0] rfl ?_
        exact wX5_joined_b212 B  (p1 + p2) hf
      · rw [if_neg h7] at hf
        by_cases h8 : p0 = (45 : Int32)
        · rw [if_pos h8] at hf
          refine g_tableIn 163 164 dX5_joined_1 (by rw [h8]; decide) (by rw [h8]; decide) (by rw [h8]; decide) (by decide) ?_
          refine g_lload_n rfl 1 rfl dX5_joined_164 ?_
          refine g_lload_n rfl 2 rfl dX5_joined_165 ?_
          refine g_lsub dX5_joined_166 ?_
          refine g_lstore [(5, .long (p1 - p2)), (0, .int p0), (1, .long p1), (3, .long p2)] (by decide) rfl dX5_joined_167 ?_
          refine g_goto 212 (by decide) dX5_joined_169 ?_
          refine g_lvs [0] rfl ?_
          exact wX5_joined_b212 B  (p1 - p2) hf
        · rw [if_neg h8] at hf
          by_cases h9 : p0 = (47 : Int32)
          · rw [if_pos h9] at hf
            refine g_tableIn 179 180 dX5_joined_1 (by rw [h9]; decide) (by rw [h9]; decide) (by rw [h9]; decide) (by decide) ?_
            refine g_lload_n rfl 2 rfl dX5_joined_180 ?_
            refine g_lconst (0 : Int64) (by decide) dX5_joined_181 ?_
            refine g_lcmp dX5_joined_182 ?_
            refine g_if_ne 189 (by decide) dX5_joined_183 (fun h10 => ?_) (fun h10 => ?_)
            · rw [if_neg h10] at hf
              refine g_iload_n rfl 0 rfl dX5_joined_189 ?_
              refine g_bipush (47 : Int32) (by decide) dX5_joined_190 ?_
              refine g_icmp_ne 201 (by decide) dX5_joined_192 (fun h11 => ?_) (fun h11 => ?_)
              · rw [if_neg h11] at hf
                refine g_lload_n rfl 1 rfl dX5_joined_201 ?_
                refine g_lload_n rfl 2 rfl dX5_joined_202 ?_
                obtain ⟨h12, hf⟩ := chk_some hf
                refine g_lrem (nzl_ne h12) dX5_joined_203 ?_
                refine g_lvs [] rfl ?_
                exact wX5_joined_b204 B  (ljrem p1 p2) hf
              · rw [if_pos h11] at hf
                refine g_lload_n rfl 1 rfl dX5_joined_195 ?_
                refine g_lload_n rfl 2 rfl dX5_joined_196 ?_
                obtain ⟨h13, hf⟩ := chk_some hf
                refine g_ldiv (nzl_ne h13) dX5_joined_197 ?_
                refine g_goto 204 (by decide) dX5_joined_198 ?_
                refine g_lvs [] rfl ?_
                exact wX5_joined_b204 B  (p1 / p2) hf
            · rw [if_pos h10] at hf
              refine g_ldc tw2_201 dX5_joined_186 ?_
              exact g_iret B.2.2.2 B.2.2.1 (congrArg (fun z => some (Value.int z)) (Option.some.inj hf).symm) rfl dX5_joined_188
          · rw [if_neg h9] at hf
            by_cases h14 : p0 = (60 : Int32)
            · rw [if_pos h14] at hf
              refine g_tableIn 119 120 dX5_joined_1 (by rw [h14]; decide) (by rw [h14]; decide) (by rw [h14]; decide) (by decide) ?_
              refine g_lload_n rfl 1 rfl dX5_joined_120 ?_
              refine g_lload_n rfl 2 rfl dX5_joined_121 ?_
              refine g_lcmp dX5_joined_122 ?_
              refine g_if_ge 130 (by decide) dX5_joined_123 (fun h15 => ?_) (fun h15 => ?_)
              · rw [if_pos h15] at hf
                refine g_iconst (0 : Int32) (by decide) dX5_joined_130 ?_
                exact g_iret B.2.2.2 B.2.2.1 (congrArg (fun z => some (Value.int z)) (Option.some.inj hf).symm) rfl dX5_joined_131
              · rw [if_neg h15] at hf
                refine g_iconst (1 : Int32) (by decide) dX5_joined_126 ?_
                refine g_goto 131 (by decide) dX5_joined_127 ?_
                exact g_iret B.2.2.2 B.2.2.1 (congrArg (fun z => some (Value.int z)) (Option.some.inj hf).symm) rfl dX5_joined_131
            · rw [if_neg h14] at hf
              by_cases h16 : p0 = (61 : Int32)
              · rw [if_pos h16] at hf
                refine g_tableIn 143 144 dX5_joined_1 (by rw [h16]; decide) (by rw [h16]; decide) (by rw [h16]; decide) (by decide) ?_
                refine g_lload_n rfl 1 rfl dX5_joined_144 ?_
                refine g_lload_n rfl 2 rfl dX5_joined_145 ?_
                refine g_lcmp dX5_joined_146 ?_
                refine g_if_ne 154 (by decide) dX5_joined_147 (fun h17 => ?_) (fun h17 => ?_)
                · rw [if_neg h17] at hf
                  refine g_iconst (0 : Int32) (by decide) dX5_joined_154 ?_
                  exact g_iret B.2.2.2 B.2.2.1 (congrArg (fun z => some (Value.int z)) (Option.some.inj hf).symm) rfl dX5_joined_155
                · rw [if_pos h17] at hf
                  refine g_iconst (1 : Int32) (by decide) dX5_joined_150 ?_
                  refine g_goto 155 (by decide) dX5_joined_151 ?_
                  exact g_iret B.2.2.2 B.2.2.1 (congrArg (fun z => some (Value.int z)) (Option.some.inj hf).symm) rfl dX5_joined_155
              · rw [if_neg h16] at hf
                by_cases h18 : p0 = (62 : Int32)
                · rw [if_pos h18] at hf
                  refine g_tableIn 131 132 dX5_joined_1 (by rw [h18]; decide) (by rw [h18]; decide) (by rw [h18]; decide) (by decide) ?_
                  refine g_lload_n rfl 1 rfl dX5_joined_132 ?_
                  refine g_lload_n rfl 2 rfl dX5_joined_133 ?_
                  refine g_lcmp dX5_joined_134 ?_
                  refine g_if_le 142 (by decide) dX5_joined_135 (fun h19 => ?_) (fun h19 => ?_)
                  · rw [if_pos h19] at hf
                    refine g_iconst (0 : Int32) (by decide) dX5_joined_142 ?_
                    exact g_iret B.2.2.2 B.2.2.1 (congrArg (fun z => some (Value.int z)) (Option.some.inj hf).symm) rfl dX5_joined_143
                  · rw [if_neg h19] at hf
                    refine g_iconst (1 : Int32) (by decide) dX5_joined_138 ?_
                    refine g_goto 143 (by decide) dX5_joined_139 ?_
                    exact g_iret B.2.2.2 B.2.2.1 (congrArg (fun z => some (Value.int z)) (Option.some.inj hf).symm) rfl dX5_joined_143
                · rw [if_neg h18] at hf
                  refine g_tabDef 26 209 [(37 : Int32), (42 : Int32), (43 : Int32), (45 : Int32), (47 : Int32), (60 : Int32), (61 : Int32), (62 : Int32)] dX5_joined_1 (by decide) (by simp only [List.forall_mem_cons]; exact ⟨h1, h6, h7, h8, h9, h14, h16, h18, fun _ h => nomatch h⟩) (by decide) (by decide) ?_
                  refine g_ldc tw2_201 dX5_joined_209 ?_
                  exact g_iret B.2.2.2 B.2.2.1 (congrArg (fun z => some (Value.int z)) (Option.some.inj hf).symm) rfl dX5_joined_211
theorem kX5_joined {l : Launch} {E : Ev} {st : St} {p0 : Int32} {p1 : Int64} {p2 : Int64} {r0 : Int32}  (hf : fX5_joined p0 p1 p2 = some r0) : CM l E WT yX5_joined cX5_joined 7 (some FieldType.int) 0 0 0 [.int p0, .long p1, .long p2] st (some (.int r0)) st :=
  CM.intro mok_X5_joined (Nat.le_of_ble_eq_true rfl) (fun x hl hR ht hr hQ _ => wX5_joined ⟨hR, ht, hr, hQ⟩ p0 p1 p2 hf)
def fX5_worth_b311 (k9 : Nat → Nat → Nat → Int32 → Int32 → Int32 → St → Option (Int32 × St))(t : Nat) (fa : Nat) (sk : Nat) (l4 : Int32) (l5 : Int32) (l6 : Int32) (st : St) : Option (Int32 × St) :=
  k9 t fa sk l4 l5 (l6 + (1 : Int32)) st
set_option maxHeartbeats 1000000 in
set_option maxRecDepth 20000 in
theorem wX5_worth_b311 {E : Ev} {x : Cx} {r0 : Int32} {u0 : St} (B : Bd E x (some FieldType.int) (1) 0 0 (some (.int r0)) u0) {k9 : Nat → Nat → Nat → Int32 → Int32 → Int32 → St → Option (Int32 × St)} (hk9 : ∀ (t : Nat) (fa : Nat) (sk : Nat) (l4 : Int32) (l5 : Int32) (l6 : Int32) (st : St), (Obj st 5 t) → (Obj st 10 fa) → (Obj st 10 sk) → k9 t fa sk l4 l5 l6 st = some (r0, u0) → G E WT x RX5 cX5_worth 10 (0, 0) st 9 [(0, .ref (eB E + t)), (2, .ref (eB E + fa)), (3, .ref (eB E + sk)), (4, .int l4), (5, .int l5), (6, .int l6)] []) (t : Nat) (fa : Nat) (sk : Nat) (l4 : Int32) (l5 : Int32) (l6 : Int32) (st : St) (h_t : Obj st 5 t) (h_fa : Obj st 10 fa) (h_sk : Obj st 10 sk) (hf : fX5_worth_b311 k9 t fa sk l4 l5 l6 st = some (r0, u0)) : G E WT x RX5 cX5_worth 10 (0, 0) st 311 [(0, .ref (eB E + t)), (2, .ref (eB E + fa)), (3, .ref (eB E + sk)), (4, .int l4), (5, .int l5), (6, .int l6)] [] := by
  unfold fX5_worth_b311 at hf
  refine g_iinc (l6 + (1 : Int32)) [(6, .int (l6 + (1 : Int32))), (0, .ref (eB E + t)), (2, .ref (eB E + fa)), (3, .ref (eB E + sk)), (4, .int l4), (5, .int l5)] 5 rfl (congrArg (fun z => l6 + z) (show Int32.ofInt (1) = (1 : Int32) by decide)) (by decide) rfl dX5_worth_311 ?_
  refine g_goto 9 (by decide) dX5_worth_314 ?_
  refine g_lvs [1, 2, 3, 4, 5, 0] rfl ?_
  exact hk9 t fa sk l4 l5 (l6 + (1 : Int32)) st h_t h_fa h_sk hf
def fX5_worth_b285 (k9 : Nat → Nat → Nat → Int32 → Int32 → Int32 → St → Option (Int32 × St))(t : Nat) (fa : Nat) (sk : Nat) (l4 : Int32) (l5 : Int32) (l6 : Int32) (s0 : Int32) (st : St) : Option (Int32 × St) :=
  if s0 = (-2000000000 : Int32) then (some ((-2000000000 : Int32), st)) else (chk (ixb ((l5 + (-1 : Int32)) - (1 : Int32)) (sN st sk)) (fX5_worth_b311 k9 t fa sk (l4 + (1 : Int32)) (l5 + (-1 : Int32)) l6 (pI st sk (((l5 + (-1 : Int32)) - (1 : Int32)).toNatClampNeg) s0)))
set_option maxHeartbeats 1000000 in
set_option maxRecDepth 20000 in
theorem wX5_worth_b285 {E : Ev} {x : Cx} {r0 : Int32} {u0 : St} (B : Bd E x (some FieldType.int) (1) 0 0 (some (.int r0)) u0) {k9 : Nat → Nat → Nat → Int32 → Int32 → Int32 → St → Option (Int32 × St)} (hk9 : ∀ (t : Nat) (fa : Nat) (sk : Nat) (l4 : Int32) (l5 : Int32) (l6 : Int32) (st : St), (Obj st 5 t) → (Obj st 10 fa) → (Obj st 10 sk) → k9 t fa sk l4 l5 l6 st = some (r0, u0) → G E WT x RX5 cX5_worth 10 (0, 0) st 9 [(0, .ref (eB E + t)), (2, .ref (eB E + fa)), (3, .ref (eB E + sk)), (4, .int l4), (5, .int l5), (6, .int l6)] []) (t : Nat) (fa : Nat) (sk : Nat) (l4 : Int32) (l5 : Int32) (l6 : Int32) (s0 : Int32) (st : St) (h_t : Obj st 5 t) (h_fa : Obj st 10 fa) (h_sk : Obj st 10 sk) (hf : fX5_worth_b285 k9 t fa sk l4 l5 l6 s0 st = some (r0, u0)) : G E WT x RX5 cX5_worth 10 (0, 0) st 285 [(0, .ref (eB E + t)), (2, .ref (eB E + fa)), (3, .ref (eB E + sk)), (4, .int l4), (5, .int l5), (6, .int l6)] [.int s0] := by
  unfold fX5_worth_b285 at hf
  refine g_istore [(9, .int s0), (0, .ref (eB E + t)), (2, .ref (eB E + fa)), (3, .ref (eB E + sk)), (4, .int l4), (5, .int l5), (6, .int l6)] (by decide) rfl dX5_worth_285 ?_
  refine g_iload 0 rfl dX5_worth_287 ?_
  refine g_ldc tw2_201 dX5_worth_289 ?_
  refine g_icmp_ne 297 (by decide) dX5_worth_291 (fun h1 => ?_) (fun h1 => ?_)
  · rw [if_neg h1] at hf
    refine g_iinc (l5 + (-1 : Int32)) [(5, .int (l5 + (-1 : Int32))), (9, .int s0), (0, .ref (eB E + t)), (2, .ref (eB E + fa)), (3, .ref (eB E + sk)), (4, .int l4), (6, .int l6)] 5 rfl (congrArg (fun z => l5 + z) (show Int32.ofInt (-1) = (-1 : Int32) by decide)) (by decide) rfl dX5_worth_297 ?_
    refine g_aload_n rfl 4 rfl dX5_worth_300 ?_
    refine g_iload 0 rfl dX5_worth_301 ?_
    refine g_iconst (1 : Int32) (by decide) dX5_worth_303 ?_
    refine g_isub dX5_worth_304 ?_
    refine g_iload 1 rfl dX5_worth_305 ?_
    obtain ⟨h2, hf⟩ := chk_some hf
    refine g_iastj (((l5 + (-1 : Int32)) - (1 : Int32)).toNatClampNeg) rfl (fun _ => ⟨h_sk.1, h_sk.2, rfl⟩) (ixb_in h2) B.2.1 wpI dX5_worth_307 ?_
    refine g_iinc (l4 + (1 : Int32)) [(4, .int (l4 + (1 : Int32))), (5, .int (l5 + (-1 : Int32))), (9, .int s0), (0, .ref (eB E + t)), (2, .ref (eB E + fa)), (3, .ref (eB E + sk)), (6, .int l6)] 5 rfl (congrArg (fun z => l4 + z) (show Int32.ofInt (1) = (1 : Int32) by decide)) (by decide) rfl dX5_worth_308 ?_
    refine g_lvs [3, 4, 5, 0, 1, 6] rfl ?_
    exact wX5_worth_b311 B hk9 t fa sk (l4 + (1 : Int32)) (l5 + (-1 : Int32)) l6 (pI st sk (((l5 + (-1 : Int32)) - (1 : Int32)).toNatClampNeg) s0) h_t h_fa h_sk hf
  · rw [if_pos h1] at hf
    refine g_ldc tw2_201 dX5_worth_294 ?_
    exact g_iret B.2.2.2 B.2.2.1 (congrArg (fun z => some (Value.int z)) (Prod.mk.inj (Option.some.inj hf)).1.symm) (Prod.mk.inj (Option.some.inj hf)).2.symm dX5_worth_296
def fX5_worth_b212 (k9 : Nat → Nat → Nat → Int32 → Int32 → Int32 → St → Option (Int32 × St))(t : Nat) (fa : Nat) (sk : Nat) (l5 : Int32) (l6 : Int32) (s0 : Int32) (st : St) : Option (Int32 × St) :=
  fX5_worth_b311 k9 t fa sk s0 l5 l6 st
set_option maxHeartbeats 1000000 in
set_option maxRecDepth 20000 in
theorem wX5_worth_b212 {E : Ev} {x : Cx} {r0 : Int32} {u0 : St} (B : Bd E x (some FieldType.int) (1) 0 0 (some (.int r0)) u0) {k9 : Nat → Nat → Nat → Int32 → Int32 → Int32 → St → Option (Int32 × St)} (hk9 : ∀ (t : Nat) (fa : Nat) (sk : Nat) (l4 : Int32) (l5 : Int32) (l6 : Int32) (st : St), (Obj st 5 t) → (Obj st 10 fa) → (Obj st 10 sk) → k9 t fa sk l4 l5 l6 st = some (r0, u0) → G E WT x RX5 cX5_worth 10 (0, 0) st 9 [(0, .ref (eB E + t)), (2, .ref (eB E + fa)), (3, .ref (eB E + sk)), (4, .int l4), (5, .int l5), (6, .int l6)] []) (t : Nat) (fa : Nat) (sk : Nat) (l5 : Int32) (l6 : Int32) (s0 : Int32) (st : St) (h_t : Obj st 5 t) (h_fa : Obj st 10 fa) (h_sk : Obj st 10 sk) (hf : fX5_worth_b212 k9 t fa sk l5 l6 s0 st = some (r0, u0)) : G E WT x RX5 cX5_worth 10 (0, 0) st 212 [(0, .ref (eB E + t)), (2, .ref (eB E + fa)), (3, .ref (eB E + sk)), (5, .int l5), (6, .int l6)] [.int s0] := by
  unfold fX5_worth_b212 at hf
  refine g_istore [(4, .int s0), (0, .ref (eB E + t)), (2, .ref (eB E + fa)), (3, .ref (eB E + sk)), (5, .int l5), (6, .int l6)] (by decide) rfl dX5_worth_212 ?_
  refine g_goto 311 (by decide) dX5_worth_214 ?_
  refine g_lvs [1, 2, 3, 0, 4, 5] rfl ?_
  exact wX5_worth_b311 B hk9 t fa sk s0 l5 l6 st h_t h_fa h_sk hf
def fX5_worth_b196 (k9 : Nat → Nat → Nat → Int32 → Int32 → Int32 → St → Option (Int32 × St))(t : Nat) (fa : Nat) (sk : Nat) (l4 : Int32) (l6 : Int32) (l8 : Int32) (l9 : Int32) (s0 : Int32) (st : St) : Option (Int32 × St) :=
  if l9 = 0 then (fX5_worth_b212 k9 t fa sk s0 l6 (l4 + (2 : Int32)) st) else (fX5_worth_b212 k9 t fa sk s0 l6 l8 st)
set_option maxHeartbeats 1000000 in
set_option maxRecDepth 20000 in
theorem wX5_worth_b196 {E : Ev} {x : Cx} {r0 : Int32} {u0 : St} (B : Bd E x (some FieldType.int) (1) 0 0 (some (.int r0)) u0) {k9 : Nat → Nat → Nat → Int32 → Int32 → Int32 → St → Option (Int32 × St)} (hk9 : ∀ (t : Nat) (fa : Nat) (sk : Nat) (l4 : Int32) (l5 : Int32) (l6 : Int32) (st : St), (Obj st 5 t) → (Obj st 10 fa) → (Obj st 10 sk) → k9 t fa sk l4 l5 l6 st = some (r0, u0) → G E WT x RX5 cX5_worth 10 (0, 0) st 9 [(0, .ref (eB E + t)), (2, .ref (eB E + fa)), (3, .ref (eB E + sk)), (4, .int l4), (5, .int l5), (6, .int l6)] []) (t : Nat) (fa : Nat) (sk : Nat) (l4 : Int32) (l6 : Int32) (l8 : Int32) (l9 : Int32) (s0 : Int32) (st : St) (h_t : Obj st 5 t) (h_fa : Obj st 10 fa) (h_sk : Obj st 10 sk) (hf : fX5_worth_b196 k9 t fa sk l4 l6 l8 l9 s0 st = some (r0, u0)) : G E WT x RX5 cX5_worth 10 (0, 0) st 196 [(0, .ref (eB E + t)), (2, .ref (eB E + fa)), (3, .ref (eB E + sk)), (4, .int l4), (6, .int l6), (8, .int l8), (9, .int l9)] [.int s0] := by
  unfold fX5_worth_b196 at hf
  refine g_istore [(5, .int s0), (0, .ref (eB E + t)), (2, .ref (eB E + fa)), (3, .ref (eB E + sk)), (4, .int l4), (6, .int l6), (8, .int l8), (9, .int l9)] (by decide) rfl dX5_worth_196 ?_
  refine g_iload 7 rfl dX5_worth_198 ?_
  refine g_if_eq 208 (by decide) dX5_worth_200 (fun h1 => ?_) (fun h1 => ?_)
  · rw [if_pos h1] at hf
    refine g_iload 4 rfl dX5_worth_208 ?_
    refine g_iconst (2 : Int32) (by decide) dX5_worth_210 ?_
    refine g_iadd dX5_worth_211 ?_
    refine g_lvs [1, 2, 3, 0, 5] rfl ?_
    exact wX5_worth_b212 B hk9 t fa sk s0 l6 (l4 + (2 : Int32)) st h_t h_fa h_sk hf
  · rw [if_neg h1] at hf
    refine g_iload 6 rfl dX5_worth_203 ?_
    refine g_goto 212 (by decide) dX5_worth_205 ?_
    refine g_lvs [1, 2, 3, 0, 5] rfl ?_
    exact wX5_worth_b212 B hk9 t fa sk s0 l6 l8 st h_t h_fa h_sk hf
def fX5_worth_b180 (k9 : Nat → Nat → Nat → Int32 → Int32 → Int32 → St → Option (Int32 × St))(t : Nat) (fa : Nat) (sk : Nat) (l4 : Int32) (l5 : Int32) (l6 : Int32) (l8 : Int32) (s0 : Int32) (st : St) : Option (Int32 × St) :=
  if s0 = 0 then (fX5_worth_b196 k9 t fa sk l4 l6 l8 s0 (l5 - (1 : Int32)) st) else (fX5_worth_b196 k9 t fa sk l4 l6 l8 s0 l5 st)
set_option maxHeartbeats 1000000 in
set_option maxRecDepth 20000 in
theorem wX5_worth_b180 {E : Ev} {x : Cx} {r0 : Int32} {u0 : St} (B : Bd E x (some FieldType.int) (1) 0 0 (some (.int r0)) u0) {k9 : Nat → Nat → Nat → Int32 → Int32 → Int32 → St → Option (Int32 × St)} (hk9 : ∀ (t : Nat) (fa : Nat) (sk : Nat) (l4 : Int32) (l5 : Int32) (l6 : Int32) (st : St), (Obj st 5 t) → (Obj st 10 fa) → (Obj st 10 sk) → k9 t fa sk l4 l5 l6 st = some (r0, u0) → G E WT x RX5 cX5_worth 10 (0, 0) st 9 [(0, .ref (eB E + t)), (2, .ref (eB E + fa)), (3, .ref (eB E + sk)), (4, .int l4), (5, .int l5), (6, .int l6)] []) (t : Nat) (fa : Nat) (sk : Nat) (l4 : Int32) (l5 : Int32) (l6 : Int32) (l8 : Int32) (s0 : Int32) (st : St) (h_t : Obj st 5 t) (h_fa : Obj st 10 fa) (h_sk : Obj st 10 sk) (hf : fX5_worth_b180 k9 t fa sk l4 l5 l6 l8 s0 st = some (r0, u0)) : G E WT x RX5 cX5_worth 10 (0, 0) st 180 [(0, .ref (eB E + t)), (2, .ref (eB E + fa)), (3, .ref (eB E + sk)), (4, .int l4), (5, .int l5), (6, .int l6), (8, .int l8)] [.int s0] := by
  unfold fX5_worth_b180 at hf
  refine g_istore [(9, .int s0), (0, .ref (eB E + t)), (2, .ref (eB E + fa)), (3, .ref (eB E + sk)), (4, .int l4), (5, .int l5), (6, .int l6), (8, .int l8)] (by decide) rfl dX5_worth_180 ?_
  refine g_iload 0 rfl dX5_worth_182 ?_
  refine g_if_eq 192 (by decide) dX5_worth_184 (fun h1 => ?_) (fun h1 => ?_)
  · rw [if_pos h1] at hf
    refine g_iload 5 rfl dX5_worth_192 ?_
    refine g_iconst (1 : Int32) (by decide) dX5_worth_194 ?_
    refine g_isub dX5_worth_195 ?_
    refine g_lvs [1, 2, 3, 4, 6, 7, 0] rfl ?_
    exact wX5_worth_b196 B hk9 t fa sk l4 l6 l8 s0 (l5 - (1 : Int32)) st h_t h_fa h_sk hf
  · rw [if_neg h1] at hf
    refine g_iload 5 rfl dX5_worth_187 ?_
    refine g_goto 196 (by decide) dX5_worth_189 ?_
    refine g_lvs [1, 2, 3, 4, 6, 7, 0] rfl ?_
    exact wX5_worth_b196 B hk9 t fa sk l4 l6 l8 s0 l5 st h_t h_fa h_sk hf
def fX5_worth_b172 (k9 : Nat → Nat → Nat → Int32 → Int32 → Int32 → St → Option (Int32 × St))(t : Nat) (fa : Nat) (sk : Nat) (l4 : Int32) (l5 : Int32) (l6 : Int32) (l8 : Int32) (s0 : Int32) (s1 : Int32) (st : St) : Option (Int32 × St) :=
  if s0 = s1 then (fX5_worth_b180 k9 t fa sk l4 l5 l6 l8 (1 : Int32) st) else (fX5_worth_b180 k9 t fa sk l4 l5 l6 l8 (0 : Int32) st)
set_option maxHeartbeats 1000000 in
set_option maxRecDepth 20000 in
theorem wX5_worth_b172 {E : Ev} {x : Cx} {r0 : Int32} {u0 : St} (B : Bd E x (some FieldType.int) (1) 0 0 (some (.int r0)) u0) {k9 : Nat → Nat → Nat → Int32 → Int32 → Int32 → St → Option (Int32 × St)} (hk9 : ∀ (t : Nat) (fa : Nat) (sk : Nat) (l4 : Int32) (l5 : Int32) (l6 : Int32) (st : St), (Obj st 5 t) → (Obj st 10 fa) → (Obj st 10 sk) → k9 t fa sk l4 l5 l6 st = some (r0, u0) → G E WT x RX5 cX5_worth 10 (0, 0) st 9 [(0, .ref (eB E + t)), (2, .ref (eB E + fa)), (3, .ref (eB E + sk)), (4, .int l4), (5, .int l5), (6, .int l6)] []) (t : Nat) (fa : Nat) (sk : Nat) (l4 : Int32) (l5 : Int32) (l6 : Int32) (l8 : Int32) (s0 : Int32) (s1 : Int32) (st : St) (h_t : Obj st 5 t) (h_fa : Obj st 10 fa) (h_sk : Obj st 10 sk) (hf : fX5_worth_b172 k9 t fa sk l4 l5 l6 l8 s0 s1 st = some (r0, u0)) : G E WT x RX5 cX5_worth 10 (0, 0) st 172 [(0, .ref (eB E + t)), (2, .ref (eB E + fa)), (3, .ref (eB E + sk)), (4, .int l4), (5, .int l5), (6, .int l6), (8, .int l8)] [.int s1, .int s0] := by
  unfold fX5_worth_b172 at hf
  refine g_icmp_ne 179 (by decide) dX5_worth_172 (fun h1 => ?_) (fun h1 => ?_)
  · rw [if_neg h1] at hf
    refine g_iconst (0 : Int32) (by decide) dX5_worth_179 ?_
    refine g_lvs [0, 1, 2, 3, 4, 5, 6] rfl ?_
    exact wX5_worth_b180 B hk9 t fa sk l4 l5 l6 l8 (0 : Int32) st h_t h_fa h_sk hf
  · rw [if_pos h1] at hf
    refine g_iconst (1 : Int32) (by decide) dX5_worth_175 ?_
    refine g_goto 180 (by decide) dX5_worth_176 ?_
    refine g_lvs [0, 1, 2, 3, 4, 5, 6] rfl ?_
    exact wX5_worth_b180 B hk9 t fa sk l4 l5 l6 l8 (1 : Int32) st h_t h_fa h_sk hf
def fX5_worth_b161 (k9 : Nat → Nat → Nat → Int32 → Int32 → Int32 → St → Option (Int32 × St))(t : Nat) (fa : Nat) (sk : Nat) (l4 : Int32) (l5 : Int32) (l6 : Int32) (l7 : Int32) (l8 : Int32) (s0 : Int32) (st : St) : Option (Int32 × St) :=
  if l7 = (4 : Int32) then (fX5_worth_b172 k9 t fa sk l4 l5 l6 l8 s0 (1 : Int32) st) else (fX5_worth_b172 k9 t fa sk l4 l5 l6 l8 s0 (0 : Int32) st)
set_option maxHeartbeats 1000000 in
set_option maxRecDepth 20000 in
theorem wX5_worth_b161 {E : Ev} {x : Cx} {r0 : Int32} {u0 : St} (B : Bd E x (some FieldType.int) (1) 0 0 (some (.int r0)) u0) {k9 : Nat → Nat → Nat → Int32 → Int32 → Int32 → St → Option (Int32 × St)} (hk9 : ∀ (t : Nat) (fa : Nat) (sk : Nat) (l4 : Int32) (l5 : Int32) (l6 : Int32) (st : St), (Obj st 5 t) → (Obj st 10 fa) → (Obj st 10 sk) → k9 t fa sk l4 l5 l6 st = some (r0, u0) → G E WT x RX5 cX5_worth 10 (0, 0) st 9 [(0, .ref (eB E + t)), (2, .ref (eB E + fa)), (3, .ref (eB E + sk)), (4, .int l4), (5, .int l5), (6, .int l6)] []) (t : Nat) (fa : Nat) (sk : Nat) (l4 : Int32) (l5 : Int32) (l6 : Int32) (l7 : Int32) (l8 : Int32) (s0 : Int32) (st : St) (h_t : Obj st 5 t) (h_fa : Obj st 10 fa) (h_sk : Obj st 10 sk) (hf : fX5_worth_b161 k9 t fa sk l4 l5 l6 l7 l8 s0 st = some (r0, u0)) : G E WT x RX5 cX5_worth 10 (0, 0) st 161 [(0, .ref (eB E + t)), (2, .ref (eB E + fa)), (3, .ref (eB E + sk)), (4, .int l4), (5, .int l5), (6, .int l6), (7, .int l7), (8, .int l8)] [.int s0] := by
  unfold fX5_worth_b161 at hf
  refine g_iload 6 rfl dX5_worth_161 ?_
  refine g_iconst (4 : Int32) (by decide) dX5_worth_163 ?_
  refine g_icmp_ne 171 (by decide) dX5_worth_164 (fun h1 => ?_) (fun h1 => ?_)
  · rw [if_neg h1] at hf
    refine g_iconst (0 : Int32) (by decide) dX5_worth_171 ?_
    refine g_lvs [0, 1, 2, 3, 4, 5, 7] rfl ?_
    exact wX5_worth_b172 B hk9 t fa sk l4 l5 l6 l8 s0 (0 : Int32) st h_t h_fa h_sk hf
  · rw [if_pos h1] at hf
    refine g_iconst (1 : Int32) (by decide) dX5_worth_167 ?_
    refine g_goto 172 (by decide) dX5_worth_168 ?_
    refine g_lvs [0, 1, 2, 3, 4, 5, 7] rfl ?_
    exact wX5_worth_b172 B hk9 t fa sk l4 l5 l6 l8 s0 (1 : Int32) st h_t h_fa h_sk hf
def fX5_worth_b147 (k9 : Nat → Nat → Nat → Int32 → Int32 → Int32 → St → Option (Int32 × St))(t : Nat) (fa : Nat) (sk : Nat) (l4 : Int32) (l5 : Int32) (l6 : Int32) (l7 : Int32) (l8 : Int32) (st : St) : Option (Int32 × St) :=
  chk (ixb (l5 - (1 : Int32)) (sN st sk)) (if (sI st sk ((l5 - (1 : Int32)).toNatClampNeg)) = 0 then (fX5_worth_b161 k9 t fa sk l4 l5 l6 l7 l8 (0 : Int32) st) else (fX5_worth_b161 k9 t fa sk l4 l5 l6 l7 l8 (1 : Int32) st))
set_option maxHeartbeats 1000000 in
set_option maxRecDepth 20000 in
theorem wX5_worth_b147 {E : Ev} {x : Cx} {r0 : Int32} {u0 : St} (B : Bd E x (some FieldType.int) (1) 0 0 (some (.int r0)) u0) {k9 : Nat → Nat → Nat → Int32 → Int32 → Int32 → St → Option (Int32 × St)} (hk9 : ∀ (t : Nat) (fa : Nat) (sk : Nat) (l4 : Int32) (l5 : Int32) (l6 : Int32) (st : St), (Obj st 5 t) → (Obj st 10 fa) → (Obj st 10 sk) → k9 t fa sk l4 l5 l6 st = some (r0, u0) → G E WT x RX5 cX5_worth 10 (0, 0) st 9 [(0, .ref (eB E + t)), (2, .ref (eB E + fa)), (3, .ref (eB E + sk)), (4, .int l4), (5, .int l5), (6, .int l6)] []) (t : Nat) (fa : Nat) (sk : Nat) (l4 : Int32) (l5 : Int32) (l6 : Int32) (l7 : Int32) (l8 : Int32) (st : St) (h_t : Obj st 5 t) (h_fa : Obj st 10 fa) (h_sk : Obj st 10 sk) (hf : fX5_worth_b147 k9 t fa sk l4 l5 l6 l7 l8 st = some (r0, u0)) : G E WT x RX5 cX5_worth 10 (0, 0) st 147 [(0, .ref (eB E + t)), (2, .ref (eB E + fa)), (3, .ref (eB E + sk)), (4, .int l4), (5, .int l5), (6, .int l6), (7, .int l7), (8, .int l8)] [] := by
  unfold fX5_worth_b147 at hf
  refine g_aload_n rfl 2 rfl dX5_worth_147 ?_
  refine g_iload 4 rfl dX5_worth_148 ?_
  refine g_iconst (1 : Int32) (by decide) dX5_worth_150 ?_
  refine g_isub dX5_worth_151 ?_
  obtain ⟨h1, hf⟩ := chk_some hf
  refine g_ialdj ((l5 - (1 : Int32)).toNatClampNeg) rfl (fun _ => ⟨h_sk.1, h_sk.2, rfl⟩) (ixb_in h1) dX5_worth_152 ?_
  refine g_if_eq 160 (by decide) dX5_worth_153 (fun h2 => ?_) (fun h2 => ?_)
  · rw [if_pos h2] at hf
    refine g_iconst (0 : Int32) (by decide) dX5_worth_160 ?_
    refine g_lvs [0, 1, 2, 3, 4, 5, 6, 7] rfl ?_
    exact wX5_worth_b161 B hk9 t fa sk l4 l5 l6 l7 l8 (0 : Int32) st h_t h_fa h_sk hf
  · rw [if_neg h2] at hf
    refine g_iconst (1 : Int32) (by decide) dX5_worth_156 ?_
    refine g_goto 161 (by decide) dX5_worth_157 ?_
    refine g_lvs [0, 1, 2, 3, 4, 5, 6, 7] rfl ?_
    exact wX5_worth_b161 B hk9 t fa sk l4 l5 l6 l7 l8 (1 : Int32) st h_t h_fa h_sk hf
def fX5_worth_b126 (k9 : Nat → Nat → Nat → Int32 → Int32 → Int32 → St → Option (Int32 × St))(t : Nat) (fa : Nat) (sk : Nat) (l4 : Int32) (l5 : Int32) (l6 : Int32) (l7 : Int32) (l8 : Int32) (st : St) : Option (Int32 × St) :=
  if (1 : Int32) ≤ l5 then (if l7 = (3 : Int32) then (fX5_worth_b147 k9 t fa sk l4 l5 l6 l7 l8 st) else (if l7 = (4 : Int32) then (fX5_worth_b147 k9 t fa sk l4 l5 l6 l7 l8 st) else (if l7 = (5 : Int32) then (chk (ixb (l5 - (1 : Int32)) (sN st sk)) (chk (ixb (l5 - (1 : Int32)) (sN st sk)) (fX5_worth_b311 k9 t fa sk (l4 + (1 : Int32)) l5 l6 (pI st sk ((l5 - (1 : Int32)).toNatClampNeg) ((1 : Int32) - (sI st sk ((l5 - (1 : Int32)).toNatClampNeg))))))) else (if l7 = 0 then (chk (ixb (l5 - (1 : Int32)) (sN st sk)) (some (sI st sk ((l5 - (1 : Int32)).toNatClampNeg), st))) else (if (2 : Int32) ≤ l5 then (chk (ixb (l5 - (2 : Int32)) (sN st sk)) (chk (ixb (l5 - (1 : Int32)) (sN st sk)) ((fX5_joined l7 ((sI st sk ((l5 - (2 : Int32)).toNatClampNeg)).toInt64) ((sI st sk ((l5 - (1 : Int32)).toNatClampNeg)).toInt64)).bind (fun q9 => fX5_worth_b285 k9 t fa sk l4 l5 l6 q9 st)))) else (fX5_worth_b285 k9 t fa sk l4 l5 l6 (-2000000000 : Int32) st)))))) else (some ((-2000000000 : Int32), st))
set_option maxHeartbeats 1000000 in
set_option maxRecDepth 20000 in
theorem wX5_worth_b126 {E : Ev} {x : Cx} {r0 : Int32} {u0 : St} (B : Bd E x (some FieldType.int) (1) 0 0 (some (.int r0)) u0) {k9 : Nat → Nat → Nat → Int32 → Int32 → Int32 → St → Option (Int32 × St)} (hk9 : ∀ (t : Nat) (fa : Nat) (sk : Nat) (l4 : Int32) (l5 : Int32) (l6 : Int32) (st : St), (Obj st 5 t) → (Obj st 10 fa) → (Obj st 10 sk) → k9 t fa sk l4 l5 l6 st = some (r0, u0) → G E WT x RX5 cX5_worth 10 (0, 0) st 9 [(0, .ref (eB E + t)), (2, .ref (eB E + fa)), (3, .ref (eB E + sk)), (4, .int l4), (5, .int l5), (6, .int l6)] []) (t : Nat) (fa : Nat) (sk : Nat) (l4 : Int32) (l5 : Int32) (l6 : Int32) (l7 : Int32) (l8 : Int32) (st : St) (h_t : Obj st 5 t) (h_fa : Obj st 10 fa) (h_sk : Obj st 10 sk) (hf : fX5_worth_b126 k9 t fa sk l4 l5 l6 l7 l8 st = some (r0, u0)) : G E WT x RX5 cX5_worth 10 (0, 0) st 126 [(0, .ref (eB E + t)), (2, .ref (eB E + fa)), (3, .ref (eB E + sk)), (4, .int l4), (5, .int l5), (6, .int l6), (7, .int l7), (8, .int l8)] [] := by
  unfold fX5_worth_b126 at hf
  refine g_iload 4 rfl dX5_worth_126 ?_
  refine g_iconst (1 : Int32) (by decide) dX5_worth_128 ?_
  refine g_icmp_ge 135 (by decide) dX5_worth_129 (fun h1 => ?_) (fun h1 => ?_)
  · rw [if_pos h1] at hf
    refine g_iload 6 rfl dX5_worth_135 ?_
    refine g_iconst (3 : Int32) (by decide) dX5_worth_137 ?_
    refine g_icmp_eq 147 (by decide) dX5_worth_138 (fun h2 => ?_) (fun h2 => ?_)
    · rw [if_pos h2] at hf
      refine g_lvs [0, 1, 2, 3, 4, 5, 6, 7] rfl ?_
      exact wX5_worth_b147 B hk9 t fa sk l4 l5 l6 l7 l8 st h_t h_fa h_sk hf
    · rw [if_neg h2] at hf
      refine g_iload 6 rfl dX5_worth_141 ?_
      refine g_iconst (4 : Int32) (by decide) dX5_worth_143 ?_
      refine g_icmp_ne 217 (by decide) dX5_worth_144 (fun h3 => ?_) (fun h3 => ?_)
      · rw [if_neg h3] at hf
        refine g_iload 6 rfl dX5_worth_217 ?_
        refine g_iconst (5 : Int32) (by decide) dX5_worth_219 ?_
        refine g_icmp_ne 243 (by decide) dX5_worth_220 (fun h4 => ?_) (fun h4 => ?_)
        · rw [if_neg h4] at hf
          refine g_iload 6 rfl dX5_worth_243 ?_
          refine g_if_ne 255 (by decide) dX5_worth_245 (fun h5 => ?_) (fun h5 => ?_)
          · rw [if_neg h5] at hf
            refine g_iload 4 rfl dX5_worth_255 ?_
            refine g_iconst (2 : Int32) (by decide) dX5_worth_257 ?_
            refine g_icmp_ge 266 (by decide) dX5_worth_258 (fun h6 => ?_) (fun h6 => ?_)
            · rw [if_pos h6] at hf
              refine g_iload 6 rfl dX5_worth_266 ?_
              refine g_aload_n rfl 2 rfl dX5_worth_268 ?_
              refine g_iload 4 rfl dX5_worth_269 ?_
              refine g_iconst (2 : Int32) (by decide) dX5_worth_271 ?_
              refine g_isub dX5_worth_272 ?_
              obtain ⟨h7, hf⟩ := chk_some hf
              refine g_ialdj ((l5 - (2 : Int32)).toNatClampNeg) rfl (fun _ => ⟨h_sk.1, h_sk.2, rfl⟩) (ixb_in h7) dX5_worth_273 ?_
              refine g_i2l dX5_worth_274 ?_
              refine g_aload_n rfl 2 rfl dX5_worth_275 ?_
              refine g_iload 4 rfl dX5_worth_276 ?_
              refine g_iconst (1 : Int32) (by decide) dX5_worth_278 ?_
              refine g_isub dX5_worth_279 ?_
              obtain ⟨h8, hf⟩ := chk_some hf
              refine g_ialdj ((l5 - (1 : Int32)).toNatClampNeg) rfl (fun _ => ⟨h_sk.1, h_sk.2, rfl⟩) (ixb_in h8) dX5_worth_280 ?_
              refine g_i2l dX5_worth_281 ?_
              obtain ⟨q9, h10, hf⟩ := bnd_some hf
              refine g_callS0i (As := [.int l7, .long ((sI st sk ((l5 - (2 : Int32)).toNatClampNeg)).toInt64), .long ((sI st sk ((l5 - (1 : Int32)).toNatClampNeg)).toInt64)]) (rest := []) mok_X5_joined tw2_202 tw2_203 B.1 (by decide) (kX5_joined  h10) rfl rfl (Nat.le_of_ble_eq_true rfl) ⟨Nat.le_refl _, Nat.le_refl _⟩ dX5_worth_282 ?_
              refine g_lvs [0, 1, 2, 3, 4, 5] rfl ?_
              exact wX5_worth_b285 B hk9 t fa sk l4 l5 l6 q9 st h_t h_fa h_sk hf
            · rw [if_neg h6] at hf
              refine g_ldc tw2_201 dX5_worth_261 ?_
              refine g_goto 285 (by decide) dX5_worth_263 ?_
              refine g_lvs [0, 1, 2, 3, 4, 5] rfl ?_
              exact wX5_worth_b285 B hk9 t fa sk l4 l5 l6 (-2000000000 : Int32) st h_t h_fa h_sk hf
          · rw [if_pos h5] at hf
            refine g_aload_n rfl 2 rfl dX5_worth_248 ?_
            refine g_iload 4 rfl dX5_worth_249 ?_
            refine g_iconst (1 : Int32) (by decide) dX5_worth_251 ?_
            refine g_isub dX5_worth_252 ?_
            obtain ⟨h11, hf⟩ := chk_some hf
            refine g_ialdj ((l5 - (1 : Int32)).toNatClampNeg) rfl (fun _ => ⟨h_sk.1, h_sk.2, rfl⟩) (ixb_in h11) dX5_worth_253 ?_
            exact g_iret B.2.2.2 B.2.2.1 (congrArg (fun z => some (Value.int z)) (Prod.mk.inj (Option.some.inj hf)).1.symm) (Prod.mk.inj (Option.some.inj hf)).2.symm dX5_worth_254
        · rw [if_pos h4] at hf
          refine g_aload_n rfl 2 rfl dX5_worth_223 ?_
          refine g_iload 4 rfl dX5_worth_224 ?_
          refine g_iconst (1 : Int32) (by decide) dX5_worth_226 ?_
          refine g_isub dX5_worth_227 ?_
          refine g_iconst (1 : Int32) (by decide) dX5_worth_228 ?_
          refine g_aload_n rfl 2 rfl dX5_worth_229 ?_
          refine g_iload 4 rfl dX5_worth_230 ?_
          refine g_iconst (1 : Int32) (by decide) dX5_worth_232 ?_
          refine g_isub dX5_worth_233 ?_
          obtain ⟨h12, hf⟩ := chk_some hf
          refine g_ialdj ((l5 - (1 : Int32)).toNatClampNeg) rfl (fun _ => ⟨h_sk.1, h_sk.2, rfl⟩) (ixb_in h12) dX5_worth_234 ?_
          refine g_isub dX5_worth_235 ?_
          obtain ⟨h13, hf⟩ := chk_some hf
          refine g_iastj ((l5 - (1 : Int32)).toNatClampNeg) rfl (fun _ => ⟨h_sk.1, h_sk.2, rfl⟩) (ixb_in h13) B.2.1 wpI dX5_worth_236 ?_
          refine g_iinc (l4 + (1 : Int32)) [(4, .int (l4 + (1 : Int32))), (0, .ref (eB E + t)), (2, .ref (eB E + fa)), (3, .ref (eB E + sk)), (5, .int l5), (6, .int l6), (7, .int l7), (8, .int l8)] 3 rfl (congrArg (fun z => l4 + z) (show Int32.ofInt (1) = (1 : Int32) by decide)) (by decide) rfl dX5_worth_237 ?_
          refine g_goto 311 (by decide) dX5_worth_240 ?_
          refine g_lvs [1, 2, 3, 0, 4, 5] rfl ?_
          exact wX5_worth_b311 B hk9 t fa sk (l4 + (1 : Int32)) l5 l6 (pI st sk ((l5 - (1 : Int32)).toNatClampNeg) ((1 : Int32) - (sI st sk ((l5 - (1 : Int32)).toNatClampNeg)))) h_t h_fa h_sk hf
      · rw [if_pos h3] at hf
        refine g_lvs [0, 1, 2, 3, 4, 5, 6, 7] rfl ?_
        exact wX5_worth_b147 B hk9 t fa sk l4 l5 l6 l7 l8 st h_t h_fa h_sk hf
  · rw [if_neg h1] at hf
    refine g_ldc tw2_201 dX5_worth_132 ?_
    exact g_iret B.2.2.2 B.2.2.1 (congrArg (fun z => some (Value.int z)) (Prod.mk.inj (Option.some.inj hf)).1.symm) (Prod.mk.inj (Option.some.inj hf)).2.symm dX5_worth_134
def fX5_worth_b116 (k9 : Nat → Nat → Nat → Int32 → Int32 → Int32 → St → Option (Int32 × St))(t : Nat) (fa : Nat) (sk : Nat) (l4 : Int32) (l5 : Int32) (l6 : Int32) (s1 : Int32) (s2 : Int32) (st : St) : Option (Int32 × St) :=
  chk (ixb s1 (sN st sk)) (fX5_worth_b311 k9 t fa sk (l4 + (2 : Int32)) (l5 + (1 : Int32)) l6 (pI st sk s1.toNatClampNeg s2))
set_option maxHeartbeats 1000000 in
set_option maxRecDepth 20000 in
theorem wX5_worth_b116 {E : Ev} {x : Cx} {r0 : Int32} {u0 : St} (B : Bd E x (some FieldType.int) (1) 0 0 (some (.int r0)) u0) {k9 : Nat → Nat → Nat → Int32 → Int32 → Int32 → St → Option (Int32 × St)} (hk9 : ∀ (t : Nat) (fa : Nat) (sk : Nat) (l4 : Int32) (l5 : Int32) (l6 : Int32) (st : St), (Obj st 5 t) → (Obj st 10 fa) → (Obj st 10 sk) → k9 t fa sk l4 l5 l6 st = some (r0, u0) → G E WT x RX5 cX5_worth 10 (0, 0) st 9 [(0, .ref (eB E + t)), (2, .ref (eB E + fa)), (3, .ref (eB E + sk)), (4, .int l4), (5, .int l5), (6, .int l6)] []) (t : Nat) (fa : Nat) (sk : Nat) (l4 : Int32) (l5 : Int32) (l6 : Int32) (s1 : Int32) (s2 : Int32) (st : St) (h_t : Obj st 5 t) (h_fa : Obj st 10 fa) (h_sk : Obj st 10 sk) (hf : fX5_worth_b116 k9 t fa sk l4 l5 l6 s1 s2 st = some (r0, u0)) : G E WT x RX5 cX5_worth 10 (0, 0) st 116 [(0, .ref (eB E + t)), (2, .ref (eB E + fa)), (3, .ref (eB E + sk)), (4, .int l4), (5, .int l5), (6, .int l6)] [.int s2, .int s1, .ref (eB E + sk)] := by
  unfold fX5_worth_b116 at hf
  obtain ⟨h1, hf⟩ := chk_some hf
  refine g_iastj s1.toNatClampNeg rfl (fun _ => ⟨h_sk.1, h_sk.2, rfl⟩) (ixb_in h1) B.2.1 wpI dX5_worth_116 ?_
  refine g_iinc (l5 + (1 : Int32)) [(5, .int (l5 + (1 : Int32))), (0, .ref (eB E + t)), (2, .ref (eB E + fa)), (3, .ref (eB E + sk)), (4, .int l4), (6, .int l6)] 4 rfl (congrArg (fun z => l5 + z) (show Int32.ofInt (1) = (1 : Int32) by decide)) (by decide) rfl dX5_worth_117 ?_
  refine g_iinc (l4 + (2 : Int32)) [(4, .int (l4 + (2 : Int32))), (5, .int (l5 + (1 : Int32))), (0, .ref (eB E + t)), (2, .ref (eB E + fa)), (3, .ref (eB E + sk)), (6, .int l6)] 4 rfl (congrArg (fun z => l4 + z) (show Int32.ofInt (2) = (2 : Int32) by decide)) (by decide) rfl dX5_worth_120 ?_
  refine g_goto 311 (by decide) dX5_worth_123 ?_
  refine g_lvs [2, 3, 4, 0, 1, 5] rfl ?_
  exact wX5_worth_b311 B hk9 t fa sk (l4 + (2 : Int32)) (l5 + (1 : Int32)) l6 (pI st sk s1.toNatClampNeg s2) h_t h_fa h_sk hf
def fX5_worth_b98 (k9 : Nat → Nat → Nat → Int32 → Int32 → Int32 → St → Option (Int32 × St))(t : Nat) (fa : Nat) (sk : Nat) (l4 : Int32) (l5 : Int32) (l6 : Int32) (l7 : Int32) (l8 : Int32) (st : St) : Option (Int32 × St) :=
  if l7 = (1 : Int32) then (fX5_worth_b116 k9 t fa sk l4 l5 l6 l5 l8 st) else (chk (ixb l8 (sN st fa)) (fX5_worth_b116 k9 t fa sk l4 l5 l6 l5 (sI st fa l8.toNatClampNeg) st))
set_option maxHeartbeats 1000000 in
set_option maxRecDepth 20000 in
theorem wX5_worth_b98 {E : Ev} {x : Cx} {r0 : Int32} {u0 : St} (B : Bd E x (some FieldType.int) (1) 0 0 (some (.int r0)) u0) {k9 : Nat → Nat → Nat → Int32 → Int32 → Int32 → St → Option (Int32 × St)} (hk9 : ∀ (t : Nat) (fa : Nat) (sk : Nat) (l4 : Int32) (l5 : Int32) (l6 : Int32) (st : St), (Obj st 5 t) → (Obj st 10 fa) → (Obj st 10 sk) → k9 t fa sk l4 l5 l6 st = some (r0, u0) → G E WT x RX5 cX5_worth 10 (0, 0) st 9 [(0, .ref (eB E + t)), (2, .ref (eB E + fa)), (3, .ref (eB E + sk)), (4, .int l4), (5, .int l5), (6, .int l6)] []) (t : Nat) (fa : Nat) (sk : Nat) (l4 : Int32) (l5 : Int32) (l6 : Int32) (l7 : Int32) (l8 : Int32) (st : St) (h_t : Obj st 5 t) (h_fa : Obj st 10 fa) (h_sk : Obj st 10 sk) (hf : fX5_worth_b98 k9 t fa sk l4 l5 l6 l7 l8 st = some (r0, u0)) : G E WT x RX5 cX5_worth 10 (0, 0) st 98 [(0, .ref (eB E + t)), (2, .ref (eB E + fa)), (3, .ref (eB E + sk)), (4, .int l4), (5, .int l5), (6, .int l6), (7, .int l7), (8, .int l8)] [] := by
  unfold fX5_worth_b98 at hf
  refine g_aload_n rfl 2 rfl dX5_worth_98 ?_
  refine g_iload 4 rfl dX5_worth_99 ?_
  refine g_iload 6 rfl dX5_worth_101 ?_
  refine g_iconst (1 : Int32) (by decide) dX5_worth_103 ?_
  refine g_icmp_ne 112 (by decide) dX5_worth_104 (fun h1 => ?_) (fun h1 => ?_)
  · rw [if_neg h1] at hf
    refine g_aload_n rfl 1 rfl dX5_worth_112 ?_
    refine g_iload 7 rfl dX5_worth_113 ?_
    obtain ⟨h2, hf⟩ := chk_some hf
    refine g_ialdj l8.toNatClampNeg rfl (fun _ => ⟨h_fa.1, h_fa.2, rfl⟩) (ixb_in h2) dX5_worth_115 ?_
    refine g_lvs [0, 1, 2, 3, 4, 5] rfl ?_
    exact wX5_worth_b116 B hk9 t fa sk l4 l5 l6 l5 (sI st fa l8.toNatClampNeg) st h_t h_fa h_sk hf
  · rw [if_pos h1] at hf
    refine g_iload 7 rfl dX5_worth_107 ?_
    refine g_goto 116 (by decide) dX5_worth_109 ?_
    refine g_lvs [0, 1, 2, 3, 4, 5] rfl ?_
    exact wX5_worth_b116 B hk9 t fa sk l4 l5 l6 l5 l8 st h_t h_fa h_sk hf
def fX5_worth_b72 (k9 : Nat → Nat → Nat → Int32 → Int32 → Int32 → St → Option (Int32 × St))(t : Nat) (fa : Nat) (sk : Nat) (l4 : Int32) (l5 : Int32) (l6 : Int32) (l7 : Int32) (s0 : Int32) (st : St) : Option (Int32 × St) :=
  if l7 = (1 : Int32) then (fX5_worth_b98 k9 t fa sk l4 l5 l6 l7 s0 st) else (if l7 = (2 : Int32) then (if s0 < 0 then (fX5_worth_b126 k9 t fa sk l4 l5 l6 l7 s0 st) else (if (nI (sN st fa)) ≤ s0 then (fX5_worth_b126 k9 t fa sk l4 l5 l6 l7 s0 st) else (fX5_worth_b98 k9 t fa sk l4 l5 l6 l7 s0 st))) else (fX5_worth_b126 k9 t fa sk l4 l5 l6 l7 s0 st))
set_option maxHeartbeats 1000000 in
set_option maxRecDepth 20000 in
theorem wX5_worth_b72 {E : Ev} {x : Cx} {r0 : Int32} {u0 : St} (B : Bd E x (some FieldType.int) (1) 0 0 (some (.int r0)) u0) {k9 : Nat → Nat → Nat → Int32 → Int32 → Int32 → St → Option (Int32 × St)} (hk9 : ∀ (t : Nat) (fa : Nat) (sk : Nat) (l4 : Int32) (l5 : Int32) (l6 : Int32) (st : St), (Obj st 5 t) → (Obj st 10 fa) → (Obj st 10 sk) → k9 t fa sk l4 l5 l6 st = some (r0, u0) → G E WT x RX5 cX5_worth 10 (0, 0) st 9 [(0, .ref (eB E + t)), (2, .ref (eB E + fa)), (3, .ref (eB E + sk)), (4, .int l4), (5, .int l5), (6, .int l6)] []) (t : Nat) (fa : Nat) (sk : Nat) (l4 : Int32) (l5 : Int32) (l6 : Int32) (l7 : Int32) (s0 : Int32) (st : St) (h_t : Obj st 5 t) (h_fa : Obj st 10 fa) (h_sk : Obj st 10 sk) (hf : fX5_worth_b72 k9 t fa sk l4 l5 l6 l7 s0 st = some (r0, u0)) : G E WT x RX5 cX5_worth 10 (0, 0) st 72 [(0, .ref (eB E + t)), (2, .ref (eB E + fa)), (3, .ref (eB E + sk)), (4, .int l4), (5, .int l5), (6, .int l6), (7, .int l7)] [.int s0] := by
  unfold fX5_worth_b72 at hf
  refine g_istore [(8, .int s0), (0, .ref (eB E + t)), (2, .ref (eB E + fa)), (3, .ref (eB E + sk)), (4, .int l4), (5, .int l5), (6, .int l6), (7, .int l7)] (by decide) rfl dX5_worth_72 ?_
  refine g_iload 7 rfl dX5_worth_74 ?_
  refine g_iconst (1 : Int32) (by decide) dX5_worth_76 ?_
  refine g_icmp_eq 98 (by decide) dX5_worth_77 (fun h1 => ?_) (fun h1 => ?_)
  · rw [if_pos h1] at hf
    refine g_lvs [1, 2, 3, 4, 5, 6, 7, 0] rfl ?_
    exact wX5_worth_b98 B hk9 t fa sk l4 l5 l6 l7 s0 st h_t h_fa h_sk hf
  · rw [if_neg h1] at hf
    refine g_iload 7 rfl dX5_worth_80 ?_
    refine g_iconst (2 : Int32) (by decide) dX5_worth_82 ?_
    refine g_icmp_ne 126 (by decide) dX5_worth_83 (fun h2 => ?_) (fun h2 => ?_)
    · rw [if_neg h2] at hf
      refine g_lvs [1, 2, 3, 4, 5, 6, 7, 0] rfl ?_
      exact wX5_worth_b126 B hk9 t fa sk l4 l5 l6 l7 s0 st h_t h_fa h_sk hf
    · rw [if_pos h2] at hf
      refine g_iload 0 rfl dX5_worth_86 ?_
      refine g_if_lt 126 (by decide) dX5_worth_88 (fun h3 => ?_) (fun h3 => ?_)
      · rw [if_pos h3] at hf
        refine g_lvs [1, 2, 3, 4, 5, 6, 7, 0] rfl ?_
        exact wX5_worth_b126 B hk9 t fa sk l4 l5 l6 l7 s0 st h_t h_fa h_sk hf
      · rw [if_neg h3] at hf
        refine g_iload 0 rfl dX5_worth_91 ?_
        refine g_aload_n rfl 2 rfl dX5_worth_93 ?_
        refine g_alen 1 (fun _ => ⟨h_fa.1, h_fa.2, rfl⟩) (by decide) rfl dX5_worth_94 ?_
        refine g_icmp_ge 126 (by decide) dX5_worth_95 (fun h4 => ?_) (fun h4 => ?_)
        · rw [if_pos h4] at hf
          refine g_lvs [1, 2, 3, 4, 5, 6, 7, 0] rfl ?_
          exact wX5_worth_b126 B hk9 t fa sk l4 l5 l6 l7 s0 st h_t h_fa h_sk hf
        · rw [if_neg h4] at hf
          refine g_lvs [1, 2, 3, 4, 5, 6, 7, 0] rfl ?_
          exact wX5_worth_b98 B hk9 t fa sk l4 l5 l6 l7 s0 st h_t h_fa h_sk hf
def fX5_worth_b9 : Nat → Nat → Nat → Nat → Int32 → Int32 → Int32 → St → Option (Int32 × St)
  | 0, _, _, _, _, _, _, _ => none
  | n + 1, t, fa, sk, l4, l5, l6, st => if (sI st t 6) ≤ l6 then (some ((-2000000000 : Int32), st)) else (if l4 ≤ 0 then (some ((-2000000000 : Int32), st)) else (if (sI st t 6) ≤ l4 then (some ((-2000000000 : Int32), st)) else (if (nI (sN st sk)) ≤ l5 then (some ((-2000000000 : Int32), st)) else (chk (ixb l4 (sN st (t + 5))) (if (sI st t 6) ≤ (l4 + (1 : Int32)) then (fX5_worth_b72 (fun zt zfa zsk zl4 zl5 zl6 zst => fX5_worth_b9 n zt zfa zsk zl4 zl5 zl6 zst) t fa sk l4 l5 l6 (sI st (t + 5) l4.toNatClampNeg) (0 : Int32) st) else (chk (ixb (l4 + (1 : Int32)) (sN st (t + 5))) (fX5_worth_b72 (fun zt zfa zsk zl4 zl5 zl6 zst => fX5_worth_b9 n zt zfa zsk zl4 zl5 zl6 zst) t fa sk l4 l5 l6 (sI st (t + 5) l4.toNatClampNeg) (sI st (t + 5) ((l4 + (1 : Int32)).toNatClampNeg)) st)))))))
set_option maxHeartbeats 1000000 in
set_option maxRecDepth 20000 in
theorem wX5_worth_b9 {E : Ev} {x : Cx} {r0 : Int32} {u0 : St} (B : Bd E x (some FieldType.int) (1) 0 0 (some (.int r0)) u0) : ∀ (n : Nat) (t : Nat) (fa : Nat) (sk : Nat) (l4 : Int32) (l5 : Int32) (l6 : Int32) (st : St) (h_t : Obj st 5 t) (h_fa : Obj st 10 fa) (h_sk : Obj st 10 sk), fX5_worth_b9 n t fa sk l4 l5 l6 st = some (r0, u0) → G E WT x RX5 cX5_worth 10 (0, 0) st 9 [(0, .ref (eB E + t)), (2, .ref (eB E + fa)), (3, .ref (eB E + sk)), (4, .int l4), (5, .int l5), (6, .int l6)] [] := by
  intro n
  induction n with
  | zero =>
    intros
    rename_i hf
    rw [fX5_worth_b9] at hf
    cases hf
  | succ n ih =>
    intro t fa sk l4 l5 l6 st h_t h_fa h_sk hf
    rw [fX5_worth_b9] at hf
    refine g_iload 5 rfl dX5_worth_9 ?_
    refine g_aload_n rfl 0 rfl dX5_worth_11 ?_
    refine g_get (j := 6) cok5 (by decide) (.int (sI st t 6)) (Or.inl tw1_120) (fun _ => h_t) (fun _ => rfl) dX5_worth_12 ?_
    refine g_icmp_ge 317 (by decide) dX5_worth_15 (fun h1 => ?_) (fun h1 => ?_)
    · rw [if_pos h1] at hf
      refine g_ldc tw2_201 dX5_worth_317 ?_
      exact g_iret B.2.2.2 B.2.2.1 (congrArg (fun z => some (Value.int z)) (Prod.mk.inj (Option.some.inj hf)).1.symm) (Prod.mk.inj (Option.some.inj hf)).2.symm dX5_worth_319
    · rw [if_neg h1] at hf
      refine g_iload 3 rfl dX5_worth_18 ?_
      refine g_if_le 317 (by decide) dX5_worth_20 (fun h2 => ?_) (fun h2 => ?_)
      · rw [if_pos h2] at hf
        refine g_ldc tw2_201 dX5_worth_317 ?_
        exact g_iret B.2.2.2 B.2.2.1 (congrArg (fun z => some (Value.int z)) (Prod.mk.inj (Option.some.inj hf)).1.symm) (Prod.mk.inj (Option.some.inj hf)).2.symm dX5_worth_319
      · rw [if_neg h2] at hf
        refine g_iload 3 rfl dX5_worth_23 ?_
        refine g_aload_n rfl 0 rfl dX5_worth_25 ?_
        refine g_get (j := 6) cok5 (by decide) (.int (sI st t 6)) (Or.inl tw1_120) (fun _ => h_t) (fun _ => rfl) dX5_worth_26 ?_
        refine g_icmp_ge 317 (by decide) dX5_worth_29 (fun h3 => ?_) (fun h3 => ?_)
        · rw [if_pos h3] at hf
          refine g_ldc tw2_201 dX5_worth_317 ?_
          exact g_iret B.2.2.2 B.2.2.1 (congrArg (fun z => some (Value.int z)) (Prod.mk.inj (Option.some.inj hf)).1.symm) (Prod.mk.inj (Option.some.inj hf)).2.symm dX5_worth_319
        · rw [if_neg h3] at hf
          refine g_iload 4 rfl dX5_worth_32 ?_
          refine g_aload_n rfl 2 rfl dX5_worth_34 ?_
          refine g_alen 1 (fun _ => ⟨h_sk.1, h_sk.2, rfl⟩) (by decide) rfl dX5_worth_35 ?_
          refine g_icmp_ge 317 (by decide) dX5_worth_36 (fun h4 => ?_) (fun h4 => ?_)
          · rw [if_pos h4] at hf
            refine g_ldc tw2_201 dX5_worth_317 ?_
            exact g_iret B.2.2.2 B.2.2.1 (congrArg (fun z => some (Value.int z)) (Prod.mk.inj (Option.some.inj hf)).1.symm) (Prod.mk.inj (Option.some.inj hf)).2.symm dX5_worth_319
          · rw [if_neg h4] at hf
            refine g_aload_n rfl 0 rfl dX5_worth_39 ?_
            refine g_get (j := 4) cok5 (by decide) (.ref (eB E + (t + 5))) (Or.inl tw1_115) (fun _ => h_t) (fun w => slot_ref rfl (WT.scr w h_t).2.2.2.2.1) dX5_worth_40 ?_
            refine g_iload 3 rfl dX5_worth_43 ?_
            obtain ⟨h5, hf⟩ := chk_some hf
            refine g_ialdj l4.toNatClampNeg rfl (fun w => ⟨((fun w => (WT.scr w h_t).2.2.2.2.2) w).1, ((fun w => (WT.scr w h_t).2.2.2.2.2) w).2, rfl⟩) (ixb_in h5) dX5_worth_45 ?_
            refine g_istore [(7, .int (sI st (t + 5) l4.toNatClampNeg)), (0, .ref (eB E + t)), (2, .ref (eB E + fa)), (3, .ref (eB E + sk)), (4, .int l4), (5, .int l5), (6, .int l6)] (by decide) rfl dX5_worth_46 ?_
            refine g_iload 4 rfl dX5_worth_48 ?_
            refine g_iconst (1 : Int32) (by decide) dX5_worth_50 ?_
            refine g_iadd dX5_worth_51 ?_
            refine g_aload_n rfl 1 rfl dX5_worth_52 ?_
            refine g_get (j := 6) cok5 (by decide) (.int (sI st t 6)) (Or.inl tw1_120) (fun _ => h_t) (fun _ => rfl) dX5_worth_53 ?_
            refine g_icmp_ge 71 (by decide) dX5_worth_56 (fun h6 => ?_) (fun h6 => ?_)
            · rw [if_pos h6] at hf
              refine g_iconst (0 : Int32) (by decide) dX5_worth_71 ?_
              refine g_lvs [1, 2, 3, 4, 5, 6, 0] rfl ?_
              exact wX5_worth_b72 B ih t fa sk l4 l5 l6 (sI st (t + 5) l4.toNatClampNeg) (0 : Int32) st h_t h_fa h_sk hf
            · rw [if_neg h6] at hf
              refine g_aload_n rfl 1 rfl dX5_worth_59 ?_
              refine g_get (j := 4) cok5 (by decide) (.ref (eB E + (t + 5))) (Or.inl tw1_115) (fun _ => h_t) (fun w => slot_ref rfl (WT.scr w h_t).2.2.2.2.1) dX5_worth_60 ?_
              refine g_iload 4 rfl dX5_worth_63 ?_
              refine g_iconst (1 : Int32) (by decide) dX5_worth_65 ?_
              refine g_iadd dX5_worth_66 ?_
              obtain ⟨h7, hf⟩ := chk_some hf
              refine g_ialdj ((l4 + (1 : Int32)).toNatClampNeg) rfl (fun w => ⟨((fun w => (WT.scr w h_t).2.2.2.2.2) w).1, ((fun w => (WT.scr w h_t).2.2.2.2.2) w).2, rfl⟩) (ixb_in h7) dX5_worth_67 ?_
              refine g_goto 72 (by decide) dX5_worth_68 ?_
              refine g_lvs [1, 2, 3, 4, 5, 6, 0] rfl ?_
              exact wX5_worth_b72 B ih t fa sk l4 l5 l6 (sI st (t + 5) l4.toNatClampNeg) (sI st (t + 5) ((l4 + (1 : Int32)).toNatClampNeg)) st h_t h_fa h_sk hf
def fX5_worth (t : Nat) (p1 : Int32) (fa : Nat) (sk : Nat) (st : St) : Option (Int32 × St) :=
  fX5_worth_b9 FU t fa sk p1 (0 : Int32) (0 : Int32) st
set_option maxHeartbeats 1000000 in
set_option maxRecDepth 20000 in
theorem wX5_worth {E : Ev} {x : Cx} {r0 : Int32} {u0 : St} (B : Bd E x (some FieldType.int) (1) 0 0 (some (.int r0)) u0) (t : Nat) (p1 : Int32) (fa : Nat) (sk : Nat) (st : St) (h_t : Obj st 5 t) (h_fa : Obj st 10 fa) (h_sk : Obj st 10 sk) (hf : fX5_worth t p1 fa sk st = some (r0, u0)) : G E WT x RX5 cX5_worth 10 (0, 0) st 0 [(0, .ref (eB E + t)), (1, .int p1), (2, .ref (eB E + fa)), (3, .ref (eB E + sk))] [] := by
  unfold fX5_worth at hf
  refine g_iload_n rfl 1 rfl dX5_worth_0 ?_
  refine g_istore [(4, .int p1), (0, .ref (eB E + t)), (1, .int p1), (2, .ref (eB E + fa)), (3, .ref (eB E + sk))] (by decide) rfl dX5_worth_1 ?_
  refine g_iconst (0 : Int32) (by decide) dX5_worth_3 ?_
  refine g_istore [(5, .int (0 : Int32)), (4, .int p1), (0, .ref (eB E + t)), (1, .int p1), (2, .ref (eB E + fa)), (3, .ref (eB E + sk))] (by decide) rfl dX5_worth_4 ?_
  refine g_iconst (0 : Int32) (by decide) dX5_worth_6 ?_
  refine g_istore [(6, .int (0 : Int32)), (5, .int (0 : Int32)), (4, .int p1), (0, .ref (eB E + t)), (1, .int p1), (2, .ref (eB E + fa)), (3, .ref (eB E + sk))] (by decide) rfl dX5_worth_7 ?_
  refine g_lvs [3, 5, 6, 2, 1, 0] rfl ?_
  exact wX5_worth_b9 B  FU t fa sk p1 (0 : Int32) (0 : Int32) st h_t h_fa h_sk hf
theorem kX5_worth {l : Launch} {E : Ev} {st : St} {t : Nat} {p1 : Int32} {fa : Nat} {sk : Nat} {r0 : Int32} {u0 : St} (h_t : Obj st 5 t) (h_fa : Obj st 10 fa) (h_sk : Obj st 10 sk) (hf : fX5_worth t p1 fa sk st = some (r0, u0)) : CM l E WT yX5_worth cX5_worth 10 (some FieldType.int) 1 0 0 [.ref (eB E + t), .int p1, .ref (eB E + fa), .ref (eB E + sk)] st (some (.int r0)) u0 :=
  CM.intro mok_X5_worth (Nat.le_of_ble_eq_true rfl) (fun x hl hR ht hr hQ _ => wX5_worth ⟨hR, ht, hr, hQ⟩ t p1 fa sk st h_t h_fa h_sk hf)
def fX6_lengthOf_b153 (k51 : Int32 → Int32 → St → Option (Int32 × St))(l4 : Int32) (l5 : Int32) (st : St) : Option (Int32 × St) :=
  k51 l4 (l5 + (-1 : Int32)) st
set_option maxHeartbeats 1000000 in
set_option maxRecDepth 20000 in
theorem wX6_lengthOf_b153 {E : Ev} {x : Cx} {r0 : Int32} {u0 : St} (B : Bd E x (some FieldType.int) (4) 0 0 (some (.int r0)) u0) {k51 : Int32 → Int32 → St → Option (Int32 × St)} (hk51 : ∀ (l4 : Int32) (l5 : Int32) (st : St), k51 l4 l5 st = some (r0, u0) → G E WT x RX6 cX6_lengthOf 8 (0, 0) st 51 [(0, .ref (eB E + 19)), (4, .int l4), (5, .int l5)] []) (l4 : Int32) (l5 : Int32) (st : St)  (hf : fX6_lengthOf_b153 k51 l4 l5 st = some (r0, u0)) : G E WT x RX6 cX6_lengthOf 8 (0, 0) st 153 [(0, .ref (eB E + 19)), (4, .int l4), (5, .int l5)] [] := by
  unfold fX6_lengthOf_b153 at hf
  refine g_iinc (l5 + (-1 : Int32)) [(5, .int (l5 + (-1 : Int32))), (0, .ref (eB E + 19)), (4, .int l4)] 2 rfl (congrArg (fun z => l5 + z) (show Int32.ofInt (-1) = (-1 : Int32) by decide)) (by decide) rfl dX6_lengthOf_153 ?_
  refine g_goto 51 (by decide) dX6_lengthOf_156 ?_
  refine g_lvs [1, 2, 0] rfl ?_
  exact hk51 l4 (l5 + (-1 : Int32)) st hf
def fX6_lengthOf_b107 (k51 : Int32 → Int32 → St → Option (Int32 × St))(l4 : Int32) (l5 : Int32) (st : St) : Option (Int32 × St) :=
  optE (sR st 19 7) none (fun a2 => chk (ixb l5 12) ((fX5_worth a2 (sI st (a2 + 3) l5.toNatClampNeg) 20 21 st).bind (fun q6 => if q6.1 = (-2000000000 : Int32) then (fX6_lengthOf_b153 k51 l4 l5 q6.2) else (some (jmax (1 : Int32) (jmin (15 : Int32) q6.1), q6.2)))))
set_option maxHeartbeats 1000000 in
set_option maxRecDepth 20000 in
theorem wX6_lengthOf_b107 {E : Ev} {x : Cx} {r0 : Int32} {u0 : St} (B : Bd E x (some FieldType.int) (4) 0 0 (some (.int r0)) u0) {k51 : Int32 → Int32 → St → Option (Int32 × St)} (hk51 : ∀ (l4 : Int32) (l5 : Int32) (st : St), k51 l4 l5 st = some (r0, u0) → G E WT x RX6 cX6_lengthOf 8 (0, 0) st 51 [(0, .ref (eB E + 19)), (4, .int l4), (5, .int l5)] []) (l4 : Int32) (l5 : Int32) (st : St)  (hf : fX6_lengthOf_b107 k51 l4 l5 st = some (r0, u0)) : G E WT x RX6 cX6_lengthOf 8 (0, 0) st 107 [(0, .ref (eB E + 19)), (4, .int l4), (5, .int l5)] [] := by
  unfold fX6_lengthOf_b107 at hf
  refine g_aload_n rfl 0 rfl dX6_lengthOf_107 ?_
  refine g_get (j := 7) cok6 (by decide) (va_rf ((sR st 19 7).map (fun z => eB E + z))) (Or.inl tw1_201) oS19 (fun _ => rfl) dX6_lengthOf_108 ?_
  refine g_aload_n rfl 0 rfl dX6_lengthOf_111 ?_
  refine g_get (j := 7) cok6 (by decide) (va_rf ((sR st 19 7).map (fun z => eB E + z))) (Or.inl tw1_201) oS19 (fun _ => rfl) dX6_lengthOf_112 ?_
  rcases optE_c hf with ⟨_, hf⟩ | ⟨a2, h1, hf⟩
  · exact nomatch hf
  rw [h1]
  refine g_wt (fun w3 => ?_)
  have h_a2 := WT.vlaw w3 h1
  refine g_get (j := 2) cok5 (by decide) (.ref (eB E + (a2 + 3))) (Or.inr nf_27) (fun _ => h_a2) (fun w => slot_ref rfl (WT.scr w h_a2).2.2.1.1) dX6_lengthOf_115 ?_
  refine g_iload 2 rfl dX6_lengthOf_118 ?_
  obtain ⟨h4, hf⟩ := chk_some hf
  refine g_ialdj l5.toNatClampNeg rfl (fun w => (WT.scr w h_a2).2.2.1.2) (ixb_in h4) dX6_lengthOf_120 ?_
  refine g_aload_n rfl 0 rfl dX6_lengthOf_121 ?_
  refine g_get (j := 1) cok6 (by decide) (.ref (eB E + 20)) (Or.inl tw1_194) oS19 vS19_1 dX6_lengthOf_122 ?_
  refine g_aload_n rfl 0 rfl dX6_lengthOf_125 ?_
  refine g_get (j := 2) cok6 (by decide) (.ref (eB E + 21)) (Or.inl tw1_195) oS19 vS19_2 dX6_lengthOf_126 ?_
  refine g_wt (fun w5 => ?_)
  obtain ⟨q6, h7, hf⟩ := bnd_some hf
  refine g_callVN0i (As := [.int (sI st (a2 + 3) l5.toNatClampNeg), .ref (eB E + 20), .ref (eB E + 21)]) (rest := []) cok5 mok_X5_worth nmm_16 tw2_199 ts1_14 (fun _ => h_a2) B.1 (by decide) (kX5_worth ((fun _ => h_a2) w5) (oS20 w5) (oS21 w5) h7) rfl rfl (Nat.le_of_ble_eq_true rfl) ⟨Nat.le_refl _, Nat.le_refl _⟩ dX6_lengthOf_129 ?_
  refine g_istore [(7, .int q6.1), (0, .ref (eB E + 19)), (4, .int l4), (5, .int l5)] (by decide) rfl dX6_lengthOf_132 ?_
  refine g_iload 0 rfl dX6_lengthOf_134 ?_
  refine g_ldc tw2_207 dX6_lengthOf_136 ?_
  refine g_icmp_eq 153 (by decide) dX6_lengthOf_138 (fun h8 => ?_) (fun h8 => ?_)
  · rw [if_pos h8] at hf
    refine g_lvs [1, 2, 3] rfl ?_
    exact wX6_lengthOf_b153 B hk51 l4 l5 q6.2 hf
  · rw [if_neg h8] at hf
    refine g_iconst (1 : Int32) (by decide) dX6_lengthOf_141 ?_
    refine g_bipush (15 : Int32) (by decide) dX6_lengthOf_142 ?_
    refine g_iload 0 rfl dX6_lengthOf_144 ?_
    refine g_jmin tw2_208 B.1 (by decide) (Nat.le_of_ble_eq_true rfl) ⟨Nat.le_refl _, Nat.le_refl _⟩ dX6_lengthOf_146 ?_
    refine g_jmax tw2_211 B.1 (by decide) (Nat.le_of_ble_eq_true rfl) ⟨Nat.le_refl _, Nat.le_refl _⟩ dX6_lengthOf_149 ?_
    exact g_iret B.2.2.2 B.2.2.1 (congrArg (fun z => some (Value.int z)) (Prod.mk.inj (Option.some.inj hf)).1.symm) (Prod.mk.inj (Option.some.inj hf)).2.symm dX6_lengthOf_152
def fX6_lengthOf_b51 : Nat → Int32 → Int32 → St → Option (Int32 × St)
  | 0, _, _, _ => none
  | n + 1, l4, l5, st => if l5 < 0 then (some (l4, st)) else (optE (sR st 19 7) none (fun a3 => chk (ixb l5 12) (optE (sR st 19 7) none (fun a7 => chk (ixb l5 12) (if (sI st (a7 + 1) l5.toNatClampNeg) = 0 then (if (sI st (a3 + 4) l5.toNatClampNeg) = 0 then (fX6_lengthOf_b107 (fun zl4 zl5 zst => fX6_lengthOf_b51 n zl4 zl5 zst) l4 l5 st) else (optE (sR st 19 7) none (fun a13 => (fX5_worth a13 (sI st (a3 + 4) l5.toNatClampNeg) 20 21 st).bind (fun q16 => if q16.1 = (1 : Int32) then (fX6_lengthOf_b107 (fun zl4 zl5 zst => fX6_lengthOf_b51 n zl4 zl5 zst) l4 l5 q16.2) else (fX6_lengthOf_b153 (fun zl4 zl5 zst => fX6_lengthOf_b51 n zl4 zl5 zst) l4 l5 q16.2))))) else (fX6_lengthOf_b153 (fun zl4 zl5 zst => fX6_lengthOf_b51 n zl4 zl5 zst) l4 l5 st))))))
set_option maxHeartbeats 1000000 in
set_option maxRecDepth 20000 in
theorem wX6_lengthOf_b51 {E : Ev} {x : Cx} {r0 : Int32} {u0 : St} (B : Bd E x (some FieldType.int) (4) 0 0 (some (.int r0)) u0) : ∀ (n : Nat) (l4 : Int32) (l5 : Int32) (st : St) , fX6_lengthOf_b51 n l4 l5 st = some (r0, u0) → G E WT x RX6 cX6_lengthOf 8 (0, 0) st 51 [(0, .ref (eB E + 19)), (4, .int l4), (5, .int l5)] [] := by
  intro n
  induction n with
  | zero =>
    intros
    rename_i hf
    rw [fX6_lengthOf_b51] at hf
    cases hf
  | succ n ih =>
    intro l4 l5 st hf
    rw [fX6_lengthOf_b51] at hf
    refine g_iload 2 rfl dX6_lengthOf_51 ?_
    refine g_if_lt 159 (by decide) dX6_lengthOf_53 (fun h1 => ?_) (fun h1 => ?_)
    · rw [if_pos h1] at hf
      refine g_iload 1 rfl dX6_lengthOf_159 ?_
      exact g_iret B.2.2.2 B.2.2.1 (congrArg (fun z => some (Value.int z)) (Prod.mk.inj (Option.some.inj hf)).1.symm) (Prod.mk.inj (Option.some.inj hf)).2.symm dX6_lengthOf_161
    · rw [if_neg h1] at hf
      refine g_aload_n rfl 0 rfl dX6_lengthOf_56 ?_
      refine g_get (j := 7) cok6 (by decide) (va_rf ((sR st 19 7).map (fun z => eB E + z))) (Or.inl tw1_201) oS19 (fun _ => rfl) dX6_lengthOf_57 ?_
      rcases optE_c hf with ⟨_, hf⟩ | ⟨a3, h2, hf⟩
      · exact nomatch hf
      rw [h2]
      refine g_wt (fun w4 => ?_)
      have h_a3 := WT.vlaw w4 h2
      refine g_get (j := 3) cok5 (by decide) (.ref (eB E + (a3 + 4))) (Or.inr nf_30) (fun _ => h_a3) (fun w => slot_ref rfl (WT.scr w h_a3).2.2.2.1.1) dX6_lengthOf_60 ?_
      refine g_iload 2 rfl dX6_lengthOf_63 ?_
      obtain ⟨h5, hf⟩ := chk_some hf
      refine g_ialdj l5.toNatClampNeg rfl (fun w => (WT.scr w h_a3).2.2.2.1.2) (ixb_in h5) dX6_lengthOf_65 ?_
      refine g_istore [(6, .int (sI st (a3 + 4) l5.toNatClampNeg)), (0, .ref (eB E + 19)), (4, .int l4), (5, .int l5)] (by decide) rfl dX6_lengthOf_66 ?_
      refine g_aload_n rfl 1 rfl dX6_lengthOf_68 ?_
      refine g_get (j := 7) cok6 (by decide) (va_rf ((sR st 19 7).map (fun z => eB E + z))) (Or.inl tw1_201) oS19 (fun _ => rfl) dX6_lengthOf_69 ?_
      rcases optE_c hf with ⟨_, hf⟩ | ⟨a7, h6, hf⟩
      · exact nomatch hf
      rw [h6]
      refine g_wt (fun w8 => ?_)
      have h_a7 := WT.vlaw w8 h6
      refine g_get (j := 0) cok5 (by decide) (.ref (eB E + (a7 + 1))) (Or.inr nf_22) (fun _ => h_a7) (fun w => slot_ref rfl (WT.scr w h_a7).1.1) dX6_lengthOf_72 ?_
      refine g_iload 3 rfl dX6_lengthOf_75 ?_
      obtain ⟨h9, hf⟩ := chk_some hf
      refine g_ialdj l5.toNatClampNeg rfl (fun w => (WT.scr w h_a7).1.2) (ixb_in h9) dX6_lengthOf_77 ?_
      refine g_if_ne 153 (by decide) dX6_lengthOf_78 (fun h10 => ?_) (fun h10 => ?_)
      · rw [if_neg h10] at hf
        refine g_lvs [1, 2, 3] rfl ?_
        exact wX6_lengthOf_b153 B ih l4 l5 st hf
      · rw [if_pos h10] at hf
        refine g_iload 0 rfl dX6_lengthOf_81 ?_
        refine g_if_eq 107 (by decide) dX6_lengthOf_83 (fun h11 => ?_) (fun h11 => ?_)
        · rw [if_pos h11] at hf
          refine g_lvs [1, 2, 3] rfl ?_
          exact wX6_lengthOf_b107 B ih l4 l5 st hf
        · rw [if_neg h11] at hf
          refine g_aload_n rfl 1 rfl dX6_lengthOf_86 ?_
          refine g_get (j := 7) cok6 (by decide) (va_rf ((sR st 19 7).map (fun z => eB E + z))) (Or.inl tw1_201) oS19 (fun _ => rfl) dX6_lengthOf_87 ?_
          refine g_iload 0 rfl dX6_lengthOf_90 ?_
          refine g_aload_n rfl 1 rfl dX6_lengthOf_92 ?_
          refine g_get (j := 1) cok6 (by decide) (.ref (eB E + 20)) (Or.inl tw1_194) oS19 vS19_1 dX6_lengthOf_93 ?_
          refine g_aload_n rfl 1 rfl dX6_lengthOf_96 ?_
          refine g_get (j := 2) cok6 (by decide) (.ref (eB E + 21)) (Or.inl tw1_195) oS19 vS19_2 dX6_lengthOf_97 ?_
          rcases optE_c hf with ⟨_, hf⟩ | ⟨a13, h12, hf⟩
          · exact nomatch hf
          rw [h12]
          refine g_wt (fun w14 => ?_)
          have h_a13 := WT.vlaw w14 h12
          refine g_wt (fun w15 => ?_)
          obtain ⟨q16, h17, hf⟩ := bnd_some hf
          refine g_callVN0i (As := [.int (sI st (a3 + 4) l5.toNatClampNeg), .ref (eB E + 20), .ref (eB E + 21)]) (rest := []) cok5 mok_X5_worth nmm_16 tw2_199 ts1_14 (fun _ => h_a13) B.1 (by decide) (kX5_worth ((fun _ => h_a13) w15) (oS20 w15) (oS21 w15) h17) rfl rfl (Nat.le_of_ble_eq_true rfl) ⟨Nat.le_refl _, Nat.le_refl _⟩ dX6_lengthOf_100 ?_
          refine g_iconst (1 : Int32) (by decide) dX6_lengthOf_103 ?_
          refine g_icmp_ne 153 (by decide) dX6_lengthOf_104 (fun h18 => ?_) (fun h18 => ?_)
          · rw [if_neg h18] at hf
            refine g_lvs [1, 2, 3] rfl ?_
            exact wX6_lengthOf_b153 B ih l4 l5 q16.2 hf
          · rw [if_pos h18] at hf
            refine g_lvs [1, 2, 3] rfl ?_
            exact wX6_lengthOf_b107 B ih l4 l5 q16.2 hf
def fX6_lengthOf (p1 : Int32) (p2 : Int32) (p3 : Int32) (st : St) : Option (Int32 × St) :=
  chk (ixb p1 5) (optE (sR st 19 7) (some (sI st 3 p1.toNatClampNeg, st)) (fun a3 => optE (sR st 19 7) none (fun a5 => if (fX5_has st a5 (0 : Int32)) = 0 then (some (sI st 3 p1.toNatClampNeg, st)) else ((fX6_gatherFacts p1 p2 (0 : Int32) p3 st).bind (fun q9 => optE (sR q9 19 7) none (fun a12 => fX6_lengthOf_b51 FU (sI st 3 p1.toNatClampNeg) ((sI q9 a12 5) - (1 : Int32)) q9))))))
set_option maxHeartbeats 1000000 in
set_option maxRecDepth 20000 in
theorem wX6_lengthOf {E : Ev} {x : Cx} {r0 : Int32} {u0 : St} (B : Bd E x (some FieldType.int) (4) 0 0 (some (.int r0)) u0) (p1 : Int32) (p2 : Int32) (p3 : Int32) (st : St)  (hf : fX6_lengthOf p1 p2 p3 st = some (r0, u0)) : G E WT x RX6 cX6_lengthOf 8 (0, 0) st 0 [(0, .ref (eB E + 19)), (1, .int p1), (2, .int p2), (3, .int p3)] [] := by
  unfold fX6_lengthOf at hf
  refine g_aload_n rfl 0 rfl dX6_lengthOf_0 ?_
  refine g_get (j := 0) cok6 (by decide) (.ref (eB E + 1)) (Or.inl tw1_193) oS19 vS19_0 dX6_lengthOf_1 ?_
  refine g_get (j := 1) cok4 (by decide) (.ref (eB E + 3)) (Or.inr nf_3) oS1 vS1_1 dX6_lengthOf_4 ?_
  refine g_iload_n rfl 1 rfl dX6_lengthOf_7 ?_
  obtain ⟨h1, hf⟩ := chk_some hf
  refine g_ialdj p1.toNatClampNeg rfl aS3 (ixb_in h1) dX6_lengthOf_8 ?_
  refine g_istore [(4, .int (sI st 3 p1.toNatClampNeg)), (0, .ref (eB E + 19)), (1, .int p1), (2, .int p2), (3, .int p3)] (by decide) rfl dX6_lengthOf_9 ?_
  refine g_aload_n rfl 1 rfl dX6_lengthOf_11 ?_
  refine g_get (j := 7) cok6 (by decide) (va_rf ((sR st 19 7).map (fun z => eB E + z))) (Or.inl tw1_201) oS19 (fun _ => rfl) dX6_lengthOf_12 ?_
  rcases optE_c hf with ⟨h2, hf⟩ | ⟨a3, h2, hf⟩
  · rw [h2]
    refine g_ifnull_n 29 (by decide) dX6_lengthOf_15 ?_
    refine g_iload 0 rfl dX6_lengthOf_29 ?_
    exact g_iret B.2.2.2 B.2.2.1 (congrArg (fun z => some (Value.int z)) (Prod.mk.inj (Option.some.inj hf)).1.symm) (Prod.mk.inj (Option.some.inj hf)).2.symm dX6_lengthOf_31
  · rw [h2]
    refine g_ifnull_s dX6_lengthOf_15 ?_
    refine g_aload_n rfl 1 rfl dX6_lengthOf_18 ?_
    refine g_get (j := 7) cok6 (by decide) (va_rf ((sR st 19 7).map (fun z => eB E + z))) (Or.inl tw1_201) oS19 (fun _ => rfl) dX6_lengthOf_19 ?_
    refine g_iconst (0 : Int32) (by decide) dX6_lengthOf_22 ?_
    rcases optE_c hf with ⟨_, hf⟩ | ⟨a5, h4, hf⟩
    · exact nomatch hf
    rw [h4]
    refine g_wt (fun w6 => ?_)
    have h_a5 := WT.vlaw w6 h4
    refine g_wt (fun w7 => ?_)
    refine g_callVN0i (As := [.int (0 : Int32)]) (rest := []) cok5 mok_X5_has nmm_15 tw2_191 ts1_12 (fun _ => h_a5) B.1 (by decide) (kX5_has ((fun _ => h_a5) w7) rfl) rfl rfl (Nat.le_of_ble_eq_true rfl) ⟨Nat.le_refl _, Nat.le_refl _⟩ dX6_lengthOf_23 ?_
    refine g_if_ne 32 (by decide) dX6_lengthOf_26 (fun h8 => ?_) (fun h8 => ?_)
    · rw [if_neg h8] at hf
      refine g_aload_n rfl 1 rfl dX6_lengthOf_32 ?_
      refine g_iload_n rfl 2 rfl dX6_lengthOf_33 ?_
      refine g_iload_n rfl 3 rfl dX6_lengthOf_34 ?_
      refine g_iconst (0 : Int32) (by decide) dX6_lengthOf_35 ?_
      refine g_iload_n rfl 4 rfl dX6_lengthOf_36 ?_
      obtain ⟨q9, h10, hf⟩ := bnd_some hf
      refine g_callV0v (As := [.int p1, .int p2, .int (0 : Int32), .int p3]) (rest := []) cok6 mok_X6_gatherFacts tw2_193 tw2_195 ts1_13 oS19 B.1 (by decide) (kX6_gatherFacts  h10) rfl rfl (Nat.le_of_ble_eq_true rfl) ⟨Nat.le_refl _, Nat.le_refl _⟩ dX6_lengthOf_37 ?_
      refine g_aload_n rfl 1 rfl dX6_lengthOf_40 ?_
      refine g_get (j := 7) cok6 (by decide) (va_rf ((sR q9 19 7).map (fun z => eB E + z))) (Or.inl tw1_201) oS19 (fun _ => rfl) dX6_lengthOf_41 ?_
      rcases optE_c hf with ⟨_, hf⟩ | ⟨a12, h11, hf⟩
      · exact nomatch hf
      rw [h11]
      refine g_wt (fun w13 => ?_)
      have h_a12 := WT.vlaw w13 h11
      refine g_get (j := 5) cok5 (by decide) (.int (sI q9 a12 5)) (Or.inr nf_33) (fun _ => h_a12) (fun _ => rfl) dX6_lengthOf_44 ?_
      refine g_iconst (1 : Int32) (by decide) dX6_lengthOf_47 ?_
      refine g_isub dX6_lengthOf_48 ?_
      refine g_istore [(5, .int ((sI q9 a12 5) - (1 : Int32))), (4, .int (sI st 3 p1.toNatClampNeg)), (0, .ref (eB E + 19)), (1, .int p1), (2, .int p2), (3, .int p3)] (by decide) rfl dX6_lengthOf_49 ?_
      refine g_lvs [2, 1, 0] rfl ?_
      exact wX6_lengthOf_b51 B  FU (sI st 3 p1.toNatClampNeg) ((sI q9 a12 5) - (1 : Int32)) q9 hf
    · rw [if_pos h8] at hf
      refine g_iload 0 rfl dX6_lengthOf_29 ?_
      exact g_iret B.2.2.2 B.2.2.1 (congrArg (fun z => some (Value.int z)) (Prod.mk.inj (Option.some.inj hf)).1.symm) (Prod.mk.inj (Option.some.inj hf)).2.symm dX6_lengthOf_31
theorem kX6_lengthOf {l : Launch} {E : Ev} {st : St} {p1 : Int32} {p2 : Int32} {p3 : Int32} {r0 : Int32} {u0 : St}  (hf : fX6_lengthOf p1 p2 p3 st = some (r0, u0)) : CM l E WT yX6_lengthOf cX6_lengthOf 8 (some FieldType.int) 4 0 0 [.ref (eB E + 19), .int p1, .int p2, .int p3] st (some (.int r0)) u0 :=
  CM.intro mok_X6_lengthOf (Nat.le_of_ble_eq_true rfl) (fun x hl hR ht hr hQ _ => wX6_lengthOf ⟨hR, ht, hr, hQ⟩ p1 p2 p3 st hf)
def fX6_isSo_b234 (l1 : Int32) (l8 : Int32) (s1 : Int32) (s2 : Int32) (s3 : Int32) (st : St) : Option (Int32 × St) :=
  chk (ixb s1 3360) (chk (isb l8) (some (l8, pI st 23 s1.toNatClampNeg (s2 ||| (jshl s3 l1)))))
set_option maxHeartbeats 1000000 in
set_option maxRecDepth 20000 in
theorem wX6_isSo_b234 {E : Ev} {x : Cx} {r0 : Int32} {u0 : St} (B : Bd E x (some FieldType.boolean) (2) 0 0 (some (.int r0)) u0) (l1 : Int32) (l8 : Int32) (s1 : Int32) (s2 : Int32) (s3 : Int32) (st : St)  (hf : fX6_isSo_b234 l1 l8 s1 s2 s3 st = some (r0, u0)) : G E WT x RX6 cX6_isSo 11 (0, 0) st 234 [(1, .int l1), (8, .int l8)] [.int s3, .int s2, .int s1, .ref (eB E + 23)] := by
  unfold fX6_isSo_b234 at hf
  refine g_iload_n rfl 0 rfl dX6_isSo_234 ?_
  refine g_ishl dX6_isSo_235 ?_
  refine g_ior dX6_isSo_236 ?_
  obtain ⟨h1, hf⟩ := chk_some hf
  refine g_iastj s1.toNatClampNeg rfl aS23 (ixb_in h1) B.2.1 wpI dX6_isSo_237 ?_
  refine g_iload 1 rfl dX6_isSo_238 ?_
  obtain ⟨h2, hf⟩ := chk_some hf
  exact g_zret B.2.2.2 B.2.2.1 (isb_or h2) (congrArg (fun z => some (Value.int z)) (Prod.mk.inj (Option.some.inj hf)).1.symm) (Prod.mk.inj (Option.some.inj hf)).2.symm dX6_isSo_240
def fX6_isSo_b215 (l1 : Int32) (l6 : Int32) (l7 : Int32) (l8 : Int32) (st : St) : Option (Int32 × St) :=
  if l8 = 0 then (fX6_isSo_b234 l1 l8 l6 l7 (1 : Int32) st) else (fX6_isSo_b234 l1 l8 l6 l7 (17 : Int32) st)
set_option maxHeartbeats 1000000 in
set_option maxRecDepth 20000 in
theorem wX6_isSo_b215 {E : Ev} {x : Cx} {r0 : Int32} {u0 : St} (B : Bd E x (some FieldType.boolean) (2) 0 0 (some (.int r0)) u0) (l1 : Int32) (l6 : Int32) (l7 : Int32) (l8 : Int32) (st : St)  (hf : fX6_isSo_b215 l1 l6 l7 l8 st = some (r0, u0)) : G E WT x RX6 cX6_isSo 11 (0, 0) st 215 [(0, .ref (eB E + 19)), (1, .int l1), (6, .int l6), (7, .int l7), (8, .int l8)] [] := by
  unfold fX6_isSo_b215 at hf
  refine g_aload_n rfl 0 rfl dX6_isSo_215 ?_
  refine g_get (j := 4) cok6 (by decide) (.ref (eB E + 23)) (Or.inl tw1_198) oS19 vS19_4 dX6_isSo_216 ?_
  refine g_iload 2 rfl dX6_isSo_219 ?_
  refine g_iload 3 rfl dX6_isSo_221 ?_
  refine g_iload 4 rfl dX6_isSo_223 ?_
  refine g_if_eq 233 (by decide) dX6_isSo_225 (fun h1 => ?_) (fun h1 => ?_)
  · rw [if_pos h1] at hf
    refine g_iconst (1 : Int32) (by decide) dX6_isSo_233 ?_
    refine g_lvs [1, 4] rfl ?_
    exact wX6_isSo_b234 B  l1 l8 l6 l7 (1 : Int32) st hf
  · rw [if_neg h1] at hf
    refine g_bipush (17 : Int32) (by decide) dX6_isSo_228 ?_
    refine g_goto 234 (by decide) dX6_isSo_230 ?_
    refine g_lvs [1, 4] rfl ?_
    exact wX6_isSo_b234 B  l1 l8 l6 l7 (17 : Int32) st hf
def fX6_isSo_b207 (k133 : Int32 → Int32 → Int32 → Int32 → Int32 → St → Option (Int32 × St))(l1 : Int32) (l6 : Int32) (l7 : Int32) (l9 : Int32) (s0 : Int32) (st : St) : Option (Int32 × St) :=
  k133 l1 l6 l7 s0 (l9 + (1 : Int32)) st
set_option maxHeartbeats 1000000 in
set_option maxRecDepth 20000 in
theorem wX6_isSo_b207 {E : Ev} {x : Cx} {r0 : Int32} {u0 : St} (B : Bd E x (some FieldType.boolean) (2) 0 0 (some (.int r0)) u0) {k133 : Int32 → Int32 → Int32 → Int32 → Int32 → St → Option (Int32 × St)} (hk133 : ∀ (l1 : Int32) (l6 : Int32) (l7 : Int32) (l8 : Int32) (l9 : Int32) (st : St), k133 l1 l6 l7 l8 l9 st = some (r0, u0) → G E WT x RX6 cX6_isSo 11 (0, 0) st 133 [(0, .ref (eB E + 19)), (1, .int l1), (6, .int l6), (7, .int l7), (8, .int l8), (9, .int l9)] []) (l1 : Int32) (l6 : Int32) (l7 : Int32) (l9 : Int32) (s0 : Int32) (st : St)  (hf : fX6_isSo_b207 k133 l1 l6 l7 l9 s0 st = some (r0, u0)) : G E WT x RX6 cX6_isSo 11 (0, 0) st 207 [(0, .ref (eB E + 19)), (1, .int l1), (6, .int l6), (7, .int l7), (9, .int l9)] [.int s0] := by
  unfold fX6_isSo_b207 at hf
  refine g_istore [(8, .int s0), (0, .ref (eB E + 19)), (1, .int l1), (6, .int l6), (7, .int l7), (9, .int l9)] (by decide) rfl dX6_isSo_207 ?_
  refine g_iinc (l9 + (1 : Int32)) [(9, .int (l9 + (1 : Int32))), (8, .int s0), (0, .ref (eB E + 19)), (1, .int l1), (6, .int l6), (7, .int l7)] 5 rfl (congrArg (fun z => l9 + z) (show Int32.ofInt (1) = (1 : Int32) by decide)) (by decide) rfl dX6_isSo_209 ?_
  refine g_goto 133 (by decide) dX6_isSo_212 ?_
  refine g_lvs [2, 3, 4, 5, 1, 0] rfl ?_
  exact hk133 l1 l6 l7 s0 (l9 + (1 : Int32)) st hf
def fX6_isSo_b206 (k133 : Int32 → Int32 → Int32 → Int32 → Int32 → St → Option (Int32 × St))(l1 : Int32) (l6 : Int32) (l7 : Int32) (l9 : Int32) (st : St) : Option (Int32 × St) :=
  fX6_isSo_b207 k133 l1 l6 l7 l9 (0 : Int32) st
set_option maxHeartbeats 1000000 in
set_option maxRecDepth 20000 in
theorem wX6_isSo_b206 {E : Ev} {x : Cx} {r0 : Int32} {u0 : St} (B : Bd E x (some FieldType.boolean) (2) 0 0 (some (.int r0)) u0) {k133 : Int32 → Int32 → Int32 → Int32 → Int32 → St → Option (Int32 × St)} (hk133 : ∀ (l1 : Int32) (l6 : Int32) (l7 : Int32) (l8 : Int32) (l9 : Int32) (st : St), k133 l1 l6 l7 l8 l9 st = some (r0, u0) → G E WT x RX6 cX6_isSo 11 (0, 0) st 133 [(0, .ref (eB E + 19)), (1, .int l1), (6, .int l6), (7, .int l7), (8, .int l8), (9, .int l9)] []) (l1 : Int32) (l6 : Int32) (l7 : Int32) (l9 : Int32) (st : St)  (hf : fX6_isSo_b206 k133 l1 l6 l7 l9 st = some (r0, u0)) : G E WT x RX6 cX6_isSo 11 (0, 0) st 206 [(0, .ref (eB E + 19)), (1, .int l1), (6, .int l6), (7, .int l7), (9, .int l9)] [] := by
  unfold fX6_isSo_b206 at hf
  refine g_iconst (0 : Int32) (by decide) dX6_isSo_206 ?_
  refine g_lvs [0, 1, 2, 3, 4] rfl ?_
  exact wX6_isSo_b207 B hk133 l1 l6 l7 l9 (0 : Int32) st hf
def fX6_isSo_b202 (k133 : Int32 → Int32 → Int32 → Int32 → Int32 → St → Option (Int32 × St))(l1 : Int32) (l6 : Int32) (l7 : Int32) (l9 : Int32) (st : St) : Option (Int32 × St) :=
  fX6_isSo_b207 k133 l1 l6 l7 l9 (1 : Int32) st
set_option maxHeartbeats 1000000 in
set_option maxRecDepth 20000 in
theorem wX6_isSo_b202 {E : Ev} {x : Cx} {r0 : Int32} {u0 : St} (B : Bd E x (some FieldType.boolean) (2) 0 0 (some (.int r0)) u0) {k133 : Int32 → Int32 → Int32 → Int32 → Int32 → St → Option (Int32 × St)} (hk133 : ∀ (l1 : Int32) (l6 : Int32) (l7 : Int32) (l8 : Int32) (l9 : Int32) (st : St), k133 l1 l6 l7 l8 l9 st = some (r0, u0) → G E WT x RX6 cX6_isSo 11 (0, 0) st 133 [(0, .ref (eB E + 19)), (1, .int l1), (6, .int l6), (7, .int l7), (8, .int l8), (9, .int l9)] []) (l1 : Int32) (l6 : Int32) (l7 : Int32) (l9 : Int32) (st : St)  (hf : fX6_isSo_b202 k133 l1 l6 l7 l9 st = some (r0, u0)) : G E WT x RX6 cX6_isSo 11 (0, 0) st 202 [(0, .ref (eB E + 19)), (1, .int l1), (6, .int l6), (7, .int l7), (9, .int l9)] [] := by
  unfold fX6_isSo_b202 at hf
  refine g_iconst (1 : Int32) (by decide) dX6_isSo_202 ?_
  refine g_goto 207 (by decide) dX6_isSo_203 ?_
  refine g_lvs [0, 1, 2, 3, 4] rfl ?_
  exact wX6_isSo_b207 B hk133 l1 l6 l7 l9 (1 : Int32) st hf
def fX6_isSo_b133 : Nat → Int32 → Int32 → Int32 → Int32 → Int32 → St → Option (Int32 × St)
  | 0, _, _, _, _, _, _ => none
  | n + 1, l1, l6, l7, l8, l9, st => optE (sR st 19 7) none (fun a2 => if (sI st a2 5) ≤ l9 then (fX6_isSo_b215 l1 l6 l7 l8 st) else (if l8 = 0 then (optE (sR st 19 7) none (fun a7 => chk (ixb l9 12) (optE (sR st 19 7) none (fun a11 => chk (ixb l9 12) (if (sI st (a11 + 1) l9.toNatClampNeg) = l1 then (if (sI st (a7 + 4) l9.toNatClampNeg) = 0 then (fX6_isSo_b202 (fun zl1 zl6 zl7 zl8 zl9 zst => fX6_isSo_b133 n zl1 zl6 zl7 zl8 zl9 zst) l1 l6 l7 l9 st) else (optE (sR st 19 7) none (fun a17 => (fX5_worth a17 (sI st (a7 + 4) l9.toNatClampNeg) 20 21 st).bind (fun q20 => if q20.1 = (1 : Int32) then (fX6_isSo_b202 (fun zl1 zl6 zl7 zl8 zl9 zst => fX6_isSo_b133 n zl1 zl6 zl7 zl8 zl9 zst) l1 l6 l7 l9 q20.2) else (fX6_isSo_b206 (fun zl1 zl6 zl7 zl8 zl9 zst => fX6_isSo_b133 n zl1 zl6 zl7 zl8 zl9 zst) l1 l6 l7 l9 q20.2))))) else (fX6_isSo_b206 (fun zl1 zl6 zl7 zl8 zl9 zst => fX6_isSo_b133 n zl1 zl6 zl7 zl8 zl9 zst) l1 l6 l7 l9 st)))))) else (fX6_isSo_b215 l1 l6 l7 l8 st)))
set_option maxHeartbeats 1000000 in
set_option maxRecDepth 20000 in
theorem wX6_isSo_b133 {E : Ev} {x : Cx} {r0 : Int32} {u0 : St} (B : Bd E x (some FieldType.boolean) (2) 0 0 (some (.int r0)) u0) : ∀ (n : Nat) (l1 : Int32) (l6 : Int32) (l7 : Int32) (l8 : Int32) (l9 : Int32) (st : St) , fX6_isSo_b133 n l1 l6 l7 l8 l9 st = some (r0, u0) → G E WT x RX6 cX6_isSo 11 (0, 0) st 133 [(0, .ref (eB E + 19)), (1, .int l1), (6, .int l6), (7, .int l7), (8, .int l8), (9, .int l9)] [] := by
  intro n
  induction n with
  | zero =>
    intros
    rename_i hf
    rw [fX6_isSo_b133] at hf
    cases hf
  | succ n ih =>
    intro l1 l6 l7 l8 l9 st hf
    rw [fX6_isSo_b133] at hf
    refine g_iload 5 rfl dX6_isSo_133 ?_
    refine g_aload_n rfl 0 rfl dX6_isSo_135 ?_
    refine g_get (j := 7) cok6 (by decide) (va_rf ((sR st 19 7).map (fun z => eB E + z))) (Or.inl tw1_201) oS19 (fun _ => rfl) dX6_isSo_136 ?_
    rcases optE_c hf with ⟨_, hf⟩ | ⟨a2, h1, hf⟩
    · exact nomatch hf
    rw [h1]
    refine g_wt (fun w3 => ?_)
    have h_a2 := WT.vlaw w3 h1
    refine g_get (j := 5) cok5 (by decide) (.int (sI st a2 5)) (Or.inr nf_33) (fun _ => h_a2) (fun _ => rfl) dX6_isSo_139 ?_
    refine g_icmp_ge 215 (by decide) dX6_isSo_142 (fun h4 => ?_) (fun h4 => ?_)
    · rw [if_pos h4] at hf
      refine g_lvs [0, 1, 2, 3, 4] rfl ?_
      exact wX6_isSo_b215 B  l1 l6 l7 l8 st hf
    · rw [if_neg h4] at hf
      refine g_iload 4 rfl dX6_isSo_145 ?_
      refine g_if_ne 215 (by decide) dX6_isSo_147 (fun h5 => ?_) (fun h5 => ?_)
      · rw [if_neg h5] at hf
        refine g_lvs [0, 1, 2, 3, 4] rfl ?_
        exact wX6_isSo_b215 B  l1 l6 l7 l8 st hf
      · rw [if_pos h5] at hf
        refine g_aload_n rfl 0 rfl dX6_isSo_150 ?_
        refine g_get (j := 7) cok6 (by decide) (va_rf ((sR st 19 7).map (fun z => eB E + z))) (Or.inl tw1_201) oS19 (fun _ => rfl) dX6_isSo_151 ?_
        rcases optE_c hf with ⟨_, hf⟩ | ⟨a7, h6, hf⟩
        · exact nomatch hf
        rw [h6]
        refine g_wt (fun w8 => ?_)
        have h_a7 := WT.vlaw w8 h6
        refine g_get (j := 3) cok5 (by decide) (.ref (eB E + (a7 + 4))) (Or.inr nf_30) (fun _ => h_a7) (fun w => slot_ref rfl (WT.scr w h_a7).2.2.2.1.1) dX6_isSo_154 ?_
        refine g_iload 5 rfl dX6_isSo_157 ?_
        obtain ⟨h9, hf⟩ := chk_some hf
        refine g_ialdj l9.toNatClampNeg rfl (fun w => (WT.scr w h_a7).2.2.2.1.2) (ixb_in h9) dX6_isSo_159 ?_
        refine g_istore [(10, .int (sI st (a7 + 4) l9.toNatClampNeg)), (0, .ref (eB E + 19)), (1, .int l1), (6, .int l6), (7, .int l7), (8, .int l8), (9, .int l9)] (by decide) rfl dX6_isSo_160 ?_
        refine g_aload_n rfl 1 rfl dX6_isSo_162 ?_
        refine g_get (j := 7) cok6 (by decide) (va_rf ((sR st 19 7).map (fun z => eB E + z))) (Or.inl tw1_201) oS19 (fun _ => rfl) dX6_isSo_163 ?_
        rcases optE_c hf with ⟨_, hf⟩ | ⟨a11, h10, hf⟩
        · exact nomatch hf
        rw [h10]
        refine g_wt (fun w12 => ?_)
        have h_a11 := WT.vlaw w12 h10
        refine g_get (j := 0) cok5 (by decide) (.ref (eB E + (a11 + 1))) (Or.inr nf_22) (fun _ => h_a11) (fun w => slot_ref rfl (WT.scr w h_a11).1.1) dX6_isSo_166 ?_
        refine g_iload 6 rfl dX6_isSo_169 ?_
        obtain ⟨h13, hf⟩ := chk_some hf
        refine g_ialdj l9.toNatClampNeg rfl (fun w => (WT.scr w h_a11).1.2) (ixb_in h13) dX6_isSo_171 ?_
        refine g_iload_n rfl 2 rfl dX6_isSo_172 ?_
        refine g_icmp_ne 206 (by decide) dX6_isSo_173 (fun h14 => ?_) (fun h14 => ?_)
        · rw [if_neg h14] at hf
          refine g_lvs [1, 2, 3, 4, 6] rfl ?_
          exact wX6_isSo_b206 B ih l1 l6 l7 l9 st hf
        · rw [if_pos h14] at hf
          refine g_iload 0 rfl dX6_isSo_176 ?_
          refine g_if_eq 202 (by decide) dX6_isSo_178 (fun h15 => ?_) (fun h15 => ?_)
          · rw [if_pos h15] at hf
            refine g_lvs [1, 2, 3, 4, 6] rfl ?_
            exact wX6_isSo_b202 B ih l1 l6 l7 l9 st hf
          · rw [if_neg h15] at hf
            refine g_aload_n rfl 1 rfl dX6_isSo_181 ?_
            refine g_get (j := 7) cok6 (by decide) (va_rf ((sR st 19 7).map (fun z => eB E + z))) (Or.inl tw1_201) oS19 (fun _ => rfl) dX6_isSo_182 ?_
            refine g_iload 0 rfl dX6_isSo_185 ?_
            refine g_aload_n rfl 1 rfl dX6_isSo_187 ?_
            refine g_get (j := 1) cok6 (by decide) (.ref (eB E + 20)) (Or.inl tw1_194) oS19 vS19_1 dX6_isSo_188 ?_
            refine g_aload_n rfl 1 rfl dX6_isSo_191 ?_
            refine g_get (j := 2) cok6 (by decide) (.ref (eB E + 21)) (Or.inl tw1_195) oS19 vS19_2 dX6_isSo_192 ?_
            rcases optE_c hf with ⟨_, hf⟩ | ⟨a17, h16, hf⟩
            · exact nomatch hf
            rw [h16]
            refine g_wt (fun w18 => ?_)
            have h_a17 := WT.vlaw w18 h16
            refine g_wt (fun w19 => ?_)
            obtain ⟨q20, h21, hf⟩ := bnd_some hf
            refine g_callVN0i (As := [.int (sI st (a7 + 4) l9.toNatClampNeg), .ref (eB E + 20), .ref (eB E + 21)]) (rest := []) cok5 mok_X5_worth nmm_16 tw2_199 ts1_14 (fun _ => h_a17) B.1 (by decide) (kX5_worth ((fun _ => h_a17) w19) (oS20 w19) (oS21 w19) h21) rfl rfl (Nat.le_of_ble_eq_true rfl) ⟨Nat.le_refl _, Nat.le_refl _⟩ dX6_isSo_195 ?_
            refine g_iconst (1 : Int32) (by decide) dX6_isSo_198 ?_
            refine g_icmp_ne 206 (by decide) dX6_isSo_199 (fun h22 => ?_) (fun h22 => ?_)
            · rw [if_neg h22] at hf
              refine g_lvs [1, 2, 3, 4, 6] rfl ?_
              exact wX6_isSo_b206 B ih l1 l6 l7 l9 q20.2 hf
            · rw [if_pos h22] at hf
              refine g_lvs [1, 2, 3, 4, 6] rfl ?_
              exact wX6_isSo_b202 B ih l1 l6 l7 l9 q20.2 hf
def fX6_isSo_b89 (l1 : Int32) (l2 : Int32) (l3 : Int32) (l4 : Int32) (l5 : Int32) (l6 : Int32) (s0 : Int32) (st : St) : Option (Int32 × St) :=
  if ((jshr s0 l1) &&& (1 : Int32)) = (1 : Int32) then (if ((jshr s0 l1) &&& (16 : Int32)) = 0 then (some ((0 : Int32), st)) else (some ((1 : Int32), st))) else ((fX6_gatherFacts l2 l3 l4 l5 st).bind (fun q2 => fX6_isSo_b133 FU l1 l6 s0 (0 : Int32) (0 : Int32) q2))
set_option maxHeartbeats 1000000 in
set_option maxRecDepth 20000 in
theorem wX6_isSo_b89 {E : Ev} {x : Cx} {r0 : Int32} {u0 : St} (B : Bd E x (some FieldType.boolean) (2) 0 0 (some (.int r0)) u0) (l1 : Int32) (l2 : Int32) (l3 : Int32) (l4 : Int32) (l5 : Int32) (l6 : Int32) (s0 : Int32) (st : St)  (hf : fX6_isSo_b89 l1 l2 l3 l4 l5 l6 s0 st = some (r0, u0)) : G E WT x RX6 cX6_isSo 11 (0, 0) st 89 [(0, .ref (eB E + 19)), (1, .int l1), (2, .int l2), (3, .int l3), (4, .int l4), (5, .int l5), (6, .int l6)] [.int s0] := by
  unfold fX6_isSo_b89 at hf
  refine g_istore [(7, .int s0), (0, .ref (eB E + 19)), (1, .int l1), (2, .int l2), (3, .int l3), (4, .int l4), (5, .int l5), (6, .int l6)] (by decide) rfl dX6_isSo_89 ?_
  refine g_iload 0 rfl dX6_isSo_91 ?_
  refine g_iload_n rfl 2 rfl dX6_isSo_93 ?_
  refine g_ishr dX6_isSo_94 ?_
  refine g_iconst (1 : Int32) (by decide) dX6_isSo_95 ?_
  refine g_iand dX6_isSo_96 ?_
  refine g_iconst (1 : Int32) (by decide) dX6_isSo_97 ?_
  refine g_icmp_ne 117 (by decide) dX6_isSo_98 (fun h1 => ?_) (fun h1 => ?_)
  · rw [if_neg h1] at hf
    refine g_iconst (0 : Int32) (by decide) dX6_isSo_117 ?_
    refine g_istore [(8, .int (0 : Int32)), (7, .int s0), (0, .ref (eB E + 19)), (1, .int l1), (2, .int l2), (3, .int l3), (4, .int l4), (5, .int l5), (6, .int l6)] (by decide) rfl dX6_isSo_118 ?_
    refine g_aload_n rfl 2 rfl dX6_isSo_120 ?_
    refine g_iload_n rfl 4 rfl dX6_isSo_121 ?_
    refine g_iload_n rfl 5 rfl dX6_isSo_122 ?_
    refine g_iload 6 rfl dX6_isSo_123 ?_
    refine g_iload 7 rfl dX6_isSo_125 ?_
    obtain ⟨q2, h3, hf⟩ := bnd_some hf
    refine g_callV0v (As := [.int l2, .int l3, .int l4, .int l5]) (rest := []) cok6 mok_X6_gatherFacts tw2_193 tw2_195 ts1_13 oS19 B.1 (by decide) (kX6_gatherFacts  h3) rfl rfl (Nat.le_of_ble_eq_true rfl) ⟨Nat.le_refl _, Nat.le_refl _⟩ dX6_isSo_127 ?_
    refine g_iconst (0 : Int32) (by decide) dX6_isSo_130 ?_
    refine g_istore [(9, .int (0 : Int32)), (8, .int (0 : Int32)), (7, .int s0), (0, .ref (eB E + 19)), (1, .int l1), (2, .int l2), (3, .int l3), (4, .int l4), (5, .int l5), (6, .int l6)] (by decide) rfl dX6_isSo_131 ?_
    refine g_lvs [3, 4, 9, 2, 1, 0] rfl ?_
    exact wX6_isSo_b133 B  FU l1 l6 s0 (0 : Int32) (0 : Int32) q2 hf
  · rw [if_pos h1] at hf
    refine g_iload 0 rfl dX6_isSo_101 ?_
    refine g_iload_n rfl 2 rfl dX6_isSo_103 ?_
    refine g_ishr dX6_isSo_104 ?_
    refine g_bipush (16 : Int32) (by decide) dX6_isSo_105 ?_
    refine g_iand dX6_isSo_107 ?_
    refine g_if_eq 115 (by decide) dX6_isSo_108 (fun h4 => ?_) (fun h4 => ?_)
    · rw [if_pos h4] at hf
      refine g_iconst (0 : Int32) (by decide) dX6_isSo_115 ?_
      exact g_zret B.2.2.2 B.2.2.1 (by decide) (congrArg (fun z => some (Value.int z)) (Prod.mk.inj (Option.some.inj hf)).1.symm) (Prod.mk.inj (Option.some.inj hf)).2.symm dX6_isSo_116
    · rw [if_neg h4] at hf
      refine g_iconst (1 : Int32) (by decide) dX6_isSo_111 ?_
      refine g_goto 116 (by decide) dX6_isSo_112 ?_
      exact g_zret B.2.2.2 B.2.2.1 (by decide) (congrArg (fun z => some (Value.int z)) (Prod.mk.inj (Option.some.inj hf)).1.symm) (Prod.mk.inj (Option.some.inj hf)).2.symm dX6_isSo_116
def fX6_isSo (p1 : Int32) (p2 : Int32) (p3 : Int32) (p4 : Int32) (p5 : Int32) (st : St) : Option (Int32 × St) :=
  optE (sR st 19 7) (some ((0 : Int32), st)) (fun a2 => optE (sR st 19 7) none (fun a4 => if (fX5_has st a4 p1) = 0 then (some ((0 : Int32), st)) else (if ((((((p2 * (6 : Int32)) + p3) * (16 : Int32)) + p4) * (7 : Int32)) + p5) < 0 then (some ((0 : Int32), st)) else (if ((((((p2 * (6 : Int32)) + p3) * (16 : Int32)) + p4) * (7 : Int32)) + p5) < (3360 : Int32) then (chk (ixb ((((((p2 * (6 : Int32)) + p3) * (16 : Int32)) + p4) * (7 : Int32)) + p5) 3360) (if (jshr (sI st 23 (((((((p2 * (6 : Int32)) + p3) * (16 : Int32)) + p4) * (7 : Int32)) + p5).toNatClampNeg)) (8 : Int32)) = (sI st 19 6) then (chk (ixb ((((((p2 * (6 : Int32)) + p3) * (16 : Int32)) + p4) * (7 : Int32)) + p5) 3360) (fX6_isSo_b89 p1 p2 p3 p4 p5 ((((((p2 * (6 : Int32)) + p3) * (16 : Int32)) + p4) * (7 : Int32)) + p5) (sI st 23 (((((((p2 * (6 : Int32)) + p3) * (16 : Int32)) + p4) * (7 : Int32)) + p5).toNatClampNeg)) st)) else (fX6_isSo_b89 p1 p2 p3 p4 p5 ((((((p2 * (6 : Int32)) + p3) * (16 : Int32)) + p4) * (7 : Int32)) + p5) (jshl (sI st 19 6) (8 : Int32)) st))) else (some ((0 : Int32), st))))))
set_option maxHeartbeats 1000000 in
set_option maxRecDepth 20000 in
theorem wX6_isSo {E : Ev} {x : Cx} {r0 : Int32} {u0 : St} (B : Bd E x (some FieldType.boolean) (2) 0 0 (some (.int r0)) u0) (p1 : Int32) (p2 : Int32) (p3 : Int32) (p4 : Int32) (p5 : Int32) (st : St)  (hf : fX6_isSo p1 p2 p3 p4 p5 st = some (r0, u0)) : G E WT x RX6 cX6_isSo 11 (0, 0) st 0 [(0, .ref (eB E + 19)), (1, .int p1), (2, .int p2), (3, .int p3), (4, .int p4), (5, .int p5)] [] := by
  unfold fX6_isSo at hf
  refine g_iload_n rfl 2 rfl dX6_isSo_0 ?_
  refine g_bipush (6 : Int32) (by decide) dX6_isSo_1 ?_
  refine g_imul dX6_isSo_3 ?_
  refine g_iload_n rfl 3 rfl dX6_isSo_4 ?_
  refine g_iadd dX6_isSo_5 ?_
  refine g_bipush (16 : Int32) (by decide) dX6_isSo_6 ?_
  refine g_imul dX6_isSo_8 ?_
  refine g_iload 4 rfl dX6_isSo_9 ?_
  refine g_iadd dX6_isSo_11 ?_
  refine g_bipush (7 : Int32) (by decide) dX6_isSo_12 ?_
  refine g_imul dX6_isSo_14 ?_
  refine g_iload 5 rfl dX6_isSo_15 ?_
  refine g_iadd dX6_isSo_17 ?_
  refine g_istore [(6, .int ((((((p2 * (6 : Int32)) + p3) * (16 : Int32)) + p4) * (7 : Int32)) + p5)), (0, .ref (eB E + 19)), (1, .int p1), (2, .int p2), (3, .int p3), (4, .int p4), (5, .int p5)] (by decide) rfl dX6_isSo_18 ?_
  refine g_aload_n rfl 1 rfl dX6_isSo_20 ?_
  refine g_get (j := 7) cok6 (by decide) (va_rf ((sR st 19 7).map (fun z => eB E + z))) (Or.inl tw1_201) oS19 (fun _ => rfl) dX6_isSo_21 ?_
  rcases optE_c hf with ⟨h1, hf⟩ | ⟨a2, h1, hf⟩
  · rw [h1]
    refine g_ifnull_n 53 (by decide) dX6_isSo_24 ?_
    refine g_iconst (0 : Int32) (by decide) dX6_isSo_53 ?_
    exact g_zret B.2.2.2 B.2.2.1 (by decide) (congrArg (fun z => some (Value.int z)) (Prod.mk.inj (Option.some.inj hf)).1.symm) (Prod.mk.inj (Option.some.inj hf)).2.symm dX6_isSo_54
  · rw [h1]
    refine g_ifnull_s dX6_isSo_24 ?_
    refine g_aload_n rfl 1 rfl dX6_isSo_27 ?_
    refine g_get (j := 7) cok6 (by decide) (va_rf ((sR st 19 7).map (fun z => eB E + z))) (Or.inl tw1_201) oS19 (fun _ => rfl) dX6_isSo_28 ?_
    refine g_iload_n rfl 2 rfl dX6_isSo_31 ?_
    rcases optE_c hf with ⟨_, hf⟩ | ⟨a4, h3, hf⟩
    · exact nomatch hf
    rw [h3]
    refine g_wt (fun w5 => ?_)
    have h_a4 := WT.vlaw w5 h3
    refine g_wt (fun w6 => ?_)
    refine g_callVN0i (As := [.int p1]) (rest := []) cok5 mok_X5_has nmm_15 tw2_191 ts1_12 (fun _ => h_a4) B.1 (by decide) (kX5_has ((fun _ => h_a4) w6) rfl) rfl rfl (Nat.le_of_ble_eq_true rfl) ⟨Nat.le_refl _, Nat.le_refl _⟩ dX6_isSo_32 ?_
    refine g_if_eq 53 (by decide) dX6_isSo_35 (fun h7 => ?_) (fun h7 => ?_)
    · rw [if_pos h7] at hf
      refine g_iconst (0 : Int32) (by decide) dX6_isSo_53 ?_
      exact g_zret B.2.2.2 B.2.2.1 (by decide) (congrArg (fun z => some (Value.int z)) (Prod.mk.inj (Option.some.inj hf)).1.symm) (Prod.mk.inj (Option.some.inj hf)).2.symm dX6_isSo_54
    · rw [if_neg h7] at hf
      refine g_iload 0 rfl dX6_isSo_38 ?_
      refine g_if_lt 53 (by decide) dX6_isSo_40 (fun h8 => ?_) (fun h8 => ?_)
      · rw [if_pos h8] at hf
        refine g_iconst (0 : Int32) (by decide) dX6_isSo_53 ?_
        exact g_zret B.2.2.2 B.2.2.1 (by decide) (congrArg (fun z => some (Value.int z)) (Prod.mk.inj (Option.some.inj hf)).1.symm) (Prod.mk.inj (Option.some.inj hf)).2.symm dX6_isSo_54
      · rw [if_neg h8] at hf
        refine g_iload 0 rfl dX6_isSo_43 ?_
        refine g_aload_n rfl 1 rfl dX6_isSo_45 ?_
        refine g_get (j := 4) cok6 (by decide) (.ref (eB E + 23)) (Or.inl tw1_198) oS19 vS19_4 dX6_isSo_46 ?_
        refine g_alenL 1 (3360 : Int32) (by decide) aS23 (by decide) rfl dX6_isSo_49 ?_
        refine g_icmp_lt 55 (by decide) dX6_isSo_50 (fun h9 => ?_) (fun h9 => ?_)
        · rw [if_pos h9] at hf
          refine g_aload_n rfl 1 rfl dX6_isSo_55 ?_
          refine g_get (j := 4) cok6 (by decide) (.ref (eB E + 23)) (Or.inl tw1_198) oS19 vS19_4 dX6_isSo_56 ?_
          refine g_iload 0 rfl dX6_isSo_59 ?_
          obtain ⟨h10, hf⟩ := chk_some hf
          refine g_ialdj (((((((p2 * (6 : Int32)) + p3) * (16 : Int32)) + p4) * (7 : Int32)) + p5).toNatClampNeg) rfl aS23 (ixb_in h10) dX6_isSo_61 ?_
          refine g_bipush (8 : Int32) (by decide) dX6_isSo_62 ?_
          refine g_ishr dX6_isSo_64 ?_
          refine g_aload_n rfl 1 rfl dX6_isSo_65 ?_
          refine g_get (j := 6) cok6 (by decide) (.int (sI st 19 6)) (Or.inl tw1_200) oS19 (fun _ => rfl) dX6_isSo_66 ?_
          refine g_icmp_ne 82 (by decide) dX6_isSo_69 (fun h11 => ?_) (fun h11 => ?_)
          · rw [if_neg h11] at hf
            refine g_aload_n rfl 1 rfl dX6_isSo_82 ?_
            refine g_get (j := 6) cok6 (by decide) (.int (sI st 19 6)) (Or.inl tw1_200) oS19 (fun _ => rfl) dX6_isSo_83 ?_
            refine g_bipush (8 : Int32) (by decide) dX6_isSo_86 ?_
            refine g_ishl dX6_isSo_88 ?_
            refine g_lvs [1, 2, 3, 4, 5, 6, 0] rfl ?_
            exact wX6_isSo_b89 B  p1 p2 p3 p4 p5 ((((((p2 * (6 : Int32)) + p3) * (16 : Int32)) + p4) * (7 : Int32)) + p5) (jshl (sI st 19 6) (8 : Int32)) st hf
          · rw [if_pos h11] at hf
            refine g_aload_n rfl 1 rfl dX6_isSo_72 ?_
            refine g_get (j := 4) cok6 (by decide) (.ref (eB E + 23)) (Or.inl tw1_198) oS19 vS19_4 dX6_isSo_73 ?_
            refine g_iload 0 rfl dX6_isSo_76 ?_
            obtain ⟨h12, hf⟩ := chk_some hf
            refine g_ialdj (((((((p2 * (6 : Int32)) + p3) * (16 : Int32)) + p4) * (7 : Int32)) + p5).toNatClampNeg) rfl aS23 (ixb_in h12) dX6_isSo_78 ?_
            refine g_goto 89 (by decide) dX6_isSo_79 ?_
            refine g_lvs [1, 2, 3, 4, 5, 6, 0] rfl ?_
            exact wX6_isSo_b89 B  p1 p2 p3 p4 p5 ((((((p2 * (6 : Int32)) + p3) * (16 : Int32)) + p4) * (7 : Int32)) + p5) (sI st 23 (((((((p2 * (6 : Int32)) + p3) * (16 : Int32)) + p4) * (7 : Int32)) + p5).toNatClampNeg)) st hf
        · rw [if_neg h9] at hf
          refine g_iconst (0 : Int32) (by decide) dX6_isSo_53 ?_
          exact g_zret B.2.2.2 B.2.2.1 (by decide) (congrArg (fun z => some (Value.int z)) (Prod.mk.inj (Option.some.inj hf)).1.symm) (Prod.mk.inj (Option.some.inj hf)).2.symm dX6_isSo_54
theorem kX6_isSo {l : Launch} {E : Ev} {st : St} {p1 : Int32} {p2 : Int32} {p3 : Int32} {p4 : Int32} {p5 : Int32} {r0 : Int32} {u0 : St}  (hf : fX6_isSo p1 p2 p3 p4 p5 st = some (r0, u0)) : CM l E WT yX6_isSo cX6_isSo 11 (some FieldType.boolean) 2 0 0 [.ref (eB E + 19), .int p1, .int p2, .int p3, .int p4, .int p5] st (some (.int r0)) u0 :=
  CM.intro mok_X6_isSo (Nat.le_of_ble_eq_true rfl) (fun x hl hR ht hr hQ _ => wX6_isSo ⟨hR, ht, hr, hQ⟩ p1 p2 p3 p4 p5 st hf)
def fX6_speak_b150 (l3 : Int32) (l5 : Int32) (l6 : Int32) (st : St) : Option (Int32 × St) :=
  (fX6_isSo (3 : Int32) l3 l6 (sI st 19 10) l5 st).bind (fun q1 => if q1.1 = 0 then (some (l6, q1.2)) else (some ((100 : Int32) + l6, q1.2)))
set_option maxHeartbeats 1000000 in
set_option maxRecDepth 20000 in
theorem wX6_speak_b150 {E : Ev} {x : Cx} {r0 : Int32} {u0 : St} (B : Bd E x (some FieldType.int) (5) 0 0 (some (.int r0)) u0) (l3 : Int32) (l5 : Int32) (l6 : Int32) (st : St)  (hf : fX6_speak_b150 l3 l5 l6 st = some (r0, u0)) : G E WT x RX6 cX6_speak 10 (0, 0) st 150 [(0, .ref (eB E + 19)), (3, .int l3), (5, .int l5), (6, .int l6)] [] := by
  unfold fX6_speak_b150 at hf
  refine g_aload_n rfl 0 rfl dX6_speak_150 ?_
  refine g_iconst (3 : Int32) (by decide) dX6_speak_151 ?_
  refine g_iload_n rfl 1 rfl dX6_speak_152 ?_
  refine g_iload 3 rfl dX6_speak_153 ?_
  refine g_aload_n rfl 0 rfl dX6_speak_155 ?_
  refine g_get (j := 10) cok6 (by decide) (.int (sI st 19 10)) (Or.inl tw1_204) oS19 (fun _ => rfl) dX6_speak_156 ?_
  refine g_iload 2 rfl dX6_speak_159 ?_
  obtain ⟨q1, h2, hf⟩ := bnd_some hf
  refine g_callV0i (As := [.int (3 : Int32), .int l3, .int l6, .int (sI st 19 10), .int l5]) (rest := []) cok6 mok_X6_isSo tw3_175 tw2_214 ts1_15 oS19 B.1 (by decide) (kX6_isSo  h2) rfl rfl (Nat.le_of_ble_eq_true rfl) ⟨Nat.le_refl _, Nat.le_refl _⟩ dX6_speak_161 ?_
  refine g_if_eq 175 (by decide) dX6_speak_164 (fun h3 => ?_) (fun h3 => ?_)
  · rw [if_pos h3] at hf
    refine g_iload 3 rfl dX6_speak_175 ?_
    exact g_iret B.2.2.2 B.2.2.1 (congrArg (fun z => some (Value.int z)) (Prod.mk.inj (Option.some.inj hf)).1.symm) (Prod.mk.inj (Option.some.inj hf)).2.symm dX6_speak_177
  · rw [if_neg h3] at hf
    refine g_bipush (100 : Int32) (by decide) dX6_speak_167 ?_
    refine g_iload 3 rfl dX6_speak_169 ?_
    refine g_iadd dX6_speak_171 ?_
    refine g_goto 177 (by decide) dX6_speak_172 ?_
    exact g_iret B.2.2.2 B.2.2.1 (congrArg (fun z => some (Value.int z)) (Prod.mk.inj (Option.some.inj hf)).1.symm) (Prod.mk.inj (Option.some.inj hf)).2.symm dX6_speak_177
def fX6_speak_b144 (k40 : Int32 → Int32 → Int32 → Int32 → Int32 → Int32 → St → Option (Int32 × St))(l1 : Int32) (l3 : Int32) (l5 : Int32) (l6 : Int32) (l7 : Int32) (l8 : Int32) (st : St) : Option (Int32 × St) :=
  k40 l1 l3 l5 l6 l7 (l8 + (1 : Int32)) st
set_option maxHeartbeats 1000000 in
set_option maxRecDepth 20000 in
theorem wX6_speak_b144 {E : Ev} {x : Cx} {r0 : Int32} {u0 : St} (B : Bd E x (some FieldType.int) (5) 0 0 (some (.int r0)) u0) {k40 : Int32 → Int32 → Int32 → Int32 → Int32 → Int32 → St → Option (Int32 × St)} (hk40 : ∀ (l1 : Int32) (l3 : Int32) (l5 : Int32) (l6 : Int32) (l7 : Int32) (l8 : Int32) (st : St), k40 l1 l3 l5 l6 l7 l8 st = some (r0, u0) → G E WT x RX6 cX6_speak 10 (0, 0) st 40 [(0, .ref (eB E + 19)), (1, .int l1), (3, .int l3), (5, .int l5), (6, .int l6), (7, .int l7), (8, .int l8)] []) (l1 : Int32) (l3 : Int32) (l5 : Int32) (l6 : Int32) (l7 : Int32) (l8 : Int32) (st : St)  (hf : fX6_speak_b144 k40 l1 l3 l5 l6 l7 l8 st = some (r0, u0)) : G E WT x RX6 cX6_speak 10 (0, 0) st 144 [(0, .ref (eB E + 19)), (1, .int l1), (3, .int l3), (5, .int l5), (6, .int l6), (7, .int l7), (8, .int l8)] [] := by
  unfold fX6_speak_b144 at hf
  refine g_iinc (l8 + (1 : Int32)) [(8, .int (l8 + (1 : Int32))), (0, .ref (eB E + 19)), (1, .int l1), (3, .int l3), (5, .int l5), (6, .int l6), (7, .int l7)] 6 rfl (congrArg (fun z => l8 + z) (show Int32.ofInt (1) = (1 : Int32) by decide)) (by decide) rfl dX6_speak_144 ?_
  refine g_goto 40 (by decide) dX6_speak_147 ?_
  refine g_lvs [1, 2, 3, 4, 5, 6, 0] rfl ?_
  exact hk40 l1 l3 l5 l6 l7 (l8 + (1 : Int32)) st hf
def fX6_speak_b115 (k40 : Int32 → Int32 → Int32 → Int32 → Int32 → Int32 → St → Option (Int32 × St))(l1 : Int32) (l3 : Int32) (l5 : Int32) (l6 : Int32) (l7 : Int32) (l8 : Int32) (st : St) : Option (Int32 × St) :=
  chk (ixb l8 16) ((fX6_isSo (2 : Int32) l3 l6 l8 l5 (pI st 22 l8.toNatClampNeg l6)).bind (fun q2 => if q2.1 = 0 then (fX6_speak_b144 k40 l1 l3 l5 l6 l7 l8 q2.2) else (fX6_speak_b144 k40 l1 l3 l5 l6 (-l7) l8 q2.2)))
set_option maxHeartbeats 1000000 in
set_option maxRecDepth 20000 in
theorem wX6_speak_b115 {E : Ev} {x : Cx} {r0 : Int32} {u0 : St} (B : Bd E x (some FieldType.int) (5) 0 0 (some (.int r0)) u0) {k40 : Int32 → Int32 → Int32 → Int32 → Int32 → Int32 → St → Option (Int32 × St)} (hk40 : ∀ (l1 : Int32) (l3 : Int32) (l5 : Int32) (l6 : Int32) (l7 : Int32) (l8 : Int32) (st : St), k40 l1 l3 l5 l6 l7 l8 st = some (r0, u0) → G E WT x RX6 cX6_speak 10 (0, 0) st 40 [(0, .ref (eB E + 19)), (1, .int l1), (3, .int l3), (5, .int l5), (6, .int l6), (7, .int l7), (8, .int l8)] []) (l1 : Int32) (l3 : Int32) (l5 : Int32) (l6 : Int32) (l7 : Int32) (l8 : Int32) (st : St)  (hf : fX6_speak_b115 k40 l1 l3 l5 l6 l7 l8 st = some (r0, u0)) : G E WT x RX6 cX6_speak 10 (0, 0) st 115 [(0, .ref (eB E + 19)), (1, .int l1), (3, .int l3), (5, .int l5), (6, .int l6), (7, .int l7), (8, .int l8)] [] := by
  unfold fX6_speak_b115 at hf
  refine g_aload_n rfl 0 rfl dX6_speak_115 ?_
  refine g_get (j := 3) cok6 (by decide) (.ref (eB E + 22)) (Or.inl tw1_196) oS19 vS19_3 dX6_speak_116 ?_
  refine g_iload 6 rfl dX6_speak_119 ?_
  refine g_iload 4 rfl dX6_speak_121 ?_
  obtain ⟨h1, hf⟩ := chk_some hf
  refine g_iastj l8.toNatClampNeg rfl aS22 (ixb_in h1) B.2.1 wpI dX6_speak_123 ?_
  refine g_aload_n rfl 0 rfl dX6_speak_124 ?_
  refine g_iconst (2 : Int32) (by decide) dX6_speak_125 ?_
  refine g_iload_n rfl 2 rfl dX6_speak_126 ?_
  refine g_iload 4 rfl dX6_speak_127 ?_
  refine g_iload 6 rfl dX6_speak_129 ?_
  refine g_iload 3 rfl dX6_speak_131 ?_
  obtain ⟨q2, h3, hf⟩ := bnd_some hf
  refine g_callV0i (As := [.int (2 : Int32), .int l3, .int l6, .int l8, .int l5]) (rest := []) cok6 mok_X6_isSo tw3_175 tw2_214 ts1_15 oS19 B.1 (by decide) (kX6_isSo  h3) rfl rfl (Nat.le_of_ble_eq_true rfl) ⟨Nat.le_refl _, Nat.le_refl _⟩ dX6_speak_133 ?_
  refine g_if_eq 144 (by decide) dX6_speak_136 (fun h4 => ?_) (fun h4 => ?_)
  · rw [if_pos h4] at hf
    refine g_lvs [0, 1, 2, 3, 4, 5, 6] rfl ?_
    exact wX6_speak_b144 B hk40 l1 l3 l5 l6 l7 l8 q2.2 hf
  · rw [if_neg h4] at hf
    refine g_iload 5 rfl dX6_speak_139 ?_
    refine g_ineg dX6_speak_141 ?_
    refine g_istore [(7, .int (-l7)), (0, .ref (eB E + 19)), (1, .int l1), (3, .int l3), (5, .int l5), (6, .int l6), (8, .int l8)] (by decide) rfl dX6_speak_142 ?_
    refine g_lvs [1, 2, 3, 4, 5, 0, 6] rfl ?_
    exact wX6_speak_b144 B hk40 l1 l3 l5 l6 (-l7) l8 q2.2 hf
def fX6_speak_b76 (k40 : Int32 → Int32 → Int32 → Int32 → Int32 → Int32 → St → Option (Int32 × St)) : Nat → Int32 → Int32 → Int32 → Int32 → Int32 → Int32 → Int32 → St → Option (Int32 × St)
  | 0, _, _, _, _, _, _, _, _ => none
  | n + 1, l1, l3, l5, l6, l7, l8, l9, st => if l5 ≤ l9 then (fX6_speak_b115 k40 l1 l3 l5 l6 l7 l8 st) else ((fX6_isSo (1 : Int32) l3 l6 l8 l5 st).bind (fun q2 => if q2.1 = 0 then (fX6_speak_b115 k40 l1 l3 l5 l6 l7 l8 q2.2) else ((fX6_nextIn q2.2 l1 l6 l7).bind (fun q5 => fX6_speak_b76 k40 n l1 l3 l5 q5 l7 l8 (l9 + (1 : Int32)) q2.2))))
set_option maxHeartbeats 1000000 in
set_option maxRecDepth 20000 in
theorem wX6_speak_b76 {E : Ev} {x : Cx} {r0 : Int32} {u0 : St} (B : Bd E x (some FieldType.int) (5) 0 0 (some (.int r0)) u0) {k40 : Int32 → Int32 → Int32 → Int32 → Int32 → Int32 → St → Option (Int32 × St)} (hk40 : ∀ (l1 : Int32) (l3 : Int32) (l5 : Int32) (l6 : Int32) (l7 : Int32) (l8 : Int32) (st : St), k40 l1 l3 l5 l6 l7 l8 st = some (r0, u0) → G E WT x RX6 cX6_speak 10 (0, 0) st 40 [(0, .ref (eB E + 19)), (1, .int l1), (3, .int l3), (5, .int l5), (6, .int l6), (7, .int l7), (8, .int l8)] []) : ∀ (n : Nat) (l1 : Int32) (l3 : Int32) (l5 : Int32) (l6 : Int32) (l7 : Int32) (l8 : Int32) (l9 : Int32) (st : St) , fX6_speak_b76 k40 n l1 l3 l5 l6 l7 l8 l9 st = some (r0, u0) → G E WT x RX6 cX6_speak 10 (0, 0) st 76 [(0, .ref (eB E + 19)), (1, .int l1), (3, .int l3), (5, .int l5), (6, .int l6), (7, .int l7), (8, .int l8), (9, .int l9)] [] := by
  intro n
  induction n with
  | zero =>
    intros
    rename_i hf
    rw [fX6_speak_b76] at hf
    cases hf
  | succ n ih =>
    intro l1 l3 l5 l6 l7 l8 l9 st hf
    rw [fX6_speak_b76] at hf
    refine g_iload 7 rfl dX6_speak_76 ?_
    refine g_iload 3 rfl dX6_speak_78 ?_
    refine g_icmp_ge 115 (by decide) dX6_speak_80 (fun h1 => ?_) (fun h1 => ?_)
    · rw [if_pos h1] at hf
      refine g_lvs [0, 1, 2, 3, 4, 5, 6] rfl ?_
      exact wX6_speak_b115 B hk40 l1 l3 l5 l6 l7 l8 st hf
    · rw [if_neg h1] at hf
      refine g_aload_n rfl 0 rfl dX6_speak_83 ?_
      refine g_iconst (1 : Int32) (by decide) dX6_speak_84 ?_
      refine g_iload_n rfl 2 rfl dX6_speak_85 ?_
      refine g_iload 4 rfl dX6_speak_86 ?_
      refine g_iload 6 rfl dX6_speak_88 ?_
      refine g_iload 3 rfl dX6_speak_90 ?_
      obtain ⟨q2, h3, hf⟩ := bnd_some hf
      refine g_callV0i (As := [.int (1 : Int32), .int l3, .int l6, .int l8, .int l5]) (rest := []) cok6 mok_X6_isSo tw3_175 tw2_214 ts1_15 oS19 B.1 (by decide) (kX6_isSo  h3) rfl rfl (Nat.le_of_ble_eq_true rfl) ⟨Nat.le_refl _, Nat.le_refl _⟩ dX6_speak_92 ?_
      refine g_if_eq 115 (by decide) dX6_speak_95 (fun h4 => ?_) (fun h4 => ?_)
      · rw [if_pos h4] at hf
        refine g_lvs [0, 1, 2, 3, 4, 5, 6] rfl ?_
        exact wX6_speak_b115 B hk40 l1 l3 l5 l6 l7 l8 q2.2 hf
      · rw [if_neg h4] at hf
        refine g_aload_n rfl 0 rfl dX6_speak_98 ?_
        refine g_iload_n rfl 1 rfl dX6_speak_99 ?_
        refine g_iload 4 rfl dX6_speak_100 ?_
        refine g_iload 5 rfl dX6_speak_102 ?_
        obtain ⟨q5, h6, hf⟩ := bnd_some hf
        refine g_callV0i (As := [.int l1, .int l6, .int l7]) (rest := []) cok6 mok_X6_nextIn tw3_170 tw3_172 ts3_8 oS19 B.1 (by decide) (kX6_nextIn  h6) rfl rfl (Nat.le_of_ble_eq_true rfl) ⟨Nat.le_refl _, Nat.le_refl _⟩ dX6_speak_104 ?_
        refine g_istore [(6, .int q5), (0, .ref (eB E + 19)), (1, .int l1), (3, .int l3), (5, .int l5), (7, .int l7), (8, .int l8), (9, .int l9)] (by decide) rfl dX6_speak_107 ?_
        refine g_iinc (l9 + (1 : Int32)) [(9, .int (l9 + (1 : Int32))), (6, .int q5), (0, .ref (eB E + 19)), (1, .int l1), (3, .int l3), (5, .int l5), (7, .int l7), (8, .int l8)] 7 rfl (congrArg (fun z => l9 + z) (show Int32.ofInt (1) = (1 : Int32) by decide)) (by decide) rfl dX6_speak_109 ?_
        refine g_goto 76 (by decide) dX6_speak_112 ?_
        refine g_lvs [2, 3, 4, 5, 1, 6, 7, 0] rfl ?_
        exact ih l1 l3 l5 q5 l7 l8 (l9 + (1 : Int32)) q2.2 hf
def fX6_speak_b73 (k40 : Int32 → Int32 → Int32 → Int32 → Int32 → Int32 → St → Option (Int32 × St))(l1 : Int32) (l3 : Int32) (l5 : Int32) (l6 : Int32) (l7 : Int32) (l8 : Int32) (st : St) : Option (Int32 × St) :=
  fX6_speak_b76 k40 FU l1 l3 l5 l6 l7 l8 (0 : Int32) st
set_option maxHeartbeats 1000000 in
set_option maxRecDepth 20000 in
theorem wX6_speak_b73 {E : Ev} {x : Cx} {r0 : Int32} {u0 : St} (B : Bd E x (some FieldType.int) (5) 0 0 (some (.int r0)) u0) {k40 : Int32 → Int32 → Int32 → Int32 → Int32 → Int32 → St → Option (Int32 × St)} (hk40 : ∀ (l1 : Int32) (l3 : Int32) (l5 : Int32) (l6 : Int32) (l7 : Int32) (l8 : Int32) (st : St), k40 l1 l3 l5 l6 l7 l8 st = some (r0, u0) → G E WT x RX6 cX6_speak 10 (0, 0) st 40 [(0, .ref (eB E + 19)), (1, .int l1), (3, .int l3), (5, .int l5), (6, .int l6), (7, .int l7), (8, .int l8)] []) (l1 : Int32) (l3 : Int32) (l5 : Int32) (l6 : Int32) (l7 : Int32) (l8 : Int32) (st : St)  (hf : fX6_speak_b73 k40 l1 l3 l5 l6 l7 l8 st = some (r0, u0)) : G E WT x RX6 cX6_speak 10 (0, 0) st 73 [(0, .ref (eB E + 19)), (1, .int l1), (3, .int l3), (5, .int l5), (6, .int l6), (7, .int l7), (8, .int l8)] [] := by
  unfold fX6_speak_b73 at hf
  refine g_iconst (0 : Int32) (by decide) dX6_speak_73 ?_
  refine g_istore [(9, .int (0 : Int32)), (0, .ref (eB E + 19)), (1, .int l1), (3, .int l3), (5, .int l5), (6, .int l6), (7, .int l7), (8, .int l8)] (by decide) rfl dX6_speak_74 ?_
  refine g_lvs [1, 2, 3, 4, 5, 6, 7, 0] rfl ?_
  exact wX6_speak_b76 B hk40 FU l1 l3 l5 l6 l7 l8 (0 : Int32) st hf
def fX6_speak_b40 : Nat → Int32 → Int32 → Int32 → Int32 → Int32 → Int32 → St → Option (Int32 × St)
  | 0, _, _, _, _, _, _, _ => none
  | n + 1, l1, l3, l5, l6, l7, l8, st => if (sI st 19 10) < l8 then (fX6_speak_b150 l3 l5 l6 st) else (if (15 : Int32) < l8 then (fX6_speak_b150 l3 l5 l6 st) else (if l8 ≤ (1 : Int32) then (fX6_speak_b73 (fun zl1 zl3 zl5 zl6 zl7 zl8 zst => fX6_speak_b40 n zl1 zl3 zl5 zl6 zl7 zl8 zst) l1 l3 l5 l6 l7 l8 st) else ((fX6_nextIn st l1 l6 l7).bind (fun q4 => fX6_speak_b73 (fun zl1 zl3 zl5 zl6 zl7 zl8 zst => fX6_speak_b40 n zl1 zl3 zl5 zl6 zl7 zl8 zst) l1 l3 l5 q4 l7 l8 st))))
set_option maxHeartbeats 1000000 in
set_option maxRecDepth 20000 in
theorem wX6_speak_b40 {E : Ev} {x : Cx} {r0 : Int32} {u0 : St} (B : Bd E x (some FieldType.int) (5) 0 0 (some (.int r0)) u0) : ∀ (n : Nat) (l1 : Int32) (l3 : Int32) (l5 : Int32) (l6 : Int32) (l7 : Int32) (l8 : Int32) (st : St) , fX6_speak_b40 n l1 l3 l5 l6 l7 l8 st = some (r0, u0) → G E WT x RX6 cX6_speak 10 (0, 0) st 40 [(0, .ref (eB E + 19)), (1, .int l1), (3, .int l3), (5, .int l5), (6, .int l6), (7, .int l7), (8, .int l8)] [] := by
  intro n
  induction n with
  | zero =>
    intros
    rename_i hf
    rw [fX6_speak_b40] at hf
    cases hf
  | succ n ih =>
    intro l1 l3 l5 l6 l7 l8 st hf
    rw [fX6_speak_b40] at hf
    refine g_iload 6 rfl dX6_speak_40 ?_
    refine g_aload_n rfl 0 rfl dX6_speak_42 ?_
    refine g_get (j := 10) cok6 (by decide) (.int (sI st 19 10)) (Or.inl tw1_204) oS19 (fun _ => rfl) dX6_speak_43 ?_
    refine g_icmp_gt 150 (by decide) dX6_speak_46 (fun h1 => ?_) (fun h1 => ?_)
    · rw [if_pos h1] at hf
      refine g_lvs [0, 2, 3, 4] rfl ?_
      exact wX6_speak_b150 B  l3 l5 l6 st hf
    · rw [if_neg h1] at hf
      refine g_iload 6 rfl dX6_speak_49 ?_
      refine g_bipush (15 : Int32) (by decide) dX6_speak_51 ?_
      refine g_icmp_gt 150 (by decide) dX6_speak_53 (fun h2 => ?_) (fun h2 => ?_)
      · rw [if_pos h2] at hf
        refine g_lvs [0, 2, 3, 4] rfl ?_
        exact wX6_speak_b150 B  l3 l5 l6 st hf
      · rw [if_neg h2] at hf
        refine g_iload 6 rfl dX6_speak_56 ?_
        refine g_iconst (1 : Int32) (by decide) dX6_speak_58 ?_
        refine g_icmp_le 73 (by decide) dX6_speak_59 (fun h3 => ?_) (fun h3 => ?_)
        · rw [if_pos h3] at hf
          refine g_lvs [0, 1, 2, 3, 4, 5, 6] rfl ?_
          exact wX6_speak_b73 B ih l1 l3 l5 l6 l7 l8 st hf
        · rw [if_neg h3] at hf
          refine g_aload_n rfl 0 rfl dX6_speak_62 ?_
          refine g_iload_n rfl 1 rfl dX6_speak_63 ?_
          refine g_iload 4 rfl dX6_speak_64 ?_
          refine g_iload 5 rfl dX6_speak_66 ?_
          obtain ⟨q4, h5, hf⟩ := bnd_some hf
          refine g_callV0i (As := [.int l1, .int l6, .int l7]) (rest := []) cok6 mok_X6_nextIn tw3_170 tw3_172 ts3_8 oS19 B.1 (by decide) (kX6_nextIn  h5) rfl rfl (Nat.le_of_ble_eq_true rfl) ⟨Nat.le_refl _, Nat.le_refl _⟩ dX6_speak_68 ?_
          refine g_istore [(6, .int q4), (0, .ref (eB E + 19)), (1, .int l1), (3, .int l3), (5, .int l5), (7, .int l7), (8, .int l8)] (by decide) rfl dX6_speak_71 ?_
          refine g_lvs [1, 2, 3, 4, 0, 5, 6] rfl ?_
          exact wX6_speak_b73 B ih l1 l3 l5 q4 l7 l8 st hf
def fX6_speak (p1 : Int32) (p2 : Int32) (p3 : Int32) (p4 : Int32) (st : St) : Option (Int32 × St) :=
  (fX6_firstIn st p1 p2).bind (fun q1 => (fX6_lengthOf p3 q1 (fJ6_bitCount_0f7a4 p1) st).bind (fun q3 => fX6_speak_b40 FU p1 p3 (fJ6_bitCount_0f7a4 p1) q1 (1 : Int32) (1 : Int32) (pI q3.2 19 10 (jmax (1 : Int32) (q3.1 - p4)))))
set_option maxHeartbeats 1000000 in
set_option maxRecDepth 20000 in
theorem wX6_speak {E : Ev} {x : Cx} {r0 : Int32} {u0 : St} (B : Bd E x (some FieldType.int) (5) 0 0 (some (.int r0)) u0) (p1 : Int32) (p2 : Int32) (p3 : Int32) (p4 : Int32) (st : St)  (hf : fX6_speak p1 p2 p3 p4 st = some (r0, u0)) : G E WT x RX6 cX6_speak 10 (0, 0) st 0 [(0, .ref (eB E + 19)), (1, .int p1), (2, .int p2), (3, .int p3), (4, .int p4)] [] := by
  unfold fX6_speak at hf
  refine g_iload_n rfl 1 rfl dX6_speak_0 ?_
  refine g_callS0i (As := [.int p1]) (rest := []) mok_J6_bitCount_0f7a4 tw3_165 tw2_167 B.1 (by decide) (kJ6_bitCount_0f7a4  rfl) rfl rfl (Nat.le_of_ble_eq_true rfl) ⟨Nat.le_refl _, Nat.le_refl _⟩ dX6_speak_1 ?_
  refine g_istore [(5, .int (fJ6_bitCount_0f7a4 p1)), (0, .ref (eB E + 19)), (1, .int p1), (2, .int p2), (3, .int p3), (4, .int p4)] (by decide) rfl dX6_speak_4 ?_
  refine g_aload_n rfl 1 rfl dX6_speak_6 ?_
  refine g_iload_n rfl 2 rfl dX6_speak_7 ?_
  refine g_iload_n rfl 3 rfl dX6_speak_8 ?_
  obtain ⟨q1, h2, hf⟩ := bnd_some hf
  refine g_callV0i (As := [.int p1, .int p2]) (rest := []) cok6 mok_X6_firstIn tw3_166 tw3_168 ts3_7 oS19 B.1 (by decide) (kX6_firstIn  h2) rfl rfl (Nat.le_of_ble_eq_true rfl) ⟨Nat.le_refl _, Nat.le_refl _⟩ dX6_speak_9 ?_
  refine g_istore [(6, .int q1), (5, .int (fJ6_bitCount_0f7a4 p1)), (0, .ref (eB E + 19)), (1, .int p1), (2, .int p2), (3, .int p3), (4, .int p4)] (by decide) rfl dX6_speak_12 ?_
  refine g_iconst (1 : Int32) (by decide) dX6_speak_14 ?_
  refine g_istore [(7, .int (1 : Int32)), (6, .int q1), (5, .int (fJ6_bitCount_0f7a4 p1)), (0, .ref (eB E + 19)), (1, .int p1), (2, .int p2), (3, .int p3), (4, .int p4)] (by decide) rfl dX6_speak_15 ?_
  refine g_aload_n rfl 3 rfl dX6_speak_17 ?_
  refine g_iconst (1 : Int32) (by decide) dX6_speak_18 ?_
  refine g_aload_n rfl 3 rfl dX6_speak_19 ?_
  refine g_iload_n rfl 6 rfl dX6_speak_20 ?_
  refine g_iload 1 rfl dX6_speak_21 ?_
  refine g_iload 2 rfl dX6_speak_23 ?_
  obtain ⟨q3, h4, hf⟩ := bnd_some hf
  refine g_callV0i (As := [.int p3, .int q1, .int (fJ6_bitCount_0f7a4 p1)]) (rest := [.int (1 : Int32), .ref (eB E + 19)]) cok6 mok_X6_lengthOf tw3_174 tw2_187 ts1_11 oS19 B.1 (by decide) (kX6_lengthOf  h4) rfl rfl (Nat.le_of_ble_eq_true rfl) ⟨Nat.le_refl _, Nat.le_refl _⟩ dX6_speak_25 ?_
  refine g_iload 7 rfl dX6_speak_28 ?_
  refine g_isub dX6_speak_30 ?_
  refine g_jmax tw2_211 B.1 (by decide) (Nat.le_of_ble_eq_true rfl) ⟨Nat.le_refl _, Nat.le_refl _⟩ dX6_speak_31 ?_
  refine g_putI (j := 10) cok6 (by decide) rfl rfl rfl rfl (Or.inl tw1_204) oS19 B.2.1 wpI dX6_speak_34 ?_
  refine g_iconst (1 : Int32) (by decide) dX6_speak_37 ?_
  refine g_istore [(8, .int (1 : Int32)), (7, .int (1 : Int32)), (6, .int q1), (5, .int (fJ6_bitCount_0f7a4 p1)), (0, .ref (eB E + 19)), (1, .int p1), (2, .int p2), (3, .int p3), (4, .int p4)] (by decide) rfl dX6_speak_38 ?_
  refine g_lvs [4, 5, 7, 3, 2, 1, 0] rfl ?_
  exact wX6_speak_b40 B  FU p1 p3 (fJ6_bitCount_0f7a4 p1) q1 (1 : Int32) (1 : Int32) (pI q3.2 19 10 (jmax (1 : Int32) (q3.1 - p4))) hf
theorem kX6_speak {l : Launch} {E : Ev} {st : St} {p1 : Int32} {p2 : Int32} {p3 : Int32} {p4 : Int32} {r0 : Int32} {u0 : St}  (hf : fX6_speak p1 p2 p3 p4 st = some (r0, u0)) : CM l E WT yX6_speak cX6_speak 10 (some FieldType.int) 5 0 0 [.ref (eB E + 19), .int p1, .int p2, .int p3, .int p4] st (some (.int r0)) u0 :=
  CM.intro mok_X6_speak (Nat.le_of_ble_eq_true rfl) (fun x hl hR ht hr hQ _ => wX6_speak ⟨hR, ht, hr, hQ⟩ p1 p2 p3 p4 st hf)
def fX6_stateBehind_b44 (st : St) (l4 : Int32) (s0 : Int32) : Int32 :=
  (l4 * (6 : Int32)) + s0
set_option maxHeartbeats 1000000 in
set_option maxRecDepth 20000 in
theorem wX6_stateBehind_b44 {E : Ev} {x : Cx} {r0 : Int32} {st : St} (B : Bd E x (some FieldType.int) (0) 0 0 (some (.int r0)) st) (l4 : Int32) (s0 : Int32)  (hf : fX6_stateBehind_b44 st l4 s0 = r0) : G E WT x RX6 cX6_stateBehind 6 (0, 0) st 44 [(4, .int l4)] [.int s0] := by
  unfold fX6_stateBehind_b44 at hf
  refine g_istore [(5, .int s0), (4, .int l4)] (by decide) rfl dX6_stateBehind_44 ?_
  refine g_iload 1 rfl dX6_stateBehind_46 ?_
  refine g_bipush (6 : Int32) (by decide) dX6_stateBehind_48 ?_
  refine g_imul dX6_stateBehind_50 ?_
  refine g_iload 0 rfl dX6_stateBehind_51 ?_
  refine g_iadd dX6_stateBehind_53 ?_
  exact g_iret B.2.2.2 B.2.2.1 (congrArg (fun z => some (Value.int z)) hf.symm) rfl dX6_stateBehind_54
def fX6_stateBehind_b22 (st : St) (l3 : Int32) (s0 : Int32) : Int32 :=
  if (sI st 1 4) ≤ (l3 + (1 : Int32)) then (fX6_stateBehind_b44 st s0 (0 : Int32)) else (fX6_stateBehind_b44 st s0 (l3 + (1 : Int32)))
set_option maxHeartbeats 1000000 in
set_option maxRecDepth 20000 in
theorem wX6_stateBehind_b22 {E : Ev} {x : Cx} {r0 : Int32} {st : St} (B : Bd E x (some FieldType.int) (0) 0 0 (some (.int r0)) st) (l3 : Int32) (s0 : Int32)  (hf : fX6_stateBehind_b22 st l3 s0 = r0) : G E WT x RX6 cX6_stateBehind 6 (0, 0) st 22 [(0, .ref (eB E + 19)), (3, .int l3)] [.int s0] := by
  unfold fX6_stateBehind_b22 at hf
  refine g_istore [(4, .int s0), (0, .ref (eB E + 19)), (3, .int l3)] (by decide) rfl dX6_stateBehind_22 ?_
  refine g_iload_n rfl 2 rfl dX6_stateBehind_24 ?_
  refine g_iconst (1 : Int32) (by decide) dX6_stateBehind_25 ?_
  refine g_iadd dX6_stateBehind_26 ?_
  refine g_aload_n rfl 1 rfl dX6_stateBehind_27 ?_
  refine g_get (j := 0) cok6 (by decide) (.ref (eB E + 1)) (Or.inl tw1_193) oS19 vS19_0 dX6_stateBehind_28 ?_
  refine g_get (j := 4) cok4 (by decide) (.int (sI st 1 4)) (Or.inr nf_12) oS1 (fun _ => rfl) dX6_stateBehind_31 ?_
  refine g_icmp_ge 43 (by decide) dX6_stateBehind_34 (fun h1 => ?_) (fun h1 => ?_)
  · rw [if_pos h1] at hf
    refine g_iconst (0 : Int32) (by decide) dX6_stateBehind_43 ?_
    refine g_lvs [0] rfl ?_
    exact wX6_stateBehind_b44 B  s0 (0 : Int32) hf
  · rw [if_neg h1] at hf
    refine g_iload_n rfl 2 rfl dX6_stateBehind_37 ?_
    refine g_iconst (1 : Int32) (by decide) dX6_stateBehind_38 ?_
    refine g_iadd dX6_stateBehind_39 ?_
    refine g_goto 44 (by decide) dX6_stateBehind_40 ?_
    refine g_lvs [0] rfl ?_
    exact wX6_stateBehind_b44 B  s0 (l3 + (1 : Int32)) hf
def fX6_stateBehind (st : St) (p1 : Int32) (p2 : Int32) : Int32 :=
  if (100 : Int32) ≤ p2 then (fX6_stateBehind_b22 st (jrem p2 (100 : Int32)) p1) else (fX6_stateBehind_b22 st (jrem p2 (100 : Int32)) (p1 &&& ((jshl (1 : Int32) (jrem p2 (100 : Int32))) ^^^ (-1 : Int32))))
set_option maxHeartbeats 1000000 in
set_option maxRecDepth 20000 in
theorem wX6_stateBehind {E : Ev} {x : Cx} {r0 : Int32} {st : St} (B : Bd E x (some FieldType.int) (0) 0 0 (some (.int r0)) st) (p1 : Int32) (p2 : Int32)  (hf : fX6_stateBehind st p1 p2 = r0) : G E WT x RX6 cX6_stateBehind 6 (0, 0) st 0 [(0, .ref (eB E + 19)), (1, .int p1), (2, .int p2)] [] := by
  unfold fX6_stateBehind at hf
  refine g_iload_n rfl 2 rfl dX6_stateBehind_0 ?_
  refine g_bipush (100 : Int32) (by decide) dX6_stateBehind_1 ?_
  refine g_irem (by decide) dX6_stateBehind_3 ?_
  refine g_istore_n rfl [(3, .int (jrem p2 (100 : Int32))), (0, .ref (eB E + 19)), (1, .int p1), (2, .int p2)] (by decide) rfl dX6_stateBehind_4 ?_
  refine g_iload_n rfl 3 rfl dX6_stateBehind_5 ?_
  refine g_bipush (100 : Int32) (by decide) dX6_stateBehind_6 ?_
  refine g_icmp_ge 21 (by decide) dX6_stateBehind_8 (fun h1 => ?_) (fun h1 => ?_)
  · rw [if_pos h1] at hf
    refine g_iload_n rfl 2 rfl dX6_stateBehind_21 ?_
    refine g_lvs [1, 0] rfl ?_
    exact wX6_stateBehind_b22 B  (jrem p2 (100 : Int32)) p1 hf
  · rw [if_neg h1] at hf
    refine g_iload_n rfl 2 rfl dX6_stateBehind_11 ?_
    refine g_iconst (1 : Int32) (by decide) dX6_stateBehind_12 ?_
    refine g_iload_n rfl 0 rfl dX6_stateBehind_13 ?_
    refine g_ishl dX6_stateBehind_14 ?_
    refine g_iconst (-1 : Int32) (by decide) dX6_stateBehind_15 ?_
    refine g_ixor dX6_stateBehind_16 ?_
    refine g_iand dX6_stateBehind_17 ?_
    refine g_goto 22 (by decide) dX6_stateBehind_18 ?_
    refine g_lvs [1, 0] rfl ?_
    exact wX6_stateBehind_b22 B  (jrem p2 (100 : Int32)) (p1 &&& ((jshl (1 : Int32) (jrem p2 (100 : Int32))) ^^^ (-1 : Int32))) hf
theorem kX6_stateBehind {l : Launch} {E : Ev} {st : St} {p1 : Int32} {p2 : Int32} {r0 : Int32}  (hf : fX6_stateBehind st p1 p2 = r0) : CM l E WT yX6_stateBehind cX6_stateBehind 6 (some FieldType.int) 0 0 0 [.ref (eB E + 19), .int p1, .int p2] st (some (.int r0)) st :=
  CM.intro mok_X6_stateBehind (Nat.le_of_ble_eq_true rfl) (fun x hl hR ht hr hQ _ => wX6_stateBehind ⟨hR, ht, hr, hQ⟩ p1 p2 hf)
def fX0_stateBehindDraws_b35 (l1 : Int32) (l2 : Int32) (s0 : Int32) (st : St) : Option (Int32 × St) :=
  (fX6_speak (l1 / (6 : Int32)) (jrem l1 (6 : Int32)) l2 s0 st).bind (fun q1 => some (fX6_stateBehind q1.2 (l1 / (6 : Int32)) q1.1, q1.2))
set_option maxHeartbeats 1000000 in
set_option maxRecDepth 20000 in
theorem wX0_stateBehindDraws_b35 {E : Ev} {x : Cx} {r0 : Int32} {u0 : St} (B : Bd E x (some FieldType.int) (6) 0 0 (some (.int r0)) u0) (l1 : Int32) (l2 : Int32) (s0 : Int32) (st : St)  (hf : fX0_stateBehindDraws_b35 l1 l2 s0 st = some (r0, u0)) : G E WT x RX0 cX0_stateBehindDraws 5 (0, 0) st 35 [(0, .ref (eB E + 33)), (1, .int l1), (2, .int l2)] [.int s0] := by
  unfold fX0_stateBehindDraws_b35 at hf
  refine g_istore_n rfl [(3, .int s0), (0, .ref (eB E + 33)), (1, .int l1), (2, .int l2)] (by decide) rfl dX0_stateBehindDraws_35 ?_
  refine g_aload_n rfl 1 rfl dX0_stateBehindDraws_36 ?_
  refine g_get (j := 1) cok0 (by decide) (.ref (eB E + 19)) (Or.inl tw2_43) oS33 vS33_1 dX0_stateBehindDraws_37 ?_
  refine g_iload_n rfl 2 rfl dX0_stateBehindDraws_40 ?_
  refine g_bipush (6 : Int32) (by decide) dX0_stateBehindDraws_41 ?_
  refine g_idiv (by decide) dX0_stateBehindDraws_43 ?_
  refine g_iload_n rfl 2 rfl dX0_stateBehindDraws_44 ?_
  refine g_bipush (6 : Int32) (by decide) dX0_stateBehindDraws_45 ?_
  refine g_irem (by decide) dX0_stateBehindDraws_47 ?_
  refine g_iload_n rfl 3 rfl dX0_stateBehindDraws_48 ?_
  refine g_iload_n rfl 0 rfl dX0_stateBehindDraws_49 ?_
  obtain ⟨q1, h2, hf⟩ := bnd_some hf
  refine g_callVN0i (As := [.int (l1 / (6 : Int32)), .int (jrem l1 (6 : Int32)), .int l2, .int s0]) (rest := []) cok6 mok_X6_speak nmm_56 tw3_163 ts3_6 oS19 B.1 (by decide) (kX6_speak  h2) rfl rfl (Nat.le_of_ble_eq_true rfl) ⟨Nat.le_refl _, Nat.le_refl _⟩ dX0_stateBehindDraws_50 ?_
  refine g_istore [(4, .int q1.1), (3, .int s0), (0, .ref (eB E + 33)), (1, .int l1), (2, .int l2)] (by decide) rfl dX0_stateBehindDraws_53 ?_
  refine g_aload_n rfl 2 rfl dX0_stateBehindDraws_55 ?_
  refine g_get (j := 1) cok0 (by decide) (.ref (eB E + 19)) (Or.inl tw2_43) oS33 vS33_1 dX0_stateBehindDraws_56 ?_
  refine g_iload_n rfl 3 rfl dX0_stateBehindDraws_59 ?_
  refine g_bipush (6 : Int32) (by decide) dX0_stateBehindDraws_60 ?_
  refine g_idiv (by decide) dX0_stateBehindDraws_62 ?_
  refine g_iload 0 rfl dX0_stateBehindDraws_63 ?_
  refine g_callVN0i (As := [.int (l1 / (6 : Int32)), .int q1.1]) (rest := []) cok6 mok_X6_stateBehind nmm_57 tw3_182 ts3_10 oS19 B.1 (by decide) (kX6_stateBehind  rfl) rfl rfl (Nat.le_of_ble_eq_true rfl) ⟨Nat.le_refl _, Nat.le_refl _⟩ dX0_stateBehindDraws_65 ?_
  exact g_iret B.2.2.2 B.2.2.1 (congrArg (fun z => some (Value.int z)) (Prod.mk.inj (Option.some.inj hf)).1.symm) (Prod.mk.inj (Option.some.inj hf)).2.symm dX0_stateBehindDraws_68
def fX0_stateBehindDraws (p1 : Int32) (st : St) : Option (Int32 × St) :=
  (fX0_draw (sI st 1 6) st).bind (fun q1 => (fX0_draw (10 : Int32) q1.2).bind (fun q3 => if (sI q3.2 5 2) ≤ q3.1 then (fX0_stateBehindDraws_b35 p1 q1.1 (0 : Int32) q3.2) else (fX0_stateBehindDraws_b35 p1 q1.1 (1 : Int32) q3.2)))
set_option maxHeartbeats 1000000 in
set_option maxRecDepth 20000 in
theorem wX0_stateBehindDraws {E : Ev} {x : Cx} {r0 : Int32} {u0 : St} (B : Bd E x (some FieldType.int) (6) 0 0 (some (.int r0)) u0) (p1 : Int32) (st : St)  (hf : fX0_stateBehindDraws p1 st = some (r0, u0)) : G E WT x RX0 cX0_stateBehindDraws 5 (0, 0) st 0 [(0, .ref (eB E + 33)), (1, .int p1)] [] := by
  unfold fX0_stateBehindDraws at hf
  refine g_aload_n rfl 0 rfl dX0_stateBehindDraws_0 ?_
  refine g_aload_n rfl 0 rfl dX0_stateBehindDraws_1 ?_
  refine g_get (j := 0) cok0 (by decide) (.ref (eB E + 1)) (Or.inl tw2_42) oS33 vS33_0 dX0_stateBehindDraws_2 ?_
  refine g_get (j := 6) cok4 (by decide) (.int (sI st 1 6)) (Or.inr nf_16) oS1 (fun _ => rfl) dX0_stateBehindDraws_5 ?_
  obtain ⟨q1, h2, hf⟩ := bnd_some hf
  refine g_callV0i (As := [.int (sI st 1 6)]) (rest := []) cok0 mok_X0_draw tw4_134 tw4_136 ts5_1 oS33 B.1 (by decide) (kX0_draw  h2) rfl rfl (Nat.le_of_ble_eq_true rfl) ⟨Nat.le_refl _, Nat.le_refl _⟩ dX0_stateBehindDraws_8 ?_
  refine g_istore_n rfl [(2, .int q1.1), (0, .ref (eB E + 33)), (1, .int p1)] (by decide) rfl dX0_stateBehindDraws_11 ?_
  refine g_aload_n rfl 1 rfl dX0_stateBehindDraws_12 ?_
  refine g_bipush (10 : Int32) (by decide) dX0_stateBehindDraws_13 ?_
  obtain ⟨q3, h4, hf⟩ := bnd_some hf
  refine g_callV0i (As := [.int (10 : Int32)]) (rest := []) cok0 mok_X0_draw tw4_134 tw4_136 ts5_1 oS33 B.1 (by decide) (kX0_draw  h4) rfl rfl (Nat.le_of_ble_eq_true rfl) ⟨Nat.le_refl _, Nat.le_refl _⟩ dX0_stateBehindDraws_15 ?_
  refine g_aload_n rfl 1 rfl dX0_stateBehindDraws_18 ?_
  refine g_get (j := 0) cok0 (by decide) (.ref (eB E + 1)) (Or.inl tw2_42) oS33 vS33_0 dX0_stateBehindDraws_19 ?_
  refine g_get (j := 3) cok4 (by decide) (.ref (eB E + 5)) (Or.inr nf_5) oS1 vS1_3 dX0_stateBehindDraws_22 ?_
  refine g_iconst (2 : Int32) (by decide) dX0_stateBehindDraws_25 ?_
  refine g_ialdj 2 rfl aS5 (ixb_in rfl) dX0_stateBehindDraws_26 ?_
  refine g_icmp_ge 34 (by decide) dX0_stateBehindDraws_27 (fun h5 => ?_) (fun h5 => ?_)
  · rw [if_pos h5] at hf
    refine g_iconst (0 : Int32) (by decide) dX0_stateBehindDraws_34 ?_
    refine g_lvs [1, 2, 0] rfl ?_
    exact wX0_stateBehindDraws_b35 B  p1 q1.1 (0 : Int32) q3.2 hf
  · rw [if_neg h5] at hf
    refine g_iconst (1 : Int32) (by decide) dX0_stateBehindDraws_30 ?_
    refine g_goto 35 (by decide) dX0_stateBehindDraws_31 ?_
    refine g_lvs [1, 2, 0] rfl ?_
    exact wX0_stateBehindDraws_b35 B  p1 q1.1 (1 : Int32) q3.2 hf
theorem kX0_stateBehindDraws {l : Launch} {E : Ev} {st : St} {p1 : Int32} {r0 : Int32} {u0 : St}  (hf : fX0_stateBehindDraws p1 st = some (r0, u0)) : CM l E WT yX0_stateBehindDraws cX0_stateBehindDraws 5 (some FieldType.int) 6 0 0 [.ref (eB E + 33), .int p1] st (some (.int r0)) u0 :=
  CM.intro mok_X0_stateBehindDraws (Nat.le_of_ble_eq_true rfl) (fun x hl hR ht hr hQ _ => wX0_stateBehindDraws ⟨hR, ht, hr, hQ⟩ p1 st hf)
def fJ6_numberOfTrailingZeros_0f7a4_b74 (l0 : Int32) (l1 : Int32) : Int32 :=
  l1 + (jushr l0 (1 : Int32))
set_option maxHeartbeats 1000000 in
set_option maxRecDepth 20000 in
theorem wJ6_numberOfTrailingZeros_0f7a4_b74 {E : Ev} {x : Cx} {r0 : Int32} {st : St} (B : Bd E x (some FieldType.int) (0) 0 0 (some (.int r0)) st) (l0 : Int32) (l1 : Int32)  (hf : fJ6_numberOfTrailingZeros_0f7a4_b74 l0 l1 = r0) : G E WT x RJ6 cJ6_numberOfTrailingZeros_0f7a4 2 (0, 0) st 74 [(0, .int l0), (1, .int l1)] [] := by
  unfold fJ6_numberOfTrailingZeros_0f7a4_b74 at hf
  refine g_iload_n rfl 1 rfl dJ6_numberOfTrailingZeros_0f7a4_74 ?_
  refine g_iload_n rfl 0 rfl dJ6_numberOfTrailingZeros_0f7a4_75 ?_
  refine g_iconst (1 : Int32) (by decide) dJ6_numberOfTrailingZeros_0f7a4_76 ?_
  refine g_iushr dJ6_numberOfTrailingZeros_0f7a4_77 ?_
  refine g_iadd dJ6_numberOfTrailingZeros_0f7a4_78 ?_
  exact g_iret B.2.2.2 B.2.2.1 (congrArg (fun z => some (Value.int z)) hf.symm) rfl dJ6_numberOfTrailingZeros_0f7a4_79
def fJ6_numberOfTrailingZeros_0f7a4_b62 (l0 : Int32) (l1 : Int32) : Int32 :=
  if l0 ≤ (4 : Int32) then (fJ6_numberOfTrailingZeros_0f7a4_b74 l0 l1) else (fJ6_numberOfTrailingZeros_0f7a4_b74 (jushr l0 (2 : Int32)) (l1 + (2 : Int32)))
set_option maxHeartbeats 1000000 in
set_option maxRecDepth 20000 in
theorem wJ6_numberOfTrailingZeros_0f7a4_b62 {E : Ev} {x : Cx} {r0 : Int32} {st : St} (B : Bd E x (some FieldType.int) (0) 0 0 (some (.int r0)) st) (l0 : Int32) (l1 : Int32)  (hf : fJ6_numberOfTrailingZeros_0f7a4_b62 l0 l1 = r0) : G E WT x RJ6 cJ6_numberOfTrailingZeros_0f7a4 2 (0, 0) st 62 [(0, .int l0), (1, .int l1)] [] := by
  unfold fJ6_numberOfTrailingZeros_0f7a4_b62 at hf
  refine g_iload_n rfl 0 rfl dJ6_numberOfTrailingZeros_0f7a4_62 ?_
  refine g_iconst (4 : Int32) (by decide) dJ6_numberOfTrailingZeros_0f7a4_63 ?_
  refine g_icmp_le 74 (by decide) dJ6_numberOfTrailingZeros_0f7a4_64 (fun h1 => ?_) (fun h1 => ?_)
  · rw [if_pos h1] at hf
    refine g_lvs [0, 1] rfl ?_
    exact wJ6_numberOfTrailingZeros_0f7a4_b74 B  l0 l1 hf
  · rw [if_neg h1] at hf
    refine g_iinc (l1 + (2 : Int32)) [(1, .int (l1 + (2 : Int32))), (0, .int l0)] 1 rfl (congrArg (fun z => l1 + z) (show Int32.ofInt (2) = (2 : Int32) by decide)) (by decide) rfl dJ6_numberOfTrailingZeros_0f7a4_67 ?_
    refine g_iload_n rfl 1 rfl dJ6_numberOfTrailingZeros_0f7a4_70 ?_
    refine g_iconst (2 : Int32) (by decide) dJ6_numberOfTrailingZeros_0f7a4_71 ?_
    refine g_iushr dJ6_numberOfTrailingZeros_0f7a4_72 ?_
    refine g_istore_n rfl [(0, .int (jushr l0 (2 : Int32))), (1, .int (l1 + (2 : Int32)))] (by decide) rfl dJ6_numberOfTrailingZeros_0f7a4_73 ?_
    refine g_lvs [0, 1] rfl ?_
    exact wJ6_numberOfTrailingZeros_0f7a4_b74 B  (jushr l0 (2 : Int32)) (l1 + (2 : Int32)) hf
def fJ6_numberOfTrailingZeros_0f7a4_b49 (l0 : Int32) (l1 : Int32) : Int32 :=
  if l0 ≤ (16 : Int32) then (fJ6_numberOfTrailingZeros_0f7a4_b62 l0 l1) else (fJ6_numberOfTrailingZeros_0f7a4_b62 (jushr l0 (4 : Int32)) (l1 + (4 : Int32)))
set_option maxHeartbeats 1000000 in
set_option maxRecDepth 20000 in
theorem wJ6_numberOfTrailingZeros_0f7a4_b49 {E : Ev} {x : Cx} {r0 : Int32} {st : St} (B : Bd E x (some FieldType.int) (0) 0 0 (some (.int r0)) st) (l0 : Int32) (l1 : Int32)  (hf : fJ6_numberOfTrailingZeros_0f7a4_b49 l0 l1 = r0) : G E WT x RJ6 cJ6_numberOfTrailingZeros_0f7a4 2 (0, 0) st 49 [(0, .int l0), (1, .int l1)] [] := by
  unfold fJ6_numberOfTrailingZeros_0f7a4_b49 at hf
  refine g_iload_n rfl 0 rfl dJ6_numberOfTrailingZeros_0f7a4_49 ?_
  refine g_bipush (16 : Int32) (by decide) dJ6_numberOfTrailingZeros_0f7a4_50 ?_
  refine g_icmp_le 62 (by decide) dJ6_numberOfTrailingZeros_0f7a4_52 (fun h1 => ?_) (fun h1 => ?_)
  · rw [if_pos h1] at hf
    refine g_lvs [0, 1] rfl ?_
    exact wJ6_numberOfTrailingZeros_0f7a4_b62 B  l0 l1 hf
  · rw [if_neg h1] at hf
    refine g_iinc (l1 + (4 : Int32)) [(1, .int (l1 + (4 : Int32))), (0, .int l0)] 1 rfl (congrArg (fun z => l1 + z) (show Int32.ofInt (4) = (4 : Int32) by decide)) (by decide) rfl dJ6_numberOfTrailingZeros_0f7a4_55 ?_
    refine g_iload_n rfl 1 rfl dJ6_numberOfTrailingZeros_0f7a4_58 ?_
    refine g_iconst (4 : Int32) (by decide) dJ6_numberOfTrailingZeros_0f7a4_59 ?_
    refine g_iushr dJ6_numberOfTrailingZeros_0f7a4_60 ?_
    refine g_istore_n rfl [(0, .int (jushr l0 (4 : Int32))), (1, .int (l1 + (4 : Int32)))] (by decide) rfl dJ6_numberOfTrailingZeros_0f7a4_61 ?_
    refine g_lvs [0, 1] rfl ?_
    exact wJ6_numberOfTrailingZeros_0f7a4_b62 B  (jushr l0 (4 : Int32)) (l1 + (4 : Int32)) hf
def fJ6_numberOfTrailingZeros_0f7a4_b34 (l0 : Int32) (l1 : Int32) : Int32 :=
  if l0 ≤ (256 : Int32) then (fJ6_numberOfTrailingZeros_0f7a4_b49 l0 l1) else (fJ6_numberOfTrailingZeros_0f7a4_b49 (jushr l0 (8 : Int32)) (l1 + (8 : Int32)))
set_option maxHeartbeats 1000000 in
set_option maxRecDepth 20000 in
theorem wJ6_numberOfTrailingZeros_0f7a4_b34 {E : Ev} {x : Cx} {r0 : Int32} {st : St} (B : Bd E x (some FieldType.int) (0) 0 0 (some (.int r0)) st) (l0 : Int32) (l1 : Int32)  (hf : fJ6_numberOfTrailingZeros_0f7a4_b34 l0 l1 = r0) : G E WT x RJ6 cJ6_numberOfTrailingZeros_0f7a4 2 (0, 0) st 34 [(0, .int l0), (1, .int l1)] [] := by
  unfold fJ6_numberOfTrailingZeros_0f7a4_b34 at hf
  refine g_iload_n rfl 0 rfl dJ6_numberOfTrailingZeros_0f7a4_34 ?_
  refine g_sipush (256 : Int32) (by decide) dJ6_numberOfTrailingZeros_0f7a4_35 ?_
  refine g_icmp_le 49 (by decide) dJ6_numberOfTrailingZeros_0f7a4_38 (fun h1 => ?_) (fun h1 => ?_)
  · rw [if_pos h1] at hf
    refine g_lvs [0, 1] rfl ?_
    exact wJ6_numberOfTrailingZeros_0f7a4_b49 B  l0 l1 hf
  · rw [if_neg h1] at hf
    refine g_iinc (l1 + (8 : Int32)) [(1, .int (l1 + (8 : Int32))), (0, .int l0)] 1 rfl (congrArg (fun z => l1 + z) (show Int32.ofInt (8) = (8 : Int32) by decide)) (by decide) rfl dJ6_numberOfTrailingZeros_0f7a4_41 ?_
    refine g_iload_n rfl 1 rfl dJ6_numberOfTrailingZeros_0f7a4_44 ?_
    refine g_bipush (8 : Int32) (by decide) dJ6_numberOfTrailingZeros_0f7a4_45 ?_
    refine g_iushr dJ6_numberOfTrailingZeros_0f7a4_47 ?_
    refine g_istore_n rfl [(0, .int (jushr l0 (8 : Int32))), (1, .int (l1 + (8 : Int32)))] (by decide) rfl dJ6_numberOfTrailingZeros_0f7a4_48 ?_
    refine g_lvs [0, 1] rfl ?_
    exact wJ6_numberOfTrailingZeros_0f7a4_b49 B  (jushr l0 (8 : Int32)) (l1 + (8 : Int32)) hf
def fJ6_numberOfTrailingZeros_0f7a4 (p0 : Int32) : Int32 :=
  if 0 < ((p0 ^^^ (-1 : Int32)) &&& (p0 - (1 : Int32))) then (if ((p0 ^^^ (-1 : Int32)) &&& (p0 - (1 : Int32))) ≤ (65536 : Int32) then (fJ6_numberOfTrailingZeros_0f7a4_b34 ((p0 ^^^ (-1 : Int32)) &&& (p0 - (1 : Int32))) (1 : Int32)) else (fJ6_numberOfTrailingZeros_0f7a4_b34 (jushr ((p0 ^^^ (-1 : Int32)) &&& (p0 - (1 : Int32))) (16 : Int32)) ((1 : Int32) + (16 : Int32)))) else (((p0 ^^^ (-1 : Int32)) &&& (p0 - (1 : Int32))) &&& (32 : Int32))
set_option maxHeartbeats 1000000 in
set_option maxRecDepth 20000 in
theorem wJ6_numberOfTrailingZeros_0f7a4 {E : Ev} {x : Cx} {r0 : Int32} {st : St} (B : Bd E x (some FieldType.int) (0) 0 0 (some (.int r0)) st) (p0 : Int32)  (hf : fJ6_numberOfTrailingZeros_0f7a4 p0 = r0) : G E WT x RJ6 cJ6_numberOfTrailingZeros_0f7a4 2 (0, 0) st 0 [(0, .int p0)] [] := by
  unfold fJ6_numberOfTrailingZeros_0f7a4 at hf
  refine g_iload_n rfl 0 rfl dJ6_numberOfTrailingZeros_0f7a4_0 ?_
  refine g_iconst (-1 : Int32) (by decide) dJ6_numberOfTrailingZeros_0f7a4_1 ?_
  refine g_ixor dJ6_numberOfTrailingZeros_0f7a4_2 ?_
  refine g_iload_n rfl 0 rfl dJ6_numberOfTrailingZeros_0f7a4_3 ?_
  refine g_iconst (1 : Int32) (by decide) dJ6_numberOfTrailingZeros_0f7a4_4 ?_
  refine g_isub dJ6_numberOfTrailingZeros_0f7a4_5 ?_
  refine g_iand dJ6_numberOfTrailingZeros_0f7a4_6 ?_
  refine g_istore_n rfl [(0, .int ((p0 ^^^ (-1 : Int32)) &&& (p0 - (1 : Int32))))] (by decide) rfl dJ6_numberOfTrailingZeros_0f7a4_7 ?_
  refine g_iload_n rfl 0 rfl dJ6_numberOfTrailingZeros_0f7a4_8 ?_
  refine g_if_gt 17 (by decide) dJ6_numberOfTrailingZeros_0f7a4_9 (fun h1 => ?_) (fun h1 => ?_)
  · rw [if_pos h1] at hf
    refine g_iconst (1 : Int32) (by decide) dJ6_numberOfTrailingZeros_0f7a4_17 ?_
    refine g_istore_n rfl [(1, .int (1 : Int32)), (0, .int ((p0 ^^^ (-1 : Int32)) &&& (p0 - (1 : Int32))))] (by decide) rfl dJ6_numberOfTrailingZeros_0f7a4_18 ?_
    refine g_iload_n rfl 1 rfl dJ6_numberOfTrailingZeros_0f7a4_19 ?_
    refine g_ldcw tw4_36 dJ6_numberOfTrailingZeros_0f7a4_20 ?_
    refine g_icmp_le 34 (by decide) dJ6_numberOfTrailingZeros_0f7a4_23 (fun h2 => ?_) (fun h2 => ?_)
    · rw [if_pos h2] at hf
      refine g_lvs [1, 0] rfl ?_
      exact wJ6_numberOfTrailingZeros_0f7a4_b34 B  ((p0 ^^^ (-1 : Int32)) &&& (p0 - (1 : Int32))) (1 : Int32) hf
    · rw [if_neg h2] at hf
      refine g_iinc ((1 : Int32) + (16 : Int32)) [(1, .int ((1 : Int32) + (16 : Int32))), (0, .int ((p0 ^^^ (-1 : Int32)) &&& (p0 - (1 : Int32))))] 0 rfl (congrArg (fun z => (1 : Int32) + z) (show Int32.ofInt (16) = (16 : Int32) by decide)) (by decide) rfl dJ6_numberOfTrailingZeros_0f7a4_26 ?_
      refine g_iload_n rfl 1 rfl dJ6_numberOfTrailingZeros_0f7a4_29 ?_
      refine g_bipush (16 : Int32) (by decide) dJ6_numberOfTrailingZeros_0f7a4_30 ?_
      refine g_iushr dJ6_numberOfTrailingZeros_0f7a4_32 ?_
      refine g_istore_n rfl [(0, .int (jushr ((p0 ^^^ (-1 : Int32)) &&& (p0 - (1 : Int32))) (16 : Int32))), (1, .int ((1 : Int32) + (16 : Int32)))] (by decide) rfl dJ6_numberOfTrailingZeros_0f7a4_33 ?_
      refine g_lvs [0, 1] rfl ?_
      exact wJ6_numberOfTrailingZeros_0f7a4_b34 B  (jushr ((p0 ^^^ (-1 : Int32)) &&& (p0 - (1 : Int32))) (16 : Int32)) ((1 : Int32) + (16 : Int32)) hf
  · rw [if_neg h1] at hf
    refine g_iload_n rfl 0 rfl dJ6_numberOfTrailingZeros_0f7a4_12 ?_
    refine g_bipush (32 : Int32) (by decide) dJ6_numberOfTrailingZeros_0f7a4_13 ?_
    refine g_iand dJ6_numberOfTrailingZeros_0f7a4_15 ?_
    exact g_iret B.2.2.2 B.2.2.1 (congrArg (fun z => some (Value.int z)) hf.symm) rfl dJ6_numberOfTrailingZeros_0f7a4_16
theorem kJ6_numberOfTrailingZeros_0f7a4 {l : Launch} {E : Ev} {st : St} {p0 : Int32} {r0 : Int32}  (hf : fJ6_numberOfTrailingZeros_0f7a4 p0 = r0) : CM l E WT yJ6_numberOfTrailingZeros_0f7a4 cJ6_numberOfTrailingZeros_0f7a4 2 (some FieldType.int) 0 0 0 [.int p0] st (some (.int r0)) st :=
  CM.intro mok_J6_numberOfTrailingZeros_0f7a4 (Nat.le_of_ble_eq_true rfl) (fun x hl hR ht hr hQ _ => wJ6_numberOfTrailingZeros_0f7a4 ⟨hR, ht, hr, hQ⟩ p0 hf)
def fX1_onlyOneIn (p0 : Int32) : Int32 :=
  if (fJ6_bitCount_0f7a4 (p0 / (6 : Int32))) = (1 : Int32) then (fJ6_numberOfTrailingZeros_0f7a4 (p0 / (6 : Int32))) else ((-1 : Int32))
set_option maxHeartbeats 1000000 in
set_option maxRecDepth 20000 in
theorem wX1_onlyOneIn {E : Ev} {x : Cx} {r0 : Int32} {st : St} (B : Bd E x (some FieldType.int) (1) 0 0 (some (.int r0)) st) (p0 : Int32)  (hf : fX1_onlyOneIn p0 = r0) : G E WT x RX1 cX1_onlyOneIn 2 (0, 0) st 0 [(0, .int p0)] [] := by
  unfold fX1_onlyOneIn at hf
  refine g_iload_n rfl 0 rfl dX1_onlyOneIn_0 ?_
  refine g_bipush (6 : Int32) (by decide) dX1_onlyOneIn_1 ?_
  refine g_idiv (by decide) dX1_onlyOneIn_3 ?_
  refine g_istore_n rfl [(1, .int (p0 / (6 : Int32))), (0, .int p0)] (by decide) rfl dX1_onlyOneIn_4 ?_
  refine g_iload_n rfl 0 rfl dX1_onlyOneIn_5 ?_
  refine g_callS0i (As := [.int (p0 / (6 : Int32))]) (rest := []) mok_J6_bitCount_0f7a4 tw4_26 tw2_167 B.1 (by decide) (kJ6_bitCount_0f7a4  rfl) rfl rfl (Nat.le_of_ble_eq_true rfl) ⟨Nat.le_refl _, Nat.le_refl _⟩ dX1_onlyOneIn_6 ?_
  refine g_iconst (1 : Int32) (by decide) dX1_onlyOneIn_9 ?_
  refine g_icmp_ne 20 (by decide) dX1_onlyOneIn_10 (fun h1 => ?_) (fun h1 => ?_)
  · rw [if_neg h1] at hf
    refine g_iconst (-1 : Int32) (by decide) dX1_onlyOneIn_20 ?_
    exact g_iret B.2.2.2 B.2.2.1 (congrArg (fun z => some (Value.int z)) hf.symm) rfl dX1_onlyOneIn_21
  · rw [if_pos h1] at hf
    refine g_iload_n rfl 0 rfl dX1_onlyOneIn_13 ?_
    refine g_callS0i (As := [.int (p0 / (6 : Int32))]) (rest := []) mok_J6_numberOfTrailingZeros_0f7a4 tw4_33 tw4_34 B.1 (by decide) (kJ6_numberOfTrailingZeros_0f7a4  rfl) rfl rfl (Nat.le_of_ble_eq_true rfl) ⟨Nat.le_refl _, Nat.le_refl _⟩ dX1_onlyOneIn_14 ?_
    refine g_goto 21 (by decide) dX1_onlyOneIn_17 ?_
    exact g_iret B.2.2.2 B.2.2.1 (congrArg (fun z => some (Value.int z)) hf.symm) rfl dX1_onlyOneIn_21
theorem kX1_onlyOneIn {l : Launch} {E : Ev} {st : St} {p0 : Int32} {r0 : Int32}  (hf : fX1_onlyOneIn p0 = r0) : CM l E WT yX1_onlyOneIn cX1_onlyOneIn 2 (some FieldType.int) 1 0 0 [.int p0] st (some (.int r0)) st :=
  CM.intro mok_X1_onlyOneIn (Nat.le_of_ble_eq_true rfl) (fun x hl hR ht hr hQ _ => wX1_onlyOneIn ⟨hR, ht, hr, hQ⟩ p0 hf)
def fX0_run_b165 (l4 : Int32) (l5 : Int32) (st : St) : Option (Int32 × St) :=
  some (l5, pI st 33 4 (l4 / (6 : Int32)))
set_option maxHeartbeats 1000000 in
set_option maxRecDepth 20000 in
theorem wX0_run_b165 {E : Ev} {x : Cx} {r0 : Int32} {u0 : St} (B : Bd E x (some FieldType.int) (7) 0 0 (some (.int r0)) u0) (l4 : Int32) (l5 : Int32) (st : St)  (hf : fX0_run_b165 l4 l5 st = some (r0, u0)) : G E WT x RX0 cX0_run 8 (0, 0) st 165 [(0, .ref (eB E + 33)), (4, .int l4), (5, .int l5)] [] := by
  unfold fX0_run_b165 at hf
  refine g_aload_n rfl 0 rfl dX0_run_165 ?_
  refine g_iload 1 rfl dX0_run_166 ?_
  refine g_bipush (6 : Int32) (by decide) dX0_run_168 ?_
  refine g_idiv (by decide) dX0_run_170 ?_
  refine g_putI (j := 4) cok0 (by decide) rfl rfl rfl rfl (Or.inl tw2_48) oS33 B.2.1 wpI dX0_run_171 ?_
  refine g_iload 2 rfl dX0_run_174 ?_
  exact g_iret B.2.2.2 B.2.2.1 (congrArg (fun z => some (Value.int z)) (Prod.mk.inj (Option.some.inj hf)).1.symm) (Prod.mk.inj (Option.some.inj hf)).2.symm dX0_run_176
def fX0_run_b159 (k50 : Int32 → Int32 → Int32 → Int32 → Int32 → St → Option (Int32 × St))(l2 : Int32) (l3 : Int32) (l4 : Int32) (l5 : Int32) (l6 : Int32) (st : St) : Option (Int32 × St) :=
  k50 l2 l3 l4 l5 (l6 + (1 : Int32)) st
set_option maxHeartbeats 1000000 in
set_option maxRecDepth 20000 in
theorem wX0_run_b159 {E : Ev} {x : Cx} {r0 : Int32} {u0 : St} (B : Bd E x (some FieldType.int) (7) 0 0 (some (.int r0)) u0) {k50 : Int32 → Int32 → Int32 → Int32 → Int32 → St → Option (Int32 × St)} (hk50 : ∀ (l2 : Int32) (l3 : Int32) (l4 : Int32) (l5 : Int32) (l6 : Int32) (st : St), k50 l2 l3 l4 l5 l6 st = some (r0, u0) → G E WT x RX0 cX0_run 8 (0, 0) st 50 [(0, .ref (eB E + 33)), (2, .int l2), (3, .int l3), (4, .int l4), (5, .int l5), (6, .int l6)] []) (l2 : Int32) (l3 : Int32) (l4 : Int32) (l5 : Int32) (l6 : Int32) (st : St)  (hf : fX0_run_b159 k50 l2 l3 l4 l5 l6 st = some (r0, u0)) : G E WT x RX0 cX0_run 8 (0, 0) st 159 [(0, .ref (eB E + 33)), (2, .int l2), (3, .int l3), (4, .int l4), (5, .int l5), (6, .int l6)] [] := by
  unfold fX0_run_b159 at hf
  refine g_iinc (l6 + (1 : Int32)) [(6, .int (l6 + (1 : Int32))), (0, .ref (eB E + 33)), (2, .int l2), (3, .int l3), (4, .int l4), (5, .int l5)] 5 rfl (congrArg (fun z => l6 + z) (show Int32.ofInt (1) = (1 : Int32) by decide)) (by decide) rfl dX0_run_159 ?_
  refine g_goto 50 (by decide) dX0_run_162 ?_
  refine g_lvs [1, 2, 3, 4, 5, 0] rfl ?_
  exact hk50 l2 l3 l4 l5 (l6 + (1 : Int32)) st hf
def fX0_run_b103 (k50 : Int32 → Int32 → Int32 → Int32 → Int32 → St → Option (Int32 × St))(l2 : Int32) (l3 : Int32) (l4 : Int32) (l5 : Int32) (l6 : Int32) (st : St) : Option (Int32 × St) :=
  (fX4_lawInForce st).bind (fun q1 => (fX6_tune q1 l3 st).bind (fun q4 => (fX0_stateBehindDraws l4 q4).bind (fun q6 => if (fX1_onlyOneIn q6.1) < 0 then (fX0_run_b159 k50 l2 l3 q6.1 l5 l6 q6.2) else (if (6 : Int32) ≤ (fX1_onlyOneIn q6.1) then (fX0_run_b159 k50 l2 l3 q6.1 l5 l6 q6.2) else (chk (ixb (fX1_onlyOneIn q6.1) 6) (chk (ixb (fX1_onlyOneIn q6.1) 6) (fX0_run_b159 k50 l2 l3 q6.1 l5 l6 (pI q6.2 34 ((fX1_onlyOneIn q6.1).toNatClampNeg) ((sI q6.2 34 ((fX1_onlyOneIn q6.1).toNatClampNeg)) + (1 : Int32))))))))))
set_option maxHeartbeats 1000000 in
set_option maxRecDepth 20000 in
theorem wX0_run_b103 {E : Ev} {x : Cx} {r0 : Int32} {u0 : St} (B : Bd E x (some FieldType.int) (7) 0 0 (some (.int r0)) u0) {k50 : Int32 → Int32 → Int32 → Int32 → Int32 → St → Option (Int32 × St)} (hk50 : ∀ (l2 : Int32) (l3 : Int32) (l4 : Int32) (l5 : Int32) (l6 : Int32) (st : St), k50 l2 l3 l4 l5 l6 st = some (r0, u0) → G E WT x RX0 cX0_run 8 (0, 0) st 50 [(0, .ref (eB E + 33)), (2, .int l2), (3, .int l3), (4, .int l4), (5, .int l5), (6, .int l6)] []) (l2 : Int32) (l3 : Int32) (l4 : Int32) (l5 : Int32) (l6 : Int32) (st : St)  (hf : fX0_run_b103 k50 l2 l3 l4 l5 l6 st = some (r0, u0)) : G E WT x RX0 cX0_run 8 (0, 0) st 103 [(0, .ref (eB E + 33)), (2, .int l2), (3, .int l3), (4, .int l4), (5, .int l5), (6, .int l6)] [] := by
  unfold fX0_run_b103 at hf
  refine g_aload_n rfl 0 rfl dX0_run_103 ?_
  refine g_get (j := 1) cok0 (by decide) (.ref (eB E + 19)) (Or.inl tw2_43) oS33 vS33_1 dX0_run_104 ?_
  refine g_aload_n rfl 0 rfl dX0_run_107 ?_
  refine g_get (j := 0) cok0 (by decide) (.ref (eB E + 1)) (Or.inl tw2_42) oS33 vS33_0 dX0_run_108 ?_
  obtain ⟨q1, h2, hf⟩ := bnd_some hf
  refine g_callVN0r (As := []) (rest := [.ref (eB E + 19)]) cok4 mok_X4_lawInForce nmm_54 tw2_178 ts1_9 oS1 B.1 (by decide) (kX4_lawInForce  h2) rfl rfl (Nat.le_of_ble_eq_true rfl) ⟨Nat.le_refl _, Nat.le_refl _⟩ dX0_run_111 ?_
  refine g_iload_n rfl 2 rfl dX0_run_114 ?_
  refine g_wt (fun w3 => ?_)
  obtain ⟨q4, h5, hf⟩ := bnd_some hf
  refine g_callVN0v (As := [va_rf (q1.map (fun z => eB E + z)), .int l3]) (rest := []) cok6 mok_X6_tune nmm_55 tw2_182 ts1_10 oS19 B.1 (by decide) (kX6_tune (lif_ob w3 h2) h5) rfl rfl (Nat.le_of_ble_eq_true rfl) ⟨Nat.le_refl _, Nat.le_refl _⟩ dX0_run_115 ?_
  refine g_aload_n rfl 0 rfl dX0_run_118 ?_
  refine g_iload 3 rfl dX0_run_119 ?_
  obtain ⟨q6, h7, hf⟩ := bnd_some hf
  refine g_callV0i (As := [.int l4]) (rest := []) cok0 mok_X0_stateBehindDraws tw4_130 tw4_132 ts5_0 oS33 B.1 (by decide) (kX0_stateBehindDraws  h7) rfl rfl (Nat.le_of_ble_eq_true rfl) ⟨Nat.le_refl _, Nat.le_refl _⟩ dX0_run_121 ?_
  refine g_istore [(4, .int q6.1), (0, .ref (eB E + 33)), (2, .int l2), (3, .int l3), (5, .int l5), (6, .int l6)] (by decide) rfl dX0_run_124 ?_
  refine g_iload 0 rfl dX0_run_126 ?_
  refine g_callSN0i (As := [.int q6.1]) (rest := []) mok_X1_onlyOneIn nmm_58 tw4_38 B.1 (by decide) (kX1_onlyOneIn  rfl) rfl rfl (Nat.le_of_ble_eq_true rfl) ⟨Nat.le_refl _, Nat.le_refl _⟩ dX0_run_128 ?_
  refine g_istore [(7, .int (fX1_onlyOneIn q6.1)), (4, .int q6.1), (0, .ref (eB E + 33)), (2, .int l2), (3, .int l3), (5, .int l5), (6, .int l6)] (by decide) rfl dX0_run_131 ?_
  refine g_iload 0 rfl dX0_run_133 ?_
  refine g_if_lt 159 (by decide) dX0_run_135 (fun h8 => ?_) (fun h8 => ?_)
  · rw [if_pos h8] at hf
    refine g_lvs [2, 3, 4, 1, 5, 6] rfl ?_
    exact wX0_run_b159 B hk50 l2 l3 q6.1 l5 l6 q6.2 hf
  · rw [if_neg h8] at hf
    refine g_iload 0 rfl dX0_run_138 ?_
    refine g_aload_n rfl 2 rfl dX0_run_140 ?_
    refine g_get (j := 2) cok0 (by decide) (.ref (eB E + 34)) (Or.inl tw2_44) oS33 vS33_2 dX0_run_141 ?_
    refine g_alenL 1 (6 : Int32) (by decide) aS34 (by decide) rfl dX0_run_144 ?_
    refine g_icmp_ge 159 (by decide) dX0_run_145 (fun h9 => ?_) (fun h9 => ?_)
    · rw [if_pos h9] at hf
      refine g_lvs [2, 3, 4, 1, 5, 6] rfl ?_
      exact wX0_run_b159 B hk50 l2 l3 q6.1 l5 l6 q6.2 hf
    · rw [if_neg h9] at hf
      refine g_aload_n rfl 2 rfl dX0_run_148 ?_
      refine g_get (j := 2) cok0 (by decide) (.ref (eB E + 34)) (Or.inl tw2_44) oS33 vS33_2 dX0_run_149 ?_
      refine g_iload 0 rfl dX0_run_152 ?_
      refine g_dup2 rfl rfl dX0_run_154 ?_
      obtain ⟨h10, hf⟩ := chk_some hf
      refine g_ialdj ((fX1_onlyOneIn q6.1).toNatClampNeg) rfl aS34 (ixb_in h10) dX0_run_155 ?_
      refine g_iconst (1 : Int32) (by decide) dX0_run_156 ?_
      refine g_iadd dX0_run_157 ?_
      obtain ⟨h11, hf⟩ := chk_some hf
      refine g_iastj ((fX1_onlyOneIn q6.1).toNatClampNeg) rfl aS34 (ixb_in h11) B.2.1 wpI dX0_run_158 ?_
      refine g_lvs [2, 3, 4, 1, 5, 6] rfl ?_
      exact wX0_run_b159 B hk50 l2 l3 q6.1 l5 l6 (pI q6.2 34 ((fX1_onlyOneIn q6.1).toNatClampNeg) ((sI q6.2 34 ((fX1_onlyOneIn q6.1).toNatClampNeg)) + (1 : Int32))) hf
def fX0_run_b50 : Nat → Int32 → Int32 → Int32 → Int32 → Int32 → St → Option (Int32 × St)
  | 0, _, _, _, _, _, _ => none
  | n + 1, l2, l3, l4, l5, l6, st => if l2 ≤ l6 then (fX0_run_b165 l4 l5 st) else (if (fX1_goesOn l4) = 0 then (if l3 < (999 : Int32) then (if (fX1_goesOn ((fX4_everyone st) * (6 : Int32))) = 0 then (fX0_run_b165 ((fX4_everyone st) * (6 : Int32)) (l5 + (1 : Int32)) st) else (fX0_run_b103 (fun zl2 zl3 zl4 zl5 zl6 zst => fX0_run_b50 n zl2 zl3 zl4 zl5 zl6 zst) l2 (l3 + (1 : Int32)) ((fX4_everyone st) * (6 : Int32)) (l5 + (1 : Int32)) l6 st)) else (fX0_run_b165 l4 l5 st)) else (fX0_run_b103 (fun zl2 zl3 zl4 zl5 zl6 zst => fX0_run_b50 n zl2 zl3 zl4 zl5 zl6 zst) l2 l3 l4 l5 l6 st))
set_option maxHeartbeats 1000000 in
set_option maxRecDepth 20000 in
theorem wX0_run_b50 {E : Ev} {x : Cx} {r0 : Int32} {u0 : St} (B : Bd E x (some FieldType.int) (7) 0 0 (some (.int r0)) u0) : ∀ (n : Nat) (l2 : Int32) (l3 : Int32) (l4 : Int32) (l5 : Int32) (l6 : Int32) (st : St) , fX0_run_b50 n l2 l3 l4 l5 l6 st = some (r0, u0) → G E WT x RX0 cX0_run 8 (0, 0) st 50 [(0, .ref (eB E + 33)), (2, .int l2), (3, .int l3), (4, .int l4), (5, .int l5), (6, .int l6)] [] := by
  intro n
  induction n with
  | zero =>
    intros
    rename_i hf
    rw [fX0_run_b50] at hf
    cases hf
  | succ n ih =>
    intro l2 l3 l4 l5 l6 st hf
    rw [fX0_run_b50] at hf
    refine g_iload 5 rfl dX0_run_50 ?_
    refine g_iload_n rfl 1 rfl dX0_run_52 ?_
    refine g_icmp_ge 165 (by decide) dX0_run_53 (fun h1 => ?_) (fun h1 => ?_)
    · rw [if_pos h1] at hf
      refine g_lvs [0, 3, 4] rfl ?_
      exact wX0_run_b165 B  l4 l5 st hf
    · rw [if_neg h1] at hf
      refine g_iload 3 rfl dX0_run_56 ?_
      refine g_callSN0i (As := [.int l4]) (rest := []) mok_X1_goesOn nmm_52 tw4_24 B.1 (by decide) (kX1_goesOn  rfl) rfl rfl (Nat.le_of_ble_eq_true rfl) ⟨Nat.le_refl _, Nat.le_refl _⟩ dX0_run_58 ?_
      refine g_if_ne 103 (by decide) dX0_run_61 (fun h2 => ?_) (fun h2 => ?_)
      · rw [if_neg h2] at hf
        refine g_lvs [0, 1, 2, 3, 4, 5] rfl ?_
        exact wX0_run_b103 B ih l2 l3 l4 l5 l6 st hf
      · rw [if_pos h2] at hf
        refine g_iload_n rfl 2 rfl dX0_run_64 ?_
        refine g_sipush (999 : Int32) (by decide) dX0_run_65 ?_
        refine g_icmp_lt 74 (by decide) dX0_run_68 (fun h3 => ?_) (fun h3 => ?_)
        · rw [if_pos h3] at hf
          refine g_iinc (l3 + (1 : Int32)) [(3, .int (l3 + (1 : Int32))), (0, .ref (eB E + 33)), (2, .int l2), (4, .int l4), (5, .int l5), (6, .int l6)] 2 rfl (congrArg (fun z => l3 + z) (show Int32.ofInt (1) = (1 : Int32) by decide)) (by decide) rfl dX0_run_74 ?_
          refine g_iinc (l5 + (1 : Int32)) [(5, .int (l5 + (1 : Int32))), (3, .int (l3 + (1 : Int32))), (0, .ref (eB E + 33)), (2, .int l2), (4, .int l4), (6, .int l6)] 4 rfl (congrArg (fun z => l5 + z) (show Int32.ofInt (1) = (1 : Int32) by decide)) (by decide) rfl dX0_run_77 ?_
          refine g_aload_n rfl 2 rfl dX0_run_80 ?_
          refine g_get (j := 0) cok0 (by decide) (.ref (eB E + 1)) (Or.inl tw2_42) oS33 vS33_0 dX0_run_81 ?_
          refine g_callVN0i (As := []) (rest := []) cok4 mok_X4_everyone nmm_53 tw3_198 ts3_14 oS1 B.1 (by decide) (kX4_everyone  rfl) rfl rfl (Nat.le_of_ble_eq_true rfl) ⟨Nat.le_refl _, Nat.le_refl _⟩ dX0_run_84 ?_
          refine g_bipush (6 : Int32) (by decide) dX0_run_87 ?_
          refine g_imul dX0_run_89 ?_
          refine g_istore [(4, .int ((fX4_everyone st) * (6 : Int32))), (5, .int (l5 + (1 : Int32))), (3, .int (l3 + (1 : Int32))), (0, .ref (eB E + 33)), (2, .int l2), (6, .int l6)] (by decide) rfl dX0_run_90 ?_
          refine g_iload 0 rfl dX0_run_92 ?_
          refine g_callSN0i (As := [.int ((fX4_everyone st) * (6 : Int32))]) (rest := []) mok_X1_goesOn nmm_52 tw4_24 B.1 (by decide) (kX1_goesOn  rfl) rfl rfl (Nat.le_of_ble_eq_true rfl) ⟨Nat.le_refl _, Nat.le_refl _⟩ dX0_run_94 ?_
          refine g_if_ne 103 (by decide) dX0_run_97 (fun h4 => ?_) (fun h4 => ?_)
          · rw [if_neg h4] at hf
            refine g_lvs [3, 4, 2, 0, 1, 5] rfl ?_
            exact wX0_run_b103 B ih l2 (l3 + (1 : Int32)) ((fX4_everyone st) * (6 : Int32)) (l5 + (1 : Int32)) l6 st hf
          · rw [if_pos h4] at hf
            refine g_goto 165 (by decide) dX0_run_100 ?_
            refine g_lvs [3, 0, 1] rfl ?_
            exact wX0_run_b165 B  ((fX4_everyone st) * (6 : Int32)) (l5 + (1 : Int32)) st hf
        · rw [if_neg h3] at hf
          refine g_goto 165 (by decide) dX0_run_71 ?_
          refine g_lvs [0, 3, 4] rfl ?_
          exact wX0_run_b165 B  l4 l5 st hf
def fX0_run (p1 : Int32) (p2 : Int32) (st : St) : Option (Int32 × St) :=
  (fX4_state st).bind (fun q1 => (fJ7_fill_53178 34 (0 : Int32) (pI (pL st 33 5 p1.toInt64) 33 3 (sI (pL st 33 5 p1.toInt64) 1 4))).bind (fun q4 => fX0_run_b50 FU p2 (sI st 5 0) q1 (0 : Int32) (0 : Int32) q4))
set_option maxHeartbeats 1000000 in
set_option maxRecDepth 20000 in
theorem wX0_run {E : Ev} {x : Cx} {r0 : Int32} {u0 : St} (B : Bd E x (some FieldType.int) (7) 0 0 (some (.int r0)) u0) (p1 : Int32) (p2 : Int32) (st : St)  (hf : fX0_run p1 p2 st = some (r0, u0)) : G E WT x RX0 cX0_run 8 (0, 0) st 0 [(0, .ref (eB E + 33)), (1, .int p1), (2, .int p2)] [] := by
  unfold fX0_run at hf
  refine g_aload_n rfl 0 rfl dX0_run_0 ?_
  refine g_get (j := 0) cok0 (by decide) (.ref (eB E + 1)) (Or.inl tw2_42) oS33 vS33_0 dX0_run_1 ?_
  refine g_get (j := 3) cok4 (by decide) (.ref (eB E + 5)) (Or.inr nf_5) oS1 vS1_3 dX0_run_4 ?_
  refine g_iconst (0 : Int32) (by decide) dX0_run_7 ?_
  refine g_ialdj 0 rfl aS5 (ixb_in rfl) dX0_run_8 ?_
  refine g_istore_n rfl [(3, .int (sI st 5 0)), (0, .ref (eB E + 33)), (1, .int p1), (2, .int p2)] (by decide) rfl dX0_run_9 ?_
  refine g_aload_n rfl 1 rfl dX0_run_10 ?_
  refine g_get (j := 0) cok0 (by decide) (.ref (eB E + 1)) (Or.inl tw2_42) oS33 vS33_0 dX0_run_11 ?_
  obtain ⟨q1, h2, hf⟩ := bnd_some hf
  refine g_callVN0i (As := []) (rest := []) cok4 mok_X4_state nmm_51 tw4_16 ts4_2 oS1 B.1 (by decide) (kX4_state  h2) rfl rfl (Nat.le_of_ble_eq_true rfl) ⟨Nat.le_refl _, Nat.le_refl _⟩ dX0_run_14 ?_
  refine g_istore [(4, .int q1), (3, .int (sI st 5 0)), (0, .ref (eB E + 33)), (1, .int p1), (2, .int p2)] (by decide) rfl dX0_run_17 ?_
  refine g_iconst (0 : Int32) (by decide) dX0_run_19 ?_
  refine g_istore [(5, .int (0 : Int32)), (4, .int q1), (3, .int (sI st 5 0)), (0, .ref (eB E + 33)), (1, .int p1), (2, .int p2)] (by decide) rfl dX0_run_20 ?_
  refine g_aload_n rfl 3 rfl dX0_run_22 ?_
  refine g_iload_n rfl 4 rfl dX0_run_23 ?_
  refine g_i2l dX0_run_24 ?_
  refine g_putL (j := 5) cok0 (by decide) rfl rfl rfl rfl (Or.inl tw2_50) oS33 B.2.1 wpL dX0_run_25 ?_
  refine g_aload_n rfl 3 rfl dX0_run_28 ?_
  refine g_aload_n rfl 3 rfl dX0_run_29 ?_
  refine g_get (j := 0) cok0 (by decide) (.ref (eB E + 1)) (Or.inl tw2_42) oS33 vS33_0 dX0_run_30 ?_
  refine g_get (j := 4) cok4 (by decide) (.int (sI (pL st 33 5 p1.toInt64) 1 4)) (Or.inr nf_11) oS1 (fun _ => rfl) dX0_run_33 ?_
  refine g_putI (j := 3) cok0 (by decide) rfl rfl rfl rfl (Or.inl tw2_46) oS33 B.2.1 wpI dX0_run_36 ?_
  refine g_aload_n rfl 3 rfl dX0_run_39 ?_
  refine g_get (j := 2) cok0 (by decide) (.ref (eB E + 34)) (Or.inl tw2_44) oS33 vS33_2 dX0_run_40 ?_
  refine g_iconst (0 : Int32) (by decide) dX0_run_43 ?_
  refine g_wt (fun w3 => ?_)
  obtain ⟨q4, h5, hf⟩ := bnd_some hf
  refine g_callS0v (As := [.ref (eB E + 34), .int (0 : Int32)]) (rest := []) mok_J7_fill_53178 tw4_125 tw2_136 B.1 (by decide) (kJ7_fill_53178 (oS34 w3) h5) rfl rfl (Nat.le_of_ble_eq_true rfl) ⟨Nat.le_refl _, Nat.le_refl _⟩ dX0_run_44 ?_
  refine g_iconst (0 : Int32) (by decide) dX0_run_47 ?_
  refine g_istore [(6, .int (0 : Int32)), (5, .int (0 : Int32)), (4, .int q1), (3, .int (sI st 5 0)), (0, .ref (eB E + 33)), (1, .int p1), (2, .int p2)] (by decide) rfl dX0_run_48 ?_
  refine g_lvs [4, 6, 3, 2, 1, 0] rfl ?_
  exact wX0_run_b50 B  FU p2 (sI st 5 0) q1 (0 : Int32) (0 : Int32) q4 hf
theorem kX0_run {l : Launch} {E : Ev} {st : St} {p1 : Int32} {p2 : Int32} {r0 : Int32} {u0 : St}  (hf : fX0_run p1 p2 st = some (r0, u0)) : CM l E WT yX0_run cX0_run 8 (some FieldType.int) 7 0 0 [.ref (eB E + 33), .int p1, .int p2] st (some (.int r0)) u0 :=
  CM.intro mok_X0_run (Nat.le_of_ble_eq_true rfl) (fun x hl hR ht hr hQ _ => wX0_run ⟨hR, ht, hr, hQ⟩ p1 p2 st hf)
def fX6_after_b83 (l3 : Int32) (st : St) : Option (Int32 × St) :=
  chk (ixb l3 1920) (some (jrem (sI st 24 l3.toNatClampNeg) (384 : Int32), st))
set_option maxHeartbeats 1000000 in
set_option maxRecDepth 20000 in
theorem wX6_after_b83 {E : Ev} {x : Cx} {r0 : Int32} {u0 : St} (B : Bd E x (some FieldType.int) (6) 0 0 (some (.int r0)) u0) (l3 : Int32) (st : St)  (hf : fX6_after_b83 l3 st = some (r0, u0)) : G E WT x RX6 cX6_after 6 (0, 0) st 83 [(0, .ref (eB E + 19)), (3, .int l3)] [] := by
  unfold fX6_after_b83 at hf
  refine g_aload_n rfl 0 rfl dX6_after_83 ?_
  refine g_get (j := 5) cok6 (by decide) (.ref (eB E + 24)) (Or.inl tw1_199) oS19 vS19_5 dX6_after_84 ?_
  refine g_iload_n rfl 1 rfl dX6_after_87 ?_
  obtain ⟨h1, hf⟩ := chk_some hf
  refine g_ialdj l3.toNatClampNeg rfl aS24 (ixb_in h1) dX6_after_88 ?_
  refine g_sipush (384 : Int32) (by decide) dX6_after_89 ?_
  refine g_irem (by decide) dX6_after_92 ?_
  exact g_iret B.2.2.2 B.2.2.1 (congrArg (fun z => some (Value.int z)) (Prod.mk.inj (Option.some.inj hf)).1.symm) (Prod.mk.inj (Option.some.inj hf)).2.symm dX6_after_93
def fX6_after (p1 : Int32) (p2 : Int32) (st : St) : Option (Int32 × St) :=
  if ((p2 * (384 : Int32)) + p1) < 0 then (some (p1, st)) else (if ((p2 * (384 : Int32)) + p1) < (1920 : Int32) then (chk (ixb ((p2 * (384 : Int32)) + p1) 1920) (if ((sI st 24 (((p2 * (384 : Int32)) + p1).toNatClampNeg)) / (384 : Int32)) = (sI st 19 6) then (fX6_after_b83 ((p2 * (384 : Int32)) + p1) st) else ((fX6_speak (p1 / (6 : Int32)) (jrem p1 (6 : Int32)) p2 (0 : Int32) st).bind (fun q5 => chk (ixb ((p2 * (384 : Int32)) + p1) 1920) (fX6_after_b83 ((p2 * (384 : Int32)) + p1) (pI q5.2 24 (((p2 * (384 : Int32)) + p1).toNatClampNeg) (((sI q5.2 19 6) * (384 : Int32)) + (fX6_stateBehind q5.2 (p1 / (6 : Int32)) q5.1)))))))) else (some (p1, st)))
set_option maxHeartbeats 1000000 in
set_option maxRecDepth 20000 in
theorem wX6_after {E : Ev} {x : Cx} {r0 : Int32} {u0 : St} (B : Bd E x (some FieldType.int) (6) 0 0 (some (.int r0)) u0) (p1 : Int32) (p2 : Int32) (st : St)  (hf : fX6_after p1 p2 st = some (r0, u0)) : G E WT x RX6 cX6_after 6 (0, 0) st 0 [(0, .ref (eB E + 19)), (1, .int p1), (2, .int p2)] [] := by
  unfold fX6_after at hf
  refine g_iload_n rfl 2 rfl dX6_after_0 ?_
  refine g_sipush (384 : Int32) (by decide) dX6_after_1 ?_
  refine g_imul dX6_after_4 ?_
  refine g_iload_n rfl 1 rfl dX6_after_5 ?_
  refine g_iadd dX6_after_6 ?_
  refine g_istore_n rfl [(3, .int ((p2 * (384 : Int32)) + p1)), (0, .ref (eB E + 19)), (1, .int p1), (2, .int p2)] (by decide) rfl dX6_after_7 ?_
  refine g_iload_n rfl 0 rfl dX6_after_8 ?_
  refine g_if_lt 21 (by decide) dX6_after_9 (fun h1 => ?_) (fun h1 => ?_)
  · rw [if_pos h1] at hf
    refine g_iload_n rfl 2 rfl dX6_after_21 ?_
    exact g_iret B.2.2.2 B.2.2.1 (congrArg (fun z => some (Value.int z)) (Prod.mk.inj (Option.some.inj hf)).1.symm) (Prod.mk.inj (Option.some.inj hf)).2.symm dX6_after_22
  · rw [if_neg h1] at hf
    refine g_iload_n rfl 0 rfl dX6_after_12 ?_
    refine g_aload_n rfl 1 rfl dX6_after_13 ?_
    refine g_get (j := 5) cok6 (by decide) (.ref (eB E + 24)) (Or.inl tw1_199) oS19 vS19_5 dX6_after_14 ?_
    refine g_alenL 1 (1920 : Int32) (by decide) aS24 (by decide) rfl dX6_after_17 ?_
    refine g_icmp_lt 23 (by decide) dX6_after_18 (fun h2 => ?_) (fun h2 => ?_)
    · rw [if_pos h2] at hf
      refine g_aload_n rfl 1 rfl dX6_after_23 ?_
      refine g_get (j := 5) cok6 (by decide) (.ref (eB E + 24)) (Or.inl tw1_199) oS19 vS19_5 dX6_after_24 ?_
      refine g_iload_n rfl 0 rfl dX6_after_27 ?_
      obtain ⟨h3, hf⟩ := chk_some hf
      refine g_ialdj (((p2 * (384 : Int32)) + p1).toNatClampNeg) rfl aS24 (ixb_in h3) dX6_after_28 ?_
      refine g_sipush (384 : Int32) (by decide) dX6_after_29 ?_
      refine g_idiv (by decide) dX6_after_32 ?_
      refine g_aload_n rfl 1 rfl dX6_after_33 ?_
      refine g_get (j := 6) cok6 (by decide) (.int (sI st 19 6)) (Or.inl tw1_200) oS19 (fun _ => rfl) dX6_after_34 ?_
      refine g_icmp_eq 83 (by decide) dX6_after_37 (fun h4 => ?_) (fun h4 => ?_)
      · rw [if_pos h4] at hf
        refine g_lvs [1, 0] rfl ?_
        exact wX6_after_b83 B  ((p2 * (384 : Int32)) + p1) st hf
      · rw [if_neg h4] at hf
        refine g_iload_n rfl 2 rfl dX6_after_40 ?_
        refine g_bipush (6 : Int32) (by decide) dX6_after_41 ?_
        refine g_idiv (by decide) dX6_after_43 ?_
        refine g_istore [(4, .int (p1 / (6 : Int32))), (3, .int ((p2 * (384 : Int32)) + p1)), (0, .ref (eB E + 19)), (1, .int p1), (2, .int p2)] (by decide) rfl dX6_after_44 ?_
        refine g_aload_n rfl 2 rfl dX6_after_46 ?_
        refine g_iload 0 rfl dX6_after_47 ?_
        refine g_aload_n rfl 2 rfl dX6_after_49 ?_
        refine g_iload 0 rfl dX6_after_50 ?_
        refine g_iload_n rfl 3 rfl dX6_after_52 ?_
        refine g_bipush (6 : Int32) (by decide) dX6_after_53 ?_
        refine g_irem (by decide) dX6_after_55 ?_
        refine g_iload_n rfl 4 rfl dX6_after_56 ?_
        refine g_iconst (0 : Int32) (by decide) dX6_after_57 ?_
        obtain ⟨q5, h6, hf⟩ := bnd_some hf
        refine g_callV0i (As := [.int (p1 / (6 : Int32)), .int (jrem p1 (6 : Int32)), .int p2, .int (0 : Int32)]) (rest := [.int (p1 / (6 : Int32)), .ref (eB E + 19)]) cok6 mok_X6_speak tw4_31 tw3_163 ts3_6 oS19 B.1 (by decide) (kX6_speak  h6) rfl rfl (Nat.le_of_ble_eq_true rfl) ⟨Nat.le_refl _, Nat.le_refl _⟩ dX6_after_58 ?_
        refine g_callV0i (As := [.int (p1 / (6 : Int32)), .int q5.1]) (rest := []) cok6 mok_X6_stateBehind tw4_32 tw3_182 ts3_10 oS19 B.1 (by decide) (kX6_stateBehind  rfl) rfl rfl (Nat.le_of_ble_eq_true rfl) ⟨Nat.le_refl _, Nat.le_refl _⟩ dX6_after_61 ?_
        refine g_istore [(5, .int (fX6_stateBehind q5.2 (p1 / (6 : Int32)) q5.1)), (4, .int (p1 / (6 : Int32))), (3, .int ((p2 * (384 : Int32)) + p1)), (0, .ref (eB E + 19)), (1, .int p1), (2, .int p2)] (by decide) rfl dX6_after_64 ?_
        refine g_aload_n rfl 3 rfl dX6_after_66 ?_
        refine g_get (j := 5) cok6 (by decide) (.ref (eB E + 24)) (Or.inl tw1_199) oS19 vS19_5 dX6_after_67 ?_
        refine g_iload_n rfl 2 rfl dX6_after_70 ?_
        refine g_aload_n rfl 3 rfl dX6_after_71 ?_
        refine g_get (j := 6) cok6 (by decide) (.int (sI q5.2 19 6)) (Or.inl tw1_200) oS19 (fun _ => rfl) dX6_after_72 ?_
        refine g_sipush (384 : Int32) (by decide) dX6_after_75 ?_
        refine g_imul dX6_after_78 ?_
        refine g_iload 0 rfl dX6_after_79 ?_
        refine g_iadd dX6_after_81 ?_
        obtain ⟨h7, hf⟩ := chk_some hf
        refine g_iastj (((p2 * (384 : Int32)) + p1).toNatClampNeg) rfl aS24 (ixb_in h7) B.2.1 wpI dX6_after_82 ?_
        refine g_lvs [3, 2] rfl ?_
        exact wX6_after_b83 B  ((p2 * (384 : Int32)) + p1) (pI q5.2 24 (((p2 * (384 : Int32)) + p1).toNatClampNeg) (((sI q5.2 19 6) * (384 : Int32)) + (fX6_stateBehind q5.2 (p1 / (6 : Int32)) q5.1))) hf
    · rw [if_neg h2] at hf
      refine g_iload_n rfl 2 rfl dX6_after_21 ?_
      exact g_iret B.2.2.2 B.2.2.1 (congrArg (fun z => some (Value.int z)) (Prod.mk.inj (Option.some.inj hf)).1.symm) (Prod.mk.inj (Option.some.inj hf)).2.symm dX6_after_22
theorem kX6_after {l : Launch} {E : Ev} {st : St} {p1 : Int32} {p2 : Int32} {r0 : Int32} {u0 : St}  (hf : fX6_after p1 p2 st = some (r0, u0)) : CM l E WT yX6_after cX6_after 6 (some FieldType.int) 6 0 0 [.ref (eB E + 19), .int p1, .int p2] st (some (.int r0)) u0 :=
  CM.intro mok_X6_after (Nat.le_of_ble_eq_true rfl) (fun x hl hR ht hr hQ _ => wX6_after ⟨hR, ht, hr, hQ⟩ p1 p2 st hf)
def fX1_lastBy_b99 (l3 : Int32) (st : St) : Option (Int32 × St) :=
  some (fX1_onlyOneIn l3, st)
set_option maxHeartbeats 1000000 in
set_option maxRecDepth 20000 in
theorem wX1_lastBy_b99 {E : Ev} {x : Cx} {r0 : Int32} {u0 : St} (B : Bd E x (some FieldType.int) (7) 0 0 (some (.int r0)) u0) (l3 : Int32) (st : St)  (hf : fX1_lastBy_b99 l3 st = some (r0, u0)) : G E WT x RX1 cX1_lastBy 7 (0, 0) st 99 [(3, .int l3)] [] := by
  unfold fX1_lastBy_b99 at hf
  refine g_iload_n rfl 0 rfl dX1_lastBy_99 ?_
  refine g_callS0i (As := [.int l3]) (rest := []) mok_X1_onlyOneIn tw4_37 tw4_38 B.1 (by decide) (kX1_onlyOneIn  rfl) rfl rfl (Nat.le_of_ble_eq_true rfl) ⟨Nat.le_refl _, Nat.le_refl _⟩ dX1_lastBy_100 ?_
  exact g_iret B.2.2.2 B.2.2.1 (congrArg (fun z => some (Value.int z)) (Prod.mk.inj (Option.some.inj hf)).1.symm) (Prod.mk.inj (Option.some.inj hf)).2.symm dX1_lastBy_103
def fX1_lastBy_b90 (k10 : Int32 → Int32 → Int32 → St → Option (Int32 × St))(l2 : Int32) (l4 : Int32) (l5 : Int32) (st : St) : Option (Int32 × St) :=
  k10 l2 l5 (l4 + (1 : Int32)) st
set_option maxHeartbeats 1000000 in
set_option maxRecDepth 20000 in
theorem wX1_lastBy_b90 {E : Ev} {x : Cx} {r0 : Int32} {u0 : St} (B : Bd E x (some FieldType.int) (7) 0 0 (some (.int r0)) u0) {k10 : Int32 → Int32 → Int32 → St → Option (Int32 × St)} (hk10 : ∀ (l2 : Int32) (l3 : Int32) (l4 : Int32) (st : St), k10 l2 l3 l4 st = some (r0, u0) → G E WT x RX1 cX1_lastBy 7 (0, 0) st 10 [(0, .ref (eB E + 25)), (2, .int l2), (3, .int l3), (4, .int l4)] []) (l2 : Int32) (l4 : Int32) (l5 : Int32) (st : St)  (hf : fX1_lastBy_b90 k10 l2 l4 l5 st = some (r0, u0)) : G E WT x RX1 cX1_lastBy 7 (0, 0) st 90 [(0, .ref (eB E + 25)), (2, .int l2), (4, .int l4), (5, .int l5)] [] := by
  unfold fX1_lastBy_b90 at hf
  refine g_iload 3 rfl dX1_lastBy_90 ?_
  refine g_istore_n rfl [(3, .int l5), (0, .ref (eB E + 25)), (2, .int l2), (4, .int l4), (5, .int l5)] (by decide) rfl dX1_lastBy_92 ?_
  refine g_iinc (l4 + (1 : Int32)) [(4, .int (l4 + (1 : Int32))), (3, .int l5), (0, .ref (eB E + 25)), (2, .int l2), (5, .int l5)] 3 rfl (congrArg (fun z => l4 + z) (show Int32.ofInt (1) = (1 : Int32) by decide)) (by decide) rfl dX1_lastBy_93 ?_
  refine g_goto 10 (by decide) dX1_lastBy_96 ?_
  refine g_lvs [2, 3, 1, 0] rfl ?_
  exact hk10 l2 l5 (l4 + (1 : Int32)) st hf
def fX1_lastBy_b10 : Nat → Int32 → Int32 → Int32 → St → Option (Int32 × St)
  | 0, _, _, _, _ => none
  | n + 1, l2, l3, l4, st => if (60 : Int32) ≤ l4 then (fX1_lastBy_b99 l3 st) else (if (fX1_goesOn l3) = 0 then (fX1_lastBy_b99 l3 st) else ((fX6_after l3 l2 st).bind (fun q3 => if ((l3 / (6 : Int32)) &&& ((q3.1 / (6 : Int32)) ^^^ (-1 : Int32))) = 0 then (fX1_lastBy_b90 (fun zl2 zl3 zl4 zst => fX1_lastBy_b10 n zl2 zl3 zl4 zst) l2 l4 q3.1 q3.2) else (if (6 : Int32) ≤ (sI q3.2 25 9) then (fX1_lastBy_b90 (fun zl2 zl3 zl4 zst => fX1_lastBy_b10 n zl2 zl3 zl4 zst) l2 l4 q3.1 q3.2) else (chk (ixb (sI q3.2 25 9) 6) (fX1_lastBy_b90 (fun zl2 zl3 zl4 zst => fX1_lastBy_b10 n zl2 zl3 zl4 zst) l2 l4 q3.1 (pI (pI q3.2 26 ((sI q3.2 25 9).toNatClampNeg) (fJ6_numberOfTrailingZeros_0f7a4 ((l3 / (6 : Int32)) &&& ((q3.1 / (6 : Int32)) ^^^ (-1 : Int32))))) 25 9 ((sI (pI q3.2 26 ((sI q3.2 25 9).toNatClampNeg) (fJ6_numberOfTrailingZeros_0f7a4 ((l3 / (6 : Int32)) &&& ((q3.1 / (6 : Int32)) ^^^ (-1 : Int32))))) 25 9) + (1 : Int32)))))))))
set_option maxHeartbeats 1000000 in
set_option maxRecDepth 20000 in
theorem wX1_lastBy_b10 {E : Ev} {x : Cx} {r0 : Int32} {u0 : St} (B : Bd E x (some FieldType.int) (7) 0 0 (some (.int r0)) u0) : ∀ (n : Nat) (l2 : Int32) (l3 : Int32) (l4 : Int32) (st : St) , fX1_lastBy_b10 n l2 l3 l4 st = some (r0, u0) → G E WT x RX1 cX1_lastBy 7 (0, 0) st 10 [(0, .ref (eB E + 25)), (2, .int l2), (3, .int l3), (4, .int l4)] [] := by
  intro n
  induction n with
  | zero =>
    intros
    rename_i hf
    rw [fX1_lastBy_b10] at hf
    cases hf
  | succ n ih =>
    intro l2 l3 l4 st hf
    rw [fX1_lastBy_b10] at hf
    refine g_iload 3 rfl dX1_lastBy_10 ?_
    refine g_bipush (60 : Int32) (by decide) dX1_lastBy_12 ?_
    refine g_icmp_ge 99 (by decide) dX1_lastBy_14 (fun h1 => ?_) (fun h1 => ?_)
    · rw [if_pos h1] at hf
      refine g_lvs [2] rfl ?_
      exact wX1_lastBy_b99 B  l3 st hf
    · rw [if_neg h1] at hf
      refine g_iload_n rfl 2 rfl dX1_lastBy_17 ?_
      refine g_callS0i (As := [.int l3]) (rest := []) mok_X1_goesOn tw4_23 tw4_24 B.1 (by decide) (kX1_goesOn  rfl) rfl rfl (Nat.le_of_ble_eq_true rfl) ⟨Nat.le_refl _, Nat.le_refl _⟩ dX1_lastBy_18 ?_
      refine g_if_eq 99 (by decide) dX1_lastBy_21 (fun h2 => ?_) (fun h2 => ?_)
      · rw [if_pos h2] at hf
        refine g_lvs [2] rfl ?_
        exact wX1_lastBy_b99 B  l3 st hf
      · rw [if_neg h2] at hf
        refine g_aload_n rfl 0 rfl dX1_lastBy_24 ?_
        refine g_get (j := 1) cok1 (by decide) (.ref (eB E + 19)) (Or.inl tw1_236) oS25 vS25_1 dX1_lastBy_25 ?_
        refine g_iload_n rfl 2 rfl dX1_lastBy_28 ?_
        refine g_iload_n rfl 1 rfl dX1_lastBy_29 ?_
        obtain ⟨q3, h4, hf⟩ := bnd_some hf
        refine g_callVN0i (As := [.int l3, .int l2]) (rest := []) cok6 mok_X6_after nmm_40 tw4_29 ts4_4 oS19 B.1 (by decide) (kX6_after  h4) rfl rfl (Nat.le_of_ble_eq_true rfl) ⟨Nat.le_refl _, Nat.le_refl _⟩ dX1_lastBy_30 ?_
        refine g_istore [(5, .int q3.1), (0, .ref (eB E + 25)), (2, .int l2), (3, .int l3), (4, .int l4)] (by decide) rfl dX1_lastBy_33 ?_
        refine g_iload_n rfl 3 rfl dX1_lastBy_35 ?_
        refine g_bipush (6 : Int32) (by decide) dX1_lastBy_36 ?_
        refine g_idiv (by decide) dX1_lastBy_38 ?_
        refine g_iload 0 rfl dX1_lastBy_39 ?_
        refine g_bipush (6 : Int32) (by decide) dX1_lastBy_41 ?_
        refine g_idiv (by decide) dX1_lastBy_43 ?_
        refine g_iconst (-1 : Int32) (by decide) dX1_lastBy_44 ?_
        refine g_ixor dX1_lastBy_45 ?_
        refine g_iand dX1_lastBy_46 ?_
        refine g_istore [(6, .int ((l3 / (6 : Int32)) &&& ((q3.1 / (6 : Int32)) ^^^ (-1 : Int32)))), (5, .int q3.1), (0, .ref (eB E + 25)), (2, .int l2), (3, .int l3), (4, .int l4)] (by decide) rfl dX1_lastBy_47 ?_
        refine g_iload 0 rfl dX1_lastBy_49 ?_
        refine g_if_eq 90 (by decide) dX1_lastBy_51 (fun h5 => ?_) (fun h5 => ?_)
        · rw [if_pos h5] at hf
          refine g_lvs [2, 3, 5, 1] rfl ?_
          exact wX1_lastBy_b90 B ih l2 l4 q3.1 q3.2 hf
        · rw [if_neg h5] at hf
          refine g_aload_n rfl 2 rfl dX1_lastBy_54 ?_
          refine g_get (j := 9) cok1 (by decide) (.int (sI q3.2 25 9)) (Or.inl tw2_5) oS25 (fun _ => rfl) dX1_lastBy_55 ?_
          refine g_aload_n rfl 2 rfl dX1_lastBy_58 ?_
          refine g_get (j := 2) cok1 (by decide) (.ref (eB E + 26)) (Or.inl tw1_237) oS25 vS25_2 dX1_lastBy_59 ?_
          refine g_alenL 1 (6 : Int32) (by decide) aS26 (by decide) rfl dX1_lastBy_62 ?_
          refine g_icmp_ge 90 (by decide) dX1_lastBy_63 (fun h6 => ?_) (fun h6 => ?_)
          · rw [if_pos h6] at hf
            refine g_lvs [2, 3, 5, 1] rfl ?_
            exact wX1_lastBy_b90 B ih l2 l4 q3.1 q3.2 hf
          · rw [if_neg h6] at hf
            refine g_aload_n rfl 2 rfl dX1_lastBy_66 ?_
            refine g_get (j := 2) cok1 (by decide) (.ref (eB E + 26)) (Or.inl tw1_237) oS25 vS25_2 dX1_lastBy_67 ?_
            refine g_aload_n rfl 2 rfl dX1_lastBy_70 ?_
            refine g_get (j := 9) cok1 (by decide) (.int (sI q3.2 25 9)) (Or.inl tw2_5) oS25 (fun _ => rfl) dX1_lastBy_71 ?_
            refine g_iload 0 rfl dX1_lastBy_74 ?_
            refine g_callS0i (As := [.int ((l3 / (6 : Int32)) &&& ((q3.1 / (6 : Int32)) ^^^ (-1 : Int32)))]) (rest := [.int (sI q3.2 25 9), .ref (eB E + 26)]) mok_J6_numberOfTrailingZeros_0f7a4 tw4_33 tw4_34 B.1 (by decide) (kJ6_numberOfTrailingZeros_0f7a4  rfl) rfl rfl (Nat.le_of_ble_eq_true rfl) ⟨Nat.le_refl _, Nat.le_refl _⟩ dX1_lastBy_76 ?_
            obtain ⟨h7, hf⟩ := chk_some hf
            refine g_iastj ((sI q3.2 25 9).toNatClampNeg) rfl aS26 (ixb_in h7) B.2.1 wpI dX1_lastBy_79 ?_
            refine g_aload_n rfl 2 rfl dX1_lastBy_80 ?_
            refine g_dup rfl dX1_lastBy_81 ?_
            refine g_get (j := 9) cok1 (by decide) (.int (sI (pI q3.2 26 ((sI q3.2 25 9).toNatClampNeg) (fJ6_numberOfTrailingZeros_0f7a4 ((l3 / (6 : Int32)) &&& ((q3.1 / (6 : Int32)) ^^^ (-1 : Int32))))) 25 9)) (Or.inl tw2_5) oS25 (fun _ => rfl) dX1_lastBy_82 ?_
            refine g_iconst (1 : Int32) (by decide) dX1_lastBy_85 ?_
            refine g_iadd dX1_lastBy_86 ?_
            refine g_putI (j := 9) cok1 (by decide) rfl rfl rfl rfl (Or.inl tw2_5) oS25 B.2.1 wpI dX1_lastBy_87 ?_
            refine g_lvs [2, 3, 5, 1] rfl ?_
            exact wX1_lastBy_b90 B ih l2 l4 q3.1 (pI (pI q3.2 26 ((sI q3.2 25 9).toNatClampNeg) (fJ6_numberOfTrailingZeros_0f7a4 ((l3 / (6 : Int32)) &&& ((q3.1 / (6 : Int32)) ^^^ (-1 : Int32))))) 25 9 ((sI (pI q3.2 26 ((sI q3.2 25 9).toNatClampNeg) (fJ6_numberOfTrailingZeros_0f7a4 ((l3 / (6 : Int32)) &&& ((q3.1 / (6 : Int32)) ^^^ (-1 : Int32))))) 25 9) + (1 : Int32))) hf
def fX1_lastBy (p1 : Int32) (p2 : Int32) (st : St) : Option (Int32 × St) :=
  fX1_lastBy_b10 FU p2 p1 (0 : Int32) (pI st 25 9 (0 : Int32))
set_option maxHeartbeats 1000000 in
set_option maxRecDepth 20000 in
theorem wX1_lastBy {E : Ev} {x : Cx} {r0 : Int32} {u0 : St} (B : Bd E x (some FieldType.int) (7) 0 0 (some (.int r0)) u0) (p1 : Int32) (p2 : Int32) (st : St)  (hf : fX1_lastBy p1 p2 st = some (r0, u0)) : G E WT x RX1 cX1_lastBy 7 (0, 0) st 0 [(0, .ref (eB E + 25)), (1, .int p1), (2, .int p2)] [] := by
  unfold fX1_lastBy at hf
  refine g_iload_n rfl 1 rfl dX1_lastBy_0 ?_
  refine g_istore_n rfl [(3, .int p1), (0, .ref (eB E + 25)), (1, .int p1), (2, .int p2)] (by decide) rfl dX1_lastBy_1 ?_
  refine g_aload_n rfl 1 rfl dX1_lastBy_2 ?_
  refine g_iconst (0 : Int32) (by decide) dX1_lastBy_3 ?_
  refine g_putI (j := 9) cok1 (by decide) rfl rfl rfl rfl (Or.inl tw2_5) oS25 B.2.1 wpI dX1_lastBy_4 ?_
  refine g_iconst (0 : Int32) (by decide) dX1_lastBy_7 ?_
  refine g_istore [(4, .int (0 : Int32)), (3, .int p1), (0, .ref (eB E + 25)), (1, .int p1), (2, .int p2)] (by decide) rfl dX1_lastBy_8 ?_
  refine g_lvs [2, 4, 1, 0] rfl ?_
  exact wX1_lastBy_b10 B  FU p2 p1 (0 : Int32) (pI st 25 9 (0 : Int32)) hf
theorem kX1_lastBy {l : Launch} {E : Ev} {st : St} {p1 : Int32} {p2 : Int32} {r0 : Int32} {u0 : St}  (hf : fX1_lastBy p1 p2 st = some (r0, u0)) : CM l E WT yX1_lastBy cX1_lastBy 7 (some FieldType.int) 7 0 0 [.ref (eB E + 25), .int p1, .int p2] st (some (.int r0)) u0 :=
  CM.intro mok_X1_lastBy (Nat.le_of_ble_eq_true rfl) (fun x hl hR ht hr hQ _ => wX1_lastBy ⟨hR, ht, hr, hQ⟩ p1 p2 st hf)
