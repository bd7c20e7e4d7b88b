abbrev TG4 : Type := (Int32 → St → Option (Int32 × St)) × (Int32 → St → Option (Int32 × St))
def RcOK4 (l : Launch) (E : Ev) (rc : TG4) (d : Nat) : Prop := (∀ {st : St} {p1 : Int32} {r0 : Int32} {u0 : St}, rc.1 p1 st = some (r0, u0) → CM l E WT yX3_test cX3_test 6 (some FieldType.boolean) (106 + d) 0 0 [.ref (eB E + 7), .int p1] st (some (.int r0)) u0) ∧ (∀ {st : St} {p1 : Int32} {r0 : Int32} {u0 : St}, rc.2 p1 st = some (r0, u0) → CM l E WT yX3_plain cX3_plain 4 (some FieldType.boolean) (106 + d) 0 0 [.ref (eB E + 7), .int p1] st (some (.int r0)) u0)
def fX3_test_b77 (rc : TG4) (k4 : Int32 → Int32 → Int32 → St → Option (Int32 × St))(l1 : Int32) (l2 : Int32) (l3 : Int32) (st : St) : Option (Int32 × St) :=
  (fX5_land l2 st).bind (fun q1 => (fX3_which q1 8).bind (fun q3 => if q3 = (-1 : Int32) then (some ((1 : Int32), q1)) else ((fX5_putJump (4 : Int32) q1).bind (fun q6 => (fX3_step q6.2).bind (fun q8 => k4 l1 q6.1 (l3 + (1 : Int32)) q8)))))
set_option maxHeartbeats 1000000 in
set_option maxRecDepth 20000 in
theorem wX3_test_b77 {E : Ev} {x : Cx} {rc : TG4} {d : Nat} (hrc : RcOK4 (xl x) E rc d) {r0 : Int32} {u0 : St} (B : Bd E x (some FieldType.boolean) (106 + d + 1) 0 0 (some (.int r0)) u0) {k4 : Int32 → Int32 → Int32 → St → Option (Int32 × St)} (hk4 : ∀ (l1 : Int32) (l2 : Int32) (l3 : Int32) (st : St), k4 l1 l2 l3 st = some (r0, u0) → G E WT x RX3 cX3_test 6 (0, 0) st 4 [(0, .ref (eB E + 7)), (1, .int l1), (2, .int l2), (3, .int l3)] []) (l1 : Int32) (l2 : Int32) (l3 : Int32) (st : St)  (hf : fX3_test_b77 rc k4 l1 l2 l3 st = some (r0, u0)) : G E WT x RX3 cX3_test 6 (0, 0) st 77 [(0, .ref (eB E + 7)), (1, .int l1), (2, .int l2), (3, .int l3)] [] := by
  unfold fX3_test_b77 at hf
  refine g_aload_n rfl 0 rfl dX3_test_77 ?_
  refine g_get (j := 1) cok3 (by decide) (.ref (eB E + 9)) (Or.inl tw1_144) oS7 vS7_1 dX3_test_78 ?_
  refine g_iload_n rfl 2 rfl dX3_test_81 ?_
  obtain ⟨q1, h2, hf⟩ := bnd_some hf
  refine g_callVN0v (As := [.int l2]) (rest := []) cok5 mok_X5_land nmm_23 tw3_111 ts2_13 oS9 B.1 (by omega) (kX5_land  h2) rfl rfl (Nat.le_of_ble_eq_true rfl) ⟨Nat.le_refl _, Nat.le_refl _⟩ dX3_test_82 ?_
  refine g_aload_n rfl 0 rfl dX3_test_85 ?_
  refine g_ldcS 8 (by decide) rfl dX3_test_86 ?_
  obtain ⟨q3, h4, hf⟩ := bnd_some hf
  refine g_callV0i (As := [.ref (eSK E 8)]) (rest := []) cok3 mok_X3_which tw3_28 tw3_30 ts2_6 oS7 B.1 (by omega) (kX3_which (by decide) h4) rfl rfl (Nat.le_of_ble_eq_true rfl) ⟨Nat.le_refl _, Nat.le_refl _⟩ dX3_test_88 ?_
  refine g_iconst (-1 : Int32) (by decide) dX3_test_91 ?_
  refine g_icmp_ne 97 (by decide) dX3_test_92 (fun h5 => ?_) (fun h5 => ?_)
  · rw [if_neg h5] at hf
    refine g_aload_n rfl 0 rfl dX3_test_97 ?_
    refine g_get (j := 1) cok3 (by decide) (.ref (eB E + 9)) (Or.inl tw1_144) oS7 vS7_1 dX3_test_98 ?_
    refine g_iconst (4 : Int32) (by decide) dX3_test_101 ?_
    obtain ⟨q6, h7, hf⟩ := bnd_some hf
    refine g_callVN0i (As := [.int (4 : Int32)]) (rest := []) cok5 mok_X5_putJump nmm_24 tw3_116 ts2_14 oS9 B.1 (by omega) (kX5_putJump  h7) rfl rfl (Nat.le_of_ble_eq_true rfl) ⟨Nat.le_refl _, Nat.le_refl _⟩ dX3_test_102 ?_
    refine g_istore_n rfl [(2, .int q6.1), (0, .ref (eB E + 7)), (1, .int l1), (3, .int l3)] (by decide) rfl dX3_test_105 ?_
    refine g_aload_n rfl 1 rfl dX3_test_106 ?_
    obtain ⟨q8, h9, hf⟩ := bnd_some hf
    refine g_callV0v (As := []) (rest := []) cok3 mok_X3_step tw3_18 tw3_20 ts2_4 oS7 B.1 (by omega) (kX3_step  h9) rfl rfl (Nat.le_of_ble_eq_true rfl) ⟨Nat.le_refl _, Nat.le_refl _⟩ dX3_test_107 ?_
    refine g_iinc (l3 + (1 : Int32)) [(3, .int (l3 + (1 : Int32))), (2, .int q6.1), (0, .ref (eB E + 7)), (1, .int l1)] 3 rfl (congrArg (fun z => l3 + z) (show Int32.ofInt (1) = (1 : Int32) by decide)) (by decide) rfl dX3_test_110 ?_
    refine g_goto 4 (by decide) dX3_test_113 ?_
    refine g_lvs [2, 3, 1, 0] rfl ?_
    exact hk4 l1 q6.1 (l3 + (1 : Int32)) q8 hf
  · rw [if_pos h5] at hf
    refine g_iconst (1 : Int32) (by decide) dX3_test_95 ?_
    exact g_zret B.2.2.2 B.2.2.1 (by decide) (congrArg (fun z => some (Value.int z)) (Prod.mk.inj (Option.some.inj hf)).1.symm) (Prod.mk.inj (Option.some.inj hf)).2.symm dX3_test_96
def fX3_test_b17 (rc : TG4) (k4 : Int32 → Int32 → Int32 → St → Option (Int32 × St)) : Nat → Int32 → Int32 → Int32 → Int32 → Int32 → St → Option (Int32 × St)
  | 0, _, _, _, _, _, _ => none
  | n + 1, l1, l2, l3, l4, l5, st => if (400 : Int32) ≤ l5 then (fX3_test_b77 rc k4 l1 l2 l3 st) else ((rc.2 l1 st).bind (fun q2 => if q2.1 = 0 then (some ((0 : Int32), q2.2)) else ((fX5_land l4 q2.2).bind (fun q5 => (fX3_which q5 7).bind (fun q7 => if q7 = (-1 : Int32) then (fX3_test_b77 rc k4 l1 l2 l3 q5) else ((fX5_putJump (3 : Int32) q5).bind (fun q10 => (fX3_step q10.2).bind (fun q12 => fX3_test_b17 rc k4 n l1 l2 l3 q10.1 (l5 + (1 : Int32)) q12))))))))
set_option maxHeartbeats 1000000 in
set_option maxRecDepth 20000 in
theorem wX3_test_b17 {E : Ev} {x : Cx} {rc : TG4} {d : Nat} (hrc : RcOK4 (xl x) E rc d) {r0 : Int32} {u0 : St} (B : Bd E x (some FieldType.boolean) (106 + d + 1) 0 0 (some (.int r0)) u0) {k4 : Int32 → Int32 → Int32 → St → Option (Int32 × St)} (hk4 : ∀ (l1 : Int32) (l2 : Int32) (l3 : Int32) (st : St), k4 l1 l2 l3 st = some (r0, u0) → G E WT x RX3 cX3_test 6 (0, 0) st 4 [(0, .ref (eB E + 7)), (1, .int l1), (2, .int l2), (3, .int l3)] []) : ∀ (n : Nat) (l1 : Int32) (l2 : Int32) (l3 : Int32) (l4 : Int32) (l5 : Int32) (st : St) , fX3_test_b17 rc k4 n l1 l2 l3 l4 l5 st = some (r0, u0) → G E WT x RX3 cX3_test 6 (0, 0) st 17 [(0, .ref (eB E + 7)), (1, .int l1), (2, .int l2), (3, .int l3), (4, .int l4), (5, .int l5)] [] := by
  intro n
  induction n with
  | zero =>
    intros
    rename_i hf
    rw [fX3_test_b17] at hf
    cases hf
  | succ n ih =>
    intro l1 l2 l3 l4 l5 st hf
    rw [fX3_test_b17] at hf
    refine g_iload 5 rfl dX3_test_17 ?_
    refine g_sipush (400 : Int32) (by decide) dX3_test_19 ?_
    refine g_icmp_ge 77 (by decide) dX3_test_22 (fun h1 => ?_) (fun h1 => ?_)
    · rw [if_pos h1] at hf
      refine g_lvs [0, 1, 2, 3] rfl ?_
      exact wX3_test_b77 hrc B hk4 l1 l2 l3 st hf
    · rw [if_neg h1] at hf
      refine g_aload_n rfl 0 rfl dX3_test_25 ?_
      refine g_iload_n rfl 1 rfl dX3_test_26 ?_
      obtain ⟨q2, h3, hf⟩ := bnd_some hf
      refine g_callV0i (As := [.int l1]) (rest := []) cok3 mok_X3_plain tw3_104 tw3_106 ts2_12 oS7 B.1 (by omega) (hrc.2 h3) rfl rfl (Nat.le_of_ble_eq_true rfl) ⟨Nat.le_refl _, Nat.le_refl _⟩ dX3_test_27 ?_
      refine g_if_ne 35 (by decide) dX3_test_30 (fun h4 => ?_) (fun h4 => ?_)
      · rw [if_neg h4] at hf
        refine g_aload_n rfl 0 rfl dX3_test_35 ?_
        refine g_get (j := 1) cok3 (by decide) (.ref (eB E + 9)) (Or.inl tw1_144) oS7 vS7_1 dX3_test_36 ?_
        refine g_iload 4 rfl dX3_test_39 ?_
        obtain ⟨q5, h6, hf⟩ := bnd_some hf
        refine g_callVN0v (As := [.int l4]) (rest := []) cok5 mok_X5_land nmm_23 tw3_111 ts2_13 oS9 B.1 (by omega) (kX5_land  h6) rfl rfl (Nat.le_of_ble_eq_true rfl) ⟨Nat.le_refl _, Nat.le_refl _⟩ dX3_test_41 ?_
        refine g_aload_n rfl 0 rfl dX3_test_44 ?_
        refine g_ldcS 7 (by decide) rfl dX3_test_45 ?_
        obtain ⟨q7, h8, hf⟩ := bnd_some hf
        refine g_callV0i (As := [.ref (eSK E 7)]) (rest := []) cok3 mok_X3_which tw3_28 tw3_30 ts2_6 oS7 B.1 (by omega) (kX3_which (by decide) h8) rfl rfl (Nat.le_of_ble_eq_true rfl) ⟨Nat.le_refl _, Nat.le_refl _⟩ dX3_test_47 ?_
        refine g_iconst (-1 : Int32) (by decide) dX3_test_50 ?_
        refine g_icmp_ne 57 (by decide) dX3_test_51 (fun h9 => ?_) (fun h9 => ?_)
        · rw [if_neg h9] at hf
          refine g_aload_n rfl 0 rfl dX3_test_57 ?_
          refine g_get (j := 1) cok3 (by decide) (.ref (eB E + 9)) (Or.inl tw1_144) oS7 vS7_1 dX3_test_58 ?_
          refine g_iconst (3 : Int32) (by decide) dX3_test_61 ?_
          obtain ⟨q10, h11, hf⟩ := bnd_some hf
          refine g_callVN0i (As := [.int (3 : Int32)]) (rest := []) cok5 mok_X5_putJump nmm_24 tw3_116 ts2_14 oS9 B.1 (by omega) (kX5_putJump  h11) rfl rfl (Nat.le_of_ble_eq_true rfl) ⟨Nat.le_refl _, Nat.le_refl _⟩ dX3_test_62 ?_
          refine g_istore [(4, .int q10.1), (0, .ref (eB E + 7)), (1, .int l1), (2, .int l2), (3, .int l3), (5, .int l5)] (by decide) rfl dX3_test_65 ?_
          refine g_aload_n rfl 1 rfl dX3_test_67 ?_
          obtain ⟨q12, h13, hf⟩ := bnd_some hf
          refine g_callV0v (As := []) (rest := []) cok3 mok_X3_step tw3_18 tw3_20 ts2_4 oS7 B.1 (by omega) (kX3_step  h13) rfl rfl (Nat.le_of_ble_eq_true rfl) ⟨Nat.le_refl _, Nat.le_refl _⟩ dX3_test_68 ?_
          refine g_iinc (l5 + (1 : Int32)) [(5, .int (l5 + (1 : Int32))), (4, .int q10.1), (0, .ref (eB E + 7)), (1, .int l1), (2, .int l2), (3, .int l3)] 5 rfl (congrArg (fun z => l5 + z) (show Int32.ofInt (1) = (1 : Int32) by decide)) (by decide) rfl dX3_test_71 ?_
          refine g_goto 17 (by decide) dX3_test_74 ?_
          refine g_lvs [2, 3, 4, 5, 1, 0] rfl ?_
          exact ih l1 l2 l3 q10.1 (l5 + (1 : Int32)) q12 hf
        · rw [if_pos h9] at hf
          refine g_goto 77 (by decide) dX3_test_54 ?_
          refine g_lvs [0, 1, 2, 3] rfl ?_
          exact wX3_test_b77 hrc B hk4 l1 l2 l3 q5 hf
      · rw [if_pos h4] at hf
        refine g_iconst (0 : Int32) (by decide) dX3_test_33 ?_
        exact g_zret B.2.2.2 B.2.2.1 (by decide) (congrArg (fun z => some (Value.int z)) (Prod.mk.inj (Option.some.inj hf)).1.symm) (Prod.mk.inj (Option.some.inj hf)).2.symm dX3_test_34
def fX3_test_b4 (rc : TG4)  : Nat → Int32 → Int32 → Int32 → St → Option (Int32 × St)
  | 0, _, _, _, _ => none
  | n + 1, l1, l2, l3, st => if (400 : Int32) ≤ l3 then (some ((0 : Int32), st)) else (fX3_test_b17 rc (fun zl1 zl2 zl3 zst => fX3_test_b4 rc n zl1 zl2 zl3 zst) FU l1 l2 l3 (0 : Int32) (0 : Int32) st)
set_option maxHeartbeats 1000000 in
set_option maxRecDepth 20000 in
theorem wX3_test_b4 {E : Ev} {x : Cx} {rc : TG4} {d : Nat} (hrc : RcOK4 (xl x) E rc d) {r0 : Int32} {u0 : St} (B : Bd E x (some FieldType.boolean) (106 + d + 1) 0 0 (some (.int r0)) u0) : ∀ (n : Nat) (l1 : Int32) (l2 : Int32) (l3 : Int32) (st : St) , fX3_test_b4 rc n l1 l2 l3 st = some (r0, u0) → G E WT x RX3 cX3_test 6 (0, 0) st 4 [(0, .ref (eB E + 7)), (1, .int l1), (2, .int l2), (3, .int l3)] [] := by
  intro n
  induction n with
  | zero =>
    intros
    rename_i hf
    rw [fX3_test_b4] at hf
    cases hf
  | succ n ih =>
    intro l1 l2 l3 st hf
    rw [fX3_test_b4] at hf
    refine g_iload_n rfl 3 rfl dX3_test_4 ?_
    refine g_sipush (400 : Int32) (by decide) dX3_test_5 ?_
    refine g_icmp_ge 116 (by decide) dX3_test_8 (fun h1 => ?_) (fun h1 => ?_)
    · rw [if_pos h1] at hf
      refine g_iconst (0 : Int32) (by decide) dX3_test_116 ?_
      exact g_zret B.2.2.2 B.2.2.1 (by decide) (congrArg (fun z => some (Value.int z)) (Prod.mk.inj (Option.some.inj hf)).1.symm) (Prod.mk.inj (Option.some.inj hf)).2.symm dX3_test_117
    · rw [if_neg h1] at hf
      refine g_iconst (0 : Int32) (by decide) dX3_test_11 ?_
      refine g_istore [(4, .int (0 : Int32)), (0, .ref (eB E + 7)), (1, .int l1), (2, .int l2), (3, .int l3)] (by decide) rfl dX3_test_12 ?_
      refine g_iconst (0 : Int32) (by decide) dX3_test_14 ?_
      refine g_istore [(5, .int (0 : Int32)), (4, .int (0 : Int32)), (0, .ref (eB E + 7)), (1, .int l1), (2, .int l2), (3, .int l3)] (by decide) rfl dX3_test_15 ?_
      refine g_lvs [2, 3, 4, 5, 1, 0] rfl ?_
      exact wX3_test_b17 hrc B ih FU l1 l2 l3 (0 : Int32) (0 : Int32) st hf
def fX3_test_g (rc : TG4) (p1 : Int32) (st : St) : Option (Int32 × St) :=
  fX3_test_b4 rc FU p1 (0 : Int32) (0 : Int32) st
set_option maxHeartbeats 1000000 in
set_option maxRecDepth 20000 in
theorem wX3_test {E : Ev} {x : Cx} {rc : TG4} {d : Nat} (hrc : RcOK4 (xl x) E rc d) {r0 : Int32} {u0 : St} (B : Bd E x (some FieldType.boolean) (106 + d + 1) 0 0 (some (.int r0)) u0) (p1 : Int32) (st : St)  (hf : fX3_test_g rc p1 st = some (r0, u0)) : G E WT x RX3 cX3_test 6 (0, 0) st 0 [(0, .ref (eB E + 7)), (1, .int p1)] [] := by
  unfold fX3_test_g at hf
  refine g_iconst (0 : Int32) (by decide) dX3_test_0 ?_
  refine g_istore_n rfl [(2, .int (0 : Int32)), (0, .ref (eB E + 7)), (1, .int p1)] (by decide) rfl dX3_test_1 ?_
  refine g_iconst (0 : Int32) (by decide) dX3_test_2 ?_
  refine g_istore_n rfl [(3, .int (0 : Int32)), (2, .int (0 : Int32)), (0, .ref (eB E + 7)), (1, .int p1)] (by decide) rfl dX3_test_3 ?_
  refine g_lvs [2, 3, 1, 0] rfl ?_
  exact wX3_test_b4 hrc B  FU p1 (0 : Int32) (0 : Int32) st hf
def fX3_plain_b158 (rc : TG4) (l2 : Int32) (st : St) : Option (Int32 × St) :=
  if l2 = 0 then (some ((1 : Int32), st)) else ((fX5_put (5 : Int32) st).bind (fun q2 => some ((1 : Int32), q2)))
set_option maxHeartbeats 1000000 in
set_option maxRecDepth 20000 in
theorem wX3_plain_b158 {E : Ev} {x : Cx} {rc : TG4} {d : Nat} (hrc : RcOK4 (xl x) E rc d) {r0 : Int32} {u0 : St} (B : Bd E x (some FieldType.boolean) (106 + d + 1) 0 0 (some (.int r0)) u0) (l2 : Int32) (st : St)  (hf : fX3_plain_b158 rc l2 st = some (r0, u0)) : G E WT x RX3 cX3_plain 4 (0, 0) st 158 [(0, .ref (eB E + 7)), (2, .int l2)] [] := by
  unfold fX3_plain_b158 at hf
  refine g_iload_n rfl 1 rfl dX3_plain_158 ?_
  refine g_if_eq 170 (by decide) dX3_plain_159 (fun h1 => ?_) (fun h1 => ?_)
  · rw [if_pos h1] at hf
    refine g_iconst (1 : Int32) (by decide) dX3_plain_170 ?_
    exact g_zret B.2.2.2 B.2.2.1 (by decide) (congrArg (fun z => some (Value.int z)) (Prod.mk.inj (Option.some.inj hf)).1.symm) (Prod.mk.inj (Option.some.inj hf)).2.symm dX3_plain_171
  · rw [if_neg h1] at hf
    refine g_aload_n rfl 0 rfl dX3_plain_162 ?_
    refine g_get (j := 1) cok3 (by decide) (.ref (eB E + 9)) (Or.inl tw1_144) oS7 vS7_1 dX3_plain_163 ?_
    refine g_iconst (5 : Int32) (by decide) dX3_plain_166 ?_
    obtain ⟨q2, h3, hf⟩ := bnd_some hf
    refine g_callVN0v (As := [.int (5 : Int32)]) (rest := []) cok5 mok_X5_put nmm_22 tw3_96 ts2_10 oS9 B.1 (by omega) (kX5_put  h3) rfl rfl (Nat.le_of_ble_eq_true rfl) ⟨Nat.le_refl _, Nat.le_refl _⟩ dX3_plain_167 ?_
    refine g_iconst (1 : Int32) (by decide) dX3_plain_170 ?_
    exact g_zret B.2.2.2 B.2.2.1 (by decide) (congrArg (fun z => some (Value.int z)) (Prod.mk.inj (Option.some.inj hf)).1.symm) (Prod.mk.inj (Option.some.inj hf)).2.symm dX3_plain_171
def fX3_plain_b126 (rc : TG4) (l1 : Int32) (l2 : Int32) (st : St) : Option (Int32 × St) :=
  chk (ixb (sI st 7 6) 400) ((fX3_step st).bind (fun q2 => (fX3_sum l1 q2).bind (fun q4 => if q4.1 = 0 then (some ((0 : Int32), q4.2)) else ((fX5_put (sI st 8 ((sI st 7 6).toNatClampNeg)) q4.2).bind (fun q7 => fX3_plain_b158 rc l2 q7)))))
set_option maxHeartbeats 1000000 in
set_option maxRecDepth 20000 in
theorem wX3_plain_b126 {E : Ev} {x : Cx} {rc : TG4} {d : Nat} (hrc : RcOK4 (xl x) E rc d) {r0 : Int32} {u0 : St} (B : Bd E x (some FieldType.boolean) (106 + d + 1) 0 0 (some (.int r0)) u0) (l1 : Int32) (l2 : Int32) (st : St)  (hf : fX3_plain_b126 rc l1 l2 st = some (r0, u0)) : G E WT x RX3 cX3_plain 4 (0, 0) st 126 [(0, .ref (eB E + 7)), (1, .int l1), (2, .int l2)] [] := by
  unfold fX3_plain_b126 at hf
  refine g_aload_n rfl 0 rfl dX3_plain_126 ?_
  refine g_get (j := 0) cok3 (by decide) (.ref (eB E + 8)) (Or.inl tw1_142) oS7 vS7_0 dX3_plain_127 ?_
  refine g_aload_n rfl 0 rfl dX3_plain_130 ?_
  refine g_get (j := 6) cok3 (by decide) (.int (sI st 7 6)) (Or.inl tw1_151) oS7 (fun _ => rfl) dX3_plain_131 ?_
  obtain ⟨h1, hf⟩ := chk_some hf
  refine g_baldj ((sI st 7 6).toNatClampNeg) rfl aS8 (ixb_in h1) dX3_plain_134 ?_
  refine g_istore_n rfl [(3, .int (sI st 8 ((sI st 7 6).toNatClampNeg))), (0, .ref (eB E + 7)), (1, .int l1), (2, .int l2)] (by decide) rfl dX3_plain_135 ?_
  refine g_aload_n rfl 1 rfl dX3_plain_136 ?_
  obtain ⟨q2, h3, hf⟩ := bnd_some hf
  refine g_callV0v (As := []) (rest := []) cok3 mok_X3_step tw3_18 tw3_20 ts2_4 oS7 B.1 (by omega) (kX3_step  h3) rfl rfl (Nat.le_of_ble_eq_true rfl) ⟨Nat.le_refl _, Nat.le_refl _⟩ dX3_plain_137 ?_
  refine g_aload_n rfl 1 rfl dX3_plain_140 ?_
  refine g_iload_n rfl 2 rfl dX3_plain_141 ?_
  obtain ⟨q4, h5, hf⟩ := bnd_some hf
  refine g_callV0i (As := [.int l1]) (rest := []) cok3 mok_X3_sum tw3_80 tw3_82 ts2_7 oS7 B.1 (by omega) (kX3_sum  h5) rfl rfl (Nat.le_of_ble_eq_true rfl) ⟨Nat.le_refl _, Nat.le_refl _⟩ dX3_plain_142 ?_
  refine g_if_ne 150 (by decide) dX3_plain_145 (fun h6 => ?_) (fun h6 => ?_)
  · rw [if_neg h6] at hf
    refine g_aload_n rfl 1 rfl dX3_plain_150 ?_
    refine g_get (j := 1) cok3 (by decide) (.ref (eB E + 9)) (Or.inl tw1_144) oS7 vS7_1 dX3_plain_151 ?_
    refine g_iload_n rfl 0 rfl dX3_plain_154 ?_
    obtain ⟨q7, h8, hf⟩ := bnd_some hf
    refine g_callVN0v (As := [.int (sI st 8 ((sI st 7 6).toNatClampNeg))]) (rest := []) cok5 mok_X5_put nmm_22 tw3_96 ts2_10 oS9 B.1 (by omega) (kX5_put  h8) rfl rfl (Nat.le_of_ble_eq_true rfl) ⟨Nat.le_refl _, Nat.le_refl _⟩ dX3_plain_155 ?_
    refine g_lvs [1, 3] rfl ?_
    exact wX3_plain_b158 hrc B  l2 q7 hf
  · rw [if_pos h6] at hf
    refine g_iconst (0 : Int32) (by decide) dX3_plain_148 ?_
    exact g_zret B.2.2.2 B.2.2.1 (by decide) (congrArg (fun z => some (Value.int z)) (Prod.mk.inj (Option.some.inj hf)).1.symm) (Prod.mk.inj (Option.some.inj hf)).2.symm dX3_plain_149
def fX3_plain_b40 (rc : TG4) (l1 : Int32) (l2 : Int32) (st : St) : Option (Int32 × St) :=
  (fX3_isSign st (40 : Int32)).bind (fun q1 => if q1 = 0 then ((fX3_sum l1 st).bind (fun q4 => if q4.1 = 0 then (some ((0 : Int32), q4.2)) else ((fX3_isSign q4.2 (60 : Int32)).bind (fun q7 => if q7 = 0 then ((fX3_isSign q4.2 (62 : Int32)).bind (fun q10 => if q10 = 0 then ((fX3_isSign q4.2 (61 : Int32)).bind (fun q13 => if q13 = 0 then (some ((0 : Int32), q4.2)) else (fX3_plain_b126 rc l1 l2 q4.2))) else (fX3_plain_b126 rc l1 l2 q4.2))) else (fX3_plain_b126 rc l1 l2 q4.2))))) else (if l1 < (8 : Int32) then ((fX3_step st).bind (fun q17 => (rc.1 (l1 + (1 : Int32)) q17).bind (fun q19 => if q19.1 = 0 then (some ((0 : Int32), q19.2)) else ((fX3_isSign q19.2 (41 : Int32)).bind (fun q22 => if q22 = 0 then (some ((0 : Int32), q19.2)) else ((fX3_step q19.2).bind (fun q25 => fX3_plain_b158 rc l2 q25))))))) else (some ((0 : Int32), st))))
set_option maxHeartbeats 1000000 in
set_option maxRecDepth 20000 in
theorem wX3_plain_b40 {E : Ev} {x : Cx} {rc : TG4} {d : Nat} (hrc : RcOK4 (xl x) E rc d) {r0 : Int32} {u0 : St} (B : Bd E x (some FieldType.boolean) (106 + d + 1) 0 0 (some (.int r0)) u0) (l1 : Int32) (l2 : Int32) (st : St)  (hf : fX3_plain_b40 rc l1 l2 st = some (r0, u0)) : G E WT x RX3 cX3_plain 4 (0, 0) st 40 [(0, .ref (eB E + 7)), (1, .int l1), (2, .int l2)] [] := by
  unfold fX3_plain_b40 at hf
  refine g_aload_n rfl 0 rfl dX3_plain_40 ?_
  refine g_bipush (40 : Int32) (by decide) dX3_plain_41 ?_
  obtain ⟨q1, h2, hf⟩ := bnd_some hf
  refine g_callV0i (As := [.int (40 : Int32)]) (rest := []) cok3 mok_X3_isSign tw3_88 tw3_90 ts2_9 oS7 B.1 (by omega) (kX3_isSign  h2) rfl rfl (Nat.le_of_ble_eq_true rfl) ⟨Nat.le_refl _, Nat.le_refl _⟩ dX3_plain_43 ?_
  refine g_if_eq 89 (by decide) dX3_plain_46 (fun h3 => ?_) (fun h3 => ?_)
  · rw [if_pos h3] at hf
    refine g_aload_n rfl 0 rfl dX3_plain_89 ?_
    refine g_iload_n rfl 1 rfl dX3_plain_90 ?_
    obtain ⟨q4, h5, hf⟩ := bnd_some hf
    refine g_callV0i (As := [.int l1]) (rest := []) cok3 mok_X3_sum tw3_80 tw3_82 ts2_7 oS7 B.1 (by omega) (kX3_sum  h5) rfl rfl (Nat.le_of_ble_eq_true rfl) ⟨Nat.le_refl _, Nat.le_refl _⟩ dX3_plain_91 ?_
    refine g_if_eq 124 (by decide) dX3_plain_94 (fun h6 => ?_) (fun h6 => ?_)
    · rw [if_pos h6] at hf
      refine g_iconst (0 : Int32) (by decide) dX3_plain_124 ?_
      exact g_zret B.2.2.2 B.2.2.1 (by decide) (congrArg (fun z => some (Value.int z)) (Prod.mk.inj (Option.some.inj hf)).1.symm) (Prod.mk.inj (Option.some.inj hf)).2.symm dX3_plain_125
    · rw [if_neg h6] at hf
      refine g_aload_n rfl 0 rfl dX3_plain_97 ?_
      refine g_bipush (60 : Int32) (by decide) dX3_plain_98 ?_
      obtain ⟨q7, h8, hf⟩ := bnd_some hf
      refine g_callV0i (As := [.int (60 : Int32)]) (rest := []) cok3 mok_X3_isSign tw3_88 tw3_90 ts2_9 oS7 B.1 (by omega) (kX3_isSign  h8) rfl rfl (Nat.le_of_ble_eq_true rfl) ⟨Nat.le_refl _, Nat.le_refl _⟩ dX3_plain_100 ?_
      refine g_if_ne 126 (by decide) dX3_plain_103 (fun h9 => ?_) (fun h9 => ?_)
      · rw [if_neg h9] at hf
        refine g_lvs [0, 1, 2] rfl ?_
        exact wX3_plain_b126 hrc B  l1 l2 q4.2 hf
      · rw [if_pos h9] at hf
        refine g_aload_n rfl 0 rfl dX3_plain_106 ?_
        refine g_bipush (62 : Int32) (by decide) dX3_plain_107 ?_
        obtain ⟨q10, h11, hf⟩ := bnd_some hf
        refine g_callV0i (As := [.int (62 : Int32)]) (rest := []) cok3 mok_X3_isSign tw3_88 tw3_90 ts2_9 oS7 B.1 (by omega) (kX3_isSign  h11) rfl rfl (Nat.le_of_ble_eq_true rfl) ⟨Nat.le_refl _, Nat.le_refl _⟩ dX3_plain_109 ?_
        refine g_if_ne 126 (by decide) dX3_plain_112 (fun h12 => ?_) (fun h12 => ?_)
        · rw [if_neg h12] at hf
          refine g_lvs [0, 1, 2] rfl ?_
          exact wX3_plain_b126 hrc B  l1 l2 q4.2 hf
        · rw [if_pos h12] at hf
          refine g_aload_n rfl 0 rfl dX3_plain_115 ?_
          refine g_bipush (61 : Int32) (by decide) dX3_plain_116 ?_
          obtain ⟨q13, h14, hf⟩ := bnd_some hf
          refine g_callV0i (As := [.int (61 : Int32)]) (rest := []) cok3 mok_X3_isSign tw3_88 tw3_90 ts2_9 oS7 B.1 (by omega) (kX3_isSign  h14) rfl rfl (Nat.le_of_ble_eq_true rfl) ⟨Nat.le_refl _, Nat.le_refl _⟩ dX3_plain_118 ?_
          refine g_if_ne 126 (by decide) dX3_plain_121 (fun h15 => ?_) (fun h15 => ?_)
          · rw [if_neg h15] at hf
            refine g_lvs [0, 1, 2] rfl ?_
            exact wX3_plain_b126 hrc B  l1 l2 q4.2 hf
          · rw [if_pos h15] at hf
            refine g_iconst (0 : Int32) (by decide) dX3_plain_124 ?_
            exact g_zret B.2.2.2 B.2.2.1 (by decide) (congrArg (fun z => some (Value.int z)) (Prod.mk.inj (Option.some.inj hf)).1.symm) (Prod.mk.inj (Option.some.inj hf)).2.symm dX3_plain_125
  · rw [if_neg h3] at hf
    refine g_iload_n rfl 1 rfl dX3_plain_49 ?_
    refine g_bipush (8 : Int32) (by decide) dX3_plain_50 ?_
    refine g_icmp_lt 57 (by decide) dX3_plain_52 (fun h16 => ?_) (fun h16 => ?_)
    · rw [if_pos h16] at hf
      refine g_aload_n rfl 0 rfl dX3_plain_57 ?_
      obtain ⟨q17, h18, hf⟩ := bnd_some hf
      refine g_callV0v (As := []) (rest := []) cok3 mok_X3_step tw3_18 tw3_20 ts2_4 oS7 B.1 (by omega) (kX3_step  h18) rfl rfl (Nat.le_of_ble_eq_true rfl) ⟨Nat.le_refl _, Nat.le_refl _⟩ dX3_plain_58 ?_
      refine g_aload_n rfl 0 rfl dX3_plain_61 ?_
      refine g_iload_n rfl 1 rfl dX3_plain_62 ?_
      refine g_iconst (1 : Int32) (by decide) dX3_plain_63 ?_
      refine g_iadd dX3_plain_64 ?_
      obtain ⟨q19, h20, hf⟩ := bnd_some hf
      refine g_callV0i (As := [.int (l1 + (1 : Int32))]) (rest := []) cok3 mok_X3_test tw3_100 tw3_102 ts2_11 oS7 B.1 (by omega) (hrc.1 h20) rfl rfl (Nat.le_of_ble_eq_true rfl) ⟨Nat.le_refl _, Nat.le_refl _⟩ dX3_plain_65 ?_
      refine g_if_eq 80 (by decide) dX3_plain_68 (fun h21 => ?_) (fun h21 => ?_)
      · rw [if_pos h21] at hf
        refine g_iconst (0 : Int32) (by decide) dX3_plain_80 ?_
        exact g_zret B.2.2.2 B.2.2.1 (by decide) (congrArg (fun z => some (Value.int z)) (Prod.mk.inj (Option.some.inj hf)).1.symm) (Prod.mk.inj (Option.some.inj hf)).2.symm dX3_plain_81
      · rw [if_neg h21] at hf
        refine g_aload_n rfl 0 rfl dX3_plain_71 ?_
        refine g_bipush (41 : Int32) (by decide) dX3_plain_72 ?_
        obtain ⟨q22, h23, hf⟩ := bnd_some hf
        refine g_callV0i (As := [.int (41 : Int32)]) (rest := []) cok3 mok_X3_isSign tw3_88 tw3_90 ts2_9 oS7 B.1 (by omega) (kX3_isSign  h23) rfl rfl (Nat.le_of_ble_eq_true rfl) ⟨Nat.le_refl _, Nat.le_refl _⟩ dX3_plain_74 ?_
        refine g_if_ne 82 (by decide) dX3_plain_77 (fun h24 => ?_) (fun h24 => ?_)
        · rw [if_neg h24] at hf
          refine g_aload_n rfl 0 rfl dX3_plain_82 ?_
          obtain ⟨q25, h26, hf⟩ := bnd_some hf
          refine g_callV0v (As := []) (rest := []) cok3 mok_X3_step tw3_18 tw3_20 ts2_4 oS7 B.1 (by omega) (kX3_step  h26) rfl rfl (Nat.le_of_ble_eq_true rfl) ⟨Nat.le_refl _, Nat.le_refl _⟩ dX3_plain_83 ?_
          refine g_goto 158 (by decide) dX3_plain_86 ?_
          refine g_lvs [0, 2] rfl ?_
          exact wX3_plain_b158 hrc B  l2 q25 hf
        · rw [if_pos h24] at hf
          refine g_iconst (0 : Int32) (by decide) dX3_plain_80 ?_
          exact g_zret B.2.2.2 B.2.2.1 (by decide) (congrArg (fun z => some (Value.int z)) (Prod.mk.inj (Option.some.inj hf)).1.symm) (Prod.mk.inj (Option.some.inj hf)).2.symm dX3_plain_81
    · rw [if_neg h16] at hf
      refine g_iconst (0 : Int32) (by decide) dX3_plain_55 ?_
      exact g_zret B.2.2.2 B.2.2.1 (by decide) (congrArg (fun z => some (Value.int z)) (Prod.mk.inj (Option.some.inj hf)).1.symm) (Prod.mk.inj (Option.some.inj hf)).2.symm dX3_plain_56
def fX3_plain_b29 (rc : TG4) (k4 : Int32 → Int32 → Int32 → St → Option (Int32 × St))(l1 : Int32) (l3 : Int32) (s0 : Int32) (st : St) : Option (Int32 × St) :=
  (fX3_step st).bind (fun q1 => k4 l1 s0 (l3 + (1 : Int32)) q1)
set_option maxHeartbeats 1000000 in
set_option maxRecDepth 20000 in
theorem wX3_plain_b29 {E : Ev} {x : Cx} {rc : TG4} {d : Nat} (hrc : RcOK4 (xl x) E rc d) {r0 : Int32} {u0 : St} (B : Bd E x (some FieldType.boolean) (106 + d + 1) 0 0 (some (.int r0)) u0) {k4 : Int32 → Int32 → Int32 → St → Option (Int32 × St)} (hk4 : ∀ (l1 : Int32) (l2 : Int32) (l3 : Int32) (st : St), k4 l1 l2 l3 st = some (r0, u0) → G E WT x RX3 cX3_plain 4 (0, 0) st 4 [(0, .ref (eB E + 7)), (1, .int l1), (2, .int l2), (3, .int l3)] []) (l1 : Int32) (l3 : Int32) (s0 : Int32) (st : St)  (hf : fX3_plain_b29 rc k4 l1 l3 s0 st = some (r0, u0)) : G E WT x RX3 cX3_plain 4 (0, 0) st 29 [(0, .ref (eB E + 7)), (1, .int l1), (3, .int l3)] [.int s0] := by
  unfold fX3_plain_b29 at hf
  refine g_istore_n rfl [(2, .int s0), (0, .ref (eB E + 7)), (1, .int l1), (3, .int l3)] (by decide) rfl dX3_plain_29 ?_
  refine g_aload_n rfl 1 rfl dX3_plain_30 ?_
  obtain ⟨q1, h2, hf⟩ := bnd_some hf
  refine g_callV0v (As := []) (rest := []) cok3 mok_X3_step tw3_18 tw3_20 ts2_4 oS7 B.1 (by omega) (kX3_step  h2) rfl rfl (Nat.le_of_ble_eq_true rfl) ⟨Nat.le_refl _, Nat.le_refl _⟩ dX3_plain_31 ?_
  refine g_iinc (l3 + (1 : Int32)) [(3, .int (l3 + (1 : Int32))), (2, .int s0), (0, .ref (eB E + 7)), (1, .int l1)] 3 rfl (congrArg (fun z => l3 + z) (show Int32.ofInt (1) = (1 : Int32) by decide)) (by decide) rfl dX3_plain_34 ?_
  refine g_goto 4 (by decide) dX3_plain_37 ?_
  refine g_lvs [2, 3, 1, 0] rfl ?_
  exact hk4 l1 s0 (l3 + (1 : Int32)) q1 hf
def fX3_plain_b4 (rc : TG4)  : Nat → Int32 → Int32 → Int32 → St → Option (Int32 × St)
  | 0, _, _, _, _ => none
  | n + 1, l1, l2, l3, st => if (400 : Int32) ≤ l3 then (fX3_plain_b40 rc l1 l2 st) else ((fX3_which st 6).bind (fun q2 => if q2 = 0 then (if l2 = 0 then (fX3_plain_b29 rc (fun zl1 zl2 zl3 zst => fX3_plain_b4 rc n zl1 zl2 zl3 zst) l1 l3 (1 : Int32) st) else (fX3_plain_b29 rc (fun zl1 zl2 zl3 zst => fX3_plain_b4 rc n zl1 zl2 zl3 zst) l1 l3 (0 : Int32) st)) else (fX3_plain_b40 rc l1 l2 st)))
set_option maxHeartbeats 1000000 in
set_option maxRecDepth 20000 in
theorem wX3_plain_b4 {E : Ev} {x : Cx} {rc : TG4} {d : Nat} (hrc : RcOK4 (xl x) E rc d) {r0 : Int32} {u0 : St} (B : Bd E x (some FieldType.boolean) (106 + d + 1) 0 0 (some (.int r0)) u0) : ∀ (n : Nat) (l1 : Int32) (l2 : Int32) (l3 : Int32) (st : St) , fX3_plain_b4 rc n l1 l2 l3 st = some (r0, u0) → G E WT x RX3 cX3_plain 4 (0, 0) st 4 [(0, .ref (eB E + 7)), (1, .int l1), (2, .int l2), (3, .int l3)] [] := by
  intro n
  induction n with
  | zero =>
    intros
    rename_i hf
    rw [fX3_plain_b4] at hf
    cases hf
  | succ n ih =>
    intro l1 l2 l3 st hf
    rw [fX3_plain_b4] at hf
    refine g_iload_n rfl 3 rfl dX3_plain_4 ?_
    refine g_sipush (400 : Int32) (by decide) dX3_plain_5 ?_
    refine g_icmp_ge 40 (by decide) dX3_plain_8 (fun h1 => ?_) (fun h1 => ?_)
    · rw [if_pos h1] at hf
      refine g_lvs [0, 1, 2] rfl ?_
      exact wX3_plain_b40 hrc B  l1 l2 st hf
    · rw [if_neg h1] at hf
      refine g_aload_n rfl 0 rfl dX3_plain_11 ?_
      refine g_ldcS 6 (by decide) rfl dX3_plain_12 ?_
      obtain ⟨q2, h3, hf⟩ := bnd_some hf
      refine g_callV0i (As := [.ref (eSK E 6)]) (rest := []) cok3 mok_X3_which tw3_28 tw3_30 ts2_6 oS7 B.1 (by omega) (kX3_which (by decide) h3) rfl rfl (Nat.le_of_ble_eq_true rfl) ⟨Nat.le_refl _, Nat.le_refl _⟩ dX3_plain_14 ?_
      refine g_if_ne 40 (by decide) dX3_plain_17 (fun h4 => ?_) (fun h4 => ?_)
      · rw [if_neg h4] at hf
        refine g_lvs [0, 1, 2] rfl ?_
        exact wX3_plain_b40 hrc B  l1 l2 st hf
      · rw [if_pos h4] at hf
        refine g_iload_n rfl 2 rfl dX3_plain_20 ?_
        refine g_if_ne 28 (by decide) dX3_plain_21 (fun h5 => ?_) (fun h5 => ?_)
        · rw [if_neg h5] at hf
          refine g_iconst (0 : Int32) (by decide) dX3_plain_28 ?_
          refine g_lvs [0, 1, 3] rfl ?_
          exact wX3_plain_b29 hrc B ih l1 l3 (0 : Int32) st hf
        · rw [if_pos h5] at hf
          refine g_iconst (1 : Int32) (by decide) dX3_plain_24 ?_
          refine g_goto 29 (by decide) dX3_plain_25 ?_
          refine g_lvs [0, 1, 3] rfl ?_
          exact wX3_plain_b29 hrc B ih l1 l3 (1 : Int32) st hf
def fX3_plain_g (rc : TG4) (p1 : Int32) (st : St) : Option (Int32 × St) :=
  fX3_plain_b4 rc FU p1 (0 : Int32) (0 : Int32) st
set_option maxHeartbeats 1000000 in
set_option maxRecDepth 20000 in
theorem wX3_plain {E : Ev} {x : Cx} {rc : TG4} {d : Nat} (hrc : RcOK4 (xl x) E rc d) {r0 : Int32} {u0 : St} (B : Bd E x (some FieldType.boolean) (106 + d + 1) 0 0 (some (.int r0)) u0) (p1 : Int32) (st : St)  (hf : fX3_plain_g rc p1 st = some (r0, u0)) : G E WT x RX3 cX3_plain 4 (0, 0) st 0 [(0, .ref (eB E + 7)), (1, .int p1)] [] := by
  unfold fX3_plain_g at hf
  refine g_iconst (0 : Int32) (by decide) dX3_plain_0 ?_
  refine g_istore_n rfl [(2, .int (0 : Int32)), (0, .ref (eB E + 7)), (1, .int p1)] (by decide) rfl dX3_plain_1 ?_
  refine g_iconst (0 : Int32) (by decide) dX3_plain_2 ?_
  refine g_istore_n rfl [(3, .int (0 : Int32)), (2, .int (0 : Int32)), (0, .ref (eB E + 7)), (1, .int p1)] (by decide) rfl dX3_plain_3 ?_
  refine g_lvs [2, 3, 1, 0] rfl ?_
  exact wX3_plain_b4 hrc B  FU p1 (0 : Int32) (0 : Int32) st hf
def LG4 : Nat → TG4
  | 0 => (fun _ _ => none, fun _ _ => none)
  | d + 1 => (fX3_test_g (LG4 d), fX3_plain_g (LG4 d))
theorem okLG4 (l : Launch) (E : Ev) : ∀ d, RcOK4 l E (LG4 d) d := by
  intro d
  induction d with
  | zero => exact ⟨(fun h => nomatch h), (fun h => nomatch h)⟩
  | succ d ih => exact ⟨fun {st} {p1} {r0} {u0} hf => CM.intro mok_X3_test (Nat.le_of_ble_eq_true rfl) (fun x hl hR ht hr hQ _ => by subst hl; exact wX3_test ih ⟨hR, ht, hr, hQ⟩ p1 st hf),
    fun {st} {p1} {r0} {u0} hf => CM.intro mok_X3_plain (Nat.le_of_ble_eq_true rfl) (fun x hl hR ht hr hQ _ => by subst hl; exact wX3_plain ih ⟨hR, ht, hr, hQ⟩ p1 st hf)⟩
def fX3_test (p1 : Int32) (st : St) : Option (Int32 × St) := (LG4 100).1 p1 st
theorem kX3_test {l : Launch} {E : Ev} {st : St} {p1 : Int32} {r0 : Int32} {u0 : St} (hf : fX3_test p1 st = some (r0, u0)) : CM l E WT yX3_test cX3_test 6 (some FieldType.boolean) 206 0 0 [.ref (eB E + 7), .int p1] st (some (.int r0)) u0 := (okLG4 l E 100).1 hf
def fX3_plain (p1 : Int32) (st : St) : Option (Int32 × St) := (LG4 100).2 p1 st
theorem kX3_plain {l : Launch} {E : Ev} {st : St} {p1 : Int32} {r0 : Int32} {u0 : St} (hf : fX3_plain p1 st = some (r0, u0)) : CM l E WT yX3_plain cX3_plain 4 (some FieldType.boolean) 206 0 0 [.ref (eB E + 7), .int p1] st (some (.int r0)) u0 := (okLG4 l E 100).2 hf
def fX3_clause_b212 (l1 : Int32) (st : St) : Option (Int32 × St) :=
  (fX3_which st 5).bind (fun q1 => if q1 = 0 then ((fX3_step st).bind (fun q4 => chk (ixb l1 12) ((fX3_test (0 : Int32) (pI q4 13 l1.toNatClampNeg (sI q4 9 6))).bind (fun q7 => if q7.1 = 0 then (some ((0 : Int32), q7.2)) else ((fX5_put (0 : Int32) q7.2).bind (fun q10 => some ((1 : Int32), q10))))))) else (some ((1 : Int32), st)))
set_option maxHeartbeats 1000000 in
set_option maxRecDepth 20000 in
theorem wX3_clause_b212 {E : Ev} {x : Cx} {r0 : Int32} {u0 : St} (B : Bd E x (some FieldType.boolean) (207) 0 0 (some (.int r0)) u0) (l1 : Int32) (st : St)  (hf : fX3_clause_b212 l1 st = some (r0, u0)) : G E WT x RX3 cX3_clause 3 (0, 0) st 212 [(0, .ref (eB E + 7)), (1, .int l1)] [] := by
  unfold fX3_clause_b212 at hf
  refine g_aload_n rfl 0 rfl dX3_clause_212 ?_
  refine g_ldcS 5 (by decide) rfl dX3_clause_213 ?_
  obtain ⟨q1, h2, hf⟩ := bnd_some hf
  refine g_callV0i (As := [.ref (eSK E 5)]) (rest := []) cok3 mok_X3_which tw3_28 tw3_30 ts2_6 oS7 B.1 (by decide) (kX3_which (by decide) h2) rfl rfl (Nat.le_of_ble_eq_true rfl) ⟨Nat.le_refl _, Nat.le_refl _⟩ dX3_clause_215 ?_
  refine g_if_ne 259 (by decide) dX3_clause_218 (fun h3 => ?_) (fun h3 => ?_)
  · rw [if_neg h3] at hf
    refine g_iconst (1 : Int32) (by decide) dX3_clause_259 ?_
    exact g_zret B.2.2.2 B.2.2.1 (by decide) (congrArg (fun z => some (Value.int z)) (Prod.mk.inj (Option.some.inj hf)).1.symm) (Prod.mk.inj (Option.some.inj hf)).2.symm dX3_clause_260
  · rw [if_pos h3] at hf
    refine g_aload_n rfl 0 rfl dX3_clause_221 ?_
    obtain ⟨q4, h5, hf⟩ := bnd_some hf
    refine g_callV0v (As := []) (rest := []) cok3 mok_X3_step tw3_18 tw3_20 ts2_4 oS7 B.1 (by decide) (kX3_step  h5) rfl rfl (Nat.le_of_ble_eq_true rfl) ⟨Nat.le_refl _, Nat.le_refl _⟩ dX3_clause_222 ?_
    refine g_aload_n rfl 0 rfl dX3_clause_225 ?_
    refine g_get (j := 1) cok3 (by decide) (.ref (eB E + 9)) (Or.inl tw1_144) oS7 vS7_1 dX3_clause_226 ?_
    refine g_get (j := 3) cok5 (by decide) (.ref (eB E + 13)) (Or.inr nf_29) oS9 vS9_3 dX3_clause_229 ?_
    refine g_iload_n rfl 1 rfl dX3_clause_232 ?_
    refine g_aload_n rfl 0 rfl dX3_clause_233 ?_
    refine g_get (j := 1) cok3 (by decide) (.ref (eB E + 9)) (Or.inl tw1_144) oS7 vS7_1 dX3_clause_234 ?_
    refine g_get (j := 6) cok5 (by decide) (.int (sI q4 9 6)) (Or.inr nf_35) oS9 (fun _ => rfl) dX3_clause_237 ?_
    obtain ⟨h6, hf⟩ := chk_some hf
    refine g_iastj l1.toNatClampNeg rfl aS13 (ixb_in h6) B.2.1 wpI dX3_clause_240 ?_
    refine g_aload_n rfl 0 rfl dX3_clause_241 ?_
    refine g_iconst (0 : Int32) (by decide) dX3_clause_242 ?_
    obtain ⟨q7, h8, hf⟩ := bnd_some hf
    refine g_callV0i (As := [.int (0 : Int32)]) (rest := []) cok3 mok_X3_test tw3_100 tw3_102 ts2_11 oS7 B.1 (by decide) (kX3_test  h8) rfl rfl (Nat.le_of_ble_eq_true rfl) ⟨Nat.le_refl _, Nat.le_refl _⟩ dX3_clause_243 ?_
    refine g_if_ne 251 (by decide) dX3_clause_246 (fun h9 => ?_) (fun h9 => ?_)
    · rw [if_neg h9] at hf
      refine g_aload_n rfl 0 rfl dX3_clause_251 ?_
      refine g_get (j := 1) cok3 (by decide) (.ref (eB E + 9)) (Or.inl tw1_144) oS7 vS7_1 dX3_clause_252 ?_
      refine g_iconst (0 : Int32) (by decide) dX3_clause_255 ?_
      obtain ⟨q10, h11, hf⟩ := bnd_some hf
      refine g_callVN0v (As := [.int (0 : Int32)]) (rest := []) cok5 mok_X5_put nmm_22 tw3_96 ts2_10 oS9 B.1 (by decide) (kX5_put  h11) rfl rfl (Nat.le_of_ble_eq_true rfl) ⟨Nat.le_refl _, Nat.le_refl _⟩ dX3_clause_256 ?_
      refine g_iconst (1 : Int32) (by decide) dX3_clause_259 ?_
      exact g_zret B.2.2.2 B.2.2.1 (by decide) (congrArg (fun z => some (Value.int z)) (Prod.mk.inj (Option.some.inj hf)).1.symm) (Prod.mk.inj (Option.some.inj hf)).2.symm dX3_clause_260
    · rw [if_pos h9] at hf
      refine g_iconst (0 : Int32) (by decide) dX3_clause_249 ?_
      exact g_zret B.2.2.2 B.2.2.1 (by decide) (congrArg (fun z => some (Value.int z)) (Prod.mk.inj (Option.some.inj hf)).1.symm) (Prod.mk.inj (Option.some.inj hf)).2.symm dX3_clause_250
def fX3_clause_b148 (l1 : Int32) (st : St) : Option (Int32 × St) :=
  if (sI st 7 3) = 0 then ((fX3_which st 4).bind (fun q2 => if q2 = 0 then ((fX3_step st).bind (fun q5 => if (sI q5 7 5) = (3 : Int32) then (if (sI q5 7 8) < (1 : Int32) then (some ((0 : Int32), q5)) else (if (sI q5 7 8) ≤ (20 : Int32) then (chk (ixb l1 12) ((fX3_step (pI q5 11 l1.toNatClampNeg (sI q5 7 8))).bind (fun q11 => fX3_clause_b212 l1 q11))) else (some ((0 : Int32), q5)))) else (some ((0 : Int32), q5)))) else (fX3_clause_b212 l1 st))) else (fX3_clause_b212 l1 st)
set_option maxHeartbeats 1000000 in
set_option maxRecDepth 20000 in
theorem wX3_clause_b148 {E : Ev} {x : Cx} {r0 : Int32} {u0 : St} (B : Bd E x (some FieldType.boolean) (207) 0 0 (some (.int r0)) u0) (l1 : Int32) (st : St)  (hf : fX3_clause_b148 l1 st = some (r0, u0)) : G E WT x RX3 cX3_clause 3 (0, 0) st 148 [(0, .ref (eB E + 7)), (1, .int l1)] [] := by
  unfold fX3_clause_b148 at hf
  refine g_aload_n rfl 0 rfl dX3_clause_148 ?_
  refine g_get (j := 3) cok3 (by decide) (.int (sI st 7 3)) (Or.inl tw1_148) oS7 (fun _ => rfl) dX3_clause_149 ?_
  refine g_if_ne 212 (by decide) dX3_clause_152 (fun h1 => ?_) (fun h1 => ?_)
  · rw [if_neg h1] at hf
    refine g_lvs [0, 1] rfl ?_
    exact wX3_clause_b212 B  l1 st hf
  · rw [if_pos h1] at hf
    refine g_aload_n rfl 0 rfl dX3_clause_155 ?_
    refine g_ldcS 4 (by decide) rfl dX3_clause_156 ?_
    obtain ⟨q2, h3, hf⟩ := bnd_some hf
    refine g_callV0i (As := [.ref (eSK E 4)]) (rest := []) cok3 mok_X3_which tw3_28 tw3_30 ts2_6 oS7 B.1 (by decide) (kX3_which (by decide) h3) rfl rfl (Nat.le_of_ble_eq_true rfl) ⟨Nat.le_refl _, Nat.le_refl _⟩ dX3_clause_158 ?_
    refine g_if_ne 212 (by decide) dX3_clause_161 (fun h4 => ?_) (fun h4 => ?_)
    · rw [if_neg h4] at hf
      refine g_lvs [0, 1] rfl ?_
      exact wX3_clause_b212 B  l1 st hf
    · rw [if_pos h4] at hf
      refine g_aload_n rfl 0 rfl dX3_clause_164 ?_
      obtain ⟨q5, h6, hf⟩ := bnd_some hf
      refine g_callV0v (As := []) (rest := []) cok3 mok_X3_step tw3_18 tw3_20 ts2_4 oS7 B.1 (by decide) (kX3_step  h6) rfl rfl (Nat.le_of_ble_eq_true rfl) ⟨Nat.le_refl _, Nat.le_refl _⟩ dX3_clause_165 ?_
      refine g_aload_n rfl 0 rfl dX3_clause_168 ?_
      refine g_get (j := 5) cok3 (by decide) (.int (sI q5 7 5)) (Or.inl tw1_150) oS7 (fun _ => rfl) dX3_clause_169 ?_
      refine g_iconst (3 : Int32) (by decide) dX3_clause_172 ?_
      refine g_icmp_ne 193 (by decide) dX3_clause_173 (fun h7 => ?_) (fun h7 => ?_)
      · rw [if_neg h7] at hf
        refine g_iconst (0 : Int32) (by decide) dX3_clause_193 ?_
        exact g_zret B.2.2.2 B.2.2.1 (by decide) (congrArg (fun z => some (Value.int z)) (Prod.mk.inj (Option.some.inj hf)).1.symm) (Prod.mk.inj (Option.some.inj hf)).2.symm dX3_clause_194
      · rw [if_pos h7] at hf
        refine g_aload_n rfl 0 rfl dX3_clause_176 ?_
        refine g_get (j := 8) cok3 (by decide) (.int (sI q5 7 8)) (Or.inl tw1_153) oS7 (fun _ => rfl) dX3_clause_177 ?_
        refine g_iconst (1 : Int32) (by decide) dX3_clause_180 ?_
        refine g_icmp_lt 193 (by decide) dX3_clause_181 (fun h8 => ?_) (fun h8 => ?_)
        · rw [if_pos h8] at hf
          refine g_iconst (0 : Int32) (by decide) dX3_clause_193 ?_
          exact g_zret B.2.2.2 B.2.2.1 (by decide) (congrArg (fun z => some (Value.int z)) (Prod.mk.inj (Option.some.inj hf)).1.symm) (Prod.mk.inj (Option.some.inj hf)).2.symm dX3_clause_194
        · rw [if_neg h8] at hf
          refine g_aload_n rfl 0 rfl dX3_clause_184 ?_
          refine g_get (j := 8) cok3 (by decide) (.int (sI q5 7 8)) (Or.inl tw1_153) oS7 (fun _ => rfl) dX3_clause_185 ?_
          refine g_bipush (20 : Int32) (by decide) dX3_clause_188 ?_
          refine g_icmp_le 195 (by decide) dX3_clause_190 (fun h9 => ?_) (fun h9 => ?_)
          · rw [if_pos h9] at hf
            refine g_aload_n rfl 0 rfl dX3_clause_195 ?_
            refine g_get (j := 1) cok3 (by decide) (.ref (eB E + 9)) (Or.inl tw1_144) oS7 vS7_1 dX3_clause_196 ?_
            refine g_get (j := 1) cok5 (by decide) (.ref (eB E + 11)) (Or.inr nf_24) oS9 vS9_1 dX3_clause_199 ?_
            refine g_iload_n rfl 1 rfl dX3_clause_202 ?_
            refine g_aload_n rfl 0 rfl dX3_clause_203 ?_
            refine g_get (j := 8) cok3 (by decide) (.int (sI q5 7 8)) (Or.inl tw1_153) oS7 (fun _ => rfl) dX3_clause_204 ?_
            obtain ⟨h10, hf⟩ := chk_some hf
            refine g_iastj l1.toNatClampNeg rfl aS11 (ixb_in h10) B.2.1 wpI dX3_clause_207 ?_
            refine g_aload_n rfl 0 rfl dX3_clause_208 ?_
            obtain ⟨q11, h12, hf⟩ := bnd_some hf
            refine g_callV0v (As := []) (rest := []) cok3 mok_X3_step tw3_18 tw3_20 ts2_4 oS7 B.1 (by decide) (kX3_step  h12) rfl rfl (Nat.le_of_ble_eq_true rfl) ⟨Nat.le_refl _, Nat.le_refl _⟩ dX3_clause_209 ?_
            refine g_lvs [0, 1] rfl ?_
            exact wX3_clause_b212 B  l1 q11 hf
          · rw [if_neg h9] at hf
            refine g_iconst (0 : Int32) (by decide) dX3_clause_193 ?_
            exact g_zret B.2.2.2 B.2.2.1 (by decide) (congrArg (fun z => some (Value.int z)) (Prod.mk.inj (Option.some.inj hf)).1.symm) (Prod.mk.inj (Option.some.inj hf)).2.symm dX3_clause_194
def fX3_clause_b114 (l1 : Int32) (st : St) : Option (Int32 × St) :=
  chk (ixb l1 12) ((fX3_sum (0 : Int32) (pI st 12 l1.toNatClampNeg (sI st 9 6))).bind (fun q2 => if q2.1 = 0 then (some ((0 : Int32), q2.2)) else ((fX5_put (0 : Int32) q2.2).bind (fun q5 => fX3_clause_b148 l1 q5))))
set_option maxHeartbeats 1000000 in
set_option maxRecDepth 20000 in
theorem wX3_clause_b114 {E : Ev} {x : Cx} {r0 : Int32} {u0 : St} (B : Bd E x (some FieldType.boolean) (207) 0 0 (some (.int r0)) u0) (l1 : Int32) (st : St)  (hf : fX3_clause_b114 l1 st = some (r0, u0)) : G E WT x RX3 cX3_clause 3 (0, 0) st 114 [(0, .ref (eB E + 7)), (1, .int l1)] [] := by
  unfold fX3_clause_b114 at hf
  refine g_aload_n rfl 0 rfl dX3_clause_114 ?_
  refine g_get (j := 1) cok3 (by decide) (.ref (eB E + 9)) (Or.inl tw1_144) oS7 vS7_1 dX3_clause_115 ?_
  refine g_get (j := 2) cok5 (by decide) (.ref (eB E + 12)) (Or.inr nf_26) oS9 vS9_2 dX3_clause_118 ?_
  refine g_iload_n rfl 1 rfl dX3_clause_121 ?_
  refine g_aload_n rfl 0 rfl dX3_clause_122 ?_
  refine g_get (j := 1) cok3 (by decide) (.ref (eB E + 9)) (Or.inl tw1_144) oS7 vS7_1 dX3_clause_123 ?_
  refine g_get (j := 6) cok5 (by decide) (.int (sI st 9 6)) (Or.inr nf_35) oS9 (fun _ => rfl) dX3_clause_126 ?_
  obtain ⟨h1, hf⟩ := chk_some hf
  refine g_iastj l1.toNatClampNeg rfl aS12 (ixb_in h1) B.2.1 wpI dX3_clause_129 ?_
  refine g_aload_n rfl 0 rfl dX3_clause_130 ?_
  refine g_iconst (0 : Int32) (by decide) dX3_clause_131 ?_
  obtain ⟨q2, h3, hf⟩ := bnd_some hf
  refine g_callV0i (As := [.int (0 : Int32)]) (rest := []) cok3 mok_X3_sum tw3_80 tw3_82 ts2_7 oS7 B.1 (by decide) (kX3_sum  h3) rfl rfl (Nat.le_of_ble_eq_true rfl) ⟨Nat.le_refl _, Nat.le_refl _⟩ dX3_clause_132 ?_
  refine g_if_ne 140 (by decide) dX3_clause_135 (fun h4 => ?_) (fun h4 => ?_)
  · rw [if_neg h4] at hf
    refine g_aload_n rfl 0 rfl dX3_clause_140 ?_
    refine g_get (j := 1) cok3 (by decide) (.ref (eB E + 9)) (Or.inl tw1_144) oS7 vS7_1 dX3_clause_141 ?_
    refine g_iconst (0 : Int32) (by decide) dX3_clause_144 ?_
    obtain ⟨q5, h6, hf⟩ := bnd_some hf
    refine g_callVN0v (As := [.int (0 : Int32)]) (rest := []) cok5 mok_X5_put nmm_22 tw3_96 ts2_10 oS9 B.1 (by decide) (kX5_put  h6) rfl rfl (Nat.le_of_ble_eq_true rfl) ⟨Nat.le_refl _, Nat.le_refl _⟩ dX3_clause_145 ?_
    refine g_lvs [0, 1] rfl ?_
    exact wX3_clause_b148 B  l1 q5 hf
  · rw [if_pos h4] at hf
    refine g_iconst (0 : Int32) (by decide) dX3_clause_138 ?_
    exact g_zret B.2.2.2 B.2.2.1 (by decide) (congrArg (fun z => some (Value.int z)) (Prod.mk.inj (Option.some.inj hf)).1.symm) (Prod.mk.inj (Option.some.inj hf)).2.symm dX3_clause_139
def fX3_clause_b15 (l1 : Int32) (s1 : Nat) (st : St) : Option (Int32 × St) :=
  (fX3_which st s1).bind (fun q1 => if q1 = (-1 : Int32) then (some ((0 : Int32), st)) else ((fX3_step st).bind (fun q4 => chk (ixb l1 12) (chk (ixb l1 12) (chk (ixb l1 12) (chk (ixb l1 12) (if (sI (pI (pI (pI (pI (pI (pI q4 10 l1.toNatClampNeg q1) 9 7 ((sI (pI q4 10 l1.toNatClampNeg q1) 9 7) ||| (jshl (1 : Int32) q1))) 11 l1.toNatClampNeg (1 : Int32)) 12 l1.toNatClampNeg (0 : Int32)) 13 l1.toNatClampNeg (0 : Int32)) 9 5 (l1 + (1 : Int32))) 7 3) = 0 then (if q1 = (3 : Int32) then (fX3_clause_b148 l1 (pI (pI (pI (pI (pI (pI q4 10 l1.toNatClampNeg q1) 9 7 ((sI (pI q4 10 l1.toNatClampNeg q1) 9 7) ||| (jshl (1 : Int32) q1))) 11 l1.toNatClampNeg (1 : Int32)) 12 l1.toNatClampNeg (0 : Int32)) 13 l1.toNatClampNeg (0 : Int32)) 9 5 (l1 + (1 : Int32)))) else (fX3_clause_b114 l1 (pI (pI (pI (pI (pI (pI q4 10 l1.toNatClampNeg q1) 9 7 ((sI (pI q4 10 l1.toNatClampNeg q1) 9 7) ||| (jshl (1 : Int32) q1))) 11 l1.toNatClampNeg (1 : Int32)) 12 l1.toNatClampNeg (0 : Int32)) 13 l1.toNatClampNeg (0 : Int32)) 9 5 (l1 + (1 : Int32))))) else (if q1 = 0 then (fX3_clause_b114 l1 (pI (pI (pI (pI (pI (pI q4 10 l1.toNatClampNeg q1) 9 7 ((sI (pI q4 10 l1.toNatClampNeg q1) 9 7) ||| (jshl (1 : Int32) q1))) 11 l1.toNatClampNeg (1 : Int32)) 12 l1.toNatClampNeg (0 : Int32)) 13 l1.toNatClampNeg (0 : Int32)) 9 5 (l1 + (1 : Int32)))) else (fX3_clause_b148 l1 (pI (pI (pI (pI (pI (pI q4 10 l1.toNatClampNeg q1) 9 7 ((sI (pI q4 10 l1.toNatClampNeg q1) 9 7) ||| (jshl (1 : Int32) q1))) 11 l1.toNatClampNeg (1 : Int32)) 12 l1.toNatClampNeg (0 : Int32)) 13 l1.toNatClampNeg (0 : Int32)) 9 5 (l1 + (1 : Int32))))))))))))
set_option maxHeartbeats 1000000 in
set_option maxRecDepth 20000 in
theorem wX3_clause_b15 {E : Ev} {x : Cx} {r0 : Int32} {u0 : St} (B : Bd E x (some FieldType.boolean) (207) 0 0 (some (.int r0)) u0) (l1 : Int32) (s1 : Nat) (st : St) (h_s1 : s1 < 9) (hf : fX3_clause_b15 l1 s1 st = some (r0, u0)) : G E WT x RX3 cX3_clause 3 (0, 0) st 15 [(0, .ref (eB E + 7)), (1, .int l1)] [.ref (eSK E s1), .ref (eB E + 7)] := by
  unfold fX3_clause_b15 at hf
  obtain ⟨q1, h2, hf⟩ := bnd_some hf
  refine g_callV0i (As := [.ref (eSK E s1)]) (rest := []) cok3 mok_X3_which tw3_28 tw3_30 ts2_6 oS7 B.1 (by decide) (kX3_which h_s1 h2) rfl rfl (Nat.le_of_ble_eq_true rfl) ⟨Nat.le_refl _, Nat.le_refl _⟩ dX3_clause_15 ?_
  refine g_istore_n rfl [(2, .int q1), (0, .ref (eB E + 7)), (1, .int l1)] (by decide) rfl dX3_clause_18 ?_
  refine g_iload_n rfl 0 rfl dX3_clause_19 ?_
  refine g_iconst (-1 : Int32) (by decide) dX3_clause_20 ?_
  refine g_icmp_ne 26 (by decide) dX3_clause_21 (fun h3 => ?_) (fun h3 => ?_)
  · rw [if_neg h3] at hf
    refine g_aload_n rfl 1 rfl dX3_clause_26 ?_
    obtain ⟨q4, h5, hf⟩ := bnd_some hf
    refine g_callV0v (As := []) (rest := []) cok3 mok_X3_step tw3_18 tw3_20 ts2_4 oS7 B.1 (by decide) (kX3_step  h5) rfl rfl (Nat.le_of_ble_eq_true rfl) ⟨Nat.le_refl _, Nat.le_refl _⟩ dX3_clause_27 ?_
    refine g_aload_n rfl 1 rfl dX3_clause_30 ?_
    refine g_get (j := 1) cok3 (by decide) (.ref (eB E + 9)) (Or.inl tw1_144) oS7 vS7_1 dX3_clause_31 ?_
    refine g_get (j := 0) cok5 (by decide) (.ref (eB E + 10)) (Or.inr nf_21) oS9 vS9_0 dX3_clause_34 ?_
    refine g_iload_n rfl 2 rfl dX3_clause_37 ?_
    refine g_iload_n rfl 0 rfl dX3_clause_38 ?_
    obtain ⟨h6, hf⟩ := chk_some hf
    refine g_iastj l1.toNatClampNeg rfl aS10 (ixb_in h6) B.2.1 wpI dX3_clause_39 ?_
    refine g_aload_n rfl 1 rfl dX3_clause_40 ?_
    refine g_get (j := 1) cok3 (by decide) (.ref (eB E + 9)) (Or.inl tw1_144) oS7 vS7_1 dX3_clause_41 ?_
    refine g_dup rfl dX3_clause_44 ?_
    refine g_get (j := 7) cok5 (by decide) (.int (sI (pI q4 10 l1.toNatClampNeg q1) 9 7)) (Or.inr nf_36) oS9 (fun _ => rfl) dX3_clause_45 ?_
    refine g_iconst (1 : Int32) (by decide) dX3_clause_48 ?_
    refine g_iload_n rfl 0 rfl dX3_clause_49 ?_
    refine g_ishl dX3_clause_50 ?_
    refine g_ior dX3_clause_51 ?_
    refine g_putI (j := 7) cok5 (by decide) rfl rfl rfl rfl (Or.inr nf_36) oS9 B.2.1 wpI dX3_clause_52 ?_
    refine g_aload_n rfl 1 rfl dX3_clause_55 ?_
    refine g_get (j := 1) cok3 (by decide) (.ref (eB E + 9)) (Or.inl tw1_144) oS7 vS7_1 dX3_clause_56 ?_
    refine g_get (j := 1) cok5 (by decide) (.ref (eB E + 11)) (Or.inr nf_24) oS9 vS9_1 dX3_clause_59 ?_
    refine g_iload_n rfl 2 rfl dX3_clause_62 ?_
    refine g_iconst (1 : Int32) (by decide) dX3_clause_63 ?_
    obtain ⟨h7, hf⟩ := chk_some hf
    refine g_iastj l1.toNatClampNeg rfl aS11 (ixb_in h7) B.2.1 wpI dX3_clause_64 ?_
    refine g_aload_n rfl 1 rfl dX3_clause_65 ?_
    refine g_get (j := 1) cok3 (by decide) (.ref (eB E + 9)) (Or.inl tw1_144) oS7 vS7_1 dX3_clause_66 ?_
    refine g_get (j := 2) cok5 (by decide) (.ref (eB E + 12)) (Or.inr nf_26) oS9 vS9_2 dX3_clause_69 ?_
    refine g_iload_n rfl 2 rfl dX3_clause_72 ?_
    refine g_iconst (0 : Int32) (by decide) dX3_clause_73 ?_
    obtain ⟨h8, hf⟩ := chk_some hf
    refine g_iastj l1.toNatClampNeg rfl aS12 (ixb_in h8) B.2.1 wpI dX3_clause_74 ?_
    refine g_aload_n rfl 1 rfl dX3_clause_75 ?_
    refine g_get (j := 1) cok3 (by decide) (.ref (eB E + 9)) (Or.inl tw1_144) oS7 vS7_1 dX3_clause_76 ?_
    refine g_get (j := 3) cok5 (by decide) (.ref (eB E + 13)) (Or.inr nf_29) oS9 vS9_3 dX3_clause_79 ?_
    refine g_iload_n rfl 2 rfl dX3_clause_82 ?_
    refine g_iconst (0 : Int32) (by decide) dX3_clause_83 ?_
    obtain ⟨h9, hf⟩ := chk_some hf
    refine g_iastj l1.toNatClampNeg rfl aS13 (ixb_in h9) B.2.1 wpI dX3_clause_84 ?_
    refine g_aload_n rfl 1 rfl dX3_clause_85 ?_
    refine g_get (j := 1) cok3 (by decide) (.ref (eB E + 9)) (Or.inl tw1_144) oS7 vS7_1 dX3_clause_86 ?_
    refine g_iload_n rfl 2 rfl dX3_clause_89 ?_
    refine g_iconst (1 : Int32) (by decide) dX3_clause_90 ?_
    refine g_iadd dX3_clause_91 ?_
    refine g_putI (j := 5) cok5 (by decide) rfl rfl rfl rfl (Or.inr nf_32) oS9 B.2.1 wpI dX3_clause_92 ?_
    refine g_aload_n rfl 1 rfl dX3_clause_95 ?_
    refine g_get (j := 3) cok3 (by decide) (.int (sI (pI (pI (pI (pI (pI (pI q4 10 l1.toNatClampNeg q1) 9 7 ((sI (pI q4 10 l1.toNatClampNeg q1) 9 7) ||| (jshl (1 : Int32) q1))) 11 l1.toNatClampNeg (1 : Int32)) 12 l1.toNatClampNeg (0 : Int32)) 13 l1.toNatClampNeg (0 : Int32)) 9 5 (l1 + (1 : Int32))) 7 3)) (Or.inl tw1_148) oS7 (fun _ => rfl) dX3_clause_96 ?_
    refine g_if_eq 109 (by decide) dX3_clause_99 (fun h10 => ?_) (fun h10 => ?_)
    · rw [if_pos h10] at hf
      refine g_iload_n rfl 0 rfl dX3_clause_109 ?_
      refine g_iconst (3 : Int32) (by decide) dX3_clause_110 ?_
      refine g_icmp_eq 148 (by decide) dX3_clause_111 (fun h11 => ?_) (fun h11 => ?_)
      · rw [if_pos h11] at hf
        refine g_lvs [1, 2] rfl ?_
        exact wX3_clause_b148 B  l1 (pI (pI (pI (pI (pI (pI q4 10 l1.toNatClampNeg q1) 9 7 ((sI (pI q4 10 l1.toNatClampNeg q1) 9 7) ||| (jshl (1 : Int32) q1))) 11 l1.toNatClampNeg (1 : Int32)) 12 l1.toNatClampNeg (0 : Int32)) 13 l1.toNatClampNeg (0 : Int32)) 9 5 (l1 + (1 : Int32))) hf
      · rw [if_neg h11] at hf
        refine g_lvs [1, 2] rfl ?_
        exact wX3_clause_b114 B  l1 (pI (pI (pI (pI (pI (pI q4 10 l1.toNatClampNeg q1) 9 7 ((sI (pI q4 10 l1.toNatClampNeg q1) 9 7) ||| (jshl (1 : Int32) q1))) 11 l1.toNatClampNeg (1 : Int32)) 12 l1.toNatClampNeg (0 : Int32)) 13 l1.toNatClampNeg (0 : Int32)) 9 5 (l1 + (1 : Int32))) hf
    · rw [if_neg h10] at hf
      refine g_iload_n rfl 0 rfl dX3_clause_102 ?_
      refine g_if_ne 148 (by decide) dX3_clause_103 (fun h12 => ?_) (fun h12 => ?_)
      · rw [if_neg h12] at hf
        refine g_lvs [1, 2] rfl ?_
        exact wX3_clause_b148 B  l1 (pI (pI (pI (pI (pI (pI q4 10 l1.toNatClampNeg q1) 9 7 ((sI (pI q4 10 l1.toNatClampNeg q1) 9 7) ||| (jshl (1 : Int32) q1))) 11 l1.toNatClampNeg (1 : Int32)) 12 l1.toNatClampNeg (0 : Int32)) 13 l1.toNatClampNeg (0 : Int32)) 9 5 (l1 + (1 : Int32))) hf
      · rw [if_pos h12] at hf
        refine g_goto 114 (by decide) dX3_clause_106 ?_
        refine g_lvs [1, 2] rfl ?_
        exact wX3_clause_b114 B  l1 (pI (pI (pI (pI (pI (pI q4 10 l1.toNatClampNeg q1) 9 7 ((sI (pI q4 10 l1.toNatClampNeg q1) 9 7) ||| (jshl (1 : Int32) q1))) 11 l1.toNatClampNeg (1 : Int32)) 12 l1.toNatClampNeg (0 : Int32)) 13 l1.toNatClampNeg (0 : Int32)) 9 5 (l1 + (1 : Int32))) hf
  · rw [if_pos h3] at hf
    refine g_iconst (0 : Int32) (by decide) dX3_clause_24 ?_
    exact g_zret B.2.2.2 B.2.2.1 (by decide) (congrArg (fun z => some (Value.int z)) (Prod.mk.inj (Option.some.inj hf)).1.symm) (Prod.mk.inj (Option.some.inj hf)).2.symm dX3_clause_25
def fX3_clause (p1 : Int32) (st : St) : Option (Int32 × St) :=
  if (sI st 7 3) = 0 then (fX3_clause_b15 p1 1 st) else (fX3_clause_b15 p1 0 st)
set_option maxHeartbeats 1000000 in
set_option maxRecDepth 20000 in
theorem wX3_clause {E : Ev} {x : Cx} {r0 : Int32} {u0 : St} (B : Bd E x (some FieldType.boolean) (207) 0 0 (some (.int r0)) u0) (p1 : Int32) (st : St)  (hf : fX3_clause p1 st = some (r0, u0)) : G E WT x RX3 cX3_clause 3 (0, 0) st 0 [(0, .ref (eB E + 7)), (1, .int p1)] [] := by
  unfold fX3_clause at hf
  refine g_aload_n rfl 0 rfl dX3_clause_0 ?_
  refine g_aload_n rfl 0 rfl dX3_clause_1 ?_
  refine g_get (j := 3) cok3 (by decide) (.int (sI st 7 3)) (Or.inl tw1_148) oS7 (fun _ => rfl) dX3_clause_2 ?_
  refine g_if_eq 13 (by decide) dX3_clause_5 (fun h1 => ?_) (fun h1 => ?_)
  · rw [if_pos h1] at hf
    refine g_ldcS 1 (by decide) rfl dX3_clause_13 ?_
    refine g_lvs [0, 1] rfl ?_
    exact wX3_clause_b15 B  p1 1 st (by decide) hf
  · rw [if_neg h1] at hf
    refine g_ldcS 0 (by decide) rfl dX3_clause_8 ?_
    refine g_goto 15 (by decide) dX3_clause_10 ?_
    refine g_lvs [0, 1] rfl ?_
    exact wX3_clause_b15 B  p1 0 st (by decide) hf
theorem kX3_clause {l : Launch} {E : Ev} {st : St} {p1 : Int32} {r0 : Int32} {u0 : St}  (hf : fX3_clause p1 st = some (r0, u0)) : CM l E WT yX3_clause cX3_clause 3 (some FieldType.boolean) 207 0 0 [.ref (eB E + 7), .int p1] st (some (.int r0)) u0 :=
  CM.intro mok_X3_clause (Nat.le_of_ble_eq_true rfl) (fun x hl hR ht hr hQ _ => wX3_clause ⟨hR, ht, hr, hQ⟩ p1 st hf)
def fX3_readAll_b79 (l2 : Int32) (st : St) : Option (Int32 × St) :=
  if l2 = 0 then (some (sI (pI st 7 2 (0 : Int32)) 7 6, pI st 7 2 (0 : Int32))) else (some ((-1 : Int32), pI st 7 2 (0 : Int32)))
set_option maxHeartbeats 1000000 in
set_option maxRecDepth 20000 in
theorem wX3_readAll_b79 {E : Ev} {x : Cx} {r0 : Int32} {u0 : St} (B : Bd E x (some FieldType.int) (208) 0 0 (some (.int r0)) u0) (l2 : Int32) (st : St)  (hf : fX3_readAll_b79 l2 st = some (r0, u0)) : G E WT x RX3 cX3_readAll 4 (0, 0) st 79 [(0, .ref (eB E + 7)), (2, .int l2)] [] := by
  unfold fX3_readAll_b79 at hf
  refine g_aload_n rfl 0 rfl dX3_readAll_79 ?_
  refine g_iconst (0 : Int32) (by decide) dX3_readAll_80 ?_
  refine g_putI (j := 2) cok3 (by decide) rfl rfl rfl rfl (Or.inl tw1_146) oS7 B.2.1 wpI dX3_readAll_81 ?_
  refine g_iload_n rfl 1 rfl dX3_readAll_84 ?_
  refine g_if_eq 92 (by decide) dX3_readAll_85 (fun h1 => ?_) (fun h1 => ?_)
  · rw [if_pos h1] at hf
    refine g_aload_n rfl 0 rfl dX3_readAll_92 ?_
    refine g_get (j := 6) cok3 (by decide) (.int (sI (pI st 7 2 (0 : Int32)) 7 6)) (Or.inl tw1_151) oS7 (fun _ => rfl) dX3_readAll_93 ?_
    exact g_iret B.2.2.2 B.2.2.1 (congrArg (fun z => some (Value.int z)) (Prod.mk.inj (Option.some.inj hf)).1.symm) (Prod.mk.inj (Option.some.inj hf)).2.symm dX3_readAll_96
  · rw [if_neg h1] at hf
    refine g_iconst (-1 : Int32) (by decide) dX3_readAll_88 ?_
    refine g_goto 96 (by decide) dX3_readAll_89 ?_
    exact g_iret B.2.2.2 B.2.2.1 (congrArg (fun z => some (Value.int z)) (Prod.mk.inj (Option.some.inj hf)).1.symm) (Prod.mk.inj (Option.some.inj hf)).2.symm dX3_readAll_96
def fX3_readAll_b56 (k30 : Int32 → Int32 → St → Option (Int32 × St))(l3 : Int32) (s0 : Int32) (st : St) : Option (Int32 × St) :=
  (fX3_isSign st (59 : Int32)).bind (fun q1 => if q1 = 0 then (fX3_readAll_b79 s0 st) else ((fX3_step st).bind (fun q4 => k30 s0 (l3 + (1 : Int32)) q4)))
set_option maxHeartbeats 1000000 in
set_option maxRecDepth 20000 in
theorem wX3_readAll_b56 {E : Ev} {x : Cx} {r0 : Int32} {u0 : St} (B : Bd E x (some FieldType.int) (208) 0 0 (some (.int r0)) u0) {k30 : Int32 → Int32 → St → Option (Int32 × St)} (hk30 : ∀ (l2 : Int32) (l3 : Int32) (st : St), k30 l2 l3 st = some (r0, u0) → G E WT x RX3 cX3_readAll 4 (0, 0) st 30 [(0, .ref (eB E + 7)), (2, .int l2), (3, .int l3)] []) (l3 : Int32) (s0 : Int32) (st : St)  (hf : fX3_readAll_b56 k30 l3 s0 st = some (r0, u0)) : G E WT x RX3 cX3_readAll 4 (0, 0) st 56 [(0, .ref (eB E + 7)), (3, .int l3)] [.int s0] := by
  unfold fX3_readAll_b56 at hf
  refine g_istore_n rfl [(2, .int s0), (0, .ref (eB E + 7)), (3, .int l3)] (by decide) rfl dX3_readAll_56 ?_
  refine g_aload_n rfl 1 rfl dX3_readAll_57 ?_
  refine g_bipush (59 : Int32) (by decide) dX3_readAll_58 ?_
  obtain ⟨q1, h2, hf⟩ := bnd_some hf
  refine g_callV0i (As := [.int (59 : Int32)]) (rest := []) cok3 mok_X3_isSign tw3_88 tw3_90 ts2_9 oS7 B.1 (by decide) (kX3_isSign  h2) rfl rfl (Nat.le_of_ble_eq_true rfl) ⟨Nat.le_refl _, Nat.le_refl _⟩ dX3_readAll_60 ?_
  refine g_if_ne 69 (by decide) dX3_readAll_63 (fun h3 => ?_) (fun h3 => ?_)
  · rw [if_neg h3] at hf
    refine g_aload_n rfl 1 rfl dX3_readAll_69 ?_
    obtain ⟨q4, h5, hf⟩ := bnd_some hf
    refine g_callV0v (As := []) (rest := []) cok3 mok_X3_step tw3_18 tw3_20 ts2_4 oS7 B.1 (by decide) (kX3_step  h5) rfl rfl (Nat.le_of_ble_eq_true rfl) ⟨Nat.le_refl _, Nat.le_refl _⟩ dX3_readAll_70 ?_
    refine g_iinc (l3 + (1 : Int32)) [(3, .int (l3 + (1 : Int32))), (2, .int s0), (0, .ref (eB E + 7))] 2 rfl (congrArg (fun z => l3 + z) (show Int32.ofInt (1) = (1 : Int32) by decide)) (by decide) rfl dX3_readAll_73 ?_
    refine g_goto 30 (by decide) dX3_readAll_76 ?_
    refine g_lvs [2, 1, 0] rfl ?_
    exact hk30 s0 (l3 + (1 : Int32)) q4 hf
  · rw [if_pos h3] at hf
    refine g_goto 79 (by decide) dX3_readAll_66 ?_
    refine g_lvs [1, 0] rfl ?_
    exact wX3_readAll_b79 B  s0 st hf
def fX3_readAll_b30 : Nat → Int32 → Int32 → St → Option (Int32 × St)
  | 0, _, _, _ => none
  | n + 1, l2, l3, st => if (12 : Int32) ≤ l3 then (fX3_readAll_b79 l2 st) else ((fX3_clause l3 st).bind (fun q2 => if q2.1 = 0 then (fX3_readAll_b79 l2 q2.2) else (if (sI q2.2 7 5) = 0 then (fX3_readAll_b56 (fun zl2 zl3 zst => fX3_readAll_b30 n zl2 zl3 zst) l3 (1 : Int32) q2.2) else (fX3_readAll_b56 (fun zl2 zl3 zst => fX3_readAll_b30 n zl2 zl3 zst) l3 (0 : Int32) q2.2))))
set_option maxHeartbeats 1000000 in
set_option maxRecDepth 20000 in
theorem wX3_readAll_b30 {E : Ev} {x : Cx} {r0 : Int32} {u0 : St} (B : Bd E x (some FieldType.int) (208) 0 0 (some (.int r0)) u0) : ∀ (n : Nat) (l2 : Int32) (l3 : Int32) (st : St) , fX3_readAll_b30 n l2 l3 st = some (r0, u0) → G E WT x RX3 cX3_readAll 4 (0, 0) st 30 [(0, .ref (eB E + 7)), (2, .int l2), (3, .int l3)] [] := by
  intro n
  induction n with
  | zero =>
    intros
    rename_i hf
    rw [fX3_readAll_b30] at hf
    cases hf
  | succ n ih =>
    intro l2 l3 st hf
    rw [fX3_readAll_b30] at hf
    refine g_iload_n rfl 2 rfl dX3_readAll_30 ?_
    refine g_bipush (12 : Int32) (by decide) dX3_readAll_31 ?_
    refine g_icmp_ge 79 (by decide) dX3_readAll_33 (fun h1 => ?_) (fun h1 => ?_)
    · rw [if_pos h1] at hf
      refine g_lvs [0, 1] rfl ?_
      exact wX3_readAll_b79 B  l2 st hf
    · rw [if_neg h1] at hf
      refine g_aload_n rfl 0 rfl dX3_readAll_36 ?_
      refine g_iload_n rfl 2 rfl dX3_readAll_37 ?_
      obtain ⟨q2, h3, hf⟩ := bnd_some hf
      refine g_callV0i (As := [.int l3]) (rest := []) cok3 mok_X3_clause tw3_22 tw3_24 ts2_5 oS7 B.1 (by decide) (kX3_clause  h3) rfl rfl (Nat.le_of_ble_eq_true rfl) ⟨Nat.le_refl _, Nat.le_refl _⟩ dX3_readAll_38 ?_
      refine g_if_eq 79 (by decide) dX3_readAll_41 (fun h4 => ?_) (fun h4 => ?_)
      · rw [if_pos h4] at hf
        refine g_lvs [0, 1] rfl ?_
        exact wX3_readAll_b79 B  l2 q2.2 hf
      · rw [if_neg h4] at hf
        refine g_aload_n rfl 0 rfl dX3_readAll_44 ?_
        refine g_get (j := 5) cok3 (by decide) (.int (sI q2.2 7 5)) (Or.inl tw1_150) oS7 (fun _ => rfl) dX3_readAll_45 ?_
        refine g_if_ne 55 (by decide) dX3_readAll_48 (fun h5 => ?_) (fun h5 => ?_)
        · rw [if_neg h5] at hf
          refine g_iconst (0 : Int32) (by decide) dX3_readAll_55 ?_
          refine g_lvs [0, 2] rfl ?_
          exact wX3_readAll_b56 B ih l3 (0 : Int32) q2.2 hf
        · rw [if_pos h5] at hf
          refine g_iconst (1 : Int32) (by decide) dX3_readAll_51 ?_
          refine g_goto 56 (by decide) dX3_readAll_52 ?_
          refine g_lvs [0, 2] rfl ?_
          exact wX3_readAll_b56 B ih l3 (1 : Int32) q2.2 hf
def fX3_readAll (p1 : Int32) (st : St) : Option (Int32 × St) :=
  chk (isb p1) ((fX5_clear (pI (pI (pI st 7 3 p1) 7 4 (0 : Int32)) 7 7 (0 : Int32))).bind (fun q2 => (fX3_step q2).bind (fun q4 => fX3_readAll_b30 FU (0 : Int32) (0 : Int32) q4)))
set_option maxHeartbeats 1000000 in
set_option maxRecDepth 20000 in
theorem wX3_readAll {E : Ev} {x : Cx} {r0 : Int32} {u0 : St} (B : Bd E x (some FieldType.int) (208) 0 0 (some (.int r0)) u0) (p1 : Int32) (st : St)  (hf : fX3_readAll p1 st = some (r0, u0)) : G E WT x RX3 cX3_readAll 4 (0, 0) st 0 [(0, .ref (eB E + 7)), (1, .int p1)] [] := by
  unfold fX3_readAll at hf
  refine g_aload_n rfl 0 rfl dX3_readAll_0 ?_
  refine g_iload_n rfl 1 rfl dX3_readAll_1 ?_
  obtain ⟨h1, hf⟩ := chk_some hf
  refine g_putI (j := 3) cok3 (by decide) rfl rfl (nb_n (isb_or h1)) (nb_f (isb_or h1)) (Or.inl tw1_148) oS7 B.2.1 wpI dX3_readAll_2 ?_
  refine g_aload_n rfl 0 rfl dX3_readAll_5 ?_
  refine g_iconst (0 : Int32) (by decide) dX3_readAll_6 ?_
  refine g_putI (j := 4) cok3 (by decide) rfl rfl rfl rfl (Or.inl tw1_149) oS7 B.2.1 wpI dX3_readAll_7 ?_
  refine g_aload_n rfl 0 rfl dX3_readAll_10 ?_
  refine g_iconst (0 : Int32) (by decide) dX3_readAll_11 ?_
  refine g_putI (j := 7) cok3 (by decide) rfl rfl rfl rfl (Or.inl tw1_152) oS7 B.2.1 wpI dX3_readAll_12 ?_
  refine g_aload_n rfl 0 rfl dX3_readAll_15 ?_
  refine g_get (j := 1) cok3 (by decide) (.ref (eB E + 9)) (Or.inl tw1_144) oS7 vS7_1 dX3_readAll_16 ?_
  obtain ⟨q2, h3, hf⟩ := bnd_some hf
  refine g_callVN0v (As := []) (rest := []) cok5 mok_X5_clear nmm_21 tw3_16 ts2_3 oS9 B.1 (by decide) (kX5_clear  h3) rfl rfl (Nat.le_of_ble_eq_true rfl) ⟨Nat.le_refl _, Nat.le_refl _⟩ dX3_readAll_19 ?_
  refine g_aload_n rfl 0 rfl dX3_readAll_22 ?_
  obtain ⟨q4, h5, hf⟩ := bnd_some hf
  refine g_callV0v (As := []) (rest := []) cok3 mok_X3_step tw3_18 tw3_20 ts2_4 oS7 B.1 (by decide) (kX3_step  h5) rfl rfl (Nat.le_of_ble_eq_true rfl) ⟨Nat.le_refl _, Nat.le_refl _⟩ dX3_readAll_23 ?_
  refine g_iconst (0 : Int32) (by decide) dX3_readAll_26 ?_
  refine g_istore_n rfl [(2, .int (0 : Int32)), (0, .ref (eB E + 7)), (1, .int p1)] (by decide) rfl dX3_readAll_27 ?_
  refine g_iconst (0 : Int32) (by decide) dX3_readAll_28 ?_
  refine g_istore_n rfl [(3, .int (0 : Int32)), (2, .int (0 : Int32)), (0, .ref (eB E + 7)), (1, .int p1)] (by decide) rfl dX3_readAll_29 ?_
  refine g_lvs [2, 1, 0] rfl ?_
  exact wX3_readAll_b30 B  FU (0 : Int32) (0 : Int32) q4 hf
theorem kX3_readAll {l : Launch} {E : Ev} {st : St} {p1 : Int32} {r0 : Int32} {u0 : St}  (hf : fX3_readAll p1 st = some (r0, u0)) : CM l E WT yX3_readAll cX3_readAll 4 (some FieldType.int) 208 0 0 [.ref (eB E + 7), .int p1] st (some (.int r0)) u0 :=
  CM.intro mok_X3_readAll (Nat.le_of_ble_eq_true rfl) (fun x hl hR ht hr hQ _ => wX3_readAll ⟨hR, ht, hr, hQ⟩ p1 st hf)
def fX4_becomes_b31 : Nat → Nat → Nat → Int32 → St → Option St
  | 0, _, _, _, _ => none
  | n + 1, t, o, l2, st => if (6 : Int32) ≤ l2 then (some (pI (pI (pI (pI (pI (rI st (t + 4) (va_cpy (sI st (o + 4)) (sI st (t + 4)) (0 : Int32).toNatClampNeg (0 : Int32).toNatClampNeg (4 : Int32).toNatClampNeg)) t 4 (sI (rI st (t + 4) (va_cpy (sI st (o + 4)) (sI st (t + 4)) (0 : Int32).toNatClampNeg (0 : Int32).toNatClampNeg (4 : Int32).toNatClampNeg)) o 4)) t 5 (sI (pI (rI st (t + 4) (va_cpy (sI st (o + 4)) (sI st (t + 4)) (0 : Int32).toNatClampNeg (0 : Int32).toNatClampNeg (4 : Int32).toNatClampNeg)) t 4 (sI (rI st (t + 4) (va_cpy (sI st (o + 4)) (sI st (t + 4)) (0 : Int32).toNatClampNeg (0 : Int32).toNatClampNeg (4 : Int32).toNatClampNeg)) o 4)) o 5)) t 6 (sI (pI (pI (rI st (t + 4) (va_cpy (sI st (o + 4)) (sI st (t + 4)) (0 : Int32).toNatClampNeg (0 : Int32).toNatClampNeg (4 : Int32).toNatClampNeg)) t 4 (sI (rI st (t + 4) (va_cpy (sI st (o + 4)) (sI st (t + 4)) (0 : Int32).toNatClampNeg (0 : Int32).toNatClampNeg (4 : Int32).toNatClampNeg)) o 4)) t 5 (sI (pI (rI st (t + 4) (va_cpy (sI st (o + 4)) (sI st (t + 4)) (0 : Int32).toNatClampNeg (0 : Int32).toNatClampNeg (4 : Int32).toNatClampNeg)) t 4 (sI (rI st (t + 4) (va_cpy (sI st (o + 4)) (sI st (t + 4)) (0 : Int32).toNatClampNeg (0 : Int32).toNatClampNeg (4 : Int32).toNatClampNeg)) o 4)) o 5)) o 6)) t 7 (sI (pI (pI (pI (rI st (t + 4) (va_cpy (sI st (o + 4)) (sI st (t + 4)) (0 : Int32).toNatClampNeg (0 : Int32).toNatClampNeg (4 : Int32).toNatClampNeg)) t 4 (sI (rI st (t + 4) (va_cpy (sI st (o + 4)) (sI st (t + 4)) (0 : Int32).toNatClampNeg (0 : Int32).toNatClampNeg (4 : Int32).toNatClampNeg)) o 4)) t 5 (sI (pI (rI st (t + 4) (va_cpy (sI st (o + 4)) (sI st (t + 4)) (0 : Int32).toNatClampNeg (0 : Int32).toNatClampNeg (4 : Int32).toNatClampNeg)) t 4 (sI (rI st (t + 4) (va_cpy (sI st (o + 4)) (sI st (t + 4)) (0 : Int32).toNatClampNeg (0 : Int32).toNatClampNeg (4 : Int32).toNatClampNeg)) o 4)) o 5)) t 6 (sI (pI (pI (rI st (t + 4) (va_cpy (sI st (o + 4)) (sI st (t + 4)) (0 : Int32).toNatClampNeg (0 : Int32).toNatClampNeg (4 : Int32).toNatClampNeg)) t 4 (sI (rI st (t + 4) (va_cpy (sI st (o + 4)) (sI st (t + 4)) (0 : Int32).toNatClampNeg (0 : Int32).toNatClampNeg (4 : Int32).toNatClampNeg)) o 4)) t 5 (sI (pI (rI st (t + 4) (va_cpy (sI st (o + 4)) (sI st (t + 4)) (0 : Int32).toNatClampNeg (0 : Int32).toNatClampNeg (4 : Int32).toNatClampNeg)) t 4 (sI (rI st (t + 4) (va_cpy (sI st (o + 4)) (sI st (t + 4)) (0 : Int32).toNatClampNeg (0 : Int32).toNatClampNeg (4 : Int32).toNatClampNeg)) o 4)) o 5)) o 6)) o 7)) t 8 (sI (pI (pI (pI (pI (rI st (t + 4) (va_cpy (sI st (o + 4)) (sI st (t + 4)) (0 : Int32).toNatClampNeg (0 : Int32).toNatClampNeg (4 : Int32).toNatClampNeg)) t 4 (sI (rI st (t + 4) (va_cpy (sI st (o + 4)) (sI st (t + 4)) (0 : Int32).toNatClampNeg (0 : Int32).toNatClampNeg (4 : Int32).toNatClampNeg)) o 4)) t 5 (sI (pI (rI st (t + 4) (va_cpy (sI st (o + 4)) (sI st (t + 4)) (0 : Int32).toNatClampNeg (0 : Int32).toNatClampNeg (4 : Int32).toNatClampNeg)) t 4 (sI (rI st (t + 4) (va_cpy (sI st (o + 4)) (sI st (t + 4)) (0 : Int32).toNatClampNeg (0 : Int32).toNatClampNeg (4 : Int32).toNatClampNeg)) o 4)) o 5)) t 6 (sI (pI (pI (rI st (t + 4) (va_cpy (sI st (o + 4)) (sI st (t + 4)) (0 : Int32).toNatClampNeg (0 : Int32).toNatClampNeg (4 : Int32).toNatClampNeg)) t 4 (sI (rI st (t + 4) (va_cpy (sI st (o + 4)) (sI st (t + 4)) (0 : Int32).toNatClampNeg (0 : Int32).toNatClampNeg (4 : Int32).toNatClampNeg)) o 4)) t 5 (sI (pI (rI st (t + 4) (va_cpy (sI st (o + 4)) (sI st (t + 4)) (0 : Int32).toNatClampNeg (0 : Int32).toNatClampNeg (4 : Int32).toNatClampNeg)) t 4 (sI (rI st (t + 4) (va_cpy (sI st (o + 4)) (sI st (t + 4)) (0 : Int32).toNatClampNeg (0 : Int32).toNatClampNeg (4 : Int32).toNatClampNeg)) o 4)) o 5)) o 6)) t 7 (sI (pI (pI (pI (rI st (t + 4) (va_cpy (sI st (o + 4)) (sI st (t + 4)) (0 : Int32).toNatClampNeg (0 : Int32).toNatClampNeg (4 : Int32).toNatClampNeg)) t 4 (sI (rI st (t + 4) (va_cpy (sI st (o + 4)) (sI st (t + 4)) (0 : Int32).toNatClampNeg (0 : Int32).toNatClampNeg (4 : Int32).toNatClampNeg)) o 4)) t 5 (sI (pI (rI st (t + 4) (va_cpy (sI st (o + 4)) (sI st (t + 4)) (0 : Int32).toNatClampNeg (0 : Int32).toNatClampNeg (4 : Int32).toNatClampNeg)) t 4 (sI (rI st (t + 4) (va_cpy (sI st (o + 4)) (sI st (t + 4)) (0 : Int32).toNatClampNeg (0 : Int32).toNatClampNeg (4 : Int32).toNatClampNeg)) o 4)) o 5)) t 6 (sI (pI (pI (rI st (t + 4) (va_cpy (sI st (o + 4)) (sI st (t + 4)) (0 : Int32).toNatClampNeg (0 : Int32).toNatClampNeg (4 : Int32).toNatClampNeg)) t 4 (sI (rI st (t + 4) (va_cpy (sI st (o + 4)) (sI st (t + 4)) (0 : Int32).toNatClampNeg (0 : Int32).toNatClampNeg (4 : Int32).toNatClampNeg)) o 4)) t 5 (sI (pI (rI st (t + 4) (va_cpy (sI st (o + 4)) (sI st (t + 4)) (0 : Int32).toNatClampNeg (0 : Int32).toNatClampNeg (4 : Int32).toNatClampNeg)) t 4 (sI (rI st (t + 4) (va_cpy (sI st (o + 4)) (sI st (t + 4)) (0 : Int32).toNatClampNeg (0 : Int32).toNatClampNeg (4 : Int32).toNatClampNeg)) o 4)) o 5)) o 6)) o 7)) o 8))) else (chk (ixb l2 6) (chk (ixb l2 6) (fX4_becomes_b31 n t o (l2 + (1 : Int32)) (pR st (t + 3) l2.toNatClampNeg (sR st (o + 3) l2.toNatClampNeg)))))
set_option maxHeartbeats 1000000 in
set_option maxRecDepth 20000 in
theorem wX4_becomes_b31 {E : Ev} {x : Cx} {u0 : St} (B : Bd E x none (4) 0 0 none u0) : ∀ (n : Nat) (t : Nat) (o : Nat) (l2 : Int32) (st : St) (h_t : Obj st 4 t) (h_o : Obj st 4 o), fX4_becomes_b31 n t o l2 st = some u0 → G E WT x RX4 cX4_becomes 3 (0, 0) st 31 [(0, .ref (eB E + t)), (1, .ref (eB E + o)), (2, .int l2)] [] := by
  intro n
  induction n with
  | zero =>
    intros
    rename_i hf
    rw [fX4_becomes_b31] at hf
    cases hf
  | succ n ih =>
    intro t o l2 st h_t h_o hf
    rw [fX4_becomes_b31] at hf
    refine g_iload_n rfl 2 rfl dX4_becomes_31 ?_
    refine g_bipush (6 : Int32) (by decide) dX4_becomes_32 ?_
    refine g_icmp_ge 55 (by decide) dX4_becomes_34 (fun h1 => ?_) (fun h1 => ?_)
    · rw [if_pos h1] at hf
      refine g_aload_n rfl 1 rfl dX4_becomes_55 ?_
      refine g_get (j := 3) cok4 (by decide) (.ref (eB E + (o + 4))) (Or.inl tw1_42) (fun _ => h_o) (fun w => slot_ref rfl (WT.ring w h_o).2.2.2.1.1) dX4_becomes_56 ?_
      refine g_iconst (0 : Int32) (by decide) dX4_becomes_59 ?_
      refine g_aload_n rfl 0 rfl dX4_becomes_60 ?_
      refine g_get (j := 3) cok4 (by decide) (.ref (eB E + (t + 4))) (Or.inl tw1_42) (fun _ => h_t) (fun w => slot_ref rfl (WT.ring w h_t).2.2.2.1.1) dX4_becomes_61 ?_
      refine g_iconst (0 : Int32) (by decide) dX4_becomes_64 ?_
      refine g_iconst (4 : Int32) (by decide) dX4_becomes_65 ?_
      refine g_copy (rest := []) tw4_156 (fun w => (WT.ring w h_o).2.2.2.1.2) (fun w => (WT.ring w h_t).2.2.2.1.2) B.1 (by decide) (Nat.le_of_ble_eq_true rfl) B.2.1 rfl wrI dX4_becomes_66 ?_
      refine g_aload_n rfl 0 rfl dX4_becomes_69 ?_
      refine g_aload_n rfl 1 rfl dX4_becomes_70 ?_
      refine g_get (j := 4) cok4 (by decide) (.int (sI (rI st (t + 4) (va_cpy (sI st (o + 4)) (sI st (t + 4)) (0 : Int32).toNatClampNeg (0 : Int32).toNatClampNeg (4 : Int32).toNatClampNeg)) o 4)) (Or.inl tw1_48) (fun _ => h_o) (fun _ => rfl) dX4_becomes_71 ?_
      refine g_putI (j := 4) cok4 (by decide) rfl rfl rfl rfl (Or.inl tw1_48) (fun _ => h_t) B.2.1 wpI dX4_becomes_74 ?_
      refine g_aload_n rfl 0 rfl dX4_becomes_77 ?_
      refine g_aload_n rfl 1 rfl dX4_becomes_78 ?_
      refine g_get (j := 5) cok4 (by decide) (.int (sI (pI (rI st (t + 4) (va_cpy (sI st (o + 4)) (sI st (t + 4)) (0 : Int32).toNatClampNeg (0 : Int32).toNatClampNeg (4 : Int32).toNatClampNeg)) t 4 (sI (rI st (t + 4) (va_cpy (sI st (o + 4)) (sI st (t + 4)) (0 : Int32).toNatClampNeg (0 : Int32).toNatClampNeg (4 : Int32).toNatClampNeg)) o 4)) o 5)) (Or.inl tw1_52) (fun _ => h_o) (fun _ => rfl) dX4_becomes_79 ?_
      refine g_putI (j := 5) cok4 (by decide) rfl rfl rfl rfl (Or.inl tw1_52) (fun _ => h_t) B.2.1 wpI dX4_becomes_82 ?_
      refine g_aload_n rfl 0 rfl dX4_becomes_85 ?_
      refine g_aload_n rfl 1 rfl dX4_becomes_86 ?_
      refine g_get (j := 6) cok4 (by decide) (.int (sI (pI (pI (rI st (t + 4) (va_cpy (sI st (o + 4)) (sI st (t + 4)) (0 : Int32).toNatClampNeg (0 : Int32).toNatClampNeg (4 : Int32).toNatClampNeg)) t 4 (sI (rI st (t + 4) (va_cpy (sI st (o + 4)) (sI st (t + 4)) (0 : Int32).toNatClampNeg (0 : Int32).toNatClampNeg (4 : Int32).toNatClampNeg)) o 4)) t 5 (sI (pI (rI st (t + 4) (va_cpy (sI st (o + 4)) (sI st (t + 4)) (0 : Int32).toNatClampNeg (0 : Int32).toNatClampNeg (4 : Int32).toNatClampNeg)) t 4 (sI (rI st (t + 4) (va_cpy (sI st (o + 4)) (sI st (t + 4)) (0 : Int32).toNatClampNeg (0 : Int32).toNatClampNeg (4 : Int32).toNatClampNeg)) o 4)) o 5)) o 6)) (Or.inl tw1_56) (fun _ => h_o) (fun _ => rfl) dX4_becomes_87 ?_
      refine g_putI (j := 6) cok4 (by decide) rfl rfl rfl rfl (Or.inl tw1_56) (fun _ => h_t) B.2.1 wpI dX4_becomes_90 ?_
      refine g_aload_n rfl 0 rfl dX4_becomes_93 ?_
      refine g_aload_n rfl 1 rfl dX4_becomes_94 ?_
      refine g_get (j := 7) cok4 (by decide) (.int (sI (pI (pI (pI (rI st (t + 4) (va_cpy (sI st (o + 4)) (sI st (t + 4)) (0 : Int32).toNatClampNeg (0 : Int32).toNatClampNeg (4 : Int32).toNatClampNeg)) t 4 (sI (rI st (t + 4) (va_cpy (sI st (o + 4)) (sI st (t + 4)) (0 : Int32).toNatClampNeg (0 : Int32).toNatClampNeg (4 : Int32).toNatClampNeg)) o 4)) t 5 (sI (pI (rI st (t + 4) (va_cpy (sI st (o + 4)) (sI st (t + 4)) (0 : Int32).toNatClampNeg (0 : Int32).toNatClampNeg (4 : Int32).toNatClampNeg)) t 4 (sI (rI st (t + 4) (va_cpy (sI st (o + 4)) (sI st (t + 4)) (0 : Int32).toNatClampNeg (0 : Int32).toNatClampNeg (4 : Int32).toNatClampNeg)) o 4)) o 5)) t 6 (sI (pI (pI (rI st (t + 4) (va_cpy (sI st (o + 4)) (sI st (t + 4)) (0 : Int32).toNatClampNeg (0 : Int32).toNatClampNeg (4 : Int32).toNatClampNeg)) t 4 (sI (rI st (t + 4) (va_cpy (sI st (o + 4)) (sI st (t + 4)) (0 : Int32).toNatClampNeg (0 : Int32).toNatClampNeg (4 : Int32).toNatClampNeg)) o 4)) t 5 (sI (pI (rI st (t + 4) (va_cpy (sI st (o + 4)) (sI st (t + 4)) (0 : Int32).toNatClampNeg (0 : Int32).toNatClampNeg (4 : Int32).toNatClampNeg)) t 4 (sI (rI st (t + 4) (va_cpy (sI st (o + 4)) (sI st (t + 4)) (0 : Int32).toNatClampNeg (0 : Int32).toNatClampNeg (4 : Int32).toNatClampNeg)) o 4)) o 5)) o 6)) o 7)) (Or.inl tw1_60) (fun _ => h_o) (fun _ => rfl) dX4_becomes_95 ?_
      refine g_putI (j := 7) cok4 (by decide) rfl rfl rfl rfl (Or.inl tw1_60) (fun _ => h_t) B.2.1 wpI dX4_becomes_98 ?_
      refine g_aload_n rfl 0 rfl dX4_becomes_101 ?_
      refine g_aload_n rfl 1 rfl dX4_becomes_102 ?_
      refine g_get (j := 8) cok4 (by decide) (.int (sI (pI (pI (pI (pI (rI st (t + 4) (va_cpy (sI st (o + 4)) (sI st (t + 4)) (0 : Int32).toNatClampNeg (0 : Int32).toNatClampNeg (4 : Int32).toNatClampNeg)) t 4 (sI (rI st (t + 4) (va_cpy (sI st (o + 4)) (sI st (t + 4)) (0 : Int32).toNatClampNeg (0 : Int32).toNatClampNeg (4 : Int32).toNatClampNeg)) o 4)) t 5 (sI (pI (rI st (t + 4) (va_cpy (sI st (o + 4)) (sI st (t + 4)) (0 : Int32).toNatClampNeg (0 : Int32).toNatClampNeg (4 : Int32).toNatClampNeg)) t 4 (sI (rI st (t + 4) (va_cpy (sI st (o + 4)) (sI st (t + 4)) (0 : Int32).toNatClampNeg (0 : Int32).toNatClampNeg (4 : Int32).toNatClampNeg)) o 4)) o 5)) t 6 (sI (pI (pI (rI st (t + 4) (va_cpy (sI st (o + 4)) (sI st (t + 4)) (0 : Int32).toNatClampNeg (0 : Int32).toNatClampNeg (4 : Int32).toNatClampNeg)) t 4 (sI (rI st (t + 4) (va_cpy (sI st (o + 4)) (sI st (t + 4)) (0 : Int32).toNatClampNeg (0 : Int32).toNatClampNeg (4 : Int32).toNatClampNeg)) o 4)) t 5 (sI (pI (rI st (t + 4) (va_cpy (sI st (o + 4)) (sI st (t + 4)) (0 : Int32).toNatClampNeg (0 : Int32).toNatClampNeg (4 : Int32).toNatClampNeg)) t 4 (sI (rI st (t + 4) (va_cpy (sI st (o + 4)) (sI st (t + 4)) (0 : Int32).toNatClampNeg (0 : Int32).toNatClampNeg (4 : Int32).toNatClampNeg)) o 4)) o 5)) o 6)) t 7 (sI (pI (pI (pI (rI st (t + 4) (va_cpy (sI st (o + 4)) (sI st (t + 4)) (0 : Int32).toNatClampNeg (0 : Int32).toNatClampNeg (4 : Int32).toNatClampNeg)) t 4 (sI (rI st (t + 4) (va_cpy (sI st (o + 4)) (sI st (t + 4)) (0 : Int32).toNatClampNeg (0 : Int32).toNatClampNeg (4 : Int32).toNatClampNeg)) o 4)) t 5 (sI (pI (rI st (t + 4) (va_cpy (sI st (o + 4)) (sI st (t + 4)) (0 : Int32).toNatClampNeg (0 : Int32).toNatClampNeg (4 : Int32).toNatClampNeg)) t 4 (sI (rI st (t + 4) (va_cpy (sI st (o + 4)) (sI st (t + 4)) (0 : Int32).toNatClampNeg (0 : Int32).toNatClampNeg (4 : Int32).toNatClampNeg)) o 4)) o 5)) t 6 (sI (pI (pI (rI st (t + 4) (va_cpy (sI st (o + 4)) (sI st (t + 4)) (0 : Int32).toNatClampNeg (0 : Int32).toNatClampNeg (4 : Int32).toNatClampNeg)) t 4 (sI (rI st (t + 4) (va_cpy (sI st (o + 4)) (sI st (t + 4)) (0 : Int32).toNatClampNeg (0 : Int32).toNatClampNeg (4 : Int32).toNatClampNeg)) o 4)) t 5 (sI (pI (rI st (t + 4) (va_cpy (sI st (o + 4)) (sI st (t + 4)) (0 : Int32).toNatClampNeg (0 : Int32).toNatClampNeg (4 : Int32).toNatClampNeg)) t 4 (sI (rI st (t + 4) (va_cpy (sI st (o + 4)) (sI st (t + 4)) (0 : Int32).toNatClampNeg (0 : Int32).toNatClampNeg (4 : Int32).toNatClampNeg)) o 4)) o 5)) o 6)) o 7)) o 8)) (Or.inl tw1_62) (fun _ => h_o) (fun _ => rfl) dX4_becomes_103 ?_
      refine g_putI (j := 8) cok4 (by decide) rfl rfl rfl rfl (Or.inl tw1_62) (fun _ => h_t) B.2.1 wpI dX4_becomes_106 ?_
      exact g_ret B.2.2.2 B.2.2.1 rfl (Option.some.inj hf).symm dX4_becomes_109
    · rw [if_neg h1] at hf
      refine g_aload_n rfl 0 rfl dX4_becomes_37 ?_
      refine g_get (j := 2) cok4 (by decide) (.ref (eB E + (t + 3))) (Or.inl tw1_40) (fun _ => h_t) (fun w => slot_ref rfl (WT.ring w h_t).2.2.1.1) dX4_becomes_38 ?_
      refine g_iload_n rfl 2 rfl dX4_becomes_41 ?_
      refine g_aload_n rfl 1 rfl dX4_becomes_42 ?_
      refine g_get (j := 2) cok4 (by decide) (.ref (eB E + (o + 3))) (Or.inl tw1_40) (fun _ => h_o) (fun w => slot_ref rfl (WT.ring w h_o).2.2.1.1) dX4_becomes_43 ?_
      refine g_iload_n rfl 2 rfl dX4_becomes_46 ?_
      obtain ⟨h2, hf⟩ := chk_some hf
      refine g_aaldSj l2.toNatClampNeg rfl (fun w => (WT.ring w h_o).2.2.1.2) (ixb_in h2) dX4_becomes_47 ?_
      obtain ⟨h3, hf⟩ := chk_some hf
      refine g_aastq (r := sR st (o + 3) l2.toNatClampNeg) l2.toNatClampNeg rfl (fun w => (WT.ring w h_t).2.2.1.2) (ixb_in h3) (fun w => fun _ h => WT.law w h_o h) B.2.1 (fun w => wpRlaw h_t (fun _ h => WT.law w h_o h) w) dX4_becomes_48 ?_
      refine g_iinc (l2 + (1 : Int32)) [(2, .int (l2 + (1 : Int32))), (0, .ref (eB E + t)), (1, .ref (eB E + o))] 2 rfl (congrArg (fun z => l2 + z) (show Int32.ofInt (1) = (1 : Int32) by decide)) (by decide) rfl dX4_becomes_49 ?_
      refine g_goto 31 (by decide) dX4_becomes_52 ?_
      refine g_lvs [1, 2, 0] rfl ?_
      exact ih t o (l2 + (1 : Int32)) (pR st (t + 3) l2.toNatClampNeg (sR st (o + 3) l2.toNatClampNeg)) h_t h_o hf
def fX4_becomes (t : Nat) (o : Nat) (st : St) : Option St :=
  fX4_becomes_b31 FU t o (0 : Int32) (rI (rI st (t + 1) (va_cpy (sI st (o + 1)) (sI st (t + 1)) (0 : Int32).toNatClampNeg (0 : Int32).toNatClampNeg (6 : Int32).toNatClampNeg)) (t + 2) (va_cpy (sI (rI st (t + 1) (va_cpy (sI st (o + 1)) (sI st (t + 1)) (0 : Int32).toNatClampNeg (0 : Int32).toNatClampNeg (6 : Int32).toNatClampNeg)) (o + 2)) (sI (rI st (t + 1) (va_cpy (sI st (o + 1)) (sI st (t + 1)) (0 : Int32).toNatClampNeg (0 : Int32).toNatClampNeg (6 : Int32).toNatClampNeg)) (t + 2)) (0 : Int32).toNatClampNeg (0 : Int32).toNatClampNeg (5 : Int32).toNatClampNeg))
set_option maxHeartbeats 1000000 in
set_option maxRecDepth 20000 in
theorem wX4_becomes {E : Ev} {x : Cx} {u0 : St} (B : Bd E x none (4) 0 0 none u0) (t : Nat) (o : Nat) (st : St) (h_t : Obj st 4 t) (h_o : Obj st 4 o) (hf : fX4_becomes t o st = some u0) : G E WT x RX4 cX4_becomes 3 (0, 0) st 0 [(0, .ref (eB E + t)), (1, .ref (eB E + o))] [] := by
  unfold fX4_becomes at hf
  refine g_aload_n rfl 1 rfl dX4_becomes_0 ?_
  refine g_get (j := 0) cok4 (by decide) (.ref (eB E + (o + 1))) (Or.inl tw1_34) (fun _ => h_o) (fun w => slot_ref rfl (WT.ring w h_o).1.1) dX4_becomes_1 ?_
  refine g_iconst (0 : Int32) (by decide) dX4_becomes_4 ?_
  refine g_aload_n rfl 0 rfl dX4_becomes_5 ?_
  refine g_get (j := 0) cok4 (by decide) (.ref (eB E + (t + 1))) (Or.inl tw1_34) (fun _ => h_t) (fun w => slot_ref rfl (WT.ring w h_t).1.1) dX4_becomes_6 ?_
  refine g_iconst (0 : Int32) (by decide) dX4_becomes_9 ?_
  refine g_bipush (6 : Int32) (by decide) dX4_becomes_10 ?_
  refine g_copy (rest := []) tw4_156 (fun w => (WT.ring w h_o).1.2) (fun w => (WT.ring w h_t).1.2) B.1 (by decide) (Nat.le_of_ble_eq_true rfl) B.2.1 rfl wrI dX4_becomes_12 ?_
  refine g_aload_n rfl 1 rfl dX4_becomes_15 ?_
  refine g_get (j := 1) cok4 (by decide) (.ref (eB E + (o + 2))) (Or.inl tw1_37) (fun _ => h_o) (fun w => slot_ref rfl (WT.ring w h_o).2.1.1) dX4_becomes_16 ?_
  refine g_iconst (0 : Int32) (by decide) dX4_becomes_19 ?_
  refine g_aload_n rfl 0 rfl dX4_becomes_20 ?_
  refine g_get (j := 1) cok4 (by decide) (.ref (eB E + (t + 2))) (Or.inl tw1_37) (fun _ => h_t) (fun w => slot_ref rfl (WT.ring w h_t).2.1.1) dX4_becomes_21 ?_
  refine g_iconst (0 : Int32) (by decide) dX4_becomes_24 ?_
  refine g_iconst (5 : Int32) (by decide) dX4_becomes_25 ?_
  refine g_copy (rest := []) tw4_156 (fun w => (WT.ring w h_o).2.1.2) (fun w => (WT.ring w h_t).2.1.2) B.1 (by decide) (Nat.le_of_ble_eq_true rfl) B.2.1 rfl wrI dX4_becomes_26 ?_
  refine g_iconst (0 : Int32) (by decide) dX4_becomes_29 ?_
  refine g_istore_n rfl [(2, .int (0 : Int32)), (0, .ref (eB E + t)), (1, .ref (eB E + o))] (by decide) rfl dX4_becomes_30 ?_
  refine g_lvs [1, 2, 0] rfl ?_
  exact wX4_becomes_b31 B  FU t o (0 : Int32) (rI (rI st (t + 1) (va_cpy (sI st (o + 1)) (sI st (t + 1)) (0 : Int32).toNatClampNeg (0 : Int32).toNatClampNeg (6 : Int32).toNatClampNeg)) (t + 2) (va_cpy (sI (rI st (t + 1) (va_cpy (sI st (o + 1)) (sI st (t + 1)) (0 : Int32).toNatClampNeg (0 : Int32).toNatClampNeg (6 : Int32).toNatClampNeg)) (o + 2)) (sI (rI st (t + 1) (va_cpy (sI st (o + 1)) (sI st (t + 1)) (0 : Int32).toNatClampNeg (0 : Int32).toNatClampNeg (6 : Int32).toNatClampNeg)) (t + 2)) (0 : Int32).toNatClampNeg (0 : Int32).toNatClampNeg (5 : Int32).toNatClampNeg)) h_t h_o hf
theorem kX4_becomes {l : Launch} {E : Ev} {st : St} {t : Nat} {o : Nat} {u0 : St} (h_t : Obj st 4 t) (h_o : Obj st 4 o) (hf : fX4_becomes t o st = some u0) : CM l E WT yX4_becomes cX4_becomes 3 none 4 0 0 [.ref (eB E + t), .ref (eB E + o)] st none u0 :=
  CM.intro mok_X4_becomes (Nat.le_of_ble_eq_true rfl) (fun x hl hR ht hr hQ _ => wX4_becomes ⟨hR, ht, hr, hQ⟩ t o st h_t h_o hf)
def fX4_welcome (p1 : Int32) (st : St) : Option St :=
  if (6 : Int32) ≤ (sI st 1 4) then (some st) else (chk (ixb (sI st 1 4) 6) (some (pI (pI (pI st 2 ((sI st 1 4).toNatClampNeg) p1) 1 5 ((sI (pI st 2 ((sI st 1 4).toNatClampNeg) p1) 1 5) ||| (jshl (1 : Int32) (sI (pI st 2 ((sI st 1 4).toNatClampNeg) p1) 1 4)))) 1 4 ((sI (pI (pI st 2 ((sI st 1 4).toNatClampNeg) p1) 1 5 ((sI (pI st 2 ((sI st 1 4).toNatClampNeg) p1) 1 5) ||| (jshl (1 : Int32) (sI (pI st 2 ((sI st 1 4).toNatClampNeg) p1) 1 4)))) 1 4) + (1 : Int32)))))
set_option maxHeartbeats 1000000 in
set_option maxRecDepth 20000 in
theorem wX4_welcome {E : Ev} {x : Cx} {u0 : St} (B : Bd E x none (0) 0 0 none u0) (p1 : Int32) (st : St)  (hf : fX4_welcome p1 st = some u0) : G E WT x RX4 cX4_welcome 2 (0, 0) st 0 [(0, .ref (eB E + 1)), (1, .int p1)] [] := by
  unfold fX4_welcome at hf
  refine g_aload_n rfl 0 rfl dX4_welcome_0 ?_
  refine g_get (j := 4) cok4 (by decide) (.int (sI st 1 4)) (Or.inl tw1_48) oS1 (fun _ => rfl) dX4_welcome_1 ?_
  refine g_bipush (6 : Int32) (by decide) dX4_welcome_4 ?_
  refine g_icmp_ge 44 (by decide) dX4_welcome_6 (fun h1 => ?_) (fun h1 => ?_)
  · rw [if_pos h1] at hf
    exact g_ret B.2.2.2 B.2.2.1 rfl (Option.some.inj hf).symm dX4_welcome_44
  · rw [if_neg h1] at hf
    refine g_aload_n rfl 0 rfl dX4_welcome_9 ?_
    refine g_get (j := 0) cok4 (by decide) (.ref (eB E + 2)) (Or.inl tw1_34) oS1 vS1_0 dX4_welcome_10 ?_
    refine g_aload_n rfl 0 rfl dX4_welcome_13 ?_
    refine g_get (j := 4) cok4 (by decide) (.int (sI st 1 4)) (Or.inl tw1_48) oS1 (fun _ => rfl) dX4_welcome_14 ?_
    refine g_iload_n rfl 1 rfl dX4_welcome_17 ?_
    obtain ⟨h2, hf⟩ := chk_some hf
    refine g_iastj ((sI st 1 4).toNatClampNeg) rfl aS2 (ixb_in h2) B.2.1 wpI dX4_welcome_18 ?_
    refine g_aload_n rfl 0 rfl dX4_welcome_19 ?_
    refine g_dup rfl dX4_welcome_20 ?_
    refine g_get (j := 5) cok4 (by decide) (.int (sI (pI st 2 ((sI st 1 4).toNatClampNeg) p1) 1 5)) (Or.inl tw1_52) oS1 (fun _ => rfl) dX4_welcome_21 ?_
    refine g_iconst (1 : Int32) (by decide) dX4_welcome_24 ?_
    refine g_aload_n rfl 0 rfl dX4_welcome_25 ?_
    refine g_get (j := 4) cok4 (by decide) (.int (sI (pI st 2 ((sI st 1 4).toNatClampNeg) p1) 1 4)) (Or.inl tw1_48) oS1 (fun _ => rfl) dX4_welcome_26 ?_
    refine g_ishl dX4_welcome_29 ?_
    refine g_ior dX4_welcome_30 ?_
    refine g_putI (j := 5) cok4 (by decide) rfl rfl rfl rfl (Or.inl tw1_52) oS1 B.2.1 wpI dX4_welcome_31 ?_
    refine g_aload_n rfl 0 rfl dX4_welcome_34 ?_
    refine g_dup rfl dX4_welcome_35 ?_
    refine g_get (j := 4) cok4 (by decide) (.int (sI (pI (pI st 2 ((sI st 1 4).toNatClampNeg) p1) 1 5 ((sI (pI st 2 ((sI st 1 4).toNatClampNeg) p1) 1 5) ||| (jshl (1 : Int32) (sI (pI st 2 ((sI st 1 4).toNatClampNeg) p1) 1 4)))) 1 4)) (Or.inl tw1_48) oS1 (fun _ => rfl) dX4_welcome_36 ?_
    refine g_iconst (1 : Int32) (by decide) dX4_welcome_39 ?_
    refine g_iadd dX4_welcome_40 ?_
    refine g_putI (j := 4) cok4 (by decide) rfl rfl rfl rfl (Or.inl tw1_48) oS1 B.2.1 wpI dX4_welcome_41 ?_
    exact g_ret B.2.2.2 B.2.2.1 rfl (Option.some.inj hf).symm dX4_welcome_44
theorem kX4_welcome {l : Launch} {E : Ev} {st : St} {p1 : Int32} {u0 : St}  (hf : fX4_welcome p1 st = some u0) : CM l E WT yX4_welcome cX4_welcome 2 none 0 0 0 [.ref (eB E + 1), .int p1] st none u0 :=
  CM.intro mok_X4_welcome (Nat.le_of_ble_eq_true rfl) (fun x hl hR ht hr hQ _ => wX4_welcome ⟨hR, ht, hr, hQ⟩ p1 st hf)
def fX4_lacksChild (st : St) (p1 : Int32) : Int32 :=
  if p1 < 0 then ((1 : Int32)) else (if p1 < (sI st 1 4) then ((0 : Int32)) else ((1 : Int32)))
set_option maxHeartbeats 1000000 in
set_option maxRecDepth 20000 in
theorem wX4_lacksChild {E : Ev} {x : Cx} {r0 : Int32} {st : St} (B : Bd E x (some FieldType.boolean) (0) 0 0 (some (.int r0)) st) (p1 : Int32)  (hf : fX4_lacksChild st p1 = r0) : G E WT x RX4 cX4_lacksChild 2 (0, 0) st 0 [(0, .ref (eB E + 1)), (1, .int p1)] [] := by
  unfold fX4_lacksChild at hf
  refine g_iload_n rfl 1 rfl dX4_lacksChild_0 ?_
  refine g_if_lt 12 (by decide) dX4_lacksChild_1 (fun h1 => ?_) (fun h1 => ?_)
  · rw [if_pos h1] at hf
    refine g_iconst (1 : Int32) (by decide) dX4_lacksChild_12 ?_
    refine g_goto 17 (by decide) dX4_lacksChild_13 ?_
    exact g_zret B.2.2.2 B.2.2.1 (by decide) (congrArg (fun z => some (Value.int z)) hf.symm) rfl dX4_lacksChild_17
  · rw [if_neg h1] at hf
    refine g_iload_n rfl 1 rfl dX4_lacksChild_4 ?_
    refine g_aload_n rfl 0 rfl dX4_lacksChild_5 ?_
    refine g_get (j := 4) cok4 (by decide) (.int (sI st 1 4)) (Or.inl tw1_48) oS1 (fun _ => rfl) dX4_lacksChild_6 ?_
    refine g_icmp_lt 16 (by decide) dX4_lacksChild_9 (fun h2 => ?_) (fun h2 => ?_)
    · rw [if_pos h2] at hf
      refine g_iconst (0 : Int32) (by decide) dX4_lacksChild_16 ?_
      exact g_zret B.2.2.2 B.2.2.1 (by decide) (congrArg (fun z => some (Value.int z)) hf.symm) rfl dX4_lacksChild_17
    · rw [if_neg h2] at hf
      refine g_iconst (1 : Int32) (by decide) dX4_lacksChild_12 ?_
      refine g_goto 17 (by decide) dX4_lacksChild_13 ?_
      exact g_zret B.2.2.2 B.2.2.1 (by decide) (congrArg (fun z => some (Value.int z)) hf.symm) rfl dX4_lacksChild_17
theorem kX4_lacksChild {l : Launch} {E : Ev} {st : St} {p1 : Int32} {r0 : Int32}  (hf : fX4_lacksChild st p1 = r0) : CM l E WT yX4_lacksChild cX4_lacksChild 2 (some FieldType.boolean) 0 0 0 [.ref (eB E + 1), .int p1] st (some (.int r0)) st :=
  CM.intro mok_X4_lacksChild (Nat.le_of_ble_eq_true rfl) (fun x hl hR ht hr hQ _ => wX4_lacksChild ⟨hR, ht, hr, hQ⟩ p1 hf)
theorem fX4_lacksChild_b (st : St) (p1 : Int32) : isb (fX4_lacksChild st p1) = true := by
  unfold fX4_lacksChild
  (repeat' split) <;> first | rfl | exact fX8_lies_b _ _ _
def fX4_lacksRhyme (st : St) (p1 : Int32) : Int32 :=
  if p1 < 0 then ((1 : Int32)) else (if p1 < (sI st 1 6) then ((0 : Int32)) else ((1 : Int32)))
set_option maxHeartbeats 1000000 in
set_option maxRecDepth 20000 in
theorem wX4_lacksRhyme {E : Ev} {x : Cx} {r0 : Int32} {st : St} (B : Bd E x (some FieldType.boolean) (0) 0 0 (some (.int r0)) st) (p1 : Int32)  (hf : fX4_lacksRhyme st p1 = r0) : G E WT x RX4 cX4_lacksRhyme 2 (0, 0) st 0 [(0, .ref (eB E + 1)), (1, .int p1)] [] := by
  unfold fX4_lacksRhyme at hf
  refine g_iload_n rfl 1 rfl dX4_lacksRhyme_0 ?_
  refine g_if_lt 12 (by decide) dX4_lacksRhyme_1 (fun h1 => ?_) (fun h1 => ?_)
  · rw [if_pos h1] at hf
    refine g_iconst (1 : Int32) (by decide) dX4_lacksRhyme_12 ?_
    refine g_goto 17 (by decide) dX4_lacksRhyme_13 ?_
    exact g_zret B.2.2.2 B.2.2.1 (by decide) (congrArg (fun z => some (Value.int z)) hf.symm) rfl dX4_lacksRhyme_17
  · rw [if_neg h1] at hf
    refine g_iload_n rfl 1 rfl dX4_lacksRhyme_4 ?_
    refine g_aload_n rfl 0 rfl dX4_lacksRhyme_5 ?_
    refine g_get (j := 6) cok4 (by decide) (.int (sI st 1 6)) (Or.inl tw1_56) oS1 (fun _ => rfl) dX4_lacksRhyme_6 ?_
    refine g_icmp_lt 16 (by decide) dX4_lacksRhyme_9 (fun h2 => ?_) (fun h2 => ?_)
    · rw [if_pos h2] at hf
      refine g_iconst (0 : Int32) (by decide) dX4_lacksRhyme_16 ?_
      exact g_zret B.2.2.2 B.2.2.1 (by decide) (congrArg (fun z => some (Value.int z)) hf.symm) rfl dX4_lacksRhyme_17
    · rw [if_neg h2] at hf
      refine g_iconst (1 : Int32) (by decide) dX4_lacksRhyme_12 ?_
      refine g_goto 17 (by decide) dX4_lacksRhyme_13 ?_
      exact g_zret B.2.2.2 B.2.2.1 (by decide) (congrArg (fun z => some (Value.int z)) hf.symm) rfl dX4_lacksRhyme_17
theorem kX4_lacksRhyme {l : Launch} {E : Ev} {st : St} {p1 : Int32} {r0 : Int32}  (hf : fX4_lacksRhyme st p1 = r0) : CM l E WT yX4_lacksRhyme cX4_lacksRhyme 2 (some FieldType.boolean) 0 0 0 [.ref (eB E + 1), .int p1] st (some (.int r0)) st :=
  CM.intro mok_X4_lacksRhyme (Nat.le_of_ble_eq_true rfl) (fun x hl hR ht hr hQ _ => wX4_lacksRhyme ⟨hR, ht, hr, hQ⟩ p1 hf)
theorem fX4_lacksRhyme_b (st : St) (p1 : Int32) : isb (fX4_lacksRhyme st p1) = true := by
  unfold fX4_lacksRhyme
  (repeat' split) <;> first | rfl | exact fX8_lies_b _ _ _
def fX4_lacksLaw (st : St) (p1 : Int32) : Int32 :=
  if p1 < 0 then ((1 : Int32)) else (if p1 < (sI st 1 7) then ((0 : Int32)) else ((1 : Int32)))
set_option maxHeartbeats 1000000 in
set_option maxRecDepth 20000 in
theorem wX4_lacksLaw {E : Ev} {x : Cx} {r0 : Int32} {st : St} (B : Bd E x (some FieldType.boolean) (0) 0 0 (some (.int r0)) st) (p1 : Int32)  (hf : fX4_lacksLaw st p1 = r0) : G E WT x RX4 cX4_lacksLaw 2 (0, 0) st 0 [(0, .ref (eB E + 1)), (1, .int p1)] [] := by
  unfold fX4_lacksLaw at hf
  refine g_iload_n rfl 1 rfl dX4_lacksLaw_0 ?_
  refine g_if_lt 12 (by decide) dX4_lacksLaw_1 (fun h1 => ?_) (fun h1 => ?_)
  · rw [if_pos h1] at hf
    refine g_iconst (1 : Int32) (by decide) dX4_lacksLaw_12 ?_
    refine g_goto 17 (by decide) dX4_lacksLaw_13 ?_
    exact g_zret B.2.2.2 B.2.2.1 (by decide) (congrArg (fun z => some (Value.int z)) hf.symm) rfl dX4_lacksLaw_17
  · rw [if_neg h1] at hf
    refine g_iload_n rfl 1 rfl dX4_lacksLaw_4 ?_
    refine g_aload_n rfl 0 rfl dX4_lacksLaw_5 ?_
    refine g_get (j := 7) cok4 (by decide) (.int (sI st 1 7)) (Or.inl tw1_60) oS1 (fun _ => rfl) dX4_lacksLaw_6 ?_
    refine g_icmp_lt 16 (by decide) dX4_lacksLaw_9 (fun h2 => ?_) (fun h2 => ?_)
    · rw [if_pos h2] at hf
      refine g_iconst (0 : Int32) (by decide) dX4_lacksLaw_16 ?_
      exact g_zret B.2.2.2 B.2.2.1 (by decide) (congrArg (fun z => some (Value.int z)) hf.symm) rfl dX4_lacksLaw_17
    · rw [if_neg h2] at hf
      refine g_iconst (1 : Int32) (by decide) dX4_lacksLaw_12 ?_
      refine g_goto 17 (by decide) dX4_lacksLaw_13 ?_
      exact g_zret B.2.2.2 B.2.2.1 (by decide) (congrArg (fun z => some (Value.int z)) hf.symm) rfl dX4_lacksLaw_17
theorem kX4_lacksLaw {l : Launch} {E : Ev} {st : St} {p1 : Int32} {r0 : Int32}  (hf : fX4_lacksLaw st p1 = r0) : CM l E WT yX4_lacksLaw cX4_lacksLaw 2 (some FieldType.boolean) 0 0 0 [.ref (eB E + 1), .int p1] st (some (.int r0)) st :=
  CM.intro mok_X4_lacksLaw (Nat.le_of_ble_eq_true rfl) (fun x hl hR ht hr hQ _ => wX4_lacksLaw ⟨hR, ht, hr, hQ⟩ p1 hf)
theorem fX4_lacksLaw_b (st : St) (p1 : Int32) : isb (fX4_lacksLaw st p1) = true := by
  unfold fX4_lacksLaw
  (repeat' split) <;> first | rfl | exact fX8_lies_b _ _ _
def fX7_refused_b41 (l1 : Int32) (st : St) : Option (Int32 × St) :=
  some (l1, pI st 0 11 l1)
set_option maxHeartbeats 1000000 in
set_option maxRecDepth 20000 in
theorem wX7_refused_b41 {E : Ev} {x : Cx} {r0 : Int32} {u0 : St} (B : Bd E x (some FieldType.int) (0) 0 0 (some (.int r0)) u0) (l1 : Int32) (st : St)  (hf : fX7_refused_b41 l1 st = some (r0, u0)) : G E WT x RX7 cX7_refused 3 (0, 0) st 41 [(0, .ref (eB E + 0)), (1, .int l1)] [] := by
  unfold fX7_refused_b41 at hf
  refine g_aload_n rfl 0 rfl dX7_refused_41 ?_
  refine g_iload_n rfl 1 rfl dX7_refused_42 ?_
  refine g_putI (j := 11) cok7 (by decide) rfl rfl rfl rfl (Or.inl tw2_75) oS0 B.2.1 wpI dX7_refused_43 ?_
  refine g_iload_n rfl 1 rfl dX7_refused_46 ?_
  exact g_iret B.2.2.2 B.2.2.1 (congrArg (fun z => some (Value.int z)) (Prod.mk.inj (Option.some.inj hf)).1.symm) (Prod.mk.inj (Option.some.inj hf)).2.symm dX7_refused_47
def fX7_refused_b17 (l1 : Int32) (s0 : Int32) (st : St) : Option (Int32 × St) :=
  if s0 < 0 then (fX7_refused_b41 l1 st) else (if (5 : Int32) ≤ s0 then (fX7_refused_b41 l1 st) else (chk (ixb s0 5) (chk (ixb s0 5) (fX7_refused_b41 l1 (pI st 35 s0.toNatClampNeg ((sI st 35 s0.toNatClampNeg) + (1 : Int32)))))))
set_option maxHeartbeats 1000000 in
set_option maxRecDepth 20000 in
theorem wX7_refused_b17 {E : Ev} {x : Cx} {r0 : Int32} {u0 : St} (B : Bd E x (some FieldType.int) (0) 0 0 (some (.int r0)) u0) (l1 : Int32) (s0 : Int32) (st : St)  (hf : fX7_refused_b17 l1 s0 st = some (r0, u0)) : G E WT x RX7 cX7_refused 3 (0, 0) st 17 [(0, .ref (eB E + 0)), (1, .int l1)] [.int s0] := by
  unfold fX7_refused_b17 at hf
  refine g_istore_n rfl [(2, .int s0), (0, .ref (eB E + 0)), (1, .int l1)] (by decide) rfl dX7_refused_17 ?_
  refine g_iload_n rfl 0 rfl dX7_refused_18 ?_
  refine g_if_lt 41 (by decide) dX7_refused_19 (fun h1 => ?_) (fun h1 => ?_)
  · rw [if_pos h1] at hf
    refine g_lvs [1, 2] rfl ?_
    exact wX7_refused_b41 B  l1 st hf
  · rw [if_neg h1] at hf
    refine g_iload_n rfl 0 rfl dX7_refused_22 ?_
    refine g_aload_n rfl 1 rfl dX7_refused_23 ?_
    refine g_get (j := 8) cok7 (by decide) (.ref (eB E + 35)) (Or.inl tw2_72) oS0 vS0_8 dX7_refused_24 ?_
    refine g_alenL 1 (5 : Int32) (by decide) aS35 (by decide) rfl dX7_refused_27 ?_
    refine g_icmp_ge 41 (by decide) dX7_refused_28 (fun h2 => ?_) (fun h2 => ?_)
    · rw [if_pos h2] at hf
      refine g_lvs [1, 2] rfl ?_
      exact wX7_refused_b41 B  l1 st hf
    · rw [if_neg h2] at hf
      refine g_aload_n rfl 1 rfl dX7_refused_31 ?_
      refine g_get (j := 8) cok7 (by decide) (.ref (eB E + 35)) (Or.inl tw2_72) oS0 vS0_8 dX7_refused_32 ?_
      refine g_iload_n rfl 0 rfl dX7_refused_35 ?_
      refine g_dup2 rfl rfl dX7_refused_36 ?_
      obtain ⟨h3, hf⟩ := chk_some hf
      refine g_ialdj s0.toNatClampNeg rfl aS35 (ixb_in h3) dX7_refused_37 ?_
      refine g_iconst (1 : Int32) (by decide) dX7_refused_38 ?_
      refine g_iadd dX7_refused_39 ?_
      obtain ⟨h4, hf⟩ := chk_some hf
      refine g_iastj s0.toNatClampNeg rfl aS35 (ixb_in h4) B.2.1 wpI dX7_refused_40 ?_
      refine g_lvs [1, 2] rfl ?_
      exact wX7_refused_b41 B  l1 (pI st 35 s0.toNatClampNeg ((sI st 35 s0.toNatClampNeg) + (1 : Int32))) hf
def fX7_refused (p1 : Int32) (st : St) : Option (Int32 × St) :=
  if p1 ≤ (-4 : Int32) then (fX7_refused_b17 p1 ((-p1) - (2 : Int32)) st) else (fX7_refused_b17 p1 ((-p1) - (1 : Int32)) st)
set_option maxHeartbeats 1000000 in
set_option maxRecDepth 20000 in
theorem wX7_refused {E : Ev} {x : Cx} {r0 : Int32} {u0 : St} (B : Bd E x (some FieldType.int) (0) 0 0 (some (.int r0)) u0) (p1 : Int32) (st : St)  (hf : fX7_refused p1 st = some (r0, u0)) : G E WT x RX7 cX7_refused 3 (0, 0) st 0 [(0, .ref (eB E + 0)), (1, .int p1)] [] := by
  unfold fX7_refused at hf
  refine g_iload_n rfl 1 rfl dX7_refused_0 ?_
  refine g_bipush (-4 : Int32) (by decide) dX7_refused_1 ?_
  refine g_icmp_le 13 (by decide) dX7_refused_3 (fun h1 => ?_) (fun h1 => ?_)
  · rw [if_pos h1] at hf
    refine g_iload_n rfl 1 rfl dX7_refused_13 ?_
    refine g_ineg dX7_refused_14 ?_
    refine g_iconst (2 : Int32) (by decide) dX7_refused_15 ?_
    refine g_isub dX7_refused_16 ?_
    refine g_lvs [0, 1] rfl ?_
    exact wX7_refused_b17 B  p1 ((-p1) - (2 : Int32)) st hf
  · rw [if_neg h1] at hf
    refine g_iload_n rfl 1 rfl dX7_refused_6 ?_
    refine g_ineg dX7_refused_7 ?_
    refine g_iconst (1 : Int32) (by decide) dX7_refused_8 ?_
    refine g_isub dX7_refused_9 ?_
    refine g_goto 17 (by decide) dX7_refused_10 ?_
    refine g_lvs [0, 1] rfl ?_
    exact wX7_refused_b17 B  p1 ((-p1) - (1 : Int32)) st hf
theorem kX7_refused {l : Launch} {E : Ev} {st : St} {p1 : Int32} {r0 : Int32} {u0 : St}  (hf : fX7_refused p1 st = some (r0, u0)) : CM l E WT yX7_refused cX7_refused 3 (some FieldType.int) 0 0 0 [.ref (eB E + 0), .int p1] st (some (.int r0)) u0 :=
  CM.intro mok_X7_refused (Nat.le_of_ble_eq_true rfl) (fun x hl hR ht hr hQ _ => wX7_refused ⟨hR, ht, hr, hQ⟩ p1 st hf)
def fX7_ringChanged  (st : St) : Option St :=
  (fX2_forget st).bind (fun q1 => fX6_forget q1)
set_option maxHeartbeats 1000000 in
set_option maxRecDepth 20000 in
theorem wX7_ringChanged {E : Ev} {x : Cx} {u0 : St} (B : Bd E x none (2) 0 0 none u0)  (st : St)  (hf : fX7_ringChanged st = some u0) : G E WT x RX7 cX7_ringChanged 1 (0, 0) st 0 [(0, .ref (eB E + 0))] [] := by
  unfold fX7_ringChanged at hf
  refine g_aload_n rfl 0 rfl dX7_ringChanged_0 ?_
  refine g_get (j := 3) cok7 (by decide) (.ref (eB E + 15)) (Or.inl tw2_67) oS0 vS0_3 dX7_ringChanged_1 ?_
  obtain ⟨q1, h2, hf⟩ := bnd_some hf
  refine g_callVN0v (As := []) (rest := []) cok2 mok_X2_forget nmm_8 tw2_128 ts1_3 oS15 B.1 (by decide) (kX2_forget  h2) rfl rfl (Nat.le_of_ble_eq_true rfl) ⟨Nat.le_refl _, Nat.le_refl _⟩ dX7_ringChanged_4 ?_
  refine g_aload_n rfl 0 rfl dX7_ringChanged_7 ?_
  refine g_get (j := 5) cok7 (by decide) (.ref (eB E + 19)) (Or.inl tw2_69) oS0 vS0_5 dX7_ringChanged_8 ?_
  refine g_callVN0v (As := []) (rest := []) cok6 mok_X6_forget nmm_9 tw2_132 ts1_4 oS19 B.1 (by decide) (kX6_forget  hf) rfl rfl (Nat.le_of_ble_eq_true rfl) ⟨Nat.le_refl _, Nat.le_refl _⟩ dX7_ringChanged_11 ?_
  exact g_ret B.2.2.2 B.2.2.1 rfl rfl dX7_ringChanged_14
theorem kX7_ringChanged {l : Launch} {E : Ev} {st : St}  {u0 : St}  (hf : fX7_ringChanged st = some u0) : CM l E WT yX7_ringChanged cX7_ringChanged 1 none 2 0 0 [.ref (eB E + 0)] st none u0 :=
  CM.intro mok_X7_ringChanged (Nat.le_of_ble_eq_true rfl) (fun x hl hR ht hr hQ _ => wX7_ringChanged ⟨hR, ht, hr, hQ⟩ st hf)
def fX7_settled (p1 : Int32) (st : St) : Option (Int32 × St) :=
  some (p1, pI st 0 11 (0 : Int32))
set_option maxHeartbeats 1000000 in
set_option maxRecDepth 20000 in
theorem wX7_settled {E : Ev} {x : Cx} {r0 : Int32} {u0 : St} (B : Bd E x (some FieldType.int) (0) 0 0 (some (.int r0)) u0) (p1 : Int32) (st : St)  (hf : fX7_settled p1 st = some (r0, u0)) : G E WT x RX7 cX7_settled 2 (0, 0) st 0 [(0, .ref (eB E + 0)), (1, .int p1)] [] := by
  unfold fX7_settled at hf
  refine g_aload_n rfl 0 rfl dX7_settled_0 ?_
  refine g_iconst (0 : Int32) (by decide) dX7_settled_1 ?_
  refine g_putI (j := 11) cok7 (by decide) rfl rfl rfl rfl (Or.inl tw2_75) oS0 B.2.1 wpI dX7_settled_2 ?_
  refine g_iload_n rfl 1 rfl dX7_settled_5 ?_
  exact g_iret B.2.2.2 B.2.2.1 (congrArg (fun z => some (Value.int z)) (Prod.mk.inj (Option.some.inj hf)).1.symm) (Prod.mk.inj (Option.some.inj hf)).2.symm dX7_settled_6
theorem kX7_settled {l : Launch} {E : Ev} {st : St} {p1 : Int32} {r0 : Int32} {u0 : St}  (hf : fX7_settled p1 st = some (r0, u0)) : CM l E WT yX7_settled cX7_settled 2 (some FieldType.int) 0 0 0 [.ref (eB E + 0), .int p1] st (some (.int r0)) u0 :=
  CM.intro mok_X7_settled (Nat.le_of_ble_eq_true rfl) (fun x hl hR ht hr hQ _ => wX7_settled ⟨hR, ht, hr, hQ⟩ p1 st hf)
def fX7_child_b10  (st : St) : Option (Int32 × St) :=
  fX7_refused (-1 : Int32) st
set_option maxHeartbeats 1000000 in
set_option maxRecDepth 20000 in
theorem wX7_child_b10 {E : Ev} {x : Cx} {r0 : Int32} {u0 : St} (B : Bd E x (some FieldType.int) (3) 0 0 (some (.int r0)) u0)  (st : St)  (hf : fX7_child_b10 st = some (r0, u0)) : G E WT x RX7 cX7_child 2 (0, 0) st 10 [(0, .ref (eB E + 0))] [] := by
  unfold fX7_child_b10 at hf
  refine g_aload_n rfl 0 rfl dX7_child_10 ?_
  refine g_iconst (-1 : Int32) (by decide) dX7_child_11 ?_
  refine g_callV0i (As := [.int (-1 : Int32)]) (rest := []) cok7 mok_X7_refused tw2_114 tw2_116 ts1_0 oS0 B.1 (by decide) (kX7_refused  hf) rfl rfl (Nat.le_of_ble_eq_true rfl) ⟨Nat.le_refl _, Nat.le_refl _⟩ dX7_child_12 ?_
  exact g_iret B.2.2.2 B.2.2.1 rfl rfl dX7_child_15
def fX7_child (p1 : Int32) (st : St) : Option (Int32 × St) :=
  if p1 < 0 then (fX7_child_b10  st) else (if p1 ≤ (9 : Int32) then (if (sI st 1 4) < (6 : Int32) then ((fX4_welcome p1 st).bind (fun q4 => (fX7_ringChanged q4).bind (fun q6 => fX7_settled ((sI q6 1 4) - (1 : Int32)) q6))) else (fX7_refused (-5 : Int32) st)) else (fX7_child_b10  st))
set_option maxHeartbeats 1000000 in
set_option maxRecDepth 20000 in
theorem wX7_child {E : Ev} {x : Cx} {r0 : Int32} {u0 : St} (B : Bd E x (some FieldType.int) (3) 0 0 (some (.int r0)) u0) (p1 : Int32) (st : St)  (hf : fX7_child p1 st = some (r0, u0)) : G E WT x RX7 cX7_child 2 (0, 0) st 0 [(0, .ref (eB E + 0)), (1, .int p1)] [] := by
  unfold fX7_child at hf
  refine g_iload_n rfl 1 rfl dX7_child_0 ?_
  refine g_if_lt 10 (by decide) dX7_child_1 (fun h1 => ?_) (fun h1 => ?_)
  · rw [if_pos h1] at hf
    refine g_lvs [0] rfl ?_
    exact wX7_child_b10 B  st hf
  · rw [if_neg h1] at hf
    refine g_iload_n rfl 1 rfl dX7_child_4 ?_
    refine g_bipush (9 : Int32) (by decide) dX7_child_5 ?_
    refine g_icmp_le 16 (by decide) dX7_child_7 (fun h2 => ?_) (fun h2 => ?_)
    · rw [if_pos h2] at hf
      refine g_aload_n rfl 0 rfl dX7_child_16 ?_
      refine g_get (j := 0) cok7 (by decide) (.ref (eB E + 1)) (Or.inl tw2_64) oS0 vS0_0 dX7_child_17 ?_
      refine g_get (j := 4) cok4 (by decide) (.int (sI st 1 4)) (Or.inr nf_10) oS1 (fun _ => rfl) dX7_child_20 ?_
      refine g_bipush (6 : Int32) (by decide) dX7_child_23 ?_
      refine g_icmp_lt 35 (by decide) dX7_child_25 (fun h3 => ?_) (fun h3 => ?_)
      · rw [if_pos h3] at hf
        refine g_aload_n rfl 0 rfl dX7_child_35 ?_
        refine g_get (j := 0) cok7 (by decide) (.ref (eB E + 1)) (Or.inl tw2_64) oS0 vS0_0 dX7_child_36 ?_
        refine g_iload_n rfl 1 rfl dX7_child_39 ?_
        obtain ⟨q4, h5, hf⟩ := bnd_some hf
        refine g_callVN0v (As := [.int p1]) (rest := []) cok4 mok_X4_welcome nmm_7 tw2_120 ts1_1 oS1 B.1 (by decide) (kX4_welcome  h5) rfl rfl (Nat.le_of_ble_eq_true rfl) ⟨Nat.le_refl _, Nat.le_refl _⟩ dX7_child_40 ?_
        refine g_aload_n rfl 0 rfl dX7_child_43 ?_
        obtain ⟨q6, h7, hf⟩ := bnd_some hf
        refine g_callV0v (As := []) (rest := []) cok7 mok_X7_ringChanged tw2_122 tw2_124 ts1_2 oS0 B.1 (by decide) (kX7_ringChanged  h7) rfl rfl (Nat.le_of_ble_eq_true rfl) ⟨Nat.le_refl _, Nat.le_refl _⟩ dX7_child_44 ?_
        refine g_aload_n rfl 0 rfl dX7_child_47 ?_
        refine g_aload_n rfl 0 rfl dX7_child_48 ?_
        refine g_get (j := 0) cok7 (by decide) (.ref (eB E + 1)) (Or.inl tw2_64) oS0 vS0_0 dX7_child_49 ?_
        refine g_get (j := 4) cok4 (by decide) (.int (sI q6 1 4)) (Or.inr nf_10) oS1 (fun _ => rfl) dX7_child_52 ?_
        refine g_iconst (1 : Int32) (by decide) dX7_child_55 ?_
        refine g_isub dX7_child_56 ?_
        refine g_callV0i (As := [.int ((sI q6 1 4) - (1 : Int32))]) (rest := []) cok7 mok_X7_settled tw2_138 tw2_140 ts1_5 oS0 B.1 (by decide) (kX7_settled  hf) rfl rfl (Nat.le_of_ble_eq_true rfl) ⟨Nat.le_refl _, Nat.le_refl _⟩ dX7_child_57 ?_
        exact g_iret B.2.2.2 B.2.2.1 rfl rfl dX7_child_60
      · rw [if_neg h3] at hf
        refine g_aload_n rfl 0 rfl dX7_child_28 ?_
        refine g_bipush (-5 : Int32) (by decide) dX7_child_29 ?_
        refine g_callV0i (As := [.int (-5 : Int32)]) (rest := []) cok7 mok_X7_refused tw2_114 tw2_116 ts1_0 oS0 B.1 (by decide) (kX7_refused  hf) rfl rfl (Nat.le_of_ble_eq_true rfl) ⟨Nat.le_refl _, Nat.le_refl _⟩ dX7_child_31 ?_
        exact g_iret B.2.2.2 B.2.2.1 rfl rfl dX7_child_34
    · rw [if_neg h2] at hf
      refine g_lvs [0] rfl ?_
      exact wX7_child_b10 B  st hf
theorem kX7_child {l : Launch} {E : Ev} {st : St} {p1 : Int32} {r0 : Int32} {u0 : St}  (hf : fX7_child p1 st = some (r0, u0)) : CM l E WT yX7_child cX7_child 2 (some FieldType.int) 3 0 0 [.ref (eB E + 0), .int p1] st (some (.int r0)) u0 :=
  CM.intro mok_X7_child (Nat.le_of_ble_eq_true rfl) (fun x hl hR ht hr hQ _ => wX7_child ⟨hR, ht, hr, hQ⟩ p1 st hf)
def fX7_of (st : St) (p1 : Int32) (p2 : Int32) : Option Int32 :=
  if (fX4_lacksChild st p1) = 0 then (if p2 = (0 : Int32) then (chk (ixb p1 6) (some (sI st 2 p1.toNatClampNeg))) else (if p2 = (1 : Int32) then (some ((jshr (sI st 1 5) p1) &&& (1 : Int32))) else (some (-1 : Int32)))) else (some (-1 : Int32))
set_option maxHeartbeats 1000000 in
set_option maxRecDepth 20000 in
theorem wX7_of {E : Ev} {x : Cx} {r0 : Int32} {st : St} (B : Bd E x (some FieldType.int) (1) 0 0 (some (.int r0)) st) (p1 : Int32) (p2 : Int32)  (hf : fX7_of st p1 p2 = some r0) : G E WT x RX7 cX7_of 3 (0, 0) st 0 [(0, .ref (eB E + 0)), (1, .int p1), (2, .int p2)] [] := by
  unfold fX7_of at hf
  refine g_aload_n rfl 0 rfl dX7_of_0 ?_
  refine g_get (j := 0) cok7 (by decide) (.ref (eB E + 1)) (Or.inl tw2_64) oS0 vS0_0 dX7_of_1 ?_
  refine g_iload_n rfl 1 rfl dX7_of_4 ?_
  refine g_callVN0i (As := [.int p1]) (rest := []) cok4 mok_X4_lacksChild nmm_10 tw2_148 ts1_6 oS1 B.1 (by decide) (kX4_lacksChild  rfl) rfl rfl (Nat.le_of_ble_eq_true rfl) ⟨Nat.le_refl _, Nat.le_refl _⟩ dX7_of_5 ?_
  refine g_if_eq 13 (by decide) dX7_of_8 (fun h1 => ?_) (fun h1 => ?_)
  · rw [if_pos h1] at hf
    refine g_iload_n rfl 2 rfl dX7_of_13 ?_
    by_cases h2 : p2 = (0 : Int32)
    · rw [if_pos h2] at hf
      refine g_lookup (26) 40 dX7_of_14 (by decide) (by rw [h2]; decide) (by decide) ?_
      refine g_aload_n rfl 0 rfl dX7_of_40 ?_
      refine g_get (j := 0) cok7 (by decide) (.ref (eB E + 1)) (Or.inl tw2_64) oS0 vS0_0 dX7_of_41 ?_
      refine g_get (j := 0) cok4 (by decide) (.ref (eB E + 2)) (Or.inr nf_0) oS1 vS1_0 dX7_of_44 ?_
      refine g_iload_n rfl 1 rfl dX7_of_47 ?_
      obtain ⟨h3, hf⟩ := chk_some hf
      refine g_ialdj p1.toNatClampNeg rfl aS2 (ixb_in h3) dX7_of_48 ?_
      exact g_iret B.2.2.2 B.2.2.1 (congrArg (fun z => some (Value.int z)) (Option.some.inj hf).symm) rfl dX7_of_49
    · rw [if_neg h2] at hf
      by_cases h4 : p2 = (1 : Int32)
      · rw [if_pos h4] at hf
        refine g_lookup (36) 50 dX7_of_14 (by decide) (by rw [h4]; decide) (by decide) ?_
        refine g_aload_n rfl 0 rfl dX7_of_50 ?_
        refine g_get (j := 0) cok7 (by decide) (.ref (eB E + 1)) (Or.inl tw2_64) oS0 vS0_0 dX7_of_51 ?_
        refine g_get (j := 5) cok4 (by decide) (.int (sI st 1 5)) (Or.inr nf_13) oS1 (fun _ => rfl) dX7_of_54 ?_
        refine g_iload_n rfl 1 rfl dX7_of_57 ?_
        refine g_ishr dX7_of_58 ?_
        refine g_iconst (1 : Int32) (by decide) dX7_of_59 ?_
        refine g_iand dX7_of_60 ?_
        exact g_iret B.2.2.2 B.2.2.1 (congrArg (fun z => some (Value.int z)) (Option.some.inj hf).symm) rfl dX7_of_61
      · rw [if_neg h4] at hf
        refine g_lookup (48) 62 dX7_of_14 (by decide) (by show Op.lookupswitch.offset [(0, 26), (1, 36)] 48 _ = _; rw [lv_osw (a := 0) h2 rfl, lv_osw (a := 1) h4 rfl]; rfl) (by decide) ?_
        refine g_iconst (-1 : Int32) (by decide) dX7_of_62 ?_
        exact g_iret B.2.2.2 B.2.2.1 (congrArg (fun z => some (Value.int z)) (Option.some.inj hf).symm) rfl dX7_of_63
  · rw [if_neg h1] at hf
    refine g_iconst (-1 : Int32) (by decide) dX7_of_11 ?_
    exact g_iret B.2.2.2 B.2.2.1 (congrArg (fun z => some (Value.int z)) (Option.some.inj hf).symm) rfl dX7_of_12
theorem kX7_of {l : Launch} {E : Ev} {st : St} {p1 : Int32} {p2 : Int32} {r0 : Int32}  (hf : fX7_of st p1 p2 = some r0) : CM l E WT yX7_of cX7_of 3 (some FieldType.int) 1 0 0 [.ref (eB E + 0), .int p1, .int p2] st (some (.int r0)) st :=
  CM.intro mok_X7_of (Nat.le_of_ble_eq_true rfl) (fun x hl hR ht hr hQ _ => wX7_of ⟨hR, ht, hr, hQ⟩ p1 p2 hf)
def fX7_rhyme_b11  (st : St) : Option (Int32 × St) :=
  fX7_refused (-1 : Int32) st
set_option maxHeartbeats 1000000 in
set_option maxRecDepth 20000 in
theorem wX7_rhyme_b11 {E : Ev} {x : Cx} {r0 : Int32} {u0 : St} (B : Bd E x (some FieldType.int) (3) 0 0 (some (.int r0)) u0)  (st : St)  (hf : fX7_rhyme_b11 st = some (r0, u0)) : G E WT x RX7 cX7_rhyme 2 (0, 0) st 11 [(0, .ref (eB E + 0))] [] := by
  unfold fX7_rhyme_b11 at hf
  refine g_aload_n rfl 0 rfl dX7_rhyme_11 ?_
  refine g_iconst (-1 : Int32) (by decide) dX7_rhyme_12 ?_
  refine g_callV0i (As := [.int (-1 : Int32)]) (rest := []) cok7 mok_X7_refused tw2_114 tw2_116 ts1_0 oS0 B.1 (by decide) (kX7_refused  hf) rfl rfl (Nat.le_of_ble_eq_true rfl) ⟨Nat.le_refl _, Nat.le_refl _⟩ dX7_rhyme_13 ?_
  exact g_iret B.2.2.2 B.2.2.1 rfl rfl dX7_rhyme_16
def fX7_rhyme (p1 : Int32) (st : St) : Option (Int32 × St) :=
  if p1 < (1 : Int32) then (fX7_rhyme_b11  st) else (if p1 ≤ (15 : Int32) then (if (sI st 1 6) < (5 : Int32) then (chk (ixb (sI st 1 6) 5) ((fX7_ringChanged (pI (pI st 3 ((sI st 1 6).toNatClampNeg) p1) 1 6 ((sI (pI st 3 ((sI st 1 6).toNatClampNeg) p1) 1 6) + (1 : Int32)))).bind (fun q5 => fX7_settled ((sI q5 1 6) - (1 : Int32)) q5))) else (fX7_refused (-5 : Int32) st)) else (fX7_rhyme_b11  st))
set_option maxHeartbeats 1000000 in
set_option maxRecDepth 20000 in
theorem wX7_rhyme {E : Ev} {x : Cx} {r0 : Int32} {u0 : St} (B : Bd E x (some FieldType.int) (3) 0 0 (some (.int r0)) u0) (p1 : Int32) (st : St)  (hf : fX7_rhyme p1 st = some (r0, u0)) : G E WT x RX7 cX7_rhyme 2 (0, 0) st 0 [(0, .ref (eB E + 0)), (1, .int p1)] [] := by
  unfold fX7_rhyme at hf
  refine g_iload_n rfl 1 rfl dX7_rhyme_0 ?_
  refine g_iconst (1 : Int32) (by decide) dX7_rhyme_1 ?_
  refine g_icmp_lt 11 (by decide) dX7_rhyme_2 (fun h1 => ?_) (fun h1 => ?_)
  · rw [if_pos h1] at hf
    refine g_lvs [0] rfl ?_
    exact wX7_rhyme_b11 B  st hf
  · rw [if_neg h1] at hf
    refine g_iload_n rfl 1 rfl dX7_rhyme_5 ?_
    refine g_bipush (15 : Int32) (by decide) dX7_rhyme_6 ?_
    refine g_icmp_le 17 (by decide) dX7_rhyme_8 (fun h2 => ?_) (fun h2 => ?_)
    · rw [if_pos h2] at hf
      refine g_aload_n rfl 0 rfl dX7_rhyme_17 ?_
      refine g_get (j := 0) cok7 (by decide) (.ref (eB E + 1)) (Or.inl tw2_64) oS0 vS0_0 dX7_rhyme_18 ?_
      refine g_get (j := 6) cok4 (by decide) (.int (sI st 1 6)) (Or.inr nf_17) oS1 (fun _ => rfl) dX7_rhyme_21 ?_
      refine g_iconst (5 : Int32) (by decide) dX7_rhyme_24 ?_
      refine g_icmp_lt 35 (by decide) dX7_rhyme_25 (fun h3 => ?_) (fun h3 => ?_)
      · rw [if_pos h3] at hf
        refine g_aload_n rfl 0 rfl dX7_rhyme_35 ?_
        refine g_get (j := 0) cok7 (by decide) (.ref (eB E + 1)) (Or.inl tw2_64) oS0 vS0_0 dX7_rhyme_36 ?_
        refine g_get (j := 1) cok4 (by decide) (.ref (eB E + 3)) (Or.inr nf_2) oS1 vS1_1 dX7_rhyme_39 ?_
        refine g_aload_n rfl 0 rfl dX7_rhyme_42 ?_
        refine g_get (j := 0) cok7 (by decide) (.ref (eB E + 1)) (Or.inl tw2_64) oS0 vS0_0 dX7_rhyme_43 ?_
        refine g_get (j := 6) cok4 (by decide) (.int (sI st 1 6)) (Or.inr nf_17) oS1 (fun _ => rfl) dX7_rhyme_46 ?_
        refine g_iload_n rfl 1 rfl dX7_rhyme_49 ?_
        obtain ⟨h4, hf⟩ := chk_some hf
        refine g_iastj ((sI st 1 6).toNatClampNeg) rfl aS3 (ixb_in h4) B.2.1 wpI dX7_rhyme_50 ?_
        refine g_aload_n rfl 0 rfl dX7_rhyme_51 ?_
        refine g_get (j := 0) cok7 (by decide) (.ref (eB E + 1)) (Or.inl tw2_64) oS0 vS0_0 dX7_rhyme_52 ?_
        refine g_dup rfl dX7_rhyme_55 ?_
        refine g_get (j := 6) cok4 (by decide) (.int (sI (pI st 3 ((sI st 1 6).toNatClampNeg) p1) 1 6)) (Or.inr nf_17) oS1 (fun _ => rfl) dX7_rhyme_56 ?_
        refine g_iconst (1 : Int32) (by decide) dX7_rhyme_59 ?_
        refine g_iadd dX7_rhyme_60 ?_
        refine g_putI (j := 6) cok4 (by decide) rfl rfl rfl rfl (Or.inr nf_17) oS1 B.2.1 wpI dX7_rhyme_61 ?_
        refine g_aload_n rfl 0 rfl dX7_rhyme_64 ?_
        obtain ⟨q5, h6, hf⟩ := bnd_some hf
        refine g_callV0v (As := []) (rest := []) cok7 mok_X7_ringChanged tw2_122 tw2_124 ts1_2 oS0 B.1 (by decide) (kX7_ringChanged  h6) rfl rfl (Nat.le_of_ble_eq_true rfl) ⟨Nat.le_refl _, Nat.le_refl _⟩ dX7_rhyme_65 ?_
        refine g_aload_n rfl 0 rfl dX7_rhyme_68 ?_
        refine g_aload_n rfl 0 rfl dX7_rhyme_69 ?_
        refine g_get (j := 0) cok7 (by decide) (.ref (eB E + 1)) (Or.inl tw2_64) oS0 vS0_0 dX7_rhyme_70 ?_
        refine g_get (j := 6) cok4 (by decide) (.int (sI q5 1 6)) (Or.inr nf_17) oS1 (fun _ => rfl) dX7_rhyme_73 ?_
        refine g_iconst (1 : Int32) (by decide) dX7_rhyme_76 ?_
        refine g_isub dX7_rhyme_77 ?_
        refine g_callV0i (As := [.int ((sI q5 1 6) - (1 : Int32))]) (rest := []) cok7 mok_X7_settled tw2_138 tw2_140 ts1_5 oS0 B.1 (by decide) (kX7_settled  hf) rfl rfl (Nat.le_of_ble_eq_true rfl) ⟨Nat.le_refl _, Nat.le_refl _⟩ dX7_rhyme_78 ?_
        exact g_iret B.2.2.2 B.2.2.1 rfl rfl dX7_rhyme_81
      · rw [if_neg h3] at hf
        refine g_aload_n rfl 0 rfl dX7_rhyme_28 ?_
        refine g_bipush (-5 : Int32) (by decide) dX7_rhyme_29 ?_
        refine g_callV0i (As := [.int (-5 : Int32)]) (rest := []) cok7 mok_X7_refused tw2_114 tw2_116 ts1_0 oS0 B.1 (by decide) (kX7_refused  hf) rfl rfl (Nat.le_of_ble_eq_true rfl) ⟨Nat.le_refl _, Nat.le_refl _⟩ dX7_rhyme_31 ?_
        exact g_iret B.2.2.2 B.2.2.1 rfl rfl dX7_rhyme_34
    · rw [if_neg h2] at hf
      refine g_lvs [0] rfl ?_
      exact wX7_rhyme_b11 B  st hf
theorem kX7_rhyme {l : Launch} {E : Ev} {st : St} {p1 : Int32} {r0 : Int32} {u0 : St}  (hf : fX7_rhyme p1 st = some (r0, u0)) : CM l E WT yX7_rhyme cX7_rhyme 2 (some FieldType.int) 3 0 0 [.ref (eB E + 0), .int p1] st (some (.int r0)) u0 :=
  CM.intro mok_X7_rhyme (Nat.le_of_ble_eq_true rfl) (fun x hl hR ht hr hQ _ => wX7_rhyme ⟨hR, ht, hr, hQ⟩ p1 st hf)
def fX7_beats (st : St) (p1 : Int32) : Option Int32 :=
  if (fX4_lacksRhyme st p1) = 0 then (chk (ixb p1 5) (some (sI st 3 p1.toNatClampNeg))) else (some (-1 : Int32))
set_option maxHeartbeats 1000000 in
set_option maxRecDepth 20000 in
theorem wX7_beats {E : Ev} {x : Cx} {r0 : Int32} {st : St} (B : Bd E x (some FieldType.int) (1) 0 0 (some (.int r0)) st) (p1 : Int32)  (hf : fX7_beats st p1 = some r0) : G E WT x RX7 cX7_beats 2 (0, 0) st 0 [(0, .ref (eB E + 0)), (1, .int p1)] [] := by
  unfold fX7_beats at hf
  refine g_aload_n rfl 0 rfl dX7_beats_0 ?_
  refine g_get (j := 0) cok7 (by decide) (.ref (eB E + 1)) (Or.inl tw2_64) oS0 vS0_0 dX7_beats_1 ?_
  refine g_iload_n rfl 1 rfl dX7_beats_4 ?_
  refine g_callVN0i (As := [.int p1]) (rest := []) cok4 mok_X4_lacksRhyme nmm_11 tw2_160 ts1_7 oS1 B.1 (by decide) (kX4_lacksRhyme  rfl) rfl rfl (Nat.le_of_ble_eq_true rfl) ⟨Nat.le_refl _, Nat.le_refl _⟩ dX7_beats_5 ?_
  refine g_if_eq 15 (by decide) dX7_beats_8 (fun h1 => ?_) (fun h1 => ?_)
  · rw [if_pos h1] at hf
    refine g_aload_n rfl 0 rfl dX7_beats_15 ?_
    refine g_get (j := 0) cok7 (by decide) (.ref (eB E + 1)) (Or.inl tw2_64) oS0 vS0_0 dX7_beats_16 ?_
    refine g_get (j := 1) cok4 (by decide) (.ref (eB E + 3)) (Or.inr nf_2) oS1 vS1_1 dX7_beats_19 ?_
    refine g_iload_n rfl 1 rfl dX7_beats_22 ?_
    obtain ⟨h2, hf⟩ := chk_some hf
    refine g_ialdj p1.toNatClampNeg rfl aS3 (ixb_in h2) dX7_beats_23 ?_
    exact g_iret B.2.2.2 B.2.2.1 (congrArg (fun z => some (Value.int z)) (Option.some.inj hf).symm) rfl dX7_beats_24
  · rw [if_neg h1] at hf
    refine g_iconst (-1 : Int32) (by decide) dX7_beats_11 ?_
    refine g_goto 24 (by decide) dX7_beats_12 ?_
    exact g_iret B.2.2.2 B.2.2.1 (congrArg (fun z => some (Value.int z)) (Option.some.inj hf).symm) rfl dX7_beats_24
theorem kX7_beats {l : Launch} {E : Ev} {st : St} {p1 : Int32} {r0 : Int32}  (hf : fX7_beats st p1 = some r0) : CM l E WT yX7_beats cX7_beats 2 (some FieldType.int) 1 0 0 [.ref (eB E + 0), .int p1] st (some (.int r0)) st :=
  CM.intro mok_X7_beats (Nat.le_of_ble_eq_true rfl) (fun x hl hR ht hr hQ _ => wX7_beats ⟨hR, ht, hr, hQ⟩ p1 hf)
def fX7_tuneVoice  (st : St) : Option St :=
  (fX4_lawInForce st).bind (fun q1 => fX6_tune q1 (sI st 5 0) st)
set_option maxHeartbeats 1000000 in
set_option maxRecDepth 20000 in
theorem wX7_tuneVoice {E : Ev} {x : Cx} {u0 : St} (B : Bd E x none (3) 0 0 none u0)  (st : St)  (hf : fX7_tuneVoice st = some u0) : G E WT x RX7 cX7_tuneVoice 1 (0, 0) st 0 [(0, .ref (eB E + 0))] [] := by
  unfold fX7_tuneVoice at hf
  refine g_aload_n rfl 0 rfl dX7_tuneVoice_0 ?_
  refine g_get (j := 5) cok7 (by decide) (.ref (eB E + 19)) (Or.inl tw2_69) oS0 vS0_5 dX7_tuneVoice_1 ?_
  refine g_aload_n rfl 0 rfl dX7_tuneVoice_4 ?_
  refine g_get (j := 0) cok7 (by decide) (.ref (eB E + 1)) (Or.inl tw2_64) oS0 vS0_0 dX7_tuneVoice_5 ?_
  obtain ⟨q1, h2, hf⟩ := bnd_some hf
  refine g_callVN0r (As := []) (rest := [.ref (eB E + 19)]) cok4 mok_X4_lawInForce nmm_12 tw2_178 ts1_9 oS1 B.1 (by decide) (kX4_lawInForce  h2) rfl rfl (Nat.le_of_ble_eq_true rfl) ⟨Nat.le_refl _, Nat.le_refl _⟩ dX7_tuneVoice_8 ?_
  refine g_aload_n rfl 0 rfl dX7_tuneVoice_11 ?_
  refine g_get (j := 0) cok7 (by decide) (.ref (eB E + 1)) (Or.inl tw2_64) oS0 vS0_0 dX7_tuneVoice_12 ?_
  refine g_get (j := 3) cok4 (by decide) (.ref (eB E + 5)) (Or.inr nf_8) oS1 vS1_3 dX7_tuneVoice_15 ?_
  refine g_iconst (0 : Int32) (by decide) dX7_tuneVoice_18 ?_
  refine g_ialdj 0 rfl aS5 (ixb_in rfl) dX7_tuneVoice_19 ?_
  refine g_wt (fun w3 => ?_)
  refine g_callVN0v (As := [va_rf (q1.map (fun z => eB E + z)), .int (sI st 5 0)]) (rest := []) cok6 mok_X6_tune nmm_13 tw2_182 ts1_10 oS19 B.1 (by decide) (kX6_tune (lif_ob w3 h2) hf) rfl rfl (Nat.le_of_ble_eq_true rfl) ⟨Nat.le_refl _, Nat.le_refl _⟩ dX7_tuneVoice_20 ?_
  exact g_ret B.2.2.2 B.2.2.1 rfl rfl dX7_tuneVoice_23
theorem kX7_tuneVoice {l : Launch} {E : Ev} {st : St}  {u0 : St}  (hf : fX7_tuneVoice st = some u0) : CM l E WT yX7_tuneVoice cX7_tuneVoice 1 none 3 0 0 [.ref (eB E + 0)] st none u0 :=
  CM.intro mok_X7_tuneVoice (Nat.le_of_ble_eq_true rfl) (fun x hl hR ht hr hQ _ => wX7_tuneVoice ⟨hR, ht, hr, hQ⟩ st hf)
def fX7_asks (p1 : Int32) (p2 : Int32) (p3 : Int32) (p4 : Int32) (st : St) : Option (Int32 × St) :=
  if (fX4_lacksRhyme st p1) = 0 then (if (fX4_lacksChild st p2) = 0 then (if p3 < 0 then (some ((-1 : Int32), st)) else (if p3 ≤ (15 : Int32) then ((fX7_tuneVoice st).bind (fun q5 => if p4 = (0 : Int32) then (fX6_lengthOf p1 p2 (fJ6_bitCount_0f7a4 (sI st 1 5)) q5) else (if p4 = (1 : Int32) then ((fX6_isSo p4 p1 p2 p3 (fJ6_bitCount_0f7a4 (sI st 1 5)) q5).bind (fun q9 => if q9.1 = 0 then (some ((0 : Int32), q9.2)) else (some ((1 : Int32), q9.2)))) else (if p4 = (2 : Int32) then ((fX6_isSo p4 p1 p2 p3 (fJ6_bitCount_0f7a4 (sI st 1 5)) q5).bind (fun q13 => if q13.1 = 0 then (some ((0 : Int32), q13.2)) else (some ((1 : Int32), q13.2)))) else (if p4 = (3 : Int32) then ((fX6_isSo p4 p1 p2 p3 (fJ6_bitCount_0f7a4 (sI st 1 5)) q5).bind (fun q17 => if q17.1 = 0 then (some ((0 : Int32), q17.2)) else (some ((1 : Int32), q17.2)))) else (some ((-1 : Int32), q5))))))) else (some ((-1 : Int32), st)))) else (some ((-1 : Int32), st))) else (some ((-1 : Int32), st))
set_option maxHeartbeats 1000000 in
set_option maxRecDepth 20000 in
theorem wX7_asks {E : Ev} {x : Cx} {r0 : Int32} {u0 : St} (B : Bd E x (some FieldType.int) (5) 0 0 (some (.int r0)) u0) (p1 : Int32) (p2 : Int32) (p3 : Int32) (p4 : Int32) (st : St)  (hf : fX7_asks p1 p2 p3 p4 st = some (r0, u0)) : G E WT x RX7 cX7_asks 6 (0, 0) st 0 [(0, .ref (eB E + 0)), (1, .int p1), (2, .int p2), (3, .int p3), (4, .int p4)] [] := by
  unfold fX7_asks at hf
  refine g_aload_n rfl 0 rfl dX7_asks_0 ?_
  refine g_get (j := 0) cok7 (by decide) (.ref (eB E + 1)) (Or.inl tw2_64) oS0 vS0_0 dX7_asks_1 ?_
  refine g_iload_n rfl 1 rfl dX7_asks_4 ?_
  refine g_callVN0i (As := [.int p1]) (rest := []) cok4 mok_X4_lacksRhyme nmm_11 tw2_160 ts1_7 oS1 B.1 (by decide) (kX4_lacksRhyme  rfl) rfl rfl (Nat.le_of_ble_eq_true rfl) ⟨Nat.le_refl _, Nat.le_refl _⟩ dX7_asks_5 ?_
  refine g_if_ne 32 (by decide) dX7_asks_8 (fun h1 => ?_) (fun h1 => ?_)
  · rw [if_neg h1] at hf
    refine g_iconst (-1 : Int32) (by decide) dX7_asks_32 ?_
    exact g_iret B.2.2.2 B.2.2.1 (congrArg (fun z => some (Value.int z)) (Prod.mk.inj (Option.some.inj hf)).1.symm) (Prod.mk.inj (Option.some.inj hf)).2.symm dX7_asks_33
  · rw [if_pos h1] at hf
    refine g_aload_n rfl 0 rfl dX7_asks_11 ?_
    refine g_get (j := 0) cok7 (by decide) (.ref (eB E + 1)) (Or.inl tw2_64) oS0 vS0_0 dX7_asks_12 ?_
    refine g_iload_n rfl 2 rfl dX7_asks_15 ?_
    refine g_callVN0i (As := [.int p2]) (rest := []) cok4 mok_X4_lacksChild nmm_10 tw2_148 ts1_6 oS1 B.1 (by decide) (kX4_lacksChild  rfl) rfl rfl (Nat.le_of_ble_eq_true rfl) ⟨Nat.le_refl _, Nat.le_refl _⟩ dX7_asks_16 ?_
    refine g_if_ne 32 (by decide) dX7_asks_19 (fun h2 => ?_) (fun h2 => ?_)
    · rw [if_neg h2] at hf
      refine g_iconst (-1 : Int32) (by decide) dX7_asks_32 ?_
      exact g_iret B.2.2.2 B.2.2.1 (congrArg (fun z => some (Value.int z)) (Prod.mk.inj (Option.some.inj hf)).1.symm) (Prod.mk.inj (Option.some.inj hf)).2.symm dX7_asks_33
    · rw [if_pos h2] at hf
      refine g_iload_n rfl 3 rfl dX7_asks_22 ?_
      refine g_if_lt 32 (by decide) dX7_asks_23 (fun h3 => ?_) (fun h3 => ?_)
      · rw [if_pos h3] at hf
        refine g_iconst (-1 : Int32) (by decide) dX7_asks_32 ?_
        exact g_iret B.2.2.2 B.2.2.1 (congrArg (fun z => some (Value.int z)) (Prod.mk.inj (Option.some.inj hf)).1.symm) (Prod.mk.inj (Option.some.inj hf)).2.symm dX7_asks_33
      · rw [if_neg h3] at hf
        refine g_iload_n rfl 3 rfl dX7_asks_26 ?_
        refine g_bipush (15 : Int32) (by decide) dX7_asks_27 ?_
        refine g_icmp_le 34 (by decide) dX7_asks_29 (fun h4 => ?_) (fun h4 => ?_)
        · rw [if_pos h4] at hf
          refine g_aload_n rfl 0 rfl dX7_asks_34 ?_
          refine g_get (j := 0) cok7 (by decide) (.ref (eB E + 1)) (Or.inl tw2_64) oS0 vS0_0 dX7_asks_35 ?_
          refine g_get (j := 5) cok4 (by decide) (.int (sI st 1 5)) (Or.inr nf_13) oS1 (fun _ => rfl) dX7_asks_38 ?_
          refine g_callS0i (As := [.int (sI st 1 5)]) (rest := []) mok_J6_bitCount_0f7a4 tw2_166 tw2_167 B.1 (by decide) (kJ6_bitCount_0f7a4  rfl) rfl rfl (Nat.le_of_ble_eq_true rfl) ⟨Nat.le_refl _, Nat.le_refl _⟩ dX7_asks_41 ?_
          refine g_istore [(5, .int (fJ6_bitCount_0f7a4 (sI st 1 5))), (0, .ref (eB E + 0)), (1, .int p1), (2, .int p2), (3, .int p3), (4, .int p4)] (by decide) rfl dX7_asks_44 ?_
          refine g_aload_n rfl 1 rfl dX7_asks_46 ?_
          obtain ⟨q5, h6, hf⟩ := bnd_some hf
          refine g_callV0v (As := []) (rest := []) cok7 mok_X7_tuneVoice tw2_172 tw2_174 ts1_8 oS0 B.1 (by decide) (kX7_tuneVoice  h6) rfl rfl (Nat.le_of_ble_eq_true rfl) ⟨Nat.le_refl _, Nat.le_refl _⟩ dX7_asks_47 ?_
          refine g_iload 5 rfl dX7_asks_50 ?_
          by_cases h7 : p4 = (0 : Int32)
          · rw [if_pos h7] at hf
            refine g_tableIn 32 84 dX7_asks_52 (by rw [h7]; decide) (by rw [h7]; decide) (by rw [h7]; decide) (by decide) ?_
            refine g_aload_n rfl 1 rfl dX7_asks_84 ?_
            refine g_get (j := 5) cok7 (by decide) (.ref (eB E + 19)) (Or.inl tw2_69) oS0 vS0_5 dX7_asks_85 ?_
            refine g_iload_n rfl 2 rfl dX7_asks_88 ?_
            refine g_iload_n rfl 3 rfl dX7_asks_89 ?_
            refine g_iload 0 rfl dX7_asks_90 ?_
            refine g_callVN0i (As := [.int p1, .int p2, .int (fJ6_bitCount_0f7a4 (sI st 1 5))]) (rest := []) cok6 mok_X6_lengthOf nmm_14 tw2_187 ts1_11 oS19 B.1 (by decide) (kX6_lengthOf  hf) rfl rfl (Nat.le_of_ble_eq_true rfl) ⟨Nat.le_refl _, Nat.le_refl _⟩ dX7_asks_92 ?_
            exact g_iret B.2.2.2 B.2.2.1 rfl rfl dX7_asks_95
          · rw [if_neg h7] at hf
            by_cases h8 : p4 = (1 : Int32)
            · rw [if_pos h8] at hf
              refine g_tableIn 44 96 dX7_asks_52 (by rw [h8]; decide) (by rw [h8]; decide) (by rw [h8]; decide) (by decide) ?_
              refine g_aload_n rfl 1 rfl dX7_asks_96 ?_
              refine g_get (j := 5) cok7 (by decide) (.ref (eB E + 19)) (Or.inl tw2_69) oS0 vS0_5 dX7_asks_97 ?_
              refine g_iload 5 rfl dX7_asks_100 ?_
              refine g_iload_n rfl 2 rfl dX7_asks_102 ?_
              refine g_iload_n rfl 3 rfl dX7_asks_103 ?_
              refine g_iload_n rfl 4 rfl dX7_asks_104 ?_
              refine g_iload 0 rfl dX7_asks_105 ?_
              obtain ⟨q9, h10, hf⟩ := bnd_some hf
              refine g_callVN0i (As := [.int p4, .int p1, .int p2, .int p3, .int (fJ6_bitCount_0f7a4 (sI st 1 5))]) (rest := []) cok6 mok_X6_isSo nmm_17 tw2_214 ts1_15 oS19 B.1 (by decide) (kX6_isSo  h10) rfl rfl (Nat.le_of_ble_eq_true rfl) ⟨Nat.le_refl _, Nat.le_refl _⟩ dX7_asks_107 ?_
              refine g_if_eq 117 (by decide) dX7_asks_110 (fun h11 => ?_) (fun h11 => ?_)
              · rw [if_pos h11] at hf
                refine g_iconst (0 : Int32) (by decide) dX7_asks_117 ?_
                exact g_iret B.2.2.2 B.2.2.1 (congrArg (fun z => some (Value.int z)) (Prod.mk.inj (Option.some.inj hf)).1.symm) (Prod.mk.inj (Option.some.inj hf)).2.symm dX7_asks_118
              · rw [if_neg h11] at hf
                refine g_iconst (1 : Int32) (by decide) dX7_asks_113 ?_
                refine g_goto 118 (by decide) dX7_asks_114 ?_
                exact g_iret B.2.2.2 B.2.2.1 (congrArg (fun z => some (Value.int z)) (Prod.mk.inj (Option.some.inj hf)).1.symm) (Prod.mk.inj (Option.some.inj hf)).2.symm dX7_asks_118
            · rw [if_neg h8] at hf
              by_cases h12 : p4 = (2 : Int32)
              · rw [if_pos h12] at hf
                refine g_tableIn 44 96 dX7_asks_52 (by rw [h12]; decide) (by rw [h12]; decide) (by rw [h12]; decide) (by decide) ?_
                refine g_aload_n rfl 1 rfl dX7_asks_96 ?_
                refine g_get (j := 5) cok7 (by decide) (.ref (eB E + 19)) (Or.inl tw2_69) oS0 vS0_5 dX7_asks_97 ?_
                refine g_iload 5 rfl dX7_asks_100 ?_
                refine g_iload_n rfl 2 rfl dX7_asks_102 ?_
                refine g_iload_n rfl 3 rfl dX7_asks_103 ?_
                refine g_iload_n rfl 4 rfl dX7_asks_104 ?_
                refine g_iload 0 rfl dX7_asks_105 ?_
                obtain ⟨q13, h14, hf⟩ := bnd_some hf
                refine g_callVN0i (As := [.int p4, .int p1, .int p2, .int p3, .int (fJ6_bitCount_0f7a4 (sI st 1 5))]) (rest := []) cok6 mok_X6_isSo nmm_17 tw2_214 ts1_15 oS19 B.1 (by decide) (kX6_isSo  h14) rfl rfl (Nat.le_of_ble_eq_true rfl) ⟨Nat.le_refl _, Nat.le_refl _⟩ dX7_asks_107 ?_
                refine g_if_eq 117 (by decide) dX7_asks_110 (fun h15 => ?_) (fun h15 => ?_)
                · rw [if_pos h15] at hf
                  refine g_iconst (0 : Int32) (by decide) dX7_asks_117 ?_
                  exact g_iret B.2.2.2 B.2.2.1 (congrArg (fun z => some (Value.int z)) (Prod.mk.inj (Option.some.inj hf)).1.symm) (Prod.mk.inj (Option.some.inj hf)).2.symm dX7_asks_118
                · rw [if_neg h15] at hf
                  refine g_iconst (1 : Int32) (by decide) dX7_asks_113 ?_
                  refine g_goto 118 (by decide) dX7_asks_114 ?_
                  exact g_iret B.2.2.2 B.2.2.1 (congrArg (fun z => some (Value.int z)) (Prod.mk.inj (Option.some.inj hf)).1.symm) (Prod.mk.inj (Option.some.inj hf)).2.symm dX7_asks_118
              · rw [if_neg h12] at hf
                by_cases h16 : p4 = (3 : Int32)
                · rw [if_pos h16] at hf
                  refine g_tableIn 44 96 dX7_asks_52 (by rw [h16]; decide) (by rw [h16]; decide) (by rw [h16]; decide) (by decide) ?_
                  refine g_aload_n rfl 1 rfl dX7_asks_96 ?_
                  refine g_get (j := 5) cok7 (by decide) (.ref (eB E + 19)) (Or.inl tw2_69) oS0 vS0_5 dX7_asks_97 ?_
                  refine g_iload 5 rfl dX7_asks_100 ?_
                  refine g_iload_n rfl 2 rfl dX7_asks_102 ?_
                  refine g_iload_n rfl 3 rfl dX7_asks_103 ?_
                  refine g_iload_n rfl 4 rfl dX7_asks_104 ?_
                  refine g_iload 0 rfl dX7_asks_105 ?_
                  obtain ⟨q17, h18, hf⟩ := bnd_some hf
                  refine g_callVN0i (As := [.int p4, .int p1, .int p2, .int p3, .int (fJ6_bitCount_0f7a4 (sI st 1 5))]) (rest := []) cok6 mok_X6_isSo nmm_17 tw2_214 ts1_15 oS19 B.1 (by decide) (kX6_isSo  h18) rfl rfl (Nat.le_of_ble_eq_true rfl) ⟨Nat.le_refl _, Nat.le_refl _⟩ dX7_asks_107 ?_
                  refine g_if_eq 117 (by decide) dX7_asks_110 (fun h19 => ?_) (fun h19 => ?_)
                  · rw [if_pos h19] at hf
                    refine g_iconst (0 : Int32) (by decide) dX7_asks_117 ?_
                    exact g_iret B.2.2.2 B.2.2.1 (congrArg (fun z => some (Value.int z)) (Prod.mk.inj (Option.some.inj hf)).1.symm) (Prod.mk.inj (Option.some.inj hf)).2.symm dX7_asks_118
                  · rw [if_neg h19] at hf
                    refine g_iconst (1 : Int32) (by decide) dX7_asks_113 ?_
                    refine g_goto 118 (by decide) dX7_asks_114 ?_
                    exact g_iret B.2.2.2 B.2.2.1 (congrArg (fun z => some (Value.int z)) (Prod.mk.inj (Option.some.inj hf)).1.symm) (Prod.mk.inj (Option.some.inj hf)).2.symm dX7_asks_118
                · rw [if_neg h16] at hf
                  refine g_tableOut 119 dX7_asks_52 (tab_out [(0 : Int32), (1 : Int32), (2 : Int32), (3 : Int32)] 4 (by decide) (by simp only [List.forall_mem_cons]; exact ⟨h7, h8, h12, h16, fun _ h => nomatch h⟩) (by decide)) (by decide) ?_
                  refine g_iconst (-1 : Int32) (by decide) dX7_asks_119 ?_
                  exact g_iret B.2.2.2 B.2.2.1 (congrArg (fun z => some (Value.int z)) (Prod.mk.inj (Option.some.inj hf)).1.symm) (Prod.mk.inj (Option.some.inj hf)).2.symm dX7_asks_120
        · rw [if_neg h4] at hf
          refine g_iconst (-1 : Int32) (by decide) dX7_asks_32 ?_
          exact g_iret B.2.2.2 B.2.2.1 (congrArg (fun z => some (Value.int z)) (Prod.mk.inj (Option.some.inj hf)).1.symm) (Prod.mk.inj (Option.some.inj hf)).2.symm dX7_asks_33
theorem kX7_asks {l : Launch} {E : Ev} {st : St} {p1 : Int32} {p2 : Int32} {p3 : Int32} {p4 : Int32} {r0 : Int32} {u0 : St}  (hf : fX7_asks p1 p2 p3 p4 st = some (r0, u0)) : CM l E WT yX7_asks cX7_asks 6 (some FieldType.int) 5 0 0 [.ref (eB E + 0), .int p1, .int p2, .int p3, .int p4] st (some (.int r0)) u0 :=
  CM.intro mok_X7_asks (Nat.le_of_ble_eq_true rfl) (fun x hl hR ht hr hQ _ => wX7_asks ⟨hR, ht, hr, hQ⟩ p1 p2 p3 p4 st hf)
def fX7_terms_b22  (st : St) : Option (Int32 × St) :=
  fX7_refused (-1 : Int32) st
set_option maxHeartbeats 1000000 in
set_option maxRecDepth 20000 in
theorem wX7_terms_b22 {E : Ev} {x : Cx} {r0 : Int32} {u0 : St} (B : Bd E x (some FieldType.int) (1) 0 0 (some (.int r0)) u0)  (st : St)  (hf : fX7_terms_b22 st = some (r0, u0)) : G E WT x RX7 cX7_terms 4 (0, 0) st 22 [(0, .ref (eB E + 0))] [] := by
  unfold fX7_terms_b22 at hf
  refine g_aload_n rfl 0 rfl dX7_terms_22 ?_
  refine g_iconst (-1 : Int32) (by decide) dX7_terms_23 ?_
  refine g_callV0i (As := [.int (-1 : Int32)]) (rest := []) cok7 mok_X7_refused tw2_114 tw2_116 ts1_0 oS0 B.1 (by decide) (kX7_refused  hf) rfl rfl (Nat.le_of_ble_eq_true rfl) ⟨Nat.le_refl _, Nat.le_refl _⟩ dX7_terms_24 ?_
  exact g_iret B.2.2.2 B.2.2.1 rfl rfl dX7_terms_27
def fX7_terms (p1 : Int32) (p2 : Int32) (st : St) : Option (Int32 × St) :=
  if p1 < 0 then (fX7_terms_b22  st) else (if (4 : Int32) ≤ p1 then (fX7_terms_b22  st) else (if p2 < 0 then (fX7_terms_b22  st) else (chk (ixb p1 4) (if p2 ≤ (tmax p1.toNatClampNeg) then (chk (ixb p1 4) (chk (ixb p1 4) ((fX2_forget (pI st 5 p1.toNatClampNeg p2)).bind (fun q8 => fX7_settled (sI st 5 p1.toNatClampNeg) q8)))) else (fX7_terms_b22  st)))))
set_option maxHeartbeats 1000000 in
set_option maxRecDepth 20000 in
theorem wX7_terms {E : Ev} {x : Cx} {r0 : Int32} {u0 : St} (B : Bd E x (some FieldType.int) (1) 0 0 (some (.int r0)) u0) (p1 : Int32) (p2 : Int32) (st : St)  (hf : fX7_terms p1 p2 st = some (r0, u0)) : G E WT x RX7 cX7_terms 4 (0, 0) st 0 [(0, .ref (eB E + 0)), (1, .int p1), (2, .int p2)] [] := by
  unfold fX7_terms at hf
  refine g_iload_n rfl 1 rfl dX7_terms_0 ?_
  refine g_if_lt 22 (by decide) dX7_terms_1 (fun h1 => ?_) (fun h1 => ?_)
  · rw [if_pos h1] at hf
    refine g_lvs [0] rfl ?_
    exact wX7_terms_b22 B  st hf
  · rw [if_neg h1] at hf
    refine g_iload_n rfl 1 rfl dX7_terms_4 ?_
    refine g_iconst (4 : Int32) (by decide) dX7_terms_5 ?_
    refine g_icmp_ge 22 (by decide) dX7_terms_6 (fun h2 => ?_) (fun h2 => ?_)
    · rw [if_pos h2] at hf
      refine g_lvs [0] rfl ?_
      exact wX7_terms_b22 B  st hf
    · rw [if_neg h2] at hf
      refine g_iload_n rfl 2 rfl dX7_terms_9 ?_
      refine g_if_lt 22 (by decide) dX7_terms_10 (fun h3 => ?_) (fun h3 => ?_)
      · rw [if_pos h3] at hf
        refine g_lvs [0] rfl ?_
        exact wX7_terms_b22 B  st hf
      · rw [if_neg h3] at hf
        refine g_iload_n rfl 2 rfl dX7_terms_13 ?_
        refine g_gets tw2_220 dX7_terms_14 ?_
        refine g_iload_n rfl 1 rfl dX7_terms_17 ?_
        obtain ⟨h4, hf⟩ := chk_some hf
        refine g_tald (ixb_in h4) dX7_terms_18 ?_
        refine g_icmp_le 28 (by decide) dX7_terms_19 (fun h5 => ?_) (fun h5 => ?_)
        · rw [if_pos h5] at hf
          refine g_aload_n rfl 0 rfl dX7_terms_28 ?_
          refine g_get (j := 0) cok7 (by decide) (.ref (eB E + 1)) (Or.inl tw2_64) oS0 vS0_0 dX7_terms_29 ?_
          refine g_get (j := 3) cok4 (by decide) (.ref (eB E + 5)) (Or.inr nf_8) oS1 vS1_3 dX7_terms_32 ?_
          refine g_iload_n rfl 1 rfl dX7_terms_35 ?_
          obtain ⟨h6, hf⟩ := chk_some hf
          refine g_ialdj p1.toNatClampNeg rfl aS5 (ixb_in h6) dX7_terms_36 ?_
          refine g_istore_n rfl [(3, .int (sI st 5 p1.toNatClampNeg)), (0, .ref (eB E + 0)), (1, .int p1), (2, .int p2)] (by decide) rfl dX7_terms_37 ?_
          refine g_aload_n rfl 1 rfl dX7_terms_38 ?_
          refine g_get (j := 0) cok7 (by decide) (.ref (eB E + 1)) (Or.inl tw2_64) oS0 vS0_0 dX7_terms_39 ?_
          refine g_get (j := 3) cok4 (by decide) (.ref (eB E + 5)) (Or.inr nf_8) oS1 vS1_3 dX7_terms_42 ?_
          refine g_iload_n rfl 2 rfl dX7_terms_45 ?_
          refine g_iload_n rfl 3 rfl dX7_terms_46 ?_
          obtain ⟨h7, hf⟩ := chk_some hf
          refine g_iastj p1.toNatClampNeg rfl aS5 (ixb_in h7) B.2.1 wpI dX7_terms_47 ?_
          refine g_aload_n rfl 1 rfl dX7_terms_48 ?_
          refine g_get (j := 3) cok7 (by decide) (.ref (eB E + 15)) (Or.inl tw2_67) oS0 vS0_3 dX7_terms_49 ?_
          obtain ⟨q8, h9, hf⟩ := bnd_some hf
          refine g_callVN0v (As := []) (rest := []) cok2 mok_X2_forget nmm_8 tw2_128 ts1_3 oS15 B.1 (by decide) (kX2_forget  h9) rfl rfl (Nat.le_of_ble_eq_true rfl) ⟨Nat.le_refl _, Nat.le_refl _⟩ dX7_terms_52 ?_
          refine g_aload_n rfl 1 rfl dX7_terms_55 ?_
          refine g_iload_n rfl 0 rfl dX7_terms_56 ?_
          refine g_callV0i (As := [.int (sI st 5 p1.toNatClampNeg)]) (rest := []) cok7 mok_X7_settled tw2_138 tw2_140 ts1_5 oS0 B.1 (by decide) (kX7_settled  hf) rfl rfl (Nat.le_of_ble_eq_true rfl) ⟨Nat.le_refl _, Nat.le_refl _⟩ dX7_terms_57 ?_
          exact g_iret B.2.2.2 B.2.2.1 rfl rfl dX7_terms_60
        · rw [if_neg h5] at hf
          refine g_lvs [0] rfl ?_
          exact wX7_terms_b22 B  st hf
theorem kX7_terms {l : Launch} {E : Ev} {st : St} {p1 : Int32} {p2 : Int32} {r0 : Int32} {u0 : St}  (hf : fX7_terms p1 p2 st = some (r0, u0)) : CM l E WT yX7_terms cX7_terms 4 (some FieldType.int) 1 0 0 [.ref (eB E + 0), .int p1, .int p2] st (some (.int r0)) u0 :=
  CM.intro mok_X7_terms (Nat.le_of_ble_eq_true rfl) (fun x hl hR ht hr hQ _ => wX7_terms ⟨hR, ht, hr, hQ⟩ p1 p2 st hf)
def fX7_feed (p1 : Int32) (p2 : Int32) (p3 : Int32) (p4 : Int32) (p5 : Int32) (st : St) : Option (Int32 × St) :=
  if (fX3_hasRoomFor st (20 : Int32)) = 0 then (some ((-1 : Int32), st)) else ((fX3_append p1 st).bind (fun q2 => (fX3_append p2 q2).bind (fun q4 => (fX3_append p3 q4).bind (fun q6 => (fX3_append p4 q6).bind (fun q8 => (fX3_append p5 q8).bind (fun q10 => some (sI q10 7 2, q10)))))))
set_option maxHeartbeats 1000000 in
set_option maxRecDepth 20000 in
theorem wX7_feed {E : Ev} {x : Cx} {r0 : Int32} {u0 : St} (B : Bd E x (some FieldType.int) (1) 0 0 (some (.int r0)) u0) (p1 : Int32) (p2 : Int32) (p3 : Int32) (p4 : Int32) (p5 : Int32) (st : St)  (hf : fX7_feed p1 p2 p3 p4 p5 st = some (r0, u0)) : G E WT x RX7 cX7_feed 6 (0, 0) st 0 [(0, .ref (eB E + 0)), (1, .int p1), (2, .int p2), (3, .int p3), (4, .int p4), (5, .int p5)] [] := by
  unfold fX7_feed at hf
  refine g_aload_n rfl 0 rfl dX7_feed_0 ?_
  refine g_get (j := 2) cok7 (by decide) (.ref (eB E + 7)) (Or.inl tw2_66) oS0 vS0_2 dX7_feed_1 ?_
  refine g_bipush (20 : Int32) (by decide) dX7_feed_4 ?_
  refine g_callVN0i (As := [.int (20 : Int32)]) (rest := []) cok3 mok_X3_hasRoomFor nmm_18 tw2_228 ts2_0 oS7 B.1 (by decide) (kX3_hasRoomFor  rfl) rfl rfl (Nat.le_of_ble_eq_true rfl) ⟨Nat.le_refl _, Nat.le_refl _⟩ dX7_feed_6 ?_
  refine g_if_ne 14 (by decide) dX7_feed_9 (fun h1 => ?_) (fun h1 => ?_)
  · rw [if_neg h1] at hf
    refine g_aload_n rfl 0 rfl dX7_feed_14 ?_
    refine g_get (j := 2) cok7 (by decide) (.ref (eB E + 7)) (Or.inl tw2_66) oS0 vS0_2 dX7_feed_15 ?_
    refine g_iload_n rfl 1 rfl dX7_feed_18 ?_
    obtain ⟨q2, h3, hf⟩ := bnd_some hf
    refine g_callVN0v (As := [.int p1]) (rest := []) cok3 mok_X3_append nmm_19 tw2_232 ts2_1 oS7 B.1 (by decide) (kX3_append  h3) rfl rfl (Nat.le_of_ble_eq_true rfl) ⟨Nat.le_refl _, Nat.le_refl _⟩ dX7_feed_19 ?_
    refine g_aload_n rfl 0 rfl dX7_feed_22 ?_
    refine g_get (j := 2) cok7 (by decide) (.ref (eB E + 7)) (Or.inl tw2_66) oS0 vS0_2 dX7_feed_23 ?_
    refine g_iload_n rfl 2 rfl dX7_feed_26 ?_
    obtain ⟨q4, h5, hf⟩ := bnd_some hf
    refine g_callVN0v (As := [.int p2]) (rest := []) cok3 mok_X3_append nmm_19 tw2_232 ts2_1 oS7 B.1 (by decide) (kX3_append  h5) rfl rfl (Nat.le_of_ble_eq_true rfl) ⟨Nat.le_refl _, Nat.le_refl _⟩ dX7_feed_27 ?_
    refine g_aload_n rfl 0 rfl dX7_feed_30 ?_
    refine g_get (j := 2) cok7 (by decide) (.ref (eB E + 7)) (Or.inl tw2_66) oS0 vS0_2 dX7_feed_31 ?_
    refine g_iload_n rfl 3 rfl dX7_feed_34 ?_
    obtain ⟨q6, h7, hf⟩ := bnd_some hf
    refine g_callVN0v (As := [.int p3]) (rest := []) cok3 mok_X3_append nmm_19 tw2_232 ts2_1 oS7 B.1 (by decide) (kX3_append  h7) rfl rfl (Nat.le_of_ble_eq_true rfl) ⟨Nat.le_refl _, Nat.le_refl _⟩ dX7_feed_35 ?_
    refine g_aload_n rfl 0 rfl dX7_feed_38 ?_
    refine g_get (j := 2) cok7 (by decide) (.ref (eB E + 7)) (Or.inl tw2_66) oS0 vS0_2 dX7_feed_39 ?_
    refine g_iload 4 rfl dX7_feed_42 ?_
    obtain ⟨q8, h9, hf⟩ := bnd_some hf
    refine g_callVN0v (As := [.int p4]) (rest := []) cok3 mok_X3_append nmm_19 tw2_232 ts2_1 oS7 B.1 (by decide) (kX3_append  h9) rfl rfl (Nat.le_of_ble_eq_true rfl) ⟨Nat.le_refl _, Nat.le_refl _⟩ dX7_feed_44 ?_
    refine g_aload_n rfl 0 rfl dX7_feed_47 ?_
    refine g_get (j := 2) cok7 (by decide) (.ref (eB E + 7)) (Or.inl tw2_66) oS0 vS0_2 dX7_feed_48 ?_
    refine g_iload 5 rfl dX7_feed_51 ?_
    obtain ⟨q10, h11, hf⟩ := bnd_some hf
    refine g_callVN0v (As := [.int p5]) (rest := []) cok3 mok_X3_append nmm_19 tw2_232 ts2_1 oS7 B.1 (by decide) (kX3_append  h11) rfl rfl (Nat.le_of_ble_eq_true rfl) ⟨Nat.le_refl _, Nat.le_refl _⟩ dX7_feed_53 ?_
    refine g_aload_n rfl 0 rfl dX7_feed_56 ?_
    refine g_get (j := 2) cok7 (by decide) (.ref (eB E + 7)) (Or.inl tw2_66) oS0 vS0_2 dX7_feed_57 ?_
    refine g_get (j := 2) cok3 (by decide) (.int (sI q10 7 2)) (Or.inr nf_39) oS7 (fun _ => rfl) dX7_feed_60 ?_
    exact g_iret B.2.2.2 B.2.2.1 (congrArg (fun z => some (Value.int z)) (Prod.mk.inj (Option.some.inj hf)).1.symm) (Prod.mk.inj (Option.some.inj hf)).2.symm dX7_feed_63
  · rw [if_pos h1] at hf
    refine g_iconst (-1 : Int32) (by decide) dX7_feed_12 ?_
    exact g_iret B.2.2.2 B.2.2.1 (congrArg (fun z => some (Value.int z)) (Prod.mk.inj (Option.some.inj hf)).1.symm) (Prod.mk.inj (Option.some.inj hf)).2.symm dX7_feed_13
theorem kX7_feed {l : Launch} {E : Ev} {st : St} {p1 : Int32} {p2 : Int32} {p3 : Int32} {p4 : Int32} {p5 : Int32} {r0 : Int32} {u0 : St}  (hf : fX7_feed p1 p2 p3 p4 p5 st = some (r0, u0)) : CM l E WT yX7_feed cX7_feed 6 (some FieldType.int) 1 0 0 [.ref (eB E + 0), .int p1, .int p2, .int p3, .int p4, .int p5] st (some (.int r0)) u0 :=
  CM.intro mok_X7_feed (Nat.le_of_ble_eq_true rfl) (fun x hl hR ht hr hQ _ => wX7_feed ⟨hR, ht, hr, hQ⟩ p1 p2 p3 p4 p5 st hf)
def fX7_end (p1 : Int32) (st : St) : Option (Int32 × St) :=
  if p1 < 0 then (some ((-1 : Int32), st)) else (if p1 ≤ (sI st 7 2) then (some (p1, pI st 7 2 p1)) else (some ((-1 : Int32), st)))
set_option maxHeartbeats 1000000 in
set_option maxRecDepth 20000 in
theorem wX7_end {E : Ev} {x : Cx} {r0 : Int32} {u0 : St} (B : Bd E x (some FieldType.int) (0) 0 0 (some (.int r0)) u0) (p1 : Int32) (st : St)  (hf : fX7_end p1 st = some (r0, u0)) : G E WT x RX7 cX7_end 2 (0, 0) st 0 [(0, .ref (eB E + 0)), (1, .int p1)] [] := by
  unfold fX7_end at hf
  refine g_iload_n rfl 1 rfl dX7_end_0 ?_
  refine g_if_lt 15 (by decide) dX7_end_1 (fun h1 => ?_) (fun h1 => ?_)
  · rw [if_pos h1] at hf
    refine g_iconst (-1 : Int32) (by decide) dX7_end_15 ?_
    exact g_iret B.2.2.2 B.2.2.1 (congrArg (fun z => some (Value.int z)) (Prod.mk.inj (Option.some.inj hf)).1.symm) (Prod.mk.inj (Option.some.inj hf)).2.symm dX7_end_16
  · rw [if_neg h1] at hf
    refine g_iload_n rfl 1 rfl dX7_end_4 ?_
    refine g_aload_n rfl 0 rfl dX7_end_5 ?_
    refine g_get (j := 2) cok7 (by decide) (.ref (eB E + 7)) (Or.inl tw2_66) oS0 vS0_2 dX7_end_6 ?_
    refine g_get (j := 2) cok3 (by decide) (.int (sI st 7 2)) (Or.inr nf_39) oS7 (fun _ => rfl) dX7_end_9 ?_
    refine g_icmp_le 17 (by decide) dX7_end_12 (fun h2 => ?_) (fun h2 => ?_)
    · rw [if_pos h2] at hf
      refine g_aload_n rfl 0 rfl dX7_end_17 ?_
      refine g_get (j := 2) cok7 (by decide) (.ref (eB E + 7)) (Or.inl tw2_66) oS0 vS0_2 dX7_end_18 ?_
      refine g_iload_n rfl 1 rfl dX7_end_21 ?_
      refine g_putI (j := 2) cok3 (by decide) rfl rfl rfl rfl (Or.inr nf_39) oS7 B.2.1 wpI dX7_end_22 ?_
      refine g_iload_n rfl 1 rfl dX7_end_25 ?_
      exact g_iret B.2.2.2 B.2.2.1 (congrArg (fun z => some (Value.int z)) (Prod.mk.inj (Option.some.inj hf)).1.symm) (Prod.mk.inj (Option.some.inj hf)).2.symm dX7_end_26
    · rw [if_neg h2] at hf
      refine g_iconst (-1 : Int32) (by decide) dX7_end_15 ?_
      exact g_iret B.2.2.2 B.2.2.1 (congrArg (fun z => some (Value.int z)) (Prod.mk.inj (Option.some.inj hf)).1.symm) (Prod.mk.inj (Option.some.inj hf)).2.symm dX7_end_16
theorem kX7_end {l : Launch} {E : Ev} {st : St} {p1 : Int32} {r0 : Int32} {u0 : St}  (hf : fX7_end p1 st = some (r0, u0)) : CM l E WT yX7_end cX7_end 2 (some FieldType.int) 0 0 0 [.ref (eB E + 0), .int p1] st (some (.int r0)) u0 :=
  CM.intro mok_X7_end (Nat.le_of_ble_eq_true rfl) (fun x hl hR ht hr hQ _ => wX7_end ⟨hR, ht, hr, hQ⟩ p1 st hf)
def fX7_row_b74 (k23 : Int32 → Int32 → Int32 → St → Option (Int32 × St))(l1 : Int32) (l2 : Int32) (l3 : Int32) (st : St) : Option (Int32 × St) :=
  k23 l1 l2 (l3 + (1 : Int32)) st
set_option maxHeartbeats 1000000 in
set_option maxRecDepth 20000 in
theorem wX7_row_b74 {E : Ev} {x : Cx} {r0 : Int32} {u0 : St} (B : Bd E x (some FieldType.int) (3) 0 0 (some (.int r0)) u0) {k23 : Int32 → Int32 → Int32 → St → Option (Int32 × St)} (hk23 : ∀ (l1 : Int32) (l2 : Int32) (l3 : Int32) (st : St), k23 l1 l2 l3 st = some (r0, u0) → G E WT x RX7 cX7_row 5 (0, 0) st 23 [(0, .ref (eB E + 0)), (1, .int l1), (2, .int l2), (3, .int l3)] []) (l1 : Int32) (l2 : Int32) (l3 : Int32) (st : St)  (hf : fX7_row_b74 k23 l1 l2 l3 st = some (r0, u0)) : G E WT x RX7 cX7_row 5 (0, 0) st 74 [(0, .ref (eB E + 0)), (1, .int l1), (2, .int l2), (3, .int l3)] [] := by
  unfold fX7_row_b74 at hf
  refine g_iinc (l3 + (1 : Int32)) [(3, .int (l3 + (1 : Int32))), (0, .ref (eB E + 0)), (1, .int l1), (2, .int l2)] 3 rfl (congrArg (fun z => l3 + z) (show Int32.ofInt (1) = (1 : Int32) by decide)) (by decide) rfl dX7_row_74 ?_
  refine g_goto 23 (by decide) dX7_row_77 ?_
  refine g_lvs [1, 2, 3, 0] rfl ?_
  exact hk23 l1 l2 (l3 + (1 : Int32)) st hf
def fX7_row_b23 : Nat → Int32 → Int32 → Int32 → St → Option (Int32 × St)
  | 0, _, _, _, _ => none
  | n + 1, l1, l2, l3, st => if l1 ≤ l3 then ((fX7_ringChanged (pI (pI st 7 2 (0 : Int32)) 0 14 (l1 - l2))).bind (fun q2 => fX7_settled l2 q2)) else (chk (ixb l3 400) (if (9 : Int32) < ((sI st 8 l3.toNatClampNeg) &&& (255 : Int32)) then (fX7_row_b74 (fun zl1 zl2 zl3 zst => fX7_row_b23 n zl1 zl2 zl3 zst) l1 l2 l3 st) else (if (6 : Int32) ≤ (sI st 1 4) then (fX7_row_b74 (fun zl1 zl2 zl3 zst => fX7_row_b23 n zl1 zl2 zl3 zst) l1 l2 l3 st) else ((fX4_welcome ((sI st 8 l3.toNatClampNeg) &&& (255 : Int32)) st).bind (fun q7 => fX7_row_b74 (fun zl1 zl2 zl3 zst => fX7_row_b23 n zl1 zl2 zl3 zst) l1 (l2 + (1 : Int32)) l3 q7)))))
set_option maxHeartbeats 1000000 in
set_option maxRecDepth 20000 in
theorem wX7_row_b23 {E : Ev} {x : Cx} {r0 : Int32} {u0 : St} (B : Bd E x (some FieldType.int) (3) 0 0 (some (.int r0)) u0) : ∀ (n : Nat) (l1 : Int32) (l2 : Int32) (l3 : Int32) (st : St) , fX7_row_b23 n l1 l2 l3 st = some (r0, u0) → G E WT x RX7 cX7_row 5 (0, 0) st 23 [(0, .ref (eB E + 0)), (1, .int l1), (2, .int l2), (3, .int l3)] [] := by
  intro n
  induction n with
  | zero =>
    intros
    rename_i hf
    rw [fX7_row_b23] at hf
    cases hf
  | succ n ih =>
    intro l1 l2 l3 st hf
    rw [fX7_row_b23] at hf
    refine g_iload_n rfl 3 rfl dX7_row_23 ?_
    refine g_iload_n rfl 1 rfl dX7_row_24 ?_
    refine g_icmp_ge 80 (by decide) dX7_row_25 (fun h1 => ?_) (fun h1 => ?_)
    · rw [if_pos h1] at hf
      refine g_aload_n rfl 0 rfl dX7_row_80 ?_
      refine g_get (j := 2) cok7 (by decide) (.ref (eB E + 7)) (Or.inl tw2_66) oS0 vS0_2 dX7_row_81 ?_
      refine g_iconst (0 : Int32) (by decide) dX7_row_84 ?_
      refine g_putI (j := 2) cok3 (by decide) rfl rfl rfl rfl (Or.inr nf_39) oS7 B.2.1 wpI dX7_row_85 ?_
      refine g_aload_n rfl 0 rfl dX7_row_88 ?_
      refine g_iload_n rfl 1 rfl dX7_row_89 ?_
      refine g_iload_n rfl 2 rfl dX7_row_90 ?_
      refine g_isub dX7_row_91 ?_
      refine g_putI (j := 14) cok7 (by decide) rfl rfl rfl rfl (Or.inl tw2_78) oS0 B.2.1 wpI dX7_row_92 ?_
      refine g_aload_n rfl 0 rfl dX7_row_95 ?_
      obtain ⟨q2, h3, hf⟩ := bnd_some hf
      refine g_callV0v (As := []) (rest := []) cok7 mok_X7_ringChanged tw2_122 tw2_124 ts1_2 oS0 B.1 (by decide) (kX7_ringChanged  h3) rfl rfl (Nat.le_of_ble_eq_true rfl) ⟨Nat.le_refl _, Nat.le_refl _⟩ dX7_row_96 ?_
      refine g_aload_n rfl 0 rfl dX7_row_99 ?_
      refine g_iload_n rfl 2 rfl dX7_row_100 ?_
      refine g_callV0i (As := [.int l2]) (rest := []) cok7 mok_X7_settled tw2_138 tw2_140 ts1_5 oS0 B.1 (by decide) (kX7_settled  hf) rfl rfl (Nat.le_of_ble_eq_true rfl) ⟨Nat.le_refl _, Nat.le_refl _⟩ dX7_row_101 ?_
      exact g_iret B.2.2.2 B.2.2.1 rfl rfl dX7_row_104
    · rw [if_neg h1] at hf
      refine g_aload_n rfl 0 rfl dX7_row_28 ?_
      refine g_get (j := 2) cok7 (by decide) (.ref (eB E + 7)) (Or.inl tw2_66) oS0 vS0_2 dX7_row_29 ?_
      refine g_get (j := 0) cok3 (by decide) (.ref (eB E + 8)) (Or.inr nf_37) oS7 vS7_0 dX7_row_32 ?_
      refine g_iload_n rfl 3 rfl dX7_row_35 ?_
      obtain ⟨h4, hf⟩ := chk_some hf
      refine g_baldj l3.toNatClampNeg rfl aS8 (ixb_in h4) dX7_row_36 ?_
      refine g_sipush (255 : Int32) (by decide) dX7_row_37 ?_
      refine g_iand dX7_row_40 ?_
      refine g_istore [(4, .int ((sI st 8 l3.toNatClampNeg) &&& (255 : Int32))), (0, .ref (eB E + 0)), (1, .int l1), (2, .int l2), (3, .int l3)] (by decide) rfl dX7_row_41 ?_
      refine g_iload 0 rfl dX7_row_43 ?_
      refine g_bipush (9 : Int32) (by decide) dX7_row_45 ?_
      refine g_icmp_gt 74 (by decide) dX7_row_47 (fun h5 => ?_) (fun h5 => ?_)
      · rw [if_pos h5] at hf
        refine g_lvs [1, 2, 3, 4] rfl ?_
        exact wX7_row_b74 B ih l1 l2 l3 st hf
      · rw [if_neg h5] at hf
        refine g_aload_n rfl 1 rfl dX7_row_50 ?_
        refine g_get (j := 0) cok7 (by decide) (.ref (eB E + 1)) (Or.inl tw2_64) oS0 vS0_0 dX7_row_51 ?_
        refine g_get (j := 4) cok4 (by decide) (.int (sI st 1 4)) (Or.inr nf_10) oS1 (fun _ => rfl) dX7_row_54 ?_
        refine g_bipush (6 : Int32) (by decide) dX7_row_57 ?_
        refine g_icmp_ge 74 (by decide) dX7_row_59 (fun h6 => ?_) (fun h6 => ?_)
        · rw [if_pos h6] at hf
          refine g_lvs [1, 2, 3, 4] rfl ?_
          exact wX7_row_b74 B ih l1 l2 l3 st hf
        · rw [if_neg h6] at hf
          refine g_aload_n rfl 1 rfl dX7_row_62 ?_
          refine g_get (j := 0) cok7 (by decide) (.ref (eB E + 1)) (Or.inl tw2_64) oS0 vS0_0 dX7_row_63 ?_
          refine g_iload 0 rfl dX7_row_66 ?_
          obtain ⟨q7, h8, hf⟩ := bnd_some hf
          refine g_callVN0v (As := [.int ((sI st 8 l3.toNatClampNeg) &&& (255 : Int32))]) (rest := []) cok4 mok_X4_welcome nmm_7 tw2_120 ts1_1 oS1 B.1 (by decide) (kX4_welcome  h8) rfl rfl (Nat.le_of_ble_eq_true rfl) ⟨Nat.le_refl _, Nat.le_refl _⟩ dX7_row_68 ?_
          refine g_iinc (l2 + (1 : Int32)) [(2, .int (l2 + (1 : Int32))), (4, .int ((sI st 8 l3.toNatClampNeg) &&& (255 : Int32))), (0, .ref (eB E + 0)), (1, .int l1), (3, .int l3)] 3 rfl (congrArg (fun z => l2 + z) (show Int32.ofInt (1) = (1 : Int32) by decide)) (by decide) rfl dX7_row_71 ?_
          refine g_lvs [2, 3, 0, 4] rfl ?_
          exact wX7_row_b74 B ih l1 (l2 + (1 : Int32)) l3 q7 hf
def fX7_row  (st : St) : Option (Int32 × St) :=
  if (sI st 7 2) = 0 then (fX7_refused (-6 : Int32) st) else (fX7_row_b23 FU (sI st 7 2) (0 : Int32) (0 : Int32) st)
set_option maxHeartbeats 1000000 in
set_option maxRecDepth 20000 in
theorem wX7_row {E : Ev} {x : Cx} {r0 : Int32} {u0 : St} (B : Bd E x (some FieldType.int) (3) 0 0 (some (.int r0)) u0)  (st : St)  (hf : fX7_row st = some (r0, u0)) : G E WT x RX7 cX7_row 5 (0, 0) st 0 [(0, .ref (eB E + 0))] [] := by
  unfold fX7_row at hf
  refine g_aload_n rfl 0 rfl dX7_row_0 ?_
  refine g_get (j := 2) cok7 (by decide) (.ref (eB E + 7)) (Or.inl tw2_66) oS0 vS0_2 dX7_row_1 ?_
  refine g_get (j := 2) cok3 (by decide) (.int (sI st 7 2)) (Or.inr nf_39) oS7 (fun _ => rfl) dX7_row_4 ?_
  refine g_istore_n rfl [(1, .int (sI st 7 2)), (0, .ref (eB E + 0))] (by decide) rfl dX7_row_7 ?_
  refine g_iload_n rfl 0 rfl dX7_row_8 ?_
  refine g_if_ne 19 (by decide) dX7_row_9 (fun h1 => ?_) (fun h1 => ?_)
  · rw [if_neg h1] at hf
    refine g_iconst (0 : Int32) (by decide) dX7_row_19 ?_
    refine g_istore_n rfl [(2, .int (0 : Int32)), (1, .int (sI st 7 2)), (0, .ref (eB E + 0))] (by decide) rfl dX7_row_20 ?_
    refine g_iconst (0 : Int32) (by decide) dX7_row_21 ?_
    refine g_istore_n rfl [(3, .int (0 : Int32)), (2, .int (0 : Int32)), (1, .int (sI st 7 2)), (0, .ref (eB E + 0))] (by decide) rfl dX7_row_22 ?_
    refine g_lvs [3, 2, 1, 0] rfl ?_
    exact wX7_row_b23 B  FU (sI st 7 2) (0 : Int32) (0 : Int32) st hf
  · rw [if_pos h1] at hf
    refine g_aload_n rfl 1 rfl dX7_row_12 ?_
    refine g_bipush (-6 : Int32) (by decide) dX7_row_13 ?_
    refine g_callV0i (As := [.int (-6 : Int32)]) (rest := []) cok7 mok_X7_refused tw2_114 tw2_116 ts1_0 oS0 B.1 (by decide) (kX7_refused  hf) rfl rfl (Nat.le_of_ble_eq_true rfl) ⟨Nat.le_refl _, Nat.le_refl _⟩ dX7_row_15 ?_
    exact g_iret B.2.2.2 B.2.2.1 rfl rfl dX7_row_18
theorem kX7_row {l : Launch} {E : Ev} {st : St}  {r0 : Int32} {u0 : St}  (hf : fX7_row st = some (r0, u0)) : CM l E WT yX7_row cX7_row 5 (some FieldType.int) 3 0 0 [.ref (eB E + 0)] st (some (.int r0)) u0 :=
  CM.intro mok_X7_row (Nat.le_of_ble_eq_true rfl) (fun x hl hR ht hr hQ _ => wX7_row ⟨hR, ht, hr, hQ⟩ st hf)
def fX7_lisps (st : St)  : Int32 :=
  sI st 0 14
set_option maxHeartbeats 1000000 in
set_option maxRecDepth 20000 in
theorem wX7_lisps {E : Ev} {x : Cx} {r0 : Int32} {st : St} (B : Bd E x (some FieldType.int) (0) 0 0 (some (.int r0)) st)   (hf : fX7_lisps st  = r0) : G E WT x RX7 cX7_lisps 1 (0, 0) st 0 [(0, .ref (eB E + 0))] [] := by
  unfold fX7_lisps at hf
  refine g_aload_n rfl 0 rfl dX7_lisps_0 ?_
  refine g_get (j := 14) cok7 (by decide) (.int (sI st 0 14)) (Or.inl tw2_78) oS0 (fun _ => rfl) dX7_lisps_1 ?_
  exact g_iret B.2.2.2 B.2.2.1 (congrArg (fun z => some (Value.int z)) hf.symm) rfl dX7_lisps_4
theorem kX7_lisps {l : Launch} {E : Ev} {st : St}  {r0 : Int32}  (hf : fX7_lisps st = r0) : CM l E WT yX7_lisps cX7_lisps 1 (some FieldType.int) 0 0 0 [.ref (eB E + 0)] st (some (.int r0)) st :=
  CM.intro mok_X7_lisps (Nat.le_of_ble_eq_true rfl) (fun x hl hR ht hr hQ _ => wX7_lisps ⟨hR, ht, hr, hQ⟩  hf)
def fX7_gatherFacts_b140 (k62 : Int32 → St → Option St)(l3 : Int32) (s1 : Int32) (s2 : Int32) (st : St) : Option St :=
  chk (ixb s1 17) (k62 (l3 + (1 : Int32)) (pI st 36 s1.toNatClampNeg s2))
set_option maxHeartbeats 1000000 in
set_option maxRecDepth 20000 in
theorem wX7_gatherFacts_b140 {E : Ev} {x : Cx} {u0 : St} (B : Bd E x none (1) 0 0 none u0) {k62 : Int32 → St → Option St} (hk62 : ∀ (l3 : Int32) (st : St), k62 l3 st = some u0 → G E WT x RX7 cX7_gatherFacts 5 (0, 0) st 62 [(0, .ref (eB E + 0)), (3, .int l3)] []) (l3 : Int32) (s1 : Int32) (s2 : Int32) (st : St)  (hf : fX7_gatherFacts_b140 k62 l3 s1 s2 st = some u0) : G E WT x RX7 cX7_gatherFacts 5 (0, 0) st 140 [(0, .ref (eB E + 0)), (3, .int l3)] [.int s2, .int s1, .ref (eB E + 36)] := by
  unfold fX7_gatherFacts_b140 at hf
  obtain ⟨h1, hf⟩ := chk_some hf
  refine g_iastj s1.toNatClampNeg rfl aS36 (ixb_in h1) B.2.1 wpI dX7_gatherFacts_140 ?_
  refine g_iinc (l3 + (1 : Int32)) [(3, .int (l3 + (1 : Int32))), (0, .ref (eB E + 0))] 1 rfl (congrArg (fun z => l3 + z) (show Int32.ofInt (1) = (1 : Int32) by decide)) (by decide) rfl dX7_gatherFacts_141 ?_
  refine g_goto 62 (by decide) dX7_gatherFacts_144 ?_
  refine g_lvs [1, 0] rfl ?_
  exact hk62 (l3 + (1 : Int32)) (pI st 36 s1.toNatClampNeg s2) hf
def fX7_gatherFacts_b113 (k62 : Int32 → St → Option St)(l3 : Int32) (l4 : Int32) (s1 : Int32) (s2 : Int32) (st : St) : Option St :=
  chk (ixb s1 17) (if l4 = 0 then (fX7_gatherFacts_b140 k62 l3 ((11 : Int32) + l3) (-1 : Int32) (pI st 36 s1.toNatClampNeg s2)) else (chk (ixb l3 6) (fX7_gatherFacts_b140 k62 l3 ((11 : Int32) + l3) (sI (pI st 36 s1.toNatClampNeg s2) 2 l3.toNatClampNeg) (pI st 36 s1.toNatClampNeg s2))))
set_option maxHeartbeats 1000000 in
set_option maxRecDepth 20000 in
theorem wX7_gatherFacts_b113 {E : Ev} {x : Cx} {u0 : St} (B : Bd E x none (1) 0 0 none u0) {k62 : Int32 → St → Option St} (hk62 : ∀ (l3 : Int32) (st : St), k62 l3 st = some u0 → G E WT x RX7 cX7_gatherFacts 5 (0, 0) st 62 [(0, .ref (eB E + 0)), (3, .int l3)] []) (l3 : Int32) (l4 : Int32) (s1 : Int32) (s2 : Int32) (st : St)  (hf : fX7_gatherFacts_b113 k62 l3 l4 s1 s2 st = some u0) : G E WT x RX7 cX7_gatherFacts 5 (0, 0) st 113 [(0, .ref (eB E + 0)), (3, .int l3), (4, .int l4)] [.int s2, .int s1, .ref (eB E + 36)] := by
  unfold fX7_gatherFacts_b113 at hf
  obtain ⟨h1, hf⟩ := chk_some hf
  refine g_iastj s1.toNatClampNeg rfl aS36 (ixb_in h1) B.2.1 wpI dX7_gatherFacts_113 ?_
  refine g_aload_n rfl 0 rfl dX7_gatherFacts_114 ?_
  refine g_get (j := 9) cok7 (by decide) (.ref (eB E + 36)) (Or.inl tw2_73) oS0 vS0_9 dX7_gatherFacts_115 ?_
  refine g_bipush (11 : Int32) (by decide) dX7_gatherFacts_118 ?_
  refine g_iload_n rfl 1 rfl dX7_gatherFacts_120 ?_
  refine g_iadd dX7_gatherFacts_121 ?_
  refine g_iload 2 rfl dX7_gatherFacts_122 ?_
  refine g_if_eq 139 (by decide) dX7_gatherFacts_124 (fun h2 => ?_) (fun h2 => ?_)
  · rw [if_pos h2] at hf
    refine g_iconst (-1 : Int32) (by decide) dX7_gatherFacts_139 ?_
    refine g_lvs [0, 1] rfl ?_
    exact wX7_gatherFacts_b140 B hk62 l3 ((11 : Int32) + l3) (-1 : Int32) (pI st 36 s1.toNatClampNeg s2) hf
  · rw [if_neg h2] at hf
    refine g_aload_n rfl 0 rfl dX7_gatherFacts_127 ?_
    refine g_get (j := 0) cok7 (by decide) (.ref (eB E + 1)) (Or.inl tw2_64) oS0 vS0_0 dX7_gatherFacts_128 ?_
    refine g_get (j := 0) cok4 (by decide) (.ref (eB E + 2)) (Or.inr nf_0) oS1 vS1_0 dX7_gatherFacts_131 ?_
    refine g_iload_n rfl 1 rfl dX7_gatherFacts_134 ?_
    obtain ⟨h3, hf⟩ := chk_some hf
    refine g_ialdj l3.toNatClampNeg rfl aS2 (ixb_in h3) dX7_gatherFacts_135 ?_
    refine g_goto 140 (by decide) dX7_gatherFacts_136 ?_
    refine g_lvs [0, 1] rfl ?_
    exact wX7_gatherFacts_b140 B hk62 l3 ((11 : Int32) + l3) (sI (pI st 36 s1.toNatClampNeg s2) 2 l3.toNatClampNeg) (pI st 36 s1.toNatClampNeg s2) hf
def fX7_gatherFacts_b84 (k62 : Int32 → St → Option St)(l3 : Int32) (s0 : Int32) (st : St) : Option St :=
  if s0 = 0 then (fX7_gatherFacts_b113 k62 l3 s0 ((5 : Int32) + l3) (-1 : Int32) st) else (fX7_gatherFacts_b113 k62 l3 s0 ((5 : Int32) + l3) ((jshr (sI st 1 5) l3) &&& (1 : Int32)) st)
set_option maxHeartbeats 1000000 in
set_option maxRecDepth 20000 in
theorem wX7_gatherFacts_b84 {E : Ev} {x : Cx} {u0 : St} (B : Bd E x none (1) 0 0 none u0) {k62 : Int32 → St → Option St} (hk62 : ∀ (l3 : Int32) (st : St), k62 l3 st = some u0 → G E WT x RX7 cX7_gatherFacts 5 (0, 0) st 62 [(0, .ref (eB E + 0)), (3, .int l3)] []) (l3 : Int32) (s0 : Int32) (st : St)  (hf : fX7_gatherFacts_b84 k62 l3 s0 st = some u0) : G E WT x RX7 cX7_gatherFacts 5 (0, 0) st 84 [(0, .ref (eB E + 0)), (3, .int l3)] [.int s0] := by
  unfold fX7_gatherFacts_b84 at hf
  refine g_istore [(4, .int s0), (0, .ref (eB E + 0)), (3, .int l3)] (by decide) rfl dX7_gatherFacts_84 ?_
  refine g_aload_n rfl 1 rfl dX7_gatherFacts_86 ?_
  refine g_get (j := 9) cok7 (by decide) (.ref (eB E + 36)) (Or.inl tw2_73) oS0 vS0_9 dX7_gatherFacts_87 ?_
  refine g_iconst (5 : Int32) (by decide) dX7_gatherFacts_90 ?_
  refine g_iload_n rfl 2 rfl dX7_gatherFacts_91 ?_
  refine g_iadd dX7_gatherFacts_92 ?_
  refine g_iload 0 rfl dX7_gatherFacts_93 ?_
  refine g_if_eq 112 (by decide) dX7_gatherFacts_95 (fun h1 => ?_) (fun h1 => ?_)
  · rw [if_pos h1] at hf
    refine g_iconst (-1 : Int32) (by decide) dX7_gatherFacts_112 ?_
    refine g_lvs [1, 2, 0] rfl ?_
    exact wX7_gatherFacts_b113 B hk62 l3 s0 ((5 : Int32) + l3) (-1 : Int32) st hf
  · rw [if_neg h1] at hf
    refine g_aload_n rfl 1 rfl dX7_gatherFacts_98 ?_
    refine g_get (j := 0) cok7 (by decide) (.ref (eB E + 1)) (Or.inl tw2_64) oS0 vS0_0 dX7_gatherFacts_99 ?_
    refine g_get (j := 5) cok4 (by decide) (.int (sI st 1 5)) (Or.inr nf_13) oS1 (fun _ => rfl) dX7_gatherFacts_102 ?_
    refine g_iload_n rfl 2 rfl dX7_gatherFacts_105 ?_
    refine g_ishr dX7_gatherFacts_106 ?_
    refine g_iconst (1 : Int32) (by decide) dX7_gatherFacts_107 ?_
    refine g_iand dX7_gatherFacts_108 ?_
    refine g_goto 113 (by decide) dX7_gatherFacts_109 ?_
    refine g_lvs [1, 2, 0] rfl ?_
    exact wX7_gatherFacts_b113 B hk62 l3 s0 ((5 : Int32) + l3) ((jshr (sI st 1 5) l3) &&& (1 : Int32)) st hf
def fX7_gatherFacts_b62 : Nat → Int32 → St → Option St
  | 0, _, _ => none
  | n + 1, l3, st => if (6 : Int32) ≤ l3 then (some st) else (if (sI st 1 4) ≤ l3 then (fX7_gatherFacts_b84 (fun zl3 zst => fX7_gatherFacts_b62 n zl3 zst) l3 (0 : Int32) st) else (fX7_gatherFacts_b84 (fun zl3 zst => fX7_gatherFacts_b62 n zl3 zst) l3 (1 : Int32) st))
set_option maxHeartbeats 1000000 in
set_option maxRecDepth 20000 in
theorem wX7_gatherFacts_b62 {E : Ev} {x : Cx} {u0 : St} (B : Bd E x none (1) 0 0 none u0) : ∀ (n : Nat) (l3 : Int32) (st : St) , fX7_gatherFacts_b62 n l3 st = some u0 → G E WT x RX7 cX7_gatherFacts 5 (0, 0) st 62 [(0, .ref (eB E + 0)), (3, .int l3)] [] := by
  intro n
  induction n with
  | zero =>
    intros
    rename_i hf
    rw [fX7_gatherFacts_b62] at hf
    cases hf
  | succ n ih =>
    intro l3 st hf
    rw [fX7_gatherFacts_b62] at hf
    refine g_iload_n rfl 1 rfl dX7_gatherFacts_62 ?_
    refine g_bipush (6 : Int32) (by decide) dX7_gatherFacts_63 ?_
    refine g_icmp_ge 147 (by decide) dX7_gatherFacts_65 (fun h1 => ?_) (fun h1 => ?_)
    · rw [if_pos h1] at hf
      exact g_ret B.2.2.2 B.2.2.1 rfl (Option.some.inj hf).symm dX7_gatherFacts_147
    · rw [if_neg h1] at hf
      refine g_iload_n rfl 1 rfl dX7_gatherFacts_68 ?_
      refine g_aload_n rfl 0 rfl dX7_gatherFacts_69 ?_
      refine g_get (j := 0) cok7 (by decide) (.ref (eB E + 1)) (Or.inl tw2_64) oS0 vS0_0 dX7_gatherFacts_70 ?_
      refine g_get (j := 4) cok4 (by decide) (.int (sI st 1 4)) (Or.inr nf_10) oS1 (fun _ => rfl) dX7_gatherFacts_73 ?_
      refine g_icmp_ge 83 (by decide) dX7_gatherFacts_76 (fun h2 => ?_) (fun h2 => ?_)
      · rw [if_pos h2] at hf
        refine g_iconst (0 : Int32) (by decide) dX7_gatherFacts_83 ?_
        refine g_lvs [0, 1] rfl ?_
        exact wX7_gatherFacts_b84 B ih l3 (0 : Int32) st hf
      · rw [if_neg h2] at hf
        refine g_iconst (1 : Int32) (by decide) dX7_gatherFacts_79 ?_
        refine g_goto 84 (by decide) dX7_gatherFacts_80 ?_
        refine g_lvs [0, 1] rfl ?_
        exact wX7_gatherFacts_b84 B ih l3 (1 : Int32) st hf
def fX7_gatherFacts (p1 : Int32) (p2 : Int32) (st : St) : Option St :=
  fX7_gatherFacts_b62 FU (0 : Int32) (pI (pI (pI (pI (pI st 36 0 (sI st 5 0)) 36 1 p1) 36 2 p2) 36 3 (fJ6_bitCount_0f7a4 (sI (pI (pI (pI st 36 0 (sI st 5 0)) 36 1 p1) 36 2 p2) 1 5))) 36 4 (sI (pI (pI (pI (pI st 36 0 (sI st 5 0)) 36 1 p1) 36 2 p2) 36 3 (fJ6_bitCount_0f7a4 (sI (pI (pI (pI st 36 0 (sI st 5 0)) 36 1 p1) 36 2 p2) 1 5))) 5 1))
set_option maxHeartbeats 1000000 in
set_option maxRecDepth 20000 in
theorem wX7_gatherFacts {E : Ev} {x : Cx} {u0 : St} (B : Bd E x none (1) 0 0 none u0) (p1 : Int32) (p2 : Int32) (st : St)  (hf : fX7_gatherFacts p1 p2 st = some u0) : G E WT x RX7 cX7_gatherFacts 5 (0, 0) st 0 [(0, .ref (eB E + 0)), (1, .int p1), (2, .int p2)] [] := by
  unfold fX7_gatherFacts at hf
  refine g_aload_n rfl 0 rfl dX7_gatherFacts_0 ?_
  refine g_get (j := 9) cok7 (by decide) (.ref (eB E + 36)) (Or.inl tw2_73) oS0 vS0_9 dX7_gatherFacts_1 ?_
  refine g_iconst (0 : Int32) (by decide) dX7_gatherFacts_4 ?_
  refine g_aload_n rfl 0 rfl dX7_gatherFacts_5 ?_
  refine g_get (j := 0) cok7 (by decide) (.ref (eB E + 1)) (Or.inl tw2_64) oS0 vS0_0 dX7_gatherFacts_6 ?_
  refine g_get (j := 3) cok4 (by decide) (.ref (eB E + 5)) (Or.inr nf_8) oS1 vS1_3 dX7_gatherFacts_9 ?_
  refine g_iconst (0 : Int32) (by decide) dX7_gatherFacts_12 ?_
  refine g_ialdj 0 rfl aS5 (ixb_in rfl) dX7_gatherFacts_13 ?_
  refine g_iastj 0 rfl aS36 (ixb_in rfl) B.2.1 wpI dX7_gatherFacts_14 ?_
  refine g_aload_n rfl 0 rfl dX7_gatherFacts_15 ?_
  refine g_get (j := 9) cok7 (by decide) (.ref (eB E + 36)) (Or.inl tw2_73) oS0 vS0_9 dX7_gatherFacts_16 ?_
  refine g_iconst (1 : Int32) (by decide) dX7_gatherFacts_19 ?_
  refine g_iload_n rfl 1 rfl dX7_gatherFacts_20 ?_
  refine g_iastj 1 rfl aS36 (ixb_in rfl) B.2.1 wpI dX7_gatherFacts_21 ?_
  refine g_aload_n rfl 0 rfl dX7_gatherFacts_22 ?_
  refine g_get (j := 9) cok7 (by decide) (.ref (eB E + 36)) (Or.inl tw2_73) oS0 vS0_9 dX7_gatherFacts_23 ?_
  refine g_iconst (2 : Int32) (by decide) dX7_gatherFacts_26 ?_
  refine g_iload_n rfl 2 rfl dX7_gatherFacts_27 ?_
  refine g_iastj 2 rfl aS36 (ixb_in rfl) B.2.1 wpI dX7_gatherFacts_28 ?_
  refine g_aload_n rfl 0 rfl dX7_gatherFacts_29 ?_
  refine g_get (j := 9) cok7 (by decide) (.ref (eB E + 36)) (Or.inl tw2_73) oS0 vS0_9 dX7_gatherFacts_30 ?_
  refine g_iconst (3 : Int32) (by decide) dX7_gatherFacts_33 ?_
  refine g_aload_n rfl 0 rfl dX7_gatherFacts_34 ?_
  refine g_get (j := 0) cok7 (by decide) (.ref (eB E + 1)) (Or.inl tw2_64) oS0 vS0_0 dX7_gatherFacts_35 ?_
  refine g_get (j := 5) cok4 (by decide) (.int (sI (pI (pI (pI st 36 0 (sI st 5 0)) 36 1 p1) 36 2 p2) 1 5)) (Or.inr nf_13) oS1 (fun _ => rfl) dX7_gatherFacts_38 ?_
  refine g_callS0i (As := [.int (sI (pI (pI (pI st 36 0 (sI st 5 0)) 36 1 p1) 36 2 p2) 1 5)]) (rest := [.int (3 : Int32), .ref (eB E + 36)]) mok_J6_bitCount_0f7a4 tw2_166 tw2_167 B.1 (by decide) (kJ6_bitCount_0f7a4  rfl) rfl rfl (Nat.le_of_ble_eq_true rfl) ⟨Nat.le_refl _, Nat.le_refl _⟩ dX7_gatherFacts_41 ?_
  refine g_iastj 3 rfl aS36 (ixb_in rfl) B.2.1 wpI dX7_gatherFacts_44 ?_
  refine g_aload_n rfl 0 rfl dX7_gatherFacts_45 ?_
  refine g_get (j := 9) cok7 (by decide) (.ref (eB E + 36)) (Or.inl tw2_73) oS0 vS0_9 dX7_gatherFacts_46 ?_
  refine g_iconst (4 : Int32) (by decide) dX7_gatherFacts_49 ?_
  refine g_aload_n rfl 0 rfl dX7_gatherFacts_50 ?_
  refine g_get (j := 0) cok7 (by decide) (.ref (eB E + 1)) (Or.inl tw2_64) oS0 vS0_0 dX7_gatherFacts_51 ?_
  refine g_get (j := 3) cok4 (by decide) (.ref (eB E + 5)) (Or.inr nf_8) oS1 vS1_3 dX7_gatherFacts_54 ?_
  refine g_iconst (1 : Int32) (by decide) dX7_gatherFacts_57 ?_
  refine g_ialdj 1 rfl aS5 (ixb_in rfl) dX7_gatherFacts_58 ?_
  refine g_iastj 4 rfl aS36 (ixb_in rfl) B.2.1 wpI dX7_gatherFacts_59 ?_
  refine g_iconst (0 : Int32) (by decide) dX7_gatherFacts_60 ?_
  refine g_istore_n rfl [(3, .int (0 : Int32)), (0, .ref (eB E + 0)), (1, .int p1), (2, .int p2)] (by decide) rfl dX7_gatherFacts_61 ?_
  refine g_lvs [1, 0] rfl ?_
  exact wX7_gatherFacts_b62 B  FU (0 : Int32) (pI (pI (pI (pI (pI st 36 0 (sI st 5 0)) 36 1 p1) 36 2 p2) 36 3 (fJ6_bitCount_0f7a4 (sI (pI (pI (pI st 36 0 (sI st 5 0)) 36 1 p1) 36 2 p2) 1 5))) 36 4 (sI (pI (pI (pI (pI st 36 0 (sI st 5 0)) 36 1 p1) 36 2 p2) 36 3 (fJ6_bitCount_0f7a4 (sI (pI (pI (pI st 36 0 (sI st 5 0)) 36 1 p1) 36 2 p2) 1 5))) 5 1)) hf
theorem kX7_gatherFacts {l : Launch} {E : Ev} {st : St} {p1 : Int32} {p2 : Int32} {u0 : St}  (hf : fX7_gatherFacts p1 p2 st = some u0) : CM l E WT yX7_gatherFacts cX7_gatherFacts 5 none 1 0 0 [.ref (eB E + 0), .int p1, .int p2] st none u0 :=
  CM.intro mok_X7_gatherFacts (Nat.le_of_ble_eq_true rfl) (fun x hl hR ht hr hQ _ => wX7_gatherFacts ⟨hR, ht, hr, hQ⟩ p1 p2 st hf)
def fX7_performSaying (p1 : Int32) (st : St) : Option (Int32 × St) :=
  if (fX4_lacksRhyme st p1) = 0 then (if (2 : Int32) ≤ (fJ6_bitCount_0f7a4 (sI st 1 5)) then ((fX7_tuneVoice st).bind (fun q3 => (fX4_place q3).bind (fun q5 => (fX6_speak (sI q3 1 5) q5 p1 (0 : Int32) q3).bind (fun q7 => (fX2_keep (0 : Int32) q7.2).bind (fun q9 => (fX4_settle (fX6_stateBehind q9 (sI q9 1 5) q7.1) q9).bind (fun q11 => some (q7.1, q11))))))) else (some ((-3 : Int32), st))) else (some ((-2 : Int32), st))
set_option maxHeartbeats 1000000 in
set_option maxRecDepth 20000 in
theorem wX7_performSaying {E : Ev} {x : Cx} {r0 : Int32} {u0 : St} (B : Bd E x (some FieldType.int) (6) 0 0 (some (.int r0)) u0) (p1 : Int32) (st : St)  (hf : fX7_performSaying p1 st = some (r0, u0)) : G E WT x RX7 cX7_performSaying 3 (0, 0) st 0 [(0, .ref (eB E + 0)), (1, .int p1)] [] := by
  unfold fX7_performSaying at hf
  refine g_aload_n rfl 0 rfl dX7_performSaying_0 ?_
  refine g_get (j := 0) cok7 (by decide) (.ref (eB E + 1)) (Or.inl tw2_64) oS0 vS0_0 dX7_performSaying_1 ?_
  refine g_iload_n rfl 1 rfl dX7_performSaying_4 ?_
  refine g_callVN0i (As := [.int p1]) (rest := []) cok4 mok_X4_lacksRhyme nmm_11 tw2_160 ts1_7 oS1 B.1 (by decide) (kX4_lacksRhyme  rfl) rfl rfl (Nat.le_of_ble_eq_true rfl) ⟨Nat.le_refl _, Nat.le_refl _⟩ dX7_performSaying_5 ?_
  refine g_if_eq 14 (by decide) dX7_performSaying_8 (fun h1 => ?_) (fun h1 => ?_)
  · rw [if_pos h1] at hf
    refine g_aload_n rfl 0 rfl dX7_performSaying_14 ?_
    refine g_get (j := 0) cok7 (by decide) (.ref (eB E + 1)) (Or.inl tw2_64) oS0 vS0_0 dX7_performSaying_15 ?_
    refine g_get (j := 5) cok4 (by decide) (.int (sI st 1 5)) (Or.inr nf_13) oS1 (fun _ => rfl) dX7_performSaying_18 ?_
    refine g_callS0i (As := [.int (sI st 1 5)]) (rest := []) mok_J6_bitCount_0f7a4 tw2_166 tw2_167 B.1 (by decide) (kJ6_bitCount_0f7a4  rfl) rfl rfl (Nat.le_of_ble_eq_true rfl) ⟨Nat.le_refl _, Nat.le_refl _⟩ dX7_performSaying_21 ?_
    refine g_iconst (2 : Int32) (by decide) dX7_performSaying_24 ?_
    refine g_icmp_ge 31 (by decide) dX7_performSaying_25 (fun h2 => ?_) (fun h2 => ?_)
    · rw [if_pos h2] at hf
      refine g_aload_n rfl 0 rfl dX7_performSaying_31 ?_
      obtain ⟨q3, h4, hf⟩ := bnd_some hf
      refine g_callV0v (As := []) (rest := []) cok7 mok_X7_tuneVoice tw2_172 tw2_174 ts1_8 oS0 B.1 (by decide) (kX7_tuneVoice  h4) rfl rfl (Nat.le_of_ble_eq_true rfl) ⟨Nat.le_refl _, Nat.le_refl _⟩ dX7_performSaying_32 ?_
      refine g_aload_n rfl 0 rfl dX7_performSaying_35 ?_
      refine g_get (j := 5) cok7 (by decide) (.ref (eB E + 19)) (Or.inl tw2_69) oS0 vS0_5 dX7_performSaying_36 ?_
      refine g_aload_n rfl 0 rfl dX7_performSaying_39 ?_
      refine g_get (j := 0) cok7 (by decide) (.ref (eB E + 1)) (Or.inl tw2_64) oS0 vS0_0 dX7_performSaying_40 ?_
      refine g_get (j := 5) cok4 (by decide) (.int (sI q3 1 5)) (Or.inr nf_13) oS1 (fun _ => rfl) dX7_performSaying_43 ?_
      refine g_aload_n rfl 0 rfl dX7_performSaying_46 ?_
      refine g_get (j := 0) cok7 (by decide) (.ref (eB E + 1)) (Or.inl tw2_64) oS0 vS0_0 dX7_performSaying_47 ?_
      obtain ⟨q5, h6, hf⟩ := bnd_some hf
      refine g_callVN0i (As := []) (rest := [.int (sI q3 1 5), .ref (eB E + 19)]) cok4 mok_X4_place nmm_28 tw3_159 ts3_5 oS1 B.1 (by decide) (kX4_place  h6) rfl rfl (Nat.le_of_ble_eq_true rfl) ⟨Nat.le_refl _, Nat.le_refl _⟩ dX7_performSaying_50 ?_
      refine g_iload_n rfl 1 rfl dX7_performSaying_53 ?_
      refine g_iconst (0 : Int32) (by decide) dX7_performSaying_54 ?_
      obtain ⟨q7, h8, hf⟩ := bnd_some hf
      refine g_callVN0i (As := [.int (sI q3 1 5), .int q5, .int p1, .int (0 : Int32)]) (rest := []) cok6 mok_X6_speak nmm_29 tw3_163 ts3_6 oS19 B.1 (by decide) (kX6_speak  h8) rfl rfl (Nat.le_of_ble_eq_true rfl) ⟨Nat.le_refl _, Nat.le_refl _⟩ dX7_performSaying_55 ?_
      refine g_istore_n rfl [(2, .int q7.1), (0, .ref (eB E + 0)), (1, .int p1)] (by decide) rfl dX7_performSaying_58 ?_
      refine g_aload_n rfl 1 rfl dX7_performSaying_59 ?_
      refine g_get (j := 3) cok7 (by decide) (.ref (eB E + 15)) (Or.inl tw2_67) oS0 vS0_3 dX7_performSaying_60 ?_
      refine g_iconst (0 : Int32) (by decide) dX7_performSaying_63 ?_
      refine g_aload_n rfl 1 rfl dX7_performSaying_64 ?_
      refine g_get (j := 0) cok7 (by decide) (.ref (eB E + 1)) (Or.inl tw2_64) oS0 vS0_0 dX7_performSaying_65 ?_
      obtain ⟨q9, h10, hf⟩ := bnd_some hf
      refine g_callVN0v (As := [.int (0 : Int32), .ref (eB E + 1)]) (rest := []) cok2 mok_X2_keep nmm_30 tw3_178 ts3_9 oS15 B.1 (by decide) (kX2_keep  h10) rfl rfl (Nat.le_of_ble_eq_true rfl) ⟨Nat.le_refl _, Nat.le_refl _⟩ dX7_performSaying_68 ?_
      refine g_aload_n rfl 1 rfl dX7_performSaying_71 ?_
      refine g_get (j := 0) cok7 (by decide) (.ref (eB E + 1)) (Or.inl tw2_64) oS0 vS0_0 dX7_performSaying_72 ?_
      refine g_aload_n rfl 1 rfl dX7_performSaying_75 ?_
      refine g_get (j := 5) cok7 (by decide) (.ref (eB E + 19)) (Or.inl tw2_69) oS0 vS0_5 dX7_performSaying_76 ?_
      refine g_aload_n rfl 1 rfl dX7_performSaying_79 ?_
      refine g_get (j := 0) cok7 (by decide) (.ref (eB E + 1)) (Or.inl tw2_64) oS0 vS0_0 dX7_performSaying_80 ?_
      refine g_get (j := 5) cok4 (by decide) (.int (sI q9 1 5)) (Or.inr nf_13) oS1 (fun _ => rfl) dX7_performSaying_83 ?_
      refine g_iload_n rfl 0 rfl dX7_performSaying_86 ?_
      refine g_callVN0i (As := [.int (sI q9 1 5), .int q7.1]) (rest := [.ref (eB E + 1)]) cok6 mok_X6_stateBehind nmm_31 tw3_182 ts3_10 oS19 B.1 (by decide) (kX6_stateBehind  rfl) rfl rfl (Nat.le_of_ble_eq_true rfl) ⟨Nat.le_refl _, Nat.le_refl _⟩ dX7_performSaying_87 ?_
      obtain ⟨q11, h12, hf⟩ := bnd_some hf
      refine g_callVN0v (As := [.int (fX6_stateBehind q9 (sI q9 1 5) q7.1)]) (rest := []) cok4 mok_X4_settle nmm_32 tw3_186 ts3_11 oS1 B.1 (by decide) (kX4_settle  h12) rfl rfl (Nat.le_of_ble_eq_true rfl) ⟨Nat.le_refl _, Nat.le_refl _⟩ dX7_performSaying_90 ?_
      refine g_iload_n rfl 0 rfl dX7_performSaying_93 ?_
      exact g_iret B.2.2.2 B.2.2.1 (congrArg (fun z => some (Value.int z)) (Prod.mk.inj (Option.some.inj hf)).1.symm) (Prod.mk.inj (Option.some.inj hf)).2.symm dX7_performSaying_94
    · rw [if_neg h2] at hf
      refine g_bipush (-3 : Int32) (by decide) dX7_performSaying_28 ?_
      exact g_iret B.2.2.2 B.2.2.1 (congrArg (fun z => some (Value.int z)) (Prod.mk.inj (Option.some.inj hf)).1.symm) (Prod.mk.inj (Option.some.inj hf)).2.symm dX7_performSaying_30
  · rw [if_neg h1] at hf
    refine g_bipush (-2 : Int32) (by decide) dX7_performSaying_11 ?_
    exact g_iret B.2.2.2 B.2.2.1 (congrArg (fun z => some (Value.int z)) (Prod.mk.inj (Option.some.inj hf)).1.symm) (Prod.mk.inj (Option.some.inj hf)).2.symm dX7_performSaying_13
theorem kX7_performSaying {l : Launch} {E : Ev} {st : St} {p1 : Int32} {r0 : Int32} {u0 : St}  (hf : fX7_performSaying p1 st = some (r0, u0)) : CM l E WT yX7_performSaying cX7_performSaying 3 (some FieldType.int) 6 0 0 [.ref (eB E + 0), .int p1] st (some (.int r0)) u0 :=
  CM.intro mok_X7_performSaying (Nat.le_of_ble_eq_true rfl) (fun x hl hR ht hr hQ _ => wX7_performSaying ⟨hR, ht, hr, hQ⟩ p1 st hf)
def fX7_performMove_b46 (l1 : Int32) (l2 : Int32) (s0 : Int32) (s1 : Int32) (st : St) : Option (Int32 × St) :=
  if s0 = s1 then (some ((-3 : Int32), st)) else ((fX2_keep l1 st).bind (fun q2 => some (fJ6_bitCount_0f7a4 (sI (pI q2 1 5 ((sI q2 1 5) ^^^ (jshl (1 : Int32) l2))) 1 5), pI q2 1 5 ((sI q2 1 5) ^^^ (jshl (1 : Int32) l2)))))
set_option maxHeartbeats 1000000 in
set_option maxRecDepth 20000 in
theorem wX7_performMove_b46 {E : Ev} {x : Cx} {r0 : Int32} {u0 : St} (B : Bd E x (some FieldType.int) (5) 0 0 (some (.int r0)) u0) (l1 : Int32) (l2 : Int32) (s0 : Int32) (s1 : Int32) (st : St)  (hf : fX7_performMove_b46 l1 l2 s0 s1 st = some (r0, u0)) : G E WT x RX7 cX7_performMove 4 (0, 0) st 46 [(0, .ref (eB E + 0)), (1, .int l1), (2, .int l2)] [.int s1, .int s0] := by
  unfold fX7_performMove_b46 at hf
  refine g_icmp_ne 52 (by decide) dX7_performMove_46 (fun h1 => ?_) (fun h1 => ?_)
  · rw [if_neg h1] at hf
    refine g_aload_n rfl 0 rfl dX7_performMove_52 ?_
    refine g_get (j := 3) cok7 (by decide) (.ref (eB E + 15)) (Or.inl tw2_67) oS0 vS0_3 dX7_performMove_53 ?_
    refine g_iload_n rfl 1 rfl dX7_performMove_56 ?_
    refine g_aload_n rfl 0 rfl dX7_performMove_57 ?_
    refine g_get (j := 0) cok7 (by decide) (.ref (eB E + 1)) (Or.inl tw2_64) oS0 vS0_0 dX7_performMove_58 ?_
    obtain ⟨q2, h3, hf⟩ := bnd_some hf
    refine g_callVN0v (As := [.int l1, .ref (eB E + 1)]) (rest := []) cok2 mok_X2_keep nmm_30 tw3_178 ts3_9 oS15 B.1 (by decide) (kX2_keep  h3) rfl rfl (Nat.le_of_ble_eq_true rfl) ⟨Nat.le_refl _, Nat.le_refl _⟩ dX7_performMove_61 ?_
    refine g_aload_n rfl 0 rfl dX7_performMove_64 ?_
    refine g_get (j := 0) cok7 (by decide) (.ref (eB E + 1)) (Or.inl tw2_64) oS0 vS0_0 dX7_performMove_65 ?_
    refine g_dup rfl dX7_performMove_68 ?_
    refine g_get (j := 5) cok4 (by decide) (.int (sI q2 1 5)) (Or.inr nf_13) oS1 (fun _ => rfl) dX7_performMove_69 ?_
    refine g_iconst (1 : Int32) (by decide) dX7_performMove_72 ?_
    refine g_iload_n rfl 2 rfl dX7_performMove_73 ?_
    refine g_ishl dX7_performMove_74 ?_
    refine g_ixor dX7_performMove_75 ?_
    refine g_putI (j := 5) cok4 (by decide) rfl rfl rfl rfl (Or.inr nf_13) oS1 B.2.1 wpI dX7_performMove_76 ?_
    refine g_aload_n rfl 0 rfl dX7_performMove_79 ?_
    refine g_get (j := 0) cok7 (by decide) (.ref (eB E + 1)) (Or.inl tw2_64) oS0 vS0_0 dX7_performMove_80 ?_
    refine g_get (j := 5) cok4 (by decide) (.int (sI (pI q2 1 5 ((sI q2 1 5) ^^^ (jshl (1 : Int32) l2))) 1 5)) (Or.inr nf_13) oS1 (fun _ => rfl) dX7_performMove_83 ?_
    refine g_callS0i (As := [.int (sI (pI q2 1 5 ((sI q2 1 5) ^^^ (jshl (1 : Int32) l2))) 1 5)]) (rest := []) mok_J6_bitCount_0f7a4 tw2_166 tw2_167 B.1 (by decide) (kJ6_bitCount_0f7a4  rfl) rfl rfl (Nat.le_of_ble_eq_true rfl) ⟨Nat.le_refl _, Nat.le_refl _⟩ dX7_performMove_86 ?_
    exact g_iret B.2.2.2 B.2.2.1 (congrArg (fun z => some (Value.int z)) (Prod.mk.inj (Option.some.inj hf)).1.symm) (Prod.mk.inj (Option.some.inj hf)).2.symm dX7_performMove_89
  · rw [if_pos h1] at hf
    refine g_bipush (-3 : Int32) (by decide) dX7_performMove_49 ?_
    exact g_iret B.2.2.2 B.2.2.1 (congrArg (fun z => some (Value.int z)) (Prod.mk.inj (Option.some.inj hf)).1.symm) (Prod.mk.inj (Option.some.inj hf)).2.symm dX7_performMove_51
def fX7_performMove_b34 (l1 : Int32) (l2 : Int32) (s0 : Int32) (st : St) : Option (Int32 × St) :=
  if l1 = (1 : Int32) then (fX7_performMove_b46 l1 l2 s0 (1 : Int32) st) else (fX7_performMove_b46 l1 l2 s0 (0 : Int32) st)
set_option maxHeartbeats 1000000 in
set_option maxRecDepth 20000 in
theorem wX7_performMove_b34 {E : Ev} {x : Cx} {r0 : Int32} {u0 : St} (B : Bd E x (some FieldType.int) (5) 0 0 (some (.int r0)) u0) (l1 : Int32) (l2 : Int32) (s0 : Int32) (st : St)  (hf : fX7_performMove_b34 l1 l2 s0 st = some (r0, u0)) : G E WT x RX7 cX7_performMove 4 (0, 0) st 34 [(0, .ref (eB E + 0)), (1, .int l1), (2, .int l2)] [.int s0] := by
  unfold fX7_performMove_b34 at hf
  refine g_istore_n rfl [(3, .int s0), (0, .ref (eB E + 0)), (1, .int l1), (2, .int l2)] (by decide) rfl dX7_performMove_34 ?_
  refine g_iload_n rfl 0 rfl dX7_performMove_35 ?_
  refine g_iload_n rfl 2 rfl dX7_performMove_36 ?_
  refine g_iconst (1 : Int32) (by decide) dX7_performMove_37 ?_
  refine g_icmp_ne 45 (by decide) dX7_performMove_38 (fun h1 => ?_) (fun h1 => ?_)
  · rw [if_neg h1] at hf
    refine g_iconst (0 : Int32) (by decide) dX7_performMove_45 ?_
    refine g_lvs [1, 2, 3] rfl ?_
    exact wX7_performMove_b46 B  l1 l2 s0 (0 : Int32) st hf
  · rw [if_pos h1] at hf
    refine g_iconst (1 : Int32) (by decide) dX7_performMove_41 ?_
    refine g_goto 46 (by decide) dX7_performMove_42 ?_
    refine g_lvs [1, 2, 3] rfl ?_
    exact wX7_performMove_b46 B  l1 l2 s0 (1 : Int32) st hf
def fX7_performMove (p1 : Int32) (p2 : Int32) (st : St) : Option (Int32 × St) :=
  if (fX4_lacksChild st p2) = 0 then (if ((jshr (sI st 1 5) p2) &&& (1 : Int32)) = (1 : Int32) then (fX7_performMove_b34 p1 p2 (1 : Int32) st) else (fX7_performMove_b34 p1 p2 (0 : Int32) st)) else (some ((-2 : Int32), st))
set_option maxHeartbeats 1000000 in
set_option maxRecDepth 20000 in
theorem wX7_performMove {E : Ev} {x : Cx} {r0 : Int32} {u0 : St} (B : Bd E x (some FieldType.int) (5) 0 0 (some (.int r0)) u0) (p1 : Int32) (p2 : Int32) (st : St)  (hf : fX7_performMove p1 p2 st = some (r0, u0)) : G E WT x RX7 cX7_performMove 4 (0, 0) st 0 [(0, .ref (eB E + 0)), (1, .int p1), (2, .int p2)] [] := by
  unfold fX7_performMove at hf
  refine g_aload_n rfl 0 rfl dX7_performMove_0 ?_
  refine g_get (j := 0) cok7 (by decide) (.ref (eB E + 1)) (Or.inl tw2_64) oS0 vS0_0 dX7_performMove_1 ?_
  refine g_iload_n rfl 2 rfl dX7_performMove_4 ?_
  refine g_callVN0i (As := [.int p2]) (rest := []) cok4 mok_X4_lacksChild nmm_10 tw2_148 ts1_6 oS1 B.1 (by decide) (kX4_lacksChild  rfl) rfl rfl (Nat.le_of_ble_eq_true rfl) ⟨Nat.le_refl _, Nat.le_refl _⟩ dX7_performMove_5 ?_
  refine g_if_eq 14 (by decide) dX7_performMove_8 (fun h1 => ?_) (fun h1 => ?_)
  · rw [if_pos h1] at hf
    refine g_aload_n rfl 0 rfl dX7_performMove_14 ?_
    refine g_get (j := 0) cok7 (by decide) (.ref (eB E + 1)) (Or.inl tw2_64) oS0 vS0_0 dX7_performMove_15 ?_
    refine g_get (j := 5) cok4 (by decide) (.int (sI st 1 5)) (Or.inr nf_13) oS1 (fun _ => rfl) dX7_performMove_18 ?_
    refine g_iload_n rfl 2 rfl dX7_performMove_21 ?_
    refine g_ishr dX7_performMove_22 ?_
    refine g_iconst (1 : Int32) (by decide) dX7_performMove_23 ?_
    refine g_iand dX7_performMove_24 ?_
    refine g_iconst (1 : Int32) (by decide) dX7_performMove_25 ?_
    refine g_icmp_ne 33 (by decide) dX7_performMove_26 (fun h2 => ?_) (fun h2 => ?_)
    · rw [if_neg h2] at hf
      refine g_iconst (0 : Int32) (by decide) dX7_performMove_33 ?_
      refine g_lvs [0, 1, 2] rfl ?_
      exact wX7_performMove_b34 B  p1 p2 (0 : Int32) st hf
    · rw [if_pos h2] at hf
      refine g_iconst (1 : Int32) (by decide) dX7_performMove_29 ?_
      refine g_goto 34 (by decide) dX7_performMove_30 ?_
      refine g_lvs [0, 1, 2] rfl ?_
      exact wX7_performMove_b34 B  p1 p2 (1 : Int32) st hf
  · rw [if_neg h1] at hf
    refine g_bipush (-2 : Int32) (by decide) dX7_performMove_11 ?_
    exact g_iret B.2.2.2 B.2.2.1 (congrArg (fun z => some (Value.int z)) (Prod.mk.inj (Option.some.inj hf)).1.symm) (Prod.mk.inj (Option.some.inj hf)).2.symm dX7_performMove_13
theorem kX7_performMove {l : Launch} {E : Ev} {st : St} {p1 : Int32} {p2 : Int32} {r0 : Int32} {u0 : St}  (hf : fX7_performMove p1 p2 st = some (r0, u0)) : CM l E WT yX7_performMove cX7_performMove 4 (some FieldType.int) 5 0 0 [.ref (eB E + 0), .int p1, .int p2] st (some (.int r0)) u0 :=
  CM.intro mok_X7_performMove (Nat.le_of_ble_eq_true rfl) (fun x hl hR ht hr hQ _ => wX7_performMove ⟨hR, ht, hr, hQ⟩ p1 p2 st hf)
def fX7_performRound  (st : St) : Option (Int32 × St) :=
  if (sI st 5 0) < (999 : Int32) then ((fX2_keep (3 : Int32) st).bind (fun q2 => (fX4_settle ((fX4_everyone q2) * (6 : Int32)) q2).bind (fun q4 => some (sI (pI q4 5 0 ((sI q4 5 0) + (1 : Int32))) 5 0, pI q4 5 0 ((sI q4 5 0) + (1 : Int32)))))) else (some ((-3 : Int32), st))
set_option maxHeartbeats 1000000 in
set_option maxRecDepth 20000 in
theorem wX7_performRound {E : Ev} {x : Cx} {r0 : Int32} {u0 : St} (B : Bd E x (some FieldType.int) (5) 0 0 (some (.int r0)) u0)  (st : St)  (hf : fX7_performRound st = some (r0, u0)) : G E WT x RX7 cX7_performRound 1 (0, 0) st 0 [(0, .ref (eB E + 0))] [] := by
  unfold fX7_performRound at hf
  refine g_aload_n rfl 0 rfl dX7_performRound_0 ?_
  refine g_get (j := 0) cok7 (by decide) (.ref (eB E + 1)) (Or.inl tw2_64) oS0 vS0_0 dX7_performRound_1 ?_
  refine g_get (j := 3) cok4 (by decide) (.ref (eB E + 5)) (Or.inr nf_8) oS1 vS1_3 dX7_performRound_4 ?_
  refine g_iconst (0 : Int32) (by decide) dX7_performRound_7 ?_
  refine g_ialdj 0 rfl aS5 (ixb_in rfl) dX7_performRound_8 ?_
  refine g_sipush (999 : Int32) (by decide) dX7_performRound_9 ?_
  refine g_icmp_lt 18 (by decide) dX7_performRound_12 (fun h1 => ?_) (fun h1 => ?_)
  · rw [if_pos h1] at hf
    refine g_aload_n rfl 0 rfl dX7_performRound_18 ?_
    refine g_get (j := 3) cok7 (by decide) (.ref (eB E + 15)) (Or.inl tw2_67) oS0 vS0_3 dX7_performRound_19 ?_
    refine g_iconst (3 : Int32) (by decide) dX7_performRound_22 ?_
    refine g_aload_n rfl 0 rfl dX7_performRound_23 ?_
    refine g_get (j := 0) cok7 (by decide) (.ref (eB E + 1)) (Or.inl tw2_64) oS0 vS0_0 dX7_performRound_24 ?_
    obtain ⟨q2, h3, hf⟩ := bnd_some hf
    refine g_callVN0v (As := [.int (3 : Int32), .ref (eB E + 1)]) (rest := []) cok2 mok_X2_keep nmm_30 tw3_178 ts3_9 oS15 B.1 (by decide) (kX2_keep  h3) rfl rfl (Nat.le_of_ble_eq_true rfl) ⟨Nat.le_refl _, Nat.le_refl _⟩ dX7_performRound_27 ?_
    refine g_aload_n rfl 0 rfl dX7_performRound_30 ?_
    refine g_get (j := 0) cok7 (by decide) (.ref (eB E + 1)) (Or.inl tw2_64) oS0 vS0_0 dX7_performRound_31 ?_
    refine g_aload_n rfl 0 rfl dX7_performRound_34 ?_
    refine g_get (j := 0) cok7 (by decide) (.ref (eB E + 1)) (Or.inl tw2_64) oS0 vS0_0 dX7_performRound_35 ?_
    refine g_callVN0i (As := []) (rest := [.ref (eB E + 1)]) cok4 mok_X4_everyone nmm_33 tw3_198 ts3_14 oS1 B.1 (by decide) (kX4_everyone  rfl) rfl rfl (Nat.le_of_ble_eq_true rfl) ⟨Nat.le_refl _, Nat.le_refl _⟩ dX7_performRound_38 ?_
    refine g_bipush (6 : Int32) (by decide) dX7_performRound_41 ?_
    refine g_imul dX7_performRound_43 ?_
    obtain ⟨q4, h5, hf⟩ := bnd_some hf
    refine g_callVN0v (As := [.int ((fX4_everyone q2) * (6 : Int32))]) (rest := []) cok4 mok_X4_settle nmm_32 tw3_186 ts3_11 oS1 B.1 (by decide) (kX4_settle  h5) rfl rfl (Nat.le_of_ble_eq_true rfl) ⟨Nat.le_refl _, Nat.le_refl _⟩ dX7_performRound_44 ?_
    refine g_aload_n rfl 0 rfl dX7_performRound_47 ?_
    refine g_get (j := 0) cok7 (by decide) (.ref (eB E + 1)) (Or.inl tw2_64) oS0 vS0_0 dX7_performRound_48 ?_
    refine g_get (j := 3) cok4 (by decide) (.ref (eB E + 5)) (Or.inr nf_8) oS1 vS1_3 dX7_performRound_51 ?_
    refine g_iconst (0 : Int32) (by decide) dX7_performRound_54 ?_
    refine g_dup2 rfl rfl dX7_performRound_55 ?_
    refine g_ialdj 0 rfl aS5 (ixb_in rfl) dX7_performRound_56 ?_
    refine g_iconst (1 : Int32) (by decide) dX7_performRound_57 ?_
    refine g_iadd dX7_performRound_58 ?_
    refine g_iastj 0 rfl aS5 (ixb_in rfl) B.2.1 wpI dX7_performRound_59 ?_
    refine g_aload_n rfl 0 rfl dX7_performRound_60 ?_
    refine g_get (j := 0) cok7 (by decide) (.ref (eB E + 1)) (Or.inl tw2_64) oS0 vS0_0 dX7_performRound_61 ?_
    refine g_get (j := 3) cok4 (by decide) (.ref (eB E + 5)) (Or.inr nf_8) oS1 vS1_3 dX7_performRound_64 ?_
    refine g_iconst (0 : Int32) (by decide) dX7_performRound_67 ?_
    refine g_ialdj 0 rfl aS5 (ixb_in rfl) dX7_performRound_68 ?_
    exact g_iret B.2.2.2 B.2.2.1 (congrArg (fun z => some (Value.int z)) (Prod.mk.inj (Option.some.inj hf)).1.symm) (Prod.mk.inj (Option.some.inj hf)).2.symm dX7_performRound_69
  · rw [if_neg h1] at hf
    refine g_bipush (-3 : Int32) (by decide) dX7_performRound_15 ?_
    exact g_iret B.2.2.2 B.2.2.1 (congrArg (fun z => some (Value.int z)) (Prod.mk.inj (Option.some.inj hf)).1.symm) (Prod.mk.inj (Option.some.inj hf)).2.symm dX7_performRound_17
theorem kX7_performRound {l : Launch} {E : Ev} {st : St}  {r0 : Int32} {u0 : St}  (hf : fX7_performRound st = some (r0, u0)) : CM l E WT yX7_performRound cX7_performRound 1 (some FieldType.int) 5 0 0 [.ref (eB E + 0)] st (some (.int r0)) u0 :=
  CM.intro mok_X7_performRound (Nat.le_of_ble_eq_true rfl) (fun x hl hR ht hr hQ _ => wX7_performRound ⟨hR, ht, hr, hQ⟩ st hf)
def fX7_runClause_b40 (l2 : Int32) (l3 : Int32) (st : St) : Option (Int32 × St) :=
  chk (ixb l2 12) (if sI st 10 l2.toNatClampNeg = (0 : Int32) then (fX7_performSaying l3 st) else (if sI st 10 l2.toNatClampNeg = (1 : Int32) then (chk (ixb l2 12) (fX7_performMove (sI st 10 l2.toNatClampNeg) l3 st)) else (if sI st 10 l2.toNatClampNeg = (2 : Int32) then (chk (ixb l2 12) (fX7_performMove (sI st 10 l2.toNatClampNeg) l3 st)) else (fX7_performRound st))))
set_option maxHeartbeats 1000000 in
set_option maxRecDepth 20000 in
theorem wX7_runClause_b40 {E : Ev} {x : Cx} {r0 : Int32} {u0 : St} (B : Bd E x (some FieldType.int) (7) 0 0 (some (.int r0)) u0) (l2 : Int32) (l3 : Int32) (st : St)  (hf : fX7_runClause_b40 l2 l3 st = some (r0, u0)) : G E WT x RX7 cX7_runClause 4 (0, 0) st 40 [(0, .ref (eB E + 0)), (1, .ref (eB E + 9)), (2, .int l2), (3, .int l3)] [] := by
  unfold fX7_runClause_b40 at hf
  refine g_aload_n rfl 1 rfl dX7_runClause_40 ?_
  refine g_get (j := 0) cok5 (by decide) (.ref (eB E + 10)) (Or.inr nf_23) oS9 vS9_0 dX7_runClause_41 ?_
  refine g_iload_n rfl 2 rfl dX7_runClause_44 ?_
  obtain ⟨h1, hf⟩ := chk_some hf
  refine g_ialdj l2.toNatClampNeg rfl aS10 (ixb_in h1) dX7_runClause_45 ?_
  by_cases h2 : sI st 10 l2.toNatClampNeg = (0 : Int32)
  · rw [if_pos h2] at hf
    refine g_tableIn 26 72 dX7_runClause_46 (by rw [h2]; decide) (by rw [h2]; decide) (by rw [h2]; decide) (by decide) ?_
    refine g_aload_n rfl 0 rfl dX7_runClause_72 ?_
    refine g_iload_n rfl 3 rfl dX7_runClause_73 ?_
    refine g_callV0i (As := [.int l3]) (rest := []) cok7 mok_X7_performSaying tw3_153 tw3_155 ts3_4 oS0 B.1 (by decide) (kX7_performSaying  hf) rfl rfl (Nat.le_of_ble_eq_true rfl) ⟨Nat.le_refl _, Nat.le_refl _⟩ dX7_runClause_74 ?_
    exact g_iret B.2.2.2 B.2.2.1 rfl rfl dX7_runClause_77
  · rw [if_neg h2] at hf
    by_cases h3 : sI st 10 l2.toNatClampNeg = (1 : Int32)
    · rw [if_pos h3] at hf
      refine g_tableIn 32 78 dX7_runClause_46 (by rw [h3]; decide) (by rw [h3]; decide) (by rw [h3]; decide) (by decide) ?_
      refine g_aload_n rfl 0 rfl dX7_runClause_78 ?_
      refine g_aload_n rfl 1 rfl dX7_runClause_79 ?_
      refine g_get (j := 0) cok5 (by decide) (.ref (eB E + 10)) (Or.inr nf_23) oS9 vS9_0 dX7_runClause_80 ?_
      refine g_iload_n rfl 2 rfl dX7_runClause_83 ?_
      obtain ⟨h4, hf⟩ := chk_some hf
      refine g_ialdj l2.toNatClampNeg rfl aS10 (ixb_in h4) dX7_runClause_84 ?_
      refine g_iload_n rfl 3 rfl dX7_runClause_85 ?_
      refine g_callV0i (As := [.int (sI st 10 l2.toNatClampNeg), .int l3]) (rest := []) cok7 mok_X7_performMove tw3_188 tw3_190 ts3_12 oS0 B.1 (by decide) (kX7_performMove  hf) rfl rfl (Nat.le_of_ble_eq_true rfl) ⟨Nat.le_refl _, Nat.le_refl _⟩ dX7_runClause_86 ?_
      exact g_iret B.2.2.2 B.2.2.1 rfl rfl dX7_runClause_89
    · rw [if_neg h3] at hf
      by_cases h5 : sI st 10 l2.toNatClampNeg = (2 : Int32)
      · rw [if_pos h5] at hf
        refine g_tableIn 32 78 dX7_runClause_46 (by rw [h5]; decide) (by rw [h5]; decide) (by rw [h5]; decide) (by decide) ?_
        refine g_aload_n rfl 0 rfl dX7_runClause_78 ?_
        refine g_aload_n rfl 1 rfl dX7_runClause_79 ?_
        refine g_get (j := 0) cok5 (by decide) (.ref (eB E + 10)) (Or.inr nf_23) oS9 vS9_0 dX7_runClause_80 ?_
        refine g_iload_n rfl 2 rfl dX7_runClause_83 ?_
        obtain ⟨h6, hf⟩ := chk_some hf
        refine g_ialdj l2.toNatClampNeg rfl aS10 (ixb_in h6) dX7_runClause_84 ?_
        refine g_iload_n rfl 3 rfl dX7_runClause_85 ?_
        refine g_callV0i (As := [.int (sI st 10 l2.toNatClampNeg), .int l3]) (rest := []) cok7 mok_X7_performMove tw3_188 tw3_190 ts3_12 oS0 B.1 (by decide) (kX7_performMove  hf) rfl rfl (Nat.le_of_ble_eq_true rfl) ⟨Nat.le_refl _, Nat.le_refl _⟩ dX7_runClause_86 ?_
        exact g_iret B.2.2.2 B.2.2.1 rfl rfl dX7_runClause_89
      · rw [if_neg h5] at hf
        refine g_tableOut 90 dX7_runClause_46 (tab_out [(0 : Int32), (1 : Int32), (2 : Int32)] 3 (by decide) (by simp only [List.forall_mem_cons]; exact ⟨h2, h3, h5, fun _ h => nomatch h⟩) (by decide)) (by decide) ?_
        refine g_aload_n rfl 0 rfl dX7_runClause_90 ?_
        refine g_callV0i (As := []) (rest := []) cok7 mok_X7_performRound tw3_192 tw3_194 ts3_13 oS0 B.1 (by decide) (kX7_performRound  hf) rfl rfl (Nat.le_of_ble_eq_true rfl) ⟨Nat.le_refl _, Nat.le_refl _⟩ dX7_runClause_91 ?_
        exact g_iret B.2.2.2 B.2.2.1 rfl rfl dX7_runClause_94
def fX7_runClause (p2 : Int32) (st : St) : Option (Int32 × St) :=
  chk (ixb p2 12) (if (sI st 12 p2.toNatClampNeg) = 0 then (fX7_runClause_b40 p2 (0 : Int32) st) else (chk (ixb p2 12) ((fX5_worth 9 (sI st 12 p2.toNatClampNeg) 36 37 st).bind (fun q5 => if q5.1 = (-2000000000 : Int32) then (some ((-3 : Int32), q5.2)) else (fX7_runClause_b40 p2 q5.1 q5.2)))))
set_option maxHeartbeats 1000000 in
set_option maxRecDepth 20000 in
theorem wX7_runClause {E : Ev} {x : Cx} {r0 : Int32} {u0 : St} (B : Bd E x (some FieldType.int) (7) 0 0 (some (.int r0)) u0) (p2 : Int32) (st : St)  (hf : fX7_runClause p2 st = some (r0, u0)) : G E WT x RX7 cX7_runClause 4 (0, 0) st 0 [(0, .ref (eB E + 0)), (1, .ref (eB E + 9)), (2, .int p2)] [] := by
  unfold fX7_runClause at hf
  refine g_iconst (0 : Int32) (by decide) dX7_runClause_0 ?_
  refine g_istore_n rfl [(3, .int (0 : Int32)), (0, .ref (eB E + 0)), (1, .ref (eB E + 9)), (2, .int p2)] (by decide) rfl dX7_runClause_1 ?_
  refine g_aload_n rfl 2 rfl dX7_runClause_2 ?_
  refine g_get (j := 2) cok5 (by decide) (.ref (eB E + 12)) (Or.inr nf_28) oS9 vS9_2 dX7_runClause_3 ?_
  refine g_iload_n rfl 3 rfl dX7_runClause_6 ?_
  obtain ⟨h1, hf⟩ := chk_some hf
  refine g_ialdj p2.toNatClampNeg rfl aS12 (ixb_in h1) dX7_runClause_7 ?_
  refine g_if_eq 40 (by decide) dX7_runClause_8 (fun h2 => ?_) (fun h2 => ?_)
  · rw [if_pos h2] at hf
    refine g_lvs [1, 2, 3, 0] rfl ?_
    exact wX7_runClause_b40 B  p2 (0 : Int32) st hf
  · rw [if_neg h2] at hf
    refine g_aload_n rfl 2 rfl dX7_runClause_11 ?_
    refine g_aload_n rfl 2 rfl dX7_runClause_12 ?_
    refine g_get (j := 2) cok5 (by decide) (.ref (eB E + 12)) (Or.inr nf_28) oS9 vS9_2 dX7_runClause_13 ?_
    refine g_iload_n rfl 3 rfl dX7_runClause_16 ?_
    obtain ⟨h3, hf⟩ := chk_some hf
    refine g_ialdj p2.toNatClampNeg rfl aS12 (ixb_in h3) dX7_runClause_17 ?_
    refine g_aload_n rfl 1 rfl dX7_runClause_18 ?_
    refine g_get (j := 9) cok7 (by decide) (.ref (eB E + 36)) (Or.inl tw2_73) oS0 vS0_9 dX7_runClause_19 ?_
    refine g_aload_n rfl 1 rfl dX7_runClause_22 ?_
    refine g_get (j := 10) cok7 (by decide) (.ref (eB E + 37)) (Or.inl tw2_74) oS0 vS0_10 dX7_runClause_23 ?_
    refine g_wt (fun w4 => ?_)
    obtain ⟨q5, h6, hf⟩ := bnd_some hf
    refine g_callVN0i (As := [.int (sI st 12 p2.toNatClampNeg), .ref (eB E + 36), .ref (eB E + 37)]) (rest := []) cok5 mok_X5_worth nmm_27 tw2_199 ts1_14 oS9 B.1 (by decide) (kX5_worth (oS9 w4) (oS36 w4) (oS37 w4) h6) rfl rfl (Nat.le_of_ble_eq_true rfl) ⟨Nat.le_refl _, Nat.le_refl _⟩ dX7_runClause_26 ?_
    refine g_istore_n rfl [(3, .int q5.1), (0, .ref (eB E + 0)), (1, .ref (eB E + 9)), (2, .int p2)] (by decide) rfl dX7_runClause_29 ?_
    refine g_iload_n rfl 0 rfl dX7_runClause_30 ?_
    refine g_ldcw tw3_152 dX7_runClause_31 ?_
    refine g_icmp_ne 40 (by decide) dX7_runClause_34 (fun h7 => ?_) (fun h7 => ?_)
    · rw [if_neg h7] at hf
      refine g_lvs [1, 2, 3, 0] rfl ?_
      exact wX7_runClause_b40 B  p2 q5.1 q5.2 hf
    · rw [if_pos h7] at hf
      refine g_bipush (-3 : Int32) (by decide) dX7_runClause_37 ?_
      exact g_iret B.2.2.2 B.2.2.1 (congrArg (fun z => some (Value.int z)) (Prod.mk.inj (Option.some.inj hf)).1.symm) (Prod.mk.inj (Option.some.inj hf)).2.symm dX7_runClause_39
theorem kX7_runClause {l : Launch} {E : Ev} {st : St} {p2 : Int32} {r0 : Int32} {u0 : St}  (hf : fX7_runClause p2 st = some (r0, u0)) : CM l E WT yX7_runClause cX7_runClause 4 (some FieldType.int) 7 0 0 [.ref (eB E + 0), .ref (eB E + 9), .int p2] st (some (.int r0)) u0 :=
  CM.intro mok_X7_runClause (Nat.le_of_ble_eq_true rfl) (fun x hl hR ht hr hQ _ => wX7_runClause ⟨hR, ht, hr, hQ⟩ p2 st hf)
def fX7_runWhollyOrNot_b191 (k49 : Int32 → Int32 → Int32 → Int32 → Int32 → Int32 → St → Option (Int32 × St)) (k61 : Int32 → Int32 → Int32 → Int32 → Int32 → Int32 → Int32 → St → Option (Int32 × St))(l2 : Int32) (l3 : Int32) (l4 : Int32) (l5 : Int32) (l6 : Int32) (l7 : Int32) (l8 : Int32) (st : St) : Option (Int32 × St) :=
  k61 l2 l3 l4 l5 l6 l7 (l8 + (1 : Int32)) st
set_option maxHeartbeats 1000000 in
set_option maxRecDepth 20000 in
theorem wX7_runWhollyOrNot_b191 {E : Ev} {x : Cx} {r0 : Int32} {u0 : St} (B : Bd E x (some FieldType.int) (8) 0 0 (some (.int r0)) u0) {k49 : Int32 → Int32 → Int32 → Int32 → Int32 → Int32 → St → Option (Int32 × St)} (hk49 : ∀ (l2 : Int32) (l3 : Int32) (l4 : Int32) (l5 : Int32) (l6 : Int32) (l7 : Int32) (st : St), k49 l2 l3 l4 l5 l6 l7 st = some (r0, u0) → G E WT x RX7 cX7_runWhollyOrNot 11 (0, 0) st 49 [(0, .ref (eB E + 0)), (1, .ref (eB E + 9)), (2, .int l2), (3, .int l3), (4, .int l4), (5, .int l5), (6, .int l6), (7, .int l7)] []) {k61 : Int32 → Int32 → Int32 → Int32 → Int32 → Int32 → Int32 → St → Option (Int32 × St)} (hk61 : ∀ (l2 : Int32) (l3 : Int32) (l4 : Int32) (l5 : Int32) (l6 : Int32) (l7 : Int32) (l8 : Int32) (st : St), k61 l2 l3 l4 l5 l6 l7 l8 st = some (r0, u0) → G E WT x RX7 cX7_runWhollyOrNot 11 (0, 0) st 61 [(0, .ref (eB E + 0)), (1, .ref (eB E + 9)), (2, .int l2), (3, .int l3), (4, .int l4), (5, .int l5), (6, .int l6), (7, .int l7), (8, .int l8)] []) (l2 : Int32) (l3 : Int32) (l4 : Int32) (l5 : Int32) (l6 : Int32) (l7 : Int32) (l8 : Int32) (st : St)  (hf : fX7_runWhollyOrNot_b191 k49 k61 l2 l3 l4 l5 l6 l7 l8 st = some (r0, u0)) : G E WT x RX7 cX7_runWhollyOrNot 11 (0, 0) st 191 [(0, .ref (eB E + 0)), (1, .ref (eB E + 9)), (2, .int l2), (3, .int l3), (4, .int l4), (5, .int l5), (6, .int l6), (7, .int l7), (8, .int l8)] [] := by
  unfold fX7_runWhollyOrNot_b191 at hf
  refine g_iinc (l8 + (1 : Int32)) [(8, .int (l8 + (1 : Int32))), (0, .ref (eB E + 0)), (1, .ref (eB E + 9)), (2, .int l2), (3, .int l3), (4, .int l4), (5, .int l5), (6, .int l6), (7, .int l7)] 8 rfl (congrArg (fun z => l8 + z) (show Int32.ofInt (1) = (1 : Int32) by decide)) (by decide) rfl dX7_runWhollyOrNot_191 ?_
  refine g_goto 61 (by decide) dX7_runWhollyOrNot_194 ?_
  refine g_lvs [1, 2, 3, 4, 5, 6, 7, 8, 0] rfl ?_
  exact hk61 l2 l3 l4 l5 l6 l7 (l8 + (1 : Int32)) st hf
def fX7_runWhollyOrNot_b116 (k49 : Int32 → Int32 → Int32 → Int32 → Int32 → Int32 → St → Option (Int32 × St)) (k61 : Int32 → Int32 → Int32 → Int32 → Int32 → Int32 → Int32 → St → Option (Int32 × St))(l2 : Int32) (l3 : Int32) (l4 : Int32) (l5 : Int32) (l6 : Int32) (l7 : Int32) (l8 : Int32) (st : St) : Option (Int32 × St) :=
  (fX7_runClause l7 st).bind (fun q1 => if 0 ≤ q1.1 then (chk (ixb l7 12) (if (sI q1.2 10 l7.toNatClampNeg) = 0 then (fX7_runWhollyOrNot_b191 k49 k61 l2 l3 l4 (l5 + (1 : Int32)) q1.1 l7 l8 q1.2) else (fX7_runWhollyOrNot_b191 k49 k61 l2 l3 l4 (l5 + (1 : Int32)) l6 l7 l8 q1.2))) else ((fX4_settle ((l2 * (6 : Int32)) + l3) q1.2).bind (fun q6 => (fX2_becomes 15 17 (pI q6 5 0 l4)).bind (fun q9 => some ((-3 : Int32), pI q9 0 13 l7)))))
set_option maxHeartbeats 1000000 in
set_option maxRecDepth 20000 in
theorem wX7_runWhollyOrNot_b116 {E : Ev} {x : Cx} {r0 : Int32} {u0 : St} (B : Bd E x (some FieldType.int) (8) 0 0 (some (.int r0)) u0) {k49 : Int32 → Int32 → Int32 → Int32 → Int32 → Int32 → St → Option (Int32 × St)} (hk49 : ∀ (l2 : Int32) (l3 : Int32) (l4 : Int32) (l5 : Int32) (l6 : Int32) (l7 : Int32) (st : St), k49 l2 l3 l4 l5 l6 l7 st = some (r0, u0) → G E WT x RX7 cX7_runWhollyOrNot 11 (0, 0) st 49 [(0, .ref (eB E + 0)), (1, .ref (eB E + 9)), (2, .int l2), (3, .int l3), (4, .int l4), (5, .int l5), (6, .int l6), (7, .int l7)] []) {k61 : Int32 → Int32 → Int32 → Int32 → Int32 → Int32 → Int32 → St → Option (Int32 × St)} (hk61 : ∀ (l2 : Int32) (l3 : Int32) (l4 : Int32) (l5 : Int32) (l6 : Int32) (l7 : Int32) (l8 : Int32) (st : St), k61 l2 l3 l4 l5 l6 l7 l8 st = some (r0, u0) → G E WT x RX7 cX7_runWhollyOrNot 11 (0, 0) st 61 [(0, .ref (eB E + 0)), (1, .ref (eB E + 9)), (2, .int l2), (3, .int l3), (4, .int l4), (5, .int l5), (6, .int l6), (7, .int l7), (8, .int l8)] []) (l2 : Int32) (l3 : Int32) (l4 : Int32) (l5 : Int32) (l6 : Int32) (l7 : Int32) (l8 : Int32) (st : St)  (hf : fX7_runWhollyOrNot_b116 k49 k61 l2 l3 l4 l5 l6 l7 l8 st = some (r0, u0)) : G E WT x RX7 cX7_runWhollyOrNot 11 (0, 0) st 116 [(0, .ref (eB E + 0)), (1, .ref (eB E + 9)), (2, .int l2), (3, .int l3), (4, .int l4), (5, .int l5), (6, .int l6), (7, .int l7), (8, .int l8)] [] := by
  unfold fX7_runWhollyOrNot_b116 at hf
  refine g_aload_n rfl 0 rfl dX7_runWhollyOrNot_116 ?_
  refine g_aload_n rfl 1 rfl dX7_runWhollyOrNot_117 ?_
  refine g_iload 7 rfl dX7_runWhollyOrNot_118 ?_
  obtain ⟨q1, h2, hf⟩ := bnd_some hf
  refine g_callV0i (As := [.ref (eB E + 9), .int l7]) (rest := []) cok7 mok_X7_runClause tw3_148 tw3_150 ts3_3 oS0 B.1 (by decide) (kX7_runClause  h2) rfl rfl (Nat.le_of_ble_eq_true rfl) ⟨Nat.le_refl _, Nat.le_refl _⟩ dX7_runWhollyOrNot_120 ?_
  refine g_istore [(10, .int q1.1), (0, .ref (eB E + 0)), (1, .ref (eB E + 9)), (2, .int l2), (3, .int l3), (4, .int l4), (5, .int l5), (6, .int l6), (7, .int l7), (8, .int l8)] (by decide) rfl dX7_runWhollyOrNot_123 ?_
  refine g_iload 0 rfl dX7_runWhollyOrNot_125 ?_
  refine g_if_ge 174 (by decide) dX7_runWhollyOrNot_127 (fun h3 => ?_) (fun h3 => ?_)
  · rw [if_pos h3] at hf
    refine g_iinc (l5 + (1 : Int32)) [(5, .int (l5 + (1 : Int32))), (10, .int q1.1), (0, .ref (eB E + 0)), (1, .ref (eB E + 9)), (2, .int l2), (3, .int l3), (4, .int l4), (6, .int l6), (7, .int l7), (8, .int l8)] 6 rfl (congrArg (fun z => l5 + z) (show Int32.ofInt (1) = (1 : Int32) by decide)) (by decide) rfl dX7_runWhollyOrNot_174 ?_
    refine g_aload_n rfl 3 rfl dX7_runWhollyOrNot_177 ?_
    refine g_get (j := 0) cok5 (by decide) (.ref (eB E + 10)) (Or.inr nf_23) oS9 vS9_0 dX7_runWhollyOrNot_178 ?_
    refine g_iload 8 rfl dX7_runWhollyOrNot_181 ?_
    obtain ⟨h4, hf⟩ := chk_some hf
    refine g_ialdj l7.toNatClampNeg rfl aS10 (ixb_in h4) dX7_runWhollyOrNot_183 ?_
    refine g_if_ne 191 (by decide) dX7_runWhollyOrNot_184 (fun h5 => ?_) (fun h5 => ?_)
    · rw [if_neg h5] at hf
      refine g_lvs [2, 3, 4, 5, 6, 0, 7, 8, 9] rfl ?_
      exact wX7_runWhollyOrNot_b191 B hk49 hk61 l2 l3 l4 (l5 + (1 : Int32)) l6 l7 l8 q1.2 hf
    · rw [if_pos h5] at hf
      refine g_iload 1 rfl dX7_runWhollyOrNot_187 ?_
      refine g_istore [(6, .int q1.1), (5, .int (l5 + (1 : Int32))), (10, .int q1.1), (0, .ref (eB E + 0)), (1, .ref (eB E + 9)), (2, .int l2), (3, .int l3), (4, .int l4), (7, .int l7), (8, .int l8)] (by decide) rfl dX7_runWhollyOrNot_189 ?_
      refine g_lvs [3, 4, 5, 6, 7, 1, 0, 8, 9] rfl ?_
      exact wX7_runWhollyOrNot_b191 B hk49 hk61 l2 l3 l4 (l5 + (1 : Int32)) q1.1 l7 l8 q1.2 hf
  · rw [if_neg h3] at hf
    refine g_aload_n rfl 1 rfl dX7_runWhollyOrNot_130 ?_
    refine g_get (j := 0) cok7 (by decide) (.ref (eB E + 1)) (Or.inl tw2_64) oS0 vS0_0 dX7_runWhollyOrNot_131 ?_
    refine g_iload_n rfl 3 rfl dX7_runWhollyOrNot_134 ?_
    refine g_bipush (6 : Int32) (by decide) dX7_runWhollyOrNot_135 ?_
    refine g_imul dX7_runWhollyOrNot_137 ?_
    refine g_iload_n rfl 4 rfl dX7_runWhollyOrNot_138 ?_
    refine g_iadd dX7_runWhollyOrNot_139 ?_
    obtain ⟨q6, h7, hf⟩ := bnd_some hf
    refine g_callVN0v (As := [.int ((l2 * (6 : Int32)) + l3)]) (rest := []) cok4 mok_X4_settle nmm_32 tw3_186 ts3_11 oS1 B.1 (by decide) (kX4_settle  h7) rfl rfl (Nat.le_of_ble_eq_true rfl) ⟨Nat.le_refl _, Nat.le_refl _⟩ dX7_runWhollyOrNot_140 ?_
    refine g_aload_n rfl 1 rfl dX7_runWhollyOrNot_143 ?_
    refine g_get (j := 0) cok7 (by decide) (.ref (eB E + 1)) (Or.inl tw2_64) oS0 vS0_0 dX7_runWhollyOrNot_144 ?_
    refine g_get (j := 3) cok4 (by decide) (.ref (eB E + 5)) (Or.inr nf_8) oS1 vS1_3 dX7_runWhollyOrNot_147 ?_
    refine g_iconst (0 : Int32) (by decide) dX7_runWhollyOrNot_150 ?_
    refine g_iload 5 rfl dX7_runWhollyOrNot_151 ?_
    refine g_iastj 0 rfl aS5 (ixb_in rfl) B.2.1 wpI dX7_runWhollyOrNot_153 ?_
    refine g_aload_n rfl 1 rfl dX7_runWhollyOrNot_154 ?_
    refine g_get (j := 3) cok7 (by decide) (.ref (eB E + 15)) (Or.inl tw2_67) oS0 vS0_3 dX7_runWhollyOrNot_155 ?_
    refine g_aload_n rfl 1 rfl dX7_runWhollyOrNot_158 ?_
    refine g_get (j := 4) cok7 (by decide) (.ref (eB E + 17)) (Or.inl tw2_68) oS0 vS0_4 dX7_runWhollyOrNot_159 ?_
    refine g_wt (fun w8 => ?_)
    obtain ⟨q9, h10, hf⟩ := bnd_some hf
    refine g_callVN0v (As := [.ref (eB E + 17)]) (rest := []) cok2 mok_X2_becomes nmm_26 tw3_140 ts3_1 oS15 B.1 (by decide) (kX2_becomes (oS15 w8) (oS17 w8) h10) rfl rfl (Nat.le_of_ble_eq_true rfl) ⟨Nat.le_refl _, Nat.le_refl _⟩ dX7_runWhollyOrNot_162 ?_
    refine g_aload_n rfl 1 rfl dX7_runWhollyOrNot_165 ?_
    refine g_iload 8 rfl dX7_runWhollyOrNot_166 ?_
    refine g_putI (j := 13) cok7 (by decide) rfl rfl rfl rfl (Or.inl tw2_77) oS0 B.2.1 wpI dX7_runWhollyOrNot_168 ?_
    refine g_bipush (-3 : Int32) (by decide) dX7_runWhollyOrNot_171 ?_
    exact g_iret B.2.2.2 B.2.2.1 (congrArg (fun z => some (Value.int z)) (Prod.mk.inj (Option.some.inj hf)).1.symm) (Prod.mk.inj (Option.some.inj hf)).2.symm dX7_runWhollyOrNot_173
def fX7_runWhollyOrNot_b61 (k49 : Int32 → Int32 → Int32 → Int32 → Int32 → Int32 → St → Option (Int32 × St)) : Nat → Int32 → Int32 → Int32 → Int32 → Int32 → Int32 → Int32 → St → Option (Int32 × St)
  | 0, _, _, _, _, _, _, _, _ => none
  | n + 1, l2, l3, l4, l5, l6, l7, l8, st => chk (ixb l7 12) (if (sI st 11 l7.toNatClampNeg) ≤ l8 then (k49 l2 l3 l4 l5 l6 (l7 + (1 : Int32)) st) else ((fX7_gatherFacts l5 l6 st).bind (fun q3 => chk (ixb l7 12) (if (sI q3 13 l7.toNatClampNeg) = 0 then (fX7_runWhollyOrNot_b116 k49 (fun zl2 zl3 zl4 zl5 zl6 zl7 zl8 zst => fX7_runWhollyOrNot_b61 k49 n zl2 zl3 zl4 zl5 zl6 zl7 zl8 zst) l2 l3 l4 l5 l6 l7 l8 q3) else ((fX5_worth 9 (sI q3 13 l7.toNatClampNeg) 36 37 q3).bind (fun q8 => if q8.1 = (1 : Int32) then (fX7_runWhollyOrNot_b116 k49 (fun zl2 zl3 zl4 zl5 zl6 zl7 zl8 zst => fX7_runWhollyOrNot_b61 k49 n zl2 zl3 zl4 zl5 zl6 zl7 zl8 zst) l2 l3 l4 l5 l6 l7 l8 q8.2) else (fX7_runWhollyOrNot_b191 k49 (fun zl2 zl3 zl4 zl5 zl6 zl7 zl8 zst => fX7_runWhollyOrNot_b61 k49 n zl2 zl3 zl4 zl5 zl6 zl7 zl8 zst) l2 l3 l4 l5 l6 l7 l8 q8.2)))))))
set_option maxHeartbeats 1000000 in
set_option maxRecDepth 20000 in
theorem wX7_runWhollyOrNot_b61 {E : Ev} {x : Cx} {r0 : Int32} {u0 : St} (B : Bd E x (some FieldType.int) (8) 0 0 (some (.int r0)) u0) {k49 : Int32 → Int32 → Int32 → Int32 → Int32 → Int32 → St → Option (Int32 × St)} (hk49 : ∀ (l2 : Int32) (l3 : Int32) (l4 : Int32) (l5 : Int32) (l6 : Int32) (l7 : Int32) (st : St), k49 l2 l3 l4 l5 l6 l7 st = some (r0, u0) → G E WT x RX7 cX7_runWhollyOrNot 11 (0, 0) st 49 [(0, .ref (eB E + 0)), (1, .ref (eB E + 9)), (2, .int l2), (3, .int l3), (4, .int l4), (5, .int l5), (6, .int l6), (7, .int l7)] []) : ∀ (n : Nat) (l2 : Int32) (l3 : Int32) (l4 : Int32) (l5 : Int32) (l6 : Int32) (l7 : Int32) (l8 : Int32) (st : St) , fX7_runWhollyOrNot_b61 k49 n l2 l3 l4 l5 l6 l7 l8 st = some (r0, u0) → G E WT x RX7 cX7_runWhollyOrNot 11 (0, 0) st 61 [(0, .ref (eB E + 0)), (1, .ref (eB E + 9)), (2, .int l2), (3, .int l3), (4, .int l4), (5, .int l5), (6, .int l6), (7, .int l7), (8, .int l8)] [] := by
  intro n
  induction n with
  | zero =>
    intros
    rename_i hf
    rw [fX7_runWhollyOrNot_b61] at hf
    cases hf
  | succ n ih =>
    intro l2 l3 l4 l5 l6 l7 l8 st hf
    rw [fX7_runWhollyOrNot_b61] at hf
    refine g_iload 8 rfl dX7_runWhollyOrNot_61 ?_
    refine g_aload_n rfl 1 rfl dX7_runWhollyOrNot_63 ?_
    refine g_get (j := 1) cok5 (by decide) (.ref (eB E + 11)) (Or.inr nf_25) oS9 vS9_1 dX7_runWhollyOrNot_64 ?_
    refine g_iload 7 rfl dX7_runWhollyOrNot_67 ?_
    obtain ⟨h1, hf⟩ := chk_some hf
    refine g_ialdj l7.toNatClampNeg rfl aS11 (ixb_in h1) dX7_runWhollyOrNot_69 ?_
    refine g_icmp_ge 197 (by decide) dX7_runWhollyOrNot_70 (fun h2 => ?_) (fun h2 => ?_)
    · rw [if_pos h2] at hf
      refine g_iinc (l7 + (1 : Int32)) [(7, .int (l7 + (1 : Int32))), (0, .ref (eB E + 0)), (1, .ref (eB E + 9)), (2, .int l2), (3, .int l3), (4, .int l4), (5, .int l5), (6, .int l6), (8, .int l8)] 7 rfl (congrArg (fun z => l7 + z) (show Int32.ofInt (1) = (1 : Int32) by decide)) (by decide) rfl dX7_runWhollyOrNot_197 ?_
      refine g_goto 49 (by decide) dX7_runWhollyOrNot_200 ?_
      refine g_lvs [1, 2, 3, 4, 5, 6, 7, 0] rfl ?_
      exact hk49 l2 l3 l4 l5 l6 (l7 + (1 : Int32)) st hf
    · rw [if_neg h2] at hf
      refine g_aload_n rfl 0 rfl dX7_runWhollyOrNot_73 ?_
      refine g_iload 5 rfl dX7_runWhollyOrNot_74 ?_
      refine g_iload 6 rfl dX7_runWhollyOrNot_76 ?_
      obtain ⟨q3, h4, hf⟩ := bnd_some hf
      refine g_callV0v (As := [.int l5, .int l6]) (rest := []) cok7 mok_X7_gatherFacts tw3_143 tw3_145 ts3_2 oS0 B.1 (by decide) (kX7_gatherFacts  h4) rfl rfl (Nat.le_of_ble_eq_true rfl) ⟨Nat.le_refl _, Nat.le_refl _⟩ dX7_runWhollyOrNot_78 ?_
      refine g_aload_n rfl 1 rfl dX7_runWhollyOrNot_81 ?_
      refine g_get (j := 3) cok5 (by decide) (.ref (eB E + 13)) (Or.inr nf_31) oS9 vS9_3 dX7_runWhollyOrNot_82 ?_
      refine g_iload 7 rfl dX7_runWhollyOrNot_85 ?_
      obtain ⟨h5, hf⟩ := chk_some hf
      refine g_ialdj l7.toNatClampNeg rfl aS13 (ixb_in h5) dX7_runWhollyOrNot_87 ?_
      refine g_istore [(9, .int (sI q3 13 l7.toNatClampNeg)), (0, .ref (eB E + 0)), (1, .ref (eB E + 9)), (2, .int l2), (3, .int l3), (4, .int l4), (5, .int l5), (6, .int l6), (7, .int l7), (8, .int l8)] (by decide) rfl dX7_runWhollyOrNot_88 ?_
      refine g_iload 0 rfl dX7_runWhollyOrNot_90 ?_
      refine g_if_eq 116 (by decide) dX7_runWhollyOrNot_92 (fun h6 => ?_) (fun h6 => ?_)
      · rw [if_pos h6] at hf
        refine g_lvs [1, 2, 3, 4, 5, 6, 7, 8, 9] rfl ?_
        exact wX7_runWhollyOrNot_b116 B hk49 ih l2 l3 l4 l5 l6 l7 l8 q3 hf
      · rw [if_neg h6] at hf
        refine g_aload_n rfl 2 rfl dX7_runWhollyOrNot_95 ?_
        refine g_iload 0 rfl dX7_runWhollyOrNot_96 ?_
        refine g_aload_n rfl 1 rfl dX7_runWhollyOrNot_98 ?_
        refine g_get (j := 9) cok7 (by decide) (.ref (eB E + 36)) (Or.inl tw2_73) oS0 vS0_9 dX7_runWhollyOrNot_99 ?_
        refine g_aload_n rfl 1 rfl dX7_runWhollyOrNot_102 ?_
        refine g_get (j := 10) cok7 (by decide) (.ref (eB E + 37)) (Or.inl tw2_74) oS0 vS0_10 dX7_runWhollyOrNot_103 ?_
        refine g_wt (fun w7 => ?_)
        obtain ⟨q8, h9, hf⟩ := bnd_some hf
        refine g_callVN0i (As := [.int (sI q3 13 l7.toNatClampNeg), .ref (eB E + 36), .ref (eB E + 37)]) (rest := []) cok5 mok_X5_worth nmm_27 tw2_199 ts1_14 oS9 B.1 (by decide) (kX5_worth (oS9 w7) (oS36 w7) (oS37 w7) h9) rfl rfl (Nat.le_of_ble_eq_true rfl) ⟨Nat.le_refl _, Nat.le_refl _⟩ dX7_runWhollyOrNot_106 ?_
        refine g_iconst (1 : Int32) (by decide) dX7_runWhollyOrNot_109 ?_
        refine g_icmp_eq 116 (by decide) dX7_runWhollyOrNot_110 (fun h10 => ?_) (fun h10 => ?_)
        · rw [if_pos h10] at hf
          refine g_lvs [1, 2, 3, 4, 5, 6, 7, 8, 9] rfl ?_
          exact wX7_runWhollyOrNot_b116 B hk49 ih l2 l3 l4 l5 l6 l7 l8 q8.2 hf
        · rw [if_neg h10] at hf
          refine g_goto 191 (by decide) dX7_runWhollyOrNot_113 ?_
          refine g_lvs [1, 2, 3, 4, 5, 6, 7, 8, 9] rfl ?_
          exact wX7_runWhollyOrNot_b191 B hk49 ih l2 l3 l4 l5 l6 l7 l8 q8.2 hf
def fX7_runWhollyOrNot_b49 : Nat → Int32 → Int32 → Int32 → Int32 → Int32 → Int32 → St → Option (Int32 × St)
  | 0, _, _, _, _, _, _, _ => none
  | n + 1, l2, l3, l4, l5, l6, l7, st => if (sI st 9 5) ≤ l7 then (some (l5, st)) else (fX7_runWhollyOrNot_b61 (fun zl2 zl3 zl4 zl5 zl6 zl7 zst => fX7_runWhollyOrNot_b49 n zl2 zl3 zl4 zl5 zl6 zl7 zst) FU l2 l3 l4 l5 l6 l7 (0 : Int32) st)
set_option maxHeartbeats 1000000 in
set_option maxRecDepth 20000 in
theorem wX7_runWhollyOrNot_b49 {E : Ev} {x : Cx} {r0 : Int32} {u0 : St} (B : Bd E x (some FieldType.int) (8) 0 0 (some (.int r0)) u0) : ∀ (n : Nat) (l2 : Int32) (l3 : Int32) (l4 : Int32) (l5 : Int32) (l6 : Int32) (l7 : Int32) (st : St) , fX7_runWhollyOrNot_b49 n l2 l3 l4 l5 l6 l7 st = some (r0, u0) → G E WT x RX7 cX7_runWhollyOrNot 11 (0, 0) st 49 [(0, .ref (eB E + 0)), (1, .ref (eB E + 9)), (2, .int l2), (3, .int l3), (4, .int l4), (5, .int l5), (6, .int l6), (7, .int l7)] [] := by
  intro n
  induction n with
  | zero =>
    intros
    rename_i hf
    rw [fX7_runWhollyOrNot_b49] at hf
    cases hf
  | succ n ih =>
    intro l2 l3 l4 l5 l6 l7 st hf
    rw [fX7_runWhollyOrNot_b49] at hf
    refine g_iload 7 rfl dX7_runWhollyOrNot_49 ?_
    refine g_aload_n rfl 1 rfl dX7_runWhollyOrNot_51 ?_
    refine g_get (j := 5) cok5 (by decide) (.int (sI st 9 5)) (Or.inr nf_34) oS9 (fun _ => rfl) dX7_runWhollyOrNot_52 ?_
    refine g_icmp_ge 203 (by decide) dX7_runWhollyOrNot_55 (fun h1 => ?_) (fun h1 => ?_)
    · rw [if_pos h1] at hf
      refine g_iload 5 rfl dX7_runWhollyOrNot_203 ?_
      exact g_iret B.2.2.2 B.2.2.1 (congrArg (fun z => some (Value.int z)) (Prod.mk.inj (Option.some.inj hf)).1.symm) (Prod.mk.inj (Option.some.inj hf)).2.symm dX7_runWhollyOrNot_205
    · rw [if_neg h1] at hf
      refine g_iconst (0 : Int32) (by decide) dX7_runWhollyOrNot_58 ?_
      refine g_istore [(8, .int (0 : Int32)), (0, .ref (eB E + 0)), (1, .ref (eB E + 9)), (2, .int l2), (3, .int l3), (4, .int l4), (5, .int l5), (6, .int l6), (7, .int l7)] (by decide) rfl dX7_runWhollyOrNot_59 ?_
      refine g_lvs [1, 2, 3, 4, 5, 6, 7, 8, 0] rfl ?_
      exact wX7_runWhollyOrNot_b61 B ih FU l2 l3 l4 l5 l6 l7 (0 : Int32) st hf
def fX7_runWhollyOrNot  (st : St) : Option (Int32 × St) :=
  (fX2_becomes 17 15 st).bind (fun q2 => fX7_runWhollyOrNot_b49 FU (sI st 1 5) (sI st 5 1) (sI st 5 0) (0 : Int32) (-1 : Int32) (0 : Int32) q2)
set_option maxHeartbeats 1000000 in
set_option maxRecDepth 20000 in
theorem wX7_runWhollyOrNot {E : Ev} {x : Cx} {r0 : Int32} {u0 : St} (B : Bd E x (some FieldType.int) (8) 0 0 (some (.int r0)) u0)  (st : St)  (hf : fX7_runWhollyOrNot st = some (r0, u0)) : G E WT x RX7 cX7_runWhollyOrNot 11 (0, 0) st 0 [(0, .ref (eB E + 0)), (1, .ref (eB E + 9))] [] := by
  unfold fX7_runWhollyOrNot at hf
  refine g_aload_n rfl 0 rfl dX7_runWhollyOrNot_0 ?_
  refine g_get (j := 0) cok7 (by decide) (.ref (eB E + 1)) (Or.inl tw2_64) oS0 vS0_0 dX7_runWhollyOrNot_1 ?_
  refine g_get (j := 5) cok4 (by decide) (.int (sI st 1 5)) (Or.inr nf_13) oS1 (fun _ => rfl) dX7_runWhollyOrNot_4 ?_
  refine g_istore_n rfl [(2, .int (sI st 1 5)), (0, .ref (eB E + 0)), (1, .ref (eB E + 9))] (by decide) rfl dX7_runWhollyOrNot_7 ?_
  refine g_aload_n rfl 1 rfl dX7_runWhollyOrNot_8 ?_
  refine g_get (j := 0) cok7 (by decide) (.ref (eB E + 1)) (Or.inl tw2_64) oS0 vS0_0 dX7_runWhollyOrNot_9 ?_
  refine g_get (j := 3) cok4 (by decide) (.ref (eB E + 5)) (Or.inr nf_8) oS1 vS1_3 dX7_runWhollyOrNot_12 ?_
  refine g_iconst (1 : Int32) (by decide) dX7_runWhollyOrNot_15 ?_
  refine g_ialdj 1 rfl aS5 (ixb_in rfl) dX7_runWhollyOrNot_16 ?_
  refine g_istore_n rfl [(3, .int (sI st 5 1)), (2, .int (sI st 1 5)), (0, .ref (eB E + 0)), (1, .ref (eB E + 9))] (by decide) rfl dX7_runWhollyOrNot_17 ?_
  refine g_aload_n rfl 2 rfl dX7_runWhollyOrNot_18 ?_
  refine g_get (j := 0) cok7 (by decide) (.ref (eB E + 1)) (Or.inl tw2_64) oS0 vS0_0 dX7_runWhollyOrNot_19 ?_
  refine g_get (j := 3) cok4 (by decide) (.ref (eB E + 5)) (Or.inr nf_8) oS1 vS1_3 dX7_runWhollyOrNot_22 ?_
  refine g_iconst (0 : Int32) (by decide) dX7_runWhollyOrNot_25 ?_
  refine g_ialdj 0 rfl aS5 (ixb_in rfl) dX7_runWhollyOrNot_26 ?_
  refine g_istore [(4, .int (sI st 5 0)), (3, .int (sI st 5 1)), (2, .int (sI st 1 5)), (0, .ref (eB E + 0)), (1, .ref (eB E + 9))] (by decide) rfl dX7_runWhollyOrNot_27 ?_
  refine g_aload_n rfl 3 rfl dX7_runWhollyOrNot_29 ?_
  refine g_get (j := 4) cok7 (by decide) (.ref (eB E + 17)) (Or.inl tw2_68) oS0 vS0_4 dX7_runWhollyOrNot_30 ?_
  refine g_aload_n rfl 3 rfl dX7_runWhollyOrNot_33 ?_
  refine g_get (j := 3) cok7 (by decide) (.ref (eB E + 15)) (Or.inl tw2_67) oS0 vS0_3 dX7_runWhollyOrNot_34 ?_
  refine g_wt (fun w1 => ?_)
  obtain ⟨q2, h3, hf⟩ := bnd_some hf
  refine g_callVN0v (As := [.ref (eB E + 15)]) (rest := []) cok2 mok_X2_becomes nmm_26 tw3_140 ts3_1 oS17 B.1 (by decide) (kX2_becomes (oS17 w1) (oS15 w1) h3) rfl rfl (Nat.le_of_ble_eq_true rfl) ⟨Nat.le_refl _, Nat.le_refl _⟩ dX7_runWhollyOrNot_37 ?_
  refine g_iconst (0 : Int32) (by decide) dX7_runWhollyOrNot_40 ?_
  refine g_istore [(5, .int (0 : Int32)), (4, .int (sI st 5 0)), (3, .int (sI st 5 1)), (2, .int (sI st 1 5)), (0, .ref (eB E + 0)), (1, .ref (eB E + 9))] (by decide) rfl dX7_runWhollyOrNot_41 ?_
  refine g_iconst (-1 : Int32) (by decide) dX7_runWhollyOrNot_43 ?_
  refine g_istore [(6, .int (-1 : Int32)), (5, .int (0 : Int32)), (4, .int (sI st 5 0)), (3, .int (sI st 5 1)), (2, .int (sI st 1 5)), (0, .ref (eB E + 0)), (1, .ref (eB E + 9))] (by decide) rfl dX7_runWhollyOrNot_44 ?_
  refine g_iconst (0 : Int32) (by decide) dX7_runWhollyOrNot_46 ?_
  refine g_istore [(7, .int (0 : Int32)), (6, .int (-1 : Int32)), (5, .int (0 : Int32)), (4, .int (sI st 5 0)), (3, .int (sI st 5 1)), (2, .int (sI st 1 5)), (0, .ref (eB E + 0)), (1, .ref (eB E + 9))] (by decide) rfl dX7_runWhollyOrNot_47 ?_
  refine g_lvs [6, 7, 5, 4, 3, 2, 1, 0] rfl ?_
  exact wX7_runWhollyOrNot_b49 B  FU (sI st 1 5) (sI st 5 1) (sI st 5 0) (0 : Int32) (-1 : Int32) (0 : Int32) q2 hf
theorem kX7_runWhollyOrNot {l : Launch} {E : Ev} {st : St}  {r0 : Int32} {u0 : St}  (hf : fX7_runWhollyOrNot st = some (r0, u0)) : CM l E WT yX7_runWhollyOrNot cX7_runWhollyOrNot 11 (some FieldType.int) 8 0 0 [.ref (eB E + 0), .ref (eB E + 9)] st (some (.int r0)) u0 :=
  CM.intro mok_X7_runWhollyOrNot (Nat.le_of_ble_eq_true rfl) (fun x hl hR ht hr hQ _ => wX7_runWhollyOrNot ⟨hR, ht, hr, hQ⟩ st hf)
def fX7_answered (p1 : Int32) (st : St) : Option (Int32 × St) :=
  if 0 ≤ p1 then (fX7_settled p1 st) else ((fX7_refused p1 st).bind (fun q2 => some (q2.1, q2.2)))
set_option maxHeartbeats 1000000 in
set_option maxRecDepth 20000 in
theorem wX7_answered {E : Ev} {x : Cx} {r0 : Int32} {u0 : St} (B : Bd E x (some FieldType.int) (1) 0 0 (some (.int r0)) u0) (p1 : Int32) (st : St)  (hf : fX7_answered p1 st = some (r0, u0)) : G E WT x RX7 cX7_answered 2 (0, 0) st 0 [(0, .ref (eB E + 0)), (1, .int p1)] [] := by
  unfold fX7_answered at hf
  refine g_iload_n rfl 1 rfl dX7_answered_0 ?_
  refine g_if_ge 12 (by decide) dX7_answered_1 (fun h1 => ?_) (fun h1 => ?_)
  · rw [if_pos h1] at hf
    refine g_aload_n rfl 0 rfl dX7_answered_12 ?_
    refine g_iload_n rfl 1 rfl dX7_answered_13 ?_
    refine g_callV0i (As := [.int p1]) (rest := []) cok7 mok_X7_settled tw2_138 tw2_140 ts1_5 oS0 B.1 (by decide) (kX7_settled  hf) rfl rfl (Nat.le_of_ble_eq_true rfl) ⟨Nat.le_refl _, Nat.le_refl _⟩ dX7_answered_14 ?_
    exact g_iret B.2.2.2 B.2.2.1 rfl rfl dX7_answered_17
  · rw [if_neg h1] at hf
    refine g_aload_n rfl 0 rfl dX7_answered_4 ?_
    refine g_iload_n rfl 1 rfl dX7_answered_5 ?_
    obtain ⟨q2, h3, hf⟩ := bnd_some hf
    refine g_callV0i (As := [.int p1]) (rest := []) cok7 mok_X7_refused tw2_114 tw2_116 ts1_0 oS0 B.1 (by decide) (kX7_refused  h3) rfl rfl (Nat.le_of_ble_eq_true rfl) ⟨Nat.le_refl _, Nat.le_refl _⟩ dX7_answered_6 ?_
    refine g_goto 17 (by decide) dX7_answered_9 ?_
    exact g_iret B.2.2.2 B.2.2.1 (congrArg (fun z => some (Value.int z)) (Prod.mk.inj (Option.some.inj hf)).1.symm) (Prod.mk.inj (Option.some.inj hf)).2.symm dX7_answered_17
theorem kX7_answered {l : Launch} {E : Ev} {st : St} {p1 : Int32} {r0 : Int32} {u0 : St}  (hf : fX7_answered p1 st = some (r0, u0)) : CM l E WT yX7_answered cX7_answered 2 (some FieldType.int) 1 0 0 [.ref (eB E + 0), .int p1] st (some (.int r0)) u0 :=
  CM.intro mok_X7_answered (Nat.le_of_ble_eq_true rfl) (fun x hl hR ht hr hQ _ => wX7_answered ⟨hR, ht, hr, hQ⟩ p1 st hf)
def fX7_orders  (st : St) : Option (Int32 × St) :=
  (fX3_readAll (0 : Int32) (pI st 0 13 (-1 : Int32))).bind (fun q1 => if (sI (pI q1.2 0 12 q1.1) 0 12) = (-1 : Int32) then ((fX7_runWhollyOrNot (pI q1.2 0 12 q1.1)).bind (fun q4 => fX7_answered q4.1 q4.2)) else (fX7_refused (-6 : Int32) (pI q1.2 0 12 q1.1)))
set_option maxHeartbeats 1000000 in
set_option maxRecDepth 20000 in
theorem wX7_orders {E : Ev} {x : Cx} {r0 : Int32} {u0 : St} (B : Bd E x (some FieldType.int) (209) 0 0 (some (.int r0)) u0)  (st : St)  (hf : fX7_orders st = some (r0, u0)) : G E WT x RX7 cX7_orders 1 (0, 0) st 0 [(0, .ref (eB E + 0))] [] := by
  unfold fX7_orders at hf
  refine g_aload_n rfl 0 rfl dX7_orders_0 ?_
  refine g_iconst (-1 : Int32) (by decide) dX7_orders_1 ?_
  refine g_putI (j := 13) cok7 (by decide) rfl rfl rfl rfl (Or.inl tw2_77) oS0 B.2.1 wpI dX7_orders_2 ?_
  refine g_aload_n rfl 0 rfl dX7_orders_5 ?_
  refine g_aload_n rfl 0 rfl dX7_orders_6 ?_
  refine g_get (j := 2) cok7 (by decide) (.ref (eB E + 7)) (Or.inl tw2_66) oS0 vS0_2 dX7_orders_7 ?_
  refine g_iconst (0 : Int32) (by decide) dX7_orders_10 ?_
  obtain ⟨q1, h2, hf⟩ := bnd_some hf
  refine g_callVN0i (As := [.int (0 : Int32)]) (rest := [.ref (eB E + 0)]) cok3 mok_X3_readAll nmm_20 tw3_12 ts2_2 oS7 B.1 (by decide) (kX3_readAll  h2) rfl rfl (Nat.le_of_ble_eq_true rfl) ⟨Nat.le_refl _, Nat.le_refl _⟩ dX7_orders_11 ?_
  refine g_putI (j := 12) cok7 (by decide) rfl rfl rfl rfl (Or.inl tw2_76) oS0 B.2.1 wpI dX7_orders_14 ?_
  refine g_aload_n rfl 0 rfl dX7_orders_17 ?_
  refine g_get (j := 12) cok7 (by decide) (.int (sI (pI q1.2 0 12 q1.1) 0 12)) (Or.inl tw2_76) oS0 (fun _ => rfl) dX7_orders_18 ?_
  refine g_iconst (-1 : Int32) (by decide) dX7_orders_21 ?_
  refine g_icmp_eq 32 (by decide) dX7_orders_22 (fun h3 => ?_) (fun h3 => ?_)
  · rw [if_pos h3] at hf
    refine g_aload_n rfl 0 rfl dX7_orders_32 ?_
    refine g_aload_n rfl 0 rfl dX7_orders_33 ?_
    refine g_aload_n rfl 0 rfl dX7_orders_34 ?_
    refine g_get (j := 2) cok7 (by decide) (.ref (eB E + 7)) (Or.inl tw2_66) oS0 vS0_2 dX7_orders_35 ?_
    refine g_get (j := 1) cok3 (by decide) (.ref (eB E + 9)) (Or.inr nf_38) oS7 vS7_1 dX7_orders_38 ?_
    obtain ⟨q4, h5, hf⟩ := bnd_some hf
    refine g_callV0i (As := [.ref (eB E + 9)]) (rest := [.ref (eB E + 0)]) cok7 mok_X7_runWhollyOrNot tw3_134 tw3_136 ts3_0 oS0 B.1 (by decide) (kX7_runWhollyOrNot  h5) rfl rfl (Nat.le_of_ble_eq_true rfl) ⟨Nat.le_refl _, Nat.le_refl _⟩ dX7_orders_41 ?_
    refine g_callV0i (As := [.int q4.1]) (rest := []) cok7 mok_X7_answered tw3_200 tw3_202 ts3_15 oS0 B.1 (by decide) (kX7_answered  hf) rfl rfl (Nat.le_of_ble_eq_true rfl) ⟨Nat.le_refl _, Nat.le_refl _⟩ dX7_orders_44 ?_
    exact g_iret B.2.2.2 B.2.2.1 rfl rfl dX7_orders_47
  · rw [if_neg h3] at hf
    refine g_aload_n rfl 0 rfl dX7_orders_25 ?_
    refine g_bipush (-6 : Int32) (by decide) dX7_orders_26 ?_
    refine g_callV0i (As := [.int (-6 : Int32)]) (rest := []) cok7 mok_X7_refused tw2_114 tw2_116 ts1_0 oS0 B.1 (by decide) (kX7_refused  hf) rfl rfl (Nat.le_of_ble_eq_true rfl) ⟨Nat.le_refl _, Nat.le_refl _⟩ dX7_orders_28 ?_
    exact g_iret B.2.2.2 B.2.2.1 rfl rfl dX7_orders_31
theorem kX7_orders {l : Launch} {E : Ev} {st : St}  {r0 : Int32} {u0 : St}  (hf : fX7_orders st = some (r0, u0)) : CM l E WT yX7_orders cX7_orders 1 (some FieldType.int) 209 0 0 [.ref (eB E + 0)] st (some (.int r0)) u0 :=
  CM.intro mok_X7_orders (Nat.le_of_ble_eq_true rfl) (fun x hl hR ht hr hQ _ => wX7_orders ⟨hR, ht, hr, hQ⟩ st hf)
def fX7_fault (st : St)  : Int32 :=
  sI st 0 12
set_option maxHeartbeats 1000000 in
set_option maxRecDepth 20000 in
theorem wX7_fault {E : Ev} {x : Cx} {r0 : Int32} {st : St} (B : Bd E x (some FieldType.int) (0) 0 0 (some (.int r0)) st)   (hf : fX7_fault st  = r0) : G E WT x RX7 cX7_fault 1 (0, 0) st 0 [(0, .ref (eB E + 0))] [] := by
  unfold fX7_fault at hf
  refine g_aload_n rfl 0 rfl dX7_fault_0 ?_
  refine g_get (j := 12) cok7 (by decide) (.int (sI st 0 12)) (Or.inl tw2_76) oS0 (fun _ => rfl) dX7_fault_1 ?_
  exact g_iret B.2.2.2 B.2.2.1 (congrArg (fun z => some (Value.int z)) hf.symm) rfl dX7_fault_4
theorem kX7_fault {l : Launch} {E : Ev} {st : St}  {r0 : Int32}  (hf : fX7_fault st = r0) : CM l E WT yX7_fault cX7_fault 1 (some FieldType.int) 0 0 0 [.ref (eB E + 0)] st (some (.int r0)) st :=
  CM.intro mok_X7_fault (Nat.le_of_ble_eq_true rfl) (fun x hl hR ht hr hQ _ => wX7_fault ⟨hR, ht, hr, hQ⟩  hf)
def fX7_stopped (st : St)  : Int32 :=
  sI st 0 13
set_option maxHeartbeats 1000000 in
set_option maxRecDepth 20000 in
theorem wX7_stopped {E : Ev} {x : Cx} {r0 : Int32} {st : St} (B : Bd E x (some FieldType.int) (0) 0 0 (some (.int r0)) st)   (hf : fX7_stopped st  = r0) : G E WT x RX7 cX7_stopped 1 (0, 0) st 0 [(0, .ref (eB E + 0))] [] := by
  unfold fX7_stopped at hf
  refine g_aload_n rfl 0 rfl dX7_stopped_0 ?_
  refine g_get (j := 13) cok7 (by decide) (.int (sI st 0 13)) (Or.inl tw2_77) oS0 (fun _ => rfl) dX7_stopped_1 ?_
  exact g_iret B.2.2.2 B.2.2.1 (congrArg (fun z => some (Value.int z)) hf.symm) rfl dX7_stopped_4
theorem kX7_stopped {l : Launch} {E : Ev} {st : St}  {r0 : Int32}  (hf : fX7_stopped st = r0) : CM l E WT yX7_stopped cX7_stopped 1 (some FieldType.int) 0 0 0 [.ref (eB E + 0)] st (some (.int r0)) st :=
  CM.intro mok_X7_stopped (Nat.le_of_ble_eq_true rfl) (fun x hl hR ht hr hQ _ => wX7_stopped ⟨hR, ht, hr, hQ⟩  hf)
def fX7_force_b23 (l1 : Int32) (st : St) : Option (Int32 × St) :=
  fX7_settled (sI st 1 8) (pI st 1 8 l1)
set_option maxHeartbeats 1000000 in
set_option maxRecDepth 20000 in
theorem wX7_force_b23 {E : Ev} {x : Cx} {r0 : Int32} {u0 : St} (B : Bd E x (some FieldType.int) (1) 0 0 (some (.int r0)) u0) (l1 : Int32) (st : St)  (hf : fX7_force_b23 l1 st = some (r0, u0)) : G E WT x RX7 cX7_force 3 (0, 0) st 23 [(0, .ref (eB E + 0)), (1, .int l1)] [] := by
  unfold fX7_force_b23 at hf
  refine g_aload_n rfl 0 rfl dX7_force_23 ?_
  refine g_get (j := 0) cok7 (by decide) (.ref (eB E + 1)) (Or.inl tw2_64) oS0 vS0_0 dX7_force_24 ?_
  refine g_get (j := 8) cok4 (by decide) (.int (sI st 1 8)) (Or.inr nf_20) oS1 (fun _ => rfl) dX7_force_27 ?_
  refine g_istore_n rfl [(2, .int (sI st 1 8)), (0, .ref (eB E + 0)), (1, .int l1)] (by decide) rfl dX7_force_30 ?_
  refine g_aload_n rfl 1 rfl dX7_force_31 ?_
  refine g_get (j := 0) cok7 (by decide) (.ref (eB E + 1)) (Or.inl tw2_64) oS0 vS0_0 dX7_force_32 ?_
  refine g_iload_n rfl 2 rfl dX7_force_35 ?_
  refine g_putI (j := 8) cok4 (by decide) rfl rfl rfl rfl (Or.inr nf_20) oS1 B.2.1 wpI dX7_force_36 ?_
  refine g_aload_n rfl 1 rfl dX7_force_39 ?_
  refine g_iload_n rfl 0 rfl dX7_force_40 ?_
  refine g_callV0i (As := [.int (sI st 1 8)]) (rest := []) cok7 mok_X7_settled tw2_138 tw2_140 ts1_5 oS0 B.1 (by decide) (kX7_settled  hf) rfl rfl (Nat.le_of_ble_eq_true rfl) ⟨Nat.le_refl _, Nat.le_refl _⟩ dX7_force_41 ?_
  exact g_iret B.2.2.2 B.2.2.1 rfl rfl dX7_force_44
def fX7_force (p1 : Int32) (st : St) : Option (Int32 × St) :=
  if p1 = (-1 : Int32) then (fX7_force_b23 p1 st) else (if (fX4_lacksLaw st p1) = 0 then (fX7_force_b23 p1 st) else (fX7_refused (-2 : Int32) st))
set_option maxHeartbeats 1000000 in
set_option maxRecDepth 20000 in
theorem wX7_force {E : Ev} {x : Cx} {r0 : Int32} {u0 : St} (B : Bd E x (some FieldType.int) (1) 0 0 (some (.int r0)) u0) (p1 : Int32) (st : St)  (hf : fX7_force p1 st = some (r0, u0)) : G E WT x RX7 cX7_force 3 (0, 0) st 0 [(0, .ref (eB E + 0)), (1, .int p1)] [] := by
  unfold fX7_force at hf
  refine g_iload_n rfl 1 rfl dX7_force_0 ?_
  refine g_iconst (-1 : Int32) (by decide) dX7_force_1 ?_
  refine g_icmp_eq 23 (by decide) dX7_force_2 (fun h1 => ?_) (fun h1 => ?_)
  · rw [if_pos h1] at hf
    refine g_lvs [0, 1] rfl ?_
    exact wX7_force_b23 B  p1 st hf
  · rw [if_neg h1] at hf
    refine g_aload_n rfl 0 rfl dX7_force_5 ?_
    refine g_get (j := 0) cok7 (by decide) (.ref (eB E + 1)) (Or.inl tw2_64) oS0 vS0_0 dX7_force_6 ?_
    refine g_iload_n rfl 1 rfl dX7_force_9 ?_
    refine g_callVN0i (As := [.int p1]) (rest := []) cok4 mok_X4_lacksLaw nmm_34 tw3_218 ts4_0 oS1 B.1 (by decide) (kX4_lacksLaw  rfl) rfl rfl (Nat.le_of_ble_eq_true rfl) ⟨Nat.le_refl _, Nat.le_refl _⟩ dX7_force_10 ?_
    refine g_if_eq 23 (by decide) dX7_force_13 (fun h2 => ?_) (fun h2 => ?_)
    · rw [if_pos h2] at hf
      refine g_lvs [0, 1] rfl ?_
      exact wX7_force_b23 B  p1 st hf
    · rw [if_neg h2] at hf
      refine g_aload_n rfl 0 rfl dX7_force_16 ?_
      refine g_bipush (-2 : Int32) (by decide) dX7_force_17 ?_
      refine g_callV0i (As := [.int (-2 : Int32)]) (rest := []) cok7 mok_X7_refused tw2_114 tw2_116 ts1_0 oS0 B.1 (by decide) (kX7_refused  hf) rfl rfl (Nat.le_of_ble_eq_true rfl) ⟨Nat.le_refl _, Nat.le_refl _⟩ dX7_force_19 ?_
      exact g_iret B.2.2.2 B.2.2.1 rfl rfl dX7_force_22
theorem kX7_force {l : Launch} {E : Ev} {st : St} {p1 : Int32} {r0 : Int32} {u0 : St}  (hf : fX7_force p1 st = some (r0, u0)) : CM l E WT yX7_force cX7_force 3 (some FieldType.int) 1 0 0 [.ref (eB E + 0), .int p1] st (some (.int r0)) u0 :=
  CM.intro mok_X7_force (Nat.le_of_ble_eq_true rfl) (fun x hl hR ht hr hQ _ => wX7_force ⟨hR, ht, hr, hQ⟩ p1 st hf)
def fX7_say (p1 : Int32) (st : St) : Option (Int32 × St) :=
  (fX7_performSaying p1 st).bind (fun q1 => fX7_answered q1.1 q1.2)
set_option maxHeartbeats 1000000 in
set_option maxRecDepth 20000 in
theorem wX7_say {E : Ev} {x : Cx} {r0 : Int32} {u0 : St} (B : Bd E x (some FieldType.int) (7) 0 0 (some (.int r0)) u0) (p1 : Int32) (st : St)  (hf : fX7_say p1 st = some (r0, u0)) : G E WT x RX7 cX7_say 2 (0, 0) st 0 [(0, .ref (eB E + 0)), (1, .int p1)] [] := by
  unfold fX7_say at hf
  refine g_aload_n rfl 0 rfl dX7_say_0 ?_
  refine g_aload_n rfl 0 rfl dX7_say_1 ?_
  refine g_iload_n rfl 1 rfl dX7_say_2 ?_
  obtain ⟨q1, h2, hf⟩ := bnd_some hf
  refine g_callV0i (As := [.int p1]) (rest := [.ref (eB E + 0)]) cok7 mok_X7_performSaying tw3_153 tw3_155 ts3_4 oS0 B.1 (by decide) (kX7_performSaying  h2) rfl rfl (Nat.le_of_ble_eq_true rfl) ⟨Nat.le_refl _, Nat.le_refl _⟩ dX7_say_3 ?_
  refine g_callV0i (As := [.int q1.1]) (rest := []) cok7 mok_X7_answered tw3_200 tw3_202 ts3_15 oS0 B.1 (by decide) (kX7_answered  hf) rfl rfl (Nat.le_of_ble_eq_true rfl) ⟨Nat.le_refl _, Nat.le_refl _⟩ dX7_say_6 ?_
  exact g_iret B.2.2.2 B.2.2.1 rfl rfl dX7_say_9
theorem kX7_say {l : Launch} {E : Ev} {st : St} {p1 : Int32} {r0 : Int32} {u0 : St}  (hf : fX7_say p1 st = some (r0, u0)) : CM l E WT yX7_say cX7_say 2 (some FieldType.int) 7 0 0 [.ref (eB E + 0), .int p1] st (some (.int r0)) u0 :=
  CM.intro mok_X7_say (Nat.le_of_ble_eq_true rfl) (fun x hl hR ht hr hQ _ => wX7_say ⟨hR, ht, hr, hQ⟩ p1 st hf)
