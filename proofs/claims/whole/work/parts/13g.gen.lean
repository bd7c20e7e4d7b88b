def fX8_alone_b35 : Nat → Int32 → Int32 → Int32 → St → Option (Int32 × St)
  | 0, _, _, _, _ => none
  | n + 1, l2, l3, l4, st => chk (ixb l3 384) (if (sI st 57 l3.toNatClampNeg) = (-1 : Int32) then (if l2 = (-1 : Int32) then (some (l4, st)) else (if l4 ≤ l2 then (some ((-1 : Int32), st)) else (chk (ixb ((l4 - (1 : Int32)) - l2) 384) (some (sI st 60 (((l4 - (1 : Int32)) - l2).toNatClampNeg), st))))) else (chk (ixb l3 384) (chk (ixb l4 384) (chk (ixb l3 384) (fX8_alone_b35 n l2 (sI (pI st 60 l4.toNatClampNeg (sI st 58 l3.toNatClampNeg)) 57 l3.toNatClampNeg) (l4 + (1 : Int32)) (pI st 60 l4.toNatClampNeg (sI st 58 l3.toNatClampNeg)))))))
set_option maxHeartbeats 1000000 in
set_option maxRecDepth 20000 in
theorem wX8_alone_b35 {E : Ev} {x : Cx} {r0 : Int32} {u0 : St} (B : Bd E x (some FieldType.int) (212) 0 0 (some (.int r0)) u0) : ∀ (n : Nat) (l2 : Int32) (l3 : Int32) (l4 : Int32) (st : St) , fX8_alone_b35 n l2 l3 l4 st = some (r0, u0) → G E WT x RX8 cX8_alone 5 (0, 0) st 35 [(0, .ref (eB E + 38)), (2, .int l2), (3, .int l3), (4, .int l4)] [] := by
  intro n
  induction n with
  | zero =>
    intros
    rename_i hf
    rw [fX8_alone_b35] at hf
    cases hf
  | succ n ih =>
    intro l2 l3 l4 st hf
    rw [fX8_alone_b35] at hf
    refine g_aload_n rfl 0 rfl dX8_alone_35 ?_
    refine g_get (j := 37) cok8 (by decide) (.ref (eB E + 57)) (Or.inl tw4_212) oS38 vS38_37 dX8_alone_36 ?_
    refine g_iload_n rfl 2 rfl dX8_alone_39 ?_
    obtain ⟨h1, hf⟩ := chk_some hf
    refine g_ialdj l3.toNatClampNeg rfl aS57 (ixb_in h1) dX8_alone_40 ?_
    refine g_iconst (-1 : Int32) (by decide) dX8_alone_41 ?_
    refine g_icmp_eq 71 (by decide) dX8_alone_42 (fun h2 => ?_) (fun h2 => ?_)
    · rw [if_pos h2] at hf
      refine g_iload_n rfl 1 rfl dX8_alone_71 ?_
      refine g_iconst (-1 : Int32) (by decide) dX8_alone_72 ?_
      refine g_icmp_ne 81 (by decide) dX8_alone_73 (fun h3 => ?_) (fun h3 => ?_)
      · rw [if_neg h3] at hf
        refine g_iload_n rfl 1 rfl dX8_alone_81 ?_
        refine g_iload 3 rfl dX8_alone_82 ?_
        refine g_icmp_ge 101 (by decide) dX8_alone_84 (fun h4 => ?_) (fun h4 => ?_)
        · rw [if_pos h4] at hf
          refine g_iconst (-1 : Int32) (by decide) dX8_alone_101 ?_
          exact g_iret B.2.2.2 B.2.2.1 (congrArg (fun z => some (Value.int z)) (Prod.mk.inj (Option.some.inj hf)).1.symm) (Prod.mk.inj (Option.some.inj hf)).2.symm dX8_alone_102
        · rw [if_neg h4] at hf
          refine g_aload_n rfl 0 rfl dX8_alone_87 ?_
          refine g_get (j := 41) cok8 (by decide) (.ref (eB E + 60)) (Or.inl tw4_216) oS38 vS38_41 dX8_alone_88 ?_
          refine g_iload 3 rfl dX8_alone_91 ?_
          refine g_iconst (1 : Int32) (by decide) dX8_alone_93 ?_
          refine g_isub dX8_alone_94 ?_
          refine g_iload_n rfl 1 rfl dX8_alone_95 ?_
          refine g_isub dX8_alone_96 ?_
          obtain ⟨h5, hf⟩ := chk_some hf
          refine g_ialdj (((l4 - (1 : Int32)) - l2).toNatClampNeg) rfl aS60 (ixb_in h5) dX8_alone_97 ?_
          refine g_goto 102 (by decide) dX8_alone_98 ?_
          exact g_iret B.2.2.2 B.2.2.1 (congrArg (fun z => some (Value.int z)) (Prod.mk.inj (Option.some.inj hf)).1.symm) (Prod.mk.inj (Option.some.inj hf)).2.symm dX8_alone_102
      · rw [if_pos h3] at hf
        refine g_iload 3 rfl dX8_alone_76 ?_
        refine g_goto 102 (by decide) dX8_alone_78 ?_
        exact g_iret B.2.2.2 B.2.2.1 (congrArg (fun z => some (Value.int z)) (Prod.mk.inj (Option.some.inj hf)).1.symm) (Prod.mk.inj (Option.some.inj hf)).2.symm dX8_alone_102
    · rw [if_neg h2] at hf
      refine g_aload_n rfl 0 rfl dX8_alone_45 ?_
      refine g_get (j := 41) cok8 (by decide) (.ref (eB E + 60)) (Or.inl tw4_216) oS38 vS38_41 dX8_alone_46 ?_
      refine g_iload 3 rfl dX8_alone_49 ?_
      refine g_aload_n rfl 0 rfl dX8_alone_51 ?_
      refine g_get (j := 38) cok8 (by decide) (.ref (eB E + 58)) (Or.inl tw4_213) oS38 vS38_38 dX8_alone_52 ?_
      refine g_iload_n rfl 2 rfl dX8_alone_55 ?_
      obtain ⟨h6, hf⟩ := chk_some hf
      refine g_ialdj l3.toNatClampNeg rfl aS58 (ixb_in h6) dX8_alone_56 ?_
      obtain ⟨h7, hf⟩ := chk_some hf
      refine g_iastj l4.toNatClampNeg rfl aS60 (ixb_in h7) B.2.1 wpI dX8_alone_57 ?_
      refine g_aload_n rfl 0 rfl dX8_alone_58 ?_
      refine g_get (j := 37) cok8 (by decide) (.ref (eB E + 57)) (Or.inl tw4_212) oS38 vS38_37 dX8_alone_59 ?_
      refine g_iload_n rfl 2 rfl dX8_alone_62 ?_
      obtain ⟨h8, hf⟩ := chk_some hf
      refine g_ialdj l3.toNatClampNeg rfl aS57 (ixb_in h8) dX8_alone_63 ?_
      refine g_istore_n rfl [(3, .int (sI (pI st 60 l4.toNatClampNeg (sI st 58 l3.toNatClampNeg)) 57 l3.toNatClampNeg)), (0, .ref (eB E + 38)), (2, .int l2), (4, .int l4)] (by decide) rfl dX8_alone_64 ?_
      refine g_iinc (l4 + (1 : Int32)) [(4, .int (l4 + (1 : Int32))), (3, .int (sI (pI st 60 l4.toNatClampNeg (sI st 58 l3.toNatClampNeg)) 57 l3.toNatClampNeg)), (0, .ref (eB E + 38)), (2, .int l2)] 3 rfl (congrArg (fun z => l4 + z) (show Int32.ofInt (1) = (1 : Int32) by decide)) (by decide) rfl dX8_alone_65 ?_
      refine g_goto 35 (by decide) dX8_alone_68 ?_
      refine g_lvs [2, 3, 1, 0] rfl ?_
      exact ih l2 (sI (pI st 60 l4.toNatClampNeg (sI st 58 l3.toNatClampNeg)) 57 l3.toNatClampNeg) (l4 + (1 : Int32)) (pI st 60 l4.toNatClampNeg (sI st 58 l3.toNatClampNeg)) hf
def fX8_alone (p1 : Int32) (p2 : Int32) (st : St) : Option (Int32 × St) :=
  if (fX8_isChild st p1) = 0 then (some ((-1 : Int32), st)) else (if (-1 : Int32) ≤ p2 then ((fX8_laysLeads st).bind (fun q3 => (fX8_reachesAlone p1 q3).bind (fun q5 => if q5.1 = (-1 : Int32) then (some ((-1 : Int32), q5.2)) else (fX8_alone_b35 FU p2 q5.1 (0 : Int32) q5.2)))) else (some ((-1 : Int32), st)))
set_option maxHeartbeats 1000000 in
set_option maxRecDepth 20000 in
theorem wX8_alone {E : Ev} {x : Cx} {r0 : Int32} {u0 : St} (B : Bd E x (some FieldType.int) (212) 0 0 (some (.int r0)) u0) (p1 : Int32) (p2 : Int32) (st : St)  (hf : fX8_alone p1 p2 st = some (r0, u0)) : G E WT x RX8 cX8_alone 5 (0, 0) st 0 [(0, .ref (eB E + 38)), (1, .int p1), (2, .int p2)] [] := by
  unfold fX8_alone at hf
  refine g_aload_n rfl 0 rfl dX8_alone_0 ?_
  refine g_iload_n rfl 1 rfl dX8_alone_1 ?_
  refine g_callV0i (As := [.int p1]) (rest := []) cok8 mok_X8_isChild tw5_149 tw5_151 ts5_7 oS38 B.1 (by decide) (kX8_isChild  rfl) rfl rfl (Nat.le_of_ble_eq_true rfl) ⟨Nat.le_refl _, Nat.le_refl _⟩ dX8_alone_2 ?_
  refine g_if_eq 13 (by decide) dX8_alone_5 (fun h1 => ?_) (fun h1 => ?_)
  · rw [if_pos h1] at hf
    refine g_iconst (-1 : Int32) (by decide) dX8_alone_13 ?_
    exact g_iret B.2.2.2 B.2.2.1 (congrArg (fun z => some (Value.int z)) (Prod.mk.inj (Option.some.inj hf)).1.symm) (Prod.mk.inj (Option.some.inj hf)).2.symm dX8_alone_14
  · rw [if_neg h1] at hf
    refine g_iload_n rfl 2 rfl dX8_alone_8 ?_
    refine g_iconst (-1 : Int32) (by decide) dX8_alone_9 ?_
    refine g_icmp_ge 15 (by decide) dX8_alone_10 (fun h2 => ?_) (fun h2 => ?_)
    · rw [if_pos h2] at hf
      refine g_aload_n rfl 0 rfl dX8_alone_15 ?_
      obtain ⟨q3, h4, hf⟩ := bnd_some hf
      refine g_callV0v (As := []) (rest := []) cok8 mok_X8_laysLeads tw7_17 tw7_19 ts9_1 oS38 B.1 (by decide) (kX8_laysLeads  h4) rfl rfl (Nat.le_of_ble_eq_true rfl) ⟨Nat.le_refl _, Nat.le_refl _⟩ dX8_alone_16 ?_
      refine g_aload_n rfl 0 rfl dX8_alone_19 ?_
      refine g_iload_n rfl 1 rfl dX8_alone_20 ?_
      obtain ⟨q5, h6, hf⟩ := bnd_some hf
      refine g_callV0i (As := [.int p1]) (rest := []) cok8 mok_X8_reachesAlone tw7_36 tw7_38 ts9_5 oS38 B.1 (by decide) (kX8_reachesAlone  h6) rfl rfl (Nat.le_of_ble_eq_true rfl) ⟨Nat.le_refl _, Nat.le_refl _⟩ dX8_alone_21 ?_
      refine g_istore_n rfl [(3, .int q5.1), (0, .ref (eB E + 38)), (1, .int p1), (2, .int p2)] (by decide) rfl dX8_alone_24 ?_
      refine g_iload_n rfl 0 rfl dX8_alone_25 ?_
      refine g_iconst (-1 : Int32) (by decide) dX8_alone_26 ?_
      refine g_icmp_ne 32 (by decide) dX8_alone_27 (fun h7 => ?_) (fun h7 => ?_)
      · rw [if_neg h7] at hf
        refine g_iconst (0 : Int32) (by decide) dX8_alone_32 ?_
        refine g_istore [(4, .int (0 : Int32)), (3, .int q5.1), (0, .ref (eB E + 38)), (1, .int p1), (2, .int p2)] (by decide) rfl dX8_alone_33 ?_
        refine g_lvs [2, 4, 1, 0] rfl ?_
        exact wX8_alone_b35 B  FU p2 q5.1 (0 : Int32) q5.2 hf
      · rw [if_pos h7] at hf
        refine g_iconst (-1 : Int32) (by decide) dX8_alone_30 ?_
        exact g_iret B.2.2.2 B.2.2.1 (congrArg (fun z => some (Value.int z)) (Prod.mk.inj (Option.some.inj hf)).1.symm) (Prod.mk.inj (Option.some.inj hf)).2.symm dX8_alone_31
    · rw [if_neg h2] at hf
      refine g_iconst (-1 : Int32) (by decide) dX8_alone_13 ?_
      exact g_iret B.2.2.2 B.2.2.1 (congrArg (fun z => some (Value.int z)) (Prod.mk.inj (Option.some.inj hf)).1.symm) (Prod.mk.inj (Option.some.inj hf)).2.symm dX8_alone_14
theorem kX8_alone {l : Launch} {E : Ev} {st : St} {p1 : Int32} {p2 : Int32} {r0 : Int32} {u0 : St}  (hf : fX8_alone p1 p2 st = some (r0, u0)) : CM l E WT yX8_alone cX8_alone 5 (some FieldType.int) 212 0 0 [.ref (eB E + 38), .int p1, .int p2] st (some (.int r0)) u0 :=
  CM.intro mok_X8_alone (Nat.le_of_ble_eq_true rfl) (fun x hl hR ht hr hQ _ => wX8_alone ⟨hR, ht, hr, hQ⟩ p1 p2 st hf)
def fX8_choiceAt_b57 (l4 : Int32) (st : St) : Option (Int32 × St) :=
  if l4 = (sI st 40 17) then (some ((0 : Int32), st)) else (some (l4, st))
set_option maxHeartbeats 1000000 in
set_option maxRecDepth 20000 in
theorem wX8_choiceAt_b57 {E : Ev} {x : Cx} {r0 : Int32} {u0 : St} (B : Bd E x (some FieldType.int) (3) 0 0 (some (.int r0)) u0) (l4 : Int32) (st : St)  (hf : fX8_choiceAt_b57 l4 st = some (r0, u0)) : G E WT x RX8 cX8_choiceAt 5 (0, 0) st 57 [(0, .ref (eB E + 38)), (4, .int l4)] [] := by
  unfold fX8_choiceAt_b57 at hf
  refine g_iload 1 rfl dX8_choiceAt_57 ?_
  refine g_aload_n rfl 0 rfl dX8_choiceAt_59 ?_
  refine g_get (j := 2) cok8 (by decide) (.ref (eB E + 40)) (Or.inl tw4_177) oS38 vS38_2 dX8_choiceAt_60 ?_
  refine g_bipush (17 : Int32) (by decide) dX8_choiceAt_63 ?_
  refine g_ialdj 17 rfl aS40 (ixb_in rfl) dX8_choiceAt_65 ?_
  refine g_icmp_ne 73 (by decide) dX8_choiceAt_66 (fun h1 => ?_) (fun h1 => ?_)
  · rw [if_neg h1] at hf
    refine g_iload 1 rfl dX8_choiceAt_73 ?_
    exact g_iret B.2.2.2 B.2.2.1 (congrArg (fun z => some (Value.int z)) (Prod.mk.inj (Option.some.inj hf)).1.symm) (Prod.mk.inj (Option.some.inj hf)).2.symm dX8_choiceAt_75
  · rw [if_pos h1] at hf
    refine g_iconst (0 : Int32) (by decide) dX8_choiceAt_69 ?_
    refine g_goto 75 (by decide) dX8_choiceAt_70 ?_
    exact g_iret B.2.2.2 B.2.2.1 (congrArg (fun z => some (Value.int z)) (Prod.mk.inj (Option.some.inj hf)).1.symm) (Prod.mk.inj (Option.some.inj hf)).2.symm dX8_choiceAt_75
def fX8_choiceAt_b13 : Nat → Int32 → Int32 → Int32 → Int32 → St → Option (Int32 × St)
  | 0, _, _, _, _, _ => none
  | n + 1, l1, l2, l3, l4, st => if (sI st 40 17) ≤ l4 then (fX8_choiceAt_b57 l4 st) else (chk (ixb (((5 : Int32) * l1) + l4) 1920) (chk (ixb (((384 : Int32) * l2) + (sI st 55 ((((5 : Int32) * l1) + l4).toNatClampNeg))) 768) (if (sI st 61 ((((384 : Int32) * l2) + (sI st 55 ((((5 : Int32) * l1) + l4).toNatClampNeg))).toNatClampNeg)) = l3 then (fX8_choiceAt_b13 n l1 l2 l3 (l4 + (1 : Int32)) st) else (fX8_choiceAt_b57 l4 st))))
set_option maxHeartbeats 1000000 in
set_option maxRecDepth 20000 in
theorem wX8_choiceAt_b13 {E : Ev} {x : Cx} {r0 : Int32} {u0 : St} (B : Bd E x (some FieldType.int) (3) 0 0 (some (.int r0)) u0) : ∀ (n : Nat) (l1 : Int32) (l2 : Int32) (l3 : Int32) (l4 : Int32) (st : St) , fX8_choiceAt_b13 n l1 l2 l3 l4 st = some (r0, u0) → G E WT x RX8 cX8_choiceAt 5 (0, 0) st 13 [(0, .ref (eB E + 38)), (1, .int l1), (2, .int l2), (3, .int l3), (4, .int l4)] [] := by
  intro n
  induction n with
  | zero =>
    intros
    rename_i hf
    rw [fX8_choiceAt_b13] at hf
    cases hf
  | succ n ih =>
    intro l1 l2 l3 l4 st hf
    rw [fX8_choiceAt_b13] at hf
    refine g_iload 4 rfl dX8_choiceAt_13 ?_
    refine g_aload_n rfl 0 rfl dX8_choiceAt_15 ?_
    refine g_get (j := 2) cok8 (by decide) (.ref (eB E + 40)) (Or.inl tw4_177) oS38 vS38_2 dX8_choiceAt_16 ?_
    refine g_bipush (17 : Int32) (by decide) dX8_choiceAt_19 ?_
    refine g_ialdj 17 rfl aS40 (ixb_in rfl) dX8_choiceAt_21 ?_
    refine g_icmp_ge 57 (by decide) dX8_choiceAt_22 (fun h1 => ?_) (fun h1 => ?_)
    · rw [if_pos h1] at hf
      refine g_lvs [0, 4] rfl ?_
      exact wX8_choiceAt_b57 B  l4 st hf
    · rw [if_neg h1] at hf
      refine g_aload_n rfl 0 rfl dX8_choiceAt_25 ?_
      refine g_get (j := 42) cok8 (by decide) (.ref (eB E + 61)) (Or.inl tw4_217) oS38 vS38_42 dX8_choiceAt_26 ?_
      refine g_sipush (384 : Int32) (by decide) dX8_choiceAt_29 ?_
      refine g_iload_n rfl 2 rfl dX8_choiceAt_32 ?_
      refine g_imul dX8_choiceAt_33 ?_
      refine g_aload_n rfl 0 rfl dX8_choiceAt_34 ?_
      refine g_get (j := 35) cok8 (by decide) (.ref (eB E + 55)) (Or.inl tw4_210) oS38 vS38_35 dX8_choiceAt_35 ?_
      refine g_iconst (5 : Int32) (by decide) dX8_choiceAt_38 ?_
      refine g_iload_n rfl 1 rfl dX8_choiceAt_39 ?_
      refine g_imul dX8_choiceAt_40 ?_
      refine g_iload 4 rfl dX8_choiceAt_41 ?_
      refine g_iadd dX8_choiceAt_43 ?_
      obtain ⟨h2, hf⟩ := chk_some hf
      refine g_ialdj ((((5 : Int32) * l1) + l4).toNatClampNeg) rfl aS55 (ixb_in h2) dX8_choiceAt_44 ?_
      refine g_iadd dX8_choiceAt_45 ?_
      obtain ⟨h3, hf⟩ := chk_some hf
      refine g_ialdj ((((384 : Int32) * l2) + (sI st 55 ((((5 : Int32) * l1) + l4).toNatClampNeg))).toNatClampNeg) rfl aS61 (ixb_in h3) dX8_choiceAt_46 ?_
      refine g_iload_n rfl 3 rfl dX8_choiceAt_47 ?_
      refine g_icmp_ne 57 (by decide) dX8_choiceAt_48 (fun h4 => ?_) (fun h4 => ?_)
      · rw [if_neg h4] at hf
        refine g_lvs [0, 4] rfl ?_
        exact wX8_choiceAt_b57 B  l4 st hf
      · rw [if_pos h4] at hf
        refine g_iinc (l4 + (1 : Int32)) [(4, .int (l4 + (1 : Int32))), (0, .ref (eB E + 38)), (1, .int l1), (2, .int l2), (3, .int l3)] 4 rfl (congrArg (fun z => l4 + z) (show Int32.ofInt (1) = (1 : Int32) by decide)) (by decide) rfl dX8_choiceAt_51 ?_
        refine g_goto 13 (by decide) dX8_choiceAt_54 ?_
        refine g_lvs [1, 2, 3, 4, 0] rfl ?_
        exact ih l1 l2 l3 (l4 + (1 : Int32)) st hf
def fX8_choiceAt (p1 : Int32) (p2 : Int32) (st : St) : Option (Int32 × St) :=
  (fX8_setsState p1 st).bind (fun q1 => (fX8_beginner q1).bind (fun q3 => fX8_choiceAt_b13 FU p1 p2 q3 (0 : Int32) q1))
set_option maxHeartbeats 1000000 in
set_option maxRecDepth 20000 in
theorem wX8_choiceAt {E : Ev} {x : Cx} {r0 : Int32} {u0 : St} (B : Bd E x (some FieldType.int) (3) 0 0 (some (.int r0)) u0) (p1 : Int32) (p2 : Int32) (st : St)  (hf : fX8_choiceAt p1 p2 st = some (r0, u0)) : G E WT x RX8 cX8_choiceAt 5 (0, 0) st 0 [(0, .ref (eB E + 38)), (1, .int p1), (2, .int p2)] [] := by
  unfold fX8_choiceAt at hf
  refine g_aload_n rfl 0 rfl dX8_choiceAt_0 ?_
  refine g_iload_n rfl 1 rfl dX8_choiceAt_1 ?_
  obtain ⟨q1, h2, hf⟩ := bnd_some hf
  refine g_callV0v (As := [.int p1]) (rest := []) cok8 mok_X8_setsState tw7_28 tw7_30 ts9_3 oS38 B.1 (by decide) (kX8_setsState  h2) rfl rfl (Nat.le_of_ble_eq_true rfl) ⟨Nat.le_refl _, Nat.le_refl _⟩ dX8_choiceAt_2 ?_
  refine g_aload_n rfl 0 rfl dX8_choiceAt_5 ?_
  obtain ⟨q3, h4, hf⟩ := bnd_some hf
  refine g_callV0i (As := []) (rest := []) cok8 mok_X8_beginner tw6_144 tw6_146 ts8_0 oS38 B.1 (by decide) (kX8_beginner  h4) rfl rfl (Nat.le_of_ble_eq_true rfl) ⟨Nat.le_refl _, Nat.le_refl _⟩ dX8_choiceAt_6 ?_
  refine g_istore_n rfl [(3, .int q3), (0, .ref (eB E + 38)), (1, .int p1), (2, .int p2)] (by decide) rfl dX8_choiceAt_9 ?_
  refine g_iconst (0 : Int32) (by decide) dX8_choiceAt_10 ?_
  refine g_istore [(4, .int (0 : Int32)), (3, .int q3), (0, .ref (eB E + 38)), (1, .int p1), (2, .int p2)] (by decide) rfl dX8_choiceAt_11 ?_
  refine g_lvs [2, 3, 4, 1, 0] rfl ?_
  exact wX8_choiceAt_b13 B  FU p1 p2 q3 (0 : Int32) q1 hf
theorem kX8_choiceAt {l : Launch} {E : Ev} {st : St} {p1 : Int32} {p2 : Int32} {r0 : Int32} {u0 : St}  (hf : fX8_choiceAt p1 p2 st = some (r0, u0)) : CM l E WT yX8_choiceAt cX8_choiceAt 5 (some FieldType.int) 3 0 0 [.ref (eB E + 38), .int p1, .int p2] st (some (.int r0)) u0 :=
  CM.intro mok_X8_choiceAt (Nat.le_of_ble_eq_true rfl) (fun x hl hR ht hr hQ _ => wX8_choiceAt ⟨hR, ht, hr, hQ⟩ p1 p2 st hf)
def fX8_itAt (p1 : Int32) (p2 : Int32) (st : St) : Option (Int32 × St) :=
  (fX8_ones (fX8_insideOf p1)).bind (fun q1 => if (2 : Int32) ≤ q1 then (if (sI st 40 17) = 0 then (some ((-1 : Int32), st)) else ((fX8_choiceAt p1 p2 st).bind (fun q5 => chk (ixb (((5 : Int32) * p1) + (sI (pI q5.2 38 43 q5.1) 38 43)) 1920) (chk (ixb (((384 : Int32) * p2) + (sI (pI q5.2 38 43 q5.1) 55 ((((5 : Int32) * p1) + (sI (pI q5.2 38 43 q5.1) 38 43)).toNatClampNeg))) 768) (some (sI (pI q5.2 38 43 q5.1) 61 ((((384 : Int32) * p2) + (sI (pI q5.2 38 43 q5.1) 55 ((((5 : Int32) * p1) + (sI (pI q5.2 38 43 q5.1) 38 43)).toNatClampNeg))).toNatClampNeg), pI q5.2 38 43 q5.1)))))) else (if (fX8_insideOf p1) = 0 then (some ((-1 : Int32), st)) else ((fX8_firstOf (fX8_insideOf p1)).bind (fun q10 => some (q10, st)))))
set_option maxHeartbeats 1000000 in
set_option maxRecDepth 20000 in
theorem wX8_itAt {E : Ev} {x : Cx} {r0 : Int32} {u0 : St} (B : Bd E x (some FieldType.int) (4) 0 0 (some (.int r0)) u0) (p1 : Int32) (p2 : Int32) (st : St)  (hf : fX8_itAt p1 p2 st = some (r0, u0)) : G E WT x RX8 cX8_itAt 4 (0, 0) st 0 [(0, .ref (eB E + 38)), (1, .int p1), (2, .int p2)] [] := by
  unfold fX8_itAt at hf
  refine g_iload_n rfl 1 rfl dX8_itAt_0 ?_
  refine g_callS0i (As := [.int p1]) (rest := []) mok_X8_insideOf tw7_25 tw7_26 B.1 (by decide) (kX8_insideOf  rfl) rfl rfl (Nat.le_of_ble_eq_true rfl) ⟨Nat.le_refl _, Nat.le_refl _⟩ dX8_itAt_1 ?_
  refine g_istore_n rfl [(3, .int (fX8_insideOf p1)), (0, .ref (eB E + 38)), (1, .int p1), (2, .int p2)] (by decide) rfl dX8_itAt_4 ?_
  refine g_iload_n rfl 0 rfl dX8_itAt_5 ?_
  obtain ⟨q1, h2, hf⟩ := bnd_some hf
  refine g_callS0i (As := [.int (fX8_insideOf p1)]) (rest := []) mok_X8_ones tw6_65 tw6_66 B.1 (by decide) (kX8_ones  h2) rfl rfl (Nat.le_of_ble_eq_true rfl) ⟨Nat.le_refl _, Nat.le_refl _⟩ dX8_itAt_6 ?_
  refine g_iconst (2 : Int32) (by decide) dX8_itAt_9 ?_
  refine g_icmp_ge 26 (by decide) dX8_itAt_10 (fun h3 => ?_) (fun h3 => ?_)
  · rw [if_pos h3] at hf
    refine g_aload_n rfl 1 rfl dX8_itAt_26 ?_
    refine g_get (j := 2) cok8 (by decide) (.ref (eB E + 40)) (Or.inl tw4_177) oS38 vS38_2 dX8_itAt_27 ?_
    refine g_bipush (17 : Int32) (by decide) dX8_itAt_30 ?_
    refine g_ialdj 17 rfl aS40 (ixb_in rfl) dX8_itAt_32 ?_
    refine g_if_ne 38 (by decide) dX8_itAt_33 (fun h4 => ?_) (fun h4 => ?_)
    · rw [if_neg h4] at hf
      refine g_aload_n rfl 1 rfl dX8_itAt_38 ?_
      refine g_aload_n rfl 1 rfl dX8_itAt_39 ?_
      refine g_iload_n rfl 2 rfl dX8_itAt_40 ?_
      refine g_iload_n rfl 3 rfl dX8_itAt_41 ?_
      obtain ⟨q5, h6, hf⟩ := bnd_some hf
      refine g_callV0i (As := [.int p1, .int p2]) (rest := [.ref (eB E + 38)]) cok8 mok_X8_choiceAt tw7_60 tw7_62 ts9_10 oS38 B.1 (by decide) (kX8_choiceAt  h6) rfl rfl (Nat.le_of_ble_eq_true rfl) ⟨Nat.le_refl _, Nat.le_refl _⟩ dX8_itAt_42 ?_
      refine g_putI (j := 43) cok8 (by decide) rfl rfl rfl rfl (Or.inl tw4_218) oS38 B.2.1 wpI dX8_itAt_45 ?_
      refine g_aload_n rfl 1 rfl dX8_itAt_48 ?_
      refine g_get (j := 42) cok8 (by decide) (.ref (eB E + 61)) (Or.inl tw4_217) oS38 vS38_42 dX8_itAt_49 ?_
      refine g_sipush (384 : Int32) (by decide) dX8_itAt_52 ?_
      refine g_iload_n rfl 3 rfl dX8_itAt_55 ?_
      refine g_imul dX8_itAt_56 ?_
      refine g_aload_n rfl 1 rfl dX8_itAt_57 ?_
      refine g_get (j := 35) cok8 (by decide) (.ref (eB E + 55)) (Or.inl tw4_210) oS38 vS38_35 dX8_itAt_58 ?_
      refine g_iconst (5 : Int32) (by decide) dX8_itAt_61 ?_
      refine g_iload_n rfl 2 rfl dX8_itAt_62 ?_
      refine g_imul dX8_itAt_63 ?_
      refine g_aload_n rfl 1 rfl dX8_itAt_64 ?_
      refine g_get (j := 43) cok8 (by decide) (.int (sI (pI q5.2 38 43 q5.1) 38 43)) (Or.inl tw4_218) oS38 (fun _ => rfl) dX8_itAt_65 ?_
      refine g_iadd dX8_itAt_68 ?_
      obtain ⟨h7, hf⟩ := chk_some hf
      refine g_ialdj ((((5 : Int32) * p1) + (sI (pI q5.2 38 43 q5.1) 38 43)).toNatClampNeg) rfl aS55 (ixb_in h7) dX8_itAt_69 ?_
      refine g_iadd dX8_itAt_70 ?_
      obtain ⟨h8, hf⟩ := chk_some hf
      refine g_ialdj ((((384 : Int32) * p2) + (sI (pI q5.2 38 43 q5.1) 55 ((((5 : Int32) * p1) + (sI (pI q5.2 38 43 q5.1) 38 43)).toNatClampNeg))).toNatClampNeg) rfl aS61 (ixb_in h8) dX8_itAt_71 ?_
      exact g_iret B.2.2.2 B.2.2.1 (congrArg (fun z => some (Value.int z)) (Prod.mk.inj (Option.some.inj hf)).1.symm) (Prod.mk.inj (Option.some.inj hf)).2.symm dX8_itAt_72
    · rw [if_pos h4] at hf
      refine g_iconst (-1 : Int32) (by decide) dX8_itAt_36 ?_
      exact g_iret B.2.2.2 B.2.2.1 (congrArg (fun z => some (Value.int z)) (Prod.mk.inj (Option.some.inj hf)).1.symm) (Prod.mk.inj (Option.some.inj hf)).2.symm dX8_itAt_37
  · rw [if_neg h3] at hf
    refine g_iload_n rfl 0 rfl dX8_itAt_13 ?_
    refine g_if_ne 21 (by decide) dX8_itAt_14 (fun h9 => ?_) (fun h9 => ?_)
    · rw [if_neg h9] at hf
      refine g_iload_n rfl 0 rfl dX8_itAt_21 ?_
      obtain ⟨q10, h11, hf⟩ := bnd_some hf
      refine g_callS0i (As := [.int (fX8_insideOf p1)]) (rest := []) mok_X8_firstOf tw6_238 tw6_239 B.1 (by decide) (kX8_firstOf  h11) rfl rfl (Nat.le_of_ble_eq_true rfl) ⟨Nat.le_refl _, Nat.le_refl _⟩ dX8_itAt_22 ?_
      exact g_iret B.2.2.2 B.2.2.1 (congrArg (fun z => some (Value.int z)) (Prod.mk.inj (Option.some.inj hf)).1.symm) (Prod.mk.inj (Option.some.inj hf)).2.symm dX8_itAt_25
    · rw [if_pos h9] at hf
      refine g_iconst (-1 : Int32) (by decide) dX8_itAt_17 ?_
      refine g_goto 25 (by decide) dX8_itAt_18 ?_
      exact g_iret B.2.2.2 B.2.2.1 (congrArg (fun z => some (Value.int z)) (Prod.mk.inj (Option.some.inj hf)).1.symm) (Prod.mk.inj (Option.some.inj hf)).2.symm dX8_itAt_25
theorem kX8_itAt {l : Launch} {E : Ev} {st : St} {p1 : Int32} {p2 : Int32} {r0 : Int32} {u0 : St}  (hf : fX8_itAt p1 p2 st = some (r0, u0)) : CM l E WT yX8_itAt cX8_itAt 4 (some FieldType.int) 4 0 0 [.ref (eB E + 38), .int p1, .int p2] st (some (.int r0)) u0 :=
  CM.intro mok_X8_itAt (Nat.le_of_ble_eq_true rfl) (fun x hl hR ht hr hQ _ => wX8_itAt ⟨hR, ht, hr, hQ⟩ p1 p2 st hf)
def fX8_laysIts_b40 (k2 : Int32 → Int32 → St → Option St)(l1 : Int32) (l2 : Int32) (st : St) : Option St :=
  k2 l1 (l2 + (1 : Int32)) st
set_option maxHeartbeats 1000000 in
set_option maxRecDepth 20000 in
theorem wX8_laysIts_b40 {E : Ev} {x : Cx} {u0 : St} (B : Bd E x none (5) 0 0 none u0) {k2 : Int32 → Int32 → St → Option St} (hk2 : ∀ (l1 : Int32) (l2 : Int32) (st : St), k2 l1 l2 st = some u0 → G E WT x RX8 cX8_laysIts 3 (0, 0) st 2 [(0, .ref (eB E + 38)), (1, .int l1), (2, .int l2)] []) (l1 : Int32) (l2 : Int32) (st : St)  (hf : fX8_laysIts_b40 k2 l1 l2 st = some u0) : G E WT x RX8 cX8_laysIts 3 (0, 0) st 40 [(0, .ref (eB E + 38)), (1, .int l1), (2, .int l2)] [] := by
  unfold fX8_laysIts_b40 at hf
  refine g_iinc (l2 + (1 : Int32)) [(2, .int (l2 + (1 : Int32))), (0, .ref (eB E + 38)), (1, .int l1)] 2 rfl (congrArg (fun z => l2 + z) (show Int32.ofInt (1) = (1 : Int32) by decide)) (by decide) rfl dX8_laysIts_40 ?_
  refine g_goto 2 (by decide) dX8_laysIts_43 ?_
  refine g_lvs [1, 2, 0] rfl ?_
  exact hk2 l1 (l2 + (1 : Int32)) st hf
def fX8_laysIts_b2 : Nat → Int32 → Int32 → St → Option St
  | 0, _, _, _ => none
  | n + 1, l1, l2, st => if (384 : Int32) ≤ l2 then (some st) else (if (fX8_isState st l2) = 0 then (fX8_laysIts_b40 (fun zl1 zl2 zst => fX8_laysIts_b2 n zl1 zl2 zst) l1 l2 st) else ((fX8_itAt l2 l1 st).bind (fun q3 => chk (ixb (((384 : Int32) * ((1 : Int32) - l1)) + l2) 768) (fX8_laysIts_b40 (fun zl1 zl2 zst => fX8_laysIts_b2 n zl1 zl2 zst) l1 l2 (pI q3.2 61 ((((384 : Int32) * ((1 : Int32) - l1)) + l2).toNatClampNeg) q3.1)))))
set_option maxHeartbeats 1000000 in
set_option maxRecDepth 20000 in
theorem wX8_laysIts_b2 {E : Ev} {x : Cx} {u0 : St} (B : Bd E x none (5) 0 0 none u0) : ∀ (n : Nat) (l1 : Int32) (l2 : Int32) (st : St) , fX8_laysIts_b2 n l1 l2 st = some u0 → G E WT x RX8 cX8_laysIts 3 (0, 0) st 2 [(0, .ref (eB E + 38)), (1, .int l1), (2, .int l2)] [] := by
  intro n
  induction n with
  | zero =>
    intros
    rename_i hf
    rw [fX8_laysIts_b2] at hf
    cases hf
  | succ n ih =>
    intro l1 l2 st hf
    rw [fX8_laysIts_b2] at hf
    refine g_iload_n rfl 2 rfl dX8_laysIts_2 ?_
    refine g_sipush (384 : Int32) (by decide) dX8_laysIts_3 ?_
    refine g_icmp_ge 46 (by decide) dX8_laysIts_6 (fun h1 => ?_) (fun h1 => ?_)
    · rw [if_pos h1] at hf
      exact g_ret B.2.2.2 B.2.2.1 rfl (Option.some.inj hf).symm dX8_laysIts_46
    · rw [if_neg h1] at hf
      refine g_aload_n rfl 0 rfl dX8_laysIts_9 ?_
      refine g_iload_n rfl 2 rfl dX8_laysIts_10 ?_
      refine g_callV0i (As := [.int l2]) (rest := []) cok8 mok_X8_isState tw7_21 tw7_23 ts9_2 oS38 B.1 (by decide) (kX8_isState  rfl) rfl rfl (Nat.le_of_ble_eq_true rfl) ⟨Nat.le_refl _, Nat.le_refl _⟩ dX8_laysIts_11 ?_
      refine g_if_ne 20 (by decide) dX8_laysIts_14 (fun h2 => ?_) (fun h2 => ?_)
      · rw [if_neg h2] at hf
        refine g_aload_n rfl 0 rfl dX8_laysIts_20 ?_
        refine g_get (j := 42) cok8 (by decide) (.ref (eB E + 61)) (Or.inl tw4_217) oS38 vS38_42 dX8_laysIts_21 ?_
        refine g_sipush (384 : Int32) (by decide) dX8_laysIts_24 ?_
        refine g_iconst (1 : Int32) (by decide) dX8_laysIts_27 ?_
        refine g_iload_n rfl 1 rfl dX8_laysIts_28 ?_
        refine g_isub dX8_laysIts_29 ?_
        refine g_imul dX8_laysIts_30 ?_
        refine g_iload_n rfl 2 rfl dX8_laysIts_31 ?_
        refine g_iadd dX8_laysIts_32 ?_
        refine g_aload_n rfl 0 rfl dX8_laysIts_33 ?_
        refine g_iload_n rfl 2 rfl dX8_laysIts_34 ?_
        refine g_iload_n rfl 1 rfl dX8_laysIts_35 ?_
        obtain ⟨q3, h4, hf⟩ := bnd_some hf
        refine g_callV0i (As := [.int l2, .int l1]) (rest := [.int (((384 : Int32) * ((1 : Int32) - l1)) + l2), .ref (eB E + 61)]) cok8 mok_X8_itAt tw7_56 tw7_58 ts9_9 oS38 B.1 (by decide) (kX8_itAt  h4) rfl rfl (Nat.le_of_ble_eq_true rfl) ⟨Nat.le_refl _, Nat.le_refl _⟩ dX8_laysIts_36 ?_
        obtain ⟨h5, hf⟩ := chk_some hf
        refine g_iastj ((((384 : Int32) * ((1 : Int32) - l1)) + l2).toNatClampNeg) rfl aS61 (ixb_in h5) B.2.1 wpI dX8_laysIts_39 ?_
        refine g_lvs [0, 1, 2] rfl ?_
        exact wX8_laysIts_b40 B ih l1 l2 (pI q3.2 61 ((((384 : Int32) * ((1 : Int32) - l1)) + l2).toNatClampNeg) q3.1) hf
      · rw [if_pos h2] at hf
        refine g_goto 40 (by decide) dX8_laysIts_17 ?_
        refine g_lvs [0, 1, 2] rfl ?_
        exact wX8_laysIts_b40 B ih l1 l2 st hf
def fX8_laysIts (p1 : Int32) (st : St) : Option St :=
  fX8_laysIts_b2 FU p1 (0 : Int32) st
set_option maxHeartbeats 1000000 in
set_option maxRecDepth 20000 in
theorem wX8_laysIts {E : Ev} {x : Cx} {u0 : St} (B : Bd E x none (5) 0 0 none u0) (p1 : Int32) (st : St)  (hf : fX8_laysIts p1 st = some u0) : G E WT x RX8 cX8_laysIts 3 (0, 0) st 0 [(0, .ref (eB E + 38)), (1, .int p1)] [] := by
  unfold fX8_laysIts at hf
  refine g_iconst (0 : Int32) (by decide) dX8_laysIts_0 ?_
  refine g_istore_n rfl [(2, .int (0 : Int32)), (0, .ref (eB E + 38)), (1, .int p1)] (by decide) rfl dX8_laysIts_1 ?_
  refine g_lvs [1, 2, 0] rfl ?_
  exact wX8_laysIts_b2 B  FU p1 (0 : Int32) st hf
theorem kX8_laysIts {l : Launch} {E : Ev} {st : St} {p1 : Int32} {u0 : St}  (hf : fX8_laysIts p1 st = some u0) : CM l E WT yX8_laysIts cX8_laysIts 3 none 5 0 0 [.ref (eB E + 38), .int p1] st none u0 :=
  CM.intro mok_X8_laysIts (Nat.le_of_ble_eq_true rfl) (fun x hl hR ht hr hQ _ => wX8_laysIts ⟨hR, ht, hr, hQ⟩ p1 st hf)
def fX8_laysEnd_b35 (k2 : Int32 → St → Option St)(l1 : Int32) (s1 : Int32) (s2 : Int32) (st : St) : Option St :=
  chk (ixb s1 768) (k2 (l1 + (1 : Int32)) (pI st 61 s1.toNatClampNeg s2))
set_option maxHeartbeats 1000000 in
set_option maxRecDepth 20000 in
theorem wX8_laysEnd_b35 {E : Ev} {x : Cx} {u0 : St} (B : Bd E x none (2) 0 0 none u0) {k2 : Int32 → St → Option St} (hk2 : ∀ (l1 : Int32) (st : St), k2 l1 st = some u0 → G E WT x RX8 cX8_laysEnd 3 (0, 0) st 2 [(0, .ref (eB E + 38)), (1, .int l1)] []) (l1 : Int32) (s1 : Int32) (s2 : Int32) (st : St)  (hf : fX8_laysEnd_b35 k2 l1 s1 s2 st = some u0) : G E WT x RX8 cX8_laysEnd 3 (0, 0) st 35 [(0, .ref (eB E + 38)), (1, .int l1)] [.int s2, .int s1, .ref (eB E + 61)] := by
  unfold fX8_laysEnd_b35 at hf
  obtain ⟨h1, hf⟩ := chk_some hf
  refine g_iastj s1.toNatClampNeg rfl aS61 (ixb_in h1) B.2.1 wpI dX8_laysEnd_35 ?_
  refine g_iinc (l1 + (1 : Int32)) [(1, .int (l1 + (1 : Int32))), (0, .ref (eB E + 38))] 1 rfl (congrArg (fun z => l1 + z) (show Int32.ofInt (1) = (1 : Int32) by decide)) (by decide) rfl dX8_laysEnd_36 ?_
  refine g_goto 2 (by decide) dX8_laysEnd_39 ?_
  refine g_lvs [1, 0] rfl ?_
  exact hk2 (l1 + (1 : Int32)) (pI st 61 s1.toNatClampNeg s2) hf
def fX8_laysEnd_b2 : Nat → Int32 → St → Option St
  | 0, _, _ => none
  | n + 1, l1, st => if (384 : Int32) ≤ l1 then (some st) else ((fX8_ones (fX8_insideOf l1)).bind (fun q2 => if q2 = (1 : Int32) then ((fX8_firstOf (fX8_insideOf l1)).bind (fun q5 => fX8_laysEnd_b35 (fun zl1 zst => fX8_laysEnd_b2 n zl1 zst) l1 l1 q5 st)) else (fX8_laysEnd_b35 (fun zl1 zst => fX8_laysEnd_b2 n zl1 zst) l1 l1 (-1 : Int32) st)))
set_option maxHeartbeats 1000000 in
set_option maxRecDepth 20000 in
theorem wX8_laysEnd_b2 {E : Ev} {x : Cx} {u0 : St} (B : Bd E x none (2) 0 0 none u0) : ∀ (n : Nat) (l1 : Int32) (st : St) , fX8_laysEnd_b2 n l1 st = some u0 → G E WT x RX8 cX8_laysEnd 3 (0, 0) st 2 [(0, .ref (eB E + 38)), (1, .int l1)] [] := by
  intro n
  induction n with
  | zero =>
    intros
    rename_i hf
    rw [fX8_laysEnd_b2] at hf
    cases hf
  | succ n ih =>
    intro l1 st hf
    rw [fX8_laysEnd_b2] at hf
    refine g_iload_n rfl 1 rfl dX8_laysEnd_2 ?_
    refine g_sipush (384 : Int32) (by decide) dX8_laysEnd_3 ?_
    refine g_icmp_ge 42 (by decide) dX8_laysEnd_6 (fun h1 => ?_) (fun h1 => ?_)
    · rw [if_pos h1] at hf
      exact g_ret B.2.2.2 B.2.2.1 rfl (Option.some.inj hf).symm dX8_laysEnd_42
    · rw [if_neg h1] at hf
      refine g_iload_n rfl 1 rfl dX8_laysEnd_9 ?_
      refine g_callS0i (As := [.int l1]) (rest := []) mok_X8_insideOf tw7_25 tw7_26 B.1 (by decide) (kX8_insideOf  rfl) rfl rfl (Nat.le_of_ble_eq_true rfl) ⟨Nat.le_refl _, Nat.le_refl _⟩ dX8_laysEnd_10 ?_
      refine g_istore_n rfl [(2, .int (fX8_insideOf l1)), (0, .ref (eB E + 38)), (1, .int l1)] (by decide) rfl dX8_laysEnd_13 ?_
      refine g_aload_n rfl 1 rfl dX8_laysEnd_14 ?_
      refine g_get (j := 42) cok8 (by decide) (.ref (eB E + 61)) (Or.inl tw4_217) oS38 vS38_42 dX8_laysEnd_15 ?_
      refine g_iload_n rfl 2 rfl dX8_laysEnd_18 ?_
      refine g_iload_n rfl 0 rfl dX8_laysEnd_19 ?_
      obtain ⟨q2, h3, hf⟩ := bnd_some hf
      refine g_callS0i (As := [.int (fX8_insideOf l1)]) (rest := [.int l1, .ref (eB E + 61)]) mok_X8_ones tw6_65 tw6_66 B.1 (by decide) (kX8_ones  h3) rfl rfl (Nat.le_of_ble_eq_true rfl) ⟨Nat.le_refl _, Nat.le_refl _⟩ dX8_laysEnd_20 ?_
      refine g_iconst (1 : Int32) (by decide) dX8_laysEnd_23 ?_
      refine g_icmp_ne 34 (by decide) dX8_laysEnd_24 (fun h4 => ?_) (fun h4 => ?_)
      · rw [if_neg h4] at hf
        refine g_iconst (-1 : Int32) (by decide) dX8_laysEnd_34 ?_
        refine g_lvs [1, 2] rfl ?_
        exact wX8_laysEnd_b35 B ih l1 l1 (-1 : Int32) st hf
      · rw [if_pos h4] at hf
        refine g_iload_n rfl 0 rfl dX8_laysEnd_27 ?_
        obtain ⟨q5, h6, hf⟩ := bnd_some hf
        refine g_callS0i (As := [.int (fX8_insideOf l1)]) (rest := [.int l1, .ref (eB E + 61)]) mok_X8_firstOf tw6_238 tw6_239 B.1 (by decide) (kX8_firstOf  h6) rfl rfl (Nat.le_of_ble_eq_true rfl) ⟨Nat.le_refl _, Nat.le_refl _⟩ dX8_laysEnd_28 ?_
        refine g_goto 35 (by decide) dX8_laysEnd_31 ?_
        refine g_lvs [1, 2] rfl ?_
        exact wX8_laysEnd_b35 B ih l1 l1 q5 st hf
def fX8_laysEnd  (st : St) : Option St :=
  fX8_laysEnd_b2 FU (0 : Int32) st
set_option maxHeartbeats 1000000 in
set_option maxRecDepth 20000 in
theorem wX8_laysEnd {E : Ev} {x : Cx} {u0 : St} (B : Bd E x none (2) 0 0 none u0)  (st : St)  (hf : fX8_laysEnd st = some u0) : G E WT x RX8 cX8_laysEnd 3 (0, 0) st 0 [(0, .ref (eB E + 38))] [] := by
  unfold fX8_laysEnd at hf
  refine g_iconst (0 : Int32) (by decide) dX8_laysEnd_0 ?_
  refine g_istore_n rfl [(1, .int (0 : Int32)), (0, .ref (eB E + 38))] (by decide) rfl dX8_laysEnd_1 ?_
  refine g_lvs [1, 0] rfl ?_
  exact wX8_laysEnd_b2 B  FU (0 : Int32) st hf
theorem kX8_laysEnd {l : Launch} {E : Ev} {st : St}  {u0 : St}  (hf : fX8_laysEnd st = some u0) : CM l E WT yX8_laysEnd cX8_laysEnd 3 none 2 0 0 [.ref (eB E + 38)] st none u0 :=
  CM.intro mok_X8_laysEnd (Nat.le_of_ble_eq_true rfl) (fun x hl hR ht hr hQ _ => wX8_laysEnd ⟨hR, ht, hr, hQ⟩ st hf)
def fX8_game_b56 : Nat → Int32 → Int32 → Int32 → St → Option (Int32 × St)
  | 0, _, _, _, _ => none
  | n + 1, l1, l2, l3, st => if (11 : Int32) ≤ l3 then ((fX8_itAt l2 (1 : Int32) st).bind (fun q2 => (fX8_takesBack (0 : Int32) q2.2).bind (fun q4 => if l1 = 0 then (some (q2.1, q4)) else (some (sI q4 38 43, q4))))) else ((fX8_laysIts (jrem l3 (2 : Int32)) st).bind (fun q7 => fX8_game_b56 n l1 l2 (l3 + (1 : Int32)) q7))
set_option maxHeartbeats 1000000 in
set_option maxRecDepth 20000 in
theorem wX8_game_b56 {E : Ev} {x : Cx} {r0 : Int32} {u0 : St} (B : Bd E x (some FieldType.int) (212) 0 0 (some (.int r0)) u0) : ∀ (n : Nat) (l1 : Int32) (l2 : Int32) (l3 : Int32) (st : St) , fX8_game_b56 n l1 l2 l3 st = some (r0, u0) → G E WT x RX8 cX8_game 4 (0, 0) st 56 [(0, .ref (eB E + 38)), (1, .int l1), (2, .int l2), (3, .int l3)] [] := by
  intro n
  induction n with
  | zero =>
    intros
    rename_i hf
    rw [fX8_game_b56] at hf
    cases hf
  | succ n ih =>
    intro l1 l2 l3 st hf
    rw [fX8_game_b56] at hf
    refine g_iload_n rfl 3 rfl dX8_game_56 ?_
    refine g_bipush (11 : Int32) (by decide) dX8_game_57 ?_
    refine g_icmp_ge 75 (by decide) dX8_game_59 (fun h1 => ?_) (fun h1 => ?_)
    · rw [if_pos h1] at hf
      refine g_aload_n rfl 0 rfl dX8_game_75 ?_
      refine g_iload_n rfl 2 rfl dX8_game_76 ?_
      refine g_iconst (1 : Int32) (by decide) dX8_game_77 ?_
      obtain ⟨q2, h3, hf⟩ := bnd_some hf
      refine g_callV0i (As := [.int l2, .int (1 : Int32)]) (rest := []) cok8 mok_X8_itAt tw7_56 tw7_58 ts9_9 oS38 B.1 (by decide) (kX8_itAt  h3) rfl rfl (Nat.le_of_ble_eq_true rfl) ⟨Nat.le_refl _, Nat.le_refl _⟩ dX8_game_78 ?_
      refine g_istore_n rfl [(3, .int q2.1), (0, .ref (eB E + 38)), (1, .int l1), (2, .int l2)] (by decide) rfl dX8_game_81 ?_
      refine g_aload_n rfl 1 rfl dX8_game_82 ?_
      refine g_iconst (0 : Int32) (by decide) dX8_game_83 ?_
      obtain ⟨q4, h5, hf⟩ := bnd_some hf
      refine g_callV0v (As := [.int (0 : Int32)]) (rest := []) cok8 mok_X8_takesBack tw7_1 tw7_3 ts9_0 oS38 B.1 (by decide) (kX8_takesBack  h5) rfl rfl (Nat.le_of_ble_eq_true rfl) ⟨Nat.le_refl _, Nat.le_refl _⟩ dX8_game_84 ?_
      refine g_iload_n rfl 2 rfl dX8_game_87 ?_
      refine g_if_ne 95 (by decide) dX8_game_88 (fun h6 => ?_) (fun h6 => ?_)
      · rw [if_neg h6] at hf
        refine g_aload_n rfl 1 rfl dX8_game_95 ?_
        refine g_get (j := 43) cok8 (by decide) (.int (sI q4 38 43)) (Or.inl tw4_218) oS38 (fun _ => rfl) dX8_game_96 ?_
        exact g_iret B.2.2.2 B.2.2.1 (congrArg (fun z => some (Value.int z)) (Prod.mk.inj (Option.some.inj hf)).1.symm) (Prod.mk.inj (Option.some.inj hf)).2.symm dX8_game_99
      · rw [if_pos h6] at hf
        refine g_iload_n rfl 0 rfl dX8_game_91 ?_
        refine g_goto 99 (by decide) dX8_game_92 ?_
        exact g_iret B.2.2.2 B.2.2.1 (congrArg (fun z => some (Value.int z)) (Prod.mk.inj (Option.some.inj hf)).1.symm) (Prod.mk.inj (Option.some.inj hf)).2.symm dX8_game_99
    · rw [if_neg h1] at hf
      refine g_aload_n rfl 0 rfl dX8_game_62 ?_
      refine g_iload_n rfl 3 rfl dX8_game_63 ?_
      refine g_iconst (2 : Int32) (by decide) dX8_game_64 ?_
      refine g_irem (by decide) dX8_game_65 ?_
      obtain ⟨q7, h8, hf⟩ := bnd_some hf
      refine g_callV0v (As := [.int (jrem l3 (2 : Int32))]) (rest := []) cok8 mok_X8_laysIts tw7_52 tw7_54 ts9_8 oS38 B.1 (by decide) (kX8_laysIts  h8) rfl rfl (Nat.le_of_ble_eq_true rfl) ⟨Nat.le_refl _, Nat.le_refl _⟩ dX8_game_66 ?_
      refine g_iinc (l3 + (1 : Int32)) [(3, .int (l3 + (1 : Int32))), (0, .ref (eB E + 38)), (1, .int l1), (2, .int l2)] 3 rfl (congrArg (fun z => l3 + z) (show Int32.ofInt (1) = (1 : Int32) by decide)) (by decide) rfl dX8_game_69 ?_
      refine g_goto 56 (by decide) dX8_game_72 ?_
      refine g_lvs [1, 2, 3, 0] rfl ?_
      exact ih l1 l2 (l3 + (1 : Int32)) q7 hf
def fX8_game_b36 (l1 : Int32) (st : St) : Option (Int32 × St) :=
  (fX8_laysLeads st).bind (fun q1 => (fX8_laysAside (0 : Int32) q1).bind (fun q3 => (fX8_laysEnd q3).bind (fun q5 => fX8_game_b56 FU l1 (fX8_stateNow st) (0 : Int32) q5)))
set_option maxHeartbeats 1000000 in
set_option maxRecDepth 20000 in
theorem wX8_game_b36 {E : Ev} {x : Cx} {r0 : Int32} {u0 : St} (B : Bd E x (some FieldType.int) (212) 0 0 (some (.int r0)) u0) (l1 : Int32) (st : St)  (hf : fX8_game_b36 l1 st = some (r0, u0)) : G E WT x RX8 cX8_game 4 (0, 0) st 36 [(0, .ref (eB E + 38)), (1, .int l1)] [] := by
  unfold fX8_game_b36 at hf
  refine g_aload_n rfl 0 rfl dX8_game_36 ?_
  refine g_callV0i (As := []) (rest := []) cok8 mok_X8_stateNow tw7_32 tw7_34 ts9_4 oS38 B.1 (by decide) (kX8_stateNow  rfl) rfl rfl (Nat.le_of_ble_eq_true rfl) ⟨Nat.le_refl _, Nat.le_refl _⟩ dX8_game_37 ?_
  refine g_istore_n rfl [(2, .int (fX8_stateNow st)), (0, .ref (eB E + 38)), (1, .int l1)] (by decide) rfl dX8_game_40 ?_
  refine g_aload_n rfl 1 rfl dX8_game_41 ?_
  obtain ⟨q1, h2, hf⟩ := bnd_some hf
  refine g_callV0v (As := []) (rest := []) cok8 mok_X8_laysLeads tw7_17 tw7_19 ts9_1 oS38 B.1 (by decide) (kX8_laysLeads  h2) rfl rfl (Nat.le_of_ble_eq_true rfl) ⟨Nat.le_refl _, Nat.le_refl _⟩ dX8_game_42 ?_
  refine g_aload_n rfl 1 rfl dX8_game_45 ?_
  refine g_iconst (0 : Int32) (by decide) dX8_game_46 ?_
  obtain ⟨q3, h4, hf⟩ := bnd_some hf
  refine g_callV0v (As := [.int (0 : Int32)]) (rest := []) cok8 mok_X8_laysAside tw6_230 tw6_232 ts8_14 oS38 B.1 (by decide) (kX8_laysAside  h4) rfl rfl (Nat.le_of_ble_eq_true rfl) ⟨Nat.le_refl _, Nat.le_refl _⟩ dX8_game_47 ?_
  refine g_aload_n rfl 1 rfl dX8_game_50 ?_
  obtain ⟨q5, h6, hf⟩ := bnd_some hf
  refine g_callV0v (As := []) (rest := []) cok8 mok_X8_laysEnd tw7_48 tw7_50 ts9_7 oS38 B.1 (by decide) (kX8_laysEnd  h6) rfl rfl (Nat.le_of_ble_eq_true rfl) ⟨Nat.le_refl _, Nat.le_refl _⟩ dX8_game_51 ?_
  refine g_iconst (0 : Int32) (by decide) dX8_game_54 ?_
  refine g_istore_n rfl [(3, .int (0 : Int32)), (2, .int (fX8_stateNow st)), (0, .ref (eB E + 38)), (1, .int l1)] (by decide) rfl dX8_game_55 ?_
  refine g_lvs [2, 3, 1, 0] rfl ?_
  exact wX8_game_b56 B  FU l1 (fX8_stateNow st) (0 : Int32) q5 hf
def fX8_game (p1 : Int32) (st : St) : Option (Int32 × St) :=
  if (fX8_lies p1 (0 : Int32) (1 : Int32)) = 0 then (some ((-1 : Int32), st)) else (if p1 = (1 : Int32) then ((fX8_inside st).bind (fun q3 => if q3 < (2 : Int32) then (some ((-1 : Int32), st)) else (if (sI st 40 17) = 0 then (some ((-1 : Int32), st)) else (fX8_game_b36 p1 st)))) else (fX8_game_b36 p1 st))
set_option maxHeartbeats 1000000 in
set_option maxRecDepth 20000 in
theorem wX8_game {E : Ev} {x : Cx} {r0 : Int32} {u0 : St} (B : Bd E x (some FieldType.int) (212) 0 0 (some (.int r0)) u0) (p1 : Int32) (st : St)  (hf : fX8_game p1 st = some (r0, u0)) : G E WT x RX8 cX8_game 4 (0, 0) st 0 [(0, .ref (eB E + 38)), (1, .int p1)] [] := by
  unfold fX8_game at hf
  refine g_iload_n rfl 1 rfl dX8_game_0 ?_
  refine g_iconst (0 : Int32) (by decide) dX8_game_1 ?_
  refine g_iconst (1 : Int32) (by decide) dX8_game_2 ?_
  refine g_callS0i (As := [.int p1, .int (0 : Int32), .int (1 : Int32)]) (rest := []) mok_X8_lies tw5_118 tw5_119 B.1 (by decide) (kX8_lies  rfl) rfl rfl (Nat.le_of_ble_eq_true rfl) ⟨Nat.le_refl _, Nat.le_refl _⟩ dX8_game_3 ?_
  refine g_if_ne 11 (by decide) dX8_game_6 (fun h1 => ?_) (fun h1 => ?_)
  · rw [if_neg h1] at hf
    refine g_iload_n rfl 1 rfl dX8_game_11 ?_
    refine g_iconst (1 : Int32) (by decide) dX8_game_12 ?_
    refine g_icmp_ne 36 (by decide) dX8_game_13 (fun h2 => ?_) (fun h2 => ?_)
    · rw [if_neg h2] at hf
      refine g_lvs [0, 1] rfl ?_
      exact wX8_game_b36 B  p1 st hf
    · rw [if_pos h2] at hf
      refine g_aload_n rfl 0 rfl dX8_game_16 ?_
      obtain ⟨q3, h4, hf⟩ := bnd_some hf
      refine g_callV0i (As := []) (rest := []) cok8 mok_X8_inside tw6_61 tw6_63 ts6_14 oS38 B.1 (by decide) (kX8_inside  h4) rfl rfl (Nat.le_of_ble_eq_true rfl) ⟨Nat.le_refl _, Nat.le_refl _⟩ dX8_game_17 ?_
      refine g_iconst (2 : Int32) (by decide) dX8_game_20 ?_
      refine g_icmp_lt 34 (by decide) dX8_game_21 (fun h5 => ?_) (fun h5 => ?_)
      · rw [if_pos h5] at hf
        refine g_iconst (-1 : Int32) (by decide) dX8_game_34 ?_
        exact g_iret B.2.2.2 B.2.2.1 (congrArg (fun z => some (Value.int z)) (Prod.mk.inj (Option.some.inj hf)).1.symm) (Prod.mk.inj (Option.some.inj hf)).2.symm dX8_game_35
      · rw [if_neg h5] at hf
        refine g_aload_n rfl 0 rfl dX8_game_24 ?_
        refine g_get (j := 2) cok8 (by decide) (.ref (eB E + 40)) (Or.inl tw4_177) oS38 vS38_2 dX8_game_25 ?_
        refine g_bipush (17 : Int32) (by decide) dX8_game_28 ?_
        refine g_ialdj 17 rfl aS40 (ixb_in rfl) dX8_game_30 ?_
        refine g_if_ne 36 (by decide) dX8_game_31 (fun h6 => ?_) (fun h6 => ?_)
        · rw [if_neg h6] at hf
          refine g_lvs [0, 1] rfl ?_
          exact wX8_game_b36 B  p1 st hf
        · rw [if_pos h6] at hf
          refine g_iconst (-1 : Int32) (by decide) dX8_game_34 ?_
          exact g_iret B.2.2.2 B.2.2.1 (congrArg (fun z => some (Value.int z)) (Prod.mk.inj (Option.some.inj hf)).1.symm) (Prod.mk.inj (Option.some.inj hf)).2.symm dX8_game_35
  · rw [if_pos h1] at hf
    refine g_iconst (-1 : Int32) (by decide) dX8_game_9 ?_
    exact g_iret B.2.2.2 B.2.2.1 (congrArg (fun z => some (Value.int z)) (Prod.mk.inj (Option.some.inj hf)).1.symm) (Prod.mk.inj (Option.some.inj hf)).2.symm dX8_game_10
theorem kX8_game {l : Launch} {E : Ev} {st : St} {p1 : Int32} {r0 : Int32} {u0 : St}  (hf : fX8_game p1 st = some (r0, u0)) : CM l E WT yX8_game cX8_game 4 (some FieldType.int) 212 0 0 [.ref (eB E + 38), .int p1] st (some (.int r0)) u0 :=
  CM.intro mok_X8_game (Nat.le_of_ble_eq_true rfl) (fun x hl hR ht hr hQ _ => wX8_game ⟨hR, ht, hr, hQ⟩ p1 st hf)
def fX8_spreadsPart_b35 : Nat → Int32 → Int64 → Int32 → Int32 → St → Option St
  | 0, _, _, _, _, _ => none
  | n + 1, l1, l2, l4, l5, st => if (sI st 40 17) ≤ l5 then (some st) else (chk (ixb (((5 : Int32) * l1) + l5) 1920) (chk (ixb (l4 + (sI st 55 ((((5 : Int32) * l1) + l5).toNatClampNeg))) 768) (chk (nzl ((sI st 40 17).toInt64)) (chk (ixb (l4 + (sI st 55 ((((5 : Int32) * l1) + l5).toNatClampNeg))) 768) (fX8_spreadsPart_b35 n l1 l2 l4 (l5 + (1 : Int32)) (pL st 62 ((l4 + (sI st 55 ((((5 : Int32) * l1) + l5).toNatClampNeg))).toNatClampNeg) ((sL st 62 ((l4 + (sI st 55 ((((5 : Int32) * l1) + l5).toNatClampNeg))).toNatClampNeg)) + (l2 / ((sI st 40 17).toInt64)))))))))
set_option maxHeartbeats 1000000 in
set_option maxRecDepth 20000 in
theorem wX8_spreadsPart_b35 {E : Ev} {x : Cx} {u0 : St} (B : Bd E x none (1) 0 0 none u0) : ∀ (n : Nat) (l1 : Int32) (l2 : Int64) (l4 : Int32) (l5 : Int32) (st : St) , fX8_spreadsPart_b35 n l1 l2 l4 l5 st = some u0 → G E WT x RX8 cX8_spreadsPart 6 (0, 0) st 35 [(0, .ref (eB E + 38)), (1, .int l1), (2, .long l2), (4, .int l4), (5, .int l5)] [] := by
  intro n
  induction n with
  | zero =>
    intros
    rename_i hf
    rw [fX8_spreadsPart_b35] at hf
    cases hf
  | succ n ih =>
    intro l1 l2 l4 l5 st hf
    rw [fX8_spreadsPart_b35] at hf
    refine g_iload 4 rfl dX8_spreadsPart_35 ?_
    refine g_aload_n rfl 0 rfl dX8_spreadsPart_37 ?_
    refine g_get (j := 2) cok8 (by decide) (.ref (eB E + 40)) (Or.inl tw4_177) oS38 vS38_2 dX8_spreadsPart_38 ?_
    refine g_bipush (17 : Int32) (by decide) dX8_spreadsPart_41 ?_
    refine g_ialdj 17 rfl aS40 (ixb_in rfl) dX8_spreadsPart_43 ?_
    refine g_icmp_ge 85 (by decide) dX8_spreadsPart_44 (fun h1 => ?_) (fun h1 => ?_)
    · rw [if_pos h1] at hf
      exact g_ret B.2.2.2 B.2.2.1 rfl (Option.some.inj hf).symm dX8_spreadsPart_85
    · rw [if_neg h1] at hf
      refine g_aload_n rfl 0 rfl dX8_spreadsPart_47 ?_
      refine g_get (j := 44) cok8 (by decide) (.ref (eB E + 62)) (Or.inl tw4_219) oS38 vS38_44 dX8_spreadsPart_48 ?_
      refine g_iload 3 rfl dX8_spreadsPart_51 ?_
      refine g_aload_n rfl 0 rfl dX8_spreadsPart_53 ?_
      refine g_get (j := 35) cok8 (by decide) (.ref (eB E + 55)) (Or.inl tw4_210) oS38 vS38_35 dX8_spreadsPart_54 ?_
      refine g_iconst (5 : Int32) (by decide) dX8_spreadsPart_57 ?_
      refine g_iload_n rfl 1 rfl dX8_spreadsPart_58 ?_
      refine g_imul dX8_spreadsPart_59 ?_
      refine g_iload 4 rfl dX8_spreadsPart_60 ?_
      refine g_iadd dX8_spreadsPart_62 ?_
      obtain ⟨h2, hf⟩ := chk_some hf
      refine g_ialdj ((((5 : Int32) * l1) + l5).toNatClampNeg) rfl aS55 (ixb_in h2) dX8_spreadsPart_63 ?_
      refine g_iadd dX8_spreadsPart_64 ?_
      refine g_dup2 rfl rfl dX8_spreadsPart_65 ?_
      obtain ⟨h3, hf⟩ := chk_some hf
      refine g_laldj ((l4 + (sI st 55 ((((5 : Int32) * l1) + l5).toNatClampNeg))).toNatClampNeg) rfl aS62 (ixb_in h3) dX8_spreadsPart_66 ?_
      refine g_lload_n rfl 2 rfl dX8_spreadsPart_67 ?_
      refine g_aload_n rfl 0 rfl dX8_spreadsPart_68 ?_
      refine g_get (j := 2) cok8 (by decide) (.ref (eB E + 40)) (Or.inl tw4_177) oS38 vS38_2 dX8_spreadsPart_69 ?_
      refine g_bipush (17 : Int32) (by decide) dX8_spreadsPart_72 ?_
      refine g_ialdj 17 rfl aS40 (ixb_in rfl) dX8_spreadsPart_74 ?_
      refine g_i2l dX8_spreadsPart_75 ?_
      obtain ⟨h4, hf⟩ := chk_some hf
      refine g_ldiv (nzl_ne h4) dX8_spreadsPart_76 ?_
      refine g_ladd dX8_spreadsPart_77 ?_
      obtain ⟨h5, hf⟩ := chk_some hf
      refine g_lastj ((l4 + (sI st 55 ((((5 : Int32) * l1) + l5).toNatClampNeg))).toNatClampNeg) rfl aS62 (ixb_in h5) B.2.1 wpL dX8_spreadsPart_78 ?_
      refine g_iinc (l5 + (1 : Int32)) [(5, .int (l5 + (1 : Int32))), (0, .ref (eB E + 38)), (1, .int l1), (2, .long l2), (4, .int l4)] 4 rfl (congrArg (fun z => l5 + z) (show Int32.ofInt (1) = (1 : Int32) by decide)) (by decide) rfl dX8_spreadsPart_79 ?_
      refine g_goto 35 (by decide) dX8_spreadsPart_82 ?_
      refine g_lvs [1, 2, 3, 4, 0] rfl ?_
      exact ih l1 l2 l4 (l5 + (1 : Int32)) (pL st 62 ((l4 + (sI st 55 ((((5 : Int32) * l1) + l5).toNatClampNeg))).toNatClampNeg) ((sL st 62 ((l4 + (sI st 55 ((((5 : Int32) * l1) + l5).toNatClampNeg))).toNatClampNeg)) + (l2 / ((sI st 40 17).toInt64)))) hf
def fX8_spreadsPart (p1 : Int32) (p2 : Int64) (p3 : Int32) (st : St) : Option St :=
  if (lg_cmp p2 (0 : Int64)) = 0 then (some st) else ((fX8_ones (fX8_insideOf p1)).bind (fun q2 => if (2 : Int32) ≤ q2 then (fX8_spreadsPart_b35 FU p1 p2 p3 (0 : Int32) st) else (chk (ixb (p3 + p1) 768) (chk (ixb (p3 + p1) 768) (some (pL st 62 ((p3 + p1).toNatClampNeg) ((sL st 62 ((p3 + p1).toNatClampNeg)) + p2)))))))
set_option maxHeartbeats 1000000 in
set_option maxRecDepth 20000 in
theorem wX8_spreadsPart {E : Ev} {x : Cx} {u0 : St} (B : Bd E x none (1) 0 0 none u0) (p1 : Int32) (p2 : Int64) (p3 : Int32) (st : St)  (hf : fX8_spreadsPart p1 p2 p3 st = some u0) : G E WT x RX8 cX8_spreadsPart 6 (0, 0) st 0 [(0, .ref (eB E + 38)), (1, .int p1), (2, .long p2), (4, .int p3)] [] := by
  unfold fX8_spreadsPart at hf
  refine g_lload_n rfl 2 rfl dX8_spreadsPart_0 ?_
  refine g_lconst (0 : Int64) (by decide) dX8_spreadsPart_1 ?_
  refine g_lcmp dX8_spreadsPart_2 ?_
  refine g_if_ne 7 (by decide) dX8_spreadsPart_3 (fun h1 => ?_) (fun h1 => ?_)
  · rw [if_neg h1] at hf
    refine g_iload_n rfl 1 rfl dX8_spreadsPart_7 ?_
    refine g_callS0i (As := [.int p1]) (rest := []) mok_X8_insideOf tw7_25 tw7_26 B.1 (by decide) (kX8_insideOf  rfl) rfl rfl (Nat.le_of_ble_eq_true rfl) ⟨Nat.le_refl _, Nat.le_refl _⟩ dX8_spreadsPart_8 ?_
    obtain ⟨q2, h3, hf⟩ := bnd_some hf
    refine g_callS0i (As := [.int (fX8_insideOf p1)]) (rest := []) mok_X8_ones tw6_65 tw6_66 B.1 (by decide) (kX8_ones  h3) rfl rfl (Nat.le_of_ble_eq_true rfl) ⟨Nat.le_refl _, Nat.le_refl _⟩ dX8_spreadsPart_11 ?_
    refine g_iconst (2 : Int32) (by decide) dX8_spreadsPart_14 ?_
    refine g_icmp_ge 32 (by decide) dX8_spreadsPart_15 (fun h4 => ?_) (fun h4 => ?_)
    · rw [if_pos h4] at hf
      refine g_iconst (0 : Int32) (by decide) dX8_spreadsPart_32 ?_
      refine g_istore [(5, .int (0 : Int32)), (0, .ref (eB E + 38)), (1, .int p1), (2, .long p2), (4, .int p3)] (by decide) rfl dX8_spreadsPart_33 ?_
      refine g_lvs [1, 2, 3, 4, 0] rfl ?_
      exact wX8_spreadsPart_b35 B  FU p1 p2 p3 (0 : Int32) st hf
    · rw [if_neg h4] at hf
      refine g_aload_n rfl 0 rfl dX8_spreadsPart_18 ?_
      refine g_get (j := 44) cok8 (by decide) (.ref (eB E + 62)) (Or.inl tw4_219) oS38 vS38_44 dX8_spreadsPart_19 ?_
      refine g_iload 3 rfl dX8_spreadsPart_22 ?_
      refine g_iload_n rfl 1 rfl dX8_spreadsPart_24 ?_
      refine g_iadd dX8_spreadsPart_25 ?_
      refine g_dup2 rfl rfl dX8_spreadsPart_26 ?_
      obtain ⟨h5, hf⟩ := chk_some hf
      refine g_laldj ((p3 + p1).toNatClampNeg) rfl aS62 (ixb_in h5) dX8_spreadsPart_27 ?_
      refine g_lload_n rfl 2 rfl dX8_spreadsPart_28 ?_
      refine g_ladd dX8_spreadsPart_29 ?_
      obtain ⟨h6, hf⟩ := chk_some hf
      refine g_lastj ((p3 + p1).toNatClampNeg) rfl aS62 (ixb_in h6) B.2.1 wpL dX8_spreadsPart_30 ?_
      exact g_ret B.2.2.2 B.2.2.1 rfl (Option.some.inj hf).symm dX8_spreadsPart_31
  · rw [if_pos h1] at hf
    exact g_ret B.2.2.2 B.2.2.1 rfl (Option.some.inj hf).symm dX8_spreadsPart_6
theorem kX8_spreadsPart {l : Launch} {E : Ev} {st : St} {p1 : Int32} {p2 : Int64} {p3 : Int32} {u0 : St}  (hf : fX8_spreadsPart p1 p2 p3 st = some u0) : CM l E WT yX8_spreadsPart cX8_spreadsPart 6 none 1 0 0 [.ref (eB E + 38), .int p1, .long p2, .int p3] st none u0 :=
  CM.intro mok_X8_spreadsPart (Nat.le_of_ble_eq_true rfl) (fun x hl hR ht hr hQ _ => wX8_spreadsPart ⟨hR, ht, hr, hQ⟩ p1 p2 p3 st hf)
def fX8_spreads_b34 : Nat → Int32 → Int32 → Int32 → St → Option St
  | 0, _, _, _, _ => none
  | n + 1, l1, l2, l3, st => if (384 : Int32) ≤ l3 then (some st) else (chk (ixb (((384 : Int32) * l1) + l3) 768) ((fX8_spreadsPart l3 (sL st 62 ((((384 : Int32) * l1) + l3).toNatClampNeg)) l2 st).bind (fun q3 => fX8_spreads_b34 n l1 l2 (l3 + (1 : Int32)) q3)))
set_option maxHeartbeats 1000000 in
set_option maxRecDepth 20000 in
theorem wX8_spreads_b34 {E : Ev} {x : Cx} {u0 : St} (B : Bd E x none (2) 0 0 none u0) : ∀ (n : Nat) (l1 : Int32) (l2 : Int32) (l3 : Int32) (st : St) , fX8_spreads_b34 n l1 l2 l3 st = some u0 → G E WT x RX8 cX8_spreads 4 (0, 0) st 34 [(0, .ref (eB E + 38)), (1, .int l1), (2, .int l2), (3, .int l3)] [] := by
  intro n
  induction n with
  | zero =>
    intros
    rename_i hf
    rw [fX8_spreads_b34] at hf
    cases hf
  | succ n ih =>
    intro l1 l2 l3 st hf
    rw [fX8_spreads_b34] at hf
    refine g_iload_n rfl 3 rfl dX8_spreads_34 ?_
    refine g_sipush (384 : Int32) (by decide) dX8_spreads_35 ?_
    refine g_icmp_ge 65 (by decide) dX8_spreads_38 (fun h1 => ?_) (fun h1 => ?_)
    · rw [if_pos h1] at hf
      exact g_ret B.2.2.2 B.2.2.1 rfl (Option.some.inj hf).symm dX8_spreads_65
    · rw [if_neg h1] at hf
      refine g_aload_n rfl 0 rfl dX8_spreads_41 ?_
      refine g_iload_n rfl 3 rfl dX8_spreads_42 ?_
      refine g_aload_n rfl 0 rfl dX8_spreads_43 ?_
      refine g_get (j := 44) cok8 (by decide) (.ref (eB E + 62)) (Or.inl tw4_219) oS38 vS38_44 dX8_spreads_44 ?_
      refine g_sipush (384 : Int32) (by decide) dX8_spreads_47 ?_
      refine g_iload_n rfl 1 rfl dX8_spreads_50 ?_
      refine g_imul dX8_spreads_51 ?_
      refine g_iload_n rfl 3 rfl dX8_spreads_52 ?_
      refine g_iadd dX8_spreads_53 ?_
      obtain ⟨h2, hf⟩ := chk_some hf
      refine g_laldj ((((384 : Int32) * l1) + l3).toNatClampNeg) rfl aS62 (ixb_in h2) dX8_spreads_54 ?_
      refine g_iload_n rfl 2 rfl dX8_spreads_55 ?_
      obtain ⟨q3, h4, hf⟩ := bnd_some hf
      refine g_callV0v (As := [.int l3, .long (sL st 62 ((((384 : Int32) * l1) + l3).toNatClampNeg)), .int l2]) (rest := []) cok8 mok_X8_spreadsPart tw7_74 tw7_76 ts9_12 oS38 B.1 (by decide) (kX8_spreadsPart  h4) rfl rfl (Nat.le_of_ble_eq_true rfl) ⟨Nat.le_refl _, Nat.le_refl _⟩ dX8_spreads_56 ?_
      refine g_iinc (l3 + (1 : Int32)) [(3, .int (l3 + (1 : Int32))), (0, .ref (eB E + 38)), (1, .int l1), (2, .int l2)] 3 rfl (congrArg (fun z => l3 + z) (show Int32.ofInt (1) = (1 : Int32) by decide)) (by decide) rfl dX8_spreads_59 ?_
      refine g_goto 34 (by decide) dX8_spreads_62 ?_
      refine g_lvs [1, 2, 3, 0] rfl ?_
      exact ih l1 l2 (l3 + (1 : Int32)) q3 hf
def fX8_spreads_b10 : Nat → Int32 → Int32 → Int32 → St → Option St
  | 0, _, _, _, _ => none
  | n + 1, l1, l2, l3, st => if (384 : Int32) ≤ l3 then (fX8_spreads_b34 FU l1 l2 (0 : Int32) st) else (chk (ixb (l2 + l3) 768) (fX8_spreads_b10 n l1 l2 (l3 + (1 : Int32)) (pL st 62 ((l2 + l3).toNatClampNeg) (0 : Int64))))
set_option maxHeartbeats 1000000 in
set_option maxRecDepth 20000 in
theorem wX8_spreads_b10 {E : Ev} {x : Cx} {u0 : St} (B : Bd E x none (2) 0 0 none u0) : ∀ (n : Nat) (l1 : Int32) (l2 : Int32) (l3 : Int32) (st : St) , fX8_spreads_b10 n l1 l2 l3 st = some u0 → G E WT x RX8 cX8_spreads 4 (0, 0) st 10 [(0, .ref (eB E + 38)), (1, .int l1), (2, .int l2), (3, .int l3)] [] := by
  intro n
  induction n with
  | zero =>
    intros
    rename_i hf
    rw [fX8_spreads_b10] at hf
    cases hf
  | succ n ih =>
    intro l1 l2 l3 st hf
    rw [fX8_spreads_b10] at hf
    refine g_iload_n rfl 3 rfl dX8_spreads_10 ?_
    refine g_sipush (384 : Int32) (by decide) dX8_spreads_11 ?_
    refine g_icmp_ge 32 (by decide) dX8_spreads_14 (fun h1 => ?_) (fun h1 => ?_)
    · rw [if_pos h1] at hf
      refine g_iconst (0 : Int32) (by decide) dX8_spreads_32 ?_
      refine g_istore_n rfl [(3, .int (0 : Int32)), (0, .ref (eB E + 38)), (1, .int l1), (2, .int l2)] (by decide) rfl dX8_spreads_33 ?_
      refine g_lvs [1, 2, 3, 0] rfl ?_
      exact wX8_spreads_b34 B  FU l1 l2 (0 : Int32) st hf
    · rw [if_neg h1] at hf
      refine g_aload_n rfl 0 rfl dX8_spreads_17 ?_
      refine g_get (j := 44) cok8 (by decide) (.ref (eB E + 62)) (Or.inl tw4_219) oS38 vS38_44 dX8_spreads_18 ?_
      refine g_iload_n rfl 2 rfl dX8_spreads_21 ?_
      refine g_iload_n rfl 3 rfl dX8_spreads_22 ?_
      refine g_iadd dX8_spreads_23 ?_
      refine g_lconst (0 : Int64) (by decide) dX8_spreads_24 ?_
      obtain ⟨h2, hf⟩ := chk_some hf
      refine g_lastj ((l2 + l3).toNatClampNeg) rfl aS62 (ixb_in h2) B.2.1 wpL dX8_spreads_25 ?_
      refine g_iinc (l3 + (1 : Int32)) [(3, .int (l3 + (1 : Int32))), (0, .ref (eB E + 38)), (1, .int l1), (2, .int l2)] 3 rfl (congrArg (fun z => l3 + z) (show Int32.ofInt (1) = (1 : Int32) by decide)) (by decide) rfl dX8_spreads_26 ?_
      refine g_goto 10 (by decide) dX8_spreads_29 ?_
      refine g_lvs [1, 2, 3, 0] rfl ?_
      exact ih l1 l2 (l3 + (1 : Int32)) (pL st 62 ((l2 + l3).toNatClampNeg) (0 : Int64)) hf
def fX8_spreads (p1 : Int32) (st : St) : Option St :=
  fX8_spreads_b10 FU p1 ((384 : Int32) * ((1 : Int32) - p1)) (0 : Int32) st
set_option maxHeartbeats 1000000 in
set_option maxRecDepth 20000 in
theorem wX8_spreads {E : Ev} {x : Cx} {u0 : St} (B : Bd E x none (2) 0 0 none u0) (p1 : Int32) (st : St)  (hf : fX8_spreads p1 st = some u0) : G E WT x RX8 cX8_spreads 4 (0, 0) st 0 [(0, .ref (eB E + 38)), (1, .int p1)] [] := by
  unfold fX8_spreads at hf
  refine g_sipush (384 : Int32) (by decide) dX8_spreads_0 ?_
  refine g_iconst (1 : Int32) (by decide) dX8_spreads_3 ?_
  refine g_iload_n rfl 1 rfl dX8_spreads_4 ?_
  refine g_isub dX8_spreads_5 ?_
  refine g_imul dX8_spreads_6 ?_
  refine g_istore_n rfl [(2, .int ((384 : Int32) * ((1 : Int32) - p1))), (0, .ref (eB E + 38)), (1, .int p1)] (by decide) rfl dX8_spreads_7 ?_
  refine g_iconst (0 : Int32) (by decide) dX8_spreads_8 ?_
  refine g_istore_n rfl [(3, .int (0 : Int32)), (2, .int ((384 : Int32) * ((1 : Int32) - p1))), (0, .ref (eB E + 38)), (1, .int p1)] (by decide) rfl dX8_spreads_9 ?_
  refine g_lvs [2, 3, 1, 0] rfl ?_
  exact wX8_spreads_b10 B  FU p1 ((384 : Int32) * ((1 : Int32) - p1)) (0 : Int32) st hf
theorem kX8_spreads {l : Launch} {E : Ev} {st : St} {p1 : Int32} {u0 : St}  (hf : fX8_spreads p1 st = some u0) : CM l E WT yX8_spreads cX8_spreads 4 none 2 0 0 [.ref (eB E + 38), .int p1] st none u0 :=
  CM.intro mok_X8_spreads (Nat.le_of_ble_eq_true rfl) (fun x hl hR ht hr hQ _ => wX8_spreads ⟨hR, ht, hr, hQ⟩ p1 st hf)
def fX8_partsOf_b44 (st : St) (k5 : Int32 → Int32 → Int64 → Int32 → Option Int64)(l1 : Int32) (l2 : Int32) (l3 : Int64) (l5 : Int32) : Option Int64 :=
  k5 l1 l2 l3 (l5 + (1 : Int32))
set_option maxHeartbeats 1000000 in
set_option maxRecDepth 20000 in
theorem wX8_partsOf_b44 {E : Ev} {x : Cx} {r0 : Int64} {st : St} (B : Bd E x (some FieldType.long) (1) 0 0 (some (.long r0)) st) {k5 : Int32 → Int32 → Int64 → Int32 → Option Int64} (hk5 : ∀ (l1 : Int32) (l2 : Int32) (l3 : Int64) (l5 : Int32), k5 l1 l2 l3 l5 = some r0 → G E WT x RX8 cX8_partsOf 6 (0, 0) st 5 [(0, .ref (eB E + 38)), (1, .int l1), (2, .int l2), (3, .long l3), (5, .int l5)] []) (l1 : Int32) (l2 : Int32) (l3 : Int64) (l5 : Int32)  (hf : fX8_partsOf_b44 st k5 l1 l2 l3 l5 = some r0) : G E WT x RX8 cX8_partsOf 6 (0, 0) st 44 [(0, .ref (eB E + 38)), (1, .int l1), (2, .int l2), (3, .long l3), (5, .int l5)] [] := by
  unfold fX8_partsOf_b44 at hf
  refine g_iinc (l5 + (1 : Int32)) [(5, .int (l5 + (1 : Int32))), (0, .ref (eB E + 38)), (1, .int l1), (2, .int l2), (3, .long l3)] 4 rfl (congrArg (fun z => l5 + z) (show Int32.ofInt (1) = (1 : Int32) by decide)) (by decide) rfl dX8_partsOf_44 ?_
  refine g_goto 5 (by decide) dX8_partsOf_47 ?_
  refine g_lvs [1, 2, 3, 4, 0] rfl ?_
  exact hk5 l1 l2 l3 (l5 + (1 : Int32)) hf
def fX8_partsOf_b5 (st : St)  : Nat → Int32 → Int32 → Int64 → Int32 → Option Int64
  | 0, _, _, _, _ => none
  | n + 1, l1, l2, l3, l5 => if (384 : Int32) ≤ l5 then (some l3) else (if (fX8_isIn (fX8_insideOf l5) l1) = 0 then (fX8_partsOf_b44 st (fun zl1 zl2 zl3 zl5 => fX8_partsOf_b5 st n zl1 zl2 zl3 zl5) l1 l2 l3 l5) else (chk (ixb (((384 : Int32) * l2) + l5) 768) (fX8_partsOf_b44 st (fun zl1 zl2 zl3 zl5 => fX8_partsOf_b5 st n zl1 zl2 zl3 zl5) l1 l2 (l3 + (sL st 62 ((((384 : Int32) * l2) + l5).toNatClampNeg))) l5)))
set_option maxHeartbeats 1000000 in
set_option maxRecDepth 20000 in
theorem wX8_partsOf_b5 {E : Ev} {x : Cx} {r0 : Int64} {st : St} (B : Bd E x (some FieldType.long) (1) 0 0 (some (.long r0)) st) : ∀ (n : Nat) (l1 : Int32) (l2 : Int32) (l3 : Int64) (l5 : Int32) , fX8_partsOf_b5 st n l1 l2 l3 l5 = some r0 → G E WT x RX8 cX8_partsOf 6 (0, 0) st 5 [(0, .ref (eB E + 38)), (1, .int l1), (2, .int l2), (3, .long l3), (5, .int l5)] [] := by
  intro n
  induction n with
  | zero =>
    intros
    rename_i hf
    rw [fX8_partsOf_b5] at hf
    cases hf
  | succ n ih =>
    intro l1 l2 l3 l5 hf
    rw [fX8_partsOf_b5] at hf
    refine g_iload 4 rfl dX8_partsOf_5 ?_
    refine g_sipush (384 : Int32) (by decide) dX8_partsOf_7 ?_
    refine g_icmp_ge 50 (by decide) dX8_partsOf_10 (fun h1 => ?_) (fun h1 => ?_)
    · rw [if_pos h1] at hf
      refine g_lload_n rfl 3 rfl dX8_partsOf_50 ?_
      exact g_lret B.2.2.2 B.2.2.1 (congrArg (fun z => some (Value.long z)) (Option.some.inj hf).symm) rfl dX8_partsOf_51
    · rw [if_neg h1] at hf
      refine g_iload 4 rfl dX8_partsOf_13 ?_
      refine g_callS0i (As := [.int l5]) (rest := []) mok_X8_insideOf tw7_25 tw7_26 B.1 (by decide) (kX8_insideOf  rfl) rfl rfl (Nat.le_of_ble_eq_true rfl) ⟨Nat.le_refl _, Nat.le_refl _⟩ dX8_partsOf_15 ?_
      refine g_iload_n rfl 1 rfl dX8_partsOf_18 ?_
      refine g_callS0i (As := [.int (fX8_insideOf l5), .int l1]) (rest := []) mok_X8_isIn tw6_148 tw6_149 B.1 (by decide) (kX8_isIn  rfl) rfl rfl (Nat.le_of_ble_eq_true rfl) ⟨Nat.le_refl _, Nat.le_refl _⟩ dX8_partsOf_19 ?_
      refine g_if_ne 28 (by decide) dX8_partsOf_22 (fun h2 => ?_) (fun h2 => ?_)
      · rw [if_neg h2] at hf
        refine g_lload_n rfl 3 rfl dX8_partsOf_28 ?_
        refine g_aload_n rfl 0 rfl dX8_partsOf_29 ?_
        refine g_get (j := 44) cok8 (by decide) (.ref (eB E + 62)) (Or.inl tw4_219) oS38 vS38_44 dX8_partsOf_30 ?_
        refine g_sipush (384 : Int32) (by decide) dX8_partsOf_33 ?_
        refine g_iload_n rfl 2 rfl dX8_partsOf_36 ?_
        refine g_imul dX8_partsOf_37 ?_
        refine g_iload 4 rfl dX8_partsOf_38 ?_
        refine g_iadd dX8_partsOf_40 ?_
        obtain ⟨h3, hf⟩ := chk_some hf
        refine g_laldj ((((384 : Int32) * l2) + l5).toNatClampNeg) rfl aS62 (ixb_in h3) dX8_partsOf_41 ?_
        refine g_ladd dX8_partsOf_42 ?_
        refine g_lstore_n rfl [(3, .long (l3 + (sL st 62 ((((384 : Int32) * l2) + l5).toNatClampNeg)))), (0, .ref (eB E + 38)), (1, .int l1), (2, .int l2), (5, .int l5)] (by decide) rfl dX8_partsOf_43 ?_
        refine g_lvs [1, 2, 3, 0, 4] rfl ?_
        exact wX8_partsOf_b44 B ih l1 l2 (l3 + (sL st 62 ((((384 : Int32) * l2) + l5).toNatClampNeg))) l5 hf
      · rw [if_pos h2] at hf
        refine g_goto 44 (by decide) dX8_partsOf_25 ?_
        refine g_lvs [0, 1, 2, 3, 4] rfl ?_
        exact wX8_partsOf_b44 B ih l1 l2 l3 l5 hf
def fX8_partsOf (st : St) (p1 : Int32) (p2 : Int32) : Option Int64 :=
  fX8_partsOf_b5 st FU p1 p2 (0 : Int64) (0 : Int32)
set_option maxHeartbeats 1000000 in
set_option maxRecDepth 20000 in
theorem wX8_partsOf {E : Ev} {x : Cx} {r0 : Int64} {st : St} (B : Bd E x (some FieldType.long) (1) 0 0 (some (.long r0)) st) (p1 : Int32) (p2 : Int32)  (hf : fX8_partsOf st p1 p2 = some r0) : G E WT x RX8 cX8_partsOf 6 (0, 0) st 0 [(0, .ref (eB E + 38)), (1, .int p1), (2, .int p2)] [] := by
  unfold fX8_partsOf at hf
  refine g_lconst (0 : Int64) (by decide) dX8_partsOf_0 ?_
  refine g_lstore_n rfl [(3, .long (0 : Int64)), (0, .ref (eB E + 38)), (1, .int p1), (2, .int p2)] (by decide) rfl dX8_partsOf_1 ?_
  refine g_iconst (0 : Int32) (by decide) dX8_partsOf_2 ?_
  refine g_istore [(5, .int (0 : Int32)), (3, .long (0 : Int64)), (0, .ref (eB E + 38)), (1, .int p1), (2, .int p2)] (by decide) rfl dX8_partsOf_3 ?_
  refine g_lvs [2, 3, 4, 1, 0] rfl ?_
  exact wX8_partsOf_b5 B  FU p1 p2 (0 : Int64) (0 : Int32) hf
theorem kX8_partsOf {l : Launch} {E : Ev} {st : St} {p1 : Int32} {p2 : Int32} {r0 : Int64}  (hf : fX8_partsOf st p1 p2 = some r0) : CM l E WT yX8_partsOf cX8_partsOf 6 (some FieldType.long) 1 0 0 [.ref (eB E + 38), .int p1, .int p2] st (some (.long r0)) st :=
  CM.intro mok_X8_partsOf (Nat.le_of_ble_eq_true rfl) (fun x hl hR ht hr hQ _ => wX8_partsOf ⟨hR, ht, hr, hQ⟩ p1 p2 hf)
def fX8_chances_b72 : Nat → Int32 → Int32 → Int32 → St → Option (Int64 × St)
  | 0, _, _, _, _ => none
  | n + 1, l1, l2, l3, st => if l2 ≤ l3 then ((fX8_partsOf st l1 (jrem l2 (2 : Int32))).bind (fun q2 => some (q2, st))) else ((fX8_spreads (jrem l3 (2 : Int32)) st).bind (fun q4 => fX8_chances_b72 n l1 l2 (l3 + (1 : Int32)) q4))
set_option maxHeartbeats 1000000 in
set_option maxRecDepth 20000 in
theorem wX8_chances_b72 {E : Ev} {x : Cx} {r0 : Int64} {u0 : St} (B : Bd E x (some FieldType.long) (212) 0 0 (some (.long r0)) u0) : ∀ (n : Nat) (l1 : Int32) (l2 : Int32) (l3 : Int32) (st : St) , fX8_chances_b72 n l1 l2 l3 st = some (r0, u0) → G E WT x RX8 cX8_chances 4 (0, 0) st 72 [(0, .ref (eB E + 38)), (1, .int l1), (2, .int l2), (3, .int l3)] [] := by
  intro n
  induction n with
  | zero =>
    intros
    rename_i hf
    rw [fX8_chances_b72] at hf
    cases hf
  | succ n ih =>
    intro l1 l2 l3 st hf
    rw [fX8_chances_b72] at hf
    refine g_iload_n rfl 3 rfl dX8_chances_72 ?_
    refine g_iload_n rfl 2 rfl dX8_chances_73 ?_
    refine g_icmp_ge 90 (by decide) dX8_chances_74 (fun h1 => ?_) (fun h1 => ?_)
    · rw [if_pos h1] at hf
      refine g_aload_n rfl 0 rfl dX8_chances_90 ?_
      refine g_iload_n rfl 1 rfl dX8_chances_91 ?_
      refine g_iload_n rfl 2 rfl dX8_chances_92 ?_
      refine g_iconst (2 : Int32) (by decide) dX8_chances_93 ?_
      refine g_irem (by decide) dX8_chances_94 ?_
      obtain ⟨q2, h3, hf⟩ := bnd_some hf
      refine g_callV0l (As := [.int l1, .int (jrem l2 (2 : Int32))]) (rest := []) cok8 mok_X8_partsOf tw7_78 tw7_80 ts9_13 oS38 B.1 (by decide) (kX8_partsOf  h3) rfl rfl (Nat.le_of_ble_eq_true rfl) ⟨Nat.le_refl _, Nat.le_refl _⟩ dX8_chances_95 ?_
      exact g_lret B.2.2.2 B.2.2.1 (congrArg (fun z => some (Value.long z)) (Prod.mk.inj (Option.some.inj hf)).1.symm) (Prod.mk.inj (Option.some.inj hf)).2.symm dX8_chances_98
    · rw [if_neg h1] at hf
      refine g_aload_n rfl 0 rfl dX8_chances_77 ?_
      refine g_iload_n rfl 3 rfl dX8_chances_78 ?_
      refine g_iconst (2 : Int32) (by decide) dX8_chances_79 ?_
      refine g_irem (by decide) dX8_chances_80 ?_
      obtain ⟨q4, h5, hf⟩ := bnd_some hf
      refine g_callV0v (As := [.int (jrem l3 (2 : Int32))]) (rest := []) cok8 mok_X8_spreads tw7_70 tw7_72 ts9_11 oS38 B.1 (by decide) (kX8_spreads  h5) rfl rfl (Nat.le_of_ble_eq_true rfl) ⟨Nat.le_refl _, Nat.le_refl _⟩ dX8_chances_81 ?_
      refine g_iinc (l3 + (1 : Int32)) [(3, .int (l3 + (1 : Int32))), (0, .ref (eB E + 38)), (1, .int l1), (2, .int l2)] 3 rfl (congrArg (fun z => l3 + z) (show Int32.ofInt (1) = (1 : Int32) by decide)) (by decide) rfl dX8_chances_84 ?_
      refine g_goto 72 (by decide) dX8_chances_87 ?_
      refine g_lvs [1, 2, 3, 0] rfl ?_
      exact ih l1 l2 (l3 + (1 : Int32)) q4 hf
def fX8_chances_b38 : Nat → Int32 → Int32 → Int32 → St → Option (Int64 × St)
  | 0, _, _, _, _ => none
  | n + 1, l1, l2, l3, st => if (768 : Int32) ≤ l3 then (chk (ixb (fX8_stateNow st) 768) (fX8_chances_b72 FU l1 l2 (0 : Int32) (pL st 62 ((fX8_stateNow st).toNatClampNeg) (1000000000000 : Int64)))) else (chk (ixb l3 768) (fX8_chances_b38 n l1 l2 (l3 + (1 : Int32)) (pL st 62 l3.toNatClampNeg (0 : Int64))))
set_option maxHeartbeats 1000000 in
set_option maxRecDepth 20000 in
theorem wX8_chances_b38 {E : Ev} {x : Cx} {r0 : Int64} {u0 : St} (B : Bd E x (some FieldType.long) (212) 0 0 (some (.long r0)) u0) : ∀ (n : Nat) (l1 : Int32) (l2 : Int32) (l3 : Int32) (st : St) , fX8_chances_b38 n l1 l2 l3 st = some (r0, u0) → G E WT x RX8 cX8_chances 4 (0, 0) st 38 [(0, .ref (eB E + 38)), (1, .int l1), (2, .int l2), (3, .int l3)] [] := by
  intro n
  induction n with
  | zero =>
    intros
    rename_i hf
    rw [fX8_chances_b38] at hf
    cases hf
  | succ n ih =>
    intro l1 l2 l3 st hf
    rw [fX8_chances_b38] at hf
    refine g_iload_n rfl 3 rfl dX8_chances_38 ?_
    refine g_sipush (768 : Int32) (by decide) dX8_chances_39 ?_
    refine g_icmp_ge 58 (by decide) dX8_chances_42 (fun h1 => ?_) (fun h1 => ?_)
    · rw [if_pos h1] at hf
      refine g_aload_n rfl 0 rfl dX8_chances_58 ?_
      refine g_get (j := 44) cok8 (by decide) (.ref (eB E + 62)) (Or.inl tw4_219) oS38 vS38_44 dX8_chances_59 ?_
      refine g_aload_n rfl 0 rfl dX8_chances_62 ?_
      refine g_callV0i (As := []) (rest := [.ref (eB E + 62)]) cok8 mok_X8_stateNow tw7_32 tw7_34 ts9_4 oS38 B.1 (by decide) (kX8_stateNow  rfl) rfl rfl (Nat.le_of_ble_eq_true rfl) ⟨Nat.le_refl _, Nat.le_refl _⟩ dX8_chances_63 ?_
      refine g_ldc2 tw7_69 dX8_chances_66 ?_
      obtain ⟨h2, hf⟩ := chk_some hf
      refine g_lastj ((fX8_stateNow st).toNatClampNeg) rfl aS62 (ixb_in h2) B.2.1 wpL dX8_chances_69 ?_
      refine g_iconst (0 : Int32) (by decide) dX8_chances_70 ?_
      refine g_istore_n rfl [(3, .int (0 : Int32)), (0, .ref (eB E + 38)), (1, .int l1), (2, .int l2)] (by decide) rfl dX8_chances_71 ?_
      refine g_lvs [1, 2, 3, 0] rfl ?_
      exact wX8_chances_b72 B  FU l1 l2 (0 : Int32) (pL st 62 ((fX8_stateNow st).toNatClampNeg) (1000000000000 : Int64)) hf
    · rw [if_neg h1] at hf
      refine g_aload_n rfl 0 rfl dX8_chances_45 ?_
      refine g_get (j := 44) cok8 (by decide) (.ref (eB E + 62)) (Or.inl tw4_219) oS38 vS38_44 dX8_chances_46 ?_
      refine g_iload_n rfl 3 rfl dX8_chances_49 ?_
      refine g_lconst (0 : Int64) (by decide) dX8_chances_50 ?_
      obtain ⟨h3, hf⟩ := chk_some hf
      refine g_lastj l3.toNatClampNeg rfl aS62 (ixb_in h3) B.2.1 wpL dX8_chances_51 ?_
      refine g_iinc (l3 + (1 : Int32)) [(3, .int (l3 + (1 : Int32))), (0, .ref (eB E + 38)), (1, .int l1), (2, .int l2)] 3 rfl (congrArg (fun z => l3 + z) (show Int32.ofInt (1) = (1 : Int32) by decide)) (by decide) rfl dX8_chances_52 ?_
      refine g_goto 38 (by decide) dX8_chances_55 ?_
      refine g_lvs [1, 2, 3, 0] rfl ?_
      exact ih l1 l2 (l3 + (1 : Int32)) (pL st 62 l3.toNatClampNeg (0 : Int64)) hf
def fX8_chances (p1 : Int32) (p2 : Int32) (st : St) : Option (Int64 × St) :=
  if (fX8_isChild st p1) = 0 then (some ((-1 : Int64), st)) else (if (fX8_lies p2 (0 : Int32) (20 : Int32)) = 0 then (some ((-1 : Int64), st)) else (if (sI st 40 17) = 0 then (some ((-1 : Int64), st)) else ((fX8_laysLeads st).bind (fun q4 => fX8_chances_b38 FU p1 p2 (0 : Int32) q4))))
set_option maxHeartbeats 1000000 in
set_option maxRecDepth 20000 in
theorem wX8_chances {E : Ev} {x : Cx} {r0 : Int64} {u0 : St} (B : Bd E x (some FieldType.long) (212) 0 0 (some (.long r0)) u0) (p1 : Int32) (p2 : Int32) (st : St)  (hf : fX8_chances p1 p2 st = some (r0, u0)) : G E WT x RX8 cX8_chances 4 (0, 0) st 0 [(0, .ref (eB E + 38)), (1, .int p1), (2, .int p2)] [] := by
  unfold fX8_chances at hf
  refine g_aload_n rfl 0 rfl dX8_chances_0 ?_
  refine g_iload_n rfl 1 rfl dX8_chances_1 ?_
  refine g_callV0i (As := [.int p1]) (rest := []) cok8 mok_X8_isChild tw5_149 tw5_151 ts5_7 oS38 B.1 (by decide) (kX8_isChild  rfl) rfl rfl (Nat.le_of_ble_eq_true rfl) ⟨Nat.le_refl _, Nat.le_refl _⟩ dX8_chances_2 ?_
  refine g_if_eq 28 (by decide) dX8_chances_5 (fun h1 => ?_) (fun h1 => ?_)
  · rw [if_pos h1] at hf
    refine g_ldc2 tw7_68 dX8_chances_28 ?_
    exact g_lret B.2.2.2 B.2.2.1 (congrArg (fun z => some (Value.long z)) (Prod.mk.inj (Option.some.inj hf)).1.symm) (Prod.mk.inj (Option.some.inj hf)).2.symm dX8_chances_31
  · rw [if_neg h1] at hf
    refine g_iload_n rfl 2 rfl dX8_chances_8 ?_
    refine g_iconst (0 : Int32) (by decide) dX8_chances_9 ?_
    refine g_bipush (20 : Int32) (by decide) dX8_chances_10 ?_
    refine g_callS0i (As := [.int p2, .int (0 : Int32), .int (20 : Int32)]) (rest := []) mok_X8_lies tw5_118 tw5_119 B.1 (by decide) (kX8_lies  rfl) rfl rfl (Nat.le_of_ble_eq_true rfl) ⟨Nat.le_refl _, Nat.le_refl _⟩ dX8_chances_12 ?_
    refine g_if_eq 28 (by decide) dX8_chances_15 (fun h2 => ?_) (fun h2 => ?_)
    · rw [if_pos h2] at hf
      refine g_ldc2 tw7_68 dX8_chances_28 ?_
      exact g_lret B.2.2.2 B.2.2.1 (congrArg (fun z => some (Value.long z)) (Prod.mk.inj (Option.some.inj hf)).1.symm) (Prod.mk.inj (Option.some.inj hf)).2.symm dX8_chances_31
    · rw [if_neg h2] at hf
      refine g_aload_n rfl 0 rfl dX8_chances_18 ?_
      refine g_get (j := 2) cok8 (by decide) (.ref (eB E + 40)) (Or.inl tw4_177) oS38 vS38_2 dX8_chances_19 ?_
      refine g_bipush (17 : Int32) (by decide) dX8_chances_22 ?_
      refine g_ialdj 17 rfl aS40 (ixb_in rfl) dX8_chances_24 ?_
      refine g_if_ne 32 (by decide) dX8_chances_25 (fun h3 => ?_) (fun h3 => ?_)
      · rw [if_neg h3] at hf
        refine g_aload_n rfl 0 rfl dX8_chances_32 ?_
        obtain ⟨q4, h5, hf⟩ := bnd_some hf
        refine g_callV0v (As := []) (rest := []) cok8 mok_X8_laysLeads tw7_17 tw7_19 ts9_1 oS38 B.1 (by decide) (kX8_laysLeads  h5) rfl rfl (Nat.le_of_ble_eq_true rfl) ⟨Nat.le_refl _, Nat.le_refl _⟩ dX8_chances_33 ?_
        refine g_iconst (0 : Int32) (by decide) dX8_chances_36 ?_
        refine g_istore_n rfl [(3, .int (0 : Int32)), (0, .ref (eB E + 38)), (1, .int p1), (2, .int p2)] (by decide) rfl dX8_chances_37 ?_
        refine g_lvs [1, 2, 3, 0] rfl ?_
        exact wX8_chances_b38 B  FU p1 p2 (0 : Int32) q4 hf
      · rw [if_pos h3] at hf
        refine g_ldc2 tw7_68 dX8_chances_28 ?_
        exact g_lret B.2.2.2 B.2.2.1 (congrArg (fun z => some (Value.long z)) (Prod.mk.inj (Option.some.inj hf)).1.symm) (Prod.mk.inj (Option.some.inj hf)).2.symm dX8_chances_31
theorem kX8_chances {l : Launch} {E : Ev} {st : St} {p1 : Int32} {p2 : Int32} {r0 : Int64} {u0 : St}  (hf : fX8_chances p1 p2 st = some (r0, u0)) : CM l E WT yX8_chances cX8_chances 4 (some FieldType.long) 212 0 0 [.ref (eB E + 38), .int p1, .int p2] st (some (.long r0)) u0 :=
  CM.intro mok_X8_chances (Nat.le_of_ble_eq_true rfl) (fun x hl hR ht hr hQ _ => wX8_chances ⟨hR, ht, hr, hQ⟩ p1 p2 st hf)
def fX8_laysRow_b7 : Nat → Int32 → Int32 → St → Option St
  | 0, _, _, _ => none
  | n + 1, l3, l4, st => if l4 < 0 then (some st) else (chk (nz (sI st 40 17)) (chk (ixb l4 4) (chk (nz (sI (pI st 63 l4.toNatClampNeg (jrem l3 (sI st 40 17))) 40 17)) (fX8_laysRow_b7 n (l3 / (sI (pI st 63 l4.toNatClampNeg (jrem l3 (sI st 40 17))) 40 17)) (l4 + (-1 : Int32)) (pI st 63 l4.toNatClampNeg (jrem l3 (sI st 40 17)))))))
set_option maxHeartbeats 1000000 in
set_option maxRecDepth 20000 in
theorem wX8_laysRow_b7 {E : Ev} {x : Cx} {u0 : St} (B : Bd E x none (0) 0 0 none u0) : ∀ (n : Nat) (l3 : Int32) (l4 : Int32) (st : St) , fX8_laysRow_b7 n l3 l4 st = some u0 → G E WT x RX8 cX8_laysRow 5 (0, 0) st 7 [(0, .ref (eB E + 38)), (3, .int l3), (4, .int l4)] [] := by
  intro n
  induction n with
  | zero =>
    intros
    rename_i hf
    rw [fX8_laysRow_b7] at hf
    cases hf
  | succ n ih =>
    intro l3 l4 st hf
    rw [fX8_laysRow_b7] at hf
    refine g_iload 2 rfl dX8_laysRow_7 ?_
    refine g_if_lt 44 (by decide) dX8_laysRow_9 (fun h1 => ?_) (fun h1 => ?_)
    · rw [if_pos h1] at hf
      exact g_ret B.2.2.2 B.2.2.1 rfl (Option.some.inj hf).symm dX8_laysRow_44
    · rw [if_neg h1] at hf
      refine g_aload_n rfl 0 rfl dX8_laysRow_12 ?_
      refine g_get (j := 45) cok8 (by decide) (.ref (eB E + 63)) (Or.inl tw4_220) oS38 vS38_45 dX8_laysRow_13 ?_
      refine g_iload 2 rfl dX8_laysRow_16 ?_
      refine g_iload_n rfl 1 rfl dX8_laysRow_18 ?_
      refine g_aload_n rfl 0 rfl dX8_laysRow_19 ?_
      refine g_get (j := 2) cok8 (by decide) (.ref (eB E + 40)) (Or.inl tw4_177) oS38 vS38_2 dX8_laysRow_20 ?_
      refine g_bipush (17 : Int32) (by decide) dX8_laysRow_23 ?_
      refine g_ialdj 17 rfl aS40 (ixb_in rfl) dX8_laysRow_25 ?_
      obtain ⟨h2, hf⟩ := chk_some hf
      refine g_irem (nz_ne h2) dX8_laysRow_26 ?_
      obtain ⟨h3, hf⟩ := chk_some hf
      refine g_iastj l4.toNatClampNeg rfl aS63 (ixb_in h3) B.2.1 wpI dX8_laysRow_27 ?_
      refine g_iload_n rfl 1 rfl dX8_laysRow_28 ?_
      refine g_aload_n rfl 0 rfl dX8_laysRow_29 ?_
      refine g_get (j := 2) cok8 (by decide) (.ref (eB E + 40)) (Or.inl tw4_177) oS38 vS38_2 dX8_laysRow_30 ?_
      refine g_bipush (17 : Int32) (by decide) dX8_laysRow_33 ?_
      refine g_ialdj 17 rfl aS40 (ixb_in rfl) dX8_laysRow_35 ?_
      obtain ⟨h4, hf⟩ := chk_some hf
      refine g_idiv (nz_ne h4) dX8_laysRow_36 ?_
      refine g_istore_n rfl [(3, .int (l3 / (sI (pI st 63 l4.toNatClampNeg (jrem l3 (sI st 40 17))) 40 17))), (0, .ref (eB E + 38)), (4, .int l4)] (by decide) rfl dX8_laysRow_37 ?_
      refine g_iinc (l4 + (-1 : Int32)) [(4, .int (l4 + (-1 : Int32))), (3, .int (l3 / (sI (pI st 63 l4.toNatClampNeg (jrem l3 (sI st 40 17))) 40 17))), (0, .ref (eB E + 38))] 2 rfl (congrArg (fun z => l4 + z) (show Int32.ofInt (-1) = (-1 : Int32) by decide)) (by decide) rfl dX8_laysRow_38 ?_
      refine g_goto 7 (by decide) dX8_laysRow_41 ?_
      refine g_lvs [2, 1, 0] rfl ?_
      exact ih (l3 / (sI (pI st 63 l4.toNatClampNeg (jrem l3 (sI st 40 17))) 40 17)) (l4 + (-1 : Int32)) (pI st 63 l4.toNatClampNeg (jrem l3 (sI st 40 17))) hf
def fX8_laysRow (p1 : Int32) (p2 : Int32) (st : St) : Option St :=
  fX8_laysRow_b7 FU p1 (p2 - (1 : Int32)) st
set_option maxHeartbeats 1000000 in
set_option maxRecDepth 20000 in
theorem wX8_laysRow {E : Ev} {x : Cx} {u0 : St} (B : Bd E x none (0) 0 0 none u0) (p1 : Int32) (p2 : Int32) (st : St)  (hf : fX8_laysRow p1 p2 st = some u0) : G E WT x RX8 cX8_laysRow 5 (0, 0) st 0 [(0, .ref (eB E + 38)), (1, .int p1), (2, .int p2)] [] := by
  unfold fX8_laysRow at hf
  refine g_iload_n rfl 1 rfl dX8_laysRow_0 ?_
  refine g_istore_n rfl [(3, .int p1), (0, .ref (eB E + 38)), (1, .int p1), (2, .int p2)] (by decide) rfl dX8_laysRow_1 ?_
  refine g_iload_n rfl 3 rfl dX8_laysRow_2 ?_
  refine g_iconst (1 : Int32) (by decide) dX8_laysRow_3 ?_
  refine g_isub dX8_laysRow_4 ?_
  refine g_istore [(4, .int (p2 - (1 : Int32))), (3, .int p1), (0, .ref (eB E + 38)), (1, .int p1), (2, .int p2)] (by decide) rfl dX8_laysRow_5 ?_
  refine g_lvs [2, 1, 0] rfl ?_
  exact wX8_laysRow_b7 B  FU p1 (p2 - (1 : Int32)) st hf
theorem kX8_laysRow {l : Launch} {E : Ev} {st : St} {p1 : Int32} {p2 : Int32} {u0 : St}  (hf : fX8_laysRow p1 p2 st = some u0) : CM l E WT yX8_laysRow cX8_laysRow 5 none 0 0 0 [.ref (eB E + 38), .int p1, .int p2] st none u0 :=
  CM.intro mok_X8_laysRow (Nat.le_of_ble_eq_true rfl) (fun x hl hR ht hr hQ _ => wX8_laysRow ⟨hR, ht, hr, hQ⟩ p1 p2 st hf)
def fX8_endOf_b10 (st : St)  : Nat → Int32 → Int32 → Int32 → Option Int32
  | 0, _, _, _ => none
  | n + 1, l1, l2, l3 => if l1 ≤ l3 then (some l2) else ((fX8_ones (fX8_insideOf l2)).bind (fun q2 => if (2 : Int32) ≤ q2 then (chk (ixb l3 4) (chk (ixb (((5 : Int32) * l2) + (sI st 63 l3.toNatClampNeg)) 1920) (fX8_endOf_b10 st n l1 (sI st 55 ((((5 : Int32) * l2) + (sI st 63 l3.toNatClampNeg)).toNatClampNeg)) (l3 + (1 : Int32))))) else (some (-1 : Int32))))
set_option maxHeartbeats 1000000 in
set_option maxRecDepth 20000 in
theorem wX8_endOf_b10 {E : Ev} {x : Cx} {r0 : Int32} {st : St} (B : Bd E x (some FieldType.int) (1) 0 0 (some (.int r0)) st) : ∀ (n : Nat) (l1 : Int32) (l2 : Int32) (l3 : Int32) , fX8_endOf_b10 st n l1 l2 l3 = some r0 → G E WT x RX8 cX8_endOf 4 (0, 0) st 10 [(0, .ref (eB E + 38)), (1, .int l1), (2, .int l2), (3, .int l3)] [] := by
  intro n
  induction n with
  | zero =>
    intros
    rename_i hf
    rw [fX8_endOf_b10] at hf
    cases hf
  | succ n ih =>
    intro l1 l2 l3 hf
    rw [fX8_endOf_b10] at hf
    refine g_iload_n rfl 3 rfl dX8_endOf_10 ?_
    refine g_iload_n rfl 1 rfl dX8_endOf_11 ?_
    refine g_icmp_ge 50 (by decide) dX8_endOf_12 (fun h1 => ?_) (fun h1 => ?_)
    · rw [if_pos h1] at hf
      refine g_iload_n rfl 2 rfl dX8_endOf_50 ?_
      exact g_iret B.2.2.2 B.2.2.1 (congrArg (fun z => some (Value.int z)) (Option.some.inj hf).symm) rfl dX8_endOf_51
    · rw [if_neg h1] at hf
      refine g_iload_n rfl 2 rfl dX8_endOf_15 ?_
      refine g_callS0i (As := [.int l2]) (rest := []) mok_X8_insideOf tw7_25 tw7_26 B.1 (by decide) (kX8_insideOf  rfl) rfl rfl (Nat.le_of_ble_eq_true rfl) ⟨Nat.le_refl _, Nat.le_refl _⟩ dX8_endOf_16 ?_
      obtain ⟨q2, h3, hf⟩ := bnd_some hf
      refine g_callS0i (As := [.int (fX8_insideOf l2)]) (rest := []) mok_X8_ones tw6_65 tw6_66 B.1 (by decide) (kX8_ones  h3) rfl rfl (Nat.le_of_ble_eq_true rfl) ⟨Nat.le_refl _, Nat.le_refl _⟩ dX8_endOf_19 ?_
      refine g_iconst (2 : Int32) (by decide) dX8_endOf_22 ?_
      refine g_icmp_ge 28 (by decide) dX8_endOf_23 (fun h4 => ?_) (fun h4 => ?_)
      · rw [if_pos h4] at hf
        refine g_aload_n rfl 0 rfl dX8_endOf_28 ?_
        refine g_get (j := 35) cok8 (by decide) (.ref (eB E + 55)) (Or.inl tw4_210) oS38 vS38_35 dX8_endOf_29 ?_
        refine g_iconst (5 : Int32) (by decide) dX8_endOf_32 ?_
        refine g_iload_n rfl 2 rfl dX8_endOf_33 ?_
        refine g_imul dX8_endOf_34 ?_
        refine g_aload_n rfl 0 rfl dX8_endOf_35 ?_
        refine g_get (j := 45) cok8 (by decide) (.ref (eB E + 63)) (Or.inl tw4_220) oS38 vS38_45 dX8_endOf_36 ?_
        refine g_iload_n rfl 3 rfl dX8_endOf_39 ?_
        obtain ⟨h5, hf⟩ := chk_some hf
        refine g_ialdj l3.toNatClampNeg rfl aS63 (ixb_in h5) dX8_endOf_40 ?_
        refine g_iadd dX8_endOf_41 ?_
        obtain ⟨h6, hf⟩ := chk_some hf
        refine g_ialdj ((((5 : Int32) * l2) + (sI st 63 l3.toNatClampNeg)).toNatClampNeg) rfl aS55 (ixb_in h6) dX8_endOf_42 ?_
        refine g_istore_n rfl [(2, .int (sI st 55 ((((5 : Int32) * l2) + (sI st 63 l3.toNatClampNeg)).toNatClampNeg))), (0, .ref (eB E + 38)), (1, .int l1), (3, .int l3)] (by decide) rfl dX8_endOf_43 ?_
        refine g_iinc (l3 + (1 : Int32)) [(3, .int (l3 + (1 : Int32))), (2, .int (sI st 55 ((((5 : Int32) * l2) + (sI st 63 l3.toNatClampNeg)).toNatClampNeg))), (0, .ref (eB E + 38)), (1, .int l1)] 3 rfl (congrArg (fun z => l3 + z) (show Int32.ofInt (1) = (1 : Int32) by decide)) (by decide) rfl dX8_endOf_44 ?_
        refine g_goto 10 (by decide) dX8_endOf_47 ?_
        refine g_lvs [2, 3, 1, 0] rfl ?_
        exact ih l1 (sI st 55 ((((5 : Int32) * l2) + (sI st 63 l3.toNatClampNeg)).toNatClampNeg)) (l3 + (1 : Int32)) hf
      · rw [if_neg h4] at hf
        refine g_iconst (-1 : Int32) (by decide) dX8_endOf_26 ?_
        exact g_iret B.2.2.2 B.2.2.1 (congrArg (fun z => some (Value.int z)) (Option.some.inj hf).symm) rfl dX8_endOf_27
def fX8_endOf (st : St) (p1 : Int32) : Option Int32 :=
  fX8_endOf_b10 st FU p1 ((6 : Int32) * (fX8_allChildren st)) (0 : Int32)
set_option maxHeartbeats 1000000 in
set_option maxRecDepth 20000 in
theorem wX8_endOf {E : Ev} {x : Cx} {r0 : Int32} {st : St} (B : Bd E x (some FieldType.int) (1) 0 0 (some (.int r0)) st) (p1 : Int32)  (hf : fX8_endOf st p1 = some r0) : G E WT x RX8 cX8_endOf 4 (0, 0) st 0 [(0, .ref (eB E + 38)), (1, .int p1)] [] := by
  unfold fX8_endOf at hf
  refine g_bipush (6 : Int32) (by decide) dX8_endOf_0 ?_
  refine g_aload_n rfl 0 rfl dX8_endOf_2 ?_
  refine g_callV0i (As := []) (rest := [.int (6 : Int32)]) cok8 mok_X8_allChildren tw6_218 tw6_220 ts8_12 oS38 B.1 (by decide) (kX8_allChildren  rfl) rfl rfl (Nat.le_of_ble_eq_true rfl) ⟨Nat.le_refl _, Nat.le_refl _⟩ dX8_endOf_3 ?_
  refine g_imul dX8_endOf_6 ?_
  refine g_istore_n rfl [(2, .int ((6 : Int32) * (fX8_allChildren st))), (0, .ref (eB E + 38)), (1, .int p1)] (by decide) rfl dX8_endOf_7 ?_
  refine g_iconst (0 : Int32) (by decide) dX8_endOf_8 ?_
  refine g_istore_n rfl [(3, .int (0 : Int32)), (2, .int ((6 : Int32) * (fX8_allChildren st))), (0, .ref (eB E + 38)), (1, .int p1)] (by decide) rfl dX8_endOf_9 ?_
  refine g_lvs [2, 3, 1, 0] rfl ?_
  exact wX8_endOf_b10 B  FU p1 ((6 : Int32) * (fX8_allChildren st)) (0 : Int32) hf
theorem kX8_endOf {l : Launch} {E : Ev} {st : St} {p1 : Int32} {r0 : Int32}  (hf : fX8_endOf st p1 = some r0) : CM l E WT yX8_endOf cX8_endOf 4 (some FieldType.int) 1 0 0 [.ref (eB E + 38), .int p1] st (some (.int r0)) st :=
  CM.intro mok_X8_endOf (Nat.le_of_ble_eq_true rfl) (fun x hl hR ht hr hQ _ => wX8_endOf ⟨hR, ht, hr, hQ⟩ p1 hf)
def fX8_rowsOf_b4 (st : St)  : Nat → Int32 → Int32 → Int32 → Option Int32
  | 0, _, _, _ => none
  | n + 1, l1, l2, l3 => if l1 ≤ l3 then (some l2) else (fX8_rowsOf_b4 st n l1 (l2 * (sI st 40 17)) (l3 + (1 : Int32)))
set_option maxHeartbeats 1000000 in
set_option maxRecDepth 20000 in
theorem wX8_rowsOf_b4 {E : Ev} {x : Cx} {r0 : Int32} {st : St} (B : Bd E x (some FieldType.int) (0) 0 0 (some (.int r0)) st) : ∀ (n : Nat) (l1 : Int32) (l2 : Int32) (l3 : Int32) , fX8_rowsOf_b4 st n l1 l2 l3 = some r0 → G E WT x RX8 cX8_rowsOf 4 (0, 0) st 4 [(0, .ref (eB E + 38)), (1, .int l1), (2, .int l2), (3, .int l3)] [] := by
  intro n
  induction n with
  | zero =>
    intros
    rename_i hf
    rw [fX8_rowsOf_b4] at hf
    cases hf
  | succ n ih =>
    intro l1 l2 l3 hf
    rw [fX8_rowsOf_b4] at hf
    refine g_iload_n rfl 3 rfl dX8_rowsOf_4 ?_
    refine g_iload_n rfl 1 rfl dX8_rowsOf_5 ?_
    refine g_icmp_ge 25 (by decide) dX8_rowsOf_6 (fun h1 => ?_) (fun h1 => ?_)
    · rw [if_pos h1] at hf
      refine g_iload_n rfl 2 rfl dX8_rowsOf_25 ?_
      exact g_iret B.2.2.2 B.2.2.1 (congrArg (fun z => some (Value.int z)) (Option.some.inj hf).symm) rfl dX8_rowsOf_26
    · rw [if_neg h1] at hf
      refine g_iload_n rfl 2 rfl dX8_rowsOf_9 ?_
      refine g_aload_n rfl 0 rfl dX8_rowsOf_10 ?_
      refine g_get (j := 2) cok8 (by decide) (.ref (eB E + 40)) (Or.inl tw4_177) oS38 vS38_2 dX8_rowsOf_11 ?_
      refine g_bipush (17 : Int32) (by decide) dX8_rowsOf_14 ?_
      refine g_ialdj 17 rfl aS40 (ixb_in rfl) dX8_rowsOf_16 ?_
      refine g_imul dX8_rowsOf_17 ?_
      refine g_istore_n rfl [(2, .int (l2 * (sI st 40 17))), (0, .ref (eB E + 38)), (1, .int l1), (3, .int l3)] (by decide) rfl dX8_rowsOf_18 ?_
      refine g_iinc (l3 + (1 : Int32)) [(3, .int (l3 + (1 : Int32))), (2, .int (l2 * (sI st 40 17))), (0, .ref (eB E + 38)), (1, .int l1)] 3 rfl (congrArg (fun z => l3 + z) (show Int32.ofInt (1) = (1 : Int32) by decide)) (by decide) rfl dX8_rowsOf_19 ?_
      refine g_goto 4 (by decide) dX8_rowsOf_22 ?_
      refine g_lvs [2, 3, 1, 0] rfl ?_
      exact ih l1 (l2 * (sI st 40 17)) (l3 + (1 : Int32)) hf
def fX8_rowsOf (st : St) (p1 : Int32) : Option Int32 :=
  fX8_rowsOf_b4 st FU p1 (1 : Int32) (0 : Int32)
set_option maxHeartbeats 1000000 in
set_option maxRecDepth 20000 in
theorem wX8_rowsOf {E : Ev} {x : Cx} {r0 : Int32} {st : St} (B : Bd E x (some FieldType.int) (0) 0 0 (some (.int r0)) st) (p1 : Int32)  (hf : fX8_rowsOf st p1 = some r0) : G E WT x RX8 cX8_rowsOf 4 (0, 0) st 0 [(0, .ref (eB E + 38)), (1, .int p1)] [] := by
  unfold fX8_rowsOf at hf
  refine g_iconst (1 : Int32) (by decide) dX8_rowsOf_0 ?_
  refine g_istore_n rfl [(2, .int (1 : Int32)), (0, .ref (eB E + 38)), (1, .int p1)] (by decide) rfl dX8_rowsOf_1 ?_
  refine g_iconst (0 : Int32) (by decide) dX8_rowsOf_2 ?_
  refine g_istore_n rfl [(3, .int (0 : Int32)), (2, .int (1 : Int32)), (0, .ref (eB E + 38)), (1, .int p1)] (by decide) rfl dX8_rowsOf_3 ?_
  refine g_lvs [2, 3, 1, 0] rfl ?_
  exact wX8_rowsOf_b4 B  FU p1 (1 : Int32) (0 : Int32) hf
theorem kX8_rowsOf {l : Launch} {E : Ev} {st : St} {p1 : Int32} {r0 : Int32}  (hf : fX8_rowsOf st p1 = some r0) : CM l E WT yX8_rowsOf cX8_rowsOf 4 (some FieldType.int) 0 0 0 [.ref (eB E + 38), .int p1] st (some (.int r0)) st :=
  CM.intro mok_X8_rowsOf (Nat.le_of_ble_eq_true rfl) (fun x hl hR ht hr hQ _ => wX8_rowsOf ⟨hR, ht, hr, hQ⟩ p1 hf)
def fX8_said_b90 (k42 : Int32 → Int32 → Int32 → Int32 → Int32 → St → Option (Int32 × St))(l1 : Int32) (l2 : Int32) (l3 : Int32) (l4 : Int32) (l5 : Int32) (st : St) : Option (Int32 × St) :=
  k42 l1 l2 l3 l4 (l5 + (1 : Int32)) st
set_option maxHeartbeats 1000000 in
set_option maxRecDepth 20000 in
theorem wX8_said_b90 {E : Ev} {x : Cx} {r0 : Int32} {u0 : St} (B : Bd E x (some FieldType.int) (212) 0 0 (some (.int r0)) u0) {k42 : Int32 → Int32 → Int32 → Int32 → Int32 → St → Option (Int32 × St)} (hk42 : ∀ (l1 : Int32) (l2 : Int32) (l3 : Int32) (l4 : Int32) (l5 : Int32) (st : St), k42 l1 l2 l3 l4 l5 st = some (r0, u0) → G E WT x RX8 cX8_said 6 (0, 0) st 42 [(0, .ref (eB E + 38)), (1, .int l1), (2, .int l2), (3, .int l3), (4, .int l4), (5, .int l5)] []) (l1 : Int32) (l2 : Int32) (l3 : Int32) (l4 : Int32) (l5 : Int32) (st : St)  (hf : fX8_said_b90 k42 l1 l2 l3 l4 l5 st = some (r0, u0)) : G E WT x RX8 cX8_said 6 (0, 0) st 90 [(0, .ref (eB E + 38)), (1, .int l1), (2, .int l2), (3, .int l3), (4, .int l4), (5, .int l5)] [] := by
  unfold fX8_said_b90 at hf
  refine g_iinc (l5 + (1 : Int32)) [(5, .int (l5 + (1 : Int32))), (0, .ref (eB E + 38)), (1, .int l1), (2, .int l2), (3, .int l3), (4, .int l4)] 5 rfl (congrArg (fun z => l5 + z) (show Int32.ofInt (1) = (1 : Int32) by decide)) (by decide) rfl dX8_said_90 ?_
  refine g_goto 42 (by decide) dX8_said_93 ?_
  refine g_lvs [1, 2, 3, 4, 5, 0] rfl ?_
  exact hk42 l1 l2 l3 l4 (l5 + (1 : Int32)) st hf
def fX8_said_b42 : Nat → Int32 → Int32 → Int32 → Int32 → Int32 → St → Option (Int32 × St)
  | 0, _, _, _, _, _, _ => none
  | n + 1, l1, l2, l3, l4, l5, st => (fX8_rowsOf st l1).bind (fun q1 => if q1 ≤ l5 then (if l2 = (-1 : Int32) then (some (l4, st)) else (some ((-1 : Int32), st))) else ((fX8_laysRow l5 l1 st).bind (fun q5 => (fX8_endOf q5 l1).bind (fun q7 => if q7 = (fX8_stateNow q5) then (if l4 = l2 then (chk (ixb l3 4) (some (sI q5 63 l3.toNatClampNeg, q5))) else (fX8_said_b90 (fun zl1 zl2 zl3 zl4 zl5 zst => fX8_said_b42 n zl1 zl2 zl3 zl4 zl5 zst) l1 l2 l3 (l4 + (1 : Int32)) l5 q5)) else (fX8_said_b90 (fun zl1 zl2 zl3 zl4 zl5 zst => fX8_said_b42 n zl1 zl2 zl3 zl4 zl5 zst) l1 l2 l3 l4 l5 q5)))))
set_option maxHeartbeats 1000000 in
set_option maxRecDepth 20000 in
theorem wX8_said_b42 {E : Ev} {x : Cx} {r0 : Int32} {u0 : St} (B : Bd E x (some FieldType.int) (212) 0 0 (some (.int r0)) u0) : ∀ (n : Nat) (l1 : Int32) (l2 : Int32) (l3 : Int32) (l4 : Int32) (l5 : Int32) (st : St) , fX8_said_b42 n l1 l2 l3 l4 l5 st = some (r0, u0) → G E WT x RX8 cX8_said 6 (0, 0) st 42 [(0, .ref (eB E + 38)), (1, .int l1), (2, .int l2), (3, .int l3), (4, .int l4), (5, .int l5)] [] := by
  intro n
  induction n with
  | zero =>
    intros
    rename_i hf
    rw [fX8_said_b42] at hf
    cases hf
  | succ n ih =>
    intro l1 l2 l3 l4 l5 st hf
    rw [fX8_said_b42] at hf
    refine g_iload 5 rfl dX8_said_42 ?_
    refine g_aload_n rfl 0 rfl dX8_said_44 ?_
    refine g_iload_n rfl 1 rfl dX8_said_45 ?_
    obtain ⟨q1, h2, hf⟩ := bnd_some hf
    refine g_callV0i (As := [.int l1]) (rest := [.int l5]) cok8 mok_X8_rowsOf tw7_86 tw7_88 ts9_14 oS38 B.1 (by decide) (kX8_rowsOf  h2) rfl rfl (Nat.le_of_ble_eq_true rfl) ⟨Nat.le_refl _, Nat.le_refl _⟩ dX8_said_46 ?_
    refine g_icmp_ge 96 (by decide) dX8_said_49 (fun h3 => ?_) (fun h3 => ?_)
    · rw [if_pos h3] at hf
      refine g_iload_n rfl 2 rfl dX8_said_96 ?_
      refine g_iconst (-1 : Int32) (by decide) dX8_said_97 ?_
      refine g_icmp_ne 106 (by decide) dX8_said_98 (fun h4 => ?_) (fun h4 => ?_)
      · rw [if_neg h4] at hf
        refine g_iconst (-1 : Int32) (by decide) dX8_said_106 ?_
        exact g_iret B.2.2.2 B.2.2.1 (congrArg (fun z => some (Value.int z)) (Prod.mk.inj (Option.some.inj hf)).1.symm) (Prod.mk.inj (Option.some.inj hf)).2.symm dX8_said_107
      · rw [if_pos h4] at hf
        refine g_iload 4 rfl dX8_said_101 ?_
        refine g_goto 107 (by decide) dX8_said_103 ?_
        exact g_iret B.2.2.2 B.2.2.1 (congrArg (fun z => some (Value.int z)) (Prod.mk.inj (Option.some.inj hf)).1.symm) (Prod.mk.inj (Option.some.inj hf)).2.symm dX8_said_107
    · rw [if_neg h3] at hf
      refine g_aload_n rfl 0 rfl dX8_said_52 ?_
      refine g_iload 5 rfl dX8_said_53 ?_
      refine g_iload_n rfl 1 rfl dX8_said_55 ?_
      obtain ⟨q5, h6, hf⟩ := bnd_some hf
      refine g_callV0v (As := [.int l5, .int l1]) (rest := []) cok8 mok_X8_laysRow tw7_90 tw7_92 ts9_15 oS38 B.1 (by decide) (kX8_laysRow  h6) rfl rfl (Nat.le_of_ble_eq_true rfl) ⟨Nat.le_refl _, Nat.le_refl _⟩ dX8_said_56 ?_
      refine g_aload_n rfl 0 rfl dX8_said_59 ?_
      refine g_iload_n rfl 1 rfl dX8_said_60 ?_
      obtain ⟨q7, h8, hf⟩ := bnd_some hf
      refine g_callV0i (As := [.int l1]) (rest := []) cok8 mok_X8_endOf tw7_94 tw7_96 ts10_0 oS38 B.1 (by decide) (kX8_endOf  h8) rfl rfl (Nat.le_of_ble_eq_true rfl) ⟨Nat.le_refl _, Nat.le_refl _⟩ dX8_said_61 ?_
      refine g_aload_n rfl 0 rfl dX8_said_64 ?_
      refine g_callV0i (As := []) (rest := [.int q7]) cok8 mok_X8_stateNow tw7_32 tw7_34 ts9_4 oS38 B.1 (by decide) (kX8_stateNow  rfl) rfl rfl (Nat.le_of_ble_eq_true rfl) ⟨Nat.le_refl _, Nat.le_refl _⟩ dX8_said_65 ?_
      refine g_icmp_eq 74 (by decide) dX8_said_68 (fun h9 => ?_) (fun h9 => ?_)
      · rw [if_pos h9] at hf
        refine g_iload 4 rfl dX8_said_74 ?_
        refine g_iload_n rfl 2 rfl dX8_said_76 ?_
        refine g_icmp_ne 87 (by decide) dX8_said_77 (fun h10 => ?_) (fun h10 => ?_)
        · rw [if_neg h10] at hf
          refine g_iinc (l4 + (1 : Int32)) [(4, .int (l4 + (1 : Int32))), (0, .ref (eB E + 38)), (1, .int l1), (2, .int l2), (3, .int l3), (5, .int l5)] 4 rfl (congrArg (fun z => l4 + z) (show Int32.ofInt (1) = (1 : Int32) by decide)) (by decide) rfl dX8_said_87 ?_
          refine g_lvs [1, 2, 3, 4, 0, 5] rfl ?_
          exact wX8_said_b90 B ih l1 l2 l3 (l4 + (1 : Int32)) l5 q5 hf
        · rw [if_pos h10] at hf
          refine g_aload_n rfl 0 rfl dX8_said_80 ?_
          refine g_get (j := 45) cok8 (by decide) (.ref (eB E + 63)) (Or.inl tw4_220) oS38 vS38_45 dX8_said_81 ?_
          refine g_iload_n rfl 3 rfl dX8_said_84 ?_
          obtain ⟨h11, hf⟩ := chk_some hf
          refine g_ialdj l3.toNatClampNeg rfl aS63 (ixb_in h11) dX8_said_85 ?_
          exact g_iret B.2.2.2 B.2.2.1 (congrArg (fun z => some (Value.int z)) (Prod.mk.inj (Option.some.inj hf)).1.symm) (Prod.mk.inj (Option.some.inj hf)).2.symm dX8_said_86
      · rw [if_neg h9] at hf
        refine g_goto 90 (by decide) dX8_said_71 ?_
        refine g_lvs [0, 1, 2, 3, 4, 5] rfl ?_
        exact wX8_said_b90 B ih l1 l2 l3 l4 l5 q5 hf
def fX8_said_b32 (l1 : Int32) (l2 : Int32) (l3 : Int32) (st : St) : Option (Int32 × St) :=
  (fX8_laysLeads st).bind (fun q1 => fX8_said_b42 FU l1 l2 l3 (0 : Int32) (0 : Int32) q1)
set_option maxHeartbeats 1000000 in
set_option maxRecDepth 20000 in
theorem wX8_said_b32 {E : Ev} {x : Cx} {r0 : Int32} {u0 : St} (B : Bd E x (some FieldType.int) (212) 0 0 (some (.int r0)) u0) (l1 : Int32) (l2 : Int32) (l3 : Int32) (st : St)  (hf : fX8_said_b32 l1 l2 l3 st = some (r0, u0)) : G E WT x RX8 cX8_said 6 (0, 0) st 32 [(0, .ref (eB E + 38)), (1, .int l1), (2, .int l2), (3, .int l3)] [] := by
  unfold fX8_said_b32 at hf
  refine g_aload_n rfl 0 rfl dX8_said_32 ?_
  obtain ⟨q1, h2, hf⟩ := bnd_some hf
  refine g_callV0v (As := []) (rest := []) cok8 mok_X8_laysLeads tw7_17 tw7_19 ts9_1 oS38 B.1 (by decide) (kX8_laysLeads  h2) rfl rfl (Nat.le_of_ble_eq_true rfl) ⟨Nat.le_refl _, Nat.le_refl _⟩ dX8_said_33 ?_
  refine g_iconst (0 : Int32) (by decide) dX8_said_36 ?_
  refine g_istore [(4, .int (0 : Int32)), (0, .ref (eB E + 38)), (1, .int l1), (2, .int l2), (3, .int l3)] (by decide) rfl dX8_said_37 ?_
  refine g_iconst (0 : Int32) (by decide) dX8_said_39 ?_
  refine g_istore [(5, .int (0 : Int32)), (4, .int (0 : Int32)), (0, .ref (eB E + 38)), (1, .int l1), (2, .int l2), (3, .int l3)] (by decide) rfl dX8_said_40 ?_
  refine g_lvs [2, 3, 4, 5, 1, 0] rfl ?_
  exact wX8_said_b42 B  FU l1 l2 l3 (0 : Int32) (0 : Int32) q1 hf
def fX8_said (p1 : Int32) (p2 : Int32) (p3 : Int32) (st : St) : Option (Int32 × St) :=
  if (fX8_lies p1 (0 : Int32) (4 : Int32)) = 0 then (some ((-1 : Int32), st)) else (if p2 < (-1 : Int32) then (some ((-1 : Int32), st)) else (if p2 ≤ (-1 : Int32) then (fX8_said_b32 p1 p2 p3 st) else (if (fX8_lies p3 (0 : Int32) (p1 - (1 : Int32))) = 0 then (some ((-1 : Int32), st)) else (fX8_said_b32 p1 p2 p3 st))))
set_option maxHeartbeats 1000000 in
set_option maxRecDepth 20000 in
theorem wX8_said {E : Ev} {x : Cx} {r0 : Int32} {u0 : St} (B : Bd E x (some FieldType.int) (212) 0 0 (some (.int r0)) u0) (p1 : Int32) (p2 : Int32) (p3 : Int32) (st : St)  (hf : fX8_said p1 p2 p3 st = some (r0, u0)) : G E WT x RX8 cX8_said 6 (0, 0) st 0 [(0, .ref (eB E + 38)), (1, .int p1), (2, .int p2), (3, .int p3)] [] := by
  unfold fX8_said at hf
  refine g_iload_n rfl 1 rfl dX8_said_0 ?_
  refine g_iconst (0 : Int32) (by decide) dX8_said_1 ?_
  refine g_iconst (4 : Int32) (by decide) dX8_said_2 ?_
  refine g_callS0i (As := [.int p1, .int (0 : Int32), .int (4 : Int32)]) (rest := []) mok_X8_lies tw5_118 tw5_119 B.1 (by decide) (kX8_lies  rfl) rfl rfl (Nat.le_of_ble_eq_true rfl) ⟨Nat.le_refl _, Nat.le_refl _⟩ dX8_said_3 ?_
  refine g_if_eq 30 (by decide) dX8_said_6 (fun h1 => ?_) (fun h1 => ?_)
  · rw [if_pos h1] at hf
    refine g_iconst (-1 : Int32) (by decide) dX8_said_30 ?_
    exact g_iret B.2.2.2 B.2.2.1 (congrArg (fun z => some (Value.int z)) (Prod.mk.inj (Option.some.inj hf)).1.symm) (Prod.mk.inj (Option.some.inj hf)).2.symm dX8_said_31
  · rw [if_neg h1] at hf
    refine g_iload_n rfl 2 rfl dX8_said_9 ?_
    refine g_iconst (-1 : Int32) (by decide) dX8_said_10 ?_
    refine g_icmp_lt 30 (by decide) dX8_said_11 (fun h2 => ?_) (fun h2 => ?_)
    · rw [if_pos h2] at hf
      refine g_iconst (-1 : Int32) (by decide) dX8_said_30 ?_
      exact g_iret B.2.2.2 B.2.2.1 (congrArg (fun z => some (Value.int z)) (Prod.mk.inj (Option.some.inj hf)).1.symm) (Prod.mk.inj (Option.some.inj hf)).2.symm dX8_said_31
    · rw [if_neg h2] at hf
      refine g_iload_n rfl 2 rfl dX8_said_14 ?_
      refine g_iconst (-1 : Int32) (by decide) dX8_said_15 ?_
      refine g_icmp_le 32 (by decide) dX8_said_16 (fun h3 => ?_) (fun h3 => ?_)
      · rw [if_pos h3] at hf
        refine g_lvs [0, 1, 2, 3] rfl ?_
        exact wX8_said_b32 B  p1 p2 p3 st hf
      · rw [if_neg h3] at hf
        refine g_iload_n rfl 3 rfl dX8_said_19 ?_
        refine g_iconst (0 : Int32) (by decide) dX8_said_20 ?_
        refine g_iload_n rfl 1 rfl dX8_said_21 ?_
        refine g_iconst (1 : Int32) (by decide) dX8_said_22 ?_
        refine g_isub dX8_said_23 ?_
        refine g_callS0i (As := [.int p3, .int (0 : Int32), .int (p1 - (1 : Int32))]) (rest := []) mok_X8_lies tw5_118 tw5_119 B.1 (by decide) (kX8_lies  rfl) rfl rfl (Nat.le_of_ble_eq_true rfl) ⟨Nat.le_refl _, Nat.le_refl _⟩ dX8_said_24 ?_
        refine g_if_ne 32 (by decide) dX8_said_27 (fun h4 => ?_) (fun h4 => ?_)
        · rw [if_neg h4] at hf
          refine g_lvs [0, 1, 2, 3] rfl ?_
          exact wX8_said_b32 B  p1 p2 p3 st hf
        · rw [if_pos h4] at hf
          refine g_iconst (-1 : Int32) (by decide) dX8_said_30 ?_
          exact g_iret B.2.2.2 B.2.2.1 (congrArg (fun z => some (Value.int z)) (Prod.mk.inj (Option.some.inj hf)).1.symm) (Prod.mk.inj (Option.some.inj hf)).2.symm dX8_said_31
theorem kX8_said {l : Launch} {E : Ev} {st : St} {p1 : Int32} {p2 : Int32} {p3 : Int32} {r0 : Int32} {u0 : St}  (hf : fX8_said p1 p2 p3 st = some (r0, u0)) : CM l E WT yX8_said cX8_said 6 (some FieldType.int) 212 0 0 [.ref (eB E + 38), .int p1, .int p2, .int p3] st (some (.int r0)) u0 :=
  CM.intro mok_X8_said (Nat.le_of_ble_eq_true rfl) (fun x hl hR ht hr hQ _ => wX8_said ⟨hR, ht, hr, hQ⟩ p1 p2 p3 st hf)
def fX8_stopped (st : St)  : Int32 :=
  sI st 38 46
set_option maxHeartbeats 1000000 in
set_option maxRecDepth 20000 in
theorem wX8_stopped {E : Ev} {x : Cx} {r0 : Int32} {st : St} (B : Bd E x (some FieldType.int) (0) 0 0 (some (.int r0)) st)   (hf : fX8_stopped st  = r0) : G E WT x RX8 cX8_stopped 1 (0, 0) st 0 [(0, .ref (eB E + 38))] [] := by
  unfold fX8_stopped at hf
  refine g_aload_n rfl 0 rfl dX8_stopped_0 ?_
  refine g_get (j := 46) cok8 (by decide) (.int (sI st 38 46)) (Or.inl tw4_221) oS38 (fun _ => rfl) dX8_stopped_1 ?_
  exact g_iret B.2.2.2 B.2.2.1 (congrArg (fun z => some (Value.int z)) hf.symm) rfl dX8_stopped_4
theorem kX8_stopped {l : Launch} {E : Ev} {st : St}  {r0 : Int32}  (hf : fX8_stopped st = r0) : CM l E WT yX8_stopped cX8_stopped 1 (some FieldType.int) 0 0 0 [.ref (eB E + 38)] st (some (.int r0)) st :=
  CM.intro mok_X8_stopped (Nat.le_of_ble_eq_true rfl) (fun x hl hR ht hr hQ _ => wX8_stopped ⟨hR, ht, hr, hQ⟩  hf)
def fX8_laysAllAside_b7 : Nat → Int32 → St → Option St
  | 0, _, _ => none
  | n + 1, l1, st => if (64 : Int32) ≤ l1 then (some (pI st 38 50 (sI st 38 32))) else (chk (ixb l1 64) (chk (ixb l1 64) (fX8_laysAllAside_b7 n (l1 + (1 : Int32)) (pI st 53 l1.toNatClampNeg (sI st 52 l1.toNatClampNeg)))))
set_option maxHeartbeats 1000000 in
set_option maxRecDepth 20000 in
theorem wX8_laysAllAside_b7 {E : Ev} {x : Cx} {u0 : St} (B : Bd E x none (1) 0 0 none u0) : ∀ (n : Nat) (l1 : Int32) (st : St) , fX8_laysAllAside_b7 n l1 st = some u0 → G E WT x RX8 cX8_laysAllAside 2 (0, 0) st 7 [(0, .ref (eB E + 38)), (1, .int l1)] [] := by
  intro n
  induction n with
  | zero =>
    intros
    rename_i hf
    rw [fX8_laysAllAside_b7] at hf
    cases hf
  | succ n ih =>
    intro l1 st hf
    rw [fX8_laysAllAside_b7] at hf
    refine g_iload_n rfl 1 rfl dX8_laysAllAside_7 ?_
    refine g_bipush (64 : Int32) (by decide) dX8_laysAllAside_8 ?_
    refine g_icmp_ge 31 (by decide) dX8_laysAllAside_10 (fun h1 => ?_) (fun h1 => ?_)
    · rw [if_pos h1] at hf
      refine g_aload_n rfl 0 rfl dX8_laysAllAside_31 ?_
      refine g_aload_n rfl 0 rfl dX8_laysAllAside_32 ?_
      refine g_get (j := 32) cok8 (by decide) (.int (sI st 38 32)) (Or.inl tw4_207) oS38 (fun _ => rfl) dX8_laysAllAside_33 ?_
      refine g_putI (j := 50) cok8 (by decide) rfl rfl rfl rfl (Or.inl tw4_225) oS38 B.2.1 wpI dX8_laysAllAside_36 ?_
      exact g_ret B.2.2.2 B.2.2.1 rfl (Option.some.inj hf).symm dX8_laysAllAside_39
    · rw [if_neg h1] at hf
      refine g_aload_n rfl 0 rfl dX8_laysAllAside_13 ?_
      refine g_get (j := 31) cok8 (by decide) (.ref (eB E + 53)) (Or.inl tw4_206) oS38 vS38_31 dX8_laysAllAside_14 ?_
      refine g_iload_n rfl 1 rfl dX8_laysAllAside_17 ?_
      refine g_aload_n rfl 0 rfl dX8_laysAllAside_18 ?_
      refine g_get (j := 30) cok8 (by decide) (.ref (eB E + 52)) (Or.inl tw4_205) oS38 vS38_30 dX8_laysAllAside_19 ?_
      refine g_iload_n rfl 1 rfl dX8_laysAllAside_22 ?_
      obtain ⟨h2, hf⟩ := chk_some hf
      refine g_ialdj l1.toNatClampNeg rfl aS52 (ixb_in h2) dX8_laysAllAside_23 ?_
      obtain ⟨h3, hf⟩ := chk_some hf
      refine g_iastj l1.toNatClampNeg rfl aS53 (ixb_in h3) B.2.1 wpI dX8_laysAllAside_24 ?_
      refine g_iinc (l1 + (1 : Int32)) [(1, .int (l1 + (1 : Int32))), (0, .ref (eB E + 38))] 1 rfl (congrArg (fun z => l1 + z) (show Int32.ofInt (1) = (1 : Int32) by decide)) (by decide) rfl dX8_laysAllAside_25 ?_
      refine g_goto 7 (by decide) dX8_laysAllAside_28 ?_
      refine g_lvs [1, 0] rfl ?_
      exact ih (l1 + (1 : Int32)) (pI st 53 l1.toNatClampNeg (sI st 52 l1.toNatClampNeg)) hf
def fX8_laysAllAside  (st : St) : Option St :=
  (fX8_laysAside (1 : Int32) st).bind (fun q1 => fX8_laysAllAside_b7 FU (0 : Int32) q1)
set_option maxHeartbeats 1000000 in
set_option maxRecDepth 20000 in
theorem wX8_laysAllAside {E : Ev} {x : Cx} {u0 : St} (B : Bd E x none (1) 0 0 none u0)  (st : St)  (hf : fX8_laysAllAside st = some u0) : G E WT x RX8 cX8_laysAllAside 2 (0, 0) st 0 [(0, .ref (eB E + 38))] [] := by
  unfold fX8_laysAllAside at hf
  refine g_aload_n rfl 0 rfl dX8_laysAllAside_0 ?_
  refine g_iconst (1 : Int32) (by decide) dX8_laysAllAside_1 ?_
  obtain ⟨q1, h2, hf⟩ := bnd_some hf
  refine g_callV0v (As := [.int (1 : Int32)]) (rest := []) cok8 mok_X8_laysAside tw6_230 tw6_232 ts8_14 oS38 B.1 (by decide) (kX8_laysAside  h2) rfl rfl (Nat.le_of_ble_eq_true rfl) ⟨Nat.le_refl _, Nat.le_refl _⟩ dX8_laysAllAside_2 ?_
  refine g_iconst (0 : Int32) (by decide) dX8_laysAllAside_5 ?_
  refine g_istore_n rfl [(1, .int (0 : Int32)), (0, .ref (eB E + 38))] (by decide) rfl dX8_laysAllAside_6 ?_
  refine g_lvs [1, 0] rfl ?_
  exact wX8_laysAllAside_b7 B  FU (0 : Int32) q1 hf
theorem kX8_laysAllAside {l : Launch} {E : Ev} {st : St}  {u0 : St}  (hf : fX8_laysAllAside st = some u0) : CM l E WT yX8_laysAllAside cX8_laysAllAside 2 none 1 0 0 [.ref (eB E + 38)] st none u0 :=
  CM.intro mok_X8_laysAllAside (Nat.le_of_ble_eq_true rfl) (fun x hl hR ht hr hQ _ => wX8_laysAllAside ⟨hR, ht, hr, hQ⟩ st hf)
def fX8_takesAllBack_b7 : Nat → Int32 → St → Option St
  | 0, _, _ => none
  | n + 1, l1, st => if (64 : Int32) ≤ l1 then (some (pI st 38 32 (sI st 38 50))) else (chk (ixb l1 64) (chk (ixb l1 64) (fX8_takesAllBack_b7 n (l1 + (1 : Int32)) (pI st 52 l1.toNatClampNeg (sI st 53 l1.toNatClampNeg)))))
set_option maxHeartbeats 1000000 in
set_option maxRecDepth 20000 in
theorem wX8_takesAllBack_b7 {E : Ev} {x : Cx} {u0 : St} (B : Bd E x none (1) 0 0 none u0) : ∀ (n : Nat) (l1 : Int32) (st : St) , fX8_takesAllBack_b7 n l1 st = some u0 → G E WT x RX8 cX8_takesAllBack 2 (0, 0) st 7 [(0, .ref (eB E + 38)), (1, .int l1)] [] := by
  intro n
  induction n with
  | zero =>
    intros
    rename_i hf
    rw [fX8_takesAllBack_b7] at hf
    cases hf
  | succ n ih =>
    intro l1 st hf
    rw [fX8_takesAllBack_b7] at hf
    refine g_iload_n rfl 1 rfl dX8_takesAllBack_7 ?_
    refine g_bipush (64 : Int32) (by decide) dX8_takesAllBack_8 ?_
    refine g_icmp_ge 31 (by decide) dX8_takesAllBack_10 (fun h1 => ?_) (fun h1 => ?_)
    · rw [if_pos h1] at hf
      refine g_aload_n rfl 0 rfl dX8_takesAllBack_31 ?_
      refine g_aload_n rfl 0 rfl dX8_takesAllBack_32 ?_
      refine g_get (j := 50) cok8 (by decide) (.int (sI st 38 50)) (Or.inl tw4_225) oS38 (fun _ => rfl) dX8_takesAllBack_33 ?_
      refine g_putI (j := 32) cok8 (by decide) rfl rfl rfl rfl (Or.inl tw4_207) oS38 B.2.1 wpI dX8_takesAllBack_36 ?_
      exact g_ret B.2.2.2 B.2.2.1 rfl (Option.some.inj hf).symm dX8_takesAllBack_39
    · rw [if_neg h1] at hf
      refine g_aload_n rfl 0 rfl dX8_takesAllBack_13 ?_
      refine g_get (j := 30) cok8 (by decide) (.ref (eB E + 52)) (Or.inl tw4_205) oS38 vS38_30 dX8_takesAllBack_14 ?_
      refine g_iload_n rfl 1 rfl dX8_takesAllBack_17 ?_
      refine g_aload_n rfl 0 rfl dX8_takesAllBack_18 ?_
      refine g_get (j := 31) cok8 (by decide) (.ref (eB E + 53)) (Or.inl tw4_206) oS38 vS38_31 dX8_takesAllBack_19 ?_
      refine g_iload_n rfl 1 rfl dX8_takesAllBack_22 ?_
      obtain ⟨h2, hf⟩ := chk_some hf
      refine g_ialdj l1.toNatClampNeg rfl aS53 (ixb_in h2) dX8_takesAllBack_23 ?_
      obtain ⟨h3, hf⟩ := chk_some hf
      refine g_iastj l1.toNatClampNeg rfl aS52 (ixb_in h3) B.2.1 wpI dX8_takesAllBack_24 ?_
      refine g_iinc (l1 + (1 : Int32)) [(1, .int (l1 + (1 : Int32))), (0, .ref (eB E + 38))] 1 rfl (congrArg (fun z => l1 + z) (show Int32.ofInt (1) = (1 : Int32) by decide)) (by decide) rfl dX8_takesAllBack_25 ?_
      refine g_goto 7 (by decide) dX8_takesAllBack_28 ?_
      refine g_lvs [1, 0] rfl ?_
      exact ih (l1 + (1 : Int32)) (pI st 52 l1.toNatClampNeg (sI st 53 l1.toNatClampNeg)) hf
def fX8_takesAllBack  (st : St) : Option St :=
  (fX8_takesBack (1 : Int32) st).bind (fun q1 => fX8_takesAllBack_b7 FU (0 : Int32) q1)
set_option maxHeartbeats 1000000 in
set_option maxRecDepth 20000 in
theorem wX8_takesAllBack {E : Ev} {x : Cx} {u0 : St} (B : Bd E x none (1) 0 0 none u0)  (st : St)  (hf : fX8_takesAllBack st = some u0) : G E WT x RX8 cX8_takesAllBack 2 (0, 0) st 0 [(0, .ref (eB E + 38))] [] := by
  unfold fX8_takesAllBack at hf
  refine g_aload_n rfl 0 rfl dX8_takesAllBack_0 ?_
  refine g_iconst (1 : Int32) (by decide) dX8_takesAllBack_1 ?_
  obtain ⟨q1, h2, hf⟩ := bnd_some hf
  refine g_callV0v (As := [.int (1 : Int32)]) (rest := []) cok8 mok_X8_takesBack tw7_1 tw7_3 ts9_0 oS38 B.1 (by decide) (kX8_takesBack  h2) rfl rfl (Nat.le_of_ble_eq_true rfl) ⟨Nat.le_refl _, Nat.le_refl _⟩ dX8_takesAllBack_2 ?_
  refine g_iconst (0 : Int32) (by decide) dX8_takesAllBack_5 ?_
  refine g_istore_n rfl [(1, .int (0 : Int32)), (0, .ref (eB E + 38))] (by decide) rfl dX8_takesAllBack_6 ?_
  refine g_lvs [1, 0] rfl ?_
  exact wX8_takesAllBack_b7 B  FU (0 : Int32) q1 hf
theorem kX8_takesAllBack {l : Launch} {E : Ev} {st : St}  {u0 : St}  (hf : fX8_takesAllBack st = some u0) : CM l E WT yX8_takesAllBack cX8_takesAllBack 2 none 1 0 0 [.ref (eB E + 38)] st none u0 :=
  CM.intro mok_X8_takesAllBack (Nat.le_of_ble_eq_true rfl) (fun x hl hR ht hr hQ _ => wX8_takesAllBack ⟨hR, ht, hr, hQ⟩ st hf)
def fX8_goesAlong_b174 (s1 : Int32) (st : St) : Option St :=
  chk (isb s1) (some (pI (pI st 38 52 s1) 38 22 ((sI (pI st 38 52 s1) 38 22) + (1 : Int32))))
set_option maxHeartbeats 1000000 in
set_option maxRecDepth 20000 in
theorem wX8_goesAlong_b174 {E : Ev} {x : Cx} {u0 : St} (B : Bd E x none (206) 0 0 none u0) (s1 : Int32) (st : St)  (hf : fX8_goesAlong_b174 s1 st = some u0) : G E WT x RX8 cX8_goesAlong 3 (0, 0) st 174 [(0, .ref (eB E + 38))] [.int s1, .ref (eB E + 38)] := by
  unfold fX8_goesAlong_b174 at hf
  obtain ⟨h1, hf⟩ := chk_some hf
  refine g_putI (j := 52) cok8 (by decide) rfl rfl (nb_n (isb_or h1)) (nb_f (isb_or h1)) (Or.inl tw4_227) oS38 B.2.1 wpI dX8_goesAlong_174 ?_
  refine g_aload_n rfl 0 rfl dX8_goesAlong_177 ?_
  refine g_dup rfl dX8_goesAlong_178 ?_
  refine g_get (j := 22) cok8 (by decide) (.int (sI (pI st 38 52 s1) 38 22)) (Or.inl tw4_197) oS38 (fun _ => rfl) dX8_goesAlong_179 ?_
  refine g_iconst (1 : Int32) (by decide) dX8_goesAlong_182 ?_
  refine g_iadd dX8_goesAlong_183 ?_
  refine g_putI (j := 22) cok8 (by decide) rfl rfl rfl rfl (Or.inl tw4_197) oS38 B.2.1 wpI dX8_goesAlong_184 ?_
  exact g_ret B.2.2.2 B.2.2.1 rfl (Option.some.inj hf).symm dX8_goesAlong_187
def fX8_goesAlong_b173  (st : St) : Option St :=
  fX8_goesAlong_b174 (0 : Int32) st
set_option maxHeartbeats 1000000 in
set_option maxRecDepth 20000 in
theorem wX8_goesAlong_b173 {E : Ev} {x : Cx} {u0 : St} (B : Bd E x none (206) 0 0 none u0)  (st : St)  (hf : fX8_goesAlong_b173 st = some u0) : G E WT x RX8 cX8_goesAlong 3 (0, 0) st 173 [(0, .ref (eB E + 38))] [.ref (eB E + 38)] := by
  unfold fX8_goesAlong_b173 at hf
  refine g_iconst (0 : Int32) (by decide) dX8_goesAlong_173 ?_
  refine g_lvs [0] rfl ?_
  exact wX8_goesAlong_b174 B  (0 : Int32) st hf
def fX8_goesAlong_b151 (s1 : Int32) (st : St) : Option St :=
  chk (isb s1) (if (sI (pI st 38 52 s1) 38 52) = 0 then (fX8_goesAlong_b173  (pI st 38 52 s1)) else (if (sI (pI st 38 52 s1) 38 24) = 0 then (fX8_goesAlong_b174 (1 : Int32) (pI st 38 52 s1)) else (fX8_goesAlong_b173  (pI st 38 52 s1))))
set_option maxHeartbeats 1000000 in
set_option maxRecDepth 20000 in
theorem wX8_goesAlong_b151 {E : Ev} {x : Cx} {u0 : St} (B : Bd E x none (206) 0 0 none u0) (s1 : Int32) (st : St)  (hf : fX8_goesAlong_b151 s1 st = some u0) : G E WT x RX8 cX8_goesAlong 3 (0, 0) st 151 [(0, .ref (eB E + 38))] [.int s1, .ref (eB E + 38)] := by
  unfold fX8_goesAlong_b151 at hf
  obtain ⟨h1, hf⟩ := chk_some hf
  refine g_putI (j := 52) cok8 (by decide) rfl rfl (nb_n (isb_or h1)) (nb_f (isb_or h1)) (Or.inl tw4_227) oS38 B.2.1 wpI dX8_goesAlong_151 ?_
  refine g_aload_n rfl 0 rfl dX8_goesAlong_154 ?_
  refine g_aload_n rfl 0 rfl dX8_goesAlong_155 ?_
  refine g_get (j := 52) cok8 (by decide) (.int (sI (pI st 38 52 s1) 38 52)) (Or.inl tw4_227) oS38 (fun _ => rfl) dX8_goesAlong_156 ?_
  refine g_if_eq 173 (by decide) dX8_goesAlong_159 (fun h2 => ?_) (fun h2 => ?_)
  · rw [if_pos h2] at hf
    refine g_lvs [0] rfl ?_
    exact wX8_goesAlong_b173 B  (pI st 38 52 s1) hf
  · rw [if_neg h2] at hf
    refine g_aload_n rfl 0 rfl dX8_goesAlong_162 ?_
    refine g_get (j := 24) cok8 (by decide) (.int (sI (pI st 38 52 s1) 38 24)) (Or.inl tw4_199) oS38 (fun _ => rfl) dX8_goesAlong_163 ?_
    refine g_if_ne 173 (by decide) dX8_goesAlong_166 (fun h3 => ?_) (fun h3 => ?_)
    · rw [if_neg h3] at hf
      refine g_lvs [0] rfl ?_
      exact wX8_goesAlong_b173 B  (pI st 38 52 s1) hf
    · rw [if_pos h3] at hf
      refine g_iconst (1 : Int32) (by decide) dX8_goesAlong_169 ?_
      refine g_goto 174 (by decide) dX8_goesAlong_170 ?_
      refine g_lvs [0] rfl ?_
      exact wX8_goesAlong_b174 B  (1 : Int32) (pI st 38 52 s1) hf
def fX8_goesAlong_b146  (st : St) : Option St :=
  fX8_goesAlong_b151 (1 : Int32) st
set_option maxHeartbeats 1000000 in
set_option maxRecDepth 20000 in
theorem wX8_goesAlong_b146 {E : Ev} {x : Cx} {u0 : St} (B : Bd E x none (206) 0 0 none u0)  (st : St)  (hf : fX8_goesAlong_b146 st = some u0) : G E WT x RX8 cX8_goesAlong 3 (0, 0) st 146 [(0, .ref (eB E + 38))] [.ref (eB E + 38)] := by
  unfold fX8_goesAlong_b146 at hf
  refine g_iconst (1 : Int32) (by decide) dX8_goesAlong_146 ?_
  refine g_goto 151 (by decide) dX8_goesAlong_147 ?_
  refine g_lvs [0] rfl ?_
  exact wX8_goesAlong_b151 B  (1 : Int32) st hf
def fX8_goesAlong_b124 (l2 : Int32) (st : St) : Option St :=
  (fX8_passes0 (5 : Int32) (pI st 38 24 (0 : Int32))).bind (fun q1 => if q1.1 = 0 then (fX8_goesAlong_b146  q1.2) else ((fX8_testOf l2 q1.2).bind (fun q4 => if q4.1 = 0 then (fX8_goesAlong_b151 (0 : Int32) q4.2) else (fX8_goesAlong_b146  q4.2))))
set_option maxHeartbeats 1000000 in
set_option maxRecDepth 20000 in
theorem wX8_goesAlong_b124 {E : Ev} {x : Cx} {u0 : St} (B : Bd E x none (206) 0 0 none u0) (l2 : Int32) (st : St)  (hf : fX8_goesAlong_b124 l2 st = some u0) : G E WT x RX8 cX8_goesAlong 3 (0, 0) st 124 [(0, .ref (eB E + 38)), (2, .int l2)] [] := by
  unfold fX8_goesAlong_b124 at hf
  refine g_aload_n rfl 0 rfl dX8_goesAlong_124 ?_
  refine g_iconst (0 : Int32) (by decide) dX8_goesAlong_125 ?_
  refine g_putI (j := 24) cok8 (by decide) rfl rfl (nb_n (by decide)) (nb_f (by decide)) (Or.inl tw4_199) oS38 B.2.1 wpI dX8_goesAlong_126 ?_
  refine g_aload_n rfl 0 rfl dX8_goesAlong_129 ?_
  refine g_aload_n rfl 0 rfl dX8_goesAlong_130 ?_
  refine g_iconst (5 : Int32) (by decide) dX8_goesAlong_131 ?_
  obtain ⟨q1, h2, hf⟩ := bnd_some hf
  refine g_callV0i (As := [.int (5 : Int32)]) (rest := [.ref (eB E + 38)]) cok8 mok_X8_passes0 tw6_96 tw6_98 ts7_6 oS38 B.1 (by decide) (kX8_passes0  h2) rfl rfl (Nat.le_of_ble_eq_true rfl) ⟨Nat.le_refl _, Nat.le_refl _⟩ dX8_goesAlong_132 ?_
  refine g_if_eq 146 (by decide) dX8_goesAlong_135 (fun h3 => ?_) (fun h3 => ?_)
  · rw [if_pos h3] at hf
    refine g_lvs [0] rfl ?_
    exact wX8_goesAlong_b146 B  q1.2 hf
  · rw [if_neg h3] at hf
    refine g_aload_n rfl 0 rfl dX8_goesAlong_138 ?_
    refine g_iload_n rfl 1 rfl dX8_goesAlong_139 ?_
    obtain ⟨q4, h5, hf⟩ := bnd_some hf
    refine g_callV0i (As := [.int l2]) (rest := [.ref (eB E + 38)]) cok8 mok_X8_testOf tw6_111 tw6_113 ts7_9 oS38 B.1 (by decide) (kX8_testOf  h5) rfl rfl (Nat.le_of_ble_eq_true rfl) ⟨Nat.le_refl _, Nat.le_refl _⟩ dX8_goesAlong_140 ?_
    refine g_if_eq 150 (by decide) dX8_goesAlong_143 (fun h6 => ?_) (fun h6 => ?_)
    · rw [if_pos h6] at hf
      refine g_iconst (0 : Int32) (by decide) dX8_goesAlong_150 ?_
      refine g_lvs [0] rfl ?_
      exact wX8_goesAlong_b151 B  (0 : Int32) q4.2 hf
    · rw [if_neg h6] at hf
      refine g_lvs [0] rfl ?_
      exact wX8_goesAlong_b146 B  q4.2 hf
def fX8_goesAlong_b80 (l2 : Int32) (s1 : Int32) (st : St) : Option St :=
  chk (isb s1) ((fX8_passes0 (24 : Int32) (pI (pI st 38 51 s1) 38 48 (1 : Int32))).bind (fun q2 => if q2.1 = 0 then (fX8_goesAlong_b124 l2 q2.2) else (chk (ixb ((2827 : Int32) + (sI q2.2 38 22)) 5627) (fX8_goesAlong_b124 l2 (pI (pI q2.2 38 48 (sI q2.2 40 (((2827 : Int32) + (sI q2.2 38 22)).toNatClampNeg))) 38 22 ((sI (pI q2.2 38 48 (sI q2.2 40 (((2827 : Int32) + (sI q2.2 38 22)).toNatClampNeg))) 38 22) + (1 : Int32)))))))
set_option maxHeartbeats 1000000 in
set_option maxRecDepth 20000 in
theorem wX8_goesAlong_b80 {E : Ev} {x : Cx} {u0 : St} (B : Bd E x none (206) 0 0 none u0) (l2 : Int32) (s1 : Int32) (st : St)  (hf : fX8_goesAlong_b80 l2 s1 st = some u0) : G E WT x RX8 cX8_goesAlong 3 (0, 0) st 80 [(0, .ref (eB E + 38)), (2, .int l2)] [.int s1, .ref (eB E + 38)] := by
  unfold fX8_goesAlong_b80 at hf
  obtain ⟨h1, hf⟩ := chk_some hf
  refine g_putI (j := 51) cok8 (by decide) rfl rfl (nb_n (isb_or h1)) (nb_f (isb_or h1)) (Or.inl tw4_226) oS38 B.2.1 wpI dX8_goesAlong_80 ?_
  refine g_aload_n rfl 0 rfl dX8_goesAlong_83 ?_
  refine g_iconst (1 : Int32) (by decide) dX8_goesAlong_84 ?_
  refine g_putI (j := 48) cok8 (by decide) rfl rfl rfl rfl (Or.inl tw4_223) oS38 B.2.1 wpI dX8_goesAlong_85 ?_
  refine g_aload_n rfl 0 rfl dX8_goesAlong_88 ?_
  refine g_bipush (24 : Int32) (by decide) dX8_goesAlong_89 ?_
  obtain ⟨q2, h3, hf⟩ := bnd_some hf
  refine g_callV0i (As := [.int (24 : Int32)]) (rest := []) cok8 mok_X8_passes0 tw6_96 tw6_98 ts7_6 oS38 B.1 (by decide) (kX8_passes0  h3) rfl rfl (Nat.le_of_ble_eq_true rfl) ⟨Nat.le_refl _, Nat.le_refl _⟩ dX8_goesAlong_91 ?_
  refine g_if_eq 124 (by decide) dX8_goesAlong_94 (fun h4 => ?_) (fun h4 => ?_)
  · rw [if_pos h4] at hf
    refine g_lvs [0, 1] rfl ?_
    exact wX8_goesAlong_b124 B  l2 q2.2 hf
  · rw [if_neg h4] at hf
    refine g_aload_n rfl 0 rfl dX8_goesAlong_97 ?_
    refine g_aload_n rfl 0 rfl dX8_goesAlong_98 ?_
    refine g_get (j := 2) cok8 (by decide) (.ref (eB E + 40)) (Or.inl tw4_177) oS38 vS38_2 dX8_goesAlong_99 ?_
    refine g_sipush (2827 : Int32) (by decide) dX8_goesAlong_102 ?_
    refine g_aload_n rfl 0 rfl dX8_goesAlong_105 ?_
    refine g_get (j := 22) cok8 (by decide) (.int (sI q2.2 38 22)) (Or.inl tw4_197) oS38 (fun _ => rfl) dX8_goesAlong_106 ?_
    refine g_iadd dX8_goesAlong_109 ?_
    obtain ⟨h5, hf⟩ := chk_some hf
    refine g_ialdj (((2827 : Int32) + (sI q2.2 38 22)).toNatClampNeg) rfl aS40 (ixb_in h5) dX8_goesAlong_110 ?_
    refine g_putI (j := 48) cok8 (by decide) rfl rfl rfl rfl (Or.inl tw4_223) oS38 B.2.1 wpI dX8_goesAlong_111 ?_
    refine g_aload_n rfl 0 rfl dX8_goesAlong_114 ?_
    refine g_dup rfl dX8_goesAlong_115 ?_
    refine g_get (j := 22) cok8 (by decide) (.int (sI (pI q2.2 38 48 (sI q2.2 40 (((2827 : Int32) + (sI q2.2 38 22)).toNatClampNeg))) 38 22)) (Or.inl tw4_197) oS38 (fun _ => rfl) dX8_goesAlong_116 ?_
    refine g_iconst (1 : Int32) (by decide) dX8_goesAlong_119 ?_
    refine g_iadd dX8_goesAlong_120 ?_
    refine g_putI (j := 22) cok8 (by decide) rfl rfl rfl rfl (Or.inl tw4_197) oS38 B.2.1 wpI dX8_goesAlong_121 ?_
    refine g_lvs [0, 1] rfl ?_
    exact wX8_goesAlong_b124 B  l2 (pI (pI q2.2 38 48 (sI q2.2 40 (((2827 : Int32) + (sI q2.2 38 22)).toNatClampNeg))) 38 22 ((sI (pI q2.2 38 48 (sI q2.2 40 (((2827 : Int32) + (sI q2.2 38 22)).toNatClampNeg))) 38 22) + (1 : Int32))) hf
def fX8_goesAlong_b64 (l2 : Int32) (s1 : Int64) (st : St) : Option St :=
  if (sI (pL st 38 53 s1) 38 24) = 0 then (fX8_goesAlong_b80 l2 (1 : Int32) (pL st 38 53 s1)) else (fX8_goesAlong_b80 l2 (0 : Int32) (pL st 38 53 s1))
set_option maxHeartbeats 1000000 in
set_option maxRecDepth 20000 in
theorem wX8_goesAlong_b64 {E : Ev} {x : Cx} {u0 : St} (B : Bd E x none (206) 0 0 none u0) (l2 : Int32) (s1 : Int64) (st : St)  (hf : fX8_goesAlong_b64 l2 s1 st = some u0) : G E WT x RX8 cX8_goesAlong 3 (0, 0) st 64 [(0, .ref (eB E + 38)), (2, .int l2)] [.long s1, .ref (eB E + 38)] := by
  unfold fX8_goesAlong_b64 at hf
  refine g_putL (j := 53) cok8 (by decide) rfl rfl rfl rfl (Or.inl tw4_228) oS38 B.2.1 wpL dX8_goesAlong_64 ?_
  refine g_aload_n rfl 0 rfl dX8_goesAlong_67 ?_
  refine g_aload_n rfl 0 rfl dX8_goesAlong_68 ?_
  refine g_get (j := 24) cok8 (by decide) (.int (sI (pL st 38 53 s1) 38 24)) (Or.inl tw4_199) oS38 (fun _ => rfl) dX8_goesAlong_69 ?_
  refine g_if_ne 79 (by decide) dX8_goesAlong_72 (fun h1 => ?_) (fun h1 => ?_)
  · rw [if_neg h1] at hf
    refine g_iconst (0 : Int32) (by decide) dX8_goesAlong_79 ?_
    refine g_lvs [0, 1] rfl ?_
    exact wX8_goesAlong_b80 B  l2 (0 : Int32) (pL st 38 53 s1) hf
  · rw [if_pos h1] at hf
    refine g_iconst (1 : Int32) (by decide) dX8_goesAlong_75 ?_
    refine g_goto 80 (by decide) dX8_goesAlong_76 ?_
    refine g_lvs [0, 1] rfl ?_
    exact wX8_goesAlong_b80 B  l2 (1 : Int32) (pL st 38 53 s1) hf
def fX8_goesAlong (p1 : Int32) (p2 : Int32) (st : St) : Option St :=
  (fX8_codeAt (pI (pI (pI st 38 25 (1 : Int32)) 38 23 p1) 38 22 (sI (pI (pI st 38 25 (1 : Int32)) 38 23 p1) 38 47)) (sI (pI (pI (pI st 38 25 (1 : Int32)) 38 23 p1) 38 22 (sI (pI (pI st 38 25 (1 : Int32)) 38 23 p1) 38 47)) 38 22)).bind (fun q1 => if (sI (pI (pI (pI (pI (pI (pI st 38 25 (1 : Int32)) 38 23 p1) 38 22 (sI (pI (pI st 38 25 (1 : Int32)) 38 23 p1) 38 47)) 38 49 q1) 38 22 ((sI (pI (pI (pI (pI st 38 25 (1 : Int32)) 38 23 p1) 38 22 (sI (pI (pI st 38 25 (1 : Int32)) 38 23 p1) 38 47)) 38 49 q1) 38 22) + (1 : Int32))) 38 24 (0 : Int32)) 38 49) = (23 : Int32) then (fX8_goesAlong_b64 p2 (0 : Int64) (pI (pI (pI (pI (pI (pI st 38 25 (1 : Int32)) 38 23 p1) 38 22 (sI (pI (pI st 38 25 (1 : Int32)) 38 23 p1) 38 47)) 38 49 q1) 38 22 ((sI (pI (pI (pI (pI st 38 25 (1 : Int32)) 38 23 p1) 38 22 (sI (pI (pI st 38 25 (1 : Int32)) 38 23 p1) 38 47)) 38 49 q1) 38 22) + (1 : Int32))) 38 24 (0 : Int32))) else ((fX8_sumOf p2 (pI (pI (pI (pI (pI (pI st 38 25 (1 : Int32)) 38 23 p1) 38 22 (sI (pI (pI st 38 25 (1 : Int32)) 38 23 p1) 38 47)) 38 49 q1) 38 22 ((sI (pI (pI (pI (pI st 38 25 (1 : Int32)) 38 23 p1) 38 22 (sI (pI (pI st 38 25 (1 : Int32)) 38 23 p1) 38 47)) 38 49 q1) 38 22) + (1 : Int32))) 38 24 (0 : Int32))).bind (fun q4 => fX8_goesAlong_b64 p2 q4.1 q4.2)))
set_option maxHeartbeats 1000000 in
set_option maxRecDepth 20000 in
theorem wX8_goesAlong {E : Ev} {x : Cx} {u0 : St} (B : Bd E x none (206) 0 0 none u0) (p1 : Int32) (p2 : Int32) (st : St)  (hf : fX8_goesAlong p1 p2 st = some u0) : G E WT x RX8 cX8_goesAlong 3 (0, 0) st 0 [(0, .ref (eB E + 38)), (1, .int p1), (2, .int p2)] [] := by
  unfold fX8_goesAlong at hf
  refine g_aload_n rfl 0 rfl dX8_goesAlong_0 ?_
  refine g_iconst (1 : Int32) (by decide) dX8_goesAlong_1 ?_
  refine g_putI (j := 25) cok8 (by decide) rfl rfl (nb_n (by decide)) (nb_f (by decide)) (Or.inl tw4_200) oS38 B.2.1 wpI dX8_goesAlong_2 ?_
  refine g_aload_n rfl 0 rfl dX8_goesAlong_5 ?_
  refine g_iload_n rfl 1 rfl dX8_goesAlong_6 ?_
  refine g_putI (j := 23) cok8 (by decide) rfl rfl rfl rfl (Or.inl tw4_198) oS38 B.2.1 wpI dX8_goesAlong_7 ?_
  refine g_aload_n rfl 0 rfl dX8_goesAlong_10 ?_
  refine g_aload_n rfl 0 rfl dX8_goesAlong_11 ?_
  refine g_get (j := 47) cok8 (by decide) (.int (sI (pI (pI st 38 25 (1 : Int32)) 38 23 p1) 38 47)) (Or.inl tw4_222) oS38 (fun _ => rfl) dX8_goesAlong_12 ?_
  refine g_putI (j := 22) cok8 (by decide) rfl rfl rfl rfl (Or.inl tw4_197) oS38 B.2.1 wpI dX8_goesAlong_15 ?_
  refine g_aload_n rfl 0 rfl dX8_goesAlong_18 ?_
  refine g_aload_n rfl 0 rfl dX8_goesAlong_19 ?_
  refine g_aload_n rfl 0 rfl dX8_goesAlong_20 ?_
  refine g_get (j := 22) cok8 (by decide) (.int (sI (pI (pI (pI st 38 25 (1 : Int32)) 38 23 p1) 38 22 (sI (pI (pI st 38 25 (1 : Int32)) 38 23 p1) 38 47)) 38 22)) (Or.inl tw4_197) oS38 (fun _ => rfl) dX8_goesAlong_21 ?_
  obtain ⟨q1, h2, hf⟩ := bnd_some hf
  refine g_callV0i (As := [.int (sI (pI (pI (pI st 38 25 (1 : Int32)) 38 23 p1) 38 22 (sI (pI (pI st 38 25 (1 : Int32)) 38 23 p1) 38 47)) 38 22)]) (rest := [.ref (eB E + 38)]) cok8 mok_X8_codeAt tw6_80 tw6_82 ts7_2 oS38 B.1 (by decide) (kX8_codeAt  h2) rfl rfl (Nat.le_of_ble_eq_true rfl) ⟨Nat.le_refl _, Nat.le_refl _⟩ dX8_goesAlong_24 ?_
  refine g_putI (j := 49) cok8 (by decide) rfl rfl rfl rfl (Or.inl tw4_224) oS38 B.2.1 wpI dX8_goesAlong_27 ?_
  refine g_aload_n rfl 0 rfl dX8_goesAlong_30 ?_
  refine g_dup rfl dX8_goesAlong_31 ?_
  refine g_get (j := 22) cok8 (by decide) (.int (sI (pI (pI (pI (pI st 38 25 (1 : Int32)) 38 23 p1) 38 22 (sI (pI (pI st 38 25 (1 : Int32)) 38 23 p1) 38 47)) 38 49 q1) 38 22)) (Or.inl tw4_197) oS38 (fun _ => rfl) dX8_goesAlong_32 ?_
  refine g_iconst (1 : Int32) (by decide) dX8_goesAlong_35 ?_
  refine g_iadd dX8_goesAlong_36 ?_
  refine g_putI (j := 22) cok8 (by decide) rfl rfl rfl rfl (Or.inl tw4_197) oS38 B.2.1 wpI dX8_goesAlong_37 ?_
  refine g_aload_n rfl 0 rfl dX8_goesAlong_40 ?_
  refine g_iconst (0 : Int32) (by decide) dX8_goesAlong_41 ?_
  refine g_putI (j := 24) cok8 (by decide) rfl rfl (nb_n (by decide)) (nb_f (by decide)) (Or.inl tw4_199) oS38 B.2.1 wpI dX8_goesAlong_42 ?_
  refine g_aload_n rfl 0 rfl dX8_goesAlong_45 ?_
  refine g_aload_n rfl 0 rfl dX8_goesAlong_46 ?_
  refine g_get (j := 49) cok8 (by decide) (.int (sI (pI (pI (pI (pI (pI (pI st 38 25 (1 : Int32)) 38 23 p1) 38 22 (sI (pI (pI st 38 25 (1 : Int32)) 38 23 p1) 38 47)) 38 49 q1) 38 22 ((sI (pI (pI (pI (pI st 38 25 (1 : Int32)) 38 23 p1) 38 22 (sI (pI (pI st 38 25 (1 : Int32)) 38 23 p1) 38 47)) 38 49 q1) 38 22) + (1 : Int32))) 38 24 (0 : Int32)) 38 49)) (Or.inl tw4_224) oS38 (fun _ => rfl) dX8_goesAlong_47 ?_
  refine g_bipush (23 : Int32) (by decide) dX8_goesAlong_50 ?_
  refine g_icmp_ne 59 (by decide) dX8_goesAlong_52 (fun h3 => ?_) (fun h3 => ?_)
  · rw [if_neg h3] at hf
    refine g_aload_n rfl 0 rfl dX8_goesAlong_59 ?_
    refine g_iload_n rfl 2 rfl dX8_goesAlong_60 ?_
    obtain ⟨q4, h5, hf⟩ := bnd_some hf
    refine g_callV0l (As := [.int p2]) (rest := [.ref (eB E + 38)]) cok8 mok_X8_sumOf tw6_84 tw6_86 ts7_3 oS38 B.1 (by decide) (kX8_sumOf  h5) rfl rfl (Nat.le_of_ble_eq_true rfl) ⟨Nat.le_refl _, Nat.le_refl _⟩ dX8_goesAlong_61 ?_
    refine g_lvs [0, 2] rfl ?_
    exact wX8_goesAlong_b64 B  p2 q4.1 q4.2 hf
  · rw [if_pos h3] at hf
    refine g_lconst (0 : Int64) (by decide) dX8_goesAlong_55 ?_
    refine g_goto 64 (by decide) dX8_goesAlong_56 ?_
    refine g_lvs [0, 2] rfl ?_
    exact wX8_goesAlong_b64 B  p2 (0 : Int64) (pI (pI (pI (pI (pI (pI st 38 25 (1 : Int32)) 38 23 p1) 38 22 (sI (pI (pI st 38 25 (1 : Int32)) 38 23 p1) 38 47)) 38 49 q1) 38 22 ((sI (pI (pI (pI (pI st 38 25 (1 : Int32)) 38 23 p1) 38 22 (sI (pI (pI st 38 25 (1 : Int32)) 38 23 p1) 38 47)) 38 49 q1) 38 22) + (1 : Int32))) 38 24 (0 : Int32)) hf
theorem kX8_goesAlong {l : Launch} {E : Ev} {st : St} {p1 : Int32} {p2 : Int32} {u0 : St}  (hf : fX8_goesAlong p1 p2 st = some u0) : CM l E WT yX8_goesAlong cX8_goesAlong 3 none 206 0 0 [.ref (eB E + 38), .int p1, .int p2] st none u0 :=
  CM.intro mok_X8_goesAlong (Nat.le_of_ble_eq_true rfl) (fun x hl hR ht hr hQ _ => wX8_goesAlong ⟨hR, ht, hr, hQ⟩ p1 p2 st hf)
def fX8_small (p0 : Int64) : Int32 :=
  if (lg_cmp p0 (0 : Int64)) < 0 then ((-1 : Int32)) else (if (lg_cmp p0 (1000000 : Int64)) ≤ 0 then (p0.toInt32) else ((-1 : Int32)))
set_option maxHeartbeats 1000000 in
set_option maxRecDepth 20000 in
theorem wX8_small {E : Ev} {x : Cx} {r0 : Int32} {st : St} (B : Bd E x (some FieldType.int) (0) 0 0 (some (.int r0)) st) (p0 : Int64)  (hf : fX8_small p0 = r0) : G E WT x RX8 cX8_small 2 (0, 0) st 0 [(0, .long p0)] [] := by
  unfold fX8_small at hf
  refine g_lload_n rfl 0 rfl dX8_small_0 ?_
  refine g_lconst (0 : Int64) (by decide) dX8_small_1 ?_
  refine g_lcmp dX8_small_2 ?_
  refine g_if_lt 14 (by decide) dX8_small_3 (fun h1 => ?_) (fun h1 => ?_)
  · rw [if_pos h1] at hf
    refine g_iconst (-1 : Int32) (by decide) dX8_small_14 ?_
    refine g_goto 20 (by decide) dX8_small_15 ?_
    exact g_iret B.2.2.2 B.2.2.1 (congrArg (fun z => some (Value.int z)) hf.symm) rfl dX8_small_20
  · rw [if_neg h1] at hf
    refine g_lload_n rfl 0 rfl dX8_small_6 ?_
    refine g_ldc2 tw7_125 dX8_small_7 ?_
    refine g_lcmp dX8_small_10 ?_
    refine g_if_le 18 (by decide) dX8_small_11 (fun h2 => ?_) (fun h2 => ?_)
    · rw [if_pos h2] at hf
      refine g_lload_n rfl 0 rfl dX8_small_18 ?_
      refine g_l2i dX8_small_19 ?_
      exact g_iret B.2.2.2 B.2.2.1 (congrArg (fun z => some (Value.int z)) hf.symm) rfl dX8_small_20
    · rw [if_neg h2] at hf
      refine g_iconst (-1 : Int32) (by decide) dX8_small_14 ?_
      refine g_goto 20 (by decide) dX8_small_15 ?_
      exact g_iret B.2.2.2 B.2.2.1 (congrArg (fun z => some (Value.int z)) hf.symm) rfl dX8_small_20
theorem kX8_small {l : Launch} {E : Ev} {st : St} {p0 : Int64} {r0 : Int32}  (hf : fX8_small p0 = r0) : CM l E WT yX8_small cX8_small 2 (some FieldType.int) 0 0 0 [.long p0] st (some (.int r0)) st :=
  CM.intro mok_X8_small (Nat.le_of_ble_eq_true rfl) (fun x hl hR ht hr hQ _ => wX8_small ⟨hR, ht, hr, hQ⟩ p0 hf)
def fX8_obeys  (st : St) : Option (Int32 × St) :=
  if sI st 38 49 = (21 : Int32) then (fX8_joinsKept (fX8_small (sL st 38 53)) st) else (if sI st 38 49 = (22 : Int32) then (fX8_leavesKept (fX8_small (sL st 38 53)) st) else (if sI st 38 49 = (23 : Int32) then (fX8_passesKept st) else ((fX8_saysKept (fX8_small (sL st 38 53)) st).bind (fun q4 => if 0 ≤ q4.1 then (some (q4.1, pI q4.2 38 28 q4.1)) else (some (q4.1, pI q4.2 38 28 (sI q4.2 38 28)))))))
set_option maxHeartbeats 1000000 in
set_option maxRecDepth 20000 in
theorem wX8_obeys {E : Ev} {x : Cx} {r0 : Int32} {u0 : St} (B : Bd E x (some FieldType.int) (212) 0 0 (some (.int r0)) u0)  (st : St)  (hf : fX8_obeys st = some (r0, u0)) : G E WT x RX8 cX8_obeys 2 (0, 0) st 0 [(0, .ref (eB E + 38))] [] := by
  unfold fX8_obeys at hf
  refine g_aload_n rfl 0 rfl dX8_obeys_0 ?_
  refine g_get (j := 49) cok8 (by decide) (.int (sI st 38 49)) (Or.inl tw4_224) oS38 (fun _ => rfl) dX8_obeys_1 ?_
  by_cases h1 : sI st 38 49 = (21 : Int32)
  · rw [if_pos h1] at hf
    refine g_tableIn 28 32 dX8_obeys_4 (by rw [h1]; decide) (by rw [h1]; decide) (by rw [h1]; decide) (by decide) ?_
    refine g_aload_n rfl 0 rfl dX8_obeys_32 ?_
    refine g_aload_n rfl 0 rfl dX8_obeys_33 ?_
    refine g_get (j := 53) cok8 (by decide) (.long (sL st 38 53)) (Or.inl tw4_228) oS38 (fun _ => rfl) dX8_obeys_34 ?_
    refine g_callS0i (As := [.long (sL st 38 53)]) (rest := [.ref (eB E + 38)]) mok_X8_small tw7_122 tw7_123 B.1 (by decide) (kX8_small  rfl) rfl rfl (Nat.le_of_ble_eq_true rfl) ⟨Nat.le_refl _, Nat.le_refl _⟩ dX8_obeys_37 ?_
    refine g_callV0i (As := [.int (fX8_small (sL st 38 53))]) (rest := []) cok8 mok_X8_joinsKept tw6_194 tw6_196 ts8_8 oS38 B.1 (by decide) (kX8_joinsKept  hf) rfl rfl (Nat.le_of_ble_eq_true rfl) ⟨Nat.le_refl _, Nat.le_refl _⟩ dX8_obeys_40 ?_
    exact g_iret B.2.2.2 B.2.2.1 rfl rfl dX8_obeys_43
  · rw [if_neg h1] at hf
    by_cases h2 : sI st 38 49 = (22 : Int32)
    · rw [if_pos h2] at hf
      refine g_tableIn 40 44 dX8_obeys_4 (by rw [h2]; decide) (by rw [h2]; decide) (by rw [h2]; decide) (by decide) ?_
      refine g_aload_n rfl 0 rfl dX8_obeys_44 ?_
      refine g_aload_n rfl 0 rfl dX8_obeys_45 ?_
      refine g_get (j := 53) cok8 (by decide) (.long (sL st 38 53)) (Or.inl tw4_228) oS38 (fun _ => rfl) dX8_obeys_46 ?_
      refine g_callS0i (As := [.long (sL st 38 53)]) (rest := [.ref (eB E + 38)]) mok_X8_small tw7_122 tw7_123 B.1 (by decide) (kX8_small  rfl) rfl rfl (Nat.le_of_ble_eq_true rfl) ⟨Nat.le_refl _, Nat.le_refl _⟩ dX8_obeys_49 ?_
      refine g_callV0i (As := [.int (fX8_small (sL st 38 53))]) (rest := []) cok8 mok_X8_leavesKept tw6_202 tw6_204 ts8_9 oS38 B.1 (by decide) (kX8_leavesKept  hf) rfl rfl (Nat.le_of_ble_eq_true rfl) ⟨Nat.le_refl _, Nat.le_refl _⟩ dX8_obeys_52 ?_
      exact g_iret B.2.2.2 B.2.2.1 rfl rfl dX8_obeys_55
    · rw [if_neg h2] at hf
      by_cases h3 : sI st 38 49 = (23 : Int32)
      · rw [if_pos h3] at hf
        refine g_tableIn 52 56 dX8_obeys_4 (by rw [h3]; decide) (by rw [h3]; decide) (by rw [h3]; decide) (by decide) ?_
        refine g_aload_n rfl 0 rfl dX8_obeys_56 ?_
        refine g_callV0i (As := []) (rest := []) cok8 mok_X8_passesKept tw6_210 tw6_212 ts8_10 oS38 B.1 (by decide) (kX8_passesKept  hf) rfl rfl (Nat.le_of_ble_eq_true rfl) ⟨Nat.le_refl _, Nat.le_refl _⟩ dX8_obeys_57 ?_
        exact g_iret B.2.2.2 B.2.2.1 rfl rfl dX8_obeys_60
      · rw [if_neg h3] at hf
        refine g_tableOut 61 dX8_obeys_4 (tab_out [(21 : Int32), (22 : Int32), (23 : Int32)] 3 (by decide) (by simp only [List.forall_mem_cons]; exact ⟨h1, h2, h3, fun _ h => nomatch h⟩) (by decide)) (by decide) ?_
        refine g_aload_n rfl 0 rfl dX8_obeys_61 ?_
        refine g_aload_n rfl 0 rfl dX8_obeys_62 ?_
        refine g_get (j := 53) cok8 (by decide) (.long (sL st 38 53)) (Or.inl tw4_228) oS38 (fun _ => rfl) dX8_obeys_63 ?_
        refine g_callS0i (As := [.long (sL st 38 53)]) (rest := [.ref (eB E + 38)]) mok_X8_small tw7_122 tw7_123 B.1 (by decide) (kX8_small  rfl) rfl rfl (Nat.le_of_ble_eq_true rfl) ⟨Nat.le_refl _, Nat.le_refl _⟩ dX8_obeys_66 ?_
        obtain ⟨q4, h5, hf⟩ := bnd_some hf
        refine g_callV0i (As := [.int (fX8_small (sL st 38 53))]) (rest := []) cok8 mok_X8_saysKept tw6_170 tw6_172 ts8_3 oS38 B.1 (by decide) (kX8_saysKept  h5) rfl rfl (Nat.le_of_ble_eq_true rfl) ⟨Nat.le_refl _, Nat.le_refl _⟩ dX8_obeys_69 ?_
        refine g_istore_n rfl [(1, .int q4.1), (0, .ref (eB E + 38))] (by decide) rfl dX8_obeys_72 ?_
        refine g_aload_n rfl 1 rfl dX8_obeys_73 ?_
        refine g_iload_n rfl 0 rfl dX8_obeys_74 ?_
        refine g_if_ge 85 (by decide) dX8_obeys_75 (fun h6 => ?_) (fun h6 => ?_)
        · rw [if_pos h6] at hf
          refine g_iload_n rfl 0 rfl dX8_obeys_85 ?_
          refine g_putI (j := 28) cok8 (by decide) rfl rfl rfl rfl (Or.inl tw4_203) oS38 B.2.1 wpI dX8_obeys_86 ?_
          refine g_iload_n rfl 0 rfl dX8_obeys_89 ?_
          exact g_iret B.2.2.2 B.2.2.1 (congrArg (fun z => some (Value.int z)) (Prod.mk.inj (Option.some.inj hf)).1.symm) (Prod.mk.inj (Option.some.inj hf)).2.symm dX8_obeys_90
        · rw [if_neg h6] at hf
          refine g_aload_n rfl 1 rfl dX8_obeys_78 ?_
          refine g_get (j := 28) cok8 (by decide) (.int (sI q4.2 38 28)) (Or.inl tw4_203) oS38 (fun _ => rfl) dX8_obeys_79 ?_
          refine g_goto 86 (by decide) dX8_obeys_82 ?_
          refine g_putI (j := 28) cok8 (by decide) rfl rfl rfl rfl (Or.inl tw4_203) oS38 B.2.1 wpI dX8_obeys_86 ?_
          refine g_iload_n rfl 0 rfl dX8_obeys_89 ?_
          exact g_iret B.2.2.2 B.2.2.1 (congrArg (fun z => some (Value.int z)) (Prod.mk.inj (Option.some.inj hf)).1.symm) (Prod.mk.inj (Option.some.inj hf)).2.symm dX8_obeys_90
theorem kX8_obeys {l : Launch} {E : Ev} {st : St}  {r0 : Int32} {u0 : St}  (hf : fX8_obeys st = some (r0, u0)) : CM l E WT yX8_obeys cX8_obeys 2 (some FieldType.int) 212 0 0 [.ref (eB E + 38)] st (some (.int r0)) u0 :=
  CM.intro mok_X8_obeys (Nat.le_of_ble_eq_true rfl) (fun x hl hR ht hr hQ _ => wX8_obeys ⟨hR, ht, hr, hQ⟩ st hf)
def fX8_runs_b67 (k19 : Int32 → Int32 → Int32 → Int32 → St → Option (Int32 × St))(l1 : Int32) (l2 : Int32) (l3 : Int32) (l4 : Int32) (st : St) : Option (Int32 × St) :=
  k19 l1 l2 l3 (l4 + (1 : Int32)) st
set_option maxHeartbeats 1000000 in
set_option maxRecDepth 20000 in
theorem wX8_runs_b67 {E : Ev} {x : Cx} {r0 : Int32} {u0 : St} (B : Bd E x (some FieldType.boolean) (213) 0 0 (some (.int r0)) u0) {k19 : Int32 → Int32 → Int32 → Int32 → St → Option (Int32 × St)} (hk19 : ∀ (l1 : Int32) (l2 : Int32) (l3 : Int32) (l4 : Int32) (st : St), k19 l1 l2 l3 l4 st = some (r0, u0) → G E WT x RX8 cX8_runs 5 (0, 0) st 19 [(0, .ref (eB E + 38)), (1, .int l1), (2, .int l2), (3, .int l3), (4, .int l4)] []) (l1 : Int32) (l2 : Int32) (l3 : Int32) (l4 : Int32) (st : St)  (hf : fX8_runs_b67 k19 l1 l2 l3 l4 st = some (r0, u0)) : G E WT x RX8 cX8_runs 5 (0, 0) st 67 [(0, .ref (eB E + 38)), (1, .int l1), (2, .int l2), (3, .int l3), (4, .int l4)] [] := by
  unfold fX8_runs_b67 at hf
  refine g_iinc (l4 + (1 : Int32)) [(4, .int (l4 + (1 : Int32))), (0, .ref (eB E + 38)), (1, .int l1), (2, .int l2), (3, .int l3)] 4 rfl (congrArg (fun z => l4 + z) (show Int32.ofInt (1) = (1 : Int32) by decide)) (by decide) rfl dX8_runs_67 ?_
  refine g_goto 19 (by decide) dX8_runs_70 ?_
  refine g_lvs [1, 2, 3, 4, 0] rfl ?_
  exact hk19 l1 l2 l3 (l4 + (1 : Int32)) st hf
def fX8_runs_b19 : Nat → Int32 → Int32 → Int32 → Int32 → St → Option (Int32 × St)
  | 0, _, _, _, _, _ => none
  | n + 1, l1, l2, l3, l4, st => if l2 ≤ l4 then (some ((1 : Int32), pI st 38 47 l3)) else ((fX8_goesAlong l1 (1 : Int32) st).bind (fun q2 => if (sI q2 38 52) = 0 then (fX8_runs_b67 (fun zl1 zl2 zl3 zl4 zst => fX8_runs_b19 n zl1 zl2 zl3 zl4 zst) l1 l2 l3 l4 q2) else (if (sI q2 38 51) = 0 then (some ((0 : Int32), q2)) else ((fX8_obeys q2).bind (fun q6 => if 0 ≤ q6.1 then (fX8_runs_b67 (fun zl1 zl2 zl3 zl4 zst => fX8_runs_b19 n zl1 zl2 zl3 zl4 zst) l1 l2 l3 l4 (pI q6.2 38 27 ((sI q6.2 38 27) + (1 : Int32)))) else (some ((0 : Int32), q6.2)))))))
set_option maxHeartbeats 1000000 in
set_option maxRecDepth 20000 in
theorem wX8_runs_b19 {E : Ev} {x : Cx} {r0 : Int32} {u0 : St} (B : Bd E x (some FieldType.boolean) (213) 0 0 (some (.int r0)) u0) : ∀ (n : Nat) (l1 : Int32) (l2 : Int32) (l3 : Int32) (l4 : Int32) (st : St) , fX8_runs_b19 n l1 l2 l3 l4 st = some (r0, u0) → G E WT x RX8 cX8_runs 5 (0, 0) st 19 [(0, .ref (eB E + 38)), (1, .int l1), (2, .int l2), (3, .int l3), (4, .int l4)] [] := by
  intro n
  induction n with
  | zero =>
    intros
    rename_i hf
    rw [fX8_runs_b19] at hf
    cases hf
  | succ n ih =>
    intro l1 l2 l3 l4 st hf
    rw [fX8_runs_b19] at hf
    refine g_iload 4 rfl dX8_runs_19 ?_
    refine g_iload_n rfl 2 rfl dX8_runs_21 ?_
    refine g_icmp_ge 73 (by decide) dX8_runs_22 (fun h1 => ?_) (fun h1 => ?_)
    · rw [if_pos h1] at hf
      refine g_aload_n rfl 0 rfl dX8_runs_73 ?_
      refine g_iload_n rfl 3 rfl dX8_runs_74 ?_
      refine g_putI (j := 47) cok8 (by decide) rfl rfl rfl rfl (Or.inl tw4_222) oS38 B.2.1 wpI dX8_runs_75 ?_
      refine g_iconst (1 : Int32) (by decide) dX8_runs_78 ?_
      exact g_zret B.2.2.2 B.2.2.1 (by decide) (congrArg (fun z => some (Value.int z)) (Prod.mk.inj (Option.some.inj hf)).1.symm) (Prod.mk.inj (Option.some.inj hf)).2.symm dX8_runs_79
    · rw [if_neg h1] at hf
      refine g_aload_n rfl 0 rfl dX8_runs_25 ?_
      refine g_iload_n rfl 1 rfl dX8_runs_26 ?_
      refine g_iconst (1 : Int32) (by decide) dX8_runs_27 ?_
      obtain ⟨q2, h3, hf⟩ := bnd_some hf
      refine g_callV0v (As := [.int l1, .int (1 : Int32)]) (rest := []) cok8 mok_X8_goesAlong tw7_114 tw7_116 ts10_3 oS38 B.1 (by decide) (kX8_goesAlong  h3) rfl rfl (Nat.le_of_ble_eq_true rfl) ⟨Nat.le_refl _, Nat.le_refl _⟩ dX8_runs_28 ?_
      refine g_aload_n rfl 0 rfl dX8_runs_31 ?_
      refine g_get (j := 52) cok8 (by decide) (.int (sI q2 38 52)) (Or.inl tw4_227) oS38 (fun _ => rfl) dX8_runs_32 ?_
      refine g_if_ne 41 (by decide) dX8_runs_35 (fun h4 => ?_) (fun h4 => ?_)
      · rw [if_neg h4] at hf
        refine g_aload_n rfl 0 rfl dX8_runs_41 ?_
        refine g_get (j := 51) cok8 (by decide) (.int (sI q2 38 51)) (Or.inl tw4_226) oS38 (fun _ => rfl) dX8_runs_42 ?_
        refine g_if_eq 55 (by decide) dX8_runs_45 (fun h5 => ?_) (fun h5 => ?_)
        · rw [if_pos h5] at hf
          refine g_iconst (0 : Int32) (by decide) dX8_runs_55 ?_
          exact g_zret B.2.2.2 B.2.2.1 (by decide) (congrArg (fun z => some (Value.int z)) (Prod.mk.inj (Option.some.inj hf)).1.symm) (Prod.mk.inj (Option.some.inj hf)).2.symm dX8_runs_56
        · rw [if_neg h5] at hf
          refine g_aload_n rfl 0 rfl dX8_runs_48 ?_
          obtain ⟨q6, h7, hf⟩ := bnd_some hf
          refine g_callV0i (As := []) (rest := []) cok8 mok_X8_obeys tw7_118 tw7_120 ts10_4 oS38 B.1 (by decide) (kX8_obeys  h7) rfl rfl (Nat.le_of_ble_eq_true rfl) ⟨Nat.le_refl _, Nat.le_refl _⟩ dX8_runs_49 ?_
          refine g_if_ge 57 (by decide) dX8_runs_52 (fun h8 => ?_) (fun h8 => ?_)
          · rw [if_pos h8] at hf
            refine g_aload_n rfl 0 rfl dX8_runs_57 ?_
            refine g_dup rfl dX8_runs_58 ?_
            refine g_get (j := 27) cok8 (by decide) (.int (sI q6.2 38 27)) (Or.inl tw4_202) oS38 (fun _ => rfl) dX8_runs_59 ?_
            refine g_iconst (1 : Int32) (by decide) dX8_runs_62 ?_
            refine g_iadd dX8_runs_63 ?_
            refine g_putI (j := 27) cok8 (by decide) rfl rfl rfl rfl (Or.inl tw4_202) oS38 B.2.1 wpI dX8_runs_64 ?_
            refine g_lvs [0, 1, 2, 3, 4] rfl ?_
            exact wX8_runs_b67 B ih l1 l2 l3 l4 (pI q6.2 38 27 ((sI q6.2 38 27) + (1 : Int32))) hf
          · rw [if_neg h8] at hf
            refine g_iconst (0 : Int32) (by decide) dX8_runs_55 ?_
            exact g_zret B.2.2.2 B.2.2.1 (by decide) (congrArg (fun z => some (Value.int z)) (Prod.mk.inj (Option.some.inj hf)).1.symm) (Prod.mk.inj (Option.some.inj hf)).2.symm dX8_runs_56
      · rw [if_pos h4] at hf
        refine g_goto 67 (by decide) dX8_runs_38 ?_
        refine g_lvs [0, 1, 2, 3, 4] rfl ?_
        exact wX8_runs_b67 B ih l1 l2 l3 l4 q2 hf
def fX8_runs (p1 : Int32) (st : St) : Option (Int32 × St) :=
  (fX8_goesAlong p1 (0 : Int32) st).bind (fun q1 => fX8_runs_b19 FU p1 (sI q1 38 48) (sI q1 38 22) (0 : Int32) q1)
set_option maxHeartbeats 1000000 in
set_option maxRecDepth 20000 in
theorem wX8_runs {E : Ev} {x : Cx} {r0 : Int32} {u0 : St} (B : Bd E x (some FieldType.boolean) (213) 0 0 (some (.int r0)) u0) (p1 : Int32) (st : St)  (hf : fX8_runs p1 st = some (r0, u0)) : G E WT x RX8 cX8_runs 5 (0, 0) st 0 [(0, .ref (eB E + 38)), (1, .int p1)] [] := by
  unfold fX8_runs at hf
  refine g_aload_n rfl 0 rfl dX8_runs_0 ?_
  refine g_iload_n rfl 1 rfl dX8_runs_1 ?_
  refine g_iconst (0 : Int32) (by decide) dX8_runs_2 ?_
  obtain ⟨q1, h2, hf⟩ := bnd_some hf
  refine g_callV0v (As := [.int p1, .int (0 : Int32)]) (rest := []) cok8 mok_X8_goesAlong tw7_114 tw7_116 ts10_3 oS38 B.1 (by decide) (kX8_goesAlong  h2) rfl rfl (Nat.le_of_ble_eq_true rfl) ⟨Nat.le_refl _, Nat.le_refl _⟩ dX8_runs_3 ?_
  refine g_aload_n rfl 0 rfl dX8_runs_6 ?_
  refine g_get (j := 48) cok8 (by decide) (.int (sI q1 38 48)) (Or.inl tw4_223) oS38 (fun _ => rfl) dX8_runs_7 ?_
  refine g_istore_n rfl [(2, .int (sI q1 38 48)), (0, .ref (eB E + 38)), (1, .int p1)] (by decide) rfl dX8_runs_10 ?_
  refine g_aload_n rfl 1 rfl dX8_runs_11 ?_
  refine g_get (j := 22) cok8 (by decide) (.int (sI q1 38 22)) (Or.inl tw4_197) oS38 (fun _ => rfl) dX8_runs_12 ?_
  refine g_istore_n rfl [(3, .int (sI q1 38 22)), (2, .int (sI q1 38 48)), (0, .ref (eB E + 38)), (1, .int p1)] (by decide) rfl dX8_runs_15 ?_
  refine g_iconst (0 : Int32) (by decide) dX8_runs_16 ?_
  refine g_istore [(4, .int (0 : Int32)), (3, .int (sI q1 38 22)), (2, .int (sI q1 38 48)), (0, .ref (eB E + 38)), (1, .int p1)] (by decide) rfl dX8_runs_17 ?_
  refine g_lvs [3, 4, 2, 1, 0] rfl ?_
  exact wX8_runs_b19 B  FU p1 (sI q1 38 48) (sI q1 38 22) (0 : Int32) q1 hf
theorem kX8_runs {l : Launch} {E : Ev} {st : St} {p1 : Int32} {r0 : Int32} {u0 : St}  (hf : fX8_runs p1 st = some (r0, u0)) : CM l E WT yX8_runs cX8_runs 5 (some FieldType.boolean) 213 0 0 [.ref (eB E + 38), .int p1] st (some (.int r0)) u0 :=
  CM.intro mok_X8_runs (Nat.le_of_ble_eq_true rfl) (fun x hl hR ht hr hQ _ => wX8_runs ⟨hR, ht, hr, hQ⟩ p1 st hf)
def fX8_orders_b62 : Nat → Int32 → Int32 → St → Option (Int32 × St)
  | 0, _, _, _ => none
  | n + 1, l1, l2, st => if l1 ≤ (sI st 38 47) then (fX8_good (sI st 38 27) st) else ((fX8_runs l1 st).bind (fun q2 => if q2.1 = 0 then ((fX8_takesAllBack q2.2).bind (fun q5 => fX8_refuses (-3 : Int32) (pI q5 38 46 l2))) else (fX8_orders_b62 n l1 (l2 + (1 : Int32)) q2.2)))
set_option maxHeartbeats 1000000 in
set_option maxRecDepth 20000 in
theorem wX8_orders_b62 {E : Ev} {x : Cx} {r0 : Int32} {u0 : St} (B : Bd E x (some FieldType.int) (214) 0 0 (some (.int r0)) u0) : ∀ (n : Nat) (l1 : Int32) (l2 : Int32) (st : St) , fX8_orders_b62 n l1 l2 st = some (r0, u0) → G E WT x RX8 cX8_orders 3 (0, 0) st 62 [(0, .ref (eB E + 38)), (1, .int l1), (2, .int l2)] [] := by
  intro n
  induction n with
  | zero =>
    intros
    rename_i hf
    rw [fX8_orders_b62] at hf
    cases hf
  | succ n ih =>
    intro l1 l2 st hf
    rw [fX8_orders_b62] at hf
    refine g_aload_n rfl 0 rfl dX8_orders_62 ?_
    refine g_get (j := 47) cok8 (by decide) (.int (sI st 38 47)) (Or.inl tw4_222) oS38 (fun _ => rfl) dX8_orders_63 ?_
    refine g_iload_n rfl 1 rfl dX8_orders_66 ?_
    refine g_icmp_ge 103 (by decide) dX8_orders_67 (fun h1 => ?_) (fun h1 => ?_)
    · rw [if_pos h1] at hf
      refine g_aload_n rfl 0 rfl dX8_orders_103 ?_
      refine g_aload_n rfl 0 rfl dX8_orders_104 ?_
      refine g_get (j := 27) cok8 (by decide) (.int (sI st 38 27)) (Or.inl tw4_202) oS38 (fun _ => rfl) dX8_orders_105 ?_
      refine g_callV0i (As := [.int (sI st 38 27)]) (rest := []) cok8 mok_X8_good tw5_125 tw5_127 ts5_4 oS38 B.1 (by decide) (kX8_good  hf) rfl rfl (Nat.le_of_ble_eq_true rfl) ⟨Nat.le_refl _, Nat.le_refl _⟩ dX8_orders_108 ?_
      exact g_iret B.2.2.2 B.2.2.1 rfl rfl dX8_orders_111
    · rw [if_neg h1] at hf
      refine g_aload_n rfl 0 rfl dX8_orders_70 ?_
      refine g_iload_n rfl 1 rfl dX8_orders_71 ?_
      obtain ⟨q2, h3, hf⟩ := bnd_some hf
      refine g_callV0i (As := [.int l1]) (rest := []) cok8 mok_X8_runs tw7_110 tw7_112 ts10_2 oS38 B.1 (by decide) (kX8_runs  h3) rfl rfl (Nat.le_of_ble_eq_true rfl) ⟨Nat.le_refl _, Nat.le_refl _⟩ dX8_orders_72 ?_
      refine g_if_eq 81 (by decide) dX8_orders_75 (fun h4 => ?_) (fun h4 => ?_)
      · rw [if_pos h4] at hf
        refine g_aload_n rfl 0 rfl dX8_orders_81 ?_
        obtain ⟨q5, h6, hf⟩ := bnd_some hf
        refine g_callV0v (As := []) (rest := []) cok8 mok_X8_takesAllBack tw7_126 tw7_128 ts10_5 oS38 B.1 (by decide) (kX8_takesAllBack  h6) rfl rfl (Nat.le_of_ble_eq_true rfl) ⟨Nat.le_refl _, Nat.le_refl _⟩ dX8_orders_82 ?_
        refine g_aload_n rfl 0 rfl dX8_orders_85 ?_
        refine g_iload_n rfl 2 rfl dX8_orders_86 ?_
        refine g_putI (j := 46) cok8 (by decide) rfl rfl rfl rfl (Or.inl tw4_221) oS38 B.2.1 wpI dX8_orders_87 ?_
        refine g_aload_n rfl 0 rfl dX8_orders_90 ?_
        refine g_bipush (-3 : Int32) (by decide) dX8_orders_91 ?_
        refine g_callV0i (As := [.int (-3 : Int32)]) (rest := []) cok8 mok_X8_refuses tw5_121 tw5_123 ts5_3 oS38 B.1 (by decide) (kX8_refuses  hf) rfl rfl (Nat.le_of_ble_eq_true rfl) ⟨Nat.le_refl _, Nat.le_refl _⟩ dX8_orders_93 ?_
        exact g_iret B.2.2.2 B.2.2.1 rfl rfl dX8_orders_96
      · rw [if_neg h4] at hf
        refine g_goto 97 (by decide) dX8_orders_78 ?_
        refine g_iinc (l2 + (1 : Int32)) [(2, .int (l2 + (1 : Int32))), (0, .ref (eB E + 38)), (1, .int l1)] 2 rfl (congrArg (fun z => l2 + z) (show Int32.ofInt (1) = (1 : Int32) by decide)) (by decide) rfl dX8_orders_97 ?_
        refine g_goto 62 (by decide) dX8_orders_100 ?_
        refine g_lvs [1, 2, 0] rfl ?_
        exact ih l1 (l2 + (1 : Int32)) q2.2 hf
def fX8_orders  (st : St) : Option (Int32 × St) :=
  (fX8_readsAs (1 : Int32) (pI st 38 46 (-1 : Int32))).bind (fun q1 => if q1.1 = 0 then (fX8_refuses (-6 : Int32) q1.2) else ((fX8_laysAllAside q1.2).bind (fun q4 => (fX8_lays (6 : Int32) q4).bind (fun q6 => fX8_orders_b62 FU ((sI (pI (pI (pI q6 38 27 (0 : Int32)) 38 28 (-1 : Int32)) 38 47 (2400 : Int32)) 38 47) + (sI (pI (pI (pI q6 38 27 (0 : Int32)) 38 28 (-1 : Int32)) 38 47 (2400 : Int32)) 40 26)) (0 : Int32) (pI (pI (pI q6 38 27 (0 : Int32)) 38 28 (-1 : Int32)) 38 47 (2400 : Int32))))))
set_option maxHeartbeats 1000000 in
set_option maxRecDepth 20000 in
theorem wX8_orders {E : Ev} {x : Cx} {r0 : Int32} {u0 : St} (B : Bd E x (some FieldType.int) (214) 0 0 (some (.int r0)) u0)  (st : St)  (hf : fX8_orders st = some (r0, u0)) : G E WT x RX8 cX8_orders 3 (0, 0) st 0 [(0, .ref (eB E + 38))] [] := by
  unfold fX8_orders at hf
  refine g_aload_n rfl 0 rfl dX8_orders_0 ?_
  refine g_iconst (-1 : Int32) (by decide) dX8_orders_1 ?_
  refine g_putI (j := 46) cok8 (by decide) rfl rfl rfl rfl (Or.inl tw4_221) oS38 B.2.1 wpI dX8_orders_2 ?_
  refine g_aload_n rfl 0 rfl dX8_orders_5 ?_
  refine g_iconst (1 : Int32) (by decide) dX8_orders_6 ?_
  obtain ⟨q1, h2, hf⟩ := bnd_some hf
  refine g_callV0i (As := [.int (1 : Int32)]) (rest := []) cok8 mok_X8_readsAs tw5_195 tw5_197 ts5_9 oS38 B.1 (by decide) (kX8_readsAs  h2) rfl rfl (Nat.le_of_ble_eq_true rfl) ⟨Nat.le_refl _, Nat.le_refl _⟩ dX8_orders_7 ?_
  refine g_if_ne 20 (by decide) dX8_orders_10 (fun h3 => ?_) (fun h3 => ?_)
  · rw [if_neg h3] at hf
    refine g_aload_n rfl 0 rfl dX8_orders_20 ?_
    obtain ⟨q4, h5, hf⟩ := bnd_some hf
    refine g_callV0v (As := []) (rest := []) cok8 mok_X8_laysAllAside tw7_106 tw7_108 ts10_1 oS38 B.1 (by decide) (kX8_laysAllAside  h5) rfl rfl (Nat.le_of_ble_eq_true rfl) ⟨Nat.le_refl _, Nat.le_refl _⟩ dX8_orders_21 ?_
    refine g_aload_n rfl 0 rfl dX8_orders_24 ?_
    refine g_bipush (6 : Int32) (by decide) dX8_orders_25 ?_
    obtain ⟨q6, h7, hf⟩ := bnd_some hf
    refine g_callV0v (As := [.int (6 : Int32)]) (rest := []) cok8 mok_X8_lays tw6_41 tw6_43 ts6_12 oS38 B.1 (by decide) (kX8_lays  h7) rfl rfl (Nat.le_of_ble_eq_true rfl) ⟨Nat.le_refl _, Nat.le_refl _⟩ dX8_orders_27 ?_
    refine g_aload_n rfl 0 rfl dX8_orders_30 ?_
    refine g_iconst (0 : Int32) (by decide) dX8_orders_31 ?_
    refine g_putI (j := 27) cok8 (by decide) rfl rfl rfl rfl (Or.inl tw4_202) oS38 B.2.1 wpI dX8_orders_32 ?_
    refine g_aload_n rfl 0 rfl dX8_orders_35 ?_
    refine g_iconst (-1 : Int32) (by decide) dX8_orders_36 ?_
    refine g_putI (j := 28) cok8 (by decide) rfl rfl rfl rfl (Or.inl tw4_203) oS38 B.2.1 wpI dX8_orders_37 ?_
    refine g_aload_n rfl 0 rfl dX8_orders_40 ?_
    refine g_sipush (2400 : Int32) (by decide) dX8_orders_41 ?_
    refine g_putI (j := 47) cok8 (by decide) rfl rfl rfl rfl (Or.inl tw4_222) oS38 B.2.1 wpI dX8_orders_44 ?_
    refine g_aload_n rfl 0 rfl dX8_orders_47 ?_
    refine g_get (j := 47) cok8 (by decide) (.int (sI (pI (pI (pI q6 38 27 (0 : Int32)) 38 28 (-1 : Int32)) 38 47 (2400 : Int32)) 38 47)) (Or.inl tw4_222) oS38 (fun _ => rfl) dX8_orders_48 ?_
    refine g_aload_n rfl 0 rfl dX8_orders_51 ?_
    refine g_get (j := 2) cok8 (by decide) (.ref (eB E + 40)) (Or.inl tw4_177) oS38 vS38_2 dX8_orders_52 ?_
    refine g_bipush (26 : Int32) (by decide) dX8_orders_55 ?_
    refine g_ialdj 26 rfl aS40 (ixb_in rfl) dX8_orders_57 ?_
    refine g_iadd dX8_orders_58 ?_
    refine g_istore_n rfl [(1, .int ((sI (pI (pI (pI q6 38 27 (0 : Int32)) 38 28 (-1 : Int32)) 38 47 (2400 : Int32)) 38 47) + (sI (pI (pI (pI q6 38 27 (0 : Int32)) 38 28 (-1 : Int32)) 38 47 (2400 : Int32)) 40 26))), (0, .ref (eB E + 38))] (by decide) rfl dX8_orders_59 ?_
    refine g_iconst (0 : Int32) (by decide) dX8_orders_60 ?_
    refine g_istore_n rfl [(2, .int (0 : Int32)), (1, .int ((sI (pI (pI (pI q6 38 27 (0 : Int32)) 38 28 (-1 : Int32)) 38 47 (2400 : Int32)) 38 47) + (sI (pI (pI (pI q6 38 27 (0 : Int32)) 38 28 (-1 : Int32)) 38 47 (2400 : Int32)) 40 26))), (0, .ref (eB E + 38))] (by decide) rfl dX8_orders_61 ?_
    refine g_lvs [2, 1, 0] rfl ?_
    exact wX8_orders_b62 B  FU ((sI (pI (pI (pI q6 38 27 (0 : Int32)) 38 28 (-1 : Int32)) 38 47 (2400 : Int32)) 38 47) + (sI (pI (pI (pI q6 38 27 (0 : Int32)) 38 28 (-1 : Int32)) 38 47 (2400 : Int32)) 40 26)) (0 : Int32) (pI (pI (pI q6 38 27 (0 : Int32)) 38 28 (-1 : Int32)) 38 47 (2400 : Int32)) hf
  · rw [if_pos h3] at hf
    refine g_aload_n rfl 0 rfl dX8_orders_13 ?_
    refine g_bipush (-6 : Int32) (by decide) dX8_orders_14 ?_
    refine g_callV0i (As := [.int (-6 : Int32)]) (rest := []) cok8 mok_X8_refuses tw5_121 tw5_123 ts5_3 oS38 B.1 (by decide) (kX8_refuses  hf) rfl rfl (Nat.le_of_ble_eq_true rfl) ⟨Nat.le_refl _, Nat.le_refl _⟩ dX8_orders_16 ?_
    exact g_iret B.2.2.2 B.2.2.1 rfl rfl dX8_orders_19
theorem kX8_orders {l : Launch} {E : Ev} {st : St}  {r0 : Int32} {u0 : St}  (hf : fX8_orders st = some (r0, u0)) : CM l E WT yX8_orders cX8_orders 3 (some FieldType.int) 214 0 0 [.ref (eB E + 38)] st (some (.int r0)) u0 :=
  CM.intro mok_X8_orders (Nat.le_of_ble_eq_true rfl) (fun x hl hR ht hr hQ _ => wX8_orders ⟨hR, ht, hr, hQ⟩ st hf)
def fX8_draws (p1 : Int32) (st : St) : Option (Int32 × St) :=
  chk (nz p1) (some (jrem (sI (pI st 38 58 ((ljrem (((1103 : Int64) * ((sI st 38 58).toInt64)) + (12345 : Int64)) (1000003 : Int64)).toInt32)) 38 58) p1, pI st 38 58 ((ljrem (((1103 : Int64) * ((sI st 38 58).toInt64)) + (12345 : Int64)) (1000003 : Int64)).toInt32)))
set_option maxHeartbeats 1000000 in
set_option maxRecDepth 20000 in
theorem wX8_draws {E : Ev} {x : Cx} {r0 : Int32} {u0 : St} (B : Bd E x (some FieldType.int) (0) 0 0 (some (.int r0)) u0) (p1 : Int32) (st : St)  (hf : fX8_draws p1 st = some (r0, u0)) : G E WT x RX8 cX8_draws 2 (0, 0) st 0 [(0, .ref (eB E + 38)), (1, .int p1)] [] := by
  unfold fX8_draws at hf
  refine g_aload_n rfl 0 rfl dX8_draws_0 ?_
  refine g_ldc2 tw7_146 dX8_draws_1 ?_
  refine g_aload_n rfl 0 rfl dX8_draws_4 ?_
  refine g_get (j := 58) cok8 (by decide) (.int (sI st 38 58)) (Or.inl tw4_233) oS38 (fun _ => rfl) dX8_draws_5 ?_
  refine g_i2l dX8_draws_8 ?_
  refine g_lmul dX8_draws_9 ?_
  refine g_ldc2 tw7_147 dX8_draws_10 ?_
  refine g_ladd dX8_draws_13 ?_
  refine g_ldc2 tw7_148 dX8_draws_14 ?_
  refine g_lrem (by decide) dX8_draws_17 ?_
  refine g_l2i dX8_draws_18 ?_
  refine g_putI (j := 58) cok8 (by decide) rfl rfl rfl rfl (Or.inl tw4_233) oS38 B.2.1 wpI dX8_draws_19 ?_
  refine g_aload_n rfl 0 rfl dX8_draws_22 ?_
  refine g_get (j := 58) cok8 (by decide) (.int (sI (pI st 38 58 ((ljrem (((1103 : Int64) * ((sI st 38 58).toInt64)) + (12345 : Int64)) (1000003 : Int64)).toInt32)) 38 58)) (Or.inl tw4_233) oS38 (fun _ => rfl) dX8_draws_23 ?_
  refine g_iload_n rfl 1 rfl dX8_draws_26 ?_
  obtain ⟨h1, hf⟩ := chk_some hf
  refine g_irem (nz_ne h1) dX8_draws_27 ?_
  exact g_iret B.2.2.2 B.2.2.1 (congrArg (fun z => some (Value.int z)) (Prod.mk.inj (Option.some.inj hf)).1.symm) (Prod.mk.inj (Option.some.inj hf)).2.symm dX8_draws_28
theorem kX8_draws {l : Launch} {E : Ev} {st : St} {p1 : Int32} {r0 : Int32} {u0 : St}  (hf : fX8_draws p1 st = some (r0, u0)) : CM l E WT yX8_draws cX8_draws 2 (some FieldType.int) 0 0 0 [.ref (eB E + 38), .int p1] st (some (.int r0)) u0 :=
  CM.intro mok_X8_draws (Nat.le_of_ble_eq_true rfl) (fun x hl hR ht hr hQ _ => wX8_draws ⟨hR, ht, hr, hQ⟩ p1 st hf)
def fX8_canGoOn  (st : St) : Option (Int32 × St) :=
  (fX8_canSay st).bind (fun q1 => if q1 = 0 then (if (sI st 40 2) = (999 : Int32) then (some ((0 : Int32), st)) else ((fX8_roundPasses st).bind (fun q5 => (fX8_canSay (pI q5 38 57 ((sI q5 38 57) + (1 : Int32)))).bind (fun q7 => chk (isb q7) (some (q7, pI q5 38 57 ((sI q5 38 57) + (1 : Int32)))))))) else (some ((1 : Int32), st)))
set_option maxHeartbeats 1000000 in
set_option maxRecDepth 20000 in
theorem wX8_canGoOn {E : Ev} {x : Cx} {r0 : Int32} {u0 : St} (B : Bd E x (some FieldType.boolean) (3) 0 0 (some (.int r0)) u0)  (st : St)  (hf : fX8_canGoOn st = some (r0, u0)) : G E WT x RX8 cX8_canGoOn 1 (0, 0) st 0 [(0, .ref (eB E + 38))] [] := by
  unfold fX8_canGoOn at hf
  refine g_aload_n rfl 0 rfl dX8_canGoOn_0 ?_
  obtain ⟨q1, h2, hf⟩ := bnd_some hf
  refine g_callV0i (As := []) (rest := []) cok8 mok_X8_canSay tw6_136 tw6_138 ts7_14 oS38 B.1 (by decide) (kX8_canSay  h2) rfl rfl (Nat.le_of_ble_eq_true rfl) ⟨Nat.le_refl _, Nat.le_refl _⟩ dX8_canGoOn_1 ?_
  refine g_if_eq 9 (by decide) dX8_canGoOn_4 (fun h3 => ?_) (fun h3 => ?_)
  · rw [if_pos h3] at hf
    refine g_aload_n rfl 0 rfl dX8_canGoOn_9 ?_
    refine g_get (j := 2) cok8 (by decide) (.ref (eB E + 40)) (Or.inl tw4_177) oS38 vS38_2 dX8_canGoOn_10 ?_
    refine g_iconst (2 : Int32) (by decide) dX8_canGoOn_13 ?_
    refine g_ialdj 2 rfl aS40 (ixb_in rfl) dX8_canGoOn_14 ?_
    refine g_sipush (999 : Int32) (by decide) dX8_canGoOn_15 ?_
    refine g_icmp_ne 23 (by decide) dX8_canGoOn_18 (fun h4 => ?_) (fun h4 => ?_)
    · rw [if_neg h4] at hf
      refine g_aload_n rfl 0 rfl dX8_canGoOn_23 ?_
      obtain ⟨q5, h6, hf⟩ := bnd_some hf
      refine g_callV0v (As := []) (rest := []) cok8 mok_X8_roundPasses tw6_214 tw6_216 ts8_11 oS38 B.1 (by decide) (kX8_roundPasses  h6) rfl rfl (Nat.le_of_ble_eq_true rfl) ⟨Nat.le_refl _, Nat.le_refl _⟩ dX8_canGoOn_24 ?_
      refine g_aload_n rfl 0 rfl dX8_canGoOn_27 ?_
      refine g_dup rfl dX8_canGoOn_28 ?_
      refine g_get (j := 57) cok8 (by decide) (.int (sI q5 38 57)) (Or.inl tw4_232) oS38 (fun _ => rfl) dX8_canGoOn_29 ?_
      refine g_iconst (1 : Int32) (by decide) dX8_canGoOn_32 ?_
      refine g_iadd dX8_canGoOn_33 ?_
      refine g_putI (j := 57) cok8 (by decide) rfl rfl rfl rfl (Or.inl tw4_232) oS38 B.2.1 wpI dX8_canGoOn_34 ?_
      refine g_aload_n rfl 0 rfl dX8_canGoOn_37 ?_
      obtain ⟨q7, h8, hf⟩ := bnd_some hf
      refine g_callV0i (As := []) (rest := []) cok8 mok_X8_canSay tw6_136 tw6_138 ts7_14 oS38 B.1 (by decide) (kX8_canSay  h8) rfl rfl (Nat.le_of_ble_eq_true rfl) ⟨Nat.le_refl _, Nat.le_refl _⟩ dX8_canGoOn_38 ?_
      obtain ⟨h9, hf⟩ := chk_some hf
      exact g_zret B.2.2.2 B.2.2.1 (isb_or h9) (congrArg (fun z => some (Value.int z)) (Prod.mk.inj (Option.some.inj hf)).1.symm) (Prod.mk.inj (Option.some.inj hf)).2.symm dX8_canGoOn_41
    · rw [if_pos h4] at hf
      refine g_iconst (0 : Int32) (by decide) dX8_canGoOn_21 ?_
      exact g_zret B.2.2.2 B.2.2.1 (by decide) (congrArg (fun z => some (Value.int z)) (Prod.mk.inj (Option.some.inj hf)).1.symm) (Prod.mk.inj (Option.some.inj hf)).2.symm dX8_canGoOn_22
  · rw [if_neg h3] at hf
    refine g_iconst (1 : Int32) (by decide) dX8_canGoOn_7 ?_
    exact g_zret B.2.2.2 B.2.2.1 (by decide) (congrArg (fun z => some (Value.int z)) (Prod.mk.inj (Option.some.inj hf)).1.symm) (Prod.mk.inj (Option.some.inj hf)).2.symm dX8_canGoOn_8
theorem kX8_canGoOn {l : Launch} {E : Ev} {st : St}  {r0 : Int32} {u0 : St}  (hf : fX8_canGoOn st = some (r0, u0)) : CM l E WT yX8_canGoOn cX8_canGoOn 1 (some FieldType.boolean) 3 0 0 [.ref (eB E + 38)] st (some (.int r0)) u0 :=
  CM.intro mok_X8_canGoOn (Nat.le_of_ble_eq_true rfl) (fun x hl hR ht hr hQ _ => wX8_canGoOn ⟨hR, ht, hr, hQ⟩ st hf)
def fX8_saysDrawn_b35 (s1 : Int32) (s2 : Int32) (st : St) : Option St :=
  (fX8_says s1 s2 st).bind (fun q1 => (fX8_aloneNow q1.2).bind (fun q3 => if q3 = (-1 : Int32) then (some q1.2) else (chk (ixb q3 6) (chk (ixb q3 6) (some (pI q1.2 64 q3.toNatClampNeg ((sI q1.2 64 q3.toNatClampNeg) + (1 : Int32))))))))
set_option maxHeartbeats 1000000 in
set_option maxRecDepth 20000 in
theorem wX8_saysDrawn_b35 {E : Ev} {x : Cx} {u0 : St} (B : Bd E x none (211) 0 0 none u0) (s1 : Int32) (s2 : Int32) (st : St)  (hf : fX8_saysDrawn_b35 s1 s2 st = some u0) : G E WT x RX8 cX8_saysDrawn 3 (0, 0) st 35 [(0, .ref (eB E + 38))] [.int s2, .int s1, .ref (eB E + 38)] := by
  unfold fX8_saysDrawn_b35 at hf
  obtain ⟨q1, h2, hf⟩ := bnd_some hf
  refine g_callV0i (As := [.int s1, .int s2]) (rest := []) cok8 mok_X8_says tw6_182 tw6_184 ts8_6 oS38 B.1 (by decide) (kX8_says  h2) rfl rfl (Nat.le_of_ble_eq_true rfl) ⟨Nat.le_refl _, Nat.le_refl _⟩ dX8_saysDrawn_35 ?_
  refine g_pop rfl dX8_saysDrawn_38 ?_
  refine g_aload_n rfl 0 rfl dX8_saysDrawn_39 ?_
  obtain ⟨q3, h4, hf⟩ := bnd_some hf
  refine g_callV0i (As := []) (rest := []) cok8 mok_X8_aloneNow tw6_234 tw6_236 ts8_15 oS38 B.1 (by decide) (kX8_aloneNow  h4) rfl rfl (Nat.le_of_ble_eq_true rfl) ⟨Nat.le_refl _, Nat.le_refl _⟩ dX8_saysDrawn_40 ?_
  refine g_istore_n rfl [(2, .int q3), (0, .ref (eB E + 38))] (by decide) rfl dX8_saysDrawn_43 ?_
  refine g_iload_n rfl 0 rfl dX8_saysDrawn_44 ?_
  refine g_iconst (-1 : Int32) (by decide) dX8_saysDrawn_45 ?_
  refine g_icmp_eq 59 (by decide) dX8_saysDrawn_46 (fun h5 => ?_) (fun h5 => ?_)
  · rw [if_pos h5] at hf
    exact g_ret B.2.2.2 B.2.2.1 rfl (Option.some.inj hf).symm dX8_saysDrawn_59
  · rw [if_neg h5] at hf
    refine g_aload_n rfl 1 rfl dX8_saysDrawn_49 ?_
    refine g_get (j := 54) cok8 (by decide) (.ref (eB E + 64)) (Or.inl tw4_229) oS38 vS38_54 dX8_saysDrawn_50 ?_
    refine g_iload_n rfl 0 rfl dX8_saysDrawn_53 ?_
    refine g_dup2 rfl rfl dX8_saysDrawn_54 ?_
    obtain ⟨h6, hf⟩ := chk_some hf
    refine g_ialdj q3.toNatClampNeg rfl aS64 (ixb_in h6) dX8_saysDrawn_55 ?_
    refine g_iconst (1 : Int32) (by decide) dX8_saysDrawn_56 ?_
    refine g_iadd dX8_saysDrawn_57 ?_
    obtain ⟨h7, hf⟩ := chk_some hf
    refine g_iastj q3.toNatClampNeg rfl aS64 (ixb_in h7) B.2.1 wpI dX8_saysDrawn_58 ?_
    exact g_ret B.2.2.2 B.2.2.1 rfl (Option.some.inj hf).symm dX8_saysDrawn_59
def fX8_saysDrawn  (st : St) : Option St :=
  (fX8_draws (sI st 40 17) st).bind (fun q1 => (fX8_draws (10 : Int32) q1.2).bind (fun q3 => if (sI q3.2 40 14) ≤ q3.1 then (fX8_saysDrawn_b35 q1.1 (0 : Int32) q3.2) else (fX8_saysDrawn_b35 q1.1 (1 : Int32) q3.2)))
set_option maxHeartbeats 1000000 in
set_option maxRecDepth 20000 in
theorem wX8_saysDrawn {E : Ev} {x : Cx} {u0 : St} (B : Bd E x none (211) 0 0 none u0)  (st : St)  (hf : fX8_saysDrawn st = some u0) : G E WT x RX8 cX8_saysDrawn 3 (0, 0) st 0 [(0, .ref (eB E + 38))] [] := by
  unfold fX8_saysDrawn at hf
  refine g_aload_n rfl 0 rfl dX8_saysDrawn_0 ?_
  refine g_aload_n rfl 0 rfl dX8_saysDrawn_1 ?_
  refine g_get (j := 2) cok8 (by decide) (.ref (eB E + 40)) (Or.inl tw4_177) oS38 vS38_2 dX8_saysDrawn_2 ?_
  refine g_bipush (17 : Int32) (by decide) dX8_saysDrawn_5 ?_
  refine g_ialdj 17 rfl aS40 (ixb_in rfl) dX8_saysDrawn_7 ?_
  obtain ⟨q1, h2, hf⟩ := bnd_some hf
  refine g_callV0i (As := [.int (sI st 40 17)]) (rest := []) cok8 mok_X8_draws tw7_142 tw7_144 ts10_8 oS38 B.1 (by decide) (kX8_draws  h2) rfl rfl (Nat.le_of_ble_eq_true rfl) ⟨Nat.le_refl _, Nat.le_refl _⟩ dX8_saysDrawn_8 ?_
  refine g_istore_n rfl [(1, .int q1.1), (0, .ref (eB E + 38))] (by decide) rfl dX8_saysDrawn_11 ?_
  refine g_aload_n rfl 1 rfl dX8_saysDrawn_12 ?_
  refine g_iload_n rfl 0 rfl dX8_saysDrawn_13 ?_
  refine g_aload_n rfl 1 rfl dX8_saysDrawn_14 ?_
  refine g_bipush (10 : Int32) (by decide) dX8_saysDrawn_15 ?_
  obtain ⟨q3, h4, hf⟩ := bnd_some hf
  refine g_callV0i (As := [.int (10 : Int32)]) (rest := [.int q1.1, .ref (eB E + 38)]) cok8 mok_X8_draws tw7_142 tw7_144 ts10_8 oS38 B.1 (by decide) (kX8_draws  h4) rfl rfl (Nat.le_of_ble_eq_true rfl) ⟨Nat.le_refl _, Nat.le_refl _⟩ dX8_saysDrawn_17 ?_
  refine g_aload_n rfl 1 rfl dX8_saysDrawn_20 ?_
  refine g_get (j := 2) cok8 (by decide) (.ref (eB E + 40)) (Or.inl tw4_177) oS38 vS38_2 dX8_saysDrawn_21 ?_
  refine g_bipush (14 : Int32) (by decide) dX8_saysDrawn_24 ?_
  refine g_ialdj 14 rfl aS40 (ixb_in rfl) dX8_saysDrawn_26 ?_
  refine g_icmp_ge 34 (by decide) dX8_saysDrawn_27 (fun h5 => ?_) (fun h5 => ?_)
  · rw [if_pos h5] at hf
    refine g_iconst (0 : Int32) (by decide) dX8_saysDrawn_34 ?_
    refine g_lvs [1] rfl ?_
    exact wX8_saysDrawn_b35 B  q1.1 (0 : Int32) q3.2 hf
  · rw [if_neg h5] at hf
    refine g_iconst (1 : Int32) (by decide) dX8_saysDrawn_30 ?_
    refine g_goto 35 (by decide) dX8_saysDrawn_31 ?_
    refine g_lvs [1] rfl ?_
    exact wX8_saysDrawn_b35 B  q1.1 (1 : Int32) q3.2 hf
theorem kX8_saysDrawn {l : Launch} {E : Ev} {st : St}  {u0 : St}  (hf : fX8_saysDrawn st = some u0) : CM l E WT yX8_saysDrawn cX8_saysDrawn 3 none 211 0 0 [.ref (eB E + 38)] st none u0 :=
  CM.intro mok_X8_saysDrawn (Nat.le_of_ble_eq_true rfl) (fun x hl hR ht hr hQ _ => wX8_saysDrawn ⟨hR, ht, hr, hQ⟩ st hf)
def fX8_quarters_b124  (st : St) : Option (Int32 × St) :=
  (fX8_takesBack (0 : Int32) (pI st 38 56 (sI st 40 0))).bind (fun q1 => fX8_good (sI q1 38 57) q1)
set_option maxHeartbeats 1000000 in
set_option maxRecDepth 20000 in
theorem wX8_quarters_b124 {E : Ev} {x : Cx} {r0 : Int32} {u0 : St} (B : Bd E x (some FieldType.int) (212) 0 0 (some (.int r0)) u0)  (st : St)  (hf : fX8_quarters_b124 st = some (r0, u0)) : G E WT x RX8 cX8_quarters 4 (0, 0) st 124 [(0, .ref (eB E + 38))] [] := by
  unfold fX8_quarters_b124 at hf
  refine g_aload_n rfl 0 rfl dX8_quarters_124 ?_
  refine g_aload_n rfl 0 rfl dX8_quarters_125 ?_
  refine g_get (j := 2) cok8 (by decide) (.ref (eB E + 40)) (Or.inl tw4_177) oS38 vS38_2 dX8_quarters_126 ?_
  refine g_iconst (0 : Int32) (by decide) dX8_quarters_129 ?_
  refine g_ialdj 0 rfl aS40 (ixb_in rfl) dX8_quarters_130 ?_
  refine g_putI (j := 56) cok8 (by decide) rfl rfl rfl rfl (Or.inl tw4_231) oS38 B.2.1 wpI dX8_quarters_131 ?_
  refine g_aload_n rfl 0 rfl dX8_quarters_134 ?_
  refine g_iconst (0 : Int32) (by decide) dX8_quarters_135 ?_
  obtain ⟨q1, h2, hf⟩ := bnd_some hf
  refine g_callV0v (As := [.int (0 : Int32)]) (rest := []) cok8 mok_X8_takesBack tw7_1 tw7_3 ts9_0 oS38 B.1 (by decide) (kX8_takesBack  h2) rfl rfl (Nat.le_of_ble_eq_true rfl) ⟨Nat.le_refl _, Nat.le_refl _⟩ dX8_quarters_136 ?_
  refine g_aload_n rfl 0 rfl dX8_quarters_139 ?_
  refine g_aload_n rfl 0 rfl dX8_quarters_140 ?_
  refine g_get (j := 57) cok8 (by decide) (.int (sI q1 38 57)) (Or.inl tw4_232) oS38 (fun _ => rfl) dX8_quarters_141 ?_
  refine g_callV0i (As := [.int (sI q1 38 57)]) (rest := []) cok8 mok_X8_good tw5_125 tw5_127 ts5_4 oS38 B.1 (by decide) (kX8_good  hf) rfl rfl (Nat.le_of_ble_eq_true rfl) ⟨Nat.le_refl _, Nat.le_refl _⟩ dX8_quarters_144 ?_
  exact g_iret B.2.2.2 B.2.2.1 rfl rfl dX8_quarters_147
def fX8_quarters_b102 : Nat → Int32 → Int32 → St → Option (Int32 × St)
  | 0, _, _, _ => none
  | n + 1, l2, l3, st => if l2 ≤ l3 then (fX8_quarters_b124  st) else ((fX8_canGoOn st).bind (fun q2 => if q2.1 = 0 then (fX8_quarters_b124  q2.2) else ((fX8_saysDrawn q2.2).bind (fun q5 => fX8_quarters_b102 n l2 (l3 + (1 : Int32)) q5))))
set_option maxHeartbeats 1000000 in
set_option maxRecDepth 20000 in
theorem wX8_quarters_b102 {E : Ev} {x : Cx} {r0 : Int32} {u0 : St} (B : Bd E x (some FieldType.int) (212) 0 0 (some (.int r0)) u0) : ∀ (n : Nat) (l2 : Int32) (l3 : Int32) (st : St) , fX8_quarters_b102 n l2 l3 st = some (r0, u0) → G E WT x RX8 cX8_quarters 4 (0, 0) st 102 [(0, .ref (eB E + 38)), (2, .int l2), (3, .int l3)] [] := by
  intro n
  induction n with
  | zero =>
    intros
    rename_i hf
    rw [fX8_quarters_b102] at hf
    cases hf
  | succ n ih =>
    intro l2 l3 st hf
    rw [fX8_quarters_b102] at hf
    refine g_iload_n rfl 2 rfl dX8_quarters_102 ?_
    refine g_iload_n rfl 1 rfl dX8_quarters_103 ?_
    refine g_icmp_ge 124 (by decide) dX8_quarters_104 (fun h1 => ?_) (fun h1 => ?_)
    · rw [if_pos h1] at hf
      refine g_lvs [0] rfl ?_
      exact wX8_quarters_b124 B  st hf
    · rw [if_neg h1] at hf
      refine g_aload_n rfl 0 rfl dX8_quarters_107 ?_
      obtain ⟨q2, h3, hf⟩ := bnd_some hf
      refine g_callV0i (As := []) (rest := []) cok8 mok_X8_canGoOn tw7_134 tw7_136 ts10_6 oS38 B.1 (by decide) (kX8_canGoOn  h3) rfl rfl (Nat.le_of_ble_eq_true rfl) ⟨Nat.le_refl _, Nat.le_refl _⟩ dX8_quarters_108 ?_
      refine g_if_eq 124 (by decide) dX8_quarters_111 (fun h4 => ?_) (fun h4 => ?_)
      · rw [if_pos h4] at hf
        refine g_lvs [0] rfl ?_
        exact wX8_quarters_b124 B  q2.2 hf
      · rw [if_neg h4] at hf
        refine g_aload_n rfl 0 rfl dX8_quarters_114 ?_
        obtain ⟨q5, h6, hf⟩ := bnd_some hf
        refine g_callV0v (As := []) (rest := []) cok8 mok_X8_saysDrawn tw7_138 tw7_140 ts10_7 oS38 B.1 (by decide) (kX8_saysDrawn  h6) rfl rfl (Nat.le_of_ble_eq_true rfl) ⟨Nat.le_refl _, Nat.le_refl _⟩ dX8_quarters_115 ?_
        refine g_iinc (l3 + (1 : Int32)) [(3, .int (l3 + (1 : Int32))), (0, .ref (eB E + 38)), (2, .int l2)] 2 rfl (congrArg (fun z => l3 + z) (show Int32.ofInt (1) = (1 : Int32) by decide)) (by decide) rfl dX8_quarters_118 ?_
        refine g_goto 102 (by decide) dX8_quarters_121 ?_
        refine g_lvs [1, 2, 0] rfl ?_
        exact ih l2 (l3 + (1 : Int32)) q5 hf
def fX8_quarters_b76 : Nat → Int32 → Int32 → St → Option (Int32 × St)
  | 0, _, _, _ => none
  | n + 1, l2, l3, st => if (6 : Int32) ≤ l3 then (fX8_quarters_b102 FU l2 (0 : Int32) (pI st 38 57 (0 : Int32))) else (chk (ixb l3 6) (fX8_quarters_b76 n l2 (l3 + (1 : Int32)) (pI st 64 l3.toNatClampNeg (0 : Int32))))
set_option maxHeartbeats 1000000 in
set_option maxRecDepth 20000 in
theorem wX8_quarters_b76 {E : Ev} {x : Cx} {r0 : Int32} {u0 : St} (B : Bd E x (some FieldType.int) (212) 0 0 (some (.int r0)) u0) : ∀ (n : Nat) (l2 : Int32) (l3 : Int32) (st : St) , fX8_quarters_b76 n l2 l3 st = some (r0, u0) → G E WT x RX8 cX8_quarters 4 (0, 0) st 76 [(0, .ref (eB E + 38)), (2, .int l2), (3, .int l3)] [] := by
  intro n
  induction n with
  | zero =>
    intros
    rename_i hf
    rw [fX8_quarters_b76] at hf
    cases hf
  | succ n ih =>
    intro l2 l3 st hf
    rw [fX8_quarters_b76] at hf
    refine g_iload_n rfl 2 rfl dX8_quarters_76 ?_
    refine g_bipush (6 : Int32) (by decide) dX8_quarters_77 ?_
    refine g_icmp_ge 95 (by decide) dX8_quarters_79 (fun h1 => ?_) (fun h1 => ?_)
    · rw [if_pos h1] at hf
      refine g_aload_n rfl 0 rfl dX8_quarters_95 ?_
      refine g_iconst (0 : Int32) (by decide) dX8_quarters_96 ?_
      refine g_putI (j := 57) cok8 (by decide) rfl rfl rfl rfl (Or.inl tw4_232) oS38 B.2.1 wpI dX8_quarters_97 ?_
      refine g_iconst (0 : Int32) (by decide) dX8_quarters_100 ?_
      refine g_istore_n rfl [(3, .int (0 : Int32)), (0, .ref (eB E + 38)), (2, .int l2)] (by decide) rfl dX8_quarters_101 ?_
      refine g_lvs [1, 2, 0] rfl ?_
      exact wX8_quarters_b102 B  FU l2 (0 : Int32) (pI st 38 57 (0 : Int32)) hf
    · rw [if_neg h1] at hf
      refine g_aload_n rfl 0 rfl dX8_quarters_82 ?_
      refine g_get (j := 54) cok8 (by decide) (.ref (eB E + 64)) (Or.inl tw4_229) oS38 vS38_54 dX8_quarters_83 ?_
      refine g_iload_n rfl 2 rfl dX8_quarters_86 ?_
      refine g_iconst (0 : Int32) (by decide) dX8_quarters_87 ?_
      obtain ⟨h2, hf⟩ := chk_some hf
      refine g_iastj l3.toNatClampNeg rfl aS64 (ixb_in h2) B.2.1 wpI dX8_quarters_88 ?_
      refine g_iinc (l3 + (1 : Int32)) [(3, .int (l3 + (1 : Int32))), (0, .ref (eB E + 38)), (2, .int l2)] 2 rfl (congrArg (fun z => l3 + z) (show Int32.ofInt (1) = (1 : Int32) by decide)) (by decide) rfl dX8_quarters_89 ?_
      refine g_goto 76 (by decide) dX8_quarters_92 ?_
      refine g_lvs [1, 2, 0] rfl ?_
      exact ih l2 (l3 + (1 : Int32)) (pI st 64 l3.toNatClampNeg (0 : Int32)) hf
def fX8_quarters_b46  (st : St) : Option (Int32 × St) :=
  fX8_refuses (-3 : Int32) st
set_option maxHeartbeats 1000000 in
set_option maxRecDepth 20000 in
theorem wX8_quarters_b46 {E : Ev} {x : Cx} {r0 : Int32} {u0 : St} (B : Bd E x (some FieldType.int) (212) 0 0 (some (.int r0)) u0)  (st : St)  (hf : fX8_quarters_b46 st = some (r0, u0)) : G E WT x RX8 cX8_quarters 4 (0, 0) st 46 [(0, .ref (eB E + 38))] [] := by
  unfold fX8_quarters_b46 at hf
  refine g_aload_n rfl 0 rfl dX8_quarters_46 ?_
  refine g_bipush (-3 : Int32) (by decide) dX8_quarters_47 ?_
  refine g_callV0i (As := [.int (-3 : Int32)]) (rest := []) cok8 mok_X8_refuses tw5_121 tw5_123 ts5_3 oS38 B.1 (by decide) (kX8_refuses  hf) rfl rfl (Nat.le_of_ble_eq_true rfl) ⟨Nat.le_refl _, Nat.le_refl _⟩ dX8_quarters_49 ?_
  exact g_iret B.2.2.2 B.2.2.1 rfl rfl dX8_quarters_52
def fX8_quarters_b20  (st : St) : Option (Int32 × St) :=
  fX8_refuses (-1 : Int32) st
set_option maxHeartbeats 1000000 in
set_option maxRecDepth 20000 in
theorem wX8_quarters_b20 {E : Ev} {x : Cx} {r0 : Int32} {u0 : St} (B : Bd E x (some FieldType.int) (212) 0 0 (some (.int r0)) u0)  (st : St)  (hf : fX8_quarters_b20 st = some (r0, u0)) : G E WT x RX8 cX8_quarters 4 (0, 0) st 20 [(0, .ref (eB E + 38))] [] := by
  unfold fX8_quarters_b20 at hf
  refine g_aload_n rfl 0 rfl dX8_quarters_20 ?_
  refine g_iconst (-1 : Int32) (by decide) dX8_quarters_21 ?_
  refine g_callV0i (As := [.int (-1 : Int32)]) (rest := []) cok8 mok_X8_refuses tw5_121 tw5_123 ts5_3 oS38 B.1 (by decide) (kX8_refuses  hf) rfl rfl (Nat.le_of_ble_eq_true rfl) ⟨Nat.le_refl _, Nat.le_refl _⟩ dX8_quarters_22 ?_
  exact g_iret B.2.2.2 B.2.2.1 rfl rfl dX8_quarters_25
def fX8_quarters (p1 : Int32) (p2 : Int32) (st : St) : Option (Int32 × St) :=
  if (fX8_lies p1 (0 : Int32) (1000000 : Int32)) = 0 then (fX8_quarters_b20  st) else (if (fX8_lies p2 (1 : Int32) (60 : Int32)) = 0 then (fX8_quarters_b20  st) else (if (sI st 40 16) = 0 then (fX8_quarters_b46  st) else (if (sI st 40 17) = 0 then (fX8_quarters_b46  st) else ((fX8_laysAside (0 : Int32) (pI (pI st 38 58 p1) 38 55 (sI (pI st 38 58 p1) 40 16))).bind (fun q5 => fX8_quarters_b76 FU p2 (0 : Int32) q5)))))
set_option maxHeartbeats 1000000 in
set_option maxRecDepth 20000 in
theorem wX8_quarters {E : Ev} {x : Cx} {r0 : Int32} {u0 : St} (B : Bd E x (some FieldType.int) (212) 0 0 (some (.int r0)) u0) (p1 : Int32) (p2 : Int32) (st : St)  (hf : fX8_quarters p1 p2 st = some (r0, u0)) : G E WT x RX8 cX8_quarters 4 (0, 0) st 0 [(0, .ref (eB E + 38)), (1, .int p1), (2, .int p2)] [] := by
  unfold fX8_quarters at hf
  refine g_iload_n rfl 1 rfl dX8_quarters_0 ?_
  refine g_iconst (0 : Int32) (by decide) dX8_quarters_1 ?_
  refine g_ldc tw5_217 dX8_quarters_2 ?_
  refine g_callS0i (As := [.int p1, .int (0 : Int32), .int (1000000 : Int32)]) (rest := []) mok_X8_lies tw5_118 tw5_119 B.1 (by decide) (kX8_lies  rfl) rfl rfl (Nat.le_of_ble_eq_true rfl) ⟨Nat.le_refl _, Nat.le_refl _⟩ dX8_quarters_4 ?_
  refine g_if_eq 20 (by decide) dX8_quarters_7 (fun h1 => ?_) (fun h1 => ?_)
  · rw [if_pos h1] at hf
    refine g_lvs [0] rfl ?_
    exact wX8_quarters_b20 B  st hf
  · rw [if_neg h1] at hf
    refine g_iload_n rfl 2 rfl dX8_quarters_10 ?_
    refine g_iconst (1 : Int32) (by decide) dX8_quarters_11 ?_
    refine g_bipush (60 : Int32) (by decide) dX8_quarters_12 ?_
    refine g_callS0i (As := [.int p2, .int (1 : Int32), .int (60 : Int32)]) (rest := []) mok_X8_lies tw5_118 tw5_119 B.1 (by decide) (kX8_lies  rfl) rfl rfl (Nat.le_of_ble_eq_true rfl) ⟨Nat.le_refl _, Nat.le_refl _⟩ dX8_quarters_14 ?_
    refine g_if_ne 26 (by decide) dX8_quarters_17 (fun h2 => ?_) (fun h2 => ?_)
    · rw [if_neg h2] at hf
      refine g_aload_n rfl 0 rfl dX8_quarters_26 ?_
      refine g_get (j := 2) cok8 (by decide) (.ref (eB E + 40)) (Or.inl tw4_177) oS38 vS38_2 dX8_quarters_27 ?_
      refine g_bipush (16 : Int32) (by decide) dX8_quarters_30 ?_
      refine g_ialdj 16 rfl aS40 (ixb_in rfl) dX8_quarters_32 ?_
      refine g_if_eq 46 (by decide) dX8_quarters_33 (fun h3 => ?_) (fun h3 => ?_)
      · rw [if_pos h3] at hf
        refine g_lvs [0] rfl ?_
        exact wX8_quarters_b46 B  st hf
      · rw [if_neg h3] at hf
        refine g_aload_n rfl 0 rfl dX8_quarters_36 ?_
        refine g_get (j := 2) cok8 (by decide) (.ref (eB E + 40)) (Or.inl tw4_177) oS38 vS38_2 dX8_quarters_37 ?_
        refine g_bipush (17 : Int32) (by decide) dX8_quarters_40 ?_
        refine g_ialdj 17 rfl aS40 (ixb_in rfl) dX8_quarters_42 ?_
        refine g_if_ne 53 (by decide) dX8_quarters_43 (fun h4 => ?_) (fun h4 => ?_)
        · rw [if_neg h4] at hf
          refine g_aload_n rfl 0 rfl dX8_quarters_53 ?_
          refine g_iload_n rfl 1 rfl dX8_quarters_54 ?_
          refine g_putI (j := 58) cok8 (by decide) rfl rfl rfl rfl (Or.inl tw4_233) oS38 B.2.1 wpI dX8_quarters_55 ?_
          refine g_aload_n rfl 0 rfl dX8_quarters_58 ?_
          refine g_aload_n rfl 0 rfl dX8_quarters_59 ?_
          refine g_get (j := 2) cok8 (by decide) (.ref (eB E + 40)) (Or.inl tw4_177) oS38 vS38_2 dX8_quarters_60 ?_
          refine g_bipush (16 : Int32) (by decide) dX8_quarters_63 ?_
          refine g_ialdj 16 rfl aS40 (ixb_in rfl) dX8_quarters_65 ?_
          refine g_putI (j := 55) cok8 (by decide) rfl rfl rfl rfl (Or.inl tw4_230) oS38 B.2.1 wpI dX8_quarters_66 ?_
          refine g_aload_n rfl 0 rfl dX8_quarters_69 ?_
          refine g_iconst (0 : Int32) (by decide) dX8_quarters_70 ?_
          obtain ⟨q5, h6, hf⟩ := bnd_some hf
          refine g_callV0v (As := [.int (0 : Int32)]) (rest := []) cok8 mok_X8_laysAside tw6_230 tw6_232 ts8_14 oS38 B.1 (by decide) (kX8_laysAside  h6) rfl rfl (Nat.le_of_ble_eq_true rfl) ⟨Nat.le_refl _, Nat.le_refl _⟩ dX8_quarters_71 ?_
          refine g_iconst (0 : Int32) (by decide) dX8_quarters_74 ?_
          refine g_istore_n rfl [(3, .int (0 : Int32)), (0, .ref (eB E + 38)), (1, .int p1), (2, .int p2)] (by decide) rfl dX8_quarters_75 ?_
          refine g_lvs [1, 3, 0] rfl ?_
          exact wX8_quarters_b76 B  FU p2 (0 : Int32) q5 hf
        · rw [if_pos h4] at hf
          refine g_lvs [0] rfl ?_
          exact wX8_quarters_b46 B  st hf
    · rw [if_pos h2] at hf
      refine g_lvs [0] rfl ?_
      exact wX8_quarters_b20 B  st hf
theorem kX8_quarters {l : Launch} {E : Ev} {st : St} {p1 : Int32} {p2 : Int32} {r0 : Int32} {u0 : St}  (hf : fX8_quarters p1 p2 st = some (r0, u0)) : CM l E WT yX8_quarters cX8_quarters 4 (some FieldType.int) 212 0 0 [.ref (eB E + 38), .int p1, .int p2] st (some (.int r0)) u0 :=
  CM.intro mok_X8_quarters (Nat.le_of_ble_eq_true rfl) (fun x hl hR ht hr hQ _ => wX8_quarters ⟨hR, ht, hr, hQ⟩ p1 p2 st hf)
def fX8_drawn (st : St) (p1 : Int32) (p2 : Int32) : Option Int32 :=
  if (fX8_lies p1 (0 : Int32) ((sI st 38 55) - (1 : Int32))) = 0 then (some (-1 : Int32)) else (if (fX8_lies p2 (0 : Int32) (1 : Int32)) = 0 then (some (-1 : Int32)) else (if p2 = 0 then (chk (ixb p1 6) (some (sI st 64 p1.toNatClampNeg))) else (some ((jshr (sI st 38 56) p1) &&& (1 : Int32)))))
set_option maxHeartbeats 1000000 in
set_option maxRecDepth 20000 in
theorem wX8_drawn {E : Ev} {x : Cx} {r0 : Int32} {st : St} (B : Bd E x (some FieldType.int) (1) 0 0 (some (.int r0)) st) (p1 : Int32) (p2 : Int32)  (hf : fX8_drawn st p1 p2 = some r0) : G E WT x RX8 cX8_drawn 3 (0, 0) st 0 [(0, .ref (eB E + 38)), (1, .int p1), (2, .int p2)] [] := by
  unfold fX8_drawn at hf
  refine g_iload_n rfl 1 rfl dX8_drawn_0 ?_
  refine g_iconst (0 : Int32) (by decide) dX8_drawn_1 ?_
  refine g_aload_n rfl 0 rfl dX8_drawn_2 ?_
  refine g_get (j := 55) cok8 (by decide) (.int (sI st 38 55)) (Or.inl tw4_230) oS38 (fun _ => rfl) dX8_drawn_3 ?_
  refine g_iconst (1 : Int32) (by decide) dX8_drawn_6 ?_
  refine g_isub dX8_drawn_7 ?_
  refine g_callS0i (As := [.int p1, .int (0 : Int32), .int ((sI st 38 55) - (1 : Int32))]) (rest := []) mok_X8_lies tw5_118 tw5_119 B.1 (by decide) (kX8_lies  rfl) rfl rfl (Nat.le_of_ble_eq_true rfl) ⟨Nat.le_refl _, Nat.le_refl _⟩ dX8_drawn_8 ?_
  refine g_if_eq 23 (by decide) dX8_drawn_11 (fun h1 => ?_) (fun h1 => ?_)
  · rw [if_pos h1] at hf
    refine g_iconst (-1 : Int32) (by decide) dX8_drawn_23 ?_
    exact g_iret B.2.2.2 B.2.2.1 (congrArg (fun z => some (Value.int z)) (Option.some.inj hf).symm) rfl dX8_drawn_24
  · rw [if_neg h1] at hf
    refine g_iload_n rfl 2 rfl dX8_drawn_14 ?_
    refine g_iconst (0 : Int32) (by decide) dX8_drawn_15 ?_
    refine g_iconst (1 : Int32) (by decide) dX8_drawn_16 ?_
    refine g_callS0i (As := [.int p2, .int (0 : Int32), .int (1 : Int32)]) (rest := []) mok_X8_lies tw5_118 tw5_119 B.1 (by decide) (kX8_lies  rfl) rfl rfl (Nat.le_of_ble_eq_true rfl) ⟨Nat.le_refl _, Nat.le_refl _⟩ dX8_drawn_17 ?_
    refine g_if_ne 25 (by decide) dX8_drawn_20 (fun h2 => ?_) (fun h2 => ?_)
    · rw [if_neg h2] at hf
      refine g_iload_n rfl 2 rfl dX8_drawn_25 ?_
      refine g_if_ne 38 (by decide) dX8_drawn_26 (fun h3 => ?_) (fun h3 => ?_)
      · rw [if_neg h3] at hf
        refine g_aload_n rfl 0 rfl dX8_drawn_38 ?_
        refine g_get (j := 56) cok8 (by decide) (.int (sI st 38 56)) (Or.inl tw4_231) oS38 (fun _ => rfl) dX8_drawn_39 ?_
        refine g_iload_n rfl 1 rfl dX8_drawn_42 ?_
        refine g_ishr dX8_drawn_43 ?_
        refine g_iconst (1 : Int32) (by decide) dX8_drawn_44 ?_
        refine g_iand dX8_drawn_45 ?_
        exact g_iret B.2.2.2 B.2.2.1 (congrArg (fun z => some (Value.int z)) (Option.some.inj hf).symm) rfl dX8_drawn_46
      · rw [if_pos h3] at hf
        refine g_aload_n rfl 0 rfl dX8_drawn_29 ?_
        refine g_get (j := 54) cok8 (by decide) (.ref (eB E + 64)) (Or.inl tw4_229) oS38 vS38_54 dX8_drawn_30 ?_
        refine g_iload_n rfl 1 rfl dX8_drawn_33 ?_
        obtain ⟨h4, hf⟩ := chk_some hf
        refine g_ialdj p1.toNatClampNeg rfl aS64 (ixb_in h4) dX8_drawn_34 ?_
        refine g_goto 46 (by decide) dX8_drawn_35 ?_
        exact g_iret B.2.2.2 B.2.2.1 (congrArg (fun z => some (Value.int z)) (Option.some.inj hf).symm) rfl dX8_drawn_46
    · rw [if_pos h2] at hf
      refine g_iconst (-1 : Int32) (by decide) dX8_drawn_23 ?_
      exact g_iret B.2.2.2 B.2.2.1 (congrArg (fun z => some (Value.int z)) (Option.some.inj hf).symm) rfl dX8_drawn_24
theorem kX8_drawn {l : Launch} {E : Ev} {st : St} {p1 : Int32} {p2 : Int32} {r0 : Int32}  (hf : fX8_drawn st p1 p2 = some r0) : CM l E WT yX8_drawn cX8_drawn 3 (some FieldType.int) 1 0 0 [.ref (eB E + 38), .int p1, .int p2] st (some (.int r0)) st :=
  CM.intro mok_X8_drawn (Nat.le_of_ble_eq_true rfl) (fun x hl hR ht hr hQ _ => wX8_drawn ⟨hR, ht, hr, hQ⟩ p1 p2 hf)
def fX8_count (st : St) (p1 : Int32) : Option Int32 :=
  if p1 = (0 : Int32) then (some (sI st 40 16)) else (if p1 = (1 : Int32) then (fX8_inside st) else (if p1 = (2 : Int32) then (some (sI st 40 17)) else (if p1 = (3 : Int32) then (some (sI st 40 18)) else (if p1 = (4 : Int32) then (some (sI st 38 32)) else (if p1 = (5 : Int32) then (some (sI st 38 13)) else (if p1 = (6 : Int32) then (chk (ixb (p1 - (5 : Int32)) 7) (some (sI st 39 ((p1 - (5 : Int32)).toNatClampNeg)))) else (if p1 = (7 : Int32) then (chk (ixb (p1 - (5 : Int32)) 7) (some (sI st 39 ((p1 - (5 : Int32)).toNatClampNeg)))) else (if p1 = (8 : Int32) then (chk (ixb (p1 - (5 : Int32)) 7) (some (sI st 39 ((p1 - (5 : Int32)).toNatClampNeg)))) else (if p1 = (9 : Int32) then (some (sI st 39 5)) else (if p1 = (10 : Int32) then (some (sI st 39 6)) else (if p1 = (11 : Int32) then (some (sI st 40 19)) else (if p1 = (12 : Int32) then (chk (ixb (fX8_termAt (p1 - (12 : Int32))) 5627) (some (sI st 40 ((fX8_termAt (p1 - (12 : Int32))).toNatClampNeg)))) else (if p1 = (13 : Int32) then (chk (ixb (fX8_termAt (p1 - (12 : Int32))) 5627) (some (sI st 40 ((fX8_termAt (p1 - (12 : Int32))).toNatClampNeg)))) else (if p1 = (14 : Int32) then (chk (ixb (fX8_termAt (p1 - (12 : Int32))) 5627) (some (sI st 40 ((fX8_termAt (p1 - (12 : Int32))).toNatClampNeg)))) else (if p1 = (15 : Int32) then (chk (ixb (fX8_termAt (p1 - (12 : Int32))) 5627) (some (sI st 40 ((fX8_termAt (p1 - (12 : Int32))).toNatClampNeg)))) else (some (-1 : Int32)))))))))))))))))
set_option maxHeartbeats 1000000 in
set_option maxRecDepth 20000 in
theorem wX8_count {E : Ev} {x : Cx} {r0 : Int32} {st : St} (B : Bd E x (some FieldType.int) (2) 0 0 (some (.int r0)) st) (p1 : Int32)  (hf : fX8_count st p1 = some r0) : G E WT x RX8 cX8_count 2 (0, 0) st 0 [(0, .ref (eB E + 38)), (1, .int p1)] [] := by
  unfold fX8_count at hf
  refine g_iload_n rfl 1 rfl dX8_count_0 ?_
  by_cases h1 : p1 = (0 : Int32)
  · rw [if_pos h1] at hf
    refine g_tableIn 79 80 dX8_count_1 (by rw [h1]; decide) (by rw [h1]; decide) (by rw [h1]; decide) (by decide) ?_
    refine g_aload_n rfl 0 rfl dX8_count_80 ?_
    refine g_get (j := 2) cok8 (by decide) (.ref (eB E + 40)) (Or.inl tw4_177) oS38 vS38_2 dX8_count_81 ?_
    refine g_bipush (16 : Int32) (by decide) dX8_count_84 ?_
    refine g_ialdj 16 rfl aS40 (ixb_in rfl) dX8_count_86 ?_
    exact g_iret B.2.2.2 B.2.2.1 (congrArg (fun z => some (Value.int z)) (Option.some.inj hf).symm) rfl dX8_count_87
  · rw [if_neg h1] at hf
    by_cases h2 : p1 = (1 : Int32)
    · rw [if_pos h2] at hf
      refine g_tableIn 87 88 dX8_count_1 (by rw [h2]; decide) (by rw [h2]; decide) (by rw [h2]; decide) (by decide) ?_
      refine g_aload_n rfl 0 rfl dX8_count_88 ?_
      refine g_callV0i (As := []) (rest := []) cok8 mok_X8_inside tw6_61 tw6_63 ts6_14 oS38 B.1 (by decide) (kX8_inside  hf) rfl rfl (Nat.le_of_ble_eq_true rfl) ⟨Nat.le_refl _, Nat.le_refl _⟩ dX8_count_89 ?_
      exact g_iret B.2.2.2 B.2.2.1 rfl rfl dX8_count_92
    · rw [if_neg h2] at hf
      by_cases h3 : p1 = (2 : Int32)
      · rw [if_pos h3] at hf
        refine g_tableIn 92 93 dX8_count_1 (by rw [h3]; decide) (by rw [h3]; decide) (by rw [h3]; decide) (by decide) ?_
        refine g_aload_n rfl 0 rfl dX8_count_93 ?_
        refine g_get (j := 2) cok8 (by decide) (.ref (eB E + 40)) (Or.inl tw4_177) oS38 vS38_2 dX8_count_94 ?_
        refine g_bipush (17 : Int32) (by decide) dX8_count_97 ?_
        refine g_ialdj 17 rfl aS40 (ixb_in rfl) dX8_count_99 ?_
        exact g_iret B.2.2.2 B.2.2.1 (congrArg (fun z => some (Value.int z)) (Option.some.inj hf).symm) rfl dX8_count_100
      · rw [if_neg h3] at hf
        by_cases h4 : p1 = (3 : Int32)
        · rw [if_pos h4] at hf
          refine g_tableIn 100 101 dX8_count_1 (by rw [h4]; decide) (by rw [h4]; decide) (by rw [h4]; decide) (by decide) ?_
          refine g_aload_n rfl 0 rfl dX8_count_101 ?_
          refine g_get (j := 2) cok8 (by decide) (.ref (eB E + 40)) (Or.inl tw4_177) oS38 vS38_2 dX8_count_102 ?_
          refine g_bipush (18 : Int32) (by decide) dX8_count_105 ?_
          refine g_ialdj 18 rfl aS40 (ixb_in rfl) dX8_count_107 ?_
          exact g_iret B.2.2.2 B.2.2.1 (congrArg (fun z => some (Value.int z)) (Option.some.inj hf).symm) rfl dX8_count_108
        · rw [if_neg h4] at hf
          by_cases h5 : p1 = (4 : Int32)
          · rw [if_pos h5] at hf
            refine g_tableIn 108 109 dX8_count_1 (by rw [h5]; decide) (by rw [h5]; decide) (by rw [h5]; decide) (by decide) ?_
            refine g_aload_n rfl 0 rfl dX8_count_109 ?_
            refine g_get (j := 32) cok8 (by decide) (.int (sI st 38 32)) (Or.inl tw4_207) oS38 (fun _ => rfl) dX8_count_110 ?_
            exact g_iret B.2.2.2 B.2.2.1 (congrArg (fun z => some (Value.int z)) (Option.some.inj hf).symm) rfl dX8_count_113
          · rw [if_neg h5] at hf
            by_cases h6 : p1 = (5 : Int32)
            · rw [if_pos h6] at hf
              refine g_tableIn 113 114 dX8_count_1 (by rw [h6]; decide) (by rw [h6]; decide) (by rw [h6]; decide) (by decide) ?_
              refine g_aload_n rfl 0 rfl dX8_count_114 ?_
              refine g_get (j := 13) cok8 (by decide) (.int (sI st 38 13)) (Or.inl tw4_188) oS38 (fun _ => rfl) dX8_count_115 ?_
              exact g_iret B.2.2.2 B.2.2.1 (congrArg (fun z => some (Value.int z)) (Option.some.inj hf).symm) rfl dX8_count_118
            · rw [if_neg h6] at hf
              by_cases h7 : p1 = (6 : Int32)
              · rw [if_pos h7] at hf
                refine g_tableIn 118 119 dX8_count_1 (by rw [h7]; decide) (by rw [h7]; decide) (by rw [h7]; decide) (by decide) ?_
                refine g_aload_n rfl 0 rfl dX8_count_119 ?_
                refine g_get (j := 1) cok8 (by decide) (.ref (eB E + 39)) (Or.inl tw4_176) oS38 vS38_1 dX8_count_120 ?_
                refine g_iload_n rfl 1 rfl dX8_count_123 ?_
                refine g_iconst (5 : Int32) (by decide) dX8_count_124 ?_
                refine g_isub dX8_count_125 ?_
                obtain ⟨h8, hf⟩ := chk_some hf
                refine g_ialdj ((p1 - (5 : Int32)).toNatClampNeg) rfl aS39 (ixb_in h8) dX8_count_126 ?_
                exact g_iret B.2.2.2 B.2.2.1 (congrArg (fun z => some (Value.int z)) (Option.some.inj hf).symm) rfl dX8_count_127
              · rw [if_neg h7] at hf
                by_cases h9 : p1 = (7 : Int32)
                · rw [if_pos h9] at hf
                  refine g_tableIn 118 119 dX8_count_1 (by rw [h9]; decide) (by rw [h9]; decide) (by rw [h9]; decide) (by decide) ?_
                  refine g_aload_n rfl 0 rfl dX8_count_119 ?_
                  refine g_get (j := 1) cok8 (by decide) (.ref (eB E + 39)) (Or.inl tw4_176) oS38 vS38_1 dX8_count_120 ?_
                  refine g_iload_n rfl 1 rfl dX8_count_123 ?_
                  refine g_iconst (5 : Int32) (by decide) dX8_count_124 ?_
                  refine g_isub dX8_count_125 ?_
                  obtain ⟨h10, hf⟩ := chk_some hf
                  refine g_ialdj ((p1 - (5 : Int32)).toNatClampNeg) rfl aS39 (ixb_in h10) dX8_count_126 ?_
                  exact g_iret B.2.2.2 B.2.2.1 (congrArg (fun z => some (Value.int z)) (Option.some.inj hf).symm) rfl dX8_count_127
                · rw [if_neg h9] at hf
                  by_cases h11 : p1 = (8 : Int32)
                  · rw [if_pos h11] at hf
                    refine g_tableIn 118 119 dX8_count_1 (by rw [h11]; decide) (by rw [h11]; decide) (by rw [h11]; decide) (by decide) ?_
                    refine g_aload_n rfl 0 rfl dX8_count_119 ?_
                    refine g_get (j := 1) cok8 (by decide) (.ref (eB E + 39)) (Or.inl tw4_176) oS38 vS38_1 dX8_count_120 ?_
                    refine g_iload_n rfl 1 rfl dX8_count_123 ?_
                    refine g_iconst (5 : Int32) (by decide) dX8_count_124 ?_
                    refine g_isub dX8_count_125 ?_
                    obtain ⟨h12, hf⟩ := chk_some hf
                    refine g_ialdj ((p1 - (5 : Int32)).toNatClampNeg) rfl aS39 (ixb_in h12) dX8_count_126 ?_
                    exact g_iret B.2.2.2 B.2.2.1 (congrArg (fun z => some (Value.int z)) (Option.some.inj hf).symm) rfl dX8_count_127
                  · rw [if_neg h11] at hf
                    by_cases h13 : p1 = (9 : Int32)
                    · rw [if_pos h13] at hf
                      refine g_tableIn 127 128 dX8_count_1 (by rw [h13]; decide) (by rw [h13]; decide) (by rw [h13]; decide) (by decide) ?_
                      refine g_aload_n rfl 0 rfl dX8_count_128 ?_
                      refine g_get (j := 1) cok8 (by decide) (.ref (eB E + 39)) (Or.inl tw4_176) oS38 vS38_1 dX8_count_129 ?_
                      refine g_iconst (5 : Int32) (by decide) dX8_count_132 ?_
                      refine g_ialdj 5 rfl aS39 (ixb_in rfl) dX8_count_133 ?_
                      exact g_iret B.2.2.2 B.2.2.1 (congrArg (fun z => some (Value.int z)) (Option.some.inj hf).symm) rfl dX8_count_134
                    · rw [if_neg h13] at hf
                      by_cases h14 : p1 = (10 : Int32)
                      · rw [if_pos h14] at hf
                        refine g_tableIn 134 135 dX8_count_1 (by rw [h14]; decide) (by rw [h14]; decide) (by rw [h14]; decide) (by decide) ?_
                        refine g_aload_n rfl 0 rfl dX8_count_135 ?_
                        refine g_get (j := 1) cok8 (by decide) (.ref (eB E + 39)) (Or.inl tw4_176) oS38 vS38_1 dX8_count_136 ?_
                        refine g_bipush (6 : Int32) (by decide) dX8_count_139 ?_
                        refine g_ialdj 6 rfl aS39 (ixb_in rfl) dX8_count_141 ?_
                        exact g_iret B.2.2.2 B.2.2.1 (congrArg (fun z => some (Value.int z)) (Option.some.inj hf).symm) rfl dX8_count_142
                      · rw [if_neg h14] at hf
                        by_cases h15 : p1 = (11 : Int32)
                        · rw [if_pos h15] at hf
                          refine g_tableIn 142 143 dX8_count_1 (by rw [h15]; decide) (by rw [h15]; decide) (by rw [h15]; decide) (by decide) ?_
                          refine g_aload_n rfl 0 rfl dX8_count_143 ?_
                          refine g_get (j := 2) cok8 (by decide) (.ref (eB E + 40)) (Or.inl tw4_177) oS38 vS38_2 dX8_count_144 ?_
                          refine g_bipush (19 : Int32) (by decide) dX8_count_147 ?_
                          refine g_ialdj 19 rfl aS40 (ixb_in rfl) dX8_count_149 ?_
                          exact g_iret B.2.2.2 B.2.2.1 (congrArg (fun z => some (Value.int z)) (Option.some.inj hf).symm) rfl dX8_count_150
                        · rw [if_neg h15] at hf
                          by_cases h16 : p1 = (12 : Int32)
                          · rw [if_pos h16] at hf
                            refine g_tableIn 150 151 dX8_count_1 (by rw [h16]; decide) (by rw [h16]; decide) (by rw [h16]; decide) (by decide) ?_
                            refine g_aload_n rfl 0 rfl dX8_count_151 ?_
                            refine g_get (j := 2) cok8 (by decide) (.ref (eB E + 40)) (Or.inl tw4_177) oS38 vS38_2 dX8_count_152 ?_
                            refine g_iload_n rfl 1 rfl dX8_count_155 ?_
                            refine g_bipush (12 : Int32) (by decide) dX8_count_156 ?_
                            refine g_isub dX8_count_158 ?_
                            refine g_callS0i (As := [.int (p1 - (12 : Int32))]) (rest := [.ref (eB E + 40)]) mok_X8_termAt tw5_172 tw5_173 B.1 (by decide) (kX8_termAt  rfl) rfl rfl (Nat.le_of_ble_eq_true rfl) ⟨Nat.le_refl _, Nat.le_refl _⟩ dX8_count_159 ?_
                            obtain ⟨h17, hf⟩ := chk_some hf
                            refine g_ialdj ((fX8_termAt (p1 - (12 : Int32))).toNatClampNeg) rfl aS40 (ixb_in h17) dX8_count_162 ?_
                            exact g_iret B.2.2.2 B.2.2.1 (congrArg (fun z => some (Value.int z)) (Option.some.inj hf).symm) rfl dX8_count_163
                          · rw [if_neg h16] at hf
                            by_cases h18 : p1 = (13 : Int32)
                            · rw [if_pos h18] at hf
                              refine g_tableIn 150 151 dX8_count_1 (by rw [h18]; decide) (by rw [h18]; decide) (by rw [h18]; decide) (by decide) ?_
                              refine g_aload_n rfl 0 rfl dX8_count_151 ?_
                              refine g_get (j := 2) cok8 (by decide) (.ref (eB E + 40)) (Or.inl tw4_177) oS38 vS38_2 dX8_count_152 ?_
                              refine g_iload_n rfl 1 rfl dX8_count_155 ?_
                              refine g_bipush (12 : Int32) (by decide) dX8_count_156 ?_
                              refine g_isub dX8_count_158 ?_
                              refine g_callS0i (As := [.int (p1 - (12 : Int32))]) (rest := [.ref (eB E + 40)]) mok_X8_termAt tw5_172 tw5_173 B.1 (by decide) (kX8_termAt  rfl) rfl rfl (Nat.le_of_ble_eq_true rfl) ⟨Nat.le_refl _, Nat.le_refl _⟩ dX8_count_159 ?_
                              obtain ⟨h19, hf⟩ := chk_some hf
                              refine g_ialdj ((fX8_termAt (p1 - (12 : Int32))).toNatClampNeg) rfl aS40 (ixb_in h19) dX8_count_162 ?_
                              exact g_iret B.2.2.2 B.2.2.1 (congrArg (fun z => some (Value.int z)) (Option.some.inj hf).symm) rfl dX8_count_163
                            · rw [if_neg h18] at hf
                              by_cases h20 : p1 = (14 : Int32)
                              · rw [if_pos h20] at hf
                                refine g_tableIn 150 151 dX8_count_1 (by rw [h20]; decide) (by rw [h20]; decide) (by rw [h20]; decide) (by decide) ?_
                                refine g_aload_n rfl 0 rfl dX8_count_151 ?_
                                refine g_get (j := 2) cok8 (by decide) (.ref (eB E + 40)) (Or.inl tw4_177) oS38 vS38_2 dX8_count_152 ?_
                                refine g_iload_n rfl 1 rfl dX8_count_155 ?_
                                refine g_bipush (12 : Int32) (by decide) dX8_count_156 ?_
                                refine g_isub dX8_count_158 ?_
                                refine g_callS0i (As := [.int (p1 - (12 : Int32))]) (rest := [.ref (eB E + 40)]) mok_X8_termAt tw5_172 tw5_173 B.1 (by decide) (kX8_termAt  rfl) rfl rfl (Nat.le_of_ble_eq_true rfl) ⟨Nat.le_refl _, Nat.le_refl _⟩ dX8_count_159 ?_
                                obtain ⟨h21, hf⟩ := chk_some hf
                                refine g_ialdj ((fX8_termAt (p1 - (12 : Int32))).toNatClampNeg) rfl aS40 (ixb_in h21) dX8_count_162 ?_
                                exact g_iret B.2.2.2 B.2.2.1 (congrArg (fun z => some (Value.int z)) (Option.some.inj hf).symm) rfl dX8_count_163
                              · rw [if_neg h20] at hf
                                by_cases h22 : p1 = (15 : Int32)
                                · rw [if_pos h22] at hf
                                  refine g_tableIn 150 151 dX8_count_1 (by rw [h22]; decide) (by rw [h22]; decide) (by rw [h22]; decide) (by decide) ?_
                                  refine g_aload_n rfl 0 rfl dX8_count_151 ?_
                                  refine g_get (j := 2) cok8 (by decide) (.ref (eB E + 40)) (Or.inl tw4_177) oS38 vS38_2 dX8_count_152 ?_
                                  refine g_iload_n rfl 1 rfl dX8_count_155 ?_
                                  refine g_bipush (12 : Int32) (by decide) dX8_count_156 ?_
                                  refine g_isub dX8_count_158 ?_
                                  refine g_callS0i (As := [.int (p1 - (12 : Int32))]) (rest := [.ref (eB E + 40)]) mok_X8_termAt tw5_172 tw5_173 B.1 (by decide) (kX8_termAt  rfl) rfl rfl (Nat.le_of_ble_eq_true rfl) ⟨Nat.le_refl _, Nat.le_refl _⟩ dX8_count_159 ?_
                                  obtain ⟨h23, hf⟩ := chk_some hf
                                  refine g_ialdj ((fX8_termAt (p1 - (12 : Int32))).toNatClampNeg) rfl aS40 (ixb_in h23) dX8_count_162 ?_
                                  exact g_iret B.2.2.2 B.2.2.1 (congrArg (fun z => some (Value.int z)) (Option.some.inj hf).symm) rfl dX8_count_163
                                · rw [if_neg h22] at hf
                                  refine g_tableOut 164 dX8_count_1 (tab_out [(0 : Int32), (1 : Int32), (2 : Int32), (3 : Int32), (4 : Int32), (5 : Int32), (6 : Int32), (7 : Int32), (8 : Int32), (9 : Int32), (10 : Int32), (11 : Int32), (12 : Int32), (13 : Int32), (14 : Int32), (15 : Int32)] 16 (by decide) (by simp only [List.forall_mem_cons]; exact ⟨h1, h2, h3, h4, h5, h6, h7, h9, h11, h13, h14, h15, h16, h18, h20, h22, fun _ h => nomatch h⟩) (by decide)) (by decide) ?_
                                  refine g_iconst (-1 : Int32) (by decide) dX8_count_164 ?_
                                  exact g_iret B.2.2.2 B.2.2.1 (congrArg (fun z => some (Value.int z)) (Option.some.inj hf).symm) rfl dX8_count_165
theorem kX8_count {l : Launch} {E : Ev} {st : St} {p1 : Int32} {r0 : Int32}  (hf : fX8_count st p1 = some r0) : CM l E WT yX8_count cX8_count 2 (some FieldType.int) 2 0 0 [.ref (eB E + 38), .int p1] st (some (.int r0)) st :=
  CM.intro mok_X8_count (Nat.le_of_ble_eq_true rfl) (fun x hl hR ht hr hQ _ => wX8_count ⟨hR, ht, hr, hQ⟩ p1 hf)
def fX8_status (st : St)  : Int32 :=
  sI st 38 0
set_option maxHeartbeats 1000000 in
set_option maxRecDepth 20000 in
theorem wX8_status {E : Ev} {x : Cx} {r0 : Int32} {st : St} (B : Bd E x (some FieldType.int) (0) 0 0 (some (.int r0)) st)   (hf : fX8_status st  = r0) : G E WT x RX8 cX8_status 1 (0, 0) st 0 [(0, .ref (eB E + 38))] [] := by
  unfold fX8_status at hf
  refine g_aload_n rfl 0 rfl dX8_status_0 ?_
  refine g_get (j := 0) cok8 (by decide) (.int (sI st 38 0)) (Or.inl tw4_175) oS38 (fun _ => rfl) dX8_status_1 ?_
  exact g_iret B.2.2.2 B.2.2.1 (congrArg (fun z => some (Value.int z)) hf.symm) rfl dX8_status_4
theorem kX8_status {l : Launch} {E : Ev} {st : St}  {r0 : Int32}  (hf : fX8_status st = r0) : CM l E WT yX8_status cX8_status 1 (some FieldType.int) 0 0 0 [.ref (eB E + 38)] st (some (.int r0)) st :=
  CM.intro mok_X8_status (Nat.le_of_ble_eq_true rfl) (fun x hl hR ht hr hQ _ => wX8_status ⟨hR, ht, hr, hQ⟩  hf)
