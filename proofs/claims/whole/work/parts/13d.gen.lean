def fX7_falls (p1 : Int32) (p2 : Int32) (st : St) : Option (Int32 × St) :=
  if (fX4_lacksRhyme st p1) = 0 then (if p2 < 0 then (some ((-1 : Int32), st)) else (if (15 : Int32) < p2 then (some ((-1 : Int32), st)) else (if (2 : Int32) ≤ (fJ6_bitCount_0f7a4 (sI st 1 5)) then (if p2 = 0 then ((fX4_place st).bind (fun q14 => (fX6_firstIn st (sI st 1 5) q14).bind (fun q16 => some (q16, st)))) else ((fX7_tuneVoice st).bind (fun q6 => (fX4_place q6).bind (fun q8 => (fX6_speak (sI q6 1 5) q8 p1 (0 : Int32) q6).bind (fun q10 => if p2 ≤ (sI q10.2 19 10) then (chk (ixb p2 16) (some (sI q10.2 22 p2.toNatClampNeg, q10.2))) else (some ((-1 : Int32), q10.2))))))) else (some ((-1 : Int32), st))))) else (some ((-1 : Int32), st))
set_option maxHeartbeats 1000000 in
set_option maxRecDepth 20000 in
theorem wX7_falls {E : Ev} {x : Cx} {r0 : Int32} {u0 : St} (B : Bd E x (some FieldType.int) (6) 0 0 (some (.int r0)) u0) (p1 : Int32) (p2 : Int32) (st : St)  (hf : fX7_falls p1 p2 st = some (r0, u0)) : G E WT x RX7 cX7_falls 3 (0, 0) st 0 [(0, .ref (eB E + 0)), (1, .int p1), (2, .int p2)] [] := by
  unfold fX7_falls at hf
  refine g_aload_n rfl 0 rfl dX7_falls_0 ?_
  refine g_get (j := 0) cok7 (by decide) (.ref (eB E + 1)) (Or.inl tw2_64) oS0 vS0_0 dX7_falls_1 ?_
  refine g_iload_n rfl 1 rfl dX7_falls_4 ?_
  refine g_callVN0i (As := [.int p1]) (rest := []) cok4 mok_X4_lacksRhyme nmm_11 tw2_160 ts1_7 oS1 B.1 (by decide) (kX4_lacksRhyme  rfl) rfl rfl (Nat.le_of_ble_eq_true rfl) ⟨Nat.le_refl _, Nat.le_refl _⟩ dX7_falls_5 ?_
  refine g_if_ne 35 (by decide) dX7_falls_8 (fun h1 => ?_) (fun h1 => ?_)
  · rw [if_neg h1] at hf
    refine g_iconst (-1 : Int32) (by decide) dX7_falls_35 ?_
    exact g_iret B.2.2.2 B.2.2.1 (congrArg (fun z => some (Value.int z)) (Prod.mk.inj (Option.some.inj hf)).1.symm) (Prod.mk.inj (Option.some.inj hf)).2.symm dX7_falls_36
  · rw [if_pos h1] at hf
    refine g_iload_n rfl 2 rfl dX7_falls_11 ?_
    refine g_if_lt 35 (by decide) dX7_falls_12 (fun h2 => ?_) (fun h2 => ?_)
    · rw [if_pos h2] at hf
      refine g_iconst (-1 : Int32) (by decide) dX7_falls_35 ?_
      exact g_iret B.2.2.2 B.2.2.1 (congrArg (fun z => some (Value.int z)) (Prod.mk.inj (Option.some.inj hf)).1.symm) (Prod.mk.inj (Option.some.inj hf)).2.symm dX7_falls_36
    · rw [if_neg h2] at hf
      refine g_iload_n rfl 2 rfl dX7_falls_15 ?_
      refine g_bipush (15 : Int32) (by decide) dX7_falls_16 ?_
      refine g_icmp_gt 35 (by decide) dX7_falls_18 (fun h3 => ?_) (fun h3 => ?_)
      · rw [if_pos h3] at hf
        refine g_iconst (-1 : Int32) (by decide) dX7_falls_35 ?_
        exact g_iret B.2.2.2 B.2.2.1 (congrArg (fun z => some (Value.int z)) (Prod.mk.inj (Option.some.inj hf)).1.symm) (Prod.mk.inj (Option.some.inj hf)).2.symm dX7_falls_36
      · rw [if_neg h3] at hf
        refine g_aload_n rfl 0 rfl dX7_falls_21 ?_
        refine g_get (j := 0) cok7 (by decide) (.ref (eB E + 1)) (Or.inl tw2_64) oS0 vS0_0 dX7_falls_22 ?_
        refine g_get (j := 5) cok4 (by decide) (.int (sI st 1 5)) (Or.inr nf_13) oS1 (fun _ => rfl) dX7_falls_25 ?_
        refine g_callS0i (As := [.int (sI st 1 5)]) (rest := []) mok_J6_bitCount_0f7a4 tw2_166 tw2_167 B.1 (by decide) (kJ6_bitCount_0f7a4  rfl) rfl rfl (Nat.le_of_ble_eq_true rfl) ⟨Nat.le_refl _, Nat.le_refl _⟩ dX7_falls_28 ?_
        refine g_iconst (2 : Int32) (by decide) dX7_falls_31 ?_
        refine g_icmp_ge 37 (by decide) dX7_falls_32 (fun h4 => ?_) (fun h4 => ?_)
        · rw [if_pos h4] at hf
          refine g_iload_n rfl 2 rfl dX7_falls_37 ?_
          refine g_if_ne 63 (by decide) dX7_falls_38 (fun h5 => ?_) (fun h5 => ?_)
          · rw [if_neg h5] at hf
            refine g_aload_n rfl 0 rfl dX7_falls_63 ?_
            obtain ⟨q6, h7, hf⟩ := bnd_some hf
            refine g_callV0v (As := []) (rest := []) cok7 mok_X7_tuneVoice tw2_172 tw2_174 ts1_8 oS0 B.1 (by decide) (kX7_tuneVoice  h7) rfl rfl (Nat.le_of_ble_eq_true rfl) ⟨Nat.le_refl _, Nat.le_refl _⟩ dX7_falls_64 ?_
            refine g_aload_n rfl 0 rfl dX7_falls_67 ?_
            refine g_get (j := 5) cok7 (by decide) (.ref (eB E + 19)) (Or.inl tw2_69) oS0 vS0_5 dX7_falls_68 ?_
            refine g_aload_n rfl 0 rfl dX7_falls_71 ?_
            refine g_get (j := 0) cok7 (by decide) (.ref (eB E + 1)) (Or.inl tw2_64) oS0 vS0_0 dX7_falls_72 ?_
            refine g_get (j := 5) cok4 (by decide) (.int (sI q6 1 5)) (Or.inr nf_13) oS1 (fun _ => rfl) dX7_falls_75 ?_
            refine g_aload_n rfl 0 rfl dX7_falls_78 ?_
            refine g_get (j := 0) cok7 (by decide) (.ref (eB E + 1)) (Or.inl tw2_64) oS0 vS0_0 dX7_falls_79 ?_
            obtain ⟨q8, h9, hf⟩ := bnd_some hf
            refine g_callVN0i (As := []) (rest := [.int (sI q6 1 5), .ref (eB E + 19)]) cok4 mok_X4_place nmm_28 tw3_159 ts3_5 oS1 B.1 (by decide) (kX4_place  h9) rfl rfl (Nat.le_of_ble_eq_true rfl) ⟨Nat.le_refl _, Nat.le_refl _⟩ dX7_falls_82 ?_
            refine g_iload_n rfl 1 rfl dX7_falls_85 ?_
            refine g_iconst (0 : Int32) (by decide) dX7_falls_86 ?_
            obtain ⟨q10, h11, hf⟩ := bnd_some hf
            refine g_callVN0i (As := [.int (sI q6 1 5), .int q8, .int p1, .int (0 : Int32)]) (rest := []) cok6 mok_X6_speak nmm_29 tw3_163 ts3_6 oS19 B.1 (by decide) (kX6_speak  h11) rfl rfl (Nat.le_of_ble_eq_true rfl) ⟨Nat.le_refl _, Nat.le_refl _⟩ dX7_falls_87 ?_
            refine g_pop rfl dX7_falls_90 ?_
            refine g_iload_n rfl 2 rfl dX7_falls_91 ?_
            refine g_aload_n rfl 0 rfl dX7_falls_92 ?_
            refine g_get (j := 5) cok7 (by decide) (.ref (eB E + 19)) (Or.inl tw2_69) oS0 vS0_5 dX7_falls_93 ?_
            refine g_get (j := 10) cok6 (by decide) (.int (sI q10.2 19 10)) (Or.inr nf_42) oS19 (fun _ => rfl) dX7_falls_96 ?_
            refine g_icmp_le 106 (by decide) dX7_falls_99 (fun h12 => ?_) (fun h12 => ?_)
            · rw [if_pos h12] at hf
              refine g_aload_n rfl 0 rfl dX7_falls_106 ?_
              refine g_get (j := 5) cok7 (by decide) (.ref (eB E + 19)) (Or.inl tw2_69) oS0 vS0_5 dX7_falls_107 ?_
              refine g_get (j := 3) cok6 (by decide) (.ref (eB E + 22)) (Or.inr nf_41) oS19 vS19_3 dX7_falls_110 ?_
              refine g_iload_n rfl 2 rfl dX7_falls_113 ?_
              obtain ⟨h13, hf⟩ := chk_some hf
              refine g_ialdj p2.toNatClampNeg rfl aS22 (ixb_in h13) dX7_falls_114 ?_
              exact g_iret B.2.2.2 B.2.2.1 (congrArg (fun z => some (Value.int z)) (Prod.mk.inj (Option.some.inj hf)).1.symm) (Prod.mk.inj (Option.some.inj hf)).2.symm dX7_falls_115
            · rw [if_neg h12] at hf
              refine g_iconst (-1 : Int32) (by decide) dX7_falls_102 ?_
              refine g_goto 115 (by decide) dX7_falls_103 ?_
              exact g_iret B.2.2.2 B.2.2.1 (congrArg (fun z => some (Value.int z)) (Prod.mk.inj (Option.some.inj hf)).1.symm) (Prod.mk.inj (Option.some.inj hf)).2.symm dX7_falls_115
          · rw [if_pos h5] at hf
            refine g_aload_n rfl 0 rfl dX7_falls_41 ?_
            refine g_get (j := 5) cok7 (by decide) (.ref (eB E + 19)) (Or.inl tw2_69) oS0 vS0_5 dX7_falls_42 ?_
            refine g_aload_n rfl 0 rfl dX7_falls_45 ?_
            refine g_get (j := 0) cok7 (by decide) (.ref (eB E + 1)) (Or.inl tw2_64) oS0 vS0_0 dX7_falls_46 ?_
            refine g_get (j := 5) cok4 (by decide) (.int (sI st 1 5)) (Or.inr nf_13) oS1 (fun _ => rfl) dX7_falls_49 ?_
            refine g_aload_n rfl 0 rfl dX7_falls_52 ?_
            refine g_get (j := 0) cok7 (by decide) (.ref (eB E + 1)) (Or.inl tw2_64) oS0 vS0_0 dX7_falls_53 ?_
            obtain ⟨q14, h15, hf⟩ := bnd_some hf
            refine g_callVN0i (As := []) (rest := [.int (sI st 1 5), .ref (eB E + 19)]) cok4 mok_X4_place nmm_28 tw3_159 ts3_5 oS1 B.1 (by decide) (kX4_place  h15) rfl rfl (Nat.le_of_ble_eq_true rfl) ⟨Nat.le_refl _, Nat.le_refl _⟩ dX7_falls_56 ?_
            obtain ⟨q16, h17, hf⟩ := bnd_some hf
            refine g_callVN0i (As := [.int (sI st 1 5), .int q14]) (rest := []) cok6 mok_X6_firstIn nmm_35 tw3_168 ts3_7 oS19 B.1 (by decide) (kX6_firstIn  h17) rfl rfl (Nat.le_of_ble_eq_true rfl) ⟨Nat.le_refl _, Nat.le_refl _⟩ dX7_falls_59 ?_
            exact g_iret B.2.2.2 B.2.2.1 (congrArg (fun z => some (Value.int z)) (Prod.mk.inj (Option.some.inj hf)).1.symm) (Prod.mk.inj (Option.some.inj hf)).2.symm dX7_falls_62
        · rw [if_neg h4] at hf
          refine g_iconst (-1 : Int32) (by decide) dX7_falls_35 ?_
          exact g_iret B.2.2.2 B.2.2.1 (congrArg (fun z => some (Value.int z)) (Prod.mk.inj (Option.some.inj hf)).1.symm) (Prod.mk.inj (Option.some.inj hf)).2.symm dX7_falls_36
theorem kX7_falls {l : Launch} {E : Ev} {st : St} {p1 : Int32} {p2 : Int32} {r0 : Int32} {u0 : St}  (hf : fX7_falls p1 p2 st = some (r0, u0)) : CM l E WT yX7_falls cX7_falls 3 (some FieldType.int) 6 0 0 [.ref (eB E + 0), .int p1, .int p2] st (some (.int r0)) u0 :=
  CM.intro mok_X7_falls (Nat.le_of_ble_eq_true rfl) (fun x hl hR ht hr hQ _ => wX7_falls ⟨hR, ht, hr, hQ⟩ p1 p2 st hf)
def fX7_join (p1 : Int32) (st : St) : Option (Int32 × St) :=
  (fX7_performMove (1 : Int32) p1 st).bind (fun q1 => fX7_answered q1.1 q1.2)
set_option maxHeartbeats 1000000 in
set_option maxRecDepth 20000 in
theorem wX7_join {E : Ev} {x : Cx} {r0 : Int32} {u0 : St} (B : Bd E x (some FieldType.int) (6) 0 0 (some (.int r0)) u0) (p1 : Int32) (st : St)  (hf : fX7_join p1 st = some (r0, u0)) : G E WT x RX7 cX7_join 2 (0, 0) st 0 [(0, .ref (eB E + 0)), (1, .int p1)] [] := by
  unfold fX7_join at hf
  refine g_aload_n rfl 0 rfl dX7_join_0 ?_
  refine g_aload_n rfl 0 rfl dX7_join_1 ?_
  refine g_iconst (1 : Int32) (by decide) dX7_join_2 ?_
  refine g_iload_n rfl 1 rfl dX7_join_3 ?_
  obtain ⟨q1, h2, hf⟩ := bnd_some hf
  refine g_callV0i (As := [.int (1 : Int32), .int p1]) (rest := [.ref (eB E + 0)]) cok7 mok_X7_performMove tw3_188 tw3_190 ts3_12 oS0 B.1 (by decide) (kX7_performMove  h2) rfl rfl (Nat.le_of_ble_eq_true rfl) ⟨Nat.le_refl _, Nat.le_refl _⟩ dX7_join_4 ?_
  refine g_callV0i (As := [.int q1.1]) (rest := []) cok7 mok_X7_answered tw3_200 tw3_202 ts3_15 oS0 B.1 (by decide) (kX7_answered  hf) rfl rfl (Nat.le_of_ble_eq_true rfl) ⟨Nat.le_refl _, Nat.le_refl _⟩ dX7_join_7 ?_
  exact g_iret B.2.2.2 B.2.2.1 rfl rfl dX7_join_10
theorem kX7_join {l : Launch} {E : Ev} {st : St} {p1 : Int32} {r0 : Int32} {u0 : St}  (hf : fX7_join p1 st = some (r0, u0)) : CM l E WT yX7_join cX7_join 2 (some FieldType.int) 6 0 0 [.ref (eB E + 0), .int p1] st (some (.int r0)) u0 :=
  CM.intro mok_X7_join (Nat.le_of_ble_eq_true rfl) (fun x hl hR ht hr hQ _ => wX7_join ⟨hR, ht, hr, hQ⟩ p1 st hf)
def fX7_leave (p1 : Int32) (st : St) : Option (Int32 × St) :=
  (fX7_performMove (2 : Int32) p1 st).bind (fun q1 => fX7_answered q1.1 q1.2)
set_option maxHeartbeats 1000000 in
set_option maxRecDepth 20000 in
theorem wX7_leave {E : Ev} {x : Cx} {r0 : Int32} {u0 : St} (B : Bd E x (some FieldType.int) (6) 0 0 (some (.int r0)) u0) (p1 : Int32) (st : St)  (hf : fX7_leave p1 st = some (r0, u0)) : G E WT x RX7 cX7_leave 2 (0, 0) st 0 [(0, .ref (eB E + 0)), (1, .int p1)] [] := by
  unfold fX7_leave at hf
  refine g_aload_n rfl 0 rfl dX7_leave_0 ?_
  refine g_aload_n rfl 0 rfl dX7_leave_1 ?_
  refine g_iconst (2 : Int32) (by decide) dX7_leave_2 ?_
  refine g_iload_n rfl 1 rfl dX7_leave_3 ?_
  obtain ⟨q1, h2, hf⟩ := bnd_some hf
  refine g_callV0i (As := [.int (2 : Int32), .int p1]) (rest := [.ref (eB E + 0)]) cok7 mok_X7_performMove tw3_188 tw3_190 ts3_12 oS0 B.1 (by decide) (kX7_performMove  h2) rfl rfl (Nat.le_of_ble_eq_true rfl) ⟨Nat.le_refl _, Nat.le_refl _⟩ dX7_leave_4 ?_
  refine g_callV0i (As := [.int q1.1]) (rest := []) cok7 mok_X7_answered tw3_200 tw3_202 ts3_15 oS0 B.1 (by decide) (kX7_answered  hf) rfl rfl (Nat.le_of_ble_eq_true rfl) ⟨Nat.le_refl _, Nat.le_refl _⟩ dX7_leave_7 ?_
  exact g_iret B.2.2.2 B.2.2.1 rfl rfl dX7_leave_10
theorem kX7_leave {l : Launch} {E : Ev} {st : St} {p1 : Int32} {r0 : Int32} {u0 : St}  (hf : fX7_leave p1 st = some (r0, u0)) : CM l E WT yX7_leave cX7_leave 2 (some FieldType.int) 6 0 0 [.ref (eB E + 0), .int p1] st (some (.int r0)) u0 :=
  CM.intro mok_X7_leave (Nat.le_of_ble_eq_true rfl) (fun x hl hR ht hr hQ _ => wX7_leave ⟨hR, ht, hr, hQ⟩ p1 st hf)
def fX7_pass  (st : St) : Option (Int32 × St) :=
  (fX7_performRound st).bind (fun q1 => fX7_answered q1.1 q1.2)
set_option maxHeartbeats 1000000 in
set_option maxRecDepth 20000 in
theorem wX7_pass {E : Ev} {x : Cx} {r0 : Int32} {u0 : St} (B : Bd E x (some FieldType.int) (6) 0 0 (some (.int r0)) u0)  (st : St)  (hf : fX7_pass st = some (r0, u0)) : G E WT x RX7 cX7_pass 1 (0, 0) st 0 [(0, .ref (eB E + 0))] [] := by
  unfold fX7_pass at hf
  refine g_aload_n rfl 0 rfl dX7_pass_0 ?_
  refine g_aload_n rfl 0 rfl dX7_pass_1 ?_
  obtain ⟨q1, h2, hf⟩ := bnd_some hf
  refine g_callV0i (As := []) (rest := [.ref (eB E + 0)]) cok7 mok_X7_performRound tw3_192 tw3_194 ts3_13 oS0 B.1 (by decide) (kX7_performRound  h2) rfl rfl (Nat.le_of_ble_eq_true rfl) ⟨Nat.le_refl _, Nat.le_refl _⟩ dX7_pass_2 ?_
  refine g_callV0i (As := [.int q1.1]) (rest := []) cok7 mok_X7_answered tw3_200 tw3_202 ts3_15 oS0 B.1 (by decide) (kX7_answered  hf) rfl rfl (Nat.le_of_ble_eq_true rfl) ⟨Nat.le_refl _, Nat.le_refl _⟩ dX7_pass_5 ?_
  exact g_iret B.2.2.2 B.2.2.1 rfl rfl dX7_pass_8
theorem kX7_pass {l : Launch} {E : Ev} {st : St}  {r0 : Int32} {u0 : St}  (hf : fX7_pass st = some (r0, u0)) : CM l E WT yX7_pass cX7_pass 1 (some FieldType.int) 6 0 0 [.ref (eB E + 0)] st (some (.int r0)) u0 :=
  CM.intro mok_X7_pass (Nat.le_of_ble_eq_true rfl) (fun x hl hR ht hr hQ _ => wX7_pass ⟨hR, ht, hr, hQ⟩ st hf)
def fX7_undo  (st : St) : Option (Int32 × St) :=
  (fX2_takeBack st).bind (fun q1 => if q1.1 = (-1 : Int32) then ((fX7_refused (-3 : Int32) q1.2).bind (fun q4 => some (q4.1, q4.2))) else (fX7_settled q1.1 q1.2))
set_option maxHeartbeats 1000000 in
set_option maxRecDepth 20000 in
theorem wX7_undo {E : Ev} {x : Cx} {r0 : Int32} {u0 : St} (B : Bd E x (some FieldType.int) (2) 0 0 (some (.int r0)) u0)  (st : St)  (hf : fX7_undo st = some (r0, u0)) : G E WT x RX7 cX7_undo 2 (0, 0) st 0 [(0, .ref (eB E + 0))] [] := by
  unfold fX7_undo at hf
  refine g_aload_n rfl 0 rfl dX7_undo_0 ?_
  refine g_get (j := 3) cok7 (by decide) (.ref (eB E + 15)) (Or.inl tw2_67) oS0 vS0_3 dX7_undo_1 ?_
  refine g_aload_n rfl 0 rfl dX7_undo_4 ?_
  refine g_get (j := 0) cok7 (by decide) (.ref (eB E + 1)) (Or.inl tw2_64) oS0 vS0_0 dX7_undo_5 ?_
  obtain ⟨q1, h2, hf⟩ := bnd_some hf
  refine g_callVN0i (As := [.ref (eB E + 1)]) (rest := []) cok2 mok_X2_takeBack nmm_36 tw4_7 ts4_1 oS15 B.1 (by decide) (kX2_takeBack  h2) rfl rfl (Nat.le_of_ble_eq_true rfl) ⟨Nat.le_refl _, Nat.le_refl _⟩ dX7_undo_8 ?_
  refine g_istore_n rfl [(1, .int q1.1), (0, .ref (eB E + 0))] (by decide) rfl dX7_undo_11 ?_
  refine g_iload_n rfl 0 rfl dX7_undo_12 ?_
  refine g_iconst (-1 : Int32) (by decide) dX7_undo_13 ?_
  refine g_icmp_ne 26 (by decide) dX7_undo_14 (fun h3 => ?_) (fun h3 => ?_)
  · rw [if_neg h3] at hf
    refine g_aload_n rfl 1 rfl dX7_undo_26 ?_
    refine g_iload_n rfl 0 rfl dX7_undo_27 ?_
    refine g_callV0i (As := [.int q1.1]) (rest := []) cok7 mok_X7_settled tw2_138 tw2_140 ts1_5 oS0 B.1 (by decide) (kX7_settled  hf) rfl rfl (Nat.le_of_ble_eq_true rfl) ⟨Nat.le_refl _, Nat.le_refl _⟩ dX7_undo_28 ?_
    exact g_iret B.2.2.2 B.2.2.1 rfl rfl dX7_undo_31
  · rw [if_pos h3] at hf
    refine g_aload_n rfl 1 rfl dX7_undo_17 ?_
    refine g_bipush (-3 : Int32) (by decide) dX7_undo_18 ?_
    obtain ⟨q4, h5, hf⟩ := bnd_some hf
    refine g_callV0i (As := [.int (-3 : Int32)]) (rest := []) cok7 mok_X7_refused tw2_114 tw2_116 ts1_0 oS0 B.1 (by decide) (kX7_refused  h5) rfl rfl (Nat.le_of_ble_eq_true rfl) ⟨Nat.le_refl _, Nat.le_refl _⟩ dX7_undo_20 ?_
    refine g_goto 31 (by decide) dX7_undo_23 ?_
    exact g_iret B.2.2.2 B.2.2.1 (congrArg (fun z => some (Value.int z)) (Prod.mk.inj (Option.some.inj hf)).1.symm) (Prod.mk.inj (Option.some.inj hf)).2.symm dX7_undo_31
theorem kX7_undo {l : Launch} {E : Ev} {st : St}  {r0 : Int32} {u0 : St}  (hf : fX7_undo st = some (r0, u0)) : CM l E WT yX7_undo cX7_undo 2 (some FieldType.int) 2 0 0 [.ref (eB E + 0)] st (some (.int r0)) u0 :=
  CM.intro mok_X7_undo (Nat.le_of_ble_eq_true rfl) (fun x hl hR ht hr hQ _ => wX7_undo ⟨hR, ht, hr, hQ⟩ st hf)
def fX7_left (p1 : Int32) (p2 : Int32) (st : St) : Option (Int32 × St) :=
  if (fX4_lacksRhyme st p1) = 0 then ((fX7_tuneVoice st).bind (fun q2 => (fX4_state q2).bind (fun q4 => (fX1_lastBy q4 p1 q2).bind (fun q6 => if p2 = (-1 : Int32) then (some (q6.1, q6.2)) else (if q6.1 = (-1 : Int32) then (some (q6.1, q6.2)) else (if p2 < 0 then (some ((-1 : Int32), q6.2)) else (if p2 < (sI q6.2 25 9) then (chk (ixb p2 6) (some (sI q6.2 26 p2.toNatClampNeg, q6.2))) else (some ((-1 : Int32), q6.2))))))))) else (some ((-1 : Int32), st))
set_option maxHeartbeats 1000000 in
set_option maxRecDepth 20000 in
theorem wX7_left {E : Ev} {x : Cx} {r0 : Int32} {u0 : St} (B : Bd E x (some FieldType.int) (8) 0 0 (some (.int r0)) u0) (p1 : Int32) (p2 : Int32) (st : St)  (hf : fX7_left p1 p2 st = some (r0, u0)) : G E WT x RX7 cX7_left 4 (0, 0) st 0 [(0, .ref (eB E + 0)), (1, .int p1), (2, .int p2)] [] := by
  unfold fX7_left at hf
  refine g_aload_n rfl 0 rfl dX7_left_0 ?_
  refine g_get (j := 0) cok7 (by decide) (.ref (eB E + 1)) (Or.inl tw2_64) oS0 vS0_0 dX7_left_1 ?_
  refine g_iload_n rfl 1 rfl dX7_left_4 ?_
  refine g_callVN0i (As := [.int p1]) (rest := []) cok4 mok_X4_lacksRhyme nmm_11 tw2_160 ts1_7 oS1 B.1 (by decide) (kX4_lacksRhyme  rfl) rfl rfl (Nat.le_of_ble_eq_true rfl) ⟨Nat.le_refl _, Nat.le_refl _⟩ dX7_left_5 ?_
  refine g_if_eq 13 (by decide) dX7_left_8 (fun h1 => ?_) (fun h1 => ?_)
  · rw [if_pos h1] at hf
    refine g_aload_n rfl 0 rfl dX7_left_13 ?_
    obtain ⟨q2, h3, hf⟩ := bnd_some hf
    refine g_callV0v (As := []) (rest := []) cok7 mok_X7_tuneVoice tw2_172 tw2_174 ts1_8 oS0 B.1 (by decide) (kX7_tuneVoice  h3) rfl rfl (Nat.le_of_ble_eq_true rfl) ⟨Nat.le_refl _, Nat.le_refl _⟩ dX7_left_14 ?_
    refine g_aload_n rfl 0 rfl dX7_left_17 ?_
    refine g_get (j := 6) cok7 (by decide) (.ref (eB E + 25)) (Or.inl tw2_70) oS0 vS0_6 dX7_left_18 ?_
    refine g_aload_n rfl 0 rfl dX7_left_21 ?_
    refine g_get (j := 0) cok7 (by decide) (.ref (eB E + 1)) (Or.inl tw2_64) oS0 vS0_0 dX7_left_22 ?_
    obtain ⟨q4, h5, hf⟩ := bnd_some hf
    refine g_callVN0i (As := []) (rest := [.ref (eB E + 25)]) cok4 mok_X4_state nmm_38 tw4_16 ts4_2 oS1 B.1 (by decide) (kX4_state  h5) rfl rfl (Nat.le_of_ble_eq_true rfl) ⟨Nat.le_refl _, Nat.le_refl _⟩ dX7_left_25 ?_
    refine g_iload_n rfl 1 rfl dX7_left_28 ?_
    obtain ⟨q6, h7, hf⟩ := bnd_some hf
    refine g_callVN0i (As := [.int q4, .int p1]) (rest := []) cok1 mok_X1_lastBy nmm_39 tw4_21 ts4_3 oS25 B.1 (by decide) (kX1_lastBy  h7) rfl rfl (Nat.le_of_ble_eq_true rfl) ⟨Nat.le_refl _, Nat.le_refl _⟩ dX7_left_29 ?_
    refine g_istore_n rfl [(3, .int q6.1), (0, .ref (eB E + 0)), (1, .int p1), (2, .int p2)] (by decide) rfl dX7_left_32 ?_
    refine g_iload_n rfl 3 rfl dX7_left_33 ?_
    refine g_iconst (-1 : Int32) (by decide) dX7_left_34 ?_
    refine g_icmp_eq 43 (by decide) dX7_left_35 (fun h8 => ?_) (fun h8 => ?_)
    · rw [if_pos h8] at hf
      refine g_iload_n rfl 0 rfl dX7_left_43 ?_
      exact g_iret B.2.2.2 B.2.2.1 (congrArg (fun z => some (Value.int z)) (Prod.mk.inj (Option.some.inj hf)).1.symm) (Prod.mk.inj (Option.some.inj hf)).2.symm dX7_left_44
    · rw [if_neg h8] at hf
      refine g_iload_n rfl 0 rfl dX7_left_38 ?_
      refine g_iconst (-1 : Int32) (by decide) dX7_left_39 ?_
      refine g_icmp_ne 45 (by decide) dX7_left_40 (fun h9 => ?_) (fun h9 => ?_)
      · rw [if_neg h9] at hf
        refine g_iload_n rfl 3 rfl dX7_left_45 ?_
        refine g_if_lt 60 (by decide) dX7_left_46 (fun h10 => ?_) (fun h10 => ?_)
        · rw [if_pos h10] at hf
          refine g_iconst (-1 : Int32) (by decide) dX7_left_60 ?_
          refine g_goto 73 (by decide) dX7_left_61 ?_
          exact g_iret B.2.2.2 B.2.2.1 (congrArg (fun z => some (Value.int z)) (Prod.mk.inj (Option.some.inj hf)).1.symm) (Prod.mk.inj (Option.some.inj hf)).2.symm dX7_left_73
        · rw [if_neg h10] at hf
          refine g_iload_n rfl 3 rfl dX7_left_49 ?_
          refine g_aload_n rfl 1 rfl dX7_left_50 ?_
          refine g_get (j := 6) cok7 (by decide) (.ref (eB E + 25)) (Or.inl tw2_70) oS0 vS0_6 dX7_left_51 ?_
          refine g_get (j := 9) cok1 (by decide) (.int (sI q6.2 25 9)) (Or.inr nf_44) oS25 (fun _ => rfl) dX7_left_54 ?_
          refine g_icmp_lt 64 (by decide) dX7_left_57 (fun h11 => ?_) (fun h11 => ?_)
          · rw [if_pos h11] at hf
            refine g_aload_n rfl 1 rfl dX7_left_64 ?_
            refine g_get (j := 6) cok7 (by decide) (.ref (eB E + 25)) (Or.inl tw2_70) oS0 vS0_6 dX7_left_65 ?_
            refine g_get (j := 2) cok1 (by decide) (.ref (eB E + 26)) (Or.inr nf_43) oS25 vS25_2 dX7_left_68 ?_
            refine g_iload_n rfl 3 rfl dX7_left_71 ?_
            obtain ⟨h12, hf⟩ := chk_some hf
            refine g_ialdj p2.toNatClampNeg rfl aS26 (ixb_in h12) dX7_left_72 ?_
            exact g_iret B.2.2.2 B.2.2.1 (congrArg (fun z => some (Value.int z)) (Prod.mk.inj (Option.some.inj hf)).1.symm) (Prod.mk.inj (Option.some.inj hf)).2.symm dX7_left_73
          · rw [if_neg h11] at hf
            refine g_iconst (-1 : Int32) (by decide) dX7_left_60 ?_
            refine g_goto 73 (by decide) dX7_left_61 ?_
            exact g_iret B.2.2.2 B.2.2.1 (congrArg (fun z => some (Value.int z)) (Prod.mk.inj (Option.some.inj hf)).1.symm) (Prod.mk.inj (Option.some.inj hf)).2.symm dX7_left_73
      · rw [if_pos h9] at hf
        refine g_iload_n rfl 0 rfl dX7_left_43 ?_
        exact g_iret B.2.2.2 B.2.2.1 (congrArg (fun z => some (Value.int z)) (Prod.mk.inj (Option.some.inj hf)).1.symm) (Prod.mk.inj (Option.some.inj hf)).2.symm dX7_left_44
  · rw [if_neg h1] at hf
    refine g_iconst (-1 : Int32) (by decide) dX7_left_11 ?_
    exact g_iret B.2.2.2 B.2.2.1 (congrArg (fun z => some (Value.int z)) (Prod.mk.inj (Option.some.inj hf)).1.symm) (Prod.mk.inj (Option.some.inj hf)).2.symm dX7_left_12
theorem kX7_left {l : Launch} {E : Ev} {st : St} {p1 : Int32} {p2 : Int32} {r0 : Int32} {u0 : St}  (hf : fX7_left p1 p2 st = some (r0, u0)) : CM l E WT yX7_left cX7_left 4 (some FieldType.int) 8 0 0 [.ref (eB E + 0), .int p1, .int p2] st (some (.int r0)) u0 :=
  CM.intro mok_X7_left (Nat.le_of_ble_eq_true rfl) (fun x hl hR ht hr hQ _ => wX7_left ⟨hR, ht, hr, hQ⟩ p1 p2 st hf)
def fX7_safe_b77 (k33 : Int32 → Int32 → Int32 → Int32 → St → Option (Int32 × St))(l1 : Int32) (l2 : Int32) (l3 : Int32) (l4 : Int32) (st : St) : Option (Int32 × St) :=
  k33 l1 l2 l3 (l4 + (1 : Int32)) st
set_option maxHeartbeats 1000000 in
set_option maxRecDepth 20000 in
theorem wX7_safe_b77 {E : Ev} {x : Cx} {r0 : Int32} {u0 : St} (B : Bd E x (some FieldType.int) (8) 0 0 (some (.int r0)) u0) {k33 : Int32 → Int32 → Int32 → Int32 → St → Option (Int32 × St)} (hk33 : ∀ (l1 : Int32) (l2 : Int32) (l3 : Int32) (l4 : Int32) (st : St), k33 l1 l2 l3 l4 st = some (r0, u0) → G E WT x RX7 cX7_safe 5 (0, 0) st 33 [(0, .ref (eB E + 0)), (1, .int l1), (2, .int l2), (3, .int l3), (4, .int l4)] []) (l1 : Int32) (l2 : Int32) (l3 : Int32) (l4 : Int32) (st : St)  (hf : fX7_safe_b77 k33 l1 l2 l3 l4 st = some (r0, u0)) : G E WT x RX7 cX7_safe 5 (0, 0) st 77 [(0, .ref (eB E + 0)), (1, .int l1), (2, .int l2), (3, .int l3), (4, .int l4)] [] := by
  unfold fX7_safe_b77 at hf
  refine g_iinc (l4 + (1 : Int32)) [(4, .int (l4 + (1 : Int32))), (0, .ref (eB E + 0)), (1, .int l1), (2, .int l2), (3, .int l3)] 4 rfl (congrArg (fun z => l4 + z) (show Int32.ofInt (1) = (1 : Int32) by decide)) (by decide) rfl dX7_safe_77 ?_
  refine g_goto 33 (by decide) dX7_safe_80 ?_
  refine g_lvs [1, 2, 3, 4, 0] rfl ?_
  exact hk33 l1 l2 l3 (l4 + (1 : Int32)) st hf
def fX7_safe_b33 : Nat → Int32 → Int32 → Int32 → Int32 → St → Option (Int32 × St)
  | 0, _, _, _, _, _ => none
  | n + 1, l1, l2, l3, l4, st => if (sI st 1 4) ≤ l4 then (some (l3, st)) else ((fX1_lastBy (((sI st 1 5) * (6 : Int32)) + l4) l2 st).bind (fun q2 => if q2.1 = l1 then (fX7_safe_b77 (fun zl1 zl2 zl3 zl4 zst => fX7_safe_b33 n zl1 zl2 zl3 zl4 zst) l1 l2 (l3 ||| (jshl (1 : Int32) l4)) l4 q2.2) else (fX7_safe_b77 (fun zl1 zl2 zl3 zl4 zst => fX7_safe_b33 n zl1 zl2 zl3 zl4 zst) l1 l2 l3 l4 q2.2)))
set_option maxHeartbeats 1000000 in
set_option maxRecDepth 20000 in
theorem wX7_safe_b33 {E : Ev} {x : Cx} {r0 : Int32} {u0 : St} (B : Bd E x (some FieldType.int) (8) 0 0 (some (.int r0)) u0) : ∀ (n : Nat) (l1 : Int32) (l2 : Int32) (l3 : Int32) (l4 : Int32) (st : St) , fX7_safe_b33 n l1 l2 l3 l4 st = some (r0, u0) → G E WT x RX7 cX7_safe 5 (0, 0) st 33 [(0, .ref (eB E + 0)), (1, .int l1), (2, .int l2), (3, .int l3), (4, .int l4)] [] := by
  intro n
  induction n with
  | zero =>
    intros
    rename_i hf
    rw [fX7_safe_b33] at hf
    cases hf
  | succ n ih =>
    intro l1 l2 l3 l4 st hf
    rw [fX7_safe_b33] at hf
    refine g_iload 4 rfl dX7_safe_33 ?_
    refine g_aload_n rfl 0 rfl dX7_safe_35 ?_
    refine g_get (j := 0) cok7 (by decide) (.ref (eB E + 1)) (Or.inl tw2_64) oS0 vS0_0 dX7_safe_36 ?_
    refine g_get (j := 4) cok4 (by decide) (.int (sI st 1 4)) (Or.inr nf_10) oS1 (fun _ => rfl) dX7_safe_39 ?_
    refine g_icmp_ge 83 (by decide) dX7_safe_42 (fun h1 => ?_) (fun h1 => ?_)
    · rw [if_pos h1] at hf
      refine g_iload_n rfl 3 rfl dX7_safe_83 ?_
      exact g_iret B.2.2.2 B.2.2.1 (congrArg (fun z => some (Value.int z)) (Prod.mk.inj (Option.some.inj hf)).1.symm) (Prod.mk.inj (Option.some.inj hf)).2.symm dX7_safe_84
    · rw [if_neg h1] at hf
      refine g_aload_n rfl 0 rfl dX7_safe_45 ?_
      refine g_get (j := 6) cok7 (by decide) (.ref (eB E + 25)) (Or.inl tw2_70) oS0 vS0_6 dX7_safe_46 ?_
      refine g_aload_n rfl 0 rfl dX7_safe_49 ?_
      refine g_get (j := 0) cok7 (by decide) (.ref (eB E + 1)) (Or.inl tw2_64) oS0 vS0_0 dX7_safe_50 ?_
      refine g_get (j := 5) cok4 (by decide) (.int (sI st 1 5)) (Or.inr nf_13) oS1 (fun _ => rfl) dX7_safe_53 ?_
      refine g_bipush (6 : Int32) (by decide) dX7_safe_56 ?_
      refine g_imul dX7_safe_58 ?_
      refine g_iload 4 rfl dX7_safe_59 ?_
      refine g_iadd dX7_safe_61 ?_
      refine g_iload_n rfl 2 rfl dX7_safe_62 ?_
      obtain ⟨q2, h3, hf⟩ := bnd_some hf
      refine g_callVN0i (As := [.int (((sI st 1 5) * (6 : Int32)) + l4), .int l2]) (rest := []) cok1 mok_X1_lastBy nmm_39 tw4_21 ts4_3 oS25 B.1 (by decide) (kX1_lastBy  h3) rfl rfl (Nat.le_of_ble_eq_true rfl) ⟨Nat.le_refl _, Nat.le_refl _⟩ dX7_safe_63 ?_
      refine g_iload_n rfl 1 rfl dX7_safe_66 ?_
      refine g_icmp_ne 77 (by decide) dX7_safe_67 (fun h4 => ?_) (fun h4 => ?_)
      · rw [if_neg h4] at hf
        refine g_lvs [0, 1, 2, 3, 4] rfl ?_
        exact wX7_safe_b77 B ih l1 l2 l3 l4 q2.2 hf
      · rw [if_pos h4] at hf
        refine g_iload_n rfl 3 rfl dX7_safe_70 ?_
        refine g_iconst (1 : Int32) (by decide) dX7_safe_71 ?_
        refine g_iload 4 rfl dX7_safe_72 ?_
        refine g_ishl dX7_safe_74 ?_
        refine g_ior dX7_safe_75 ?_
        refine g_istore_n rfl [(3, .int (l3 ||| (jshl (1 : Int32) l4))), (0, .ref (eB E + 0)), (1, .int l1), (2, .int l2), (4, .int l4)] (by decide) rfl dX7_safe_76 ?_
        refine g_lvs [1, 2, 3, 0, 4] rfl ?_
        exact wX7_safe_b77 B ih l1 l2 (l3 ||| (jshl (1 : Int32) l4)) l4 q2.2 hf
def fX7_safe (p1 : Int32) (p2 : Int32) (st : St) : Option (Int32 × St) :=
  if (fX4_lacksChild st p1) = 0 then (if (fX4_lacksRhyme st p2) = 0 then ((fX7_tuneVoice st).bind (fun q3 => fX7_safe_b33 FU p1 p2 (0 : Int32) (0 : Int32) q3)) else (some ((-1 : Int32), st))) else (some ((-1 : Int32), st))
set_option maxHeartbeats 1000000 in
set_option maxRecDepth 20000 in
theorem wX7_safe {E : Ev} {x : Cx} {r0 : Int32} {u0 : St} (B : Bd E x (some FieldType.int) (8) 0 0 (some (.int r0)) u0) (p1 : Int32) (p2 : Int32) (st : St)  (hf : fX7_safe p1 p2 st = some (r0, u0)) : G E WT x RX7 cX7_safe 5 (0, 0) st 0 [(0, .ref (eB E + 0)), (1, .int p1), (2, .int p2)] [] := by
  unfold fX7_safe at hf
  refine g_aload_n rfl 0 rfl dX7_safe_0 ?_
  refine g_get (j := 0) cok7 (by decide) (.ref (eB E + 1)) (Or.inl tw2_64) oS0 vS0_0 dX7_safe_1 ?_
  refine g_iload_n rfl 1 rfl dX7_safe_4 ?_
  refine g_callVN0i (As := [.int p1]) (rest := []) cok4 mok_X4_lacksChild nmm_10 tw2_148 ts1_6 oS1 B.1 (by decide) (kX4_lacksChild  rfl) rfl rfl (Nat.le_of_ble_eq_true rfl) ⟨Nat.le_refl _, Nat.le_refl _⟩ dX7_safe_5 ?_
  refine g_if_ne 22 (by decide) dX7_safe_8 (fun h1 => ?_) (fun h1 => ?_)
  · rw [if_neg h1] at hf
    refine g_iconst (-1 : Int32) (by decide) dX7_safe_22 ?_
    exact g_iret B.2.2.2 B.2.2.1 (congrArg (fun z => some (Value.int z)) (Prod.mk.inj (Option.some.inj hf)).1.symm) (Prod.mk.inj (Option.some.inj hf)).2.symm dX7_safe_23
  · rw [if_pos h1] at hf
    refine g_aload_n rfl 0 rfl dX7_safe_11 ?_
    refine g_get (j := 0) cok7 (by decide) (.ref (eB E + 1)) (Or.inl tw2_64) oS0 vS0_0 dX7_safe_12 ?_
    refine g_iload_n rfl 2 rfl dX7_safe_15 ?_
    refine g_callVN0i (As := [.int p2]) (rest := []) cok4 mok_X4_lacksRhyme nmm_11 tw2_160 ts1_7 oS1 B.1 (by decide) (kX4_lacksRhyme  rfl) rfl rfl (Nat.le_of_ble_eq_true rfl) ⟨Nat.le_refl _, Nat.le_refl _⟩ dX7_safe_16 ?_
    refine g_if_eq 24 (by decide) dX7_safe_19 (fun h2 => ?_) (fun h2 => ?_)
    · rw [if_pos h2] at hf
      refine g_aload_n rfl 0 rfl dX7_safe_24 ?_
      obtain ⟨q3, h4, hf⟩ := bnd_some hf
      refine g_callV0v (As := []) (rest := []) cok7 mok_X7_tuneVoice tw2_172 tw2_174 ts1_8 oS0 B.1 (by decide) (kX7_tuneVoice  h4) rfl rfl (Nat.le_of_ble_eq_true rfl) ⟨Nat.le_refl _, Nat.le_refl _⟩ dX7_safe_25 ?_
      refine g_iconst (0 : Int32) (by decide) dX7_safe_28 ?_
      refine g_istore_n rfl [(3, .int (0 : Int32)), (0, .ref (eB E + 0)), (1, .int p1), (2, .int p2)] (by decide) rfl dX7_safe_29 ?_
      refine g_iconst (0 : Int32) (by decide) dX7_safe_30 ?_
      refine g_istore [(4, .int (0 : Int32)), (3, .int (0 : Int32)), (0, .ref (eB E + 0)), (1, .int p1), (2, .int p2)] (by decide) rfl dX7_safe_31 ?_
      refine g_lvs [2, 3, 4, 1, 0] rfl ?_
      exact wX7_safe_b33 B  FU p1 p2 (0 : Int32) (0 : Int32) q3 hf
    · rw [if_neg h2] at hf
      refine g_iconst (-1 : Int32) (by decide) dX7_safe_22 ?_
      exact g_iret B.2.2.2 B.2.2.1 (congrArg (fun z => some (Value.int z)) (Prod.mk.inj (Option.some.inj hf)).1.symm) (Prod.mk.inj (Option.some.inj hf)).2.symm dX7_safe_23
theorem kX7_safe {l : Launch} {E : Ev} {st : St} {p1 : Int32} {p2 : Int32} {r0 : Int32} {u0 : St}  (hf : fX7_safe p1 p2 st = some (r0, u0)) : CM l E WT yX7_safe cX7_safe 5 (some FieldType.int) 8 0 0 [.ref (eB E + 0), .int p1, .int p2] st (some (.int r0)) u0 :=
  CM.intro mok_X7_safe (Nat.le_of_ble_eq_true rfl) (fun x hl hR ht hr hQ _ => wX7_safe ⟨hR, ht, hr, hQ⟩ p1 p2 st hf)
def fX7_alone (p1 : Int32) (p2 : Int32) (st : St) : Option (Int32 × St) :=
  if (fX4_lacksChild st p1) = 0 then ((fX7_tuneVoice st).bind (fun q2 => (fX4_state q2).bind (fun q4 => (fX1_reach q4 (jshl (1 : Int32) p1) q2).bind (fun q6 => if q6.1 = (-1 : Int32) then (some ((-1 : Int32), q6.2)) else ((fX1_sayingsTo q6.2 q6.1).bind (fun q9 => if p2 = (-1 : Int32) then (some (q9, q6.2)) else (if p2 < 0 then (some ((-1 : Int32), q6.2)) else (if p2 < q9 then ((fX1_rhymeAhead q6.2 q6.1 ((q9 - (1 : Int32)) - p2)).bind (fun q14 => some (q14, q6.2))) else (some ((-1 : Int32), q6.2)))))))))) else (some ((-1 : Int32), st))
set_option maxHeartbeats 1000000 in
set_option maxRecDepth 20000 in
theorem wX7_alone {E : Ev} {x : Cx} {r0 : Int32} {u0 : St} (B : Bd E x (some FieldType.int) (8) 0 0 (some (.int r0)) u0) (p1 : Int32) (p2 : Int32) (st : St)  (hf : fX7_alone p1 p2 st = some (r0, u0)) : G E WT x RX7 cX7_alone 5 (0, 0) st 0 [(0, .ref (eB E + 0)), (1, .int p1), (2, .int p2)] [] := by
  unfold fX7_alone at hf
  refine g_aload_n rfl 0 rfl dX7_alone_0 ?_
  refine g_get (j := 0) cok7 (by decide) (.ref (eB E + 1)) (Or.inl tw2_64) oS0 vS0_0 dX7_alone_1 ?_
  refine g_iload_n rfl 1 rfl dX7_alone_4 ?_
  refine g_callVN0i (As := [.int p1]) (rest := []) cok4 mok_X4_lacksChild nmm_10 tw2_148 ts1_6 oS1 B.1 (by decide) (kX4_lacksChild  rfl) rfl rfl (Nat.le_of_ble_eq_true rfl) ⟨Nat.le_refl _, Nat.le_refl _⟩ dX7_alone_5 ?_
  refine g_if_eq 13 (by decide) dX7_alone_8 (fun h1 => ?_) (fun h1 => ?_)
  · rw [if_pos h1] at hf
    refine g_aload_n rfl 0 rfl dX7_alone_13 ?_
    obtain ⟨q2, h3, hf⟩ := bnd_some hf
    refine g_callV0v (As := []) (rest := []) cok7 mok_X7_tuneVoice tw2_172 tw2_174 ts1_8 oS0 B.1 (by decide) (kX7_tuneVoice  h3) rfl rfl (Nat.le_of_ble_eq_true rfl) ⟨Nat.le_refl _, Nat.le_refl _⟩ dX7_alone_14 ?_
    refine g_aload_n rfl 0 rfl dX7_alone_17 ?_
    refine g_get (j := 6) cok7 (by decide) (.ref (eB E + 25)) (Or.inl tw2_70) oS0 vS0_6 dX7_alone_18 ?_
    refine g_aload_n rfl 0 rfl dX7_alone_21 ?_
    refine g_get (j := 0) cok7 (by decide) (.ref (eB E + 1)) (Or.inl tw2_64) oS0 vS0_0 dX7_alone_22 ?_
    obtain ⟨q4, h5, hf⟩ := bnd_some hf
    refine g_callVN0i (As := []) (rest := [.ref (eB E + 25)]) cok4 mok_X4_state nmm_38 tw4_16 ts4_2 oS1 B.1 (by decide) (kX4_state  h5) rfl rfl (Nat.le_of_ble_eq_true rfl) ⟨Nat.le_refl _, Nat.le_refl _⟩ dX7_alone_25 ?_
    refine g_iconst (1 : Int32) (by decide) dX7_alone_28 ?_
    refine g_iload_n rfl 1 rfl dX7_alone_29 ?_
    refine g_ishl dX7_alone_30 ?_
    obtain ⟨q6, h7, hf⟩ := bnd_some hf
    refine g_callVN0i (As := [.int q4, .int (jshl (1 : Int32) p1)]) (rest := []) cok1 mok_X1_reach nmm_41 tw4_50 ts4_5 oS25 B.1 (by decide) (kX1_reach  h7) rfl rfl (Nat.le_of_ble_eq_true rfl) ⟨Nat.le_refl _, Nat.le_refl _⟩ dX7_alone_31 ?_
    refine g_istore_n rfl [(3, .int q6.1), (0, .ref (eB E + 0)), (1, .int p1), (2, .int p2)] (by decide) rfl dX7_alone_34 ?_
    refine g_iload_n rfl 0 rfl dX7_alone_35 ?_
    refine g_iconst (-1 : Int32) (by decide) dX7_alone_36 ?_
    refine g_icmp_ne 42 (by decide) dX7_alone_37 (fun h8 => ?_) (fun h8 => ?_)
    · rw [if_neg h8] at hf
      refine g_aload_n rfl 1 rfl dX7_alone_42 ?_
      refine g_get (j := 6) cok7 (by decide) (.ref (eB E + 25)) (Or.inl tw2_70) oS0 vS0_6 dX7_alone_43 ?_
      refine g_iload_n rfl 0 rfl dX7_alone_46 ?_
      obtain ⟨q9, h10, hf⟩ := bnd_some hf
      refine g_callVN0i (As := [.int q6.1]) (rest := []) cok1 mok_X1_sayingsTo nmm_42 tw4_55 ts4_6 oS25 B.1 (by decide) (kX1_sayingsTo  h10) rfl rfl (Nat.le_of_ble_eq_true rfl) ⟨Nat.le_refl _, Nat.le_refl _⟩ dX7_alone_47 ?_
      refine g_istore [(4, .int q9), (3, .int q6.1), (0, .ref (eB E + 0)), (1, .int p1), (2, .int p2)] (by decide) rfl dX7_alone_50 ?_
      refine g_iload_n rfl 4 rfl dX7_alone_52 ?_
      refine g_iconst (-1 : Int32) (by decide) dX7_alone_53 ?_
      refine g_icmp_ne 60 (by decide) dX7_alone_54 (fun h11 => ?_) (fun h11 => ?_)
      · rw [if_neg h11] at hf
        refine g_iload_n rfl 4 rfl dX7_alone_60 ?_
        refine g_if_lt 70 (by decide) dX7_alone_61 (fun h12 => ?_) (fun h12 => ?_)
        · rw [if_pos h12] at hf
          refine g_iconst (-1 : Int32) (by decide) dX7_alone_70 ?_
          refine g_goto 88 (by decide) dX7_alone_71 ?_
          exact g_iret B.2.2.2 B.2.2.1 (congrArg (fun z => some (Value.int z)) (Prod.mk.inj (Option.some.inj hf)).1.symm) (Prod.mk.inj (Option.some.inj hf)).2.symm dX7_alone_88
        · rw [if_neg h12] at hf
          refine g_iload_n rfl 4 rfl dX7_alone_64 ?_
          refine g_iload 0 rfl dX7_alone_65 ?_
          refine g_icmp_lt 74 (by decide) dX7_alone_67 (fun h13 => ?_) (fun h13 => ?_)
          · rw [if_pos h13] at hf
            refine g_aload_n rfl 2 rfl dX7_alone_74 ?_
            refine g_get (j := 6) cok7 (by decide) (.ref (eB E + 25)) (Or.inl tw2_70) oS0 vS0_6 dX7_alone_75 ?_
            refine g_iload_n rfl 1 rfl dX7_alone_78 ?_
            refine g_iload 0 rfl dX7_alone_79 ?_
            refine g_iconst (1 : Int32) (by decide) dX7_alone_81 ?_
            refine g_isub dX7_alone_82 ?_
            refine g_iload_n rfl 4 rfl dX7_alone_83 ?_
            refine g_isub dX7_alone_84 ?_
            obtain ⟨q14, h15, hf⟩ := bnd_some hf
            refine g_callVN0i (As := [.int q6.1, .int ((q9 - (1 : Int32)) - p2)]) (rest := []) cok1 mok_X1_rhymeAhead nmm_43 tw4_59 ts4_7 oS25 B.1 (by decide) (kX1_rhymeAhead  h15) rfl rfl (Nat.le_of_ble_eq_true rfl) ⟨Nat.le_refl _, Nat.le_refl _⟩ dX7_alone_85 ?_
            exact g_iret B.2.2.2 B.2.2.1 (congrArg (fun z => some (Value.int z)) (Prod.mk.inj (Option.some.inj hf)).1.symm) (Prod.mk.inj (Option.some.inj hf)).2.symm dX7_alone_88
          · rw [if_neg h13] at hf
            refine g_iconst (-1 : Int32) (by decide) dX7_alone_70 ?_
            refine g_goto 88 (by decide) dX7_alone_71 ?_
            exact g_iret B.2.2.2 B.2.2.1 (congrArg (fun z => some (Value.int z)) (Prod.mk.inj (Option.some.inj hf)).1.symm) (Prod.mk.inj (Option.some.inj hf)).2.symm dX7_alone_88
      · rw [if_pos h11] at hf
        refine g_iload 0 rfl dX7_alone_57 ?_
        exact g_iret B.2.2.2 B.2.2.1 (congrArg (fun z => some (Value.int z)) (Prod.mk.inj (Option.some.inj hf)).1.symm) (Prod.mk.inj (Option.some.inj hf)).2.symm dX7_alone_59
    · rw [if_pos h8] at hf
      refine g_iconst (-1 : Int32) (by decide) dX7_alone_40 ?_
      exact g_iret B.2.2.2 B.2.2.1 (congrArg (fun z => some (Value.int z)) (Prod.mk.inj (Option.some.inj hf)).1.symm) (Prod.mk.inj (Option.some.inj hf)).2.symm dX7_alone_41
  · rw [if_neg h1] at hf
    refine g_iconst (-1 : Int32) (by decide) dX7_alone_11 ?_
    exact g_iret B.2.2.2 B.2.2.1 (congrArg (fun z => some (Value.int z)) (Prod.mk.inj (Option.some.inj hf)).1.symm) (Prod.mk.inj (Option.some.inj hf)).2.symm dX7_alone_12
theorem kX7_alone {l : Launch} {E : Ev} {st : St} {p1 : Int32} {p2 : Int32} {r0 : Int32} {u0 : St}  (hf : fX7_alone p1 p2 st = some (r0, u0)) : CM l E WT yX7_alone cX7_alone 5 (some FieldType.int) 8 0 0 [.ref (eB E + 0), .int p1, .int p2] st (some (.int r0)) u0 :=
  CM.intro mok_X7_alone (Nat.le_of_ble_eq_true rfl) (fun x hl hR ht hr hQ _ => wX7_alone ⟨hR, ht, hr, hQ⟩ p1 p2 st hf)
def fX7_game_b11 (l1 : Int32) (st : St) : Option (Int32 × St) :=
  (fX7_tuneVoice st).bind (fun q1 => (fX4_state q1).bind (fun q3 => (fX1_play q3 q1).bind (fun q5 => if l1 = 0 then (some (q5.1, q5.2)) else (some (sI q5.2 25 11, q5.2)))))
set_option maxHeartbeats 1000000 in
set_option maxRecDepth 20000 in
theorem wX7_game_b11 {E : Ev} {x : Cx} {r0 : Int32} {u0 : St} (B : Bd E x (some FieldType.int) (9) 0 0 (some (.int r0)) u0) (l1 : Int32) (st : St)  (hf : fX7_game_b11 l1 st = some (r0, u0)) : G E WT x RX7 cX7_game 3 (0, 0) st 11 [(0, .ref (eB E + 0)), (1, .int l1)] [] := by
  unfold fX7_game_b11 at hf
  refine g_aload_n rfl 0 rfl dX7_game_11 ?_
  obtain ⟨q1, h2, hf⟩ := bnd_some hf
  refine g_callV0v (As := []) (rest := []) cok7 mok_X7_tuneVoice tw2_172 tw2_174 ts1_8 oS0 B.1 (by decide) (kX7_tuneVoice  h2) rfl rfl (Nat.le_of_ble_eq_true rfl) ⟨Nat.le_refl _, Nat.le_refl _⟩ dX7_game_12 ?_
  refine g_aload_n rfl 0 rfl dX7_game_15 ?_
  refine g_get (j := 6) cok7 (by decide) (.ref (eB E + 25)) (Or.inl tw2_70) oS0 vS0_6 dX7_game_16 ?_
  refine g_aload_n rfl 0 rfl dX7_game_19 ?_
  refine g_get (j := 0) cok7 (by decide) (.ref (eB E + 1)) (Or.inl tw2_64) oS0 vS0_0 dX7_game_20 ?_
  obtain ⟨q3, h4, hf⟩ := bnd_some hf
  refine g_callVN0i (As := []) (rest := [.ref (eB E + 25)]) cok4 mok_X4_state nmm_38 tw4_16 ts4_2 oS1 B.1 (by decide) (kX4_state  h4) rfl rfl (Nat.le_of_ble_eq_true rfl) ⟨Nat.le_refl _, Nat.le_refl _⟩ dX7_game_23 ?_
  obtain ⟨q5, h6, hf⟩ := bnd_some hf
  refine g_callVN0i (As := [.int q3]) (rest := []) cok1 mok_X1_play nmm_44 tw4_67 ts4_8 oS25 B.1 (by decide) (kX1_play  h6) rfl rfl (Nat.le_of_ble_eq_true rfl) ⟨Nat.le_refl _, Nat.le_refl _⟩ dX7_game_26 ?_
  refine g_istore_n rfl [(2, .int q5.1), (0, .ref (eB E + 0)), (1, .int l1)] (by decide) rfl dX7_game_29 ?_
  refine g_iload_n rfl 2 rfl dX7_game_30 ?_
  refine g_if_ne 38 (by decide) dX7_game_31 (fun h7 => ?_) (fun h7 => ?_)
  · rw [if_neg h7] at hf
    refine g_aload_n rfl 1 rfl dX7_game_38 ?_
    refine g_get (j := 6) cok7 (by decide) (.ref (eB E + 25)) (Or.inl tw2_70) oS0 vS0_6 dX7_game_39 ?_
    refine g_get (j := 11) cok1 (by decide) (.int (sI q5.2 25 11)) (Or.inr nf_45) oS25 (fun _ => rfl) dX7_game_42 ?_
    exact g_iret B.2.2.2 B.2.2.1 (congrArg (fun z => some (Value.int z)) (Prod.mk.inj (Option.some.inj hf)).1.symm) (Prod.mk.inj (Option.some.inj hf)).2.symm dX7_game_45
  · rw [if_pos h7] at hf
    refine g_iload_n rfl 0 rfl dX7_game_34 ?_
    refine g_goto 45 (by decide) dX7_game_35 ?_
    exact g_iret B.2.2.2 B.2.2.1 (congrArg (fun z => some (Value.int z)) (Prod.mk.inj (Option.some.inj hf)).1.symm) (Prod.mk.inj (Option.some.inj hf)).2.symm dX7_game_45
def fX7_game (p1 : Int32) (st : St) : Option (Int32 × St) :=
  if p1 = 0 then (fX7_game_b11 p1 st) else (if p1 = (1 : Int32) then (fX7_game_b11 p1 st) else (some ((-1 : Int32), st)))
set_option maxHeartbeats 1000000 in
set_option maxRecDepth 20000 in
theorem wX7_game {E : Ev} {x : Cx} {r0 : Int32} {u0 : St} (B : Bd E x (some FieldType.int) (9) 0 0 (some (.int r0)) u0) (p1 : Int32) (st : St)  (hf : fX7_game p1 st = some (r0, u0)) : G E WT x RX7 cX7_game 3 (0, 0) st 0 [(0, .ref (eB E + 0)), (1, .int p1)] [] := by
  unfold fX7_game at hf
  refine g_iload_n rfl 1 rfl dX7_game_0 ?_
  refine g_if_eq 11 (by decide) dX7_game_1 (fun h1 => ?_) (fun h1 => ?_)
  · rw [if_pos h1] at hf
    refine g_lvs [0, 1] rfl ?_
    exact wX7_game_b11 B  p1 st hf
  · rw [if_neg h1] at hf
    refine g_iload_n rfl 1 rfl dX7_game_4 ?_
    refine g_iconst (1 : Int32) (by decide) dX7_game_5 ?_
    refine g_icmp_eq 11 (by decide) dX7_game_6 (fun h2 => ?_) (fun h2 => ?_)
    · rw [if_pos h2] at hf
      refine g_lvs [0, 1] rfl ?_
      exact wX7_game_b11 B  p1 st hf
    · rw [if_neg h2] at hf
      refine g_iconst (-1 : Int32) (by decide) dX7_game_9 ?_
      exact g_iret B.2.2.2 B.2.2.1 (congrArg (fun z => some (Value.int z)) (Prod.mk.inj (Option.some.inj hf)).1.symm) (Prod.mk.inj (Option.some.inj hf)).2.symm dX7_game_10
theorem kX7_game {l : Launch} {E : Ev} {st : St} {p1 : Int32} {r0 : Int32} {u0 : St}  (hf : fX7_game p1 st = some (r0, u0)) : CM l E WT yX7_game cX7_game 3 (some FieldType.int) 9 0 0 [.ref (eB E + 0), .int p1] st (some (.int r0)) u0 :=
  CM.intro mok_X7_game (Nat.le_of_ble_eq_true rfl) (fun x hl hR ht hr hQ _ => wX7_game ⟨hR, ht, hr, hQ⟩ p1 st hf)
def fX7_chances (p1 : Int32) (p2 : Int32) (st : St) : Option (Int64 × St) :=
  if (fX4_lacksChild st p1) = 0 then (if (sI st 1 6) = 0 then (some ((-1 : Int64), st)) else (if p2 < 0 then (some ((-1 : Int64), st)) else (if p2 ≤ (20 : Int32) then ((fX7_tuneVoice st).bind (fun q5 => (fX4_state q5).bind (fun q7 => fX1_partsIn q7 p1 p2 q5))) else (some ((-1 : Int64), st))))) else (some ((-1 : Int64), st))
set_option maxHeartbeats 1000000 in
set_option maxRecDepth 20000 in
theorem wX7_chances {E : Ev} {x : Cx} {r0 : Int64} {u0 : St} (B : Bd E x (some FieldType.long) (9) 0 0 (some (.long r0)) u0) (p1 : Int32) (p2 : Int32) (st : St)  (hf : fX7_chances p1 p2 st = some (r0, u0)) : G E WT x RX7 cX7_chances 3 (0, 0) st 0 [(0, .ref (eB E + 0)), (1, .int p1), (2, .int p2)] [] := by
  unfold fX7_chances at hf
  refine g_aload_n rfl 0 rfl dX7_chances_0 ?_
  refine g_get (j := 0) cok7 (by decide) (.ref (eB E + 1)) (Or.inl tw2_64) oS0 vS0_0 dX7_chances_1 ?_
  refine g_iload_n rfl 1 rfl dX7_chances_4 ?_
  refine g_callVN0i (As := [.int p1]) (rest := []) cok4 mok_X4_lacksChild nmm_10 tw2_148 ts1_6 oS1 B.1 (by decide) (kX4_lacksChild  rfl) rfl rfl (Nat.le_of_ble_eq_true rfl) ⟨Nat.le_refl _, Nat.le_refl _⟩ dX7_chances_5 ?_
  refine g_if_ne 31 (by decide) dX7_chances_8 (fun h1 => ?_) (fun h1 => ?_)
  · rw [if_neg h1] at hf
    refine g_ldc2 tw4_79 dX7_chances_31 ?_
    exact g_lret B.2.2.2 B.2.2.1 (congrArg (fun z => some (Value.long z)) (Prod.mk.inj (Option.some.inj hf)).1.symm) (Prod.mk.inj (Option.some.inj hf)).2.symm dX7_chances_34
  · rw [if_pos h1] at hf
    refine g_aload_n rfl 0 rfl dX7_chances_11 ?_
    refine g_get (j := 0) cok7 (by decide) (.ref (eB E + 1)) (Or.inl tw2_64) oS0 vS0_0 dX7_chances_12 ?_
    refine g_get (j := 6) cok4 (by decide) (.int (sI st 1 6)) (Or.inr nf_17) oS1 (fun _ => rfl) dX7_chances_15 ?_
    refine g_if_eq 31 (by decide) dX7_chances_18 (fun h2 => ?_) (fun h2 => ?_)
    · rw [if_pos h2] at hf
      refine g_ldc2 tw4_79 dX7_chances_31 ?_
      exact g_lret B.2.2.2 B.2.2.1 (congrArg (fun z => some (Value.long z)) (Prod.mk.inj (Option.some.inj hf)).1.symm) (Prod.mk.inj (Option.some.inj hf)).2.symm dX7_chances_34
    · rw [if_neg h2] at hf
      refine g_iload_n rfl 2 rfl dX7_chances_21 ?_
      refine g_if_lt 31 (by decide) dX7_chances_22 (fun h3 => ?_) (fun h3 => ?_)
      · rw [if_pos h3] at hf
        refine g_ldc2 tw4_79 dX7_chances_31 ?_
        exact g_lret B.2.2.2 B.2.2.1 (congrArg (fun z => some (Value.long z)) (Prod.mk.inj (Option.some.inj hf)).1.symm) (Prod.mk.inj (Option.some.inj hf)).2.symm dX7_chances_34
      · rw [if_neg h3] at hf
        refine g_iload_n rfl 2 rfl dX7_chances_25 ?_
        refine g_bipush (20 : Int32) (by decide) dX7_chances_26 ?_
        refine g_icmp_le 35 (by decide) dX7_chances_28 (fun h4 => ?_) (fun h4 => ?_)
        · rw [if_pos h4] at hf
          refine g_aload_n rfl 0 rfl dX7_chances_35 ?_
          obtain ⟨q5, h6, hf⟩ := bnd_some hf
          refine g_callV0v (As := []) (rest := []) cok7 mok_X7_tuneVoice tw2_172 tw2_174 ts1_8 oS0 B.1 (by decide) (kX7_tuneVoice  h6) rfl rfl (Nat.le_of_ble_eq_true rfl) ⟨Nat.le_refl _, Nat.le_refl _⟩ dX7_chances_36 ?_
          refine g_aload_n rfl 0 rfl dX7_chances_39 ?_
          refine g_get (j := 6) cok7 (by decide) (.ref (eB E + 25)) (Or.inl tw2_70) oS0 vS0_6 dX7_chances_40 ?_
          refine g_aload_n rfl 0 rfl dX7_chances_43 ?_
          refine g_get (j := 0) cok7 (by decide) (.ref (eB E + 1)) (Or.inl tw2_64) oS0 vS0_0 dX7_chances_44 ?_
          obtain ⟨q7, h8, hf⟩ := bnd_some hf
          refine g_callVN0i (As := []) (rest := [.ref (eB E + 25)]) cok4 mok_X4_state nmm_38 tw4_16 ts4_2 oS1 B.1 (by decide) (kX4_state  h8) rfl rfl (Nat.le_of_ble_eq_true rfl) ⟨Nat.le_refl _, Nat.le_refl _⟩ dX7_chances_47 ?_
          refine g_iload_n rfl 1 rfl dX7_chances_50 ?_
          refine g_iload_n rfl 2 rfl dX7_chances_51 ?_
          refine g_callVN0l (As := [.int q7, .int p1, .int p2]) (rest := []) cok1 mok_X1_partsIn nmm_46 tw4_82 ts4_10 oS25 B.1 (by decide) (kX1_partsIn  hf) rfl rfl (Nat.le_of_ble_eq_true rfl) ⟨Nat.le_refl _, Nat.le_refl _⟩ dX7_chances_52 ?_
          exact g_lret B.2.2.2 B.2.2.1 rfl rfl dX7_chances_55
        · rw [if_neg h4] at hf
          refine g_ldc2 tw4_79 dX7_chances_31 ?_
          exact g_lret B.2.2.2 B.2.2.1 (congrArg (fun z => some (Value.long z)) (Prod.mk.inj (Option.some.inj hf)).1.symm) (Prod.mk.inj (Option.some.inj hf)).2.symm dX7_chances_34
theorem kX7_chances {l : Launch} {E : Ev} {st : St} {p1 : Int32} {p2 : Int32} {r0 : Int64} {u0 : St}  (hf : fX7_chances p1 p2 st = some (r0, u0)) : CM l E WT yX7_chances cX7_chances 3 (some FieldType.long) 9 0 0 [.ref (eB E + 0), .int p1, .int p2] st (some (.long r0)) u0 :=
  CM.intro mok_X7_chances (Nat.le_of_ble_eq_true rfl) (fun x hl hR ht hr hQ _ => wX7_chances ⟨hR, ht, hr, hQ⟩ p1 p2 st hf)
def fX7_said (p1 : Int32) (p2 : Int32) (p3 : Int32) (st : St) : Option (Int32 × St) :=
  if p1 < 0 then (some ((-1 : Int32), st)) else (if (4 : Int32) < p1 then (some ((-1 : Int32), st)) else (if (-1 : Int32) ≤ p2 then ((fX7_tuneVoice st).bind (fun q4 => (fX1_rowsSaid p1 p2 q4).bind (fun q6 => if p2 = (-1 : Int32) then (some (q6.1, q6.2)) else (if q6.1 = (-1 : Int32) then (some (q6.1, q6.2)) else (if p3 < 0 then (some ((-1 : Int32), q6.2)) else (if p3 < p1 then ((fX1_digit q6.2 q6.1 ((p1 - (1 : Int32)) - p3)).bind (fun q12 => some (q12, q6.2))) else (some ((-1 : Int32), q6.2)))))))) else (some ((-1 : Int32), st))))
set_option maxHeartbeats 1000000 in
set_option maxRecDepth 20000 in
theorem wX7_said {E : Ev} {x : Cx} {r0 : Int32} {u0 : St} (B : Bd E x (some FieldType.int) (9) 0 0 (some (.int r0)) u0) (p1 : Int32) (p2 : Int32) (p3 : Int32) (st : St)  (hf : fX7_said p1 p2 p3 st = some (r0, u0)) : G E WT x RX7 cX7_said 5 (0, 0) st 0 [(0, .ref (eB E + 0)), (1, .int p1), (2, .int p2), (3, .int p3)] [] := by
  unfold fX7_said at hf
  refine g_iload_n rfl 1 rfl dX7_said_0 ?_
  refine g_if_lt 14 (by decide) dX7_said_1 (fun h1 => ?_) (fun h1 => ?_)
  · rw [if_pos h1] at hf
    refine g_iconst (-1 : Int32) (by decide) dX7_said_14 ?_
    exact g_iret B.2.2.2 B.2.2.1 (congrArg (fun z => some (Value.int z)) (Prod.mk.inj (Option.some.inj hf)).1.symm) (Prod.mk.inj (Option.some.inj hf)).2.symm dX7_said_15
  · rw [if_neg h1] at hf
    refine g_iload_n rfl 1 rfl dX7_said_4 ?_
    refine g_iconst (4 : Int32) (by decide) dX7_said_5 ?_
    refine g_icmp_gt 14 (by decide) dX7_said_6 (fun h2 => ?_) (fun h2 => ?_)
    · rw [if_pos h2] at hf
      refine g_iconst (-1 : Int32) (by decide) dX7_said_14 ?_
      exact g_iret B.2.2.2 B.2.2.1 (congrArg (fun z => some (Value.int z)) (Prod.mk.inj (Option.some.inj hf)).1.symm) (Prod.mk.inj (Option.some.inj hf)).2.symm dX7_said_15
    · rw [if_neg h2] at hf
      refine g_iload_n rfl 2 rfl dX7_said_9 ?_
      refine g_iconst (-1 : Int32) (by decide) dX7_said_10 ?_
      refine g_icmp_ge 16 (by decide) dX7_said_11 (fun h3 => ?_) (fun h3 => ?_)
      · rw [if_pos h3] at hf
        refine g_aload_n rfl 0 rfl dX7_said_16 ?_
        obtain ⟨q4, h5, hf⟩ := bnd_some hf
        refine g_callV0v (As := []) (rest := []) cok7 mok_X7_tuneVoice tw2_172 tw2_174 ts1_8 oS0 B.1 (by decide) (kX7_tuneVoice  h5) rfl rfl (Nat.le_of_ble_eq_true rfl) ⟨Nat.le_refl _, Nat.le_refl _⟩ dX7_said_17 ?_
        refine g_aload_n rfl 0 rfl dX7_said_20 ?_
        refine g_get (j := 6) cok7 (by decide) (.ref (eB E + 25)) (Or.inl tw2_70) oS0 vS0_6 dX7_said_21 ?_
        refine g_iload_n rfl 1 rfl dX7_said_24 ?_
        refine g_iload_n rfl 2 rfl dX7_said_25 ?_
        obtain ⟨q6, h7, hf⟩ := bnd_some hf
        refine g_callVN0i (As := [.int p1, .int p2]) (rest := []) cok1 mok_X1_rowsSaid nmm_48 tw4_100 ts4_12 oS25 B.1 (by decide) (kX1_rowsSaid  h7) rfl rfl (Nat.le_of_ble_eq_true rfl) ⟨Nat.le_refl _, Nat.le_refl _⟩ dX7_said_26 ?_
        refine g_istore [(4, .int q6.1), (0, .ref (eB E + 0)), (1, .int p1), (2, .int p2), (3, .int p3)] (by decide) rfl dX7_said_29 ?_
        refine g_iload_n rfl 3 rfl dX7_said_31 ?_
        refine g_iconst (-1 : Int32) (by decide) dX7_said_32 ?_
        refine g_icmp_eq 42 (by decide) dX7_said_33 (fun h8 => ?_) (fun h8 => ?_)
        · rw [if_pos h8] at hf
          refine g_iload 0 rfl dX7_said_42 ?_
          exact g_iret B.2.2.2 B.2.2.1 (congrArg (fun z => some (Value.int z)) (Prod.mk.inj (Option.some.inj hf)).1.symm) (Prod.mk.inj (Option.some.inj hf)).2.symm dX7_said_44
        · rw [if_neg h8] at hf
          refine g_iload 0 rfl dX7_said_36 ?_
          refine g_iconst (-1 : Int32) (by decide) dX7_said_38 ?_
          refine g_icmp_ne 45 (by decide) dX7_said_39 (fun h9 => ?_) (fun h9 => ?_)
          · rw [if_neg h9] at hf
            refine g_iload_n rfl 4 rfl dX7_said_45 ?_
            refine g_if_lt 54 (by decide) dX7_said_46 (fun h10 => ?_) (fun h10 => ?_)
            · rw [if_pos h10] at hf
              refine g_iconst (-1 : Int32) (by decide) dX7_said_54 ?_
              refine g_goto 72 (by decide) dX7_said_55 ?_
              exact g_iret B.2.2.2 B.2.2.1 (congrArg (fun z => some (Value.int z)) (Prod.mk.inj (Option.some.inj hf)).1.symm) (Prod.mk.inj (Option.some.inj hf)).2.symm dX7_said_72
            · rw [if_neg h10] at hf
              refine g_iload_n rfl 4 rfl dX7_said_49 ?_
              refine g_iload_n rfl 2 rfl dX7_said_50 ?_
              refine g_icmp_lt 58 (by decide) dX7_said_51 (fun h11 => ?_) (fun h11 => ?_)
              · rw [if_pos h11] at hf
                refine g_aload_n rfl 1 rfl dX7_said_58 ?_
                refine g_get (j := 6) cok7 (by decide) (.ref (eB E + 25)) (Or.inl tw2_70) oS0 vS0_6 dX7_said_59 ?_
                refine g_iload 0 rfl dX7_said_62 ?_
                refine g_iload_n rfl 2 rfl dX7_said_64 ?_
                refine g_iconst (1 : Int32) (by decide) dX7_said_65 ?_
                refine g_isub dX7_said_66 ?_
                refine g_iload_n rfl 4 rfl dX7_said_67 ?_
                refine g_isub dX7_said_68 ?_
                obtain ⟨q12, h13, hf⟩ := bnd_some hf
                refine g_callVN0i (As := [.int q6.1, .int ((p1 - (1 : Int32)) - p3)]) (rest := []) cok1 mok_X1_digit nmm_49 tw4_108 ts4_14 oS25 B.1 (by decide) (kX1_digit  h13) rfl rfl (Nat.le_of_ble_eq_true rfl) ⟨Nat.le_refl _, Nat.le_refl _⟩ dX7_said_69 ?_
                exact g_iret B.2.2.2 B.2.2.1 (congrArg (fun z => some (Value.int z)) (Prod.mk.inj (Option.some.inj hf)).1.symm) (Prod.mk.inj (Option.some.inj hf)).2.symm dX7_said_72
              · rw [if_neg h11] at hf
                refine g_iconst (-1 : Int32) (by decide) dX7_said_54 ?_
                refine g_goto 72 (by decide) dX7_said_55 ?_
                exact g_iret B.2.2.2 B.2.2.1 (congrArg (fun z => some (Value.int z)) (Prod.mk.inj (Option.some.inj hf)).1.symm) (Prod.mk.inj (Option.some.inj hf)).2.symm dX7_said_72
          · rw [if_pos h9] at hf
            refine g_iload 0 rfl dX7_said_42 ?_
            exact g_iret B.2.2.2 B.2.2.1 (congrArg (fun z => some (Value.int z)) (Prod.mk.inj (Option.some.inj hf)).1.symm) (Prod.mk.inj (Option.some.inj hf)).2.symm dX7_said_44
      · rw [if_neg h3] at hf
        refine g_iconst (-1 : Int32) (by decide) dX7_said_14 ?_
        exact g_iret B.2.2.2 B.2.2.1 (congrArg (fun z => some (Value.int z)) (Prod.mk.inj (Option.some.inj hf)).1.symm) (Prod.mk.inj (Option.some.inj hf)).2.symm dX7_said_15
theorem kX7_said {l : Launch} {E : Ev} {st : St} {p1 : Int32} {p2 : Int32} {p3 : Int32} {r0 : Int32} {u0 : St}  (hf : fX7_said p1 p2 p3 st = some (r0, u0)) : CM l E WT yX7_said cX7_said 5 (some FieldType.int) 9 0 0 [.ref (eB E + 0), .int p1, .int p2, .int p3] st (some (.int r0)) u0 :=
  CM.intro mok_X7_said (Nat.le_of_ble_eq_true rfl) (fun x hl hR ht hr hQ _ => wX7_said ⟨hR, ht, hr, hQ⟩ p1 p2 p3 st hf)
def fX7_compare_b51 (l2 : Int32) (s1 : Option Nat) (st : St) : Option (Int32 × St) :=
  (fX6_tune s1 (sI st 5 0) st).bind (fun q2 => (fX4_state q2).bind (fun q4 => fX1_lastBy q4 l2 q2))
set_option maxHeartbeats 1000000 in
set_option maxRecDepth 20000 in
theorem wX7_compare_b51 {E : Ev} {x : Cx} {r0 : Int32} {u0 : St} (B : Bd E x (some FieldType.int) (8) 0 0 (some (.int r0)) u0) (l2 : Int32) (s1 : Option Nat) (st : St) (h_s1 : ∀ b, s1 = some b → Obj st 5 b) (hf : fX7_compare_b51 l2 s1 st = some (r0, u0)) : G E WT x RX7 cX7_compare 3 (0, 0) st 51 [(0, .ref (eB E + 0)), (2, .int l2)] [va_rf (s1.map (fun z => eB E + z)), .ref (eB E + 19)] := by
  unfold fX7_compare_b51 at hf
  refine g_aload_n rfl 0 rfl dX7_compare_51 ?_
  refine g_get (j := 0) cok7 (by decide) (.ref (eB E + 1)) (Or.inl tw2_64) oS0 vS0_0 dX7_compare_52 ?_
  refine g_get (j := 3) cok4 (by decide) (.ref (eB E + 5)) (Or.inr nf_8) oS1 vS1_3 dX7_compare_55 ?_
  refine g_iconst (0 : Int32) (by decide) dX7_compare_58 ?_
  refine g_ialdj 0 rfl aS5 (ixb_in rfl) dX7_compare_59 ?_
  refine g_wt (fun w1 => ?_)
  obtain ⟨q2, h3, hf⟩ := bnd_some hf
  refine g_callVN0v (As := [va_rf (s1.map (fun z => eB E + z)), .int (sI st 5 0)]) (rest := []) cok6 mok_X6_tune nmm_13 tw2_182 ts1_10 oS19 B.1 (by decide) (kX6_tune h_s1 h3) rfl rfl (Nat.le_of_ble_eq_true rfl) ⟨Nat.le_refl _, Nat.le_refl _⟩ dX7_compare_60 ?_
  refine g_aload_n rfl 0 rfl dX7_compare_63 ?_
  refine g_get (j := 6) cok7 (by decide) (.ref (eB E + 25)) (Or.inl tw2_70) oS0 vS0_6 dX7_compare_64 ?_
  refine g_aload_n rfl 0 rfl dX7_compare_67 ?_
  refine g_get (j := 0) cok7 (by decide) (.ref (eB E + 1)) (Or.inl tw2_64) oS0 vS0_0 dX7_compare_68 ?_
  obtain ⟨q4, h5, hf⟩ := bnd_some hf
  refine g_callVN0i (As := []) (rest := [.ref (eB E + 25)]) cok4 mok_X4_state nmm_38 tw4_16 ts4_2 oS1 B.1 (by decide) (kX4_state  h5) rfl rfl (Nat.le_of_ble_eq_true rfl) ⟨Nat.le_refl _, Nat.le_refl _⟩ dX7_compare_71 ?_
  refine g_iload_n rfl 1 rfl dX7_compare_74 ?_
  refine g_callVN0i (As := [.int q4, .int l2]) (rest := []) cok1 mok_X1_lastBy nmm_39 tw4_21 ts4_3 oS25 B.1 (by decide) (kX1_lastBy  hf) rfl rfl (Nat.le_of_ble_eq_true rfl) ⟨Nat.le_refl _, Nat.le_refl _⟩ dX7_compare_75 ?_
  exact g_iret B.2.2.2 B.2.2.1 rfl rfl dX7_compare_78
def fX7_compare_b16 (l1 : Int32) (l2 : Int32) (st : St) : Option (Int32 × St) :=
  if (fX4_lacksRhyme st l2) = 0 then (if l1 = (-1 : Int32) then (fX7_compare_b51 l2 none st) else (chk (ixb l1 6) (fX7_compare_b51 l2 (sR st 4 l1.toNatClampNeg) st))) else (some ((-1 : Int32), st))
set_option maxHeartbeats 1000000 in
set_option maxRecDepth 20000 in
theorem wX7_compare_b16 {E : Ev} {x : Cx} {r0 : Int32} {u0 : St} (B : Bd E x (some FieldType.int) (8) 0 0 (some (.int r0)) u0) (l1 : Int32) (l2 : Int32) (st : St)  (hf : fX7_compare_b16 l1 l2 st = some (r0, u0)) : G E WT x RX7 cX7_compare 3 (0, 0) st 16 [(0, .ref (eB E + 0)), (1, .int l1), (2, .int l2)] [] := by
  unfold fX7_compare_b16 at hf
  refine g_aload_n rfl 0 rfl dX7_compare_16 ?_
  refine g_get (j := 0) cok7 (by decide) (.ref (eB E + 1)) (Or.inl tw2_64) oS0 vS0_0 dX7_compare_17 ?_
  refine g_iload_n rfl 2 rfl dX7_compare_20 ?_
  refine g_callVN0i (As := [.int l2]) (rest := []) cok4 mok_X4_lacksRhyme nmm_11 tw2_160 ts1_7 oS1 B.1 (by decide) (kX4_lacksRhyme  rfl) rfl rfl (Nat.le_of_ble_eq_true rfl) ⟨Nat.le_refl _, Nat.le_refl _⟩ dX7_compare_21 ?_
  refine g_if_eq 29 (by decide) dX7_compare_24 (fun h1 => ?_) (fun h1 => ?_)
  · rw [if_pos h1] at hf
    refine g_aload_n rfl 0 rfl dX7_compare_29 ?_
    refine g_get (j := 5) cok7 (by decide) (.ref (eB E + 19)) (Or.inl tw2_69) oS0 vS0_5 dX7_compare_30 ?_
    refine g_iload_n rfl 1 rfl dX7_compare_33 ?_
    refine g_iconst (-1 : Int32) (by decide) dX7_compare_34 ?_
    refine g_icmp_ne 42 (by decide) dX7_compare_35 (fun h2 => ?_) (fun h2 => ?_)
    · rw [if_neg h2] at hf
      refine g_aload_n rfl 0 rfl dX7_compare_42 ?_
      refine g_get (j := 0) cok7 (by decide) (.ref (eB E + 1)) (Or.inl tw2_64) oS0 vS0_0 dX7_compare_43 ?_
      refine g_get (j := 2) cok4 (by decide) (.ref (eB E + 4)) (Or.inr nf_4) oS1 vS1_2 dX7_compare_46 ?_
      refine g_iload_n rfl 1 rfl dX7_compare_49 ?_
      obtain ⟨h3, hf⟩ := chk_some hf
      refine g_aaldSj l1.toNatClampNeg rfl aS4 (ixb_in h3) dX7_compare_50 ?_
      refine g_lvs [0, 2] rfl ?_
      refine g_wt (fun w4 => ?_)
      exact wX7_compare_b51 B  l2 (sR st 4 l1.toNatClampNeg) st (fun _ h => WT.law w4 (oS1 w4) h) hf
    · rw [if_pos h2] at hf
      refine g_null dX7_compare_38 ?_
      refine g_goto 51 (by decide) dX7_compare_39 ?_
      refine g_lvs [0, 2] rfl ?_
      exact wX7_compare_b51 B  l2 none st (fun _ h => nomatch h) hf
  · rw [if_neg h1] at hf
    refine g_iconst (-1 : Int32) (by decide) dX7_compare_27 ?_
    exact g_iret B.2.2.2 B.2.2.1 (congrArg (fun z => some (Value.int z)) (Prod.mk.inj (Option.some.inj hf)).1.symm) (Prod.mk.inj (Option.some.inj hf)).2.symm dX7_compare_28
def fX7_compare (p1 : Int32) (p2 : Int32) (st : St) : Option (Int32 × St) :=
  if p1 = (-1 : Int32) then (fX7_compare_b16 p1 p2 st) else (if (fX4_lacksLaw st p1) = 0 then (fX7_compare_b16 p1 p2 st) else (some ((-1 : Int32), st)))
set_option maxHeartbeats 1000000 in
set_option maxRecDepth 20000 in
theorem wX7_compare {E : Ev} {x : Cx} {r0 : Int32} {u0 : St} (B : Bd E x (some FieldType.int) (8) 0 0 (some (.int r0)) u0) (p1 : Int32) (p2 : Int32) (st : St)  (hf : fX7_compare p1 p2 st = some (r0, u0)) : G E WT x RX7 cX7_compare 3 (0, 0) st 0 [(0, .ref (eB E + 0)), (1, .int p1), (2, .int p2)] [] := by
  unfold fX7_compare at hf
  refine g_iload_n rfl 1 rfl dX7_compare_0 ?_
  refine g_iconst (-1 : Int32) (by decide) dX7_compare_1 ?_
  refine g_icmp_eq 16 (by decide) dX7_compare_2 (fun h1 => ?_) (fun h1 => ?_)
  · rw [if_pos h1] at hf
    refine g_lvs [0, 1, 2] rfl ?_
    exact wX7_compare_b16 B  p1 p2 st hf
  · rw [if_neg h1] at hf
    refine g_aload_n rfl 0 rfl dX7_compare_5 ?_
    refine g_get (j := 0) cok7 (by decide) (.ref (eB E + 1)) (Or.inl tw2_64) oS0 vS0_0 dX7_compare_6 ?_
    refine g_iload_n rfl 1 rfl dX7_compare_9 ?_
    refine g_callVN0i (As := [.int p1]) (rest := []) cok4 mok_X4_lacksLaw nmm_34 tw3_218 ts4_0 oS1 B.1 (by decide) (kX4_lacksLaw  rfl) rfl rfl (Nat.le_of_ble_eq_true rfl) ⟨Nat.le_refl _, Nat.le_refl _⟩ dX7_compare_10 ?_
    refine g_if_ne 27 (by decide) dX7_compare_13 (fun h2 => ?_) (fun h2 => ?_)
    · rw [if_neg h2] at hf
      refine g_iconst (-1 : Int32) (by decide) dX7_compare_27 ?_
      exact g_iret B.2.2.2 B.2.2.1 (congrArg (fun z => some (Value.int z)) (Prod.mk.inj (Option.some.inj hf)).1.symm) (Prod.mk.inj (Option.some.inj hf)).2.symm dX7_compare_28
    · rw [if_pos h2] at hf
      refine g_lvs [0, 1, 2] rfl ?_
      exact wX7_compare_b16 B  p1 p2 st hf
theorem kX7_compare {l : Launch} {E : Ev} {st : St} {p1 : Int32} {p2 : Int32} {r0 : Int32} {u0 : St}  (hf : fX7_compare p1 p2 st = some (r0, u0)) : CM l E WT yX7_compare cX7_compare 3 (some FieldType.int) 8 0 0 [.ref (eB E + 0), .int p1, .int p2] st (some (.int r0)) u0 :=
  CM.intro mok_X7_compare (Nat.le_of_ble_eq_true rfl) (fun x hl hR ht hr hQ _ => wX7_compare ⟨hR, ht, hr, hQ⟩ p1 p2 st hf)
def fX7_quarters_b48  (st : St) : Option (Int32 × St) :=
  fX7_refused (-3 : Int32) st
set_option maxHeartbeats 1000000 in
set_option maxRecDepth 20000 in
theorem wX7_quarters_b48 {E : Ev} {x : Cx} {r0 : Int32} {u0 : St} (B : Bd E x (some FieldType.int) (8) 0 0 (some (.int r0)) u0)  (st : St)  (hf : fX7_quarters_b48 st = some (r0, u0)) : G E WT x RX7 cX7_quarters 3 (0, 0) st 48 [(0, .ref (eB E + 0))] [] := by
  unfold fX7_quarters_b48 at hf
  refine g_aload_n rfl 0 rfl dX7_quarters_48 ?_
  refine g_bipush (-3 : Int32) (by decide) dX7_quarters_49 ?_
  refine g_callV0i (As := [.int (-3 : Int32)]) (rest := []) cok7 mok_X7_refused tw2_114 tw2_116 ts1_0 oS0 B.1 (by decide) (kX7_refused  hf) rfl rfl (Nat.le_of_ble_eq_true rfl) ⟨Nat.le_refl _, Nat.le_refl _⟩ dX7_quarters_51 ?_
  exact g_iret B.2.2.2 B.2.2.1 rfl rfl dX7_quarters_54
def fX7_quarters_b22  (st : St) : Option (Int32 × St) :=
  fX7_refused (-1 : Int32) st
set_option maxHeartbeats 1000000 in
set_option maxRecDepth 20000 in
theorem wX7_quarters_b22 {E : Ev} {x : Cx} {r0 : Int32} {u0 : St} (B : Bd E x (some FieldType.int) (8) 0 0 (some (.int r0)) u0)  (st : St)  (hf : fX7_quarters_b22 st = some (r0, u0)) : G E WT x RX7 cX7_quarters 3 (0, 0) st 22 [(0, .ref (eB E + 0))] [] := by
  unfold fX7_quarters_b22 at hf
  refine g_aload_n rfl 0 rfl dX7_quarters_22 ?_
  refine g_iconst (-1 : Int32) (by decide) dX7_quarters_23 ?_
  refine g_callV0i (As := [.int (-1 : Int32)]) (rest := []) cok7 mok_X7_refused tw2_114 tw2_116 ts1_0 oS0 B.1 (by decide) (kX7_refused  hf) rfl rfl (Nat.le_of_ble_eq_true rfl) ⟨Nat.le_refl _, Nat.le_refl _⟩ dX7_quarters_24 ?_
  exact g_iret B.2.2.2 B.2.2.1 rfl rfl dX7_quarters_27
def fX7_quarters (p1 : Int32) (p2 : Int32) (st : St) : Option (Int32 × St) :=
  if p1 < 0 then (fX7_quarters_b22  st) else (if (1000000 : Int32) < p1 then (fX7_quarters_b22  st) else (if p2 < (1 : Int32) then (fX7_quarters_b22  st) else (if p2 ≤ (60 : Int32) then (if (sI st 1 6) = 0 then (fX7_quarters_b48  st) else (if (sI st 1 4) = 0 then (fX7_quarters_b48  st) else ((fX0_run p1 p2 st).bind (fun q7 => fX7_settled q7.1 q7.2)))) else (fX7_quarters_b22  st))))
set_option maxHeartbeats 1000000 in
set_option maxRecDepth 20000 in
theorem wX7_quarters {E : Ev} {x : Cx} {r0 : Int32} {u0 : St} (B : Bd E x (some FieldType.int) (8) 0 0 (some (.int r0)) u0) (p1 : Int32) (p2 : Int32) (st : St)  (hf : fX7_quarters p1 p2 st = some (r0, u0)) : G E WT x RX7 cX7_quarters 3 (0, 0) st 0 [(0, .ref (eB E + 0)), (1, .int p1), (2, .int p2)] [] := by
  unfold fX7_quarters at hf
  refine g_iload_n rfl 1 rfl dX7_quarters_0 ?_
  refine g_if_lt 22 (by decide) dX7_quarters_1 (fun h1 => ?_) (fun h1 => ?_)
  · rw [if_pos h1] at hf
    refine g_lvs [0] rfl ?_
    exact wX7_quarters_b22 B  st hf
  · rw [if_neg h1] at hf
    refine g_iload_n rfl 1 rfl dX7_quarters_4 ?_
    refine g_ldcw tw4_119 dX7_quarters_5 ?_
    refine g_icmp_gt 22 (by decide) dX7_quarters_8 (fun h2 => ?_) (fun h2 => ?_)
    · rw [if_pos h2] at hf
      refine g_lvs [0] rfl ?_
      exact wX7_quarters_b22 B  st hf
    · rw [if_neg h2] at hf
      refine g_iload_n rfl 2 rfl dX7_quarters_11 ?_
      refine g_iconst (1 : Int32) (by decide) dX7_quarters_12 ?_
      refine g_icmp_lt 22 (by decide) dX7_quarters_13 (fun h3 => ?_) (fun h3 => ?_)
      · rw [if_pos h3] at hf
        refine g_lvs [0] rfl ?_
        exact wX7_quarters_b22 B  st hf
      · rw [if_neg h3] at hf
        refine g_iload_n rfl 2 rfl dX7_quarters_16 ?_
        refine g_bipush (60 : Int32) (by decide) dX7_quarters_17 ?_
        refine g_icmp_le 28 (by decide) dX7_quarters_19 (fun h4 => ?_) (fun h4 => ?_)
        · rw [if_pos h4] at hf
          refine g_aload_n rfl 0 rfl dX7_quarters_28 ?_
          refine g_get (j := 0) cok7 (by decide) (.ref (eB E + 1)) (Or.inl tw2_64) oS0 vS0_0 dX7_quarters_29 ?_
          refine g_get (j := 6) cok4 (by decide) (.int (sI st 1 6)) (Or.inr nf_17) oS1 (fun _ => rfl) dX7_quarters_32 ?_
          refine g_if_eq 48 (by decide) dX7_quarters_35 (fun h5 => ?_) (fun h5 => ?_)
          · rw [if_pos h5] at hf
            refine g_lvs [0] rfl ?_
            exact wX7_quarters_b48 B  st hf
          · rw [if_neg h5] at hf
            refine g_aload_n rfl 0 rfl dX7_quarters_38 ?_
            refine g_get (j := 0) cok7 (by decide) (.ref (eB E + 1)) (Or.inl tw2_64) oS0 vS0_0 dX7_quarters_39 ?_
            refine g_get (j := 4) cok4 (by decide) (.int (sI st 1 4)) (Or.inr nf_10) oS1 (fun _ => rfl) dX7_quarters_42 ?_
            refine g_if_ne 55 (by decide) dX7_quarters_45 (fun h6 => ?_) (fun h6 => ?_)
            · rw [if_neg h6] at hf
              refine g_aload_n rfl 0 rfl dX7_quarters_55 ?_
              refine g_aload_n rfl 0 rfl dX7_quarters_56 ?_
              refine g_get (j := 7) cok7 (by decide) (.ref (eB E + 33)) (Or.inl tw2_71) oS0 vS0_7 dX7_quarters_57 ?_
              refine g_iload_n rfl 1 rfl dX7_quarters_60 ?_
              refine g_iload_n rfl 2 rfl dX7_quarters_61 ?_
              obtain ⟨q7, h8, hf⟩ := bnd_some hf
              refine g_callVN0i (As := [.int p1, .int p2]) (rest := [.ref (eB E + 0)]) cok0 mok_X0_run nmm_50 tw4_122 ts4_15 oS33 B.1 (by decide) (kX0_run  h8) rfl rfl (Nat.le_of_ble_eq_true rfl) ⟨Nat.le_refl _, Nat.le_refl _⟩ dX7_quarters_62 ?_
              refine g_callV0i (As := [.int q7.1]) (rest := []) cok7 mok_X7_settled tw2_138 tw2_140 ts1_5 oS0 B.1 (by decide) (kX7_settled  hf) rfl rfl (Nat.le_of_ble_eq_true rfl) ⟨Nat.le_refl _, Nat.le_refl _⟩ dX7_quarters_65 ?_
              exact g_iret B.2.2.2 B.2.2.1 rfl rfl dX7_quarters_68
            · rw [if_pos h6] at hf
              refine g_lvs [0] rfl ?_
              exact wX7_quarters_b48 B  st hf
        · rw [if_neg h4] at hf
          refine g_lvs [0] rfl ?_
          exact wX7_quarters_b22 B  st hf
theorem kX7_quarters {l : Launch} {E : Ev} {st : St} {p1 : Int32} {p2 : Int32} {r0 : Int32} {u0 : St}  (hf : fX7_quarters p1 p2 st = some (r0, u0)) : CM l E WT yX7_quarters cX7_quarters 3 (some FieldType.int) 8 0 0 [.ref (eB E + 0), .int p1, .int p2] st (some (.int r0)) u0 :=
  CM.intro mok_X7_quarters (Nat.le_of_ble_eq_true rfl) (fun x hl hR ht hr hQ _ => wX7_quarters ⟨hR, ht, hr, hQ⟩ p1 p2 st hf)
def fX7_drawn (st : St) (p1 : Int32) (p2 : Int32) : Option Int32 :=
  if p1 < 0 then (some (-1 : Int32)) else (if p1 < (sI st 33 3) then (if p2 = (0 : Int32) then (chk (ixb p1 6) (some (sI st 34 p1.toNatClampNeg))) else (if p2 = (1 : Int32) then (some ((jshr (sI st 33 4) p1) &&& (1 : Int32))) else (some (-1 : Int32)))) else (some (-1 : Int32)))
set_option maxHeartbeats 1000000 in
set_option maxRecDepth 20000 in
theorem wX7_drawn {E : Ev} {x : Cx} {r0 : Int32} {st : St} (B : Bd E x (some FieldType.int) (0) 0 0 (some (.int r0)) st) (p1 : Int32) (p2 : Int32)  (hf : fX7_drawn st p1 p2 = some r0) : G E WT x RX7 cX7_drawn 3 (0, 0) st 0 [(0, .ref (eB E + 0)), (1, .int p1), (2, .int p2)] [] := by
  unfold fX7_drawn at hf
  refine g_iload_n rfl 1 rfl dX7_drawn_0 ?_
  refine g_if_lt 15 (by decide) dX7_drawn_1 (fun h1 => ?_) (fun h1 => ?_)
  · rw [if_pos h1] at hf
    refine g_iconst (-1 : Int32) (by decide) dX7_drawn_15 ?_
    exact g_iret B.2.2.2 B.2.2.1 (congrArg (fun z => some (Value.int z)) (Option.some.inj hf).symm) rfl dX7_drawn_16
  · rw [if_neg h1] at hf
    refine g_iload_n rfl 1 rfl dX7_drawn_4 ?_
    refine g_aload_n rfl 0 rfl dX7_drawn_5 ?_
    refine g_get (j := 7) cok7 (by decide) (.ref (eB E + 33)) (Or.inl tw2_71) oS0 vS0_7 dX7_drawn_6 ?_
    refine g_get (j := 3) cok0 (by decide) (.int (sI st 33 3)) (Or.inr nf_47) oS33 (fun _ => rfl) dX7_drawn_9 ?_
    refine g_icmp_lt 17 (by decide) dX7_drawn_12 (fun h2 => ?_) (fun h2 => ?_)
    · rw [if_pos h2] at hf
      refine g_iload_n rfl 2 rfl dX7_drawn_17 ?_
      by_cases h3 : p2 = (0 : Int32)
      · rw [if_pos h3] at hf
        refine g_lookup (26) 44 dX7_drawn_18 (by decide) (by rw [h3]; decide) (by decide) ?_
        refine g_aload_n rfl 0 rfl dX7_drawn_44 ?_
        refine g_get (j := 7) cok7 (by decide) (.ref (eB E + 33)) (Or.inl tw2_71) oS0 vS0_7 dX7_drawn_45 ?_
        refine g_get (j := 2) cok0 (by decide) (.ref (eB E + 34)) (Or.inr nf_46) oS33 vS33_2 dX7_drawn_48 ?_
        refine g_iload_n rfl 1 rfl dX7_drawn_51 ?_
        obtain ⟨h4, hf⟩ := chk_some hf
        refine g_ialdj p1.toNatClampNeg rfl aS34 (ixb_in h4) dX7_drawn_52 ?_
        exact g_iret B.2.2.2 B.2.2.1 (congrArg (fun z => some (Value.int z)) (Option.some.inj hf).symm) rfl dX7_drawn_53
      · rw [if_neg h3] at hf
        by_cases h5 : p2 = (1 : Int32)
        · rw [if_pos h5] at hf
          refine g_lookup (36) 54 dX7_drawn_18 (by decide) (by rw [h5]; decide) (by decide) ?_
          refine g_aload_n rfl 0 rfl dX7_drawn_54 ?_
          refine g_get (j := 7) cok7 (by decide) (.ref (eB E + 33)) (Or.inl tw2_71) oS0 vS0_7 dX7_drawn_55 ?_
          refine g_get (j := 4) cok0 (by decide) (.int (sI st 33 4)) (Or.inr nf_48) oS33 (fun _ => rfl) dX7_drawn_58 ?_
          refine g_iload_n rfl 1 rfl dX7_drawn_61 ?_
          refine g_ishr dX7_drawn_62 ?_
          refine g_iconst (1 : Int32) (by decide) dX7_drawn_63 ?_
          refine g_iand dX7_drawn_64 ?_
          exact g_iret B.2.2.2 B.2.2.1 (congrArg (fun z => some (Value.int z)) (Option.some.inj hf).symm) rfl dX7_drawn_65
        · rw [if_neg h5] at hf
          refine g_lookup (48) 66 dX7_drawn_18 (by decide) (by show Op.lookupswitch.offset [(0, 26), (1, 36)] 48 _ = _; rw [lv_osw (a := 0) h3 rfl, lv_osw (a := 1) h5 rfl]; rfl) (by decide) ?_
          refine g_iconst (-1 : Int32) (by decide) dX7_drawn_66 ?_
          exact g_iret B.2.2.2 B.2.2.1 (congrArg (fun z => some (Value.int z)) (Option.some.inj hf).symm) rfl dX7_drawn_67
    · rw [if_neg h2] at hf
      refine g_iconst (-1 : Int32) (by decide) dX7_drawn_15 ?_
      exact g_iret B.2.2.2 B.2.2.1 (congrArg (fun z => some (Value.int z)) (Option.some.inj hf).symm) rfl dX7_drawn_16
theorem kX7_drawn {l : Launch} {E : Ev} {st : St} {p1 : Int32} {p2 : Int32} {r0 : Int32}  (hf : fX7_drawn st p1 p2 = some r0) : CM l E WT yX7_drawn cX7_drawn 3 (some FieldType.int) 0 0 0 [.ref (eB E + 0), .int p1, .int p2] st (some (.int r0)) st :=
  CM.intro mok_X7_drawn (Nat.le_of_ble_eq_true rfl) (fun x hl hR ht hr hQ _ => wX7_drawn ⟨hR, ht, hr, hQ⟩ p1 p2 hf)
def fX7_back_b9  (st : St) : Option (Int32 × St) :=
  fX7_refused (-1 : Int32) st
set_option maxHeartbeats 1000000 in
set_option maxRecDepth 20000 in
theorem wX7_back_b9 {E : Ev} {x : Cx} {r0 : Int32} {u0 : St} (B : Bd E x (some FieldType.int) (5) 0 0 (some (.int r0)) u0)  (st : St)  (hf : fX7_back_b9 st = some (r0, u0)) : G E WT x RX7 cX7_back 2 (0, 0) st 9 [(0, .ref (eB E + 0))] [] := by
  unfold fX7_back_b9 at hf
  refine g_aload_n rfl 0 rfl dX7_back_9 ?_
  refine g_iconst (-1 : Int32) (by decide) dX7_back_10 ?_
  refine g_callV0i (As := [.int (-1 : Int32)]) (rest := []) cok7 mok_X7_refused tw2_114 tw2_116 ts1_0 oS0 B.1 (by decide) (kX7_refused  hf) rfl rfl (Nat.le_of_ble_eq_true rfl) ⟨Nat.le_refl _, Nat.le_refl _⟩ dX7_back_11 ?_
  exact g_iret B.2.2.2 B.2.2.1 rfl rfl dX7_back_14
def fX7_back (p1 : Int32) (st : St) : Option (Int32 × St) :=
  if p1 < 0 then (fX7_back_b9  st) else (if p1 < (2 : Int32) then (chk (ixb p1 2) (optE (sR st 6 p1.toNatClampNeg) (fX7_refused (-2 : Int32) st) (fun a5 => chk (ixb p1 2) (optE (sR st 6 p1.toNatClampNeg) none (fun a8 => (fX4_becomes 1 a8 st).bind (fun q11 => (fX7_ringChanged q11).bind (fun q13 => fX7_settled (0 : Int32) q13))))))) else (fX7_back_b9  st))
set_option maxHeartbeats 1000000 in
set_option maxRecDepth 20000 in
theorem wX7_back {E : Ev} {x : Cx} {r0 : Int32} {u0 : St} (B : Bd E x (some FieldType.int) (5) 0 0 (some (.int r0)) u0) (p1 : Int32) (st : St)  (hf : fX7_back p1 st = some (r0, u0)) : G E WT x RX7 cX7_back 2 (0, 0) st 0 [(0, .ref (eB E + 0)), (1, .int p1)] [] := by
  unfold fX7_back at hf
  refine g_iload_n rfl 1 rfl dX7_back_0 ?_
  refine g_if_lt 9 (by decide) dX7_back_1 (fun h1 => ?_) (fun h1 => ?_)
  · rw [if_pos h1] at hf
    refine g_lvs [0] rfl ?_
    exact wX7_back_b9 B  st hf
  · rw [if_neg h1] at hf
    refine g_iload_n rfl 1 rfl dX7_back_4 ?_
    refine g_iconst (2 : Int32) (by decide) dX7_back_5 ?_
    refine g_icmp_lt 15 (by decide) dX7_back_6 (fun h2 => ?_) (fun h2 => ?_)
    · rw [if_pos h2] at hf
      refine g_aload_n rfl 0 rfl dX7_back_15 ?_
      refine g_get (j := 1) cok7 (by decide) (.ref (eB E + 6)) (Or.inl tw2_65) oS0 vS0_1 dX7_back_16 ?_
      refine g_iload_n rfl 1 rfl dX7_back_19 ?_
      obtain ⟨h3, hf⟩ := chk_some hf
      refine g_aaldGj p1.toNatClampNeg rfl aS6 (ixb_in h3) dX7_back_20 ?_
      rcases optE_c hf with ⟨h4, hf⟩ | ⟨a5, h4, hf⟩
      · rw [h4]
        refine g_ifnonnull_n dX7_back_21 ?_
        refine g_aload_n rfl 0 rfl dX7_back_24 ?_
        refine g_bipush (-2 : Int32) (by decide) dX7_back_25 ?_
        refine g_callV0i (As := [.int (-2 : Int32)]) (rest := []) cok7 mok_X7_refused tw2_114 tw2_116 ts1_0 oS0 B.1 (by decide) (kX7_refused  hf) rfl rfl (Nat.le_of_ble_eq_true rfl) ⟨Nat.le_refl _, Nat.le_refl _⟩ dX7_back_27 ?_
        exact g_iret B.2.2.2 B.2.2.1 rfl rfl dX7_back_30
      · rw [h4]
        refine g_ifnonnull_s 31 (by decide) dX7_back_21 ?_
        refine g_aload_n rfl 0 rfl dX7_back_31 ?_
        refine g_get (j := 0) cok7 (by decide) (.ref (eB E + 1)) (Or.inl tw2_64) oS0 vS0_0 dX7_back_32 ?_
        refine g_aload_n rfl 0 rfl dX7_back_35 ?_
        refine g_get (j := 1) cok7 (by decide) (.ref (eB E + 6)) (Or.inl tw2_65) oS0 vS0_1 dX7_back_36 ?_
        refine g_iload_n rfl 1 rfl dX7_back_39 ?_
        obtain ⟨h6, hf⟩ := chk_some hf
        refine g_aaldGj p1.toNatClampNeg rfl aS6 (ixb_in h6) dX7_back_40 ?_
        rcases optE_c hf with ⟨_, hf⟩ | ⟨a8, h7, hf⟩
        · exact nomatch hf
        rw [h7]
        refine g_wt (fun w9 => ?_)
        have h_a8 := WT.img w9 h7
        refine g_wt (fun w10 => ?_)
        obtain ⟨q11, h12, hf⟩ := bnd_some hf
        refine g_callVN0v (As := [.ref (eB E + a8)]) (rest := []) cok4 mok_X4_becomes nmm_59 tw4_154 ts5_2 oS1 B.1 (by decide) (kX4_becomes (oS1 w10) ((fun _ => h_a8) w10) h12) rfl rfl (Nat.le_of_ble_eq_true rfl) ⟨Nat.le_refl _, Nat.le_refl _⟩ dX7_back_41 ?_
        refine g_aload_n rfl 0 rfl dX7_back_44 ?_
        obtain ⟨q13, h14, hf⟩ := bnd_some hf
        refine g_callV0v (As := []) (rest := []) cok7 mok_X7_ringChanged tw2_122 tw2_124 ts1_2 oS0 B.1 (by decide) (kX7_ringChanged  h14) rfl rfl (Nat.le_of_ble_eq_true rfl) ⟨Nat.le_refl _, Nat.le_refl _⟩ dX7_back_45 ?_
        refine g_aload_n rfl 0 rfl dX7_back_48 ?_
        refine g_iconst (0 : Int32) (by decide) dX7_back_49 ?_
        refine g_callV0i (As := [.int (0 : Int32)]) (rest := []) cok7 mok_X7_settled tw2_138 tw2_140 ts1_5 oS0 B.1 (by decide) (kX7_settled  hf) rfl rfl (Nat.le_of_ble_eq_true rfl) ⟨Nat.le_refl _, Nat.le_refl _⟩ dX7_back_50 ?_
        exact g_iret B.2.2.2 B.2.2.1 rfl rfl dX7_back_53
    · rw [if_neg h2] at hf
      refine g_lvs [0] rfl ?_
      exact wX7_back_b9 B  st hf
theorem kX7_back {l : Launch} {E : Ev} {st : St} {p1 : Int32} {r0 : Int32} {u0 : St}  (hf : fX7_back p1 st = some (r0, u0)) : CM l E WT yX7_back cX7_back 2 (some FieldType.int) 5 0 0 [.ref (eB E + 0), .int p1] st (some (.int r0)) u0 :=
  CM.intro mok_X7_back (Nat.le_of_ble_eq_true rfl) (fun x hl hR ht hr hQ _ => wX7_back ⟨hR, ht, hr, hQ⟩ p1 st hf)
def fX7_count_b47 (st : St) (l1 : Int32) : Option Int32 :=
  if l1 = (0 : Int32) then (some (sI st 1 4)) else (if l1 = (1 : Int32) then (some (fJ6_bitCount_0f7a4 (sI st 1 5))) else (if l1 = (2 : Int32) then (some (sI st 1 6)) else (if l1 = (3 : Int32) then (some (sI st 1 7)) else (if l1 = (4 : Int32) then (some (sI st 15 1)) else (if l1 = (5 : Int32) then (some (sI st 7 2)) else (if l1 = (11 : Int32) then (some (sI st 1 8)) else (some (-1 : Int32))))))))
set_option maxHeartbeats 1000000 in
set_option maxRecDepth 20000 in
theorem wX7_count_b47 {E : Ev} {x : Cx} {r0 : Int32} {st : St} (B : Bd E x (some FieldType.int) (1) 0 0 (some (.int r0)) st) (l1 : Int32)  (hf : fX7_count_b47 st l1 = some r0) : G E WT x RX7 cX7_count 2 (0, 0) st 47 [(0, .ref (eB E + 0)), (1, .int l1)] [] := by
  unfold fX7_count_b47 at hf
  refine g_iload_n rfl 1 rfl dX7_count_47 ?_
  by_cases h1 : l1 = (0 : Int32)
  · rw [if_pos h1] at hf
    refine g_tableIn 64 112 dX7_count_48 (by rw [h1]; decide) (by rw [h1]; decide) (by rw [h1]; decide) (by decide) ?_
    refine g_aload_n rfl 0 rfl dX7_count_112 ?_
    refine g_get (j := 0) cok7 (by decide) (.ref (eB E + 1)) (Or.inl tw2_64) oS0 vS0_0 dX7_count_113 ?_
    refine g_get (j := 4) cok4 (by decide) (.int (sI st 1 4)) (Or.inr nf_10) oS1 (fun _ => rfl) dX7_count_116 ?_
    exact g_iret B.2.2.2 B.2.2.1 (congrArg (fun z => some (Value.int z)) (Option.some.inj hf).symm) rfl dX7_count_119
  · rw [if_neg h1] at hf
    by_cases h2 : l1 = (1 : Int32)
    · rw [if_pos h2] at hf
      refine g_tableIn 72 120 dX7_count_48 (by rw [h2]; decide) (by rw [h2]; decide) (by rw [h2]; decide) (by decide) ?_
      refine g_aload_n rfl 0 rfl dX7_count_120 ?_
      refine g_get (j := 0) cok7 (by decide) (.ref (eB E + 1)) (Or.inl tw2_64) oS0 vS0_0 dX7_count_121 ?_
      refine g_get (j := 5) cok4 (by decide) (.int (sI st 1 5)) (Or.inr nf_13) oS1 (fun _ => rfl) dX7_count_124 ?_
      refine g_callS0i (As := [.int (sI st 1 5)]) (rest := []) mok_J6_bitCount_0f7a4 tw2_166 tw2_167 B.1 (by decide) (kJ6_bitCount_0f7a4  rfl) rfl rfl (Nat.le_of_ble_eq_true rfl) ⟨Nat.le_refl _, Nat.le_refl _⟩ dX7_count_127 ?_
      exact g_iret B.2.2.2 B.2.2.1 (congrArg (fun z => some (Value.int z)) (Option.some.inj hf).symm) rfl dX7_count_130
    · rw [if_neg h2] at hf
      by_cases h3 : l1 = (2 : Int32)
      · rw [if_pos h3] at hf
        refine g_tableIn 83 131 dX7_count_48 (by rw [h3]; decide) (by rw [h3]; decide) (by rw [h3]; decide) (by decide) ?_
        refine g_aload_n rfl 0 rfl dX7_count_131 ?_
        refine g_get (j := 0) cok7 (by decide) (.ref (eB E + 1)) (Or.inl tw2_64) oS0 vS0_0 dX7_count_132 ?_
        refine g_get (j := 6) cok4 (by decide) (.int (sI st 1 6)) (Or.inr nf_17) oS1 (fun _ => rfl) dX7_count_135 ?_
        exact g_iret B.2.2.2 B.2.2.1 (congrArg (fun z => some (Value.int z)) (Option.some.inj hf).symm) rfl dX7_count_138
      · rw [if_neg h3] at hf
        by_cases h4 : l1 = (3 : Int32)
        · rw [if_pos h4] at hf
          refine g_tableIn 91 139 dX7_count_48 (by rw [h4]; decide) (by rw [h4]; decide) (by rw [h4]; decide) (by decide) ?_
          refine g_aload_n rfl 0 rfl dX7_count_139 ?_
          refine g_get (j := 0) cok7 (by decide) (.ref (eB E + 1)) (Or.inl tw2_64) oS0 vS0_0 dX7_count_140 ?_
          refine g_get (j := 7) cok4 (by decide) (.int (sI st 1 7)) (Or.inr nf_19) oS1 (fun _ => rfl) dX7_count_143 ?_
          exact g_iret B.2.2.2 B.2.2.1 (congrArg (fun z => some (Value.int z)) (Option.some.inj hf).symm) rfl dX7_count_146
        · rw [if_neg h4] at hf
          by_cases h5 : l1 = (4 : Int32)
          · rw [if_pos h5] at hf
            refine g_tableIn 99 147 dX7_count_48 (by rw [h5]; decide) (by rw [h5]; decide) (by rw [h5]; decide) (by decide) ?_
            refine g_aload_n rfl 0 rfl dX7_count_147 ?_
            refine g_get (j := 3) cok7 (by decide) (.ref (eB E + 15)) (Or.inl tw2_67) oS0 vS0_3 dX7_count_148 ?_
            refine g_get (j := 1) cok2 (by decide) (.int (sI st 15 1)) (Or.inr nf_40) oS15 (fun _ => rfl) dX7_count_151 ?_
            exact g_iret B.2.2.2 B.2.2.1 (congrArg (fun z => some (Value.int z)) (Option.some.inj hf).symm) rfl dX7_count_154
          · rw [if_neg h5] at hf
            by_cases h6 : l1 = (5 : Int32)
            · rw [if_pos h6] at hf
              refine g_tableIn 107 155 dX7_count_48 (by rw [h6]; decide) (by rw [h6]; decide) (by rw [h6]; decide) (by decide) ?_
              refine g_aload_n rfl 0 rfl dX7_count_155 ?_
              refine g_get (j := 2) cok7 (by decide) (.ref (eB E + 7)) (Or.inl tw2_66) oS0 vS0_2 dX7_count_156 ?_
              refine g_get (j := 2) cok3 (by decide) (.int (sI st 7 2)) (Or.inr nf_39) oS7 (fun _ => rfl) dX7_count_159 ?_
              exact g_iret B.2.2.2 B.2.2.1 (congrArg (fun z => some (Value.int z)) (Option.some.inj hf).symm) rfl dX7_count_162
            · rw [if_neg h6] at hf
              by_cases h7 : l1 = (11 : Int32)
              · rw [if_pos h7] at hf
                refine g_tableIn 115 163 dX7_count_48 (by rw [h7]; decide) (by rw [h7]; decide) (by rw [h7]; decide) (by decide) ?_
                refine g_aload_n rfl 0 rfl dX7_count_163 ?_
                refine g_get (j := 0) cok7 (by decide) (.ref (eB E + 1)) (Or.inl tw2_64) oS0 vS0_0 dX7_count_164 ?_
                refine g_get (j := 8) cok4 (by decide) (.int (sI st 1 8)) (Or.inr nf_20) oS1 (fun _ => rfl) dX7_count_167 ?_
                exact g_iret B.2.2.2 B.2.2.1 (congrArg (fun z => some (Value.int z)) (Option.some.inj hf).symm) rfl dX7_count_170
              · rw [if_neg h7] at hf
                refine g_tabDef 12 171 [(0 : Int32), (1 : Int32), (2 : Int32), (3 : Int32), (4 : Int32), (5 : Int32), (11 : Int32)] dX7_count_48 (by decide) (by simp only [List.forall_mem_cons]; exact ⟨h1, h2, h3, h4, h5, h6, h7, fun _ h => nomatch h⟩) (by decide) (by decide) ?_
                refine g_iconst (-1 : Int32) (by decide) dX7_count_171 ?_
                exact g_iret B.2.2.2 B.2.2.1 (congrArg (fun z => some (Value.int z)) (Option.some.inj hf).symm) rfl dX7_count_172
def fX7_count_b22 (st : St) (l1 : Int32) : Option Int32 :=
  if l1 < (12 : Int32) then (fX7_count_b47 st l1) else (if (15 : Int32) < l1 then (fX7_count_b47 st l1) else (chk (ixb (l1 - (12 : Int32)) 4) (some (sI st 5 ((l1 - (12 : Int32)).toNatClampNeg)))))
set_option maxHeartbeats 1000000 in
set_option maxRecDepth 20000 in
theorem wX7_count_b22 {E : Ev} {x : Cx} {r0 : Int32} {st : St} (B : Bd E x (some FieldType.int) (1) 0 0 (some (.int r0)) st) (l1 : Int32)  (hf : fX7_count_b22 st l1 = some r0) : G E WT x RX7 cX7_count 2 (0, 0) st 22 [(0, .ref (eB E + 0)), (1, .int l1)] [] := by
  unfold fX7_count_b22 at hf
  refine g_iload_n rfl 1 rfl dX7_count_22 ?_
  refine g_bipush (12 : Int32) (by decide) dX7_count_23 ?_
  refine g_icmp_lt 47 (by decide) dX7_count_25 (fun h1 => ?_) (fun h1 => ?_)
  · rw [if_pos h1] at hf
    refine g_lvs [0, 1] rfl ?_
    exact wX7_count_b47 B  l1 hf
  · rw [if_neg h1] at hf
    refine g_iload_n rfl 1 rfl dX7_count_28 ?_
    refine g_bipush (15 : Int32) (by decide) dX7_count_29 ?_
    refine g_icmp_gt 47 (by decide) dX7_count_31 (fun h2 => ?_) (fun h2 => ?_)
    · rw [if_pos h2] at hf
      refine g_lvs [0, 1] rfl ?_
      exact wX7_count_b47 B  l1 hf
    · rw [if_neg h2] at hf
      refine g_aload_n rfl 0 rfl dX7_count_34 ?_
      refine g_get (j := 0) cok7 (by decide) (.ref (eB E + 1)) (Or.inl tw2_64) oS0 vS0_0 dX7_count_35 ?_
      refine g_get (j := 3) cok4 (by decide) (.ref (eB E + 5)) (Or.inr nf_8) oS1 vS1_3 dX7_count_38 ?_
      refine g_iload_n rfl 1 rfl dX7_count_41 ?_
      refine g_bipush (12 : Int32) (by decide) dX7_count_42 ?_
      refine g_isub dX7_count_44 ?_
      obtain ⟨h3, hf⟩ := chk_some hf
      refine g_ialdj ((l1 - (12 : Int32)).toNatClampNeg) rfl aS5 (ixb_in h3) dX7_count_45 ?_
      exact g_iret B.2.2.2 B.2.2.1 (congrArg (fun z => some (Value.int z)) (Option.some.inj hf).symm) rfl dX7_count_46
def fX7_count (st : St) (p1 : Int32) : Option Int32 :=
  if p1 < (6 : Int32) then (fX7_count_b22 st p1) else (if (10 : Int32) < p1 then (fX7_count_b22 st p1) else (chk (ixb (p1 - (6 : Int32)) 5) (some (sI st 35 ((p1 - (6 : Int32)).toNatClampNeg)))))
set_option maxHeartbeats 1000000 in
set_option maxRecDepth 20000 in
theorem wX7_count {E : Ev} {x : Cx} {r0 : Int32} {st : St} (B : Bd E x (some FieldType.int) (1) 0 0 (some (.int r0)) st) (p1 : Int32)  (hf : fX7_count st p1 = some r0) : G E WT x RX7 cX7_count 2 (0, 0) st 0 [(0, .ref (eB E + 0)), (1, .int p1)] [] := by
  unfold fX7_count at hf
  refine g_iload_n rfl 1 rfl dX7_count_0 ?_
  refine g_bipush (6 : Int32) (by decide) dX7_count_1 ?_
  refine g_icmp_lt 22 (by decide) dX7_count_3 (fun h1 => ?_) (fun h1 => ?_)
  · rw [if_pos h1] at hf
    refine g_lvs [0, 1] rfl ?_
    exact wX7_count_b22 B  p1 hf
  · rw [if_neg h1] at hf
    refine g_iload_n rfl 1 rfl dX7_count_6 ?_
    refine g_bipush (10 : Int32) (by decide) dX7_count_7 ?_
    refine g_icmp_gt 22 (by decide) dX7_count_9 (fun h2 => ?_) (fun h2 => ?_)
    · rw [if_pos h2] at hf
      refine g_lvs [0, 1] rfl ?_
      exact wX7_count_b22 B  p1 hf
    · rw [if_neg h2] at hf
      refine g_aload_n rfl 0 rfl dX7_count_12 ?_
      refine g_get (j := 8) cok7 (by decide) (.ref (eB E + 35)) (Or.inl tw2_72) oS0 vS0_8 dX7_count_13 ?_
      refine g_iload_n rfl 1 rfl dX7_count_16 ?_
      refine g_bipush (6 : Int32) (by decide) dX7_count_17 ?_
      refine g_isub dX7_count_19 ?_
      obtain ⟨h3, hf⟩ := chk_some hf
      refine g_ialdj ((p1 - (6 : Int32)).toNatClampNeg) rfl aS35 (ixb_in h3) dX7_count_20 ?_
      exact g_iret B.2.2.2 B.2.2.1 (congrArg (fun z => some (Value.int z)) (Option.some.inj hf).symm) rfl dX7_count_21
theorem kX7_count {l : Launch} {E : Ev} {st : St} {p1 : Int32} {r0 : Int32}  (hf : fX7_count st p1 = some r0) : CM l E WT yX7_count cX7_count 2 (some FieldType.int) 1 0 0 [.ref (eB E + 0), .int p1] st (some (.int r0)) st :=
  CM.intro mok_X7_count (Nat.le_of_ble_eq_true rfl) (fun x hl hR ht hr hQ _ => wX7_count ⟨hR, ht, hr, hQ⟩ p1 hf)
def fX7_status (st : St)  : Int32 :=
  sI st 0 11
set_option maxHeartbeats 1000000 in
set_option maxRecDepth 20000 in
theorem wX7_status {E : Ev} {x : Cx} {r0 : Int32} {st : St} (B : Bd E x (some FieldType.int) (0) 0 0 (some (.int r0)) st)   (hf : fX7_status st  = r0) : G E WT x RX7 cX7_status 1 (0, 0) st 0 [(0, .ref (eB E + 0))] [] := by
  unfold fX7_status at hf
  refine g_aload_n rfl 0 rfl dX7_status_0 ?_
  refine g_get (j := 11) cok7 (by decide) (.int (sI st 0 11)) (Or.inl tw2_75) oS0 (fun _ => rfl) dX7_status_1 ?_
  exact g_iret B.2.2.2 B.2.2.1 (congrArg (fun z => some (Value.int z)) hf.symm) rfl dX7_status_4
theorem kX7_status {l : Launch} {E : Ev} {st : St}  {r0 : Int32}  (hf : fX7_status st = r0) : CM l E WT yX7_status cX7_status 1 (some FieldType.int) 0 0 0 [.ref (eB E + 0)] st (some (.int r0)) st :=
  CM.intro mok_X7_status (Nat.le_of_ble_eq_true rfl) (fun x hl hR ht hr hQ _ => wX7_status ⟨hR, ht, hr, hQ⟩  hf)
def fX8_lies (p0 : Int32) (p1 : Int32) (p2 : Int32) : Int32 :=
  if p0 < p1 then ((0 : Int32)) else (if p2 < p0 then ((0 : Int32)) else ((1 : Int32)))
set_option maxHeartbeats 1000000 in
set_option maxRecDepth 20000 in
theorem wX8_lies {E : Ev} {x : Cx} {r0 : Int32} {st : St} (B : Bd E x (some FieldType.boolean) (0) 0 0 (some (.int r0)) st) (p0 : Int32) (p1 : Int32) (p2 : Int32)  (hf : fX8_lies p0 p1 p2 = r0) : G E WT x RX8 cX8_lies 3 (0, 0) st 0 [(0, .int p0), (1, .int p1), (2, .int p2)] [] := by
  unfold fX8_lies at hf
  refine g_iload_n rfl 0 rfl dX8_lies_0 ?_
  refine g_iload_n rfl 1 rfl dX8_lies_1 ?_
  refine g_icmp_lt 14 (by decide) dX8_lies_2 (fun h1 => ?_) (fun h1 => ?_)
  · rw [if_pos h1] at hf
    refine g_iconst (0 : Int32) (by decide) dX8_lies_14 ?_
    exact g_zret B.2.2.2 B.2.2.1 (by decide) (congrArg (fun z => some (Value.int z)) hf.symm) rfl dX8_lies_15
  · rw [if_neg h1] at hf
    refine g_iload_n rfl 0 rfl dX8_lies_5 ?_
    refine g_iload_n rfl 2 rfl dX8_lies_6 ?_
    refine g_icmp_gt 14 (by decide) dX8_lies_7 (fun h2 => ?_) (fun h2 => ?_)
    · rw [if_pos h2] at hf
      refine g_iconst (0 : Int32) (by decide) dX8_lies_14 ?_
      exact g_zret B.2.2.2 B.2.2.1 (by decide) (congrArg (fun z => some (Value.int z)) hf.symm) rfl dX8_lies_15
    · rw [if_neg h2] at hf
      refine g_iconst (1 : Int32) (by decide) dX8_lies_10 ?_
      refine g_goto 15 (by decide) dX8_lies_11 ?_
      exact g_zret B.2.2.2 B.2.2.1 (by decide) (congrArg (fun z => some (Value.int z)) hf.symm) rfl dX8_lies_15
theorem kX8_lies {l : Launch} {E : Ev} {st : St} {p0 : Int32} {p1 : Int32} {p2 : Int32} {r0 : Int32}  (hf : fX8_lies p0 p1 p2 = r0) : CM l E WT yX8_lies cX8_lies 3 (some FieldType.boolean) 0 0 0 [.int p0, .int p1, .int p2] st (some (.int r0)) st :=
  CM.intro mok_X8_lies (Nat.le_of_ble_eq_true rfl) (fun x hl hR ht hr hQ _ => wX8_lies ⟨hR, ht, hr, hQ⟩ p0 p1 p2 hf)
theorem fX8_lies_b (p0 : Int32) (p1 : Int32) (p2 : Int32) : isb (fX8_lies p0 p1 p2) = true := by
  unfold fX8_lies
  (repeat' split) <;> first | rfl | exact fX8_lies_b _ _ _
def fX8_greater (p0 : Int32) (p1 : Int32) : Int32 :=
  if p0 ≤ p1 then (p1) else (p0)
set_option maxHeartbeats 1000000 in
set_option maxRecDepth 20000 in
theorem wX8_greater {E : Ev} {x : Cx} {r0 : Int32} {st : St} (B : Bd E x (some FieldType.int) (0) 0 0 (some (.int r0)) st) (p0 : Int32) (p1 : Int32)  (hf : fX8_greater p0 p1 = r0) : G E WT x RX8 cX8_greater 2 (0, 0) st 0 [(0, .int p0), (1, .int p1)] [] := by
  unfold fX8_greater at hf
  refine g_iload_n rfl 0 rfl dX8_greater_0 ?_
  refine g_iload_n rfl 1 rfl dX8_greater_1 ?_
  refine g_icmp_le 9 (by decide) dX8_greater_2 (fun h1 => ?_) (fun h1 => ?_)
  · rw [if_pos h1] at hf
    refine g_iload_n rfl 1 rfl dX8_greater_9 ?_
    exact g_iret B.2.2.2 B.2.2.1 (congrArg (fun z => some (Value.int z)) hf.symm) rfl dX8_greater_10
  · rw [if_neg h1] at hf
    refine g_iload_n rfl 0 rfl dX8_greater_5 ?_
    refine g_goto 10 (by decide) dX8_greater_6 ?_
    exact g_iret B.2.2.2 B.2.2.1 (congrArg (fun z => some (Value.int z)) hf.symm) rfl dX8_greater_10
theorem kX8_greater {l : Launch} {E : Ev} {st : St} {p0 : Int32} {p1 : Int32} {r0 : Int32}  (hf : fX8_greater p0 p1 = r0) : CM l E WT yX8_greater cX8_greater 2 (some FieldType.int) 0 0 0 [.int p0, .int p1] st (some (.int r0)) st :=
  CM.intro mok_X8_greater (Nat.le_of_ble_eq_true rfl) (fun x hl hR ht hr hQ _ => wX8_greater ⟨hR, ht, hr, hQ⟩ p0 p1 hf)
def fX8_refuses (p1 : Int32) (st : St) : Option (Int32 × St) :=
  chk (ixb (-p1) 7) (chk (ixb (-p1) 7) (some (p1, pI (pI st 38 0 p1) 39 ((-p1).toNatClampNeg) ((sI (pI st 38 0 p1) 39 ((-p1).toNatClampNeg)) + (1 : Int32)))))
set_option maxHeartbeats 1000000 in
set_option maxRecDepth 20000 in
theorem wX8_refuses {E : Ev} {x : Cx} {r0 : Int32} {u0 : St} (B : Bd E x (some FieldType.int) (0) 0 0 (some (.int r0)) u0) (p1 : Int32) (st : St)  (hf : fX8_refuses p1 st = some (r0, u0)) : G E WT x RX8 cX8_refuses 2 (0, 0) st 0 [(0, .ref (eB E + 38)), (1, .int p1)] [] := by
  unfold fX8_refuses at hf
  refine g_aload_n rfl 0 rfl dX8_refuses_0 ?_
  refine g_iload_n rfl 1 rfl dX8_refuses_1 ?_
  refine g_putI (j := 0) cok8 (by decide) rfl rfl rfl rfl (Or.inl tw4_175) oS38 B.2.1 wpI dX8_refuses_2 ?_
  refine g_aload_n rfl 0 rfl dX8_refuses_5 ?_
  refine g_get (j := 1) cok8 (by decide) (.ref (eB E + 39)) (Or.inl tw4_176) oS38 vS38_1 dX8_refuses_6 ?_
  refine g_iload_n rfl 1 rfl dX8_refuses_9 ?_
  refine g_ineg dX8_refuses_10 ?_
  refine g_dup2 rfl rfl dX8_refuses_11 ?_
  obtain ⟨h1, hf⟩ := chk_some hf
  refine g_ialdj ((-p1).toNatClampNeg) rfl aS39 (ixb_in h1) dX8_refuses_12 ?_
  refine g_iconst (1 : Int32) (by decide) dX8_refuses_13 ?_
  refine g_iadd dX8_refuses_14 ?_
  obtain ⟨h2, hf⟩ := chk_some hf
  refine g_iastj ((-p1).toNatClampNeg) rfl aS39 (ixb_in h2) B.2.1 wpI dX8_refuses_15 ?_
  refine g_iload_n rfl 1 rfl dX8_refuses_16 ?_
  exact g_iret B.2.2.2 B.2.2.1 (congrArg (fun z => some (Value.int z)) (Prod.mk.inj (Option.some.inj hf)).1.symm) (Prod.mk.inj (Option.some.inj hf)).2.symm dX8_refuses_17
theorem kX8_refuses {l : Launch} {E : Ev} {st : St} {p1 : Int32} {r0 : Int32} {u0 : St}  (hf : fX8_refuses p1 st = some (r0, u0)) : CM l E WT yX8_refuses cX8_refuses 2 (some FieldType.int) 0 0 0 [.ref (eB E + 38), .int p1] st (some (.int r0)) u0 :=
  CM.intro mok_X8_refuses (Nat.le_of_ble_eq_true rfl) (fun x hl hR ht hr hQ _ => wX8_refuses ⟨hR, ht, hr, hQ⟩ p1 st hf)
def fX8_good (p1 : Int32) (st : St) : Option (Int32 × St) :=
  some (p1, pI st 38 0 (0 : Int32))
set_option maxHeartbeats 1000000 in
set_option maxRecDepth 20000 in
theorem wX8_good {E : Ev} {x : Cx} {r0 : Int32} {u0 : St} (B : Bd E x (some FieldType.int) (0) 0 0 (some (.int r0)) u0) (p1 : Int32) (st : St)  (hf : fX8_good p1 st = some (r0, u0)) : G E WT x RX8 cX8_good 2 (0, 0) st 0 [(0, .ref (eB E + 38)), (1, .int p1)] [] := by
  unfold fX8_good at hf
  refine g_aload_n rfl 0 rfl dX8_good_0 ?_
  refine g_iconst (0 : Int32) (by decide) dX8_good_1 ?_
  refine g_putI (j := 0) cok8 (by decide) rfl rfl rfl rfl (Or.inl tw4_175) oS38 B.2.1 wpI dX8_good_2 ?_
  refine g_iload_n rfl 1 rfl dX8_good_5 ?_
  exact g_iret B.2.2.2 B.2.2.1 (congrArg (fun z => some (Value.int z)) (Prod.mk.inj (Option.some.inj hf)).1.symm) (Prod.mk.inj (Option.some.inj hf)).2.symm dX8_good_6
theorem kX8_good {l : Launch} {E : Ev} {st : St} {p1 : Int32} {r0 : Int32} {u0 : St}  (hf : fX8_good p1 st = some (r0, u0)) : CM l E WT yX8_good cX8_good 2 (some FieldType.int) 0 0 0 [.ref (eB E + 38), .int p1] st (some (.int r0)) u0 :=
  CM.intro mok_X8_good (Nat.le_of_ble_eq_true rfl) (fun x hl hR ht hr hQ _ => wX8_good ⟨hR, ht, hr, hQ⟩ p1 st hf)
def fX8_settled (p1 : Int32) (st : St) : Option (Int32 × St) :=
  fX8_good p1 (pI st 38 32 (0 : Int32))
set_option maxHeartbeats 1000000 in
set_option maxRecDepth 20000 in
theorem wX8_settled {E : Ev} {x : Cx} {r0 : Int32} {u0 : St} (B : Bd E x (some FieldType.int) (1) 0 0 (some (.int r0)) u0) (p1 : Int32) (st : St)  (hf : fX8_settled p1 st = some (r0, u0)) : G E WT x RX8 cX8_settled 2 (0, 0) st 0 [(0, .ref (eB E + 38)), (1, .int p1)] [] := by
  unfold fX8_settled at hf
  refine g_aload_n rfl 0 rfl dX8_settled_0 ?_
  refine g_iconst (0 : Int32) (by decide) dX8_settled_1 ?_
  refine g_putI (j := 32) cok8 (by decide) rfl rfl rfl rfl (Or.inl tw4_207) oS38 B.2.1 wpI dX8_settled_2 ?_
  refine g_aload_n rfl 0 rfl dX8_settled_5 ?_
  refine g_iload_n rfl 1 rfl dX8_settled_6 ?_
  refine g_callV0i (As := [.int p1]) (rest := []) cok8 mok_X8_good tw5_125 tw5_127 ts5_4 oS38 B.1 (by decide) (kX8_good  hf) rfl rfl (Nat.le_of_ble_eq_true rfl) ⟨Nat.le_refl _, Nat.le_refl _⟩ dX8_settled_7 ?_
  exact g_iret B.2.2.2 B.2.2.1 rfl rfl dX8_settled_10
theorem kX8_settled {l : Launch} {E : Ev} {st : St} {p1 : Int32} {r0 : Int32} {u0 : St}  (hf : fX8_settled p1 st = some (r0, u0)) : CM l E WT yX8_settled cX8_settled 2 (some FieldType.int) 1 0 0 [.ref (eB E + 38), .int p1] st (some (.int r0)) u0 :=
  CM.intro mok_X8_settled (Nat.le_of_ble_eq_true rfl) (fun x hl hR ht hr hQ _ => wX8_settled ⟨hR, ht, hr, hQ⟩ p1 st hf)
def fX8_isIn (p0 : Int32) (p1 : Int32) : Int32 :=
  if ((jshr p0 p1) &&& (1 : Int32)) = (1 : Int32) then ((1 : Int32)) else ((0 : Int32))
set_option maxHeartbeats 1000000 in
set_option maxRecDepth 20000 in
theorem wX8_isIn {E : Ev} {x : Cx} {r0 : Int32} {st : St} (B : Bd E x (some FieldType.boolean) (0) 0 0 (some (.int r0)) st) (p0 : Int32) (p1 : Int32)  (hf : fX8_isIn p0 p1 = r0) : G E WT x RX8 cX8_isIn 2 (0, 0) st 0 [(0, .int p0), (1, .int p1)] [] := by
  unfold fX8_isIn at hf
  refine g_iload_n rfl 0 rfl dX8_isIn_0 ?_
  refine g_iload_n rfl 1 rfl dX8_isIn_1 ?_
  refine g_ishr dX8_isIn_2 ?_
  refine g_iconst (1 : Int32) (by decide) dX8_isIn_3 ?_
  refine g_iand dX8_isIn_4 ?_
  refine g_iconst (1 : Int32) (by decide) dX8_isIn_5 ?_
  refine g_icmp_ne 13 (by decide) dX8_isIn_6 (fun h1 => ?_) (fun h1 => ?_)
  · rw [if_neg h1] at hf
    refine g_iconst (0 : Int32) (by decide) dX8_isIn_13 ?_
    exact g_zret B.2.2.2 B.2.2.1 (by decide) (congrArg (fun z => some (Value.int z)) hf.symm) rfl dX8_isIn_14
  · rw [if_pos h1] at hf
    refine g_iconst (1 : Int32) (by decide) dX8_isIn_9 ?_
    refine g_goto 14 (by decide) dX8_isIn_10 ?_
    exact g_zret B.2.2.2 B.2.2.1 (by decide) (congrArg (fun z => some (Value.int z)) hf.symm) rfl dX8_isIn_14
theorem kX8_isIn {l : Launch} {E : Ev} {st : St} {p0 : Int32} {p1 : Int32} {r0 : Int32}  (hf : fX8_isIn p0 p1 = r0) : CM l E WT yX8_isIn cX8_isIn 2 (some FieldType.boolean) 0 0 0 [.int p0, .int p1] st (some (.int r0)) st :=
  CM.intro mok_X8_isIn (Nat.le_of_ble_eq_true rfl) (fun x hl hR ht hr hQ _ => wX8_isIn ⟨hR, ht, hr, hQ⟩ p0 p1 hf)
theorem fX8_isIn_b (p0 : Int32) (p1 : Int32) : isb (fX8_isIn p0 p1) = true := by
  unfold fX8_isIn
  (repeat' split) <;> first | rfl | exact fX8_lies_b _ _ _
def fX8_ones_b4 : Nat → Int32 → Int32 → Int32 → Option Int32
  | 0, _, _, _ => none
  | n + 1, l0, l1, l2 => if (6 : Int32) ≤ l2 then (some l1) else (fX8_ones_b4 n l0 (l1 + ((jshr l0 l2) &&& (1 : Int32))) (l2 + (1 : Int32)))
set_option maxHeartbeats 1000000 in
set_option maxRecDepth 20000 in
theorem wX8_ones_b4 {E : Ev} {x : Cx} {r0 : Int32} {st : St} (B : Bd E x (some FieldType.int) (0) 0 0 (some (.int r0)) st) : ∀ (n : Nat) (l0 : Int32) (l1 : Int32) (l2 : Int32) , fX8_ones_b4 n l0 l1 l2 = some r0 → G E WT x RX8 cX8_ones 3 (0, 0) st 4 [(0, .int l0), (1, .int l1), (2, .int l2)] [] := by
  intro n
  induction n with
  | zero =>
    intros
    rename_i hf
    rw [fX8_ones_b4] at hf
    cases hf
  | succ n ih =>
    intro l0 l1 l2 hf
    rw [fX8_ones_b4] at hf
    refine g_iload_n rfl 2 rfl dX8_ones_4 ?_
    refine g_bipush (6 : Int32) (by decide) dX8_ones_5 ?_
    refine g_icmp_ge 24 (by decide) dX8_ones_7 (fun h1 => ?_) (fun h1 => ?_)
    · rw [if_pos h1] at hf
      refine g_iload_n rfl 1 rfl dX8_ones_24 ?_
      exact g_iret B.2.2.2 B.2.2.1 (congrArg (fun z => some (Value.int z)) (Option.some.inj hf).symm) rfl dX8_ones_25
    · rw [if_neg h1] at hf
      refine g_iload_n rfl 1 rfl dX8_ones_10 ?_
      refine g_iload_n rfl 0 rfl dX8_ones_11 ?_
      refine g_iload_n rfl 2 rfl dX8_ones_12 ?_
      refine g_ishr dX8_ones_13 ?_
      refine g_iconst (1 : Int32) (by decide) dX8_ones_14 ?_
      refine g_iand dX8_ones_15 ?_
      refine g_iadd dX8_ones_16 ?_
      refine g_istore_n rfl [(1, .int (l1 + ((jshr l0 l2) &&& (1 : Int32)))), (0, .int l0), (2, .int l2)] (by decide) rfl dX8_ones_17 ?_
      refine g_iinc (l2 + (1 : Int32)) [(2, .int (l2 + (1 : Int32))), (1, .int (l1 + ((jshr l0 l2) &&& (1 : Int32)))), (0, .int l0)] 2 rfl (congrArg (fun z => l2 + z) (show Int32.ofInt (1) = (1 : Int32) by decide)) (by decide) rfl dX8_ones_18 ?_
      refine g_goto 4 (by decide) dX8_ones_21 ?_
      refine g_lvs [2, 1, 0] rfl ?_
      exact ih l0 (l1 + ((jshr l0 l2) &&& (1 : Int32))) (l2 + (1 : Int32)) hf
def fX8_ones (p0 : Int32) : Option Int32 :=
  fX8_ones_b4 FU p0 (0 : Int32) (0 : Int32)
set_option maxHeartbeats 1000000 in
set_option maxRecDepth 20000 in
theorem wX8_ones {E : Ev} {x : Cx} {r0 : Int32} {st : St} (B : Bd E x (some FieldType.int) (0) 0 0 (some (.int r0)) st) (p0 : Int32)  (hf : fX8_ones p0 = some r0) : G E WT x RX8 cX8_ones 3 (0, 0) st 0 [(0, .int p0)] [] := by
  unfold fX8_ones at hf
  refine g_iconst (0 : Int32) (by decide) dX8_ones_0 ?_
  refine g_istore_n rfl [(1, .int (0 : Int32)), (0, .int p0)] (by decide) rfl dX8_ones_1 ?_
  refine g_iconst (0 : Int32) (by decide) dX8_ones_2 ?_
  refine g_istore_n rfl [(2, .int (0 : Int32)), (1, .int (0 : Int32)), (0, .int p0)] (by decide) rfl dX8_ones_3 ?_
  refine g_lvs [2, 1, 0] rfl ?_
  exact wX8_ones_b4 B  FU p0 (0 : Int32) (0 : Int32) hf
theorem kX8_ones {l : Launch} {E : Ev} {st : St} {p0 : Int32} {r0 : Int32}  (hf : fX8_ones p0 = some r0) : CM l E WT yX8_ones cX8_ones 3 (some FieldType.int) 0 0 0 [.int p0] st (some (.int r0)) st :=
  CM.intro mok_X8_ones (Nat.le_of_ble_eq_true rfl) (fun x hl hR ht hr hQ _ => wX8_ones ⟨hR, ht, hr, hQ⟩ p0 hf)
def fX8_firstOf_b2 : Nat → Int32 → Int32 → Option Int32
  | 0, _, _ => none
  | n + 1, l0, l1 => if (fX8_isIn l0 l1) = 0 then (fX8_firstOf_b2 n l0 (l1 + (1 : Int32))) else (some l1)
set_option maxHeartbeats 1000000 in
set_option maxRecDepth 20000 in
theorem wX8_firstOf_b2 {E : Ev} {x : Cx} {r0 : Int32} {st : St} (B : Bd E x (some FieldType.int) (1) 0 0 (some (.int r0)) st) : ∀ (n : Nat) (l0 : Int32) (l1 : Int32) , fX8_firstOf_b2 n l0 l1 = some r0 → G E WT x RX8 cX8_firstOf 2 (0, 0) st 2 [(0, .int l0), (1, .int l1)] [] := by
  intro n
  induction n with
  | zero =>
    intros
    rename_i hf
    rw [fX8_firstOf_b2] at hf
    cases hf
  | succ n ih =>
    intro l0 l1 hf
    rw [fX8_firstOf_b2] at hf
    refine g_iload_n rfl 0 rfl dX8_firstOf_2 ?_
    refine g_iload_n rfl 1 rfl dX8_firstOf_3 ?_
    refine g_callS0i (As := [.int l0, .int l1]) (rest := []) mok_X8_isIn tw6_148 tw6_149 B.1 (by decide) (kX8_isIn  rfl) rfl rfl (Nat.le_of_ble_eq_true rfl) ⟨Nat.le_refl _, Nat.le_refl _⟩ dX8_firstOf_4 ?_
    refine g_if_ne 16 (by decide) dX8_firstOf_7 (fun h1 => ?_) (fun h1 => ?_)
    · rw [if_neg h1] at hf
      refine g_iload_n rfl 1 rfl dX8_firstOf_16 ?_
      exact g_iret B.2.2.2 B.2.2.1 (congrArg (fun z => some (Value.int z)) (Option.some.inj hf).symm) rfl dX8_firstOf_17
    · rw [if_pos h1] at hf
      refine g_iinc (l1 + (1 : Int32)) [(1, .int (l1 + (1 : Int32))), (0, .int l0)] 1 rfl (congrArg (fun z => l1 + z) (show Int32.ofInt (1) = (1 : Int32) by decide)) (by decide) rfl dX8_firstOf_10 ?_
      refine g_goto 2 (by decide) dX8_firstOf_13 ?_
      refine g_lvs [1, 0] rfl ?_
      exact ih l0 (l1 + (1 : Int32)) hf
def fX8_firstOf (p0 : Int32) : Option Int32 :=
  fX8_firstOf_b2 FU p0 (0 : Int32)
set_option maxHeartbeats 1000000 in
set_option maxRecDepth 20000 in
theorem wX8_firstOf {E : Ev} {x : Cx} {r0 : Int32} {st : St} (B : Bd E x (some FieldType.int) (1) 0 0 (some (.int r0)) st) (p0 : Int32)  (hf : fX8_firstOf p0 = some r0) : G E WT x RX8 cX8_firstOf 2 (0, 0) st 0 [(0, .int p0)] [] := by
  unfold fX8_firstOf at hf
  refine g_iconst (0 : Int32) (by decide) dX8_firstOf_0 ?_
  refine g_istore_n rfl [(1, .int (0 : Int32)), (0, .int p0)] (by decide) rfl dX8_firstOf_1 ?_
  refine g_lvs [1, 0] rfl ?_
  exact wX8_firstOf_b2 B  FU p0 (0 : Int32) hf
theorem kX8_firstOf {l : Launch} {E : Ev} {st : St} {p0 : Int32} {r0 : Int32}  (hf : fX8_firstOf p0 = some r0) : CM l E WT yX8_firstOf cX8_firstOf 2 (some FieldType.int) 1 0 0 [.int p0] st (some (.int r0)) st :=
  CM.intro mok_X8_firstOf (Nat.le_of_ble_eq_true rfl) (fun x hl hR ht hr hQ _ => wX8_firstOf ⟨hR, ht, hr, hQ⟩ p0 hf)
def fX8_laysAside_b2 : Nat → Int32 → Int32 → St → Option St
  | 0, _, _, _ => none
  | n + 1, l1, l2, st => if (3 : Int32) ≤ l2 then (some st) else (chk (ixb l2 5627) (chk (ixb (((3 : Int32) * l1) + l2) 6) (fX8_laysAside_b2 n l1 (l2 + (1 : Int32)) (pI st 43 ((((3 : Int32) * l1) + l2).toNatClampNeg) (sI st 40 l2.toNatClampNeg)))))
set_option maxHeartbeats 1000000 in
set_option maxRecDepth 20000 in
theorem wX8_laysAside_b2 {E : Ev} {x : Cx} {u0 : St} (B : Bd E x none (0) 0 0 none u0) : ∀ (n : Nat) (l1 : Int32) (l2 : Int32) (st : St) , fX8_laysAside_b2 n l1 l2 st = some u0 → G E WT x RX8 cX8_laysAside 3 (0, 0) st 2 [(0, .ref (eB E + 38)), (1, .int l1), (2, .int l2)] [] := by
  intro n
  induction n with
  | zero =>
    intros
    rename_i hf
    rw [fX8_laysAside_b2] at hf
    cases hf
  | succ n ih =>
    intro l1 l2 st hf
    rw [fX8_laysAside_b2] at hf
    refine g_iload_n rfl 2 rfl dX8_laysAside_2 ?_
    refine g_iconst (3 : Int32) (by decide) dX8_laysAside_3 ?_
    refine g_icmp_ge 29 (by decide) dX8_laysAside_4 (fun h1 => ?_) (fun h1 => ?_)
    · rw [if_pos h1] at hf
      exact g_ret B.2.2.2 B.2.2.1 rfl (Option.some.inj hf).symm dX8_laysAside_29
    · rw [if_neg h1] at hf
      refine g_aload_n rfl 0 rfl dX8_laysAside_7 ?_
      refine g_get (j := 5) cok8 (by decide) (.ref (eB E + 43)) (Or.inl tw4_180) oS38 vS38_5 dX8_laysAside_8 ?_
      refine g_iconst (3 : Int32) (by decide) dX8_laysAside_11 ?_
      refine g_iload_n rfl 1 rfl dX8_laysAside_12 ?_
      refine g_imul dX8_laysAside_13 ?_
      refine g_iload_n rfl 2 rfl dX8_laysAside_14 ?_
      refine g_iadd dX8_laysAside_15 ?_
      refine g_aload_n rfl 0 rfl dX8_laysAside_16 ?_
      refine g_get (j := 2) cok8 (by decide) (.ref (eB E + 40)) (Or.inl tw4_177) oS38 vS38_2 dX8_laysAside_17 ?_
      refine g_iload_n rfl 2 rfl dX8_laysAside_20 ?_
      obtain ⟨h2, hf⟩ := chk_some hf
      refine g_ialdj l2.toNatClampNeg rfl aS40 (ixb_in h2) dX8_laysAside_21 ?_
      obtain ⟨h3, hf⟩ := chk_some hf
      refine g_iastj ((((3 : Int32) * l1) + l2).toNatClampNeg) rfl aS43 (ixb_in h3) B.2.1 wpI dX8_laysAside_22 ?_
      refine g_iinc (l2 + (1 : Int32)) [(2, .int (l2 + (1 : Int32))), (0, .ref (eB E + 38)), (1, .int l1)] 2 rfl (congrArg (fun z => l2 + z) (show Int32.ofInt (1) = (1 : Int32) by decide)) (by decide) rfl dX8_laysAside_23 ?_
      refine g_goto 2 (by decide) dX8_laysAside_26 ?_
      refine g_lvs [1, 2, 0] rfl ?_
      exact ih l1 (l2 + (1 : Int32)) (pI st 43 ((((3 : Int32) * l1) + l2).toNatClampNeg) (sI st 40 l2.toNatClampNeg)) hf
def fX8_laysAside (p1 : Int32) (st : St) : Option St :=
  fX8_laysAside_b2 FU p1 (0 : Int32) st
set_option maxHeartbeats 1000000 in
set_option maxRecDepth 20000 in
theorem wX8_laysAside {E : Ev} {x : Cx} {u0 : St} (B : Bd E x none (0) 0 0 none u0) (p1 : Int32) (st : St)  (hf : fX8_laysAside p1 st = some u0) : G E WT x RX8 cX8_laysAside 3 (0, 0) st 0 [(0, .ref (eB E + 38)), (1, .int p1)] [] := by
  unfold fX8_laysAside at hf
  refine g_iconst (0 : Int32) (by decide) dX8_laysAside_0 ?_
  refine g_istore_n rfl [(2, .int (0 : Int32)), (0, .ref (eB E + 38)), (1, .int p1)] (by decide) rfl dX8_laysAside_1 ?_
  refine g_lvs [1, 2, 0] rfl ?_
  exact wX8_laysAside_b2 B  FU p1 (0 : Int32) st hf
theorem kX8_laysAside {l : Launch} {E : Ev} {st : St} {p1 : Int32} {u0 : St}  (hf : fX8_laysAside p1 st = some u0) : CM l E WT yX8_laysAside cX8_laysAside 3 none 0 0 0 [.ref (eB E + 38), .int p1] st none u0 :=
  CM.intro mok_X8_laysAside (Nat.le_of_ble_eq_true rfl) (fun x hl hR ht hr hQ _ => wX8_laysAside ⟨hR, ht, hr, hQ⟩ p1 st hf)
def fX8_takesBack_b2 : Nat → Int32 → Int32 → St → Option St
  | 0, _, _, _ => none
  | n + 1, l1, l2, st => if (3 : Int32) ≤ l2 then (some st) else (chk (ixb (((3 : Int32) * l1) + l2) 6) (chk (ixb l2 5627) (fX8_takesBack_b2 n l1 (l2 + (1 : Int32)) (pI st 40 l2.toNatClampNeg (sI st 43 ((((3 : Int32) * l1) + l2).toNatClampNeg))))))
set_option maxHeartbeats 1000000 in
set_option maxRecDepth 20000 in
theorem wX8_takesBack_b2 {E : Ev} {x : Cx} {u0 : St} (B : Bd E x none (0) 0 0 none u0) : ∀ (n : Nat) (l1 : Int32) (l2 : Int32) (st : St) , fX8_takesBack_b2 n l1 l2 st = some u0 → G E WT x RX8 cX8_takesBack 3 (0, 0) st 2 [(0, .ref (eB E + 38)), (1, .int l1), (2, .int l2)] [] := by
  intro n
  induction n with
  | zero =>
    intros
    rename_i hf
    rw [fX8_takesBack_b2] at hf
    cases hf
  | succ n ih =>
    intro l1 l2 st hf
    rw [fX8_takesBack_b2] at hf
    refine g_iload_n rfl 2 rfl dX8_takesBack_2 ?_
    refine g_iconst (3 : Int32) (by decide) dX8_takesBack_3 ?_
    refine g_icmp_ge 29 (by decide) dX8_takesBack_4 (fun h1 => ?_) (fun h1 => ?_)
    · rw [if_pos h1] at hf
      exact g_ret B.2.2.2 B.2.2.1 rfl (Option.some.inj hf).symm dX8_takesBack_29
    · rw [if_neg h1] at hf
      refine g_aload_n rfl 0 rfl dX8_takesBack_7 ?_
      refine g_get (j := 2) cok8 (by decide) (.ref (eB E + 40)) (Or.inl tw4_177) oS38 vS38_2 dX8_takesBack_8 ?_
      refine g_iload_n rfl 2 rfl dX8_takesBack_11 ?_
      refine g_aload_n rfl 0 rfl dX8_takesBack_12 ?_
      refine g_get (j := 5) cok8 (by decide) (.ref (eB E + 43)) (Or.inl tw4_180) oS38 vS38_5 dX8_takesBack_13 ?_
      refine g_iconst (3 : Int32) (by decide) dX8_takesBack_16 ?_
      refine g_iload_n rfl 1 rfl dX8_takesBack_17 ?_
      refine g_imul dX8_takesBack_18 ?_
      refine g_iload_n rfl 2 rfl dX8_takesBack_19 ?_
      refine g_iadd dX8_takesBack_20 ?_
      obtain ⟨h2, hf⟩ := chk_some hf
      refine g_ialdj ((((3 : Int32) * l1) + l2).toNatClampNeg) rfl aS43 (ixb_in h2) dX8_takesBack_21 ?_
      obtain ⟨h3, hf⟩ := chk_some hf
      refine g_iastj l2.toNatClampNeg rfl aS40 (ixb_in h3) B.2.1 wpI dX8_takesBack_22 ?_
      refine g_iinc (l2 + (1 : Int32)) [(2, .int (l2 + (1 : Int32))), (0, .ref (eB E + 38)), (1, .int l1)] 2 rfl (congrArg (fun z => l2 + z) (show Int32.ofInt (1) = (1 : Int32) by decide)) (by decide) rfl dX8_takesBack_23 ?_
      refine g_goto 2 (by decide) dX8_takesBack_26 ?_
      refine g_lvs [1, 2, 0] rfl ?_
      exact ih l1 (l2 + (1 : Int32)) (pI st 40 l2.toNatClampNeg (sI st 43 ((((3 : Int32) * l1) + l2).toNatClampNeg))) hf
def fX8_takesBack (p1 : Int32) (st : St) : Option St :=
  fX8_takesBack_b2 FU p1 (0 : Int32) st
set_option maxHeartbeats 1000000 in
set_option maxRecDepth 20000 in
theorem wX8_takesBack {E : Ev} {x : Cx} {u0 : St} (B : Bd E x none (0) 0 0 none u0) (p1 : Int32) (st : St)  (hf : fX8_takesBack p1 st = some u0) : G E WT x RX8 cX8_takesBack 3 (0, 0) st 0 [(0, .ref (eB E + 38)), (1, .int p1)] [] := by
  unfold fX8_takesBack at hf
  refine g_iconst (0 : Int32) (by decide) dX8_takesBack_0 ?_
  refine g_istore_n rfl [(2, .int (0 : Int32)), (0, .ref (eB E + 38)), (1, .int p1)] (by decide) rfl dX8_takesBack_1 ?_
  refine g_lvs [1, 2, 0] rfl ?_
  exact wX8_takesBack_b2 B  FU p1 (0 : Int32) st hf
theorem kX8_takesBack {l : Launch} {E : Ev} {st : St} {p1 : Int32} {u0 : St}  (hf : fX8_takesBack p1 st = some u0) : CM l E WT yX8_takesBack cX8_takesBack 3 none 0 0 0 [.ref (eB E + 38), .int p1] st none u0 :=
  CM.intro mok_X8_takesBack (Nat.le_of_ble_eq_true rfl) (fun x hl hR ht hr hQ _ => wX8_takesBack ⟨hR, ht, hr, hQ⟩ p1 st hf)
def fX8_image_b17 : Nat → Int32 → Int32 → St → Option (Int32 × St)
  | 0, _, _, _ => none
  | n + 1, l1, l2, st => if (5627 : Int32) ≤ l2 then (chk (ixb l1 2) (fX8_good (0 : Int32) (pI st 42 l1.toNatClampNeg (vp_nar .boolean (1 : Int32))))) else (chk (ixb l2 5627) (chk (ixb (((5627 : Int32) * l1) + l2) 11254) (fX8_image_b17 n l1 (l2 + (1 : Int32)) (pI st 41 ((((5627 : Int32) * l1) + l2).toNatClampNeg) (sI st 40 l2.toNatClampNeg)))))
set_option maxHeartbeats 1000000 in
set_option maxRecDepth 20000 in
theorem wX8_image_b17 {E : Ev} {x : Cx} {r0 : Int32} {u0 : St} (B : Bd E x (some FieldType.int) (1) 0 0 (some (.int r0)) u0) : ∀ (n : Nat) (l1 : Int32) (l2 : Int32) (st : St) , fX8_image_b17 n l1 l2 st = some (r0, u0) → G E WT x RX8 cX8_image 3 (0, 0) st 17 [(0, .ref (eB E + 38)), (1, .int l1), (2, .int l2)] [] := by
  intro n
  induction n with
  | zero =>
    intros
    rename_i hf
    rw [fX8_image_b17] at hf
    cases hf
  | succ n ih =>
    intro l1 l2 st hf
    rw [fX8_image_b17] at hf
    refine g_iload_n rfl 2 rfl dX8_image_17 ?_
    refine g_sipush (5627 : Int32) (by decide) dX8_image_18 ?_
    refine g_icmp_ge 48 (by decide) dX8_image_21 (fun h1 => ?_) (fun h1 => ?_)
    · rw [if_pos h1] at hf
      refine g_aload_n rfl 0 rfl dX8_image_48 ?_
      refine g_get (j := 4) cok8 (by decide) (.ref (eB E + 42)) (Or.inl tw4_179) oS38 vS38_4 dX8_image_49 ?_
      refine g_iload_n rfl 1 rfl dX8_image_52 ?_
      refine g_iconst (1 : Int32) (by decide) dX8_image_53 ?_
      obtain ⟨h2, hf⟩ := chk_some hf
      refine g_zastj l1.toNatClampNeg rfl aS42 (ixb_in h2) B.2.1 wpI dX8_image_54 ?_
      refine g_aload_n rfl 0 rfl dX8_image_55 ?_
      refine g_iconst (0 : Int32) (by decide) dX8_image_56 ?_
      refine g_callV0i (As := [.int (0 : Int32)]) (rest := []) cok8 mok_X8_good tw5_125 tw5_127 ts5_4 oS38 B.1 (by decide) (kX8_good  hf) rfl rfl (Nat.le_of_ble_eq_true rfl) ⟨Nat.le_refl _, Nat.le_refl _⟩ dX8_image_57 ?_
      exact g_iret B.2.2.2 B.2.2.1 rfl rfl dX8_image_60
    · rw [if_neg h1] at hf
      refine g_aload_n rfl 0 rfl dX8_image_24 ?_
      refine g_get (j := 3) cok8 (by decide) (.ref (eB E + 41)) (Or.inl tw4_178) oS38 vS38_3 dX8_image_25 ?_
      refine g_sipush (5627 : Int32) (by decide) dX8_image_28 ?_
      refine g_iload_n rfl 1 rfl dX8_image_31 ?_
      refine g_imul dX8_image_32 ?_
      refine g_iload_n rfl 2 rfl dX8_image_33 ?_
      refine g_iadd dX8_image_34 ?_
      refine g_aload_n rfl 0 rfl dX8_image_35 ?_
      refine g_get (j := 2) cok8 (by decide) (.ref (eB E + 40)) (Or.inl tw4_177) oS38 vS38_2 dX8_image_36 ?_
      refine g_iload_n rfl 2 rfl dX8_image_39 ?_
      obtain ⟨h3, hf⟩ := chk_some hf
      refine g_ialdj l2.toNatClampNeg rfl aS40 (ixb_in h3) dX8_image_40 ?_
      obtain ⟨h4, hf⟩ := chk_some hf
      refine g_iastj ((((5627 : Int32) * l1) + l2).toNatClampNeg) rfl aS41 (ixb_in h4) B.2.1 wpI dX8_image_41 ?_
      refine g_iinc (l2 + (1 : Int32)) [(2, .int (l2 + (1 : Int32))), (0, .ref (eB E + 38)), (1, .int l1)] 2 rfl (congrArg (fun z => l2 + z) (show Int32.ofInt (1) = (1 : Int32) by decide)) (by decide) rfl dX8_image_42 ?_
      refine g_goto 17 (by decide) dX8_image_45 ?_
      refine g_lvs [1, 2, 0] rfl ?_
      exact ih l1 (l2 + (1 : Int32)) (pI st 41 ((((5627 : Int32) * l1) + l2).toNatClampNeg) (sI st 40 l2.toNatClampNeg)) hf
def fX8_image (p1 : Int32) (st : St) : Option (Int32 × St) :=
  if (fX8_lies p1 (0 : Int32) (1 : Int32)) = 0 then (fX8_refuses (-1 : Int32) st) else (fX8_image_b17 FU p1 (0 : Int32) st)
set_option maxHeartbeats 1000000 in
set_option maxRecDepth 20000 in
theorem wX8_image {E : Ev} {x : Cx} {r0 : Int32} {u0 : St} (B : Bd E x (some FieldType.int) (1) 0 0 (some (.int r0)) u0) (p1 : Int32) (st : St)  (hf : fX8_image p1 st = some (r0, u0)) : G E WT x RX8 cX8_image 3 (0, 0) st 0 [(0, .ref (eB E + 38)), (1, .int p1)] [] := by
  unfold fX8_image at hf
  refine g_iload_n rfl 1 rfl dX8_image_0 ?_
  refine g_iconst (0 : Int32) (by decide) dX8_image_1 ?_
  refine g_iconst (1 : Int32) (by decide) dX8_image_2 ?_
  refine g_callS0i (As := [.int p1, .int (0 : Int32), .int (1 : Int32)]) (rest := []) mok_X8_lies tw5_118 tw5_119 B.1 (by decide) (kX8_lies  rfl) rfl rfl (Nat.le_of_ble_eq_true rfl) ⟨Nat.le_refl _, Nat.le_refl _⟩ dX8_image_3 ?_
  refine g_if_ne 15 (by decide) dX8_image_6 (fun h1 => ?_) (fun h1 => ?_)
  · rw [if_neg h1] at hf
    refine g_iconst (0 : Int32) (by decide) dX8_image_15 ?_
    refine g_istore_n rfl [(2, .int (0 : Int32)), (0, .ref (eB E + 38)), (1, .int p1)] (by decide) rfl dX8_image_16 ?_
    refine g_lvs [1, 2, 0] rfl ?_
    exact wX8_image_b17 B  FU p1 (0 : Int32) st hf
  · rw [if_pos h1] at hf
    refine g_aload_n rfl 0 rfl dX8_image_9 ?_
    refine g_iconst (-1 : Int32) (by decide) dX8_image_10 ?_
    refine g_callV0i (As := [.int (-1 : Int32)]) (rest := []) cok8 mok_X8_refuses tw5_121 tw5_123 ts5_3 oS38 B.1 (by decide) (kX8_refuses  hf) rfl rfl (Nat.le_of_ble_eq_true rfl) ⟨Nat.le_refl _, Nat.le_refl _⟩ dX8_image_11 ?_
    exact g_iret B.2.2.2 B.2.2.1 rfl rfl dX8_image_14
theorem kX8_image {l : Launch} {E : Ev} {st : St} {p1 : Int32} {r0 : Int32} {u0 : St}  (hf : fX8_image p1 st = some (r0, u0)) : CM l E WT yX8_image cX8_image 3 (some FieldType.int) 1 0 0 [.ref (eB E + 38), .int p1] st (some (.int r0)) u0 :=
  CM.intro mok_X8_image (Nat.le_of_ble_eq_true rfl) (fun x hl hR ht hr hQ _ => wX8_image ⟨hR, ht, hr, hQ⟩ p1 st hf)
def fX8_back_b33 : Nat → Int32 → Int32 → St → Option (Int32 × St)
  | 0, _, _, _ => none
  | n + 1, l1, l2, st => if (5627 : Int32) ≤ l2 then (fX8_settled (0 : Int32) st) else (chk (ixb (((5627 : Int32) * l1) + l2) 11254) (chk (ixb l2 5627) (fX8_back_b33 n l1 (l2 + (1 : Int32)) (pI st 40 l2.toNatClampNeg (sI st 41 ((((5627 : Int32) * l1) + l2).toNatClampNeg))))))
set_option maxHeartbeats 1000000 in
set_option maxRecDepth 20000 in
theorem wX8_back_b33 {E : Ev} {x : Cx} {r0 : Int32} {u0 : St} (B : Bd E x (some FieldType.int) (2) 0 0 (some (.int r0)) u0) : ∀ (n : Nat) (l1 : Int32) (l2 : Int32) (st : St) , fX8_back_b33 n l1 l2 st = some (r0, u0) → G E WT x RX8 cX8_back 3 (0, 0) st 33 [(0, .ref (eB E + 38)), (1, .int l1), (2, .int l2)] [] := by
  intro n
  induction n with
  | zero =>
    intros
    rename_i hf
    rw [fX8_back_b33] at hf
    cases hf
  | succ n ih =>
    intro l1 l2 st hf
    rw [fX8_back_b33] at hf
    refine g_iload_n rfl 2 rfl dX8_back_33 ?_
    refine g_sipush (5627 : Int32) (by decide) dX8_back_34 ?_
    refine g_icmp_ge 64 (by decide) dX8_back_37 (fun h1 => ?_) (fun h1 => ?_)
    · rw [if_pos h1] at hf
      refine g_aload_n rfl 0 rfl dX8_back_64 ?_
      refine g_iconst (0 : Int32) (by decide) dX8_back_65 ?_
      refine g_callV0i (As := [.int (0 : Int32)]) (rest := []) cok8 mok_X8_settled tw5_133 tw5_135 ts5_5 oS38 B.1 (by decide) (kX8_settled  hf) rfl rfl (Nat.le_of_ble_eq_true rfl) ⟨Nat.le_refl _, Nat.le_refl _⟩ dX8_back_66 ?_
      exact g_iret B.2.2.2 B.2.2.1 rfl rfl dX8_back_69
    · rw [if_neg h1] at hf
      refine g_aload_n rfl 0 rfl dX8_back_40 ?_
      refine g_get (j := 2) cok8 (by decide) (.ref (eB E + 40)) (Or.inl tw4_177) oS38 vS38_2 dX8_back_41 ?_
      refine g_iload_n rfl 2 rfl dX8_back_44 ?_
      refine g_aload_n rfl 0 rfl dX8_back_45 ?_
      refine g_get (j := 3) cok8 (by decide) (.ref (eB E + 41)) (Or.inl tw4_178) oS38 vS38_3 dX8_back_46 ?_
      refine g_sipush (5627 : Int32) (by decide) dX8_back_49 ?_
      refine g_iload_n rfl 1 rfl dX8_back_52 ?_
      refine g_imul dX8_back_53 ?_
      refine g_iload_n rfl 2 rfl dX8_back_54 ?_
      refine g_iadd dX8_back_55 ?_
      obtain ⟨h2, hf⟩ := chk_some hf
      refine g_ialdj ((((5627 : Int32) * l1) + l2).toNatClampNeg) rfl aS41 (ixb_in h2) dX8_back_56 ?_
      obtain ⟨h3, hf⟩ := chk_some hf
      refine g_iastj l2.toNatClampNeg rfl aS40 (ixb_in h3) B.2.1 wpI dX8_back_57 ?_
      refine g_iinc (l2 + (1 : Int32)) [(2, .int (l2 + (1 : Int32))), (0, .ref (eB E + 38)), (1, .int l1)] 2 rfl (congrArg (fun z => l2 + z) (show Int32.ofInt (1) = (1 : Int32) by decide)) (by decide) rfl dX8_back_58 ?_
      refine g_goto 33 (by decide) dX8_back_61 ?_
      refine g_lvs [1, 2, 0] rfl ?_
      exact ih l1 (l2 + (1 : Int32)) (pI st 40 l2.toNatClampNeg (sI st 41 ((((5627 : Int32) * l1) + l2).toNatClampNeg))) hf
def fX8_back (p1 : Int32) (st : St) : Option (Int32 × St) :=
  if (fX8_lies p1 (0 : Int32) (1 : Int32)) = 0 then (fX8_refuses (-1 : Int32) st) else (chk (ixb p1 2) (if (sI st 42 p1.toNatClampNeg) = 0 then (fX8_refuses (-2 : Int32) st) else (fX8_back_b33 FU p1 (0 : Int32) st)))
set_option maxHeartbeats 1000000 in
set_option maxRecDepth 20000 in
theorem wX8_back {E : Ev} {x : Cx} {r0 : Int32} {u0 : St} (B : Bd E x (some FieldType.int) (2) 0 0 (some (.int r0)) u0) (p1 : Int32) (st : St)  (hf : fX8_back p1 st = some (r0, u0)) : G E WT x RX8 cX8_back 3 (0, 0) st 0 [(0, .ref (eB E + 38)), (1, .int p1)] [] := by
  unfold fX8_back at hf
  refine g_iload_n rfl 1 rfl dX8_back_0 ?_
  refine g_iconst (0 : Int32) (by decide) dX8_back_1 ?_
  refine g_iconst (1 : Int32) (by decide) dX8_back_2 ?_
  refine g_callS0i (As := [.int p1, .int (0 : Int32), .int (1 : Int32)]) (rest := []) mok_X8_lies tw5_118 tw5_119 B.1 (by decide) (kX8_lies  rfl) rfl rfl (Nat.le_of_ble_eq_true rfl) ⟨Nat.le_refl _, Nat.le_refl _⟩ dX8_back_3 ?_
  refine g_if_ne 15 (by decide) dX8_back_6 (fun h1 => ?_) (fun h1 => ?_)
  · rw [if_neg h1] at hf
    refine g_aload_n rfl 0 rfl dX8_back_15 ?_
    refine g_get (j := 4) cok8 (by decide) (.ref (eB E + 42)) (Or.inl tw4_179) oS38 vS38_4 dX8_back_16 ?_
    refine g_iload_n rfl 1 rfl dX8_back_19 ?_
    obtain ⟨h2, hf⟩ := chk_some hf
    refine g_zaldj p1.toNatClampNeg rfl aS42 (ixb_in h2) dX8_back_20 ?_
    refine g_if_ne 31 (by decide) dX8_back_21 (fun h3 => ?_) (fun h3 => ?_)
    · rw [if_neg h3] at hf
      refine g_iconst (0 : Int32) (by decide) dX8_back_31 ?_
      refine g_istore_n rfl [(2, .int (0 : Int32)), (0, .ref (eB E + 38)), (1, .int p1)] (by decide) rfl dX8_back_32 ?_
      refine g_lvs [1, 2, 0] rfl ?_
      exact wX8_back_b33 B  FU p1 (0 : Int32) st hf
    · rw [if_pos h3] at hf
      refine g_aload_n rfl 0 rfl dX8_back_24 ?_
      refine g_bipush (-2 : Int32) (by decide) dX8_back_25 ?_
      refine g_callV0i (As := [.int (-2 : Int32)]) (rest := []) cok8 mok_X8_refuses tw5_121 tw5_123 ts5_3 oS38 B.1 (by decide) (kX8_refuses  hf) rfl rfl (Nat.le_of_ble_eq_true rfl) ⟨Nat.le_refl _, Nat.le_refl _⟩ dX8_back_27 ?_
      exact g_iret B.2.2.2 B.2.2.1 rfl rfl dX8_back_30
  · rw [if_pos h1] at hf
    refine g_aload_n rfl 0 rfl dX8_back_9 ?_
    refine g_iconst (-1 : Int32) (by decide) dX8_back_10 ?_
    refine g_callV0i (As := [.int (-1 : Int32)]) (rest := []) cok8 mok_X8_refuses tw5_121 tw5_123 ts5_3 oS38 B.1 (by decide) (kX8_refuses  hf) rfl rfl (Nat.le_of_ble_eq_true rfl) ⟨Nat.le_refl _, Nat.le_refl _⟩ dX8_back_11 ?_
    exact g_iret B.2.2.2 B.2.2.1 rfl rfl dX8_back_14
theorem kX8_back {l : Launch} {E : Ev} {st : St} {p1 : Int32} {r0 : Int32} {u0 : St}  (hf : fX8_back p1 st = some (r0, u0)) : CM l E WT yX8_back cX8_back 3 (some FieldType.int) 2 0 0 [.ref (eB E + 38), .int p1] st (some (.int r0)) u0 :=
  CM.intro mok_X8_back (Nat.le_of_ble_eq_true rfl) (fun x hl hR ht hr hQ _ => wX8_back ⟨hR, ht, hr, hQ⟩ p1 st hf)
def fX8_isChild (st : St) (p1 : Int32) : Int32 :=
  fX8_lies p1 (0 : Int32) ((sI st 40 16) - (1 : Int32))
set_option maxHeartbeats 1000000 in
set_option maxRecDepth 20000 in
theorem wX8_isChild {E : Ev} {x : Cx} {r0 : Int32} {st : St} (B : Bd E x (some FieldType.boolean) (1) 0 0 (some (.int r0)) st) (p1 : Int32)  (hf : fX8_isChild st p1 = r0) : G E WT x RX8 cX8_isChild 2 (0, 0) st 0 [(0, .ref (eB E + 38)), (1, .int p1)] [] := by
  unfold fX8_isChild at hf
  refine g_iload_n rfl 1 rfl dX8_isChild_0 ?_
  refine g_iconst (0 : Int32) (by decide) dX8_isChild_1 ?_
  refine g_aload_n rfl 0 rfl dX8_isChild_2 ?_
  refine g_get (j := 2) cok8 (by decide) (.ref (eB E + 40)) (Or.inl tw4_177) oS38 vS38_2 dX8_isChild_3 ?_
  refine g_bipush (16 : Int32) (by decide) dX8_isChild_6 ?_
  refine g_ialdj 16 rfl aS40 (ixb_in rfl) dX8_isChild_8 ?_
  refine g_iconst (1 : Int32) (by decide) dX8_isChild_9 ?_
  refine g_isub dX8_isChild_10 ?_
  refine g_callS0i (As := [.int p1, .int (0 : Int32), .int ((sI st 40 16) - (1 : Int32))]) (rest := []) mok_X8_lies tw5_118 tw5_119 B.1 (by decide) (kX8_lies  rfl) rfl rfl (Nat.le_of_ble_eq_true rfl) ⟨Nat.le_refl _, Nat.le_refl _⟩ dX8_isChild_11 ?_
  exact g_zret B.2.2.2 B.2.2.1 (isb_or (fX8_lies_b _ _ _)) (congrArg (fun z => some (Value.int z)) hf.symm) rfl dX8_isChild_14
theorem kX8_isChild {l : Launch} {E : Ev} {st : St} {p1 : Int32} {r0 : Int32}  (hf : fX8_isChild st p1 = r0) : CM l E WT yX8_isChild cX8_isChild 2 (some FieldType.boolean) 1 0 0 [.ref (eB E + 38), .int p1] st (some (.int r0)) st :=
  CM.intro mok_X8_isChild (Nat.le_of_ble_eq_true rfl) (fun x hl hR ht hr hQ _ => wX8_isChild ⟨hR, ht, hr, hQ⟩ p1 hf)
theorem fX8_isChild_b (st : St) (p1 : Int32) : isb (fX8_isChild st p1) = true := by
  unfold fX8_isChild
  (repeat' split) <;> first | rfl | exact fX8_lies_b _ _ _
def fX8_isRhyme (st : St) (p1 : Int32) : Int32 :=
  fX8_lies p1 (0 : Int32) ((sI st 40 17) - (1 : Int32))
set_option maxHeartbeats 1000000 in
set_option maxRecDepth 20000 in
theorem wX8_isRhyme {E : Ev} {x : Cx} {r0 : Int32} {st : St} (B : Bd E x (some FieldType.boolean) (1) 0 0 (some (.int r0)) st) (p1 : Int32)  (hf : fX8_isRhyme st p1 = r0) : G E WT x RX8 cX8_isRhyme 2 (0, 0) st 0 [(0, .ref (eB E + 38)), (1, .int p1)] [] := by
  unfold fX8_isRhyme at hf
  refine g_iload_n rfl 1 rfl dX8_isRhyme_0 ?_
  refine g_iconst (0 : Int32) (by decide) dX8_isRhyme_1 ?_
  refine g_aload_n rfl 0 rfl dX8_isRhyme_2 ?_
  refine g_get (j := 2) cok8 (by decide) (.ref (eB E + 40)) (Or.inl tw4_177) oS38 vS38_2 dX8_isRhyme_3 ?_
  refine g_bipush (17 : Int32) (by decide) dX8_isRhyme_6 ?_
  refine g_ialdj 17 rfl aS40 (ixb_in rfl) dX8_isRhyme_8 ?_
  refine g_iconst (1 : Int32) (by decide) dX8_isRhyme_9 ?_
  refine g_isub dX8_isRhyme_10 ?_
  refine g_callS0i (As := [.int p1, .int (0 : Int32), .int ((sI st 40 17) - (1 : Int32))]) (rest := []) mok_X8_lies tw5_118 tw5_119 B.1 (by decide) (kX8_lies  rfl) rfl rfl (Nat.le_of_ble_eq_true rfl) ⟨Nat.le_refl _, Nat.le_refl _⟩ dX8_isRhyme_11 ?_
  exact g_zret B.2.2.2 B.2.2.1 (isb_or (fX8_lies_b _ _ _)) (congrArg (fun z => some (Value.int z)) hf.symm) rfl dX8_isRhyme_14
theorem kX8_isRhyme {l : Launch} {E : Ev} {st : St} {p1 : Int32} {r0 : Int32}  (hf : fX8_isRhyme st p1 = r0) : CM l E WT yX8_isRhyme cX8_isRhyme 2 (some FieldType.boolean) 1 0 0 [.ref (eB E + 38), .int p1] st (some (.int r0)) st :=
  CM.intro mok_X8_isRhyme (Nat.le_of_ble_eq_true rfl) (fun x hl hR ht hr hQ _ => wX8_isRhyme ⟨hR, ht, hr, hQ⟩ p1 hf)
theorem fX8_isRhyme_b (st : St) (p1 : Int32) : isb (fX8_isRhyme st p1) = true := by
  unfold fX8_isRhyme
  (repeat' split) <;> first | rfl | exact fX8_lies_b _ _ _
def fX8_allChildren (st : St)  : Int32 :=
  (jshl (1 : Int32) (sI st 40 16)) - (1 : Int32)
set_option maxHeartbeats 1000000 in
set_option maxRecDepth 20000 in
theorem wX8_allChildren {E : Ev} {x : Cx} {r0 : Int32} {st : St} (B : Bd E x (some FieldType.int) (0) 0 0 (some (.int r0)) st)   (hf : fX8_allChildren st  = r0) : G E WT x RX8 cX8_allChildren 1 (0, 0) st 0 [(0, .ref (eB E + 38))] [] := by
  unfold fX8_allChildren at hf
  refine g_iconst (1 : Int32) (by decide) dX8_allChildren_0 ?_
  refine g_aload_n rfl 0 rfl dX8_allChildren_1 ?_
  refine g_get (j := 2) cok8 (by decide) (.ref (eB E + 40)) (Or.inl tw4_177) oS38 vS38_2 dX8_allChildren_2 ?_
  refine g_bipush (16 : Int32) (by decide) dX8_allChildren_5 ?_
  refine g_ialdj 16 rfl aS40 (ixb_in rfl) dX8_allChildren_7 ?_
  refine g_ishl dX8_allChildren_8 ?_
  refine g_iconst (1 : Int32) (by decide) dX8_allChildren_9 ?_
  refine g_isub dX8_allChildren_10 ?_
  exact g_iret B.2.2.2 B.2.2.1 (congrArg (fun z => some (Value.int z)) hf.symm) rfl dX8_allChildren_11
theorem kX8_allChildren {l : Launch} {E : Ev} {st : St}  {r0 : Int32}  (hf : fX8_allChildren st = r0) : CM l E WT yX8_allChildren cX8_allChildren 1 (some FieldType.int) 0 0 0 [.ref (eB E + 38)] st (some (.int r0)) st :=
  CM.intro mok_X8_allChildren (Nat.le_of_ble_eq_true rfl) (fun x hl hR ht hr hQ _ => wX8_allChildren ⟨hR, ht, hr, hQ⟩  hf)
def fX8_inside (st : St)  : Option Int32 :=
  fX8_ones (sI st 40 0)
set_option maxHeartbeats 1000000 in
set_option maxRecDepth 20000 in
theorem wX8_inside {E : Ev} {x : Cx} {r0 : Int32} {st : St} (B : Bd E x (some FieldType.int) (1) 0 0 (some (.int r0)) st)   (hf : fX8_inside st  = some r0) : G E WT x RX8 cX8_inside 1 (0, 0) st 0 [(0, .ref (eB E + 38))] [] := by
  unfold fX8_inside at hf
  refine g_aload_n rfl 0 rfl dX8_inside_0 ?_
  refine g_get (j := 2) cok8 (by decide) (.ref (eB E + 40)) (Or.inl tw4_177) oS38 vS38_2 dX8_inside_1 ?_
  refine g_iconst (0 : Int32) (by decide) dX8_inside_4 ?_
  refine g_ialdj 0 rfl aS40 (ixb_in rfl) dX8_inside_5 ?_
  refine g_callS0i (As := [.int (sI st 40 0)]) (rest := []) mok_X8_ones tw6_65 tw6_66 B.1 (by decide) (kX8_ones  hf) rfl rfl (Nat.le_of_ble_eq_true rfl) ⟨Nat.le_refl _, Nat.le_refl _⟩ dX8_inside_6 ?_
  exact g_iret B.2.2.2 B.2.2.1 rfl rfl dX8_inside_9
theorem kX8_inside {l : Launch} {E : Ev} {st : St}  {r0 : Int32}  (hf : fX8_inside st = some r0) : CM l E WT yX8_inside cX8_inside 1 (some FieldType.int) 1 0 0 [.ref (eB E + 38)] st (some (.int r0)) st :=
  CM.intro mok_X8_inside (Nat.le_of_ble_eq_true rfl) (fun x hl hR ht hr hQ _ => wX8_inside ⟨hR, ht, hr, hQ⟩  hf)
def fX8_addsChild (p1 : Int32) (st : St) : Option St :=
  chk (ixb ((3 : Int32) + (sI st 40 16)) 5627) (some (pI (pI (pI st 40 (((3 : Int32) + (sI st 40 16)).toNatClampNeg) p1) 40 0 ((sI (pI st 40 (((3 : Int32) + (sI st 40 16)).toNatClampNeg) p1) 40 0) ||| (jshl (1 : Int32) (sI st 40 16)))) 40 16 ((sI (pI (pI st 40 (((3 : Int32) + (sI st 40 16)).toNatClampNeg) p1) 40 0 ((sI (pI st 40 (((3 : Int32) + (sI st 40 16)).toNatClampNeg) p1) 40 0) ||| (jshl (1 : Int32) (sI st 40 16)))) 40 16) + (1 : Int32))))
set_option maxHeartbeats 1000000 in
set_option maxRecDepth 20000 in
theorem wX8_addsChild {E : Ev} {x : Cx} {u0 : St} (B : Bd E x none (0) 0 0 none u0) (p1 : Int32) (st : St)  (hf : fX8_addsChild p1 st = some u0) : G E WT x RX8 cX8_addsChild 3 (0, 0) st 0 [(0, .ref (eB E + 38)), (1, .int p1)] [] := by
  unfold fX8_addsChild at hf
  refine g_aload_n rfl 0 rfl dX8_addsChild_0 ?_
  refine g_get (j := 2) cok8 (by decide) (.ref (eB E + 40)) (Or.inl tw4_177) oS38 vS38_2 dX8_addsChild_1 ?_
  refine g_bipush (16 : Int32) (by decide) dX8_addsChild_4 ?_
  refine g_ialdj 16 rfl aS40 (ixb_in rfl) dX8_addsChild_6 ?_
  refine g_istore_n rfl [(2, .int (sI st 40 16)), (0, .ref (eB E + 38)), (1, .int p1)] (by decide) rfl dX8_addsChild_7 ?_
  refine g_aload_n rfl 1 rfl dX8_addsChild_8 ?_
  refine g_get (j := 2) cok8 (by decide) (.ref (eB E + 40)) (Or.inl tw4_177) oS38 vS38_2 dX8_addsChild_9 ?_
  refine g_iconst (3 : Int32) (by decide) dX8_addsChild_12 ?_
  refine g_iload_n rfl 0 rfl dX8_addsChild_13 ?_
  refine g_iadd dX8_addsChild_14 ?_
  refine g_iload_n rfl 2 rfl dX8_addsChild_15 ?_
  obtain ⟨h1, hf⟩ := chk_some hf
  refine g_iastj (((3 : Int32) + (sI st 40 16)).toNatClampNeg) rfl aS40 (ixb_in h1) B.2.1 wpI dX8_addsChild_16 ?_
  refine g_aload_n rfl 1 rfl dX8_addsChild_17 ?_
  refine g_get (j := 2) cok8 (by decide) (.ref (eB E + 40)) (Or.inl tw4_177) oS38 vS38_2 dX8_addsChild_18 ?_
  refine g_iconst (0 : Int32) (by decide) dX8_addsChild_21 ?_
  refine g_dup2 rfl rfl dX8_addsChild_22 ?_
  refine g_ialdj 0 rfl aS40 (ixb_in rfl) dX8_addsChild_23 ?_
  refine g_iconst (1 : Int32) (by decide) dX8_addsChild_24 ?_
  refine g_iload_n rfl 0 rfl dX8_addsChild_25 ?_
  refine g_ishl dX8_addsChild_26 ?_
  refine g_ior dX8_addsChild_27 ?_
  refine g_iastj 0 rfl aS40 (ixb_in rfl) B.2.1 wpI dX8_addsChild_28 ?_
  refine g_aload_n rfl 1 rfl dX8_addsChild_29 ?_
  refine g_get (j := 2) cok8 (by decide) (.ref (eB E + 40)) (Or.inl tw4_177) oS38 vS38_2 dX8_addsChild_30 ?_
  refine g_bipush (16 : Int32) (by decide) dX8_addsChild_33 ?_
  refine g_dup2 rfl rfl dX8_addsChild_35 ?_
  refine g_ialdj 16 rfl aS40 (ixb_in rfl) dX8_addsChild_36 ?_
  refine g_iconst (1 : Int32) (by decide) dX8_addsChild_37 ?_
  refine g_iadd dX8_addsChild_38 ?_
  refine g_iastj 16 rfl aS40 (ixb_in rfl) B.2.1 wpI dX8_addsChild_39 ?_
  exact g_ret B.2.2.2 B.2.2.1 rfl (Option.some.inj hf).symm dX8_addsChild_40
theorem kX8_addsChild {l : Launch} {E : Ev} {st : St} {p1 : Int32} {u0 : St}  (hf : fX8_addsChild p1 st = some u0) : CM l E WT yX8_addsChild cX8_addsChild 3 none 0 0 0 [.ref (eB E + 38), .int p1] st none u0 :=
  CM.intro mok_X8_addsChild (Nat.le_of_ble_eq_true rfl) (fun x hl hR ht hr hQ _ => wX8_addsChild ⟨hR, ht, hr, hQ⟩ p1 st hf)
def fX8_child (p1 : Int32) (st : St) : Option (Int32 × St) :=
  if (fX8_lies p1 (0 : Int32) (9 : Int32)) = 0 then (fX8_refuses (-1 : Int32) st) else (if (sI st 40 16) = (6 : Int32) then (fX8_refuses (-5 : Int32) st) else ((fX8_addsChild p1 st).bind (fun q3 => fX8_settled ((sI q3 40 16) - (1 : Int32)) q3)))
set_option maxHeartbeats 1000000 in
set_option maxRecDepth 20000 in
theorem wX8_child {E : Ev} {x : Cx} {r0 : Int32} {u0 : St} (B : Bd E x (some FieldType.int) (2) 0 0 (some (.int r0)) u0) (p1 : Int32) (st : St)  (hf : fX8_child p1 st = some (r0, u0)) : G E WT x RX8 cX8_child 2 (0, 0) st 0 [(0, .ref (eB E + 38)), (1, .int p1)] [] := by
  unfold fX8_child at hf
  refine g_iload_n rfl 1 rfl dX8_child_0 ?_
  refine g_iconst (0 : Int32) (by decide) dX8_child_1 ?_
  refine g_bipush (9 : Int32) (by decide) dX8_child_2 ?_
  refine g_callS0i (As := [.int p1, .int (0 : Int32), .int (9 : Int32)]) (rest := []) mok_X8_lies tw5_118 tw5_119 B.1 (by decide) (kX8_lies  rfl) rfl rfl (Nat.le_of_ble_eq_true rfl) ⟨Nat.le_refl _, Nat.le_refl _⟩ dX8_child_4 ?_
  refine g_if_ne 16 (by decide) dX8_child_7 (fun h1 => ?_) (fun h1 => ?_)
  · rw [if_neg h1] at hf
    refine g_aload_n rfl 0 rfl dX8_child_16 ?_
    refine g_get (j := 2) cok8 (by decide) (.ref (eB E + 40)) (Or.inl tw4_177) oS38 vS38_2 dX8_child_17 ?_
    refine g_bipush (16 : Int32) (by decide) dX8_child_20 ?_
    refine g_ialdj 16 rfl aS40 (ixb_in rfl) dX8_child_22 ?_
    refine g_bipush (6 : Int32) (by decide) dX8_child_23 ?_
    refine g_icmp_ne 35 (by decide) dX8_child_25 (fun h2 => ?_) (fun h2 => ?_)
    · rw [if_neg h2] at hf
      refine g_aload_n rfl 0 rfl dX8_child_35 ?_
      refine g_iload_n rfl 1 rfl dX8_child_36 ?_
      obtain ⟨q3, h4, hf⟩ := bnd_some hf
      refine g_callV0v (As := [.int p1]) (rest := []) cok8 mok_X8_addsChild tw5_141 tw5_143 ts5_6 oS38 B.1 (by decide) (kX8_addsChild  h4) rfl rfl (Nat.le_of_ble_eq_true rfl) ⟨Nat.le_refl _, Nat.le_refl _⟩ dX8_child_37 ?_
      refine g_aload_n rfl 0 rfl dX8_child_40 ?_
      refine g_aload_n rfl 0 rfl dX8_child_41 ?_
      refine g_get (j := 2) cok8 (by decide) (.ref (eB E + 40)) (Or.inl tw4_177) oS38 vS38_2 dX8_child_42 ?_
      refine g_bipush (16 : Int32) (by decide) dX8_child_45 ?_
      refine g_ialdj 16 rfl aS40 (ixb_in rfl) dX8_child_47 ?_
      refine g_iconst (1 : Int32) (by decide) dX8_child_48 ?_
      refine g_isub dX8_child_49 ?_
      refine g_callV0i (As := [.int ((sI q3 40 16) - (1 : Int32))]) (rest := []) cok8 mok_X8_settled tw5_133 tw5_135 ts5_5 oS38 B.1 (by decide) (kX8_settled  hf) rfl rfl (Nat.le_of_ble_eq_true rfl) ⟨Nat.le_refl _, Nat.le_refl _⟩ dX8_child_50 ?_
      exact g_iret B.2.2.2 B.2.2.1 rfl rfl dX8_child_53
    · rw [if_pos h2] at hf
      refine g_aload_n rfl 0 rfl dX8_child_28 ?_
      refine g_bipush (-5 : Int32) (by decide) dX8_child_29 ?_
      refine g_callV0i (As := [.int (-5 : Int32)]) (rest := []) cok8 mok_X8_refuses tw5_121 tw5_123 ts5_3 oS38 B.1 (by decide) (kX8_refuses  hf) rfl rfl (Nat.le_of_ble_eq_true rfl) ⟨Nat.le_refl _, Nat.le_refl _⟩ dX8_child_31 ?_
      exact g_iret B.2.2.2 B.2.2.1 rfl rfl dX8_child_34
  · rw [if_pos h1] at hf
    refine g_aload_n rfl 0 rfl dX8_child_10 ?_
    refine g_iconst (-1 : Int32) (by decide) dX8_child_11 ?_
    refine g_callV0i (As := [.int (-1 : Int32)]) (rest := []) cok8 mok_X8_refuses tw5_121 tw5_123 ts5_3 oS38 B.1 (by decide) (kX8_refuses  hf) rfl rfl (Nat.le_of_ble_eq_true rfl) ⟨Nat.le_refl _, Nat.le_refl _⟩ dX8_child_12 ?_
    exact g_iret B.2.2.2 B.2.2.1 rfl rfl dX8_child_15
theorem kX8_child {l : Launch} {E : Ev} {st : St} {p1 : Int32} {r0 : Int32} {u0 : St}  (hf : fX8_child p1 st = some (r0, u0)) : CM l E WT yX8_child cX8_child 2 (some FieldType.int) 2 0 0 [.ref (eB E + 38), .int p1] st (some (.int r0)) u0 :=
  CM.intro mok_X8_child (Nat.le_of_ble_eq_true rfl) (fun x hl hR ht hr hQ _ => wX8_child ⟨hR, ht, hr, hQ⟩ p1 st hf)
def fX8_of (st : St) (p1 : Int32) (p2 : Int32) : Option Int32 :=
  if (fX8_isChild st p1) = 0 then (some (-1 : Int32)) else (if p2 = (0 : Int32) then (chk (ixb ((3 : Int32) + p1) 5627) (some (sI st 40 (((3 : Int32) + p1).toNatClampNeg)))) else (if p2 = (1 : Int32) then (some ((jshr (sI st 40 0) p1) &&& (1 : Int32))) else (some (-1 : Int32))))
set_option maxHeartbeats 1000000 in
set_option maxRecDepth 20000 in
theorem wX8_of {E : Ev} {x : Cx} {r0 : Int32} {st : St} (B : Bd E x (some FieldType.int) (2) 0 0 (some (.int r0)) st) (p1 : Int32) (p2 : Int32)  (hf : fX8_of st p1 p2 = some r0) : G E WT x RX8 cX8_of 3 (0, 0) st 0 [(0, .ref (eB E + 38)), (1, .int p1), (2, .int p2)] [] := by
  unfold fX8_of at hf
  refine g_aload_n rfl 0 rfl dX8_of_0 ?_
  refine g_iload_n rfl 1 rfl dX8_of_1 ?_
  refine g_callV0i (As := [.int p1]) (rest := []) cok8 mok_X8_isChild tw5_149 tw5_151 ts5_7 oS38 B.1 (by decide) (kX8_isChild  rfl) rfl rfl (Nat.le_of_ble_eq_true rfl) ⟨Nat.le_refl _, Nat.le_refl _⟩ dX8_of_2 ?_
  refine g_if_ne 10 (by decide) dX8_of_5 (fun h1 => ?_) (fun h1 => ?_)
  · rw [if_neg h1] at hf
    refine g_iload_n rfl 2 rfl dX8_of_10 ?_
    by_cases h2 : p2 = (0 : Int32)
    · rw [if_pos h2] at hf
      refine g_lookup (25) 36 dX8_of_11 (by decide) (by rw [h2]; decide) (by decide) ?_
      refine g_aload_n rfl 0 rfl dX8_of_36 ?_
      refine g_get (j := 2) cok8 (by decide) (.ref (eB E + 40)) (Or.inl tw4_177) oS38 vS38_2 dX8_of_37 ?_
      refine g_iconst (3 : Int32) (by decide) dX8_of_40 ?_
      refine g_iload_n rfl 1 rfl dX8_of_41 ?_
      refine g_iadd dX8_of_42 ?_
      obtain ⟨h3, hf⟩ := chk_some hf
      refine g_ialdj (((3 : Int32) + p1).toNatClampNeg) rfl aS40 (ixb_in h3) dX8_of_43 ?_
      exact g_iret B.2.2.2 B.2.2.1 (congrArg (fun z => some (Value.int z)) (Option.some.inj hf).symm) rfl dX8_of_44
    · rw [if_neg h2] at hf
      by_cases h4 : p2 = (1 : Int32)
      · rw [if_pos h4] at hf
        refine g_lookup (34) 45 dX8_of_11 (by decide) (by rw [h4]; decide) (by decide) ?_
        refine g_aload_n rfl 0 rfl dX8_of_45 ?_
        refine g_get (j := 2) cok8 (by decide) (.ref (eB E + 40)) (Or.inl tw4_177) oS38 vS38_2 dX8_of_46 ?_
        refine g_iconst (0 : Int32) (by decide) dX8_of_49 ?_
        refine g_ialdj 0 rfl aS40 (ixb_in rfl) dX8_of_50 ?_
        refine g_iload_n rfl 1 rfl dX8_of_51 ?_
        refine g_ishr dX8_of_52 ?_
        refine g_iconst (1 : Int32) (by decide) dX8_of_53 ?_
        refine g_iand dX8_of_54 ?_
        exact g_iret B.2.2.2 B.2.2.1 (congrArg (fun z => some (Value.int z)) (Option.some.inj hf).symm) rfl dX8_of_55
      · rw [if_neg h4] at hf
        refine g_lookup (45) 56 dX8_of_11 (by decide) (by show Op.lookupswitch.offset [(0, 25), (1, 34)] 45 _ = _; rw [lv_osw (a := 0) h2 rfl, lv_osw (a := 1) h4 rfl]; rfl) (by decide) ?_
        refine g_iconst (-1 : Int32) (by decide) dX8_of_56 ?_
        exact g_iret B.2.2.2 B.2.2.1 (congrArg (fun z => some (Value.int z)) (Option.some.inj hf).symm) rfl dX8_of_57
  · rw [if_pos h1] at hf
    refine g_iconst (-1 : Int32) (by decide) dX8_of_8 ?_
    exact g_iret B.2.2.2 B.2.2.1 (congrArg (fun z => some (Value.int z)) (Option.some.inj hf).symm) rfl dX8_of_9
theorem kX8_of {l : Launch} {E : Ev} {st : St} {p1 : Int32} {p2 : Int32} {r0 : Int32}  (hf : fX8_of st p1 p2 = some r0) : CM l E WT yX8_of cX8_of 3 (some FieldType.int) 2 0 0 [.ref (eB E + 38), .int p1, .int p2] st (some (.int r0)) st :=
  CM.intro mok_X8_of (Nat.le_of_ble_eq_true rfl) (fun x hl hR ht hr hQ _ => wX8_of ⟨hR, ht, hr, hQ⟩ p1 p2 hf)
def fX8_rhyme (p1 : Int32) (st : St) : Option (Int32 × St) :=
  if (fX8_lies p1 (1 : Int32) (15 : Int32)) = 0 then (fX8_refuses (-1 : Int32) st) else (if (sI st 40 17) = (5 : Int32) then (fX8_refuses (-5 : Int32) st) else (chk (ixb ((9 : Int32) + (sI st 40 17)) 5627) (fX8_settled (sI st 40 17) (pI (pI st 40 (((9 : Int32) + (sI st 40 17)).toNatClampNeg) p1) 40 17 ((sI (pI st 40 (((9 : Int32) + (sI st 40 17)).toNatClampNeg) p1) 40 17) + (1 : Int32))))))
set_option maxHeartbeats 1000000 in
set_option maxRecDepth 20000 in
theorem wX8_rhyme {E : Ev} {x : Cx} {r0 : Int32} {u0 : St} (B : Bd E x (some FieldType.int) (2) 0 0 (some (.int r0)) u0) (p1 : Int32) (st : St)  (hf : fX8_rhyme p1 st = some (r0, u0)) : G E WT x RX8 cX8_rhyme 3 (0, 0) st 0 [(0, .ref (eB E + 38)), (1, .int p1)] [] := by
  unfold fX8_rhyme at hf
  refine g_iload_n rfl 1 rfl dX8_rhyme_0 ?_
  refine g_iconst (1 : Int32) (by decide) dX8_rhyme_1 ?_
  refine g_bipush (15 : Int32) (by decide) dX8_rhyme_2 ?_
  refine g_callS0i (As := [.int p1, .int (1 : Int32), .int (15 : Int32)]) (rest := []) mok_X8_lies tw5_118 tw5_119 B.1 (by decide) (kX8_lies  rfl) rfl rfl (Nat.le_of_ble_eq_true rfl) ⟨Nat.le_refl _, Nat.le_refl _⟩ dX8_rhyme_4 ?_
  refine g_if_ne 16 (by decide) dX8_rhyme_7 (fun h1 => ?_) (fun h1 => ?_)
  · rw [if_neg h1] at hf
    refine g_aload_n rfl 0 rfl dX8_rhyme_16 ?_
    refine g_get (j := 2) cok8 (by decide) (.ref (eB E + 40)) (Or.inl tw4_177) oS38 vS38_2 dX8_rhyme_17 ?_
    refine g_bipush (17 : Int32) (by decide) dX8_rhyme_20 ?_
    refine g_ialdj 17 rfl aS40 (ixb_in rfl) dX8_rhyme_22 ?_
    refine g_istore_n rfl [(2, .int (sI st 40 17)), (0, .ref (eB E + 38)), (1, .int p1)] (by decide) rfl dX8_rhyme_23 ?_
    refine g_iload_n rfl 0 rfl dX8_rhyme_24 ?_
    refine g_iconst (5 : Int32) (by decide) dX8_rhyme_25 ?_
    refine g_icmp_ne 36 (by decide) dX8_rhyme_26 (fun h2 => ?_) (fun h2 => ?_)
    · rw [if_neg h2] at hf
      refine g_aload_n rfl 1 rfl dX8_rhyme_36 ?_
      refine g_get (j := 2) cok8 (by decide) (.ref (eB E + 40)) (Or.inl tw4_177) oS38 vS38_2 dX8_rhyme_37 ?_
      refine g_bipush (9 : Int32) (by decide) dX8_rhyme_40 ?_
      refine g_iload_n rfl 0 rfl dX8_rhyme_42 ?_
      refine g_iadd dX8_rhyme_43 ?_
      refine g_iload_n rfl 2 rfl dX8_rhyme_44 ?_
      obtain ⟨h3, hf⟩ := chk_some hf
      refine g_iastj (((9 : Int32) + (sI st 40 17)).toNatClampNeg) rfl aS40 (ixb_in h3) B.2.1 wpI dX8_rhyme_45 ?_
      refine g_aload_n rfl 1 rfl dX8_rhyme_46 ?_
      refine g_get (j := 2) cok8 (by decide) (.ref (eB E + 40)) (Or.inl tw4_177) oS38 vS38_2 dX8_rhyme_47 ?_
      refine g_bipush (17 : Int32) (by decide) dX8_rhyme_50 ?_
      refine g_dup2 rfl rfl dX8_rhyme_52 ?_
      refine g_ialdj 17 rfl aS40 (ixb_in rfl) dX8_rhyme_53 ?_
      refine g_iconst (1 : Int32) (by decide) dX8_rhyme_54 ?_
      refine g_iadd dX8_rhyme_55 ?_
      refine g_iastj 17 rfl aS40 (ixb_in rfl) B.2.1 wpI dX8_rhyme_56 ?_
      refine g_aload_n rfl 1 rfl dX8_rhyme_57 ?_
      refine g_iload_n rfl 0 rfl dX8_rhyme_58 ?_
      refine g_callV0i (As := [.int (sI st 40 17)]) (rest := []) cok8 mok_X8_settled tw5_133 tw5_135 ts5_5 oS38 B.1 (by decide) (kX8_settled  hf) rfl rfl (Nat.le_of_ble_eq_true rfl) ⟨Nat.le_refl _, Nat.le_refl _⟩ dX8_rhyme_59 ?_
      exact g_iret B.2.2.2 B.2.2.1 rfl rfl dX8_rhyme_62
    · rw [if_pos h2] at hf
      refine g_aload_n rfl 1 rfl dX8_rhyme_29 ?_
      refine g_bipush (-5 : Int32) (by decide) dX8_rhyme_30 ?_
      refine g_callV0i (As := [.int (-5 : Int32)]) (rest := []) cok8 mok_X8_refuses tw5_121 tw5_123 ts5_3 oS38 B.1 (by decide) (kX8_refuses  hf) rfl rfl (Nat.le_of_ble_eq_true rfl) ⟨Nat.le_refl _, Nat.le_refl _⟩ dX8_rhyme_32 ?_
      exact g_iret B.2.2.2 B.2.2.1 rfl rfl dX8_rhyme_35
  · rw [if_pos h1] at hf
    refine g_aload_n rfl 0 rfl dX8_rhyme_10 ?_
    refine g_iconst (-1 : Int32) (by decide) dX8_rhyme_11 ?_
    refine g_callV0i (As := [.int (-1 : Int32)]) (rest := []) cok8 mok_X8_refuses tw5_121 tw5_123 ts5_3 oS38 B.1 (by decide) (kX8_refuses  hf) rfl rfl (Nat.le_of_ble_eq_true rfl) ⟨Nat.le_refl _, Nat.le_refl _⟩ dX8_rhyme_12 ?_
    exact g_iret B.2.2.2 B.2.2.1 rfl rfl dX8_rhyme_15
theorem kX8_rhyme {l : Launch} {E : Ev} {st : St} {p1 : Int32} {r0 : Int32} {u0 : St}  (hf : fX8_rhyme p1 st = some (r0, u0)) : CM l E WT yX8_rhyme cX8_rhyme 3 (some FieldType.int) 2 0 0 [.ref (eB E + 38), .int p1] st (some (.int r0)) u0 :=
  CM.intro mok_X8_rhyme (Nat.le_of_ble_eq_true rfl) (fun x hl hR ht hr hQ _ => wX8_rhyme ⟨hR, ht, hr, hQ⟩ p1 st hf)
def fX8_beats (st : St) (p1 : Int32) : Option Int32 :=
  if (fX8_isRhyme st p1) = 0 then (some (-1 : Int32)) else (chk (ixb ((9 : Int32) + p1) 5627) (some (sI st 40 (((9 : Int32) + p1).toNatClampNeg))))
set_option maxHeartbeats 1000000 in
set_option maxRecDepth 20000 in
theorem wX8_beats {E : Ev} {x : Cx} {r0 : Int32} {st : St} (B : Bd E x (some FieldType.int) (2) 0 0 (some (.int r0)) st) (p1 : Int32)  (hf : fX8_beats st p1 = some r0) : G E WT x RX8 cX8_beats 2 (0, 0) st 0 [(0, .ref (eB E + 38)), (1, .int p1)] [] := by
  unfold fX8_beats at hf
  refine g_aload_n rfl 0 rfl dX8_beats_0 ?_
  refine g_iload_n rfl 1 rfl dX8_beats_1 ?_
  refine g_callV0i (As := [.int p1]) (rest := []) cok8 mok_X8_isRhyme tw5_161 tw5_163 ts5_8 oS38 B.1 (by decide) (kX8_isRhyme  rfl) rfl rfl (Nat.le_of_ble_eq_true rfl) ⟨Nat.le_refl _, Nat.le_refl _⟩ dX8_beats_2 ?_
  refine g_if_eq 20 (by decide) dX8_beats_5 (fun h1 => ?_) (fun h1 => ?_)
  · rw [if_pos h1] at hf
    refine g_iconst (-1 : Int32) (by decide) dX8_beats_20 ?_
    exact g_iret B.2.2.2 B.2.2.1 (congrArg (fun z => some (Value.int z)) (Option.some.inj hf).symm) rfl dX8_beats_21
  · rw [if_neg h1] at hf
    refine g_aload_n rfl 0 rfl dX8_beats_8 ?_
    refine g_get (j := 2) cok8 (by decide) (.ref (eB E + 40)) (Or.inl tw4_177) oS38 vS38_2 dX8_beats_9 ?_
    refine g_bipush (9 : Int32) (by decide) dX8_beats_12 ?_
    refine g_iload_n rfl 1 rfl dX8_beats_14 ?_
    refine g_iadd dX8_beats_15 ?_
    obtain ⟨h2, hf⟩ := chk_some hf
    refine g_ialdj (((9 : Int32) + p1).toNatClampNeg) rfl aS40 (ixb_in h2) dX8_beats_16 ?_
    refine g_goto 21 (by decide) dX8_beats_17 ?_
    exact g_iret B.2.2.2 B.2.2.1 (congrArg (fun z => some (Value.int z)) (Option.some.inj hf).symm) rfl dX8_beats_21
theorem kX8_beats {l : Launch} {E : Ev} {st : St} {p1 : Int32} {r0 : Int32}  (hf : fX8_beats st p1 = some r0) : CM l E WT yX8_beats cX8_beats 2 (some FieldType.int) 2 0 0 [.ref (eB E + 38), .int p1] st (some (.int r0)) st :=
  CM.intro mok_X8_beats (Nat.le_of_ble_eq_true rfl) (fun x hl hR ht hr hQ _ => wX8_beats ⟨hR, ht, hr, hQ⟩ p1 hf)
def fX8_isTerm (p0 : Int32) (p1 : Int32) : Int32 :=
  if p0 = (0 : Int32) then (fX8_lies p1 (0 : Int32) (999 : Int32)) else (if p0 = (1 : Int32) then (fX8_lies p1 (0 : Int32) (5 : Int32)) else (if p0 = (2 : Int32) then (fX8_lies p1 (0 : Int32) (10 : Int32)) else (if p0 = (3 : Int32) then (fX8_lies p1 (0 : Int32) (9 : Int32)) else ((0 : Int32)))))
set_option maxHeartbeats 1000000 in
set_option maxRecDepth 20000 in
theorem wX8_isTerm {E : Ev} {x : Cx} {r0 : Int32} {st : St} (B : Bd E x (some FieldType.boolean) (1) 0 0 (some (.int r0)) st) (p0 : Int32) (p1 : Int32)  (hf : fX8_isTerm p0 p1 = r0) : G E WT x RX8 cX8_isTerm 2 (0, 0) st 0 [(0, .int p0), (1, .int p1)] [] := by
  unfold fX8_isTerm at hf
  refine g_iload_n rfl 0 rfl dX8_isTerm_0 ?_
  by_cases h1 : p0 = (0 : Int32)
  · rw [if_pos h1] at hf
    refine g_tableIn 31 32 dX8_isTerm_1 (by rw [h1]; decide) (by rw [h1]; decide) (by rw [h1]; decide) (by decide) ?_
    refine g_iload_n rfl 1 rfl dX8_isTerm_32 ?_
    refine g_iconst (0 : Int32) (by decide) dX8_isTerm_33 ?_
    refine g_sipush (999 : Int32) (by decide) dX8_isTerm_34 ?_
    refine g_callS0i (As := [.int p1, .int (0 : Int32), .int (999 : Int32)]) (rest := []) mok_X8_lies tw5_118 tw5_119 B.1 (by decide) (kX8_lies  rfl) rfl rfl (Nat.le_of_ble_eq_true rfl) ⟨Nat.le_refl _, Nat.le_refl _⟩ dX8_isTerm_37 ?_
    exact g_zret B.2.2.2 B.2.2.1 (isb_or (fX8_lies_b _ _ _)) (congrArg (fun z => some (Value.int z)) hf.symm) rfl dX8_isTerm_40
  · rw [if_neg h1] at hf
    by_cases h2 : p0 = (1 : Int32)
    · rw [if_pos h2] at hf
      refine g_tableIn 40 41 dX8_isTerm_1 (by rw [h2]; decide) (by rw [h2]; decide) (by rw [h2]; decide) (by decide) ?_
      refine g_iload_n rfl 1 rfl dX8_isTerm_41 ?_
      refine g_iconst (0 : Int32) (by decide) dX8_isTerm_42 ?_
      refine g_iconst (5 : Int32) (by decide) dX8_isTerm_43 ?_
      refine g_callS0i (As := [.int p1, .int (0 : Int32), .int (5 : Int32)]) (rest := []) mok_X8_lies tw5_118 tw5_119 B.1 (by decide) (kX8_lies  rfl) rfl rfl (Nat.le_of_ble_eq_true rfl) ⟨Nat.le_refl _, Nat.le_refl _⟩ dX8_isTerm_44 ?_
      exact g_zret B.2.2.2 B.2.2.1 (isb_or (fX8_lies_b _ _ _)) (congrArg (fun z => some (Value.int z)) hf.symm) rfl dX8_isTerm_47
    · rw [if_neg h2] at hf
      by_cases h3 : p0 = (2 : Int32)
      · rw [if_pos h3] at hf
        refine g_tableIn 47 48 dX8_isTerm_1 (by rw [h3]; decide) (by rw [h3]; decide) (by rw [h3]; decide) (by decide) ?_
        refine g_iload_n rfl 1 rfl dX8_isTerm_48 ?_
        refine g_iconst (0 : Int32) (by decide) dX8_isTerm_49 ?_
        refine g_bipush (10 : Int32) (by decide) dX8_isTerm_50 ?_
        refine g_callS0i (As := [.int p1, .int (0 : Int32), .int (10 : Int32)]) (rest := []) mok_X8_lies tw5_118 tw5_119 B.1 (by decide) (kX8_lies  rfl) rfl rfl (Nat.le_of_ble_eq_true rfl) ⟨Nat.le_refl _, Nat.le_refl _⟩ dX8_isTerm_52 ?_
        exact g_zret B.2.2.2 B.2.2.1 (isb_or (fX8_lies_b _ _ _)) (congrArg (fun z => some (Value.int z)) hf.symm) rfl dX8_isTerm_55
      · rw [if_neg h3] at hf
        by_cases h4 : p0 = (3 : Int32)
        · rw [if_pos h4] at hf
          refine g_tableIn 55 56 dX8_isTerm_1 (by rw [h4]; decide) (by rw [h4]; decide) (by rw [h4]; decide) (by decide) ?_
          refine g_iload_n rfl 1 rfl dX8_isTerm_56 ?_
          refine g_iconst (0 : Int32) (by decide) dX8_isTerm_57 ?_
          refine g_bipush (9 : Int32) (by decide) dX8_isTerm_58 ?_
          refine g_callS0i (As := [.int p1, .int (0 : Int32), .int (9 : Int32)]) (rest := []) mok_X8_lies tw5_118 tw5_119 B.1 (by decide) (kX8_lies  rfl) rfl rfl (Nat.le_of_ble_eq_true rfl) ⟨Nat.le_refl _, Nat.le_refl _⟩ dX8_isTerm_60 ?_
          exact g_zret B.2.2.2 B.2.2.1 (isb_or (fX8_lies_b _ _ _)) (congrArg (fun z => some (Value.int z)) hf.symm) rfl dX8_isTerm_63
        · rw [if_neg h4] at hf
          refine g_tableOut 64 dX8_isTerm_1 (tab_out [(0 : Int32), (1 : Int32), (2 : Int32), (3 : Int32)] 4 (by decide) (by simp only [List.forall_mem_cons]; exact ⟨h1, h2, h3, h4, fun _ h => nomatch h⟩) (by decide)) (by decide) ?_
          refine g_iconst (0 : Int32) (by decide) dX8_isTerm_64 ?_
          exact g_zret B.2.2.2 B.2.2.1 (by decide) (congrArg (fun z => some (Value.int z)) hf.symm) rfl dX8_isTerm_65
theorem kX8_isTerm {l : Launch} {E : Ev} {st : St} {p0 : Int32} {p1 : Int32} {r0 : Int32}  (hf : fX8_isTerm p0 p1 = r0) : CM l E WT yX8_isTerm cX8_isTerm 2 (some FieldType.boolean) 1 0 0 [.int p0, .int p1] st (some (.int r0)) st :=
  CM.intro mok_X8_isTerm (Nat.le_of_ble_eq_true rfl) (fun x hl hR ht hr hQ _ => wX8_isTerm ⟨hR, ht, hr, hQ⟩ p0 p1 hf)
theorem fX8_isTerm_b (p0 : Int32) (p1 : Int32) : isb (fX8_isTerm p0 p1) = true := by
  unfold fX8_isTerm
  (repeat' split) <;> first | rfl | exact fX8_lies_b _ _ _
def fX8_termAt (p0 : Int32) : Int32 :=
  if p0 = (0 : Int32) then ((2 : Int32)) else (if p0 = (1 : Int32) then ((1 : Int32)) else (if p0 = (2 : Int32) then ((14 : Int32)) else ((15 : Int32))))
set_option maxHeartbeats 1000000 in
set_option maxRecDepth 20000 in
theorem wX8_termAt {E : Ev} {x : Cx} {r0 : Int32} {st : St} (B : Bd E x (some FieldType.int) (0) 0 0 (some (.int r0)) st) (p0 : Int32)  (hf : fX8_termAt p0 = r0) : G E WT x RX8 cX8_termAt 1 (0, 0) st 0 [(0, .int p0)] [] := by
  unfold fX8_termAt at hf
  refine g_iload_n rfl 0 rfl dX8_termAt_0 ?_
  by_cases h1 : p0 = (0 : Int32)
  · rw [if_pos h1] at hf
    refine g_tableIn 27 28 dX8_termAt_1 (by rw [h1]; decide) (by rw [h1]; decide) (by rw [h1]; decide) (by decide) ?_
    refine g_iconst (2 : Int32) (by decide) dX8_termAt_28 ?_
    exact g_iret B.2.2.2 B.2.2.1 (congrArg (fun z => some (Value.int z)) hf.symm) rfl dX8_termAt_29
  · rw [if_neg h1] at hf
    by_cases h2 : p0 = (1 : Int32)
    · rw [if_pos h2] at hf
      refine g_tableIn 29 30 dX8_termAt_1 (by rw [h2]; decide) (by rw [h2]; decide) (by rw [h2]; decide) (by decide) ?_
      refine g_iconst (1 : Int32) (by decide) dX8_termAt_30 ?_
      exact g_iret B.2.2.2 B.2.2.1 (congrArg (fun z => some (Value.int z)) hf.symm) rfl dX8_termAt_31
    · rw [if_neg h2] at hf
      by_cases h3 : p0 = (2 : Int32)
      · rw [if_pos h3] at hf
        refine g_tableIn 31 32 dX8_termAt_1 (by rw [h3]; decide) (by rw [h3]; decide) (by rw [h3]; decide) (by decide) ?_
        refine g_bipush (14 : Int32) (by decide) dX8_termAt_32 ?_
        exact g_iret B.2.2.2 B.2.2.1 (congrArg (fun z => some (Value.int z)) hf.symm) rfl dX8_termAt_34
      · rw [if_neg h3] at hf
        refine g_tableOut 35 dX8_termAt_1 (tab_out [(0 : Int32), (1 : Int32), (2 : Int32)] 3 (by decide) (by simp only [List.forall_mem_cons]; exact ⟨h1, h2, h3, fun _ h => nomatch h⟩) (by decide)) (by decide) ?_
        refine g_bipush (15 : Int32) (by decide) dX8_termAt_35 ?_
        exact g_iret B.2.2.2 B.2.2.1 (congrArg (fun z => some (Value.int z)) hf.symm) rfl dX8_termAt_37
theorem kX8_termAt {l : Launch} {E : Ev} {st : St} {p0 : Int32} {r0 : Int32}  (hf : fX8_termAt p0 = r0) : CM l E WT yX8_termAt cX8_termAt 1 (some FieldType.int) 0 0 0 [.int p0] st (some (.int r0)) st :=
  CM.intro mok_X8_termAt (Nat.le_of_ble_eq_true rfl) (fun x hl hR ht hr hQ _ => wX8_termAt ⟨hR, ht, hr, hQ⟩ p0 hf)
def fX8_terms (p1 : Int32) (p2 : Int32) (st : St) : Option (Int32 × St) :=
  if (fX8_isTerm p1 p2) = 0 then (fX8_refuses (-1 : Int32) st) else (chk (ixb (fX8_termAt p1) 5627) (chk (ixb (fX8_termAt p1) 5627) (fX8_settled (sI st 40 ((fX8_termAt p1).toNatClampNeg)) (pI st 40 ((fX8_termAt p1).toNatClampNeg) p2))))
set_option maxHeartbeats 1000000 in
set_option maxRecDepth 20000 in
theorem wX8_terms {E : Ev} {x : Cx} {r0 : Int32} {u0 : St} (B : Bd E x (some FieldType.int) (2) 0 0 (some (.int r0)) u0) (p1 : Int32) (p2 : Int32) (st : St)  (hf : fX8_terms p1 p2 st = some (r0, u0)) : G E WT x RX8 cX8_terms 4 (0, 0) st 0 [(0, .ref (eB E + 38)), (1, .int p1), (2, .int p2)] [] := by
  unfold fX8_terms at hf
  refine g_iload_n rfl 1 rfl dX8_terms_0 ?_
  refine g_iload_n rfl 2 rfl dX8_terms_1 ?_
  refine g_callS0i (As := [.int p1, .int p2]) (rest := []) mok_X8_isTerm tw5_169 tw5_170 B.1 (by decide) (kX8_isTerm  rfl) rfl rfl (Nat.le_of_ble_eq_true rfl) ⟨Nat.le_refl _, Nat.le_refl _⟩ dX8_terms_2 ?_
  refine g_if_ne 14 (by decide) dX8_terms_5 (fun h1 => ?_) (fun h1 => ?_)
  · rw [if_neg h1] at hf
    refine g_aload_n rfl 0 rfl dX8_terms_14 ?_
    refine g_get (j := 2) cok8 (by decide) (.ref (eB E + 40)) (Or.inl tw4_177) oS38 vS38_2 dX8_terms_15 ?_
    refine g_iload_n rfl 1 rfl dX8_terms_18 ?_
    refine g_callS0i (As := [.int p1]) (rest := [.ref (eB E + 40)]) mok_X8_termAt tw5_172 tw5_173 B.1 (by decide) (kX8_termAt  rfl) rfl rfl (Nat.le_of_ble_eq_true rfl) ⟨Nat.le_refl _, Nat.le_refl _⟩ dX8_terms_19 ?_
    obtain ⟨h2, hf⟩ := chk_some hf
    refine g_ialdj ((fX8_termAt p1).toNatClampNeg) rfl aS40 (ixb_in h2) dX8_terms_22 ?_
    refine g_istore_n rfl [(3, .int (sI st 40 ((fX8_termAt p1).toNatClampNeg))), (0, .ref (eB E + 38)), (1, .int p1), (2, .int p2)] (by decide) rfl dX8_terms_23 ?_
    refine g_aload_n rfl 1 rfl dX8_terms_24 ?_
    refine g_get (j := 2) cok8 (by decide) (.ref (eB E + 40)) (Or.inl tw4_177) oS38 vS38_2 dX8_terms_25 ?_
    refine g_iload_n rfl 2 rfl dX8_terms_28 ?_
    refine g_callS0i (As := [.int p1]) (rest := [.ref (eB E + 40)]) mok_X8_termAt tw5_172 tw5_173 B.1 (by decide) (kX8_termAt  rfl) rfl rfl (Nat.le_of_ble_eq_true rfl) ⟨Nat.le_refl _, Nat.le_refl _⟩ dX8_terms_29 ?_
    refine g_iload_n rfl 3 rfl dX8_terms_32 ?_
    obtain ⟨h3, hf⟩ := chk_some hf
    refine g_iastj ((fX8_termAt p1).toNatClampNeg) rfl aS40 (ixb_in h3) B.2.1 wpI dX8_terms_33 ?_
    refine g_aload_n rfl 1 rfl dX8_terms_34 ?_
    refine g_iload_n rfl 0 rfl dX8_terms_35 ?_
    refine g_callV0i (As := [.int (sI st 40 ((fX8_termAt p1).toNatClampNeg))]) (rest := []) cok8 mok_X8_settled tw5_133 tw5_135 ts5_5 oS38 B.1 (by decide) (kX8_settled  hf) rfl rfl (Nat.le_of_ble_eq_true rfl) ⟨Nat.le_refl _, Nat.le_refl _⟩ dX8_terms_36 ?_
    exact g_iret B.2.2.2 B.2.2.1 rfl rfl dX8_terms_39
  · rw [if_pos h1] at hf
    refine g_aload_n rfl 0 rfl dX8_terms_8 ?_
    refine g_iconst (-1 : Int32) (by decide) dX8_terms_9 ?_
    refine g_callV0i (As := [.int (-1 : Int32)]) (rest := []) cok8 mok_X8_refuses tw5_121 tw5_123 ts5_3 oS38 B.1 (by decide) (kX8_refuses  hf) rfl rfl (Nat.le_of_ble_eq_true rfl) ⟨Nat.le_refl _, Nat.le_refl _⟩ dX8_terms_10 ?_
    exact g_iret B.2.2.2 B.2.2.1 rfl rfl dX8_terms_13
theorem kX8_terms {l : Launch} {E : Ev} {st : St} {p1 : Int32} {p2 : Int32} {r0 : Int32} {u0 : St}  (hf : fX8_terms p1 p2 st = some (r0, u0)) : CM l E WT yX8_terms cX8_terms 4 (some FieldType.int) 2 0 0 [.ref (eB E + 38), .int p1, .int p2] st (some (.int r0)) u0 :=
  CM.intro mok_X8_terms (Nat.le_of_ble_eq_true rfl) (fun x hl hR ht hr hQ _ => wX8_terms ⟨hR, ht, hr, hQ⟩ p1 p2 st hf)
def fX8_row_b112 (k30 : Int32 → Int32 → Int32 → St → Option (Int32 × St))(l1 : Int32) (l2 : Int32) (l3 : Int32) (s1 : Int32) (s2 : Int32) (st : St) : Option (Int32 × St) :=
  k30 l1 l2 (l3 + (1 : Int32)) (pI st 38 6 (s1 + s2))
set_option maxHeartbeats 1000000 in
set_option maxRecDepth 20000 in
theorem wX8_row_b112 {E : Ev} {x : Cx} {r0 : Int32} {u0 : St} (B : Bd E x (some FieldType.int) (2) 0 0 (some (.int r0)) u0) {k30 : Int32 → Int32 → Int32 → St → Option (Int32 × St)} (hk30 : ∀ (l1 : Int32) (l2 : Int32) (l3 : Int32) (st : St), k30 l1 l2 l3 st = some (r0, u0) → G E WT x RX8 cX8_row 5 (0, 0) st 30 [(0, .ref (eB E + 38)), (1, .int l1), (2, .int l2), (3, .int l3)] []) (l1 : Int32) (l2 : Int32) (l3 : Int32) (s1 : Int32) (s2 : Int32) (st : St)  (hf : fX8_row_b112 k30 l1 l2 l3 s1 s2 st = some (r0, u0)) : G E WT x RX8 cX8_row 5 (0, 0) st 112 [(0, .ref (eB E + 38)), (1, .int l1), (2, .int l2), (3, .int l3)] [.int s2, .int s1, .ref (eB E + 38)] := by
  unfold fX8_row_b112 at hf
  refine g_iadd dX8_row_112 ?_
  refine g_putI (j := 6) cok8 (by decide) rfl rfl rfl rfl (Or.inl tw4_181) oS38 B.2.1 wpI dX8_row_113 ?_
  refine g_iinc (l3 + (1 : Int32)) [(3, .int (l3 + (1 : Int32))), (0, .ref (eB E + 38)), (1, .int l1), (2, .int l2)] 3 rfl (congrArg (fun z => l3 + z) (show Int32.ofInt (1) = (1 : Int32) by decide)) (by decide) rfl dX8_row_116 ?_
  refine g_goto 30 (by decide) dX8_row_119 ?_
  refine g_lvs [1, 2, 3, 0] rfl ?_
  exact hk30 l1 l2 (l3 + (1 : Int32)) (pI st 38 6 (s1 + s2)) hf
def fX8_row_b95 (k30 : Int32 → Int32 → Int32 → St → Option (Int32 × St))(l1 : Int32) (l3 : Int32) (l4 : Int32) (s0 : Int32) (s1 : Int32) (st : St) : Option (Int32 × St) :=
  if l4 = 0 then (fX8_row_b112 k30 l1 (s0 + s1) l3 (sI st 38 6) (1 : Int32) st) else (fX8_row_b112 k30 l1 (s0 + s1) l3 (sI st 38 6) (0 : Int32) st)
set_option maxHeartbeats 1000000 in
set_option maxRecDepth 20000 in
theorem wX8_row_b95 {E : Ev} {x : Cx} {r0 : Int32} {u0 : St} (B : Bd E x (some FieldType.int) (2) 0 0 (some (.int r0)) u0) {k30 : Int32 → Int32 → Int32 → St → Option (Int32 × St)} (hk30 : ∀ (l1 : Int32) (l2 : Int32) (l3 : Int32) (st : St), k30 l1 l2 l3 st = some (r0, u0) → G E WT x RX8 cX8_row 5 (0, 0) st 30 [(0, .ref (eB E + 38)), (1, .int l1), (2, .int l2), (3, .int l3)] []) (l1 : Int32) (l3 : Int32) (l4 : Int32) (s0 : Int32) (s1 : Int32) (st : St)  (hf : fX8_row_b95 k30 l1 l3 l4 s0 s1 st = some (r0, u0)) : G E WT x RX8 cX8_row 5 (0, 0) st 95 [(0, .ref (eB E + 38)), (1, .int l1), (3, .int l3), (4, .int l4)] [.int s1, .int s0] := by
  unfold fX8_row_b95 at hf
  refine g_iadd dX8_row_95 ?_
  refine g_istore_n rfl [(2, .int (s0 + s1)), (0, .ref (eB E + 38)), (1, .int l1), (3, .int l3), (4, .int l4)] (by decide) rfl dX8_row_96 ?_
  refine g_aload_n rfl 1 rfl dX8_row_97 ?_
  refine g_dup rfl dX8_row_98 ?_
  refine g_get (j := 6) cok8 (by decide) (.int (sI st 38 6)) (Or.inl tw4_181) oS38 (fun _ => rfl) dX8_row_99 ?_
  refine g_iload 4 rfl dX8_row_102 ?_
  refine g_if_eq 111 (by decide) dX8_row_104 (fun h1 => ?_) (fun h1 => ?_)
  · rw [if_pos h1] at hf
    refine g_iconst (1 : Int32) (by decide) dX8_row_111 ?_
    refine g_lvs [1, 2, 0, 3] rfl ?_
    exact wX8_row_b112 B hk30 l1 (s0 + s1) l3 (sI st 38 6) (1 : Int32) st hf
  · rw [if_neg h1] at hf
    refine g_iconst (0 : Int32) (by decide) dX8_row_107 ?_
    refine g_goto 112 (by decide) dX8_row_108 ?_
    refine g_lvs [1, 2, 0, 3] rfl ?_
    exact wX8_row_b112 B hk30 l1 (s0 + s1) l3 (sI st 38 6) (0 : Int32) st hf
def fX8_row_b84 (k30 : Int32 → Int32 → Int32 → St → Option (Int32 × St))(l1 : Int32) (l2 : Int32) (l3 : Int32) (l4 : Int32) (st : St) : Option (Int32 × St) :=
  if l4 = 0 then (fX8_row_b95 k30 l1 l3 l4 l2 (0 : Int32) st) else (fX8_row_b95 k30 l1 l3 l4 l2 (1 : Int32) st)
set_option maxHeartbeats 1000000 in
set_option maxRecDepth 20000 in
theorem wX8_row_b84 {E : Ev} {x : Cx} {r0 : Int32} {u0 : St} (B : Bd E x (some FieldType.int) (2) 0 0 (some (.int r0)) u0) {k30 : Int32 → Int32 → Int32 → St → Option (Int32 × St)} (hk30 : ∀ (l1 : Int32) (l2 : Int32) (l3 : Int32) (st : St), k30 l1 l2 l3 st = some (r0, u0) → G E WT x RX8 cX8_row 5 (0, 0) st 30 [(0, .ref (eB E + 38)), (1, .int l1), (2, .int l2), (3, .int l3)] []) (l1 : Int32) (l2 : Int32) (l3 : Int32) (l4 : Int32) (st : St)  (hf : fX8_row_b84 k30 l1 l2 l3 l4 st = some (r0, u0)) : G E WT x RX8 cX8_row 5 (0, 0) st 84 [(0, .ref (eB E + 38)), (1, .int l1), (2, .int l2), (3, .int l3), (4, .int l4)] [] := by
  unfold fX8_row_b84 at hf
  refine g_iload_n rfl 2 rfl dX8_row_84 ?_
  refine g_iload 4 rfl dX8_row_85 ?_
  refine g_if_eq 94 (by decide) dX8_row_87 (fun h1 => ?_) (fun h1 => ?_)
  · rw [if_pos h1] at hf
    refine g_iconst (0 : Int32) (by decide) dX8_row_94 ?_
    refine g_lvs [0, 1, 3, 4] rfl ?_
    exact wX8_row_b95 B hk30 l1 l3 l4 l2 (0 : Int32) st hf
  · rw [if_neg h1] at hf
    refine g_iconst (1 : Int32) (by decide) dX8_row_90 ?_
    refine g_goto 95 (by decide) dX8_row_91 ?_
    refine g_lvs [0, 1, 3, 4] rfl ?_
    exact wX8_row_b95 B hk30 l1 l3 l4 l2 (1 : Int32) st hf
def fX8_row_b67 (k30 : Int32 → Int32 → Int32 → St → Option (Int32 × St))(l1 : Int32) (l2 : Int32) (l3 : Int32) (s0 : Int32) (st : St) : Option (Int32 × St) :=
  if s0 = 0 then (fX8_row_b84 k30 l1 l2 l3 s0 st) else (chk (ixb l3 400) ((fX8_addsChild (sI st 45 l3.toNatClampNeg) st).bind (fun q3 => fX8_row_b84 k30 l1 l2 l3 s0 q3)))
set_option maxHeartbeats 1000000 in
set_option maxRecDepth 20000 in
theorem wX8_row_b67 {E : Ev} {x : Cx} {r0 : Int32} {u0 : St} (B : Bd E x (some FieldType.int) (2) 0 0 (some (.int r0)) u0) {k30 : Int32 → Int32 → Int32 → St → Option (Int32 × St)} (hk30 : ∀ (l1 : Int32) (l2 : Int32) (l3 : Int32) (st : St), k30 l1 l2 l3 st = some (r0, u0) → G E WT x RX8 cX8_row 5 (0, 0) st 30 [(0, .ref (eB E + 38)), (1, .int l1), (2, .int l2), (3, .int l3)] []) (l1 : Int32) (l2 : Int32) (l3 : Int32) (s0 : Int32) (st : St)  (hf : fX8_row_b67 k30 l1 l2 l3 s0 st = some (r0, u0)) : G E WT x RX8 cX8_row 5 (0, 0) st 67 [(0, .ref (eB E + 38)), (1, .int l1), (2, .int l2), (3, .int l3)] [.int s0] := by
  unfold fX8_row_b67 at hf
  refine g_istore [(4, .int s0), (0, .ref (eB E + 38)), (1, .int l1), (2, .int l2), (3, .int l3)] (by decide) rfl dX8_row_67 ?_
  refine g_iload 0 rfl dX8_row_69 ?_
  refine g_if_eq 84 (by decide) dX8_row_71 (fun h1 => ?_) (fun h1 => ?_)
  · rw [if_pos h1] at hf
    refine g_lvs [1, 2, 3, 4, 0] rfl ?_
    exact wX8_row_b84 B hk30 l1 l2 l3 s0 st hf
  · rw [if_neg h1] at hf
    refine g_aload_n rfl 1 rfl dX8_row_74 ?_
    refine g_aload_n rfl 1 rfl dX8_row_75 ?_
    refine g_get (j := 11) cok8 (by decide) (.ref (eB E + 45)) (Or.inl tw4_186) oS38 vS38_11 dX8_row_76 ?_
    refine g_iload_n rfl 4 rfl dX8_row_79 ?_
    obtain ⟨h2, hf⟩ := chk_some hf
    refine g_baldj l3.toNatClampNeg rfl aS45 (ixb_in h2) dX8_row_80 ?_
    obtain ⟨q3, h4, hf⟩ := bnd_some hf
    refine g_callV0v (As := [.int (sI st 45 l3.toNatClampNeg)]) (rest := []) cok8 mok_X8_addsChild tw5_141 tw5_143 ts5_6 oS38 B.1 (by decide) (kX8_addsChild  h4) rfl rfl (Nat.le_of_ble_eq_true rfl) ⟨Nat.le_refl _, Nat.le_refl _⟩ dX8_row_81 ?_
    refine g_lvs [1, 2, 3, 4, 0] rfl ?_
    exact wX8_row_b84 B hk30 l1 l2 l3 s0 q3 hf
def fX8_row_b66 (k30 : Int32 → Int32 → Int32 → St → Option (Int32 × St))(l1 : Int32) (l2 : Int32) (l3 : Int32) (st : St) : Option (Int32 × St) :=
  fX8_row_b67 k30 l1 l2 l3 (0 : Int32) st
set_option maxHeartbeats 1000000 in
set_option maxRecDepth 20000 in
theorem wX8_row_b66 {E : Ev} {x : Cx} {r0 : Int32} {u0 : St} (B : Bd E x (some FieldType.int) (2) 0 0 (some (.int r0)) u0) {k30 : Int32 → Int32 → Int32 → St → Option (Int32 × St)} (hk30 : ∀ (l1 : Int32) (l2 : Int32) (l3 : Int32) (st : St), k30 l1 l2 l3 st = some (r0, u0) → G E WT x RX8 cX8_row 5 (0, 0) st 30 [(0, .ref (eB E + 38)), (1, .int l1), (2, .int l2), (3, .int l3)] []) (l1 : Int32) (l2 : Int32) (l3 : Int32) (st : St)  (hf : fX8_row_b66 k30 l1 l2 l3 st = some (r0, u0)) : G E WT x RX8 cX8_row 5 (0, 0) st 66 [(0, .ref (eB E + 38)), (1, .int l1), (2, .int l2), (3, .int l3)] [] := by
  unfold fX8_row_b66 at hf
  refine g_iconst (0 : Int32) (by decide) dX8_row_66 ?_
  refine g_lvs [0, 1, 2, 3] rfl ?_
  exact wX8_row_b67 B hk30 l1 l2 l3 (0 : Int32) st hf
def fX8_row_b30 : Nat → Int32 → Int32 → Int32 → St → Option (Int32 × St)
  | 0, _, _, _, _ => none
  | n + 1, l1, l2, l3, st => if l1 ≤ l3 then (fX8_settled l2 st) else (if (6 : Int32) ≤ (sI st 40 16) then (fX8_row_b66 (fun zl1 zl2 zl3 zst => fX8_row_b30 n zl1 zl2 zl3 zst) l1 l2 l3 st) else (chk (ixb l3 400) (if (fX8_lies (sI st 45 l3.toNatClampNeg) (0 : Int32) (9 : Int32)) = 0 then (fX8_row_b66 (fun zl1 zl2 zl3 zst => fX8_row_b30 n zl1 zl2 zl3 zst) l1 l2 l3 st) else (fX8_row_b67 (fun zl1 zl2 zl3 zst => fX8_row_b30 n zl1 zl2 zl3 zst) l1 l2 l3 (1 : Int32) st))))
set_option maxHeartbeats 1000000 in
set_option maxRecDepth 20000 in
theorem wX8_row_b30 {E : Ev} {x : Cx} {r0 : Int32} {u0 : St} (B : Bd E x (some FieldType.int) (2) 0 0 (some (.int r0)) u0) : ∀ (n : Nat) (l1 : Int32) (l2 : Int32) (l3 : Int32) (st : St) , fX8_row_b30 n l1 l2 l3 st = some (r0, u0) → G E WT x RX8 cX8_row 5 (0, 0) st 30 [(0, .ref (eB E + 38)), (1, .int l1), (2, .int l2), (3, .int l3)] [] := by
  intro n
  induction n with
  | zero =>
    intros
    rename_i hf
    rw [fX8_row_b30] at hf
    cases hf
  | succ n ih =>
    intro l1 l2 l3 st hf
    rw [fX8_row_b30] at hf
    refine g_iload_n rfl 3 rfl dX8_row_30 ?_
    refine g_iload_n rfl 1 rfl dX8_row_31 ?_
    refine g_icmp_ge 122 (by decide) dX8_row_32 (fun h1 => ?_) (fun h1 => ?_)
    · rw [if_pos h1] at hf
      refine g_aload_n rfl 0 rfl dX8_row_122 ?_
      refine g_iload_n rfl 2 rfl dX8_row_123 ?_
      refine g_callV0i (As := [.int l2]) (rest := []) cok8 mok_X8_settled tw5_133 tw5_135 ts5_5 oS38 B.1 (by decide) (kX8_settled  hf) rfl rfl (Nat.le_of_ble_eq_true rfl) ⟨Nat.le_refl _, Nat.le_refl _⟩ dX8_row_124 ?_
      exact g_iret B.2.2.2 B.2.2.1 rfl rfl dX8_row_127
    · rw [if_neg h1] at hf
      refine g_aload_n rfl 0 rfl dX8_row_35 ?_
      refine g_get (j := 2) cok8 (by decide) (.ref (eB E + 40)) (Or.inl tw4_177) oS38 vS38_2 dX8_row_36 ?_
      refine g_bipush (16 : Int32) (by decide) dX8_row_39 ?_
      refine g_ialdj 16 rfl aS40 (ixb_in rfl) dX8_row_41 ?_
      refine g_bipush (6 : Int32) (by decide) dX8_row_42 ?_
      refine g_icmp_ge 66 (by decide) dX8_row_44 (fun h2 => ?_) (fun h2 => ?_)
      · rw [if_pos h2] at hf
        refine g_lvs [0, 1, 2, 3] rfl ?_
        exact wX8_row_b66 B ih l1 l2 l3 st hf
      · rw [if_neg h2] at hf
        refine g_aload_n rfl 0 rfl dX8_row_47 ?_
        refine g_get (j := 11) cok8 (by decide) (.ref (eB E + 45)) (Or.inl tw4_186) oS38 vS38_11 dX8_row_48 ?_
        refine g_iload_n rfl 3 rfl dX8_row_51 ?_
        obtain ⟨h3, hf⟩ := chk_some hf
        refine g_baldj l3.toNatClampNeg rfl aS45 (ixb_in h3) dX8_row_52 ?_
        refine g_iconst (0 : Int32) (by decide) dX8_row_53 ?_
        refine g_bipush (9 : Int32) (by decide) dX8_row_54 ?_
        refine g_callS0i (As := [.int (sI st 45 l3.toNatClampNeg), .int (0 : Int32), .int (9 : Int32)]) (rest := []) mok_X8_lies tw5_118 tw5_119 B.1 (by decide) (kX8_lies  rfl) rfl rfl (Nat.le_of_ble_eq_true rfl) ⟨Nat.le_refl _, Nat.le_refl _⟩ dX8_row_56 ?_
        refine g_if_eq 66 (by decide) dX8_row_59 (fun h4 => ?_) (fun h4 => ?_)
        · rw [if_pos h4] at hf
          refine g_lvs [0, 1, 2, 3] rfl ?_
          exact wX8_row_b66 B ih l1 l2 l3 st hf
        · rw [if_neg h4] at hf
          refine g_iconst (1 : Int32) (by decide) dX8_row_62 ?_
          refine g_goto 67 (by decide) dX8_row_63 ?_
          refine g_lvs [0, 1, 2, 3] rfl ?_
          exact wX8_row_b67 B ih l1 l2 l3 (1 : Int32) st hf
def fX8_row  (st : St) : Option (Int32 × St) :=
  if (sI st 38 13) = 0 then (fX8_refuses (-6 : Int32) (pI st 38 13 (0 : Int32))) else (fX8_row_b30 FU (sI st 38 13) (0 : Int32) (0 : Int32) (pI (pI st 38 13 (0 : Int32)) 38 6 (0 : Int32)))
set_option maxHeartbeats 1000000 in
set_option maxRecDepth 20000 in
theorem wX8_row {E : Ev} {x : Cx} {r0 : Int32} {u0 : St} (B : Bd E x (some FieldType.int) (2) 0 0 (some (.int r0)) u0)  (st : St)  (hf : fX8_row st = some (r0, u0)) : G E WT x RX8 cX8_row 5 (0, 0) st 0 [(0, .ref (eB E + 38))] [] := by
  unfold fX8_row at hf
  refine g_aload_n rfl 0 rfl dX8_row_0 ?_
  refine g_get (j := 13) cok8 (by decide) (.int (sI st 38 13)) (Or.inl tw4_188) oS38 (fun _ => rfl) dX8_row_1 ?_
  refine g_istore_n rfl [(1, .int (sI st 38 13)), (0, .ref (eB E + 38))] (by decide) rfl dX8_row_4 ?_
  refine g_aload_n rfl 1 rfl dX8_row_5 ?_
  refine g_iconst (0 : Int32) (by decide) dX8_row_6 ?_
  refine g_putI (j := 13) cok8 (by decide) rfl rfl rfl rfl (Or.inl tw4_188) oS38 B.2.1 wpI dX8_row_7 ?_
  refine g_iload_n rfl 0 rfl dX8_row_10 ?_
  refine g_if_ne 21 (by decide) dX8_row_11 (fun h1 => ?_) (fun h1 => ?_)
  · rw [if_neg h1] at hf
    refine g_iconst (0 : Int32) (by decide) dX8_row_21 ?_
    refine g_istore_n rfl [(2, .int (0 : Int32)), (1, .int (sI st 38 13)), (0, .ref (eB E + 38))] (by decide) rfl dX8_row_22 ?_
    refine g_aload_n rfl 2 rfl dX8_row_23 ?_
    refine g_iconst (0 : Int32) (by decide) dX8_row_24 ?_
    refine g_putI (j := 6) cok8 (by decide) rfl rfl rfl rfl (Or.inl tw4_181) oS38 B.2.1 wpI dX8_row_25 ?_
    refine g_iconst (0 : Int32) (by decide) dX8_row_28 ?_
    refine g_istore_n rfl [(3, .int (0 : Int32)), (2, .int (0 : Int32)), (1, .int (sI st 38 13)), (0, .ref (eB E + 38))] (by decide) rfl dX8_row_29 ?_
    refine g_lvs [3, 2, 1, 0] rfl ?_
    exact wX8_row_b30 B  FU (sI st 38 13) (0 : Int32) (0 : Int32) (pI (pI st 38 13 (0 : Int32)) 38 6 (0 : Int32)) hf
  · rw [if_pos h1] at hf
    refine g_aload_n rfl 1 rfl dX8_row_14 ?_
    refine g_bipush (-6 : Int32) (by decide) dX8_row_15 ?_
    refine g_callV0i (As := [.int (-6 : Int32)]) (rest := []) cok8 mok_X8_refuses tw5_121 tw5_123 ts5_3 oS38 B.1 (by decide) (kX8_refuses  hf) rfl rfl (Nat.le_of_ble_eq_true rfl) ⟨Nat.le_refl _, Nat.le_refl _⟩ dX8_row_17 ?_
    exact g_iret B.2.2.2 B.2.2.1 rfl rfl dX8_row_20
theorem kX8_row {l : Launch} {E : Ev} {st : St}  {r0 : Int32} {u0 : St}  (hf : fX8_row st = some (r0, u0)) : CM l E WT yX8_row cX8_row 5 (some FieldType.int) 2 0 0 [.ref (eB E + 38)] st (some (.int r0)) u0 :=
  CM.intro mok_X8_row (Nat.le_of_ble_eq_true rfl) (fun x hl hR ht hr hQ _ => wX8_row ⟨hR, ht, hr, hQ⟩ st hf)
def fX8_lisps (st : St)  : Int32 :=
  sI st 38 6
set_option maxHeartbeats 1000000 in
set_option maxRecDepth 20000 in
theorem wX8_lisps {E : Ev} {x : Cx} {r0 : Int32} {st : St} (B : Bd E x (some FieldType.int) (0) 0 0 (some (.int r0)) st)   (hf : fX8_lisps st  = r0) : G E WT x RX8 cX8_lisps 1 (0, 0) st 0 [(0, .ref (eB E + 38))] [] := by
  unfold fX8_lisps at hf
  refine g_aload_n rfl 0 rfl dX8_lisps_0 ?_
  refine g_get (j := 6) cok8 (by decide) (.int (sI st 38 6)) (Or.inl tw4_181) oS38 (fun _ => rfl) dX8_lisps_1 ?_
  exact g_iret B.2.2.2 B.2.2.1 (congrArg (fun z => some (Value.int z)) hf.symm) rfl dX8_lisps_4
theorem kX8_lisps {l : Launch} {E : Ev} {st : St}  {r0 : Int32}  (hf : fX8_lisps st = r0) : CM l E WT yX8_lisps cX8_lisps 1 (some FieldType.int) 0 0 0 [.ref (eB E + 38)] st (some (.int r0)) st :=
  CM.intro mok_X8_lisps (Nat.le_of_ble_eq_true rfl) (fun x hl hR ht hr hQ _ => wX8_lisps ⟨hR, ht, hr, hQ⟩  hf)
def fX8_feed_b55 : Nat → Int32 → St → Option (Int32 × St)
  | 0, _, _ => none
  | n + 1, l6, st => if (20 : Int32) ≤ l6 then (some (sI (pI st 38 13 ((sI st 38 13) + (20 : Int32))) 38 13, pI st 38 13 ((sI st 38 13) + (20 : Int32)))) else (chk (ixb (l6 / (4 : Int32)) 5) (chk (ixb ((sI st 38 13) + l6) 400) (fX8_feed_b55 n (l6 + (1 : Int32)) (pI st 45 (((sI st 38 13) + l6).toNatClampNeg) (vp_nar .byte (i2b (jshr (sI st 46 ((l6 / (4 : Int32)).toNatClampNeg)) ((24 : Int32) - ((8 : Int32) * (jrem l6 (4 : Int32)))))))))))
set_option maxHeartbeats 1000000 in
set_option maxRecDepth 20000 in
theorem wX8_feed_b55 {E : Ev} {x : Cx} {r0 : Int32} {u0 : St} (B : Bd E x (some FieldType.int) (0) 0 0 (some (.int r0)) u0) : ∀ (n : Nat) (l6 : Int32) (st : St) , fX8_feed_b55 n l6 st = some (r0, u0) → G E WT x RX8 cX8_feed 7 (0, 0) st 55 [(0, .ref (eB E + 38)), (6, .int l6)] [] := by
  intro n
  induction n with
  | zero =>
    intros
    rename_i hf
    rw [fX8_feed_b55] at hf
    cases hf
  | succ n ih =>
    intro l6 st hf
    rw [fX8_feed_b55] at hf
    refine g_iload 1 rfl dX8_feed_55 ?_
    refine g_bipush (20 : Int32) (by decide) dX8_feed_57 ?_
    refine g_icmp_ge 101 (by decide) dX8_feed_59 (fun h1 => ?_) (fun h1 => ?_)
    · rw [if_pos h1] at hf
      refine g_aload_n rfl 0 rfl dX8_feed_101 ?_
      refine g_dup rfl dX8_feed_102 ?_
      refine g_get (j := 13) cok8 (by decide) (.int (sI st 38 13)) (Or.inl tw4_188) oS38 (fun _ => rfl) dX8_feed_103 ?_
      refine g_bipush (20 : Int32) (by decide) dX8_feed_106 ?_
      refine g_iadd dX8_feed_108 ?_
      refine g_putI (j := 13) cok8 (by decide) rfl rfl rfl rfl (Or.inl tw4_188) oS38 B.2.1 wpI dX8_feed_109 ?_
      refine g_aload_n rfl 0 rfl dX8_feed_112 ?_
      refine g_get (j := 13) cok8 (by decide) (.int (sI (pI st 38 13 ((sI st 38 13) + (20 : Int32))) 38 13)) (Or.inl tw4_188) oS38 (fun _ => rfl) dX8_feed_113 ?_
      exact g_iret B.2.2.2 B.2.2.1 (congrArg (fun z => some (Value.int z)) (Prod.mk.inj (Option.some.inj hf)).1.symm) (Prod.mk.inj (Option.some.inj hf)).2.symm dX8_feed_116
    · rw [if_neg h1] at hf
      refine g_aload_n rfl 0 rfl dX8_feed_62 ?_
      refine g_get (j := 11) cok8 (by decide) (.ref (eB E + 45)) (Or.inl tw4_186) oS38 vS38_11 dX8_feed_63 ?_
      refine g_aload_n rfl 0 rfl dX8_feed_66 ?_
      refine g_get (j := 13) cok8 (by decide) (.int (sI st 38 13)) (Or.inl tw4_188) oS38 (fun _ => rfl) dX8_feed_67 ?_
      refine g_iload 1 rfl dX8_feed_70 ?_
      refine g_iadd dX8_feed_72 ?_
      refine g_aload_n rfl 0 rfl dX8_feed_73 ?_
      refine g_get (j := 12) cok8 (by decide) (.ref (eB E + 46)) (Or.inl tw4_187) oS38 vS38_12 dX8_feed_74 ?_
      refine g_iload 1 rfl dX8_feed_77 ?_
      refine g_iconst (4 : Int32) (by decide) dX8_feed_79 ?_
      refine g_idiv (by decide) dX8_feed_80 ?_
      obtain ⟨h2, hf⟩ := chk_some hf
      refine g_ialdj ((l6 / (4 : Int32)).toNatClampNeg) rfl aS46 (ixb_in h2) dX8_feed_81 ?_
      refine g_bipush (24 : Int32) (by decide) dX8_feed_82 ?_
      refine g_bipush (8 : Int32) (by decide) dX8_feed_84 ?_
      refine g_iload 1 rfl dX8_feed_86 ?_
      refine g_iconst (4 : Int32) (by decide) dX8_feed_88 ?_
      refine g_irem (by decide) dX8_feed_89 ?_
      refine g_imul dX8_feed_90 ?_
      refine g_isub dX8_feed_91 ?_
      refine g_ishr dX8_feed_92 ?_
      refine g_i2b dX8_feed_93 ?_
      obtain ⟨h3, hf⟩ := chk_some hf
      refine g_bastj (((sI st 38 13) + l6).toNatClampNeg) rfl aS45 (ixb_in h3) B.2.1 wpI dX8_feed_94 ?_
      refine g_iinc (l6 + (1 : Int32)) [(6, .int (l6 + (1 : Int32))), (0, .ref (eB E + 38))] 1 rfl (congrArg (fun z => l6 + z) (show Int32.ofInt (1) = (1 : Int32) by decide)) (by decide) rfl dX8_feed_95 ?_
      refine g_goto 55 (by decide) dX8_feed_98 ?_
      refine g_lvs [1, 0] rfl ?_
      exact ih (l6 + (1 : Int32)) (pI st 45 (((sI st 38 13) + l6).toNatClampNeg) (vp_nar .byte (i2b (jshr (sI st 46 ((l6 / (4 : Int32)).toNatClampNeg)) ((24 : Int32) - ((8 : Int32) * (jrem l6 (4 : Int32)))))))) hf
def fX8_feed (p1 : Int32) (p2 : Int32) (p3 : Int32) (p4 : Int32) (p5 : Int32) (st : St) : Option (Int32 × St) :=
  if ((sI st 38 13) + (20 : Int32)) ≤ (400 : Int32) then (fX8_feed_b55 FU (0 : Int32) (pI (pI (pI (pI (pI st 46 0 p1) 46 1 p2) 46 2 p3) 46 3 p4) 46 4 p5)) else (some ((-1 : Int32), st))
set_option maxHeartbeats 1000000 in
set_option maxRecDepth 20000 in
theorem wX8_feed {E : Ev} {x : Cx} {r0 : Int32} {u0 : St} (B : Bd E x (some FieldType.int) (0) 0 0 (some (.int r0)) u0) (p1 : Int32) (p2 : Int32) (p3 : Int32) (p4 : Int32) (p5 : Int32) (st : St)  (hf : fX8_feed p1 p2 p3 p4 p5 st = some (r0, u0)) : G E WT x RX8 cX8_feed 7 (0, 0) st 0 [(0, .ref (eB E + 38)), (1, .int p1), (2, .int p2), (3, .int p3), (4, .int p4), (5, .int p5)] [] := by
  unfold fX8_feed at hf
  refine g_aload_n rfl 0 rfl dX8_feed_0 ?_
  refine g_get (j := 13) cok8 (by decide) (.int (sI st 38 13)) (Or.inl tw4_188) oS38 (fun _ => rfl) dX8_feed_1 ?_
  refine g_bipush (20 : Int32) (by decide) dX8_feed_4 ?_
  refine g_iadd dX8_feed_6 ?_
  refine g_sipush (400 : Int32) (by decide) dX8_feed_7 ?_
  refine g_icmp_le 15 (by decide) dX8_feed_10 (fun h1 => ?_) (fun h1 => ?_)
  · rw [if_pos h1] at hf
    refine g_aload_n rfl 0 rfl dX8_feed_15 ?_
    refine g_get (j := 12) cok8 (by decide) (.ref (eB E + 46)) (Or.inl tw4_187) oS38 vS38_12 dX8_feed_16 ?_
    refine g_iconst (0 : Int32) (by decide) dX8_feed_19 ?_
    refine g_iload_n rfl 1 rfl dX8_feed_20 ?_
    refine g_iastj 0 rfl aS46 (ixb_in rfl) B.2.1 wpI dX8_feed_21 ?_
    refine g_aload_n rfl 0 rfl dX8_feed_22 ?_
    refine g_get (j := 12) cok8 (by decide) (.ref (eB E + 46)) (Or.inl tw4_187) oS38 vS38_12 dX8_feed_23 ?_
    refine g_iconst (1 : Int32) (by decide) dX8_feed_26 ?_
    refine g_iload_n rfl 2 rfl dX8_feed_27 ?_
    refine g_iastj 1 rfl aS46 (ixb_in rfl) B.2.1 wpI dX8_feed_28 ?_
    refine g_aload_n rfl 0 rfl dX8_feed_29 ?_
    refine g_get (j := 12) cok8 (by decide) (.ref (eB E + 46)) (Or.inl tw4_187) oS38 vS38_12 dX8_feed_30 ?_
    refine g_iconst (2 : Int32) (by decide) dX8_feed_33 ?_
    refine g_iload_n rfl 3 rfl dX8_feed_34 ?_
    refine g_iastj 2 rfl aS46 (ixb_in rfl) B.2.1 wpI dX8_feed_35 ?_
    refine g_aload_n rfl 0 rfl dX8_feed_36 ?_
    refine g_get (j := 12) cok8 (by decide) (.ref (eB E + 46)) (Or.inl tw4_187) oS38 vS38_12 dX8_feed_37 ?_
    refine g_iconst (3 : Int32) (by decide) dX8_feed_40 ?_
    refine g_iload 4 rfl dX8_feed_41 ?_
    refine g_iastj 3 rfl aS46 (ixb_in rfl) B.2.1 wpI dX8_feed_43 ?_
    refine g_aload_n rfl 0 rfl dX8_feed_44 ?_
    refine g_get (j := 12) cok8 (by decide) (.ref (eB E + 46)) (Or.inl tw4_187) oS38 vS38_12 dX8_feed_45 ?_
    refine g_iconst (4 : Int32) (by decide) dX8_feed_48 ?_
    refine g_iload 5 rfl dX8_feed_49 ?_
    refine g_iastj 4 rfl aS46 (ixb_in rfl) B.2.1 wpI dX8_feed_51 ?_
    refine g_iconst (0 : Int32) (by decide) dX8_feed_52 ?_
    refine g_istore [(6, .int (0 : Int32)), (0, .ref (eB E + 38)), (1, .int p1), (2, .int p2), (3, .int p3), (4, .int p4), (5, .int p5)] (by decide) rfl dX8_feed_53 ?_
    refine g_lvs [1, 0] rfl ?_
    exact wX8_feed_b55 B  FU (0 : Int32) (pI (pI (pI (pI (pI st 46 0 p1) 46 1 p2) 46 2 p3) 46 3 p4) 46 4 p5) hf
  · rw [if_neg h1] at hf
    refine g_iconst (-1 : Int32) (by decide) dX8_feed_13 ?_
    exact g_iret B.2.2.2 B.2.2.1 (congrArg (fun z => some (Value.int z)) (Prod.mk.inj (Option.some.inj hf)).1.symm) (Prod.mk.inj (Option.some.inj hf)).2.symm dX8_feed_14
theorem kX8_feed {l : Launch} {E : Ev} {st : St} {p1 : Int32} {p2 : Int32} {p3 : Int32} {p4 : Int32} {p5 : Int32} {r0 : Int32} {u0 : St}  (hf : fX8_feed p1 p2 p3 p4 p5 st = some (r0, u0)) : CM l E WT yX8_feed cX8_feed 7 (some FieldType.int) 0 0 0 [.ref (eB E + 38), .int p1, .int p2, .int p3, .int p4, .int p5] st (some (.int r0)) u0 :=
  CM.intro mok_X8_feed (Nat.le_of_ble_eq_true rfl) (fun x hl hR ht hr hQ _ => wX8_feed ⟨hR, ht, hr, hQ⟩ p1 p2 p3 p4 p5 st hf)
def fX8_end (p1 : Int32) (st : St) : Option (Int32 × St) :=
  if (fX8_lies p1 (0 : Int32) (sI st 38 13)) = 0 then (some ((-1 : Int32), st)) else (some (p1, pI st 38 13 p1))
set_option maxHeartbeats 1000000 in
set_option maxRecDepth 20000 in
theorem wX8_end {E : Ev} {x : Cx} {r0 : Int32} {u0 : St} (B : Bd E x (some FieldType.int) (1) 0 0 (some (.int r0)) u0) (p1 : Int32) (st : St)  (hf : fX8_end p1 st = some (r0, u0)) : G E WT x RX8 cX8_end 2 (0, 0) st 0 [(0, .ref (eB E + 38)), (1, .int p1)] [] := by
  unfold fX8_end at hf
  refine g_iload_n rfl 1 rfl dX8_end_0 ?_
  refine g_iconst (0 : Int32) (by decide) dX8_end_1 ?_
  refine g_aload_n rfl 0 rfl dX8_end_2 ?_
  refine g_get (j := 13) cok8 (by decide) (.int (sI st 38 13)) (Or.inl tw4_188) oS38 (fun _ => rfl) dX8_end_3 ?_
  refine g_callS0i (As := [.int p1, .int (0 : Int32), .int (sI st 38 13)]) (rest := []) mok_X8_lies tw5_118 tw5_119 B.1 (by decide) (kX8_lies  rfl) rfl rfl (Nat.le_of_ble_eq_true rfl) ⟨Nat.le_refl _, Nat.le_refl _⟩ dX8_end_6 ?_
  refine g_if_ne 14 (by decide) dX8_end_9 (fun h1 => ?_) (fun h1 => ?_)
  · rw [if_neg h1] at hf
    refine g_aload_n rfl 0 rfl dX8_end_14 ?_
    refine g_iload_n rfl 1 rfl dX8_end_15 ?_
    refine g_putI (j := 13) cok8 (by decide) rfl rfl rfl rfl (Or.inl tw4_188) oS38 B.2.1 wpI dX8_end_16 ?_
    refine g_iload_n rfl 1 rfl dX8_end_19 ?_
    exact g_iret B.2.2.2 B.2.2.1 (congrArg (fun z => some (Value.int z)) (Prod.mk.inj (Option.some.inj hf)).1.symm) (Prod.mk.inj (Option.some.inj hf)).2.symm dX8_end_20
  · rw [if_pos h1] at hf
    refine g_iconst (-1 : Int32) (by decide) dX8_end_12 ?_
    exact g_iret B.2.2.2 B.2.2.1 (congrArg (fun z => some (Value.int z)) (Prod.mk.inj (Option.some.inj hf)).1.symm) (Prod.mk.inj (Option.some.inj hf)).2.symm dX8_end_13
theorem kX8_end {l : Launch} {E : Ev} {st : St} {p1 : Int32} {r0 : Int32} {u0 : St}  (hf : fX8_end p1 st = some (r0, u0)) : CM l E WT yX8_end cX8_end 2 (some FieldType.int) 1 0 0 [.ref (eB E + 38), .int p1] st (some (.int r0)) u0 :=
  CM.intro mok_X8_end (Nat.le_of_ble_eq_true rfl) (fun x hl hR ht hr hQ _ => wX8_end ⟨hR, ht, hr, hQ⟩ p1 st hf)
def fX8_isSmall (p0 : Int32) : Int32 :=
  if p0 < (97 : Int32) then ((0 : Int32)) else (if (122 : Int32) < p0 then ((0 : Int32)) else ((1 : Int32)))
set_option maxHeartbeats 1000000 in
set_option maxRecDepth 20000 in
theorem wX8_isSmall {E : Ev} {x : Cx} {r0 : Int32} {st : St} (B : Bd E x (some FieldType.boolean) (0) 0 0 (some (.int r0)) st) (p0 : Int32)  (hf : fX8_isSmall p0 = r0) : G E WT x RX8 cX8_isSmall 1 (0, 0) st 0 [(0, .int p0)] [] := by
  unfold fX8_isSmall at hf
  refine g_iload_n rfl 0 rfl dX8_isSmall_0 ?_
  refine g_bipush (97 : Int32) (by decide) dX8_isSmall_1 ?_
  refine g_icmp_lt 16 (by decide) dX8_isSmall_3 (fun h1 => ?_) (fun h1 => ?_)
  · rw [if_pos h1] at hf
    refine g_iconst (0 : Int32) (by decide) dX8_isSmall_16 ?_
    exact g_zret B.2.2.2 B.2.2.1 (by decide) (congrArg (fun z => some (Value.int z)) hf.symm) rfl dX8_isSmall_17
  · rw [if_neg h1] at hf
    refine g_iload_n rfl 0 rfl dX8_isSmall_6 ?_
    refine g_bipush (122 : Int32) (by decide) dX8_isSmall_7 ?_
    refine g_icmp_gt 16 (by decide) dX8_isSmall_9 (fun h2 => ?_) (fun h2 => ?_)
    · rw [if_pos h2] at hf
      refine g_iconst (0 : Int32) (by decide) dX8_isSmall_16 ?_
      exact g_zret B.2.2.2 B.2.2.1 (by decide) (congrArg (fun z => some (Value.int z)) hf.symm) rfl dX8_isSmall_17
    · rw [if_neg h2] at hf
      refine g_iconst (1 : Int32) (by decide) dX8_isSmall_12 ?_
      refine g_goto 17 (by decide) dX8_isSmall_13 ?_
      exact g_zret B.2.2.2 B.2.2.1 (by decide) (congrArg (fun z => some (Value.int z)) hf.symm) rfl dX8_isSmall_17
theorem kX8_isSmall {l : Launch} {E : Ev} {st : St} {p0 : Int32} {r0 : Int32}  (hf : fX8_isSmall p0 = r0) : CM l E WT yX8_isSmall cX8_isSmall 1 (some FieldType.boolean) 0 0 0 [.int p0] st (some (.int r0)) st :=
  CM.intro mok_X8_isSmall (Nat.le_of_ble_eq_true rfl) (fun x hl hR ht hr hQ _ => wX8_isSmall ⟨hR, ht, hr, hQ⟩ p0 hf)
theorem fX8_isSmall_b (p0 : Int32) : isb (fX8_isSmall p0) = true := by
  unfold fX8_isSmall
  (repeat' split) <;> first | rfl | exact fX8_lies_b _ _ _
def fX8_isDigit (p0 : Int32) : Int32 :=
  if p0 < (48 : Int32) then ((0 : Int32)) else (if (57 : Int32) < p0 then ((0 : Int32)) else ((1 : Int32)))
set_option maxHeartbeats 1000000 in
set_option maxRecDepth 20000 in
theorem wX8_isDigit {E : Ev} {x : Cx} {r0 : Int32} {st : St} (B : Bd E x (some FieldType.boolean) (0) 0 0 (some (.int r0)) st) (p0 : Int32)  (hf : fX8_isDigit p0 = r0) : G E WT x RX8 cX8_isDigit 1 (0, 0) st 0 [(0, .int p0)] [] := by
  unfold fX8_isDigit at hf
  refine g_iload_n rfl 0 rfl dX8_isDigit_0 ?_
  refine g_bipush (48 : Int32) (by decide) dX8_isDigit_1 ?_
  refine g_icmp_lt 16 (by decide) dX8_isDigit_3 (fun h1 => ?_) (fun h1 => ?_)
  · rw [if_pos h1] at hf
    refine g_iconst (0 : Int32) (by decide) dX8_isDigit_16 ?_
    exact g_zret B.2.2.2 B.2.2.1 (by decide) (congrArg (fun z => some (Value.int z)) hf.symm) rfl dX8_isDigit_17
  · rw [if_neg h1] at hf
    refine g_iload_n rfl 0 rfl dX8_isDigit_6 ?_
    refine g_bipush (57 : Int32) (by decide) dX8_isDigit_7 ?_
    refine g_icmp_gt 16 (by decide) dX8_isDigit_9 (fun h2 => ?_) (fun h2 => ?_)
    · rw [if_pos h2] at hf
      refine g_iconst (0 : Int32) (by decide) dX8_isDigit_16 ?_
      exact g_zret B.2.2.2 B.2.2.1 (by decide) (congrArg (fun z => some (Value.int z)) hf.symm) rfl dX8_isDigit_17
    · rw [if_neg h2] at hf
      refine g_iconst (1 : Int32) (by decide) dX8_isDigit_12 ?_
      refine g_goto 17 (by decide) dX8_isDigit_13 ?_
      exact g_zret B.2.2.2 B.2.2.1 (by decide) (congrArg (fun z => some (Value.int z)) hf.symm) rfl dX8_isDigit_17
theorem kX8_isDigit {l : Launch} {E : Ev} {st : St} {p0 : Int32} {r0 : Int32}  (hf : fX8_isDigit p0 = r0) : CM l E WT yX8_isDigit cX8_isDigit 1 (some FieldType.boolean) 0 0 0 [.int p0] st (some (.int r0)) st :=
  CM.intro mok_X8_isDigit (Nat.le_of_ble_eq_true rfl) (fun x hl hR ht hr hQ _ => wX8_isDigit ⟨hR, ht, hr, hQ⟩ p0 hf)
theorem fX8_isDigit_b (p0 : Int32) : isb (fX8_isDigit p0) = true := by
  unfold fX8_isDigit
  (repeat' split) <;> first | rfl | exact fX8_lies_b _ _ _
def fX8_wordOf_b104 (st : St) (k5 : Int32 → Int32 → Int32 → Int32 → Option Int32)(l1 : Int32) (l2 : Int32) (l3 : Int32) (l4 : Int32) (l5 : Int32) (l6 : Int32) : Option Int32 :=
  if l6 = 0 then (k5 l1 l2 (l3 + (1 : Int32)) (l4 + (l5 + (1 : Int32)))) else (some l3)
set_option maxHeartbeats 1000000 in
set_option maxRecDepth 20000 in
theorem wX8_wordOf_b104 {E : Ev} {x : Cx} {r0 : Int32} {st : St} (B : Bd E x (some FieldType.int) (0) 0 0 (some (.int r0)) st) {k5 : Int32 → Int32 → Int32 → Int32 → Option Int32} (hk5 : ∀ (l1 : Int32) (l2 : Int32) (l3 : Int32) (l4 : Int32), k5 l1 l2 l3 l4 = some r0 → G E WT x RX8 cX8_wordOf 8 (0, 0) st 5 [(0, .ref (eB E + 38)), (1, .int l1), (2, .int l2), (3, .int l3), (4, .int l4)] []) (l1 : Int32) (l2 : Int32) (l3 : Int32) (l4 : Int32) (l5 : Int32) (l6 : Int32)  (hf : fX8_wordOf_b104 st k5 l1 l2 l3 l4 l5 l6 = some r0) : G E WT x RX8 cX8_wordOf 8 (0, 0) st 104 [(0, .ref (eB E + 38)), (1, .int l1), (2, .int l2), (3, .int l3), (4, .int l4), (5, .int l5), (6, .int l6)] [] := by
  unfold fX8_wordOf_b104 at hf
  refine g_iload 6 rfl dX8_wordOf_104 ?_
  refine g_if_eq 111 (by decide) dX8_wordOf_106 (fun h1 => ?_) (fun h1 => ?_)
  · rw [if_pos h1] at hf
    refine g_iload 4 rfl dX8_wordOf_111 ?_
    refine g_iload 5 rfl dX8_wordOf_113 ?_
    refine g_iconst (1 : Int32) (by decide) dX8_wordOf_115 ?_
    refine g_iadd dX8_wordOf_116 ?_
    refine g_iadd dX8_wordOf_117 ?_
    refine g_istore [(4, .int (l4 + (l5 + (1 : Int32)))), (0, .ref (eB E + 38)), (1, .int l1), (2, .int l2), (3, .int l3), (5, .int l5), (6, .int l6)] (by decide) rfl dX8_wordOf_118 ?_
    refine g_iinc (l3 + (1 : Int32)) [(3, .int (l3 + (1 : Int32))), (4, .int (l4 + (l5 + (1 : Int32)))), (0, .ref (eB E + 38)), (1, .int l1), (2, .int l2), (5, .int l5), (6, .int l6)] 4 rfl (congrArg (fun z => l3 + z) (show Int32.ofInt (1) = (1 : Int32) by decide)) (by decide) rfl dX8_wordOf_120 ?_
    refine g_goto 5 (by decide) dX8_wordOf_123 ?_
    refine g_lvs [2, 3, 4, 0, 1] rfl ?_
    exact hk5 l1 l2 (l3 + (1 : Int32)) (l4 + (l5 + (1 : Int32))) hf
  · rw [if_neg h1] at hf
    refine g_iload_n rfl 3 rfl dX8_wordOf_109 ?_
    exact g_iret B.2.2.2 B.2.2.1 (congrArg (fun z => some (Value.int z)) (Option.some.inj hf).symm) rfl dX8_wordOf_110
def fX8_wordOf_b96 (st : St) (k5 : Int32 → Int32 → Int32 → Int32 → Option Int32) (k57 : Int32 → Int32 → Int32 → Int32 → Int32 → Int32 → Int32 → Option Int32)(l1 : Int32) (l2 : Int32) (l3 : Int32) (l4 : Int32) (l5 : Int32) (l7 : Int32) (s0 : Int32) : Option Int32 :=
  k57 l1 l2 l3 l4 l5 s0 (l7 + (1 : Int32))
set_option maxHeartbeats 1000000 in
set_option maxRecDepth 20000 in
theorem wX8_wordOf_b96 {E : Ev} {x : Cx} {r0 : Int32} {st : St} (B : Bd E x (some FieldType.int) (0) 0 0 (some (.int r0)) st) {k5 : Int32 → Int32 → Int32 → Int32 → Option Int32} (hk5 : ∀ (l1 : Int32) (l2 : Int32) (l3 : Int32) (l4 : Int32), k5 l1 l2 l3 l4 = some r0 → G E WT x RX8 cX8_wordOf 8 (0, 0) st 5 [(0, .ref (eB E + 38)), (1, .int l1), (2, .int l2), (3, .int l3), (4, .int l4)] []) {k57 : Int32 → Int32 → Int32 → Int32 → Int32 → Int32 → Int32 → Option Int32} (hk57 : ∀ (l1 : Int32) (l2 : Int32) (l3 : Int32) (l4 : Int32) (l5 : Int32) (l6 : Int32) (l7 : Int32), k57 l1 l2 l3 l4 l5 l6 l7 = some r0 → G E WT x RX8 cX8_wordOf 8 (0, 0) st 57 [(0, .ref (eB E + 38)), (1, .int l1), (2, .int l2), (3, .int l3), (4, .int l4), (5, .int l5), (6, .int l6), (7, .int l7)] []) (l1 : Int32) (l2 : Int32) (l3 : Int32) (l4 : Int32) (l5 : Int32) (l7 : Int32) (s0 : Int32)  (hf : fX8_wordOf_b96 st k5 k57 l1 l2 l3 l4 l5 l7 s0 = some r0) : G E WT x RX8 cX8_wordOf 8 (0, 0) st 96 [(0, .ref (eB E + 38)), (1, .int l1), (2, .int l2), (3, .int l3), (4, .int l4), (5, .int l5), (7, .int l7)] [.int s0] := by
  unfold fX8_wordOf_b96 at hf
  refine g_istore [(6, .int s0), (0, .ref (eB E + 38)), (1, .int l1), (2, .int l2), (3, .int l3), (4, .int l4), (5, .int l5), (7, .int l7)] (by decide) rfl dX8_wordOf_96 ?_
  refine g_iinc (l7 + (1 : Int32)) [(7, .int (l7 + (1 : Int32))), (6, .int s0), (0, .ref (eB E + 38)), (1, .int l1), (2, .int l2), (3, .int l3), (4, .int l4), (5, .int l5)] 7 rfl (congrArg (fun z => l7 + z) (show Int32.ofInt (1) = (1 : Int32) by decide)) (by decide) rfl dX8_wordOf_98 ?_
  refine g_goto 57 (by decide) dX8_wordOf_101 ?_
  refine g_lvs [2, 3, 4, 5, 6, 7, 1, 0] rfl ?_
  exact hk57 l1 l2 l3 l4 l5 s0 (l7 + (1 : Int32)) hf
def fX8_wordOf_b57 (st : St) (k5 : Int32 → Int32 → Int32 → Int32 → Option Int32) : Nat → Int32 → Int32 → Int32 → Int32 → Int32 → Int32 → Int32 → Option Int32
  | 0, _, _, _, _, _, _, _ => none
  | n + 1, l1, l2, l3, l4, l5, l6, l7 => if l5 ≤ l7 then (fX8_wordOf_b104 st k5 l1 l2 l3 l4 l5 l6) else (if l6 = 0 then (fX8_wordOf_b104 st k5 l1 l2 l3 l4 l5 l6) else (chk (ixb (l4 + l7) 121) (chk (ixb (l1 + l7) 400) (if (sI st 44 ((l4 + l7).toNatClampNeg)) = (sI st 45 ((l1 + l7).toNatClampNeg)) then (fX8_wordOf_b96 st k5 (fun zl1 zl2 zl3 zl4 zl5 zl6 zl7 => fX8_wordOf_b57 st k5 n zl1 zl2 zl3 zl4 zl5 zl6 zl7) l1 l2 l3 l4 l5 l7 (1 : Int32)) else (fX8_wordOf_b96 st k5 (fun zl1 zl2 zl3 zl4 zl5 zl6 zl7 => fX8_wordOf_b57 st k5 n zl1 zl2 zl3 zl4 zl5 zl6 zl7) l1 l2 l3 l4 l5 l7 (0 : Int32))))))
set_option maxHeartbeats 1000000 in
set_option maxRecDepth 20000 in
theorem wX8_wordOf_b57 {E : Ev} {x : Cx} {r0 : Int32} {st : St} (B : Bd E x (some FieldType.int) (0) 0 0 (some (.int r0)) st) {k5 : Int32 → Int32 → Int32 → Int32 → Option Int32} (hk5 : ∀ (l1 : Int32) (l2 : Int32) (l3 : Int32) (l4 : Int32), k5 l1 l2 l3 l4 = some r0 → G E WT x RX8 cX8_wordOf 8 (0, 0) st 5 [(0, .ref (eB E + 38)), (1, .int l1), (2, .int l2), (3, .int l3), (4, .int l4)] []) : ∀ (n : Nat) (l1 : Int32) (l2 : Int32) (l3 : Int32) (l4 : Int32) (l5 : Int32) (l6 : Int32) (l7 : Int32) , fX8_wordOf_b57 st k5 n l1 l2 l3 l4 l5 l6 l7 = some r0 → G E WT x RX8 cX8_wordOf 8 (0, 0) st 57 [(0, .ref (eB E + 38)), (1, .int l1), (2, .int l2), (3, .int l3), (4, .int l4), (5, .int l5), (6, .int l6), (7, .int l7)] [] := by
  intro n
  induction n with
  | zero =>
    intros
    rename_i hf
    rw [fX8_wordOf_b57] at hf
    cases hf
  | succ n ih =>
    intro l1 l2 l3 l4 l5 l6 l7 hf
    rw [fX8_wordOf_b57] at hf
    refine g_iload 7 rfl dX8_wordOf_57 ?_
    refine g_iload 5 rfl dX8_wordOf_59 ?_
    refine g_icmp_ge 104 (by decide) dX8_wordOf_61 (fun h1 => ?_) (fun h1 => ?_)
    · rw [if_pos h1] at hf
      refine g_lvs [0, 1, 2, 3, 4, 5, 6] rfl ?_
      exact wX8_wordOf_b104 B hk5 l1 l2 l3 l4 l5 l6 hf
    · rw [if_neg h1] at hf
      refine g_iload 6 rfl dX8_wordOf_64 ?_
      refine g_if_eq 104 (by decide) dX8_wordOf_66 (fun h2 => ?_) (fun h2 => ?_)
      · rw [if_pos h2] at hf
        refine g_lvs [0, 1, 2, 3, 4, 5, 6] rfl ?_
        exact wX8_wordOf_b104 B hk5 l1 l2 l3 l4 l5 l6 hf
      · rw [if_neg h2] at hf
        refine g_aload_n rfl 0 rfl dX8_wordOf_69 ?_
        refine g_get (j := 7) cok8 (by decide) (.ref (eB E + 44)) (Or.inl tw4_182) oS38 vS38_7 dX8_wordOf_70 ?_
        refine g_iload 4 rfl dX8_wordOf_73 ?_
        refine g_iload 7 rfl dX8_wordOf_75 ?_
        refine g_iadd dX8_wordOf_77 ?_
        obtain ⟨h3, hf⟩ := chk_some hf
        refine g_baldj ((l4 + l7).toNatClampNeg) rfl aS44 (ixb_in h3) dX8_wordOf_78 ?_
        refine g_aload_n rfl 0 rfl dX8_wordOf_79 ?_
        refine g_get (j := 11) cok8 (by decide) (.ref (eB E + 45)) (Or.inl tw4_186) oS38 vS38_11 dX8_wordOf_80 ?_
        refine g_iload_n rfl 1 rfl dX8_wordOf_83 ?_
        refine g_iload 7 rfl dX8_wordOf_84 ?_
        refine g_iadd dX8_wordOf_86 ?_
        obtain ⟨h4, hf⟩ := chk_some hf
        refine g_baldj ((l1 + l7).toNatClampNeg) rfl aS45 (ixb_in h4) dX8_wordOf_87 ?_
        refine g_icmp_ne 95 (by decide) dX8_wordOf_88 (fun h5 => ?_) (fun h5 => ?_)
        · rw [if_neg h5] at hf
          refine g_iconst (0 : Int32) (by decide) dX8_wordOf_95 ?_
          refine g_lvs [0, 1, 2, 3, 4, 5, 7] rfl ?_
          exact wX8_wordOf_b96 B hk5 ih l1 l2 l3 l4 l5 l7 (0 : Int32) hf
        · rw [if_pos h5] at hf
          refine g_iconst (1 : Int32) (by decide) dX8_wordOf_91 ?_
          refine g_goto 96 (by decide) dX8_wordOf_92 ?_
          refine g_lvs [0, 1, 2, 3, 4, 5, 7] rfl ?_
          exact wX8_wordOf_b96 B hk5 ih l1 l2 l3 l4 l5 l7 (1 : Int32) hf
def fX8_wordOf_b52 (st : St) (k5 : Int32 → Int32 → Int32 → Int32 → Option Int32)(l1 : Int32) (l2 : Int32) (l3 : Int32) (l4 : Int32) (l5 : Int32) (s0 : Int32) : Option Int32 :=
  fX8_wordOf_b57 st k5 FU l1 l2 l3 l4 l5 s0 (0 : Int32)
set_option maxHeartbeats 1000000 in
set_option maxRecDepth 20000 in
theorem wX8_wordOf_b52 {E : Ev} {x : Cx} {r0 : Int32} {st : St} (B : Bd E x (some FieldType.int) (0) 0 0 (some (.int r0)) st) {k5 : Int32 → Int32 → Int32 → Int32 → Option Int32} (hk5 : ∀ (l1 : Int32) (l2 : Int32) (l3 : Int32) (l4 : Int32), k5 l1 l2 l3 l4 = some r0 → G E WT x RX8 cX8_wordOf 8 (0, 0) st 5 [(0, .ref (eB E + 38)), (1, .int l1), (2, .int l2), (3, .int l3), (4, .int l4)] []) (l1 : Int32) (l2 : Int32) (l3 : Int32) (l4 : Int32) (l5 : Int32) (s0 : Int32)  (hf : fX8_wordOf_b52 st k5 l1 l2 l3 l4 l5 s0 = some r0) : G E WT x RX8 cX8_wordOf 8 (0, 0) st 52 [(0, .ref (eB E + 38)), (1, .int l1), (2, .int l2), (3, .int l3), (4, .int l4), (5, .int l5)] [.int s0] := by
  unfold fX8_wordOf_b52 at hf
  refine g_istore [(6, .int s0), (0, .ref (eB E + 38)), (1, .int l1), (2, .int l2), (3, .int l3), (4, .int l4), (5, .int l5)] (by decide) rfl dX8_wordOf_52 ?_
  refine g_iconst (0 : Int32) (by decide) dX8_wordOf_54 ?_
  refine g_istore [(7, .int (0 : Int32)), (6, .int s0), (0, .ref (eB E + 38)), (1, .int l1), (2, .int l2), (3, .int l3), (4, .int l4), (5, .int l5)] (by decide) rfl dX8_wordOf_55 ?_
  refine g_lvs [2, 3, 4, 5, 6, 7, 1, 0] rfl ?_
  exact wX8_wordOf_b57 B hk5 FU l1 l2 l3 l4 l5 s0 (0 : Int32) hf
def fX8_wordOf_b18 (st : St) (k5 : Int32 → Int32 → Int32 → Int32 → Option Int32) : Nat → Int32 → Int32 → Int32 → Int32 → Int32 → Option Int32
  | 0, _, _, _, _, _ => none
  | n + 1, l1, l2, l3, l4, l5 => chk (ixb (l4 + l5) 121) (if (sI st 44 ((l4 + l5).toNatClampNeg)) = (32 : Int32) then (if l5 = (l2 - l1) then (fX8_wordOf_b52 st k5 l1 l2 l3 l4 l5 (1 : Int32)) else (fX8_wordOf_b52 st k5 l1 l2 l3 l4 l5 (0 : Int32))) else (fX8_wordOf_b18 st k5 n l1 l2 l3 l4 (l5 + (1 : Int32))))
set_option maxHeartbeats 1000000 in
set_option maxRecDepth 20000 in
theorem wX8_wordOf_b18 {E : Ev} {x : Cx} {r0 : Int32} {st : St} (B : Bd E x (some FieldType.int) (0) 0 0 (some (.int r0)) st) {k5 : Int32 → Int32 → Int32 → Int32 → Option Int32} (hk5 : ∀ (l1 : Int32) (l2 : Int32) (l3 : Int32) (l4 : Int32), k5 l1 l2 l3 l4 = some r0 → G E WT x RX8 cX8_wordOf 8 (0, 0) st 5 [(0, .ref (eB E + 38)), (1, .int l1), (2, .int l2), (3, .int l3), (4, .int l4)] []) : ∀ (n : Nat) (l1 : Int32) (l2 : Int32) (l3 : Int32) (l4 : Int32) (l5 : Int32) , fX8_wordOf_b18 st k5 n l1 l2 l3 l4 l5 = some r0 → G E WT x RX8 cX8_wordOf 8 (0, 0) st 18 [(0, .ref (eB E + 38)), (1, .int l1), (2, .int l2), (3, .int l3), (4, .int l4), (5, .int l5)] [] := by
  intro n
  induction n with
  | zero =>
    intros
    rename_i hf
    rw [fX8_wordOf_b18] at hf
    cases hf
  | succ n ih =>
    intro l1 l2 l3 l4 l5 hf
    rw [fX8_wordOf_b18] at hf
    refine g_aload_n rfl 0 rfl dX8_wordOf_18 ?_
    refine g_get (j := 7) cok8 (by decide) (.ref (eB E + 44)) (Or.inl tw4_182) oS38 vS38_7 dX8_wordOf_19 ?_
    refine g_iload 4 rfl dX8_wordOf_22 ?_
    refine g_iload 5 rfl dX8_wordOf_24 ?_
    refine g_iadd dX8_wordOf_26 ?_
    obtain ⟨h1, hf⟩ := chk_some hf
    refine g_baldj ((l4 + l5).toNatClampNeg) rfl aS44 (ixb_in h1) dX8_wordOf_27 ?_
    refine g_bipush (32 : Int32) (by decide) dX8_wordOf_28 ?_
    refine g_icmp_eq 39 (by decide) dX8_wordOf_30 (fun h2 => ?_) (fun h2 => ?_)
    · rw [if_pos h2] at hf
      refine g_iload 5 rfl dX8_wordOf_39 ?_
      refine g_iload_n rfl 2 rfl dX8_wordOf_41 ?_
      refine g_iload_n rfl 1 rfl dX8_wordOf_42 ?_
      refine g_isub dX8_wordOf_43 ?_
      refine g_icmp_ne 51 (by decide) dX8_wordOf_44 (fun h3 => ?_) (fun h3 => ?_)
      · rw [if_neg h3] at hf
        refine g_iconst (0 : Int32) (by decide) dX8_wordOf_51 ?_
        refine g_lvs [0, 1, 2, 3, 4, 5] rfl ?_
        exact wX8_wordOf_b52 B hk5 l1 l2 l3 l4 l5 (0 : Int32) hf
      · rw [if_pos h3] at hf
        refine g_iconst (1 : Int32) (by decide) dX8_wordOf_47 ?_
        refine g_goto 52 (by decide) dX8_wordOf_48 ?_
        refine g_lvs [0, 1, 2, 3, 4, 5] rfl ?_
        exact wX8_wordOf_b52 B hk5 l1 l2 l3 l4 l5 (1 : Int32) hf
    · rw [if_neg h2] at hf
      refine g_iinc (l5 + (1 : Int32)) [(5, .int (l5 + (1 : Int32))), (0, .ref (eB E + 38)), (1, .int l1), (2, .int l2), (3, .int l3), (4, .int l4)] 5 rfl (congrArg (fun z => l5 + z) (show Int32.ofInt (1) = (1 : Int32) by decide)) (by decide) rfl dX8_wordOf_33 ?_
      refine g_goto 18 (by decide) dX8_wordOf_36 ?_
      refine g_lvs [1, 2, 3, 4, 5, 0] rfl ?_
      exact ih l1 l2 l3 l4 (l5 + (1 : Int32)) hf
def fX8_wordOf_b5 (st : St)  : Nat → Int32 → Int32 → Int32 → Int32 → Option Int32
  | 0, _, _, _, _ => none
  | n + 1, l1, l2, l3, l4 => if (121 : Int32) ≤ l4 then (some (0 : Int32)) else (fX8_wordOf_b18 st (fun zl1 zl2 zl3 zl4 => fX8_wordOf_b5 st n zl1 zl2 zl3 zl4) FU l1 l2 l3 l4 (0 : Int32))
set_option maxHeartbeats 1000000 in
set_option maxRecDepth 20000 in
theorem wX8_wordOf_b5 {E : Ev} {x : Cx} {r0 : Int32} {st : St} (B : Bd E x (some FieldType.int) (0) 0 0 (some (.int r0)) st) : ∀ (n : Nat) (l1 : Int32) (l2 : Int32) (l3 : Int32) (l4 : Int32) , fX8_wordOf_b5 st n l1 l2 l3 l4 = some r0 → G E WT x RX8 cX8_wordOf 8 (0, 0) st 5 [(0, .ref (eB E + 38)), (1, .int l1), (2, .int l2), (3, .int l3), (4, .int l4)] [] := by
  intro n
  induction n with
  | zero =>
    intros
    rename_i hf
    rw [fX8_wordOf_b5] at hf
    cases hf
  | succ n ih =>
    intro l1 l2 l3 l4 hf
    rw [fX8_wordOf_b5] at hf
    refine g_iload 4 rfl dX8_wordOf_5 ?_
    refine g_aload_n rfl 0 rfl dX8_wordOf_7 ?_
    refine g_get (j := 7) cok8 (by decide) (.ref (eB E + 44)) (Or.inl tw4_182) oS38 vS38_7 dX8_wordOf_8 ?_
    refine g_alenL 0 (121 : Int32) (by decide) aS44 (by decide) rfl dX8_wordOf_11 ?_
    refine g_icmp_ge 126 (by decide) dX8_wordOf_12 (fun h1 => ?_) (fun h1 => ?_)
    · rw [if_pos h1] at hf
      refine g_iconst (0 : Int32) (by decide) dX8_wordOf_126 ?_
      exact g_iret B.2.2.2 B.2.2.1 (congrArg (fun z => some (Value.int z)) (Option.some.inj hf).symm) rfl dX8_wordOf_127
    · rw [if_neg h1] at hf
      refine g_iconst (0 : Int32) (by decide) dX8_wordOf_15 ?_
      refine g_istore [(5, .int (0 : Int32)), (0, .ref (eB E + 38)), (1, .int l1), (2, .int l2), (3, .int l3), (4, .int l4)] (by decide) rfl dX8_wordOf_16 ?_
      refine g_lvs [1, 2, 3, 4, 5, 0] rfl ?_
      exact wX8_wordOf_b18 B ih FU l1 l2 l3 l4 (0 : Int32) hf
def fX8_wordOf (st : St) (p1 : Int32) (p2 : Int32) : Option Int32 :=
  fX8_wordOf_b5 st FU p1 p2 (1 : Int32) (0 : Int32)
set_option maxHeartbeats 1000000 in
set_option maxRecDepth 20000 in
theorem wX8_wordOf {E : Ev} {x : Cx} {r0 : Int32} {st : St} (B : Bd E x (some FieldType.int) (0) 0 0 (some (.int r0)) st) (p1 : Int32) (p2 : Int32)  (hf : fX8_wordOf st p1 p2 = some r0) : G E WT x RX8 cX8_wordOf 8 (0, 0) st 0 [(0, .ref (eB E + 38)), (1, .int p1), (2, .int p2)] [] := by
  unfold fX8_wordOf at hf
  refine g_iconst (1 : Int32) (by decide) dX8_wordOf_0 ?_
  refine g_istore_n rfl [(3, .int (1 : Int32)), (0, .ref (eB E + 38)), (1, .int p1), (2, .int p2)] (by decide) rfl dX8_wordOf_1 ?_
  refine g_iconst (0 : Int32) (by decide) dX8_wordOf_2 ?_
  refine g_istore [(4, .int (0 : Int32)), (3, .int (1 : Int32)), (0, .ref (eB E + 38)), (1, .int p1), (2, .int p2)] (by decide) rfl dX8_wordOf_3 ?_
  refine g_lvs [2, 3, 4, 1, 0] rfl ?_
  exact wX8_wordOf_b5 B  FU p1 p2 (1 : Int32) (0 : Int32) hf
theorem kX8_wordOf {l : Launch} {E : Ev} {st : St} {p1 : Int32} {p2 : Int32} {r0 : Int32}  (hf : fX8_wordOf st p1 p2 = some r0) : CM l E WT yX8_wordOf cX8_wordOf 8 (some FieldType.int) 0 0 0 [.ref (eB E + 38), .int p1, .int p2] st (some (.int r0)) st :=
  CM.intro mok_X8_wordOf (Nat.le_of_ble_eq_true rfl) (fun x hl hR ht hr hQ _ => wX8_wordOf ⟨hR, ht, hr, hQ⟩ p1 p2 hf)
