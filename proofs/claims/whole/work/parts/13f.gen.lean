abbrev TG2 : Type := (Int32 → St → Option (Int32 × St)) × (Int32 → St → Option (Int32 × St)) × (Int32 → St → Option (Int32 × St)) × (Int32 → St → Option (Int32 × St))
def RcOK2 (l : Launch) (E : Ev) (rc : TG2) (d : Nat) : Prop := (∀ {st : St} {p1 : Int32} {r0 : Int32} {u0 : St}, rc.1 p1 st = some (r0, u0) → CM l E WT yX8_testOf cX8_testOf 4 (some FieldType.boolean) (105 + d) 0 0 [.ref (eB E + 38), .int p1] st (some (.int r0)) u0) ∧ (∀ {st : St} {p1 : Int32} {r0 : Int32} {u0 : St}, rc.2.1 p1 st = some (r0, u0) → CM l E WT yX8_bothOf cX8_bothOf 4 (some FieldType.boolean) (105 + d) 0 0 [.ref (eB E + 38), .int p1] st (some (.int r0)) u0) ∧ (∀ {st : St} {p1 : Int32} {r0 : Int32} {u0 : St}, rc.2.2.1 p1 st = some (r0, u0) → CM l E WT yX8_plainOf cX8_plainOf 3 (some FieldType.boolean) (105 + d) 0 0 [.ref (eB E + 38), .int p1] st (some (.int r0)) u0) ∧ (∀ {st : St} {p1 : Int32} {r0 : Int32} {u0 : St}, rc.2.2.2 p1 st = some (r0, u0) → CM l E WT yX8_positiveOf cX8_positiveOf 7 (some FieldType.boolean) (105 + d) 0 0 [.ref (eB E + 38), .int p1] st (some (.int r0)) u0)
def fX8_testOf_b46 (rc : TG2) (k6 : Int32 → Int32 → St → Option (Int32 × St))(l1 : Int32) (s0 : Int32) (st : St) : Option (Int32 × St) :=
  k6 l1 s0 st
set_option maxHeartbeats 1000000 in
set_option maxRecDepth 20000 in
theorem wX8_testOf_b46 {E : Ev} {x : Cx} {rc : TG2} {d : Nat} (hrc : RcOK2 (xl x) E rc d) {r0 : Int32} {u0 : St} (B : Bd E x (some FieldType.boolean) (105 + d + 1) 0 0 (some (.int r0)) u0) {k6 : Int32 → Int32 → St → Option (Int32 × St)} (hk6 : ∀ (l1 : Int32) (l2 : Int32) (st : St), k6 l1 l2 st = some (r0, u0) → G E WT x RX8 cX8_testOf 4 (0, 0) st 6 [(0, .ref (eB E + 38)), (1, .int l1), (2, .int l2)] []) (l1 : Int32) (s0 : Int32) (st : St)  (hf : fX8_testOf_b46 rc k6 l1 s0 st = some (r0, u0)) : G E WT x RX8 cX8_testOf 4 (0, 0) st 46 [(0, .ref (eB E + 38)), (1, .int l1)] [.int s0] := by
  unfold fX8_testOf_b46 at hf
  refine g_istore_n rfl [(2, .int s0), (0, .ref (eB E + 38)), (1, .int l1)] (by decide) rfl dX8_testOf_46 ?_
  refine g_goto 6 (by decide) dX8_testOf_47 ?_
  refine g_lvs [1, 2, 0] rfl ?_
  exact hk6 l1 s0 st hf
def fX8_testOf_b41 (rc : TG2) (k6 : Int32 → Int32 → St → Option (Int32 × St))(l1 : Int32) (st : St) : Option (Int32 × St) :=
  fX8_testOf_b46 rc k6 l1 (1 : Int32) st
set_option maxHeartbeats 1000000 in
set_option maxRecDepth 20000 in
theorem wX8_testOf_b41 {E : Ev} {x : Cx} {rc : TG2} {d : Nat} (hrc : RcOK2 (xl x) E rc d) {r0 : Int32} {u0 : St} (B : Bd E x (some FieldType.boolean) (105 + d + 1) 0 0 (some (.int r0)) u0) {k6 : Int32 → Int32 → St → Option (Int32 × St)} (hk6 : ∀ (l1 : Int32) (l2 : Int32) (st : St), k6 l1 l2 st = some (r0, u0) → G E WT x RX8 cX8_testOf 4 (0, 0) st 6 [(0, .ref (eB E + 38)), (1, .int l1), (2, .int l2)] []) (l1 : Int32) (st : St)  (hf : fX8_testOf_b41 rc k6 l1 st = some (r0, u0)) : G E WT x RX8 cX8_testOf 4 (0, 0) st 41 [(0, .ref (eB E + 38)), (1, .int l1)] [] := by
  unfold fX8_testOf_b41 at hf
  refine g_iconst (1 : Int32) (by decide) dX8_testOf_41 ?_
  refine g_goto 46 (by decide) dX8_testOf_42 ?_
  refine g_lvs [0, 1] rfl ?_
  exact wX8_testOf_b46 hrc B hk6 l1 (1 : Int32) st hf
def fX8_testOf_b29 (rc : TG2) (k6 : Int32 → Int32 → St → Option (Int32 × St))(l1 : Int32) (l2 : Int32) (s1 : Int32) (st : St) : Option (Int32 × St) :=
  (rc.2.1 s1 st).bind (fun q1 => if l2 = 0 then (if q1.1 = 0 then (fX8_testOf_b46 rc k6 l1 (0 : Int32) q1.2) else (fX8_testOf_b41 rc k6 l1 q1.2)) else (fX8_testOf_b41 rc k6 l1 q1.2))
set_option maxHeartbeats 1000000 in
set_option maxRecDepth 20000 in
theorem wX8_testOf_b29 {E : Ev} {x : Cx} {rc : TG2} {d : Nat} (hrc : RcOK2 (xl x) E rc d) {r0 : Int32} {u0 : St} (B : Bd E x (some FieldType.boolean) (105 + d + 1) 0 0 (some (.int r0)) u0) {k6 : Int32 → Int32 → St → Option (Int32 × St)} (hk6 : ∀ (l1 : Int32) (l2 : Int32) (st : St), k6 l1 l2 st = some (r0, u0) → G E WT x RX8 cX8_testOf 4 (0, 0) st 6 [(0, .ref (eB E + 38)), (1, .int l1), (2, .int l2)] []) (l1 : Int32) (l2 : Int32) (s1 : Int32) (st : St)  (hf : fX8_testOf_b29 rc k6 l1 l2 s1 st = some (r0, u0)) : G E WT x RX8 cX8_testOf 4 (0, 0) st 29 [(0, .ref (eB E + 38)), (1, .int l1), (2, .int l2)] [.int s1, .ref (eB E + 38)] := by
  unfold fX8_testOf_b29 at hf
  obtain ⟨q1, h2, hf⟩ := bnd_some hf
  refine g_callV0i (As := [.int s1]) (rest := []) cok8 mok_X8_bothOf tw6_115 tw6_117 ts7_10 oS38 B.1 (by omega) (hrc.2.1 h2) rfl rfl (Nat.le_of_ble_eq_true rfl) ⟨Nat.le_refl _, Nat.le_refl _⟩ dX8_testOf_29 ?_
  refine g_istore_n rfl [(3, .int q1.1), (0, .ref (eB E + 38)), (1, .int l1), (2, .int l2)] (by decide) rfl dX8_testOf_32 ?_
  refine g_iload_n rfl 3 rfl dX8_testOf_33 ?_
  refine g_if_ne 41 (by decide) dX8_testOf_34 (fun h3 => ?_) (fun h3 => ?_)
  · rw [if_neg h3] at hf
    refine g_lvs [1, 2] rfl ?_
    exact wX8_testOf_b41 hrc B hk6 l1 q1.2 hf
  · rw [if_pos h3] at hf
    refine g_iload_n rfl 0 rfl dX8_testOf_37 ?_
    refine g_if_eq 45 (by decide) dX8_testOf_38 (fun h4 => ?_) (fun h4 => ?_)
    · rw [if_pos h4] at hf
      refine g_iconst (0 : Int32) (by decide) dX8_testOf_45 ?_
      refine g_lvs [1, 2] rfl ?_
      exact wX8_testOf_b46 hrc B hk6 l1 (0 : Int32) q1.2 hf
    · rw [if_neg h4] at hf
      refine g_lvs [1, 2] rfl ?_
      exact wX8_testOf_b41 hrc B hk6 l1 q1.2 hf
def fX8_testOf_b28 (rc : TG2) (k6 : Int32 → Int32 → St → Option (Int32 × St))(l1 : Int32) (l2 : Int32) (st : St) : Option (Int32 × St) :=
  fX8_testOf_b29 rc k6 l1 l2 (0 : Int32) st
set_option maxHeartbeats 1000000 in
set_option maxRecDepth 20000 in
theorem wX8_testOf_b28 {E : Ev} {x : Cx} {rc : TG2} {d : Nat} (hrc : RcOK2 (xl x) E rc d) {r0 : Int32} {u0 : St} (B : Bd E x (some FieldType.boolean) (105 + d + 1) 0 0 (some (.int r0)) u0) {k6 : Int32 → Int32 → St → Option (Int32 × St)} (hk6 : ∀ (l1 : Int32) (l2 : Int32) (st : St), k6 l1 l2 st = some (r0, u0) → G E WT x RX8 cX8_testOf 4 (0, 0) st 6 [(0, .ref (eB E + 38)), (1, .int l1), (2, .int l2)] []) (l1 : Int32) (l2 : Int32) (st : St)  (hf : fX8_testOf_b28 rc k6 l1 l2 st = some (r0, u0)) : G E WT x RX8 cX8_testOf 4 (0, 0) st 28 [(0, .ref (eB E + 38)), (1, .int l1), (2, .int l2)] [.ref (eB E + 38)] := by
  unfold fX8_testOf_b28 at hf
  refine g_iconst (0 : Int32) (by decide) dX8_testOf_28 ?_
  refine g_lvs [0, 1, 2] rfl ?_
  exact wX8_testOf_b29 hrc B hk6 l1 l2 (0 : Int32) st hf
def fX8_testOf_b6 (rc : TG2)  : Nat → Int32 → Int32 → St → Option (Int32 × St)
  | 0, _, _, _ => none
  | n + 1, l1, l2, st => (fX8_passes0 (6 : Int32) st).bind (fun q1 => if q1.1 = 0 then (chk (isb l2) (some (l2, q1.2))) else (if l1 = 0 then (fX8_testOf_b28 rc (fun zl1 zl2 zst => fX8_testOf_b6 rc n zl1 zl2 zst) l1 l2 q1.2) else (if l2 = 0 then (fX8_testOf_b29 rc (fun zl1 zl2 zst => fX8_testOf_b6 rc n zl1 zl2 zst) l1 l2 (1 : Int32) q1.2) else (fX8_testOf_b28 rc (fun zl1 zl2 zst => fX8_testOf_b6 rc n zl1 zl2 zst) l1 l2 q1.2))))
set_option maxHeartbeats 1000000 in
set_option maxRecDepth 20000 in
theorem wX8_testOf_b6 {E : Ev} {x : Cx} {rc : TG2} {d : Nat} (hrc : RcOK2 (xl x) E rc d) {r0 : Int32} {u0 : St} (B : Bd E x (some FieldType.boolean) (105 + d + 1) 0 0 (some (.int r0)) u0) : ∀ (n : Nat) (l1 : Int32) (l2 : Int32) (st : St) , fX8_testOf_b6 rc n l1 l2 st = some (r0, u0) → G E WT x RX8 cX8_testOf 4 (0, 0) st 6 [(0, .ref (eB E + 38)), (1, .int l1), (2, .int l2)] [] := by
  intro n
  induction n with
  | zero =>
    intros
    rename_i hf
    rw [fX8_testOf_b6] at hf
    cases hf
  | succ n ih =>
    intro l1 l2 st hf
    rw [fX8_testOf_b6] at hf
    refine g_aload_n rfl 0 rfl dX8_testOf_6 ?_
    refine g_bipush (6 : Int32) (by decide) dX8_testOf_7 ?_
    obtain ⟨q1, h2, hf⟩ := bnd_some hf
    refine g_callV0i (As := [.int (6 : Int32)]) (rest := []) cok8 mok_X8_passes0 tw6_96 tw6_98 ts7_6 oS38 B.1 (by omega) (kX8_passes0  h2) rfl rfl (Nat.le_of_ble_eq_true rfl) ⟨Nat.le_refl _, Nat.le_refl _⟩ dX8_testOf_9 ?_
    refine g_if_eq 50 (by decide) dX8_testOf_12 (fun h3 => ?_) (fun h3 => ?_)
    · rw [if_pos h3] at hf
      refine g_iload_n rfl 2 rfl dX8_testOf_50 ?_
      obtain ⟨h4, hf⟩ := chk_some hf
      exact g_zret B.2.2.2 B.2.2.1 (isb_or h4) (congrArg (fun z => some (Value.int z)) (Prod.mk.inj (Option.some.inj hf)).1.symm) (Prod.mk.inj (Option.some.inj hf)).2.symm dX8_testOf_51
    · rw [if_neg h3] at hf
      refine g_aload_n rfl 0 rfl dX8_testOf_15 ?_
      refine g_iload_n rfl 1 rfl dX8_testOf_16 ?_
      refine g_if_eq 28 (by decide) dX8_testOf_17 (fun h5 => ?_) (fun h5 => ?_)
      · rw [if_pos h5] at hf
        refine g_lvs [0, 1, 2] rfl ?_
        exact wX8_testOf_b28 hrc B ih l1 l2 q1.2 hf
      · rw [if_neg h5] at hf
        refine g_iload_n rfl 2 rfl dX8_testOf_20 ?_
        refine g_if_ne 28 (by decide) dX8_testOf_21 (fun h6 => ?_) (fun h6 => ?_)
        · rw [if_neg h6] at hf
          refine g_lvs [0, 1, 2] rfl ?_
          exact wX8_testOf_b28 hrc B ih l1 l2 q1.2 hf
        · rw [if_pos h6] at hf
          refine g_iconst (1 : Int32) (by decide) dX8_testOf_24 ?_
          refine g_goto 29 (by decide) dX8_testOf_25 ?_
          refine g_lvs [0, 1, 2] rfl ?_
          exact wX8_testOf_b29 hrc B ih l1 l2 (1 : Int32) q1.2 hf
def fX8_testOf_g (rc : TG2) (p1 : Int32) (st : St) : Option (Int32 × St) :=
  (rc.2.1 p1 st).bind (fun q1 => fX8_testOf_b6 rc FU p1 q1.1 q1.2)
set_option maxHeartbeats 1000000 in
set_option maxRecDepth 20000 in
theorem wX8_testOf {E : Ev} {x : Cx} {rc : TG2} {d : Nat} (hrc : RcOK2 (xl x) E rc d) {r0 : Int32} {u0 : St} (B : Bd E x (some FieldType.boolean) (105 + d + 1) 0 0 (some (.int r0)) u0) (p1 : Int32) (st : St)  (hf : fX8_testOf_g rc p1 st = some (r0, u0)) : G E WT x RX8 cX8_testOf 4 (0, 0) st 0 [(0, .ref (eB E + 38)), (1, .int p1)] [] := by
  unfold fX8_testOf_g at hf
  refine g_aload_n rfl 0 rfl dX8_testOf_0 ?_
  refine g_iload_n rfl 1 rfl dX8_testOf_1 ?_
  obtain ⟨q1, h2, hf⟩ := bnd_some hf
  refine g_callV0i (As := [.int p1]) (rest := []) cok8 mok_X8_bothOf tw6_115 tw6_117 ts7_10 oS38 B.1 (by omega) (hrc.2.1 h2) rfl rfl (Nat.le_of_ble_eq_true rfl) ⟨Nat.le_refl _, Nat.le_refl _⟩ dX8_testOf_2 ?_
  refine g_istore_n rfl [(2, .int q1.1), (0, .ref (eB E + 38)), (1, .int p1)] (by decide) rfl dX8_testOf_5 ?_
  refine g_lvs [1, 2, 0] rfl ?_
  exact wX8_testOf_b6 hrc B  FU p1 q1.1 q1.2 hf
def fX8_bothOf_b46 (rc : TG2) (k6 : Int32 → Int32 → St → Option (Int32 × St))(l1 : Int32) (s0 : Int32) (st : St) : Option (Int32 × St) :=
  k6 l1 s0 st
set_option maxHeartbeats 1000000 in
set_option maxRecDepth 20000 in
theorem wX8_bothOf_b46 {E : Ev} {x : Cx} {rc : TG2} {d : Nat} (hrc : RcOK2 (xl x) E rc d) {r0 : Int32} {u0 : St} (B : Bd E x (some FieldType.boolean) (105 + d + 1) 0 0 (some (.int r0)) u0) {k6 : Int32 → Int32 → St → Option (Int32 × St)} (hk6 : ∀ (l1 : Int32) (l2 : Int32) (st : St), k6 l1 l2 st = some (r0, u0) → G E WT x RX8 cX8_bothOf 4 (0, 0) st 6 [(0, .ref (eB E + 38)), (1, .int l1), (2, .int l2)] []) (l1 : Int32) (s0 : Int32) (st : St)  (hf : fX8_bothOf_b46 rc k6 l1 s0 st = some (r0, u0)) : G E WT x RX8 cX8_bothOf 4 (0, 0) st 46 [(0, .ref (eB E + 38)), (1, .int l1)] [.int s0] := by
  unfold fX8_bothOf_b46 at hf
  refine g_istore_n rfl [(2, .int s0), (0, .ref (eB E + 38)), (1, .int l1)] (by decide) rfl dX8_bothOf_46 ?_
  refine g_goto 6 (by decide) dX8_bothOf_47 ?_
  refine g_lvs [1, 2, 0] rfl ?_
  exact hk6 l1 s0 st hf
def fX8_bothOf_b45 (rc : TG2) (k6 : Int32 → Int32 → St → Option (Int32 × St))(l1 : Int32) (st : St) : Option (Int32 × St) :=
  fX8_bothOf_b46 rc k6 l1 (0 : Int32) st
set_option maxHeartbeats 1000000 in
set_option maxRecDepth 20000 in
theorem wX8_bothOf_b45 {E : Ev} {x : Cx} {rc : TG2} {d : Nat} (hrc : RcOK2 (xl x) E rc d) {r0 : Int32} {u0 : St} (B : Bd E x (some FieldType.boolean) (105 + d + 1) 0 0 (some (.int r0)) u0) {k6 : Int32 → Int32 → St → Option (Int32 × St)} (hk6 : ∀ (l1 : Int32) (l2 : Int32) (st : St), k6 l1 l2 st = some (r0, u0) → G E WT x RX8 cX8_bothOf 4 (0, 0) st 6 [(0, .ref (eB E + 38)), (1, .int l1), (2, .int l2)] []) (l1 : Int32) (st : St)  (hf : fX8_bothOf_b45 rc k6 l1 st = some (r0, u0)) : G E WT x RX8 cX8_bothOf 4 (0, 0) st 45 [(0, .ref (eB E + 38)), (1, .int l1)] [] := by
  unfold fX8_bothOf_b45 at hf
  refine g_iconst (0 : Int32) (by decide) dX8_bothOf_45 ?_
  refine g_lvs [0, 1] rfl ?_
  exact wX8_bothOf_b46 hrc B hk6 l1 (0 : Int32) st hf
def fX8_bothOf_b29 (rc : TG2) (k6 : Int32 → Int32 → St → Option (Int32 × St))(l1 : Int32) (l2 : Int32) (s1 : Int32) (st : St) : Option (Int32 × St) :=
  (rc.2.2.1 s1 st).bind (fun q1 => if l2 = 0 then (fX8_bothOf_b45 rc k6 l1 q1.2) else (if q1.1 = 0 then (fX8_bothOf_b45 rc k6 l1 q1.2) else (fX8_bothOf_b46 rc k6 l1 (1 : Int32) q1.2)))
set_option maxHeartbeats 1000000 in
set_option maxRecDepth 20000 in
theorem wX8_bothOf_b29 {E : Ev} {x : Cx} {rc : TG2} {d : Nat} (hrc : RcOK2 (xl x) E rc d) {r0 : Int32} {u0 : St} (B : Bd E x (some FieldType.boolean) (105 + d + 1) 0 0 (some (.int r0)) u0) {k6 : Int32 → Int32 → St → Option (Int32 × St)} (hk6 : ∀ (l1 : Int32) (l2 : Int32) (st : St), k6 l1 l2 st = some (r0, u0) → G E WT x RX8 cX8_bothOf 4 (0, 0) st 6 [(0, .ref (eB E + 38)), (1, .int l1), (2, .int l2)] []) (l1 : Int32) (l2 : Int32) (s1 : Int32) (st : St)  (hf : fX8_bothOf_b29 rc k6 l1 l2 s1 st = some (r0, u0)) : G E WT x RX8 cX8_bothOf 4 (0, 0) st 29 [(0, .ref (eB E + 38)), (1, .int l1), (2, .int l2)] [.int s1, .ref (eB E + 38)] := by
  unfold fX8_bothOf_b29 at hf
  obtain ⟨q1, h2, hf⟩ := bnd_some hf
  refine g_callV0i (As := [.int s1]) (rest := []) cok8 mok_X8_plainOf tw6_119 tw6_121 ts7_11 oS38 B.1 (by omega) (hrc.2.2.1 h2) rfl rfl (Nat.le_of_ble_eq_true rfl) ⟨Nat.le_refl _, Nat.le_refl _⟩ dX8_bothOf_29 ?_
  refine g_istore_n rfl [(3, .int q1.1), (0, .ref (eB E + 38)), (1, .int l1), (2, .int l2)] (by decide) rfl dX8_bothOf_32 ?_
  refine g_iload_n rfl 3 rfl dX8_bothOf_33 ?_
  refine g_if_eq 45 (by decide) dX8_bothOf_34 (fun h3 => ?_) (fun h3 => ?_)
  · rw [if_pos h3] at hf
    refine g_lvs [1, 2] rfl ?_
    exact wX8_bothOf_b45 hrc B hk6 l1 q1.2 hf
  · rw [if_neg h3] at hf
    refine g_iload_n rfl 0 rfl dX8_bothOf_37 ?_
    refine g_if_eq 45 (by decide) dX8_bothOf_38 (fun h4 => ?_) (fun h4 => ?_)
    · rw [if_pos h4] at hf
      refine g_lvs [1, 2] rfl ?_
      exact wX8_bothOf_b45 hrc B hk6 l1 q1.2 hf
    · rw [if_neg h4] at hf
      refine g_iconst (1 : Int32) (by decide) dX8_bothOf_41 ?_
      refine g_goto 46 (by decide) dX8_bothOf_42 ?_
      refine g_lvs [1, 2] rfl ?_
      exact wX8_bothOf_b46 hrc B hk6 l1 (1 : Int32) q1.2 hf
def fX8_bothOf_b28 (rc : TG2) (k6 : Int32 → Int32 → St → Option (Int32 × St))(l1 : Int32) (l2 : Int32) (st : St) : Option (Int32 × St) :=
  fX8_bothOf_b29 rc k6 l1 l2 (0 : Int32) st
set_option maxHeartbeats 1000000 in
set_option maxRecDepth 20000 in
theorem wX8_bothOf_b28 {E : Ev} {x : Cx} {rc : TG2} {d : Nat} (hrc : RcOK2 (xl x) E rc d) {r0 : Int32} {u0 : St} (B : Bd E x (some FieldType.boolean) (105 + d + 1) 0 0 (some (.int r0)) u0) {k6 : Int32 → Int32 → St → Option (Int32 × St)} (hk6 : ∀ (l1 : Int32) (l2 : Int32) (st : St), k6 l1 l2 st = some (r0, u0) → G E WT x RX8 cX8_bothOf 4 (0, 0) st 6 [(0, .ref (eB E + 38)), (1, .int l1), (2, .int l2)] []) (l1 : Int32) (l2 : Int32) (st : St)  (hf : fX8_bothOf_b28 rc k6 l1 l2 st = some (r0, u0)) : G E WT x RX8 cX8_bothOf 4 (0, 0) st 28 [(0, .ref (eB E + 38)), (1, .int l1), (2, .int l2)] [.ref (eB E + 38)] := by
  unfold fX8_bothOf_b28 at hf
  refine g_iconst (0 : Int32) (by decide) dX8_bothOf_28 ?_
  refine g_lvs [0, 1, 2] rfl ?_
  exact wX8_bothOf_b29 hrc B hk6 l1 l2 (0 : Int32) st hf
def fX8_bothOf_b6 (rc : TG2)  : Nat → Int32 → Int32 → St → Option (Int32 × St)
  | 0, _, _, _ => none
  | n + 1, l1, l2, st => (fX8_passes0 (7 : Int32) st).bind (fun q1 => if q1.1 = 0 then (chk (isb l2) (some (l2, q1.2))) else (if l1 = 0 then (fX8_bothOf_b28 rc (fun zl1 zl2 zst => fX8_bothOf_b6 rc n zl1 zl2 zst) l1 l2 q1.2) else (if l2 = 0 then (fX8_bothOf_b28 rc (fun zl1 zl2 zst => fX8_bothOf_b6 rc n zl1 zl2 zst) l1 l2 q1.2) else (fX8_bothOf_b29 rc (fun zl1 zl2 zst => fX8_bothOf_b6 rc n zl1 zl2 zst) l1 l2 (1 : Int32) q1.2))))
set_option maxHeartbeats 1000000 in
set_option maxRecDepth 20000 in
theorem wX8_bothOf_b6 {E : Ev} {x : Cx} {rc : TG2} {d : Nat} (hrc : RcOK2 (xl x) E rc d) {r0 : Int32} {u0 : St} (B : Bd E x (some FieldType.boolean) (105 + d + 1) 0 0 (some (.int r0)) u0) : ∀ (n : Nat) (l1 : Int32) (l2 : Int32) (st : St) , fX8_bothOf_b6 rc n l1 l2 st = some (r0, u0) → G E WT x RX8 cX8_bothOf 4 (0, 0) st 6 [(0, .ref (eB E + 38)), (1, .int l1), (2, .int l2)] [] := by
  intro n
  induction n with
  | zero =>
    intros
    rename_i hf
    rw [fX8_bothOf_b6] at hf
    cases hf
  | succ n ih =>
    intro l1 l2 st hf
    rw [fX8_bothOf_b6] at hf
    refine g_aload_n rfl 0 rfl dX8_bothOf_6 ?_
    refine g_bipush (7 : Int32) (by decide) dX8_bothOf_7 ?_
    obtain ⟨q1, h2, hf⟩ := bnd_some hf
    refine g_callV0i (As := [.int (7 : Int32)]) (rest := []) cok8 mok_X8_passes0 tw6_96 tw6_98 ts7_6 oS38 B.1 (by omega) (kX8_passes0  h2) rfl rfl (Nat.le_of_ble_eq_true rfl) ⟨Nat.le_refl _, Nat.le_refl _⟩ dX8_bothOf_9 ?_
    refine g_if_eq 50 (by decide) dX8_bothOf_12 (fun h3 => ?_) (fun h3 => ?_)
    · rw [if_pos h3] at hf
      refine g_iload_n rfl 2 rfl dX8_bothOf_50 ?_
      obtain ⟨h4, hf⟩ := chk_some hf
      exact g_zret B.2.2.2 B.2.2.1 (isb_or h4) (congrArg (fun z => some (Value.int z)) (Prod.mk.inj (Option.some.inj hf)).1.symm) (Prod.mk.inj (Option.some.inj hf)).2.symm dX8_bothOf_51
    · rw [if_neg h3] at hf
      refine g_aload_n rfl 0 rfl dX8_bothOf_15 ?_
      refine g_iload_n rfl 1 rfl dX8_bothOf_16 ?_
      refine g_if_eq 28 (by decide) dX8_bothOf_17 (fun h5 => ?_) (fun h5 => ?_)
      · rw [if_pos h5] at hf
        refine g_lvs [0, 1, 2] rfl ?_
        exact wX8_bothOf_b28 hrc B ih l1 l2 q1.2 hf
      · rw [if_neg h5] at hf
        refine g_iload_n rfl 2 rfl dX8_bothOf_20 ?_
        refine g_if_eq 28 (by decide) dX8_bothOf_21 (fun h6 => ?_) (fun h6 => ?_)
        · rw [if_pos h6] at hf
          refine g_lvs [0, 1, 2] rfl ?_
          exact wX8_bothOf_b28 hrc B ih l1 l2 q1.2 hf
        · rw [if_neg h6] at hf
          refine g_iconst (1 : Int32) (by decide) dX8_bothOf_24 ?_
          refine g_goto 29 (by decide) dX8_bothOf_25 ?_
          refine g_lvs [0, 1, 2] rfl ?_
          exact wX8_bothOf_b29 hrc B ih l1 l2 (1 : Int32) q1.2 hf
def fX8_bothOf_g (rc : TG2) (p1 : Int32) (st : St) : Option (Int32 × St) :=
  (rc.2.2.1 p1 st).bind (fun q1 => fX8_bothOf_b6 rc FU p1 q1.1 q1.2)
set_option maxHeartbeats 1000000 in
set_option maxRecDepth 20000 in
theorem wX8_bothOf {E : Ev} {x : Cx} {rc : TG2} {d : Nat} (hrc : RcOK2 (xl x) E rc d) {r0 : Int32} {u0 : St} (B : Bd E x (some FieldType.boolean) (105 + d + 1) 0 0 (some (.int r0)) u0) (p1 : Int32) (st : St)  (hf : fX8_bothOf_g rc p1 st = some (r0, u0)) : G E WT x RX8 cX8_bothOf 4 (0, 0) st 0 [(0, .ref (eB E + 38)), (1, .int p1)] [] := by
  unfold fX8_bothOf_g at hf
  refine g_aload_n rfl 0 rfl dX8_bothOf_0 ?_
  refine g_iload_n rfl 1 rfl dX8_bothOf_1 ?_
  obtain ⟨q1, h2, hf⟩ := bnd_some hf
  refine g_callV0i (As := [.int p1]) (rest := []) cok8 mok_X8_plainOf tw6_119 tw6_121 ts7_11 oS38 B.1 (by omega) (hrc.2.2.1 h2) rfl rfl (Nat.le_of_ble_eq_true rfl) ⟨Nat.le_refl _, Nat.le_refl _⟩ dX8_bothOf_2 ?_
  refine g_istore_n rfl [(2, .int q1.1), (0, .ref (eB E + 38)), (1, .int p1)] (by decide) rfl dX8_bothOf_5 ?_
  refine g_lvs [1, 2, 0] rfl ?_
  exact wX8_bothOf_b6 hrc B  FU p1 q1.1 q1.2 hf
def fX8_plainOf_b20 (rc : TG2) (k2 : Int32 → Int32 → St → Option (Int32 × St))(l1 : Int32) (s0 : Int32) (st : St) : Option (Int32 × St) :=
  k2 l1 s0 st
set_option maxHeartbeats 1000000 in
set_option maxRecDepth 20000 in
theorem wX8_plainOf_b20 {E : Ev} {x : Cx} {rc : TG2} {d : Nat} (hrc : RcOK2 (xl x) E rc d) {r0 : Int32} {u0 : St} (B : Bd E x (some FieldType.boolean) (105 + d + 1) 0 0 (some (.int r0)) u0) {k2 : Int32 → Int32 → St → Option (Int32 × St)} (hk2 : ∀ (l1 : Int32) (l2 : Int32) (st : St), k2 l1 l2 st = some (r0, u0) → G E WT x RX8 cX8_plainOf 3 (0, 0) st 2 [(0, .ref (eB E + 38)), (1, .int l1), (2, .int l2)] []) (l1 : Int32) (s0 : Int32) (st : St)  (hf : fX8_plainOf_b20 rc k2 l1 s0 st = some (r0, u0)) : G E WT x RX8 cX8_plainOf 3 (0, 0) st 20 [(0, .ref (eB E + 38)), (1, .int l1)] [.int s0] := by
  unfold fX8_plainOf_b20 at hf
  refine g_istore_n rfl [(2, .int s0), (0, .ref (eB E + 38)), (1, .int l1)] (by decide) rfl dX8_plainOf_20 ?_
  refine g_goto 2 (by decide) dX8_plainOf_21 ?_
  refine g_lvs [1, 2, 0] rfl ?_
  exact hk2 l1 s0 st hf
def fX8_plainOf_b2 (rc : TG2)  : Nat → Int32 → Int32 → St → Option (Int32 × St)
  | 0, _, _, _ => none
  | n + 1, l1, l2, st => (fX8_passes0 (8 : Int32) st).bind (fun q1 => if q1.1 = 0 then ((rc.2.2.2 l1 q1.2).bind (fun q4 => if q4.1 = l2 then (some ((0 : Int32), q4.2)) else (some ((1 : Int32), q4.2)))) else (if l2 = 0 then (fX8_plainOf_b20 rc (fun zl1 zl2 zst => fX8_plainOf_b2 rc n zl1 zl2 zst) l1 (1 : Int32) q1.2) else (fX8_plainOf_b20 rc (fun zl1 zl2 zst => fX8_plainOf_b2 rc n zl1 zl2 zst) l1 (0 : Int32) q1.2)))
set_option maxHeartbeats 1000000 in
set_option maxRecDepth 20000 in
theorem wX8_plainOf_b2 {E : Ev} {x : Cx} {rc : TG2} {d : Nat} (hrc : RcOK2 (xl x) E rc d) {r0 : Int32} {u0 : St} (B : Bd E x (some FieldType.boolean) (105 + d + 1) 0 0 (some (.int r0)) u0) : ∀ (n : Nat) (l1 : Int32) (l2 : Int32) (st : St) , fX8_plainOf_b2 rc n l1 l2 st = some (r0, u0) → G E WT x RX8 cX8_plainOf 3 (0, 0) st 2 [(0, .ref (eB E + 38)), (1, .int l1), (2, .int l2)] [] := by
  intro n
  induction n with
  | zero =>
    intros
    rename_i hf
    rw [fX8_plainOf_b2] at hf
    cases hf
  | succ n ih =>
    intro l1 l2 st hf
    rw [fX8_plainOf_b2] at hf
    refine g_aload_n rfl 0 rfl dX8_plainOf_2 ?_
    refine g_bipush (8 : Int32) (by decide) dX8_plainOf_3 ?_
    obtain ⟨q1, h2, hf⟩ := bnd_some hf
    refine g_callV0i (As := [.int (8 : Int32)]) (rest := []) cok8 mok_X8_passes0 tw6_96 tw6_98 ts7_6 oS38 B.1 (by omega) (kX8_passes0  h2) rfl rfl (Nat.le_of_ble_eq_true rfl) ⟨Nat.le_refl _, Nat.le_refl _⟩ dX8_plainOf_5 ?_
    refine g_if_eq 24 (by decide) dX8_plainOf_8 (fun h3 => ?_) (fun h3 => ?_)
    · rw [if_pos h3] at hf
      refine g_aload_n rfl 0 rfl dX8_plainOf_24 ?_
      refine g_iload_n rfl 1 rfl dX8_plainOf_25 ?_
      obtain ⟨q4, h5, hf⟩ := bnd_some hf
      refine g_callV0i (As := [.int l1]) (rest := []) cok8 mok_X8_positiveOf tw6_123 tw6_125 ts7_12 oS38 B.1 (by omega) (hrc.2.2.2 h5) rfl rfl (Nat.le_of_ble_eq_true rfl) ⟨Nat.le_refl _, Nat.le_refl _⟩ dX8_plainOf_26 ?_
      refine g_iload_n rfl 2 rfl dX8_plainOf_29 ?_
      refine g_icmp_eq 37 (by decide) dX8_plainOf_30 (fun h6 => ?_) (fun h6 => ?_)
      · rw [if_pos h6] at hf
        refine g_iconst (0 : Int32) (by decide) dX8_plainOf_37 ?_
        exact g_zret B.2.2.2 B.2.2.1 (by decide) (congrArg (fun z => some (Value.int z)) (Prod.mk.inj (Option.some.inj hf)).1.symm) (Prod.mk.inj (Option.some.inj hf)).2.symm dX8_plainOf_38
      · rw [if_neg h6] at hf
        refine g_iconst (1 : Int32) (by decide) dX8_plainOf_33 ?_
        refine g_goto 38 (by decide) dX8_plainOf_34 ?_
        exact g_zret B.2.2.2 B.2.2.1 (by decide) (congrArg (fun z => some (Value.int z)) (Prod.mk.inj (Option.some.inj hf)).1.symm) (Prod.mk.inj (Option.some.inj hf)).2.symm dX8_plainOf_38
    · rw [if_neg h3] at hf
      refine g_iload_n rfl 2 rfl dX8_plainOf_11 ?_
      refine g_if_ne 19 (by decide) dX8_plainOf_12 (fun h7 => ?_) (fun h7 => ?_)
      · rw [if_neg h7] at hf
        refine g_iconst (0 : Int32) (by decide) dX8_plainOf_19 ?_
        refine g_lvs [0, 1] rfl ?_
        exact wX8_plainOf_b20 hrc B ih l1 (0 : Int32) q1.2 hf
      · rw [if_pos h7] at hf
        refine g_iconst (1 : Int32) (by decide) dX8_plainOf_15 ?_
        refine g_goto 20 (by decide) dX8_plainOf_16 ?_
        refine g_lvs [0, 1] rfl ?_
        exact wX8_plainOf_b20 hrc B ih l1 (1 : Int32) q1.2 hf
def fX8_plainOf_g (rc : TG2) (p1 : Int32) (st : St) : Option (Int32 × St) :=
  fX8_plainOf_b2 rc FU p1 (0 : Int32) st
set_option maxHeartbeats 1000000 in
set_option maxRecDepth 20000 in
theorem wX8_plainOf {E : Ev} {x : Cx} {rc : TG2} {d : Nat} (hrc : RcOK2 (xl x) E rc d) {r0 : Int32} {u0 : St} (B : Bd E x (some FieldType.boolean) (105 + d + 1) 0 0 (some (.int r0)) u0) (p1 : Int32) (st : St)  (hf : fX8_plainOf_g rc p1 st = some (r0, u0)) : G E WT x RX8 cX8_plainOf 3 (0, 0) st 0 [(0, .ref (eB E + 38)), (1, .int p1)] [] := by
  unfold fX8_plainOf_g at hf
  refine g_iconst (0 : Int32) (by decide) dX8_plainOf_0 ?_
  refine g_istore_n rfl [(2, .int (0 : Int32)), (0, .ref (eB E + 38)), (1, .int p1)] (by decide) rfl dX8_plainOf_1 ?_
  refine g_lvs [1, 2, 0] rfl ?_
  exact wX8_plainOf_b2 hrc B  FU p1 (0 : Int32) st hf
def fX8_positiveOf_g (rc : TG2) (p1 : Int32) (st : St) : Option (Int32 × St) :=
  (fX8_passes0 (fX8_sign (40 : Int32)) st).bind (fun q1 => if q1.1 = 0 then ((fX8_sumOf p1 q1.2).bind (fun q4 => (fX8_codeAt q4.2 (sI q4.2 38 22)).bind (fun q6 => (fX8_sumOf p1 (pI q4.2 38 22 ((sI q4.2 38 22) + (1 : Int32)))).bind (fun q8 => if p1 = 0 then (some ((0 : Int32), q8.2)) else (if (sI q8.2 38 24) = 0 then (if q6 = (fX8_sign (60 : Int32)) then (if 0 ≤ (lg_cmp q4.1 q8.1) then (some ((0 : Int32), q8.2)) else (some ((1 : Int32), q8.2))) else (if q6 = (fX8_sign (62 : Int32)) then (if (lg_cmp q4.1 q8.1) ≤ 0 then (some ((0 : Int32), q8.2)) else (some ((1 : Int32), q8.2))) else (if (lg_cmp q4.1 q8.1) = 0 then (some ((1 : Int32), q8.2)) else (some ((0 : Int32), q8.2))))) else (some ((0 : Int32), q8.2))))))) else ((rc.1 p1 q1.2).bind (fun q17 => chk (isb q17.1) (some (q17.1, pI q17.2 38 22 ((sI q17.2 38 22) + (1 : Int32)))))))
set_option maxHeartbeats 1000000 in
set_option maxRecDepth 20000 in
theorem wX8_positiveOf {E : Ev} {x : Cx} {rc : TG2} {d : Nat} (hrc : RcOK2 (xl x) E rc d) {r0 : Int32} {u0 : St} (B : Bd E x (some FieldType.boolean) (105 + d + 1) 0 0 (some (.int r0)) u0) (p1 : Int32) (st : St)  (hf : fX8_positiveOf_g rc p1 st = some (r0, u0)) : G E WT x RX8 cX8_positiveOf 7 (0, 0) st 0 [(0, .ref (eB E + 38)), (1, .int p1)] [] := by
  unfold fX8_positiveOf_g at hf
  refine g_aload_n rfl 0 rfl dX8_positiveOf_0 ?_
  refine g_bipush (40 : Int32) (by decide) dX8_positiveOf_1 ?_
  refine g_callS0i (As := [.int (40 : Int32)]) (rest := [.ref (eB E + 38)]) mok_X8_sign tw6_6 tw6_7 B.1 (by omega) (kX8_sign  rfl) rfl rfl (Nat.le_of_ble_eq_true rfl) ⟨Nat.le_refl _, Nat.le_refl _⟩ dX8_positiveOf_3 ?_
  obtain ⟨q1, h2, hf⟩ := bnd_some hf
  refine g_callV0i (As := [.int (fX8_sign (40 : Int32))]) (rest := []) cok8 mok_X8_passes0 tw6_96 tw6_98 ts7_6 oS38 B.1 (by omega) (kX8_passes0  h2) rfl rfl (Nat.le_of_ble_eq_true rfl) ⟨Nat.le_refl _, Nat.le_refl _⟩ dX8_positiveOf_6 ?_
  refine g_if_eq 30 (by decide) dX8_positiveOf_9 (fun h3 => ?_) (fun h3 => ?_)
  · rw [if_pos h3] at hf
    refine g_aload_n rfl 0 rfl dX8_positiveOf_30 ?_
    refine g_iload_n rfl 1 rfl dX8_positiveOf_31 ?_
    obtain ⟨q4, h5, hf⟩ := bnd_some hf
    refine g_callV0l (As := [.int p1]) (rest := []) cok8 mok_X8_sumOf tw6_84 tw6_86 ts7_3 oS38 B.1 (by omega) (kX8_sumOf  h5) rfl rfl (Nat.le_of_ble_eq_true rfl) ⟨Nat.le_refl _, Nat.le_refl _⟩ dX8_positiveOf_32 ?_
    refine g_lstore_n rfl [(2, .long q4.1), (0, .ref (eB E + 38)), (1, .int p1)] (by decide) rfl dX8_positiveOf_35 ?_
    refine g_aload_n rfl 1 rfl dX8_positiveOf_36 ?_
    refine g_aload_n rfl 1 rfl dX8_positiveOf_37 ?_
    refine g_get (j := 22) cok8 (by decide) (.int (sI q4.2 38 22)) (Or.inl tw4_197) oS38 (fun _ => rfl) dX8_positiveOf_38 ?_
    obtain ⟨q6, h7, hf⟩ := bnd_some hf
    refine g_callV0i (As := [.int (sI q4.2 38 22)]) (rest := []) cok8 mok_X8_codeAt tw6_80 tw6_82 ts7_2 oS38 B.1 (by omega) (kX8_codeAt  h7) rfl rfl (Nat.le_of_ble_eq_true rfl) ⟨Nat.le_refl _, Nat.le_refl _⟩ dX8_positiveOf_41 ?_
    refine g_istore [(4, .int q6), (2, .long q4.1), (0, .ref (eB E + 38)), (1, .int p1)] (by decide) rfl dX8_positiveOf_44 ?_
    refine g_aload_n rfl 2 rfl dX8_positiveOf_46 ?_
    refine g_dup rfl dX8_positiveOf_47 ?_
    refine g_get (j := 22) cok8 (by decide) (.int (sI q4.2 38 22)) (Or.inl tw4_197) oS38 (fun _ => rfl) dX8_positiveOf_48 ?_
    refine g_iconst (1 : Int32) (by decide) dX8_positiveOf_51 ?_
    refine g_iadd dX8_positiveOf_52 ?_
    refine g_putI (j := 22) cok8 (by decide) rfl rfl rfl rfl (Or.inl tw4_197) oS38 B.2.1 wpI dX8_positiveOf_53 ?_
    refine g_aload_n rfl 2 rfl dX8_positiveOf_56 ?_
    refine g_iload_n rfl 3 rfl dX8_positiveOf_57 ?_
    obtain ⟨q8, h9, hf⟩ := bnd_some hf
    refine g_callV0l (As := [.int p1]) (rest := []) cok8 mok_X8_sumOf tw6_84 tw6_86 ts7_3 oS38 B.1 (by omega) (kX8_sumOf  h9) rfl rfl (Nat.le_of_ble_eq_true rfl) ⟨Nat.le_refl _, Nat.le_refl _⟩ dX8_positiveOf_58 ?_
    refine g_lstore [(5, .long q8.1), (4, .int q6), (2, .long q4.1), (0, .ref (eB E + 38)), (1, .int p1)] (by decide) rfl dX8_positiveOf_61 ?_
    refine g_iload_n rfl 4 rfl dX8_positiveOf_63 ?_
    refine g_if_eq 125 (by decide) dX8_positiveOf_64 (fun h10 => ?_) (fun h10 => ?_)
    · rw [if_pos h10] at hf
      refine g_iconst (0 : Int32) (by decide) dX8_positiveOf_125 ?_
      exact g_zret B.2.2.2 B.2.2.1 (by decide) (congrArg (fun z => some (Value.int z)) (Prod.mk.inj (Option.some.inj hf)).1.symm) (Prod.mk.inj (Option.some.inj hf)).2.symm dX8_positiveOf_126
    · rw [if_neg h10] at hf
      refine g_aload_n rfl 3 rfl dX8_positiveOf_67 ?_
      refine g_get (j := 24) cok8 (by decide) (.int (sI q8.2 38 24)) (Or.inl tw4_199) oS38 (fun _ => rfl) dX8_positiveOf_68 ?_
      refine g_if_ne 125 (by decide) dX8_positiveOf_71 (fun h11 => ?_) (fun h11 => ?_)
      · rw [if_neg h11] at hf
        refine g_iconst (0 : Int32) (by decide) dX8_positiveOf_125 ?_
        exact g_zret B.2.2.2 B.2.2.1 (by decide) (congrArg (fun z => some (Value.int z)) (Prod.mk.inj (Option.some.inj hf)).1.symm) (Prod.mk.inj (Option.some.inj hf)).2.symm dX8_positiveOf_126
      · rw [if_pos h11] at hf
        refine g_iload 1 rfl dX8_positiveOf_74 ?_
        refine g_bipush (60 : Int32) (by decide) dX8_positiveOf_76 ?_
        refine g_callS0i (As := [.int (60 : Int32)]) (rest := [.int q6]) mok_X8_sign tw6_6 tw6_7 B.1 (by omega) (kX8_sign  rfl) rfl rfl (Nat.le_of_ble_eq_true rfl) ⟨Nat.le_refl _, Nat.le_refl _⟩ dX8_positiveOf_78 ?_
        refine g_icmp_ne 94 (by decide) dX8_positiveOf_81 (fun h12 => ?_) (fun h12 => ?_)
        · rw [if_neg h12] at hf
          refine g_iload 1 rfl dX8_positiveOf_94 ?_
          refine g_bipush (62 : Int32) (by decide) dX8_positiveOf_96 ?_
          refine g_callS0i (As := [.int (62 : Int32)]) (rest := [.int q6]) mok_X8_sign tw6_6 tw6_7 B.1 (by omega) (kX8_sign  rfl) rfl rfl (Nat.le_of_ble_eq_true rfl) ⟨Nat.le_refl _, Nat.le_refl _⟩ dX8_positiveOf_98 ?_
          refine g_icmp_ne 114 (by decide) dX8_positiveOf_101 (fun h13 => ?_) (fun h13 => ?_)
          · rw [if_neg h13] at hf
            refine g_lload_n rfl 2 rfl dX8_positiveOf_114 ?_
            refine g_lload 0 rfl dX8_positiveOf_115 ?_
            refine g_lcmp dX8_positiveOf_117 ?_
            refine g_if_ne 125 (by decide) dX8_positiveOf_118 (fun h14 => ?_) (fun h14 => ?_)
            · rw [if_neg h14] at hf
              refine g_iconst (0 : Int32) (by decide) dX8_positiveOf_125 ?_
              exact g_zret B.2.2.2 B.2.2.1 (by decide) (congrArg (fun z => some (Value.int z)) (Prod.mk.inj (Option.some.inj hf)).1.symm) (Prod.mk.inj (Option.some.inj hf)).2.symm dX8_positiveOf_126
            · rw [if_pos h14] at hf
              refine g_iconst (1 : Int32) (by decide) dX8_positiveOf_121 ?_
              refine g_goto 126 (by decide) dX8_positiveOf_122 ?_
              exact g_zret B.2.2.2 B.2.2.1 (by decide) (congrArg (fun z => some (Value.int z)) (Prod.mk.inj (Option.some.inj hf)).1.symm) (Prod.mk.inj (Option.some.inj hf)).2.symm dX8_positiveOf_126
          · rw [if_pos h13] at hf
            refine g_lload_n rfl 2 rfl dX8_positiveOf_104 ?_
            refine g_lload 0 rfl dX8_positiveOf_105 ?_
            refine g_lcmp dX8_positiveOf_107 ?_
            refine g_if_le 125 (by decide) dX8_positiveOf_108 (fun h15 => ?_) (fun h15 => ?_)
            · rw [if_pos h15] at hf
              refine g_iconst (0 : Int32) (by decide) dX8_positiveOf_125 ?_
              exact g_zret B.2.2.2 B.2.2.1 (by decide) (congrArg (fun z => some (Value.int z)) (Prod.mk.inj (Option.some.inj hf)).1.symm) (Prod.mk.inj (Option.some.inj hf)).2.symm dX8_positiveOf_126
            · rw [if_neg h15] at hf
              refine g_goto 121 (by decide) dX8_positiveOf_111 ?_
              refine g_iconst (1 : Int32) (by decide) dX8_positiveOf_121 ?_
              refine g_goto 126 (by decide) dX8_positiveOf_122 ?_
              exact g_zret B.2.2.2 B.2.2.1 (by decide) (congrArg (fun z => some (Value.int z)) (Prod.mk.inj (Option.some.inj hf)).1.symm) (Prod.mk.inj (Option.some.inj hf)).2.symm dX8_positiveOf_126
        · rw [if_pos h12] at hf
          refine g_lload_n rfl 2 rfl dX8_positiveOf_84 ?_
          refine g_lload 0 rfl dX8_positiveOf_85 ?_
          refine g_lcmp dX8_positiveOf_87 ?_
          refine g_if_ge 125 (by decide) dX8_positiveOf_88 (fun h16 => ?_) (fun h16 => ?_)
          · rw [if_pos h16] at hf
            refine g_iconst (0 : Int32) (by decide) dX8_positiveOf_125 ?_
            exact g_zret B.2.2.2 B.2.2.1 (by decide) (congrArg (fun z => some (Value.int z)) (Prod.mk.inj (Option.some.inj hf)).1.symm) (Prod.mk.inj (Option.some.inj hf)).2.symm dX8_positiveOf_126
          · rw [if_neg h16] at hf
            refine g_goto 121 (by decide) dX8_positiveOf_91 ?_
            refine g_iconst (1 : Int32) (by decide) dX8_positiveOf_121 ?_
            refine g_goto 126 (by decide) dX8_positiveOf_122 ?_
            exact g_zret B.2.2.2 B.2.2.1 (by decide) (congrArg (fun z => some (Value.int z)) (Prod.mk.inj (Option.some.inj hf)).1.symm) (Prod.mk.inj (Option.some.inj hf)).2.symm dX8_positiveOf_126
  · rw [if_neg h3] at hf
    refine g_aload_n rfl 0 rfl dX8_positiveOf_12 ?_
    refine g_iload_n rfl 1 rfl dX8_positiveOf_13 ?_
    obtain ⟨q17, h18, hf⟩ := bnd_some hf
    refine g_callV0i (As := [.int p1]) (rest := []) cok8 mok_X8_testOf tw6_111 tw6_113 ts7_9 oS38 B.1 (by omega) (hrc.1 h18) rfl rfl (Nat.le_of_ble_eq_true rfl) ⟨Nat.le_refl _, Nat.le_refl _⟩ dX8_positiveOf_14 ?_
    refine g_istore_n rfl [(2, .int q17.1), (0, .ref (eB E + 38)), (1, .int p1)] (by decide) rfl dX8_positiveOf_17 ?_
    refine g_aload_n rfl 1 rfl dX8_positiveOf_18 ?_
    refine g_dup rfl dX8_positiveOf_19 ?_
    refine g_get (j := 22) cok8 (by decide) (.int (sI q17.2 38 22)) (Or.inl tw4_197) oS38 (fun _ => rfl) dX8_positiveOf_20 ?_
    refine g_iconst (1 : Int32) (by decide) dX8_positiveOf_23 ?_
    refine g_iadd dX8_positiveOf_24 ?_
    refine g_putI (j := 22) cok8 (by decide) rfl rfl rfl rfl (Or.inl tw4_197) oS38 B.2.1 wpI dX8_positiveOf_25 ?_
    refine g_iload_n rfl 0 rfl dX8_positiveOf_28 ?_
    obtain ⟨h19, hf⟩ := chk_some hf
    exact g_zret B.2.2.2 B.2.2.1 (isb_or h19) (congrArg (fun z => some (Value.int z)) (Prod.mk.inj (Option.some.inj hf)).1.symm) (Prod.mk.inj (Option.some.inj hf)).2.symm dX8_positiveOf_29
def LG2 : Nat → TG2
  | 0 => (fun _ _ => none, fun _ _ => none, fun _ _ => none, fun _ _ => none)
  | d + 1 => (fX8_testOf_g (LG2 d), fX8_bothOf_g (LG2 d), fX8_plainOf_g (LG2 d), fX8_positiveOf_g (LG2 d))
theorem okLG2 (l : Launch) (E : Ev) : ∀ d, RcOK2 l E (LG2 d) d := by
  intro d
  induction d with
  | zero => exact ⟨(fun h => nomatch h), (fun h => nomatch h), (fun h => nomatch h), (fun h => nomatch h)⟩
  | succ d ih => exact ⟨fun {st} {p1} {r0} {u0} hf => CM.intro mok_X8_testOf (Nat.le_of_ble_eq_true rfl) (fun x hl hR ht hr hQ _ => by subst hl; exact wX8_testOf ih ⟨hR, ht, hr, hQ⟩ p1 st hf),
    fun {st} {p1} {r0} {u0} hf => CM.intro mok_X8_bothOf (Nat.le_of_ble_eq_true rfl) (fun x hl hR ht hr hQ _ => by subst hl; exact wX8_bothOf ih ⟨hR, ht, hr, hQ⟩ p1 st hf),
    fun {st} {p1} {r0} {u0} hf => CM.intro mok_X8_plainOf (Nat.le_of_ble_eq_true rfl) (fun x hl hR ht hr hQ _ => by subst hl; exact wX8_plainOf ih ⟨hR, ht, hr, hQ⟩ p1 st hf),
    fun {st} {p1} {r0} {u0} hf => CM.intro mok_X8_positiveOf (Nat.le_of_ble_eq_true rfl) (fun x hl hR ht hr hQ _ => by subst hl; exact wX8_positiveOf ih ⟨hR, ht, hr, hQ⟩ p1 st hf)⟩
def fX8_testOf (p1 : Int32) (st : St) : Option (Int32 × St) := (LG2 100).1 p1 st
theorem kX8_testOf {l : Launch} {E : Ev} {st : St} {p1 : Int32} {r0 : Int32} {u0 : St} (hf : fX8_testOf p1 st = some (r0, u0)) : CM l E WT yX8_testOf cX8_testOf 4 (some FieldType.boolean) 205 0 0 [.ref (eB E + 38), .int p1] st (some (.int r0)) u0 := (okLG2 l E 100).1 hf
def fX8_bothOf (p1 : Int32) (st : St) : Option (Int32 × St) := (LG2 100).2.1 p1 st
theorem kX8_bothOf {l : Launch} {E : Ev} {st : St} {p1 : Int32} {r0 : Int32} {u0 : St} (hf : fX8_bothOf p1 st = some (r0, u0)) : CM l E WT yX8_bothOf cX8_bothOf 4 (some FieldType.boolean) 205 0 0 [.ref (eB E + 38), .int p1] st (some (.int r0)) u0 := (okLG2 l E 100).2.1 hf
def fX8_plainOf (p1 : Int32) (st : St) : Option (Int32 × St) := (LG2 100).2.2.1 p1 st
theorem kX8_plainOf {l : Launch} {E : Ev} {st : St} {p1 : Int32} {r0 : Int32} {u0 : St} (hf : fX8_plainOf p1 st = some (r0, u0)) : CM l E WT yX8_plainOf cX8_plainOf 3 (some FieldType.boolean) 205 0 0 [.ref (eB E + 38), .int p1] st (some (.int r0)) u0 := (okLG2 l E 100).2.2.1 hf
def fX8_positiveOf (p1 : Int32) (st : St) : Option (Int32 × St) := (LG2 100).2.2.2 p1 st
theorem kX8_positiveOf {l : Launch} {E : Ev} {st : St} {p1 : Int32} {r0 : Int32} {u0 : St} (hf : fX8_positiveOf p1 st = some (r0, u0)) : CM l E WT yX8_positiveOf cX8_positiveOf 7 (some FieldType.boolean) 205 0 0 [.ref (eB E + 38), .int p1] st (some (.int r0)) u0 := (okLG2 l E 100).2.2.2 hf
def fX8_setsAsked (p1 : Int32) (p2 : Int32) (p3 : Int32) (p4 : Int32) (st : St) : Option St :=
  chk (ixb ((3 : Int32) + p2) 5627) (some (pI (pI (pI (pI (pI (pI (pI st 50 0 p2) 50 1 p1) 50 2 p3) 50 3 (sI (pI (pI (pI st 50 0 p2) 50 1 p1) 50 2 p3) 40 15)) 50 4 (sI (pI (pI (pI (pI st 50 0 p2) 50 1 p1) 50 2 p3) 50 3 (sI (pI (pI (pI st 50 0 p2) 50 1 p1) 50 2 p3) 40 15)) 40 (((3 : Int32) + p2).toNatClampNeg))) 50 5 p4) 50 6 (sI (pI (pI (pI (pI (pI (pI st 50 0 p2) 50 1 p1) 50 2 p3) 50 3 (sI (pI (pI (pI st 50 0 p2) 50 1 p1) 50 2 p3) 40 15)) 50 4 (sI (pI (pI (pI (pI st 50 0 p2) 50 1 p1) 50 2 p3) 50 3 (sI (pI (pI (pI st 50 0 p2) 50 1 p1) 50 2 p3) 40 15)) 40 (((3 : Int32) + p2).toNatClampNeg))) 50 5 p4) 40 2)))
set_option maxHeartbeats 1000000 in
set_option maxRecDepth 20000 in
theorem wX8_setsAsked {E : Ev} {x : Cx} {u0 : St} (B : Bd E x none (0) 0 0 none u0) (p1 : Int32) (p2 : Int32) (p3 : Int32) (p4 : Int32) (st : St)  (hf : fX8_setsAsked p1 p2 p3 p4 st = some u0) : G E WT x RX8 cX8_setsAsked 5 (0, 0) st 0 [(0, .ref (eB E + 38)), (1, .int p1), (2, .int p2), (3, .int p3), (4, .int p4)] [] := by
  unfold fX8_setsAsked at hf
  refine g_aload_n rfl 0 rfl dX8_setsAsked_0 ?_
  refine g_get (j := 26) cok8 (by decide) (.ref (eB E + 50)) (Or.inl tw4_201) oS38 vS38_26 dX8_setsAsked_1 ?_
  refine g_iconst (0 : Int32) (by decide) dX8_setsAsked_4 ?_
  refine g_iload_n rfl 2 rfl dX8_setsAsked_5 ?_
  refine g_iastj 0 rfl aS50 (ixb_in rfl) B.2.1 wpI dX8_setsAsked_6 ?_
  refine g_aload_n rfl 0 rfl dX8_setsAsked_7 ?_
  refine g_get (j := 26) cok8 (by decide) (.ref (eB E + 50)) (Or.inl tw4_201) oS38 vS38_26 dX8_setsAsked_8 ?_
  refine g_iconst (1 : Int32) (by decide) dX8_setsAsked_11 ?_
  refine g_iload_n rfl 1 rfl dX8_setsAsked_12 ?_
  refine g_iastj 1 rfl aS50 (ixb_in rfl) B.2.1 wpI dX8_setsAsked_13 ?_
  refine g_aload_n rfl 0 rfl dX8_setsAsked_14 ?_
  refine g_get (j := 26) cok8 (by decide) (.ref (eB E + 50)) (Or.inl tw4_201) oS38 vS38_26 dX8_setsAsked_15 ?_
  refine g_iconst (2 : Int32) (by decide) dX8_setsAsked_18 ?_
  refine g_iload_n rfl 3 rfl dX8_setsAsked_19 ?_
  refine g_iastj 2 rfl aS50 (ixb_in rfl) B.2.1 wpI dX8_setsAsked_20 ?_
  refine g_aload_n rfl 0 rfl dX8_setsAsked_21 ?_
  refine g_get (j := 26) cok8 (by decide) (.ref (eB E + 50)) (Or.inl tw4_201) oS38 vS38_26 dX8_setsAsked_22 ?_
  refine g_iconst (3 : Int32) (by decide) dX8_setsAsked_25 ?_
  refine g_aload_n rfl 0 rfl dX8_setsAsked_26 ?_
  refine g_get (j := 2) cok8 (by decide) (.ref (eB E + 40)) (Or.inl tw4_177) oS38 vS38_2 dX8_setsAsked_27 ?_
  refine g_bipush (15 : Int32) (by decide) dX8_setsAsked_30 ?_
  refine g_ialdj 15 rfl aS40 (ixb_in rfl) dX8_setsAsked_32 ?_
  refine g_iastj 3 rfl aS50 (ixb_in rfl) B.2.1 wpI dX8_setsAsked_33 ?_
  refine g_aload_n rfl 0 rfl dX8_setsAsked_34 ?_
  refine g_get (j := 26) cok8 (by decide) (.ref (eB E + 50)) (Or.inl tw4_201) oS38 vS38_26 dX8_setsAsked_35 ?_
  refine g_iconst (4 : Int32) (by decide) dX8_setsAsked_38 ?_
  refine g_aload_n rfl 0 rfl dX8_setsAsked_39 ?_
  refine g_get (j := 2) cok8 (by decide) (.ref (eB E + 40)) (Or.inl tw4_177) oS38 vS38_2 dX8_setsAsked_40 ?_
  refine g_iconst (3 : Int32) (by decide) dX8_setsAsked_43 ?_
  refine g_iload_n rfl 2 rfl dX8_setsAsked_44 ?_
  refine g_iadd dX8_setsAsked_45 ?_
  obtain ⟨h1, hf⟩ := chk_some hf
  refine g_ialdj (((3 : Int32) + p2).toNatClampNeg) rfl aS40 (ixb_in h1) dX8_setsAsked_46 ?_
  refine g_iastj 4 rfl aS50 (ixb_in rfl) B.2.1 wpI dX8_setsAsked_47 ?_
  refine g_aload_n rfl 0 rfl dX8_setsAsked_48 ?_
  refine g_get (j := 26) cok8 (by decide) (.ref (eB E + 50)) (Or.inl tw4_201) oS38 vS38_26 dX8_setsAsked_49 ?_
  refine g_iconst (5 : Int32) (by decide) dX8_setsAsked_52 ?_
  refine g_iload 4 rfl dX8_setsAsked_53 ?_
  refine g_iastj 5 rfl aS50 (ixb_in rfl) B.2.1 wpI dX8_setsAsked_55 ?_
  refine g_aload_n rfl 0 rfl dX8_setsAsked_56 ?_
  refine g_get (j := 26) cok8 (by decide) (.ref (eB E + 50)) (Or.inl tw4_201) oS38 vS38_26 dX8_setsAsked_57 ?_
  refine g_bipush (6 : Int32) (by decide) dX8_setsAsked_60 ?_
  refine g_aload_n rfl 0 rfl dX8_setsAsked_62 ?_
  refine g_get (j := 2) cok8 (by decide) (.ref (eB E + 40)) (Or.inl tw4_177) oS38 vS38_2 dX8_setsAsked_63 ?_
  refine g_iconst (2 : Int32) (by decide) dX8_setsAsked_66 ?_
  refine g_ialdj 2 rfl aS40 (ixb_in rfl) dX8_setsAsked_67 ?_
  refine g_iastj 6 rfl aS50 (ixb_in rfl) B.2.1 wpI dX8_setsAsked_68 ?_
  exact g_ret B.2.2.2 B.2.2.1 rfl (Option.some.inj hf).symm dX8_setsAsked_69
theorem kX8_setsAsked {l : Launch} {E : Ev} {st : St} {p1 : Int32} {p2 : Int32} {p3 : Int32} {p4 : Int32} {u0 : St}  (hf : fX8_setsAsked p1 p2 p3 p4 st = some u0) : CM l E WT yX8_setsAsked cX8_setsAsked 5 none 0 0 0 [.ref (eB E + 38), .int p1, .int p2, .int p3, .int p4] st none u0 :=
  CM.intro mok_X8_setsAsked (Nat.le_of_ble_eq_true rfl) (fun x hl hR ht hr hQ _ => wX8_setsAsked ⟨hR, ht, hr, hQ⟩ p1 p2 p3 p4 st hf)
def fX8_tells_b213 (k73 : Int32 → Int64 → St → Option (Int32 × St))(l1 : Int32) (l7 : Int64) (st : St) : Option (Int32 × St) :=
  k73 l1 l7 (pI st 38 22 ((sI st 38 22) + (1 : Int32)))
set_option maxHeartbeats 1000000 in
set_option maxRecDepth 20000 in
theorem wX8_tells_b213 {E : Ev} {x : Cx} {r0 : Int32} {u0 : St} (B : Bd E x (some FieldType.int) (206) 0 0 (some (.int r0)) u0) {k73 : Int32 → Int64 → St → Option (Int32 × St)} (hk73 : ∀ (l1 : Int32) (l7 : Int64) (st : St), k73 l1 l7 st = some (r0, u0) → G E WT x RX8 cX8_tells 14 (0, 0) st 73 [(0, .ref (eB E + 38)), (1, .int l1), (7, .long l7)] []) (l1 : Int32) (l7 : Int64) (st : St)  (hf : fX8_tells_b213 k73 l1 l7 st = some (r0, u0)) : G E WT x RX8 cX8_tells 14 (0, 0) st 213 [(0, .ref (eB E + 38)), (1, .int l1), (7, .long l7)] [] := by
  unfold fX8_tells_b213 at hf
  refine g_aload_n rfl 0 rfl dX8_tells_213 ?_
  refine g_dup rfl dX8_tells_214 ?_
  refine g_get (j := 22) cok8 (by decide) (.int (sI st 38 22)) (Or.inl tw4_197) oS38 (fun _ => rfl) dX8_tells_215 ?_
  refine g_iconst (1 : Int32) (by decide) dX8_tells_218 ?_
  refine g_iadd dX8_tells_219 ?_
  refine g_putI (j := 22) cok8 (by decide) rfl rfl rfl rfl (Or.inl tw4_197) oS38 B.2.1 wpI dX8_tells_220 ?_
  refine g_goto 73 (by decide) dX8_tells_223 ?_
  refine g_lvs [0, 1, 2] rfl ?_
  exact hk73 l1 l7 (pI st 38 22 ((sI st 38 22) + (1 : Int32))) hf
def fX8_tells_b211 (k73 : Int32 → Int64 → St → Option (Int32 × St))(l1 : Int32) (s0 : Int64) (st : St) : Option (Int32 × St) :=
  fX8_tells_b213 k73 l1 s0 st
set_option maxHeartbeats 1000000 in
set_option maxRecDepth 20000 in
theorem wX8_tells_b211 {E : Ev} {x : Cx} {r0 : Int32} {u0 : St} (B : Bd E x (some FieldType.int) (206) 0 0 (some (.int r0)) u0) {k73 : Int32 → Int64 → St → Option (Int32 × St)} (hk73 : ∀ (l1 : Int32) (l7 : Int64) (st : St), k73 l1 l7 st = some (r0, u0) → G E WT x RX8 cX8_tells 14 (0, 0) st 73 [(0, .ref (eB E + 38)), (1, .int l1), (7, .long l7)] []) (l1 : Int32) (s0 : Int64) (st : St)  (hf : fX8_tells_b211 k73 l1 s0 st = some (r0, u0)) : G E WT x RX8 cX8_tells 14 (0, 0) st 211 [(0, .ref (eB E + 38)), (1, .int l1)] [.long s0] := by
  unfold fX8_tells_b211 at hf
  refine g_lstore [(7, .long s0), (0, .ref (eB E + 38)), (1, .int l1)] (by decide) rfl dX8_tells_211 ?_
  refine g_lvs [1, 2, 0] rfl ?_
  exact wX8_tells_b213 B hk73 l1 s0 st hf
def fX8_tells_b158 (k73 : Int32 → Int64 → St → Option (Int32 × St))(l1 : Int32) (l7 : Int64) (l9 : Int32) (l10 : Int64) (l12 : Int32) (s0 : Int32) (st : St) : Option (Int32 × St) :=
  if l9 = l1 then (if s0 = 0 then (fX8_tells_b213 k73 l1 l7 st) else (if (sI st 38 24) = 0 then (if l12 = 0 then (if 0 ≤ (lg_cmp l10 (1 : Int64)) then (if (lg_cmp l10 (15 : Int64)) ≤ 0 then (fX8_tells_b211 k73 l1 l10 st) else (fX8_tells_b211 k73 l1 (15 : Int64) st)) else (fX8_tells_b211 k73 l1 (1 : Int64) st)) else (fX8_tells_b213 k73 l1 l7 st)) else (fX8_tells_b213 k73 l1 l7 st))) else (fX8_tells_b213 k73 l1 l7 st)
set_option maxHeartbeats 1000000 in
set_option maxRecDepth 20000 in
theorem wX8_tells_b158 {E : Ev} {x : Cx} {r0 : Int32} {u0 : St} (B : Bd E x (some FieldType.int) (206) 0 0 (some (.int r0)) u0) {k73 : Int32 → Int64 → St → Option (Int32 × St)} (hk73 : ∀ (l1 : Int32) (l7 : Int64) (st : St), k73 l1 l7 st = some (r0, u0) → G E WT x RX8 cX8_tells 14 (0, 0) st 73 [(0, .ref (eB E + 38)), (1, .int l1), (7, .long l7)] []) (l1 : Int32) (l7 : Int64) (l9 : Int32) (l10 : Int64) (l12 : Int32) (s0 : Int32) (st : St)  (hf : fX8_tells_b158 k73 l1 l7 l9 l10 l12 s0 st = some (r0, u0)) : G E WT x RX8 cX8_tells 14 (0, 0) st 158 [(0, .ref (eB E + 38)), (1, .int l1), (7, .long l7), (9, .int l9), (10, .long l10), (12, .int l12)] [.int s0] := by
  unfold fX8_tells_b158 at hf
  refine g_istore [(13, .int s0), (0, .ref (eB E + 38)), (1, .int l1), (7, .long l7), (9, .int l9), (10, .long l10), (12, .int l12)] (by decide) rfl dX8_tells_158 ?_
  refine g_iload 4 rfl dX8_tells_160 ?_
  refine g_iload_n rfl 2 rfl dX8_tells_162 ?_
  refine g_icmp_ne 213 (by decide) dX8_tells_163 (fun h1 => ?_) (fun h1 => ?_)
  · rw [if_neg h1] at hf
    refine g_lvs [1, 2, 3] rfl ?_
    exact wX8_tells_b213 B hk73 l1 l7 st hf
  · rw [if_pos h1] at hf
    refine g_iload 0 rfl dX8_tells_166 ?_
    refine g_if_eq 213 (by decide) dX8_tells_168 (fun h2 => ?_) (fun h2 => ?_)
    · rw [if_pos h2] at hf
      refine g_lvs [1, 2, 3] rfl ?_
      exact wX8_tells_b213 B hk73 l1 l7 st hf
    · rw [if_neg h2] at hf
      refine g_aload_n rfl 1 rfl dX8_tells_171 ?_
      refine g_get (j := 24) cok8 (by decide) (.int (sI st 38 24)) (Or.inl tw4_199) oS38 (fun _ => rfl) dX8_tells_172 ?_
      refine g_if_ne 213 (by decide) dX8_tells_175 (fun h3 => ?_) (fun h3 => ?_)
      · rw [if_neg h3] at hf
        refine g_lvs [1, 2, 3] rfl ?_
        exact wX8_tells_b213 B hk73 l1 l7 st hf
      · rw [if_pos h3] at hf
        refine g_iload 6 rfl dX8_tells_178 ?_
        refine g_if_ne 213 (by decide) dX8_tells_180 (fun h4 => ?_) (fun h4 => ?_)
        · rw [if_neg h4] at hf
          refine g_lvs [1, 2, 3] rfl ?_
          exact wX8_tells_b213 B hk73 l1 l7 st hf
        · rw [if_pos h4] at hf
          refine g_lload 5 rfl dX8_tells_183 ?_
          refine g_lconst (1 : Int64) (by decide) dX8_tells_185 ?_
          refine g_lcmp dX8_tells_186 ?_
          refine g_if_ge 194 (by decide) dX8_tells_187 (fun h5 => ?_) (fun h5 => ?_)
          · rw [if_pos h5] at hf
            refine g_lload 5 rfl dX8_tells_194 ?_
            refine g_ldc2 tw6_127 dX8_tells_196 ?_
            refine g_lcmp dX8_tells_199 ?_
            refine g_if_le 209 (by decide) dX8_tells_200 (fun h6 => ?_) (fun h6 => ?_)
            · rw [if_pos h6] at hf
              refine g_lload 5 rfl dX8_tells_209 ?_
              refine g_lvs [1, 2] rfl ?_
              exact wX8_tells_b211 B hk73 l1 l10 st hf
            · rw [if_neg h6] at hf
              refine g_ldc2 tw6_127 dX8_tells_203 ?_
              refine g_goto 211 (by decide) dX8_tells_206 ?_
              refine g_lvs [1, 2] rfl ?_
              exact wX8_tells_b211 B hk73 l1 (15 : Int64) st hf
          · rw [if_neg h5] at hf
            refine g_lconst (1 : Int64) (by decide) dX8_tells_190 ?_
            refine g_goto 211 (by decide) dX8_tells_191 ?_
            refine g_lvs [1, 2] rfl ?_
            exact wX8_tells_b211 B hk73 l1 (1 : Int64) st hf
def fX8_tells_b153 (k73 : Int32 → Int64 → St → Option (Int32 × St))(l1 : Int32) (l7 : Int64) (l9 : Int32) (l10 : Int64) (l12 : Int32) (st : St) : Option (Int32 × St) :=
  fX8_tells_b158 k73 l1 l7 l9 l10 l12 (1 : Int32) st
set_option maxHeartbeats 1000000 in
set_option maxRecDepth 20000 in
theorem wX8_tells_b153 {E : Ev} {x : Cx} {r0 : Int32} {u0 : St} (B : Bd E x (some FieldType.int) (206) 0 0 (some (.int r0)) u0) {k73 : Int32 → Int64 → St → Option (Int32 × St)} (hk73 : ∀ (l1 : Int32) (l7 : Int64) (st : St), k73 l1 l7 st = some (r0, u0) → G E WT x RX8 cX8_tells 14 (0, 0) st 73 [(0, .ref (eB E + 38)), (1, .int l1), (7, .long l7)] []) (l1 : Int32) (l7 : Int64) (l9 : Int32) (l10 : Int64) (l12 : Int32) (st : St)  (hf : fX8_tells_b153 k73 l1 l7 l9 l10 l12 st = some (r0, u0)) : G E WT x RX8 cX8_tells 14 (0, 0) st 153 [(0, .ref (eB E + 38)), (1, .int l1), (7, .long l7), (9, .int l9), (10, .long l10), (12, .int l12)] [] := by
  unfold fX8_tells_b153 at hf
  refine g_iconst (1 : Int32) (by decide) dX8_tells_153 ?_
  refine g_goto 158 (by decide) dX8_tells_154 ?_
  refine g_lvs [0, 1, 2, 3, 4, 5] rfl ?_
  exact wX8_tells_b158 B hk73 l1 l7 l9 l10 l12 (1 : Int32) st hf
def fX8_tells_b124 (k73 : Int32 → Int64 → St → Option (Int32 × St))(l1 : Int32) (l7 : Int64) (l9 : Int32) (s0 : Int64) (st : St) : Option (Int32 × St) :=
  (fX8_passes0 (5 : Int32) (pI st 38 24 (0 : Int32))).bind (fun q1 => if q1.1 = 0 then (fX8_tells_b153 k73 l1 l7 l9 s0 (sI st 38 24) q1.2) else ((fX8_testOf (1 : Int32) q1.2).bind (fun q4 => if q4.1 = 0 then (fX8_tells_b158 k73 l1 l7 l9 s0 (sI st 38 24) (0 : Int32) q4.2) else (fX8_tells_b153 k73 l1 l7 l9 s0 (sI st 38 24) q4.2))))
set_option maxHeartbeats 1000000 in
set_option maxRecDepth 20000 in
theorem wX8_tells_b124 {E : Ev} {x : Cx} {r0 : Int32} {u0 : St} (B : Bd E x (some FieldType.int) (206) 0 0 (some (.int r0)) u0) {k73 : Int32 → Int64 → St → Option (Int32 × St)} (hk73 : ∀ (l1 : Int32) (l7 : Int64) (st : St), k73 l1 l7 st = some (r0, u0) → G E WT x RX8 cX8_tells 14 (0, 0) st 73 [(0, .ref (eB E + 38)), (1, .int l1), (7, .long l7)] []) (l1 : Int32) (l7 : Int64) (l9 : Int32) (s0 : Int64) (st : St)  (hf : fX8_tells_b124 k73 l1 l7 l9 s0 st = some (r0, u0)) : G E WT x RX8 cX8_tells 14 (0, 0) st 124 [(0, .ref (eB E + 38)), (1, .int l1), (7, .long l7), (9, .int l9)] [.long s0] := by
  unfold fX8_tells_b124 at hf
  refine g_lstore [(10, .long s0), (0, .ref (eB E + 38)), (1, .int l1), (7, .long l7), (9, .int l9)] (by decide) rfl dX8_tells_124 ?_
  refine g_aload_n rfl 1 rfl dX8_tells_126 ?_
  refine g_get (j := 24) cok8 (by decide) (.int (sI st 38 24)) (Or.inl tw4_199) oS38 (fun _ => rfl) dX8_tells_127 ?_
  refine g_istore [(12, .int (sI st 38 24)), (10, .long s0), (0, .ref (eB E + 38)), (1, .int l1), (7, .long l7), (9, .int l9)] (by decide) rfl dX8_tells_130 ?_
  refine g_aload_n rfl 2 rfl dX8_tells_132 ?_
  refine g_iconst (0 : Int32) (by decide) dX8_tells_133 ?_
  refine g_putI (j := 24) cok8 (by decide) rfl rfl (nb_n (by decide)) (nb_f (by decide)) (Or.inl tw4_199) oS38 B.2.1 wpI dX8_tells_134 ?_
  refine g_aload_n rfl 2 rfl dX8_tells_137 ?_
  refine g_iconst (5 : Int32) (by decide) dX8_tells_138 ?_
  obtain ⟨q1, h2, hf⟩ := bnd_some hf
  refine g_callV0i (As := [.int (5 : Int32)]) (rest := []) cok8 mok_X8_passes0 tw6_96 tw6_98 ts7_6 oS38 B.1 (by decide) (kX8_passes0  h2) rfl rfl (Nat.le_of_ble_eq_true rfl) ⟨Nat.le_refl _, Nat.le_refl _⟩ dX8_tells_139 ?_
  refine g_if_eq 153 (by decide) dX8_tells_142 (fun h3 => ?_) (fun h3 => ?_)
  · rw [if_pos h3] at hf
    refine g_lvs [2, 3, 4, 5, 1, 0] rfl ?_
    exact wX8_tells_b153 B hk73 l1 l7 l9 s0 (sI st 38 24) q1.2 hf
  · rw [if_neg h3] at hf
    refine g_aload_n rfl 2 rfl dX8_tells_145 ?_
    refine g_iconst (1 : Int32) (by decide) dX8_tells_146 ?_
    obtain ⟨q4, h5, hf⟩ := bnd_some hf
    refine g_callV0i (As := [.int (1 : Int32)]) (rest := []) cok8 mok_X8_testOf tw6_111 tw6_113 ts7_9 oS38 B.1 (by decide) (kX8_testOf  h5) rfl rfl (Nat.le_of_ble_eq_true rfl) ⟨Nat.le_refl _, Nat.le_refl _⟩ dX8_tells_147 ?_
    refine g_if_eq 157 (by decide) dX8_tells_150 (fun h6 => ?_) (fun h6 => ?_)
    · rw [if_pos h6] at hf
      refine g_iconst (0 : Int32) (by decide) dX8_tells_157 ?_
      refine g_lvs [2, 3, 4, 5, 1, 0] rfl ?_
      exact wX8_tells_b158 B hk73 l1 l7 l9 s0 (sI st 38 24) (0 : Int32) q4.2 hf
    · rw [if_neg h6] at hf
      refine g_lvs [2, 3, 4, 5, 1, 0] rfl ?_
      exact wX8_tells_b153 B hk73 l1 l7 l9 s0 (sI st 38 24) q4.2 hf
def fX8_tells_b73 : Nat → Int32 → Int64 → St → Option (Int32 × St)
  | 0, _, _, _ => none
  | n + 1, l1, l7, st => if (sI st 38 23) ≤ (sI st 38 22) then (some (l7.toInt32, st)) else ((fX8_codeAt st (sI st 38 22)).bind (fun q2 => if q2 = (1 : Int32) then ((fX8_sumOf (1 : Int32) (pI (pI st 38 24 (0 : Int32)) 38 22 ((sI (pI st 38 24 (0 : Int32)) 38 22) + (1 : Int32)))).bind (fun q5 => fX8_tells_b124 (fun zl1 zl7 zst => fX8_tells_b73 n zl1 zl7 zst) l1 l7 q2 q5.1 q5.2)) else (fX8_tells_b124 (fun zl1 zl7 zst => fX8_tells_b73 n zl1 zl7 zst) l1 l7 q2 (1 : Int64) (pI (pI st 38 24 (0 : Int32)) 38 22 ((sI (pI st 38 24 (0 : Int32)) 38 22) + (1 : Int32))))))
set_option maxHeartbeats 1000000 in
set_option maxRecDepth 20000 in
theorem wX8_tells_b73 {E : Ev} {x : Cx} {r0 : Int32} {u0 : St} (B : Bd E x (some FieldType.int) (206) 0 0 (some (.int r0)) u0) : ∀ (n : Nat) (l1 : Int32) (l7 : Int64) (st : St) , fX8_tells_b73 n l1 l7 st = some (r0, u0) → G E WT x RX8 cX8_tells 14 (0, 0) st 73 [(0, .ref (eB E + 38)), (1, .int l1), (7, .long l7)] [] := by
  intro n
  induction n with
  | zero =>
    intros
    rename_i hf
    rw [fX8_tells_b73] at hf
    cases hf
  | succ n ih =>
    intro l1 l7 st hf
    rw [fX8_tells_b73] at hf
    refine g_aload_n rfl 0 rfl dX8_tells_73 ?_
    refine g_get (j := 22) cok8 (by decide) (.int (sI st 38 22)) (Or.inl tw4_197) oS38 (fun _ => rfl) dX8_tells_74 ?_
    refine g_aload_n rfl 0 rfl dX8_tells_77 ?_
    refine g_get (j := 23) cok8 (by decide) (.int (sI st 38 23)) (Or.inl tw4_198) oS38 (fun _ => rfl) dX8_tells_78 ?_
    refine g_icmp_ge 226 (by decide) dX8_tells_81 (fun h1 => ?_) (fun h1 => ?_)
    · rw [if_pos h1] at hf
      refine g_lload 2 rfl dX8_tells_226 ?_
      refine g_l2i dX8_tells_228 ?_
      exact g_iret B.2.2.2 B.2.2.1 (congrArg (fun z => some (Value.int z)) (Prod.mk.inj (Option.some.inj hf)).1.symm) (Prod.mk.inj (Option.some.inj hf)).2.symm dX8_tells_229
    · rw [if_neg h1] at hf
      refine g_aload_n rfl 0 rfl dX8_tells_84 ?_
      refine g_aload_n rfl 0 rfl dX8_tells_85 ?_
      refine g_get (j := 22) cok8 (by decide) (.int (sI st 38 22)) (Or.inl tw4_197) oS38 (fun _ => rfl) dX8_tells_86 ?_
      obtain ⟨q2, h3, hf⟩ := bnd_some hf
      refine g_callV0i (As := [.int (sI st 38 22)]) (rest := []) cok8 mok_X8_codeAt tw6_80 tw6_82 ts7_2 oS38 B.1 (by decide) (kX8_codeAt  h3) rfl rfl (Nat.le_of_ble_eq_true rfl) ⟨Nat.le_refl _, Nat.le_refl _⟩ dX8_tells_89 ?_
      refine g_istore [(9, .int q2), (0, .ref (eB E + 38)), (1, .int l1), (7, .long l7)] (by decide) rfl dX8_tells_92 ?_
      refine g_aload_n rfl 1 rfl dX8_tells_94 ?_
      refine g_iconst (0 : Int32) (by decide) dX8_tells_95 ?_
      refine g_putI (j := 24) cok8 (by decide) rfl rfl (nb_n (by decide)) (nb_f (by decide)) (Or.inl tw4_199) oS38 B.2.1 wpI dX8_tells_96 ?_
      refine g_aload_n rfl 1 rfl dX8_tells_99 ?_
      refine g_dup rfl dX8_tells_100 ?_
      refine g_get (j := 22) cok8 (by decide) (.int (sI (pI st 38 24 (0 : Int32)) 38 22)) (Or.inl tw4_197) oS38 (fun _ => rfl) dX8_tells_101 ?_
      refine g_iconst (1 : Int32) (by decide) dX8_tells_104 ?_
      refine g_iadd dX8_tells_105 ?_
      refine g_putI (j := 22) cok8 (by decide) rfl rfl rfl rfl (Or.inl tw4_197) oS38 B.2.1 wpI dX8_tells_106 ?_
      refine g_iload 0 rfl dX8_tells_109 ?_
      refine g_iconst (1 : Int32) (by decide) dX8_tells_111 ?_
      refine g_icmp_ne 123 (by decide) dX8_tells_112 (fun h4 => ?_) (fun h4 => ?_)
      · rw [if_neg h4] at hf
        refine g_lconst (1 : Int64) (by decide) dX8_tells_123 ?_
        refine g_lvs [1, 2, 3, 0] rfl ?_
        exact wX8_tells_b124 B ih l1 l7 q2 (1 : Int64) (pI (pI st 38 24 (0 : Int32)) 38 22 ((sI (pI st 38 24 (0 : Int32)) 38 22) + (1 : Int32))) hf
      · rw [if_pos h4] at hf
        refine g_aload_n rfl 1 rfl dX8_tells_115 ?_
        refine g_iconst (1 : Int32) (by decide) dX8_tells_116 ?_
        obtain ⟨q5, h6, hf⟩ := bnd_some hf
        refine g_callV0l (As := [.int (1 : Int32)]) (rest := []) cok8 mok_X8_sumOf tw6_84 tw6_86 ts7_3 oS38 B.1 (by decide) (kX8_sumOf  h6) rfl rfl (Nat.le_of_ble_eq_true rfl) ⟨Nat.le_refl _, Nat.le_refl _⟩ dX8_tells_117 ?_
        refine g_goto 124 (by decide) dX8_tells_120 ?_
        refine g_lvs [1, 2, 3, 0] rfl ?_
        exact wX8_tells_b124 B ih l1 l7 q2 q5.1 q5.2 hf
def fX8_tells (p1 : Int32) (p2 : Int32) (p3 : Int32) (p4 : Int32) (p5 : Int32) (p6 : Int32) (st : St) : Option (Int32 × St) :=
  if (sI st 40 19) = (-1 : Int32) then (some (p6, st)) else ((fX8_setsAsked p2 p3 p4 p5 st).bind (fun q2 => chk (ixb ((20 : Int32) + (sI (pI (pI q2 38 25 (0 : Int32)) 38 22 ((400 : Int32) * (sI (pI q2 38 25 (0 : Int32)) 40 19))) 40 19)) 5627) (fX8_tells_b73 FU p1 p6.toInt64 (pI (pI (pI q2 38 25 (0 : Int32)) 38 22 ((400 : Int32) * (sI (pI q2 38 25 (0 : Int32)) 40 19))) 38 23 ((sI (pI (pI q2 38 25 (0 : Int32)) 38 22 ((400 : Int32) * (sI (pI q2 38 25 (0 : Int32)) 40 19))) 38 22) + (sI (pI (pI q2 38 25 (0 : Int32)) 38 22 ((400 : Int32) * (sI (pI q2 38 25 (0 : Int32)) 40 19))) 40 (((20 : Int32) + (sI (pI (pI q2 38 25 (0 : Int32)) 38 22 ((400 : Int32) * (sI (pI q2 38 25 (0 : Int32)) 40 19))) 40 19)).toNatClampNeg)))))))
set_option maxHeartbeats 1000000 in
set_option maxRecDepth 20000 in
theorem wX8_tells {E : Ev} {x : Cx} {r0 : Int32} {u0 : St} (B : Bd E x (some FieldType.int) (206) 0 0 (some (.int r0)) u0) (p1 : Int32) (p2 : Int32) (p3 : Int32) (p4 : Int32) (p5 : Int32) (p6 : Int32) (st : St)  (hf : fX8_tells p1 p2 p3 p4 p5 p6 st = some (r0, u0)) : G E WT x RX8 cX8_tells 14 (0, 0) st 0 [(0, .ref (eB E + 38)), (1, .int p1), (2, .int p2), (3, .int p3), (4, .int p4), (5, .int p5), (6, .int p6)] [] := by
  unfold fX8_tells at hf
  refine g_aload_n rfl 0 rfl dX8_tells_0 ?_
  refine g_get (j := 2) cok8 (by decide) (.ref (eB E + 40)) (Or.inl tw4_177) oS38 vS38_2 dX8_tells_1 ?_
  refine g_bipush (19 : Int32) (by decide) dX8_tells_4 ?_
  refine g_ialdj 19 rfl aS40 (ixb_in rfl) dX8_tells_6 ?_
  refine g_iconst (-1 : Int32) (by decide) dX8_tells_7 ?_
  refine g_icmp_ne 14 (by decide) dX8_tells_8 (fun h1 => ?_) (fun h1 => ?_)
  · rw [if_neg h1] at hf
    refine g_aload_n rfl 0 rfl dX8_tells_14 ?_
    refine g_iload_n rfl 2 rfl dX8_tells_15 ?_
    refine g_iload_n rfl 3 rfl dX8_tells_16 ?_
    refine g_iload 4 rfl dX8_tells_17 ?_
    refine g_iload 5 rfl dX8_tells_19 ?_
    obtain ⟨q2, h3, hf⟩ := bnd_some hf
    refine g_callV0v (As := [.int p2, .int p3, .int p4, .int p5]) (rest := []) cok8 mok_X8_setsAsked tw6_76 tw6_78 ts7_1 oS38 B.1 (by decide) (kX8_setsAsked  h3) rfl rfl (Nat.le_of_ble_eq_true rfl) ⟨Nat.le_refl _, Nat.le_refl _⟩ dX8_tells_21 ?_
    refine g_aload_n rfl 0 rfl dX8_tells_24 ?_
    refine g_iconst (0 : Int32) (by decide) dX8_tells_25 ?_
    refine g_putI (j := 25) cok8 (by decide) rfl rfl (nb_n (by decide)) (nb_f (by decide)) (Or.inl tw4_200) oS38 B.2.1 wpI dX8_tells_26 ?_
    refine g_iload 6 rfl dX8_tells_29 ?_
    refine g_i2l dX8_tells_31 ?_
    refine g_lstore [(7, .long p6.toInt64), (0, .ref (eB E + 38)), (1, .int p1), (2, .int p2), (3, .int p3), (4, .int p4), (5, .int p5), (6, .int p6)] (by decide) rfl dX8_tells_32 ?_
    refine g_aload_n rfl 1 rfl dX8_tells_34 ?_
    refine g_sipush (400 : Int32) (by decide) dX8_tells_35 ?_
    refine g_aload_n rfl 1 rfl dX8_tells_38 ?_
    refine g_get (j := 2) cok8 (by decide) (.ref (eB E + 40)) (Or.inl tw4_177) oS38 vS38_2 dX8_tells_39 ?_
    refine g_bipush (19 : Int32) (by decide) dX8_tells_42 ?_
    refine g_ialdj 19 rfl aS40 (ixb_in rfl) dX8_tells_44 ?_
    refine g_imul dX8_tells_45 ?_
    refine g_putI (j := 22) cok8 (by decide) rfl rfl rfl rfl (Or.inl tw4_197) oS38 B.2.1 wpI dX8_tells_46 ?_
    refine g_aload_n rfl 1 rfl dX8_tells_49 ?_
    refine g_aload_n rfl 1 rfl dX8_tells_50 ?_
    refine g_get (j := 22) cok8 (by decide) (.int (sI (pI (pI q2 38 25 (0 : Int32)) 38 22 ((400 : Int32) * (sI (pI q2 38 25 (0 : Int32)) 40 19))) 38 22)) (Or.inl tw4_197) oS38 (fun _ => rfl) dX8_tells_51 ?_
    refine g_aload_n rfl 1 rfl dX8_tells_54 ?_
    refine g_get (j := 2) cok8 (by decide) (.ref (eB E + 40)) (Or.inl tw4_177) oS38 vS38_2 dX8_tells_55 ?_
    refine g_bipush (20 : Int32) (by decide) dX8_tells_58 ?_
    refine g_aload_n rfl 1 rfl dX8_tells_60 ?_
    refine g_get (j := 2) cok8 (by decide) (.ref (eB E + 40)) (Or.inl tw4_177) oS38 vS38_2 dX8_tells_61 ?_
    refine g_bipush (19 : Int32) (by decide) dX8_tells_64 ?_
    refine g_ialdj 19 rfl aS40 (ixb_in rfl) dX8_tells_66 ?_
    refine g_iadd dX8_tells_67 ?_
    obtain ⟨h4, hf⟩ := chk_some hf
    refine g_ialdj (((20 : Int32) + (sI (pI (pI q2 38 25 (0 : Int32)) 38 22 ((400 : Int32) * (sI (pI q2 38 25 (0 : Int32)) 40 19))) 40 19)).toNatClampNeg) rfl aS40 (ixb_in h4) dX8_tells_68 ?_
    refine g_iadd dX8_tells_69 ?_
    refine g_putI (j := 23) cok8 (by decide) rfl rfl rfl rfl (Or.inl tw4_198) oS38 B.2.1 wpI dX8_tells_70 ?_
    refine g_lvs [1, 2, 0] rfl ?_
    exact wX8_tells_b73 B  FU p1 p6.toInt64 (pI (pI (pI q2 38 25 (0 : Int32)) 38 22 ((400 : Int32) * (sI (pI q2 38 25 (0 : Int32)) 40 19))) 38 23 ((sI (pI (pI q2 38 25 (0 : Int32)) 38 22 ((400 : Int32) * (sI (pI q2 38 25 (0 : Int32)) 40 19))) 38 22) + (sI (pI (pI q2 38 25 (0 : Int32)) 38 22 ((400 : Int32) * (sI (pI q2 38 25 (0 : Int32)) 40 19))) 40 (((20 : Int32) + (sI (pI (pI q2 38 25 (0 : Int32)) 38 22 ((400 : Int32) * (sI (pI q2 38 25 (0 : Int32)) 40 19))) 40 19)).toNatClampNeg)))) hf
  · rw [if_pos h1] at hf
    refine g_iload 6 rfl dX8_tells_11 ?_
    exact g_iret B.2.2.2 B.2.2.1 (congrArg (fun z => some (Value.int z)) (Prod.mk.inj (Option.some.inj hf)).1.symm) (Prod.mk.inj (Option.some.inj hf)).2.symm dX8_tells_13
theorem kX8_tells {l : Launch} {E : Ev} {st : St} {p1 : Int32} {p2 : Int32} {p3 : Int32} {p4 : Int32} {p5 : Int32} {p6 : Int32} {r0 : Int32} {u0 : St}  (hf : fX8_tells p1 p2 p3 p4 p5 p6 st = some (r0, u0)) : CM l E WT yX8_tells cX8_tells 14 (some FieldType.int) 206 0 0 [.ref (eB E + 38), .int p1, .int p2, .int p3, .int p4, .int p5, .int p6] st (some (.int r0)) u0 :=
  CM.intro mok_X8_tells (Nat.le_of_ble_eq_true rfl) (fun x hl hR ht hr hQ _ => wX8_tells ⟨hR, ht, hr, hQ⟩ p1 p2 p3 p4 p5 p6 st hf)
def fX8_beatsOf (p1 : Int32) (p2 : Int32) (p3 : Int32) (st : St) : Option (Int32 × St) :=
  chk (ixb ((9 : Int32) + p1) 5627) (fX8_tells (1 : Int32) p1 p2 (0 : Int32) p3 (sI st 40 (((9 : Int32) + p1).toNatClampNeg)) st)
set_option maxHeartbeats 1000000 in
set_option maxRecDepth 20000 in
theorem wX8_beatsOf {E : Ev} {x : Cx} {r0 : Int32} {u0 : St} (B : Bd E x (some FieldType.int) (207) 0 0 (some (.int r0)) u0) (p1 : Int32) (p2 : Int32) (p3 : Int32) (st : St)  (hf : fX8_beatsOf p1 p2 p3 st = some (r0, u0)) : G E WT x RX8 cX8_beatsOf 4 (0, 0) st 0 [(0, .ref (eB E + 38)), (1, .int p1), (2, .int p2), (3, .int p3)] [] := by
  unfold fX8_beatsOf at hf
  refine g_aload_n rfl 0 rfl dX8_beatsOf_0 ?_
  refine g_iconst (1 : Int32) (by decide) dX8_beatsOf_1 ?_
  refine g_iload_n rfl 1 rfl dX8_beatsOf_2 ?_
  refine g_iload_n rfl 2 rfl dX8_beatsOf_3 ?_
  refine g_iconst (0 : Int32) (by decide) dX8_beatsOf_4 ?_
  refine g_iload_n rfl 3 rfl dX8_beatsOf_5 ?_
  refine g_aload_n rfl 0 rfl dX8_beatsOf_6 ?_
  refine g_get (j := 2) cok8 (by decide) (.ref (eB E + 40)) (Or.inl tw4_177) oS38 vS38_2 dX8_beatsOf_7 ?_
  refine g_bipush (9 : Int32) (by decide) dX8_beatsOf_10 ?_
  refine g_iload_n rfl 1 rfl dX8_beatsOf_12 ?_
  refine g_iadd dX8_beatsOf_13 ?_
  obtain ⟨h1, hf⟩ := chk_some hf
  refine g_ialdj (((9 : Int32) + p1).toNatClampNeg) rfl aS40 (ixb_in h1) dX8_beatsOf_14 ?_
  refine g_callV0i (As := [.int (1 : Int32), .int p1, .int p2, .int (0 : Int32), .int p3, .int (sI st 40 (((9 : Int32) + p1).toNatClampNeg))]) (rest := []) cok8 mok_X8_tells tw6_72 tw6_74 ts7_0 oS38 B.1 (by decide) (kX8_tells  hf) rfl rfl (Nat.le_of_ble_eq_true rfl) ⟨Nat.le_refl _, Nat.le_refl _⟩ dX8_beatsOf_15 ?_
  exact g_iret B.2.2.2 B.2.2.1 rfl rfl dX8_beatsOf_18
theorem kX8_beatsOf {l : Launch} {E : Ev} {st : St} {p1 : Int32} {p2 : Int32} {p3 : Int32} {r0 : Int32} {u0 : St}  (hf : fX8_beatsOf p1 p2 p3 st = some (r0, u0)) : CM l E WT yX8_beatsOf cX8_beatsOf 4 (some FieldType.int) 207 0 0 [.ref (eB E + 38), .int p1, .int p2, .int p3] st (some (.int r0)) u0 :=
  CM.intro mok_X8_beatsOf (Nat.le_of_ble_eq_true rfl) (fun x hl hR ht hr hQ _ => wX8_beatsOf ⟨hR, ht, hr, hQ⟩ p1 p2 p3 st hf)
def fX8_isSo (p1 : Int32) (p2 : Int32) (p3 : Int32) (p4 : Int32) (p5 : Int32) (st : St) : Option (Int32 × St) :=
  (fX8_tells p1 p2 p3 p4 p5 (0 : Int32) st).bind (fun q1 => if q1.1 = (1 : Int32) then (some ((1 : Int32), q1.2)) else (some ((0 : Int32), q1.2)))
set_option maxHeartbeats 1000000 in
set_option maxRecDepth 20000 in
theorem wX8_isSo {E : Ev} {x : Cx} {r0 : Int32} {u0 : St} (B : Bd E x (some FieldType.boolean) (207) 0 0 (some (.int r0)) u0) (p1 : Int32) (p2 : Int32) (p3 : Int32) (p4 : Int32) (p5 : Int32) (st : St)  (hf : fX8_isSo p1 p2 p3 p4 p5 st = some (r0, u0)) : G E WT x RX8 cX8_isSo 6 (0, 0) st 0 [(0, .ref (eB E + 38)), (1, .int p1), (2, .int p2), (3, .int p3), (4, .int p4), (5, .int p5)] [] := by
  unfold fX8_isSo at hf
  refine g_aload_n rfl 0 rfl dX8_isSo_0 ?_
  refine g_iload_n rfl 1 rfl dX8_isSo_1 ?_
  refine g_iload_n rfl 2 rfl dX8_isSo_2 ?_
  refine g_iload_n rfl 3 rfl dX8_isSo_3 ?_
  refine g_iload 4 rfl dX8_isSo_4 ?_
  refine g_iload 5 rfl dX8_isSo_6 ?_
  refine g_iconst (0 : Int32) (by decide) dX8_isSo_8 ?_
  obtain ⟨q1, h2, hf⟩ := bnd_some hf
  refine g_callV0i (As := [.int p1, .int p2, .int p3, .int p4, .int p5, .int (0 : Int32)]) (rest := []) cok8 mok_X8_tells tw6_72 tw6_74 ts7_0 oS38 B.1 (by decide) (kX8_tells  h2) rfl rfl (Nat.le_of_ble_eq_true rfl) ⟨Nat.le_refl _, Nat.le_refl _⟩ dX8_isSo_9 ?_
  refine g_iconst (1 : Int32) (by decide) dX8_isSo_12 ?_
  refine g_icmp_ne 20 (by decide) dX8_isSo_13 (fun h3 => ?_) (fun h3 => ?_)
  · rw [if_neg h3] at hf
    refine g_iconst (0 : Int32) (by decide) dX8_isSo_20 ?_
    exact g_zret B.2.2.2 B.2.2.1 (by decide) (congrArg (fun z => some (Value.int z)) (Prod.mk.inj (Option.some.inj hf)).1.symm) (Prod.mk.inj (Option.some.inj hf)).2.symm dX8_isSo_21
  · rw [if_pos h3] at hf
    refine g_iconst (1 : Int32) (by decide) dX8_isSo_16 ?_
    refine g_goto 21 (by decide) dX8_isSo_17 ?_
    exact g_zret B.2.2.2 B.2.2.1 (by decide) (congrArg (fun z => some (Value.int z)) (Prod.mk.inj (Option.some.inj hf)).1.symm) (Prod.mk.inj (Option.some.inj hf)).2.symm dX8_isSo_21
theorem kX8_isSo {l : Launch} {E : Ev} {st : St} {p1 : Int32} {p2 : Int32} {p3 : Int32} {p4 : Int32} {p5 : Int32} {r0 : Int32} {u0 : St}  (hf : fX8_isSo p1 p2 p3 p4 p5 st = some (r0, u0)) : CM l E WT yX8_isSo cX8_isSo 6 (some FieldType.boolean) 207 0 0 [.ref (eB E + 38), .int p1, .int p2, .int p3, .int p4, .int p5] st (some (.int r0)) u0 :=
  CM.intro mok_X8_isSo (Nat.le_of_ble_eq_true rfl) (fun x hl hR ht hr hQ _ => wX8_isSo ⟨hR, ht, hr, hQ⟩ p1 p2 p3 p4 p5 st hf)
def fX8_asks (p1 : Int32) (p2 : Int32) (p3 : Int32) (p4 : Int32) (st : St) : Option (Int32 × St) :=
  if (fX8_isRhyme st p1) = 0 then (some ((-1 : Int32), st)) else (if (fX8_isChild st p2) = 0 then (some ((-1 : Int32), st)) else (if (fX8_lies p3 (0 : Int32) (15 : Int32)) = 0 then (some ((-1 : Int32), st)) else (if p4 = (0 : Int32) then ((fX8_inside st).bind (fun q5 => fX8_beatsOf p1 p2 q5 st)) else (if p4 = (1 : Int32) then ((fX8_inside st).bind (fun q8 => (fX8_isSo (2 : Int32) p1 p2 p3 q8 st).bind (fun q10 => if q10.1 = 0 then (some ((0 : Int32), q10.2)) else (some ((1 : Int32), q10.2))))) else (if p4 = (2 : Int32) then ((fX8_inside st).bind (fun q14 => (fX8_isSo (3 : Int32) p1 p2 p3 q14 st).bind (fun q16 => if q16.1 = 0 then (some ((0 : Int32), q16.2)) else (some ((1 : Int32), q16.2))))) else (if p4 = (3 : Int32) then ((fX8_inside st).bind (fun q20 => (fX8_isSo (4 : Int32) p1 p2 p3 q20 st).bind (fun q22 => if q22.1 = 0 then (some ((0 : Int32), q22.2)) else (some ((1 : Int32), q22.2))))) else (some ((-1 : Int32), st))))))))
set_option maxHeartbeats 1000000 in
set_option maxRecDepth 20000 in
theorem wX8_asks {E : Ev} {x : Cx} {r0 : Int32} {u0 : St} (B : Bd E x (some FieldType.int) (208) 0 0 (some (.int r0)) u0) (p1 : Int32) (p2 : Int32) (p3 : Int32) (p4 : Int32) (st : St)  (hf : fX8_asks p1 p2 p3 p4 st = some (r0, u0)) : G E WT x RX8 cX8_asks 5 (0, 0) st 0 [(0, .ref (eB E + 38)), (1, .int p1), (2, .int p2), (3, .int p3), (4, .int p4)] [] := by
  unfold fX8_asks at hf
  refine g_aload_n rfl 0 rfl dX8_asks_0 ?_
  refine g_iload_n rfl 1 rfl dX8_asks_1 ?_
  refine g_callV0i (As := [.int p1]) (rest := []) cok8 mok_X8_isRhyme tw5_161 tw5_163 ts5_8 oS38 B.1 (by decide) (kX8_isRhyme  rfl) rfl rfl (Nat.le_of_ble_eq_true rfl) ⟨Nat.le_refl _, Nat.le_refl _⟩ dX8_asks_2 ?_
  refine g_if_eq 26 (by decide) dX8_asks_5 (fun h1 => ?_) (fun h1 => ?_)
  · rw [if_pos h1] at hf
    refine g_iconst (-1 : Int32) (by decide) dX8_asks_26 ?_
    exact g_iret B.2.2.2 B.2.2.1 (congrArg (fun z => some (Value.int z)) (Prod.mk.inj (Option.some.inj hf)).1.symm) (Prod.mk.inj (Option.some.inj hf)).2.symm dX8_asks_27
  · rw [if_neg h1] at hf
    refine g_aload_n rfl 0 rfl dX8_asks_8 ?_
    refine g_iload_n rfl 2 rfl dX8_asks_9 ?_
    refine g_callV0i (As := [.int p2]) (rest := []) cok8 mok_X8_isChild tw5_149 tw5_151 ts5_7 oS38 B.1 (by decide) (kX8_isChild  rfl) rfl rfl (Nat.le_of_ble_eq_true rfl) ⟨Nat.le_refl _, Nat.le_refl _⟩ dX8_asks_10 ?_
    refine g_if_eq 26 (by decide) dX8_asks_13 (fun h2 => ?_) (fun h2 => ?_)
    · rw [if_pos h2] at hf
      refine g_iconst (-1 : Int32) (by decide) dX8_asks_26 ?_
      exact g_iret B.2.2.2 B.2.2.1 (congrArg (fun z => some (Value.int z)) (Prod.mk.inj (Option.some.inj hf)).1.symm) (Prod.mk.inj (Option.some.inj hf)).2.symm dX8_asks_27
    · rw [if_neg h2] at hf
      refine g_iload_n rfl 3 rfl dX8_asks_16 ?_
      refine g_iconst (0 : Int32) (by decide) dX8_asks_17 ?_
      refine g_bipush (15 : Int32) (by decide) dX8_asks_18 ?_
      refine g_callS0i (As := [.int p3, .int (0 : Int32), .int (15 : Int32)]) (rest := []) mok_X8_lies tw5_118 tw5_119 B.1 (by decide) (kX8_lies  rfl) rfl rfl (Nat.le_of_ble_eq_true rfl) ⟨Nat.le_refl _, Nat.le_refl _⟩ dX8_asks_20 ?_
      refine g_if_ne 28 (by decide) dX8_asks_23 (fun h3 => ?_) (fun h3 => ?_)
      · rw [if_neg h3] at hf
        refine g_iload 4 rfl dX8_asks_28 ?_
        by_cases h4 : p4 = (0 : Int32)
        · rw [if_pos h4] at hf
          refine g_tableIn 30 60 dX8_asks_30 (by rw [h4]; decide) (by rw [h4]; decide) (by rw [h4]; decide) (by decide) ?_
          refine g_aload_n rfl 0 rfl dX8_asks_60 ?_
          refine g_iload_n rfl 1 rfl dX8_asks_61 ?_
          refine g_iload_n rfl 2 rfl dX8_asks_62 ?_
          refine g_aload_n rfl 0 rfl dX8_asks_63 ?_
          obtain ⟨q5, h6, hf⟩ := bnd_some hf
          refine g_callV0i (As := []) (rest := [.int p2, .int p1, .ref (eB E + 38)]) cok8 mok_X8_inside tw6_61 tw6_63 ts6_14 oS38 B.1 (by decide) (kX8_inside  h6) rfl rfl (Nat.le_of_ble_eq_true rfl) ⟨Nat.le_refl _, Nat.le_refl _⟩ dX8_asks_64 ?_
          refine g_callV0i (As := [.int p1, .int p2, .int q5]) (rest := []) cok8 mok_X8_beatsOf tw6_68 tw6_70 ts6_15 oS38 B.1 (by decide) (kX8_beatsOf  hf) rfl rfl (Nat.le_of_ble_eq_true rfl) ⟨Nat.le_refl _, Nat.le_refl _⟩ dX8_asks_67 ?_
          exact g_iret B.2.2.2 B.2.2.1 rfl rfl dX8_asks_70
        · rw [if_neg h4] at hf
          by_cases h7 : p4 = (1 : Int32)
          · rw [if_pos h7] at hf
            refine g_tableIn 41 71 dX8_asks_30 (by rw [h7]; decide) (by rw [h7]; decide) (by rw [h7]; decide) (by decide) ?_
            refine g_aload_n rfl 0 rfl dX8_asks_71 ?_
            refine g_iconst (2 : Int32) (by decide) dX8_asks_72 ?_
            refine g_iload_n rfl 1 rfl dX8_asks_73 ?_
            refine g_iload_n rfl 2 rfl dX8_asks_74 ?_
            refine g_iload_n rfl 3 rfl dX8_asks_75 ?_
            refine g_aload_n rfl 0 rfl dX8_asks_76 ?_
            obtain ⟨q8, h9, hf⟩ := bnd_some hf
            refine g_callV0i (As := []) (rest := [.int p3, .int p2, .int p1, .int (2 : Int32), .ref (eB E + 38)]) cok8 mok_X8_inside tw6_61 tw6_63 ts6_14 oS38 B.1 (by decide) (kX8_inside  h9) rfl rfl (Nat.le_of_ble_eq_true rfl) ⟨Nat.le_refl _, Nat.le_refl _⟩ dX8_asks_77 ?_
            obtain ⟨q10, h11, hf⟩ := bnd_some hf
            refine g_callV0i (As := [.int (2 : Int32), .int p1, .int p2, .int p3, .int q8]) (rest := []) cok8 mok_X8_isSo tw6_128 tw6_130 ts7_13 oS38 B.1 (by decide) (kX8_isSo  h11) rfl rfl (Nat.le_of_ble_eq_true rfl) ⟨Nat.le_refl _, Nat.le_refl _⟩ dX8_asks_80 ?_
            refine g_if_eq 90 (by decide) dX8_asks_83 (fun h12 => ?_) (fun h12 => ?_)
            · rw [if_pos h12] at hf
              refine g_iconst (0 : Int32) (by decide) dX8_asks_90 ?_
              exact g_iret B.2.2.2 B.2.2.1 (congrArg (fun z => some (Value.int z)) (Prod.mk.inj (Option.some.inj hf)).1.symm) (Prod.mk.inj (Option.some.inj hf)).2.symm dX8_asks_91
            · rw [if_neg h12] at hf
              refine g_iconst (1 : Int32) (by decide) dX8_asks_86 ?_
              refine g_goto 91 (by decide) dX8_asks_87 ?_
              exact g_iret B.2.2.2 B.2.2.1 (congrArg (fun z => some (Value.int z)) (Prod.mk.inj (Option.some.inj hf)).1.symm) (Prod.mk.inj (Option.some.inj hf)).2.symm dX8_asks_91
          · rw [if_neg h7] at hf
            by_cases h13 : p4 = (2 : Int32)
            · rw [if_pos h13] at hf
              refine g_tableIn 62 92 dX8_asks_30 (by rw [h13]; decide) (by rw [h13]; decide) (by rw [h13]; decide) (by decide) ?_
              refine g_aload_n rfl 0 rfl dX8_asks_92 ?_
              refine g_iconst (3 : Int32) (by decide) dX8_asks_93 ?_
              refine g_iload_n rfl 1 rfl dX8_asks_94 ?_
              refine g_iload_n rfl 2 rfl dX8_asks_95 ?_
              refine g_iload_n rfl 3 rfl dX8_asks_96 ?_
              refine g_aload_n rfl 0 rfl dX8_asks_97 ?_
              obtain ⟨q14, h15, hf⟩ := bnd_some hf
              refine g_callV0i (As := []) (rest := [.int p3, .int p2, .int p1, .int (3 : Int32), .ref (eB E + 38)]) cok8 mok_X8_inside tw6_61 tw6_63 ts6_14 oS38 B.1 (by decide) (kX8_inside  h15) rfl rfl (Nat.le_of_ble_eq_true rfl) ⟨Nat.le_refl _, Nat.le_refl _⟩ dX8_asks_98 ?_
              obtain ⟨q16, h17, hf⟩ := bnd_some hf
              refine g_callV0i (As := [.int (3 : Int32), .int p1, .int p2, .int p3, .int q14]) (rest := []) cok8 mok_X8_isSo tw6_128 tw6_130 ts7_13 oS38 B.1 (by decide) (kX8_isSo  h17) rfl rfl (Nat.le_of_ble_eq_true rfl) ⟨Nat.le_refl _, Nat.le_refl _⟩ dX8_asks_101 ?_
              refine g_if_eq 111 (by decide) dX8_asks_104 (fun h18 => ?_) (fun h18 => ?_)
              · rw [if_pos h18] at hf
                refine g_iconst (0 : Int32) (by decide) dX8_asks_111 ?_
                exact g_iret B.2.2.2 B.2.2.1 (congrArg (fun z => some (Value.int z)) (Prod.mk.inj (Option.some.inj hf)).1.symm) (Prod.mk.inj (Option.some.inj hf)).2.symm dX8_asks_112
              · rw [if_neg h18] at hf
                refine g_iconst (1 : Int32) (by decide) dX8_asks_107 ?_
                refine g_goto 112 (by decide) dX8_asks_108 ?_
                exact g_iret B.2.2.2 B.2.2.1 (congrArg (fun z => some (Value.int z)) (Prod.mk.inj (Option.some.inj hf)).1.symm) (Prod.mk.inj (Option.some.inj hf)).2.symm dX8_asks_112
            · rw [if_neg h13] at hf
              by_cases h19 : p4 = (3 : Int32)
              · rw [if_pos h19] at hf
                refine g_tableIn 83 113 dX8_asks_30 (by rw [h19]; decide) (by rw [h19]; decide) (by rw [h19]; decide) (by decide) ?_
                refine g_aload_n rfl 0 rfl dX8_asks_113 ?_
                refine g_iconst (4 : Int32) (by decide) dX8_asks_114 ?_
                refine g_iload_n rfl 1 rfl dX8_asks_115 ?_
                refine g_iload_n rfl 2 rfl dX8_asks_116 ?_
                refine g_iload_n rfl 3 rfl dX8_asks_117 ?_
                refine g_aload_n rfl 0 rfl dX8_asks_118 ?_
                obtain ⟨q20, h21, hf⟩ := bnd_some hf
                refine g_callV0i (As := []) (rest := [.int p3, .int p2, .int p1, .int (4 : Int32), .ref (eB E + 38)]) cok8 mok_X8_inside tw6_61 tw6_63 ts6_14 oS38 B.1 (by decide) (kX8_inside  h21) rfl rfl (Nat.le_of_ble_eq_true rfl) ⟨Nat.le_refl _, Nat.le_refl _⟩ dX8_asks_119 ?_
                obtain ⟨q22, h23, hf⟩ := bnd_some hf
                refine g_callV0i (As := [.int (4 : Int32), .int p1, .int p2, .int p3, .int q20]) (rest := []) cok8 mok_X8_isSo tw6_128 tw6_130 ts7_13 oS38 B.1 (by decide) (kX8_isSo  h23) rfl rfl (Nat.le_of_ble_eq_true rfl) ⟨Nat.le_refl _, Nat.le_refl _⟩ dX8_asks_122 ?_
                refine g_if_eq 132 (by decide) dX8_asks_125 (fun h24 => ?_) (fun h24 => ?_)
                · rw [if_pos h24] at hf
                  refine g_iconst (0 : Int32) (by decide) dX8_asks_132 ?_
                  exact g_iret B.2.2.2 B.2.2.1 (congrArg (fun z => some (Value.int z)) (Prod.mk.inj (Option.some.inj hf)).1.symm) (Prod.mk.inj (Option.some.inj hf)).2.symm dX8_asks_133
                · rw [if_neg h24] at hf
                  refine g_iconst (1 : Int32) (by decide) dX8_asks_128 ?_
                  refine g_goto 133 (by decide) dX8_asks_129 ?_
                  exact g_iret B.2.2.2 B.2.2.1 (congrArg (fun z => some (Value.int z)) (Prod.mk.inj (Option.some.inj hf)).1.symm) (Prod.mk.inj (Option.some.inj hf)).2.symm dX8_asks_133
              · rw [if_neg h19] at hf
                refine g_tableOut 134 dX8_asks_30 (tab_out [(0 : Int32), (1 : Int32), (2 : Int32), (3 : Int32)] 4 (by decide) (by simp only [List.forall_mem_cons]; exact ⟨h4, h7, h13, h19, fun _ h => nomatch h⟩) (by decide)) (by decide) ?_
                refine g_iconst (-1 : Int32) (by decide) dX8_asks_134 ?_
                exact g_iret B.2.2.2 B.2.2.1 (congrArg (fun z => some (Value.int z)) (Prod.mk.inj (Option.some.inj hf)).1.symm) (Prod.mk.inj (Option.some.inj hf)).2.symm dX8_asks_135
      · rw [if_pos h3] at hf
        refine g_iconst (-1 : Int32) (by decide) dX8_asks_26 ?_
        exact g_iret B.2.2.2 B.2.2.1 (congrArg (fun z => some (Value.int z)) (Prod.mk.inj (Option.some.inj hf)).1.symm) (Prod.mk.inj (Option.some.inj hf)).2.symm dX8_asks_27
theorem kX8_asks {l : Launch} {E : Ev} {st : St} {p1 : Int32} {p2 : Int32} {p3 : Int32} {p4 : Int32} {r0 : Int32} {u0 : St}  (hf : fX8_asks p1 p2 p3 p4 st = some (r0, u0)) : CM l E WT yX8_asks cX8_asks 5 (some FieldType.int) 208 0 0 [.ref (eB E + 38), .int p1, .int p2, .int p3, .int p4] st (some (.int r0)) u0 :=
  CM.intro mok_X8_asks (Nat.le_of_ble_eq_true rfl) (fun x hl hR ht hr hQ _ => wX8_asks ⟨hR, ht, hr, hQ⟩ p1 p2 p3 p4 st hf)
def fX8_nextIn_b17 (st : St)  : Nat → Int32 → Int32 → Int32 → Option Int32
  | 0, _, _, _ => none
  | n + 1, l2, l3, l4 => if (fX8_isIn (sI st 40 0) l4) = 0 then (chk (nz l3) (fX8_nextIn_b17 st n l2 l3 (jrem ((l4 + l2) + l3) l3))) else (some l4)
set_option maxHeartbeats 1000000 in
set_option maxRecDepth 20000 in
theorem wX8_nextIn_b17 {E : Ev} {x : Cx} {r0 : Int32} {st : St} (B : Bd E x (some FieldType.int) (1) 0 0 (some (.int r0)) st) : ∀ (n : Nat) (l2 : Int32) (l3 : Int32) (l4 : Int32) , fX8_nextIn_b17 st n l2 l3 l4 = some r0 → G E WT x RX8 cX8_nextIn 5 (0, 0) st 17 [(0, .ref (eB E + 38)), (2, .int l2), (3, .int l3), (4, .int l4)] [] := by
  intro n
  induction n with
  | zero =>
    intros
    rename_i hf
    rw [fX8_nextIn_b17] at hf
    cases hf
  | succ n ih =>
    intro l2 l3 l4 hf
    rw [fX8_nextIn_b17] at hf
    refine g_aload_n rfl 0 rfl dX8_nextIn_17 ?_
    refine g_get (j := 2) cok8 (by decide) (.ref (eB E + 40)) (Or.inl tw4_177) oS38 vS38_2 dX8_nextIn_18 ?_
    refine g_iconst (0 : Int32) (by decide) dX8_nextIn_21 ?_
    refine g_ialdj 0 rfl aS40 (ixb_in rfl) dX8_nextIn_22 ?_
    refine g_iload 3 rfl dX8_nextIn_23 ?_
    refine g_callS0i (As := [.int (sI st 40 0), .int l4]) (rest := []) mok_X8_isIn tw6_148 tw6_149 B.1 (by decide) (kX8_isIn  rfl) rfl rfl (Nat.le_of_ble_eq_true rfl) ⟨Nat.le_refl _, Nat.le_refl _⟩ dX8_nextIn_25 ?_
    refine g_if_ne 44 (by decide) dX8_nextIn_28 (fun h1 => ?_) (fun h1 => ?_)
    · rw [if_neg h1] at hf
      refine g_iload 3 rfl dX8_nextIn_44 ?_
      exact g_iret B.2.2.2 B.2.2.1 (congrArg (fun z => some (Value.int z)) (Option.some.inj hf).symm) rfl dX8_nextIn_46
    · rw [if_pos h1] at hf
      refine g_iload 3 rfl dX8_nextIn_31 ?_
      refine g_iload_n rfl 1 rfl dX8_nextIn_33 ?_
      refine g_iadd dX8_nextIn_34 ?_
      refine g_iload_n rfl 2 rfl dX8_nextIn_35 ?_
      refine g_iadd dX8_nextIn_36 ?_
      refine g_iload_n rfl 2 rfl dX8_nextIn_37 ?_
      obtain ⟨h2, hf⟩ := chk_some hf
      refine g_irem (nz_ne h2) dX8_nextIn_38 ?_
      refine g_istore [(4, .int (jrem ((l4 + l2) + l3) l3)), (0, .ref (eB E + 38)), (2, .int l2), (3, .int l3)] (by decide) rfl dX8_nextIn_39 ?_
      refine g_goto 17 (by decide) dX8_nextIn_41 ?_
      refine g_lvs [1, 2, 3, 0] rfl ?_
      exact ih l2 l3 (jrem ((l4 + l2) + l3) l3) hf
def fX8_nextIn (st : St) (p1 : Int32) (p2 : Int32) : Option Int32 :=
  chk (nz (sI st 40 16)) (fX8_nextIn_b17 st FU p2 (sI st 40 16) (jrem ((p1 + p2) + (sI st 40 16)) (sI st 40 16)))
set_option maxHeartbeats 1000000 in
set_option maxRecDepth 20000 in
theorem wX8_nextIn {E : Ev} {x : Cx} {r0 : Int32} {st : St} (B : Bd E x (some FieldType.int) (1) 0 0 (some (.int r0)) st) (p1 : Int32) (p2 : Int32)  (hf : fX8_nextIn st p1 p2 = some r0) : G E WT x RX8 cX8_nextIn 5 (0, 0) st 0 [(0, .ref (eB E + 38)), (1, .int p1), (2, .int p2)] [] := by
  unfold fX8_nextIn at hf
  refine g_aload_n rfl 0 rfl dX8_nextIn_0 ?_
  refine g_get (j := 2) cok8 (by decide) (.ref (eB E + 40)) (Or.inl tw4_177) oS38 vS38_2 dX8_nextIn_1 ?_
  refine g_bipush (16 : Int32) (by decide) dX8_nextIn_4 ?_
  refine g_ialdj 16 rfl aS40 (ixb_in rfl) dX8_nextIn_6 ?_
  refine g_istore_n rfl [(3, .int (sI st 40 16)), (0, .ref (eB E + 38)), (1, .int p1), (2, .int p2)] (by decide) rfl dX8_nextIn_7 ?_
  refine g_iload_n rfl 2 rfl dX8_nextIn_8 ?_
  refine g_iload_n rfl 3 rfl dX8_nextIn_9 ?_
  refine g_iadd dX8_nextIn_10 ?_
  refine g_iload_n rfl 0 rfl dX8_nextIn_11 ?_
  refine g_iadd dX8_nextIn_12 ?_
  refine g_iload_n rfl 0 rfl dX8_nextIn_13 ?_
  obtain ⟨h1, hf⟩ := chk_some hf
  refine g_irem (nz_ne h1) dX8_nextIn_14 ?_
  refine g_istore [(4, .int (jrem ((p1 + p2) + (sI st 40 16)) (sI st 40 16))), (3, .int (sI st 40 16)), (0, .ref (eB E + 38)), (1, .int p1), (2, .int p2)] (by decide) rfl dX8_nextIn_15 ?_
  refine g_lvs [2, 4, 1, 0] rfl ?_
  exact wX8_nextIn_b17 B  FU p2 (sI st 40 16) (jrem ((p1 + p2) + (sI st 40 16)) (sI st 40 16)) hf
theorem kX8_nextIn {l : Launch} {E : Ev} {st : St} {p1 : Int32} {p2 : Int32} {r0 : Int32}  (hf : fX8_nextIn st p1 p2 = some r0) : CM l E WT yX8_nextIn cX8_nextIn 5 (some FieldType.int) 1 0 0 [.ref (eB E + 38), .int p1, .int p2] st (some (.int r0)) st :=
  CM.intro mok_X8_nextIn (Nat.le_of_ble_eq_true rfl) (fun x hl hR ht hr hQ _ => wX8_nextIn ⟨hR, ht, hr, hQ⟩ p1 p2 hf)
def fX8_canSay (st : St)  : Option Int32 :=
  (fX8_inside st).bind (fun q1 => if q1 ≤ (1 : Int32) then (some (0 : Int32)) else (some (1 : Int32)))
set_option maxHeartbeats 1000000 in
set_option maxRecDepth 20000 in
theorem wX8_canSay {E : Ev} {x : Cx} {r0 : Int32} {st : St} (B : Bd E x (some FieldType.boolean) (2) 0 0 (some (.int r0)) st)   (hf : fX8_canSay st  = some r0) : G E WT x RX8 cX8_canSay 1 (0, 0) st 0 [(0, .ref (eB E + 38))] [] := by
  unfold fX8_canSay at hf
  refine g_aload_n rfl 0 rfl dX8_canSay_0 ?_
  obtain ⟨q1, h2, hf⟩ := bnd_some hf
  refine g_callV0i (As := []) (rest := []) cok8 mok_X8_inside tw6_61 tw6_63 ts6_14 oS38 B.1 (by decide) (kX8_inside  h2) rfl rfl (Nat.le_of_ble_eq_true rfl) ⟨Nat.le_refl _, Nat.le_refl _⟩ dX8_canSay_1 ?_
  refine g_iconst (1 : Int32) (by decide) dX8_canSay_4 ?_
  refine g_icmp_le 12 (by decide) dX8_canSay_5 (fun h3 => ?_) (fun h3 => ?_)
  · rw [if_pos h3] at hf
    refine g_iconst (0 : Int32) (by decide) dX8_canSay_12 ?_
    exact g_zret B.2.2.2 B.2.2.1 (by decide) (congrArg (fun z => some (Value.int z)) (Option.some.inj hf).symm) rfl dX8_canSay_13
  · rw [if_neg h3] at hf
    refine g_iconst (1 : Int32) (by decide) dX8_canSay_8 ?_
    refine g_goto 13 (by decide) dX8_canSay_9 ?_
    exact g_zret B.2.2.2 B.2.2.1 (by decide) (congrArg (fun z => some (Value.int z)) (Option.some.inj hf).symm) rfl dX8_canSay_13
theorem kX8_canSay {l : Launch} {E : Ev} {st : St}  {r0 : Int32}  (hf : fX8_canSay st = some r0) : CM l E WT yX8_canSay cX8_canSay 1 (some FieldType.boolean) 2 0 0 [.ref (eB E + 38)] st (some (.int r0)) st :=
  CM.intro mok_X8_canSay (Nat.le_of_ble_eq_true rfl) (fun x hl hR ht hr hQ _ => wX8_canSay ⟨hR, ht, hr, hQ⟩  hf)
def fX8_beginner (st : St)  : Option Int32 :=
  chk (nz (sI st 40 16)) (if (fX8_isIn (sI st 40 0) (jrem (sI st 40 1) (sI st 40 16))) = 0 then (fX8_nextIn st (jrem (sI st 40 1) (sI st 40 16)) (1 : Int32)) else (some (jrem (sI st 40 1) (sI st 40 16))))
set_option maxHeartbeats 1000000 in
set_option maxRecDepth 20000 in
theorem wX8_beginner {E : Ev} {x : Cx} {r0 : Int32} {st : St} (B : Bd E x (some FieldType.int) (2) 0 0 (some (.int r0)) st)   (hf : fX8_beginner st  = some r0) : G E WT x RX8 cX8_beginner 2 (0, 0) st 0 [(0, .ref (eB E + 38))] [] := by
  unfold fX8_beginner at hf
  refine g_aload_n rfl 0 rfl dX8_beginner_0 ?_
  refine g_get (j := 2) cok8 (by decide) (.ref (eB E + 40)) (Or.inl tw4_177) oS38 vS38_2 dX8_beginner_1 ?_
  refine g_iconst (1 : Int32) (by decide) dX8_beginner_4 ?_
  refine g_ialdj 1 rfl aS40 (ixb_in rfl) dX8_beginner_5 ?_
  refine g_aload_n rfl 0 rfl dX8_beginner_6 ?_
  refine g_get (j := 2) cok8 (by decide) (.ref (eB E + 40)) (Or.inl tw4_177) oS38 vS38_2 dX8_beginner_7 ?_
  refine g_bipush (16 : Int32) (by decide) dX8_beginner_10 ?_
  refine g_ialdj 16 rfl aS40 (ixb_in rfl) dX8_beginner_12 ?_
  obtain ⟨h1, hf⟩ := chk_some hf
  refine g_irem (nz_ne h1) dX8_beginner_13 ?_
  refine g_istore_n rfl [(1, .int (jrem (sI st 40 1) (sI st 40 16))), (0, .ref (eB E + 38))] (by decide) rfl dX8_beginner_14 ?_
  refine g_aload_n rfl 1 rfl dX8_beginner_15 ?_
  refine g_get (j := 2) cok8 (by decide) (.ref (eB E + 40)) (Or.inl tw4_177) oS38 vS38_2 dX8_beginner_16 ?_
  refine g_iconst (0 : Int32) (by decide) dX8_beginner_19 ?_
  refine g_ialdj 0 rfl aS40 (ixb_in rfl) dX8_beginner_20 ?_
  refine g_iload_n rfl 0 rfl dX8_beginner_21 ?_
  refine g_callS0i (As := [.int (sI st 40 0), .int (jrem (sI st 40 1) (sI st 40 16))]) (rest := []) mok_X8_isIn tw6_148 tw6_149 B.1 (by decide) (kX8_isIn  rfl) rfl rfl (Nat.le_of_ble_eq_true rfl) ⟨Nat.le_refl _, Nat.le_refl _⟩ dX8_beginner_22 ?_
  refine g_if_eq 32 (by decide) dX8_beginner_25 (fun h2 => ?_) (fun h2 => ?_)
  · rw [if_pos h2] at hf
    refine g_aload_n rfl 1 rfl dX8_beginner_32 ?_
    refine g_iload_n rfl 0 rfl dX8_beginner_33 ?_
    refine g_iconst (1 : Int32) (by decide) dX8_beginner_34 ?_
    refine g_callV0i (As := [.int (jrem (sI st 40 1) (sI st 40 16)), .int (1 : Int32)]) (rest := []) cok8 mok_X8_nextIn tw6_151 tw6_153 ts8_1 oS38 B.1 (by decide) (kX8_nextIn  hf) rfl rfl (Nat.le_of_ble_eq_true rfl) ⟨Nat.le_refl _, Nat.le_refl _⟩ dX8_beginner_35 ?_
    exact g_iret B.2.2.2 B.2.2.1 rfl rfl dX8_beginner_38
  · rw [if_neg h2] at hf
    refine g_iload_n rfl 0 rfl dX8_beginner_28 ?_
    refine g_goto 38 (by decide) dX8_beginner_29 ?_
    exact g_iret B.2.2.2 B.2.2.1 (congrArg (fun z => some (Value.int z)) (Option.some.inj hf).symm) rfl dX8_beginner_38
theorem kX8_beginner {l : Launch} {E : Ev} {st : St}  {r0 : Int32}  (hf : fX8_beginner st = some r0) : CM l E WT yX8_beginner cX8_beginner 2 (some FieldType.int) 2 0 0 [.ref (eB E + 38)] st (some (.int r0)) st :=
  CM.intro mok_X8_beginner (Nat.le_of_ble_eq_true rfl) (fun x hl hR ht hr hQ _ => wX8_beginner ⟨hR, ht, hr, hQ⟩  hf)
def fX8_passedOn_b6 : Nat → Int32 → Int32 → Int32 → Int32 → Int32 → Int32 → St → Option (Int32 × St)
  | 0, _, _, _, _, _, _, _ => none
  | n + 1, l1, l3, l4, l5, l6, l7, st => if l5 ≤ l7 then (some (l6, st)) else ((fX8_isSo (2 : Int32) l1 l6 l3 l5 st).bind (fun q2 => if q2.1 = 0 then (some (l6, q2.2)) else ((fX8_nextIn q2.2 l6 l4).bind (fun q5 => fX8_passedOn_b6 n l1 l3 l4 l5 q5 (l7 + (1 : Int32)) q2.2))))
set_option maxHeartbeats 1000000 in
set_option maxRecDepth 20000 in
theorem wX8_passedOn_b6 {E : Ev} {x : Cx} {r0 : Int32} {u0 : St} (B : Bd E x (some FieldType.int) (208) 0 0 (some (.int r0)) u0) : ∀ (n : Nat) (l1 : Int32) (l3 : Int32) (l4 : Int32) (l5 : Int32) (l6 : Int32) (l7 : Int32) (st : St) , fX8_passedOn_b6 n l1 l3 l4 l5 l6 l7 st = some (r0, u0) → G E WT x RX8 cX8_passedOn 8 (0, 0) st 6 [(0, .ref (eB E + 38)), (1, .int l1), (3, .int l3), (4, .int l4), (5, .int l5), (6, .int l6), (7, .int l7)] [] := by
  intro n
  induction n with
  | zero =>
    intros
    rename_i hf
    rw [fX8_passedOn_b6] at hf
    cases hf
  | succ n ih =>
    intro l1 l3 l4 l5 l6 l7 st hf
    rw [fX8_passedOn_b6] at hf
    refine g_iload 6 rfl dX8_passedOn_6 ?_
    refine g_iload 4 rfl dX8_passedOn_8 ?_
    refine g_icmp_ge 43 (by decide) dX8_passedOn_10 (fun h1 => ?_) (fun h1 => ?_)
    · rw [if_pos h1] at hf
      refine g_iload 5 rfl dX8_passedOn_43 ?_
      exact g_iret B.2.2.2 B.2.2.1 (congrArg (fun z => some (Value.int z)) (Prod.mk.inj (Option.some.inj hf)).1.symm) (Prod.mk.inj (Option.some.inj hf)).2.symm dX8_passedOn_45
    · rw [if_neg h1] at hf
      refine g_aload_n rfl 0 rfl dX8_passedOn_13 ?_
      refine g_iconst (2 : Int32) (by decide) dX8_passedOn_14 ?_
      refine g_iload_n rfl 1 rfl dX8_passedOn_15 ?_
      refine g_iload 5 rfl dX8_passedOn_16 ?_
      refine g_iload_n rfl 2 rfl dX8_passedOn_18 ?_
      refine g_iload 4 rfl dX8_passedOn_19 ?_
      obtain ⟨q2, h3, hf⟩ := bnd_some hf
      refine g_callV0i (As := [.int (2 : Int32), .int l1, .int l6, .int l3, .int l5]) (rest := []) cok8 mok_X8_isSo tw6_128 tw6_130 ts7_13 oS38 B.1 (by decide) (kX8_isSo  h3) rfl rfl (Nat.le_of_ble_eq_true rfl) ⟨Nat.le_refl _, Nat.le_refl _⟩ dX8_passedOn_21 ?_
      refine g_if_eq 43 (by decide) dX8_passedOn_24 (fun h4 => ?_) (fun h4 => ?_)
      · rw [if_pos h4] at hf
        refine g_iload 5 rfl dX8_passedOn_43 ?_
        exact g_iret B.2.2.2 B.2.2.1 (congrArg (fun z => some (Value.int z)) (Prod.mk.inj (Option.some.inj hf)).1.symm) (Prod.mk.inj (Option.some.inj hf)).2.symm dX8_passedOn_45
      · rw [if_neg h4] at hf
        refine g_aload_n rfl 0 rfl dX8_passedOn_27 ?_
        refine g_iload 5 rfl dX8_passedOn_28 ?_
        refine g_iload 3 rfl dX8_passedOn_30 ?_
        obtain ⟨q5, h6, hf⟩ := bnd_some hf
        refine g_callV0i (As := [.int l6, .int l4]) (rest := []) cok8 mok_X8_nextIn tw6_151 tw6_153 ts8_1 oS38 B.1 (by decide) (kX8_nextIn  h6) rfl rfl (Nat.le_of_ble_eq_true rfl) ⟨Nat.le_refl _, Nat.le_refl _⟩ dX8_passedOn_32 ?_
        refine g_istore [(6, .int q5), (0, .ref (eB E + 38)), (1, .int l1), (3, .int l3), (4, .int l4), (5, .int l5), (7, .int l7)] (by decide) rfl dX8_passedOn_35 ?_
        refine g_iinc (l7 + (1 : Int32)) [(7, .int (l7 + (1 : Int32))), (6, .int q5), (0, .ref (eB E + 38)), (1, .int l1), (3, .int l3), (4, .int l4), (5, .int l5)] 6 rfl (congrArg (fun z => l7 + z) (show Int32.ofInt (1) = (1 : Int32) by decide)) (by decide) rfl dX8_passedOn_37 ?_
        refine g_goto 6 (by decide) dX8_passedOn_40 ?_
        refine g_lvs [2, 3, 4, 5, 6, 1, 0] rfl ?_
        exact ih l1 l3 l4 l5 q5 (l7 + (1 : Int32)) q2.2 hf
def fX8_passedOn (p1 : Int32) (p2 : Int32) (p3 : Int32) (p4 : Int32) (p5 : Int32) (st : St) : Option (Int32 × St) :=
  fX8_passedOn_b6 FU p1 p3 p4 p5 p2 (0 : Int32) st
set_option maxHeartbeats 1000000 in
set_option maxRecDepth 20000 in
theorem wX8_passedOn {E : Ev} {x : Cx} {r0 : Int32} {u0 : St} (B : Bd E x (some FieldType.int) (208) 0 0 (some (.int r0)) u0) (p1 : Int32) (p2 : Int32) (p3 : Int32) (p4 : Int32) (p5 : Int32) (st : St)  (hf : fX8_passedOn p1 p2 p3 p4 p5 st = some (r0, u0)) : G E WT x RX8 cX8_passedOn 8 (0, 0) st 0 [(0, .ref (eB E + 38)), (1, .int p1), (2, .int p2), (3, .int p3), (4, .int p4), (5, .int p5)] [] := by
  unfold fX8_passedOn at hf
  refine g_iload_n rfl 2 rfl dX8_passedOn_0 ?_
  refine g_istore [(6, .int p2), (0, .ref (eB E + 38)), (1, .int p1), (2, .int p2), (3, .int p3), (4, .int p4), (5, .int p5)] (by decide) rfl dX8_passedOn_1 ?_
  refine g_iconst (0 : Int32) (by decide) dX8_passedOn_3 ?_
  refine g_istore [(7, .int (0 : Int32)), (6, .int p2), (0, .ref (eB E + 38)), (1, .int p1), (2, .int p2), (3, .int p3), (4, .int p4), (5, .int p5)] (by decide) rfl dX8_passedOn_4 ?_
  refine g_lvs [2, 3, 5, 6, 7, 1, 0] rfl ?_
  exact wX8_passedOn_b6 B  FU p1 p3 p4 p5 p2 (0 : Int32) st hf
theorem kX8_passedOn {l : Launch} {E : Ev} {st : St} {p1 : Int32} {p2 : Int32} {p3 : Int32} {p4 : Int32} {p5 : Int32} {r0 : Int32} {u0 : St}  (hf : fX8_passedOn p1 p2 p3 p4 p5 st = some (r0, u0)) : CM l E WT yX8_passedOn cX8_passedOn 8 (some FieldType.int) 208 0 0 [.ref (eB E + 38), .int p1, .int p2, .int p3, .int p4, .int p5] st (some (.int r0)) u0 :=
  CM.intro mok_X8_passedOn (Nat.le_of_ble_eq_true rfl) (fun x hl hR ht hr hQ _ => wX8_passedOn ⟨hR, ht, hr, hQ⟩ p1 p2 p3 p4 p5 st hf)
def fX8_counts_b106 (k41 : Int32 → Int32 → Int32 → Int32 → Int32 → Int32 → St → Option (Int32 × St))(l1 : Int32) (l3 : Int32) (l4 : Int32) (l5 : Int32) (l6 : Int32) (l7 : Int32) (st : St) : Option (Int32 × St) :=
  k41 l1 l3 l4 l5 l6 (l7 + (1 : Int32)) st
set_option maxHeartbeats 1000000 in
set_option maxRecDepth 20000 in
theorem wX8_counts_b106 {E : Ev} {x : Cx} {r0 : Int32} {u0 : St} (B : Bd E x (some FieldType.int) (209) 0 0 (some (.int r0)) u0) {k41 : Int32 → Int32 → Int32 → Int32 → Int32 → Int32 → St → Option (Int32 × St)} (hk41 : ∀ (l1 : Int32) (l3 : Int32) (l4 : Int32) (l5 : Int32) (l6 : Int32) (l7 : Int32) (st : St), k41 l1 l3 l4 l5 l6 l7 st = some (r0, u0) → G E WT x RX8 cX8_counts 8 (0, 0) st 41 [(0, .ref (eB E + 38)), (1, .int l1), (3, .int l3), (4, .int l4), (5, .int l5), (6, .int l6), (7, .int l7)] []) (l1 : Int32) (l3 : Int32) (l4 : Int32) (l5 : Int32) (l6 : Int32) (l7 : Int32) (st : St)  (hf : fX8_counts_b106 k41 l1 l3 l4 l5 l6 l7 st = some (r0, u0)) : G E WT x RX8 cX8_counts 8 (0, 0) st 106 [(0, .ref (eB E + 38)), (1, .int l1), (3, .int l3), (4, .int l4), (5, .int l5), (6, .int l6), (7, .int l7)] [] := by
  unfold fX8_counts_b106 at hf
  refine g_iinc (l7 + (1 : Int32)) [(7, .int (l7 + (1 : Int32))), (0, .ref (eB E + 38)), (1, .int l1), (3, .int l3), (4, .int l4), (5, .int l5), (6, .int l6)] 6 rfl (congrArg (fun z => l7 + z) (show Int32.ofInt (1) = (1 : Int32) by decide)) (by decide) rfl dX8_counts_106 ?_
  refine g_goto 41 (by decide) dX8_counts_109 ?_
  refine g_lvs [1, 2, 3, 4, 5, 6, 0] rfl ?_
  exact hk41 l1 l3 l4 l5 l6 (l7 + (1 : Int32)) st hf
def fX8_counts_b64 (k41 : Int32 → Int32 → Int32 → Int32 → Int32 → Int32 → St → Option (Int32 × St))(l1 : Int32) (l3 : Int32) (l4 : Int32) (l5 : Int32) (l6 : Int32) (l7 : Int32) (st : St) : Option (Int32 × St) :=
  (fX8_passedOn l1 l4 l7 l6 l3 st).bind (fun q1 => chk (ixb l7 16) ((fX8_isSo (3 : Int32) l1 q1.1 l7 l3 (pI q1.2 51 l7.toNatClampNeg q1.1)).bind (fun q4 => if q4.1 = 0 then (fX8_counts_b106 k41 l1 l3 q1.1 l5 l6 l7 q4.2) else (fX8_counts_b106 k41 l1 l3 q1.1 l5 (-l6) l7 q4.2))))
set_option maxHeartbeats 1000000 in
set_option maxRecDepth 20000 in
theorem wX8_counts_b64 {E : Ev} {x : Cx} {r0 : Int32} {u0 : St} (B : Bd E x (some FieldType.int) (209) 0 0 (some (.int r0)) u0) {k41 : Int32 → Int32 → Int32 → Int32 → Int32 → Int32 → St → Option (Int32 × St)} (hk41 : ∀ (l1 : Int32) (l3 : Int32) (l4 : Int32) (l5 : Int32) (l6 : Int32) (l7 : Int32) (st : St), k41 l1 l3 l4 l5 l6 l7 st = some (r0, u0) → G E WT x RX8 cX8_counts 8 (0, 0) st 41 [(0, .ref (eB E + 38)), (1, .int l1), (3, .int l3), (4, .int l4), (5, .int l5), (6, .int l6), (7, .int l7)] []) (l1 : Int32) (l3 : Int32) (l4 : Int32) (l5 : Int32) (l6 : Int32) (l7 : Int32) (st : St)  (hf : fX8_counts_b64 k41 l1 l3 l4 l5 l6 l7 st = some (r0, u0)) : G E WT x RX8 cX8_counts 8 (0, 0) st 64 [(0, .ref (eB E + 38)), (1, .int l1), (3, .int l3), (4, .int l4), (5, .int l5), (6, .int l6), (7, .int l7)] [] := by
  unfold fX8_counts_b64 at hf
  refine g_aload_n rfl 0 rfl dX8_counts_64 ?_
  refine g_iload_n rfl 1 rfl dX8_counts_65 ?_
  refine g_iload 3 rfl dX8_counts_66 ?_
  refine g_iload 6 rfl dX8_counts_68 ?_
  refine g_iload 5 rfl dX8_counts_70 ?_
  refine g_iload_n rfl 2 rfl dX8_counts_72 ?_
  obtain ⟨q1, h2, hf⟩ := bnd_some hf
  refine g_callV0i (As := [.int l1, .int l4, .int l7, .int l6, .int l3]) (rest := []) cok8 mok_X8_passedOn tw6_158 tw6_160 ts8_2 oS38 B.1 (by decide) (kX8_passedOn  h2) rfl rfl (Nat.le_of_ble_eq_true rfl) ⟨Nat.le_refl _, Nat.le_refl _⟩ dX8_counts_73 ?_
  refine g_istore [(4, .int q1.1), (0, .ref (eB E + 38)), (1, .int l1), (3, .int l3), (5, .int l5), (6, .int l6), (7, .int l7)] (by decide) rfl dX8_counts_76 ?_
  refine g_aload_n rfl 1 rfl dX8_counts_78 ?_
  refine g_get (j := 29) cok8 (by decide) (.ref (eB E + 51)) (Or.inl tw4_204) oS38 vS38_29 dX8_counts_79 ?_
  refine g_iload 6 rfl dX8_counts_82 ?_
  refine g_iload 0 rfl dX8_counts_84 ?_
  obtain ⟨h3, hf⟩ := chk_some hf
  refine g_iastj l7.toNatClampNeg rfl aS51 (ixb_in h3) B.2.1 wpI dX8_counts_86 ?_
  refine g_aload_n rfl 1 rfl dX8_counts_87 ?_
  refine g_iconst (3 : Int32) (by decide) dX8_counts_88 ?_
  refine g_iload_n rfl 2 rfl dX8_counts_89 ?_
  refine g_iload 0 rfl dX8_counts_90 ?_
  refine g_iload 6 rfl dX8_counts_92 ?_
  refine g_iload_n rfl 3 rfl dX8_counts_94 ?_
  obtain ⟨q4, h5, hf⟩ := bnd_some hf
  refine g_callV0i (As := [.int (3 : Int32), .int l1, .int q1.1, .int l7, .int l3]) (rest := []) cok8 mok_X8_isSo tw6_128 tw6_130 ts7_13 oS38 B.1 (by decide) (kX8_isSo  h5) rfl rfl (Nat.le_of_ble_eq_true rfl) ⟨Nat.le_refl _, Nat.le_refl _⟩ dX8_counts_95 ?_
  refine g_if_eq 106 (by decide) dX8_counts_98 (fun h6 => ?_) (fun h6 => ?_)
  · rw [if_pos h6] at hf
    refine g_lvs [1, 2, 3, 0, 4, 5, 6] rfl ?_
    exact wX8_counts_b106 B hk41 l1 l3 q1.1 l5 l6 l7 q4.2 hf
  · rw [if_neg h6] at hf
    refine g_iload 5 rfl dX8_counts_101 ?_
    refine g_ineg dX8_counts_103 ?_
    refine g_istore [(6, .int (-l6)), (4, .int q1.1), (0, .ref (eB E + 38)), (1, .int l1), (3, .int l3), (5, .int l5), (7, .int l7)] (by decide) rfl dX8_counts_104 ?_
    refine g_lvs [2, 3, 4, 1, 5, 0, 6] rfl ?_
    exact wX8_counts_b106 B hk41 l1 l3 q1.1 l5 (-l6) l7 q4.2 hf
def fX8_counts_b41 : Nat → Int32 → Int32 → Int32 → Int32 → Int32 → Int32 → St → Option (Int32 × St)
  | 0, _, _, _, _, _, _, _ => none
  | n + 1, l1, l3, l4, l5, l6, l7, st => if l5 < l7 then (some (l5, st)) else (if l7 ≤ (1 : Int32) then (fX8_counts_b64 (fun zl1 zl3 zl4 zl5 zl6 zl7 zst => fX8_counts_b41 n zl1 zl3 zl4 zl5 zl6 zl7 zst) l1 l3 l4 l5 l6 l7 st) else ((fX8_nextIn st l4 l6).bind (fun q3 => fX8_counts_b64 (fun zl1 zl3 zl4 zl5 zl6 zl7 zst => fX8_counts_b41 n zl1 zl3 zl4 zl5 zl6 zl7 zst) l1 l3 q3 l5 l6 l7 st)))
set_option maxHeartbeats 1000000 in
set_option maxRecDepth 20000 in
theorem wX8_counts_b41 {E : Ev} {x : Cx} {r0 : Int32} {u0 : St} (B : Bd E x (some FieldType.int) (209) 0 0 (some (.int r0)) u0) : ∀ (n : Nat) (l1 : Int32) (l3 : Int32) (l4 : Int32) (l5 : Int32) (l6 : Int32) (l7 : Int32) (st : St) , fX8_counts_b41 n l1 l3 l4 l5 l6 l7 st = some (r0, u0) → G E WT x RX8 cX8_counts 8 (0, 0) st 41 [(0, .ref (eB E + 38)), (1, .int l1), (3, .int l3), (4, .int l4), (5, .int l5), (6, .int l6), (7, .int l7)] [] := by
  intro n
  induction n with
  | zero =>
    intros
    rename_i hf
    rw [fX8_counts_b41] at hf
    cases hf
  | succ n ih =>
    intro l1 l3 l4 l5 l6 l7 st hf
    rw [fX8_counts_b41] at hf
    refine g_iload 6 rfl dX8_counts_41 ?_
    refine g_iload 4 rfl dX8_counts_43 ?_
    refine g_icmp_gt 112 (by decide) dX8_counts_45 (fun h1 => ?_) (fun h1 => ?_)
    · rw [if_pos h1] at hf
      refine g_iload 4 rfl dX8_counts_112 ?_
      exact g_iret B.2.2.2 B.2.2.1 (congrArg (fun z => some (Value.int z)) (Prod.mk.inj (Option.some.inj hf)).1.symm) (Prod.mk.inj (Option.some.inj hf)).2.symm dX8_counts_114
    · rw [if_neg h1] at hf
      refine g_iload 6 rfl dX8_counts_48 ?_
      refine g_iconst (1 : Int32) (by decide) dX8_counts_50 ?_
      refine g_icmp_le 64 (by decide) dX8_counts_51 (fun h2 => ?_) (fun h2 => ?_)
      · rw [if_pos h2] at hf
        refine g_lvs [0, 1, 2, 3, 4, 5, 6] rfl ?_
        exact wX8_counts_b64 B ih l1 l3 l4 l5 l6 l7 st hf
      · rw [if_neg h2] at hf
        refine g_aload_n rfl 0 rfl dX8_counts_54 ?_
        refine g_iload 3 rfl dX8_counts_55 ?_
        refine g_iload 5 rfl dX8_counts_57 ?_
        obtain ⟨q3, h4, hf⟩ := bnd_some hf
        refine g_callV0i (As := [.int l4, .int l6]) (rest := []) cok8 mok_X8_nextIn tw6_151 tw6_153 ts8_1 oS38 B.1 (by decide) (kX8_nextIn  h4) rfl rfl (Nat.le_of_ble_eq_true rfl) ⟨Nat.le_refl _, Nat.le_refl _⟩ dX8_counts_59 ?_
        refine g_istore [(4, .int q3), (0, .ref (eB E + 38)), (1, .int l1), (3, .int l3), (5, .int l5), (6, .int l6), (7, .int l7)] (by decide) rfl dX8_counts_62 ?_
        refine g_lvs [1, 2, 3, 0, 4, 5, 6] rfl ?_
        exact wX8_counts_b64 B ih l1 l3 q3 l5 l6 l7 st hf
def fX8_counts (p1 : Int32) (p2 : Int32) (st : St) : Option (Int32 × St) :=
  (fX8_inside st).bind (fun q1 => (fX8_beginner st).bind (fun q3 => (fX8_beatsOf p1 q3 q1 st).bind (fun q5 => fX8_counts_b41 FU p1 q1 q3 (fX8_greater (1 : Int32) (q5.1 - p2)) (1 : Int32) (1 : Int32) (pI q5.2 51 0 q3))))
set_option maxHeartbeats 1000000 in
set_option maxRecDepth 20000 in
theorem wX8_counts {E : Ev} {x : Cx} {r0 : Int32} {u0 : St} (B : Bd E x (some FieldType.int) (209) 0 0 (some (.int r0)) u0) (p1 : Int32) (p2 : Int32) (st : St)  (hf : fX8_counts p1 p2 st = some (r0, u0)) : G E WT x RX8 cX8_counts 8 (0, 0) st 0 [(0, .ref (eB E + 38)), (1, .int p1), (2, .int p2)] [] := by
  unfold fX8_counts at hf
  refine g_aload_n rfl 0 rfl dX8_counts_0 ?_
  obtain ⟨q1, h2, hf⟩ := bnd_some hf
  refine g_callV0i (As := []) (rest := []) cok8 mok_X8_inside tw6_61 tw6_63 ts6_14 oS38 B.1 (by decide) (kX8_inside  h2) rfl rfl (Nat.le_of_ble_eq_true rfl) ⟨Nat.le_refl _, Nat.le_refl _⟩ dX8_counts_1 ?_
  refine g_istore_n rfl [(3, .int q1), (0, .ref (eB E + 38)), (1, .int p1), (2, .int p2)] (by decide) rfl dX8_counts_4 ?_
  refine g_aload_n rfl 1 rfl dX8_counts_5 ?_
  obtain ⟨q3, h4, hf⟩ := bnd_some hf
  refine g_callV0i (As := []) (rest := []) cok8 mok_X8_beginner tw6_144 tw6_146 ts8_0 oS38 B.1 (by decide) (kX8_beginner  h4) rfl rfl (Nat.le_of_ble_eq_true rfl) ⟨Nat.le_refl _, Nat.le_refl _⟩ dX8_counts_6 ?_
  refine g_istore [(4, .int q3), (3, .int q1), (0, .ref (eB E + 38)), (1, .int p1), (2, .int p2)] (by decide) rfl dX8_counts_9 ?_
  refine g_iconst (1 : Int32) (by decide) dX8_counts_11 ?_
  refine g_aload_n rfl 2 rfl dX8_counts_12 ?_
  refine g_iload_n rfl 3 rfl dX8_counts_13 ?_
  refine g_iload 0 rfl dX8_counts_14 ?_
  refine g_iload_n rfl 1 rfl dX8_counts_16 ?_
  obtain ⟨q5, h6, hf⟩ := bnd_some hf
  refine g_callV0i (As := [.int p1, .int q3, .int q1]) (rest := [.int (1 : Int32)]) cok8 mok_X8_beatsOf tw6_68 tw6_70 ts6_15 oS38 B.1 (by decide) (kX8_beatsOf  h6) rfl rfl (Nat.le_of_ble_eq_true rfl) ⟨Nat.le_refl _, Nat.le_refl _⟩ dX8_counts_17 ?_
  refine g_iload_n rfl 4 rfl dX8_counts_20 ?_
  refine g_isub dX8_counts_21 ?_
  refine g_callS0i (As := [.int (1 : Int32), .int (q5.1 - p2)]) (rest := []) mok_X8_greater tw6_155 tw6_156 B.1 (by decide) (kX8_greater  rfl) rfl rfl (Nat.le_of_ble_eq_true rfl) ⟨Nat.le_refl _, Nat.le_refl _⟩ dX8_counts_22 ?_
  refine g_istore [(5, .int (fX8_greater (1 : Int32) (q5.1 - p2))), (4, .int q3), (3, .int q1), (0, .ref (eB E + 38)), (1, .int p1), (2, .int p2)] (by decide) rfl dX8_counts_25 ?_
  refine g_iconst (1 : Int32) (by decide) dX8_counts_27 ?_
  refine g_istore [(6, .int (1 : Int32)), (5, .int (fX8_greater (1 : Int32) (q5.1 - p2))), (4, .int q3), (3, .int q1), (0, .ref (eB E + 38)), (1, .int p1), (2, .int p2)] (by decide) rfl dX8_counts_28 ?_
  refine g_aload_n rfl 4 rfl dX8_counts_30 ?_
  refine g_get (j := 29) cok8 (by decide) (.ref (eB E + 51)) (Or.inl tw4_204) oS38 vS38_29 dX8_counts_31 ?_
  refine g_iconst (0 : Int32) (by decide) dX8_counts_34 ?_
  refine g_iload 2 rfl dX8_counts_35 ?_
  refine g_iastj 0 rfl aS51 (ixb_in rfl) B.2.1 wpI dX8_counts_37 ?_
  refine g_iconst (1 : Int32) (by decide) dX8_counts_38 ?_
  refine g_istore [(7, .int (1 : Int32)), (6, .int (1 : Int32)), (5, .int (fX8_greater (1 : Int32) (q5.1 - p2))), (4, .int q3), (3, .int q1), (0, .ref (eB E + 38)), (1, .int p1), (2, .int p2)] (by decide) rfl dX8_counts_39 ?_
  refine g_lvs [5, 6, 4, 3, 2, 1, 0] rfl ?_
  exact wX8_counts_b41 B  FU p1 q1 q3 (fX8_greater (1 : Int32) (q5.1 - p2)) (1 : Int32) (1 : Int32) (pI q5.2 51 0 q3) hf
theorem kX8_counts {l : Launch} {E : Ev} {st : St} {p1 : Int32} {p2 : Int32} {r0 : Int32} {u0 : St}  (hf : fX8_counts p1 p2 st = some (r0, u0)) : CM l E WT yX8_counts cX8_counts 8 (some FieldType.int) 209 0 0 [.ref (eB E + 38), .int p1, .int p2] st (some (.int r0)) u0 :=
  CM.intro mok_X8_counts (Nat.le_of_ble_eq_true rfl) (fun x hl hR ht hr hQ _ => wX8_counts ⟨hR, ht, hr, hQ⟩ p1 p2 st hf)
def fX8_says (p1 : Int32) (p2 : Int32) (st : St) : Option (Int32 × St) :=
  (fX8_counts p1 p2 st).bind (fun q1 => chk (ixb q1.1 16) ((fX8_inside q1.2).bind (fun q4 => (fX8_isSo (4 : Int32) p1 (sI q1.2 51 q1.1.toNatClampNeg) q1.1 q4 q1.2).bind (fun q6 => chk (nz (sI q6.2 40 16)) (if q6.1 = 0 then (some (sI q1.2 51 q1.1.toNatClampNeg, pI (pI q6.2 40 1 (jrem ((sI q1.2 51 q1.1.toNatClampNeg) + (1 : Int32)) (sI q6.2 40 16))) 40 0 ((sI (pI q6.2 40 1 (jrem ((sI q1.2 51 q1.1.toNatClampNeg) + (1 : Int32)) (sI q6.2 40 16))) 40 0) &&& ((jshl (1 : Int32) (sI q1.2 51 q1.1.toNatClampNeg)) ^^^ (-1 : Int32))))) else (some ((100 : Int32) + (sI q1.2 51 q1.1.toNatClampNeg), pI q6.2 40 1 (jrem ((sI q1.2 51 q1.1.toNatClampNeg) + (1 : Int32)) (sI q6.2 40 16)))))))))
set_option maxHeartbeats 1000000 in
set_option maxRecDepth 20000 in
theorem wX8_says {E : Ev} {x : Cx} {r0 : Int32} {u0 : St} (B : Bd E x (some FieldType.int) (210) 0 0 (some (.int r0)) u0) (p1 : Int32) (p2 : Int32) (st : St)  (hf : fX8_says p1 p2 st = some (r0, u0)) : G E WT x RX8 cX8_says 6 (0, 0) st 0 [(0, .ref (eB E + 38)), (1, .int p1), (2, .int p2)] [] := by
  unfold fX8_says at hf
  refine g_aload_n rfl 0 rfl dX8_says_0 ?_
  refine g_iload_n rfl 1 rfl dX8_says_1 ?_
  refine g_iload_n rfl 2 rfl dX8_says_2 ?_
  obtain ⟨q1, h2, hf⟩ := bnd_some hf
  refine g_callV0i (As := [.int p1, .int p2]) (rest := []) cok8 mok_X8_counts tw6_140 tw6_142 ts7_15 oS38 B.1 (by decide) (kX8_counts  h2) rfl rfl (Nat.le_of_ble_eq_true rfl) ⟨Nat.le_refl _, Nat.le_refl _⟩ dX8_says_3 ?_
  refine g_istore_n rfl [(3, .int q1.1), (0, .ref (eB E + 38)), (1, .int p1), (2, .int p2)] (by decide) rfl dX8_says_6 ?_
  refine g_aload_n rfl 1 rfl dX8_says_7 ?_
  refine g_get (j := 29) cok8 (by decide) (.ref (eB E + 51)) (Or.inl tw4_204) oS38 vS38_29 dX8_says_8 ?_
  refine g_iload_n rfl 0 rfl dX8_says_11 ?_
  obtain ⟨h3, hf⟩ := chk_some hf
  refine g_ialdj q1.1.toNatClampNeg rfl aS51 (ixb_in h3) dX8_says_12 ?_
  refine g_istore [(4, .int (sI q1.2 51 q1.1.toNatClampNeg)), (3, .int q1.1), (0, .ref (eB E + 38)), (1, .int p1), (2, .int p2)] (by decide) rfl dX8_says_13 ?_
  refine g_aload_n rfl 2 rfl dX8_says_15 ?_
  refine g_iconst (4 : Int32) (by decide) dX8_says_16 ?_
  refine g_iload_n rfl 3 rfl dX8_says_17 ?_
  refine g_iload 0 rfl dX8_says_18 ?_
  refine g_iload_n rfl 1 rfl dX8_says_20 ?_
  refine g_aload_n rfl 2 rfl dX8_says_21 ?_
  obtain ⟨q4, h5, hf⟩ := bnd_some hf
  refine g_callV0i (As := []) (rest := [.int q1.1, .int (sI q1.2 51 q1.1.toNatClampNeg), .int p1, .int (4 : Int32), .ref (eB E + 38)]) cok8 mok_X8_inside tw6_61 tw6_63 ts6_14 oS38 B.1 (by decide) (kX8_inside  h5) rfl rfl (Nat.le_of_ble_eq_true rfl) ⟨Nat.le_refl _, Nat.le_refl _⟩ dX8_says_22 ?_
  obtain ⟨q6, h7, hf⟩ := bnd_some hf
  refine g_callV0i (As := [.int (4 : Int32), .int p1, .int (sI q1.2 51 q1.1.toNatClampNeg), .int q1.1, .int q4]) (rest := []) cok8 mok_X8_isSo tw6_128 tw6_130 ts7_13 oS38 B.1 (by decide) (kX8_isSo  h7) rfl rfl (Nat.le_of_ble_eq_true rfl) ⟨Nat.le_refl _, Nat.le_refl _⟩ dX8_says_25 ?_
  refine g_istore [(5, .int q6.1), (4, .int (sI q1.2 51 q1.1.toNatClampNeg)), (3, .int q1.1), (0, .ref (eB E + 38)), (1, .int p1), (2, .int p2)] (by decide) rfl dX8_says_28 ?_
  refine g_aload_n rfl 3 rfl dX8_says_30 ?_
  refine g_get (j := 2) cok8 (by decide) (.ref (eB E + 40)) (Or.inl tw4_177) oS38 vS38_2 dX8_says_31 ?_
  refine g_iconst (1 : Int32) (by decide) dX8_says_34 ?_
  refine g_iload 1 rfl dX8_says_35 ?_
  refine g_iconst (1 : Int32) (by decide) dX8_says_37 ?_
  refine g_iadd dX8_says_38 ?_
  refine g_aload_n rfl 3 rfl dX8_says_39 ?_
  refine g_get (j := 2) cok8 (by decide) (.ref (eB E + 40)) (Or.inl tw4_177) oS38 vS38_2 dX8_says_40 ?_
  refine g_bipush (16 : Int32) (by decide) dX8_says_43 ?_
  refine g_ialdj 16 rfl aS40 (ixb_in rfl) dX8_says_45 ?_
  obtain ⟨h8, hf⟩ := chk_some hf
  refine g_irem (nz_ne h8) dX8_says_46 ?_
  refine g_iastj 1 rfl aS40 (ixb_in rfl) B.2.1 wpI dX8_says_47 ?_
  refine g_iload 0 rfl dX8_says_48 ?_
  refine g_if_eq 59 (by decide) dX8_says_50 (fun h9 => ?_) (fun h9 => ?_)
  · rw [if_pos h9] at hf
    refine g_aload_n rfl 3 rfl dX8_says_59 ?_
    refine g_get (j := 2) cok8 (by decide) (.ref (eB E + 40)) (Or.inl tw4_177) oS38 vS38_2 dX8_says_60 ?_
    refine g_iconst (0 : Int32) (by decide) dX8_says_63 ?_
    refine g_dup2 rfl rfl dX8_says_64 ?_
    refine g_ialdj 0 rfl aS40 (ixb_in rfl) dX8_says_65 ?_
    refine g_iconst (1 : Int32) (by decide) dX8_says_66 ?_
    refine g_iload 1 rfl dX8_says_67 ?_
    refine g_ishl dX8_says_69 ?_
    refine g_iconst (-1 : Int32) (by decide) dX8_says_70 ?_
    refine g_ixor dX8_says_71 ?_
    refine g_iand dX8_says_72 ?_
    refine g_iastj 0 rfl aS40 (ixb_in rfl) B.2.1 wpI dX8_says_73 ?_
    refine g_iload 1 rfl dX8_says_74 ?_
    exact g_iret B.2.2.2 B.2.2.1 (congrArg (fun z => some (Value.int z)) (Prod.mk.inj (Option.some.inj hf)).1.symm) (Prod.mk.inj (Option.some.inj hf)).2.symm dX8_says_76
  · rw [if_neg h9] at hf
    refine g_bipush (100 : Int32) (by decide) dX8_says_53 ?_
    refine g_iload 1 rfl dX8_says_55 ?_
    refine g_iadd dX8_says_57 ?_
    exact g_iret B.2.2.2 B.2.2.1 (congrArg (fun z => some (Value.int z)) (Prod.mk.inj (Option.some.inj hf)).1.symm) (Prod.mk.inj (Option.some.inj hf)).2.symm dX8_says_58
theorem kX8_says {l : Launch} {E : Ev} {st : St} {p1 : Int32} {p2 : Int32} {r0 : Int32} {u0 : St}  (hf : fX8_says p1 p2 st = some (r0, u0)) : CM l E WT yX8_says cX8_says 6 (some FieldType.int) 210 0 0 [.ref (eB E + 38), .int p1, .int p2] st (some (.int r0)) u0 :=
  CM.intro mok_X8_says (Nat.le_of_ble_eq_true rfl) (fun x hl hR ht hr hQ _ => wX8_says ⟨hR, ht, hr, hQ⟩ p1 p2 st hf)
def fX8_roundPasses  (st : St) : Option St :=
  some (pI (pI (pI st 40 0 (fX8_allChildren st)) 40 1 (0 : Int32)) 40 2 ((sI (pI (pI st 40 0 (fX8_allChildren st)) 40 1 (0 : Int32)) 40 2) + (1 : Int32)))
set_option maxHeartbeats 1000000 in
set_option maxRecDepth 20000 in
theorem wX8_roundPasses {E : Ev} {x : Cx} {u0 : St} (B : Bd E x none (1) 0 0 none u0)  (st : St)  (hf : fX8_roundPasses st = some u0) : G E WT x RX8 cX8_roundPasses 1 (0, 0) st 0 [(0, .ref (eB E + 38))] [] := by
  unfold fX8_roundPasses at hf
  refine g_aload_n rfl 0 rfl dX8_roundPasses_0 ?_
  refine g_get (j := 2) cok8 (by decide) (.ref (eB E + 40)) (Or.inl tw4_177) oS38 vS38_2 dX8_roundPasses_1 ?_
  refine g_iconst (0 : Int32) (by decide) dX8_roundPasses_4 ?_
  refine g_aload_n rfl 0 rfl dX8_roundPasses_5 ?_
  refine g_callV0i (As := []) (rest := [.int (0 : Int32), .ref (eB E + 40)]) cok8 mok_X8_allChildren tw6_218 tw6_220 ts8_12 oS38 B.1 (by decide) (kX8_allChildren  rfl) rfl rfl (Nat.le_of_ble_eq_true rfl) ⟨Nat.le_refl _, Nat.le_refl _⟩ dX8_roundPasses_6 ?_
  refine g_iastj 0 rfl aS40 (ixb_in rfl) B.2.1 wpI dX8_roundPasses_9 ?_
  refine g_aload_n rfl 0 rfl dX8_roundPasses_10 ?_
  refine g_get (j := 2) cok8 (by decide) (.ref (eB E + 40)) (Or.inl tw4_177) oS38 vS38_2 dX8_roundPasses_11 ?_
  refine g_iconst (1 : Int32) (by decide) dX8_roundPasses_14 ?_
  refine g_iconst (0 : Int32) (by decide) dX8_roundPasses_15 ?_
  refine g_iastj 1 rfl aS40 (ixb_in rfl) B.2.1 wpI dX8_roundPasses_16 ?_
  refine g_aload_n rfl 0 rfl dX8_roundPasses_17 ?_
  refine g_get (j := 2) cok8 (by decide) (.ref (eB E + 40)) (Or.inl tw4_177) oS38 vS38_2 dX8_roundPasses_18 ?_
  refine g_iconst (2 : Int32) (by decide) dX8_roundPasses_21 ?_
  refine g_dup2 rfl rfl dX8_roundPasses_22 ?_
  refine g_ialdj 2 rfl aS40 (ixb_in rfl) dX8_roundPasses_23 ?_
  refine g_iconst (1 : Int32) (by decide) dX8_roundPasses_24 ?_
  refine g_iadd dX8_roundPasses_25 ?_
  refine g_iastj 2 rfl aS40 (ixb_in rfl) B.2.1 wpI dX8_roundPasses_26 ?_
  exact g_ret B.2.2.2 B.2.2.1 rfl (Option.some.inj hf).symm dX8_roundPasses_27
theorem kX8_roundPasses {l : Launch} {E : Ev} {st : St}  {u0 : St}  (hf : fX8_roundPasses st = some u0) : CM l E WT yX8_roundPasses cX8_roundPasses 1 none 1 0 0 [.ref (eB E + 38)] st none u0 :=
  CM.intro mok_X8_roundPasses (Nat.le_of_ble_eq_true rfl) (fun x hl hR ht hr hQ _ => wX8_roundPasses ⟨hR, ht, hr, hQ⟩ st hf)
def fX8_falls (p1 : Int32) (p2 : Int32) (st : St) : Option (Int32 × St) :=
  if (fX8_isRhyme st p1) = 0 then (some ((-1 : Int32), st)) else ((fX8_canSay st).bind (fun q2 => if q2 = 0 then (some ((-1 : Int32), st)) else ((fX8_counts p1 (0 : Int32) st).bind (fun q5 => if (fX8_lies p2 (0 : Int32) q5.1) = 0 then (some ((-1 : Int32), q5.2)) else (chk (ixb p2 16) (some (sI q5.2 51 p2.toNatClampNeg, q5.2)))))))
set_option maxHeartbeats 1000000 in
set_option maxRecDepth 20000 in
theorem wX8_falls {E : Ev} {x : Cx} {r0 : Int32} {u0 : St} (B : Bd E x (some FieldType.int) (210) 0 0 (some (.int r0)) u0) (p1 : Int32) (p2 : Int32) (st : St)  (hf : fX8_falls p1 p2 st = some (r0, u0)) : G E WT x RX8 cX8_falls 4 (0, 0) st 0 [(0, .ref (eB E + 38)), (1, .int p1), (2, .int p2)] [] := by
  unfold fX8_falls at hf
  refine g_aload_n rfl 0 rfl dX8_falls_0 ?_
  refine g_iload_n rfl 1 rfl dX8_falls_1 ?_
  refine g_callV0i (As := [.int p1]) (rest := []) cok8 mok_X8_isRhyme tw5_161 tw5_163 ts5_8 oS38 B.1 (by decide) (kX8_isRhyme  rfl) rfl rfl (Nat.le_of_ble_eq_true rfl) ⟨Nat.le_refl _, Nat.le_refl _⟩ dX8_falls_2 ?_
  refine g_if_eq 15 (by decide) dX8_falls_5 (fun h1 => ?_) (fun h1 => ?_)
  · rw [if_pos h1] at hf
    refine g_iconst (-1 : Int32) (by decide) dX8_falls_15 ?_
    exact g_iret B.2.2.2 B.2.2.1 (congrArg (fun z => some (Value.int z)) (Prod.mk.inj (Option.some.inj hf)).1.symm) (Prod.mk.inj (Option.some.inj hf)).2.symm dX8_falls_16
  · rw [if_neg h1] at hf
    refine g_aload_n rfl 0 rfl dX8_falls_8 ?_
    obtain ⟨q2, h3, hf⟩ := bnd_some hf
    refine g_callV0i (As := []) (rest := []) cok8 mok_X8_canSay tw6_136 tw6_138 ts7_14 oS38 B.1 (by decide) (kX8_canSay  h3) rfl rfl (Nat.le_of_ble_eq_true rfl) ⟨Nat.le_refl _, Nat.le_refl _⟩ dX8_falls_9 ?_
    refine g_if_ne 17 (by decide) dX8_falls_12 (fun h4 => ?_) (fun h4 => ?_)
    · rw [if_neg h4] at hf
      refine g_aload_n rfl 0 rfl dX8_falls_17 ?_
      refine g_iload_n rfl 1 rfl dX8_falls_18 ?_
      refine g_iconst (0 : Int32) (by decide) dX8_falls_19 ?_
      obtain ⟨q5, h6, hf⟩ := bnd_some hf
      refine g_callV0i (As := [.int p1, .int (0 : Int32)]) (rest := []) cok8 mok_X8_counts tw6_140 tw6_142 ts7_15 oS38 B.1 (by decide) (kX8_counts  h6) rfl rfl (Nat.le_of_ble_eq_true rfl) ⟨Nat.le_refl _, Nat.le_refl _⟩ dX8_falls_20 ?_
      refine g_istore_n rfl [(3, .int q5.1), (0, .ref (eB E + 38)), (1, .int p1), (2, .int p2)] (by decide) rfl dX8_falls_23 ?_
      refine g_iload_n rfl 3 rfl dX8_falls_24 ?_
      refine g_iconst (0 : Int32) (by decide) dX8_falls_25 ?_
      refine g_iload_n rfl 0 rfl dX8_falls_26 ?_
      refine g_callS0i (As := [.int p2, .int (0 : Int32), .int q5.1]) (rest := []) mok_X8_lies tw5_118 tw5_119 B.1 (by decide) (kX8_lies  rfl) rfl rfl (Nat.le_of_ble_eq_true rfl) ⟨Nat.le_refl _, Nat.le_refl _⟩ dX8_falls_27 ?_
      refine g_if_ne 35 (by decide) dX8_falls_30 (fun h7 => ?_) (fun h7 => ?_)
      · rw [if_neg h7] at hf
        refine g_aload_n rfl 1 rfl dX8_falls_35 ?_
        refine g_get (j := 29) cok8 (by decide) (.ref (eB E + 51)) (Or.inl tw4_204) oS38 vS38_29 dX8_falls_36 ?_
        refine g_iload_n rfl 3 rfl dX8_falls_39 ?_
        obtain ⟨h8, hf⟩ := chk_some hf
        refine g_ialdj p2.toNatClampNeg rfl aS51 (ixb_in h8) dX8_falls_40 ?_
        exact g_iret B.2.2.2 B.2.2.1 (congrArg (fun z => some (Value.int z)) (Prod.mk.inj (Option.some.inj hf)).1.symm) (Prod.mk.inj (Option.some.inj hf)).2.symm dX8_falls_41
      · rw [if_pos h7] at hf
        refine g_iconst (-1 : Int32) (by decide) dX8_falls_33 ?_
        exact g_iret B.2.2.2 B.2.2.1 (congrArg (fun z => some (Value.int z)) (Prod.mk.inj (Option.some.inj hf)).1.symm) (Prod.mk.inj (Option.some.inj hf)).2.symm dX8_falls_34
    · rw [if_pos h4] at hf
      refine g_iconst (-1 : Int32) (by decide) dX8_falls_15 ?_
      exact g_iret B.2.2.2 B.2.2.1 (congrArg (fun z => some (Value.int z)) (Prod.mk.inj (Option.some.inj hf)).1.symm) (Prod.mk.inj (Option.some.inj hf)).2.symm dX8_falls_16
theorem kX8_falls {l : Launch} {E : Ev} {st : St} {p1 : Int32} {p2 : Int32} {r0 : Int32} {u0 : St}  (hf : fX8_falls p1 p2 st = some (r0, u0)) : CM l E WT yX8_falls cX8_falls 4 (some FieldType.int) 210 0 0 [.ref (eB E + 38), .int p1, .int p2] st (some (.int r0)) u0 :=
  CM.intro mok_X8_falls (Nat.le_of_ble_eq_true rfl) (fun x hl hR ht hr hQ _ => wX8_falls ⟨hR, ht, hr, hQ⟩ p1 p2 st hf)
def fX8_forgetsEldest_b4 : Nat → Int32 → Int32 → St → Option St
  | 0, _, _, _ => none
  | n + 1, l1, l2, st => if ((15 : Int32) * l1) ≤ l2 then (some (pI st 38 32 ((sI st 38 32) - (1 : Int32)))) else (chk (ixb (l2 + l1) 64) (chk (ixb l2 64) (fX8_forgetsEldest_b4 n l1 (l2 + (1 : Int32)) (pI st 52 l2.toNatClampNeg (sI st 52 ((l2 + l1).toNatClampNeg))))))
set_option maxHeartbeats 1000000 in
set_option maxRecDepth 20000 in
theorem wX8_forgetsEldest_b4 {E : Ev} {x : Cx} {u0 : St} (B : Bd E x none (0) 0 0 none u0) : ∀ (n : Nat) (l1 : Int32) (l2 : Int32) (st : St) , fX8_forgetsEldest_b4 n l1 l2 st = some u0 → G E WT x RX8 cX8_forgetsEldest 3 (0, 0) st 4 [(0, .ref (eB E + 38)), (1, .int l1), (2, .int l2)] [] := by
  intro n
  induction n with
  | zero =>
    intros
    rename_i hf
    rw [fX8_forgetsEldest_b4] at hf
    cases hf
  | succ n ih =>
    intro l1 l2 st hf
    rw [fX8_forgetsEldest_b4] at hf
    refine g_iload_n rfl 2 rfl dX8_forgetsEldest_4 ?_
    refine g_bipush (15 : Int32) (by decide) dX8_forgetsEldest_5 ?_
    refine g_iload_n rfl 1 rfl dX8_forgetsEldest_7 ?_
    refine g_imul dX8_forgetsEldest_8 ?_
    refine g_icmp_ge 32 (by decide) dX8_forgetsEldest_9 (fun h1 => ?_) (fun h1 => ?_)
    · rw [if_pos h1] at hf
      refine g_aload_n rfl 0 rfl dX8_forgetsEldest_32 ?_
      refine g_dup rfl dX8_forgetsEldest_33 ?_
      refine g_get (j := 32) cok8 (by decide) (.int (sI st 38 32)) (Or.inl tw4_207) oS38 (fun _ => rfl) dX8_forgetsEldest_34 ?_
      refine g_iconst (1 : Int32) (by decide) dX8_forgetsEldest_37 ?_
      refine g_isub dX8_forgetsEldest_38 ?_
      refine g_putI (j := 32) cok8 (by decide) rfl rfl rfl rfl (Or.inl tw4_207) oS38 B.2.1 wpI dX8_forgetsEldest_39 ?_
      exact g_ret B.2.2.2 B.2.2.1 rfl (Option.some.inj hf).symm dX8_forgetsEldest_42
    · rw [if_neg h1] at hf
      refine g_aload_n rfl 0 rfl dX8_forgetsEldest_12 ?_
      refine g_get (j := 30) cok8 (by decide) (.ref (eB E + 52)) (Or.inl tw4_205) oS38 vS38_30 dX8_forgetsEldest_13 ?_
      refine g_iload_n rfl 2 rfl dX8_forgetsEldest_16 ?_
      refine g_aload_n rfl 0 rfl dX8_forgetsEldest_17 ?_
      refine g_get (j := 30) cok8 (by decide) (.ref (eB E + 52)) (Or.inl tw4_205) oS38 vS38_30 dX8_forgetsEldest_18 ?_
      refine g_iload_n rfl 2 rfl dX8_forgetsEldest_21 ?_
      refine g_iload_n rfl 1 rfl dX8_forgetsEldest_22 ?_
      refine g_iadd dX8_forgetsEldest_23 ?_
      obtain ⟨h2, hf⟩ := chk_some hf
      refine g_ialdj ((l2 + l1).toNatClampNeg) rfl aS52 (ixb_in h2) dX8_forgetsEldest_24 ?_
      obtain ⟨h3, hf⟩ := chk_some hf
      refine g_iastj l2.toNatClampNeg rfl aS52 (ixb_in h3) B.2.1 wpI dX8_forgetsEldest_25 ?_
      refine g_iinc (l2 + (1 : Int32)) [(2, .int (l2 + (1 : Int32))), (0, .ref (eB E + 38)), (1, .int l1)] 2 rfl (congrArg (fun z => l2 + z) (show Int32.ofInt (1) = (1 : Int32) by decide)) (by decide) rfl dX8_forgetsEldest_26 ?_
      refine g_goto 4 (by decide) dX8_forgetsEldest_29 ?_
      refine g_lvs [1, 2, 0] rfl ?_
      exact ih l1 (l2 + (1 : Int32)) (pI st 52 l2.toNatClampNeg (sI st 52 ((l2 + l1).toNatClampNeg))) hf
def fX8_forgetsEldest  (st : St) : Option St :=
  fX8_forgetsEldest_b4 FU (4 : Int32) (0 : Int32) st
set_option maxHeartbeats 1000000 in
set_option maxRecDepth 20000 in
theorem wX8_forgetsEldest {E : Ev} {x : Cx} {u0 : St} (B : Bd E x none (0) 0 0 none u0)  (st : St)  (hf : fX8_forgetsEldest st = some u0) : G E WT x RX8 cX8_forgetsEldest 3 (0, 0) st 0 [(0, .ref (eB E + 38))] [] := by
  unfold fX8_forgetsEldest at hf
  refine g_iconst (4 : Int32) (by decide) dX8_forgetsEldest_0 ?_
  refine g_istore_n rfl [(1, .int (4 : Int32)), (0, .ref (eB E + 38))] (by decide) rfl dX8_forgetsEldest_1 ?_
  refine g_iconst (0 : Int32) (by decide) dX8_forgetsEldest_2 ?_
  refine g_istore_n rfl [(2, .int (0 : Int32)), (1, .int (4 : Int32)), (0, .ref (eB E + 38))] (by decide) rfl dX8_forgetsEldest_3 ?_
  refine g_lvs [2, 1, 0] rfl ?_
  exact wX8_forgetsEldest_b4 B  FU (4 : Int32) (0 : Int32) st hf
theorem kX8_forgetsEldest {l : Launch} {E : Ev} {st : St}  {u0 : St}  (hf : fX8_forgetsEldest st = some u0) : CM l E WT yX8_forgetsEldest cX8_forgetsEldest 3 none 0 0 0 [.ref (eB E + 38)] st none u0 :=
  CM.intro mok_X8_forgetsEldest (Nat.le_of_ble_eq_true rfl) (fun x hl hR ht hr hQ _ => wX8_forgetsEldest ⟨hR, ht, hr, hQ⟩ st hf)
def fX8_keepsAll_b17 : Nat → Int32 → Int32 → Int32 → St → Option St
  | 0, _, _, _, _ => none
  | n + 1, l1, l2, l3, st => if (3 : Int32) ≤ l3 then (chk (ixb ((l2 * (sI st 38 32)) + (3 : Int32)) 64) (some (pI (pI st 52 (((l2 * (sI st 38 32)) + (3 : Int32)).toNatClampNeg) l1) 38 32 ((sI (pI st 52 (((l2 * (sI st 38 32)) + (3 : Int32)).toNatClampNeg) l1) 38 32) + (1 : Int32))))) else (chk (ixb l3 5627) (chk (ixb ((l2 * (sI st 38 32)) + l3) 64) (fX8_keepsAll_b17 n l1 l2 (l3 + (1 : Int32)) (pI st 52 (((l2 * (sI st 38 32)) + l3).toNatClampNeg) (sI st 40 l3.toNatClampNeg)))))
set_option maxHeartbeats 1000000 in
set_option maxRecDepth 20000 in
theorem wX8_keepsAll_b17 {E : Ev} {x : Cx} {u0 : St} (B : Bd E x none (1) 0 0 none u0) : ∀ (n : Nat) (l1 : Int32) (l2 : Int32) (l3 : Int32) (st : St) , fX8_keepsAll_b17 n l1 l2 l3 st = some u0 → G E WT x RX8 cX8_keepsAll 4 (0, 0) st 17 [(0, .ref (eB E + 38)), (1, .int l1), (2, .int l2), (3, .int l3)] [] := by
  intro n
  induction n with
  | zero =>
    intros
    rename_i hf
    rw [fX8_keepsAll_b17] at hf
    cases hf
  | succ n ih =>
    intro l1 l2 l3 st hf
    rw [fX8_keepsAll_b17] at hf
    refine g_iload_n rfl 3 rfl dX8_keepsAll_17 ?_
    refine g_iconst (3 : Int32) (by decide) dX8_keepsAll_18 ?_
    refine g_icmp_ge 47 (by decide) dX8_keepsAll_19 (fun h1 => ?_) (fun h1 => ?_)
    · rw [if_pos h1] at hf
      refine g_aload_n rfl 0 rfl dX8_keepsAll_47 ?_
      refine g_get (j := 30) cok8 (by decide) (.ref (eB E + 52)) (Or.inl tw4_205) oS38 vS38_30 dX8_keepsAll_48 ?_
      refine g_iload_n rfl 2 rfl dX8_keepsAll_51 ?_
      refine g_aload_n rfl 0 rfl dX8_keepsAll_52 ?_
      refine g_get (j := 32) cok8 (by decide) (.int (sI st 38 32)) (Or.inl tw4_207) oS38 (fun _ => rfl) dX8_keepsAll_53 ?_
      refine g_imul dX8_keepsAll_56 ?_
      refine g_iconst (3 : Int32) (by decide) dX8_keepsAll_57 ?_
      refine g_iadd dX8_keepsAll_58 ?_
      refine g_iload_n rfl 1 rfl dX8_keepsAll_59 ?_
      obtain ⟨h2, hf⟩ := chk_some hf
      refine g_iastj (((l2 * (sI st 38 32)) + (3 : Int32)).toNatClampNeg) rfl aS52 (ixb_in h2) B.2.1 wpI dX8_keepsAll_60 ?_
      refine g_aload_n rfl 0 rfl dX8_keepsAll_61 ?_
      refine g_dup rfl dX8_keepsAll_62 ?_
      refine g_get (j := 32) cok8 (by decide) (.int (sI (pI st 52 (((l2 * (sI st 38 32)) + (3 : Int32)).toNatClampNeg) l1) 38 32)) (Or.inl tw4_207) oS38 (fun _ => rfl) dX8_keepsAll_63 ?_
      refine g_iconst (1 : Int32) (by decide) dX8_keepsAll_66 ?_
      refine g_iadd dX8_keepsAll_67 ?_
      refine g_putI (j := 32) cok8 (by decide) rfl rfl rfl rfl (Or.inl tw4_207) oS38 B.2.1 wpI dX8_keepsAll_68 ?_
      exact g_ret B.2.2.2 B.2.2.1 rfl (Option.some.inj hf).symm dX8_keepsAll_71
    · rw [if_neg h1] at hf
      refine g_aload_n rfl 0 rfl dX8_keepsAll_22 ?_
      refine g_get (j := 30) cok8 (by decide) (.ref (eB E + 52)) (Or.inl tw4_205) oS38 vS38_30 dX8_keepsAll_23 ?_
      refine g_iload_n rfl 2 rfl dX8_keepsAll_26 ?_
      refine g_aload_n rfl 0 rfl dX8_keepsAll_27 ?_
      refine g_get (j := 32) cok8 (by decide) (.int (sI st 38 32)) (Or.inl tw4_207) oS38 (fun _ => rfl) dX8_keepsAll_28 ?_
      refine g_imul dX8_keepsAll_31 ?_
      refine g_iload_n rfl 3 rfl dX8_keepsAll_32 ?_
      refine g_iadd dX8_keepsAll_33 ?_
      refine g_aload_n rfl 0 rfl dX8_keepsAll_34 ?_
      refine g_get (j := 2) cok8 (by decide) (.ref (eB E + 40)) (Or.inl tw4_177) oS38 vS38_2 dX8_keepsAll_35 ?_
      refine g_iload_n rfl 3 rfl dX8_keepsAll_38 ?_
      obtain ⟨h3, hf⟩ := chk_some hf
      refine g_ialdj l3.toNatClampNeg rfl aS40 (ixb_in h3) dX8_keepsAll_39 ?_
      obtain ⟨h4, hf⟩ := chk_some hf
      refine g_iastj (((l2 * (sI st 38 32)) + l3).toNatClampNeg) rfl aS52 (ixb_in h4) B.2.1 wpI dX8_keepsAll_40 ?_
      refine g_iinc (l3 + (1 : Int32)) [(3, .int (l3 + (1 : Int32))), (0, .ref (eB E + 38)), (1, .int l1), (2, .int l2)] 3 rfl (congrArg (fun z => l3 + z) (show Int32.ofInt (1) = (1 : Int32) by decide)) (by decide) rfl dX8_keepsAll_41 ?_
      refine g_goto 17 (by decide) dX8_keepsAll_44 ?_
      refine g_lvs [1, 2, 3, 0] rfl ?_
      exact ih l1 l2 (l3 + (1 : Int32)) (pI st 52 (((l2 * (sI st 38 32)) + l3).toNatClampNeg) (sI st 40 l3.toNatClampNeg)) hf
def fX8_keepsAll_b15 (l1 : Int32) (l2 : Int32) (st : St) : Option St :=
  fX8_keepsAll_b17 FU l1 l2 (0 : Int32) st
set_option maxHeartbeats 1000000 in
set_option maxRecDepth 20000 in
theorem wX8_keepsAll_b15 {E : Ev} {x : Cx} {u0 : St} (B : Bd E x none (1) 0 0 none u0) (l1 : Int32) (l2 : Int32) (st : St)  (hf : fX8_keepsAll_b15 l1 l2 st = some u0) : G E WT x RX8 cX8_keepsAll 4 (0, 0) st 15 [(0, .ref (eB E + 38)), (1, .int l1), (2, .int l2)] [] := by
  unfold fX8_keepsAll_b15 at hf
  refine g_iconst (0 : Int32) (by decide) dX8_keepsAll_15 ?_
  refine g_istore_n rfl [(3, .int (0 : Int32)), (0, .ref (eB E + 38)), (1, .int l1), (2, .int l2)] (by decide) rfl dX8_keepsAll_16 ?_
  refine g_lvs [1, 2, 3, 0] rfl ?_
  exact wX8_keepsAll_b17 B  FU l1 l2 (0 : Int32) st hf
def fX8_keepsAll (p1 : Int32) (st : St) : Option St :=
  if (sI st 38 32) = (16 : Int32) then ((fX8_forgetsEldest st).bind (fun q2 => fX8_keepsAll_b15 p1 (4 : Int32) q2)) else (fX8_keepsAll_b15 p1 (4 : Int32) st)
set_option maxHeartbeats 1000000 in
set_option maxRecDepth 20000 in
theorem wX8_keepsAll {E : Ev} {x : Cx} {u0 : St} (B : Bd E x none (1) 0 0 none u0) (p1 : Int32) (st : St)  (hf : fX8_keepsAll p1 st = some u0) : G E WT x RX8 cX8_keepsAll 4 (0, 0) st 0 [(0, .ref (eB E + 38)), (1, .int p1)] [] := by
  unfold fX8_keepsAll at hf
  refine g_iconst (4 : Int32) (by decide) dX8_keepsAll_0 ?_
  refine g_istore_n rfl [(2, .int (4 : Int32)), (0, .ref (eB E + 38)), (1, .int p1)] (by decide) rfl dX8_keepsAll_1 ?_
  refine g_aload_n rfl 1 rfl dX8_keepsAll_2 ?_
  refine g_get (j := 32) cok8 (by decide) (.int (sI st 38 32)) (Or.inl tw4_207) oS38 (fun _ => rfl) dX8_keepsAll_3 ?_
  refine g_bipush (16 : Int32) (by decide) dX8_keepsAll_6 ?_
  refine g_icmp_ne 15 (by decide) dX8_keepsAll_8 (fun h1 => ?_) (fun h1 => ?_)
  · rw [if_neg h1] at hf
    refine g_lvs [1, 2, 0] rfl ?_
    exact wX8_keepsAll_b15 B  p1 (4 : Int32) st hf
  · rw [if_pos h1] at hf
    refine g_aload_n rfl 1 rfl dX8_keepsAll_11 ?_
    obtain ⟨q2, h3, hf⟩ := bnd_some hf
    refine g_callV0v (As := []) (rest := []) cok8 mok_X8_forgetsEldest tw6_178 tw6_180 ts8_5 oS38 B.1 (by decide) (kX8_forgetsEldest  h3) rfl rfl (Nat.le_of_ble_eq_true rfl) ⟨Nat.le_refl _, Nat.le_refl _⟩ dX8_keepsAll_12 ?_
    refine g_lvs [1, 2, 0] rfl ?_
    exact wX8_keepsAll_b15 B  p1 (4 : Int32) q2 hf
theorem kX8_keepsAll {l : Launch} {E : Ev} {st : St} {p1 : Int32} {u0 : St}  (hf : fX8_keepsAll p1 st = some u0) : CM l E WT yX8_keepsAll cX8_keepsAll 4 none 1 0 0 [.ref (eB E + 38), .int p1] st none u0 :=
  CM.intro mok_X8_keepsAll (Nat.le_of_ble_eq_true rfl) (fun x hl hR ht hr hQ _ => wX8_keepsAll ⟨hR, ht, hr, hQ⟩ p1 st hf)
def fX8_undo_b33 : Nat → Int32 → Int32 → St → Option (Int32 × St)
  | 0, _, _, _ => none
  | n + 1, l1, l2, st => if (3 : Int32) ≤ l2 then (chk (ixb (l1 + (3 : Int32)) 64) (fX8_good (sI st 52 ((l1 + (3 : Int32)).toNatClampNeg)) st)) else (chk (ixb (l1 + l2) 64) (chk (ixb l2 5627) (fX8_undo_b33 n l1 (l2 + (1 : Int32)) (pI st 40 l2.toNatClampNeg (sI st 52 ((l1 + l2).toNatClampNeg))))))
set_option maxHeartbeats 1000000 in
set_option maxRecDepth 20000 in
theorem wX8_undo_b33 {E : Ev} {x : Cx} {r0 : Int32} {u0 : St} (B : Bd E x (some FieldType.int) (1) 0 0 (some (.int r0)) u0) : ∀ (n : Nat) (l1 : Int32) (l2 : Int32) (st : St) , fX8_undo_b33 n l1 l2 st = some (r0, u0) → G E WT x RX8 cX8_undo 3 (0, 0) st 33 [(0, .ref (eB E + 38)), (1, .int l1), (2, .int l2)] [] := by
  intro n
  induction n with
  | zero =>
    intros
    rename_i hf
    rw [fX8_undo_b33] at hf
    cases hf
  | succ n ih =>
    intro l1 l2 st hf
    rw [fX8_undo_b33] at hf
    refine g_iload_n rfl 2 rfl dX8_undo_33 ?_
    refine g_iconst (3 : Int32) (by decide) dX8_undo_34 ?_
    refine g_icmp_ge 58 (by decide) dX8_undo_35 (fun h1 => ?_) (fun h1 => ?_)
    · rw [if_pos h1] at hf
      refine g_aload_n rfl 0 rfl dX8_undo_58 ?_
      refine g_aload_n rfl 0 rfl dX8_undo_59 ?_
      refine g_get (j := 30) cok8 (by decide) (.ref (eB E + 52)) (Or.inl tw4_205) oS38 vS38_30 dX8_undo_60 ?_
      refine g_iload_n rfl 1 rfl dX8_undo_63 ?_
      refine g_iconst (3 : Int32) (by decide) dX8_undo_64 ?_
      refine g_iadd dX8_undo_65 ?_
      obtain ⟨h2, hf⟩ := chk_some hf
      refine g_ialdj ((l1 + (3 : Int32)).toNatClampNeg) rfl aS52 (ixb_in h2) dX8_undo_66 ?_
      refine g_callV0i (As := [.int (sI st 52 ((l1 + (3 : Int32)).toNatClampNeg))]) (rest := []) cok8 mok_X8_good tw5_125 tw5_127 ts5_4 oS38 B.1 (by decide) (kX8_good  hf) rfl rfl (Nat.le_of_ble_eq_true rfl) ⟨Nat.le_refl _, Nat.le_refl _⟩ dX8_undo_67 ?_
      exact g_iret B.2.2.2 B.2.2.1 rfl rfl dX8_undo_70
    · rw [if_neg h1] at hf
      refine g_aload_n rfl 0 rfl dX8_undo_38 ?_
      refine g_get (j := 2) cok8 (by decide) (.ref (eB E + 40)) (Or.inl tw4_177) oS38 vS38_2 dX8_undo_39 ?_
      refine g_iload_n rfl 2 rfl dX8_undo_42 ?_
      refine g_aload_n rfl 0 rfl dX8_undo_43 ?_
      refine g_get (j := 30) cok8 (by decide) (.ref (eB E + 52)) (Or.inl tw4_205) oS38 vS38_30 dX8_undo_44 ?_
      refine g_iload_n rfl 1 rfl dX8_undo_47 ?_
      refine g_iload_n rfl 2 rfl dX8_undo_48 ?_
      refine g_iadd dX8_undo_49 ?_
      obtain ⟨h3, hf⟩ := chk_some hf
      refine g_ialdj ((l1 + l2).toNatClampNeg) rfl aS52 (ixb_in h3) dX8_undo_50 ?_
      obtain ⟨h4, hf⟩ := chk_some hf
      refine g_iastj l2.toNatClampNeg rfl aS40 (ixb_in h4) B.2.1 wpI dX8_undo_51 ?_
      refine g_iinc (l2 + (1 : Int32)) [(2, .int (l2 + (1 : Int32))), (0, .ref (eB E + 38)), (1, .int l1)] 2 rfl (congrArg (fun z => l2 + z) (show Int32.ofInt (1) = (1 : Int32) by decide)) (by decide) rfl dX8_undo_52 ?_
      refine g_goto 33 (by decide) dX8_undo_55 ?_
      refine g_lvs [1, 2, 0] rfl ?_
      exact ih l1 (l2 + (1 : Int32)) (pI st 40 l2.toNatClampNeg (sI st 52 ((l1 + l2).toNatClampNeg))) hf
def fX8_undo  (st : St) : Option (Int32 × St) :=
  if (sI st 38 32) = 0 then (fX8_refuses (-3 : Int32) st) else (fX8_undo_b33 FU ((4 : Int32) * (sI (pI st 38 32 ((sI st 38 32) - (1 : Int32))) 38 32)) (0 : Int32) (pI st 38 32 ((sI st 38 32) - (1 : Int32))))
set_option maxHeartbeats 1000000 in
set_option maxRecDepth 20000 in
theorem wX8_undo {E : Ev} {x : Cx} {r0 : Int32} {u0 : St} (B : Bd E x (some FieldType.int) (1) 0 0 (some (.int r0)) u0)  (st : St)  (hf : fX8_undo st = some (r0, u0)) : G E WT x RX8 cX8_undo 3 (0, 0) st 0 [(0, .ref (eB E + 38))] [] := by
  unfold fX8_undo at hf
  refine g_aload_n rfl 0 rfl dX8_undo_0 ?_
  refine g_get (j := 32) cok8 (by decide) (.int (sI st 38 32)) (Or.inl tw4_207) oS38 (fun _ => rfl) dX8_undo_1 ?_
  refine g_if_ne 14 (by decide) dX8_undo_4 (fun h1 => ?_) (fun h1 => ?_)
  · rw [if_neg h1] at hf
    refine g_aload_n rfl 0 rfl dX8_undo_14 ?_
    refine g_dup rfl dX8_undo_15 ?_
    refine g_get (j := 32) cok8 (by decide) (.int (sI st 38 32)) (Or.inl tw4_207) oS38 (fun _ => rfl) dX8_undo_16 ?_
    refine g_iconst (1 : Int32) (by decide) dX8_undo_19 ?_
    refine g_isub dX8_undo_20 ?_
    refine g_putI (j := 32) cok8 (by decide) rfl rfl rfl rfl (Or.inl tw4_207) oS38 B.2.1 wpI dX8_undo_21 ?_
    refine g_iconst (4 : Int32) (by decide) dX8_undo_24 ?_
    refine g_aload_n rfl 0 rfl dX8_undo_25 ?_
    refine g_get (j := 32) cok8 (by decide) (.int (sI (pI st 38 32 ((sI st 38 32) - (1 : Int32))) 38 32)) (Or.inl tw4_207) oS38 (fun _ => rfl) dX8_undo_26 ?_
    refine g_imul dX8_undo_29 ?_
    refine g_istore_n rfl [(1, .int ((4 : Int32) * (sI (pI st 38 32 ((sI st 38 32) - (1 : Int32))) 38 32))), (0, .ref (eB E + 38))] (by decide) rfl dX8_undo_30 ?_
    refine g_iconst (0 : Int32) (by decide) dX8_undo_31 ?_
    refine g_istore_n rfl [(2, .int (0 : Int32)), (1, .int ((4 : Int32) * (sI (pI st 38 32 ((sI st 38 32) - (1 : Int32))) 38 32))), (0, .ref (eB E + 38))] (by decide) rfl dX8_undo_32 ?_
    refine g_lvs [2, 1, 0] rfl ?_
    exact wX8_undo_b33 B  FU ((4 : Int32) * (sI (pI st 38 32 ((sI st 38 32) - (1 : Int32))) 38 32)) (0 : Int32) (pI st 38 32 ((sI st 38 32) - (1 : Int32))) hf
  · rw [if_pos h1] at hf
    refine g_aload_n rfl 0 rfl dX8_undo_7 ?_
    refine g_bipush (-3 : Int32) (by decide) dX8_undo_8 ?_
    refine g_callV0i (As := [.int (-3 : Int32)]) (rest := []) cok8 mok_X8_refuses tw5_121 tw5_123 ts5_3 oS38 B.1 (by decide) (kX8_refuses  hf) rfl rfl (Nat.le_of_ble_eq_true rfl) ⟨Nat.le_refl _, Nat.le_refl _⟩ dX8_undo_10 ?_
    exact g_iret B.2.2.2 B.2.2.1 rfl rfl dX8_undo_13
theorem kX8_undo {l : Launch} {E : Ev} {st : St}  {r0 : Int32} {u0 : St}  (hf : fX8_undo st = some (r0, u0)) : CM l E WT yX8_undo cX8_undo 3 (some FieldType.int) 1 0 0 [.ref (eB E + 38)] st (some (.int r0)) u0 :=
  CM.intro mok_X8_undo (Nat.le_of_ble_eq_true rfl) (fun x hl hR ht hr hQ _ => wX8_undo ⟨hR, ht, hr, hQ⟩ st hf)
def fX8_goodOr (p1 : Int32) (st : St) : Option (Int32 × St) :=
  if 0 ≤ p1 then (fX8_good p1 st) else ((fX8_refuses p1 st).bind (fun q2 => some (q2.1, q2.2)))
set_option maxHeartbeats 1000000 in
set_option maxRecDepth 20000 in
theorem wX8_goodOr {E : Ev} {x : Cx} {r0 : Int32} {u0 : St} (B : Bd E x (some FieldType.int) (1) 0 0 (some (.int r0)) u0) (p1 : Int32) (st : St)  (hf : fX8_goodOr p1 st = some (r0, u0)) : G E WT x RX8 cX8_goodOr 2 (0, 0) st 0 [(0, .ref (eB E + 38)), (1, .int p1)] [] := by
  unfold fX8_goodOr at hf
  refine g_iload_n rfl 1 rfl dX8_goodOr_0 ?_
  refine g_if_ge 12 (by decide) dX8_goodOr_1 (fun h1 => ?_) (fun h1 => ?_)
  · rw [if_pos h1] at hf
    refine g_aload_n rfl 0 rfl dX8_goodOr_12 ?_
    refine g_iload_n rfl 1 rfl dX8_goodOr_13 ?_
    refine g_callV0i (As := [.int p1]) (rest := []) cok8 mok_X8_good tw5_125 tw5_127 ts5_4 oS38 B.1 (by decide) (kX8_good  hf) rfl rfl (Nat.le_of_ble_eq_true rfl) ⟨Nat.le_refl _, Nat.le_refl _⟩ dX8_goodOr_14 ?_
    exact g_iret B.2.2.2 B.2.2.1 rfl rfl dX8_goodOr_17
  · rw [if_neg h1] at hf
    refine g_aload_n rfl 0 rfl dX8_goodOr_4 ?_
    refine g_iload_n rfl 1 rfl dX8_goodOr_5 ?_
    obtain ⟨q2, h3, hf⟩ := bnd_some hf
    refine g_callV0i (As := [.int p1]) (rest := []) cok8 mok_X8_refuses tw5_121 tw5_123 ts5_3 oS38 B.1 (by decide) (kX8_refuses  h3) rfl rfl (Nat.le_of_ble_eq_true rfl) ⟨Nat.le_refl _, Nat.le_refl _⟩ dX8_goodOr_6 ?_
    refine g_goto 17 (by decide) dX8_goodOr_9 ?_
    exact g_iret B.2.2.2 B.2.2.1 (congrArg (fun z => some (Value.int z)) (Prod.mk.inj (Option.some.inj hf)).1.symm) (Prod.mk.inj (Option.some.inj hf)).2.symm dX8_goodOr_17
theorem kX8_goodOr {l : Launch} {E : Ev} {st : St} {p1 : Int32} {r0 : Int32} {u0 : St}  (hf : fX8_goodOr p1 st = some (r0, u0)) : CM l E WT yX8_goodOr cX8_goodOr 2 (some FieldType.int) 1 0 0 [.ref (eB E + 38), .int p1] st (some (.int r0)) u0 :=
  CM.intro mok_X8_goodOr (Nat.le_of_ble_eq_true rfl) (fun x hl hR ht hr hQ _ => wX8_goodOr ⟨hR, ht, hr, hQ⟩ p1 st hf)
def fX8_saysKept (p1 : Int32) (st : St) : Option (Int32 × St) :=
  if (fX8_isRhyme st p1) = 0 then (some ((-2 : Int32), st)) else ((fX8_canSay st).bind (fun q2 => if q2 = 0 then (some ((-3 : Int32), st)) else ((fX8_keepsAll (0 : Int32) st).bind (fun q5 => fX8_says p1 (0 : Int32) q5))))
set_option maxHeartbeats 1000000 in
set_option maxRecDepth 20000 in
theorem wX8_saysKept {E : Ev} {x : Cx} {r0 : Int32} {u0 : St} (B : Bd E x (some FieldType.int) (211) 0 0 (some (.int r0)) u0) (p1 : Int32) (st : St)  (hf : fX8_saysKept p1 st = some (r0, u0)) : G E WT x RX8 cX8_saysKept 2 (0, 0) st 0 [(0, .ref (eB E + 38)), (1, .int p1)] [] := by
  unfold fX8_saysKept at hf
  refine g_aload_n rfl 0 rfl dX8_saysKept_0 ?_
  refine g_iload_n rfl 1 rfl dX8_saysKept_1 ?_
  refine g_callV0i (As := [.int p1]) (rest := []) cok8 mok_X8_isRhyme tw5_161 tw5_163 ts5_8 oS38 B.1 (by decide) (kX8_isRhyme  rfl) rfl rfl (Nat.le_of_ble_eq_true rfl) ⟨Nat.le_refl _, Nat.le_refl _⟩ dX8_saysKept_2 ?_
  refine g_if_ne 11 (by decide) dX8_saysKept_5 (fun h1 => ?_) (fun h1 => ?_)
  · rw [if_neg h1] at hf
    refine g_aload_n rfl 0 rfl dX8_saysKept_11 ?_
    obtain ⟨q2, h3, hf⟩ := bnd_some hf
    refine g_callV0i (As := []) (rest := []) cok8 mok_X8_canSay tw6_136 tw6_138 ts7_14 oS38 B.1 (by decide) (kX8_canSay  h3) rfl rfl (Nat.le_of_ble_eq_true rfl) ⟨Nat.le_refl _, Nat.le_refl _⟩ dX8_saysKept_12 ?_
    refine g_if_ne 21 (by decide) dX8_saysKept_15 (fun h4 => ?_) (fun h4 => ?_)
    · rw [if_neg h4] at hf
      refine g_aload_n rfl 0 rfl dX8_saysKept_21 ?_
      refine g_iconst (0 : Int32) (by decide) dX8_saysKept_22 ?_
      obtain ⟨q5, h6, hf⟩ := bnd_some hf
      refine g_callV0v (As := [.int (0 : Int32)]) (rest := []) cok8 mok_X8_keepsAll tw6_174 tw6_176 ts8_4 oS38 B.1 (by decide) (kX8_keepsAll  h6) rfl rfl (Nat.le_of_ble_eq_true rfl) ⟨Nat.le_refl _, Nat.le_refl _⟩ dX8_saysKept_23 ?_
      refine g_aload_n rfl 0 rfl dX8_saysKept_26 ?_
      refine g_iload_n rfl 1 rfl dX8_saysKept_27 ?_
      refine g_iconst (0 : Int32) (by decide) dX8_saysKept_28 ?_
      refine g_callV0i (As := [.int p1, .int (0 : Int32)]) (rest := []) cok8 mok_X8_says tw6_182 tw6_184 ts8_6 oS38 B.1 (by decide) (kX8_says  hf) rfl rfl (Nat.le_of_ble_eq_true rfl) ⟨Nat.le_refl _, Nat.le_refl _⟩ dX8_saysKept_29 ?_
      exact g_iret B.2.2.2 B.2.2.1 rfl rfl dX8_saysKept_32
    · rw [if_pos h4] at hf
      refine g_bipush (-3 : Int32) (by decide) dX8_saysKept_18 ?_
      exact g_iret B.2.2.2 B.2.2.1 (congrArg (fun z => some (Value.int z)) (Prod.mk.inj (Option.some.inj hf)).1.symm) (Prod.mk.inj (Option.some.inj hf)).2.symm dX8_saysKept_20
  · rw [if_pos h1] at hf
    refine g_bipush (-2 : Int32) (by decide) dX8_saysKept_8 ?_
    exact g_iret B.2.2.2 B.2.2.1 (congrArg (fun z => some (Value.int z)) (Prod.mk.inj (Option.some.inj hf)).1.symm) (Prod.mk.inj (Option.some.inj hf)).2.symm dX8_saysKept_10
theorem kX8_saysKept {l : Launch} {E : Ev} {st : St} {p1 : Int32} {r0 : Int32} {u0 : St}  (hf : fX8_saysKept p1 st = some (r0, u0)) : CM l E WT yX8_saysKept cX8_saysKept 2 (some FieldType.int) 211 0 0 [.ref (eB E + 38), .int p1] st (some (.int r0)) u0 :=
  CM.intro mok_X8_saysKept (Nat.le_of_ble_eq_true rfl) (fun x hl hR ht hr hQ _ => wX8_saysKept ⟨hR, ht, hr, hQ⟩ p1 st hf)
def fX8_joinsKept (p1 : Int32) (st : St) : Option (Int32 × St) :=
  if (fX8_isChild st p1) = 0 then (some ((-2 : Int32), st)) else (if (fX8_isIn (sI st 40 0) p1) = 0 then ((fX8_keepsAll (1 : Int32) st).bind (fun q3 => (fX8_inside (pI q3 40 0 ((sI q3 40 0) ||| (jshl (1 : Int32) p1)))).bind (fun q5 => some (q5, pI q3 40 0 ((sI q3 40 0) ||| (jshl (1 : Int32) p1)))))) else (some ((-3 : Int32), st)))
set_option maxHeartbeats 1000000 in
set_option maxRecDepth 20000 in
theorem wX8_joinsKept {E : Ev} {x : Cx} {r0 : Int32} {u0 : St} (B : Bd E x (some FieldType.int) (2) 0 0 (some (.int r0)) u0) (p1 : Int32) (st : St)  (hf : fX8_joinsKept p1 st = some (r0, u0)) : G E WT x RX8 cX8_joinsKept 2 (0, 0) st 0 [(0, .ref (eB E + 38)), (1, .int p1)] [] := by
  unfold fX8_joinsKept at hf
  refine g_aload_n rfl 0 rfl dX8_joinsKept_0 ?_
  refine g_iload_n rfl 1 rfl dX8_joinsKept_1 ?_
  refine g_callV0i (As := [.int p1]) (rest := []) cok8 mok_X8_isChild tw5_149 tw5_151 ts5_7 oS38 B.1 (by decide) (kX8_isChild  rfl) rfl rfl (Nat.le_of_ble_eq_true rfl) ⟨Nat.le_refl _, Nat.le_refl _⟩ dX8_joinsKept_2 ?_
  refine g_if_ne 11 (by decide) dX8_joinsKept_5 (fun h1 => ?_) (fun h1 => ?_)
  · rw [if_neg h1] at hf
    refine g_aload_n rfl 0 rfl dX8_joinsKept_11 ?_
    refine g_get (j := 2) cok8 (by decide) (.ref (eB E + 40)) (Or.inl tw4_177) oS38 vS38_2 dX8_joinsKept_12 ?_
    refine g_iconst (0 : Int32) (by decide) dX8_joinsKept_15 ?_
    refine g_ialdj 0 rfl aS40 (ixb_in rfl) dX8_joinsKept_16 ?_
    refine g_iload_n rfl 1 rfl dX8_joinsKept_17 ?_
    refine g_callS0i (As := [.int (sI st 40 0), .int p1]) (rest := []) mok_X8_isIn tw6_148 tw6_149 B.1 (by decide) (kX8_isIn  rfl) rfl rfl (Nat.le_of_ble_eq_true rfl) ⟨Nat.le_refl _, Nat.le_refl _⟩ dX8_joinsKept_18 ?_
    refine g_if_eq 27 (by decide) dX8_joinsKept_21 (fun h2 => ?_) (fun h2 => ?_)
    · rw [if_pos h2] at hf
      refine g_aload_n rfl 0 rfl dX8_joinsKept_27 ?_
      refine g_iconst (1 : Int32) (by decide) dX8_joinsKept_28 ?_
      obtain ⟨q3, h4, hf⟩ := bnd_some hf
      refine g_callV0v (As := [.int (1 : Int32)]) (rest := []) cok8 mok_X8_keepsAll tw6_174 tw6_176 ts8_4 oS38 B.1 (by decide) (kX8_keepsAll  h4) rfl rfl (Nat.le_of_ble_eq_true rfl) ⟨Nat.le_refl _, Nat.le_refl _⟩ dX8_joinsKept_29 ?_
      refine g_aload_n rfl 0 rfl dX8_joinsKept_32 ?_
      refine g_get (j := 2) cok8 (by decide) (.ref (eB E + 40)) (Or.inl tw4_177) oS38 vS38_2 dX8_joinsKept_33 ?_
      refine g_iconst (0 : Int32) (by decide) dX8_joinsKept_36 ?_
      refine g_dup2 rfl rfl dX8_joinsKept_37 ?_
      refine g_ialdj 0 rfl aS40 (ixb_in rfl) dX8_joinsKept_38 ?_
      refine g_iconst (1 : Int32) (by decide) dX8_joinsKept_39 ?_
      refine g_iload_n rfl 1 rfl dX8_joinsKept_40 ?_
      refine g_ishl dX8_joinsKept_41 ?_
      refine g_ior dX8_joinsKept_42 ?_
      refine g_iastj 0 rfl aS40 (ixb_in rfl) B.2.1 wpI dX8_joinsKept_43 ?_
      refine g_aload_n rfl 0 rfl dX8_joinsKept_44 ?_
      obtain ⟨q5, h6, hf⟩ := bnd_some hf
      refine g_callV0i (As := []) (rest := []) cok8 mok_X8_inside tw6_61 tw6_63 ts6_14 oS38 B.1 (by decide) (kX8_inside  h6) rfl rfl (Nat.le_of_ble_eq_true rfl) ⟨Nat.le_refl _, Nat.le_refl _⟩ dX8_joinsKept_45 ?_
      exact g_iret B.2.2.2 B.2.2.1 (congrArg (fun z => some (Value.int z)) (Prod.mk.inj (Option.some.inj hf)).1.symm) (Prod.mk.inj (Option.some.inj hf)).2.symm dX8_joinsKept_48
    · rw [if_neg h2] at hf
      refine g_bipush (-3 : Int32) (by decide) dX8_joinsKept_24 ?_
      exact g_iret B.2.2.2 B.2.2.1 (congrArg (fun z => some (Value.int z)) (Prod.mk.inj (Option.some.inj hf)).1.symm) (Prod.mk.inj (Option.some.inj hf)).2.symm dX8_joinsKept_26
  · rw [if_pos h1] at hf
    refine g_bipush (-2 : Int32) (by decide) dX8_joinsKept_8 ?_
    exact g_iret B.2.2.2 B.2.2.1 (congrArg (fun z => some (Value.int z)) (Prod.mk.inj (Option.some.inj hf)).1.symm) (Prod.mk.inj (Option.some.inj hf)).2.symm dX8_joinsKept_10
theorem kX8_joinsKept {l : Launch} {E : Ev} {st : St} {p1 : Int32} {r0 : Int32} {u0 : St}  (hf : fX8_joinsKept p1 st = some (r0, u0)) : CM l E WT yX8_joinsKept cX8_joinsKept 2 (some FieldType.int) 2 0 0 [.ref (eB E + 38), .int p1] st (some (.int r0)) u0 :=
  CM.intro mok_X8_joinsKept (Nat.le_of_ble_eq_true rfl) (fun x hl hR ht hr hQ _ => wX8_joinsKept ⟨hR, ht, hr, hQ⟩ p1 st hf)
def fX8_leavesKept (p1 : Int32) (st : St) : Option (Int32 × St) :=
  if (fX8_isChild st p1) = 0 then (some ((-2 : Int32), st)) else (if (fX8_isIn (sI st 40 0) p1) = 0 then (some ((-3 : Int32), st)) else ((fX8_keepsAll (2 : Int32) st).bind (fun q3 => (fX8_inside (pI q3 40 0 ((sI q3 40 0) &&& ((jshl (1 : Int32) p1) ^^^ (-1 : Int32))))).bind (fun q5 => some (q5, pI q3 40 0 ((sI q3 40 0) &&& ((jshl (1 : Int32) p1) ^^^ (-1 : Int32))))))))
set_option maxHeartbeats 1000000 in
set_option maxRecDepth 20000 in
theorem wX8_leavesKept {E : Ev} {x : Cx} {r0 : Int32} {u0 : St} (B : Bd E x (some FieldType.int) (2) 0 0 (some (.int r0)) u0) (p1 : Int32) (st : St)  (hf : fX8_leavesKept p1 st = some (r0, u0)) : G E WT x RX8 cX8_leavesKept 2 (0, 0) st 0 [(0, .ref (eB E + 38)), (1, .int p1)] [] := by
  unfold fX8_leavesKept at hf
  refine g_aload_n rfl 0 rfl dX8_leavesKept_0 ?_
  refine g_iload_n rfl 1 rfl dX8_leavesKept_1 ?_
  refine g_callV0i (As := [.int p1]) (rest := []) cok8 mok_X8_isChild tw5_149 tw5_151 ts5_7 oS38 B.1 (by decide) (kX8_isChild  rfl) rfl rfl (Nat.le_of_ble_eq_true rfl) ⟨Nat.le_refl _, Nat.le_refl _⟩ dX8_leavesKept_2 ?_
  refine g_if_ne 11 (by decide) dX8_leavesKept_5 (fun h1 => ?_) (fun h1 => ?_)
  · rw [if_neg h1] at hf
    refine g_aload_n rfl 0 rfl dX8_leavesKept_11 ?_
    refine g_get (j := 2) cok8 (by decide) (.ref (eB E + 40)) (Or.inl tw4_177) oS38 vS38_2 dX8_leavesKept_12 ?_
    refine g_iconst (0 : Int32) (by decide) dX8_leavesKept_15 ?_
    refine g_ialdj 0 rfl aS40 (ixb_in rfl) dX8_leavesKept_16 ?_
    refine g_iload_n rfl 1 rfl dX8_leavesKept_17 ?_
    refine g_callS0i (As := [.int (sI st 40 0), .int p1]) (rest := []) mok_X8_isIn tw6_148 tw6_149 B.1 (by decide) (kX8_isIn  rfl) rfl rfl (Nat.le_of_ble_eq_true rfl) ⟨Nat.le_refl _, Nat.le_refl _⟩ dX8_leavesKept_18 ?_
    refine g_if_ne 27 (by decide) dX8_leavesKept_21 (fun h2 => ?_) (fun h2 => ?_)
    · rw [if_neg h2] at hf
      refine g_aload_n rfl 0 rfl dX8_leavesKept_27 ?_
      refine g_iconst (2 : Int32) (by decide) dX8_leavesKept_28 ?_
      obtain ⟨q3, h4, hf⟩ := bnd_some hf
      refine g_callV0v (As := [.int (2 : Int32)]) (rest := []) cok8 mok_X8_keepsAll tw6_174 tw6_176 ts8_4 oS38 B.1 (by decide) (kX8_keepsAll  h4) rfl rfl (Nat.le_of_ble_eq_true rfl) ⟨Nat.le_refl _, Nat.le_refl _⟩ dX8_leavesKept_29 ?_
      refine g_aload_n rfl 0 rfl dX8_leavesKept_32 ?_
      refine g_get (j := 2) cok8 (by decide) (.ref (eB E + 40)) (Or.inl tw4_177) oS38 vS38_2 dX8_leavesKept_33 ?_
      refine g_iconst (0 : Int32) (by decide) dX8_leavesKept_36 ?_
      refine g_dup2 rfl rfl dX8_leavesKept_37 ?_
      refine g_ialdj 0 rfl aS40 (ixb_in rfl) dX8_leavesKept_38 ?_
      refine g_iconst (1 : Int32) (by decide) dX8_leavesKept_39 ?_
      refine g_iload_n rfl 1 rfl dX8_leavesKept_40 ?_
      refine g_ishl dX8_leavesKept_41 ?_
      refine g_iconst (-1 : Int32) (by decide) dX8_leavesKept_42 ?_
      refine g_ixor dX8_leavesKept_43 ?_
      refine g_iand dX8_leavesKept_44 ?_
      refine g_iastj 0 rfl aS40 (ixb_in rfl) B.2.1 wpI dX8_leavesKept_45 ?_
      refine g_aload_n rfl 0 rfl dX8_leavesKept_46 ?_
      obtain ⟨q5, h6, hf⟩ := bnd_some hf
      refine g_callV0i (As := []) (rest := []) cok8 mok_X8_inside tw6_61 tw6_63 ts6_14 oS38 B.1 (by decide) (kX8_inside  h6) rfl rfl (Nat.le_of_ble_eq_true rfl) ⟨Nat.le_refl _, Nat.le_refl _⟩ dX8_leavesKept_47 ?_
      exact g_iret B.2.2.2 B.2.2.1 (congrArg (fun z => some (Value.int z)) (Prod.mk.inj (Option.some.inj hf)).1.symm) (Prod.mk.inj (Option.some.inj hf)).2.symm dX8_leavesKept_50
    · rw [if_pos h2] at hf
      refine g_bipush (-3 : Int32) (by decide) dX8_leavesKept_24 ?_
      exact g_iret B.2.2.2 B.2.2.1 (congrArg (fun z => some (Value.int z)) (Prod.mk.inj (Option.some.inj hf)).1.symm) (Prod.mk.inj (Option.some.inj hf)).2.symm dX8_leavesKept_26
  · rw [if_pos h1] at hf
    refine g_bipush (-2 : Int32) (by decide) dX8_leavesKept_8 ?_
    exact g_iret B.2.2.2 B.2.2.1 (congrArg (fun z => some (Value.int z)) (Prod.mk.inj (Option.some.inj hf)).1.symm) (Prod.mk.inj (Option.some.inj hf)).2.symm dX8_leavesKept_10
theorem kX8_leavesKept {l : Launch} {E : Ev} {st : St} {p1 : Int32} {r0 : Int32} {u0 : St}  (hf : fX8_leavesKept p1 st = some (r0, u0)) : CM l E WT yX8_leavesKept cX8_leavesKept 2 (some FieldType.int) 2 0 0 [.ref (eB E + 38), .int p1] st (some (.int r0)) u0 :=
  CM.intro mok_X8_leavesKept (Nat.le_of_ble_eq_true rfl) (fun x hl hR ht hr hQ _ => wX8_leavesKept ⟨hR, ht, hr, hQ⟩ p1 st hf)
def fX8_passesKept  (st : St) : Option (Int32 × St) :=
  if (sI st 40 2) = (999 : Int32) then (some ((-3 : Int32), st)) else ((fX8_keepsAll (3 : Int32) st).bind (fun q2 => (fX8_roundPasses q2).bind (fun q4 => some (sI q4 40 2, q4))))
set_option maxHeartbeats 1000000 in
set_option maxRecDepth 20000 in
theorem wX8_passesKept {E : Ev} {x : Cx} {r0 : Int32} {u0 : St} (B : Bd E x (some FieldType.int) (2) 0 0 (some (.int r0)) u0)  (st : St)  (hf : fX8_passesKept st = some (r0, u0)) : G E WT x RX8 cX8_passesKept 1 (0, 0) st 0 [(0, .ref (eB E + 38))] [] := by
  unfold fX8_passesKept at hf
  refine g_aload_n rfl 0 rfl dX8_passesKept_0 ?_
  refine g_get (j := 2) cok8 (by decide) (.ref (eB E + 40)) (Or.inl tw4_177) oS38 vS38_2 dX8_passesKept_1 ?_
  refine g_iconst (2 : Int32) (by decide) dX8_passesKept_4 ?_
  refine g_ialdj 2 rfl aS40 (ixb_in rfl) dX8_passesKept_5 ?_
  refine g_sipush (999 : Int32) (by decide) dX8_passesKept_6 ?_
  refine g_icmp_ne 15 (by decide) dX8_passesKept_9 (fun h1 => ?_) (fun h1 => ?_)
  · rw [if_neg h1] at hf
    refine g_aload_n rfl 0 rfl dX8_passesKept_15 ?_
    refine g_iconst (3 : Int32) (by decide) dX8_passesKept_16 ?_
    obtain ⟨q2, h3, hf⟩ := bnd_some hf
    refine g_callV0v (As := [.int (3 : Int32)]) (rest := []) cok8 mok_X8_keepsAll tw6_174 tw6_176 ts8_4 oS38 B.1 (by decide) (kX8_keepsAll  h3) rfl rfl (Nat.le_of_ble_eq_true rfl) ⟨Nat.le_refl _, Nat.le_refl _⟩ dX8_passesKept_17 ?_
    refine g_aload_n rfl 0 rfl dX8_passesKept_20 ?_
    obtain ⟨q4, h5, hf⟩ := bnd_some hf
    refine g_callV0v (As := []) (rest := []) cok8 mok_X8_roundPasses tw6_214 tw6_216 ts8_11 oS38 B.1 (by decide) (kX8_roundPasses  h5) rfl rfl (Nat.le_of_ble_eq_true rfl) ⟨Nat.le_refl _, Nat.le_refl _⟩ dX8_passesKept_21 ?_
    refine g_aload_n rfl 0 rfl dX8_passesKept_24 ?_
    refine g_get (j := 2) cok8 (by decide) (.ref (eB E + 40)) (Or.inl tw4_177) oS38 vS38_2 dX8_passesKept_25 ?_
    refine g_iconst (2 : Int32) (by decide) dX8_passesKept_28 ?_
    refine g_ialdj 2 rfl aS40 (ixb_in rfl) dX8_passesKept_29 ?_
    exact g_iret B.2.2.2 B.2.2.1 (congrArg (fun z => some (Value.int z)) (Prod.mk.inj (Option.some.inj hf)).1.symm) (Prod.mk.inj (Option.some.inj hf)).2.symm dX8_passesKept_30
  · rw [if_pos h1] at hf
    refine g_bipush (-3 : Int32) (by decide) dX8_passesKept_12 ?_
    exact g_iret B.2.2.2 B.2.2.1 (congrArg (fun z => some (Value.int z)) (Prod.mk.inj (Option.some.inj hf)).1.symm) (Prod.mk.inj (Option.some.inj hf)).2.symm dX8_passesKept_14
theorem kX8_passesKept {l : Launch} {E : Ev} {st : St}  {r0 : Int32} {u0 : St}  (hf : fX8_passesKept st = some (r0, u0)) : CM l E WT yX8_passesKept cX8_passesKept 1 (some FieldType.int) 2 0 0 [.ref (eB E + 38)] st (some (.int r0)) u0 :=
  CM.intro mok_X8_passesKept (Nat.le_of_ble_eq_true rfl) (fun x hl hR ht hr hQ _ => wX8_passesKept ⟨hR, ht, hr, hQ⟩ st hf)
def fX8_say (p1 : Int32) (st : St) : Option (Int32 × St) :=
  (fX8_saysKept p1 st).bind (fun q1 => fX8_goodOr q1.1 q1.2)
set_option maxHeartbeats 1000000 in
set_option maxRecDepth 20000 in
theorem wX8_say {E : Ev} {x : Cx} {r0 : Int32} {u0 : St} (B : Bd E x (some FieldType.int) (212) 0 0 (some (.int r0)) u0) (p1 : Int32) (st : St)  (hf : fX8_say p1 st = some (r0, u0)) : G E WT x RX8 cX8_say 2 (0, 0) st 0 [(0, .ref (eB E + 38)), (1, .int p1)] [] := by
  unfold fX8_say at hf
  refine g_aload_n rfl 0 rfl dX8_say_0 ?_
  refine g_aload_n rfl 0 rfl dX8_say_1 ?_
  refine g_iload_n rfl 1 rfl dX8_say_2 ?_
  obtain ⟨q1, h2, hf⟩ := bnd_some hf
  refine g_callV0i (As := [.int p1]) (rest := [.ref (eB E + 38)]) cok8 mok_X8_saysKept tw6_170 tw6_172 ts8_3 oS38 B.1 (by decide) (kX8_saysKept  h2) rfl rfl (Nat.le_of_ble_eq_true rfl) ⟨Nat.le_refl _, Nat.le_refl _⟩ dX8_say_3 ?_
  refine g_callV0i (As := [.int q1.1]) (rest := []) cok8 mok_X8_goodOr tw6_186 tw6_188 ts8_7 oS38 B.1 (by decide) (kX8_goodOr  hf) rfl rfl (Nat.le_of_ble_eq_true rfl) ⟨Nat.le_refl _, Nat.le_refl _⟩ dX8_say_6 ?_
  exact g_iret B.2.2.2 B.2.2.1 rfl rfl dX8_say_9
theorem kX8_say {l : Launch} {E : Ev} {st : St} {p1 : Int32} {r0 : Int32} {u0 : St}  (hf : fX8_say p1 st = some (r0, u0)) : CM l E WT yX8_say cX8_say 2 (some FieldType.int) 212 0 0 [.ref (eB E + 38), .int p1] st (some (.int r0)) u0 :=
  CM.intro mok_X8_say (Nat.le_of_ble_eq_true rfl) (fun x hl hR ht hr hQ _ => wX8_say ⟨hR, ht, hr, hQ⟩ p1 st hf)
def fX8_join (p1 : Int32) (st : St) : Option (Int32 × St) :=
  (fX8_joinsKept p1 st).bind (fun q1 => fX8_goodOr q1.1 q1.2)
set_option maxHeartbeats 1000000 in
set_option maxRecDepth 20000 in
theorem wX8_join {E : Ev} {x : Cx} {r0 : Int32} {u0 : St} (B : Bd E x (some FieldType.int) (3) 0 0 (some (.int r0)) u0) (p1 : Int32) (st : St)  (hf : fX8_join p1 st = some (r0, u0)) : G E WT x RX8 cX8_join 2 (0, 0) st 0 [(0, .ref (eB E + 38)), (1, .int p1)] [] := by
  unfold fX8_join at hf
  refine g_aload_n rfl 0 rfl dX8_join_0 ?_
  refine g_aload_n rfl 0 rfl dX8_join_1 ?_
  refine g_iload_n rfl 1 rfl dX8_join_2 ?_
  obtain ⟨q1, h2, hf⟩ := bnd_some hf
  refine g_callV0i (As := [.int p1]) (rest := [.ref (eB E + 38)]) cok8 mok_X8_joinsKept tw6_194 tw6_196 ts8_8 oS38 B.1 (by decide) (kX8_joinsKept  h2) rfl rfl (Nat.le_of_ble_eq_true rfl) ⟨Nat.le_refl _, Nat.le_refl _⟩ dX8_join_3 ?_
  refine g_callV0i (As := [.int q1.1]) (rest := []) cok8 mok_X8_goodOr tw6_186 tw6_188 ts8_7 oS38 B.1 (by decide) (kX8_goodOr  hf) rfl rfl (Nat.le_of_ble_eq_true rfl) ⟨Nat.le_refl _, Nat.le_refl _⟩ dX8_join_6 ?_
  exact g_iret B.2.2.2 B.2.2.1 rfl rfl dX8_join_9
theorem kX8_join {l : Launch} {E : Ev} {st : St} {p1 : Int32} {r0 : Int32} {u0 : St}  (hf : fX8_join p1 st = some (r0, u0)) : CM l E WT yX8_join cX8_join 2 (some FieldType.int) 3 0 0 [.ref (eB E + 38), .int p1] st (some (.int r0)) u0 :=
  CM.intro mok_X8_join (Nat.le_of_ble_eq_true rfl) (fun x hl hR ht hr hQ _ => wX8_join ⟨hR, ht, hr, hQ⟩ p1 st hf)
def fX8_leave (p1 : Int32) (st : St) : Option (Int32 × St) :=
  (fX8_leavesKept p1 st).bind (fun q1 => fX8_goodOr q1.1 q1.2)
set_option maxHeartbeats 1000000 in
set_option maxRecDepth 20000 in
theorem wX8_leave {E : Ev} {x : Cx} {r0 : Int32} {u0 : St} (B : Bd E x (some FieldType.int) (3) 0 0 (some (.int r0)) u0) (p1 : Int32) (st : St)  (hf : fX8_leave p1 st = some (r0, u0)) : G E WT x RX8 cX8_leave 2 (0, 0) st 0 [(0, .ref (eB E + 38)), (1, .int p1)] [] := by
  unfold fX8_leave at hf
  refine g_aload_n rfl 0 rfl dX8_leave_0 ?_
  refine g_aload_n rfl 0 rfl dX8_leave_1 ?_
  refine g_iload_n rfl 1 rfl dX8_leave_2 ?_
  obtain ⟨q1, h2, hf⟩ := bnd_some hf
  refine g_callV0i (As := [.int p1]) (rest := [.ref (eB E + 38)]) cok8 mok_X8_leavesKept tw6_202 tw6_204 ts8_9 oS38 B.1 (by decide) (kX8_leavesKept  h2) rfl rfl (Nat.le_of_ble_eq_true rfl) ⟨Nat.le_refl _, Nat.le_refl _⟩ dX8_leave_3 ?_
  refine g_callV0i (As := [.int q1.1]) (rest := []) cok8 mok_X8_goodOr tw6_186 tw6_188 ts8_7 oS38 B.1 (by decide) (kX8_goodOr  hf) rfl rfl (Nat.le_of_ble_eq_true rfl) ⟨Nat.le_refl _, Nat.le_refl _⟩ dX8_leave_6 ?_
  exact g_iret B.2.2.2 B.2.2.1 rfl rfl dX8_leave_9
theorem kX8_leave {l : Launch} {E : Ev} {st : St} {p1 : Int32} {r0 : Int32} {u0 : St}  (hf : fX8_leave p1 st = some (r0, u0)) : CM l E WT yX8_leave cX8_leave 2 (some FieldType.int) 3 0 0 [.ref (eB E + 38), .int p1] st (some (.int r0)) u0 :=
  CM.intro mok_X8_leave (Nat.le_of_ble_eq_true rfl) (fun x hl hR ht hr hQ _ => wX8_leave ⟨hR, ht, hr, hQ⟩ p1 st hf)
def fX8_pass  (st : St) : Option (Int32 × St) :=
  (fX8_passesKept st).bind (fun q1 => fX8_goodOr q1.1 q1.2)
set_option maxHeartbeats 1000000 in
set_option maxRecDepth 20000 in
theorem wX8_pass {E : Ev} {x : Cx} {r0 : Int32} {u0 : St} (B : Bd E x (some FieldType.int) (3) 0 0 (some (.int r0)) u0)  (st : St)  (hf : fX8_pass st = some (r0, u0)) : G E WT x RX8 cX8_pass 1 (0, 0) st 0 [(0, .ref (eB E + 38))] [] := by
  unfold fX8_pass at hf
  refine g_aload_n rfl 0 rfl dX8_pass_0 ?_
  refine g_aload_n rfl 0 rfl dX8_pass_1 ?_
  obtain ⟨q1, h2, hf⟩ := bnd_some hf
  refine g_callV0i (As := []) (rest := [.ref (eB E + 38)]) cok8 mok_X8_passesKept tw6_210 tw6_212 ts8_10 oS38 B.1 (by decide) (kX8_passesKept  h2) rfl rfl (Nat.le_of_ble_eq_true rfl) ⟨Nat.le_refl _, Nat.le_refl _⟩ dX8_pass_2 ?_
  refine g_callV0i (As := [.int q1.1]) (rest := []) cok8 mok_X8_goodOr tw6_186 tw6_188 ts8_7 oS38 B.1 (by decide) (kX8_goodOr  hf) rfl rfl (Nat.le_of_ble_eq_true rfl) ⟨Nat.le_refl _, Nat.le_refl _⟩ dX8_pass_5 ?_
  exact g_iret B.2.2.2 B.2.2.1 rfl rfl dX8_pass_8
theorem kX8_pass {l : Launch} {E : Ev} {st : St}  {r0 : Int32} {u0 : St}  (hf : fX8_pass st = some (r0, u0)) : CM l E WT yX8_pass cX8_pass 1 (some FieldType.int) 3 0 0 [.ref (eB E + 38)] st (some (.int r0)) u0 :=
  CM.intro mok_X8_pass (Nat.le_of_ble_eq_true rfl) (fun x hl hR ht hr hQ _ => wX8_pass ⟨hR, ht, hr, hQ⟩ st hf)
def fX8_aloneNow (st : St)  : Option Int32 :=
  (fX8_inside st).bind (fun q1 => if q1 = (1 : Int32) then ((fX8_firstOf (sI st 40 0)).bind (fun q4 => some q4)) else (some (-1 : Int32)))
set_option maxHeartbeats 1000000 in
set_option maxRecDepth 20000 in
theorem wX8_aloneNow {E : Ev} {x : Cx} {r0 : Int32} {st : St} (B : Bd E x (some FieldType.int) (2) 0 0 (some (.int r0)) st)   (hf : fX8_aloneNow st  = some r0) : G E WT x RX8 cX8_aloneNow 1 (0, 0) st 0 [(0, .ref (eB E + 38))] [] := by
  unfold fX8_aloneNow at hf
  refine g_aload_n rfl 0 rfl dX8_aloneNow_0 ?_
  obtain ⟨q1, h2, hf⟩ := bnd_some hf
  refine g_callV0i (As := []) (rest := []) cok8 mok_X8_inside tw6_61 tw6_63 ts6_14 oS38 B.1 (by decide) (kX8_inside  h2) rfl rfl (Nat.le_of_ble_eq_true rfl) ⟨Nat.le_refl _, Nat.le_refl _⟩ dX8_aloneNow_1 ?_
  refine g_iconst (1 : Int32) (by decide) dX8_aloneNow_4 ?_
  refine g_icmp_ne 20 (by decide) dX8_aloneNow_5 (fun h3 => ?_) (fun h3 => ?_)
  · rw [if_neg h3] at hf
    refine g_iconst (-1 : Int32) (by decide) dX8_aloneNow_20 ?_
    exact g_iret B.2.2.2 B.2.2.1 (congrArg (fun z => some (Value.int z)) (Option.some.inj hf).symm) rfl dX8_aloneNow_21
  · rw [if_pos h3] at hf
    refine g_aload_n rfl 0 rfl dX8_aloneNow_8 ?_
    refine g_get (j := 2) cok8 (by decide) (.ref (eB E + 40)) (Or.inl tw4_177) oS38 vS38_2 dX8_aloneNow_9 ?_
    refine g_iconst (0 : Int32) (by decide) dX8_aloneNow_12 ?_
    refine g_ialdj 0 rfl aS40 (ixb_in rfl) dX8_aloneNow_13 ?_
    obtain ⟨q4, h5, hf⟩ := bnd_some hf
    refine g_callS0i (As := [.int (sI st 40 0)]) (rest := []) mok_X8_firstOf tw6_238 tw6_239 B.1 (by decide) (kX8_firstOf  h5) rfl rfl (Nat.le_of_ble_eq_true rfl) ⟨Nat.le_refl _, Nat.le_refl _⟩ dX8_aloneNow_14 ?_
    refine g_goto 21 (by decide) dX8_aloneNow_17 ?_
    exact g_iret B.2.2.2 B.2.2.1 (congrArg (fun z => some (Value.int z)) (Option.some.inj hf).symm) rfl dX8_aloneNow_21
theorem kX8_aloneNow {l : Launch} {E : Ev} {st : St}  {r0 : Int32}  (hf : fX8_aloneNow st = some r0) : CM l E WT yX8_aloneNow cX8_aloneNow 1 (some FieldType.int) 2 0 0 [.ref (eB E + 38)] st (some (.int r0)) st :=
  CM.intro mok_X8_aloneNow (Nat.le_of_ble_eq_true rfl) (fun x hl hR ht hr hQ _ => wX8_aloneNow ⟨hR, ht, hr, hQ⟩  hf)
def fX8_leftBy_b67  (st : St) : Option (Int32 × St) :=
  (fX8_aloneNow st).bind (fun q1 => (fX8_takesBack (0 : Int32) st).bind (fun q3 => some (q1, q3)))
set_option maxHeartbeats 1000000 in
set_option maxRecDepth 20000 in
theorem wX8_leftBy_b67 {E : Ev} {x : Cx} {r0 : Int32} {u0 : St} (B : Bd E x (some FieldType.int) (211) 0 0 (some (.int r0)) u0)  (st : St)  (hf : fX8_leftBy_b67 st = some (r0, u0)) : G E WT x RX8 cX8_leftBy 4 (0, 0) st 67 [(0, .ref (eB E + 38))] [] := by
  unfold fX8_leftBy_b67 at hf
  refine g_aload_n rfl 0 rfl dX8_leftBy_67 ?_
  obtain ⟨q1, h2, hf⟩ := bnd_some hf
  refine g_callV0i (As := []) (rest := []) cok8 mok_X8_aloneNow tw6_234 tw6_236 ts8_15 oS38 B.1 (by decide) (kX8_aloneNow  h2) rfl rfl (Nat.le_of_ble_eq_true rfl) ⟨Nat.le_refl _, Nat.le_refl _⟩ dX8_leftBy_68 ?_
  refine g_istore_n rfl [(2, .int q1), (0, .ref (eB E + 38))] (by decide) rfl dX8_leftBy_71 ?_
  refine g_aload_n rfl 1 rfl dX8_leftBy_72 ?_
  refine g_iconst (0 : Int32) (by decide) dX8_leftBy_73 ?_
  obtain ⟨q3, h4, hf⟩ := bnd_some hf
  refine g_callV0v (As := [.int (0 : Int32)]) (rest := []) cok8 mok_X8_takesBack tw7_1 tw7_3 ts9_0 oS38 B.1 (by decide) (kX8_takesBack  h4) rfl rfl (Nat.le_of_ble_eq_true rfl) ⟨Nat.le_refl _, Nat.le_refl _⟩ dX8_leftBy_74 ?_
  refine g_iload_n rfl 0 rfl dX8_leftBy_77 ?_
  exact g_iret B.2.2.2 B.2.2.1 (congrArg (fun z => some (Value.int z)) (Prod.mk.inj (Option.some.inj hf)).1.symm) (Prod.mk.inj (Option.some.inj hf)).2.symm dX8_leftBy_78
def fX8_leftBy_b61 (k12 : Int32 → Int32 → St → Option (Int32 × St))(l1 : Int32) (l2 : Int32) (st : St) : Option (Int32 × St) :=
  k12 l1 (l2 + (1 : Int32)) st
set_option maxHeartbeats 1000000 in
set_option maxRecDepth 20000 in
theorem wX8_leftBy_b61 {E : Ev} {x : Cx} {r0 : Int32} {u0 : St} (B : Bd E x (some FieldType.int) (211) 0 0 (some (.int r0)) u0) {k12 : Int32 → Int32 → St → Option (Int32 × St)} (hk12 : ∀ (l1 : Int32) (l2 : Int32) (st : St), k12 l1 l2 st = some (r0, u0) → G E WT x RX8 cX8_leftBy 4 (0, 0) st 12 [(0, .ref (eB E + 38)), (1, .int l1), (2, .int l2)] []) (l1 : Int32) (l2 : Int32) (st : St)  (hf : fX8_leftBy_b61 k12 l1 l2 st = some (r0, u0)) : G E WT x RX8 cX8_leftBy 4 (0, 0) st 61 [(0, .ref (eB E + 38)), (1, .int l1), (2, .int l2)] [] := by
  unfold fX8_leftBy_b61 at hf
  refine g_iinc (l2 + (1 : Int32)) [(2, .int (l2 + (1 : Int32))), (0, .ref (eB E + 38)), (1, .int l1)] 2 rfl (congrArg (fun z => l2 + z) (show Int32.ofInt (1) = (1 : Int32) by decide)) (by decide) rfl dX8_leftBy_61 ?_
  refine g_goto 12 (by decide) dX8_leftBy_64 ?_
  refine g_lvs [1, 2, 0] rfl ?_
  exact hk12 l1 (l2 + (1 : Int32)) st hf
def fX8_leftBy_b12 : Nat → Int32 → Int32 → St → Option (Int32 × St)
  | 0, _, _, _ => none
  | n + 1, l1, l2, st => if (60 : Int32) ≤ l2 then (fX8_leftBy_b67  st) else ((fX8_canSay st).bind (fun q2 => if q2 = 0 then (fX8_leftBy_b67  st) else ((fX8_says l1 (0 : Int32) st).bind (fun q5 => if q5.1 < (100 : Int32) then (chk (ixb (sI q5.2 38 34) 60) (fX8_leftBy_b61 (fun zl1 zl2 zst => fX8_leftBy_b12 n zl1 zl2 zst) l1 l2 (pI (pI q5.2 54 ((sI q5.2 38 34).toNatClampNeg) q5.1) 38 34 ((sI (pI q5.2 54 ((sI q5.2 38 34).toNatClampNeg) q5.1) 38 34) + (1 : Int32))))) else (fX8_leftBy_b61 (fun zl1 zl2 zst => fX8_leftBy_b12 n zl1 zl2 zst) l1 l2 q5.2)))))
set_option maxHeartbeats 1000000 in
set_option maxRecDepth 20000 in
theorem wX8_leftBy_b12 {E : Ev} {x : Cx} {r0 : Int32} {u0 : St} (B : Bd E x (some FieldType.int) (211) 0 0 (some (.int r0)) u0) : ∀ (n : Nat) (l1 : Int32) (l2 : Int32) (st : St) , fX8_leftBy_b12 n l1 l2 st = some (r0, u0) → G E WT x RX8 cX8_leftBy 4 (0, 0) st 12 [(0, .ref (eB E + 38)), (1, .int l1), (2, .int l2)] [] := by
  intro n
  induction n with
  | zero =>
    intros
    rename_i hf
    rw [fX8_leftBy_b12] at hf
    cases hf
  | succ n ih =>
    intro l1 l2 st hf
    rw [fX8_leftBy_b12] at hf
    refine g_iload_n rfl 2 rfl dX8_leftBy_12 ?_
    refine g_bipush (60 : Int32) (by decide) dX8_leftBy_13 ?_
    refine g_icmp_ge 67 (by decide) dX8_leftBy_15 (fun h1 => ?_) (fun h1 => ?_)
    · rw [if_pos h1] at hf
      refine g_lvs [0] rfl ?_
      exact wX8_leftBy_b67 B  st hf
    · rw [if_neg h1] at hf
      refine g_aload_n rfl 0 rfl dX8_leftBy_18 ?_
      obtain ⟨q2, h3, hf⟩ := bnd_some hf
      refine g_callV0i (As := []) (rest := []) cok8 mok_X8_canSay tw6_136 tw6_138 ts7_14 oS38 B.1 (by decide) (kX8_canSay  h3) rfl rfl (Nat.le_of_ble_eq_true rfl) ⟨Nat.le_refl _, Nat.le_refl _⟩ dX8_leftBy_19 ?_
      refine g_if_eq 67 (by decide) dX8_leftBy_22 (fun h4 => ?_) (fun h4 => ?_)
      · rw [if_pos h4] at hf
        refine g_lvs [0] rfl ?_
        exact wX8_leftBy_b67 B  st hf
      · rw [if_neg h4] at hf
        refine g_aload_n rfl 0 rfl dX8_leftBy_25 ?_
        refine g_iload_n rfl 1 rfl dX8_leftBy_26 ?_
        refine g_iconst (0 : Int32) (by decide) dX8_leftBy_27 ?_
        obtain ⟨q5, h6, hf⟩ := bnd_some hf
        refine g_callV0i (As := [.int l1, .int (0 : Int32)]) (rest := []) cok8 mok_X8_says tw6_182 tw6_184 ts8_6 oS38 B.1 (by decide) (kX8_says  h6) rfl rfl (Nat.le_of_ble_eq_true rfl) ⟨Nat.le_refl _, Nat.le_refl _⟩ dX8_leftBy_28 ?_
        refine g_istore_n rfl [(3, .int q5.1), (0, .ref (eB E + 38)), (1, .int l1), (2, .int l2)] (by decide) rfl dX8_leftBy_31 ?_
        refine g_iload_n rfl 0 rfl dX8_leftBy_32 ?_
        refine g_bipush (100 : Int32) (by decide) dX8_leftBy_33 ?_
        refine g_icmp_lt 41 (by decide) dX8_leftBy_35 (fun h7 => ?_) (fun h7 => ?_)
        · rw [if_pos h7] at hf
          refine g_aload_n rfl 1 rfl dX8_leftBy_41 ?_
          refine g_get (j := 33) cok8 (by decide) (.ref (eB E + 54)) (Or.inl tw4_208) oS38 vS38_33 dX8_leftBy_42 ?_
          refine g_aload_n rfl 1 rfl dX8_leftBy_45 ?_
          refine g_get (j := 34) cok8 (by decide) (.int (sI q5.2 38 34)) (Or.inl tw4_209) oS38 (fun _ => rfl) dX8_leftBy_46 ?_
          refine g_iload_n rfl 0 rfl dX8_leftBy_49 ?_
          obtain ⟨h8, hf⟩ := chk_some hf
          refine g_iastj ((sI q5.2 38 34).toNatClampNeg) rfl aS54 (ixb_in h8) B.2.1 wpI dX8_leftBy_50 ?_
          refine g_aload_n rfl 1 rfl dX8_leftBy_51 ?_
          refine g_dup rfl dX8_leftBy_52 ?_
          refine g_get (j := 34) cok8 (by decide) (.int (sI (pI q5.2 54 ((sI q5.2 38 34).toNatClampNeg) q5.1) 38 34)) (Or.inl tw4_209) oS38 (fun _ => rfl) dX8_leftBy_53 ?_
          refine g_iconst (1 : Int32) (by decide) dX8_leftBy_56 ?_
          refine g_iadd dX8_leftBy_57 ?_
          refine g_putI (j := 34) cok8 (by decide) rfl rfl rfl rfl (Or.inl tw4_209) oS38 B.2.1 wpI dX8_leftBy_58 ?_
          refine g_lvs [1, 2, 3] rfl ?_
          exact wX8_leftBy_b61 B ih l1 l2 (pI (pI q5.2 54 ((sI q5.2 38 34).toNatClampNeg) q5.1) 38 34 ((sI (pI q5.2 54 ((sI q5.2 38 34).toNatClampNeg) q5.1) 38 34) + (1 : Int32))) hf
        · rw [if_neg h7] at hf
          refine g_goto 61 (by decide) dX8_leftBy_38 ?_
          refine g_lvs [1, 2, 3] rfl ?_
          exact wX8_leftBy_b61 B ih l1 l2 q5.2 hf
def fX8_leftBy (p1 : Int32) (st : St) : Option (Int32 × St) :=
  (fX8_laysAside (0 : Int32) st).bind (fun q1 => fX8_leftBy_b12 FU p1 (0 : Int32) (pI q1 38 34 (0 : Int32)))
set_option maxHeartbeats 1000000 in
set_option maxRecDepth 20000 in
theorem wX8_leftBy {E : Ev} {x : Cx} {r0 : Int32} {u0 : St} (B : Bd E x (some FieldType.int) (211) 0 0 (some (.int r0)) u0) (p1 : Int32) (st : St)  (hf : fX8_leftBy p1 st = some (r0, u0)) : G E WT x RX8 cX8_leftBy 4 (0, 0) st 0 [(0, .ref (eB E + 38)), (1, .int p1)] [] := by
  unfold fX8_leftBy at hf
  refine g_aload_n rfl 0 rfl dX8_leftBy_0 ?_
  refine g_iconst (0 : Int32) (by decide) dX8_leftBy_1 ?_
  obtain ⟨q1, h2, hf⟩ := bnd_some hf
  refine g_callV0v (As := [.int (0 : Int32)]) (rest := []) cok8 mok_X8_laysAside tw6_230 tw6_232 ts8_14 oS38 B.1 (by decide) (kX8_laysAside  h2) rfl rfl (Nat.le_of_ble_eq_true rfl) ⟨Nat.le_refl _, Nat.le_refl _⟩ dX8_leftBy_2 ?_
  refine g_aload_n rfl 0 rfl dX8_leftBy_5 ?_
  refine g_iconst (0 : Int32) (by decide) dX8_leftBy_6 ?_
  refine g_putI (j := 34) cok8 (by decide) rfl rfl rfl rfl (Or.inl tw4_209) oS38 B.2.1 wpI dX8_leftBy_7 ?_
  refine g_iconst (0 : Int32) (by decide) dX8_leftBy_10 ?_
  refine g_istore_n rfl [(2, .int (0 : Int32)), (0, .ref (eB E + 38)), (1, .int p1)] (by decide) rfl dX8_leftBy_11 ?_
  refine g_lvs [1, 2, 0] rfl ?_
  exact wX8_leftBy_b12 B  FU p1 (0 : Int32) (pI q1 38 34 (0 : Int32)) hf
theorem kX8_leftBy {l : Launch} {E : Ev} {st : St} {p1 : Int32} {r0 : Int32} {u0 : St}  (hf : fX8_leftBy p1 st = some (r0, u0)) : CM l E WT yX8_leftBy cX8_leftBy 4 (some FieldType.int) 211 0 0 [.ref (eB E + 38), .int p1] st (some (.int r0)) u0 :=
  CM.intro mok_X8_leftBy (Nat.le_of_ble_eq_true rfl) (fun x hl hR ht hr hQ _ => wX8_leftBy ⟨hR, ht, hr, hQ⟩ p1 st hf)
def fX8_left (p1 : Int32) (p2 : Int32) (st : St) : Option (Int32 × St) :=
  if (fX8_isRhyme st p1) = 0 then (some ((-1 : Int32), st)) else (if (-1 : Int32) ≤ p2 then ((fX8_leftBy p1 st).bind (fun q3 => if p2 = (-1 : Int32) then (some (q3.1, q3.2)) else (if q3.1 = (-1 : Int32) then (some (q3.1, q3.2)) else (if (sI q3.2 38 34) ≤ p2 then (some ((-1 : Int32), q3.2)) else (chk (ixb p2 60) (some (sI q3.2 54 p2.toNatClampNeg, q3.2))))))) else (some ((-1 : Int32), st)))
set_option maxHeartbeats 1000000 in
set_option maxRecDepth 20000 in
theorem wX8_left {E : Ev} {x : Cx} {r0 : Int32} {u0 : St} (B : Bd E x (some FieldType.int) (212) 0 0 (some (.int r0)) u0) (p1 : Int32) (p2 : Int32) (st : St)  (hf : fX8_left p1 p2 st = some (r0, u0)) : G E WT x RX8 cX8_left 4 (0, 0) st 0 [(0, .ref (eB E + 38)), (1, .int p1), (2, .int p2)] [] := by
  unfold fX8_left at hf
  refine g_aload_n rfl 0 rfl dX8_left_0 ?_
  refine g_iload_n rfl 1 rfl dX8_left_1 ?_
  refine g_callV0i (As := [.int p1]) (rest := []) cok8 mok_X8_isRhyme tw5_161 tw5_163 ts5_8 oS38 B.1 (by decide) (kX8_isRhyme  rfl) rfl rfl (Nat.le_of_ble_eq_true rfl) ⟨Nat.le_refl _, Nat.le_refl _⟩ dX8_left_2 ?_
  refine g_if_eq 13 (by decide) dX8_left_5 (fun h1 => ?_) (fun h1 => ?_)
  · rw [if_pos h1] at hf
    refine g_iconst (-1 : Int32) (by decide) dX8_left_13 ?_
    exact g_iret B.2.2.2 B.2.2.1 (congrArg (fun z => some (Value.int z)) (Prod.mk.inj (Option.some.inj hf)).1.symm) (Prod.mk.inj (Option.some.inj hf)).2.symm dX8_left_14
  · rw [if_neg h1] at hf
    refine g_iload_n rfl 2 rfl dX8_left_8 ?_
    refine g_iconst (-1 : Int32) (by decide) dX8_left_9 ?_
    refine g_icmp_ge 15 (by decide) dX8_left_10 (fun h2 => ?_) (fun h2 => ?_)
    · rw [if_pos h2] at hf
      refine g_aload_n rfl 0 rfl dX8_left_15 ?_
      refine g_iload_n rfl 1 rfl dX8_left_16 ?_
      obtain ⟨q3, h4, hf⟩ := bnd_some hf
      refine g_callV0i (As := [.int p1]) (rest := []) cok8 mok_X8_leftBy tw6_226 tw6_228 ts8_13 oS38 B.1 (by decide) (kX8_leftBy  h4) rfl rfl (Nat.le_of_ble_eq_true rfl) ⟨Nat.le_refl _, Nat.le_refl _⟩ dX8_left_17 ?_
      refine g_istore_n rfl [(3, .int q3.1), (0, .ref (eB E + 38)), (1, .int p1), (2, .int p2)] (by decide) rfl dX8_left_20 ?_
      refine g_iload_n rfl 3 rfl dX8_left_21 ?_
      refine g_iconst (-1 : Int32) (by decide) dX8_left_22 ?_
      refine g_icmp_eq 31 (by decide) dX8_left_23 (fun h5 => ?_) (fun h5 => ?_)
      · rw [if_pos h5] at hf
        refine g_iload_n rfl 0 rfl dX8_left_31 ?_
        exact g_iret B.2.2.2 B.2.2.1 (congrArg (fun z => some (Value.int z)) (Prod.mk.inj (Option.some.inj hf)).1.symm) (Prod.mk.inj (Option.some.inj hf)).2.symm dX8_left_32
      · rw [if_neg h5] at hf
        refine g_iload_n rfl 0 rfl dX8_left_26 ?_
        refine g_iconst (-1 : Int32) (by decide) dX8_left_27 ?_
        refine g_icmp_ne 33 (by decide) dX8_left_28 (fun h6 => ?_) (fun h6 => ?_)
        · rw [if_neg h6] at hf
          refine g_iload_n rfl 3 rfl dX8_left_33 ?_
          refine g_aload_n rfl 1 rfl dX8_left_34 ?_
          refine g_get (j := 34) cok8 (by decide) (.int (sI q3.2 38 34)) (Or.inl tw4_209) oS38 (fun _ => rfl) dX8_left_35 ?_
          refine g_icmp_ge 50 (by decide) dX8_left_38 (fun h7 => ?_) (fun h7 => ?_)
          · rw [if_pos h7] at hf
            refine g_iconst (-1 : Int32) (by decide) dX8_left_50 ?_
            exact g_iret B.2.2.2 B.2.2.1 (congrArg (fun z => some (Value.int z)) (Prod.mk.inj (Option.some.inj hf)).1.symm) (Prod.mk.inj (Option.some.inj hf)).2.symm dX8_left_51
          · rw [if_neg h7] at hf
            refine g_aload_n rfl 1 rfl dX8_left_41 ?_
            refine g_get (j := 33) cok8 (by decide) (.ref (eB E + 54)) (Or.inl tw4_208) oS38 vS38_33 dX8_left_42 ?_
            refine g_iload_n rfl 3 rfl dX8_left_45 ?_
            obtain ⟨h8, hf⟩ := chk_some hf
            refine g_ialdj p2.toNatClampNeg rfl aS54 (ixb_in h8) dX8_left_46 ?_
            refine g_goto 51 (by decide) dX8_left_47 ?_
            exact g_iret B.2.2.2 B.2.2.1 (congrArg (fun z => some (Value.int z)) (Prod.mk.inj (Option.some.inj hf)).1.symm) (Prod.mk.inj (Option.some.inj hf)).2.symm dX8_left_51
        · rw [if_pos h6] at hf
          refine g_iload_n rfl 0 rfl dX8_left_31 ?_
          exact g_iret B.2.2.2 B.2.2.1 (congrArg (fun z => some (Value.int z)) (Prod.mk.inj (Option.some.inj hf)).1.symm) (Prod.mk.inj (Option.some.inj hf)).2.symm dX8_left_32
    · rw [if_neg h2] at hf
      refine g_iconst (-1 : Int32) (by decide) dX8_left_13 ?_
      exact g_iret B.2.2.2 B.2.2.1 (congrArg (fun z => some (Value.int z)) (Prod.mk.inj (Option.some.inj hf)).1.symm) (Prod.mk.inj (Option.some.inj hf)).2.symm dX8_left_14
theorem kX8_left {l : Launch} {E : Ev} {st : St} {p1 : Int32} {p2 : Int32} {r0 : Int32} {u0 : St}  (hf : fX8_left p1 p2 st = some (r0, u0)) : CM l E WT yX8_left cX8_left 4 (some FieldType.int) 212 0 0 [.ref (eB E + 38), .int p1, .int p2] st (some (.int r0)) u0 :=
  CM.intro mok_X8_left (Nat.le_of_ble_eq_true rfl) (fun x hl hR ht hr hQ _ => wX8_left ⟨hR, ht, hr, hQ⟩ p1 p2 st hf)
def fX8_safe_b70 (k31 : Int32 → Int32 → Int32 → Int32 → Int32 → St → Option (Int32 × St))(l1 : Int32) (l2 : Int32) (l3 : Int32) (l5 : Int32) (s0 : Int32) (s1 : Int32) (st : St) : Option (Int32 × St) :=
  k31 l1 l2 l3 (s0 ||| s1) (l5 + (1 : Int32)) st
set_option maxHeartbeats 1000000 in
set_option maxRecDepth 20000 in
theorem wX8_safe_b70 {E : Ev} {x : Cx} {r0 : Int32} {u0 : St} (B : Bd E x (some FieldType.int) (212) 0 0 (some (.int r0)) u0) {k31 : Int32 → Int32 → Int32 → Int32 → Int32 → St → Option (Int32 × St)} (hk31 : ∀ (l1 : Int32) (l2 : Int32) (l3 : Int32) (l4 : Int32) (l5 : Int32) (st : St), k31 l1 l2 l3 l4 l5 st = some (r0, u0) → G E WT x RX8 cX8_safe 6 (0, 0) st 31 [(0, .ref (eB E + 38)), (1, .int l1), (2, .int l2), (3, .int l3), (4, .int l4), (5, .int l5)] []) (l1 : Int32) (l2 : Int32) (l3 : Int32) (l5 : Int32) (s0 : Int32) (s1 : Int32) (st : St)  (hf : fX8_safe_b70 k31 l1 l2 l3 l5 s0 s1 st = some (r0, u0)) : G E WT x RX8 cX8_safe 6 (0, 0) st 70 [(0, .ref (eB E + 38)), (1, .int l1), (2, .int l2), (3, .int l3), (5, .int l5)] [.int s1, .int s0] := by
  unfold fX8_safe_b70 at hf
  refine g_ior dX8_safe_70 ?_
  refine g_istore [(4, .int (s0 ||| s1)), (0, .ref (eB E + 38)), (1, .int l1), (2, .int l2), (3, .int l3), (5, .int l5)] (by decide) rfl dX8_safe_71 ?_
  refine g_iinc (l5 + (1 : Int32)) [(5, .int (l5 + (1 : Int32))), (4, .int (s0 ||| s1)), (0, .ref (eB E + 38)), (1, .int l1), (2, .int l2), (3, .int l3)] 5 rfl (congrArg (fun z => l5 + z) (show Int32.ofInt (1) = (1 : Int32) by decide)) (by decide) rfl dX8_safe_73 ?_
  refine g_goto 31 (by decide) dX8_safe_76 ?_
  refine g_lvs [2, 3, 4, 5, 1, 0] rfl ?_
  exact hk31 l1 l2 l3 (s0 ||| s1) (l5 + (1 : Int32)) st hf
def fX8_safe_b31 : Nat → Int32 → Int32 → Int32 → Int32 → Int32 → St → Option (Int32 × St)
  | 0, _, _, _, _, _, _ => none
  | n + 1, l1, l2, l3, l4, l5, st => if (sI st 40 16) ≤ l5 then (some (l4, pI st 40 1 l3)) else ((fX8_leftBy l2 (pI st 40 1 l5)).bind (fun q2 => if q2.1 = l1 then (fX8_safe_b70 (fun zl1 zl2 zl3 zl4 zl5 zst => fX8_safe_b31 n zl1 zl2 zl3 zl4 zl5 zst) l1 l2 l3 l5 l4 (jshl (1 : Int32) l5) q2.2) else (fX8_safe_b70 (fun zl1 zl2 zl3 zl4 zl5 zst => fX8_safe_b31 n zl1 zl2 zl3 zl4 zl5 zst) l1 l2 l3 l5 l4 (0 : Int32) q2.2)))
set_option maxHeartbeats 1000000 in
set_option maxRecDepth 20000 in
theorem wX8_safe_b31 {E : Ev} {x : Cx} {r0 : Int32} {u0 : St} (B : Bd E x (some FieldType.int) (212) 0 0 (some (.int r0)) u0) : ∀ (n : Nat) (l1 : Int32) (l2 : Int32) (l3 : Int32) (l4 : Int32) (l5 : Int32) (st : St) , fX8_safe_b31 n l1 l2 l3 l4 l5 st = some (r0, u0) → G E WT x RX8 cX8_safe 6 (0, 0) st 31 [(0, .ref (eB E + 38)), (1, .int l1), (2, .int l2), (3, .int l3), (4, .int l4), (5, .int l5)] [] := by
  intro n
  induction n with
  | zero =>
    intros
    rename_i hf
    rw [fX8_safe_b31] at hf
    cases hf
  | succ n ih =>
    intro l1 l2 l3 l4 l5 st hf
    rw [fX8_safe_b31] at hf
    refine g_iload 5 rfl dX8_safe_31 ?_
    refine g_aload_n rfl 0 rfl dX8_safe_33 ?_
    refine g_get (j := 2) cok8 (by decide) (.ref (eB E + 40)) (Or.inl tw4_177) oS38 vS38_2 dX8_safe_34 ?_
    refine g_bipush (16 : Int32) (by decide) dX8_safe_37 ?_
    refine g_ialdj 16 rfl aS40 (ixb_in rfl) dX8_safe_39 ?_
    refine g_icmp_ge 79 (by decide) dX8_safe_40 (fun h1 => ?_) (fun h1 => ?_)
    · rw [if_pos h1] at hf
      refine g_aload_n rfl 0 rfl dX8_safe_79 ?_
      refine g_get (j := 2) cok8 (by decide) (.ref (eB E + 40)) (Or.inl tw4_177) oS38 vS38_2 dX8_safe_80 ?_
      refine g_iconst (1 : Int32) (by decide) dX8_safe_83 ?_
      refine g_iload_n rfl 3 rfl dX8_safe_84 ?_
      refine g_iastj 1 rfl aS40 (ixb_in rfl) B.2.1 wpI dX8_safe_85 ?_
      refine g_iload 4 rfl dX8_safe_86 ?_
      exact g_iret B.2.2.2 B.2.2.1 (congrArg (fun z => some (Value.int z)) (Prod.mk.inj (Option.some.inj hf)).1.symm) (Prod.mk.inj (Option.some.inj hf)).2.symm dX8_safe_88
    · rw [if_neg h1] at hf
      refine g_aload_n rfl 0 rfl dX8_safe_43 ?_
      refine g_get (j := 2) cok8 (by decide) (.ref (eB E + 40)) (Or.inl tw4_177) oS38 vS38_2 dX8_safe_44 ?_
      refine g_iconst (1 : Int32) (by decide) dX8_safe_47 ?_
      refine g_iload 5 rfl dX8_safe_48 ?_
      refine g_iastj 1 rfl aS40 (ixb_in rfl) B.2.1 wpI dX8_safe_50 ?_
      refine g_iload 4 rfl dX8_safe_51 ?_
      refine g_aload_n rfl 0 rfl dX8_safe_53 ?_
      refine g_iload_n rfl 2 rfl dX8_safe_54 ?_
      obtain ⟨q2, h3, hf⟩ := bnd_some hf
      refine g_callV0i (As := [.int l2]) (rest := [.int l4]) cok8 mok_X8_leftBy tw6_226 tw6_228 ts8_13 oS38 B.1 (by decide) (kX8_leftBy  h3) rfl rfl (Nat.le_of_ble_eq_true rfl) ⟨Nat.le_refl _, Nat.le_refl _⟩ dX8_safe_55 ?_
      refine g_iload_n rfl 1 rfl dX8_safe_58 ?_
      refine g_icmp_ne 69 (by decide) dX8_safe_59 (fun h4 => ?_) (fun h4 => ?_)
      · rw [if_neg h4] at hf
        refine g_iconst (0 : Int32) (by decide) dX8_safe_69 ?_
        refine g_lvs [0, 1, 2, 3, 5] rfl ?_
        exact wX8_safe_b70 B ih l1 l2 l3 l5 l4 (0 : Int32) q2.2 hf
      · rw [if_pos h4] at hf
        refine g_iconst (1 : Int32) (by decide) dX8_safe_62 ?_
        refine g_iload 5 rfl dX8_safe_63 ?_
        refine g_ishl dX8_safe_65 ?_
        refine g_goto 70 (by decide) dX8_safe_66 ?_
        refine g_lvs [0, 1, 2, 3, 5] rfl ?_
        exact wX8_safe_b70 B ih l1 l2 l3 l5 l4 (jshl (1 : Int32) l5) q2.2 hf
def fX8_safe (p1 : Int32) (p2 : Int32) (st : St) : Option (Int32 × St) :=
  if (fX8_isChild st p1) = 0 then (some ((-1 : Int32), st)) else (if (fX8_isRhyme st p2) = 0 then (some ((-1 : Int32), st)) else (fX8_safe_b31 FU p1 p2 (sI st 40 1) (0 : Int32) (0 : Int32) st))
set_option maxHeartbeats 1000000 in
set_option maxRecDepth 20000 in
theorem wX8_safe {E : Ev} {x : Cx} {r0 : Int32} {u0 : St} (B : Bd E x (some FieldType.int) (212) 0 0 (some (.int r0)) u0) (p1 : Int32) (p2 : Int32) (st : St)  (hf : fX8_safe p1 p2 st = some (r0, u0)) : G E WT x RX8 cX8_safe 6 (0, 0) st 0 [(0, .ref (eB E + 38)), (1, .int p1), (2, .int p2)] [] := by
  unfold fX8_safe at hf
  refine g_aload_n rfl 0 rfl dX8_safe_0 ?_
  refine g_iload_n rfl 1 rfl dX8_safe_1 ?_
  refine g_callV0i (As := [.int p1]) (rest := []) cok8 mok_X8_isChild tw5_149 tw5_151 ts5_7 oS38 B.1 (by decide) (kX8_isChild  rfl) rfl rfl (Nat.le_of_ble_eq_true rfl) ⟨Nat.le_refl _, Nat.le_refl _⟩ dX8_safe_2 ?_
  refine g_if_eq 16 (by decide) dX8_safe_5 (fun h1 => ?_) (fun h1 => ?_)
  · rw [if_pos h1] at hf
    refine g_iconst (-1 : Int32) (by decide) dX8_safe_16 ?_
    exact g_iret B.2.2.2 B.2.2.1 (congrArg (fun z => some (Value.int z)) (Prod.mk.inj (Option.some.inj hf)).1.symm) (Prod.mk.inj (Option.some.inj hf)).2.symm dX8_safe_17
  · rw [if_neg h1] at hf
    refine g_aload_n rfl 0 rfl dX8_safe_8 ?_
    refine g_iload_n rfl 2 rfl dX8_safe_9 ?_
    refine g_callV0i (As := [.int p2]) (rest := []) cok8 mok_X8_isRhyme tw5_161 tw5_163 ts5_8 oS38 B.1 (by decide) (kX8_isRhyme  rfl) rfl rfl (Nat.le_of_ble_eq_true rfl) ⟨Nat.le_refl _, Nat.le_refl _⟩ dX8_safe_10 ?_
    refine g_if_ne 18 (by decide) dX8_safe_13 (fun h2 => ?_) (fun h2 => ?_)
    · rw [if_neg h2] at hf
      refine g_aload_n rfl 0 rfl dX8_safe_18 ?_
      refine g_get (j := 2) cok8 (by decide) (.ref (eB E + 40)) (Or.inl tw4_177) oS38 vS38_2 dX8_safe_19 ?_
      refine g_iconst (1 : Int32) (by decide) dX8_safe_22 ?_
      refine g_ialdj 1 rfl aS40 (ixb_in rfl) dX8_safe_23 ?_
      refine g_istore_n rfl [(3, .int (sI st 40 1)), (0, .ref (eB E + 38)), (1, .int p1), (2, .int p2)] (by decide) rfl dX8_safe_24 ?_
      refine g_iconst (0 : Int32) (by decide) dX8_safe_25 ?_
      refine g_istore [(4, .int (0 : Int32)), (3, .int (sI st 40 1)), (0, .ref (eB E + 38)), (1, .int p1), (2, .int p2)] (by decide) rfl dX8_safe_26 ?_
      refine g_iconst (0 : Int32) (by decide) dX8_safe_28 ?_
      refine g_istore [(5, .int (0 : Int32)), (4, .int (0 : Int32)), (3, .int (sI st 40 1)), (0, .ref (eB E + 38)), (1, .int p1), (2, .int p2)] (by decide) rfl dX8_safe_29 ?_
      refine g_lvs [3, 4, 5, 2, 1, 0] rfl ?_
      exact wX8_safe_b31 B  FU p1 p2 (sI st 40 1) (0 : Int32) (0 : Int32) st hf
    · rw [if_pos h2] at hf
      refine g_iconst (-1 : Int32) (by decide) dX8_safe_16 ?_
      exact g_iret B.2.2.2 B.2.2.1 (congrArg (fun z => some (Value.int z)) (Prod.mk.inj (Option.some.inj hf)).1.symm) (Prod.mk.inj (Option.some.inj hf)).2.symm dX8_safe_17
theorem kX8_safe {l : Launch} {E : Ev} {st : St} {p1 : Int32} {p2 : Int32} {r0 : Int32} {u0 : St}  (hf : fX8_safe p1 p2 st = some (r0, u0)) : CM l E WT yX8_safe cX8_safe 6 (some FieldType.int) 212 0 0 [.ref (eB E + 38), .int p1, .int p2] st (some (.int r0)) u0 :=
  CM.intro mok_X8_safe (Nat.le_of_ble_eq_true rfl) (fun x hl hR ht hr hQ _ => wX8_safe ⟨hR, ht, hr, hQ⟩ p1 p2 st hf)
def fX8_compare (p1 : Int32) (p2 : Int32) (st : St) : Option (Int32 × St) :=
  if (fX8_isLaw st p1) = 0 then (some ((-1 : Int32), st)) else (if (fX8_isRhyme st p2) = 0 then (some ((-1 : Int32), st)) else ((fX8_leftBy p2 (pI st 40 19 p1)).bind (fun q3 => some (q3.1, pI q3.2 40 19 (sI st 40 19)))))
set_option maxHeartbeats 1000000 in
set_option maxRecDepth 20000 in
theorem wX8_compare {E : Ev} {x : Cx} {r0 : Int32} {u0 : St} (B : Bd E x (some FieldType.int) (212) 0 0 (some (.int r0)) u0) (p1 : Int32) (p2 : Int32) (st : St)  (hf : fX8_compare p1 p2 st = some (r0, u0)) : G E WT x RX8 cX8_compare 5 (0, 0) st 0 [(0, .ref (eB E + 38)), (1, .int p1), (2, .int p2)] [] := by
  unfold fX8_compare at hf
  refine g_aload_n rfl 0 rfl dX8_compare_0 ?_
  refine g_iload_n rfl 1 rfl dX8_compare_1 ?_
  refine g_callV0i (As := [.int p1]) (rest := []) cok8 mok_X8_isLaw tw6_53 tw6_55 ts6_13 oS38 B.1 (by decide) (kX8_isLaw  rfl) rfl rfl (Nat.le_of_ble_eq_true rfl) ⟨Nat.le_refl _, Nat.le_refl _⟩ dX8_compare_2 ?_
  refine g_if_eq 16 (by decide) dX8_compare_5 (fun h1 => ?_) (fun h1 => ?_)
  · rw [if_pos h1] at hf
    refine g_iconst (-1 : Int32) (by decide) dX8_compare_16 ?_
    exact g_iret B.2.2.2 B.2.2.1 (congrArg (fun z => some (Value.int z)) (Prod.mk.inj (Option.some.inj hf)).1.symm) (Prod.mk.inj (Option.some.inj hf)).2.symm dX8_compare_17
  · rw [if_neg h1] at hf
    refine g_aload_n rfl 0 rfl dX8_compare_8 ?_
    refine g_iload_n rfl 2 rfl dX8_compare_9 ?_
    refine g_callV0i (As := [.int p2]) (rest := []) cok8 mok_X8_isRhyme tw5_161 tw5_163 ts5_8 oS38 B.1 (by decide) (kX8_isRhyme  rfl) rfl rfl (Nat.le_of_ble_eq_true rfl) ⟨Nat.le_refl _, Nat.le_refl _⟩ dX8_compare_10 ?_
    refine g_if_ne 18 (by decide) dX8_compare_13 (fun h2 => ?_) (fun h2 => ?_)
    · rw [if_neg h2] at hf
      refine g_aload_n rfl 0 rfl dX8_compare_18 ?_
      refine g_get (j := 2) cok8 (by decide) (.ref (eB E + 40)) (Or.inl tw4_177) oS38 vS38_2 dX8_compare_19 ?_
      refine g_bipush (19 : Int32) (by decide) dX8_compare_22 ?_
      refine g_ialdj 19 rfl aS40 (ixb_in rfl) dX8_compare_24 ?_
      refine g_istore_n rfl [(3, .int (sI st 40 19)), (0, .ref (eB E + 38)), (1, .int p1), (2, .int p2)] (by decide) rfl dX8_compare_25 ?_
      refine g_aload_n rfl 1 rfl dX8_compare_26 ?_
      refine g_get (j := 2) cok8 (by decide) (.ref (eB E + 40)) (Or.inl tw4_177) oS38 vS38_2 dX8_compare_27 ?_
      refine g_bipush (19 : Int32) (by decide) dX8_compare_30 ?_
      refine g_iload_n rfl 2 rfl dX8_compare_32 ?_
      refine g_iastj 19 rfl aS40 (ixb_in rfl) B.2.1 wpI dX8_compare_33 ?_
      refine g_aload_n rfl 1 rfl dX8_compare_34 ?_
      refine g_iload_n rfl 3 rfl dX8_compare_35 ?_
      obtain ⟨q3, h4, hf⟩ := bnd_some hf
      refine g_callV0i (As := [.int p2]) (rest := []) cok8 mok_X8_leftBy tw6_226 tw6_228 ts8_13 oS38 B.1 (by decide) (kX8_leftBy  h4) rfl rfl (Nat.le_of_ble_eq_true rfl) ⟨Nat.le_refl _, Nat.le_refl _⟩ dX8_compare_36 ?_
      refine g_istore [(4, .int q3.1), (3, .int (sI st 40 19)), (0, .ref (eB E + 38)), (1, .int p1), (2, .int p2)] (by decide) rfl dX8_compare_39 ?_
      refine g_aload_n rfl 2 rfl dX8_compare_41 ?_
      refine g_get (j := 2) cok8 (by decide) (.ref (eB E + 40)) (Or.inl tw4_177) oS38 vS38_2 dX8_compare_42 ?_
      refine g_bipush (19 : Int32) (by decide) dX8_compare_45 ?_
      refine g_iload_n rfl 1 rfl dX8_compare_47 ?_
      refine g_iastj 19 rfl aS40 (ixb_in rfl) B.2.1 wpI dX8_compare_48 ?_
      refine g_iload 0 rfl dX8_compare_49 ?_
      exact g_iret B.2.2.2 B.2.2.1 (congrArg (fun z => some (Value.int z)) (Prod.mk.inj (Option.some.inj hf)).1.symm) (Prod.mk.inj (Option.some.inj hf)).2.symm dX8_compare_51
    · rw [if_pos h2] at hf
      refine g_iconst (-1 : Int32) (by decide) dX8_compare_16 ?_
      exact g_iret B.2.2.2 B.2.2.1 (congrArg (fun z => some (Value.int z)) (Prod.mk.inj (Option.some.inj hf)).1.symm) (Prod.mk.inj (Option.some.inj hf)).2.symm dX8_compare_17
theorem kX8_compare {l : Launch} {E : Ev} {st : St} {p1 : Int32} {p2 : Int32} {r0 : Int32} {u0 : St}  (hf : fX8_compare p1 p2 st = some (r0, u0)) : CM l E WT yX8_compare cX8_compare 5 (some FieldType.int) 212 0 0 [.ref (eB E + 38), .int p1, .int p2] st (some (.int r0)) u0 :=
  CM.intro mok_X8_compare (Nat.le_of_ble_eq_true rfl) (fun x hl hR ht hr hQ _ => wX8_compare ⟨hR, ht, hr, hQ⟩ p1 p2 st hf)
def fX8_stateNow (st : St)  : Int32 :=
  ((6 : Int32) * (sI st 40 0)) + (sI st 40 1)
set_option maxHeartbeats 1000000 in
set_option maxRecDepth 20000 in
theorem wX8_stateNow {E : Ev} {x : Cx} {r0 : Int32} {st : St} (B : Bd E x (some FieldType.int) (0) 0 0 (some (.int r0)) st)   (hf : fX8_stateNow st  = r0) : G E WT x RX8 cX8_stateNow 1 (0, 0) st 0 [(0, .ref (eB E + 38))] [] := by
  unfold fX8_stateNow at hf
  refine g_bipush (6 : Int32) (by decide) dX8_stateNow_0 ?_
  refine g_aload_n rfl 0 rfl dX8_stateNow_2 ?_
  refine g_get (j := 2) cok8 (by decide) (.ref (eB E + 40)) (Or.inl tw4_177) oS38 vS38_2 dX8_stateNow_3 ?_
  refine g_iconst (0 : Int32) (by decide) dX8_stateNow_6 ?_
  refine g_ialdj 0 rfl aS40 (ixb_in rfl) dX8_stateNow_7 ?_
  refine g_imul dX8_stateNow_8 ?_
  refine g_aload_n rfl 0 rfl dX8_stateNow_9 ?_
  refine g_get (j := 2) cok8 (by decide) (.ref (eB E + 40)) (Or.inl tw4_177) oS38 vS38_2 dX8_stateNow_10 ?_
  refine g_iconst (1 : Int32) (by decide) dX8_stateNow_13 ?_
  refine g_ialdj 1 rfl aS40 (ixb_in rfl) dX8_stateNow_14 ?_
  refine g_iadd dX8_stateNow_15 ?_
  exact g_iret B.2.2.2 B.2.2.1 (congrArg (fun z => some (Value.int z)) hf.symm) rfl dX8_stateNow_16
theorem kX8_stateNow {l : Launch} {E : Ev} {st : St}  {r0 : Int32}  (hf : fX8_stateNow st = r0) : CM l E WT yX8_stateNow cX8_stateNow 1 (some FieldType.int) 0 0 0 [.ref (eB E + 38)] st (some (.int r0)) st :=
  CM.intro mok_X8_stateNow (Nat.le_of_ble_eq_true rfl) (fun x hl hR ht hr hQ _ => wX8_stateNow ⟨hR, ht, hr, hQ⟩  hf)
def fX8_insideOf (p0 : Int32) : Int32 :=
  p0 / (6 : Int32)
set_option maxHeartbeats 1000000 in
set_option maxRecDepth 20000 in
theorem wX8_insideOf {E : Ev} {x : Cx} {r0 : Int32} {st : St} (B : Bd E x (some FieldType.int) (0) 0 0 (some (.int r0)) st) (p0 : Int32)  (hf : fX8_insideOf p0 = r0) : G E WT x RX8 cX8_insideOf 1 (0, 0) st 0 [(0, .int p0)] [] := by
  unfold fX8_insideOf at hf
  refine g_iload_n rfl 0 rfl dX8_insideOf_0 ?_
  refine g_bipush (6 : Int32) (by decide) dX8_insideOf_1 ?_
  refine g_idiv (by decide) dX8_insideOf_3 ?_
  exact g_iret B.2.2.2 B.2.2.1 (congrArg (fun z => some (Value.int z)) hf.symm) rfl dX8_insideOf_4
theorem kX8_insideOf {l : Launch} {E : Ev} {st : St} {p0 : Int32} {r0 : Int32}  (hf : fX8_insideOf p0 = r0) : CM l E WT yX8_insideOf cX8_insideOf 1 (some FieldType.int) 0 0 0 [.int p0] st (some (.int r0)) st :=
  CM.intro mok_X8_insideOf (Nat.le_of_ble_eq_true rfl) (fun x hl hR ht hr hQ _ => wX8_insideOf ⟨hR, ht, hr, hQ⟩ p0 hf)
def fX8_setsState (p1 : Int32) (st : St) : Option St :=
  some (pI (pI st 40 0 (fX8_insideOf p1)) 40 1 (jrem p1 (6 : Int32)))
set_option maxHeartbeats 1000000 in
set_option maxRecDepth 20000 in
theorem wX8_setsState {E : Ev} {x : Cx} {u0 : St} (B : Bd E x none (1) 0 0 none u0) (p1 : Int32) (st : St)  (hf : fX8_setsState p1 st = some u0) : G E WT x RX8 cX8_setsState 2 (0, 0) st 0 [(0, .ref (eB E + 38)), (1, .int p1)] [] := by
  unfold fX8_setsState at hf
  refine g_aload_n rfl 0 rfl dX8_setsState_0 ?_
  refine g_get (j := 2) cok8 (by decide) (.ref (eB E + 40)) (Or.inl tw4_177) oS38 vS38_2 dX8_setsState_1 ?_
  refine g_iconst (0 : Int32) (by decide) dX8_setsState_4 ?_
  refine g_iload_n rfl 1 rfl dX8_setsState_5 ?_
  refine g_callS0i (As := [.int p1]) (rest := [.int (0 : Int32), .ref (eB E + 40)]) mok_X8_insideOf tw7_25 tw7_26 B.1 (by decide) (kX8_insideOf  rfl) rfl rfl (Nat.le_of_ble_eq_true rfl) ⟨Nat.le_refl _, Nat.le_refl _⟩ dX8_setsState_6 ?_
  refine g_iastj 0 rfl aS40 (ixb_in rfl) B.2.1 wpI dX8_setsState_9 ?_
  refine g_aload_n rfl 0 rfl dX8_setsState_10 ?_
  refine g_get (j := 2) cok8 (by decide) (.ref (eB E + 40)) (Or.inl tw4_177) oS38 vS38_2 dX8_setsState_11 ?_
  refine g_iconst (1 : Int32) (by decide) dX8_setsState_14 ?_
  refine g_iload_n rfl 1 rfl dX8_setsState_15 ?_
  refine g_bipush (6 : Int32) (by decide) dX8_setsState_16 ?_
  refine g_irem (by decide) dX8_setsState_18 ?_
  refine g_iastj 1 rfl aS40 (ixb_in rfl) B.2.1 wpI dX8_setsState_19 ?_
  exact g_ret B.2.2.2 B.2.2.1 rfl (Option.some.inj hf).symm dX8_setsState_20
theorem kX8_setsState {l : Launch} {E : Ev} {st : St} {p1 : Int32} {u0 : St}  (hf : fX8_setsState p1 st = some u0) : CM l E WT yX8_setsState cX8_setsState 2 none 1 0 0 [.ref (eB E + 38), .int p1] st none u0 :=
  CM.intro mok_X8_setsState (Nat.le_of_ble_eq_true rfl) (fun x hl hR ht hr hQ _ => wX8_setsState ⟨hR, ht, hr, hQ⟩ p1 st hf)
def fX8_isState (st : St) (p1 : Int32) : Int32 :=
  if (fX8_allChildren st) < (fX8_insideOf p1) then ((0 : Int32)) else ((1 : Int32))
set_option maxHeartbeats 1000000 in
set_option maxRecDepth 20000 in
theorem wX8_isState {E : Ev} {x : Cx} {r0 : Int32} {st : St} (B : Bd E x (some FieldType.boolean) (1) 0 0 (some (.int r0)) st) (p1 : Int32)  (hf : fX8_isState st p1 = r0) : G E WT x RX8 cX8_isState 2 (0, 0) st 0 [(0, .ref (eB E + 38)), (1, .int p1)] [] := by
  unfold fX8_isState at hf
  refine g_iload_n rfl 1 rfl dX8_isState_0 ?_
  refine g_callS0i (As := [.int p1]) (rest := []) mok_X8_insideOf tw7_25 tw7_26 B.1 (by decide) (kX8_insideOf  rfl) rfl rfl (Nat.le_of_ble_eq_true rfl) ⟨Nat.le_refl _, Nat.le_refl _⟩ dX8_isState_1 ?_
  refine g_aload_n rfl 0 rfl dX8_isState_4 ?_
  refine g_callV0i (As := []) (rest := [.int (fX8_insideOf p1)]) cok8 mok_X8_allChildren tw6_218 tw6_220 ts8_12 oS38 B.1 (by decide) (kX8_allChildren  rfl) rfl rfl (Nat.le_of_ble_eq_true rfl) ⟨Nat.le_refl _, Nat.le_refl _⟩ dX8_isState_5 ?_
  refine g_icmp_gt 15 (by decide) dX8_isState_8 (fun h1 => ?_) (fun h1 => ?_)
  · rw [if_pos h1] at hf
    refine g_iconst (0 : Int32) (by decide) dX8_isState_15 ?_
    exact g_zret B.2.2.2 B.2.2.1 (by decide) (congrArg (fun z => some (Value.int z)) hf.symm) rfl dX8_isState_16
  · rw [if_neg h1] at hf
    refine g_iconst (1 : Int32) (by decide) dX8_isState_11 ?_
    refine g_goto 16 (by decide) dX8_isState_12 ?_
    exact g_zret B.2.2.2 B.2.2.1 (by decide) (congrArg (fun z => some (Value.int z)) hf.symm) rfl dX8_isState_16
theorem kX8_isState {l : Launch} {E : Ev} {st : St} {p1 : Int32} {r0 : Int32}  (hf : fX8_isState st p1 = r0) : CM l E WT yX8_isState cX8_isState 2 (some FieldType.boolean) 1 0 0 [.ref (eB E + 38), .int p1] st (some (.int r0)) st :=
  CM.intro mok_X8_isState (Nat.le_of_ble_eq_true rfl) (fun x hl hR ht hr hQ _ => wX8_isState ⟨hR, ht, hr, hQ⟩ p1 hf)
theorem fX8_isState_b (st : St) (p1 : Int32) : isb (fX8_isState st p1) = true := by
  unfold fX8_isState
  (repeat' split) <;> first | rfl | exact fX8_lies_b _ _ _
def fX8_laysLeads_b81 (k7 : Int32 → St → Option St)(l1 : Int32) (st : St) : Option St :=
  k7 (l1 + (1 : Int32)) st
set_option maxHeartbeats 1000000 in
set_option maxRecDepth 20000 in
theorem wX8_laysLeads_b81 {E : Ev} {x : Cx} {u0 : St} (B : Bd E x none (211) 0 0 none u0) {k7 : Int32 → St → Option St} (hk7 : ∀ (l1 : Int32) (st : St), k7 l1 st = some u0 → G E WT x RX8 cX8_laysLeads 3 (0, 0) st 7 [(0, .ref (eB E + 38)), (1, .int l1)] []) (l1 : Int32) (st : St)  (hf : fX8_laysLeads_b81 k7 l1 st = some u0) : G E WT x RX8 cX8_laysLeads 3 (0, 0) st 81 [(0, .ref (eB E + 38)), (1, .int l1)] [] := by
  unfold fX8_laysLeads_b81 at hf
  refine g_iinc (l1 + (1 : Int32)) [(1, .int (l1 + (1 : Int32))), (0, .ref (eB E + 38))] 1 rfl (congrArg (fun z => l1 + z) (show Int32.ofInt (1) = (1 : Int32) by decide)) (by decide) rfl dX8_laysLeads_81 ?_
  refine g_goto 7 (by decide) dX8_laysLeads_84 ?_
  refine g_lvs [1, 0] rfl ?_
  exact hk7 (l1 + (1 : Int32)) st hf
def fX8_laysLeads_b38 (k7 : Int32 → St → Option St) : Nat → Int32 → Int32 → St → Option St
  | 0, _, _, _ => none
  | n + 1, l1, l2, st => if (sI st 40 17) ≤ l2 then (fX8_laysLeads_b81 k7 l1 st) else ((fX8_setsState l1 st).bind (fun q2 => (fX8_says l2 (0 : Int32) q2).bind (fun q4 => chk (ixb (((5 : Int32) * l1) + l2) 1920) (fX8_laysLeads_b38 k7 n l1 (l2 + (1 : Int32)) (pI q4.2 55 ((((5 : Int32) * l1) + l2).toNatClampNeg) (fX8_stateNow q4.2))))))
set_option maxHeartbeats 1000000 in
set_option maxRecDepth 20000 in
theorem wX8_laysLeads_b38 {E : Ev} {x : Cx} {u0 : St} (B : Bd E x none (211) 0 0 none u0) {k7 : Int32 → St → Option St} (hk7 : ∀ (l1 : Int32) (st : St), k7 l1 st = some u0 → G E WT x RX8 cX8_laysLeads 3 (0, 0) st 7 [(0, .ref (eB E + 38)), (1, .int l1)] []) : ∀ (n : Nat) (l1 : Int32) (l2 : Int32) (st : St) , fX8_laysLeads_b38 k7 n l1 l2 st = some u0 → G E WT x RX8 cX8_laysLeads 3 (0, 0) st 38 [(0, .ref (eB E + 38)), (1, .int l1), (2, .int l2)] [] := by
  intro n
  induction n with
  | zero =>
    intros
    rename_i hf
    rw [fX8_laysLeads_b38] at hf
    cases hf
  | succ n ih =>
    intro l1 l2 st hf
    rw [fX8_laysLeads_b38] at hf
    refine g_iload_n rfl 2 rfl dX8_laysLeads_38 ?_
    refine g_aload_n rfl 0 rfl dX8_laysLeads_39 ?_
    refine g_get (j := 2) cok8 (by decide) (.ref (eB E + 40)) (Or.inl tw4_177) oS38 vS38_2 dX8_laysLeads_40 ?_
    refine g_bipush (17 : Int32) (by decide) dX8_laysLeads_43 ?_
    refine g_ialdj 17 rfl aS40 (ixb_in rfl) dX8_laysLeads_45 ?_
    refine g_icmp_ge 81 (by decide) dX8_laysLeads_46 (fun h1 => ?_) (fun h1 => ?_)
    · rw [if_pos h1] at hf
      refine g_lvs [0, 1] rfl ?_
      exact wX8_laysLeads_b81 B hk7 l1 st hf
    · rw [if_neg h1] at hf
      refine g_aload_n rfl 0 rfl dX8_laysLeads_49 ?_
      refine g_iload_n rfl 1 rfl dX8_laysLeads_50 ?_
      obtain ⟨q2, h3, hf⟩ := bnd_some hf
      refine g_callV0v (As := [.int l1]) (rest := []) cok8 mok_X8_setsState tw7_28 tw7_30 ts9_3 oS38 B.1 (by decide) (kX8_setsState  h3) rfl rfl (Nat.le_of_ble_eq_true rfl) ⟨Nat.le_refl _, Nat.le_refl _⟩ dX8_laysLeads_51 ?_
      refine g_aload_n rfl 0 rfl dX8_laysLeads_54 ?_
      refine g_iload_n rfl 2 rfl dX8_laysLeads_55 ?_
      refine g_iconst (0 : Int32) (by decide) dX8_laysLeads_56 ?_
      obtain ⟨q4, h5, hf⟩ := bnd_some hf
      refine g_callV0i (As := [.int l2, .int (0 : Int32)]) (rest := []) cok8 mok_X8_says tw6_182 tw6_184 ts8_6 oS38 B.1 (by decide) (kX8_says  h5) rfl rfl (Nat.le_of_ble_eq_true rfl) ⟨Nat.le_refl _, Nat.le_refl _⟩ dX8_laysLeads_57 ?_
      refine g_pop rfl dX8_laysLeads_60 ?_
      refine g_aload_n rfl 0 rfl dX8_laysLeads_61 ?_
      refine g_get (j := 35) cok8 (by decide) (.ref (eB E + 55)) (Or.inl tw4_210) oS38 vS38_35 dX8_laysLeads_62 ?_
      refine g_iconst (5 : Int32) (by decide) dX8_laysLeads_65 ?_
      refine g_iload_n rfl 1 rfl dX8_laysLeads_66 ?_
      refine g_imul dX8_laysLeads_67 ?_
      refine g_iload_n rfl 2 rfl dX8_laysLeads_68 ?_
      refine g_iadd dX8_laysLeads_69 ?_
      refine g_aload_n rfl 0 rfl dX8_laysLeads_70 ?_
      refine g_callV0i (As := []) (rest := [.int (((5 : Int32) * l1) + l2), .ref (eB E + 55)]) cok8 mok_X8_stateNow tw7_32 tw7_34 ts9_4 oS38 B.1 (by decide) (kX8_stateNow  rfl) rfl rfl (Nat.le_of_ble_eq_true rfl) ⟨Nat.le_refl _, Nat.le_refl _⟩ dX8_laysLeads_71 ?_
      obtain ⟨h6, hf⟩ := chk_some hf
      refine g_iastj ((((5 : Int32) * l1) + l2).toNatClampNeg) rfl aS55 (ixb_in h6) B.2.1 wpI dX8_laysLeads_74 ?_
      refine g_iinc (l2 + (1 : Int32)) [(2, .int (l2 + (1 : Int32))), (0, .ref (eB E + 38)), (1, .int l1)] 2 rfl (congrArg (fun z => l2 + z) (show Int32.ofInt (1) = (1 : Int32) by decide)) (by decide) rfl dX8_laysLeads_75 ?_
      refine g_goto 38 (by decide) dX8_laysLeads_78 ?_
      refine g_lvs [1, 2, 0] rfl ?_
      exact ih l1 (l2 + (1 : Int32)) (pI q4.2 55 ((((5 : Int32) * l1) + l2).toNatClampNeg) (fX8_stateNow q4.2)) hf
def fX8_laysLeads_b7 : Nat → Int32 → St → Option St
  | 0, _, _ => none
  | n + 1, l1, st => if (384 : Int32) ≤ l1 then (fX8_takesBack (0 : Int32) st) else (if (fX8_isState st l1) = 0 then (fX8_laysLeads_b81 (fun zl1 zst => fX8_laysLeads_b7 n zl1 zst) l1 st) else ((fX8_ones (fX8_insideOf l1)).bind (fun q3 => if (2 : Int32) ≤ q3 then (fX8_laysLeads_b38 (fun zl1 zst => fX8_laysLeads_b7 n zl1 zst) FU l1 (0 : Int32) st) else (fX8_laysLeads_b81 (fun zl1 zst => fX8_laysLeads_b7 n zl1 zst) l1 st))))
set_option maxHeartbeats 1000000 in
set_option maxRecDepth 20000 in
theorem wX8_laysLeads_b7 {E : Ev} {x : Cx} {u0 : St} (B : Bd E x none (211) 0 0 none u0) : ∀ (n : Nat) (l1 : Int32) (st : St) , fX8_laysLeads_b7 n l1 st = some u0 → G E WT x RX8 cX8_laysLeads 3 (0, 0) st 7 [(0, .ref (eB E + 38)), (1, .int l1)] [] := by
  intro n
  induction n with
  | zero =>
    intros
    rename_i hf
    rw [fX8_laysLeads_b7] at hf
    cases hf
  | succ n ih =>
    intro l1 st hf
    rw [fX8_laysLeads_b7] at hf
    refine g_iload_n rfl 1 rfl dX8_laysLeads_7 ?_
    refine g_sipush (384 : Int32) (by decide) dX8_laysLeads_8 ?_
    refine g_icmp_ge 87 (by decide) dX8_laysLeads_11 (fun h1 => ?_) (fun h1 => ?_)
    · rw [if_pos h1] at hf
      refine g_aload_n rfl 0 rfl dX8_laysLeads_87 ?_
      refine g_iconst (0 : Int32) (by decide) dX8_laysLeads_88 ?_
      refine g_callV0v (As := [.int (0 : Int32)]) (rest := []) cok8 mok_X8_takesBack tw7_1 tw7_3 ts9_0 oS38 B.1 (by decide) (kX8_takesBack  hf) rfl rfl (Nat.le_of_ble_eq_true rfl) ⟨Nat.le_refl _, Nat.le_refl _⟩ dX8_laysLeads_89 ?_
      exact g_ret B.2.2.2 B.2.2.1 rfl rfl dX8_laysLeads_92
    · rw [if_neg h1] at hf
      refine g_aload_n rfl 0 rfl dX8_laysLeads_14 ?_
      refine g_iload_n rfl 1 rfl dX8_laysLeads_15 ?_
      refine g_callV0i (As := [.int l1]) (rest := []) cok8 mok_X8_isState tw7_21 tw7_23 ts9_2 oS38 B.1 (by decide) (kX8_isState  rfl) rfl rfl (Nat.le_of_ble_eq_true rfl) ⟨Nat.le_refl _, Nat.le_refl _⟩ dX8_laysLeads_16 ?_
      refine g_if_eq 81 (by decide) dX8_laysLeads_19 (fun h2 => ?_) (fun h2 => ?_)
      · rw [if_pos h2] at hf
        refine g_lvs [0, 1] rfl ?_
        exact wX8_laysLeads_b81 B ih l1 st hf
      · rw [if_neg h2] at hf
        refine g_iload_n rfl 1 rfl dX8_laysLeads_22 ?_
        refine g_callS0i (As := [.int l1]) (rest := []) mok_X8_insideOf tw7_25 tw7_26 B.1 (by decide) (kX8_insideOf  rfl) rfl rfl (Nat.le_of_ble_eq_true rfl) ⟨Nat.le_refl _, Nat.le_refl _⟩ dX8_laysLeads_23 ?_
        obtain ⟨q3, h4, hf⟩ := bnd_some hf
        refine g_callS0i (As := [.int (fX8_insideOf l1)]) (rest := []) mok_X8_ones tw6_65 tw6_66 B.1 (by decide) (kX8_ones  h4) rfl rfl (Nat.le_of_ble_eq_true rfl) ⟨Nat.le_refl _, Nat.le_refl _⟩ dX8_laysLeads_26 ?_
        refine g_iconst (2 : Int32) (by decide) dX8_laysLeads_29 ?_
        refine g_icmp_ge 36 (by decide) dX8_laysLeads_30 (fun h5 => ?_) (fun h5 => ?_)
        · rw [if_pos h5] at hf
          refine g_iconst (0 : Int32) (by decide) dX8_laysLeads_36 ?_
          refine g_istore_n rfl [(2, .int (0 : Int32)), (0, .ref (eB E + 38)), (1, .int l1)] (by decide) rfl dX8_laysLeads_37 ?_
          refine g_lvs [1, 2, 0] rfl ?_
          exact wX8_laysLeads_b38 B ih FU l1 (0 : Int32) st hf
        · rw [if_neg h5] at hf
          refine g_goto 81 (by decide) dX8_laysLeads_33 ?_
          refine g_lvs [0, 1] rfl ?_
          exact wX8_laysLeads_b81 B ih l1 st hf
def fX8_laysLeads  (st : St) : Option St :=
  (fX8_laysAside (0 : Int32) st).bind (fun q1 => fX8_laysLeads_b7 FU (0 : Int32) q1)
set_option maxHeartbeats 1000000 in
set_option maxRecDepth 20000 in
theorem wX8_laysLeads {E : Ev} {x : Cx} {u0 : St} (B : Bd E x none (211) 0 0 none u0)  (st : St)  (hf : fX8_laysLeads st = some u0) : G E WT x RX8 cX8_laysLeads 3 (0, 0) st 0 [(0, .ref (eB E + 38))] [] := by
  unfold fX8_laysLeads at hf
  refine g_aload_n rfl 0 rfl dX8_laysLeads_0 ?_
  refine g_iconst (0 : Int32) (by decide) dX8_laysLeads_1 ?_
  obtain ⟨q1, h2, hf⟩ := bnd_some hf
  refine g_callV0v (As := [.int (0 : Int32)]) (rest := []) cok8 mok_X8_laysAside tw6_230 tw6_232 ts8_14 oS38 B.1 (by decide) (kX8_laysAside  h2) rfl rfl (Nat.le_of_ble_eq_true rfl) ⟨Nat.le_refl _, Nat.le_refl _⟩ dX8_laysLeads_2 ?_
  refine g_iconst (0 : Int32) (by decide) dX8_laysLeads_5 ?_
  refine g_istore_n rfl [(1, .int (0 : Int32)), (0, .ref (eB E + 38))] (by decide) rfl dX8_laysLeads_6 ?_
  refine g_lvs [1, 0] rfl ?_
  exact wX8_laysLeads_b7 B  FU (0 : Int32) q1 hf
theorem kX8_laysLeads {l : Launch} {E : Ev} {st : St}  {u0 : St}  (hf : fX8_laysLeads st = some u0) : CM l E WT yX8_laysLeads cX8_laysLeads 3 none 211 0 0 [.ref (eB E + 38)] st none u0 :=
  CM.intro mok_X8_laysLeads (Nat.le_of_ble_eq_true rfl) (fun x hl hR ht hr hQ _ => wX8_laysLeads ⟨hR, ht, hr, hQ⟩ st hf)
def fX8_reaches (p1 : Int32) (p2 : Int32) (p3 : Int32) (st : St) : Option St :=
  chk (ixb p1 384) (if (sI st 59 p1.toNatClampNeg) = 0 then (chk (ixb p1 384) (chk (ixb (sI (pI st 59 p1.toNatClampNeg (vp_nar .boolean (1 : Int32))) 38 40) 384) (chk (ixb p1 384) (chk (ixb p1 384) (some (pI (pI (pI (pI (pI st 59 p1.toNatClampNeg (vp_nar .boolean (1 : Int32))) 56 ((sI (pI st 59 p1.toNatClampNeg (vp_nar .boolean (1 : Int32))) 38 40).toNatClampNeg) p1) 57 p1.toNatClampNeg p2) 58 p1.toNatClampNeg p3) 38 40 ((sI (pI (pI (pI (pI st 59 p1.toNatClampNeg (vp_nar .boolean (1 : Int32))) 56 ((sI (pI st 59 p1.toNatClampNeg (vp_nar .boolean (1 : Int32))) 38 40).toNatClampNeg) p1) 57 p1.toNatClampNeg p2) 58 p1.toNatClampNeg p3) 38 40) + (1 : Int32)))))))) else (some st))
set_option maxHeartbeats 1000000 in
set_option maxRecDepth 20000 in
theorem wX8_reaches {E : Ev} {x : Cx} {u0 : St} (B : Bd E x none (0) 0 0 none u0) (p1 : Int32) (p2 : Int32) (p3 : Int32) (st : St)  (hf : fX8_reaches p1 p2 p3 st = some u0) : G E WT x RX8 cX8_reaches 4 (0, 0) st 0 [(0, .ref (eB E + 38)), (1, .int p1), (2, .int p2), (3, .int p3)] [] := by
  unfold fX8_reaches at hf
  refine g_aload_n rfl 0 rfl dX8_reaches_0 ?_
  refine g_get (j := 39) cok8 (by decide) (.ref (eB E + 59)) (Or.inl tw4_214) oS38 vS38_39 dX8_reaches_1 ?_
  refine g_iload_n rfl 1 rfl dX8_reaches_4 ?_
  obtain ⟨h1, hf⟩ := chk_some hf
  refine g_zaldj p1.toNatClampNeg rfl aS59 (ixb_in h1) dX8_reaches_5 ?_
  refine g_if_eq 10 (by decide) dX8_reaches_6 (fun h2 => ?_) (fun h2 => ?_)
  · rw [if_pos h2] at hf
    refine g_aload_n rfl 0 rfl dX8_reaches_10 ?_
    refine g_get (j := 39) cok8 (by decide) (.ref (eB E + 59)) (Or.inl tw4_214) oS38 vS38_39 dX8_reaches_11 ?_
    refine g_iload_n rfl 1 rfl dX8_reaches_14 ?_
    refine g_iconst (1 : Int32) (by decide) dX8_reaches_15 ?_
    obtain ⟨h3, hf⟩ := chk_some hf
    refine g_zastj p1.toNatClampNeg rfl aS59 (ixb_in h3) B.2.1 wpI dX8_reaches_16 ?_
    refine g_aload_n rfl 0 rfl dX8_reaches_17 ?_
    refine g_get (j := 36) cok8 (by decide) (.ref (eB E + 56)) (Or.inl tw4_211) oS38 vS38_36 dX8_reaches_18 ?_
    refine g_aload_n rfl 0 rfl dX8_reaches_21 ?_
    refine g_get (j := 40) cok8 (by decide) (.int (sI (pI st 59 p1.toNatClampNeg (vp_nar .boolean (1 : Int32))) 38 40)) (Or.inl tw4_215) oS38 (fun _ => rfl) dX8_reaches_22 ?_
    refine g_iload_n rfl 1 rfl dX8_reaches_25 ?_
    obtain ⟨h4, hf⟩ := chk_some hf
    refine g_iastj ((sI (pI st 59 p1.toNatClampNeg (vp_nar .boolean (1 : Int32))) 38 40).toNatClampNeg) rfl aS56 (ixb_in h4) B.2.1 wpI dX8_reaches_26 ?_
    refine g_aload_n rfl 0 rfl dX8_reaches_27 ?_
    refine g_get (j := 37) cok8 (by decide) (.ref (eB E + 57)) (Or.inl tw4_212) oS38 vS38_37 dX8_reaches_28 ?_
    refine g_iload_n rfl 1 rfl dX8_reaches_31 ?_
    refine g_iload_n rfl 2 rfl dX8_reaches_32 ?_
    obtain ⟨h5, hf⟩ := chk_some hf
    refine g_iastj p1.toNatClampNeg rfl aS57 (ixb_in h5) B.2.1 wpI dX8_reaches_33 ?_
    refine g_aload_n rfl 0 rfl dX8_reaches_34 ?_
    refine g_get (j := 38) cok8 (by decide) (.ref (eB E + 58)) (Or.inl tw4_213) oS38 vS38_38 dX8_reaches_35 ?_
    refine g_iload_n rfl 1 rfl dX8_reaches_38 ?_
    refine g_iload_n rfl 3 rfl dX8_reaches_39 ?_
    obtain ⟨h6, hf⟩ := chk_some hf
    refine g_iastj p1.toNatClampNeg rfl aS58 (ixb_in h6) B.2.1 wpI dX8_reaches_40 ?_
    refine g_aload_n rfl 0 rfl dX8_reaches_41 ?_
    refine g_dup rfl dX8_reaches_42 ?_
    refine g_get (j := 40) cok8 (by decide) (.int (sI (pI (pI (pI (pI st 59 p1.toNatClampNeg (vp_nar .boolean (1 : Int32))) 56 ((sI (pI st 59 p1.toNatClampNeg (vp_nar .boolean (1 : Int32))) 38 40).toNatClampNeg) p1) 57 p1.toNatClampNeg p2) 58 p1.toNatClampNeg p3) 38 40)) (Or.inl tw4_215) oS38 (fun _ => rfl) dX8_reaches_43 ?_
    refine g_iconst (1 : Int32) (by decide) dX8_reaches_46 ?_
    refine g_iadd dX8_reaches_47 ?_
    refine g_putI (j := 40) cok8 (by decide) rfl rfl rfl rfl (Or.inl tw4_215) oS38 B.2.1 wpI dX8_reaches_48 ?_
    exact g_ret B.2.2.2 B.2.2.1 rfl (Option.some.inj hf).symm dX8_reaches_51
  · rw [if_neg h2] at hf
    exact g_ret B.2.2.2 B.2.2.1 rfl (Option.some.inj hf).symm dX8_reaches_9
theorem kX8_reaches {l : Launch} {E : Ev} {st : St} {p1 : Int32} {p2 : Int32} {p3 : Int32} {u0 : St}  (hf : fX8_reaches p1 p2 p3 st = some u0) : CM l E WT yX8_reaches cX8_reaches 4 none 0 0 0 [.ref (eB E + 38), .int p1, .int p2, .int p3] st none u0 :=
  CM.intro mok_X8_reaches (Nat.le_of_ble_eq_true rfl) (fun x hl hR ht hr hQ _ => wX8_reaches ⟨hR, ht, hr, hQ⟩ p1 p2 p3 st hf)
def fX8_reachesAlone_b119 (k39 : Int32 → Int32 → St → Option (Int32 × St))(l1 : Int32) (l2 : Int32) (st : St) : Option (Int32 × St) :=
  k39 l1 (l2 + (1 : Int32)) st
set_option maxHeartbeats 1000000 in
set_option maxRecDepth 20000 in
theorem wX8_reachesAlone_b119 {E : Ev} {x : Cx} {r0 : Int32} {u0 : St} (B : Bd E x (some FieldType.int) (1) 0 0 (some (.int r0)) u0) {k39 : Int32 → Int32 → St → Option (Int32 × St)} (hk39 : ∀ (l1 : Int32) (l2 : Int32) (st : St), k39 l1 l2 st = some (r0, u0) → G E WT x RX8 cX8_reachesAlone 5 (0, 0) st 39 [(0, .ref (eB E + 38)), (1, .int l1), (2, .int l2)] []) (l1 : Int32) (l2 : Int32) (st : St)  (hf : fX8_reachesAlone_b119 k39 l1 l2 st = some (r0, u0)) : G E WT x RX8 cX8_reachesAlone 5 (0, 0) st 119 [(0, .ref (eB E + 38)), (1, .int l1), (2, .int l2)] [] := by
  unfold fX8_reachesAlone_b119 at hf
  refine g_iinc (l2 + (1 : Int32)) [(2, .int (l2 + (1 : Int32))), (0, .ref (eB E + 38)), (1, .int l1)] 2 rfl (congrArg (fun z => l2 + z) (show Int32.ofInt (1) = (1 : Int32) by decide)) (by decide) rfl dX8_reachesAlone_119 ?_
  refine g_goto 39 (by decide) dX8_reachesAlone_122 ?_
  refine g_lvs [1, 2, 0] rfl ?_
  exact hk39 l1 (l2 + (1 : Int32)) st hf
def fX8_reachesAlone_b83 (k39 : Int32 → Int32 → St → Option (Int32 × St)) : Nat → Int32 → Int32 → Int32 → Int32 → St → Option (Int32 × St)
  | 0, _, _, _, _, _ => none
  | n + 1, l1, l2, l3, l4, st => if (sI st 40 17) ≤ l4 then (fX8_reachesAlone_b119 k39 l1 l2 st) else (chk (ixb (((5 : Int32) * l3) + l4) 1920) ((fX8_reaches (sI st 55 ((((5 : Int32) * l3) + l4).toNatClampNeg)) l3 l4 st).bind (fun q3 => fX8_reachesAlone_b83 k39 n l1 l2 l3 (l4 + (1 : Int32)) q3)))
set_option maxHeartbeats 1000000 in
set_option maxRecDepth 20000 in
theorem wX8_reachesAlone_b83 {E : Ev} {x : Cx} {r0 : Int32} {u0 : St} (B : Bd E x (some FieldType.int) (1) 0 0 (some (.int r0)) u0) {k39 : Int32 → Int32 → St → Option (Int32 × St)} (hk39 : ∀ (l1 : Int32) (l2 : Int32) (st : St), k39 l1 l2 st = some (r0, u0) → G E WT x RX8 cX8_reachesAlone 5 (0, 0) st 39 [(0, .ref (eB E + 38)), (1, .int l1), (2, .int l2)] []) : ∀ (n : Nat) (l1 : Int32) (l2 : Int32) (l3 : Int32) (l4 : Int32) (st : St) , fX8_reachesAlone_b83 k39 n l1 l2 l3 l4 st = some (r0, u0) → G E WT x RX8 cX8_reachesAlone 5 (0, 0) st 83 [(0, .ref (eB E + 38)), (1, .int l1), (2, .int l2), (3, .int l3), (4, .int l4)] [] := by
  intro n
  induction n with
  | zero =>
    intros
    rename_i hf
    rw [fX8_reachesAlone_b83] at hf
    cases hf
  | succ n ih =>
    intro l1 l2 l3 l4 st hf
    rw [fX8_reachesAlone_b83] at hf
    refine g_iload 4 rfl dX8_reachesAlone_83 ?_
    refine g_aload_n rfl 0 rfl dX8_reachesAlone_85 ?_
    refine g_get (j := 2) cok8 (by decide) (.ref (eB E + 40)) (Or.inl tw4_177) oS38 vS38_2 dX8_reachesAlone_86 ?_
    refine g_bipush (17 : Int32) (by decide) dX8_reachesAlone_89 ?_
    refine g_ialdj 17 rfl aS40 (ixb_in rfl) dX8_reachesAlone_91 ?_
    refine g_icmp_ge 119 (by decide) dX8_reachesAlone_92 (fun h1 => ?_) (fun h1 => ?_)
    · rw [if_pos h1] at hf
      refine g_lvs [0, 1, 2] rfl ?_
      exact wX8_reachesAlone_b119 B hk39 l1 l2 st hf
    · rw [if_neg h1] at hf
      refine g_aload_n rfl 0 rfl dX8_reachesAlone_95 ?_
      refine g_aload_n rfl 0 rfl dX8_reachesAlone_96 ?_
      refine g_get (j := 35) cok8 (by decide) (.ref (eB E + 55)) (Or.inl tw4_210) oS38 vS38_35 dX8_reachesAlone_97 ?_
      refine g_iconst (5 : Int32) (by decide) dX8_reachesAlone_100 ?_
      refine g_iload_n rfl 3 rfl dX8_reachesAlone_101 ?_
      refine g_imul dX8_reachesAlone_102 ?_
      refine g_iload 4 rfl dX8_reachesAlone_103 ?_
      refine g_iadd dX8_reachesAlone_105 ?_
      obtain ⟨h2, hf⟩ := chk_some hf
      refine g_ialdj ((((5 : Int32) * l3) + l4).toNatClampNeg) rfl aS55 (ixb_in h2) dX8_reachesAlone_106 ?_
      refine g_iload_n rfl 3 rfl dX8_reachesAlone_107 ?_
      refine g_iload 4 rfl dX8_reachesAlone_108 ?_
      obtain ⟨q3, h4, hf⟩ := bnd_some hf
      refine g_callV0v (As := [.int (sI st 55 ((((5 : Int32) * l3) + l4).toNatClampNeg)), .int l3, .int l4]) (rest := []) cok8 mok_X8_reaches tw7_40 tw7_42 ts9_6 oS38 B.1 (by decide) (kX8_reaches  h4) rfl rfl (Nat.le_of_ble_eq_true rfl) ⟨Nat.le_refl _, Nat.le_refl _⟩ dX8_reachesAlone_110 ?_
      refine g_iinc (l4 + (1 : Int32)) [(4, .int (l4 + (1 : Int32))), (0, .ref (eB E + 38)), (1, .int l1), (2, .int l2), (3, .int l3)] 4 rfl (congrArg (fun z => l4 + z) (show Int32.ofInt (1) = (1 : Int32) by decide)) (by decide) rfl dX8_reachesAlone_113 ?_
      refine g_goto 83 (by decide) dX8_reachesAlone_116 ?_
      refine g_lvs [1, 2, 3, 4, 0] rfl ?_
      exact ih l1 l2 l3 (l4 + (1 : Int32)) q3 hf
def fX8_reachesAlone_b39 : Nat → Int32 → Int32 → St → Option (Int32 × St)
  | 0, _, _, _ => none
  | n + 1, l1, l2, st => if (sI st 38 40) ≤ l2 then (some ((-1 : Int32), st)) else (chk (ixb l2 384) (if (fX8_insideOf (sI st 56 l2.toNatClampNeg)) = (jshl (1 : Int32) l1) then (some (sI st 56 l2.toNatClampNeg, st)) else ((fX8_ones (fX8_insideOf (sI st 56 l2.toNatClampNeg))).bind (fun q4 => if (2 : Int32) ≤ q4 then (fX8_reachesAlone_b83 (fun zl1 zl2 zst => fX8_reachesAlone_b39 n zl1 zl2 zst) FU l1 l2 (sI st 56 l2.toNatClampNeg) (0 : Int32) st) else (fX8_reachesAlone_b119 (fun zl1 zl2 zst => fX8_reachesAlone_b39 n zl1 zl2 zst) l1 l2 st)))))
set_option maxHeartbeats 1000000 in
set_option maxRecDepth 20000 in
theorem wX8_reachesAlone_b39 {E : Ev} {x : Cx} {r0 : Int32} {u0 : St} (B : Bd E x (some FieldType.int) (1) 0 0 (some (.int r0)) u0) : ∀ (n : Nat) (l1 : Int32) (l2 : Int32) (st : St) , fX8_reachesAlone_b39 n l1 l2 st = some (r0, u0) → G E WT x RX8 cX8_reachesAlone 5 (0, 0) st 39 [(0, .ref (eB E + 38)), (1, .int l1), (2, .int l2)] [] := by
  intro n
  induction n with
  | zero =>
    intros
    rename_i hf
    rw [fX8_reachesAlone_b39] at hf
    cases hf
  | succ n ih =>
    intro l1 l2 st hf
    rw [fX8_reachesAlone_b39] at hf
    refine g_iload_n rfl 2 rfl dX8_reachesAlone_39 ?_
    refine g_aload_n rfl 0 rfl dX8_reachesAlone_40 ?_
    refine g_get (j := 40) cok8 (by decide) (.int (sI st 38 40)) (Or.inl tw4_215) oS38 (fun _ => rfl) dX8_reachesAlone_41 ?_
    refine g_icmp_ge 125 (by decide) dX8_reachesAlone_44 (fun h1 => ?_) (fun h1 => ?_)
    · rw [if_pos h1] at hf
      refine g_iconst (-1 : Int32) (by decide) dX8_reachesAlone_125 ?_
      exact g_iret B.2.2.2 B.2.2.1 (congrArg (fun z => some (Value.int z)) (Prod.mk.inj (Option.some.inj hf)).1.symm) (Prod.mk.inj (Option.some.inj hf)).2.symm dX8_reachesAlone_126
    · rw [if_neg h1] at hf
      refine g_aload_n rfl 0 rfl dX8_reachesAlone_47 ?_
      refine g_get (j := 36) cok8 (by decide) (.ref (eB E + 56)) (Or.inl tw4_211) oS38 vS38_36 dX8_reachesAlone_48 ?_
      refine g_iload_n rfl 2 rfl dX8_reachesAlone_51 ?_
      obtain ⟨h2, hf⟩ := chk_some hf
      refine g_ialdj l2.toNatClampNeg rfl aS56 (ixb_in h2) dX8_reachesAlone_52 ?_
      refine g_istore_n rfl [(3, .int (sI st 56 l2.toNatClampNeg)), (0, .ref (eB E + 38)), (1, .int l1), (2, .int l2)] (by decide) rfl dX8_reachesAlone_53 ?_
      refine g_iload_n rfl 0 rfl dX8_reachesAlone_54 ?_
      refine g_callS0i (As := [.int (sI st 56 l2.toNatClampNeg)]) (rest := []) mok_X8_insideOf tw7_25 tw7_26 B.1 (by decide) (kX8_insideOf  rfl) rfl rfl (Nat.le_of_ble_eq_true rfl) ⟨Nat.le_refl _, Nat.le_refl _⟩ dX8_reachesAlone_55 ?_
      refine g_iconst (1 : Int32) (by decide) dX8_reachesAlone_58 ?_
      refine g_iload_n rfl 2 rfl dX8_reachesAlone_59 ?_
      refine g_ishl dX8_reachesAlone_60 ?_
      refine g_icmp_ne 66 (by decide) dX8_reachesAlone_61 (fun h3 => ?_) (fun h3 => ?_)
      · rw [if_neg h3] at hf
        refine g_iload_n rfl 0 rfl dX8_reachesAlone_66 ?_
        refine g_callS0i (As := [.int (sI st 56 l2.toNatClampNeg)]) (rest := []) mok_X8_insideOf tw7_25 tw7_26 B.1 (by decide) (kX8_insideOf  rfl) rfl rfl (Nat.le_of_ble_eq_true rfl) ⟨Nat.le_refl _, Nat.le_refl _⟩ dX8_reachesAlone_67 ?_
        obtain ⟨q4, h5, hf⟩ := bnd_some hf
        refine g_callS0i (As := [.int (fX8_insideOf (sI st 56 l2.toNatClampNeg))]) (rest := []) mok_X8_ones tw6_65 tw6_66 B.1 (by decide) (kX8_ones  h5) rfl rfl (Nat.le_of_ble_eq_true rfl) ⟨Nat.le_refl _, Nat.le_refl _⟩ dX8_reachesAlone_70 ?_
        refine g_iconst (2 : Int32) (by decide) dX8_reachesAlone_73 ?_
        refine g_icmp_ge 80 (by decide) dX8_reachesAlone_74 (fun h6 => ?_) (fun h6 => ?_)
        · rw [if_pos h6] at hf
          refine g_iconst (0 : Int32) (by decide) dX8_reachesAlone_80 ?_
          refine g_istore [(4, .int (0 : Int32)), (3, .int (sI st 56 l2.toNatClampNeg)), (0, .ref (eB E + 38)), (1, .int l1), (2, .int l2)] (by decide) rfl dX8_reachesAlone_81 ?_
          refine g_lvs [2, 3, 4, 1, 0] rfl ?_
          exact wX8_reachesAlone_b83 B ih FU l1 l2 (sI st 56 l2.toNatClampNeg) (0 : Int32) st hf
        · rw [if_neg h6] at hf
          refine g_goto 119 (by decide) dX8_reachesAlone_77 ?_
          refine g_lvs [1, 2, 3] rfl ?_
          exact wX8_reachesAlone_b119 B ih l1 l2 st hf
      · rw [if_pos h3] at hf
        refine g_iload_n rfl 0 rfl dX8_reachesAlone_64 ?_
        exact g_iret B.2.2.2 B.2.2.1 (congrArg (fun z => some (Value.int z)) (Prod.mk.inj (Option.some.inj hf)).1.symm) (Prod.mk.inj (Option.some.inj hf)).2.symm dX8_reachesAlone_65
def fX8_reachesAlone_b2 : Nat → Int32 → Int32 → St → Option (Int32 × St)
  | 0, _, _, _ => none
  | n + 1, l1, l2, st => if (384 : Int32) ≤ l2 then ((fX8_reaches (fX8_stateNow (pI st 38 40 (0 : Int32))) (-1 : Int32) (-1 : Int32) (pI st 38 40 (0 : Int32))).bind (fun q2 => fX8_reachesAlone_b39 FU l1 (0 : Int32) q2)) else (chk (ixb l2 384) (fX8_reachesAlone_b2 n l1 (l2 + (1 : Int32)) (pI st 59 l2.toNatClampNeg (vp_nar .boolean (0 : Int32)))))
set_option maxHeartbeats 1000000 in
set_option maxRecDepth 20000 in
theorem wX8_reachesAlone_b2 {E : Ev} {x : Cx} {r0 : Int32} {u0 : St} (B : Bd E x (some FieldType.int) (1) 0 0 (some (.int r0)) u0) : ∀ (n : Nat) (l1 : Int32) (l2 : Int32) (st : St) , fX8_reachesAlone_b2 n l1 l2 st = some (r0, u0) → G E WT x RX8 cX8_reachesAlone 5 (0, 0) st 2 [(0, .ref (eB E + 38)), (1, .int l1), (2, .int l2)] [] := by
  intro n
  induction n with
  | zero =>
    intros
    rename_i hf
    rw [fX8_reachesAlone_b2] at hf
    cases hf
  | succ n ih =>
    intro l1 l2 st hf
    rw [fX8_reachesAlone_b2] at hf
    refine g_iload_n rfl 2 rfl dX8_reachesAlone_2 ?_
    refine g_sipush (384 : Int32) (by decide) dX8_reachesAlone_3 ?_
    refine g_icmp_ge 22 (by decide) dX8_reachesAlone_6 (fun h1 => ?_) (fun h1 => ?_)
    · rw [if_pos h1] at hf
      refine g_aload_n rfl 0 rfl dX8_reachesAlone_22 ?_
      refine g_iconst (0 : Int32) (by decide) dX8_reachesAlone_23 ?_
      refine g_putI (j := 40) cok8 (by decide) rfl rfl rfl rfl (Or.inl tw4_215) oS38 B.2.1 wpI dX8_reachesAlone_24 ?_
      refine g_aload_n rfl 0 rfl dX8_reachesAlone_27 ?_
      refine g_aload_n rfl 0 rfl dX8_reachesAlone_28 ?_
      refine g_callV0i (As := []) (rest := [.ref (eB E + 38)]) cok8 mok_X8_stateNow tw7_32 tw7_34 ts9_4 oS38 B.1 (by decide) (kX8_stateNow  rfl) rfl rfl (Nat.le_of_ble_eq_true rfl) ⟨Nat.le_refl _, Nat.le_refl _⟩ dX8_reachesAlone_29 ?_
      refine g_iconst (-1 : Int32) (by decide) dX8_reachesAlone_32 ?_
      refine g_iconst (-1 : Int32) (by decide) dX8_reachesAlone_33 ?_
      obtain ⟨q2, h3, hf⟩ := bnd_some hf
      refine g_callV0v (As := [.int (fX8_stateNow (pI st 38 40 (0 : Int32))), .int (-1 : Int32), .int (-1 : Int32)]) (rest := []) cok8 mok_X8_reaches tw7_40 tw7_42 ts9_6 oS38 B.1 (by decide) (kX8_reaches  h3) rfl rfl (Nat.le_of_ble_eq_true rfl) ⟨Nat.le_refl _, Nat.le_refl _⟩ dX8_reachesAlone_34 ?_
      refine g_iconst (0 : Int32) (by decide) dX8_reachesAlone_37 ?_
      refine g_istore_n rfl [(2, .int (0 : Int32)), (0, .ref (eB E + 38)), (1, .int l1)] (by decide) rfl dX8_reachesAlone_38 ?_
      refine g_lvs [1, 2, 0] rfl ?_
      exact wX8_reachesAlone_b39 B  FU l1 (0 : Int32) q2 hf
    · rw [if_neg h1] at hf
      refine g_aload_n rfl 0 rfl dX8_reachesAlone_9 ?_
      refine g_get (j := 39) cok8 (by decide) (.ref (eB E + 59)) (Or.inl tw4_214) oS38 vS38_39 dX8_reachesAlone_10 ?_
      refine g_iload_n rfl 2 rfl dX8_reachesAlone_13 ?_
      refine g_iconst (0 : Int32) (by decide) dX8_reachesAlone_14 ?_
      obtain ⟨h4, hf⟩ := chk_some hf
      refine g_zastj l2.toNatClampNeg rfl aS59 (ixb_in h4) B.2.1 wpI dX8_reachesAlone_15 ?_
      refine g_iinc (l2 + (1 : Int32)) [(2, .int (l2 + (1 : Int32))), (0, .ref (eB E + 38)), (1, .int l1)] 2 rfl (congrArg (fun z => l2 + z) (show Int32.ofInt (1) = (1 : Int32) by decide)) (by decide) rfl dX8_reachesAlone_16 ?_
      refine g_goto 2 (by decide) dX8_reachesAlone_19 ?_
      refine g_lvs [1, 2, 0] rfl ?_
      exact ih l1 (l2 + (1 : Int32)) (pI st 59 l2.toNatClampNeg (vp_nar .boolean (0 : Int32))) hf
def fX8_reachesAlone (p1 : Int32) (st : St) : Option (Int32 × St) :=
  fX8_reachesAlone_b2 FU p1 (0 : Int32) st
set_option maxHeartbeats 1000000 in
set_option maxRecDepth 20000 in
theorem wX8_reachesAlone {E : Ev} {x : Cx} {r0 : Int32} {u0 : St} (B : Bd E x (some FieldType.int) (1) 0 0 (some (.int r0)) u0) (p1 : Int32) (st : St)  (hf : fX8_reachesAlone p1 st = some (r0, u0)) : G E WT x RX8 cX8_reachesAlone 5 (0, 0) st 0 [(0, .ref (eB E + 38)), (1, .int p1)] [] := by
  unfold fX8_reachesAlone at hf
  refine g_iconst (0 : Int32) (by decide) dX8_reachesAlone_0 ?_
  refine g_istore_n rfl [(2, .int (0 : Int32)), (0, .ref (eB E + 38)), (1, .int p1)] (by decide) rfl dX8_reachesAlone_1 ?_
  refine g_lvs [1, 2, 0] rfl ?_
  exact wX8_reachesAlone_b2 B  FU p1 (0 : Int32) st hf
theorem kX8_reachesAlone {l : Launch} {E : Ev} {st : St} {p1 : Int32} {r0 : Int32} {u0 : St}  (hf : fX8_reachesAlone p1 st = some (r0, u0)) : CM l E WT yX8_reachesAlone cX8_reachesAlone 5 (some FieldType.int) 1 0 0 [.ref (eB E + 38), .int p1] st (some (.int r0)) u0 :=
  CM.intro mok_X8_reachesAlone (Nat.le_of_ble_eq_true rfl) (fun x hl hR ht hr hQ _ => wX8_reachesAlone ⟨hR, ht, hr, hQ⟩ p1 st hf)
