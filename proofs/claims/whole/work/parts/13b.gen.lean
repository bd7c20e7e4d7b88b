def fX1_reach_b176 (k40 : Int32 → Int32 → St → Option (Int32 × St))(l2 : Int32) (l3 : Int32) (st : St) : Option (Int32 × St) :=
  k40 l2 (l3 + (1 : Int32)) st
set_option maxHeartbeats 1000000 in
set_option maxRecDepth 20000 in
theorem wX1_reach_b176 {E : Ev} {x : Cx} {r0 : Int32} {u0 : St} (B : Bd E x (some FieldType.int) (7) 0 0 (some (.int r0)) u0) {k40 : Int32 → Int32 → St → Option (Int32 × St)} (hk40 : ∀ (l2 : Int32) (l3 : Int32) (st : St), k40 l2 l3 st = some (r0, u0) → G E WT x RX1 cX1_reach 7 (0, 0) st 40 [(0, .ref (eB E + 25)), (2, .int l2), (3, .int l3)] []) (l2 : Int32) (l3 : Int32) (st : St)  (hf : fX1_reach_b176 k40 l2 l3 st = some (r0, u0)) : G E WT x RX1 cX1_reach 7 (0, 0) st 176 [(0, .ref (eB E + 25)), (2, .int l2), (3, .int l3)] [] := by
  unfold fX1_reach_b176 at hf
  refine g_iinc (l3 + (1 : Int32)) [(3, .int (l3 + (1 : Int32))), (0, .ref (eB E + 25)), (2, .int l2)] 2 rfl (congrArg (fun z => l3 + z) (show Int32.ofInt (1) = (1 : Int32) by decide)) (by decide) rfl dX1_reach_176 ?_
  refine g_goto 40 (by decide) dX1_reach_179 ?_
  refine g_lvs [1, 2, 0] rfl ?_
  exact hk40 l2 (l3 + (1 : Int32)) st hf
def fX1_reach_b170 (k40 : Int32 → Int32 → St → Option (Int32 × St)) (k66 : Int32 → Int32 → Int32 → Int32 → St → Option (Int32 × St))(l2 : Int32) (l3 : Int32) (l4 : Int32) (l5 : Int32) (st : St) : Option (Int32 × St) :=
  k66 l2 l3 l4 (l5 + (1 : Int32)) st
set_option maxHeartbeats 1000000 in
set_option maxRecDepth 20000 in
theorem wX1_reach_b170 {E : Ev} {x : Cx} {r0 : Int32} {u0 : St} (B : Bd E x (some FieldType.int) (7) 0 0 (some (.int r0)) u0) {k40 : Int32 → Int32 → St → Option (Int32 × St)} (hk40 : ∀ (l2 : Int32) (l3 : Int32) (st : St), k40 l2 l3 st = some (r0, u0) → G E WT x RX1 cX1_reach 7 (0, 0) st 40 [(0, .ref (eB E + 25)), (2, .int l2), (3, .int l3)] []) {k66 : Int32 → Int32 → Int32 → Int32 → St → Option (Int32 × St)} (hk66 : ∀ (l2 : Int32) (l3 : Int32) (l4 : Int32) (l5 : Int32) (st : St), k66 l2 l3 l4 l5 st = some (r0, u0) → G E WT x RX1 cX1_reach 7 (0, 0) st 66 [(0, .ref (eB E + 25)), (2, .int l2), (3, .int l3), (4, .int l4), (5, .int l5)] []) (l2 : Int32) (l3 : Int32) (l4 : Int32) (l5 : Int32) (st : St)  (hf : fX1_reach_b170 k40 k66 l2 l3 l4 l5 st = some (r0, u0)) : G E WT x RX1 cX1_reach 7 (0, 0) st 170 [(0, .ref (eB E + 25)), (2, .int l2), (3, .int l3), (4, .int l4), (5, .int l5)] [] := by
  unfold fX1_reach_b170 at hf
  refine g_iinc (l5 + (1 : Int32)) [(5, .int (l5 + (1 : Int32))), (0, .ref (eB E + 25)), (2, .int l2), (3, .int l3), (4, .int l4)] 4 rfl (congrArg (fun z => l5 + z) (show Int32.ofInt (1) = (1 : Int32) by decide)) (by decide) rfl dX1_reach_170 ?_
  refine g_goto 66 (by decide) dX1_reach_173 ?_
  refine g_lvs [1, 2, 3, 4, 0] rfl ?_
  exact hk66 l2 l3 l4 (l5 + (1 : Int32)) st hf
def fX1_reach_b66 (k40 : Int32 → Int32 → St → Option (Int32 × St)) : Nat → Int32 → Int32 → Int32 → Int32 → St → Option (Int32 × St)
  | 0, _, _, _, _, _ => none
  | n + 1, l2, l3, l4, l5, st => if (sI st 1 6) ≤ l5 then (fX1_reach_b176 k40 l2 l3 st) else (if (fX1_goesOn l4) = 0 then (fX1_reach_b176 k40 l2 l3 st) else ((fX6_after l4 l5 st).bind (fun q3 => chk (ixb q3.1 384) (if (sI q3.2 28 q3.1.toNatClampNeg) = (-1 : Int32) then (if (sI q3.2 25 10) < (384 : Int32) then (chk (ixb q3.1 384) (chk (ixb (sI (pI q3.2 28 q3.1.toNatClampNeg ((l4 * (5 : Int32)) + l5)) 25 10) 384) (if (q3.1 / (6 : Int32)) = l2 then (some (q3.1, pI (pI (pI q3.2 28 q3.1.toNatClampNeg ((l4 * (5 : Int32)) + l5)) 27 ((sI (pI q3.2 28 q3.1.toNatClampNeg ((l4 * (5 : Int32)) + l5)) 25 10).toNatClampNeg) q3.1) 25 10 ((sI (pI (pI q3.2 28 q3.1.toNatClampNeg ((l4 * (5 : Int32)) + l5)) 27 ((sI (pI q3.2 28 q3.1.toNatClampNeg ((l4 * (5 : Int32)) + l5)) 25 10).toNatClampNeg) q3.1) 25 10) + (1 : Int32)))) else (fX1_reach_b170 k40 (fun zl2 zl3 zl4 zl5 zst => fX1_reach_b66 k40 n zl2 zl3 zl4 zl5 zst) l2 l3 l4 l5 (pI (pI (pI q3.2 28 q3.1.toNatClampNeg ((l4 * (5 : Int32)) + l5)) 27 ((sI (pI q3.2 28 q3.1.toNatClampNeg ((l4 * (5 : Int32)) + l5)) 25 10).toNatClampNeg) q3.1) 25 10 ((sI (pI (pI q3.2 28 q3.1.toNatClampNeg ((l4 * (5 : Int32)) + l5)) 27 ((sI (pI q3.2 28 q3.1.toNatClampNeg ((l4 * (5 : Int32)) + l5)) 25 10).toNatClampNeg) q3.1) 25 10) + (1 : Int32))))))) else (fX1_reach_b170 k40 (fun zl2 zl3 zl4 zl5 zst => fX1_reach_b66 k40 n zl2 zl3 zl4 zl5 zst) l2 l3 l4 l5 q3.2)) else (fX1_reach_b170 k40 (fun zl2 zl3 zl4 zl5 zst => fX1_reach_b66 k40 n zl2 zl3 zl4 zl5 zst) l2 l3 l4 l5 q3.2)))))
set_option maxHeartbeats 1000000 in
set_option maxRecDepth 20000 in
theorem wX1_reach_b66 {E : Ev} {x : Cx} {r0 : Int32} {u0 : St} (B : Bd E x (some FieldType.int) (7) 0 0 (some (.int r0)) u0) {k40 : Int32 → Int32 → St → Option (Int32 × St)} (hk40 : ∀ (l2 : Int32) (l3 : Int32) (st : St), k40 l2 l3 st = some (r0, u0) → G E WT x RX1 cX1_reach 7 (0, 0) st 40 [(0, .ref (eB E + 25)), (2, .int l2), (3, .int l3)] []) : ∀ (n : Nat) (l2 : Int32) (l3 : Int32) (l4 : Int32) (l5 : Int32) (st : St) , fX1_reach_b66 k40 n l2 l3 l4 l5 st = some (r0, u0) → G E WT x RX1 cX1_reach 7 (0, 0) st 66 [(0, .ref (eB E + 25)), (2, .int l2), (3, .int l3), (4, .int l4), (5, .int l5)] [] := by
  intro n
  induction n with
  | zero =>
    intros
    rename_i hf
    rw [fX1_reach_b66] at hf
    cases hf
  | succ n ih =>
    intro l2 l3 l4 l5 st hf
    rw [fX1_reach_b66] at hf
    refine g_iload 4 rfl dX1_reach_66 ?_
    refine g_aload_n rfl 0 rfl dX1_reach_68 ?_
    refine g_get (j := 0) cok1 (by decide) (.ref (eB E + 1)) (Or.inl tw1_235) oS25 vS25_0 dX1_reach_69 ?_
    refine g_get (j := 6) cok4 (by decide) (.int (sI st 1 6)) (Or.inr nf_18) oS1 (fun _ => rfl) dX1_reach_72 ?_
    refine g_icmp_ge 176 (by decide) dX1_reach_75 (fun h1 => ?_) (fun h1 => ?_)
    · rw [if_pos h1] at hf
      refine g_lvs [0, 1, 2] rfl ?_
      exact wX1_reach_b176 B hk40 l2 l3 st hf
    · rw [if_neg h1] at hf
      refine g_iload 3 rfl dX1_reach_78 ?_
      refine g_callS0i (As := [.int l4]) (rest := []) mok_X1_goesOn tw4_23 tw4_24 B.1 (by decide) (kX1_goesOn  rfl) rfl rfl (Nat.le_of_ble_eq_true rfl) ⟨Nat.le_refl _, Nat.le_refl _⟩ dX1_reach_80 ?_
      refine g_if_eq 176 (by decide) dX1_reach_83 (fun h2 => ?_) (fun h2 => ?_)
      · rw [if_pos h2] at hf
        refine g_lvs [0, 1, 2] rfl ?_
        exact wX1_reach_b176 B hk40 l2 l3 st hf
      · rw [if_neg h2] at hf
        refine g_aload_n rfl 0 rfl dX1_reach_86 ?_
        refine g_get (j := 1) cok1 (by decide) (.ref (eB E + 19)) (Or.inl tw1_236) oS25 vS25_1 dX1_reach_87 ?_
        refine g_iload 3 rfl dX1_reach_90 ?_
        refine g_iload 4 rfl dX1_reach_92 ?_
        obtain ⟨q3, h4, hf⟩ := bnd_some hf
        refine g_callVN0i (As := [.int l4, .int l5]) (rest := []) cok6 mok_X6_after nmm_40 tw4_29 ts4_4 oS19 B.1 (by decide) (kX6_after  h4) rfl rfl (Nat.le_of_ble_eq_true rfl) ⟨Nat.le_refl _, Nat.le_refl _⟩ dX1_reach_94 ?_
        refine g_istore [(6, .int q3.1), (0, .ref (eB E + 25)), (2, .int l2), (3, .int l3), (4, .int l4), (5, .int l5)] (by decide) rfl dX1_reach_97 ?_
        refine g_aload_n rfl 1 rfl dX1_reach_99 ?_
        refine g_get (j := 4) cok1 (by decide) (.ref (eB E + 28)) (Or.inl tw2_0) oS25 vS25_4 dX1_reach_100 ?_
        refine g_iload 0 rfl dX1_reach_103 ?_
        obtain ⟨h5, hf⟩ := chk_some hf
        refine g_ialdj q3.1.toNatClampNeg rfl aS28 (ixb_in h5) dX1_reach_105 ?_
        refine g_iconst (-1 : Int32) (by decide) dX1_reach_106 ?_
        refine g_icmp_ne 170 (by decide) dX1_reach_107 (fun h6 => ?_) (fun h6 => ?_)
        · rw [if_neg h6] at hf
          refine g_lvs [1, 2, 3, 4, 5] rfl ?_
          exact wX1_reach_b170 B hk40 ih l2 l3 l4 l5 q3.2 hf
        · rw [if_pos h6] at hf
          refine g_aload_n rfl 1 rfl dX1_reach_110 ?_
          refine g_get (j := 10) cok1 (by decide) (.int (sI q3.2 25 10)) (Or.inl tw2_7) oS25 (fun _ => rfl) dX1_reach_111 ?_
          refine g_sipush (384 : Int32) (by decide) dX1_reach_114 ?_
          refine g_icmp_lt 123 (by decide) dX1_reach_117 (fun h7 => ?_) (fun h7 => ?_)
          · rw [if_pos h7] at hf
            refine g_aload_n rfl 1 rfl dX1_reach_123 ?_
            refine g_get (j := 4) cok1 (by decide) (.ref (eB E + 28)) (Or.inl tw2_0) oS25 vS25_4 dX1_reach_124 ?_
            refine g_iload 0 rfl dX1_reach_127 ?_
            refine g_iload 4 rfl dX1_reach_129 ?_
            refine g_iconst (5 : Int32) (by decide) dX1_reach_131 ?_
            refine g_imul dX1_reach_132 ?_
            refine g_iload 5 rfl dX1_reach_133 ?_
            refine g_iadd dX1_reach_135 ?_
            obtain ⟨h8, hf⟩ := chk_some hf
            refine g_iastj q3.1.toNatClampNeg rfl aS28 (ixb_in h8) B.2.1 wpI dX1_reach_136 ?_
            refine g_aload_n rfl 1 rfl dX1_reach_137 ?_
            refine g_get (j := 3) cok1 (by decide) (.ref (eB E + 27)) (Or.inl tw1_239) oS25 vS25_3 dX1_reach_138 ?_
            refine g_aload_n rfl 1 rfl dX1_reach_141 ?_
            refine g_get (j := 10) cok1 (by decide) (.int (sI (pI q3.2 28 q3.1.toNatClampNeg ((l4 * (5 : Int32)) + l5)) 25 10)) (Or.inl tw2_7) oS25 (fun _ => rfl) dX1_reach_142 ?_
            refine g_iload 0 rfl dX1_reach_145 ?_
            obtain ⟨h9, hf⟩ := chk_some hf
            refine g_iastj ((sI (pI q3.2 28 q3.1.toNatClampNeg ((l4 * (5 : Int32)) + l5)) 25 10).toNatClampNeg) rfl aS27 (ixb_in h9) B.2.1 wpI dX1_reach_147 ?_
            refine g_aload_n rfl 1 rfl dX1_reach_148 ?_
            refine g_dup rfl dX1_reach_149 ?_
            refine g_get (j := 10) cok1 (by decide) (.int (sI (pI (pI q3.2 28 q3.1.toNatClampNeg ((l4 * (5 : Int32)) + l5)) 27 ((sI (pI q3.2 28 q3.1.toNatClampNeg ((l4 * (5 : Int32)) + l5)) 25 10).toNatClampNeg) q3.1) 25 10)) (Or.inl tw2_7) oS25 (fun _ => rfl) dX1_reach_150 ?_
            refine g_iconst (1 : Int32) (by decide) dX1_reach_153 ?_
            refine g_iadd dX1_reach_154 ?_
            refine g_putI (j := 10) cok1 (by decide) rfl rfl rfl rfl (Or.inl tw2_7) oS25 B.2.1 wpI dX1_reach_155 ?_
            refine g_iload 0 rfl dX1_reach_158 ?_
            refine g_bipush (6 : Int32) (by decide) dX1_reach_160 ?_
            refine g_idiv (by decide) dX1_reach_162 ?_
            refine g_iload_n rfl 2 rfl dX1_reach_163 ?_
            refine g_icmp_ne 170 (by decide) dX1_reach_164 (fun h10 => ?_) (fun h10 => ?_)
            · rw [if_neg h10] at hf
              refine g_lvs [1, 2, 3, 4, 5] rfl ?_
              exact wX1_reach_b170 B hk40 ih l2 l3 l4 l5 (pI (pI (pI q3.2 28 q3.1.toNatClampNeg ((l4 * (5 : Int32)) + l5)) 27 ((sI (pI q3.2 28 q3.1.toNatClampNeg ((l4 * (5 : Int32)) + l5)) 25 10).toNatClampNeg) q3.1) 25 10 ((sI (pI (pI q3.2 28 q3.1.toNatClampNeg ((l4 * (5 : Int32)) + l5)) 27 ((sI (pI q3.2 28 q3.1.toNatClampNeg ((l4 * (5 : Int32)) + l5)) 25 10).toNatClampNeg) q3.1) 25 10) + (1 : Int32))) hf
            · rw [if_pos h10] at hf
              refine g_iload 0 rfl dX1_reach_167 ?_
              exact g_iret B.2.2.2 B.2.2.1 (congrArg (fun z => some (Value.int z)) (Prod.mk.inj (Option.some.inj hf)).1.symm) (Prod.mk.inj (Option.some.inj hf)).2.symm dX1_reach_169
          · rw [if_neg h7] at hf
            refine g_goto 170 (by decide) dX1_reach_120 ?_
            refine g_lvs [1, 2, 3, 4, 5] rfl ?_
            exact wX1_reach_b170 B hk40 ih l2 l3 l4 l5 q3.2 hf
def fX1_reach_b40 : Nat → Int32 → Int32 → St → Option (Int32 × St)
  | 0, _, _, _ => none
  | n + 1, l2, l3, st => if (sI st 25 10) ≤ l3 then (some ((-1 : Int32), st)) else (if (384 : Int32) ≤ l3 then (some ((-1 : Int32), st)) else (chk (ixb l3 384) (fX1_reach_b66 (fun zl2 zl3 zst => fX1_reach_b40 n zl2 zl3 zst) FU l2 l3 (sI st 27 l3.toNatClampNeg) (0 : Int32) st)))
set_option maxHeartbeats 1000000 in
set_option maxRecDepth 20000 in
theorem wX1_reach_b40 {E : Ev} {x : Cx} {r0 : Int32} {u0 : St} (B : Bd E x (some FieldType.int) (7) 0 0 (some (.int r0)) u0) : ∀ (n : Nat) (l2 : Int32) (l3 : Int32) (st : St) , fX1_reach_b40 n l2 l3 st = some (r0, u0) → G E WT x RX1 cX1_reach 7 (0, 0) st 40 [(0, .ref (eB E + 25)), (2, .int l2), (3, .int l3)] [] := by
  intro n
  induction n with
  | zero =>
    intros
    rename_i hf
    rw [fX1_reach_b40] at hf
    cases hf
  | succ n ih =>
    intro l2 l3 st hf
    rw [fX1_reach_b40] at hf
    refine g_iload_n rfl 2 rfl dX1_reach_40 ?_
    refine g_aload_n rfl 0 rfl dX1_reach_41 ?_
    refine g_get (j := 10) cok1 (by decide) (.int (sI st 25 10)) (Or.inl tw2_7) oS25 (fun _ => rfl) dX1_reach_42 ?_
    refine g_icmp_ge 182 (by decide) dX1_reach_45 (fun h1 => ?_) (fun h1 => ?_)
    · rw [if_pos h1] at hf
      refine g_iconst (-1 : Int32) (by decide) dX1_reach_182 ?_
      exact g_iret B.2.2.2 B.2.2.1 (congrArg (fun z => some (Value.int z)) (Prod.mk.inj (Option.some.inj hf)).1.symm) (Prod.mk.inj (Option.some.inj hf)).2.symm dX1_reach_183
    · rw [if_neg h1] at hf
      refine g_iload_n rfl 2 rfl dX1_reach_48 ?_
      refine g_sipush (384 : Int32) (by decide) dX1_reach_49 ?_
      refine g_icmp_ge 182 (by decide) dX1_reach_52 (fun h2 => ?_) (fun h2 => ?_)
      · rw [if_pos h2] at hf
        refine g_iconst (-1 : Int32) (by decide) dX1_reach_182 ?_
        exact g_iret B.2.2.2 B.2.2.1 (congrArg (fun z => some (Value.int z)) (Prod.mk.inj (Option.some.inj hf)).1.symm) (Prod.mk.inj (Option.some.inj hf)).2.symm dX1_reach_183
      · rw [if_neg h2] at hf
        refine g_aload_n rfl 0 rfl dX1_reach_55 ?_
        refine g_get (j := 3) cok1 (by decide) (.ref (eB E + 27)) (Or.inl tw1_239) oS25 vS25_3 dX1_reach_56 ?_
        refine g_iload_n rfl 2 rfl dX1_reach_59 ?_
        obtain ⟨h3, hf⟩ := chk_some hf
        refine g_ialdj l3.toNatClampNeg rfl aS27 (ixb_in h3) dX1_reach_60 ?_
        refine g_istore [(4, .int (sI st 27 l3.toNatClampNeg)), (0, .ref (eB E + 25)), (2, .int l2), (3, .int l3)] (by decide) rfl dX1_reach_61 ?_
        refine g_iconst (0 : Int32) (by decide) dX1_reach_63 ?_
        refine g_istore [(5, .int (0 : Int32)), (4, .int (sI st 27 l3.toNatClampNeg)), (0, .ref (eB E + 25)), (2, .int l2), (3, .int l3)] (by decide) rfl dX1_reach_64 ?_
        refine g_lvs [2, 3, 4, 1, 0] rfl ?_
        exact wX1_reach_b66 B ih FU l2 l3 (sI st 27 l3.toNatClampNeg) (0 : Int32) st hf
def fX1_reach (p1 : Int32) (p2 : Int32) (st : St) : Option (Int32 × St) :=
  (fJ7_fill_53178 28 (-1 : Int32) st).bind (fun q2 => chk (ixb p1 384) (if (p1 / (6 : Int32)) = p2 then (some (p1, pI (pI (pI q2 28 p1.toNatClampNeg (-2 : Int32)) 27 0 p1) 25 10 (1 : Int32))) else (fX1_reach_b40 FU p2 (0 : Int32) (pI (pI (pI q2 28 p1.toNatClampNeg (-2 : Int32)) 27 0 p1) 25 10 (1 : Int32)))))
set_option maxHeartbeats 1000000 in
set_option maxRecDepth 20000 in
theorem wX1_reach {E : Ev} {x : Cx} {r0 : Int32} {u0 : St} (B : Bd E x (some FieldType.int) (7) 0 0 (some (.int r0)) u0) (p1 : Int32) (p2 : Int32) (st : St)  (hf : fX1_reach p1 p2 st = some (r0, u0)) : G E WT x RX1 cX1_reach 7 (0, 0) st 0 [(0, .ref (eB E + 25)), (1, .int p1), (2, .int p2)] [] := by
  unfold fX1_reach at hf
  refine g_aload_n rfl 0 rfl dX1_reach_0 ?_
  refine g_get (j := 4) cok1 (by decide) (.ref (eB E + 28)) (Or.inl tw2_0) oS25 vS25_4 dX1_reach_1 ?_
  refine g_iconst (-1 : Int32) (by decide) dX1_reach_4 ?_
  refine g_wt (fun w1 => ?_)
  obtain ⟨q2, h3, hf⟩ := bnd_some hf
  refine g_callS0v (As := [.ref (eB E + 28), .int (-1 : Int32)]) (rest := []) mok_J7_fill_53178 tw4_52 tw2_136 B.1 (by decide) (kJ7_fill_53178 (oS28 w1) h3) rfl rfl (Nat.le_of_ble_eq_true rfl) ⟨Nat.le_refl _, Nat.le_refl _⟩ dX1_reach_5 ?_
  refine g_aload_n rfl 0 rfl dX1_reach_8 ?_
  refine g_get (j := 4) cok1 (by decide) (.ref (eB E + 28)) (Or.inl tw2_0) oS25 vS25_4 dX1_reach_9 ?_
  refine g_iload_n rfl 1 rfl dX1_reach_12 ?_
  refine g_bipush (-2 : Int32) (by decide) dX1_reach_13 ?_
  obtain ⟨h4, hf⟩ := chk_some hf
  refine g_iastj p1.toNatClampNeg rfl aS28 (ixb_in h4) B.2.1 wpI dX1_reach_15 ?_
  refine g_aload_n rfl 0 rfl dX1_reach_16 ?_
  refine g_get (j := 3) cok1 (by decide) (.ref (eB E + 27)) (Or.inl tw1_239) oS25 vS25_3 dX1_reach_17 ?_
  refine g_iconst (0 : Int32) (by decide) dX1_reach_20 ?_
  refine g_iload_n rfl 1 rfl dX1_reach_21 ?_
  refine g_iastj 0 rfl aS27 (ixb_in rfl) B.2.1 wpI dX1_reach_22 ?_
  refine g_aload_n rfl 0 rfl dX1_reach_23 ?_
  refine g_iconst (1 : Int32) (by decide) dX1_reach_24 ?_
  refine g_putI (j := 10) cok1 (by decide) rfl rfl rfl rfl (Or.inl tw2_7) oS25 B.2.1 wpI dX1_reach_25 ?_
  refine g_iload_n rfl 1 rfl dX1_reach_28 ?_
  refine g_bipush (6 : Int32) (by decide) dX1_reach_29 ?_
  refine g_idiv (by decide) dX1_reach_31 ?_
  refine g_iload_n rfl 2 rfl dX1_reach_32 ?_
  refine g_icmp_ne 38 (by decide) dX1_reach_33 (fun h5 => ?_) (fun h5 => ?_)
  · rw [if_neg h5] at hf
    refine g_iconst (0 : Int32) (by decide) dX1_reach_38 ?_
    refine g_istore_n rfl [(3, .int (0 : Int32)), (0, .ref (eB E + 25)), (1, .int p1), (2, .int p2)] (by decide) rfl dX1_reach_39 ?_
    refine g_lvs [1, 3, 0] rfl ?_
    exact wX1_reach_b40 B  FU p2 (0 : Int32) (pI (pI (pI q2 28 p1.toNatClampNeg (-2 : Int32)) 27 0 p1) 25 10 (1 : Int32)) hf
  · rw [if_pos h5] at hf
    refine g_iload_n rfl 1 rfl dX1_reach_36 ?_
    exact g_iret B.2.2.2 B.2.2.1 (congrArg (fun z => some (Value.int z)) (Prod.mk.inj (Option.some.inj hf)).1.symm) (Prod.mk.inj (Option.some.inj hf)).2.symm dX1_reach_37
theorem kX1_reach {l : Launch} {E : Ev} {st : St} {p1 : Int32} {p2 : Int32} {r0 : Int32} {u0 : St}  (hf : fX1_reach p1 p2 st = some (r0, u0)) : CM l E WT yX1_reach cX1_reach 7 (some FieldType.int) 7 0 0 [.ref (eB E + 25), .int p1, .int p2] st (some (.int r0)) u0 :=
  CM.intro mok_X1_reach (Nat.le_of_ble_eq_true rfl) (fun x hl hR ht hr hQ _ => wX1_reach ⟨hR, ht, hr, hQ⟩ p1 p2 st hf)
def fX1_sayingsTo_b4 (st : St)  : Nat → Int32 → Int32 → Option Int32
  | 0, _, _ => none
  | n + 1, l2, l3 => if (384 : Int32) ≤ l2 then (some l2) else (chk (ixb l3 384) (if (sI st 28 l3.toNatClampNeg) < 0 then (some l2) else (chk (ixb l3 384) (fX1_sayingsTo_b4 st n (l2 + (1 : Int32)) ((sI st 28 l3.toNatClampNeg) / (5 : Int32))))))
set_option maxHeartbeats 1000000 in
set_option maxRecDepth 20000 in
theorem wX1_sayingsTo_b4 {E : Ev} {x : Cx} {r0 : Int32} {st : St} (B : Bd E x (some FieldType.int) (0) 0 0 (some (.int r0)) st) : ∀ (n : Nat) (l2 : Int32) (l3 : Int32) , fX1_sayingsTo_b4 st n l2 l3 = some r0 → G E WT x RX1 cX1_sayingsTo 4 (0, 0) st 4 [(0, .ref (eB E + 25)), (2, .int l2), (3, .int l3)] [] := by
  intro n
  induction n with
  | zero =>
    intros
    rename_i hf
    rw [fX1_sayingsTo_b4] at hf
    cases hf
  | succ n ih =>
    intro l2 l3 hf
    rw [fX1_sayingsTo_b4] at hf
    refine g_iload_n rfl 1 rfl dX1_sayingsTo_4 ?_
    refine g_sipush (384 : Int32) (by decide) dX1_sayingsTo_5 ?_
    refine g_icmp_ge 35 (by decide) dX1_sayingsTo_8 (fun h1 => ?_) (fun h1 => ?_)
    · rw [if_pos h1] at hf
      refine g_iload_n rfl 1 rfl dX1_sayingsTo_35 ?_
      exact g_iret B.2.2.2 B.2.2.1 (congrArg (fun z => some (Value.int z)) (Option.some.inj hf).symm) rfl dX1_sayingsTo_36
    · rw [if_neg h1] at hf
      refine g_aload_n rfl 0 rfl dX1_sayingsTo_11 ?_
      refine g_get (j := 4) cok1 (by decide) (.ref (eB E + 28)) (Or.inl tw2_0) oS25 vS25_4 dX1_sayingsTo_12 ?_
      refine g_iload_n rfl 2 rfl dX1_sayingsTo_15 ?_
      obtain ⟨h2, hf⟩ := chk_some hf
      refine g_ialdj l3.toNatClampNeg rfl aS28 (ixb_in h2) dX1_sayingsTo_16 ?_
      refine g_if_lt 35 (by decide) dX1_sayingsTo_17 (fun h3 => ?_) (fun h3 => ?_)
      · rw [if_pos h3] at hf
        refine g_iload_n rfl 1 rfl dX1_sayingsTo_35 ?_
        exact g_iret B.2.2.2 B.2.2.1 (congrArg (fun z => some (Value.int z)) (Option.some.inj hf).symm) rfl dX1_sayingsTo_36
      · rw [if_neg h3] at hf
        refine g_aload_n rfl 0 rfl dX1_sayingsTo_20 ?_
        refine g_get (j := 4) cok1 (by decide) (.ref (eB E + 28)) (Or.inl tw2_0) oS25 vS25_4 dX1_sayingsTo_21 ?_
        refine g_iload_n rfl 2 rfl dX1_sayingsTo_24 ?_
        obtain ⟨h4, hf⟩ := chk_some hf
        refine g_ialdj l3.toNatClampNeg rfl aS28 (ixb_in h4) dX1_sayingsTo_25 ?_
        refine g_iconst (5 : Int32) (by decide) dX1_sayingsTo_26 ?_
        refine g_idiv (by decide) dX1_sayingsTo_27 ?_
        refine g_istore_n rfl [(3, .int ((sI st 28 l3.toNatClampNeg) / (5 : Int32))), (0, .ref (eB E + 25)), (2, .int l2)] (by decide) rfl dX1_sayingsTo_28 ?_
        refine g_iinc (l2 + (1 : Int32)) [(2, .int (l2 + (1 : Int32))), (3, .int ((sI st 28 l3.toNatClampNeg) / (5 : Int32))), (0, .ref (eB E + 25))] 2 rfl (congrArg (fun z => l2 + z) (show Int32.ofInt (1) = (1 : Int32) by decide)) (by decide) rfl dX1_sayingsTo_29 ?_
        refine g_goto 4 (by decide) dX1_sayingsTo_32 ?_
        refine g_lvs [2, 0, 1] rfl ?_
        exact ih (l2 + (1 : Int32)) ((sI st 28 l3.toNatClampNeg) / (5 : Int32)) hf
def fX1_sayingsTo (st : St) (p1 : Int32) : Option Int32 :=
  fX1_sayingsTo_b4 st FU (0 : Int32) p1
set_option maxHeartbeats 1000000 in
set_option maxRecDepth 20000 in
theorem wX1_sayingsTo {E : Ev} {x : Cx} {r0 : Int32} {st : St} (B : Bd E x (some FieldType.int) (0) 0 0 (some (.int r0)) st) (p1 : Int32)  (hf : fX1_sayingsTo st p1 = some r0) : G E WT x RX1 cX1_sayingsTo 4 (0, 0) st 0 [(0, .ref (eB E + 25)), (1, .int p1)] [] := by
  unfold fX1_sayingsTo at hf
  refine g_iconst (0 : Int32) (by decide) dX1_sayingsTo_0 ?_
  refine g_istore_n rfl [(2, .int (0 : Int32)), (0, .ref (eB E + 25)), (1, .int p1)] (by decide) rfl dX1_sayingsTo_1 ?_
  refine g_iload_n rfl 2 rfl dX1_sayingsTo_2 ?_
  refine g_istore_n rfl [(3, .int p1), (2, .int (0 : Int32)), (0, .ref (eB E + 25)), (1, .int p1)] (by decide) rfl dX1_sayingsTo_3 ?_
  refine g_lvs [2, 1, 0] rfl ?_
  exact wX1_sayingsTo_b4 B  FU (0 : Int32) p1 hf
theorem kX1_sayingsTo {l : Launch} {E : Ev} {st : St} {p1 : Int32} {r0 : Int32}  (hf : fX1_sayingsTo st p1 = some r0) : CM l E WT yX1_sayingsTo cX1_sayingsTo 4 (some FieldType.int) 0 0 0 [.ref (eB E + 25), .int p1] st (some (.int r0)) st :=
  CM.intro mok_X1_sayingsTo (Nat.le_of_ble_eq_true rfl) (fun x hl hR ht hr hQ _ => wX1_sayingsTo ⟨hR, ht, hr, hQ⟩ p1 hf)
def fX1_rhymeAhead_b35 (st : St) (l3 : Int32) : Option Int32 :=
  chk (ixb l3 384) (if 0 ≤ (sI st 28 l3.toNatClampNeg) then (chk (ixb l3 384) (some (jrem (sI st 28 l3.toNatClampNeg) (5 : Int32)))) else (some (-1 : Int32)))
set_option maxHeartbeats 1000000 in
set_option maxRecDepth 20000 in
theorem wX1_rhymeAhead_b35 {E : Ev} {x : Cx} {r0 : Int32} {st : St} (B : Bd E x (some FieldType.int) (0) 0 0 (some (.int r0)) st) (l3 : Int32)  (hf : fX1_rhymeAhead_b35 st l3 = some r0) : G E WT x RX1 cX1_rhymeAhead 5 (0, 0) st 35 [(0, .ref (eB E + 25)), (3, .int l3)] [] := by
  unfold fX1_rhymeAhead_b35 at hf
  refine g_aload_n rfl 0 rfl dX1_rhymeAhead_35 ?_
  refine g_get (j := 4) cok1 (by decide) (.ref (eB E + 28)) (Or.inl tw2_0) oS25 vS25_4 dX1_rhymeAhead_36 ?_
  refine g_iload_n rfl 1 rfl dX1_rhymeAhead_39 ?_
  obtain ⟨h1, hf⟩ := chk_some hf
  refine g_ialdj l3.toNatClampNeg rfl aS28 (ixb_in h1) dX1_rhymeAhead_40 ?_
  refine g_if_ge 48 (by decide) dX1_rhymeAhead_41 (fun h2 => ?_) (fun h2 => ?_)
  · rw [if_pos h2] at hf
    refine g_aload_n rfl 0 rfl dX1_rhymeAhead_48 ?_
    refine g_get (j := 4) cok1 (by decide) (.ref (eB E + 28)) (Or.inl tw2_0) oS25 vS25_4 dX1_rhymeAhead_49 ?_
    refine g_iload_n rfl 1 rfl dX1_rhymeAhead_52 ?_
    obtain ⟨h3, hf⟩ := chk_some hf
    refine g_ialdj l3.toNatClampNeg rfl aS28 (ixb_in h3) dX1_rhymeAhead_53 ?_
    refine g_iconst (5 : Int32) (by decide) dX1_rhymeAhead_54 ?_
    refine g_irem (by decide) dX1_rhymeAhead_55 ?_
    exact g_iret B.2.2.2 B.2.2.1 (congrArg (fun z => some (Value.int z)) (Option.some.inj hf).symm) rfl dX1_rhymeAhead_56
  · rw [if_neg h2] at hf
    refine g_iconst (-1 : Int32) (by decide) dX1_rhymeAhead_44 ?_
    refine g_goto 56 (by decide) dX1_rhymeAhead_45 ?_
    exact g_iret B.2.2.2 B.2.2.1 (congrArg (fun z => some (Value.int z)) (Option.some.inj hf).symm) rfl dX1_rhymeAhead_56
def fX1_rhymeAhead_b5 (st : St)  : Nat → Int32 → Int32 → Int32 → Option Int32
  | 0, _, _, _ => none
  | n + 1, l2, l3, l4 => if l2 ≤ l4 then (fX1_rhymeAhead_b35 st l3) else (chk (ixb l3 384) (if (sI st 28 l3.toNatClampNeg) < 0 then (fX1_rhymeAhead_b35 st l3) else (chk (ixb l3 384) (fX1_rhymeAhead_b5 st n l2 ((sI st 28 l3.toNatClampNeg) / (5 : Int32)) (l4 + (1 : Int32))))))
set_option maxHeartbeats 1000000 in
set_option maxRecDepth 20000 in
theorem wX1_rhymeAhead_b5 {E : Ev} {x : Cx} {r0 : Int32} {st : St} (B : Bd E x (some FieldType.int) (0) 0 0 (some (.int r0)) st) : ∀ (n : Nat) (l2 : Int32) (l3 : Int32) (l4 : Int32) , fX1_rhymeAhead_b5 st n l2 l3 l4 = some r0 → G E WT x RX1 cX1_rhymeAhead 5 (0, 0) st 5 [(0, .ref (eB E + 25)), (2, .int l2), (3, .int l3), (4, .int l4)] [] := by
  intro n
  induction n with
  | zero =>
    intros
    rename_i hf
    rw [fX1_rhymeAhead_b5] at hf
    cases hf
  | succ n ih =>
    intro l2 l3 l4 hf
    rw [fX1_rhymeAhead_b5] at hf
    refine g_iload 3 rfl dX1_rhymeAhead_5 ?_
    refine g_iload_n rfl 1 rfl dX1_rhymeAhead_7 ?_
    refine g_icmp_ge 35 (by decide) dX1_rhymeAhead_8 (fun h1 => ?_) (fun h1 => ?_)
    · rw [if_pos h1] at hf
      refine g_lvs [0, 2] rfl ?_
      exact wX1_rhymeAhead_b35 B  l3 hf
    · rw [if_neg h1] at hf
      refine g_aload_n rfl 0 rfl dX1_rhymeAhead_11 ?_
      refine g_get (j := 4) cok1 (by decide) (.ref (eB E + 28)) (Or.inl tw2_0) oS25 vS25_4 dX1_rhymeAhead_12 ?_
      refine g_iload_n rfl 2 rfl dX1_rhymeAhead_15 ?_
      obtain ⟨h2, hf⟩ := chk_some hf
      refine g_ialdj l3.toNatClampNeg rfl aS28 (ixb_in h2) dX1_rhymeAhead_16 ?_
      refine g_if_lt 35 (by decide) dX1_rhymeAhead_17 (fun h3 => ?_) (fun h3 => ?_)
      · rw [if_pos h3] at hf
        refine g_lvs [0, 2] rfl ?_
        exact wX1_rhymeAhead_b35 B  l3 hf
      · rw [if_neg h3] at hf
        refine g_aload_n rfl 0 rfl dX1_rhymeAhead_20 ?_
        refine g_get (j := 4) cok1 (by decide) (.ref (eB E + 28)) (Or.inl tw2_0) oS25 vS25_4 dX1_rhymeAhead_21 ?_
        refine g_iload_n rfl 2 rfl dX1_rhymeAhead_24 ?_
        obtain ⟨h4, hf⟩ := chk_some hf
        refine g_ialdj l3.toNatClampNeg rfl aS28 (ixb_in h4) dX1_rhymeAhead_25 ?_
        refine g_iconst (5 : Int32) (by decide) dX1_rhymeAhead_26 ?_
        refine g_idiv (by decide) dX1_rhymeAhead_27 ?_
        refine g_istore_n rfl [(3, .int ((sI st 28 l3.toNatClampNeg) / (5 : Int32))), (0, .ref (eB E + 25)), (2, .int l2), (4, .int l4)] (by decide) rfl dX1_rhymeAhead_28 ?_
        refine g_iinc (l4 + (1 : Int32)) [(4, .int (l4 + (1 : Int32))), (3, .int ((sI st 28 l3.toNatClampNeg) / (5 : Int32))), (0, .ref (eB E + 25)), (2, .int l2)] 3 rfl (congrArg (fun z => l4 + z) (show Int32.ofInt (1) = (1 : Int32) by decide)) (by decide) rfl dX1_rhymeAhead_29 ?_
        refine g_goto 5 (by decide) dX1_rhymeAhead_32 ?_
        refine g_lvs [2, 3, 1, 0] rfl ?_
        exact ih l2 ((sI st 28 l3.toNatClampNeg) / (5 : Int32)) (l4 + (1 : Int32)) hf
def fX1_rhymeAhead (st : St) (p1 : Int32) (p2 : Int32) : Option Int32 :=
  fX1_rhymeAhead_b5 st FU p2 p1 (0 : Int32)
set_option maxHeartbeats 1000000 in
set_option maxRecDepth 20000 in
theorem wX1_rhymeAhead {E : Ev} {x : Cx} {r0 : Int32} {st : St} (B : Bd E x (some FieldType.int) (0) 0 0 (some (.int r0)) st) (p1 : Int32) (p2 : Int32)  (hf : fX1_rhymeAhead st p1 p2 = some r0) : G E WT x RX1 cX1_rhymeAhead 5 (0, 0) st 0 [(0, .ref (eB E + 25)), (1, .int p1), (2, .int p2)] [] := by
  unfold fX1_rhymeAhead at hf
  refine g_iload_n rfl 1 rfl dX1_rhymeAhead_0 ?_
  refine g_istore_n rfl [(3, .int p1), (0, .ref (eB E + 25)), (1, .int p1), (2, .int p2)] (by decide) rfl dX1_rhymeAhead_1 ?_
  refine g_iconst (0 : Int32) (by decide) dX1_rhymeAhead_2 ?_
  refine g_istore [(4, .int (0 : Int32)), (3, .int p1), (0, .ref (eB E + 25)), (1, .int p1), (2, .int p2)] (by decide) rfl dX1_rhymeAhead_3 ?_
  refine g_lvs [2, 4, 1, 0] rfl ?_
  exact wX1_rhymeAhead_b5 B  FU p2 p1 (0 : Int32) hf
theorem kX1_rhymeAhead {l : Launch} {E : Ev} {st : St} {p1 : Int32} {p2 : Int32} {r0 : Int32}  (hf : fX1_rhymeAhead st p1 p2 = some r0) : CM l E WT yX1_rhymeAhead cX1_rhymeAhead 5 (some FieldType.int) 0 0 0 [.ref (eB E + 25), .int p1, .int p2] st (some (.int r0)) st :=
  CM.intro mok_X1_rhymeAhead (Nat.le_of_ble_eq_true rfl) (fun x hl hR ht hr hQ _ => wX1_rhymeAhead ⟨hR, ht, hr, hQ⟩ p1 p2 hf)
def fX1_choose_b19 : Nat → Int32 → Nat → Int32 → Int32 → St → Option (Int32 × St)
  | 0, _, _, _, _, _ => none
  | n + 1, l1, l2, l3, l4, st => if (sI st 1 6) ≤ l4 then (some ((0 : Int32), st)) else ((fX6_after l1 l4 st).bind (fun q2 => chk (ixb q2.1 384) (if (sI q2.2 l2 q2.1.toNatClampNeg) = l3 then (fX1_choose_b19 n l1 l2 l3 (l4 + (1 : Int32)) q2.2) else (some (l4, q2.2)))))
set_option maxHeartbeats 1000000 in
set_option maxRecDepth 20000 in
theorem wX1_choose_b19 {E : Ev} {x : Cx} {r0 : Int32} {u0 : St} (B : Bd E x (some FieldType.int) (7) 0 0 (some (.int r0)) u0) : ∀ (n : Nat) (l1 : Int32) (l2 : Nat) (l3 : Int32) (l4 : Int32) (st : St) (h_l2 : lay[l2]? = some (10, 384)), fX1_choose_b19 n l1 l2 l3 l4 st = some (r0, u0) → G E WT x RX1 cX1_choose 5 (0, 0) st 19 [(0, .ref (eB E + 25)), (1, .int l1), (2, .ref (eB E + l2)), (3, .int l3), (4, .int l4)] [] := by
  intro n
  induction n with
  | zero =>
    intros
    rename_i hf
    rw [fX1_choose_b19] at hf
    cases hf
  | succ n ih =>
    intro l1 l2 l3 l4 st h_l2 hf
    rw [fX1_choose_b19] at hf
    refine g_iload 4 rfl dX1_choose_19 ?_
    refine g_aload_n rfl 0 rfl dX1_choose_21 ?_
    refine g_get (j := 0) cok1 (by decide) (.ref (eB E + 1)) (Or.inl tw1_235) oS25 vS25_0 dX1_choose_22 ?_
    refine g_get (j := 6) cok4 (by decide) (.int (sI st 1 6)) (Or.inr nf_18) oS1 (fun _ => rfl) dX1_choose_25 ?_
    refine g_icmp_ge 56 (by decide) dX1_choose_28 (fun h1 => ?_) (fun h1 => ?_)
    · rw [if_pos h1] at hf
      refine g_iconst (0 : Int32) (by decide) dX1_choose_56 ?_
      exact g_iret B.2.2.2 B.2.2.1 (congrArg (fun z => some (Value.int z)) (Prod.mk.inj (Option.some.inj hf)).1.symm) (Prod.mk.inj (Option.some.inj hf)).2.symm dX1_choose_57
    · rw [if_neg h1] at hf
      refine g_aload_n rfl 2 rfl dX1_choose_31 ?_
      refine g_aload_n rfl 0 rfl dX1_choose_32 ?_
      refine g_get (j := 1) cok1 (by decide) (.ref (eB E + 19)) (Or.inl tw1_236) oS25 vS25_1 dX1_choose_33 ?_
      refine g_iload_n rfl 1 rfl dX1_choose_36 ?_
      refine g_iload 4 rfl dX1_choose_37 ?_
      obtain ⟨q2, h3, hf⟩ := bnd_some hf
      refine g_callVN0i (As := [.int l1, .int l4]) (rest := [.ref (eB E + l2)]) cok6 mok_X6_after nmm_40 tw4_29 ts4_4 oS19 B.1 (by decide) (kX6_after  h3) rfl rfl (Nat.le_of_ble_eq_true rfl) ⟨Nat.le_refl _, Nat.le_refl _⟩ dX1_choose_39 ?_
      obtain ⟨h4, hf⟩ := chk_some hf
      refine g_ialdj q2.1.toNatClampNeg rfl (WT.ar h_l2) (ixb_in h4) dX1_choose_42 ?_
      refine g_iload_n rfl 3 rfl dX1_choose_43 ?_
      refine g_icmp_eq 50 (by decide) dX1_choose_44 (fun h5 => ?_) (fun h5 => ?_)
      · rw [if_pos h5] at hf
        refine g_iinc (l4 + (1 : Int32)) [(4, .int (l4 + (1 : Int32))), (0, .ref (eB E + 25)), (1, .int l1), (2, .ref (eB E + l2)), (3, .int l3)] 4 rfl (congrArg (fun z => l4 + z) (show Int32.ofInt (1) = (1 : Int32) by decide)) (by decide) rfl dX1_choose_50 ?_
        refine g_goto 19 (by decide) dX1_choose_53 ?_
        refine g_lvs [1, 2, 3, 4, 0] rfl ?_
        exact ih l1 l2 l3 (l4 + (1 : Int32)) q2.2 h_l2 hf
      · rw [if_neg h5] at hf
        refine g_iload 4 rfl dX1_choose_47 ?_
        exact g_iret B.2.2.2 B.2.2.1 (congrArg (fun z => some (Value.int z)) (Prod.mk.inj (Option.some.inj hf)).1.symm) (Prod.mk.inj (Option.some.inj hf)).2.symm dX1_choose_49
def fX1_choose (p1 : Int32) (ar : Nat) (st : St) : Option (Int32 × St) :=
  (fX6_firstIn st (p1 / (6 : Int32)) (jrem p1 (6 : Int32))).bind (fun q1 => fX1_choose_b19 FU p1 ar q1 (0 : Int32) st)
set_option maxHeartbeats 1000000 in
set_option maxRecDepth 20000 in
theorem wX1_choose {E : Ev} {x : Cx} {r0 : Int32} {u0 : St} (B : Bd E x (some FieldType.int) (7) 0 0 (some (.int r0)) u0) (p1 : Int32) (ar : Nat) (st : St) (h_ar : lay[ar]? = some (10, 384)) (hf : fX1_choose p1 ar st = some (r0, u0)) : G E WT x RX1 cX1_choose 5 (0, 0) st 0 [(0, .ref (eB E + 25)), (1, .int p1), (2, .ref (eB E + ar))] [] := by
  unfold fX1_choose at hf
  refine g_aload_n rfl 0 rfl dX1_choose_0 ?_
  refine g_get (j := 1) cok1 (by decide) (.ref (eB E + 19)) (Or.inl tw1_236) oS25 vS25_1 dX1_choose_1 ?_
  refine g_iload_n rfl 1 rfl dX1_choose_4 ?_
  refine g_bipush (6 : Int32) (by decide) dX1_choose_5 ?_
  refine g_idiv (by decide) dX1_choose_7 ?_
  refine g_iload_n rfl 1 rfl dX1_choose_8 ?_
  refine g_bipush (6 : Int32) (by decide) dX1_choose_9 ?_
  refine g_irem (by decide) dX1_choose_11 ?_
  obtain ⟨q1, h2, hf⟩ := bnd_some hf
  refine g_callVN0i (As := [.int (p1 / (6 : Int32)), .int (jrem p1 (6 : Int32))]) (rest := []) cok6 mok_X6_firstIn nmm_45 tw3_168 ts3_7 oS19 B.1 (by decide) (kX6_firstIn  h2) rfl rfl (Nat.le_of_ble_eq_true rfl) ⟨Nat.le_refl _, Nat.le_refl _⟩ dX1_choose_12 ?_
  refine g_istore_n rfl [(3, .int q1), (0, .ref (eB E + 25)), (1, .int p1), (2, .ref (eB E + ar))] (by decide) rfl dX1_choose_15 ?_
  refine g_iconst (0 : Int32) (by decide) dX1_choose_16 ?_
  refine g_istore [(4, .int (0 : Int32)), (3, .int q1), (0, .ref (eB E + 25)), (1, .int p1), (2, .ref (eB E + ar))] (by decide) rfl dX1_choose_17 ?_
  refine g_lvs [2, 3, 4, 1, 0] rfl ?_
  exact wX1_choose_b19 B  FU p1 ar q1 (0 : Int32) st h_ar hf
theorem kX1_choose {l : Launch} {E : Ev} {st : St} {p1 : Int32} {ar : Nat} {r0 : Int32} {u0 : St} (h_ar : lay[ar]? = some (10, 384)) (hf : fX1_choose p1 ar st = some (r0, u0)) : CM l E WT yX1_choose cX1_choose 5 (some FieldType.int) 7 0 0 [.ref (eB E + 25), .int p1, .ref (eB E + ar)] st (some (.int r0)) u0 :=
  CM.intro mok_X1_choose (Nat.le_of_ble_eq_true rfl) (fun x hl hR ht hr hQ _ => wX1_choose ⟨hR, ht, hr, hQ⟩ p1 ar st h_ar hf)
def fX1_play_b199 (k79 : Int32 → Nat → Nat → Int32 → Int32 → St → Option (Int32 × St)) (k97 : Int32 → Nat → Nat → Int32 → Int32 → Int32 → St → Option (Int32 × St))(l1 : Int32) (l2 : Nat) (l3 : Nat) (l4 : Int32) (l5 : Int32) (l6 : Int32) (st : St) : Option (Int32 × St) :=
  k97 l1 l2 l3 l4 l5 (l6 + (1 : Int32)) st
set_option maxHeartbeats 1000000 in
set_option maxRecDepth 20000 in
theorem wX1_play_b199 {E : Ev} {x : Cx} {r0 : Int32} {u0 : St} (B : Bd E x (some FieldType.int) (8) 0 0 (some (.int r0)) u0) {k79 : Int32 → Nat → Nat → Int32 → Int32 → St → Option (Int32 × St)} (hk79 : ∀ (l1 : Int32) (l2 : Nat) (l3 : Nat) (l4 : Int32) (l5 : Int32) (st : St), (lay[l2]? = some (10, 384)) → (lay[l3]? = some (10, 384)) → k79 l1 l2 l3 l4 l5 st = some (r0, u0) → G E WT x RX1 cX1_play 9 (0, 0) st 79 [(0, .ref (eB E + 25)), (1, .int l1), (2, .ref (eB E + l2)), (3, .ref (eB E + l3)), (4, .int l4), (5, .int l5)] []) {k97 : Int32 → Nat → Nat → Int32 → Int32 → Int32 → St → Option (Int32 × St)} (hk97 : ∀ (l1 : Int32) (l2 : Nat) (l3 : Nat) (l4 : Int32) (l5 : Int32) (l6 : Int32) (st : St), (lay[l2]? = some (10, 384)) → (lay[l3]? = some (10, 384)) → k97 l1 l2 l3 l4 l5 l6 st = some (r0, u0) → G E WT x RX1 cX1_play 9 (0, 0) st 97 [(0, .ref (eB E + 25)), (1, .int l1), (2, .ref (eB E + l2)), (3, .ref (eB E + l3)), (4, .int l4), (5, .int l5), (6, .int l6)] []) (l1 : Int32) (l2 : Nat) (l3 : Nat) (l4 : Int32) (l5 : Int32) (l6 : Int32) (st : St) (h_l2 : lay[l2]? = some (10, 384)) (h_l3 : lay[l3]? = some (10, 384)) (hf : fX1_play_b199 k79 k97 l1 l2 l3 l4 l5 l6 st = some (r0, u0)) : G E WT x RX1 cX1_play 9 (0, 0) st 199 [(0, .ref (eB E + 25)), (1, .int l1), (2, .ref (eB E + l2)), (3, .ref (eB E + l3)), (4, .int l4), (5, .int l5), (6, .int l6)] [] := by
  unfold fX1_play_b199 at hf
  refine g_iinc (l6 + (1 : Int32)) [(6, .int (l6 + (1 : Int32))), (0, .ref (eB E + 25)), (1, .int l1), (2, .ref (eB E + l2)), (3, .ref (eB E + l3)), (4, .int l4), (5, .int l5)] 6 rfl (congrArg (fun z => l6 + z) (show Int32.ofInt (1) = (1 : Int32) by decide)) (by decide) rfl dX1_play_199 ?_
  refine g_goto 97 (by decide) dX1_play_202 ?_
  refine g_lvs [1, 2, 3, 4, 5, 6, 0] rfl ?_
  exact hk97 l1 l2 l3 l4 l5 (l6 + (1 : Int32)) st h_l2 h_l3 hf
def fX1_play_b197 (k79 : Int32 → Nat → Nat → Int32 → Int32 → St → Option (Int32 × St)) (k97 : Int32 → Nat → Nat → Int32 → Int32 → Int32 → St → Option (Int32 × St))(l1 : Int32) (l2 : Nat) (l3 : Nat) (l5 : Int32) (l6 : Int32) (s0 : Int32) (st : St) : Option (Int32 × St) :=
  fX1_play_b199 k79 k97 l1 l2 l3 s0 l5 l6 st
set_option maxHeartbeats 1000000 in
set_option maxRecDepth 20000 in
theorem wX1_play_b197 {E : Ev} {x : Cx} {r0 : Int32} {u0 : St} (B : Bd E x (some FieldType.int) (8) 0 0 (some (.int r0)) u0) {k79 : Int32 → Nat → Nat → Int32 → Int32 → St → Option (Int32 × St)} (hk79 : ∀ (l1 : Int32) (l2 : Nat) (l3 : Nat) (l4 : Int32) (l5 : Int32) (st : St), (lay[l2]? = some (10, 384)) → (lay[l3]? = some (10, 384)) → k79 l1 l2 l3 l4 l5 st = some (r0, u0) → G E WT x RX1 cX1_play 9 (0, 0) st 79 [(0, .ref (eB E + 25)), (1, .int l1), (2, .ref (eB E + l2)), (3, .ref (eB E + l3)), (4, .int l4), (5, .int l5)] []) {k97 : Int32 → Nat → Nat → Int32 → Int32 → Int32 → St → Option (Int32 × St)} (hk97 : ∀ (l1 : Int32) (l2 : Nat) (l3 : Nat) (l4 : Int32) (l5 : Int32) (l6 : Int32) (st : St), (lay[l2]? = some (10, 384)) → (lay[l3]? = some (10, 384)) → k97 l1 l2 l3 l4 l5 l6 st = some (r0, u0) → G E WT x RX1 cX1_play 9 (0, 0) st 97 [(0, .ref (eB E + 25)), (1, .int l1), (2, .ref (eB E + l2)), (3, .ref (eB E + l3)), (4, .int l4), (5, .int l5), (6, .int l6)] []) (l1 : Int32) (l2 : Nat) (l3 : Nat) (l5 : Int32) (l6 : Int32) (s0 : Int32) (st : St) (h_l2 : lay[l2]? = some (10, 384)) (h_l3 : lay[l3]? = some (10, 384)) (hf : fX1_play_b197 k79 k97 l1 l2 l3 l5 l6 s0 st = some (r0, u0)) : G E WT x RX1 cX1_play 9 (0, 0) st 197 [(0, .ref (eB E + 25)), (1, .int l1), (2, .ref (eB E + l2)), (3, .ref (eB E + l3)), (5, .int l5), (6, .int l6)] [.int s0] := by
  unfold fX1_play_b197 at hf
  refine g_istore [(4, .int s0), (0, .ref (eB E + 25)), (1, .int l1), (2, .ref (eB E + l2)), (3, .ref (eB E + l3)), (5, .int l5), (6, .int l6)] (by decide) rfl dX1_play_197 ?_
  refine g_lvs [1, 2, 3, 4, 0, 5, 6] rfl ?_
  exact wX1_play_b199 B hk79 hk97 l1 l2 l3 s0 l5 l6 st h_l2 h_l3 hf
def fX1_play_b192 (k79 : Int32 → Nat → Nat → Int32 → Int32 → St → Option (Int32 × St)) (k97 : Int32 → Nat → Nat → Int32 → Int32 → Int32 → St → Option (Int32 × St))(l1 : Int32) (l2 : Nat) (l3 : Nat) (l5 : Int32) (l6 : Int32) (st : St) : Option (Int32 × St) :=
  fX1_play_b197 k79 k97 l1 l2 l3 l5 l6 (1 : Int32) st
set_option maxHeartbeats 1000000 in
set_option maxRecDepth 20000 in
theorem wX1_play_b192 {E : Ev} {x : Cx} {r0 : Int32} {u0 : St} (B : Bd E x (some FieldType.int) (8) 0 0 (some (.int r0)) u0) {k79 : Int32 → Nat → Nat → Int32 → Int32 → St → Option (Int32 × St)} (hk79 : ∀ (l1 : Int32) (l2 : Nat) (l3 : Nat) (l4 : Int32) (l5 : Int32) (st : St), (lay[l2]? = some (10, 384)) → (lay[l3]? = some (10, 384)) → k79 l1 l2 l3 l4 l5 st = some (r0, u0) → G E WT x RX1 cX1_play 9 (0, 0) st 79 [(0, .ref (eB E + 25)), (1, .int l1), (2, .ref (eB E + l2)), (3, .ref (eB E + l3)), (4, .int l4), (5, .int l5)] []) {k97 : Int32 → Nat → Nat → Int32 → Int32 → Int32 → St → Option (Int32 × St)} (hk97 : ∀ (l1 : Int32) (l2 : Nat) (l3 : Nat) (l4 : Int32) (l5 : Int32) (l6 : Int32) (st : St), (lay[l2]? = some (10, 384)) → (lay[l3]? = some (10, 384)) → k97 l1 l2 l3 l4 l5 l6 st = some (r0, u0) → G E WT x RX1 cX1_play 9 (0, 0) st 97 [(0, .ref (eB E + 25)), (1, .int l1), (2, .ref (eB E + l2)), (3, .ref (eB E + l3)), (4, .int l4), (5, .int l5), (6, .int l6)] []) (l1 : Int32) (l2 : Nat) (l3 : Nat) (l5 : Int32) (l6 : Int32) (st : St) (h_l2 : lay[l2]? = some (10, 384)) (h_l3 : lay[l3]? = some (10, 384)) (hf : fX1_play_b192 k79 k97 l1 l2 l3 l5 l6 st = some (r0, u0)) : G E WT x RX1 cX1_play 9 (0, 0) st 192 [(0, .ref (eB E + 25)), (1, .int l1), (2, .ref (eB E + l2)), (3, .ref (eB E + l3)), (5, .int l5), (6, .int l6)] [] := by
  unfold fX1_play_b192 at hf
  refine g_iconst (1 : Int32) (by decide) dX1_play_192 ?_
  refine g_goto 197 (by decide) dX1_play_193 ?_
  refine g_lvs [0, 1, 2, 3, 4, 5] rfl ?_
  exact wX1_play_b197 B hk79 hk97 l1 l2 l3 l5 l6 (1 : Int32) st h_l2 h_l3 hf
def fX1_play_b173 (k79 : Int32 → Nat → Nat → Int32 → Int32 → St → Option (Int32 × St)) (k97 : Int32 → Nat → Nat → Int32 → Int32 → Int32 → St → Option (Int32 × St))(l1 : Int32) (l2 : Nat) (l3 : Nat) (l4 : Int32) (l5 : Int32) (l6 : Int32) (l7 : Int32) (s1 : Int32) (st : St) : Option (Int32 × St) :=
  if l4 = 0 then (chk (ixb l7 384) (chk (ixb l7 384) (if (sI (pI st 25 11 s1) l3 l7.toNatClampNeg) = (sI (pI st 25 11 s1) l2 l7.toNatClampNeg) then (fX1_play_b197 k79 k97 l1 l2 l3 l5 l6 (0 : Int32) (pI st 25 11 s1)) else (fX1_play_b192 k79 k97 l1 l2 l3 l5 l6 (pI st 25 11 s1))))) else (fX1_play_b192 k79 k97 l1 l2 l3 l5 l6 (pI st 25 11 s1))
set_option maxHeartbeats 1000000 in
set_option maxRecDepth 20000 in
theorem wX1_play_b173 {E : Ev} {x : Cx} {r0 : Int32} {u0 : St} (B : Bd E x (some FieldType.int) (8) 0 0 (some (.int r0)) u0) {k79 : Int32 → Nat → Nat → Int32 → Int32 → St → Option (Int32 × St)} (hk79 : ∀ (l1 : Int32) (l2 : Nat) (l3 : Nat) (l4 : Int32) (l5 : Int32) (st : St), (lay[l2]? = some (10, 384)) → (lay[l3]? = some (10, 384)) → k79 l1 l2 l3 l4 l5 st = some (r0, u0) → G E WT x RX1 cX1_play 9 (0, 0) st 79 [(0, .ref (eB E + 25)), (1, .int l1), (2, .ref (eB E + l2)), (3, .ref (eB E + l3)), (4, .int l4), (5, .int l5)] []) {k97 : Int32 → Nat → Nat → Int32 → Int32 → Int32 → St → Option (Int32 × St)} (hk97 : ∀ (l1 : Int32) (l2 : Nat) (l3 : Nat) (l4 : Int32) (l5 : Int32) (l6 : Int32) (st : St), (lay[l2]? = some (10, 384)) → (lay[l3]? = some (10, 384)) → k97 l1 l2 l3 l4 l5 l6 st = some (r0, u0) → G E WT x RX1 cX1_play 9 (0, 0) st 97 [(0, .ref (eB E + 25)), (1, .int l1), (2, .ref (eB E + l2)), (3, .ref (eB E + l3)), (4, .int l4), (5, .int l5), (6, .int l6)] []) (l1 : Int32) (l2 : Nat) (l3 : Nat) (l4 : Int32) (l5 : Int32) (l6 : Int32) (l7 : Int32) (s1 : Int32) (st : St) (h_l2 : lay[l2]? = some (10, 384)) (h_l3 : lay[l3]? = some (10, 384)) (hf : fX1_play_b173 k79 k97 l1 l2 l3 l4 l5 l6 l7 s1 st = some (r0, u0)) : G E WT x RX1 cX1_play 9 (0, 0) st 173 [(0, .ref (eB E + 25)), (1, .int l1), (2, .ref (eB E + l2)), (3, .ref (eB E + l3)), (4, .int l4), (5, .int l5), (6, .int l6), (7, .int l7)] [.int s1, .ref (eB E + 25)] := by
  unfold fX1_play_b173 at hf
  refine g_putI (j := 11) cok1 (by decide) rfl rfl rfl rfl (Or.inl tw2_8) oS25 B.2.1 wpI dX1_play_173 ?_
  refine g_iload 4 rfl dX1_play_176 ?_
  refine g_if_ne 192 (by decide) dX1_play_178 (fun h1 => ?_) (fun h1 => ?_)
  · rw [if_neg h1] at hf
    refine g_lvs [0, 1, 2, 3, 5, 6] rfl ?_
    exact wX1_play_b192 B hk79 hk97 l1 l2 l3 l5 l6 (pI st 25 11 s1) h_l2 h_l3 hf
  · rw [if_pos h1] at hf
    refine g_aload_n rfl 3 rfl dX1_play_181 ?_
    refine g_iload 7 rfl dX1_play_182 ?_
    obtain ⟨h2, hf⟩ := chk_some hf
    refine g_ialdj l7.toNatClampNeg rfl (WT.ar h_l3) (ixb_in h2) dX1_play_184 ?_
    refine g_aload_n rfl 2 rfl dX1_play_185 ?_
    refine g_iload 7 rfl dX1_play_186 ?_
    obtain ⟨h3, hf⟩ := chk_some hf
    refine g_ialdj l7.toNatClampNeg rfl (WT.ar h_l2) (ixb_in h3) dX1_play_188 ?_
    refine g_icmp_eq 196 (by decide) dX1_play_189 (fun h4 => ?_) (fun h4 => ?_)
    · rw [if_pos h4] at hf
      refine g_iconst (0 : Int32) (by decide) dX1_play_196 ?_
      refine g_lvs [0, 1, 2, 3, 5, 6] rfl ?_
      exact wX1_play_b197 B hk79 hk97 l1 l2 l3 l5 l6 (0 : Int32) (pI st 25 11 s1) h_l2 h_l3 hf
    · rw [if_neg h4] at hf
      refine g_lvs [0, 1, 2, 3, 5, 6] rfl ?_
      exact wX1_play_b192 B hk79 hk97 l1 l2 l3 l5 l6 (pI st 25 11 s1) h_l2 h_l3 hf
def fX1_play_b97 (k79 : Int32 → Nat → Nat → Int32 → Int32 → St → Option (Int32 × St)) : Nat → Int32 → Nat → Nat → Int32 → Int32 → Int32 → St → Option (Int32 × St)
  | 0, _, _, _, _, _, _, _ => none
  | n + 1, l1, l2, l3, l4, l5, l6, st => if (sI st 25 10) ≤ l6 then (k79 l1 l3 l2 l4 (l5 + (1 : Int32)) st) else (chk (ixb l6 384) (chk (ixb (sI st 27 l6.toNatClampNeg) 384) (chk (ixb (sI st 27 l6.toNatClampNeg) 384) (if (fX1_goesOn (sI st 27 l6.toNatClampNeg)) = 0 then (fX1_play_b199 k79 (fun zl1 zl2 zl3 zl4 zl5 zl6 zst => fX1_play_b97 k79 n zl1 zl2 zl3 zl4 zl5 zl6 zst) l1 l2 l3 l4 l5 l6 (pI st l3 ((sI st 27 l6.toNatClampNeg).toNatClampNeg) (sI st l2 ((sI st 27 l6.toNatClampNeg).toNatClampNeg)))) else ((fX1_choose (sI st 27 l6.toNatClampNeg) l2 (pI st l3 ((sI st 27 l6.toNatClampNeg).toNatClampNeg) (sI st l2 ((sI st 27 l6.toNatClampNeg).toNatClampNeg)))).bind (fun q6 => (fX6_after (sI st 27 l6.toNatClampNeg) q6.1 q6.2).bind (fun q8 => chk (ixb q8.1 384) (chk (ixb (sI st 27 l6.toNatClampNeg) 384) (if (sI st 27 l6.toNatClampNeg) = l1 then (fX1_play_b173 k79 (fun zl1 zl2 zl3 zl4 zl5 zl6 zst => fX1_play_b97 k79 n zl1 zl2 zl3 zl4 zl5 zl6 zst) l1 l2 l3 l4 l5 l6 (sI st 27 l6.toNatClampNeg) q6.1 (pI q8.2 l3 ((sI st 27 l6.toNatClampNeg).toNatClampNeg) (sI q8.2 l2 q8.1.toNatClampNeg))) else (fX1_play_b173 k79 (fun zl1 zl2 zl3 zl4 zl5 zl6 zst => fX1_play_b97 k79 n zl1 zl2 zl3 zl4 zl5 zl6 zst) l1 l2 l3 l4 l5 l6 (sI st 27 l6.toNatClampNeg) (sI (pI q8.2 l3 ((sI st 27 l6.toNatClampNeg).toNatClampNeg) (sI q8.2 l2 q8.1.toNatClampNeg)) 25 11) (pI q8.2 l3 ((sI st 27 l6.toNatClampNeg).toNatClampNeg) (sI q8.2 l2 q8.1.toNatClampNeg))))))))))))
set_option maxHeartbeats 1000000 in
set_option maxRecDepth 20000 in
theorem wX1_play_b97 {E : Ev} {x : Cx} {r0 : Int32} {u0 : St} (B : Bd E x (some FieldType.int) (8) 0 0 (some (.int r0)) u0) {k79 : Int32 → Nat → Nat → Int32 → Int32 → St → Option (Int32 × St)} (hk79 : ∀ (l1 : Int32) (l2 : Nat) (l3 : Nat) (l4 : Int32) (l5 : Int32) (st : St), (lay[l2]? = some (10, 384)) → (lay[l3]? = some (10, 384)) → k79 l1 l2 l3 l4 l5 st = some (r0, u0) → G E WT x RX1 cX1_play 9 (0, 0) st 79 [(0, .ref (eB E + 25)), (1, .int l1), (2, .ref (eB E + l2)), (3, .ref (eB E + l3)), (4, .int l4), (5, .int l5)] []) : ∀ (n : Nat) (l1 : Int32) (l2 : Nat) (l3 : Nat) (l4 : Int32) (l5 : Int32) (l6 : Int32) (st : St) (h_l2 : lay[l2]? = some (10, 384)) (h_l3 : lay[l3]? = some (10, 384)), fX1_play_b97 k79 n l1 l2 l3 l4 l5 l6 st = some (r0, u0) → G E WT x RX1 cX1_play 9 (0, 0) st 97 [(0, .ref (eB E + 25)), (1, .int l1), (2, .ref (eB E + l2)), (3, .ref (eB E + l3)), (4, .int l4), (5, .int l5), (6, .int l6)] [] := by
  intro n
  induction n with
  | zero =>
    intros
    rename_i hf
    rw [fX1_play_b97] at hf
    cases hf
  | succ n ih =>
    intro l1 l2 l3 l4 l5 l6 st h_l2 h_l3 hf
    rw [fX1_play_b97] at hf
    refine g_iload 6 rfl dX1_play_97 ?_
    refine g_aload_n rfl 0 rfl dX1_play_99 ?_
    refine g_get (j := 10) cok1 (by decide) (.int (sI st 25 10)) (Or.inl tw2_7) oS25 (fun _ => rfl) dX1_play_100 ?_
    refine g_icmp_ge 205 (by decide) dX1_play_103 (fun h1 => ?_) (fun h1 => ?_)
    · rw [if_pos h1] at hf
      refine g_aload_n rfl 2 rfl dX1_play_205 ?_
      refine g_astore [(6, .ref (eB E + l2)), (0, .ref (eB E + 25)), (1, .int l1), (2, .ref (eB E + l2)), (3, .ref (eB E + l3)), (4, .int l4), (5, .int l5)] (by decide) rfl dX1_play_206 ?_
      refine g_aload_n rfl 4 rfl dX1_play_208 ?_
      refine g_astore_n rfl [(2, .ref (eB E + l3)), (6, .ref (eB E + l2)), (0, .ref (eB E + 25)), (1, .int l1), (3, .ref (eB E + l3)), (4, .int l4), (5, .int l5)] (by decide) rfl dX1_play_209 ?_
      refine g_aload 1 rfl dX1_play_210 ?_
      refine g_astore_n rfl [(3, .ref (eB E + l2)), (2, .ref (eB E + l3)), (6, .ref (eB E + l2)), (0, .ref (eB E + 25)), (1, .int l1), (4, .int l4), (5, .int l5)] (by decide) rfl dX1_play_212 ?_
      refine g_iinc (l5 + (1 : Int32)) [(5, .int (l5 + (1 : Int32))), (3, .ref (eB E + l2)), (2, .ref (eB E + l3)), (6, .ref (eB E + l2)), (0, .ref (eB E + 25)), (1, .int l1), (4, .int l4)] 6 rfl (congrArg (fun z => l5 + z) (show Int32.ofInt (1) = (1 : Int32) by decide)) (by decide) rfl dX1_play_213 ?_
      refine g_goto 79 (by decide) dX1_play_216 ?_
      refine g_lvs [4, 5, 2, 1, 6, 0] rfl ?_
      exact hk79 l1 l3 l2 l4 (l5 + (1 : Int32)) st h_l3 h_l2 hf
    · rw [if_neg h1] at hf
      refine g_aload_n rfl 0 rfl dX1_play_106 ?_
      refine g_get (j := 3) cok1 (by decide) (.ref (eB E + 27)) (Or.inl tw1_239) oS25 vS25_3 dX1_play_107 ?_
      refine g_iload 6 rfl dX1_play_110 ?_
      obtain ⟨h2, hf⟩ := chk_some hf
      refine g_ialdj l6.toNatClampNeg rfl aS27 (ixb_in h2) dX1_play_112 ?_
      refine g_istore [(7, .int (sI st 27 l6.toNatClampNeg)), (0, .ref (eB E + 25)), (1, .int l1), (2, .ref (eB E + l2)), (3, .ref (eB E + l3)), (4, .int l4), (5, .int l5), (6, .int l6)] (by decide) rfl dX1_play_113 ?_
      refine g_aload_n rfl 4 rfl dX1_play_115 ?_
      refine g_iload 0 rfl dX1_play_116 ?_
      refine g_aload_n rfl 3 rfl dX1_play_118 ?_
      refine g_iload 0 rfl dX1_play_119 ?_
      obtain ⟨h3, hf⟩ := chk_some hf
      refine g_ialdj ((sI st 27 l6.toNatClampNeg).toNatClampNeg) rfl (WT.ar h_l2) (ixb_in h3) dX1_play_121 ?_
      obtain ⟨h4, hf⟩ := chk_some hf
      refine g_iastj ((sI st 27 l6.toNatClampNeg).toNatClampNeg) rfl (WT.ar h_l3) (ixb_in h4) B.2.1 wpI dX1_play_122 ?_
      refine g_iload 0 rfl dX1_play_123 ?_
      refine g_callS0i (As := [.int (sI st 27 l6.toNatClampNeg)]) (rest := []) mok_X1_goesOn tw4_23 tw4_24 B.1 (by decide) (kX1_goesOn  rfl) rfl rfl (Nat.le_of_ble_eq_true rfl) ⟨Nat.le_refl _, Nat.le_refl _⟩ dX1_play_125 ?_
      refine g_if_eq 199 (by decide) dX1_play_128 (fun h5 => ?_) (fun h5 => ?_)
      · rw [if_pos h5] at hf
        refine g_lvs [1, 2, 3, 4, 5, 6, 7] rfl ?_
        exact wX1_play_b199 B hk79 ih l1 l2 l3 l4 l5 l6 (pI st l3 ((sI st 27 l6.toNatClampNeg).toNatClampNeg) (sI st l2 ((sI st 27 l6.toNatClampNeg).toNatClampNeg))) h_l2 h_l3 hf
      · rw [if_neg h5] at hf
        refine g_aload_n rfl 1 rfl dX1_play_131 ?_
        refine g_iload 0 rfl dX1_play_132 ?_
        refine g_aload_n rfl 3 rfl dX1_play_134 ?_
        obtain ⟨q6, h7, hf⟩ := bnd_some hf
        refine g_callV0i (As := [.int (sI st 27 l6.toNatClampNeg), .ref (eB E + l2)]) (rest := []) cok1 mok_X1_choose tw4_70 tw4_72 ts4_9 oS25 B.1 (by decide) (kX1_choose h_l2 h7) rfl rfl (Nat.le_of_ble_eq_true rfl) ⟨Nat.le_refl _, Nat.le_refl _⟩ dX1_play_135 ?_
        refine g_istore [(8, .int q6.1), (7, .int (sI st 27 l6.toNatClampNeg)), (0, .ref (eB E + 25)), (1, .int l1), (2, .ref (eB E + l2)), (3, .ref (eB E + l3)), (4, .int l4), (5, .int l5), (6, .int l6)] (by decide) rfl dX1_play_138 ?_
        refine g_aload_n rfl 5 rfl dX1_play_140 ?_
        refine g_iload 1 rfl dX1_play_141 ?_
        refine g_aload_n rfl 4 rfl dX1_play_143 ?_
        refine g_aload_n rfl 2 rfl dX1_play_144 ?_
        refine g_get (j := 1) cok1 (by decide) (.ref (eB E + 19)) (Or.inl tw1_236) oS25 vS25_1 dX1_play_145 ?_
        refine g_iload 1 rfl dX1_play_148 ?_
        refine g_iload 0 rfl dX1_play_150 ?_
        obtain ⟨q8, h9, hf⟩ := bnd_some hf
        refine g_callVN0i (As := [.int (sI st 27 l6.toNatClampNeg), .int q6.1]) (rest := [.ref (eB E + l2), .int (sI st 27 l6.toNatClampNeg), .ref (eB E + l3)]) cok6 mok_X6_after nmm_40 tw4_29 ts4_4 oS19 B.1 (by decide) (kX6_after  h9) rfl rfl (Nat.le_of_ble_eq_true rfl) ⟨Nat.le_refl _, Nat.le_refl _⟩ dX1_play_152 ?_
        obtain ⟨h10, hf⟩ := chk_some hf
        refine g_ialdj q8.1.toNatClampNeg rfl (WT.ar h_l2) (ixb_in h10) dX1_play_155 ?_
        obtain ⟨h11, hf⟩ := chk_some hf
        refine g_iastj ((sI st 27 l6.toNatClampNeg).toNatClampNeg) rfl (WT.ar h_l3) (ixb_in h11) B.2.1 wpI dX1_play_156 ?_
        refine g_aload_n rfl 2 rfl dX1_play_157 ?_
        refine g_iload 1 rfl dX1_play_158 ?_
        refine g_iload_n rfl 3 rfl dX1_play_160 ?_
        refine g_icmp_ne 169 (by decide) dX1_play_161 (fun h12 => ?_) (fun h12 => ?_)
        · rw [if_neg h12] at hf
          refine g_aload_n rfl 2 rfl dX1_play_169 ?_
          refine g_get (j := 11) cok1 (by decide) (.int (sI (pI q8.2 l3 ((sI st 27 l6.toNatClampNeg).toNatClampNeg) (sI q8.2 l2 q8.1.toNatClampNeg)) 25 11)) (Or.inl tw2_8) oS25 (fun _ => rfl) dX1_play_170 ?_
          refine g_lvs [2, 3, 4, 5, 6, 7, 8, 1] rfl ?_
          exact wX1_play_b173 B hk79 ih l1 l2 l3 l4 l5 l6 (sI st 27 l6.toNatClampNeg) (sI (pI q8.2 l3 ((sI st 27 l6.toNatClampNeg).toNatClampNeg) (sI q8.2 l2 q8.1.toNatClampNeg)) 25 11) (pI q8.2 l3 ((sI st 27 l6.toNatClampNeg).toNatClampNeg) (sI q8.2 l2 q8.1.toNatClampNeg)) h_l2 h_l3 hf
        · rw [if_pos h12] at hf
          refine g_iload 0 rfl dX1_play_164 ?_
          refine g_goto 173 (by decide) dX1_play_166 ?_
          refine g_lvs [2, 3, 4, 5, 6, 7, 8, 1] rfl ?_
          exact wX1_play_b173 B hk79 ih l1 l2 l3 l4 l5 l6 (sI st 27 l6.toNatClampNeg) q6.1 (pI q8.2 l3 ((sI st 27 l6.toNatClampNeg).toNatClampNeg) (sI q8.2 l2 q8.1.toNatClampNeg)) h_l2 h_l3 hf
def fX1_play_b79 : Nat → Int32 → Nat → Nat → Int32 → Int32 → St → Option (Int32 × St)
  | 0, _, _, _, _, _, _ => none
  | n + 1, l1, l2, l3, l4, l5, st => if (12 : Int32) ≤ l5 then (chk (ixb l1 384) (some (sI st l2 l1.toNatClampNeg, st))) else (if l4 = 0 then (chk (ixb l1 384) (some (sI st l2 l1.toNatClampNeg, st))) else (fX1_play_b97 (fun zl1 zl2 zl3 zl4 zl5 zst => fX1_play_b79 n zl1 zl2 zl3 zl4 zl5 zst) FU l1 l2 l3 (0 : Int32) l5 (0 : Int32) st))
set_option maxHeartbeats 1000000 in
set_option maxRecDepth 20000 in
theorem wX1_play_b79 {E : Ev} {x : Cx} {r0 : Int32} {u0 : St} (B : Bd E x (some FieldType.int) (8) 0 0 (some (.int r0)) u0) : ∀ (n : Nat) (l1 : Int32) (l2 : Nat) (l3 : Nat) (l4 : Int32) (l5 : Int32) (st : St) (h_l2 : lay[l2]? = some (10, 384)) (h_l3 : lay[l3]? = some (10, 384)), fX1_play_b79 n l1 l2 l3 l4 l5 st = some (r0, u0) → G E WT x RX1 cX1_play 9 (0, 0) st 79 [(0, .ref (eB E + 25)), (1, .int l1), (2, .ref (eB E + l2)), (3, .ref (eB E + l3)), (4, .int l4), (5, .int l5)] [] := by
  intro n
  induction n with
  | zero =>
    intros
    rename_i hf
    rw [fX1_play_b79] at hf
    cases hf
  | succ n ih =>
    intro l1 l2 l3 l4 l5 st h_l2 h_l3 hf
    rw [fX1_play_b79] at hf
    refine g_iload 5 rfl dX1_play_79 ?_
    refine g_bipush (12 : Int32) (by decide) dX1_play_81 ?_
    refine g_icmp_ge 219 (by decide) dX1_play_83 (fun h1 => ?_) (fun h1 => ?_)
    · rw [if_pos h1] at hf
      refine g_aload_n rfl 2 rfl dX1_play_219 ?_
      refine g_iload_n rfl 1 rfl dX1_play_220 ?_
      obtain ⟨h2, hf⟩ := chk_some hf
      refine g_ialdj l1.toNatClampNeg rfl (WT.ar h_l2) (ixb_in h2) dX1_play_221 ?_
      exact g_iret B.2.2.2 B.2.2.1 (congrArg (fun z => some (Value.int z)) (Prod.mk.inj (Option.some.inj hf)).1.symm) (Prod.mk.inj (Option.some.inj hf)).2.symm dX1_play_222
    · rw [if_neg h1] at hf
      refine g_iload 4 rfl dX1_play_86 ?_
      refine g_if_eq 219 (by decide) dX1_play_88 (fun h3 => ?_) (fun h3 => ?_)
      · rw [if_pos h3] at hf
        refine g_aload_n rfl 2 rfl dX1_play_219 ?_
        refine g_iload_n rfl 1 rfl dX1_play_220 ?_
        obtain ⟨h4, hf⟩ := chk_some hf
        refine g_ialdj l1.toNatClampNeg rfl (WT.ar h_l2) (ixb_in h4) dX1_play_221 ?_
        exact g_iret B.2.2.2 B.2.2.1 (congrArg (fun z => some (Value.int z)) (Prod.mk.inj (Option.some.inj hf)).1.symm) (Prod.mk.inj (Option.some.inj hf)).2.symm dX1_play_222
      · rw [if_neg h3] at hf
        refine g_iconst (0 : Int32) (by decide) dX1_play_91 ?_
        refine g_istore [(4, .int (0 : Int32)), (0, .ref (eB E + 25)), (1, .int l1), (2, .ref (eB E + l2)), (3, .ref (eB E + l3)), (5, .int l5)] (by decide) rfl dX1_play_92 ?_
        refine g_iconst (0 : Int32) (by decide) dX1_play_94 ?_
        refine g_istore [(6, .int (0 : Int32)), (4, .int (0 : Int32)), (0, .ref (eB E + 25)), (1, .int l1), (2, .ref (eB E + l2)), (3, .ref (eB E + l3)), (5, .int l5)] (by decide) rfl dX1_play_95 ?_
        refine g_lvs [2, 3, 4, 5, 1, 6, 0] rfl ?_
        exact wX1_play_b97 B ih FU l1 l2 l3 (0 : Int32) l5 (0 : Int32) st h_l2 h_l3 hf
def fX1_play_b74 (l1 : Int32) (s0 : Int32) (st : St) : Option (Int32 × St) :=
  fX1_play_b79 FU l1 29 30 s0 (0 : Int32) st
set_option maxHeartbeats 1000000 in
set_option maxRecDepth 20000 in
theorem wX1_play_b74 {E : Ev} {x : Cx} {r0 : Int32} {u0 : St} (B : Bd E x (some FieldType.int) (8) 0 0 (some (.int r0)) u0) (l1 : Int32) (s0 : Int32) (st : St)  (hf : fX1_play_b74 l1 s0 st = some (r0, u0)) : G E WT x RX1 cX1_play 9 (0, 0) st 74 [(0, .ref (eB E + 25)), (1, .int l1), (2, .ref (eB E + 29)), (3, .ref (eB E + 30))] [.int s0] := by
  unfold fX1_play_b74 at hf
  refine g_istore [(4, .int s0), (0, .ref (eB E + 25)), (1, .int l1), (2, .ref (eB E + 29)), (3, .ref (eB E + 30))] (by decide) rfl dX1_play_74 ?_
  refine g_iconst (0 : Int32) (by decide) dX1_play_76 ?_
  refine g_istore [(5, .int (0 : Int32)), (4, .int s0), (0, .ref (eB E + 25)), (1, .int l1), (2, .ref (eB E + 29)), (3, .ref (eB E + 30))] (by decide) rfl dX1_play_77 ?_
  refine g_lvs [2, 3, 4, 5, 1, 0] rfl ?_
  exact wX1_play_b79 B  FU l1 29 30 s0 (0 : Int32) st lo_29 lo_30 hf
def fX1_play_b25 : Nat → Int32 → Int32 → St → Option (Int32 × St)
  | 0, _, _, _ => none
  | n + 1, l1, l4, st => if (sI st 25 10) ≤ l4 then (if (sI st 1 6) ≤ 0 then (fX1_play_b74 l1 (0 : Int32) st) else (fX1_play_b74 l1 (1 : Int32) st)) else (chk (ixb l4 384) (chk (ixb l4 384) (chk (ixb (sI st 27 l4.toNatClampNeg) 384) (fX1_play_b25 n l1 (l4 + (1 : Int32)) (pI st 29 ((sI st 27 l4.toNatClampNeg).toNatClampNeg) (fX1_onlyOneIn (sI st 27 l4.toNatClampNeg)))))))
set_option maxHeartbeats 1000000 in
set_option maxRecDepth 20000 in
theorem wX1_play_b25 {E : Ev} {x : Cx} {r0 : Int32} {u0 : St} (B : Bd E x (some FieldType.int) (8) 0 0 (some (.int r0)) u0) : ∀ (n : Nat) (l1 : Int32) (l4 : Int32) (st : St) , fX1_play_b25 n l1 l4 st = some (r0, u0) → G E WT x RX1 cX1_play 9 (0, 0) st 25 [(0, .ref (eB E + 25)), (1, .int l1), (2, .ref (eB E + 29)), (3, .ref (eB E + 30)), (4, .int l4)] [] := by
  intro n
  induction n with
  | zero =>
    intros
    rename_i hf
    rw [fX1_play_b25] at hf
    cases hf
  | succ n ih =>
    intro l1 l4 st hf
    rw [fX1_play_b25] at hf
    refine g_iload 4 rfl dX1_play_25 ?_
    refine g_aload_n rfl 0 rfl dX1_play_27 ?_
    refine g_get (j := 10) cok1 (by decide) (.int (sI st 25 10)) (Or.inl tw2_7) oS25 (fun _ => rfl) dX1_play_28 ?_
    refine g_icmp_ge 59 (by decide) dX1_play_31 (fun h1 => ?_) (fun h1 => ?_)
    · rw [if_pos h1] at hf
      refine g_aload_n rfl 0 rfl dX1_play_59 ?_
      refine g_get (j := 0) cok1 (by decide) (.ref (eB E + 1)) (Or.inl tw1_235) oS25 vS25_0 dX1_play_60 ?_
      refine g_get (j := 6) cok4 (by decide) (.int (sI st 1 6)) (Or.inr nf_18) oS1 (fun _ => rfl) dX1_play_63 ?_
      refine g_if_le 73 (by decide) dX1_play_66 (fun h2 => ?_) (fun h2 => ?_)
      · rw [if_pos h2] at hf
        refine g_iconst (0 : Int32) (by decide) dX1_play_73 ?_
        refine g_lvs [0, 1, 2, 3] rfl ?_
        exact wX1_play_b74 B  l1 (0 : Int32) st hf
      · rw [if_neg h2] at hf
        refine g_iconst (1 : Int32) (by decide) dX1_play_69 ?_
        refine g_goto 74 (by decide) dX1_play_70 ?_
        refine g_lvs [0, 1, 2, 3] rfl ?_
        exact wX1_play_b74 B  l1 (1 : Int32) st hf
    · rw [if_neg h1] at hf
      refine g_aload_n rfl 2 rfl dX1_play_34 ?_
      refine g_aload_n rfl 0 rfl dX1_play_35 ?_
      refine g_get (j := 3) cok1 (by decide) (.ref (eB E + 27)) (Or.inl tw1_239) oS25 vS25_3 dX1_play_36 ?_
      refine g_iload 4 rfl dX1_play_39 ?_
      obtain ⟨h3, hf⟩ := chk_some hf
      refine g_ialdj l4.toNatClampNeg rfl aS27 (ixb_in h3) dX1_play_41 ?_
      refine g_aload_n rfl 0 rfl dX1_play_42 ?_
      refine g_get (j := 3) cok1 (by decide) (.ref (eB E + 27)) (Or.inl tw1_239) oS25 vS25_3 dX1_play_43 ?_
      refine g_iload 4 rfl dX1_play_46 ?_
      obtain ⟨h4, hf⟩ := chk_some hf
      refine g_ialdj l4.toNatClampNeg rfl aS27 (ixb_in h4) dX1_play_48 ?_
      refine g_callS0i (As := [.int (sI st 27 l4.toNatClampNeg)]) (rest := [.int (sI st 27 l4.toNatClampNeg), .ref (eB E + 29)]) mok_X1_onlyOneIn tw4_37 tw4_38 B.1 (by decide) (kX1_onlyOneIn  rfl) rfl rfl (Nat.le_of_ble_eq_true rfl) ⟨Nat.le_refl _, Nat.le_refl _⟩ dX1_play_49 ?_
      obtain ⟨h5, hf⟩ := chk_some hf
      refine g_iastj ((sI st 27 l4.toNatClampNeg).toNatClampNeg) rfl aS29 (ixb_in h5) B.2.1 wpI dX1_play_52 ?_
      refine g_iinc (l4 + (1 : Int32)) [(4, .int (l4 + (1 : Int32))), (0, .ref (eB E + 25)), (1, .int l1), (2, .ref (eB E + 29)), (3, .ref (eB E + 30))] 4 rfl (congrArg (fun z => l4 + z) (show Int32.ofInt (1) = (1 : Int32) by decide)) (by decide) rfl dX1_play_53 ?_
      refine g_goto 25 (by decide) dX1_play_56 ?_
      refine g_lvs [1, 2, 3, 4, 0] rfl ?_
      exact ih l1 (l4 + (1 : Int32)) (pI st 29 ((sI st 27 l4.toNatClampNeg).toNatClampNeg) (fX1_onlyOneIn (sI st 27 l4.toNatClampNeg))) hf
def fX1_play (p1 : Int32) (st : St) : Option (Int32 × St) :=
  (fX1_reach p1 (-1 : Int32) (pI st 25 11 (-1 : Int32))).bind (fun q1 => fX1_play_b25 FU p1 (0 : Int32) q1.2)
set_option maxHeartbeats 1000000 in
set_option maxRecDepth 20000 in
theorem wX1_play {E : Ev} {x : Cx} {r0 : Int32} {u0 : St} (B : Bd E x (some FieldType.int) (8) 0 0 (some (.int r0)) u0) (p1 : Int32) (st : St)  (hf : fX1_play p1 st = some (r0, u0)) : G E WT x RX1 cX1_play 9 (0, 0) st 0 [(0, .ref (eB E + 25)), (1, .int p1)] [] := by
  unfold fX1_play at hf
  refine g_aload_n rfl 0 rfl dX1_play_0 ?_
  refine g_get (j := 5) cok1 (by decide) (.ref (eB E + 29)) (Or.inl tw2_1) oS25 vS25_5 dX1_play_1 ?_
  refine g_astore_n rfl [(2, .ref (eB E + 29)), (0, .ref (eB E + 25)), (1, .int p1)] (by decide) rfl dX1_play_4 ?_
  refine g_aload_n rfl 1 rfl dX1_play_5 ?_
  refine g_get (j := 6) cok1 (by decide) (.ref (eB E + 30)) (Or.inl tw2_2) oS25 vS25_6 dX1_play_6 ?_
  refine g_astore_n rfl [(3, .ref (eB E + 30)), (2, .ref (eB E + 29)), (0, .ref (eB E + 25)), (1, .int p1)] (by decide) rfl dX1_play_9 ?_
  refine g_aload_n rfl 2 rfl dX1_play_10 ?_
  refine g_iconst (-1 : Int32) (by decide) dX1_play_11 ?_
  refine g_putI (j := 11) cok1 (by decide) rfl rfl rfl rfl (Or.inl tw2_8) oS25 B.2.1 wpI dX1_play_12 ?_
  refine g_aload_n rfl 2 rfl dX1_play_15 ?_
  refine g_iload_n rfl 3 rfl dX1_play_16 ?_
  refine g_iconst (-1 : Int32) (by decide) dX1_play_17 ?_
  obtain ⟨q1, h2, hf⟩ := bnd_some hf
  refine g_callV0i (As := [.int p1, .int (-1 : Int32)]) (rest := []) cok1 mok_X1_reach tw4_69 tw4_50 ts4_5 oS25 B.1 (by decide) (kX1_reach  h2) rfl rfl (Nat.le_of_ble_eq_true rfl) ⟨Nat.le_refl _, Nat.le_refl _⟩ dX1_play_18 ?_
  refine g_pop rfl dX1_play_21 ?_
  refine g_iconst (0 : Int32) (by decide) dX1_play_22 ?_
  refine g_istore [(4, .int (0 : Int32)), (3, .ref (eB E + 30)), (2, .ref (eB E + 29)), (0, .ref (eB E + 25)), (1, .int p1)] (by decide) rfl dX1_play_23 ?_
  refine g_lvs [3, 4, 2, 1, 0] rfl ?_
  exact wX1_play_b25 B  FU p1 (0 : Int32) q1.2 hf
theorem kX1_play {l : Launch} {E : Ev} {st : St} {p1 : Int32} {r0 : Int32} {u0 : St}  (hf : fX1_play p1 st = some (r0, u0)) : CM l E WT yX1_play cX1_play 9 (some FieldType.int) 8 0 0 [.ref (eB E + 25), .int p1] st (some (.int r0)) u0 :=
  CM.intro mok_X1_play (Nat.le_of_ble_eq_true rfl) (fun x hl hR ht hr hQ _ => wX1_play ⟨hR, ht, hr, hQ⟩ p1 st hf)
def fJ7_fill_d0a16_b6 : Nat → Nat → Int64 → Int32 → Int32 → St → Option St
  | 0, _, _, _, _, _ => none
  | n + 1, ar, l1, l3, l4, st => if l4 ≤ l3 then (some st) else (chk (ixb l3 (sN st ar)) (fJ7_fill_d0a16_b6 n ar l1 (l3 + (1 : Int32)) l4 (pL st ar l3.toNatClampNeg l1)))
set_option maxHeartbeats 1000000 in
set_option maxRecDepth 20000 in
theorem wJ7_fill_d0a16_b6 {E : Ev} {x : Cx} {u0 : St} (B : Bd E x none (0) 0 0 none u0) : ∀ (n : Nat) (ar : Nat) (l1 : Int64) (l3 : Int32) (l4 : Int32) (st : St) (h_ar : Obj st 11 ar), fJ7_fill_d0a16_b6 n ar l1 l3 l4 st = some u0 → G E WT x RJ7 cJ7_fill_d0a16 5 (0, 0) st 6 [(0, .ref (eB E + ar)), (1, .long l1), (3, .int l3), (4, .int l4)] [] := by
  intro n
  induction n with
  | zero =>
    intros
    rename_i hf
    rw [fJ7_fill_d0a16_b6] at hf
    cases hf
  | succ n ih =>
    intro ar l1 l3 l4 st h_ar hf
    rw [fJ7_fill_d0a16_b6] at hf
    refine g_iload_n rfl 2 rfl dJ7_fill_d0a16_6 ?_
    refine g_iload 3 rfl dJ7_fill_d0a16_7 ?_
    refine g_icmp_ge 22 (by decide) dJ7_fill_d0a16_9 (fun h1 => ?_) (fun h1 => ?_)
    · rw [if_pos h1] at hf
      exact g_ret B.2.2.2 B.2.2.1 rfl (Option.some.inj hf).symm dJ7_fill_d0a16_22
    · rw [if_neg h1] at hf
      refine g_aload_n rfl 0 rfl dJ7_fill_d0a16_12 ?_
      refine g_iload_n rfl 2 rfl dJ7_fill_d0a16_13 ?_
      refine g_lload_n rfl 1 rfl dJ7_fill_d0a16_14 ?_
      obtain ⟨h2, hf⟩ := chk_some hf
      refine g_lastj l3.toNatClampNeg rfl (fun _ => ⟨h_ar.1, h_ar.2, rfl⟩) (ixb_in h2) B.2.1 wpL dJ7_fill_d0a16_15 ?_
      refine g_iinc (l3 + (1 : Int32)) [(3, .int (l3 + (1 : Int32))), (0, .ref (eB E + ar)), (1, .long l1), (4, .int l4)] 2 rfl (congrArg (fun z => l3 + z) (show Int32.ofInt (1) = (1 : Int32) by decide)) (by decide) rfl dJ7_fill_d0a16_16 ?_
      refine g_goto 6 (by decide) dJ7_fill_d0a16_19 ?_
      refine g_lvs [1, 2, 0, 3] rfl ?_
      exact ih ar l1 (l3 + (1 : Int32)) l4 (pL st ar l3.toNatClampNeg l1) h_ar hf
def fJ7_fill_d0a16 (ar : Nat) (p1 : Int64) (st : St) : Option St :=
  fJ7_fill_d0a16_b6 FU ar p1 (0 : Int32) (nI (sN st ar)) st
set_option maxHeartbeats 1000000 in
set_option maxRecDepth 20000 in
theorem wJ7_fill_d0a16 {E : Ev} {x : Cx} {u0 : St} (B : Bd E x none (0) 0 0 none u0) (ar : Nat) (p1 : Int64) (st : St) (h_ar : Obj st 11 ar) (hf : fJ7_fill_d0a16 ar p1 st = some u0) : G E WT x RJ7 cJ7_fill_d0a16 5 (0, 0) st 0 [(0, .ref (eB E + ar)), (1, .long p1)] [] := by
  unfold fJ7_fill_d0a16 at hf
  refine g_iconst (0 : Int32) (by decide) dJ7_fill_d0a16_0 ?_
  refine g_istore_n rfl [(3, .int (0 : Int32)), (0, .ref (eB E + ar)), (1, .long p1)] (by decide) rfl dJ7_fill_d0a16_1 ?_
  refine g_aload_n rfl 1 rfl dJ7_fill_d0a16_2 ?_
  refine g_alen 2 (fun _ => ⟨h_ar.1, h_ar.2, rfl⟩) (by decide) rfl dJ7_fill_d0a16_3 ?_
  refine g_istore [(4, .int (nI (sN st ar))), (3, .int (0 : Int32)), (0, .ref (eB E + ar)), (1, .long p1)] (by decide) rfl dJ7_fill_d0a16_4 ?_
  refine g_lvs [2, 3, 1, 0] rfl ?_
  exact wJ7_fill_d0a16_b6 B  FU ar p1 (0 : Int32) (nI (sN st ar)) st h_ar hf
theorem kJ7_fill_d0a16 {l : Launch} {E : Ev} {st : St} {ar : Nat} {p1 : Int64} {u0 : St} (h_ar : Obj st 11 ar) (hf : fJ7_fill_d0a16 ar p1 st = some u0) : CM l E WT yJ7_fill_d0a16 cJ7_fill_d0a16 5 none 0 0 0 [.ref (eB E + ar), .long p1] st none u0 :=
  CM.intro mok_J7_fill_d0a16 (Nat.le_of_ble_eq_true rfl) (fun x hl hR ht hr hQ _ => wJ7_fill_d0a16 ⟨hR, ht, hr, hQ⟩ ar p1 st h_ar hf)
def fX1_handOn_b41 : Nat → Int32 → Nat → Int64 → Int32 → St → Option St
  | 0, _, _, _, _, _ => none
  | n + 1, l1, l4, l5, l7, st => if (sI st 1 6) ≤ l7 then (some st) else ((fX6_after l1 l7 st).bind (fun q2 => chk (ixb q2.1 384) (chk (ixb q2.1 384) (fX1_handOn_b41 n l1 l4 l5 (l7 + (1 : Int32)) (pL q2.2 l4 q2.1.toNatClampNeg ((sL q2.2 l4 q2.1.toNatClampNeg) + l5))))))
set_option maxHeartbeats 1000000 in
set_option maxRecDepth 20000 in
theorem wX1_handOn_b41 {E : Ev} {x : Cx} {u0 : St} (B : Bd E x none (7) 0 0 none u0) : ∀ (n : Nat) (l1 : Int32) (l4 : Nat) (l5 : Int64) (l7 : Int32) (st : St) (h_l4 : lay[l4]? = some (11, 384)), fX1_handOn_b41 n l1 l4 l5 l7 st = some u0 → G E WT x RX1 cX1_handOn 8 (0, 0) st 41 [(0, .ref (eB E + 25)), (1, .int l1), (4, .ref (eB E + l4)), (5, .long l5), (7, .int l7)] [] := by
  intro n
  induction n with
  | zero =>
    intros
    rename_i hf
    rw [fX1_handOn_b41] at hf
    cases hf
  | succ n ih =>
    intro l1 l4 l5 l7 st h_l4 hf
    rw [fX1_handOn_b41] at hf
    refine g_iload 4 rfl dX1_handOn_41 ?_
    refine g_aload_n rfl 0 rfl dX1_handOn_43 ?_
    refine g_get (j := 0) cok1 (by decide) (.ref (eB E + 1)) (Or.inl tw1_235) oS25 vS25_0 dX1_handOn_44 ?_
    refine g_get (j := 6) cok4 (by decide) (.int (sI st 1 6)) (Or.inr nf_18) oS1 (fun _ => rfl) dX1_handOn_47 ?_
    refine g_icmp_ge 77 (by decide) dX1_handOn_50 (fun h1 => ?_) (fun h1 => ?_)
    · rw [if_pos h1] at hf
      exact g_ret B.2.2.2 B.2.2.1 rfl (Option.some.inj hf).symm dX1_handOn_77
    · rw [if_neg h1] at hf
      refine g_aload 2 rfl dX1_handOn_53 ?_
      refine g_aload_n rfl 0 rfl dX1_handOn_55 ?_
      refine g_get (j := 1) cok1 (by decide) (.ref (eB E + 19)) (Or.inl tw1_236) oS25 vS25_1 dX1_handOn_56 ?_
      refine g_iload_n rfl 1 rfl dX1_handOn_59 ?_
      refine g_iload 4 rfl dX1_handOn_60 ?_
      obtain ⟨q2, h3, hf⟩ := bnd_some hf
      refine g_callVN0i (As := [.int l1, .int l7]) (rest := [.ref (eB E + l4)]) cok6 mok_X6_after nmm_40 tw4_29 ts4_4 oS19 B.1 (by decide) (kX6_after  h3) rfl rfl (Nat.le_of_ble_eq_true rfl) ⟨Nat.le_refl _, Nat.le_refl _⟩ dX1_handOn_62 ?_
      refine g_dup2 rfl rfl dX1_handOn_65 ?_
      obtain ⟨h4, hf⟩ := chk_some hf
      refine g_laldj q2.1.toNatClampNeg rfl (WT.ar h_l4) (ixb_in h4) dX1_handOn_66 ?_
      refine g_lload 3 rfl dX1_handOn_67 ?_
      refine g_ladd dX1_handOn_69 ?_
      obtain ⟨h5, hf⟩ := chk_some hf
      refine g_lastj q2.1.toNatClampNeg rfl (WT.ar h_l4) (ixb_in h5) B.2.1 wpL dX1_handOn_70 ?_
      refine g_iinc (l7 + (1 : Int32)) [(7, .int (l7 + (1 : Int32))), (0, .ref (eB E + 25)), (1, .int l1), (4, .ref (eB E + l4)), (5, .long l5)] 4 rfl (congrArg (fun z => l7 + z) (show Int32.ofInt (1) = (1 : Int32) by decide)) (by decide) rfl dX1_handOn_71 ?_
      refine g_goto 41 (by decide) dX1_handOn_74 ?_
      refine g_lvs [1, 2, 3, 4, 0] rfl ?_
      exact ih l1 l4 l5 (l7 + (1 : Int32)) (pL q2.2 l4 q2.1.toNatClampNeg ((sL q2.2 l4 q2.1.toNatClampNeg) + l5)) h_l4 hf
def fX1_handOn_b17 (l1 : Int32) (l2 : Int64) (l4 : Nat) (st : St) : Option St :=
  chk (ixb l1 384) (chk (ixb l1 384) (some (pL st l4 l1.toNatClampNeg ((sL st l4 l1.toNatClampNeg) + l2))))
set_option maxHeartbeats 1000000 in
set_option maxRecDepth 20000 in
theorem wX1_handOn_b17 {E : Ev} {x : Cx} {u0 : St} (B : Bd E x none (7) 0 0 none u0) (l1 : Int32) (l2 : Int64) (l4 : Nat) (st : St) (h_l4 : lay[l4]? = some (11, 384)) (hf : fX1_handOn_b17 l1 l2 l4 st = some u0) : G E WT x RX1 cX1_handOn 8 (0, 0) st 17 [(1, .int l1), (2, .long l2), (4, .ref (eB E + l4))] [] := by
  unfold fX1_handOn_b17 at hf
  refine g_aload 2 rfl dX1_handOn_17 ?_
  refine g_iload_n rfl 0 rfl dX1_handOn_19 ?_
  refine g_dup2 rfl rfl dX1_handOn_20 ?_
  obtain ⟨h1, hf⟩ := chk_some hf
  refine g_laldj l1.toNatClampNeg rfl (WT.ar h_l4) (ixb_in h1) dX1_handOn_21 ?_
  refine g_lload_n rfl 1 rfl dX1_handOn_22 ?_
  refine g_ladd dX1_handOn_23 ?_
  obtain ⟨h2, hf⟩ := chk_some hf
  refine g_lastj l1.toNatClampNeg rfl (WT.ar h_l4) (ixb_in h2) B.2.1 wpL dX1_handOn_24 ?_
  exact g_ret B.2.2.2 B.2.2.1 rfl (Option.some.inj hf).symm dX1_handOn_25
def fX1_handOn (p1 : Int32) (p2 : Int64) (ar : Nat) (st : St) : Option St :=
  if (fX1_goesOn p1) = 0 then (fX1_handOn_b17 p1 p2 ar st) else (if (sI st 1 6) = 0 then (fX1_handOn_b17 p1 p2 ar st) else (chk (nzl ((sI st 1 6).toInt64)) (fX1_handOn_b41 FU p1 ar (p2 / ((sI st 1 6).toInt64)) (0 : Int32) st)))
set_option maxHeartbeats 1000000 in
set_option maxRecDepth 20000 in
theorem wX1_handOn {E : Ev} {x : Cx} {u0 : St} (B : Bd E x none (7) 0 0 none u0) (p1 : Int32) (p2 : Int64) (ar : Nat) (st : St) (h_ar : lay[ar]? = some (11, 384)) (hf : fX1_handOn p1 p2 ar st = some u0) : G E WT x RX1 cX1_handOn 8 (0, 0) st 0 [(0, .ref (eB E + 25)), (1, .int p1), (2, .long p2), (4, .ref (eB E + ar))] [] := by
  unfold fX1_handOn at hf
  refine g_iload_n rfl 1 rfl dX1_handOn_0 ?_
  refine g_callS0i (As := [.int p1]) (rest := []) mok_X1_goesOn tw4_23 tw4_24 B.1 (by decide) (kX1_goesOn  rfl) rfl rfl (Nat.le_of_ble_eq_true rfl) ⟨Nat.le_refl _, Nat.le_refl _⟩ dX1_handOn_1 ?_
  refine g_if_eq 17 (by decide) dX1_handOn_4 (fun h1 => ?_) (fun h1 => ?_)
  · rw [if_pos h1] at hf
    refine g_lvs [1, 2, 3] rfl ?_
    exact wX1_handOn_b17 B  p1 p2 ar st h_ar hf
  · rw [if_neg h1] at hf
    refine g_aload_n rfl 0 rfl dX1_handOn_7 ?_
    refine g_get (j := 0) cok1 (by decide) (.ref (eB E + 1)) (Or.inl tw1_235) oS25 vS25_0 dX1_handOn_8 ?_
    refine g_get (j := 6) cok4 (by decide) (.int (sI st 1 6)) (Or.inr nf_18) oS1 (fun _ => rfl) dX1_handOn_11 ?_
    refine g_if_ne 26 (by decide) dX1_handOn_14 (fun h2 => ?_) (fun h2 => ?_)
    · rw [if_neg h2] at hf
      refine g_lload_n rfl 2 rfl dX1_handOn_26 ?_
      refine g_aload_n rfl 0 rfl dX1_handOn_27 ?_
      refine g_get (j := 0) cok1 (by decide) (.ref (eB E + 1)) (Or.inl tw1_235) oS25 vS25_0 dX1_handOn_28 ?_
      refine g_get (j := 6) cok4 (by decide) (.int (sI st 1 6)) (Or.inr nf_18) oS1 (fun _ => rfl) dX1_handOn_31 ?_
      refine g_i2l dX1_handOn_34 ?_
      obtain ⟨h3, hf⟩ := chk_some hf
      refine g_ldiv (nzl_ne h3) dX1_handOn_35 ?_
      refine g_lstore [(5, .long (p2 / ((sI st 1 6).toInt64))), (0, .ref (eB E + 25)), (1, .int p1), (2, .long p2), (4, .ref (eB E + ar))] (by decide) rfl dX1_handOn_36 ?_
      refine g_iconst (0 : Int32) (by decide) dX1_handOn_38 ?_
      refine g_istore [(7, .int (0 : Int32)), (5, .long (p2 / ((sI st 1 6).toInt64))), (0, .ref (eB E + 25)), (1, .int p1), (2, .long p2), (4, .ref (eB E + ar))] (by decide) rfl dX1_handOn_39 ?_
      refine g_lvs [2, 3, 5, 1, 0] rfl ?_
      exact wX1_handOn_b41 B  FU p1 ar (p2 / ((sI st 1 6).toInt64)) (0 : Int32) st h_ar hf
    · rw [if_pos h2] at hf
      refine g_lvs [1, 2, 3] rfl ?_
      exact wX1_handOn_b17 B  p1 p2 ar st h_ar hf
theorem kX1_handOn {l : Launch} {E : Ev} {st : St} {p1 : Int32} {p2 : Int64} {ar : Nat} {u0 : St} (h_ar : lay[ar]? = some (11, 384)) (hf : fX1_handOn p1 p2 ar st = some u0) : CM l E WT yX1_handOn cX1_handOn 8 none 7 0 0 [.ref (eB E + 25), .int p1, .long p2, .ref (eB E + ar)] st none u0 :=
  CM.intro mok_X1_handOn (Nat.le_of_ble_eq_true rfl) (fun x hl hR ht hr hQ _ => wX1_handOn ⟨hR, ht, hr, hQ⟩ p1 p2 ar st h_ar hf)
def fX1_partsIn_b190 (k160 : Int32 → Nat → Int32 → Int64 → Int32 → St → Option (Int64 × St))(l2 : Int32) (l4 : Nat) (l6 : Int32) (l8 : Int64) (l10 : Int32) (st : St) : Option (Int64 × St) :=
  k160 l2 l4 l6 l8 (l10 + (1 : Int32)) st
set_option maxHeartbeats 1000000 in
set_option maxRecDepth 20000 in
theorem wX1_partsIn_b190 {E : Ev} {x : Cx} {r0 : Int64} {u0 : St} (B : Bd E x (some FieldType.long) (8) 0 0 (some (.long r0)) u0) {k160 : Int32 → Nat → Int32 → Int64 → Int32 → St → Option (Int64 × St)} (hk160 : ∀ (l2 : Int32) (l4 : Nat) (l6 : Int32) (l8 : Int64) (l10 : Int32) (st : St), (lay[l4]? = some (11, 384)) → k160 l2 l4 l6 l8 l10 st = some (r0, u0) → G E WT x RX1 cX1_partsIn 11 (0, 0) st 160 [(2, .int l2), (4, .ref (eB E + l4)), (6, .int l6), (8, .long l8), (10, .int l10)] []) (l2 : Int32) (l4 : Nat) (l6 : Int32) (l8 : Int64) (l10 : Int32) (st : St) (h_l4 : lay[l4]? = some (11, 384)) (hf : fX1_partsIn_b190 k160 l2 l4 l6 l8 l10 st = some (r0, u0)) : G E WT x RX1 cX1_partsIn 11 (0, 0) st 190 [(2, .int l2), (4, .ref (eB E + l4)), (6, .int l6), (8, .long l8), (10, .int l10)] [] := by
  unfold fX1_partsIn_b190 at hf
  refine g_iinc (l10 + (1 : Int32)) [(10, .int (l10 + (1 : Int32))), (2, .int l2), (4, .ref (eB E + l4)), (6, .int l6), (8, .long l8)] 4 rfl (congrArg (fun z => l10 + z) (show Int32.ofInt (1) = (1 : Int32) by decide)) (by decide) rfl dX1_partsIn_190 ?_
  refine g_goto 160 (by decide) dX1_partsIn_193 ?_
  refine g_lvs [1, 2, 3, 4, 0] rfl ?_
  exact hk160 l2 l4 l6 l8 (l10 + (1 : Int32)) st h_l4 hf
def fX1_partsIn_b160 : Nat → Int32 → Nat → Int32 → Int64 → Int32 → St → Option (Int64 × St)
  | 0, _, _, _, _, _, _ => none
  | n + 1, l2, l4, l6, l8, l10, st => if l6 ≤ l10 then (some (l8, st)) else (if ((jshr (l10 / (6 : Int32)) l2) &&& (1 : Int32)) = (1 : Int32) then (chk (ixb l10 384) (fX1_partsIn_b190 (fun zl2 zl4 zl6 zl8 zl10 zst => fX1_partsIn_b160 n zl2 zl4 zl6 zl8 zl10 zst) l2 l4 l6 (l8 + (sL st l4 l10.toNatClampNeg)) l10 st)) else (fX1_partsIn_b190 (fun zl2 zl4 zl6 zl8 zl10 zst => fX1_partsIn_b160 n zl2 zl4 zl6 zl8 zl10 zst) l2 l4 l6 l8 l10 st))
set_option maxHeartbeats 1000000 in
set_option maxRecDepth 20000 in
theorem wX1_partsIn_b160 {E : Ev} {x : Cx} {r0 : Int64} {u0 : St} (B : Bd E x (some FieldType.long) (8) 0 0 (some (.long r0)) u0) : ∀ (n : Nat) (l2 : Int32) (l4 : Nat) (l6 : Int32) (l8 : Int64) (l10 : Int32) (st : St) (h_l4 : lay[l4]? = some (11, 384)), fX1_partsIn_b160 n l2 l4 l6 l8 l10 st = some (r0, u0) → G E WT x RX1 cX1_partsIn 11 (0, 0) st 160 [(2, .int l2), (4, .ref (eB E + l4)), (6, .int l6), (8, .long l8), (10, .int l10)] [] := by
  intro n
  induction n with
  | zero =>
    intros
    rename_i hf
    rw [fX1_partsIn_b160] at hf
    cases hf
  | succ n ih =>
    intro l2 l4 l6 l8 l10 st h_l4 hf
    rw [fX1_partsIn_b160] at hf
    refine g_iload 4 rfl dX1_partsIn_160 ?_
    refine g_iload 2 rfl dX1_partsIn_162 ?_
    refine g_icmp_ge 196 (by decide) dX1_partsIn_164 (fun h1 => ?_) (fun h1 => ?_)
    · rw [if_pos h1] at hf
      refine g_lload 3 rfl dX1_partsIn_196 ?_
      exact g_lret B.2.2.2 B.2.2.1 (congrArg (fun z => some (Value.long z)) (Prod.mk.inj (Option.some.inj hf)).1.symm) (Prod.mk.inj (Option.some.inj hf)).2.symm dX1_partsIn_198
    · rw [if_neg h1] at hf
      refine g_iload 4 rfl dX1_partsIn_167 ?_
      refine g_bipush (6 : Int32) (by decide) dX1_partsIn_169 ?_
      refine g_idiv (by decide) dX1_partsIn_171 ?_
      refine g_iload_n rfl 0 rfl dX1_partsIn_172 ?_
      refine g_ishr dX1_partsIn_173 ?_
      refine g_iconst (1 : Int32) (by decide) dX1_partsIn_174 ?_
      refine g_iand dX1_partsIn_175 ?_
      refine g_iconst (1 : Int32) (by decide) dX1_partsIn_176 ?_
      refine g_icmp_ne 190 (by decide) dX1_partsIn_177 (fun h2 => ?_) (fun h2 => ?_)
      · rw [if_neg h2] at hf
        refine g_lvs [0, 1, 2, 3, 4] rfl ?_
        exact wX1_partsIn_b190 B ih l2 l4 l6 l8 l10 st h_l4 hf
      · rw [if_pos h2] at hf
        refine g_lload 3 rfl dX1_partsIn_180 ?_
        refine g_aload 1 rfl dX1_partsIn_182 ?_
        refine g_iload 4 rfl dX1_partsIn_184 ?_
        obtain ⟨h3, hf⟩ := chk_some hf
        refine g_laldj l10.toNatClampNeg rfl (WT.ar h_l4) (ixb_in h3) dX1_partsIn_186 ?_
        refine g_ladd dX1_partsIn_187 ?_
        refine g_lstore [(8, .long (l8 + (sL st l4 l10.toNatClampNeg))), (2, .int l2), (4, .ref (eB E + l4)), (6, .int l6), (10, .int l10)] (by decide) rfl dX1_partsIn_188 ?_
        refine g_lvs [1, 2, 3, 0, 4] rfl ?_
        exact wX1_partsIn_b190 B ih l2 l4 l6 (l8 + (sL st l4 l10.toNatClampNeg)) l10 st h_l4 hf
def fX1_partsIn_b154 (l2 : Int32) (l4 : Nat) (l6 : Int32) (st : St) : Option (Int64 × St) :=
  fX1_partsIn_b160 FU l2 l4 l6 (0 : Int64) (0 : Int32) st
set_option maxHeartbeats 1000000 in
set_option maxRecDepth 20000 in
theorem wX1_partsIn_b154 {E : Ev} {x : Cx} {r0 : Int64} {u0 : St} (B : Bd E x (some FieldType.long) (8) 0 0 (some (.long r0)) u0) (l2 : Int32) (l4 : Nat) (l6 : Int32) (st : St) (h_l4 : lay[l4]? = some (11, 384)) (hf : fX1_partsIn_b154 l2 l4 l6 st = some (r0, u0)) : G E WT x RX1 cX1_partsIn 11 (0, 0) st 154 [(2, .int l2), (4, .ref (eB E + l4)), (6, .int l6)] [] := by
  unfold fX1_partsIn_b154 at hf
  refine g_lconst (0 : Int64) (by decide) dX1_partsIn_154 ?_
  refine g_lstore [(8, .long (0 : Int64)), (2, .int l2), (4, .ref (eB E + l4)), (6, .int l6)] (by decide) rfl dX1_partsIn_155 ?_
  refine g_iconst (0 : Int32) (by decide) dX1_partsIn_157 ?_
  refine g_istore [(10, .int (0 : Int32)), (8, .long (0 : Int64)), (2, .int l2), (4, .ref (eB E + l4)), (6, .int l6)] (by decide) rfl dX1_partsIn_158 ?_
  refine g_lvs [2, 3, 4, 1, 0] rfl ?_
  exact wX1_partsIn_b160 B  FU l2 l4 l6 (0 : Int64) (0 : Int32) st h_l4 hf
def fX1_partsIn_b130 (k57 : Int32 → Int32 → Nat → Nat → Int32 → Int32 → Int32 → St → Option (Int64 × St)) (k74 : Int32 → Int32 → Nat → Nat → Int32 → Int32 → Int32 → Int32 → St → Option (Int64 × St))(l2 : Int32) (l3 : Int32) (l4 : Nat) (l5 : Nat) (l6 : Int32) (l7 : Int32) (l8 : Int32) (l9 : Int32) (st : St) : Option (Int64 × St) :=
  k74 l2 l3 l4 l5 l6 l7 l8 (l9 + (1 : Int32)) st
set_option maxHeartbeats 1000000 in
set_option maxRecDepth 20000 in
theorem wX1_partsIn_b130 {E : Ev} {x : Cx} {r0 : Int64} {u0 : St} (B : Bd E x (some FieldType.long) (8) 0 0 (some (.long r0)) u0) {k57 : Int32 → Int32 → Nat → Nat → Int32 → Int32 → Int32 → St → Option (Int64 × St)} (hk57 : ∀ (l2 : Int32) (l3 : Int32) (l4 : Nat) (l5 : Nat) (l6 : Int32) (l7 : Int32) (l8 : Int32) (st : St), (lay[l4]? = some (11, 384)) → (lay[l5]? = some (11, 384)) → k57 l2 l3 l4 l5 l6 l7 l8 st = some (r0, u0) → G E WT x RX1 cX1_partsIn 11 (0, 0) st 57 [(0, .ref (eB E + 25)), (2, .int l2), (3, .int l3), (4, .ref (eB E + l4)), (5, .ref (eB E + l5)), (6, .int l6), (7, .int l7), (8, .int l8)] []) {k74 : Int32 → Int32 → Nat → Nat → Int32 → Int32 → Int32 → Int32 → St → Option (Int64 × St)} (hk74 : ∀ (l2 : Int32) (l3 : Int32) (l4 : Nat) (l5 : Nat) (l6 : Int32) (l7 : Int32) (l8 : Int32) (l9 : Int32) (st : St), (lay[l4]? = some (11, 384)) → (lay[l5]? = some (11, 384)) → k74 l2 l3 l4 l5 l6 l7 l8 l9 st = some (r0, u0) → G E WT x RX1 cX1_partsIn 11 (0, 0) st 74 [(0, .ref (eB E + 25)), (2, .int l2), (3, .int l3), (4, .ref (eB E + l4)), (5, .ref (eB E + l5)), (6, .int l6), (7, .int l7), (8, .int l8), (9, .int l9)] []) (l2 : Int32) (l3 : Int32) (l4 : Nat) (l5 : Nat) (l6 : Int32) (l7 : Int32) (l8 : Int32) (l9 : Int32) (st : St) (h_l4 : lay[l4]? = some (11, 384)) (h_l5 : lay[l5]? = some (11, 384)) (hf : fX1_partsIn_b130 k57 k74 l2 l3 l4 l5 l6 l7 l8 l9 st = some (r0, u0)) : G E WT x RX1 cX1_partsIn 11 (0, 0) st 130 [(0, .ref (eB E + 25)), (2, .int l2), (3, .int l3), (4, .ref (eB E + l4)), (5, .ref (eB E + l5)), (6, .int l6), (7, .int l7), (8, .int l8), (9, .int l9)] [] := by
  unfold fX1_partsIn_b130 at hf
  refine g_iinc (l9 + (1 : Int32)) [(9, .int (l9 + (1 : Int32))), (0, .ref (eB E + 25)), (2, .int l2), (3, .int l3), (4, .ref (eB E + l4)), (5, .ref (eB E + l5)), (6, .int l6), (7, .int l7), (8, .int l8)] 8 rfl (congrArg (fun z => l9 + z) (show Int32.ofInt (1) = (1 : Int32) by decide)) (by decide) rfl dX1_partsIn_130 ?_
  refine g_goto 74 (by decide) dX1_partsIn_133 ?_
  refine g_lvs [1, 2, 3, 4, 5, 6, 7, 8, 0] rfl ?_
  exact hk74 l2 l3 l4 l5 l6 l7 l8 (l9 + (1 : Int32)) st h_l4 h_l5 hf
def fX1_partsIn_b128 (k57 : Int32 → Int32 → Nat → Nat → Int32 → Int32 → Int32 → St → Option (Int64 × St)) (k74 : Int32 → Int32 → Nat → Nat → Int32 → Int32 → Int32 → Int32 → St → Option (Int64 × St))(l2 : Int32) (l3 : Int32) (l4 : Nat) (l5 : Nat) (l6 : Int32) (l8 : Int32) (l9 : Int32) (s0 : Int32) (st : St) : Option (Int64 × St) :=
  fX1_partsIn_b130 k57 k74 l2 l3 l4 l5 l6 s0 l8 l9 st
set_option maxHeartbeats 1000000 in
set_option maxRecDepth 20000 in
theorem wX1_partsIn_b128 {E : Ev} {x : Cx} {r0 : Int64} {u0 : St} (B : Bd E x (some FieldType.long) (8) 0 0 (some (.long r0)) u0) {k57 : Int32 → Int32 → Nat → Nat → Int32 → Int32 → Int32 → St → Option (Int64 × St)} (hk57 : ∀ (l2 : Int32) (l3 : Int32) (l4 : Nat) (l5 : Nat) (l6 : Int32) (l7 : Int32) (l8 : Int32) (st : St), (lay[l4]? = some (11, 384)) → (lay[l5]? = some (11, 384)) → k57 l2 l3 l4 l5 l6 l7 l8 st = some (r0, u0) → G E WT x RX1 cX1_partsIn 11 (0, 0) st 57 [(0, .ref (eB E + 25)), (2, .int l2), (3, .int l3), (4, .ref (eB E + l4)), (5, .ref (eB E + l5)), (6, .int l6), (7, .int l7), (8, .int l8)] []) {k74 : Int32 → Int32 → Nat → Nat → Int32 → Int32 → Int32 → Int32 → St → Option (Int64 × St)} (hk74 : ∀ (l2 : Int32) (l3 : Int32) (l4 : Nat) (l5 : Nat) (l6 : Int32) (l7 : Int32) (l8 : Int32) (l9 : Int32) (st : St), (lay[l4]? = some (11, 384)) → (lay[l5]? = some (11, 384)) → k74 l2 l3 l4 l5 l6 l7 l8 l9 st = some (r0, u0) → G E WT x RX1 cX1_partsIn 11 (0, 0) st 74 [(0, .ref (eB E + 25)), (2, .int l2), (3, .int l3), (4, .ref (eB E + l4)), (5, .ref (eB E + l5)), (6, .int l6), (7, .int l7), (8, .int l8), (9, .int l9)] []) (l2 : Int32) (l3 : Int32) (l4 : Nat) (l5 : Nat) (l6 : Int32) (l8 : Int32) (l9 : Int32) (s0 : Int32) (st : St) (h_l4 : lay[l4]? = some (11, 384)) (h_l5 : lay[l5]? = some (11, 384)) (hf : fX1_partsIn_b128 k57 k74 l2 l3 l4 l5 l6 l8 l9 s0 st = some (r0, u0)) : G E WT x RX1 cX1_partsIn 11 (0, 0) st 128 [(0, .ref (eB E + 25)), (2, .int l2), (3, .int l3), (4, .ref (eB E + l4)), (5, .ref (eB E + l5)), (6, .int l6), (8, .int l8), (9, .int l9)] [.int s0] := by
  unfold fX1_partsIn_b128 at hf
  refine g_istore [(7, .int s0), (0, .ref (eB E + 25)), (2, .int l2), (3, .int l3), (4, .ref (eB E + l4)), (5, .ref (eB E + l5)), (6, .int l6), (8, .int l8), (9, .int l9)] (by decide) rfl dX1_partsIn_128 ?_
  refine g_lvs [1, 2, 3, 4, 5, 6, 0, 7, 8] rfl ?_
  exact wX1_partsIn_b130 B hk57 hk74 l2 l3 l4 l5 l6 s0 l8 l9 st h_l4 h_l5 hf
def fX1_partsIn_b123 (k57 : Int32 → Int32 → Nat → Nat → Int32 → Int32 → Int32 → St → Option (Int64 × St)) (k74 : Int32 → Int32 → Nat → Nat → Int32 → Int32 → Int32 → Int32 → St → Option (Int64 × St))(l2 : Int32) (l3 : Int32) (l4 : Nat) (l5 : Nat) (l6 : Int32) (l8 : Int32) (l9 : Int32) (st : St) : Option (Int64 × St) :=
  fX1_partsIn_b128 k57 k74 l2 l3 l4 l5 l6 l8 l9 (1 : Int32) st
set_option maxHeartbeats 1000000 in
set_option maxRecDepth 20000 in
theorem wX1_partsIn_b123 {E : Ev} {x : Cx} {r0 : Int64} {u0 : St} (B : Bd E x (some FieldType.long) (8) 0 0 (some (.long r0)) u0) {k57 : Int32 → Int32 → Nat → Nat → Int32 → Int32 → Int32 → St → Option (Int64 × St)} (hk57 : ∀ (l2 : Int32) (l3 : Int32) (l4 : Nat) (l5 : Nat) (l6 : Int32) (l7 : Int32) (l8 : Int32) (st : St), (lay[l4]? = some (11, 384)) → (lay[l5]? = some (11, 384)) → k57 l2 l3 l4 l5 l6 l7 l8 st = some (r0, u0) → G E WT x RX1 cX1_partsIn 11 (0, 0) st 57 [(0, .ref (eB E + 25)), (2, .int l2), (3, .int l3), (4, .ref (eB E + l4)), (5, .ref (eB E + l5)), (6, .int l6), (7, .int l7), (8, .int l8)] []) {k74 : Int32 → Int32 → Nat → Nat → Int32 → Int32 → Int32 → Int32 → St → Option (Int64 × St)} (hk74 : ∀ (l2 : Int32) (l3 : Int32) (l4 : Nat) (l5 : Nat) (l6 : Int32) (l7 : Int32) (l8 : Int32) (l9 : Int32) (st : St), (lay[l4]? = some (11, 384)) → (lay[l5]? = some (11, 384)) → k74 l2 l3 l4 l5 l6 l7 l8 l9 st = some (r0, u0) → G E WT x RX1 cX1_partsIn 11 (0, 0) st 74 [(0, .ref (eB E + 25)), (2, .int l2), (3, .int l3), (4, .ref (eB E + l4)), (5, .ref (eB E + l5)), (6, .int l6), (7, .int l7), (8, .int l8), (9, .int l9)] []) (l2 : Int32) (l3 : Int32) (l4 : Nat) (l5 : Nat) (l6 : Int32) (l8 : Int32) (l9 : Int32) (st : St) (h_l4 : lay[l4]? = some (11, 384)) (h_l5 : lay[l5]? = some (11, 384)) (hf : fX1_partsIn_b123 k57 k74 l2 l3 l4 l5 l6 l8 l9 st = some (r0, u0)) : G E WT x RX1 cX1_partsIn 11 (0, 0) st 123 [(0, .ref (eB E + 25)), (2, .int l2), (3, .int l3), (4, .ref (eB E + l4)), (5, .ref (eB E + l5)), (6, .int l6), (8, .int l8), (9, .int l9)] [] := by
  unfold fX1_partsIn_b123 at hf
  refine g_iconst (1 : Int32) (by decide) dX1_partsIn_123 ?_
  refine g_goto 128 (by decide) dX1_partsIn_124 ?_
  refine g_lvs [0, 1, 2, 3, 4, 5, 6, 7] rfl ?_
  exact wX1_partsIn_b128 B hk57 hk74 l2 l3 l4 l5 l6 l8 l9 (1 : Int32) st h_l4 h_l5 hf
def fX1_partsIn_b74 (k57 : Int32 → Int32 → Nat → Nat → Int32 → Int32 → Int32 → St → Option (Int64 × St)) : Nat → Int32 → Int32 → Nat → Nat → Int32 → Int32 → Int32 → Int32 → St → Option (Int64 × St)
  | 0, _, _, _, _, _, _, _, _, _ => none
  | n + 1, l2, l3, l4, l5, l6, l7, l8, l9, st => if l6 ≤ l9 then (k57 l2 l3 l5 l4 l6 l7 (l8 + (1 : Int32)) st) else (chk (ixb l9 384) (if (lg_cmp (sL st l4 l9.toNatClampNeg) (0 : Int64)) = 0 then (fX1_partsIn_b130 k57 (fun zl2 zl3 zl4 zl5 zl6 zl7 zl8 zl9 zst => fX1_partsIn_b74 k57 n zl2 zl3 zl4 zl5 zl6 zl7 zl8 zl9 zst) l2 l3 l4 l5 l6 l7 l8 l9 st) else (chk (ixb l9 384) ((fX1_handOn l9 (sL st l4 l9.toNatClampNeg) l5 st).bind (fun q5 => chk (ixb l9 384) (if l7 = 0 then (if (fX1_goesOn l9) = 0 then (fX1_partsIn_b128 k57 (fun zl2 zl3 zl4 zl5 zl6 zl7 zl8 zl9 zst => fX1_partsIn_b74 k57 n zl2 zl3 zl4 zl5 zl6 zl7 zl8 zl9 zst) l2 l3 l4 l5 l6 l8 l9 (0 : Int32) (pL q5 l4 l9.toNatClampNeg (0 : Int64))) else (fX1_partsIn_b123 k57 (fun zl2 zl3 zl4 zl5 zl6 zl7 zl8 zl9 zst => fX1_partsIn_b74 k57 n zl2 zl3 zl4 zl5 zl6 zl7 zl8 zl9 zst) l2 l3 l4 l5 l6 l8 l9 (pL q5 l4 l9.toNatClampNeg (0 : Int64)))) else (fX1_partsIn_b123 k57 (fun zl2 zl3 zl4 zl5 zl6 zl7 zl8 zl9 zst => fX1_partsIn_b74 k57 n zl2 zl3 zl4 zl5 zl6 zl7 zl8 zl9 zst) l2 l3 l4 l5 l6 l8 l9 (pL q5 l4 l9.toNatClampNeg (0 : Int64)))))))))
set_option maxHeartbeats 1000000 in
set_option maxRecDepth 20000 in
theorem wX1_partsIn_b74 {E : Ev} {x : Cx} {r0 : Int64} {u0 : St} (B : Bd E x (some FieldType.long) (8) 0 0 (some (.long r0)) u0) {k57 : Int32 → Int32 → Nat → Nat → Int32 → Int32 → Int32 → St → Option (Int64 × St)} (hk57 : ∀ (l2 : Int32) (l3 : Int32) (l4 : Nat) (l5 : Nat) (l6 : Int32) (l7 : Int32) (l8 : Int32) (st : St), (lay[l4]? = some (11, 384)) → (lay[l5]? = some (11, 384)) → k57 l2 l3 l4 l5 l6 l7 l8 st = some (r0, u0) → G E WT x RX1 cX1_partsIn 11 (0, 0) st 57 [(0, .ref (eB E + 25)), (2, .int l2), (3, .int l3), (4, .ref (eB E + l4)), (5, .ref (eB E + l5)), (6, .int l6), (7, .int l7), (8, .int l8)] []) : ∀ (n : Nat) (l2 : Int32) (l3 : Int32) (l4 : Nat) (l5 : Nat) (l6 : Int32) (l7 : Int32) (l8 : Int32) (l9 : Int32) (st : St) (h_l4 : lay[l4]? = some (11, 384)) (h_l5 : lay[l5]? = some (11, 384)), fX1_partsIn_b74 k57 n l2 l3 l4 l5 l6 l7 l8 l9 st = some (r0, u0) → G E WT x RX1 cX1_partsIn 11 (0, 0) st 74 [(0, .ref (eB E + 25)), (2, .int l2), (3, .int l3), (4, .ref (eB E + l4)), (5, .ref (eB E + l5)), (6, .int l6), (7, .int l7), (8, .int l8), (9, .int l9)] [] := by
  intro n
  induction n with
  | zero =>
    intros
    rename_i hf
    rw [fX1_partsIn_b74] at hf
    cases hf
  | succ n ih =>
    intro l2 l3 l4 l5 l6 l7 l8 l9 st h_l4 h_l5 hf
    rw [fX1_partsIn_b74] at hf
    refine g_iload 8 rfl dX1_partsIn_74 ?_
    refine g_iload 5 rfl dX1_partsIn_76 ?_
    refine g_icmp_ge 136 (by decide) dX1_partsIn_78 (fun h1 => ?_) (fun h1 => ?_)
    · rw [if_pos h1] at hf
      refine g_aload 3 rfl dX1_partsIn_136 ?_
      refine g_astore [(9, .ref (eB E + l4)), (0, .ref (eB E + 25)), (2, .int l2), (3, .int l3), (4, .ref (eB E + l4)), (5, .ref (eB E + l5)), (6, .int l6), (7, .int l7), (8, .int l8)] (by decide) rfl dX1_partsIn_138 ?_
      refine g_aload 5 rfl dX1_partsIn_140 ?_
      refine g_astore [(4, .ref (eB E + l5)), (9, .ref (eB E + l4)), (0, .ref (eB E + 25)), (2, .int l2), (3, .int l3), (5, .ref (eB E + l5)), (6, .int l6), (7, .int l7), (8, .int l8)] (by decide) rfl dX1_partsIn_142 ?_
      refine g_aload 1 rfl dX1_partsIn_144 ?_
      refine g_astore [(5, .ref (eB E + l4)), (4, .ref (eB E + l5)), (9, .ref (eB E + l4)), (0, .ref (eB E + 25)), (2, .int l2), (3, .int l3), (6, .int l6), (7, .int l7), (8, .int l8)] (by decide) rfl dX1_partsIn_146 ?_
      refine g_iinc (l8 + (1 : Int32)) [(8, .int (l8 + (1 : Int32))), (5, .ref (eB E + l4)), (4, .ref (eB E + l5)), (9, .ref (eB E + l4)), (0, .ref (eB E + 25)), (2, .int l2), (3, .int l3), (6, .int l6), (7, .int l7)] 8 rfl (congrArg (fun z => l8 + z) (show Int32.ofInt (1) = (1 : Int32) by decide)) (by decide) rfl dX1_partsIn_148 ?_
      refine g_goto 57 (by decide) dX1_partsIn_151 ?_
      refine g_lvs [4, 5, 6, 2, 1, 7, 8, 0] rfl ?_
      exact hk57 l2 l3 l5 l4 l6 l7 (l8 + (1 : Int32)) st h_l5 h_l4 hf
    · rw [if_neg h1] at hf
      refine g_aload 3 rfl dX1_partsIn_81 ?_
      refine g_iload 8 rfl dX1_partsIn_83 ?_
      obtain ⟨h2, hf⟩ := chk_some hf
      refine g_laldj l9.toNatClampNeg rfl (WT.ar h_l4) (ixb_in h2) dX1_partsIn_85 ?_
      refine g_lconst (0 : Int64) (by decide) dX1_partsIn_86 ?_
      refine g_lcmp dX1_partsIn_87 ?_
      refine g_if_eq 130 (by decide) dX1_partsIn_88 (fun h3 => ?_) (fun h3 => ?_)
      · rw [if_pos h3] at hf
        refine g_lvs [0, 1, 2, 3, 4, 5, 6, 7, 8] rfl ?_
        exact wX1_partsIn_b130 B hk57 ih l2 l3 l4 l5 l6 l7 l8 l9 st h_l4 h_l5 hf
      · rw [if_neg h3] at hf
        refine g_aload_n rfl 0 rfl dX1_partsIn_91 ?_
        refine g_iload 8 rfl dX1_partsIn_92 ?_
        refine g_aload 3 rfl dX1_partsIn_94 ?_
        refine g_iload 8 rfl dX1_partsIn_96 ?_
        obtain ⟨h4, hf⟩ := chk_some hf
        refine g_laldj l9.toNatClampNeg rfl (WT.ar h_l4) (ixb_in h4) dX1_partsIn_98 ?_
        refine g_aload 4 rfl dX1_partsIn_99 ?_
        obtain ⟨q5, h6, hf⟩ := bnd_some hf
        refine g_callV0v (As := [.int l9, .long (sL st l4 l9.toNatClampNeg), .ref (eB E + l5)]) (rest := []) cok1 mok_X1_handOn tw4_90 tw4_92 ts4_11 oS25 B.1 (by decide) (kX1_handOn h_l5 h6) rfl rfl (Nat.le_of_ble_eq_true rfl) ⟨Nat.le_refl _, Nat.le_refl _⟩ dX1_partsIn_101 ?_
        refine g_aload 3 rfl dX1_partsIn_104 ?_
        refine g_iload 8 rfl dX1_partsIn_106 ?_
        refine g_lconst (0 : Int64) (by decide) dX1_partsIn_108 ?_
        obtain ⟨h7, hf⟩ := chk_some hf
        refine g_lastj l9.toNatClampNeg rfl (WT.ar h_l4) (ixb_in h7) B.2.1 wpL dX1_partsIn_109 ?_
        refine g_iload 6 rfl dX1_partsIn_110 ?_
        refine g_if_ne 123 (by decide) dX1_partsIn_112 (fun h8 => ?_) (fun h8 => ?_)
        · rw [if_neg h8] at hf
          refine g_lvs [0, 1, 2, 3, 4, 5, 7, 8] rfl ?_
          exact wX1_partsIn_b123 B hk57 ih l2 l3 l4 l5 l6 l8 l9 (pL q5 l4 l9.toNatClampNeg (0 : Int64)) h_l4 h_l5 hf
        · rw [if_pos h8] at hf
          refine g_iload 8 rfl dX1_partsIn_115 ?_
          refine g_callS0i (As := [.int l9]) (rest := []) mok_X1_goesOn tw4_23 tw4_24 B.1 (by decide) (kX1_goesOn  rfl) rfl rfl (Nat.le_of_ble_eq_true rfl) ⟨Nat.le_refl _, Nat.le_refl _⟩ dX1_partsIn_117 ?_
          refine g_if_eq 127 (by decide) dX1_partsIn_120 (fun h9 => ?_) (fun h9 => ?_)
          · rw [if_pos h9] at hf
            refine g_iconst (0 : Int32) (by decide) dX1_partsIn_127 ?_
            refine g_lvs [0, 1, 2, 3, 4, 5, 7, 8] rfl ?_
            exact wX1_partsIn_b128 B hk57 ih l2 l3 l4 l5 l6 l8 l9 (0 : Int32) (pL q5 l4 l9.toNatClampNeg (0 : Int64)) h_l4 h_l5 hf
          · rw [if_neg h9] at hf
            refine g_lvs [0, 1, 2, 3, 4, 5, 7, 8] rfl ?_
            exact wX1_partsIn_b123 B hk57 ih l2 l3 l4 l5 l6 l8 l9 (pL q5 l4 l9.toNatClampNeg (0 : Int64)) h_l4 h_l5 hf
def fX1_partsIn_b57 : Nat → Int32 → Int32 → Nat → Nat → Int32 → Int32 → Int32 → St → Option (Int64 × St)
  | 0, _, _, _, _, _, _, _, _ => none
  | n + 1, l2, l3, l4, l5, l6, l7, l8, st => if l3 ≤ l8 then (fX1_partsIn_b154 l2 l4 l6 st) else (if l7 = 0 then (fX1_partsIn_b154 l2 l4 l6 st) else (fX1_partsIn_b74 (fun zl2 zl3 zl4 zl5 zl6 zl7 zl8 zst => fX1_partsIn_b57 n zl2 zl3 zl4 zl5 zl6 zl7 zl8 zst) FU l2 l3 l4 l5 l6 (0 : Int32) l8 (0 : Int32) st))
set_option maxHeartbeats 1000000 in
set_option maxRecDepth 20000 in
theorem wX1_partsIn_b57 {E : Ev} {x : Cx} {r0 : Int64} {u0 : St} (B : Bd E x (some FieldType.long) (8) 0 0 (some (.long r0)) u0) : ∀ (n : Nat) (l2 : Int32) (l3 : Int32) (l4 : Nat) (l5 : Nat) (l6 : Int32) (l7 : Int32) (l8 : Int32) (st : St) (h_l4 : lay[l4]? = some (11, 384)) (h_l5 : lay[l5]? = some (11, 384)), fX1_partsIn_b57 n l2 l3 l4 l5 l6 l7 l8 st = some (r0, u0) → G E WT x RX1 cX1_partsIn 11 (0, 0) st 57 [(0, .ref (eB E + 25)), (2, .int l2), (3, .int l3), (4, .ref (eB E + l4)), (5, .ref (eB E + l5)), (6, .int l6), (7, .int l7), (8, .int l8)] [] := by
  intro n
  induction n with
  | zero =>
    intros
    rename_i hf
    rw [fX1_partsIn_b57] at hf
    cases hf
  | succ n ih =>
    intro l2 l3 l4 l5 l6 l7 l8 st h_l4 h_l5 hf
    rw [fX1_partsIn_b57] at hf
    refine g_iload 7 rfl dX1_partsIn_57 ?_
    refine g_iload_n rfl 2 rfl dX1_partsIn_59 ?_
    refine g_icmp_ge 154 (by decide) dX1_partsIn_60 (fun h1 => ?_) (fun h1 => ?_)
    · rw [if_pos h1] at hf
      refine g_lvs [1, 3, 5] rfl ?_
      exact wX1_partsIn_b154 B  l2 l4 l6 st h_l4 hf
    · rw [if_neg h1] at hf
      refine g_iload 6 rfl dX1_partsIn_63 ?_
      refine g_if_eq 154 (by decide) dX1_partsIn_65 (fun h2 => ?_) (fun h2 => ?_)
      · rw [if_pos h2] at hf
        refine g_lvs [1, 3, 5] rfl ?_
        exact wX1_partsIn_b154 B  l2 l4 l6 st h_l4 hf
      · rw [if_neg h2] at hf
        refine g_iconst (0 : Int32) (by decide) dX1_partsIn_68 ?_
        refine g_istore [(7, .int (0 : Int32)), (0, .ref (eB E + 25)), (2, .int l2), (3, .int l3), (4, .ref (eB E + l4)), (5, .ref (eB E + l5)), (6, .int l6), (8, .int l8)] (by decide) rfl dX1_partsIn_69 ?_
        refine g_iconst (0 : Int32) (by decide) dX1_partsIn_71 ?_
        refine g_istore [(9, .int (0 : Int32)), (7, .int (0 : Int32)), (0, .ref (eB E + 25)), (2, .int l2), (3, .int l3), (4, .ref (eB E + l4)), (5, .ref (eB E + l5)), (6, .int l6), (8, .int l8)] (by decide) rfl dX1_partsIn_72 ?_
        refine g_lvs [2, 3, 4, 5, 6, 7, 1, 8, 0] rfl ?_
        exact wX1_partsIn_b74 B ih FU l2 l3 l4 l5 l6 (0 : Int32) l8 (0 : Int32) st h_l4 h_l5 hf
def fX1_partsIn (p1 : Int32) (p2 : Int32) (p3 : Int32) (st : St) : Option (Int64 × St) :=
  (fJ7_fill_d0a16 31 (0 : Int64) st).bind (fun q2 => (fJ7_fill_d0a16 32 (0 : Int64) q2).bind (fun q5 => chk (ixb p1 384) (fX1_partsIn_b57 FU p2 p3 31 32 (jmin (384 : Int32) (((fX4_everyone (pL q5 31 p1.toNatClampNeg (1000000000000 : Int64))) + (1 : Int32)) * (6 : Int32))) (1 : Int32) (0 : Int32) (pL q5 31 p1.toNatClampNeg (1000000000000 : Int64)))))
set_option maxHeartbeats 1000000 in
set_option maxRecDepth 20000 in
theorem wX1_partsIn {E : Ev} {x : Cx} {r0 : Int64} {u0 : St} (B : Bd E x (some FieldType.long) (8) 0 0 (some (.long r0)) u0) (p1 : Int32) (p2 : Int32) (p3 : Int32) (st : St)  (hf : fX1_partsIn p1 p2 p3 st = some (r0, u0)) : G E WT x RX1 cX1_partsIn 11 (0, 0) st 0 [(0, .ref (eB E + 25)), (1, .int p1), (2, .int p2), (3, .int p3)] [] := by
  unfold fX1_partsIn at hf
  refine g_aload_n rfl 0 rfl dX1_partsIn_0 ?_
  refine g_get (j := 7) cok1 (by decide) (.ref (eB E + 31)) (Or.inl tw2_3) oS25 vS25_7 dX1_partsIn_1 ?_
  refine g_astore [(4, .ref (eB E + 31)), (0, .ref (eB E + 25)), (1, .int p1), (2, .int p2), (3, .int p3)] (by decide) rfl dX1_partsIn_4 ?_
  refine g_aload_n rfl 1 rfl dX1_partsIn_6 ?_
  refine g_get (j := 8) cok1 (by decide) (.ref (eB E + 32)) (Or.inl tw2_4) oS25 vS25_8 dX1_partsIn_7 ?_
  refine g_astore [(5, .ref (eB E + 32)), (4, .ref (eB E + 31)), (0, .ref (eB E + 25)), (1, .int p1), (2, .int p2), (3, .int p3)] (by decide) rfl dX1_partsIn_10 ?_
  refine g_aload 1 rfl dX1_partsIn_12 ?_
  refine g_lconst (0 : Int64) (by decide) dX1_partsIn_14 ?_
  refine g_wt (fun w1 => ?_)
  obtain ⟨q2, h3, hf⟩ := bnd_some hf
  refine g_callS0v (As := [.ref (eB E + 31), .long (0 : Int64)]) (rest := []) mok_J7_fill_d0a16 tw4_84 tw4_85 B.1 (by decide) (kJ7_fill_d0a16 (oS31 w1) h3) rfl rfl (Nat.le_of_ble_eq_true rfl) ⟨Nat.le_refl _, Nat.le_refl _⟩ dX1_partsIn_15 ?_
  refine g_aload 0 rfl dX1_partsIn_18 ?_
  refine g_lconst (0 : Int64) (by decide) dX1_partsIn_20 ?_
  refine g_wt (fun w4 => ?_)
  obtain ⟨q5, h6, hf⟩ := bnd_some hf
  refine g_callS0v (As := [.ref (eB E + 32), .long (0 : Int64)]) (rest := []) mok_J7_fill_d0a16 tw4_84 tw4_85 B.1 (by decide) (kJ7_fill_d0a16 (oS32 w4) h6) rfl rfl (Nat.le_of_ble_eq_true rfl) ⟨Nat.le_refl _, Nat.le_refl _⟩ dX1_partsIn_21 ?_
  refine g_aload 1 rfl dX1_partsIn_24 ?_
  refine g_iload_n rfl 3 rfl dX1_partsIn_26 ?_
  refine g_ldc2 tw4_87 dX1_partsIn_27 ?_
  obtain ⟨h7, hf⟩ := chk_some hf
  refine g_lastj p1.toNatClampNeg rfl aS31 (ixb_in h7) B.2.1 wpL dX1_partsIn_30 ?_
  refine g_sipush (384 : Int32) (by decide) dX1_partsIn_31 ?_
  refine g_aload_n rfl 2 rfl dX1_partsIn_34 ?_
  refine g_get (j := 0) cok1 (by decide) (.ref (eB E + 1)) (Or.inl tw1_235) oS25 vS25_0 dX1_partsIn_35 ?_
  refine g_callVN0i (As := []) (rest := [.int (384 : Int32)]) cok4 mok_X4_everyone nmm_47 tw3_198 ts3_14 oS1 B.1 (by decide) (kX4_everyone  rfl) rfl rfl (Nat.le_of_ble_eq_true rfl) ⟨Nat.le_refl _, Nat.le_refl _⟩ dX1_partsIn_38 ?_
  refine g_iconst (1 : Int32) (by decide) dX1_partsIn_41 ?_
  refine g_iadd dX1_partsIn_42 ?_
  refine g_bipush (6 : Int32) (by decide) dX1_partsIn_43 ?_
  refine g_imul dX1_partsIn_45 ?_
  refine g_jmin tw4_89 B.1 (by decide) (Nat.le_of_ble_eq_true rfl) ⟨Nat.le_refl _, Nat.le_refl _⟩ dX1_partsIn_46 ?_
  refine g_istore [(6, .int (jmin (384 : Int32) (((fX4_everyone (pL q5 31 p1.toNatClampNeg (1000000000000 : Int64))) + (1 : Int32)) * (6 : Int32)))), (5, .ref (eB E + 32)), (4, .ref (eB E + 31)), (0, .ref (eB E + 25)), (1, .int p1), (2, .int p2), (3, .int p3)] (by decide) rfl dX1_partsIn_49 ?_
  refine g_iconst (1 : Int32) (by decide) dX1_partsIn_51 ?_
  refine g_istore [(7, .int (1 : Int32)), (6, .int (jmin (384 : Int32) (((fX4_everyone (pL q5 31 p1.toNatClampNeg (1000000000000 : Int64))) + (1 : Int32)) * (6 : Int32)))), (5, .ref (eB E + 32)), (4, .ref (eB E + 31)), (0, .ref (eB E + 25)), (1, .int p1), (2, .int p2), (3, .int p3)] (by decide) rfl dX1_partsIn_52 ?_
  refine g_iconst (0 : Int32) (by decide) dX1_partsIn_54 ?_
  refine g_istore [(8, .int (0 : Int32)), (7, .int (1 : Int32)), (6, .int (jmin (384 : Int32) (((fX4_everyone (pL q5 31 p1.toNatClampNeg (1000000000000 : Int64))) + (1 : Int32)) * (6 : Int32)))), (5, .ref (eB E + 32)), (4, .ref (eB E + 31)), (0, .ref (eB E + 25)), (1, .int p1), (2, .int p2), (3, .int p3)] (by decide) rfl dX1_partsIn_55 ?_
  refine g_lvs [5, 7, 8, 4, 3, 2, 1, 0] rfl ?_
  exact wX1_partsIn_b57 B  FU p2 p3 31 32 (jmin (384 : Int32) (((fX4_everyone (pL q5 31 p1.toNatClampNeg (1000000000000 : Int64))) + (1 : Int32)) * (6 : Int32))) (1 : Int32) (0 : Int32) (pL q5 31 p1.toNatClampNeg (1000000000000 : Int64)) lo_31 lo_32 hf
theorem kX1_partsIn {l : Launch} {E : Ev} {st : St} {p1 : Int32} {p2 : Int32} {p3 : Int32} {r0 : Int64} {u0 : St}  (hf : fX1_partsIn p1 p2 p3 st = some (r0, u0)) : CM l E WT yX1_partsIn cX1_partsIn 11 (some FieldType.long) 8 0 0 [.ref (eB E + 25), .int p1, .int p2, .int p3] st (some (.long r0)) u0 :=
  CM.intro mok_X1_partsIn (Nat.le_of_ble_eq_true rfl) (fun x hl hR ht hr hQ _ => wX1_partsIn ⟨hR, ht, hr, hQ⟩ p1 p2 p3 st hf)
def fX1_digit_b17 (st : St)  : Nat → Int32 → Int32 → Int32 → Option Int32
  | 0, _, _, _ => none
  | n + 1, l2, l3, l4 => if l2 ≤ l4 then (chk (nz (sI st 1 6)) (some (jrem l3 (sI st 1 6)))) else (chk (nz (sI st 1 6)) (fX1_digit_b17 st n l2 (l3 / (sI st 1 6)) (l4 + (1 : Int32))))
set_option maxHeartbeats 1000000 in
set_option maxRecDepth 20000 in
theorem wX1_digit_b17 {E : Ev} {x : Cx} {r0 : Int32} {st : St} (B : Bd E x (some FieldType.int) (0) 0 0 (some (.int r0)) st) : ∀ (n : Nat) (l2 : Int32) (l3 : Int32) (l4 : Int32) , fX1_digit_b17 st n l2 l3 l4 = some r0 → G E WT x RX1 cX1_digit 5 (0, 0) st 17 [(0, .ref (eB E + 25)), (2, .int l2), (3, .int l3), (4, .int l4)] [] := by
  intro n
  induction n with
  | zero =>
    intros
    rename_i hf
    rw [fX1_digit_b17] at hf
    cases hf
  | succ n ih =>
    intro l2 l3 l4 hf
    rw [fX1_digit_b17] at hf
    refine g_iload 3 rfl dX1_digit_17 ?_
    refine g_iload_n rfl 1 rfl dX1_digit_19 ?_
    refine g_icmp_ge 39 (by decide) dX1_digit_20 (fun h1 => ?_) (fun h1 => ?_)
    · rw [if_pos h1] at hf
      refine g_iload_n rfl 2 rfl dX1_digit_39 ?_
      refine g_aload_n rfl 0 rfl dX1_digit_40 ?_
      refine g_get (j := 0) cok1 (by decide) (.ref (eB E + 1)) (Or.inl tw1_235) oS25 vS25_0 dX1_digit_41 ?_
      refine g_get (j := 6) cok4 (by decide) (.int (sI st 1 6)) (Or.inr nf_18) oS1 (fun _ => rfl) dX1_digit_44 ?_
      obtain ⟨h2, hf⟩ := chk_some hf
      refine g_irem (nz_ne h2) dX1_digit_47 ?_
      exact g_iret B.2.2.2 B.2.2.1 (congrArg (fun z => some (Value.int z)) (Option.some.inj hf).symm) rfl dX1_digit_48
    · rw [if_neg h1] at hf
      refine g_iload_n rfl 2 rfl dX1_digit_23 ?_
      refine g_aload_n rfl 0 rfl dX1_digit_24 ?_
      refine g_get (j := 0) cok1 (by decide) (.ref (eB E + 1)) (Or.inl tw1_235) oS25 vS25_0 dX1_digit_25 ?_
      refine g_get (j := 6) cok4 (by decide) (.int (sI st 1 6)) (Or.inr nf_18) oS1 (fun _ => rfl) dX1_digit_28 ?_
      obtain ⟨h3, hf⟩ := chk_some hf
      refine g_idiv (nz_ne h3) dX1_digit_31 ?_
      refine g_istore_n rfl [(3, .int (l3 / (sI st 1 6))), (0, .ref (eB E + 25)), (2, .int l2), (4, .int l4)] (by decide) rfl dX1_digit_32 ?_
      refine g_iinc (l4 + (1 : Int32)) [(4, .int (l4 + (1 : Int32))), (3, .int (l3 / (sI st 1 6))), (0, .ref (eB E + 25)), (2, .int l2)] 3 rfl (congrArg (fun z => l4 + z) (show Int32.ofInt (1) = (1 : Int32) by decide)) (by decide) rfl dX1_digit_33 ?_
      refine g_goto 17 (by decide) dX1_digit_36 ?_
      refine g_lvs [2, 3, 1, 0] rfl ?_
      exact ih l2 (l3 / (sI st 1 6)) (l4 + (1 : Int32)) hf
def fX1_digit (st : St) (p1 : Int32) (p2 : Int32) : Option Int32 :=
  if (sI st 1 6) = 0 then (some (0 : Int32)) else (fX1_digit_b17 st FU p2 p1 (0 : Int32))
set_option maxHeartbeats 1000000 in
set_option maxRecDepth 20000 in
theorem wX1_digit {E : Ev} {x : Cx} {r0 : Int32} {st : St} (B : Bd E x (some FieldType.int) (0) 0 0 (some (.int r0)) st) (p1 : Int32) (p2 : Int32)  (hf : fX1_digit st p1 p2 = some r0) : G E WT x RX1 cX1_digit 5 (0, 0) st 0 [(0, .ref (eB E + 25)), (1, .int p1), (2, .int p2)] [] := by
  unfold fX1_digit at hf
  refine g_aload_n rfl 0 rfl dX1_digit_0 ?_
  refine g_get (j := 0) cok1 (by decide) (.ref (eB E + 1)) (Or.inl tw1_235) oS25 vS25_0 dX1_digit_1 ?_
  refine g_get (j := 6) cok4 (by decide) (.int (sI st 1 6)) (Or.inr nf_18) oS1 (fun _ => rfl) dX1_digit_4 ?_
  refine g_if_ne 12 (by decide) dX1_digit_7 (fun h1 => ?_) (fun h1 => ?_)
  · rw [if_neg h1] at hf
    refine g_iload_n rfl 1 rfl dX1_digit_12 ?_
    refine g_istore_n rfl [(3, .int p1), (0, .ref (eB E + 25)), (1, .int p1), (2, .int p2)] (by decide) rfl dX1_digit_13 ?_
    refine g_iconst (0 : Int32) (by decide) dX1_digit_14 ?_
    refine g_istore [(4, .int (0 : Int32)), (3, .int p1), (0, .ref (eB E + 25)), (1, .int p1), (2, .int p2)] (by decide) rfl dX1_digit_15 ?_
    refine g_lvs [2, 4, 1, 0] rfl ?_
    exact wX1_digit_b17 B  FU p2 p1 (0 : Int32) hf
  · rw [if_pos h1] at hf
    refine g_iconst (0 : Int32) (by decide) dX1_digit_10 ?_
    exact g_iret B.2.2.2 B.2.2.1 (congrArg (fun z => some (Value.int z)) (Option.some.inj hf).symm) rfl dX1_digit_11
theorem kX1_digit {l : Launch} {E : Ev} {st : St} {p1 : Int32} {p2 : Int32} {r0 : Int32}  (hf : fX1_digit st p1 p2 = some r0) : CM l E WT yX1_digit cX1_digit 5 (some FieldType.int) 0 0 0 [.ref (eB E + 25), .int p1, .int p2] st (some (.int r0)) st :=
  CM.intro mok_X1_digit (Nat.le_of_ble_eq_true rfl) (fun x hl hR ht hr hQ _ => wX1_digit ⟨hR, ht, hr, hQ⟩ p1 p2 hf)
def fX1_leadsHere_b16 : Nat → Int32 → Int32 → Int32 → St → Option (Int32 × St)
  | 0, _, _, _, _ => none
  | n + 1, l1, l3, l4, st => if l4 < 0 then (if l3 = (((sI st 1 5) * (6 : Int32)) + (sI st 5 1)) then (some ((1 : Int32), st)) else (some ((0 : Int32), st))) else (if (fX1_goesOn l3) = 0 then (some ((0 : Int32), st)) else ((fX1_digit st l1 l4).bind (fun q4 => (fX6_after l3 q4 st).bind (fun q6 => fX1_leadsHere_b16 n l1 q6.1 (l4 + (-1 : Int32)) q6.2))))
set_option maxHeartbeats 1000000 in
set_option maxRecDepth 20000 in
theorem wX1_leadsHere_b16 {E : Ev} {x : Cx} {r0 : Int32} {u0 : St} (B : Bd E x (some FieldType.boolean) (7) 0 0 (some (.int r0)) u0) : ∀ (n : Nat) (l1 : Int32) (l3 : Int32) (l4 : Int32) (st : St) , fX1_leadsHere_b16 n l1 l3 l4 st = some (r0, u0) → G E WT x RX1 cX1_leadsHere 5 (0, 0) st 16 [(0, .ref (eB E + 25)), (1, .int l1), (3, .int l3), (4, .int l4)] [] := by
  intro n
  induction n with
  | zero =>
    intros
    rename_i hf
    rw [fX1_leadsHere_b16] at hf
    cases hf
  | succ n ih =>
    intro l1 l3 l4 st hf
    rw [fX1_leadsHere_b16] at hf
    refine g_iload 3 rfl dX1_leadsHere_16 ?_
    refine g_if_lt 52 (by decide) dX1_leadsHere_18 (fun h1 => ?_) (fun h1 => ?_)
    · rw [if_pos h1] at hf
      refine g_iload_n rfl 2 rfl dX1_leadsHere_52 ?_
      refine g_aload_n rfl 0 rfl dX1_leadsHere_53 ?_
      refine g_get (j := 0) cok1 (by decide) (.ref (eB E + 1)) (Or.inl tw1_235) oS25 vS25_0 dX1_leadsHere_54 ?_
      refine g_get (j := 5) cok4 (by decide) (.int (sI st 1 5)) (Or.inr nf_15) oS1 (fun _ => rfl) dX1_leadsHere_57 ?_
      refine g_bipush (6 : Int32) (by decide) dX1_leadsHere_60 ?_
      refine g_imul dX1_leadsHere_62 ?_
      refine g_aload_n rfl 0 rfl dX1_leadsHere_63 ?_
      refine g_get (j := 0) cok1 (by decide) (.ref (eB E + 1)) (Or.inl tw1_235) oS25 vS25_0 dX1_leadsHere_64 ?_
      refine g_get (j := 3) cok4 (by decide) (.ref (eB E + 5)) (Or.inr nf_9) oS1 vS1_3 dX1_leadsHere_67 ?_
      refine g_iconst (1 : Int32) (by decide) dX1_leadsHere_70 ?_
      refine g_ialdj 1 rfl aS5 (ixb_in rfl) dX1_leadsHere_71 ?_
      refine g_iadd dX1_leadsHere_72 ?_
      refine g_icmp_ne 80 (by decide) dX1_leadsHere_73 (fun h2 => ?_) (fun h2 => ?_)
      · rw [if_neg h2] at hf
        refine g_iconst (0 : Int32) (by decide) dX1_leadsHere_80 ?_
        exact g_zret B.2.2.2 B.2.2.1 (by decide) (congrArg (fun z => some (Value.int z)) (Prod.mk.inj (Option.some.inj hf)).1.symm) (Prod.mk.inj (Option.some.inj hf)).2.symm dX1_leadsHere_81
      · rw [if_pos h2] at hf
        refine g_iconst (1 : Int32) (by decide) dX1_leadsHere_76 ?_
        refine g_goto 81 (by decide) dX1_leadsHere_77 ?_
        exact g_zret B.2.2.2 B.2.2.1 (by decide) (congrArg (fun z => some (Value.int z)) (Prod.mk.inj (Option.some.inj hf)).1.symm) (Prod.mk.inj (Option.some.inj hf)).2.symm dX1_leadsHere_81
    · rw [if_neg h1] at hf
      refine g_iload_n rfl 2 rfl dX1_leadsHere_21 ?_
      refine g_callS0i (As := [.int l3]) (rest := []) mok_X1_goesOn tw4_23 tw4_24 B.1 (by decide) (kX1_goesOn  rfl) rfl rfl (Nat.le_of_ble_eq_true rfl) ⟨Nat.le_refl _, Nat.le_refl _⟩ dX1_leadsHere_22 ?_
      refine g_if_ne 30 (by decide) dX1_leadsHere_25 (fun h3 => ?_) (fun h3 => ?_)
      · rw [if_neg h3] at hf
        refine g_aload_n rfl 0 rfl dX1_leadsHere_30 ?_
        refine g_get (j := 1) cok1 (by decide) (.ref (eB E + 19)) (Or.inl tw1_236) oS25 vS25_1 dX1_leadsHere_31 ?_
        refine g_iload_n rfl 2 rfl dX1_leadsHere_34 ?_
        refine g_aload_n rfl 0 rfl dX1_leadsHere_35 ?_
        refine g_iload_n rfl 1 rfl dX1_leadsHere_36 ?_
        refine g_iload 3 rfl dX1_leadsHere_37 ?_
        obtain ⟨q4, h5, hf⟩ := bnd_some hf
        refine g_callV0i (As := [.int l1, .int l4]) (rest := [.int l3, .ref (eB E + 19)]) cok1 mok_X1_digit tw4_106 tw4_108 ts4_14 oS25 B.1 (by decide) (kX1_digit  h5) rfl rfl (Nat.le_of_ble_eq_true rfl) ⟨Nat.le_refl _, Nat.le_refl _⟩ dX1_leadsHere_39 ?_
        obtain ⟨q6, h7, hf⟩ := bnd_some hf
        refine g_callVN0i (As := [.int l3, .int q4]) (rest := []) cok6 mok_X6_after nmm_40 tw4_29 ts4_4 oS19 B.1 (by decide) (kX6_after  h7) rfl rfl (Nat.le_of_ble_eq_true rfl) ⟨Nat.le_refl _, Nat.le_refl _⟩ dX1_leadsHere_42 ?_
        refine g_istore_n rfl [(3, .int q6.1), (0, .ref (eB E + 25)), (1, .int l1), (4, .int l4)] (by decide) rfl dX1_leadsHere_45 ?_
        refine g_iinc (l4 + (-1 : Int32)) [(4, .int (l4 + (-1 : Int32))), (3, .int q6.1), (0, .ref (eB E + 25)), (1, .int l1)] 3 rfl (congrArg (fun z => l4 + z) (show Int32.ofInt (-1) = (-1 : Int32) by decide)) (by decide) rfl dX1_leadsHere_46 ?_
        refine g_goto 16 (by decide) dX1_leadsHere_49 ?_
        refine g_lvs [2, 3, 1, 0] rfl ?_
        exact ih l1 q6.1 (l4 + (-1 : Int32)) q6.2 hf
      · rw [if_pos h3] at hf
        refine g_iconst (0 : Int32) (by decide) dX1_leadsHere_28 ?_
        exact g_zret B.2.2.2 B.2.2.1 (by decide) (congrArg (fun z => some (Value.int z)) (Prod.mk.inj (Option.some.inj hf)).1.symm) (Prod.mk.inj (Option.some.inj hf)).2.symm dX1_leadsHere_29
def fX1_leadsHere (p1 : Int32) (p2 : Int32) (st : St) : Option (Int32 × St) :=
  fX1_leadsHere_b16 FU p1 ((fX4_everyone st) * (6 : Int32)) (p2 - (1 : Int32)) st
set_option maxHeartbeats 1000000 in
set_option maxRecDepth 20000 in
theorem wX1_leadsHere {E : Ev} {x : Cx} {r0 : Int32} {u0 : St} (B : Bd E x (some FieldType.boolean) (7) 0 0 (some (.int r0)) u0) (p1 : Int32) (p2 : Int32) (st : St)  (hf : fX1_leadsHere p1 p2 st = some (r0, u0)) : G E WT x RX1 cX1_leadsHere 5 (0, 0) st 0 [(0, .ref (eB E + 25)), (1, .int p1), (2, .int p2)] [] := by
  unfold fX1_leadsHere at hf
  refine g_aload_n rfl 0 rfl dX1_leadsHere_0 ?_
  refine g_get (j := 0) cok1 (by decide) (.ref (eB E + 1)) (Or.inl tw1_235) oS25 vS25_0 dX1_leadsHere_1 ?_
  refine g_callVN0i (As := []) (rest := []) cok4 mok_X4_everyone nmm_47 tw3_198 ts3_14 oS1 B.1 (by decide) (kX4_everyone  rfl) rfl rfl (Nat.le_of_ble_eq_true rfl) ⟨Nat.le_refl _, Nat.le_refl _⟩ dX1_leadsHere_4 ?_
  refine g_bipush (6 : Int32) (by decide) dX1_leadsHere_7 ?_
  refine g_imul dX1_leadsHere_9 ?_
  refine g_istore_n rfl [(3, .int ((fX4_everyone st) * (6 : Int32))), (0, .ref (eB E + 25)), (1, .int p1), (2, .int p2)] (by decide) rfl dX1_leadsHere_10 ?_
  refine g_iload_n rfl 3 rfl dX1_leadsHere_11 ?_
  refine g_iconst (1 : Int32) (by decide) dX1_leadsHere_12 ?_
  refine g_isub dX1_leadsHere_13 ?_
  refine g_istore [(4, .int (p2 - (1 : Int32))), (3, .int ((fX4_everyone st) * (6 : Int32))), (0, .ref (eB E + 25)), (1, .int p1), (2, .int p2)] (by decide) rfl dX1_leadsHere_14 ?_
  refine g_lvs [2, 3, 1, 0] rfl ?_
  exact wX1_leadsHere_b16 B  FU p1 ((fX4_everyone st) * (6 : Int32)) (p2 - (1 : Int32)) st hf
theorem kX1_leadsHere {l : Launch} {E : Ev} {st : St} {p1 : Int32} {p2 : Int32} {r0 : Int32} {u0 : St}  (hf : fX1_leadsHere p1 p2 st = some (r0, u0)) : CM l E WT yX1_leadsHere cX1_leadsHere 5 (some FieldType.boolean) 7 0 0 [.ref (eB E + 25), .int p1, .int p2] st (some (.int r0)) u0 :=
  CM.intro mok_X1_leadsHere (Nat.le_of_ble_eq_true rfl) (fun x hl hR ht hr hQ _ => wX1_leadsHere ⟨hR, ht, hr, hQ⟩ p1 p2 st hf)
def fX1_rowsSaid_b61 (k33 : Int32 → Int32 → Int32 → Int32 → Int32 → St → Option (Int32 × St))(l1 : Int32) (l2 : Int32) (l3 : Int32) (l4 : Int32) (l5 : Int32) (st : St) : Option (Int32 × St) :=
  k33 l1 l2 l3 l4 (l5 + (1 : Int32)) st
set_option maxHeartbeats 1000000 in
set_option maxRecDepth 20000 in
theorem wX1_rowsSaid_b61 {E : Ev} {x : Cx} {r0 : Int32} {u0 : St} (B : Bd E x (some FieldType.int) (8) 0 0 (some (.int r0)) u0) {k33 : Int32 → Int32 → Int32 → Int32 → Int32 → St → Option (Int32 × St)} (hk33 : ∀ (l1 : Int32) (l2 : Int32) (l3 : Int32) (l4 : Int32) (l5 : Int32) (st : St), k33 l1 l2 l3 l4 l5 st = some (r0, u0) → G E WT x RX1 cX1_rowsSaid 6 (0, 0) st 33 [(0, .ref (eB E + 25)), (1, .int l1), (2, .int l2), (3, .int l3), (4, .int l4), (5, .int l5)] []) (l1 : Int32) (l2 : Int32) (l3 : Int32) (l4 : Int32) (l5 : Int32) (st : St)  (hf : fX1_rowsSaid_b61 k33 l1 l2 l3 l4 l5 st = some (r0, u0)) : G E WT x RX1 cX1_rowsSaid 6 (0, 0) st 61 [(0, .ref (eB E + 25)), (1, .int l1), (2, .int l2), (3, .int l3), (4, .int l4), (5, .int l5)] [] := by
  unfold fX1_rowsSaid_b61 at hf
  refine g_iinc (l5 + (1 : Int32)) [(5, .int (l5 + (1 : Int32))), (0, .ref (eB E + 25)), (1, .int l1), (2, .int l2), (3, .int l3), (4, .int l4)] 5 rfl (congrArg (fun z => l5 + z) (show Int32.ofInt (1) = (1 : Int32) by decide)) (by decide) rfl dX1_rowsSaid_61 ?_
  refine g_goto 33 (by decide) dX1_rowsSaid_64 ?_
  refine g_lvs [1, 2, 3, 4, 5, 0] rfl ?_
  exact hk33 l1 l2 l3 l4 (l5 + (1 : Int32)) st hf
def fX1_rowsSaid_b33 : Nat → Int32 → Int32 → Int32 → Int32 → Int32 → St → Option (Int32 × St)
  | 0, _, _, _, _, _, _ => none
  | n + 1, l1, l2, l3, l4, l5, st => if l3 ≤ l5 then (if l2 = (-1 : Int32) then (some (l4, st)) else (some ((-1 : Int32), st))) else ((fX1_leadsHere l5 l1 st).bind (fun q3 => if q3.1 = 0 then (fX1_rowsSaid_b61 (fun zl1 zl2 zl3 zl4 zl5 zst => fX1_rowsSaid_b33 n zl1 zl2 zl3 zl4 zl5 zst) l1 l2 l3 l4 l5 q3.2) else (if l4 = l2 then (some (l5, q3.2)) else (fX1_rowsSaid_b61 (fun zl1 zl2 zl3 zl4 zl5 zst => fX1_rowsSaid_b33 n zl1 zl2 zl3 zl4 zl5 zst) l1 l2 l3 (l4 + (1 : Int32)) l5 q3.2))))
set_option maxHeartbeats 1000000 in
set_option maxRecDepth 20000 in
theorem wX1_rowsSaid_b33 {E : Ev} {x : Cx} {r0 : Int32} {u0 : St} (B : Bd E x (some FieldType.int) (8) 0 0 (some (.int r0)) u0) : ∀ (n : Nat) (l1 : Int32) (l2 : Int32) (l3 : Int32) (l4 : Int32) (l5 : Int32) (st : St) , fX1_rowsSaid_b33 n l1 l2 l3 l4 l5 st = some (r0, u0) → G E WT x RX1 cX1_rowsSaid 6 (0, 0) st 33 [(0, .ref (eB E + 25)), (1, .int l1), (2, .int l2), (3, .int l3), (4, .int l4), (5, .int l5)] [] := by
  intro n
  induction n with
  | zero =>
    intros
    rename_i hf
    rw [fX1_rowsSaid_b33] at hf
    cases hf
  | succ n ih =>
    intro l1 l2 l3 l4 l5 st hf
    rw [fX1_rowsSaid_b33] at hf
    refine g_iload 5 rfl dX1_rowsSaid_33 ?_
    refine g_iload_n rfl 3 rfl dX1_rowsSaid_35 ?_
    refine g_icmp_ge 67 (by decide) dX1_rowsSaid_36 (fun h1 => ?_) (fun h1 => ?_)
    · rw [if_pos h1] at hf
      refine g_iload_n rfl 2 rfl dX1_rowsSaid_67 ?_
      refine g_iconst (-1 : Int32) (by decide) dX1_rowsSaid_68 ?_
      refine g_icmp_ne 77 (by decide) dX1_rowsSaid_69 (fun h2 => ?_) (fun h2 => ?_)
      · rw [if_neg h2] at hf
        refine g_iconst (-1 : Int32) (by decide) dX1_rowsSaid_77 ?_
        exact g_iret B.2.2.2 B.2.2.1 (congrArg (fun z => some (Value.int z)) (Prod.mk.inj (Option.some.inj hf)).1.symm) (Prod.mk.inj (Option.some.inj hf)).2.symm dX1_rowsSaid_78
      · rw [if_pos h2] at hf
        refine g_iload 4 rfl dX1_rowsSaid_72 ?_
        refine g_goto 78 (by decide) dX1_rowsSaid_74 ?_
        exact g_iret B.2.2.2 B.2.2.1 (congrArg (fun z => some (Value.int z)) (Prod.mk.inj (Option.some.inj hf)).1.symm) (Prod.mk.inj (Option.some.inj hf)).2.symm dX1_rowsSaid_78
    · rw [if_neg h1] at hf
      refine g_aload_n rfl 0 rfl dX1_rowsSaid_39 ?_
      refine g_iload 5 rfl dX1_rowsSaid_40 ?_
      refine g_iload_n rfl 1 rfl dX1_rowsSaid_42 ?_
      obtain ⟨q3, h4, hf⟩ := bnd_some hf
      refine g_callV0i (As := [.int l5, .int l1]) (rest := []) cok1 mok_X1_leadsHere tw4_102 tw4_104 ts4_13 oS25 B.1 (by decide) (kX1_leadsHere  h4) rfl rfl (Nat.le_of_ble_eq_true rfl) ⟨Nat.le_refl _, Nat.le_refl _⟩ dX1_rowsSaid_43 ?_
      refine g_if_eq 61 (by decide) dX1_rowsSaid_46 (fun h5 => ?_) (fun h5 => ?_)
      · rw [if_pos h5] at hf
        refine g_lvs [0, 1, 2, 3, 4, 5] rfl ?_
        exact wX1_rowsSaid_b61 B ih l1 l2 l3 l4 l5 q3.2 hf
      · rw [if_neg h5] at hf
        refine g_iload 4 rfl dX1_rowsSaid_49 ?_
        refine g_iload_n rfl 2 rfl dX1_rowsSaid_51 ?_
        refine g_icmp_ne 58 (by decide) dX1_rowsSaid_52 (fun h6 => ?_) (fun h6 => ?_)
        · rw [if_neg h6] at hf
          refine g_iinc (l4 + (1 : Int32)) [(4, .int (l4 + (1 : Int32))), (0, .ref (eB E + 25)), (1, .int l1), (2, .int l2), (3, .int l3), (5, .int l5)] 4 rfl (congrArg (fun z => l4 + z) (show Int32.ofInt (1) = (1 : Int32) by decide)) (by decide) rfl dX1_rowsSaid_58 ?_
          refine g_lvs [1, 2, 3, 4, 0, 5] rfl ?_
          exact wX1_rowsSaid_b61 B ih l1 l2 l3 (l4 + (1 : Int32)) l5 q3.2 hf
        · rw [if_pos h6] at hf
          refine g_iload 5 rfl dX1_rowsSaid_55 ?_
          exact g_iret B.2.2.2 B.2.2.1 (congrArg (fun z => some (Value.int z)) (Prod.mk.inj (Option.some.inj hf)).1.symm) (Prod.mk.inj (Option.some.inj hf)).2.symm dX1_rowsSaid_57
def fX1_rowsSaid_b5 : Nat → Int32 → Int32 → Int32 → Int32 → St → Option (Int32 × St)
  | 0, _, _, _, _, _ => none
  | n + 1, l1, l2, l3, l4, st => if l1 ≤ l4 then (fX1_rowsSaid_b33 FU l1 l2 l3 (0 : Int32) (0 : Int32) st) else (fX1_rowsSaid_b5 n l1 l2 (l3 * (sI st 1 6)) (l4 + (1 : Int32)) st)
set_option maxHeartbeats 1000000 in
set_option maxRecDepth 20000 in
theorem wX1_rowsSaid_b5 {E : Ev} {x : Cx} {r0 : Int32} {u0 : St} (B : Bd E x (some FieldType.int) (8) 0 0 (some (.int r0)) u0) : ∀ (n : Nat) (l1 : Int32) (l2 : Int32) (l3 : Int32) (l4 : Int32) (st : St) , fX1_rowsSaid_b5 n l1 l2 l3 l4 st = some (r0, u0) → G E WT x RX1 cX1_rowsSaid 6 (0, 0) st 5 [(0, .ref (eB E + 25)), (1, .int l1), (2, .int l2), (3, .int l3), (4, .int l4)] [] := by
  intro n
  induction n with
  | zero =>
    intros
    rename_i hf
    rw [fX1_rowsSaid_b5] at hf
    cases hf
  | succ n ih =>
    intro l1 l2 l3 l4 st hf
    rw [fX1_rowsSaid_b5] at hf
    refine g_iload 4 rfl dX1_rowsSaid_5 ?_
    refine g_iload_n rfl 1 rfl dX1_rowsSaid_7 ?_
    refine g_icmp_ge 27 (by decide) dX1_rowsSaid_8 (fun h1 => ?_) (fun h1 => ?_)
    · rw [if_pos h1] at hf
      refine g_iconst (0 : Int32) (by decide) dX1_rowsSaid_27 ?_
      refine g_istore [(4, .int (0 : Int32)), (0, .ref (eB E + 25)), (1, .int l1), (2, .int l2), (3, .int l3)] (by decide) rfl dX1_rowsSaid_28 ?_
      refine g_iconst (0 : Int32) (by decide) dX1_rowsSaid_30 ?_
      refine g_istore [(5, .int (0 : Int32)), (4, .int (0 : Int32)), (0, .ref (eB E + 25)), (1, .int l1), (2, .int l2), (3, .int l3)] (by decide) rfl dX1_rowsSaid_31 ?_
      refine g_lvs [2, 3, 4, 5, 1, 0] rfl ?_
      exact wX1_rowsSaid_b33 B  FU l1 l2 l3 (0 : Int32) (0 : Int32) st hf
    · rw [if_neg h1] at hf
      refine g_iload_n rfl 3 rfl dX1_rowsSaid_11 ?_
      refine g_aload_n rfl 0 rfl dX1_rowsSaid_12 ?_
      refine g_get (j := 0) cok1 (by decide) (.ref (eB E + 1)) (Or.inl tw1_235) oS25 vS25_0 dX1_rowsSaid_13 ?_
      refine g_get (j := 6) cok4 (by decide) (.int (sI st 1 6)) (Or.inr nf_18) oS1 (fun _ => rfl) dX1_rowsSaid_16 ?_
      refine g_imul dX1_rowsSaid_19 ?_
      refine g_istore_n rfl [(3, .int (l3 * (sI st 1 6))), (0, .ref (eB E + 25)), (1, .int l1), (2, .int l2), (4, .int l4)] (by decide) rfl dX1_rowsSaid_20 ?_
      refine g_iinc (l4 + (1 : Int32)) [(4, .int (l4 + (1 : Int32))), (3, .int (l3 * (sI st 1 6))), (0, .ref (eB E + 25)), (1, .int l1), (2, .int l2)] 4 rfl (congrArg (fun z => l4 + z) (show Int32.ofInt (1) = (1 : Int32) by decide)) (by decide) rfl dX1_rowsSaid_21 ?_
      refine g_goto 5 (by decide) dX1_rowsSaid_24 ?_
      refine g_lvs [2, 3, 4, 1, 0] rfl ?_
      exact ih l1 l2 (l3 * (sI st 1 6)) (l4 + (1 : Int32)) st hf
def fX1_rowsSaid (p1 : Int32) (p2 : Int32) (st : St) : Option (Int32 × St) :=
  fX1_rowsSaid_b5 FU p1 p2 (1 : Int32) (0 : Int32) st
set_option maxHeartbeats 1000000 in
set_option maxRecDepth 20000 in
theorem wX1_rowsSaid {E : Ev} {x : Cx} {r0 : Int32} {u0 : St} (B : Bd E x (some FieldType.int) (8) 0 0 (some (.int r0)) u0) (p1 : Int32) (p2 : Int32) (st : St)  (hf : fX1_rowsSaid p1 p2 st = some (r0, u0)) : G E WT x RX1 cX1_rowsSaid 6 (0, 0) st 0 [(0, .ref (eB E + 25)), (1, .int p1), (2, .int p2)] [] := by
  unfold fX1_rowsSaid at hf
  refine g_iconst (1 : Int32) (by decide) dX1_rowsSaid_0 ?_
  refine g_istore_n rfl [(3, .int (1 : Int32)), (0, .ref (eB E + 25)), (1, .int p1), (2, .int p2)] (by decide) rfl dX1_rowsSaid_1 ?_
  refine g_iconst (0 : Int32) (by decide) dX1_rowsSaid_2 ?_
  refine g_istore [(4, .int (0 : Int32)), (3, .int (1 : Int32)), (0, .ref (eB E + 25)), (1, .int p1), (2, .int p2)] (by decide) rfl dX1_rowsSaid_3 ?_
  refine g_lvs [2, 3, 4, 1, 0] rfl ?_
  exact wX1_rowsSaid_b5 B  FU p1 p2 (1 : Int32) (0 : Int32) st hf
theorem kX1_rowsSaid {l : Launch} {E : Ev} {st : St} {p1 : Int32} {p2 : Int32} {r0 : Int32} {u0 : St}  (hf : fX1_rowsSaid p1 p2 st = some (r0, u0)) : CM l E WT yX1_rowsSaid cX1_rowsSaid 6 (some FieldType.int) 8 0 0 [.ref (eB E + 25), .int p1, .int p2] st (some (.int r0)) u0 :=
  CM.intro mok_X1_rowsSaid (Nat.le_of_ble_eq_true rfl) (fun x hl hR ht hr hQ _ => wX1_rowsSaid ⟨hR, ht, hr, hQ⟩ p1 p2 st hf)
def fX2_forget  (st : St) : Option St :=
  some (pI st 15 1 (0 : Int32))
set_option maxHeartbeats 1000000 in
set_option maxRecDepth 20000 in
theorem wX2_forget {E : Ev} {x : Cx} {u0 : St} (B : Bd E x none (0) 0 0 none u0)  (st : St)  (hf : fX2_forget st = some u0) : G E WT x RX2 cX2_forget 1 (0, 0) st 0 [(0, .ref (eB E + 15))] [] := by
  unfold fX2_forget at hf
  refine g_aload_n rfl 0 rfl dX2_forget_0 ?_
  refine g_iconst (0 : Int32) (by decide) dX2_forget_1 ?_
  refine g_putI (j := 1) cok2 (by decide) rfl rfl rfl rfl (Or.inl tw1_180) oS15 B.2.1 wpI dX2_forget_2 ?_
  exact g_ret B.2.2.2 B.2.2.1 rfl (Option.some.inj hf).symm dX2_forget_5
theorem kX2_forget {l : Launch} {E : Ev} {st : St}  {u0 : St}  (hf : fX2_forget st = some u0) : CM l E WT yX2_forget cX2_forget 1 none 0 0 0 [.ref (eB E + 15)] st none u0 :=
  CM.intro mok_X2_forget (Nat.le_of_ble_eq_true rfl) (fun x hl hR ht hr hQ _ => wX2_forget ⟨hR, ht, hr, hQ⟩ st hf)
def fX2_becomes (t : Nat) (o : Nat) (st : St) : Option St :=
  some (pI (rI st (t + 1) (va_cpy (sI st (o + 1)) (sI st (t + 1)) (0 : Int32).toNatClampNeg (0 : Int32).toNatClampNeg (16 : Int32).toNatClampNeg)) t 1 (sI (rI st (t + 1) (va_cpy (sI st (o + 1)) (sI st (t + 1)) (0 : Int32).toNatClampNeg (0 : Int32).toNatClampNeg (16 : Int32).toNatClampNeg)) o 1))
set_option maxHeartbeats 1000000 in
set_option maxRecDepth 20000 in
theorem wX2_becomes {E : Ev} {x : Cx} {u0 : St} (B : Bd E x none (4) 0 0 none u0) (t : Nat) (o : Nat) (st : St) (h_t : Obj st 2 t) (h_o : Obj st 2 o) (hf : fX2_becomes t o st = some u0) : G E WT x RX2 cX2_becomes 2 (0, 0) st 0 [(0, .ref (eB E + t)), (1, .ref (eB E + o))] [] := by
  unfold fX2_becomes at hf
  refine g_aload_n rfl 1 rfl dX2_becomes_0 ?_
  refine g_get (j := 0) cok2 (by decide) (.ref (eB E + (o + 1))) (Or.inl tw1_179) (fun _ => h_o) (fun w => slot_ref rfl (WT.past w h_o).1) dX2_becomes_1 ?_
  refine g_iconst (0 : Int32) (by decide) dX2_becomes_4 ?_
  refine g_aload_n rfl 0 rfl dX2_becomes_5 ?_
  refine g_get (j := 0) cok2 (by decide) (.ref (eB E + (t + 1))) (Or.inl tw1_179) (fun _ => h_t) (fun w => slot_ref rfl (WT.past w h_t).1) dX2_becomes_6 ?_
  refine g_iconst (0 : Int32) (by decide) dX2_becomes_9 ?_
  refine g_bipush (16 : Int32) (by decide) dX2_becomes_10 ?_
  refine g_copy (rest := []) tw3_142 (fun w => (WT.past w h_o).2) (fun w => (WT.past w h_t).2) B.1 (by decide) (Nat.le_of_ble_eq_true rfl) B.2.1 rfl wrI dX2_becomes_12 ?_
  refine g_aload_n rfl 0 rfl dX2_becomes_15 ?_
  refine g_aload_n rfl 1 rfl dX2_becomes_16 ?_
  refine g_get (j := 1) cok2 (by decide) (.int (sI (rI st (t + 1) (va_cpy (sI st (o + 1)) (sI st (t + 1)) (0 : Int32).toNatClampNeg (0 : Int32).toNatClampNeg (16 : Int32).toNatClampNeg)) o 1)) (Or.inl tw1_180) (fun _ => h_o) (fun _ => rfl) dX2_becomes_17 ?_
  refine g_putI (j := 1) cok2 (by decide) rfl rfl rfl rfl (Or.inl tw1_180) (fun _ => h_t) B.2.1 wpI dX2_becomes_20 ?_
  exact g_ret B.2.2.2 B.2.2.1 rfl (Option.some.inj hf).symm dX2_becomes_23
theorem kX2_becomes {l : Launch} {E : Ev} {st : St} {t : Nat} {o : Nat} {u0 : St} (h_t : Obj st 2 t) (h_o : Obj st 2 o) (hf : fX2_becomes t o st = some u0) : CM l E WT yX2_becomes cX2_becomes 2 none 4 0 0 [.ref (eB E + t), .ref (eB E + o)] st none u0 :=
  CM.intro mok_X2_becomes (Nat.le_of_ble_eq_true rfl) (fun x hl hR ht hr hQ _ => wX2_becomes ⟨hR, ht, hr, hQ⟩ t o st h_t h_o hf)
def fX2_keep_b30 (l1 : Int32) (st : St) : Option St :=
  chk (ixb (sI st 15 1) 16) (some (pI (pI st 16 ((sI st 15 1).toNatClampNeg) (((((sI st 5 0) * (384 : Int32)) + (((sI st 1 5) * (6 : Int32)) + (sI st 5 1))) * (4 : Int32)) + l1)) 15 1 ((sI (pI st 16 ((sI st 15 1).toNatClampNeg) (((((sI st 5 0) * (384 : Int32)) + (((sI st 1 5) * (6 : Int32)) + (sI st 5 1))) * (4 : Int32)) + l1)) 15 1) + (1 : Int32))))
set_option maxHeartbeats 1000000 in
set_option maxRecDepth 20000 in
theorem wX2_keep_b30 {E : Ev} {x : Cx} {u0 : St} (B : Bd E x none (4) 0 0 none u0) (l1 : Int32) (st : St)  (hf : fX2_keep_b30 l1 st = some u0) : G E WT x RX2 cX2_keep 4 (0, 0) st 30 [(0, .ref (eB E + 15)), (1, .int l1), (2, .ref (eB E + 1))] [] := by
  unfold fX2_keep_b30 at hf
  refine g_aload_n rfl 2 rfl dX2_keep_30 ?_
  refine g_get (j := 5) cok4 (by decide) (.int (sI st 1 5)) (Or.inr nf_14) oS1 (fun _ => rfl) dX2_keep_31 ?_
  refine g_bipush (6 : Int32) (by decide) dX2_keep_34 ?_
  refine g_imul dX2_keep_36 ?_
  refine g_aload_n rfl 2 rfl dX2_keep_37 ?_
  refine g_get (j := 3) cok4 (by decide) (.ref (eB E + 5)) (Or.inr nf_7) oS1 vS1_3 dX2_keep_38 ?_
  refine g_iconst (1 : Int32) (by decide) dX2_keep_41 ?_
  refine g_ialdj 1 rfl aS5 (ixb_in rfl) dX2_keep_42 ?_
  refine g_iadd dX2_keep_43 ?_
  refine g_istore_n rfl [(3, .int (((sI st 1 5) * (6 : Int32)) + (sI st 5 1))), (0, .ref (eB E + 15)), (1, .int l1), (2, .ref (eB E + 1))] (by decide) rfl dX2_keep_44 ?_
  refine g_aload_n rfl 1 rfl dX2_keep_45 ?_
  refine g_get (j := 0) cok2 (by decide) (.ref (eB E + 16)) (Or.inl tw1_179) oS15 vS15_0 dX2_keep_46 ?_
  refine g_aload_n rfl 1 rfl dX2_keep_49 ?_
  refine g_get (j := 1) cok2 (by decide) (.int (sI st 15 1)) (Or.inl tw1_180) oS15 (fun _ => rfl) dX2_keep_50 ?_
  refine g_aload_n rfl 3 rfl dX2_keep_53 ?_
  refine g_get (j := 3) cok4 (by decide) (.ref (eB E + 5)) (Or.inr nf_7) oS1 vS1_3 dX2_keep_54 ?_
  refine g_iconst (0 : Int32) (by decide) dX2_keep_57 ?_
  refine g_ialdj 0 rfl aS5 (ixb_in rfl) dX2_keep_58 ?_
  refine g_sipush (384 : Int32) (by decide) dX2_keep_59 ?_
  refine g_imul dX2_keep_62 ?_
  refine g_iload_n rfl 0 rfl dX2_keep_63 ?_
  refine g_iadd dX2_keep_64 ?_
  refine g_iconst (4 : Int32) (by decide) dX2_keep_65 ?_
  refine g_imul dX2_keep_66 ?_
  refine g_iload_n rfl 2 rfl dX2_keep_67 ?_
  refine g_iadd dX2_keep_68 ?_
  obtain ⟨h1, hf⟩ := chk_some hf
  refine g_iastj ((sI st 15 1).toNatClampNeg) rfl aS16 (ixb_in h1) B.2.1 wpI dX2_keep_69 ?_
  refine g_aload_n rfl 1 rfl dX2_keep_70 ?_
  refine g_dup rfl dX2_keep_71 ?_
  refine g_get (j := 1) cok2 (by decide) (.int (sI (pI st 16 ((sI st 15 1).toNatClampNeg) (((((sI st 5 0) * (384 : Int32)) + (((sI st 1 5) * (6 : Int32)) + (sI st 5 1))) * (4 : Int32)) + l1)) 15 1)) (Or.inl tw1_180) oS15 (fun _ => rfl) dX2_keep_72 ?_
  refine g_iconst (1 : Int32) (by decide) dX2_keep_75 ?_
  refine g_iadd dX2_keep_76 ?_
  refine g_putI (j := 1) cok2 (by decide) rfl rfl rfl rfl (Or.inl tw1_180) oS15 B.2.1 wpI dX2_keep_77 ?_
  exact g_ret B.2.2.2 B.2.2.1 rfl (Option.some.inj hf).symm dX2_keep_80
def fX2_keep (p1 : Int32) (st : St) : Option St :=
  if (sI st 15 1) < (16 : Int32) then (fX2_keep_b30 p1 st) else (fX2_keep_b30 p1 (pI (rI st 16 (va_cpy (sI st 16) (sI st 16) (1 : Int32).toNatClampNeg (0 : Int32).toNatClampNeg (15 : Int32).toNatClampNeg)) 15 1 (15 : Int32)))
set_option maxHeartbeats 1000000 in
set_option maxRecDepth 20000 in
theorem wX2_keep {E : Ev} {x : Cx} {u0 : St} (B : Bd E x none (4) 0 0 none u0) (p1 : Int32) (st : St)  (hf : fX2_keep p1 st = some u0) : G E WT x RX2 cX2_keep 4 (0, 0) st 0 [(0, .ref (eB E + 15)), (1, .int p1), (2, .ref (eB E + 1))] [] := by
  unfold fX2_keep at hf
  refine g_aload_n rfl 0 rfl dX2_keep_0 ?_
  refine g_get (j := 1) cok2 (by decide) (.int (sI st 15 1)) (Or.inl tw1_180) oS15 (fun _ => rfl) dX2_keep_1 ?_
  refine g_bipush (16 : Int32) (by decide) dX2_keep_4 ?_
  refine g_icmp_lt 30 (by decide) dX2_keep_6 (fun h1 => ?_) (fun h1 => ?_)
  · rw [if_pos h1] at hf
    refine g_lvs [0, 1, 2] rfl ?_
    exact wX2_keep_b30 B  p1 st hf
  · rw [if_neg h1] at hf
    refine g_aload_n rfl 0 rfl dX2_keep_9 ?_
    refine g_get (j := 0) cok2 (by decide) (.ref (eB E + 16)) (Or.inl tw1_179) oS15 vS15_0 dX2_keep_10 ?_
    refine g_iconst (1 : Int32) (by decide) dX2_keep_13 ?_
    refine g_aload_n rfl 0 rfl dX2_keep_14 ?_
    refine g_get (j := 0) cok2 (by decide) (.ref (eB E + 16)) (Or.inl tw1_179) oS15 vS15_0 dX2_keep_15 ?_
    refine g_iconst (0 : Int32) (by decide) dX2_keep_18 ?_
    refine g_bipush (15 : Int32) (by decide) dX2_keep_19 ?_
    refine g_copy (rest := []) tw3_142 aS16 aS16 B.1 (by decide) (Nat.le_of_ble_eq_true rfl) B.2.1 rfl wrI dX2_keep_21 ?_
    refine g_aload_n rfl 0 rfl dX2_keep_24 ?_
    refine g_bipush (15 : Int32) (by decide) dX2_keep_25 ?_
    refine g_putI (j := 1) cok2 (by decide) rfl rfl rfl rfl (Or.inl tw1_180) oS15 B.2.1 wpI dX2_keep_27 ?_
    refine g_lvs [0, 1, 2] rfl ?_
    exact wX2_keep_b30 B  p1 (pI (rI st 16 (va_cpy (sI st 16) (sI st 16) (1 : Int32).toNatClampNeg (0 : Int32).toNatClampNeg (15 : Int32).toNatClampNeg)) 15 1 (15 : Int32)) hf
theorem kX2_keep {l : Launch} {E : Ev} {st : St} {p1 : Int32} {u0 : St}  (hf : fX2_keep p1 st = some u0) : CM l E WT yX2_keep cX2_keep 4 none 4 0 0 [.ref (eB E + 15), .int p1, .ref (eB E + 1)] st none u0 :=
  CM.intro mok_X2_keep (Nat.le_of_ble_eq_true rfl) (fun x hl hR ht hr hQ _ => wX2_keep ⟨hR, ht, hr, hQ⟩ p1 st hf)
def fX4_settle (p1 : Int32) (st : St) : Option St :=
  some (pI (pI st 1 5 (p1 / (6 : Int32))) 5 1 (jrem p1 (6 : Int32)))
set_option maxHeartbeats 1000000 in
set_option maxRecDepth 20000 in
theorem wX4_settle {E : Ev} {x : Cx} {u0 : St} (B : Bd E x none (0) 0 0 none u0) (p1 : Int32) (st : St)  (hf : fX4_settle p1 st = some u0) : G E WT x RX4 cX4_settle 2 (0, 0) st 0 [(0, .ref (eB E + 1)), (1, .int p1)] [] := by
  unfold fX4_settle at hf
  refine g_aload_n rfl 0 rfl dX4_settle_0 ?_
  refine g_iload_n rfl 1 rfl dX4_settle_1 ?_
  refine g_bipush (6 : Int32) (by decide) dX4_settle_2 ?_
  refine g_idiv (by decide) dX4_settle_4 ?_
  refine g_putI (j := 5) cok4 (by decide) rfl rfl rfl rfl (Or.inl tw1_52) oS1 B.2.1 wpI dX4_settle_5 ?_
  refine g_aload_n rfl 0 rfl dX4_settle_8 ?_
  refine g_get (j := 3) cok4 (by decide) (.ref (eB E + 5)) (Or.inl tw1_42) oS1 vS1_3 dX4_settle_9 ?_
  refine g_iconst (1 : Int32) (by decide) dX4_settle_12 ?_
  refine g_iload_n rfl 1 rfl dX4_settle_13 ?_
  refine g_bipush (6 : Int32) (by decide) dX4_settle_14 ?_
  refine g_irem (by decide) dX4_settle_16 ?_
  refine g_iastj 1 rfl aS5 (ixb_in rfl) B.2.1 wpI dX4_settle_17 ?_
  exact g_ret B.2.2.2 B.2.2.1 rfl (Option.some.inj hf).symm dX4_settle_18
theorem kX4_settle {l : Launch} {E : Ev} {st : St} {p1 : Int32} {u0 : St}  (hf : fX4_settle p1 st = some u0) : CM l E WT yX4_settle cX4_settle 2 none 0 0 0 [.ref (eB E + 1), .int p1] st none u0 :=
  CM.intro mok_X4_settle (Nat.le_of_ble_eq_true rfl) (fun x hl hR ht hr hQ _ => wX4_settle ⟨hR, ht, hr, hQ⟩ p1 st hf)
def fX2_takeBack  (st : St) : Option (Int32 × St) :=
  if (sI st 15 1) = 0 then (some ((-1 : Int32), st)) else (chk (ixb (sI (pI st 15 1 ((sI st 15 1) - (1 : Int32))) 15 1) 16) ((fX4_settle (jrem ((sI (pI st 15 1 ((sI st 15 1) - (1 : Int32))) 16 ((sI (pI st 15 1 ((sI st 15 1) - (1 : Int32))) 15 1).toNatClampNeg)) / (4 : Int32)) (384 : Int32)) (pI st 15 1 ((sI st 15 1) - (1 : Int32)))).bind (fun q3 => some (jrem (sI (pI st 15 1 ((sI st 15 1) - (1 : Int32))) 16 ((sI (pI st 15 1 ((sI st 15 1) - (1 : Int32))) 15 1).toNatClampNeg)) (4 : Int32), pI q3 5 0 (((sI (pI st 15 1 ((sI st 15 1) - (1 : Int32))) 16 ((sI (pI st 15 1 ((sI st 15 1) - (1 : Int32))) 15 1).toNatClampNeg)) / (4 : Int32)) / (384 : Int32))))))
set_option maxHeartbeats 1000000 in
set_option maxRecDepth 20000 in
theorem wX2_takeBack {E : Ev} {x : Cx} {r0 : Int32} {u0 : St} (B : Bd E x (some FieldType.int) (1) 0 0 (some (.int r0)) u0)  (st : St)  (hf : fX2_takeBack st = some (r0, u0)) : G E WT x RX2 cX2_takeBack 3 (0, 0) st 0 [(0, .ref (eB E + 15)), (1, .ref (eB E + 1))] [] := by
  unfold fX2_takeBack at hf
  refine g_aload_n rfl 0 rfl dX2_takeBack_0 ?_
  refine g_get (j := 1) cok2 (by decide) (.int (sI st 15 1)) (Or.inl tw1_180) oS15 (fun _ => rfl) dX2_takeBack_1 ?_
  refine g_if_ne 9 (by decide) dX2_takeBack_4 (fun h1 => ?_) (fun h1 => ?_)
  · rw [if_neg h1] at hf
    refine g_aload_n rfl 0 rfl dX2_takeBack_9 ?_
    refine g_dup rfl dX2_takeBack_10 ?_
    refine g_get (j := 1) cok2 (by decide) (.int (sI st 15 1)) (Or.inl tw1_180) oS15 (fun _ => rfl) dX2_takeBack_11 ?_
    refine g_iconst (1 : Int32) (by decide) dX2_takeBack_14 ?_
    refine g_isub dX2_takeBack_15 ?_
    refine g_putI (j := 1) cok2 (by decide) rfl rfl rfl rfl (Or.inl tw1_180) oS15 B.2.1 wpI dX2_takeBack_16 ?_
    refine g_aload_n rfl 0 rfl dX2_takeBack_19 ?_
    refine g_get (j := 0) cok2 (by decide) (.ref (eB E + 16)) (Or.inl tw1_179) oS15 vS15_0 dX2_takeBack_20 ?_
    refine g_aload_n rfl 0 rfl dX2_takeBack_23 ?_
    refine g_get (j := 1) cok2 (by decide) (.int (sI (pI st 15 1 ((sI st 15 1) - (1 : Int32))) 15 1)) (Or.inl tw1_180) oS15 (fun _ => rfl) dX2_takeBack_24 ?_
    obtain ⟨h2, hf⟩ := chk_some hf
    refine g_ialdj ((sI (pI st 15 1 ((sI st 15 1) - (1 : Int32))) 15 1).toNatClampNeg) rfl aS16 (ixb_in h2) dX2_takeBack_27 ?_
    refine g_istore_n rfl [(2, .int (sI (pI st 15 1 ((sI st 15 1) - (1 : Int32))) 16 ((sI (pI st 15 1 ((sI st 15 1) - (1 : Int32))) 15 1).toNatClampNeg))), (0, .ref (eB E + 15)), (1, .ref (eB E + 1))] (by decide) rfl dX2_takeBack_28 ?_
    refine g_aload_n rfl 2 rfl dX2_takeBack_29 ?_
    refine g_iload_n rfl 0 rfl dX2_takeBack_30 ?_
    refine g_iconst (4 : Int32) (by decide) dX2_takeBack_31 ?_
    refine g_idiv (by decide) dX2_takeBack_32 ?_
    refine g_sipush (384 : Int32) (by decide) dX2_takeBack_33 ?_
    refine g_irem (by decide) dX2_takeBack_36 ?_
    obtain ⟨q3, h4, hf⟩ := bnd_some hf
    refine g_callVN0v (As := [.int (jrem ((sI (pI st 15 1 ((sI st 15 1) - (1 : Int32))) 16 ((sI (pI st 15 1 ((sI st 15 1) - (1 : Int32))) 15 1).toNatClampNeg)) / (4 : Int32)) (384 : Int32))]) (rest := []) cok4 mok_X4_settle nmm_37 tw3_186 ts3_11 oS1 B.1 (by decide) (kX4_settle  h4) rfl rfl (Nat.le_of_ble_eq_true rfl) ⟨Nat.le_refl _, Nat.le_refl _⟩ dX2_takeBack_37 ?_
    refine g_aload_n rfl 2 rfl dX2_takeBack_40 ?_
    refine g_get (j := 3) cok4 (by decide) (.ref (eB E + 5)) (Or.inr nf_7) oS1 vS1_3 dX2_takeBack_41 ?_
    refine g_iconst (0 : Int32) (by decide) dX2_takeBack_44 ?_
    refine g_iload_n rfl 0 rfl dX2_takeBack_45 ?_
    refine g_iconst (4 : Int32) (by decide) dX2_takeBack_46 ?_
    refine g_idiv (by decide) dX2_takeBack_47 ?_
    refine g_sipush (384 : Int32) (by decide) dX2_takeBack_48 ?_
    refine g_idiv (by decide) dX2_takeBack_51 ?_
    refine g_iastj 0 rfl aS5 (ixb_in rfl) B.2.1 wpI dX2_takeBack_52 ?_
    refine g_iload_n rfl 0 rfl dX2_takeBack_53 ?_
    refine g_iconst (4 : Int32) (by decide) dX2_takeBack_54 ?_
    refine g_irem (by decide) dX2_takeBack_55 ?_
    exact g_iret B.2.2.2 B.2.2.1 (congrArg (fun z => some (Value.int z)) (Prod.mk.inj (Option.some.inj hf)).1.symm) (Prod.mk.inj (Option.some.inj hf)).2.symm dX2_takeBack_56
  · rw [if_pos h1] at hf
    refine g_iconst (-1 : Int32) (by decide) dX2_takeBack_7 ?_
    exact g_iret B.2.2.2 B.2.2.1 (congrArg (fun z => some (Value.int z)) (Prod.mk.inj (Option.some.inj hf)).1.symm) (Prod.mk.inj (Option.some.inj hf)).2.symm dX2_takeBack_8
theorem kX2_takeBack {l : Launch} {E : Ev} {st : St}  {r0 : Int32} {u0 : St}  (hf : fX2_takeBack st = some (r0, u0)) : CM l E WT yX2_takeBack cX2_takeBack 3 (some FieldType.int) 1 0 0 [.ref (eB E + 15), .ref (eB E + 1)] st (some (.int r0)) u0 :=
  CM.intro mok_X2_takeBack (Nat.le_of_ble_eq_true rfl) (fun x hl hR ht hr hQ _ => wX2_takeBack ⟨hR, ht, hr, hQ⟩ st hf)
def fX3_hasRoomFor (st : St) (p1 : Int32) : Int32 :=
  if (400 : Int32) < ((sI st 7 2) + p1) then ((0 : Int32)) else ((1 : Int32))
set_option maxHeartbeats 1000000 in
set_option maxRecDepth 20000 in
theorem wX3_hasRoomFor {E : Ev} {x : Cx} {r0 : Int32} {st : St} (B : Bd E x (some FieldType.boolean) (0) 0 0 (some (.int r0)) st) (p1 : Int32)  (hf : fX3_hasRoomFor st p1 = r0) : G E WT x RX3 cX3_hasRoomFor 2 (0, 0) st 0 [(0, .ref (eB E + 7)), (1, .int p1)] [] := by
  unfold fX3_hasRoomFor at hf
  refine g_aload_n rfl 0 rfl dX3_hasRoomFor_0 ?_
  refine g_get (j := 2) cok3 (by decide) (.int (sI st 7 2)) (Or.inl tw1_146) oS7 (fun _ => rfl) dX3_hasRoomFor_1 ?_
  refine g_iload_n rfl 1 rfl dX3_hasRoomFor_4 ?_
  refine g_iadd dX3_hasRoomFor_5 ?_
  refine g_sipush (400 : Int32) (by decide) dX3_hasRoomFor_6 ?_
  refine g_icmp_gt 16 (by decide) dX3_hasRoomFor_9 (fun h1 => ?_) (fun h1 => ?_)
  · rw [if_pos h1] at hf
    refine g_iconst (0 : Int32) (by decide) dX3_hasRoomFor_16 ?_
    exact g_zret B.2.2.2 B.2.2.1 (by decide) (congrArg (fun z => some (Value.int z)) hf.symm) rfl dX3_hasRoomFor_17
  · rw [if_neg h1] at hf
    refine g_iconst (1 : Int32) (by decide) dX3_hasRoomFor_12 ?_
    refine g_goto 17 (by decide) dX3_hasRoomFor_13 ?_
    exact g_zret B.2.2.2 B.2.2.1 (by decide) (congrArg (fun z => some (Value.int z)) hf.symm) rfl dX3_hasRoomFor_17
theorem kX3_hasRoomFor {l : Launch} {E : Ev} {st : St} {p1 : Int32} {r0 : Int32}  (hf : fX3_hasRoomFor st p1 = r0) : CM l E WT yX3_hasRoomFor cX3_hasRoomFor 2 (some FieldType.boolean) 0 0 0 [.ref (eB E + 7), .int p1] st (some (.int r0)) st :=
  CM.intro mok_X3_hasRoomFor (Nat.le_of_ble_eq_true rfl) (fun x hl hR ht hr hQ _ => wX3_hasRoomFor ⟨hR, ht, hr, hQ⟩ p1 hf)
theorem fX3_hasRoomFor_b (st : St) (p1 : Int32) : isb (fX3_hasRoomFor st p1) = true := by
  unfold fX3_hasRoomFor
  (repeat' split) <;> first | rfl | exact fX8_lies_b _ _ _
def fX3_append_b3 : Nat → Int32 → Int32 → St → Option St
  | 0, _, _, _ => none
  | n + 1, l1, l2, st => if l2 < 0 then (some st) else (if (400 : Int32) ≤ (sI st 7 2) then (some st) else (chk (ixb (sI st 7 2) 400) (fX3_append_b3 n l1 (l2 + (-8 : Int32)) (pI (pI st 8 ((sI st 7 2).toNatClampNeg) (vp_nar .byte (i2b (jshr l1 l2)))) 7 2 ((sI (pI st 8 ((sI st 7 2).toNatClampNeg) (vp_nar .byte (i2b (jshr l1 l2)))) 7 2) + (1 : Int32))))))
set_option maxHeartbeats 1000000 in
set_option maxRecDepth 20000 in
theorem wX3_append_b3 {E : Ev} {x : Cx} {u0 : St} (B : Bd E x none (0) 0 0 none u0) : ∀ (n : Nat) (l1 : Int32) (l2 : Int32) (st : St) , fX3_append_b3 n l1 l2 st = some u0 → G E WT x RX3 cX3_append 3 (0, 0) st 3 [(0, .ref (eB E + 7)), (1, .int l1), (2, .int l2)] [] := by
  intro n
  induction n with
  | zero =>
    intros
    rename_i hf
    rw [fX3_append_b3] at hf
    cases hf
  | succ n ih =>
    intro l1 l2 st hf
    rw [fX3_append_b3] at hf
    refine g_iload_n rfl 2 rfl dX3_append_3 ?_
    refine g_if_lt 46 (by decide) dX3_append_4 (fun h1 => ?_) (fun h1 => ?_)
    · rw [if_pos h1] at hf
      exact g_ret B.2.2.2 B.2.2.1 rfl (Option.some.inj hf).symm dX3_append_46
    · rw [if_neg h1] at hf
      refine g_aload_n rfl 0 rfl dX3_append_7 ?_
      refine g_get (j := 2) cok3 (by decide) (.int (sI st 7 2)) (Or.inl tw1_146) oS7 (fun _ => rfl) dX3_append_8 ?_
      refine g_sipush (400 : Int32) (by decide) dX3_append_11 ?_
      refine g_icmp_ge 46 (by decide) dX3_append_14 (fun h2 => ?_) (fun h2 => ?_)
      · rw [if_pos h2] at hf
        exact g_ret B.2.2.2 B.2.2.1 rfl (Option.some.inj hf).symm dX3_append_46
      · rw [if_neg h2] at hf
        refine g_aload_n rfl 0 rfl dX3_append_17 ?_
        refine g_get (j := 0) cok3 (by decide) (.ref (eB E + 8)) (Or.inl tw1_142) oS7 vS7_0 dX3_append_18 ?_
        refine g_aload_n rfl 0 rfl dX3_append_21 ?_
        refine g_get (j := 2) cok3 (by decide) (.int (sI st 7 2)) (Or.inl tw1_146) oS7 (fun _ => rfl) dX3_append_22 ?_
        refine g_iload_n rfl 1 rfl dX3_append_25 ?_
        refine g_iload_n rfl 2 rfl dX3_append_26 ?_
        refine g_ishr dX3_append_27 ?_
        refine g_i2b dX3_append_28 ?_
        obtain ⟨h3, hf⟩ := chk_some hf
        refine g_bastj ((sI st 7 2).toNatClampNeg) rfl aS8 (ixb_in h3) B.2.1 wpI dX3_append_29 ?_
        refine g_aload_n rfl 0 rfl dX3_append_30 ?_
        refine g_dup rfl dX3_append_31 ?_
        refine g_get (j := 2) cok3 (by decide) (.int (sI (pI st 8 ((sI st 7 2).toNatClampNeg) (vp_nar .byte (i2b (jshr l1 l2)))) 7 2)) (Or.inl tw1_146) oS7 (fun _ => rfl) dX3_append_32 ?_
        refine g_iconst (1 : Int32) (by decide) dX3_append_35 ?_
        refine g_iadd dX3_append_36 ?_
        refine g_putI (j := 2) cok3 (by decide) rfl rfl rfl rfl (Or.inl tw1_146) oS7 B.2.1 wpI dX3_append_37 ?_
        refine g_iinc (l2 + (-8 : Int32)) [(2, .int (l2 + (-8 : Int32))), (0, .ref (eB E + 7)), (1, .int l1)] 2 rfl (congrArg (fun z => l2 + z) (show Int32.ofInt (-8) = (-8 : Int32) by decide)) (by decide) rfl dX3_append_40 ?_
        refine g_goto 3 (by decide) dX3_append_43 ?_
        refine g_lvs [1, 2, 0] rfl ?_
        exact ih l1 (l2 + (-8 : Int32)) (pI (pI st 8 ((sI st 7 2).toNatClampNeg) (vp_nar .byte (i2b (jshr l1 l2)))) 7 2 ((sI (pI st 8 ((sI st 7 2).toNatClampNeg) (vp_nar .byte (i2b (jshr l1 l2)))) 7 2) + (1 : Int32))) hf
def fX3_append (p1 : Int32) (st : St) : Option St :=
  fX3_append_b3 FU p1 (24 : Int32) st
set_option maxHeartbeats 1000000 in
set_option maxRecDepth 20000 in
theorem wX3_append {E : Ev} {x : Cx} {u0 : St} (B : Bd E x none (0) 0 0 none u0) (p1 : Int32) (st : St)  (hf : fX3_append p1 st = some u0) : G E WT x RX3 cX3_append 3 (0, 0) st 0 [(0, .ref (eB E + 7)), (1, .int p1)] [] := by
  unfold fX3_append at hf
  refine g_bipush (24 : Int32) (by decide) dX3_append_0 ?_
  refine g_istore_n rfl [(2, .int (24 : Int32)), (0, .ref (eB E + 7)), (1, .int p1)] (by decide) rfl dX3_append_2 ?_
  refine g_lvs [1, 2, 0] rfl ?_
  exact wX3_append_b3 B  FU p1 (24 : Int32) st hf
theorem kX3_append {l : Launch} {E : Ev} {st : St} {p1 : Int32} {u0 : St}  (hf : fX3_append p1 st = some u0) : CM l E WT yX3_append cX3_append 3 none 0 0 0 [.ref (eB E + 7), .int p1] st none u0 :=
  CM.intro mok_X3_append (Nat.le_of_ble_eq_true rfl) (fun x hl hR ht hr hQ _ => wX3_append ⟨hR, ht, hr, hQ⟩ p1 st hf)
def fX5_clear  (st : St) : Option St :=
  some (pI (pI (pI st 9 5 (0 : Int32)) 9 6 (1 : Int32)) 9 7 (0 : Int32))
set_option maxHeartbeats 1000000 in
set_option maxRecDepth 20000 in
theorem wX5_clear {E : Ev} {x : Cx} {u0 : St} (B : Bd E x none (0) 0 0 none u0)  (st : St)  (hf : fX5_clear st = some u0) : G E WT x RX5 cX5_clear 1 (0, 0) st 0 [(0, .ref (eB E + 9))] [] := by
  unfold fX5_clear at hf
  refine g_aload_n rfl 0 rfl dX5_clear_0 ?_
  refine g_iconst (0 : Int32) (by decide) dX5_clear_1 ?_
  refine g_putI (j := 5) cok5 (by decide) rfl rfl rfl rfl (Or.inl tw1_116) oS9 B.2.1 wpI dX5_clear_2 ?_
  refine g_aload_n rfl 0 rfl dX5_clear_5 ?_
  refine g_iconst (1 : Int32) (by decide) dX5_clear_6 ?_
  refine g_putI (j := 6) cok5 (by decide) rfl rfl rfl rfl (Or.inl tw1_120) oS9 B.2.1 wpI dX5_clear_7 ?_
  refine g_aload_n rfl 0 rfl dX5_clear_10 ?_
  refine g_iconst (0 : Int32) (by decide) dX5_clear_11 ?_
  refine g_putI (j := 7) cok5 (by decide) rfl rfl rfl rfl (Or.inl tw1_122) oS9 B.2.1 wpI dX5_clear_12 ?_
  exact g_ret B.2.2.2 B.2.2.1 rfl (Option.some.inj hf).symm dX5_clear_15
theorem kX5_clear {l : Launch} {E : Ev} {st : St}  {u0 : St}  (hf : fX5_clear st = some u0) : CM l E WT yX5_clear cX5_clear 1 none 0 0 0 [.ref (eB E + 9)] st none u0 :=
  CM.intro mok_X5_clear (Nat.le_of_ble_eq_true rfl) (fun x hl hR ht hr hQ _ => wX5_clear ⟨hR, ht, hr, hQ⟩ st hf)
def fX3_step_b186 (l1 : Int32) (st : St) : Option St :=
  if (sI st 7 5) = (1 : Int32) then (some (pI st 7 7 (l1 + (1 : Int32)))) else (some (pI st 7 7 l1))
set_option maxHeartbeats 1000000 in
set_option maxRecDepth 20000 in
theorem wX3_step_b186 {E : Ev} {x : Cx} {u0 : St} (B : Bd E x none (0) 0 0 none u0) (l1 : Int32) (st : St)  (hf : fX3_step_b186 l1 st = some u0) : G E WT x RX3 cX3_step 2 (0, 0) st 186 [(0, .ref (eB E + 7)), (1, .int l1)] [] := by
  unfold fX3_step_b186 at hf
  refine g_aload_n rfl 0 rfl dX3_step_186 ?_
  refine g_get (j := 5) cok3 (by decide) (.int (sI st 7 5)) (Or.inl tw1_150) oS7 (fun _ => rfl) dX3_step_187 ?_
  refine g_iconst (1 : Int32) (by decide) dX3_step_190 ?_
  refine g_icmp_ne 197 (by decide) dX3_step_191 (fun h1 => ?_) (fun h1 => ?_)
  · rw [if_neg h1] at hf
    refine g_aload_n rfl 0 rfl dX3_step_197 ?_
    refine g_iload_n rfl 1 rfl dX3_step_198 ?_
    refine g_putI (j := 7) cok3 (by decide) rfl rfl rfl rfl (Or.inl tw1_152) oS7 B.2.1 wpI dX3_step_199 ?_
    exact g_ret B.2.2.2 B.2.2.1 rfl (Option.some.inj hf).symm dX3_step_202
  · rw [if_pos h1] at hf
    refine g_iinc (l1 + (1 : Int32)) [(1, .int (l1 + (1 : Int32))), (0, .ref (eB E + 7))] 1 rfl (congrArg (fun z => l1 + z) (show Int32.ofInt (1) = (1 : Int32) by decide)) (by decide) rfl dX3_step_194 ?_
    refine g_aload_n rfl 1 rfl dX3_step_197 ?_
    refine g_iload_n rfl 0 rfl dX3_step_198 ?_
    refine g_putI (j := 7) cok3 (by decide) rfl rfl rfl rfl (Or.inl tw1_152) oS7 B.2.1 wpI dX3_step_199 ?_
    exact g_ret B.2.2.2 B.2.2.1 rfl (Option.some.inj hf).symm dX3_step_202
def fX3_step_b177 (k99 : Int32 → St → Option St)(l1 : Int32) (s1 : Int32) (st : St) : Option St :=
  k99 (l1 + (1 : Int32)) (pI st 7 8 s1)
set_option maxHeartbeats 1000000 in
set_option maxRecDepth 20000 in
theorem wX3_step_b177 {E : Ev} {x : Cx} {u0 : St} (B : Bd E x none (0) 0 0 none u0) {k99 : Int32 → St → Option St} (hk99 : ∀ (l1 : Int32) (st : St), k99 l1 st = some u0 → G E WT x RX3 cX3_step 2 (0, 0) st 99 [(0, .ref (eB E + 7)), (1, .int l1)] []) (l1 : Int32) (s1 : Int32) (st : St)  (hf : fX3_step_b177 k99 l1 s1 st = some u0) : G E WT x RX3 cX3_step 2 (0, 0) st 177 [(0, .ref (eB E + 7)), (1, .int l1)] [.int s1, .ref (eB E + 7)] := by
  unfold fX3_step_b177 at hf
  refine g_putI (j := 8) cok3 (by decide) rfl rfl rfl rfl (Or.inl tw1_153) oS7 B.2.1 wpI dX3_step_177 ?_
  refine g_iinc (l1 + (1 : Int32)) [(1, .int (l1 + (1 : Int32))), (0, .ref (eB E + 7))] 1 rfl (congrArg (fun z => l1 + z) (show Int32.ofInt (1) = (1 : Int32) by decide)) (by decide) rfl dX3_step_180 ?_
  refine g_goto 99 (by decide) dX3_step_183 ?_
  refine g_lvs [1, 0] rfl ?_
  exact hk99 (l1 + (1 : Int32)) (pI st 7 8 s1) hf
def fX3_step_b99 : Nat → Int32 → St → Option St
  | 0, _, _ => none
  | n + 1, l1, st => if (sI st 7 5) = (2 : Int32) then (fX3_step_b186 l1 st) else (if (sI st 7 2) ≤ l1 then (fX3_step_b186 l1 st) else (chk (ixb l1 400) (if (sI st 8 l1.toNatClampNeg) < (48 : Int32) then (fX3_step_b186 l1 st) else (chk (ixb l1 400) (if (57 : Int32) < (sI st 8 l1.toNatClampNeg) then (fX3_step_b186 l1 st) else (if (sI (pI st 7 5 (3 : Int32)) 7 8) ≤ (1000 : Int32) then (chk (ixb l1 400) (fX3_step_b177 (fun zl1 zst => fX3_step_b99 n zl1 zst) l1 ((((sI (pI st 7 5 (3 : Int32)) 7 8) * (10 : Int32)) + (sI (pI st 7 5 (3 : Int32)) 8 l1.toNatClampNeg)) - (48 : Int32)) (pI st 7 5 (3 : Int32)))) else (fX3_step_b177 (fun zl1 zst => fX3_step_b99 n zl1 zst) l1 (sI (pI st 7 5 (3 : Int32)) 7 8) (pI st 7 5 (3 : Int32)))))))))
set_option maxHeartbeats 1000000 in
set_option maxRecDepth 20000 in
theorem wX3_step_b99 {E : Ev} {x : Cx} {u0 : St} (B : Bd E x none (0) 0 0 none u0) : ∀ (n : Nat) (l1 : Int32) (st : St) , fX3_step_b99 n l1 st = some u0 → G E WT x RX3 cX3_step 2 (0, 0) st 99 [(0, .ref (eB E + 7)), (1, .int l1)] [] := by
  intro n
  induction n with
  | zero =>
    intros
    rename_i hf
    rw [fX3_step_b99] at hf
    cases hf
  | succ n ih =>
    intro l1 st hf
    rw [fX3_step_b99] at hf
    refine g_aload_n rfl 0 rfl dX3_step_99 ?_
    refine g_get (j := 5) cok3 (by decide) (.int (sI st 7 5)) (Or.inl tw1_150) oS7 (fun _ => rfl) dX3_step_100 ?_
    refine g_iconst (2 : Int32) (by decide) dX3_step_103 ?_
    refine g_icmp_eq 186 (by decide) dX3_step_104 (fun h1 => ?_) (fun h1 => ?_)
    · rw [if_pos h1] at hf
      refine g_lvs [0, 1] rfl ?_
      exact wX3_step_b186 B  l1 st hf
    · rw [if_neg h1] at hf
      refine g_iload_n rfl 1 rfl dX3_step_107 ?_
      refine g_aload_n rfl 0 rfl dX3_step_108 ?_
      refine g_get (j := 2) cok3 (by decide) (.int (sI st 7 2)) (Or.inl tw1_146) oS7 (fun _ => rfl) dX3_step_109 ?_
      refine g_icmp_ge 186 (by decide) dX3_step_112 (fun h2 => ?_) (fun h2 => ?_)
      · rw [if_pos h2] at hf
        refine g_lvs [0, 1] rfl ?_
        exact wX3_step_b186 B  l1 st hf
      · rw [if_neg h2] at hf
        refine g_aload_n rfl 0 rfl dX3_step_115 ?_
        refine g_get (j := 0) cok3 (by decide) (.ref (eB E + 8)) (Or.inl tw1_142) oS7 vS7_0 dX3_step_116 ?_
        refine g_iload_n rfl 1 rfl dX3_step_119 ?_
        obtain ⟨h3, hf⟩ := chk_some hf
        refine g_baldj l1.toNatClampNeg rfl aS8 (ixb_in h3) dX3_step_120 ?_
        refine g_bipush (48 : Int32) (by decide) dX3_step_121 ?_
        refine g_icmp_lt 186 (by decide) dX3_step_123 (fun h4 => ?_) (fun h4 => ?_)
        · rw [if_pos h4] at hf
          refine g_lvs [0, 1] rfl ?_
          exact wX3_step_b186 B  l1 st hf
        · rw [if_neg h4] at hf
          refine g_aload_n rfl 0 rfl dX3_step_126 ?_
          refine g_get (j := 0) cok3 (by decide) (.ref (eB E + 8)) (Or.inl tw1_142) oS7 vS7_0 dX3_step_127 ?_
          refine g_iload_n rfl 1 rfl dX3_step_130 ?_
          obtain ⟨h5, hf⟩ := chk_some hf
          refine g_baldj l1.toNatClampNeg rfl aS8 (ixb_in h5) dX3_step_131 ?_
          refine g_bipush (57 : Int32) (by decide) dX3_step_132 ?_
          refine g_icmp_gt 186 (by decide) dX3_step_134 (fun h6 => ?_) (fun h6 => ?_)
          · rw [if_pos h6] at hf
            refine g_lvs [0, 1] rfl ?_
            exact wX3_step_b186 B  l1 st hf
          · rw [if_neg h6] at hf
            refine g_aload_n rfl 0 rfl dX3_step_137 ?_
            refine g_iconst (3 : Int32) (by decide) dX3_step_138 ?_
            refine g_putI (j := 5) cok3 (by decide) rfl rfl rfl rfl (Or.inl tw1_150) oS7 B.2.1 wpI dX3_step_139 ?_
            refine g_aload_n rfl 0 rfl dX3_step_142 ?_
            refine g_aload_n rfl 0 rfl dX3_step_143 ?_
            refine g_get (j := 8) cok3 (by decide) (.int (sI (pI st 7 5 (3 : Int32)) 7 8)) (Or.inl tw1_153) oS7 (fun _ => rfl) dX3_step_144 ?_
            refine g_sipush (1000 : Int32) (by decide) dX3_step_147 ?_
            refine g_icmp_le 160 (by decide) dX3_step_150 (fun h7 => ?_) (fun h7 => ?_)
            · rw [if_pos h7] at hf
              refine g_aload_n rfl 0 rfl dX3_step_160 ?_
              refine g_get (j := 8) cok3 (by decide) (.int (sI (pI st 7 5 (3 : Int32)) 7 8)) (Or.inl tw1_153) oS7 (fun _ => rfl) dX3_step_161 ?_
              refine g_bipush (10 : Int32) (by decide) dX3_step_164 ?_
              refine g_imul dX3_step_166 ?_
              refine g_aload_n rfl 0 rfl dX3_step_167 ?_
              refine g_get (j := 0) cok3 (by decide) (.ref (eB E + 8)) (Or.inl tw1_142) oS7 vS7_0 dX3_step_168 ?_
              refine g_iload_n rfl 1 rfl dX3_step_171 ?_
              obtain ⟨h8, hf⟩ := chk_some hf
              refine g_baldj l1.toNatClampNeg rfl aS8 (ixb_in h8) dX3_step_172 ?_
              refine g_iadd dX3_step_173 ?_
              refine g_bipush (48 : Int32) (by decide) dX3_step_174 ?_
              refine g_isub dX3_step_176 ?_
              refine g_lvs [0, 1] rfl ?_
              exact wX3_step_b177 B ih l1 ((((sI (pI st 7 5 (3 : Int32)) 7 8) * (10 : Int32)) + (sI (pI st 7 5 (3 : Int32)) 8 l1.toNatClampNeg)) - (48 : Int32)) (pI st 7 5 (3 : Int32)) hf
            · rw [if_neg h7] at hf
              refine g_aload_n rfl 0 rfl dX3_step_153 ?_
              refine g_get (j := 8) cok3 (by decide) (.int (sI (pI st 7 5 (3 : Int32)) 7 8)) (Or.inl tw1_153) oS7 (fun _ => rfl) dX3_step_154 ?_
              refine g_goto 177 (by decide) dX3_step_157 ?_
              refine g_lvs [0, 1] rfl ?_
              exact wX3_step_b177 B ih l1 (sI (pI st 7 5 (3 : Int32)) 7 8) (pI st 7 5 (3 : Int32)) hf
def fX3_step_b58 : Nat → Int32 → St → Option St
  | 0, _, _ => none
  | n + 1, l1, st => if (sI st 7 2) ≤ l1 then (fX3_step_b99 FU l1 st) else (chk (ixb l1 400) (if (sI st 8 l1.toNatClampNeg) < (97 : Int32) then (fX3_step_b99 FU l1 st) else (chk (ixb l1 400) (if (122 : Int32) < (sI st 8 l1.toNatClampNeg) then (fX3_step_b99 FU l1 st) else (fX3_step_b58 n (l1 + (1 : Int32)) (pI st 7 5 (2 : Int32)))))))
set_option maxHeartbeats 1000000 in
set_option maxRecDepth 20000 in
theorem wX3_step_b58 {E : Ev} {x : Cx} {u0 : St} (B : Bd E x none (0) 0 0 none u0) : ∀ (n : Nat) (l1 : Int32) (st : St) , fX3_step_b58 n l1 st = some u0 → G E WT x RX3 cX3_step 2 (0, 0) st 58 [(0, .ref (eB E + 7)), (1, .int l1)] [] := by
  intro n
  induction n with
  | zero =>
    intros
    rename_i hf
    rw [fX3_step_b58] at hf
    cases hf
  | succ n ih =>
    intro l1 st hf
    rw [fX3_step_b58] at hf
    refine g_iload_n rfl 1 rfl dX3_step_58 ?_
    refine g_aload_n rfl 0 rfl dX3_step_59 ?_
    refine g_get (j := 2) cok3 (by decide) (.int (sI st 7 2)) (Or.inl tw1_146) oS7 (fun _ => rfl) dX3_step_60 ?_
    refine g_icmp_ge 99 (by decide) dX3_step_63 (fun h1 => ?_) (fun h1 => ?_)
    · rw [if_pos h1] at hf
      refine g_lvs [0, 1] rfl ?_
      exact wX3_step_b99 B  FU l1 st hf
    · rw [if_neg h1] at hf
      refine g_aload_n rfl 0 rfl dX3_step_66 ?_
      refine g_get (j := 0) cok3 (by decide) (.ref (eB E + 8)) (Or.inl tw1_142) oS7 vS7_0 dX3_step_67 ?_
      refine g_iload_n rfl 1 rfl dX3_step_70 ?_
      obtain ⟨h2, hf⟩ := chk_some hf
      refine g_baldj l1.toNatClampNeg rfl aS8 (ixb_in h2) dX3_step_71 ?_
      refine g_bipush (97 : Int32) (by decide) dX3_step_72 ?_
      refine g_icmp_lt 99 (by decide) dX3_step_74 (fun h3 => ?_) (fun h3 => ?_)
      · rw [if_pos h3] at hf
        refine g_lvs [0, 1] rfl ?_
        exact wX3_step_b99 B  FU l1 st hf
      · rw [if_neg h3] at hf
        refine g_aload_n rfl 0 rfl dX3_step_77 ?_
        refine g_get (j := 0) cok3 (by decide) (.ref (eB E + 8)) (Or.inl tw1_142) oS7 vS7_0 dX3_step_78 ?_
        refine g_iload_n rfl 1 rfl dX3_step_81 ?_
        obtain ⟨h4, hf⟩ := chk_some hf
        refine g_baldj l1.toNatClampNeg rfl aS8 (ixb_in h4) dX3_step_82 ?_
        refine g_bipush (122 : Int32) (by decide) dX3_step_83 ?_
        refine g_icmp_gt 99 (by decide) dX3_step_85 (fun h5 => ?_) (fun h5 => ?_)
        · rw [if_pos h5] at hf
          refine g_lvs [0, 1] rfl ?_
          exact wX3_step_b99 B  FU l1 st hf
        · rw [if_neg h5] at hf
          refine g_aload_n rfl 0 rfl dX3_step_88 ?_
          refine g_iconst (2 : Int32) (by decide) dX3_step_89 ?_
          refine g_putI (j := 5) cok3 (by decide) rfl rfl rfl rfl (Or.inl tw1_150) oS7 B.2.1 wpI dX3_step_90 ?_
          refine g_iinc (l1 + (1 : Int32)) [(1, .int (l1 + (1 : Int32))), (0, .ref (eB E + 7))] 1 rfl (congrArg (fun z => l1 + z) (show Int32.ofInt (1) = (1 : Int32) by decide)) (by decide) rfl dX3_step_93 ?_
          refine g_goto 58 (by decide) dX3_step_96 ?_
          refine g_lvs [1, 0] rfl ?_
          exact ih (l1 + (1 : Int32)) (pI st 7 5 (2 : Int32)) hf
def fX3_step_b30 (l1 : Int32) (st : St) : Option St :=
  if (sI (pI (pI (pI st 7 6 l1) 7 8 (0 : Int32)) 7 5 (0 : Int32)) 7 2) ≤ l1 then (some (pI (pI (pI (pI st 7 6 l1) 7 8 (0 : Int32)) 7 5 (0 : Int32)) 7 7 l1)) else (fX3_step_b58 FU l1 (pI (pI (pI (pI st 7 6 l1) 7 8 (0 : Int32)) 7 5 (0 : Int32)) 7 5 (1 : Int32)))
set_option maxHeartbeats 1000000 in
set_option maxRecDepth 20000 in
theorem wX3_step_b30 {E : Ev} {x : Cx} {u0 : St} (B : Bd E x none (0) 0 0 none u0) (l1 : Int32) (st : St)  (hf : fX3_step_b30 l1 st = some u0) : G E WT x RX3 cX3_step 2 (0, 0) st 30 [(0, .ref (eB E + 7)), (1, .int l1)] [] := by
  unfold fX3_step_b30 at hf
  refine g_aload_n rfl 0 rfl dX3_step_30 ?_
  refine g_iload_n rfl 1 rfl dX3_step_31 ?_
  refine g_putI (j := 6) cok3 (by decide) rfl rfl rfl rfl (Or.inl tw1_151) oS7 B.2.1 wpI dX3_step_32 ?_
  refine g_aload_n rfl 0 rfl dX3_step_35 ?_
  refine g_iconst (0 : Int32) (by decide) dX3_step_36 ?_
  refine g_putI (j := 8) cok3 (by decide) rfl rfl rfl rfl (Or.inl tw1_153) oS7 B.2.1 wpI dX3_step_37 ?_
  refine g_aload_n rfl 0 rfl dX3_step_40 ?_
  refine g_iconst (0 : Int32) (by decide) dX3_step_41 ?_
  refine g_putI (j := 5) cok3 (by decide) rfl rfl rfl rfl (Or.inl tw1_150) oS7 B.2.1 wpI dX3_step_42 ?_
  refine g_iload_n rfl 1 rfl dX3_step_45 ?_
  refine g_aload_n rfl 0 rfl dX3_step_46 ?_
  refine g_get (j := 2) cok3 (by decide) (.int (sI (pI (pI (pI st 7 6 l1) 7 8 (0 : Int32)) 7 5 (0 : Int32)) 7 2)) (Or.inl tw1_146) oS7 (fun _ => rfl) dX3_step_47 ?_
  refine g_icmp_ge 197 (by decide) dX3_step_50 (fun h1 => ?_) (fun h1 => ?_)
  · rw [if_pos h1] at hf
    refine g_aload_n rfl 0 rfl dX3_step_197 ?_
    refine g_iload_n rfl 1 rfl dX3_step_198 ?_
    refine g_putI (j := 7) cok3 (by decide) rfl rfl rfl rfl (Or.inl tw1_152) oS7 B.2.1 wpI dX3_step_199 ?_
    exact g_ret B.2.2.2 B.2.2.1 rfl (Option.some.inj hf).symm dX3_step_202
  · rw [if_neg h1] at hf
    refine g_aload_n rfl 0 rfl dX3_step_53 ?_
    refine g_iconst (1 : Int32) (by decide) dX3_step_54 ?_
    refine g_putI (j := 5) cok3 (by decide) rfl rfl rfl rfl (Or.inl tw1_150) oS7 B.2.1 wpI dX3_step_55 ?_
    refine g_lvs [0, 1] rfl ?_
    exact wX3_step_b58 B  FU l1 (pI (pI (pI (pI st 7 6 l1) 7 8 (0 : Int32)) 7 5 (0 : Int32)) 7 5 (1 : Int32)) hf
def fX3_step_b5 : Nat → Int32 → St → Option St
  | 0, _, _ => none
  | n + 1, l1, st => if (sI st 7 2) ≤ l1 then (fX3_step_b30 l1 st) else (chk (ixb l1 400) (if (sI st 8 l1.toNatClampNeg) = (32 : Int32) then (fX3_step_b5 n (l1 + (1 : Int32)) st) else (fX3_step_b30 l1 st)))
set_option maxHeartbeats 1000000 in
set_option maxRecDepth 20000 in
theorem wX3_step_b5 {E : Ev} {x : Cx} {u0 : St} (B : Bd E x none (0) 0 0 none u0) : ∀ (n : Nat) (l1 : Int32) (st : St) , fX3_step_b5 n l1 st = some u0 → G E WT x RX3 cX3_step 2 (0, 0) st 5 [(0, .ref (eB E + 7)), (1, .int l1)] [] := by
  intro n
  induction n with
  | zero =>
    intros
    rename_i hf
    rw [fX3_step_b5] at hf
    cases hf
  | succ n ih =>
    intro l1 st hf
    rw [fX3_step_b5] at hf
    refine g_iload_n rfl 1 rfl dX3_step_5 ?_
    refine g_aload_n rfl 0 rfl dX3_step_6 ?_
    refine g_get (j := 2) cok3 (by decide) (.int (sI st 7 2)) (Or.inl tw1_146) oS7 (fun _ => rfl) dX3_step_7 ?_
    refine g_icmp_ge 30 (by decide) dX3_step_10 (fun h1 => ?_) (fun h1 => ?_)
    · rw [if_pos h1] at hf
      refine g_lvs [0, 1] rfl ?_
      exact wX3_step_b30 B  l1 st hf
    · rw [if_neg h1] at hf
      refine g_aload_n rfl 0 rfl dX3_step_13 ?_
      refine g_get (j := 0) cok3 (by decide) (.ref (eB E + 8)) (Or.inl tw1_142) oS7 vS7_0 dX3_step_14 ?_
      refine g_iload_n rfl 1 rfl dX3_step_17 ?_
      obtain ⟨h2, hf⟩ := chk_some hf
      refine g_baldj l1.toNatClampNeg rfl aS8 (ixb_in h2) dX3_step_18 ?_
      refine g_bipush (32 : Int32) (by decide) dX3_step_19 ?_
      refine g_icmp_ne 30 (by decide) dX3_step_21 (fun h3 => ?_) (fun h3 => ?_)
      · rw [if_neg h3] at hf
        refine g_lvs [0, 1] rfl ?_
        exact wX3_step_b30 B  l1 st hf
      · rw [if_pos h3] at hf
        refine g_iinc (l1 + (1 : Int32)) [(1, .int (l1 + (1 : Int32))), (0, .ref (eB E + 7))] 1 rfl (congrArg (fun z => l1 + z) (show Int32.ofInt (1) = (1 : Int32) by decide)) (by decide) rfl dX3_step_24 ?_
        refine g_goto 5 (by decide) dX3_step_27 ?_
        refine g_lvs [1, 0] rfl ?_
        exact ih (l1 + (1 : Int32)) st hf
def fX3_step  (st : St) : Option St :=
  fX3_step_b5 FU (sI st 7 7) st
set_option maxHeartbeats 1000000 in
set_option maxRecDepth 20000 in
theorem wX3_step {E : Ev} {x : Cx} {u0 : St} (B : Bd E x none (0) 0 0 none u0)  (st : St)  (hf : fX3_step st = some u0) : G E WT x RX3 cX3_step 2 (0, 0) st 0 [(0, .ref (eB E + 7))] [] := by
  unfold fX3_step at hf
  refine g_aload_n rfl 0 rfl dX3_step_0 ?_
  refine g_get (j := 7) cok3 (by decide) (.int (sI st 7 7)) (Or.inl tw1_152) oS7 (fun _ => rfl) dX3_step_1 ?_
  refine g_istore_n rfl [(1, .int (sI st 7 7)), (0, .ref (eB E + 7))] (by decide) rfl dX3_step_4 ?_
  refine g_lvs [1, 0] rfl ?_
  exact wX3_step_b5 B  FU (sI st 7 7) st hf
theorem kX3_step {l : Launch} {E : Ev} {st : St}  {u0 : St}  (hf : fX3_step st = some u0) : CM l E WT yX3_step cX3_step 2 none 0 0 0 [.ref (eB E + 7)] st none u0 :=
  CM.intro mok_X3_step (Nat.le_of_ble_eq_true rfl) (fun x hl hR ht hr hQ _ => wX3_step ⟨hR, ht, hr, hQ⟩ st hf)
def fX3_which_b127 (st : St) (k17 : Nat → Int32 → Int32 → Int32 → Option Int32)(l1 : Nat) (l2 : Int32) (l3 : Int32) (l4 : Int32) : Option Int32 :=
  k17 l1 l2 l3 (l4 + (1 : Int32))
set_option maxHeartbeats 1000000 in
set_option maxRecDepth 20000 in
theorem wX3_which_b127 {E : Ev} {x : Cx} {r0 : Int32} {st : St} (B : Bd E x (some FieldType.int) (4) 0 0 (some (.int r0)) st) {k17 : Nat → Int32 → Int32 → Int32 → Option Int32} (hk17 : ∀ (l1 : Nat) (l2 : Int32) (l3 : Int32) (l4 : Int32), (l1 < 9) → k17 l1 l2 l3 l4 = some r0 → G E WT x RX3 cX3_which 6 (0, 0) st 17 [(0, .ref (eB E + 7)), (1, .ref (eSK E l1)), (2, .int l2), (3, .int l3), (4, .int l4)] []) (l1 : Nat) (l2 : Int32) (l3 : Int32) (l4 : Int32) (h_l1 : l1 < 9) (hf : fX3_which_b127 st k17 l1 l2 l3 l4 = some r0) : G E WT x RX3 cX3_which 6 (0, 0) st 127 [(0, .ref (eB E + 7)), (1, .ref (eSK E l1)), (2, .int l2), (3, .int l3), (4, .int l4)] [] := by
  unfold fX3_which_b127 at hf
  refine g_iinc (l4 + (1 : Int32)) [(4, .int (l4 + (1 : Int32))), (0, .ref (eB E + 7)), (1, .ref (eSK E l1)), (2, .int l2), (3, .int l3)] 4 rfl (congrArg (fun z => l4 + z) (show Int32.ofInt (1) = (1 : Int32) by decide)) (by decide) rfl dX3_which_127 ?_
  refine g_goto 17 (by decide) dX3_which_130 ?_
  refine g_lvs [1, 2, 3, 4, 0] rfl ?_
  exact hk17 l1 l2 l3 (l4 + (1 : Int32)) h_l1 hf
def fX3_which_b126 (st : St) (k17 : Nat → Int32 → Int32 → Int32 → Option Int32)(l1 : Nat) (l2 : Int32) (l4 : Int32) (s0 : Int32) : Option Int32 :=
  fX3_which_b127 st k17 l1 l2 s0 l4
set_option maxHeartbeats 1000000 in
set_option maxRecDepth 20000 in
theorem wX3_which_b126 {E : Ev} {x : Cx} {r0 : Int32} {st : St} (B : Bd E x (some FieldType.int) (4) 0 0 (some (.int r0)) st) {k17 : Nat → Int32 → Int32 → Int32 → Option Int32} (hk17 : ∀ (l1 : Nat) (l2 : Int32) (l3 : Int32) (l4 : Int32), (l1 < 9) → k17 l1 l2 l3 l4 = some r0 → G E WT x RX3 cX3_which 6 (0, 0) st 17 [(0, .ref (eB E + 7)), (1, .ref (eSK E l1)), (2, .int l2), (3, .int l3), (4, .int l4)] []) (l1 : Nat) (l2 : Int32) (l4 : Int32) (s0 : Int32) (h_l1 : l1 < 9) (hf : fX3_which_b126 st k17 l1 l2 l4 s0 = some r0) : G E WT x RX3 cX3_which 6 (0, 0) st 126 [(0, .ref (eB E + 7)), (1, .ref (eSK E l1)), (2, .int l2), (4, .int l4)] [.int s0] := by
  unfold fX3_which_b126 at hf
  refine g_istore_n rfl [(3, .int s0), (0, .ref (eB E + 7)), (1, .ref (eSK E l1)), (2, .int l2), (4, .int l4)] (by decide) rfl dX3_which_126 ?_
  refine g_lvs [1, 2, 3, 0, 4] rfl ?_
  exact wX3_which_b127 B hk17 l1 l2 s0 l4 h_l1 hf
def fX3_which_b112 (st : St) (k17 : Nat → Int32 → Int32 → Int32 → Option Int32)(l1 : Nat) (l2 : Int32) (l3 : Int32) (l4 : Int32) (s0 : Int32) : Option Int32 :=
  if s0 = 0 then (fX3_which_b126 st k17 l1 l2 l4 (-1 : Int32)) else (fX3_which_b126 st k17 l1 l2 l4 (l3 + (1 : Int32)))
set_option maxHeartbeats 1000000 in
set_option maxRecDepth 20000 in
theorem wX3_which_b112 {E : Ev} {x : Cx} {r0 : Int32} {st : St} (B : Bd E x (some FieldType.int) (4) 0 0 (some (.int r0)) st) {k17 : Nat → Int32 → Int32 → Int32 → Option Int32} (hk17 : ∀ (l1 : Nat) (l2 : Int32) (l3 : Int32) (l4 : Int32), (l1 < 9) → k17 l1 l2 l3 l4 = some r0 → G E WT x RX3 cX3_which 6 (0, 0) st 17 [(0, .ref (eB E + 7)), (1, .ref (eSK E l1)), (2, .int l2), (3, .int l3), (4, .int l4)] []) (l1 : Nat) (l2 : Int32) (l3 : Int32) (l4 : Int32) (s0 : Int32) (h_l1 : l1 < 9) (hf : fX3_which_b112 st k17 l1 l2 l3 l4 s0 = some r0) : G E WT x RX3 cX3_which 6 (0, 0) st 112 [(0, .ref (eB E + 7)), (1, .ref (eSK E l1)), (2, .int l2), (3, .int l3), (4, .int l4)] [.int s0] := by
  unfold fX3_which_b112 at hf
  refine g_istore [(5, .int s0), (0, .ref (eB E + 7)), (1, .ref (eSK E l1)), (2, .int l2), (3, .int l3), (4, .int l4)] (by decide) rfl dX3_which_112 ?_
  refine g_iload 0 rfl dX3_which_114 ?_
  refine g_if_eq 125 (by decide) dX3_which_116 (fun h1 => ?_) (fun h1 => ?_)
  · rw [if_pos h1] at hf
    refine g_iconst (-1 : Int32) (by decide) dX3_which_125 ?_
    refine g_lvs [1, 2, 3, 5] rfl ?_
    exact wX3_which_b126 B hk17 l1 l2 l4 (-1 : Int32) h_l1 hf
  · rw [if_neg h1] at hf
    refine g_iload_n rfl 4 rfl dX3_which_119 ?_
    refine g_iconst (1 : Int32) (by decide) dX3_which_120 ?_
    refine g_iadd dX3_which_121 ?_
    refine g_goto 126 (by decide) dX3_which_122 ?_
    refine g_lvs [1, 2, 3, 5] rfl ?_
    exact wX3_which_b126 B hk17 l1 l2 l4 (l3 + (1 : Int32)) h_l1 hf
def fX3_which_b111 (st : St) (k17 : Nat → Int32 → Int32 → Int32 → Option Int32)(l1 : Nat) (l2 : Int32) (l3 : Int32) (l4 : Int32) : Option Int32 :=
  fX3_which_b112 st k17 l1 l2 l3 l4 (0 : Int32)
set_option maxHeartbeats 1000000 in
set_option maxRecDepth 20000 in
theorem wX3_which_b111 {E : Ev} {x : Cx} {r0 : Int32} {st : St} (B : Bd E x (some FieldType.int) (4) 0 0 (some (.int r0)) st) {k17 : Nat → Int32 → Int32 → Int32 → Option Int32} (hk17 : ∀ (l1 : Nat) (l2 : Int32) (l3 : Int32) (l4 : Int32), (l1 < 9) → k17 l1 l2 l3 l4 = some r0 → G E WT x RX3 cX3_which 6 (0, 0) st 17 [(0, .ref (eB E + 7)), (1, .ref (eSK E l1)), (2, .int l2), (3, .int l3), (4, .int l4)] []) (l1 : Nat) (l2 : Int32) (l3 : Int32) (l4 : Int32) (h_l1 : l1 < 9) (hf : fX3_which_b111 st k17 l1 l2 l3 l4 = some r0) : G E WT x RX3 cX3_which 6 (0, 0) st 111 [(0, .ref (eB E + 7)), (1, .ref (eSK E l1)), (2, .int l2), (3, .int l3), (4, .int l4)] [] := by
  unfold fX3_which_b111 at hf
  refine g_iconst (0 : Int32) (by decide) dX3_which_111 ?_
  refine g_lvs [0, 1, 2, 3, 4] rfl ?_
  exact wX3_which_b112 B hk17 l1 l2 l3 l4 (0 : Int32) h_l1 hf
def fX3_which_b46 (st : St) (k17 : Nat → Int32 → Int32 → Int32 → Option Int32)(l1 : Nat) (l2 : Int32) (l3 : Int32) (l4 : Int32) : Option Int32 :=
  if l3 = ((sI st 7 7) - (sI st 7 6)) then (some l2) else (fX3_which_b127 st k17 l1 (l2 + (1 : Int32)) (0 : Int32) l4)
set_option maxHeartbeats 1000000 in
set_option maxRecDepth 20000 in
theorem wX3_which_b46 {E : Ev} {x : Cx} {r0 : Int32} {st : St} (B : Bd E x (some FieldType.int) (4) 0 0 (some (.int r0)) st) {k17 : Nat → Int32 → Int32 → Int32 → Option Int32} (hk17 : ∀ (l1 : Nat) (l2 : Int32) (l3 : Int32) (l4 : Int32), (l1 < 9) → k17 l1 l2 l3 l4 = some r0 → G E WT x RX3 cX3_which 6 (0, 0) st 17 [(0, .ref (eB E + 7)), (1, .ref (eSK E l1)), (2, .int l2), (3, .int l3), (4, .int l4)] []) (l1 : Nat) (l2 : Int32) (l3 : Int32) (l4 : Int32) (h_l1 : l1 < 9) (hf : fX3_which_b46 st k17 l1 l2 l3 l4 = some r0) : G E WT x RX3 cX3_which 6 (0, 0) st 46 [(0, .ref (eB E + 7)), (1, .ref (eSK E l1)), (2, .int l2), (3, .int l3), (4, .int l4)] [] := by
  unfold fX3_which_b46 at hf
  refine g_iload_n rfl 3 rfl dX3_which_46 ?_
  refine g_aload_n rfl 0 rfl dX3_which_47 ?_
  refine g_get (j := 7) cok3 (by decide) (.int (sI st 7 7)) (Or.inl tw1_152) oS7 (fun _ => rfl) dX3_which_48 ?_
  refine g_aload_n rfl 0 rfl dX3_which_51 ?_
  refine g_get (j := 6) cok3 (by decide) (.int (sI st 7 6)) (Or.inl tw1_151) oS7 (fun _ => rfl) dX3_which_52 ?_
  refine g_isub dX3_which_55 ?_
  refine g_icmp_ne 61 (by decide) dX3_which_56 (fun h1 => ?_) (fun h1 => ?_)
  · rw [if_neg h1] at hf
    refine g_iinc (l2 + (1 : Int32)) [(2, .int (l2 + (1 : Int32))), (0, .ref (eB E + 7)), (1, .ref (eSK E l1)), (3, .int l3), (4, .int l4)] 2 rfl (congrArg (fun z => l2 + z) (show Int32.ofInt (1) = (1 : Int32) by decide)) (by decide) rfl dX3_which_61 ?_
    refine g_iconst (0 : Int32) (by decide) dX3_which_64 ?_
    refine g_istore_n rfl [(3, .int (0 : Int32)), (2, .int (l2 + (1 : Int32))), (0, .ref (eB E + 7)), (1, .ref (eSK E l1)), (4, .int l4)] (by decide) rfl dX3_which_65 ?_
    refine g_goto 127 (by decide) dX3_which_66 ?_
    refine g_lvs [2, 3, 1, 0, 4] rfl ?_
    exact wX3_which_b127 B hk17 l1 (l2 + (1 : Int32)) (0 : Int32) l4 h_l1 hf
  · rw [if_pos h1] at hf
    refine g_iload_n rfl 2 rfl dX3_which_59 ?_
    exact g_iret B.2.2.2 B.2.2.1 (congrArg (fun z => some (Value.int z)) (Option.some.inj hf).symm) rfl dX3_which_60
def fX3_which_b17 (st : St)  : Nat → Nat → Int32 → Int32 → Int32 → Option Int32
  | 0, _, _, _, _ => none
  | n + 1, l1, l2, l3, l4 => if (nI (sLen.getD l1 0)) < l4 then (some (-1 : Int32)) else (if l4 = (nI (sLen.getD l1 0)) then (fX3_which_b46 st (fun zl1 zl2 zl3 zl4 => fX3_which_b17 st n zl1 zl2 zl3 zl4) l1 l2 l3 l4) else (chk (ixb l4 (sLen.getD l1 0)) (if ((sByt.getD l1 []).getD l4.toNatClampNeg 0) = (32 : Int32) then (fX3_which_b46 st (fun zl1 zl2 zl3 zl4 => fX3_which_b17 st n zl1 zl2 zl3 zl4) l1 l2 l3 l4) else (if l3 = (-1 : Int32) then (fX3_which_b127 st (fun zl1 zl2 zl3 zl4 => fX3_which_b17 st n zl1 zl2 zl3 zl4) l1 l2 l3 l4) else (if (sI st 7 7) ≤ ((sI st 7 6) + l3) then (fX3_which_b111 st (fun zl1 zl2 zl3 zl4 => fX3_which_b17 st n zl1 zl2 zl3 zl4) l1 l2 l3 l4) else (chk (ixb ((sI st 7 6) + l3) 400) (chk (ixb l4 (sLen.getD l1 0)) (if (sI st 8 (((sI st 7 6) + l3).toNatClampNeg)) = ((sByt.getD l1 []).getD l4.toNatClampNeg 0) then (fX3_which_b112 st (fun zl1 zl2 zl3 zl4 => fX3_which_b17 st n zl1 zl2 zl3 zl4) l1 l2 l3 l4 (1 : Int32)) else (fX3_which_b111 st (fun zl1 zl2 zl3 zl4 => fX3_which_b17 st n zl1 zl2 zl3 zl4) l1 l2 l3 l4)))))))))
set_option maxHeartbeats 1000000 in
set_option maxRecDepth 20000 in
theorem wX3_which_b17 {E : Ev} {x : Cx} {r0 : Int32} {st : St} (B : Bd E x (some FieldType.int) (4) 0 0 (some (.int r0)) st) : ∀ (n : Nat) (l1 : Nat) (l2 : Int32) (l3 : Int32) (l4 : Int32) (h_l1 : l1 < 9), fX3_which_b17 st n l1 l2 l3 l4 = some r0 → G E WT x RX3 cX3_which 6 (0, 0) st 17 [(0, .ref (eB E + 7)), (1, .ref (eSK E l1)), (2, .int l2), (3, .int l3), (4, .int l4)] [] := by
  intro n
  induction n with
  | zero =>
    intros
    rename_i hf
    rw [fX3_which_b17] at hf
    cases hf
  | succ n ih =>
    intro l1 l2 l3 l4 h_l1 hf
    rw [fX3_which_b17] at hf
    refine g_iload 4 rfl dX3_which_17 ?_
    refine g_aload_n rfl 1 rfl dX3_which_19 ?_
    refine g_slen tw3_32 h_l1 B.1 (by decide) (Nat.le_of_ble_eq_true rfl) ⟨Nat.le_refl _, Nat.le_refl _⟩ dX3_which_20 ?_
    refine g_icmp_gt 133 (by decide) dX3_which_23 (fun h1 => ?_) (fun h1 => ?_)
    · rw [if_pos h1] at hf
      refine g_iconst (-1 : Int32) (by decide) dX3_which_133 ?_
      exact g_iret B.2.2.2 B.2.2.1 (congrArg (fun z => some (Value.int z)) (Option.some.inj hf).symm) rfl dX3_which_134
    · rw [if_neg h1] at hf
      refine g_iload 4 rfl dX3_which_26 ?_
      refine g_aload_n rfl 1 rfl dX3_which_28 ?_
      refine g_slen tw3_32 h_l1 B.1 (by decide) (Nat.le_of_ble_eq_true rfl) ⟨Nat.le_refl _, Nat.le_refl _⟩ dX3_which_29 ?_
      refine g_icmp_eq 46 (by decide) dX3_which_32 (fun h2 => ?_) (fun h2 => ?_)
      · rw [if_pos h2] at hf
        refine g_lvs [0, 1, 2, 3, 4] rfl ?_
        exact wX3_which_b46 B ih l1 l2 l3 l4 h_l1 hf
      · rw [if_neg h2] at hf
        refine g_aload_n rfl 1 rfl dX3_which_35 ?_
        refine g_iload 4 rfl dX3_which_36 ?_
        obtain ⟨h3, hf⟩ := chk_some hf
        refine g_char (rest := []) tw3_42 h_l1 (ixb_in h3) B.1 (by decide) (Nat.le_of_ble_eq_true rfl) ⟨Nat.le_refl _, Nat.le_refl _⟩ dX3_which_38 ?_
        refine g_bipush (32 : Int32) (by decide) dX3_which_41 ?_
        refine g_icmp_ne 69 (by decide) dX3_which_43 (fun h4 => ?_) (fun h4 => ?_)
        · rw [if_neg h4] at hf
          refine g_iload_n rfl 3 rfl dX3_which_69 ?_
          refine g_iconst (-1 : Int32) (by decide) dX3_which_70 ?_
          refine g_icmp_eq 127 (by decide) dX3_which_71 (fun h5 => ?_) (fun h5 => ?_)
          · rw [if_pos h5] at hf
            refine g_lvs [0, 1, 2, 3, 4] rfl ?_
            exact wX3_which_b127 B ih l1 l2 l3 l4 h_l1 hf
          · rw [if_neg h5] at hf
            refine g_aload_n rfl 0 rfl dX3_which_74 ?_
            refine g_get (j := 6) cok3 (by decide) (.int (sI st 7 6)) (Or.inl tw1_151) oS7 (fun _ => rfl) dX3_which_75 ?_
            refine g_iload_n rfl 3 rfl dX3_which_78 ?_
            refine g_iadd dX3_which_79 ?_
            refine g_aload_n rfl 0 rfl dX3_which_80 ?_
            refine g_get (j := 7) cok3 (by decide) (.int (sI st 7 7)) (Or.inl tw1_152) oS7 (fun _ => rfl) dX3_which_81 ?_
            refine g_icmp_ge 111 (by decide) dX3_which_84 (fun h6 => ?_) (fun h6 => ?_)
            · rw [if_pos h6] at hf
              refine g_lvs [0, 1, 2, 3, 4] rfl ?_
              exact wX3_which_b111 B ih l1 l2 l3 l4 h_l1 hf
            · rw [if_neg h6] at hf
              refine g_aload_n rfl 0 rfl dX3_which_87 ?_
              refine g_get (j := 0) cok3 (by decide) (.ref (eB E + 8)) (Or.inl tw1_142) oS7 vS7_0 dX3_which_88 ?_
              refine g_aload_n rfl 0 rfl dX3_which_91 ?_
              refine g_get (j := 6) cok3 (by decide) (.int (sI st 7 6)) (Or.inl tw1_151) oS7 (fun _ => rfl) dX3_which_92 ?_
              refine g_iload_n rfl 3 rfl dX3_which_95 ?_
              refine g_iadd dX3_which_96 ?_
              obtain ⟨h7, hf⟩ := chk_some hf
              refine g_baldj (((sI st 7 6) + l3).toNatClampNeg) rfl aS8 (ixb_in h7) dX3_which_97 ?_
              refine g_aload_n rfl 1 rfl dX3_which_98 ?_
              refine g_iload 4 rfl dX3_which_99 ?_
              obtain ⟨h8, hf⟩ := chk_some hf
              refine g_char (rest := [.int (sI st 8 (((sI st 7 6) + l3).toNatClampNeg))]) tw3_42 h_l1 (ixb_in h8) B.1 (by decide) (Nat.le_of_ble_eq_true rfl) ⟨Nat.le_refl _, Nat.le_refl _⟩ dX3_which_101 ?_
              refine g_icmp_ne 111 (by decide) dX3_which_104 (fun h9 => ?_) (fun h9 => ?_)
              · rw [if_neg h9] at hf
                refine g_lvs [0, 1, 2, 3, 4] rfl ?_
                exact wX3_which_b111 B ih l1 l2 l3 l4 h_l1 hf
              · rw [if_pos h9] at hf
                refine g_iconst (1 : Int32) (by decide) dX3_which_107 ?_
                refine g_goto 112 (by decide) dX3_which_108 ?_
                refine g_lvs [0, 1, 2, 3, 4] rfl ?_
                exact wX3_which_b112 B ih l1 l2 l3 l4 (1 : Int32) h_l1 hf
        · rw [if_pos h4] at hf
          refine g_lvs [0, 1, 2, 3, 4] rfl ?_
          exact wX3_which_b46 B ih l1 l2 l3 l4 h_l1 hf
def fX3_which (st : St) (wd : Nat) : Option Int32 :=
  if (sI st 7 5) = (2 : Int32) then (fX3_which_b17 st FU wd (0 : Int32) (0 : Int32) (0 : Int32)) else (some (-1 : Int32))
set_option maxHeartbeats 1000000 in
set_option maxRecDepth 20000 in
theorem wX3_which {E : Ev} {x : Cx} {r0 : Int32} {st : St} (B : Bd E x (some FieldType.int) (4) 0 0 (some (.int r0)) st) (wd : Nat) (h_wd : wd < 9) (hf : fX3_which st wd = some r0) : G E WT x RX3 cX3_which 6 (0, 0) st 0 [(0, .ref (eB E + 7)), (1, .ref (eSK E wd))] [] := by
  unfold fX3_which at hf
  refine g_aload_n rfl 0 rfl dX3_which_0 ?_
  refine g_get (j := 5) cok3 (by decide) (.int (sI st 7 5)) (Or.inl tw1_150) oS7 (fun _ => rfl) dX3_which_1 ?_
  refine g_iconst (2 : Int32) (by decide) dX3_which_4 ?_
  refine g_icmp_eq 10 (by decide) dX3_which_5 (fun h1 => ?_) (fun h1 => ?_)
  · rw [if_pos h1] at hf
    refine g_iconst (0 : Int32) (by decide) dX3_which_10 ?_
    refine g_istore_n rfl [(2, .int (0 : Int32)), (0, .ref (eB E + 7)), (1, .ref (eSK E wd))] (by decide) rfl dX3_which_11 ?_
    refine g_iconst (0 : Int32) (by decide) dX3_which_12 ?_
    refine g_istore_n rfl [(3, .int (0 : Int32)), (2, .int (0 : Int32)), (0, .ref (eB E + 7)), (1, .ref (eSK E wd))] (by decide) rfl dX3_which_13 ?_
    refine g_iconst (0 : Int32) (by decide) dX3_which_14 ?_
    refine g_istore [(4, .int (0 : Int32)), (3, .int (0 : Int32)), (2, .int (0 : Int32)), (0, .ref (eB E + 7)), (1, .ref (eSK E wd))] (by decide) rfl dX3_which_15 ?_
    refine g_lvs [3, 4, 2, 1, 0] rfl ?_
    exact wX3_which_b17 B  FU wd (0 : Int32) (0 : Int32) (0 : Int32) h_wd hf
  · rw [if_neg h1] at hf
    refine g_iconst (-1 : Int32) (by decide) dX3_which_8 ?_
    exact g_iret B.2.2.2 B.2.2.1 (congrArg (fun z => some (Value.int z)) (Option.some.inj hf).symm) rfl dX3_which_9
theorem kX3_which {l : Launch} {E : Ev} {st : St} {wd : Nat} {r0 : Int32} (h_wd : wd < 9) (hf : fX3_which st wd = some r0) : CM l E WT yX3_which cX3_which 6 (some FieldType.int) 4 0 0 [.ref (eB E + 7), .ref (eSK E wd)] st (some (.int r0)) st :=
  CM.intro mok_X3_which (Nat.le_of_ble_eq_true rfl) (fun x hl hR ht hr hQ _ => wX3_which ⟨hR, ht, hr, hQ⟩ wd h_wd hf)
def fX3_isSign (st : St) (p1 : Int32) : Option Int32 :=
  if (sI st 7 5) = (1 : Int32) then (chk (ixb (sI st 7 6) 400) (if (sI st 8 ((sI st 7 6).toNatClampNeg)) = p1 then (some (1 : Int32)) else (some (0 : Int32)))) else (some (0 : Int32))
set_option maxHeartbeats 1000000 in
set_option maxRecDepth 20000 in
theorem wX3_isSign {E : Ev} {x : Cx} {r0 : Int32} {st : St} (B : Bd E x (some FieldType.boolean) (0) 0 0 (some (.int r0)) st) (p1 : Int32)  (hf : fX3_isSign st p1 = some r0) : G E WT x RX3 cX3_isSign 2 (0, 0) st 0 [(0, .ref (eB E + 7)), (1, .int p1)] [] := by
  unfold fX3_isSign at hf
  refine g_aload_n rfl 0 rfl dX3_isSign_0 ?_
  refine g_get (j := 5) cok3 (by decide) (.int (sI st 7 5)) (Or.inl tw1_150) oS7 (fun _ => rfl) dX3_isSign_1 ?_
  refine g_iconst (1 : Int32) (by decide) dX3_isSign_4 ?_
  refine g_icmp_ne 25 (by decide) dX3_isSign_5 (fun h1 => ?_) (fun h1 => ?_)
  · rw [if_neg h1] at hf
    refine g_iconst (0 : Int32) (by decide) dX3_isSign_25 ?_
    exact g_zret B.2.2.2 B.2.2.1 (by decide) (congrArg (fun z => some (Value.int z)) (Option.some.inj hf).symm) rfl dX3_isSign_26
  · rw [if_pos h1] at hf
    refine g_aload_n rfl 0 rfl dX3_isSign_8 ?_
    refine g_get (j := 0) cok3 (by decide) (.ref (eB E + 8)) (Or.inl tw1_142) oS7 vS7_0 dX3_isSign_9 ?_
    refine g_aload_n rfl 0 rfl dX3_isSign_12 ?_
    refine g_get (j := 6) cok3 (by decide) (.int (sI st 7 6)) (Or.inl tw1_151) oS7 (fun _ => rfl) dX3_isSign_13 ?_
    obtain ⟨h2, hf⟩ := chk_some hf
    refine g_baldj ((sI st 7 6).toNatClampNeg) rfl aS8 (ixb_in h2) dX3_isSign_16 ?_
    refine g_iload_n rfl 1 rfl dX3_isSign_17 ?_
    refine g_icmp_ne 25 (by decide) dX3_isSign_18 (fun h3 => ?_) (fun h3 => ?_)
    · rw [if_neg h3] at hf
      refine g_iconst (0 : Int32) (by decide) dX3_isSign_25 ?_
      exact g_zret B.2.2.2 B.2.2.1 (by decide) (congrArg (fun z => some (Value.int z)) (Option.some.inj hf).symm) rfl dX3_isSign_26
    · rw [if_pos h3] at hf
      refine g_iconst (1 : Int32) (by decide) dX3_isSign_21 ?_
      refine g_goto 26 (by decide) dX3_isSign_22 ?_
      exact g_zret B.2.2.2 B.2.2.1 (by decide) (congrArg (fun z => some (Value.int z)) (Option.some.inj hf).symm) rfl dX3_isSign_26
theorem kX3_isSign {l : Launch} {E : Ev} {st : St} {p1 : Int32} {r0 : Int32}  (hf : fX3_isSign st p1 = some r0) : CM l E WT yX3_isSign cX3_isSign 2 (some FieldType.boolean) 0 0 0 [.ref (eB E + 7), .int p1] st (some (.int r0)) st :=
  CM.intro mok_X3_isSign (Nat.le_of_ble_eq_true rfl) (fun x hl hR ht hr hQ _ => wX3_isSign ⟨hR, ht, hr, hQ⟩ p1 hf)
def fX5_put (p1 : Int32) (st : St) : Option St :=
  if (826 : Int32) ≤ (sI st 9 6) then (some st) else (chk (ixb (sI st 9 6) 826) (some (pI (pI st 14 ((sI st 9 6).toNatClampNeg) p1) 9 6 ((sI (pI st 14 ((sI st 9 6).toNatClampNeg) p1) 9 6) + (1 : Int32)))))
set_option maxHeartbeats 1000000 in
set_option maxRecDepth 20000 in
theorem wX5_put {E : Ev} {x : Cx} {u0 : St} (B : Bd E x none (0) 0 0 none u0) (p1 : Int32) (st : St)  (hf : fX5_put p1 st = some u0) : G E WT x RX5 cX5_put 2 (0, 0) st 0 [(0, .ref (eB E + 9)), (1, .int p1)] [] := by
  unfold fX5_put at hf
  refine g_aload_n rfl 0 rfl dX5_put_0 ?_
  refine g_get (j := 6) cok5 (by decide) (.int (sI st 9 6)) (Or.inl tw1_120) oS9 (fun _ => rfl) dX5_put_1 ?_
  refine g_aload_n rfl 0 rfl dX5_put_4 ?_
  refine g_get (j := 4) cok5 (by decide) (.ref (eB E + 14)) (Or.inl tw1_115) oS9 vS9_4 dX5_put_5 ?_
  refine g_alenL 1 (826 : Int32) (by decide) aS14 (by decide) rfl dX5_put_8 ?_
  refine g_icmp_ge 32 (by decide) dX5_put_9 (fun h1 => ?_) (fun h1 => ?_)
  · rw [if_pos h1] at hf
    exact g_ret B.2.2.2 B.2.2.1 rfl (Option.some.inj hf).symm dX5_put_32
  · rw [if_neg h1] at hf
    refine g_aload_n rfl 0 rfl dX5_put_12 ?_
    refine g_get (j := 4) cok5 (by decide) (.ref (eB E + 14)) (Or.inl tw1_115) oS9 vS9_4 dX5_put_13 ?_
    refine g_aload_n rfl 0 rfl dX5_put_16 ?_
    refine g_get (j := 6) cok5 (by decide) (.int (sI st 9 6)) (Or.inl tw1_120) oS9 (fun _ => rfl) dX5_put_17 ?_
    refine g_iload_n rfl 1 rfl dX5_put_20 ?_
    obtain ⟨h2, hf⟩ := chk_some hf
    refine g_iastj ((sI st 9 6).toNatClampNeg) rfl aS14 (ixb_in h2) B.2.1 wpI dX5_put_21 ?_
    refine g_aload_n rfl 0 rfl dX5_put_22 ?_
    refine g_dup rfl dX5_put_23 ?_
    refine g_get (j := 6) cok5 (by decide) (.int (sI (pI st 14 ((sI st 9 6).toNatClampNeg) p1) 9 6)) (Or.inl tw1_120) oS9 (fun _ => rfl) dX5_put_24 ?_
    refine g_iconst (1 : Int32) (by decide) dX5_put_27 ?_
    refine g_iadd dX5_put_28 ?_
    refine g_putI (j := 6) cok5 (by decide) rfl rfl rfl rfl (Or.inl tw1_120) oS9 B.2.1 wpI dX5_put_29 ?_
    exact g_ret B.2.2.2 B.2.2.1 rfl (Option.some.inj hf).symm dX5_put_32
theorem kX5_put {l : Launch} {E : Ev} {st : St} {p1 : Int32} {u0 : St}  (hf : fX5_put p1 st = some u0) : CM l E WT yX5_put cX5_put 2 none 0 0 0 [.ref (eB E + 9), .int p1] st none u0 :=
  CM.intro mok_X5_put (Nat.le_of_ble_eq_true rfl) (fun x hl hR ht hr hQ _ => wX5_put ⟨hR, ht, hr, hQ⟩ p1 st hf)
abbrev TG3 : Type := (Int32 → St → Option (Int32 × St)) × (Int32 → St → Option (Int32 × St))
def RcOK3 (l : Launch) (E : Ev) (rc : TG3) (d : Nat) : Prop := (∀ {st : St} {p1 : Int32} {r0 : Int32} {u0 : St}, rc.1 p1 st = some (r0, u0) → CM l E WT yX3_sum cX3_sum 6 (some FieldType.boolean) (5 + d) 0 0 [.ref (eB E + 7), .int p1] st (some (.int r0)) u0) ∧ (∀ {st : St} {p1 : Int32} {r0 : Int32} {u0 : St}, rc.2 p1 st = some (r0, u0) → CM l E WT yX3_part cX3_part 4 (some FieldType.boolean) (5 + d) 0 0 [.ref (eB E + 7), .int p1] st (some (.int r0)) u0)
def fX3_sum_b131 (rc : TG3) (k4 : Int32 → Int32 → Int32 → St → Option (Int32 × St))(l1 : Int32) (l3 : Int32) (st : St) : Option (Int32 × St) :=
  chk (ixb (sI st 7 6) 400) ((fX3_step st).bind (fun q2 => k4 l1 (sI st 8 ((sI st 7 6).toNatClampNeg)) (l3 + (1 : Int32)) q2))
set_option maxHeartbeats 1000000 in
set_option maxRecDepth 20000 in
theorem wX3_sum_b131 {E : Ev} {x : Cx} {rc : TG3} {d : Nat} (hrc : RcOK3 (xl x) E rc d) {r0 : Int32} {u0 : St} (B : Bd E x (some FieldType.boolean) (5 + d + 1) 0 0 (some (.int r0)) u0) {k4 : Int32 → Int32 → Int32 → St → Option (Int32 × St)} (hk4 : ∀ (l1 : Int32) (l2 : Int32) (l3 : Int32) (st : St), k4 l1 l2 l3 st = some (r0, u0) → G E WT x RX3 cX3_sum 6 (0, 0) st 4 [(0, .ref (eB E + 7)), (1, .int l1), (2, .int l2), (3, .int l3)] []) (l1 : Int32) (l3 : Int32) (st : St)  (hf : fX3_sum_b131 rc k4 l1 l3 st = some (r0, u0)) : G E WT x RX3 cX3_sum 6 (0, 0) st 131 [(0, .ref (eB E + 7)), (1, .int l1), (3, .int l3)] [] := by
  unfold fX3_sum_b131 at hf
  refine g_aload_n rfl 0 rfl dX3_sum_131 ?_
  refine g_get (j := 0) cok3 (by decide) (.ref (eB E + 8)) (Or.inl tw1_142) oS7 vS7_0 dX3_sum_132 ?_
  refine g_aload_n rfl 0 rfl dX3_sum_135 ?_
  refine g_get (j := 6) cok3 (by decide) (.int (sI st 7 6)) (Or.inl tw1_151) oS7 (fun _ => rfl) dX3_sum_136 ?_
  obtain ⟨h1, hf⟩ := chk_some hf
  refine g_baldj ((sI st 7 6).toNatClampNeg) rfl aS8 (ixb_in h1) dX3_sum_139 ?_
  refine g_istore_n rfl [(2, .int (sI st 8 ((sI st 7 6).toNatClampNeg))), (0, .ref (eB E + 7)), (1, .int l1), (3, .int l3)] (by decide) rfl dX3_sum_140 ?_
  refine g_aload_n rfl 1 rfl dX3_sum_141 ?_
  obtain ⟨q2, h3, hf⟩ := bnd_some hf
  refine g_callV0v (As := []) (rest := []) cok3 mok_X3_step tw3_18 tw3_20 ts2_4 oS7 B.1 (by omega) (kX3_step  h3) rfl rfl (Nat.le_of_ble_eq_true rfl) ⟨Nat.le_refl _, Nat.le_refl _⟩ dX3_sum_142 ?_
  refine g_iinc (l3 + (1 : Int32)) [(3, .int (l3 + (1 : Int32))), (2, .int (sI st 8 ((sI st 7 6).toNatClampNeg))), (0, .ref (eB E + 7)), (1, .int l1)] 3 rfl (congrArg (fun z => l3 + z) (show Int32.ofInt (1) = (1 : Int32) by decide)) (by decide) rfl dX3_sum_145 ?_
  refine g_goto 4 (by decide) dX3_sum_148 ?_
  refine g_lvs [2, 3, 1, 0] rfl ?_
  exact hk4 l1 (sI st 8 ((sI st 7 6).toNatClampNeg)) (l3 + (1 : Int32)) q2 hf
def fX3_sum_b111 (rc : TG3) (k4 : Int32 → Int32 → Int32 → St → Option (Int32 × St))(l1 : Int32) (l3 : Int32) (st : St) : Option (Int32 × St) :=
  (fX3_isSign st (43 : Int32)).bind (fun q1 => if q1 = 0 then ((fX3_isSign st (45 : Int32)).bind (fun q4 => if q4 = 0 then (some ((1 : Int32), st)) else (fX3_sum_b131 rc k4 l1 l3 st))) else (fX3_sum_b131 rc k4 l1 l3 st))
set_option maxHeartbeats 1000000 in
set_option maxRecDepth 20000 in
theorem wX3_sum_b111 {E : Ev} {x : Cx} {rc : TG3} {d : Nat} (hrc : RcOK3 (xl x) E rc d) {r0 : Int32} {u0 : St} (B : Bd E x (some FieldType.boolean) (5 + d + 1) 0 0 (some (.int r0)) u0) {k4 : Int32 → Int32 → Int32 → St → Option (Int32 × St)} (hk4 : ∀ (l1 : Int32) (l2 : Int32) (l3 : Int32) (st : St), k4 l1 l2 l3 st = some (r0, u0) → G E WT x RX3 cX3_sum 6 (0, 0) st 4 [(0, .ref (eB E + 7)), (1, .int l1), (2, .int l2), (3, .int l3)] []) (l1 : Int32) (l3 : Int32) (st : St)  (hf : fX3_sum_b111 rc k4 l1 l3 st = some (r0, u0)) : G E WT x RX3 cX3_sum 6 (0, 0) st 111 [(0, .ref (eB E + 7)), (1, .int l1), (3, .int l3)] [] := by
  unfold fX3_sum_b111 at hf
  refine g_aload_n rfl 0 rfl dX3_sum_111 ?_
  refine g_bipush (43 : Int32) (by decide) dX3_sum_112 ?_
  obtain ⟨q1, h2, hf⟩ := bnd_some hf
  refine g_callV0i (As := [.int (43 : Int32)]) (rest := []) cok3 mok_X3_isSign tw3_88 tw3_90 ts2_9 oS7 B.1 (by omega) (kX3_isSign  h2) rfl rfl (Nat.le_of_ble_eq_true rfl) ⟨Nat.le_refl _, Nat.le_refl _⟩ dX3_sum_114 ?_
  refine g_if_ne 131 (by decide) dX3_sum_117 (fun h3 => ?_) (fun h3 => ?_)
  · rw [if_neg h3] at hf
    refine g_lvs [0, 1, 2] rfl ?_
    exact wX3_sum_b131 hrc B hk4 l1 l3 st hf
  · rw [if_pos h3] at hf
    refine g_aload_n rfl 0 rfl dX3_sum_120 ?_
    refine g_bipush (45 : Int32) (by decide) dX3_sum_121 ?_
    obtain ⟨q4, h5, hf⟩ := bnd_some hf
    refine g_callV0i (As := [.int (45 : Int32)]) (rest := []) cok3 mok_X3_isSign tw3_88 tw3_90 ts2_9 oS7 B.1 (by omega) (kX3_isSign  h5) rfl rfl (Nat.le_of_ble_eq_true rfl) ⟨Nat.le_refl _, Nat.le_refl _⟩ dX3_sum_123 ?_
    refine g_if_ne 131 (by decide) dX3_sum_126 (fun h6 => ?_) (fun h6 => ?_)
    · rw [if_neg h6] at hf
      refine g_lvs [0, 1, 2] rfl ?_
      exact wX3_sum_b131 hrc B hk4 l1 l3 st hf
    · rw [if_pos h6] at hf
      refine g_iconst (1 : Int32) (by decide) dX3_sum_129 ?_
      exact g_zret B.2.2.2 B.2.2.1 (by decide) (congrArg (fun z => some (Value.int z)) (Prod.mk.inj (Option.some.inj hf)).1.symm) (Prod.mk.inj (Option.some.inj hf)).2.symm dX3_sum_130
def fX3_sum_b99 (rc : TG3) (k4 : Int32 → Int32 → Int32 → St → Option (Int32 × St))(l1 : Int32) (l2 : Int32) (l3 : Int32) (st : St) : Option (Int32 × St) :=
  if l2 = 0 then (fX3_sum_b111 rc k4 l1 l3 st) else ((fX5_put l2 st).bind (fun q2 => fX3_sum_b111 rc k4 l1 l3 q2))
set_option maxHeartbeats 1000000 in
set_option maxRecDepth 20000 in
theorem wX3_sum_b99 {E : Ev} {x : Cx} {rc : TG3} {d : Nat} (hrc : RcOK3 (xl x) E rc d) {r0 : Int32} {u0 : St} (B : Bd E x (some FieldType.boolean) (5 + d + 1) 0 0 (some (.int r0)) u0) {k4 : Int32 → Int32 → Int32 → St → Option (Int32 × St)} (hk4 : ∀ (l1 : Int32) (l2 : Int32) (l3 : Int32) (st : St), k4 l1 l2 l3 st = some (r0, u0) → G E WT x RX3 cX3_sum 6 (0, 0) st 4 [(0, .ref (eB E + 7)), (1, .int l1), (2, .int l2), (3, .int l3)] []) (l1 : Int32) (l2 : Int32) (l3 : Int32) (st : St)  (hf : fX3_sum_b99 rc k4 l1 l2 l3 st = some (r0, u0)) : G E WT x RX3 cX3_sum 6 (0, 0) st 99 [(0, .ref (eB E + 7)), (1, .int l1), (2, .int l2), (3, .int l3)] [] := by
  unfold fX3_sum_b99 at hf
  refine g_iload_n rfl 2 rfl dX3_sum_99 ?_
  refine g_if_eq 111 (by decide) dX3_sum_100 (fun h1 => ?_) (fun h1 => ?_)
  · rw [if_pos h1] at hf
    refine g_lvs [0, 1, 3] rfl ?_
    exact wX3_sum_b111 hrc B hk4 l1 l3 st hf
  · rw [if_neg h1] at hf
    refine g_aload_n rfl 0 rfl dX3_sum_103 ?_
    refine g_get (j := 1) cok3 (by decide) (.ref (eB E + 9)) (Or.inl tw1_144) oS7 vS7_1 dX3_sum_104 ?_
    refine g_iload_n rfl 2 rfl dX3_sum_107 ?_
    obtain ⟨q2, h3, hf⟩ := bnd_some hf
    refine g_callVN0v (As := [.int l2]) (rest := []) cok5 mok_X5_put nmm_22 tw3_96 ts2_10 oS9 B.1 (by omega) (kX5_put  h3) rfl rfl (Nat.le_of_ble_eq_true rfl) ⟨Nat.le_refl _, Nat.le_refl _⟩ dX3_sum_108 ?_
    refine g_lvs [0, 1, 3] rfl ?_
    exact wX3_sum_b111 hrc B hk4 l1 l3 q2 hf
def fX3_sum_b59 (rc : TG3) (k4 : Int32 → Int32 → Int32 → St → Option (Int32 × St)) (k24 : Int32 → Int32 → Int32 → Int32 → St → Option (Int32 × St))(l1 : Int32) (l2 : Int32) (l3 : Int32) (l4 : Int32) (st : St) : Option (Int32 × St) :=
  chk (ixb (sI st 7 6) 400) ((fX3_step st).bind (fun q2 => (rc.2 l1 q2).bind (fun q4 => if q4.1 = 0 then (some ((0 : Int32), q4.2)) else ((fX5_put (sI st 8 ((sI st 7 6).toNatClampNeg)) q4.2).bind (fun q7 => k24 l1 l2 l3 (l4 + (1 : Int32)) q7)))))
set_option maxHeartbeats 1000000 in
set_option maxRecDepth 20000 in
theorem wX3_sum_b59 {E : Ev} {x : Cx} {rc : TG3} {d : Nat} (hrc : RcOK3 (xl x) E rc d) {r0 : Int32} {u0 : St} (B : Bd E x (some FieldType.boolean) (5 + d + 1) 0 0 (some (.int r0)) u0) {k4 : Int32 → Int32 → Int32 → St → Option (Int32 × St)} (hk4 : ∀ (l1 : Int32) (l2 : Int32) (l3 : Int32) (st : St), k4 l1 l2 l3 st = some (r0, u0) → G E WT x RX3 cX3_sum 6 (0, 0) st 4 [(0, .ref (eB E + 7)), (1, .int l1), (2, .int l2), (3, .int l3)] []) {k24 : Int32 → Int32 → Int32 → Int32 → St → Option (Int32 × St)} (hk24 : ∀ (l1 : Int32) (l2 : Int32) (l3 : Int32) (l4 : Int32) (st : St), k24 l1 l2 l3 l4 st = some (r0, u0) → G E WT x RX3 cX3_sum 6 (0, 0) st 24 [(0, .ref (eB E + 7)), (1, .int l1), (2, .int l2), (3, .int l3), (4, .int l4)] []) (l1 : Int32) (l2 : Int32) (l3 : Int32) (l4 : Int32) (st : St)  (hf : fX3_sum_b59 rc k4 k24 l1 l2 l3 l4 st = some (r0, u0)) : G E WT x RX3 cX3_sum 6 (0, 0) st 59 [(0, .ref (eB E + 7)), (1, .int l1), (2, .int l2), (3, .int l3), (4, .int l4)] [] := by
  unfold fX3_sum_b59 at hf
  refine g_aload_n rfl 0 rfl dX3_sum_59 ?_
  refine g_get (j := 0) cok3 (by decide) (.ref (eB E + 8)) (Or.inl tw1_142) oS7 vS7_0 dX3_sum_60 ?_
  refine g_aload_n rfl 0 rfl dX3_sum_63 ?_
  refine g_get (j := 6) cok3 (by decide) (.int (sI st 7 6)) (Or.inl tw1_151) oS7 (fun _ => rfl) dX3_sum_64 ?_
  obtain ⟨h1, hf⟩ := chk_some hf
  refine g_baldj ((sI st 7 6).toNatClampNeg) rfl aS8 (ixb_in h1) dX3_sum_67 ?_
  refine g_istore [(5, .int (sI st 8 ((sI st 7 6).toNatClampNeg))), (0, .ref (eB E + 7)), (1, .int l1), (2, .int l2), (3, .int l3), (4, .int l4)] (by decide) rfl dX3_sum_68 ?_
  refine g_aload_n rfl 1 rfl dX3_sum_70 ?_
  obtain ⟨q2, h3, hf⟩ := bnd_some hf
  refine g_callV0v (As := []) (rest := []) cok3 mok_X3_step tw3_18 tw3_20 ts2_4 oS7 B.1 (by omega) (kX3_step  h3) rfl rfl (Nat.le_of_ble_eq_true rfl) ⟨Nat.le_refl _, Nat.le_refl _⟩ dX3_sum_71 ?_
  refine g_aload_n rfl 1 rfl dX3_sum_74 ?_
  refine g_iload_n rfl 2 rfl dX3_sum_75 ?_
  obtain ⟨q4, h5, hf⟩ := bnd_some hf
  refine g_callV0i (As := [.int l1]) (rest := []) cok3 mok_X3_part tw3_84 tw3_86 ts2_8 oS7 B.1 (by omega) (hrc.2 h5) rfl rfl (Nat.le_of_ble_eq_true rfl) ⟨Nat.le_refl _, Nat.le_refl _⟩ dX3_sum_76 ?_
  refine g_if_ne 84 (by decide) dX3_sum_79 (fun h6 => ?_) (fun h6 => ?_)
  · rw [if_neg h6] at hf
    refine g_aload_n rfl 1 rfl dX3_sum_84 ?_
    refine g_get (j := 1) cok3 (by decide) (.ref (eB E + 9)) (Or.inl tw1_144) oS7 vS7_1 dX3_sum_85 ?_
    refine g_iload 0 rfl dX3_sum_88 ?_
    obtain ⟨q7, h8, hf⟩ := bnd_some hf
    refine g_callVN0v (As := [.int (sI st 8 ((sI st 7 6).toNatClampNeg))]) (rest := []) cok5 mok_X5_put nmm_22 tw3_96 ts2_10 oS9 B.1 (by omega) (kX5_put  h8) rfl rfl (Nat.le_of_ble_eq_true rfl) ⟨Nat.le_refl _, Nat.le_refl _⟩ dX3_sum_90 ?_
    refine g_iinc (l4 + (1 : Int32)) [(4, .int (l4 + (1 : Int32))), (5, .int (sI st 8 ((sI st 7 6).toNatClampNeg))), (0, .ref (eB E + 7)), (1, .int l1), (2, .int l2), (3, .int l3)] 5 rfl (congrArg (fun z => l4 + z) (show Int32.ofInt (1) = (1 : Int32) by decide)) (by decide) rfl dX3_sum_93 ?_
    refine g_goto 24 (by decide) dX3_sum_96 ?_
    refine g_lvs [2, 3, 4, 5, 0] rfl ?_
    exact hk24 l1 l2 l3 (l4 + (1 : Int32)) q7 hf
  · rw [if_pos h6] at hf
    refine g_iconst (0 : Int32) (by decide) dX3_sum_82 ?_
    exact g_zret B.2.2.2 B.2.2.1 (by decide) (congrArg (fun z => some (Value.int z)) (Prod.mk.inj (Option.some.inj hf)).1.symm) (Prod.mk.inj (Option.some.inj hf)).2.symm dX3_sum_83
def fX3_sum_b24 (rc : TG3) (k4 : Int32 → Int32 → Int32 → St → Option (Int32 × St)) : Nat → Int32 → Int32 → Int32 → Int32 → St → Option (Int32 × St)
  | 0, _, _, _, _, _ => none
  | n + 1, l1, l2, l3, l4, st => if (400 : Int32) ≤ l4 then (fX3_sum_b99 rc k4 l1 l2 l3 st) else ((fX3_isSign st (42 : Int32)).bind (fun q2 => if q2 = 0 then ((fX3_isSign st (47 : Int32)).bind (fun q5 => if q5 = 0 then ((fX3_isSign st (37 : Int32)).bind (fun q8 => if q8 = 0 then (fX3_sum_b99 rc k4 l1 l2 l3 st) else (fX3_sum_b59 rc k4 (fun zl1 zl2 zl3 zl4 zst => fX3_sum_b24 rc k4 n zl1 zl2 zl3 zl4 zst) l1 l2 l3 l4 st))) else (fX3_sum_b59 rc k4 (fun zl1 zl2 zl3 zl4 zst => fX3_sum_b24 rc k4 n zl1 zl2 zl3 zl4 zst) l1 l2 l3 l4 st))) else (fX3_sum_b59 rc k4 (fun zl1 zl2 zl3 zl4 zst => fX3_sum_b24 rc k4 n zl1 zl2 zl3 zl4 zst) l1 l2 l3 l4 st)))
set_option maxHeartbeats 1000000 in
set_option maxRecDepth 20000 in
theorem wX3_sum_b24 {E : Ev} {x : Cx} {rc : TG3} {d : Nat} (hrc : RcOK3 (xl x) E rc d) {r0 : Int32} {u0 : St} (B : Bd E x (some FieldType.boolean) (5 + d + 1) 0 0 (some (.int r0)) u0) {k4 : Int32 → Int32 → Int32 → St → Option (Int32 × St)} (hk4 : ∀ (l1 : Int32) (l2 : Int32) (l3 : Int32) (st : St), k4 l1 l2 l3 st = some (r0, u0) → G E WT x RX3 cX3_sum 6 (0, 0) st 4 [(0, .ref (eB E + 7)), (1, .int l1), (2, .int l2), (3, .int l3)] []) : ∀ (n : Nat) (l1 : Int32) (l2 : Int32) (l3 : Int32) (l4 : Int32) (st : St) , fX3_sum_b24 rc k4 n l1 l2 l3 l4 st = some (r0, u0) → G E WT x RX3 cX3_sum 6 (0, 0) st 24 [(0, .ref (eB E + 7)), (1, .int l1), (2, .int l2), (3, .int l3), (4, .int l4)] [] := by
  intro n
  induction n with
  | zero =>
    intros
    rename_i hf
    rw [fX3_sum_b24] at hf
    cases hf
  | succ n ih =>
    intro l1 l2 l3 l4 st hf
    rw [fX3_sum_b24] at hf
    refine g_iload 4 rfl dX3_sum_24 ?_
    refine g_sipush (400 : Int32) (by decide) dX3_sum_26 ?_
    refine g_icmp_ge 99 (by decide) dX3_sum_29 (fun h1 => ?_) (fun h1 => ?_)
    · rw [if_pos h1] at hf
      refine g_lvs [0, 1, 2, 3] rfl ?_
      exact wX3_sum_b99 hrc B hk4 l1 l2 l3 st hf
    · rw [if_neg h1] at hf
      refine g_aload_n rfl 0 rfl dX3_sum_32 ?_
      refine g_bipush (42 : Int32) (by decide) dX3_sum_33 ?_
      obtain ⟨q2, h3, hf⟩ := bnd_some hf
      refine g_callV0i (As := [.int (42 : Int32)]) (rest := []) cok3 mok_X3_isSign tw3_88 tw3_90 ts2_9 oS7 B.1 (by omega) (kX3_isSign  h3) rfl rfl (Nat.le_of_ble_eq_true rfl) ⟨Nat.le_refl _, Nat.le_refl _⟩ dX3_sum_35 ?_
      refine g_if_ne 59 (by decide) dX3_sum_38 (fun h4 => ?_) (fun h4 => ?_)
      · rw [if_neg h4] at hf
        refine g_lvs [0, 1, 2, 3, 4] rfl ?_
        exact wX3_sum_b59 hrc B hk4 ih l1 l2 l3 l4 st hf
      · rw [if_pos h4] at hf
        refine g_aload_n rfl 0 rfl dX3_sum_41 ?_
        refine g_bipush (47 : Int32) (by decide) dX3_sum_42 ?_
        obtain ⟨q5, h6, hf⟩ := bnd_some hf
        refine g_callV0i (As := [.int (47 : Int32)]) (rest := []) cok3 mok_X3_isSign tw3_88 tw3_90 ts2_9 oS7 B.1 (by omega) (kX3_isSign  h6) rfl rfl (Nat.le_of_ble_eq_true rfl) ⟨Nat.le_refl _, Nat.le_refl _⟩ dX3_sum_44 ?_
        refine g_if_ne 59 (by decide) dX3_sum_47 (fun h7 => ?_) (fun h7 => ?_)
        · rw [if_neg h7] at hf
          refine g_lvs [0, 1, 2, 3, 4] rfl ?_
          exact wX3_sum_b59 hrc B hk4 ih l1 l2 l3 l4 st hf
        · rw [if_pos h7] at hf
          refine g_aload_n rfl 0 rfl dX3_sum_50 ?_
          refine g_bipush (37 : Int32) (by decide) dX3_sum_51 ?_
          obtain ⟨q8, h9, hf⟩ := bnd_some hf
          refine g_callV0i (As := [.int (37 : Int32)]) (rest := []) cok3 mok_X3_isSign tw3_88 tw3_90 ts2_9 oS7 B.1 (by omega) (kX3_isSign  h9) rfl rfl (Nat.le_of_ble_eq_true rfl) ⟨Nat.le_refl _, Nat.le_refl _⟩ dX3_sum_53 ?_
          refine g_if_eq 99 (by decide) dX3_sum_56 (fun h10 => ?_) (fun h10 => ?_)
          · rw [if_pos h10] at hf
            refine g_lvs [0, 1, 2, 3] rfl ?_
            exact wX3_sum_b99 hrc B hk4 l1 l2 l3 st hf
          · rw [if_neg h10] at hf
            refine g_lvs [0, 1, 2, 3, 4] rfl ?_
            exact wX3_sum_b59 hrc B hk4 ih l1 l2 l3 l4 st hf
def fX3_sum_b4 (rc : TG3)  : Nat → Int32 → Int32 → Int32 → St → Option (Int32 × St)
  | 0, _, _, _, _ => none
  | n + 1, l1, l2, l3, st => if (400 : Int32) ≤ l3 then (some ((0 : Int32), st)) else ((rc.2 l1 st).bind (fun q2 => if q2.1 = 0 then (some ((0 : Int32), q2.2)) else (fX3_sum_b24 rc (fun zl1 zl2 zl3 zst => fX3_sum_b4 rc n zl1 zl2 zl3 zst) FU l1 l2 l3 (0 : Int32) q2.2)))
set_option maxHeartbeats 1000000 in
set_option maxRecDepth 20000 in
theorem wX3_sum_b4 {E : Ev} {x : Cx} {rc : TG3} {d : Nat} (hrc : RcOK3 (xl x) E rc d) {r0 : Int32} {u0 : St} (B : Bd E x (some FieldType.boolean) (5 + d + 1) 0 0 (some (.int r0)) u0) : ∀ (n : Nat) (l1 : Int32) (l2 : Int32) (l3 : Int32) (st : St) , fX3_sum_b4 rc n l1 l2 l3 st = some (r0, u0) → G E WT x RX3 cX3_sum 6 (0, 0) st 4 [(0, .ref (eB E + 7)), (1, .int l1), (2, .int l2), (3, .int l3)] [] := by
  intro n
  induction n with
  | zero =>
    intros
    rename_i hf
    rw [fX3_sum_b4] at hf
    cases hf
  | succ n ih =>
    intro l1 l2 l3 st hf
    rw [fX3_sum_b4] at hf
    refine g_iload_n rfl 3 rfl dX3_sum_4 ?_
    refine g_sipush (400 : Int32) (by decide) dX3_sum_5 ?_
    refine g_icmp_ge 151 (by decide) dX3_sum_8 (fun h1 => ?_) (fun h1 => ?_)
    · rw [if_pos h1] at hf
      refine g_iconst (0 : Int32) (by decide) dX3_sum_151 ?_
      exact g_zret B.2.2.2 B.2.2.1 (by decide) (congrArg (fun z => some (Value.int z)) (Prod.mk.inj (Option.some.inj hf)).1.symm) (Prod.mk.inj (Option.some.inj hf)).2.symm dX3_sum_152
    · rw [if_neg h1] at hf
      refine g_aload_n rfl 0 rfl dX3_sum_11 ?_
      refine g_iload_n rfl 1 rfl dX3_sum_12 ?_
      obtain ⟨q2, h3, hf⟩ := bnd_some hf
      refine g_callV0i (As := [.int l1]) (rest := []) cok3 mok_X3_part tw3_84 tw3_86 ts2_8 oS7 B.1 (by omega) (hrc.2 h3) rfl rfl (Nat.le_of_ble_eq_true rfl) ⟨Nat.le_refl _, Nat.le_refl _⟩ dX3_sum_13 ?_
      refine g_if_ne 21 (by decide) dX3_sum_16 (fun h4 => ?_) (fun h4 => ?_)
      · rw [if_neg h4] at hf
        refine g_iconst (0 : Int32) (by decide) dX3_sum_21 ?_
        refine g_istore [(4, .int (0 : Int32)), (0, .ref (eB E + 7)), (1, .int l1), (2, .int l2), (3, .int l3)] (by decide) rfl dX3_sum_22 ?_
        refine g_lvs [1, 2, 3, 4, 0] rfl ?_
        exact wX3_sum_b24 hrc B ih FU l1 l2 l3 (0 : Int32) q2.2 hf
      · rw [if_pos h4] at hf
        refine g_iconst (0 : Int32) (by decide) dX3_sum_19 ?_
        exact g_zret B.2.2.2 B.2.2.1 (by decide) (congrArg (fun z => some (Value.int z)) (Prod.mk.inj (Option.some.inj hf)).1.symm) (Prod.mk.inj (Option.some.inj hf)).2.symm dX3_sum_20
def fX3_sum_g (rc : TG3) (p1 : Int32) (st : St) : Option (Int32 × St) :=
  fX3_sum_b4 rc FU p1 (0 : Int32) (0 : Int32) st
set_option maxHeartbeats 1000000 in
set_option maxRecDepth 20000 in
theorem wX3_sum {E : Ev} {x : Cx} {rc : TG3} {d : Nat} (hrc : RcOK3 (xl x) E rc d) {r0 : Int32} {u0 : St} (B : Bd E x (some FieldType.boolean) (5 + d + 1) 0 0 (some (.int r0)) u0) (p1 : Int32) (st : St)  (hf : fX3_sum_g rc p1 st = some (r0, u0)) : G E WT x RX3 cX3_sum 6 (0, 0) st 0 [(0, .ref (eB E + 7)), (1, .int p1)] [] := by
  unfold fX3_sum_g at hf
  refine g_iconst (0 : Int32) (by decide) dX3_sum_0 ?_
  refine g_istore_n rfl [(2, .int (0 : Int32)), (0, .ref (eB E + 7)), (1, .int p1)] (by decide) rfl dX3_sum_1 ?_
  refine g_iconst (0 : Int32) (by decide) dX3_sum_2 ?_
  refine g_istore_n rfl [(3, .int (0 : Int32)), (2, .int (0 : Int32)), (0, .ref (eB E + 7)), (1, .int p1)] (by decide) rfl dX3_sum_3 ?_
  refine g_lvs [2, 3, 1, 0] rfl ?_
  exact wX3_sum_b4 hrc B  FU p1 (0 : Int32) (0 : Int32) st hf
def fX3_part_b198 (rc : TG3) (l3 : Int32) (s1 : Int32) (st : St) : Option (Int32 × St) :=
  (fX5_put s1 st).bind (fun q1 => (fX5_put l3 q1).bind (fun q3 => some ((1 : Int32), q3)))
set_option maxHeartbeats 1000000 in
set_option maxRecDepth 20000 in
theorem wX3_part_b198 {E : Ev} {x : Cx} {rc : TG3} {d : Nat} (hrc : RcOK3 (xl x) E rc d) {r0 : Int32} {u0 : St} (B : Bd E x (some FieldType.boolean) (5 + d + 1) 0 0 (some (.int r0)) u0) (l3 : Int32) (s1 : Int32) (st : St)  (hf : fX3_part_b198 rc l3 s1 st = some (r0, u0)) : G E WT x RX3 cX3_part 4 (0, 0) st 198 [(0, .ref (eB E + 7)), (3, .int l3)] [.int s1, .ref (eB E + 9)] := by
  unfold fX3_part_b198 at hf
  obtain ⟨q1, h2, hf⟩ := bnd_some hf
  refine g_callVN0v (As := [.int s1]) (rest := []) cok5 mok_X5_put nmm_22 tw3_96 ts2_10 oS9 B.1 (by omega) (kX5_put  h2) rfl rfl (Nat.le_of_ble_eq_true rfl) ⟨Nat.le_refl _, Nat.le_refl _⟩ dX3_part_198 ?_
  refine g_aload_n rfl 0 rfl dX3_part_201 ?_
  refine g_get (j := 1) cok3 (by decide) (.ref (eB E + 9)) (Or.inl tw1_144) oS7 vS7_1 dX3_part_202 ?_
  refine g_iload_n rfl 1 rfl dX3_part_205 ?_
  obtain ⟨q3, h4, hf⟩ := bnd_some hf
  refine g_callVN0v (As := [.int l3]) (rest := []) cok5 mok_X5_put nmm_22 tw3_96 ts2_10 oS9 B.1 (by omega) (kX5_put  h4) rfl rfl (Nat.le_of_ble_eq_true rfl) ⟨Nat.le_refl _, Nat.le_refl _⟩ dX3_part_206 ?_
  refine g_iconst (1 : Int32) (by decide) dX3_part_209 ?_
  exact g_zret B.2.2.2 B.2.2.1 (by decide) (congrArg (fun z => some (Value.int z)) (Prod.mk.inj (Option.some.inj hf)).1.symm) (Prod.mk.inj (Option.some.inj hf)).2.symm dX3_part_210
def fX3_part_b185 (rc : TG3) (l2 : Int32) (l3 : Int32) (st : St) : Option (Int32 × St) :=
  if l2 = 0 then (fX3_part_b198 rc l3 (2 : Int32) st) else (fX3_part_b198 rc l3 (1 : Int32) st)
set_option maxHeartbeats 1000000 in
set_option maxRecDepth 20000 in
theorem wX3_part_b185 {E : Ev} {x : Cx} {rc : TG3} {d : Nat} (hrc : RcOK3 (xl x) E rc d) {r0 : Int32} {u0 : St} (B : Bd E x (some FieldType.boolean) (5 + d + 1) 0 0 (some (.int r0)) u0) (l2 : Int32) (l3 : Int32) (st : St)  (hf : fX3_part_b185 rc l2 l3 st = some (r0, u0)) : G E WT x RX3 cX3_part 4 (0, 0) st 185 [(0, .ref (eB E + 7)), (2, .int l2), (3, .int l3)] [] := by
  unfold fX3_part_b185 at hf
  refine g_aload_n rfl 0 rfl dX3_part_185 ?_
  refine g_get (j := 1) cok3 (by decide) (.ref (eB E + 9)) (Or.inl tw1_144) oS7 vS7_1 dX3_part_186 ?_
  refine g_iload_n rfl 1 rfl dX3_part_189 ?_
  refine g_if_eq 197 (by decide) dX3_part_190 (fun h1 => ?_) (fun h1 => ?_)
  · rw [if_pos h1] at hf
    refine g_iconst (2 : Int32) (by decide) dX3_part_197 ?_
    refine g_lvs [0, 2] rfl ?_
    exact wX3_part_b198 hrc B  l3 (2 : Int32) st hf
  · rw [if_neg h1] at hf
    refine g_iconst (1 : Int32) (by decide) dX3_part_193 ?_
    refine g_goto 198 (by decide) dX3_part_194 ?_
    refine g_lvs [0, 2] rfl ?_
    exact wX3_part_b198 hrc B  l3 (1 : Int32) st hf
def fX3_part_b101 (rc : TG3) (l2 : Int32) (s0 : Int32) (st : St) : Option (Int32 × St) :=
  if s0 = (-1 : Int32) then (some ((0 : Int32), st)) else (if (sI st 7 4) < (50 : Int32) then ((fX3_step (pI st 7 4 ((sI st 7 4) + (1 : Int32)))).bind (fun q3 => if l2 = 0 then (if (sI q3 7 3) = 0 then (if s0 < (5 : Int32) then (fX3_part_b185 rc l2 s0 q3) else (if (sI q3 7 5) = (3 : Int32) then (if (sI q3 7 8) < (6 : Int32) then ((fX3_step q3).bind (fun q10 => fX3_part_b185 rc l2 (((5 : Int32) + ((s0 - (5 : Int32)) * (6 : Int32))) + (sI q3 7 8)) q10)) else (some ((0 : Int32), q3))) else (some ((0 : Int32), q3)))) else (fX3_part_b185 rc l2 s0 q3)) else (fX3_part_b185 rc l2 s0 q3))) else (some ((0 : Int32), st)))
set_option maxHeartbeats 1000000 in
set_option maxRecDepth 20000 in
theorem wX3_part_b101 {E : Ev} {x : Cx} {rc : TG3} {d : Nat} (hrc : RcOK3 (xl x) E rc d) {r0 : Int32} {u0 : St} (B : Bd E x (some FieldType.boolean) (5 + d + 1) 0 0 (some (.int r0)) u0) (l2 : Int32) (s0 : Int32) (st : St)  (hf : fX3_part_b101 rc l2 s0 st = some (r0, u0)) : G E WT x RX3 cX3_part 4 (0, 0) st 101 [(0, .ref (eB E + 7)), (2, .int l2)] [.int s0] := by
  unfold fX3_part_b101 at hf
  refine g_istore_n rfl [(3, .int s0), (0, .ref (eB E + 7)), (2, .int l2)] (by decide) rfl dX3_part_101 ?_
  refine g_iload_n rfl 0 rfl dX3_part_102 ?_
  refine g_iconst (-1 : Int32) (by decide) dX3_part_103 ?_
  refine g_icmp_eq 116 (by decide) dX3_part_104 (fun h1 => ?_) (fun h1 => ?_)
  · rw [if_pos h1] at hf
    refine g_iconst (0 : Int32) (by decide) dX3_part_116 ?_
    exact g_zret B.2.2.2 B.2.2.1 (by decide) (congrArg (fun z => some (Value.int z)) (Prod.mk.inj (Option.some.inj hf)).1.symm) (Prod.mk.inj (Option.some.inj hf)).2.symm dX3_part_117
  · rw [if_neg h1] at hf
    refine g_aload_n rfl 1 rfl dX3_part_107 ?_
    refine g_get (j := 4) cok3 (by decide) (.int (sI st 7 4)) (Or.inl tw1_149) oS7 (fun _ => rfl) dX3_part_108 ?_
    refine g_bipush (50 : Int32) (by decide) dX3_part_111 ?_
    refine g_icmp_lt 118 (by decide) dX3_part_113 (fun h2 => ?_) (fun h2 => ?_)
    · rw [if_pos h2] at hf
      refine g_aload_n rfl 1 rfl dX3_part_118 ?_
      refine g_dup rfl dX3_part_119 ?_
      refine g_get (j := 4) cok3 (by decide) (.int (sI st 7 4)) (Or.inl tw1_149) oS7 (fun _ => rfl) dX3_part_120 ?_
      refine g_iconst (1 : Int32) (by decide) dX3_part_123 ?_
      refine g_iadd dX3_part_124 ?_
      refine g_putI (j := 4) cok3 (by decide) rfl rfl rfl rfl (Or.inl tw1_149) oS7 B.2.1 wpI dX3_part_125 ?_
      refine g_aload_n rfl 1 rfl dX3_part_128 ?_
      obtain ⟨q3, h4, hf⟩ := bnd_some hf
      refine g_callV0v (As := []) (rest := []) cok3 mok_X3_step tw3_18 tw3_20 ts2_4 oS7 B.1 (by omega) (kX3_step  h4) rfl rfl (Nat.le_of_ble_eq_true rfl) ⟨Nat.le_refl _, Nat.le_refl _⟩ dX3_part_129 ?_
      refine g_iload_n rfl 2 rfl dX3_part_132 ?_
      refine g_if_ne 185 (by decide) dX3_part_133 (fun h5 => ?_) (fun h5 => ?_)
      · rw [if_neg h5] at hf
        refine g_lvs [1, 2, 0] rfl ?_
        exact wX3_part_b185 hrc B  l2 s0 q3 hf
      · rw [if_pos h5] at hf
        refine g_aload_n rfl 1 rfl dX3_part_136 ?_
        refine g_get (j := 3) cok3 (by decide) (.int (sI q3 7 3)) (Or.inl tw1_148) oS7 (fun _ => rfl) dX3_part_137 ?_
        refine g_if_ne 185 (by decide) dX3_part_140 (fun h6 => ?_) (fun h6 => ?_)
        · rw [if_neg h6] at hf
          refine g_lvs [1, 2, 0] rfl ?_
          exact wX3_part_b185 hrc B  l2 s0 q3 hf
        · rw [if_pos h6] at hf
          refine g_iload_n rfl 0 rfl dX3_part_143 ?_
          refine g_iconst (5 : Int32) (by decide) dX3_part_144 ?_
          refine g_icmp_lt 185 (by decide) dX3_part_145 (fun h7 => ?_) (fun h7 => ?_)
          · rw [if_pos h7] at hf
            refine g_lvs [1, 2, 0] rfl ?_
            exact wX3_part_b185 hrc B  l2 s0 q3 hf
          · rw [if_neg h7] at hf
            refine g_aload_n rfl 1 rfl dX3_part_148 ?_
            refine g_get (j := 5) cok3 (by decide) (.int (sI q3 7 5)) (Or.inl tw1_150) oS7 (fun _ => rfl) dX3_part_149 ?_
            refine g_iconst (3 : Int32) (by decide) dX3_part_152 ?_
            refine g_icmp_ne 165 (by decide) dX3_part_153 (fun h8 => ?_) (fun h8 => ?_)
            · rw [if_neg h8] at hf
              refine g_iconst (0 : Int32) (by decide) dX3_part_165 ?_
              exact g_zret B.2.2.2 B.2.2.1 (by decide) (congrArg (fun z => some (Value.int z)) (Prod.mk.inj (Option.some.inj hf)).1.symm) (Prod.mk.inj (Option.some.inj hf)).2.symm dX3_part_166
            · rw [if_pos h8] at hf
              refine g_aload_n rfl 1 rfl dX3_part_156 ?_
              refine g_get (j := 8) cok3 (by decide) (.int (sI q3 7 8)) (Or.inl tw1_153) oS7 (fun _ => rfl) dX3_part_157 ?_
              refine g_bipush (6 : Int32) (by decide) dX3_part_160 ?_
              refine g_icmp_lt 167 (by decide) dX3_part_162 (fun h9 => ?_) (fun h9 => ?_)
              · rw [if_pos h9] at hf
                refine g_iconst (5 : Int32) (by decide) dX3_part_167 ?_
                refine g_iload_n rfl 0 rfl dX3_part_168 ?_
                refine g_iconst (5 : Int32) (by decide) dX3_part_169 ?_
                refine g_isub dX3_part_170 ?_
                refine g_bipush (6 : Int32) (by decide) dX3_part_171 ?_
                refine g_imul dX3_part_173 ?_
                refine g_iadd dX3_part_174 ?_
                refine g_aload_n rfl 1 rfl dX3_part_175 ?_
                refine g_get (j := 8) cok3 (by decide) (.int (sI q3 7 8)) (Or.inl tw1_153) oS7 (fun _ => rfl) dX3_part_176 ?_
                refine g_iadd dX3_part_179 ?_
                refine g_istore_n rfl [(3, .int (((5 : Int32) + ((s0 - (5 : Int32)) * (6 : Int32))) + (sI q3 7 8))), (0, .ref (eB E + 7)), (2, .int l2)] (by decide) rfl dX3_part_180 ?_
                refine g_aload_n rfl 1 rfl dX3_part_181 ?_
                obtain ⟨q10, h11, hf⟩ := bnd_some hf
                refine g_callV0v (As := []) (rest := []) cok3 mok_X3_step tw3_18 tw3_20 ts2_4 oS7 B.1 (by omega) (kX3_step  h11) rfl rfl (Nat.le_of_ble_eq_true rfl) ⟨Nat.le_refl _, Nat.le_refl _⟩ dX3_part_182 ?_
                refine g_lvs [1, 2, 0] rfl ?_
                exact wX3_part_b185 hrc B  l2 (((5 : Int32) + ((s0 - (5 : Int32)) * (6 : Int32))) + (sI q3 7 8)) q10 hf
              · rw [if_neg h9] at hf
                refine g_iconst (0 : Int32) (by decide) dX3_part_165 ?_
                exact g_zret B.2.2.2 B.2.2.1 (by decide) (congrArg (fun z => some (Value.int z)) (Prod.mk.inj (Option.some.inj hf)).1.symm) (Prod.mk.inj (Option.some.inj hf)).2.symm dX3_part_166
    · rw [if_neg h2] at hf
      refine g_iconst (0 : Int32) (by decide) dX3_part_116 ?_
      exact g_zret B.2.2.2 B.2.2.1 (by decide) (congrArg (fun z => some (Value.int z)) (Prod.mk.inj (Option.some.inj hf)).1.symm) (Prod.mk.inj (Option.some.inj hf)).2.symm dX3_part_117
def fX3_part_b98 (rc : TG3) (l2 : Int32) (s1 : Nat) (st : St) : Option (Int32 × St) :=
  (fX3_which st s1).bind (fun q1 => fX3_part_b101 rc l2 q1 st)
set_option maxHeartbeats 1000000 in
set_option maxRecDepth 20000 in
theorem wX3_part_b98 {E : Ev} {x : Cx} {rc : TG3} {d : Nat} (hrc : RcOK3 (xl x) E rc d) {r0 : Int32} {u0 : St} (B : Bd E x (some FieldType.boolean) (5 + d + 1) 0 0 (some (.int r0)) u0) (l2 : Int32) (s1 : Nat) (st : St) (h_s1 : s1 < 9) (hf : fX3_part_b98 rc l2 s1 st = some (r0, u0)) : G E WT x RX3 cX3_part 4 (0, 0) st 98 [(0, .ref (eB E + 7)), (2, .int l2)] [.ref (eSK E s1), .ref (eB E + 7)] := by
  unfold fX3_part_b98 at hf
  obtain ⟨q1, h2, hf⟩ := bnd_some hf
  refine g_callV0i (As := [.ref (eSK E s1)]) (rest := []) cok3 mok_X3_which tw3_28 tw3_30 ts2_6 oS7 B.1 (by omega) (kX3_which h_s1 h2) rfl rfl (Nat.le_of_ble_eq_true rfl) ⟨Nat.le_refl _, Nat.le_refl _⟩ dX3_part_98 ?_
  refine g_lvs [0, 1] rfl ?_
  exact wX3_part_b101 hrc B  l2 q1 st hf
def fX3_part_b71 (rc : TG3) (s0 : Int32) (st : St) : Option (Int32 × St) :=
  if s0 = 0 then (if (sI st 7 3) = 0 then (fX3_part_b98 rc s0 3 st) else (fX3_part_b98 rc s0 2 st)) else (fX3_part_b101 rc s0 (sI st 7 8) st)
set_option maxHeartbeats 1000000 in
set_option maxRecDepth 20000 in
theorem wX3_part_b71 {E : Ev} {x : Cx} {rc : TG3} {d : Nat} (hrc : RcOK3 (xl x) E rc d) {r0 : Int32} {u0 : St} (B : Bd E x (some FieldType.boolean) (5 + d + 1) 0 0 (some (.int r0)) u0) (s0 : Int32) (st : St)  (hf : fX3_part_b71 rc s0 st = some (r0, u0)) : G E WT x RX3 cX3_part 4 (0, 0) st 71 [(0, .ref (eB E + 7))] [.int s0] := by
  unfold fX3_part_b71 at hf
  refine g_istore_n rfl [(2, .int s0), (0, .ref (eB E + 7))] (by decide) rfl dX3_part_71 ?_
  refine g_iload_n rfl 0 rfl dX3_part_72 ?_
  refine g_if_eq 83 (by decide) dX3_part_73 (fun h1 => ?_) (fun h1 => ?_)
  · rw [if_pos h1] at hf
    refine g_aload_n rfl 1 rfl dX3_part_83 ?_
    refine g_aload_n rfl 1 rfl dX3_part_84 ?_
    refine g_get (j := 3) cok3 (by decide) (.int (sI st 7 3)) (Or.inl tw1_148) oS7 (fun _ => rfl) dX3_part_85 ?_
    refine g_if_eq 96 (by decide) dX3_part_88 (fun h2 => ?_) (fun h2 => ?_)
    · rw [if_pos h2] at hf
      refine g_ldcS 3 (by decide) rfl dX3_part_96 ?_
      refine g_lvs [1, 0] rfl ?_
      exact wX3_part_b98 hrc B  s0 3 st (by decide) hf
    · rw [if_neg h2] at hf
      refine g_ldcS 2 (by decide) rfl dX3_part_91 ?_
      refine g_goto 98 (by decide) dX3_part_93 ?_
      refine g_lvs [1, 0] rfl ?_
      exact wX3_part_b98 hrc B  s0 2 st (by decide) hf
  · rw [if_neg h1] at hf
    refine g_aload_n rfl 1 rfl dX3_part_76 ?_
    refine g_get (j := 8) cok3 (by decide) (.int (sI st 7 8)) (Or.inl tw1_153) oS7 (fun _ => rfl) dX3_part_77 ?_
    refine g_goto 101 (by decide) dX3_part_80 ?_
    refine g_lvs [1, 0] rfl ?_
    exact wX3_part_b101 hrc B  s0 (sI st 7 8) st hf
def fX3_part_b70 (rc : TG3)  (st : St) : Option (Int32 × St) :=
  fX3_part_b71 rc (0 : Int32) st
set_option maxHeartbeats 1000000 in
set_option maxRecDepth 20000 in
theorem wX3_part_b70 {E : Ev} {x : Cx} {rc : TG3} {d : Nat} (hrc : RcOK3 (xl x) E rc d) {r0 : Int32} {u0 : St} (B : Bd E x (some FieldType.boolean) (5 + d + 1) 0 0 (some (.int r0)) u0)  (st : St)  (hf : fX3_part_b70 rc st = some (r0, u0)) : G E WT x RX3 cX3_part 4 (0, 0) st 70 [(0, .ref (eB E + 7))] [] := by
  unfold fX3_part_b70 at hf
  refine g_iconst (0 : Int32) (by decide) dX3_part_70 ?_
  refine g_lvs [0] rfl ?_
  exact wX3_part_b71 hrc B  (0 : Int32) st hf
def fX3_part_g (rc : TG3) (p1 : Int32) (st : St) : Option (Int32 × St) :=
  (fX3_isSign st (91 : Int32)).bind (fun q1 => if q1 = 0 then (if (sI st 7 5) = (3 : Int32) then (if (1000 : Int32) < (sI st 7 8) then (fX3_part_b70 rc  st) else (fX3_part_b71 rc (1 : Int32) st)) else (fX3_part_b70 rc  st)) else (if p1 < (8 : Int32) then ((fX3_step st).bind (fun q7 => (rc.1 (p1 + (1 : Int32)) q7).bind (fun q9 => if q9.1 = 0 then (some ((0 : Int32), q9.2)) else ((fX3_isSign q9.2 (93 : Int32)).bind (fun q12 => if q12 = 0 then (some ((0 : Int32), q9.2)) else ((fX3_step q9.2).bind (fun q15 => some ((1 : Int32), q15)))))))) else (some ((0 : Int32), st))))
set_option maxHeartbeats 1000000 in
set_option maxRecDepth 20000 in
theorem wX3_part {E : Ev} {x : Cx} {rc : TG3} {d : Nat} (hrc : RcOK3 (xl x) E rc d) {r0 : Int32} {u0 : St} (B : Bd E x (some FieldType.boolean) (5 + d + 1) 0 0 (some (.int r0)) u0) (p1 : Int32) (st : St)  (hf : fX3_part_g rc p1 st = some (r0, u0)) : G E WT x RX3 cX3_part 4 (0, 0) st 0 [(0, .ref (eB E + 7)), (1, .int p1)] [] := by
  unfold fX3_part_g at hf
  refine g_aload_n rfl 0 rfl dX3_part_0 ?_
  refine g_bipush (91 : Int32) (by decide) dX3_part_1 ?_
  obtain ⟨q1, h2, hf⟩ := bnd_some hf
  refine g_callV0i (As := [.int (91 : Int32)]) (rest := []) cok3 mok_X3_isSign tw3_88 tw3_90 ts2_9 oS7 B.1 (by omega) (kX3_isSign  h2) rfl rfl (Nat.le_of_ble_eq_true rfl) ⟨Nat.le_refl _, Nat.le_refl _⟩ dX3_part_3 ?_
  refine g_if_eq 48 (by decide) dX3_part_6 (fun h3 => ?_) (fun h3 => ?_)
  · rw [if_pos h3] at hf
    refine g_aload_n rfl 0 rfl dX3_part_48 ?_
    refine g_get (j := 5) cok3 (by decide) (.int (sI st 7 5)) (Or.inl tw1_150) oS7 (fun _ => rfl) dX3_part_49 ?_
    refine g_iconst (3 : Int32) (by decide) dX3_part_52 ?_
    refine g_icmp_ne 70 (by decide) dX3_part_53 (fun h4 => ?_) (fun h4 => ?_)
    · rw [if_neg h4] at hf
      refine g_lvs [0] rfl ?_
      exact wX3_part_b70 hrc B  st hf
    · rw [if_pos h4] at hf
      refine g_aload_n rfl 0 rfl dX3_part_56 ?_
      refine g_get (j := 8) cok3 (by decide) (.int (sI st 7 8)) (Or.inl tw1_153) oS7 (fun _ => rfl) dX3_part_57 ?_
      refine g_sipush (1000 : Int32) (by decide) dX3_part_60 ?_
      refine g_icmp_gt 70 (by decide) dX3_part_63 (fun h5 => ?_) (fun h5 => ?_)
      · rw [if_pos h5] at hf
        refine g_lvs [0] rfl ?_
        exact wX3_part_b70 hrc B  st hf
      · rw [if_neg h5] at hf
        refine g_iconst (1 : Int32) (by decide) dX3_part_66 ?_
        refine g_goto 71 (by decide) dX3_part_67 ?_
        refine g_lvs [0] rfl ?_
        exact wX3_part_b71 hrc B  (1 : Int32) st hf
  · rw [if_neg h3] at hf
    refine g_iload_n rfl 1 rfl dX3_part_9 ?_
    refine g_bipush (8 : Int32) (by decide) dX3_part_10 ?_
    refine g_icmp_lt 17 (by decide) dX3_part_12 (fun h6 => ?_) (fun h6 => ?_)
    · rw [if_pos h6] at hf
      refine g_aload_n rfl 0 rfl dX3_part_17 ?_
      obtain ⟨q7, h8, hf⟩ := bnd_some hf
      refine g_callV0v (As := []) (rest := []) cok3 mok_X3_step tw3_18 tw3_20 ts2_4 oS7 B.1 (by omega) (kX3_step  h8) rfl rfl (Nat.le_of_ble_eq_true rfl) ⟨Nat.le_refl _, Nat.le_refl _⟩ dX3_part_18 ?_
      refine g_aload_n rfl 0 rfl dX3_part_21 ?_
      refine g_iload_n rfl 1 rfl dX3_part_22 ?_
      refine g_iconst (1 : Int32) (by decide) dX3_part_23 ?_
      refine g_iadd dX3_part_24 ?_
      obtain ⟨q9, h10, hf⟩ := bnd_some hf
      refine g_callV0i (As := [.int (p1 + (1 : Int32))]) (rest := []) cok3 mok_X3_sum tw3_80 tw3_82 ts2_7 oS7 B.1 (by omega) (hrc.1 h10) rfl rfl (Nat.le_of_ble_eq_true rfl) ⟨Nat.le_refl _, Nat.le_refl _⟩ dX3_part_25 ?_
      refine g_if_eq 40 (by decide) dX3_part_28 (fun h11 => ?_) (fun h11 => ?_)
      · rw [if_pos h11] at hf
        refine g_iconst (0 : Int32) (by decide) dX3_part_40 ?_
        exact g_zret B.2.2.2 B.2.2.1 (by decide) (congrArg (fun z => some (Value.int z)) (Prod.mk.inj (Option.some.inj hf)).1.symm) (Prod.mk.inj (Option.some.inj hf)).2.symm dX3_part_41
      · rw [if_neg h11] at hf
        refine g_aload_n rfl 0 rfl dX3_part_31 ?_
        refine g_bipush (93 : Int32) (by decide) dX3_part_32 ?_
        obtain ⟨q12, h13, hf⟩ := bnd_some hf
        refine g_callV0i (As := [.int (93 : Int32)]) (rest := []) cok3 mok_X3_isSign tw3_88 tw3_90 ts2_9 oS7 B.1 (by omega) (kX3_isSign  h13) rfl rfl (Nat.le_of_ble_eq_true rfl) ⟨Nat.le_refl _, Nat.le_refl _⟩ dX3_part_34 ?_
        refine g_if_ne 42 (by decide) dX3_part_37 (fun h14 => ?_) (fun h14 => ?_)
        · rw [if_neg h14] at hf
          refine g_aload_n rfl 0 rfl dX3_part_42 ?_
          obtain ⟨q15, h16, hf⟩ := bnd_some hf
          refine g_callV0v (As := []) (rest := []) cok3 mok_X3_step tw3_18 tw3_20 ts2_4 oS7 B.1 (by omega) (kX3_step  h16) rfl rfl (Nat.le_of_ble_eq_true rfl) ⟨Nat.le_refl _, Nat.le_refl _⟩ dX3_part_43 ?_
          refine g_iconst (1 : Int32) (by decide) dX3_part_46 ?_
          exact g_zret B.2.2.2 B.2.2.1 (by decide) (congrArg (fun z => some (Value.int z)) (Prod.mk.inj (Option.some.inj hf)).1.symm) (Prod.mk.inj (Option.some.inj hf)).2.symm dX3_part_47
        · rw [if_pos h14] at hf
          refine g_iconst (0 : Int32) (by decide) dX3_part_40 ?_
          exact g_zret B.2.2.2 B.2.2.1 (by decide) (congrArg (fun z => some (Value.int z)) (Prod.mk.inj (Option.some.inj hf)).1.symm) (Prod.mk.inj (Option.some.inj hf)).2.symm dX3_part_41
    · rw [if_neg h6] at hf
      refine g_iconst (0 : Int32) (by decide) dX3_part_15 ?_
      exact g_zret B.2.2.2 B.2.2.1 (by decide) (congrArg (fun z => some (Value.int z)) (Prod.mk.inj (Option.some.inj hf)).1.symm) (Prod.mk.inj (Option.some.inj hf)).2.symm dX3_part_16
def LG3 : Nat → TG3
  | 0 => (fun _ _ => none, fun _ _ => none)
  | d + 1 => (fX3_sum_g (LG3 d), fX3_part_g (LG3 d))
theorem okLG3 (l : Launch) (E : Ev) : ∀ d, RcOK3 l E (LG3 d) d := by
  intro d
  induction d with
  | zero => exact ⟨(fun h => nomatch h), (fun h => nomatch h)⟩
  | succ d ih => exact ⟨fun {st} {p1} {r0} {u0} hf => CM.intro mok_X3_sum (Nat.le_of_ble_eq_true rfl) (fun x hl hR ht hr hQ _ => by subst hl; exact wX3_sum ih ⟨hR, ht, hr, hQ⟩ p1 st hf),
    fun {st} {p1} {r0} {u0} hf => CM.intro mok_X3_part (Nat.le_of_ble_eq_true rfl) (fun x hl hR ht hr hQ _ => by subst hl; exact wX3_part ih ⟨hR, ht, hr, hQ⟩ p1 st hf)⟩
def fX3_sum (p1 : Int32) (st : St) : Option (Int32 × St) := (LG3 100).1 p1 st
theorem kX3_sum {l : Launch} {E : Ev} {st : St} {p1 : Int32} {r0 : Int32} {u0 : St} (hf : fX3_sum p1 st = some (r0, u0)) : CM l E WT yX3_sum cX3_sum 6 (some FieldType.boolean) 105 0 0 [.ref (eB E + 7), .int p1] st (some (.int r0)) u0 := (okLG3 l E 100).1 hf
def fX3_part (p1 : Int32) (st : St) : Option (Int32 × St) := (LG3 100).2 p1 st
theorem kX3_part {l : Launch} {E : Ev} {st : St} {p1 : Int32} {r0 : Int32} {u0 : St} (hf : fX3_part p1 st = some (r0, u0)) : CM l E WT yX3_part cX3_part 4 (some FieldType.boolean) 105 0 0 [.ref (eB E + 7), .int p1] st (some (.int r0)) u0 := (okLG3 l E 100).2 hf
def fX5_land (p1 : Int32) (st : St) : Option St :=
  if p1 ≤ 0 then (some st) else (if (826 : Int32) ≤ p1 then (some st) else (chk (ixb p1 826) (some (pI st 14 p1.toNatClampNeg (sI st 9 6)))))
set_option maxHeartbeats 1000000 in
set_option maxRecDepth 20000 in
theorem wX5_land {E : Ev} {x : Cx} {u0 : St} (B : Bd E x none (0) 0 0 none u0) (p1 : Int32) (st : St)  (hf : fX5_land p1 st = some u0) : G E WT x RX5 cX5_land 2 (0, 0) st 0 [(0, .ref (eB E + 9)), (1, .int p1)] [] := by
  unfold fX5_land at hf
  refine g_iload_n rfl 1 rfl dX5_land_0 ?_
  refine g_if_le 23 (by decide) dX5_land_1 (fun h1 => ?_) (fun h1 => ?_)
  · rw [if_pos h1] at hf
    exact g_ret B.2.2.2 B.2.2.1 rfl (Option.some.inj hf).symm dX5_land_23
  · rw [if_neg h1] at hf
    refine g_iload_n rfl 1 rfl dX5_land_4 ?_
    refine g_aload_n rfl 0 rfl dX5_land_5 ?_
    refine g_get (j := 4) cok5 (by decide) (.ref (eB E + 14)) (Or.inl tw1_115) oS9 vS9_4 dX5_land_6 ?_
    refine g_alenL 1 (826 : Int32) (by decide) aS14 (by decide) rfl dX5_land_9 ?_
    refine g_icmp_ge 23 (by decide) dX5_land_10 (fun h2 => ?_) (fun h2 => ?_)
    · rw [if_pos h2] at hf
      exact g_ret B.2.2.2 B.2.2.1 rfl (Option.some.inj hf).symm dX5_land_23
    · rw [if_neg h2] at hf
      refine g_aload_n rfl 0 rfl dX5_land_13 ?_
      refine g_get (j := 4) cok5 (by decide) (.ref (eB E + 14)) (Or.inl tw1_115) oS9 vS9_4 dX5_land_14 ?_
      refine g_iload_n rfl 1 rfl dX5_land_17 ?_
      refine g_aload_n rfl 0 rfl dX5_land_18 ?_
      refine g_get (j := 6) cok5 (by decide) (.int (sI st 9 6)) (Or.inl tw1_120) oS9 (fun _ => rfl) dX5_land_19 ?_
      obtain ⟨h3, hf⟩ := chk_some hf
      refine g_iastj p1.toNatClampNeg rfl aS14 (ixb_in h3) B.2.1 wpI dX5_land_22 ?_
      exact g_ret B.2.2.2 B.2.2.1 rfl (Option.some.inj hf).symm dX5_land_23
theorem kX5_land {l : Launch} {E : Ev} {st : St} {p1 : Int32} {u0 : St}  (hf : fX5_land p1 st = some u0) : CM l E WT yX5_land cX5_land 2 none 0 0 0 [.ref (eB E + 9), .int p1] st none u0 :=
  CM.intro mok_X5_land (Nat.le_of_ble_eq_true rfl) (fun x hl hR ht hr hQ _ => wX5_land ⟨hR, ht, hr, hQ⟩ p1 st hf)
def fX5_putJump (p1 : Int32) (st : St) : Option (Int32 × St) :=
  (fX5_put p1 st).bind (fun q1 => (fX5_put (0 : Int32) q1).bind (fun q3 => some ((sI q3 9 6) - (1 : Int32), q3)))
set_option maxHeartbeats 1000000 in
set_option maxRecDepth 20000 in
theorem wX5_putJump {E : Ev} {x : Cx} {r0 : Int32} {u0 : St} (B : Bd E x (some FieldType.int) (1) 0 0 (some (.int r0)) u0) (p1 : Int32) (st : St)  (hf : fX5_putJump p1 st = some (r0, u0)) : G E WT x RX5 cX5_putJump 2 (0, 0) st 0 [(0, .ref (eB E + 9)), (1, .int p1)] [] := by
  unfold fX5_putJump at hf
  refine g_aload_n rfl 0 rfl dX5_putJump_0 ?_
  refine g_iload_n rfl 1 rfl dX5_putJump_1 ?_
  obtain ⟨q1, h2, hf⟩ := bnd_some hf
  refine g_callV0v (As := [.int p1]) (rest := []) cok5 mok_X5_put tw3_118 tw3_96 ts2_10 oS9 B.1 (by decide) (kX5_put  h2) rfl rfl (Nat.le_of_ble_eq_true rfl) ⟨Nat.le_refl _, Nat.le_refl _⟩ dX5_putJump_2 ?_
  refine g_aload_n rfl 0 rfl dX5_putJump_5 ?_
  refine g_iconst (0 : Int32) (by decide) dX5_putJump_6 ?_
  obtain ⟨q3, h4, hf⟩ := bnd_some hf
  refine g_callV0v (As := [.int (0 : Int32)]) (rest := []) cok5 mok_X5_put tw3_118 tw3_96 ts2_10 oS9 B.1 (by decide) (kX5_put  h4) rfl rfl (Nat.le_of_ble_eq_true rfl) ⟨Nat.le_refl _, Nat.le_refl _⟩ dX5_putJump_7 ?_
  refine g_aload_n rfl 0 rfl dX5_putJump_10 ?_
  refine g_get (j := 6) cok5 (by decide) (.int (sI q3 9 6)) (Or.inl tw1_120) oS9 (fun _ => rfl) dX5_putJump_11 ?_
  refine g_iconst (1 : Int32) (by decide) dX5_putJump_14 ?_
  refine g_isub dX5_putJump_15 ?_
  exact g_iret B.2.2.2 B.2.2.1 (congrArg (fun z => some (Value.int z)) (Prod.mk.inj (Option.some.inj hf)).1.symm) (Prod.mk.inj (Option.some.inj hf)).2.symm dX5_putJump_16
theorem kX5_putJump {l : Launch} {E : Ev} {st : St} {p1 : Int32} {r0 : Int32} {u0 : St}  (hf : fX5_putJump p1 st = some (r0, u0)) : CM l E WT yX5_putJump cX5_putJump 2 (some FieldType.int) 1 0 0 [.ref (eB E + 9), .int p1] st (some (.int r0)) u0 :=
  CM.intro mok_X5_putJump (Nat.le_of_ble_eq_true rfl) (fun x hl hR ht hr hQ _ => wX5_putJump ⟨hR, ht, hr, hQ⟩ p1 st hf)
