def fX8_splits_b247 (k7 : Int32 → Int32 → St → Option St)(l1 : Int32) (l4 : Int32) (st : St) : Option St :=
  k7 l1 l4 (pI st 38 18 ((sI st 38 18) + (1 : Int32)))
set_option maxHeartbeats 1000000 in
set_option maxRecDepth 20000 in
theorem wX8_splits_b247 {E : Ev} {x : Cx} {u0 : St} (B : Bd E x none (1) 0 0 none u0) {k7 : Int32 → Int32 → St → Option St} (hk7 : ∀ (l1 : Int32) (l2 : Int32) (st : St), k7 l1 l2 st = some u0 → G E WT x RX8 cX8_splits 6 (0, 0) st 7 [(0, .ref (eB E + 38)), (1, .int l1), (2, .int l2)] []) (l1 : Int32) (l4 : Int32) (st : St)  (hf : fX8_splits_b247 k7 l1 l4 st = some u0) : G E WT x RX8 cX8_splits 6 (0, 0) st 247 [(0, .ref (eB E + 38)), (1, .int l1), (4, .int l4)] [] := by
  unfold fX8_splits_b247 at hf
  refine g_aload_n rfl 0 rfl dX8_splits_247 ?_
  refine g_dup rfl dX8_splits_248 ?_
  refine g_get (j := 18) cok8 (by decide) (.int (sI st 38 18)) (Or.inl tw4_193) oS38 (fun _ => rfl) dX8_splits_249 ?_
  refine g_iconst (1 : Int32) (by decide) dX8_splits_252 ?_
  refine g_iadd dX8_splits_253 ?_
  refine g_putI (j := 18) cok8 (by decide) rfl rfl rfl rfl (Or.inl tw4_193) oS38 B.2.1 wpI dX8_splits_254 ?_
  refine g_iload 2 rfl dX8_splits_257 ?_
  refine g_istore_n rfl [(2, .int l4), (0, .ref (eB E + 38)), (1, .int l1), (4, .int l4)] (by decide) rfl dX8_splits_259 ?_
  refine g_goto 7 (by decide) dX8_splits_260 ?_
  refine g_lvs [1, 2, 0] rfl ?_
  exact hk7 l1 l4 (pI st 38 18 ((sI st 38 18) + (1 : Int32))) hf
def fX8_splits_b240 (k7 : Int32 → Int32 → St → Option St) (k169 : Int32 → Int32 → Int32 → Int32 → St → Option St)(l1 : Int32) (l3 : Int32) (l4 : Int32) (l5 : Int32) (s1 : Int32) (s2 : Int32) (st : St) : Option St :=
  chk (ixb s1 401) (k169 l1 l3 l4 (l5 + (1 : Int32)) (pI st 48 s1.toNatClampNeg s2))
set_option maxHeartbeats 1000000 in
set_option maxRecDepth 20000 in
theorem wX8_splits_b240 {E : Ev} {x : Cx} {u0 : St} (B : Bd E x none (1) 0 0 none u0) {k7 : Int32 → Int32 → St → Option St} (hk7 : ∀ (l1 : Int32) (l2 : Int32) (st : St), k7 l1 l2 st = some u0 → G E WT x RX8 cX8_splits 6 (0, 0) st 7 [(0, .ref (eB E + 38)), (1, .int l1), (2, .int l2)] []) {k169 : Int32 → Int32 → Int32 → Int32 → St → Option St} (hk169 : ∀ (l1 : Int32) (l3 : Int32) (l4 : Int32) (l5 : Int32) (st : St), k169 l1 l3 l4 l5 st = some u0 → G E WT x RX8 cX8_splits 6 (0, 0) st 169 [(0, .ref (eB E + 38)), (1, .int l1), (3, .int l3), (4, .int l4), (5, .int l5)] []) (l1 : Int32) (l3 : Int32) (l4 : Int32) (l5 : Int32) (s1 : Int32) (s2 : Int32) (st : St)  (hf : fX8_splits_b240 k7 k169 l1 l3 l4 l5 s1 s2 st = some u0) : G E WT x RX8 cX8_splits 6 (0, 0) st 240 [(0, .ref (eB E + 38)), (1, .int l1), (3, .int l3), (4, .int l4), (5, .int l5)] [.int s2, .int s1, .ref (eB E + 48)] := by
  unfold fX8_splits_b240 at hf
  obtain ⟨h1, hf⟩ := chk_some hf
  refine g_iastj s1.toNatClampNeg rfl aS48 (ixb_in h1) B.2.1 wpI dX8_splits_240 ?_
  refine g_iinc (l5 + (1 : Int32)) [(5, .int (l5 + (1 : Int32))), (0, .ref (eB E + 38)), (1, .int l1), (3, .int l3), (4, .int l4)] 4 rfl (congrArg (fun z => l5 + z) (show Int32.ofInt (1) = (1 : Int32) by decide)) (by decide) rfl dX8_splits_241 ?_
  refine g_goto 169 (by decide) dX8_splits_244 ?_
  refine g_lvs [1, 2, 3, 4, 0] rfl ?_
  exact hk169 l1 l3 l4 (l5 + (1 : Int32)) (pI st 48 s1.toNatClampNeg s2) hf
def fX8_splits_b169 (k7 : Int32 → Int32 → St → Option St) : Nat → Int32 → Int32 → Int32 → Int32 → St → Option St
  | 0, _, _, _, _, _ => none
  | n + 1, l1, l3, l4, l5, st => if l4 ≤ l5 then (fX8_splits_b247 k7 l1 l4 st) else (if (fX8_isDigit l3) = 0 then (fX8_splits_b247 k7 l1 l4 st) else (chk (ixb (sI st 38 18) 401) (if (sI st 48 ((sI st 38 18).toNatClampNeg)) ≤ (1000000 : Int32) then (chk (ixb (sI st 38 18) 401) (chk (ixb l5 400) (fX8_splits_b240 k7 (fun zl1 zl3 zl4 zl5 zst => fX8_splits_b169 k7 n zl1 zl3 zl4 zl5 zst) l1 l3 l4 l5 (sI st 38 18) ((((10 : Int32) * (sI st 48 ((sI st 38 18).toNatClampNeg))) + (sI st 45 l5.toNatClampNeg)) - (48 : Int32)) st))) else (chk (ixb (sI st 38 18) 401) (fX8_splits_b240 k7 (fun zl1 zl3 zl4 zl5 zst => fX8_splits_b169 k7 n zl1 zl3 zl4 zl5 zst) l1 l3 l4 l5 (sI st 38 18) (sI st 48 ((sI st 38 18).toNatClampNeg)) st)))))
set_option maxHeartbeats 1000000 in
set_option maxRecDepth 20000 in
theorem wX8_splits_b169 {E : Ev} {x : Cx} {u0 : St} (B : Bd E x none (1) 0 0 none u0) {k7 : Int32 → Int32 → St → Option St} (hk7 : ∀ (l1 : Int32) (l2 : Int32) (st : St), k7 l1 l2 st = some u0 → G E WT x RX8 cX8_splits 6 (0, 0) st 7 [(0, .ref (eB E + 38)), (1, .int l1), (2, .int l2)] []) : ∀ (n : Nat) (l1 : Int32) (l3 : Int32) (l4 : Int32) (l5 : Int32) (st : St) , fX8_splits_b169 k7 n l1 l3 l4 l5 st = some u0 → G E WT x RX8 cX8_splits 6 (0, 0) st 169 [(0, .ref (eB E + 38)), (1, .int l1), (3, .int l3), (4, .int l4), (5, .int l5)] [] := by
  intro n
  induction n with
  | zero =>
    intros
    rename_i hf
    rw [fX8_splits_b169] at hf
    cases hf
  | succ n ih =>
    intro l1 l3 l4 l5 st hf
    rw [fX8_splits_b169] at hf
    refine g_iload 4 rfl dX8_splits_169 ?_
    refine g_iload 3 rfl dX8_splits_171 ?_
    refine g_icmp_ge 247 (by decide) dX8_splits_173 (fun h1 => ?_) (fun h1 => ?_)
    · rw [if_pos h1] at hf
      refine g_lvs [0, 1, 3] rfl ?_
      exact wX8_splits_b247 B hk7 l1 l4 st hf
    · rw [if_neg h1] at hf
      refine g_iload_n rfl 2 rfl dX8_splits_176 ?_
      refine g_callS0i (As := [.int l3]) (rest := []) mok_X8_isDigit tw5_210 tw5_211 B.1 (by decide) (kX8_isDigit  rfl) rfl rfl (Nat.le_of_ble_eq_true rfl) ⟨Nat.le_refl _, Nat.le_refl _⟩ dX8_splits_177 ?_
      refine g_if_eq 247 (by decide) dX8_splits_180 (fun h2 => ?_) (fun h2 => ?_)
      · rw [if_pos h2] at hf
        refine g_lvs [0, 1, 3] rfl ?_
        exact wX8_splits_b247 B hk7 l1 l4 st hf
      · rw [if_neg h2] at hf
        refine g_aload_n rfl 0 rfl dX8_splits_183 ?_
        refine g_get (j := 16) cok8 (by decide) (.ref (eB E + 48)) (Or.inl tw4_191) oS38 vS38_16 dX8_splits_184 ?_
        refine g_aload_n rfl 0 rfl dX8_splits_187 ?_
        refine g_get (j := 18) cok8 (by decide) (.int (sI st 38 18)) (Or.inl tw4_193) oS38 (fun _ => rfl) dX8_splits_188 ?_
        refine g_aload_n rfl 0 rfl dX8_splits_191 ?_
        refine g_get (j := 16) cok8 (by decide) (.ref (eB E + 48)) (Or.inl tw4_191) oS38 vS38_16 dX8_splits_192 ?_
        refine g_aload_n rfl 0 rfl dX8_splits_195 ?_
        refine g_get (j := 18) cok8 (by decide) (.int (sI st 38 18)) (Or.inl tw4_193) oS38 (fun _ => rfl) dX8_splits_196 ?_
        obtain ⟨h3, hf⟩ := chk_some hf
        refine g_ialdj ((sI st 38 18).toNatClampNeg) rfl aS48 (ixb_in h3) dX8_splits_199 ?_
        refine g_ldc tw5_217 dX8_splits_200 ?_
        refine g_icmp_le 217 (by decide) dX8_splits_202 (fun h4 => ?_) (fun h4 => ?_)
        · rw [if_pos h4] at hf
          refine g_bipush (10 : Int32) (by decide) dX8_splits_217 ?_
          refine g_aload_n rfl 0 rfl dX8_splits_219 ?_
          refine g_get (j := 16) cok8 (by decide) (.ref (eB E + 48)) (Or.inl tw4_191) oS38 vS38_16 dX8_splits_220 ?_
          refine g_aload_n rfl 0 rfl dX8_splits_223 ?_
          refine g_get (j := 18) cok8 (by decide) (.int (sI st 38 18)) (Or.inl tw4_193) oS38 (fun _ => rfl) dX8_splits_224 ?_
          obtain ⟨h5, hf⟩ := chk_some hf
          refine g_ialdj ((sI st 38 18).toNatClampNeg) rfl aS48 (ixb_in h5) dX8_splits_227 ?_
          refine g_imul dX8_splits_228 ?_
          refine g_aload_n rfl 0 rfl dX8_splits_229 ?_
          refine g_get (j := 11) cok8 (by decide) (.ref (eB E + 45)) (Or.inl tw4_186) oS38 vS38_11 dX8_splits_230 ?_
          refine g_iload 4 rfl dX8_splits_233 ?_
          obtain ⟨h6, hf⟩ := chk_some hf
          refine g_baldj l5.toNatClampNeg rfl aS45 (ixb_in h6) dX8_splits_235 ?_
          refine g_iadd dX8_splits_236 ?_
          refine g_bipush (48 : Int32) (by decide) dX8_splits_237 ?_
          refine g_isub dX8_splits_239 ?_
          refine g_lvs [0, 1, 2, 3, 4] rfl ?_
          exact wX8_splits_b240 B hk7 ih l1 l3 l4 l5 (sI st 38 18) ((((10 : Int32) * (sI st 48 ((sI st 38 18).toNatClampNeg))) + (sI st 45 l5.toNatClampNeg)) - (48 : Int32)) st hf
        · rw [if_neg h4] at hf
          refine g_aload_n rfl 0 rfl dX8_splits_205 ?_
          refine g_get (j := 16) cok8 (by decide) (.ref (eB E + 48)) (Or.inl tw4_191) oS38 vS38_16 dX8_splits_206 ?_
          refine g_aload_n rfl 0 rfl dX8_splits_209 ?_
          refine g_get (j := 18) cok8 (by decide) (.int (sI st 38 18)) (Or.inl tw4_193) oS38 (fun _ => rfl) dX8_splits_210 ?_
          obtain ⟨h7, hf⟩ := chk_some hf
          refine g_ialdj ((sI st 38 18).toNatClampNeg) rfl aS48 (ixb_in h7) dX8_splits_213 ?_
          refine g_goto 240 (by decide) dX8_splits_214 ?_
          refine g_lvs [0, 1, 2, 3, 4] rfl ?_
          exact wX8_splits_b240 B hk7 ih l1 l3 l4 l5 (sI st 38 18) (sI st 48 ((sI st 38 18).toNatClampNeg)) st hf
def fX8_splits_b165 (k7 : Int32 → Int32 → St → Option St)(l1 : Int32) (l2 : Int32) (l3 : Int32) (l4 : Int32) (s1 : Int32) (s2 : Int32) (st : St) : Option St :=
  chk (ixb s1 401) (fX8_splits_b169 k7 FU l1 l3 l4 l2 (pI st 47 s1.toNatClampNeg s2))
set_option maxHeartbeats 1000000 in
set_option maxRecDepth 20000 in
theorem wX8_splits_b165 {E : Ev} {x : Cx} {u0 : St} (B : Bd E x none (1) 0 0 none u0) {k7 : Int32 → Int32 → St → Option St} (hk7 : ∀ (l1 : Int32) (l2 : Int32) (st : St), k7 l1 l2 st = some u0 → G E WT x RX8 cX8_splits 6 (0, 0) st 7 [(0, .ref (eB E + 38)), (1, .int l1), (2, .int l2)] []) (l1 : Int32) (l2 : Int32) (l3 : Int32) (l4 : Int32) (s1 : Int32) (s2 : Int32) (st : St)  (hf : fX8_splits_b165 k7 l1 l2 l3 l4 s1 s2 st = some u0) : G E WT x RX8 cX8_splits 6 (0, 0) st 165 [(0, .ref (eB E + 38)), (1, .int l1), (2, .int l2), (3, .int l3), (4, .int l4)] [.int s2, .int s1, .ref (eB E + 47)] := by
  unfold fX8_splits_b165 at hf
  obtain ⟨h1, hf⟩ := chk_some hf
  refine g_iastj s1.toNatClampNeg rfl aS47 (ixb_in h1) B.2.1 wpI dX8_splits_165 ?_
  refine g_iload_n rfl 2 rfl dX8_splits_166 ?_
  refine g_istore [(5, .int l2), (0, .ref (eB E + 38)), (1, .int l1), (2, .int l2), (3, .int l3), (4, .int l4)] (by decide) rfl dX8_splits_167 ?_
  refine g_lvs [1, 2, 4, 5, 0] rfl ?_
  exact wX8_splits_b169 B hk7 FU l1 l3 l4 l2 (pI st 47 s1.toNatClampNeg s2) hf
def fX8_splits_b100 (k7 : Int32 → Int32 → St → Option St)(l1 : Int32) (l2 : Int32) (l3 : Int32) (l4 : Int32) (st : St) : Option St :=
  chk (ixb (sI st 38 18) 401) (chk (ixb (sI (pI st 49 ((sI st 38 18).toNatClampNeg) l2) 38 18) 401) (if (fX8_isSmall l3) = 0 then (if (fX8_isDigit l3) = 0 then (fX8_splits_b165 k7 l1 l2 l3 l4 (sI (pI (pI st 49 ((sI st 38 18).toNatClampNeg) l2) 48 ((sI (pI st 49 ((sI st 38 18).toNatClampNeg) l2) 38 18).toNatClampNeg) (0 : Int32)) 38 18) ((100 : Int32) + (l3 &&& (255 : Int32))) (pI (pI st 49 ((sI st 38 18).toNatClampNeg) l2) 48 ((sI (pI st 49 ((sI st 38 18).toNatClampNeg) l2) 38 18).toNatClampNeg) (0 : Int32))) else (fX8_splits_b165 k7 l1 l2 l3 l4 (sI (pI (pI st 49 ((sI st 38 18).toNatClampNeg) l2) 48 ((sI (pI st 49 ((sI st 38 18).toNatClampNeg) l2) 38 18).toNatClampNeg) (0 : Int32)) 38 18) (50 : Int32) (pI (pI st 49 ((sI st 38 18).toNatClampNeg) l2) 48 ((sI (pI st 49 ((sI st 38 18).toNatClampNeg) l2) 38 18).toNatClampNeg) (0 : Int32)))) else ((fX8_wordOf (pI (pI st 49 ((sI st 38 18).toNatClampNeg) l2) 48 ((sI (pI st 49 ((sI st 38 18).toNatClampNeg) l2) 38 18).toNatClampNeg) (0 : Int32)) l2 l4).bind (fun q5 => fX8_splits_b165 k7 l1 l2 l3 l4 (sI (pI (pI st 49 ((sI st 38 18).toNatClampNeg) l2) 48 ((sI (pI st 49 ((sI st 38 18).toNatClampNeg) l2) 38 18).toNatClampNeg) (0 : Int32)) 38 18) q5 (pI (pI st 49 ((sI st 38 18).toNatClampNeg) l2) 48 ((sI (pI st 49 ((sI st 38 18).toNatClampNeg) l2) 38 18).toNatClampNeg) (0 : Int32))))))
set_option maxHeartbeats 1000000 in
set_option maxRecDepth 20000 in
theorem wX8_splits_b100 {E : Ev} {x : Cx} {u0 : St} (B : Bd E x none (1) 0 0 none u0) {k7 : Int32 → Int32 → St → Option St} (hk7 : ∀ (l1 : Int32) (l2 : Int32) (st : St), k7 l1 l2 st = some u0 → G E WT x RX8 cX8_splits 6 (0, 0) st 7 [(0, .ref (eB E + 38)), (1, .int l1), (2, .int l2)] []) (l1 : Int32) (l2 : Int32) (l3 : Int32) (l4 : Int32) (st : St)  (hf : fX8_splits_b100 k7 l1 l2 l3 l4 st = some u0) : G E WT x RX8 cX8_splits 6 (0, 0) st 100 [(0, .ref (eB E + 38)), (1, .int l1), (2, .int l2), (3, .int l3), (4, .int l4)] [] := by
  unfold fX8_splits_b100 at hf
  refine g_aload_n rfl 0 rfl dX8_splits_100 ?_
  refine g_get (j := 17) cok8 (by decide) (.ref (eB E + 49)) (Or.inl tw4_192) oS38 vS38_17 dX8_splits_101 ?_
  refine g_aload_n rfl 0 rfl dX8_splits_104 ?_
  refine g_get (j := 18) cok8 (by decide) (.int (sI st 38 18)) (Or.inl tw4_193) oS38 (fun _ => rfl) dX8_splits_105 ?_
  refine g_iload_n rfl 2 rfl dX8_splits_108 ?_
  obtain ⟨h1, hf⟩ := chk_some hf
  refine g_iastj ((sI st 38 18).toNatClampNeg) rfl aS49 (ixb_in h1) B.2.1 wpI dX8_splits_109 ?_
  refine g_aload_n rfl 0 rfl dX8_splits_110 ?_
  refine g_get (j := 16) cok8 (by decide) (.ref (eB E + 48)) (Or.inl tw4_191) oS38 vS38_16 dX8_splits_111 ?_
  refine g_aload_n rfl 0 rfl dX8_splits_114 ?_
  refine g_get (j := 18) cok8 (by decide) (.int (sI (pI st 49 ((sI st 38 18).toNatClampNeg) l2) 38 18)) (Or.inl tw4_193) oS38 (fun _ => rfl) dX8_splits_115 ?_
  refine g_iconst (0 : Int32) (by decide) dX8_splits_118 ?_
  obtain ⟨h2, hf⟩ := chk_some hf
  refine g_iastj ((sI (pI st 49 ((sI st 38 18).toNatClampNeg) l2) 38 18).toNatClampNeg) rfl aS48 (ixb_in h2) B.2.1 wpI dX8_splits_119 ?_
  refine g_aload_n rfl 0 rfl dX8_splits_120 ?_
  refine g_get (j := 15) cok8 (by decide) (.ref (eB E + 47)) (Or.inl tw4_190) oS38 vS38_15 dX8_splits_121 ?_
  refine g_aload_n rfl 0 rfl dX8_splits_124 ?_
  refine g_get (j := 18) cok8 (by decide) (.int (sI (pI (pI st 49 ((sI st 38 18).toNatClampNeg) l2) 48 ((sI (pI st 49 ((sI st 38 18).toNatClampNeg) l2) 38 18).toNatClampNeg) (0 : Int32)) 38 18)) (Or.inl tw4_193) oS38 (fun _ => rfl) dX8_splits_125 ?_
  refine g_iload_n rfl 3 rfl dX8_splits_128 ?_
  refine g_callS0i (As := [.int l3]) (rest := [.int (sI (pI (pI st 49 ((sI st 38 18).toNatClampNeg) l2) 48 ((sI (pI st 49 ((sI st 38 18).toNatClampNeg) l2) 38 18).toNatClampNeg) (0 : Int32)) 38 18), .ref (eB E + 47)]) mok_X8_isSmall tw5_207 tw5_208 B.1 (by decide) (kX8_isSmall  rfl) rfl rfl (Nat.le_of_ble_eq_true rfl) ⟨Nat.le_refl _, Nat.le_refl _⟩ dX8_splits_129 ?_
  refine g_if_eq 145 (by decide) dX8_splits_132 (fun h3 => ?_) (fun h3 => ?_)
  · rw [if_pos h3] at hf
    refine g_iload_n rfl 3 rfl dX8_splits_145 ?_
    refine g_callS0i (As := [.int l3]) (rest := [.int (sI (pI (pI st 49 ((sI st 38 18).toNatClampNeg) l2) 48 ((sI (pI st 49 ((sI st 38 18).toNatClampNeg) l2) 38 18).toNatClampNeg) (0 : Int32)) 38 18), .ref (eB E + 47)]) mok_X8_isDigit tw5_210 tw5_211 B.1 (by decide) (kX8_isDigit  rfl) rfl rfl (Nat.le_of_ble_eq_true rfl) ⟨Nat.le_refl _, Nat.le_refl _⟩ dX8_splits_146 ?_
    refine g_if_eq 157 (by decide) dX8_splits_149 (fun h4 => ?_) (fun h4 => ?_)
    · rw [if_pos h4] at hf
      refine g_bipush (100 : Int32) (by decide) dX8_splits_157 ?_
      refine g_iload_n rfl 3 rfl dX8_splits_159 ?_
      refine g_sipush (255 : Int32) (by decide) dX8_splits_160 ?_
      refine g_iand dX8_splits_163 ?_
      refine g_iadd dX8_splits_164 ?_
      refine g_lvs [0, 1, 2, 3, 4] rfl ?_
      exact wX8_splits_b165 B hk7 l1 l2 l3 l4 (sI (pI (pI st 49 ((sI st 38 18).toNatClampNeg) l2) 48 ((sI (pI st 49 ((sI st 38 18).toNatClampNeg) l2) 38 18).toNatClampNeg) (0 : Int32)) 38 18) ((100 : Int32) + (l3 &&& (255 : Int32))) (pI (pI st 49 ((sI st 38 18).toNatClampNeg) l2) 48 ((sI (pI st 49 ((sI st 38 18).toNatClampNeg) l2) 38 18).toNatClampNeg) (0 : Int32)) hf
    · rw [if_neg h4] at hf
      refine g_bipush (50 : Int32) (by decide) dX8_splits_152 ?_
      refine g_goto 165 (by decide) dX8_splits_154 ?_
      refine g_lvs [0, 1, 2, 3, 4] rfl ?_
      exact wX8_splits_b165 B hk7 l1 l2 l3 l4 (sI (pI (pI st 49 ((sI st 38 18).toNatClampNeg) l2) 48 ((sI (pI st 49 ((sI st 38 18).toNatClampNeg) l2) 38 18).toNatClampNeg) (0 : Int32)) 38 18) (50 : Int32) (pI (pI st 49 ((sI st 38 18).toNatClampNeg) l2) 48 ((sI (pI st 49 ((sI st 38 18).toNatClampNeg) l2) 38 18).toNatClampNeg) (0 : Int32)) hf
  · rw [if_neg h3] at hf
    refine g_aload_n rfl 0 rfl dX8_splits_135 ?_
    refine g_iload_n rfl 2 rfl dX8_splits_136 ?_
    refine g_iload 4 rfl dX8_splits_137 ?_
    obtain ⟨q5, h6, hf⟩ := bnd_some hf
    refine g_callV0i (As := [.int l2, .int l4]) (rest := [.int (sI (pI (pI st 49 ((sI st 38 18).toNatClampNeg) l2) 48 ((sI (pI st 49 ((sI st 38 18).toNatClampNeg) l2) 38 18).toNatClampNeg) (0 : Int32)) 38 18), .ref (eB E + 47)]) cok8 mok_X8_wordOf tw5_213 tw5_215 ts5_12 oS38 B.1 (by decide) (kX8_wordOf  h6) rfl rfl (Nat.le_of_ble_eq_true rfl) ⟨Nat.le_refl _, Nat.le_refl _⟩ dX8_splits_139 ?_
    refine g_goto 165 (by decide) dX8_splits_142 ?_
    refine g_lvs [0, 1, 2, 3, 4] rfl ?_
    exact wX8_splits_b165 B hk7 l1 l2 l3 l4 (sI (pI (pI st 49 ((sI st 38 18).toNatClampNeg) l2) 48 ((sI (pI st 49 ((sI st 38 18).toNatClampNeg) l2) 38 18).toNatClampNeg) (0 : Int32)) 38 18) q5 (pI (pI st 49 ((sI st 38 18).toNatClampNeg) l2) 48 ((sI (pI st 49 ((sI st 38 18).toNatClampNeg) l2) 38 18).toNatClampNeg) (0 : Int32)) hf
def fX8_splits_b75 (k7 : Int32 → Int32 → St → Option St) : Nat → Int32 → Int32 → Int32 → Int32 → St → Option St
  | 0, _, _, _, _, _ => none
  | n + 1, l1, l2, l3, l4, st => if l1 ≤ l4 then (fX8_splits_b100 k7 l1 l2 l3 l4 st) else (chk (ixb l4 400) (if (fX8_isDigit (sI st 45 l4.toNatClampNeg)) = 0 then (fX8_splits_b100 k7 l1 l2 l3 l4 st) else (fX8_splits_b75 k7 n l1 l2 l3 (l4 + (1 : Int32)) st)))
set_option maxHeartbeats 1000000 in
set_option maxRecDepth 20000 in
theorem wX8_splits_b75 {E : Ev} {x : Cx} {u0 : St} (B : Bd E x none (1) 0 0 none u0) {k7 : Int32 → Int32 → St → Option St} (hk7 : ∀ (l1 : Int32) (l2 : Int32) (st : St), k7 l1 l2 st = some u0 → G E WT x RX8 cX8_splits 6 (0, 0) st 7 [(0, .ref (eB E + 38)), (1, .int l1), (2, .int l2)] []) : ∀ (n : Nat) (l1 : Int32) (l2 : Int32) (l3 : Int32) (l4 : Int32) (st : St) , fX8_splits_b75 k7 n l1 l2 l3 l4 st = some u0 → G E WT x RX8 cX8_splits 6 (0, 0) st 75 [(0, .ref (eB E + 38)), (1, .int l1), (2, .int l2), (3, .int l3), (4, .int l4)] [] := by
  intro n
  induction n with
  | zero =>
    intros
    rename_i hf
    rw [fX8_splits_b75] at hf
    cases hf
  | succ n ih =>
    intro l1 l2 l3 l4 st hf
    rw [fX8_splits_b75] at hf
    refine g_iload 4 rfl dX8_splits_75 ?_
    refine g_iload_n rfl 1 rfl dX8_splits_77 ?_
    refine g_icmp_ge 100 (by decide) dX8_splits_78 (fun h1 => ?_) (fun h1 => ?_)
    · rw [if_pos h1] at hf
      refine g_lvs [0, 1, 2, 3, 4] rfl ?_
      exact wX8_splits_b100 B hk7 l1 l2 l3 l4 st hf
    · rw [if_neg h1] at hf
      refine g_aload_n rfl 0 rfl dX8_splits_81 ?_
      refine g_get (j := 11) cok8 (by decide) (.ref (eB E + 45)) (Or.inl tw4_186) oS38 vS38_11 dX8_splits_82 ?_
      refine g_iload 4 rfl dX8_splits_85 ?_
      obtain ⟨h2, hf⟩ := chk_some hf
      refine g_baldj l4.toNatClampNeg rfl aS45 (ixb_in h2) dX8_splits_87 ?_
      refine g_callS0i (As := [.int (sI st 45 l4.toNatClampNeg)]) (rest := []) mok_X8_isDigit tw5_210 tw5_211 B.1 (by decide) (kX8_isDigit  rfl) rfl rfl (Nat.le_of_ble_eq_true rfl) ⟨Nat.le_refl _, Nat.le_refl _⟩ dX8_splits_88 ?_
      refine g_if_eq 100 (by decide) dX8_splits_91 (fun h3 => ?_) (fun h3 => ?_)
      · rw [if_pos h3] at hf
        refine g_lvs [0, 1, 2, 3, 4] rfl ?_
        exact wX8_splits_b100 B hk7 l1 l2 l3 l4 st hf
      · rw [if_neg h3] at hf
        refine g_iinc (l4 + (1 : Int32)) [(4, .int (l4 + (1 : Int32))), (0, .ref (eB E + 38)), (1, .int l1), (2, .int l2), (3, .int l3)] 4 rfl (congrArg (fun z => l4 + z) (show Int32.ofInt (1) = (1 : Int32) by decide)) (by decide) rfl dX8_splits_94 ?_
        refine g_goto 75 (by decide) dX8_splits_97 ?_
        refine g_lvs [1, 2, 3, 4, 0] rfl ?_
        exact ih l1 l2 l3 (l4 + (1 : Int32)) st hf
def fX8_splits_b68 (k7 : Int32 → Int32 → St → Option St)(l1 : Int32) (l2 : Int32) (l3 : Int32) (l4 : Int32) (st : St) : Option St :=
  if (fX8_isDigit l3) = 0 then (fX8_splits_b100 k7 l1 l2 l3 l4 st) else (fX8_splits_b75 k7 FU l1 l2 l3 l4 st)
set_option maxHeartbeats 1000000 in
set_option maxRecDepth 20000 in
theorem wX8_splits_b68 {E : Ev} {x : Cx} {u0 : St} (B : Bd E x none (1) 0 0 none u0) {k7 : Int32 → Int32 → St → Option St} (hk7 : ∀ (l1 : Int32) (l2 : Int32) (st : St), k7 l1 l2 st = some u0 → G E WT x RX8 cX8_splits 6 (0, 0) st 7 [(0, .ref (eB E + 38)), (1, .int l1), (2, .int l2)] []) (l1 : Int32) (l2 : Int32) (l3 : Int32) (l4 : Int32) (st : St)  (hf : fX8_splits_b68 k7 l1 l2 l3 l4 st = some u0) : G E WT x RX8 cX8_splits 6 (0, 0) st 68 [(0, .ref (eB E + 38)), (1, .int l1), (2, .int l2), (3, .int l3), (4, .int l4)] [] := by
  unfold fX8_splits_b68 at hf
  refine g_iload_n rfl 3 rfl dX8_splits_68 ?_
  refine g_callS0i (As := [.int l3]) (rest := []) mok_X8_isDigit tw5_210 tw5_211 B.1 (by decide) (kX8_isDigit  rfl) rfl rfl (Nat.le_of_ble_eq_true rfl) ⟨Nat.le_refl _, Nat.le_refl _⟩ dX8_splits_69 ?_
  refine g_if_eq 100 (by decide) dX8_splits_72 (fun h1 => ?_) (fun h1 => ?_)
  · rw [if_pos h1] at hf
    refine g_lvs [0, 1, 2, 3, 4] rfl ?_
    exact wX8_splits_b100 B hk7 l1 l2 l3 l4 st hf
  · rw [if_neg h1] at hf
    refine g_lvs [0, 1, 2, 3, 4] rfl ?_
    exact wX8_splits_b75 B hk7 FU l1 l2 l3 l4 st hf
def fX8_splits_b43 (k7 : Int32 → Int32 → St → Option St) : Nat → Int32 → Int32 → Int32 → Int32 → St → Option St
  | 0, _, _, _, _, _ => none
  | n + 1, l1, l2, l3, l4, st => if l1 ≤ l4 then (fX8_splits_b68 k7 l1 l2 l3 l4 st) else (chk (ixb l4 400) (if (fX8_isSmall (sI st 45 l4.toNatClampNeg)) = 0 then (fX8_splits_b68 k7 l1 l2 l3 l4 st) else (fX8_splits_b43 k7 n l1 l2 l3 (l4 + (1 : Int32)) st)))
set_option maxHeartbeats 1000000 in
set_option maxRecDepth 20000 in
theorem wX8_splits_b43 {E : Ev} {x : Cx} {u0 : St} (B : Bd E x none (1) 0 0 none u0) {k7 : Int32 → Int32 → St → Option St} (hk7 : ∀ (l1 : Int32) (l2 : Int32) (st : St), k7 l1 l2 st = some u0 → G E WT x RX8 cX8_splits 6 (0, 0) st 7 [(0, .ref (eB E + 38)), (1, .int l1), (2, .int l2)] []) : ∀ (n : Nat) (l1 : Int32) (l2 : Int32) (l3 : Int32) (l4 : Int32) (st : St) , fX8_splits_b43 k7 n l1 l2 l3 l4 st = some u0 → G E WT x RX8 cX8_splits 6 (0, 0) st 43 [(0, .ref (eB E + 38)), (1, .int l1), (2, .int l2), (3, .int l3), (4, .int l4)] [] := by
  intro n
  induction n with
  | zero =>
    intros
    rename_i hf
    rw [fX8_splits_b43] at hf
    cases hf
  | succ n ih =>
    intro l1 l2 l3 l4 st hf
    rw [fX8_splits_b43] at hf
    refine g_iload 4 rfl dX8_splits_43 ?_
    refine g_iload_n rfl 1 rfl dX8_splits_45 ?_
    refine g_icmp_ge 68 (by decide) dX8_splits_46 (fun h1 => ?_) (fun h1 => ?_)
    · rw [if_pos h1] at hf
      refine g_lvs [0, 1, 2, 3, 4] rfl ?_
      exact wX8_splits_b68 B hk7 l1 l2 l3 l4 st hf
    · rw [if_neg h1] at hf
      refine g_aload_n rfl 0 rfl dX8_splits_49 ?_
      refine g_get (j := 11) cok8 (by decide) (.ref (eB E + 45)) (Or.inl tw4_186) oS38 vS38_11 dX8_splits_50 ?_
      refine g_iload 4 rfl dX8_splits_53 ?_
      obtain ⟨h2, hf⟩ := chk_some hf
      refine g_baldj l4.toNatClampNeg rfl aS45 (ixb_in h2) dX8_splits_55 ?_
      refine g_callS0i (As := [.int (sI st 45 l4.toNatClampNeg)]) (rest := []) mok_X8_isSmall tw5_207 tw5_208 B.1 (by decide) (kX8_isSmall  rfl) rfl rfl (Nat.le_of_ble_eq_true rfl) ⟨Nat.le_refl _, Nat.le_refl _⟩ dX8_splits_56 ?_
      refine g_if_eq 68 (by decide) dX8_splits_59 (fun h3 => ?_) (fun h3 => ?_)
      · rw [if_pos h3] at hf
        refine g_lvs [0, 1, 2, 3, 4] rfl ?_
        exact wX8_splits_b68 B hk7 l1 l2 l3 l4 st hf
      · rw [if_neg h3] at hf
        refine g_iinc (l4 + (1 : Int32)) [(4, .int (l4 + (1 : Int32))), (0, .ref (eB E + 38)), (1, .int l1), (2, .int l2), (3, .int l3)] 4 rfl (congrArg (fun z => l4 + z) (show Int32.ofInt (1) = (1 : Int32) by decide)) (by decide) rfl dX8_splits_62 ?_
        refine g_goto 43 (by decide) dX8_splits_65 ?_
        refine g_lvs [1, 2, 3, 4, 0] rfl ?_
        exact ih l1 l2 l3 (l4 + (1 : Int32)) st hf
def fX8_splits_b7 : Nat → Int32 → Int32 → St → Option St
  | 0, _, _, _ => none
  | n + 1, l1, l2, st => if l1 ≤ l2 then (chk (ixb (sI st 38 18) 401) (chk (ixb (sI (pI st 49 ((sI st 38 18).toNatClampNeg) l1) 38 18) 401) (chk (ixb (sI (pI (pI st 49 ((sI st 38 18).toNatClampNeg) l1) 47 ((sI (pI st 49 ((sI st 38 18).toNatClampNeg) l1) 38 18).toNatClampNeg) (0 : Int32)) 38 18) 401) (some (pI (pI (pI st 49 ((sI st 38 18).toNatClampNeg) l1) 47 ((sI (pI st 49 ((sI st 38 18).toNatClampNeg) l1) 38 18).toNatClampNeg) (0 : Int32)) 48 ((sI (pI (pI st 49 ((sI st 38 18).toNatClampNeg) l1) 47 ((sI (pI st 49 ((sI st 38 18).toNatClampNeg) l1) 38 18).toNatClampNeg) (0 : Int32)) 38 18).toNatClampNeg) (0 : Int32)))))) else (chk (ixb l2 400) (if (sI st 45 l2.toNatClampNeg) = (32 : Int32) then (fX8_splits_b7 n l1 (l2 + (1 : Int32)) st) else (if (fX8_isSmall (sI st 45 l2.toNatClampNeg)) = 0 then (fX8_splits_b68 (fun zl1 zl2 zst => fX8_splits_b7 n zl1 zl2 zst) l1 l2 (sI st 45 l2.toNatClampNeg) (l2 + (1 : Int32)) st) else (fX8_splits_b43 (fun zl1 zl2 zst => fX8_splits_b7 n zl1 zl2 zst) FU l1 l2 (sI st 45 l2.toNatClampNeg) (l2 + (1 : Int32)) st))))
set_option maxHeartbeats 1000000 in
set_option maxRecDepth 20000 in
theorem wX8_splits_b7 {E : Ev} {x : Cx} {u0 : St} (B : Bd E x none (1) 0 0 none u0) : ∀ (n : Nat) (l1 : Int32) (l2 : Int32) (st : St) , fX8_splits_b7 n l1 l2 st = some u0 → G E WT x RX8 cX8_splits 6 (0, 0) st 7 [(0, .ref (eB E + 38)), (1, .int l1), (2, .int l2)] [] := by
  intro n
  induction n with
  | zero =>
    intros
    rename_i hf
    rw [fX8_splits_b7] at hf
    cases hf
  | succ n ih =>
    intro l1 l2 st hf
    rw [fX8_splits_b7] at hf
    refine g_iload_n rfl 2 rfl dX8_splits_7 ?_
    refine g_iload_n rfl 1 rfl dX8_splits_8 ?_
    refine g_icmp_ge 263 (by decide) dX8_splits_9 (fun h1 => ?_) (fun h1 => ?_)
    · rw [if_pos h1] at hf
      refine g_aload_n rfl 0 rfl dX8_splits_263 ?_
      refine g_get (j := 17) cok8 (by decide) (.ref (eB E + 49)) (Or.inl tw4_192) oS38 vS38_17 dX8_splits_264 ?_
      refine g_aload_n rfl 0 rfl dX8_splits_267 ?_
      refine g_get (j := 18) cok8 (by decide) (.int (sI st 38 18)) (Or.inl tw4_193) oS38 (fun _ => rfl) dX8_splits_268 ?_
      refine g_iload_n rfl 1 rfl dX8_splits_271 ?_
      obtain ⟨h2, hf⟩ := chk_some hf
      refine g_iastj ((sI st 38 18).toNatClampNeg) rfl aS49 (ixb_in h2) B.2.1 wpI dX8_splits_272 ?_
      refine g_aload_n rfl 0 rfl dX8_splits_273 ?_
      refine g_get (j := 15) cok8 (by decide) (.ref (eB E + 47)) (Or.inl tw4_190) oS38 vS38_15 dX8_splits_274 ?_
      refine g_aload_n rfl 0 rfl dX8_splits_277 ?_
      refine g_get (j := 18) cok8 (by decide) (.int (sI (pI st 49 ((sI st 38 18).toNatClampNeg) l1) 38 18)) (Or.inl tw4_193) oS38 (fun _ => rfl) dX8_splits_278 ?_
      refine g_iconst (0 : Int32) (by decide) dX8_splits_281 ?_
      obtain ⟨h3, hf⟩ := chk_some hf
      refine g_iastj ((sI (pI st 49 ((sI st 38 18).toNatClampNeg) l1) 38 18).toNatClampNeg) rfl aS47 (ixb_in h3) B.2.1 wpI dX8_splits_282 ?_
      refine g_aload_n rfl 0 rfl dX8_splits_283 ?_
      refine g_get (j := 16) cok8 (by decide) (.ref (eB E + 48)) (Or.inl tw4_191) oS38 vS38_16 dX8_splits_284 ?_
      refine g_aload_n rfl 0 rfl dX8_splits_287 ?_
      refine g_get (j := 18) cok8 (by decide) (.int (sI (pI (pI st 49 ((sI st 38 18).toNatClampNeg) l1) 47 ((sI (pI st 49 ((sI st 38 18).toNatClampNeg) l1) 38 18).toNatClampNeg) (0 : Int32)) 38 18)) (Or.inl tw4_193) oS38 (fun _ => rfl) dX8_splits_288 ?_
      refine g_iconst (0 : Int32) (by decide) dX8_splits_291 ?_
      obtain ⟨h4, hf⟩ := chk_some hf
      refine g_iastj ((sI (pI (pI st 49 ((sI st 38 18).toNatClampNeg) l1) 47 ((sI (pI st 49 ((sI st 38 18).toNatClampNeg) l1) 38 18).toNatClampNeg) (0 : Int32)) 38 18).toNatClampNeg) rfl aS48 (ixb_in h4) B.2.1 wpI dX8_splits_292 ?_
      exact g_ret B.2.2.2 B.2.2.1 rfl (Option.some.inj hf).symm dX8_splits_293
    · rw [if_neg h1] at hf
      refine g_aload_n rfl 0 rfl dX8_splits_12 ?_
      refine g_get (j := 11) cok8 (by decide) (.ref (eB E + 45)) (Or.inl tw4_186) oS38 vS38_11 dX8_splits_13 ?_
      refine g_iload_n rfl 2 rfl dX8_splits_16 ?_
      obtain ⟨h5, hf⟩ := chk_some hf
      refine g_baldj l2.toNatClampNeg rfl aS45 (ixb_in h5) dX8_splits_17 ?_
      refine g_istore_n rfl [(3, .int (sI st 45 l2.toNatClampNeg)), (0, .ref (eB E + 38)), (1, .int l1), (2, .int l2)] (by decide) rfl dX8_splits_18 ?_
      refine g_iload_n rfl 0 rfl dX8_splits_19 ?_
      refine g_bipush (32 : Int32) (by decide) dX8_splits_20 ?_
      refine g_icmp_ne 31 (by decide) dX8_splits_22 (fun h6 => ?_) (fun h6 => ?_)
      · rw [if_neg h6] at hf
        refine g_iload_n rfl 3 rfl dX8_splits_31 ?_
        refine g_iconst (1 : Int32) (by decide) dX8_splits_32 ?_
        refine g_iadd dX8_splits_33 ?_
        refine g_istore [(4, .int (l2 + (1 : Int32))), (3, .int (sI st 45 l2.toNatClampNeg)), (0, .ref (eB E + 38)), (1, .int l1), (2, .int l2)] (by decide) rfl dX8_splits_34 ?_
        refine g_iload_n rfl 1 rfl dX8_splits_36 ?_
        refine g_callS0i (As := [.int (sI st 45 l2.toNatClampNeg)]) (rest := []) mok_X8_isSmall tw5_207 tw5_208 B.1 (by decide) (kX8_isSmall  rfl) rfl rfl (Nat.le_of_ble_eq_true rfl) ⟨Nat.le_refl _, Nat.le_refl _⟩ dX8_splits_37 ?_
        refine g_if_eq 68 (by decide) dX8_splits_40 (fun h7 => ?_) (fun h7 => ?_)
        · rw [if_pos h7] at hf
          refine g_lvs [2, 3, 4, 1, 0] rfl ?_
          exact wX8_splits_b68 B ih l1 l2 (sI st 45 l2.toNatClampNeg) (l2 + (1 : Int32)) st hf
        · rw [if_neg h7] at hf
          refine g_lvs [2, 3, 4, 1, 0] rfl ?_
          exact wX8_splits_b43 B ih FU l1 l2 (sI st 45 l2.toNatClampNeg) (l2 + (1 : Int32)) st hf
      · rw [if_pos h6] at hf
        refine g_iinc (l2 + (1 : Int32)) [(2, .int (l2 + (1 : Int32))), (3, .int (sI st 45 l2.toNatClampNeg)), (0, .ref (eB E + 38)), (1, .int l1)] 3 rfl (congrArg (fun z => l2 + z) (show Int32.ofInt (1) = (1 : Int32) by decide)) (by decide) rfl dX8_splits_25 ?_
        refine g_goto 7 (by decide) dX8_splits_28 ?_
        refine g_lvs [2, 3, 0] rfl ?_
        exact ih l1 (l2 + (1 : Int32)) st hf
def fX8_splits (p1 : Int32) (st : St) : Option St :=
  fX8_splits_b7 FU p1 (0 : Int32) (pI st 38 18 (0 : Int32))
set_option maxHeartbeats 1000000 in
set_option maxRecDepth 20000 in
theorem wX8_splits {E : Ev} {x : Cx} {u0 : St} (B : Bd E x none (1) 0 0 none u0) (p1 : Int32) (st : St)  (hf : fX8_splits p1 st = some u0) : G E WT x RX8 cX8_splits 6 (0, 0) st 0 [(0, .ref (eB E + 38)), (1, .int p1)] [] := by
  unfold fX8_splits at hf
  refine g_aload_n rfl 0 rfl dX8_splits_0 ?_
  refine g_iconst (0 : Int32) (by decide) dX8_splits_1 ?_
  refine g_putI (j := 18) cok8 (by decide) rfl rfl rfl rfl (Or.inl tw4_193) oS38 B.2.1 wpI dX8_splits_2 ?_
  refine g_iconst (0 : Int32) (by decide) dX8_splits_5 ?_
  refine g_istore_n rfl [(2, .int (0 : Int32)), (0, .ref (eB E + 38)), (1, .int p1)] (by decide) rfl dX8_splits_6 ?_
  refine g_lvs [1, 2, 0] rfl ?_
  exact wX8_splits_b7 B  FU p1 (0 : Int32) (pI st 38 18 (0 : Int32)) hf
theorem kX8_splits {l : Launch} {E : Ev} {st : St} {p1 : Int32} {u0 : St}  (hf : fX8_splits p1 st = some u0) : CM l E WT yX8_splits cX8_splits 6 none 1 0 0 [.ref (eB E + 38), .int p1] st none u0 :=
  CM.intro mok_X8_splits (Nat.le_of_ble_eq_true rfl) (fun x hl hR ht hr hQ _ => wX8_splits ⟨hR, ht, hr, hQ⟩ p1 st hf)
def fX8_fine (st : St)  : Int32 :=
  if (sI st 38 21) = (-1 : Int32) then ((1 : Int32)) else ((0 : Int32))
set_option maxHeartbeats 1000000 in
set_option maxRecDepth 20000 in
theorem wX8_fine {E : Ev} {x : Cx} {r0 : Int32} {st : St} (B : Bd E x (some FieldType.boolean) (0) 0 0 (some (.int r0)) st)   (hf : fX8_fine st  = r0) : G E WT x RX8 cX8_fine 1 (0, 0) st 0 [(0, .ref (eB E + 38))] [] := by
  unfold fX8_fine at hf
  refine g_aload_n rfl 0 rfl dX8_fine_0 ?_
  refine g_get (j := 21) cok8 (by decide) (.int (sI st 38 21)) (Or.inl tw4_196) oS38 (fun _ => rfl) dX8_fine_1 ?_
  refine g_iconst (-1 : Int32) (by decide) dX8_fine_4 ?_
  refine g_icmp_ne 12 (by decide) dX8_fine_5 (fun h1 => ?_) (fun h1 => ?_)
  · rw [if_neg h1] at hf
    refine g_iconst (0 : Int32) (by decide) dX8_fine_12 ?_
    exact g_zret B.2.2.2 B.2.2.1 (by decide) (congrArg (fun z => some (Value.int z)) hf.symm) rfl dX8_fine_13
  · rw [if_pos h1] at hf
    refine g_iconst (1 : Int32) (by decide) dX8_fine_8 ?_
    refine g_goto 13 (by decide) dX8_fine_9 ?_
    exact g_zret B.2.2.2 B.2.2.1 (by decide) (congrArg (fun z => some (Value.int z)) hf.symm) rfl dX8_fine_13
theorem kX8_fine {l : Launch} {E : Ev} {st : St}  {r0 : Int32}  (hf : fX8_fine st = r0) : CM l E WT yX8_fine cX8_fine 1 (some FieldType.boolean) 0 0 0 [.ref (eB E + 38)] st (some (.int r0)) st :=
  CM.intro mok_X8_fine (Nat.le_of_ble_eq_true rfl) (fun x hl hR ht hr hQ _ => wX8_fine ⟨hR, ht, hr, hQ⟩  hf)
theorem fX8_fine_b (st : St) : isb (fX8_fine st) = true := by
  unfold fX8_fine
  (repeat' split) <;> first | rfl | exact fX8_lies_b _ _ _
def fX8_faults  (st : St) : Option St :=
  if (fX8_fine st) = 0 then (some st) else (chk (ixb (sI st 38 19) 401) (some (pI st 38 21 (sI st 49 ((sI st 38 19).toNatClampNeg)))))
set_option maxHeartbeats 1000000 in
set_option maxRecDepth 20000 in
theorem wX8_faults {E : Ev} {x : Cx} {u0 : St} (B : Bd E x none (1) 0 0 none u0)  (st : St)  (hf : fX8_faults st = some u0) : G E WT x RX8 cX8_faults 1 (0, 0) st 0 [(0, .ref (eB E + 38))] [] := by
  unfold fX8_faults at hf
  refine g_aload_n rfl 0 rfl dX8_faults_0 ?_
  refine g_callV0i (As := []) (rest := []) cok8 mok_X8_fine tw5_230 tw5_232 ts6_0 oS38 B.1 (by decide) (kX8_fine  rfl) rfl rfl (Nat.le_of_ble_eq_true rfl) ⟨Nat.le_refl _, Nat.le_refl _⟩ dX8_faults_1 ?_
  refine g_if_eq 20 (by decide) dX8_faults_4 (fun h1 => ?_) (fun h1 => ?_)
  · rw [if_pos h1] at hf
    exact g_ret B.2.2.2 B.2.2.1 rfl (Option.some.inj hf).symm dX8_faults_20
  · rw [if_neg h1] at hf
    refine g_aload_n rfl 0 rfl dX8_faults_7 ?_
    refine g_aload_n rfl 0 rfl dX8_faults_8 ?_
    refine g_get (j := 17) cok8 (by decide) (.ref (eB E + 49)) (Or.inl tw4_192) oS38 vS38_17 dX8_faults_9 ?_
    refine g_aload_n rfl 0 rfl dX8_faults_12 ?_
    refine g_get (j := 19) cok8 (by decide) (.int (sI st 38 19)) (Or.inl tw4_194) oS38 (fun _ => rfl) dX8_faults_13 ?_
    obtain ⟨h2, hf⟩ := chk_some hf
    refine g_ialdj ((sI st 38 19).toNatClampNeg) rfl aS49 (ixb_in h2) dX8_faults_16 ?_
    refine g_putI (j := 21) cok8 (by decide) rfl rfl rfl rfl (Or.inl tw4_196) oS38 B.2.1 wpI dX8_faults_17 ?_
    exact g_ret B.2.2.2 B.2.2.1 rfl (Option.some.inj hf).symm dX8_faults_20
theorem kX8_faults {l : Launch} {E : Ev} {st : St}  {u0 : St}  (hf : fX8_faults st = some u0) : CM l E WT yX8_faults cX8_faults 1 none 1 0 0 [.ref (eB E + 38)] st none u0 :=
  CM.intro mok_X8_faults (Nat.le_of_ble_eq_true rfl) (fun x hl hR ht hr hQ _ => wX8_faults ⟨hR, ht, hr, hQ⟩ st hf)
def fX8_takes0_b25 (s0 : Int32) (st : St) : Option (Int32 × St) :=
  if s0 = 0 then (chk (isb s0) (some (s0, st))) else (chk (isb s0) (some (s0, pI st 38 19 ((sI st 38 19) + (1 : Int32)))))
set_option maxHeartbeats 1000000 in
set_option maxRecDepth 20000 in
theorem wX8_takes0_b25 {E : Ev} {x : Cx} {r0 : Int32} {u0 : St} (B : Bd E x (some FieldType.boolean) (1) 0 0 (some (.int r0)) u0) (s0 : Int32) (st : St)  (hf : fX8_takes0_b25 s0 st = some (r0, u0)) : G E WT x RX8 cX8_takes0 3 (0, 0) st 25 [(0, .ref (eB E + 38))] [.int s0] := by
  unfold fX8_takes0_b25 at hf
  refine g_istore_n rfl [(2, .int s0), (0, .ref (eB E + 38))] (by decide) rfl dX8_takes0_25 ?_
  refine g_iload_n rfl 0 rfl dX8_takes0_26 ?_
  refine g_if_eq 40 (by decide) dX8_takes0_27 (fun h1 => ?_) (fun h1 => ?_)
  · rw [if_pos h1] at hf
    refine g_iload_n rfl 0 rfl dX8_takes0_40 ?_
    obtain ⟨h2, hf⟩ := chk_some hf
    exact g_zret B.2.2.2 B.2.2.1 (isb_or h2) (congrArg (fun z => some (Value.int z)) (Prod.mk.inj (Option.some.inj hf)).1.symm) (Prod.mk.inj (Option.some.inj hf)).2.symm dX8_takes0_41
  · rw [if_neg h1] at hf
    refine g_aload_n rfl 1 rfl dX8_takes0_30 ?_
    refine g_dup rfl dX8_takes0_31 ?_
    refine g_get (j := 19) cok8 (by decide) (.int (sI st 38 19)) (Or.inl tw4_194) oS38 (fun _ => rfl) dX8_takes0_32 ?_
    refine g_iconst (1 : Int32) (by decide) dX8_takes0_35 ?_
    refine g_iadd dX8_takes0_36 ?_
    refine g_putI (j := 19) cok8 (by decide) rfl rfl rfl rfl (Or.inl tw4_194) oS38 B.2.1 wpI dX8_takes0_37 ?_
    refine g_iload_n rfl 0 rfl dX8_takes0_40 ?_
    obtain ⟨h3, hf⟩ := chk_some hf
    exact g_zret B.2.2.2 B.2.2.1 (isb_or h3) (congrArg (fun z => some (Value.int z)) (Prod.mk.inj (Option.some.inj hf)).1.symm) (Prod.mk.inj (Option.some.inj hf)).2.symm dX8_takes0_41
def fX8_takes0_b24  (st : St) : Option (Int32 × St) :=
  fX8_takes0_b25 (0 : Int32) st
set_option maxHeartbeats 1000000 in
set_option maxRecDepth 20000 in
theorem wX8_takes0_b24 {E : Ev} {x : Cx} {r0 : Int32} {u0 : St} (B : Bd E x (some FieldType.boolean) (1) 0 0 (some (.int r0)) u0)  (st : St)  (hf : fX8_takes0_b24 st = some (r0, u0)) : G E WT x RX8 cX8_takes0 3 (0, 0) st 24 [(0, .ref (eB E + 38))] [] := by
  unfold fX8_takes0_b24 at hf
  refine g_iconst (0 : Int32) (by decide) dX8_takes0_24 ?_
  refine g_lvs [0] rfl ?_
  exact wX8_takes0_b25 B  (0 : Int32) st hf
def fX8_takes0 (p1 : Int32) (st : St) : Option (Int32 × St) :=
  if (fX8_fine st) = 0 then (fX8_takes0_b24  st) else (chk (ixb (sI st 38 19) 401) (if (sI st 47 ((sI st 38 19).toNatClampNeg)) = p1 then (fX8_takes0_b25 (1 : Int32) st) else (fX8_takes0_b24  st)))
set_option maxHeartbeats 1000000 in
set_option maxRecDepth 20000 in
theorem wX8_takes0 {E : Ev} {x : Cx} {r0 : Int32} {u0 : St} (B : Bd E x (some FieldType.boolean) (1) 0 0 (some (.int r0)) u0) (p1 : Int32) (st : St)  (hf : fX8_takes0 p1 st = some (r0, u0)) : G E WT x RX8 cX8_takes0 3 (0, 0) st 0 [(0, .ref (eB E + 38)), (1, .int p1)] [] := by
  unfold fX8_takes0 at hf
  refine g_aload_n rfl 0 rfl dX8_takes0_0 ?_
  refine g_callV0i (As := []) (rest := []) cok8 mok_X8_fine tw5_230 tw5_232 ts6_0 oS38 B.1 (by decide) (kX8_fine  rfl) rfl rfl (Nat.le_of_ble_eq_true rfl) ⟨Nat.le_refl _, Nat.le_refl _⟩ dX8_takes0_1 ?_
  refine g_if_eq 24 (by decide) dX8_takes0_4 (fun h1 => ?_) (fun h1 => ?_)
  · rw [if_pos h1] at hf
    refine g_lvs [0] rfl ?_
    exact wX8_takes0_b24 B  st hf
  · rw [if_neg h1] at hf
    refine g_aload_n rfl 0 rfl dX8_takes0_7 ?_
    refine g_get (j := 15) cok8 (by decide) (.ref (eB E + 47)) (Or.inl tw4_190) oS38 vS38_15 dX8_takes0_8 ?_
    refine g_aload_n rfl 0 rfl dX8_takes0_11 ?_
    refine g_get (j := 19) cok8 (by decide) (.int (sI st 38 19)) (Or.inl tw4_194) oS38 (fun _ => rfl) dX8_takes0_12 ?_
    obtain ⟨h2, hf⟩ := chk_some hf
    refine g_ialdj ((sI st 38 19).toNatClampNeg) rfl aS47 (ixb_in h2) dX8_takes0_15 ?_
    refine g_iload_n rfl 1 rfl dX8_takes0_16 ?_
    refine g_icmp_ne 24 (by decide) dX8_takes0_17 (fun h3 => ?_) (fun h3 => ?_)
    · rw [if_neg h3] at hf
      refine g_lvs [0] rfl ?_
      exact wX8_takes0_b24 B  st hf
    · rw [if_pos h3] at hf
      refine g_iconst (1 : Int32) (by decide) dX8_takes0_20 ?_
      refine g_goto 25 (by decide) dX8_takes0_21 ?_
      refine g_lvs [0] rfl ?_
      exact wX8_takes0_b25 B  (1 : Int32) st hf
theorem kX8_takes0 {l : Launch} {E : Ev} {st : St} {p1 : Int32} {r0 : Int32} {u0 : St}  (hf : fX8_takes0 p1 st = some (r0, u0)) : CM l E WT yX8_takes0 cX8_takes0 3 (some FieldType.boolean) 1 0 0 [.ref (eB E + 38), .int p1] st (some (.int r0)) u0 :=
  CM.intro mok_X8_takes0 (Nat.le_of_ble_eq_true rfl) (fun x hl hR ht hr hQ _ => wX8_takes0 ⟨hR, ht, hr, hQ⟩ p1 st hf)
def fX8_must (p1 : Int32) (st : St) : Option St :=
  (fX8_takes0 p1 st).bind (fun q1 => if q1.1 = 0 then (fX8_faults q1.2) else (some q1.2))
set_option maxHeartbeats 1000000 in
set_option maxRecDepth 20000 in
theorem wX8_must {E : Ev} {x : Cx} {u0 : St} (B : Bd E x none (2) 0 0 none u0) (p1 : Int32) (st : St)  (hf : fX8_must p1 st = some u0) : G E WT x RX8 cX8_must 2 (0, 0) st 0 [(0, .ref (eB E + 38)), (1, .int p1)] [] := by
  unfold fX8_must at hf
  refine g_aload_n rfl 0 rfl dX8_must_0 ?_
  refine g_iload_n rfl 1 rfl dX8_must_1 ?_
  obtain ⟨q1, h2, hf⟩ := bnd_some hf
  refine g_callV0i (As := [.int p1]) (rest := []) cok8 mok_X8_takes0 tw5_226 tw5_228 ts5_15 oS38 B.1 (by decide) (kX8_takes0  h2) rfl rfl (Nat.le_of_ble_eq_true rfl) ⟨Nat.le_refl _, Nat.le_refl _⟩ dX8_must_2 ?_
  refine g_if_ne 12 (by decide) dX8_must_5 (fun h3 => ?_) (fun h3 => ?_)
  · rw [if_neg h3] at hf
    exact g_ret B.2.2.2 B.2.2.1 rfl (Option.some.inj hf).symm dX8_must_12
  · rw [if_pos h3] at hf
    refine g_aload_n rfl 0 rfl dX8_must_8 ?_
    refine g_callV0v (As := []) (rest := []) cok8 mok_X8_faults tw6_9 tw6_11 ts6_4 oS38 B.1 (by decide) (kX8_faults  hf) rfl rfl (Nat.le_of_ble_eq_true rfl) ⟨Nat.le_refl _, Nat.le_refl _⟩ dX8_must_9 ?_
    exact g_ret B.2.2.2 B.2.2.1 rfl rfl dX8_must_12
theorem kX8_must {l : Launch} {E : Ev} {st : St} {p1 : Int32} {u0 : St}  (hf : fX8_must p1 st = some u0) : CM l E WT yX8_must cX8_must 2 none 2 0 0 [.ref (eB E + 38), .int p1] st none u0 :=
  CM.intro mok_X8_must (Nat.le_of_ble_eq_true rfl) (fun x hl hR ht hr hQ _ => wX8_must ⟨hR, ht, hr, hQ⟩ p1 st hf)
def fX8_leaf_b13  (st : St) : Option St :=
  if (fX8_fine (pI st 38 20 ((sI st 38 20) + (1 : Int32)))) = 0 then (some (pI st 38 20 ((sI st 38 20) + (1 : Int32)))) else (some (pI (pI st 38 20 ((sI st 38 20) + (1 : Int32))) 38 19 ((sI (pI st 38 20 ((sI st 38 20) + (1 : Int32))) 38 19) + (1 : Int32))))
set_option maxHeartbeats 1000000 in
set_option maxRecDepth 20000 in
theorem wX8_leaf_b13 {E : Ev} {x : Cx} {u0 : St} (B : Bd E x none (2) 0 0 none u0)  (st : St)  (hf : fX8_leaf_b13 st = some u0) : G E WT x RX8 cX8_leaf 1 (0, 0) st 13 [(0, .ref (eB E + 38))] [] := by
  unfold fX8_leaf_b13 at hf
  refine g_aload_n rfl 0 rfl dX8_leaf_13 ?_
  refine g_dup rfl dX8_leaf_14 ?_
  refine g_get (j := 20) cok8 (by decide) (.int (sI st 38 20)) (Or.inl tw4_195) oS38 (fun _ => rfl) dX8_leaf_15 ?_
  refine g_iconst (1 : Int32) (by decide) dX8_leaf_18 ?_
  refine g_iadd dX8_leaf_19 ?_
  refine g_putI (j := 20) cok8 (by decide) rfl rfl rfl rfl (Or.inl tw4_195) oS38 B.2.1 wpI dX8_leaf_20 ?_
  refine g_aload_n rfl 0 rfl dX8_leaf_23 ?_
  refine g_callV0i (As := []) (rest := []) cok8 mok_X8_fine tw5_230 tw5_232 ts6_0 oS38 B.1 (by decide) (kX8_fine  rfl) rfl rfl (Nat.le_of_ble_eq_true rfl) ⟨Nat.le_refl _, Nat.le_refl _⟩ dX8_leaf_24 ?_
  refine g_if_eq 40 (by decide) dX8_leaf_27 (fun h1 => ?_) (fun h1 => ?_)
  · rw [if_pos h1] at hf
    exact g_ret B.2.2.2 B.2.2.1 rfl (Option.some.inj hf).symm dX8_leaf_40
  · rw [if_neg h1] at hf
    refine g_aload_n rfl 0 rfl dX8_leaf_30 ?_
    refine g_dup rfl dX8_leaf_31 ?_
    refine g_get (j := 19) cok8 (by decide) (.int (sI (pI st 38 20 ((sI st 38 20) + (1 : Int32))) 38 19)) (Or.inl tw4_194) oS38 (fun _ => rfl) dX8_leaf_32 ?_
    refine g_iconst (1 : Int32) (by decide) dX8_leaf_35 ?_
    refine g_iadd dX8_leaf_36 ?_
    refine g_putI (j := 19) cok8 (by decide) rfl rfl rfl rfl (Or.inl tw4_194) oS38 B.2.1 wpI dX8_leaf_37 ?_
    exact g_ret B.2.2.2 B.2.2.1 rfl (Option.some.inj hf).symm dX8_leaf_40
def fX8_leaf  (st : St) : Option St :=
  if (sI st 38 20) = (50 : Int32) then ((fX8_faults st).bind (fun q2 => fX8_leaf_b13  q2)) else (fX8_leaf_b13  st)
set_option maxHeartbeats 1000000 in
set_option maxRecDepth 20000 in
theorem wX8_leaf {E : Ev} {x : Cx} {u0 : St} (B : Bd E x none (2) 0 0 none u0)  (st : St)  (hf : fX8_leaf st = some u0) : G E WT x RX8 cX8_leaf 1 (0, 0) st 0 [(0, .ref (eB E + 38))] [] := by
  unfold fX8_leaf at hf
  refine g_aload_n rfl 0 rfl dX8_leaf_0 ?_
  refine g_get (j := 20) cok8 (by decide) (.int (sI st 38 20)) (Or.inl tw4_195) oS38 (fun _ => rfl) dX8_leaf_1 ?_
  refine g_bipush (50 : Int32) (by decide) dX8_leaf_4 ?_
  refine g_icmp_ne 13 (by decide) dX8_leaf_6 (fun h1 => ?_) (fun h1 => ?_)
  · rw [if_neg h1] at hf
    refine g_lvs [0] rfl ?_
    exact wX8_leaf_b13 B  st hf
  · rw [if_pos h1] at hf
    refine g_aload_n rfl 0 rfl dX8_leaf_9 ?_
    obtain ⟨q2, h3, hf⟩ := bnd_some hf
    refine g_callV0v (As := []) (rest := []) cok8 mok_X8_faults tw6_9 tw6_11 ts6_4 oS38 B.1 (by decide) (kX8_faults  h3) rfl rfl (Nat.le_of_ble_eq_true rfl) ⟨Nat.le_refl _, Nat.le_refl _⟩ dX8_leaf_10 ?_
    refine g_lvs [0] rfl ?_
    exact wX8_leaf_b13 B  q2 hf
theorem kX8_leaf {l : Launch} {E : Ev} {st : St}  {u0 : St}  (hf : fX8_leaf st = some u0) : CM l E WT yX8_leaf cX8_leaf 1 none 2 0 0 [.ref (eB E + 38)] st none u0 :=
  CM.intro mok_X8_leaf (Nat.le_of_ble_eq_true rfl) (fun x hl hR ht hr hQ _ => wX8_leaf ⟨hR, ht, hr, hQ⟩ st hf)
def fX8_sign (p0 : Int32) : Int32 :=
  (100 : Int32) + p0
set_option maxHeartbeats 1000000 in
set_option maxRecDepth 20000 in
theorem wX8_sign {E : Ev} {x : Cx} {r0 : Int32} {st : St} (B : Bd E x (some FieldType.int) (0) 0 0 (some (.int r0)) st) (p0 : Int32)  (hf : fX8_sign p0 = r0) : G E WT x RX8 cX8_sign 1 (0, 0) st 0 [(0, .int p0)] [] := by
  unfold fX8_sign at hf
  refine g_bipush (100 : Int32) (by decide) dX8_sign_0 ?_
  refine g_iload_n rfl 0 rfl dX8_sign_2 ?_
  refine g_iadd dX8_sign_3 ?_
  exact g_iret B.2.2.2 B.2.2.1 (congrArg (fun z => some (Value.int z)) hf.symm) rfl dX8_sign_4
theorem kX8_sign {l : Launch} {E : Ev} {st : St} {p0 : Int32} {r0 : Int32}  (hf : fX8_sign p0 = r0) : CM l E WT yX8_sign cX8_sign 1 (some FieldType.int) 0 0 0 [.int p0] st (some (.int r0)) st :=
  CM.intro mok_X8_sign (Nat.le_of_ble_eq_true rfl) (fun x hl hR ht hr hQ _ => wX8_sign ⟨hR, ht, hr, hQ⟩ p0 hf)
def fX8_mustNumber_b42  (st : St) : Option St :=
  if (fX8_fine st) = 0 then (some st) else (some (pI st 38 19 ((sI st 38 19) + (1 : Int32))))
set_option maxHeartbeats 1000000 in
set_option maxRecDepth 20000 in
theorem wX8_mustNumber_b42 {E : Ev} {x : Cx} {u0 : St} (B : Bd E x none (2) 0 0 none u0)  (st : St)  (hf : fX8_mustNumber_b42 st = some u0) : G E WT x RX8 cX8_mustNumber 3 (0, 0) st 42 [(0, .ref (eB E + 38))] [] := by
  unfold fX8_mustNumber_b42 at hf
  refine g_aload_n rfl 0 rfl dX8_mustNumber_42 ?_
  refine g_callV0i (As := []) (rest := []) cok8 mok_X8_fine tw5_230 tw5_232 ts6_0 oS38 B.1 (by decide) (kX8_fine  rfl) rfl rfl (Nat.le_of_ble_eq_true rfl) ⟨Nat.le_refl _, Nat.le_refl _⟩ dX8_mustNumber_43 ?_
  refine g_if_eq 59 (by decide) dX8_mustNumber_46 (fun h1 => ?_) (fun h1 => ?_)
  · rw [if_pos h1] at hf
    exact g_ret B.2.2.2 B.2.2.1 rfl (Option.some.inj hf).symm dX8_mustNumber_59
  · rw [if_neg h1] at hf
    refine g_aload_n rfl 0 rfl dX8_mustNumber_49 ?_
    refine g_dup rfl dX8_mustNumber_50 ?_
    refine g_get (j := 19) cok8 (by decide) (.int (sI st 38 19)) (Or.inl tw4_194) oS38 (fun _ => rfl) dX8_mustNumber_51 ?_
    refine g_iconst (1 : Int32) (by decide) dX8_mustNumber_54 ?_
    refine g_iadd dX8_mustNumber_55 ?_
    refine g_putI (j := 19) cok8 (by decide) rfl rfl rfl rfl (Or.inl tw4_194) oS38 B.2.1 wpI dX8_mustNumber_56 ?_
    exact g_ret B.2.2.2 B.2.2.1 rfl (Option.some.inj hf).symm dX8_mustNumber_59
def fX8_mustNumber_b38  (st : St) : Option St :=
  (fX8_faults st).bind (fun q1 => fX8_mustNumber_b42  q1)
set_option maxHeartbeats 1000000 in
set_option maxRecDepth 20000 in
theorem wX8_mustNumber_b38 {E : Ev} {x : Cx} {u0 : St} (B : Bd E x none (2) 0 0 none u0)  (st : St)  (hf : fX8_mustNumber_b38 st = some u0) : G E WT x RX8 cX8_mustNumber 3 (0, 0) st 38 [(0, .ref (eB E + 38))] [] := by
  unfold fX8_mustNumber_b38 at hf
  refine g_aload_n rfl 0 rfl dX8_mustNumber_38 ?_
  obtain ⟨q1, h2, hf⟩ := bnd_some hf
  refine g_callV0v (As := []) (rest := []) cok8 mok_X8_faults tw6_9 tw6_11 ts6_4 oS38 B.1 (by decide) (kX8_faults  h2) rfl rfl (Nat.le_of_ble_eq_true rfl) ⟨Nat.le_refl _, Nat.le_refl _⟩ dX8_mustNumber_39 ?_
  refine g_lvs [0] rfl ?_
  exact wX8_mustNumber_b42 B  q1 hf
def fX8_mustNumber (p1 : Int32) (p2 : Int32) (st : St) : Option St :=
  if (fX8_fine st) = 0 then (fX8_mustNumber_b42  st) else (chk (ixb (sI st 38 19) 401) (if (sI st 47 ((sI st 38 19).toNatClampNeg)) = (50 : Int32) then (chk (ixb (sI st 38 19) 401) (if (fX8_lies (sI st 48 ((sI st 38 19).toNatClampNeg)) p1 p2) = 0 then (fX8_mustNumber_b38  st) else (fX8_mustNumber_b42  st))) else (fX8_mustNumber_b38  st)))
set_option maxHeartbeats 1000000 in
set_option maxRecDepth 20000 in
theorem wX8_mustNumber {E : Ev} {x : Cx} {u0 : St} (B : Bd E x none (2) 0 0 none u0) (p1 : Int32) (p2 : Int32) (st : St)  (hf : fX8_mustNumber p1 p2 st = some u0) : G E WT x RX8 cX8_mustNumber 3 (0, 0) st 0 [(0, .ref (eB E + 38)), (1, .int p1), (2, .int p2)] [] := by
  unfold fX8_mustNumber at hf
  refine g_aload_n rfl 0 rfl dX8_mustNumber_0 ?_
  refine g_callV0i (As := []) (rest := []) cok8 mok_X8_fine tw5_230 tw5_232 ts6_0 oS38 B.1 (by decide) (kX8_fine  rfl) rfl rfl (Nat.le_of_ble_eq_true rfl) ⟨Nat.le_refl _, Nat.le_refl _⟩ dX8_mustNumber_1 ?_
  refine g_if_eq 42 (by decide) dX8_mustNumber_4 (fun h1 => ?_) (fun h1 => ?_)
  · rw [if_pos h1] at hf
    refine g_lvs [0] rfl ?_
    exact wX8_mustNumber_b42 B  st hf
  · rw [if_neg h1] at hf
    refine g_aload_n rfl 0 rfl dX8_mustNumber_7 ?_
    refine g_get (j := 15) cok8 (by decide) (.ref (eB E + 47)) (Or.inl tw4_190) oS38 vS38_15 dX8_mustNumber_8 ?_
    refine g_aload_n rfl 0 rfl dX8_mustNumber_11 ?_
    refine g_get (j := 19) cok8 (by decide) (.int (sI st 38 19)) (Or.inl tw4_194) oS38 (fun _ => rfl) dX8_mustNumber_12 ?_
    obtain ⟨h2, hf⟩ := chk_some hf
    refine g_ialdj ((sI st 38 19).toNatClampNeg) rfl aS47 (ixb_in h2) dX8_mustNumber_15 ?_
    refine g_bipush (50 : Int32) (by decide) dX8_mustNumber_16 ?_
    refine g_icmp_ne 38 (by decide) dX8_mustNumber_18 (fun h3 => ?_) (fun h3 => ?_)
    · rw [if_neg h3] at hf
      refine g_lvs [0] rfl ?_
      exact wX8_mustNumber_b38 B  st hf
    · rw [if_pos h3] at hf
      refine g_aload_n rfl 0 rfl dX8_mustNumber_21 ?_
      refine g_get (j := 16) cok8 (by decide) (.ref (eB E + 48)) (Or.inl tw4_191) oS38 vS38_16 dX8_mustNumber_22 ?_
      refine g_aload_n rfl 0 rfl dX8_mustNumber_25 ?_
      refine g_get (j := 19) cok8 (by decide) (.int (sI st 38 19)) (Or.inl tw4_194) oS38 (fun _ => rfl) dX8_mustNumber_26 ?_
      obtain ⟨h4, hf⟩ := chk_some hf
      refine g_ialdj ((sI st 38 19).toNatClampNeg) rfl aS48 (ixb_in h4) dX8_mustNumber_29 ?_
      refine g_iload_n rfl 1 rfl dX8_mustNumber_30 ?_
      refine g_iload_n rfl 2 rfl dX8_mustNumber_31 ?_
      refine g_callS0i (As := [.int (sI st 48 ((sI st 38 19).toNatClampNeg)), .int p1, .int p2]) (rest := []) mok_X8_lies tw5_118 tw5_119 B.1 (by decide) (kX8_lies  rfl) rfl rfl (Nat.le_of_ble_eq_true rfl) ⟨Nat.le_refl _, Nat.le_refl _⟩ dX8_mustNumber_32 ?_
      refine g_if_ne 42 (by decide) dX8_mustNumber_35 (fun h5 => ?_) (fun h5 => ?_)
      · rw [if_neg h5] at hf
        refine g_lvs [0] rfl ?_
        exact wX8_mustNumber_b42 B  st hf
      · rw [if_pos h5] at hf
        refine g_lvs [0] rfl ?_
        exact wX8_mustNumber_b38 B  st hf
theorem kX8_mustNumber {l : Launch} {E : Ev} {st : St} {p1 : Int32} {p2 : Int32} {u0 : St}  (hf : fX8_mustNumber p1 p2 st = some u0) : CM l E WT yX8_mustNumber cX8_mustNumber 3 none 2 0 0 [.ref (eB E + 38), .int p1, .int p2] st none u0 :=
  CM.intro mok_X8_mustNumber (Nat.le_of_ble_eq_true rfl) (fun x hl hR ht hr hQ _ => wX8_mustNumber ⟨hR, ht, hr, hQ⟩ p1 p2 st hf)
abbrev TG0 : Type := (Int32 → St → Option St) × (Int32 → St → Option St) × (Int32 → St → Option St) × (Int32 → St → Option St) × (Int32 → St → Option St) × (Int32 → St → Option St)
def RcOK0 (l : Launch) (E : Ev) (rc : TG0) (d : Nat) : Prop := (∀ {st : St} {p1 : Int32} {u0 : St}, rc.1 p1 st = some u0 → CM l E WT yX8_readTest cX8_readTest 2 none (3 + d) 0 0 [.ref (eB E + 38), .int p1] st none u0) ∧ (∀ {st : St} {p1 : Int32} {u0 : St}, rc.2.1 p1 st = some u0 → CM l E WT yX8_readBoth cX8_readBoth 2 none (3 + d) 0 0 [.ref (eB E + 38), .int p1] st none u0) ∧ (∀ {st : St} {p1 : Int32} {u0 : St}, rc.2.2.1 p1 st = some u0 → CM l E WT yX8_readPlain cX8_readPlain 4 none (3 + d) 0 0 [.ref (eB E + 38), .int p1] st none u0) ∧ (∀ {st : St} {p1 : Int32} {u0 : St}, rc.2.2.2.1 p1 st = some u0 → CM l E WT yX8_readSum cX8_readSum 2 none (3 + d) 0 0 [.ref (eB E + 38), .int p1] st none u0) ∧ (∀ {st : St} {p1 : Int32} {u0 : St}, rc.2.2.2.2.1 p1 st = some u0 → CM l E WT yX8_readTerm cX8_readTerm 2 none (3 + d) 0 0 [.ref (eB E + 38), .int p1] st none u0) ∧ (∀ {st : St} {p1 : Int32} {u0 : St}, rc.2.2.2.2.2 p1 st = some u0 → CM l E WT yX8_readPart cX8_readPart 3 none (3 + d) 0 0 [.ref (eB E + 38), .int p1] st none u0)
def fX8_readTest_b5 (rc : TG0)  : Nat → Int32 → St → Option St
  | 0, _, _ => none
  | n + 1, l1, st => (fX8_takes0 (6 : Int32) st).bind (fun q1 => if q1.1 = 0 then (some q1.2) else ((rc.2.1 l1 q1.2).bind (fun q4 => fX8_readTest_b5 rc n l1 q4)))
set_option maxHeartbeats 1000000 in
set_option maxRecDepth 20000 in
theorem wX8_readTest_b5 {E : Ev} {x : Cx} {rc : TG0} {d : Nat} (hrc : RcOK0 (xl x) E rc d) {u0 : St} (B : Bd E x none (3 + d + 1) 0 0 none u0) : ∀ (n : Nat) (l1 : Int32) (st : St) , fX8_readTest_b5 rc n l1 st = some u0 → G E WT x RX8 cX8_readTest 2 (0, 0) st 5 [(0, .ref (eB E + 38)), (1, .int l1)] [] := by
  intro n
  induction n with
  | zero =>
    intros
    rename_i hf
    rw [fX8_readTest_b5] at hf
    cases hf
  | succ n ih =>
    intro l1 st hf
    rw [fX8_readTest_b5] at hf
    refine g_aload_n rfl 0 rfl dX8_readTest_5 ?_
    refine g_bipush (6 : Int32) (by decide) dX8_readTest_6 ?_
    obtain ⟨q1, h2, hf⟩ := bnd_some hf
    refine g_callV0i (As := [.int (6 : Int32)]) (rest := []) cok8 mok_X8_takes0 tw5_226 tw5_228 ts5_15 oS38 B.1 (by omega) (kX8_takes0  h2) rfl rfl (Nat.le_of_ble_eq_true rfl) ⟨Nat.le_refl _, Nat.le_refl _⟩ dX8_readTest_8 ?_
    refine g_if_eq 22 (by decide) dX8_readTest_11 (fun h3 => ?_) (fun h3 => ?_)
    · rw [if_pos h3] at hf
      exact g_ret B.2.2.2 B.2.2.1 rfl (Option.some.inj hf).symm dX8_readTest_22
    · rw [if_neg h3] at hf
      refine g_aload_n rfl 0 rfl dX8_readTest_14 ?_
      refine g_iload_n rfl 1 rfl dX8_readTest_15 ?_
      obtain ⟨q4, h5, hf⟩ := bnd_some hf
      refine g_callV0v (As := [.int l1]) (rest := []) cok8 mok_X8_readBoth tw6_29 tw6_31 ts6_9 oS38 B.1 (by omega) (hrc.2.1 h5) rfl rfl (Nat.le_of_ble_eq_true rfl) ⟨Nat.le_refl _, Nat.le_refl _⟩ dX8_readTest_16 ?_
      refine g_goto 5 (by decide) dX8_readTest_19 ?_
      refine g_lvs [0, 1] rfl ?_
      exact ih l1 q4 hf
def fX8_readTest_g (rc : TG0) (p1 : Int32) (st : St) : Option St :=
  (rc.2.1 p1 st).bind (fun q1 => fX8_readTest_b5 rc FU p1 q1)
set_option maxHeartbeats 1000000 in
set_option maxRecDepth 20000 in
theorem wX8_readTest {E : Ev} {x : Cx} {rc : TG0} {d : Nat} (hrc : RcOK0 (xl x) E rc d) {u0 : St} (B : Bd E x none (3 + d + 1) 0 0 none u0) (p1 : Int32) (st : St)  (hf : fX8_readTest_g rc p1 st = some u0) : G E WT x RX8 cX8_readTest 2 (0, 0) st 0 [(0, .ref (eB E + 38)), (1, .int p1)] [] := by
  unfold fX8_readTest_g at hf
  refine g_aload_n rfl 0 rfl dX8_readTest_0 ?_
  refine g_iload_n rfl 1 rfl dX8_readTest_1 ?_
  obtain ⟨q1, h2, hf⟩ := bnd_some hf
  refine g_callV0v (As := [.int p1]) (rest := []) cok8 mok_X8_readBoth tw6_29 tw6_31 ts6_9 oS38 B.1 (by omega) (hrc.2.1 h2) rfl rfl (Nat.le_of_ble_eq_true rfl) ⟨Nat.le_refl _, Nat.le_refl _⟩ dX8_readTest_2 ?_
  refine g_lvs [0, 1] rfl ?_
  exact wX8_readTest_b5 hrc B  FU p1 q1 hf
def fX8_readBoth_b5 (rc : TG0)  : Nat → Int32 → St → Option St
  | 0, _, _ => none
  | n + 1, l1, st => (fX8_takes0 (7 : Int32) st).bind (fun q1 => if q1.1 = 0 then (some q1.2) else ((rc.2.2.1 l1 q1.2).bind (fun q4 => fX8_readBoth_b5 rc n l1 q4)))
set_option maxHeartbeats 1000000 in
set_option maxRecDepth 20000 in
theorem wX8_readBoth_b5 {E : Ev} {x : Cx} {rc : TG0} {d : Nat} (hrc : RcOK0 (xl x) E rc d) {u0 : St} (B : Bd E x none (3 + d + 1) 0 0 none u0) : ∀ (n : Nat) (l1 : Int32) (st : St) , fX8_readBoth_b5 rc n l1 st = some u0 → G E WT x RX8 cX8_readBoth 2 (0, 0) st 5 [(0, .ref (eB E + 38)), (1, .int l1)] [] := by
  intro n
  induction n with
  | zero =>
    intros
    rename_i hf
    rw [fX8_readBoth_b5] at hf
    cases hf
  | succ n ih =>
    intro l1 st hf
    rw [fX8_readBoth_b5] at hf
    refine g_aload_n rfl 0 rfl dX8_readBoth_5 ?_
    refine g_bipush (7 : Int32) (by decide) dX8_readBoth_6 ?_
    obtain ⟨q1, h2, hf⟩ := bnd_some hf
    refine g_callV0i (As := [.int (7 : Int32)]) (rest := []) cok8 mok_X8_takes0 tw5_226 tw5_228 ts5_15 oS38 B.1 (by omega) (kX8_takes0  h2) rfl rfl (Nat.le_of_ble_eq_true rfl) ⟨Nat.le_refl _, Nat.le_refl _⟩ dX8_readBoth_8 ?_
    refine g_if_eq 22 (by decide) dX8_readBoth_11 (fun h3 => ?_) (fun h3 => ?_)
    · rw [if_pos h3] at hf
      exact g_ret B.2.2.2 B.2.2.1 rfl (Option.some.inj hf).symm dX8_readBoth_22
    · rw [if_neg h3] at hf
      refine g_aload_n rfl 0 rfl dX8_readBoth_14 ?_
      refine g_iload_n rfl 1 rfl dX8_readBoth_15 ?_
      obtain ⟨q4, h5, hf⟩ := bnd_some hf
      refine g_callV0v (As := [.int l1]) (rest := []) cok8 mok_X8_readPlain tw6_33 tw6_35 ts6_10 oS38 B.1 (by omega) (hrc.2.2.1 h5) rfl rfl (Nat.le_of_ble_eq_true rfl) ⟨Nat.le_refl _, Nat.le_refl _⟩ dX8_readBoth_16 ?_
      refine g_goto 5 (by decide) dX8_readBoth_19 ?_
      refine g_lvs [0, 1] rfl ?_
      exact ih l1 q4 hf
def fX8_readBoth_g (rc : TG0) (p1 : Int32) (st : St) : Option St :=
  (rc.2.2.1 p1 st).bind (fun q1 => fX8_readBoth_b5 rc FU p1 q1)
set_option maxHeartbeats 1000000 in
set_option maxRecDepth 20000 in
theorem wX8_readBoth {E : Ev} {x : Cx} {rc : TG0} {d : Nat} (hrc : RcOK0 (xl x) E rc d) {u0 : St} (B : Bd E x none (3 + d + 1) 0 0 none u0) (p1 : Int32) (st : St)  (hf : fX8_readBoth_g rc p1 st = some u0) : G E WT x RX8 cX8_readBoth 2 (0, 0) st 0 [(0, .ref (eB E + 38)), (1, .int p1)] [] := by
  unfold fX8_readBoth_g at hf
  refine g_aload_n rfl 0 rfl dX8_readBoth_0 ?_
  refine g_iload_n rfl 1 rfl dX8_readBoth_1 ?_
  obtain ⟨q1, h2, hf⟩ := bnd_some hf
  refine g_callV0v (As := [.int p1]) (rest := []) cok8 mok_X8_readPlain tw6_33 tw6_35 ts6_10 oS38 B.1 (by omega) (hrc.2.2.1 h2) rfl rfl (Nat.le_of_ble_eq_true rfl) ⟨Nat.le_refl _, Nat.le_refl _⟩ dX8_readBoth_2 ?_
  refine g_lvs [0, 1] rfl ?_
  exact wX8_readBoth_b5 hrc B  FU p1 q1 hf
def fX8_readPlain_b128 (rc : TG0) (l1 : Int32) (st : St) : Option St :=
  rc.2.2.2.1 l1 st
set_option maxHeartbeats 1000000 in
set_option maxRecDepth 20000 in
theorem wX8_readPlain_b128 {E : Ev} {x : Cx} {rc : TG0} {d : Nat} (hrc : RcOK0 (xl x) E rc d) {u0 : St} (B : Bd E x none (3 + d + 1) 0 0 none u0) (l1 : Int32) (st : St)  (hf : fX8_readPlain_b128 rc l1 st = some u0) : G E WT x RX8 cX8_readPlain 4 (0, 0) st 128 [(0, .ref (eB E + 38)), (1, .int l1)] [] := by
  unfold fX8_readPlain_b128 at hf
  refine g_aload_n rfl 0 rfl dX8_readPlain_128 ?_
  refine g_iload_n rfl 1 rfl dX8_readPlain_129 ?_
  refine g_callV0v (As := [.int l1]) (rest := []) cok8 mok_X8_readSum tw5_234 tw5_236 ts6_1 oS38 B.1 (by omega) (hrc.2.2.2.1 hf) rfl rfl (Nat.le_of_ble_eq_true rfl) ⟨Nat.le_refl _, Nat.le_refl _⟩ dX8_readPlain_130 ?_
  exact g_ret B.2.2.2 B.2.2.1 rfl rfl dX8_readPlain_133
def fX8_readPlain_b53 (rc : TG0) (l1 : Int32) (st : St) : Option St :=
  if (fX8_fine st) = 0 then (some st) else ((rc.1 (l1 + (1 : Int32)) (pI st 38 19 ((sI st 38 19) + (1 : Int32)))).bind (fun q2 => (fX8_must (fX8_sign (41 : Int32)) q2).bind (fun q4 => some q4)))
set_option maxHeartbeats 1000000 in
set_option maxRecDepth 20000 in
theorem wX8_readPlain_b53 {E : Ev} {x : Cx} {rc : TG0} {d : Nat} (hrc : RcOK0 (xl x) E rc d) {u0 : St} (B : Bd E x none (3 + d + 1) 0 0 none u0) (l1 : Int32) (st : St)  (hf : fX8_readPlain_b53 rc l1 st = some u0) : G E WT x RX8 cX8_readPlain 4 (0, 0) st 53 [(0, .ref (eB E + 38)), (1, .int l1)] [] := by
  unfold fX8_readPlain_b53 at hf
  refine g_aload_n rfl 0 rfl dX8_readPlain_53 ?_
  refine g_callV0i (As := []) (rest := []) cok8 mok_X8_fine tw5_230 tw5_232 ts6_0 oS38 B.1 (by omega) (kX8_fine  rfl) rfl rfl (Nat.le_of_ble_eq_true rfl) ⟨Nat.le_refl _, Nat.le_refl _⟩ dX8_readPlain_54 ?_
  refine g_if_ne 61 (by decide) dX8_readPlain_57 (fun h1 => ?_) (fun h1 => ?_)
  · rw [if_neg h1] at hf
    refine g_aload_n rfl 0 rfl dX8_readPlain_61 ?_
    refine g_dup rfl dX8_readPlain_62 ?_
    refine g_get (j := 19) cok8 (by decide) (.int (sI st 38 19)) (Or.inl tw4_194) oS38 (fun _ => rfl) dX8_readPlain_63 ?_
    refine g_iconst (1 : Int32) (by decide) dX8_readPlain_66 ?_
    refine g_iadd dX8_readPlain_67 ?_
    refine g_putI (j := 19) cok8 (by decide) rfl rfl rfl rfl (Or.inl tw4_194) oS38 B.2.1 wpI dX8_readPlain_68 ?_
    refine g_aload_n rfl 0 rfl dX8_readPlain_71 ?_
    refine g_iload_n rfl 1 rfl dX8_readPlain_72 ?_
    refine g_iconst (1 : Int32) (by decide) dX8_readPlain_73 ?_
    refine g_iadd dX8_readPlain_74 ?_
    obtain ⟨q2, h3, hf⟩ := bnd_some hf
    refine g_callV0v (As := [.int (l1 + (1 : Int32))]) (rest := []) cok8 mok_X8_readTest tw6_25 tw6_27 ts6_8 oS38 B.1 (by omega) (hrc.1 h3) rfl rfl (Nat.le_of_ble_eq_true rfl) ⟨Nat.le_refl _, Nat.le_refl _⟩ dX8_readPlain_75 ?_
    refine g_aload_n rfl 0 rfl dX8_readPlain_78 ?_
    refine g_bipush (41 : Int32) (by decide) dX8_readPlain_79 ?_
    refine g_callS0i (As := [.int (41 : Int32)]) (rest := [.ref (eB E + 38)]) mok_X8_sign tw6_6 tw6_7 B.1 (by omega) (kX8_sign  rfl) rfl rfl (Nat.le_of_ble_eq_true rfl) ⟨Nat.le_refl _, Nat.le_refl _⟩ dX8_readPlain_81 ?_
    obtain ⟨q4, h5, hf⟩ := bnd_some hf
    refine g_callV0v (As := [.int (fX8_sign (41 : Int32))]) (rest := []) cok8 mok_X8_must tw6_13 tw6_15 ts6_5 oS38 B.1 (by omega) (kX8_must  h5) rfl rfl (Nat.le_of_ble_eq_true rfl) ⟨Nat.le_refl _, Nat.le_refl _⟩ dX8_readPlain_84 ?_
    refine g_goto 133 (by decide) dX8_readPlain_87 ?_
    exact g_ret B.2.2.2 B.2.2.1 rfl (Option.some.inj hf).symm dX8_readPlain_133
  · rw [if_pos h1] at hf
    exact g_ret B.2.2.2 B.2.2.1 rfl (Option.some.inj hf).symm dX8_readPlain_60
def fX8_readPlain_b2 (rc : TG0)  : Nat → Int32 → Int32 → St → Option St
  | 0, _, _, _ => none
  | n + 1, l1, l2, st => if l2 = 0 then (if (fX8_fine st) = 0 then (some st) else (chk (ixb (sI st 38 19) 401) (if (sI st 47 ((sI st 38 19).toNatClampNeg)) = (fX8_sign (40 : Int32)) then (if l1 = (8 : Int32) then ((fX8_faults st).bind (fun q16 => fX8_readPlain_b53 rc l1 q16)) else (fX8_readPlain_b53 rc l1 st)) else ((rc.2.2.2.1 l1 st).bind (fun q5 => (fX8_takes0 (fX8_sign (60 : Int32)) q5).bind (fun q7 => if q7.1 = 0 then ((fX8_takes0 (fX8_sign (62 : Int32)) q7.2).bind (fun q10 => if q10.1 = 0 then ((fX8_must (fX8_sign (61 : Int32)) q10.2).bind (fun q13 => fX8_readPlain_b128 rc l1 q13)) else (fX8_readPlain_b128 rc l1 q10.2))) else (fX8_readPlain_b128 rc l1 q7.2))))))) else ((fX8_takes0 (8 : Int32) st).bind (fun q18 => fX8_readPlain_b2 rc n l1 q18.1 q18.2))
set_option maxHeartbeats 1000000 in
set_option maxRecDepth 20000 in
theorem wX8_readPlain_b2 {E : Ev} {x : Cx} {rc : TG0} {d : Nat} (hrc : RcOK0 (xl x) E rc d) {u0 : St} (B : Bd E x none (3 + d + 1) 0 0 none u0) : ∀ (n : Nat) (l1 : Int32) (l2 : Int32) (st : St) , fX8_readPlain_b2 rc n l1 l2 st = some u0 → G E WT x RX8 cX8_readPlain 4 (0, 0) st 2 [(0, .ref (eB E + 38)), (1, .int l1), (2, .int l2)] [] := by
  intro n
  induction n with
  | zero =>
    intros
    rename_i hf
    rw [fX8_readPlain_b2] at hf
    cases hf
  | succ n ih =>
    intro l1 l2 st hf
    rw [fX8_readPlain_b2] at hf
    refine g_iload_n rfl 2 rfl dX8_readPlain_2 ?_
    refine g_if_eq 16 (by decide) dX8_readPlain_3 (fun h1 => ?_) (fun h1 => ?_)
    · rw [if_pos h1] at hf
      refine g_aload_n rfl 0 rfl dX8_readPlain_16 ?_
      refine g_callV0i (As := []) (rest := []) cok8 mok_X8_fine tw5_230 tw5_232 ts6_0 oS38 B.1 (by omega) (kX8_fine  rfl) rfl rfl (Nat.le_of_ble_eq_true rfl) ⟨Nat.le_refl _, Nat.le_refl _⟩ dX8_readPlain_17 ?_
      refine g_if_ne 24 (by decide) dX8_readPlain_20 (fun h2 => ?_) (fun h2 => ?_)
      · rw [if_neg h2] at hf
        refine g_aload_n rfl 0 rfl dX8_readPlain_24 ?_
        refine g_get (j := 15) cok8 (by decide) (.ref (eB E + 47)) (Or.inl tw4_190) oS38 vS38_15 dX8_readPlain_25 ?_
        refine g_aload_n rfl 0 rfl dX8_readPlain_28 ?_
        refine g_get (j := 19) cok8 (by decide) (.int (sI st 38 19)) (Or.inl tw4_194) oS38 (fun _ => rfl) dX8_readPlain_29 ?_
        obtain ⟨h3, hf⟩ := chk_some hf
        refine g_ialdj ((sI st 38 19).toNatClampNeg) rfl aS47 (ixb_in h3) dX8_readPlain_32 ?_
        refine g_istore_n rfl [(3, .int (sI st 47 ((sI st 38 19).toNatClampNeg))), (0, .ref (eB E + 38)), (1, .int l1), (2, .int l2)] (by decide) rfl dX8_readPlain_33 ?_
        refine g_iload_n rfl 0 rfl dX8_readPlain_34 ?_
        refine g_bipush (40 : Int32) (by decide) dX8_readPlain_35 ?_
        refine g_callS0i (As := [.int (40 : Int32)]) (rest := [.int (sI st 47 ((sI st 38 19).toNatClampNeg))]) mok_X8_sign tw6_6 tw6_7 B.1 (by omega) (kX8_sign  rfl) rfl rfl (Nat.le_of_ble_eq_true rfl) ⟨Nat.le_refl _, Nat.le_refl _⟩ dX8_readPlain_37 ?_
        refine g_icmp_ne 90 (by decide) dX8_readPlain_40 (fun h4 => ?_) (fun h4 => ?_)
        · rw [if_neg h4] at hf
          refine g_aload_n rfl 1 rfl dX8_readPlain_90 ?_
          refine g_iload_n rfl 2 rfl dX8_readPlain_91 ?_
          obtain ⟨q5, h6, hf⟩ := bnd_some hf
          refine g_callV0v (As := [.int l1]) (rest := []) cok8 mok_X8_readSum tw5_234 tw5_236 ts6_1 oS38 B.1 (by omega) (hrc.2.2.2.1 h6) rfl rfl (Nat.le_of_ble_eq_true rfl) ⟨Nat.le_refl _, Nat.le_refl _⟩ dX8_readPlain_92 ?_
          refine g_aload_n rfl 1 rfl dX8_readPlain_95 ?_
          refine g_bipush (60 : Int32) (by decide) dX8_readPlain_96 ?_
          refine g_callS0i (As := [.int (60 : Int32)]) (rest := [.ref (eB E + 38)]) mok_X8_sign tw6_6 tw6_7 B.1 (by omega) (kX8_sign  rfl) rfl rfl (Nat.le_of_ble_eq_true rfl) ⟨Nat.le_refl _, Nat.le_refl _⟩ dX8_readPlain_98 ?_
          obtain ⟨q7, h8, hf⟩ := bnd_some hf
          refine g_callV0i (As := [.int (fX8_sign (60 : Int32))]) (rest := []) cok8 mok_X8_takes0 tw5_226 tw5_228 ts5_15 oS38 B.1 (by omega) (kX8_takes0  h8) rfl rfl (Nat.le_of_ble_eq_true rfl) ⟨Nat.le_refl _, Nat.le_refl _⟩ dX8_readPlain_101 ?_
          refine g_if_ne 128 (by decide) dX8_readPlain_104 (fun h9 => ?_) (fun h9 => ?_)
          · rw [if_neg h9] at hf
            refine g_lvs [1, 2] rfl ?_
            exact wX8_readPlain_b128 hrc B  l1 q7.2 hf
          · rw [if_pos h9] at hf
            refine g_aload_n rfl 1 rfl dX8_readPlain_107 ?_
            refine g_bipush (62 : Int32) (by decide) dX8_readPlain_108 ?_
            refine g_callS0i (As := [.int (62 : Int32)]) (rest := [.ref (eB E + 38)]) mok_X8_sign tw6_6 tw6_7 B.1 (by omega) (kX8_sign  rfl) rfl rfl (Nat.le_of_ble_eq_true rfl) ⟨Nat.le_refl _, Nat.le_refl _⟩ dX8_readPlain_110 ?_
            obtain ⟨q10, h11, hf⟩ := bnd_some hf
            refine g_callV0i (As := [.int (fX8_sign (62 : Int32))]) (rest := []) cok8 mok_X8_takes0 tw5_226 tw5_228 ts5_15 oS38 B.1 (by omega) (kX8_takes0  h11) rfl rfl (Nat.le_of_ble_eq_true rfl) ⟨Nat.le_refl _, Nat.le_refl _⟩ dX8_readPlain_113 ?_
            refine g_if_ne 128 (by decide) dX8_readPlain_116 (fun h12 => ?_) (fun h12 => ?_)
            · rw [if_neg h12] at hf
              refine g_lvs [1, 2] rfl ?_
              exact wX8_readPlain_b128 hrc B  l1 q10.2 hf
            · rw [if_pos h12] at hf
              refine g_aload_n rfl 1 rfl dX8_readPlain_119 ?_
              refine g_bipush (61 : Int32) (by decide) dX8_readPlain_120 ?_
              refine g_callS0i (As := [.int (61 : Int32)]) (rest := [.ref (eB E + 38)]) mok_X8_sign tw6_6 tw6_7 B.1 (by omega) (kX8_sign  rfl) rfl rfl (Nat.le_of_ble_eq_true rfl) ⟨Nat.le_refl _, Nat.le_refl _⟩ dX8_readPlain_122 ?_
              obtain ⟨q13, h14, hf⟩ := bnd_some hf
              refine g_callV0v (As := [.int (fX8_sign (61 : Int32))]) (rest := []) cok8 mok_X8_must tw6_13 tw6_15 ts6_5 oS38 B.1 (by omega) (kX8_must  h14) rfl rfl (Nat.le_of_ble_eq_true rfl) ⟨Nat.le_refl _, Nat.le_refl _⟩ dX8_readPlain_125 ?_
              refine g_lvs [1, 2] rfl ?_
              exact wX8_readPlain_b128 hrc B  l1 q13 hf
        · rw [if_pos h4] at hf
          refine g_iload_n rfl 2 rfl dX8_readPlain_43 ?_
          refine g_bipush (8 : Int32) (by decide) dX8_readPlain_44 ?_
          refine g_icmp_ne 53 (by decide) dX8_readPlain_46 (fun h15 => ?_) (fun h15 => ?_)
          · rw [if_neg h15] at hf
            refine g_lvs [1, 2] rfl ?_
            exact wX8_readPlain_b53 hrc B  l1 st hf
          · rw [if_pos h15] at hf
            refine g_aload_n rfl 1 rfl dX8_readPlain_49 ?_
            obtain ⟨q16, h17, hf⟩ := bnd_some hf
            refine g_callV0v (As := []) (rest := []) cok8 mok_X8_faults tw6_9 tw6_11 ts6_4 oS38 B.1 (by omega) (kX8_faults  h17) rfl rfl (Nat.le_of_ble_eq_true rfl) ⟨Nat.le_refl _, Nat.le_refl _⟩ dX8_readPlain_50 ?_
            refine g_lvs [1, 2] rfl ?_
            exact wX8_readPlain_b53 hrc B  l1 q16 hf
      · rw [if_pos h2] at hf
        exact g_ret B.2.2.2 B.2.2.1 rfl (Option.some.inj hf).symm dX8_readPlain_23
    · rw [if_neg h1] at hf
      refine g_aload_n rfl 0 rfl dX8_readPlain_6 ?_
      refine g_bipush (8 : Int32) (by decide) dX8_readPlain_7 ?_
      obtain ⟨q18, h19, hf⟩ := bnd_some hf
      refine g_callV0i (As := [.int (8 : Int32)]) (rest := []) cok8 mok_X8_takes0 tw5_226 tw5_228 ts5_15 oS38 B.1 (by omega) (kX8_takes0  h19) rfl rfl (Nat.le_of_ble_eq_true rfl) ⟨Nat.le_refl _, Nat.le_refl _⟩ dX8_readPlain_9 ?_
      refine g_istore_n rfl [(2, .int q18.1), (0, .ref (eB E + 38)), (1, .int l1)] (by decide) rfl dX8_readPlain_12 ?_
      refine g_goto 2 (by decide) dX8_readPlain_13 ?_
      refine g_lvs [1, 2, 0] rfl ?_
      exact ih l1 q18.1 q18.2 hf
def fX8_readPlain_g (rc : TG0) (p1 : Int32) (st : St) : Option St :=
  fX8_readPlain_b2 rc FU p1 (1 : Int32) st
set_option maxHeartbeats 1000000 in
set_option maxRecDepth 20000 in
theorem wX8_readPlain {E : Ev} {x : Cx} {rc : TG0} {d : Nat} (hrc : RcOK0 (xl x) E rc d) {u0 : St} (B : Bd E x none (3 + d + 1) 0 0 none u0) (p1 : Int32) (st : St)  (hf : fX8_readPlain_g rc p1 st = some u0) : G E WT x RX8 cX8_readPlain 4 (0, 0) st 0 [(0, .ref (eB E + 38)), (1, .int p1)] [] := by
  unfold fX8_readPlain_g at hf
  refine g_iconst (1 : Int32) (by decide) dX8_readPlain_0 ?_
  refine g_istore_n rfl [(2, .int (1 : Int32)), (0, .ref (eB E + 38)), (1, .int p1)] (by decide) rfl dX8_readPlain_1 ?_
  refine g_lvs [1, 2, 0] rfl ?_
  exact wX8_readPlain_b2 hrc B  FU p1 (1 : Int32) st hf
def fX8_readSum_b29 (rc : TG0) (k5 : Int32 → St → Option St)(l1 : Int32) (st : St) : Option St :=
  (rc.2.2.2.2.1 l1 st).bind (fun q1 => k5 l1 q1)
set_option maxHeartbeats 1000000 in
set_option maxRecDepth 20000 in
theorem wX8_readSum_b29 {E : Ev} {x : Cx} {rc : TG0} {d : Nat} (hrc : RcOK0 (xl x) E rc d) {u0 : St} (B : Bd E x none (3 + d + 1) 0 0 none u0) {k5 : Int32 → St → Option St} (hk5 : ∀ (l1 : Int32) (st : St), k5 l1 st = some u0 → G E WT x RX8 cX8_readSum 2 (0, 0) st 5 [(0, .ref (eB E + 38)), (1, .int l1)] []) (l1 : Int32) (st : St)  (hf : fX8_readSum_b29 rc k5 l1 st = some u0) : G E WT x RX8 cX8_readSum 2 (0, 0) st 29 [(0, .ref (eB E + 38)), (1, .int l1)] [] := by
  unfold fX8_readSum_b29 at hf
  refine g_aload_n rfl 0 rfl dX8_readSum_29 ?_
  refine g_iload_n rfl 1 rfl dX8_readSum_30 ?_
  obtain ⟨q1, h2, hf⟩ := bnd_some hf
  refine g_callV0v (As := [.int l1]) (rest := []) cok8 mok_X8_readTerm tw5_238 tw6_0 ts6_2 oS38 B.1 (by omega) (hrc.2.2.2.2.1 h2) rfl rfl (Nat.le_of_ble_eq_true rfl) ⟨Nat.le_refl _, Nat.le_refl _⟩ dX8_readSum_31 ?_
  refine g_goto 5 (by decide) dX8_readSum_34 ?_
  refine g_lvs [0, 1] rfl ?_
  exact hk5 l1 q1 hf
def fX8_readSum_b5 (rc : TG0)  : Nat → Int32 → St → Option St
  | 0, _, _ => none
  | n + 1, l1, st => (fX8_takes0 (fX8_sign (43 : Int32)) st).bind (fun q1 => if q1.1 = 0 then ((fX8_takes0 (fX8_sign (45 : Int32)) q1.2).bind (fun q4 => if q4.1 = 0 then (some q4.2) else (fX8_readSum_b29 rc (fun zl1 zst => fX8_readSum_b5 rc n zl1 zst) l1 q4.2))) else (fX8_readSum_b29 rc (fun zl1 zst => fX8_readSum_b5 rc n zl1 zst) l1 q1.2))
set_option maxHeartbeats 1000000 in
set_option maxRecDepth 20000 in
theorem wX8_readSum_b5 {E : Ev} {x : Cx} {rc : TG0} {d : Nat} (hrc : RcOK0 (xl x) E rc d) {u0 : St} (B : Bd E x none (3 + d + 1) 0 0 none u0) : ∀ (n : Nat) (l1 : Int32) (st : St) , fX8_readSum_b5 rc n l1 st = some u0 → G E WT x RX8 cX8_readSum 2 (0, 0) st 5 [(0, .ref (eB E + 38)), (1, .int l1)] [] := by
  intro n
  induction n with
  | zero =>
    intros
    rename_i hf
    rw [fX8_readSum_b5] at hf
    cases hf
  | succ n ih =>
    intro l1 st hf
    rw [fX8_readSum_b5] at hf
    refine g_aload_n rfl 0 rfl dX8_readSum_5 ?_
    refine g_bipush (43 : Int32) (by decide) dX8_readSum_6 ?_
    refine g_callS0i (As := [.int (43 : Int32)]) (rest := [.ref (eB E + 38)]) mok_X8_sign tw6_6 tw6_7 B.1 (by omega) (kX8_sign  rfl) rfl rfl (Nat.le_of_ble_eq_true rfl) ⟨Nat.le_refl _, Nat.le_refl _⟩ dX8_readSum_8 ?_
    obtain ⟨q1, h2, hf⟩ := bnd_some hf
    refine g_callV0i (As := [.int (fX8_sign (43 : Int32))]) (rest := []) cok8 mok_X8_takes0 tw5_226 tw5_228 ts5_15 oS38 B.1 (by omega) (kX8_takes0  h2) rfl rfl (Nat.le_of_ble_eq_true rfl) ⟨Nat.le_refl _, Nat.le_refl _⟩ dX8_readSum_11 ?_
    refine g_if_ne 29 (by decide) dX8_readSum_14 (fun h3 => ?_) (fun h3 => ?_)
    · rw [if_neg h3] at hf
      refine g_lvs [0, 1] rfl ?_
      exact wX8_readSum_b29 hrc B ih l1 q1.2 hf
    · rw [if_pos h3] at hf
      refine g_aload_n rfl 0 rfl dX8_readSum_17 ?_
      refine g_bipush (45 : Int32) (by decide) dX8_readSum_18 ?_
      refine g_callS0i (As := [.int (45 : Int32)]) (rest := [.ref (eB E + 38)]) mok_X8_sign tw6_6 tw6_7 B.1 (by omega) (kX8_sign  rfl) rfl rfl (Nat.le_of_ble_eq_true rfl) ⟨Nat.le_refl _, Nat.le_refl _⟩ dX8_readSum_20 ?_
      obtain ⟨q4, h5, hf⟩ := bnd_some hf
      refine g_callV0i (As := [.int (fX8_sign (45 : Int32))]) (rest := []) cok8 mok_X8_takes0 tw5_226 tw5_228 ts5_15 oS38 B.1 (by omega) (kX8_takes0  h5) rfl rfl (Nat.le_of_ble_eq_true rfl) ⟨Nat.le_refl _, Nat.le_refl _⟩ dX8_readSum_23 ?_
      refine g_if_eq 37 (by decide) dX8_readSum_26 (fun h6 => ?_) (fun h6 => ?_)
      · rw [if_pos h6] at hf
        exact g_ret B.2.2.2 B.2.2.1 rfl (Option.some.inj hf).symm dX8_readSum_37
      · rw [if_neg h6] at hf
        refine g_lvs [0, 1] rfl ?_
        exact wX8_readSum_b29 hrc B ih l1 q4.2 hf
def fX8_readSum_g (rc : TG0) (p1 : Int32) (st : St) : Option St :=
  (rc.2.2.2.2.1 p1 st).bind (fun q1 => fX8_readSum_b5 rc FU p1 q1)
set_option maxHeartbeats 1000000 in
set_option maxRecDepth 20000 in
theorem wX8_readSum {E : Ev} {x : Cx} {rc : TG0} {d : Nat} (hrc : RcOK0 (xl x) E rc d) {u0 : St} (B : Bd E x none (3 + d + 1) 0 0 none u0) (p1 : Int32) (st : St)  (hf : fX8_readSum_g rc p1 st = some u0) : G E WT x RX8 cX8_readSum 2 (0, 0) st 0 [(0, .ref (eB E + 38)), (1, .int p1)] [] := by
  unfold fX8_readSum_g at hf
  refine g_aload_n rfl 0 rfl dX8_readSum_0 ?_
  refine g_iload_n rfl 1 rfl dX8_readSum_1 ?_
  obtain ⟨q1, h2, hf⟩ := bnd_some hf
  refine g_callV0v (As := [.int p1]) (rest := []) cok8 mok_X8_readTerm tw5_238 tw6_0 ts6_2 oS38 B.1 (by omega) (hrc.2.2.2.2.1 h2) rfl rfl (Nat.le_of_ble_eq_true rfl) ⟨Nat.le_refl _, Nat.le_refl _⟩ dX8_readSum_2 ?_
  refine g_lvs [0, 1] rfl ?_
  exact wX8_readSum_b5 hrc B  FU p1 q1 hf
def fX8_readTerm_b41 (rc : TG0) (k5 : Int32 → St → Option St)(l1 : Int32) (st : St) : Option St :=
  (rc.2.2.2.2.2 l1 st).bind (fun q1 => k5 l1 q1)
set_option maxHeartbeats 1000000 in
set_option maxRecDepth 20000 in
theorem wX8_readTerm_b41 {E : Ev} {x : Cx} {rc : TG0} {d : Nat} (hrc : RcOK0 (xl x) E rc d) {u0 : St} (B : Bd E x none (3 + d + 1) 0 0 none u0) {k5 : Int32 → St → Option St} (hk5 : ∀ (l1 : Int32) (st : St), k5 l1 st = some u0 → G E WT x RX8 cX8_readTerm 2 (0, 0) st 5 [(0, .ref (eB E + 38)), (1, .int l1)] []) (l1 : Int32) (st : St)  (hf : fX8_readTerm_b41 rc k5 l1 st = some u0) : G E WT x RX8 cX8_readTerm 2 (0, 0) st 41 [(0, .ref (eB E + 38)), (1, .int l1)] [] := by
  unfold fX8_readTerm_b41 at hf
  refine g_aload_n rfl 0 rfl dX8_readTerm_41 ?_
  refine g_iload_n rfl 1 rfl dX8_readTerm_42 ?_
  obtain ⟨q1, h2, hf⟩ := bnd_some hf
  refine g_callV0v (As := [.int l1]) (rest := []) cok8 mok_X8_readPart tw6_2 tw6_4 ts6_3 oS38 B.1 (by omega) (hrc.2.2.2.2.2 h2) rfl rfl (Nat.le_of_ble_eq_true rfl) ⟨Nat.le_refl _, Nat.le_refl _⟩ dX8_readTerm_43 ?_
  refine g_goto 5 (by decide) dX8_readTerm_46 ?_
  refine g_lvs [0, 1] rfl ?_
  exact hk5 l1 q1 hf
def fX8_readTerm_b5 (rc : TG0)  : Nat → Int32 → St → Option St
  | 0, _, _ => none
  | n + 1, l1, st => (fX8_takes0 (fX8_sign (42 : Int32)) st).bind (fun q1 => if q1.1 = 0 then ((fX8_takes0 (fX8_sign (47 : Int32)) q1.2).bind (fun q4 => if q4.1 = 0 then ((fX8_takes0 (fX8_sign (37 : Int32)) q4.2).bind (fun q7 => if q7.1 = 0 then (some q7.2) else (fX8_readTerm_b41 rc (fun zl1 zst => fX8_readTerm_b5 rc n zl1 zst) l1 q7.2))) else (fX8_readTerm_b41 rc (fun zl1 zst => fX8_readTerm_b5 rc n zl1 zst) l1 q4.2))) else (fX8_readTerm_b41 rc (fun zl1 zst => fX8_readTerm_b5 rc n zl1 zst) l1 q1.2))
set_option maxHeartbeats 1000000 in
set_option maxRecDepth 20000 in
theorem wX8_readTerm_b5 {E : Ev} {x : Cx} {rc : TG0} {d : Nat} (hrc : RcOK0 (xl x) E rc d) {u0 : St} (B : Bd E x none (3 + d + 1) 0 0 none u0) : ∀ (n : Nat) (l1 : Int32) (st : St) , fX8_readTerm_b5 rc n l1 st = some u0 → G E WT x RX8 cX8_readTerm 2 (0, 0) st 5 [(0, .ref (eB E + 38)), (1, .int l1)] [] := by
  intro n
  induction n with
  | zero =>
    intros
    rename_i hf
    rw [fX8_readTerm_b5] at hf
    cases hf
  | succ n ih =>
    intro l1 st hf
    rw [fX8_readTerm_b5] at hf
    refine g_aload_n rfl 0 rfl dX8_readTerm_5 ?_
    refine g_bipush (42 : Int32) (by decide) dX8_readTerm_6 ?_
    refine g_callS0i (As := [.int (42 : Int32)]) (rest := [.ref (eB E + 38)]) mok_X8_sign tw6_6 tw6_7 B.1 (by omega) (kX8_sign  rfl) rfl rfl (Nat.le_of_ble_eq_true rfl) ⟨Nat.le_refl _, Nat.le_refl _⟩ dX8_readTerm_8 ?_
    obtain ⟨q1, h2, hf⟩ := bnd_some hf
    refine g_callV0i (As := [.int (fX8_sign (42 : Int32))]) (rest := []) cok8 mok_X8_takes0 tw5_226 tw5_228 ts5_15 oS38 B.1 (by omega) (kX8_takes0  h2) rfl rfl (Nat.le_of_ble_eq_true rfl) ⟨Nat.le_refl _, Nat.le_refl _⟩ dX8_readTerm_11 ?_
    refine g_if_ne 41 (by decide) dX8_readTerm_14 (fun h3 => ?_) (fun h3 => ?_)
    · rw [if_neg h3] at hf
      refine g_lvs [0, 1] rfl ?_
      exact wX8_readTerm_b41 hrc B ih l1 q1.2 hf
    · rw [if_pos h3] at hf
      refine g_aload_n rfl 0 rfl dX8_readTerm_17 ?_
      refine g_bipush (47 : Int32) (by decide) dX8_readTerm_18 ?_
      refine g_callS0i (As := [.int (47 : Int32)]) (rest := [.ref (eB E + 38)]) mok_X8_sign tw6_6 tw6_7 B.1 (by omega) (kX8_sign  rfl) rfl rfl (Nat.le_of_ble_eq_true rfl) ⟨Nat.le_refl _, Nat.le_refl _⟩ dX8_readTerm_20 ?_
      obtain ⟨q4, h5, hf⟩ := bnd_some hf
      refine g_callV0i (As := [.int (fX8_sign (47 : Int32))]) (rest := []) cok8 mok_X8_takes0 tw5_226 tw5_228 ts5_15 oS38 B.1 (by omega) (kX8_takes0  h5) rfl rfl (Nat.le_of_ble_eq_true rfl) ⟨Nat.le_refl _, Nat.le_refl _⟩ dX8_readTerm_23 ?_
      refine g_if_ne 41 (by decide) dX8_readTerm_26 (fun h6 => ?_) (fun h6 => ?_)
      · rw [if_neg h6] at hf
        refine g_lvs [0, 1] rfl ?_
        exact wX8_readTerm_b41 hrc B ih l1 q4.2 hf
      · rw [if_pos h6] at hf
        refine g_aload_n rfl 0 rfl dX8_readTerm_29 ?_
        refine g_bipush (37 : Int32) (by decide) dX8_readTerm_30 ?_
        refine g_callS0i (As := [.int (37 : Int32)]) (rest := [.ref (eB E + 38)]) mok_X8_sign tw6_6 tw6_7 B.1 (by omega) (kX8_sign  rfl) rfl rfl (Nat.le_of_ble_eq_true rfl) ⟨Nat.le_refl _, Nat.le_refl _⟩ dX8_readTerm_32 ?_
        obtain ⟨q7, h8, hf⟩ := bnd_some hf
        refine g_callV0i (As := [.int (fX8_sign (37 : Int32))]) (rest := []) cok8 mok_X8_takes0 tw5_226 tw5_228 ts5_15 oS38 B.1 (by omega) (kX8_takes0  h8) rfl rfl (Nat.le_of_ble_eq_true rfl) ⟨Nat.le_refl _, Nat.le_refl _⟩ dX8_readTerm_35 ?_
        refine g_if_eq 49 (by decide) dX8_readTerm_38 (fun h9 => ?_) (fun h9 => ?_)
        · rw [if_pos h9] at hf
          exact g_ret B.2.2.2 B.2.2.1 rfl (Option.some.inj hf).symm dX8_readTerm_49
        · rw [if_neg h9] at hf
          refine g_lvs [0, 1] rfl ?_
          exact wX8_readTerm_b41 hrc B ih l1 q7.2 hf
def fX8_readTerm_g (rc : TG0) (p1 : Int32) (st : St) : Option St :=
  (rc.2.2.2.2.2 p1 st).bind (fun q1 => fX8_readTerm_b5 rc FU p1 q1)
set_option maxHeartbeats 1000000 in
set_option maxRecDepth 20000 in
theorem wX8_readTerm {E : Ev} {x : Cx} {rc : TG0} {d : Nat} (hrc : RcOK0 (xl x) E rc d) {u0 : St} (B : Bd E x none (3 + d + 1) 0 0 none u0) (p1 : Int32) (st : St)  (hf : fX8_readTerm_g rc p1 st = some u0) : G E WT x RX8 cX8_readTerm 2 (0, 0) st 0 [(0, .ref (eB E + 38)), (1, .int p1)] [] := by
  unfold fX8_readTerm_g at hf
  refine g_aload_n rfl 0 rfl dX8_readTerm_0 ?_
  refine g_iload_n rfl 1 rfl dX8_readTerm_1 ?_
  obtain ⟨q1, h2, hf⟩ := bnd_some hf
  refine g_callV0v (As := [.int p1]) (rest := []) cok8 mok_X8_readPart tw6_2 tw6_4 ts6_3 oS38 B.1 (by omega) (hrc.2.2.2.2.2 h2) rfl rfl (Nat.le_of_ble_eq_true rfl) ⟨Nat.le_refl _, Nat.le_refl _⟩ dX8_readTerm_2 ?_
  refine g_lvs [0, 1] rfl ?_
  exact wX8_readTerm_b5 hrc B  FU p1 q1 hf
def fX8_readPart_b143 (rc : TG0)  (st : St) : Option St :=
  fX8_faults st
set_option maxHeartbeats 1000000 in
set_option maxRecDepth 20000 in
theorem wX8_readPart_b143 {E : Ev} {x : Cx} {rc : TG0} {d : Nat} (hrc : RcOK0 (xl x) E rc d) {u0 : St} (B : Bd E x none (3 + d + 1) 0 0 none u0)  (st : St)  (hf : fX8_readPart_b143 rc st = some u0) : G E WT x RX8 cX8_readPart 3 (0, 0) st 143 [(0, .ref (eB E + 38))] [] := by
  unfold fX8_readPart_b143 at hf
  refine g_aload_n rfl 0 rfl dX8_readPart_143 ?_
  refine g_callV0v (As := []) (rest := []) cok8 mok_X8_faults tw6_9 tw6_11 ts6_4 oS38 B.1 (by omega) (kX8_faults  hf) rfl rfl (Nat.le_of_ble_eq_true rfl) ⟨Nat.le_refl _, Nat.le_refl _⟩ dX8_readPart_144 ?_
  exact g_ret B.2.2.2 B.2.2.1 rfl rfl dX8_readPart_147
def fX8_readPart_b134 (rc : TG0)  (st : St) : Option St :=
  (fX8_mustNumber (0 : Int32) (5 : Int32) st).bind (fun q1 => some q1)
set_option maxHeartbeats 1000000 in
set_option maxRecDepth 20000 in
theorem wX8_readPart_b134 {E : Ev} {x : Cx} {rc : TG0} {d : Nat} (hrc : RcOK0 (xl x) E rc d) {u0 : St} (B : Bd E x none (3 + d + 1) 0 0 none u0)  (st : St)  (hf : fX8_readPart_b134 rc st = some u0) : G E WT x RX8 cX8_readPart 3 (0, 0) st 134 [(0, .ref (eB E + 38))] [] := by
  unfold fX8_readPart_b134 at hf
  refine g_aload_n rfl 0 rfl dX8_readPart_134 ?_
  refine g_iconst (0 : Int32) (by decide) dX8_readPart_135 ?_
  refine g_iconst (5 : Int32) (by decide) dX8_readPart_136 ?_
  obtain ⟨q1, h2, hf⟩ := bnd_some hf
  refine g_callV0v (As := [.int (0 : Int32), .int (5 : Int32)]) (rest := []) cok8 mok_X8_mustNumber tw6_21 tw6_23 ts6_7 oS38 B.1 (by omega) (kX8_mustNumber  h2) rfl rfl (Nat.le_of_ble_eq_true rfl) ⟨Nat.le_refl _, Nat.le_refl _⟩ dX8_readPart_137 ?_
  refine g_goto 147 (by decide) dX8_readPart_140 ?_
  exact g_ret B.2.2.2 B.2.2.1 rfl (Option.some.inj hf).symm dX8_readPart_147
def fX8_readPart_b111 (rc : TG0) (l2 : Int32) (st : St) : Option St :=
  (fX8_leaf st).bind (fun q1 => if (sI q1 38 10) = 0 then (some q1) else (if l2 = (13 : Int32) then (fX8_readPart_b134 rc  q1) else (if l2 = (19 : Int32) then (fX8_readPart_b134 rc  q1) else (some q1))))
set_option maxHeartbeats 1000000 in
set_option maxRecDepth 20000 in
theorem wX8_readPart_b111 {E : Ev} {x : Cx} {rc : TG0} {d : Nat} (hrc : RcOK0 (xl x) E rc d) {u0 : St} (B : Bd E x none (3 + d + 1) 0 0 none u0) (l2 : Int32) (st : St)  (hf : fX8_readPart_b111 rc l2 st = some u0) : G E WT x RX8 cX8_readPart 3 (0, 0) st 111 [(0, .ref (eB E + 38)), (2, .int l2)] [] := by
  unfold fX8_readPart_b111 at hf
  refine g_aload_n rfl 0 rfl dX8_readPart_111 ?_
  obtain ⟨q1, h2, hf⟩ := bnd_some hf
  refine g_callV0v (As := []) (rest := []) cok8 mok_X8_leaf tw6_17 tw6_19 ts6_6 oS38 B.1 (by omega) (kX8_leaf  h2) rfl rfl (Nat.le_of_ble_eq_true rfl) ⟨Nat.le_refl _, Nat.le_refl _⟩ dX8_readPart_112 ?_
  refine g_aload_n rfl 0 rfl dX8_readPart_115 ?_
  refine g_get (j := 10) cok8 (by decide) (.int (sI q1 38 10)) (Or.inl tw4_185) oS38 (fun _ => rfl) dX8_readPart_116 ?_
  refine g_if_eq 147 (by decide) dX8_readPart_119 (fun h3 => ?_) (fun h3 => ?_)
  · rw [if_pos h3] at hf
    exact g_ret B.2.2.2 B.2.2.1 rfl (Option.some.inj hf).symm dX8_readPart_147
  · rw [if_neg h3] at hf
    refine g_iload_n rfl 1 rfl dX8_readPart_122 ?_
    refine g_bipush (13 : Int32) (by decide) dX8_readPart_123 ?_
    refine g_icmp_eq 134 (by decide) dX8_readPart_125 (fun h4 => ?_) (fun h4 => ?_)
    · rw [if_pos h4] at hf
      refine g_lvs [0] rfl ?_
      exact wX8_readPart_b134 hrc B  q1 hf
    · rw [if_neg h4] at hf
      refine g_iload_n rfl 1 rfl dX8_readPart_128 ?_
      refine g_bipush (19 : Int32) (by decide) dX8_readPart_129 ?_
      refine g_icmp_ne 147 (by decide) dX8_readPart_131 (fun h5 => ?_) (fun h5 => ?_)
      · rw [if_neg h5] at hf
        exact g_ret B.2.2.2 B.2.2.1 rfl (Option.some.inj hf).symm dX8_readPart_147
      · rw [if_pos h5] at hf
        refine g_lvs [0] rfl ?_
        exact wX8_readPart_b134 hrc B  q1 hf
def fX8_readPart_b95 (rc : TG0) (l2 : Int32) (st : St) : Option St :=
  if l2 < (sI st 38 8) then (fX8_readPart_b143 rc  st) else (if (sI st 38 9) < l2 then (fX8_readPart_b143 rc  st) else (fX8_readPart_b111 rc l2 st))
set_option maxHeartbeats 1000000 in
set_option maxRecDepth 20000 in
theorem wX8_readPart_b95 {E : Ev} {x : Cx} {rc : TG0} {d : Nat} (hrc : RcOK0 (xl x) E rc d) {u0 : St} (B : Bd E x none (3 + d + 1) 0 0 none u0) (l2 : Int32) (st : St)  (hf : fX8_readPart_b95 rc l2 st = some u0) : G E WT x RX8 cX8_readPart 3 (0, 0) st 95 [(0, .ref (eB E + 38)), (2, .int l2)] [] := by
  unfold fX8_readPart_b95 at hf
  refine g_iload_n rfl 1 rfl dX8_readPart_95 ?_
  refine g_aload_n rfl 0 rfl dX8_readPart_96 ?_
  refine g_get (j := 8) cok8 (by decide) (.int (sI st 38 8)) (Or.inl tw4_183) oS38 (fun _ => rfl) dX8_readPart_97 ?_
  refine g_icmp_lt 143 (by decide) dX8_readPart_100 (fun h1 => ?_) (fun h1 => ?_)
  · rw [if_pos h1] at hf
    refine g_lvs [0] rfl ?_
    exact wX8_readPart_b143 hrc B  st hf
  · rw [if_neg h1] at hf
    refine g_iload_n rfl 1 rfl dX8_readPart_103 ?_
    refine g_aload_n rfl 0 rfl dX8_readPart_104 ?_
    refine g_get (j := 9) cok8 (by decide) (.int (sI st 38 9)) (Or.inl tw4_184) oS38 (fun _ => rfl) dX8_readPart_105 ?_
    refine g_icmp_gt 143 (by decide) dX8_readPart_108 (fun h2 => ?_) (fun h2 => ?_)
    · rw [if_pos h2] at hf
      refine g_lvs [0] rfl ?_
      exact wX8_readPart_b143 hrc B  st hf
    · rw [if_neg h2] at hf
      refine g_lvs [0, 1] rfl ?_
      exact wX8_readPart_b111 hrc B  l2 st hf
def fX8_readPart_b37 (rc : TG0) (l1 : Int32) (st : St) : Option St :=
  if (fX8_fine st) = 0 then (some st) else ((rc.2.2.2.1 (l1 + (1 : Int32)) (pI st 38 19 ((sI st 38 19) + (1 : Int32)))).bind (fun q2 => (fX8_must (fX8_sign (93 : Int32)) q2).bind (fun q4 => some q4)))
set_option maxHeartbeats 1000000 in
set_option maxRecDepth 20000 in
theorem wX8_readPart_b37 {E : Ev} {x : Cx} {rc : TG0} {d : Nat} (hrc : RcOK0 (xl x) E rc d) {u0 : St} (B : Bd E x none (3 + d + 1) 0 0 none u0) (l1 : Int32) (st : St)  (hf : fX8_readPart_b37 rc l1 st = some u0) : G E WT x RX8 cX8_readPart 3 (0, 0) st 37 [(0, .ref (eB E + 38)), (1, .int l1)] [] := by
  unfold fX8_readPart_b37 at hf
  refine g_aload_n rfl 0 rfl dX8_readPart_37 ?_
  refine g_callV0i (As := []) (rest := []) cok8 mok_X8_fine tw5_230 tw5_232 ts6_0 oS38 B.1 (by omega) (kX8_fine  rfl) rfl rfl (Nat.le_of_ble_eq_true rfl) ⟨Nat.le_refl _, Nat.le_refl _⟩ dX8_readPart_38 ?_
  refine g_if_ne 45 (by decide) dX8_readPart_41 (fun h1 => ?_) (fun h1 => ?_)
  · rw [if_neg h1] at hf
    refine g_aload_n rfl 0 rfl dX8_readPart_45 ?_
    refine g_dup rfl dX8_readPart_46 ?_
    refine g_get (j := 19) cok8 (by decide) (.int (sI st 38 19)) (Or.inl tw4_194) oS38 (fun _ => rfl) dX8_readPart_47 ?_
    refine g_iconst (1 : Int32) (by decide) dX8_readPart_50 ?_
    refine g_iadd dX8_readPart_51 ?_
    refine g_putI (j := 19) cok8 (by decide) rfl rfl rfl rfl (Or.inl tw4_194) oS38 B.2.1 wpI dX8_readPart_52 ?_
    refine g_aload_n rfl 0 rfl dX8_readPart_55 ?_
    refine g_iload_n rfl 1 rfl dX8_readPart_56 ?_
    refine g_iconst (1 : Int32) (by decide) dX8_readPart_57 ?_
    refine g_iadd dX8_readPart_58 ?_
    obtain ⟨q2, h3, hf⟩ := bnd_some hf
    refine g_callV0v (As := [.int (l1 + (1 : Int32))]) (rest := []) cok8 mok_X8_readSum tw5_234 tw5_236 ts6_1 oS38 B.1 (by omega) (hrc.2.2.2.1 h3) rfl rfl (Nat.le_of_ble_eq_true rfl) ⟨Nat.le_refl _, Nat.le_refl _⟩ dX8_readPart_59 ?_
    refine g_aload_n rfl 0 rfl dX8_readPart_62 ?_
    refine g_bipush (93 : Int32) (by decide) dX8_readPart_63 ?_
    refine g_callS0i (As := [.int (93 : Int32)]) (rest := [.ref (eB E + 38)]) mok_X8_sign tw6_6 tw6_7 B.1 (by omega) (kX8_sign  rfl) rfl rfl (Nat.le_of_ble_eq_true rfl) ⟨Nat.le_refl _, Nat.le_refl _⟩ dX8_readPart_65 ?_
    obtain ⟨q4, h5, hf⟩ := bnd_some hf
    refine g_callV0v (As := [.int (fX8_sign (93 : Int32))]) (rest := []) cok8 mok_X8_must tw6_13 tw6_15 ts6_5 oS38 B.1 (by omega) (kX8_must  h5) rfl rfl (Nat.le_of_ble_eq_true rfl) ⟨Nat.le_refl _, Nat.le_refl _⟩ dX8_readPart_68 ?_
    refine g_goto 147 (by decide) dX8_readPart_71 ?_
    exact g_ret B.2.2.2 B.2.2.1 rfl (Option.some.inj hf).symm dX8_readPart_147
  · rw [if_pos h1] at hf
    exact g_ret B.2.2.2 B.2.2.1 rfl (Option.some.inj hf).symm dX8_readPart_44
def fX8_readPart_g (rc : TG0) (p1 : Int32) (st : St) : Option St :=
  if (fX8_fine st) = 0 then (some st) else (chk (ixb (sI st 38 19) 401) (if (sI st 47 ((sI st 38 19).toNatClampNeg)) = (fX8_sign (91 : Int32)) then (if p1 = (8 : Int32) then ((fX8_faults st).bind (fun q8 => fX8_readPart_b37 rc p1 q8)) else (fX8_readPart_b37 rc p1 st)) else (if (sI st 47 ((sI st 38 19).toNatClampNeg)) = (50 : Int32) then (chk (ixb (sI st 38 19) 401) (if (sI st 48 ((sI st 38 19).toNatClampNeg)) ≤ (1000 : Int32) then (fX8_readPart_b111 rc (sI st 47 ((sI st 38 19).toNatClampNeg)) st) else (fX8_readPart_b95 rc (sI st 47 ((sI st 38 19).toNatClampNeg)) st))) else (fX8_readPart_b95 rc (sI st 47 ((sI st 38 19).toNatClampNeg)) st))))
set_option maxHeartbeats 1000000 in
set_option maxRecDepth 20000 in
theorem wX8_readPart {E : Ev} {x : Cx} {rc : TG0} {d : Nat} (hrc : RcOK0 (xl x) E rc d) {u0 : St} (B : Bd E x none (3 + d + 1) 0 0 none u0) (p1 : Int32) (st : St)  (hf : fX8_readPart_g rc p1 st = some u0) : G E WT x RX8 cX8_readPart 3 (0, 0) st 0 [(0, .ref (eB E + 38)), (1, .int p1)] [] := by
  unfold fX8_readPart_g at hf
  refine g_aload_n rfl 0 rfl dX8_readPart_0 ?_
  refine g_callV0i (As := []) (rest := []) cok8 mok_X8_fine tw5_230 tw5_232 ts6_0 oS38 B.1 (by omega) (kX8_fine  rfl) rfl rfl (Nat.le_of_ble_eq_true rfl) ⟨Nat.le_refl _, Nat.le_refl _⟩ dX8_readPart_1 ?_
  refine g_if_ne 8 (by decide) dX8_readPart_4 (fun h1 => ?_) (fun h1 => ?_)
  · rw [if_neg h1] at hf
    refine g_aload_n rfl 0 rfl dX8_readPart_8 ?_
    refine g_get (j := 15) cok8 (by decide) (.ref (eB E + 47)) (Or.inl tw4_190) oS38 vS38_15 dX8_readPart_9 ?_
    refine g_aload_n rfl 0 rfl dX8_readPart_12 ?_
    refine g_get (j := 19) cok8 (by decide) (.int (sI st 38 19)) (Or.inl tw4_194) oS38 (fun _ => rfl) dX8_readPart_13 ?_
    obtain ⟨h2, hf⟩ := chk_some hf
    refine g_ialdj ((sI st 38 19).toNatClampNeg) rfl aS47 (ixb_in h2) dX8_readPart_16 ?_
    refine g_istore_n rfl [(2, .int (sI st 47 ((sI st 38 19).toNatClampNeg))), (0, .ref (eB E + 38)), (1, .int p1)] (by decide) rfl dX8_readPart_17 ?_
    refine g_iload_n rfl 0 rfl dX8_readPart_18 ?_
    refine g_bipush (91 : Int32) (by decide) dX8_readPart_19 ?_
    refine g_callS0i (As := [.int (91 : Int32)]) (rest := [.int (sI st 47 ((sI st 38 19).toNatClampNeg))]) mok_X8_sign tw6_6 tw6_7 B.1 (by omega) (kX8_sign  rfl) rfl rfl (Nat.le_of_ble_eq_true rfl) ⟨Nat.le_refl _, Nat.le_refl _⟩ dX8_readPart_21 ?_
    refine g_icmp_ne 74 (by decide) dX8_readPart_24 (fun h3 => ?_) (fun h3 => ?_)
    · rw [if_neg h3] at hf
      refine g_iload_n rfl 0 rfl dX8_readPart_74 ?_
      refine g_bipush (50 : Int32) (by decide) dX8_readPart_75 ?_
      refine g_icmp_ne 95 (by decide) dX8_readPart_77 (fun h4 => ?_) (fun h4 => ?_)
      · rw [if_neg h4] at hf
        refine g_lvs [1, 0] rfl ?_
        exact wX8_readPart_b95 hrc B  (sI st 47 ((sI st 38 19).toNatClampNeg)) st hf
      · rw [if_pos h4] at hf
        refine g_aload_n rfl 1 rfl dX8_readPart_80 ?_
        refine g_get (j := 16) cok8 (by decide) (.ref (eB E + 48)) (Or.inl tw4_191) oS38 vS38_16 dX8_readPart_81 ?_
        refine g_aload_n rfl 1 rfl dX8_readPart_84 ?_
        refine g_get (j := 19) cok8 (by decide) (.int (sI st 38 19)) (Or.inl tw4_194) oS38 (fun _ => rfl) dX8_readPart_85 ?_
        obtain ⟨h5, hf⟩ := chk_some hf
        refine g_ialdj ((sI st 38 19).toNatClampNeg) rfl aS48 (ixb_in h5) dX8_readPart_88 ?_
        refine g_sipush (1000 : Int32) (by decide) dX8_readPart_89 ?_
        refine g_icmp_le 111 (by decide) dX8_readPart_92 (fun h6 => ?_) (fun h6 => ?_)
        · rw [if_pos h6] at hf
          refine g_lvs [1, 0] rfl ?_
          exact wX8_readPart_b111 hrc B  (sI st 47 ((sI st 38 19).toNatClampNeg)) st hf
        · rw [if_neg h6] at hf
          refine g_lvs [1, 0] rfl ?_
          exact wX8_readPart_b95 hrc B  (sI st 47 ((sI st 38 19).toNatClampNeg)) st hf
    · rw [if_pos h3] at hf
      refine g_iload_n rfl 2 rfl dX8_readPart_27 ?_
      refine g_bipush (8 : Int32) (by decide) dX8_readPart_28 ?_
      refine g_icmp_ne 37 (by decide) dX8_readPart_30 (fun h7 => ?_) (fun h7 => ?_)
      · rw [if_neg h7] at hf
        refine g_lvs [1, 2] rfl ?_
        exact wX8_readPart_b37 hrc B  p1 st hf
      · rw [if_pos h7] at hf
        refine g_aload_n rfl 1 rfl dX8_readPart_33 ?_
        obtain ⟨q8, h9, hf⟩ := bnd_some hf
        refine g_callV0v (As := []) (rest := []) cok8 mok_X8_faults tw6_9 tw6_11 ts6_4 oS38 B.1 (by omega) (kX8_faults  h9) rfl rfl (Nat.le_of_ble_eq_true rfl) ⟨Nat.le_refl _, Nat.le_refl _⟩ dX8_readPart_34 ?_
        refine g_lvs [1, 2] rfl ?_
        exact wX8_readPart_b37 hrc B  p1 q8 hf
  · rw [if_pos h1] at hf
    exact g_ret B.2.2.2 B.2.2.1 rfl (Option.some.inj hf).symm dX8_readPart_7
def LG0 : Nat → TG0
  | 0 => (fun _ _ => none, fun _ _ => none, fun _ _ => none, fun _ _ => none, fun _ _ => none, fun _ _ => none)
  | d + 1 => (fX8_readTest_g (LG0 d), fX8_readBoth_g (LG0 d), fX8_readPlain_g (LG0 d), fX8_readSum_g (LG0 d), fX8_readTerm_g (LG0 d), fX8_readPart_g (LG0 d))
theorem okLG0 (l : Launch) (E : Ev) : ∀ d, RcOK0 l E (LG0 d) d := by
  intro d
  induction d with
  | zero => exact ⟨(fun h => nomatch h), (fun h => nomatch h), (fun h => nomatch h), (fun h => nomatch h), (fun h => nomatch h), (fun h => nomatch h)⟩
  | succ d ih => exact ⟨fun {st} {p1} {u0} hf => CM.intro mok_X8_readTest (Nat.le_of_ble_eq_true rfl) (fun x hl hR ht hr hQ _ => by subst hl; exact wX8_readTest ih ⟨hR, ht, hr, hQ⟩ p1 st hf),
    fun {st} {p1} {u0} hf => CM.intro mok_X8_readBoth (Nat.le_of_ble_eq_true rfl) (fun x hl hR ht hr hQ _ => by subst hl; exact wX8_readBoth ih ⟨hR, ht, hr, hQ⟩ p1 st hf),
    fun {st} {p1} {u0} hf => CM.intro mok_X8_readPlain (Nat.le_of_ble_eq_true rfl) (fun x hl hR ht hr hQ _ => by subst hl; exact wX8_readPlain ih ⟨hR, ht, hr, hQ⟩ p1 st hf),
    fun {st} {p1} {u0} hf => CM.intro mok_X8_readSum (Nat.le_of_ble_eq_true rfl) (fun x hl hR ht hr hQ _ => by subst hl; exact wX8_readSum ih ⟨hR, ht, hr, hQ⟩ p1 st hf),
    fun {st} {p1} {u0} hf => CM.intro mok_X8_readTerm (Nat.le_of_ble_eq_true rfl) (fun x hl hR ht hr hQ _ => by subst hl; exact wX8_readTerm ih ⟨hR, ht, hr, hQ⟩ p1 st hf),
    fun {st} {p1} {u0} hf => CM.intro mok_X8_readPart (Nat.le_of_ble_eq_true rfl) (fun x hl hR ht hr hQ _ => by subst hl; exact wX8_readPart ih ⟨hR, ht, hr, hQ⟩ p1 st hf)⟩
def fX8_readTest (p1 : Int32) (st : St) : Option St := (LG0 100).1 p1 st
theorem kX8_readTest {l : Launch} {E : Ev} {st : St} {p1 : Int32} {u0 : St} (hf : fX8_readTest p1 st = some u0) : CM l E WT yX8_readTest cX8_readTest 2 none 103 0 0 [.ref (eB E + 38), .int p1] st none u0 := (okLG0 l E 100).1 hf
def fX8_readBoth (p1 : Int32) (st : St) : Option St := (LG0 100).2.1 p1 st
theorem kX8_readBoth {l : Launch} {E : Ev} {st : St} {p1 : Int32} {u0 : St} (hf : fX8_readBoth p1 st = some u0) : CM l E WT yX8_readBoth cX8_readBoth 2 none 103 0 0 [.ref (eB E + 38), .int p1] st none u0 := (okLG0 l E 100).2.1 hf
def fX8_readPlain (p1 : Int32) (st : St) : Option St := (LG0 100).2.2.1 p1 st
theorem kX8_readPlain {l : Launch} {E : Ev} {st : St} {p1 : Int32} {u0 : St} (hf : fX8_readPlain p1 st = some u0) : CM l E WT yX8_readPlain cX8_readPlain 4 none 103 0 0 [.ref (eB E + 38), .int p1] st none u0 := (okLG0 l E 100).2.2.1 hf
def fX8_readSum (p1 : Int32) (st : St) : Option St := (LG0 100).2.2.2.1 p1 st
theorem kX8_readSum {l : Launch} {E : Ev} {st : St} {p1 : Int32} {u0 : St} (hf : fX8_readSum p1 st = some u0) : CM l E WT yX8_readSum cX8_readSum 2 none 103 0 0 [.ref (eB E + 38), .int p1] st none u0 := (okLG0 l E 100).2.2.2.1 hf
def fX8_readTerm (p1 : Int32) (st : St) : Option St := (LG0 100).2.2.2.2.1 p1 st
theorem kX8_readTerm {l : Launch} {E : Ev} {st : St} {p1 : Int32} {u0 : St} (hf : fX8_readTerm p1 st = some u0) : CM l E WT yX8_readTerm cX8_readTerm 2 none 103 0 0 [.ref (eB E + 38), .int p1] st none u0 := (okLG0 l E 100).2.2.2.2.1 hf
def fX8_readPart (p1 : Int32) (st : St) : Option St := (LG0 100).2.2.2.2.2 p1 st
theorem kX8_readPart {l : Launch} {E : Ev} {st : St} {p1 : Int32} {u0 : St} (hf : fX8_readPart p1 st = some u0) : CM l E WT yX8_readPart cX8_readPart 3 none 103 0 0 [.ref (eB E + 38), .int p1] st none u0 := (okLG0 l E 100).2.2.2.2.2 hf
def fX8_readClause_b37  (st : St) : Option St :=
  (fX8_takes0 (5 : Int32) st).bind (fun q1 => if q1.1 = 0 then (some q1.2) else (fX8_readTest (0 : Int32) q1.2))
set_option maxHeartbeats 1000000 in
set_option maxRecDepth 20000 in
theorem wX8_readClause_b37 {E : Ev} {x : Cx} {u0 : St} (B : Bd E x none (104) 0 0 none u0)  (st : St)  (hf : fX8_readClause_b37 st = some u0) : G E WT x RX8 cX8_readClause 1 (0, 0) st 37 [(0, .ref (eB E + 38))] [] := by
  unfold fX8_readClause_b37 at hf
  refine g_aload_n rfl 0 rfl dX8_readClause_37 ?_
  refine g_iconst (5 : Int32) (by decide) dX8_readClause_38 ?_
  obtain ⟨q1, h2, hf⟩ := bnd_some hf
  refine g_callV0i (As := [.int (5 : Int32)]) (rest := []) cok8 mok_X8_takes0 tw5_226 tw5_228 ts5_15 oS38 B.1 (by decide) (kX8_takes0  h2) rfl rfl (Nat.le_of_ble_eq_true rfl) ⟨Nat.le_refl _, Nat.le_refl _⟩ dX8_readClause_39 ?_
  refine g_if_eq 50 (by decide) dX8_readClause_42 (fun h3 => ?_) (fun h3 => ?_)
  · rw [if_pos h3] at hf
    exact g_ret B.2.2.2 B.2.2.1 rfl (Option.some.inj hf).symm dX8_readClause_50
  · rw [if_neg h3] at hf
    refine g_aload_n rfl 0 rfl dX8_readClause_45 ?_
    refine g_iconst (0 : Int32) (by decide) dX8_readClause_46 ?_
    refine g_callV0v (As := [.int (0 : Int32)]) (rest := []) cok8 mok_X8_readTest tw6_25 tw6_27 ts6_8 oS38 B.1 (by decide) (kX8_readTest  hf) rfl rfl (Nat.le_of_ble_eq_true rfl) ⟨Nat.le_refl _, Nat.le_refl _⟩ dX8_readClause_47 ?_
    exact g_ret B.2.2.2 B.2.2.1 rfl rfl dX8_readClause_50
def fX8_readClause  (st : St) : Option St :=
  (fX8_takes0 (1 : Int32) st).bind (fun q1 => if q1.1 = 0 then ((fX8_takes0 (2 : Int32) q1.2).bind (fun q4 => if q4.1 = 0 then ((fX8_takes0 (3 : Int32) q4.2).bind (fun q7 => if q7.1 = 0 then ((fX8_must (4 : Int32) q7.2).bind (fun q10 => fX8_readClause_b37  q10)) else (fX8_readClause_b37  q7.2))) else (fX8_readClause_b37  q4.2))) else ((fX8_readSum (0 : Int32) q1.2).bind (fun q12 => fX8_readClause_b37  q12)))
set_option maxHeartbeats 1000000 in
set_option maxRecDepth 20000 in
theorem wX8_readClause {E : Ev} {x : Cx} {u0 : St} (B : Bd E x none (104) 0 0 none u0)  (st : St)  (hf : fX8_readClause st = some u0) : G E WT x RX8 cX8_readClause 1 (0, 0) st 0 [(0, .ref (eB E + 38))] [] := by
  unfold fX8_readClause at hf
  refine g_aload_n rfl 0 rfl dX8_readClause_0 ?_
  refine g_iconst (1 : Int32) (by decide) dX8_readClause_1 ?_
  obtain ⟨q1, h2, hf⟩ := bnd_some hf
  refine g_callV0i (As := [.int (1 : Int32)]) (rest := []) cok8 mok_X8_takes0 tw5_226 tw5_228 ts5_15 oS38 B.1 (by decide) (kX8_takes0  h2) rfl rfl (Nat.le_of_ble_eq_true rfl) ⟨Nat.le_refl _, Nat.le_refl _⟩ dX8_readClause_2 ?_
  refine g_if_eq 16 (by decide) dX8_readClause_5 (fun h3 => ?_) (fun h3 => ?_)
  · rw [if_pos h3] at hf
    refine g_aload_n rfl 0 rfl dX8_readClause_16 ?_
    refine g_iconst (2 : Int32) (by decide) dX8_readClause_17 ?_
    obtain ⟨q4, h5, hf⟩ := bnd_some hf
    refine g_callV0i (As := [.int (2 : Int32)]) (rest := []) cok8 mok_X8_takes0 tw5_226 tw5_228 ts5_15 oS38 B.1 (by decide) (kX8_takes0  h5) rfl rfl (Nat.le_of_ble_eq_true rfl) ⟨Nat.le_refl _, Nat.le_refl _⟩ dX8_readClause_18 ?_
    refine g_if_ne 37 (by decide) dX8_readClause_21 (fun h6 => ?_) (fun h6 => ?_)
    · rw [if_neg h6] at hf
      refine g_lvs [0] rfl ?_
      exact wX8_readClause_b37 B  q4.2 hf
    · rw [if_pos h6] at hf
      refine g_aload_n rfl 0 rfl dX8_readClause_24 ?_
      refine g_iconst (3 : Int32) (by decide) dX8_readClause_25 ?_
      obtain ⟨q7, h8, hf⟩ := bnd_some hf
      refine g_callV0i (As := [.int (3 : Int32)]) (rest := []) cok8 mok_X8_takes0 tw5_226 tw5_228 ts5_15 oS38 B.1 (by decide) (kX8_takes0  h8) rfl rfl (Nat.le_of_ble_eq_true rfl) ⟨Nat.le_refl _, Nat.le_refl _⟩ dX8_readClause_26 ?_
      refine g_if_ne 37 (by decide) dX8_readClause_29 (fun h9 => ?_) (fun h9 => ?_)
      · rw [if_neg h9] at hf
        refine g_lvs [0] rfl ?_
        exact wX8_readClause_b37 B  q7.2 hf
      · rw [if_pos h9] at hf
        refine g_aload_n rfl 0 rfl dX8_readClause_32 ?_
        refine g_iconst (4 : Int32) (by decide) dX8_readClause_33 ?_
        obtain ⟨q10, h11, hf⟩ := bnd_some hf
        refine g_callV0v (As := [.int (4 : Int32)]) (rest := []) cok8 mok_X8_must tw6_13 tw6_15 ts6_5 oS38 B.1 (by decide) (kX8_must  h11) rfl rfl (Nat.le_of_ble_eq_true rfl) ⟨Nat.le_refl _, Nat.le_refl _⟩ dX8_readClause_34 ?_
        refine g_lvs [0] rfl ?_
        exact wX8_readClause_b37 B  q10 hf
  · rw [if_neg h3] at hf
    refine g_aload_n rfl 0 rfl dX8_readClause_8 ?_
    refine g_iconst (0 : Int32) (by decide) dX8_readClause_9 ?_
    obtain ⟨q12, h13, hf⟩ := bnd_some hf
    refine g_callV0v (As := [.int (0 : Int32)]) (rest := []) cok8 mok_X8_readSum tw5_234 tw5_236 ts6_1 oS38 B.1 (by decide) (kX8_readSum  h13) rfl rfl (Nat.le_of_ble_eq_true rfl) ⟨Nat.le_refl _, Nat.le_refl _⟩ dX8_readClause_10 ?_
    refine g_goto 37 (by decide) dX8_readClause_13 ?_
    refine g_lvs [0] rfl ?_
    exact wX8_readClause_b37 B  q12 hf
theorem kX8_readClause {l : Launch} {E : Ev} {st : St}  {u0 : St}  (hf : fX8_readClause st = some u0) : CM l E WT yX8_readClause cX8_readClause 1 none 104 0 0 [.ref (eB E + 38)] st none u0 :=
  CM.intro mok_X8_readClause (Nat.le_of_ble_eq_true rfl) (fun x hl hR ht hr hQ _ => wX8_readClause ⟨hR, ht, hr, hQ⟩ st hf)
def fX8_readOrder_b57  (st : St) : Option St :=
  (fX8_takes0 (5 : Int32) st).bind (fun q1 => if q1.1 = 0 then (some q1.2) else (fX8_readTest (0 : Int32) q1.2))
set_option maxHeartbeats 1000000 in
set_option maxRecDepth 20000 in
theorem wX8_readOrder_b57 {E : Ev} {x : Cx} {u0 : St} (B : Bd E x none (104) 0 0 none u0)  (st : St)  (hf : fX8_readOrder_b57 st = some u0) : G E WT x RX8 cX8_readOrder 1 (0, 0) st 57 [(0, .ref (eB E + 38))] [] := by
  unfold fX8_readOrder_b57 at hf
  refine g_aload_n rfl 0 rfl dX8_readOrder_57 ?_
  refine g_iconst (5 : Int32) (by decide) dX8_readOrder_58 ?_
  obtain ⟨q1, h2, hf⟩ := bnd_some hf
  refine g_callV0i (As := [.int (5 : Int32)]) (rest := []) cok8 mok_X8_takes0 tw5_226 tw5_228 ts5_15 oS38 B.1 (by decide) (kX8_takes0  h2) rfl rfl (Nat.le_of_ble_eq_true rfl) ⟨Nat.le_refl _, Nat.le_refl _⟩ dX8_readOrder_59 ?_
  refine g_if_eq 70 (by decide) dX8_readOrder_62 (fun h3 => ?_) (fun h3 => ?_)
  · rw [if_pos h3] at hf
    exact g_ret B.2.2.2 B.2.2.1 rfl (Option.some.inj hf).symm dX8_readOrder_70
  · rw [if_neg h3] at hf
    refine g_aload_n rfl 0 rfl dX8_readOrder_65 ?_
    refine g_iconst (0 : Int32) (by decide) dX8_readOrder_66 ?_
    refine g_callV0v (As := [.int (0 : Int32)]) (rest := []) cok8 mok_X8_readTest tw6_25 tw6_27 ts6_8 oS38 B.1 (by decide) (kX8_readTest  hf) rfl rfl (Nat.le_of_ble_eq_true rfl) ⟨Nat.le_refl _, Nat.le_refl _⟩ dX8_readOrder_67 ?_
    exact g_ret B.2.2.2 B.2.2.1 rfl rfl dX8_readOrder_70
def fX8_readOrder_b41  (st : St) : Option St :=
  (fX8_takes0 (24 : Int32) st).bind (fun q1 => if q1.1 = 0 then (fX8_readOrder_b57  q1.2) else ((fX8_mustNumber (1 : Int32) (20 : Int32) q1.2).bind (fun q4 => fX8_readOrder_b57  q4)))
set_option maxHeartbeats 1000000 in
set_option maxRecDepth 20000 in
theorem wX8_readOrder_b41 {E : Ev} {x : Cx} {u0 : St} (B : Bd E x none (104) 0 0 none u0)  (st : St)  (hf : fX8_readOrder_b41 st = some u0) : G E WT x RX8 cX8_readOrder 1 (0, 0) st 41 [(0, .ref (eB E + 38))] [] := by
  unfold fX8_readOrder_b41 at hf
  refine g_aload_n rfl 0 rfl dX8_readOrder_41 ?_
  refine g_bipush (24 : Int32) (by decide) dX8_readOrder_42 ?_
  obtain ⟨q1, h2, hf⟩ := bnd_some hf
  refine g_callV0i (As := [.int (24 : Int32)]) (rest := []) cok8 mok_X8_takes0 tw5_226 tw5_228 ts5_15 oS38 B.1 (by decide) (kX8_takes0  h2) rfl rfl (Nat.le_of_ble_eq_true rfl) ⟨Nat.le_refl _, Nat.le_refl _⟩ dX8_readOrder_44 ?_
  refine g_if_eq 57 (by decide) dX8_readOrder_47 (fun h3 => ?_) (fun h3 => ?_)
  · rw [if_pos h3] at hf
    refine g_lvs [0] rfl ?_
    exact wX8_readOrder_b57 B  q1.2 hf
  · rw [if_neg h3] at hf
    refine g_aload_n rfl 0 rfl dX8_readOrder_50 ?_
    refine g_iconst (1 : Int32) (by decide) dX8_readOrder_51 ?_
    refine g_bipush (20 : Int32) (by decide) dX8_readOrder_52 ?_
    obtain ⟨q4, h5, hf⟩ := bnd_some hf
    refine g_callV0v (As := [.int (1 : Int32), .int (20 : Int32)]) (rest := []) cok8 mok_X8_mustNumber tw6_21 tw6_23 ts6_7 oS38 B.1 (by decide) (kX8_mustNumber  h5) rfl rfl (Nat.le_of_ble_eq_true rfl) ⟨Nat.le_refl _, Nat.le_refl _⟩ dX8_readOrder_54 ?_
    refine g_lvs [0] rfl ?_
    exact wX8_readOrder_b57 B  q4 hf
def fX8_readOrder_b27  (st : St) : Option St :=
  (fX8_readSum (0 : Int32) st).bind (fun q1 => fX8_readOrder_b41  q1)
set_option maxHeartbeats 1000000 in
set_option maxRecDepth 20000 in
theorem wX8_readOrder_b27 {E : Ev} {x : Cx} {u0 : St} (B : Bd E x none (104) 0 0 none u0)  (st : St)  (hf : fX8_readOrder_b27 st = some u0) : G E WT x RX8 cX8_readOrder 1 (0, 0) st 27 [(0, .ref (eB E + 38))] [] := by
  unfold fX8_readOrder_b27 at hf
  refine g_aload_n rfl 0 rfl dX8_readOrder_27 ?_
  refine g_iconst (0 : Int32) (by decide) dX8_readOrder_28 ?_
  obtain ⟨q1, h2, hf⟩ := bnd_some hf
  refine g_callV0v (As := [.int (0 : Int32)]) (rest := []) cok8 mok_X8_readSum tw5_234 tw5_236 ts6_1 oS38 B.1 (by decide) (kX8_readSum  h2) rfl rfl (Nat.le_of_ble_eq_true rfl) ⟨Nat.le_refl _, Nat.le_refl _⟩ dX8_readOrder_29 ?_
  refine g_goto 41 (by decide) dX8_readOrder_32 ?_
  refine g_lvs [0] rfl ?_
  exact wX8_readOrder_b41 B  q1 hf
def fX8_readOrder  (st : St) : Option St :=
  (fX8_takes0 (20 : Int32) st).bind (fun q1 => if q1.1 = 0 then ((fX8_takes0 (21 : Int32) q1.2).bind (fun q4 => if q4.1 = 0 then ((fX8_takes0 (22 : Int32) q4.2).bind (fun q7 => if q7.1 = 0 then ((fX8_must (23 : Int32) q7.2).bind (fun q10 => fX8_readOrder_b41  q10)) else (fX8_readOrder_b27  q7.2))) else (fX8_readOrder_b27  q4.2))) else (fX8_readOrder_b27  q1.2))
set_option maxHeartbeats 1000000 in
set_option maxRecDepth 20000 in
theorem wX8_readOrder {E : Ev} {x : Cx} {u0 : St} (B : Bd E x none (104) 0 0 none u0)  (st : St)  (hf : fX8_readOrder st = some u0) : G E WT x RX8 cX8_readOrder 1 (0, 0) st 0 [(0, .ref (eB E + 38))] [] := by
  unfold fX8_readOrder at hf
  refine g_aload_n rfl 0 rfl dX8_readOrder_0 ?_
  refine g_bipush (20 : Int32) (by decide) dX8_readOrder_1 ?_
  obtain ⟨q1, h2, hf⟩ := bnd_some hf
  refine g_callV0i (As := [.int (20 : Int32)]) (rest := []) cok8 mok_X8_takes0 tw5_226 tw5_228 ts5_15 oS38 B.1 (by decide) (kX8_takes0  h2) rfl rfl (Nat.le_of_ble_eq_true rfl) ⟨Nat.le_refl _, Nat.le_refl _⟩ dX8_readOrder_3 ?_
  refine g_if_ne 27 (by decide) dX8_readOrder_6 (fun h3 => ?_) (fun h3 => ?_)
  · rw [if_neg h3] at hf
    refine g_lvs [0] rfl ?_
    exact wX8_readOrder_b27 B  q1.2 hf
  · rw [if_pos h3] at hf
    refine g_aload_n rfl 0 rfl dX8_readOrder_9 ?_
    refine g_bipush (21 : Int32) (by decide) dX8_readOrder_10 ?_
    obtain ⟨q4, h5, hf⟩ := bnd_some hf
    refine g_callV0i (As := [.int (21 : Int32)]) (rest := []) cok8 mok_X8_takes0 tw5_226 tw5_228 ts5_15 oS38 B.1 (by decide) (kX8_takes0  h5) rfl rfl (Nat.le_of_ble_eq_true rfl) ⟨Nat.le_refl _, Nat.le_refl _⟩ dX8_readOrder_12 ?_
    refine g_if_ne 27 (by decide) dX8_readOrder_15 (fun h6 => ?_) (fun h6 => ?_)
    · rw [if_neg h6] at hf
      refine g_lvs [0] rfl ?_
      exact wX8_readOrder_b27 B  q4.2 hf
    · rw [if_pos h6] at hf
      refine g_aload_n rfl 0 rfl dX8_readOrder_18 ?_
      refine g_bipush (22 : Int32) (by decide) dX8_readOrder_19 ?_
      obtain ⟨q7, h8, hf⟩ := bnd_some hf
      refine g_callV0i (As := [.int (22 : Int32)]) (rest := []) cok8 mok_X8_takes0 tw5_226 tw5_228 ts5_15 oS38 B.1 (by decide) (kX8_takes0  h8) rfl rfl (Nat.le_of_ble_eq_true rfl) ⟨Nat.le_refl _, Nat.le_refl _⟩ dX8_readOrder_21 ?_
      refine g_if_eq 35 (by decide) dX8_readOrder_24 (fun h9 => ?_) (fun h9 => ?_)
      · rw [if_pos h9] at hf
        refine g_aload_n rfl 0 rfl dX8_readOrder_35 ?_
        refine g_bipush (23 : Int32) (by decide) dX8_readOrder_36 ?_
        obtain ⟨q10, h11, hf⟩ := bnd_some hf
        refine g_callV0v (As := [.int (23 : Int32)]) (rest := []) cok8 mok_X8_must tw6_13 tw6_15 ts6_5 oS38 B.1 (by decide) (kX8_must  h11) rfl rfl (Nat.le_of_ble_eq_true rfl) ⟨Nat.le_refl _, Nat.le_refl _⟩ dX8_readOrder_38 ?_
        refine g_lvs [0] rfl ?_
        exact wX8_readOrder_b41 B  q10 hf
      · rw [if_neg h9] at hf
        refine g_lvs [0] rfl ?_
        exact wX8_readOrder_b27 B  q7.2 hf
theorem kX8_readOrder {l : Launch} {E : Ev} {st : St}  {u0 : St}  (hf : fX8_readOrder st = some u0) : CM l E WT yX8_readOrder cX8_readOrder 1 none 104 0 0 [.ref (eB E + 38)] st none u0 :=
  CM.intro mok_X8_readOrder (Nat.le_of_ble_eq_true rfl) (fun x hl hR ht hr hQ _ => wX8_readOrder ⟨hR, ht, hr, hQ⟩ st hf)
def fX8_readOne  (st : St) : Option St :=
  if (sI st 38 10) = 0 then (fX8_readClause st) else ((fX8_readOrder st).bind (fun q2 => some q2))
set_option maxHeartbeats 1000000 in
set_option maxRecDepth 20000 in
theorem wX8_readOne {E : Ev} {x : Cx} {u0 : St} (B : Bd E x none (105) 0 0 none u0)  (st : St)  (hf : fX8_readOne st = some u0) : G E WT x RX8 cX8_readOne 1 (0, 0) st 0 [(0, .ref (eB E + 38))] [] := by
  unfold fX8_readOne at hf
  refine g_aload_n rfl 0 rfl dX8_readOne_0 ?_
  refine g_get (j := 10) cok8 (by decide) (.int (sI st 38 10)) (Or.inl tw4_185) oS38 (fun _ => rfl) dX8_readOne_1 ?_
  refine g_if_eq 14 (by decide) dX8_readOne_4 (fun h1 => ?_) (fun h1 => ?_)
  · rw [if_pos h1] at hf
    refine g_aload_n rfl 0 rfl dX8_readOne_14 ?_
    refine g_callV0v (As := []) (rest := []) cok8 mok_X8_readClause tw6_37 tw6_39 ts6_11 oS38 B.1 (by decide) (kX8_readClause  hf) rfl rfl (Nat.le_of_ble_eq_true rfl) ⟨Nat.le_refl _, Nat.le_refl _⟩ dX8_readOne_15 ?_
    exact g_ret B.2.2.2 B.2.2.1 rfl rfl dX8_readOne_18
  · rw [if_neg h1] at hf
    refine g_aload_n rfl 0 rfl dX8_readOne_7 ?_
    obtain ⟨q2, h3, hf⟩ := bnd_some hf
    refine g_callV0v (As := []) (rest := []) cok8 mok_X8_readOrder tw5_222 tw5_224 ts5_14 oS38 B.1 (by decide) (kX8_readOrder  h3) rfl rfl (Nat.le_of_ble_eq_true rfl) ⟨Nat.le_refl _, Nat.le_refl _⟩ dX8_readOne_8 ?_
    refine g_goto 18 (by decide) dX8_readOne_11 ?_
    exact g_ret B.2.2.2 B.2.2.1 rfl (Option.some.inj hf).symm dX8_readOne_18
theorem kX8_readOne {l : Launch} {E : Ev} {st : St}  {u0 : St}  (hf : fX8_readOne st = some u0) : CM l E WT yX8_readOne cX8_readOne 1 none 105 0 0 [.ref (eB E + 38)] st none u0 :=
  CM.intro mok_X8_readOne (Nat.le_of_ble_eq_true rfl) (fun x hl hR ht hr hQ _ => wX8_readOne ⟨hR, ht, hr, hQ⟩ st hf)
def fX8_reads_b95  (st : St) : Option (Int32 × St) :=
  some (fX8_fine (pI st 38 14 (sI st 38 21)), pI st 38 14 (sI st 38 21))
set_option maxHeartbeats 1000000 in
set_option maxRecDepth 20000 in
theorem wX8_reads_b95 {E : Ev} {x : Cx} {r0 : Int32} {u0 : St} (B : Bd E x (some FieldType.boolean) (106) 0 0 (some (.int r0)) u0)  (st : St)  (hf : fX8_reads_b95 st = some (r0, u0)) : G E WT x RX8 cX8_reads 2 (0, 0) st 95 [(0, .ref (eB E + 38))] [] := by
  unfold fX8_reads_b95 at hf
  refine g_aload_n rfl 0 rfl dX8_reads_95 ?_
  refine g_aload_n rfl 0 rfl dX8_reads_96 ?_
  refine g_get (j := 21) cok8 (by decide) (.int (sI st 38 21)) (Or.inl tw4_196) oS38 (fun _ => rfl) dX8_reads_97 ?_
  refine g_putI (j := 14) cok8 (by decide) rfl rfl rfl rfl (Or.inl tw4_189) oS38 B.2.1 wpI dX8_reads_100 ?_
  refine g_aload_n rfl 0 rfl dX8_reads_103 ?_
  refine g_callV0i (As := []) (rest := []) cok8 mok_X8_fine tw5_230 tw5_232 ts6_0 oS38 B.1 (by decide) (kX8_fine  rfl) rfl rfl (Nat.le_of_ble_eq_true rfl) ⟨Nat.le_refl _, Nat.le_refl _⟩ dX8_reads_104 ?_
  exact g_zret B.2.2.2 B.2.2.1 (isb_or (fX8_fine_b _)) (congrArg (fun z => some (Value.int z)) (Prod.mk.inj (Option.some.inj hf)).1.symm) (Prod.mk.inj (Option.some.inj hf)).2.symm dX8_reads_107
def fX8_reads_b67 (k34 : Int32 → St → Option (Int32 × St))(l1 : Int32) (st : St) : Option (Int32 × St) :=
  k34 (l1 + (1 : Int32)) st
set_option maxHeartbeats 1000000 in
set_option maxRecDepth 20000 in
theorem wX8_reads_b67 {E : Ev} {x : Cx} {r0 : Int32} {u0 : St} (B : Bd E x (some FieldType.boolean) (106) 0 0 (some (.int r0)) u0) {k34 : Int32 → St → Option (Int32 × St)} (hk34 : ∀ (l1 : Int32) (st : St), k34 l1 st = some (r0, u0) → G E WT x RX8 cX8_reads 2 (0, 0) st 34 [(0, .ref (eB E + 38)), (1, .int l1)] []) (l1 : Int32) (st : St)  (hf : fX8_reads_b67 k34 l1 st = some (r0, u0)) : G E WT x RX8 cX8_reads 2 (0, 0) st 67 [(0, .ref (eB E + 38)), (1, .int l1)] [] := by
  unfold fX8_reads_b67 at hf
  refine g_iinc (l1 + (1 : Int32)) [(1, .int (l1 + (1 : Int32))), (0, .ref (eB E + 38))] 1 rfl (congrArg (fun z => l1 + z) (show Int32.ofInt (1) = (1 : Int32) by decide)) (by decide) rfl dX8_reads_67 ?_
  refine g_goto 34 (by decide) dX8_reads_70 ?_
  refine g_lvs [1, 0] rfl ?_
  exact hk34 (l1 + (1 : Int32)) st hf
def fX8_reads_b56 (k34 : Int32 → St → Option (Int32 × St))(l1 : Int32) (st : St) : Option (Int32 × St) :=
  if (fX8_fine st) = 0 then (fX8_reads_b67 k34 l1 st) else ((fX8_readOne st).bind (fun q2 => fX8_reads_b67 k34 l1 q2))
set_option maxHeartbeats 1000000 in
set_option maxRecDepth 20000 in
theorem wX8_reads_b56 {E : Ev} {x : Cx} {r0 : Int32} {u0 : St} (B : Bd E x (some FieldType.boolean) (106) 0 0 (some (.int r0)) u0) {k34 : Int32 → St → Option (Int32 × St)} (hk34 : ∀ (l1 : Int32) (st : St), k34 l1 st = some (r0, u0) → G E WT x RX8 cX8_reads 2 (0, 0) st 34 [(0, .ref (eB E + 38)), (1, .int l1)] []) (l1 : Int32) (st : St)  (hf : fX8_reads_b56 k34 l1 st = some (r0, u0)) : G E WT x RX8 cX8_reads 2 (0, 0) st 56 [(0, .ref (eB E + 38)), (1, .int l1)] [] := by
  unfold fX8_reads_b56 at hf
  refine g_aload_n rfl 0 rfl dX8_reads_56 ?_
  refine g_callV0i (As := []) (rest := []) cok8 mok_X8_fine tw5_230 tw5_232 ts6_0 oS38 B.1 (by decide) (kX8_fine  rfl) rfl rfl (Nat.le_of_ble_eq_true rfl) ⟨Nat.le_refl _, Nat.le_refl _⟩ dX8_reads_57 ?_
  refine g_if_eq 67 (by decide) dX8_reads_60 (fun h1 => ?_) (fun h1 => ?_)
  · rw [if_pos h1] at hf
    refine g_lvs [0, 1] rfl ?_
    exact wX8_reads_b67 B hk34 l1 st hf
  · rw [if_neg h1] at hf
    refine g_aload_n rfl 0 rfl dX8_reads_63 ?_
    obtain ⟨q2, h3, hf⟩ := bnd_some hf
    refine g_callV0v (As := []) (rest := []) cok8 mok_X8_readOne tw5_218 tw5_220 ts5_13 oS38 B.1 (by decide) (kX8_readOne  h3) rfl rfl (Nat.le_of_ble_eq_true rfl) ⟨Nat.le_refl _, Nat.le_refl _⟩ dX8_reads_64 ?_
    refine g_lvs [0, 1] rfl ?_
    exact wX8_reads_b67 B hk34 l1 q2 hf
def fX8_reads_b34 : Nat → Int32 → St → Option (Int32 × St)
  | 0, _, _ => none
  | n + 1, l1, st => (fX8_takes0 (fX8_sign (59 : Int32)) st).bind (fun q1 => if q1.1 = 0 then (if (fX8_fine q1.2) = 0 then (fX8_reads_b95  q1.2) else (if (sI q1.2 38 18) ≤ (sI q1.2 38 19) then (fX8_reads_b95  q1.2) else ((fX8_faults q1.2).bind (fun q6 => fX8_reads_b95  q6)))) else (if l1 = (12 : Int32) then ((fX8_faults q1.2).bind (fun q9 => fX8_reads_b56 (fun zl1 zst => fX8_reads_b34 n zl1 zst) l1 q9)) else (fX8_reads_b56 (fun zl1 zst => fX8_reads_b34 n zl1 zst) l1 q1.2)))
set_option maxHeartbeats 1000000 in
set_option maxRecDepth 20000 in
theorem wX8_reads_b34 {E : Ev} {x : Cx} {r0 : Int32} {u0 : St} (B : Bd E x (some FieldType.boolean) (106) 0 0 (some (.int r0)) u0) : ∀ (n : Nat) (l1 : Int32) (st : St) , fX8_reads_b34 n l1 st = some (r0, u0) → G E WT x RX8 cX8_reads 2 (0, 0) st 34 [(0, .ref (eB E + 38)), (1, .int l1)] [] := by
  intro n
  induction n with
  | zero =>
    intros
    rename_i hf
    rw [fX8_reads_b34] at hf
    cases hf
  | succ n ih =>
    intro l1 st hf
    rw [fX8_reads_b34] at hf
    refine g_aload_n rfl 0 rfl dX8_reads_34 ?_
    refine g_bipush (59 : Int32) (by decide) dX8_reads_35 ?_
    refine g_callS0i (As := [.int (59 : Int32)]) (rest := [.ref (eB E + 38)]) mok_X8_sign tw6_6 tw6_7 B.1 (by decide) (kX8_sign  rfl) rfl rfl (Nat.le_of_ble_eq_true rfl) ⟨Nat.le_refl _, Nat.le_refl _⟩ dX8_reads_37 ?_
    obtain ⟨q1, h2, hf⟩ := bnd_some hf
    refine g_callV0i (As := [.int (fX8_sign (59 : Int32))]) (rest := []) cok8 mok_X8_takes0 tw5_226 tw5_228 ts5_15 oS38 B.1 (by decide) (kX8_takes0  h2) rfl rfl (Nat.le_of_ble_eq_true rfl) ⟨Nat.le_refl _, Nat.le_refl _⟩ dX8_reads_40 ?_
    refine g_if_eq 73 (by decide) dX8_reads_43 (fun h3 => ?_) (fun h3 => ?_)
    · rw [if_pos h3] at hf
      refine g_aload_n rfl 0 rfl dX8_reads_73 ?_
      refine g_callV0i (As := []) (rest := []) cok8 mok_X8_fine tw5_230 tw5_232 ts6_0 oS38 B.1 (by decide) (kX8_fine  rfl) rfl rfl (Nat.le_of_ble_eq_true rfl) ⟨Nat.le_refl _, Nat.le_refl _⟩ dX8_reads_74 ?_
      refine g_if_eq 95 (by decide) dX8_reads_77 (fun h4 => ?_) (fun h4 => ?_)
      · rw [if_pos h4] at hf
        refine g_lvs [0] rfl ?_
        exact wX8_reads_b95 B  q1.2 hf
      · rw [if_neg h4] at hf
        refine g_aload_n rfl 0 rfl dX8_reads_80 ?_
        refine g_get (j := 19) cok8 (by decide) (.int (sI q1.2 38 19)) (Or.inl tw4_194) oS38 (fun _ => rfl) dX8_reads_81 ?_
        refine g_aload_n rfl 0 rfl dX8_reads_84 ?_
        refine g_get (j := 18) cok8 (by decide) (.int (sI q1.2 38 18)) (Or.inl tw4_193) oS38 (fun _ => rfl) dX8_reads_85 ?_
        refine g_icmp_ge 95 (by decide) dX8_reads_88 (fun h5 => ?_) (fun h5 => ?_)
        · rw [if_pos h5] at hf
          refine g_lvs [0] rfl ?_
          exact wX8_reads_b95 B  q1.2 hf
        · rw [if_neg h5] at hf
          refine g_aload_n rfl 0 rfl dX8_reads_91 ?_
          obtain ⟨q6, h7, hf⟩ := bnd_some hf
          refine g_callV0v (As := []) (rest := []) cok8 mok_X8_faults tw6_9 tw6_11 ts6_4 oS38 B.1 (by decide) (kX8_faults  h7) rfl rfl (Nat.le_of_ble_eq_true rfl) ⟨Nat.le_refl _, Nat.le_refl _⟩ dX8_reads_92 ?_
          refine g_lvs [0] rfl ?_
          exact wX8_reads_b95 B  q6 hf
    · rw [if_neg h3] at hf
      refine g_iload_n rfl 1 rfl dX8_reads_46 ?_
      refine g_bipush (12 : Int32) (by decide) dX8_reads_47 ?_
      refine g_icmp_ne 56 (by decide) dX8_reads_49 (fun h8 => ?_) (fun h8 => ?_)
      · rw [if_neg h8] at hf
        refine g_lvs [0, 1] rfl ?_
        exact wX8_reads_b56 B ih l1 q1.2 hf
      · rw [if_pos h8] at hf
        refine g_aload_n rfl 0 rfl dX8_reads_52 ?_
        obtain ⟨q9, h10, hf⟩ := bnd_some hf
        refine g_callV0v (As := []) (rest := []) cok8 mok_X8_faults tw6_9 tw6_11 ts6_4 oS38 B.1 (by decide) (kX8_faults  h10) rfl rfl (Nat.le_of_ble_eq_true rfl) ⟨Nat.le_refl _, Nat.le_refl _⟩ dX8_reads_53 ?_
        refine g_lvs [0, 1] rfl ?_
        exact wX8_reads_b56 B ih l1 q9 hf
def fX8_reads  (st : St) : Option (Int32 × St) :=
  (fX8_splits (sI st 38 13) st).bind (fun q1 => (fX8_readOne (pI (pI (pI (pI q1 38 13 (0 : Int32)) 38 19 (0 : Int32)) 38 20 (0 : Int32)) 38 21 (-1 : Int32))).bind (fun q3 => fX8_reads_b34 FU (1 : Int32) q3))
set_option maxHeartbeats 1000000 in
set_option maxRecDepth 20000 in
theorem wX8_reads {E : Ev} {x : Cx} {r0 : Int32} {u0 : St} (B : Bd E x (some FieldType.boolean) (106) 0 0 (some (.int r0)) u0)  (st : St)  (hf : fX8_reads st = some (r0, u0)) : G E WT x RX8 cX8_reads 2 (0, 0) st 0 [(0, .ref (eB E + 38))] [] := by
  unfold fX8_reads at hf
  refine g_aload_n rfl 0 rfl dX8_reads_0 ?_
  refine g_aload_n rfl 0 rfl dX8_reads_1 ?_
  refine g_get (j := 13) cok8 (by decide) (.int (sI st 38 13)) (Or.inl tw4_188) oS38 (fun _ => rfl) dX8_reads_2 ?_
  obtain ⟨q1, h2, hf⟩ := bnd_some hf
  refine g_callV0v (As := [.int (sI st 38 13)]) (rest := []) cok8 mok_X8_splits tw5_203 tw5_205 ts5_11 oS38 B.1 (by decide) (kX8_splits  h2) rfl rfl (Nat.le_of_ble_eq_true rfl) ⟨Nat.le_refl _, Nat.le_refl _⟩ dX8_reads_5 ?_
  refine g_aload_n rfl 0 rfl dX8_reads_8 ?_
  refine g_iconst (0 : Int32) (by decide) dX8_reads_9 ?_
  refine g_putI (j := 13) cok8 (by decide) rfl rfl rfl rfl (Or.inl tw4_188) oS38 B.2.1 wpI dX8_reads_10 ?_
  refine g_aload_n rfl 0 rfl dX8_reads_13 ?_
  refine g_iconst (0 : Int32) (by decide) dX8_reads_14 ?_
  refine g_putI (j := 19) cok8 (by decide) rfl rfl rfl rfl (Or.inl tw4_194) oS38 B.2.1 wpI dX8_reads_15 ?_
  refine g_aload_n rfl 0 rfl dX8_reads_18 ?_
  refine g_iconst (0 : Int32) (by decide) dX8_reads_19 ?_
  refine g_putI (j := 20) cok8 (by decide) rfl rfl rfl rfl (Or.inl tw4_195) oS38 B.2.1 wpI dX8_reads_20 ?_
  refine g_aload_n rfl 0 rfl dX8_reads_23 ?_
  refine g_iconst (-1 : Int32) (by decide) dX8_reads_24 ?_
  refine g_putI (j := 21) cok8 (by decide) rfl rfl rfl rfl (Or.inl tw4_196) oS38 B.2.1 wpI dX8_reads_25 ?_
  refine g_aload_n rfl 0 rfl dX8_reads_28 ?_
  obtain ⟨q3, h4, hf⟩ := bnd_some hf
  refine g_callV0v (As := []) (rest := []) cok8 mok_X8_readOne tw5_218 tw5_220 ts5_13 oS38 B.1 (by decide) (kX8_readOne  h4) rfl rfl (Nat.le_of_ble_eq_true rfl) ⟨Nat.le_refl _, Nat.le_refl _⟩ dX8_reads_29 ?_
  refine g_iconst (1 : Int32) (by decide) dX8_reads_32 ?_
  refine g_istore_n rfl [(1, .int (1 : Int32)), (0, .ref (eB E + 38))] (by decide) rfl dX8_reads_33 ?_
  refine g_lvs [1, 0] rfl ?_
  exact wX8_reads_b34 B  FU (1 : Int32) q3 hf
theorem kX8_reads {l : Launch} {E : Ev} {st : St}  {r0 : Int32} {u0 : St}  (hf : fX8_reads st = some (r0, u0)) : CM l E WT yX8_reads cX8_reads 2 (some FieldType.boolean) 106 0 0 [.ref (eB E + 38)] st (some (.int r0)) u0 :=
  CM.intro mok_X8_reads (Nat.le_of_ble_eq_true rfl) (fun x hl hR ht hr hQ _ => wX8_reads ⟨hR, ht, hr, hQ⟩ st hf)
def fX8_readsAs_b32 (s1 : Int32) (st : St) : Option (Int32 × St) :=
  (fX8_reads (pI st 38 9 s1)).bind (fun q1 => chk (isb q1.1) (some (q1.1, q1.2)))
set_option maxHeartbeats 1000000 in
set_option maxRecDepth 20000 in
theorem wX8_readsAs_b32 {E : Ev} {x : Cx} {r0 : Int32} {u0 : St} (B : Bd E x (some FieldType.boolean) (107) 0 0 (some (.int r0)) u0) (s1 : Int32) (st : St)  (hf : fX8_readsAs_b32 s1 st = some (r0, u0)) : G E WT x RX8 cX8_readsAs 2 (0, 0) st 32 [(0, .ref (eB E + 38))] [.int s1, .ref (eB E + 38)] := by
  unfold fX8_readsAs_b32 at hf
  refine g_putI (j := 9) cok8 (by decide) rfl rfl rfl rfl (Or.inl tw4_184) oS38 B.2.1 wpI dX8_readsAs_32 ?_
  refine g_aload_n rfl 0 rfl dX8_readsAs_35 ?_
  obtain ⟨q1, h2, hf⟩ := bnd_some hf
  refine g_callV0i (As := []) (rest := []) cok8 mok_X8_reads tw5_199 tw5_201 ts5_10 oS38 B.1 (by decide) (kX8_reads  h2) rfl rfl (Nat.le_of_ble_eq_true rfl) ⟨Nat.le_refl _, Nat.le_refl _⟩ dX8_readsAs_36 ?_
  obtain ⟨h3, hf⟩ := chk_some hf
  exact g_zret B.2.2.2 B.2.2.1 (isb_or h3) (congrArg (fun z => some (Value.int z)) (Prod.mk.inj (Option.some.inj hf)).1.symm) (Prod.mk.inj (Option.some.inj hf)).2.symm dX8_readsAs_39
def fX8_readsAs_b17 (l1 : Int32) (s1 : Int32) (st : St) : Option (Int32 × St) :=
  if l1 = 0 then (fX8_readsAs_b32 (15 : Int32) (pI st 38 8 s1)) else (fX8_readsAs_b32 (19 : Int32) (pI st 38 8 s1))
set_option maxHeartbeats 1000000 in
set_option maxRecDepth 20000 in
theorem wX8_readsAs_b17 {E : Ev} {x : Cx} {r0 : Int32} {u0 : St} (B : Bd E x (some FieldType.boolean) (107) 0 0 (some (.int r0)) u0) (l1 : Int32) (s1 : Int32) (st : St)  (hf : fX8_readsAs_b17 l1 s1 st = some (r0, u0)) : G E WT x RX8 cX8_readsAs 2 (0, 0) st 17 [(0, .ref (eB E + 38)), (1, .int l1)] [.int s1, .ref (eB E + 38)] := by
  unfold fX8_readsAs_b17 at hf
  refine g_putI (j := 8) cok8 (by decide) rfl rfl rfl rfl (Or.inl tw4_183) oS38 B.2.1 wpI dX8_readsAs_17 ?_
  refine g_aload_n rfl 0 rfl dX8_readsAs_20 ?_
  refine g_iload_n rfl 1 rfl dX8_readsAs_21 ?_
  refine g_if_eq 30 (by decide) dX8_readsAs_22 (fun h1 => ?_) (fun h1 => ?_)
  · rw [if_pos h1] at hf
    refine g_bipush (15 : Int32) (by decide) dX8_readsAs_30 ?_
    refine g_lvs [0] rfl ?_
    exact wX8_readsAs_b32 B  (15 : Int32) (pI st 38 8 s1) hf
  · rw [if_neg h1] at hf
    refine g_bipush (19 : Int32) (by decide) dX8_readsAs_25 ?_
    refine g_goto 32 (by decide) dX8_readsAs_27 ?_
    refine g_lvs [0] rfl ?_
    exact wX8_readsAs_b32 B  (19 : Int32) (pI st 38 8 s1) hf
def fX8_readsAs (p1 : Int32) (st : St) : Option (Int32 × St) :=
  chk (isb p1) (if p1 = 0 then (fX8_readsAs_b17 p1 (9 : Int32) (pI st 38 10 p1)) else (fX8_readsAs_b17 p1 (13 : Int32) (pI st 38 10 p1)))
set_option maxHeartbeats 1000000 in
set_option maxRecDepth 20000 in
theorem wX8_readsAs {E : Ev} {x : Cx} {r0 : Int32} {u0 : St} (B : Bd E x (some FieldType.boolean) (107) 0 0 (some (.int r0)) u0) (p1 : Int32) (st : St)  (hf : fX8_readsAs p1 st = some (r0, u0)) : G E WT x RX8 cX8_readsAs 2 (0, 0) st 0 [(0, .ref (eB E + 38)), (1, .int p1)] [] := by
  unfold fX8_readsAs at hf
  refine g_aload_n rfl 0 rfl dX8_readsAs_0 ?_
  refine g_iload_n rfl 1 rfl dX8_readsAs_1 ?_
  obtain ⟨h1, hf⟩ := chk_some hf
  refine g_putI (j := 10) cok8 (by decide) rfl rfl (nb_n (isb_or h1)) (nb_f (isb_or h1)) (Or.inl tw4_185) oS38 B.2.1 wpI dX8_readsAs_2 ?_
  refine g_aload_n rfl 0 rfl dX8_readsAs_5 ?_
  refine g_iload_n rfl 1 rfl dX8_readsAs_6 ?_
  refine g_if_eq 15 (by decide) dX8_readsAs_7 (fun h2 => ?_) (fun h2 => ?_)
  · rw [if_pos h2] at hf
    refine g_bipush (9 : Int32) (by decide) dX8_readsAs_15 ?_
    refine g_lvs [0, 1] rfl ?_
    exact wX8_readsAs_b17 B  p1 (9 : Int32) (pI st 38 10 p1) hf
  · rw [if_neg h2] at hf
    refine g_bipush (13 : Int32) (by decide) dX8_readsAs_10 ?_
    refine g_goto 17 (by decide) dX8_readsAs_12 ?_
    refine g_lvs [0, 1] rfl ?_
    exact wX8_readsAs_b17 B  p1 (13 : Int32) (pI st 38 10 p1) hf
theorem kX8_readsAs {l : Launch} {E : Ev} {st : St} {p1 : Int32} {r0 : Int32} {u0 : St}  (hf : fX8_readsAs p1 st = some (r0, u0)) : CM l E WT yX8_readsAs cX8_readsAs 2 (some FieldType.boolean) 107 0 0 [.ref (eB E + 38), .int p1] st (some (.int r0)) u0 :=
  CM.intro mok_X8_readsAs (Nat.le_of_ble_eq_true rfl) (fun x hl hR ht hr hQ _ => wX8_readsAs ⟨hR, ht, hr, hQ⟩ p1 st hf)
def fX8_lays_b15 : Nat → Int32 → Int32 → St → Option St
  | 0, _, _, _ => none
  | n + 1, l1, l2, st => if (sI st 38 18) ≤ l2 then (some st) else (chk (ixb l2 401) (chk (ixb (((27 : Int32) + ((400 : Int32) * l1)) + l2) 5627) (chk (ixb l2 401) (chk (ixb (((2827 : Int32) + ((400 : Int32) * l1)) + l2) 5627) (fX8_lays_b15 n l1 (l2 + (1 : Int32)) (pI (pI st 40 ((((27 : Int32) + ((400 : Int32) * l1)) + l2).toNatClampNeg) (sI st 47 l2.toNatClampNeg)) 40 ((((2827 : Int32) + ((400 : Int32) * l1)) + l2).toNatClampNeg) (sI (pI st 40 ((((27 : Int32) + ((400 : Int32) * l1)) + l2).toNatClampNeg) (sI st 47 l2.toNatClampNeg)) 48 l2.toNatClampNeg)))))))
set_option maxHeartbeats 1000000 in
set_option maxRecDepth 20000 in
theorem wX8_lays_b15 {E : Ev} {x : Cx} {u0 : St} (B : Bd E x none (0) 0 0 none u0) : ∀ (n : Nat) (l1 : Int32) (l2 : Int32) (st : St) , fX8_lays_b15 n l1 l2 st = some u0 → G E WT x RX8 cX8_lays 3 (0, 0) st 15 [(0, .ref (eB E + 38)), (1, .int l1), (2, .int l2)] [] := by
  intro n
  induction n with
  | zero =>
    intros
    rename_i hf
    rw [fX8_lays_b15] at hf
    cases hf
  | succ n ih =>
    intro l1 l2 st hf
    rw [fX8_lays_b15] at hf
    refine g_iload_n rfl 2 rfl dX8_lays_15 ?_
    refine g_aload_n rfl 0 rfl dX8_lays_16 ?_
    refine g_get (j := 18) cok8 (by decide) (.int (sI st 38 18)) (Or.inl tw4_193) oS38 (fun _ => rfl) dX8_lays_17 ?_
    refine g_icmp_ge 72 (by decide) dX8_lays_20 (fun h1 => ?_) (fun h1 => ?_)
    · rw [if_pos h1] at hf
      exact g_ret B.2.2.2 B.2.2.1 rfl (Option.some.inj hf).symm dX8_lays_72
    · rw [if_neg h1] at hf
      refine g_aload_n rfl 0 rfl dX8_lays_23 ?_
      refine g_get (j := 2) cok8 (by decide) (.ref (eB E + 40)) (Or.inl tw4_177) oS38 vS38_2 dX8_lays_24 ?_
      refine g_bipush (27 : Int32) (by decide) dX8_lays_27 ?_
      refine g_sipush (400 : Int32) (by decide) dX8_lays_29 ?_
      refine g_iload_n rfl 1 rfl dX8_lays_32 ?_
      refine g_imul dX8_lays_33 ?_
      refine g_iadd dX8_lays_34 ?_
      refine g_iload_n rfl 2 rfl dX8_lays_35 ?_
      refine g_iadd dX8_lays_36 ?_
      refine g_aload_n rfl 0 rfl dX8_lays_37 ?_
      refine g_get (j := 15) cok8 (by decide) (.ref (eB E + 47)) (Or.inl tw4_190) oS38 vS38_15 dX8_lays_38 ?_
      refine g_iload_n rfl 2 rfl dX8_lays_41 ?_
      obtain ⟨h2, hf⟩ := chk_some hf
      refine g_ialdj l2.toNatClampNeg rfl aS47 (ixb_in h2) dX8_lays_42 ?_
      obtain ⟨h3, hf⟩ := chk_some hf
      refine g_iastj ((((27 : Int32) + ((400 : Int32) * l1)) + l2).toNatClampNeg) rfl aS40 (ixb_in h3) B.2.1 wpI dX8_lays_43 ?_
      refine g_aload_n rfl 0 rfl dX8_lays_44 ?_
      refine g_get (j := 2) cok8 (by decide) (.ref (eB E + 40)) (Or.inl tw4_177) oS38 vS38_2 dX8_lays_45 ?_
      refine g_sipush (2827 : Int32) (by decide) dX8_lays_48 ?_
      refine g_sipush (400 : Int32) (by decide) dX8_lays_51 ?_
      refine g_iload_n rfl 1 rfl dX8_lays_54 ?_
      refine g_imul dX8_lays_55 ?_
      refine g_iadd dX8_lays_56 ?_
      refine g_iload_n rfl 2 rfl dX8_lays_57 ?_
      refine g_iadd dX8_lays_58 ?_
      refine g_aload_n rfl 0 rfl dX8_lays_59 ?_
      refine g_get (j := 16) cok8 (by decide) (.ref (eB E + 48)) (Or.inl tw4_191) oS38 vS38_16 dX8_lays_60 ?_
      refine g_iload_n rfl 2 rfl dX8_lays_63 ?_
      obtain ⟨h4, hf⟩ := chk_some hf
      refine g_ialdj l2.toNatClampNeg rfl aS48 (ixb_in h4) dX8_lays_64 ?_
      obtain ⟨h5, hf⟩ := chk_some hf
      refine g_iastj ((((2827 : Int32) + ((400 : Int32) * l1)) + l2).toNatClampNeg) rfl aS40 (ixb_in h5) B.2.1 wpI dX8_lays_65 ?_
      refine g_iinc (l2 + (1 : Int32)) [(2, .int (l2 + (1 : Int32))), (0, .ref (eB E + 38)), (1, .int l1)] 2 rfl (congrArg (fun z => l2 + z) (show Int32.ofInt (1) = (1 : Int32) by decide)) (by decide) rfl dX8_lays_66 ?_
      refine g_goto 15 (by decide) dX8_lays_69 ?_
      refine g_lvs [1, 2, 0] rfl ?_
      exact ih l1 (l2 + (1 : Int32)) (pI (pI st 40 ((((27 : Int32) + ((400 : Int32) * l1)) + l2).toNatClampNeg) (sI st 47 l2.toNatClampNeg)) 40 ((((2827 : Int32) + ((400 : Int32) * l1)) + l2).toNatClampNeg) (sI (pI st 40 ((((27 : Int32) + ((400 : Int32) * l1)) + l2).toNatClampNeg) (sI st 47 l2.toNatClampNeg)) 48 l2.toNatClampNeg)) hf
def fX8_lays (p1 : Int32) (st : St) : Option St :=
  chk (ixb ((20 : Int32) + p1) 5627) (fX8_lays_b15 FU p1 (0 : Int32) (pI st 40 (((20 : Int32) + p1).toNatClampNeg) (sI st 38 18)))
set_option maxHeartbeats 1000000 in
set_option maxRecDepth 20000 in
theorem wX8_lays {E : Ev} {x : Cx} {u0 : St} (B : Bd E x none (0) 0 0 none u0) (p1 : Int32) (st : St)  (hf : fX8_lays p1 st = some u0) : G E WT x RX8 cX8_lays 3 (0, 0) st 0 [(0, .ref (eB E + 38)), (1, .int p1)] [] := by
  unfold fX8_lays at hf
  refine g_aload_n rfl 0 rfl dX8_lays_0 ?_
  refine g_get (j := 2) cok8 (by decide) (.ref (eB E + 40)) (Or.inl tw4_177) oS38 vS38_2 dX8_lays_1 ?_
  refine g_bipush (20 : Int32) (by decide) dX8_lays_4 ?_
  refine g_iload_n rfl 1 rfl dX8_lays_6 ?_
  refine g_iadd dX8_lays_7 ?_
  refine g_aload_n rfl 0 rfl dX8_lays_8 ?_
  refine g_get (j := 18) cok8 (by decide) (.int (sI st 38 18)) (Or.inl tw4_193) oS38 (fun _ => rfl) dX8_lays_9 ?_
  obtain ⟨h1, hf⟩ := chk_some hf
  refine g_iastj (((20 : Int32) + p1).toNatClampNeg) rfl aS40 (ixb_in h1) B.2.1 wpI dX8_lays_12 ?_
  refine g_iconst (0 : Int32) (by decide) dX8_lays_13 ?_
  refine g_istore_n rfl [(2, .int (0 : Int32)), (0, .ref (eB E + 38)), (1, .int p1)] (by decide) rfl dX8_lays_14 ?_
  refine g_lvs [1, 2, 0] rfl ?_
  exact wX8_lays_b15 B  FU p1 (0 : Int32) (pI st 40 (((20 : Int32) + p1).toNatClampNeg) (sI st 38 18)) hf
theorem kX8_lays {l : Launch} {E : Ev} {st : St} {p1 : Int32} {u0 : St}  (hf : fX8_lays p1 st = some u0) : CM l E WT yX8_lays cX8_lays 3 none 0 0 0 [.ref (eB E + 38), .int p1] st none u0 :=
  CM.intro mok_X8_lays (Nat.le_of_ble_eq_true rfl) (fun x hl hR ht hr hQ _ => wX8_lays ⟨hR, ht, hr, hQ⟩ p1 st hf)
def fX8_law  (st : St) : Option (Int32 × St) :=
  if (sI st 40 18) = (6 : Int32) then (fX8_refuses (-5 : Int32) (pI st 38 13 (0 : Int32))) else ((fX8_readsAs (0 : Int32) st).bind (fun q2 => if q2.1 = 0 then (fX8_refuses (-6 : Int32) q2.2) else ((fX8_lays (sI q2.2 40 18) q2.2).bind (fun q5 => fX8_good ((sI (pI q5 40 18 ((sI q5 40 18) + (1 : Int32))) 40 18) - (1 : Int32)) (pI q5 40 18 ((sI q5 40 18) + (1 : Int32)))))))
set_option maxHeartbeats 1000000 in
set_option maxRecDepth 20000 in
theorem wX8_law {E : Ev} {x : Cx} {r0 : Int32} {u0 : St} (B : Bd E x (some FieldType.int) (108) 0 0 (some (.int r0)) u0)  (st : St)  (hf : fX8_law st = some (r0, u0)) : G E WT x RX8 cX8_law 1 (0, 0) st 0 [(0, .ref (eB E + 38))] [] := by
  unfold fX8_law at hf
  refine g_aload_n rfl 0 rfl dX8_law_0 ?_
  refine g_get (j := 2) cok8 (by decide) (.ref (eB E + 40)) (Or.inl tw4_177) oS38 vS38_2 dX8_law_1 ?_
  refine g_bipush (18 : Int32) (by decide) dX8_law_4 ?_
  refine g_ialdj 18 rfl aS40 (ixb_in rfl) dX8_law_6 ?_
  refine g_bipush (6 : Int32) (by decide) dX8_law_7 ?_
  refine g_icmp_ne 24 (by decide) dX8_law_9 (fun h1 => ?_) (fun h1 => ?_)
  · rw [if_neg h1] at hf
    refine g_aload_n rfl 0 rfl dX8_law_24 ?_
    refine g_iconst (0 : Int32) (by decide) dX8_law_25 ?_
    obtain ⟨q2, h3, hf⟩ := bnd_some hf
    refine g_callV0i (As := [.int (0 : Int32)]) (rest := []) cok8 mok_X8_readsAs tw5_195 tw5_197 ts5_9 oS38 B.1 (by decide) (kX8_readsAs  h3) rfl rfl (Nat.le_of_ble_eq_true rfl) ⟨Nat.le_refl _, Nat.le_refl _⟩ dX8_law_26 ?_
    refine g_if_ne 39 (by decide) dX8_law_29 (fun h4 => ?_) (fun h4 => ?_)
    · rw [if_neg h4] at hf
      refine g_aload_n rfl 0 rfl dX8_law_39 ?_
      refine g_aload_n rfl 0 rfl dX8_law_40 ?_
      refine g_get (j := 2) cok8 (by decide) (.ref (eB E + 40)) (Or.inl tw4_177) oS38 vS38_2 dX8_law_41 ?_
      refine g_bipush (18 : Int32) (by decide) dX8_law_44 ?_
      refine g_ialdj 18 rfl aS40 (ixb_in rfl) dX8_law_46 ?_
      obtain ⟨q5, h6, hf⟩ := bnd_some hf
      refine g_callV0v (As := [.int (sI q2.2 40 18)]) (rest := []) cok8 mok_X8_lays tw6_41 tw6_43 ts6_12 oS38 B.1 (by decide) (kX8_lays  h6) rfl rfl (Nat.le_of_ble_eq_true rfl) ⟨Nat.le_refl _, Nat.le_refl _⟩ dX8_law_47 ?_
      refine g_aload_n rfl 0 rfl dX8_law_50 ?_
      refine g_get (j := 2) cok8 (by decide) (.ref (eB E + 40)) (Or.inl tw4_177) oS38 vS38_2 dX8_law_51 ?_
      refine g_bipush (18 : Int32) (by decide) dX8_law_54 ?_
      refine g_dup2 rfl rfl dX8_law_56 ?_
      refine g_ialdj 18 rfl aS40 (ixb_in rfl) dX8_law_57 ?_
      refine g_iconst (1 : Int32) (by decide) dX8_law_58 ?_
      refine g_iadd dX8_law_59 ?_
      refine g_iastj 18 rfl aS40 (ixb_in rfl) B.2.1 wpI dX8_law_60 ?_
      refine g_aload_n rfl 0 rfl dX8_law_61 ?_
      refine g_aload_n rfl 0 rfl dX8_law_62 ?_
      refine g_get (j := 2) cok8 (by decide) (.ref (eB E + 40)) (Or.inl tw4_177) oS38 vS38_2 dX8_law_63 ?_
      refine g_bipush (18 : Int32) (by decide) dX8_law_66 ?_
      refine g_ialdj 18 rfl aS40 (ixb_in rfl) dX8_law_68 ?_
      refine g_iconst (1 : Int32) (by decide) dX8_law_69 ?_
      refine g_isub dX8_law_70 ?_
      refine g_callV0i (As := [.int ((sI (pI q5 40 18 ((sI q5 40 18) + (1 : Int32))) 40 18) - (1 : Int32))]) (rest := []) cok8 mok_X8_good tw5_125 tw5_127 ts5_4 oS38 B.1 (by decide) (kX8_good  hf) rfl rfl (Nat.le_of_ble_eq_true rfl) ⟨Nat.le_refl _, Nat.le_refl _⟩ dX8_law_71 ?_
      exact g_iret B.2.2.2 B.2.2.1 rfl rfl dX8_law_74
    · rw [if_pos h4] at hf
      refine g_aload_n rfl 0 rfl dX8_law_32 ?_
      refine g_bipush (-6 : Int32) (by decide) dX8_law_33 ?_
      refine g_callV0i (As := [.int (-6 : Int32)]) (rest := []) cok8 mok_X8_refuses tw5_121 tw5_123 ts5_3 oS38 B.1 (by decide) (kX8_refuses  hf) rfl rfl (Nat.le_of_ble_eq_true rfl) ⟨Nat.le_refl _, Nat.le_refl _⟩ dX8_law_35 ?_
      exact g_iret B.2.2.2 B.2.2.1 rfl rfl dX8_law_38
  · rw [if_pos h1] at hf
    refine g_aload_n rfl 0 rfl dX8_law_12 ?_
    refine g_iconst (0 : Int32) (by decide) dX8_law_13 ?_
    refine g_putI (j := 13) cok8 (by decide) rfl rfl rfl rfl (Or.inl tw4_188) oS38 B.2.1 wpI dX8_law_14 ?_
    refine g_aload_n rfl 0 rfl dX8_law_17 ?_
    refine g_bipush (-5 : Int32) (by decide) dX8_law_18 ?_
    refine g_callV0i (As := [.int (-5 : Int32)]) (rest := []) cok8 mok_X8_refuses tw5_121 tw5_123 ts5_3 oS38 B.1 (by decide) (kX8_refuses  hf) rfl rfl (Nat.le_of_ble_eq_true rfl) ⟨Nat.le_refl _, Nat.le_refl _⟩ dX8_law_20 ?_
    exact g_iret B.2.2.2 B.2.2.1 rfl rfl dX8_law_23
theorem kX8_law {l : Launch} {E : Ev} {st : St}  {r0 : Int32} {u0 : St}  (hf : fX8_law st = some (r0, u0)) : CM l E WT yX8_law cX8_law 1 (some FieldType.int) 108 0 0 [.ref (eB E + 38)] st (some (.int r0)) u0 :=
  CM.intro mok_X8_law (Nat.le_of_ble_eq_true rfl) (fun x hl hR ht hr hQ _ => wX8_law ⟨hR, ht, hr, hQ⟩ st hf)
def fX8_fault (st : St)  : Int32 :=
  sI st 38 14
set_option maxHeartbeats 1000000 in
set_option maxRecDepth 20000 in
theorem wX8_fault {E : Ev} {x : Cx} {r0 : Int32} {st : St} (B : Bd E x (some FieldType.int) (0) 0 0 (some (.int r0)) st)   (hf : fX8_fault st  = r0) : G E WT x RX8 cX8_fault 1 (0, 0) st 0 [(0, .ref (eB E + 38))] [] := by
  unfold fX8_fault at hf
  refine g_aload_n rfl 0 rfl dX8_fault_0 ?_
  refine g_get (j := 14) cok8 (by decide) (.int (sI st 38 14)) (Or.inl tw4_189) oS38 (fun _ => rfl) dX8_fault_1 ?_
  exact g_iret B.2.2.2 B.2.2.1 (congrArg (fun z => some (Value.int z)) hf.symm) rfl dX8_fault_4
theorem kX8_fault {l : Launch} {E : Ev} {st : St}  {r0 : Int32}  (hf : fX8_fault st = r0) : CM l E WT yX8_fault cX8_fault 1 (some FieldType.int) 0 0 0 [.ref (eB E + 38)] st (some (.int r0)) st :=
  CM.intro mok_X8_fault (Nat.le_of_ble_eq_true rfl) (fun x hl hR ht hr hQ _ => wX8_fault ⟨hR, ht, hr, hQ⟩  hf)
def fX8_isLaw (st : St) (p1 : Int32) : Int32 :=
  fX8_lies p1 (-1 : Int32) ((sI st 40 18) - (1 : Int32))
set_option maxHeartbeats 1000000 in
set_option maxRecDepth 20000 in
theorem wX8_isLaw {E : Ev} {x : Cx} {r0 : Int32} {st : St} (B : Bd E x (some FieldType.boolean) (1) 0 0 (some (.int r0)) st) (p1 : Int32)  (hf : fX8_isLaw st p1 = r0) : G E WT x RX8 cX8_isLaw 2 (0, 0) st 0 [(0, .ref (eB E + 38)), (1, .int p1)] [] := by
  unfold fX8_isLaw at hf
  refine g_iload_n rfl 1 rfl dX8_isLaw_0 ?_
  refine g_iconst (-1 : Int32) (by decide) dX8_isLaw_1 ?_
  refine g_aload_n rfl 0 rfl dX8_isLaw_2 ?_
  refine g_get (j := 2) cok8 (by decide) (.ref (eB E + 40)) (Or.inl tw4_177) oS38 vS38_2 dX8_isLaw_3 ?_
  refine g_bipush (18 : Int32) (by decide) dX8_isLaw_6 ?_
  refine g_ialdj 18 rfl aS40 (ixb_in rfl) dX8_isLaw_8 ?_
  refine g_iconst (1 : Int32) (by decide) dX8_isLaw_9 ?_
  refine g_isub dX8_isLaw_10 ?_
  refine g_callS0i (As := [.int p1, .int (-1 : Int32), .int ((sI st 40 18) - (1 : Int32))]) (rest := []) mok_X8_lies tw5_118 tw5_119 B.1 (by decide) (kX8_lies  rfl) rfl rfl (Nat.le_of_ble_eq_true rfl) ⟨Nat.le_refl _, Nat.le_refl _⟩ dX8_isLaw_11 ?_
  exact g_zret B.2.2.2 B.2.2.1 (isb_or (fX8_lies_b _ _ _)) (congrArg (fun z => some (Value.int z)) hf.symm) rfl dX8_isLaw_14
theorem kX8_isLaw {l : Launch} {E : Ev} {st : St} {p1 : Int32} {r0 : Int32}  (hf : fX8_isLaw st p1 = r0) : CM l E WT yX8_isLaw cX8_isLaw 2 (some FieldType.boolean) 1 0 0 [.ref (eB E + 38), .int p1] st (some (.int r0)) st :=
  CM.intro mok_X8_isLaw (Nat.le_of_ble_eq_true rfl) (fun x hl hR ht hr hQ _ => wX8_isLaw ⟨hR, ht, hr, hQ⟩ p1 hf)
theorem fX8_isLaw_b (st : St) (p1 : Int32) : isb (fX8_isLaw st p1) = true := by
  unfold fX8_isLaw
  (repeat' split) <;> first | rfl | exact fX8_lies_b _ _ _
def fX8_force (p1 : Int32) (st : St) : Option (Int32 × St) :=
  if (fX8_isLaw st p1) = 0 then (fX8_refuses (-2 : Int32) st) else (fX8_good (sI st 40 19) (pI st 40 19 p1))
set_option maxHeartbeats 1000000 in
set_option maxRecDepth 20000 in
theorem wX8_force {E : Ev} {x : Cx} {r0 : Int32} {u0 : St} (B : Bd E x (some FieldType.int) (2) 0 0 (some (.int r0)) u0) (p1 : Int32) (st : St)  (hf : fX8_force p1 st = some (r0, u0)) : G E WT x RX8 cX8_force 3 (0, 0) st 0 [(0, .ref (eB E + 38)), (1, .int p1)] [] := by
  unfold fX8_force at hf
  refine g_aload_n rfl 0 rfl dX8_force_0 ?_
  refine g_iload_n rfl 1 rfl dX8_force_1 ?_
  refine g_callV0i (As := [.int p1]) (rest := []) cok8 mok_X8_isLaw tw6_53 tw6_55 ts6_13 oS38 B.1 (by decide) (kX8_isLaw  rfl) rfl rfl (Nat.le_of_ble_eq_true rfl) ⟨Nat.le_refl _, Nat.le_refl _⟩ dX8_force_2 ?_
  refine g_if_ne 15 (by decide) dX8_force_5 (fun h1 => ?_) (fun h1 => ?_)
  · rw [if_neg h1] at hf
    refine g_aload_n rfl 0 rfl dX8_force_15 ?_
    refine g_get (j := 2) cok8 (by decide) (.ref (eB E + 40)) (Or.inl tw4_177) oS38 vS38_2 dX8_force_16 ?_
    refine g_bipush (19 : Int32) (by decide) dX8_force_19 ?_
    refine g_ialdj 19 rfl aS40 (ixb_in rfl) dX8_force_21 ?_
    refine g_istore_n rfl [(2, .int (sI st 40 19)), (0, .ref (eB E + 38)), (1, .int p1)] (by decide) rfl dX8_force_22 ?_
    refine g_aload_n rfl 1 rfl dX8_force_23 ?_
    refine g_get (j := 2) cok8 (by decide) (.ref (eB E + 40)) (Or.inl tw4_177) oS38 vS38_2 dX8_force_24 ?_
    refine g_bipush (19 : Int32) (by decide) dX8_force_27 ?_
    refine g_iload_n rfl 2 rfl dX8_force_29 ?_
    refine g_iastj 19 rfl aS40 (ixb_in rfl) B.2.1 wpI dX8_force_30 ?_
    refine g_aload_n rfl 1 rfl dX8_force_31 ?_
    refine g_iload_n rfl 0 rfl dX8_force_32 ?_
    refine g_callV0i (As := [.int (sI st 40 19)]) (rest := []) cok8 mok_X8_good tw5_125 tw5_127 ts5_4 oS38 B.1 (by decide) (kX8_good  hf) rfl rfl (Nat.le_of_ble_eq_true rfl) ⟨Nat.le_refl _, Nat.le_refl _⟩ dX8_force_33 ?_
    exact g_iret B.2.2.2 B.2.2.1 rfl rfl dX8_force_36
  · rw [if_pos h1] at hf
    refine g_aload_n rfl 0 rfl dX8_force_8 ?_
    refine g_bipush (-2 : Int32) (by decide) dX8_force_9 ?_
    refine g_callV0i (As := [.int (-2 : Int32)]) (rest := []) cok8 mok_X8_refuses tw5_121 tw5_123 ts5_3 oS38 B.1 (by decide) (kX8_refuses  hf) rfl rfl (Nat.le_of_ble_eq_true rfl) ⟨Nat.le_refl _, Nat.le_refl _⟩ dX8_force_11 ?_
    exact g_iret B.2.2.2 B.2.2.1 rfl rfl dX8_force_14
theorem kX8_force {l : Launch} {E : Ev} {st : St} {p1 : Int32} {r0 : Int32} {u0 : St}  (hf : fX8_force p1 st = some (r0, u0)) : CM l E WT yX8_force cX8_force 3 (some FieldType.int) 2 0 0 [.ref (eB E + 38), .int p1] st (some (.int r0)) u0 :=
  CM.intro mok_X8_force (Nat.le_of_ble_eq_true rfl) (fun x hl hR ht hr hQ _ => wX8_force ⟨hR, ht, hr, hQ⟩ p1 st hf)
def fX8_codeAt (st : St) (p1 : Int32) : Option Int32 :=
  if (sI st 38 23) ≤ p1 then (some (0 : Int32)) else (chk (ixb ((27 : Int32) + p1) 5627) (some (sI st 40 (((27 : Int32) + p1).toNatClampNeg))))
set_option maxHeartbeats 1000000 in
set_option maxRecDepth 20000 in
theorem wX8_codeAt {E : Ev} {x : Cx} {r0 : Int32} {st : St} (B : Bd E x (some FieldType.int) (0) 0 0 (some (.int r0)) st) (p1 : Int32)  (hf : fX8_codeAt st p1 = some r0) : G E WT x RX8 cX8_codeAt 2 (0, 0) st 0 [(0, .ref (eB E + 38)), (1, .int p1)] [] := by
  unfold fX8_codeAt at hf
  refine g_iload_n rfl 1 rfl dX8_codeAt_0 ?_
  refine g_aload_n rfl 0 rfl dX8_codeAt_1 ?_
  refine g_get (j := 23) cok8 (by decide) (.int (sI st 38 23)) (Or.inl tw4_198) oS38 (fun _ => rfl) dX8_codeAt_2 ?_
  refine g_icmp_ge 20 (by decide) dX8_codeAt_5 (fun h1 => ?_) (fun h1 => ?_)
  · rw [if_pos h1] at hf
    refine g_iconst (0 : Int32) (by decide) dX8_codeAt_20 ?_
    exact g_iret B.2.2.2 B.2.2.1 (congrArg (fun z => some (Value.int z)) (Option.some.inj hf).symm) rfl dX8_codeAt_21
  · rw [if_neg h1] at hf
    refine g_aload_n rfl 0 rfl dX8_codeAt_8 ?_
    refine g_get (j := 2) cok8 (by decide) (.ref (eB E + 40)) (Or.inl tw4_177) oS38 vS38_2 dX8_codeAt_9 ?_
    refine g_bipush (27 : Int32) (by decide) dX8_codeAt_12 ?_
    refine g_iload_n rfl 1 rfl dX8_codeAt_14 ?_
    refine g_iadd dX8_codeAt_15 ?_
    obtain ⟨h2, hf⟩ := chk_some hf
    refine g_ialdj (((27 : Int32) + p1).toNatClampNeg) rfl aS40 (ixb_in h2) dX8_codeAt_16 ?_
    refine g_goto 21 (by decide) dX8_codeAt_17 ?_
    exact g_iret B.2.2.2 B.2.2.1 (congrArg (fun z => some (Value.int z)) (Option.some.inj hf).symm) rfl dX8_codeAt_21
theorem kX8_codeAt {l : Launch} {E : Ev} {st : St} {p1 : Int32} {r0 : Int32}  (hf : fX8_codeAt st p1 = some r0) : CM l E WT yX8_codeAt cX8_codeAt 2 (some FieldType.int) 0 0 0 [.ref (eB E + 38), .int p1] st (some (.int r0)) st :=
  CM.intro mok_X8_codeAt (Nat.le_of_ble_eq_true rfl) (fun x hl hR ht hr hQ _ => wX8_codeAt ⟨hR, ht, hr, hQ⟩ p1 hf)
def fX8_passes0_b17 (s0 : Int32) (st : St) : Option (Int32 × St) :=
  if s0 = 0 then (chk (isb s0) (some (s0, st))) else (chk (isb s0) (some (s0, pI st 38 22 ((sI st 38 22) + (1 : Int32)))))
set_option maxHeartbeats 1000000 in
set_option maxRecDepth 20000 in
theorem wX8_passes0_b17 {E : Ev} {x : Cx} {r0 : Int32} {u0 : St} (B : Bd E x (some FieldType.boolean) (1) 0 0 (some (.int r0)) u0) (s0 : Int32) (st : St)  (hf : fX8_passes0_b17 s0 st = some (r0, u0)) : G E WT x RX8 cX8_passes0 3 (0, 0) st 17 [(0, .ref (eB E + 38))] [.int s0] := by
  unfold fX8_passes0_b17 at hf
  refine g_istore_n rfl [(2, .int s0), (0, .ref (eB E + 38))] (by decide) rfl dX8_passes0_17 ?_
  refine g_iload_n rfl 0 rfl dX8_passes0_18 ?_
  refine g_if_eq 32 (by decide) dX8_passes0_19 (fun h1 => ?_) (fun h1 => ?_)
  · rw [if_pos h1] at hf
    refine g_iload_n rfl 0 rfl dX8_passes0_32 ?_
    obtain ⟨h2, hf⟩ := chk_some hf
    exact g_zret B.2.2.2 B.2.2.1 (isb_or h2) (congrArg (fun z => some (Value.int z)) (Prod.mk.inj (Option.some.inj hf)).1.symm) (Prod.mk.inj (Option.some.inj hf)).2.symm dX8_passes0_33
  · rw [if_neg h1] at hf
    refine g_aload_n rfl 1 rfl dX8_passes0_22 ?_
    refine g_dup rfl dX8_passes0_23 ?_
    refine g_get (j := 22) cok8 (by decide) (.int (sI st 38 22)) (Or.inl tw4_197) oS38 (fun _ => rfl) dX8_passes0_24 ?_
    refine g_iconst (1 : Int32) (by decide) dX8_passes0_27 ?_
    refine g_iadd dX8_passes0_28 ?_
    refine g_putI (j := 22) cok8 (by decide) rfl rfl rfl rfl (Or.inl tw4_197) oS38 B.2.1 wpI dX8_passes0_29 ?_
    refine g_iload_n rfl 0 rfl dX8_passes0_32 ?_
    obtain ⟨h3, hf⟩ := chk_some hf
    exact g_zret B.2.2.2 B.2.2.1 (isb_or h3) (congrArg (fun z => some (Value.int z)) (Prod.mk.inj (Option.some.inj hf)).1.symm) (Prod.mk.inj (Option.some.inj hf)).2.symm dX8_passes0_33
def fX8_passes0 (p1 : Int32) (st : St) : Option (Int32 × St) :=
  (fX8_codeAt st (sI st 38 22)).bind (fun q1 => if q1 = p1 then (fX8_passes0_b17 (1 : Int32) st) else (fX8_passes0_b17 (0 : Int32) st))
set_option maxHeartbeats 1000000 in
set_option maxRecDepth 20000 in
theorem wX8_passes0 {E : Ev} {x : Cx} {r0 : Int32} {u0 : St} (B : Bd E x (some FieldType.boolean) (1) 0 0 (some (.int r0)) u0) (p1 : Int32) (st : St)  (hf : fX8_passes0 p1 st = some (r0, u0)) : G E WT x RX8 cX8_passes0 3 (0, 0) st 0 [(0, .ref (eB E + 38)), (1, .int p1)] [] := by
  unfold fX8_passes0 at hf
  refine g_aload_n rfl 0 rfl dX8_passes0_0 ?_
  refine g_aload_n rfl 0 rfl dX8_passes0_1 ?_
  refine g_get (j := 22) cok8 (by decide) (.int (sI st 38 22)) (Or.inl tw4_197) oS38 (fun _ => rfl) dX8_passes0_2 ?_
  obtain ⟨q1, h2, hf⟩ := bnd_some hf
  refine g_callV0i (As := [.int (sI st 38 22)]) (rest := []) cok8 mok_X8_codeAt tw6_80 tw6_82 ts7_2 oS38 B.1 (by decide) (kX8_codeAt  h2) rfl rfl (Nat.le_of_ble_eq_true rfl) ⟨Nat.le_refl _, Nat.le_refl _⟩ dX8_passes0_5 ?_
  refine g_iload_n rfl 1 rfl dX8_passes0_8 ?_
  refine g_icmp_ne 16 (by decide) dX8_passes0_9 (fun h3 => ?_) (fun h3 => ?_)
  · rw [if_neg h3] at hf
    refine g_iconst (0 : Int32) (by decide) dX8_passes0_16 ?_
    refine g_lvs [0] rfl ?_
    exact wX8_passes0_b17 B  (0 : Int32) st hf
  · rw [if_pos h3] at hf
    refine g_iconst (1 : Int32) (by decide) dX8_passes0_12 ?_
    refine g_goto 17 (by decide) dX8_passes0_13 ?_
    refine g_lvs [0] rfl ?_
    exact wX8_passes0_b17 B  (1 : Int32) st hf
theorem kX8_passes0 {l : Launch} {E : Ev} {st : St} {p1 : Int32} {r0 : Int32} {u0 : St}  (hf : fX8_passes0 p1 st = some (r0, u0)) : CM l E WT yX8_passes0 cX8_passes0 3 (some FieldType.boolean) 1 0 0 [.ref (eB E + 38), .int p1] st (some (.int r0)) u0 :=
  CM.intro mok_X8_passes0 (Nat.le_of_ble_eq_true rfl) (fun x hl hR ht hr hQ _ => wX8_passes0 ⟨hR, ht, hr, hQ⟩ p1 st hf)
def fX8_bounded_b25 (l1 : Int64) (st : St) : Option (Int64 × St) :=
  if (sI st 38 24) = 0 then (some (l1, st)) else (some ((0 : Int64), st))
set_option maxHeartbeats 1000000 in
set_option maxRecDepth 20000 in
theorem wX8_bounded_b25 {E : Ev} {x : Cx} {r0 : Int64} {u0 : St} (B : Bd E x (some FieldType.long) (0) 0 0 (some (.long r0)) u0) (l1 : Int64) (st : St)  (hf : fX8_bounded_b25 l1 st = some (r0, u0)) : G E WT x RX8 cX8_bounded 4 (0, 0) st 25 [(0, .ref (eB E + 38)), (1, .long l1)] [] := by
  unfold fX8_bounded_b25 at hf
  refine g_aload_n rfl 0 rfl dX8_bounded_25 ?_
  refine g_get (j := 24) cok8 (by decide) (.int (sI st 38 24)) (Or.inl tw4_199) oS38 (fun _ => rfl) dX8_bounded_26 ?_
  refine g_if_eq 36 (by decide) dX8_bounded_29 (fun h1 => ?_) (fun h1 => ?_)
  · rw [if_pos h1] at hf
    refine g_lload_n rfl 1 rfl dX8_bounded_36 ?_
    exact g_lret B.2.2.2 B.2.2.1 (congrArg (fun z => some (Value.long z)) (Prod.mk.inj (Option.some.inj hf)).1.symm) (Prod.mk.inj (Option.some.inj hf)).2.symm dX8_bounded_37
  · rw [if_neg h1] at hf
    refine g_lconst (0 : Int64) (by decide) dX8_bounded_32 ?_
    refine g_goto 37 (by decide) dX8_bounded_33 ?_
    exact g_lret B.2.2.2 B.2.2.1 (congrArg (fun z => some (Value.long z)) (Prod.mk.inj (Option.some.inj hf)).1.symm) (Prod.mk.inj (Option.some.inj hf)).2.symm dX8_bounded_37
def fX8_bounded_b20 (l1 : Int64) (st : St) : Option (Int64 × St) :=
  fX8_bounded_b25 l1 (pI st 38 24 (1 : Int32))
set_option maxHeartbeats 1000000 in
set_option maxRecDepth 20000 in
theorem wX8_bounded_b20 {E : Ev} {x : Cx} {r0 : Int64} {u0 : St} (B : Bd E x (some FieldType.long) (0) 0 0 (some (.long r0)) u0) (l1 : Int64) (st : St)  (hf : fX8_bounded_b20 l1 st = some (r0, u0)) : G E WT x RX8 cX8_bounded 4 (0, 0) st 20 [(0, .ref (eB E + 38)), (1, .long l1)] [] := by
  unfold fX8_bounded_b20 at hf
  refine g_aload_n rfl 0 rfl dX8_bounded_20 ?_
  refine g_iconst (1 : Int32) (by decide) dX8_bounded_21 ?_
  refine g_putI (j := 24) cok8 (by decide) rfl rfl (nb_n (by decide)) (nb_f (by decide)) (Or.inl tw4_199) oS38 B.2.1 wpI dX8_bounded_22 ?_
  refine g_lvs [0, 1] rfl ?_
  exact wX8_bounded_b25 B  l1 (pI st 38 24 (1 : Int32)) hf
def fX8_bounded (p1 : Int64) (p2 : Int32) (st : St) : Option (Int64 × St) :=
  if p2 = 0 then (fX8_bounded_b25 p1 st) else (if 0 < (lg_cmp p1 (1000000000 : Int64)) then (fX8_bounded_b20 p1 st) else (if 0 ≤ (lg_cmp p1 (-1000000000 : Int64)) then (fX8_bounded_b25 p1 st) else (fX8_bounded_b20 p1 st)))
set_option maxHeartbeats 1000000 in
set_option maxRecDepth 20000 in
theorem wX8_bounded {E : Ev} {x : Cx} {r0 : Int64} {u0 : St} (B : Bd E x (some FieldType.long) (0) 0 0 (some (.long r0)) u0) (p1 : Int64) (p2 : Int32) (st : St)  (hf : fX8_bounded p1 p2 st = some (r0, u0)) : G E WT x RX8 cX8_bounded 4 (0, 0) st 0 [(0, .ref (eB E + 38)), (1, .long p1), (3, .int p2)] [] := by
  unfold fX8_bounded at hf
  refine g_iload_n rfl 2 rfl dX8_bounded_0 ?_
  refine g_if_eq 25 (by decide) dX8_bounded_1 (fun h1 => ?_) (fun h1 => ?_)
  · rw [if_pos h1] at hf
    refine g_lvs [0, 1] rfl ?_
    exact wX8_bounded_b25 B  p1 st hf
  · rw [if_neg h1] at hf
    refine g_lload_n rfl 1 rfl dX8_bounded_4 ?_
    refine g_ldc2 tw6_109 dX8_bounded_5 ?_
    refine g_lcmp dX8_bounded_8 ?_
    refine g_if_gt 20 (by decide) dX8_bounded_9 (fun h2 => ?_) (fun h2 => ?_)
    · rw [if_pos h2] at hf
      refine g_lvs [0, 1] rfl ?_
      exact wX8_bounded_b20 B  p1 st hf
    · rw [if_neg h2] at hf
      refine g_lload_n rfl 1 rfl dX8_bounded_12 ?_
      refine g_ldc2 tw6_110 dX8_bounded_13 ?_
      refine g_lcmp dX8_bounded_16 ?_
      refine g_if_ge 25 (by decide) dX8_bounded_17 (fun h3 => ?_) (fun h3 => ?_)
      · rw [if_pos h3] at hf
        refine g_lvs [0, 1] rfl ?_
        exact wX8_bounded_b25 B  p1 st hf
      · rw [if_neg h3] at hf
        refine g_lvs [0, 1] rfl ?_
        exact wX8_bounded_b20 B  p1 st hf
theorem kX8_bounded {l : Launch} {E : Ev} {st : St} {p1 : Int64} {p2 : Int32} {r0 : Int64} {u0 : St}  (hf : fX8_bounded p1 p2 st = some (r0, u0)) : CM l E WT yX8_bounded cX8_bounded 4 (some FieldType.long) 0 0 0 [.ref (eB E + 38), .long p1, .int p2] st (some (.long r0)) u0 :=
  CM.intro mok_X8_bounded (Nat.le_of_ble_eq_true rfl) (fun x hl hR ht hr hQ _ => wX8_bounded ⟨hR, ht, hr, hQ⟩ p1 p2 st hf)
def fX8_orderValue (st : St) (p1 : Int32) (p2 : Int32) : Option Int32 :=
  if p1 = (13 : Int32) then (fX8_of st p2 (0 : Int32)) else (if p1 = (14 : Int32) then (fX8_inside st) else (if p1 = (15 : Int32) then (some (sI st 40 2)) else (if p1 = (16 : Int32) then (some (sI st 38 27)) else (if p1 = (17 : Int32) then (some (sI st 38 28)) else (if p1 = (19 : Int32) then (fX8_of st p2 (1 : Int32)) else (some (sI st 40 1)))))))
set_option maxHeartbeats 1000000 in
set_option maxRecDepth 20000 in
theorem wX8_orderValue {E : Ev} {x : Cx} {r0 : Int32} {st : St} (B : Bd E x (some FieldType.int) (3) 0 0 (some (.int r0)) st) (p1 : Int32) (p2 : Int32)  (hf : fX8_orderValue st p1 p2 = some r0) : G E WT x RX8 cX8_orderValue 3 (0, 0) st 0 [(0, .ref (eB E + 38)), (1, .int p1), (2, .int p2)] [] := by
  unfold fX8_orderValue at hf
  refine g_iload_n rfl 1 rfl dX8_orderValue_0 ?_
  by_cases h1 : p1 = (13 : Int32)
  · rw [if_pos h1] at hf
    refine g_tableIn 43 44 dX8_orderValue_1 (by rw [h1]; decide) (by rw [h1]; decide) (by rw [h1]; decide) (by decide) ?_
    refine g_aload_n rfl 0 rfl dX8_orderValue_44 ?_
    refine g_iload_n rfl 2 rfl dX8_orderValue_45 ?_
    refine g_iconst (0 : Int32) (by decide) dX8_orderValue_46 ?_
    refine g_callV0i (As := [.int p2, .int (0 : Int32)]) (rest := []) cok8 mok_X8_of tw6_104 tw5_146 tw5_147 oS38 B.1 (by decide) (kX8_of  hf) rfl rfl (Nat.le_of_ble_eq_true rfl) ⟨Nat.le_refl _, Nat.le_refl _⟩ dX8_orderValue_47 ?_
    exact g_iret B.2.2.2 B.2.2.1 rfl rfl dX8_orderValue_50
  · rw [if_neg h1] at hf
    by_cases h2 : p1 = (14 : Int32)
    · rw [if_pos h2] at hf
      refine g_tableIn 57 58 dX8_orderValue_1 (by rw [h2]; decide) (by rw [h2]; decide) (by rw [h2]; decide) (by decide) ?_
      refine g_aload_n rfl 0 rfl dX8_orderValue_58 ?_
      refine g_callV0i (As := []) (rest := []) cok8 mok_X8_inside tw6_61 tw6_63 ts6_14 oS38 B.1 (by decide) (kX8_inside  hf) rfl rfl (Nat.le_of_ble_eq_true rfl) ⟨Nat.le_refl _, Nat.le_refl _⟩ dX8_orderValue_59 ?_
      exact g_iret B.2.2.2 B.2.2.1 rfl rfl dX8_orderValue_62
    · rw [if_neg h2] at hf
      by_cases h3 : p1 = (15 : Int32)
      · rw [if_pos h3] at hf
        refine g_tableIn 62 63 dX8_orderValue_1 (by rw [h3]; decide) (by rw [h3]; decide) (by rw [h3]; decide) (by decide) ?_
        refine g_aload_n rfl 0 rfl dX8_orderValue_63 ?_
        refine g_get (j := 2) cok8 (by decide) (.ref (eB E + 40)) (Or.inl tw4_177) oS38 vS38_2 dX8_orderValue_64 ?_
        refine g_iconst (2 : Int32) (by decide) dX8_orderValue_67 ?_
        refine g_ialdj 2 rfl aS40 (ixb_in rfl) dX8_orderValue_68 ?_
        exact g_iret B.2.2.2 B.2.2.1 (congrArg (fun z => some (Value.int z)) (Option.some.inj hf).symm) rfl dX8_orderValue_69
      · rw [if_neg h3] at hf
        by_cases h4 : p1 = (16 : Int32)
        · rw [if_pos h4] at hf
          refine g_tableIn 69 70 dX8_orderValue_1 (by rw [h4]; decide) (by rw [h4]; decide) (by rw [h4]; decide) (by decide) ?_
          refine g_aload_n rfl 0 rfl dX8_orderValue_70 ?_
          refine g_get (j := 27) cok8 (by decide) (.int (sI st 38 27)) (Or.inl tw4_202) oS38 (fun _ => rfl) dX8_orderValue_71 ?_
          exact g_iret B.2.2.2 B.2.2.1 (congrArg (fun z => some (Value.int z)) (Option.some.inj hf).symm) rfl dX8_orderValue_74
        · rw [if_neg h4] at hf
          by_cases h5 : p1 = (17 : Int32)
          · rw [if_pos h5] at hf
            refine g_tableIn 74 75 dX8_orderValue_1 (by rw [h5]; decide) (by rw [h5]; decide) (by rw [h5]; decide) (by decide) ?_
            refine g_aload_n rfl 0 rfl dX8_orderValue_75 ?_
            refine g_get (j := 28) cok8 (by decide) (.int (sI st 38 28)) (Or.inl tw4_203) oS38 (fun _ => rfl) dX8_orderValue_76 ?_
            exact g_iret B.2.2.2 B.2.2.1 (congrArg (fun z => some (Value.int z)) (Option.some.inj hf).symm) rfl dX8_orderValue_79
          · rw [if_neg h5] at hf
            by_cases h6 : p1 = (19 : Int32)
            · rw [if_pos h6] at hf
              refine g_tableIn 50 51 dX8_orderValue_1 (by rw [h6]; decide) (by rw [h6]; decide) (by rw [h6]; decide) (by decide) ?_
              refine g_aload_n rfl 0 rfl dX8_orderValue_51 ?_
              refine g_iload_n rfl 2 rfl dX8_orderValue_52 ?_
              refine g_iconst (1 : Int32) (by decide) dX8_orderValue_53 ?_
              refine g_callV0i (As := [.int p2, .int (1 : Int32)]) (rest := []) cok8 mok_X8_of tw6_104 tw5_146 tw5_147 oS38 B.1 (by decide) (kX8_of  hf) rfl rfl (Nat.le_of_ble_eq_true rfl) ⟨Nat.le_refl _, Nat.le_refl _⟩ dX8_orderValue_54 ?_
              exact g_iret B.2.2.2 B.2.2.1 rfl rfl dX8_orderValue_57
            · rw [if_neg h6] at hf
              refine g_tabDef 7 80 [(13 : Int32), (14 : Int32), (15 : Int32), (16 : Int32), (17 : Int32), (19 : Int32)] dX8_orderValue_1 (by decide) (by simp only [List.forall_mem_cons]; exact ⟨h1, h2, h3, h4, h5, h6, fun _ h => nomatch h⟩) (by decide) (by decide) ?_
              refine g_aload_n rfl 0 rfl dX8_orderValue_80 ?_
              refine g_get (j := 2) cok8 (by decide) (.ref (eB E + 40)) (Or.inl tw4_177) oS38 vS38_2 dX8_orderValue_81 ?_
              refine g_iconst (1 : Int32) (by decide) dX8_orderValue_84 ?_
              refine g_ialdj 1 rfl aS40 (ixb_in rfl) dX8_orderValue_85 ?_
              exact g_iret B.2.2.2 B.2.2.1 (congrArg (fun z => some (Value.int z)) (Option.some.inj hf).symm) rfl dX8_orderValue_86
theorem kX8_orderValue {l : Launch} {E : Ev} {st : St} {p1 : Int32} {p2 : Int32} {r0 : Int32}  (hf : fX8_orderValue st p1 p2 = some r0) : CM l E WT yX8_orderValue cX8_orderValue 3 (some FieldType.int) 3 0 0 [.ref (eB E + 38), .int p1, .int p2] st (some (.int r0)) st :=
  CM.intro mok_X8_orderValue (Nat.le_of_ble_eq_true rfl) (fun x hl hR ht hr hQ _ => wX8_orderValue ⟨hR, ht, hr, hQ⟩ p1 p2 hf)
abbrev TG1 : Type := (Int32 → St → Option (Int64 × St)) × (Int32 → St → Option (Int64 × St)) × (Int32 → St → Option (Int64 × St))
def RcOK1 (l : Launch) (E : Ev) (rc : TG1) (d : Nat) : Prop := (∀ {st : St} {p1 : Int32} {r0 : Int64} {u0 : St}, rc.1 p1 st = some (r0, u0) → CM l E WT yX8_sumOf cX8_sumOf 7 (some FieldType.long) (4 + d) 0 0 [.ref (eB E + 38), .int p1] st (some (.long r0)) u0) ∧ (∀ {st : St} {p1 : Int32} {r0 : Int64} {u0 : St}, rc.2.1 p1 st = some (r0, u0) → CM l E WT yX8_termOf cX8_termOf 7 (some FieldType.long) (4 + d) 0 0 [.ref (eB E + 38), .int p1] st (some (.long r0)) u0) ∧ (∀ {st : St} {p1 : Int32} {r0 : Int64} {u0 : St}, rc.2.2 p1 st = some (r0, u0) → CM l E WT yX8_partOf cX8_partOf 4 (some FieldType.long) (4 + d) 0 0 [.ref (eB E + 38), .int p1] st (some (.long r0)) u0)
def fX8_sumOf_b95 (rc : TG1) (k6 : Int32 → Int64 → St → Option (Int64 × St))(l1 : Int32) (s1 : Int64) (st : St) : Option (Int64 × St) :=
  (fX8_bounded s1 l1 st).bind (fun q1 => k6 l1 q1.1 q1.2)
set_option maxHeartbeats 1000000 in
set_option maxRecDepth 20000 in
theorem wX8_sumOf_b95 {E : Ev} {x : Cx} {rc : TG1} {d : Nat} (hrc : RcOK1 (xl x) E rc d) {r0 : Int64} {u0 : St} (B : Bd E x (some FieldType.long) (4 + d + 1) 0 0 (some (.long r0)) u0) {k6 : Int32 → Int64 → St → Option (Int64 × St)} (hk6 : ∀ (l1 : Int32) (l2 : Int64) (st : St), k6 l1 l2 st = some (r0, u0) → G E WT x RX8 cX8_sumOf 7 (0, 0) st 6 [(0, .ref (eB E + 38)), (1, .int l1), (2, .long l2)] []) (l1 : Int32) (s1 : Int64) (st : St)  (hf : fX8_sumOf_b95 rc k6 l1 s1 st = some (r0, u0)) : G E WT x RX8 cX8_sumOf 7 (0, 0) st 95 [(0, .ref (eB E + 38)), (1, .int l1)] [.long s1, .ref (eB E + 38)] := by
  unfold fX8_sumOf_b95 at hf
  refine g_iload_n rfl 1 rfl dX8_sumOf_95 ?_
  obtain ⟨q1, h2, hf⟩ := bnd_some hf
  refine g_callV0l (As := [.long s1, .int l1]) (rest := []) cok8 mok_X8_bounded tw6_105 tw6_107 ts7_8 oS38 B.1 (by omega) (kX8_bounded  h2) rfl rfl (Nat.le_of_ble_eq_true rfl) ⟨Nat.le_refl _, Nat.le_refl _⟩ dX8_sumOf_96 ?_
  refine g_lstore_n rfl [(2, .long q1.1), (0, .ref (eB E + 38)), (1, .int l1)] (by decide) rfl dX8_sumOf_99 ?_
  refine g_goto 6 (by decide) dX8_sumOf_100 ?_
  refine g_lvs [1, 2, 0] rfl ?_
  exact hk6 l1 q1.1 q1.2 hf
def fX8_sumOf_b59 (rc : TG1) (k6 : Int32 → Int64 → St → Option (Int64 × St))(l1 : Int32) (l2 : Int64) (s0 : Int32) (st : St) : Option (Int64 × St) :=
  (rc.2.1 l1 (pI st 38 22 ((sI st 38 22) + (1 : Int32)))).bind (fun q1 => if s0 = 0 then (fX8_sumOf_b95 rc k6 l1 (l2 - q1.1) q1.2) else (fX8_sumOf_b95 rc k6 l1 (l2 + q1.1) q1.2))
set_option maxHeartbeats 1000000 in
set_option maxRecDepth 20000 in
theorem wX8_sumOf_b59 {E : Ev} {x : Cx} {rc : TG1} {d : Nat} (hrc : RcOK1 (xl x) E rc d) {r0 : Int64} {u0 : St} (B : Bd E x (some FieldType.long) (4 + d + 1) 0 0 (some (.long r0)) u0) {k6 : Int32 → Int64 → St → Option (Int64 × St)} (hk6 : ∀ (l1 : Int32) (l2 : Int64) (st : St), k6 l1 l2 st = some (r0, u0) → G E WT x RX8 cX8_sumOf 7 (0, 0) st 6 [(0, .ref (eB E + 38)), (1, .int l1), (2, .long l2)] []) (l1 : Int32) (l2 : Int64) (s0 : Int32) (st : St)  (hf : fX8_sumOf_b59 rc k6 l1 l2 s0 st = some (r0, u0)) : G E WT x RX8 cX8_sumOf 7 (0, 0) st 59 [(0, .ref (eB E + 38)), (1, .int l1), (2, .long l2)] [.int s0] := by
  unfold fX8_sumOf_b59 at hf
  refine g_istore [(4, .int s0), (0, .ref (eB E + 38)), (1, .int l1), (2, .long l2)] (by decide) rfl dX8_sumOf_59 ?_
  refine g_aload_n rfl 1 rfl dX8_sumOf_61 ?_
  refine g_dup rfl dX8_sumOf_62 ?_
  refine g_get (j := 22) cok8 (by decide) (.int (sI st 38 22)) (Or.inl tw4_197) oS38 (fun _ => rfl) dX8_sumOf_63 ?_
  refine g_iconst (1 : Int32) (by decide) dX8_sumOf_66 ?_
  refine g_iadd dX8_sumOf_67 ?_
  refine g_putI (j := 22) cok8 (by decide) rfl rfl rfl rfl (Or.inl tw4_197) oS38 B.2.1 wpI dX8_sumOf_68 ?_
  refine g_aload_n rfl 1 rfl dX8_sumOf_71 ?_
  refine g_iload_n rfl 2 rfl dX8_sumOf_72 ?_
  obtain ⟨q1, h2, hf⟩ := bnd_some hf
  refine g_callV0l (As := [.int l1]) (rest := []) cok8 mok_X8_termOf tw6_88 tw6_90 ts7_4 oS38 B.1 (by omega) (hrc.2.1 h2) rfl rfl (Nat.le_of_ble_eq_true rfl) ⟨Nat.le_refl _, Nat.le_refl _⟩ dX8_sumOf_73 ?_
  refine g_lstore [(5, .long q1.1), (4, .int s0), (0, .ref (eB E + 38)), (1, .int l1), (2, .long l2)] (by decide) rfl dX8_sumOf_76 ?_
  refine g_aload_n rfl 2 rfl dX8_sumOf_78 ?_
  refine g_iload 1 rfl dX8_sumOf_79 ?_
  refine g_if_eq 91 (by decide) dX8_sumOf_81 (fun h3 => ?_) (fun h3 => ?_)
  · rw [if_pos h3] at hf
    refine g_lload_n rfl 4 rfl dX8_sumOf_91 ?_
    refine g_lload 0 rfl dX8_sumOf_92 ?_
    refine g_lsub dX8_sumOf_94 ?_
    refine g_lvs [2, 3] rfl ?_
    exact wX8_sumOf_b95 hrc B hk6 l1 (l2 - q1.1) q1.2 hf
  · rw [if_neg h3] at hf
    refine g_lload_n rfl 4 rfl dX8_sumOf_84 ?_
    refine g_lload 0 rfl dX8_sumOf_85 ?_
    refine g_ladd dX8_sumOf_87 ?_
    refine g_goto 95 (by decide) dX8_sumOf_88 ?_
    refine g_lvs [2, 3] rfl ?_
    exact wX8_sumOf_b95 hrc B hk6 l1 (l2 + q1.1) q1.2 hf
def fX8_sumOf_b38 (rc : TG1) (k6 : Int32 → Int64 → St → Option (Int64 × St))(l1 : Int32) (l2 : Int64) (st : St) : Option (Int64 × St) :=
  (fX8_codeAt st (sI st 38 22)).bind (fun q1 => if q1 = (fX8_sign (43 : Int32)) then (fX8_sumOf_b59 rc k6 l1 l2 (1 : Int32) st) else (fX8_sumOf_b59 rc k6 l1 l2 (0 : Int32) st))
set_option maxHeartbeats 1000000 in
set_option maxRecDepth 20000 in
theorem wX8_sumOf_b38 {E : Ev} {x : Cx} {rc : TG1} {d : Nat} (hrc : RcOK1 (xl x) E rc d) {r0 : Int64} {u0 : St} (B : Bd E x (some FieldType.long) (4 + d + 1) 0 0 (some (.long r0)) u0) {k6 : Int32 → Int64 → St → Option (Int64 × St)} (hk6 : ∀ (l1 : Int32) (l2 : Int64) (st : St), k6 l1 l2 st = some (r0, u0) → G E WT x RX8 cX8_sumOf 7 (0, 0) st 6 [(0, .ref (eB E + 38)), (1, .int l1), (2, .long l2)] []) (l1 : Int32) (l2 : Int64) (st : St)  (hf : fX8_sumOf_b38 rc k6 l1 l2 st = some (r0, u0)) : G E WT x RX8 cX8_sumOf 7 (0, 0) st 38 [(0, .ref (eB E + 38)), (1, .int l1), (2, .long l2)] [] := by
  unfold fX8_sumOf_b38 at hf
  refine g_aload_n rfl 0 rfl dX8_sumOf_38 ?_
  refine g_aload_n rfl 0 rfl dX8_sumOf_39 ?_
  refine g_get (j := 22) cok8 (by decide) (.int (sI st 38 22)) (Or.inl tw4_197) oS38 (fun _ => rfl) dX8_sumOf_40 ?_
  obtain ⟨q1, h2, hf⟩ := bnd_some hf
  refine g_callV0i (As := [.int (sI st 38 22)]) (rest := []) cok8 mok_X8_codeAt tw6_80 tw6_82 ts7_2 oS38 B.1 (by omega) (kX8_codeAt  h2) rfl rfl (Nat.le_of_ble_eq_true rfl) ⟨Nat.le_refl _, Nat.le_refl _⟩ dX8_sumOf_43 ?_
  refine g_bipush (43 : Int32) (by decide) dX8_sumOf_46 ?_
  refine g_callS0i (As := [.int (43 : Int32)]) (rest := [.int q1]) mok_X8_sign tw6_6 tw6_7 B.1 (by omega) (kX8_sign  rfl) rfl rfl (Nat.le_of_ble_eq_true rfl) ⟨Nat.le_refl _, Nat.le_refl _⟩ dX8_sumOf_48 ?_
  refine g_icmp_ne 58 (by decide) dX8_sumOf_51 (fun h3 => ?_) (fun h3 => ?_)
  · rw [if_neg h3] at hf
    refine g_iconst (0 : Int32) (by decide) dX8_sumOf_58 ?_
    refine g_lvs [0, 1, 2] rfl ?_
    exact wX8_sumOf_b59 hrc B hk6 l1 l2 (0 : Int32) st hf
  · rw [if_pos h3] at hf
    refine g_iconst (1 : Int32) (by decide) dX8_sumOf_54 ?_
    refine g_goto 59 (by decide) dX8_sumOf_55 ?_
    refine g_lvs [0, 1, 2] rfl ?_
    exact wX8_sumOf_b59 hrc B hk6 l1 l2 (1 : Int32) st hf
def fX8_sumOf_b6 (rc : TG1)  : Nat → Int32 → Int64 → St → Option (Int64 × St)
  | 0, _, _, _ => none
  | n + 1, l1, l2, st => (fX8_codeAt st (sI st 38 22)).bind (fun q1 => if q1 = (fX8_sign (43 : Int32)) then (fX8_sumOf_b38 rc (fun zl1 zl2 zst => fX8_sumOf_b6 rc n zl1 zl2 zst) l1 l2 st) else ((fX8_codeAt st (sI st 38 22)).bind (fun q4 => if q4 = (fX8_sign (45 : Int32)) then (fX8_sumOf_b38 rc (fun zl1 zl2 zst => fX8_sumOf_b6 rc n zl1 zl2 zst) l1 l2 st) else (some (l2, st)))))
set_option maxHeartbeats 1000000 in
set_option maxRecDepth 20000 in
theorem wX8_sumOf_b6 {E : Ev} {x : Cx} {rc : TG1} {d : Nat} (hrc : RcOK1 (xl x) E rc d) {r0 : Int64} {u0 : St} (B : Bd E x (some FieldType.long) (4 + d + 1) 0 0 (some (.long r0)) u0) : ∀ (n : Nat) (l1 : Int32) (l2 : Int64) (st : St) , fX8_sumOf_b6 rc n l1 l2 st = some (r0, u0) → G E WT x RX8 cX8_sumOf 7 (0, 0) st 6 [(0, .ref (eB E + 38)), (1, .int l1), (2, .long l2)] [] := by
  intro n
  induction n with
  | zero =>
    intros
    rename_i hf
    rw [fX8_sumOf_b6] at hf
    cases hf
  | succ n ih =>
    intro l1 l2 st hf
    rw [fX8_sumOf_b6] at hf
    refine g_aload_n rfl 0 rfl dX8_sumOf_6 ?_
    refine g_aload_n rfl 0 rfl dX8_sumOf_7 ?_
    refine g_get (j := 22) cok8 (by decide) (.int (sI st 38 22)) (Or.inl tw4_197) oS38 (fun _ => rfl) dX8_sumOf_8 ?_
    obtain ⟨q1, h2, hf⟩ := bnd_some hf
    refine g_callV0i (As := [.int (sI st 38 22)]) (rest := []) cok8 mok_X8_codeAt tw6_80 tw6_82 ts7_2 oS38 B.1 (by omega) (kX8_codeAt  h2) rfl rfl (Nat.le_of_ble_eq_true rfl) ⟨Nat.le_refl _, Nat.le_refl _⟩ dX8_sumOf_11 ?_
    refine g_bipush (43 : Int32) (by decide) dX8_sumOf_14 ?_
    refine g_callS0i (As := [.int (43 : Int32)]) (rest := [.int q1]) mok_X8_sign tw6_6 tw6_7 B.1 (by omega) (kX8_sign  rfl) rfl rfl (Nat.le_of_ble_eq_true rfl) ⟨Nat.le_refl _, Nat.le_refl _⟩ dX8_sumOf_16 ?_
    refine g_icmp_eq 38 (by decide) dX8_sumOf_19 (fun h3 => ?_) (fun h3 => ?_)
    · rw [if_pos h3] at hf
      refine g_lvs [0, 1, 2] rfl ?_
      exact wX8_sumOf_b38 hrc B ih l1 l2 st hf
    · rw [if_neg h3] at hf
      refine g_aload_n rfl 0 rfl dX8_sumOf_22 ?_
      refine g_aload_n rfl 0 rfl dX8_sumOf_23 ?_
      refine g_get (j := 22) cok8 (by decide) (.int (sI st 38 22)) (Or.inl tw4_197) oS38 (fun _ => rfl) dX8_sumOf_24 ?_
      obtain ⟨q4, h5, hf⟩ := bnd_some hf
      refine g_callV0i (As := [.int (sI st 38 22)]) (rest := []) cok8 mok_X8_codeAt tw6_80 tw6_82 ts7_2 oS38 B.1 (by omega) (kX8_codeAt  h5) rfl rfl (Nat.le_of_ble_eq_true rfl) ⟨Nat.le_refl _, Nat.le_refl _⟩ dX8_sumOf_27 ?_
      refine g_bipush (45 : Int32) (by decide) dX8_sumOf_30 ?_
      refine g_callS0i (As := [.int (45 : Int32)]) (rest := [.int q4]) mok_X8_sign tw6_6 tw6_7 B.1 (by omega) (kX8_sign  rfl) rfl rfl (Nat.le_of_ble_eq_true rfl) ⟨Nat.le_refl _, Nat.le_refl _⟩ dX8_sumOf_32 ?_
      refine g_icmp_ne 103 (by decide) dX8_sumOf_35 (fun h6 => ?_) (fun h6 => ?_)
      · rw [if_neg h6] at hf
        refine g_lload_n rfl 2 rfl dX8_sumOf_103 ?_
        exact g_lret B.2.2.2 B.2.2.1 (congrArg (fun z => some (Value.long z)) (Prod.mk.inj (Option.some.inj hf)).1.symm) (Prod.mk.inj (Option.some.inj hf)).2.symm dX8_sumOf_104
      · rw [if_pos h6] at hf
        refine g_lvs [0, 1, 2] rfl ?_
        exact wX8_sumOf_b38 hrc B ih l1 l2 st hf
def fX8_sumOf_g (rc : TG1) (p1 : Int32) (st : St) : Option (Int64 × St) :=
  (rc.2.1 p1 st).bind (fun q1 => fX8_sumOf_b6 rc FU p1 q1.1 q1.2)
set_option maxHeartbeats 1000000 in
set_option maxRecDepth 20000 in
theorem wX8_sumOf {E : Ev} {x : Cx} {rc : TG1} {d : Nat} (hrc : RcOK1 (xl x) E rc d) {r0 : Int64} {u0 : St} (B : Bd E x (some FieldType.long) (4 + d + 1) 0 0 (some (.long r0)) u0) (p1 : Int32) (st : St)  (hf : fX8_sumOf_g rc p1 st = some (r0, u0)) : G E WT x RX8 cX8_sumOf 7 (0, 0) st 0 [(0, .ref (eB E + 38)), (1, .int p1)] [] := by
  unfold fX8_sumOf_g at hf
  refine g_aload_n rfl 0 rfl dX8_sumOf_0 ?_
  refine g_iload_n rfl 1 rfl dX8_sumOf_1 ?_
  obtain ⟨q1, h2, hf⟩ := bnd_some hf
  refine g_callV0l (As := [.int p1]) (rest := []) cok8 mok_X8_termOf tw6_88 tw6_90 ts7_4 oS38 B.1 (by omega) (hrc.2.1 h2) rfl rfl (Nat.le_of_ble_eq_true rfl) ⟨Nat.le_refl _, Nat.le_refl _⟩ dX8_sumOf_2 ?_
  refine g_lstore_n rfl [(2, .long q1.1), (0, .ref (eB E + 38)), (1, .int p1)] (by decide) rfl dX8_sumOf_5 ?_
  refine g_lvs [1, 2, 0] rfl ?_
  exact wX8_sumOf_b6 hrc B  FU p1 q1.1 q1.2 hf
def fX8_termOf_b160 (rc : TG1) (k6 : Int32 → Int64 → St → Option (Int64 × St))(l1 : Int32) (s1 : Int64) (st : St) : Option (Int64 × St) :=
  (fX8_bounded s1 l1 st).bind (fun q1 => k6 l1 q1.1 q1.2)
set_option maxHeartbeats 1000000 in
set_option maxRecDepth 20000 in
theorem wX8_termOf_b160 {E : Ev} {x : Cx} {rc : TG1} {d : Nat} (hrc : RcOK1 (xl x) E rc d) {r0 : Int64} {u0 : St} (B : Bd E x (some FieldType.long) (4 + d + 1) 0 0 (some (.long r0)) u0) {k6 : Int32 → Int64 → St → Option (Int64 × St)} (hk6 : ∀ (l1 : Int32) (l2 : Int64) (st : St), k6 l1 l2 st = some (r0, u0) → G E WT x RX8 cX8_termOf 7 (0, 0) st 6 [(0, .ref (eB E + 38)), (1, .int l1), (2, .long l2)] []) (l1 : Int32) (s1 : Int64) (st : St)  (hf : fX8_termOf_b160 rc k6 l1 s1 st = some (r0, u0)) : G E WT x RX8 cX8_termOf 7 (0, 0) st 160 [(0, .ref (eB E + 38)), (1, .int l1)] [.long s1, .ref (eB E + 38)] := by
  unfold fX8_termOf_b160 at hf
  refine g_iload_n rfl 1 rfl dX8_termOf_160 ?_
  obtain ⟨q1, h2, hf⟩ := bnd_some hf
  refine g_callV0l (As := [.long s1, .int l1]) (rest := []) cok8 mok_X8_bounded tw6_105 tw6_107 ts7_8 oS38 B.1 (by omega) (kX8_bounded  h2) rfl rfl (Nat.le_of_ble_eq_true rfl) ⟨Nat.le_refl _, Nat.le_refl _⟩ dX8_termOf_161 ?_
  refine g_lstore_n rfl [(2, .long q1.1), (0, .ref (eB E + 38)), (1, .int l1)] (by decide) rfl dX8_termOf_164 ?_
  refine g_goto 6 (by decide) dX8_termOf_165 ?_
  refine g_lvs [1, 2, 0] rfl ?_
  exact hk6 l1 q1.1 q1.2 hf
def fX8_termOf_b121 (rc : TG1) (k6 : Int32 → Int64 → St → Option (Int64 × St))(l1 : Int32) (l2 : Int64) (l4 : Int32) (l5 : Int64) (st : St) : Option (Int64 × St) :=
  if l4 = (fX8_sign (42 : Int32)) then (fX8_termOf_b160 rc k6 l1 (l2 * l5) st) else (if l4 = (fX8_sign (47 : Int32)) then (chk (nzl l5) (fX8_termOf_b160 rc k6 l1 (l2 / l5) st)) else (chk (nzl l5) (fX8_termOf_b160 rc k6 l1 (ljrem l2 l5) st)))
set_option maxHeartbeats 1000000 in
set_option maxRecDepth 20000 in
theorem wX8_termOf_b121 {E : Ev} {x : Cx} {rc : TG1} {d : Nat} (hrc : RcOK1 (xl x) E rc d) {r0 : Int64} {u0 : St} (B : Bd E x (some FieldType.long) (4 + d + 1) 0 0 (some (.long r0)) u0) {k6 : Int32 → Int64 → St → Option (Int64 × St)} (hk6 : ∀ (l1 : Int32) (l2 : Int64) (st : St), k6 l1 l2 st = some (r0, u0) → G E WT x RX8 cX8_termOf 7 (0, 0) st 6 [(0, .ref (eB E + 38)), (1, .int l1), (2, .long l2)] []) (l1 : Int32) (l2 : Int64) (l4 : Int32) (l5 : Int64) (st : St)  (hf : fX8_termOf_b121 rc k6 l1 l2 l4 l5 st = some (r0, u0)) : G E WT x RX8 cX8_termOf 7 (0, 0) st 121 [(0, .ref (eB E + 38)), (1, .int l1), (2, .long l2), (4, .int l4), (5, .long l5)] [] := by
  unfold fX8_termOf_b121 at hf
  refine g_aload_n rfl 0 rfl dX8_termOf_121 ?_
  refine g_iload 3 rfl dX8_termOf_122 ?_
  refine g_bipush (42 : Int32) (by decide) dX8_termOf_124 ?_
  refine g_callS0i (As := [.int (42 : Int32)]) (rest := [.int l4, .ref (eB E + 38)]) mok_X8_sign tw6_6 tw6_7 B.1 (by omega) (kX8_sign  rfl) rfl rfl (Nat.le_of_ble_eq_true rfl) ⟨Nat.le_refl _, Nat.le_refl _⟩ dX8_termOf_126 ?_
  refine g_icmp_ne 139 (by decide) dX8_termOf_129 (fun h1 => ?_) (fun h1 => ?_)
  · rw [if_neg h1] at hf
    refine g_iload 3 rfl dX8_termOf_139 ?_
    refine g_bipush (47 : Int32) (by decide) dX8_termOf_141 ?_
    refine g_callS0i (As := [.int (47 : Int32)]) (rest := [.int l4, .ref (eB E + 38)]) mok_X8_sign tw6_6 tw6_7 B.1 (by omega) (kX8_sign  rfl) rfl rfl (Nat.le_of_ble_eq_true rfl) ⟨Nat.le_refl _, Nat.le_refl _⟩ dX8_termOf_143 ?_
    refine g_icmp_ne 156 (by decide) dX8_termOf_146 (fun h2 => ?_) (fun h2 => ?_)
    · rw [if_neg h2] at hf
      refine g_lload_n rfl 2 rfl dX8_termOf_156 ?_
      refine g_lload 4 rfl dX8_termOf_157 ?_
      obtain ⟨h3, hf⟩ := chk_some hf
      refine g_lrem (nzl_ne h3) dX8_termOf_159 ?_
      refine g_lvs [0, 1] rfl ?_
      exact wX8_termOf_b160 hrc B hk6 l1 (ljrem l2 l5) st hf
    · rw [if_pos h2] at hf
      refine g_lload_n rfl 2 rfl dX8_termOf_149 ?_
      refine g_lload 4 rfl dX8_termOf_150 ?_
      obtain ⟨h4, hf⟩ := chk_some hf
      refine g_ldiv (nzl_ne h4) dX8_termOf_152 ?_
      refine g_goto 160 (by decide) dX8_termOf_153 ?_
      refine g_lvs [0, 1] rfl ?_
      exact wX8_termOf_b160 hrc B hk6 l1 (l2 / l5) st hf
  · rw [if_pos h1] at hf
    refine g_lload_n rfl 2 rfl dX8_termOf_132 ?_
    refine g_lload 4 rfl dX8_termOf_133 ?_
    refine g_lmul dX8_termOf_135 ?_
    refine g_goto 160 (by decide) dX8_termOf_136 ?_
    refine g_lvs [0, 1] rfl ?_
    exact wX8_termOf_b160 hrc B hk6 l1 (l2 * l5) st hf
def fX8_termOf_b115 (rc : TG1) (k6 : Int32 → Int64 → St → Option (Int64 × St))(l1 : Int32) (l2 : Int64) (l4 : Int32) (s1 : Int32) (st : St) : Option (Int64 × St) :=
  chk (isb s1) (fX8_termOf_b121 rc k6 l1 l2 l4 (1 : Int64) (pI st 38 24 s1))
set_option maxHeartbeats 1000000 in
set_option maxRecDepth 20000 in
theorem wX8_termOf_b115 {E : Ev} {x : Cx} {rc : TG1} {d : Nat} (hrc : RcOK1 (xl x) E rc d) {r0 : Int64} {u0 : St} (B : Bd E x (some FieldType.long) (4 + d + 1) 0 0 (some (.long r0)) u0) {k6 : Int32 → Int64 → St → Option (Int64 × St)} (hk6 : ∀ (l1 : Int32) (l2 : Int64) (st : St), k6 l1 l2 st = some (r0, u0) → G E WT x RX8 cX8_termOf 7 (0, 0) st 6 [(0, .ref (eB E + 38)), (1, .int l1), (2, .long l2)] []) (l1 : Int32) (l2 : Int64) (l4 : Int32) (s1 : Int32) (st : St)  (hf : fX8_termOf_b115 rc k6 l1 l2 l4 s1 st = some (r0, u0)) : G E WT x RX8 cX8_termOf 7 (0, 0) st 115 [(0, .ref (eB E + 38)), (1, .int l1), (2, .long l2), (4, .int l4)] [.int s1, .ref (eB E + 38)] := by
  unfold fX8_termOf_b115 at hf
  obtain ⟨h1, hf⟩ := chk_some hf
  refine g_putI (j := 24) cok8 (by decide) rfl rfl (nb_n (isb_or h1)) (nb_f (isb_or h1)) (Or.inl tw4_199) oS38 B.2.1 wpI dX8_termOf_115 ?_
  refine g_lconst (1 : Int64) (by decide) dX8_termOf_118 ?_
  refine g_lstore [(5, .long (1 : Int64)), (0, .ref (eB E + 38)), (1, .int l1), (2, .long l2), (4, .int l4)] (by decide) rfl dX8_termOf_119 ?_
  refine g_lvs [1, 2, 3, 4, 0] rfl ?_
  exact wX8_termOf_b121 hrc B hk6 l1 l2 l4 (1 : Int64) (pI st 38 24 s1) hf
def fX8_termOf_b110 (rc : TG1) (k6 : Int32 → Int64 → St → Option (Int64 × St))(l1 : Int32) (l2 : Int64) (l4 : Int32) (st : St) : Option (Int64 × St) :=
  fX8_termOf_b115 rc k6 l1 l2 l4 (1 : Int32) st
set_option maxHeartbeats 1000000 in
set_option maxRecDepth 20000 in
theorem wX8_termOf_b110 {E : Ev} {x : Cx} {rc : TG1} {d : Nat} (hrc : RcOK1 (xl x) E rc d) {r0 : Int64} {u0 : St} (B : Bd E x (some FieldType.long) (4 + d + 1) 0 0 (some (.long r0)) u0) {k6 : Int32 → Int64 → St → Option (Int64 × St)} (hk6 : ∀ (l1 : Int32) (l2 : Int64) (st : St), k6 l1 l2 st = some (r0, u0) → G E WT x RX8 cX8_termOf 7 (0, 0) st 6 [(0, .ref (eB E + 38)), (1, .int l1), (2, .long l2)] []) (l1 : Int32) (l2 : Int64) (l4 : Int32) (st : St)  (hf : fX8_termOf_b110 rc k6 l1 l2 l4 st = some (r0, u0)) : G E WT x RX8 cX8_termOf 7 (0, 0) st 110 [(0, .ref (eB E + 38)), (1, .int l1), (2, .long l2), (4, .int l4)] [.ref (eB E + 38)] := by
  unfold fX8_termOf_b110 at hf
  refine g_iconst (1 : Int32) (by decide) dX8_termOf_110 ?_
  refine g_goto 115 (by decide) dX8_termOf_111 ?_
  refine g_lvs [0, 1, 2, 3] rfl ?_
  exact wX8_termOf_b115 hrc B hk6 l1 l2 l4 (1 : Int32) st hf
def fX8_termOf_b54 (rc : TG1) (k6 : Int32 → Int64 → St → Option (Int64 × St))(l1 : Int32) (l2 : Int64) (st : St) : Option (Int64 × St) :=
  (fX8_codeAt st (sI st 38 22)).bind (fun q1 => (rc.2.2 l1 (pI st 38 22 ((sI st 38 22) + (1 : Int32)))).bind (fun q3 => if q1 = (fX8_sign (42 : Int32)) then (fX8_termOf_b121 rc k6 l1 l2 q1 q3.1 q3.2) else (if (lg_cmp q3.1 (0 : Int64)) = 0 then (if (sI q3.2 38 24) = 0 then (if l1 = 0 then (fX8_termOf_b115 rc k6 l1 l2 q1 (0 : Int32) q3.2) else (fX8_termOf_b110 rc k6 l1 l2 q1 q3.2)) else (fX8_termOf_b110 rc k6 l1 l2 q1 q3.2)) else (fX8_termOf_b121 rc k6 l1 l2 q1 q3.1 q3.2))))
set_option maxHeartbeats 1000000 in
set_option maxRecDepth 20000 in
theorem wX8_termOf_b54 {E : Ev} {x : Cx} {rc : TG1} {d : Nat} (hrc : RcOK1 (xl x) E rc d) {r0 : Int64} {u0 : St} (B : Bd E x (some FieldType.long) (4 + d + 1) 0 0 (some (.long r0)) u0) {k6 : Int32 → Int64 → St → Option (Int64 × St)} (hk6 : ∀ (l1 : Int32) (l2 : Int64) (st : St), k6 l1 l2 st = some (r0, u0) → G E WT x RX8 cX8_termOf 7 (0, 0) st 6 [(0, .ref (eB E + 38)), (1, .int l1), (2, .long l2)] []) (l1 : Int32) (l2 : Int64) (st : St)  (hf : fX8_termOf_b54 rc k6 l1 l2 st = some (r0, u0)) : G E WT x RX8 cX8_termOf 7 (0, 0) st 54 [(0, .ref (eB E + 38)), (1, .int l1), (2, .long l2)] [] := by
  unfold fX8_termOf_b54 at hf
  refine g_aload_n rfl 0 rfl dX8_termOf_54 ?_
  refine g_aload_n rfl 0 rfl dX8_termOf_55 ?_
  refine g_get (j := 22) cok8 (by decide) (.int (sI st 38 22)) (Or.inl tw4_197) oS38 (fun _ => rfl) dX8_termOf_56 ?_
  obtain ⟨q1, h2, hf⟩ := bnd_some hf
  refine g_callV0i (As := [.int (sI st 38 22)]) (rest := []) cok8 mok_X8_codeAt tw6_80 tw6_82 ts7_2 oS38 B.1 (by omega) (kX8_codeAt  h2) rfl rfl (Nat.le_of_ble_eq_true rfl) ⟨Nat.le_refl _, Nat.le_refl _⟩ dX8_termOf_59 ?_
  refine g_istore [(4, .int q1), (0, .ref (eB E + 38)), (1, .int l1), (2, .long l2)] (by decide) rfl dX8_termOf_62 ?_
  refine g_aload_n rfl 1 rfl dX8_termOf_64 ?_
  refine g_dup rfl dX8_termOf_65 ?_
  refine g_get (j := 22) cok8 (by decide) (.int (sI st 38 22)) (Or.inl tw4_197) oS38 (fun _ => rfl) dX8_termOf_66 ?_
  refine g_iconst (1 : Int32) (by decide) dX8_termOf_69 ?_
  refine g_iadd dX8_termOf_70 ?_
  refine g_putI (j := 22) cok8 (by decide) rfl rfl rfl rfl (Or.inl tw4_197) oS38 B.2.1 wpI dX8_termOf_71 ?_
  refine g_aload_n rfl 1 rfl dX8_termOf_74 ?_
  refine g_iload_n rfl 2 rfl dX8_termOf_75 ?_
  obtain ⟨q3, h4, hf⟩ := bnd_some hf
  refine g_callV0l (As := [.int l1]) (rest := []) cok8 mok_X8_partOf tw6_92 tw6_94 ts7_5 oS38 B.1 (by omega) (hrc.2.2 h4) rfl rfl (Nat.le_of_ble_eq_true rfl) ⟨Nat.le_refl _, Nat.le_refl _⟩ dX8_termOf_76 ?_
  refine g_lstore [(5, .long q3.1), (4, .int q1), (0, .ref (eB E + 38)), (1, .int l1), (2, .long l2)] (by decide) rfl dX8_termOf_79 ?_
  refine g_iload 1 rfl dX8_termOf_81 ?_
  refine g_bipush (42 : Int32) (by decide) dX8_termOf_83 ?_
  refine g_callS0i (As := [.int (42 : Int32)]) (rest := [.int q1]) mok_X8_sign tw6_6 tw6_7 B.1 (by omega) (kX8_sign  rfl) rfl rfl (Nat.le_of_ble_eq_true rfl) ⟨Nat.le_refl _, Nat.le_refl _⟩ dX8_termOf_85 ?_
  refine g_icmp_eq 121 (by decide) dX8_termOf_88 (fun h5 => ?_) (fun h5 => ?_)
  · rw [if_pos h5] at hf
    refine g_lvs [2, 3, 4, 1, 0] rfl ?_
    exact wX8_termOf_b121 hrc B hk6 l1 l2 q1 q3.1 q3.2 hf
  · rw [if_neg h5] at hf
    refine g_lload 0 rfl dX8_termOf_91 ?_
    refine g_lconst (0 : Int64) (by decide) dX8_termOf_93 ?_
    refine g_lcmp dX8_termOf_94 ?_
    refine g_if_ne 121 (by decide) dX8_termOf_95 (fun h6 => ?_) (fun h6 => ?_)
    · rw [if_neg h6] at hf
      refine g_lvs [2, 3, 4, 1, 0] rfl ?_
      exact wX8_termOf_b121 hrc B hk6 l1 l2 q1 q3.1 q3.2 hf
    · rw [if_pos h6] at hf
      refine g_aload_n rfl 2 rfl dX8_termOf_98 ?_
      refine g_aload_n rfl 2 rfl dX8_termOf_99 ?_
      refine g_get (j := 24) cok8 (by decide) (.int (sI q3.2 38 24)) (Or.inl tw4_199) oS38 (fun _ => rfl) dX8_termOf_100 ?_
      refine g_if_ne 110 (by decide) dX8_termOf_103 (fun h7 => ?_) (fun h7 => ?_)
      · rw [if_neg h7] at hf
        refine g_lvs [2, 3, 4, 1] rfl ?_
        exact wX8_termOf_b110 hrc B hk6 l1 l2 q1 q3.2 hf
      · rw [if_pos h7] at hf
        refine g_iload_n rfl 3 rfl dX8_termOf_106 ?_
        refine g_if_eq 114 (by decide) dX8_termOf_107 (fun h8 => ?_) (fun h8 => ?_)
        · rw [if_pos h8] at hf
          refine g_iconst (0 : Int32) (by decide) dX8_termOf_114 ?_
          refine g_lvs [2, 3, 4, 1] rfl ?_
          exact wX8_termOf_b115 hrc B hk6 l1 l2 q1 (0 : Int32) q3.2 hf
        · rw [if_neg h8] at hf
          refine g_lvs [2, 3, 4, 1] rfl ?_
          exact wX8_termOf_b110 hrc B hk6 l1 l2 q1 q3.2 hf
def fX8_termOf_b6 (rc : TG1)  : Nat → Int32 → Int64 → St → Option (Int64 × St)
  | 0, _, _, _ => none
  | n + 1, l1, l2, st => (fX8_codeAt st (sI st 38 22)).bind (fun q1 => if q1 = (fX8_sign (42 : Int32)) then (fX8_termOf_b54 rc (fun zl1 zl2 zst => fX8_termOf_b6 rc n zl1 zl2 zst) l1 l2 st) else ((fX8_codeAt st (sI st 38 22)).bind (fun q4 => if q4 = (fX8_sign (47 : Int32)) then (fX8_termOf_b54 rc (fun zl1 zl2 zst => fX8_termOf_b6 rc n zl1 zl2 zst) l1 l2 st) else ((fX8_codeAt st (sI st 38 22)).bind (fun q7 => if q7 = (fX8_sign (37 : Int32)) then (fX8_termOf_b54 rc (fun zl1 zl2 zst => fX8_termOf_b6 rc n zl1 zl2 zst) l1 l2 st) else (some (l2, st)))))))
set_option maxHeartbeats 1000000 in
set_option maxRecDepth 20000 in
theorem wX8_termOf_b6 {E : Ev} {x : Cx} {rc : TG1} {d : Nat} (hrc : RcOK1 (xl x) E rc d) {r0 : Int64} {u0 : St} (B : Bd E x (some FieldType.long) (4 + d + 1) 0 0 (some (.long r0)) u0) : ∀ (n : Nat) (l1 : Int32) (l2 : Int64) (st : St) , fX8_termOf_b6 rc n l1 l2 st = some (r0, u0) → G E WT x RX8 cX8_termOf 7 (0, 0) st 6 [(0, .ref (eB E + 38)), (1, .int l1), (2, .long l2)] [] := by
  intro n
  induction n with
  | zero =>
    intros
    rename_i hf
    rw [fX8_termOf_b6] at hf
    cases hf
  | succ n ih =>
    intro l1 l2 st hf
    rw [fX8_termOf_b6] at hf
    refine g_aload_n rfl 0 rfl dX8_termOf_6 ?_
    refine g_aload_n rfl 0 rfl dX8_termOf_7 ?_
    refine g_get (j := 22) cok8 (by decide) (.int (sI st 38 22)) (Or.inl tw4_197) oS38 (fun _ => rfl) dX8_termOf_8 ?_
    obtain ⟨q1, h2, hf⟩ := bnd_some hf
    refine g_callV0i (As := [.int (sI st 38 22)]) (rest := []) cok8 mok_X8_codeAt tw6_80 tw6_82 ts7_2 oS38 B.1 (by omega) (kX8_codeAt  h2) rfl rfl (Nat.le_of_ble_eq_true rfl) ⟨Nat.le_refl _, Nat.le_refl _⟩ dX8_termOf_11 ?_
    refine g_bipush (42 : Int32) (by decide) dX8_termOf_14 ?_
    refine g_callS0i (As := [.int (42 : Int32)]) (rest := [.int q1]) mok_X8_sign tw6_6 tw6_7 B.1 (by omega) (kX8_sign  rfl) rfl rfl (Nat.le_of_ble_eq_true rfl) ⟨Nat.le_refl _, Nat.le_refl _⟩ dX8_termOf_16 ?_
    refine g_icmp_eq 54 (by decide) dX8_termOf_19 (fun h3 => ?_) (fun h3 => ?_)
    · rw [if_pos h3] at hf
      refine g_lvs [0, 1, 2] rfl ?_
      exact wX8_termOf_b54 hrc B ih l1 l2 st hf
    · rw [if_neg h3] at hf
      refine g_aload_n rfl 0 rfl dX8_termOf_22 ?_
      refine g_aload_n rfl 0 rfl dX8_termOf_23 ?_
      refine g_get (j := 22) cok8 (by decide) (.int (sI st 38 22)) (Or.inl tw4_197) oS38 (fun _ => rfl) dX8_termOf_24 ?_
      obtain ⟨q4, h5, hf⟩ := bnd_some hf
      refine g_callV0i (As := [.int (sI st 38 22)]) (rest := []) cok8 mok_X8_codeAt tw6_80 tw6_82 ts7_2 oS38 B.1 (by omega) (kX8_codeAt  h5) rfl rfl (Nat.le_of_ble_eq_true rfl) ⟨Nat.le_refl _, Nat.le_refl _⟩ dX8_termOf_27 ?_
      refine g_bipush (47 : Int32) (by decide) dX8_termOf_30 ?_
      refine g_callS0i (As := [.int (47 : Int32)]) (rest := [.int q4]) mok_X8_sign tw6_6 tw6_7 B.1 (by omega) (kX8_sign  rfl) rfl rfl (Nat.le_of_ble_eq_true rfl) ⟨Nat.le_refl _, Nat.le_refl _⟩ dX8_termOf_32 ?_
      refine g_icmp_eq 54 (by decide) dX8_termOf_35 (fun h6 => ?_) (fun h6 => ?_)
      · rw [if_pos h6] at hf
        refine g_lvs [0, 1, 2] rfl ?_
        exact wX8_termOf_b54 hrc B ih l1 l2 st hf
      · rw [if_neg h6] at hf
        refine g_aload_n rfl 0 rfl dX8_termOf_38 ?_
        refine g_aload_n rfl 0 rfl dX8_termOf_39 ?_
        refine g_get (j := 22) cok8 (by decide) (.int (sI st 38 22)) (Or.inl tw4_197) oS38 (fun _ => rfl) dX8_termOf_40 ?_
        obtain ⟨q7, h8, hf⟩ := bnd_some hf
        refine g_callV0i (As := [.int (sI st 38 22)]) (rest := []) cok8 mok_X8_codeAt tw6_80 tw6_82 ts7_2 oS38 B.1 (by omega) (kX8_codeAt  h8) rfl rfl (Nat.le_of_ble_eq_true rfl) ⟨Nat.le_refl _, Nat.le_refl _⟩ dX8_termOf_43 ?_
        refine g_bipush (37 : Int32) (by decide) dX8_termOf_46 ?_
        refine g_callS0i (As := [.int (37 : Int32)]) (rest := [.int q7]) mok_X8_sign tw6_6 tw6_7 B.1 (by omega) (kX8_sign  rfl) rfl rfl (Nat.le_of_ble_eq_true rfl) ⟨Nat.le_refl _, Nat.le_refl _⟩ dX8_termOf_48 ?_
        refine g_icmp_ne 168 (by decide) dX8_termOf_51 (fun h9 => ?_) (fun h9 => ?_)
        · rw [if_neg h9] at hf
          refine g_lload_n rfl 2 rfl dX8_termOf_168 ?_
          exact g_lret B.2.2.2 B.2.2.1 (congrArg (fun z => some (Value.long z)) (Prod.mk.inj (Option.some.inj hf)).1.symm) (Prod.mk.inj (Option.some.inj hf)).2.symm dX8_termOf_169
        · rw [if_pos h9] at hf
          refine g_lvs [0, 1, 2] rfl ?_
          exact wX8_termOf_b54 hrc B ih l1 l2 st hf
def fX8_termOf_g (rc : TG1) (p1 : Int32) (st : St) : Option (Int64 × St) :=
  (rc.2.2 p1 st).bind (fun q1 => fX8_termOf_b6 rc FU p1 q1.1 q1.2)
set_option maxHeartbeats 1000000 in
set_option maxRecDepth 20000 in
theorem wX8_termOf {E : Ev} {x : Cx} {rc : TG1} {d : Nat} (hrc : RcOK1 (xl x) E rc d) {r0 : Int64} {u0 : St} (B : Bd E x (some FieldType.long) (4 + d + 1) 0 0 (some (.long r0)) u0) (p1 : Int32) (st : St)  (hf : fX8_termOf_g rc p1 st = some (r0, u0)) : G E WT x RX8 cX8_termOf 7 (0, 0) st 0 [(0, .ref (eB E + 38)), (1, .int p1)] [] := by
  unfold fX8_termOf_g at hf
  refine g_aload_n rfl 0 rfl dX8_termOf_0 ?_
  refine g_iload_n rfl 1 rfl dX8_termOf_1 ?_
  obtain ⟨q1, h2, hf⟩ := bnd_some hf
  refine g_callV0l (As := [.int p1]) (rest := []) cok8 mok_X8_partOf tw6_92 tw6_94 ts7_5 oS38 B.1 (by omega) (hrc.2.2 h2) rfl rfl (Nat.le_of_ble_eq_true rfl) ⟨Nat.le_refl _, Nat.le_refl _⟩ dX8_termOf_2 ?_
  refine g_lstore_n rfl [(2, .long q1.1), (0, .ref (eB E + 38)), (1, .int p1)] (by decide) rfl dX8_termOf_5 ?_
  refine g_lvs [1, 2, 0] rfl ?_
  exact wX8_termOf_b6 hrc B  FU p1 q1.1 q1.2 hf
def fX8_partOf_b94 (rc : TG1) (l1 : Int32) (l2 : Int32) (l3 : Int32) (st : St) : Option (Int64 × St) :=
  if l1 = 0 then (some ((0 : Int64), st)) else (if (sI st 38 24) = 0 then (if l2 = (50 : Int32) then (chk (ixb (((2827 : Int32) + (sI st 38 22)) - (1 : Int32)) 5627) (some ((sI st 40 ((((2827 : Int32) + (sI st 38 22)) - (1 : Int32)).toNatClampNeg)).toInt64, st))) else (if (sI st 38 25) = 0 then (chk (ixb (l2 - (9 : Int32)) 7) (some ((sI st 50 ((l2 - (9 : Int32)).toNatClampNeg)).toInt64, st))) else ((fX8_orderValue st l2 l3).bind (fun q6 => some (q6.toInt64, st))))) else (some ((0 : Int64), st)))
set_option maxHeartbeats 1000000 in
set_option maxRecDepth 20000 in
theorem wX8_partOf_b94 {E : Ev} {x : Cx} {rc : TG1} {d : Nat} (hrc : RcOK1 (xl x) E rc d) {r0 : Int64} {u0 : St} (B : Bd E x (some FieldType.long) (4 + d + 1) 0 0 (some (.long r0)) u0) (l1 : Int32) (l2 : Int32) (l3 : Int32) (st : St)  (hf : fX8_partOf_b94 rc l1 l2 l3 st = some (r0, u0)) : G E WT x RX8 cX8_partOf 4 (0, 0) st 94 [(0, .ref (eB E + 38)), (1, .int l1), (2, .int l2), (3, .int l3)] [] := by
  unfold fX8_partOf_b94 at hf
  refine g_iload_n rfl 1 rfl dX8_partOf_94 ?_
  refine g_if_eq 105 (by decide) dX8_partOf_95 (fun h1 => ?_) (fun h1 => ?_)
  · rw [if_pos h1] at hf
    refine g_lconst (0 : Int64) (by decide) dX8_partOf_105 ?_
    exact g_lret B.2.2.2 B.2.2.1 (congrArg (fun z => some (Value.long z)) (Prod.mk.inj (Option.some.inj hf)).1.symm) (Prod.mk.inj (Option.some.inj hf)).2.symm dX8_partOf_106
  · rw [if_neg h1] at hf
    refine g_aload_n rfl 0 rfl dX8_partOf_98 ?_
    refine g_get (j := 24) cok8 (by decide) (.int (sI st 38 24)) (Or.inl tw4_199) oS38 (fun _ => rfl) dX8_partOf_99 ?_
    refine g_if_eq 107 (by decide) dX8_partOf_102 (fun h2 => ?_) (fun h2 => ?_)
    · rw [if_pos h2] at hf
      refine g_iload_n rfl 2 rfl dX8_partOf_107 ?_
      refine g_bipush (50 : Int32) (by decide) dX8_partOf_108 ?_
      refine g_icmp_ne 130 (by decide) dX8_partOf_110 (fun h3 => ?_) (fun h3 => ?_)
      · rw [if_neg h3] at hf
        refine g_aload_n rfl 0 rfl dX8_partOf_130 ?_
        refine g_get (j := 25) cok8 (by decide) (.int (sI st 38 25)) (Or.inl tw4_200) oS38 (fun _ => rfl) dX8_partOf_131 ?_
        refine g_if_eq 147 (by decide) dX8_partOf_134 (fun h4 => ?_) (fun h4 => ?_)
        · rw [if_pos h4] at hf
          refine g_aload_n rfl 0 rfl dX8_partOf_147 ?_
          refine g_get (j := 26) cok8 (by decide) (.ref (eB E + 50)) (Or.inl tw4_201) oS38 vS38_26 dX8_partOf_148 ?_
          refine g_iload_n rfl 2 rfl dX8_partOf_151 ?_
          refine g_bipush (9 : Int32) (by decide) dX8_partOf_152 ?_
          refine g_isub dX8_partOf_154 ?_
          obtain ⟨h5, hf⟩ := chk_some hf
          refine g_ialdj ((l2 - (9 : Int32)).toNatClampNeg) rfl aS50 (ixb_in h5) dX8_partOf_155 ?_
          refine g_i2l dX8_partOf_156 ?_
          exact g_lret B.2.2.2 B.2.2.1 (congrArg (fun z => some (Value.long z)) (Prod.mk.inj (Option.some.inj hf)).1.symm) (Prod.mk.inj (Option.some.inj hf)).2.symm dX8_partOf_157
        · rw [if_neg h4] at hf
          refine g_aload_n rfl 0 rfl dX8_partOf_137 ?_
          refine g_iload_n rfl 2 rfl dX8_partOf_138 ?_
          refine g_iload_n rfl 3 rfl dX8_partOf_139 ?_
          obtain ⟨q6, h7, hf⟩ := bnd_some hf
          refine g_callV0i (As := [.int l2, .int l3]) (rest := []) cok8 mok_X8_orderValue tw6_100 tw6_102 ts7_7 oS38 B.1 (by omega) (kX8_orderValue  h7) rfl rfl (Nat.le_of_ble_eq_true rfl) ⟨Nat.le_refl _, Nat.le_refl _⟩ dX8_partOf_140 ?_
          refine g_i2l dX8_partOf_143 ?_
          refine g_goto 157 (by decide) dX8_partOf_144 ?_
          exact g_lret B.2.2.2 B.2.2.1 (congrArg (fun z => some (Value.long z)) (Prod.mk.inj (Option.some.inj hf)).1.symm) (Prod.mk.inj (Option.some.inj hf)).2.symm dX8_partOf_157
      · rw [if_pos h3] at hf
        refine g_aload_n rfl 0 rfl dX8_partOf_113 ?_
        refine g_get (j := 2) cok8 (by decide) (.ref (eB E + 40)) (Or.inl tw4_177) oS38 vS38_2 dX8_partOf_114 ?_
        refine g_sipush (2827 : Int32) (by decide) dX8_partOf_117 ?_
        refine g_aload_n rfl 0 rfl dX8_partOf_120 ?_
        refine g_get (j := 22) cok8 (by decide) (.int (sI st 38 22)) (Or.inl tw4_197) oS38 (fun _ => rfl) dX8_partOf_121 ?_
        refine g_iadd dX8_partOf_124 ?_
        refine g_iconst (1 : Int32) (by decide) dX8_partOf_125 ?_
        refine g_isub dX8_partOf_126 ?_
        obtain ⟨h8, hf⟩ := chk_some hf
        refine g_ialdj ((((2827 : Int32) + (sI st 38 22)) - (1 : Int32)).toNatClampNeg) rfl aS40 (ixb_in h8) dX8_partOf_127 ?_
        refine g_i2l dX8_partOf_128 ?_
        exact g_lret B.2.2.2 B.2.2.1 (congrArg (fun z => some (Value.long z)) (Prod.mk.inj (Option.some.inj hf)).1.symm) (Prod.mk.inj (Option.some.inj hf)).2.symm dX8_partOf_129
    · rw [if_neg h2] at hf
      refine g_lconst (0 : Int64) (by decide) dX8_partOf_105 ?_
      exact g_lret B.2.2.2 B.2.2.1 (congrArg (fun z => some (Value.long z)) (Prod.mk.inj (Option.some.inj hf)).1.symm) (Prod.mk.inj (Option.some.inj hf)).2.symm dX8_partOf_106
def fX8_partOf_b70 (rc : TG1) (l1 : Int32) (l2 : Int32) (st : St) : Option (Int64 × St) :=
  chk (ixb ((2827 : Int32) + (sI st 38 22)) 5627) (fX8_partOf_b94 rc l1 l2 (sI st 40 (((2827 : Int32) + (sI st 38 22)).toNatClampNeg)) (pI st 38 22 ((sI st 38 22) + (1 : Int32))))
set_option maxHeartbeats 1000000 in
set_option maxRecDepth 20000 in
theorem wX8_partOf_b70 {E : Ev} {x : Cx} {rc : TG1} {d : Nat} (hrc : RcOK1 (xl x) E rc d) {r0 : Int64} {u0 : St} (B : Bd E x (some FieldType.long) (4 + d + 1) 0 0 (some (.long r0)) u0) (l1 : Int32) (l2 : Int32) (st : St)  (hf : fX8_partOf_b70 rc l1 l2 st = some (r0, u0)) : G E WT x RX8 cX8_partOf 4 (0, 0) st 70 [(0, .ref (eB E + 38)), (1, .int l1), (2, .int l2)] [] := by
  unfold fX8_partOf_b70 at hf
  refine g_aload_n rfl 0 rfl dX8_partOf_70 ?_
  refine g_get (j := 2) cok8 (by decide) (.ref (eB E + 40)) (Or.inl tw4_177) oS38 vS38_2 dX8_partOf_71 ?_
  refine g_sipush (2827 : Int32) (by decide) dX8_partOf_74 ?_
  refine g_aload_n rfl 0 rfl dX8_partOf_77 ?_
  refine g_get (j := 22) cok8 (by decide) (.int (sI st 38 22)) (Or.inl tw4_197) oS38 (fun _ => rfl) dX8_partOf_78 ?_
  refine g_iadd dX8_partOf_81 ?_
  obtain ⟨h1, hf⟩ := chk_some hf
  refine g_ialdj (((2827 : Int32) + (sI st 38 22)).toNatClampNeg) rfl aS40 (ixb_in h1) dX8_partOf_82 ?_
  refine g_istore_n rfl [(3, .int (sI st 40 (((2827 : Int32) + (sI st 38 22)).toNatClampNeg))), (0, .ref (eB E + 38)), (1, .int l1), (2, .int l2)] (by decide) rfl dX8_partOf_83 ?_
  refine g_aload_n rfl 1 rfl dX8_partOf_84 ?_
  refine g_dup rfl dX8_partOf_85 ?_
  refine g_get (j := 22) cok8 (by decide) (.int (sI st 38 22)) (Or.inl tw4_197) oS38 (fun _ => rfl) dX8_partOf_86 ?_
  refine g_iconst (1 : Int32) (by decide) dX8_partOf_89 ?_
  refine g_iadd dX8_partOf_90 ?_
  refine g_putI (j := 22) cok8 (by decide) rfl rfl rfl rfl (Or.inl tw4_197) oS38 B.2.1 wpI dX8_partOf_91 ?_
  refine g_lvs [1, 2, 3, 0] rfl ?_
  exact wX8_partOf_b94 hrc B  l1 l2 (sI st 40 (((2827 : Int32) + (sI st 38 22)).toNatClampNeg)) (pI st 38 22 ((sI st 38 22) + (1 : Int32))) hf
def fX8_partOf_g (rc : TG1) (p1 : Int32) (st : St) : Option (Int64 × St) :=
  (fX8_passes0 (fX8_sign (91 : Int32)) st).bind (fun q1 => if q1.1 = 0 then ((fX8_codeAt q1.2 (sI q1.2 38 22)).bind (fun q4 => if (sI (pI q1.2 38 22 ((sI q1.2 38 22) + (1 : Int32))) 38 25) = 0 then (fX8_partOf_b94 rc p1 q4 (0 : Int32) (pI q1.2 38 22 ((sI q1.2 38 22) + (1 : Int32)))) else (if q4 = (13 : Int32) then (fX8_partOf_b70 rc p1 q4 (pI q1.2 38 22 ((sI q1.2 38 22) + (1 : Int32)))) else (if q4 = (19 : Int32) then (fX8_partOf_b70 rc p1 q4 (pI q1.2 38 22 ((sI q1.2 38 22) + (1 : Int32)))) else (fX8_partOf_b94 rc p1 q4 (0 : Int32) (pI q1.2 38 22 ((sI q1.2 38 22) + (1 : Int32)))))))) else ((rc.1 p1 q1.2).bind (fun q9 => some (q9.1, pI q9.2 38 22 ((sI q9.2 38 22) + (1 : Int32))))))
set_option maxHeartbeats 1000000 in
set_option maxRecDepth 20000 in
theorem wX8_partOf {E : Ev} {x : Cx} {rc : TG1} {d : Nat} (hrc : RcOK1 (xl x) E rc d) {r0 : Int64} {u0 : St} (B : Bd E x (some FieldType.long) (4 + d + 1) 0 0 (some (.long r0)) u0) (p1 : Int32) (st : St)  (hf : fX8_partOf_g rc p1 st = some (r0, u0)) : G E WT x RX8 cX8_partOf 4 (0, 0) st 0 [(0, .ref (eB E + 38)), (1, .int p1)] [] := by
  unfold fX8_partOf_g at hf
  refine g_aload_n rfl 0 rfl dX8_partOf_0 ?_
  refine g_bipush (91 : Int32) (by decide) dX8_partOf_1 ?_
  refine g_callS0i (As := [.int (91 : Int32)]) (rest := [.ref (eB E + 38)]) mok_X8_sign tw6_6 tw6_7 B.1 (by omega) (kX8_sign  rfl) rfl rfl (Nat.le_of_ble_eq_true rfl) ⟨Nat.le_refl _, Nat.le_refl _⟩ dX8_partOf_3 ?_
  obtain ⟨q1, h2, hf⟩ := bnd_some hf
  refine g_callV0i (As := [.int (fX8_sign (91 : Int32))]) (rest := []) cok8 mok_X8_passes0 tw6_96 tw6_98 ts7_6 oS38 B.1 (by omega) (kX8_passes0  h2) rfl rfl (Nat.le_of_ble_eq_true rfl) ⟨Nat.le_refl _, Nat.le_refl _⟩ dX8_partOf_6 ?_
  refine g_if_eq 30 (by decide) dX8_partOf_9 (fun h3 => ?_) (fun h3 => ?_)
  · rw [if_pos h3] at hf
    refine g_aload_n rfl 0 rfl dX8_partOf_30 ?_
    refine g_aload_n rfl 0 rfl dX8_partOf_31 ?_
    refine g_get (j := 22) cok8 (by decide) (.int (sI q1.2 38 22)) (Or.inl tw4_197) oS38 (fun _ => rfl) dX8_partOf_32 ?_
    obtain ⟨q4, h5, hf⟩ := bnd_some hf
    refine g_callV0i (As := [.int (sI q1.2 38 22)]) (rest := []) cok8 mok_X8_codeAt tw6_80 tw6_82 ts7_2 oS38 B.1 (by omega) (kX8_codeAt  h5) rfl rfl (Nat.le_of_ble_eq_true rfl) ⟨Nat.le_refl _, Nat.le_refl _⟩ dX8_partOf_35 ?_
    refine g_istore_n rfl [(2, .int q4), (0, .ref (eB E + 38)), (1, .int p1)] (by decide) rfl dX8_partOf_38 ?_
    refine g_iconst (0 : Int32) (by decide) dX8_partOf_39 ?_
    refine g_istore_n rfl [(3, .int (0 : Int32)), (2, .int q4), (0, .ref (eB E + 38)), (1, .int p1)] (by decide) rfl dX8_partOf_40 ?_
    refine g_aload_n rfl 2 rfl dX8_partOf_41 ?_
    refine g_dup rfl dX8_partOf_42 ?_
    refine g_get (j := 22) cok8 (by decide) (.int (sI q1.2 38 22)) (Or.inl tw4_197) oS38 (fun _ => rfl) dX8_partOf_43 ?_
    refine g_iconst (1 : Int32) (by decide) dX8_partOf_46 ?_
    refine g_iadd dX8_partOf_47 ?_
    refine g_putI (j := 22) cok8 (by decide) rfl rfl rfl rfl (Or.inl tw4_197) oS38 B.2.1 wpI dX8_partOf_48 ?_
    refine g_aload_n rfl 2 rfl dX8_partOf_51 ?_
    refine g_get (j := 25) cok8 (by decide) (.int (sI (pI q1.2 38 22 ((sI q1.2 38 22) + (1 : Int32))) 38 25)) (Or.inl tw4_200) oS38 (fun _ => rfl) dX8_partOf_52 ?_
    refine g_if_eq 94 (by decide) dX8_partOf_55 (fun h6 => ?_) (fun h6 => ?_)
    · rw [if_pos h6] at hf
      refine g_lvs [2, 3, 1, 0] rfl ?_
      exact wX8_partOf_b94 hrc B  p1 q4 (0 : Int32) (pI q1.2 38 22 ((sI q1.2 38 22) + (1 : Int32))) hf
    · rw [if_neg h6] at hf
      refine g_iload_n rfl 1 rfl dX8_partOf_58 ?_
      refine g_bipush (13 : Int32) (by decide) dX8_partOf_59 ?_
      refine g_icmp_eq 70 (by decide) dX8_partOf_61 (fun h7 => ?_) (fun h7 => ?_)
      · rw [if_pos h7] at hf
        refine g_lvs [2, 3, 1] rfl ?_
        exact wX8_partOf_b70 hrc B  p1 q4 (pI q1.2 38 22 ((sI q1.2 38 22) + (1 : Int32))) hf
      · rw [if_neg h7] at hf
        refine g_iload_n rfl 1 rfl dX8_partOf_64 ?_
        refine g_bipush (19 : Int32) (by decide) dX8_partOf_65 ?_
        refine g_icmp_ne 94 (by decide) dX8_partOf_67 (fun h8 => ?_) (fun h8 => ?_)
        · rw [if_neg h8] at hf
          refine g_lvs [2, 3, 1, 0] rfl ?_
          exact wX8_partOf_b94 hrc B  p1 q4 (0 : Int32) (pI q1.2 38 22 ((sI q1.2 38 22) + (1 : Int32))) hf
        · rw [if_pos h8] at hf
          refine g_lvs [2, 3, 1] rfl ?_
          exact wX8_partOf_b70 hrc B  p1 q4 (pI q1.2 38 22 ((sI q1.2 38 22) + (1 : Int32))) hf
  · rw [if_neg h3] at hf
    refine g_aload_n rfl 0 rfl dX8_partOf_12 ?_
    refine g_iload_n rfl 1 rfl dX8_partOf_13 ?_
    obtain ⟨q9, h10, hf⟩ := bnd_some hf
    refine g_callV0l (As := [.int p1]) (rest := []) cok8 mok_X8_sumOf tw6_84 tw6_86 ts7_3 oS38 B.1 (by omega) (hrc.1 h10) rfl rfl (Nat.le_of_ble_eq_true rfl) ⟨Nat.le_refl _, Nat.le_refl _⟩ dX8_partOf_14 ?_
    refine g_lstore_n rfl [(2, .long q9.1), (0, .ref (eB E + 38)), (1, .int p1)] (by decide) rfl dX8_partOf_17 ?_
    refine g_aload_n rfl 1 rfl dX8_partOf_18 ?_
    refine g_dup rfl dX8_partOf_19 ?_
    refine g_get (j := 22) cok8 (by decide) (.int (sI q9.2 38 22)) (Or.inl tw4_197) oS38 (fun _ => rfl) dX8_partOf_20 ?_
    refine g_iconst (1 : Int32) (by decide) dX8_partOf_23 ?_
    refine g_iadd dX8_partOf_24 ?_
    refine g_putI (j := 22) cok8 (by decide) rfl rfl rfl rfl (Or.inl tw4_197) oS38 B.2.1 wpI dX8_partOf_25 ?_
    refine g_lload_n rfl 0 rfl dX8_partOf_28 ?_
    exact g_lret B.2.2.2 B.2.2.1 (congrArg (fun z => some (Value.long z)) (Prod.mk.inj (Option.some.inj hf)).1.symm) (Prod.mk.inj (Option.some.inj hf)).2.symm dX8_partOf_29
def LG1 : Nat → TG1
  | 0 => (fun _ _ => none, fun _ _ => none, fun _ _ => none)
  | d + 1 => (fX8_sumOf_g (LG1 d), fX8_termOf_g (LG1 d), fX8_partOf_g (LG1 d))
theorem okLG1 (l : Launch) (E : Ev) : ∀ d, RcOK1 l E (LG1 d) d := by
  intro d
  induction d with
  | zero => exact ⟨(fun h => nomatch h), (fun h => nomatch h), (fun h => nomatch h)⟩
  | succ d ih => exact ⟨fun {st} {p1} {r0} {u0} hf => CM.intro mok_X8_sumOf (Nat.le_of_ble_eq_true rfl) (fun x hl hR ht hr hQ _ => by subst hl; exact wX8_sumOf ih ⟨hR, ht, hr, hQ⟩ p1 st hf),
    fun {st} {p1} {r0} {u0} hf => CM.intro mok_X8_termOf (Nat.le_of_ble_eq_true rfl) (fun x hl hR ht hr hQ _ => by subst hl; exact wX8_termOf ih ⟨hR, ht, hr, hQ⟩ p1 st hf),
    fun {st} {p1} {r0} {u0} hf => CM.intro mok_X8_partOf (Nat.le_of_ble_eq_true rfl) (fun x hl hR ht hr hQ _ => by subst hl; exact wX8_partOf ih ⟨hR, ht, hr, hQ⟩ p1 st hf)⟩
def fX8_sumOf (p1 : Int32) (st : St) : Option (Int64 × St) := (LG1 100).1 p1 st
theorem kX8_sumOf {l : Launch} {E : Ev} {st : St} {p1 : Int32} {r0 : Int64} {u0 : St} (hf : fX8_sumOf p1 st = some (r0, u0)) : CM l E WT yX8_sumOf cX8_sumOf 7 (some FieldType.long) 104 0 0 [.ref (eB E + 38), .int p1] st (some (.long r0)) u0 := (okLG1 l E 100).1 hf
def fX8_termOf (p1 : Int32) (st : St) : Option (Int64 × St) := (LG1 100).2.1 p1 st
theorem kX8_termOf {l : Launch} {E : Ev} {st : St} {p1 : Int32} {r0 : Int64} {u0 : St} (hf : fX8_termOf p1 st = some (r0, u0)) : CM l E WT yX8_termOf cX8_termOf 7 (some FieldType.long) 104 0 0 [.ref (eB E + 38), .int p1] st (some (.long r0)) u0 := (okLG1 l E 100).2.1 hf
def fX8_partOf (p1 : Int32) (st : St) : Option (Int64 × St) := (LG1 100).2.2 p1 st
theorem kX8_partOf {l : Launch} {E : Ev} {st : St} {p1 : Int32} {r0 : Int64} {u0 : St} (hf : fX8_partOf p1 st = some (r0, u0)) : CM l E WT yX8_partOf cX8_partOf 4 (some FieldType.long) 104 0 0 [.ref (eB E + 38), .int p1] st (some (.long r0)) u0 := (okLG1 l E 100).2.2 hf
