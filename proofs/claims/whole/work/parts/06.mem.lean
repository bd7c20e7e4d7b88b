def ClsOK (k : Nat) (C : String) (T : u_T) (N : Nat) : Prop := classes[k]? = some (C, T, N) ∧ (∀ w ∈ u_ws C T N, w ∈ gtbl) ∧ k < 9 ∧ nf k = N ∧ (∀ j, j < N → (T j).1 = C) ∧ (∀ j, j < N → parseFieldDescriptor (T j).2.2.1 = some (tyOf k j)) ∧ (∀ a, a < N → ∀ b, b < N → a ≠ b → (T a).2.1 ≠ (T b).2.1)
theorem cok0 : ClsOK 0 RX0 TX0 6 := ⟨rfl, inX0, by decide, rfl, by decide +kernel, tyX0_ok, nmX0⟩
theorem cok1 : ClsOK 1 RX1 TX1 12 := ⟨rfl, inX1, by decide, rfl, by decide +kernel, tyX1_ok, nmX1⟩
theorem cok2 : ClsOK 2 RX2 TX2 2 := ⟨rfl, inX2, by decide, rfl, by decide +kernel, tyX2_ok, nmX2⟩
theorem cok3 : ClsOK 3 RX3 TX3 9 := ⟨rfl, inX3, by decide, rfl, by decide +kernel, tyX3_ok, nmX3⟩
theorem cok4 : ClsOK 4 RX4 TX4 9 := ⟨rfl, inX4, by decide, rfl, by decide +kernel, tyX4_ok, nmX4⟩
theorem cok5 : ClsOK 5 RX5 TX5 8 := ⟨rfl, inX5, by decide, rfl, by decide +kernel, tyX5_ok, nmX5⟩
theorem cok6 : ClsOK 6 RX6 TX6 11 := ⟨rfl, inX6, by decide, rfl, by decide +kernel, tyX6_ok, nmX6⟩
theorem cok7 : ClsOK 7 RX7 TX7 15 := ⟨rfl, inX7, by decide, rfl, by decide +kernel, tyX7_ok, nmX7⟩
theorem cok8 : ClsOK 8 RX8 TX8 59 := ⟨rfl, inX8, by decide, rfl, by decide +kernel, tyX8_ok, nmX8⟩
theorem W_size {p : Program} {l : Launch} {e : Env} {R : Room} {s : State} {m : MethodId} {args : Array Value} {below : List Frame} {meth : Method} {c : Code} {H : Heap} {locs : List Loc} {cells slots : Nat} {Q : State → Prop} {g : JFrame} (k : H.size ≤ s.heap.size + cells → W p l e R s m args below meth c H locs cells slots Q g) : W p l e R s m args below meth c H locs cells slots Q g := by
  intro T hT X
  exact k (by have h := X.same.2.2.1; rw [← hT]; exact h) T hT X
theorem hold_lo {E : Ev} {st : St} {H : Heap} (h : va_P (eD E) classes (wd E st) H) (h0 : 0 < sn st) : eB E + sn st ≤ H.size := by
  have hlt := (h (sn st - 1) _ (wd_at (by omega))).lt
  simp only at hlt
  omega
theorem slot_ref {bs : Nat} {st : St} {a c j b : Nat} (hc : c = 2) (h : sR st a j = some b) : slotV bs st a c j = .ref (bs + b) := by
  subst hc; simp [slotV, h, va_rf]
theorem arr_at {E : Ev} {st : St} {k n a : Nat} (ho : Arr st k n a) (h1 : ¬ k < 9) (h2 : k ≠ 11) (h3 : k < 13) : (wd E st)[a]? = some (eB E + a, .inl (eC E k, n, .inl (sI st a))) := by
  rw [wd_arr ho.obj h1]; simp [ents, ho.2.2, h2, h3]
theorem arr_atL {E : Ev} {st : St} {n a : Nat} (ho : Arr st 11 n a) : (wd E st)[a]? = some (eB E + a, .inl (eC E 11, n, .inr (.inl (sL st a)))) := by
  rw [wd_arr ho.obj (by decide)]; simp [ents, ho.2.2]
theorem arr_atR {E : Ev} {st : St} {k n a : Nat} (ho : Arr st k n a) (h1 : ¬ k < 13) : (wd E st)[a]? = some (eB E + a, .inl (eC E k, n, .inr (.inr (.inr (.inr (fun j => (sR st a j).map (fun z => eB E + z))))))) := by
  have h9 : ¬ k < 9 := by omega
  have h11 : ¬ k = 11 := by omega
  rw [wd_arr ho.obj h9]; simp [ents, ho.2.2, h1, h11]
section MRows
variable {E : Ev} {wt : St → Prop} {x : Cx} {own : String} {cc : ByteArray} {nL : Nat} {cs : Nat × Nat} {st : St} {pc : Nat} {lv lv' : List (Nat × Value)} {stk : List Value}
theorem tight_of {H1 H : Heap} {st1 : St} {a : Nat} {ob : Nat} (ht : xt x) (ha : a < sn st1) (hH : Hold E st H) (hz : xt x → H.size = (xs x).heap.size + cs.1) (hP1 : va_P (eD E) classes (wd E st1) H1) (hn : sn st1 = sn st) (hb : H1.size ≤ (xs x).heap.size + cs.1) : Hold E st1 H1 ∧ (xt x → H1.size = (xs x).heap.size + cs.1) := by
  have h1 := hold_lo hP1 (by omega)
  have h2 := hz ht
  have h3 := hH.2
  exact ⟨⟨hP1, by omega⟩, fun _ => by omega⟩
theorem g_get {k a j idx N : Nat} {C : String} {T : u_T} (ok : ClsOK k C T N) (hj : j < N) (v : Value) (hw : Cond.fieldLink own idx C (T j).2.1 (T j).2.2.1 ∈ gtbl ∨ ((own, idx, C, (T j).2.1, (T j).2.2.1, RX7) : NfT) ∈ nestF) (ho : wt st → Obj st k a) (hv : wt st → slotV (eB E) st a (fty k j) j = v) (d : decode cc pc = .ok (.getfield idx, 3)) (kk : G E wt x own cc nL cs st (pc + 3) lv (v :: stk)) : G E wt x own cc nL cs st pc lv (.ref (eB E + a) :: stk) := by
  intro C0 w H locs ls hH hz hS hl
  obtain ⟨hc, hin, hk, hN, hT, hty, hnm⟩ := ok
  have he := wd_obj (E := E) (ho w) hk
  have hv2 : (flds (eB E) st a k)[j]? = some v := by rw [← hv w]; simp [flds, hN, hj]
  rcases hw with hw | hw
  · exact va_get C0.ex C0.cb C0.ts hin C0.ow C0.K hH.1 a he hc j hj (C0.ts _ hw) (fun y h => by rw [hT j hj] at h; exact h) hv2 d (kk C0 w H locs ls hH hz hS hl)
  · exact va_getN C0.ex C0.cb C0.ts hin C0.ow C0.K hH.1 a he hc j hj (va_Nw.use rfl (C0.ew.2.1 _ hw)) (fun y h => by rw [hT j hj] at h; exact h) hv2 d (kk C0 w H locs ls hH hz hS hl)
theorem g_put {k a j idx N : Nat} {C : String} {T : u_T} (ok : ClsOK k C T N) (hj : j < N) (v : Value) (st' : St) (hfin : (T j).2.2.2 = false) (hn : narrow (tyOf k j) v = v) (hfit : fits (tyOf k j) v = true) (hw : Cond.fieldLink own idx C (T j).2.1 (T j).2.2.1 ∈ gtbl ∨ ((own, idx, C, (T j).2.1, (T j).2.2.1, RX7) : NfT) ∈ nestF) (ho : wt st → Obj st k a) (hsn : sn st' = sn st) (he1 : wt st → ent E st' a = .inr (k, (flds (eB E) st a k).set j v)) (he2 : ∀ b, b ≠ a → ent E st' b = ent E st b) (ht : xt x) (hx : wt st → wt st') (d : decode cc pc = .ok (.putfield idx, 3)) (kk : G E wt x own cc nL cs st' (pc + 3) lv stk) : G E wt x own cc nL cs st pc lv (v :: .ref (eB E + a) :: stk) := by
  intro C0 w H locs ls hH hz hS hl
  obtain ⟨hc, hin, hk, hN, hT, hty, hnm⟩ := ok
  have he := wd_obj (E := E) (ho w) hk
  have hlen : j < (flds (eB E) st a k).length := by simp [flds, hN, hj]
  have fin : ∀ (H1 : Heap) (locs1 : List Loc), va_P (eD E) classes ((wd E st).set a (eB E + a, .inr (k, (flds (eB E) st a k).set j v))) H1 → va_D (eA E) ((wd E st).set a (eB E + a, .inr (k, (flds (eB E) st a k).set j v))) → va_S (eA E) (xs x).heap H1 locs1 → W (xp x) (xl x) (xe x) (xR x) (xs x) (xm x) (xa x) (xb x) (xM x) (xc x) H1 locs1 cs.1 cs.2 (xQ x) (F0 (xm x) (pc + 3) ls stk) := by
    intro H1 locs1 hP1 _ hS1
    rw [wd_set hsn (he1 w) he2] at hP1
    refine W_size fun hb => ?_
    obtain ⟨h1, h2⟩ := tight_of (a := a) (ob := 0) ht (by rw [hsn]; exact (ho w).1) hH hz hP1 hsn hb
    exact kk C0 (hx w) H1 locs1 ls h1 h2 hS1 hl
  rcases hw with hw | hw
  · exact va_put C0.ex C0.cb C0.ts hin (tyOf k) hty hnm C0.ow C0.K hH.1 (wd_D E st) hS a he hc j hj (C0.ts _ hw) (fun y h => by rw [hT j hj] at h; exact h) hfin (hty j hj) hn hfit hlen d fin
  · exact va_putN C0.ex C0.cb C0.ts hin (tyOf k) hty hnm C0.ow C0.K hH.1 (wd_D E st) hS a he hc j hj (va_Nw.use rfl (C0.ew.2.1 _ hw)) (fun y h => by rw [hT j hj] at h; exact h) hfin (hty j hj) hn hfit hlen d fin
theorem g_putI {k a j idx N : Nat} {C : String} {T : u_T} {v : Int32} (ok : ClsOK k C T N) (hj : j < N) (hf : fty k j = 0) (hfin : (T j).2.2.2 = false) (hn : narrow (tyOf k j) (.int v) = .int v) (hfit : fits (tyOf k j) (.int v) = true) (hw : Cond.fieldLink own idx C (T j).2.1 (T j).2.2.1 ∈ gtbl ∨ ((own, idx, C, (T j).2.1, (T j).2.2.1, RX7) : NfT) ∈ nestF) (ho : wt st → Obj st k a) (ht : xt x) (hx : wt st → wt (pI st a j v)) (d : decode cc pc = .ok (.putfield idx, 3)) (kk : G E wt x own cc nL cs (pI st a j v) (pc + 3) lv stk) : G E wt x own cc nL cs st pc lv (.int v :: .ref (eB E + a) :: stk) :=
  g_put ok hj (.int v) (pI st a j v) hfin hn hfit hw ho rfl (fun w => fld_pI (ho w) ok.2.2.1 hf) (fun _ hb => ent_pI_ne hb) ht hx d kk
theorem g_putL {k a j idx N : Nat} {C : String} {T : u_T} {v : Int64} (ok : ClsOK k C T N) (hj : j < N) (hf : fty k j = 1) (hfin : (T j).2.2.2 = false) (hn : narrow (tyOf k j) (.long v) = .long v) (hfit : fits (tyOf k j) (.long v) = true) (hw : Cond.fieldLink own idx C (T j).2.1 (T j).2.2.1 ∈ gtbl ∨ ((own, idx, C, (T j).2.1, (T j).2.2.1, RX7) : NfT) ∈ nestF) (ho : wt st → Obj st k a) (ht : xt x) (hx : wt st → wt (pL st a j v)) (d : decode cc pc = .ok (.putfield idx, 3)) (kk : G E wt x own cc nL cs (pL st a j v) (pc + 3) lv stk) : G E wt x own cc nL cs st pc lv (.long v :: .ref (eB E + a) :: stk) :=
  g_put ok hj (.long v) (pL st a j v) hfin hn hfit hw ho rfl (fun w => fld_pL (ho w) ok.2.2.1 hf) (fun _ hb => ent_pL_ne hb) ht hx d kk
theorem g_putR {k a j idx N : Nat} {C : String} {T : u_T} {r : Option Nat} (ok : ClsOK k C T N) (hj : j < N) (hf : fty k j = 2) (hfin : (T j).2.2.2 = false) (hn : narrow (tyOf k j) (va_rf (r.map (fun z => eB E + z))) = va_rf (r.map (fun z => eB E + z))) (hfit : fits (tyOf k j) (va_rf (r.map (fun z => eB E + z))) = true) (hw : Cond.fieldLink own idx C (T j).2.1 (T j).2.2.1 ∈ gtbl ∨ ((own, idx, C, (T j).2.1, (T j).2.2.1, RX7) : NfT) ∈ nestF) (ho : wt st → Obj st k a) (ht : xt x) (hx : wt st → wt (pR st a j r)) (d : decode cc pc = .ok (.putfield idx, 3)) (kk : G E wt x own cc nL cs (pR st a j r) (pc + 3) lv stk) : G E wt x own cc nL cs st pc lv (va_rf (r.map (fun z => eB E + z)) :: .ref (eB E + a) :: stk) :=
  g_put ok hj _ (pR st a j r) hfin hn hfit hw ho rfl (fun w => fld_pR (ho w) ok.2.2.1 hf) (fun _ hb => ent_pR_ne hb) ht hx d kk

theorem g_iald {a n : Nat} {i : Int32} (ho : wt st → Arr st 10 n a) (hi : vp_in i n) (d : decode cc pc = .ok (.iaload, 1)) (kk : G E wt x own cc nL cs st (pc + 1) lv (.int (sI st a i.toNatClampNeg) :: stk)) : G E wt x own cc nL cs st pc lv (.int i :: .ref (eB E + a) :: stk) := by
  intro C w H locs ls hH hz hS hl
  exact va_iald C.ex C.cb C.K hH.1 a 1 (arr_at (ho w) (by decide) (by decide) (by decide)) rfl hi d (kk C w H locs ls hH hz hS hl)
theorem g_iast {a n : Nat} {i v : Int32} (ho : wt st → Arr st 10 n a) (hi : vp_in i n) (ht : xt x) (hx : wt st → wt (pI st a i.toNatClampNeg (v))) (d : decode cc pc = .ok (.iastore, 1)) (kk : G E wt x own cc nL cs (pI st a i.toNatClampNeg (v)) (pc + 1) lv stk) : G E wt x own cc nL cs st pc lv (.int v :: .int i :: .ref (eB E + a) :: stk) := by
  intro C w H locs ls hH hz hS hl
  refine va_iast C.ex C.cb C.K hH.1 (wd_D E st) hS a 1 (arr_at (ho w) (by decide) (by decide) (by decide)) rfl hi d (fun H1 locs1 hP1 _ hS1 => ?_)
  rw [wd_set (E := E) (st := st) (st' := pI st a i.toNatClampNeg (v)) rfl (arr_pI (ho w) (by decide) (by decide) (by decide)) (fun _ hb => ent_pI_ne hb)] at hP1
  refine W_size fun hb => ?_
  obtain ⟨h1, h2⟩ := tight_of (st1 := pI st a i.toNatClampNeg (v)) (a := a) (ob := 0) ht (ho w).1 hH hz hP1 rfl hb
  exact kk C (hx w) H1 locs1 ls h1 h2 hS1 hl
theorem g_bald {a n : Nat} {i : Int32} (ho : wt st → Arr st 9 n a) (hi : vp_in i n) (d : decode cc pc = .ok (.baload, 1)) (kk : G E wt x own cc nL cs st (pc + 1) lv (.int (sI st a i.toNatClampNeg) :: stk)) : G E wt x own cc nL cs st pc lv (.int i :: .ref (eB E + a) :: stk) := by
  intro C w H locs ls hH hz hS hl
  exact va_bald C.ex C.cb C.K hH.1 a 0 (arr_at (ho w) (by decide) (by decide) (by decide)) rfl hi d (kk C w H locs ls hH hz hS hl)
theorem g_bast {a n : Nat} {i v : Int32} (ho : wt st → Arr st 9 n a) (hi : vp_in i n) (ht : xt x) (hx : wt st → wt (pI st a i.toNatClampNeg (vp_nar .byte v))) (d : decode cc pc = .ok (.bastore, 1)) (kk : G E wt x own cc nL cs (pI st a i.toNatClampNeg (vp_nar .byte v)) (pc + 1) lv stk) : G E wt x own cc nL cs st pc lv (.int v :: .int i :: .ref (eB E + a) :: stk) := by
  intro C w H locs ls hH hz hS hl
  refine va_bast C.ex C.cb C.K hH.1 (wd_D E st) hS a 0 (arr_at (ho w) (by decide) (by decide) (by decide)) rfl hi d (fun H1 locs1 hP1 _ hS1 => ?_)
  rw [wd_set (E := E) (st := st) (st' := pI st a i.toNatClampNeg (vp_nar .byte v)) rfl (arr_pI (ho w) (by decide) (by decide) (by decide)) (fun _ hb => ent_pI_ne hb)] at hP1
  refine W_size fun hb => ?_
  obtain ⟨h1, h2⟩ := tight_of (st1 := pI st a i.toNatClampNeg (vp_nar .byte v)) (a := a) (ob := 0) ht (ho w).1 hH hz hP1 rfl hb
  exact kk C (hx w) H1 locs1 ls h1 h2 hS1 hl
theorem g_zald {a n : Nat} {i : Int32} (ho : wt st → Arr st 12 n a) (hi : vp_in i n) (d : decode cc pc = .ok (.baload, 1)) (kk : G E wt x own cc nL cs st (pc + 1) lv (.int (sI st a i.toNatClampNeg) :: stk)) : G E wt x own cc nL cs st pc lv (.int i :: .ref (eB E + a) :: stk) := by
  intro C w H locs ls hH hz hS hl
  exact va_zald C.ex C.cb C.K hH.1 a 3 (arr_at (ho w) (by decide) (by decide) (by decide)) rfl hi d (kk C w H locs ls hH hz hS hl)
theorem g_zast {a n : Nat} {i v : Int32} (ho : wt st → Arr st 12 n a) (hi : vp_in i n) (ht : xt x) (hx : wt st → wt (pI st a i.toNatClampNeg (vp_nar .boolean v))) (d : decode cc pc = .ok (.bastore, 1)) (kk : G E wt x own cc nL cs (pI st a i.toNatClampNeg (vp_nar .boolean v)) (pc + 1) lv stk) : G E wt x own cc nL cs st pc lv (.int v :: .int i :: .ref (eB E + a) :: stk) := by
  intro C w H locs ls hH hz hS hl
  refine va_zast C.ex C.cb C.K hH.1 (wd_D E st) hS a 3 (arr_at (ho w) (by decide) (by decide) (by decide)) rfl hi d (fun H1 locs1 hP1 _ hS1 => ?_)
  rw [wd_set (E := E) (st := st) (st' := pI st a i.toNatClampNeg (vp_nar .boolean v)) rfl (arr_pI (ho w) (by decide) (by decide) (by decide)) (fun _ hb => ent_pI_ne hb)] at hP1
  refine W_size fun hb => ?_
  obtain ⟨h1, h2⟩ := tight_of (st1 := pI st a i.toNatClampNeg (vp_nar .boolean v)) (a := a) (ob := 0) ht (ho w).1 hH hz hP1 rfl hb
  exact kk C (hx w) H1 locs1 ls h1 h2 hS1 hl
theorem g_lald {a n : Nat} {i : Int32} (ho : wt st → Arr st 11 n a) (hi : vp_in i n) (d : decode cc pc = .ok (.laload, 1)) (kk : G E wt x own cc nL cs st (pc + 1) lv (.long (sL st a i.toNatClampNeg) :: stk)) : G E wt x own cc nL cs st pc lv (.int i :: .ref (eB E + a) :: stk) := by
  intro C w H locs ls hH hz hS hl
  exact va_lald C.ex C.cb C.K hH.1 a 2 (arr_atL (ho w)) rfl hi d (kk C w H locs ls hH hz hS hl)
theorem g_last {a n : Nat} {i : Int32} {v : Int64} (ho : wt st → Arr st 11 n a) (hi : vp_in i n) (ht : xt x) (hx : wt st → wt (pL st a i.toNatClampNeg v)) (d : decode cc pc = .ok (.lastore, 1)) (kk : G E wt x own cc nL cs (pL st a i.toNatClampNeg v) (pc + 1) lv stk) : G E wt x own cc nL cs st pc lv (.long v :: .int i :: .ref (eB E + a) :: stk) := by
  intro C w H locs ls hH hz hS hl
  refine va_last C.ex C.cb C.K hH.1 (wd_D E st) hS a 2 (arr_atL (ho w)) rfl hi d (fun H1 locs1 hP1 _ hS1 => ?_)
  rw [wd_set (E := E) (st := st) (st' := pL st a i.toNatClampNeg v) rfl (arr_pL (ho w)) (fun _ hb => ent_pL_ne hb)] at hP1
  refine W_size fun hb => ?_
  obtain ⟨h1, h2⟩ := tight_of (st1 := pL st a i.toNatClampNeg v) (a := a) (ob := 0) ht (ho w).1 hH hz hP1 rfl hb
  exact kk C (hx w) H1 locs1 ls h1 h2 hS1 hl
theorem g_aaldS {a n : Nat} {i : Int32} (ho : wt st → Arr st 14 n a) (hi : vp_in i n) (d : decode cc pc = .ok (.aaload, 1)) (kk : G E wt x own cc nL cs st (pc + 1) lv (va_rf ((sR st a i.toNatClampNeg).map (fun z => eB E + z)) :: stk)) : G E wt x own cc nL cs st pc lv (.int i :: .ref (eB E + a) :: stk) := by
  intro C w H locs ls hH hz hS hl
  exact va_aldq C.ex C.cb C.K hH.1 a 5 (arr_atR (ho w) (by decide)) rfl hi d (kk C w H locs ls hH hz hS hl)
theorem g_aaldG {a n : Nat} {i : Int32} (ho : wt st → Arr st 13 n a) (hi : vp_in i n) (d : decode cc pc = .ok (.aaload, 1)) (kk : G E wt x own cc nL cs st (pc + 1) lv (va_rf ((sR st a i.toNatClampNeg).map (fun z => eB E + z)) :: stk)) : G E wt x own cc nL cs st pc lv (.int i :: .ref (eB E + a) :: stk) := by
  intro C w H locs ls hH hz hS hl
  exact va_aldq C.ex C.cb C.K hH.1 a 4 (arr_atR (ho w) (by decide)) rfl hi d (kk C w H locs ls hH hz hS hl)
theorem g_alen {k a n : Nat} (t0 : Nat) {ty : FieldType} (ho : wt st → Arr st k n a) (h9 : ¬ k < 9) (hty : (tysE E)[t0]? = some (eC E k, ty)) (d : decode cc pc = .ok (.arraylength, 1)) (kk : G E wt x own cc nL cs st (pc + 1) lv (.int (nI n) :: stk)) : G E wt x own cc nL cs st pc lv (.ref (eB E + a) :: stk) := by
  intro C w H locs ls hH hz hS hl
  have he := wd_arr (E := E) (ho w).obj h9
  exact va_alen C.ex C.cb C.K hH.1 a t0 he hty (by simp [ents, (ho w).2.2, nI]) d (kk C w H locs ls hH hz hS hl)
/-- what comes of a method: this answer, that state -/
def QcP (E : Ev) (wt : St → Prop) (v0 : Option Value) (u0 : St) : Array Value → State → Outcome → State → Prop := fun _ s o t => (o = .returned v0 ∧ Hold E u0 t.heap ∧ wt u0) ∧ va_F (eA E) s t
def PcM (E : Ev) (wt : St → Prop) (args : List Value) (st : St) : Array Value → State → Prop := va_Pc args (fun U => Ew E U ∧ Hold E st U.heap ∧ wt st)
def QM (E : Ev) (wt : St → Prop) (x : Cx) (v0 : Option Value) (u0 : St) (cs : Nat × Nat) : Prop := xQ x = MQ (xb x) (QcP E wt v0 u0) (xa x) (xs x) cs.1 cs.2 (eA E)
theorem g_iret {v : Int32} {v0 : Option Value} {u0 : St} (hQ : QM E wt x v0 u0 cs) (hr : (xM x).sig.returnType = some .int) (h1 : v0 = some (.int v)) (h2 : u0 = st) (d : decode cc pc = .ok (.ireturn, 1)) : G E wt x own cc nL cs st pc lv [.int v] := by
  intro C w H locs ls hH hz hS hl
  subst h1; subst h2
  rw [hQ]
  exact W.iret C.ex C.cb hr (fun t ht hW => ⟨⟨rfl, by rw [ht]; exact hH, w⟩, hS.F ht⟩) hS.2.2 d C.lk
theorem g_zret {v : Int32} {v0 : Option Value} {u0 : St} (hQ : QM E wt x v0 u0 cs) (hr : (xM x).sig.returnType = some .boolean) (hb : v = 0 ∨ v = 1) (h1 : v0 = some (.int v)) (h2 : u0 = st) (d : decode cc pc = .ok (.ireturn, 1)) : G E wt x own cc nL cs st pc lv [.int v] := by
  intro C w H locs ls hH hz hS hl
  subst h1; subst h2
  rw [hQ]
  exact W.zret C.ex C.cb hr (by rcases hb with rfl | rfl <;> rfl) (fun t ht hW => ⟨⟨rfl, by rw [ht]; exact hH, w⟩, hS.F ht⟩) hS.2.2 d C.lk
theorem g_lret {v : Int64} {v0 : Option Value} {u0 : St} (hQ : QM E wt x v0 u0 cs) (hr : (xM x).sig.returnType = some .long) (h1 : v0 = some (.long v)) (h2 : u0 = st) (d : decode cc pc = .ok (.lreturn, 1)) : G E wt x own cc nL cs st pc lv [.long v] := by
  intro C w H locs ls hH hz hS hl
  subst h1; subst h2
  rw [hQ]
  exact W.lret C.ex C.cb hr (fun t ht hW => ⟨⟨rfl, by rw [ht]; exact hH, w⟩, hS.F ht⟩) hS.2.2 d C.lk
theorem g_ret {v0 : Option Value} {u0 : St} (hQ : QM E wt x v0 u0 cs) (hr : (xM x).sig.returnType = none) (h1 : v0 = none) (h2 : u0 = st) (d : decode cc pc = .ok (.return_, 1)) : G E wt x own cc nL cs st pc lv [] := by
  intro C w H locs ls hH hz hS hl
  subst h1; subst h2
  rw [hQ]
  exact W.vret C.ex C.cb hr (fun t ht hW => ⟨⟨rfl, by rw [ht]; exact hH, w⟩, hS.F ht⟩) hS.2.2 d C.lk
theorem g_aret {v : Value} {n : String} {v0 : Option Value} {u0 : St} (hQ : QM E wt x v0 u0 cs) (hr : (xM x).sig.returnType = some (.object n)) (hv : v = .null ∨ ∃ a, v = .ref a) (h1 : v0 = some v) (h2 : u0 = st) (d : decode cc pc = .ok (.areturn, 1)) : G E wt x own cc nL cs st pc lv [v] := by
  intro C w H locs ls hH hz hS hl
  subst h1; subst h2
  rw [hQ]
  exact W.aret C.ex C.cb hr (Or.inl ⟨n, rfl⟩) hv (fun t ht hW => ⟨⟨rfl, by rw [ht]; exact hH, w⟩, hS.F ht⟩) hS.2.2 d C.lk
theorem run_go {p : Program} {l : Launch} {e : Env} {R : Room} {s : State} {m : MethodId} {args : Array Value} {below : List Frame} {meth : Method} {c : Code} {H : Heap} {locs : List Loc} {cells slots mc ms pc : Nat} {Q : State → Prop} {ls : Array Slot} {st0 rest : List Value} {a : Array Value} {v0 : Option Value} {u0 : St} {H0 : Heap}
    (hr : va_Run p l e R s m args below meth c H locs cells slots mc ms (F0 m pc ls st0) rest (QcP E wt v0 u0 a) (eA E)) (hS : va_S (eA E) H0 H locs)
    (kk : ∀ (H1 : Heap) (locs1 : List Loc), Hold E u0 H1 → wt u0 → H.size ≤ H1.size → va_S (eA E) H0 H1 locs1 → W p l e R s m args below meth c H1 locs1 (cells + mc) (slots + ms) Q (F0 m (pc + 3) ls (v0.toList ++ rest))) : W p l e R s m args below meth c H locs cells slots Q (F0 m pc ls st0) := by
  intro T hT X
  obtain ⟨v, st₀, t, T', L, h0, X', hL, e1, e2, ⟨⟨hv, hb, hw⟩, hz, hk⟩, st⟩ := hr T hT X
  have hv : v = v0 := by injection hv
  subst hv
  rw [h0] at hz hk
  obtain ⟨t2, a1, b1⟩ := kk T'.heap (locs ++ L) (by rw [e1]; exact hb) hw (by rw [e1]; exact hz)
    ⟨Nat.le_trans hS.1 (by rw [e1]; exact hz), fun q h1 h2 => by rw [e1, hk q (Nat.lt_of_lt_of_le h1 hS.1) h2]; exact hS.2.1 q h1 h2, fun q hq => by
      rcases List.mem_append.mp hq with h | h
      · exact hS.2.2 q h
      · exact hL q h⟩ T' rfl X'
  exact ⟨t2, st t2 a1, b1⟩
def rmh (h mc ms : Nat) : Room := { frames := h, cells := mc, slots := ms, locals := 60 * h }
def wsm (y : MethodName) (bytes : ByteArray) (maxL : Nat) (ret : Option FieldType) : List Cond := Cond.code y bytes maxL ret :: gtbl
/-- a method's contract at these arguments in this state: it answers v0, the state is u0 -/
def CM (l : Launch) (E : Ev) (wt : St → Prop) (y : MethodName) (bytes : ByteArray) (maxL : Nat) (ret : Option FieldType) (h mc ms : Nat) (args : List Value) (st : St) (v0 : Option Value) (u0 : St) : Prop :=
  Met l y (wsm y bytes maxL ret) (rmh h mc ms) (PcM E wt args st) (QcP E wt v0 u0) mc ms (eA E)
def MOK (y : MethodName) (bytes : ByteArray) (maxL : Nat) (ret : Option FieldType) (n : Nat) : Prop := Cond.code y bytes maxL ret ∈ gtbl ∧ Cond.initialized y.cls ∈ gtbl ∧ (y.cls ≠ "java/lang/invoke/MethodHandle" ∧ y.cls ≠ "java/lang/invoke/VarHandle" ∧ (parseMethodDescriptor y.desc).map (fun d => d.parameters.length) = some n) ∧ plainName y.cls = true ∧ maxL ≤ 41
theorem wsm_good {y : MethodName} {bytes : ByteArray} {maxL : Nat} {ret : Option FieldType} (h : Cond.code y bytes maxL ret ∈ gtbl) : GoodIn gtbl (wsm y bytes maxL ret) := by
  intro w hw
  rcases List.mem_cons.mp hw with rfl | hw
  · exact gtbl_good _ h
  · exact gtbl_good _ hw
theorem blind {args : List Value} {st1 : St} : FrameBlind (PcM E wt args st1) := by
  intro a U g mk h
  obtain ⟨h1, h2, h3, h4⟩ := h
  exact ⟨h1, h2.same rfl rfl, h3, h4⟩
theorem pre_go {H : Heap} {locs : List Loc} {s : State} {args : List Value} {st1 : St} (hE : Ew E s) (hH : Hold E st1 H) (hw : wt st1) (hS : va_S (eA E) s.heap H locs) : ∀ U : State, U.heap = H → s.WarmedH U.vm → PcM E wt args st1 args.toArray U := by
  intro U hU hW
  exact ⟨rfl, hE.move hW (fun q h1 h2 => by rw [hU]; exact hS.2.1 q h1 h2), by rw [hU]; exact hH, hw⟩

theorem g_callV {y : MethodName} {bytes : ByteArray} {maxL n idx h h2 mc ms c2 s2 : Nat} {ret : Option FieldType} {As rest : List Value} {st1 : St} {v0 : Option Value} {u0 : St} {k b N : Nat} {C : String} {T : u_T} (ck : ClsOK k C T N) (ok : MOK y bytes maxL ret n) (w1 : Cond.methodLink own idx y ∈ gtbl) (w2 : Cond.instanceMethod y ∈ gtbl) (w3 : Cond.selects C y y ∈ gtbl) (ho : wt st → Obj st k b) (hR : xR x = rmh h2 c2 s2) (hh : h < h2) (hM : CM (xl x) E wt y bytes maxL ret h mc ms (.ref (eB E + b) :: As) st v0 u0) (hn : As.length = n) (hstk : stk = As.reverse ++ .ref (eB E + b) :: rest) (hroom : (rest.map fun v => v.category).sum ≤ 8) (hc : cs.1 + mc ≤ c2 ∧ cs.2 + ms ≤ s2) (hg : xt x → sn u0 = sn st + mc ∨ mc = 0) (d : decode cc pc = .ok (.invokevirtual idx, 3)) (kk : G E wt x own cc nL (cs.1 + mc, cs.2 + ms) u0 (pc + 3) lv (v0.toList ++ rest)) : G E wt x own cc nL cs st pc lv stk := by
  intro C0 w H locs ls hH hz hS hl
  subst hstk
  obtain ⟨k1, k2, k3, k4, k5⟩ := ok
  have hRm : (rmh h mc ms).frames + 1 ≤ (xR x).frames ∧ 8 + (maxL + 11) + (rmh h mc ms).locals ≤ (xR x).locals := by
    rw [hR]; simp only [rmh]; omega
  have hf : cs.1 + mc ≤ (xR x).cells ∧ cs.2 + ms ≤ (xR x).slots := by rw [hR]; exact hc
  have cw : CallW (xR x) (xs x) (xa x) own C idx y bytes maxL ret (wsm y bytes maxL ret) (rmh h mc ms) mc ms n := ⟨callB_of n C0.ts (wsm_good k1) rfl rfl rfl (C0.ts _ k2) (C0.ts _ w1) k3 hRm, C0.ts _ w2, C0.ts _ w3⟩
  have hp : PreV (xs x) H C (eB E + b) (PcM E wt (.ref (eB E + b) :: As) st) As := ⟨blind, va_recv C0.K hH.1 ck.1 (wd_obj (E := E) (ho w) ck.2.2.1), pre_go C0.ew hH w hS⟩
  refine run_go (va_runV ⟨C0.ex, C0.cb, C0.ml, C0.ow, C0.ts⟩ hM cw hp rfl hn hl.1 rfl (lv_room hroom) d hf) hS (fun H1 locs1 hH1 hw1 hz1 hS1 => ?_)
  refine W_size fun hb => ?_
  refine kk C0 hw1 H1 locs1 ls hH1 (fun ht => ?_) hS1 hl
  have e1 := hz ht
  have e2 := hH.2
  have e3 := hH1.2
  have e4 := hg ht
  simp only
  omega
theorem g_callVN {y : MethodName} {bytes : ByteArray} {maxL n idx h h2 mc ms c2 s2 : Nat} {ret : Option FieldType} {As rest : List Value} {st1 : St} {v0 : Option Value} {u0 : St} {k b N : Nat} {C : String} {T : u_T} (ck : ClsOK k C T N) (ok : MOK y bytes maxL ret n) (w1 : ((own, idx, y, RX7) : NmT) ∈ nestM) (w2 : Cond.instanceMethod y ∈ gtbl) (w3 : Cond.selects C y y ∈ gtbl) (ho : wt st → Obj st k b) (hR : xR x = rmh h2 c2 s2) (hh : h < h2) (hM : CM (xl x) E wt y bytes maxL ret h mc ms (.ref (eB E + b) :: As) st v0 u0) (hn : As.length = n) (hstk : stk = As.reverse ++ .ref (eB E + b) :: rest) (hroom : (rest.map fun v => v.category).sum ≤ 8) (hc : cs.1 + mc ≤ c2 ∧ cs.2 + ms ≤ s2) (hg : xt x → sn u0 = sn st + mc ∨ mc = 0) (d : decode cc pc = .ok (.invokevirtual idx, 3)) (kk : G E wt x own cc nL (cs.1 + mc, cs.2 + ms) u0 (pc + 3) lv (v0.toList ++ rest)) : G E wt x own cc nL cs st pc lv stk := by
  intro C0 w H locs ls hH hz hS hl
  subst hstk
  obtain ⟨k1, k2, k3, k4, k5⟩ := ok
  have hRm : (rmh h mc ms).frames + 1 ≤ (xR x).frames ∧ 8 + (maxL + 11) + (rmh h mc ms).locals ≤ (xR x).locals := by
    rw [hR]; simp only [rmh]; omega
  have hf : cs.1 + mc ≤ (xR x).cells ∧ cs.2 + ms ≤ (xR x).slots := by rw [hR]; exact hc
  have cw : va_CN (xR x) (xs x) (xa x) own idx y RX7 bytes maxL ret (wsm y bytes maxL ret) (rmh h mc ms) mc ms n ∧ (Cond.instanceMethod y).before (xa x) (xs x) = true ∧ (Cond.selects C y y).before (xa x) (xs x) = true := ⟨va_cnB n C0.ts (wsm_good k1) rfl rfl rfl (C0.ew.2.2.1 _ w1) (C0.ts _ k2) k3 hRm, C0.ts _ w2, C0.ts _ w3⟩
  have hp : PreV (xs x) H C (eB E + b) (PcM E wt (.ref (eB E + b) :: As) st) As := ⟨blind, va_recv C0.K hH.1 ck.1 (wd_obj (E := E) (ho w) ck.2.2.1), pre_go C0.ew hH w hS⟩
  refine run_go (va_runVN ⟨C0.ex, C0.cb, C0.ml, C0.ow, C0.ts⟩ hM cw hp rfl hn hl.1 rfl (lv_room hroom) d hf) hS (fun H1 locs1 hH1 hw1 hz1 hS1 => ?_)
  refine W_size fun hb => ?_
  refine kk C0 hw1 H1 locs1 ls hH1 (fun ht => ?_) hS1 hl
  have e1 := hz ht
  have e2 := hH.2
  have e3 := hH1.2
  have e4 := hg ht
  simp only
  omega
theorem g_callS {y : MethodName} {bytes : ByteArray} {maxL n idx h h2 mc ms c2 s2 : Nat} {ret : Option FieldType} {As rest : List Value} {st1 : St} {v0 : Option Value} {u0 : St} (ok : MOK y bytes maxL ret n) (w1 : Cond.methodLink own idx y ∈ gtbl) (w2 : Cond.static y ∈ gtbl) (hR : xR x = rmh h2 c2 s2) (hh : h < h2) (hM : CM (xl x) E wt y bytes maxL ret h mc ms (As) st v0 u0) (hn : As.length = n) (hstk : stk = As.reverse ++ rest) (hroom : (rest.map fun v => v.category).sum ≤ 8) (hc : cs.1 + mc ≤ c2 ∧ cs.2 + ms ≤ s2) (hg : xt x → sn u0 = sn st + mc ∨ mc = 0) (d : decode cc pc = .ok (.invokestatic idx, 3)) (kk : G E wt x own cc nL (cs.1 + mc, cs.2 + ms) u0 (pc + 3) lv (v0.toList ++ rest)) : G E wt x own cc nL cs st pc lv stk := by
  intro C0 w H locs ls hH hz hS hl
  subst hstk
  obtain ⟨k1, k2, k3, k4, k5⟩ := ok
  have hRm : (rmh h mc ms).frames + 1 ≤ (xR x).frames ∧ 8 + (maxL + 11) + (rmh h mc ms).locals ≤ (xR x).locals := by
    rw [hR]; simp only [rmh]; omega
  have hf : cs.1 + mc ≤ (xR x).cells ∧ cs.2 + ms ≤ (xR x).slots := by rw [hR]; exact hc
  have cw : CallB (xR x) (xs x) (xa x) own idx y bytes maxL ret (wsm y bytes maxL ret) (rmh h mc ms) mc ms n ∧ (Cond.static y).before (xa x) (xs x) = true := ⟨callB_of n C0.ts (wsm_good k1) rfl rfl rfl (C0.ts _ k2) (C0.ts _ w1) k3 hRm, C0.ts _ w2⟩
  have hp : PreS (xs x) H (PcM E wt As st) As := ⟨blind, pre_go C0.ew hH w hS⟩
  refine run_go (va_runS ⟨C0.ex, C0.cb, C0.ml, C0.ow, C0.ts⟩ hM cw hp rfl hn hl.1 rfl (lv_room hroom) d hf) hS (fun H1 locs1 hH1 hw1 hz1 hS1 => ?_)
  refine W_size fun hb => ?_
  refine kk C0 hw1 H1 locs1 ls hH1 (fun ht => ?_) hS1 hl
  have e1 := hz ht
  have e2 := hH.2
  have e3 := hH1.2
  have e4 := hg ht
  simp only
  omega
theorem g_callSN {y : MethodName} {bytes : ByteArray} {maxL n idx h h2 mc ms c2 s2 : Nat} {ret : Option FieldType} {As rest : List Value} {st1 : St} {v0 : Option Value} {u0 : St} (ok : MOK y bytes maxL ret n) (w1 : ((own, idx, y, RX7) : NmT) ∈ nestM) (w2 : Cond.static y ∈ gtbl) (hR : xR x = rmh h2 c2 s2) (hh : h < h2) (hM : CM (xl x) E wt y bytes maxL ret h mc ms (As) st v0 u0) (hn : As.length = n) (hstk : stk = As.reverse ++ rest) (hroom : (rest.map fun v => v.category).sum ≤ 8) (hc : cs.1 + mc ≤ c2 ∧ cs.2 + ms ≤ s2) (hg : xt x → sn u0 = sn st + mc ∨ mc = 0) (d : decode cc pc = .ok (.invokestatic idx, 3)) (kk : G E wt x own cc nL (cs.1 + mc, cs.2 + ms) u0 (pc + 3) lv (v0.toList ++ rest)) : G E wt x own cc nL cs st pc lv stk := by
  intro C0 w H locs ls hH hz hS hl
  subst hstk
  obtain ⟨k1, k2, k3, k4, k5⟩ := ok
  have hRm : (rmh h mc ms).frames + 1 ≤ (xR x).frames ∧ 8 + (maxL + 11) + (rmh h mc ms).locals ≤ (xR x).locals := by
    rw [hR]; simp only [rmh]; omega
  have hf : cs.1 + mc ≤ (xR x).cells ∧ cs.2 + ms ≤ (xR x).slots := by rw [hR]; exact hc
  have cw : va_CN (xR x) (xs x) (xa x) own idx y RX7 bytes maxL ret (wsm y bytes maxL ret) (rmh h mc ms) mc ms n ∧ (Cond.static y).before (xa x) (xs x) = true ∧ True := ⟨va_cnB n C0.ts (wsm_good k1) rfl rfl rfl (C0.ew.2.2.1 _ w1) (C0.ts _ k2) k3 hRm, C0.ts _ w2, trivial⟩
  have hp : PreS (xs x) H (PcM E wt As st) As := ⟨blind, pre_go C0.ew hH w hS⟩
  refine run_go (va_runSN ⟨C0.ex, C0.cb, C0.ml, C0.ow, C0.ts⟩ hM cw hp rfl hn hl.1 rfl (lv_room hroom) d hf) hS (fun H1 locs1 hH1 hw1 hz1 hS1 => ?_)
  refine W_size fun hb => ?_
  refine kk C0 hw1 H1 locs1 ls hH1 (fun ht => ?_) hS1 hl
  have e1 := hz ht
  have e2 := hH.2
  have e3 := hH1.2
  have e4 := hg ht
  simp only
  omega
theorem CM.intro {l : Launch} {y : MethodName} {bytes : ByteArray} {maxL n h mc ms : Nat} {ret : Option FieldType} {args : List Value} {v0 : Option Value} {u0 : St} (ok : MOK y bytes maxL ret n) (hlen : (lg_sl args).length ≤ maxL)
    (body : ∀ x : Cx, xl x = l → xR x = rmh h mc ms → xt x → (xM x).sig.returnType = ret → QM E wt x v0 u0 (mc, ms) → ((xM x).name = y.name) → G E wt x y.cls bytes maxL (0, 0) st 0 (lv_args 0 args) []) : CM l E wt y bytes maxL ret h mc ms args st v0 u0 := by
  refine Met.ofW (cc := bytes) (maxL := maxL) (ret := ret) ok.2.2.2.1 rfl ?_
  intro p e s m a below meth c s₁ B hml hv
  obtain ⟨rfl, hE, hH, hw⟩ := hv
  have hts := atoms_spec (ws := wsm y bytes maxL ret) B.pre
  have hl := lv_entry args (n := maxL) hlen
  rw [lg_entry_eq]
  generalize (lg_sl args ++ List.replicate (maxL - (lg_sl args).length) Slot.unset).toArray = ls at hl ⊢
  have hbs : eB E ≤ s.heap.size := by have := hH.2; omega
  exact body (p, l, e, rmh h mc ms, s, m, args.toArray, below, meth, c, MQ below (QcP E wt v0 u0) args.toArray s mc ms (eA E), True) rfl rfl trivial B.returns rfl (name_of_methodNamed B.named B.method).1 ⟨B.exec, B.bytes, hml, findClass_of_methodNamed B.named, fun w hw => hts w (List.mem_cons_of_mem _ hw), hE, B.notSynchronized, hbs⟩ hw s.heap [] ls hH (fun _ => rfl) va_S.rf hl
end MRows
