/-! making cells -/
def Wn : St → Prop := fun _ => True
def alc (st : St) (k n : Nat) : St := ((va_up st.1.1 (sn st) k, va_up st.1.2.1 (sn st) n, va_up st.1.2.2.1 (sn st) (fun _ => none), sn st + 1), va_up st.2.1 (sn st) (fun _ => 0), va_up st.2.2 (sn st) (fun _ => 0))
theorem alc_ob {st : St} {k n k2 a : Nat} (h : Obj st k2 a) : Obj (alc st k n) k2 a := by
  have h1 := h.1
  refine ⟨Nat.lt_succ_of_lt h1, ?_⟩
  show va_up st.1.1 (sn st) k a = k2
  unfold va_up
  rw [if_neg (by omega)]
  exact h.2
theorem alc_ar {st : St} {k n k2 n2 a : Nat} (h : Arr st k2 n2 a) : Arr (alc st k n) k2 n2 a := by
  have h1 := h.1
  refine ⟨Nat.lt_succ_of_lt h1, ?_, ?_⟩
  · show va_up st.1.1 (sn st) k a = k2
    unfold va_up
    rw [if_neg (by omega)]
    exact h.2.1
  · show va_up st.1.2.1 (sn st) n a = n2
    unfold va_up
    rw [if_neg (by omega)]
    exact h.2.2
theorem alc_new {st : St} {k n : Nat} : Arr (alc st k n) k n (sn st) := ⟨Nat.lt_succ_self _, by show va_up st.1.1 (sn st) k (sn st) = k; simp [va_up], by show va_up st.1.2.1 (sn st) n (sn st) = n; simp [va_up]⟩
theorem alc_I {st : St} {k n j : Nat} : sI (alc st k n) (sn st) j = 0 := by
  show va_up st.2.1 (sn st) (fun _ => (0 : Int32)) (sn st) j = 0
  simp [va_up]
theorem alc_L {st : St} {k n j : Nat} : sL (alc st k n) (sn st) j = 0 := by
  show va_up st.2.2 (sn st) (fun _ => (0 : Int64)) (sn st) j = 0
  simp [va_up]
theorem alc_R {st : St} {k n j : Nat} : sR (alc st k n) (sn st) j = none := by
  show va_up st.1.2.2.1 (sn st) (fun _ => none) (sn st) j = none
  simp [va_up]
theorem wd_alc {E : Ev} {st : St} {k n : Nat} : wd E (alc st k n) = wd E st ++ [(eB E + sn st, ent E (alc st k n) (sn st))] := by
  unfold wd
  rw [show sn (alc st k n) = sn st + 1 from rfl, List.range_succ, List.map_append]
  congr 1
  refine List.map_congr_left (fun b hb => ?_)
  have hb := List.mem_range.mp hb
  have ne : b ≠ sn st := by omega
  have e : ent E (alc st k n) b = ent E st b := ent_congr (by show va_up _ _ _ b = _; simp [va_up, ne, sK]) (by show va_up _ _ _ b = _; simp [va_up, ne, sN]) (by show va_up _ _ _ b = _; simp [va_up, ne]; rfl) (by show va_up _ _ _ b = _; simp [va_up, ne]; rfl) (by show va_up _ _ _ b = _; simp [va_up, ne]; rfl)
  rw [e]
theorem new_q {E : Ev} {st : St} {H1 : Heap} {q : Nat} {e : va_E} (hD : va_D (eA E) (wd E st ++ [(q, e)])) (hP : va_P (eD E) classes (wd E st ++ [(q, e)]) H1) (hb : H1.size ≤ eB E + sn st + 1) : q = eB E + sn st := by
  have hl : (wd E st).length = sn st := by simp [wd]
  have hi : (wd E st ++ [(q, e)])[sn st]? = some (q, e) := by
    rw [List.getElem?_append_right (by omega), hl]; simp
  have h1 : eB E ≤ q := hD.2 _ _ hi
  have h2 : q < H1.size := (hP _ _ hi).lt
  rcases Nat.lt_or_ge q (eB E + sn st) with h3 | h3
  · exfalso
    have ha : q - eB E < sn st := by omega
    have hj : (wd E st ++ [(q, e)])[q - eB E]? = some (eB E + (q - eB E), ent E st (q - eB E)) := by
      rw [List.getElem?_append_left (by omega)]; exact wd_at ha
    have := hD.1 _ _ _ _ hi hj (by simp only; omega)
    omega
  · omega
def dfl : FieldType → Bool := fun t => match t with | .int => true | .boolean => true | .byte => true | .long => true | .object _ => true | .array _ => true | _ => false
theorem dfl_slot {bs : Nat} {st : St} {k : Nat} {ty : FieldType} {j : Nat} (h : dfl ty = true) : defaultValue ty = slotV bs (alc st k 0) (sn st) (fcode ty) j := by
  have e1 : sI (alc st k 0) (sn st) j = 0 := alc_I
  have e2 : sL (alc st k 0) (sn st) j = 0 := alc_L
  have e3 : sR (alc st k 0) (sn st) j = none := alc_R
  cases ty <;> simp [dfl] at h <;> simp [defaultValue, fcode, slotV, e1, e2, e3, va_rf]
section R9
variable {E : Ev} {wt : St → Prop} {x : Cx} {own : String} {cc : ByteArray} {nL : Nat} {cs : Nat × Nat} {st : St} {pc : Nat} {lv lv' : List (Nat × Value)} {stk : List Value}
theorem g_new {k N idx h2 c2 s2 : Nat} {C : String} {T : u_T} (c1 s1 : Nat) (ok : ClsOK k C T N) (hcl : Cond.classLink own idx C ∈ gtbl) (hin : Cond.instantiable C N ∈ gtbl) (hini : Cond.initialized C ∈ gtbl) (hdf : ∀ j, j < N → dfl (tyOf k j) = true) (hR : xR x = rmh h2 c2 s2) (h1 : cs.1 + 1 = c1) (h3 : cs.2 + N = s1) (hc : c1 ≤ c2 ∧ s1 ≤ s2) (ht : xt x) (hx : wt st → wt (alc st k 0)) (d : decode cc pc = .ok (.new idx, 3)) (kk : G E wt x own cc nL (c1, s1) (alc st k 0) (pc + 3) lv (.ref (eB E + sn st) :: stk)) : G E wt x own cc nL cs st pc lv stk := by
  intro C0 w H locs ls hH hz hS hl
  subst h1; subst h3
  have hfs : ∀ j, j < N → defaultValue (tyOf k j) = vp_V (flds (eB E) (alc st k 0) (sn st) k) j := by
    intro j hj
    rw [dfl_slot (bs := eB E) (st := st) (k := k) (j := j) (hdf j hj)]
    have hj2 : j < nf k := by rw [ok.2.2.2.1]; exact hj
    simp [vp_V, flds, hj2, fty]
  refine va_new (ci := k) (fs := flds (eB E) (alc st k 0) (sn st) k) (C := C) (T := T) (N := N) C0.ex C0.cb C0.ts ok.2.1 (tyOf k) ok.2.2.2.2.2.1 C0.ow (C0.ts _ hcl) (C0.ts _ hin) (C0.ts _ hini) C0.K hH.1 (wd_D E st) hS C0.A ok.1 hfs (by rw [hR]; exact hc.1) (by rw [hR]; exact hc.2) d (fun q H1 hP1 hD1 hS1 => ?_)
  refine W_size fun hb => ?_
  have e1 := hz ht
  have e2 := hH.2
  have hq := new_q hD1 hP1 (by omega)
  subst hq
  have he : ent E (alc st k 0) (sn st) = .inr (k, flds (eB E) (alc st k 0) (sn st) k) := by
    have hk : sK (alc st k 0) (sn st) = k := alc_new.2.1
    unfold ent
    rw [hk, if_pos ok.2.2.1]
  rw [← he, ← wd_alc] at hP1
  have lo := hold_lo hP1 (Nat.succ_pos _)
  have hs2 : sn (alc st k 0) = sn st + 1 := rfl
  exact kk C0 (hx w) H1 locs ls ⟨hP1, by omega⟩ (fun _ => by simp only; omega) hS1 hl
theorem newa_fin {k n : Nat} {ls : Array Slot} {locs : List Loc} {H H1 : Heap} {q : Nat} {nn : Nat} (hk : ¬ k < 9) (C0 : Cf E x own cc nL) (w : wt st) (hH : Hold E st H) (hz : xt x → H.size = (xs x).heap.size + cs.1) (ht : xt x) (hl : lv_has ls nL lv) (hx : wt st → wt (alc st k n)) (hP1 : va_P (eD E) classes (wd E st ++ [(q, .inl (eC E k, ents (eB E) (alc st k n) (sn st) k))]) H1) (hD1 : va_D (eA E) (wd E st ++ [(q, .inl (eC E k, ents (eB E) (alc st k n) (sn st) k))])) (hS1 : va_S (eA E) (xs x).heap H1 locs) (kk : G E wt x own cc nL (cs.1 + 1, cs.2 + n) (alc st k n) (pc + nn) lv (.ref (eB E + sn st) :: stk)) : W (xp x) (xl x) (xe x) (xR x) (xs x) (xm x) (xa x) (xb x) (xM x) (xc x) H1 locs (cs.1 + 1) (cs.2 + n) (xQ x) (F0 (xm x) (pc + nn) ls (.ref q :: stk)) := by
  refine W_size fun hb => ?_
  have e1 := hz ht
  have e2 := hH.2
  have hq := new_q hD1 hP1 (by omega)
  subst hq
  have he : ent E (alc st k n) (sn st) = .inl (eC E k, ents (eB E) (alc st k n) (sn st) k) := by
    have hk2 : sK (alc st k n) (sn st) = k := alc_new.2.1
    unfold ent
    rw [hk2, if_neg hk]
  rw [← he, ← wd_alc] at hP1
  have lo := hold_lo hP1 (Nat.succ_pos _)
  have hs2 : sn (alc st k n) = sn st + 1 := rfl
  exact kk C0 (hx w) H1 locs ls ⟨hP1, by omega⟩ (fun _ => by simp only; omega) hS1 hl

theorem g_newa_byte {h2 c2 s2 n : Nat} {i : Int32} (c1 s1 : Nat) (hi : ¬ i < 0) (hn : i.toNatClampNeg = n) (hb : n ≤ 60000) (hR : xR x = rmh h2 c2 s2) (h1 : cs.1 + 1 = c1) (h3 : cs.2 + n = s1) (hc : c1 ≤ c2 ∧ s1 ≤ s2) (ht : xt x) (hx : wt st → wt (alc st 9 n)) (d : decode cc pc = .ok (.newarray .byte, 2)) (kk : G E wt x own cc nL (c1, s1) (alc st 9 n) (pc + 2) lv (.ref (eB E + sn st) :: stk)) : G E wt x own cc nL cs st pc lv (.int i :: stk) := by
  intro C0 w H locs ls hH hz hS hl
  subst h1; subst h3
  have hby : n * componentBytes .byte ≤ 536870912 := by
    have h8 : componentBytes .byte ≤ 8 := by decide
    exact Nat.le_trans (Nat.mul_le_mul hb h8) (by decide)
  refine va_newa (atype := .byte) (ty := .byte) (a0 := (n, .inl (fun _ => 0))) C0.ex C0.cb (C0.ts _ tw1_141) rfl C0.K hH.1 (wd_D E st) hS C0.A (fun _ => rfl) hi hn hby (by rw [hR]; exact hc.1) (by rw [hR]; exact hc.2) d (fun q cA H1 hK1 hP1 hD1 hS1 => ?_)
  have r1 : (xs x).vm.findClass ("[" ++ (.byte : FieldType).toString) = some cA := (hK1.2 6 (cA, .byte) rfl).2
  have r2 : (xs x).vm.findClass ("[" ++ (.byte : FieldType).toString) = some (eC E 9) := (C0.K.2 0 (eC E 9, .byte) rfl).2
  have hcA : cA = eC E 9 := Option.some.inj (r1.symm.trans r2)
  subst hcA
  have hen : ents (eB E) (alc st 9 n) (sn st) 9 = (n, .inl (fun _ => 0)) := by
    have hN : sN (alc st 9 n) (sn st) = n := alc_new.2.2
    have hF : sI (alc st 9 n) (sn st) = (fun _ => 0) := by funext j; first | exact alc_I | exact alc_L
    unfold ents
    rw [hN, hF]; rfl
  rw [← hen] at hP1 hD1
  exact newa_fin (by decide) C0 w hH hz ht hl hx hP1 hD1 hS1 kk
theorem g_newa_int {h2 c2 s2 n : Nat} {i : Int32} (c1 s1 : Nat) (hi : ¬ i < 0) (hn : i.toNatClampNeg = n) (hb : n ≤ 60000) (hR : xR x = rmh h2 c2 s2) (h1 : cs.1 + 1 = c1) (h3 : cs.2 + n = s1) (hc : c1 ≤ c2 ∧ s1 ≤ s2) (ht : xt x) (hx : wt st → wt (alc st 10 n)) (d : decode cc pc = .ok (.newarray .int, 2)) (kk : G E wt x own cc nL (c1, s1) (alc st 10 n) (pc + 2) lv (.ref (eB E + sn st) :: stk)) : G E wt x own cc nL cs st pc lv (.int i :: stk) := by
  intro C0 w H locs ls hH hz hS hl
  subst h1; subst h3
  have hby : n * componentBytes .int ≤ 536870912 := by
    have h8 : componentBytes .int ≤ 8 := by decide
    exact Nat.le_trans (Nat.mul_le_mul hb h8) (by decide)
  refine va_newa (atype := .int) (ty := .int) (a0 := (n, .inl (fun _ => 0))) C0.ex C0.cb (C0.ts _ tw1_83) rfl C0.K hH.1 (wd_D E st) hS C0.A (fun _ => rfl) hi hn hby (by rw [hR]; exact hc.1) (by rw [hR]; exact hc.2) d (fun q cA H1 hK1 hP1 hD1 hS1 => ?_)
  have r1 : (xs x).vm.findClass ("[" ++ (.int : FieldType).toString) = some cA := (hK1.2 6 (cA, .int) rfl).2
  have r2 : (xs x).vm.findClass ("[" ++ (.int : FieldType).toString) = some (eC E 10) := (C0.K.2 1 (eC E 10, .int) rfl).2
  have hcA : cA = eC E 10 := Option.some.inj (r1.symm.trans r2)
  subst hcA
  have hen : ents (eB E) (alc st 10 n) (sn st) 10 = (n, .inl (fun _ => 0)) := by
    have hN : sN (alc st 10 n) (sn st) = n := alc_new.2.2
    have hF : sI (alc st 10 n) (sn st) = (fun _ => 0) := by funext j; first | exact alc_I | exact alc_L
    unfold ents
    rw [hN, hF]; rfl
  rw [← hen] at hP1 hD1
  exact newa_fin (by decide) C0 w hH hz ht hl hx hP1 hD1 hS1 kk
theorem g_newa_long {h2 c2 s2 n : Nat} {i : Int32} (c1 s1 : Nat) (hi : ¬ i < 0) (hn : i.toNatClampNeg = n) (hb : n ≤ 60000) (hR : xR x = rmh h2 c2 s2) (h1 : cs.1 + 1 = c1) (h3 : cs.2 + n = s1) (hc : c1 ≤ c2 ∧ s1 ≤ s2) (ht : xt x) (hx : wt st → wt (alc st 11 n)) (d : decode cc pc = .ok (.newarray .long, 2)) (kk : G E wt x own cc nL (c1, s1) (alc st 11 n) (pc + 2) lv (.ref (eB E + sn st) :: stk)) : G E wt x own cc nL cs st pc lv (.int i :: stk) := by
  intro C0 w H locs ls hH hz hS hl
  subst h1; subst h3
  have hby : n * componentBytes .long ≤ 536870912 := by
    have h8 : componentBytes .long ≤ 8 := by decide
    exact Nat.le_trans (Nat.mul_le_mul hb h8) (by decide)
  refine va_newa (atype := .long) (ty := .long) (a0 := (n, .inr (.inl (fun _ => 0)))) C0.ex C0.cb (C0.ts _ tw2_35) rfl C0.K hH.1 (wd_D E st) hS C0.A (fun _ => rfl) hi hn hby (by rw [hR]; exact hc.1) (by rw [hR]; exact hc.2) d (fun q cA H1 hK1 hP1 hD1 hS1 => ?_)
  have r1 : (xs x).vm.findClass ("[" ++ (.long : FieldType).toString) = some cA := (hK1.2 6 (cA, .long) rfl).2
  have r2 : (xs x).vm.findClass ("[" ++ (.long : FieldType).toString) = some (eC E 11) := (C0.K.2 2 (eC E 11, .long) rfl).2
  have hcA : cA = eC E 11 := Option.some.inj (r1.symm.trans r2)
  subst hcA
  have hen : ents (eB E) (alc st 11 n) (sn st) 11 = (n, .inr (.inl (fun _ => 0))) := by
    have hN : sN (alc st 11 n) (sn st) = n := alc_new.2.2
    have hF : sL (alc st 11 n) (sn st) = (fun _ => 0) := by funext j; first | exact alc_I | exact alc_L
    unfold ents
    rw [hN, hF]; rfl
  rw [← hen] at hP1 hD1
  exact newa_fin (by decide) C0 w hH hz ht hl hx hP1 hD1 hS1 kk
theorem g_newa_boolean {h2 c2 s2 n : Nat} {i : Int32} (c1 s1 : Nat) (hi : ¬ i < 0) (hn : i.toNatClampNeg = n) (hb : n ≤ 60000) (hR : xR x = rmh h2 c2 s2) (h1 : cs.1 + 1 = c1) (h3 : cs.2 + n = s1) (hc : c1 ≤ c2 ∧ s1 ≤ s2) (ht : xt x) (hx : wt st → wt (alc st 12 n)) (d : decode cc pc = .ok (.newarray .boolean, 2)) (kk : G E wt x own cc nL (c1, s1) (alc st 12 n) (pc + 2) lv (.ref (eB E + sn st) :: stk)) : G E wt x own cc nL cs st pc lv (.int i :: stk) := by
  intro C0 w H locs ls hH hz hS hl
  subst h1; subst h3
  have hby : n * componentBytes .boolean ≤ 536870912 := by
    have h8 : componentBytes .boolean ≤ 8 := by decide
    exact Nat.le_trans (Nat.mul_le_mul hb h8) (by decide)
  refine va_newa (atype := .boolean) (ty := .boolean) (a0 := (n, .inl (fun _ => 0))) C0.ex C0.cb (C0.ts _ tw5_113) rfl C0.K hH.1 (wd_D E st) hS C0.A (fun _ => rfl) hi hn hby (by rw [hR]; exact hc.1) (by rw [hR]; exact hc.2) d (fun q cA H1 hK1 hP1 hD1 hS1 => ?_)
  have r1 : (xs x).vm.findClass ("[" ++ (.boolean : FieldType).toString) = some cA := (hK1.2 6 (cA, .boolean) rfl).2
  have r2 : (xs x).vm.findClass ("[" ++ (.boolean : FieldType).toString) = some (eC E 12) := (C0.K.2 3 (eC E 12, .boolean) rfl).2
  have hcA : cA = eC E 12 := Option.some.inj (r1.symm.trans r2)
  subst hcA
  have hen : ents (eB E) (alc st 12 n) (sn st) 12 = (n, .inl (fun _ => 0)) := by
    have hN : sN (alc st 12 n) (sn st) = n := alc_new.2.2
    have hF : sI (alc st 12 n) (sn st) = (fun _ => 0) := by funext j; first | exact alc_I | exact alc_L
    unfold ents
    rw [hN, hF]; rfl
  rw [← hen] at hP1 hD1
  exact newa_fin (by decide) C0 w hH hz ht hl hx hP1 hD1 hS1 kk
theorem g_anewaG {h2 c2 s2 n idx : Nat} {i : Int32} (c1 s1 : Nat) (hcl : Cond.classLink own idx RX4 ∈ gtbl) (hi : ¬ i < 0) (hn : i.toNatClampNeg = n) (hb : n ≤ 60000) (hR : xR x = rmh h2 c2 s2) (h1 : cs.1 + 1 = c1) (h3 : cs.2 + n = s1) (hc : c1 ≤ c2 ∧ s1 ≤ s2) (ht : xt x) (hx : wt st → wt (alc st 13 n)) (d : decode cc pc = .ok (.anewarray idx, 3)) (kk : G E wt x own cc nL (c1, s1) (alc st 13 n) (pc + 3) lv (.ref (eB E + sn st) :: stk)) : G E wt x own cc nL cs st pc lv (.int i :: stk) := by
  intro C0 w H locs ls hH hz hS hl
  subst h1; subst h3
  refine va_newq (C := RX4) C0.ex C0.cb C0.ow (C0.ts _ hcl) C0.ew.2.2.2.2.2.2.2.2.1 C0.K hH.1 (wd_D E st) hS C0.A hi hn (by omega) (by rw [hR]; exact hc.1) (by rw [hR]; exact hc.2) d (fun q cA H1 hK1 hP1 hD1 hS1 => ?_)
  obtain ⟨_, _, _, _, _, r1⟩ := (hK1.2 6 (cA, .object RX4) rfl).2
  obtain ⟨_, _, _, _, _, r2⟩ := (C0.K.2 4 (eC E 13, .object RX4) rfl).2
  have hcA : cA = eC E 13 := Option.some.inj (r1.symm.trans r2)
  subst hcA
  have hen : ents (eB E) (alc st 13 n) (sn st) 13 = (n, .inr (.inr (.inr (.inr (fun _ => none))))) := by
    have hN : sN (alc st 13 n) (sn st) = n := alc_new.2.2
    have hF : (fun j => (sR (alc st 13 n) (sn st) j).map (fun z => eB E + z)) = (fun _ => none) := by
      funext j
      have : sR (alc st 13 n) (sn st) j = none := alc_R
      rw [this]; rfl
    unfold ents
    rw [hN, hF]; rfl
  rw [← hen] at hP1 hD1
  exact newa_fin (by decide) C0 w hH hz ht hl hx hP1 hD1 hS1 kk
theorem g_anewaS {h2 c2 s2 n idx : Nat} {i : Int32} (c1 s1 : Nat) (hcl : Cond.classLink own idx RX5 ∈ gtbl) (hi : ¬ i < 0) (hn : i.toNatClampNeg = n) (hb : n ≤ 60000) (hR : xR x = rmh h2 c2 s2) (h1 : cs.1 + 1 = c1) (h3 : cs.2 + n = s1) (hc : c1 ≤ c2 ∧ s1 ≤ s2) (ht : xt x) (hx : wt st → wt (alc st 14 n)) (d : decode cc pc = .ok (.anewarray idx, 3)) (kk : G E wt x own cc nL (c1, s1) (alc st 14 n) (pc + 3) lv (.ref (eB E + sn st) :: stk)) : G E wt x own cc nL cs st pc lv (.int i :: stk) := by
  intro C0 w H locs ls hH hz hS hl
  subst h1; subst h3
  refine va_newq (C := RX5) C0.ex C0.cb C0.ow (C0.ts _ hcl) C0.ew.2.2.2.2.2.2.2.2.2.1 C0.K hH.1 (wd_D E st) hS C0.A hi hn (by omega) (by rw [hR]; exact hc.1) (by rw [hR]; exact hc.2) d (fun q cA H1 hK1 hP1 hD1 hS1 => ?_)
  obtain ⟨_, _, _, _, _, r1⟩ := (hK1.2 6 (cA, .object RX5) rfl).2
  obtain ⟨_, _, _, _, _, r2⟩ := (C0.K.2 5 (eC E 14, .object RX5) rfl).2
  have hcA : cA = eC E 14 := Option.some.inj (r1.symm.trans r2)
  subst hcA
  have hen : ents (eB E) (alc st 14 n) (sn st) 14 = (n, .inr (.inr (.inr (.inr (fun _ => none))))) := by
    have hN : sN (alc st 14 n) (sn st) = n := alc_new.2.2
    have hF : (fun j => (sR (alc st 14 n) (sn st) j).map (fun z => eB E + z)) = (fun _ => none) := by
      funext j
      have : sR (alc st 14 n) (sn st) j = none := alc_R
      rw [this]; rfl
    unfold ents
    rw [hN, hF]; rfl
  rw [← hen] at hP1 hD1
  exact newa_fin (by decide) C0 w hH hz ht hl hx hP1 hD1 hS1 kk
theorem g_objInit {idx h2 c2 s2 t : Nat} (w1 : Cond.methodLink own idx objectInit ∈ gtbl) (hR : xR x = rmh h2 c2 s2) (hh : 0 < h2) (hroom : (stk.map fun v => v.category).sum ≤ 8) (d : decode cc pc = .ok (.invokespecial idx, 3)) (kk : G E wt x own cc nL cs st (pc + 3) lv stk) : G E wt x own cc nL cs st pc lv (.ref (eB E + t) :: stk) := by
  intro C0 w H locs ls hH hz hS hl
  refine W.objInit C0.ex C0.cb C0.ow (C0.ts _ w1) (C0.ts _ tw1_24) (C0.ts _ tw1_25) rfl (by rw [C0.ml]; exact hl.1) rfl d (by rw [hR]; simp only [rmh]; omega) (by rw [hR]; simp only [rmh]; show 2 * 0 + _ + 12 ≤ _; omega) ?_
  exact kk C0 w H locs ls hH hz hS hl
theorem g_putF {k a j idx N : Nat} {C : String} {T : u_T} {r : Nat} (ok : ClsOK k C T N) (hj : j < N) (hf : fty k j = 2) (hfin : (T j).2.2.2 = true) (hin2 : (xM x).name = "<init>") (hown : C = own) (hn : narrow (tyOf k j) (.ref (eB E + r)) = .ref (eB E + r)) (hfit : fits (tyOf k j) (.ref (eB E + r)) = true) (hw : Cond.fieldLink own idx C (T j).2.1 (T j).2.2.1 ∈ gtbl) (ho : wt st → Obj st k a) (ht : xt x) (hx : wt st → wt (pR st a j (some r))) (d : decode cc pc = .ok (.putfield idx, 3)) (kk : G E wt x own cc nL cs (pR st a j (some r)) (pc + 3) lv stk) : G E wt x own cc nL cs st pc lv (.ref (eB E + r) :: .ref (eB E + a) :: stk) := by
  intro C0 w H locs ls hH hz hS hl
  have ok2 := ok
  obtain ⟨hc, hin, hk, hN, hT, hty, hnm⟩ := ok
  have he := wd_obj (E := E) (ho w) hk
  have hlen : j < (flds (eB E) st a k).length := by simp [flds, hN, hj]
  refine va_putF C0.ex C0.cb C0.ts hin (tyOf k) hty hnm C0.ow C0.K hH.1 (wd_D E st) hS a he hc j hj (C0.ts _ hw) (fun y h => by rw [hT j hj] at h; exact h) hfin hin2 ((hT j hj).trans hown) (hty j hj) hn hfit hlen d (fun H1 locs1 hP1 _ hS1 => ?_)
  have e := wd_set (E := E) (st := st) (st' := pR st a j (some r)) rfl (fld_pR (ho w) hk hf) (fun b hb => ent_pR_ne hb)
  have hP2 : va_P (eD E) classes (wd E (pR st a j (some r))) H1 := by rw [← e]; exact hP1
  refine W_size fun hb => ?_
  obtain ⟨z1, z2⟩ := tight_of (st1 := pR st a j (some r)) (a := a) (ob := 0) ht (ho w).1 hH hz hP2 rfl hb
  exact kk C0 (hx w) H1 locs1 ls z1 z2 hS1 hl

theorem g_callIN {y : MethodName} {bytes : ByteArray} {maxL n idx h h2 mc ms c2 s2 b : Nat} {As rest : List Value} {u0 : St} (c1 s1 : Nat) (ok : MOK y bytes maxL none n) (hy : y.name = "<init>") (w1 : ((own, idx, y, RX7) : NmT) ∈ nestM) (w2 : Cond.instanceMethod y ∈ gtbl) (hR : xR x = rmh h2 c2 s2) (hh : h < h2) (hM : CM (xl x) E wt y bytes maxL none h mc ms (.ref (eB E + b) :: As) st none u0) (hn : As.length = n) (hstk : stk = As.reverse ++ .ref (eB E + b) :: rest) (hroom : (rest.map fun v => v.category).sum ≤ 8) (e1 : cs.1 + mc = c1) (e2 : cs.2 + ms = s1) (hc : c1 ≤ c2 ∧ s1 ≤ s2) (hg : sn u0 = sn st + mc) (d : decode cc pc = .ok (.invokespecial idx, 3)) (kk : G E wt x own cc nL (c1, s1) u0 (pc + 3) lv rest) : G E wt x own cc nL cs st pc lv stk := by
  intro C0 w H locs ls hH hz hS hl
  subst hstk; subst e1; subst e2
  obtain ⟨k1, k2, k3, k4, k5⟩ := ok
  have hRm : (rmh h mc ms).frames + 1 ≤ (xR x).frames ∧ 8 + (maxL + 11) + (rmh h mc ms).locals ≤ (xR x).locals := by
    rw [hR]; simp only [rmh]; omega
  have hf : cs.1 + mc ≤ (xR x).cells ∧ cs.2 + ms ≤ (xR x).slots := by rw [hR]; exact hc
  have cw : va_CN (xR x) (xs x) (xa x) own idx y RX7 bytes maxL none (wsm y bytes maxL none) (rmh h mc ms) mc ms n ∧ y.name = "<init>" ∧ (Cond.instanceMethod y).before (xa x) (xs x) = true := ⟨va_cnB n C0.ts (wsm_good k1) rfl rfl rfl (C0.ew.2.2.1 _ w1) (C0.ts _ k2) k3 hRm, hy, C0.ts _ w2⟩
  have hp : PreS (xs x) H (PcM E wt (.ref (eB E + b) :: As) st) (.ref (eB E + b) :: As) := ⟨blind, pre_go C0.ew hH w hS⟩
  refine run_go (va_runIN ⟨C0.ex, C0.cb, C0.ml, C0.ow, C0.ts⟩ hM cw hp rfl hn hl.1 rfl (lv_room hroom) d hf) hS (fun H1 locs1 hH1 hw1 hz1 hS1 => ?_)
  refine kk C0 hw1 H1 locs1 ls hH1 (fun ht => ?_) hS1 hl
  have e1 := hz ht
  have e2 := hH.2
  have e3 := hH1.2
  simp only
  omega
theorem g_callI {y : MethodName} {bytes : ByteArray} {maxL n idx h h2 mc ms c2 s2 b : Nat} {As rest : List Value} {u0 : St} (c1 s1 : Nat) (ok : MOK y bytes maxL none n) (hy : y.name = "<init>") (w1 : Cond.methodLink own idx y ∈ gtbl) (w2 : Cond.instanceMethod y ∈ gtbl) (hR : xR x = rmh h2 c2 s2) (hh : h < h2) (hM : CM (xl x) E wt y bytes maxL none h mc ms (.ref (eB E + b) :: As) st none u0) (hn : As.length = n) (hstk : stk = As.reverse ++ .ref (eB E + b) :: rest) (hroom : (rest.map fun v => v.category).sum ≤ 8) (e1 : cs.1 + mc = c1) (e2 : cs.2 + ms = s1) (hc : c1 ≤ c2 ∧ s1 ≤ s2) (hg : sn u0 = sn st + mc) (d : decode cc pc = .ok (.invokespecial idx, 3)) (kk : G E wt x own cc nL (c1, s1) u0 (pc + 3) lv rest) : G E wt x own cc nL cs st pc lv stk := by
  intro C0 w H locs ls hH hz hS hl
  subst hstk; subst e1; subst e2
  obtain ⟨k1, k2, k3, k4, k5⟩ := ok
  have hRm : (rmh h mc ms).frames + 1 ≤ (xR x).frames ∧ 8 + (maxL + 11) + (rmh h mc ms).locals ≤ (xR x).locals := by
    rw [hR]; simp only [rmh]; omega
  have hf : cs.1 + mc ≤ (xR x).cells ∧ cs.2 + ms ≤ (xR x).slots := by rw [hR]; exact hc
  have cw : CallB (xR x) (xs x) (xa x) own idx y bytes maxL none (wsm y bytes maxL none) (rmh h mc ms) mc ms n ∧ y.name = "<init>" ∧ (Cond.instanceMethod y).before (xa x) (xs x) = true := ⟨callB_of n C0.ts (wsm_good k1) rfl rfl rfl (C0.ts _ k2) (C0.ts _ w1) k3 hRm, hy, C0.ts _ w2⟩
  have hp : PreS (xs x) H (PcM E wt (.ref (eB E + b) :: As) st) (.ref (eB E + b) :: As) := ⟨blind, pre_go C0.ew hH w hS⟩
  refine run_go (va_runI ⟨C0.ex, C0.cb, C0.ml, C0.ow, C0.ts⟩ hM cw hp rfl hn hl.1 rfl (lv_room hroom) d hf) hS (fun H1 locs1 hH1 hw1 hz1 hS1 => ?_)
  refine kk C0 hw1 H1 locs1 ls hH1 (fun ht => ?_) hS1 hl
  have e1 := hz ht
  have e2 := hH.2
  have e3 := hH1.2
  simp only
  omega
theorem g_drop (k : wt st → G E Wn x own cc nL cs st pc lv stk) : G E wt x own cc nL cs st pc lv stk := fun C w H locs ls hH hz hS hl => k w C trivial H locs ls hH hz hS hl
theorem g_lift (hw : wt st) (k : G E wt x own cc nL cs st pc lv stk) : G E Wn x own cc nL cs st pc lv stk := fun C _ H locs ls hH hz hS hl => k C hw H locs ls hH hz hS hl
theorem g_widen (c1 s1 : Nat) (ht : xt x) (h1 : cs.1 ≤ c1) (h2 : cs.2 ≤ s1) (k : ∀ y : Cx, y = (xp x, xl x, xe x, xR x, xs x, xm x, xa x, xb x, xM x, xc x, xQ x, False) → G E wt y own cc nL (c1, s1) st pc lv stk) : G E wt x own cc nL cs st pc lv stk := by
  intro C w H locs ls hH hz hS hl
  refine W.widen (k := c1) (n := s1) h1 h2 ?_
  exact k _ rfl C w H locs ls hH (fun h => nomatch h) hS hl
end R9
