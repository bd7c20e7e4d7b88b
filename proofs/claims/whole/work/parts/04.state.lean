/-! the abstract state: kinds, lengths, references and how many cells; ints; longs. A cell's address is its place behind the base. -/
abbrev Fr : Type := (Nat → Nat) × (Nat → Nat) × (Nat → Nat → Option Nat) × Nat
abbrev St : Type := Fr × (Nat → Nat → Int32) × (Nat → Nat → Int64)
def sK (st : St) (a : Nat) : Nat := st.1.1 a
def sN (st : St) (a : Nat) : Nat := st.1.2.1 a
def sR (st : St) (a j : Nat) : Option Nat := st.1.2.2.1 a j
def sn (st : St) : Nat := st.1.2.2.2
def sI (st : St) (a j : Nat) : Int32 := st.2.1 a j
def sL (st : St) (a j : Nat) : Int64 := st.2.2 a j
def up2 {α : Type} (f : Nat → Nat → α) (a j : Nat) (v : α) : Nat → Nat → α := fun b => if b = a then va_up (f a) j v else f b
def pI (st : St) (a j : Nat) (v : Int32) : St := (st.1, up2 st.2.1 a j v, st.2.2)
def pL (st : St) (a j : Nat) (v : Int64) : St := (st.1, st.2.1, up2 st.2.2 a j v)
def pR (st : St) (a j : Nat) (v : Option Nat) : St := ((st.1.1, st.1.2.1, up2 st.1.2.2.1 a j v, st.1.2.2.2), st.2)
/-- a whole row of ints -/
def rI (st : St) (a : Nat) (f : Nat → Int32) : St := (st.1, va_up st.2.1 a f, st.2.2)
def rL (st : St) (a : Nat) (f : Nat → Int64) : St := (st.1, st.2.1, va_up st.2.2 a f)
def Obj (st : St) (k a : Nat) : Prop := a < sn st ∧ sK st a = k
def Arr (st : St) (k n a : Nat) : Prop := a < sn st ∧ sK st a = k ∧ sN st a = n
theorem Arr.obj {st : St} {k n a : Nat} (h : Arr st k n a) : Obj st k a := ⟨h.1, h.2.1⟩
abbrev classes : List vw_C := [(RX0, TX0, 6), (RX1, TX1, 12), (RX2, TX2, 2), (RX3, TX3, 9), (RX4, TX4, 9), (RX5, TX5, 8), (RX6, TX6, 11), (RX7, TX7, 15), (RX8, TX8, 59)]
/-- fields of a kind; what a field is: 0 an int, 1 a long, 2 a reference -/
def nf : Nat → Nat := fun k => match k with | 0 => 6 | 1 => 12 | 2 => 2 | 3 => 9 | 4 => 9 | 5 => 8 | 6 => 11 | 7 => 15 | 8 => 59 | _ => 0
def tyOf : Nat → Nat → FieldType := fun k => match k with | 0 => tyX0 | 1 => tyX1 | 2 => tyX2 | 3 => tyX3 | 4 => tyX4 | 5 => tyX5 | 6 => tyX6 | 7 => tyX7 | _ => tyX8
def fcode : FieldType → Nat := fun t => match t with | .int => 0 | .boolean => 0 | .byte => 0 | .long => 1 | _ => 2
def fty (k j : Nat) : Nat := fcode (tyOf k j)
def slotV (bs : Nat) (st : St) (a c j : Nat) : Value := match c with
  | 0 => .int (sI st a j)
  | 1 => .long (sL st a j)
  | _ => va_rf ((sR st a j).map (fun z => bs + z))
def flds (bs : Nat) (st : St) (a k : Nat) : List Value := (List.range (nf k)).map (fun j => slotV bs st a (fty k j) j)
def ents (bs : Nat) (st : St) (a k : Nat) : vp_A := (sN st a, if k = 11 then .inr (.inl (sL st a)) else if k < 13 then .inl (sI st a) else .inr (.inr (.inr (.inr (fun j => (sR st a j).map (fun z => bs + z))))))
/-- what holds of the world: the tables' numbers, the arrays' classes by kind, the base, the strings, the static row -/
abbrev Ev : Type := va_G × (Nat → ClassId) × Nat × (Nat → Nat) × (Nat → Nat) × Nat
def eD (E : Ev) : va_G := E.1
def eC (E : Ev) : Nat → ClassId := E.2.1
def eB (E : Ev) : Nat := E.2.2.1
def eSK (E : Ev) : Nat → Nat := E.2.2.2.1
def eSV (E : Ev) : Nat → Nat := E.2.2.2.2.1
def eT (E : Ev) : Nat := E.2.2.2.2.2
def eA (E : Ev) : Nat → Prop := fun q => eB E ≤ q
def ent (E : Ev) (st : St) (a : Nat) : va_E := if sK st a < 9 then .inr (sK st a, flds (eB E) st a (sK st a)) else .inl (eC E (sK st a), ents (eB E) st a (sK st a))
def wd (E : Ev) (st : St) : va_W := (List.range (sn st)).map (fun a => (eB E + a, ent E st a))
def aty : Nat → FieldType := fun k => match k with | 0 => .byte | 1 => .int | 2 => .long | 3 => .boolean | 4 => .object RX4 | _ => .object RX5
def tysE (E : Ev) : List (ClassId × FieldType) := [(eC E 9, .byte), (eC E 10, .int), (eC E 11, .long), (eC E 12, .boolean), (eC E 13, .object RX4), (eC E 14, .object RX5)]
def Hold (E : Ev) (st : St) (H : Heap) : Prop := va_P (eD E) classes (wd E st) H ∧ H.size = eB E + sn st
theorem wd_at {E : Ev} {st : St} {a : Nat} (h : a < sn st) : (wd E st)[a]? = some (eB E + a, ent E st a) := by
  simp [wd, List.getElem?_map, List.getElem?_range h]
theorem wd_obj {E : Ev} {st : St} {k a : Nat} (h : Obj st k a) (hk : k < 9) : (wd E st)[a]? = some (eB E + a, .inr (k, flds (eB E) st a k)) := by
  rw [wd_at h.1]; simp [ent, h.2, hk]
theorem wd_arr {E : Ev} {st : St} {k a : Nat} (h : Obj st k a) (hk : ¬ k < 9) : (wd E st)[a]? = some (eB E + a, .inl (eC E k, ents (eB E) st a k)) := by
  rw [wd_at h.1]; simp [ent, h.2, hk]
theorem wd_D (E : Ev) (st : St) : va_D (eA E) (wd E st) := by
  have key : ∀ (i : Nat) (p : Nat × va_E), (wd E st)[i]? = some p → p.1 = eB E + i := by
    intro i p h
    simp only [wd, List.getElem?_map, Option.map_eq_some_iff] at h
    obtain ⟨z, hz, rfl⟩ := h
    have := (List.getElem?_eq_some_iff.mp hz)
    obtain ⟨hl, e⟩ := this
    rw [← e]; simp
  refine ⟨fun i j p q hp hq e => ?_, fun k q h => ?_⟩
  · rw [key i p hp, key j q hq] at e; omega
  · rw [key k q h]; exact Nat.le_add_right _ _
theorem wd_set {E : Ev} {st st' : St} {a : Nat} {e : va_E} (hn : sn st' = sn st) (ha : ent E st' a = e) (ho : ∀ b, b ≠ a → ent E st' b = ent E st b) : (wd E st).set a (eB E + a, e) = wd E st' := by
  apply List.ext_getElem?
  intro i
  rw [List.getElem?_set]
  by_cases hi : i < sn st
  · by_cases hia : a = i
    · subst hia
      rw [if_pos rfl, if_pos (by simp [wd, hi]), wd_at (by rw [hn]; exact hi), ha]
    · rw [if_neg hia, wd_at hi, wd_at (by rw [hn]; exact hi), ho i (fun h => hia h.symm)]
  · have h1 : (wd E st)[i]? = none := by simp [wd]; omega
    have h2 : (wd E st')[i]? = none := by simp [wd]; omega
    rw [h2]
    by_cases hia : a = i
    · rw [if_pos hia, if_neg (by simp [wd]; omega)]
    · rw [if_neg hia, h1]
theorem up2_ne {α : Type} {f : Nat → Nat → α} {a j : Nat} {v : α} {b : Nat} (h : b ≠ a) : up2 f a j v b = f b := by simp [up2, h]
theorem up2_eq {α : Type} {f : Nat → Nat → α} {a j : Nat} {v : α} : up2 f a j v a = va_up (f a) j v := by simp [up2]
theorem map_set {α : Type} {n j : Nat} {f g : Nat → α} {v : α} (hg : ∀ i, i < n → g i = if i = j then v else f i) : ((List.range n).map f).set j v = (List.range n).map g := by
  apply List.ext_getElem?
  intro i
  rw [List.getElem?_set]
  by_cases hi : i < n
  · simp only [List.getElem?_map, List.getElem?_range hi, Option.map_some, List.length_map, List.length_range, hi]
    by_cases e : j = i
    · subst e; rw [if_pos rfl, hg j hi]; simp [hi]
    · rw [if_neg e, hg i hi, if_neg (fun h => e h.symm)]
  · by_cases e : j = i
    · subst e; simp [hi]
    · rw [if_neg e]; simp [hi]
theorem ent_congr {E : Ev} {st st' : St} {b : Nat} (h1 : sK st' b = sK st b) (h2 : sN st' b = sN st b) (h3 : sI st' b = sI st b) (h4 : sL st' b = sL st b) (h5 : sR st' b = sR st b) : ent E st' b = ent E st b := by
  have hf : ∀ k, flds (eB E) st' b k = flds (eB E) st b k := by
    intro k
    unfold flds slotV
    simp only [h3, h4, h5]
  have he : ∀ k, ents (eB E) st' b k = ents (eB E) st b k := by
    intro k
    unfold ents
    simp only [h2, h3, h4, h5]
  unfold ent
  rw [h1, hf, he]
theorem ent_pI_ne {E : Ev} {st : St} {a j : Nat} {v : Int32} {b : Nat} (h : b ≠ a) : ent E (pI st a j v) b = ent E st b := ent_congr rfl rfl (up2_ne h) rfl rfl
theorem ent_pL_ne {E : Ev} {st : St} {a j : Nat} {v : Int64} {b : Nat} (h : b ≠ a) : ent E (pL st a j v) b = ent E st b := ent_congr rfl rfl rfl (up2_ne h) rfl
theorem ent_pR_ne {E : Ev} {st : St} {a j : Nat} {v : Option Nat} {b : Nat} (h : b ≠ a) : ent E (pR st a j v) b = ent E st b := ent_congr rfl rfl rfl rfl (up2_ne h)
theorem ent_rI_ne {E : Ev} {st : St} {a : Nat} {f : Nat → Int32} {b : Nat} (h : b ≠ a) : ent E (rI st a f) b = ent E st b := ent_congr rfl rfl (by show va_up st.2.1 a f b = st.2.1 b; simp [va_up, h]) rfl rfl
theorem ent_rL_ne {E : Ev} {st : St} {a : Nat} {f : Nat → Int64} {b : Nat} (h : b ≠ a) : ent E (rL st a f) b = ent E st b := ent_congr rfl rfl rfl (by show va_up st.2.2 a f b = st.2.2 b; simp [va_up, h]) rfl
theorem fld_pI {E : Ev} {st : St} {k a j : Nat} {v : Int32} (ho : Obj st k a) (hk : k < 9) (hf : fty k j = 0) : ent E (pI st a j v) a = .inr (k, (flds (eB E) st a k).set j (.int v)) := by
  have hK : sK (pI st a j v) a = k := ho.2
  simp only [ent, hK, hk, if_true]
  congr 2
  refine (map_set (fun i _ => ?_)).symm
  by_cases e : i = j
  · subst e; rw [if_pos rfl, hf]; simp [slotV, sI, pI, up2_eq, va_up]
  · rw [if_neg e]; unfold slotV; simp [sI, sL, sR, pI, up2_eq, va_up, e]
theorem fld_pL {E : Ev} {st : St} {k a j : Nat} {v : Int64} (ho : Obj st k a) (hk : k < 9) (hf : fty k j = 1) : ent E (pL st a j v) a = .inr (k, (flds (eB E) st a k).set j (.long v)) := by
  have hK : sK (pL st a j v) a = k := ho.2
  simp only [ent, hK, hk, if_true]
  congr 2
  refine (map_set (fun i _ => ?_)).symm
  by_cases e : i = j
  · subst e; rw [if_pos rfl, hf]; simp [slotV, sL, pL, up2_eq, va_up]
  · rw [if_neg e]; unfold slotV; simp [sI, sL, sR, pL, up2_eq, va_up, e]
theorem fld_pR {E : Ev} {st : St} {k a j : Nat} {v : Option Nat} (ho : Obj st k a) (hk : k < 9) (hf : fty k j = 2) : ent E (pR st a j v) a = .inr (k, (flds (eB E) st a k).set j (va_rf (v.map (fun z => eB E + z)))) := by
  have hK : sK (pR st a j v) a = k := ho.2
  simp only [ent, hK, hk, if_true]
  congr 2
  refine (map_set (fun i _ => ?_)).symm
  by_cases e : i = j
  · subst e; rw [if_pos rfl, hf]; simp [slotV, sR, pR, up2_eq, va_up]
  · rw [if_neg e]; unfold slotV; simp [sI, sL, sR, pR, up2_eq, va_up, e]
theorem arr_pI {E : Ev} {st : St} {k n a j : Nat} {v : Int32} (ho : Arr st k n a) (h1 : ¬ k < 9) (h2 : k ≠ 11) (h3 : k < 13) : ent E (pI st a j v) a = .inl (eC E k, n, .inl (upd (sI st a) j v)) := by
  have hK : sK (pI st a j v) a = k := ho.2.1
  have hN : sN (pI st a j v) a = n := ho.2.2
  simp only [ent, hK, h1, if_false, ents, hN, h2, h3, if_true]
  have : sI (pI st a j v) a = upd (sI st a) j v := by
    funext i; simp [sI, pI, up2_eq, va_up, upd]
  rw [this]
theorem arr_rI {E : Ev} {st : St} {k n a : Nat} {f : Nat → Int32} (ho : Arr st k n a) (h1 : ¬ k < 9) (h2 : k ≠ 11) (h3 : k < 13) : ent E (rI st a f) a = .inl (eC E k, n, .inl f) := by
  have hK : sK (rI st a f) a = k := ho.2.1
  have hN : sN (rI st a f) a = n := ho.2.2
  simp only [ent, hK, h1, if_false, ents, hN, h2, h3, if_true]
  have : sI (rI st a f) a = f := by
    funext i; simp [sI, rI, va_up]
  rw [this]
theorem arr_pL {E : Ev} {st : St} {n a j : Nat} {v : Int64} (ho : Arr st 11 n a) : ent E (pL st a j v) a = .inl (eC E 11, n, .inr (.inl (vp_updL (sL st a) j v))) := by
  have hK : sK (pL st a j v) a = 11 := ho.2.1
  have hN : sN (pL st a j v) a = n := ho.2.2
  simp only [ent, hK, ents, hN]
  have : sL (pL st a j v) a = vp_updL (sL st a) j v := by
    funext i; simp [sL, pL, up2_eq, va_up, vp_updL]
  rw [this]; rfl
theorem arr_pR {E : Ev} {st : St} {k n a j : Nat} {v : Option Nat} (ho : Arr st k n a) (h1 : ¬ k < 13) : ent E (pR st a j v) a = .inl (eC E k, n, .inr (.inr (.inr (.inr (va_up (fun i => (sR st a i).map (fun z => eB E + z)) j (v.map (fun z => eB E + z))))))) := by
  have hK : sK (pR st a j v) a = k := ho.2.1
  have hN : sN (pR st a j v) a = n := ho.2.2
  have h9 : ¬ k < 9 := by omega
  have h11 : ¬ k = 11 := by omega
  simp only [ent, hK, h9, if_false, ents, hN, h11, h1]
  have : (fun i => (sR (pR st a j v) a i).map (fun z => eB E + z)) = va_up (fun i => (sR st a i).map (fun z => eB E + z)) j (v.map (fun z => eB E + z)) := by
    funext i; by_cases e : i = j <;> simp [sR, pR, up2_eq, va_up, e]
  rw [this]

