theorem wires_obj : ∀ q ∈ wires, ∃ k n, lay[q.1]? = some (k, n) ∧ k < 9 := by
  intro q hq
  have h : wires.all (fun q => match lay[q.1]? with | some (k, _) => decide (k < 9) | none => false) = true := by decide +kernel
  have h1 := List.all_eq_true.mp h q hq
  cases e : lay[q.1]? with
  | none => rw [e] at h1; exact absurd h1 (by decide)
  | some kn => rw [e] at h1; exact ⟨kn.1, kn.2, rfl, by simpa using h1⟩
theorem WT_pR {st : St} {a j : Nat} {r : Option Nat} (hk : sK st a ≠ 2 ∧ sK st a ≠ 4 ∧ sK st a ≠ 5) (hw : ∀ q ∈ wires, ¬ (q.1 = a ∧ q.2.1 = j)) (hlaw : ∀ t, Obj st 4 t → a = t + 3 → ∀ b, r = some b → Obj st 5 b) (himg : a = 6 → ∀ b, r = some b → Obj st 4 b) (hv : a = 19 → j = 7 → ∀ b, r = some b → Obj st 5 b) (w : WT st) : WT (pR st a j r) := by
  have up : ∀ b i, ¬ (b = a ∧ i = j) → (pR st a j r).1.2.2.1 b i = st.1.2.2.1 b i := by
    intro b i h
    show up2 st.1.2.2.1 a j r b i = _
    by_cases hb : b = a
    · subst hb; rw [up2_eq]; simp only [va_up]; rw [if_neg (fun e => h ⟨rfl, e⟩)]
    · rw [up2_ne hb]
  have upe : (pR st a j r).1.2.2.1 a j = r := by
    show up2 st.1.2.2.1 a j r a j = r
    rw [up2_eq]; simp [va_up]
  obtain ⟨w1, w2, w3, w4, w5, w6, w7, w8⟩ := w
  refine ⟨w1, w2, fun q hq => ?_, fun t ht => ?_, fun t ht => ?_, fun t ht => ?_, fun i b h => ?_, fun b h => ?_⟩
  · rw [up _ _ (hw q hq)]; exact w3 q hq
  · have ta : t ≠ a := fun e => hk.2.1 (by rw [← e]; exact ht.2)
    obtain ⟨⟨a1, a2⟩, ⟨b1, b2⟩, ⟨c1, c2⟩, ⟨d1, d2⟩, e1⟩ := w4 t ht
    refine ⟨⟨by rw [up _ _ (fun e => ta e.1)]; exact a1, a2⟩, ⟨by rw [up _ _ (fun e => ta e.1)]; exact b1, b2⟩, ⟨by rw [up _ _ (fun e => ta e.1)]; exact c1, c2⟩, ⟨by rw [up _ _ (fun e => ta e.1)]; exact d1, d2⟩, fun i b h => ?_⟩
    by_cases e : t + 3 = a ∧ i = j
    · obtain ⟨e1', e2'⟩ := e
      rw [e1', e2', upe] at h
      exact hlaw t ht e1'.symm b h
    · rw [up _ _ e] at h
      exact e1 i b h
  · have ta : t ≠ a := fun e => hk.2.2 (by rw [← e]; exact ht.2)
    obtain ⟨⟨a1, a2⟩, ⟨b1, b2⟩, ⟨c1, c2⟩, ⟨d1, d2⟩, ⟨e1, e2⟩⟩ := w5 t ht
    exact ⟨⟨by rw [up _ _ (fun e => ta e.1)]; exact a1, a2⟩, ⟨by rw [up _ _ (fun e => ta e.1)]; exact b1, b2⟩, ⟨by rw [up _ _ (fun e => ta e.1)]; exact c1, c2⟩, ⟨by rw [up _ _ (fun e => ta e.1)]; exact d1, d2⟩, ⟨by rw [up _ _ (fun e => ta e.1)]; exact e1, e2⟩⟩
  · have ta : t ≠ a := fun e => hk.1 (by rw [← e]; exact ht.2)
    obtain ⟨a1, a2⟩ := w6 t ht
    exact ⟨by rw [up _ _ (fun e => ta e.1)]; exact a1, a2⟩
  · by_cases e : 6 = a ∧ i = j
    · obtain ⟨e1, e2⟩ := e
      rw [e1, e2, upe] at h
      exact himg e1.symm b h
    · rw [up _ _ e] at h
      exact w7 i b h
  · by_cases e : 19 = a ∧ 7 = j
    · obtain ⟨e1, e2⟩ := e
      rw [e1, e2, upe] at h
      exact hv e1.symm e2.symm b h
    · rw [up _ _ e] at h
      exact w8 b h
theorem wire_arr {st : St} {a j : Nat} (w : WT st) (hk : 9 ≤ sK st a) : ∀ q ∈ wires, ¬ (q.1 = a ∧ q.2.1 = j) := by
  intro q hq e
  obtain ⟨k, n, h1, h2⟩ := wires_obj q hq
  have h3 : sK st q.1 = k := (w.2.1 _ _ _ h1).1
  rw [e.1] at h3
  omega
theorem wpRlaw {st : St} {t j : Nat} {r : Option Nat} (ht : Obj st 4 t) (hr : ∀ b, r = some b → Obj st 5 b) (w : WT st) : WT (pR st (t + 3) j r) := by
  have hk : sK st (t + 3) = 14 := (w.ring ht).2.2.1.2.2.1
  refine WT_pR ?_ (wire_arr w (by omega)) (fun _ _ _ => hr) (fun e => ?_) (fun e => ?_) w
  · omega
  · have h6 : sK st 6 = 13 := (oS6 w).2
    rw [e] at hk; omega
  · have h6 : sK st 19 = 6 := (oS19 w).2
    rw [e] at hk; omega
theorem wpRimg {st : St} {j b : Nat} (hb : Obj st 4 b) (w : WT st) : WT (pR st 6 j (some b)) := by
  have hk : sK st 6 = 13 := (oS6 w).2
  refine WT_pR ?_ (wire_arr w (by omega)) (fun t ht e => ?_) (fun _ c hc => by cases hc; exact hb) (fun e => absurd e (by decide)) w
  · omega
  · have h14 : sK st (t + 3) = 14 := (w.ring ht).2.2.1.2.2.1
    rw [← e] at h14; omega
theorem wpRv {st : St} {r : Option Nat} (hr : ∀ b, r = some b → Obj st 5 b) (w : WT st) : WT (pR st 19 7 r) := by
  have hk : sK st 19 = 6 := (oS19 w).2
  refine WT_pR ?_ ?_ (fun t ht e => ?_) (fun e => absurd e (by decide)) (fun _ _ => hr) w
  · omega
  · have h : wires.all (fun q => ! (q.1 == 19 && q.2.1 == 7)) = true := by decide +kernel
    intro q hq e
    have h1 := List.all_eq_true.mp h q hq
    rw [e.1, e.2] at h1
    exact absurd h1 (by decide)
  · have h14 : sK st (t + 3) = 14 := (w.ring ht).2.2.1.2.2.1
    rw [← e] at h14; omega
theorem fr_ob {st q : St} {k b : Nat} (h : q.1 = st.1) (ho : Obj st k b) : Obj q k b := by
  unfold Obj sn sK at *
  rw [h]; exact ho
section R8
variable {E : Ev} {wt : St → Prop} {x : Cx} {own : String} {cc : ByteArray} {nL : Nat} {cs : Nat × Nat} {st : St} {pc : Nat} {lv lv' : List (Nat × Value)} {stk : List Value}
theorem g_aastq {a n : Nat} {i : Int32} {r : Option Nat} (j : Nat) (hj : i.toNatClampNeg = j) (ho : wt st → Arr st 14 n a) (hi : vp_in i n) (hr : wt st → ∀ b, r = some b → Obj st 5 b) (ht : xt x) (hx : wt st → wt (pR st a j r)) (d : decode cc pc = .ok (.aastore, 1)) (kk : G E wt x own cc nL cs (pR st a j r) (pc + 1) lv stk) : G E wt x own cc nL cs st pc lv (va_rf (r.map (fun z => eB E + z)) :: .int i :: .ref (eB E + a) :: stk) := by
  subst hj
  intro C w H locs ls hH hz hS hl
  have fin : ∀ (H1 : Heap) (locs1 : List Loc), va_P (eD E) classes ((wd E st).set a (eB E + a, .inl (eC E 14, n, .inr (.inr (.inr (.inr (va_up (fun i => (sR st a i).map (fun z => eB E + z)) i.toNatClampNeg (r.map (fun z => eB E + z))))))))) H1 → va_S (eA E) (xs x).heap H1 locs1 → W (xp x) (xl x) (xe x) (xR x) (xs x) (xm x) (xa x) (xb x) (xM x) (xc x) H1 locs1 cs.1 cs.2 (xQ x) (F0 (xm x) (pc + 1) ls stk) := by
    intro H1 locs1 hP1 hS1
    rw [wd_set (E := E) (st := st) (st' := pR st a i.toNatClampNeg r) rfl (arr_pR (ho w) (by decide)) (fun _ hb => ent_pR_ne hb)] at hP1
    refine W_size fun hb => ?_
    obtain ⟨z1, z2⟩ := tight_of (st1 := pR st a i.toNatClampNeg r) (a := a) (ob := 0) ht (ho w).1 hH hz hP1 rfl hb
    exact kk C (hx w) H1 locs1 ls z1 z2 hS1 hl
  cases r with
  | none => exact va_astqN C.ex C.cb C.K hH.1 (wd_D E st) hS a 5 (arr_atR (ho w) (by decide)) rfl hi d (fun H1 locs1 hP1 _ hS1 => fin H1 locs1 hP1 hS1)
  | some b => exact va_astq C.ex C.cb C.K hH.1 (wd_D E st) hS a 5 b 5 (arr_atR (ho w) (by decide)) (r := (RX5, TX5, 8)) rfl (wd_obj (E := E) (hr w b rfl) (by decide)) rfl hi d (fun H1 locs1 hP1 _ hS1 => fin H1 locs1 hP1 hS1)
theorem g_aastG {a n b : Nat} {i : Int32} (j : Nat) (hj : i.toNatClampNeg = j) (ho : wt st → Arr st 13 n a) (hi : vp_in i n) (hr : wt st → Obj st 4 b) (ht : xt x) (hx : wt st → wt (pR st a j (some b))) (d : decode cc pc = .ok (.aastore, 1)) (kk : G E wt x own cc nL cs (pR st a j (some b)) (pc + 1) lv stk) : G E wt x own cc nL cs st pc lv (.ref (eB E + b) :: .int i :: .ref (eB E + a) :: stk) := by
  subst hj
  intro C w H locs ls hH hz hS hl
  refine va_astq C.ex C.cb C.K hH.1 (wd_D E st) hS a 4 b 4 (arr_atR (ho w) (by decide)) (r := (RX4, TX4, 9)) rfl (wd_obj (E := E) (hr w) (by decide)) rfl hi d (fun H1 locs1 hP1 _ hS1 => ?_)
  have e := wd_set (E := E) (st := st) (st' := pR st a i.toNatClampNeg (some b)) rfl (arr_pR (ho w) (by decide)) (fun _ hb => ent_pR_ne hb)
  have hP2 : va_P (eD E) classes (wd E (pR st a i.toNatClampNeg (some b))) H1 := by rw [← e]; exact hP1
  refine W_size fun hb => ?_
  obtain ⟨z1, z2⟩ := tight_of (st1 := pR st a i.toNatClampNeg (some b)) (a := a) (ob := 0) ht (ho w).1 hH hz hP2 rfl hb
  exact kk C (hx w) H1 locs1 ls z1 z2 hS1 hl
end R8
