def sIdx : List Nat := [60, 62, 121, 123, 96, 97, 116, 108, 114]
def sTxt : List String := ["beats skips turns keeps", "say join leave pass", "child quick rhyme beat many round mood", "round done latest many at in quick", "times", "if", "not", "and", "or"]
def sLen : List Nat := [23, 19, 38, 34, 5, 2, 3, 3, 2]
def sByt : List (List Int32) := [[98, 101, 97, 116, 115, 32, 115, 107, 105, 112, 115, 32, 116, 117, 114, 110, 115, 32, 107, 101, 101, 112, 115], [115, 97, 121, 32, 106, 111, 105, 110, 32, 108, 101, 97, 118, 101, 32, 112, 97, 115, 115], [99, 104, 105, 108, 100, 32, 113, 117, 105, 99, 107, 32, 114, 104, 121, 109, 101, 32, 98, 101, 97, 116, 32, 109, 97, 110, 121, 32, 114, 111, 117, 110, 100, 32, 109, 111, 111, 100], [114, 111, 117, 110, 100, 32, 100, 111, 110, 101, 32, 108, 97, 116, 101, 115, 116, 32, 109, 97, 110, 121, 32, 97, 116, 32, 105, 110, 32, 113, 117, 105, 99, 107], [116, 105, 109, 101, 115], [105, 102], [110, 111, 116], [97, 110, 100], [111, 114]]
def tmax : Nat → Int32 := fun j => [999, 5, 10, 9].getD j 0
/-- what the world is outside the cells that are ours -/
def Ew (E : Ev) (U : State) : Prop :=
  va_K (eD E) classes (tysE E) U ∧ (∀ q ∈ nestF, va_Nw (nfW q) U) ∧ (∀ q ∈ nestM, va_Nw (nmW q) U) ∧ (∀ i, i < 9 → vk_R RX3 (sIdx.getD i 0) (sTxt.getD i "") (eSK E i) U) ∧ vk_S 9 sLen sByt (eSK E) (eSV E) (eA E) U U.heap ∧ va_Z RJ0 "COMPACT_STRINGS" "Z" (.int 1) (eA E) U U.heap ∧ va_Z RX7 "HIGHEST_TERMS" "[I" (.ref (eT E)) (eA E) U U.heap ∧ va_T .int (eT E) 4 (fun j => .int (tmax j)) (eA E) U U.heap ∧ va_AO RX4 U ∧ va_AO RX5 U ∧ va_Zq RJ3 "SIOOBE_FORMATTER" "Ljava/util/function/BiFunction;" (eA E) U U.heap
theorem Ew.move {E : Ev} {s U : State} (h : Ew E s) (hW : s.WarmedH U.vm) (hq : ∀ q : Nat, q < s.heap.size → ¬ eA E q → U.heap[q]? = s.heap[q]?) : Ew E U := by
  obtain ⟨h1, h2, h3, h4, h5, h6, h7, h8, h9, h10, h11⟩ := h
  have hv := hW.alike
  exact ⟨h1.moved hv, fun q hq => va_Nw.warmF hW (h2 q hq), fun q hq => va_Nw.warmM hW (h3 q hq), fun i hi => (h4 i hi).warm hW, (h5.moved hv).kept hq, (h6.moved hv).kept hq, (h7.moved hv).kept hq, (h8.moved hv).kept hq, h9.moved hv, h10.moved hv, (h11.moved hv).kept hq⟩
theorem Ew.same {E : Ev} {s U : State} (h : Ew E s) (hv : s.vm = U.vm) (hh : s.heap = U.heap) : Ew E U := by
  obtain ⟨h1, h2, h3, h4, h5, h6, h7, h8, h9, h10, h11⟩ := h
  have ha : s.vm.Alike U.vm := hv ▸ Vm.Alike.refl _
  exact ⟨h1.moved ha, fun q hq => (h2 q hq).same rfl hv, fun q hq => (h3 q hq).same rfl hv, fun i hi => (h4 i hi).same hv.symm, hh ▸ (h5.moved ha), hh ▸ (h6.moved ha), hh ▸ (h7.moved ha), hh ▸ (h8.moved ha), h9.moved ha, h10.moved ha, hh ▸ (h11.moved ha)⟩
/-- a walk's fixed things -/
abbrev Cx : Type := Program × Launch × Env × Room × State × MethodId × Array Value × List Frame × Method × Code × (State → Prop) × Prop
abbrev xp (x : Cx) : Program := x.1
abbrev xl (x : Cx) : Launch := x.2.1
abbrev xe (x : Cx) : Env := x.2.2.1
abbrev xR (x : Cx) : Room := x.2.2.2.1
abbrev xs (x : Cx) : State := x.2.2.2.2.1
abbrev xm (x : Cx) : MethodId := x.2.2.2.2.2.1
abbrev xa (x : Cx) : Array Value := x.2.2.2.2.2.2.1
abbrev xb (x : Cx) : List Frame := x.2.2.2.2.2.2.2.1
abbrev xM (x : Cx) : Method := x.2.2.2.2.2.2.2.2.1
abbrev xc (x : Cx) : Code := x.2.2.2.2.2.2.2.2.2.1
abbrev xQ (x : Cx) : State → Prop := x.2.2.2.2.2.2.2.2.2.2.1
abbrev xt (x : Cx) : Prop := x.2.2.2.2.2.2.2.2.2.2.2
def Cf (E : Ev) (x : Cx) (own : String) (cc : ByteArray) (nL : Nat) : Prop :=
  (xp x).tables.exec = Jvm.exec ∧ (xc x).code = cc ∧ (xc x).maxLocals = nL ∧ (xs x).vm.findClass own = some (xm x).cls ∧ (∀ w ∈ gtbl, w.before (xa x) (xs x) = true) ∧ Ew E (xs x) ∧ (xM x).locks = false ∧ eB E ≤ (xs x).heap.size
section CfS
variable {E : Ev} {x : Cx} {own : String} {cc : ByteArray} {nL : Nat}
theorem Cf.ex (h : Cf E x own cc nL) : (xp x).tables.exec = Jvm.exec := h.1
theorem Cf.cb (h : Cf E x own cc nL) : (xc x).code = cc := h.2.1
theorem Cf.ml (h : Cf E x own cc nL) : (xc x).maxLocals = nL := h.2.2.1
theorem Cf.ow (h : Cf E x own cc nL) : (xs x).vm.findClass own = some (xm x).cls := h.2.2.2.1
theorem Cf.ts (h : Cf E x own cc nL) : ∀ w ∈ gtbl, w.before (xa x) (xs x) = true := h.2.2.2.2.1
theorem Cf.ew (h : Cf E x own cc nL) : Ew E (xs x) := h.2.2.2.2.2.1
theorem Cf.lk (h : Cf E x own cc nL) : (xM x).locks = false := h.2.2.2.2.2.2.1
theorem Cf.bs (h : Cf E x own cc nL) : eB E ≤ (xs x).heap.size := h.2.2.2.2.2.2.2
theorem Cf.K (h : Cf E x own cc nL) : va_K (eD E) classes (tysE E) (xs x) := h.ew.1
theorem Cf.A (h : Cf E x own cc nL) : ∀ q, (xs x).heap.size ≤ q → eA E q := fun _ hq => Nat.le_trans h.bs hq
end CfS
/-- the walk's judgement: from here, with this state, these locals and this stack, the machine comes where it shall -/
def G (E : Ev) (wt : St → Prop) (x : Cx) (own : String) (cc : ByteArray) (nL : Nat) (cs : Nat × Nat) (st : St) (pc : Nat) (lv : List (Nat × Value)) (stk : List Value) : Prop :=
  Cf E x own cc nL → wt st → ∀ (H : Heap) (locs : List Loc) (ls : Array Slot), Hold E st H → (xt x → H.size = (xs x).heap.size + cs.1) → va_S (eA E) (xs x).heap H locs → lv_has ls nL lv →
    W (xp x) (xl x) (xe x) (xR x) (xs x) (xm x) (xa x) (xb x) (xM x) (xc x) H locs cs.1 cs.2 (xQ x) (F0 (xm x) pc ls stk)
def jrem (x y : Int32) : Int32 := x - x / y * y
def jshl (x y : Int32) : Int32 := x <<< (y &&& 31)
def jshr (x y : Int32) : Int32 := x >>> (y &&& 31)
def jushr (x y : Int32) : Int32 := (x.toUInt32 >>> (y.toUInt32 &&& Int32.toUInt32 31)).toInt32
def ljrem (x y : Int64) : Int64 := x - x / y * y
def i2b (x : Int32) : Int32 := x.toInt8.toInt32
section Rows
variable {E : Ev} {wt : St → Prop} {x : Cx} {own : String} {cc : ByteArray} {nL : Nat} {cs : Nat × Nat} {st : St} {pc : Nat} {lv lv' : List (Nat × Value)} {stk : List Value}

theorem g_iconst {n : Int} (v : Int32) (hv : Int32.ofInt n = v) (d : decode cc pc = .ok (.iconst n, 1)) (k : G E wt x own cc nL cs st (pc + 1) lv (.int v :: stk)) : G E wt x own cc nL cs st pc lv (stk) :=
  fun C w H locs ls hH hz hS hl => lv_iconst C.ex C.cb d hv (k C w H locs ls hH hz hS hl)
theorem g_bipush {n : Int} (v : Int32) (hv : (Int8.ofInt n).toInt32 = v) (d : decode cc pc = .ok (.bipush n, 2)) (k : G E wt x own cc nL cs st (pc + 2) lv (.int v :: stk)) : G E wt x own cc nL cs st pc lv (stk) :=
  fun C w H locs ls hH hz hS hl => lv_bipush C.ex C.cb d hv (k C w H locs ls hH hz hS hl)
theorem g_sipush {n : Int} (v : Int32) (hv : (Int16.ofInt n).toInt32 = v) (d : decode cc pc = .ok (.sipush n, 3)) (k : G E wt x own cc nL cs st (pc + 3) lv (.int v :: stk)) : G E wt x own cc nL cs st pc lv (stk) :=
  fun C w H locs ls hH hz hS hl => lv_sipush C.ex C.cb d hv (k C w H locs ls hH hz hS hl)
theorem g_lconst {n : Fin 2} (v : Int64) (hv : Int64.ofNat (n : Nat) = v) (d : decode cc pc = .ok (.lconst n, 1)) (k : G E wt x own cc nL cs st (pc + 1) lv (.long v :: stk)) : G E wt x own cc nL cs st pc lv (stk) :=
  fun C w H locs ls hH hz hS hl => lv_lconst C.ex C.cb d hv (k C w H locs ls hH hz hS hl)
theorem g_ldc {i : Nat} {v : Int32} (hw : Cond.constant own i v ∈ gtbl) (d : decode cc pc = .ok (.ldc i, 2)) (k : G E wt x own cc nL cs st (pc + 2) lv (.int v :: stk)) : G E wt x own cc nL cs st pc lv (stk) :=
  fun C w H locs ls hH hz hS hl => lv_ldc C.ex C.cb C.ow (C.ts _ hw) d (k C w H locs ls hH hz hS hl)
theorem g_ldcw {i : Nat} {v : Int32} (hw : Cond.constant own i v ∈ gtbl) (d : decode cc pc = .ok (.ldc_w i, 3)) (k : G E wt x own cc nL cs st (pc + 3) lv (.int v :: stk)) : G E wt x own cc nL cs st pc lv (stk) :=
  fun C w H locs ls hH hz hS hl => lv_ldcw C.ex C.cb C.ow (C.ts _ hw) d (k C w H locs ls hH hz hS hl)
theorem g_ldc2 {i : Nat} {v : Int64} (hw : Cond.constantLong own i v ∈ gtbl) (d : decode cc pc = .ok (.ldc2_w i, 3)) (k : G E wt x own cc nL cs st (pc + 3) lv (.long v :: stk)) : G E wt x own cc nL cs st pc lv (stk) :=
  fun C w H locs ls hH hz hS hl => lv_ldc2 C.ex C.cb C.ow (C.ts _ hw) d (k C w H locs ls hH hz hS hl)
theorem g_iload_n {n : Fin 4} {i : Nat} {v : Int32} (hn : (n : Nat) = i) (q : Nat) (hq : lv[q]? = some (i, .int v)) (d : decode cc pc = .ok (.iload_n n, 1)) (k : G E wt x own cc nL cs st (pc + 1) lv (.int v :: stk)) : G E wt x own cc nL cs st pc lv (stk) :=
  fun C w H locs ls hH hz hS hl => lv_iload_n C.ex C.cb d hn (lv_at hl q hq) (k C w H locs ls hH hz hS hl)
theorem g_iload {i : Nat} {v : Int32} (q : Nat) (hq : lv[q]? = some (i, .int v)) (d : decode cc pc = .ok (.iload i, 2)) (k : G E wt x own cc nL cs st (pc + 2) lv (.int v :: stk)) : G E wt x own cc nL cs st pc lv (stk) :=
  fun C w H locs ls hH hz hS hl => lv_iload C.ex C.cb d (lv_at hl q hq) (k C w H locs ls hH hz hS hl)
theorem g_lload_n {n : Fin 4} {i : Nat} {v : Int64} (hn : (n : Nat) = i) (q : Nat) (hq : lv[q]? = some (i, .long v)) (d : decode cc pc = .ok (.lload_n n, 1)) (k : G E wt x own cc nL cs st (pc + 1) lv (.long v :: stk)) : G E wt x own cc nL cs st pc lv (stk) :=
  fun C w H locs ls hH hz hS hl => lv_lload_n C.ex C.cb d hn (lv_at hl q hq) (k C w H locs ls hH hz hS hl)
theorem g_lload {i : Nat} {v : Int64} (q : Nat) (hq : lv[q]? = some (i, .long v)) (d : decode cc pc = .ok (.lload i, 2)) (k : G E wt x own cc nL cs st (pc + 2) lv (.long v :: stk)) : G E wt x own cc nL cs st pc lv (stk) :=
  fun C w H locs ls hH hz hS hl => lv_lload C.ex C.cb d (lv_at hl q hq) (k C w H locs ls hH hz hS hl)
theorem g_aload_n {n : Fin 4} {i : Nat} {v : Nat} (hn : (n : Nat) = i) (q : Nat) (hq : lv[q]? = some (i, .ref v)) (d : decode cc pc = .ok (.aload_n n, 1)) (k : G E wt x own cc nL cs st (pc + 1) lv (.ref v :: stk)) : G E wt x own cc nL cs st pc lv (stk) :=
  fun C w H locs ls hH hz hS hl => lv_aload_n C.ex C.cb d hn (lv_at hl q hq) (k C w H locs ls hH hz hS hl)
theorem g_aload {i : Nat} {v : Nat} (q : Nat) (hq : lv[q]? = some (i, .ref v)) (d : decode cc pc = .ok (.aload i, 2)) (k : G E wt x own cc nL cs st (pc + 2) lv (.ref v :: stk)) : G E wt x own cc nL cs st pc lv (stk) :=
  fun C w H locs ls hH hz hS hl => lv_aload C.ex C.cb d (lv_at hl q hq) (k C w H locs ls hH hz hS hl)
theorem g_aload_q {n : Fin 4} {i : Nat} {r : Option Nat} (hn : (n : Nat) = i) (q : Nat) (hq : lv[q]? = some (i, va_rf r)) (d : decode cc pc = .ok (.aload_n n, 1)) (k : G E wt x own cc nL cs st (pc + 1) lv (va_rf r :: stk)) : G E wt x own cc nL cs st pc lv stk := by
  intro C w H locs ls hH hz hS hl
  cases r with
  | none => exact lv_aload_nN C.ex C.cb d hn (lv_at hl q hq) (k C w H locs ls hH hz hS hl)
  | some z => exact lv_aload_n C.ex C.cb d hn (lv_at hl q hq) (k C w H locs ls hH hz hS hl)
theorem g_istore_n {n : Fin 4} {i : Nat} {v : Int32} (hn : (n : Nat) = i) (lv' : List (Nat × Value)) (hb : i < nL) (hf : (i, Value.int v) :: lv.filter (fun q => !(q.1 == i) && !(q.1 + 1 == i && q.2.category == 2)) = lv') (d : decode cc pc = .ok (.istore_n n, 1)) (k : G E wt x own cc nL cs st (pc + 1) lv' stk) : G E wt x own cc nL cs st pc lv (.int v :: stk) :=
  fun C w H locs ls hH hz hS hl => lv_istore_n C.ex C.cb d hn hl hb hf (fun ls2 hl2 => k C w H locs ls2 hH hz hS hl2)
theorem g_istore {i : Nat} {v : Int32} (lv' : List (Nat × Value)) (hb : i < nL) (hf : (i, Value.int v) :: lv.filter (fun q => !(q.1 == i) && !(q.1 + 1 == i && q.2.category == 2)) = lv') (d : decode cc pc = .ok (.istore i, 2)) (k : G E wt x own cc nL cs st (pc + 2) lv' stk) : G E wt x own cc nL cs st pc lv (.int v :: stk) :=
  fun C w H locs ls hH hz hS hl => lv_istore C.ex C.cb d hl hb hf (fun ls2 hl2 => k C w H locs ls2 hH hz hS hl2)
theorem g_astore_n {n : Fin 4} {i : Nat} {v : Nat} (hn : (n : Nat) = i) (lv' : List (Nat × Value)) (hb : i < nL) (hf : (i, Value.ref v) :: lv.filter (fun q => !(q.1 == i) && !(q.1 + 1 == i && q.2.category == 2)) = lv') (d : decode cc pc = .ok (.astore_n n, 1)) (k : G E wt x own cc nL cs st (pc + 1) lv' stk) : G E wt x own cc nL cs st pc lv (.ref v :: stk) :=
  fun C w H locs ls hH hz hS hl => lv_astore_n C.ex C.cb d hn hl hb hf (fun ls2 hl2 => k C w H locs ls2 hH hz hS hl2)
theorem g_astore {i : Nat} {v : Nat} (lv' : List (Nat × Value)) (hb : i < nL) (hf : (i, Value.ref v) :: lv.filter (fun q => !(q.1 == i) && !(q.1 + 1 == i && q.2.category == 2)) = lv') (d : decode cc pc = .ok (.astore i, 2)) (k : G E wt x own cc nL cs st (pc + 2) lv' stk) : G E wt x own cc nL cs st pc lv (.ref v :: stk) :=
  fun C w H locs ls hH hz hS hl => lv_astore C.ex C.cb d hl hb hf (fun ls2 hl2 => k C w H locs ls2 hH hz hS hl2)
theorem g_lstore_n {n : Fin 4} {i : Nat} {v : Int64} (hn : (n : Nat) = i) (lv' : List (Nat × Value)) (hb : i + 1 < nL) (hf : (i, Value.long v) :: lv.filter (fun q => !(q.1 == i) && (!(q.1 == i + 1) && !(q.1 + 1 == i && q.2.category == 2))) = lv') (d : decode cc pc = .ok (.lstore_n n, 1)) (k : G E wt x own cc nL cs st (pc + 1) lv' stk) : G E wt x own cc nL cs st pc lv (.long v :: stk) :=
  fun C w H locs ls hH hz hS hl => lv_lstore_n C.ex C.cb d hn hl hb hf (fun ls2 hl2 => k C w H locs ls2 hH hz hS hl2)
theorem g_lstore {i : Nat} {v : Int64} (lv' : List (Nat × Value)) (hb : i + 1 < nL) (hf : (i, Value.long v) :: lv.filter (fun q => !(q.1 == i) && (!(q.1 == i + 1) && !(q.1 + 1 == i && q.2.category == 2))) = lv') (d : decode cc pc = .ok (.lstore i, 2)) (k : G E wt x own cc nL cs st (pc + 2) lv' stk) : G E wt x own cc nL cs st pc lv (.long v :: stk) :=
  fun C w H locs ls hH hz hS hl => lv_lstore C.ex C.cb d hl hb hf (fun ls2 hl2 => k C w H locs ls2 hH hz hS hl2)
theorem g_iinc {i : Nat} {n : Int} {v : Int32} (v' : Int32) (lv' : List (Nat × Value)) (q : Nat) (hq : lv[q]? = some (i, .int v)) (hv : v + Int32.ofInt n = v') (hb : i < nL) (hf : (i, Value.int v') :: lv.filter (fun q => !(q.1 == i) && !(q.1 + 1 == i && q.2.category == 2)) = lv') (d : decode cc pc = .ok (.iinc i n, 3)) (k : G E wt x own cc nL cs st (pc + 3) lv' stk) : G E wt x own cc nL cs st pc lv stk :=
  fun C w H locs ls hH hz hS hl => lv_iinc C.ex C.cb d hl hq hv hb hf (fun ls2 hl2 => k C w H locs ls2 hH hz hS hl2)
theorem g_iadd {a b : Int32}  (d : decode cc pc = .ok (.iadd, 1)) (k : G E wt x own cc nL cs st (pc + 1) lv (.int (a + b) :: stk)) : G E wt x own cc nL cs st pc lv (.int b :: .int a :: stk) :=
  fun C w H locs ls hH hz hS hl => lv_iadd C.ex C.cb d (k C w H locs ls hH hz hS hl)
theorem g_isub {a b : Int32}  (d : decode cc pc = .ok (.isub, 1)) (k : G E wt x own cc nL cs st (pc + 1) lv (.int (a - b) :: stk)) : G E wt x own cc nL cs st pc lv (.int b :: .int a :: stk) :=
  fun C w H locs ls hH hz hS hl => lv_isub C.ex C.cb d (k C w H locs ls hH hz hS hl)
theorem g_imul {a b : Int32}  (d : decode cc pc = .ok (.imul, 1)) (k : G E wt x own cc nL cs st (pc + 1) lv (.int (a * b) :: stk)) : G E wt x own cc nL cs st pc lv (.int b :: .int a :: stk) :=
  fun C w H locs ls hH hz hS hl => lv_imul C.ex C.cb d (k C w H locs ls hH hz hS hl)
theorem g_iand {a b : Int32}  (d : decode cc pc = .ok (.iand, 1)) (k : G E wt x own cc nL cs st (pc + 1) lv (.int (a &&& b) :: stk)) : G E wt x own cc nL cs st pc lv (.int b :: .int a :: stk) :=
  fun C w H locs ls hH hz hS hl => lv_iand C.ex C.cb d (k C w H locs ls hH hz hS hl)
theorem g_ior {a b : Int32}  (d : decode cc pc = .ok (.ior, 1)) (k : G E wt x own cc nL cs st (pc + 1) lv (.int (a ||| b) :: stk)) : G E wt x own cc nL cs st pc lv (.int b :: .int a :: stk) :=
  fun C w H locs ls hH hz hS hl => lv_ior C.ex C.cb d (k C w H locs ls hH hz hS hl)
theorem g_ixor {a b : Int32}  (d : decode cc pc = .ok (.ixor, 1)) (k : G E wt x own cc nL cs st (pc + 1) lv (.int (a ^^^ b) :: stk)) : G E wt x own cc nL cs st pc lv (.int b :: .int a :: stk) :=
  fun C w H locs ls hH hz hS hl => lv_ixor C.ex C.cb d (k C w H locs ls hH hz hS hl)
theorem g_ishl {a b : Int32}  (d : decode cc pc = .ok (.ishl, 1)) (k : G E wt x own cc nL cs st (pc + 1) lv (.int (jshl a b) :: stk)) : G E wt x own cc nL cs st pc lv (.int b :: .int a :: stk) :=
  fun C w H locs ls hH hz hS hl => lv_ishl C.ex C.cb d (k C w H locs ls hH hz hS hl)
theorem g_ishr {a b : Int32}  (d : decode cc pc = .ok (.ishr, 1)) (k : G E wt x own cc nL cs st (pc + 1) lv (.int (jshr a b) :: stk)) : G E wt x own cc nL cs st pc lv (.int b :: .int a :: stk) :=
  fun C w H locs ls hH hz hS hl => lv_ishr C.ex C.cb d (k C w H locs ls hH hz hS hl)
theorem g_iushr {a b : Int32}  (d : decode cc pc = .ok (.iushr, 1)) (k : G E wt x own cc nL cs st (pc + 1) lv (.int (jushr a b) :: stk)) : G E wt x own cc nL cs st pc lv (.int b :: .int a :: stk) :=
  fun C w H locs ls hH hz hS hl => lv_iushr C.ex C.cb d rfl (k C w H locs ls hH hz hS hl)
theorem g_idiv {a b : Int32}  (hne : ¬ b = 0) (d : decode cc pc = .ok (.idiv, 1)) (k : G E wt x own cc nL cs st (pc + 1) lv (.int (a / b) :: stk)) : G E wt x own cc nL cs st pc lv (.int b :: .int a :: stk) :=
  fun C w H locs ls hH hz hS hl => lv_idiv C.ex C.cb d hne (k C w H locs ls hH hz hS hl)
theorem g_irem {a b : Int32}  (hne : ¬ b = 0) (d : decode cc pc = .ok (.irem, 1)) (k : G E wt x own cc nL cs st (pc + 1) lv (.int (jrem a b) :: stk)) : G E wt x own cc nL cs st pc lv (.int b :: .int a :: stk) :=
  fun C w H locs ls hH hz hS hl => lv_irem C.ex C.cb d hne (k C w H locs ls hH hz hS hl)
theorem g_ladd {a b : Int64}  (d : decode cc pc = .ok (.ladd, 1)) (k : G E wt x own cc nL cs st (pc + 1) lv (.long (a + b) :: stk)) : G E wt x own cc nL cs st pc lv (.long b :: .long a :: stk) :=
  fun C w H locs ls hH hz hS hl => lv_ladd C.ex C.cb d (k C w H locs ls hH hz hS hl)
theorem g_lsub {a b : Int64}  (d : decode cc pc = .ok (.lsub, 1)) (k : G E wt x own cc nL cs st (pc + 1) lv (.long (a - b) :: stk)) : G E wt x own cc nL cs st pc lv (.long b :: .long a :: stk) :=
  fun C w H locs ls hH hz hS hl => lv_lsub C.ex C.cb d (k C w H locs ls hH hz hS hl)
theorem g_lmul {a b : Int64}  (d : decode cc pc = .ok (.lmul, 1)) (k : G E wt x own cc nL cs st (pc + 1) lv (.long (a * b) :: stk)) : G E wt x own cc nL cs st pc lv (.long b :: .long a :: stk) :=
  fun C w H locs ls hH hz hS hl => lv_lmul C.ex C.cb d (k C w H locs ls hH hz hS hl)
theorem g_ldiv {a b : Int64}  (hne : ¬ b = 0) (d : decode cc pc = .ok (.ldiv, 1)) (k : G E wt x own cc nL cs st (pc + 1) lv (.long (a / b) :: stk)) : G E wt x own cc nL cs st pc lv (.long b :: .long a :: stk) :=
  fun C w H locs ls hH hz hS hl => lv_ldiv C.ex C.cb d hne (k C w H locs ls hH hz hS hl)
theorem g_lrem {a b : Int64}  (hne : ¬ b = 0) (d : decode cc pc = .ok (.lrem, 1)) (k : G E wt x own cc nL cs st (pc + 1) lv (.long (ljrem a b) :: stk)) : G E wt x own cc nL cs st pc lv (.long b :: .long a :: stk) :=
  fun C w H locs ls hH hz hS hl => lv_lrem C.ex C.cb d hne (k C w H locs ls hH hz hS hl)
theorem g_ineg {a : Int32} (d : decode cc pc = .ok (.ineg, 1)) (k : G E wt x own cc nL cs st (pc + 1) lv (.int (-a) :: stk)) : G E wt x own cc nL cs st pc lv (.int a :: stk) :=
  fun C w H locs ls hH hz hS hl => lv_ineg C.ex C.cb d (k C w H locs ls hH hz hS hl)
theorem g_i2l {a : Int32} (d : decode cc pc = .ok (.i2l, 1)) (k : G E wt x own cc nL cs st (pc + 1) lv (.long a.toInt64 :: stk)) : G E wt x own cc nL cs st pc lv (.int a :: stk) :=
  fun C w H locs ls hH hz hS hl => lv_i2l C.ex C.cb d rfl (k C w H locs ls hH hz hS hl)
theorem g_l2i {a : Int64} (d : decode cc pc = .ok (.l2i, 1)) (k : G E wt x own cc nL cs st (pc + 1) lv (.int a.toInt32 :: stk)) : G E wt x own cc nL cs st pc lv (.long a :: stk) :=
  fun C w H locs ls hH hz hS hl => lv_l2i C.ex C.cb d rfl (k C w H locs ls hH hz hS hl)
theorem g_i2b {a : Int32} (d : decode cc pc = .ok (.i2b, 1)) (k : G E wt x own cc nL cs st (pc + 1) lv (.int (i2b a) :: stk)) : G E wt x own cc nL cs st pc lv (.int a :: stk) :=
  fun C w H locs ls hH hz hS hl => lv_i2b C.ex C.cb d rfl (k C w H locs ls hH hz hS hl)
theorem g_lcmp {a b : Int64} (d : decode cc pc = .ok (.lcmp, 1)) (k : G E wt x own cc nL cs st (pc + 1) lv (.int (lg_cmp a b) :: stk)) : G E wt x own cc nL cs st pc lv (.long b :: .long a :: stk) :=
  fun C w H locs ls hH hz hS hl => W.lcmp C.ex C.cb d (k C w H locs ls hH hz hS hl)
theorem g_dup {a : Value} (ha : a.category = 1) (d : decode cc pc = .ok (.dup, 1)) (k : G E wt x own cc nL cs st (pc + 1) lv (a :: a :: stk)) : G E wt x own cc nL cs st pc lv (a :: stk) :=
  fun C w H locs ls hH hz hS hl => lv_dup C.ex C.cb d ha (k C w H locs ls hH hz hS hl)
theorem g_pop {a : Value} (ha : a.category = 1) (d : decode cc pc = .ok (.pop, 1)) (k : G E wt x own cc nL cs st (pc + 1) lv (stk)) : G E wt x own cc nL cs st pc lv (a :: stk) :=
  fun C w H locs ls hH hz hS hl => lv_pop C.ex C.cb d ha (k C w H locs ls hH hz hS hl)
theorem g_dup_x1 {a b : Value} (ha : a.category = 1) (hb : b.category = 1) (d : decode cc pc = .ok (.dup_x1, 1)) (k : G E wt x own cc nL cs st (pc + 1) lv (a :: b :: a :: stk)) : G E wt x own cc nL cs st pc lv (a :: b :: stk) :=
  fun C w H locs ls hH hz hS hl => lv_dup_x1 C.ex C.cb d ha hb (k C w H locs ls hH hz hS hl)
theorem g_dup2 {a b : Value} (ha : a.category = 1) (hb : b.category = 1) (d : decode cc pc = .ok (.dup2, 1)) (k : G E wt x own cc nL cs st (pc + 1) lv (a :: b :: a :: b :: stk)) : G E wt x own cc nL cs st pc lv (a :: b :: stk) :=
  fun C w H locs ls hH hz hS hl => lv_dup2_11 C.ex C.cb d ha hb (k C w H locs ls hH hz hS hl)
theorem g_null  (d : decode cc pc = .ok (.aconst_null, 1)) (k : G E wt x own cc nL cs st (pc + 1) lv (.null :: stk)) : G E wt x own cc nL cs st pc lv (stk) :=
  fun C w H locs ls hH hz hS hl => lv_null C.ex C.cb d (k C w H locs ls hH hz hS hl)
theorem g_if_eq {a : Int32} {off : Int} (tgt : Nat) (ht : (pc : Int) + off = (tgt : Int)) (d : decode cc pc = .ok (.ifCond .eq off, 3)) (kt : a = 0 → G E wt x own cc nL cs st tgt lv stk) (kf : ¬ (a = 0) → G E wt x own cc nL cs st (pc + 3) lv stk) : G E wt x own cc nL cs st pc lv (.int a :: stk) :=
  fun C w H locs ls hH hz hS hl => lv_if_eq C.ex C.cb d ht (fun h => kt h C w H locs ls hH hz hS hl) (fun h => kf h C w H locs ls hH hz hS hl)
theorem g_icmp_eq {a b : Int32} {off : Int} (tgt : Nat) (ht : (pc : Int) + off = (tgt : Int)) (d : decode cc pc = .ok (.if_icmp .eq off, 3)) (kt : a = b → G E wt x own cc nL cs st tgt lv stk) (kf : ¬ (a = b) → G E wt x own cc nL cs st (pc + 3) lv stk) : G E wt x own cc nL cs st pc lv (.int b :: .int a :: stk) :=
  fun C w H locs ls hH hz hS hl => lv_icmp_eq C.ex C.cb d ht (fun h => kt h C w H locs ls hH hz hS hl) (fun h => kf h C w H locs ls hH hz hS hl)
theorem g_if_ne {a : Int32} {off : Int} (tgt : Nat) (ht : (pc : Int) + off = (tgt : Int)) (d : decode cc pc = .ok (.ifCond .ne off, 3)) (kt : ¬ a = 0 → G E wt x own cc nL cs st tgt lv stk) (kf : a = 0 → G E wt x own cc nL cs st (pc + 3) lv stk) : G E wt x own cc nL cs st pc lv (.int a :: stk) :=
  fun C w H locs ls hH hz hS hl => lv_if_ne C.ex C.cb d ht (fun h => kt h C w H locs ls hH hz hS hl) (fun h => kf h C w H locs ls hH hz hS hl)
theorem g_icmp_ne {a b : Int32} {off : Int} (tgt : Nat) (ht : (pc : Int) + off = (tgt : Int)) (d : decode cc pc = .ok (.if_icmp .ne off, 3)) (kt : ¬ a = b → G E wt x own cc nL cs st tgt lv stk) (kf : a = b → G E wt x own cc nL cs st (pc + 3) lv stk) : G E wt x own cc nL cs st pc lv (.int b :: .int a :: stk) :=
  fun C w H locs ls hH hz hS hl => lv_icmp_ne C.ex C.cb d ht (fun h => kt h C w H locs ls hH hz hS hl) (fun h => kf h C w H locs ls hH hz hS hl)
theorem g_if_lt {a : Int32} {off : Int} (tgt : Nat) (ht : (pc : Int) + off = (tgt : Int)) (d : decode cc pc = .ok (.ifCond .lt off, 3)) (kt : a < 0 → G E wt x own cc nL cs st tgt lv stk) (kf : ¬ (a < 0) → G E wt x own cc nL cs st (pc + 3) lv stk) : G E wt x own cc nL cs st pc lv (.int a :: stk) :=
  fun C w H locs ls hH hz hS hl => lv_if_lt C.ex C.cb d ht (fun h => kt h C w H locs ls hH hz hS hl) (fun h => kf h C w H locs ls hH hz hS hl)
theorem g_icmp_lt {a b : Int32} {off : Int} (tgt : Nat) (ht : (pc : Int) + off = (tgt : Int)) (d : decode cc pc = .ok (.if_icmp .lt off, 3)) (kt : a < b → G E wt x own cc nL cs st tgt lv stk) (kf : ¬ (a < b) → G E wt x own cc nL cs st (pc + 3) lv stk) : G E wt x own cc nL cs st pc lv (.int b :: .int a :: stk) :=
  fun C w H locs ls hH hz hS hl => lv_icmp_lt C.ex C.cb d ht (fun h => kt h C w H locs ls hH hz hS hl) (fun h => kf h C w H locs ls hH hz hS hl)
theorem g_if_ge {a : Int32} {off : Int} (tgt : Nat) (ht : (pc : Int) + off = (tgt : Int)) (d : decode cc pc = .ok (.ifCond .ge off, 3)) (kt : 0 ≤ a → G E wt x own cc nL cs st tgt lv stk) (kf : ¬ (0 ≤ a) → G E wt x own cc nL cs st (pc + 3) lv stk) : G E wt x own cc nL cs st pc lv (.int a :: stk) :=
  fun C w H locs ls hH hz hS hl => lv_if_ge C.ex C.cb d ht (fun h => kt h C w H locs ls hH hz hS hl) (fun h => kf h C w H locs ls hH hz hS hl)
theorem g_icmp_ge {a b : Int32} {off : Int} (tgt : Nat) (ht : (pc : Int) + off = (tgt : Int)) (d : decode cc pc = .ok (.if_icmp .ge off, 3)) (kt : b ≤ a → G E wt x own cc nL cs st tgt lv stk) (kf : ¬ (b ≤ a) → G E wt x own cc nL cs st (pc + 3) lv stk) : G E wt x own cc nL cs st pc lv (.int b :: .int a :: stk) :=
  fun C w H locs ls hH hz hS hl => lv_icmp_ge C.ex C.cb d ht (fun h => kt h C w H locs ls hH hz hS hl) (fun h => kf h C w H locs ls hH hz hS hl)
theorem g_if_gt {a : Int32} {off : Int} (tgt : Nat) (ht : (pc : Int) + off = (tgt : Int)) (d : decode cc pc = .ok (.ifCond .gt off, 3)) (kt : 0 < a → G E wt x own cc nL cs st tgt lv stk) (kf : ¬ (0 < a) → G E wt x own cc nL cs st (pc + 3) lv stk) : G E wt x own cc nL cs st pc lv (.int a :: stk) :=
  fun C w H locs ls hH hz hS hl => lv_if_gt C.ex C.cb d ht (fun h => kt h C w H locs ls hH hz hS hl) (fun h => kf h C w H locs ls hH hz hS hl)
theorem g_icmp_gt {a b : Int32} {off : Int} (tgt : Nat) (ht : (pc : Int) + off = (tgt : Int)) (d : decode cc pc = .ok (.if_icmp .gt off, 3)) (kt : b < a → G E wt x own cc nL cs st tgt lv stk) (kf : ¬ (b < a) → G E wt x own cc nL cs st (pc + 3) lv stk) : G E wt x own cc nL cs st pc lv (.int b :: .int a :: stk) :=
  fun C w H locs ls hH hz hS hl => lv_icmp_gt C.ex C.cb d ht (fun h => kt h C w H locs ls hH hz hS hl) (fun h => kf h C w H locs ls hH hz hS hl)
theorem g_if_le {a : Int32} {off : Int} (tgt : Nat) (ht : (pc : Int) + off = (tgt : Int)) (d : decode cc pc = .ok (.ifCond .le off, 3)) (kt : a ≤ 0 → G E wt x own cc nL cs st tgt lv stk) (kf : ¬ (a ≤ 0) → G E wt x own cc nL cs st (pc + 3) lv stk) : G E wt x own cc nL cs st pc lv (.int a :: stk) :=
  fun C w H locs ls hH hz hS hl => lv_if_le C.ex C.cb d ht (fun h => kt h C w H locs ls hH hz hS hl) (fun h => kf h C w H locs ls hH hz hS hl)
theorem g_icmp_le {a b : Int32} {off : Int} (tgt : Nat) (ht : (pc : Int) + off = (tgt : Int)) (d : decode cc pc = .ok (.if_icmp .le off, 3)) (kt : a ≤ b → G E wt x own cc nL cs st tgt lv stk) (kf : ¬ (a ≤ b) → G E wt x own cc nL cs st (pc + 3) lv stk) : G E wt x own cc nL cs st pc lv (.int b :: .int a :: stk) :=
  fun C w H locs ls hH hz hS hl => lv_icmp_le C.ex C.cb d ht (fun h => kt h C w H locs ls hH hz hS hl) (fun h => kf h C w H locs ls hH hz hS hl)
theorem g_acmp_eq {r q : Option Nat} {off : Int} (tgt : Nat) (ht : (pc : Int) + off = (tgt : Int)) (d : decode cc pc = .ok (.if_acmp .eq off, 3)) (kt : r = q → G E wt x own cc nL cs st tgt lv stk) (kf : ¬ r = q → G E wt x own cc nL cs st (pc + 3) lv stk) : G E wt x own cc nL cs st pc lv (va_rf q :: va_rf r :: stk) :=
  fun C w H locs ls hH hz hS hl => lv_acmp_eq C.ex C.cb d ht (fun h => kt h C w H locs ls hH hz hS hl) (fun h => kf h C w H locs ls hH hz hS hl)
theorem g_acmp_ne {r q : Option Nat} {off : Int} (tgt : Nat) (ht : (pc : Int) + off = (tgt : Int)) (d : decode cc pc = .ok (.if_acmp .ne off, 3)) (kt : ¬ r = q → G E wt x own cc nL cs st tgt lv stk) (kf : r = q → G E wt x own cc nL cs st (pc + 3) lv stk) : G E wt x own cc nL cs st pc lv (va_rf q :: va_rf r :: stk) :=
  fun C w H locs ls hH hz hS hl => lv_acmp_ne C.ex C.cb d ht (fun h => kt h C w H locs ls hH hz hS hl) (fun h => kf h C w H locs ls hH hz hS hl)
theorem g_goto {off : Int} (tgt : Nat) (ht : (pc : Int) + off = (tgt : Int)) (d : decode cc pc = .ok (.goto off, 3)) (k : G E wt x own cc nL cs st tgt lv stk) : G E wt x own cc nL cs st pc lv stk :=
  fun C w H locs ls hH hz hS hl => lv_goto C.ex C.cb d ht (k C w H locs ls hH hz hS hl)
theorem g_ifnull_s {z : Nat} {off : Int} (d : decode cc pc = .ok (.ifnull off, 3)) (k : G E wt x own cc nL cs st (pc + 3) lv stk) : G E wt x own cc nL cs st pc lv (.ref z :: stk) :=
  fun C w H locs ls hH hz hS hl => lv_ifnull C.ex C.cb d (k C w H locs ls hH hz hS hl)
theorem g_ifnull_n {off : Int} (tgt : Nat) (ht : (pc : Int) + off = (tgt : Int)) (d : decode cc pc = .ok (.ifnull off, 3)) (k : G E wt x own cc nL cs st tgt lv stk) : G E wt x own cc nL cs st pc lv (.null :: stk) :=
  fun C w H locs ls hH hz hS hl => lv_ifnullN C.ex C.cb d ht (k C w H locs ls hH hz hS hl)
theorem g_ifnonnull_s {z : Nat} {off : Int} (tgt : Nat) (ht : (pc : Int) + off = (tgt : Int)) (d : decode cc pc = .ok (.ifnonnull off, 3)) (k : G E wt x own cc nL cs st tgt lv stk) : G E wt x own cc nL cs st pc lv (.ref z :: stk) :=
  fun C w H locs ls hH hz hS hl => lv_ifnonnull C.ex C.cb d ht (k C w H locs ls hH hz hS hl)
theorem g_ifnonnull_n {off : Int} (d : decode cc pc = .ok (.ifnonnull off, 3)) (k : G E wt x own cc nL cs st (pc + 3) lv stk) : G E wt x own cc nL cs st pc lv (.null :: stk) :=
  fun C w H locs ls hH hz hS hl => lv_ifnonnullN C.ex C.cb d (k C w H locs ls hH hz hS hl)
theorem g_lookup {dflt : Int} {ps : Array (Int × Int)} {len : Nat} {a : Int32} (off : Int) (tgt : Nat) (d : decode cc pc = .ok (.lookupswitch dflt ps, len)) (hp : (ps.toList.zip (ps.toList.drop 1)).all (fun (a, next) => a.1 < next.1) = true) (ho : Op.lookupswitch.offset ps.toList dflt a.toInt = off) (ht : (pc : Int) + off = (tgt : Int)) (k : G E wt x own cc nL cs st tgt lv stk) : G E wt x own cc nL cs st pc lv (.int a :: stk) :=
  fun C w H locs ls hH hz hS hl => lv_lookup C.ex C.cb d hp ho ht (k C w H locs ls hH hz hS hl)
theorem g_tableOut {dflt lo hi : Int} {offs : Array Int} {len : Nat} {a : Int32} (tgt : Nat) (d : decode cc pc = .ok (.tableswitch dflt lo hi offs, len)) (h : a.toInt < lo ∨ hi < a.toInt) (ht : (pc : Int) + dflt = (tgt : Int)) (k : G E wt x own cc nL cs st tgt lv stk) : G E wt x own cc nL cs st pc lv (.int a :: stk) :=
  fun C w H locs ls hH hz hS hl => lv_tableOut C.ex C.cb d h ht (k C w H locs ls hH hz hS hl)
theorem g_tableIn {dflt lo hi : Int} {offs : Array Int} {len : Nat} {a : Int32} (off : Int) (tgt : Nat) (d : decode cc pc = .ok (.tableswitch dflt lo hi offs, len)) (h1 : ¬ a.toInt < lo) (h2 : ¬ hi < a.toInt) (ho : offs[(a.toInt - lo).toNat]? = some off) (ht : (pc : Int) + off = (tgt : Int)) (k : G E wt x own cc nL cs st tgt lv stk) : G E wt x own cc nL cs st pc lv (.int a :: stk) :=
  fun C w H locs ls hH hz hS hl => lv_tableIn C.ex C.cb d h1 h2 ho ht (k C w H locs ls hH hz hS hl)
end Rows
