/-! tokens of the tape; words -/
def dict : List (List Int32) := [[98, 101, 97, 116, 115], [115, 107, 105, 112, 115], [116, 117, 114, 110, 115], [107, 101, 101, 112, 115], [105, 102], [111, 114], [97, 110, 100], [110, 111, 116], [99, 104, 105, 108, 100], [114, 104, 121, 109, 101], [98, 101, 97, 116], [109, 111, 111, 100], [113, 117, 105, 99, 107], [109, 97, 110, 121], [114, 111, 117, 110, 100], [100, 111, 110, 101], [108, 97, 116, 101, 115, 116], [97, 116], [105, 110], [115, 97, 121], [106, 111, 105, 110], [108, 101, 97, 118, 101], [112, 97, 115, 115], [116, 105, 109, 101, 115]]
def flt : List (List Int32) → List Int32
  | [] => []
  | w :: ws => w ++ 32 :: flt ws
set_option maxRecDepth 100000 in
theorem mw_ok : ∀ j, j < 121 → sI stI 44 j = (flt dict).getD j 0 := by decide +kernel
theorem flt_len : (flt dict).length = 121 := by decide +kernel
theorem dict_32 : ∀ w ∈ dict, ∀ c ∈ w, c ≠ 32 := by decide +kernel
def dIx (W : List Int32) : List (List Int32) → Nat → Nat
  | [], _ => 0
  | w :: ws, i => if w = W then i else dIx W ws (i + 1)
theorem dIx_n {W : List Int32} : ∀ (ws : List (List Int32)) (i : Nat), ¬ W ∈ ws → dIx W ws i = 0 := by
  intro ws
  induction ws with
  | nil => intro i _; rfl
  | cons w ws ih =>
    intro i h
    unfold dIx
    rw [if_neg (fun e => h (by rw [e]; simp)), ih _ (fun q => h (by simp [q]))]
theorem dIx_le {W : List Int32} : ∀ (ws : List (List Int32)) (i : Nat), dIx W ws i ≤ i + ws.length - 1 := by
  intro ws
  induction ws with
  | nil => intro i; exact Nat.zero_le _
  | cons w ws ih =>
    intro i
    unfold dIx
    split
    · simp only [List.length_cons]; omega
    · have := ih (i + 1); simp only [List.length_cons]; omega
theorem dIx_b {W : List Int32} : dIx W dict 1 ≤ 24 := by
  have h1 := dIx_le (W := W) dict 1
  have h : dict.length = 24 := by decide
  rw [h] at h1
  exact h1
/-! the number of a word, by the model -/
section
variable {st : St} {s : Nat} {W : List Int32}
abbrev Kw5 : Type := Int32 → Int32 → Int32 → Int32 → Option Int32
theorem getD_drop {α : Type} {l : List α} {j : Nat} {d : α} (h : j < l.length) : l.drop j = l.getD j d :: l.drop (j + 1) := by
  rw [List.drop_eq_getElem_cons h, List.getD_eq_getElem?_getD, List.getElem?_eq_getElem h]; rfl
theorem cmp8 {K : Kw5} {i k : Nat} {w : List Int32} (hW : ∀ j, j < W.length → sI st 45 (s + j) = W.getD j 0) (hs : s + W.length ≤ 400) (hw : ∀ j, j < w.length → sI st 44 (k + j) = w.getD j 0) (hk : k + w.length < 121) (hl : w.length = W.length) : ∀ (d m j : Nat) (al : Bool), j + d = w.length → d < m → fX8_wordOf_b57 st K m (nI s) (nI (s + W.length)) (nI i) (nI k) (nI w.length) (b2i al) (nI j) = fX8_wordOf_b104 st K (nI s) (nI (s + W.length)) (nI i) (nI k) (nI w.length) (b2i (al && decide (w.drop j = W.drop j))) := by
  intro d
  induction d with
  | zero =>
    intro m j al h1 h2
    obtain ⟨m, rfl⟩ : ∃ j, m = j + 1 := ⟨m - 1, by omega⟩
    rw [fX8_wordOf_b57, if_pos (by rw [n_le (by omega) (by omega)]; omega)]
    rw [List.drop_eq_nil_of_le (show w.length ≤ j by omega), List.drop_eq_nil_of_le (show W.length ≤ j by omega)]
    simp
  | succ d ih =>
    intro m j al h1 h2
    obtain ⟨m, rfl⟩ : ∃ j, m = j + 1 := ⟨m - 1, by omega⟩
    rw [fX8_wordOf_b57, if_neg (by rw [n_le (by omega) (by omega)]; omega)]
    simp only [b2i_0]
    cases al with
    | false =>
      rw [if_pos rfl]; simp
    | true =>
      rw [if_neg (by decide), n_add, n_add, n_ixb (by omega), decide_eq_true (show k + j < 121 by omega), chk_t, n_ixb (by omega), decide_eq_true (show s + j < 400 by omega), chk_t, n_toNat (by omega), n_toNat (by omega), hw j (by omega), hW j (by omega)]
      unfold fX8_wordOf_b96
      rw [getD_drop (d := 0) (show j < w.length by omega), getD_drop (d := 0) (show j < W.length by omega)]
      by_cases c : w.getD j 0 = W.getD j 0
      · rw [if_pos c, n_p1]
        have := ih m (j + 1) true (by omega) (by omega)
        refine this.trans ?_
        congr 2
        rw [c]; simp
      · rw [if_neg c, n_p1]
        have := ih m (j + 1) false (by omega) (by omega)
        refine this.trans ?_
        have hne : ¬ (w.getD j 0 :: w.drop (j + 1) = W.getD j 0 :: W.drop (j + 1)) := fun e => c (List.cons.inj e).1
        rw [decide_eq_false hne]; simp
theorem len8 {K : Kw5} {i k : Nat} {w : List Int32} (h32 : ∀ c ∈ w, c ≠ 32) (hw : ∀ j, j < w.length → sI st 44 (k + j) = w.getD j 0) (hb : sI st 44 (k + w.length) = 32) (hk : k + w.length < 121) {e : Int32} {i' : Int32} : ∀ (d m j : Nat), j + d = w.length → d < m → fX8_wordOf_b18 st K m (nI s) e i' (nI k) (nI j) = (if nI w.length = (e - nI s) then (fX8_wordOf_b52 st K (nI s) e i' (nI k) (nI w.length) (1 : Int32)) else (fX8_wordOf_b52 st K (nI s) e i' (nI k) (nI w.length) (0 : Int32))) := by
  intro d
  induction d with
  | zero =>
    intro m j h1 h2
    obtain ⟨m, rfl⟩ : ∃ j, m = j + 1 := ⟨m - 1, by omega⟩
    have ej : j = w.length := by omega
    subst ej
    rw [fX8_wordOf_b18, n_add, n_ixb (by omega), decide_eq_true (show k + w.length < 121 by omega), chk_t, n_toNat (by omega), hb, if_pos rfl]
  | succ d ih =>
    intro m j h1 h2
    obtain ⟨m, rfl⟩ : ∃ j, m = j + 1 := ⟨m - 1, by omega⟩
    have hc : w.getD j 0 ≠ 32 := by
      refine h32 _ ?_
      rw [List.getD_eq_getElem?_getD, List.getElem?_eq_getElem (show j < w.length by omega)]
      exact List.getElem_mem _
    rw [fX8_wordOf_b18, n_add, n_ixb (by omega), decide_eq_true (show k + j < 121 by omega), chk_t, n_toNat (by omega), hw j (by omega), if_neg hc, n_p1]
    exact ih m (j + 1) (by omega) (by omega)
theorem word8_loop (hW : ∀ j, j < W.length → sI st 45 (s + j) = W.getD j 0) (hs : s + W.length ≤ 400) : ∀ (ws : List (List Int32)) (m k i : Nat), (∀ j, j < (flt ws).length → sI st 44 (k + j) = (flt ws).getD j 0) → k + (flt ws).length = 121 → (∀ w ∈ ws, ∀ c ∈ w, c ≠ 32) → ws.length < m → i + ws.length < 1000 → fX8_wordOf_b5 st m (nI s) (nI (s + W.length)) (nI i) (nI k) = some (nI (dIx W ws i)) := by
  intro ws
  induction ws with
  | nil =>
    intro m k i hc hk _ hm _
    obtain ⟨m, rfl⟩ : ∃ j, m = j + 1 := ⟨m - 1, by simp at hm; omega⟩
    have : k = 121 := by simpa [flt] using hk
    subst this
    rw [fX8_wordOf_b5, if_pos (by decide)]; rfl
  | cons w ws ih =>
    intro m k i hc hk h32 hm hi
    obtain ⟨m, rfl⟩ : ∃ j, m = j + 1 := ⟨m - 1, by omega⟩
    simp only [List.length_cons] at hm hi
    have hfl : (flt (w :: ws)).length = w.length + 1 + (flt ws).length := by
      show (w ++ 32 :: flt ws).length = _
      rw [List.length_append, List.length_cons]; omega
    rw [hfl] at hk hc
    have hw : ∀ j, j < w.length → sI st 44 (k + j) = w.getD j 0 := fun j hj => by
      rw [hc j (by omega)]
      show (w ++ 32 :: flt ws).getD j 0 = _
      rw [List.getD_eq_getElem?_getD, List.getD_eq_getElem?_getD, List.getElem?_append_left hj]
    have hb : sI st 44 (k + w.length) = 32 := by
      rw [hc w.length (by omega)]
      show (w ++ 32 :: flt ws).getD w.length 0 = _
      rw [List.getD_eq_getElem?_getD, List.getElem?_append_right (Nat.le_refl _), Nat.sub_self]; rfl
    have hr : ∀ j, j < (flt ws).length → sI st 44 (k + (w.length + 1) + j) = (flt ws).getD j 0 := fun j hj => by
      rw [show k + (w.length + 1) + j = k + (w.length + 1 + j) by omega, hc (w.length + 1 + j) (by omega)]
      show (w ++ 32 :: flt ws).getD (w.length + 1 + j) 0 = _
      rw [List.getD_eq_getElem?_getD, List.getD_eq_getElem?_getD, List.getElem?_append_right (by omega), show w.length + 1 + j - w.length = j + 1 by omega]; rfl
    rw [fX8_wordOf_b5, if_neg (by rw [show (121 : Int32) = nI 121 from rfl, n_le (by omega) (by omega)]; omega)]
    have hlen := len8 (st := st) (s := s) (K := fun zl1 zl2 zl3 zl4 => fX8_wordOf_b5 st m zl1 zl2 zl3 zl4) (i := i) (e := nI (s + W.length)) (i' := nI i) (h32 w (by simp)) hw hb (by omega) w.length FU 0 (by omega) (by unfold FU; omega)
    rw [show fX8_wordOf_b18 st (fun zl1 zl2 zl3 zl4 => fX8_wordOf_b5 st m zl1 zl2 zl3 zl4) FU (nI s) (nI (s + W.length)) (nI i) (nI k) 0 = _ from hlen, n_sub (by omega), show s + W.length - s = W.length by omega]
    have he : (nI w.length = nI W.length) = (w.length = W.length) := n_eq (by omega) (by omega)
    simp only [he]
    have nx := ih m (k + (w.length + 1)) (i + 1) hr (by omega) (fun u hu => h32 u (by simp [hu])) (by omega) (by omega)
    unfold fX8_wordOf_b52 dIx
    by_cases cl : w.length = W.length
    · rw [if_pos cl]
      have := cmp8 (st := st) (s := s) (W := W) (K := fun zl1 zl2 zl3 zl4 => fX8_wordOf_b5 st m zl1 zl2 zl3 zl4) (i := i) hW hs hw (by omega) cl w.length FU 0 true (by omega) (by unfold FU; omega)
      rw [show fX8_wordOf_b57 st (fun zl1 zl2 zl3 zl4 => fX8_wordOf_b5 st m zl1 zl2 zl3 zl4) FU (nI s) (nI (s + W.length)) (nI i) (nI k) (nI w.length) 1 0 = _ from this]
      unfold fX8_wordOf_b104
      simp only [b2i_0, List.drop_zero, Bool.true_and]
      by_cases ce : w = W
      · rw [if_pos ce, if_neg (by rw [decide_eq_true ce]; decide)]
      · rw [if_neg ce, if_pos (decide_eq_false ce), n_p1, n_p1, n_add]
        exact nx
    · rw [if_neg cl, if_neg (fun e => cl (by rw [e]))]
      rw [show FU = 99999 + 1 from rfl, fX8_wordOf_b57]
      unfold fX8_wordOf_b104
      simp only [if_true, ite_self, n_p1, n_add]
      exact nx
end
theorem word8 {st : St} {s : Nat} {W : List Int32} (hmw : MW st) (hW : ∀ j, j < W.length → sI st 45 (s + j) = W.getD j 0) (hs : s + W.length ≤ 400) : fX8_wordOf st (nI s) (nI (s + W.length)) = some (nI (dIx W dict 1)) := by
  unfold fX8_wordOf
  exact word8_loop hW hs dict FU 0 1 (fun j hj => by rw [Nat.zero_add, hmw j]; exact mw_ok j (by rw [← flt_len]; exact hj)) (by rw [flt_len]) dict_32 (by unfold FU; decide) (by decide)
/-! which of some words, by the class -/
def whL (W : List Int32) : List Int32 → Nat → Option Nat → Int32
  | [], w, al => if al = some W.length then nI w else -1
  | c :: cs, w, al => if c = 32 then (if al = some W.length then nI w else whL W cs (w + 1) (some 0)) else match al with
    | none => whL W cs w none
    | some a => if a < W.length ∧ W.getD a 0 = c then whL W cs w (some (a + 1)) else whL W cs w none
def alI (al : Option Nat) : Int32 := match al with | none => -1 | some a => nI a
theorem which_loop {st : St} {s id : Nat} {W : List Int32} (h6 : sI st 7 6 = nI s) (h7 : sI st 7 7 = nI (s + W.length)) (hW : ∀ j, j < W.length → sI st 8 (s + j) = W.getD j 0) (hs : s + W.length ≤ 400) (hlen : sLen.getD id 0 = (sByt.getD id []).length) (hl : (sByt.getD id []).length < 1000) : ∀ (cs : List Int32) (m i w : Nat) (al : Option Nat), (sByt.getD id []).drop i = cs → i + cs.length = (sByt.getD id []).length → cs.length + 1 < m → (∀ a, al = some a → a ≤ W.length) → w ≤ i → fX3_which_b17 st m id (nI w) (alI al) (nI i) = some (whL W cs w al) := by
  have hal : ∀ al : Option Nat, (∀ a, al = some a → a ≤ W.length) → (alI al = nI (s + W.length) - nI s) = (al = some W.length) := by
    intro al h
    rw [n_sub (by omega), show s + W.length - s = W.length by omega]
    cases al with
    | none =>
      refine propext ⟨fun e => ?_, fun e => by cases e⟩
      have : nI W.length < 0 := by rw [← show alI none = nI W.length from e]; decide
      rw [n_neg (by omega)] at this; exact this.elim
    | some a =>
      have := h a rfl
      show (nI a = nI W.length) = _
      rw [n_eq (by omega) (by omega)]
      exact propext ⟨fun e => by rw [e], fun e => Option.some.inj e⟩
  intro cs
  induction cs with
  | nil =>
    intro m i w al hd hi hm ha hw
    obtain ⟨m, rfl⟩ : ∃ j, m = j + 1 := ⟨m - 1, by omega⟩
    simp only [List.length_nil] at hi hm
    rw [fX3_which_b17, hlen, if_neg (by rw [n_lt (by omega) (by omega)]; omega), if_pos (by rw [show i = (sByt.getD id []).length by omega])]
    unfold fX3_which_b46 whL fX3_which_b127
    rw [h6, h7]
    simp only [hal al ha]
    by_cases c : al = some W.length
    · rw [if_pos c, if_pos c]
    · rw [if_neg c, if_neg c]
      obtain ⟨m, rfl⟩ : ∃ j, m = j + 1 := ⟨m - 1, by omega⟩
      rw [fX3_which_b17, hlen, n_p1, n_p1, if_pos (by rw [n_lt (by omega) (by omega)]; omega)]
  | cons c cs ih =>
    intro m i w al hd hi hm ha hw
    obtain ⟨m, rfl⟩ : ∃ j, m = j + 1 := ⟨m - 1, by omega⟩
    simp only [List.length_cons] at hi hm
    have hil : i < (sByt.getD id []).length := by omega
    have hc : (sByt.getD id []).getD i 0 = c := by
      have h0 := getD_drop (d := (0 : Int32)) hil
      rw [hd] at h0
      exact (List.cons.inj h0).1.symm
    have hd' : (sByt.getD id []).drop (i + 1) = cs := by
      have h0 := getD_drop (d := (0 : Int32)) hil
      rw [hd] at h0
      exact (List.cons.inj h0).2.symm
    rw [fX3_which_b17, hlen, if_neg (by rw [n_lt (by omega) (by omega)]; omega), if_neg (by rw [n_eq (by omega) (by omega)]; omega), n_ixb (by omega), decide_eq_true hil, chk_t, n_toNat (by omega), hc]
    unfold fX3_which_b46 fX3_which_b111 fX3_which_b112 fX3_which_b126 fX3_which_b127 whL
    by_cases c32 : c = 32
    · rw [if_pos c32, if_pos c32, h6, h7]
      simp only [hal al ha]
      by_cases ca : al = some W.length
      · rw [if_pos ca, if_pos ca]
      · rw [if_neg ca, if_neg ca, n_p1, n_p1]
        exact ih m (i + 1) (w + 1) (some 0) hd' (by omega) (by omega) (fun a e => by have := Option.some.inj e; omega) (by omega)
    · rw [if_neg c32, if_neg c32]
      cases al with
      | none =>
        rw [if_pos rfl, n_p1]
        exact ih m (i + 1) w none hd' (by omega) (by omega) (fun a e => by cases e) (by omega)
      | some a =>
        have haW := ha a rfl
        have hne : ¬ alI (some a) = (-1 : Int32) := fun e => by
          have : nI a < 0 := by rw [show nI a = (-1 : Int32) from e]; decide
          rw [n_neg (by omega)] at this; exact this
        rw [if_neg hne, h6, h7]
        have eal : alI (some a) = nI a := rfl
        simp only [eal, n_add]
        have hle : (nI (s + W.length) ≤ nI (s + a)) = (s + W.length ≤ s + a) := n_le (by omega) (by omega)
        simp only [hle]
        by_cases c1 : a < W.length
        · rw [if_neg (by omega), n_ixb (by omega), decide_eq_true (show s + a < 400 by omega), chk_t, chk_t, n_toNat (by omega), hW a c1]
          by_cases c2 : W.getD a 0 = c
          · rw [if_pos c2, if_neg (show ¬ ((1 : Int32) = 0) by decide), if_pos (show a < W.length ∧ W.getD a 0 = c from ⟨c1, c2⟩), n_p1, n_p1]
            exact ih m (i + 1) w (some (a + 1)) hd' (by omega) (by omega) (fun a' e => by have := Option.some.inj e; omega) (by omega)
          · rw [if_neg c2, if_pos trivial, if_neg (show ¬ (a < W.length ∧ W.getD a 0 = c) from fun e => c2 e.2), n_p1]
            exact ih m (i + 1) w none hd' (by omega) (by omega) (fun a e => by cases e) (by omega)
        · rw [if_pos (show s + W.length ≤ s + a by omega), if_pos trivial, if_neg (show ¬ (a < W.length ∧ W.getD a 0 = c) from fun e => c1 e.1), n_p1]
          exact ih m (i + 1) w none hd' (by omega) (by omega) (fun a e => by cases e) (by omega)
/-! what is scanned -/
def jnS : List (List Int32) → List Int32
  | [] => []
  | [w] => w
  | w :: ws => w ++ 32 :: jnS ws
def sIx (W : List Int32) : List (List Int32) → Nat → Int32
  | [], _ => -1
  | w :: ws, i => if w = W then nI i else sIx W ws (i + 1)
def scW (W : List Int32) : List Int32 → Nat → Option Nat
  | [], a => some a
  | c :: u, a => if a < W.length ∧ W.getD a 0 = c then scW W u (a + 1) else none
theorem wh_none {W : List Int32} : ∀ (u cs : List Int32) (w : Nat), (∀ c ∈ u, c ≠ 32) → whL W (u ++ cs) w none = whL W cs w none := by
  intro u
  induction u with
  | nil => intro cs w _; rfl
  | cons c u ih =>
    intro cs w h
    rw [List.cons_append, whL, if_neg (h c (by simp))]
    exact ih cs w (fun c hc => h c (by simp [hc]))
theorem wh_scan {W : List Int32} : ∀ (u cs : List Int32) (w a : Nat), (∀ c ∈ u, c ≠ 32) → whL W (u ++ cs) w (some a) = whL W cs w (scW W u a) := by
  intro u
  induction u with
  | nil => intro cs w a _; rfl
  | cons c u ih =>
    intro cs w a h
    rw [List.cons_append, whL, if_neg (h c (by simp))]
    unfold scW
    by_cases q : a < W.length ∧ W.getD a 0 = c
    · simp only [q, and_self, if_true]
      have := ih cs w (a + 1) (fun c hc => h c (by simp [hc]))
      simpa [q.1, q.2] using this
    · simp only [if_neg q]
      exact wh_none u cs w (fun c hc => h c (by simp [hc]))
theorem scW_eq {W : List Int32} : ∀ (u : List Int32) (a : Nat), a ≤ W.length → (scW W u a = some W.length ↔ u = W.drop a) := by
  intro u
  induction u with
  | nil =>
    intro a ha
    unfold scW
    constructor
    · intro h
      have := Option.some.inj h
      rw [List.drop_eq_nil_of_le (by omega)]
    · intro h
      have := congrArg List.length h
      rw [List.length_drop] at this
      simp at this
      congr 1; omega
  | cons c u ih =>
    intro a ha
    unfold scW
    by_cases q : a < W.length ∧ W.getD a 0 = c
    · rw [if_pos q, ih (a + 1) (by omega), getD_drop (d := (0 : Int32)) q.1, q.2]
      exact ⟨fun h => by rw [h], fun h => (List.cons.inj h).2⟩
    · rw [if_neg q]
      refine ⟨fun h => (by cases h), fun h => ?_⟩
      exfalso
      have hl := congrArg List.length h
      rw [List.length_drop] at hl
      simp only [List.length_cons] at hl
      have h1 : a < W.length := by omega
      rw [getD_drop (d := (0 : Int32)) h1] at h
      exact q ⟨h1, (List.cons.inj h).1.symm⟩
theorem wh_idx {W : List Int32} : ∀ (ws : List (List Int32)) (w : Nat), ws ≠ [] → (∀ u ∈ ws, ∀ c ∈ u, c ≠ 32) → whL W (jnS ws) w (some 0) = sIx W ws w := by
  intro ws
  induction ws with
  | nil => intro w h; exact absurd rfl h
  | cons u us ih =>
    intro w _ h32
    have hu := h32 u (by simp)
    have hsc := scW_eq (W := W) u 0 (by omega)
    rw [List.drop_zero] at hsc
    cases us with
    | nil =>
      show whL W u w (some 0) = _
      have := wh_scan (W := W) u [] w 0 hu
      rw [List.append_nil] at this
      rw [this]
      unfold whL sIx sIx
      by_cases c : u = W
      · rw [if_pos (hsc.mpr c), if_pos c]
      · rw [if_neg (fun e => c (hsc.mp e)), if_neg c]
    | cons v vs =>
      show whL W (u ++ 32 :: jnS (v :: vs)) w (some 0) = _
      have e : whL W (32 :: jnS (v :: vs)) w (scW W u 0) = (if scW W u 0 = some W.length then nI w else whL W (jnS (v :: vs)) (w + 1) (some 0)) := by
        rw [whL.eq_def]; simp only [if_true]
      rw [wh_scan u _ w 0 hu, e, sIx]
      by_cases c : u = W
      · rw [if_pos (hsc.mpr c), if_pos c]
      · rw [if_neg (fun e => c (hsc.mp e)), if_neg c]
        exact ih (w + 1) (by simp) (fun u hu => h32 u (by simp [hu]))
def sW (id : Nat) : List (List Int32) := match id with
  | 0 => [[98, 101, 97, 116, 115], [115, 107, 105, 112, 115], [116, 117, 114, 110, 115], [107, 101, 101, 112, 115]]
  | 1 => [[115, 97, 121], [106, 111, 105, 110], [108, 101, 97, 118, 101], [112, 97, 115, 115]]
  | 2 => [[99, 104, 105, 108, 100], [113, 117, 105, 99, 107], [114, 104, 121, 109, 101], [98, 101, 97, 116], [109, 97, 110, 121], [114, 111, 117, 110, 100], [109, 111, 111, 100]]
  | 3 => [[114, 111, 117, 110, 100], [100, 111, 110, 101], [108, 97, 116, 101, 115, 116], [109, 97, 110, 121], [97, 116], [105, 110], [113, 117, 105, 99, 107]]
  | 4 => [[116, 105, 109, 101, 115]]
  | 5 => [[105, 102]]
  | 6 => [[110, 111, 116]]
  | 7 => [[97, 110, 100]]
  | _ => [[111, 114]]
theorem sW_j : ∀ id, id < 9 → sByt.getD id [] = jnS (sW id) ∧ sW id ≠ [] ∧ (∀ u ∈ sW id, ∀ c ∈ u, c ≠ 32) ∧ (∀ u ∈ sW id, u ∈ dict) ∧ sLen.getD id 0 = (sByt.getD id []).length ∧ (sByt.getD id []).length < 1000 := by decide +kernel
def whR (id code : Nat) : Int32 := match id with
  | 0 => if 1 ≤ code ∧ code ≤ 4 then nI (code - 1) else -1
  | 1 => if 20 ≤ code ∧ code ≤ 23 then nI (code - 20) else -1
  | 2 => if 9 ≤ code ∧ code ≤ 15 then nI (wL code) else -1
  | 3 => if 13 ≤ code ∧ code ≤ 19 then (if code = 13 then 6 else nI (wO code)) else -1
  | 4 => if code = 24 then 0 else -1
  | 5 => if code = 5 then 0 else -1
  | 6 => if code = 8 then 0 else -1
  | 7 => if code = 7 then 0 else -1
  | _ => if code = 6 then 0 else -1
theorem dict_wh : ∀ u ∈ dict, ∀ id, id < 9 → sIx u (sW id) 0 = whR id (dIx u dict 1) := by decide +kernel
theorem wh0 : ∀ id, id < 9 → whR id 0 = -1 := by decide +kernel
theorem sIx_n {W : List Int32} : ∀ (ws : List (List Int32)) (i : Nat), ¬ W ∈ ws → sIx W ws i = -1 := by
  intro ws
  induction ws with
  | nil => intro i _; rfl
  | cons w ws ih =>
    intro i h
    unfold sIx
    rw [if_neg (fun e => h (by rw [e]; simp)), ih _ (fun q => h (by simp [q]))]
theorem wh_ok {W : List Int32} {id : Nat} (hid : id < 9) : whL W (sByt.getD id []) 0 (some 0) = whR id (dIx W dict 1) := by
  obtain ⟨h1, h2, h3, h4, _⟩ := sW_j id hid
  rw [h1, wh_idx _ _ h2 h3]
  by_cases c : W ∈ dict
  · exact dict_wh W c id hid
  · rw [dIx_n _ _ c, wh0 id hid, sIx_n _ _ (fun q => c (h4 W q))]
theorem which7 {st : St} {s id : Nat} {W : List Int32} (h5 : sI st 7 5 = 2) (h6 : sI st 7 6 = nI s) (h7 : sI st 7 7 = nI (s + W.length)) (hW : ∀ j, j < W.length → sI st 8 (s + j) = W.getD j 0) (hs : s + W.length ≤ 400) (hid : id < 9) : fX3_which st id = some (whR id (dIx W dict 1)) := by
  obtain ⟨_, _, _, _, h8, h9⟩ := sW_j id hid
  unfold fX3_which
  rw [if_pos h5, ← wh_ok hid]
  exact which_loop h6 h7 hW hs h8 h9 _ FU 0 0 (some 0) rfl (by omega) (by unfold FU; omega) (fun a e => by have := Option.some.inj e; omega) (Nat.le_refl _)
