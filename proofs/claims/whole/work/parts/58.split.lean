/-! the tape cut into tokens -/
section
variable {n : Nat} {b : Nat → Int32}
def runF (P : Int32 → Bool) (b : Nat → Int32) : Nat → Nat → Nat
  | 0, i => i
  | f + 1, i => if P (b i) = true then runF P b f (i + 1) else i
def run (P : Int32 → Bool) (n : Nat) (b : Nat → Int32) (i : Nat) : Nat := runF P b (n - i) i
theorem run_e {P : Int32 → Bool} {i : Nat} (h : n ≤ i) : run P n b i = i := by
  unfold run
  rw [show n - i = 0 by omega]; rfl
theorem run_s {P : Int32 → Bool} {i : Nat} (h : i < n) (hp : P (b i) = true) : run P n b i = run P n b (i + 1) := by
  unfold run
  rw [show n - i = (n - (i + 1)) + 1 by omega, runF, if_pos hp]
theorem run_n {P : Int32 → Bool} {i : Nat} (h : i < n) (hp : P (b i) = false) : run P n b i = i := by
  unfold run
  rw [show n - i = (n - (i + 1)) + 1 by omega, runF, if_neg (by rw [hp]; decide)]
theorem runF_b {P : Int32 → Bool} : ∀ (f i : Nat), i ≤ runF P b f i ∧ runF P b f i ≤ i + f := by
  intro f
  induction f with
  | zero => intro i; exact ⟨Nat.le_refl _, Nat.le_refl _⟩
  | succ f ih =>
    intro i
    unfold runF
    split
    · have := ih (i + 1); omega
    · omega
theorem run_b {P : Int32 → Bool} {i : Nat} (h : i ≤ n) : i ≤ run P n b i ∧ run P n b i ≤ n := by
  have := runF_b (b := b) (P := P) (n - i) i
  unfold run
  omega
theorem run_stop {P : Int32 → Bool} : ∀ (d i : Nat), n - i = d → run P n b i < n → P (b (run P n b i)) = false := by
  intro d
  induction d with
  | zero => intro i hd h; rw [run_e (by omega)] at h; omega
  | succ d ih =>
    intro i hd h
    cases hp : P (b i) with
    | true =>
      rw [run_s (by omega) hp] at h ⊢
      exact ih (i + 1) (by omega) h
    | false => rw [run_n (by omega) hp]; exact hp
end
def isB (v : Int32) : Bool := v == 32
def isL (v : Int32) : Bool := decide (¬ v < 97 ∧ ¬ 122 < v)
def isD (v : Int32) : Bool := decide (¬ v < 48 ∧ ¬ 57 < v)
theorem small8 {v : Int32} : fX8_isSmall v = b2i (isL v) := by
  unfold fX8_isSmall isL
  by_cases c1 : v < 97
  · rw [if_pos c1, decide_eq_false (fun h => h.1 c1)]; rfl
  · rw [if_neg c1]
    by_cases c2 : 122 < v
    · rw [if_pos c2, decide_eq_false (fun h => h.2 c2)]; rfl
    · rw [if_neg c2, decide_eq_true ⟨c1, c2⟩]; rfl
theorem digit8 {v : Int32} : fX8_isDigit v = b2i (isD v) := by
  unfold fX8_isDigit isD
  by_cases c1 : v < 48
  · rw [if_pos c1, decide_eq_false (fun h => h.1 c1)]; rfl
  · rw [if_neg c1]
    by_cases c2 : 57 < v
    · rw [if_pos c2, decide_eq_false (fun h => h.2 c2)]; rfl
    · rw [if_neg c2, decide_eq_true ⟨c1, c2⟩]; rfl
theorem LD {v : Int32} (h : isL v = true) : isD v = false := by
  unfold isL at h
  unfold isD
  have h1 := (of_decide_eq_true h).1
  refine decide_eq_false (fun h2 => h2.2 ?_)
  rw [Int32.lt_iff_toInt_lt] at h1 ⊢
  have e1 : (97 : Int32).toInt = 97 := by decide
  have e2 : (57 : Int32).toInt = 57 := by decide
  omega
def enT (n : Nat) (b : Nat → Int32) (s : Nat) : Nat := if isL (b s) = true then run isL n b (s + 1) else if isD (b s) = true then run isD n b (s + 1) else s + 1
def wdT (b : Nat → Int32) (s e : Nat) : List Int32 := (List.range (e - s)).map (fun j => b (s + j))
def cdT (n : Nat) (b : Nat → Int32) (s : Nat) : Nat := if isL (b s) = true then dIx (wdT b s (enT n b s)) dict 1 else if isD (b s) = true then 50 else 100 + (b s &&& 255).toNatClampNeg
def dgT (b : Nat → Int32) (i : Nat) : Nat := (b i).toNatClampNeg - 48
def vlF (cap : Nat) (b : Nat → Int32) : Nat → Nat → Nat → Nat
  | 0, _, v => v
  | k + 1, i, v => vlF cap b k (i + 1) (if v ≤ cap then 10 * v + dgT b i else v)
def vlT (n : Nat) (b : Nat → Int32) (s : Nat) : Nat := if isD (b s) = true then vlF 1000000 b (enT n b s - s) s 0 else 0
def tkF (n : Nat) (b : Nat → Int32) : Nat → Nat → List Nat
  | 0, _ => []
  | f + 1, i => if run isB n b i < n then run isB n b i :: tkF n b f (enT n b (run isB n b i)) else []
def tkL (n : Nat) (b : Nat → Int32) (i : Nat) : List Nat := tkF n b (n + 1 - i) i
theorem en_b {n : Nat} {b : Nat → Int32} {s : Nat} (h : s < n) : s + 1 ≤ enT n b s ∧ enT n b s ≤ n := by
  unfold enT
  split
  · exact run_b (by omega)
  · split
    · exact run_b (by omega)
    · omega
theorem tk_fuel {n : Nat} {b : Nat → Int32} : ∀ (f f' i : Nat), n - i < f → n - i < f' → i ≤ n → tkF n b f i = tkF n b f' i := by
  intro f
  induction f with
  | zero => intro f' i h; omega
  | succ f ih =>
    intro f' i h1 h2 h3
    obtain ⟨f', rfl⟩ : ∃ j, f' = j + 1 := ⟨f' - 1, by omega⟩
    unfold tkF
    by_cases c : run isB n b i < n
    · have hr := (run_b (n := n) (b := b) (P := isB) h3).1
      have he := en_b (b := b) c
      rw [if_pos c, if_pos c, ih f' _ (by omega) (by omega) he.2]
    · rw [if_neg c, if_neg c]
theorem tk_u {n : Nat} {b : Nat → Int32} {i : Nat} (h : i ≤ n) : tkL n b i = if run isB n b i < n then run isB n b i :: tkL n b (enT n b (run isB n b i)) else [] := by
  unfold tkL
  rw [show n + 1 - i = (n - i) + 1 by omega, tkF]
  by_cases c : run isB n b i < n
  · have hr := (run_b (n := n) (b := b) (P := isB) h).1
    have he := en_b (b := b) c
    rw [if_pos c, if_pos c, tk_fuel (n - i) (n + 1 - enT n b (run isB n b i)) _ (by omega) (by omega) he.2]
  · rw [if_neg c, if_neg c]
theorem tk_b {n : Nat} {b : Nat → Int32} {i : Nat} (h : i < n) (hb : isB (b i) = true) : tkL n b i = tkL n b (i + 1) := by
  rw [tk_u (i := i) (by omega), tk_u (i := i + 1) (by omega), run_s h hb]
theorem tk_s {n : Nat} {b : Nat → Int32} {i : Nat} (h : i < n) (hb : isB (b i) = false) : tkL n b i = i :: tkL n b (enT n b i) := by
  rw [tk_u (by omega), run_n h hb, if_pos h]
theorem tk_e {n : Nat} {b : Nat → Int32} : tkL n b n = [] := by
  rw [tk_u (Nat.le_refl _), run_e (Nat.le_refl _), if_neg (by omega)]
theorem tk_len {n : Nat} {b : Nat → Int32} : ∀ (f i : Nat), i ≤ n → (tkF n b f i).length ≤ n - i := by
  intro f
  induction f with
  | zero => intro i _; simp [tkF]
  | succ f ih =>
    intro i h
    unfold tkF
    split
    · rename_i c
      have hr := (run_b (n := n) (b := b) (P := isB) h).1
      have he := en_b (b := b) c
      have := ih (enT n b (run isB n b i)) he.2
      simp only [List.length_cons]; omega
    · simp
theorem tk_lt {n : Nat} {b : Nat → Int32} : ∀ (f i : Nat), i ≤ n → ∀ s ∈ tkF n b f i, s < n ∧ isB (b s) = false := by
  intro f
  induction f with
  | zero => intro i _ s hs; simp [tkF] at hs
  | succ f ih =>
    intro i h s hs
    unfold tkF at hs
    split at hs
    · rename_i c
      have he := en_b (b := b) c
      rcases List.mem_cons.mp hs with q | q
      · rw [q]; exact ⟨c, run_stop _ i rfl c⟩
      · exact ih _ he.2 s q
    · simp at hs
def tkT (n : Nat) (b : Nat → Int32) : Tok := ((tkL n b 0).length, fun k => match (tkL n b 0)[k]? with | some s => cdT n b s | none => 0, fun k => match (tkL n b 0)[k]? with | some s => vlT n b s | none => 0)
def plT (n : Nat) (b : Nat → Int32) (k : Nat) : Nat := match (tkL n b 0)[k]? with | some s => s | none => n
theorem and255 {v : Int32} (h : Byt v) : (v &&& 255).toNatClampNeg < 256 ∧ v &&& 255 = nI (v &&& 255).toNatClampNeg := by
  rcases h with ⟨k, hk, _, e⟩ | ⟨k, h1, hk, _, e⟩
  · rw [e, n_toNat (by omega)]; exact ⟨by omega, rfl⟩
  · rw [e, n_toNat (by omega)]; exact ⟨by omega, rfl⟩
theorem vl_b {cap : Nat} {b : Nat → Int32} : ∀ (k i v : Nat), (∀ j, i ≤ j → j < i + k → dgT b j ≤ 9) → v ≤ 10 * cap + 9 → vlF cap b k i v ≤ 10 * cap + 9 := by
  intro k
  induction k with
  | zero => intro i v _ h; exact h
  | succ k ih =>
    intro i v hd h
    refine ih (i + 1) _ (fun j h1 h2 => hd j (by omega) (by omega)) ?_
    have := hd i (by omega) (by omega)
    split <;> omega
theorem run_all {n : Nat} {b : Nat → Int32} {P : Int32 → Bool} : ∀ (d i : Nat), n - i = d → ∀ j, i ≤ j → j < run P n b i → P (b j) = true := by
  intro d
  induction d with
  | zero => intro i hd j h1 h2; rw [run_e (by omega)] at h2; omega
  | succ d ih =>
    intro i hd j h1 h2
    cases hp : P (b i) with
    | false => rw [run_n (by omega) hp] at h2; omega
    | true =>
      by_cases c : j = i
      · rw [c]; exact hp
      · rw [run_s (by omega) hp] at h2
        exact ih (i + 1) (by omega) j (by omega) h2
theorem isD_v {v : Int32} (h : isD v = true) : ∃ k, 48 ≤ k ∧ k ≤ 57 ∧ v = nI k := by
  unfold isD at h
  obtain ⟨h1, h2⟩ := of_decide_eq_true h
  rw [Int32.lt_iff_toInt_lt] at h1 h2
  have e1 : (48 : Int32).toInt = 48 := by decide
  have e2 : (57 : Int32).toInt = 57 := by decide
  rcases n_cases v with q | ⟨k, hk, q⟩
  · rw [Int32.lt_iff_toInt_lt] at q
    have e0 : (0 : Int32).toInt = 0 := by decide
    omega
  · rw [q, n_toInt hk] at h1 h2
    exact ⟨k, by omega, by omega, q⟩
theorem en_d {n : Nat} {b : Nat → Int32} {s : Nat} (hs : s < n) (h : isD (b s) = true) : ∀ j, s ≤ j → j < enT n b s → isD (b j) = true := by
  intro j h1 h2
  have hl : isL (b s) = false := by
    cases q : isL (b s) with
    | false => rfl
    | true => rw [LD q] at h; cases h
  unfold enT at h2
  rw [if_neg (by rw [hl]; decide), if_pos h] at h2
  by_cases c : j = s
  · rw [c]; exact h
  · exact run_all _ (s + 1) rfl j (by omega) h2
theorem vlT_b {n : Nat} {b : Nat → Int32} {s : Nat} (hs : s < n) : vlT n b s ≤ 10000009 := by
  unfold vlT
  split
  · rename_i h
    refine vl_b (cap := 1000000) _ s 0 (fun j h1 h2 => ?_) (by omega)
    have he := en_b (b := b) hs
    obtain ⟨k, k1, k2, e⟩ := isD_v (en_d hs h j h1 (by omega))
    unfold dgT
    rw [e, n_toNat (by omega)]; omega
  · omega
theorem cdT_b {n : Nat} {b : Nat → Int32} {s : Nat} (hb : Byt (b s)) : cdT n b s < 400 := by
  unfold cdT
  have h1 := dIx_b (W := wdT b s (enT n b s))
  have h2 := (and255 hb).1
  split
  · omega
  · split <;> omega
theorem tk_in {n : Nat} {b : Nat → Int32} {k s : Nat} (h : (tkL n b 0)[k]? = some s) : s < n ∧ isB (b s) = false ∧ k < (tkL n b 0).length := ⟨(tk_lt _ 0 (by omega) s (List.mem_of_getElem? h)).1, (tk_lt _ 0 (by omega) s (List.mem_of_getElem? h)).2, (List.getElem?_eq_some_iff.mp h).1⟩
theorem tkT_E {n : Nat} {b : Nat → Int32} (hn : n ≤ 400) (hb : ∀ j, j < n → Byt (b j)) : TkE (tkT n b) := by
  refine ⟨?_, fun k hk => ?_, fun k => ?_⟩
  · have := tk_len (n := n) (b := b) (n + 1 - 0) 0 (by omega)
    show (tkL n b 0).length ≤ 400
    unfold tkL; omega
  · show (match (tkL n b 0)[k]? with | some s => cdT n b s | none => 0) = 0
    rw [List.getElem?_eq_none hk]
  · show (match (tkL n b 0)[k]? with | some s => cdT n b s | none => 0) < 400 ∧ (match (tkL n b 0)[k]? with | some s => vlT n b s | none => 0) < 2147483648
    cases h : (tkL n b 0)[k]? with
    | none => simp
    | some s =>
      have hs := (tk_in h).1
      have := vlT_b (b := b) hs
      exact ⟨cdT_b (hb s hs), by show vlT n b s < _; omega⟩
/-! the model cuts it so -/
def Sp (st : St) (n : Nat) (b : Nat → Int32) (Lp : List Nat) : Prop := sI st 38 18 = nI Lp.length ∧ ∀ (k s : Nat), Lp[k]? = some s → sI st 47 k = nI (cdT n b s) ∧ sI st 48 k = nI (vlT n b s) ∧ sI st 49 k = nI s
abbrev S_sp8 : List (Nat × Option Nat) := [(38, some 18), (47, none), (48, none), (49, none)]
def Tp8 (st : St) (n : Nat) (b : Nat → Int32) : Prop := MW st ∧ n ≤ 400 ∧ ∀ j, j < n → sI st 45 j = b j
theorem Tp8.fr {S : List (Nat × Option Nat)} {st u : St} {n : Nat} {b : Nat → Int32} (e : (hasA S 44 || hasA S 45) = false) (h : FR S st u) (m : Tp8 st n b) : Tp8 u n b := by
  simp only [Bool.or_eq_false_iff] at e
  exact ⟨fun j => (h.i (hasA_in e.1)).trans (m.1 j), m.2.1, fun j hj => (h.i (hasA_in e.2)).trans (m.2.2 j hj)⟩
abbrev Ks7 : Type := Int32 → Int32 → St → Option St
theorem let_loop {n : Nat} {b : Nat → Int32} {K : Ks7} {s l3 : Int32} {st : St} (tp : Tp8 st n b) : ∀ (d m i : Nat), n - i = d → i ≤ n → d < m → fX8_splits_b43 K m (nI n) s l3 (nI i) st = fX8_splits_b68 K (nI n) s l3 (nI (run isL n b i)) st := by
  have hn := tp.2.1
  intro d
  induction d with
  | zero =>
    intro m i hd hi hm
    obtain ⟨m, rfl⟩ : ∃ j, m = j + 1 := ⟨m - 1, by omega⟩
    rw [fX8_splits_b43, if_pos (by rw [n_le (by omega) (by omega)]; omega), run_e (by omega)]
  | succ d ih =>
    intro m i hd hi hm
    obtain ⟨m, rfl⟩ : ∃ j, m = j + 1 := ⟨m - 1, by omega⟩
    rw [fX8_splits_b43, if_neg (by rw [n_le (by omega) (by omega)]; omega), n_ixb (by omega), decide_eq_true (show i < 400 by omega), chk_t, n_toNat (by omega), tp.2.2 i (by omega), small8]
    simp only [b2i_0]
    cases h : isL (b i) with
    | false => rw [if_pos rfl, run_n (by omega) h]
    | true => rw [if_neg (by decide), n_p1, run_s (by omega) h]; exact ih m (i + 1) (by omega) (by omega) (by omega)
theorem dig_loop {n : Nat} {b : Nat → Int32} {K : Ks7} {s l3 : Int32} {st : St} (tp : Tp8 st n b) : ∀ (d m i : Nat), n - i = d → i ≤ n → d < m → fX8_splits_b75 K m (nI n) s l3 (nI i) st = fX8_splits_b100 K (nI n) s l3 (nI (run isD n b i)) st := by
  have hn := tp.2.1
  intro d
  induction d with
  | zero =>
    intro m i hd hi hm
    obtain ⟨m, rfl⟩ : ∃ j, m = j + 1 := ⟨m - 1, by omega⟩
    rw [fX8_splits_b75, if_pos (by rw [n_le (by omega) (by omega)]; omega), run_e (by omega)]
  | succ d ih =>
    intro m i hd hi hm
    obtain ⟨m, rfl⟩ : ∃ j, m = j + 1 := ⟨m - 1, by omega⟩
    rw [fX8_splits_b75, if_neg (by rw [n_le (by omega) (by omega)]; omega), n_ixb (by omega), decide_eq_true (show i < 400 by omega), chk_t, n_toNat (by omega), tp.2.2 i (by omega), digit8]
    simp only [b2i_0]
    cases h : isD (b i) with
    | false => rw [if_pos rfl, run_n (by omega) h]
    | true => rw [if_neg (by decide), n_p1, run_s (by omega) h]; exact ih m (i + 1) (by omega) (by omega) (by omega)
theorem val_loop {n : Nat} {b : Nat → Int32} {K : Ks7} {t : Nat} {l3 : Int32} (ht : t ≤ 400) (h3 : isD l3 = true) : ∀ (d m i e v : Nat) (st : St), i + d = e → e ≤ n → d < m → Tp8 st n b → (∀ j, i ≤ j → j < e → isD (b j) = true) → sI st 38 18 = nI t → sI st 48 t = nI v → v ≤ 10000009 → ∃ u, fX8_splits_b169 K m (nI n) l3 (nI e) (nI i) st = K (nI n) (nI e) (pI u 38 18 (nI (t + 1))) ∧ sI u 48 t = nI (vlF 1000000 b d i v) ∧ (∀ a j, ¬ (a = 48 ∧ j = t) → sI u a j = sI st a j) ∧ FR [(48, none)] st u := by
  intro d
  induction d with
  | zero =>
    intro m i e v st hd he hm tp hdg h18 h48 hv
    obtain ⟨m, rfl⟩ : ∃ j, m = j + 1 := ⟨m - 1, by omega⟩
    have hn := tp.2.1
    refine ⟨st, ?_, h48, fun _ _ _ => rfl, FR.rf⟩
    rw [fX8_splits_b169, if_pos (by rw [n_le (by omega) (by omega)]; omega)]
    unfold fX8_splits_b247
    rw [h18, n_p1]
  | succ d ih =>
    intro m i e v st hd he hm tp hdg h18 h48 hv
    obtain ⟨m, rfl⟩ : ∃ j, m = j + 1 := ⟨m - 1, by omega⟩
    have hn := tp.2.1
    obtain ⟨k, k1, k2, ek⟩ := isD_v (hdg i (by omega) (by omega))
    have hdk : dgT b i = k - 48 := by unfold dgT; rw [ek, n_toNat (by omega)]
    rw [fX8_splits_b169, if_neg (by rw [n_le (by omega) (by omega)]; omega), digit8, h3, if_neg (by decide), h18, n_ixb (by omega), decide_eq_true (show t < 401 by omega), chk_t, n_toNat (by omega), h48, chk_t]
    have hle : (nI v ≤ (1000000 : Int32)) = (v ≤ 1000000) := n_le (b := 1000000) (by omega) (by omega)
    simp only [hle]
    unfold fX8_splits_b240
    have go : ∀ v', v' = (if v ≤ 1000000 then 10 * v + dgT b i else v) → ∃ u, fX8_splits_b169 K m (nI n) l3 (nI e) (nI i + 1) (pI st 48 t (nI v')) = K (nI n) (nI e) (pI u 38 18 (nI (t + 1))) ∧ sI u 48 t = nI (vlF 1000000 b (d + 1) i v) ∧ (∀ a j, ¬ (a = 48 ∧ j = t) → sI u a j = sI st a j) ∧ FR [(48, none)] st u := by
      intro v' hv'
      have f1 : FR [(48, none)] st (pI st 48 t (nI v')) := FR.pI (by rfl) FR.rf
      obtain ⟨u, r1, r2, r3, r4⟩ := ih m (i + 1) e v' (pI st 48 t (nI v')) (by omega) he (by omega) (tp.fr (by rfl) f1) (fun j h1 h2 => hdg j (by omega) h2) (by rw [sI_pI, if_neg (by omega)]; exact h18) (by rw [sI_pI, if_pos ⟨rfl, rfl⟩]) (by
        rw [hv', hdk]; split <;> omega)
      rw [n_p1]
      refine ⟨u, r1, ?_, fun a j h => ?_, f1.trans r4⟩
      · rw [r2, hv']; rfl
      · rw [r3 a j h, sI_pI, if_neg h]
    by_cases c : v ≤ 1000000
    · rw [if_pos c, n_ixb (by omega), decide_eq_true (show i < 400 by omega), chk_t, n_ixb (by omega), decide_eq_true (show t < 401 by omega), chk_t, n_toNat (by omega), n_toNat (by omega), tp.2.2 i (by omega), ek, show (10 : Int32) = nI 10 from rfl, n_mul, n_add, show (48 : Int32) = nI 48 from rfl, n_sub (by omega)]
      refine go (10 * v + k - 48) ?_
      rw [if_pos c, hdk]; omega
    · rw [if_neg c, n_ixb (by omega), decide_eq_true (show t < 401 by omega), chk_t, n_toNat (by omega)]
      refine go v ?_
      rw [if_neg c]
theorem wd_len {b : Nat → Int32} {s e : Nat} : (wdT b s e).length = e - s := by unfold wdT; rw [List.length_map, List.length_range]
theorem wd_get {b : Nat → Int32} {s e j : Nat} (h : j < e - s) : (wdT b s e).getD j 0 = b (s + j) := by
  unfold wdT
  rw [List.getD_eq_getElem?_getD, List.getElem?_map, List.getElem?_range h]; rfl
theorem Sp_app {st u : St} {n : Nat} {b : Nat → Int32} {Lp : List Nat} {i : Nat} (m : Sp st n b Lp) (h18 : sI u 38 18 = nI (Lp.length + 1)) (h47 : sI u 47 Lp.length = nI (cdT n b i)) (h48 : sI u 48 Lp.length = nI (vlT n b i)) (h49 : sI u 49 Lp.length = nI i) (ho : ∀ k, k < Lp.length → sI u 47 k = sI st 47 k ∧ sI u 48 k = sI st 48 k ∧ sI u 49 k = sI st 49 k) : Sp u n b (Lp ++ [i]) := by
  refine ⟨by rw [h18, List.length_append]; rfl, fun k s hk => ?_⟩
  by_cases c : k < Lp.length
  · rw [List.getElem?_append_left c] at hk
    obtain ⟨o1, o2, o3⟩ := ho k c
    rw [o1, o2, o3]; exact m.2 k s hk
  · have hk' : k = Lp.length := by
      have := (List.getElem?_eq_some_iff.mp hk).1
      rw [List.length_append] at this
      simp at this
      omega
    subst hk'
    rw [List.getElem?_append_right (Nat.le_refl _), Nat.sub_self] at hk
    rw [← Option.some.inj hk]
    exact ⟨h47, h48, h49⟩
theorem split_tok {n : Nat} {b : Nat → Int32} {m i : Nat} {Lp : List Nat} {st : St} (hb : ∀ j, j < n → Byt (b j)) (tp : Tp8 st n b) (hi : i < n) (hbl : isB (b i) = false) (sp : Sp st n b Lp) (hl : Lp.length ≤ i) : ∃ u, fX8_splits_b7 (m + 1) (nI n) (nI i) st = fX8_splits_b7 m (nI n) (nI (enT n b i)) u ∧ Sp u n b (Lp ++ [i]) ∧ FR S_sp8 st u := by
  have hn := tp.2.1
  have he := en_b (b := b) hi
  have h18 := sp.1
  have h32 : ¬ b i = 32 := by
    unfold isB at hbl
    intro e
    rw [e] at hbl
    simp at hbl
  have hb7 : fX8_splits_b7 (m + 1) (nI n) (nI i) st = fX8_splits_b100 (fun zl1 zl2 zst => fX8_splits_b7 m zl1 zl2 zst) (nI n) (nI i) (b i) (nI (enT n b i)) st := by
    rw [fX8_splits_b7, if_neg (by rw [n_le (by omega) (by omega)]; omega), n_ixb (by omega), decide_eq_true (show i < 400 by omega), chk_t, n_toNat (by omega), tp.2.2 i hi, if_neg h32, small8]
    simp only [b2i_0]
    cases hL : isL (b i) with
    | true =>
      rw [if_neg (by decide), n_p1, let_loop tp _ FU (i + 1) rfl (by omega) (by unfold FU; omega)]
      unfold fX8_splits_b68 enT
      rw [digit8, LD hL, if_pos (by rfl), if_pos hL]
    | false =>
      rw [if_pos rfl, n_p1]
      unfold fX8_splits_b68 enT
      rw [digit8, if_neg (show ¬ isL (b i) = true by rw [hL]; decide)]
      simp only [b2i_0]
      cases hD : isD (b i) with
      | true => rw [if_neg (by decide), dig_loop tp _ FU (i + 1) rfl (by omega) (by unfold FU; omega), if_pos rfl]
      | false => rw [if_pos rfl, if_neg (by decide)]
  rw [hb7]
  unfold fX8_splits_b100 fX8_splits_b165
  have e1 : sI (pI st 49 Lp.length (nI i)) 38 18 = nI Lp.length := by rw [sI_pI, if_neg (by omega)]; exact h18
  have e2 : sI (pI (pI st 49 Lp.length (nI i)) 48 Lp.length 0) 38 18 = nI Lp.length := by rw [sI_pI, if_neg (by omega)]; exact e1
  have hix : ixb (nI Lp.length) 401 = true := by rw [n_ixb (by omega)]; exact decide_eq_true (by omega)
  simp only [h18, n_toNat (show Lp.length < 2147483648 by omega), e1, e2, hix, chk_t]
  have f2 : FR S_sp8 st (pI (pI st 49 Lp.length (nI i)) 48 Lp.length 0) := FR.pI (by rfl) (FR.pI (by rfl) FR.rf)
  -- a token that is no number
  have fin : ∀ c : Nat, isD (b i) = false → c = cdT n b i → ∃ u, fX8_splits_b169 (fun zl1 zl2 zst => fX8_splits_b7 m zl1 zl2 zst) FU (nI n) (b i) (nI (enT n b i)) (nI i) (pI (pI (pI st 49 Lp.length (nI i)) 48 Lp.length 0) 47 Lp.length (nI c)) = fX8_splits_b7 m (nI n) (nI (enT n b i)) u ∧ Sp u n b (Lp ++ [i]) ∧ FR S_sp8 st u := by
    intro c hD hc
    have e3 : sI (pI (pI (pI st 49 Lp.length (nI i)) 48 Lp.length 0) 47 Lp.length (nI c)) 38 18 = nI Lp.length := by rw [sI_pI, if_neg (by omega)]; exact e2
    refine ⟨pI (pI (pI (pI st 49 Lp.length (nI i)) 48 Lp.length 0) 47 Lp.length (nI c)) 38 18 (nI (Lp.length + 1)), ?_, ?_, FR.pI (by rfl) (FR.pI (by rfl) f2)⟩
    · rw [show FU = 99999 + 1 from rfl, fX8_splits_b169, if_neg (by rw [n_le (by omega) (by omega)]; omega), digit8, hD, if_pos (by rfl)]
      unfold fX8_splits_b247
      rw [e3, n_p1]
    · refine Sp_app sp (by rw [sI_pI, if_pos ⟨rfl, rfl⟩]) (by rw [sI_pI, if_neg (by omega), sI_pI, if_pos ⟨rfl, rfl⟩, hc]) ?_ (by rw [sI_pI, if_neg (by omega), sI_pI, if_neg (by omega), sI_pI, if_neg (by omega), sI_pI, if_pos ⟨rfl, rfl⟩]) (fun k hk => ?_)
      · rw [sI_pI, if_neg (by omega), sI_pI, if_neg (by omega), sI_pI, if_pos ⟨rfl, rfl⟩]
        unfold vlT
        rw [if_neg (by rw [hD]; decide)]; rfl
      · refine ⟨?_, ?_, ?_⟩ <;> rw [sI_pI, if_neg (by omega), sI_pI, if_neg (by omega), sI_pI, if_neg (by omega), sI_pI, if_neg (by omega)]
  rw [small8]
  cases hL : isL (b i) with
  | true =>
    rw [if_neg (by decide)]
    have hw := word8 (st := pI (pI st 49 Lp.length (nI i)) 48 Lp.length 0) (s := i) (W := wdT b i (enT n b i)) (tp.fr (by rfl) f2).1 (fun j hj => by
      rw [wd_len] at hj
      rw [wd_get hj, (tp.fr (by rfl) f2).2.2 (i + j) (by omega)]) (by rw [wd_len]; omega)
    rw [wd_len, show i + (enT n b i - i) = enT n b i by omega] at hw
    rw [hw, Option.bind_some]
    exact fin _ (LD hL) (by unfold cdT; rw [if_pos hL])
  | false =>
    rw [if_pos (by rfl), digit8]
    cases hD : isD (b i) with
    | false =>
      rw [if_pos (by rfl)]
      obtain ⟨a1, a2⟩ := and255 (hb i hi)
      rw [a2, show (100 : Int32) = nI 100 from rfl, n_add]
      exact fin _ hD (by unfold cdT; rw [if_neg (by rw [hL]; decide), if_neg (by rw [hD]; decide)])
    | true =>
      rw [if_neg (by decide)]
      have f3 : FR S_sp8 st (pI (pI (pI st 49 Lp.length (nI i)) 48 Lp.length 0) 47 Lp.length 50) := FR.pI (by rfl) f2
      obtain ⟨u, r1, r2, r3, r4⟩ := val_loop (n := n) (b := b) (K := fun zl1 zl2 zst => fX8_splits_b7 m zl1 zl2 zst) (t := Lp.length) (by omega) hD (enT n b i - i) FU i (enT n b i) 0 (pI (pI (pI st 49 Lp.length (nI i)) 48 Lp.length 0) 47 Lp.length 50) (by omega) he.2 (by unfold FU; omega) (tp.fr (by rfl) f3) (en_d hi hD) (by rw [sI_pI, if_neg (by omega)]; exact e2) (by rw [sI_pI, if_neg (by omega), sI_pI, if_pos ⟨rfl, rfl⟩]; rfl) (by omega)
      refine ⟨_, r1, ?_, FR.pI (by rfl) (f3.trans (FR.mono (by rfl) r4))⟩
      refine Sp_app sp (by rw [sI_pI, if_pos ⟨rfl, rfl⟩]) ?_ ?_ ?_ (fun k hk => ?_)
      · rw [sI_pI, if_neg (by omega), r3 _ _ (by omega), sI_pI, if_pos ⟨rfl, rfl⟩]
        unfold cdT
        rw [if_neg (by rw [hL]; decide), if_pos hD]; rfl
      · rw [sI_pI, if_neg (by omega), r2]
        unfold vlT
        rw [if_pos hD]
      · rw [sI_pI, if_neg (by omega), r3 _ _ (by omega), sI_pI, if_neg (by omega), sI_pI, if_neg (by omega), sI_pI, if_pos ⟨rfl, rfl⟩]
      · refine ⟨?_, ?_, ?_⟩ <;> rw [sI_pI, if_neg (by omega), r3 _ _ (by omega), sI_pI, if_neg (by omega), sI_pI, if_neg (by omega), sI_pI, if_neg (by omega)]
theorem split_loop {n : Nat} {b : Nat → Int32} (hb : ∀ j, j < n → Byt (b j)) : ∀ (d m i : Nat) (Lp : List Nat) (st : St), n - i ≤ d → d < m → i ≤ n → Lp.length ≤ i → Tp8 st n b → Sp st n b Lp → ∃ u, fX8_splits_b7 m (nI n) (nI i) st = fX8_splits_b7 1 (nI n) (nI n) u ∧ Sp u n b (Lp ++ tkL n b i) ∧ FR S_sp8 st u ∧ (Lp ++ tkL n b i).length ≤ n := by
  intro d
  induction d with
  | zero =>
    intro m i Lp st hd hm hi hl tp sp
    obtain ⟨m, rfl⟩ : ∃ j, m = j + 1 := ⟨m - 1, by omega⟩
    have ei : i = n := by omega
    subst ei
    have hn := tp.2.1
    refine ⟨st, ?_, by rw [tk_e, List.append_nil]; exact sp, FR.rf, by rw [tk_e, List.append_nil]; exact hl⟩
    rw [fX8_splits_b7, fX8_splits_b7, if_pos (by rw [n_le (by omega) (by omega)]; omega), if_pos (by rw [n_le (by omega) (by omega)]; omega)]
  | succ d ih =>
    intro m i Lp st hd hm hi hl tp sp
    obtain ⟨m, rfl⟩ : ∃ j, m = j + 1 := ⟨m - 1, by omega⟩
    have hn := tp.2.1
    by_cases ei : i = n
    · subst ei
      refine ⟨st, ?_, by rw [tk_e, List.append_nil]; exact sp, FR.rf, by rw [tk_e, List.append_nil]; exact hl⟩
      rw [fX8_splits_b7, fX8_splits_b7, if_pos (by rw [n_le (by omega) (by omega)]; omega), if_pos (by rw [n_le (by omega) (by omega)]; omega)]
    · have hlt : i < n := by omega
      cases hB : isB (b i) with
      | true =>
        have h32 : b i = 32 := by unfold isB at hB; simpa using hB
        rw [fX8_splits_b7, if_neg (by rw [n_le (by omega) (by omega)]; omega), n_ixb (by omega), decide_eq_true (show i < 400 by omega), chk_t, n_toNat (by omega), tp.2.2 i hlt, if_pos h32, n_p1, tk_b hlt hB]
        exact ih m (i + 1) Lp st (by omega) (by omega) (by omega) (by omega) tp sp
      | false =>
        have he := en_b (b := b) hlt
        obtain ⟨u, r1, r2, r3⟩ := split_tok (m := m) hb tp hlt hB sp hl
        rw [r1, tk_s hlt hB]
        obtain ⟨u2, s1, s2, s3, s4⟩ := ih m (enT n b i) (Lp ++ [i]) u (by omega) (by omega) he.2 (by rw [List.length_append]; simp; omega) (tp.fr (by rfl) r3) r2
        rw [List.append_assoc] at s2 s4
        exact ⟨u2, s1, s2, r3.trans s3, s4⟩
/-- tokens laid by the model -/
def TkM (st : St) (n : Nat) (b : Nat → Int32) : Prop := sI st 38 18 = nI (tkT n b).1 ∧ ∀ k, k ≤ (tkT n b).1 → sI st 47 k = nI ((tkT n b).2.1 k) ∧ sI st 48 k = nI ((tkT n b).2.2 k) ∧ sI st 49 k = nI (plT n b k)
theorem splits8 {n : Nat} {b : Nat → Int32} {st : St} (hb : ∀ j, j < n → Byt (b j)) (tp : Tp8 st n b) : ∃ u, fX8_splits (nI n) st = some u ∧ TkM u n b ∧ FR S_sp8 st u := by
  have hn := tp.2.1
  have f0 : FR S_sp8 st (pI st 38 18 0) := FR.pI (by rfl) FR.rf
  obtain ⟨u, r1, r2, r3, r4⟩ := split_loop hb n FU 0 [] (pI st 38 18 0) (by omega) (by unfold FU; omega) (by omega) (by simp) (tp.fr (by rfl) f0) ⟨by rw [sI_pI, if_pos ⟨rfl, rfl⟩]; rfl, fun k s h => by simp at h⟩
  rw [List.nil_append] at r2 r4
  have h18 := r2.1
  have hix : ixb (nI (tkL n b 0).length) 401 = true := by rw [n_ixb (by omega)]; exact decide_eq_true (by omega)
  have e1 : sI (pI u 49 (tkL n b 0).length (nI n)) 38 18 = nI (tkL n b 0).length := by rw [sI_pI, if_neg (by omega)]; exact h18
  have e2 : sI (pI (pI u 49 (tkL n b 0).length (nI n)) 47 (tkL n b 0).length 0) 38 18 = nI (tkL n b 0).length := by rw [sI_pI, if_neg (by omega)]; exact e1
  refine ⟨pI (pI (pI u 49 (tkL n b 0).length (nI n)) 47 (tkL n b 0).length 0) 48 (tkL n b 0).length 0, ?_, ⟨by rw [sI_pI, if_neg (by omega)]; exact e2, fun k hk => ?_⟩, f0.trans (FR.pI (by rfl) (FR.pI (by rfl) (FR.pI (by rfl) r3)))⟩
  · unfold fX8_splits
    rw [show fX8_splits_b7 FU (nI n) 0 (pI st 38 18 0) = _ from r1, fX8_splits_b7, if_pos (by rw [n_le (by omega) (by omega)]; omega), h18]
    simp only [n_toNat (show (tkL n b 0).length < 2147483648 by omega), e1, e2, hix, chk_t]
  · have hk' : k ≤ (tkL n b 0).length := hk
    show _ = nI (match (tkL n b 0)[k]? with | some s => cdT n b s | none => 0) ∧ _ = nI (match (tkL n b 0)[k]? with | some s => vlT n b s | none => 0) ∧ _ = nI (match (tkL n b 0)[k]? with | some s => s | none => n)
    by_cases c : k = (tkL n b 0).length
    · rw [List.getElem?_eq_none (by omega)]
      subst c
      refine ⟨?_, ?_, ?_⟩
      · rw [sI_pI, if_neg (by omega), sI_pI, if_pos ⟨rfl, rfl⟩]; rfl
      · rw [sI_pI, if_pos ⟨rfl, rfl⟩]; rfl
      · rw [sI_pI, if_neg (by omega), sI_pI, if_neg (by omega), sI_pI, if_pos ⟨rfl, rfl⟩]
    · have hlt : k < (tkL n b 0).length := by omega
      rw [List.getElem?_eq_getElem hlt]
      obtain ⟨q1, q2, q3⟩ := r2.2 k _ (List.getElem?_eq_getElem hlt)
      refine ⟨?_, ?_, ?_⟩
      · rw [sI_pI, if_neg (by omega), sI_pI, if_neg (by omega), sI_pI, if_neg (by omega)]; exact q1
      · rw [sI_pI, if_neg (by omega), sI_pI, if_neg (by omega), sI_pI, if_neg (by omega)]; exact q2
      · rw [sI_pI, if_neg (by omega), sI_pI, if_neg (by omega), sI_pI, if_neg (by omega)]; exact q3
