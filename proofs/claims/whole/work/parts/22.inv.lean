/-! laws as what they tell; a ring, what was kept; how class and model lay them -/
abbrev Rg : Type := (Nat → Nat) × (Nat → Tok)
def upR (x : Rg) (k v : Nat) : Rg := (va_up x.1 k v, x.2)
theorem upR_1 {x : Rg} {k v i : Nat} : (upR x k v).1 i = if i = k then v else x.1 i := rfl
theorem upR_2 {x : Rg} {k v : Nat} : (upR x k v).2 = x.2 := rfl
def scr (st : St) (q : Nat) : Nat → Nat → Int32 := fun i j => if i < 6 then sI st (q + i) j else nI (min (sN st (q + 5)) 1000)
/-- what is asked by a law -/
def fct (y : Nat → Nat) (vr vm r c beat many : Nat) : Nat → Int32 := fun i => match i with
  | 0 => nI c | 1 => nI (y (3 + c)) | 2 => nI r | 3 => nI beat | 4 => nI many | 5 => nI vr | 6 => nI vm | _ => 0
def soL (L : List Cls) (k : Nat) (f : Nat → Int32) : Bool := L.any (fun c => c.1 == k && c.2.2.2 f == some 1)
def clamp (v : Int32) : Nat := if v < 1 then 1 else if 15 < v then 15 else v.toNatClampNeg
def lenS (f : Nat → Int32) (acc : Nat) (c : Cls) : Nat := if c.1 = 0 ∧ c.2.2.2 f = some 1 then (if (c.2.2.1 f).getD BRK = BRK then acc else clamp ((c.2.2.1 f).getD BRK)) else acc
def lenL (L : List Cls) (f : Nat → Int32) (d : Nat) : Nat := L.foldl (lenS f) d
abbrev Lw0 : Type := Option (List Cls)
def soA (lw : Lw0) (y : Nat → Nat) (vr vm k r c beat many : Nat) : Bool := match lw with
  | none => false | some L => soL L k (fct y vr vm r c beat many)
def lenA (lw : Lw0) (y : Nat → Nat) (vr vm r c many : Nat) : Nat := match lw with
  | none => y (9 + r) | some L => lenL L (fct y vr vm r c 0 many) (y (9 + r))
def nxt (n c : Nat) (up : Bool) : Nat := if up then (if c + 1 < n then c + 1 else 0) else (if c = 0 then n - 1 else c - 1)
def nextF (n b : Nat) (up : Bool) (o : Nat) : Nat → Nat → Nat
  | 0, _ => o
  | k + 1, c => if bit b (nxt n c up) = 1 then nxt n c up else nextF n b up o k (nxt n c up)
def nextA (n b c : Nat) (up : Bool) : Nat := nextF n b up c n c
def firstA (n b c : Nat) : Nat := if bit b c = 1 then c else nextA n b c true
def skipA (so : Nat → Bool) (nx : Nat → Nat) : Nat → Nat → Nat
  | 0, w => w
  | k + 1, w => if so w then skipA so nx k (nx w) else w
def spkA (so : Nat → Nat → Nat → Bool) (n b many : Nat) : Nat → Nat → Nat → Bool → (Nat → Nat) → Nat × (Nat → Nat)
  | 0, _, w, _, f => (w, f)
  | k + 1, bt, w, up, f => spkA so n b many k (bt + 1) (skipA (fun c => so 1 c bt) (fun c => nextA n b c up) many (if bt = 1 then w else nextA n b w up)) (if so 2 (skipA (fun c => so 1 c bt) (fun c => nextA n b c up) many (if bt = 1 then w else nextA n b w up)) bt then !up else up) (va_up f bt (skipA (fun c => so 1 c bt) (fun c => nextA n b c up) many (if bt = 1 then w else nextA n b w up)))
def lenB (lw : Lw0) (y : Nat → Nat) (vr vm b at_ r less : Nat) : Nat := max 1 (lenA lw y vr vm r (firstA (y 16) b at_) (pc b) - less)
def sayF (lw : Lw0) (y : Nat → Nat) (vr vm b at_ r less : Nat) : Nat × (Nat → Nat) := spkA (fun k c bt => soA lw y vr vm k r c bt (pc b)) (y 16) b (pc b) (lenB lw y vr vm b at_ r less) 1 (firstA (y 16) b at_) true (fun _ => firstA (y 16) b at_)
/-- what a saying tells -/
def sayA (lw : Lw0) (y : Nat → Nat) (vr vm b at_ r less : Nat) : Nat := if soA lw y vr vm 3 r (sayF lw y vr vm b at_ r less).1 (lenB lw y vr vm b at_ r less) (pc b) then 100 + (sayF lw y vr vm b at_ r less).1 else (sayF lw y vr vm b at_ r less).1
def behA (n b told : Nat) : Nat := (if told < 100 then b - 2 ^ (told % 100) else b) * 6 + (if told % 100 + 1 < n then told % 100 + 1 else 0)
def aftA (lw : Lw0) (y : Nat → Nat) (vr vm s r : Nat) : Nat := behA (y 16) (s / 6) (sayA lw y vr vm (s / 6) (s % 6) r 0)
/-- what of a ring the sayings hang on -/
def sx (x : Rg) : Nat → Nat := fun k => if 3 ≤ k ∧ k < 14 ∨ k = 16 then x.1 k else 0
theorem sx_up {x : Rg} {k v : Nat} (h : ¬ (3 ≤ k ∧ k < 14 ∨ k = 16)) : sx (upR x k v) = sx x := by
  funext i
  unfold sx
  by_cases c : 3 ≤ i ∧ i < 14 ∨ i = 16
  · rw [if_pos c, if_pos c, upR_1, if_neg (by omega)]
  · rw [if_neg c, if_neg c]
def GdR (x : Rg) : Prop := x.1 16 ≤ 6 ∧ x.1 0 < 2 ^ x.1 16 ∧ x.1 17 ≤ 5 ∧ x.1 2 ≤ 999 ∧ x.1 1 ≤ 5 ∧ x.1 14 ≤ 10 ∧ x.1 15 ≤ 9 ∧ x.1 18 ≤ 6 ∧ x.1 19 ≤ x.1 18 ∧ (∀ j, j < 6 → x.1 (3 + j) ≤ 9) ∧ (∀ j, j < 5 → x.1 (9 + j) ≤ 15) ∧ (∀ j, j < x.1 17 → 1 ≤ x.1 (9 + j))
def MRg (st : St) (a o : Nat) (x : Rg) : Prop := (∀ k, k < 19 → sI st a (o + k) = nI (x.1 k)) ∧ sI st a (o + 19) = nI (x.1 19) - 1 ∧ ∀ i, i < x.1 18 → TkE (x.2 i) ∧ sI st a (o + (20 + i)) = nI (x.2 i).1 ∧ ∀ k, k < (x.2 i).1 → sI st a (o + (27 + (400 * i + k))) = nI ((x.2 i).2.1 k) ∧ sI st a (o + (2827 + (400 * i + k))) = nI ((x.2 i).2.2 k)
def Lws (st : St) (t : Nat) (x : Rg) : Prop := ∀ i, i < x.1 18 → ∃ q L, 65 ≤ q ∧ q + 6 ≤ sn st ∧ sR st (t + 3) i = some q ∧ rLaw (x.2 i) = some L ∧ Impl 7 (scr st q) L
def CRg (st : St) (t : Nat) (x : Rg) : Prop := (sI st t 4 = nI (x.1 16) ∧ sI st t 5 = nI (x.1 0) ∧ sI st t 6 = nI (x.1 17) ∧ sI st t 7 = nI (x.1 18) ∧ sI st t 8 = nI (x.1 19) - 1) ∧ (sI st (t + 4) 0 = nI (x.1 2) ∧ sI st (t + 4) 1 = nI (x.1 1) ∧ sI st (t + 4) 2 = nI (x.1 14) ∧ sI st (t + 4) 3 = nI (x.1 15)) ∧ (∀ j, j < 6 → sI st (t + 1) j = nI (x.1 (3 + j))) ∧ (∀ j, j < 5 → sI st (t + 2) j = nI (x.1 (9 + j)))
def CS (st : St) (sc : Nat → Int32) : Prop := sI st 0 11 = sc 0 ∧ sI st 0 12 = sc 1 ∧ sI st 0 13 = sc 2 ∧ sI st 0 14 = sc 3 ∧ ∀ j, j < 5 → sI st 35 j = sc (4 + j)
def MS (st : St) (sc : Nat → Int32) : Prop := sI st 38 0 = sc 0 ∧ sI st 38 14 = sc 1 ∧ sI st 38 46 = sc 2 ∧ sI st 38 6 = sc 3 ∧ sI st 39 1 = sc 4 ∧ sI st 39 2 = sc 5 ∧ sI st 39 3 = sc 6 ∧ sI st 39 5 = sc 7 ∧ sI st 39 6 = sc 8
abbrev Tp : Type := Nat × (Nat → Int32)
def GdT (tp : Tp) : Prop := tp.1 ≤ 400 ∧ ∀ j, j < tp.1 → ∃ z : Int32, tp.2 j = vp_nar .byte (i2b z)
def CT (st : St) (tp : Tp) : Prop := sI st 7 2 = nI tp.1 ∧ ∀ j, j < tp.1 → sI st 8 j = tp.2 j
def MT (st : St) (tp : Tp) : Prop := sI st 38 13 = nI tp.1 ∧ ∀ j, j < tp.1 → sI st 45 j = tp.2 j
/-- what can be undone: in, at, round, kind -/
abbrev Ps : Type := Nat × (Nat → Nat × Nat × Nat × Nat)
def GdP (x : Rg) (ps : Ps) : Prop := ps.1 ≤ 16 ∧ ∀ j, j < ps.1 → (ps.2 j).1 < 2 ^ x.1 16 ∧ (ps.2 j).2.1 ≤ 5 ∧ (ps.2 j).2.2.1 ≤ 999 ∧ (ps.2 j).2.2.2 < 4
def CP (st : St) (t : Nat) (ps : Ps) : Prop := sI st t 1 = nI ps.1 ∧ ∀ j, j < ps.1 → sI st (t + 1) j = nI (((ps.2 j).2.2.1 * 384 + ((ps.2 j).1 * 6 + (ps.2 j).2.1)) * 4 + (ps.2 j).2.2.2)
def MP (st : St) (ps : Ps) : Prop := sI st 38 32 = nI ps.1 ∧ ∀ j, j < ps.1 → sI st 52 (4 * j) = nI (ps.2 j).1 ∧ sI st 52 (4 * j + 1) = nI (ps.2 j).2.1 ∧ sI st 52 (4 * j + 2) = nI (ps.2 j).2.2.1 ∧ sI st 52 (4 * j + 3) = nI (ps.2 j).2.2.2
abbrev Im : Type := Nat → Option Rg
def GdI (im : Im) : Prop := ∀ k y, im k = some y → GdR y
def CI (st : St) (im : Im) : Prop := (∀ k, k < 2 → (im k = none ∧ sR st 6 k = none) ∨ ∃ y t, im k = some y ∧ sR st 6 k = some t ∧ 65 ≤ t ∧ t + 5 ≤ sn st ∧ CRg st t y ∧ Lws st t y) ∧ ∀ t, ¬ (sR st 6 0 = some t ∧ sR st 6 1 = some t)
def MI (st : St) (im : Im) : Prop := ∀ k, k < 2 → (im k = none ∧ sI st 42 k = 0) ∨ ∃ y, im k = some y ∧ sI st 42 k = 1 ∧ MRg st 41 (5627 * k) y
/-- quarters: how many children, who is in, how often alone -/
abbrev Dr : Type := Option Nat × Int32 × (Nat → Int32)
def GdD (dr : Dr) : Prop := ∀ d, dr.1 = some d → 1 ≤ d ∧ d ≤ 6
def CD (st : St) (dr : Dr) : Prop := (dr.1 = none ∧ sI st 33 3 = 0) ∨ ∃ d, dr.1 = some d ∧ sI st 33 3 = nI d ∧ sI st 33 4 = dr.2.1 ∧ ∀ j, j < 6 → sI st 34 j = dr.2.2 j
def MD (st : St) (dr : Dr) : Prop := (dr.1 = none ∧ sI st 38 55 = -1) ∨ ∃ d, dr.1 = some d ∧ sI st 38 55 = nI d ∧ sI st 38 56 = dr.2.1 ∧ ∀ j, j < 6 → sI st 64 j = dr.2.2 j
def VL (st : St) (lw : Lw0) : Prop := (lw = none ∧ sR st 19 7 = none) ∨ ∃ L q, lw = some L ∧ sR st 19 7 = some q ∧ 65 ≤ q ∧ q + 6 ≤ sn st ∧ Impl 7 (scr st q) L
def VC (st : St) (lw : Lw0) (y : Nat → Nat) (vr vm sp : Nat) : Prop := (1 ≤ sp ∧ sp ≤ 1000000 ∧ sI st 19 6 = nI sp) ∧ (∀ c, c < 3360 → ∃ e, e / 256 ≤ sp ∧ sI st 23 c = nI e ∧ (e / 256 = sp → ∀ k, k < 4 → (bit e (4 + k) = 1 → bit e k = 1) ∧ (bit e k = 1 → (bit e (4 + k) = 1 ↔ soA lw y vr vm k (c / 672) (c / 112 % 6) (c / 7 % 16) (c % 7) = true)))) ∧ ∀ c, c < 1920 → ∃ e, e / 384 ≤ sp ∧ sI st 24 c = nI e ∧ (e / 384 = sp → e % 384 = aftA lw y vr vm (c % 384) (c / 384))
def VT (st : St) (vr vm : Nat) : Prop := vr ≤ 999 ∧ vm ≤ 9 ∧ sI st 19 8 = nI vr ∧ sI st 19 9 = nI vm
def CVo (st : St) (y : Nat → Nat) : Prop := ∃ lw vr vm sp, VL st lw ∧ VT st vr vm ∧ VC st lw y vr vm sp
/-- all that is told -/
abbrev All : Type := Rg × Im × (Nat → Int32) × Tp × Ps × Dr
def Gd (A : All) : Prop := GdR A.1 ∧ GdI A.2.1 ∧ GdT A.2.2.2.1 ∧ GdP A.1 A.2.2.2.2.1 ∧ GdD A.2.2.2.2.2
def CV (st : St) (A : All) : Prop := WT st ∧ (CRg st 1 A.1 ∧ Lws st 1 A.1) ∧ CI st A.2.1 ∧ CS st A.2.2.1 ∧ CT st A.2.2.2.1 ∧ CP st 15 A.2.2.2.2.1 ∧ CD st A.2.2.2.2.2 ∧ CVo st (sx A.1)
def MW (st : St) : Prop := ∀ j, sI st 44 j = sI stI 44 j
def MV (st : St) (A : All) : Prop := MW st ∧ MRg st 40 0 A.1 ∧ MI st A.2.1 ∧ MS st A.2.2.1 ∧ MT st A.2.2.2.1 ∧ MP st A.2.2.2.2.1 ∧ MD st A.2.2.2.2.2
def Inv (st : St) : Prop := ∃ A, Gd A ∧ CV st A ∧ MV st A
