/-! where the cells lie: kind and length of each by its place; which reference field holds which of them -/
def lay : List (Nat × Nat) := [(7, 0), (4, 0), (10, 6), (10, 5), (14, 6), (10, 4), (13, 2), (3, 0), (9, 400), (5, 0), (10, 12), (10, 12), (10, 12), (10, 12), (10, 826), (2, 0), (10, 16), (2, 0), (10, 16), (6, 0), (10, 7), (10, 40), (10, 16), (10, 3360), (10, 1920), (1, 0), (10, 6), (10, 384), (10, 384), (10, 384), (10, 384), (11, 384), (11, 384), (0, 0), (10, 6), (10, 5), (10, 17), (10, 40), (8, 0), (10, 7), (10, 5627), (10, 11254), (12, 2), (10, 6), (9, 121), (9, 400), (10, 5), (10, 401), (10, 401), (10, 401), (10, 7), (10, 16), (10, 64), (10, 64), (10, 60), (10, 1920), (10, 384), (10, 384), (10, 384), (12, 384), (10, 384), (10, 768), (11, 768), (10, 4), (10, 6)]
def wires : List (Nat × Nat × Nat) := [(1, 0, 2), (1, 1, 3), (1, 2, 4), (1, 3, 5), (0, 0, 1), (0, 1, 6), (7, 0, 8), (9, 0, 10), (9, 1, 11), (9, 2, 12), (9, 3, 13), (9, 4, 14), (7, 1, 9), (0, 2, 7), (15, 0, 16), (0, 3, 15), (17, 0, 18), (0, 4, 17), (19, 1, 20), (19, 2, 21), (19, 3, 22), (19, 4, 23), (19, 5, 24), (19, 0, 1), (0, 5, 19), (25, 2, 26), (25, 3, 27), (25, 4, 28), (25, 5, 29), (25, 6, 30), (25, 7, 31), (25, 8, 32), (25, 0, 1), (25, 1, 19), (0, 6, 25), (33, 2, 34), (33, 0, 1), (33, 1, 19), (0, 7, 33), (0, 8, 35), (0, 9, 36), (0, 10, 37), (38, 1, 39), (38, 2, 40), (38, 3, 41), (38, 4, 42), (38, 5, 43), (38, 7, 44), (38, 11, 45), (38, 12, 46), (38, 15, 47), (38, 16, 48), (38, 17, 49), (38, 26, 50), (38, 29, 51), (38, 30, 52), (38, 31, 53), (38, 33, 54), (38, 35, 55), (38, 36, 56), (38, 37, 57), (38, 38, 58), (38, 39, 59), (38, 41, 60), (38, 42, 61), (38, 44, 62), (38, 45, 63), (38, 54, 64)]
def ObjF (f : Fr) (k a : Nat) : Prop := a < f.2.2.2 ∧ f.1 a = k
def ArrF (f : Fr) (k n a : Nat) : Prop := a < f.2.2.2 ∧ f.1 a = k ∧ f.2.1 a = n
def RingF (f : Fr) (t : Nat) : Prop := (f.2.2.1 t 0 = some (t + 1) ∧ ArrF f 10 6 (t + 1)) ∧ (f.2.2.1 t 1 = some (t + 2) ∧ ArrF f 10 5 (t + 2)) ∧ (f.2.2.1 t 2 = some (t + 3) ∧ ArrF f 14 6 (t + 3)) ∧ (f.2.2.1 t 3 = some (t + 4) ∧ ArrF f 10 4 (t + 4)) ∧ ∀ i b, f.2.2.1 (t + 3) i = some b → ObjF f 5 b
def ScrF (f : Fr) (t : Nat) : Prop := (f.2.2.1 t 0 = some (t + 1) ∧ ArrF f 10 12 (t + 1)) ∧ (f.2.2.1 t 1 = some (t + 2) ∧ ArrF f 10 12 (t + 2)) ∧ (f.2.2.1 t 2 = some (t + 3) ∧ ArrF f 10 12 (t + 3)) ∧ (f.2.2.1 t 3 = some (t + 4) ∧ ArrF f 10 12 (t + 4)) ∧ (f.2.2.1 t 4 = some (t + 5) ∧ ObjF f 10 (t + 5))
def PastF (f : Fr) (t : Nat) : Prop := f.2.2.1 t 0 = some (t + 1) ∧ ArrF f 10 16 (t + 1)
/-- the frame is as the classes have it -/
def WTf (f : Fr) : Prop := lay.length ≤ f.2.2.2 ∧ (∀ a k n, lay[a]? = some (k, n) → f.1 a = k ∧ f.2.1 a = n) ∧ (∀ q ∈ wires, f.2.2.1 q.1 q.2.1 = some q.2.2) ∧ (∀ t, ObjF f 4 t → RingF f t) ∧ (∀ t, ObjF f 5 t → ScrF f t) ∧ (∀ t, ObjF f 2 t → PastF f t) ∧ (∀ i b, f.2.2.1 6 i = some b → ObjF f 4 b) ∧ (∀ b, f.2.2.1 19 7 = some b → ObjF f 5 b)
def WT (st : St) : Prop := WTf st.1
theorem WT.ob {st : St} {a k n : Nat} (h : lay[a]? = some (k, n)) (w : WT st) : Obj st k a := ⟨Nat.lt_of_lt_of_le (List.getElem?_eq_some_iff.mp h).1 w.1, (w.2.1 a k n h).1⟩
theorem WT.ar {st : St} {a k n : Nat} (h : lay[a]? = some (k, n)) (w : WT st) : Arr st k n a := ⟨Nat.lt_of_lt_of_le (List.getElem?_eq_some_iff.mp h).1 w.1, w.2.1 a k n h⟩
theorem WT.wi {st : St} {a j b : Nat} (h : (a, j, b) ∈ wires) (w : WT st) : sR st a j = some b := w.2.2.1 _ h
theorem WT.ring {st : St} {t : Nat} (w : WT st) (h : Obj st 4 t) : RingF st.1 t := w.2.2.2.1 t h
theorem WT.scr {st : St} {t : Nat} (w : WT st) (h : Obj st 5 t) : ScrF st.1 t := w.2.2.2.2.1 t h
theorem WT.past {st : St} {t : Nat} (w : WT st) (h : Obj st 2 t) : PastF st.1 t := w.2.2.2.2.2.1 t h
theorem WT.img {st : St} {i b : Nat} (w : WT st) (h : sR st 6 i = some b) : Obj st 4 b := w.2.2.2.2.2.2.1 i b h
theorem WT.vlaw {st : St} {b : Nat} (w : WT st) (h : sR st 19 7 = some b) : Obj st 5 b := w.2.2.2.2.2.2.2 b h
theorem WT.law {st : St} {t i b : Nat} (w : WT st) (ht : Obj st 4 t) (h : sR st (t + 3) i = some b) : Obj st 5 b := (w.ring ht).2.2.2.2 i b h
theorem wpI {st : St} {a j : Nat} {v : Int32} (w : WT st) : WT (pI st a j v) := w
theorem wpL {st : St} {a j : Nat} {v : Int64} (w : WT st) : WT (pL st a j v) := w
theorem wrI {st : St} {a : Nat} {f : Nat → Int32} (w : WT st) : WT (rI st a f) := w
theorem wrL {st : St} {a : Nat} {f : Nat → Int64} (w : WT st) : WT (rL st a f) := w
theorem lo_0 : lay[0]? = some (7, 0) := rfl
theorem oS0 {st : St} (w : WT st) : Obj st 7 0 := w.ob lo_0
theorem lo_1 : lay[1]? = some (4, 0) := rfl
theorem oS1 {st : St} (w : WT st) : Obj st 4 1 := w.ob lo_1
theorem lo_2 : lay[2]? = some (10, 6) := rfl
theorem oS2 {st : St} (w : WT st) : Obj st 10 2 := w.ob lo_2
theorem aS2 {st : St} (w : WT st) : Arr st 10 6 2 := w.ar lo_2
theorem lo_3 : lay[3]? = some (10, 5) := rfl
theorem oS3 {st : St} (w : WT st) : Obj st 10 3 := w.ob lo_3
theorem aS3 {st : St} (w : WT st) : Arr st 10 5 3 := w.ar lo_3
theorem lo_4 : lay[4]? = some (14, 6) := rfl
theorem oS4 {st : St} (w : WT st) : Obj st 14 4 := w.ob lo_4
theorem aS4 {st : St} (w : WT st) : Arr st 14 6 4 := w.ar lo_4
theorem lo_5 : lay[5]? = some (10, 4) := rfl
theorem oS5 {st : St} (w : WT st) : Obj st 10 5 := w.ob lo_5
theorem aS5 {st : St} (w : WT st) : Arr st 10 4 5 := w.ar lo_5
theorem lo_6 : lay[6]? = some (13, 2) := rfl
theorem oS6 {st : St} (w : WT st) : Obj st 13 6 := w.ob lo_6
theorem aS6 {st : St} (w : WT st) : Arr st 13 2 6 := w.ar lo_6
theorem lo_7 : lay[7]? = some (3, 0) := rfl
theorem oS7 {st : St} (w : WT st) : Obj st 3 7 := w.ob lo_7
theorem lo_8 : lay[8]? = some (9, 400) := rfl
theorem oS8 {st : St} (w : WT st) : Obj st 9 8 := w.ob lo_8
theorem aS8 {st : St} (w : WT st) : Arr st 9 400 8 := w.ar lo_8
theorem lo_9 : lay[9]? = some (5, 0) := rfl
theorem oS9 {st : St} (w : WT st) : Obj st 5 9 := w.ob lo_9
theorem lo_10 : lay[10]? = some (10, 12) := rfl
theorem oS10 {st : St} (w : WT st) : Obj st 10 10 := w.ob lo_10
theorem aS10 {st : St} (w : WT st) : Arr st 10 12 10 := w.ar lo_10
theorem lo_11 : lay[11]? = some (10, 12) := rfl
theorem oS11 {st : St} (w : WT st) : Obj st 10 11 := w.ob lo_11
theorem aS11 {st : St} (w : WT st) : Arr st 10 12 11 := w.ar lo_11
theorem lo_12 : lay[12]? = some (10, 12) := rfl
theorem oS12 {st : St} (w : WT st) : Obj st 10 12 := w.ob lo_12
theorem aS12 {st : St} (w : WT st) : Arr st 10 12 12 := w.ar lo_12
theorem lo_13 : lay[13]? = some (10, 12) := rfl
theorem oS13 {st : St} (w : WT st) : Obj st 10 13 := w.ob lo_13
theorem aS13 {st : St} (w : WT st) : Arr st 10 12 13 := w.ar lo_13
theorem lo_14 : lay[14]? = some (10, 826) := rfl
theorem oS14 {st : St} (w : WT st) : Obj st 10 14 := w.ob lo_14
theorem aS14 {st : St} (w : WT st) : Arr st 10 826 14 := w.ar lo_14
theorem lo_15 : lay[15]? = some (2, 0) := rfl
theorem oS15 {st : St} (w : WT st) : Obj st 2 15 := w.ob lo_15
theorem lo_16 : lay[16]? = some (10, 16) := rfl
theorem oS16 {st : St} (w : WT st) : Obj st 10 16 := w.ob lo_16
theorem aS16 {st : St} (w : WT st) : Arr st 10 16 16 := w.ar lo_16
theorem lo_17 : lay[17]? = some (2, 0) := rfl
theorem oS17 {st : St} (w : WT st) : Obj st 2 17 := w.ob lo_17
theorem lo_18 : lay[18]? = some (10, 16) := rfl
theorem oS18 {st : St} (w : WT st) : Obj st 10 18 := w.ob lo_18
theorem aS18 {st : St} (w : WT st) : Arr st 10 16 18 := w.ar lo_18
theorem lo_19 : lay[19]? = some (6, 0) := rfl
theorem oS19 {st : St} (w : WT st) : Obj st 6 19 := w.ob lo_19
theorem lo_20 : lay[20]? = some (10, 7) := rfl
theorem oS20 {st : St} (w : WT st) : Obj st 10 20 := w.ob lo_20
theorem aS20 {st : St} (w : WT st) : Arr st 10 7 20 := w.ar lo_20
theorem lo_21 : lay[21]? = some (10, 40) := rfl
theorem oS21 {st : St} (w : WT st) : Obj st 10 21 := w.ob lo_21
theorem aS21 {st : St} (w : WT st) : Arr st 10 40 21 := w.ar lo_21
theorem lo_22 : lay[22]? = some (10, 16) := rfl
theorem oS22 {st : St} (w : WT st) : Obj st 10 22 := w.ob lo_22
theorem aS22 {st : St} (w : WT st) : Arr st 10 16 22 := w.ar lo_22
theorem lo_23 : lay[23]? = some (10, 3360) := rfl
theorem oS23 {st : St} (w : WT st) : Obj st 10 23 := w.ob lo_23
theorem aS23 {st : St} (w : WT st) : Arr st 10 3360 23 := w.ar lo_23
theorem lo_24 : lay[24]? = some (10, 1920) := rfl
theorem oS24 {st : St} (w : WT st) : Obj st 10 24 := w.ob lo_24
theorem aS24 {st : St} (w : WT st) : Arr st 10 1920 24 := w.ar lo_24
theorem lo_25 : lay[25]? = some (1, 0) := rfl
theorem oS25 {st : St} (w : WT st) : Obj st 1 25 := w.ob lo_25
theorem lo_26 : lay[26]? = some (10, 6) := rfl
theorem oS26 {st : St} (w : WT st) : Obj st 10 26 := w.ob lo_26
theorem aS26 {st : St} (w : WT st) : Arr st 10 6 26 := w.ar lo_26
theorem lo_27 : lay[27]? = some (10, 384) := rfl
theorem oS27 {st : St} (w : WT st) : Obj st 10 27 := w.ob lo_27
theorem aS27 {st : St} (w : WT st) : Arr st 10 384 27 := w.ar lo_27
theorem lo_28 : lay[28]? = some (10, 384) := rfl
theorem oS28 {st : St} (w : WT st) : Obj st 10 28 := w.ob lo_28
theorem aS28 {st : St} (w : WT st) : Arr st 10 384 28 := w.ar lo_28
theorem lo_29 : lay[29]? = some (10, 384) := rfl
theorem oS29 {st : St} (w : WT st) : Obj st 10 29 := w.ob lo_29
theorem aS29 {st : St} (w : WT st) : Arr st 10 384 29 := w.ar lo_29
theorem lo_30 : lay[30]? = some (10, 384) := rfl
theorem oS30 {st : St} (w : WT st) : Obj st 10 30 := w.ob lo_30
theorem aS30 {st : St} (w : WT st) : Arr st 10 384 30 := w.ar lo_30
theorem lo_31 : lay[31]? = some (11, 384) := rfl
theorem oS31 {st : St} (w : WT st) : Obj st 11 31 := w.ob lo_31
theorem aS31 {st : St} (w : WT st) : Arr st 11 384 31 := w.ar lo_31
theorem lo_32 : lay[32]? = some (11, 384) := rfl
theorem oS32 {st : St} (w : WT st) : Obj st 11 32 := w.ob lo_32
theorem aS32 {st : St} (w : WT st) : Arr st 11 384 32 := w.ar lo_32
theorem lo_33 : lay[33]? = some (0, 0) := rfl
theorem oS33 {st : St} (w : WT st) : Obj st 0 33 := w.ob lo_33
theorem lo_34 : lay[34]? = some (10, 6) := rfl
theorem oS34 {st : St} (w : WT st) : Obj st 10 34 := w.ob lo_34
theorem aS34 {st : St} (w : WT st) : Arr st 10 6 34 := w.ar lo_34
theorem lo_35 : lay[35]? = some (10, 5) := rfl
theorem oS35 {st : St} (w : WT st) : Obj st 10 35 := w.ob lo_35
theorem aS35 {st : St} (w : WT st) : Arr st 10 5 35 := w.ar lo_35
theorem lo_36 : lay[36]? = some (10, 17) := rfl
theorem oS36 {st : St} (w : WT st) : Obj st 10 36 := w.ob lo_36
theorem aS36 {st : St} (w : WT st) : Arr st 10 17 36 := w.ar lo_36
theorem lo_37 : lay[37]? = some (10, 40) := rfl
theorem oS37 {st : St} (w : WT st) : Obj st 10 37 := w.ob lo_37
theorem aS37 {st : St} (w : WT st) : Arr st 10 40 37 := w.ar lo_37
theorem lo_38 : lay[38]? = some (8, 0) := rfl
theorem oS38 {st : St} (w : WT st) : Obj st 8 38 := w.ob lo_38
theorem lo_39 : lay[39]? = some (10, 7) := rfl
theorem oS39 {st : St} (w : WT st) : Obj st 10 39 := w.ob lo_39
theorem aS39 {st : St} (w : WT st) : Arr st 10 7 39 := w.ar lo_39
theorem lo_40 : lay[40]? = some (10, 5627) := rfl
theorem oS40 {st : St} (w : WT st) : Obj st 10 40 := w.ob lo_40
theorem aS40 {st : St} (w : WT st) : Arr st 10 5627 40 := w.ar lo_40
theorem lo_41 : lay[41]? = some (10, 11254) := rfl
theorem oS41 {st : St} (w : WT st) : Obj st 10 41 := w.ob lo_41
theorem aS41 {st : St} (w : WT st) : Arr st 10 11254 41 := w.ar lo_41
theorem lo_42 : lay[42]? = some (12, 2) := rfl
theorem oS42 {st : St} (w : WT st) : Obj st 12 42 := w.ob lo_42
theorem aS42 {st : St} (w : WT st) : Arr st 12 2 42 := w.ar lo_42
theorem lo_43 : lay[43]? = some (10, 6) := rfl
theorem oS43 {st : St} (w : WT st) : Obj st 10 43 := w.ob lo_43
theorem aS43 {st : St} (w : WT st) : Arr st 10 6 43 := w.ar lo_43
theorem lo_44 : lay[44]? = some (9, 121) := rfl
theorem oS44 {st : St} (w : WT st) : Obj st 9 44 := w.ob lo_44
theorem aS44 {st : St} (w : WT st) : Arr st 9 121 44 := w.ar lo_44
theorem lo_45 : lay[45]? = some (9, 400) := rfl
theorem oS45 {st : St} (w : WT st) : Obj st 9 45 := w.ob lo_45
theorem aS45 {st : St} (w : WT st) : Arr st 9 400 45 := w.ar lo_45
theorem lo_46 : lay[46]? = some (10, 5) := rfl
theorem oS46 {st : St} (w : WT st) : Obj st 10 46 := w.ob lo_46
theorem aS46 {st : St} (w : WT st) : Arr st 10 5 46 := w.ar lo_46
theorem lo_47 : lay[47]? = some (10, 401) := rfl
theorem oS47 {st : St} (w : WT st) : Obj st 10 47 := w.ob lo_47
theorem aS47 {st : St} (w : WT st) : Arr st 10 401 47 := w.ar lo_47
theorem lo_48 : lay[48]? = some (10, 401) := rfl
theorem oS48 {st : St} (w : WT st) : Obj st 10 48 := w.ob lo_48
theorem aS48 {st : St} (w : WT st) : Arr st 10 401 48 := w.ar lo_48
theorem lo_49 : lay[49]? = some (10, 401) := rfl
theorem oS49 {st : St} (w : WT st) : Obj st 10 49 := w.ob lo_49
theorem aS49 {st : St} (w : WT st) : Arr st 10 401 49 := w.ar lo_49
theorem lo_50 : lay[50]? = some (10, 7) := rfl
theorem oS50 {st : St} (w : WT st) : Obj st 10 50 := w.ob lo_50
theorem aS50 {st : St} (w : WT st) : Arr st 10 7 50 := w.ar lo_50
theorem lo_51 : lay[51]? = some (10, 16) := rfl
theorem oS51 {st : St} (w : WT st) : Obj st 10 51 := w.ob lo_51
theorem aS51 {st : St} (w : WT st) : Arr st 10 16 51 := w.ar lo_51
theorem lo_52 : lay[52]? = some (10, 64) := rfl
theorem oS52 {st : St} (w : WT st) : Obj st 10 52 := w.ob lo_52
theorem aS52 {st : St} (w : WT st) : Arr st 10 64 52 := w.ar lo_52
theorem lo_53 : lay[53]? = some (10, 64) := rfl
theorem oS53 {st : St} (w : WT st) : Obj st 10 53 := w.ob lo_53
theorem aS53 {st : St} (w : WT st) : Arr st 10 64 53 := w.ar lo_53
theorem lo_54 : lay[54]? = some (10, 60) := rfl
theorem oS54 {st : St} (w : WT st) : Obj st 10 54 := w.ob lo_54
theorem aS54 {st : St} (w : WT st) : Arr st 10 60 54 := w.ar lo_54
theorem lo_55 : lay[55]? = some (10, 1920) := rfl
theorem oS55 {st : St} (w : WT st) : Obj st 10 55 := w.ob lo_55
theorem aS55 {st : St} (w : WT st) : Arr st 10 1920 55 := w.ar lo_55
theorem lo_56 : lay[56]? = some (10, 384) := rfl
theorem oS56 {st : St} (w : WT st) : Obj st 10 56 := w.ob lo_56
theorem aS56 {st : St} (w : WT st) : Arr st 10 384 56 := w.ar lo_56
theorem lo_57 : lay[57]? = some (10, 384) := rfl
theorem oS57 {st : St} (w : WT st) : Obj st 10 57 := w.ob lo_57
theorem aS57 {st : St} (w : WT st) : Arr st 10 384 57 := w.ar lo_57
theorem lo_58 : lay[58]? = some (10, 384) := rfl
theorem oS58 {st : St} (w : WT st) : Obj st 10 58 := w.ob lo_58
theorem aS58 {st : St} (w : WT st) : Arr st 10 384 58 := w.ar lo_58
theorem lo_59 : lay[59]? = some (12, 384) := rfl
theorem oS59 {st : St} (w : WT st) : Obj st 12 59 := w.ob lo_59
theorem aS59 {st : St} (w : WT st) : Arr st 12 384 59 := w.ar lo_59
theorem lo_60 : lay[60]? = some (10, 384) := rfl
theorem oS60 {st : St} (w : WT st) : Obj st 10 60 := w.ob lo_60
theorem aS60 {st : St} (w : WT st) : Arr st 10 384 60 := w.ar lo_60
theorem lo_61 : lay[61]? = some (10, 768) := rfl
theorem oS61 {st : St} (w : WT st) : Obj st 10 61 := w.ob lo_61
theorem aS61 {st : St} (w : WT st) : Arr st 10 768 61 := w.ar lo_61
theorem lo_62 : lay[62]? = some (11, 768) := rfl
theorem oS62 {st : St} (w : WT st) : Obj st 11 62 := w.ob lo_62
theorem aS62 {st : St} (w : WT st) : Arr st 11 768 62 := w.ar lo_62
theorem lo_63 : lay[63]? = some (10, 4) := rfl
theorem oS63 {st : St} (w : WT st) : Obj st 10 63 := w.ob lo_63
theorem aS63 {st : St} (w : WT st) : Arr st 10 4 63 := w.ar lo_63
theorem lo_64 : lay[64]? = some (10, 6) := rfl
theorem oS64 {st : St} (w : WT st) : Obj st 10 64 := w.ob lo_64
theorem aS64 {st : St} (w : WT st) : Arr st 10 6 64 := w.ar lo_64
theorem vS1_0 {E : Ev} {st : St} (w : WT st) : slotV (eB E) st 1 (fty 4 0) 0 = .ref (eB E + 2) := slot_ref rfl (w.wi (List.mem_of_getElem? (i := 0) rfl))
theorem vS1_1 {E : Ev} {st : St} (w : WT st) : slotV (eB E) st 1 (fty 4 1) 1 = .ref (eB E + 3) := slot_ref rfl (w.wi (List.mem_of_getElem? (i := 1) rfl))
theorem vS1_2 {E : Ev} {st : St} (w : WT st) : slotV (eB E) st 1 (fty 4 2) 2 = .ref (eB E + 4) := slot_ref rfl (w.wi (List.mem_of_getElem? (i := 2) rfl))
theorem vS1_3 {E : Ev} {st : St} (w : WT st) : slotV (eB E) st 1 (fty 4 3) 3 = .ref (eB E + 5) := slot_ref rfl (w.wi (List.mem_of_getElem? (i := 3) rfl))
theorem vS0_0 {E : Ev} {st : St} (w : WT st) : slotV (eB E) st 0 (fty 7 0) 0 = .ref (eB E + 1) := slot_ref rfl (w.wi (List.mem_of_getElem? (i := 4) rfl))
theorem vS0_1 {E : Ev} {st : St} (w : WT st) : slotV (eB E) st 0 (fty 7 1) 1 = .ref (eB E + 6) := slot_ref rfl (w.wi (List.mem_of_getElem? (i := 5) rfl))
theorem vS7_0 {E : Ev} {st : St} (w : WT st) : slotV (eB E) st 7 (fty 3 0) 0 = .ref (eB E + 8) := slot_ref rfl (w.wi (List.mem_of_getElem? (i := 6) rfl))
theorem vS9_0 {E : Ev} {st : St} (w : WT st) : slotV (eB E) st 9 (fty 5 0) 0 = .ref (eB E + 10) := slot_ref rfl (w.wi (List.mem_of_getElem? (i := 7) rfl))
theorem vS9_1 {E : Ev} {st : St} (w : WT st) : slotV (eB E) st 9 (fty 5 1) 1 = .ref (eB E + 11) := slot_ref rfl (w.wi (List.mem_of_getElem? (i := 8) rfl))
theorem vS9_2 {E : Ev} {st : St} (w : WT st) : slotV (eB E) st 9 (fty 5 2) 2 = .ref (eB E + 12) := slot_ref rfl (w.wi (List.mem_of_getElem? (i := 9) rfl))
theorem vS9_3 {E : Ev} {st : St} (w : WT st) : slotV (eB E) st 9 (fty 5 3) 3 = .ref (eB E + 13) := slot_ref rfl (w.wi (List.mem_of_getElem? (i := 10) rfl))
theorem vS9_4 {E : Ev} {st : St} (w : WT st) : slotV (eB E) st 9 (fty 5 4) 4 = .ref (eB E + 14) := slot_ref rfl (w.wi (List.mem_of_getElem? (i := 11) rfl))
theorem vS7_1 {E : Ev} {st : St} (w : WT st) : slotV (eB E) st 7 (fty 3 1) 1 = .ref (eB E + 9) := slot_ref rfl (w.wi (List.mem_of_getElem? (i := 12) rfl))
theorem vS0_2 {E : Ev} {st : St} (w : WT st) : slotV (eB E) st 0 (fty 7 2) 2 = .ref (eB E + 7) := slot_ref rfl (w.wi (List.mem_of_getElem? (i := 13) rfl))
theorem vS15_0 {E : Ev} {st : St} (w : WT st) : slotV (eB E) st 15 (fty 2 0) 0 = .ref (eB E + 16) := slot_ref rfl (w.wi (List.mem_of_getElem? (i := 14) rfl))
theorem vS0_3 {E : Ev} {st : St} (w : WT st) : slotV (eB E) st 0 (fty 7 3) 3 = .ref (eB E + 15) := slot_ref rfl (w.wi (List.mem_of_getElem? (i := 15) rfl))
theorem vS17_0 {E : Ev} {st : St} (w : WT st) : slotV (eB E) st 17 (fty 2 0) 0 = .ref (eB E + 18) := slot_ref rfl (w.wi (List.mem_of_getElem? (i := 16) rfl))
theorem vS0_4 {E : Ev} {st : St} (w : WT st) : slotV (eB E) st 0 (fty 7 4) 4 = .ref (eB E + 17) := slot_ref rfl (w.wi (List.mem_of_getElem? (i := 17) rfl))
theorem vS19_1 {E : Ev} {st : St} (w : WT st) : slotV (eB E) st 19 (fty 6 1) 1 = .ref (eB E + 20) := slot_ref rfl (w.wi (List.mem_of_getElem? (i := 18) rfl))
theorem vS19_2 {E : Ev} {st : St} (w : WT st) : slotV (eB E) st 19 (fty 6 2) 2 = .ref (eB E + 21) := slot_ref rfl (w.wi (List.mem_of_getElem? (i := 19) rfl))
theorem vS19_3 {E : Ev} {st : St} (w : WT st) : slotV (eB E) st 19 (fty 6 3) 3 = .ref (eB E + 22) := slot_ref rfl (w.wi (List.mem_of_getElem? (i := 20) rfl))
theorem vS19_4 {E : Ev} {st : St} (w : WT st) : slotV (eB E) st 19 (fty 6 4) 4 = .ref (eB E + 23) := slot_ref rfl (w.wi (List.mem_of_getElem? (i := 21) rfl))
theorem vS19_5 {E : Ev} {st : St} (w : WT st) : slotV (eB E) st 19 (fty 6 5) 5 = .ref (eB E + 24) := slot_ref rfl (w.wi (List.mem_of_getElem? (i := 22) rfl))
theorem vS19_0 {E : Ev} {st : St} (w : WT st) : slotV (eB E) st 19 (fty 6 0) 0 = .ref (eB E + 1) := slot_ref rfl (w.wi (List.mem_of_getElem? (i := 23) rfl))
theorem vS0_5 {E : Ev} {st : St} (w : WT st) : slotV (eB E) st 0 (fty 7 5) 5 = .ref (eB E + 19) := slot_ref rfl (w.wi (List.mem_of_getElem? (i := 24) rfl))
theorem vS25_2 {E : Ev} {st : St} (w : WT st) : slotV (eB E) st 25 (fty 1 2) 2 = .ref (eB E + 26) := slot_ref rfl (w.wi (List.mem_of_getElem? (i := 25) rfl))
theorem vS25_3 {E : Ev} {st : St} (w : WT st) : slotV (eB E) st 25 (fty 1 3) 3 = .ref (eB E + 27) := slot_ref rfl (w.wi (List.mem_of_getElem? (i := 26) rfl))
theorem vS25_4 {E : Ev} {st : St} (w : WT st) : slotV (eB E) st 25 (fty 1 4) 4 = .ref (eB E + 28) := slot_ref rfl (w.wi (List.mem_of_getElem? (i := 27) rfl))
theorem vS25_5 {E : Ev} {st : St} (w : WT st) : slotV (eB E) st 25 (fty 1 5) 5 = .ref (eB E + 29) := slot_ref rfl (w.wi (List.mem_of_getElem? (i := 28) rfl))
theorem vS25_6 {E : Ev} {st : St} (w : WT st) : slotV (eB E) st 25 (fty 1 6) 6 = .ref (eB E + 30) := slot_ref rfl (w.wi (List.mem_of_getElem? (i := 29) rfl))
theorem vS25_7 {E : Ev} {st : St} (w : WT st) : slotV (eB E) st 25 (fty 1 7) 7 = .ref (eB E + 31) := slot_ref rfl (w.wi (List.mem_of_getElem? (i := 30) rfl))
theorem vS25_8 {E : Ev} {st : St} (w : WT st) : slotV (eB E) st 25 (fty 1 8) 8 = .ref (eB E + 32) := slot_ref rfl (w.wi (List.mem_of_getElem? (i := 31) rfl))
theorem vS25_0 {E : Ev} {st : St} (w : WT st) : slotV (eB E) st 25 (fty 1 0) 0 = .ref (eB E + 1) := slot_ref rfl (w.wi (List.mem_of_getElem? (i := 32) rfl))
theorem vS25_1 {E : Ev} {st : St} (w : WT st) : slotV (eB E) st 25 (fty 1 1) 1 = .ref (eB E + 19) := slot_ref rfl (w.wi (List.mem_of_getElem? (i := 33) rfl))
theorem vS0_6 {E : Ev} {st : St} (w : WT st) : slotV (eB E) st 0 (fty 7 6) 6 = .ref (eB E + 25) := slot_ref rfl (w.wi (List.mem_of_getElem? (i := 34) rfl))
theorem vS33_2 {E : Ev} {st : St} (w : WT st) : slotV (eB E) st 33 (fty 0 2) 2 = .ref (eB E + 34) := slot_ref rfl (w.wi (List.mem_of_getElem? (i := 35) rfl))
theorem vS33_0 {E : Ev} {st : St} (w : WT st) : slotV (eB E) st 33 (fty 0 0) 0 = .ref (eB E + 1) := slot_ref rfl (w.wi (List.mem_of_getElem? (i := 36) rfl))
theorem vS33_1 {E : Ev} {st : St} (w : WT st) : slotV (eB E) st 33 (fty 0 1) 1 = .ref (eB E + 19) := slot_ref rfl (w.wi (List.mem_of_getElem? (i := 37) rfl))
theorem vS0_7 {E : Ev} {st : St} (w : WT st) : slotV (eB E) st 0 (fty 7 7) 7 = .ref (eB E + 33) := slot_ref rfl (w.wi (List.mem_of_getElem? (i := 38) rfl))
theorem vS0_8 {E : Ev} {st : St} (w : WT st) : slotV (eB E) st 0 (fty 7 8) 8 = .ref (eB E + 35) := slot_ref rfl (w.wi (List.mem_of_getElem? (i := 39) rfl))
theorem vS0_9 {E : Ev} {st : St} (w : WT st) : slotV (eB E) st 0 (fty 7 9) 9 = .ref (eB E + 36) := slot_ref rfl (w.wi (List.mem_of_getElem? (i := 40) rfl))
theorem vS0_10 {E : Ev} {st : St} (w : WT st) : slotV (eB E) st 0 (fty 7 10) 10 = .ref (eB E + 37) := slot_ref rfl (w.wi (List.mem_of_getElem? (i := 41) rfl))
theorem vS38_1 {E : Ev} {st : St} (w : WT st) : slotV (eB E) st 38 (fty 8 1) 1 = .ref (eB E + 39) := slot_ref rfl (w.wi (List.mem_of_getElem? (i := 42) rfl))
theorem vS38_2 {E : Ev} {st : St} (w : WT st) : slotV (eB E) st 38 (fty 8 2) 2 = .ref (eB E + 40) := slot_ref rfl (w.wi (List.mem_of_getElem? (i := 43) rfl))
theorem vS38_3 {E : Ev} {st : St} (w : WT st) : slotV (eB E) st 38 (fty 8 3) 3 = .ref (eB E + 41) := slot_ref rfl (w.wi (List.mem_of_getElem? (i := 44) rfl))
theorem vS38_4 {E : Ev} {st : St} (w : WT st) : slotV (eB E) st 38 (fty 8 4) 4 = .ref (eB E + 42) := slot_ref rfl (w.wi (List.mem_of_getElem? (i := 45) rfl))
theorem vS38_5 {E : Ev} {st : St} (w : WT st) : slotV (eB E) st 38 (fty 8 5) 5 = .ref (eB E + 43) := slot_ref rfl (w.wi (List.mem_of_getElem? (i := 46) rfl))
theorem vS38_7 {E : Ev} {st : St} (w : WT st) : slotV (eB E) st 38 (fty 8 7) 7 = .ref (eB E + 44) := slot_ref rfl (w.wi (List.mem_of_getElem? (i := 47) rfl))
theorem vS38_11 {E : Ev} {st : St} (w : WT st) : slotV (eB E) st 38 (fty 8 11) 11 = .ref (eB E + 45) := slot_ref rfl (w.wi (List.mem_of_getElem? (i := 48) rfl))
theorem vS38_12 {E : Ev} {st : St} (w : WT st) : slotV (eB E) st 38 (fty 8 12) 12 = .ref (eB E + 46) := slot_ref rfl (w.wi (List.mem_of_getElem? (i := 49) rfl))
theorem vS38_15 {E : Ev} {st : St} (w : WT st) : slotV (eB E) st 38 (fty 8 15) 15 = .ref (eB E + 47) := slot_ref rfl (w.wi (List.mem_of_getElem? (i := 50) rfl))
theorem vS38_16 {E : Ev} {st : St} (w : WT st) : slotV (eB E) st 38 (fty 8 16) 16 = .ref (eB E + 48) := slot_ref rfl (w.wi (List.mem_of_getElem? (i := 51) rfl))
theorem vS38_17 {E : Ev} {st : St} (w : WT st) : slotV (eB E) st 38 (fty 8 17) 17 = .ref (eB E + 49) := slot_ref rfl (w.wi (List.mem_of_getElem? (i := 52) rfl))
theorem vS38_26 {E : Ev} {st : St} (w : WT st) : slotV (eB E) st 38 (fty 8 26) 26 = .ref (eB E + 50) := slot_ref rfl (w.wi (List.mem_of_getElem? (i := 53) rfl))
theorem vS38_29 {E : Ev} {st : St} (w : WT st) : slotV (eB E) st 38 (fty 8 29) 29 = .ref (eB E + 51) := slot_ref rfl (w.wi (List.mem_of_getElem? (i := 54) rfl))
theorem vS38_30 {E : Ev} {st : St} (w : WT st) : slotV (eB E) st 38 (fty 8 30) 30 = .ref (eB E + 52) := slot_ref rfl (w.wi (List.mem_of_getElem? (i := 55) rfl))
theorem vS38_31 {E : Ev} {st : St} (w : WT st) : slotV (eB E) st 38 (fty 8 31) 31 = .ref (eB E + 53) := slot_ref rfl (w.wi (List.mem_of_getElem? (i := 56) rfl))
theorem vS38_33 {E : Ev} {st : St} (w : WT st) : slotV (eB E) st 38 (fty 8 33) 33 = .ref (eB E + 54) := slot_ref rfl (w.wi (List.mem_of_getElem? (i := 57) rfl))
theorem vS38_35 {E : Ev} {st : St} (w : WT st) : slotV (eB E) st 38 (fty 8 35) 35 = .ref (eB E + 55) := slot_ref rfl (w.wi (List.mem_of_getElem? (i := 58) rfl))
theorem vS38_36 {E : Ev} {st : St} (w : WT st) : slotV (eB E) st 38 (fty 8 36) 36 = .ref (eB E + 56) := slot_ref rfl (w.wi (List.mem_of_getElem? (i := 59) rfl))
theorem vS38_37 {E : Ev} {st : St} (w : WT st) : slotV (eB E) st 38 (fty 8 37) 37 = .ref (eB E + 57) := slot_ref rfl (w.wi (List.mem_of_getElem? (i := 60) rfl))
theorem vS38_38 {E : Ev} {st : St} (w : WT st) : slotV (eB E) st 38 (fty 8 38) 38 = .ref (eB E + 58) := slot_ref rfl (w.wi (List.mem_of_getElem? (i := 61) rfl))
theorem vS38_39 {E : Ev} {st : St} (w : WT st) : slotV (eB E) st 38 (fty 8 39) 39 = .ref (eB E + 59) := slot_ref rfl (w.wi (List.mem_of_getElem? (i := 62) rfl))
theorem vS38_41 {E : Ev} {st : St} (w : WT st) : slotV (eB E) st 38 (fty 8 41) 41 = .ref (eB E + 60) := slot_ref rfl (w.wi (List.mem_of_getElem? (i := 63) rfl))
theorem vS38_42 {E : Ev} {st : St} (w : WT st) : slotV (eB E) st 38 (fty 8 42) 42 = .ref (eB E + 61) := slot_ref rfl (w.wi (List.mem_of_getElem? (i := 64) rfl))
theorem vS38_44 {E : Ev} {st : St} (w : WT st) : slotV (eB E) st 38 (fty 8 44) 44 = .ref (eB E + 62) := slot_ref rfl (w.wi (List.mem_of_getElem? (i := 65) rfl))
theorem vS38_45 {E : Ev} {st : St} (w : WT st) : slotV (eB E) st 38 (fty 8 45) 45 = .ref (eB E + 63) := slot_ref rfl (w.wi (List.mem_of_getElem? (i := 66) rfl))
theorem vS38_54 {E : Ev} {st : St} (w : WT st) : slotV (eB E) st 38 (fty 8 54) 54 = .ref (eB E + 64) := slot_ref rfl (w.wi (List.mem_of_getElem? (i := 67) rfl))
/-- an index within, a divisor that is not 0, a truth value: what a step asks -/
def chk {α : Type} (b : Bool) (k : Option α) : Option α := if b = true then k else none
def ixb (i : Int32) (n : Nat) : Bool := decide (¬ (i < 0 ∨ n ≤ i.toNatClampNeg))
def nz (b : Int32) : Bool := decide (¬ b = 0)
def nzl (b : Int64) : Bool := decide (¬ b = 0)
def isb (b : Int32) : Bool := decide (b = 0 ∨ b = 1)
theorem chk_some {α : Type} {b : Bool} {k : Option α} {r : α} (h : chk b k = some r) : b = true ∧ k = some r := by
  unfold chk at h
  by_cases hb : b = true
  · rw [if_pos hb] at h; exact ⟨hb, h⟩
  · rw [if_neg hb] at h; cases h
theorem ixb_in {i : Int32} {n : Nat} (h : ixb i n = true) : vp_in i n := of_decide_eq_true (p := ¬ (i < 0 ∨ n ≤ i.toNatClampNeg)) h
theorem nz_ne {b : Int32} (h : nz b = true) : ¬ b = 0 := of_decide_eq_true h
theorem nzl_ne {b : Int64} (h : nzl b = true) : ¬ b = 0 := of_decide_eq_true h
theorem isb_or {b : Int32} (h : isb b = true) : b = 0 ∨ b = 1 := of_decide_eq_true h
theorem nb_n {b : Int32} (h : b = 0 ∨ b = 1) : narrow .boolean (.int b) = .int b := by rcases h with rfl | rfl <;> rfl
theorem nb_f {b : Int32} (h : b = 0 ∨ b = 1) : fits .boolean (.int b) = true := by rcases h with rfl | rfl <;> rfl
theorem bnd_some {α β : Type} {o : Option α} {f : α → Option β} {r : β} (h : o.bind f = some r) : ∃ a, o = some a ∧ f a = some r := Option.bind_eq_some_iff.mp h
/-- a reference that may be null -/
def optE {β : Type} (o : Option Nat) (n : β) (s : Nat → β) : β := match o with
  | none => n
  | some a => s a
theorem optE_c {β : Type} {o : Option Nat} {n : β} {s : Nat → β} {r : β} (h : optE o n s = r) : (o = none ∧ n = r) ∨ ∃ a, o = some a ∧ s a = r := by
  cases o with
  | none => exact Or.inl ⟨rfl, h⟩
  | some a => exact Or.inr ⟨a, rfl, h⟩
theorem ne_toInt {a b : Int32} (h : ¬ a = b) : a.toInt ≠ b.toInt := fun e => h (Int32.toInt_inj.mp e)
theorem tab_out {a : Int32} {lo hi : Int} (l : List Int32) (len : Nat) (hl : lo + (len : Int) = hi + 1) (h : ∀ v ∈ l, ¬ a = v) (hc : (List.range len).all (fun n => l.any (fun v => v.toInt == lo + (n : Int))) = true) : a.toInt < lo ∨ hi < a.toInt := by
  by_cases h1 : a.toInt < lo
  · exact Or.inl h1
  · by_cases h2 : hi < a.toInt
    · exact Or.inr h2
    · exfalso
      have h3 := List.all_eq_true.mp hc (a.toInt - lo).toNat (List.mem_range.mpr (by omega))
      obtain ⟨v, hv, e⟩ := List.any_eq_true.mp h3
      have e2 : v.toInt = lo + (((a.toInt - lo).toNat : Nat) : Int) := by simpa using e
      exact h v hv (Int32.toInt_inj.mp (by omega))
/-- how many times a loop may turn -/
def FU : Nat := 100000
/-- what a walk of a method is given -/
def Bd (E : Ev) (x : Cx) (ret : Option FieldType) (h mc ms : Nat) (v0 : Option Value) (u0 : St) : Prop := xR x = rmh h mc ms ∧ xt x ∧ (xM x).sig.returnType = ret ∧ QM E WT x v0 u0 (mc, ms)
section R4
variable {E : Ev} {wt : St → Prop} {x : Cx} {own : String} {cc : ByteArray} {nL : Nat} {cs : Nat × Nat} {st : St} {pc : Nat} {lv lv' : List (Nat × Value)} {stk : List Value}
theorem g_lvs (ks : List Nat) (h : lv_pick lv ks = lv') (k : G E wt x own cc nL cs st pc lv' stk) : G E wt x own cc nL cs st pc lv stk :=
  fun C w H locs ls hH hz hS hl => k C w H locs ls hH hz hS (lv_sub hl ks h)
theorem g_callV0 {y : MethodName} {bytes : ByteArray} {maxL n idx h h2 c2 s2 : Nat} {ret : Option FieldType} {As rest : List Value} {v0 : Option Value} {u0 : St} {k b N : Nat} {C : String} {T : u_T} (ck : ClsOK k C T N) (ok : MOK y bytes maxL ret n) (w1 : Cond.methodLink own idx y ∈ gtbl) (w2 : Cond.instanceMethod y ∈ gtbl) (w3 : Cond.selects C y y ∈ gtbl) (ho : wt st → Obj st k b) (hR : xR x = rmh h2 c2 s2) (hh : h < h2) (hM : CM (xl x) E wt y bytes maxL ret h 0 0 (.ref (eB E + b) :: As) st v0 u0) (hn : As.length = n) (hstk : stk = As.reverse ++ .ref (eB E + b) :: rest) (hroom : (rest.map fun v => v.category).sum ≤ 8) (hc : cs.1 ≤ c2 ∧ cs.2 ≤ s2) (d : decode cc pc = .ok (.invokevirtual idx, 3)) (kk : G E wt x own cc nL cs u0 (pc + 3) lv (v0.toList ++ rest)) : G E wt x own cc nL cs st pc lv stk :=
  g_callV (st1 := st) ck ok w1 w2 w3 ho hR hh hM hn hstk hroom hc (fun _ => Or.inr rfl) d kk
theorem g_callVN0 {y : MethodName} {bytes : ByteArray} {maxL n idx h h2 c2 s2 : Nat} {ret : Option FieldType} {As rest : List Value} {v0 : Option Value} {u0 : St} {k b N : Nat} {C : String} {T : u_T} (ck : ClsOK k C T N) (ok : MOK y bytes maxL ret n) (w1 : ((own, idx, y, RX7) : NmT) ∈ nestM) (w2 : Cond.instanceMethod y ∈ gtbl) (w3 : Cond.selects C y y ∈ gtbl) (ho : wt st → Obj st k b) (hR : xR x = rmh h2 c2 s2) (hh : h < h2) (hM : CM (xl x) E wt y bytes maxL ret h 0 0 (.ref (eB E + b) :: As) st v0 u0) (hn : As.length = n) (hstk : stk = As.reverse ++ .ref (eB E + b) :: rest) (hroom : (rest.map fun v => v.category).sum ≤ 8) (hc : cs.1 ≤ c2 ∧ cs.2 ≤ s2) (d : decode cc pc = .ok (.invokevirtual idx, 3)) (kk : G E wt x own cc nL cs u0 (pc + 3) lv (v0.toList ++ rest)) : G E wt x own cc nL cs st pc lv stk :=
  g_callVN (st1 := st) ck ok w1 w2 w3 ho hR hh hM hn hstk hroom hc (fun _ => Or.inr rfl) d kk
theorem g_callS0 {y : MethodName} {bytes : ByteArray} {maxL n idx h h2 c2 s2 : Nat} {ret : Option FieldType} {As rest : List Value} {v0 : Option Value} {u0 : St} (ok : MOK y bytes maxL ret n) (w1 : Cond.methodLink own idx y ∈ gtbl) (w2 : Cond.static y ∈ gtbl) (hR : xR x = rmh h2 c2 s2) (hh : h < h2) (hM : CM (xl x) E wt y bytes maxL ret h 0 0 As st v0 u0) (hn : As.length = n) (hstk : stk = As.reverse ++ rest) (hroom : (rest.map fun v => v.category).sum ≤ 8) (hc : cs.1 ≤ c2 ∧ cs.2 ≤ s2) (d : decode cc pc = .ok (.invokestatic idx, 3)) (kk : G E wt x own cc nL cs u0 (pc + 3) lv (v0.toList ++ rest)) : G E wt x own cc nL cs st pc lv stk :=
  g_callS (st1 := st) ok w1 w2 hR hh hM hn hstk hroom hc (fun _ => Or.inr rfl) d kk
theorem g_callSN0 {y : MethodName} {bytes : ByteArray} {maxL n idx h h2 c2 s2 : Nat} {ret : Option FieldType} {As rest : List Value} {v0 : Option Value} {u0 : St} (ok : MOK y bytes maxL ret n) (w1 : ((own, idx, y, RX7) : NmT) ∈ nestM) (w2 : Cond.static y ∈ gtbl) (hR : xR x = rmh h2 c2 s2) (hh : h < h2) (hM : CM (xl x) E wt y bytes maxL ret h 0 0 As st v0 u0) (hn : As.length = n) (hstk : stk = As.reverse ++ rest) (hroom : (rest.map fun v => v.category).sum ≤ 8) (hc : cs.1 ≤ c2 ∧ cs.2 ≤ s2) (d : decode cc pc = .ok (.invokestatic idx, 3)) (kk : G E wt x own cc nL cs u0 (pc + 3) lv (v0.toList ++ rest)) : G E wt x own cc nL cs st pc lv stk :=
  g_callSN (st1 := st) ok w1 w2 hR hh hM hn hstk hroom hc (fun _ => Or.inr rfl) d kk
end R4
theorem mok_J6_bitCount_0f7a4 : MOK yJ6_bitCount_0f7a4 cJ6_bitCount_0f7a4 1 (some FieldType.int) 1 := ⟨tw2_168, tw1_12, ⟨by decide +kernel, by decide +kernel, by decide +kernel⟩, by decide +kernel, by decide⟩
theorem mok_J6_numberOfTrailingZeros_0f7a4 : MOK yJ6_numberOfTrailingZeros_0f7a4 cJ6_numberOfTrailingZeros_0f7a4 2 (some FieldType.int) 1 := ⟨tw4_35, tw1_12, ⟨by decide +kernel, by decide +kernel, by decide +kernel⟩, by decide +kernel, by decide⟩
theorem mok_J7_fill_53178 : MOK yJ7_fill_53178 cJ7_fill_53178 4 none 2 := ⟨tw2_137, tw1_11, ⟨by decide +kernel, by decide +kernel, by decide +kernel⟩, by decide +kernel, by decide⟩
theorem mok_J7_fill_d0a16 : MOK yJ7_fill_d0a16 cJ7_fill_d0a16 5 none 2 := ⟨tw4_86, tw1_11, ⟨by decide +kernel, by decide +kernel, by decide +kernel⟩, by decide +kernel, by decide⟩
theorem mok_X0_draw : MOK yX0_draw cX0_draw 2 (some FieldType.int) 1 := ⟨tw4_137, tw1_9, ⟨by decide +kernel, by decide +kernel, by decide +kernel⟩, by decide +kernel, by decide⟩
theorem mok_X0_init : MOK yX0_init cX0_init 3 none 2 := ⟨tw2_40, tw1_9, ⟨by decide +kernel, by decide +kernel, by decide +kernel⟩, by decide +kernel, by decide⟩
theorem mok_X0_run : MOK yX0_run cX0_run 8 (some FieldType.int) 2 := ⟨tw4_123, tw1_9, ⟨by decide +kernel, by decide +kernel, by decide +kernel⟩, by decide +kernel, by decide⟩
theorem mok_X0_stateBehindDraws : MOK yX0_stateBehindDraws cX0_stateBehindDraws 5 (some FieldType.int) 1 := ⟨tw4_133, tw1_9, ⟨by decide +kernel, by decide +kernel, by decide +kernel⟩, by decide +kernel, by decide⟩
theorem mok_X1_choose : MOK yX1_choose cX1_choose 5 (some FieldType.int) 2 := ⟨tw4_73, tw1_8, ⟨by decide +kernel, by decide +kernel, by decide +kernel⟩, by decide +kernel, by decide⟩
theorem mok_X1_digit : MOK yX1_digit cX1_digit 5 (some FieldType.int) 2 := ⟨tw4_109, tw1_8, ⟨by decide +kernel, by decide +kernel, by decide +kernel⟩, by decide +kernel, by decide⟩
theorem mok_X1_goesOn : MOK yX1_goesOn cX1_goesOn 1 (some FieldType.boolean) 1 := ⟨tw4_25, tw1_8, ⟨by decide +kernel, by decide +kernel, by decide +kernel⟩, by decide +kernel, by decide⟩
theorem mok_X1_handOn : MOK yX1_handOn cX1_handOn 8 none 3 := ⟨tw4_93, tw1_8, ⟨by decide +kernel, by decide +kernel, by decide +kernel⟩, by decide +kernel, by decide⟩
theorem mok_X1_init : MOK yX1_init cX1_init 3 none 2 := ⟨tw1_233, tw1_8, ⟨by decide +kernel, by decide +kernel, by decide +kernel⟩, by decide +kernel, by decide⟩
theorem mok_X1_lastBy : MOK yX1_lastBy cX1_lastBy 7 (some FieldType.int) 2 := ⟨tw4_22, tw1_8, ⟨by decide +kernel, by decide +kernel, by decide +kernel⟩, by decide +kernel, by decide⟩
theorem mok_X1_leadsHere : MOK yX1_leadsHere cX1_leadsHere 5 (some FieldType.boolean) 2 := ⟨tw4_105, tw1_8, ⟨by decide +kernel, by decide +kernel, by decide +kernel⟩, by decide +kernel, by decide⟩
theorem mok_X1_onlyOneIn : MOK yX1_onlyOneIn cX1_onlyOneIn 2 (some FieldType.int) 1 := ⟨tw4_39, tw1_8, ⟨by decide +kernel, by decide +kernel, by decide +kernel⟩, by decide +kernel, by decide⟩
theorem mok_X1_partsIn : MOK yX1_partsIn cX1_partsIn 11 (some FieldType.long) 3 := ⟨tw4_83, tw1_8, ⟨by decide +kernel, by decide +kernel, by decide +kernel⟩, by decide +kernel, by decide⟩
theorem mok_X1_play : MOK yX1_play cX1_play 9 (some FieldType.int) 1 := ⟨tw4_68, tw1_8, ⟨by decide +kernel, by decide +kernel, by decide +kernel⟩, by decide +kernel, by decide⟩
theorem mok_X1_reach : MOK yX1_reach cX1_reach 7 (some FieldType.int) 2 := ⟨tw4_51, tw1_8, ⟨by decide +kernel, by decide +kernel, by decide +kernel⟩, by decide +kernel, by decide⟩
theorem mok_X1_rhymeAhead : MOK yX1_rhymeAhead cX1_rhymeAhead 5 (some FieldType.int) 2 := ⟨tw4_60, tw1_8, ⟨by decide +kernel, by decide +kernel, by decide +kernel⟩, by decide +kernel, by decide⟩
theorem mok_X1_rowsSaid : MOK yX1_rowsSaid cX1_rowsSaid 6 (some FieldType.int) 2 := ⟨tw4_101, tw1_8, ⟨by decide +kernel, by decide +kernel, by decide +kernel⟩, by decide +kernel, by decide⟩
theorem mok_X1_sayingsTo : MOK yX1_sayingsTo cX1_sayingsTo 4 (some FieldType.int) 1 := ⟨tw4_56, tw1_8, ⟨by decide +kernel, by decide +kernel, by decide +kernel⟩, by decide +kernel, by decide⟩
theorem mok_X2_becomes : MOK yX2_becomes cX2_becomes 2 none 1 := ⟨tw3_141, tw1_6, ⟨by decide +kernel, by decide +kernel, by decide +kernel⟩, by decide +kernel, by decide⟩
theorem mok_X2_forget : MOK yX2_forget cX2_forget 1 none 0 := ⟨tw2_129, tw1_6, ⟨by decide +kernel, by decide +kernel, by decide +kernel⟩, by decide +kernel, by decide⟩
theorem mok_X2_init : MOK yX2_init cX2_init 1 none 0 := ⟨tw1_177, tw1_6, ⟨by decide +kernel, by decide +kernel, by decide +kernel⟩, by decide +kernel, by decide⟩
theorem mok_X2_keep : MOK yX2_keep cX2_keep 4 none 2 := ⟨tw3_179, tw1_6, ⟨by decide +kernel, by decide +kernel, by decide +kernel⟩, by decide +kernel, by decide⟩
theorem mok_X2_takeBack : MOK yX2_takeBack cX2_takeBack 3 (some FieldType.int) 1 := ⟨tw4_8, tw1_6, ⟨by decide +kernel, by decide +kernel, by decide +kernel⟩, by decide +kernel, by decide⟩
theorem mok_X3_append : MOK yX3_append cX3_append 3 none 1 := ⟨tw2_233, tw1_3, ⟨by decide +kernel, by decide +kernel, by decide +kernel⟩, by decide +kernel, by decide⟩
theorem mok_X3_clause : MOK yX3_clause cX3_clause 3 (some FieldType.boolean) 1 := ⟨tw3_25, tw1_3, ⟨by decide +kernel, by decide +kernel, by decide +kernel⟩, by decide +kernel, by decide⟩
theorem mok_X3_hasRoomFor : MOK yX3_hasRoomFor cX3_hasRoomFor 2 (some FieldType.boolean) 1 := ⟨tw2_229, tw1_3, ⟨by decide +kernel, by decide +kernel, by decide +kernel⟩, by decide +kernel, by decide⟩
theorem mok_X3_init : MOK yX3_init cX3_init 1 none 0 := ⟨tw1_89, tw1_3, ⟨by decide +kernel, by decide +kernel, by decide +kernel⟩, by decide +kernel, by decide⟩
theorem mok_X3_isSign : MOK yX3_isSign cX3_isSign 2 (some FieldType.boolean) 1 := ⟨tw3_91, tw1_3, ⟨by decide +kernel, by decide +kernel, by decide +kernel⟩, by decide +kernel, by decide⟩
theorem mok_X3_part : MOK yX3_part cX3_part 4 (some FieldType.boolean) 1 := ⟨tw3_87, tw1_3, ⟨by decide +kernel, by decide +kernel, by decide +kernel⟩, by decide +kernel, by decide⟩
theorem mok_X3_plain : MOK yX3_plain cX3_plain 4 (some FieldType.boolean) 1 := ⟨tw3_107, tw1_3, ⟨by decide +kernel, by decide +kernel, by decide +kernel⟩, by decide +kernel, by decide⟩
theorem mok_X3_readAll : MOK yX3_readAll cX3_readAll 4 (some FieldType.int) 1 := ⟨tw3_13, tw1_3, ⟨by decide +kernel, by decide +kernel, by decide +kernel⟩, by decide +kernel, by decide⟩
theorem mok_X3_step : MOK yX3_step cX3_step 2 none 0 := ⟨tw3_21, tw1_3, ⟨by decide +kernel, by decide +kernel, by decide +kernel⟩, by decide +kernel, by decide⟩
theorem mok_X3_sum : MOK yX3_sum cX3_sum 6 (some FieldType.boolean) 1 := ⟨tw3_83, tw1_3, ⟨by decide +kernel, by decide +kernel, by decide +kernel⟩, by decide +kernel, by decide⟩
theorem mok_X3_test : MOK yX3_test cX3_test 6 (some FieldType.boolean) 1 := ⟨tw3_103, tw1_3, ⟨by decide +kernel, by decide +kernel, by decide +kernel⟩, by decide +kernel, by decide⟩
theorem mok_X3_which : MOK yX3_which cX3_which 6 (some FieldType.int) 1 := ⟨tw3_31, tw1_3, ⟨by decide +kernel, by decide +kernel, by decide +kernel⟩, by decide +kernel, by decide⟩
theorem mok_X4_becomes : MOK yX4_becomes cX4_becomes 3 none 1 := ⟨tw4_155, tw1_2, ⟨by decide +kernel, by decide +kernel, by decide +kernel⟩, by decide +kernel, by decide⟩
theorem mok_X4_everyone : MOK yX4_everyone cX4_everyone 1 (some FieldType.int) 0 := ⟨tw3_199, tw1_2, ⟨by decide +kernel, by decide +kernel, by decide +kernel⟩, by decide +kernel, by decide⟩
theorem mok_X4_init : MOK yX4_init cX4_init 1 none 0 := ⟨tw1_30, tw1_2, ⟨by decide +kernel, by decide +kernel, by decide +kernel⟩, by decide +kernel, by decide⟩
theorem mok_X4_lacksChild : MOK yX4_lacksChild cX4_lacksChild 2 (some FieldType.boolean) 1 := ⟨tw2_149, tw1_2, ⟨by decide +kernel, by decide +kernel, by decide +kernel⟩, by decide +kernel, by decide⟩
theorem mok_X4_lacksLaw : MOK yX4_lacksLaw cX4_lacksLaw 2 (some FieldType.boolean) 1 := ⟨tw3_219, tw1_2, ⟨by decide +kernel, by decide +kernel, by decide +kernel⟩, by decide +kernel, by decide⟩
theorem mok_X4_lacksRhyme : MOK yX4_lacksRhyme cX4_lacksRhyme 2 (some FieldType.boolean) 1 := ⟨tw2_161, tw1_2, ⟨by decide +kernel, by decide +kernel, by decide +kernel⟩, by decide +kernel, by decide⟩
theorem mok_X4_lawInForce : MOK yX4_lawInForce cX4_lawInForce 1 (some (FieldType.object RX5)) 0 := ⟨tw2_179, tw1_2, ⟨by decide +kernel, by decide +kernel, by decide +kernel⟩, by decide +kernel, by decide⟩
theorem mok_X4_place : MOK yX4_place cX4_place 1 (some FieldType.int) 0 := ⟨tw3_160, tw1_2, ⟨by decide +kernel, by decide +kernel, by decide +kernel⟩, by decide +kernel, by decide⟩
theorem mok_X4_settle : MOK yX4_settle cX4_settle 2 none 1 := ⟨tw3_187, tw1_2, ⟨by decide +kernel, by decide +kernel, by decide +kernel⟩, by decide +kernel, by decide⟩
theorem mok_X4_state : MOK yX4_state cX4_state 1 (some FieldType.int) 0 := ⟨tw4_17, tw1_2, ⟨by decide +kernel, by decide +kernel, by decide +kernel⟩, by decide +kernel, by decide⟩
theorem mok_X4_welcome : MOK yX4_welcome cX4_welcome 2 none 1 := ⟨tw2_121, tw1_2, ⟨by decide +kernel, by decide +kernel, by decide +kernel⟩, by decide +kernel, by decide⟩
theorem mok_X5_clear : MOK yX5_clear cX5_clear 1 none 0 := ⟨tw3_17, tw1_4, ⟨by decide +kernel, by decide +kernel, by decide +kernel⟩, by decide +kernel, by decide⟩
theorem mok_X5_has : MOK yX5_has cX5_has 2 (some FieldType.boolean) 1 := ⟨tw2_192, tw1_4, ⟨by decide +kernel, by decide +kernel, by decide +kernel⟩, by decide +kernel, by decide⟩
theorem mok_X5_init : MOK yX5_init cX5_init 2 none 1 := ⟨tw1_95, tw1_4, ⟨by decide +kernel, by decide +kernel, by decide +kernel⟩, by decide +kernel, by decide⟩
theorem mok_X5_joined : MOK yX5_joined cX5_joined 7 (some FieldType.int) 3 := ⟨tw2_204, tw1_4, ⟨by decide +kernel, by decide +kernel, by decide +kernel⟩, by decide +kernel, by decide⟩
theorem mok_X5_land : MOK yX5_land cX5_land 2 none 1 := ⟨tw3_112, tw1_4, ⟨by decide +kernel, by decide +kernel, by decide +kernel⟩, by decide +kernel, by decide⟩
theorem mok_X5_put : MOK yX5_put cX5_put 2 none 1 := ⟨tw3_97, tw1_4, ⟨by decide +kernel, by decide +kernel, by decide +kernel⟩, by decide +kernel, by decide⟩
theorem mok_X5_putJump : MOK yX5_putJump cX5_putJump 2 (some FieldType.int) 1 := ⟨tw3_117, tw1_4, ⟨by decide +kernel, by decide +kernel, by decide +kernel⟩, by decide +kernel, by decide⟩
theorem mok_X5_trimmed : MOK yX5_trimmed cX5_trimmed 2 (some (FieldType.object RX5)) 0 := ⟨tw3_123, tw1_4, ⟨by decide +kernel, by decide +kernel, by decide +kernel⟩, by decide +kernel, by decide⟩
theorem mok_X5_worth : MOK yX5_worth cX5_worth 10 (some FieldType.int) 3 := ⟨tw2_200, tw1_4, ⟨by decide +kernel, by decide +kernel, by decide +kernel⟩, by decide +kernel, by decide⟩
theorem mok_X6_after : MOK yX6_after cX6_after 6 (some FieldType.int) 2 := ⟨tw4_30, tw1_7, ⟨by decide +kernel, by decide +kernel, by decide +kernel⟩, by decide +kernel, by decide⟩
theorem mok_X6_firstIn : MOK yX6_firstIn cX6_firstIn 3 (some FieldType.int) 2 := ⟨tw3_169, tw1_7, ⟨by decide +kernel, by decide +kernel, by decide +kernel⟩, by decide +kernel, by decide⟩
theorem mok_X6_forget : MOK yX6_forget cX6_forget 1 none 0 := ⟨tw2_133, tw1_7, ⟨by decide +kernel, by decide +kernel, by decide +kernel⟩, by decide +kernel, by decide⟩
theorem mok_X6_gatherFacts : MOK yX6_gatherFacts cX6_gatherFacts 5 none 4 := ⟨tw2_196, tw1_7, ⟨by decide +kernel, by decide +kernel, by decide +kernel⟩, by decide +kernel, by decide⟩
theorem mok_X6_init : MOK yX6_init cX6_init 2 none 1 := ⟨tw1_191, tw1_7, ⟨by decide +kernel, by decide +kernel, by decide +kernel⟩, by decide +kernel, by decide⟩
theorem mok_X6_isSo : MOK yX6_isSo cX6_isSo 11 (some FieldType.boolean) 5 := ⟨tw2_215, tw1_7, ⟨by decide +kernel, by decide +kernel, by decide +kernel⟩, by decide +kernel, by decide⟩
theorem mok_X6_lengthOf : MOK yX6_lengthOf cX6_lengthOf 8 (some FieldType.int) 3 := ⟨tw2_188, tw1_7, ⟨by decide +kernel, by decide +kernel, by decide +kernel⟩, by decide +kernel, by decide⟩
theorem mok_X6_nextIn : MOK yX6_nextIn cX6_nextIn 6 (some FieldType.int) 3 := ⟨tw3_173, tw1_7, ⟨by decide +kernel, by decide +kernel, by decide +kernel⟩, by decide +kernel, by decide⟩
theorem mok_X6_speak : MOK yX6_speak cX6_speak 10 (some FieldType.int) 4 := ⟨tw3_164, tw1_7, ⟨by decide +kernel, by decide +kernel, by decide +kernel⟩, by decide +kernel, by decide⟩
theorem mok_X6_stateBehind : MOK yX6_stateBehind cX6_stateBehind 6 (some FieldType.int) 2 := ⟨tw3_183, tw1_7, ⟨by decide +kernel, by decide +kernel, by decide +kernel⟩, by decide +kernel, by decide⟩
theorem mok_X6_tune : MOK yX6_tune cX6_tune 3 none 2 := ⟨tw2_183, tw1_7, ⟨by decide +kernel, by decide +kernel, by decide +kernel⟩, by decide +kernel, by decide⟩
theorem mok_X7_alone : MOK yX7_alone cX7_alone 5 (some FieldType.int) 2 := ⟨tw4_47, tw1_1, ⟨by decide +kernel, by decide +kernel, by decide +kernel⟩, by decide +kernel, by decide⟩
theorem mok_X7_answered : MOK yX7_answered cX7_answered 2 (some FieldType.int) 1 := ⟨tw3_203, tw1_1, ⟨by decide +kernel, by decide +kernel, by decide +kernel⟩, by decide +kernel, by decide⟩
theorem mok_X7_asks : MOK yX7_asks cX7_asks 6 (some FieldType.int) 4 := ⟨tw2_165, tw1_1, ⟨by decide +kernel, by decide +kernel, by decide +kernel⟩, by decide +kernel, by decide⟩
theorem mok_X7_back : MOK yX7_back cX7_back 2 (some FieldType.int) 1 := ⟨tw4_160, tw1_1, ⟨by decide +kernel, by decide +kernel, by decide +kernel⟩, by decide +kernel, by decide⟩
theorem mok_X7_beats : MOK yX7_beats cX7_beats 2 (some FieldType.int) 1 := ⟨tw2_157, tw1_1, ⟨by decide +kernel, by decide +kernel, by decide +kernel⟩, by decide +kernel, by decide⟩
theorem mok_X7_chances : MOK yX7_chances cX7_chances 3 (some FieldType.long) 2 := ⟨tw4_78, tw1_1, ⟨by decide +kernel, by decide +kernel, by decide +kernel⟩, by decide +kernel, by decide⟩
theorem mok_X7_child : MOK yX7_child cX7_child 2 (some FieldType.int) 1 := ⟨tw2_113, tw1_1, ⟨by decide +kernel, by decide +kernel, by decide +kernel⟩, by decide +kernel, by decide⟩
theorem mok_X7_compare : MOK yX7_compare cX7_compare 3 (some FieldType.int) 2 := ⟨tw4_114, tw1_1, ⟨by decide +kernel, by decide +kernel, by decide +kernel⟩, by decide +kernel, by decide⟩
theorem mok_X7_count : MOK yX7_count cX7_count 2 (some FieldType.int) 1 := ⟨tw4_164, tw1_1, ⟨by decide +kernel, by decide +kernel, by decide +kernel⟩, by decide +kernel, by decide⟩
theorem mok_X7_drawn : MOK yX7_drawn cX7_drawn 3 (some FieldType.int) 2 := ⟨tw4_147, tw1_1, ⟨by decide +kernel, by decide +kernel, by decide +kernel⟩, by decide +kernel, by decide⟩
theorem mok_X7_end : MOK yX7_end cX7_end 2 (some FieldType.int) 1 := ⟨tw2_237, tw1_1, ⟨by decide +kernel, by decide +kernel, by decide +kernel⟩, by decide +kernel, by decide⟩
theorem mok_X7_falls : MOK yX7_falls cX7_falls 3 (some FieldType.int) 2 := ⟨tw3_227, tw1_1, ⟨by decide +kernel, by decide +kernel, by decide +kernel⟩, by decide +kernel, by decide⟩
theorem mok_X7_fault : MOK yX7_fault cX7_fault 1 (some FieldType.int) 0 := ⟨tw3_207, tw1_1, ⟨by decide +kernel, by decide +kernel, by decide +kernel⟩, by decide +kernel, by decide⟩
theorem mok_X7_feed : MOK yX7_feed cX7_feed 6 (some FieldType.int) 5 := ⟨tw2_225, tw1_1, ⟨by decide +kernel, by decide +kernel, by decide +kernel⟩, by decide +kernel, by decide⟩
theorem mok_X7_force : MOK yX7_force cX7_force 3 (some FieldType.int) 1 := ⟨tw3_215, tw1_1, ⟨by decide +kernel, by decide +kernel, by decide +kernel⟩, by decide +kernel, by decide⟩
theorem mok_X7_game : MOK yX7_game cX7_game 3 (some FieldType.int) 1 := ⟨tw4_64, tw1_1, ⟨by decide +kernel, by decide +kernel, by decide +kernel⟩, by decide +kernel, by decide⟩
theorem mok_X7_gatherFacts : MOK yX7_gatherFacts cX7_gatherFacts 5 none 2 := ⟨tw3_146, tw1_1, ⟨by decide +kernel, by decide +kernel, by decide +kernel⟩, by decide +kernel, by decide⟩
theorem mok_X7_image : MOK yX7_image cX7_image 2 (some FieldType.int) 1 := ⟨tw4_151, tw1_1, ⟨by decide +kernel, by decide +kernel, by decide +kernel⟩, by decide +kernel, by decide⟩
theorem mok_X7_init : MOK yX7_init cX7_init 1 none 0 := ⟨tw1_22, tw1_1, ⟨by decide +kernel, by decide +kernel, by decide +kernel⟩, by decide +kernel, by decide⟩
theorem mok_X7_join : MOK yX7_join cX7_join 2 (some FieldType.int) 1 := ⟨tw3_232, tw1_1, ⟨by decide +kernel, by decide +kernel, by decide +kernel⟩, by decide +kernel, by decide⟩
theorem mok_X7_law : MOK yX7_law cX7_law 1 (some FieldType.int) 0 := ⟨tw3_9, tw1_1, ⟨by decide +kernel, by decide +kernel, by decide +kernel⟩, by decide +kernel, by decide⟩
theorem mok_X7_leave : MOK yX7_leave cX7_leave 2 (some FieldType.int) 1 := ⟨tw3_236, tw1_1, ⟨by decide +kernel, by decide +kernel, by decide +kernel⟩, by decide +kernel, by decide⟩
theorem mok_X7_left : MOK yX7_left cX7_left 4 (some FieldType.int) 2 := ⟨tw4_13, tw1_1, ⟨by decide +kernel, by decide +kernel, by decide +kernel⟩, by decide +kernel, by decide⟩
theorem mok_X7_lisps : MOK yX7_lisps cX7_lisps 1 (some FieldType.int) 0 := ⟨tw3_5, tw1_1, ⟨by decide +kernel, by decide +kernel, by decide +kernel⟩, by decide +kernel, by decide⟩
theorem mok_X7_of : MOK yX7_of cX7_of 3 (some FieldType.int) 2 := ⟨tw2_145, tw1_1, ⟨by decide +kernel, by decide +kernel, by decide +kernel⟩, by decide +kernel, by decide⟩
theorem mok_X7_orders : MOK yX7_orders cX7_orders 1 (some FieldType.int) 0 := ⟨tw3_133, tw1_1, ⟨by decide +kernel, by decide +kernel, by decide +kernel⟩, by decide +kernel, by decide⟩
theorem mok_X7_pass : MOK yX7_pass cX7_pass 1 (some FieldType.int) 0 := ⟨tw4_0, tw1_1, ⟨by decide +kernel, by decide +kernel, by decide +kernel⟩, by decide +kernel, by decide⟩
theorem mok_X7_performMove : MOK yX7_performMove cX7_performMove 4 (some FieldType.int) 2 := ⟨tw3_191, tw1_1, ⟨by decide +kernel, by decide +kernel, by decide +kernel⟩, by decide +kernel, by decide⟩
theorem mok_X7_performRound : MOK yX7_performRound cX7_performRound 1 (some FieldType.int) 0 := ⟨tw3_195, tw1_1, ⟨by decide +kernel, by decide +kernel, by decide +kernel⟩, by decide +kernel, by decide⟩
theorem mok_X7_performSaying : MOK yX7_performSaying cX7_performSaying 3 (some FieldType.int) 1 := ⟨tw3_156, tw1_1, ⟨by decide +kernel, by decide +kernel, by decide +kernel⟩, by decide +kernel, by decide⟩
theorem mok_X7_quarters : MOK yX7_quarters cX7_quarters 3 (some FieldType.int) 2 := ⟨tw4_118, tw1_1, ⟨by decide +kernel, by decide +kernel, by decide +kernel⟩, by decide +kernel, by decide⟩
theorem mok_X7_refused : MOK yX7_refused cX7_refused 3 (some FieldType.int) 1 := ⟨tw2_117, tw1_1, ⟨by decide +kernel, by decide +kernel, by decide +kernel⟩, by decide +kernel, by decide⟩
theorem mok_X7_rhyme : MOK yX7_rhyme cX7_rhyme 2 (some FieldType.int) 1 := ⟨tw2_153, tw1_1, ⟨by decide +kernel, by decide +kernel, by decide +kernel⟩, by decide +kernel, by decide⟩
theorem mok_X7_ringChanged : MOK yX7_ringChanged cX7_ringChanged 1 none 0 := ⟨tw2_125, tw1_1, ⟨by decide +kernel, by decide +kernel, by decide +kernel⟩, by decide +kernel, by decide⟩
theorem mok_X7_row : MOK yX7_row cX7_row 5 (some FieldType.int) 0 := ⟨tw3_1, tw1_1, ⟨by decide +kernel, by decide +kernel, by decide +kernel⟩, by decide +kernel, by decide⟩
theorem mok_X7_runClause : MOK yX7_runClause cX7_runClause 4 (some FieldType.int) 2 := ⟨tw3_151, tw1_1, ⟨by decide +kernel, by decide +kernel, by decide +kernel⟩, by decide +kernel, by decide⟩
theorem mok_X7_runWhollyOrNot : MOK yX7_runWhollyOrNot cX7_runWhollyOrNot 11 (some FieldType.int) 1 := ⟨tw3_137, tw1_1, ⟨by decide +kernel, by decide +kernel, by decide +kernel⟩, by decide +kernel, by decide⟩
theorem mok_X7_safe : MOK yX7_safe cX7_safe 5 (some FieldType.int) 2 := ⟨tw4_43, tw1_1, ⟨by decide +kernel, by decide +kernel, by decide +kernel⟩, by decide +kernel, by decide⟩
theorem mok_X7_said : MOK yX7_said cX7_said 5 (some FieldType.int) 3 := ⟨tw4_97, tw1_1, ⟨by decide +kernel, by decide +kernel, by decide +kernel⟩, by decide +kernel, by decide⟩
theorem mok_X7_say : MOK yX7_say cX7_say 2 (some FieldType.int) 1 := ⟨tw3_223, tw1_1, ⟨by decide +kernel, by decide +kernel, by decide +kernel⟩, by decide +kernel, by decide⟩
theorem mok_X7_settled : MOK yX7_settled cX7_settled 2 (some FieldType.int) 1 := ⟨tw2_141, tw1_1, ⟨by decide +kernel, by decide +kernel, by decide +kernel⟩, by decide +kernel, by decide⟩
theorem mok_X7_status : MOK yX7_status cX7_status 1 (some FieldType.int) 0 := ⟨tw4_168, tw1_1, ⟨by decide +kernel, by decide +kernel, by decide +kernel⟩, by decide +kernel, by decide⟩
theorem mok_X7_stopped : MOK yX7_stopped cX7_stopped 1 (some FieldType.int) 0 := ⟨tw3_211, tw1_1, ⟨by decide +kernel, by decide +kernel, by decide +kernel⟩, by decide +kernel, by decide⟩
theorem mok_X7_terms : MOK yX7_terms cX7_terms 4 (some FieldType.int) 2 := ⟨tw2_219, tw1_1, ⟨by decide +kernel, by decide +kernel, by decide +kernel⟩, by decide +kernel, by decide⟩
theorem mok_X7_tuneVoice : MOK yX7_tuneVoice cX7_tuneVoice 1 none 0 := ⟨tw2_175, tw1_1, ⟨by decide +kernel, by decide +kernel, by decide +kernel⟩, by decide +kernel, by decide⟩
theorem mok_X7_undo : MOK yX7_undo cX7_undo 2 (some FieldType.int) 0 := ⟨tw4_4, tw1_1, ⟨by decide +kernel, by decide +kernel, by decide +kernel⟩, by decide +kernel, by decide⟩
theorem mok_X8_addsChild : MOK yX8_addsChild cX8_addsChild 3 none 1 := ⟨tw5_144, tw1_10, ⟨by decide +kernel, by decide +kernel, by decide +kernel⟩, by decide +kernel, by decide⟩
theorem mok_X8_allChildren : MOK yX8_allChildren cX8_allChildren 1 (some FieldType.int) 0 := ⟨tw6_221, tw1_10, ⟨by decide +kernel, by decide +kernel, by decide +kernel⟩, by decide +kernel, by decide⟩
theorem mok_X8_alone : MOK yX8_alone cX8_alone 5 (some FieldType.int) 2 := ⟨tw7_16, tw1_10, ⟨by decide +kernel, by decide +kernel, by decide +kernel⟩, by decide +kernel, by decide⟩
theorem mok_X8_aloneNow : MOK yX8_aloneNow cX8_aloneNow 1 (some FieldType.int) 0 := ⟨tw6_237, tw1_10, ⟨by decide +kernel, by decide +kernel, by decide +kernel⟩, by decide +kernel, by decide⟩
theorem mok_X8_asks : MOK yX8_asks cX8_asks 5 (some FieldType.int) 4 := ⟨tw6_60, tw1_10, ⟨by decide +kernel, by decide +kernel, by decide +kernel⟩, by decide +kernel, by decide⟩
theorem mok_X8_back : MOK yX8_back cX8_back 3 (some FieldType.int) 1 := ⟨tw5_132, tw1_10, ⟨by decide +kernel, by decide +kernel, by decide +kernel⟩, by decide +kernel, by decide⟩
theorem mok_X8_beats : MOK yX8_beats cX8_beats 2 (some FieldType.int) 1 := ⟨tw5_160, tw1_10, ⟨by decide +kernel, by decide +kernel, by decide +kernel⟩, by decide +kernel, by decide⟩
theorem mok_X8_beatsOf : MOK yX8_beatsOf cX8_beatsOf 4 (some FieldType.int) 3 := ⟨tw6_71, tw1_10, ⟨by decide +kernel, by decide +kernel, by decide +kernel⟩, by decide +kernel, by decide⟩
theorem mok_X8_beginner : MOK yX8_beginner cX8_beginner 2 (some FieldType.int) 0 := ⟨tw6_147, tw1_10, ⟨by decide +kernel, by decide +kernel, by decide +kernel⟩, by decide +kernel, by decide⟩
theorem mok_X8_bothOf : MOK yX8_bothOf cX8_bothOf 4 (some FieldType.boolean) 1 := ⟨tw6_118, tw1_10, ⟨by decide +kernel, by decide +kernel, by decide +kernel⟩, by decide +kernel, by decide⟩
theorem mok_X8_bounded : MOK yX8_bounded cX8_bounded 4 (some FieldType.long) 2 := ⟨tw6_108, tw1_10, ⟨by decide +kernel, by decide +kernel, by decide +kernel⟩, by decide +kernel, by decide⟩
theorem mok_X8_canGoOn : MOK yX8_canGoOn cX8_canGoOn 1 (some FieldType.boolean) 0 := ⟨tw7_137, tw1_10, ⟨by decide +kernel, by decide +kernel, by decide +kernel⟩, by decide +kernel, by decide⟩
theorem mok_X8_canSay : MOK yX8_canSay cX8_canSay 1 (some FieldType.boolean) 0 := ⟨tw6_139, tw1_10, ⟨by decide +kernel, by decide +kernel, by decide +kernel⟩, by decide +kernel, by decide⟩
theorem mok_X8_chances : MOK yX8_chances cX8_chances 4 (some FieldType.long) 2 := ⟨tw7_67, tw1_10, ⟨by decide +kernel, by decide +kernel, by decide +kernel⟩, by decide +kernel, by decide⟩
theorem mok_X8_child : MOK yX8_child cX8_child 2 (some FieldType.int) 1 := ⟨tw5_140, tw1_10, ⟨by decide +kernel, by decide +kernel, by decide +kernel⟩, by decide +kernel, by decide⟩
theorem mok_X8_choiceAt : MOK yX8_choiceAt cX8_choiceAt 5 (some FieldType.int) 2 := ⟨tw7_63, tw1_10, ⟨by decide +kernel, by decide +kernel, by decide +kernel⟩, by decide +kernel, by decide⟩
theorem mok_X8_codeAt : MOK yX8_codeAt cX8_codeAt 2 (some FieldType.int) 1 := ⟨tw6_83, tw1_10, ⟨by decide +kernel, by decide +kernel, by decide +kernel⟩, by decide +kernel, by decide⟩
theorem mok_X8_compare : MOK yX8_compare cX8_compare 5 (some FieldType.int) 2 := ⟨tw7_12, tw1_10, ⟨by decide +kernel, by decide +kernel, by decide +kernel⟩, by decide +kernel, by decide⟩
theorem mok_X8_count : MOK yX8_count cX8_count 2 (some FieldType.int) 1 := ⟨tw7_156, tw1_10, ⟨by decide +kernel, by decide +kernel, by decide +kernel⟩, by decide +kernel, by decide⟩
theorem mok_X8_counts : MOK yX8_counts cX8_counts 8 (some FieldType.int) 2 := ⟨tw6_143, tw1_10, ⟨by decide +kernel, by decide +kernel, by decide +kernel⟩, by decide +kernel, by decide⟩
theorem mok_X8_drawn : MOK yX8_drawn cX8_drawn 3 (some FieldType.int) 2 := ⟨tw7_152, tw1_10, ⟨by decide +kernel, by decide +kernel, by decide +kernel⟩, by decide +kernel, by decide⟩
theorem mok_X8_draws : MOK yX8_draws cX8_draws 2 (some FieldType.int) 1 := ⟨tw7_145, tw1_10, ⟨by decide +kernel, by decide +kernel, by decide +kernel⟩, by decide +kernel, by decide⟩
theorem mok_X8_end : MOK yX8_end cX8_end 2 (some FieldType.int) 1 := ⟨tw5_190, tw1_10, ⟨by decide +kernel, by decide +kernel, by decide +kernel⟩, by decide +kernel, by decide⟩
theorem mok_X8_endOf : MOK yX8_endOf cX8_endOf 4 (some FieldType.int) 1 := ⟨tw7_97, tw1_10, ⟨by decide +kernel, by decide +kernel, by decide +kernel⟩, by decide +kernel, by decide⟩
theorem mok_X8_falls : MOK yX8_falls cX8_falls 4 (some FieldType.int) 2 := ⟨tw6_135, tw1_10, ⟨by decide +kernel, by decide +kernel, by decide +kernel⟩, by decide +kernel, by decide⟩
theorem mok_X8_fault : MOK yX8_fault cX8_fault 1 (some FieldType.int) 0 := ⟨tw6_48, tw1_10, ⟨by decide +kernel, by decide +kernel, by decide +kernel⟩, by decide +kernel, by decide⟩
theorem mok_X8_faults : MOK yX8_faults cX8_faults 1 none 0 := ⟨tw6_12, tw1_10, ⟨by decide +kernel, by decide +kernel, by decide +kernel⟩, by decide +kernel, by decide⟩
theorem mok_X8_feed : MOK yX8_feed cX8_feed 7 (some FieldType.int) 5 := ⟨tw5_186, tw1_10, ⟨by decide +kernel, by decide +kernel, by decide +kernel⟩, by decide +kernel, by decide⟩
theorem mok_X8_fine : MOK yX8_fine cX8_fine 1 (some FieldType.boolean) 0 := ⟨tw5_233, tw1_10, ⟨by decide +kernel, by decide +kernel, by decide +kernel⟩, by decide +kernel, by decide⟩
theorem mok_X8_firstOf : MOK yX8_firstOf cX8_firstOf 2 (some FieldType.int) 1 := ⟨tw7_0, tw1_10, ⟨by decide +kernel, by decide +kernel, by decide +kernel⟩, by decide +kernel, by decide⟩
theorem mok_X8_force : MOK yX8_force cX8_force 3 (some FieldType.int) 1 := ⟨tw6_52, tw1_10, ⟨by decide +kernel, by decide +kernel, by decide +kernel⟩, by decide +kernel, by decide⟩
theorem mok_X8_forgetsEldest : MOK yX8_forgetsEldest cX8_forgetsEldest 3 none 0 := ⟨tw6_181, tw1_10, ⟨by decide +kernel, by decide +kernel, by decide +kernel⟩, by decide +kernel, by decide⟩
theorem mok_X8_game : MOK yX8_game cX8_game 4 (some FieldType.int) 1 := ⟨tw7_47, tw1_10, ⟨by decide +kernel, by decide +kernel, by decide +kernel⟩, by decide +kernel, by decide⟩
theorem mok_X8_goesAlong : MOK yX8_goesAlong cX8_goesAlong 3 none 2 := ⟨tw7_117, tw1_10, ⟨by decide +kernel, by decide +kernel, by decide +kernel⟩, by decide +kernel, by decide⟩
theorem mok_X8_good : MOK yX8_good cX8_good 2 (some FieldType.int) 1 := ⟨tw5_128, tw1_10, ⟨by decide +kernel, by decide +kernel, by decide +kernel⟩, by decide +kernel, by decide⟩
theorem mok_X8_goodOr : MOK yX8_goodOr cX8_goodOr 2 (some FieldType.int) 1 := ⟨tw6_189, tw1_10, ⟨by decide +kernel, by decide +kernel, by decide +kernel⟩, by decide +kernel, by decide⟩
theorem mok_X8_greater : MOK yX8_greater cX8_greater 2 (some FieldType.int) 2 := ⟨tw6_157, tw1_10, ⟨by decide +kernel, by decide +kernel, by decide +kernel⟩, by decide +kernel, by decide⟩
theorem mok_X8_image : MOK yX8_image cX8_image 3 (some FieldType.int) 1 := ⟨tw5_117, tw1_10, ⟨by decide +kernel, by decide +kernel, by decide +kernel⟩, by decide +kernel, by decide⟩
theorem mok_X8_init : MOK yX8_init cX8_init 1 none 0 := ⟨tw4_173, tw1_10, ⟨by decide +kernel, by decide +kernel, by decide +kernel⟩, by decide +kernel, by decide⟩
theorem mok_X8_inside : MOK yX8_inside cX8_inside 1 (some FieldType.int) 0 := ⟨tw6_64, tw1_10, ⟨by decide +kernel, by decide +kernel, by decide +kernel⟩, by decide +kernel, by decide⟩
theorem mok_X8_insideOf : MOK yX8_insideOf cX8_insideOf 1 (some FieldType.int) 1 := ⟨tw7_27, tw1_10, ⟨by decide +kernel, by decide +kernel, by decide +kernel⟩, by decide +kernel, by decide⟩
theorem mok_X8_isChild : MOK yX8_isChild cX8_isChild 2 (some FieldType.boolean) 1 := ⟨tw5_152, tw1_10, ⟨by decide +kernel, by decide +kernel, by decide +kernel⟩, by decide +kernel, by decide⟩
theorem mok_X8_isDigit : MOK yX8_isDigit cX8_isDigit 1 (some FieldType.boolean) 1 := ⟨tw5_212, tw1_10, ⟨by decide +kernel, by decide +kernel, by decide +kernel⟩, by decide +kernel, by decide⟩
theorem mok_X8_isIn : MOK yX8_isIn cX8_isIn 2 (some FieldType.boolean) 2 := ⟨tw6_150, tw1_10, ⟨by decide +kernel, by decide +kernel, by decide +kernel⟩, by decide +kernel, by decide⟩
theorem mok_X8_isLaw : MOK yX8_isLaw cX8_isLaw 2 (some FieldType.boolean) 1 := ⟨tw6_56, tw1_10, ⟨by decide +kernel, by decide +kernel, by decide +kernel⟩, by decide +kernel, by decide⟩
theorem mok_X8_isRhyme : MOK yX8_isRhyme cX8_isRhyme 2 (some FieldType.boolean) 1 := ⟨tw5_164, tw1_10, ⟨by decide +kernel, by decide +kernel, by decide +kernel⟩, by decide +kernel, by decide⟩
theorem mok_X8_isSmall : MOK yX8_isSmall cX8_isSmall 1 (some FieldType.boolean) 1 := ⟨tw5_209, tw1_10, ⟨by decide +kernel, by decide +kernel, by decide +kernel⟩, by decide +kernel, by decide⟩
theorem mok_X8_isSo : MOK yX8_isSo cX8_isSo 6 (some FieldType.boolean) 5 := ⟨tw6_131, tw1_10, ⟨by decide +kernel, by decide +kernel, by decide +kernel⟩, by decide +kernel, by decide⟩
theorem mok_X8_isState : MOK yX8_isState cX8_isState 2 (some FieldType.boolean) 1 := ⟨tw7_24, tw1_10, ⟨by decide +kernel, by decide +kernel, by decide +kernel⟩, by decide +kernel, by decide⟩
theorem mok_X8_isTerm : MOK yX8_isTerm cX8_isTerm 2 (some FieldType.boolean) 2 := ⟨tw5_171, tw1_10, ⟨by decide +kernel, by decide +kernel, by decide +kernel⟩, by decide +kernel, by decide⟩
theorem mok_X8_itAt : MOK yX8_itAt cX8_itAt 4 (some FieldType.int) 2 := ⟨tw7_59, tw1_10, ⟨by decide +kernel, by decide +kernel, by decide +kernel⟩, by decide +kernel, by decide⟩
theorem mok_X8_join : MOK yX8_join cX8_join 2 (some FieldType.int) 1 := ⟨tw6_193, tw1_10, ⟨by decide +kernel, by decide +kernel, by decide +kernel⟩, by decide +kernel, by decide⟩
theorem mok_X8_joinsKept : MOK yX8_joinsKept cX8_joinsKept 2 (some FieldType.int) 1 := ⟨tw6_197, tw1_10, ⟨by decide +kernel, by decide +kernel, by decide +kernel⟩, by decide +kernel, by decide⟩
theorem mok_X8_keepsAll : MOK yX8_keepsAll cX8_keepsAll 4 none 1 := ⟨tw6_177, tw1_10, ⟨by decide +kernel, by decide +kernel, by decide +kernel⟩, by decide +kernel, by decide⟩
theorem mok_X8_law : MOK yX8_law cX8_law 1 (some FieldType.int) 0 := ⟨tw5_194, tw1_10, ⟨by decide +kernel, by decide +kernel, by decide +kernel⟩, by decide +kernel, by decide⟩
theorem mok_X8_lays : MOK yX8_lays cX8_lays 3 none 1 := ⟨tw6_44, tw1_10, ⟨by decide +kernel, by decide +kernel, by decide +kernel⟩, by decide +kernel, by decide⟩
theorem mok_X8_laysAllAside : MOK yX8_laysAllAside cX8_laysAllAside 2 none 0 := ⟨tw7_109, tw1_10, ⟨by decide +kernel, by decide +kernel, by decide +kernel⟩, by decide +kernel, by decide⟩
theorem mok_X8_laysAside : MOK yX8_laysAside cX8_laysAside 3 none 1 := ⟨tw6_233, tw1_10, ⟨by decide +kernel, by decide +kernel, by decide +kernel⟩, by decide +kernel, by decide⟩
theorem mok_X8_laysEnd : MOK yX8_laysEnd cX8_laysEnd 3 none 0 := ⟨tw7_51, tw1_10, ⟨by decide +kernel, by decide +kernel, by decide +kernel⟩, by decide +kernel, by decide⟩
theorem mok_X8_laysIts : MOK yX8_laysIts cX8_laysIts 3 none 1 := ⟨tw7_55, tw1_10, ⟨by decide +kernel, by decide +kernel, by decide +kernel⟩, by decide +kernel, by decide⟩
theorem mok_X8_laysLeads : MOK yX8_laysLeads cX8_laysLeads 3 none 0 := ⟨tw7_20, tw1_10, ⟨by decide +kernel, by decide +kernel, by decide +kernel⟩, by decide +kernel, by decide⟩
theorem mok_X8_laysRow : MOK yX8_laysRow cX8_laysRow 5 none 2 := ⟨tw7_93, tw1_10, ⟨by decide +kernel, by decide +kernel, by decide +kernel⟩, by decide +kernel, by decide⟩
theorem mok_X8_leaf : MOK yX8_leaf cX8_leaf 1 none 0 := ⟨tw6_20, tw1_10, ⟨by decide +kernel, by decide +kernel, by decide +kernel⟩, by decide +kernel, by decide⟩
theorem mok_X8_leave : MOK yX8_leave cX8_leave 2 (some FieldType.int) 1 := ⟨tw6_201, tw1_10, ⟨by decide +kernel, by decide +kernel, by decide +kernel⟩, by decide +kernel, by decide⟩
theorem mok_X8_leavesKept : MOK yX8_leavesKept cX8_leavesKept 2 (some FieldType.int) 1 := ⟨tw6_205, tw1_10, ⟨by decide +kernel, by decide +kernel, by decide +kernel⟩, by decide +kernel, by decide⟩
theorem mok_X8_left : MOK yX8_left cX8_left 4 (some FieldType.int) 2 := ⟨tw6_225, tw1_10, ⟨by decide +kernel, by decide +kernel, by decide +kernel⟩, by decide +kernel, by decide⟩
theorem mok_X8_leftBy : MOK yX8_leftBy cX8_leftBy 4 (some FieldType.int) 1 := ⟨tw6_229, tw1_10, ⟨by decide +kernel, by decide +kernel, by decide +kernel⟩, by decide +kernel, by decide⟩
theorem mok_X8_lies : MOK yX8_lies cX8_lies 3 (some FieldType.boolean) 3 := ⟨tw5_120, tw1_10, ⟨by decide +kernel, by decide +kernel, by decide +kernel⟩, by decide +kernel, by decide⟩
theorem mok_X8_lisps : MOK yX8_lisps cX8_lisps 1 (some FieldType.int) 0 := ⟨tw5_182, tw1_10, ⟨by decide +kernel, by decide +kernel, by decide +kernel⟩, by decide +kernel, by decide⟩
theorem mok_X8_must : MOK yX8_must cX8_must 2 none 1 := ⟨tw6_16, tw1_10, ⟨by decide +kernel, by decide +kernel, by decide +kernel⟩, by decide +kernel, by decide⟩
theorem mok_X8_mustNumber : MOK yX8_mustNumber cX8_mustNumber 3 none 2 := ⟨tw6_24, tw1_10, ⟨by decide +kernel, by decide +kernel, by decide +kernel⟩, by decide +kernel, by decide⟩
theorem mok_X8_nextIn : MOK yX8_nextIn cX8_nextIn 5 (some FieldType.int) 2 := ⟨tw6_154, tw1_10, ⟨by decide +kernel, by decide +kernel, by decide +kernel⟩, by decide +kernel, by decide⟩
theorem mok_X8_obeys : MOK yX8_obeys cX8_obeys 2 (some FieldType.int) 0 := ⟨tw7_121, tw1_10, ⟨by decide +kernel, by decide +kernel, by decide +kernel⟩, by decide +kernel, by decide⟩
theorem mok_X8_of : MOK yX8_of cX8_of 3 (some FieldType.int) 2 := ⟨tw5_148, tw1_10, ⟨by decide +kernel, by decide +kernel, by decide +kernel⟩, by decide +kernel, by decide⟩
theorem mok_X8_ones : MOK yX8_ones cX8_ones 3 (some FieldType.int) 1 := ⟨tw6_67, tw1_10, ⟨by decide +kernel, by decide +kernel, by decide +kernel⟩, by decide +kernel, by decide⟩
theorem mok_X8_orderValue : MOK yX8_orderValue cX8_orderValue 3 (some FieldType.int) 2 := ⟨tw6_103, tw1_10, ⟨by decide +kernel, by decide +kernel, by decide +kernel⟩, by decide +kernel, by decide⟩
theorem mok_X8_orders : MOK yX8_orders cX8_orders 3 (some FieldType.int) 0 := ⟨tw7_105, tw1_10, ⟨by decide +kernel, by decide +kernel, by decide +kernel⟩, by decide +kernel, by decide⟩
theorem mok_X8_partOf : MOK yX8_partOf cX8_partOf 4 (some FieldType.long) 1 := ⟨tw6_95, tw1_10, ⟨by decide +kernel, by decide +kernel, by decide +kernel⟩, by decide +kernel, by decide⟩
theorem mok_X8_partsOf : MOK yX8_partsOf cX8_partsOf 6 (some FieldType.long) 2 := ⟨tw7_81, tw1_10, ⟨by decide +kernel, by decide +kernel, by decide +kernel⟩, by decide +kernel, by decide⟩
theorem mok_X8_pass : MOK yX8_pass cX8_pass 1 (some FieldType.int) 0 := ⟨tw6_209, tw1_10, ⟨by decide +kernel, by decide +kernel, by decide +kernel⟩, by decide +kernel, by decide⟩
theorem mok_X8_passedOn : MOK yX8_passedOn cX8_passedOn 8 (some FieldType.int) 5 := ⟨tw6_161, tw1_10, ⟨by decide +kernel, by decide +kernel, by decide +kernel⟩, by decide +kernel, by decide⟩
theorem mok_X8_passes0 : MOK yX8_passes0 cX8_passes0 3 (some FieldType.boolean) 1 := ⟨tw6_99, tw1_10, ⟨by decide +kernel, by decide +kernel, by decide +kernel⟩, by decide +kernel, by decide⟩
theorem mok_X8_passesKept : MOK yX8_passesKept cX8_passesKept 1 (some FieldType.int) 0 := ⟨tw6_213, tw1_10, ⟨by decide +kernel, by decide +kernel, by decide +kernel⟩, by decide +kernel, by decide⟩
theorem mok_X8_plainOf : MOK yX8_plainOf cX8_plainOf 3 (some FieldType.boolean) 1 := ⟨tw6_122, tw1_10, ⟨by decide +kernel, by decide +kernel, by decide +kernel⟩, by decide +kernel, by decide⟩
theorem mok_X8_positiveOf : MOK yX8_positiveOf cX8_positiveOf 7 (some FieldType.boolean) 1 := ⟨tw6_126, tw1_10, ⟨by decide +kernel, by decide +kernel, by decide +kernel⟩, by decide +kernel, by decide⟩
theorem mok_X8_quarters : MOK yX8_quarters cX8_quarters 4 (some FieldType.int) 2 := ⟨tw7_133, tw1_10, ⟨by decide +kernel, by decide +kernel, by decide +kernel⟩, by decide +kernel, by decide⟩
theorem mok_X8_reaches : MOK yX8_reaches cX8_reaches 4 none 3 := ⟨tw7_43, tw1_10, ⟨by decide +kernel, by decide +kernel, by decide +kernel⟩, by decide +kernel, by decide⟩
theorem mok_X8_reachesAlone : MOK yX8_reachesAlone cX8_reachesAlone 5 (some FieldType.int) 1 := ⟨tw7_39, tw1_10, ⟨by decide +kernel, by decide +kernel, by decide +kernel⟩, by decide +kernel, by decide⟩
theorem mok_X8_readBoth : MOK yX8_readBoth cX8_readBoth 2 none 1 := ⟨tw6_32, tw1_10, ⟨by decide +kernel, by decide +kernel, by decide +kernel⟩, by decide +kernel, by decide⟩
theorem mok_X8_readClause : MOK yX8_readClause cX8_readClause 1 none 0 := ⟨tw6_40, tw1_10, ⟨by decide +kernel, by decide +kernel, by decide +kernel⟩, by decide +kernel, by decide⟩
theorem mok_X8_readOne : MOK yX8_readOne cX8_readOne 1 none 0 := ⟨tw5_221, tw1_10, ⟨by decide +kernel, by decide +kernel, by decide +kernel⟩, by decide +kernel, by decide⟩
theorem mok_X8_readOrder : MOK yX8_readOrder cX8_readOrder 1 none 0 := ⟨tw5_225, tw1_10, ⟨by decide +kernel, by decide +kernel, by decide +kernel⟩, by decide +kernel, by decide⟩
theorem mok_X8_readPart : MOK yX8_readPart cX8_readPart 3 none 1 := ⟨tw6_5, tw1_10, ⟨by decide +kernel, by decide +kernel, by decide +kernel⟩, by decide +kernel, by decide⟩
theorem mok_X8_readPlain : MOK yX8_readPlain cX8_readPlain 4 none 1 := ⟨tw6_36, tw1_10, ⟨by decide +kernel, by decide +kernel, by decide +kernel⟩, by decide +kernel, by decide⟩
theorem mok_X8_readSum : MOK yX8_readSum cX8_readSum 2 none 1 := ⟨tw5_237, tw1_10, ⟨by decide +kernel, by decide +kernel, by decide +kernel⟩, by decide +kernel, by decide⟩
theorem mok_X8_readTerm : MOK yX8_readTerm cX8_readTerm 2 none 1 := ⟨tw6_1, tw1_10, ⟨by decide +kernel, by decide +kernel, by decide +kernel⟩, by decide +kernel, by decide⟩
theorem mok_X8_readTest : MOK yX8_readTest cX8_readTest 2 none 1 := ⟨tw6_28, tw1_10, ⟨by decide +kernel, by decide +kernel, by decide +kernel⟩, by decide +kernel, by decide⟩
theorem mok_X8_reads : MOK yX8_reads cX8_reads 2 (some FieldType.boolean) 0 := ⟨tw5_202, tw1_10, ⟨by decide +kernel, by decide +kernel, by decide +kernel⟩, by decide +kernel, by decide⟩
theorem mok_X8_readsAs : MOK yX8_readsAs cX8_readsAs 2 (some FieldType.boolean) 1 := ⟨tw5_198, tw1_10, ⟨by decide +kernel, by decide +kernel, by decide +kernel⟩, by decide +kernel, by decide⟩
theorem mok_X8_refuses : MOK yX8_refuses cX8_refuses 2 (some FieldType.int) 1 := ⟨tw5_124, tw1_10, ⟨by decide +kernel, by decide +kernel, by decide +kernel⟩, by decide +kernel, by decide⟩
theorem mok_X8_rhyme : MOK yX8_rhyme cX8_rhyme 3 (some FieldType.int) 1 := ⟨tw5_156, tw1_10, ⟨by decide +kernel, by decide +kernel, by decide +kernel⟩, by decide +kernel, by decide⟩
theorem mok_X8_roundPasses : MOK yX8_roundPasses cX8_roundPasses 1 none 0 := ⟨tw6_217, tw1_10, ⟨by decide +kernel, by decide +kernel, by decide +kernel⟩, by decide +kernel, by decide⟩
theorem mok_X8_row : MOK yX8_row cX8_row 5 (some FieldType.int) 0 := ⟨tw5_178, tw1_10, ⟨by decide +kernel, by decide +kernel, by decide +kernel⟩, by decide +kernel, by decide⟩
theorem mok_X8_rowsOf : MOK yX8_rowsOf cX8_rowsOf 4 (some FieldType.int) 1 := ⟨tw7_89, tw1_10, ⟨by decide +kernel, by decide +kernel, by decide +kernel⟩, by decide +kernel, by decide⟩
theorem mok_X8_runs : MOK yX8_runs cX8_runs 5 (some FieldType.boolean) 1 := ⟨tw7_113, tw1_10, ⟨by decide +kernel, by decide +kernel, by decide +kernel⟩, by decide +kernel, by decide⟩
theorem mok_X8_safe : MOK yX8_safe cX8_safe 6 (some FieldType.int) 2 := ⟨tw7_8, tw1_10, ⟨by decide +kernel, by decide +kernel, by decide +kernel⟩, by decide +kernel, by decide⟩
theorem mok_X8_said : MOK yX8_said cX8_said 6 (some FieldType.int) 3 := ⟨tw7_85, tw1_10, ⟨by decide +kernel, by decide +kernel, by decide +kernel⟩, by decide +kernel, by decide⟩
theorem mok_X8_say : MOK yX8_say cX8_say 2 (some FieldType.int) 1 := ⟨tw6_169, tw1_10, ⟨by decide +kernel, by decide +kernel, by decide +kernel⟩, by decide +kernel, by decide⟩
theorem mok_X8_says : MOK yX8_says cX8_says 6 (some FieldType.int) 2 := ⟨tw6_185, tw1_10, ⟨by decide +kernel, by decide +kernel, by decide +kernel⟩, by decide +kernel, by decide⟩
theorem mok_X8_saysDrawn : MOK yX8_saysDrawn cX8_saysDrawn 3 none 0 := ⟨tw7_141, tw1_10, ⟨by decide +kernel, by decide +kernel, by decide +kernel⟩, by decide +kernel, by decide⟩
theorem mok_X8_saysKept : MOK yX8_saysKept cX8_saysKept 2 (some FieldType.int) 1 := ⟨tw6_173, tw1_10, ⟨by decide +kernel, by decide +kernel, by decide +kernel⟩, by decide +kernel, by decide⟩
theorem mok_X8_setsAsked : MOK yX8_setsAsked cX8_setsAsked 5 none 4 := ⟨tw6_79, tw1_10, ⟨by decide +kernel, by decide +kernel, by decide +kernel⟩, by decide +kernel, by decide⟩
theorem mok_X8_setsState : MOK yX8_setsState cX8_setsState 2 none 1 := ⟨tw7_31, tw1_10, ⟨by decide +kernel, by decide +kernel, by decide +kernel⟩, by decide +kernel, by decide⟩
theorem mok_X8_settled : MOK yX8_settled cX8_settled 2 (some FieldType.int) 1 := ⟨tw5_136, tw1_10, ⟨by decide +kernel, by decide +kernel, by decide +kernel⟩, by decide +kernel, by decide⟩
theorem mok_X8_sign : MOK yX8_sign cX8_sign 1 (some FieldType.int) 1 := ⟨tw6_8, tw1_10, ⟨by decide +kernel, by decide +kernel, by decide +kernel⟩, by decide +kernel, by decide⟩
theorem mok_X8_small : MOK yX8_small cX8_small 2 (some FieldType.int) 1 := ⟨tw7_124, tw1_10, ⟨by decide +kernel, by decide +kernel, by decide +kernel⟩, by decide +kernel, by decide⟩
theorem mok_X8_splits : MOK yX8_splits cX8_splits 6 none 1 := ⟨tw5_206, tw1_10, ⟨by decide +kernel, by decide +kernel, by decide +kernel⟩, by decide +kernel, by decide⟩
theorem mok_X8_spreads : MOK yX8_spreads cX8_spreads 4 none 1 := ⟨tw7_73, tw1_10, ⟨by decide +kernel, by decide +kernel, by decide +kernel⟩, by decide +kernel, by decide⟩
theorem mok_X8_spreadsPart : MOK yX8_spreadsPart cX8_spreadsPart 6 none 3 := ⟨tw7_77, tw1_10, ⟨by decide +kernel, by decide +kernel, by decide +kernel⟩, by decide +kernel, by decide⟩
theorem mok_X8_stateNow : MOK yX8_stateNow cX8_stateNow 1 (some FieldType.int) 0 := ⟨tw7_35, tw1_10, ⟨by decide +kernel, by decide +kernel, by decide +kernel⟩, by decide +kernel, by decide⟩
theorem mok_X8_status : MOK yX8_status cX8_status 1 (some FieldType.int) 0 := ⟨tw7_160, tw1_10, ⟨by decide +kernel, by decide +kernel, by decide +kernel⟩, by decide +kernel, by decide⟩
theorem mok_X8_stopped : MOK yX8_stopped cX8_stopped 1 (some FieldType.int) 0 := ⟨tw7_101, tw1_10, ⟨by decide +kernel, by decide +kernel, by decide +kernel⟩, by decide +kernel, by decide⟩
theorem mok_X8_sumOf : MOK yX8_sumOf cX8_sumOf 7 (some FieldType.long) 1 := ⟨tw6_87, tw1_10, ⟨by decide +kernel, by decide +kernel, by decide +kernel⟩, by decide +kernel, by decide⟩
theorem mok_X8_takes0 : MOK yX8_takes0 cX8_takes0 3 (some FieldType.boolean) 1 := ⟨tw5_229, tw1_10, ⟨by decide +kernel, by decide +kernel, by decide +kernel⟩, by decide +kernel, by decide⟩
theorem mok_X8_takesAllBack : MOK yX8_takesAllBack cX8_takesAllBack 2 none 0 := ⟨tw7_129, tw1_10, ⟨by decide +kernel, by decide +kernel, by decide +kernel⟩, by decide +kernel, by decide⟩
theorem mok_X8_takesBack : MOK yX8_takesBack cX8_takesBack 3 none 1 := ⟨tw7_4, tw1_10, ⟨by decide +kernel, by decide +kernel, by decide +kernel⟩, by decide +kernel, by decide⟩
theorem mok_X8_tells : MOK yX8_tells cX8_tells 14 (some FieldType.int) 6 := ⟨tw6_75, tw1_10, ⟨by decide +kernel, by decide +kernel, by decide +kernel⟩, by decide +kernel, by decide⟩
theorem mok_X8_termAt : MOK yX8_termAt cX8_termAt 1 (some FieldType.int) 1 := ⟨tw5_174, tw1_10, ⟨by decide +kernel, by decide +kernel, by decide +kernel⟩, by decide +kernel, by decide⟩
theorem mok_X8_termOf : MOK yX8_termOf cX8_termOf 7 (some FieldType.long) 1 := ⟨tw6_91, tw1_10, ⟨by decide +kernel, by decide +kernel, by decide +kernel⟩, by decide +kernel, by decide⟩
theorem mok_X8_terms : MOK yX8_terms cX8_terms 4 (some FieldType.int) 2 := ⟨tw5_168, tw1_10, ⟨by decide +kernel, by decide +kernel, by decide +kernel⟩, by decide +kernel, by decide⟩
theorem mok_X8_testOf : MOK yX8_testOf cX8_testOf 4 (some FieldType.boolean) 1 := ⟨tw6_114, tw1_10, ⟨by decide +kernel, by decide +kernel, by decide +kernel⟩, by decide +kernel, by decide⟩
theorem mok_X8_undo : MOK yX8_undo cX8_undo 3 (some FieldType.int) 0 := ⟨tw6_165, tw1_10, ⟨by decide +kernel, by decide +kernel, by decide +kernel⟩, by decide +kernel, by decide⟩
theorem mok_X8_wordOf : MOK yX8_wordOf cX8_wordOf 8 (some FieldType.int) 2 := ⟨tw5_216, tw1_10, ⟨by decide +kernel, by decide +kernel, by decide +kernel⟩, by decide +kernel, by decide⟩
