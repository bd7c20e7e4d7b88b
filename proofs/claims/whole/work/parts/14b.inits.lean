theorem sR_pR_eq {st : St} {a j : Nat} {r : Option Nat} : sR (pR st a j r) a j = r := by
  show up2 st.1.2.2.1 a j r a j = r
  rw [up2_eq]; simp [va_up]
def iX2_init (t : Nat) (st : St) : St :=
  pI (pR (alc st 10 16) t 0 (some (sn st))) t 1 (0 : Int32)
theorem iX2_init_ob {t k2 a : Nat}  {st : St} (h : Obj st k2 a) : Obj (iX2_init t  st) k2 a := (alc_ob (st := st) (k := 10) (n := 16) h)
theorem iX2_init_ar {t k2 n2 a : Nat}  {st : St} (h : Arr st k2 n2 a) : Arr (iX2_init t  st) k2 n2 a := (alc_ar (st := st) (k := 10) (n := 16) h)
set_option maxHeartbeats 4000000 in
set_option maxRecDepth 100000 in
theorem kX2_init {l : Launch} {E : Ev} {st : St} {t : Nat}  (h_t : Obj st 2 t) : CM l E Wn yX2_init cX2_init 1 none 1 1 (16) [.ref (eB E + t)] st none (iX2_init t  st) :=
  CM.intro mok_X2_init (Nat.le_of_ble_eq_true rfl) (fun x hl hR ht hr hQ hnm => by
    refine g_aload_n rfl 0 rfl dX2_init_0 ?_
    refine g_objInit tw1_178 hR (by decide) (Nat.le_of_ble_eq_true rfl) dX2_init_1 ?_
    refine g_aload_n rfl 0 rfl dX2_init_4 ?_
    refine g_bipush (16 : Int32) (by decide) dX2_init_5 ?_
    refine g_newa_int (n := 16) 1 (16) (by decide) rfl (by decide) hR rfl rfl ⟨by first | decide | omega, by first | decide | omega⟩ ht (fun _ => trivial) dX2_init_7 ?_
    have h_t : Obj (alc st 10 16) 2 t := alc_ob (st := st) (k := 10) (n := 16) h_t
    have h_n1 : Arr (alc st 10 16) 10 16 (sn st) := alc_new
    refine g_putF (j := 0) cok2 (by decide) rfl rfl hnm rfl rfl rfl tw1_179 (fun _ => h_t) ht (fun _ => trivial) dX2_init_9 ?_
    refine g_aload_n rfl 0 rfl dX2_init_12 ?_
    refine g_iconst (0 : Int32) (by decide) dX2_init_13 ?_
    refine g_putI (j := 1) cok2 (by decide) rfl rfl rfl rfl (Or.inl tw1_180) (fun _ => h_t) ht (fun _ => trivial) dX2_init_14 ?_
    exact g_ret hQ hr rfl rfl dX2_init_17)
def iX4_init (t : Nat) (st : St) : St :=
  pI (pI (pI (pI (pI (pI (pR (alc (pR (alc (pR (alc (pR (alc st 10 6) t 0 (some (sn st))) 10 5) t 1 (some (sn st + 1))) 14 6) t 2 (some (sn st + 2))) 10 4) t 3 (some (sn st + 3))) t 4 (0 : Int32)) t 5 (0 : Int32)) t 6 (0 : Int32)) t 7 (0 : Int32)) t 8 (-1 : Int32)) (sn st + 3) 2 (1 : Int32)
theorem iX4_init_ob {t k2 a : Nat}  {st : St} (h : Obj st k2 a) : Obj (iX4_init t  st) k2 a := (alc_ob (st := pR (alc (pR (alc (pR (alc st 10 6) t 0 (some (sn st))) 10 5) t 1 (some (sn st + 1))) 14 6) t 2 (some (sn st + 2))) (k := 10) (n := 4) (alc_ob (st := pR (alc (pR (alc st 10 6) t 0 (some (sn st))) 10 5) t 1 (some (sn st + 1))) (k := 14) (n := 6) (alc_ob (st := pR (alc st 10 6) t 0 (some (sn st))) (k := 10) (n := 5) (alc_ob (st := st) (k := 10) (n := 6) h))))
theorem iX4_init_ar {t k2 n2 a : Nat}  {st : St} (h : Arr st k2 n2 a) : Arr (iX4_init t  st) k2 n2 a := (alc_ar (st := pR (alc (pR (alc (pR (alc st 10 6) t 0 (some (sn st))) 10 5) t 1 (some (sn st + 1))) 14 6) t 2 (some (sn st + 2))) (k := 10) (n := 4) (alc_ar (st := pR (alc (pR (alc st 10 6) t 0 (some (sn st))) 10 5) t 1 (some (sn st + 1))) (k := 14) (n := 6) (alc_ar (st := pR (alc st 10 6) t 0 (some (sn st))) (k := 10) (n := 5) (alc_ar (st := st) (k := 10) (n := 6) h))))
set_option maxHeartbeats 4000000 in
set_option maxRecDepth 100000 in
theorem kX4_init {l : Launch} {E : Ev} {st : St} {t : Nat}  (h_t : Obj st 4 t) : CM l E Wn yX4_init cX4_init 1 none 1 4 (21) [.ref (eB E + t)] st none (iX4_init t  st) :=
  CM.intro mok_X4_init (Nat.le_of_ble_eq_true rfl) (fun x hl hR ht hr hQ hnm => by
    refine g_aload_n rfl 0 rfl dX4_init_0 ?_
    refine g_objInit tw1_31 hR (by decide) (Nat.le_of_ble_eq_true rfl) dX4_init_1 ?_
    refine g_aload_n rfl 0 rfl dX4_init_4 ?_
    refine g_bipush (6 : Int32) (by decide) dX4_init_5 ?_
    refine g_newa_int (n := 6) 1 (6) (by decide) rfl (by decide) hR rfl rfl ⟨by first | decide | omega, by first | decide | omega⟩ ht (fun _ => trivial) dX4_init_7 ?_
    have h_t : Obj (alc st 10 6) 4 t := alc_ob (st := st) (k := 10) (n := 6) h_t
    have h_n1 : Arr (alc st 10 6) 10 6 (sn st) := alc_new
    refine g_putF (j := 0) cok4 (by decide) rfl rfl hnm rfl rfl rfl tw1_34 (fun _ => h_t) ht (fun _ => trivial) dX4_init_9 ?_
    refine g_aload_n rfl 0 rfl dX4_init_12 ?_
    refine g_iconst (5 : Int32) (by decide) dX4_init_13 ?_
    refine g_newa_int (n := 5) 2 (11) (by decide) rfl (by decide) hR rfl rfl ⟨by first | decide | omega, by first | decide | omega⟩ ht (fun _ => trivial) dX4_init_14 ?_
    have h_t : Obj (alc (pR (alc st 10 6) t 0 (some (sn st))) 10 5) 4 t := alc_ob (st := pR (alc st 10 6) t 0 (some (sn st))) (k := 10) (n := 5) h_t
    have h_n1 : Arr (alc (pR (alc st 10 6) t 0 (some (sn st))) 10 5) 10 6 (sn st) := alc_ar (st := pR (alc st 10 6) t 0 (some (sn st))) (k := 10) (n := 5) h_n1
    have h_n2 : Arr (alc (pR (alc st 10 6) t 0 (some (sn st))) 10 5) 10 5 (sn st + 1) := alc_new
    refine g_putF (j := 1) cok4 (by decide) rfl rfl hnm rfl rfl rfl tw1_37 (fun _ => h_t) ht (fun _ => trivial) dX4_init_16 ?_
    refine g_aload_n rfl 0 rfl dX4_init_19 ?_
    refine g_bipush (6 : Int32) (by decide) dX4_init_20 ?_
    refine g_anewaS (n := 6) 3 (17) tw1_32 (by decide) rfl (by decide) hR rfl rfl ⟨by decide, by first | decide | omega⟩ ht (fun _ => trivial) dX4_init_22 ?_
    have h_t : Obj (alc (pR (alc (pR (alc st 10 6) t 0 (some (sn st))) 10 5) t 1 (some (sn st + 1))) 14 6) 4 t := alc_ob (st := pR (alc (pR (alc st 10 6) t 0 (some (sn st))) 10 5) t 1 (some (sn st + 1))) (k := 14) (n := 6) h_t
    have h_n1 : Arr (alc (pR (alc (pR (alc st 10 6) t 0 (some (sn st))) 10 5) t 1 (some (sn st + 1))) 14 6) 10 6 (sn st) := alc_ar (st := pR (alc (pR (alc st 10 6) t 0 (some (sn st))) 10 5) t 1 (some (sn st + 1))) (k := 14) (n := 6) h_n1
    have h_n2 : Arr (alc (pR (alc (pR (alc st 10 6) t 0 (some (sn st))) 10 5) t 1 (some (sn st + 1))) 14 6) 10 5 (sn st + 1) := alc_ar (st := pR (alc (pR (alc st 10 6) t 0 (some (sn st))) 10 5) t 1 (some (sn st + 1))) (k := 14) (n := 6) h_n2
    have h_n3 : Arr (alc (pR (alc (pR (alc st 10 6) t 0 (some (sn st))) 10 5) t 1 (some (sn st + 1))) 14 6) 14 6 (sn st + 2) := alc_new
    refine g_putF (j := 2) cok4 (by decide) rfl rfl hnm rfl rfl rfl tw1_40 (fun _ => h_t) ht (fun _ => trivial) dX4_init_25 ?_
    refine g_aload_n rfl 0 rfl dX4_init_28 ?_
    refine g_iconst (4 : Int32) (by decide) dX4_init_29 ?_
    refine g_newa_int (n := 4) 4 (21) (by decide) rfl (by decide) hR rfl rfl ⟨by first | decide | omega, by first | decide | omega⟩ ht (fun _ => trivial) dX4_init_30 ?_
    have h_t : Obj (alc (pR (alc (pR (alc (pR (alc st 10 6) t 0 (some (sn st))) 10 5) t 1 (some (sn st + 1))) 14 6) t 2 (some (sn st + 2))) 10 4) 4 t := alc_ob (st := pR (alc (pR (alc (pR (alc st 10 6) t 0 (some (sn st))) 10 5) t 1 (some (sn st + 1))) 14 6) t 2 (some (sn st + 2))) (k := 10) (n := 4) h_t
    have h_n1 : Arr (alc (pR (alc (pR (alc (pR (alc st 10 6) t 0 (some (sn st))) 10 5) t 1 (some (sn st + 1))) 14 6) t 2 (some (sn st + 2))) 10 4) 10 6 (sn st) := alc_ar (st := pR (alc (pR (alc (pR (alc st 10 6) t 0 (some (sn st))) 10 5) t 1 (some (sn st + 1))) 14 6) t 2 (some (sn st + 2))) (k := 10) (n := 4) h_n1
    have h_n2 : Arr (alc (pR (alc (pR (alc (pR (alc st 10 6) t 0 (some (sn st))) 10 5) t 1 (some (sn st + 1))) 14 6) t 2 (some (sn st + 2))) 10 4) 10 5 (sn st + 1) := alc_ar (st := pR (alc (pR (alc (pR (alc st 10 6) t 0 (some (sn st))) 10 5) t 1 (some (sn st + 1))) 14 6) t 2 (some (sn st + 2))) (k := 10) (n := 4) h_n2
    have h_n3 : Arr (alc (pR (alc (pR (alc (pR (alc st 10 6) t 0 (some (sn st))) 10 5) t 1 (some (sn st + 1))) 14 6) t 2 (some (sn st + 2))) 10 4) 14 6 (sn st + 2) := alc_ar (st := pR (alc (pR (alc (pR (alc st 10 6) t 0 (some (sn st))) 10 5) t 1 (some (sn st + 1))) 14 6) t 2 (some (sn st + 2))) (k := 10) (n := 4) h_n3
    have h_n4 : Arr (alc (pR (alc (pR (alc (pR (alc st 10 6) t 0 (some (sn st))) 10 5) t 1 (some (sn st + 1))) 14 6) t 2 (some (sn st + 2))) 10 4) 10 4 (sn st + 3) := alc_new
    refine g_putF (j := 3) cok4 (by decide) rfl rfl hnm rfl rfl rfl tw1_42 (fun _ => h_t) ht (fun _ => trivial) dX4_init_32 ?_
    refine g_aload_n rfl 0 rfl dX4_init_35 ?_
    refine g_iconst (0 : Int32) (by decide) dX4_init_36 ?_
    refine g_putI (j := 4) cok4 (by decide) rfl rfl rfl rfl (Or.inl tw1_48) (fun _ => h_t) ht (fun _ => trivial) dX4_init_37 ?_
    refine g_aload_n rfl 0 rfl dX4_init_40 ?_
    refine g_iconst (0 : Int32) (by decide) dX4_init_41 ?_
    refine g_putI (j := 5) cok4 (by decide) rfl rfl rfl rfl (Or.inl tw1_52) (fun _ => h_t) ht (fun _ => trivial) dX4_init_42 ?_
    refine g_aload_n rfl 0 rfl dX4_init_45 ?_
    refine g_iconst (0 : Int32) (by decide) dX4_init_46 ?_
    refine g_putI (j := 6) cok4 (by decide) rfl rfl rfl rfl (Or.inl tw1_56) (fun _ => h_t) ht (fun _ => trivial) dX4_init_47 ?_
    refine g_aload_n rfl 0 rfl dX4_init_50 ?_
    refine g_iconst (0 : Int32) (by decide) dX4_init_51 ?_
    refine g_putI (j := 7) cok4 (by decide) rfl rfl rfl rfl (Or.inl tw1_60) (fun _ => h_t) ht (fun _ => trivial) dX4_init_52 ?_
    refine g_aload_n rfl 0 rfl dX4_init_55 ?_
    refine g_iconst (-1 : Int32) (by decide) dX4_init_56 ?_
    refine g_putI (j := 8) cok4 (by decide) rfl rfl rfl rfl (Or.inl tw1_62) (fun _ => h_t) ht (fun _ => trivial) dX4_init_57 ?_
    refine g_aload_n rfl 0 rfl dX4_init_60 ?_
    refine g_get (j := 3) cok4 (by decide) (.ref (eB E + (sn st + 3))) (Or.inl tw1_42) (fun _ => h_t) (fun _ => slot_ref rfl (sR_pR_eq (st := alc (pR (alc (pR (alc (pR (alc st 10 6) t 0 (some (sn st))) 10 5) t 1 (some (sn st + 1))) 14 6) t 2 (some (sn st + 2))) 10 4) (r := some (sn st + 3)))) dX4_init_61 ?_
    refine g_iconst (2 : Int32) (by decide) dX4_init_64 ?_
    refine g_iconst (1 : Int32) (by decide) dX4_init_65 ?_
    refine g_iastj 2 rfl (fun _ => h_n4) (ixb_in rfl) ht (fun _ => trivial) dX4_init_66 ?_
    exact g_ret hQ hr rfl rfl dX4_init_67)
def iX5_init (t : Nat) (p : Int32) (st : St) : St :=
  pR (alc (pI (pI (pI (pR (alc (pR (alc (pR (alc (pR (alc st 10 12) t 0 (some (sn st))) 10 12) t 1 (some (sn st + 1))) 10 12) t 2 (some (sn st + 2))) 10 12) t 3 (some (sn st + 3))) t 5 (0 : Int32)) t 6 (1 : Int32)) t 7 (0 : Int32)) 10 ((jmax (1 : Int32) p).toNatClampNeg)) t 4 (some (sn st + 4))
theorem iX5_init_ob {t k2 a : Nat} {p : Int32} {st : St} (h : Obj st k2 a) : Obj (iX5_init t p st) k2 a := (alc_ob (st := pI (pI (pI (pR (alc (pR (alc (pR (alc (pR (alc st 10 12) t 0 (some (sn st))) 10 12) t 1 (some (sn st + 1))) 10 12) t 2 (some (sn st + 2))) 10 12) t 3 (some (sn st + 3))) t 5 (0 : Int32)) t 6 (1 : Int32)) t 7 (0 : Int32)) (k := 10) (n := (jmax (1 : Int32) p).toNatClampNeg) (alc_ob (st := pR (alc (pR (alc (pR (alc st 10 12) t 0 (some (sn st))) 10 12) t 1 (some (sn st + 1))) 10 12) t 2 (some (sn st + 2))) (k := 10) (n := 12) (alc_ob (st := pR (alc (pR (alc st 10 12) t 0 (some (sn st))) 10 12) t 1 (some (sn st + 1))) (k := 10) (n := 12) (alc_ob (st := pR (alc st 10 12) t 0 (some (sn st))) (k := 10) (n := 12) (alc_ob (st := st) (k := 10) (n := 12) h)))))
theorem iX5_init_ar {t k2 n2 a : Nat} {p : Int32} {st : St} (h : Arr st k2 n2 a) : Arr (iX5_init t p st) k2 n2 a := (alc_ar (st := pI (pI (pI (pR (alc (pR (alc (pR (alc (pR (alc st 10 12) t 0 (some (sn st))) 10 12) t 1 (some (sn st + 1))) 10 12) t 2 (some (sn st + 2))) 10 12) t 3 (some (sn st + 3))) t 5 (0 : Int32)) t 6 (1 : Int32)) t 7 (0 : Int32)) (k := 10) (n := (jmax (1 : Int32) p).toNatClampNeg) (alc_ar (st := pR (alc (pR (alc (pR (alc st 10 12) t 0 (some (sn st))) 10 12) t 1 (some (sn st + 1))) 10 12) t 2 (some (sn st + 2))) (k := 10) (n := 12) (alc_ar (st := pR (alc (pR (alc st 10 12) t 0 (some (sn st))) 10 12) t 1 (some (sn st + 1))) (k := 10) (n := 12) (alc_ar (st := pR (alc st 10 12) t 0 (some (sn st))) (k := 10) (n := 12) (alc_ar (st := st) (k := 10) (n := 12) h)))))
set_option maxHeartbeats 4000000 in
set_option maxRecDepth 100000 in
theorem kX5_init {l : Launch} {E : Ev} {st : St} {t : Nat} {p : Int32} (h_t : Obj st 5 t) (hp1 : ¬ jmax (1 : Int32) p < 0) (hp2 : (jmax (1 : Int32) p).toNatClampNeg ≤ 60000) : CM l E Wn yX5_init cX5_init 2 none 1 5 (48 + (jmax (1 : Int32) p).toNatClampNeg) [.ref (eB E + t), .int p] st none (iX5_init t p st) :=
  CM.intro mok_X5_init (Nat.le_of_ble_eq_true rfl) (fun x hl hR ht hr hQ hnm => by
    refine g_aload_n rfl 0 rfl dX5_init_0 ?_
    refine g_objInit tw1_96 hR (by decide) (Nat.le_of_ble_eq_true rfl) dX5_init_1 ?_
    refine g_aload_n rfl 0 rfl dX5_init_4 ?_
    refine g_bipush (12 : Int32) (by decide) dX5_init_5 ?_
    refine g_newa_int (n := 12) 1 (12) (by decide) rfl (by decide) hR rfl rfl ⟨by first | decide | omega, by first | decide | omega⟩ ht (fun _ => trivial) dX5_init_7 ?_
    have h_t : Obj (alc st 10 12) 5 t := alc_ob (st := st) (k := 10) (n := 12) h_t
    have h_n1 : Arr (alc st 10 12) 10 12 (sn st) := alc_new
    refine g_putF (j := 0) cok5 (by decide) rfl rfl hnm rfl rfl rfl tw1_100 (fun _ => h_t) ht (fun _ => trivial) dX5_init_9 ?_
    refine g_aload_n rfl 0 rfl dX5_init_12 ?_
    refine g_bipush (12 : Int32) (by decide) dX5_init_13 ?_
    refine g_newa_int (n := 12) 2 (24) (by decide) rfl (by decide) hR rfl rfl ⟨by first | decide | omega, by first | decide | omega⟩ ht (fun _ => trivial) dX5_init_15 ?_
    have h_t : Obj (alc (pR (alc st 10 12) t 0 (some (sn st))) 10 12) 5 t := alc_ob (st := pR (alc st 10 12) t 0 (some (sn st))) (k := 10) (n := 12) h_t
    have h_n1 : Arr (alc (pR (alc st 10 12) t 0 (some (sn st))) 10 12) 10 12 (sn st) := alc_ar (st := pR (alc st 10 12) t 0 (some (sn st))) (k := 10) (n := 12) h_n1
    have h_n2 : Arr (alc (pR (alc st 10 12) t 0 (some (sn st))) 10 12) 10 12 (sn st + 1) := alc_new
    refine g_putF (j := 1) cok5 (by decide) rfl rfl hnm rfl rfl rfl tw1_104 (fun _ => h_t) ht (fun _ => trivial) dX5_init_17 ?_
    refine g_aload_n rfl 0 rfl dX5_init_20 ?_
    refine g_bipush (12 : Int32) (by decide) dX5_init_21 ?_
    refine g_newa_int (n := 12) 3 (36) (by decide) rfl (by decide) hR rfl rfl ⟨by first | decide | omega, by first | decide | omega⟩ ht (fun _ => trivial) dX5_init_23 ?_
    have h_t : Obj (alc (pR (alc (pR (alc st 10 12) t 0 (some (sn st))) 10 12) t 1 (some (sn st + 1))) 10 12) 5 t := alc_ob (st := pR (alc (pR (alc st 10 12) t 0 (some (sn st))) 10 12) t 1 (some (sn st + 1))) (k := 10) (n := 12) h_t
    have h_n1 : Arr (alc (pR (alc (pR (alc st 10 12) t 0 (some (sn st))) 10 12) t 1 (some (sn st + 1))) 10 12) 10 12 (sn st) := alc_ar (st := pR (alc (pR (alc st 10 12) t 0 (some (sn st))) 10 12) t 1 (some (sn st + 1))) (k := 10) (n := 12) h_n1
    have h_n2 : Arr (alc (pR (alc (pR (alc st 10 12) t 0 (some (sn st))) 10 12) t 1 (some (sn st + 1))) 10 12) 10 12 (sn st + 1) := alc_ar (st := pR (alc (pR (alc st 10 12) t 0 (some (sn st))) 10 12) t 1 (some (sn st + 1))) (k := 10) (n := 12) h_n2
    have h_n3 : Arr (alc (pR (alc (pR (alc st 10 12) t 0 (some (sn st))) 10 12) t 1 (some (sn st + 1))) 10 12) 10 12 (sn st + 2) := alc_new
    refine g_putF (j := 2) cok5 (by decide) rfl rfl hnm rfl rfl rfl tw1_107 (fun _ => h_t) ht (fun _ => trivial) dX5_init_25 ?_
    refine g_aload_n rfl 0 rfl dX5_init_28 ?_
    refine g_bipush (12 : Int32) (by decide) dX5_init_29 ?_
    refine g_newa_int (n := 12) 4 (48) (by decide) rfl (by decide) hR rfl rfl ⟨by first | decide | omega, by first | decide | omega⟩ ht (fun _ => trivial) dX5_init_31 ?_
    have h_t : Obj (alc (pR (alc (pR (alc (pR (alc st 10 12) t 0 (some (sn st))) 10 12) t 1 (some (sn st + 1))) 10 12) t 2 (some (sn st + 2))) 10 12) 5 t := alc_ob (st := pR (alc (pR (alc (pR (alc st 10 12) t 0 (some (sn st))) 10 12) t 1 (some (sn st + 1))) 10 12) t 2 (some (sn st + 2))) (k := 10) (n := 12) h_t
    have h_n1 : Arr (alc (pR (alc (pR (alc (pR (alc st 10 12) t 0 (some (sn st))) 10 12) t 1 (some (sn st + 1))) 10 12) t 2 (some (sn st + 2))) 10 12) 10 12 (sn st) := alc_ar (st := pR (alc (pR (alc (pR (alc st 10 12) t 0 (some (sn st))) 10 12) t 1 (some (sn st + 1))) 10 12) t 2 (some (sn st + 2))) (k := 10) (n := 12) h_n1
    have h_n2 : Arr (alc (pR (alc (pR (alc (pR (alc st 10 12) t 0 (some (sn st))) 10 12) t 1 (some (sn st + 1))) 10 12) t 2 (some (sn st + 2))) 10 12) 10 12 (sn st + 1) := alc_ar (st := pR (alc (pR (alc (pR (alc st 10 12) t 0 (some (sn st))) 10 12) t 1 (some (sn st + 1))) 10 12) t 2 (some (sn st + 2))) (k := 10) (n := 12) h_n2
    have h_n3 : Arr (alc (pR (alc (pR (alc (pR (alc st 10 12) t 0 (some (sn st))) 10 12) t 1 (some (sn st + 1))) 10 12) t 2 (some (sn st + 2))) 10 12) 10 12 (sn st + 2) := alc_ar (st := pR (alc (pR (alc (pR (alc st 10 12) t 0 (some (sn st))) 10 12) t 1 (some (sn st + 1))) 10 12) t 2 (some (sn st + 2))) (k := 10) (n := 12) h_n3
    have h_n4 : Arr (alc (pR (alc (pR (alc (pR (alc st 10 12) t 0 (some (sn st))) 10 12) t 1 (some (sn st + 1))) 10 12) t 2 (some (sn st + 2))) 10 12) 10 12 (sn st + 3) := alc_new
    refine g_putF (j := 3) cok5 (by decide) rfl rfl hnm rfl rfl rfl tw1_111 (fun _ => h_t) ht (fun _ => trivial) dX5_init_33 ?_
    refine g_aload_n rfl 0 rfl dX5_init_36 ?_
    refine g_iconst (0 : Int32) (by decide) dX5_init_37 ?_
    refine g_putI (j := 5) cok5 (by decide) rfl rfl rfl rfl (Or.inl tw1_116) (fun _ => h_t) ht (fun _ => trivial) dX5_init_38 ?_
    refine g_aload_n rfl 0 rfl dX5_init_41 ?_
    refine g_iconst (1 : Int32) (by decide) dX5_init_42 ?_
    refine g_putI (j := 6) cok5 (by decide) rfl rfl rfl rfl (Or.inl tw1_120) (fun _ => h_t) ht (fun _ => trivial) dX5_init_43 ?_
    refine g_aload_n rfl 0 rfl dX5_init_46 ?_
    refine g_iconst (0 : Int32) (by decide) dX5_init_47 ?_
    refine g_putI (j := 7) cok5 (by decide) rfl rfl rfl rfl (Or.inl tw1_122) (fun _ => h_t) ht (fun _ => trivial) dX5_init_48 ?_
    refine g_aload_n rfl 0 rfl dX5_init_51 ?_
    refine g_iconst (1 : Int32) (by decide) dX5_init_52 ?_
    refine g_iload_n rfl 1 rfl dX5_init_53 ?_
    refine g_jmax tw1_97 hR (by decide) (Nat.le_of_ble_eq_true rfl) ⟨by decide, by first | decide | omega⟩ dX5_init_54 ?_
    refine g_newa_int (n := (jmax (1 : Int32) p).toNatClampNeg) 5 (48 + (jmax (1 : Int32) p).toNatClampNeg) hp1 rfl hp2 hR rfl rfl ⟨by first | decide | omega, by first | decide | omega⟩ ht (fun _ => trivial) dX5_init_57 ?_
    have h_t : Obj (alc (pI (pI (pI (pR (alc (pR (alc (pR (alc (pR (alc st 10 12) t 0 (some (sn st))) 10 12) t 1 (some (sn st + 1))) 10 12) t 2 (some (sn st + 2))) 10 12) t 3 (some (sn st + 3))) t 5 (0 : Int32)) t 6 (1 : Int32)) t 7 (0 : Int32)) 10 ((jmax (1 : Int32) p).toNatClampNeg)) 5 t := alc_ob (st := pI (pI (pI (pR (alc (pR (alc (pR (alc (pR (alc st 10 12) t 0 (some (sn st))) 10 12) t 1 (some (sn st + 1))) 10 12) t 2 (some (sn st + 2))) 10 12) t 3 (some (sn st + 3))) t 5 (0 : Int32)) t 6 (1 : Int32)) t 7 (0 : Int32)) (k := 10) (n := (jmax (1 : Int32) p).toNatClampNeg) h_t
    have h_n1 : Arr (alc (pI (pI (pI (pR (alc (pR (alc (pR (alc (pR (alc st 10 12) t 0 (some (sn st))) 10 12) t 1 (some (sn st + 1))) 10 12) t 2 (some (sn st + 2))) 10 12) t 3 (some (sn st + 3))) t 5 (0 : Int32)) t 6 (1 : Int32)) t 7 (0 : Int32)) 10 ((jmax (1 : Int32) p).toNatClampNeg)) 10 12 (sn st) := alc_ar (st := pI (pI (pI (pR (alc (pR (alc (pR (alc (pR (alc st 10 12) t 0 (some (sn st))) 10 12) t 1 (some (sn st + 1))) 10 12) t 2 (some (sn st + 2))) 10 12) t 3 (some (sn st + 3))) t 5 (0 : Int32)) t 6 (1 : Int32)) t 7 (0 : Int32)) (k := 10) (n := (jmax (1 : Int32) p).toNatClampNeg) h_n1
    have h_n2 : Arr (alc (pI (pI (pI (pR (alc (pR (alc (pR (alc (pR (alc st 10 12) t 0 (some (sn st))) 10 12) t 1 (some (sn st + 1))) 10 12) t 2 (some (sn st + 2))) 10 12) t 3 (some (sn st + 3))) t 5 (0 : Int32)) t 6 (1 : Int32)) t 7 (0 : Int32)) 10 ((jmax (1 : Int32) p).toNatClampNeg)) 10 12 (sn st + 1) := alc_ar (st := pI (pI (pI (pR (alc (pR (alc (pR (alc (pR (alc st 10 12) t 0 (some (sn st))) 10 12) t 1 (some (sn st + 1))) 10 12) t 2 (some (sn st + 2))) 10 12) t 3 (some (sn st + 3))) t 5 (0 : Int32)) t 6 (1 : Int32)) t 7 (0 : Int32)) (k := 10) (n := (jmax (1 : Int32) p).toNatClampNeg) h_n2
    have h_n3 : Arr (alc (pI (pI (pI (pR (alc (pR (alc (pR (alc (pR (alc st 10 12) t 0 (some (sn st))) 10 12) t 1 (some (sn st + 1))) 10 12) t 2 (some (sn st + 2))) 10 12) t 3 (some (sn st + 3))) t 5 (0 : Int32)) t 6 (1 : Int32)) t 7 (0 : Int32)) 10 ((jmax (1 : Int32) p).toNatClampNeg)) 10 12 (sn st + 2) := alc_ar (st := pI (pI (pI (pR (alc (pR (alc (pR (alc (pR (alc st 10 12) t 0 (some (sn st))) 10 12) t 1 (some (sn st + 1))) 10 12) t 2 (some (sn st + 2))) 10 12) t 3 (some (sn st + 3))) t 5 (0 : Int32)) t 6 (1 : Int32)) t 7 (0 : Int32)) (k := 10) (n := (jmax (1 : Int32) p).toNatClampNeg) h_n3
    have h_n4 : Arr (alc (pI (pI (pI (pR (alc (pR (alc (pR (alc (pR (alc st 10 12) t 0 (some (sn st))) 10 12) t 1 (some (sn st + 1))) 10 12) t 2 (some (sn st + 2))) 10 12) t 3 (some (sn st + 3))) t 5 (0 : Int32)) t 6 (1 : Int32)) t 7 (0 : Int32)) 10 ((jmax (1 : Int32) p).toNatClampNeg)) 10 12 (sn st + 3) := alc_ar (st := pI (pI (pI (pR (alc (pR (alc (pR (alc (pR (alc st 10 12) t 0 (some (sn st))) 10 12) t 1 (some (sn st + 1))) 10 12) t 2 (some (sn st + 2))) 10 12) t 3 (some (sn st + 3))) t 5 (0 : Int32)) t 6 (1 : Int32)) t 7 (0 : Int32)) (k := 10) (n := (jmax (1 : Int32) p).toNatClampNeg) h_n4
    have h_n5 : Arr (alc (pI (pI (pI (pR (alc (pR (alc (pR (alc (pR (alc st 10 12) t 0 (some (sn st))) 10 12) t 1 (some (sn st + 1))) 10 12) t 2 (some (sn st + 2))) 10 12) t 3 (some (sn st + 3))) t 5 (0 : Int32)) t 6 (1 : Int32)) t 7 (0 : Int32)) 10 ((jmax (1 : Int32) p).toNatClampNeg)) 10 ((jmax (1 : Int32) p).toNatClampNeg) (sn st + 4) := alc_new
    refine g_putF (j := 4) cok5 (by decide) rfl rfl hnm rfl rfl rfl tw1_115 (fun _ => h_t) ht (fun _ => trivial) dX5_init_59 ?_
    exact g_ret hQ hr rfl rfl dX5_init_62)
def iX6_init (t : Nat) (r : Nat) (st : St) : St :=
  pR (pI (pI (pI (pR (pI (pR (alc (pR (alc (pR (alc (pR (alc (pR (alc st 10 7) t 1 (some (sn st))) 10 40) t 2 (some (sn st + 1))) 10 16) t 3 (some (sn st + 2))) 10 3360) t 4 (some (sn st + 3))) 10 1920) t 5 (some (sn st + 4))) t 6 (1 : Int32)) t 7 none) t 8 (0 : Int32)) t 9 (0 : Int32)) t 10 (0 : Int32)) t 0 (some r)
theorem iX6_init_ob {t k2 a : Nat} {r : Nat} {st : St} (h : Obj st k2 a) : Obj (iX6_init t r st) k2 a := (alc_ob (st := pR (alc (pR (alc (pR (alc (pR (alc st 10 7) t 1 (some (sn st))) 10 40) t 2 (some (sn st + 1))) 10 16) t 3 (some (sn st + 2))) 10 3360) t 4 (some (sn st + 3))) (k := 10) (n := 1920) (alc_ob (st := pR (alc (pR (alc (pR (alc st 10 7) t 1 (some (sn st))) 10 40) t 2 (some (sn st + 1))) 10 16) t 3 (some (sn st + 2))) (k := 10) (n := 3360) (alc_ob (st := pR (alc (pR (alc st 10 7) t 1 (some (sn st))) 10 40) t 2 (some (sn st + 1))) (k := 10) (n := 16) (alc_ob (st := pR (alc st 10 7) t 1 (some (sn st))) (k := 10) (n := 40) (alc_ob (st := st) (k := 10) (n := 7) h)))))
theorem iX6_init_ar {t k2 n2 a : Nat} {r : Nat} {st : St} (h : Arr st k2 n2 a) : Arr (iX6_init t r st) k2 n2 a := (alc_ar (st := pR (alc (pR (alc (pR (alc (pR (alc st 10 7) t 1 (some (sn st))) 10 40) t 2 (some (sn st + 1))) 10 16) t 3 (some (sn st + 2))) 10 3360) t 4 (some (sn st + 3))) (k := 10) (n := 1920) (alc_ar (st := pR (alc (pR (alc (pR (alc st 10 7) t 1 (some (sn st))) 10 40) t 2 (some (sn st + 1))) 10 16) t 3 (some (sn st + 2))) (k := 10) (n := 3360) (alc_ar (st := pR (alc (pR (alc st 10 7) t 1 (some (sn st))) 10 40) t 2 (some (sn st + 1))) (k := 10) (n := 16) (alc_ar (st := pR (alc st 10 7) t 1 (some (sn st))) (k := 10) (n := 40) (alc_ar (st := st) (k := 10) (n := 7) h)))))
set_option maxHeartbeats 4000000 in
set_option maxRecDepth 100000 in
theorem kX6_init {l : Launch} {E : Ev} {st : St} {t : Nat} {r : Nat} (h_t : Obj st 6 t) : CM l E Wn yX6_init cX6_init 2 none 1 5 (5343) [.ref (eB E + t), .ref (eB E + r)] st none (iX6_init t r st) :=
  CM.intro mok_X6_init (Nat.le_of_ble_eq_true rfl) (fun x hl hR ht hr hQ hnm => by
    refine g_aload_n rfl 0 rfl dX6_init_0 ?_
    refine g_objInit tw1_192 hR (by decide) (Nat.le_of_ble_eq_true rfl) dX6_init_1 ?_
    refine g_aload_n rfl 0 rfl dX6_init_4 ?_
    refine g_bipush (7 : Int32) (by decide) dX6_init_5 ?_
    refine g_newa_int (n := 7) 1 (7) (by decide) rfl (by decide) hR rfl rfl ⟨by first | decide | omega, by first | decide | omega⟩ ht (fun _ => trivial) dX6_init_7 ?_
    have h_t : Obj (alc st 10 7) 6 t := alc_ob (st := st) (k := 10) (n := 7) h_t
    have h_n1 : Arr (alc st 10 7) 10 7 (sn st) := alc_new
    refine g_putF (j := 1) cok6 (by decide) rfl rfl hnm rfl rfl rfl tw1_194 (fun _ => h_t) ht (fun _ => trivial) dX6_init_9 ?_
    refine g_aload_n rfl 0 rfl dX6_init_12 ?_
    refine g_bipush (40 : Int32) (by decide) dX6_init_13 ?_
    refine g_newa_int (n := 40) 2 (47) (by decide) rfl (by decide) hR rfl rfl ⟨by first | decide | omega, by first | decide | omega⟩ ht (fun _ => trivial) dX6_init_15 ?_
    have h_t : Obj (alc (pR (alc st 10 7) t 1 (some (sn st))) 10 40) 6 t := alc_ob (st := pR (alc st 10 7) t 1 (some (sn st))) (k := 10) (n := 40) h_t
    have h_n1 : Arr (alc (pR (alc st 10 7) t 1 (some (sn st))) 10 40) 10 7 (sn st) := alc_ar (st := pR (alc st 10 7) t 1 (some (sn st))) (k := 10) (n := 40) h_n1
    have h_n2 : Arr (alc (pR (alc st 10 7) t 1 (some (sn st))) 10 40) 10 40 (sn st + 1) := alc_new
    refine g_putF (j := 2) cok6 (by decide) rfl rfl hnm rfl rfl rfl tw1_195 (fun _ => h_t) ht (fun _ => trivial) dX6_init_17 ?_
    refine g_aload_n rfl 0 rfl dX6_init_20 ?_
    refine g_bipush (16 : Int32) (by decide) dX6_init_21 ?_
    refine g_newa_int (n := 16) 3 (63) (by decide) rfl (by decide) hR rfl rfl ⟨by first | decide | omega, by first | decide | omega⟩ ht (fun _ => trivial) dX6_init_23 ?_
    have h_t : Obj (alc (pR (alc (pR (alc st 10 7) t 1 (some (sn st))) 10 40) t 2 (some (sn st + 1))) 10 16) 6 t := alc_ob (st := pR (alc (pR (alc st 10 7) t 1 (some (sn st))) 10 40) t 2 (some (sn st + 1))) (k := 10) (n := 16) h_t
    have h_n1 : Arr (alc (pR (alc (pR (alc st 10 7) t 1 (some (sn st))) 10 40) t 2 (some (sn st + 1))) 10 16) 10 7 (sn st) := alc_ar (st := pR (alc (pR (alc st 10 7) t 1 (some (sn st))) 10 40) t 2 (some (sn st + 1))) (k := 10) (n := 16) h_n1
    have h_n2 : Arr (alc (pR (alc (pR (alc st 10 7) t 1 (some (sn st))) 10 40) t 2 (some (sn st + 1))) 10 16) 10 40 (sn st + 1) := alc_ar (st := pR (alc (pR (alc st 10 7) t 1 (some (sn st))) 10 40) t 2 (some (sn st + 1))) (k := 10) (n := 16) h_n2
    have h_n3 : Arr (alc (pR (alc (pR (alc st 10 7) t 1 (some (sn st))) 10 40) t 2 (some (sn st + 1))) 10 16) 10 16 (sn st + 2) := alc_new
    refine g_putF (j := 3) cok6 (by decide) rfl rfl hnm rfl rfl rfl tw1_196 (fun _ => h_t) ht (fun _ => trivial) dX6_init_25 ?_
    refine g_aload_n rfl 0 rfl dX6_init_28 ?_
    refine g_sipush (3360 : Int32) (by decide) dX6_init_29 ?_
    refine g_newa_int (n := 3360) 4 (3423) (by decide) rfl (by decide) hR rfl rfl ⟨by first | decide | omega, by first | decide | omega⟩ ht (fun _ => trivial) dX6_init_32 ?_
    have h_t : Obj (alc (pR (alc (pR (alc (pR (alc st 10 7) t 1 (some (sn st))) 10 40) t 2 (some (sn st + 1))) 10 16) t 3 (some (sn st + 2))) 10 3360) 6 t := alc_ob (st := pR (alc (pR (alc (pR (alc st 10 7) t 1 (some (sn st))) 10 40) t 2 (some (sn st + 1))) 10 16) t 3 (some (sn st + 2))) (k := 10) (n := 3360) h_t
    have h_n1 : Arr (alc (pR (alc (pR (alc (pR (alc st 10 7) t 1 (some (sn st))) 10 40) t 2 (some (sn st + 1))) 10 16) t 3 (some (sn st + 2))) 10 3360) 10 7 (sn st) := alc_ar (st := pR (alc (pR (alc (pR (alc st 10 7) t 1 (some (sn st))) 10 40) t 2 (some (sn st + 1))) 10 16) t 3 (some (sn st + 2))) (k := 10) (n := 3360) h_n1
    have h_n2 : Arr (alc (pR (alc (pR (alc (pR (alc st 10 7) t 1 (some (sn st))) 10 40) t 2 (some (sn st + 1))) 10 16) t 3 (some (sn st + 2))) 10 3360) 10 40 (sn st + 1) := alc_ar (st := pR (alc (pR (alc (pR (alc st 10 7) t 1 (some (sn st))) 10 40) t 2 (some (sn st + 1))) 10 16) t 3 (some (sn st + 2))) (k := 10) (n := 3360) h_n2
    have h_n3 : Arr (alc (pR (alc (pR (alc (pR (alc st 10 7) t 1 (some (sn st))) 10 40) t 2 (some (sn st + 1))) 10 16) t 3 (some (sn st + 2))) 10 3360) 10 16 (sn st + 2) := alc_ar (st := pR (alc (pR (alc (pR (alc st 10 7) t 1 (some (sn st))) 10 40) t 2 (some (sn st + 1))) 10 16) t 3 (some (sn st + 2))) (k := 10) (n := 3360) h_n3
    have h_n4 : Arr (alc (pR (alc (pR (alc (pR (alc st 10 7) t 1 (some (sn st))) 10 40) t 2 (some (sn st + 1))) 10 16) t 3 (some (sn st + 2))) 10 3360) 10 3360 (sn st + 3) := alc_new
    refine g_putF (j := 4) cok6 (by decide) rfl rfl hnm rfl rfl rfl tw1_198 (fun _ => h_t) ht (fun _ => trivial) dX6_init_34 ?_
    refine g_aload_n rfl 0 rfl dX6_init_37 ?_
    refine g_sipush (1920 : Int32) (by decide) dX6_init_38 ?_
    refine g_newa_int (n := 1920) 5 (5343) (by decide) rfl (by decide) hR rfl rfl ⟨by first | decide | omega, by first | decide | omega⟩ ht (fun _ => trivial) dX6_init_41 ?_
    have h_t : Obj (alc (pR (alc (pR (alc (pR (alc (pR (alc st 10 7) t 1 (some (sn st))) 10 40) t 2 (some (sn st + 1))) 10 16) t 3 (some (sn st + 2))) 10 3360) t 4 (some (sn st + 3))) 10 1920) 6 t := alc_ob (st := pR (alc (pR (alc (pR (alc (pR (alc st 10 7) t 1 (some (sn st))) 10 40) t 2 (some (sn st + 1))) 10 16) t 3 (some (sn st + 2))) 10 3360) t 4 (some (sn st + 3))) (k := 10) (n := 1920) h_t
    have h_n1 : Arr (alc (pR (alc (pR (alc (pR (alc (pR (alc st 10 7) t 1 (some (sn st))) 10 40) t 2 (some (sn st + 1))) 10 16) t 3 (some (sn st + 2))) 10 3360) t 4 (some (sn st + 3))) 10 1920) 10 7 (sn st) := alc_ar (st := pR (alc (pR (alc (pR (alc (pR (alc st 10 7) t 1 (some (sn st))) 10 40) t 2 (some (sn st + 1))) 10 16) t 3 (some (sn st + 2))) 10 3360) t 4 (some (sn st + 3))) (k := 10) (n := 1920) h_n1
    have h_n2 : Arr (alc (pR (alc (pR (alc (pR (alc (pR (alc st 10 7) t 1 (some (sn st))) 10 40) t 2 (some (sn st + 1))) 10 16) t 3 (some (sn st + 2))) 10 3360) t 4 (some (sn st + 3))) 10 1920) 10 40 (sn st + 1) := alc_ar (st := pR (alc (pR (alc (pR (alc (pR (alc st 10 7) t 1 (some (sn st))) 10 40) t 2 (some (sn st + 1))) 10 16) t 3 (some (sn st + 2))) 10 3360) t 4 (some (sn st + 3))) (k := 10) (n := 1920) h_n2
    have h_n3 : Arr (alc (pR (alc (pR (alc (pR (alc (pR (alc st 10 7) t 1 (some (sn st))) 10 40) t 2 (some (sn st + 1))) 10 16) t 3 (some (sn st + 2))) 10 3360) t 4 (some (sn st + 3))) 10 1920) 10 16 (sn st + 2) := alc_ar (st := pR (alc (pR (alc (pR (alc (pR (alc st 10 7) t 1 (some (sn st))) 10 40) t 2 (some (sn st + 1))) 10 16) t 3 (some (sn st + 2))) 10 3360) t 4 (some (sn st + 3))) (k := 10) (n := 1920) h_n3
    have h_n4 : Arr (alc (pR (alc (pR (alc (pR (alc (pR (alc st 10 7) t 1 (some (sn st))) 10 40) t 2 (some (sn st + 1))) 10 16) t 3 (some (sn st + 2))) 10 3360) t 4 (some (sn st + 3))) 10 1920) 10 3360 (sn st + 3) := alc_ar (st := pR (alc (pR (alc (pR (alc (pR (alc st 10 7) t 1 (some (sn st))) 10 40) t 2 (some (sn st + 1))) 10 16) t 3 (some (sn st + 2))) 10 3360) t 4 (some (sn st + 3))) (k := 10) (n := 1920) h_n4
    have h_n5 : Arr (alc (pR (alc (pR (alc (pR (alc (pR (alc st 10 7) t 1 (some (sn st))) 10 40) t 2 (some (sn st + 1))) 10 16) t 3 (some (sn st + 2))) 10 3360) t 4 (some (sn st + 3))) 10 1920) 10 1920 (sn st + 4) := alc_new
    refine g_putF (j := 5) cok6 (by decide) rfl rfl hnm rfl rfl rfl tw1_199 (fun _ => h_t) ht (fun _ => trivial) dX6_init_43 ?_
    refine g_aload_n rfl 0 rfl dX6_init_46 ?_
    refine g_iconst (1 : Int32) (by decide) dX6_init_47 ?_
    refine g_putI (j := 6) cok6 (by decide) rfl rfl rfl rfl (Or.inl tw1_200) (fun _ => h_t) ht (fun _ => trivial) dX6_init_48 ?_
    refine g_aload_n rfl 0 rfl dX6_init_51 ?_
    refine g_null dX6_init_52 ?_
    refine g_putR (j := 7) (r := none) cok6 (by decide) rfl rfl (nr_n _) (nr_f _) (Or.inl tw1_201) (fun _ => h_t) ht (fun _ => trivial) dX6_init_53 ?_
    refine g_aload_n rfl 0 rfl dX6_init_56 ?_
    refine g_iconst (0 : Int32) (by decide) dX6_init_57 ?_
    refine g_putI (j := 8) cok6 (by decide) rfl rfl rfl rfl (Or.inl tw1_202) (fun _ => h_t) ht (fun _ => trivial) dX6_init_58 ?_
    refine g_aload_n rfl 0 rfl dX6_init_61 ?_
    refine g_iconst (0 : Int32) (by decide) dX6_init_62 ?_
    refine g_putI (j := 9) cok6 (by decide) rfl rfl rfl rfl (Or.inl tw1_203) (fun _ => h_t) ht (fun _ => trivial) dX6_init_63 ?_
    refine g_aload_n rfl 0 rfl dX6_init_66 ?_
    refine g_iconst (0 : Int32) (by decide) dX6_init_67 ?_
    refine g_putI (j := 10) cok6 (by decide) rfl rfl rfl rfl (Or.inl tw1_204) (fun _ => h_t) ht (fun _ => trivial) dX6_init_68 ?_
    refine g_aload_n rfl 0 rfl dX6_init_71 ?_
    refine g_aload_n rfl 1 rfl dX6_init_72 ?_
    refine g_putF (j := 0) cok6 (by decide) rfl rfl hnm rfl rfl rfl tw1_193 (fun _ => h_t) ht (fun _ => trivial) dX6_init_73 ?_
    exact g_ret hQ hr rfl rfl dX6_init_76)
def iX1_init (t : Nat) (r : Nat) (v : Nat) (st : St) : St :=
  pR (pR (pI (pI (pI (pR (alc (pR (alc (pR (alc (pR (alc (pR (alc (pR (alc (pR (alc st 10 6) t 2 (some (sn st))) 10 384) t 3 (some (sn st + 1))) 10 384) t 4 (some (sn st + 2))) 10 384) t 5 (some (sn st + 3))) 10 384) t 6 (some (sn st + 4))) 11 384) t 7 (some (sn st + 5))) 11 384) t 8 (some (sn st + 6))) t 9 (0 : Int32)) t 10 (0 : Int32)) t 11 (-1 : Int32)) t 0 (some r)) t 1 (some v)
theorem iX1_init_ob {t k2 a : Nat} {r : Nat} {v : Nat} {st : St} (h : Obj st k2 a) : Obj (iX1_init t r v st) k2 a := (alc_ob (st := pR (alc (pR (alc (pR (alc (pR (alc (pR (alc (pR (alc st 10 6) t 2 (some (sn st))) 10 384) t 3 (some (sn st + 1))) 10 384) t 4 (some (sn st + 2))) 10 384) t 5 (some (sn st + 3))) 10 384) t 6 (some (sn st + 4))) 11 384) t 7 (some (sn st + 5))) (k := 11) (n := 384) (alc_ob (st := pR (alc (pR (alc (pR (alc (pR (alc (pR (alc st 10 6) t 2 (some (sn st))) 10 384) t 3 (some (sn st + 1))) 10 384) t 4 (some (sn st + 2))) 10 384) t 5 (some (sn st + 3))) 10 384) t 6 (some (sn st + 4))) (k := 11) (n := 384) (alc_ob (st := pR (alc (pR (alc (pR (alc (pR (alc st 10 6) t 2 (some (sn st))) 10 384) t 3 (some (sn st + 1))) 10 384) t 4 (some (sn st + 2))) 10 384) t 5 (some (sn st + 3))) (k := 10) (n := 384) (alc_ob (st := pR (alc (pR (alc (pR (alc st 10 6) t 2 (some (sn st))) 10 384) t 3 (some (sn st + 1))) 10 384) t 4 (some (sn st + 2))) (k := 10) (n := 384) (alc_ob (st := pR (alc (pR (alc st 10 6) t 2 (some (sn st))) 10 384) t 3 (some (sn st + 1))) (k := 10) (n := 384) (alc_ob (st := pR (alc st 10 6) t 2 (some (sn st))) (k := 10) (n := 384) (alc_ob (st := st) (k := 10) (n := 6) h)))))))
theorem iX1_init_ar {t k2 n2 a : Nat} {r : Nat} {v : Nat} {st : St} (h : Arr st k2 n2 a) : Arr (iX1_init t r v st) k2 n2 a := (alc_ar (st := pR (alc (pR (alc (pR (alc (pR (alc (pR (alc (pR (alc st 10 6) t 2 (some (sn st))) 10 384) t 3 (some (sn st + 1))) 10 384) t 4 (some (sn st + 2))) 10 384) t 5 (some (sn st + 3))) 10 384) t 6 (some (sn st + 4))) 11 384) t 7 (some (sn st + 5))) (k := 11) (n := 384) (alc_ar (st := pR (alc (pR (alc (pR (alc (pR (alc (pR (alc st 10 6) t 2 (some (sn st))) 10 384) t 3 (some (sn st + 1))) 10 384) t 4 (some (sn st + 2))) 10 384) t 5 (some (sn st + 3))) 10 384) t 6 (some (sn st + 4))) (k := 11) (n := 384) (alc_ar (st := pR (alc (pR (alc (pR (alc (pR (alc st 10 6) t 2 (some (sn st))) 10 384) t 3 (some (sn st + 1))) 10 384) t 4 (some (sn st + 2))) 10 384) t 5 (some (sn st + 3))) (k := 10) (n := 384) (alc_ar (st := pR (alc (pR (alc (pR (alc st 10 6) t 2 (some (sn st))) 10 384) t 3 (some (sn st + 1))) 10 384) t 4 (some (sn st + 2))) (k := 10) (n := 384) (alc_ar (st := pR (alc (pR (alc st 10 6) t 2 (some (sn st))) 10 384) t 3 (some (sn st + 1))) (k := 10) (n := 384) (alc_ar (st := pR (alc st 10 6) t 2 (some (sn st))) (k := 10) (n := 384) (alc_ar (st := st) (k := 10) (n := 6) h)))))))
set_option maxHeartbeats 4000000 in
set_option maxRecDepth 100000 in
theorem kX1_init {l : Launch} {E : Ev} {st : St} {t : Nat} {r : Nat} {v : Nat} (h_t : Obj st 1 t) : CM l E Wn yX1_init cX1_init 3 none 1 7 (2310) [.ref (eB E + t), .ref (eB E + r), .ref (eB E + v)] st none (iX1_init t r v st) :=
  CM.intro mok_X1_init (Nat.le_of_ble_eq_true rfl) (fun x hl hR ht hr hQ hnm => by
    refine g_aload_n rfl 0 rfl dX1_init_0 ?_
    refine g_objInit tw1_234 hR (by decide) (Nat.le_of_ble_eq_true rfl) dX1_init_1 ?_
    refine g_aload_n rfl 0 rfl dX1_init_4 ?_
    refine g_bipush (6 : Int32) (by decide) dX1_init_5 ?_
    refine g_newa_int (n := 6) 1 (6) (by decide) rfl (by decide) hR rfl rfl ⟨by first | decide | omega, by first | decide | omega⟩ ht (fun _ => trivial) dX1_init_7 ?_
    have h_t : Obj (alc st 10 6) 1 t := alc_ob (st := st) (k := 10) (n := 6) h_t
    have h_n1 : Arr (alc st 10 6) 10 6 (sn st) := alc_new
    refine g_putF (j := 2) cok1 (by decide) rfl rfl hnm rfl rfl rfl tw1_237 (fun _ => h_t) ht (fun _ => trivial) dX1_init_9 ?_
    refine g_aload_n rfl 0 rfl dX1_init_12 ?_
    refine g_sipush (384 : Int32) (by decide) dX1_init_13 ?_
    refine g_newa_int (n := 384) 2 (390) (by decide) rfl (by decide) hR rfl rfl ⟨by first | decide | omega, by first | decide | omega⟩ ht (fun _ => trivial) dX1_init_16 ?_
    have h_t : Obj (alc (pR (alc st 10 6) t 2 (some (sn st))) 10 384) 1 t := alc_ob (st := pR (alc st 10 6) t 2 (some (sn st))) (k := 10) (n := 384) h_t
    have h_n1 : Arr (alc (pR (alc st 10 6) t 2 (some (sn st))) 10 384) 10 6 (sn st) := alc_ar (st := pR (alc st 10 6) t 2 (some (sn st))) (k := 10) (n := 384) h_n1
    have h_n2 : Arr (alc (pR (alc st 10 6) t 2 (some (sn st))) 10 384) 10 384 (sn st + 1) := alc_new
    refine g_putF (j := 3) cok1 (by decide) rfl rfl hnm rfl rfl rfl tw1_239 (fun _ => h_t) ht (fun _ => trivial) dX1_init_18 ?_
    refine g_aload_n rfl 0 rfl dX1_init_21 ?_
    refine g_sipush (384 : Int32) (by decide) dX1_init_22 ?_
    refine g_newa_int (n := 384) 3 (774) (by decide) rfl (by decide) hR rfl rfl ⟨by first | decide | omega, by first | decide | omega⟩ ht (fun _ => trivial) dX1_init_25 ?_
    have h_t : Obj (alc (pR (alc (pR (alc st 10 6) t 2 (some (sn st))) 10 384) t 3 (some (sn st + 1))) 10 384) 1 t := alc_ob (st := pR (alc (pR (alc st 10 6) t 2 (some (sn st))) 10 384) t 3 (some (sn st + 1))) (k := 10) (n := 384) h_t
    have h_n1 : Arr (alc (pR (alc (pR (alc st 10 6) t 2 (some (sn st))) 10 384) t 3 (some (sn st + 1))) 10 384) 10 6 (sn st) := alc_ar (st := pR (alc (pR (alc st 10 6) t 2 (some (sn st))) 10 384) t 3 (some (sn st + 1))) (k := 10) (n := 384) h_n1
    have h_n2 : Arr (alc (pR (alc (pR (alc st 10 6) t 2 (some (sn st))) 10 384) t 3 (some (sn st + 1))) 10 384) 10 384 (sn st + 1) := alc_ar (st := pR (alc (pR (alc st 10 6) t 2 (some (sn st))) 10 384) t 3 (some (sn st + 1))) (k := 10) (n := 384) h_n2
    have h_n3 : Arr (alc (pR (alc (pR (alc st 10 6) t 2 (some (sn st))) 10 384) t 3 (some (sn st + 1))) 10 384) 10 384 (sn st + 2) := alc_new
    refine g_putF (j := 4) cok1 (by decide) rfl rfl hnm rfl rfl rfl tw2_0 (fun _ => h_t) ht (fun _ => trivial) dX1_init_27 ?_
    refine g_aload_n rfl 0 rfl dX1_init_30 ?_
    refine g_sipush (384 : Int32) (by decide) dX1_init_31 ?_
    refine g_newa_int (n := 384) 4 (1158) (by decide) rfl (by decide) hR rfl rfl ⟨by first | decide | omega, by first | decide | omega⟩ ht (fun _ => trivial) dX1_init_34 ?_
    have h_t : Obj (alc (pR (alc (pR (alc (pR (alc st 10 6) t 2 (some (sn st))) 10 384) t 3 (some (sn st + 1))) 10 384) t 4 (some (sn st + 2))) 10 384) 1 t := alc_ob (st := pR (alc (pR (alc (pR (alc st 10 6) t 2 (some (sn st))) 10 384) t 3 (some (sn st + 1))) 10 384) t 4 (some (sn st + 2))) (k := 10) (n := 384) h_t
    have h_n1 : Arr (alc (pR (alc (pR (alc (pR (alc st 10 6) t 2 (some (sn st))) 10 384) t 3 (some (sn st + 1))) 10 384) t 4 (some (sn st + 2))) 10 384) 10 6 (sn st) := alc_ar (st := pR (alc (pR (alc (pR (alc st 10 6) t 2 (some (sn st))) 10 384) t 3 (some (sn st + 1))) 10 384) t 4 (some (sn st + 2))) (k := 10) (n := 384) h_n1
    have h_n2 : Arr (alc (pR (alc (pR (alc (pR (alc st 10 6) t 2 (some (sn st))) 10 384) t 3 (some (sn st + 1))) 10 384) t 4 (some (sn st + 2))) 10 384) 10 384 (sn st + 1) := alc_ar (st := pR (alc (pR (alc (pR (alc st 10 6) t 2 (some (sn st))) 10 384) t 3 (some (sn st + 1))) 10 384) t 4 (some (sn st + 2))) (k := 10) (n := 384) h_n2
    have h_n3 : Arr (alc (pR (alc (pR (alc (pR (alc st 10 6) t 2 (some (sn st))) 10 384) t 3 (some (sn st + 1))) 10 384) t 4 (some (sn st + 2))) 10 384) 10 384 (sn st + 2) := alc_ar (st := pR (alc (pR (alc (pR (alc st 10 6) t 2 (some (sn st))) 10 384) t 3 (some (sn st + 1))) 10 384) t 4 (some (sn st + 2))) (k := 10) (n := 384) h_n3
    have h_n4 : Arr (alc (pR (alc (pR (alc (pR (alc st 10 6) t 2 (some (sn st))) 10 384) t 3 (some (sn st + 1))) 10 384) t 4 (some (sn st + 2))) 10 384) 10 384 (sn st + 3) := alc_new
    refine g_putF (j := 5) cok1 (by decide) rfl rfl hnm rfl rfl rfl tw2_1 (fun _ => h_t) ht (fun _ => trivial) dX1_init_36 ?_
    refine g_aload_n rfl 0 rfl dX1_init_39 ?_
    refine g_sipush (384 : Int32) (by decide) dX1_init_40 ?_
    refine g_newa_int (n := 384) 5 (1542) (by decide) rfl (by decide) hR rfl rfl ⟨by first | decide | omega, by first | decide | omega⟩ ht (fun _ => trivial) dX1_init_43 ?_
    have h_t : Obj (alc (pR (alc (pR (alc (pR (alc (pR (alc st 10 6) t 2 (some (sn st))) 10 384) t 3 (some (sn st + 1))) 10 384) t 4 (some (sn st + 2))) 10 384) t 5 (some (sn st + 3))) 10 384) 1 t := alc_ob (st := pR (alc (pR (alc (pR (alc (pR (alc st 10 6) t 2 (some (sn st))) 10 384) t 3 (some (sn st + 1))) 10 384) t 4 (some (sn st + 2))) 10 384) t 5 (some (sn st + 3))) (k := 10) (n := 384) h_t
    have h_n1 : Arr (alc (pR (alc (pR (alc (pR (alc (pR (alc st 10 6) t 2 (some (sn st))) 10 384) t 3 (some (sn st + 1))) 10 384) t 4 (some (sn st + 2))) 10 384) t 5 (some (sn st + 3))) 10 384) 10 6 (sn st) := alc_ar (st := pR (alc (pR (alc (pR (alc (pR (alc st 10 6) t 2 (some (sn st))) 10 384) t 3 (some (sn st + 1))) 10 384) t 4 (some (sn st + 2))) 10 384) t 5 (some (sn st + 3))) (k := 10) (n := 384) h_n1
    have h_n2 : Arr (alc (pR (alc (pR (alc (pR (alc (pR (alc st 10 6) t 2 (some (sn st))) 10 384) t 3 (some (sn st + 1))) 10 384) t 4 (some (sn st + 2))) 10 384) t 5 (some (sn st + 3))) 10 384) 10 384 (sn st + 1) := alc_ar (st := pR (alc (pR (alc (pR (alc (pR (alc st 10 6) t 2 (some (sn st))) 10 384) t 3 (some (sn st + 1))) 10 384) t 4 (some (sn st + 2))) 10 384) t 5 (some (sn st + 3))) (k := 10) (n := 384) h_n2
    have h_n3 : Arr (alc (pR (alc (pR (alc (pR (alc (pR (alc st 10 6) t 2 (some (sn st))) 10 384) t 3 (some (sn st + 1))) 10 384) t 4 (some (sn st + 2))) 10 384) t 5 (some (sn st + 3))) 10 384) 10 384 (sn st + 2) := alc_ar (st := pR (alc (pR (alc (pR (alc (pR (alc st 10 6) t 2 (some (sn st))) 10 384) t 3 (some (sn st + 1))) 10 384) t 4 (some (sn st + 2))) 10 384) t 5 (some (sn st + 3))) (k := 10) (n := 384) h_n3
    have h_n4 : Arr (alc (pR (alc (pR (alc (pR (alc (pR (alc st 10 6) t 2 (some (sn st))) 10 384) t 3 (some (sn st + 1))) 10 384) t 4 (some (sn st + 2))) 10 384) t 5 (some (sn st + 3))) 10 384) 10 384 (sn st + 3) := alc_ar (st := pR (alc (pR (alc (pR (alc (pR (alc st 10 6) t 2 (some (sn st))) 10 384) t 3 (some (sn st + 1))) 10 384) t 4 (some (sn st + 2))) 10 384) t 5 (some (sn st + 3))) (k := 10) (n := 384) h_n4
    have h_n5 : Arr (alc (pR (alc (pR (alc (pR (alc (pR (alc st 10 6) t 2 (some (sn st))) 10 384) t 3 (some (sn st + 1))) 10 384) t 4 (some (sn st + 2))) 10 384) t 5 (some (sn st + 3))) 10 384) 10 384 (sn st + 4) := alc_new
    refine g_putF (j := 6) cok1 (by decide) rfl rfl hnm rfl rfl rfl tw2_2 (fun _ => h_t) ht (fun _ => trivial) dX1_init_45 ?_
    refine g_aload_n rfl 0 rfl dX1_init_48 ?_
    refine g_sipush (384 : Int32) (by decide) dX1_init_49 ?_
    refine g_newa_long (n := 384) 6 (1926) (by decide) rfl (by decide) hR rfl rfl ⟨by first | decide | omega, by first | decide | omega⟩ ht (fun _ => trivial) dX1_init_52 ?_
    have h_t : Obj (alc (pR (alc (pR (alc (pR (alc (pR (alc (pR (alc st 10 6) t 2 (some (sn st))) 10 384) t 3 (some (sn st + 1))) 10 384) t 4 (some (sn st + 2))) 10 384) t 5 (some (sn st + 3))) 10 384) t 6 (some (sn st + 4))) 11 384) 1 t := alc_ob (st := pR (alc (pR (alc (pR (alc (pR (alc (pR (alc st 10 6) t 2 (some (sn st))) 10 384) t 3 (some (sn st + 1))) 10 384) t 4 (some (sn st + 2))) 10 384) t 5 (some (sn st + 3))) 10 384) t 6 (some (sn st + 4))) (k := 11) (n := 384) h_t
    have h_n1 : Arr (alc (pR (alc (pR (alc (pR (alc (pR (alc (pR (alc st 10 6) t 2 (some (sn st))) 10 384) t 3 (some (sn st + 1))) 10 384) t 4 (some (sn st + 2))) 10 384) t 5 (some (sn st + 3))) 10 384) t 6 (some (sn st + 4))) 11 384) 10 6 (sn st) := alc_ar (st := pR (alc (pR (alc (pR (alc (pR (alc (pR (alc st 10 6) t 2 (some (sn st))) 10 384) t 3 (some (sn st + 1))) 10 384) t 4 (some (sn st + 2))) 10 384) t 5 (some (sn st + 3))) 10 384) t 6 (some (sn st + 4))) (k := 11) (n := 384) h_n1
    have h_n2 : Arr (alc (pR (alc (pR (alc (pR (alc (pR (alc (pR (alc st 10 6) t 2 (some (sn st))) 10 384) t 3 (some (sn st + 1))) 10 384) t 4 (some (sn st + 2))) 10 384) t 5 (some (sn st + 3))) 10 384) t 6 (some (sn st + 4))) 11 384) 10 384 (sn st + 1) := alc_ar (st := pR (alc (pR (alc (pR (alc (pR (alc (pR (alc st 10 6) t 2 (some (sn st))) 10 384) t 3 (some (sn st + 1))) 10 384) t 4 (some (sn st + 2))) 10 384) t 5 (some (sn st + 3))) 10 384) t 6 (some (sn st + 4))) (k := 11) (n := 384) h_n2
    have h_n3 : Arr (alc (pR (alc (pR (alc (pR (alc (pR (alc (pR (alc st 10 6) t 2 (some (sn st))) 10 384) t 3 (some (sn st + 1))) 10 384) t 4 (some (sn st + 2))) 10 384) t 5 (some (sn st + 3))) 10 384) t 6 (some (sn st + 4))) 11 384) 10 384 (sn st + 2) := alc_ar (st := pR (alc (pR (alc (pR (alc (pR (alc (pR (alc st 10 6) t 2 (some (sn st))) 10 384) t 3 (some (sn st + 1))) 10 384) t 4 (some (sn st + 2))) 10 384) t 5 (some (sn st + 3))) 10 384) t 6 (some (sn st + 4))) (k := 11) (n := 384) h_n3
    have h_n4 : Arr (alc (pR (alc (pR (alc (pR (alc (pR (alc (pR (alc st 10 6) t 2 (some (sn st))) 10 384) t 3 (some (sn st + 1))) 10 384) t 4 (some (sn st + 2))) 10 384) t 5 (some (sn st + 3))) 10 384) t 6 (some (sn st + 4))) 11 384) 10 384 (sn st + 3) := alc_ar (st := pR (alc (pR (alc (pR (alc (pR (alc (pR (alc st 10 6) t 2 (some (sn st))) 10 384) t 3 (some (sn st + 1))) 10 384) t 4 (some (sn st + 2))) 10 384) t 5 (some (sn st + 3))) 10 384) t 6 (some (sn st + 4))) (k := 11) (n := 384) h_n4
    have h_n5 : Arr (alc (pR (alc (pR (alc (pR (alc (pR (alc (pR (alc st 10 6) t 2 (some (sn st))) 10 384) t 3 (some (sn st + 1))) 10 384) t 4 (some (sn st + 2))) 10 384) t 5 (some (sn st + 3))) 10 384) t 6 (some (sn st + 4))) 11 384) 10 384 (sn st + 4) := alc_ar (st := pR (alc (pR (alc (pR (alc (pR (alc (pR (alc st 10 6) t 2 (some (sn st))) 10 384) t 3 (some (sn st + 1))) 10 384) t 4 (some (sn st + 2))) 10 384) t 5 (some (sn st + 3))) 10 384) t 6 (some (sn st + 4))) (k := 11) (n := 384) h_n5
    have h_n6 : Arr (alc (pR (alc (pR (alc (pR (alc (pR (alc (pR (alc st 10 6) t 2 (some (sn st))) 10 384) t 3 (some (sn st + 1))) 10 384) t 4 (some (sn st + 2))) 10 384) t 5 (some (sn st + 3))) 10 384) t 6 (some (sn st + 4))) 11 384) 11 384 (sn st + 5) := alc_new
    refine g_putF (j := 7) cok1 (by decide) rfl rfl hnm rfl rfl rfl tw2_3 (fun _ => h_t) ht (fun _ => trivial) dX1_init_54 ?_
    refine g_aload_n rfl 0 rfl dX1_init_57 ?_
    refine g_sipush (384 : Int32) (by decide) dX1_init_58 ?_
    refine g_newa_long (n := 384) 7 (2310) (by decide) rfl (by decide) hR rfl rfl ⟨by first | decide | omega, by first | decide | omega⟩ ht (fun _ => trivial) dX1_init_61 ?_
    have h_t : Obj (alc (pR (alc (pR (alc (pR (alc (pR (alc (pR (alc (pR (alc st 10 6) t 2 (some (sn st))) 10 384) t 3 (some (sn st + 1))) 10 384) t 4 (some (sn st + 2))) 10 384) t 5 (some (sn st + 3))) 10 384) t 6 (some (sn st + 4))) 11 384) t 7 (some (sn st + 5))) 11 384) 1 t := alc_ob (st := pR (alc (pR (alc (pR (alc (pR (alc (pR (alc (pR (alc st 10 6) t 2 (some (sn st))) 10 384) t 3 (some (sn st + 1))) 10 384) t 4 (some (sn st + 2))) 10 384) t 5 (some (sn st + 3))) 10 384) t 6 (some (sn st + 4))) 11 384) t 7 (some (sn st + 5))) (k := 11) (n := 384) h_t
    have h_n1 : Arr (alc (pR (alc (pR (alc (pR (alc (pR (alc (pR (alc (pR (alc st 10 6) t 2 (some (sn st))) 10 384) t 3 (some (sn st + 1))) 10 384) t 4 (some (sn st + 2))) 10 384) t 5 (some (sn st + 3))) 10 384) t 6 (some (sn st + 4))) 11 384) t 7 (some (sn st + 5))) 11 384) 10 6 (sn st) := alc_ar (st := pR (alc (pR (alc (pR (alc (pR (alc (pR (alc (pR (alc st 10 6) t 2 (some (sn st))) 10 384) t 3 (some (sn st + 1))) 10 384) t 4 (some (sn st + 2))) 10 384) t 5 (some (sn st + 3))) 10 384) t 6 (some (sn st + 4))) 11 384) t 7 (some (sn st + 5))) (k := 11) (n := 384) h_n1
    have h_n2 : Arr (alc (pR (alc (pR (alc (pR (alc (pR (alc (pR (alc (pR (alc st 10 6) t 2 (some (sn st))) 10 384) t 3 (some (sn st + 1))) 10 384) t 4 (some (sn st + 2))) 10 384) t 5 (some (sn st + 3))) 10 384) t 6 (some (sn st + 4))) 11 384) t 7 (some (sn st + 5))) 11 384) 10 384 (sn st + 1) := alc_ar (st := pR (alc (pR (alc (pR (alc (pR (alc (pR (alc (pR (alc st 10 6) t 2 (some (sn st))) 10 384) t 3 (some (sn st + 1))) 10 384) t 4 (some (sn st + 2))) 10 384) t 5 (some (sn st + 3))) 10 384) t 6 (some (sn st + 4))) 11 384) t 7 (some (sn st + 5))) (k := 11) (n := 384) h_n2
    have h_n3 : Arr (alc (pR (alc (pR (alc (pR (alc (pR (alc (pR (alc (pR (alc st 10 6) t 2 (some (sn st))) 10 384) t 3 (some (sn st + 1))) 10 384) t 4 (some (sn st + 2))) 10 384) t 5 (some (sn st + 3))) 10 384) t 6 (some (sn st + 4))) 11 384) t 7 (some (sn st + 5))) 11 384) 10 384 (sn st + 2) := alc_ar (st := pR (alc (pR (alc (pR (alc (pR (alc (pR (alc (pR (alc st 10 6) t 2 (some (sn st))) 10 384) t 3 (some (sn st + 1))) 10 384) t 4 (some (sn st + 2))) 10 384) t 5 (some (sn st + 3))) 10 384) t 6 (some (sn st + 4))) 11 384) t 7 (some (sn st + 5))) (k := 11) (n := 384) h_n3
    have h_n4 : Arr (alc (pR (alc (pR (alc (pR (alc (pR (alc (pR (alc (pR (alc st 10 6) t 2 (some (sn st))) 10 384) t 3 (some (sn st + 1))) 10 384) t 4 (some (sn st + 2))) 10 384) t 5 (some (sn st + 3))) 10 384) t 6 (some (sn st + 4))) 11 384) t 7 (some (sn st + 5))) 11 384) 10 384 (sn st + 3) := alc_ar (st := pR (alc (pR (alc (pR (alc (pR (alc (pR (alc (pR (alc st 10 6) t 2 (some (sn st))) 10 384) t 3 (some (sn st + 1))) 10 384) t 4 (some (sn st + 2))) 10 384) t 5 (some (sn st + 3))) 10 384) t 6 (some (sn st + 4))) 11 384) t 7 (some (sn st + 5))) (k := 11) (n := 384) h_n4
    have h_n5 : Arr (alc (pR (alc (pR (alc (pR (alc (pR (alc (pR (alc (pR (alc st 10 6) t 2 (some (sn st))) 10 384) t 3 (some (sn st + 1))) 10 384) t 4 (some (sn st + 2))) 10 384) t 5 (some (sn st + 3))) 10 384) t 6 (some (sn st + 4))) 11 384) t 7 (some (sn st + 5))) 11 384) 10 384 (sn st + 4) := alc_ar (st := pR (alc (pR (alc (pR (alc (pR (alc (pR (alc (pR (alc st 10 6) t 2 (some (sn st))) 10 384) t 3 (some (sn st + 1))) 10 384) t 4 (some (sn st + 2))) 10 384) t 5 (some (sn st + 3))) 10 384) t 6 (some (sn st + 4))) 11 384) t 7 (some (sn st + 5))) (k := 11) (n := 384) h_n5
    have h_n6 : Arr (alc (pR (alc (pR (alc (pR (alc (pR (alc (pR (alc (pR (alc st 10 6) t 2 (some (sn st))) 10 384) t 3 (some (sn st + 1))) 10 384) t 4 (some (sn st + 2))) 10 384) t 5 (some (sn st + 3))) 10 384) t 6 (some (sn st + 4))) 11 384) t 7 (some (sn st + 5))) 11 384) 11 384 (sn st + 5) := alc_ar (st := pR (alc (pR (alc (pR (alc (pR (alc (pR (alc (pR (alc st 10 6) t 2 (some (sn st))) 10 384) t 3 (some (sn st + 1))) 10 384) t 4 (some (sn st + 2))) 10 384) t 5 (some (sn st + 3))) 10 384) t 6 (some (sn st + 4))) 11 384) t 7 (some (sn st + 5))) (k := 11) (n := 384) h_n6
    have h_n7 : Arr (alc (pR (alc (pR (alc (pR (alc (pR (alc (pR (alc (pR (alc st 10 6) t 2 (some (sn st))) 10 384) t 3 (some (sn st + 1))) 10 384) t 4 (some (sn st + 2))) 10 384) t 5 (some (sn st + 3))) 10 384) t 6 (some (sn st + 4))) 11 384) t 7 (some (sn st + 5))) 11 384) 11 384 (sn st + 6) := alc_new
    refine g_putF (j := 8) cok1 (by decide) rfl rfl hnm rfl rfl rfl tw2_4 (fun _ => h_t) ht (fun _ => trivial) dX1_init_63 ?_
    refine g_aload_n rfl 0 rfl dX1_init_66 ?_
    refine g_iconst (0 : Int32) (by decide) dX1_init_67 ?_
    refine g_putI (j := 9) cok1 (by decide) rfl rfl rfl rfl (Or.inl tw2_5) (fun _ => h_t) ht (fun _ => trivial) dX1_init_68 ?_
    refine g_aload_n rfl 0 rfl dX1_init_71 ?_
    refine g_iconst (0 : Int32) (by decide) dX1_init_72 ?_
    refine g_putI (j := 10) cok1 (by decide) rfl rfl rfl rfl (Or.inl tw2_7) (fun _ => h_t) ht (fun _ => trivial) dX1_init_73 ?_
    refine g_aload_n rfl 0 rfl dX1_init_76 ?_
    refine g_iconst (-1 : Int32) (by decide) dX1_init_77 ?_
    refine g_putI (j := 11) cok1 (by decide) rfl rfl rfl rfl (Or.inl tw2_8) (fun _ => h_t) ht (fun _ => trivial) dX1_init_78 ?_
    refine g_aload_n rfl 0 rfl dX1_init_81 ?_
    refine g_aload_n rfl 1 rfl dX1_init_82 ?_
    refine g_putF (j := 0) cok1 (by decide) rfl rfl hnm rfl rfl rfl tw1_235 (fun _ => h_t) ht (fun _ => trivial) dX1_init_83 ?_
    refine g_aload_n rfl 0 rfl dX1_init_86 ?_
    refine g_aload_n rfl 2 rfl dX1_init_87 ?_
    refine g_putF (j := 1) cok1 (by decide) rfl rfl hnm rfl rfl rfl tw1_236 (fun _ => h_t) ht (fun _ => trivial) dX1_init_88 ?_
    exact g_ret hQ hr rfl rfl dX1_init_91)
def iX0_init (t : Nat) (r : Nat) (v : Nat) (st : St) : St :=
  pR (pR (pL (pI (pI (pR (alc st 10 6) t 2 (some (sn st))) t 3 (0 : Int32)) t 4 (0 : Int32)) t 5 (0 : Int64)) t 0 (some r)) t 1 (some v)
theorem iX0_init_ob {t k2 a : Nat} {r : Nat} {v : Nat} {st : St} (h : Obj st k2 a) : Obj (iX0_init t r v st) k2 a := (alc_ob (st := st) (k := 10) (n := 6) h)
theorem iX0_init_ar {t k2 n2 a : Nat} {r : Nat} {v : Nat} {st : St} (h : Arr st k2 n2 a) : Arr (iX0_init t r v st) k2 n2 a := (alc_ar (st := st) (k := 10) (n := 6) h)
set_option maxHeartbeats 4000000 in
set_option maxRecDepth 100000 in
theorem kX0_init {l : Launch} {E : Ev} {st : St} {t : Nat} {r : Nat} {v : Nat} (h_t : Obj st 0 t) : CM l E Wn yX0_init cX0_init 3 none 1 1 (6) [.ref (eB E + t), .ref (eB E + r), .ref (eB E + v)] st none (iX0_init t r v st) :=
  CM.intro mok_X0_init (Nat.le_of_ble_eq_true rfl) (fun x hl hR ht hr hQ hnm => by
    refine g_aload_n rfl 0 rfl dX0_init_0 ?_
    refine g_objInit tw2_41 hR (by decide) (Nat.le_of_ble_eq_true rfl) dX0_init_1 ?_
    refine g_aload_n rfl 0 rfl dX0_init_4 ?_
    refine g_bipush (6 : Int32) (by decide) dX0_init_5 ?_
    refine g_newa_int (n := 6) 1 (6) (by decide) rfl (by decide) hR rfl rfl ⟨by first | decide | omega, by first | decide | omega⟩ ht (fun _ => trivial) dX0_init_7 ?_
    have h_t : Obj (alc st 10 6) 0 t := alc_ob (st := st) (k := 10) (n := 6) h_t
    have h_n1 : Arr (alc st 10 6) 10 6 (sn st) := alc_new
    refine g_putF (j := 2) cok0 (by decide) rfl rfl hnm rfl rfl rfl tw2_44 (fun _ => h_t) ht (fun _ => trivial) dX0_init_9 ?_
    refine g_aload_n rfl 0 rfl dX0_init_12 ?_
    refine g_iconst (0 : Int32) (by decide) dX0_init_13 ?_
    refine g_putI (j := 3) cok0 (by decide) rfl rfl rfl rfl (Or.inl tw2_46) (fun _ => h_t) ht (fun _ => trivial) dX0_init_14 ?_
    refine g_aload_n rfl 0 rfl dX0_init_17 ?_
    refine g_iconst (0 : Int32) (by decide) dX0_init_18 ?_
    refine g_putI (j := 4) cok0 (by decide) rfl rfl rfl rfl (Or.inl tw2_48) (fun _ => h_t) ht (fun _ => trivial) dX0_init_19 ?_
    refine g_aload_n rfl 0 rfl dX0_init_22 ?_
    refine g_lconst (0 : Int64) (by decide) dX0_init_23 ?_
    refine g_putL (j := 5) cok0 (by decide) rfl rfl rfl rfl (Or.inl tw2_50) (fun _ => h_t) ht (fun _ => trivial) dX0_init_24 ?_
    refine g_aload_n rfl 0 rfl dX0_init_27 ?_
    refine g_aload_n rfl 1 rfl dX0_init_28 ?_
    refine g_putF (j := 0) cok0 (by decide) rfl rfl hnm rfl rfl rfl tw2_42 (fun _ => h_t) ht (fun _ => trivial) dX0_init_29 ?_
    refine g_aload_n rfl 0 rfl dX0_init_32 ?_
    refine g_aload_n rfl 2 rfl dX0_init_33 ?_
    refine g_putF (j := 1) cok0 (by decide) rfl rfl hnm rfl rfl rfl tw2_43 (fun _ => h_t) ht (fun _ => trivial) dX0_init_34 ?_
    exact g_ret hQ hr rfl rfl dX0_init_37)
def iX3_init (t : Nat) (st : St) : St :=
  pI (pI (pI (pI (pI (pI (pI (pR (iX5_init (sn st + 1) (826 : Int32) (alc (pR (alc st 9 400) t 0 (some (sn st))) 5 0)) t 1 (some (sn st + 1))) t 2 (0 : Int32)) t 3 (1 : Int32)) t 4 (0 : Int32)) t 5 (0 : Int32)) t 6 (0 : Int32)) t 7 (0 : Int32)) t 8 (0 : Int32)
theorem iX3_init_ob {t k2 a : Nat}  {st : St} (h : Obj st k2 a) : Obj (iX3_init t  st) k2 a := (iX5_init_ob (t := (sn st + 1)) (p := (826 : Int32)) (st := alc (pR (alc st 9 400) t 0 (some (sn st))) 5 0) (alc_ob (st := pR (alc st 9 400) t 0 (some (sn st))) (k := 5) (n := 0) (alc_ob (st := st) (k := 9) (n := 400) h)))
theorem iX3_init_ar {t k2 n2 a : Nat}  {st : St} (h : Arr st k2 n2 a) : Arr (iX3_init t  st) k2 n2 a := (iX5_init_ar (t := (sn st + 1)) (p := (826 : Int32)) (st := alc (pR (alc st 9 400) t 0 (some (sn st))) 5 0) (alc_ar (st := pR (alc st 9 400) t 0 (some (sn st))) (k := 5) (n := 0) (alc_ar (st := st) (k := 9) (n := 400) h)))
set_option maxHeartbeats 4000000 in
set_option maxRecDepth 100000 in
theorem kX3_init {l : Launch} {E : Ev} {st : St} {t : Nat}  (h_t : Obj st 3 t) : CM l E Wn yX3_init cX3_init 1 none 2 7 (1282) [.ref (eB E + t)] st none (iX3_init t  st) :=
  CM.intro mok_X3_init (Nat.le_of_ble_eq_true rfl) (fun x hl hR ht hr hQ hnm => by
    refine g_aload_n rfl 0 rfl dX3_init_0 ?_
    refine g_objInit tw1_90 hR (by decide) (Nat.le_of_ble_eq_true rfl) dX3_init_1 ?_
    refine g_aload_n rfl 0 rfl dX3_init_4 ?_
    refine g_sipush (400 : Int32) (by decide) dX3_init_5 ?_
    refine g_newa_byte (n := 400) 1 (400) (by decide) rfl (by decide) hR rfl rfl ⟨by first | decide | omega, by first | decide | omega⟩ ht (fun _ => trivial) dX3_init_8 ?_
    have h_t : Obj (alc st 9 400) 3 t := alc_ob (st := st) (k := 9) (n := 400) h_t
    have h_n1 : Arr (alc st 9 400) 9 400 (sn st) := alc_new
    refine g_putF (j := 0) cok3 (by decide) rfl rfl hnm rfl rfl rfl tw1_142 (fun _ => h_t) ht (fun _ => trivial) dX3_init_10 ?_
    refine g_aload_n rfl 0 rfl dX3_init_13 ?_
    refine g_new 2 (408) cok5 tw1_91 tw1_92 tw1_4 (by decide +kernel) hR rfl rfl ⟨by decide, by first | decide | omega⟩ ht (fun _ => trivial) dX3_init_14 ?_
    have h_t : Obj (alc (pR (alc st 9 400) t 0 (some (sn st))) 5 0) 3 t := alc_ob (st := pR (alc st 9 400) t 0 (some (sn st))) (k := 5) (n := 0) h_t
    have h_n1 : Arr (alc (pR (alc st 9 400) t 0 (some (sn st))) 5 0) 9 400 (sn st) := alc_ar (st := pR (alc st 9 400) t 0 (some (sn st))) (k := 5) (n := 0) h_n1
    have h_o2 : Obj (alc (pR (alc st 9 400) t 0 (some (sn st))) 5 0) 5 (sn st + 1) := alc_new.obj
    refine g_dup rfl dX3_init_17 ?_
    refine g_sipush (826 : Int32) (by decide) dX3_init_18 ?_
    refine g_callIN (As := [.int (826 : Int32)]) (rest := [.ref (eB E + (sn st + 1)), .ref (eB E + t)]) 7 (1282) mok_X5_init rfl nmm_2 tw1_94 hR (by decide) (kX5_init h_o2 (by decide) (by decide)) rfl rfl (Nat.le_of_ble_eq_true rfl) rfl (by decide) ⟨by decide, by first | decide | omega⟩ rfl dX3_init_21 ?_
    have h_t : Obj (iX5_init (sn st + 1) (826 : Int32) (alc (pR (alc st 9 400) t 0 (some (sn st))) 5 0)) 3 t := iX5_init_ob (t := (sn st + 1)) (p := (826 : Int32)) (st := alc (pR (alc st 9 400) t 0 (some (sn st))) 5 0) h_t
    have h_n1 : Arr (iX5_init (sn st + 1) (826 : Int32) (alc (pR (alc st 9 400) t 0 (some (sn st))) 5 0)) 9 400 (sn st) := iX5_init_ar (t := (sn st + 1)) (p := (826 : Int32)) (st := alc (pR (alc st 9 400) t 0 (some (sn st))) 5 0) h_n1
    have h_o2 : Obj (iX5_init (sn st + 1) (826 : Int32) (alc (pR (alc st 9 400) t 0 (some (sn st))) 5 0)) 5 (sn st + 1) := iX5_init_ob (t := (sn st + 1)) (p := (826 : Int32)) (st := alc (pR (alc st 9 400) t 0 (some (sn st))) 5 0) h_o2
    refine g_putF (j := 1) cok3 (by decide) rfl rfl hnm rfl rfl rfl tw1_144 (fun _ => h_t) ht (fun _ => trivial) dX3_init_24 ?_
    refine g_aload_n rfl 0 rfl dX3_init_27 ?_
    refine g_iconst (0 : Int32) (by decide) dX3_init_28 ?_
    refine g_putI (j := 2) cok3 (by decide) rfl rfl rfl rfl (Or.inl tw1_146) (fun _ => h_t) ht (fun _ => trivial) dX3_init_29 ?_
    refine g_aload_n rfl 0 rfl dX3_init_32 ?_
    refine g_iconst (1 : Int32) (by decide) dX3_init_33 ?_
    refine g_putI (j := 3) cok3 (by decide) rfl rfl rfl rfl (Or.inl tw1_148) (fun _ => h_t) ht (fun _ => trivial) dX3_init_34 ?_
    refine g_aload_n rfl 0 rfl dX3_init_37 ?_
    refine g_iconst (0 : Int32) (by decide) dX3_init_38 ?_
    refine g_putI (j := 4) cok3 (by decide) rfl rfl rfl rfl (Or.inl tw1_149) (fun _ => h_t) ht (fun _ => trivial) dX3_init_39 ?_
    refine g_aload_n rfl 0 rfl dX3_init_42 ?_
    refine g_iconst (0 : Int32) (by decide) dX3_init_43 ?_
    refine g_putI (j := 5) cok3 (by decide) rfl rfl rfl rfl (Or.inl tw1_150) (fun _ => h_t) ht (fun _ => trivial) dX3_init_44 ?_
    refine g_aload_n rfl 0 rfl dX3_init_47 ?_
    refine g_iconst (0 : Int32) (by decide) dX3_init_48 ?_
    refine g_putI (j := 6) cok3 (by decide) rfl rfl rfl rfl (Or.inl tw1_151) (fun _ => h_t) ht (fun _ => trivial) dX3_init_49 ?_
    refine g_aload_n rfl 0 rfl dX3_init_52 ?_
    refine g_iconst (0 : Int32) (by decide) dX3_init_53 ?_
    refine g_putI (j := 7) cok3 (by decide) rfl rfl rfl rfl (Or.inl tw1_152) (fun _ => h_t) ht (fun _ => trivial) dX3_init_54 ?_
    refine g_aload_n rfl 0 rfl dX3_init_57 ?_
    refine g_iconst (0 : Int32) (by decide) dX3_init_58 ?_
    refine g_putI (j := 8) cok3 (by decide) rfl rfl rfl rfl (Or.inl tw1_153) (fun _ => h_t) ht (fun _ => trivial) dX3_init_59 ?_
    exact g_ret hQ hr rfl rfl dX3_init_62)
