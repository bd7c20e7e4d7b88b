/-! what is come to first -/
theorem pigeon : ∀ (n : Nat) (V : List Nat), V.Nodup → (∀ t ∈ V, t < n) → V.length ≤ n := by
  intro n
  induction n with
  | zero =>
    intro V _ h
    cases V with
    | nil => simp
    | cons a V => exact absurd (h a (by simp)) (by omega)
  | succ n ih =>
    intro V hd h
    by_cases c : n ∈ V
    · have h1 := ih (V.erase n) (hd.erase n) (fun t ht => by
        have h2 := h t (List.mem_of_mem_erase ht)
        have h3 : t ≠ n := fun e => by rw [e] at ht; exact hd.not_mem_erase ht
        omega)
      rw [List.length_erase_of_mem c] at h1
      omega
    · have := ih V hd (fun t ht => by
        have h2 := h t ht
        have h3 : t ≠ n := fun e => by rw [e] at ht; exact c ht
        omega)
      omega
abbrev Qe : Type := Nat × List Nat
def newB (x : Rg) (s : Nat) (p : List Nat) : Nat → Nat → List Nat → List Qe
  | 0, _, _ => []
  | k + 1, r, V => if ldA x s r ∈ V then newB x s p k (r + 1) V else (ldA x s r, r :: p) :: newB x s p k (r + 1) (V ++ [ldA x s r])
def bfP (x : Rg) (G : Int32) : Nat → List Nat → List Qe → Option (List Nat)
  | 0, _, _ => none
  | _ + 1, _, [] => none
  | f + 1, V, (s, p) :: P => if nI (s / 6) = G then some p else if 2 ≤ pc (s / 6) then bfP x G f (V ++ (newB x s p (x.1 17) 0 V).map (·.1)) (P ++ newB x s p (x.1 17) 0 V) else bfP x G f V P
/-- states as they come about -/
def Cn (x : Rg) (s : Nat) : Prop := s / 6 < 2 ^ x.1 16 ∧ (1 ≤ x.1 16 → s % 6 < x.1 16)
theorem Cn.lt {x : Rg} {s : Nat} (g : GdR x) (h : Cn x s) : s < 384 := by
  have := p64 g.1
  have := h.1
  omega
theorem ld_Cn {x : Rg} {s r : Nat} (g : GdR x) (hs : s / 6 < 2 ^ x.1 16) (hp : 2 ≤ pc (s / 6)) : Cn x (ldA x s r) := by
  have h64 := p64 g.1
  have hn1 : 1 ≤ x.1 16 := by
    have := pc2 _ (show s / 6 < 64 by omega) hp
    by_cases z : x.1 16 = 0
    · rw [z] at hs; omega
    · omega
  have := ld_lt (r := r) g hn1 hs
  exact ⟨this.1, fun _ => this.2.1⟩
theorem new_V {x : Rg} {s : Nat} {p : List Nat} : ∀ (k r : Nat) (V : List Nat), V.Nodup → (V ++ (newB x s p k r V).map (·.1)).Nodup := by
  intro k
  induction k with
  | zero => intro r V h; simpa [newB] using h
  | succ k ih =>
    intro r V h
    unfold newB
    by_cases c : ldA x s r ∈ V
    · rw [if_pos c]; exact ih (r + 1) V h
    · rw [if_neg c]
      have h2 : (V ++ [ldA x s r]).Nodup := by
        rw [List.nodup_append]
        exact ⟨h, by simp, fun a ha b hb => by
          simp at hb
          rw [hb]; exact fun e => c (by rw [← e]; exact ha)⟩
      have := ih (r + 1) (V ++ [ldA x s r]) h2
      simpa using this
theorem new_C {x : Rg} {s : Nat} {p : List Nat} {Q : Nat → Prop} (hQ : ∀ r, Q (ldA x s r)) : ∀ (k r : Nat) (V : List Nat), ∀ e ∈ newB x s p k r V, Q e.1 := by
  intro k
  induction k with
  | zero => intro r V e he; simp [newB] at he
  | succ k ih =>
    intro r V e he
    unfold newB at he
    by_cases c : ldA x s r ∈ V
    · rw [if_pos c] at he; exact ih _ _ e he
    · rw [if_neg c] at he
      rcases List.mem_cons.mp he with h | h
      · rw [h]; exact hQ r
      · exact ih _ _ e h
theorem new_all {x : Rg} {s : Nat} {p : List Nat} : ∀ (k r : Nat) (V : List Nat) (r' : Nat), r ≤ r' → r' < r + k → ldA x s r' ∈ V ++ (newB x s p k r V).map (·.1) := by
  intro k
  induction k with
  | zero => intro r V r' h1 h2; omega
  | succ k ih =>
    intro r V r' h1 h2
    unfold newB
    by_cases c : ldA x s r ∈ V
    · rw [if_pos c]
      by_cases e : r' = r
      · rw [e]; exact List.mem_append_left _ c
      · exact ih (r + 1) V r' (by omega) (by omega)
    · rw [if_neg c]
      by_cases e : r' = r
      · rw [e]; simp
      · have := ih (r + 1) (V ++ [ldA x s r]) r' (by omega) (by omega)
        simpa using this
/-- two runs that differ by the name of where they begin -/
theorem new_rel {x : Rg} {s s' sC : Nat} {p : List Nat} (hl : ∀ r, ldA x s r = ldA x s' r) (hC : ∀ r, Cn x (ldA x s r)) : ∀ (k r : Nat) (VM VC : List Nat), (∀ t, Cn x t → (t ∈ VC ↔ t ∈ VM ∨ t = sC)) → newB x s' p k r VC = (newB x s p k r VM).filter (fun e => e.1 != sC) ∧ (∀ t, Cn x t → (t ∈ VC ++ (newB x s' p k r VC).map (·.1) ↔ t ∈ VM ++ (newB x s p k r VM).map (·.1) ∨ t = sC)) := by
  intro k
  induction k with
  | zero => intro r VM VC h; exact ⟨rfl, by simpa [newB] using h⟩
  | succ k ih =>
    intro r VM VC h
    unfold newB
    rw [← hl r]
    have ht := h _ (hC r)
    by_cases c : ldA x s r ∈ VM
    · rw [if_pos c, if_pos (ht.mpr (Or.inl c))]
      exact ih (r + 1) VM VC h
    · rw [if_neg c]
      by_cases e : ldA x s r = sC
      · rw [if_pos (ht.mpr (Or.inr e))]
        obtain ⟨i1, i2⟩ := ih (r + 1) (VM ++ [ldA x s r]) VC (fun t hct => by
          rw [h t hct, List.mem_append, e]
          simp)
        refine ⟨?_, fun t hct => ?_⟩
        · rw [i1, List.filter_cons, if_neg (by simp [e])]
        · rw [i2 t hct]; simp
      · have c' : ¬ ldA x s r ∈ VC := fun hh => by
          rcases ht.mp hh with q | q
          · exact c q
          · exact e q
        rw [if_neg c']
        obtain ⟨i1, i2⟩ := ih (r + 1) (VM ++ [ldA x s r]) (VC ++ [ldA x s r]) (fun t hct => by
          rw [List.mem_append, List.mem_append, h t hct]
          constructor
          · rintro ((a | a) | a)
            · exact Or.inl (Or.inl a)
            · exact Or.inr a
            · exact Or.inl (Or.inr a)
          · rintro ((a | a) | a)
            · exact Or.inl (Or.inl a)
            · exact Or.inr a
            · exact Or.inl (Or.inr a))
        refine ⟨?_, fun t hct => ?_⟩
        · rw [i1, List.filter_cons, if_pos (by simp [e])]
        · have := i2 t hct
          simpa using this
def Vd (V : List Nat) : Prop := V.Nodup ∧ ∀ t ∈ V, t < 384
theorem Vd.le {V : List Nat} (h : Vd V) : V.length ≤ 384 := pigeon 384 V h.1 h.2
theorem Vd.new {x : Rg} {s k r : Nat} {p : List Nat} {V : List Nat} (g : GdR x) (hC : ∀ r, Cn x (ldA x s r)) (h : Vd V) : Vd (V ++ (newB x s p k r V).map (·.1)) := by
  refine ⟨new_V k r V h.1, fun t ht => ?_⟩
  rcases List.mem_append.mp ht with q | q
  · exact h.2 t q
  · obtain ⟨e, e1, e2⟩ := List.mem_map.mp q
    rw [← e2]
    exact (new_C (Q := Cn x) hC k r V e e1).lt g
theorem bf_rel {x : Rg} {G : Int32} {sC : Nat} (g : GdR x) (hG : ¬ nI (sC / 6) = G) : ∀ (fM fC : Nat) (VM VC : List Nat) (PM PC : List Qe), (∀ t, Cn x t → (t ∈ VC ↔ t ∈ VM ∨ t = sC)) → PC = PM.filter (fun e => e.1 != sC) → (∀ r, r < x.1 17 → ldA x sC r ∈ VM) → (∀ e ∈ PM, Cn x e.1) → Vd VM → Vd VC → PM.length + (384 - VM.length) < fM → PC.length + (384 - VC.length) < fC → bfP x G fM VM PM = bfP x G fC VC PC := by
  intro fM
  induction fM with
  | zero => intro fC VM VC PM PC _ _ _ _ _ _ h; omega
  | succ fM ih =>
    intro fC VM VC PM PC ha hb hc hd vM vC h1 h2
    obtain ⟨fC, rfl⟩ : ∃ j, fC = j + 1 := ⟨fC - 1, by omega⟩
    cases PM with
    | nil => rw [hb]; rfl
    | cons e PM =>
      obtain ⟨s, p⟩ := e
      have hCs : Cn x s := hd (s, p) (by simp)
      by_cases es : s = sC
      · -- what was begun with, come to again
        have hf : ((s, p) :: PM).filter (fun e => e.1 != sC) = PM.filter (fun e => e.1 != sC) := by
          rw [List.filter_cons, if_neg (by simp [es])]
        rw [hf] at hb
        conv => lhs; unfold bfP
        rw [es, if_neg hG]
        have none_new : ∀ (k r : Nat), r + k ≤ x.1 17 → newB x sC p k r VM = [] := by
          intro k
          induction k with
          | zero => intro r _; rfl
          | succ k ihk =>
            intro r hr
            unfold newB
            rw [if_pos (hc r (by omega))]
            exact ihk (r + 1) (by omega)
        have hz := none_new (x.1 17) 0 (by omega)
        simp only [List.length_cons] at h1
        have key : bfP x G fM VM PM = bfP x G (fC + 1) VC PC := ih (fC + 1) VM VC PM PC ha hb hc (fun e he => hd e (by simp [he])) vM vC (by omega) h2
        rw [hz]
        simp only [List.map_nil, List.append_nil, ite_self]
        exact key
      · have hf : ((s, p) :: PM).filter (fun e => e.1 != sC) = (s, p) :: PM.filter (fun e => e.1 != sC) := by
          rw [List.filter_cons, if_pos (by simp [es])]
        rw [hf] at hb
        rw [hb] at h2 ⊢
        unfold bfP
        by_cases q : nI (s / 6) = G
        · rw [if_pos q, if_pos q]
        · rw [if_neg q, if_neg q]
          simp only [List.length_cons] at h1 h2
          by_cases q2 : 2 ≤ pc (s / 6)
          · rw [if_pos q2, if_pos q2]
            have hC : ∀ r, Cn x (ldA x s r) := fun r => ld_Cn g hCs.1 q2
            obtain ⟨n1, n2⟩ := new_rel (s' := s) (p := p) (fun _ => rfl) hC (x.1 17) 0 VM VC ha
            have vM' := Vd.new (k := x.1 17) (r := 0) (p := p) g hC vM
            have vC' := Vd.new (k := x.1 17) (r := 0) (p := p) g hC vC
            have lM := vM'.le
            have lC := vC'.le
            refine ih fC _ _ _ _ n2 ?_ (fun r hr => List.mem_append_left _ (hc r hr)) (fun e he => ?_) vM' vC' ?_ ?_
            · rw [n1, List.filter_append]
            · rcases List.mem_append.mp he with w | w
              · exact hd e (by simp [w])
              · exact new_C (Q := Cn x) hC _ _ _ e w
            · simp only [List.length_append, List.length_map] at lM ⊢
              omega
            · simp only [List.length_append, List.length_map] at lC ⊢
              omega
          · rw [if_neg q2, if_neg q2]
            exact ih fC VM VC PM _ ha rfl hc (fun e he => hd e (by simp [he])) vM vC (by omega) (by omega)
theorem bf_start {x : Rg} {G : Int32} {sM sC : Nat} (g : GdR x) (hn1 : 1 ≤ x.1 16) (h6 : sM / 6 = sC / 6) (hs : sM / 6 < 2 ^ x.1 16) (hC : Cn x sC) (hc : cnS x sM = sC) (h3 : sM < 384) : bfP x G 385 [sM] [(sM, [])] = bfP x G 385 [sC] [(sC, [])] := by
  by_cases e : sM = sC
  · rw [e]
  · have nM : ¬ Cn x sM := fun h => e (by rw [← hc, cn_id (h.2 hn1)])
    show (if nI (sM / 6) = G then _ else _) = (if nI (sC / 6) = G then _ else _)
    rw [h6]
    by_cases q : nI (sC / 6) = G
    · rw [if_pos q, if_pos q]
    · rw [if_neg q, if_neg q]
      by_cases q2 : 2 ≤ pc (sC / 6)
      · rw [if_pos q2, if_pos q2]
        have hl : ∀ r, ldA x sM r = ldA x sC r := fun r => by rw [← ld_cn g hn1 (s := sM), hc]
        have hCl : ∀ r, Cn x (ldA x sM r) := fun r => ld_Cn g hs (by rw [h6]; exact q2)
        have hCl' : ∀ r, Cn x (ldA x sC r) := fun r => by rw [← hl r]; exact hCl r
        obtain ⟨n1, n2⟩ := new_rel (s := sM) (s' := sC) (sC := sC) (p := []) hl hCl (x.1 17) 0 [sM] [sC] (fun t ht => by
          have : t ≠ sM := fun q => nM (by rw [← q]; exact ht)
          simp [this])
        have vM : Vd [sM] := ⟨by simp, fun t ht => by simp at ht; omega⟩
        have vC : Vd [sC] := ⟨by simp, fun t ht => by simp at ht; rw [ht]; exact hC.lt g⟩
        have vM' := Vd.new (k := x.1 17) (r := 0) (p := []) g hCl vM
        have vC' := Vd.new (k := x.1 17) (r := 0) (p := []) g hCl' vC
        have lM := vM'.le
        have lC := vC'.le
        refine bf_rel (sC := sC) g q 384 384 _ _ _ _ n2 ?_ (fun r hr => ?_) (fun e he => ?_) vM' vC' ?_ ?_
        · rw [List.nil_append, List.nil_append, n1]
        · have := new_all (x := x) (s := sM) (p := []) (x.1 17) 0 [sM] r (by omega) (by omega)
          rw [hl r] at this; exact this
        · rw [List.nil_append] at he
          exact new_C (Q := Cn x) hCl _ _ _ e he
        · simp only [List.length_append, List.length_map, List.length_cons, List.length_nil] at lM ⊢
          omega
        · simp only [List.length_append, List.length_map, List.length_cons, List.length_nil] at lC ⊢
          omega
      · rw [if_neg q2, if_neg q2]
        rfl
/-- one who is sought, once in the row, is come to -/
theorem bf_first {x : Rg} {G : Int32} {t : Nat} {p : List Nat} (ht : nI (t / 6) = G) : ∀ (f : Nat) (V : List Nat) (P R : List Qe), (∀ e ∈ P, ¬ nI (e.1 / 6) = G) → P.length < f → bfP x G f V (P ++ (t, p) :: R) = some p := by
  intro f
  induction f with
  | zero => intro V P R _ h; omega
  | succ f ih =>
    intro V P R hP hf
    cases P with
    | nil =>
      rw [List.nil_append]
      unfold bfP
      rw [if_pos ht]
    | cons e P =>
      obtain ⟨s, q⟩ := e
      rw [List.cons_append]
      unfold bfP
      simp only [List.length_cons] at hf
      rw [if_neg (hP (s, q) (by simp))]
      split
      · rw [List.append_assoc, List.cons_append]
        exact ih _ P _ (fun e he => hP e (by simp [he])) (by omega)
      · exact ih _ P _ (fun e he => hP e (by simp [he])) (by omega)
