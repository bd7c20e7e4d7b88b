theorem lg_self (r : Int64) : lg_cmp r r = 0 := by simp [lg_cmp]
abbrev LV (E : Ev) (b : Nat) (x3 : Int32) : List (Nat × Value) := [(0, .ref b), (1, .ref (eB E + 0)), (2, .ref (eB E + 38)), (3, .int x3)]
def Lw (E : Ev) (x : Cx) (b L : Nat) (ys : Nat → Int32) : Prop := xR x = room_1 ∧ va_X b L ys (xs x) (xs x).heap ∧ b < (xs x).heap.size ∧ ¬ eA E b ∧ ¬ xt x
def LawIx (x3 : Int32) (L : Nat) : Prop := vp_in (x3 + 1) L ∧ vp_in (x3 + 2) L ∧ vp_in (x3 + 3) L ∧ vp_in (x3 + 4) L ∧ vp_in (x3 + 5) L
section LawRows
variable {E : Ev} {x : Cx} {cs : Nat × Nat} {st : St} {pc : Nat} {lv lv' : List (Nat × Value)} {stk : List Value} {own : String} {cc : ByteArray} {nL : Nat}
theorem g_sld {b L : Nat} {ys : Nat → Int32} {i : Int32} (hl : Lw E x b L ys) (hi : vp_in i L) (d : decode cc pc = .ok (.iaload, 1)) (kk : G E WT x own cc nL cs st (pc + 1) lv (.int (ys i.toNatClampNeg) :: stk)) : G E WT x own cc nL cs st pc lv (.int i :: .ref b :: stk) := by
  intro C w H locs ls hH hz hS hlv
  exact va_sld C.ex C.cb hl.2.1 hl.2.2.1 hl.2.2.2.1 hS hi d (kk C w H locs ls hH hz hS hlv)
theorem g_slen0 {b L : Nat} {ys : Nat → Int32} (hl : Lw E x b L ys) (d : decode cc pc = .ok (.arraylength, 1)) (kk : G E WT x own cc nL cs st (pc + 1) lv (.int (nI L) :: stk)) : G E WT x own cc nL cs st pc lv (.ref b :: stk) := by
  intro C w H locs ls hH hz hS hlv
  exact va_slen C.ex C.cb hl.2.1 hl.2.2.1 hl.2.2.2.1 hS d (kk C w H locs ls hH hz hS hlv)
theorem g_lc {y : MethodName} {bytes : ByteArray} {maxL n idx h mc ms : Nat} {ret : Option FieldType} {As rest : List Value} {v0 : Option Value} {u0 : St} {k b N : Nat} {C : String} {T : u_T} (ck : ClsOK k C T N) (ok : MOK y bytes maxL ret n) (w1 : Cond.methodLink own idx y ∈ gtbl) (w2 : Cond.instanceMethod y ∈ gtbl) (w3 : Cond.selects C y y ∈ gtbl) (ho : WT st → Obj st k b) (hR : xR x = room_1) (hnt : ¬ xt x) (hh : h ≤ 1000) (hM : CM (xl x) E WT y bytes maxL ret h mc ms (.ref (eB E + b) :: As) st v0 u0) (hn : As.length = n) (hstk : stk = As.reverse ++ .ref (eB E + b) :: rest) (hroom : (rest.map fun v => v.category).sum ≤ 8) (hc : cs.1 + mc ≤ 600000 ∧ cs.2 + ms ≤ 7302250) (d : decode cc pc = .ok (.invokevirtual idx, 3)) (kk : G E WT x own cc nL (cs.1 + mc, cs.2 + ms) u0 (pc + 3) lv (v0.toList ++ rest)) : G E WT x own cc nL cs st pc lv stk := by
  intro C0 w H locs ls hH hz hS hl
  subst hstk
  obtain ⟨k1, k2, k3, k4, k5⟩ := ok
  have hRm : (rmh h mc ms).frames + 1 ≤ (xR x).frames ∧ 8 + (maxL + 11) + (rmh h mc ms).locals ≤ (xR x).locals := by
    rw [hR]; simp only [rmh, room_1]; omega
  have hf : cs.1 + mc ≤ (xR x).cells ∧ cs.2 + ms ≤ (xR x).slots := by rw [hR]; exact hc
  have cw : CallW (xR x) (xs x) (xa x) own C idx y bytes maxL ret (wsm y bytes maxL ret) (rmh h mc ms) mc ms n := ⟨callB_of n C0.ts (wsm_good k1) rfl rfl rfl (C0.ts _ k2) (C0.ts _ w1) k3 hRm, C0.ts _ w2, C0.ts _ w3⟩
  have hp : PreV (xs x) H C (eB E + b) (PcM E WT (.ref (eB E + b) :: As) st) As := ⟨blind, va_recv C0.K hH.1 ck.1 (wd_obj (E := E) (ho w) ck.2.2.1), pre_go C0.ew hH w hS⟩
  refine run_go (va_runV ⟨C0.ex, C0.cb, C0.ml, C0.ow, C0.ts⟩ hM cw hp rfl hn hl.1 rfl (lv_room hroom) d hf) hS (fun H1 locs1 hH1 hw1 hz1 hS1 => ?_)
  exact kk C0 hw1 H1 locs1 ls hH1 (fun ht => absurd ht hnt) hS1 hl
end LawRows
def Step0 (Inv : St → Prop) : Prop := ∀ (a1 : Int32) (st : St), Inv st → ∃ (r : Int32) (st1 : St) (st2 : St), fX7_child a1 st = some (r, st1) ∧ fX8_child a1 st1 = some (r, st2) ∧ Inv st2
set_option maxHeartbeats 1000000 in
theorem lawc_0 {E : Ev} {x : Cx} {b L : Nat} {ys : Nat → Int32} {Inv : St → Prop} (hs : Step0 Inv) (hl : Lw E x b L ys) {x3 : Int32} (hi : LawIx x3 L) {c sl : Nat} {st : St} (hI : Inv st) (hb : c + 6 ≤ 600000 ∧ sl + 882 ≤ 7302250) (kk : ∀ (c2 s2 : Nat) (st2 : St), c2 ≤ c + 6 → s2 ≤ sl + 882 → Inv st2 → G E WT x RL cL_law 4 (c2, s2) st2 1067 (LV E b x3) []) : G E WT x RL cL_law 4 (c, sl) st 184 (LV E b x3) [] := by
  obtain ⟨r, st1, st2, e1, e2, hI2⟩ := hs (ys (x3 + 1).toNatClampNeg) st hI
  refine g_aload_n rfl 1 rfl dL_law_184 ?_
  refine g_aload_n rfl 0 rfl dL_law_185 ?_
  refine g_iload_n rfl 3 rfl dL_law_186 ?_
  refine g_iconst (1 : Int32) (by decide) dL_law_187 ?_
  refine g_iadd dL_law_188 ?_
  refine g_sld hl hi.1 dL_law_189 ?_
  refine g_lc (As := [.int (ys (x3 + (1 : Int32)).toNatClampNeg)]) (rest := []) cok7 mok_X7_child tw2_110 tw2_111 tw2_112 oS0 hl.1 hl.2.2.2.2 (by decide) (kX7_child e1) rfl rfl (Nat.le_of_ble_eq_true rfl) ⟨by simp only; omega, by simp only; omega⟩ dL_law_190 ?_
  refine g_aload_n rfl 2 rfl dL_law_193 ?_
  refine g_aload_n rfl 0 rfl dL_law_194 ?_
  refine g_iload_n rfl 3 rfl dL_law_195 ?_
  refine g_iconst (1 : Int32) (by decide) dL_law_196 ?_
  refine g_iadd dL_law_197 ?_
  refine g_sld hl hi.1 dL_law_198 ?_
  refine g_lc (As := [.int (ys (x3 + (1 : Int32)).toNatClampNeg)]) (rest := [.int r]) cok8 mok_X8_child tw5_137 tw5_138 tw5_139 oS38 hl.1 hl.2.2.2.2 (by decide) (kX8_child e2) rfl rfl (Nat.le_of_ble_eq_true rfl) ⟨by simp only; omega, by simp only; omega⟩ dL_law_199 ?_
  refine g_icmp_eq 1067 (by decide) dL_law_202 (fun _ => ?_) (fun h => absurd rfl h)
  exact kk _ _ _ (by simp only; omega) (by simp only; omega) hI2
def Step1 (Inv : St → Prop) : Prop := ∀ (a1 : Int32) (a2 : Int32) (st : St), Inv st → ∃ (r : Int32) , fX7_of st a1 a2 = some r ∧ fX8_of st a1 a2 = some r
set_option maxHeartbeats 1000000 in
theorem lawc_1 {E : Ev} {x : Cx} {b L : Nat} {ys : Nat → Int32} {Inv : St → Prop} (hs : Step1 Inv) (hl : Lw E x b L ys) {x3 : Int32} (hi : LawIx x3 L) {c sl : Nat} {st : St} (hI : Inv st) (hb : c + 6 ≤ 600000 ∧ sl + 882 ≤ 7302250) (kk : ∀ (c2 s2 : Nat) (st2 : St), c2 ≤ c + 6 → s2 ≤ sl + 882 → Inv st2 → G E WT x RL cL_law 4 (c2, s2) st2 1067 (LV E b x3) []) : G E WT x RL cL_law 4 (c, sl) st 207 (LV E b x3) [] := by
  obtain ⟨r, e1, e2⟩ := hs (ys (x3 + 1).toNatClampNeg) (ys (x3 + 2).toNatClampNeg) st hI
  refine g_aload_n rfl 1 rfl dL_law_207 ?_
  refine g_aload_n rfl 0 rfl dL_law_208 ?_
  refine g_iload_n rfl 3 rfl dL_law_209 ?_
  refine g_iconst (1 : Int32) (by decide) dL_law_210 ?_
  refine g_iadd dL_law_211 ?_
  refine g_sld hl hi.1 dL_law_212 ?_
  refine g_aload_n rfl 0 rfl dL_law_213 ?_
  refine g_iload_n rfl 3 rfl dL_law_214 ?_
  refine g_iconst (2 : Int32) (by decide) dL_law_215 ?_
  refine g_iadd dL_law_216 ?_
  refine g_sld hl hi.2.1 dL_law_217 ?_
  refine g_lc (As := [.int (ys (x3 + (1 : Int32)).toNatClampNeg), .int (ys (x3 + (2 : Int32)).toNatClampNeg)]) (rest := []) cok7 mok_X7_of tw2_142 tw2_143 tw2_144 oS0 hl.1 hl.2.2.2.2 (by decide) (kX7_of e1) rfl rfl (Nat.le_of_ble_eq_true rfl) ⟨by simp only; omega, by simp only; omega⟩ dL_law_218 ?_
  refine g_aload_n rfl 2 rfl dL_law_221 ?_
  refine g_aload_n rfl 0 rfl dL_law_222 ?_
  refine g_iload_n rfl 3 rfl dL_law_223 ?_
  refine g_iconst (1 : Int32) (by decide) dL_law_224 ?_
  refine g_iadd dL_law_225 ?_
  refine g_sld hl hi.1 dL_law_226 ?_
  refine g_aload_n rfl 0 rfl dL_law_227 ?_
  refine g_iload_n rfl 3 rfl dL_law_228 ?_
  refine g_iconst (2 : Int32) (by decide) dL_law_229 ?_
  refine g_iadd dL_law_230 ?_
  refine g_sld hl hi.2.1 dL_law_231 ?_
  refine g_lc (As := [.int (ys (x3 + (1 : Int32)).toNatClampNeg), .int (ys (x3 + (2 : Int32)).toNatClampNeg)]) (rest := [.int r]) cok8 mok_X8_of tw5_145 tw5_146 tw5_147 oS38 hl.1 hl.2.2.2.2 (by decide) (kX8_of e2) rfl rfl (Nat.le_of_ble_eq_true rfl) ⟨by simp only; omega, by simp only; omega⟩ dL_law_232 ?_
  refine g_icmp_eq 1067 (by decide) dL_law_235 (fun _ => ?_) (fun h => absurd rfl h)
  exact kk _ _ _ (by simp only; omega) (by simp only; omega) hI
def Step2 (Inv : St → Prop) : Prop := ∀ (a1 : Int32) (st : St), Inv st → ∃ (r : Int32) (st1 : St) (st2 : St), fX7_rhyme a1 st = some (r, st1) ∧ fX8_rhyme a1 st1 = some (r, st2) ∧ Inv st2
set_option maxHeartbeats 1000000 in
theorem lawc_2 {E : Ev} {x : Cx} {b L : Nat} {ys : Nat → Int32} {Inv : St → Prop} (hs : Step2 Inv) (hl : Lw E x b L ys) {x3 : Int32} (hi : LawIx x3 L) {c sl : Nat} {st : St} (hI : Inv st) (hb : c + 6 ≤ 600000 ∧ sl + 882 ≤ 7302250) (kk : ∀ (c2 s2 : Nat) (st2 : St), c2 ≤ c + 6 → s2 ≤ sl + 882 → Inv st2 → G E WT x RL cL_law 4 (c2, s2) st2 1067 (LV E b x3) []) : G E WT x RL cL_law 4 (c, sl) st 240 (LV E b x3) [] := by
  obtain ⟨r, st1, st2, e1, e2, hI2⟩ := hs (ys (x3 + 1).toNatClampNeg) st hI
  refine g_aload_n rfl 1 rfl dL_law_240 ?_
  refine g_aload_n rfl 0 rfl dL_law_241 ?_
  refine g_iload_n rfl 3 rfl dL_law_242 ?_
  refine g_iconst (1 : Int32) (by decide) dL_law_243 ?_
  refine g_iadd dL_law_244 ?_
  refine g_sld hl hi.1 dL_law_245 ?_
  refine g_lc (As := [.int (ys (x3 + (1 : Int32)).toNatClampNeg)]) (rest := []) cok7 mok_X7_rhyme tw2_150 tw2_151 tw2_152 oS0 hl.1 hl.2.2.2.2 (by decide) (kX7_rhyme e1) rfl rfl (Nat.le_of_ble_eq_true rfl) ⟨by simp only; omega, by simp only; omega⟩ dL_law_246 ?_
  refine g_aload_n rfl 2 rfl dL_law_249 ?_
  refine g_aload_n rfl 0 rfl dL_law_250 ?_
  refine g_iload_n rfl 3 rfl dL_law_251 ?_
  refine g_iconst (1 : Int32) (by decide) dL_law_252 ?_
  refine g_iadd dL_law_253 ?_
  refine g_sld hl hi.1 dL_law_254 ?_
  refine g_lc (As := [.int (ys (x3 + (1 : Int32)).toNatClampNeg)]) (rest := [.int r]) cok8 mok_X8_rhyme tw5_153 tw5_154 tw5_155 oS38 hl.1 hl.2.2.2.2 (by decide) (kX8_rhyme e2) rfl rfl (Nat.le_of_ble_eq_true rfl) ⟨by simp only; omega, by simp only; omega⟩ dL_law_255 ?_
  refine g_icmp_eq 1067 (by decide) dL_law_258 (fun _ => ?_) (fun h => absurd rfl h)
  exact kk _ _ _ (by simp only; omega) (by simp only; omega) hI2
def Step3 (Inv : St → Prop) : Prop := ∀ (a1 : Int32) (st : St), Inv st → ∃ (r : Int32) , fX7_beats st a1 = some r ∧ fX8_beats st a1 = some r
set_option maxHeartbeats 1000000 in
theorem lawc_3 {E : Ev} {x : Cx} {b L : Nat} {ys : Nat → Int32} {Inv : St → Prop} (hs : Step3 Inv) (hl : Lw E x b L ys) {x3 : Int32} (hi : LawIx x3 L) {c sl : Nat} {st : St} (hI : Inv st) (hb : c + 6 ≤ 600000 ∧ sl + 882 ≤ 7302250) (kk : ∀ (c2 s2 : Nat) (st2 : St), c2 ≤ c + 6 → s2 ≤ sl + 882 → Inv st2 → G E WT x RL cL_law 4 (c2, s2) st2 1067 (LV E b x3) []) : G E WT x RL cL_law 4 (c, sl) st 263 (LV E b x3) [] := by
  obtain ⟨r, e1, e2⟩ := hs (ys (x3 + 1).toNatClampNeg) st hI
  refine g_aload_n rfl 1 rfl dL_law_263 ?_
  refine g_aload_n rfl 0 rfl dL_law_264 ?_
  refine g_iload_n rfl 3 rfl dL_law_265 ?_
  refine g_iconst (1 : Int32) (by decide) dL_law_266 ?_
  refine g_iadd dL_law_267 ?_
  refine g_sld hl hi.1 dL_law_268 ?_
  refine g_lc (As := [.int (ys (x3 + (1 : Int32)).toNatClampNeg)]) (rest := []) cok7 mok_X7_beats tw2_154 tw2_155 tw2_156 oS0 hl.1 hl.2.2.2.2 (by decide) (kX7_beats e1) rfl rfl (Nat.le_of_ble_eq_true rfl) ⟨by simp only; omega, by simp only; omega⟩ dL_law_269 ?_
  refine g_aload_n rfl 2 rfl dL_law_272 ?_
  refine g_aload_n rfl 0 rfl dL_law_273 ?_
  refine g_iload_n rfl 3 rfl dL_law_274 ?_
  refine g_iconst (1 : Int32) (by decide) dL_law_275 ?_
  refine g_iadd dL_law_276 ?_
  refine g_sld hl hi.1 dL_law_277 ?_
  refine g_lc (As := [.int (ys (x3 + (1 : Int32)).toNatClampNeg)]) (rest := [.int r]) cok8 mok_X8_beats tw5_157 tw5_158 tw5_159 oS38 hl.1 hl.2.2.2.2 (by decide) (kX8_beats e2) rfl rfl (Nat.le_of_ble_eq_true rfl) ⟨by simp only; omega, by simp only; omega⟩ dL_law_278 ?_
  refine g_icmp_eq 1067 (by decide) dL_law_281 (fun _ => ?_) (fun h => absurd rfl h)
  exact kk _ _ _ (by simp only; omega) (by simp only; omega) hI
def Step4 (Inv : St → Prop) : Prop := ∀ (a1 : Int32) (a2 : Int32) (a3 : Int32) (a4 : Int32) (st : St), Inv st → ∃ (r : Int32) (st1 : St) (st2 : St), fX7_asks a1 a2 a3 a4 st = some (r, st1) ∧ fX8_asks a1 a2 a3 a4 st1 = some (r, st2) ∧ Inv st2
set_option maxHeartbeats 1000000 in
theorem lawc_4 {E : Ev} {x : Cx} {b L : Nat} {ys : Nat → Int32} {Inv : St → Prop} (hs : Step4 Inv) (hl : Lw E x b L ys) {x3 : Int32} (hi : LawIx x3 L) {c sl : Nat} {st : St} (hI : Inv st) (hb : c + 6 ≤ 600000 ∧ sl + 882 ≤ 7302250) (kk : ∀ (c2 s2 : Nat) (st2 : St), c2 ≤ c + 6 → s2 ≤ sl + 882 → Inv st2 → G E WT x RL cL_law 4 (c2, s2) st2 1067 (LV E b x3) []) : G E WT x RL cL_law 4 (c, sl) st 286 (LV E b x3) [] := by
  obtain ⟨r, st1, st2, e1, e2, hI2⟩ := hs (ys (x3 + 1).toNatClampNeg) (ys (x3 + 2).toNatClampNeg) (ys (x3 + 3).toNatClampNeg) (ys (x3 + 4).toNatClampNeg) st hI
  refine g_aload_n rfl 1 rfl dL_law_286 ?_
  refine g_aload_n rfl 0 rfl dL_law_287 ?_
  refine g_iload_n rfl 3 rfl dL_law_288 ?_
  refine g_iconst (1 : Int32) (by decide) dL_law_289 ?_
  refine g_iadd dL_law_290 ?_
  refine g_sld hl hi.1 dL_law_291 ?_
  refine g_aload_n rfl 0 rfl dL_law_292 ?_
  refine g_iload_n rfl 3 rfl dL_law_293 ?_
  refine g_iconst (2 : Int32) (by decide) dL_law_294 ?_
  refine g_iadd dL_law_295 ?_
  refine g_sld hl hi.2.1 dL_law_296 ?_
  refine g_aload_n rfl 0 rfl dL_law_297 ?_
  refine g_iload_n rfl 3 rfl dL_law_298 ?_
  refine g_iconst (3 : Int32) (by decide) dL_law_299 ?_
  refine g_iadd dL_law_300 ?_
  refine g_sld hl hi.2.2.1 dL_law_301 ?_
  refine g_aload_n rfl 0 rfl dL_law_302 ?_
  refine g_iload_n rfl 3 rfl dL_law_303 ?_
  refine g_iconst (4 : Int32) (by decide) dL_law_304 ?_
  refine g_iadd dL_law_305 ?_
  refine g_sld hl hi.2.2.2.1 dL_law_306 ?_
  refine g_lc (As := [.int (ys (x3 + (1 : Int32)).toNatClampNeg), .int (ys (x3 + (2 : Int32)).toNatClampNeg), .int (ys (x3 + (3 : Int32)).toNatClampNeg), .int (ys (x3 + (4 : Int32)).toNatClampNeg)]) (rest := []) cok7 mok_X7_asks tw2_162 tw2_163 tw2_164 oS0 hl.1 hl.2.2.2.2 (by decide) (kX7_asks e1) rfl rfl (Nat.le_of_ble_eq_true rfl) ⟨by simp only; omega, by simp only; omega⟩ dL_law_307 ?_
  refine g_aload_n rfl 2 rfl dL_law_310 ?_
  refine g_aload_n rfl 0 rfl dL_law_311 ?_
  refine g_iload_n rfl 3 rfl dL_law_312 ?_
  refine g_iconst (1 : Int32) (by decide) dL_law_313 ?_
  refine g_iadd dL_law_314 ?_
  refine g_sld hl hi.1 dL_law_315 ?_
  refine g_aload_n rfl 0 rfl dL_law_316 ?_
  refine g_iload_n rfl 3 rfl dL_law_317 ?_
  refine g_iconst (2 : Int32) (by decide) dL_law_318 ?_
  refine g_iadd dL_law_319 ?_
  refine g_sld hl hi.2.1 dL_law_320 ?_
  refine g_aload_n rfl 0 rfl dL_law_321 ?_
  refine g_iload_n rfl 3 rfl dL_law_322 ?_
  refine g_iconst (3 : Int32) (by decide) dL_law_323 ?_
  refine g_iadd dL_law_324 ?_
  refine g_sld hl hi.2.2.1 dL_law_325 ?_
  refine g_aload_n rfl 0 rfl dL_law_326 ?_
  refine g_iload_n rfl 3 rfl dL_law_327 ?_
  refine g_iconst (4 : Int32) (by decide) dL_law_328 ?_
  refine g_iadd dL_law_329 ?_
  refine g_sld hl hi.2.2.2.1 dL_law_330 ?_
  refine g_lc (As := [.int (ys (x3 + (1 : Int32)).toNatClampNeg), .int (ys (x3 + (2 : Int32)).toNatClampNeg), .int (ys (x3 + (3 : Int32)).toNatClampNeg), .int (ys (x3 + (4 : Int32)).toNatClampNeg)]) (rest := [.int r]) cok8 mok_X8_asks tw6_57 tw6_58 tw6_59 oS38 hl.1 hl.2.2.2.2 (by decide) (kX8_asks e2) rfl rfl (Nat.le_of_ble_eq_true rfl) ⟨by simp only; omega, by simp only; omega⟩ dL_law_331 ?_
  refine g_icmp_eq 1067 (by decide) dL_law_334 (fun _ => ?_) (fun h => absurd rfl h)
  exact kk _ _ _ (by simp only; omega) (by simp only; omega) hI2
def Step5 (Inv : St → Prop) : Prop := ∀ (a1 : Int32) (a2 : Int32) (st : St), Inv st → ∃ (r : Int32) (st1 : St) (st2 : St), fX7_terms a1 a2 st = some (r, st1) ∧ fX8_terms a1 a2 st1 = some (r, st2) ∧ Inv st2
set_option maxHeartbeats 1000000 in
theorem lawc_5 {E : Ev} {x : Cx} {b L : Nat} {ys : Nat → Int32} {Inv : St → Prop} (hs : Step5 Inv) (hl : Lw E x b L ys) {x3 : Int32} (hi : LawIx x3 L) {c sl : Nat} {st : St} (hI : Inv st) (hb : c + 6 ≤ 600000 ∧ sl + 882 ≤ 7302250) (kk : ∀ (c2 s2 : Nat) (st2 : St), c2 ≤ c + 6 → s2 ≤ sl + 882 → Inv st2 → G E WT x RL cL_law 4 (c2, s2) st2 1067 (LV E b x3) []) : G E WT x RL cL_law 4 (c, sl) st 339 (LV E b x3) [] := by
  obtain ⟨r, st1, st2, e1, e2, hI2⟩ := hs (ys (x3 + 1).toNatClampNeg) (ys (x3 + 2).toNatClampNeg) st hI
  refine g_aload_n rfl 1 rfl dL_law_339 ?_
  refine g_aload_n rfl 0 rfl dL_law_340 ?_
  refine g_iload_n rfl 3 rfl dL_law_341 ?_
  refine g_iconst (1 : Int32) (by decide) dL_law_342 ?_
  refine g_iadd dL_law_343 ?_
  refine g_sld hl hi.1 dL_law_344 ?_
  refine g_aload_n rfl 0 rfl dL_law_345 ?_
  refine g_iload_n rfl 3 rfl dL_law_346 ?_
  refine g_iconst (2 : Int32) (by decide) dL_law_347 ?_
  refine g_iadd dL_law_348 ?_
  refine g_sld hl hi.2.1 dL_law_349 ?_
  refine g_lc (As := [.int (ys (x3 + (1 : Int32)).toNatClampNeg), .int (ys (x3 + (2 : Int32)).toNatClampNeg)]) (rest := []) cok7 mok_X7_terms tw2_216 tw2_217 tw2_218 oS0 hl.1 hl.2.2.2.2 (by decide) (kX7_terms e1) rfl rfl (Nat.le_of_ble_eq_true rfl) ⟨by simp only; omega, by simp only; omega⟩ dL_law_350 ?_
  refine g_aload_n rfl 2 rfl dL_law_353 ?_
  refine g_aload_n rfl 0 rfl dL_law_354 ?_
  refine g_iload_n rfl 3 rfl dL_law_355 ?_
  refine g_iconst (1 : Int32) (by decide) dL_law_356 ?_
  refine g_iadd dL_law_357 ?_
  refine g_sld hl hi.1 dL_law_358 ?_
  refine g_aload_n rfl 0 rfl dL_law_359 ?_
  refine g_iload_n rfl 3 rfl dL_law_360 ?_
  refine g_iconst (2 : Int32) (by decide) dL_law_361 ?_
  refine g_iadd dL_law_362 ?_
  refine g_sld hl hi.2.1 dL_law_363 ?_
  refine g_lc (As := [.int (ys (x3 + (1 : Int32)).toNatClampNeg), .int (ys (x3 + (2 : Int32)).toNatClampNeg)]) (rest := [.int r]) cok8 mok_X8_terms tw5_165 tw5_166 tw5_167 oS38 hl.1 hl.2.2.2.2 (by decide) (kX8_terms e2) rfl rfl (Nat.le_of_ble_eq_true rfl) ⟨by simp only; omega, by simp only; omega⟩ dL_law_364 ?_
  refine g_icmp_eq 1067 (by decide) dL_law_367 (fun _ => ?_) (fun h => absurd rfl h)
  exact kk _ _ _ (by simp only; omega) (by simp only; omega) hI2
def Step6 (Inv : St → Prop) : Prop := ∀ (a1 : Int32) (a2 : Int32) (a3 : Int32) (a4 : Int32) (a5 : Int32) (st : St), Inv st → ∃ (r : Int32) (st1 : St) (st2 : St), fX7_feed a1 a2 a3 a4 a5 st = some (r, st1) ∧ fX8_feed a1 a2 a3 a4 a5 st1 = some (r, st2) ∧ Inv st2
set_option maxHeartbeats 1000000 in
theorem lawc_6 {E : Ev} {x : Cx} {b L : Nat} {ys : Nat → Int32} {Inv : St → Prop} (hs : Step6 Inv) (hl : Lw E x b L ys) {x3 : Int32} (hi : LawIx x3 L) {c sl : Nat} {st : St} (hI : Inv st) (hb : c + 6 ≤ 600000 ∧ sl + 882 ≤ 7302250) (kk : ∀ (c2 s2 : Nat) (st2 : St), c2 ≤ c + 6 → s2 ≤ sl + 882 → Inv st2 → G E WT x RL cL_law 4 (c2, s2) st2 1067 (LV E b x3) []) : G E WT x RL cL_law 4 (c, sl) st 372 (LV E b x3) [] := by
  obtain ⟨r, st1, st2, e1, e2, hI2⟩ := hs (ys (x3 + 1).toNatClampNeg) (ys (x3 + 2).toNatClampNeg) (ys (x3 + 3).toNatClampNeg) (ys (x3 + 4).toNatClampNeg) (ys (x3 + 5).toNatClampNeg) st hI
  refine g_aload_n rfl 1 rfl dL_law_372 ?_
  refine g_aload_n rfl 0 rfl dL_law_373 ?_
  refine g_iload_n rfl 3 rfl dL_law_374 ?_
  refine g_iconst (1 : Int32) (by decide) dL_law_375 ?_
  refine g_iadd dL_law_376 ?_
  refine g_sld hl hi.1 dL_law_377 ?_
  refine g_aload_n rfl 0 rfl dL_law_378 ?_
  refine g_iload_n rfl 3 rfl dL_law_379 ?_
  refine g_iconst (2 : Int32) (by decide) dL_law_380 ?_
  refine g_iadd dL_law_381 ?_
  refine g_sld hl hi.2.1 dL_law_382 ?_
  refine g_aload_n rfl 0 rfl dL_law_383 ?_
  refine g_iload_n rfl 3 rfl dL_law_384 ?_
  refine g_iconst (3 : Int32) (by decide) dL_law_385 ?_
  refine g_iadd dL_law_386 ?_
  refine g_sld hl hi.2.2.1 dL_law_387 ?_
  refine g_aload_n rfl 0 rfl dL_law_388 ?_
  refine g_iload_n rfl 3 rfl dL_law_389 ?_
  refine g_iconst (4 : Int32) (by decide) dL_law_390 ?_
  refine g_iadd dL_law_391 ?_
  refine g_sld hl hi.2.2.2.1 dL_law_392 ?_
  refine g_aload_n rfl 0 rfl dL_law_393 ?_
  refine g_iload_n rfl 3 rfl dL_law_394 ?_
  refine g_iconst (5 : Int32) (by decide) dL_law_395 ?_
  refine g_iadd dL_law_396 ?_
  refine g_sld hl hi.2.2.2.2 dL_law_397 ?_
  refine g_lc (As := [.int (ys (x3 + (1 : Int32)).toNatClampNeg), .int (ys (x3 + (2 : Int32)).toNatClampNeg), .int (ys (x3 + (3 : Int32)).toNatClampNeg), .int (ys (x3 + (4 : Int32)).toNatClampNeg), .int (ys (x3 + (5 : Int32)).toNatClampNeg)]) (rest := []) cok7 mok_X7_feed tw2_222 tw2_223 tw2_224 oS0 hl.1 hl.2.2.2.2 (by decide) (kX7_feed e1) rfl rfl (Nat.le_of_ble_eq_true rfl) ⟨by simp only; omega, by simp only; omega⟩ dL_law_398 ?_
  refine g_aload_n rfl 2 rfl dL_law_401 ?_
  refine g_aload_n rfl 0 rfl dL_law_402 ?_
  refine g_iload_n rfl 3 rfl dL_law_403 ?_
  refine g_iconst (1 : Int32) (by decide) dL_law_404 ?_
  refine g_iadd dL_law_405 ?_
  refine g_sld hl hi.1 dL_law_406 ?_
  refine g_aload_n rfl 0 rfl dL_law_407 ?_
  refine g_iload_n rfl 3 rfl dL_law_408 ?_
  refine g_iconst (2 : Int32) (by decide) dL_law_409 ?_
  refine g_iadd dL_law_410 ?_
  refine g_sld hl hi.2.1 dL_law_411 ?_
  refine g_aload_n rfl 0 rfl dL_law_412 ?_
  refine g_iload_n rfl 3 rfl dL_law_413 ?_
  refine g_iconst (3 : Int32) (by decide) dL_law_414 ?_
  refine g_iadd dL_law_415 ?_
  refine g_sld hl hi.2.2.1 dL_law_416 ?_
  refine g_aload_n rfl 0 rfl dL_law_417 ?_
  refine g_iload_n rfl 3 rfl dL_law_418 ?_
  refine g_iconst (4 : Int32) (by decide) dL_law_419 ?_
  refine g_iadd dL_law_420 ?_
  refine g_sld hl hi.2.2.2.1 dL_law_421 ?_
  refine g_aload_n rfl 0 rfl dL_law_422 ?_
  refine g_iload_n rfl 3 rfl dL_law_423 ?_
  refine g_iconst (5 : Int32) (by decide) dL_law_424 ?_
  refine g_iadd dL_law_425 ?_
  refine g_sld hl hi.2.2.2.2 dL_law_426 ?_
  refine g_lc (As := [.int (ys (x3 + (1 : Int32)).toNatClampNeg), .int (ys (x3 + (2 : Int32)).toNatClampNeg), .int (ys (x3 + (3 : Int32)).toNatClampNeg), .int (ys (x3 + (4 : Int32)).toNatClampNeg), .int (ys (x3 + (5 : Int32)).toNatClampNeg)]) (rest := [.int r]) cok8 mok_X8_feed tw5_183 tw5_184 tw5_185 oS38 hl.1 hl.2.2.2.2 (by decide) (kX8_feed e2) rfl rfl (Nat.le_of_ble_eq_true rfl) ⟨by simp only; omega, by simp only; omega⟩ dL_law_427 ?_
  refine g_icmp_eq 1067 (by decide) dL_law_430 (fun _ => ?_) (fun h => absurd rfl h)
  exact kk _ _ _ (by simp only; omega) (by simp only; omega) hI2
def Step7 (Inv : St → Prop) : Prop := ∀ (a1 : Int32) (st : St), Inv st → ∃ (r : Int32) (st1 : St) (st2 : St), fX7_end a1 st = some (r, st1) ∧ fX8_end a1 st1 = some (r, st2) ∧ Inv st2
set_option maxHeartbeats 1000000 in
theorem lawc_7 {E : Ev} {x : Cx} {b L : Nat} {ys : Nat → Int32} {Inv : St → Prop} (hs : Step7 Inv) (hl : Lw E x b L ys) {x3 : Int32} (hi : LawIx x3 L) {c sl : Nat} {st : St} (hI : Inv st) (hb : c + 6 ≤ 600000 ∧ sl + 882 ≤ 7302250) (kk : ∀ (c2 s2 : Nat) (st2 : St), c2 ≤ c + 6 → s2 ≤ sl + 882 → Inv st2 → G E WT x RL cL_law 4 (c2, s2) st2 1067 (LV E b x3) []) : G E WT x RL cL_law 4 (c, sl) st 435 (LV E b x3) [] := by
  obtain ⟨r, st1, st2, e1, e2, hI2⟩ := hs (ys (x3 + 1).toNatClampNeg) st hI
  refine g_aload_n rfl 1 rfl dL_law_435 ?_
  refine g_aload_n rfl 0 rfl dL_law_436 ?_
  refine g_iload_n rfl 3 rfl dL_law_437 ?_
  refine g_iconst (1 : Int32) (by decide) dL_law_438 ?_
  refine g_iadd dL_law_439 ?_
  refine g_sld hl hi.1 dL_law_440 ?_
  refine g_lc (As := [.int (ys (x3 + (1 : Int32)).toNatClampNeg)]) (rest := []) cok7 mok_X7_end tw2_234 tw2_235 tw2_236 oS0 hl.1 hl.2.2.2.2 (by decide) (kX7_end e1) rfl rfl (Nat.le_of_ble_eq_true rfl) ⟨by simp only; omega, by simp only; omega⟩ dL_law_441 ?_
  refine g_aload_n rfl 2 rfl dL_law_444 ?_
  refine g_aload_n rfl 0 rfl dL_law_445 ?_
  refine g_iload_n rfl 3 rfl dL_law_446 ?_
  refine g_iconst (1 : Int32) (by decide) dL_law_447 ?_
  refine g_iadd dL_law_448 ?_
  refine g_sld hl hi.1 dL_law_449 ?_
  refine g_lc (As := [.int (ys (x3 + (1 : Int32)).toNatClampNeg)]) (rest := [.int r]) cok8 mok_X8_end tw5_187 tw5_188 tw5_189 oS38 hl.1 hl.2.2.2.2 (by decide) (kX8_end e2) rfl rfl (Nat.le_of_ble_eq_true rfl) ⟨by simp only; omega, by simp only; omega⟩ dL_law_450 ?_
  refine g_icmp_eq 1067 (by decide) dL_law_453 (fun _ => ?_) (fun h => absurd rfl h)
  exact kk _ _ _ (by simp only; omega) (by simp only; omega) hI2
def Step8 (Inv : St → Prop) : Prop := ∀ (st : St), Inv st → ∃ (r : Int32) (st1 : St) (st2 : St), fX7_row st = some (r, st1) ∧ fX8_row st1 = some (r, st2) ∧ Inv st2
set_option maxHeartbeats 1000000 in
theorem lawc_8 {E : Ev} {x : Cx} {b L : Nat} {ys : Nat → Int32} {Inv : St → Prop} (hs : Step8 Inv) (hl : Lw E x b L ys) {x3 : Int32} (hi : LawIx x3 L) {c sl : Nat} {st : St} (hI : Inv st) (hb : c + 6 ≤ 600000 ∧ sl + 882 ≤ 7302250) (kk : ∀ (c2 s2 : Nat) (st2 : St), c2 ≤ c + 6 → s2 ≤ sl + 882 → Inv st2 → G E WT x RL cL_law 4 (c2, s2) st2 1067 (LV E b x3) []) : G E WT x RL cL_law 4 (c, sl) st 458 (LV E b x3) [] := by
  obtain ⟨r, st1, st2, e1, e2, hI2⟩ := hs  st hI
  refine g_aload_n rfl 1 rfl dL_law_458 ?_
  refine g_lc (As := []) (rest := []) cok7 mok_X7_row tw2_238 tw2_239 tw3_0 oS0 hl.1 hl.2.2.2.2 (by decide) (kX7_row e1) rfl rfl (Nat.le_of_ble_eq_true rfl) ⟨by simp only; omega, by simp only; omega⟩ dL_law_459 ?_
  refine g_aload_n rfl 2 rfl dL_law_462 ?_
  refine g_lc (As := []) (rest := [.int r]) cok8 mok_X8_row tw5_175 tw5_176 tw5_177 oS38 hl.1 hl.2.2.2.2 (by decide) (kX8_row e2) rfl rfl (Nat.le_of_ble_eq_true rfl) ⟨by simp only; omega, by simp only; omega⟩ dL_law_463 ?_
  refine g_icmp_eq 1067 (by decide) dL_law_466 (fun _ => ?_) (fun h => absurd rfl h)
  exact kk _ _ _ (by simp only; omega) (by simp only; omega) hI2
def Step9 (Inv : St → Prop) : Prop := ∀ (st : St), Inv st → ∃ (r : Int32) , fX7_lisps st = r ∧ fX8_lisps st = r
set_option maxHeartbeats 1000000 in
theorem lawc_9 {E : Ev} {x : Cx} {b L : Nat} {ys : Nat → Int32} {Inv : St → Prop} (hs : Step9 Inv) (hl : Lw E x b L ys) {x3 : Int32} (hi : LawIx x3 L) {c sl : Nat} {st : St} (hI : Inv st) (hb : c + 6 ≤ 600000 ∧ sl + 882 ≤ 7302250) (kk : ∀ (c2 s2 : Nat) (st2 : St), c2 ≤ c + 6 → s2 ≤ sl + 882 → Inv st2 → G E WT x RL cL_law 4 (c2, s2) st2 1067 (LV E b x3) []) : G E WT x RL cL_law 4 (c, sl) st 471 (LV E b x3) [] := by
  obtain ⟨r, e1, e2⟩ := hs  st hI
  refine g_aload_n rfl 1 rfl dL_law_471 ?_
  refine g_lc (As := []) (rest := []) cok7 mok_X7_lisps tw3_2 tw3_3 tw3_4 oS0 hl.1 hl.2.2.2.2 (by decide) (kX7_lisps e1) rfl rfl (Nat.le_of_ble_eq_true rfl) ⟨by simp only; omega, by simp only; omega⟩ dL_law_472 ?_
  refine g_aload_n rfl 2 rfl dL_law_475 ?_
  refine g_lc (As := []) (rest := [.int r]) cok8 mok_X8_lisps tw5_179 tw5_180 tw5_181 oS38 hl.1 hl.2.2.2.2 (by decide) (kX8_lisps e2) rfl rfl (Nat.le_of_ble_eq_true rfl) ⟨by simp only; omega, by simp only; omega⟩ dL_law_476 ?_
  refine g_icmp_eq 1067 (by decide) dL_law_479 (fun _ => ?_) (fun h => absurd rfl h)
  exact kk _ _ _ (by simp only; omega) (by simp only; omega) hI
def Step10 (Inv : St → Prop) : Prop := ∀ (st : St), Inv st → ∃ (r : Int32) (st1 : St) (st2 : St), fX7_law st = some (r, st1) ∧ fX8_law st1 = some (r, st2) ∧ Inv st2
set_option maxHeartbeats 1000000 in
theorem lawc_10 {E : Ev} {x : Cx} {b L : Nat} {ys : Nat → Int32} {Inv : St → Prop} (hs : Step10 Inv) (hl : Lw E x b L ys) {x3 : Int32} (hi : LawIx x3 L) {c sl : Nat} {st : St} (hI : Inv st) (hb : c + 6 ≤ 600000 ∧ sl + 882 ≤ 7302250) (kk : ∀ (c2 s2 : Nat) (st2 : St), c2 ≤ c + 6 → s2 ≤ sl + 882 → Inv st2 → G E WT x RL cL_law 4 (c2, s2) st2 1067 (LV E b x3) []) : G E WT x RL cL_law 4 (c, sl) st 484 (LV E b x3) [] := by
  obtain ⟨r, st1, st2, e1, e2, hI2⟩ := hs  st hI
  refine g_aload_n rfl 1 rfl dL_law_484 ?_
  refine g_lc (As := []) (rest := []) cok7 mok_X7_law tw3_6 tw3_7 tw3_8 oS0 hl.1 hl.2.2.2.2 (by decide) (kX7_law e1) rfl rfl (Nat.le_of_ble_eq_true rfl) ⟨by simp only; omega, by simp only; omega⟩ dL_law_485 ?_
  refine g_aload_n rfl 2 rfl dL_law_488 ?_
  refine g_lc (As := []) (rest := [.int r]) cok8 mok_X8_law tw5_191 tw5_192 tw5_193 oS38 hl.1 hl.2.2.2.2 (by decide) (kX8_law e2) rfl rfl (Nat.le_of_ble_eq_true rfl) ⟨by simp only; omega, by simp only; omega⟩ dL_law_489 ?_
  refine g_icmp_eq 1067 (by decide) dL_law_492 (fun _ => ?_) (fun h => absurd rfl h)
  exact kk _ _ _ (by simp only; omega) (by simp only; omega) hI2
def Step11 (Inv : St → Prop) : Prop := ∀ (st : St), Inv st → ∃ (r : Int32) (st1 : St) (st2 : St), fX7_orders st = some (r, st1) ∧ fX8_orders st1 = some (r, st2) ∧ Inv st2
set_option maxHeartbeats 1000000 in
theorem lawc_11 {E : Ev} {x : Cx} {b L : Nat} {ys : Nat → Int32} {Inv : St → Prop} (hs : Step11 Inv) (hl : Lw E x b L ys) {x3 : Int32} (hi : LawIx x3 L) {c sl : Nat} {st : St} (hI : Inv st) (hb : c + 6 ≤ 600000 ∧ sl + 882 ≤ 7302250) (kk : ∀ (c2 s2 : Nat) (st2 : St), c2 ≤ c + 6 → s2 ≤ sl + 882 → Inv st2 → G E WT x RL cL_law 4 (c2, s2) st2 1067 (LV E b x3) []) : G E WT x RL cL_law 4 (c, sl) st 497 (LV E b x3) [] := by
  obtain ⟨r, st1, st2, e1, e2, hI2⟩ := hs  st hI
  refine g_aload_n rfl 1 rfl dL_law_497 ?_
  refine g_lc (As := []) (rest := []) cok7 mok_X7_orders tw3_130 tw3_131 tw3_132 oS0 hl.1 hl.2.2.2.2 (by decide) (kX7_orders e1) rfl rfl (Nat.le_of_ble_eq_true rfl) ⟨by simp only; omega, by simp only; omega⟩ dL_law_498 ?_
  refine g_aload_n rfl 2 rfl dL_law_501 ?_
  refine g_lc (As := []) (rest := [.int r]) cok8 mok_X8_orders tw7_102 tw7_103 tw7_104 oS38 hl.1 hl.2.2.2.2 (by decide) (kX8_orders e2) rfl rfl (Nat.le_of_ble_eq_true rfl) ⟨by simp only; omega, by simp only; omega⟩ dL_law_502 ?_
  refine g_icmp_eq 1067 (by decide) dL_law_505 (fun _ => ?_) (fun h => absurd rfl h)
  exact kk _ _ _ (by simp only; omega) (by simp only; omega) hI2
def Step12 (Inv : St → Prop) : Prop := ∀ (st : St), Inv st → ∃ (r : Int32) , fX7_fault st = r ∧ fX8_fault st = r
set_option maxHeartbeats 1000000 in
theorem lawc_12 {E : Ev} {x : Cx} {b L : Nat} {ys : Nat → Int32} {Inv : St → Prop} (hs : Step12 Inv) (hl : Lw E x b L ys) {x3 : Int32} (hi : LawIx x3 L) {c sl : Nat} {st : St} (hI : Inv st) (hb : c + 6 ≤ 600000 ∧ sl + 882 ≤ 7302250) (kk : ∀ (c2 s2 : Nat) (st2 : St), c2 ≤ c + 6 → s2 ≤ sl + 882 → Inv st2 → G E WT x RL cL_law 4 (c2, s2) st2 1067 (LV E b x3) []) : G E WT x RL cL_law 4 (c, sl) st 510 (LV E b x3) [] := by
  obtain ⟨r, e1, e2⟩ := hs  st hI
  refine g_aload_n rfl 1 rfl dL_law_510 ?_
  refine g_lc (As := []) (rest := []) cok7 mok_X7_fault tw3_204 tw3_205 tw3_206 oS0 hl.1 hl.2.2.2.2 (by decide) (kX7_fault e1) rfl rfl (Nat.le_of_ble_eq_true rfl) ⟨by simp only; omega, by simp only; omega⟩ dL_law_511 ?_
  refine g_aload_n rfl 2 rfl dL_law_514 ?_
  refine g_lc (As := []) (rest := [.int r]) cok8 mok_X8_fault tw6_45 tw6_46 tw6_47 oS38 hl.1 hl.2.2.2.2 (by decide) (kX8_fault e2) rfl rfl (Nat.le_of_ble_eq_true rfl) ⟨by simp only; omega, by simp only; omega⟩ dL_law_515 ?_
  refine g_icmp_eq 1067 (by decide) dL_law_518 (fun _ => ?_) (fun h => absurd rfl h)
  exact kk _ _ _ (by simp only; omega) (by simp only; omega) hI
def Step13 (Inv : St → Prop) : Prop := ∀ (st : St), Inv st → ∃ (r : Int32) , fX7_stopped st = r ∧ fX8_stopped st = r
set_option maxHeartbeats 1000000 in
theorem lawc_13 {E : Ev} {x : Cx} {b L : Nat} {ys : Nat → Int32} {Inv : St → Prop} (hs : Step13 Inv) (hl : Lw E x b L ys) {x3 : Int32} (hi : LawIx x3 L) {c sl : Nat} {st : St} (hI : Inv st) (hb : c + 6 ≤ 600000 ∧ sl + 882 ≤ 7302250) (kk : ∀ (c2 s2 : Nat) (st2 : St), c2 ≤ c + 6 → s2 ≤ sl + 882 → Inv st2 → G E WT x RL cL_law 4 (c2, s2) st2 1067 (LV E b x3) []) : G E WT x RL cL_law 4 (c, sl) st 523 (LV E b x3) [] := by
  obtain ⟨r, e1, e2⟩ := hs  st hI
  refine g_aload_n rfl 1 rfl dL_law_523 ?_
  refine g_lc (As := []) (rest := []) cok7 mok_X7_stopped tw3_208 tw3_209 tw3_210 oS0 hl.1 hl.2.2.2.2 (by decide) (kX7_stopped e1) rfl rfl (Nat.le_of_ble_eq_true rfl) ⟨by simp only; omega, by simp only; omega⟩ dL_law_524 ?_
  refine g_aload_n rfl 2 rfl dL_law_527 ?_
  refine g_lc (As := []) (rest := [.int r]) cok8 mok_X8_stopped tw7_98 tw7_99 tw7_100 oS38 hl.1 hl.2.2.2.2 (by decide) (kX8_stopped e2) rfl rfl (Nat.le_of_ble_eq_true rfl) ⟨by simp only; omega, by simp only; omega⟩ dL_law_528 ?_
  refine g_icmp_eq 1067 (by decide) dL_law_531 (fun _ => ?_) (fun h => absurd rfl h)
  exact kk _ _ _ (by simp only; omega) (by simp only; omega) hI
def Step14 (Inv : St → Prop) : Prop := ∀ (a1 : Int32) (st : St), Inv st → ∃ (r : Int32) (st1 : St) (st2 : St), fX7_force a1 st = some (r, st1) ∧ fX8_force a1 st1 = some (r, st2) ∧ Inv st2
set_option maxHeartbeats 1000000 in
theorem lawc_14 {E : Ev} {x : Cx} {b L : Nat} {ys : Nat → Int32} {Inv : St → Prop} (hs : Step14 Inv) (hl : Lw E x b L ys) {x3 : Int32} (hi : LawIx x3 L) {c sl : Nat} {st : St} (hI : Inv st) (hb : c + 6 ≤ 600000 ∧ sl + 882 ≤ 7302250) (kk : ∀ (c2 s2 : Nat) (st2 : St), c2 ≤ c + 6 → s2 ≤ sl + 882 → Inv st2 → G E WT x RL cL_law 4 (c2, s2) st2 1067 (LV E b x3) []) : G E WT x RL cL_law 4 (c, sl) st 536 (LV E b x3) [] := by
  obtain ⟨r, st1, st2, e1, e2, hI2⟩ := hs (ys (x3 + 1).toNatClampNeg) st hI
  refine g_aload_n rfl 1 rfl dL_law_536 ?_
  refine g_aload_n rfl 0 rfl dL_law_537 ?_
  refine g_iload_n rfl 3 rfl dL_law_538 ?_
  refine g_iconst (1 : Int32) (by decide) dL_law_539 ?_
  refine g_iadd dL_law_540 ?_
  refine g_sld hl hi.1 dL_law_541 ?_
  refine g_lc (As := [.int (ys (x3 + (1 : Int32)).toNatClampNeg)]) (rest := []) cok7 mok_X7_force tw3_212 tw3_213 tw3_214 oS0 hl.1 hl.2.2.2.2 (by decide) (kX7_force e1) rfl rfl (Nat.le_of_ble_eq_true rfl) ⟨by simp only; omega, by simp only; omega⟩ dL_law_542 ?_
  refine g_aload_n rfl 2 rfl dL_law_545 ?_
  refine g_aload_n rfl 0 rfl dL_law_546 ?_
  refine g_iload_n rfl 3 rfl dL_law_547 ?_
  refine g_iconst (1 : Int32) (by decide) dL_law_548 ?_
  refine g_iadd dL_law_549 ?_
  refine g_sld hl hi.1 dL_law_550 ?_
  refine g_lc (As := [.int (ys (x3 + (1 : Int32)).toNatClampNeg)]) (rest := [.int r]) cok8 mok_X8_force tw6_49 tw6_50 tw6_51 oS38 hl.1 hl.2.2.2.2 (by decide) (kX8_force e2) rfl rfl (Nat.le_of_ble_eq_true rfl) ⟨by simp only; omega, by simp only; omega⟩ dL_law_551 ?_
  refine g_icmp_eq 1067 (by decide) dL_law_554 (fun _ => ?_) (fun h => absurd rfl h)
  exact kk _ _ _ (by simp only; omega) (by simp only; omega) hI2
def Step15 (Inv : St → Prop) : Prop := ∀ (a1 : Int32) (st : St), Inv st → ∃ (r : Int32) (st1 : St) (st2 : St), fX7_say a1 st = some (r, st1) ∧ fX8_say a1 st1 = some (r, st2) ∧ Inv st2
set_option maxHeartbeats 1000000 in
theorem lawc_15 {E : Ev} {x : Cx} {b L : Nat} {ys : Nat → Int32} {Inv : St → Prop} (hs : Step15 Inv) (hl : Lw E x b L ys) {x3 : Int32} (hi : LawIx x3 L) {c sl : Nat} {st : St} (hI : Inv st) (hb : c + 6 ≤ 600000 ∧ sl + 882 ≤ 7302250) (kk : ∀ (c2 s2 : Nat) (st2 : St), c2 ≤ c + 6 → s2 ≤ sl + 882 → Inv st2 → G E WT x RL cL_law 4 (c2, s2) st2 1067 (LV E b x3) []) : G E WT x RL cL_law 4 (c, sl) st 559 (LV E b x3) [] := by
  obtain ⟨r, st1, st2, e1, e2, hI2⟩ := hs (ys (x3 + 1).toNatClampNeg) st hI
  refine g_aload_n rfl 1 rfl dL_law_559 ?_
  refine g_aload_n rfl 0 rfl dL_law_560 ?_
  refine g_iload_n rfl 3 rfl dL_law_561 ?_
  refine g_iconst (1 : Int32) (by decide) dL_law_562 ?_
  refine g_iadd dL_law_563 ?_
  refine g_sld hl hi.1 dL_law_564 ?_
  refine g_lc (As := [.int (ys (x3 + (1 : Int32)).toNatClampNeg)]) (rest := []) cok7 mok_X7_say tw3_220 tw3_221 tw3_222 oS0 hl.1 hl.2.2.2.2 (by decide) (kX7_say e1) rfl rfl (Nat.le_of_ble_eq_true rfl) ⟨by simp only; omega, by simp only; omega⟩ dL_law_565 ?_
  refine g_aload_n rfl 2 rfl dL_law_568 ?_
  refine g_aload_n rfl 0 rfl dL_law_569 ?_
  refine g_iload_n rfl 3 rfl dL_law_570 ?_
  refine g_iconst (1 : Int32) (by decide) dL_law_571 ?_
  refine g_iadd dL_law_572 ?_
  refine g_sld hl hi.1 dL_law_573 ?_
  refine g_lc (As := [.int (ys (x3 + (1 : Int32)).toNatClampNeg)]) (rest := [.int r]) cok8 mok_X8_say tw6_166 tw6_167 tw6_168 oS38 hl.1 hl.2.2.2.2 (by decide) (kX8_say e2) rfl rfl (Nat.le_of_ble_eq_true rfl) ⟨by simp only; omega, by simp only; omega⟩ dL_law_574 ?_
  refine g_icmp_eq 1067 (by decide) dL_law_577 (fun _ => ?_) (fun h => absurd rfl h)
  exact kk _ _ _ (by simp only; omega) (by simp only; omega) hI2
def Step16 (Inv : St → Prop) : Prop := ∀ (a1 : Int32) (a2 : Int32) (st : St), Inv st → ∃ (r : Int32) (st1 : St) (st2 : St), fX7_falls a1 a2 st = some (r, st1) ∧ fX8_falls a1 a2 st1 = some (r, st2) ∧ Inv st2
set_option maxHeartbeats 1000000 in
theorem lawc_16 {E : Ev} {x : Cx} {b L : Nat} {ys : Nat → Int32} {Inv : St → Prop} (hs : Step16 Inv) (hl : Lw E x b L ys) {x3 : Int32} (hi : LawIx x3 L) {c sl : Nat} {st : St} (hI : Inv st) (hb : c + 6 ≤ 600000 ∧ sl + 882 ≤ 7302250) (kk : ∀ (c2 s2 : Nat) (st2 : St), c2 ≤ c + 6 → s2 ≤ sl + 882 → Inv st2 → G E WT x RL cL_law 4 (c2, s2) st2 1067 (LV E b x3) []) : G E WT x RL cL_law 4 (c, sl) st 582 (LV E b x3) [] := by
  obtain ⟨r, st1, st2, e1, e2, hI2⟩ := hs (ys (x3 + 1).toNatClampNeg) (ys (x3 + 2).toNatClampNeg) st hI
  refine g_aload_n rfl 1 rfl dL_law_582 ?_
  refine g_aload_n rfl 0 rfl dL_law_583 ?_
  refine g_iload_n rfl 3 rfl dL_law_584 ?_
  refine g_iconst (1 : Int32) (by decide) dL_law_585 ?_
  refine g_iadd dL_law_586 ?_
  refine g_sld hl hi.1 dL_law_587 ?_
  refine g_aload_n rfl 0 rfl dL_law_588 ?_
  refine g_iload_n rfl 3 rfl dL_law_589 ?_
  refine g_iconst (2 : Int32) (by decide) dL_law_590 ?_
  refine g_iadd dL_law_591 ?_
  refine g_sld hl hi.2.1 dL_law_592 ?_
  refine g_lc (As := [.int (ys (x3 + (1 : Int32)).toNatClampNeg), .int (ys (x3 + (2 : Int32)).toNatClampNeg)]) (rest := []) cok7 mok_X7_falls tw3_224 tw3_225 tw3_226 oS0 hl.1 hl.2.2.2.2 (by decide) (kX7_falls e1) rfl rfl (Nat.le_of_ble_eq_true rfl) ⟨by simp only; omega, by simp only; omega⟩ dL_law_593 ?_
  refine g_aload_n rfl 2 rfl dL_law_596 ?_
  refine g_aload_n rfl 0 rfl dL_law_597 ?_
  refine g_iload_n rfl 3 rfl dL_law_598 ?_
  refine g_iconst (1 : Int32) (by decide) dL_law_599 ?_
  refine g_iadd dL_law_600 ?_
  refine g_sld hl hi.1 dL_law_601 ?_
  refine g_aload_n rfl 0 rfl dL_law_602 ?_
  refine g_iload_n rfl 3 rfl dL_law_603 ?_
  refine g_iconst (2 : Int32) (by decide) dL_law_604 ?_
  refine g_iadd dL_law_605 ?_
  refine g_sld hl hi.2.1 dL_law_606 ?_
  refine g_lc (As := [.int (ys (x3 + (1 : Int32)).toNatClampNeg), .int (ys (x3 + (2 : Int32)).toNatClampNeg)]) (rest := [.int r]) cok8 mok_X8_falls tw6_132 tw6_133 tw6_134 oS38 hl.1 hl.2.2.2.2 (by decide) (kX8_falls e2) rfl rfl (Nat.le_of_ble_eq_true rfl) ⟨by simp only; omega, by simp only; omega⟩ dL_law_607 ?_
  refine g_icmp_eq 1067 (by decide) dL_law_610 (fun _ => ?_) (fun h => absurd rfl h)
  exact kk _ _ _ (by simp only; omega) (by simp only; omega) hI2
def Step17 (Inv : St → Prop) : Prop := ∀ (a1 : Int32) (st : St), Inv st → ∃ (r : Int32) (st1 : St) (st2 : St), fX7_join a1 st = some (r, st1) ∧ fX8_join a1 st1 = some (r, st2) ∧ Inv st2
set_option maxHeartbeats 1000000 in
theorem lawc_17 {E : Ev} {x : Cx} {b L : Nat} {ys : Nat → Int32} {Inv : St → Prop} (hs : Step17 Inv) (hl : Lw E x b L ys) {x3 : Int32} (hi : LawIx x3 L) {c sl : Nat} {st : St} (hI : Inv st) (hb : c + 6 ≤ 600000 ∧ sl + 882 ≤ 7302250) (kk : ∀ (c2 s2 : Nat) (st2 : St), c2 ≤ c + 6 → s2 ≤ sl + 882 → Inv st2 → G E WT x RL cL_law 4 (c2, s2) st2 1067 (LV E b x3) []) : G E WT x RL cL_law 4 (c, sl) st 615 (LV E b x3) [] := by
  obtain ⟨r, st1, st2, e1, e2, hI2⟩ := hs (ys (x3 + 1).toNatClampNeg) st hI
  refine g_aload_n rfl 1 rfl dL_law_615 ?_
  refine g_aload_n rfl 0 rfl dL_law_616 ?_
  refine g_iload_n rfl 3 rfl dL_law_617 ?_
  refine g_iconst (1 : Int32) (by decide) dL_law_618 ?_
  refine g_iadd dL_law_619 ?_
  refine g_sld hl hi.1 dL_law_620 ?_
  refine g_lc (As := [.int (ys (x3 + (1 : Int32)).toNatClampNeg)]) (rest := []) cok7 mok_X7_join tw3_229 tw3_230 tw3_231 oS0 hl.1 hl.2.2.2.2 (by decide) (kX7_join e1) rfl rfl (Nat.le_of_ble_eq_true rfl) ⟨by simp only; omega, by simp only; omega⟩ dL_law_621 ?_
  refine g_aload_n rfl 2 rfl dL_law_624 ?_
  refine g_aload_n rfl 0 rfl dL_law_625 ?_
  refine g_iload_n rfl 3 rfl dL_law_626 ?_
  refine g_iconst (1 : Int32) (by decide) dL_law_627 ?_
  refine g_iadd dL_law_628 ?_
  refine g_sld hl hi.1 dL_law_629 ?_
  refine g_lc (As := [.int (ys (x3 + (1 : Int32)).toNatClampNeg)]) (rest := [.int r]) cok8 mok_X8_join tw6_190 tw6_191 tw6_192 oS38 hl.1 hl.2.2.2.2 (by decide) (kX8_join e2) rfl rfl (Nat.le_of_ble_eq_true rfl) ⟨by simp only; omega, by simp only; omega⟩ dL_law_630 ?_
  refine g_icmp_eq 1067 (by decide) dL_law_633 (fun _ => ?_) (fun h => absurd rfl h)
  exact kk _ _ _ (by simp only; omega) (by simp only; omega) hI2
def Step18 (Inv : St → Prop) : Prop := ∀ (a1 : Int32) (st : St), Inv st → ∃ (r : Int32) (st1 : St) (st2 : St), fX7_leave a1 st = some (r, st1) ∧ fX8_leave a1 st1 = some (r, st2) ∧ Inv st2
set_option maxHeartbeats 1000000 in
theorem lawc_18 {E : Ev} {x : Cx} {b L : Nat} {ys : Nat → Int32} {Inv : St → Prop} (hs : Step18 Inv) (hl : Lw E x b L ys) {x3 : Int32} (hi : LawIx x3 L) {c sl : Nat} {st : St} (hI : Inv st) (hb : c + 6 ≤ 600000 ∧ sl + 882 ≤ 7302250) (kk : ∀ (c2 s2 : Nat) (st2 : St), c2 ≤ c + 6 → s2 ≤ sl + 882 → Inv st2 → G E WT x RL cL_law 4 (c2, s2) st2 1067 (LV E b x3) []) : G E WT x RL cL_law 4 (c, sl) st 638 (LV E b x3) [] := by
  obtain ⟨r, st1, st2, e1, e2, hI2⟩ := hs (ys (x3 + 1).toNatClampNeg) st hI
  refine g_aload_n rfl 1 rfl dL_law_638 ?_
  refine g_aload_n rfl 0 rfl dL_law_639 ?_
  refine g_iload_n rfl 3 rfl dL_law_640 ?_
  refine g_iconst (1 : Int32) (by decide) dL_law_641 ?_
  refine g_iadd dL_law_642 ?_
  refine g_sld hl hi.1 dL_law_643 ?_
  refine g_lc (As := [.int (ys (x3 + (1 : Int32)).toNatClampNeg)]) (rest := []) cok7 mok_X7_leave tw3_233 tw3_234 tw3_235 oS0 hl.1 hl.2.2.2.2 (by decide) (kX7_leave e1) rfl rfl (Nat.le_of_ble_eq_true rfl) ⟨by simp only; omega, by simp only; omega⟩ dL_law_644 ?_
  refine g_aload_n rfl 2 rfl dL_law_647 ?_
  refine g_aload_n rfl 0 rfl dL_law_648 ?_
  refine g_iload_n rfl 3 rfl dL_law_649 ?_
  refine g_iconst (1 : Int32) (by decide) dL_law_650 ?_
  refine g_iadd dL_law_651 ?_
  refine g_sld hl hi.1 dL_law_652 ?_
  refine g_lc (As := [.int (ys (x3 + (1 : Int32)).toNatClampNeg)]) (rest := [.int r]) cok8 mok_X8_leave tw6_198 tw6_199 tw6_200 oS38 hl.1 hl.2.2.2.2 (by decide) (kX8_leave e2) rfl rfl (Nat.le_of_ble_eq_true rfl) ⟨by simp only; omega, by simp only; omega⟩ dL_law_653 ?_
  refine g_icmp_eq 1067 (by decide) dL_law_656 (fun _ => ?_) (fun h => absurd rfl h)
  exact kk _ _ _ (by simp only; omega) (by simp only; omega) hI2
def Step19 (Inv : St → Prop) : Prop := ∀ (st : St), Inv st → ∃ (r : Int32) (st1 : St) (st2 : St), fX7_pass st = some (r, st1) ∧ fX8_pass st1 = some (r, st2) ∧ Inv st2
set_option maxHeartbeats 1000000 in
theorem lawc_19 {E : Ev} {x : Cx} {b L : Nat} {ys : Nat → Int32} {Inv : St → Prop} (hs : Step19 Inv) (hl : Lw E x b L ys) {x3 : Int32} (hi : LawIx x3 L) {c sl : Nat} {st : St} (hI : Inv st) (hb : c + 6 ≤ 600000 ∧ sl + 882 ≤ 7302250) (kk : ∀ (c2 s2 : Nat) (st2 : St), c2 ≤ c + 6 → s2 ≤ sl + 882 → Inv st2 → G E WT x RL cL_law 4 (c2, s2) st2 1067 (LV E b x3) []) : G E WT x RL cL_law 4 (c, sl) st 661 (LV E b x3) [] := by
  obtain ⟨r, st1, st2, e1, e2, hI2⟩ := hs  st hI
  refine g_aload_n rfl 1 rfl dL_law_661 ?_
  refine g_lc (As := []) (rest := []) cok7 mok_X7_pass tw3_237 tw3_238 tw3_239 oS0 hl.1 hl.2.2.2.2 (by decide) (kX7_pass e1) rfl rfl (Nat.le_of_ble_eq_true rfl) ⟨by simp only; omega, by simp only; omega⟩ dL_law_662 ?_
  refine g_aload_n rfl 2 rfl dL_law_665 ?_
  refine g_lc (As := []) (rest := [.int r]) cok8 mok_X8_pass tw6_206 tw6_207 tw6_208 oS38 hl.1 hl.2.2.2.2 (by decide) (kX8_pass e2) rfl rfl (Nat.le_of_ble_eq_true rfl) ⟨by simp only; omega, by simp only; omega⟩ dL_law_666 ?_
  refine g_icmp_eq 1067 (by decide) dL_law_669 (fun _ => ?_) (fun h => absurd rfl h)
  exact kk _ _ _ (by simp only; omega) (by simp only; omega) hI2
def Step20 (Inv : St → Prop) : Prop := ∀ (st : St), Inv st → ∃ (r : Int32) (st1 : St) (st2 : St), fX7_undo st = some (r, st1) ∧ fX8_undo st1 = some (r, st2) ∧ Inv st2
set_option maxHeartbeats 1000000 in
theorem lawc_20 {E : Ev} {x : Cx} {b L : Nat} {ys : Nat → Int32} {Inv : St → Prop} (hs : Step20 Inv) (hl : Lw E x b L ys) {x3 : Int32} (hi : LawIx x3 L) {c sl : Nat} {st : St} (hI : Inv st) (hb : c + 6 ≤ 600000 ∧ sl + 882 ≤ 7302250) (kk : ∀ (c2 s2 : Nat) (st2 : St), c2 ≤ c + 6 → s2 ≤ sl + 882 → Inv st2 → G E WT x RL cL_law 4 (c2, s2) st2 1067 (LV E b x3) []) : G E WT x RL cL_law 4 (c, sl) st 674 (LV E b x3) [] := by
  obtain ⟨r, st1, st2, e1, e2, hI2⟩ := hs  st hI
  refine g_aload_n rfl 1 rfl dL_law_674 ?_
  refine g_lc (As := []) (rest := []) cok7 mok_X7_undo tw4_1 tw4_2 tw4_3 oS0 hl.1 hl.2.2.2.2 (by decide) (kX7_undo e1) rfl rfl (Nat.le_of_ble_eq_true rfl) ⟨by simp only; omega, by simp only; omega⟩ dL_law_675 ?_
  refine g_aload_n rfl 2 rfl dL_law_678 ?_
  refine g_lc (As := []) (rest := [.int r]) cok8 mok_X8_undo tw6_162 tw6_163 tw6_164 oS38 hl.1 hl.2.2.2.2 (by decide) (kX8_undo e2) rfl rfl (Nat.le_of_ble_eq_true rfl) ⟨by simp only; omega, by simp only; omega⟩ dL_law_679 ?_
  refine g_icmp_eq 1067 (by decide) dL_law_682 (fun _ => ?_) (fun h => absurd rfl h)
  exact kk _ _ _ (by simp only; omega) (by simp only; omega) hI2
def Step21 (Inv : St → Prop) : Prop := ∀ (a1 : Int32) (a2 : Int32) (st : St), Inv st → ∃ (r : Int32) (st1 : St) (st2 : St), fX7_left a1 a2 st = some (r, st1) ∧ fX8_left a1 a2 st1 = some (r, st2) ∧ Inv st2
set_option maxHeartbeats 1000000 in
theorem lawc_21 {E : Ev} {x : Cx} {b L : Nat} {ys : Nat → Int32} {Inv : St → Prop} (hs : Step21 Inv) (hl : Lw E x b L ys) {x3 : Int32} (hi : LawIx x3 L) {c sl : Nat} {st : St} (hI : Inv st) (hb : c + 6 ≤ 600000 ∧ sl + 882 ≤ 7302250) (kk : ∀ (c2 s2 : Nat) (st2 : St), c2 ≤ c + 6 → s2 ≤ sl + 882 → Inv st2 → G E WT x RL cL_law 4 (c2, s2) st2 1067 (LV E b x3) []) : G E WT x RL cL_law 4 (c, sl) st 687 (LV E b x3) [] := by
  obtain ⟨r, st1, st2, e1, e2, hI2⟩ := hs (ys (x3 + 1).toNatClampNeg) (ys (x3 + 2).toNatClampNeg) st hI
  refine g_aload_n rfl 1 rfl dL_law_687 ?_
  refine g_aload_n rfl 0 rfl dL_law_688 ?_
  refine g_iload_n rfl 3 rfl dL_law_689 ?_
  refine g_iconst (1 : Int32) (by decide) dL_law_690 ?_
  refine g_iadd dL_law_691 ?_
  refine g_sld hl hi.1 dL_law_692 ?_
  refine g_aload_n rfl 0 rfl dL_law_693 ?_
  refine g_iload_n rfl 3 rfl dL_law_694 ?_
  refine g_iconst (2 : Int32) (by decide) dL_law_695 ?_
  refine g_iadd dL_law_696 ?_
  refine g_sld hl hi.2.1 dL_law_697 ?_
  refine g_lc (As := [.int (ys (x3 + (1 : Int32)).toNatClampNeg), .int (ys (x3 + (2 : Int32)).toNatClampNeg)]) (rest := []) cok7 mok_X7_left tw4_10 tw4_11 tw4_12 oS0 hl.1 hl.2.2.2.2 (by decide) (kX7_left e1) rfl rfl (Nat.le_of_ble_eq_true rfl) ⟨by simp only; omega, by simp only; omega⟩ dL_law_698 ?_
  refine g_aload_n rfl 2 rfl dL_law_701 ?_
  refine g_aload_n rfl 0 rfl dL_law_702 ?_
  refine g_iload_n rfl 3 rfl dL_law_703 ?_
  refine g_iconst (1 : Int32) (by decide) dL_law_704 ?_
  refine g_iadd dL_law_705 ?_
  refine g_sld hl hi.1 dL_law_706 ?_
  refine g_aload_n rfl 0 rfl dL_law_707 ?_
  refine g_iload_n rfl 3 rfl dL_law_708 ?_
  refine g_iconst (2 : Int32) (by decide) dL_law_709 ?_
  refine g_iadd dL_law_710 ?_
  refine g_sld hl hi.2.1 dL_law_711 ?_
  refine g_lc (As := [.int (ys (x3 + (1 : Int32)).toNatClampNeg), .int (ys (x3 + (2 : Int32)).toNatClampNeg)]) (rest := [.int r]) cok8 mok_X8_left tw6_222 tw6_223 tw6_224 oS38 hl.1 hl.2.2.2.2 (by decide) (kX8_left e2) rfl rfl (Nat.le_of_ble_eq_true rfl) ⟨by simp only; omega, by simp only; omega⟩ dL_law_712 ?_
  refine g_icmp_eq 1067 (by decide) dL_law_715 (fun _ => ?_) (fun h => absurd rfl h)
  exact kk _ _ _ (by simp only; omega) (by simp only; omega) hI2
def Step22 (Inv : St → Prop) : Prop := ∀ (a1 : Int32) (a2 : Int32) (st : St), Inv st → ∃ (r : Int32) (st1 : St) (st2 : St), fX7_safe a1 a2 st = some (r, st1) ∧ fX8_safe a1 a2 st1 = some (r, st2) ∧ Inv st2
set_option maxHeartbeats 1000000 in
theorem lawc_22 {E : Ev} {x : Cx} {b L : Nat} {ys : Nat → Int32} {Inv : St → Prop} (hs : Step22 Inv) (hl : Lw E x b L ys) {x3 : Int32} (hi : LawIx x3 L) {c sl : Nat} {st : St} (hI : Inv st) (hb : c + 6 ≤ 600000 ∧ sl + 882 ≤ 7302250) (kk : ∀ (c2 s2 : Nat) (st2 : St), c2 ≤ c + 6 → s2 ≤ sl + 882 → Inv st2 → G E WT x RL cL_law 4 (c2, s2) st2 1067 (LV E b x3) []) : G E WT x RL cL_law 4 (c, sl) st 720 (LV E b x3) [] := by
  obtain ⟨r, st1, st2, e1, e2, hI2⟩ := hs (ys (x3 + 1).toNatClampNeg) (ys (x3 + 2).toNatClampNeg) st hI
  refine g_aload_n rfl 1 rfl dL_law_720 ?_
  refine g_aload_n rfl 0 rfl dL_law_721 ?_
  refine g_iload_n rfl 3 rfl dL_law_722 ?_
  refine g_iconst (1 : Int32) (by decide) dL_law_723 ?_
  refine g_iadd dL_law_724 ?_
  refine g_sld hl hi.1 dL_law_725 ?_
  refine g_aload_n rfl 0 rfl dL_law_726 ?_
  refine g_iload_n rfl 3 rfl dL_law_727 ?_
  refine g_iconst (2 : Int32) (by decide) dL_law_728 ?_
  refine g_iadd dL_law_729 ?_
  refine g_sld hl hi.2.1 dL_law_730 ?_
  refine g_lc (As := [.int (ys (x3 + (1 : Int32)).toNatClampNeg), .int (ys (x3 + (2 : Int32)).toNatClampNeg)]) (rest := []) cok7 mok_X7_safe tw4_40 tw4_41 tw4_42 oS0 hl.1 hl.2.2.2.2 (by decide) (kX7_safe e1) rfl rfl (Nat.le_of_ble_eq_true rfl) ⟨by simp only; omega, by simp only; omega⟩ dL_law_731 ?_
  refine g_aload_n rfl 2 rfl dL_law_734 ?_
  refine g_aload_n rfl 0 rfl dL_law_735 ?_
  refine g_iload_n rfl 3 rfl dL_law_736 ?_
  refine g_iconst (1 : Int32) (by decide) dL_law_737 ?_
  refine g_iadd dL_law_738 ?_
  refine g_sld hl hi.1 dL_law_739 ?_
  refine g_aload_n rfl 0 rfl dL_law_740 ?_
  refine g_iload_n rfl 3 rfl dL_law_741 ?_
  refine g_iconst (2 : Int32) (by decide) dL_law_742 ?_
  refine g_iadd dL_law_743 ?_
  refine g_sld hl hi.2.1 dL_law_744 ?_
  refine g_lc (As := [.int (ys (x3 + (1 : Int32)).toNatClampNeg), .int (ys (x3 + (2 : Int32)).toNatClampNeg)]) (rest := [.int r]) cok8 mok_X8_safe tw7_5 tw7_6 tw7_7 oS38 hl.1 hl.2.2.2.2 (by decide) (kX8_safe e2) rfl rfl (Nat.le_of_ble_eq_true rfl) ⟨by simp only; omega, by simp only; omega⟩ dL_law_745 ?_
  refine g_icmp_eq 1067 (by decide) dL_law_748 (fun _ => ?_) (fun h => absurd rfl h)
  exact kk _ _ _ (by simp only; omega) (by simp only; omega) hI2
def Step23 (Inv : St → Prop) : Prop := ∀ (a1 : Int32) (a2 : Int32) (st : St), Inv st → ∃ (r : Int32) (st1 : St) (st2 : St), fX7_alone a1 a2 st = some (r, st1) ∧ fX8_alone a1 a2 st1 = some (r, st2) ∧ Inv st2
set_option maxHeartbeats 1000000 in
theorem lawc_23 {E : Ev} {x : Cx} {b L : Nat} {ys : Nat → Int32} {Inv : St → Prop} (hs : Step23 Inv) (hl : Lw E x b L ys) {x3 : Int32} (hi : LawIx x3 L) {c sl : Nat} {st : St} (hI : Inv st) (hb : c + 6 ≤ 600000 ∧ sl + 882 ≤ 7302250) (kk : ∀ (c2 s2 : Nat) (st2 : St), c2 ≤ c + 6 → s2 ≤ sl + 882 → Inv st2 → G E WT x RL cL_law 4 (c2, s2) st2 1067 (LV E b x3) []) : G E WT x RL cL_law 4 (c, sl) st 753 (LV E b x3) [] := by
  obtain ⟨r, st1, st2, e1, e2, hI2⟩ := hs (ys (x3 + 1).toNatClampNeg) (ys (x3 + 2).toNatClampNeg) st hI
  refine g_aload_n rfl 1 rfl dL_law_753 ?_
  refine g_aload_n rfl 0 rfl dL_law_754 ?_
  refine g_iload_n rfl 3 rfl dL_law_755 ?_
  refine g_iconst (1 : Int32) (by decide) dL_law_756 ?_
  refine g_iadd dL_law_757 ?_
  refine g_sld hl hi.1 dL_law_758 ?_
  refine g_aload_n rfl 0 rfl dL_law_759 ?_
  refine g_iload_n rfl 3 rfl dL_law_760 ?_
  refine g_iconst (2 : Int32) (by decide) dL_law_761 ?_
  refine g_iadd dL_law_762 ?_
  refine g_sld hl hi.2.1 dL_law_763 ?_
  refine g_lc (As := [.int (ys (x3 + (1 : Int32)).toNatClampNeg), .int (ys (x3 + (2 : Int32)).toNatClampNeg)]) (rest := []) cok7 mok_X7_alone tw4_44 tw4_45 tw4_46 oS0 hl.1 hl.2.2.2.2 (by decide) (kX7_alone e1) rfl rfl (Nat.le_of_ble_eq_true rfl) ⟨by simp only; omega, by simp only; omega⟩ dL_law_764 ?_
  refine g_aload_n rfl 2 rfl dL_law_767 ?_
  refine g_aload_n rfl 0 rfl dL_law_768 ?_
  refine g_iload_n rfl 3 rfl dL_law_769 ?_
  refine g_iconst (1 : Int32) (by decide) dL_law_770 ?_
  refine g_iadd dL_law_771 ?_
  refine g_sld hl hi.1 dL_law_772 ?_
  refine g_aload_n rfl 0 rfl dL_law_773 ?_
  refine g_iload_n rfl 3 rfl dL_law_774 ?_
  refine g_iconst (2 : Int32) (by decide) dL_law_775 ?_
  refine g_iadd dL_law_776 ?_
  refine g_sld hl hi.2.1 dL_law_777 ?_
  refine g_lc (As := [.int (ys (x3 + (1 : Int32)).toNatClampNeg), .int (ys (x3 + (2 : Int32)).toNatClampNeg)]) (rest := [.int r]) cok8 mok_X8_alone tw7_13 tw7_14 tw7_15 oS38 hl.1 hl.2.2.2.2 (by decide) (kX8_alone e2) rfl rfl (Nat.le_of_ble_eq_true rfl) ⟨by simp only; omega, by simp only; omega⟩ dL_law_778 ?_
  refine g_icmp_eq 1067 (by decide) dL_law_781 (fun _ => ?_) (fun h => absurd rfl h)
  exact kk _ _ _ (by simp only; omega) (by simp only; omega) hI2
def Step24 (Inv : St → Prop) : Prop := ∀ (a1 : Int32) (st : St), Inv st → ∃ (r : Int32) (st1 : St) (st2 : St), fX7_game a1 st = some (r, st1) ∧ fX8_game a1 st1 = some (r, st2) ∧ Inv st2
set_option maxHeartbeats 1000000 in
theorem lawc_24 {E : Ev} {x : Cx} {b L : Nat} {ys : Nat → Int32} {Inv : St → Prop} (hs : Step24 Inv) (hl : Lw E x b L ys) {x3 : Int32} (hi : LawIx x3 L) {c sl : Nat} {st : St} (hI : Inv st) (hb : c + 6 ≤ 600000 ∧ sl + 882 ≤ 7302250) (kk : ∀ (c2 s2 : Nat) (st2 : St), c2 ≤ c + 6 → s2 ≤ sl + 882 → Inv st2 → G E WT x RL cL_law 4 (c2, s2) st2 1067 (LV E b x3) []) : G E WT x RL cL_law 4 (c, sl) st 786 (LV E b x3) [] := by
  obtain ⟨r, st1, st2, e1, e2, hI2⟩ := hs (ys (x3 + 1).toNatClampNeg) st hI
  refine g_aload_n rfl 1 rfl dL_law_786 ?_
  refine g_aload_n rfl 0 rfl dL_law_787 ?_
  refine g_iload_n rfl 3 rfl dL_law_788 ?_
  refine g_iconst (1 : Int32) (by decide) dL_law_789 ?_
  refine g_iadd dL_law_790 ?_
  refine g_sld hl hi.1 dL_law_791 ?_
  refine g_lc (As := [.int (ys (x3 + (1 : Int32)).toNatClampNeg)]) (rest := []) cok7 mok_X7_game tw4_61 tw4_62 tw4_63 oS0 hl.1 hl.2.2.2.2 (by decide) (kX7_game e1) rfl rfl (Nat.le_of_ble_eq_true rfl) ⟨by simp only; omega, by simp only; omega⟩ dL_law_792 ?_
  refine g_aload_n rfl 2 rfl dL_law_795 ?_
  refine g_aload_n rfl 0 rfl dL_law_796 ?_
  refine g_iload_n rfl 3 rfl dL_law_797 ?_
  refine g_iconst (1 : Int32) (by decide) dL_law_798 ?_
  refine g_iadd dL_law_799 ?_
  refine g_sld hl hi.1 dL_law_800 ?_
  refine g_lc (As := [.int (ys (x3 + (1 : Int32)).toNatClampNeg)]) (rest := [.int r]) cok8 mok_X8_game tw7_44 tw7_45 tw7_46 oS38 hl.1 hl.2.2.2.2 (by decide) (kX8_game e2) rfl rfl (Nat.le_of_ble_eq_true rfl) ⟨by simp only; omega, by simp only; omega⟩ dL_law_801 ?_
  refine g_icmp_eq 1067 (by decide) dL_law_804 (fun _ => ?_) (fun h => absurd rfl h)
  exact kk _ _ _ (by simp only; omega) (by simp only; omega) hI2
def Step25 (Inv : St → Prop) : Prop := ∀ (a1 : Int32) (a2 : Int32) (st : St), Inv st → ∃ (r : Int64) (st1 : St) (st2 : St), fX7_chances a1 a2 st = some (r, st1) ∧ fX8_chances a1 a2 st1 = some (r, st2) ∧ Inv st2
set_option maxHeartbeats 1000000 in
theorem lawc_25 {E : Ev} {x : Cx} {b L : Nat} {ys : Nat → Int32} {Inv : St → Prop} (hs : Step25 Inv) (hl : Lw E x b L ys) {x3 : Int32} (hi : LawIx x3 L) {c sl : Nat} {st : St} (hI : Inv st) (hb : c + 6 ≤ 600000 ∧ sl + 882 ≤ 7302250) (kk : ∀ (c2 s2 : Nat) (st2 : St), c2 ≤ c + 6 → s2 ≤ sl + 882 → Inv st2 → G E WT x RL cL_law 4 (c2, s2) st2 1067 (LV E b x3) []) : G E WT x RL cL_law 4 (c, sl) st 809 (LV E b x3) [] := by
  obtain ⟨r, st1, st2, e1, e2, hI2⟩ := hs (ys (x3 + 1).toNatClampNeg) (ys (x3 + 2).toNatClampNeg) st hI
  refine g_aload_n rfl 1 rfl dL_law_809 ?_
  refine g_aload_n rfl 0 rfl dL_law_810 ?_
  refine g_iload_n rfl 3 rfl dL_law_811 ?_
  refine g_iconst (1 : Int32) (by decide) dL_law_812 ?_
  refine g_iadd dL_law_813 ?_
  refine g_sld hl hi.1 dL_law_814 ?_
  refine g_aload_n rfl 0 rfl dL_law_815 ?_
  refine g_iload_n rfl 3 rfl dL_law_816 ?_
  refine g_iconst (2 : Int32) (by decide) dL_law_817 ?_
  refine g_iadd dL_law_818 ?_
  refine g_sld hl hi.2.1 dL_law_819 ?_
  refine g_lc (As := [.int (ys (x3 + (1 : Int32)).toNatClampNeg), .int (ys (x3 + (2 : Int32)).toNatClampNeg)]) (rest := []) cok7 mok_X7_chances tw4_75 tw4_76 tw4_77 oS0 hl.1 hl.2.2.2.2 (by decide) (kX7_chances e1) rfl rfl (Nat.le_of_ble_eq_true rfl) ⟨by simp only; omega, by simp only; omega⟩ dL_law_820 ?_
  refine g_aload_n rfl 2 rfl dL_law_823 ?_
  refine g_aload_n rfl 0 rfl dL_law_824 ?_
  refine g_iload_n rfl 3 rfl dL_law_825 ?_
  refine g_iconst (1 : Int32) (by decide) dL_law_826 ?_
  refine g_iadd dL_law_827 ?_
  refine g_sld hl hi.1 dL_law_828 ?_
  refine g_aload_n rfl 0 rfl dL_law_829 ?_
  refine g_iload_n rfl 3 rfl dL_law_830 ?_
  refine g_iconst (2 : Int32) (by decide) dL_law_831 ?_
  refine g_iadd dL_law_832 ?_
  refine g_sld hl hi.2.1 dL_law_833 ?_
  refine g_lc (As := [.int (ys (x3 + (1 : Int32)).toNatClampNeg), .int (ys (x3 + (2 : Int32)).toNatClampNeg)]) (rest := [.long r]) cok8 mok_X8_chances tw7_64 tw7_65 tw7_66 oS38 hl.1 hl.2.2.2.2 (by decide) (kX8_chances e2) rfl rfl (Nat.le_of_ble_eq_true rfl) ⟨by simp only; omega, by simp only; omega⟩ dL_law_834 ?_
  refine g_lcmp dL_law_837 ?_
  refine g_if_eq 1067 (by decide) dL_law_838 (fun _ => ?_) (fun h => absurd (lg_self _) h)
  exact kk _ _ _ (by simp only; omega) (by simp only; omega) hI2
def Step26 (Inv : St → Prop) : Prop := ∀ (a1 : Int32) (a2 : Int32) (a3 : Int32) (st : St), Inv st → ∃ (r : Int32) (st1 : St) (st2 : St), fX7_said a1 a2 a3 st = some (r, st1) ∧ fX8_said a1 a2 a3 st1 = some (r, st2) ∧ Inv st2
set_option maxHeartbeats 1000000 in
theorem lawc_26 {E : Ev} {x : Cx} {b L : Nat} {ys : Nat → Int32} {Inv : St → Prop} (hs : Step26 Inv) (hl : Lw E x b L ys) {x3 : Int32} (hi : LawIx x3 L) {c sl : Nat} {st : St} (hI : Inv st) (hb : c + 6 ≤ 600000 ∧ sl + 882 ≤ 7302250) (kk : ∀ (c2 s2 : Nat) (st2 : St), c2 ≤ c + 6 → s2 ≤ sl + 882 → Inv st2 → G E WT x RL cL_law 4 (c2, s2) st2 1067 (LV E b x3) []) : G E WT x RL cL_law 4 (c, sl) st 843 (LV E b x3) [] := by
  obtain ⟨r, st1, st2, e1, e2, hI2⟩ := hs (ys (x3 + 1).toNatClampNeg) (ys (x3 + 2).toNatClampNeg) (ys (x3 + 3).toNatClampNeg) st hI
  refine g_aload_n rfl 1 rfl dL_law_843 ?_
  refine g_aload_n rfl 0 rfl dL_law_844 ?_
  refine g_iload_n rfl 3 rfl dL_law_845 ?_
  refine g_iconst (1 : Int32) (by decide) dL_law_846 ?_
  refine g_iadd dL_law_847 ?_
  refine g_sld hl hi.1 dL_law_848 ?_
  refine g_aload_n rfl 0 rfl dL_law_849 ?_
  refine g_iload_n rfl 3 rfl dL_law_850 ?_
  refine g_iconst (2 : Int32) (by decide) dL_law_851 ?_
  refine g_iadd dL_law_852 ?_
  refine g_sld hl hi.2.1 dL_law_853 ?_
  refine g_aload_n rfl 0 rfl dL_law_854 ?_
  refine g_iload_n rfl 3 rfl dL_law_855 ?_
  refine g_iconst (3 : Int32) (by decide) dL_law_856 ?_
  refine g_iadd dL_law_857 ?_
  refine g_sld hl hi.2.2.1 dL_law_858 ?_
  refine g_lc (As := [.int (ys (x3 + (1 : Int32)).toNatClampNeg), .int (ys (x3 + (2 : Int32)).toNatClampNeg), .int (ys (x3 + (3 : Int32)).toNatClampNeg)]) (rest := []) cok7 mok_X7_said tw4_94 tw4_95 tw4_96 oS0 hl.1 hl.2.2.2.2 (by decide) (kX7_said e1) rfl rfl (Nat.le_of_ble_eq_true rfl) ⟨by simp only; omega, by simp only; omega⟩ dL_law_859 ?_
  refine g_aload_n rfl 2 rfl dL_law_862 ?_
  refine g_aload_n rfl 0 rfl dL_law_863 ?_
  refine g_iload_n rfl 3 rfl dL_law_864 ?_
  refine g_iconst (1 : Int32) (by decide) dL_law_865 ?_
  refine g_iadd dL_law_866 ?_
  refine g_sld hl hi.1 dL_law_867 ?_
  refine g_aload_n rfl 0 rfl dL_law_868 ?_
  refine g_iload_n rfl 3 rfl dL_law_869 ?_
  refine g_iconst (2 : Int32) (by decide) dL_law_870 ?_
  refine g_iadd dL_law_871 ?_
  refine g_sld hl hi.2.1 dL_law_872 ?_
  refine g_aload_n rfl 0 rfl dL_law_873 ?_
  refine g_iload_n rfl 3 rfl dL_law_874 ?_
  refine g_iconst (3 : Int32) (by decide) dL_law_875 ?_
  refine g_iadd dL_law_876 ?_
  refine g_sld hl hi.2.2.1 dL_law_877 ?_
  refine g_lc (As := [.int (ys (x3 + (1 : Int32)).toNatClampNeg), .int (ys (x3 + (2 : Int32)).toNatClampNeg), .int (ys (x3 + (3 : Int32)).toNatClampNeg)]) (rest := [.int r]) cok8 mok_X8_said tw7_82 tw7_83 tw7_84 oS38 hl.1 hl.2.2.2.2 (by decide) (kX8_said e2) rfl rfl (Nat.le_of_ble_eq_true rfl) ⟨by simp only; omega, by simp only; omega⟩ dL_law_878 ?_
  refine g_icmp_eq 1067 (by decide) dL_law_881 (fun _ => ?_) (fun h => absurd rfl h)
  exact kk _ _ _ (by simp only; omega) (by simp only; omega) hI2
def Step27 (Inv : St → Prop) : Prop := ∀ (a1 : Int32) (a2 : Int32) (st : St), Inv st → ∃ (r : Int32) (st1 : St) (st2 : St), fX7_compare a1 a2 st = some (r, st1) ∧ fX8_compare a1 a2 st1 = some (r, st2) ∧ Inv st2
set_option maxHeartbeats 1000000 in
theorem lawc_27 {E : Ev} {x : Cx} {b L : Nat} {ys : Nat → Int32} {Inv : St → Prop} (hs : Step27 Inv) (hl : Lw E x b L ys) {x3 : Int32} (hi : LawIx x3 L) {c sl : Nat} {st : St} (hI : Inv st) (hb : c + 6 ≤ 600000 ∧ sl + 882 ≤ 7302250) (kk : ∀ (c2 s2 : Nat) (st2 : St), c2 ≤ c + 6 → s2 ≤ sl + 882 → Inv st2 → G E WT x RL cL_law 4 (c2, s2) st2 1067 (LV E b x3) []) : G E WT x RL cL_law 4 (c, sl) st 886 (LV E b x3) [] := by
  obtain ⟨r, st1, st2, e1, e2, hI2⟩ := hs (ys (x3 + 1).toNatClampNeg) (ys (x3 + 2).toNatClampNeg) st hI
  refine g_aload_n rfl 1 rfl dL_law_886 ?_
  refine g_aload_n rfl 0 rfl dL_law_887 ?_
  refine g_iload_n rfl 3 rfl dL_law_888 ?_
  refine g_iconst (1 : Int32) (by decide) dL_law_889 ?_
  refine g_iadd dL_law_890 ?_
  refine g_sld hl hi.1 dL_law_891 ?_
  refine g_aload_n rfl 0 rfl dL_law_892 ?_
  refine g_iload_n rfl 3 rfl dL_law_893 ?_
  refine g_iconst (2 : Int32) (by decide) dL_law_894 ?_
  refine g_iadd dL_law_895 ?_
  refine g_sld hl hi.2.1 dL_law_896 ?_
  refine g_lc (As := [.int (ys (x3 + (1 : Int32)).toNatClampNeg), .int (ys (x3 + (2 : Int32)).toNatClampNeg)]) (rest := []) cok7 mok_X7_compare tw4_111 tw4_112 tw4_113 oS0 hl.1 hl.2.2.2.2 (by decide) (kX7_compare e1) rfl rfl (Nat.le_of_ble_eq_true rfl) ⟨by simp only; omega, by simp only; omega⟩ dL_law_897 ?_
  refine g_aload_n rfl 2 rfl dL_law_900 ?_
  refine g_aload_n rfl 0 rfl dL_law_901 ?_
  refine g_iload_n rfl 3 rfl dL_law_902 ?_
  refine g_iconst (1 : Int32) (by decide) dL_law_903 ?_
  refine g_iadd dL_law_904 ?_
  refine g_sld hl hi.1 dL_law_905 ?_
  refine g_aload_n rfl 0 rfl dL_law_906 ?_
  refine g_iload_n rfl 3 rfl dL_law_907 ?_
  refine g_iconst (2 : Int32) (by decide) dL_law_908 ?_
  refine g_iadd dL_law_909 ?_
  refine g_sld hl hi.2.1 dL_law_910 ?_
  refine g_lc (As := [.int (ys (x3 + (1 : Int32)).toNatClampNeg), .int (ys (x3 + (2 : Int32)).toNatClampNeg)]) (rest := [.int r]) cok8 mok_X8_compare tw7_9 tw7_10 tw7_11 oS38 hl.1 hl.2.2.2.2 (by decide) (kX8_compare e2) rfl rfl (Nat.le_of_ble_eq_true rfl) ⟨by simp only; omega, by simp only; omega⟩ dL_law_911 ?_
  refine g_icmp_eq 1067 (by decide) dL_law_914 (fun _ => ?_) (fun h => absurd rfl h)
  exact kk _ _ _ (by simp only; omega) (by simp only; omega) hI2
def Step28 (Inv : St → Prop) : Prop := ∀ (a1 : Int32) (a2 : Int32) (st : St), Inv st → ∃ (r : Int32) (st1 : St) (st2 : St), fX7_quarters a1 a2 st = some (r, st1) ∧ fX8_quarters a1 a2 st1 = some (r, st2) ∧ Inv st2
set_option maxHeartbeats 1000000 in
theorem lawc_28 {E : Ev} {x : Cx} {b L : Nat} {ys : Nat → Int32} {Inv : St → Prop} (hs : Step28 Inv) (hl : Lw E x b L ys) {x3 : Int32} (hi : LawIx x3 L) {c sl : Nat} {st : St} (hI : Inv st) (hb : c + 6 ≤ 600000 ∧ sl + 882 ≤ 7302250) (kk : ∀ (c2 s2 : Nat) (st2 : St), c2 ≤ c + 6 → s2 ≤ sl + 882 → Inv st2 → G E WT x RL cL_law 4 (c2, s2) st2 1067 (LV E b x3) []) : G E WT x RL cL_law 4 (c, sl) st 919 (LV E b x3) [] := by
  obtain ⟨r, st1, st2, e1, e2, hI2⟩ := hs (ys (x3 + 1).toNatClampNeg) (ys (x3 + 2).toNatClampNeg) st hI
  refine g_aload_n rfl 1 rfl dL_law_919 ?_
  refine g_aload_n rfl 0 rfl dL_law_920 ?_
  refine g_iload_n rfl 3 rfl dL_law_921 ?_
  refine g_iconst (1 : Int32) (by decide) dL_law_922 ?_
  refine g_iadd dL_law_923 ?_
  refine g_sld hl hi.1 dL_law_924 ?_
  refine g_aload_n rfl 0 rfl dL_law_925 ?_
  refine g_iload_n rfl 3 rfl dL_law_926 ?_
  refine g_iconst (2 : Int32) (by decide) dL_law_927 ?_
  refine g_iadd dL_law_928 ?_
  refine g_sld hl hi.2.1 dL_law_929 ?_
  refine g_lc (As := [.int (ys (x3 + (1 : Int32)).toNatClampNeg), .int (ys (x3 + (2 : Int32)).toNatClampNeg)]) (rest := []) cok7 mok_X7_quarters tw4_115 tw4_116 tw4_117 oS0 hl.1 hl.2.2.2.2 (by decide) (kX7_quarters e1) rfl rfl (Nat.le_of_ble_eq_true rfl) ⟨by simp only; omega, by simp only; omega⟩ dL_law_930 ?_
  refine g_aload_n rfl 2 rfl dL_law_933 ?_
  refine g_aload_n rfl 0 rfl dL_law_934 ?_
  refine g_iload_n rfl 3 rfl dL_law_935 ?_
  refine g_iconst (1 : Int32) (by decide) dL_law_936 ?_
  refine g_iadd dL_law_937 ?_
  refine g_sld hl hi.1 dL_law_938 ?_
  refine g_aload_n rfl 0 rfl dL_law_939 ?_
  refine g_iload_n rfl 3 rfl dL_law_940 ?_
  refine g_iconst (2 : Int32) (by decide) dL_law_941 ?_
  refine g_iadd dL_law_942 ?_
  refine g_sld hl hi.2.1 dL_law_943 ?_
  refine g_lc (As := [.int (ys (x3 + (1 : Int32)).toNatClampNeg), .int (ys (x3 + (2 : Int32)).toNatClampNeg)]) (rest := [.int r]) cok8 mok_X8_quarters tw7_130 tw7_131 tw7_132 oS38 hl.1 hl.2.2.2.2 (by decide) (kX8_quarters e2) rfl rfl (Nat.le_of_ble_eq_true rfl) ⟨by simp only; omega, by simp only; omega⟩ dL_law_944 ?_
  refine g_icmp_eq 1067 (by decide) dL_law_947 (fun _ => ?_) (fun h => absurd rfl h)
  exact kk _ _ _ (by simp only; omega) (by simp only; omega) hI2
def Step29 (Inv : St → Prop) : Prop := ∀ (a1 : Int32) (a2 : Int32) (st : St), Inv st → ∃ (r : Int32) , fX7_drawn st a1 a2 = some r ∧ fX8_drawn st a1 a2 = some r
set_option maxHeartbeats 1000000 in
theorem lawc_29 {E : Ev} {x : Cx} {b L : Nat} {ys : Nat → Int32} {Inv : St → Prop} (hs : Step29 Inv) (hl : Lw E x b L ys) {x3 : Int32} (hi : LawIx x3 L) {c sl : Nat} {st : St} (hI : Inv st) (hb : c + 6 ≤ 600000 ∧ sl + 882 ≤ 7302250) (kk : ∀ (c2 s2 : Nat) (st2 : St), c2 ≤ c + 6 → s2 ≤ sl + 882 → Inv st2 → G E WT x RL cL_law 4 (c2, s2) st2 1067 (LV E b x3) []) : G E WT x RL cL_law 4 (c, sl) st 952 (LV E b x3) [] := by
  obtain ⟨r, e1, e2⟩ := hs (ys (x3 + 1).toNatClampNeg) (ys (x3 + 2).toNatClampNeg) st hI
  refine g_aload_n rfl 1 rfl dL_law_952 ?_
  refine g_aload_n rfl 0 rfl dL_law_953 ?_
  refine g_iload_n rfl 3 rfl dL_law_954 ?_
  refine g_iconst (1 : Int32) (by decide) dL_law_955 ?_
  refine g_iadd dL_law_956 ?_
  refine g_sld hl hi.1 dL_law_957 ?_
  refine g_aload_n rfl 0 rfl dL_law_958 ?_
  refine g_iload_n rfl 3 rfl dL_law_959 ?_
  refine g_iconst (2 : Int32) (by decide) dL_law_960 ?_
  refine g_iadd dL_law_961 ?_
  refine g_sld hl hi.2.1 dL_law_962 ?_
  refine g_lc (As := [.int (ys (x3 + (1 : Int32)).toNatClampNeg), .int (ys (x3 + (2 : Int32)).toNatClampNeg)]) (rest := []) cok7 mok_X7_drawn tw4_144 tw4_145 tw4_146 oS0 hl.1 hl.2.2.2.2 (by decide) (kX7_drawn e1) rfl rfl (Nat.le_of_ble_eq_true rfl) ⟨by simp only; omega, by simp only; omega⟩ dL_law_963 ?_
  refine g_aload_n rfl 2 rfl dL_law_966 ?_
  refine g_aload_n rfl 0 rfl dL_law_967 ?_
  refine g_iload_n rfl 3 rfl dL_law_968 ?_
  refine g_iconst (1 : Int32) (by decide) dL_law_969 ?_
  refine g_iadd dL_law_970 ?_
  refine g_sld hl hi.1 dL_law_971 ?_
  refine g_aload_n rfl 0 rfl dL_law_972 ?_
  refine g_iload_n rfl 3 rfl dL_law_973 ?_
  refine g_iconst (2 : Int32) (by decide) dL_law_974 ?_
  refine g_iadd dL_law_975 ?_
  refine g_sld hl hi.2.1 dL_law_976 ?_
  refine g_lc (As := [.int (ys (x3 + (1 : Int32)).toNatClampNeg), .int (ys (x3 + (2 : Int32)).toNatClampNeg)]) (rest := [.int r]) cok8 mok_X8_drawn tw7_149 tw7_150 tw7_151 oS38 hl.1 hl.2.2.2.2 (by decide) (kX8_drawn e2) rfl rfl (Nat.le_of_ble_eq_true rfl) ⟨by simp only; omega, by simp only; omega⟩ dL_law_977 ?_
  refine g_icmp_eq 1067 (by decide) dL_law_980 (fun _ => ?_) (fun h => absurd rfl h)
  exact kk _ _ _ (by simp only; omega) (by simp only; omega) hI
def Step30 (Inv : St → Prop) : Prop := ∀ (a1 : Int32) (st : St), Inv st → ∃ (r : Int32) (st1 : St) (st2 : St), fX7_image a1 st = some (r, st1) ∧ fX8_image a1 st1 = some (r, st2) ∧ Inv st2
set_option maxHeartbeats 1000000 in
theorem lawc_30 {E : Ev} {x : Cx} {b L : Nat} {ys : Nat → Int32} {Inv : St → Prop} (hs : Step30 Inv) (hl : Lw E x b L ys) {x3 : Int32} (hi : LawIx x3 L) {c sl : Nat} {st : St} (hI : Inv st) (hb : c + 6 ≤ 600000 ∧ sl + 882 ≤ 7302250) (kk : ∀ (c2 s2 : Nat) (st2 : St), c2 ≤ c + 6 → s2 ≤ sl + 882 → Inv st2 → G E WT x RL cL_law 4 (c2, s2) st2 1067 (LV E b x3) []) : G E WT x RL cL_law 4 (c, sl) st 985 (LV E b x3) [] := by
  obtain ⟨r, st1, st2, e1, e2, hI2⟩ := hs (ys (x3 + 1).toNatClampNeg) st hI
  refine g_aload_n rfl 1 rfl dL_law_985 ?_
  refine g_aload_n rfl 0 rfl dL_law_986 ?_
  refine g_iload_n rfl 3 rfl dL_law_987 ?_
  refine g_iconst (1 : Int32) (by decide) dL_law_988 ?_
  refine g_iadd dL_law_989 ?_
  refine g_sld hl hi.1 dL_law_990 ?_
  refine g_lc (As := [.int (ys (x3 + (1 : Int32)).toNatClampNeg)]) (rest := []) cok7 mok_X7_image tw4_148 tw4_149 tw4_150 oS0 hl.1 hl.2.2.2.2 (by decide) (kX7_image e1) rfl rfl (Nat.le_of_ble_eq_true rfl) ⟨by simp only; omega, by simp only; omega⟩ dL_law_991 ?_
  refine g_aload_n rfl 2 rfl dL_law_994 ?_
  refine g_aload_n rfl 0 rfl dL_law_995 ?_
  refine g_iload_n rfl 3 rfl dL_law_996 ?_
  refine g_iconst (1 : Int32) (by decide) dL_law_997 ?_
  refine g_iadd dL_law_998 ?_
  refine g_sld hl hi.1 dL_law_999 ?_
  refine g_lc (As := [.int (ys (x3 + (1 : Int32)).toNatClampNeg)]) (rest := [.int r]) cok8 mok_X8_image tw5_114 tw5_115 tw5_116 oS38 hl.1 hl.2.2.2.2 (by decide) (kX8_image e2) rfl rfl (Nat.le_of_ble_eq_true rfl) ⟨by simp only; omega, by simp only; omega⟩ dL_law_1000 ?_
  refine g_icmp_eq 1067 (by decide) dL_law_1003 (fun _ => ?_) (fun h => absurd rfl h)
  exact kk _ _ _ (by simp only; omega) (by simp only; omega) hI2
def Step31 (Inv : St → Prop) : Prop := ∀ (a1 : Int32) (st : St), Inv st → ∃ (r : Int32) (st1 : St) (st2 : St), fX7_back a1 st = some (r, st1) ∧ fX8_back a1 st1 = some (r, st2) ∧ Inv st2
set_option maxHeartbeats 1000000 in
theorem lawc_31 {E : Ev} {x : Cx} {b L : Nat} {ys : Nat → Int32} {Inv : St → Prop} (hs : Step31 Inv) (hl : Lw E x b L ys) {x3 : Int32} (hi : LawIx x3 L) {c sl : Nat} {st : St} (hI : Inv st) (hb : c + 6 ≤ 600000 ∧ sl + 882 ≤ 7302250) (kk : ∀ (c2 s2 : Nat) (st2 : St), c2 ≤ c + 6 → s2 ≤ sl + 882 → Inv st2 → G E WT x RL cL_law 4 (c2, s2) st2 1067 (LV E b x3) []) : G E WT x RL cL_law 4 (c, sl) st 1008 (LV E b x3) [] := by
  obtain ⟨r, st1, st2, e1, e2, hI2⟩ := hs (ys (x3 + 1).toNatClampNeg) st hI
  refine g_aload_n rfl 1 rfl dL_law_1008 ?_
  refine g_aload_n rfl 0 rfl dL_law_1009 ?_
  refine g_iload_n rfl 3 rfl dL_law_1010 ?_
  refine g_iconst (1 : Int32) (by decide) dL_law_1011 ?_
  refine g_iadd dL_law_1012 ?_
  refine g_sld hl hi.1 dL_law_1013 ?_
  refine g_lc (As := [.int (ys (x3 + (1 : Int32)).toNatClampNeg)]) (rest := []) cok7 mok_X7_back tw4_157 tw4_158 tw4_159 oS0 hl.1 hl.2.2.2.2 (by decide) (kX7_back e1) rfl rfl (Nat.le_of_ble_eq_true rfl) ⟨by simp only; omega, by simp only; omega⟩ dL_law_1014 ?_
  refine g_aload_n rfl 2 rfl dL_law_1017 ?_
  refine g_aload_n rfl 0 rfl dL_law_1018 ?_
  refine g_iload_n rfl 3 rfl dL_law_1019 ?_
  refine g_iconst (1 : Int32) (by decide) dL_law_1020 ?_
  refine g_iadd dL_law_1021 ?_
  refine g_sld hl hi.1 dL_law_1022 ?_
  refine g_lc (As := [.int (ys (x3 + (1 : Int32)).toNatClampNeg)]) (rest := [.int r]) cok8 mok_X8_back tw5_129 tw5_130 tw5_131 oS38 hl.1 hl.2.2.2.2 (by decide) (kX8_back e2) rfl rfl (Nat.le_of_ble_eq_true rfl) ⟨by simp only; omega, by simp only; omega⟩ dL_law_1023 ?_
  refine g_icmp_eq 1067 (by decide) dL_law_1026 (fun _ => ?_) (fun h => absurd rfl h)
  exact kk _ _ _ (by simp only; omega) (by simp only; omega) hI2
def Step32 (Inv : St → Prop) : Prop := ∀ (a1 : Int32) (st : St), Inv st → ∃ (r : Int32) , fX7_count st a1 = some r ∧ fX8_count st a1 = some r
set_option maxHeartbeats 1000000 in
theorem lawc_32 {E : Ev} {x : Cx} {b L : Nat} {ys : Nat → Int32} {Inv : St → Prop} (hs : Step32 Inv) (hl : Lw E x b L ys) {x3 : Int32} (hi : LawIx x3 L) {c sl : Nat} {st : St} (hI : Inv st) (hb : c + 6 ≤ 600000 ∧ sl + 882 ≤ 7302250) (kk : ∀ (c2 s2 : Nat) (st2 : St), c2 ≤ c + 6 → s2 ≤ sl + 882 → Inv st2 → G E WT x RL cL_law 4 (c2, s2) st2 1067 (LV E b x3) []) : G E WT x RL cL_law 4 (c, sl) st 1031 (LV E b x3) [] := by
  obtain ⟨r, e1, e2⟩ := hs (ys (x3 + 1).toNatClampNeg) st hI
  refine g_aload_n rfl 1 rfl dL_law_1031 ?_
  refine g_aload_n rfl 0 rfl dL_law_1032 ?_
  refine g_iload_n rfl 3 rfl dL_law_1033 ?_
  refine g_iconst (1 : Int32) (by decide) dL_law_1034 ?_
  refine g_iadd dL_law_1035 ?_
  refine g_sld hl hi.1 dL_law_1036 ?_
  refine g_lc (As := [.int (ys (x3 + (1 : Int32)).toNatClampNeg)]) (rest := []) cok7 mok_X7_count tw4_161 tw4_162 tw4_163 oS0 hl.1 hl.2.2.2.2 (by decide) (kX7_count e1) rfl rfl (Nat.le_of_ble_eq_true rfl) ⟨by simp only; omega, by simp only; omega⟩ dL_law_1037 ?_
  refine g_aload_n rfl 2 rfl dL_law_1040 ?_
  refine g_aload_n rfl 0 rfl dL_law_1041 ?_
  refine g_iload_n rfl 3 rfl dL_law_1042 ?_
  refine g_iconst (1 : Int32) (by decide) dL_law_1043 ?_
  refine g_iadd dL_law_1044 ?_
  refine g_sld hl hi.1 dL_law_1045 ?_
  refine g_lc (As := [.int (ys (x3 + (1 : Int32)).toNatClampNeg)]) (rest := [.int r]) cok8 mok_X8_count tw7_153 tw7_154 tw7_155 oS38 hl.1 hl.2.2.2.2 (by decide) (kX8_count e2) rfl rfl (Nat.le_of_ble_eq_true rfl) ⟨by simp only; omega, by simp only; omega⟩ dL_law_1046 ?_
  refine g_icmp_eq 1067 (by decide) dL_law_1049 (fun _ => ?_) (fun h => absurd rfl h)
  exact kk _ _ _ (by simp only; omega) (by simp only; omega) hI
def Step33 (Inv : St → Prop) : Prop := ∀ (st : St), Inv st → ∃ (r : Int32) , fX7_status st = r ∧ fX8_status st = r
set_option maxHeartbeats 1000000 in
theorem lawc_33 {E : Ev} {x : Cx} {b L : Nat} {ys : Nat → Int32} {Inv : St → Prop} (hs : Step33 Inv) (hl : Lw E x b L ys) {x3 : Int32} (hi : LawIx x3 L) {c sl : Nat} {st : St} (hI : Inv st) (hb : c + 6 ≤ 600000 ∧ sl + 882 ≤ 7302250) (kk : ∀ (c2 s2 : Nat) (st2 : St), c2 ≤ c + 6 → s2 ≤ sl + 882 → Inv st2 → G E WT x RL cL_law 4 (c2, s2) st2 1067 (LV E b x3) []) : G E WT x RL cL_law 4 (c, sl) st 1054 (LV E b x3) [] := by
  obtain ⟨r, e1, e2⟩ := hs  st hI
  refine g_aload_n rfl 1 rfl dL_law_1054 ?_
  refine g_lc (As := []) (rest := []) cok7 mok_X7_status tw4_165 tw4_166 tw4_167 oS0 hl.1 hl.2.2.2.2 (by decide) (kX7_status e1) rfl rfl (Nat.le_of_ble_eq_true rfl) ⟨by simp only; omega, by simp only; omega⟩ dL_law_1055 ?_
  refine g_aload_n rfl 2 rfl dL_law_1058 ?_
  refine g_lc (As := []) (rest := [.int r]) cok8 mok_X8_status tw7_157 tw7_158 tw7_159 oS38 hl.1 hl.2.2.2.2 (by decide) (kX8_status e2) rfl rfl (Nat.le_of_ble_eq_true rfl) ⟨by simp only; omega, by simp only; omega⟩ dL_law_1059 ?_
  refine g_icmp_eq 1067 (by decide) dL_law_1062 (fun _ => ?_) (fun h => absurd rfl h)
  exact kk _ _ _ (by simp only; omega) (by simp only; omega) hI
def StepOK (Inv : St → Prop) : Prop := Step0 Inv ∧ Step1 Inv ∧ Step2 Inv ∧ Step3 Inv ∧ Step4 Inv ∧ Step5 Inv ∧ Step6 Inv ∧ Step7 Inv ∧ Step8 Inv ∧ Step9 Inv ∧ Step10 Inv ∧ Step11 Inv ∧ Step12 Inv ∧ Step13 Inv ∧ Step14 Inv ∧ Step15 Inv ∧ Step16 Inv ∧ Step17 Inv ∧ Step18 Inv ∧ Step19 Inv ∧ Step20 Inv ∧ Step21 Inv ∧ Step22 Inv ∧ Step23 Inv ∧ Step24 Inv ∧ Step25 Inv ∧ Step26 Inv ∧ Step27 Inv ∧ Step28 Inv ∧ Step29 Inv ∧ Step30 Inv ∧ Step31 Inv ∧ Step32 Inv ∧ Step33 Inv

