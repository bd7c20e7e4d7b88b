def gtbl : List Cond := lw_tbl.filter goodWord
theorem tb0 {w : Cond} (h : w ∈ k2_sels lw_privs) (g : goodWord w = true) : w ∈ gtbl := List.mem_filter.mpr ⟨List.mem_append_left _ h, g⟩
theorem tbt {w : Cond} (h : w ∈ tables_1) (g : goodWord w = true) : w ∈ gtbl := List.mem_filter.mpr ⟨List.mem_append_right _ h, g⟩
theorem gtbl_good : ∀ w ∈ gtbl, w ∈ gtbl ∧ ((w.onTables && w.keeps) = true ∨ ∃ ty, w = .arrayClass ty) := fun w h => ⟨h, good_of_word (List.mem_filter.mp h).2⟩
theorem gtbl_in : ∀ w ∈ gtbl, w ∈ lw_tbl := fun w h => (List.mem_filter.mp h).1
theorem tb1 {w : Cond} (h : w ∈ tables_1_1) (g : goodWord w = true) : w ∈ gtbl := tbt (List.mem_append_left _ h) g
theorem tb2 {w : Cond} (h : w ∈ tables_1_2) (g : goodWord w = true) : w ∈ gtbl := tbt (List.mem_append_right _ (List.mem_append_left _ h)) g
theorem tb3 {w : Cond} (h : w ∈ tables_1_3) (g : goodWord w = true) : w ∈ gtbl := tbt (List.mem_append_right _ (List.mem_append_right _ (List.mem_append_left _ h))) g
theorem tb4 {w : Cond} (h : w ∈ tables_1_4) (g : goodWord w = true) : w ∈ gtbl := tbt (List.mem_append_right _ (List.mem_append_right _ (List.mem_append_right _ (List.mem_append_left _ h)))) g
theorem tb5 {w : Cond} (h : w ∈ tables_1_5) (g : goodWord w = true) : w ∈ gtbl := tbt (List.mem_append_right _ (List.mem_append_right _ (List.mem_append_right _ (List.mem_append_right _ (List.mem_append_left _ h))))) g
theorem tb6 {w : Cond} (h : w ∈ tables_1_6) (g : goodWord w = true) : w ∈ gtbl := tbt (List.mem_append_right _ (List.mem_append_right _ (List.mem_append_right _ (List.mem_append_right _ (List.mem_append_right _ (List.mem_append_left _ h)))))) g
theorem tb7 {w : Cond} (h : w ∈ tables_1_7) (g : goodWord w = true) : w ∈ gtbl := tbt (List.mem_append_right _ (List.mem_append_right _ (List.mem_append_right _ (List.mem_append_right _ (List.mem_append_right _ (List.mem_append_right _ h)))))) g
theorem tp1 {q : MethodName × Nat} (h : q ∈ lw_privs_1) : Cond.selects q.1.cls q.1 q.1 ∈ gtbl := tb0 (List.mem_map.mpr ⟨q, (List.mem_append_left _ h), rfl⟩) rfl
theorem tp2 {q : MethodName × Nat} (h : q ∈ lw_privs_2) : Cond.selects q.1.cls q.1 q.1 ∈ gtbl := tb0 (List.mem_map.mpr ⟨q, (List.mem_append_right _ (List.mem_append_left _ h)), rfl⟩) rfl
theorem tp3 {q : MethodName × Nat} (h : q ∈ lw_privs_3) : Cond.selects q.1.cls q.1 q.1 ∈ gtbl := tb0 (List.mem_map.mpr ⟨q, (List.mem_append_right _ (List.mem_append_right _ (List.mem_append_left _ h))), rfl⟩) rfl
theorem tp4 {q : MethodName × Nat} (h : q ∈ lw_privs_4) : Cond.selects q.1.cls q.1 q.1 ∈ gtbl := tb0 (List.mem_map.mpr ⟨q, (List.mem_append_right _ (List.mem_append_right _ (List.mem_append_right _ (List.mem_append_left _ h)))), rfl⟩) rfl
theorem tp5 {q : MethodName × Nat} (h : q ∈ lw_privs_5) : Cond.selects q.1.cls q.1 q.1 ∈ gtbl := tb0 (List.mem_map.mpr ⟨q, (List.mem_append_right _ (List.mem_append_right _ (List.mem_append_right _ (List.mem_append_right _ (List.mem_append_left _ h))))), rfl⟩) rfl
theorem tp6 {q : MethodName × Nat} (h : q ∈ lw_privs_6) : Cond.selects q.1.cls q.1 q.1 ∈ gtbl := tb0 (List.mem_map.mpr ⟨q, (List.mem_append_right _ (List.mem_append_right _ (List.mem_append_right _ (List.mem_append_right _ (List.mem_append_right _ (List.mem_append_left _ h)))))), rfl⟩) rfl
theorem tp7 {q : MethodName × Nat} (h : q ∈ lw_privs_7) : Cond.selects q.1.cls q.1 q.1 ∈ gtbl := tb0 (List.mem_map.mpr ⟨q, (List.mem_append_right _ (List.mem_append_right _ (List.mem_append_right _ (List.mem_append_right _ (List.mem_append_right _ (List.mem_append_right _ (List.mem_append_left _ h))))))), rfl⟩) rfl
theorem tp8 {q : MethodName × Nat} (h : q ∈ lw_privs_8) : Cond.selects q.1.cls q.1 q.1 ∈ gtbl := tb0 (List.mem_map.mpr ⟨q, (List.mem_append_right _ (List.mem_append_right _ (List.mem_append_right _ (List.mem_append_right _ (List.mem_append_right _ (List.mem_append_right _ (List.mem_append_right _ (List.mem_append_left _ h)))))))), rfl⟩) rfl
theorem tp9 {q : MethodName × Nat} (h : q ∈ lw_privs_9) : Cond.selects q.1.cls q.1 q.1 ∈ gtbl := tb0 (List.mem_map.mpr ⟨q, (List.mem_append_right _ (List.mem_append_right _ (List.mem_append_right _ (List.mem_append_right _ (List.mem_append_right _ (List.mem_append_right _ (List.mem_append_right _ (List.mem_append_right _ (List.mem_append_left _ h))))))))), rfl⟩) rfl
theorem tp10 {q : MethodName × Nat} (h : q ∈ lw_privs_10) : Cond.selects q.1.cls q.1 q.1 ∈ gtbl := tb0 (List.mem_map.mpr ⟨q, (List.mem_append_right _ (List.mem_append_right _ (List.mem_append_right _ (List.mem_append_right _ (List.mem_append_right _ (List.mem_append_right _ (List.mem_append_right _ (List.mem_append_right _ (List.mem_append_right _ h))))))))), rfl⟩) rfl
theorem tw1_0 : Cond.initialized RL ∈ gtbl := tb1 (List.mem_of_getElem? (i := 0) (by decide +kernel)) rfl
theorem tw1_1 : Cond.initialized RX7 ∈ gtbl := tb1 (List.mem_of_getElem? (i := 1) (by decide +kernel)) rfl
theorem tw1_2 : Cond.initialized RX4 ∈ gtbl := tb1 (List.mem_of_getElem? (i := 2) (by decide +kernel)) rfl
theorem tw1_3 : Cond.initialized RX3 ∈ gtbl := tb1 (List.mem_of_getElem? (i := 3) (by decide +kernel)) rfl
theorem tw1_4 : Cond.initialized RX5 ∈ gtbl := tb1 (List.mem_of_getElem? (i := 4) (by decide +kernel)) rfl
theorem tw1_5 : Cond.initialized RJ9 ∈ gtbl := tb1 (List.mem_of_getElem? (i := 5) (by decide +kernel)) rfl
theorem tw1_6 : Cond.initialized RX2 ∈ gtbl := tb1 (List.mem_of_getElem? (i := 6) (by decide +kernel)) rfl
theorem tw1_7 : Cond.initialized RX6 ∈ gtbl := tb1 (List.mem_of_getElem? (i := 7) (by decide +kernel)) rfl
theorem tw1_8 : Cond.initialized RX1 ∈ gtbl := tb1 (List.mem_of_getElem? (i := 8) (by decide +kernel)) rfl
theorem tw1_9 : Cond.initialized RX0 ∈ gtbl := tb1 (List.mem_of_getElem? (i := 9) (by decide +kernel)) rfl
theorem tw1_10 : Cond.initialized RX8 ∈ gtbl := tb1 (List.mem_of_getElem? (i := 10) (by decide +kernel)) rfl
theorem tw1_11 : Cond.initialized RJ7 ∈ gtbl := tb1 (List.mem_of_getElem? (i := 11) (by decide +kernel)) rfl
theorem tw1_12 : Cond.initialized RJ6 ∈ gtbl := tb1 (List.mem_of_getElem? (i := 12) (by decide +kernel)) rfl
theorem tw1_13 : Cond.initialized RJ0 ∈ gtbl := tb1 (List.mem_of_getElem? (i := 13) (by decide +kernel)) rfl
theorem tw1_14 : Cond.initialized RJ1 ∈ gtbl := tb1 (List.mem_of_getElem? (i := 14) (by decide +kernel)) rfl
theorem tw1_15 : Cond.initialized RJ3 ∈ gtbl := tb1 (List.mem_of_getElem? (i := 15) (by decide +kernel)) rfl
theorem tw1_16 : Cond.initialized RJ2 ∈ gtbl := tb1 (List.mem_of_getElem? (i := 16) (by decide +kernel)) rfl
theorem tw1_17 : Cond.initialized RJ10 ∈ gtbl := tb1 (List.mem_of_getElem? (i := 17) (by decide +kernel)) rfl
theorem tw1_18 : Cond.classLink RL 7 RX7 ∈ gtbl := tb1 (List.mem_of_getElem? (i := 18) (by decide +kernel)) rfl
theorem tw1_19 : Cond.instantiable RX7 15 ∈ gtbl := tb1 (List.mem_of_getElem? (i := 19) (by decide +kernel)) rfl
theorem tw1_20 : Cond.methodLink RL 9 yX7_init ∈ gtbl := tb1 (List.mem_of_getElem? (i := 20) (by decide +kernel)) rfl
theorem tw1_21 : Cond.instanceMethod yX7_init ∈ gtbl := tb1 (List.mem_of_getElem? (i := 21) (by decide +kernel)) rfl
theorem tw1_22 : Cond.code yX7_init cX7_init 1 none ∈ gtbl := tb1 (List.mem_of_getElem? (i := 22) (rfl)) rfl
theorem tw1_23 : Cond.methodLink RX7 3 (⟨"java/lang/Object", "<init>", "()V"⟩ : MethodName) ∈ gtbl := tb1 (List.mem_of_getElem? (i := 23) (by decide +kernel)) rfl
theorem tw1_24 : Cond.instanceMethod (⟨"java/lang/Object", "<init>", "()V"⟩ : MethodName) ∈ gtbl := tb1 (List.mem_of_getElem? (i := 24) (by decide +kernel)) rfl
theorem tw1_25 : Cond.code (⟨"java/lang/Object", "<init>", "()V"⟩ : MethodName) object_method_1_code 1 none ∈ gtbl := tb1 (List.mem_of_getElem? (i := 25) (rfl)) rfl
theorem tw1_26 : Cond.classLink RX7 9 RX4 ∈ gtbl := tb1 (List.mem_of_getElem? (i := 26) (by decide +kernel)) rfl
theorem tw1_27 : Cond.instantiable RX4 9 ∈ gtbl := tb1 (List.mem_of_getElem? (i := 27) (by decide +kernel)) rfl
theorem tw1_29 : Cond.instanceMethod yX4_init ∈ gtbl := tb1 (List.mem_of_getElem? (i := 29) (by decide +kernel)) rfl
theorem tw1_30 : Cond.code yX4_init cX4_init 1 none ∈ gtbl := tb1 (List.mem_of_getElem? (i := 30) (rfl)) rfl
theorem tw1_31 : Cond.methodLink RX4 3 (⟨"java/lang/Object", "<init>", "()V"⟩ : MethodName) ∈ gtbl := tb1 (List.mem_of_getElem? (i := 31) (by decide +kernel)) rfl
theorem tw1_32 : Cond.classLink RX4 18 RX5 ∈ gtbl := tb1 (List.mem_of_getElem? (i := 32) (by decide +kernel)) rfl
theorem tw1_34 : Cond.fieldLink RX4 9 RX4 "quick" "[I" ∈ gtbl := tb1 (List.mem_of_getElem? (i := 34) (by decide +kernel)) rfl
theorem tw1_37 : Cond.fieldLink RX4 15 RX4 "beats" "[I" ∈ gtbl := tb1 (List.mem_of_getElem? (i := 37) (by decide +kernel)) rfl
theorem tw1_40 : Cond.fieldLink RX4 20 RX4 "law" "[LItByRhyme$Script;" ∈ gtbl := tb1 (List.mem_of_getElem? (i := 40) (by decide +kernel)) rfl
theorem tw1_42 : Cond.fieldLink RX4 24 RX4 "terms" "[I" ∈ gtbl := tb1 (List.mem_of_getElem? (i := 42) (by decide +kernel)) rfl
theorem tw1_48 : Cond.fieldLink RX4 27 RX4 "children" "I" ∈ gtbl := tb1 (List.mem_of_getElem? (i := 48) (by decide +kernel)) rfl
theorem tw1_52 : Cond.fieldLink RX4 31 RX4 "in" "I" ∈ gtbl := tb1 (List.mem_of_getElem? (i := 52) (by decide +kernel)) rfl
theorem tw1_56 : Cond.fieldLink RX4 34 RX4 "rhymes" "I" ∈ gtbl := tb1 (List.mem_of_getElem? (i := 56) (by decide +kernel)) rfl
theorem tw1_60 : Cond.fieldLink RX4 37 RX4 "laws" "I" ∈ gtbl := tb1 (List.mem_of_getElem? (i := 60) (by decide +kernel)) rfl
theorem tw1_62 : Cond.fieldLink RX4 40 RX4 "force" "I" ∈ gtbl := tb1 (List.mem_of_getElem? (i := 62) (by decide +kernel)) rfl
theorem tw1_64 : Cond.laysFinal RX4 RX4 "quick" "[I" ∈ gtbl := tb1 (List.mem_of_getElem? (i := 64) (by decide +kernel)) rfl
theorem tw1_66 : Cond.laysFinal RX4 RX4 "beats" "[I" ∈ gtbl := tb1 (List.mem_of_getElem? (i := 66) (by decide +kernel)) rfl
theorem tw1_68 : Cond.laysFinal RX4 RX4 "law" "[LItByRhyme$Script;" ∈ gtbl := tb1 (List.mem_of_getElem? (i := 68) (by decide +kernel)) rfl
theorem tw1_70 : Cond.laysFinal RX4 RX4 "terms" "[I" ∈ gtbl := tb1 (List.mem_of_getElem? (i := 70) (by decide +kernel)) rfl
theorem tw1_72 : Cond.lays RX4 RX4 "children" "I" ∈ gtbl := tb1 (List.mem_of_getElem? (i := 72) (by decide +kernel)) rfl
theorem tw1_74 : Cond.lays RX4 RX4 "in" "I" ∈ gtbl := tb1 (List.mem_of_getElem? (i := 74) (by decide +kernel)) rfl
theorem tw1_76 : Cond.lays RX4 RX4 "rhymes" "I" ∈ gtbl := tb1 (List.mem_of_getElem? (i := 76) (by decide +kernel)) rfl
theorem tw1_78 : Cond.lays RX4 RX4 "laws" "I" ∈ gtbl := tb1 (List.mem_of_getElem? (i := 78) (by decide +kernel)) rfl
theorem tw1_80 : Cond.lays RX4 RX4 "force" "I" ∈ gtbl := tb1 (List.mem_of_getElem? (i := 80) (by decide +kernel)) rfl
theorem tw1_83 : Cond.arrayClass FieldType.int ∈ gtbl := tb1 (List.mem_of_getElem? (i := 83) (by decide +kernel)) rfl
theorem tw1_85 : Cond.classLink RX7 20 RX3 ∈ gtbl := tb1 (List.mem_of_getElem? (i := 85) (by decide +kernel)) rfl
theorem tw1_86 : Cond.instantiable RX3 9 ∈ gtbl := tb1 (List.mem_of_getElem? (i := 86) (by decide +kernel)) rfl
theorem tw1_88 : Cond.instanceMethod yX3_init ∈ gtbl := tb1 (List.mem_of_getElem? (i := 88) (by decide +kernel)) rfl
theorem tw1_89 : Cond.code yX3_init cX3_init 1 none ∈ gtbl := tb1 (List.mem_of_getElem? (i := 89) (rfl)) rfl
theorem tw1_90 : Cond.methodLink RX3 7 (⟨"java/lang/Object", "<init>", "()V"⟩ : MethodName) ∈ gtbl := tb1 (List.mem_of_getElem? (i := 90) (by decide +kernel)) rfl
theorem tw1_91 : Cond.classLink RX3 3 RX5 ∈ gtbl := tb1 (List.mem_of_getElem? (i := 91) (by decide +kernel)) rfl
theorem tw1_92 : Cond.instantiable RX5 8 ∈ gtbl := tb1 (List.mem_of_getElem? (i := 92) (by decide +kernel)) rfl
theorem tw1_94 : Cond.instanceMethod yX5_init ∈ gtbl := tb1 (List.mem_of_getElem? (i := 94) (by decide +kernel)) rfl
theorem tw1_95 : Cond.code yX5_init cX5_init 2 none ∈ gtbl := tb1 (List.mem_of_getElem? (i := 95) (rfl)) rfl
theorem tw1_96 : Cond.methodLink RX5 3 (⟨"java/lang/Object", "<init>", "()V"⟩ : MethodName) ∈ gtbl := tb1 (List.mem_of_getElem? (i := 96) (by decide +kernel)) rfl
theorem tw1_97 : Cond.methodLink RX5 34 yJ9_max_7cf53 ∈ gtbl := tb1 (List.mem_of_getElem? (i := 97) (by decide +kernel)) rfl
theorem tw1_98 : Cond.static yJ9_max_7cf53 ∈ gtbl := tb1 (List.mem_of_getElem? (i := 98) (by decide +kernel)) rfl
theorem tw1_99 : Cond.code yJ9_max_7cf53 cJ9_max_7cf53 2 (some FieldType.int) ∈ gtbl := tb1 (List.mem_of_getElem? (i := 99) (rfl)) rfl
theorem tw1_100 : Cond.fieldLink RX5 11 RX5 "kinds" "[I" ∈ gtbl := tb1 (List.mem_of_getElem? (i := 100) (by decide +kernel)) rfl
theorem tw1_104 : Cond.fieldLink RX5 15 RX5 "times" "[I" ∈ gtbl := tb1 (List.mem_of_getElem? (i := 104) (by decide +kernel)) rfl
theorem tw1_107 : Cond.fieldLink RX5 18 RX5 "sums" "[I" ∈ gtbl := tb1 (List.mem_of_getElem? (i := 107) (by decide +kernel)) rfl
theorem tw1_111 : Cond.fieldLink RX5 21 RX5 "tests" "[I" ∈ gtbl := tb1 (List.mem_of_getElem? (i := 111) (by decide +kernel)) rfl
theorem tw1_115 : Cond.fieldLink RX5 40 RX5 "code" "[I" ∈ gtbl := tb1 (List.mem_of_getElem? (i := 115) (by decide +kernel)) rfl
theorem tw1_116 : Cond.fieldLink RX5 24 RX5 "clauses" "I" ∈ gtbl := tb1 (List.mem_of_getElem? (i := 116) (by decide +kernel)) rfl
theorem tw1_120 : Cond.fieldLink RX5 28 RX5 "size" "I" ∈ gtbl := tb1 (List.mem_of_getElem? (i := 120) (by decide +kernel)) rfl
theorem tw1_122 : Cond.fieldLink RX5 31 RX5 "kindsUsed" "I" ∈ gtbl := tb1 (List.mem_of_getElem? (i := 122) (by decide +kernel)) rfl
theorem tw1_124 : Cond.laysFinal RX5 RX5 "kinds" "[I" ∈ gtbl := tb1 (List.mem_of_getElem? (i := 124) (by decide +kernel)) rfl
theorem tw1_126 : Cond.laysFinal RX5 RX5 "times" "[I" ∈ gtbl := tb1 (List.mem_of_getElem? (i := 126) (by decide +kernel)) rfl
theorem tw1_128 : Cond.laysFinal RX5 RX5 "sums" "[I" ∈ gtbl := tb1 (List.mem_of_getElem? (i := 128) (by decide +kernel)) rfl
theorem tw1_130 : Cond.laysFinal RX5 RX5 "tests" "[I" ∈ gtbl := tb1 (List.mem_of_getElem? (i := 130) (by decide +kernel)) rfl
theorem tw1_132 : Cond.laysFinal RX5 RX5 "code" "[I" ∈ gtbl := tb1 (List.mem_of_getElem? (i := 132) (by decide +kernel)) rfl
theorem tw1_134 : Cond.lays RX5 RX5 "clauses" "I" ∈ gtbl := tb1 (List.mem_of_getElem? (i := 134) (by decide +kernel)) rfl
theorem tw1_136 : Cond.lays RX5 RX5 "size" "I" ∈ gtbl := tb1 (List.mem_of_getElem? (i := 136) (by decide +kernel)) rfl
theorem tw1_138 : Cond.lays RX5 RX5 "kindsUsed" "I" ∈ gtbl := tb1 (List.mem_of_getElem? (i := 138) (by decide +kernel)) rfl
theorem tw1_141 : Cond.arrayClass FieldType.byte ∈ gtbl := tb1 (List.mem_of_getElem? (i := 141) (by decide +kernel)) rfl
theorem tw1_142 : Cond.fieldLink RX3 13 RX3 "tape" "[B" ∈ gtbl := tb1 (List.mem_of_getElem? (i := 142) (by decide +kernel)) rfl
theorem tw1_144 : Cond.fieldLink RX3 20 RX3 "draft" "LItByRhyme$Script;" ∈ gtbl := tb1 (List.mem_of_getElem? (i := 144) (by decide +kernel)) rfl
theorem tw1_146 : Cond.fieldLink RX3 24 RX3 "length" "I" ∈ gtbl := tb1 (List.mem_of_getElem? (i := 146) (by decide +kernel)) rfl
theorem tw1_148 : Cond.fieldLink RX3 28 RX3 "ofLaw" "Z" ∈ gtbl := tb1 (List.mem_of_getElem? (i := 148) (by decide +kernel)) rfl
theorem tw1_149 : Cond.fieldLink RX3 32 RX3 "parts" "I" ∈ gtbl := tb1 (List.mem_of_getElem? (i := 149) (by decide +kernel)) rfl
theorem tw1_150 : Cond.fieldLink RX3 35 RX3 "kind" "I" ∈ gtbl := tb1 (List.mem_of_getElem? (i := 150) (by decide +kernel)) rfl
theorem tw1_151 : Cond.fieldLink RX3 38 RX3 "start" "I" ∈ gtbl := tb1 (List.mem_of_getElem? (i := 151) (by decide +kernel)) rfl
theorem tw1_152 : Cond.fieldLink RX3 41 RX3 "stop" "I" ∈ gtbl := tb1 (List.mem_of_getElem? (i := 152) (by decide +kernel)) rfl
theorem tw1_153 : Cond.fieldLink RX3 44 RX3 "number" "I" ∈ gtbl := tb1 (List.mem_of_getElem? (i := 153) (by decide +kernel)) rfl
theorem tw1_154 : Cond.laysFinal RX3 RX3 "tape" "[B" ∈ gtbl := tb1 (List.mem_of_getElem? (i := 154) (by decide +kernel)) rfl
theorem tw1_156 : Cond.laysFinal RX3 RX3 "draft" "LItByRhyme$Script;" ∈ gtbl := tb1 (List.mem_of_getElem? (i := 156) (by decide +kernel)) rfl
theorem tw1_158 : Cond.lays RX3 RX3 "length" "I" ∈ gtbl := tb1 (List.mem_of_getElem? (i := 158) (by decide +kernel)) rfl
theorem tw1_160 : Cond.lays RX3 RX3 "ofLaw" "Z" ∈ gtbl := tb1 (List.mem_of_getElem? (i := 160) (by decide +kernel)) rfl
theorem tw1_162 : Cond.lays RX3 RX3 "parts" "I" ∈ gtbl := tb1 (List.mem_of_getElem? (i := 162) (by decide +kernel)) rfl
theorem tw1_164 : Cond.lays RX3 RX3 "kind" "I" ∈ gtbl := tb1 (List.mem_of_getElem? (i := 164) (by decide +kernel)) rfl
theorem tw1_166 : Cond.lays RX3 RX3 "start" "I" ∈ gtbl := tb1 (List.mem_of_getElem? (i := 166) (by decide +kernel)) rfl
theorem tw1_168 : Cond.lays RX3 RX3 "stop" "I" ∈ gtbl := tb1 (List.mem_of_getElem? (i := 168) (by decide +kernel)) rfl
theorem tw1_170 : Cond.lays RX3 RX3 "number" "I" ∈ gtbl := tb1 (List.mem_of_getElem? (i := 170) (by decide +kernel)) rfl
theorem tw1_173 : Cond.classLink RX7 27 RX2 ∈ gtbl := tb1 (List.mem_of_getElem? (i := 173) (by decide +kernel)) rfl
theorem tw1_174 : Cond.instantiable RX2 2 ∈ gtbl := tb1 (List.mem_of_getElem? (i := 174) (by decide +kernel)) rfl
theorem tw1_176 : Cond.instanceMethod yX2_init ∈ gtbl := tb1 (List.mem_of_getElem? (i := 176) (by decide +kernel)) rfl
theorem tw1_177 : Cond.code yX2_init cX2_init 1 none ∈ gtbl := tb1 (List.mem_of_getElem? (i := 177) (rfl)) rfl
theorem tw1_178 : Cond.methodLink RX2 3 (⟨"java/lang/Object", "<init>", "()V"⟩ : MethodName) ∈ gtbl := tb1 (List.mem_of_getElem? (i := 178) (by decide +kernel)) rfl
theorem tw1_179 : Cond.fieldLink RX2 11 RX2 "entries" "[I" ∈ gtbl := tb1 (List.mem_of_getElem? (i := 179) (by decide +kernel)) rfl
theorem tw1_180 : Cond.fieldLink RX2 15 RX2 "kept" "I" ∈ gtbl := tb1 (List.mem_of_getElem? (i := 180) (by decide +kernel)) rfl
theorem tw1_182 : Cond.laysFinal RX2 RX2 "entries" "[I" ∈ gtbl := tb1 (List.mem_of_getElem? (i := 182) (by decide +kernel)) rfl
theorem tw1_184 : Cond.lays RX2 RX2 "kept" "I" ∈ gtbl := tb1 (List.mem_of_getElem? (i := 184) (by decide +kernel)) rfl
theorem tw1_187 : Cond.classLink RX7 37 RX6 ∈ gtbl := tb1 (List.mem_of_getElem? (i := 187) (by decide +kernel)) rfl
theorem tw1_188 : Cond.instantiable RX6 11 ∈ gtbl := tb1 (List.mem_of_getElem? (i := 188) (by decide +kernel)) rfl
theorem tw1_190 : Cond.instanceMethod yX6_init ∈ gtbl := tb1 (List.mem_of_getElem? (i := 190) (by decide +kernel)) rfl
theorem tw1_191 : Cond.code yX6_init cX6_init 2 none ∈ gtbl := tb1 (List.mem_of_getElem? (i := 191) (rfl)) rfl
theorem tw1_192 : Cond.methodLink RX6 3 (⟨"java/lang/Object", "<init>", "()V"⟩ : MethodName) ∈ gtbl := tb1 (List.mem_of_getElem? (i := 192) (by decide +kernel)) rfl
theorem tw1_193 : Cond.fieldLink RX6 46 RX6 "ring" "LItByRhyme$Ring;" ∈ gtbl := tb1 (List.mem_of_getElem? (i := 193) (by decide +kernel)) rfl
theorem tw1_194 : Cond.fieldLink RX6 9 RX6 "facts" "[I" ∈ gtbl := tb1 (List.mem_of_getElem? (i := 194) (by decide +kernel)) rfl
theorem tw1_195 : Cond.fieldLink RX6 17 RX6 "stack" "[I" ∈ gtbl := tb1 (List.mem_of_getElem? (i := 195) (by decide +kernel)) rfl
theorem tw1_196 : Cond.fieldLink RX6 20 RX6 "fallen" "[I" ∈ gtbl := tb1 (List.mem_of_getElem? (i := 196) (by decide +kernel)) rfl
theorem tw1_198 : Cond.fieldLink RX6 23 RX6 "asked" "[I" ∈ gtbl := tb1 (List.mem_of_getElem? (i := 198) (by decide +kernel)) rfl
theorem tw1_199 : Cond.fieldLink RX6 26 RX6 "behind" "[I" ∈ gtbl := tb1 (List.mem_of_getElem? (i := 199) (by decide +kernel)) rfl
theorem tw1_200 : Cond.fieldLink RX6 29 RX6 "stamp" "I" ∈ gtbl := tb1 (List.mem_of_getElem? (i := 200) (by decide +kernel)) rfl
theorem tw1_201 : Cond.fieldLink RX6 33 RX6 "law" "LItByRhyme$Script;" ∈ gtbl := tb1 (List.mem_of_getElem? (i := 201) (by decide +kernel)) rfl
theorem tw1_202 : Cond.fieldLink RX6 37 RX6 "round" "I" ∈ gtbl := tb1 (List.mem_of_getElem? (i := 202) (by decide +kernel)) rfl
theorem tw1_203 : Cond.fieldLink RX6 40 RX6 "mood" "I" ∈ gtbl := tb1 (List.mem_of_getElem? (i := 203) (by decide +kernel)) rfl
theorem tw1_204 : Cond.fieldLink RX6 43 RX6 "spoken" "I" ∈ gtbl := tb1 (List.mem_of_getElem? (i := 204) (by decide +kernel)) rfl
theorem tw1_206 : Cond.laysFinal RX6 RX6 "ring" "LItByRhyme$Ring;" ∈ gtbl := tb1 (List.mem_of_getElem? (i := 206) (by decide +kernel)) rfl
theorem tw1_208 : Cond.laysFinal RX6 RX6 "facts" "[I" ∈ gtbl := tb1 (List.mem_of_getElem? (i := 208) (by decide +kernel)) rfl
theorem tw1_210 : Cond.laysFinal RX6 RX6 "stack" "[I" ∈ gtbl := tb1 (List.mem_of_getElem? (i := 210) (by decide +kernel)) rfl
theorem tw1_212 : Cond.laysFinal RX6 RX6 "fallen" "[I" ∈ gtbl := tb1 (List.mem_of_getElem? (i := 212) (by decide +kernel)) rfl
theorem tw1_214 : Cond.laysFinal RX6 RX6 "asked" "[I" ∈ gtbl := tb1 (List.mem_of_getElem? (i := 214) (by decide +kernel)) rfl
theorem tw1_216 : Cond.laysFinal RX6 RX6 "behind" "[I" ∈ gtbl := tb1 (List.mem_of_getElem? (i := 216) (by decide +kernel)) rfl
theorem tw1_218 : Cond.lays RX6 RX6 "stamp" "I" ∈ gtbl := tb1 (List.mem_of_getElem? (i := 218) (by decide +kernel)) rfl
theorem tw1_220 : Cond.lays RX6 RX6 "law" "LItByRhyme$Script;" ∈ gtbl := tb1 (List.mem_of_getElem? (i := 220) (by decide +kernel)) rfl
theorem tw1_222 : Cond.lays RX6 RX6 "round" "I" ∈ gtbl := tb1 (List.mem_of_getElem? (i := 222) (by decide +kernel)) rfl
theorem tw1_224 : Cond.lays RX6 RX6 "mood" "I" ∈ gtbl := tb1 (List.mem_of_getElem? (i := 224) (by decide +kernel)) rfl
theorem tw1_226 : Cond.lays RX6 RX6 "spoken" "I" ∈ gtbl := tb1 (List.mem_of_getElem? (i := 226) (by decide +kernel)) rfl
theorem tw1_229 : Cond.classLink RX7 46 RX1 ∈ gtbl := tb1 (List.mem_of_getElem? (i := 229) (by decide +kernel)) rfl
theorem tw1_230 : Cond.instantiable RX1 12 ∈ gtbl := tb1 (List.mem_of_getElem? (i := 230) (by decide +kernel)) rfl
theorem tw1_232 : Cond.instanceMethod yX1_init ∈ gtbl := tb1 (List.mem_of_getElem? (i := 232) (by decide +kernel)) rfl
theorem tw1_233 : Cond.code yX1_init cX1_init 3 none ∈ gtbl := tb1 (List.mem_of_getElem? (i := 233) (rfl)) rfl
theorem tw1_234 : Cond.methodLink RX1 3 (⟨"java/lang/Object", "<init>", "()V"⟩ : MethodName) ∈ gtbl := tb1 (List.mem_of_getElem? (i := 234) (by decide +kernel)) rfl
theorem tw1_235 : Cond.fieldLink RX1 44 RX1 "ring" "LItByRhyme$Ring;" ∈ gtbl := tb1 (List.mem_of_getElem? (i := 235) (by decide +kernel)) rfl
theorem tw1_236 : Cond.fieldLink RX1 48 RX1 "voice" "LItByRhyme$Voice;" ∈ gtbl := tb1 (List.mem_of_getElem? (i := 236) (by decide +kernel)) rfl
theorem tw1_237 : Cond.fieldLink RX1 9 RX1 "wentOut" "[I" ∈ gtbl := tb1 (List.mem_of_getElem? (i := 237) (by decide +kernel)) rfl
theorem tw1_239 : Cond.fieldLink RX1 15 RX1 "queue" "[I" ∈ gtbl := tb1 (List.mem_of_getElem? (i := 239) (by decide +kernel)) rfl
theorem tw2_0 : Cond.fieldLink RX1 18 RX1 "cameBy" "[I" ∈ gtbl := tb2 (List.mem_of_getElem? (i := 0) (by decide +kernel)) rfl
theorem tw2_1 : Cond.fieldLink RX1 21 RX1 "its" "[I" ∈ gtbl := tb2 (List.mem_of_getElem? (i := 1) (by decide +kernel)) rfl
theorem tw2_2 : Cond.fieldLink RX1 24 RX1 "itsAhead" "[I" ∈ gtbl := tb2 (List.mem_of_getElem? (i := 2) (by decide +kernel)) rfl
theorem tw2_3 : Cond.fieldLink RX1 27 RX1 "parts" "[J" ∈ gtbl := tb2 (List.mem_of_getElem? (i := 3) (by decide +kernel)) rfl
theorem tw2_4 : Cond.fieldLink RX1 31 RX1 "partsBehind" "[J" ∈ gtbl := tb2 (List.mem_of_getElem? (i := 4) (by decide +kernel)) rfl
theorem tw2_5 : Cond.fieldLink RX1 34 RX1 "gone" "I" ∈ gtbl := tb2 (List.mem_of_getElem? (i := 5) (by decide +kernel)) rfl
theorem tw2_7 : Cond.fieldLink RX1 38 RX1 "reached" "I" ∈ gtbl := tb2 (List.mem_of_getElem? (i := 7) (by decide +kernel)) rfl
theorem tw2_8 : Cond.fieldLink RX1 41 RX1 "chosen" "I" ∈ gtbl := tb2 (List.mem_of_getElem? (i := 8) (by decide +kernel)) rfl
theorem tw2_10 : Cond.laysFinal RX1 RX1 "ring" "LItByRhyme$Ring;" ∈ gtbl := tb2 (List.mem_of_getElem? (i := 10) (by decide +kernel)) rfl
theorem tw2_12 : Cond.laysFinal RX1 RX1 "voice" "LItByRhyme$Voice;" ∈ gtbl := tb2 (List.mem_of_getElem? (i := 12) (by decide +kernel)) rfl
theorem tw2_14 : Cond.laysFinal RX1 RX1 "wentOut" "[I" ∈ gtbl := tb2 (List.mem_of_getElem? (i := 14) (by decide +kernel)) rfl
theorem tw2_16 : Cond.laysFinal RX1 RX1 "queue" "[I" ∈ gtbl := tb2 (List.mem_of_getElem? (i := 16) (by decide +kernel)) rfl
theorem tw2_18 : Cond.laysFinal RX1 RX1 "cameBy" "[I" ∈ gtbl := tb2 (List.mem_of_getElem? (i := 18) (by decide +kernel)) rfl
theorem tw2_20 : Cond.laysFinal RX1 RX1 "its" "[I" ∈ gtbl := tb2 (List.mem_of_getElem? (i := 20) (by decide +kernel)) rfl
theorem tw2_22 : Cond.laysFinal RX1 RX1 "itsAhead" "[I" ∈ gtbl := tb2 (List.mem_of_getElem? (i := 22) (by decide +kernel)) rfl
theorem tw2_24 : Cond.laysFinal RX1 RX1 "parts" "[J" ∈ gtbl := tb2 (List.mem_of_getElem? (i := 24) (by decide +kernel)) rfl
theorem tw2_26 : Cond.laysFinal RX1 RX1 "partsBehind" "[J" ∈ gtbl := tb2 (List.mem_of_getElem? (i := 26) (by decide +kernel)) rfl
theorem tw2_28 : Cond.lays RX1 RX1 "gone" "I" ∈ gtbl := tb2 (List.mem_of_getElem? (i := 28) (by decide +kernel)) rfl
theorem tw2_30 : Cond.lays RX1 RX1 "reached" "I" ∈ gtbl := tb2 (List.mem_of_getElem? (i := 30) (by decide +kernel)) rfl
theorem tw2_32 : Cond.lays RX1 RX1 "chosen" "I" ∈ gtbl := tb2 (List.mem_of_getElem? (i := 32) (by decide +kernel)) rfl
theorem tw2_35 : Cond.arrayClass FieldType.long ∈ gtbl := tb2 (List.mem_of_getElem? (i := 35) (by decide +kernel)) rfl
theorem tw2_36 : Cond.classLink RX7 55 RX0 ∈ gtbl := tb2 (List.mem_of_getElem? (i := 36) (by decide +kernel)) rfl
theorem tw2_37 : Cond.instantiable RX0 6 ∈ gtbl := tb2 (List.mem_of_getElem? (i := 37) (by decide +kernel)) rfl
theorem tw2_39 : Cond.instanceMethod yX0_init ∈ gtbl := tb2 (List.mem_of_getElem? (i := 39) (by decide +kernel)) rfl
theorem tw2_40 : Cond.code yX0_init cX0_init 3 none ∈ gtbl := tb2 (List.mem_of_getElem? (i := 40) (rfl)) rfl
theorem tw2_41 : Cond.methodLink RX0 3 (⟨"java/lang/Object", "<init>", "()V"⟩ : MethodName) ∈ gtbl := tb2 (List.mem_of_getElem? (i := 41) (by decide +kernel)) rfl
theorem tw2_42 : Cond.fieldLink RX0 26 RX0 "ring" "LItByRhyme$Ring;" ∈ gtbl := tb2 (List.mem_of_getElem? (i := 42) (by decide +kernel)) rfl
theorem tw2_43 : Cond.fieldLink RX0 30 RX0 "voice" "LItByRhyme$Voice;" ∈ gtbl := tb2 (List.mem_of_getElem? (i := 43) (by decide +kernel)) rfl
theorem tw2_44 : Cond.fieldLink RX0 9 RX0 "timesAlone" "[I" ∈ gtbl := tb2 (List.mem_of_getElem? (i := 44) (by decide +kernel)) rfl
theorem tw2_46 : Cond.fieldLink RX0 15 RX0 "children" "I" ∈ gtbl := tb2 (List.mem_of_getElem? (i := 46) (by decide +kernel)) rfl
theorem tw2_48 : Cond.fieldLink RX0 19 RX0 "in" "I" ∈ gtbl := tb2 (List.mem_of_getElem? (i := 48) (by decide +kernel)) rfl
theorem tw2_50 : Cond.fieldLink RX0 22 RX0 "seed" "J" ∈ gtbl := tb2 (List.mem_of_getElem? (i := 50) (by decide +kernel)) rfl
theorem tw2_51 : Cond.laysFinal RX0 RX0 "ring" "LItByRhyme$Ring;" ∈ gtbl := tb2 (List.mem_of_getElem? (i := 51) (by decide +kernel)) rfl
theorem tw2_53 : Cond.laysFinal RX0 RX0 "voice" "LItByRhyme$Voice;" ∈ gtbl := tb2 (List.mem_of_getElem? (i := 53) (by decide +kernel)) rfl
theorem tw2_55 : Cond.laysFinal RX0 RX0 "timesAlone" "[I" ∈ gtbl := tb2 (List.mem_of_getElem? (i := 55) (by decide +kernel)) rfl
theorem tw2_57 : Cond.lays RX0 RX0 "children" "I" ∈ gtbl := tb2 (List.mem_of_getElem? (i := 57) (by decide +kernel)) rfl
theorem tw2_59 : Cond.lays RX0 RX0 "in" "I" ∈ gtbl := tb2 (List.mem_of_getElem? (i := 59) (by decide +kernel)) rfl
theorem tw2_61 : Cond.lays RX0 RX0 "seed" "J" ∈ gtbl := tb2 (List.mem_of_getElem? (i := 61) (by decide +kernel)) rfl
theorem tw2_64 : Cond.fieldLink RX7 12 RX7 "ring" "LItByRhyme$Ring;" ∈ gtbl := tb2 (List.mem_of_getElem? (i := 64) (by decide +kernel)) rfl
theorem tw2_65 : Cond.fieldLink RX7 16 RX7 "images" "[LItByRhyme$Ring;" ∈ gtbl := tb2 (List.mem_of_getElem? (i := 65) (by decide +kernel)) rfl
theorem tw2_66 : Cond.fieldLink RX7 23 RX7 "reader" "LItByRhyme$Reader;" ∈ gtbl := tb2 (List.mem_of_getElem? (i := 66) (by decide +kernel)) rfl
theorem tw2_67 : Cond.fieldLink RX7 30 RX7 "past" "LItByRhyme$Past;" ∈ gtbl := tb2 (List.mem_of_getElem? (i := 67) (by decide +kernel)) rfl
theorem tw2_68 : Cond.fieldLink RX7 34 RX7 "pastAhead" "LItByRhyme$Past;" ∈ gtbl := tb2 (List.mem_of_getElem? (i := 68) (by decide +kernel)) rfl
theorem tw2_69 : Cond.fieldLink RX7 42 RX7 "voice" "LItByRhyme$Voice;" ∈ gtbl := tb2 (List.mem_of_getElem? (i := 69) (by decide +kernel)) rfl
theorem tw2_70 : Cond.fieldLink RX7 51 RX7 "paper" "LItByRhyme$Paper;" ∈ gtbl := tb2 (List.mem_of_getElem? (i := 70) (by decide +kernel)) rfl
theorem tw2_71 : Cond.fieldLink RX7 58 RX7 "draws" "LItByRhyme$Draws;" ∈ gtbl := tb2 (List.mem_of_getElem? (i := 71) (by decide +kernel)) rfl
theorem tw2_72 : Cond.fieldLink RX7 62 RX7 "refusals" "[I" ∈ gtbl := tb2 (List.mem_of_getElem? (i := 72) (by decide +kernel)) rfl
theorem tw2_73 : Cond.fieldLink RX7 66 RX7 "facts" "[I" ∈ gtbl := tb2 (List.mem_of_getElem? (i := 73) (by decide +kernel)) rfl
theorem tw2_74 : Cond.fieldLink RX7 71 RX7 "stack" "[I" ∈ gtbl := tb2 (List.mem_of_getElem? (i := 74) (by decide +kernel)) rfl
theorem tw2_75 : Cond.fieldLink RX7 74 RX7 "latestStatus" "I" ∈ gtbl := tb2 (List.mem_of_getElem? (i := 75) (by decide +kernel)) rfl
theorem tw2_76 : Cond.fieldLink RX7 78 RX7 "latestFault" "I" ∈ gtbl := tb2 (List.mem_of_getElem? (i := 76) (by decide +kernel)) rfl
theorem tw2_77 : Cond.fieldLink RX7 81 RX7 "latestStop" "I" ∈ gtbl := tb2 (List.mem_of_getElem? (i := 77) (by decide +kernel)) rfl
theorem tw2_78 : Cond.fieldLink RX7 84 RX7 "latestLisps" "I" ∈ gtbl := tb2 (List.mem_of_getElem? (i := 78) (by decide +kernel)) rfl
theorem tw2_79 : Cond.laysFinal RX7 RX7 "ring" "LItByRhyme$Ring;" ∈ gtbl := tb2 (List.mem_of_getElem? (i := 79) (by decide +kernel)) rfl
theorem tw2_81 : Cond.laysFinal RX7 RX7 "images" "[LItByRhyme$Ring;" ∈ gtbl := tb2 (List.mem_of_getElem? (i := 81) (by decide +kernel)) rfl
theorem tw2_83 : Cond.laysFinal RX7 RX7 "reader" "LItByRhyme$Reader;" ∈ gtbl := tb2 (List.mem_of_getElem? (i := 83) (by decide +kernel)) rfl
theorem tw2_85 : Cond.laysFinal RX7 RX7 "past" "LItByRhyme$Past;" ∈ gtbl := tb2 (List.mem_of_getElem? (i := 85) (by decide +kernel)) rfl
theorem tw2_87 : Cond.laysFinal RX7 RX7 "pastAhead" "LItByRhyme$Past;" ∈ gtbl := tb2 (List.mem_of_getElem? (i := 87) (by decide +kernel)) rfl
theorem tw2_89 : Cond.laysFinal RX7 RX7 "voice" "LItByRhyme$Voice;" ∈ gtbl := tb2 (List.mem_of_getElem? (i := 89) (by decide +kernel)) rfl
theorem tw2_91 : Cond.laysFinal RX7 RX7 "paper" "LItByRhyme$Paper;" ∈ gtbl := tb2 (List.mem_of_getElem? (i := 91) (by decide +kernel)) rfl
theorem tw2_93 : Cond.laysFinal RX7 RX7 "draws" "LItByRhyme$Draws;" ∈ gtbl := tb2 (List.mem_of_getElem? (i := 93) (by decide +kernel)) rfl
theorem tw2_95 : Cond.laysFinal RX7 RX7 "refusals" "[I" ∈ gtbl := tb2 (List.mem_of_getElem? (i := 95) (by decide +kernel)) rfl
theorem tw2_97 : Cond.laysFinal RX7 RX7 "facts" "[I" ∈ gtbl := tb2 (List.mem_of_getElem? (i := 97) (by decide +kernel)) rfl
theorem tw2_99 : Cond.laysFinal RX7 RX7 "stack" "[I" ∈ gtbl := tb2 (List.mem_of_getElem? (i := 99) (by decide +kernel)) rfl
theorem tw2_101 : Cond.lays RX7 RX7 "latestStatus" "I" ∈ gtbl := tb2 (List.mem_of_getElem? (i := 101) (by decide +kernel)) rfl
theorem tw2_103 : Cond.lays RX7 RX7 "latestFault" "I" ∈ gtbl := tb2 (List.mem_of_getElem? (i := 103) (by decide +kernel)) rfl
theorem tw2_105 : Cond.lays RX7 RX7 "latestStop" "I" ∈ gtbl := tb2 (List.mem_of_getElem? (i := 105) (by decide +kernel)) rfl
theorem tw2_107 : Cond.lays RX7 RX7 "latestLisps" "I" ∈ gtbl := tb2 (List.mem_of_getElem? (i := 107) (by decide +kernel)) rfl
theorem tw2_110 : Cond.methodLink RL 13 yX7_child ∈ gtbl := tb2 (List.mem_of_getElem? (i := 110) (by decide +kernel)) rfl
theorem tw2_111 : Cond.instanceMethod yX7_child ∈ gtbl := tb2 (List.mem_of_getElem? (i := 111) (by decide +kernel)) rfl
theorem tw2_112 : Cond.selects RX7 yX7_child yX7_child ∈ gtbl := tb2 (List.mem_of_getElem? (i := 112) (by decide +kernel)) rfl
theorem tw2_113 : Cond.code yX7_child cX7_child 2 (some FieldType.int) ∈ gtbl := tb2 (List.mem_of_getElem? (i := 113) (rfl)) rfl
theorem tw2_114 : Cond.methodLink RX7 87 yX7_refused ∈ gtbl := tb2 (List.mem_of_getElem? (i := 114) (by decide +kernel)) rfl
theorem tw2_116 : Cond.instanceMethod yX7_refused ∈ gtbl := tb2 (List.mem_of_getElem? (i := 116) (by decide +kernel)) rfl
theorem tw2_117 : Cond.code yX7_refused cX7_refused 3 (some FieldType.int) ∈ gtbl := tb2 (List.mem_of_getElem? (i := 117) (rfl)) rfl
theorem tw2_120 : Cond.instanceMethod yX4_welcome ∈ gtbl := tb2 (List.mem_of_getElem? (i := 120) (by decide +kernel)) rfl
theorem tw2_121 : Cond.code yX4_welcome cX4_welcome 2 none ∈ gtbl := tb2 (List.mem_of_getElem? (i := 121) (rfl)) rfl
theorem tw2_122 : Cond.methodLink RX7 98 yX7_ringChanged ∈ gtbl := tb2 (List.mem_of_getElem? (i := 122) (by decide +kernel)) rfl
theorem tw2_124 : Cond.instanceMethod yX7_ringChanged ∈ gtbl := tb2 (List.mem_of_getElem? (i := 124) (by decide +kernel)) rfl
theorem tw2_125 : Cond.code yX7_ringChanged cX7_ringChanged 1 none ∈ gtbl := tb2 (List.mem_of_getElem? (i := 125) (rfl)) rfl
theorem tw2_128 : Cond.instanceMethod yX2_forget ∈ gtbl := tb2 (List.mem_of_getElem? (i := 128) (by decide +kernel)) rfl
theorem tw2_129 : Cond.code yX2_forget cX2_forget 1 none ∈ gtbl := tb2 (List.mem_of_getElem? (i := 129) (rfl)) rfl
theorem tw2_132 : Cond.instanceMethod yX6_forget ∈ gtbl := tb2 (List.mem_of_getElem? (i := 132) (by decide +kernel)) rfl
theorem tw2_133 : Cond.code yX6_forget cX6_forget 1 none ∈ gtbl := tb2 (List.mem_of_getElem? (i := 133) (rfl)) rfl
theorem tw2_134 : Cond.constant RX6 50 (1000000 : Int32) ∈ gtbl := tb2 (List.mem_of_getElem? (i := 134) (by decide +kernel)) rfl
theorem tw2_135 : Cond.methodLink RX6 51 yJ7_fill_53178 ∈ gtbl := tb2 (List.mem_of_getElem? (i := 135) (by decide +kernel)) rfl
theorem tw2_136 : Cond.static yJ7_fill_53178 ∈ gtbl := tb2 (List.mem_of_getElem? (i := 136) (by decide +kernel)) rfl
theorem tw2_137 : Cond.code yJ7_fill_53178 cJ7_fill_53178 4 none ∈ gtbl := tb2 (List.mem_of_getElem? (i := 137) (rfl)) rfl
theorem tw2_138 : Cond.methodLink RX7 101 yX7_settled ∈ gtbl := tb2 (List.mem_of_getElem? (i := 138) (by decide +kernel)) rfl
theorem tw2_140 : Cond.instanceMethod yX7_settled ∈ gtbl := tb2 (List.mem_of_getElem? (i := 140) (by decide +kernel)) rfl
theorem tw2_141 : Cond.code yX7_settled cX7_settled 2 (some FieldType.int) ∈ gtbl := tb2 (List.mem_of_getElem? (i := 141) (rfl)) rfl
theorem tw2_142 : Cond.methodLink RL 18 yX7_of ∈ gtbl := tb2 (List.mem_of_getElem? (i := 142) (by decide +kernel)) rfl
theorem tw2_143 : Cond.instanceMethod yX7_of ∈ gtbl := tb2 (List.mem_of_getElem? (i := 143) (by decide +kernel)) rfl
theorem tw2_144 : Cond.selects RX7 yX7_of yX7_of ∈ gtbl := tb2 (List.mem_of_getElem? (i := 144) (by decide +kernel)) rfl
theorem tw2_145 : Cond.code yX7_of cX7_of 3 (some FieldType.int) ∈ gtbl := tb2 (List.mem_of_getElem? (i := 145) (rfl)) rfl
theorem tw2_148 : Cond.instanceMethod yX4_lacksChild ∈ gtbl := tb2 (List.mem_of_getElem? (i := 148) (by decide +kernel)) rfl
theorem tw2_149 : Cond.code yX4_lacksChild cX4_lacksChild 2 (some FieldType.boolean) ∈ gtbl := tb2 (List.mem_of_getElem? (i := 149) (rfl)) rfl
theorem tw2_150 : Cond.methodLink RL 23 yX7_rhyme ∈ gtbl := tb2 (List.mem_of_getElem? (i := 150) (by decide +kernel)) rfl
theorem tw2_151 : Cond.instanceMethod yX7_rhyme ∈ gtbl := tb2 (List.mem_of_getElem? (i := 151) (by decide +kernel)) rfl
theorem tw2_152 : Cond.selects RX7 yX7_rhyme yX7_rhyme ∈ gtbl := tb2 (List.mem_of_getElem? (i := 152) (by decide +kernel)) rfl
theorem tw2_153 : Cond.code yX7_rhyme cX7_rhyme 2 (some FieldType.int) ∈ gtbl := tb2 (List.mem_of_getElem? (i := 153) (rfl)) rfl
theorem tw2_154 : Cond.methodLink RL 27 yX7_beats ∈ gtbl := tb2 (List.mem_of_getElem? (i := 154) (by decide +kernel)) rfl
theorem tw2_155 : Cond.instanceMethod yX7_beats ∈ gtbl := tb2 (List.mem_of_getElem? (i := 155) (by decide +kernel)) rfl
theorem tw2_156 : Cond.selects RX7 yX7_beats yX7_beats ∈ gtbl := tb2 (List.mem_of_getElem? (i := 156) (by decide +kernel)) rfl
theorem tw2_157 : Cond.code yX7_beats cX7_beats 2 (some FieldType.int) ∈ gtbl := tb2 (List.mem_of_getElem? (i := 157) (rfl)) rfl
theorem tw2_160 : Cond.instanceMethod yX4_lacksRhyme ∈ gtbl := tb2 (List.mem_of_getElem? (i := 160) (by decide +kernel)) rfl
theorem tw2_161 : Cond.code yX4_lacksRhyme cX4_lacksRhyme 2 (some FieldType.boolean) ∈ gtbl := tb2 (List.mem_of_getElem? (i := 161) (rfl)) rfl
theorem tw2_162 : Cond.methodLink RL 31 yX7_asks ∈ gtbl := tb2 (List.mem_of_getElem? (i := 162) (by decide +kernel)) rfl
theorem tw2_163 : Cond.instanceMethod yX7_asks ∈ gtbl := tb2 (List.mem_of_getElem? (i := 163) (by decide +kernel)) rfl
theorem tw2_164 : Cond.selects RX7 yX7_asks yX7_asks ∈ gtbl := tb2 (List.mem_of_getElem? (i := 164) (by decide +kernel)) rfl
theorem tw2_165 : Cond.code yX7_asks cX7_asks 6 (some FieldType.int) ∈ gtbl := tb2 (List.mem_of_getElem? (i := 165) (rfl)) rfl
theorem tw2_166 : Cond.methodLink RX7 123 yJ6_bitCount_0f7a4 ∈ gtbl := tb2 (List.mem_of_getElem? (i := 166) (by decide +kernel)) rfl
theorem tw2_167 : Cond.static yJ6_bitCount_0f7a4 ∈ gtbl := tb2 (List.mem_of_getElem? (i := 167) (by decide +kernel)) rfl
theorem tw2_168 : Cond.code yJ6_bitCount_0f7a4 cJ6_bitCount_0f7a4 1 (some FieldType.int) ∈ gtbl := tb2 (List.mem_of_getElem? (i := 168) (rfl)) rfl
theorem tw2_169 : Cond.constant RJ6 265 (1431655765 : Int32) ∈ gtbl := tb2 (List.mem_of_getElem? (i := 169) (by decide +kernel)) rfl
theorem tw2_170 : Cond.constant RJ6 266 (858993459 : Int32) ∈ gtbl := tb2 (List.mem_of_getElem? (i := 170) (by decide +kernel)) rfl
theorem tw2_171 : Cond.constant RJ6 267 (252645135 : Int32) ∈ gtbl := tb2 (List.mem_of_getElem? (i := 171) (by decide +kernel)) rfl
theorem tw2_172 : Cond.methodLink RX7 128 yX7_tuneVoice ∈ gtbl := tb2 (List.mem_of_getElem? (i := 172) (by decide +kernel)) rfl
theorem tw2_174 : Cond.instanceMethod yX7_tuneVoice ∈ gtbl := tb2 (List.mem_of_getElem? (i := 174) (by decide +kernel)) rfl
theorem tw2_175 : Cond.code yX7_tuneVoice cX7_tuneVoice 1 none ∈ gtbl := tb2 (List.mem_of_getElem? (i := 175) (rfl)) rfl
theorem tw2_178 : Cond.instanceMethod yX4_lawInForce ∈ gtbl := tb2 (List.mem_of_getElem? (i := 178) (by decide +kernel)) rfl
theorem tw2_179 : Cond.code yX4_lawInForce cX4_lawInForce 1 (some (FieldType.object RX5)) ∈ gtbl := tb2 (List.mem_of_getElem? (i := 179) (rfl)) rfl
theorem tw2_182 : Cond.instanceMethod yX6_tune ∈ gtbl := tb2 (List.mem_of_getElem? (i := 182) (by decide +kernel)) rfl
theorem tw2_183 : Cond.code yX6_tune cX6_tune 3 none ∈ gtbl := tb2 (List.mem_of_getElem? (i := 183) (rfl)) rfl
theorem tw2_184 : Cond.methodLink RX6 62 yX6_forget ∈ gtbl := tb2 (List.mem_of_getElem? (i := 184) (by decide +kernel)) rfl
theorem tw2_187 : Cond.instanceMethod yX6_lengthOf ∈ gtbl := tb2 (List.mem_of_getElem? (i := 187) (by decide +kernel)) rfl
theorem tw2_188 : Cond.code yX6_lengthOf cX6_lengthOf 8 (some FieldType.int) ∈ gtbl := tb2 (List.mem_of_getElem? (i := 188) (rfl)) rfl
theorem tw2_191 : Cond.instanceMethod yX5_has ∈ gtbl := tb2 (List.mem_of_getElem? (i := 191) (by decide +kernel)) rfl
theorem tw2_192 : Cond.code yX5_has cX5_has 2 (some FieldType.boolean) ∈ gtbl := tb2 (List.mem_of_getElem? (i := 192) (rfl)) rfl
theorem tw2_193 : Cond.methodLink RX6 108 yX6_gatherFacts ∈ gtbl := tb2 (List.mem_of_getElem? (i := 193) (by decide +kernel)) rfl
theorem tw2_195 : Cond.instanceMethod yX6_gatherFacts ∈ gtbl := tb2 (List.mem_of_getElem? (i := 195) (by decide +kernel)) rfl
theorem tw2_196 : Cond.code yX6_gatherFacts cX6_gatherFacts 5 none ∈ gtbl := tb2 (List.mem_of_getElem? (i := 196) (rfl)) rfl
theorem tw2_199 : Cond.instanceMethod yX5_worth ∈ gtbl := tb2 (List.mem_of_getElem? (i := 199) (by decide +kernel)) rfl
theorem tw2_200 : Cond.code yX5_worth cX5_worth 10 (some FieldType.int) ∈ gtbl := tb2 (List.mem_of_getElem? (i := 200) (rfl)) rfl
theorem tw2_201 : Cond.constant RX5 58 (-2000000000 : Int32) ∈ gtbl := tb2 (List.mem_of_getElem? (i := 201) (by decide +kernel)) rfl
theorem tw2_202 : Cond.methodLink RX5 59 yX5_joined ∈ gtbl := tb2 (List.mem_of_getElem? (i := 202) (by decide +kernel)) rfl
theorem tw2_203 : Cond.static yX5_joined ∈ gtbl := tb2 (List.mem_of_getElem? (i := 203) (by decide +kernel)) rfl
theorem tw2_204 : Cond.code yX5_joined cX5_joined 7 (some FieldType.int) ∈ gtbl := tb2 (List.mem_of_getElem? (i := 204) (rfl)) rfl
theorem tw2_205 : Cond.constantLong RX5 63 (1000000000 : Int64) ∈ gtbl := tb2 (List.mem_of_getElem? (i := 205) (by decide +kernel)) rfl
theorem tw2_206 : Cond.constantLong RX5 65 (-1000000000 : Int64) ∈ gtbl := tb2 (List.mem_of_getElem? (i := 206) (by decide +kernel)) rfl
theorem tw2_207 : Cond.constant RX6 128 (-2000000000 : Int32) ∈ gtbl := tb2 (List.mem_of_getElem? (i := 207) (by decide +kernel)) rfl
theorem tw2_208 : Cond.methodLink RX6 129 yJ9_min_7cf53 ∈ gtbl := tb2 (List.mem_of_getElem? (i := 208) (by decide +kernel)) rfl
theorem tw2_209 : Cond.static yJ9_min_7cf53 ∈ gtbl := tb2 (List.mem_of_getElem? (i := 209) (by decide +kernel)) rfl
theorem tw2_210 : Cond.code yJ9_min_7cf53 cJ9_min_7cf53 2 (some FieldType.int) ∈ gtbl := tb2 (List.mem_of_getElem? (i := 210) (rfl)) rfl
theorem tw2_211 : Cond.methodLink RX6 79 yJ9_max_7cf53 ∈ gtbl := tb2 (List.mem_of_getElem? (i := 211) (by decide +kernel)) rfl
theorem tw2_214 : Cond.instanceMethod yX6_isSo ∈ gtbl := tb2 (List.mem_of_getElem? (i := 214) (by decide +kernel)) rfl
theorem tw2_215 : Cond.code yX6_isSo cX6_isSo 11 (some FieldType.boolean) ∈ gtbl := tb2 (List.mem_of_getElem? (i := 215) (rfl)) rfl
theorem tw2_216 : Cond.methodLink RL 36 yX7_terms ∈ gtbl := tb2 (List.mem_of_getElem? (i := 216) (by decide +kernel)) rfl
theorem tw2_217 : Cond.instanceMethod yX7_terms ∈ gtbl := tb2 (List.mem_of_getElem? (i := 217) (by decide +kernel)) rfl
theorem tw2_218 : Cond.selects RX7 yX7_terms yX7_terms ∈ gtbl := tb2 (List.mem_of_getElem? (i := 218) (by decide +kernel)) rfl
theorem tw2_219 : Cond.code yX7_terms cX7_terms 4 (some FieldType.int) ∈ gtbl := tb2 (List.mem_of_getElem? (i := 219) (rfl)) rfl
theorem tw2_220 : Cond.fieldLink RX7 139 RX7 "HIGHEST_TERMS" "[I" ∈ gtbl := tb2 (List.mem_of_getElem? (i := 220) (by decide +kernel)) rfl
theorem tw2_222 : Cond.methodLink RL 40 yX7_feed ∈ gtbl := tb2 (List.mem_of_getElem? (i := 222) (by decide +kernel)) rfl
theorem tw2_223 : Cond.instanceMethod yX7_feed ∈ gtbl := tb2 (List.mem_of_getElem? (i := 223) (by decide +kernel)) rfl
theorem tw2_224 : Cond.selects RX7 yX7_feed yX7_feed ∈ gtbl := tb2 (List.mem_of_getElem? (i := 224) (by decide +kernel)) rfl
theorem tw2_225 : Cond.code yX7_feed cX7_feed 6 (some FieldType.int) ∈ gtbl := tb2 (List.mem_of_getElem? (i := 225) (rfl)) rfl
theorem tw2_228 : Cond.instanceMethod yX3_hasRoomFor ∈ gtbl := tb2 (List.mem_of_getElem? (i := 228) (by decide +kernel)) rfl
theorem tw2_229 : Cond.code yX3_hasRoomFor cX3_hasRoomFor 2 (some FieldType.boolean) ∈ gtbl := tb2 (List.mem_of_getElem? (i := 229) (rfl)) rfl
theorem tw2_232 : Cond.instanceMethod yX3_append ∈ gtbl := tb2 (List.mem_of_getElem? (i := 232) (by decide +kernel)) rfl
theorem tw2_233 : Cond.code yX3_append cX3_append 3 none ∈ gtbl := tb2 (List.mem_of_getElem? (i := 233) (rfl)) rfl
theorem tw2_234 : Cond.methodLink RL 45 yX7_end ∈ gtbl := tb2 (List.mem_of_getElem? (i := 234) (by decide +kernel)) rfl
theorem tw2_235 : Cond.instanceMethod yX7_end ∈ gtbl := tb2 (List.mem_of_getElem? (i := 235) (by decide +kernel)) rfl
theorem tw2_236 : Cond.selects RX7 yX7_end yX7_end ∈ gtbl := tb2 (List.mem_of_getElem? (i := 236) (by decide +kernel)) rfl
theorem tw2_237 : Cond.code yX7_end cX7_end 2 (some FieldType.int) ∈ gtbl := tb2 (List.mem_of_getElem? (i := 237) (rfl)) rfl
theorem tw2_238 : Cond.methodLink RL 49 yX7_row ∈ gtbl := tb2 (List.mem_of_getElem? (i := 238) (by decide +kernel)) rfl
theorem tw2_239 : Cond.instanceMethod yX7_row ∈ gtbl := tb2 (List.mem_of_getElem? (i := 239) (by decide +kernel)) rfl
theorem tw3_0 : Cond.selects RX7 yX7_row yX7_row ∈ gtbl := tb3 (List.mem_of_getElem? (i := 0) (by decide +kernel)) rfl
theorem tw3_1 : Cond.code yX7_row cX7_row 5 (some FieldType.int) ∈ gtbl := tb3 (List.mem_of_getElem? (i := 1) (rfl)) rfl
theorem tw3_2 : Cond.methodLink RL 54 yX7_lisps ∈ gtbl := tb3 (List.mem_of_getElem? (i := 2) (by decide +kernel)) rfl
theorem tw3_3 : Cond.instanceMethod yX7_lisps ∈ gtbl := tb3 (List.mem_of_getElem? (i := 3) (by decide +kernel)) rfl
theorem tw3_4 : Cond.selects RX7 yX7_lisps yX7_lisps ∈ gtbl := tb3 (List.mem_of_getElem? (i := 4) (by decide +kernel)) rfl
theorem tw3_5 : Cond.code yX7_lisps cX7_lisps 1 (some FieldType.int) ∈ gtbl := tb3 (List.mem_of_getElem? (i := 5) (rfl)) rfl
theorem tw3_6 : Cond.methodLink RL 58 yX7_law ∈ gtbl := tb3 (List.mem_of_getElem? (i := 6) (by decide +kernel)) rfl
theorem tw3_7 : Cond.instanceMethod yX7_law ∈ gtbl := tb3 (List.mem_of_getElem? (i := 7) (by decide +kernel)) rfl
theorem tw3_8 : Cond.selects RX7 yX7_law yX7_law ∈ gtbl := tb3 (List.mem_of_getElem? (i := 8) (by decide +kernel)) rfl
theorem tw3_9 : Cond.code yX7_law cX7_law 1 (some FieldType.int) ∈ gtbl := tb3 (List.mem_of_getElem? (i := 9) (rfl)) rfl
theorem tw3_12 : Cond.instanceMethod yX3_readAll ∈ gtbl := tb3 (List.mem_of_getElem? (i := 12) (by decide +kernel)) rfl
theorem tw3_13 : Cond.code yX3_readAll cX3_readAll 4 (some FieldType.int) ∈ gtbl := tb3 (List.mem_of_getElem? (i := 13) (rfl)) rfl
theorem tw3_16 : Cond.instanceMethod yX5_clear ∈ gtbl := tb3 (List.mem_of_getElem? (i := 16) (by decide +kernel)) rfl
theorem tw3_17 : Cond.code yX5_clear cX5_clear 1 none ∈ gtbl := tb3 (List.mem_of_getElem? (i := 17) (rfl)) rfl
theorem tw3_18 : Cond.methodLink RX3 50 yX3_step ∈ gtbl := tb3 (List.mem_of_getElem? (i := 18) (by decide +kernel)) rfl
theorem tw3_20 : Cond.instanceMethod yX3_step ∈ gtbl := tb3 (List.mem_of_getElem? (i := 20) (by decide +kernel)) rfl
theorem tw3_21 : Cond.code yX3_step cX3_step 2 none ∈ gtbl := tb3 (List.mem_of_getElem? (i := 21) (rfl)) rfl
theorem tw3_22 : Cond.methodLink RX3 53 yX3_clause ∈ gtbl := tb3 (List.mem_of_getElem? (i := 22) (by decide +kernel)) rfl
theorem tw3_24 : Cond.instanceMethod yX3_clause ∈ gtbl := tb3 (List.mem_of_getElem? (i := 24) (by decide +kernel)) rfl
theorem tw3_25 : Cond.code yX3_clause cX3_clause 3 (some FieldType.boolean) ∈ gtbl := tb3 (List.mem_of_getElem? (i := 25) (rfl)) rfl
theorem tw3_28 : Cond.methodLink RX3 64 yX3_which ∈ gtbl := tb3 (List.mem_of_getElem? (i := 28) (by decide +kernel)) rfl
theorem tw3_30 : Cond.instanceMethod yX3_which ∈ gtbl := tb3 (List.mem_of_getElem? (i := 30) (by decide +kernel)) rfl
theorem tw3_31 : Cond.code yX3_which cX3_which 6 (some FieldType.int) ∈ gtbl := tb3 (List.mem_of_getElem? (i := 31) (rfl)) rfl
theorem tw3_32 : Cond.methodLink RX3 125 yJ0_length_8abf5 ∈ gtbl := tb3 (List.mem_of_getElem? (i := 32) (by decide +kernel)) rfl
theorem tw3_33 : Cond.instanceMethod yJ0_length_8abf5 ∈ gtbl := tb3 (List.mem_of_getElem? (i := 33) (by decide +kernel)) rfl
theorem tw3_34 : Cond.selects RJ0 yJ0_length_8abf5 yJ0_length_8abf5 ∈ gtbl := tb3 (List.mem_of_getElem? (i := 34) (by decide +kernel)) rfl
theorem tw3_35 : Cond.code yJ0_length_8abf5 cJ0_length_8abf5 1 (some FieldType.int) ∈ gtbl := tb3 (List.mem_of_getElem? (i := 35) (rfl)) rfl
theorem tw3_36 : Cond.methodLink RJ0 335 yJ0_coder_7d493 ∈ gtbl := tb3 (List.mem_of_getElem? (i := 36) (by decide +kernel)) rfl
theorem tw3_37 : Cond.instanceMethod yJ0_coder_7d493 ∈ gtbl := tb3 (List.mem_of_getElem? (i := 37) (by decide +kernel)) rfl
theorem tw3_38 : Cond.selects RJ0 yJ0_coder_7d493 yJ0_coder_7d493 ∈ gtbl := tb3 (List.mem_of_getElem? (i := 38) (by decide +kernel)) rfl
theorem tw3_39 : Cond.code yJ0_coder_7d493 cJ0_coder_7d493 1 (some FieldType.byte) ∈ gtbl := tb3 (List.mem_of_getElem? (i := 39) (rfl)) rfl
theorem tw3_40 : Cond.fieldLink RJ0 38 RJ0 "COMPACT_STRINGS" "Z" ∈ gtbl := tb3 (List.mem_of_getElem? (i := 40) (by decide +kernel)) rfl
theorem tw3_42 : Cond.methodLink RX3 130 yJ0_charAt_5068e ∈ gtbl := tb3 (List.mem_of_getElem? (i := 42) (by decide +kernel)) rfl
theorem tw3_43 : Cond.instanceMethod yJ0_charAt_5068e ∈ gtbl := tb3 (List.mem_of_getElem? (i := 43) (by decide +kernel)) rfl
theorem tw3_44 : Cond.selects RJ0 yJ0_charAt_5068e yJ0_charAt_5068e ∈ gtbl := tb3 (List.mem_of_getElem? (i := 44) (by decide +kernel)) rfl
theorem tw3_45 : Cond.code yJ0_charAt_5068e cJ0_charAt_5068e 2 (some FieldType.char) ∈ gtbl := tb3 (List.mem_of_getElem? (i := 45) (rfl)) rfl
theorem tw3_46 : Cond.methodLink RJ0 492 yJ0_isLatin1_aae02 ∈ gtbl := tb3 (List.mem_of_getElem? (i := 46) (by decide +kernel)) rfl
theorem tw3_47 : Cond.instanceMethod yJ0_isLatin1_aae02 ∈ gtbl := tb3 (List.mem_of_getElem? (i := 47) (by decide +kernel)) rfl
theorem tw3_48 : Cond.selects RJ0 yJ0_isLatin1_aae02 yJ0_isLatin1_aae02 ∈ gtbl := tb3 (List.mem_of_getElem? (i := 48) (by decide +kernel)) rfl
theorem tw3_49 : Cond.code yJ0_isLatin1_aae02 cJ0_isLatin1_aae02 1 (some FieldType.boolean) ∈ gtbl := tb3 (List.mem_of_getElem? (i := 49) (rfl)) rfl
theorem tw3_50 : Cond.methodLink RJ0 495 yJ1_charAt_3b067 ∈ gtbl := tb3 (List.mem_of_getElem? (i := 50) (by decide +kernel)) rfl
theorem tw3_51 : Cond.static yJ1_charAt_3b067 ∈ gtbl := tb3 (List.mem_of_getElem? (i := 51) (by decide +kernel)) rfl
theorem tw3_52 : Cond.code yJ1_charAt_3b067 cJ1_charAt_3b067 2 (some FieldType.char) ∈ gtbl := tb3 (List.mem_of_getElem? (i := 52) (rfl)) rfl
theorem tw3_53 : Cond.methodLink RJ1 9 yJ0_checkIndex_df160 ∈ gtbl := tb3 (List.mem_of_getElem? (i := 53) (by decide +kernel)) rfl
theorem tw3_54 : Cond.static yJ0_checkIndex_df160 ∈ gtbl := tb3 (List.mem_of_getElem? (i := 54) (by decide +kernel)) rfl
theorem tw3_55 : Cond.code yJ0_checkIndex_df160 cJ0_checkIndex_df160 2 none ∈ gtbl := tb3 (List.mem_of_getElem? (i := 55) (rfl)) rfl
theorem tw3_56 : Cond.fieldLink RJ0 1053 RJ3 "SIOOBE_FORMATTER" "Ljava/util/function/BiFunction;" ∈ gtbl := tb3 (List.mem_of_getElem? (i := 56) (by decide +kernel)) rfl
theorem tw3_58 : Cond.methodLink RJ0 1059 yJ3_checkIndex_8e157 ∈ gtbl := tb3 (List.mem_of_getElem? (i := 58) (by decide +kernel)) rfl
theorem tw3_59 : Cond.static yJ3_checkIndex_8e157 ∈ gtbl := tb3 (List.mem_of_getElem? (i := 59) (by decide +kernel)) rfl
theorem tw3_60 : Cond.code yJ3_checkIndex_8e157 cJ3_checkIndex_8e157 3 (some FieldType.int) ∈ gtbl := tb3 (List.mem_of_getElem? (i := 60) (rfl)) rfl
theorem tw3_61 : Cond.methodLink RJ0 498 yJ2_charAt_3b067 ∈ gtbl := tb3 (List.mem_of_getElem? (i := 61) (by decide +kernel)) rfl
theorem tw3_62 : Cond.static yJ2_charAt_3b067 ∈ gtbl := tb3 (List.mem_of_getElem? (i := 62) (by decide +kernel)) rfl
theorem tw3_63 : Cond.code yJ2_charAt_3b067 cJ2_charAt_3b067 2 (some FieldType.char) ∈ gtbl := tb3 (List.mem_of_getElem? (i := 63) (rfl)) rfl
theorem tw3_64 : Cond.methodLink RJ2 67 yJ2_checkIndex_2214a ∈ gtbl := tb3 (List.mem_of_getElem? (i := 64) (by decide +kernel)) rfl
theorem tw3_65 : Cond.static yJ2_checkIndex_2214a ∈ gtbl := tb3 (List.mem_of_getElem? (i := 65) (by decide +kernel)) rfl
theorem tw3_66 : Cond.code yJ2_checkIndex_2214a cJ2_checkIndex_2214a 2 none ∈ gtbl := tb3 (List.mem_of_getElem? (i := 66) (rfl)) rfl
theorem tw3_67 : Cond.methodLink RJ2 48 yJ2_length_9d52b ∈ gtbl := tb3 (List.mem_of_getElem? (i := 67) (by decide +kernel)) rfl
theorem tw3_68 : Cond.static yJ2_length_9d52b ∈ gtbl := tb3 (List.mem_of_getElem? (i := 68) (by decide +kernel)) rfl
theorem tw3_69 : Cond.code yJ2_length_9d52b cJ2_length_9d52b 1 (some FieldType.int) ∈ gtbl := tb3 (List.mem_of_getElem? (i := 69) (rfl)) rfl
theorem tw3_70 : Cond.methodLink RJ2 414 yJ0_checkIndex_df160 ∈ gtbl := tb3 (List.mem_of_getElem? (i := 70) (by decide +kernel)) rfl
theorem tw3_71 : Cond.methodLink RJ2 71 yJ2_getChar_3b067 ∈ gtbl := tb3 (List.mem_of_getElem? (i := 71) (by decide +kernel)) rfl
theorem tw3_72 : Cond.static yJ2_getChar_3b067 ∈ gtbl := tb3 (List.mem_of_getElem? (i := 72) (by decide +kernel)) rfl
theorem tw3_73 : Cond.code yJ2_getChar_3b067 cJ2_getChar_3b067 2 (some FieldType.char) ∈ gtbl := tb3 (List.mem_of_getElem? (i := 73) (rfl)) rfl
theorem tw3_74 : Cond.fieldLink RJ2 44 RJ2 "$assertionsDisabled" "Z" ∈ gtbl := tb3 (List.mem_of_getElem? (i := 74) (by decide +kernel)) rfl
theorem tw3_76 : Cond.fieldLink RJ2 59 RJ2 "HI_BYTE_SHIFT" "I" ∈ gtbl := tb3 (List.mem_of_getElem? (i := 76) (by decide +kernel)) rfl
theorem tw3_78 : Cond.fieldLink RJ2 63 RJ2 "LO_BYTE_SHIFT" "I" ∈ gtbl := tb3 (List.mem_of_getElem? (i := 78) (by decide +kernel)) rfl
theorem tw3_80 : Cond.methodLink RX3 90 yX3_sum ∈ gtbl := tb3 (List.mem_of_getElem? (i := 80) (by decide +kernel)) rfl
theorem tw3_82 : Cond.instanceMethod yX3_sum ∈ gtbl := tb3 (List.mem_of_getElem? (i := 82) (by decide +kernel)) rfl
theorem tw3_83 : Cond.code yX3_sum cX3_sum 6 (some FieldType.boolean) ∈ gtbl := tb3 (List.mem_of_getElem? (i := 83) (rfl)) rfl
theorem tw3_84 : Cond.methodLink RX3 118 yX3_part ∈ gtbl := tb3 (List.mem_of_getElem? (i := 84) (by decide +kernel)) rfl
theorem tw3_86 : Cond.instanceMethod yX3_part ∈ gtbl := tb3 (List.mem_of_getElem? (i := 86) (by decide +kernel)) rfl
theorem tw3_87 : Cond.code yX3_part cX3_part 4 (some FieldType.boolean) ∈ gtbl := tb3 (List.mem_of_getElem? (i := 87) (rfl)) rfl
theorem tw3_88 : Cond.methodLink RX3 57 yX3_isSign ∈ gtbl := tb3 (List.mem_of_getElem? (i := 88) (by decide +kernel)) rfl
theorem tw3_90 : Cond.instanceMethod yX3_isSign ∈ gtbl := tb3 (List.mem_of_getElem? (i := 90) (by decide +kernel)) rfl
theorem tw3_91 : Cond.code yX3_isSign cX3_isSign 2 (some FieldType.boolean) ∈ gtbl := tb3 (List.mem_of_getElem? (i := 91) (rfl)) rfl
theorem tw3_96 : Cond.instanceMethod yX5_put ∈ gtbl := tb3 (List.mem_of_getElem? (i := 96) (by decide +kernel)) rfl
theorem tw3_97 : Cond.code yX5_put cX5_put 2 none ∈ gtbl := tb3 (List.mem_of_getElem? (i := 97) (rfl)) rfl
theorem tw3_100 : Cond.methodLink RX3 99 yX3_test ∈ gtbl := tb3 (List.mem_of_getElem? (i := 100) (by decide +kernel)) rfl
theorem tw3_102 : Cond.instanceMethod yX3_test ∈ gtbl := tb3 (List.mem_of_getElem? (i := 102) (by decide +kernel)) rfl
theorem tw3_103 : Cond.code yX3_test cX3_test 6 (some FieldType.boolean) ∈ gtbl := tb3 (List.mem_of_getElem? (i := 103) (rfl)) rfl
theorem tw3_104 : Cond.methodLink RX3 102 yX3_plain ∈ gtbl := tb3 (List.mem_of_getElem? (i := 104) (by decide +kernel)) rfl
theorem tw3_106 : Cond.instanceMethod yX3_plain ∈ gtbl := tb3 (List.mem_of_getElem? (i := 106) (by decide +kernel)) rfl
theorem tw3_107 : Cond.code yX3_plain cX3_plain 4 (some FieldType.boolean) ∈ gtbl := tb3 (List.mem_of_getElem? (i := 107) (rfl)) rfl
theorem tw3_111 : Cond.instanceMethod yX5_land ∈ gtbl := tb3 (List.mem_of_getElem? (i := 111) (by decide +kernel)) rfl
theorem tw3_112 : Cond.code yX5_land cX5_land 2 none ∈ gtbl := tb3 (List.mem_of_getElem? (i := 112) (rfl)) rfl
theorem tw3_116 : Cond.instanceMethod yX5_putJump ∈ gtbl := tb3 (List.mem_of_getElem? (i := 116) (by decide +kernel)) rfl
theorem tw3_117 : Cond.code yX5_putJump cX5_putJump 2 (some FieldType.int) ∈ gtbl := tb3 (List.mem_of_getElem? (i := 117) (rfl)) rfl
theorem tw3_118 : Cond.methodLink RX5 55 yX5_put ∈ gtbl := tb3 (List.mem_of_getElem? (i := 118) (by decide +kernel)) rfl
theorem tw3_122 : Cond.instanceMethod yX5_trimmed ∈ gtbl := tb3 (List.mem_of_getElem? (i := 122) (by decide +kernel)) rfl
theorem tw3_123 : Cond.code yX5_trimmed cX5_trimmed 2 (some (FieldType.object RX5)) ∈ gtbl := tb3 (List.mem_of_getElem? (i := 123) (rfl)) rfl
theorem tw3_124 : Cond.classLink RX5 9 RX5 ∈ gtbl := tb3 (List.mem_of_getElem? (i := 124) (by decide +kernel)) rfl
theorem tw3_125 : Cond.methodLink RX5 43 yX5_init ∈ gtbl := tb3 (List.mem_of_getElem? (i := 125) (by decide +kernel)) rfl
theorem tw3_126 : Cond.methodLink RX5 46 (⟨RJ10, "arraycopy", "(Ljava/lang/Object;ILjava/lang/Object;II)V"⟩ : MethodName) ∈ gtbl := tb3 (List.mem_of_getElem? (i := 126) (by decide +kernel)) rfl
theorem tw3_127 : Cond.static (⟨RJ10, "arraycopy", "(Ljava/lang/Object;ILjava/lang/Object;II)V"⟩ : MethodName) ∈ gtbl := tb3 (List.mem_of_getElem? (i := 127) (by decide +kernel)) rfl
theorem tw3_128 : Cond.native (⟨RJ10, "arraycopy", "(Ljava/lang/Object;ILjava/lang/Object;II)V"⟩ : MethodName) ∈ gtbl := tb3 (List.mem_of_getElem? (i := 128) (by decide +kernel)) rfl
theorem tw3_129 : Cond.methodLink RX5 52 yJ9_min_7cf53 ∈ gtbl := tb3 (List.mem_of_getElem? (i := 129) (by decide +kernel)) rfl
theorem tw3_130 : Cond.methodLink RL 62 yX7_orders ∈ gtbl := tb3 (List.mem_of_getElem? (i := 130) (by decide +kernel)) rfl
theorem tw3_131 : Cond.instanceMethod yX7_orders ∈ gtbl := tb3 (List.mem_of_getElem? (i := 131) (by decide +kernel)) rfl
theorem tw3_132 : Cond.selects RX7 yX7_orders yX7_orders ∈ gtbl := tb3 (List.mem_of_getElem? (i := 132) (by decide +kernel)) rfl
theorem tw3_133 : Cond.code yX7_orders cX7_orders 1 (some FieldType.int) ∈ gtbl := tb3 (List.mem_of_getElem? (i := 133) (rfl)) rfl
theorem tw3_134 : Cond.methodLink RX7 180 yX7_runWhollyOrNot ∈ gtbl := tb3 (List.mem_of_getElem? (i := 134) (by decide +kernel)) rfl
theorem tw3_136 : Cond.instanceMethod yX7_runWhollyOrNot ∈ gtbl := tb3 (List.mem_of_getElem? (i := 136) (by decide +kernel)) rfl
theorem tw3_137 : Cond.code yX7_runWhollyOrNot cX7_runWhollyOrNot 11 (some FieldType.int) ∈ gtbl := tb3 (List.mem_of_getElem? (i := 137) (rfl)) rfl
theorem tw3_140 : Cond.instanceMethod yX2_becomes ∈ gtbl := tb3 (List.mem_of_getElem? (i := 140) (by decide +kernel)) rfl
theorem tw3_141 : Cond.code yX2_becomes cX2_becomes 2 none ∈ gtbl := tb3 (List.mem_of_getElem? (i := 141) (rfl)) rfl
theorem tw3_142 : Cond.methodLink RX2 19 (⟨RJ10, "arraycopy", "(Ljava/lang/Object;ILjava/lang/Object;II)V"⟩ : MethodName) ∈ gtbl := tb3 (List.mem_of_getElem? (i := 142) (by decide +kernel)) rfl
theorem tw3_143 : Cond.methodLink RX7 308 yX7_gatherFacts ∈ gtbl := tb3 (List.mem_of_getElem? (i := 143) (by decide +kernel)) rfl
theorem tw3_145 : Cond.instanceMethod yX7_gatherFacts ∈ gtbl := tb3 (List.mem_of_getElem? (i := 145) (by decide +kernel)) rfl
theorem tw3_146 : Cond.code yX7_gatherFacts cX7_gatherFacts 5 none ∈ gtbl := tb3 (List.mem_of_getElem? (i := 146) (rfl)) rfl
theorem tw3_148 : Cond.methodLink RX7 319 yX7_runClause ∈ gtbl := tb3 (List.mem_of_getElem? (i := 148) (by decide +kernel)) rfl
theorem tw3_150 : Cond.instanceMethod yX7_runClause ∈ gtbl := tb3 (List.mem_of_getElem? (i := 150) (by decide +kernel)) rfl
theorem tw3_151 : Cond.code yX7_runClause cX7_runClause 4 (some FieldType.int) ∈ gtbl := tb3 (List.mem_of_getElem? (i := 151) (rfl)) rfl
theorem tw3_152 : Cond.constant RX7 329 (-2000000000 : Int32) ∈ gtbl := tb3 (List.mem_of_getElem? (i := 152) (by decide +kernel)) rfl
theorem tw3_153 : Cond.methodLink RX7 193 yX7_performSaying ∈ gtbl := tb3 (List.mem_of_getElem? (i := 153) (by decide +kernel)) rfl
theorem tw3_155 : Cond.instanceMethod yX7_performSaying ∈ gtbl := tb3 (List.mem_of_getElem? (i := 155) (by decide +kernel)) rfl
theorem tw3_156 : Cond.code yX7_performSaying cX7_performSaying 3 (some FieldType.int) ∈ gtbl := tb3 (List.mem_of_getElem? (i := 156) (rfl)) rfl
theorem tw3_159 : Cond.instanceMethod yX4_place ∈ gtbl := tb3 (List.mem_of_getElem? (i := 159) (by decide +kernel)) rfl
theorem tw3_160 : Cond.code yX4_place cX4_place 1 (some FieldType.int) ∈ gtbl := tb3 (List.mem_of_getElem? (i := 160) (rfl)) rfl
theorem tw3_163 : Cond.instanceMethod yX6_speak ∈ gtbl := tb3 (List.mem_of_getElem? (i := 163) (by decide +kernel)) rfl
theorem tw3_164 : Cond.code yX6_speak cX6_speak 10 (some FieldType.int) ∈ gtbl := tb3 (List.mem_of_getElem? (i := 164) (rfl)) rfl
theorem tw3_165 : Cond.methodLink RX6 65 yJ6_bitCount_0f7a4 ∈ gtbl := tb3 (List.mem_of_getElem? (i := 165) (by decide +kernel)) rfl
theorem tw3_166 : Cond.methodLink RX6 71 yX6_firstIn ∈ gtbl := tb3 (List.mem_of_getElem? (i := 166) (by decide +kernel)) rfl
theorem tw3_168 : Cond.instanceMethod yX6_firstIn ∈ gtbl := tb3 (List.mem_of_getElem? (i := 168) (by decide +kernel)) rfl
theorem tw3_169 : Cond.code yX6_firstIn cX6_firstIn 3 (some FieldType.int) ∈ gtbl := tb3 (List.mem_of_getElem? (i := 169) (rfl)) rfl
theorem tw3_170 : Cond.methodLink RX6 84 yX6_nextIn ∈ gtbl := tb3 (List.mem_of_getElem? (i := 170) (by decide +kernel)) rfl
theorem tw3_172 : Cond.instanceMethod yX6_nextIn ∈ gtbl := tb3 (List.mem_of_getElem? (i := 172) (by decide +kernel)) rfl
theorem tw3_173 : Cond.code yX6_nextIn cX6_nextIn 6 (some FieldType.int) ∈ gtbl := tb3 (List.mem_of_getElem? (i := 173) (rfl)) rfl
theorem tw3_174 : Cond.methodLink RX6 75 yX6_lengthOf ∈ gtbl := tb3 (List.mem_of_getElem? (i := 174) (by decide +kernel)) rfl
theorem tw3_175 : Cond.methodLink RX6 87 yX6_isSo ∈ gtbl := tb3 (List.mem_of_getElem? (i := 175) (by decide +kernel)) rfl
theorem tw3_178 : Cond.instanceMethod yX2_keep ∈ gtbl := tb3 (List.mem_of_getElem? (i := 178) (by decide +kernel)) rfl
theorem tw3_179 : Cond.code yX2_keep cX2_keep 4 none ∈ gtbl := tb3 (List.mem_of_getElem? (i := 179) (rfl)) rfl
theorem tw3_182 : Cond.instanceMethod yX6_stateBehind ∈ gtbl := tb3 (List.mem_of_getElem? (i := 182) (by decide +kernel)) rfl
theorem tw3_183 : Cond.code yX6_stateBehind cX6_stateBehind 6 (some FieldType.int) ∈ gtbl := tb3 (List.mem_of_getElem? (i := 183) (rfl)) rfl
theorem tw3_186 : Cond.instanceMethod yX4_settle ∈ gtbl := tb3 (List.mem_of_getElem? (i := 186) (by decide +kernel)) rfl
theorem tw3_187 : Cond.code yX4_settle cX4_settle 2 none ∈ gtbl := tb3 (List.mem_of_getElem? (i := 187) (rfl)) rfl
theorem tw3_188 : Cond.methodLink RX7 214 yX7_performMove ∈ gtbl := tb3 (List.mem_of_getElem? (i := 188) (by decide +kernel)) rfl
theorem tw3_190 : Cond.instanceMethod yX7_performMove ∈ gtbl := tb3 (List.mem_of_getElem? (i := 190) (by decide +kernel)) rfl
theorem tw3_191 : Cond.code yX7_performMove cX7_performMove 4 (some FieldType.int) ∈ gtbl := tb3 (List.mem_of_getElem? (i := 191) (rfl)) rfl
theorem tw3_192 : Cond.methodLink RX7 217 yX7_performRound ∈ gtbl := tb3 (List.mem_of_getElem? (i := 192) (by decide +kernel)) rfl
theorem tw3_194 : Cond.instanceMethod yX7_performRound ∈ gtbl := tb3 (List.mem_of_getElem? (i := 194) (by decide +kernel)) rfl
theorem tw3_195 : Cond.code yX7_performRound cX7_performRound 1 (some FieldType.int) ∈ gtbl := tb3 (List.mem_of_getElem? (i := 195) (rfl)) rfl
theorem tw3_198 : Cond.instanceMethod yX4_everyone ∈ gtbl := tb3 (List.mem_of_getElem? (i := 198) (by decide +kernel)) rfl
theorem tw3_199 : Cond.code yX4_everyone cX4_everyone 1 (some FieldType.int) ∈ gtbl := tb3 (List.mem_of_getElem? (i := 199) (rfl)) rfl
theorem tw3_200 : Cond.methodLink RX7 184 yX7_answered ∈ gtbl := tb3 (List.mem_of_getElem? (i := 200) (by decide +kernel)) rfl
theorem tw3_202 : Cond.instanceMethod yX7_answered ∈ gtbl := tb3 (List.mem_of_getElem? (i := 202) (by decide +kernel)) rfl
theorem tw3_203 : Cond.code yX7_answered cX7_answered 2 (some FieldType.int) ∈ gtbl := tb3 (List.mem_of_getElem? (i := 203) (rfl)) rfl
theorem tw3_204 : Cond.methodLink RL 66 yX7_fault ∈ gtbl := tb3 (List.mem_of_getElem? (i := 204) (by decide +kernel)) rfl
theorem tw3_205 : Cond.instanceMethod yX7_fault ∈ gtbl := tb3 (List.mem_of_getElem? (i := 205) (by decide +kernel)) rfl
theorem tw3_206 : Cond.selects RX7 yX7_fault yX7_fault ∈ gtbl := tb3 (List.mem_of_getElem? (i := 206) (by decide +kernel)) rfl
theorem tw3_207 : Cond.code yX7_fault cX7_fault 1 (some FieldType.int) ∈ gtbl := tb3 (List.mem_of_getElem? (i := 207) (rfl)) rfl
theorem tw3_208 : Cond.methodLink RL 70 yX7_stopped ∈ gtbl := tb3 (List.mem_of_getElem? (i := 208) (by decide +kernel)) rfl
theorem tw3_209 : Cond.instanceMethod yX7_stopped ∈ gtbl := tb3 (List.mem_of_getElem? (i := 209) (by decide +kernel)) rfl
theorem tw3_210 : Cond.selects RX7 yX7_stopped yX7_stopped ∈ gtbl := tb3 (List.mem_of_getElem? (i := 210) (by decide +kernel)) rfl
theorem tw3_211 : Cond.code yX7_stopped cX7_stopped 1 (some FieldType.int) ∈ gtbl := tb3 (List.mem_of_getElem? (i := 211) (rfl)) rfl
theorem tw3_212 : Cond.methodLink RL 74 yX7_force ∈ gtbl := tb3 (List.mem_of_getElem? (i := 212) (by decide +kernel)) rfl
theorem tw3_213 : Cond.instanceMethod yX7_force ∈ gtbl := tb3 (List.mem_of_getElem? (i := 213) (by decide +kernel)) rfl
theorem tw3_214 : Cond.selects RX7 yX7_force yX7_force ∈ gtbl := tb3 (List.mem_of_getElem? (i := 214) (by decide +kernel)) rfl
theorem tw3_215 : Cond.code yX7_force cX7_force 3 (some FieldType.int) ∈ gtbl := tb3 (List.mem_of_getElem? (i := 215) (rfl)) rfl
theorem tw3_218 : Cond.instanceMethod yX4_lacksLaw ∈ gtbl := tb3 (List.mem_of_getElem? (i := 218) (by decide +kernel)) rfl
theorem tw3_219 : Cond.code yX4_lacksLaw cX4_lacksLaw 2 (some FieldType.boolean) ∈ gtbl := tb3 (List.mem_of_getElem? (i := 219) (rfl)) rfl
theorem tw3_220 : Cond.methodLink RL 78 yX7_say ∈ gtbl := tb3 (List.mem_of_getElem? (i := 220) (by decide +kernel)) rfl
theorem tw3_221 : Cond.instanceMethod yX7_say ∈ gtbl := tb3 (List.mem_of_getElem? (i := 221) (by decide +kernel)) rfl
theorem tw3_222 : Cond.selects RX7 yX7_say yX7_say ∈ gtbl := tb3 (List.mem_of_getElem? (i := 222) (by decide +kernel)) rfl
theorem tw3_223 : Cond.code yX7_say cX7_say 2 (some FieldType.int) ∈ gtbl := tb3 (List.mem_of_getElem? (i := 223) (rfl)) rfl
theorem tw3_224 : Cond.methodLink RL 82 yX7_falls ∈ gtbl := tb3 (List.mem_of_getElem? (i := 224) (by decide +kernel)) rfl
theorem tw3_225 : Cond.instanceMethod yX7_falls ∈ gtbl := tb3 (List.mem_of_getElem? (i := 225) (by decide +kernel)) rfl
theorem tw3_226 : Cond.selects RX7 yX7_falls yX7_falls ∈ gtbl := tb3 (List.mem_of_getElem? (i := 226) (by decide +kernel)) rfl
theorem tw3_227 : Cond.code yX7_falls cX7_falls 3 (some FieldType.int) ∈ gtbl := tb3 (List.mem_of_getElem? (i := 227) (rfl)) rfl
theorem tw3_229 : Cond.methodLink RL 86 yX7_join ∈ gtbl := tb3 (List.mem_of_getElem? (i := 229) (by decide +kernel)) rfl
theorem tw3_230 : Cond.instanceMethod yX7_join ∈ gtbl := tb3 (List.mem_of_getElem? (i := 230) (by decide +kernel)) rfl
theorem tw3_231 : Cond.selects RX7 yX7_join yX7_join ∈ gtbl := tb3 (List.mem_of_getElem? (i := 231) (by decide +kernel)) rfl
theorem tw3_232 : Cond.code yX7_join cX7_join 2 (some FieldType.int) ∈ gtbl := tb3 (List.mem_of_getElem? (i := 232) (rfl)) rfl
theorem tw3_233 : Cond.methodLink RL 90 yX7_leave ∈ gtbl := tb3 (List.mem_of_getElem? (i := 233) (by decide +kernel)) rfl
theorem tw3_234 : Cond.instanceMethod yX7_leave ∈ gtbl := tb3 (List.mem_of_getElem? (i := 234) (by decide +kernel)) rfl
theorem tw3_235 : Cond.selects RX7 yX7_leave yX7_leave ∈ gtbl := tb3 (List.mem_of_getElem? (i := 235) (by decide +kernel)) rfl
theorem tw3_236 : Cond.code yX7_leave cX7_leave 2 (some FieldType.int) ∈ gtbl := tb3 (List.mem_of_getElem? (i := 236) (rfl)) rfl
theorem tw3_237 : Cond.methodLink RL 94 yX7_pass ∈ gtbl := tb3 (List.mem_of_getElem? (i := 237) (by decide +kernel)) rfl
theorem tw3_238 : Cond.instanceMethod yX7_pass ∈ gtbl := tb3 (List.mem_of_getElem? (i := 238) (by decide +kernel)) rfl
theorem tw3_239 : Cond.selects RX7 yX7_pass yX7_pass ∈ gtbl := tb3 (List.mem_of_getElem? (i := 239) (by decide +kernel)) rfl
theorem tw4_0 : Cond.code yX7_pass cX7_pass 1 (some FieldType.int) ∈ gtbl := tb4 (List.mem_of_getElem? (i := 0) (rfl)) rfl
theorem tw4_1 : Cond.methodLink RL 98 yX7_undo ∈ gtbl := tb4 (List.mem_of_getElem? (i := 1) (by decide +kernel)) rfl
theorem tw4_2 : Cond.instanceMethod yX7_undo ∈ gtbl := tb4 (List.mem_of_getElem? (i := 2) (by decide +kernel)) rfl
theorem tw4_3 : Cond.selects RX7 yX7_undo yX7_undo ∈ gtbl := tb4 (List.mem_of_getElem? (i := 3) (by decide +kernel)) rfl
theorem tw4_4 : Cond.code yX7_undo cX7_undo 2 (some FieldType.int) ∈ gtbl := tb4 (List.mem_of_getElem? (i := 4) (rfl)) rfl
theorem tw4_7 : Cond.instanceMethod yX2_takeBack ∈ gtbl := tb4 (List.mem_of_getElem? (i := 7) (by decide +kernel)) rfl
theorem tw4_8 : Cond.code yX2_takeBack cX2_takeBack 3 (some FieldType.int) ∈ gtbl := tb4 (List.mem_of_getElem? (i := 8) (rfl)) rfl
theorem tw4_10 : Cond.methodLink RL 102 yX7_left ∈ gtbl := tb4 (List.mem_of_getElem? (i := 10) (by decide +kernel)) rfl
theorem tw4_11 : Cond.instanceMethod yX7_left ∈ gtbl := tb4 (List.mem_of_getElem? (i := 11) (by decide +kernel)) rfl
theorem tw4_12 : Cond.selects RX7 yX7_left yX7_left ∈ gtbl := tb4 (List.mem_of_getElem? (i := 12) (by decide +kernel)) rfl
theorem tw4_13 : Cond.code yX7_left cX7_left 4 (some FieldType.int) ∈ gtbl := tb4 (List.mem_of_getElem? (i := 13) (rfl)) rfl
theorem tw4_16 : Cond.instanceMethod yX4_state ∈ gtbl := tb4 (List.mem_of_getElem? (i := 16) (by decide +kernel)) rfl
theorem tw4_17 : Cond.code yX4_state cX4_state 1 (some FieldType.int) ∈ gtbl := tb4 (List.mem_of_getElem? (i := 17) (rfl)) rfl
theorem tw4_18 : Cond.methodLink RX4 49 yX4_place ∈ gtbl := tb4 (List.mem_of_getElem? (i := 18) (by decide +kernel)) rfl
theorem tw4_21 : Cond.instanceMethod yX1_lastBy ∈ gtbl := tb4 (List.mem_of_getElem? (i := 21) (by decide +kernel)) rfl
theorem tw4_22 : Cond.code yX1_lastBy cX1_lastBy 7 (some FieldType.int) ∈ gtbl := tb4 (List.mem_of_getElem? (i := 22) (rfl)) rfl
theorem tw4_23 : Cond.methodLink RX1 61 yX1_goesOn ∈ gtbl := tb4 (List.mem_of_getElem? (i := 23) (by decide +kernel)) rfl
theorem tw4_24 : Cond.static yX1_goesOn ∈ gtbl := tb4 (List.mem_of_getElem? (i := 24) (by decide +kernel)) rfl
theorem tw4_25 : Cond.code yX1_goesOn cX1_goesOn 1 (some FieldType.boolean) ∈ gtbl := tb4 (List.mem_of_getElem? (i := 25) (rfl)) rfl
theorem tw4_26 : Cond.methodLink RX1 52 yJ6_bitCount_0f7a4 ∈ gtbl := tb4 (List.mem_of_getElem? (i := 26) (by decide +kernel)) rfl
theorem tw4_29 : Cond.instanceMethod yX6_after ∈ gtbl := tb4 (List.mem_of_getElem? (i := 29) (by decide +kernel)) rfl
theorem tw4_30 : Cond.code yX6_after cX6_after 6 (some FieldType.int) ∈ gtbl := tb4 (List.mem_of_getElem? (i := 30) (rfl)) rfl
theorem tw4_31 : Cond.methodLink RX6 94 yX6_speak ∈ gtbl := tb4 (List.mem_of_getElem? (i := 31) (by decide +kernel)) rfl
theorem tw4_32 : Cond.methodLink RX6 98 yX6_stateBehind ∈ gtbl := tb4 (List.mem_of_getElem? (i := 32) (by decide +kernel)) rfl
theorem tw4_33 : Cond.methodLink RX1 58 yJ6_numberOfTrailingZeros_0f7a4 ∈ gtbl := tb4 (List.mem_of_getElem? (i := 33) (by decide +kernel)) rfl
theorem tw4_34 : Cond.static yJ6_numberOfTrailingZeros_0f7a4 ∈ gtbl := tb4 (List.mem_of_getElem? (i := 34) (by decide +kernel)) rfl
theorem tw4_35 : Cond.code yJ6_numberOfTrailingZeros_0f7a4 cJ6_numberOfTrailingZeros_0f7a4 2 (some FieldType.int) ∈ gtbl := tb4 (List.mem_of_getElem? (i := 35) (rfl)) rfl
theorem tw4_36 : Cond.constant RJ6 264 (65536 : Int32) ∈ gtbl := tb4 (List.mem_of_getElem? (i := 36) (by decide +kernel)) rfl
theorem tw4_37 : Cond.methodLink RX1 71 yX1_onlyOneIn ∈ gtbl := tb4 (List.mem_of_getElem? (i := 37) (by decide +kernel)) rfl
theorem tw4_38 : Cond.static yX1_onlyOneIn ∈ gtbl := tb4 (List.mem_of_getElem? (i := 38) (by decide +kernel)) rfl
theorem tw4_39 : Cond.code yX1_onlyOneIn cX1_onlyOneIn 2 (some FieldType.int) ∈ gtbl := tb4 (List.mem_of_getElem? (i := 39) (rfl)) rfl
theorem tw4_40 : Cond.methodLink RL 106 yX7_safe ∈ gtbl := tb4 (List.mem_of_getElem? (i := 40) (by decide +kernel)) rfl
theorem tw4_41 : Cond.instanceMethod yX7_safe ∈ gtbl := tb4 (List.mem_of_getElem? (i := 41) (by decide +kernel)) rfl
theorem tw4_42 : Cond.selects RX7 yX7_safe yX7_safe ∈ gtbl := tb4 (List.mem_of_getElem? (i := 42) (by decide +kernel)) rfl
theorem tw4_43 : Cond.code yX7_safe cX7_safe 5 (some FieldType.int) ∈ gtbl := tb4 (List.mem_of_getElem? (i := 43) (rfl)) rfl
theorem tw4_44 : Cond.methodLink RL 110 yX7_alone ∈ gtbl := tb4 (List.mem_of_getElem? (i := 44) (by decide +kernel)) rfl
theorem tw4_45 : Cond.instanceMethod yX7_alone ∈ gtbl := tb4 (List.mem_of_getElem? (i := 45) (by decide +kernel)) rfl
theorem tw4_46 : Cond.selects RX7 yX7_alone yX7_alone ∈ gtbl := tb4 (List.mem_of_getElem? (i := 46) (by decide +kernel)) rfl
theorem tw4_47 : Cond.code yX7_alone cX7_alone 5 (some FieldType.int) ∈ gtbl := tb4 (List.mem_of_getElem? (i := 47) (rfl)) rfl
theorem tw4_50 : Cond.instanceMethod yX1_reach ∈ gtbl := tb4 (List.mem_of_getElem? (i := 50) (by decide +kernel)) rfl
theorem tw4_51 : Cond.code yX1_reach cX1_reach 7 (some FieldType.int) ∈ gtbl := tb4 (List.mem_of_getElem? (i := 51) (rfl)) rfl
theorem tw4_52 : Cond.methodLink RX1 74 yJ7_fill_53178 ∈ gtbl := tb4 (List.mem_of_getElem? (i := 52) (by decide +kernel)) rfl
theorem tw4_55 : Cond.instanceMethod yX1_sayingsTo ∈ gtbl := tb4 (List.mem_of_getElem? (i := 55) (by decide +kernel)) rfl
theorem tw4_56 : Cond.code yX1_sayingsTo cX1_sayingsTo 4 (some FieldType.int) ∈ gtbl := tb4 (List.mem_of_getElem? (i := 56) (rfl)) rfl
theorem tw4_59 : Cond.instanceMethod yX1_rhymeAhead ∈ gtbl := tb4 (List.mem_of_getElem? (i := 59) (by decide +kernel)) rfl
theorem tw4_60 : Cond.code yX1_rhymeAhead cX1_rhymeAhead 5 (some FieldType.int) ∈ gtbl := tb4 (List.mem_of_getElem? (i := 60) (rfl)) rfl
theorem tw4_61 : Cond.methodLink RL 114 yX7_game ∈ gtbl := tb4 (List.mem_of_getElem? (i := 61) (by decide +kernel)) rfl
theorem tw4_62 : Cond.instanceMethod yX7_game ∈ gtbl := tb4 (List.mem_of_getElem? (i := 62) (by decide +kernel)) rfl
theorem tw4_63 : Cond.selects RX7 yX7_game yX7_game ∈ gtbl := tb4 (List.mem_of_getElem? (i := 63) (by decide +kernel)) rfl
theorem tw4_64 : Cond.code yX7_game cX7_game 3 (some FieldType.int) ∈ gtbl := tb4 (List.mem_of_getElem? (i := 64) (rfl)) rfl
theorem tw4_67 : Cond.instanceMethod yX1_play ∈ gtbl := tb4 (List.mem_of_getElem? (i := 67) (by decide +kernel)) rfl
theorem tw4_68 : Cond.code yX1_play cX1_play 9 (some FieldType.int) ∈ gtbl := tb4 (List.mem_of_getElem? (i := 68) (rfl)) rfl
theorem tw4_69 : Cond.methodLink RX1 85 yX1_reach ∈ gtbl := tb4 (List.mem_of_getElem? (i := 69) (by decide +kernel)) rfl
theorem tw4_70 : Cond.methodLink RX1 88 yX1_choose ∈ gtbl := tb4 (List.mem_of_getElem? (i := 70) (by decide +kernel)) rfl
theorem tw4_72 : Cond.instanceMethod yX1_choose ∈ gtbl := tb4 (List.mem_of_getElem? (i := 72) (by decide +kernel)) rfl
theorem tw4_73 : Cond.code yX1_choose cX1_choose 5 (some FieldType.int) ∈ gtbl := tb4 (List.mem_of_getElem? (i := 73) (rfl)) rfl
theorem tw4_75 : Cond.methodLink RL 118 yX7_chances ∈ gtbl := tb4 (List.mem_of_getElem? (i := 75) (by decide +kernel)) rfl
theorem tw4_76 : Cond.instanceMethod yX7_chances ∈ gtbl := tb4 (List.mem_of_getElem? (i := 76) (by decide +kernel)) rfl
theorem tw4_77 : Cond.selects RX7 yX7_chances yX7_chances ∈ gtbl := tb4 (List.mem_of_getElem? (i := 77) (by decide +kernel)) rfl
theorem tw4_78 : Cond.code yX7_chances cX7_chances 3 (some FieldType.long) ∈ gtbl := tb4 (List.mem_of_getElem? (i := 78) (rfl)) rfl
theorem tw4_79 : Cond.constantLong RX7 251 (-1 : Int64) ∈ gtbl := tb4 (List.mem_of_getElem? (i := 79) (by decide +kernel)) rfl
theorem tw4_82 : Cond.instanceMethod yX1_partsIn ∈ gtbl := tb4 (List.mem_of_getElem? (i := 82) (by decide +kernel)) rfl
theorem tw4_83 : Cond.code yX1_partsIn cX1_partsIn 11 (some FieldType.long) ∈ gtbl := tb4 (List.mem_of_getElem? (i := 83) (rfl)) rfl
theorem tw4_84 : Cond.methodLink RX1 95 yJ7_fill_d0a16 ∈ gtbl := tb4 (List.mem_of_getElem? (i := 84) (by decide +kernel)) rfl
theorem tw4_85 : Cond.static yJ7_fill_d0a16 ∈ gtbl := tb4 (List.mem_of_getElem? (i := 85) (by decide +kernel)) rfl
theorem tw4_86 : Cond.code yJ7_fill_d0a16 cJ7_fill_d0a16 5 none ∈ gtbl := tb4 (List.mem_of_getElem? (i := 86) (rfl)) rfl
theorem tw4_87 : Cond.constantLong RX1 98 (1000000000000 : Int64) ∈ gtbl := tb4 (List.mem_of_getElem? (i := 87) (by decide +kernel)) rfl
theorem tw4_89 : Cond.methodLink RX1 104 yJ9_min_7cf53 ∈ gtbl := tb4 (List.mem_of_getElem? (i := 89) (by decide +kernel)) rfl
theorem tw4_90 : Cond.methodLink RX1 109 yX1_handOn ∈ gtbl := tb4 (List.mem_of_getElem? (i := 90) (by decide +kernel)) rfl
theorem tw4_92 : Cond.instanceMethod yX1_handOn ∈ gtbl := tb4 (List.mem_of_getElem? (i := 92) (by decide +kernel)) rfl
theorem tw4_93 : Cond.code yX1_handOn cX1_handOn 8 none ∈ gtbl := tb4 (List.mem_of_getElem? (i := 93) (rfl)) rfl
theorem tw4_94 : Cond.methodLink RL 123 yX7_said ∈ gtbl := tb4 (List.mem_of_getElem? (i := 94) (by decide +kernel)) rfl
theorem tw4_95 : Cond.instanceMethod yX7_said ∈ gtbl := tb4 (List.mem_of_getElem? (i := 95) (by decide +kernel)) rfl
theorem tw4_96 : Cond.selects RX7 yX7_said yX7_said ∈ gtbl := tb4 (List.mem_of_getElem? (i := 96) (by decide +kernel)) rfl
theorem tw4_97 : Cond.code yX7_said cX7_said 5 (some FieldType.int) ∈ gtbl := tb4 (List.mem_of_getElem? (i := 97) (rfl)) rfl
theorem tw4_100 : Cond.instanceMethod yX1_rowsSaid ∈ gtbl := tb4 (List.mem_of_getElem? (i := 100) (by decide +kernel)) rfl
theorem tw4_101 : Cond.code yX1_rowsSaid cX1_rowsSaid 6 (some FieldType.int) ∈ gtbl := tb4 (List.mem_of_getElem? (i := 101) (rfl)) rfl
theorem tw4_102 : Cond.methodLink RX1 113 yX1_leadsHere ∈ gtbl := tb4 (List.mem_of_getElem? (i := 102) (by decide +kernel)) rfl
theorem tw4_104 : Cond.instanceMethod yX1_leadsHere ∈ gtbl := tb4 (List.mem_of_getElem? (i := 104) (by decide +kernel)) rfl
theorem tw4_105 : Cond.code yX1_leadsHere cX1_leadsHere 5 (some FieldType.boolean) ∈ gtbl := tb4 (List.mem_of_getElem? (i := 105) (rfl)) rfl
theorem tw4_106 : Cond.methodLink RX1 117 yX1_digit ∈ gtbl := tb4 (List.mem_of_getElem? (i := 106) (by decide +kernel)) rfl
theorem tw4_108 : Cond.instanceMethod yX1_digit ∈ gtbl := tb4 (List.mem_of_getElem? (i := 108) (by decide +kernel)) rfl
theorem tw4_109 : Cond.code yX1_digit cX1_digit 5 (some FieldType.int) ∈ gtbl := tb4 (List.mem_of_getElem? (i := 109) (rfl)) rfl
theorem tw4_111 : Cond.methodLink RL 128 yX7_compare ∈ gtbl := tb4 (List.mem_of_getElem? (i := 111) (by decide +kernel)) rfl
theorem tw4_112 : Cond.instanceMethod yX7_compare ∈ gtbl := tb4 (List.mem_of_getElem? (i := 112) (by decide +kernel)) rfl
theorem tw4_113 : Cond.selects RX7 yX7_compare yX7_compare ∈ gtbl := tb4 (List.mem_of_getElem? (i := 113) (by decide +kernel)) rfl
theorem tw4_114 : Cond.code yX7_compare cX7_compare 3 (some FieldType.int) ∈ gtbl := tb4 (List.mem_of_getElem? (i := 114) (rfl)) rfl
theorem tw4_115 : Cond.methodLink RL 132 yX7_quarters ∈ gtbl := tb4 (List.mem_of_getElem? (i := 115) (by decide +kernel)) rfl
theorem tw4_116 : Cond.instanceMethod yX7_quarters ∈ gtbl := tb4 (List.mem_of_getElem? (i := 116) (by decide +kernel)) rfl
theorem tw4_117 : Cond.selects RX7 yX7_quarters yX7_quarters ∈ gtbl := tb4 (List.mem_of_getElem? (i := 117) (by decide +kernel)) rfl
theorem tw4_118 : Cond.code yX7_quarters cX7_quarters 3 (some FieldType.int) ∈ gtbl := tb4 (List.mem_of_getElem? (i := 118) (rfl)) rfl
theorem tw4_119 : Cond.constant RX7 267 (1000000 : Int32) ∈ gtbl := tb4 (List.mem_of_getElem? (i := 119) (by decide +kernel)) rfl
theorem tw4_122 : Cond.instanceMethod yX0_run ∈ gtbl := tb4 (List.mem_of_getElem? (i := 122) (by decide +kernel)) rfl
theorem tw4_123 : Cond.code yX0_run cX0_run 8 (some FieldType.int) ∈ gtbl := tb4 (List.mem_of_getElem? (i := 123) (rfl)) rfl
theorem tw4_125 : Cond.methodLink RX0 50 yJ7_fill_53178 ∈ gtbl := tb4 (List.mem_of_getElem? (i := 125) (by decide +kernel)) rfl
theorem tw4_130 : Cond.methodLink RX0 75 yX0_stateBehindDraws ∈ gtbl := tb4 (List.mem_of_getElem? (i := 130) (by decide +kernel)) rfl
theorem tw4_132 : Cond.instanceMethod yX0_stateBehindDraws ∈ gtbl := tb4 (List.mem_of_getElem? (i := 132) (by decide +kernel)) rfl
theorem tw4_133 : Cond.code yX0_stateBehindDraws cX0_stateBehindDraws 5 (some FieldType.int) ∈ gtbl := tb4 (List.mem_of_getElem? (i := 133) (rfl)) rfl
theorem tw4_134 : Cond.methodLink RX0 85 yX0_draw ∈ gtbl := tb4 (List.mem_of_getElem? (i := 134) (by decide +kernel)) rfl
theorem tw4_136 : Cond.instanceMethod yX0_draw ∈ gtbl := tb4 (List.mem_of_getElem? (i := 136) (by decide +kernel)) rfl
theorem tw4_137 : Cond.code yX0_draw cX0_draw 2 (some FieldType.int) ∈ gtbl := tb4 (List.mem_of_getElem? (i := 137) (rfl)) rfl
theorem tw4_138 : Cond.constantLong RX0 34 (1103 : Int64) ∈ gtbl := tb4 (List.mem_of_getElem? (i := 138) (by decide +kernel)) rfl
theorem tw4_139 : Cond.constantLong RX0 36 (12345 : Int64) ∈ gtbl := tb4 (List.mem_of_getElem? (i := 139) (by decide +kernel)) rfl
theorem tw4_140 : Cond.constantLong RX0 38 (1000003 : Int64) ∈ gtbl := tb4 (List.mem_of_getElem? (i := 140) (by decide +kernel)) rfl
theorem tw4_144 : Cond.methodLink RL 136 yX7_drawn ∈ gtbl := tb4 (List.mem_of_getElem? (i := 144) (by decide +kernel)) rfl
theorem tw4_145 : Cond.instanceMethod yX7_drawn ∈ gtbl := tb4 (List.mem_of_getElem? (i := 145) (by decide +kernel)) rfl
theorem tw4_146 : Cond.selects RX7 yX7_drawn yX7_drawn ∈ gtbl := tb4 (List.mem_of_getElem? (i := 146) (by decide +kernel)) rfl
theorem tw4_147 : Cond.code yX7_drawn cX7_drawn 3 (some FieldType.int) ∈ gtbl := tb4 (List.mem_of_getElem? (i := 147) (rfl)) rfl
theorem tw4_148 : Cond.methodLink RL 140 yX7_image ∈ gtbl := tb4 (List.mem_of_getElem? (i := 148) (by decide +kernel)) rfl
theorem tw4_149 : Cond.instanceMethod yX7_image ∈ gtbl := tb4 (List.mem_of_getElem? (i := 149) (by decide +kernel)) rfl
theorem tw4_150 : Cond.selects RX7 yX7_image yX7_image ∈ gtbl := tb4 (List.mem_of_getElem? (i := 150) (by decide +kernel)) rfl
theorem tw4_151 : Cond.code yX7_image cX7_image 2 (some FieldType.int) ∈ gtbl := tb4 (List.mem_of_getElem? (i := 151) (rfl)) rfl
theorem tw4_154 : Cond.instanceMethod yX4_becomes ∈ gtbl := tb4 (List.mem_of_getElem? (i := 154) (by decide +kernel)) rfl
theorem tw4_155 : Cond.code yX4_becomes cX4_becomes 3 none ∈ gtbl := tb4 (List.mem_of_getElem? (i := 155) (rfl)) rfl
theorem tw4_156 : Cond.methodLink RX4 43 (⟨RJ10, "arraycopy", "(Ljava/lang/Object;ILjava/lang/Object;II)V"⟩ : MethodName) ∈ gtbl := tb4 (List.mem_of_getElem? (i := 156) (by decide +kernel)) rfl
theorem tw4_157 : Cond.methodLink RL 144 yX7_back ∈ gtbl := tb4 (List.mem_of_getElem? (i := 157) (by decide +kernel)) rfl
theorem tw4_158 : Cond.instanceMethod yX7_back ∈ gtbl := tb4 (List.mem_of_getElem? (i := 158) (by decide +kernel)) rfl
theorem tw4_159 : Cond.selects RX7 yX7_back yX7_back ∈ gtbl := tb4 (List.mem_of_getElem? (i := 159) (by decide +kernel)) rfl
theorem tw4_160 : Cond.code yX7_back cX7_back 2 (some FieldType.int) ∈ gtbl := tb4 (List.mem_of_getElem? (i := 160) (rfl)) rfl
theorem tw4_161 : Cond.methodLink RL 148 yX7_count ∈ gtbl := tb4 (List.mem_of_getElem? (i := 161) (by decide +kernel)) rfl
theorem tw4_162 : Cond.instanceMethod yX7_count ∈ gtbl := tb4 (List.mem_of_getElem? (i := 162) (by decide +kernel)) rfl
theorem tw4_163 : Cond.selects RX7 yX7_count yX7_count ∈ gtbl := tb4 (List.mem_of_getElem? (i := 163) (by decide +kernel)) rfl
theorem tw4_164 : Cond.code yX7_count cX7_count 2 (some FieldType.int) ∈ gtbl := tb4 (List.mem_of_getElem? (i := 164) (rfl)) rfl
theorem tw4_165 : Cond.methodLink RL 152 yX7_status ∈ gtbl := tb4 (List.mem_of_getElem? (i := 165) (by decide +kernel)) rfl
theorem tw4_166 : Cond.instanceMethod yX7_status ∈ gtbl := tb4 (List.mem_of_getElem? (i := 166) (by decide +kernel)) rfl
theorem tw4_167 : Cond.selects RX7 yX7_status yX7_status ∈ gtbl := tb4 (List.mem_of_getElem? (i := 167) (by decide +kernel)) rfl
theorem tw4_168 : Cond.code yX7_status cX7_status 1 (some FieldType.int) ∈ gtbl := tb4 (List.mem_of_getElem? (i := 168) (rfl)) rfl
theorem tw4_169 : Cond.classLink RL 10 RX8 ∈ gtbl := tb4 (List.mem_of_getElem? (i := 169) (by decide +kernel)) rfl
theorem tw4_170 : Cond.instantiable RX8 59 ∈ gtbl := tb4 (List.mem_of_getElem? (i := 170) (by decide +kernel)) rfl
theorem tw4_171 : Cond.methodLink RL 12 yX8_init ∈ gtbl := tb4 (List.mem_of_getElem? (i := 171) (by decide +kernel)) rfl
theorem tw4_172 : Cond.instanceMethod yX8_init ∈ gtbl := tb4 (List.mem_of_getElem? (i := 172) (by decide +kernel)) rfl
theorem tw4_173 : Cond.code yX8_init cX8_init 1 none ∈ gtbl := tb4 (List.mem_of_getElem? (i := 173) (rfl)) rfl
theorem tw4_174 : Cond.methodLink RX8 22 (⟨"java/lang/Object", "<init>", "()V"⟩ : MethodName) ∈ gtbl := tb4 (List.mem_of_getElem? (i := 174) (by decide +kernel)) rfl
theorem tw4_175 : Cond.fieldLink RX8 3 RX8 "status" "I" ∈ gtbl := tb4 (List.mem_of_getElem? (i := 175) (by decide +kernel)) rfl
theorem tw4_176 : Cond.fieldLink RX8 7 RX8 "refused" "[I" ∈ gtbl := tb4 (List.mem_of_getElem? (i := 176) (by decide +kernel)) rfl
theorem tw4_177 : Cond.fieldLink RX8 28 RX8 "kept" "[I" ∈ gtbl := tb4 (List.mem_of_getElem? (i := 177) (by decide +kernel)) rfl
theorem tw4_178 : Cond.fieldLink RX8 31 RX8 "images" "[I" ∈ gtbl := tb4 (List.mem_of_getElem? (i := 178) (by decide +kernel)) rfl
theorem tw4_179 : Cond.fieldLink RX8 34 RX8 "hasImage" "[Z" ∈ gtbl := tb4 (List.mem_of_getElem? (i := 179) (by decide +kernel)) rfl
theorem tw4_180 : Cond.fieldLink RX8 38 RX8 "aside" "[I" ∈ gtbl := tb4 (List.mem_of_getElem? (i := 180) (by decide +kernel)) rfl
theorem tw4_181 : Cond.fieldLink RX8 148 RX8 "lisps0" "I" ∈ gtbl := tb4 (List.mem_of_getElem? (i := 181) (by decide +kernel)) rfl
theorem tw4_182 : Cond.fieldLink RX8 41 RX8 "words" "[B" ∈ gtbl := tb4 (List.mem_of_getElem? (i := 182) (by decide +kernel)) rfl
theorem tw4_183 : Cond.fieldLink RX8 223 RX8 "firstWord" "I" ∈ gtbl := tb4 (List.mem_of_getElem? (i := 183) (by decide +kernel)) rfl
theorem tw4_184 : Cond.fieldLink RX8 226 RX8 "lastWord" "I" ∈ gtbl := tb4 (List.mem_of_getElem? (i := 184) (by decide +kernel)) rfl
theorem tw4_185 : Cond.fieldLink RX8 197 RX8 "isOrders" "Z" ∈ gtbl := tb4 (List.mem_of_getElem? (i := 185) (by decide +kernel)) rfl
theorem tw4_186 : Cond.fieldLink RX8 45 RX8 "tape" "[B" ∈ gtbl := tb4 (List.mem_of_getElem? (i := 186) (by decide +kernel)) rfl
theorem tw4_187 : Cond.fieldLink RX8 48 RX8 "five" "[I" ∈ gtbl := tb4 (List.mem_of_getElem? (i := 187) (by decide +kernel)) rfl
theorem tw4_188 : Cond.fieldLink RX8 145 RX8 "taped" "I" ∈ gtbl := tb4 (List.mem_of_getElem? (i := 188) (by decide +kernel)) rfl
theorem tw4_189 : Cond.fieldLink RX8 51 RX8 "fault" "I" ∈ gtbl := tb4 (List.mem_of_getElem? (i := 189) (by decide +kernel)) rfl
theorem tw4_190 : Cond.fieldLink RX8 54 RX8 "code" "[I" ∈ gtbl := tb4 (List.mem_of_getElem? (i := 190) (by decide +kernel)) rfl
theorem tw4_191 : Cond.fieldLink RX8 57 RX8 "value" "[I" ∈ gtbl := tb4 (List.mem_of_getElem? (i := 191) (by decide +kernel)) rfl
theorem tw4_192 : Cond.fieldLink RX8 60 RX8 "placed" "[I" ∈ gtbl := tb4 (List.mem_of_getElem? (i := 192) (by decide +kernel)) rfl
theorem tw4_193 : Cond.fieldLink RX8 151 RX8 "tokens" "I" ∈ gtbl := tb4 (List.mem_of_getElem? (i := 193) (by decide +kernel)) rfl
theorem tw4_194 : Cond.fieldLink RX8 172 RX8 "token" "I" ∈ gtbl := tb4 (List.mem_of_getElem? (i := 194) (by decide +kernel)) rfl
theorem tw4_195 : Cond.fieldLink RX8 181 RX8 "leaves" "I" ∈ gtbl := tb4 (List.mem_of_getElem? (i := 195) (by decide +kernel)) rfl
theorem tw4_196 : Cond.fieldLink RX8 165 RX8 "bad" "I" ∈ gtbl := tb4 (List.mem_of_getElem? (i := 196) (by decide +kernel)) rfl
theorem tw4_197 : Cond.fieldLink RX8 254 RX8 "go" "I" ∈ gtbl := tb4 (List.mem_of_getElem? (i := 197) (by decide +kernel)) rfl
theorem tw4_198 : Cond.fieldLink RX8 251 RX8 "goEnd" "I" ∈ gtbl := tb4 (List.mem_of_getElem? (i := 198) (by decide +kernel)) rfl
theorem tw4_199 : Cond.fieldLink RX8 264 RX8 "broken" "Z" ∈ gtbl := tb4 (List.mem_of_getElem? (i := 199) (by decide +kernel)) rfl
theorem tw4_200 : Cond.fieldLink RX8 284 RX8 "inOrders" "Z" ∈ gtbl := tb4 (List.mem_of_getElem? (i := 200) (by decide +kernel)) rfl
theorem tw4_201 : Cond.fieldLink RX8 63 RX8 "asked" "[I" ∈ gtbl := tb4 (List.mem_of_getElem? (i := 201) (by decide +kernel)) rfl
theorem tw4_202 : Cond.fieldLink RX8 297 RX8 "orderDone" "I" ∈ gtbl := tb4 (List.mem_of_getElem? (i := 202) (by decide +kernel)) rfl
theorem tw4_203 : Cond.fieldLink RX8 300 RX8 "orderLatest" "I" ∈ gtbl := tb4 (List.mem_of_getElem? (i := 203) (by decide +kernel)) rfl
theorem tw4_204 : Cond.fieldLink RX8 66 RX8 "fallen" "[I" ∈ gtbl := tb4 (List.mem_of_getElem? (i := 204) (by decide +kernel)) rfl
theorem tw4_205 : Cond.fieldLink RX8 69 RX8 "left0" "[I" ∈ gtbl := tb4 (List.mem_of_getElem? (i := 205) (by decide +kernel)) rfl
theorem tw4_206 : Cond.fieldLink RX8 72 RX8 "leftAhead" "[I" ∈ gtbl := tb4 (List.mem_of_getElem? (i := 206) (by decide +kernel)) rfl
theorem tw4_207 : Cond.fieldLink RX8 11 RX8 "undoMany" "I" ∈ gtbl := tb4 (List.mem_of_getElem? (i := 207) (by decide +kernel)) rfl
theorem tw4_208 : Cond.fieldLink RX8 75 RX8 "outs" "[I" ∈ gtbl := tb4 (List.mem_of_getElem? (i := 208) (by decide +kernel)) rfl
theorem tw4_209 : Cond.fieldLink RX8 388 RX8 "outMany" "I" ∈ gtbl := tb4 (List.mem_of_getElem? (i := 209) (by decide +kernel)) rfl
theorem tw4_210 : Cond.fieldLink RX8 78 RX8 "leads" "[I" ∈ gtbl := tb4 (List.mem_of_getElem? (i := 210) (by decide +kernel)) rfl
theorem tw4_211 : Cond.fieldLink RX8 81 RX8 "queue" "[I" ∈ gtbl := tb4 (List.mem_of_getElem? (i := 211) (by decide +kernel)) rfl
theorem tw4_212 : Cond.fieldLink RX8 84 RX8 "aheadOf" "[I" ∈ gtbl := tb4 (List.mem_of_getElem? (i := 212) (by decide +kernel)) rfl
theorem tw4_213 : Cond.fieldLink RX8 87 RX8 "rhymeTo" "[I" ∈ gtbl := tb4 (List.mem_of_getElem? (i := 213) (by decide +kernel)) rfl
theorem tw4_214 : Cond.fieldLink RX8 90 RX8 "isReached" "[Z" ∈ gtbl := tb4 (List.mem_of_getElem? (i := 214) (by decide +kernel)) rfl
theorem tw4_215 : Cond.fieldLink RX8 412 RX8 "queueMany" "I" ∈ gtbl := tb4 (List.mem_of_getElem? (i := 215) (by decide +kernel)) rfl
theorem tw4_216 : Cond.fieldLink RX8 93 RX8 "path" "[I" ∈ gtbl := tb4 (List.mem_of_getElem? (i := 216) (by decide +kernel)) rfl
theorem tw4_217 : Cond.fieldLink RX8 96 RX8 "its" "[I" ∈ gtbl := tb4 (List.mem_of_getElem? (i := 217) (by decide +kernel)) rfl
theorem tw4_218 : Cond.fieldLink RX8 428 RX8 "chosen" "I" ∈ gtbl := tb4 (List.mem_of_getElem? (i := 218) (by decide +kernel)) rfl
theorem tw4_219 : Cond.fieldLink RX8 99 RX8 "parts" "[J" ∈ gtbl := tb4 (List.mem_of_getElem? (i := 219) (by decide +kernel)) rfl
theorem tw4_220 : Cond.fieldLink RX8 103 RX8 "row0" "[I" ∈ gtbl := tb4 (List.mem_of_getElem? (i := 220) (by decide +kernel)) rfl
theorem tw4_221 : Cond.fieldLink RX8 106 RX8 "stopped0" "I" ∈ gtbl := tb4 (List.mem_of_getElem? (i := 221) (by decide +kernel)) rfl
theorem tw4_222 : Cond.fieldLink RX8 470 RX8 "orderAt" "I" ∈ gtbl := tb4 (List.mem_of_getElem? (i := 222) (by decide +kernel)) rfl
theorem tw4_223 : Cond.fieldLink RX8 489 RX8 "timesOf" "I" ∈ gtbl := tb4 (List.mem_of_getElem? (i := 223) (by decide +kernel)) rfl
theorem tw4_224 : Cond.fieldLink RX8 479 RX8 "head" "I" ∈ gtbl := tb4 (List.mem_of_getElem? (i := 224) (by decide +kernel)) rfl
theorem tw4_225 : Cond.fieldLink RX8 464 RX8 "undoAhead" "I" ∈ gtbl := tb4 (List.mem_of_getElem? (i := 225) (by decide +kernel)) rfl
theorem tw4_226 : Cond.fieldLink RX8 486 RX8 "sumsAre" "Z" ∈ gtbl := tb4 (List.mem_of_getElem? (i := 226) (by decide +kernel)) rfl
theorem tw4_227 : Cond.fieldLink RX8 492 RX8 "testIs" "Z" ∈ gtbl := tb4 (List.mem_of_getElem? (i := 227) (by decide +kernel)) rfl
theorem tw4_228 : Cond.fieldLink RX8 482 RX8 "sum0" "J" ∈ gtbl := tb4 (List.mem_of_getElem? (i := 228) (by decide +kernel)) rfl
theorem tw4_229 : Cond.fieldLink RX8 109 RX8 "wins" "[I" ∈ gtbl := tb4 (List.mem_of_getElem? (i := 229) (by decide +kernel)) rfl
theorem tw4_230 : Cond.fieldLink RX8 112 RX8 "drawnMany" "I" ∈ gtbl := tb4 (List.mem_of_getElem? (i := 230) (by decide +kernel)) rfl
theorem tw4_231 : Cond.fieldLink RX8 529 RX8 "drawnInside" "I" ∈ gtbl := tb4 (List.mem_of_getElem? (i := 231) (by decide +kernel)) rfl
theorem tw4_232 : Cond.fieldLink RX8 517 RX8 "drawnRounds" "I" ∈ gtbl := tb4 (List.mem_of_getElem? (i := 232) (by decide +kernel)) rfl
theorem tw4_233 : Cond.fieldLink RX8 510 RX8 "latest" "I" ∈ gtbl := tb4 (List.mem_of_getElem? (i := 233) (by decide +kernel)) rfl
theorem tw4_234 : Cond.lays RX8 RX8 "status" "I" ∈ gtbl := tb4 (List.mem_of_getElem? (i := 234) (by decide +kernel)) rfl
theorem tw4_236 : Cond.laysFinal RX8 RX8 "refused" "[I" ∈ gtbl := tb4 (List.mem_of_getElem? (i := 236) (by decide +kernel)) rfl
theorem tw4_238 : Cond.laysFinal RX8 RX8 "kept" "[I" ∈ gtbl := tb4 (List.mem_of_getElem? (i := 238) (by decide +kernel)) rfl
theorem tw5_0 : Cond.laysFinal RX8 RX8 "images" "[I" ∈ gtbl := tb5 (List.mem_of_getElem? (i := 0) (by decide +kernel)) rfl
theorem tw5_2 : Cond.laysFinal RX8 RX8 "hasImage" "[Z" ∈ gtbl := tb5 (List.mem_of_getElem? (i := 2) (by decide +kernel)) rfl
theorem tw5_4 : Cond.laysFinal RX8 RX8 "aside" "[I" ∈ gtbl := tb5 (List.mem_of_getElem? (i := 4) (by decide +kernel)) rfl
theorem tw5_6 : Cond.lays RX8 RX8 "lisps0" "I" ∈ gtbl := tb5 (List.mem_of_getElem? (i := 6) (by decide +kernel)) rfl
theorem tw5_8 : Cond.laysFinal RX8 RX8 "words" "[B" ∈ gtbl := tb5 (List.mem_of_getElem? (i := 8) (by decide +kernel)) rfl
theorem tw5_10 : Cond.lays RX8 RX8 "firstWord" "I" ∈ gtbl := tb5 (List.mem_of_getElem? (i := 10) (by decide +kernel)) rfl
theorem tw5_12 : Cond.lays RX8 RX8 "lastWord" "I" ∈ gtbl := tb5 (List.mem_of_getElem? (i := 12) (by decide +kernel)) rfl
theorem tw5_14 : Cond.lays RX8 RX8 "isOrders" "Z" ∈ gtbl := tb5 (List.mem_of_getElem? (i := 14) (by decide +kernel)) rfl
theorem tw5_16 : Cond.laysFinal RX8 RX8 "tape" "[B" ∈ gtbl := tb5 (List.mem_of_getElem? (i := 16) (by decide +kernel)) rfl
theorem tw5_18 : Cond.laysFinal RX8 RX8 "five" "[I" ∈ gtbl := tb5 (List.mem_of_getElem? (i := 18) (by decide +kernel)) rfl
theorem tw5_20 : Cond.lays RX8 RX8 "taped" "I" ∈ gtbl := tb5 (List.mem_of_getElem? (i := 20) (by decide +kernel)) rfl
theorem tw5_22 : Cond.lays RX8 RX8 "fault" "I" ∈ gtbl := tb5 (List.mem_of_getElem? (i := 22) (by decide +kernel)) rfl
theorem tw5_24 : Cond.laysFinal RX8 RX8 "code" "[I" ∈ gtbl := tb5 (List.mem_of_getElem? (i := 24) (by decide +kernel)) rfl
theorem tw5_26 : Cond.laysFinal RX8 RX8 "value" "[I" ∈ gtbl := tb5 (List.mem_of_getElem? (i := 26) (by decide +kernel)) rfl
theorem tw5_28 : Cond.laysFinal RX8 RX8 "placed" "[I" ∈ gtbl := tb5 (List.mem_of_getElem? (i := 28) (by decide +kernel)) rfl
theorem tw5_30 : Cond.lays RX8 RX8 "tokens" "I" ∈ gtbl := tb5 (List.mem_of_getElem? (i := 30) (by decide +kernel)) rfl
theorem tw5_32 : Cond.lays RX8 RX8 "token" "I" ∈ gtbl := tb5 (List.mem_of_getElem? (i := 32) (by decide +kernel)) rfl
theorem tw5_34 : Cond.lays RX8 RX8 "leaves" "I" ∈ gtbl := tb5 (List.mem_of_getElem? (i := 34) (by decide +kernel)) rfl
theorem tw5_36 : Cond.lays RX8 RX8 "bad" "I" ∈ gtbl := tb5 (List.mem_of_getElem? (i := 36) (by decide +kernel)) rfl
theorem tw5_38 : Cond.lays RX8 RX8 "go" "I" ∈ gtbl := tb5 (List.mem_of_getElem? (i := 38) (by decide +kernel)) rfl
theorem tw5_40 : Cond.lays RX8 RX8 "goEnd" "I" ∈ gtbl := tb5 (List.mem_of_getElem? (i := 40) (by decide +kernel)) rfl
theorem tw5_42 : Cond.lays RX8 RX8 "broken" "Z" ∈ gtbl := tb5 (List.mem_of_getElem? (i := 42) (by decide +kernel)) rfl
theorem tw5_44 : Cond.lays RX8 RX8 "inOrders" "Z" ∈ gtbl := tb5 (List.mem_of_getElem? (i := 44) (by decide +kernel)) rfl
theorem tw5_46 : Cond.laysFinal RX8 RX8 "asked" "[I" ∈ gtbl := tb5 (List.mem_of_getElem? (i := 46) (by decide +kernel)) rfl
theorem tw5_48 : Cond.lays RX8 RX8 "orderDone" "I" ∈ gtbl := tb5 (List.mem_of_getElem? (i := 48) (by decide +kernel)) rfl
theorem tw5_50 : Cond.lays RX8 RX8 "orderLatest" "I" ∈ gtbl := tb5 (List.mem_of_getElem? (i := 50) (by decide +kernel)) rfl
theorem tw5_52 : Cond.laysFinal RX8 RX8 "fallen" "[I" ∈ gtbl := tb5 (List.mem_of_getElem? (i := 52) (by decide +kernel)) rfl
theorem tw5_54 : Cond.laysFinal RX8 RX8 "left0" "[I" ∈ gtbl := tb5 (List.mem_of_getElem? (i := 54) (by decide +kernel)) rfl
theorem tw5_56 : Cond.laysFinal RX8 RX8 "leftAhead" "[I" ∈ gtbl := tb5 (List.mem_of_getElem? (i := 56) (by decide +kernel)) rfl
theorem tw5_58 : Cond.lays RX8 RX8 "undoMany" "I" ∈ gtbl := tb5 (List.mem_of_getElem? (i := 58) (by decide +kernel)) rfl
theorem tw5_60 : Cond.laysFinal RX8 RX8 "outs" "[I" ∈ gtbl := tb5 (List.mem_of_getElem? (i := 60) (by decide +kernel)) rfl
theorem tw5_62 : Cond.lays RX8 RX8 "outMany" "I" ∈ gtbl := tb5 (List.mem_of_getElem? (i := 62) (by decide +kernel)) rfl
theorem tw5_64 : Cond.laysFinal RX8 RX8 "leads" "[I" ∈ gtbl := tb5 (List.mem_of_getElem? (i := 64) (by decide +kernel)) rfl
theorem tw5_66 : Cond.laysFinal RX8 RX8 "queue" "[I" ∈ gtbl := tb5 (List.mem_of_getElem? (i := 66) (by decide +kernel)) rfl
theorem tw5_68 : Cond.laysFinal RX8 RX8 "aheadOf" "[I" ∈ gtbl := tb5 (List.mem_of_getElem? (i := 68) (by decide +kernel)) rfl
theorem tw5_70 : Cond.laysFinal RX8 RX8 "rhymeTo" "[I" ∈ gtbl := tb5 (List.mem_of_getElem? (i := 70) (by decide +kernel)) rfl
theorem tw5_72 : Cond.laysFinal RX8 RX8 "isReached" "[Z" ∈ gtbl := tb5 (List.mem_of_getElem? (i := 72) (by decide +kernel)) rfl
theorem tw5_74 : Cond.lays RX8 RX8 "queueMany" "I" ∈ gtbl := tb5 (List.mem_of_getElem? (i := 74) (by decide +kernel)) rfl
theorem tw5_76 : Cond.laysFinal RX8 RX8 "path" "[I" ∈ gtbl := tb5 (List.mem_of_getElem? (i := 76) (by decide +kernel)) rfl
theorem tw5_78 : Cond.laysFinal RX8 RX8 "its" "[I" ∈ gtbl := tb5 (List.mem_of_getElem? (i := 78) (by decide +kernel)) rfl
theorem tw5_80 : Cond.lays RX8 RX8 "chosen" "I" ∈ gtbl := tb5 (List.mem_of_getElem? (i := 80) (by decide +kernel)) rfl
theorem tw5_82 : Cond.laysFinal RX8 RX8 "parts" "[J" ∈ gtbl := tb5 (List.mem_of_getElem? (i := 82) (by decide +kernel)) rfl
theorem tw5_84 : Cond.laysFinal RX8 RX8 "row0" "[I" ∈ gtbl := tb5 (List.mem_of_getElem? (i := 84) (by decide +kernel)) rfl
theorem tw5_86 : Cond.lays RX8 RX8 "stopped0" "I" ∈ gtbl := tb5 (List.mem_of_getElem? (i := 86) (by decide +kernel)) rfl
theorem tw5_88 : Cond.lays RX8 RX8 "orderAt" "I" ∈ gtbl := tb5 (List.mem_of_getElem? (i := 88) (by decide +kernel)) rfl
theorem tw5_90 : Cond.lays RX8 RX8 "timesOf" "I" ∈ gtbl := tb5 (List.mem_of_getElem? (i := 90) (by decide +kernel)) rfl
theorem tw5_92 : Cond.lays RX8 RX8 "head" "I" ∈ gtbl := tb5 (List.mem_of_getElem? (i := 92) (by decide +kernel)) rfl
theorem tw5_94 : Cond.lays RX8 RX8 "undoAhead" "I" ∈ gtbl := tb5 (List.mem_of_getElem? (i := 94) (by decide +kernel)) rfl
theorem tw5_96 : Cond.lays RX8 RX8 "sumsAre" "Z" ∈ gtbl := tb5 (List.mem_of_getElem? (i := 96) (by decide +kernel)) rfl
theorem tw5_98 : Cond.lays RX8 RX8 "testIs" "Z" ∈ gtbl := tb5 (List.mem_of_getElem? (i := 98) (by decide +kernel)) rfl
theorem tw5_100 : Cond.lays RX8 RX8 "sum0" "J" ∈ gtbl := tb5 (List.mem_of_getElem? (i := 100) (by decide +kernel)) rfl
theorem tw5_102 : Cond.laysFinal RX8 RX8 "wins" "[I" ∈ gtbl := tb5 (List.mem_of_getElem? (i := 102) (by decide +kernel)) rfl
theorem tw5_104 : Cond.lays RX8 RX8 "drawnMany" "I" ∈ gtbl := tb5 (List.mem_of_getElem? (i := 104) (by decide +kernel)) rfl
theorem tw5_106 : Cond.lays RX8 RX8 "drawnInside" "I" ∈ gtbl := tb5 (List.mem_of_getElem? (i := 106) (by decide +kernel)) rfl
theorem tw5_108 : Cond.lays RX8 RX8 "drawnRounds" "I" ∈ gtbl := tb5 (List.mem_of_getElem? (i := 108) (by decide +kernel)) rfl
theorem tw5_110 : Cond.lays RX8 RX8 "latest" "I" ∈ gtbl := tb5 (List.mem_of_getElem? (i := 110) (by decide +kernel)) rfl
theorem tw5_113 : Cond.arrayClass FieldType.boolean ∈ gtbl := tb5 (List.mem_of_getElem? (i := 113) (by decide +kernel)) rfl
theorem tw5_114 : Cond.methodLink RL 143 yX8_image ∈ gtbl := tb5 (List.mem_of_getElem? (i := 114) (by decide +kernel)) rfl
theorem tw5_115 : Cond.instanceMethod yX8_image ∈ gtbl := tb5 (List.mem_of_getElem? (i := 115) (by decide +kernel)) rfl
theorem tw5_116 : Cond.selects RX8 yX8_image yX8_image ∈ gtbl := tb5 (List.mem_of_getElem? (i := 116) (by decide +kernel)) rfl
theorem tw5_117 : Cond.code yX8_image cX8_image 3 (some FieldType.int) ∈ gtbl := tb5 (List.mem_of_getElem? (i := 117) (rfl)) rfl
theorem tw5_118 : Cond.methodLink RX8 115 yX8_lies ∈ gtbl := tb5 (List.mem_of_getElem? (i := 118) (by decide +kernel)) rfl
theorem tw5_119 : Cond.static yX8_lies ∈ gtbl := tb5 (List.mem_of_getElem? (i := 119) (by decide +kernel)) rfl
theorem tw5_120 : Cond.code yX8_lies cX8_lies 3 (some FieldType.boolean) ∈ gtbl := tb5 (List.mem_of_getElem? (i := 120) (rfl)) rfl
theorem tw5_121 : Cond.methodLink RX8 119 yX8_refuses ∈ gtbl := tb5 (List.mem_of_getElem? (i := 121) (by decide +kernel)) rfl
theorem tw5_123 : Cond.instanceMethod yX8_refuses ∈ gtbl := tb5 (List.mem_of_getElem? (i := 123) (by decide +kernel)) rfl
theorem tw5_124 : Cond.code yX8_refuses cX8_refuses 2 (some FieldType.int) ∈ gtbl := tb5 (List.mem_of_getElem? (i := 124) (rfl)) rfl
theorem tw5_125 : Cond.methodLink RX8 14 yX8_good ∈ gtbl := tb5 (List.mem_of_getElem? (i := 125) (by decide +kernel)) rfl
theorem tw5_127 : Cond.instanceMethod yX8_good ∈ gtbl := tb5 (List.mem_of_getElem? (i := 127) (by decide +kernel)) rfl
theorem tw5_128 : Cond.code yX8_good cX8_good 2 (some FieldType.int) ∈ gtbl := tb5 (List.mem_of_getElem? (i := 128) (rfl)) rfl
theorem tw5_129 : Cond.methodLink RL 147 yX8_back ∈ gtbl := tb5 (List.mem_of_getElem? (i := 129) (by decide +kernel)) rfl
theorem tw5_130 : Cond.instanceMethod yX8_back ∈ gtbl := tb5 (List.mem_of_getElem? (i := 130) (by decide +kernel)) rfl
theorem tw5_131 : Cond.selects RX8 yX8_back yX8_back ∈ gtbl := tb5 (List.mem_of_getElem? (i := 131) (by decide +kernel)) rfl
theorem tw5_132 : Cond.code yX8_back cX8_back 3 (some FieldType.int) ∈ gtbl := tb5 (List.mem_of_getElem? (i := 132) (rfl)) rfl
theorem tw5_133 : Cond.methodLink RX8 122 yX8_settled ∈ gtbl := tb5 (List.mem_of_getElem? (i := 133) (by decide +kernel)) rfl
theorem tw5_135 : Cond.instanceMethod yX8_settled ∈ gtbl := tb5 (List.mem_of_getElem? (i := 135) (by decide +kernel)) rfl
theorem tw5_136 : Cond.code yX8_settled cX8_settled 2 (some FieldType.int) ∈ gtbl := tb5 (List.mem_of_getElem? (i := 136) (rfl)) rfl
theorem tw5_137 : Cond.methodLink RL 17 yX8_child ∈ gtbl := tb5 (List.mem_of_getElem? (i := 137) (by decide +kernel)) rfl
theorem tw5_138 : Cond.instanceMethod yX8_child ∈ gtbl := tb5 (List.mem_of_getElem? (i := 138) (by decide +kernel)) rfl
theorem tw5_139 : Cond.selects RX8 yX8_child yX8_child ∈ gtbl := tb5 (List.mem_of_getElem? (i := 139) (by decide +kernel)) rfl
theorem tw5_140 : Cond.code yX8_child cX8_child 2 (some FieldType.int) ∈ gtbl := tb5 (List.mem_of_getElem? (i := 140) (rfl)) rfl
theorem tw5_141 : Cond.methodLink RX8 128 yX8_addsChild ∈ gtbl := tb5 (List.mem_of_getElem? (i := 141) (by decide +kernel)) rfl
theorem tw5_143 : Cond.instanceMethod yX8_addsChild ∈ gtbl := tb5 (List.mem_of_getElem? (i := 143) (by decide +kernel)) rfl
theorem tw5_144 : Cond.code yX8_addsChild cX8_addsChild 3 none ∈ gtbl := tb5 (List.mem_of_getElem? (i := 144) (rfl)) rfl
theorem tw5_145 : Cond.methodLink RL 22 yX8_of ∈ gtbl := tb5 (List.mem_of_getElem? (i := 145) (by decide +kernel)) rfl
theorem tw5_146 : Cond.instanceMethod yX8_of ∈ gtbl := tb5 (List.mem_of_getElem? (i := 146) (by decide +kernel)) rfl
theorem tw5_147 : Cond.selects RX8 yX8_of yX8_of ∈ gtbl := tb5 (List.mem_of_getElem? (i := 147) (by decide +kernel)) rfl
theorem tw5_148 : Cond.code yX8_of cX8_of 3 (some FieldType.int) ∈ gtbl := tb5 (List.mem_of_getElem? (i := 148) (rfl)) rfl
theorem tw5_149 : Cond.methodLink RX8 132 yX8_isChild ∈ gtbl := tb5 (List.mem_of_getElem? (i := 149) (by decide +kernel)) rfl
theorem tw5_151 : Cond.instanceMethod yX8_isChild ∈ gtbl := tb5 (List.mem_of_getElem? (i := 151) (by decide +kernel)) rfl
theorem tw5_152 : Cond.code yX8_isChild cX8_isChild 2 (some FieldType.boolean) ∈ gtbl := tb5 (List.mem_of_getElem? (i := 152) (rfl)) rfl
theorem tw5_153 : Cond.methodLink RL 26 yX8_rhyme ∈ gtbl := tb5 (List.mem_of_getElem? (i := 153) (by decide +kernel)) rfl
theorem tw5_154 : Cond.instanceMethod yX8_rhyme ∈ gtbl := tb5 (List.mem_of_getElem? (i := 154) (by decide +kernel)) rfl
theorem tw5_155 : Cond.selects RX8 yX8_rhyme yX8_rhyme ∈ gtbl := tb5 (List.mem_of_getElem? (i := 155) (by decide +kernel)) rfl
theorem tw5_156 : Cond.code yX8_rhyme cX8_rhyme 3 (some FieldType.int) ∈ gtbl := tb5 (List.mem_of_getElem? (i := 156) (rfl)) rfl
theorem tw5_157 : Cond.methodLink RL 30 yX8_beats ∈ gtbl := tb5 (List.mem_of_getElem? (i := 157) (by decide +kernel)) rfl
theorem tw5_158 : Cond.instanceMethod yX8_beats ∈ gtbl := tb5 (List.mem_of_getElem? (i := 158) (by decide +kernel)) rfl
theorem tw5_159 : Cond.selects RX8 yX8_beats yX8_beats ∈ gtbl := tb5 (List.mem_of_getElem? (i := 159) (by decide +kernel)) rfl
theorem tw5_160 : Cond.code yX8_beats cX8_beats 2 (some FieldType.int) ∈ gtbl := tb5 (List.mem_of_getElem? (i := 160) (rfl)) rfl
theorem tw5_161 : Cond.methodLink RX8 136 yX8_isRhyme ∈ gtbl := tb5 (List.mem_of_getElem? (i := 161) (by decide +kernel)) rfl
theorem tw5_163 : Cond.instanceMethod yX8_isRhyme ∈ gtbl := tb5 (List.mem_of_getElem? (i := 163) (by decide +kernel)) rfl
theorem tw5_164 : Cond.code yX8_isRhyme cX8_isRhyme 2 (some FieldType.boolean) ∈ gtbl := tb5 (List.mem_of_getElem? (i := 164) (rfl)) rfl
theorem tw5_165 : Cond.methodLink RL 39 yX8_terms ∈ gtbl := tb5 (List.mem_of_getElem? (i := 165) (by decide +kernel)) rfl
theorem tw5_166 : Cond.instanceMethod yX8_terms ∈ gtbl := tb5 (List.mem_of_getElem? (i := 166) (by decide +kernel)) rfl
theorem tw5_167 : Cond.selects RX8 yX8_terms yX8_terms ∈ gtbl := tb5 (List.mem_of_getElem? (i := 167) (by decide +kernel)) rfl
theorem tw5_168 : Cond.code yX8_terms cX8_terms 4 (some FieldType.int) ∈ gtbl := tb5 (List.mem_of_getElem? (i := 168) (rfl)) rfl
theorem tw5_169 : Cond.methodLink RX8 139 yX8_isTerm ∈ gtbl := tb5 (List.mem_of_getElem? (i := 169) (by decide +kernel)) rfl
theorem tw5_170 : Cond.static yX8_isTerm ∈ gtbl := tb5 (List.mem_of_getElem? (i := 170) (by decide +kernel)) rfl
theorem tw5_171 : Cond.code yX8_isTerm cX8_isTerm 2 (some FieldType.boolean) ∈ gtbl := tb5 (List.mem_of_getElem? (i := 171) (rfl)) rfl
theorem tw5_172 : Cond.methodLink RX8 142 yX8_termAt ∈ gtbl := tb5 (List.mem_of_getElem? (i := 172) (by decide +kernel)) rfl
theorem tw5_173 : Cond.static yX8_termAt ∈ gtbl := tb5 (List.mem_of_getElem? (i := 173) (by decide +kernel)) rfl
theorem tw5_174 : Cond.code yX8_termAt cX8_termAt 1 (some FieldType.int) ∈ gtbl := tb5 (List.mem_of_getElem? (i := 174) (rfl)) rfl
theorem tw5_175 : Cond.methodLink RL 53 yX8_row ∈ gtbl := tb5 (List.mem_of_getElem? (i := 175) (by decide +kernel)) rfl
theorem tw5_176 : Cond.instanceMethod yX8_row ∈ gtbl := tb5 (List.mem_of_getElem? (i := 176) (by decide +kernel)) rfl
theorem tw5_177 : Cond.selects RX8 yX8_row yX8_row ∈ gtbl := tb5 (List.mem_of_getElem? (i := 177) (by decide +kernel)) rfl
theorem tw5_178 : Cond.code yX8_row cX8_row 5 (some FieldType.int) ∈ gtbl := tb5 (List.mem_of_getElem? (i := 178) (rfl)) rfl
theorem tw5_179 : Cond.methodLink RL 57 yX8_lisps ∈ gtbl := tb5 (List.mem_of_getElem? (i := 179) (by decide +kernel)) rfl
theorem tw5_180 : Cond.instanceMethod yX8_lisps ∈ gtbl := tb5 (List.mem_of_getElem? (i := 180) (by decide +kernel)) rfl
theorem tw5_181 : Cond.selects RX8 yX8_lisps yX8_lisps ∈ gtbl := tb5 (List.mem_of_getElem? (i := 181) (by decide +kernel)) rfl
theorem tw5_182 : Cond.code yX8_lisps cX8_lisps 1 (some FieldType.int) ∈ gtbl := tb5 (List.mem_of_getElem? (i := 182) (rfl)) rfl
theorem tw5_183 : Cond.methodLink RL 44 yX8_feed ∈ gtbl := tb5 (List.mem_of_getElem? (i := 183) (by decide +kernel)) rfl
theorem tw5_184 : Cond.instanceMethod yX8_feed ∈ gtbl := tb5 (List.mem_of_getElem? (i := 184) (by decide +kernel)) rfl
theorem tw5_185 : Cond.selects RX8 yX8_feed yX8_feed ∈ gtbl := tb5 (List.mem_of_getElem? (i := 185) (by decide +kernel)) rfl
theorem tw5_186 : Cond.code yX8_feed cX8_feed 7 (some FieldType.int) ∈ gtbl := tb5 (List.mem_of_getElem? (i := 186) (rfl)) rfl
theorem tw5_187 : Cond.methodLink RL 48 yX8_end ∈ gtbl := tb5 (List.mem_of_getElem? (i := 187) (by decide +kernel)) rfl
theorem tw5_188 : Cond.instanceMethod yX8_end ∈ gtbl := tb5 (List.mem_of_getElem? (i := 188) (by decide +kernel)) rfl
theorem tw5_189 : Cond.selects RX8 yX8_end yX8_end ∈ gtbl := tb5 (List.mem_of_getElem? (i := 189) (by decide +kernel)) rfl
theorem tw5_190 : Cond.code yX8_end cX8_end 2 (some FieldType.int) ∈ gtbl := tb5 (List.mem_of_getElem? (i := 190) (rfl)) rfl
theorem tw5_191 : Cond.methodLink RL 61 yX8_law ∈ gtbl := tb5 (List.mem_of_getElem? (i := 191) (by decide +kernel)) rfl
theorem tw5_192 : Cond.instanceMethod yX8_law ∈ gtbl := tb5 (List.mem_of_getElem? (i := 192) (by decide +kernel)) rfl
theorem tw5_193 : Cond.selects RX8 yX8_law yX8_law ∈ gtbl := tb5 (List.mem_of_getElem? (i := 193) (by decide +kernel)) rfl
theorem tw5_194 : Cond.code yX8_law cX8_law 1 (some FieldType.int) ∈ gtbl := tb5 (List.mem_of_getElem? (i := 194) (rfl)) rfl
theorem tw5_195 : Cond.methodLink RX8 241 yX8_readsAs ∈ gtbl := tb5 (List.mem_of_getElem? (i := 195) (by decide +kernel)) rfl
theorem tw5_197 : Cond.instanceMethod yX8_readsAs ∈ gtbl := tb5 (List.mem_of_getElem? (i := 197) (by decide +kernel)) rfl
theorem tw5_198 : Cond.code yX8_readsAs cX8_readsAs 2 (some FieldType.boolean) ∈ gtbl := tb5 (List.mem_of_getElem? (i := 198) (rfl)) rfl
theorem tw5_199 : Cond.methodLink RX8 238 yX8_reads ∈ gtbl := tb5 (List.mem_of_getElem? (i := 199) (by decide +kernel)) rfl
theorem tw5_201 : Cond.instanceMethod yX8_reads ∈ gtbl := tb5 (List.mem_of_getElem? (i := 201) (by decide +kernel)) rfl
theorem tw5_202 : Cond.code yX8_reads cX8_reads 2 (some FieldType.boolean) ∈ gtbl := tb5 (List.mem_of_getElem? (i := 202) (rfl)) rfl
theorem tw5_203 : Cond.methodLink RX8 232 yX8_splits ∈ gtbl := tb5 (List.mem_of_getElem? (i := 203) (by decide +kernel)) rfl
theorem tw5_205 : Cond.instanceMethod yX8_splits ∈ gtbl := tb5 (List.mem_of_getElem? (i := 205) (by decide +kernel)) rfl
theorem tw5_206 : Cond.code yX8_splits cX8_splits 6 none ∈ gtbl := tb5 (List.mem_of_getElem? (i := 206) (rfl)) rfl
theorem tw5_207 : Cond.methodLink RX8 154 yX8_isSmall ∈ gtbl := tb5 (List.mem_of_getElem? (i := 207) (by decide +kernel)) rfl
theorem tw5_208 : Cond.static yX8_isSmall ∈ gtbl := tb5 (List.mem_of_getElem? (i := 208) (by decide +kernel)) rfl
theorem tw5_209 : Cond.code yX8_isSmall cX8_isSmall 1 (some FieldType.boolean) ∈ gtbl := tb5 (List.mem_of_getElem? (i := 209) (rfl)) rfl
theorem tw5_210 : Cond.methodLink RX8 157 yX8_isDigit ∈ gtbl := tb5 (List.mem_of_getElem? (i := 210) (by decide +kernel)) rfl
theorem tw5_211 : Cond.static yX8_isDigit ∈ gtbl := tb5 (List.mem_of_getElem? (i := 211) (by decide +kernel)) rfl
theorem tw5_212 : Cond.code yX8_isDigit cX8_isDigit 1 (some FieldType.boolean) ∈ gtbl := tb5 (List.mem_of_getElem? (i := 212) (rfl)) rfl
theorem tw5_213 : Cond.methodLink RX8 160 yX8_wordOf ∈ gtbl := tb5 (List.mem_of_getElem? (i := 213) (by decide +kernel)) rfl
theorem tw5_215 : Cond.instanceMethod yX8_wordOf ∈ gtbl := tb5 (List.mem_of_getElem? (i := 215) (by decide +kernel)) rfl
theorem tw5_216 : Cond.code yX8_wordOf cX8_wordOf 8 (some FieldType.int) ∈ gtbl := tb5 (List.mem_of_getElem? (i := 216) (rfl)) rfl
theorem tw5_217 : Cond.constant RX8 164 (1000000 : Int32) ∈ gtbl := tb5 (List.mem_of_getElem? (i := 217) (by decide +kernel)) rfl
theorem tw5_218 : Cond.methodLink RX8 235 yX8_readOne ∈ gtbl := tb5 (List.mem_of_getElem? (i := 218) (by decide +kernel)) rfl
theorem tw5_220 : Cond.instanceMethod yX8_readOne ∈ gtbl := tb5 (List.mem_of_getElem? (i := 220) (by decide +kernel)) rfl
theorem tw5_221 : Cond.code yX8_readOne cX8_readOne 1 none ∈ gtbl := tb5 (List.mem_of_getElem? (i := 221) (rfl)) rfl
theorem tw5_222 : Cond.methodLink RX8 201 yX8_readOrder ∈ gtbl := tb5 (List.mem_of_getElem? (i := 222) (by decide +kernel)) rfl
theorem tw5_224 : Cond.instanceMethod yX8_readOrder ∈ gtbl := tb5 (List.mem_of_getElem? (i := 224) (by decide +kernel)) rfl
theorem tw5_225 : Cond.code yX8_readOrder cX8_readOrder 1 none ∈ gtbl := tb5 (List.mem_of_getElem? (i := 225) (rfl)) rfl
theorem tw5_226 : Cond.methodLink RX8 175 yX8_takes0 ∈ gtbl := tb5 (List.mem_of_getElem? (i := 226) (by decide +kernel)) rfl
theorem tw5_228 : Cond.instanceMethod yX8_takes0 ∈ gtbl := tb5 (List.mem_of_getElem? (i := 228) (by decide +kernel)) rfl
theorem tw5_229 : Cond.code yX8_takes0 cX8_takes0 3 (some FieldType.boolean) ∈ gtbl := tb5 (List.mem_of_getElem? (i := 229) (rfl)) rfl
theorem tw5_230 : Cond.methodLink RX8 168 yX8_fine ∈ gtbl := tb5 (List.mem_of_getElem? (i := 230) (by decide +kernel)) rfl
theorem tw5_232 : Cond.instanceMethod yX8_fine ∈ gtbl := tb5 (List.mem_of_getElem? (i := 232) (by decide +kernel)) rfl
theorem tw5_233 : Cond.code yX8_fine cX8_fine 1 (some FieldType.boolean) ∈ gtbl := tb5 (List.mem_of_getElem? (i := 233) (rfl)) rfl
theorem tw5_234 : Cond.methodLink RX8 184 yX8_readSum ∈ gtbl := tb5 (List.mem_of_getElem? (i := 234) (by decide +kernel)) rfl
theorem tw5_236 : Cond.instanceMethod yX8_readSum ∈ gtbl := tb5 (List.mem_of_getElem? (i := 236) (by decide +kernel)) rfl
theorem tw5_237 : Cond.code yX8_readSum cX8_readSum 2 none ∈ gtbl := tb5 (List.mem_of_getElem? (i := 237) (rfl)) rfl
theorem tw5_238 : Cond.methodLink RX8 217 yX8_readTerm ∈ gtbl := tb5 (List.mem_of_getElem? (i := 238) (by decide +kernel)) rfl
theorem tw6_0 : Cond.instanceMethod yX8_readTerm ∈ gtbl := tb6 (List.mem_of_getElem? (i := 0) (by decide +kernel)) rfl
theorem tw6_1 : Cond.code yX8_readTerm cX8_readTerm 2 none ∈ gtbl := tb6 (List.mem_of_getElem? (i := 1) (rfl)) rfl
theorem tw6_2 : Cond.methodLink RX8 220 yX8_readPart ∈ gtbl := tb6 (List.mem_of_getElem? (i := 2) (by decide +kernel)) rfl
theorem tw6_4 : Cond.instanceMethod yX8_readPart ∈ gtbl := tb6 (List.mem_of_getElem? (i := 4) (by decide +kernel)) rfl
theorem tw6_5 : Cond.code yX8_readPart cX8_readPart 3 none ∈ gtbl := tb6 (List.mem_of_getElem? (i := 5) (rfl)) rfl
theorem tw6_6 : Cond.methodLink RX8 213 yX8_sign ∈ gtbl := tb6 (List.mem_of_getElem? (i := 6) (by decide +kernel)) rfl
theorem tw6_7 : Cond.static yX8_sign ∈ gtbl := tb6 (List.mem_of_getElem? (i := 7) (by decide +kernel)) rfl
theorem tw6_8 : Cond.code yX8_sign cX8_sign 1 (some FieldType.int) ∈ gtbl := tb6 (List.mem_of_getElem? (i := 8) (rfl)) rfl
theorem tw6_9 : Cond.methodLink RX8 178 yX8_faults ∈ gtbl := tb6 (List.mem_of_getElem? (i := 9) (by decide +kernel)) rfl
theorem tw6_11 : Cond.instanceMethod yX8_faults ∈ gtbl := tb6 (List.mem_of_getElem? (i := 11) (by decide +kernel)) rfl
theorem tw6_12 : Cond.code yX8_faults cX8_faults 1 none ∈ gtbl := tb6 (List.mem_of_getElem? (i := 12) (rfl)) rfl
theorem tw6_13 : Cond.methodLink RX8 187 yX8_must ∈ gtbl := tb6 (List.mem_of_getElem? (i := 13) (by decide +kernel)) rfl
theorem tw6_15 : Cond.instanceMethod yX8_must ∈ gtbl := tb6 (List.mem_of_getElem? (i := 15) (by decide +kernel)) rfl
theorem tw6_16 : Cond.code yX8_must cX8_must 2 none ∈ gtbl := tb6 (List.mem_of_getElem? (i := 16) (rfl)) rfl
theorem tw6_17 : Cond.methodLink RX8 229 yX8_leaf ∈ gtbl := tb6 (List.mem_of_getElem? (i := 17) (by decide +kernel)) rfl
theorem tw6_19 : Cond.instanceMethod yX8_leaf ∈ gtbl := tb6 (List.mem_of_getElem? (i := 19) (by decide +kernel)) rfl
theorem tw6_20 : Cond.code yX8_leaf cX8_leaf 1 none ∈ gtbl := tb6 (List.mem_of_getElem? (i := 20) (rfl)) rfl
theorem tw6_21 : Cond.methodLink RX8 193 yX8_mustNumber ∈ gtbl := tb6 (List.mem_of_getElem? (i := 21) (by decide +kernel)) rfl
theorem tw6_23 : Cond.instanceMethod yX8_mustNumber ∈ gtbl := tb6 (List.mem_of_getElem? (i := 23) (by decide +kernel)) rfl
theorem tw6_24 : Cond.code yX8_mustNumber cX8_mustNumber 3 none ∈ gtbl := tb6 (List.mem_of_getElem? (i := 24) (rfl)) rfl
theorem tw6_25 : Cond.methodLink RX8 190 yX8_readTest ∈ gtbl := tb6 (List.mem_of_getElem? (i := 25) (by decide +kernel)) rfl
theorem tw6_27 : Cond.instanceMethod yX8_readTest ∈ gtbl := tb6 (List.mem_of_getElem? (i := 27) (by decide +kernel)) rfl
theorem tw6_28 : Cond.code yX8_readTest cX8_readTest 2 none ∈ gtbl := tb6 (List.mem_of_getElem? (i := 28) (rfl)) rfl
theorem tw6_29 : Cond.methodLink RX8 207 yX8_readBoth ∈ gtbl := tb6 (List.mem_of_getElem? (i := 29) (by decide +kernel)) rfl
theorem tw6_31 : Cond.instanceMethod yX8_readBoth ∈ gtbl := tb6 (List.mem_of_getElem? (i := 31) (by decide +kernel)) rfl
theorem tw6_32 : Cond.code yX8_readBoth cX8_readBoth 2 none ∈ gtbl := tb6 (List.mem_of_getElem? (i := 32) (rfl)) rfl
theorem tw6_33 : Cond.methodLink RX8 210 yX8_readPlain ∈ gtbl := tb6 (List.mem_of_getElem? (i := 33) (by decide +kernel)) rfl
theorem tw6_35 : Cond.instanceMethod yX8_readPlain ∈ gtbl := tb6 (List.mem_of_getElem? (i := 35) (by decide +kernel)) rfl
theorem tw6_36 : Cond.code yX8_readPlain cX8_readPlain 4 none ∈ gtbl := tb6 (List.mem_of_getElem? (i := 36) (rfl)) rfl
theorem tw6_37 : Cond.methodLink RX8 204 yX8_readClause ∈ gtbl := tb6 (List.mem_of_getElem? (i := 37) (by decide +kernel)) rfl
theorem tw6_39 : Cond.instanceMethod yX8_readClause ∈ gtbl := tb6 (List.mem_of_getElem? (i := 39) (by decide +kernel)) rfl
theorem tw6_40 : Cond.code yX8_readClause cX8_readClause 1 none ∈ gtbl := tb6 (List.mem_of_getElem? (i := 40) (rfl)) rfl
theorem tw6_41 : Cond.methodLink RX8 245 yX8_lays ∈ gtbl := tb6 (List.mem_of_getElem? (i := 41) (by decide +kernel)) rfl
theorem tw6_43 : Cond.instanceMethod yX8_lays ∈ gtbl := tb6 (List.mem_of_getElem? (i := 43) (by decide +kernel)) rfl
theorem tw6_44 : Cond.code yX8_lays cX8_lays 3 none ∈ gtbl := tb6 (List.mem_of_getElem? (i := 44) (rfl)) rfl
theorem tw6_45 : Cond.methodLink RL 69 yX8_fault ∈ gtbl := tb6 (List.mem_of_getElem? (i := 45) (by decide +kernel)) rfl
theorem tw6_46 : Cond.instanceMethod yX8_fault ∈ gtbl := tb6 (List.mem_of_getElem? (i := 46) (by decide +kernel)) rfl
theorem tw6_47 : Cond.selects RX8 yX8_fault yX8_fault ∈ gtbl := tb6 (List.mem_of_getElem? (i := 47) (by decide +kernel)) rfl
theorem tw6_48 : Cond.code yX8_fault cX8_fault 1 (some FieldType.int) ∈ gtbl := tb6 (List.mem_of_getElem? (i := 48) (rfl)) rfl
theorem tw6_49 : Cond.methodLink RL 77 yX8_force ∈ gtbl := tb6 (List.mem_of_getElem? (i := 49) (by decide +kernel)) rfl
theorem tw6_50 : Cond.instanceMethod yX8_force ∈ gtbl := tb6 (List.mem_of_getElem? (i := 50) (by decide +kernel)) rfl
theorem tw6_51 : Cond.selects RX8 yX8_force yX8_force ∈ gtbl := tb6 (List.mem_of_getElem? (i := 51) (by decide +kernel)) rfl
theorem tw6_52 : Cond.code yX8_force cX8_force 3 (some FieldType.int) ∈ gtbl := tb6 (List.mem_of_getElem? (i := 52) (rfl)) rfl
theorem tw6_53 : Cond.methodLink RX8 248 yX8_isLaw ∈ gtbl := tb6 (List.mem_of_getElem? (i := 53) (by decide +kernel)) rfl
theorem tw6_55 : Cond.instanceMethod yX8_isLaw ∈ gtbl := tb6 (List.mem_of_getElem? (i := 55) (by decide +kernel)) rfl
theorem tw6_56 : Cond.code yX8_isLaw cX8_isLaw 2 (some FieldType.boolean) ∈ gtbl := tb6 (List.mem_of_getElem? (i := 56) (rfl)) rfl
theorem tw6_57 : Cond.methodLink RL 35 yX8_asks ∈ gtbl := tb6 (List.mem_of_getElem? (i := 57) (by decide +kernel)) rfl
theorem tw6_58 : Cond.instanceMethod yX8_asks ∈ gtbl := tb6 (List.mem_of_getElem? (i := 58) (by decide +kernel)) rfl
theorem tw6_59 : Cond.selects RX8 yX8_asks yX8_asks ∈ gtbl := tb6 (List.mem_of_getElem? (i := 59) (by decide +kernel)) rfl
theorem tw6_60 : Cond.code yX8_asks cX8_asks 5 (some FieldType.int) ∈ gtbl := tb6 (List.mem_of_getElem? (i := 60) (rfl)) rfl
theorem tw6_61 : Cond.methodLink RX8 293 yX8_inside ∈ gtbl := tb6 (List.mem_of_getElem? (i := 61) (by decide +kernel)) rfl
theorem tw6_63 : Cond.instanceMethod yX8_inside ∈ gtbl := tb6 (List.mem_of_getElem? (i := 63) (by decide +kernel)) rfl
theorem tw6_64 : Cond.code yX8_inside cX8_inside 1 (some FieldType.int) ∈ gtbl := tb6 (List.mem_of_getElem? (i := 64) (rfl)) rfl
theorem tw6_65 : Cond.methodLink RX8 125 yX8_ones ∈ gtbl := tb6 (List.mem_of_getElem? (i := 65) (by decide +kernel)) rfl
theorem tw6_66 : Cond.static yX8_ones ∈ gtbl := tb6 (List.mem_of_getElem? (i := 66) (by decide +kernel)) rfl
theorem tw6_67 : Cond.code yX8_ones cX8_ones 3 (some FieldType.int) ∈ gtbl := tb6 (List.mem_of_getElem? (i := 67) (rfl)) rfl
theorem tw6_68 : Cond.methodLink RX8 325 yX8_beatsOf ∈ gtbl := tb6 (List.mem_of_getElem? (i := 68) (by decide +kernel)) rfl
theorem tw6_70 : Cond.instanceMethod yX8_beatsOf ∈ gtbl := tb6 (List.mem_of_getElem? (i := 70) (by decide +kernel)) rfl
theorem tw6_71 : Cond.code yX8_beatsOf cX8_beatsOf 4 (some FieldType.int) ∈ gtbl := tb6 (List.mem_of_getElem? (i := 71) (rfl)) rfl
theorem tw6_72 : Cond.methodLink RX8 321 yX8_tells ∈ gtbl := tb6 (List.mem_of_getElem? (i := 72) (by decide +kernel)) rfl
theorem tw6_74 : Cond.instanceMethod yX8_tells ∈ gtbl := tb6 (List.mem_of_getElem? (i := 74) (by decide +kernel)) rfl
theorem tw6_75 : Cond.code yX8_tells cX8_tells 14 (some FieldType.int) ∈ gtbl := tb6 (List.mem_of_getElem? (i := 75) (rfl)) rfl
theorem tw6_76 : Cond.methodLink RX8 315 yX8_setsAsked ∈ gtbl := tb6 (List.mem_of_getElem? (i := 76) (by decide +kernel)) rfl
theorem tw6_78 : Cond.instanceMethod yX8_setsAsked ∈ gtbl := tb6 (List.mem_of_getElem? (i := 78) (by decide +kernel)) rfl
theorem tw6_79 : Cond.code yX8_setsAsked cX8_setsAsked 5 none ∈ gtbl := tb6 (List.mem_of_getElem? (i := 79) (rfl)) rfl
theorem tw6_80 : Cond.methodLink RX8 257 yX8_codeAt ∈ gtbl := tb6 (List.mem_of_getElem? (i := 80) (by decide +kernel)) rfl
theorem tw6_82 : Cond.instanceMethod yX8_codeAt ∈ gtbl := tb6 (List.mem_of_getElem? (i := 82) (by decide +kernel)) rfl
theorem tw6_83 : Cond.code yX8_codeAt cX8_codeAt 2 (some FieldType.int) ∈ gtbl := tb6 (List.mem_of_getElem? (i := 83) (rfl)) rfl
theorem tw6_84 : Cond.methodLink RX8 281 yX8_sumOf ∈ gtbl := tb6 (List.mem_of_getElem? (i := 84) (by decide +kernel)) rfl
theorem tw6_86 : Cond.instanceMethod yX8_sumOf ∈ gtbl := tb6 (List.mem_of_getElem? (i := 86) (by decide +kernel)) rfl
theorem tw6_87 : Cond.code yX8_sumOf cX8_sumOf 7 (some FieldType.long) ∈ gtbl := tb6 (List.mem_of_getElem? (i := 87) (rfl)) rfl
theorem tw6_88 : Cond.methodLink RX8 267 yX8_termOf ∈ gtbl := tb6 (List.mem_of_getElem? (i := 88) (by decide +kernel)) rfl
theorem tw6_90 : Cond.instanceMethod yX8_termOf ∈ gtbl := tb6 (List.mem_of_getElem? (i := 90) (by decide +kernel)) rfl
theorem tw6_91 : Cond.code yX8_termOf cX8_termOf 7 (some FieldType.long) ∈ gtbl := tb6 (List.mem_of_getElem? (i := 91) (rfl)) rfl
theorem tw6_92 : Cond.methodLink RX8 275 yX8_partOf ∈ gtbl := tb6 (List.mem_of_getElem? (i := 92) (by decide +kernel)) rfl
theorem tw6_94 : Cond.instanceMethod yX8_partOf ∈ gtbl := tb6 (List.mem_of_getElem? (i := 94) (by decide +kernel)) rfl
theorem tw6_95 : Cond.code yX8_partOf cX8_partOf 4 (some FieldType.long) ∈ gtbl := tb6 (List.mem_of_getElem? (i := 95) (rfl)) rfl
theorem tw6_96 : Cond.methodLink RX8 278 yX8_passes0 ∈ gtbl := tb6 (List.mem_of_getElem? (i := 96) (by decide +kernel)) rfl
theorem tw6_98 : Cond.instanceMethod yX8_passes0 ∈ gtbl := tb6 (List.mem_of_getElem? (i := 98) (by decide +kernel)) rfl
theorem tw6_99 : Cond.code yX8_passes0 cX8_passes0 3 (some FieldType.boolean) ∈ gtbl := tb6 (List.mem_of_getElem? (i := 99) (rfl)) rfl
theorem tw6_100 : Cond.methodLink RX8 287 yX8_orderValue ∈ gtbl := tb6 (List.mem_of_getElem? (i := 100) (by decide +kernel)) rfl
theorem tw6_102 : Cond.instanceMethod yX8_orderValue ∈ gtbl := tb6 (List.mem_of_getElem? (i := 102) (by decide +kernel)) rfl
theorem tw6_103 : Cond.code yX8_orderValue cX8_orderValue 3 (some FieldType.int) ∈ gtbl := tb6 (List.mem_of_getElem? (i := 103) (rfl)) rfl
theorem tw6_104 : Cond.methodLink RX8 290 yX8_of ∈ gtbl := tb6 (List.mem_of_getElem? (i := 104) (by decide +kernel)) rfl
theorem tw6_105 : Cond.methodLink RX8 271 yX8_bounded ∈ gtbl := tb6 (List.mem_of_getElem? (i := 105) (by decide +kernel)) rfl
theorem tw6_107 : Cond.instanceMethod yX8_bounded ∈ gtbl := tb6 (List.mem_of_getElem? (i := 107) (by decide +kernel)) rfl
theorem tw6_108 : Cond.code yX8_bounded cX8_bounded 4 (some FieldType.long) ∈ gtbl := tb6 (List.mem_of_getElem? (i := 108) (rfl)) rfl
theorem tw6_109 : Cond.constantLong RX8 260 (1000000000 : Int64) ∈ gtbl := tb6 (List.mem_of_getElem? (i := 109) (by decide +kernel)) rfl
theorem tw6_110 : Cond.constantLong RX8 262 (-1000000000 : Int64) ∈ gtbl := tb6 (List.mem_of_getElem? (i := 110) (by decide +kernel)) rfl
theorem tw6_111 : Cond.methodLink RX8 312 yX8_testOf ∈ gtbl := tb6 (List.mem_of_getElem? (i := 111) (by decide +kernel)) rfl
theorem tw6_113 : Cond.instanceMethod yX8_testOf ∈ gtbl := tb6 (List.mem_of_getElem? (i := 113) (by decide +kernel)) rfl
theorem tw6_114 : Cond.code yX8_testOf cX8_testOf 4 (some FieldType.boolean) ∈ gtbl := tb6 (List.mem_of_getElem? (i := 114) (rfl)) rfl
theorem tw6_115 : Cond.methodLink RX8 303 yX8_bothOf ∈ gtbl := tb6 (List.mem_of_getElem? (i := 115) (by decide +kernel)) rfl
theorem tw6_117 : Cond.instanceMethod yX8_bothOf ∈ gtbl := tb6 (List.mem_of_getElem? (i := 117) (by decide +kernel)) rfl
theorem tw6_118 : Cond.code yX8_bothOf cX8_bothOf 4 (some FieldType.boolean) ∈ gtbl := tb6 (List.mem_of_getElem? (i := 118) (rfl)) rfl
theorem tw6_119 : Cond.methodLink RX8 306 yX8_plainOf ∈ gtbl := tb6 (List.mem_of_getElem? (i := 119) (by decide +kernel)) rfl
theorem tw6_121 : Cond.instanceMethod yX8_plainOf ∈ gtbl := tb6 (List.mem_of_getElem? (i := 121) (by decide +kernel)) rfl
theorem tw6_122 : Cond.code yX8_plainOf cX8_plainOf 3 (some FieldType.boolean) ∈ gtbl := tb6 (List.mem_of_getElem? (i := 122) (rfl)) rfl
theorem tw6_123 : Cond.methodLink RX8 309 yX8_positiveOf ∈ gtbl := tb6 (List.mem_of_getElem? (i := 123) (by decide +kernel)) rfl
theorem tw6_125 : Cond.instanceMethod yX8_positiveOf ∈ gtbl := tb6 (List.mem_of_getElem? (i := 125) (by decide +kernel)) rfl
theorem tw6_126 : Cond.code yX8_positiveOf cX8_positiveOf 7 (some FieldType.boolean) ∈ gtbl := tb6 (List.mem_of_getElem? (i := 126) (rfl)) rfl
theorem tw6_127 : Cond.constantLong RX8 319 (15 : Int64) ∈ gtbl := tb6 (List.mem_of_getElem? (i := 127) (by decide +kernel)) rfl
theorem tw6_128 : Cond.methodLink RX8 329 yX8_isSo ∈ gtbl := tb6 (List.mem_of_getElem? (i := 128) (by decide +kernel)) rfl
theorem tw6_130 : Cond.instanceMethod yX8_isSo ∈ gtbl := tb6 (List.mem_of_getElem? (i := 130) (by decide +kernel)) rfl
theorem tw6_131 : Cond.code yX8_isSo cX8_isSo 6 (some FieldType.boolean) ∈ gtbl := tb6 (List.mem_of_getElem? (i := 131) (rfl)) rfl
theorem tw6_132 : Cond.methodLink RL 85 yX8_falls ∈ gtbl := tb6 (List.mem_of_getElem? (i := 132) (by decide +kernel)) rfl
theorem tw6_133 : Cond.instanceMethod yX8_falls ∈ gtbl := tb6 (List.mem_of_getElem? (i := 133) (by decide +kernel)) rfl
theorem tw6_134 : Cond.selects RX8 yX8_falls yX8_falls ∈ gtbl := tb6 (List.mem_of_getElem? (i := 134) (by decide +kernel)) rfl
theorem tw6_135 : Cond.code yX8_falls cX8_falls 4 (some FieldType.int) ∈ gtbl := tb6 (List.mem_of_getElem? (i := 135) (rfl)) rfl
theorem tw6_136 : Cond.methodLink RX8 352 yX8_canSay ∈ gtbl := tb6 (List.mem_of_getElem? (i := 136) (by decide +kernel)) rfl
theorem tw6_138 : Cond.instanceMethod yX8_canSay ∈ gtbl := tb6 (List.mem_of_getElem? (i := 138) (by decide +kernel)) rfl
theorem tw6_139 : Cond.code yX8_canSay cX8_canSay 1 (some FieldType.boolean) ∈ gtbl := tb6 (List.mem_of_getElem? (i := 139) (rfl)) rfl
theorem tw6_140 : Cond.methodLink RX8 346 yX8_counts ∈ gtbl := tb6 (List.mem_of_getElem? (i := 140) (by decide +kernel)) rfl
theorem tw6_142 : Cond.instanceMethod yX8_counts ∈ gtbl := tb6 (List.mem_of_getElem? (i := 142) (by decide +kernel)) rfl
theorem tw6_143 : Cond.code yX8_counts cX8_counts 8 (some FieldType.int) ∈ gtbl := tb6 (List.mem_of_getElem? (i := 143) (rfl)) rfl
theorem tw6_144 : Cond.methodLink RX8 336 yX8_beginner ∈ gtbl := tb6 (List.mem_of_getElem? (i := 144) (by decide +kernel)) rfl
theorem tw6_146 : Cond.instanceMethod yX8_beginner ∈ gtbl := tb6 (List.mem_of_getElem? (i := 146) (by decide +kernel)) rfl
theorem tw6_147 : Cond.code yX8_beginner cX8_beginner 2 (some FieldType.int) ∈ gtbl := tb6 (List.mem_of_getElem? (i := 147) (rfl)) rfl
theorem tw6_148 : Cond.methodLink RX8 18 yX8_isIn ∈ gtbl := tb6 (List.mem_of_getElem? (i := 148) (by decide +kernel)) rfl
theorem tw6_149 : Cond.static yX8_isIn ∈ gtbl := tb6 (List.mem_of_getElem? (i := 149) (by decide +kernel)) rfl
theorem tw6_150 : Cond.code yX8_isIn cX8_isIn 2 (some FieldType.boolean) ∈ gtbl := tb6 (List.mem_of_getElem? (i := 150) (rfl)) rfl
theorem tw6_151 : Cond.methodLink RX8 333 yX8_nextIn ∈ gtbl := tb6 (List.mem_of_getElem? (i := 151) (by decide +kernel)) rfl
theorem tw6_153 : Cond.instanceMethod yX8_nextIn ∈ gtbl := tb6 (List.mem_of_getElem? (i := 153) (by decide +kernel)) rfl
theorem tw6_154 : Cond.code yX8_nextIn cX8_nextIn 5 (some FieldType.int) ∈ gtbl := tb6 (List.mem_of_getElem? (i := 154) (rfl)) rfl
theorem tw6_155 : Cond.methodLink RX8 339 yX8_greater ∈ gtbl := tb6 (List.mem_of_getElem? (i := 155) (by decide +kernel)) rfl
theorem tw6_156 : Cond.static yX8_greater ∈ gtbl := tb6 (List.mem_of_getElem? (i := 156) (by decide +kernel)) rfl
theorem tw6_157 : Cond.code yX8_greater cX8_greater 2 (some FieldType.int) ∈ gtbl := tb6 (List.mem_of_getElem? (i := 157) (rfl)) rfl
theorem tw6_158 : Cond.methodLink RX8 342 yX8_passedOn ∈ gtbl := tb6 (List.mem_of_getElem? (i := 158) (by decide +kernel)) rfl
theorem tw6_160 : Cond.instanceMethod yX8_passedOn ∈ gtbl := tb6 (List.mem_of_getElem? (i := 160) (by decide +kernel)) rfl
theorem tw6_161 : Cond.code yX8_passedOn cX8_passedOn 8 (some FieldType.int) ∈ gtbl := tb6 (List.mem_of_getElem? (i := 161) (rfl)) rfl
theorem tw6_162 : Cond.methodLink RL 101 yX8_undo ∈ gtbl := tb6 (List.mem_of_getElem? (i := 162) (by decide +kernel)) rfl
theorem tw6_163 : Cond.instanceMethod yX8_undo ∈ gtbl := tb6 (List.mem_of_getElem? (i := 163) (by decide +kernel)) rfl
theorem tw6_164 : Cond.selects RX8 yX8_undo yX8_undo ∈ gtbl := tb6 (List.mem_of_getElem? (i := 164) (by decide +kernel)) rfl
theorem tw6_165 : Cond.code yX8_undo cX8_undo 3 (some FieldType.int) ∈ gtbl := tb6 (List.mem_of_getElem? (i := 165) (rfl)) rfl
theorem tw6_166 : Cond.methodLink RL 81 yX8_say ∈ gtbl := tb6 (List.mem_of_getElem? (i := 166) (by decide +kernel)) rfl
theorem tw6_167 : Cond.instanceMethod yX8_say ∈ gtbl := tb6 (List.mem_of_getElem? (i := 167) (by decide +kernel)) rfl
theorem tw6_168 : Cond.selects RX8 yX8_say yX8_say ∈ gtbl := tb6 (List.mem_of_getElem? (i := 168) (by decide +kernel)) rfl
theorem tw6_169 : Cond.code yX8_say cX8_say 2 (some FieldType.int) ∈ gtbl := tb6 (List.mem_of_getElem? (i := 169) (rfl)) rfl
theorem tw6_170 : Cond.methodLink RX8 367 yX8_saysKept ∈ gtbl := tb6 (List.mem_of_getElem? (i := 170) (by decide +kernel)) rfl
theorem tw6_172 : Cond.instanceMethod yX8_saysKept ∈ gtbl := tb6 (List.mem_of_getElem? (i := 172) (by decide +kernel)) rfl
theorem tw6_173 : Cond.code yX8_saysKept cX8_saysKept 2 (some FieldType.int) ∈ gtbl := tb6 (List.mem_of_getElem? (i := 173) (rfl)) rfl
theorem tw6_174 : Cond.methodLink RX8 358 yX8_keepsAll ∈ gtbl := tb6 (List.mem_of_getElem? (i := 174) (by decide +kernel)) rfl
theorem tw6_176 : Cond.instanceMethod yX8_keepsAll ∈ gtbl := tb6 (List.mem_of_getElem? (i := 176) (by decide +kernel)) rfl
theorem tw6_177 : Cond.code yX8_keepsAll cX8_keepsAll 4 none ∈ gtbl := tb6 (List.mem_of_getElem? (i := 177) (rfl)) rfl
theorem tw6_178 : Cond.methodLink RX8 355 yX8_forgetsEldest ∈ gtbl := tb6 (List.mem_of_getElem? (i := 178) (by decide +kernel)) rfl
theorem tw6_180 : Cond.instanceMethod yX8_forgetsEldest ∈ gtbl := tb6 (List.mem_of_getElem? (i := 180) (by decide +kernel)) rfl
theorem tw6_181 : Cond.code yX8_forgetsEldest cX8_forgetsEldest 3 none ∈ gtbl := tb6 (List.mem_of_getElem? (i := 181) (rfl)) rfl
theorem tw6_182 : Cond.methodLink RX8 361 yX8_says ∈ gtbl := tb6 (List.mem_of_getElem? (i := 182) (by decide +kernel)) rfl
theorem tw6_184 : Cond.instanceMethod yX8_says ∈ gtbl := tb6 (List.mem_of_getElem? (i := 184) (by decide +kernel)) rfl
theorem tw6_185 : Cond.code yX8_says cX8_says 6 (some FieldType.int) ∈ gtbl := tb6 (List.mem_of_getElem? (i := 185) (rfl)) rfl
theorem tw6_186 : Cond.methodLink RX8 370 yX8_goodOr ∈ gtbl := tb6 (List.mem_of_getElem? (i := 186) (by decide +kernel)) rfl
theorem tw6_188 : Cond.instanceMethod yX8_goodOr ∈ gtbl := tb6 (List.mem_of_getElem? (i := 188) (by decide +kernel)) rfl
theorem tw6_189 : Cond.code yX8_goodOr cX8_goodOr 2 (some FieldType.int) ∈ gtbl := tb6 (List.mem_of_getElem? (i := 189) (rfl)) rfl
theorem tw6_190 : Cond.methodLink RL 89 yX8_join ∈ gtbl := tb6 (List.mem_of_getElem? (i := 190) (by decide +kernel)) rfl
theorem tw6_191 : Cond.instanceMethod yX8_join ∈ gtbl := tb6 (List.mem_of_getElem? (i := 191) (by decide +kernel)) rfl
theorem tw6_192 : Cond.selects RX8 yX8_join yX8_join ∈ gtbl := tb6 (List.mem_of_getElem? (i := 192) (by decide +kernel)) rfl
theorem tw6_193 : Cond.code yX8_join cX8_join 2 (some FieldType.int) ∈ gtbl := tb6 (List.mem_of_getElem? (i := 193) (rfl)) rfl
theorem tw6_194 : Cond.methodLink RX8 373 yX8_joinsKept ∈ gtbl := tb6 (List.mem_of_getElem? (i := 194) (by decide +kernel)) rfl
theorem tw6_196 : Cond.instanceMethod yX8_joinsKept ∈ gtbl := tb6 (List.mem_of_getElem? (i := 196) (by decide +kernel)) rfl
theorem tw6_197 : Cond.code yX8_joinsKept cX8_joinsKept 2 (some FieldType.int) ∈ gtbl := tb6 (List.mem_of_getElem? (i := 197) (rfl)) rfl
theorem tw6_198 : Cond.methodLink RL 93 yX8_leave ∈ gtbl := tb6 (List.mem_of_getElem? (i := 198) (by decide +kernel)) rfl
theorem tw6_199 : Cond.instanceMethod yX8_leave ∈ gtbl := tb6 (List.mem_of_getElem? (i := 199) (by decide +kernel)) rfl
theorem tw6_200 : Cond.selects RX8 yX8_leave yX8_leave ∈ gtbl := tb6 (List.mem_of_getElem? (i := 200) (by decide +kernel)) rfl
theorem tw6_201 : Cond.code yX8_leave cX8_leave 2 (some FieldType.int) ∈ gtbl := tb6 (List.mem_of_getElem? (i := 201) (rfl)) rfl
theorem tw6_202 : Cond.methodLink RX8 376 yX8_leavesKept ∈ gtbl := tb6 (List.mem_of_getElem? (i := 202) (by decide +kernel)) rfl
theorem tw6_204 : Cond.instanceMethod yX8_leavesKept ∈ gtbl := tb6 (List.mem_of_getElem? (i := 204) (by decide +kernel)) rfl
theorem tw6_205 : Cond.code yX8_leavesKept cX8_leavesKept 2 (some FieldType.int) ∈ gtbl := tb6 (List.mem_of_getElem? (i := 205) (rfl)) rfl
theorem tw6_206 : Cond.methodLink RL 97 yX8_pass ∈ gtbl := tb6 (List.mem_of_getElem? (i := 206) (by decide +kernel)) rfl
theorem tw6_207 : Cond.instanceMethod yX8_pass ∈ gtbl := tb6 (List.mem_of_getElem? (i := 207) (by decide +kernel)) rfl
theorem tw6_208 : Cond.selects RX8 yX8_pass yX8_pass ∈ gtbl := tb6 (List.mem_of_getElem? (i := 208) (by decide +kernel)) rfl
theorem tw6_209 : Cond.code yX8_pass cX8_pass 1 (some FieldType.int) ∈ gtbl := tb6 (List.mem_of_getElem? (i := 209) (rfl)) rfl
theorem tw6_210 : Cond.methodLink RX8 379 yX8_passesKept ∈ gtbl := tb6 (List.mem_of_getElem? (i := 210) (by decide +kernel)) rfl
theorem tw6_212 : Cond.instanceMethod yX8_passesKept ∈ gtbl := tb6 (List.mem_of_getElem? (i := 212) (by decide +kernel)) rfl
theorem tw6_213 : Cond.code yX8_passesKept cX8_passesKept 1 (some FieldType.int) ∈ gtbl := tb6 (List.mem_of_getElem? (i := 213) (rfl)) rfl
theorem tw6_214 : Cond.methodLink RX8 364 yX8_roundPasses ∈ gtbl := tb6 (List.mem_of_getElem? (i := 214) (by decide +kernel)) rfl
theorem tw6_216 : Cond.instanceMethod yX8_roundPasses ∈ gtbl := tb6 (List.mem_of_getElem? (i := 216) (by decide +kernel)) rfl
theorem tw6_217 : Cond.code yX8_roundPasses cX8_roundPasses 1 none ∈ gtbl := tb6 (List.mem_of_getElem? (i := 217) (rfl)) rfl
theorem tw6_218 : Cond.methodLink RX8 349 yX8_allChildren ∈ gtbl := tb6 (List.mem_of_getElem? (i := 218) (by decide +kernel)) rfl
theorem tw6_220 : Cond.instanceMethod yX8_allChildren ∈ gtbl := tb6 (List.mem_of_getElem? (i := 220) (by decide +kernel)) rfl
theorem tw6_221 : Cond.code yX8_allChildren cX8_allChildren 1 (some FieldType.int) ∈ gtbl := tb6 (List.mem_of_getElem? (i := 221) (rfl)) rfl
theorem tw6_222 : Cond.methodLink RL 105 yX8_left ∈ gtbl := tb6 (List.mem_of_getElem? (i := 222) (by decide +kernel)) rfl
theorem tw6_223 : Cond.instanceMethod yX8_left ∈ gtbl := tb6 (List.mem_of_getElem? (i := 223) (by decide +kernel)) rfl
theorem tw6_224 : Cond.selects RX8 yX8_left yX8_left ∈ gtbl := tb6 (List.mem_of_getElem? (i := 224) (by decide +kernel)) rfl
theorem tw6_225 : Cond.code yX8_left cX8_left 4 (some FieldType.int) ∈ gtbl := tb6 (List.mem_of_getElem? (i := 225) (rfl)) rfl
theorem tw6_226 : Cond.methodLink RX8 397 yX8_leftBy ∈ gtbl := tb6 (List.mem_of_getElem? (i := 226) (by decide +kernel)) rfl
theorem tw6_228 : Cond.instanceMethod yX8_leftBy ∈ gtbl := tb6 (List.mem_of_getElem? (i := 228) (by decide +kernel)) rfl
theorem tw6_229 : Cond.code yX8_leftBy cX8_leftBy 4 (some FieldType.int) ∈ gtbl := tb6 (List.mem_of_getElem? (i := 229) (rfl)) rfl
theorem tw6_230 : Cond.methodLink RX8 385 yX8_laysAside ∈ gtbl := tb6 (List.mem_of_getElem? (i := 230) (by decide +kernel)) rfl
theorem tw6_232 : Cond.instanceMethod yX8_laysAside ∈ gtbl := tb6 (List.mem_of_getElem? (i := 232) (by decide +kernel)) rfl
theorem tw6_233 : Cond.code yX8_laysAside cX8_laysAside 3 none ∈ gtbl := tb6 (List.mem_of_getElem? (i := 233) (rfl)) rfl
theorem tw6_234 : Cond.methodLink RX8 391 yX8_aloneNow ∈ gtbl := tb6 (List.mem_of_getElem? (i := 234) (by decide +kernel)) rfl
theorem tw6_236 : Cond.instanceMethod yX8_aloneNow ∈ gtbl := tb6 (List.mem_of_getElem? (i := 236) (by decide +kernel)) rfl
theorem tw6_237 : Cond.code yX8_aloneNow cX8_aloneNow 1 (some FieldType.int) ∈ gtbl := tb6 (List.mem_of_getElem? (i := 237) (rfl)) rfl
theorem tw6_238 : Cond.methodLink RX8 382 yX8_firstOf ∈ gtbl := tb6 (List.mem_of_getElem? (i := 238) (by decide +kernel)) rfl
theorem tw6_239 : Cond.static yX8_firstOf ∈ gtbl := tb6 (List.mem_of_getElem? (i := 239) (by decide +kernel)) rfl
theorem tw7_0 : Cond.code yX8_firstOf cX8_firstOf 2 (some FieldType.int) ∈ gtbl := tb7 (List.mem_of_getElem? (i := 0) (rfl)) rfl
theorem tw7_1 : Cond.methodLink RX8 394 yX8_takesBack ∈ gtbl := tb7 (List.mem_of_getElem? (i := 1) (by decide +kernel)) rfl
theorem tw7_3 : Cond.instanceMethod yX8_takesBack ∈ gtbl := tb7 (List.mem_of_getElem? (i := 3) (by decide +kernel)) rfl
theorem tw7_4 : Cond.code yX8_takesBack cX8_takesBack 3 none ∈ gtbl := tb7 (List.mem_of_getElem? (i := 4) (rfl)) rfl
theorem tw7_5 : Cond.methodLink RL 109 yX8_safe ∈ gtbl := tb7 (List.mem_of_getElem? (i := 5) (by decide +kernel)) rfl
theorem tw7_6 : Cond.instanceMethod yX8_safe ∈ gtbl := tb7 (List.mem_of_getElem? (i := 6) (by decide +kernel)) rfl
theorem tw7_7 : Cond.selects RX8 yX8_safe yX8_safe ∈ gtbl := tb7 (List.mem_of_getElem? (i := 7) (by decide +kernel)) rfl
theorem tw7_8 : Cond.code yX8_safe cX8_safe 6 (some FieldType.int) ∈ gtbl := tb7 (List.mem_of_getElem? (i := 8) (rfl)) rfl
theorem tw7_9 : Cond.methodLink RL 131 yX8_compare ∈ gtbl := tb7 (List.mem_of_getElem? (i := 9) (by decide +kernel)) rfl
theorem tw7_10 : Cond.instanceMethod yX8_compare ∈ gtbl := tb7 (List.mem_of_getElem? (i := 10) (by decide +kernel)) rfl
theorem tw7_11 : Cond.selects RX8 yX8_compare yX8_compare ∈ gtbl := tb7 (List.mem_of_getElem? (i := 11) (by decide +kernel)) rfl
theorem tw7_12 : Cond.code yX8_compare cX8_compare 5 (some FieldType.int) ∈ gtbl := tb7 (List.mem_of_getElem? (i := 12) (rfl)) rfl
theorem tw7_13 : Cond.methodLink RL 113 yX8_alone ∈ gtbl := tb7 (List.mem_of_getElem? (i := 13) (by decide +kernel)) rfl
theorem tw7_14 : Cond.instanceMethod yX8_alone ∈ gtbl := tb7 (List.mem_of_getElem? (i := 14) (by decide +kernel)) rfl
theorem tw7_15 : Cond.selects RX8 yX8_alone yX8_alone ∈ gtbl := tb7 (List.mem_of_getElem? (i := 15) (by decide +kernel)) rfl
theorem tw7_16 : Cond.code yX8_alone cX8_alone 5 (some FieldType.int) ∈ gtbl := tb7 (List.mem_of_getElem? (i := 16) (rfl)) rfl
theorem tw7_17 : Cond.methodLink RX8 419 yX8_laysLeads ∈ gtbl := tb7 (List.mem_of_getElem? (i := 17) (by decide +kernel)) rfl
theorem tw7_19 : Cond.instanceMethod yX8_laysLeads ∈ gtbl := tb7 (List.mem_of_getElem? (i := 19) (by decide +kernel)) rfl
theorem tw7_20 : Cond.code yX8_laysLeads cX8_laysLeads 3 none ∈ gtbl := tb7 (List.mem_of_getElem? (i := 20) (rfl)) rfl
theorem tw7_21 : Cond.methodLink RX8 403 yX8_isState ∈ gtbl := tb7 (List.mem_of_getElem? (i := 21) (by decide +kernel)) rfl
theorem tw7_23 : Cond.instanceMethod yX8_isState ∈ gtbl := tb7 (List.mem_of_getElem? (i := 23) (by decide +kernel)) rfl
theorem tw7_24 : Cond.code yX8_isState cX8_isState 2 (some FieldType.boolean) ∈ gtbl := tb7 (List.mem_of_getElem? (i := 24) (rfl)) rfl
theorem tw7_25 : Cond.methodLink RX8 400 yX8_insideOf ∈ gtbl := tb7 (List.mem_of_getElem? (i := 25) (by decide +kernel)) rfl
theorem tw7_26 : Cond.static yX8_insideOf ∈ gtbl := tb7 (List.mem_of_getElem? (i := 26) (by decide +kernel)) rfl
theorem tw7_27 : Cond.code yX8_insideOf cX8_insideOf 1 (some FieldType.int) ∈ gtbl := tb7 (List.mem_of_getElem? (i := 27) (rfl)) rfl
theorem tw7_28 : Cond.methodLink RX8 406 yX8_setsState ∈ gtbl := tb7 (List.mem_of_getElem? (i := 28) (by decide +kernel)) rfl
theorem tw7_30 : Cond.instanceMethod yX8_setsState ∈ gtbl := tb7 (List.mem_of_getElem? (i := 30) (by decide +kernel)) rfl
theorem tw7_31 : Cond.code yX8_setsState cX8_setsState 2 none ∈ gtbl := tb7 (List.mem_of_getElem? (i := 31) (rfl)) rfl
theorem tw7_32 : Cond.methodLink RX8 409 yX8_stateNow ∈ gtbl := tb7 (List.mem_of_getElem? (i := 32) (by decide +kernel)) rfl
theorem tw7_34 : Cond.instanceMethod yX8_stateNow ∈ gtbl := tb7 (List.mem_of_getElem? (i := 34) (by decide +kernel)) rfl
theorem tw7_35 : Cond.code yX8_stateNow cX8_stateNow 1 (some FieldType.int) ∈ gtbl := tb7 (List.mem_of_getElem? (i := 35) (rfl)) rfl
theorem tw7_36 : Cond.methodLink RX8 422 yX8_reachesAlone ∈ gtbl := tb7 (List.mem_of_getElem? (i := 36) (by decide +kernel)) rfl
theorem tw7_38 : Cond.instanceMethod yX8_reachesAlone ∈ gtbl := tb7 (List.mem_of_getElem? (i := 38) (by decide +kernel)) rfl
theorem tw7_39 : Cond.code yX8_reachesAlone cX8_reachesAlone 5 (some FieldType.int) ∈ gtbl := tb7 (List.mem_of_getElem? (i := 39) (rfl)) rfl
theorem tw7_40 : Cond.methodLink RX8 415 yX8_reaches ∈ gtbl := tb7 (List.mem_of_getElem? (i := 40) (by decide +kernel)) rfl
theorem tw7_42 : Cond.instanceMethod yX8_reaches ∈ gtbl := tb7 (List.mem_of_getElem? (i := 42) (by decide +kernel)) rfl
theorem tw7_43 : Cond.code yX8_reaches cX8_reaches 4 none ∈ gtbl := tb7 (List.mem_of_getElem? (i := 43) (rfl)) rfl
theorem tw7_44 : Cond.methodLink RL 117 yX8_game ∈ gtbl := tb7 (List.mem_of_getElem? (i := 44) (by decide +kernel)) rfl
theorem tw7_45 : Cond.instanceMethod yX8_game ∈ gtbl := tb7 (List.mem_of_getElem? (i := 45) (by decide +kernel)) rfl
theorem tw7_46 : Cond.selects RX8 yX8_game yX8_game ∈ gtbl := tb7 (List.mem_of_getElem? (i := 46) (by decide +kernel)) rfl
theorem tw7_47 : Cond.code yX8_game cX8_game 4 (some FieldType.int) ∈ gtbl := tb7 (List.mem_of_getElem? (i := 47) (rfl)) rfl
theorem tw7_48 : Cond.methodLink RX8 434 yX8_laysEnd ∈ gtbl := tb7 (List.mem_of_getElem? (i := 48) (by decide +kernel)) rfl
theorem tw7_50 : Cond.instanceMethod yX8_laysEnd ∈ gtbl := tb7 (List.mem_of_getElem? (i := 50) (by decide +kernel)) rfl
theorem tw7_51 : Cond.code yX8_laysEnd cX8_laysEnd 3 none ∈ gtbl := tb7 (List.mem_of_getElem? (i := 51) (rfl)) rfl
theorem tw7_52 : Cond.methodLink RX8 437 yX8_laysIts ∈ gtbl := tb7 (List.mem_of_getElem? (i := 52) (by decide +kernel)) rfl
theorem tw7_54 : Cond.instanceMethod yX8_laysIts ∈ gtbl := tb7 (List.mem_of_getElem? (i := 54) (by decide +kernel)) rfl
theorem tw7_55 : Cond.code yX8_laysIts cX8_laysIts 3 none ∈ gtbl := tb7 (List.mem_of_getElem? (i := 55) (rfl)) rfl
theorem tw7_56 : Cond.methodLink RX8 431 yX8_itAt ∈ gtbl := tb7 (List.mem_of_getElem? (i := 56) (by decide +kernel)) rfl
theorem tw7_58 : Cond.instanceMethod yX8_itAt ∈ gtbl := tb7 (List.mem_of_getElem? (i := 58) (by decide +kernel)) rfl
theorem tw7_59 : Cond.code yX8_itAt cX8_itAt 4 (some FieldType.int) ∈ gtbl := tb7 (List.mem_of_getElem? (i := 59) (rfl)) rfl
theorem tw7_60 : Cond.methodLink RX8 425 yX8_choiceAt ∈ gtbl := tb7 (List.mem_of_getElem? (i := 60) (by decide +kernel)) rfl
theorem tw7_62 : Cond.instanceMethod yX8_choiceAt ∈ gtbl := tb7 (List.mem_of_getElem? (i := 62) (by decide +kernel)) rfl
theorem tw7_63 : Cond.code yX8_choiceAt cX8_choiceAt 5 (some FieldType.int) ∈ gtbl := tb7 (List.mem_of_getElem? (i := 63) (rfl)) rfl
theorem tw7_64 : Cond.methodLink RL 122 yX8_chances ∈ gtbl := tb7 (List.mem_of_getElem? (i := 64) (by decide +kernel)) rfl
theorem tw7_65 : Cond.instanceMethod yX8_chances ∈ gtbl := tb7 (List.mem_of_getElem? (i := 65) (by decide +kernel)) rfl
theorem tw7_66 : Cond.selects RX8 yX8_chances yX8_chances ∈ gtbl := tb7 (List.mem_of_getElem? (i := 66) (by decide +kernel)) rfl
theorem tw7_67 : Cond.code yX8_chances cX8_chances 4 (some FieldType.long) ∈ gtbl := tb7 (List.mem_of_getElem? (i := 67) (rfl)) rfl
theorem tw7_68 : Cond.constantLong RX8 444 (-1 : Int64) ∈ gtbl := tb7 (List.mem_of_getElem? (i := 68) (by decide +kernel)) rfl
theorem tw7_69 : Cond.constantLong RX8 446 (1000000000000 : Int64) ∈ gtbl := tb7 (List.mem_of_getElem? (i := 69) (by decide +kernel)) rfl
theorem tw7_70 : Cond.methodLink RX8 448 yX8_spreads ∈ gtbl := tb7 (List.mem_of_getElem? (i := 70) (by decide +kernel)) rfl
theorem tw7_72 : Cond.instanceMethod yX8_spreads ∈ gtbl := tb7 (List.mem_of_getElem? (i := 72) (by decide +kernel)) rfl
theorem tw7_73 : Cond.code yX8_spreads cX8_spreads 4 none ∈ gtbl := tb7 (List.mem_of_getElem? (i := 73) (rfl)) rfl
theorem tw7_74 : Cond.methodLink RX8 440 yX8_spreadsPart ∈ gtbl := tb7 (List.mem_of_getElem? (i := 74) (by decide +kernel)) rfl
theorem tw7_76 : Cond.instanceMethod yX8_spreadsPart ∈ gtbl := tb7 (List.mem_of_getElem? (i := 76) (by decide +kernel)) rfl
theorem tw7_77 : Cond.code yX8_spreadsPart cX8_spreadsPart 6 none ∈ gtbl := tb7 (List.mem_of_getElem? (i := 77) (rfl)) rfl
theorem tw7_78 : Cond.methodLink RX8 451 yX8_partsOf ∈ gtbl := tb7 (List.mem_of_getElem? (i := 78) (by decide +kernel)) rfl
theorem tw7_80 : Cond.instanceMethod yX8_partsOf ∈ gtbl := tb7 (List.mem_of_getElem? (i := 80) (by decide +kernel)) rfl
theorem tw7_81 : Cond.code yX8_partsOf cX8_partsOf 6 (some FieldType.long) ∈ gtbl := tb7 (List.mem_of_getElem? (i := 81) (rfl)) rfl
theorem tw7_82 : Cond.methodLink RL 127 yX8_said ∈ gtbl := tb7 (List.mem_of_getElem? (i := 82) (by decide +kernel)) rfl
theorem tw7_83 : Cond.instanceMethod yX8_said ∈ gtbl := tb7 (List.mem_of_getElem? (i := 83) (by decide +kernel)) rfl
theorem tw7_84 : Cond.selects RX8 yX8_said yX8_said ∈ gtbl := tb7 (List.mem_of_getElem? (i := 84) (by decide +kernel)) rfl
theorem tw7_85 : Cond.code yX8_said cX8_said 6 (some FieldType.int) ∈ gtbl := tb7 (List.mem_of_getElem? (i := 85) (rfl)) rfl
theorem tw7_86 : Cond.methodLink RX8 455 yX8_rowsOf ∈ gtbl := tb7 (List.mem_of_getElem? (i := 86) (by decide +kernel)) rfl
theorem tw7_88 : Cond.instanceMethod yX8_rowsOf ∈ gtbl := tb7 (List.mem_of_getElem? (i := 88) (by decide +kernel)) rfl
theorem tw7_89 : Cond.code yX8_rowsOf cX8_rowsOf 4 (some FieldType.int) ∈ gtbl := tb7 (List.mem_of_getElem? (i := 89) (rfl)) rfl
theorem tw7_90 : Cond.methodLink RX8 458 yX8_laysRow ∈ gtbl := tb7 (List.mem_of_getElem? (i := 90) (by decide +kernel)) rfl
theorem tw7_92 : Cond.instanceMethod yX8_laysRow ∈ gtbl := tb7 (List.mem_of_getElem? (i := 92) (by decide +kernel)) rfl
theorem tw7_93 : Cond.code yX8_laysRow cX8_laysRow 5 none ∈ gtbl := tb7 (List.mem_of_getElem? (i := 93) (rfl)) rfl
theorem tw7_94 : Cond.methodLink RX8 461 yX8_endOf ∈ gtbl := tb7 (List.mem_of_getElem? (i := 94) (by decide +kernel)) rfl
theorem tw7_96 : Cond.instanceMethod yX8_endOf ∈ gtbl := tb7 (List.mem_of_getElem? (i := 96) (by decide +kernel)) rfl
theorem tw7_97 : Cond.code yX8_endOf cX8_endOf 4 (some FieldType.int) ∈ gtbl := tb7 (List.mem_of_getElem? (i := 97) (rfl)) rfl
theorem tw7_98 : Cond.methodLink RL 73 yX8_stopped ∈ gtbl := tb7 (List.mem_of_getElem? (i := 98) (by decide +kernel)) rfl
theorem tw7_99 : Cond.instanceMethod yX8_stopped ∈ gtbl := tb7 (List.mem_of_getElem? (i := 99) (by decide +kernel)) rfl
theorem tw7_100 : Cond.selects RX8 yX8_stopped yX8_stopped ∈ gtbl := tb7 (List.mem_of_getElem? (i := 100) (by decide +kernel)) rfl
theorem tw7_101 : Cond.code yX8_stopped cX8_stopped 1 (some FieldType.int) ∈ gtbl := tb7 (List.mem_of_getElem? (i := 101) (rfl)) rfl
theorem tw7_102 : Cond.methodLink RL 65 yX8_orders ∈ gtbl := tb7 (List.mem_of_getElem? (i := 102) (by decide +kernel)) rfl
theorem tw7_103 : Cond.instanceMethod yX8_orders ∈ gtbl := tb7 (List.mem_of_getElem? (i := 103) (by decide +kernel)) rfl
theorem tw7_104 : Cond.selects RX8 yX8_orders yX8_orders ∈ gtbl := tb7 (List.mem_of_getElem? (i := 104) (by decide +kernel)) rfl
theorem tw7_105 : Cond.code yX8_orders cX8_orders 3 (some FieldType.int) ∈ gtbl := tb7 (List.mem_of_getElem? (i := 105) (rfl)) rfl
theorem tw7_106 : Cond.methodLink RX8 467 yX8_laysAllAside ∈ gtbl := tb7 (List.mem_of_getElem? (i := 106) (by decide +kernel)) rfl
theorem tw7_108 : Cond.instanceMethod yX8_laysAllAside ∈ gtbl := tb7 (List.mem_of_getElem? (i := 108) (by decide +kernel)) rfl
theorem tw7_109 : Cond.code yX8_laysAllAside cX8_laysAllAside 2 none ∈ gtbl := tb7 (List.mem_of_getElem? (i := 109) (rfl)) rfl
theorem tw7_110 : Cond.methodLink RX8 473 yX8_runs ∈ gtbl := tb7 (List.mem_of_getElem? (i := 110) (by decide +kernel)) rfl
theorem tw7_112 : Cond.instanceMethod yX8_runs ∈ gtbl := tb7 (List.mem_of_getElem? (i := 112) (by decide +kernel)) rfl
theorem tw7_113 : Cond.code yX8_runs cX8_runs 5 (some FieldType.boolean) ∈ gtbl := tb7 (List.mem_of_getElem? (i := 113) (rfl)) rfl
theorem tw7_114 : Cond.methodLink RX8 501 yX8_goesAlong ∈ gtbl := tb7 (List.mem_of_getElem? (i := 114) (by decide +kernel)) rfl
theorem tw7_116 : Cond.instanceMethod yX8_goesAlong ∈ gtbl := tb7 (List.mem_of_getElem? (i := 116) (by decide +kernel)) rfl
theorem tw7_117 : Cond.code yX8_goesAlong cX8_goesAlong 3 none ∈ gtbl := tb7 (List.mem_of_getElem? (i := 117) (rfl)) rfl
theorem tw7_118 : Cond.methodLink RX8 505 yX8_obeys ∈ gtbl := tb7 (List.mem_of_getElem? (i := 118) (by decide +kernel)) rfl
theorem tw7_120 : Cond.instanceMethod yX8_obeys ∈ gtbl := tb7 (List.mem_of_getElem? (i := 120) (by decide +kernel)) rfl
theorem tw7_121 : Cond.code yX8_obeys cX8_obeys 2 (some FieldType.int) ∈ gtbl := tb7 (List.mem_of_getElem? (i := 121) (rfl)) rfl
theorem tw7_122 : Cond.methodLink RX8 497 yX8_small ∈ gtbl := tb7 (List.mem_of_getElem? (i := 122) (by decide +kernel)) rfl
theorem tw7_123 : Cond.static yX8_small ∈ gtbl := tb7 (List.mem_of_getElem? (i := 123) (by decide +kernel)) rfl
theorem tw7_124 : Cond.code yX8_small cX8_small 2 (some FieldType.int) ∈ gtbl := tb7 (List.mem_of_getElem? (i := 124) (rfl)) rfl
theorem tw7_125 : Cond.constantLong RX8 495 (1000000 : Int64) ∈ gtbl := tb7 (List.mem_of_getElem? (i := 125) (by decide +kernel)) rfl
theorem tw7_126 : Cond.methodLink RX8 476 yX8_takesAllBack ∈ gtbl := tb7 (List.mem_of_getElem? (i := 126) (by decide +kernel)) rfl
theorem tw7_128 : Cond.instanceMethod yX8_takesAllBack ∈ gtbl := tb7 (List.mem_of_getElem? (i := 128) (by decide +kernel)) rfl
theorem tw7_129 : Cond.code yX8_takesAllBack cX8_takesAllBack 2 none ∈ gtbl := tb7 (List.mem_of_getElem? (i := 129) (rfl)) rfl
theorem tw7_130 : Cond.methodLink RL 135 yX8_quarters ∈ gtbl := tb7 (List.mem_of_getElem? (i := 130) (by decide +kernel)) rfl
theorem tw7_131 : Cond.instanceMethod yX8_quarters ∈ gtbl := tb7 (List.mem_of_getElem? (i := 131) (by decide +kernel)) rfl
theorem tw7_132 : Cond.selects RX8 yX8_quarters yX8_quarters ∈ gtbl := tb7 (List.mem_of_getElem? (i := 132) (by decide +kernel)) rfl
theorem tw7_133 : Cond.code yX8_quarters cX8_quarters 4 (some FieldType.int) ∈ gtbl := tb7 (List.mem_of_getElem? (i := 133) (rfl)) rfl
theorem tw7_134 : Cond.methodLink RX8 523 yX8_canGoOn ∈ gtbl := tb7 (List.mem_of_getElem? (i := 134) (by decide +kernel)) rfl
theorem tw7_136 : Cond.instanceMethod yX8_canGoOn ∈ gtbl := tb7 (List.mem_of_getElem? (i := 136) (by decide +kernel)) rfl
theorem tw7_137 : Cond.code yX8_canGoOn cX8_canGoOn 1 (some FieldType.boolean) ∈ gtbl := tb7 (List.mem_of_getElem? (i := 137) (rfl)) rfl
theorem tw7_138 : Cond.methodLink RX8 526 yX8_saysDrawn ∈ gtbl := tb7 (List.mem_of_getElem? (i := 138) (by decide +kernel)) rfl
theorem tw7_140 : Cond.instanceMethod yX8_saysDrawn ∈ gtbl := tb7 (List.mem_of_getElem? (i := 140) (by decide +kernel)) rfl
theorem tw7_141 : Cond.code yX8_saysDrawn cX8_saysDrawn 3 none ∈ gtbl := tb7 (List.mem_of_getElem? (i := 141) (rfl)) rfl
theorem tw7_142 : Cond.methodLink RX8 520 yX8_draws ∈ gtbl := tb7 (List.mem_of_getElem? (i := 142) (by decide +kernel)) rfl
theorem tw7_144 : Cond.instanceMethod yX8_draws ∈ gtbl := tb7 (List.mem_of_getElem? (i := 144) (by decide +kernel)) rfl
theorem tw7_145 : Cond.code yX8_draws cX8_draws 2 (some FieldType.int) ∈ gtbl := tb7 (List.mem_of_getElem? (i := 145) (rfl)) rfl
theorem tw7_146 : Cond.constantLong RX8 508 (1103 : Int64) ∈ gtbl := tb7 (List.mem_of_getElem? (i := 146) (by decide +kernel)) rfl
theorem tw7_147 : Cond.constantLong RX8 513 (12345 : Int64) ∈ gtbl := tb7 (List.mem_of_getElem? (i := 147) (by decide +kernel)) rfl
theorem tw7_148 : Cond.constantLong RX8 515 (1000003 : Int64) ∈ gtbl := tb7 (List.mem_of_getElem? (i := 148) (by decide +kernel)) rfl
theorem tw7_149 : Cond.methodLink RL 139 yX8_drawn ∈ gtbl := tb7 (List.mem_of_getElem? (i := 149) (by decide +kernel)) rfl
theorem tw7_150 : Cond.instanceMethod yX8_drawn ∈ gtbl := tb7 (List.mem_of_getElem? (i := 150) (by decide +kernel)) rfl
theorem tw7_151 : Cond.selects RX8 yX8_drawn yX8_drawn ∈ gtbl := tb7 (List.mem_of_getElem? (i := 151) (by decide +kernel)) rfl
theorem tw7_152 : Cond.code yX8_drawn cX8_drawn 3 (some FieldType.int) ∈ gtbl := tb7 (List.mem_of_getElem? (i := 152) (rfl)) rfl
theorem tw7_153 : Cond.methodLink RL 151 yX8_count ∈ gtbl := tb7 (List.mem_of_getElem? (i := 153) (by decide +kernel)) rfl
theorem tw7_154 : Cond.instanceMethod yX8_count ∈ gtbl := tb7 (List.mem_of_getElem? (i := 154) (by decide +kernel)) rfl
theorem tw7_155 : Cond.selects RX8 yX8_count yX8_count ∈ gtbl := tb7 (List.mem_of_getElem? (i := 155) (by decide +kernel)) rfl
theorem tw7_156 : Cond.code yX8_count cX8_count 2 (some FieldType.int) ∈ gtbl := tb7 (List.mem_of_getElem? (i := 156) (rfl)) rfl
theorem tw7_157 : Cond.methodLink RL 155 yX8_status ∈ gtbl := tb7 (List.mem_of_getElem? (i := 157) (by decide +kernel)) rfl
theorem tw7_158 : Cond.instanceMethod yX8_status ∈ gtbl := tb7 (List.mem_of_getElem? (i := 158) (by decide +kernel)) rfl
theorem tw7_159 : Cond.selects RX8 yX8_status yX8_status ∈ gtbl := tb7 (List.mem_of_getElem? (i := 159) (by decide +kernel)) rfl
theorem tw7_160 : Cond.code yX8_status cX8_status 1 (some FieldType.int) ∈ gtbl := tb7 (List.mem_of_getElem? (i := 160) (rfl)) rfl
theorem tw7_161 : Cond.fieldLink RJ0 9 RJ0 "value" "[B" ∈ gtbl := tb7 (List.mem_of_getElem? (i := 161) (by decide +kernel)) rfl
theorem tw7_162 : Cond.fieldLink RJ0 15 RJ0 "coder" "B" ∈ gtbl := tb7 (List.mem_of_getElem? (i := 162) (by decide +kernel)) rfl
theorem ts1_0 : Cond.selects RX7 yX7_refused yX7_refused ∈ gtbl := tp1 (q := (yX7_refused, _)) (List.mem_of_getElem? (i := 0) rfl)
theorem ts1_1 : Cond.selects RX4 yX4_welcome yX4_welcome ∈ gtbl := tp1 (q := (yX4_welcome, _)) (List.mem_of_getElem? (i := 1) rfl)
theorem ts1_2 : Cond.selects RX7 yX7_ringChanged yX7_ringChanged ∈ gtbl := tp1 (q := (yX7_ringChanged, _)) (List.mem_of_getElem? (i := 2) rfl)
theorem ts1_3 : Cond.selects RX2 yX2_forget yX2_forget ∈ gtbl := tp1 (q := (yX2_forget, _)) (List.mem_of_getElem? (i := 3) rfl)
theorem ts1_4 : Cond.selects RX6 yX6_forget yX6_forget ∈ gtbl := tp1 (q := (yX6_forget, _)) (List.mem_of_getElem? (i := 4) rfl)
theorem ts1_5 : Cond.selects RX7 yX7_settled yX7_settled ∈ gtbl := tp1 (q := (yX7_settled, _)) (List.mem_of_getElem? (i := 5) rfl)
theorem ts1_6 : Cond.selects RX4 yX4_lacksChild yX4_lacksChild ∈ gtbl := tp1 (q := (yX4_lacksChild, _)) (List.mem_of_getElem? (i := 6) rfl)
theorem ts1_7 : Cond.selects RX4 yX4_lacksRhyme yX4_lacksRhyme ∈ gtbl := tp1 (q := (yX4_lacksRhyme, _)) (List.mem_of_getElem? (i := 7) rfl)
theorem ts1_8 : Cond.selects RX7 yX7_tuneVoice yX7_tuneVoice ∈ gtbl := tp1 (q := (yX7_tuneVoice, _)) (List.mem_of_getElem? (i := 8) rfl)
theorem ts1_9 : Cond.selects RX4 yX4_lawInForce yX4_lawInForce ∈ gtbl := tp1 (q := (yX4_lawInForce, _)) (List.mem_of_getElem? (i := 9) rfl)
theorem ts1_10 : Cond.selects RX6 yX6_tune yX6_tune ∈ gtbl := tp1 (q := (yX6_tune, _)) (List.mem_of_getElem? (i := 10) rfl)
theorem ts1_11 : Cond.selects RX6 yX6_lengthOf yX6_lengthOf ∈ gtbl := tp1 (q := (yX6_lengthOf, _)) (List.mem_of_getElem? (i := 11) rfl)
theorem ts1_12 : Cond.selects RX5 yX5_has yX5_has ∈ gtbl := tp1 (q := (yX5_has, _)) (List.mem_of_getElem? (i := 12) rfl)
theorem ts1_13 : Cond.selects RX6 yX6_gatherFacts yX6_gatherFacts ∈ gtbl := tp1 (q := (yX6_gatherFacts, _)) (List.mem_of_getElem? (i := 13) rfl)
theorem ts1_14 : Cond.selects RX5 yX5_worth yX5_worth ∈ gtbl := tp1 (q := (yX5_worth, _)) (List.mem_of_getElem? (i := 14) rfl)
theorem ts1_15 : Cond.selects RX6 yX6_isSo yX6_isSo ∈ gtbl := tp1 (q := (yX6_isSo, _)) (List.mem_of_getElem? (i := 15) rfl)
theorem ts2_0 : Cond.selects RX3 yX3_hasRoomFor yX3_hasRoomFor ∈ gtbl := tp2 (q := (yX3_hasRoomFor, _)) (List.mem_of_getElem? (i := 0) rfl)
theorem ts2_1 : Cond.selects RX3 yX3_append yX3_append ∈ gtbl := tp2 (q := (yX3_append, _)) (List.mem_of_getElem? (i := 1) rfl)
theorem ts2_2 : Cond.selects RX3 yX3_readAll yX3_readAll ∈ gtbl := tp2 (q := (yX3_readAll, _)) (List.mem_of_getElem? (i := 2) rfl)
theorem ts2_3 : Cond.selects RX5 yX5_clear yX5_clear ∈ gtbl := tp2 (q := (yX5_clear, _)) (List.mem_of_getElem? (i := 3) rfl)
theorem ts2_4 : Cond.selects RX3 yX3_step yX3_step ∈ gtbl := tp2 (q := (yX3_step, _)) (List.mem_of_getElem? (i := 4) rfl)
theorem ts2_5 : Cond.selects RX3 yX3_clause yX3_clause ∈ gtbl := tp2 (q := (yX3_clause, _)) (List.mem_of_getElem? (i := 5) rfl)
theorem ts2_6 : Cond.selects RX3 yX3_which yX3_which ∈ gtbl := tp2 (q := (yX3_which, _)) (List.mem_of_getElem? (i := 6) rfl)
theorem ts2_7 : Cond.selects RX3 yX3_sum yX3_sum ∈ gtbl := tp2 (q := (yX3_sum, _)) (List.mem_of_getElem? (i := 7) rfl)
theorem ts2_8 : Cond.selects RX3 yX3_part yX3_part ∈ gtbl := tp2 (q := (yX3_part, _)) (List.mem_of_getElem? (i := 8) rfl)
theorem ts2_9 : Cond.selects RX3 yX3_isSign yX3_isSign ∈ gtbl := tp2 (q := (yX3_isSign, _)) (List.mem_of_getElem? (i := 9) rfl)
theorem ts2_10 : Cond.selects RX5 yX5_put yX5_put ∈ gtbl := tp2 (q := (yX5_put, _)) (List.mem_of_getElem? (i := 10) rfl)
theorem ts2_11 : Cond.selects RX3 yX3_test yX3_test ∈ gtbl := tp2 (q := (yX3_test, _)) (List.mem_of_getElem? (i := 11) rfl)
theorem ts2_12 : Cond.selects RX3 yX3_plain yX3_plain ∈ gtbl := tp2 (q := (yX3_plain, _)) (List.mem_of_getElem? (i := 12) rfl)
theorem ts2_13 : Cond.selects RX5 yX5_land yX5_land ∈ gtbl := tp2 (q := (yX5_land, _)) (List.mem_of_getElem? (i := 13) rfl)
theorem ts2_14 : Cond.selects RX5 yX5_putJump yX5_putJump ∈ gtbl := tp2 (q := (yX5_putJump, _)) (List.mem_of_getElem? (i := 14) rfl)
theorem ts2_15 : Cond.selects RX5 yX5_trimmed yX5_trimmed ∈ gtbl := tp2 (q := (yX5_trimmed, _)) (List.mem_of_getElem? (i := 15) rfl)
theorem ts3_0 : Cond.selects RX7 yX7_runWhollyOrNot yX7_runWhollyOrNot ∈ gtbl := tp3 (q := (yX7_runWhollyOrNot, _)) (List.mem_of_getElem? (i := 0) rfl)
theorem ts3_1 : Cond.selects RX2 yX2_becomes yX2_becomes ∈ gtbl := tp3 (q := (yX2_becomes, _)) (List.mem_of_getElem? (i := 1) rfl)
theorem ts3_2 : Cond.selects RX7 yX7_gatherFacts yX7_gatherFacts ∈ gtbl := tp3 (q := (yX7_gatherFacts, _)) (List.mem_of_getElem? (i := 2) rfl)
theorem ts3_3 : Cond.selects RX7 yX7_runClause yX7_runClause ∈ gtbl := tp3 (q := (yX7_runClause, _)) (List.mem_of_getElem? (i := 3) rfl)
theorem ts3_4 : Cond.selects RX7 yX7_performSaying yX7_performSaying ∈ gtbl := tp3 (q := (yX7_performSaying, _)) (List.mem_of_getElem? (i := 4) rfl)
theorem ts3_5 : Cond.selects RX4 yX4_place yX4_place ∈ gtbl := tp3 (q := (yX4_place, _)) (List.mem_of_getElem? (i := 5) rfl)
theorem ts3_6 : Cond.selects RX6 yX6_speak yX6_speak ∈ gtbl := tp3 (q := (yX6_speak, _)) (List.mem_of_getElem? (i := 6) rfl)
theorem ts3_7 : Cond.selects RX6 yX6_firstIn yX6_firstIn ∈ gtbl := tp3 (q := (yX6_firstIn, _)) (List.mem_of_getElem? (i := 7) rfl)
theorem ts3_8 : Cond.selects RX6 yX6_nextIn yX6_nextIn ∈ gtbl := tp3 (q := (yX6_nextIn, _)) (List.mem_of_getElem? (i := 8) rfl)
theorem ts3_9 : Cond.selects RX2 yX2_keep yX2_keep ∈ gtbl := tp3 (q := (yX2_keep, _)) (List.mem_of_getElem? (i := 9) rfl)
theorem ts3_10 : Cond.selects RX6 yX6_stateBehind yX6_stateBehind ∈ gtbl := tp3 (q := (yX6_stateBehind, _)) (List.mem_of_getElem? (i := 10) rfl)
theorem ts3_11 : Cond.selects RX4 yX4_settle yX4_settle ∈ gtbl := tp3 (q := (yX4_settle, _)) (List.mem_of_getElem? (i := 11) rfl)
theorem ts3_12 : Cond.selects RX7 yX7_performMove yX7_performMove ∈ gtbl := tp3 (q := (yX7_performMove, _)) (List.mem_of_getElem? (i := 12) rfl)
theorem ts3_13 : Cond.selects RX7 yX7_performRound yX7_performRound ∈ gtbl := tp3 (q := (yX7_performRound, _)) (List.mem_of_getElem? (i := 13) rfl)
theorem ts3_14 : Cond.selects RX4 yX4_everyone yX4_everyone ∈ gtbl := tp3 (q := (yX4_everyone, _)) (List.mem_of_getElem? (i := 14) rfl)
theorem ts3_15 : Cond.selects RX7 yX7_answered yX7_answered ∈ gtbl := tp3 (q := (yX7_answered, _)) (List.mem_of_getElem? (i := 15) rfl)
theorem ts4_0 : Cond.selects RX4 yX4_lacksLaw yX4_lacksLaw ∈ gtbl := tp4 (q := (yX4_lacksLaw, _)) (List.mem_of_getElem? (i := 0) rfl)
theorem ts4_1 : Cond.selects RX2 yX2_takeBack yX2_takeBack ∈ gtbl := tp4 (q := (yX2_takeBack, _)) (List.mem_of_getElem? (i := 1) rfl)
theorem ts4_2 : Cond.selects RX4 yX4_state yX4_state ∈ gtbl := tp4 (q := (yX4_state, _)) (List.mem_of_getElem? (i := 2) rfl)
theorem ts4_3 : Cond.selects RX1 yX1_lastBy yX1_lastBy ∈ gtbl := tp4 (q := (yX1_lastBy, _)) (List.mem_of_getElem? (i := 3) rfl)
theorem ts4_4 : Cond.selects RX6 yX6_after yX6_after ∈ gtbl := tp4 (q := (yX6_after, _)) (List.mem_of_getElem? (i := 4) rfl)
theorem ts4_5 : Cond.selects RX1 yX1_reach yX1_reach ∈ gtbl := tp4 (q := (yX1_reach, _)) (List.mem_of_getElem? (i := 5) rfl)
theorem ts4_6 : Cond.selects RX1 yX1_sayingsTo yX1_sayingsTo ∈ gtbl := tp4 (q := (yX1_sayingsTo, _)) (List.mem_of_getElem? (i := 6) rfl)
theorem ts4_7 : Cond.selects RX1 yX1_rhymeAhead yX1_rhymeAhead ∈ gtbl := tp4 (q := (yX1_rhymeAhead, _)) (List.mem_of_getElem? (i := 7) rfl)
theorem ts4_8 : Cond.selects RX1 yX1_play yX1_play ∈ gtbl := tp4 (q := (yX1_play, _)) (List.mem_of_getElem? (i := 8) rfl)
theorem ts4_9 : Cond.selects RX1 yX1_choose yX1_choose ∈ gtbl := tp4 (q := (yX1_choose, _)) (List.mem_of_getElem? (i := 9) rfl)
theorem ts4_10 : Cond.selects RX1 yX1_partsIn yX1_partsIn ∈ gtbl := tp4 (q := (yX1_partsIn, _)) (List.mem_of_getElem? (i := 10) rfl)
theorem ts4_11 : Cond.selects RX1 yX1_handOn yX1_handOn ∈ gtbl := tp4 (q := (yX1_handOn, _)) (List.mem_of_getElem? (i := 11) rfl)
theorem ts4_12 : Cond.selects RX1 yX1_rowsSaid yX1_rowsSaid ∈ gtbl := tp4 (q := (yX1_rowsSaid, _)) (List.mem_of_getElem? (i := 12) rfl)
theorem ts4_13 : Cond.selects RX1 yX1_leadsHere yX1_leadsHere ∈ gtbl := tp4 (q := (yX1_leadsHere, _)) (List.mem_of_getElem? (i := 13) rfl)
theorem ts4_14 : Cond.selects RX1 yX1_digit yX1_digit ∈ gtbl := tp4 (q := (yX1_digit, _)) (List.mem_of_getElem? (i := 14) rfl)
theorem ts4_15 : Cond.selects RX0 yX0_run yX0_run ∈ gtbl := tp4 (q := (yX0_run, _)) (List.mem_of_getElem? (i := 15) rfl)
theorem ts5_0 : Cond.selects RX0 yX0_stateBehindDraws yX0_stateBehindDraws ∈ gtbl := tp5 (q := (yX0_stateBehindDraws, _)) (List.mem_of_getElem? (i := 0) rfl)
theorem ts5_1 : Cond.selects RX0 yX0_draw yX0_draw ∈ gtbl := tp5 (q := (yX0_draw, _)) (List.mem_of_getElem? (i := 1) rfl)
theorem ts5_2 : Cond.selects RX4 yX4_becomes yX4_becomes ∈ gtbl := tp5 (q := (yX4_becomes, _)) (List.mem_of_getElem? (i := 2) rfl)
theorem ts5_3 : Cond.selects RX8 yX8_refuses yX8_refuses ∈ gtbl := tp5 (q := (yX8_refuses, _)) (List.mem_of_getElem? (i := 3) rfl)
theorem ts5_4 : Cond.selects RX8 yX8_good yX8_good ∈ gtbl := tp5 (q := (yX8_good, _)) (List.mem_of_getElem? (i := 4) rfl)
theorem ts5_5 : Cond.selects RX8 yX8_settled yX8_settled ∈ gtbl := tp5 (q := (yX8_settled, _)) (List.mem_of_getElem? (i := 5) rfl)
theorem ts5_6 : Cond.selects RX8 yX8_addsChild yX8_addsChild ∈ gtbl := tp5 (q := (yX8_addsChild, _)) (List.mem_of_getElem? (i := 6) rfl)
theorem ts5_7 : Cond.selects RX8 yX8_isChild yX8_isChild ∈ gtbl := tp5 (q := (yX8_isChild, _)) (List.mem_of_getElem? (i := 7) rfl)
theorem ts5_8 : Cond.selects RX8 yX8_isRhyme yX8_isRhyme ∈ gtbl := tp5 (q := (yX8_isRhyme, _)) (List.mem_of_getElem? (i := 8) rfl)
theorem ts5_9 : Cond.selects RX8 yX8_readsAs yX8_readsAs ∈ gtbl := tp5 (q := (yX8_readsAs, _)) (List.mem_of_getElem? (i := 9) rfl)
theorem ts5_10 : Cond.selects RX8 yX8_reads yX8_reads ∈ gtbl := tp5 (q := (yX8_reads, _)) (List.mem_of_getElem? (i := 10) rfl)
theorem ts5_11 : Cond.selects RX8 yX8_splits yX8_splits ∈ gtbl := tp5 (q := (yX8_splits, _)) (List.mem_of_getElem? (i := 11) rfl)
theorem ts5_12 : Cond.selects RX8 yX8_wordOf yX8_wordOf ∈ gtbl := tp5 (q := (yX8_wordOf, _)) (List.mem_of_getElem? (i := 12) rfl)
theorem ts5_13 : Cond.selects RX8 yX8_readOne yX8_readOne ∈ gtbl := tp5 (q := (yX8_readOne, _)) (List.mem_of_getElem? (i := 13) rfl)
theorem ts5_14 : Cond.selects RX8 yX8_readOrder yX8_readOrder ∈ gtbl := tp5 (q := (yX8_readOrder, _)) (List.mem_of_getElem? (i := 14) rfl)
theorem ts5_15 : Cond.selects RX8 yX8_takes0 yX8_takes0 ∈ gtbl := tp5 (q := (yX8_takes0, _)) (List.mem_of_getElem? (i := 15) rfl)
theorem ts6_0 : Cond.selects RX8 yX8_fine yX8_fine ∈ gtbl := tp6 (q := (yX8_fine, _)) (List.mem_of_getElem? (i := 0) rfl)
theorem ts6_1 : Cond.selects RX8 yX8_readSum yX8_readSum ∈ gtbl := tp6 (q := (yX8_readSum, _)) (List.mem_of_getElem? (i := 1) rfl)
theorem ts6_2 : Cond.selects RX8 yX8_readTerm yX8_readTerm ∈ gtbl := tp6 (q := (yX8_readTerm, _)) (List.mem_of_getElem? (i := 2) rfl)
theorem ts6_3 : Cond.selects RX8 yX8_readPart yX8_readPart ∈ gtbl := tp6 (q := (yX8_readPart, _)) (List.mem_of_getElem? (i := 3) rfl)
theorem ts6_4 : Cond.selects RX8 yX8_faults yX8_faults ∈ gtbl := tp6 (q := (yX8_faults, _)) (List.mem_of_getElem? (i := 4) rfl)
theorem ts6_5 : Cond.selects RX8 yX8_must yX8_must ∈ gtbl := tp6 (q := (yX8_must, _)) (List.mem_of_getElem? (i := 5) rfl)
theorem ts6_6 : Cond.selects RX8 yX8_leaf yX8_leaf ∈ gtbl := tp6 (q := (yX8_leaf, _)) (List.mem_of_getElem? (i := 6) rfl)
theorem ts6_7 : Cond.selects RX8 yX8_mustNumber yX8_mustNumber ∈ gtbl := tp6 (q := (yX8_mustNumber, _)) (List.mem_of_getElem? (i := 7) rfl)
theorem ts6_8 : Cond.selects RX8 yX8_readTest yX8_readTest ∈ gtbl := tp6 (q := (yX8_readTest, _)) (List.mem_of_getElem? (i := 8) rfl)
theorem ts6_9 : Cond.selects RX8 yX8_readBoth yX8_readBoth ∈ gtbl := tp6 (q := (yX8_readBoth, _)) (List.mem_of_getElem? (i := 9) rfl)
theorem ts6_10 : Cond.selects RX8 yX8_readPlain yX8_readPlain ∈ gtbl := tp6 (q := (yX8_readPlain, _)) (List.mem_of_getElem? (i := 10) rfl)
theorem ts6_11 : Cond.selects RX8 yX8_readClause yX8_readClause ∈ gtbl := tp6 (q := (yX8_readClause, _)) (List.mem_of_getElem? (i := 11) rfl)
theorem ts6_12 : Cond.selects RX8 yX8_lays yX8_lays ∈ gtbl := tp6 (q := (yX8_lays, _)) (List.mem_of_getElem? (i := 12) rfl)
theorem ts6_13 : Cond.selects RX8 yX8_isLaw yX8_isLaw ∈ gtbl := tp6 (q := (yX8_isLaw, _)) (List.mem_of_getElem? (i := 13) rfl)
theorem ts6_14 : Cond.selects RX8 yX8_inside yX8_inside ∈ gtbl := tp6 (q := (yX8_inside, _)) (List.mem_of_getElem? (i := 14) rfl)
theorem ts6_15 : Cond.selects RX8 yX8_beatsOf yX8_beatsOf ∈ gtbl := tp6 (q := (yX8_beatsOf, _)) (List.mem_of_getElem? (i := 15) rfl)
theorem ts7_0 : Cond.selects RX8 yX8_tells yX8_tells ∈ gtbl := tp7 (q := (yX8_tells, _)) (List.mem_of_getElem? (i := 0) rfl)
theorem ts7_1 : Cond.selects RX8 yX8_setsAsked yX8_setsAsked ∈ gtbl := tp7 (q := (yX8_setsAsked, _)) (List.mem_of_getElem? (i := 1) rfl)
theorem ts7_2 : Cond.selects RX8 yX8_codeAt yX8_codeAt ∈ gtbl := tp7 (q := (yX8_codeAt, _)) (List.mem_of_getElem? (i := 2) rfl)
theorem ts7_3 : Cond.selects RX8 yX8_sumOf yX8_sumOf ∈ gtbl := tp7 (q := (yX8_sumOf, _)) (List.mem_of_getElem? (i := 3) rfl)
theorem ts7_4 : Cond.selects RX8 yX8_termOf yX8_termOf ∈ gtbl := tp7 (q := (yX8_termOf, _)) (List.mem_of_getElem? (i := 4) rfl)
theorem ts7_5 : Cond.selects RX8 yX8_partOf yX8_partOf ∈ gtbl := tp7 (q := (yX8_partOf, _)) (List.mem_of_getElem? (i := 5) rfl)
theorem ts7_6 : Cond.selects RX8 yX8_passes0 yX8_passes0 ∈ gtbl := tp7 (q := (yX8_passes0, _)) (List.mem_of_getElem? (i := 6) rfl)
theorem ts7_7 : Cond.selects RX8 yX8_orderValue yX8_orderValue ∈ gtbl := tp7 (q := (yX8_orderValue, _)) (List.mem_of_getElem? (i := 7) rfl)
theorem ts7_8 : Cond.selects RX8 yX8_bounded yX8_bounded ∈ gtbl := tp7 (q := (yX8_bounded, _)) (List.mem_of_getElem? (i := 8) rfl)
theorem ts7_9 : Cond.selects RX8 yX8_testOf yX8_testOf ∈ gtbl := tp7 (q := (yX8_testOf, _)) (List.mem_of_getElem? (i := 9) rfl)
theorem ts7_10 : Cond.selects RX8 yX8_bothOf yX8_bothOf ∈ gtbl := tp7 (q := (yX8_bothOf, _)) (List.mem_of_getElem? (i := 10) rfl)
theorem ts7_11 : Cond.selects RX8 yX8_plainOf yX8_plainOf ∈ gtbl := tp7 (q := (yX8_plainOf, _)) (List.mem_of_getElem? (i := 11) rfl)
theorem ts7_12 : Cond.selects RX8 yX8_positiveOf yX8_positiveOf ∈ gtbl := tp7 (q := (yX8_positiveOf, _)) (List.mem_of_getElem? (i := 12) rfl)
theorem ts7_13 : Cond.selects RX8 yX8_isSo yX8_isSo ∈ gtbl := tp7 (q := (yX8_isSo, _)) (List.mem_of_getElem? (i := 13) rfl)
theorem ts7_14 : Cond.selects RX8 yX8_canSay yX8_canSay ∈ gtbl := tp7 (q := (yX8_canSay, _)) (List.mem_of_getElem? (i := 14) rfl)
theorem ts7_15 : Cond.selects RX8 yX8_counts yX8_counts ∈ gtbl := tp7 (q := (yX8_counts, _)) (List.mem_of_getElem? (i := 15) rfl)
theorem ts8_0 : Cond.selects RX8 yX8_beginner yX8_beginner ∈ gtbl := tp8 (q := (yX8_beginner, _)) (List.mem_of_getElem? (i := 0) rfl)
theorem ts8_1 : Cond.selects RX8 yX8_nextIn yX8_nextIn ∈ gtbl := tp8 (q := (yX8_nextIn, _)) (List.mem_of_getElem? (i := 1) rfl)
theorem ts8_2 : Cond.selects RX8 yX8_passedOn yX8_passedOn ∈ gtbl := tp8 (q := (yX8_passedOn, _)) (List.mem_of_getElem? (i := 2) rfl)
theorem ts8_3 : Cond.selects RX8 yX8_saysKept yX8_saysKept ∈ gtbl := tp8 (q := (yX8_saysKept, _)) (List.mem_of_getElem? (i := 3) rfl)
theorem ts8_4 : Cond.selects RX8 yX8_keepsAll yX8_keepsAll ∈ gtbl := tp8 (q := (yX8_keepsAll, _)) (List.mem_of_getElem? (i := 4) rfl)
theorem ts8_5 : Cond.selects RX8 yX8_forgetsEldest yX8_forgetsEldest ∈ gtbl := tp8 (q := (yX8_forgetsEldest, _)) (List.mem_of_getElem? (i := 5) rfl)
theorem ts8_6 : Cond.selects RX8 yX8_says yX8_says ∈ gtbl := tp8 (q := (yX8_says, _)) (List.mem_of_getElem? (i := 6) rfl)
theorem ts8_7 : Cond.selects RX8 yX8_goodOr yX8_goodOr ∈ gtbl := tp8 (q := (yX8_goodOr, _)) (List.mem_of_getElem? (i := 7) rfl)
theorem ts8_8 : Cond.selects RX8 yX8_joinsKept yX8_joinsKept ∈ gtbl := tp8 (q := (yX8_joinsKept, _)) (List.mem_of_getElem? (i := 8) rfl)
theorem ts8_9 : Cond.selects RX8 yX8_leavesKept yX8_leavesKept ∈ gtbl := tp8 (q := (yX8_leavesKept, _)) (List.mem_of_getElem? (i := 9) rfl)
theorem ts8_10 : Cond.selects RX8 yX8_passesKept yX8_passesKept ∈ gtbl := tp8 (q := (yX8_passesKept, _)) (List.mem_of_getElem? (i := 10) rfl)
theorem ts8_11 : Cond.selects RX8 yX8_roundPasses yX8_roundPasses ∈ gtbl := tp8 (q := (yX8_roundPasses, _)) (List.mem_of_getElem? (i := 11) rfl)
theorem ts8_12 : Cond.selects RX8 yX8_allChildren yX8_allChildren ∈ gtbl := tp8 (q := (yX8_allChildren, _)) (List.mem_of_getElem? (i := 12) rfl)
theorem ts8_13 : Cond.selects RX8 yX8_leftBy yX8_leftBy ∈ gtbl := tp8 (q := (yX8_leftBy, _)) (List.mem_of_getElem? (i := 13) rfl)
theorem ts8_14 : Cond.selects RX8 yX8_laysAside yX8_laysAside ∈ gtbl := tp8 (q := (yX8_laysAside, _)) (List.mem_of_getElem? (i := 14) rfl)
theorem ts8_15 : Cond.selects RX8 yX8_aloneNow yX8_aloneNow ∈ gtbl := tp8 (q := (yX8_aloneNow, _)) (List.mem_of_getElem? (i := 15) rfl)
theorem ts9_0 : Cond.selects RX8 yX8_takesBack yX8_takesBack ∈ gtbl := tp9 (q := (yX8_takesBack, _)) (List.mem_of_getElem? (i := 0) rfl)
theorem ts9_1 : Cond.selects RX8 yX8_laysLeads yX8_laysLeads ∈ gtbl := tp9 (q := (yX8_laysLeads, _)) (List.mem_of_getElem? (i := 1) rfl)
theorem ts9_2 : Cond.selects RX8 yX8_isState yX8_isState ∈ gtbl := tp9 (q := (yX8_isState, _)) (List.mem_of_getElem? (i := 2) rfl)
theorem ts9_3 : Cond.selects RX8 yX8_setsState yX8_setsState ∈ gtbl := tp9 (q := (yX8_setsState, _)) (List.mem_of_getElem? (i := 3) rfl)
theorem ts9_4 : Cond.selects RX8 yX8_stateNow yX8_stateNow ∈ gtbl := tp9 (q := (yX8_stateNow, _)) (List.mem_of_getElem? (i := 4) rfl)
theorem ts9_5 : Cond.selects RX8 yX8_reachesAlone yX8_reachesAlone ∈ gtbl := tp9 (q := (yX8_reachesAlone, _)) (List.mem_of_getElem? (i := 5) rfl)
theorem ts9_6 : Cond.selects RX8 yX8_reaches yX8_reaches ∈ gtbl := tp9 (q := (yX8_reaches, _)) (List.mem_of_getElem? (i := 6) rfl)
theorem ts9_7 : Cond.selects RX8 yX8_laysEnd yX8_laysEnd ∈ gtbl := tp9 (q := (yX8_laysEnd, _)) (List.mem_of_getElem? (i := 7) rfl)
theorem ts9_8 : Cond.selects RX8 yX8_laysIts yX8_laysIts ∈ gtbl := tp9 (q := (yX8_laysIts, _)) (List.mem_of_getElem? (i := 8) rfl)
theorem ts9_9 : Cond.selects RX8 yX8_itAt yX8_itAt ∈ gtbl := tp9 (q := (yX8_itAt, _)) (List.mem_of_getElem? (i := 9) rfl)
theorem ts9_10 : Cond.selects RX8 yX8_choiceAt yX8_choiceAt ∈ gtbl := tp9 (q := (yX8_choiceAt, _)) (List.mem_of_getElem? (i := 10) rfl)
theorem ts9_11 : Cond.selects RX8 yX8_spreads yX8_spreads ∈ gtbl := tp9 (q := (yX8_spreads, _)) (List.mem_of_getElem? (i := 11) rfl)
theorem ts9_12 : Cond.selects RX8 yX8_spreadsPart yX8_spreadsPart ∈ gtbl := tp9 (q := (yX8_spreadsPart, _)) (List.mem_of_getElem? (i := 12) rfl)
theorem ts9_13 : Cond.selects RX8 yX8_partsOf yX8_partsOf ∈ gtbl := tp9 (q := (yX8_partsOf, _)) (List.mem_of_getElem? (i := 13) rfl)
theorem ts9_14 : Cond.selects RX8 yX8_rowsOf yX8_rowsOf ∈ gtbl := tp9 (q := (yX8_rowsOf, _)) (List.mem_of_getElem? (i := 14) rfl)
theorem ts9_15 : Cond.selects RX8 yX8_laysRow yX8_laysRow ∈ gtbl := tp9 (q := (yX8_laysRow, _)) (List.mem_of_getElem? (i := 15) rfl)
theorem ts10_0 : Cond.selects RX8 yX8_endOf yX8_endOf ∈ gtbl := tp10 (q := (yX8_endOf, _)) (List.mem_of_getElem? (i := 0) rfl)
theorem ts10_1 : Cond.selects RX8 yX8_laysAllAside yX8_laysAllAside ∈ gtbl := tp10 (q := (yX8_laysAllAside, _)) (List.mem_of_getElem? (i := 1) rfl)
theorem ts10_2 : Cond.selects RX8 yX8_runs yX8_runs ∈ gtbl := tp10 (q := (yX8_runs, _)) (List.mem_of_getElem? (i := 2) rfl)
theorem ts10_3 : Cond.selects RX8 yX8_goesAlong yX8_goesAlong ∈ gtbl := tp10 (q := (yX8_goesAlong, _)) (List.mem_of_getElem? (i := 3) rfl)
theorem ts10_4 : Cond.selects RX8 yX8_obeys yX8_obeys ∈ gtbl := tp10 (q := (yX8_obeys, _)) (List.mem_of_getElem? (i := 4) rfl)
theorem ts10_5 : Cond.selects RX8 yX8_takesAllBack yX8_takesAllBack ∈ gtbl := tp10 (q := (yX8_takesAllBack, _)) (List.mem_of_getElem? (i := 5) rfl)
theorem ts10_6 : Cond.selects RX8 yX8_canGoOn yX8_canGoOn ∈ gtbl := tp10 (q := (yX8_canGoOn, _)) (List.mem_of_getElem? (i := 6) rfl)
theorem ts10_7 : Cond.selects RX8 yX8_saysDrawn yX8_saysDrawn ∈ gtbl := tp10 (q := (yX8_saysDrawn, _)) (List.mem_of_getElem? (i := 7) rfl)
theorem ts10_8 : Cond.selects RX8 yX8_draws yX8_draws ∈ gtbl := tp10 (q := (yX8_draws, _)) (List.mem_of_getElem? (i := 8) rfl)
theorem inX0 : ∀ w ∈ u_ws RX0 TX0 6, w ∈ gtbl := by
  intro w hw
  obtain ⟨j, hj, rfl⟩ := List.mem_map.mp hw
  have hj := List.mem_range.mp hj
  match j, hj with
  | 0, _ => exact tw2_51
  | 1, _ => exact tw2_53
  | 2, _ => exact tw2_55
  | 3, _ => exact tw2_57
  | 4, _ => exact tw2_59
  | 5, _ => exact tw2_61
  | j + 6, h => exact absurd h (by omega)
theorem inX1 : ∀ w ∈ u_ws RX1 TX1 12, w ∈ gtbl := by
  intro w hw
  obtain ⟨j, hj, rfl⟩ := List.mem_map.mp hw
  have hj := List.mem_range.mp hj
  match j, hj with
  | 0, _ => exact tw2_10
  | 1, _ => exact tw2_12
  | 2, _ => exact tw2_14
  | 3, _ => exact tw2_16
  | 4, _ => exact tw2_18
  | 5, _ => exact tw2_20
  | 6, _ => exact tw2_22
  | 7, _ => exact tw2_24
  | 8, _ => exact tw2_26
  | 9, _ => exact tw2_28
  | 10, _ => exact tw2_30
  | 11, _ => exact tw2_32
  | j + 12, h => exact absurd h (by omega)
theorem inX2 : ∀ w ∈ u_ws RX2 TX2 2, w ∈ gtbl := by
  intro w hw
  obtain ⟨j, hj, rfl⟩ := List.mem_map.mp hw
  have hj := List.mem_range.mp hj
  match j, hj with
  | 0, _ => exact tw1_182
  | 1, _ => exact tw1_184
  | j + 2, h => exact absurd h (by omega)
theorem inX3 : ∀ w ∈ u_ws RX3 TX3 9, w ∈ gtbl := by
  intro w hw
  obtain ⟨j, hj, rfl⟩ := List.mem_map.mp hw
  have hj := List.mem_range.mp hj
  match j, hj with
  | 0, _ => exact tw1_154
  | 1, _ => exact tw1_156
  | 2, _ => exact tw1_158
  | 3, _ => exact tw1_160
  | 4, _ => exact tw1_162
  | 5, _ => exact tw1_164
  | 6, _ => exact tw1_166
  | 7, _ => exact tw1_168
  | 8, _ => exact tw1_170
  | j + 9, h => exact absurd h (by omega)
theorem inX4 : ∀ w ∈ u_ws RX4 TX4 9, w ∈ gtbl := by
  intro w hw
  obtain ⟨j, hj, rfl⟩ := List.mem_map.mp hw
  have hj := List.mem_range.mp hj
  match j, hj with
  | 0, _ => exact tw1_64
  | 1, _ => exact tw1_66
  | 2, _ => exact tw1_68
  | 3, _ => exact tw1_70
  | 4, _ => exact tw1_72
  | 5, _ => exact tw1_74
  | 6, _ => exact tw1_76
  | 7, _ => exact tw1_78
  | 8, _ => exact tw1_80
  | j + 9, h => exact absurd h (by omega)
theorem inX5 : ∀ w ∈ u_ws RX5 TX5 8, w ∈ gtbl := by
  intro w hw
  obtain ⟨j, hj, rfl⟩ := List.mem_map.mp hw
  have hj := List.mem_range.mp hj
  match j, hj with
  | 0, _ => exact tw1_124
  | 1, _ => exact tw1_126
  | 2, _ => exact tw1_128
  | 3, _ => exact tw1_130
  | 4, _ => exact tw1_132
  | 5, _ => exact tw1_134
  | 6, _ => exact tw1_136
  | 7, _ => exact tw1_138
  | j + 8, h => exact absurd h (by omega)
theorem inX6 : ∀ w ∈ u_ws RX6 TX6 11, w ∈ gtbl := by
  intro w hw
  obtain ⟨j, hj, rfl⟩ := List.mem_map.mp hw
  have hj := List.mem_range.mp hj
  match j, hj with
  | 0, _ => exact tw1_206
  | 1, _ => exact tw1_208
  | 2, _ => exact tw1_210
  | 3, _ => exact tw1_212
  | 4, _ => exact tw1_214
  | 5, _ => exact tw1_216
  | 6, _ => exact tw1_218
  | 7, _ => exact tw1_220
  | 8, _ => exact tw1_222
  | 9, _ => exact tw1_224
  | 10, _ => exact tw1_226
  | j + 11, h => exact absurd h (by omega)
theorem inX7 : ∀ w ∈ u_ws RX7 TX7 15, w ∈ gtbl := by
  intro w hw
  obtain ⟨j, hj, rfl⟩ := List.mem_map.mp hw
  have hj := List.mem_range.mp hj
  match j, hj with
  | 0, _ => exact tw2_79
  | 1, _ => exact tw2_81
  | 2, _ => exact tw2_83
  | 3, _ => exact tw2_85
  | 4, _ => exact tw2_87
  | 5, _ => exact tw2_89
  | 6, _ => exact tw2_91
  | 7, _ => exact tw2_93
  | 8, _ => exact tw2_95
  | 9, _ => exact tw2_97
  | 10, _ => exact tw2_99
  | 11, _ => exact tw2_101
  | 12, _ => exact tw2_103
  | 13, _ => exact tw2_105
  | 14, _ => exact tw2_107
  | j + 15, h => exact absurd h (by omega)
theorem inX8 : ∀ w ∈ u_ws RX8 TX8 59, w ∈ gtbl := by
  intro w hw
  obtain ⟨j, hj, rfl⟩ := List.mem_map.mp hw
  have hj := List.mem_range.mp hj
  match j, hj with
  | 0, _ => exact tw4_234
  | 1, _ => exact tw4_236
  | 2, _ => exact tw4_238
  | 3, _ => exact tw5_0
  | 4, _ => exact tw5_2
  | 5, _ => exact tw5_4
  | 6, _ => exact tw5_6
  | 7, _ => exact tw5_8
  | 8, _ => exact tw5_10
  | 9, _ => exact tw5_12
  | 10, _ => exact tw5_14
  | 11, _ => exact tw5_16
  | 12, _ => exact tw5_18
  | 13, _ => exact tw5_20
  | 14, _ => exact tw5_22
  | 15, _ => exact tw5_24
  | 16, _ => exact tw5_26
  | 17, _ => exact tw5_28
  | 18, _ => exact tw5_30
  | 19, _ => exact tw5_32
  | 20, _ => exact tw5_34
  | 21, _ => exact tw5_36
  | 22, _ => exact tw5_38
  | 23, _ => exact tw5_40
  | 24, _ => exact tw5_42
  | 25, _ => exact tw5_44
  | 26, _ => exact tw5_46
  | 27, _ => exact tw5_48
  | 28, _ => exact tw5_50
  | 29, _ => exact tw5_52
  | 30, _ => exact tw5_54
  | 31, _ => exact tw5_56
  | 32, _ => exact tw5_58
  | 33, _ => exact tw5_60
  | 34, _ => exact tw5_62
  | 35, _ => exact tw5_64
  | 36, _ => exact tw5_66
  | 37, _ => exact tw5_68
  | 38, _ => exact tw5_70
  | 39, _ => exact tw5_72
  | 40, _ => exact tw5_74
  | 41, _ => exact tw5_76
  | 42, _ => exact tw5_78
  | 43, _ => exact tw5_80
  | 44, _ => exact tw5_82
  | 45, _ => exact tw5_84
  | 46, _ => exact tw5_86
  | 47, _ => exact tw5_88
  | 48, _ => exact tw5_90
  | 49, _ => exact tw5_92
  | 50, _ => exact tw5_94
  | 51, _ => exact tw5_96
  | 52, _ => exact tw5_98
  | 53, _ => exact tw5_100
  | 54, _ => exact tw5_102
  | 55, _ => exact tw5_104
  | 56, _ => exact tw5_106
  | 57, _ => exact tw5_108
  | 58, _ => exact tw5_110
  | j + 59, h => exact absurd h (by omega)
abbrev NfT : Type := String × Nat × String × String × String × String
abbrev NmT : Type := String × Nat × MethodName × String
def nfW (q : NfT) : Cond := .fieldLinkNest q.1 q.2.1 q.2.2.1 q.2.2.2.1 q.2.2.2.2.1 q.2.2.2.2.2
def nmW (q : NmT) : Cond := .methodLinkNest q.1 q.2.1 q.2.2.1 q.2.2.2
def nestF : List NfT := [(RX7, 108, RX4, "quick", "[I", RX7), (RX6, 132, RX4, "quick", "[I", RX7), (RX7, 117, RX4, "beats", "[I", RX7), (RX6, 101, RX4, "beats", "[I", RX7), (RX7, 168, RX4, "law", "[LItByRhyme$Script;", RX7), (RX0, 40, RX4, "terms", "[I", RX7), (RX6, 57, RX4, "terms", "[I", RX7), (RX2, 30, RX4, "terms", "[I", RX7), (RX7, 142, RX4, "terms", "[I", RX7), (RX1, 123, RX4, "terms", "[I", RX7), (RX7, 91, RX4, "children", "I", RX7), (RX0, 49, RX4, "children", "I", RX7), (RX6, 91, RX4, "children", "I", RX7), (RX7, 111, RX4, "in", "I", RX7), (RX2, 25, RX4, "in", "I", RX7), (RX1, 120, RX4, "in", "I", RX7), (RX0, 82, RX4, "rhymes", "I", RX7), (RX7, 114, RX4, "rhymes", "I", RX7), (RX1, 80, RX4, "rhymes", "I", RX7), (RX7, 161, RX4, "laws", "I", RX7), (RX7, 190, RX4, "force", "I", RX7), (RX3, 68, RX5, "kinds", "[I", RX7), (RX6, 118, RX5, "kinds", "[I", RX7), (RX7, 323, RX5, "kinds", "[I", RX7), (RX3, 75, RX5, "times", "[I", RX7), (RX7, 305, RX5, "times", "[I", RX7), (RX3, 78, RX5, "sums", "[I", RX7), (RX6, 125, RX5, "sums", "[I", RX7), (RX7, 326, RX5, "sums", "[I", RX7), (RX3, 81, RX5, "tests", "[I", RX7), (RX6, 115, RX5, "tests", "[I", RX7), (RX7, 312, RX5, "tests", "[I", RX7), (RX3, 84, RX5, "clauses", "I", RX7), (RX6, 112, RX5, "clauses", "I", RX7), (RX7, 302, RX5, "clauses", "I", RX7), (RX3, 87, RX5, "size", "I", RX7), (RX3, 72, RX5, "kindsUsed", "I", RX7), (RX7, 157, RX3, "tape", "[B", RX7), (RX7, 172, RX3, "draft", "LItByRhyme$Script;", RX7), (RX7, 154, RX3, "length", "I", RX7), (RX7, 279, RX2, "kept", "I", RX7), (RX7, 211, RX6, "fallen", "[I", RX7), (RX7, 208, RX6, "spoken", "I", RX7), (RX7, 233, RX1, "wentOut", "[I", RX7), (RX7, 230, RX1, "gone", "I", RX7), (RX7, 248, RX1, "chosen", "I", RX7), (RX7, 272, RX0, "timesAlone", "[I", RX7), (RX7, 271, RX0, "children", "I", RX7), (RX7, 275, RX0, "in", "I", RX7)]
def nestM : List NmT := [(RX7, 11, yX4_init, RX7), (RX7, 22, yX3_init, RX7), (RX3, 17, yX5_init, RX7), (RX7, 29, yX2_init, RX7), (RX7, 39, yX6_init, RX7), (RX7, 48, yX1_init, RX7), (RX7, 57, yX0_init, RX7), (RX7, 94, yX4_welcome, RX7), (RX7, 145, yX2_forget, RX7), (RX7, 282, yX6_forget, RX7), (RX7, 104, yX4_lacksChild, RX7), (RX7, 120, yX4_lacksRhyme, RX7), (RX7, 283, yX4_lawInForce, RX7), (RX7, 263, yX6_tune, RX7), (RX7, 131, yX6_lengthOf, RX7), (RX6, 104, yX5_has, RX7), (RX6, 121, yX5_worth, RX7), (RX7, 135, yX6_isSo, RX7), (RX7, 148, yX3_hasRoomFor, RX7), (RX7, 151, yX3_append, RX7), (RX7, 164, yX3_readAll, RX7), (RX3, 47, yX5_clear, RX7), (RX3, 93, yX5_put, RX7), (RX3, 105, yX5_land, RX7), (RX3, 110, yX5_putJump, RX7), (RX7, 176, yX5_trimmed, RX7), (RX7, 299, yX2_becomes, RX7), (RX7, 315, yX5_worth, RX7), (RX7, 196, yX4_place, RX7), (RX7, 204, yX6_speak, RX7), (RX7, 286, yX2_keep, RX7), (RX7, 290, yX6_stateBehind, RX7), (RX7, 293, yX4_settle, RX7), (RX7, 296, yX4_everyone, RX7), (RX7, 187, yX4_lacksLaw, RX7), (RX7, 200, yX6_firstIn, RX7), (RX7, 220, yX2_takeBack, RX7), (RX2, 33, yX4_settle, RX7), (RX7, 224, yX4_state, RX7), (RX7, 227, yX1_lastBy, RX7), (RX1, 65, yX6_after, RX7), (RX7, 236, yX1_reach, RX7), (RX7, 239, yX1_sayingsTo, RX7), (RX7, 242, yX1_rhymeAhead, RX7), (RX7, 245, yX1_play, RX7), (RX1, 92, yX6_firstIn, RX7), (RX7, 253, yX1_partsIn, RX7), (RX1, 100, yX4_everyone, RX7), (RX7, 257, yX1_rowsSaid, RX7), (RX7, 260, yX1_digit, RX7), (RX7, 268, yX0_run, RX7), (RX0, 45, yX4_state, RX7), (RX0, 56, yX1_goesOn, RX7), (RX0, 62, yX4_everyone, RX7), (RX0, 65, yX4_lawInForce, RX7), (RX0, 69, yX6_tune, RX7), (RX0, 88, yX6_speak, RX7), (RX0, 92, yX6_stateBehind, RX7), (RX0, 79, yX1_onlyOneIn, RX7), (RX7, 276, yX4_becomes, RX7)]
theorem nf_0 : ((RX7, 108, RX4, "quick", "[I", RX7) : NfT) ∈ nestF := List.mem_of_getElem? (i := 0) rfl
theorem nf_1 : ((RX6, 132, RX4, "quick", "[I", RX7) : NfT) ∈ nestF := List.mem_of_getElem? (i := 1) rfl
theorem nf_2 : ((RX7, 117, RX4, "beats", "[I", RX7) : NfT) ∈ nestF := List.mem_of_getElem? (i := 2) rfl
theorem nf_3 : ((RX6, 101, RX4, "beats", "[I", RX7) : NfT) ∈ nestF := List.mem_of_getElem? (i := 3) rfl
theorem nf_4 : ((RX7, 168, RX4, "law", "[LItByRhyme$Script;", RX7) : NfT) ∈ nestF := List.mem_of_getElem? (i := 4) rfl
theorem nf_5 : ((RX0, 40, RX4, "terms", "[I", RX7) : NfT) ∈ nestF := List.mem_of_getElem? (i := 5) rfl
theorem nf_6 : ((RX6, 57, RX4, "terms", "[I", RX7) : NfT) ∈ nestF := List.mem_of_getElem? (i := 6) rfl
theorem nf_7 : ((RX2, 30, RX4, "terms", "[I", RX7) : NfT) ∈ nestF := List.mem_of_getElem? (i := 7) rfl
theorem nf_8 : ((RX7, 142, RX4, "terms", "[I", RX7) : NfT) ∈ nestF := List.mem_of_getElem? (i := 8) rfl
theorem nf_9 : ((RX1, 123, RX4, "terms", "[I", RX7) : NfT) ∈ nestF := List.mem_of_getElem? (i := 9) rfl
theorem nf_10 : ((RX7, 91, RX4, "children", "I", RX7) : NfT) ∈ nestF := List.mem_of_getElem? (i := 10) rfl
theorem nf_11 : ((RX0, 49, RX4, "children", "I", RX7) : NfT) ∈ nestF := List.mem_of_getElem? (i := 11) rfl
theorem nf_12 : ((RX6, 91, RX4, "children", "I", RX7) : NfT) ∈ nestF := List.mem_of_getElem? (i := 12) rfl
theorem nf_13 : ((RX7, 111, RX4, "in", "I", RX7) : NfT) ∈ nestF := List.mem_of_getElem? (i := 13) rfl
theorem nf_14 : ((RX2, 25, RX4, "in", "I", RX7) : NfT) ∈ nestF := List.mem_of_getElem? (i := 14) rfl
theorem nf_15 : ((RX1, 120, RX4, "in", "I", RX7) : NfT) ∈ nestF := List.mem_of_getElem? (i := 15) rfl
theorem nf_16 : ((RX0, 82, RX4, "rhymes", "I", RX7) : NfT) ∈ nestF := List.mem_of_getElem? (i := 16) rfl
theorem nf_17 : ((RX7, 114, RX4, "rhymes", "I", RX7) : NfT) ∈ nestF := List.mem_of_getElem? (i := 17) rfl
theorem nf_18 : ((RX1, 80, RX4, "rhymes", "I", RX7) : NfT) ∈ nestF := List.mem_of_getElem? (i := 18) rfl
theorem nf_19 : ((RX7, 161, RX4, "laws", "I", RX7) : NfT) ∈ nestF := List.mem_of_getElem? (i := 19) rfl
theorem nf_20 : ((RX7, 190, RX4, "force", "I", RX7) : NfT) ∈ nestF := List.mem_of_getElem? (i := 20) rfl
theorem nf_21 : ((RX3, 68, RX5, "kinds", "[I", RX7) : NfT) ∈ nestF := List.mem_of_getElem? (i := 21) rfl
theorem nf_22 : ((RX6, 118, RX5, "kinds", "[I", RX7) : NfT) ∈ nestF := List.mem_of_getElem? (i := 22) rfl
theorem nf_23 : ((RX7, 323, RX5, "kinds", "[I", RX7) : NfT) ∈ nestF := List.mem_of_getElem? (i := 23) rfl
theorem nf_24 : ((RX3, 75, RX5, "times", "[I", RX7) : NfT) ∈ nestF := List.mem_of_getElem? (i := 24) rfl
theorem nf_25 : ((RX7, 305, RX5, "times", "[I", RX7) : NfT) ∈ nestF := List.mem_of_getElem? (i := 25) rfl
theorem nf_26 : ((RX3, 78, RX5, "sums", "[I", RX7) : NfT) ∈ nestF := List.mem_of_getElem? (i := 26) rfl
theorem nf_27 : ((RX6, 125, RX5, "sums", "[I", RX7) : NfT) ∈ nestF := List.mem_of_getElem? (i := 27) rfl
theorem nf_28 : ((RX7, 326, RX5, "sums", "[I", RX7) : NfT) ∈ nestF := List.mem_of_getElem? (i := 28) rfl
theorem nf_29 : ((RX3, 81, RX5, "tests", "[I", RX7) : NfT) ∈ nestF := List.mem_of_getElem? (i := 29) rfl
theorem nf_30 : ((RX6, 115, RX5, "tests", "[I", RX7) : NfT) ∈ nestF := List.mem_of_getElem? (i := 30) rfl
theorem nf_31 : ((RX7, 312, RX5, "tests", "[I", RX7) : NfT) ∈ nestF := List.mem_of_getElem? (i := 31) rfl
theorem nf_32 : ((RX3, 84, RX5, "clauses", "I", RX7) : NfT) ∈ nestF := List.mem_of_getElem? (i := 32) rfl
theorem nf_33 : ((RX6, 112, RX5, "clauses", "I", RX7) : NfT) ∈ nestF := List.mem_of_getElem? (i := 33) rfl
theorem nf_34 : ((RX7, 302, RX5, "clauses", "I", RX7) : NfT) ∈ nestF := List.mem_of_getElem? (i := 34) rfl
theorem nf_35 : ((RX3, 87, RX5, "size", "I", RX7) : NfT) ∈ nestF := List.mem_of_getElem? (i := 35) rfl
theorem nf_36 : ((RX3, 72, RX5, "kindsUsed", "I", RX7) : NfT) ∈ nestF := List.mem_of_getElem? (i := 36) rfl
theorem nf_37 : ((RX7, 157, RX3, "tape", "[B", RX7) : NfT) ∈ nestF := List.mem_of_getElem? (i := 37) rfl
theorem nf_38 : ((RX7, 172, RX3, "draft", "LItByRhyme$Script;", RX7) : NfT) ∈ nestF := List.mem_of_getElem? (i := 38) rfl
theorem nf_39 : ((RX7, 154, RX3, "length", "I", RX7) : NfT) ∈ nestF := List.mem_of_getElem? (i := 39) rfl
theorem nf_40 : ((RX7, 279, RX2, "kept", "I", RX7) : NfT) ∈ nestF := List.mem_of_getElem? (i := 40) rfl
theorem nf_41 : ((RX7, 211, RX6, "fallen", "[I", RX7) : NfT) ∈ nestF := List.mem_of_getElem? (i := 41) rfl
theorem nf_42 : ((RX7, 208, RX6, "spoken", "I", RX7) : NfT) ∈ nestF := List.mem_of_getElem? (i := 42) rfl
theorem nf_43 : ((RX7, 233, RX1, "wentOut", "[I", RX7) : NfT) ∈ nestF := List.mem_of_getElem? (i := 43) rfl
theorem nf_44 : ((RX7, 230, RX1, "gone", "I", RX7) : NfT) ∈ nestF := List.mem_of_getElem? (i := 44) rfl
theorem nf_45 : ((RX7, 248, RX1, "chosen", "I", RX7) : NfT) ∈ nestF := List.mem_of_getElem? (i := 45) rfl
theorem nf_46 : ((RX7, 272, RX0, "timesAlone", "[I", RX7) : NfT) ∈ nestF := List.mem_of_getElem? (i := 46) rfl
theorem nf_47 : ((RX7, 271, RX0, "children", "I", RX7) : NfT) ∈ nestF := List.mem_of_getElem? (i := 47) rfl
theorem nf_48 : ((RX7, 275, RX0, "in", "I", RX7) : NfT) ∈ nestF := List.mem_of_getElem? (i := 48) rfl
theorem nmm_0 : ((RX7, 11, yX4_init, RX7) : NmT) ∈ nestM := List.mem_of_getElem? (i := 0) rfl
theorem nmm_1 : ((RX7, 22, yX3_init, RX7) : NmT) ∈ nestM := List.mem_of_getElem? (i := 1) rfl
theorem nmm_2 : ((RX3, 17, yX5_init, RX7) : NmT) ∈ nestM := List.mem_of_getElem? (i := 2) rfl
theorem nmm_3 : ((RX7, 29, yX2_init, RX7) : NmT) ∈ nestM := List.mem_of_getElem? (i := 3) rfl
theorem nmm_4 : ((RX7, 39, yX6_init, RX7) : NmT) ∈ nestM := List.mem_of_getElem? (i := 4) rfl
theorem nmm_5 : ((RX7, 48, yX1_init, RX7) : NmT) ∈ nestM := List.mem_of_getElem? (i := 5) rfl
theorem nmm_6 : ((RX7, 57, yX0_init, RX7) : NmT) ∈ nestM := List.mem_of_getElem? (i := 6) rfl
theorem nmm_7 : ((RX7, 94, yX4_welcome, RX7) : NmT) ∈ nestM := List.mem_of_getElem? (i := 7) rfl
theorem nmm_8 : ((RX7, 145, yX2_forget, RX7) : NmT) ∈ nestM := List.mem_of_getElem? (i := 8) rfl
theorem nmm_9 : ((RX7, 282, yX6_forget, RX7) : NmT) ∈ nestM := List.mem_of_getElem? (i := 9) rfl
theorem nmm_10 : ((RX7, 104, yX4_lacksChild, RX7) : NmT) ∈ nestM := List.mem_of_getElem? (i := 10) rfl
theorem nmm_11 : ((RX7, 120, yX4_lacksRhyme, RX7) : NmT) ∈ nestM := List.mem_of_getElem? (i := 11) rfl
theorem nmm_12 : ((RX7, 283, yX4_lawInForce, RX7) : NmT) ∈ nestM := List.mem_of_getElem? (i := 12) rfl
theorem nmm_13 : ((RX7, 263, yX6_tune, RX7) : NmT) ∈ nestM := List.mem_of_getElem? (i := 13) rfl
theorem nmm_14 : ((RX7, 131, yX6_lengthOf, RX7) : NmT) ∈ nestM := List.mem_of_getElem? (i := 14) rfl
theorem nmm_15 : ((RX6, 104, yX5_has, RX7) : NmT) ∈ nestM := List.mem_of_getElem? (i := 15) rfl
theorem nmm_16 : ((RX6, 121, yX5_worth, RX7) : NmT) ∈ nestM := List.mem_of_getElem? (i := 16) rfl
theorem nmm_17 : ((RX7, 135, yX6_isSo, RX7) : NmT) ∈ nestM := List.mem_of_getElem? (i := 17) rfl
theorem nmm_18 : ((RX7, 148, yX3_hasRoomFor, RX7) : NmT) ∈ nestM := List.mem_of_getElem? (i := 18) rfl
theorem nmm_19 : ((RX7, 151, yX3_append, RX7) : NmT) ∈ nestM := List.mem_of_getElem? (i := 19) rfl
theorem nmm_20 : ((RX7, 164, yX3_readAll, RX7) : NmT) ∈ nestM := List.mem_of_getElem? (i := 20) rfl
theorem nmm_21 : ((RX3, 47, yX5_clear, RX7) : NmT) ∈ nestM := List.mem_of_getElem? (i := 21) rfl
theorem nmm_22 : ((RX3, 93, yX5_put, RX7) : NmT) ∈ nestM := List.mem_of_getElem? (i := 22) rfl
theorem nmm_23 : ((RX3, 105, yX5_land, RX7) : NmT) ∈ nestM := List.mem_of_getElem? (i := 23) rfl
theorem nmm_24 : ((RX3, 110, yX5_putJump, RX7) : NmT) ∈ nestM := List.mem_of_getElem? (i := 24) rfl
theorem nmm_25 : ((RX7, 176, yX5_trimmed, RX7) : NmT) ∈ nestM := List.mem_of_getElem? (i := 25) rfl
theorem nmm_26 : ((RX7, 299, yX2_becomes, RX7) : NmT) ∈ nestM := List.mem_of_getElem? (i := 26) rfl
theorem nmm_27 : ((RX7, 315, yX5_worth, RX7) : NmT) ∈ nestM := List.mem_of_getElem? (i := 27) rfl
theorem nmm_28 : ((RX7, 196, yX4_place, RX7) : NmT) ∈ nestM := List.mem_of_getElem? (i := 28) rfl
theorem nmm_29 : ((RX7, 204, yX6_speak, RX7) : NmT) ∈ nestM := List.mem_of_getElem? (i := 29) rfl
theorem nmm_30 : ((RX7, 286, yX2_keep, RX7) : NmT) ∈ nestM := List.mem_of_getElem? (i := 30) rfl
theorem nmm_31 : ((RX7, 290, yX6_stateBehind, RX7) : NmT) ∈ nestM := List.mem_of_getElem? (i := 31) rfl
theorem nmm_32 : ((RX7, 293, yX4_settle, RX7) : NmT) ∈ nestM := List.mem_of_getElem? (i := 32) rfl
theorem nmm_33 : ((RX7, 296, yX4_everyone, RX7) : NmT) ∈ nestM := List.mem_of_getElem? (i := 33) rfl
theorem nmm_34 : ((RX7, 187, yX4_lacksLaw, RX7) : NmT) ∈ nestM := List.mem_of_getElem? (i := 34) rfl
theorem nmm_35 : ((RX7, 200, yX6_firstIn, RX7) : NmT) ∈ nestM := List.mem_of_getElem? (i := 35) rfl
theorem nmm_36 : ((RX7, 220, yX2_takeBack, RX7) : NmT) ∈ nestM := List.mem_of_getElem? (i := 36) rfl
theorem nmm_37 : ((RX2, 33, yX4_settle, RX7) : NmT) ∈ nestM := List.mem_of_getElem? (i := 37) rfl
theorem nmm_38 : ((RX7, 224, yX4_state, RX7) : NmT) ∈ nestM := List.mem_of_getElem? (i := 38) rfl
theorem nmm_39 : ((RX7, 227, yX1_lastBy, RX7) : NmT) ∈ nestM := List.mem_of_getElem? (i := 39) rfl
theorem nmm_40 : ((RX1, 65, yX6_after, RX7) : NmT) ∈ nestM := List.mem_of_getElem? (i := 40) rfl
theorem nmm_41 : ((RX7, 236, yX1_reach, RX7) : NmT) ∈ nestM := List.mem_of_getElem? (i := 41) rfl
theorem nmm_42 : ((RX7, 239, yX1_sayingsTo, RX7) : NmT) ∈ nestM := List.mem_of_getElem? (i := 42) rfl
theorem nmm_43 : ((RX7, 242, yX1_rhymeAhead, RX7) : NmT) ∈ nestM := List.mem_of_getElem? (i := 43) rfl
theorem nmm_44 : ((RX7, 245, yX1_play, RX7) : NmT) ∈ nestM := List.mem_of_getElem? (i := 44) rfl
theorem nmm_45 : ((RX1, 92, yX6_firstIn, RX7) : NmT) ∈ nestM := List.mem_of_getElem? (i := 45) rfl
theorem nmm_46 : ((RX7, 253, yX1_partsIn, RX7) : NmT) ∈ nestM := List.mem_of_getElem? (i := 46) rfl
theorem nmm_47 : ((RX1, 100, yX4_everyone, RX7) : NmT) ∈ nestM := List.mem_of_getElem? (i := 47) rfl
theorem nmm_48 : ((RX7, 257, yX1_rowsSaid, RX7) : NmT) ∈ nestM := List.mem_of_getElem? (i := 48) rfl
theorem nmm_49 : ((RX7, 260, yX1_digit, RX7) : NmT) ∈ nestM := List.mem_of_getElem? (i := 49) rfl
theorem nmm_50 : ((RX7, 268, yX0_run, RX7) : NmT) ∈ nestM := List.mem_of_getElem? (i := 50) rfl
theorem nmm_51 : ((RX0, 45, yX4_state, RX7) : NmT) ∈ nestM := List.mem_of_getElem? (i := 51) rfl
theorem nmm_52 : ((RX0, 56, yX1_goesOn, RX7) : NmT) ∈ nestM := List.mem_of_getElem? (i := 52) rfl
theorem nmm_53 : ((RX0, 62, yX4_everyone, RX7) : NmT) ∈ nestM := List.mem_of_getElem? (i := 53) rfl
theorem nmm_54 : ((RX0, 65, yX4_lawInForce, RX7) : NmT) ∈ nestM := List.mem_of_getElem? (i := 54) rfl
theorem nmm_55 : ((RX0, 69, yX6_tune, RX7) : NmT) ∈ nestM := List.mem_of_getElem? (i := 55) rfl
theorem nmm_56 : ((RX0, 88, yX6_speak, RX7) : NmT) ∈ nestM := List.mem_of_getElem? (i := 56) rfl
theorem nmm_57 : ((RX0, 92, yX6_stateBehind, RX7) : NmT) ∈ nestM := List.mem_of_getElem? (i := 57) rfl
theorem nmm_58 : ((RX0, 79, yX1_onlyOneIn, RX7) : NmT) ∈ nestM := List.mem_of_getElem? (i := 58) rfl
theorem nmm_59 : ((RX7, 276, yX4_becomes, RX7) : NmT) ∈ nestM := List.mem_of_getElem? (i := 59) rfl
theorem nestF_in : ∀ q ∈ nestF, nfW q ∈ lw_tbl := by decide +kernel
theorem nestM_in : ∀ q ∈ nestM, nmW q ∈ lw_tbl := by decide +kernel
