/-! Words of the tables, and what an instruction needs of them; laid by program. -/
theorem goodIn_zi {ws : List Cond} (h : (ws.all fun w => decide (w ∈ tables_1)) = true) (hg : ws.all goodWord = true) : ∀ w ∈ ws, w ∈ za_ws := fun w hw => za_ws_in (List.mem_append_right _ (of_decide_eq_true (List.all_eq_true.mp h w hw))) (List.all_eq_true.mp hg w hw)
theorem zk_0 : Cond.initialized "TrustLedgerLaw" ∈ za_ws := za_ws_in (List.mem_append_right _ (List.mem_of_getElem? (i := 0) (by decide +kernel))) rfl
theorem zk_1 : Cond.initialized "TrustLedger" ∈ za_ws := za_ws_in (List.mem_append_right _ (List.mem_of_getElem? (i := 1) (by decide +kernel))) rfl
theorem zk_10 : Cond.initialized "java/lang/Integer" ∈ za_ws := za_ws_in (List.mem_append_right _ (List.mem_of_getElem? (i := 10) (by decide +kernel))) rfl
theorem zk_101 : Cond.arrayClass Jvm.ClassFile.FieldType.int ∈ za_ws := za_ws_in (List.mem_append_right _ (List.mem_of_getElem? (i := 101) (by decide +kernel))) rfl
theorem zk_102 : Cond.fieldLink "TrustLedger$Agreement" 9 "TrustLedger$Agreement" "self" "I" ∈ za_ws := za_ws_in (List.mem_append_right _ (List.mem_of_getElem? (i := 102) (by decide +kernel))) rfl
theorem zk_103 : Cond.fieldLink "TrustLedger$Agreement" 15 "TrustLedger$Agreement" "slot" "I" ∈ za_ws := za_ws_in (List.mem_append_right _ (List.mem_of_getElem? (i := 103) (by decide +kernel))) rfl
theorem zk_104 : Cond.fieldLink "TrustLedger$Agreement" 24 "TrustLedger$Agreement" "trusted" "LTrustLedger$Trust;" ∈ za_ws := za_ws_in (List.mem_append_right _ (List.mem_of_getElem? (i := 104) (by decide +kernel))) rfl
theorem zk_105 : Cond.fieldLink "TrustLedger$Agreement" 33 "TrustLedger$Agreement" "nominate" "LTrustLedger$Statements;" ∈ za_ws := za_ws_in (List.mem_append_right _ (List.mem_of_getElem? (i := 105) (by decide +kernel))) rfl
theorem zk_106 : Cond.fieldLink "TrustLedger$Agreement" 37 "TrustLedger$Agreement" "prepare" "LTrustLedger$Statements;" ∈ za_ws := za_ws_in (List.mem_append_right _ (List.mem_of_getElem? (i := 106) (by decide +kernel))) rfl
theorem zk_107 : Cond.fieldLink "TrustLedger$Agreement" 40 "TrustLedger$Agreement" "commit" "LTrustLedger$Statements;" ∈ za_ws := za_ws_in (List.mem_append_right _ (List.mem_of_getElem? (i := 107) (by decide +kernel))) rfl
theorem zk_108 : Cond.fieldLink "TrustLedger$Agreement" 56 "TrustLedger$Agreement" "proposal" "I" ∈ za_ws := za_ws_in (List.mem_append_right _ (List.mem_of_getElem? (i := 108) (by decide +kernel))) rfl
theorem zk_11 : Cond.initialized "TrustLedger$Offer" ∈ za_ws := za_ws_in (List.mem_append_right _ (List.mem_of_getElem? (i := 11) (by decide +kernel))) rfl
theorem zk_110 : Cond.fieldLink "TrustLedger$Agreement" 43 "TrustLedger$Agreement" "round" "I" ∈ za_ws := za_ws_in (List.mem_append_right _ (List.mem_of_getElem? (i := 110) (by decide +kernel))) rfl
theorem zk_112 : Cond.fieldLink "TrustLedger$Agreement" 46 "TrustLedger$Agreement" "leaders" "I" ∈ za_ws := za_ws_in (List.mem_append_right _ (List.mem_of_getElem? (i := 112) (by decide +kernel))) rfl
theorem zk_113 : Cond.fieldLink "TrustLedger$Agreement" 49 "TrustLedger$Agreement" "counter" "I" ∈ za_ws := za_ws_in (List.mem_append_right _ (List.mem_of_getElem? (i := 113) (by decide +kernel))) rfl
theorem zk_115 : Cond.fieldLink "TrustLedger$Agreement" 83 "TrustLedger$Agreement" "outcome" "I" ∈ za_ws := za_ws_in (List.mem_append_right _ (List.mem_of_getElem? (i := 115) (by decide +kernel))) rfl
theorem zk_12 : Cond.initialized "java/lang/Math" ∈ za_ws := za_ws_in (List.mem_append_right _ (List.mem_of_getElem? (i := 12) (by decide +kernel))) rfl
theorem zk_13 : Cond.initialized "TrustLedger$Envelope" ∈ za_ws := za_ws_in (List.mem_append_right _ (List.mem_of_getElem? (i := 13) (by decide +kernel))) rfl
theorem zk_139 : Cond.classLink "TrustLedger$Node" 20 "TrustLedger$Ledger" ∈ za_ws := za_ws_in (List.mem_append_right _ (List.mem_of_getElem? (i := 139) (by decide +kernel))) rfl
theorem zk_14 : Cond.classLink "TrustLedgerLaw" 7 "TrustLedger" ∈ za_ws := za_ws_in (List.mem_append_right _ (List.mem_of_getElem? (i := 14) (by decide +kernel))) rfl
theorem zk_140 : Cond.instantiable "TrustLedger$Ledger" 4 ∈ za_ws := za_ws_in (List.mem_append_right _ (List.mem_of_getElem? (i := 140) (by decide +kernel))) rfl
theorem zk_141 : Cond.methodLink "TrustLedger$Node" 22 zy_Ledger_init ∈ za_ws := za_ws_in (List.mem_append_right _ (List.mem_of_getElem? (i := 141) (by decide +kernel))) rfl
theorem zk_142 : Cond.instanceMethod zy_Ledger_init ∈ za_ws := za_ws_in (List.mem_append_right _ (List.mem_of_getElem? (i := 142) (by decide +kernel))) rfl
theorem zk_143 : Cond.code zy_Ledger_init prog_4_method_1_code 2 (Option.none : Option Jvm.ClassFile.FieldType) ∈ za_ws := za_ws_in (List.mem_append_right _ (List.mem_of_getElem? (i := 143) (by decide +kernel))) rfl
theorem zk_144 : Cond.methodLink "TrustLedger$Ledger" 3 (⟨"java/lang/Object", "<init>", "()V"⟩ : MethodName) ∈ za_ws := za_ws_in (List.mem_append_right _ (List.mem_of_getElem? (i := 144) (by decide +kernel))) rfl
theorem zk_145 : Cond.classLink "TrustLedger$Ledger" 18 "TrustLedger$Offer" ∈ za_ws := za_ws_in (List.mem_append_right _ (List.mem_of_getElem? (i := 145) (by decide +kernel))) rfl
theorem zk_147 : Cond.fieldLink "TrustLedger$Ledger" 9 "TrustLedger$Ledger" "coins" "[I" ∈ za_ws := za_ws_in (List.mem_append_right _ (List.mem_of_getElem? (i := 147) (by decide +kernel))) rfl
theorem zk_148 : Cond.fieldLink "TrustLedger$Ledger" 15 "TrustLedger$Ledger" "shares" "[I" ∈ za_ws := za_ws_in (List.mem_append_right _ (List.mem_of_getElem? (i := 148) (by decide +kernel))) rfl
theorem zk_149 : Cond.fieldLink "TrustLedger$Ledger" 20 "TrustLedger$Ledger" "book" "[LTrustLedger$Offer;" ∈ za_ws := za_ws_in (List.mem_append_right _ (List.mem_of_getElem? (i := 149) (by decide +kernel))) rfl
theorem zk_15 : Cond.instantiable "TrustLedger" 7 ∈ za_ws := za_ws_in (List.mem_append_right _ (List.mem_of_getElem? (i := 15) (by decide +kernel))) rfl
theorem zk_151 : Cond.fieldLink "TrustLedger$Ledger" 66 "TrustLedger$Ledger" "resting" "I" ∈ za_ws := za_ws_in (List.mem_append_right _ (List.mem_of_getElem? (i := 151) (by decide +kernel))) rfl
theorem zk_16 : Cond.methodLink "TrustLedgerLaw" 15 zy_TL_init ∈ za_ws := za_ws_in (List.mem_append_right _ (List.mem_of_getElem? (i := 16) (by decide +kernel))) rfl
theorem zk_161 : Cond.fieldLink "TrustLedger$Node" 11 "TrustLedger$Node" "agreements" "[LTrustLedger$Agreement;" ∈ za_ws := za_ws_in (List.mem_append_right _ (List.mem_of_getElem? (i := 161) (by decide +kernel))) rfl
theorem zk_163 : Cond.fieldLink "TrustLedger$Node" 23 "TrustLedger$Node" "ledger" "LTrustLedger$Ledger;" ∈ za_ws := za_ws_in (List.mem_append_right _ (List.mem_of_getElem? (i := 163) (by decide +kernel))) rfl
theorem zk_17 : Cond.instanceMethod zy_TL_init ∈ za_ws := za_ws_in (List.mem_append_right _ (List.mem_of_getElem? (i := 17) (by decide +kernel))) rfl
theorem zk_176 : Cond.classLink "TrustLedger" 29 "TrustLedger$Transaction" ∈ za_ws := za_ws_in (List.mem_append_right _ (List.mem_of_getElem? (i := 176) (by decide +kernel))) rfl
theorem zk_178 : Cond.classLink "TrustLedger" 35 "TrustLedger$Envelope" ∈ za_ws := za_ws_in (List.mem_append_right _ (List.mem_of_getElem? (i := 178) (by decide +kernel))) rfl
theorem zk_18 : Cond.code zy_TL_init prog_1_method_1_code 4 (Option.none : Option Jvm.ClassFile.FieldType) ∈ za_ws := za_ws_in (List.mem_append_right _ (List.mem_of_getElem? (i := 18) (by decide +kernel))) rfl
theorem zk_180 : Cond.fieldLink "TrustLedger" 9 "TrustLedger" "faulty" "I" ∈ za_ws := za_ws_in (List.mem_append_right _ (List.mem_of_getElem? (i := 180) (by decide +kernel))) rfl
theorem zk_181 : Cond.fieldLink "TrustLedger" 16 "TrustLedger" "quorums" "LTrustLedger$Quorums;" ∈ za_ws := za_ws_in (List.mem_append_right _ (List.mem_of_getElem? (i := 181) (by decide +kernel))) rfl
theorem zk_182 : Cond.fieldLink "TrustLedger" 22 "TrustLedger" "nodes" "[LTrustLedger$Node;" ∈ za_ws := za_ws_in (List.mem_append_right _ (List.mem_of_getElem? (i := 182) (by decide +kernel))) rfl
theorem zk_183 : Cond.fieldLink "TrustLedger" 31 "TrustLedger" "transactions" "[LTrustLedger$Transaction;" ∈ za_ws := za_ws_in (List.mem_append_right _ (List.mem_of_getElem? (i := 183) (by decide +kernel))) rfl
theorem zk_184 : Cond.fieldLink "TrustLedger" 37 "TrustLedger" "mail" "[LTrustLedger$Envelope;" ∈ za_ws := za_ws_in (List.mem_append_right _ (List.mem_of_getElem? (i := 184) (by decide +kernel))) rfl
theorem zk_185 : Cond.fieldLink "TrustLedger" 110 "TrustLedger" "mailed" "I" ∈ za_ws := za_ws_in (List.mem_append_right _ (List.mem_of_getElem? (i := 185) (by decide +kernel))) rfl
theorem zk_186 : Cond.fieldLink "TrustLedger" 45 "TrustLedger" "begun" "Z" ∈ za_ws := za_ws_in (List.mem_append_right _ (List.mem_of_getElem? (i := 186) (by decide +kernel))) rfl
theorem zk_19 : Cond.methodLink "TrustLedger" 3 (⟨"java/lang/Object", "<init>", "()V"⟩ : MethodName) ∈ za_ws := za_ws_in (List.mem_append_right _ (List.mem_of_getElem? (i := 19) (by decide +kernel))) rfl
theorem zk_2 : Cond.initialized "TrustLedger$Quorums" ∈ za_ws := za_ws_in (List.mem_append_right _ (List.mem_of_getElem? (i := 2) (by decide +kernel))) rfl
theorem zk_20 : Cond.instanceMethod (⟨"java/lang/Object", "<init>", "()V"⟩ : MethodName) ∈ za_ws := za_ws_in (List.mem_append_right _ (List.mem_of_getElem? (i := 20) (by decide +kernel))) rfl
theorem zk_202 : Cond.methodLink "TrustLedgerLaw" 21 zy_TL_trust ∈ za_ws := za_ws_in (List.mem_append_right _ (List.mem_of_getElem? (i := 202) (by decide +kernel))) rfl
theorem zk_203 : Cond.instanceMethod zy_TL_trust ∈ za_ws := za_ws_in (List.mem_append_right _ (List.mem_of_getElem? (i := 203) (by decide +kernel))) rfl
theorem zk_204 : Cond.selects "TrustLedger" zy_TL_trust zy_TL_trust ∈ za_ws := za_ws_in (List.mem_append_right _ (List.mem_of_getElem? (i := 204) (by decide +kernel))) rfl
theorem zk_205 : Cond.code zy_TL_trust prog_1_method_2_code 7 (Option.some Jvm.ClassFile.FieldType.boolean) ∈ za_ws := za_ws_in (List.mem_append_right _ (List.mem_of_getElem? (i := 205) (by decide +kernel))) rfl
theorem zk_206 : Cond.methodLink "TrustLedger" 41 zy_TL_isWithin ∈ za_ws := za_ws_in (List.mem_append_right _ (List.mem_of_getElem? (i := 206) (by decide +kernel))) rfl
theorem zk_207 : Cond.static zy_TL_isWithin ∈ za_ws := za_ws_in (List.mem_append_right _ (List.mem_of_getElem? (i := 207) (by decide +kernel))) rfl
theorem zk_208 : Cond.code zy_TL_isWithin prog_1_method_16_code 3 (Option.some Jvm.ClassFile.FieldType.boolean) ∈ za_ws := za_ws_in (List.mem_append_right _ (List.mem_of_getElem? (i := 208) (by decide +kernel))) rfl
theorem zk_209 : Cond.methodLink "TrustLedger" 53 zy_Trust_become ∈ za_ws := za_ws_in (List.mem_append_right _ (List.mem_of_getElem? (i := 209) (by decide +kernel))) rfl
theorem zk_21 : Cond.code (⟨"java/lang/Object", "<init>", "()V"⟩ : MethodName) object_method_1_code 1 (Option.none : Option Jvm.ClassFile.FieldType) ∈ za_ws := za_ws_in (List.mem_append_right _ (List.mem_of_getElem? (i := 21) (by decide +kernel))) rfl
theorem zk_210 : Cond.instanceMethod zy_Trust_become ∈ za_ws := za_ws_in (List.mem_append_right _ (List.mem_of_getElem? (i := 210) (by decide +kernel))) rfl
theorem zk_211 : Cond.selects "TrustLedger$Trust" zy_Trust_become zy_Trust_become ∈ za_ws := za_ws_in (List.mem_append_right _ (List.mem_of_getElem? (i := 211) (by decide +kernel))) rfl
theorem zk_212 : Cond.code zy_Trust_become prog_10_method_2_code 5 (Option.none : Option Jvm.ClassFile.FieldType) ∈ za_ws := za_ws_in (List.mem_append_right _ (List.mem_of_getElem? (i := 212) (by decide +kernel))) rfl
theorem zk_213 : Cond.methodLink "TrustLedgerLaw" 26 zy_TL_submit ∈ za_ws := za_ws_in (List.mem_append_right _ (List.mem_of_getElem? (i := 213) (by decide +kernel))) rfl
theorem zk_214 : Cond.instanceMethod zy_TL_submit ∈ za_ws := za_ws_in (List.mem_append_right _ (List.mem_of_getElem? (i := 214) (by decide +kernel))) rfl
theorem zk_215 : Cond.selects "TrustLedger" zy_TL_submit zy_TL_submit ∈ za_ws := za_ws_in (List.mem_append_right _ (List.mem_of_getElem? (i := 215) (by decide +kernel))) rfl
theorem zk_216 : Cond.code zy_TL_submit prog_1_method_3_code 10 (Option.some Jvm.ClassFile.FieldType.boolean) ∈ za_ws := za_ws_in (List.mem_append_right _ (List.mem_of_getElem? (i := 216) (by decide +kernel))) rfl
theorem zk_217 : Cond.methodLink "TrustLedger" 59 zy_TL_isSlot ∈ za_ws := za_ws_in (List.mem_append_right _ (List.mem_of_getElem? (i := 217) (by decide +kernel))) rfl
theorem zk_218 : Cond.static zy_TL_isSlot ∈ za_ws := za_ws_in (List.mem_append_right _ (List.mem_of_getElem? (i := 218) (by decide +kernel))) rfl
theorem zk_219 : Cond.code zy_TL_isSlot prog_1_method_18_code 1 (Option.some Jvm.ClassFile.FieldType.boolean) ∈ za_ws := za_ws_in (List.mem_append_right _ (List.mem_of_getElem? (i := 219) (by decide +kernel))) rfl
theorem zk_22 : Cond.classLink "TrustLedger" 13 "TrustLedger$Quorums" ∈ za_ws := za_ws_in (List.mem_append_right _ (List.mem_of_getElem? (i := 22) (by decide +kernel))) rfl
theorem zk_220 : Cond.methodLink "TrustLedger" 63 zy_TL_isAccount ∈ za_ws := za_ws_in (List.mem_append_right _ (List.mem_of_getElem? (i := 220) (by decide +kernel))) rfl
theorem zk_221 : Cond.static zy_TL_isAccount ∈ za_ws := za_ws_in (List.mem_append_right _ (List.mem_of_getElem? (i := 221) (by decide +kernel))) rfl
theorem zk_222 : Cond.code zy_TL_isAccount prog_1_method_19_code 1 (Option.some Jvm.ClassFile.FieldType.boolean) ∈ za_ws := za_ws_in (List.mem_append_right _ (List.mem_of_getElem? (i := 222) (by decide +kernel))) rfl
theorem zk_223 : Cond.methodLink "TrustLedger" 66 zy_TL_isLeft ∈ za_ws := za_ws_in (List.mem_append_right _ (List.mem_of_getElem? (i := 223) (by decide +kernel))) rfl
theorem zk_225 : Cond.instanceMethod zy_TL_isLeft ∈ za_ws := za_ws_in (List.mem_append_right _ (List.mem_of_getElem? (i := 225) (by decide +kernel))) rfl
theorem zk_226 : Cond.code zy_TL_isLeft prog_1_method_27_code 3 (Option.some Jvm.ClassFile.FieldType.boolean) ∈ za_ws := za_ws_in (List.mem_append_right _ (List.mem_of_getElem? (i := 226) (by decide +kernel))) rfl
theorem zk_227 : Cond.instantiable "TrustLedger$Transaction" 5 ∈ za_ws := za_ws_in (List.mem_append_right _ (List.mem_of_getElem? (i := 227) (by decide +kernel))) rfl
theorem zk_228 : Cond.methodLink "TrustLedger" 69 zy_Transaction_init ∈ za_ws := za_ws_in (List.mem_append_right _ (List.mem_of_getElem? (i := 228) (by decide +kernel))) rfl
theorem zk_229 : Cond.instanceMethod zy_Transaction_init ∈ za_ws := za_ws_in (List.mem_append_right _ (List.mem_of_getElem? (i := 229) (by decide +kernel))) rfl
theorem zk_23 : Cond.instantiable "TrustLedger$Quorums" 1 ∈ za_ws := za_ws_in (List.mem_append_right _ (List.mem_of_getElem? (i := 23) (by decide +kernel))) rfl
theorem zk_230 : Cond.code zy_Transaction_init prog_9_method_1_code 6 (Option.none : Option Jvm.ClassFile.FieldType) ∈ za_ws := za_ws_in (List.mem_append_right _ (List.mem_of_getElem? (i := 230) (by decide +kernel))) rfl
theorem zk_231 : Cond.methodLink "TrustLedger$Transaction" 1 (⟨"java/lang/Object", "<init>", "()V"⟩ : MethodName) ∈ za_ws := za_ws_in (List.mem_append_right _ (List.mem_of_getElem? (i := 231) (by decide +kernel))) rfl
theorem zk_232 : Cond.fieldLink "TrustLedger$Transaction" 7 "TrustLedger$Transaction" "kind" "I" ∈ za_ws := za_ws_in (List.mem_append_right _ (List.mem_of_getElem? (i := 232) (by decide +kernel))) rfl
theorem zk_234 : Cond.fieldLink "TrustLedger$Transaction" 13 "TrustLedger$Transaction" "from" "I" ∈ za_ws := za_ws_in (List.mem_append_right _ (List.mem_of_getElem? (i := 234) (by decide +kernel))) rfl
theorem zk_236 : Cond.fieldLink "TrustLedger$Transaction" 16 "TrustLedger$Transaction" "what" "I" ∈ za_ws := za_ws_in (List.mem_append_right _ (List.mem_of_getElem? (i := 236) (by decide +kernel))) rfl
theorem zk_238 : Cond.fieldLink "TrustLedger$Transaction" 19 "TrustLedger$Transaction" "other" "I" ∈ za_ws := za_ws_in (List.mem_append_right _ (List.mem_of_getElem? (i := 238) (by decide +kernel))) rfl
theorem zk_24 : Cond.methodLink "TrustLedger" 15 zy_Quorums_init ∈ za_ws := za_ws_in (List.mem_append_right _ (List.mem_of_getElem? (i := 24) (by decide +kernel))) rfl
theorem zk_240 : Cond.fieldLink "TrustLedger$Transaction" 22 "TrustLedger$Transaction" "amount" "I" ∈ za_ws := za_ws_in (List.mem_append_right _ (List.mem_of_getElem? (i := 240) (by decide +kernel))) rfl
theorem zk_25 : Cond.instanceMethod zy_Quorums_init ∈ za_ws := za_ws_in (List.mem_append_right _ (List.mem_of_getElem? (i := 25) (by decide +kernel))) rfl
theorem zk_253 : Cond.methodLink "TrustLedgerLaw" 31 zy_TL_propose ∈ za_ws := za_ws_in (List.mem_append_right _ (List.mem_of_getElem? (i := 253) (by decide +kernel))) rfl
theorem zk_254 : Cond.instanceMethod zy_TL_propose ∈ za_ws := za_ws_in (List.mem_append_right _ (List.mem_of_getElem? (i := 254) (by decide +kernel))) rfl
theorem zk_255 : Cond.selects "TrustLedger" zy_TL_propose zy_TL_propose ∈ za_ws := za_ws_in (List.mem_append_right _ (List.mem_of_getElem? (i := 255) (by decide +kernel))) rfl
theorem zk_256 : Cond.code zy_TL_propose prog_1_method_4_code 4 (Option.some Jvm.ClassFile.FieldType.boolean) ∈ za_ws := za_ws_in (List.mem_append_right _ (List.mem_of_getElem? (i := 256) (by decide +kernel))) rfl
theorem zk_257 : Cond.methodLink "TrustLedger" 72 zy_TL_isAtWork ∈ za_ws := za_ws_in (List.mem_append_right _ (List.mem_of_getElem? (i := 257) (by decide +kernel))) rfl
theorem zk_259 : Cond.instanceMethod zy_TL_isAtWork ∈ za_ws := za_ws_in (List.mem_append_right _ (List.mem_of_getElem? (i := 259) (by decide +kernel))) rfl
theorem zk_26 : Cond.code zy_Quorums_init prog_7_method_1_code 2 (Option.none : Option Jvm.ClassFile.FieldType) ∈ za_ws := za_ws_in (List.mem_append_right _ (List.mem_of_getElem? (i := 26) (by decide +kernel))) rfl
theorem zk_260 : Cond.code zy_TL_isAtWork prog_1_method_26_code 2 (Option.some Jvm.ClassFile.FieldType.boolean) ∈ za_ws := za_ws_in (List.mem_append_right _ (List.mem_of_getElem? (i := 260) (by decide +kernel))) rfl
theorem zk_261 : Cond.methodLink "TrustLedger" 107 zy_TL_isGood ∈ za_ws := za_ws_in (List.mem_append_right _ (List.mem_of_getElem? (i := 261) (by decide +kernel))) rfl
theorem zk_263 : Cond.instanceMethod zy_TL_isGood ∈ za_ws := za_ws_in (List.mem_append_right _ (List.mem_of_getElem? (i := 263) (by decide +kernel))) rfl
theorem zk_264 : Cond.code zy_TL_isGood prog_1_method_25_code 2 (Option.some Jvm.ClassFile.FieldType.boolean) ∈ za_ws := za_ws_in (List.mem_append_right _ (List.mem_of_getElem? (i := 264) (by decide +kernel))) rfl
theorem zk_265 : Cond.methodLink "TrustLedger" 135 zy_TL_has ∈ za_ws := za_ws_in (List.mem_append_right _ (List.mem_of_getElem? (i := 265) (by decide +kernel))) rfl
theorem zk_266 : Cond.static zy_TL_has ∈ za_ws := za_ws_in (List.mem_append_right _ (List.mem_of_getElem? (i := 266) (by decide +kernel))) rfl
theorem zk_267 : Cond.code zy_TL_has prog_1_method_17_code 2 (Option.some Jvm.ClassFile.FieldType.boolean) ∈ za_ws := za_ws_in (List.mem_append_right _ (List.mem_of_getElem? (i := 267) (by decide +kernel))) rfl
theorem zk_268 : Cond.methodLink "TrustLedger" 87 zy_Agreement_takeProposal ∈ za_ws := za_ws_in (List.mem_append_right _ (List.mem_of_getElem? (i := 268) (by decide +kernel))) rfl
theorem zk_269 : Cond.instanceMethod zy_Agreement_takeProposal ∈ za_ws := za_ws_in (List.mem_append_right _ (List.mem_of_getElem? (i := 269) (by decide +kernel))) rfl
theorem zk_27 : Cond.methodLink "TrustLedger$Quorums" 3 (⟨"java/lang/Object", "<init>", "()V"⟩ : MethodName) ∈ za_ws := za_ws_in (List.mem_append_right _ (List.mem_of_getElem? (i := 27) (by decide +kernel))) rfl
theorem zk_270 : Cond.selects "TrustLedger$Agreement" zy_Agreement_takeProposal zy_Agreement_takeProposal ∈ za_ws := za_ws_in (List.mem_append_right _ (List.mem_of_getElem? (i := 270) (by decide +kernel))) rfl
theorem zk_271 : Cond.code zy_Agreement_takeProposal prog_2_method_4_code 2 (Option.none : Option Jvm.ClassFile.FieldType) ∈ za_ws := za_ws_in (List.mem_append_right _ (List.mem_of_getElem? (i := 271) (by decide +kernel))) rfl
theorem zk_272 : Cond.methodLink "TrustLedger$Agreement" 59 zy_Agreement_beginRound ∈ za_ws := za_ws_in (List.mem_append_right _ (List.mem_of_getElem? (i := 272) (by decide +kernel))) rfl
theorem zk_274 : Cond.instanceMethod zy_Agreement_beginRound ∈ za_ws := za_ws_in (List.mem_append_right _ (List.mem_of_getElem? (i := 274) (by decide +kernel))) rfl
theorem zk_275 : Cond.code zy_Agreement_beginRound prog_2_method_8_code 6 (Option.none : Option Jvm.ClassFile.FieldType) ∈ za_ws := za_ws_in (List.mem_append_right _ (List.mem_of_getElem? (i := 275) (by decide +kernel))) rfl
theorem zk_276 : Cond.methodLink "TrustLedger$Agreement" 111 zy_Trust_everyone ∈ za_ws := za_ws_in (List.mem_append_right _ (List.mem_of_getElem? (i := 276) (by decide +kernel))) rfl
theorem zk_277 : Cond.instanceMethod zy_Trust_everyone ∈ za_ws := za_ws_in (List.mem_append_right _ (List.mem_of_getElem? (i := 277) (by decide +kernel))) rfl
theorem zk_278 : Cond.selects "TrustLedger$Trust" zy_Trust_everyone zy_Trust_everyone ∈ za_ws := za_ws_in (List.mem_append_right _ (List.mem_of_getElem? (i := 278) (by decide +kernel))) rfl
theorem zk_279 : Cond.code zy_Trust_everyone prog_10_method_5_code 1 (Option.some Jvm.ClassFile.FieldType.int) ∈ za_ws := za_ws_in (List.mem_append_right _ (List.mem_of_getElem? (i := 279) (by decide +kernel))) rfl
theorem zk_28 : Cond.classLink "TrustLedger$Quorums" 9 "TrustLedger$Trust" ∈ za_ws := za_ws_in (List.mem_append_right _ (List.mem_of_getElem? (i := 28) (by decide +kernel))) rfl
theorem zk_281 : Cond.methodLink "TrustLedger" 91 zy_Agreement_stir ∈ za_ws := za_ws_in (List.mem_append_right _ (List.mem_of_getElem? (i := 281) (by decide +kernel))) rfl
theorem zk_282 : Cond.instanceMethod zy_Agreement_stir ∈ za_ws := za_ws_in (List.mem_append_right _ (List.mem_of_getElem? (i := 282) (by decide +kernel))) rfl
theorem zk_283 : Cond.selects "TrustLedger$Agreement" zy_Agreement_stir zy_Agreement_stir ∈ za_ws := za_ws_in (List.mem_append_right _ (List.mem_of_getElem? (i := 283) (by decide +kernel))) rfl
theorem zk_284 : Cond.code zy_Agreement_stir prog_2_method_7_code 3 (Option.none : Option Jvm.ClassFile.FieldType) ∈ za_ws := za_ws_in (List.mem_append_right _ (List.mem_of_getElem? (i := 284) (by decide +kernel))) rfl
theorem zk_285 : Cond.methodLink "TrustLedger$Agreement" 86 zy_Agreement_voteNominate ∈ za_ws := za_ws_in (List.mem_append_right _ (List.mem_of_getElem? (i := 285) (by decide +kernel))) rfl
theorem zk_287 : Cond.instanceMethod zy_Agreement_voteNominate ∈ za_ws := za_ws_in (List.mem_append_right _ (List.mem_of_getElem? (i := 287) (by decide +kernel))) rfl
theorem zk_288 : Cond.code zy_Agreement_voteNominate prog_2_method_12_code 4 (Option.some Jvm.ClassFile.FieldType.boolean) ∈ za_ws := za_ws_in (List.mem_append_right _ (List.mem_of_getElem? (i := 288) (by decide +kernel))) rfl
theorem zk_289 : Cond.methodLink "TrustLedger$Agreement" 138 zy_Statements_nodesWith ∈ za_ws := za_ws_in (List.mem_append_right _ (List.mem_of_getElem? (i := 289) (by decide +kernel))) rfl
theorem zk_290 : Cond.instanceMethod zy_Statements_nodesWith ∈ za_ws := za_ws_in (List.mem_append_right _ (List.mem_of_getElem? (i := 290) (by decide +kernel))) rfl
theorem zk_291 : Cond.selects "TrustLedger$Statements" zy_Statements_nodesWith zy_Statements_nodesWith ∈ za_ws := za_ws_in (List.mem_append_right _ (List.mem_of_getElem? (i := 291) (by decide +kernel))) rfl
theorem zk_292 : Cond.code zy_Statements_nodesWith prog_8_method_5_code 5 (Option.some Jvm.ClassFile.FieldType.int) ∈ za_ws := za_ws_in (List.mem_append_right _ (List.mem_of_getElem? (i := 292) (by decide +kernel))) rfl
theorem zk_294 : Cond.methodLink "TrustLedger$Agreement" 127 zy_Statements_vote ∈ za_ws := za_ws_in (List.mem_append_right _ (List.mem_of_getElem? (i := 294) (by decide +kernel))) rfl
theorem zk_295 : Cond.instanceMethod zy_Statements_vote ∈ za_ws := za_ws_in (List.mem_append_right _ (List.mem_of_getElem? (i := 295) (by decide +kernel))) rfl
theorem zk_296 : Cond.selects "TrustLedger$Statements" zy_Statements_vote zy_Statements_vote ∈ za_ws := za_ws_in (List.mem_append_right _ (List.mem_of_getElem? (i := 296) (by decide +kernel))) rfl
theorem zk_297 : Cond.code zy_Statements_vote prog_8_method_2_code 2 (Option.some Jvm.ClassFile.FieldType.boolean) ∈ za_ws := za_ws_in (List.mem_append_right _ (List.mem_of_getElem? (i := 297) (by decide +kernel))) rfl
theorem zk_298 : Cond.methodLink "TrustLedger$Agreement" 90 zy_Agreement_acceptNominate ∈ za_ws := za_ws_in (List.mem_append_right _ (List.mem_of_getElem? (i := 298) (by decide +kernel))) rfl
theorem zk_3 : Cond.initialized "TrustLedger$Trust" ∈ za_ws := za_ws_in (List.mem_append_right _ (List.mem_of_getElem? (i := 3) (by decide +kernel))) rfl
theorem zk_30 : Cond.instantiable "TrustLedger$Trust" 4 ∈ za_ws := za_ws_in (List.mem_append_right _ (List.mem_of_getElem? (i := 30) (by decide +kernel))) rfl
theorem zk_300 : Cond.instanceMethod zy_Agreement_acceptNominate ∈ za_ws := za_ws_in (List.mem_append_right _ (List.mem_of_getElem? (i := 300) (by decide +kernel))) rfl
theorem zk_301 : Cond.code zy_Agreement_acceptNominate prog_2_method_13_code 3 (Option.some Jvm.ClassFile.FieldType.boolean) ∈ za_ws := za_ws_in (List.mem_append_right _ (List.mem_of_getElem? (i := 301) (by decide +kernel))) rfl
theorem zk_302 : Cond.methodLink "TrustLedger$Agreement" 142 zy_Statements_acceptIfMay ∈ za_ws := za_ws_in (List.mem_append_right _ (List.mem_of_getElem? (i := 302) (by decide +kernel))) rfl
theorem zk_303 : Cond.instanceMethod zy_Statements_acceptIfMay ∈ za_ws := za_ws_in (List.mem_append_right _ (List.mem_of_getElem? (i := 303) (by decide +kernel))) rfl
theorem zk_304 : Cond.selects "TrustLedger$Statements" zy_Statements_acceptIfMay zy_Statements_acceptIfMay ∈ za_ws := za_ws_in (List.mem_append_right _ (List.mem_of_getElem? (i := 304) (by decide +kernel))) rfl
theorem zk_305 : Cond.code zy_Statements_acceptIfMay prog_8_method_3_code 3 (Option.some Jvm.ClassFile.FieldType.boolean) ∈ za_ws := za_ws_in (List.mem_append_right _ (List.mem_of_getElem? (i := 305) (by decide +kernel))) rfl
theorem zk_306 : Cond.methodLink "TrustLedger$Statements" 33 zy_Statements_nodesWith ∈ za_ws := za_ws_in (List.mem_append_right _ (List.mem_of_getElem? (i := 306) (by decide +kernel))) rfl
theorem zk_307 : Cond.methodLink "TrustLedger$Statements" 37 zy_Quorums_isGivenTo ∈ za_ws := za_ws_in (List.mem_append_right _ (List.mem_of_getElem? (i := 307) (by decide +kernel))) rfl
theorem zk_308 : Cond.instanceMethod zy_Quorums_isGivenTo ∈ za_ws := za_ws_in (List.mem_append_right _ (List.mem_of_getElem? (i := 308) (by decide +kernel))) rfl
theorem zk_309 : Cond.selects "TrustLedger$Quorums" zy_Quorums_isGivenTo zy_Quorums_isGivenTo ∈ za_ws := za_ws_in (List.mem_append_right _ (List.mem_of_getElem? (i := 309) (by decide +kernel))) rfl
theorem zk_310 : Cond.code zy_Quorums_isGivenTo prog_7_method_2_code 7 (Option.some Jvm.ClassFile.FieldType.boolean) ∈ za_ws := za_ws_in (List.mem_append_right _ (List.mem_of_getElem? (i := 310) (by decide +kernel))) rfl
theorem zk_312 : Cond.methodLink "TrustLedger$Quorums" 22 zy_Trust_isSatisfiedBy ∈ za_ws := za_ws_in (List.mem_append_right _ (List.mem_of_getElem? (i := 312) (by decide +kernel))) rfl
theorem zk_313 : Cond.instanceMethod zy_Trust_isSatisfiedBy ∈ za_ws := za_ws_in (List.mem_append_right _ (List.mem_of_getElem? (i := 313) (by decide +kernel))) rfl
theorem zk_314 : Cond.selects "TrustLedger$Trust" zy_Trust_isSatisfiedBy zy_Trust_isSatisfiedBy ∈ za_ws := za_ws_in (List.mem_append_right _ (List.mem_of_getElem? (i := 314) (by decide +kernel))) rfl
theorem zk_315 : Cond.code zy_Trust_isSatisfiedBy prog_10_method_3_code 3 (Option.some Jvm.ClassFile.FieldType.boolean) ∈ za_ws := za_ws_in (List.mem_append_right _ (List.mem_of_getElem? (i := 315) (by decide +kernel))) rfl
theorem zk_316 : Cond.methodLink "TrustLedger$Trust" 24 zy_Int_bitCount ∈ za_ws := za_ws_in (List.mem_append_right _ (List.mem_of_getElem? (i := 316) (by decide +kernel))) rfl
theorem zk_317 : Cond.static zy_Int_bitCount ∈ za_ws := za_ws_in (List.mem_append_right _ (List.mem_of_getElem? (i := 317) (by decide +kernel))) rfl
theorem zk_318 : Cond.code zy_Int_bitCount prog_13_method_49_code 1 (Option.some Jvm.ClassFile.FieldType.int) ∈ za_ws := za_ws_in (List.mem_append_right _ (List.mem_of_getElem? (i := 318) (by decide +kernel))) rfl
theorem zk_319 : Cond.constant "java/lang/Integer" 265 (1431655765 : Int32) ∈ za_ws := za_ws_in (List.mem_append_right _ (List.mem_of_getElem? (i := 319) (by decide +kernel))) rfl
theorem zk_32 : Cond.instanceMethod zy_Trust_init ∈ za_ws := za_ws_in (List.mem_append_right _ (List.mem_of_getElem? (i := 32) (by decide +kernel))) rfl
theorem zk_320 : Cond.constant "java/lang/Integer" 266 (858993459 : Int32) ∈ za_ws := za_ws_in (List.mem_append_right _ (List.mem_of_getElem? (i := 320) (by decide +kernel))) rfl
theorem zk_321 : Cond.constant "java/lang/Integer" 267 (252645135 : Int32) ∈ za_ws := za_ws_in (List.mem_append_right _ (List.mem_of_getElem? (i := 321) (by decide +kernel))) rfl
theorem zk_322 : Cond.methodLink "TrustLedger$Statements" 46 zy_Trust_isBlockedBy ∈ za_ws := za_ws_in (List.mem_append_right _ (List.mem_of_getElem? (i := 322) (by decide +kernel))) rfl
theorem zk_323 : Cond.instanceMethod zy_Trust_isBlockedBy ∈ za_ws := za_ws_in (List.mem_append_right _ (List.mem_of_getElem? (i := 323) (by decide +kernel))) rfl
theorem zk_324 : Cond.selects "TrustLedger$Trust" zy_Trust_isBlockedBy zy_Trust_isBlockedBy ∈ za_ws := za_ws_in (List.mem_append_right _ (List.mem_of_getElem? (i := 324) (by decide +kernel))) rfl
theorem zk_325 : Cond.code zy_Trust_isBlockedBy prog_10_method_4_code 2 (Option.some Jvm.ClassFile.FieldType.boolean) ∈ za_ws := za_ws_in (List.mem_append_right _ (List.mem_of_getElem? (i := 325) (by decide +kernel))) rfl
theorem zk_326 : Cond.methodLink "TrustLedger$Trust" 30 zy_Trust_isSatisfiedBy ∈ za_ws := za_ws_in (List.mem_append_right _ (List.mem_of_getElem? (i := 326) (by decide +kernel))) rfl
theorem zk_327 : Cond.methodLink "TrustLedger$Agreement" 93 zy_Agreement_confirmNominate ∈ za_ws := za_ws_in (List.mem_append_right _ (List.mem_of_getElem? (i := 327) (by decide +kernel))) rfl
theorem zk_329 : Cond.instanceMethod zy_Agreement_confirmNominate ∈ za_ws := za_ws_in (List.mem_append_right _ (List.mem_of_getElem? (i := 329) (by decide +kernel))) rfl
theorem zk_33 : Cond.code zy_Trust_init prog_10_method_1_code 1 (Option.none : Option Jvm.ClassFile.FieldType) ∈ za_ws := za_ws_in (List.mem_append_right _ (List.mem_of_getElem? (i := 33) (by decide +kernel))) rfl
theorem zk_330 : Cond.code zy_Agreement_confirmNominate prog_2_method_14_code 3 (Option.some Jvm.ClassFile.FieldType.boolean) ∈ za_ws := za_ws_in (List.mem_append_right _ (List.mem_of_getElem? (i := 330) (by decide +kernel))) rfl
theorem zk_331 : Cond.methodLink "TrustLedger$Agreement" 145 zy_Statements_confirmIfMay ∈ za_ws := za_ws_in (List.mem_append_right _ (List.mem_of_getElem? (i := 331) (by decide +kernel))) rfl
theorem zk_332 : Cond.instanceMethod zy_Statements_confirmIfMay ∈ za_ws := za_ws_in (List.mem_append_right _ (List.mem_of_getElem? (i := 332) (by decide +kernel))) rfl
theorem zk_333 : Cond.selects "TrustLedger$Statements" zy_Statements_confirmIfMay zy_Statements_confirmIfMay ∈ za_ws := za_ws_in (List.mem_append_right _ (List.mem_of_getElem? (i := 333) (by decide +kernel))) rfl
theorem zk_334 : Cond.code zy_Statements_confirmIfMay prog_8_method_4_code 3 (Option.some Jvm.ClassFile.FieldType.boolean) ∈ za_ws := za_ws_in (List.mem_append_right _ (List.mem_of_getElem? (i := 334) (by decide +kernel))) rfl
theorem zk_335 : Cond.methodLink "TrustLedger$Agreement" 96 zy_Agreement_beginPrepare ∈ za_ws := za_ws_in (List.mem_append_right _ (List.mem_of_getElem? (i := 335) (by decide +kernel))) rfl
theorem zk_337 : Cond.instanceMethod zy_Agreement_beginPrepare ∈ za_ws := za_ws_in (List.mem_append_right _ (List.mem_of_getElem? (i := 337) (by decide +kernel))) rfl
theorem zk_338 : Cond.code zy_Agreement_beginPrepare prog_2_method_15_code 1 (Option.some Jvm.ClassFile.FieldType.boolean) ∈ za_ws := za_ws_in (List.mem_append_right _ (List.mem_of_getElem? (i := 338) (by decide +kernel))) rfl
theorem zk_339 : Cond.methodLink "TrustLedger$Agreement" 52 zy_Agreement_composite ∈ za_ws := za_ws_in (List.mem_append_right _ (List.mem_of_getElem? (i := 339) (by decide +kernel))) rfl
theorem zk_34 : Cond.methodLink "TrustLedger$Trust" 3 (⟨"java/lang/Object", "<init>", "()V"⟩ : MethodName) ∈ za_ws := za_ws_in (List.mem_append_right _ (List.mem_of_getElem? (i := 34) (by decide +kernel))) rfl
theorem zk_341 : Cond.instanceMethod zy_Agreement_composite ∈ za_ws := za_ws_in (List.mem_append_right _ (List.mem_of_getElem? (i := 341) (by decide +kernel))) rfl
theorem zk_342 : Cond.code zy_Agreement_composite prog_2_method_10_code 3 (Option.some Jvm.ClassFile.FieldType.int) ∈ za_ws := za_ws_in (List.mem_append_right _ (List.mem_of_getElem? (i := 342) (by decide +kernel))) rfl
theorem zk_343 : Cond.methodLink "TrustLedger$Agreement" 62 zy_Agreement_raiseCounter ∈ za_ws := za_ws_in (List.mem_append_right _ (List.mem_of_getElem? (i := 343) (by decide +kernel))) rfl
theorem zk_345 : Cond.instanceMethod zy_Agreement_raiseCounter ∈ za_ws := za_ws_in (List.mem_append_right _ (List.mem_of_getElem? (i := 345) (by decide +kernel))) rfl
theorem zk_346 : Cond.code zy_Agreement_raiseCounter prog_2_method_9_code 1 (Option.none : Option Jvm.ClassFile.FieldType) ∈ za_ws := za_ws_in (List.mem_append_right _ (List.mem_of_getElem? (i := 346) (by decide +kernel))) rfl
theorem zk_347 : Cond.methodLink "TrustLedger$Agreement" 120 zy_Agreement_valueToPrepare ∈ za_ws := za_ws_in (List.mem_append_right _ (List.mem_of_getElem? (i := 347) (by decide +kernel))) rfl
theorem zk_349 : Cond.instanceMethod zy_Agreement_valueToPrepare ∈ za_ws := za_ws_in (List.mem_append_right _ (List.mem_of_getElem? (i := 349) (by decide +kernel))) rfl
theorem zk_35 : Cond.fieldLink "TrustLedger$Trust" 9 "TrustLedger$Trust" "threshold" "I" ∈ za_ws := za_ws_in (List.mem_append_right _ (List.mem_of_getElem? (i := 35) (by decide +kernel))) rfl
theorem zk_350 : Cond.code zy_Agreement_valueToPrepare prog_2_method_11_code 2 (Option.some Jvm.ClassFile.FieldType.int) ∈ za_ws := za_ws_in (List.mem_append_right _ (List.mem_of_getElem? (i := 350) (by decide +kernel))) rfl
theorem zk_352 : Cond.static zy_TL_valueOf ∈ za_ws := za_ws_in (List.mem_append_right _ (List.mem_of_getElem? (i := 352) (by decide +kernel))) rfl
theorem zk_353 : Cond.code zy_TL_valueOf prog_1_method_20_code 1 (Option.some Jvm.ClassFile.FieldType.int) ∈ za_ws := za_ws_in (List.mem_append_right _ (List.mem_of_getElem? (i := 353) (by decide +kernel))) rfl
theorem zk_355 : Cond.static zy_TL_ballotOf ∈ za_ws := za_ws_in (List.mem_append_right _ (List.mem_of_getElem? (i := 355) (by decide +kernel))) rfl
theorem zk_356 : Cond.code zy_TL_ballotOf prog_1_method_21_code 2 (Option.some Jvm.ClassFile.FieldType.int) ∈ za_ws := za_ws_in (List.mem_append_right _ (List.mem_of_getElem? (i := 356) (by decide +kernel))) rfl
theorem zk_357 : Cond.methodLink "TrustLedger$Agreement" 99 zy_Agreement_acceptPrepare ∈ za_ws := za_ws_in (List.mem_append_right _ (List.mem_of_getElem? (i := 357) (by decide +kernel))) rfl
theorem zk_359 : Cond.instanceMethod zy_Agreement_acceptPrepare ∈ za_ws := za_ws_in (List.mem_append_right _ (List.mem_of_getElem? (i := 359) (by decide +kernel))) rfl
theorem zk_36 : Cond.fieldLink "TrustLedger$Trust" 15 "TrustLedger$Trust" "members" "I" ∈ za_ws := za_ws_in (List.mem_append_right _ (List.mem_of_getElem? (i := 36) (by decide +kernel))) rfl
theorem zk_360 : Cond.code zy_Agreement_acceptPrepare prog_2_method_16_code 3 (Option.some Jvm.ClassFile.FieldType.boolean) ∈ za_ws := za_ws_in (List.mem_append_right _ (List.mem_of_getElem? (i := 360) (by decide +kernel))) rfl
theorem zk_362 : Cond.static zy_TL_abortedBy ∈ za_ws := za_ws_in (List.mem_append_right _ (List.mem_of_getElem? (i := 362) (by decide +kernel))) rfl
theorem zk_363 : Cond.code zy_TL_abortedBy prog_1_method_23_code 1 (Option.some Jvm.ClassFile.FieldType.int) ∈ za_ws := za_ws_in (List.mem_append_right _ (List.mem_of_getElem? (i := 363) (by decide +kernel))) rfl
theorem zk_364 : Cond.methodLink "TrustLedger" 193 zy_TL_otherValued ∈ za_ws := za_ws_in (List.mem_append_right _ (List.mem_of_getElem? (i := 364) (by decide +kernel))) rfl
theorem zk_365 : Cond.static zy_TL_otherValued ∈ za_ws := za_ws_in (List.mem_append_right _ (List.mem_of_getElem? (i := 365) (by decide +kernel))) rfl
theorem zk_366 : Cond.code zy_TL_otherValued prog_1_method_22_code 1 (Option.some Jvm.ClassFile.FieldType.int) ∈ za_ws := za_ws_in (List.mem_append_right _ (List.mem_of_getElem? (i := 366) (by decide +kernel))) rfl
theorem zk_367 : Cond.constant "TrustLedger" 142 (268435455 : Int32) ∈ za_ws := za_ws_in (List.mem_append_right _ (List.mem_of_getElem? (i := 367) (by decide +kernel))) rfl
theorem zk_368 : Cond.constant "TrustLedger" 192 (2113665 : Int32) ∈ za_ws := za_ws_in (List.mem_append_right _ (List.mem_of_getElem? (i := 368) (by decide +kernel))) rfl
theorem zk_369 : Cond.methodLink "TrustLedger$Agreement" 102 zy_Agreement_confirmPrepare ∈ za_ws := za_ws_in (List.mem_append_right _ (List.mem_of_getElem? (i := 369) (by decide +kernel))) rfl
theorem zk_37 : Cond.fieldLink "TrustLedger$Trust" 18 "TrustLedger$Trust" "inner" "I" ∈ za_ws := za_ws_in (List.mem_append_right _ (List.mem_of_getElem? (i := 37) (by decide +kernel))) rfl
theorem zk_371 : Cond.instanceMethod zy_Agreement_confirmPrepare ∈ za_ws := za_ws_in (List.mem_append_right _ (List.mem_of_getElem? (i := 371) (by decide +kernel))) rfl
theorem zk_372 : Cond.code zy_Agreement_confirmPrepare prog_2_method_17_code 3 (Option.some Jvm.ClassFile.FieldType.boolean) ∈ za_ws := za_ws_in (List.mem_append_right _ (List.mem_of_getElem? (i := 372) (by decide +kernel))) rfl
theorem zk_373 : Cond.methodLink "TrustLedger$Agreement" 105 zy_Agreement_voteCommit ∈ za_ws := za_ws_in (List.mem_append_right _ (List.mem_of_getElem? (i := 373) (by decide +kernel))) rfl
theorem zk_375 : Cond.instanceMethod zy_Agreement_voteCommit ∈ za_ws := za_ws_in (List.mem_append_right _ (List.mem_of_getElem? (i := 375) (by decide +kernel))) rfl
theorem zk_376 : Cond.code zy_Agreement_voteCommit prog_2_method_18_code 3 (Option.some Jvm.ClassFile.FieldType.boolean) ∈ za_ws := za_ws_in (List.mem_append_right _ (List.mem_of_getElem? (i := 376) (by decide +kernel))) rfl
theorem zk_378 : Cond.static zy_TL_abortersOf ∈ za_ws := za_ws_in (List.mem_append_right _ (List.mem_of_getElem? (i := 378) (by decide +kernel))) rfl
theorem zk_379 : Cond.code zy_TL_abortersOf prog_1_method_24_code 1 (Option.some Jvm.ClassFile.FieldType.int) ∈ za_ws := za_ws_in (List.mem_append_right _ (List.mem_of_getElem? (i := 379) (by decide +kernel))) rfl
theorem zk_38 : Cond.fieldLink "TrustLedger$Trust" 21 "TrustLedger$Trust" "group" "I" ∈ za_ws := za_ws_in (List.mem_append_right _ (List.mem_of_getElem? (i := 38) (by decide +kernel))) rfl
theorem zk_380 : Cond.methodLink "TrustLedger$Agreement" 108 zy_Agreement_settleCommit ∈ za_ws := za_ws_in (List.mem_append_right _ (List.mem_of_getElem? (i := 380) (by decide +kernel))) rfl
theorem zk_382 : Cond.instanceMethod zy_Agreement_settleCommit ∈ za_ws := za_ws_in (List.mem_append_right _ (List.mem_of_getElem? (i := 382) (by decide +kernel))) rfl
theorem zk_383 : Cond.code zy_Agreement_settleCommit prog_2_method_19_code 3 (Option.some Jvm.ClassFile.FieldType.boolean) ∈ za_ws := za_ws_in (List.mem_append_right _ (List.mem_of_getElem? (i := 383) (by decide +kernel))) rfl
theorem zk_384 : Cond.methodLink "TrustLedger" 97 zy_TL_closeSlot ∈ za_ws := za_ws_in (List.mem_append_right _ (List.mem_of_getElem? (i := 384) (by decide +kernel))) rfl
theorem zk_386 : Cond.instanceMethod zy_TL_closeSlot ∈ za_ws := za_ws_in (List.mem_append_right _ (List.mem_of_getElem? (i := 386) (by decide +kernel))) rfl
theorem zk_387 : Cond.code zy_TL_closeSlot prog_1_method_29_code 5 (Option.none : Option Jvm.ClassFile.FieldType) ∈ za_ws := za_ws_in (List.mem_append_right _ (List.mem_of_getElem? (i := 387) (by decide +kernel))) rfl
theorem zk_388 : Cond.methodLink "TrustLedger" 196 zy_Ledger_carryOut ∈ za_ws := za_ws_in (List.mem_append_right _ (List.mem_of_getElem? (i := 388) (by decide +kernel))) rfl
theorem zk_389 : Cond.instanceMethod zy_Ledger_carryOut ∈ za_ws := za_ws_in (List.mem_append_right _ (List.mem_of_getElem? (i := 389) (by decide +kernel))) rfl
theorem zk_390 : Cond.selects "TrustLedger$Ledger" zy_Ledger_carryOut zy_Ledger_carryOut ∈ za_ws := za_ws_in (List.mem_append_right _ (List.mem_of_getElem? (i := 390) (by decide +kernel))) rfl
theorem zk_391 : Cond.code zy_Ledger_carryOut prog_4_method_3_code 2 (Option.none : Option Jvm.ClassFile.FieldType) ∈ za_ws := za_ws_in (List.mem_append_right _ (List.mem_of_getElem? (i := 391) (by decide +kernel))) rfl
theorem zk_392 : Cond.instantiable "TrustLedger$Offer" 4 ∈ za_ws := za_ws_in (List.mem_append_right _ (List.mem_of_getElem? (i := 392) (by decide +kernel))) rfl
theorem zk_393 : Cond.methodLink "TrustLedger$Ledger" 42 zy_Offer_init ∈ za_ws := za_ws_in (List.mem_append_right _ (List.mem_of_getElem? (i := 393) (by decide +kernel))) rfl
theorem zk_394 : Cond.instanceMethod zy_Offer_init ∈ za_ws := za_ws_in (List.mem_append_right _ (List.mem_of_getElem? (i := 394) (by decide +kernel))) rfl
theorem zk_395 : Cond.code zy_Offer_init prog_6_method_1_code 5 (Option.none : Option Jvm.ClassFile.FieldType) ∈ za_ws := za_ws_in (List.mem_append_right _ (List.mem_of_getElem? (i := 395) (by decide +kernel))) rfl
theorem zk_396 : Cond.methodLink "TrustLedger$Offer" 3 (⟨"java/lang/Object", "<init>", "()V"⟩ : MethodName) ∈ za_ws := za_ws_in (List.mem_append_right _ (List.mem_of_getElem? (i := 396) (by decide +kernel))) rfl
theorem zk_397 : Cond.fieldLink "TrustLedger$Offer" 9 "TrustLedger$Offer" "account" "I" ∈ za_ws := za_ws_in (List.mem_append_right _ (List.mem_of_getElem? (i := 397) (by decide +kernel))) rfl
theorem zk_4 : Cond.initialized "TrustLedger$Node" ∈ za_ws := za_ws_in (List.mem_append_right _ (List.mem_of_getElem? (i := 4) (by decide +kernel))) rfl
theorem zk_400 : Cond.fieldLink "TrustLedger$Offer" 15 "TrustLedger$Offer" "side" "I" ∈ za_ws := za_ws_in (List.mem_append_right _ (List.mem_of_getElem? (i := 400) (by decide +kernel))) rfl
theorem zk_403 : Cond.fieldLink "TrustLedger$Offer" 18 "TrustLedger$Offer" "price" "I" ∈ za_ws := za_ws_in (List.mem_append_right _ (List.mem_of_getElem? (i := 403) (by decide +kernel))) rfl
theorem zk_406 : Cond.fieldLink "TrustLedger$Offer" 21 "TrustLedger$Offer" "amount" "I" ∈ za_ws := za_ws_in (List.mem_append_right _ (List.mem_of_getElem? (i := 406) (by decide +kernel))) rfl
theorem zk_418 : Cond.methodLink "TrustLedger$Ledger" 45 zy_Ledger_match ∈ za_ws := za_ws_in (List.mem_append_right _ (List.mem_of_getElem? (i := 418) (by decide +kernel))) rfl
theorem zk_420 : Cond.instanceMethod zy_Ledger_match ∈ za_ws := za_ws_in (List.mem_append_right _ (List.mem_of_getElem? (i := 420) (by decide +kernel))) rfl
theorem zk_421 : Cond.code zy_Ledger_match prog_4_method_5_code 5 (Option.none : Option Jvm.ClassFile.FieldType) ∈ za_ws := za_ws_in (List.mem_append_right _ (List.mem_of_getElem? (i := 421) (by decide +kernel))) rfl
theorem zk_422 : Cond.methodLink "TrustLedger$Ledger" 58 zy_Ledger_bestFor ∈ za_ws := za_ws_in (List.mem_append_right _ (List.mem_of_getElem? (i := 422) (by decide +kernel))) rfl
theorem zk_424 : Cond.instanceMethod zy_Ledger_bestFor ∈ za_ws := za_ws_in (List.mem_append_right _ (List.mem_of_getElem? (i := 424) (by decide +kernel))) rfl
theorem zk_425 : Cond.code zy_Ledger_bestFor prog_4_method_6_code 7 (Option.some Jvm.ClassFile.FieldType.int) ∈ za_ws := za_ws_in (List.mem_append_right _ (List.mem_of_getElem? (i := 425) (by decide +kernel))) rfl
theorem zk_426 : Cond.methodLink "TrustLedger$Ledger" 75 zy_Offer_agreesTo ∈ za_ws := za_ws_in (List.mem_append_right _ (List.mem_of_getElem? (i := 426) (by decide +kernel))) rfl
theorem zk_427 : Cond.instanceMethod zy_Offer_agreesTo ∈ za_ws := za_ws_in (List.mem_append_right _ (List.mem_of_getElem? (i := 427) (by decide +kernel))) rfl
theorem zk_428 : Cond.selects "TrustLedger$Offer" zy_Offer_agreesTo zy_Offer_agreesTo ∈ za_ws := za_ws_in (List.mem_append_right _ (List.mem_of_getElem? (i := 428) (by decide +kernel))) rfl
theorem zk_429 : Cond.code zy_Offer_agreesTo prog_6_method_3_code 2 (Option.some Jvm.ClassFile.FieldType.boolean) ∈ za_ws := za_ws_in (List.mem_append_right _ (List.mem_of_getElem? (i := 429) (by decide +kernel))) rfl
theorem zk_430 : Cond.methodLink "TrustLedger$Offer" 24 zy_Offer_sells ∈ za_ws := za_ws_in (List.mem_append_right _ (List.mem_of_getElem? (i := 430) (by decide +kernel))) rfl
theorem zk_431 : Cond.instanceMethod zy_Offer_sells ∈ za_ws := za_ws_in (List.mem_append_right _ (List.mem_of_getElem? (i := 431) (by decide +kernel))) rfl
theorem zk_432 : Cond.selects "TrustLedger$Offer" zy_Offer_sells zy_Offer_sells ∈ za_ws := za_ws_in (List.mem_append_right _ (List.mem_of_getElem? (i := 432) (by decide +kernel))) rfl
theorem zk_433 : Cond.code zy_Offer_sells prog_6_method_2_code 1 (Option.some Jvm.ClassFile.FieldType.boolean) ∈ za_ws := za_ws_in (List.mem_append_right _ (List.mem_of_getElem? (i := 433) (by decide +kernel))) rfl
theorem zk_434 : Cond.methodLink "TrustLedger$Ledger" 79 zy_Offer_prefers ∈ za_ws := za_ws_in (List.mem_append_right _ (List.mem_of_getElem? (i := 434) (by decide +kernel))) rfl
theorem zk_435 : Cond.instanceMethod zy_Offer_prefers ∈ za_ws := za_ws_in (List.mem_append_right _ (List.mem_of_getElem? (i := 435) (by decide +kernel))) rfl
theorem zk_436 : Cond.selects "TrustLedger$Offer" zy_Offer_prefers zy_Offer_prefers ∈ za_ws := za_ws_in (List.mem_append_right _ (List.mem_of_getElem? (i := 436) (by decide +kernel))) rfl
theorem zk_437 : Cond.code zy_Offer_prefers prog_6_method_4_code 3 (Option.some Jvm.ClassFile.FieldType.boolean) ∈ za_ws := za_ws_in (List.mem_append_right _ (List.mem_of_getElem? (i := 437) (by decide +kernel))) rfl
theorem zk_438 : Cond.methodLink "TrustLedger$Ledger" 62 zy_Ledger_tradeWith ∈ za_ws := za_ws_in (List.mem_append_right _ (List.mem_of_getElem? (i := 438) (by decide +kernel))) rfl
theorem zk_440 : Cond.instanceMethod zy_Ledger_tradeWith ∈ za_ws := za_ws_in (List.mem_append_right _ (List.mem_of_getElem? (i := 440) (by decide +kernel))) rfl
theorem zk_441 : Cond.code zy_Ledger_tradeWith prog_4_method_7_code 8 (Option.some Jvm.ClassFile.FieldType.boolean) ∈ za_ws := za_ws_in (List.mem_append_right _ (List.mem_of_getElem? (i := 441) (by decide +kernel))) rfl
theorem zk_442 : Cond.methodLink "TrustLedger$Ledger" 83 zy_Offer_sells ∈ za_ws := za_ws_in (List.mem_append_right _ (List.mem_of_getElem? (i := 442) (by decide +kernel))) rfl
theorem zk_443 : Cond.methodLink "TrustLedger$Ledger" 90 (⟨"java/lang/Math", "min", "(II)I"⟩ : MethodName) ∈ za_ws := za_ws_in (List.mem_append_right _ (List.mem_of_getElem? (i := 443) (by decide +kernel))) rfl
theorem zk_444 : Cond.static (⟨"java/lang/Math", "min", "(II)I"⟩ : MethodName) ∈ za_ws := za_ws_in (List.mem_append_right _ (List.mem_of_getElem? (i := 444) (by decide +kernel))) rfl
theorem zk_445 : Cond.code (⟨"java/lang/Math", "min", "(II)I"⟩ : MethodName) prog_14_method_69_code 2 (Option.some Jvm.ClassFile.FieldType.int) ∈ za_ws := za_ws_in (List.mem_append_right _ (List.mem_of_getElem? (i := 445) (by decide +kernel))) rfl
theorem zk_446 : Cond.methodLink "TrustLedger$Ledger" 96 zy_Ledger_canServe ∈ za_ws := za_ws_in (List.mem_append_right _ (List.mem_of_getElem? (i := 446) (by decide +kernel))) rfl
theorem zk_448 : Cond.instanceMethod zy_Ledger_canServe ∈ za_ws := za_ws_in (List.mem_append_right _ (List.mem_of_getElem? (i := 448) (by decide +kernel))) rfl
theorem zk_449 : Cond.code zy_Ledger_canServe prog_4_method_8_code 2 (Option.some Jvm.ClassFile.FieldType.boolean) ∈ za_ws := za_ws_in (List.mem_append_right _ (List.mem_of_getElem? (i := 449) (by decide +kernel))) rfl
theorem zk_450 : Cond.methodLink "TrustLedger$Ledger" 53 zy_Ledger_move ∈ za_ws := za_ws_in (List.mem_append_right _ (List.mem_of_getElem? (i := 450) (by decide +kernel))) rfl
theorem zk_452 : Cond.instanceMethod zy_Ledger_move ∈ za_ws := za_ws_in (List.mem_append_right _ (List.mem_of_getElem? (i := 452) (by decide +kernel))) rfl
theorem zk_453 : Cond.code zy_Ledger_move prog_4_method_4_code 5 (Option.none : Option Jvm.ClassFile.FieldType) ∈ za_ws := za_ws_in (List.mem_append_right _ (List.mem_of_getElem? (i := 453) (by decide +kernel))) rfl
theorem zk_454 : Cond.methodLink "TrustLedger$Ledger" 100 zy_Ledger_takeOut ∈ za_ws := za_ws_in (List.mem_append_right _ (List.mem_of_getElem? (i := 454) (by decide +kernel))) rfl
theorem zk_456 : Cond.instanceMethod zy_Ledger_takeOut ∈ za_ws := za_ws_in (List.mem_append_right _ (List.mem_of_getElem? (i := 456) (by decide +kernel))) rfl
theorem zk_457 : Cond.code zy_Ledger_takeOut prog_4_method_9_code 3 (Option.none : Option Jvm.ClassFile.FieldType) ∈ za_ws := za_ws_in (List.mem_append_right _ (List.mem_of_getElem? (i := 457) (by decide +kernel))) rfl
theorem zk_458 : Cond.methodLink "TrustLedger$Ledger" 49 zy_Ledger_holdings ∈ za_ws := za_ws_in (List.mem_append_right _ (List.mem_of_getElem? (i := 458) (by decide +kernel))) rfl
theorem zk_459 : Cond.instanceMethod zy_Ledger_holdings ∈ za_ws := za_ws_in (List.mem_append_right _ (List.mem_of_getElem? (i := 459) (by decide +kernel))) rfl
theorem zk_460 : Cond.selects "TrustLedger$Ledger" zy_Ledger_holdings zy_Ledger_holdings ∈ za_ws := za_ws_in (List.mem_append_right _ (List.mem_of_getElem? (i := 460) (by decide +kernel))) rfl
theorem zk_461 : Cond.code zy_Ledger_holdings prog_4_method_2_code 2 (Option.some (Jvm.ClassFile.FieldType.array Jvm.ClassFile.FieldType.int)) ∈ za_ws := za_ws_in (List.mem_append_right _ (List.mem_of_getElem? (i := 461) (by decide +kernel))) rfl
theorem zk_462 : Cond.methodLink "TrustLedgerLaw" 36 zy_TL_timeout ∈ za_ws := za_ws_in (List.mem_append_right _ (List.mem_of_getElem? (i := 462) (by decide +kernel))) rfl
theorem zk_463 : Cond.instanceMethod zy_TL_timeout ∈ za_ws := za_ws_in (List.mem_append_right _ (List.mem_of_getElem? (i := 463) (by decide +kernel))) rfl
theorem zk_464 : Cond.selects "TrustLedger" zy_TL_timeout zy_TL_timeout ∈ za_ws := za_ws_in (List.mem_append_right _ (List.mem_of_getElem? (i := 464) (by decide +kernel))) rfl
theorem zk_465 : Cond.code zy_TL_timeout prog_1_method_5_code 3 (Option.some Jvm.ClassFile.FieldType.boolean) ∈ za_ws := za_ws_in (List.mem_append_right _ (List.mem_of_getElem? (i := 465) (by decide +kernel))) rfl
theorem zk_466 : Cond.methodLink "TrustLedger" 104 zy_Agreement_runOutOfTime ∈ za_ws := za_ws_in (List.mem_append_right _ (List.mem_of_getElem? (i := 466) (by decide +kernel))) rfl
theorem zk_467 : Cond.instanceMethod zy_Agreement_runOutOfTime ∈ za_ws := za_ws_in (List.mem_append_right _ (List.mem_of_getElem? (i := 467) (by decide +kernel))) rfl
theorem zk_468 : Cond.selects "TrustLedger$Agreement" zy_Agreement_runOutOfTime zy_Agreement_runOutOfTime ∈ za_ws := za_ws_in (List.mem_append_right _ (List.mem_of_getElem? (i := 468) (by decide +kernel))) rfl
theorem zk_469 : Cond.code zy_Agreement_runOutOfTime prog_2_method_5_code 1 (Option.none : Option Jvm.ClassFile.FieldType) ∈ za_ws := za_ws_in (List.mem_append_right _ (List.mem_of_getElem? (i := 469) (by decide +kernel))) rfl
theorem zk_470 : Cond.methodLink "TrustLedgerLaw" 41 zy_TL_post ∈ za_ws := za_ws_in (List.mem_append_right _ (List.mem_of_getElem? (i := 470) (by decide +kernel))) rfl
theorem zk_471 : Cond.instanceMethod zy_TL_post ∈ za_ws := za_ws_in (List.mem_append_right _ (List.mem_of_getElem? (i := 471) (by decide +kernel))) rfl
theorem zk_472 : Cond.selects "TrustLedger" zy_TL_post zy_TL_post ∈ za_ws := za_ws_in (List.mem_append_right _ (List.mem_of_getElem? (i := 472) (by decide +kernel))) rfl
theorem zk_473 : Cond.code zy_TL_post prog_1_method_6_code 6 (Option.some Jvm.ClassFile.FieldType.int) ∈ za_ws := za_ws_in (List.mem_append_right _ (List.mem_of_getElem? (i := 473) (by decide +kernel))) rfl
theorem zk_474 : Cond.instantiable "TrustLedger$Envelope" 4 ∈ za_ws := za_ws_in (List.mem_append_right _ (List.mem_of_getElem? (i := 474) (by decide +kernel))) rfl
theorem zk_475 : Cond.methodLink "TrustLedger" 113 zy_Envelope_init ∈ za_ws := za_ws_in (List.mem_append_right _ (List.mem_of_getElem? (i := 475) (by decide +kernel))) rfl
theorem zk_476 : Cond.instanceMethod zy_Envelope_init ∈ za_ws := za_ws_in (List.mem_append_right _ (List.mem_of_getElem? (i := 476) (by decide +kernel))) rfl
theorem zk_477 : Cond.code zy_Envelope_init prog_3_method_1_code 3 (Option.none : Option Jvm.ClassFile.FieldType) ∈ za_ws := za_ws_in (List.mem_append_right _ (List.mem_of_getElem? (i := 477) (by decide +kernel))) rfl
theorem zk_478 : Cond.methodLink "TrustLedger$Envelope" 3 (⟨"java/lang/Object", "<init>", "()V"⟩ : MethodName) ∈ za_ws := za_ws_in (List.mem_append_right _ (List.mem_of_getElem? (i := 478) (by decide +kernel))) rfl
theorem zk_479 : Cond.fieldLink "TrustLedger$Envelope" 9 "TrustLedger$Envelope" "sender" "I" ∈ za_ws := za_ws_in (List.mem_append_right _ (List.mem_of_getElem? (i := 479) (by decide +kernel))) rfl
theorem zk_48 : Cond.fieldLink "TrustLedger$Quorums" 11 "TrustLedger$Quorums" "trusts" "[LTrustLedger$Trust;" ∈ za_ws := za_ws_in (List.mem_append_right _ (List.mem_of_getElem? (i := 48) (by decide +kernel))) rfl
theorem zk_482 : Cond.fieldLink "TrustLedger$Envelope" 15 "TrustLedger$Envelope" "slot" "I" ∈ za_ws := za_ws_in (List.mem_append_right _ (List.mem_of_getElem? (i := 482) (by decide +kernel))) rfl
theorem zk_484 : Cond.fieldLink "TrustLedger$Envelope" 18 "TrustLedger$Envelope" "backed" "[I" ∈ za_ws := za_ws_in (List.mem_append_right _ (List.mem_of_getElem? (i := 484) (by decide +kernel))) rfl
theorem zk_487 : Cond.fieldLink "TrustLedger$Envelope" 22 "TrustLedger$Envelope" "accepted" "[I" ∈ za_ws := za_ws_in (List.mem_append_right _ (List.mem_of_getElem? (i := 487) (by decide +kernel))) rfl
theorem zk_499 : Cond.methodLink "TrustLedger" 116 zy_Agreement_ofKind ∈ za_ws := za_ws_in (List.mem_append_right _ (List.mem_of_getElem? (i := 499) (by decide +kernel))) rfl
theorem zk_5 : Cond.initialized "TrustLedger$Agreement" ∈ za_ws := za_ws_in (List.mem_append_right _ (List.mem_of_getElem? (i := 5) (by decide +kernel))) rfl
theorem zk_500 : Cond.instanceMethod zy_Agreement_ofKind ∈ za_ws := za_ws_in (List.mem_append_right _ (List.mem_of_getElem? (i := 500) (by decide +kernel))) rfl
theorem zk_501 : Cond.selects "TrustLedger$Agreement" zy_Agreement_ofKind zy_Agreement_ofKind ∈ za_ws := za_ws_in (List.mem_append_right _ (List.mem_of_getElem? (i := 501) (by decide +kernel))) rfl
theorem zk_502 : Cond.code zy_Agreement_ofKind prog_2_method_2_code 2 (Option.some (Jvm.ClassFile.FieldType.object "TrustLedger$Statements")) ∈ za_ws := za_ws_in (List.mem_append_right _ (List.mem_of_getElem? (i := 502) (by decide +kernel))) rfl
theorem zk_503 : Cond.methodLink "TrustLedger" 131 zy_TL_keepEnvelope ∈ za_ws := za_ws_in (List.mem_append_right _ (List.mem_of_getElem? (i := 503) (by decide +kernel))) rfl
theorem zk_505 : Cond.instanceMethod zy_TL_keepEnvelope ∈ za_ws := za_ws_in (List.mem_append_right _ (List.mem_of_getElem? (i := 505) (by decide +kernel))) rfl
theorem zk_506 : Cond.code zy_TL_keepEnvelope prog_1_method_28_code 2 (Option.some Jvm.ClassFile.FieldType.int) ∈ za_ws := za_ws_in (List.mem_append_right _ (List.mem_of_getElem? (i := 506) (by decide +kernel))) rfl
theorem zk_507 : Cond.methodLink "TrustLedgerLaw" 46 zy_TL_forge ∈ za_ws := za_ws_in (List.mem_append_right _ (List.mem_of_getElem? (i := 507) (by decide +kernel))) rfl
theorem zk_508 : Cond.instanceMethod zy_TL_forge ∈ za_ws := za_ws_in (List.mem_append_right _ (List.mem_of_getElem? (i := 508) (by decide +kernel))) rfl
theorem zk_509 : Cond.selects "TrustLedger" zy_TL_forge zy_TL_forge ∈ za_ws := za_ws_in (List.mem_append_right _ (List.mem_of_getElem? (i := 509) (by decide +kernel))) rfl
theorem zk_510 : Cond.code zy_TL_forge prog_1_method_7_code 8 (Option.some Jvm.ClassFile.FieldType.int) ∈ za_ws := za_ws_in (List.mem_append_right _ (List.mem_of_getElem? (i := 510) (by decide +kernel))) rfl
theorem zk_511 : Cond.methodLink "TrustLedger" 139 zy_Envelope_claim ∈ za_ws := za_ws_in (List.mem_append_right _ (List.mem_of_getElem? (i := 511) (by decide +kernel))) rfl
theorem zk_512 : Cond.instanceMethod zy_Envelope_claim ∈ za_ws := za_ws_in (List.mem_append_right _ (List.mem_of_getElem? (i := 512) (by decide +kernel))) rfl
theorem zk_513 : Cond.selects "TrustLedger$Envelope" zy_Envelope_claim zy_Envelope_claim ∈ za_ws := za_ws_in (List.mem_append_right _ (List.mem_of_getElem? (i := 513) (by decide +kernel))) rfl
theorem zk_514 : Cond.code zy_Envelope_claim prog_3_method_2_code 3 (Option.none : Option Jvm.ClassFile.FieldType) ∈ za_ws := za_ws_in (List.mem_append_right _ (List.mem_of_getElem? (i := 514) (by decide +kernel))) rfl
theorem zk_515 : Cond.methodLink "TrustLedgerLaw" 51 zy_TL_deliver ∈ za_ws := za_ws_in (List.mem_append_right _ (List.mem_of_getElem? (i := 515) (by decide +kernel))) rfl
theorem zk_516 : Cond.instanceMethod zy_TL_deliver ∈ za_ws := za_ws_in (List.mem_append_right _ (List.mem_of_getElem? (i := 516) (by decide +kernel))) rfl
theorem zk_517 : Cond.selects "TrustLedger" zy_TL_deliver zy_TL_deliver ∈ za_ws := za_ws_in (List.mem_append_right _ (List.mem_of_getElem? (i := 517) (by decide +kernel))) rfl
theorem zk_518 : Cond.code zy_TL_deliver prog_1_method_8_code 5 (Option.some Jvm.ClassFile.FieldType.boolean) ∈ za_ws := za_ws_in (List.mem_append_right _ (List.mem_of_getElem? (i := 518) (by decide +kernel))) rfl
theorem zk_519 : Cond.methodLink "TrustLedger" 147 zy_Agreement_learn ∈ za_ws := za_ws_in (List.mem_append_right _ (List.mem_of_getElem? (i := 519) (by decide +kernel))) rfl
theorem zk_520 : Cond.instanceMethod zy_Agreement_learn ∈ za_ws := za_ws_in (List.mem_append_right _ (List.mem_of_getElem? (i := 520) (by decide +kernel))) rfl
theorem zk_521 : Cond.selects "TrustLedger$Agreement" zy_Agreement_learn zy_Agreement_learn ∈ za_ws := za_ws_in (List.mem_append_right _ (List.mem_of_getElem? (i := 521) (by decide +kernel))) rfl
theorem zk_522 : Cond.code zy_Agreement_learn prog_2_method_6_code 4 (Option.none : Option Jvm.ClassFile.FieldType) ∈ za_ws := za_ws_in (List.mem_append_right _ (List.mem_of_getElem? (i := 522) (by decide +kernel))) rfl
theorem zk_523 : Cond.methodLink "TrustLedger$Agreement" 65 zy_Agreement_ofKind ∈ za_ws := za_ws_in (List.mem_append_right _ (List.mem_of_getElem? (i := 523) (by decide +kernel))) rfl
theorem zk_524 : Cond.methodLink "TrustLedgerLaw" 55 zy_TL_envelopes ∈ za_ws := za_ws_in (List.mem_append_right _ (List.mem_of_getElem? (i := 524) (by decide +kernel))) rfl
theorem zk_525 : Cond.instanceMethod zy_TL_envelopes ∈ za_ws := za_ws_in (List.mem_append_right _ (List.mem_of_getElem? (i := 525) (by decide +kernel))) rfl
theorem zk_526 : Cond.selects "TrustLedger" zy_TL_envelopes zy_TL_envelopes ∈ za_ws := za_ws_in (List.mem_append_right _ (List.mem_of_getElem? (i := 526) (by decide +kernel))) rfl
theorem zk_527 : Cond.code zy_TL_envelopes prog_1_method_9_code 1 (Option.some Jvm.ClassFile.FieldType.int) ∈ za_ws := za_ws_in (List.mem_append_right _ (List.mem_of_getElem? (i := 527) (by decide +kernel))) rfl
theorem zk_528 : Cond.methodLink "TrustLedgerLaw" 60 zy_TL_state ∈ za_ws := za_ws_in (List.mem_append_right _ (List.mem_of_getElem? (i := 528) (by decide +kernel))) rfl
theorem zk_529 : Cond.instanceMethod zy_TL_state ∈ za_ws := za_ws_in (List.mem_append_right _ (List.mem_of_getElem? (i := 529) (by decide +kernel))) rfl
theorem zk_530 : Cond.selects "TrustLedger" zy_TL_state zy_TL_state ∈ za_ws := za_ws_in (List.mem_append_right _ (List.mem_of_getElem? (i := 530) (by decide +kernel))) rfl
theorem zk_531 : Cond.code zy_TL_state prog_1_method_10_code 4 (Option.some Jvm.ClassFile.FieldType.int) ∈ za_ws := za_ws_in (List.mem_append_right _ (List.mem_of_getElem? (i := 531) (by decide +kernel))) rfl
theorem zk_532 : Cond.methodLink "TrustLedger" 151 zy_Agreement_aspect ∈ za_ws := za_ws_in (List.mem_append_right _ (List.mem_of_getElem? (i := 532) (by decide +kernel))) rfl
theorem zk_533 : Cond.instanceMethod zy_Agreement_aspect ∈ za_ws := za_ws_in (List.mem_append_right _ (List.mem_of_getElem? (i := 533) (by decide +kernel))) rfl
theorem zk_534 : Cond.selects "TrustLedger$Agreement" zy_Agreement_aspect zy_Agreement_aspect ∈ za_ws := za_ws_in (List.mem_append_right _ (List.mem_of_getElem? (i := 534) (by decide +kernel))) rfl
theorem zk_535 : Cond.code zy_Agreement_aspect prog_2_method_3_code 2 (Option.some Jvm.ClassFile.FieldType.int) ∈ za_ws := za_ws_in (List.mem_append_right _ (List.mem_of_getElem? (i := 535) (by decide +kernel))) rfl
theorem zk_536 : Cond.methodLink "TrustLedgerLaw" 64 zy_TL_statements ∈ za_ws := za_ws_in (List.mem_append_right _ (List.mem_of_getElem? (i := 536) (by decide +kernel))) rfl
theorem zk_537 : Cond.instanceMethod zy_TL_statements ∈ za_ws := za_ws_in (List.mem_append_right _ (List.mem_of_getElem? (i := 537) (by decide +kernel))) rfl
theorem zk_538 : Cond.selects "TrustLedger" zy_TL_statements zy_TL_statements ∈ za_ws := za_ws_in (List.mem_append_right _ (List.mem_of_getElem? (i := 538) (by decide +kernel))) rfl
theorem zk_539 : Cond.code zy_TL_statements prog_1_method_11_code 6 (Option.some Jvm.ClassFile.FieldType.int) ∈ za_ws := za_ws_in (List.mem_append_right _ (List.mem_of_getElem? (i := 539) (by decide +kernel))) rfl
theorem zk_540 : Cond.methodLink "TrustLedgerLaw" 69 zy_TL_value ∈ za_ws := za_ws_in (List.mem_append_right _ (List.mem_of_getElem? (i := 540) (by decide +kernel))) rfl
theorem zk_541 : Cond.instanceMethod zy_TL_value ∈ za_ws := za_ws_in (List.mem_append_right _ (List.mem_of_getElem? (i := 541) (by decide +kernel))) rfl
theorem zk_542 : Cond.selects "TrustLedger" zy_TL_value zy_TL_value ∈ za_ws := za_ws_in (List.mem_append_right _ (List.mem_of_getElem? (i := 542) (by decide +kernel))) rfl
theorem zk_543 : Cond.code zy_TL_value prog_1_method_12_code 3 (Option.some Jvm.ClassFile.FieldType.int) ∈ za_ws := za_ws_in (List.mem_append_right _ (List.mem_of_getElem? (i := 543) (by decide +kernel))) rfl
theorem zk_544 : Cond.methodLink "TrustLedgerLaw" 73 zy_TL_header ∈ za_ws := za_ws_in (List.mem_append_right _ (List.mem_of_getElem? (i := 544) (by decide +kernel))) rfl
theorem zk_545 : Cond.instanceMethod zy_TL_header ∈ za_ws := za_ws_in (List.mem_append_right _ (List.mem_of_getElem? (i := 545) (by decide +kernel))) rfl
theorem zk_546 : Cond.selects "TrustLedger" zy_TL_header zy_TL_header ∈ za_ws := za_ws_in (List.mem_append_right _ (List.mem_of_getElem? (i := 546) (by decide +kernel))) rfl
theorem zk_547 : Cond.code zy_TL_header prog_1_method_13_code 2 (Option.some Jvm.ClassFile.FieldType.int) ∈ za_ws := za_ws_in (List.mem_append_right _ (List.mem_of_getElem? (i := 547) (by decide +kernel))) rfl
theorem zk_548 : Cond.methodLink "TrustLedgerLaw" 78 zy_TL_balance ∈ za_ws := za_ws_in (List.mem_append_right _ (List.mem_of_getElem? (i := 548) (by decide +kernel))) rfl
theorem zk_549 : Cond.instanceMethod zy_TL_balance ∈ za_ws := za_ws_in (List.mem_append_right _ (List.mem_of_getElem? (i := 549) (by decide +kernel))) rfl
theorem zk_55 : Cond.classLink "TrustLedger" 20 "TrustLedger$Node" ∈ za_ws := za_ws_in (List.mem_append_right _ (List.mem_of_getElem? (i := 55) (by decide +kernel))) rfl
theorem zk_550 : Cond.selects "TrustLedger" zy_TL_balance zy_TL_balance ∈ za_ws := za_ws_in (List.mem_append_right _ (List.mem_of_getElem? (i := 550) (by decide +kernel))) rfl
theorem zk_551 : Cond.code zy_TL_balance prog_1_method_14_code 4 (Option.some Jvm.ClassFile.FieldType.int) ∈ za_ws := za_ws_in (List.mem_append_right _ (List.mem_of_getElem? (i := 551) (by decide +kernel))) rfl
theorem zk_552 : Cond.methodLink "TrustLedger" 168 zy_Ledger_holdings ∈ za_ws := za_ws_in (List.mem_append_right _ (List.mem_of_getElem? (i := 552) (by decide +kernel))) rfl
theorem zk_553 : Cond.methodLink "TrustLedgerLaw" 83 zy_TL_offer ∈ za_ws := za_ws_in (List.mem_append_right _ (List.mem_of_getElem? (i := 553) (by decide +kernel))) rfl
theorem zk_554 : Cond.instanceMethod zy_TL_offer ∈ za_ws := za_ws_in (List.mem_append_right _ (List.mem_of_getElem? (i := 554) (by decide +kernel))) rfl
theorem zk_555 : Cond.selects "TrustLedger" zy_TL_offer zy_TL_offer ∈ za_ws := za_ws_in (List.mem_append_right _ (List.mem_of_getElem? (i := 555) (by decide +kernel))) rfl
theorem zk_556 : Cond.code zy_TL_offer prog_1_method_15_code 4 (Option.some Jvm.ClassFile.FieldType.int) ∈ za_ws := za_ws_in (List.mem_append_right _ (List.mem_of_getElem? (i := 556) (by decide +kernel))) rfl
theorem zk_557 : Cond.methodLink "TrustLedgerLaw" 9 zy_Law_cell ∈ za_ws := za_ws_in (List.mem_append_right _ (List.mem_of_getElem? (i := 557) (by decide +kernel))) rfl
theorem zk_558 : Cond.static zy_Law_cell ∈ za_ws := za_ws_in (List.mem_append_right _ (List.mem_of_getElem? (i := 558) (by decide +kernel))) rfl
theorem zk_559 : Cond.code zy_Law_cell method_2_code 2 (Option.some Jvm.ClassFile.FieldType.int) ∈ za_ws := za_ws_in (List.mem_append_right _ (List.mem_of_getElem? (i := 559) (by decide +kernel))) rfl
theorem zk_560 : Cond.classLink "TrustLedgerLaw" 18 "TrustLedgerModel" ∈ za_ws := za_ws_in (List.mem_append_right _ (List.mem_of_getElem? (i := 560) (by decide +kernel))) rfl
theorem zk_561 : Cond.instantiable "TrustLedgerModel" 32 ∈ za_ws := za_ws_in (List.mem_append_right _ (List.mem_of_getElem? (i := 561) (by decide +kernel))) rfl
theorem zk_562 : Cond.methodLink "TrustLedgerLaw" 20 zy_Mo_init ∈ za_ws := za_ws_in (List.mem_append_right _ (List.mem_of_getElem? (i := 562) (by decide +kernel))) rfl
theorem zk_563 : Cond.instanceMethod zy_Mo_init ∈ za_ws := za_ws_in (List.mem_append_right _ (List.mem_of_getElem? (i := 563) (by decide +kernel))) rfl
theorem zk_564 : Cond.code zy_Mo_init prog_12_method_1_code 4 (Option.none : Option Jvm.ClassFile.FieldType) ∈ za_ws := za_ws_in (List.mem_append_right _ (List.mem_of_getElem? (i := 564) (by decide +kernel))) rfl
theorem zk_565 : Cond.methodLink "TrustLedgerModel" 1 (⟨"java/lang/Object", "<init>", "()V"⟩ : MethodName) ∈ za_ws := za_ws_in (List.mem_append_right _ (List.mem_of_getElem? (i := 565) (by decide +kernel))) rfl
theorem zk_566 : Cond.methodLink "TrustLedgerModel" 102 zy_Mo_table ∈ za_ws := za_ws_in (List.mem_append_right _ (List.mem_of_getElem? (i := 566) (by decide +kernel))) rfl
theorem zk_568 : Cond.instanceMethod zy_Mo_table ∈ za_ws := za_ws_in (List.mem_append_right _ (List.mem_of_getElem? (i := 568) (by decide +kernel))) rfl
theorem zk_569 : Cond.code zy_Mo_table prog_12_method_6_code 3 (Option.none : Option Jvm.ClassFile.FieldType) ∈ za_ws := za_ws_in (List.mem_append_right _ (List.mem_of_getElem? (i := 569) (by decide +kernel))) rfl
theorem zk_57 : Cond.instantiable "TrustLedger$Node" 4 ∈ za_ws := za_ws_in (List.mem_append_right _ (List.mem_of_getElem? (i := 57) (by decide +kernel))) rfl
theorem zk_570 : Cond.methodLink "TrustLedgerModel" 113 zy_Mo_satisfies ∈ za_ws := za_ws_in (List.mem_append_right _ (List.mem_of_getElem? (i := 570) (by decide +kernel))) rfl
theorem zk_572 : Cond.instanceMethod zy_Mo_satisfies ∈ za_ws := za_ws_in (List.mem_append_right _ (List.mem_of_getElem? (i := 572) (by decide +kernel))) rfl
theorem zk_573 : Cond.code zy_Mo_satisfies prog_12_method_5_code 5 (Option.some Jvm.ClassFile.FieldType.boolean) ∈ za_ws := za_ws_in (List.mem_append_right _ (List.mem_of_getElem? (i := 573) (by decide +kernel))) rfl
theorem zk_574 : Cond.methodLink "TrustLedgerModel" 109 zy_Mo_many ∈ za_ws := za_ws_in (List.mem_append_right _ (List.mem_of_getElem? (i := 574) (by decide +kernel))) rfl
theorem zk_575 : Cond.static zy_Mo_many ∈ za_ws := za_ws_in (List.mem_append_right _ (List.mem_of_getElem? (i := 575) (by decide +kernel))) rfl
theorem zk_576 : Cond.code zy_Mo_many prog_12_method_4_code 3 (Option.some Jvm.ClassFile.FieldType.int) ∈ za_ws := za_ws_in (List.mem_append_right _ (List.mem_of_getElem? (i := 576) (by decide +kernel))) rfl
theorem zk_577 : Cond.fieldLink "TrustLedgerModel" 98 "TrustLedgerModel" "faulty" "I" ∈ za_ws := za_ws_in (List.mem_append_right _ (List.mem_of_getElem? (i := 577) (by decide +kernel))) rfl
theorem zk_578 : Cond.fieldLink "TrustLedgerModel" 117 "TrustLedgerModel" "begun" "Z" ∈ za_ws := za_ws_in (List.mem_append_right _ (List.mem_of_getElem? (i := 578) (by decide +kernel))) rfl
theorem zk_579 : Cond.fieldLink "TrustLedgerModel" 7 "TrustLedgerModel" "threshold" "[I" ∈ za_ws := za_ws_in (List.mem_append_right _ (List.mem_of_getElem? (i := 579) (by decide +kernel))) rfl
theorem zk_58 : Cond.methodLink "TrustLedger" 26 zy_Node_init ∈ za_ws := za_ws_in (List.mem_append_right _ (List.mem_of_getElem? (i := 58) (by decide +kernel))) rfl
theorem zk_580 : Cond.fieldLink "TrustLedgerModel" 13 "TrustLedgerModel" "members" "[I" ∈ za_ws := za_ws_in (List.mem_append_right _ (List.mem_of_getElem? (i := 580) (by decide +kernel))) rfl
theorem zk_581 : Cond.fieldLink "TrustLedgerModel" 16 "TrustLedgerModel" "inner" "[I" ∈ za_ws := za_ws_in (List.mem_append_right _ (List.mem_of_getElem? (i := 581) (by decide +kernel))) rfl
theorem zk_582 : Cond.fieldLink "TrustLedgerModel" 19 "TrustLedgerModel" "group" "[I" ∈ za_ws := za_ws_in (List.mem_append_right _ (List.mem_of_getElem? (i := 582) (by decide +kernel))) rfl
theorem zk_583 : Cond.fieldLink "TrustLedgerModel" 22 "TrustLedgerModel" "quorum" "[Z" ∈ za_ws := za_ws_in (List.mem_append_right _ (List.mem_of_getElem? (i := 583) (by decide +kernel))) rfl
theorem zk_584 : Cond.fieldLink "TrustLedgerModel" 26 "TrustLedgerModel" "slot" "[I" ∈ za_ws := za_ws_in (List.mem_append_right _ (List.mem_of_getElem? (i := 584) (by decide +kernel))) rfl
theorem zk_585 : Cond.fieldLink "TrustLedgerModel" 29 "TrustLedgerModel" "round" "[I" ∈ za_ws := za_ws_in (List.mem_append_right _ (List.mem_of_getElem? (i := 585) (by decide +kernel))) rfl
theorem zk_586 : Cond.fieldLink "TrustLedgerModel" 32 "TrustLedgerModel" "leaders" "[I" ∈ za_ws := za_ws_in (List.mem_append_right _ (List.mem_of_getElem? (i := 586) (by decide +kernel))) rfl
theorem zk_587 : Cond.fieldLink "TrustLedgerModel" 35 "TrustLedgerModel" "counter" "[I" ∈ za_ws := za_ws_in (List.mem_append_right _ (List.mem_of_getElem? (i := 587) (by decide +kernel))) rfl
theorem zk_588 : Cond.fieldLink "TrustLedgerModel" 38 "TrustLedgerModel" "proposal" "[I" ∈ za_ws := za_ws_in (List.mem_append_right _ (List.mem_of_getElem? (i := 588) (by decide +kernel))) rfl
theorem zk_589 : Cond.fieldLink "TrustLedgerModel" 41 "TrustLedgerModel" "have" "[I" ∈ za_ws := za_ws_in (List.mem_append_right _ (List.mem_of_getElem? (i := 589) (by decide +kernel))) rfl
theorem zk_59 : Cond.instanceMethod zy_Node_init ∈ za_ws := za_ws_in (List.mem_append_right _ (List.mem_of_getElem? (i := 59) (by decide +kernel))) rfl
theorem zk_590 : Cond.fieldLink "TrustLedgerModel" 44 "TrustLedgerModel" "knows" "[I" ∈ za_ws := za_ws_in (List.mem_append_right _ (List.mem_of_getElem? (i := 590) (by decide +kernel))) rfl
theorem zk_591 : Cond.fieldLink "TrustLedgerModel" 47 "TrustLedgerModel" "values" "[I" ∈ za_ws := za_ws_in (List.mem_append_right _ (List.mem_of_getElem? (i := 591) (by decide +kernel))) rfl
theorem zk_592 : Cond.fieldLink "TrustLedgerModel" 50 "TrustLedgerModel" "headers" "[I" ∈ za_ws := za_ws_in (List.mem_append_right _ (List.mem_of_getElem? (i := 592) (by decide +kernel))) rfl
theorem zk_593 : Cond.fieldLink "TrustLedgerModel" 200 "TrustLedgerModel" "envelopes" "I" ∈ za_ws := za_ws_in (List.mem_append_right _ (List.mem_of_getElem? (i := 593) (by decide +kernel))) rfl
theorem zk_594 : Cond.fieldLink "TrustLedgerModel" 53 "TrustLedgerModel" "sender" "[I" ∈ za_ws := za_ws_in (List.mem_append_right _ (List.mem_of_getElem? (i := 594) (by decide +kernel))) rfl
theorem zk_595 : Cond.fieldLink "TrustLedgerModel" 56 "TrustLedgerModel" "about" "[I" ∈ za_ws := za_ws_in (List.mem_append_right _ (List.mem_of_getElem? (i := 595) (by decide +kernel))) rfl
theorem zk_596 : Cond.fieldLink "TrustLedgerModel" 59 "TrustLedgerModel" "says" "[I" ∈ za_ws := za_ws_in (List.mem_append_right _ (List.mem_of_getElem? (i := 596) (by decide +kernel))) rfl
theorem zk_597 : Cond.fieldLink "TrustLedgerModel" 62 "TrustLedgerModel" "isSet" "[Z" ∈ za_ws := za_ws_in (List.mem_append_right _ (List.mem_of_getElem? (i := 597) (by decide +kernel))) rfl
theorem zk_598 : Cond.fieldLink "TrustLedgerModel" 65 "TrustLedgerModel" "kinds" "[I" ∈ za_ws := za_ws_in (List.mem_append_right _ (List.mem_of_getElem? (i := 598) (by decide +kernel))) rfl
theorem zk_599 : Cond.fieldLink "TrustLedgerModel" 68 "TrustLedgerModel" "payers" "[I" ∈ za_ws := za_ws_in (List.mem_append_right _ (List.mem_of_getElem? (i := 599) (by decide +kernel))) rfl
theorem zk_6 : Cond.initialized "TrustLedger$Statements" ∈ za_ws := za_ws_in (List.mem_append_right _ (List.mem_of_getElem? (i := 6) (by decide +kernel))) rfl
theorem zk_60 : Cond.code zy_Node_init prog_5_method_1_code 4 (Option.none : Option Jvm.ClassFile.FieldType) ∈ za_ws := za_ws_in (List.mem_append_right _ (List.mem_of_getElem? (i := 60) (by decide +kernel))) rfl
theorem zk_600 : Cond.fieldLink "TrustLedgerModel" 71 "TrustLedgerModel" "whats" "[I" ∈ za_ws := za_ws_in (List.mem_append_right _ (List.mem_of_getElem? (i := 600) (by decide +kernel))) rfl
theorem zk_601 : Cond.fieldLink "TrustLedgerModel" 74 "TrustLedgerModel" "others" "[I" ∈ za_ws := za_ws_in (List.mem_append_right _ (List.mem_of_getElem? (i := 601) (by decide +kernel))) rfl
theorem zk_602 : Cond.fieldLink "TrustLedgerModel" 77 "TrustLedgerModel" "amounts" "[I" ∈ za_ws := za_ws_in (List.mem_append_right _ (List.mem_of_getElem? (i := 602) (by decide +kernel))) rfl
theorem zk_603 : Cond.fieldLink "TrustLedgerModel" 80 "TrustLedgerModel" "balances" "[I" ∈ za_ws := za_ws_in (List.mem_append_right _ (List.mem_of_getElem? (i := 603) (by decide +kernel))) rfl
theorem zk_604 : Cond.fieldLink "TrustLedgerModel" 83 "TrustLedgerModel" "resting" "[I" ∈ za_ws := za_ws_in (List.mem_append_right _ (List.mem_of_getElem? (i := 604) (by decide +kernel))) rfl
theorem zk_605 : Cond.fieldLink "TrustLedgerModel" 86 "TrustLedgerModel" "account" "[I" ∈ za_ws := za_ws_in (List.mem_append_right _ (List.mem_of_getElem? (i := 605) (by decide +kernel))) rfl
theorem zk_606 : Cond.fieldLink "TrustLedgerModel" 89 "TrustLedgerModel" "side" "[I" ∈ za_ws := za_ws_in (List.mem_append_right _ (List.mem_of_getElem? (i := 606) (by decide +kernel))) rfl
theorem zk_607 : Cond.fieldLink "TrustLedgerModel" 92 "TrustLedgerModel" "price" "[I" ∈ za_ws := za_ws_in (List.mem_append_right _ (List.mem_of_getElem? (i := 607) (by decide +kernel))) rfl
theorem zk_608 : Cond.fieldLink "TrustLedgerModel" 95 "TrustLedgerModel" "amount" "[I" ∈ za_ws := za_ws_in (List.mem_append_right _ (List.mem_of_getElem? (i := 608) (by decide +kernel))) rfl
theorem zk_61 : Cond.methodLink "TrustLedger$Node" 3 (⟨"java/lang/Object", "<init>", "()V"⟩ : MethodName) ∈ za_ws := za_ws_in (List.mem_append_right _ (List.mem_of_getElem? (i := 61) (by decide +kernel))) rfl
theorem zk_62 : Cond.classLink "TrustLedger$Node" 9 "TrustLedger$Agreement" ∈ za_ws := za_ws_in (List.mem_append_right _ (List.mem_of_getElem? (i := 62) (by decide +kernel))) rfl
theorem zk_64 : Cond.instantiable "TrustLedger$Agreement" 11 ∈ za_ws := za_ws_in (List.mem_append_right _ (List.mem_of_getElem? (i := 64) (by decide +kernel))) rfl
theorem zk_65 : Cond.methodLink "TrustLedger$Node" 17 zy_Agreement_init ∈ za_ws := za_ws_in (List.mem_append_right _ (List.mem_of_getElem? (i := 65) (by decide +kernel))) rfl
theorem zk_66 : Cond.instanceMethod zy_Agreement_init ∈ za_ws := za_ws_in (List.mem_append_right _ (List.mem_of_getElem? (i := 66) (by decide +kernel))) rfl
theorem zk_67 : Cond.code zy_Agreement_init prog_2_method_1_code 4 (Option.none : Option Jvm.ClassFile.FieldType) ∈ za_ws := za_ws_in (List.mem_append_right _ (List.mem_of_getElem? (i := 67) (by decide +kernel))) rfl
theorem zk_674 : Cond.arrayClass Jvm.ClassFile.FieldType.boolean ∈ za_ws := za_ws_in (List.mem_append_right _ (List.mem_of_getElem? (i := 674) (by decide +kernel))) rfl
theorem zk_675 : Cond.methodLink "TrustLedgerLaw" 25 zy_Mo_trust ∈ za_ws := za_ws_in (List.mem_append_right _ (List.mem_of_getElem? (i := 675) (by decide +kernel))) rfl
theorem zk_676 : Cond.instanceMethod zy_Mo_trust ∈ za_ws := za_ws_in (List.mem_append_right _ (List.mem_of_getElem? (i := 676) (by decide +kernel))) rfl
theorem zk_677 : Cond.selects "TrustLedgerModel" zy_Mo_trust zy_Mo_trust ∈ za_ws := za_ws_in (List.mem_append_right _ (List.mem_of_getElem? (i := 677) (by decide +kernel))) rfl
theorem zk_678 : Cond.code zy_Mo_trust prog_12_method_8_code 6 (Option.some Jvm.ClassFile.FieldType.boolean) ∈ za_ws := za_ws_in (List.mem_append_right _ (List.mem_of_getElem? (i := 678) (by decide +kernel))) rfl
theorem zk_679 : Cond.methodLink "TrustLedgerModel" 105 zy_Mo_in ∈ za_ws := za_ws_in (List.mem_append_right _ (List.mem_of_getElem? (i := 679) (by decide +kernel))) rfl
theorem zk_68 : Cond.methodLink "TrustLedger$Agreement" 3 (⟨"java/lang/Object", "<init>", "()V"⟩ : MethodName) ∈ za_ws := za_ws_in (List.mem_append_right _ (List.mem_of_getElem? (i := 68) (by decide +kernel))) rfl
theorem zk_680 : Cond.static zy_Mo_in ∈ za_ws := za_ws_in (List.mem_append_right _ (List.mem_of_getElem? (i := 680) (by decide +kernel))) rfl
theorem zk_681 : Cond.code zy_Mo_in prog_12_method_2_code 3 (Option.some Jvm.ClassFile.FieldType.boolean) ∈ za_ws := za_ws_in (List.mem_append_right _ (List.mem_of_getElem? (i := 681) (by decide +kernel))) rfl
theorem zk_682 : Cond.methodLink "TrustLedgerLaw" 35 zy_Mo_propose ∈ za_ws := za_ws_in (List.mem_append_right _ (List.mem_of_getElem? (i := 682) (by decide +kernel))) rfl
theorem zk_683 : Cond.instanceMethod zy_Mo_propose ∈ za_ws := za_ws_in (List.mem_append_right _ (List.mem_of_getElem? (i := 683) (by decide +kernel))) rfl
theorem zk_684 : Cond.selects "TrustLedgerModel" zy_Mo_propose zy_Mo_propose ∈ za_ws := za_ws_in (List.mem_append_right _ (List.mem_of_getElem? (i := 684) (by decide +kernel))) rfl
theorem zk_685 : Cond.code zy_Mo_propose prog_12_method_30_code 3 (Option.some Jvm.ClassFile.FieldType.boolean) ∈ za_ws := za_ws_in (List.mem_append_right _ (List.mem_of_getElem? (i := 685) (by decide +kernel))) rfl
theorem zk_686 : Cond.methodLink "TrustLedgerModel" 190 zy_Mo_good ∈ za_ws := za_ws_in (List.mem_append_right _ (List.mem_of_getElem? (i := 686) (by decide +kernel))) rfl
theorem zk_688 : Cond.instanceMethod zy_Mo_good ∈ za_ws := za_ws_in (List.mem_append_right _ (List.mem_of_getElem? (i := 688) (by decide +kernel))) rfl
theorem zk_689 : Cond.code zy_Mo_good prog_12_method_3_code 2 (Option.some Jvm.ClassFile.FieldType.boolean) ∈ za_ws := za_ws_in (List.mem_append_right _ (List.mem_of_getElem? (i := 689) (by decide +kernel))) rfl
theorem zk_69 : Cond.classLink "TrustLedger$Agreement" 28 "TrustLedger$Statements" ∈ za_ws := za_ws_in (List.mem_append_right _ (List.mem_of_getElem? (i := 69) (by decide +kernel))) rfl
theorem zk_690 : Cond.methodLink "TrustLedgerModel" 193 zy_Mo_newRound ∈ za_ws := za_ws_in (List.mem_append_right _ (List.mem_of_getElem? (i := 690) (by decide +kernel))) rfl
theorem zk_692 : Cond.instanceMethod zy_Mo_newRound ∈ za_ws := za_ws_in (List.mem_append_right _ (List.mem_of_getElem? (i := 692) (by decide +kernel))) rfl
theorem zk_693 : Cond.code zy_Mo_newRound prog_12_method_29_code 7 (Option.none : Option Jvm.ClassFile.FieldType) ∈ za_ws := za_ws_in (List.mem_append_right _ (List.mem_of_getElem? (i := 693) (by decide +kernel))) rfl
theorem zk_694 : Cond.methodLink "TrustLedgerModel" 197 zy_Mo_stir ∈ za_ws := za_ws_in (List.mem_append_right _ (List.mem_of_getElem? (i := 694) (by decide +kernel))) rfl
theorem zk_696 : Cond.instanceMethod zy_Mo_stir ∈ za_ws := za_ws_in (List.mem_append_right _ (List.mem_of_getElem? (i := 696) (by decide +kernel))) rfl
theorem zk_697 : Cond.code zy_Mo_stir prog_12_method_27_code 5 (Option.none : Option Jvm.ClassFile.FieldType) ∈ za_ws := za_ws_in (List.mem_append_right _ (List.mem_of_getElem? (i := 697) (by decide +kernel))) rfl
theorem zk_698 : Cond.methodLink "TrustLedgerModel" 172 zy_Mo_ruleA ∈ za_ws := za_ws_in (List.mem_append_right _ (List.mem_of_getElem? (i := 698) (by decide +kernel))) rfl
theorem zk_7 : Cond.initialized "TrustLedger$Ledger" ∈ za_ws := za_ws_in (List.mem_append_right _ (List.mem_of_getElem? (i := 7) (by decide +kernel))) rfl
theorem zk_70 : Cond.instantiable "TrustLedger$Statements" 6 ∈ za_ws := za_ws_in (List.mem_append_right _ (List.mem_of_getElem? (i := 70) (by decide +kernel))) rfl
theorem zk_700 : Cond.instanceMethod zy_Mo_ruleA ∈ za_ws := za_ws_in (List.mem_append_right _ (List.mem_of_getElem? (i := 700) (by decide +kernel))) rfl
theorem zk_701 : Cond.code zy_Mo_ruleA prog_12_method_21_code 6 (Option.some Jvm.ClassFile.FieldType.boolean) ∈ za_ws := za_ws_in (List.mem_append_right _ (List.mem_of_getElem? (i := 701) (by decide +kernel))) rfl
theorem zk_702 : Cond.methodLink "TrustLedgerModel" 121 zy_Mo_place ∈ za_ws := za_ws_in (List.mem_append_right _ (List.mem_of_getElem? (i := 702) (by decide +kernel))) rfl
theorem zk_704 : Cond.instanceMethod zy_Mo_place ∈ za_ws := za_ws_in (List.mem_append_right _ (List.mem_of_getElem? (i := 704) (by decide +kernel))) rfl
theorem zk_705 : Cond.code zy_Mo_place prog_12_method_9_code 4 (Option.some Jvm.ClassFile.FieldType.int) ∈ za_ws := za_ws_in (List.mem_append_right _ (List.mem_of_getElem? (i := 705) (by decide +kernel))) rfl
theorem zk_706 : Cond.methodLink "TrustLedgerModel" 139 zy_Mo_nodes ∈ za_ws := za_ws_in (List.mem_append_right _ (List.mem_of_getElem? (i := 706) (by decide +kernel))) rfl
theorem zk_708 : Cond.instanceMethod zy_Mo_nodes ∈ za_ws := za_ws_in (List.mem_append_right _ (List.mem_of_getElem? (i := 708) (by decide +kernel))) rfl
theorem zk_709 : Cond.code zy_Mo_nodes prog_12_method_12_code 10 (Option.some Jvm.ClassFile.FieldType.int) ∈ za_ws := za_ws_in (List.mem_append_right _ (List.mem_of_getElem? (i := 709) (by decide +kernel))) rfl
theorem zk_71 : Cond.methodLink "TrustLedger$Agreement" 30 zy_Statements_init ∈ za_ws := za_ws_in (List.mem_append_right _ (List.mem_of_getElem? (i := 71) (by decide +kernel))) rfl
theorem zk_710 : Cond.methodLink "TrustLedgerModel" 125 zy_Mo_has ∈ za_ws := za_ws_in (List.mem_append_right _ (List.mem_of_getElem? (i := 710) (by decide +kernel))) rfl
theorem zk_712 : Cond.instanceMethod zy_Mo_has ∈ za_ws := za_ws_in (List.mem_append_right _ (List.mem_of_getElem? (i := 712) (by decide +kernel))) rfl
theorem zk_713 : Cond.code zy_Mo_has prog_12_method_10_code 5 (Option.some Jvm.ClassFile.FieldType.boolean) ∈ za_ws := za_ws_in (List.mem_append_right _ (List.mem_of_getElem? (i := 713) (by decide +kernel))) rfl
theorem zk_714 : Cond.methodLink "TrustLedgerModel" 152 zy_Mo_put ∈ za_ws := za_ws_in (List.mem_append_right _ (List.mem_of_getElem? (i := 714) (by decide +kernel))) rfl
theorem zk_716 : Cond.instanceMethod zy_Mo_put ∈ za_ws := za_ws_in (List.mem_append_right _ (List.mem_of_getElem? (i := 716) (by decide +kernel))) rfl
theorem zk_717 : Cond.code zy_Mo_put prog_12_method_11_code 7 (Option.some Jvm.ClassFile.FieldType.boolean) ∈ za_ws := za_ws_in (List.mem_append_right _ (List.mem_of_getElem? (i := 717) (by decide +kernel))) rfl
theorem zk_718 : Cond.methodLink "TrustLedgerModel" 165 zy_Mo_accept ∈ za_ws := za_ws_in (List.mem_append_right _ (List.mem_of_getElem? (i := 718) (by decide +kernel))) rfl
theorem zk_72 : Cond.instanceMethod zy_Statements_init ∈ za_ws := za_ws_in (List.mem_append_right _ (List.mem_of_getElem? (i := 72) (by decide +kernel))) rfl
theorem zk_720 : Cond.instanceMethod zy_Mo_accept ∈ za_ws := za_ws_in (List.mem_append_right _ (List.mem_of_getElem? (i := 720) (by decide +kernel))) rfl
theorem zk_721 : Cond.code zy_Mo_accept prog_12_method_22_code 7 (Option.some Jvm.ClassFile.FieldType.boolean) ∈ za_ws := za_ws_in (List.mem_append_right _ (List.mem_of_getElem? (i := 721) (by decide +kernel))) rfl
theorem zk_722 : Cond.methodLink "TrustLedgerModel" 155 zy_Mo_mayAccept ∈ za_ws := za_ws_in (List.mem_append_right _ (List.mem_of_getElem? (i := 722) (by decide +kernel))) rfl
theorem zk_724 : Cond.instanceMethod zy_Mo_mayAccept ∈ za_ws := za_ws_in (List.mem_append_right _ (List.mem_of_getElem? (i := 724) (by decide +kernel))) rfl
theorem zk_725 : Cond.code zy_Mo_mayAccept prog_12_method_16_code 7 (Option.some Jvm.ClassFile.FieldType.boolean) ∈ za_ws := za_ws_in (List.mem_append_right _ (List.mem_of_getElem? (i := 725) (by decide +kernel))) rfl
theorem zk_726 : Cond.methodLink "TrustLedgerModel" 135 zy_Mo_clash ∈ za_ws := za_ws_in (List.mem_append_right _ (List.mem_of_getElem? (i := 726) (by decide +kernel))) rfl
theorem zk_728 : Cond.instanceMethod zy_Mo_clash ∈ za_ws := za_ws_in (List.mem_append_right _ (List.mem_of_getElem? (i := 728) (by decide +kernel))) rfl
theorem zk_729 : Cond.code zy_Mo_clash prog_12_method_15_code 8 (Option.some Jvm.ClassFile.FieldType.boolean) ∈ za_ws := za_ws_in (List.mem_append_right _ (List.mem_of_getElem? (i := 729) (by decide +kernel))) rfl
theorem zk_73 : Cond.code zy_Statements_init prog_8_method_1_code 3 (Option.none : Option Jvm.ClassFile.FieldType) ∈ za_ws := za_ws_in (List.mem_append_right _ (List.mem_of_getElem? (i := 73) (by decide +kernel))) rfl
theorem zk_730 : Cond.methodLink "TrustLedgerModel" 132 zy_Mo_aborts ∈ za_ws := za_ws_in (List.mem_append_right _ (List.mem_of_getElem? (i := 730) (by decide +kernel))) rfl
theorem zk_731 : Cond.static zy_Mo_aborts ∈ za_ws := za_ws_in (List.mem_append_right _ (List.mem_of_getElem? (i := 731) (by decide +kernel))) rfl
theorem zk_732 : Cond.code zy_Mo_aborts prog_12_method_14_code 2 (Option.some Jvm.ClassFile.FieldType.boolean) ∈ za_ws := za_ws_in (List.mem_append_right _ (List.mem_of_getElem? (i := 732) (by decide +kernel))) rfl
theorem zk_733 : Cond.methodLink "TrustLedgerModel" 129 zy_Mo_worth ∈ za_ws := za_ws_in (List.mem_append_right _ (List.mem_of_getElem? (i := 733) (by decide +kernel))) rfl
theorem zk_734 : Cond.static zy_Mo_worth ∈ za_ws := za_ws_in (List.mem_append_right _ (List.mem_of_getElem? (i := 734) (by decide +kernel))) rfl
theorem zk_735 : Cond.code zy_Mo_worth prog_12_method_13_code 1 (Option.some Jvm.ClassFile.FieldType.int) ∈ za_ws := za_ws_in (List.mem_append_right _ (List.mem_of_getElem? (i := 735) (by decide +kernel))) rfl
theorem zk_736 : Cond.methodLink "TrustLedgerModel" 143 zy_Mo_gives ∈ za_ws := za_ws_in (List.mem_append_right _ (List.mem_of_getElem? (i := 736) (by decide +kernel))) rfl
theorem zk_738 : Cond.instanceMethod zy_Mo_gives ∈ za_ws := za_ws_in (List.mem_append_right _ (List.mem_of_getElem? (i := 738) (by decide +kernel))) rfl
theorem zk_739 : Cond.code zy_Mo_gives prog_12_method_7_code 4 (Option.some Jvm.ClassFile.FieldType.boolean) ∈ za_ws := za_ws_in (List.mem_append_right _ (List.mem_of_getElem? (i := 739) (by decide +kernel))) rfl
theorem zk_74 : Cond.methodLink "TrustLedger$Statements" 3 (⟨"java/lang/Object", "<init>", "()V"⟩ : MethodName) ∈ za_ws := za_ws_in (List.mem_append_right _ (List.mem_of_getElem? (i := 74) (by decide +kernel))) rfl
theorem zk_740 : Cond.methodLink "TrustLedgerModel" 175 zy_Mo_confirm ∈ za_ws := za_ws_in (List.mem_append_right _ (List.mem_of_getElem? (i := 740) (by decide +kernel))) rfl
theorem zk_742 : Cond.instanceMethod zy_Mo_confirm ∈ za_ws := za_ws_in (List.mem_append_right _ (List.mem_of_getElem? (i := 742) (by decide +kernel))) rfl
theorem zk_743 : Cond.code zy_Mo_confirm prog_12_method_23_code 7 (Option.some Jvm.ClassFile.FieldType.boolean) ∈ za_ws := za_ws_in (List.mem_append_right _ (List.mem_of_getElem? (i := 743) (by decide +kernel))) rfl
theorem zk_744 : Cond.methodLink "TrustLedgerModel" 158 zy_Mo_mayConfirm ∈ za_ws := za_ws_in (List.mem_append_right _ (List.mem_of_getElem? (i := 744) (by decide +kernel))) rfl
theorem zk_746 : Cond.instanceMethod zy_Mo_mayConfirm ∈ za_ws := za_ws_in (List.mem_append_right _ (List.mem_of_getElem? (i := 746) (by decide +kernel))) rfl
theorem zk_747 : Cond.code zy_Mo_mayConfirm prog_12_method_17_code 5 (Option.some Jvm.ClassFile.FieldType.boolean) ∈ za_ws := za_ws_in (List.mem_append_right _ (List.mem_of_getElem? (i := 747) (by decide +kernel))) rfl
theorem zk_748 : Cond.methodLink "TrustLedgerModel" 178 zy_Mo_ruleD ∈ za_ws := za_ws_in (List.mem_append_right _ (List.mem_of_getElem? (i := 748) (by decide +kernel))) rfl
theorem zk_75 : Cond.fieldLink "TrustLedger$Statements" 9 "TrustLedger$Statements" "self" "I" ∈ za_ws := za_ws_in (List.mem_append_right _ (List.mem_of_getElem? (i := 75) (by decide +kernel))) rfl
theorem zk_750 : Cond.instanceMethod zy_Mo_ruleD ∈ za_ws := za_ws_in (List.mem_append_right _ (List.mem_of_getElem? (i := 750) (by decide +kernel))) rfl
theorem zk_751 : Cond.code zy_Mo_ruleD prog_12_method_24_code 2 (Option.some Jvm.ClassFile.FieldType.boolean) ∈ za_ws := za_ws_in (List.mem_append_right _ (List.mem_of_getElem? (i := 751) (by decide +kernel))) rfl
theorem zk_752 : Cond.methodLink "TrustLedgerModel" 146 zy_Mo_composite ∈ za_ws := za_ws_in (List.mem_append_right _ (List.mem_of_getElem? (i := 752) (by decide +kernel))) rfl
theorem zk_754 : Cond.instanceMethod zy_Mo_composite ∈ za_ws := za_ws_in (List.mem_append_right _ (List.mem_of_getElem? (i := 754) (by decide +kernel))) rfl
theorem zk_755 : Cond.code zy_Mo_composite prog_12_method_18_code 4 (Option.some Jvm.ClassFile.FieldType.int) ∈ za_ws := za_ws_in (List.mem_append_right _ (List.mem_of_getElem? (i := 755) (by decide +kernel))) rfl
theorem zk_756 : Cond.methodLink "TrustLedgerModel" 161 zy_Mo_votePrepare ∈ za_ws := za_ws_in (List.mem_append_right _ (List.mem_of_getElem? (i := 756) (by decide +kernel))) rfl
theorem zk_758 : Cond.instanceMethod zy_Mo_votePrepare ∈ za_ws := za_ws_in (List.mem_append_right _ (List.mem_of_getElem? (i := 758) (by decide +kernel))) rfl
theorem zk_759 : Cond.code zy_Mo_votePrepare prog_12_method_20_code 3 (Option.some Jvm.ClassFile.FieldType.boolean) ∈ za_ws := za_ws_in (List.mem_append_right _ (List.mem_of_getElem? (i := 759) (by decide +kernel))) rfl
theorem zk_76 : Cond.fieldLink "TrustLedger$Statements" 15 "TrustLedger$Statements" "quorums" "LTrustLedger$Quorums;" ∈ za_ws := za_ws_in (List.mem_append_right _ (List.mem_of_getElem? (i := 76) (by decide +kernel))) rfl
theorem zk_760 : Cond.methodLink "TrustLedgerModel" 149 zy_Mo_toPrepare ∈ za_ws := za_ws_in (List.mem_append_right _ (List.mem_of_getElem? (i := 760) (by decide +kernel))) rfl
theorem zk_762 : Cond.instanceMethod zy_Mo_toPrepare ∈ za_ws := za_ws_in (List.mem_append_right _ (List.mem_of_getElem? (i := 762) (by decide +kernel))) rfl
theorem zk_763 : Cond.code zy_Mo_toPrepare prog_12_method_19_code 3 (Option.some Jvm.ClassFile.FieldType.int) ∈ za_ws := za_ws_in (List.mem_append_right _ (List.mem_of_getElem? (i := 763) (by decide +kernel))) rfl
theorem zk_764 : Cond.methodLink "TrustLedgerModel" 181 zy_Mo_ruleG ∈ za_ws := za_ws_in (List.mem_append_right _ (List.mem_of_getElem? (i := 764) (by decide +kernel))) rfl
theorem zk_766 : Cond.instanceMethod zy_Mo_ruleG ∈ za_ws := za_ws_in (List.mem_append_right _ (List.mem_of_getElem? (i := 766) (by decide +kernel))) rfl
theorem zk_767 : Cond.code zy_Mo_ruleG prog_12_method_25_code 5 (Option.some Jvm.ClassFile.FieldType.boolean) ∈ za_ws := za_ws_in (List.mem_append_right _ (List.mem_of_getElem? (i := 767) (by decide +kernel))) rfl
theorem zk_768 : Cond.methodLink "TrustLedgerModel" 184 zy_Mo_ruleH ∈ za_ws := za_ws_in (List.mem_append_right _ (List.mem_of_getElem? (i := 768) (by decide +kernel))) rfl
theorem zk_77 : Cond.fieldLink "TrustLedger$Statements" 26 "TrustLedger$Statements" "voted" "I" ∈ za_ws := za_ws_in (List.mem_append_right _ (List.mem_of_getElem? (i := 77) (by decide +kernel))) rfl
theorem zk_770 : Cond.instanceMethod zy_Mo_ruleH ∈ za_ws := za_ws_in (List.mem_append_right _ (List.mem_of_getElem? (i := 770) (by decide +kernel))) rfl
theorem zk_771 : Cond.code zy_Mo_ruleH prog_12_method_26_code 5 (Option.some Jvm.ClassFile.FieldType.int) ∈ za_ws := za_ws_in (List.mem_append_right _ (List.mem_of_getElem? (i := 771) (by decide +kernel))) rfl
theorem zk_772 : Cond.methodLink "TrustLedgerModel" 168 zy_Mo_externalize ∈ za_ws := za_ws_in (List.mem_append_right _ (List.mem_of_getElem? (i := 772) (by decide +kernel))) rfl
theorem zk_774 : Cond.instanceMethod zy_Mo_externalize ∈ za_ws := za_ws_in (List.mem_append_right _ (List.mem_of_getElem? (i := 774) (by decide +kernel))) rfl
theorem zk_775 : Cond.code zy_Mo_externalize prog_12_method_28_code 5 (Option.none : Option Jvm.ClassFile.FieldType) ∈ za_ws := za_ws_in (List.mem_append_right _ (List.mem_of_getElem? (i := 775) (by decide +kernel))) rfl
theorem zk_776 : Cond.methodLink "TrustLedgerModel" 187 zy_Mo_carry ∈ za_ws := za_ws_in (List.mem_append_right _ (List.mem_of_getElem? (i := 776) (by decide +kernel))) rfl
theorem zk_778 : Cond.instanceMethod zy_Mo_carry ∈ za_ws := za_ws_in (List.mem_append_right _ (List.mem_of_getElem? (i := 778) (by decide +kernel))) rfl
theorem zk_779 : Cond.code zy_Mo_carry prog_12_method_38_code 5 (Option.none : Option Jvm.ClassFile.FieldType) ∈ za_ws := za_ws_in (List.mem_append_right _ (List.mem_of_getElem? (i := 779) (by decide +kernel))) rfl
theorem zk_780 : Cond.methodLink "TrustLedgerModel" 208 zy_Mo_trade ∈ za_ws := za_ws_in (List.mem_append_right _ (List.mem_of_getElem? (i := 780) (by decide +kernel))) rfl
theorem zk_782 : Cond.instanceMethod zy_Mo_trade ∈ za_ws := za_ws_in (List.mem_append_right _ (List.mem_of_getElem? (i := 782) (by decide +kernel))) rfl
theorem zk_783 : Cond.code zy_Mo_trade prog_12_method_41_code 9 (Option.none : Option Jvm.ClassFile.FieldType) ∈ za_ws := za_ws_in (List.mem_append_right _ (List.mem_of_getElem? (i := 783) (by decide +kernel))) rfl
theorem zk_784 : Cond.methodLink "TrustLedgerModel" 211 zy_Mo_best ∈ za_ws := za_ws_in (List.mem_append_right _ (List.mem_of_getElem? (i := 784) (by decide +kernel))) rfl
theorem zk_786 : Cond.instanceMethod zy_Mo_best ∈ za_ws := za_ws_in (List.mem_append_right _ (List.mem_of_getElem? (i := 786) (by decide +kernel))) rfl
theorem zk_787 : Cond.code zy_Mo_best prog_12_method_39_code 8 (Option.some Jvm.ClassFile.FieldType.int) ∈ za_ws := za_ws_in (List.mem_append_right _ (List.mem_of_getElem? (i := 787) (by decide +kernel))) rfl
theorem zk_788 : Cond.methodLink "TrustLedgerModel" 214 zy_Mo_cross ∈ za_ws := za_ws_in (List.mem_append_right _ (List.mem_of_getElem? (i := 788) (by decide +kernel))) rfl
theorem zk_79 : Cond.fieldLink "TrustLedger$Statements" 52 "TrustLedger$Statements" "confirmed" "I" ∈ za_ws := za_ws_in (List.mem_append_right _ (List.mem_of_getElem? (i := 79) (by decide +kernel))) rfl
theorem zk_790 : Cond.instanceMethod zy_Mo_cross ∈ za_ws := za_ws_in (List.mem_append_right _ (List.mem_of_getElem? (i := 790) (by decide +kernel))) rfl
theorem zk_791 : Cond.code zy_Mo_cross prog_12_method_42_code 10 (Option.some Jvm.ClassFile.FieldType.int) ∈ za_ws := za_ws_in (List.mem_append_right _ (List.mem_of_getElem? (i := 791) (by decide +kernel))) rfl
theorem zk_792 : Cond.methodLink "TrustLedgerModel" 218 zy_Mo_remove ∈ za_ws := za_ws_in (List.mem_append_right _ (List.mem_of_getElem? (i := 792) (by decide +kernel))) rfl
theorem zk_794 : Cond.instanceMethod zy_Mo_remove ∈ za_ws := za_ws_in (List.mem_append_right _ (List.mem_of_getElem? (i := 794) (by decide +kernel))) rfl
theorem zk_795 : Cond.code zy_Mo_remove prog_12_method_40_code 4 (Option.none : Option Jvm.ClassFile.FieldType) ∈ za_ws := za_ws_in (List.mem_append_right _ (List.mem_of_getElem? (i := 795) (by decide +kernel))) rfl
theorem zk_796 : Cond.methodLink "TrustLedgerLaw" 40 zy_Mo_timeout ∈ za_ws := za_ws_in (List.mem_append_right _ (List.mem_of_getElem? (i := 796) (by decide +kernel))) rfl
theorem zk_797 : Cond.instanceMethod zy_Mo_timeout ∈ za_ws := za_ws_in (List.mem_append_right _ (List.mem_of_getElem? (i := 797) (by decide +kernel))) rfl
theorem zk_798 : Cond.selects "TrustLedgerModel" zy_Mo_timeout zy_Mo_timeout ∈ za_ws := za_ws_in (List.mem_append_right _ (List.mem_of_getElem? (i := 798) (by decide +kernel))) rfl
theorem zk_799 : Cond.code zy_Mo_timeout prog_12_method_31_code 2 (Option.some Jvm.ClassFile.FieldType.boolean) ∈ za_ws := za_ws_in (List.mem_append_right _ (List.mem_of_getElem? (i := 799) (by decide +kernel))) rfl
theorem zk_8 : Cond.initialized "TrustLedgerModel" ∈ za_ws := za_ws_in (List.mem_append_right _ (List.mem_of_getElem? (i := 8) (by decide +kernel))) rfl
theorem zk_800 : Cond.methodLink "TrustLedgerLaw" 45 zy_Mo_post ∈ za_ws := za_ws_in (List.mem_append_right _ (List.mem_of_getElem? (i := 800) (by decide +kernel))) rfl
theorem zk_801 : Cond.instanceMethod zy_Mo_post ∈ za_ws := za_ws_in (List.mem_append_right _ (List.mem_of_getElem? (i := 801) (by decide +kernel))) rfl
theorem zk_802 : Cond.selects "TrustLedgerModel" zy_Mo_post zy_Mo_post ∈ za_ws := za_ws_in (List.mem_append_right _ (List.mem_of_getElem? (i := 802) (by decide +kernel))) rfl
theorem zk_803 : Cond.code zy_Mo_post prog_12_method_32_code 5 (Option.some Jvm.ClassFile.FieldType.int) ∈ za_ws := za_ws_in (List.mem_append_right _ (List.mem_of_getElem? (i := 803) (by decide +kernel))) rfl
theorem zk_804 : Cond.methodLink "TrustLedgerModel" 203 zy_Mo_sealed ∈ za_ws := za_ws_in (List.mem_append_right _ (List.mem_of_getElem? (i := 804) (by decide +kernel))) rfl
theorem zk_806 : Cond.instanceMethod zy_Mo_sealed ∈ za_ws := za_ws_in (List.mem_append_right _ (List.mem_of_getElem? (i := 806) (by decide +kernel))) rfl
theorem zk_807 : Cond.code zy_Mo_sealed prog_12_method_33_code 3 (Option.some Jvm.ClassFile.FieldType.int) ∈ za_ws := za_ws_in (List.mem_append_right _ (List.mem_of_getElem? (i := 807) (by decide +kernel))) rfl
theorem zk_808 : Cond.methodLink "TrustLedgerLaw" 50 zy_Mo_forge ∈ za_ws := za_ws_in (List.mem_append_right _ (List.mem_of_getElem? (i := 808) (by decide +kernel))) rfl
theorem zk_809 : Cond.instanceMethod zy_Mo_forge ∈ za_ws := za_ws_in (List.mem_append_right _ (List.mem_of_getElem? (i := 809) (by decide +kernel))) rfl
theorem zk_810 : Cond.selects "TrustLedgerModel" zy_Mo_forge zy_Mo_forge ∈ za_ws := za_ws_in (List.mem_append_right _ (List.mem_of_getElem? (i := 810) (by decide +kernel))) rfl
theorem zk_811 : Cond.code zy_Mo_forge prog_12_method_34_code 7 (Option.some Jvm.ClassFile.FieldType.int) ∈ za_ws := za_ws_in (List.mem_append_right _ (List.mem_of_getElem? (i := 811) (by decide +kernel))) rfl
theorem zk_812 : Cond.constant "TrustLedgerModel" 207 (268435455 : Int32) ∈ za_ws := za_ws_in (List.mem_append_right _ (List.mem_of_getElem? (i := 812) (by decide +kernel))) rfl
theorem zk_813 : Cond.methodLink "TrustLedgerLaw" 54 zy_Mo_deliver ∈ za_ws := za_ws_in (List.mem_append_right _ (List.mem_of_getElem? (i := 813) (by decide +kernel))) rfl
theorem zk_814 : Cond.instanceMethod zy_Mo_deliver ∈ za_ws := za_ws_in (List.mem_append_right _ (List.mem_of_getElem? (i := 814) (by decide +kernel))) rfl
theorem zk_815 : Cond.selects "TrustLedgerModel" zy_Mo_deliver zy_Mo_deliver ∈ za_ws := za_ws_in (List.mem_append_right _ (List.mem_of_getElem? (i := 815) (by decide +kernel))) rfl
theorem zk_816 : Cond.code zy_Mo_deliver prog_12_method_35_code 5 (Option.some Jvm.ClassFile.FieldType.boolean) ∈ za_ws := za_ws_in (List.mem_append_right _ (List.mem_of_getElem? (i := 816) (by decide +kernel))) rfl
theorem zk_817 : Cond.methodLink "TrustLedgerLaw" 59 zy_Mo_envelopes ∈ za_ws := za_ws_in (List.mem_append_right _ (List.mem_of_getElem? (i := 817) (by decide +kernel))) rfl
theorem zk_818 : Cond.instanceMethod zy_Mo_envelopes ∈ za_ws := za_ws_in (List.mem_append_right _ (List.mem_of_getElem? (i := 818) (by decide +kernel))) rfl
theorem zk_819 : Cond.selects "TrustLedgerModel" zy_Mo_envelopes zy_Mo_envelopes ∈ za_ws := za_ws_in (List.mem_append_right _ (List.mem_of_getElem? (i := 819) (by decide +kernel))) rfl
theorem zk_82 : Cond.fieldLink "TrustLedger$Statements" 19 "TrustLedger$Statements" "backed" "[I" ∈ za_ws := za_ws_in (List.mem_append_right _ (List.mem_of_getElem? (i := 82) (by decide +kernel))) rfl
theorem zk_820 : Cond.code zy_Mo_envelopes prog_12_method_36_code 1 (Option.some Jvm.ClassFile.FieldType.int) ∈ za_ws := za_ws_in (List.mem_append_right _ (List.mem_of_getElem? (i := 820) (by decide +kernel))) rfl
theorem zk_821 : Cond.methodLink "TrustLedgerLaw" 30 zy_Mo_submit ∈ za_ws := za_ws_in (List.mem_append_right _ (List.mem_of_getElem? (i := 821) (by decide +kernel))) rfl
theorem zk_822 : Cond.instanceMethod zy_Mo_submit ∈ za_ws := za_ws_in (List.mem_append_right _ (List.mem_of_getElem? (i := 822) (by decide +kernel))) rfl
theorem zk_823 : Cond.selects "TrustLedgerModel" zy_Mo_submit zy_Mo_submit ∈ za_ws := za_ws_in (List.mem_append_right _ (List.mem_of_getElem? (i := 823) (by decide +kernel))) rfl
theorem zk_824 : Cond.code zy_Mo_submit prog_12_method_37_code 10 (Option.some Jvm.ClassFile.FieldType.boolean) ∈ za_ws := za_ws_in (List.mem_append_right _ (List.mem_of_getElem? (i := 824) (by decide +kernel))) rfl
theorem zk_825 : Cond.methodLink "TrustLedgerLaw" 63 zy_Mo_state ∈ za_ws := za_ws_in (List.mem_append_right _ (List.mem_of_getElem? (i := 825) (by decide +kernel))) rfl
theorem zk_826 : Cond.instanceMethod zy_Mo_state ∈ za_ws := za_ws_in (List.mem_append_right _ (List.mem_of_getElem? (i := 826) (by decide +kernel))) rfl
theorem zk_827 : Cond.selects "TrustLedgerModel" zy_Mo_state zy_Mo_state ∈ za_ws := za_ws_in (List.mem_append_right _ (List.mem_of_getElem? (i := 827) (by decide +kernel))) rfl
theorem zk_828 : Cond.code zy_Mo_state prog_12_method_43_code 3 (Option.some Jvm.ClassFile.FieldType.int) ∈ za_ws := za_ws_in (List.mem_append_right _ (List.mem_of_getElem? (i := 828) (by decide +kernel))) rfl
theorem zk_829 : Cond.methodLink "TrustLedgerLaw" 68 zy_Mo_statements ∈ za_ws := za_ws_in (List.mem_append_right _ (List.mem_of_getElem? (i := 829) (by decide +kernel))) rfl
theorem zk_830 : Cond.instanceMethod zy_Mo_statements ∈ za_ws := za_ws_in (List.mem_append_right _ (List.mem_of_getElem? (i := 830) (by decide +kernel))) rfl
theorem zk_831 : Cond.selects "TrustLedgerModel" zy_Mo_statements zy_Mo_statements ∈ za_ws := za_ws_in (List.mem_append_right _ (List.mem_of_getElem? (i := 831) (by decide +kernel))) rfl
theorem zk_832 : Cond.code zy_Mo_statements prog_12_method_44_code 5 (Option.some Jvm.ClassFile.FieldType.int) ∈ za_ws := za_ws_in (List.mem_append_right _ (List.mem_of_getElem? (i := 832) (by decide +kernel))) rfl
theorem zk_833 : Cond.methodLink "TrustLedgerLaw" 72 zy_Mo_value ∈ za_ws := za_ws_in (List.mem_append_right _ (List.mem_of_getElem? (i := 833) (by decide +kernel))) rfl
theorem zk_834 : Cond.instanceMethod zy_Mo_value ∈ za_ws := za_ws_in (List.mem_append_right _ (List.mem_of_getElem? (i := 834) (by decide +kernel))) rfl
theorem zk_835 : Cond.selects "TrustLedgerModel" zy_Mo_value zy_Mo_value ∈ za_ws := za_ws_in (List.mem_append_right _ (List.mem_of_getElem? (i := 835) (by decide +kernel))) rfl
theorem zk_836 : Cond.code zy_Mo_value prog_12_method_45_code 3 (Option.some Jvm.ClassFile.FieldType.int) ∈ za_ws := za_ws_in (List.mem_append_right _ (List.mem_of_getElem? (i := 836) (by decide +kernel))) rfl
theorem zk_837 : Cond.methodLink "TrustLedgerLaw" 77 zy_Mo_header ∈ za_ws := za_ws_in (List.mem_append_right _ (List.mem_of_getElem? (i := 837) (by decide +kernel))) rfl
theorem zk_838 : Cond.instanceMethod zy_Mo_header ∈ za_ws := za_ws_in (List.mem_append_right _ (List.mem_of_getElem? (i := 838) (by decide +kernel))) rfl
theorem zk_839 : Cond.selects "TrustLedgerModel" zy_Mo_header zy_Mo_header ∈ za_ws := za_ws_in (List.mem_append_right _ (List.mem_of_getElem? (i := 839) (by decide +kernel))) rfl
theorem zk_840 : Cond.code zy_Mo_header prog_12_method_46_code 2 (Option.some Jvm.ClassFile.FieldType.int) ∈ za_ws := za_ws_in (List.mem_append_right _ (List.mem_of_getElem? (i := 840) (by decide +kernel))) rfl
theorem zk_841 : Cond.methodLink "TrustLedgerLaw" 82 zy_Mo_balance ∈ za_ws := za_ws_in (List.mem_append_right _ (List.mem_of_getElem? (i := 841) (by decide +kernel))) rfl
theorem zk_842 : Cond.instanceMethod zy_Mo_balance ∈ za_ws := za_ws_in (List.mem_append_right _ (List.mem_of_getElem? (i := 842) (by decide +kernel))) rfl
theorem zk_843 : Cond.selects "TrustLedgerModel" zy_Mo_balance zy_Mo_balance ∈ za_ws := za_ws_in (List.mem_append_right _ (List.mem_of_getElem? (i := 843) (by decide +kernel))) rfl
theorem zk_844 : Cond.code zy_Mo_balance prog_12_method_47_code 4 (Option.some Jvm.ClassFile.FieldType.int) ∈ za_ws := za_ws_in (List.mem_append_right _ (List.mem_of_getElem? (i := 844) (by decide +kernel))) rfl
theorem zk_845 : Cond.methodLink "TrustLedgerLaw" 86 zy_Mo_offer ∈ za_ws := za_ws_in (List.mem_append_right _ (List.mem_of_getElem? (i := 845) (by decide +kernel))) rfl
theorem zk_846 : Cond.instanceMethod zy_Mo_offer ∈ za_ws := za_ws_in (List.mem_append_right _ (List.mem_of_getElem? (i := 846) (by decide +kernel))) rfl
theorem zk_847 : Cond.selects "TrustLedgerModel" zy_Mo_offer zy_Mo_offer ∈ za_ws := za_ws_in (List.mem_append_right _ (List.mem_of_getElem? (i := 847) (by decide +kernel))) rfl
theorem zk_848 : Cond.code zy_Mo_offer prog_12_method_48_code 4 (Option.some Jvm.ClassFile.FieldType.int) ∈ za_ws := za_ws_in (List.mem_append_right _ (List.mem_of_getElem? (i := 848) (by decide +kernel))) rfl
theorem zk_85 : Cond.fieldLink "TrustLedger$Statements" 23 "TrustLedger$Statements" "accepted" "[I" ∈ za_ws := za_ws_in (List.mem_append_right _ (List.mem_of_getElem? (i := 85) (by decide +kernel))) rfl
theorem zk_9 : Cond.initialized "TrustLedger$Transaction" ∈ za_ws := za_ws_in (List.mem_append_right _ (List.mem_of_getElem? (i := 9) (by decide +kernel))) rfl
theorem zk_p0 : Cond.selects "TrustLedger" zy_TL_isLeft zy_TL_isLeft ∈ za_ws := za_ws_in (List.mem_append_left _ (List.mem_of_getElem? (i := 0) (by decide +kernel))) rfl
theorem zk_p1 : Cond.selects "TrustLedger" zy_TL_isAtWork zy_TL_isAtWork ∈ za_ws := za_ws_in (List.mem_append_left _ (List.mem_of_getElem? (i := 1) (by decide +kernel))) rfl
theorem zk_p10 : Cond.selects "TrustLedger$Agreement" zy_Agreement_valueToPrepare zy_Agreement_valueToPrepare ∈ za_ws := za_ws_in (List.mem_append_left _ (List.mem_of_getElem? (i := 10) (by decide +kernel))) rfl
theorem zk_p11 : Cond.selects "TrustLedger$Agreement" zy_Agreement_acceptPrepare zy_Agreement_acceptPrepare ∈ za_ws := za_ws_in (List.mem_append_left _ (List.mem_of_getElem? (i := 11) (by decide +kernel))) rfl
theorem zk_p12 : Cond.selects "TrustLedger$Agreement" zy_Agreement_confirmPrepare zy_Agreement_confirmPrepare ∈ za_ws := za_ws_in (List.mem_append_left _ (List.mem_of_getElem? (i := 12) (by decide +kernel))) rfl
theorem zk_p13 : Cond.selects "TrustLedger$Agreement" zy_Agreement_voteCommit zy_Agreement_voteCommit ∈ za_ws := za_ws_in (List.mem_append_left _ (List.mem_of_getElem? (i := 13) (by decide +kernel))) rfl
theorem zk_p14 : Cond.selects "TrustLedger$Agreement" zy_Agreement_settleCommit zy_Agreement_settleCommit ∈ za_ws := za_ws_in (List.mem_append_left _ (List.mem_of_getElem? (i := 14) (by decide +kernel))) rfl
theorem zk_p15 : Cond.selects "TrustLedger" zy_TL_closeSlot zy_TL_closeSlot ∈ za_ws := za_ws_in (List.mem_append_left _ (List.mem_of_getElem? (i := 15) (by decide +kernel))) rfl
theorem zk_p16 : Cond.selects "TrustLedger$Ledger" zy_Ledger_match zy_Ledger_match ∈ za_ws := za_ws_in (List.mem_append_left _ (List.mem_of_getElem? (i := 16) (by decide +kernel))) rfl
theorem zk_p17 : Cond.selects "TrustLedger$Ledger" zy_Ledger_bestFor zy_Ledger_bestFor ∈ za_ws := za_ws_in (List.mem_append_left _ (List.mem_of_getElem? (i := 17) (by decide +kernel))) rfl
theorem zk_p18 : Cond.selects "TrustLedger$Ledger" zy_Ledger_tradeWith zy_Ledger_tradeWith ∈ za_ws := za_ws_in (List.mem_append_left _ (List.mem_of_getElem? (i := 18) (by decide +kernel))) rfl
theorem zk_p19 : Cond.selects "TrustLedger$Ledger" zy_Ledger_canServe zy_Ledger_canServe ∈ za_ws := za_ws_in (List.mem_append_left _ (List.mem_of_getElem? (i := 19) (by decide +kernel))) rfl
theorem zk_p2 : Cond.selects "TrustLedger" zy_TL_isGood zy_TL_isGood ∈ za_ws := za_ws_in (List.mem_append_left _ (List.mem_of_getElem? (i := 2) (by decide +kernel))) rfl
theorem zk_p20 : Cond.selects "TrustLedger$Ledger" zy_Ledger_move zy_Ledger_move ∈ za_ws := za_ws_in (List.mem_append_left _ (List.mem_of_getElem? (i := 20) (by decide +kernel))) rfl
theorem zk_p21 : Cond.selects "TrustLedger$Ledger" zy_Ledger_takeOut zy_Ledger_takeOut ∈ za_ws := za_ws_in (List.mem_append_left _ (List.mem_of_getElem? (i := 21) (by decide +kernel))) rfl
theorem zk_p22 : Cond.selects "TrustLedger" zy_TL_keepEnvelope zy_TL_keepEnvelope ∈ za_ws := za_ws_in (List.mem_append_left _ (List.mem_of_getElem? (i := 22) (by decide +kernel))) rfl
theorem zk_p23 : Cond.selects "TrustLedgerModel" zy_Mo_table zy_Mo_table ∈ za_ws := za_ws_in (List.mem_append_left _ (List.mem_of_getElem? (i := 23) (by decide +kernel))) rfl
theorem zk_p24 : Cond.selects "TrustLedgerModel" zy_Mo_satisfies zy_Mo_satisfies ∈ za_ws := za_ws_in (List.mem_append_left _ (List.mem_of_getElem? (i := 24) (by decide +kernel))) rfl
theorem zk_p25 : Cond.selects "TrustLedgerModel" zy_Mo_good zy_Mo_good ∈ za_ws := za_ws_in (List.mem_append_left _ (List.mem_of_getElem? (i := 25) (by decide +kernel))) rfl
theorem zk_p26 : Cond.selects "TrustLedgerModel" zy_Mo_newRound zy_Mo_newRound ∈ za_ws := za_ws_in (List.mem_append_left _ (List.mem_of_getElem? (i := 26) (by decide +kernel))) rfl
theorem zk_p27 : Cond.selects "TrustLedgerModel" zy_Mo_stir zy_Mo_stir ∈ za_ws := za_ws_in (List.mem_append_left _ (List.mem_of_getElem? (i := 27) (by decide +kernel))) rfl
theorem zk_p28 : Cond.selects "TrustLedgerModel" zy_Mo_ruleA zy_Mo_ruleA ∈ za_ws := za_ws_in (List.mem_append_left _ (List.mem_of_getElem? (i := 28) (by decide +kernel))) rfl
theorem zk_p29 : Cond.selects "TrustLedgerModel" zy_Mo_place zy_Mo_place ∈ za_ws := za_ws_in (List.mem_append_left _ (List.mem_of_getElem? (i := 29) (by decide +kernel))) rfl
theorem zk_p3 : Cond.selects "TrustLedger$Agreement" zy_Agreement_beginRound zy_Agreement_beginRound ∈ za_ws := za_ws_in (List.mem_append_left _ (List.mem_of_getElem? (i := 3) (by decide +kernel))) rfl
theorem zk_p30 : Cond.selects "TrustLedgerModel" zy_Mo_nodes zy_Mo_nodes ∈ za_ws := za_ws_in (List.mem_append_left _ (List.mem_of_getElem? (i := 30) (by decide +kernel))) rfl
theorem zk_p31 : Cond.selects "TrustLedgerModel" zy_Mo_has zy_Mo_has ∈ za_ws := za_ws_in (List.mem_append_left _ (List.mem_of_getElem? (i := 31) (by decide +kernel))) rfl
theorem zk_p32 : Cond.selects "TrustLedgerModel" zy_Mo_put zy_Mo_put ∈ za_ws := za_ws_in (List.mem_append_left _ (List.mem_of_getElem? (i := 32) (by decide +kernel))) rfl
theorem zk_p33 : Cond.selects "TrustLedgerModel" zy_Mo_accept zy_Mo_accept ∈ za_ws := za_ws_in (List.mem_append_left _ (List.mem_of_getElem? (i := 33) (by decide +kernel))) rfl
theorem zk_p34 : Cond.selects "TrustLedgerModel" zy_Mo_mayAccept zy_Mo_mayAccept ∈ za_ws := za_ws_in (List.mem_append_left _ (List.mem_of_getElem? (i := 34) (by decide +kernel))) rfl
theorem zk_p35 : Cond.selects "TrustLedgerModel" zy_Mo_clash zy_Mo_clash ∈ za_ws := za_ws_in (List.mem_append_left _ (List.mem_of_getElem? (i := 35) (by decide +kernel))) rfl
theorem zk_p36 : Cond.selects "TrustLedgerModel" zy_Mo_gives zy_Mo_gives ∈ za_ws := za_ws_in (List.mem_append_left _ (List.mem_of_getElem? (i := 36) (by decide +kernel))) rfl
theorem zk_p37 : Cond.selects "TrustLedgerModel" zy_Mo_confirm zy_Mo_confirm ∈ za_ws := za_ws_in (List.mem_append_left _ (List.mem_of_getElem? (i := 37) (by decide +kernel))) rfl
theorem zk_p38 : Cond.selects "TrustLedgerModel" zy_Mo_mayConfirm zy_Mo_mayConfirm ∈ za_ws := za_ws_in (List.mem_append_left _ (List.mem_of_getElem? (i := 38) (by decide +kernel))) rfl
theorem zk_p39 : Cond.selects "TrustLedgerModel" zy_Mo_ruleD zy_Mo_ruleD ∈ za_ws := za_ws_in (List.mem_append_left _ (List.mem_of_getElem? (i := 39) (by decide +kernel))) rfl
theorem zk_p4 : Cond.selects "TrustLedger$Agreement" zy_Agreement_voteNominate zy_Agreement_voteNominate ∈ za_ws := za_ws_in (List.mem_append_left _ (List.mem_of_getElem? (i := 4) (by decide +kernel))) rfl
theorem zk_p40 : Cond.selects "TrustLedgerModel" zy_Mo_composite zy_Mo_composite ∈ za_ws := za_ws_in (List.mem_append_left _ (List.mem_of_getElem? (i := 40) (by decide +kernel))) rfl
theorem zk_p41 : Cond.selects "TrustLedgerModel" zy_Mo_votePrepare zy_Mo_votePrepare ∈ za_ws := za_ws_in (List.mem_append_left _ (List.mem_of_getElem? (i := 41) (by decide +kernel))) rfl
theorem zk_p42 : Cond.selects "TrustLedgerModel" zy_Mo_toPrepare zy_Mo_toPrepare ∈ za_ws := za_ws_in (List.mem_append_left _ (List.mem_of_getElem? (i := 42) (by decide +kernel))) rfl
theorem zk_p43 : Cond.selects "TrustLedgerModel" zy_Mo_ruleG zy_Mo_ruleG ∈ za_ws := za_ws_in (List.mem_append_left _ (List.mem_of_getElem? (i := 43) (by decide +kernel))) rfl
theorem zk_p44 : Cond.selects "TrustLedgerModel" zy_Mo_ruleH zy_Mo_ruleH ∈ za_ws := za_ws_in (List.mem_append_left _ (List.mem_of_getElem? (i := 44) (by decide +kernel))) rfl
theorem zk_p45 : Cond.selects "TrustLedgerModel" zy_Mo_externalize zy_Mo_externalize ∈ za_ws := za_ws_in (List.mem_append_left _ (List.mem_of_getElem? (i := 45) (by decide +kernel))) rfl
theorem zk_p46 : Cond.selects "TrustLedgerModel" zy_Mo_carry zy_Mo_carry ∈ za_ws := za_ws_in (List.mem_append_left _ (List.mem_of_getElem? (i := 46) (by decide +kernel))) rfl
theorem zk_p47 : Cond.selects "TrustLedgerModel" zy_Mo_trade zy_Mo_trade ∈ za_ws := za_ws_in (List.mem_append_left _ (List.mem_of_getElem? (i := 47) (by decide +kernel))) rfl
theorem zk_p48 : Cond.selects "TrustLedgerModel" zy_Mo_best zy_Mo_best ∈ za_ws := za_ws_in (List.mem_append_left _ (List.mem_of_getElem? (i := 48) (by decide +kernel))) rfl
theorem zk_p49 : Cond.selects "TrustLedgerModel" zy_Mo_cross zy_Mo_cross ∈ za_ws := za_ws_in (List.mem_append_left _ (List.mem_of_getElem? (i := 49) (by decide +kernel))) rfl
theorem zk_p5 : Cond.selects "TrustLedger$Agreement" zy_Agreement_acceptNominate zy_Agreement_acceptNominate ∈ za_ws := za_ws_in (List.mem_append_left _ (List.mem_of_getElem? (i := 5) (by decide +kernel))) rfl
theorem zk_p50 : Cond.selects "TrustLedgerModel" zy_Mo_remove zy_Mo_remove ∈ za_ws := za_ws_in (List.mem_append_left _ (List.mem_of_getElem? (i := 50) (by decide +kernel))) rfl
theorem zk_p51 : Cond.selects "TrustLedgerModel" zy_Mo_sealed zy_Mo_sealed ∈ za_ws := za_ws_in (List.mem_append_left _ (List.mem_of_getElem? (i := 51) (by decide +kernel))) rfl
theorem zk_p6 : Cond.selects "TrustLedger$Agreement" zy_Agreement_confirmNominate zy_Agreement_confirmNominate ∈ za_ws := za_ws_in (List.mem_append_left _ (List.mem_of_getElem? (i := 6) (by decide +kernel))) rfl
theorem zk_p7 : Cond.selects "TrustLedger$Agreement" zy_Agreement_beginPrepare zy_Agreement_beginPrepare ∈ za_ws := za_ws_in (List.mem_append_left _ (List.mem_of_getElem? (i := 7) (by decide +kernel))) rfl
theorem zk_p8 : Cond.selects "TrustLedger$Agreement" zy_Agreement_composite zy_Agreement_composite ∈ za_ws := za_ws_in (List.mem_append_left _ (List.mem_of_getElem? (i := 8) (by decide +kernel))) rfl
theorem zk_p9 : Cond.selects "TrustLedger$Agreement" zy_Agreement_raiseCounter zy_Agreement_raiseCounter ∈ za_ws := za_ws_in (List.mem_append_left _ (List.mem_of_getElem? (i := 9) (by decide +kernel))) rfl
theorem zn_109 : Cond.fieldLinkNest "TrustLedger" 82 "TrustLedger$Agreement" "proposal" "I" "TrustLedger" ∈ lw_tbl := List.mem_append_right _ (List.mem_of_getElem? (i := 109) (by decide +kernel))
theorem zn_111 : Cond.fieldLinkNest "TrustLedger" 101 "TrustLedger$Agreement" "round" "I" "TrustLedger" ∈ lw_tbl := List.mem_append_right _ (List.mem_of_getElem? (i := 111) (by decide +kernel))
theorem zn_114 : Cond.fieldLinkNest "TrustLedger" 94 "TrustLedger$Agreement" "outcome" "I" "TrustLedger" ∈ lw_tbl := List.mem_append_right _ (List.mem_of_getElem? (i := 114) (by decide +kernel))
theorem zn_150 : Cond.fieldLinkNest "TrustLedger" 174 "TrustLedger$Ledger" "book" "[LTrustLedger$Offer;" "TrustLedger" ∈ lw_tbl := List.mem_append_right _ (List.mem_of_getElem? (i := 150) (by decide +kernel))
theorem zn_162 : Cond.fieldLinkNest "TrustLedger" 75 "TrustLedger$Node" "agreements" "[LTrustLedger$Agreement;" "TrustLedger" ∈ lw_tbl := List.mem_append_right _ (List.mem_of_getElem? (i := 162) (by decide +kernel))
theorem zn_164 : Cond.fieldLinkNest "TrustLedger" 164 "TrustLedger$Node" "ledger" "LTrustLedger$Ledger;" "TrustLedger" ∈ lw_tbl := List.mem_append_right _ (List.mem_of_getElem? (i := 164) (by decide +kernel))
theorem zn_165 : Cond.fieldLinkNest "TrustLedger" 79 "TrustLedger$Node" "slot" "I" "TrustLedger" ∈ lw_tbl := List.mem_append_right _ (List.mem_of_getElem? (i := 165) (by decide +kernel))
theorem zn_166 : Cond.fieldLinkNest "TrustLedger" 161 "TrustLedger$Node" "head" "I" "TrustLedger" ∈ lw_tbl := List.mem_append_right _ (List.mem_of_getElem? (i := 166) (by decide +kernel))
theorem zn_233 : Cond.fieldLinkNest "TrustLedger$Ledger" 30 "TrustLedger$Transaction" "kind" "I" "TrustLedger" ∈ lw_tbl := List.mem_append_right _ (List.mem_of_getElem? (i := 233) (by decide +kernel))
theorem zn_235 : Cond.fieldLinkNest "TrustLedger$Ledger" 24 "TrustLedger$Transaction" "from" "I" "TrustLedger" ∈ lw_tbl := List.mem_append_right _ (List.mem_of_getElem? (i := 235) (by decide +kernel))
theorem zn_237 : Cond.fieldLinkNest "TrustLedger$Ledger" 33 "TrustLedger$Transaction" "what" "I" "TrustLedger" ∈ lw_tbl := List.mem_append_right _ (List.mem_of_getElem? (i := 237) (by decide +kernel))
theorem zn_239 : Cond.fieldLinkNest "TrustLedger$Ledger" 36 "TrustLedger$Transaction" "other" "I" "TrustLedger" ∈ lw_tbl := List.mem_append_right _ (List.mem_of_getElem? (i := 239) (by decide +kernel))
theorem zn_241 : Cond.fieldLinkNest "TrustLedger$Ledger" 39 "TrustLedger$Transaction" "amount" "I" "TrustLedger" ∈ lw_tbl := List.mem_append_right _ (List.mem_of_getElem? (i := 241) (by decide +kernel))
theorem zn_280 : Cond.methodLinkNest "TrustLedger$Agreement" 116 zy_TL_has "TrustLedger" ∈ lw_tbl := List.mem_append_right _ (List.mem_of_getElem? (i := 280) (by decide +kernel))
theorem zn_293 : Cond.methodLinkNest "TrustLedger$Statements" 29 zy_TL_has "TrustLedger" ∈ lw_tbl := List.mem_append_right _ (List.mem_of_getElem? (i := 293) (by decide +kernel))
theorem zn_31 : Cond.methodLinkNest "TrustLedger$Quorums" 17 zy_Trust_init "TrustLedger" ∈ lw_tbl := List.mem_append_right _ (List.mem_of_getElem? (i := 31) (by decide +kernel))
theorem zn_311 : Cond.methodLinkNest "TrustLedger$Quorums" 18 zy_TL_has "TrustLedger" ∈ lw_tbl := List.mem_append_right _ (List.mem_of_getElem? (i := 311) (by decide +kernel))
theorem zn_351 : Cond.methodLinkNest "TrustLedger$Agreement" 134 zy_TL_valueOf "TrustLedger" ∈ lw_tbl := List.mem_append_right _ (List.mem_of_getElem? (i := 351) (by decide +kernel))
theorem zn_354 : Cond.methodLinkNest "TrustLedger$Agreement" 123 zy_TL_ballotOf "TrustLedger" ∈ lw_tbl := List.mem_append_right _ (List.mem_of_getElem? (i := 354) (by decide +kernel))
theorem zn_361 : Cond.methodLinkNest "TrustLedger$Agreement" 148 zy_TL_abortedBy "TrustLedger" ∈ lw_tbl := List.mem_append_right _ (List.mem_of_getElem? (i := 361) (by decide +kernel))
theorem zn_377 : Cond.methodLinkNest "TrustLedger$Agreement" 151 zy_TL_abortersOf "TrustLedger" ∈ lw_tbl := List.mem_append_right _ (List.mem_of_getElem? (i := 377) (by decide +kernel))
theorem zn_398 : Cond.fieldLinkNest "TrustLedger$Ledger" 87 "TrustLedger$Offer" "account" "I" "TrustLedger" ∈ lw_tbl := List.mem_append_right _ (List.mem_of_getElem? (i := 398) (by decide +kernel))
theorem zn_399 : Cond.fieldLinkNest "TrustLedger" 178 "TrustLedger$Offer" "account" "I" "TrustLedger" ∈ lw_tbl := List.mem_append_right _ (List.mem_of_getElem? (i := 399) (by decide +kernel))
theorem zn_401 : Cond.fieldLinkNest "TrustLedger$Ledger" 69 "TrustLedger$Offer" "side" "I" "TrustLedger" ∈ lw_tbl := List.mem_append_right _ (List.mem_of_getElem? (i := 401) (by decide +kernel))
theorem zn_402 : Cond.fieldLinkNest "TrustLedger" 183 "TrustLedger$Offer" "side" "I" "TrustLedger" ∈ lw_tbl := List.mem_append_right _ (List.mem_of_getElem? (i := 402) (by decide +kernel))
theorem zn_404 : Cond.fieldLinkNest "TrustLedger$Ledger" 72 "TrustLedger$Offer" "price" "I" "TrustLedger" ∈ lw_tbl := List.mem_append_right _ (List.mem_of_getElem? (i := 404) (by decide +kernel))
theorem zn_405 : Cond.fieldLinkNest "TrustLedger" 186 "TrustLedger$Offer" "price" "I" "TrustLedger" ∈ lw_tbl := List.mem_append_right _ (List.mem_of_getElem? (i := 405) (by decide +kernel))
theorem zn_407 : Cond.fieldLinkNest "TrustLedger$Ledger" 57 "TrustLedger$Offer" "amount" "I" "TrustLedger" ∈ lw_tbl := List.mem_append_right _ (List.mem_of_getElem? (i := 407) (by decide +kernel))
theorem zn_408 : Cond.fieldLinkNest "TrustLedger" 189 "TrustLedger$Offer" "amount" "I" "TrustLedger" ∈ lw_tbl := List.mem_append_right _ (List.mem_of_getElem? (i := 408) (by decide +kernel))
theorem zn_480 : Cond.fieldLinkNest "TrustLedger$Agreement" 73 "TrustLedger$Envelope" "sender" "I" "TrustLedger" ∈ lw_tbl := List.mem_append_right _ (List.mem_of_getElem? (i := 480) (by decide +kernel))
theorem zn_481 : Cond.fieldLinkNest "TrustLedger" 143 "TrustLedger$Envelope" "sender" "I" "TrustLedger" ∈ lw_tbl := List.mem_append_right _ (List.mem_of_getElem? (i := 481) (by decide +kernel))
theorem zn_483 : Cond.fieldLinkNest "TrustLedger" 146 "TrustLedger$Envelope" "slot" "I" "TrustLedger" ∈ lw_tbl := List.mem_append_right _ (List.mem_of_getElem? (i := 483) (by decide +kernel))
theorem zn_485 : Cond.fieldLinkNest "TrustLedger$Agreement" 78 "TrustLedger$Envelope" "backed" "[I" "TrustLedger" ∈ lw_tbl := List.mem_append_right _ (List.mem_of_getElem? (i := 485) (by decide +kernel))
theorem zn_486 : Cond.fieldLinkNest "TrustLedger" 120 "TrustLedger$Envelope" "backed" "[I" "TrustLedger" ∈ lw_tbl := List.mem_append_right _ (List.mem_of_getElem? (i := 486) (by decide +kernel))
theorem zn_488 : Cond.fieldLinkNest "TrustLedger$Agreement" 82 "TrustLedger$Envelope" "accepted" "[I" "TrustLedger" ∈ lw_tbl := List.mem_append_right _ (List.mem_of_getElem? (i := 488) (by decide +kernel))
theorem zn_489 : Cond.fieldLinkNest "TrustLedger" 127 "TrustLedger$Envelope" "accepted" "[I" "TrustLedger" ∈ lw_tbl := List.mem_append_right _ (List.mem_of_getElem? (i := 489) (by decide +kernel))
theorem zn_49 : Cond.fieldLinkNest "TrustLedger$Agreement" 18 "TrustLedger$Quorums" "trusts" "[LTrustLedger$Trust;" "TrustLedger" ∈ lw_tbl := List.mem_append_right _ (List.mem_of_getElem? (i := 49) (by decide +kernel))
theorem zn_50 : Cond.fieldLinkNest "TrustLedger" 49 "TrustLedger$Quorums" "trusts" "[LTrustLedger$Trust;" "TrustLedger" ∈ lw_tbl := List.mem_append_right _ (List.mem_of_getElem? (i := 50) (by decide +kernel))
theorem zn_51 : Cond.fieldLinkNest "TrustLedger$Statements" 42 "TrustLedger$Quorums" "trusts" "[LTrustLedger$Trust;" "TrustLedger" ∈ lw_tbl := List.mem_append_right _ (List.mem_of_getElem? (i := 51) (by decide +kernel))
theorem zn_78 : Cond.fieldLinkNest "TrustLedger" 155 "TrustLedger$Statements" "voted" "I" "TrustLedger" ∈ lw_tbl := List.mem_append_right _ (List.mem_of_getElem? (i := 78) (by decide +kernel))
theorem zn_80 : Cond.fieldLinkNest "TrustLedger$Agreement" 131 "TrustLedger$Statements" "confirmed" "I" "TrustLedger" ∈ lw_tbl := List.mem_append_right _ (List.mem_of_getElem? (i := 80) (by decide +kernel))
theorem zn_81 : Cond.fieldLinkNest "TrustLedger" 158 "TrustLedger$Statements" "confirmed" "I" "TrustLedger" ∈ lw_tbl := List.mem_append_right _ (List.mem_of_getElem? (i := 81) (by decide +kernel))
theorem zn_83 : Cond.fieldLinkNest "TrustLedger$Agreement" 69 "TrustLedger$Statements" "backed" "[I" "TrustLedger" ∈ lw_tbl := List.mem_append_right _ (List.mem_of_getElem? (i := 83) (by decide +kernel))
theorem zn_84 : Cond.fieldLinkNest "TrustLedger" 124 "TrustLedger$Statements" "backed" "[I" "TrustLedger" ∈ lw_tbl := List.mem_append_right _ (List.mem_of_getElem? (i := 84) (by decide +kernel))
theorem zn_86 : Cond.fieldLinkNest "TrustLedger$Agreement" 79 "TrustLedger$Statements" "accepted" "[I" "TrustLedger" ∈ lw_tbl := List.mem_append_right _ (List.mem_of_getElem? (i := 86) (by decide +kernel))
theorem zn_87 : Cond.fieldLinkNest "TrustLedger" 130 "TrustLedger$Statements" "accepted" "[I" "TrustLedger" ∈ lw_tbl := List.mem_append_right _ (List.mem_of_getElem? (i := 87) (by decide +kernel))
theorem zi_TL : ∀ w ∈ u_ws zR_TL zT_TL 7, w ∈ za_ws := fun w h => (goodIn_zi (by decide +kernel) (by decide +kernel)) w h
theorem zi_Agreement : ∀ w ∈ u_ws zR_Agreement zT_Agreement 11, w ∈ za_ws := fun w h => (goodIn_zi (by decide +kernel) (by decide +kernel)) w h
theorem zi_Envelope : ∀ w ∈ u_ws zR_Envelope zT_Envelope 4, w ∈ za_ws := fun w h => (goodIn_zi (by decide +kernel) (by decide +kernel)) w h
theorem zi_Ledger : ∀ w ∈ u_ws zR_Ledger zT_Ledger 4, w ∈ za_ws := fun w h => (goodIn_zi (by decide +kernel) (by decide +kernel)) w h
theorem zi_Node : ∀ w ∈ u_ws zR_Node zT_Node 4, w ∈ za_ws := fun w h => (goodIn_zi (by decide +kernel) (by decide +kernel)) w h
theorem zi_Offer : ∀ w ∈ u_ws zR_Offer zT_Offer 4, w ∈ za_ws := fun w h => (goodIn_zi (by decide +kernel) (by decide +kernel)) w h
theorem zi_Quorums : ∀ w ∈ u_ws zR_Quorums zT_Quorums 1, w ∈ za_ws := fun w h => (goodIn_zi (by decide +kernel) (by decide +kernel)) w h
theorem zi_Statements : ∀ w ∈ u_ws zR_Statements zT_Statements 6, w ∈ za_ws := fun w h => (goodIn_zi (by decide +kernel) (by decide +kernel)) w h
theorem zi_Transaction : ∀ w ∈ u_ws zR_Transaction zT_Transaction 5, w ∈ za_ws := fun w h => (goodIn_zi (by decide +kernel) (by decide +kernel)) w h
theorem zi_Trust : ∀ w ∈ u_ws zR_Trust zT_Trust 4, w ∈ za_ws := fun w h => (goodIn_zi (by decide +kernel) (by decide +kernel)) w h
theorem zi_Mo : ∀ w ∈ u_ws zR_Mo zT_Mo 32, w ∈ za_ws := fun w h => (goodIn_zi (by decide +kernel) (by decide +kernel)) w h
theorem zl_Trust_9 : za_fd zR_Trust 9 9 0 (.int) false := ⟨zR_Trust, zT_Trust, 4, zt_Trust, rfl, by decide, zi_Trust, rfl, by decide +kernel, zto_Trust, ztn_Trust, rfl, (Or.inl zk_35)⟩
theorem zl_Trust_15 : za_fd zR_Trust 15 9 1 (.int) false := ⟨zR_Trust, zT_Trust, 4, zt_Trust, rfl, by decide, zi_Trust, rfl, by decide +kernel, zto_Trust, ztn_Trust, rfl, (Or.inl zk_36)⟩
theorem zl_Quorums_11 : za_fd zR_Quorums 11 6 0 (.array (.object "TrustLedger$Trust")) true := ⟨zR_Quorums, zT_Quorums, 1, zt_Quorums, rfl, by decide, zi_Quorums, rfl, by decide +kernel, zto_Quorums, ztn_Quorums, rfl, (Or.inl zk_48)⟩
theorem zl_Agreement_18 : za_fd zR_Agreement 18 6 0 (.array (.object "TrustLedger$Trust")) true := ⟨zR_Quorums, zT_Quorums, 1, zt_Quorums, rfl, by decide, zi_Quorums, rfl, by decide +kernel, zto_Quorums, ztn_Quorums, rfl, (Or.inr ⟨_, zn_49⟩)⟩
theorem zl_Ledger_9 : za_fd zR_Ledger 9 3 0 (.array (.int)) true := ⟨zR_Ledger, zT_Ledger, 4, zt_Ledger, rfl, by decide, zi_Ledger, rfl, by decide +kernel, zto_Ledger, ztn_Ledger, rfl, (Or.inl zk_147)⟩
theorem zl_Ledger_15 : za_fd zR_Ledger 15 3 1 (.array (.int)) true := ⟨zR_Ledger, zT_Ledger, 4, zt_Ledger, rfl, by decide, zi_Ledger, rfl, by decide +kernel, zto_Ledger, ztn_Ledger, rfl, (Or.inl zk_148)⟩
theorem zl_Node_11 : za_fd zR_Node 11 4 0 (.array (.object "TrustLedger$Agreement")) true := ⟨zR_Node, zT_Node, 4, zt_Node, rfl, by decide, zi_Node, rfl, by decide +kernel, zto_Node, ztn_Node, rfl, (Or.inl zk_161)⟩
theorem zl_TL_22 : za_fd zR_TL 22 0 2 (.array (.object "TrustLedger$Node")) true := ⟨zR_TL, zT_TL, 7, zt_TL, rfl, by decide, zi_TL, rfl, by decide +kernel, zto_TL, ztn_TL, rfl, (Or.inl zk_182)⟩
theorem zl_Trust_21 : za_fd zR_Trust 21 9 3 (.int) false := ⟨zR_Trust, zT_Trust, 4, zt_Trust, rfl, by decide, zi_Trust, rfl, by decide +kernel, zto_Trust, ztn_Trust, rfl, (Or.inl zk_38)⟩
theorem zl_Trust_18 : za_fd zR_Trust 18 9 2 (.int) false := ⟨zR_Trust, zT_Trust, 4, zt_Trust, rfl, by decide, zi_Trust, rfl, by decide +kernel, zto_Trust, ztn_Trust, rfl, (Or.inl zk_37)⟩
theorem zl_TL_45 : za_fd zR_TL 45 0 6 (.boolean) false := ⟨zR_TL, zT_TL, 7, zt_TL, rfl, by decide, zi_TL, rfl, by decide +kernel, zto_TL, ztn_TL, rfl, (Or.inl zk_186)⟩
theorem zl_TL_16 : za_fd zR_TL 16 0 1 (.object "TrustLedger$Quorums") true := ⟨zR_TL, zT_TL, 7, zt_TL, rfl, by decide, zi_TL, rfl, by decide +kernel, zto_TL, ztn_TL, rfl, (Or.inl zk_181)⟩
theorem zl_TL_49 : za_fd zR_TL 49 6 0 (.array (.object "TrustLedger$Trust")) true := ⟨zR_Quorums, zT_Quorums, 1, zt_Quorums, rfl, by decide, zi_Quorums, rfl, by decide +kernel, zto_Quorums, ztn_Quorums, rfl, (Or.inr ⟨_, zn_50⟩)⟩
theorem zl_TL_79 : za_fd zR_TL 79 4 2 (.int) false := ⟨zR_Node, zT_Node, 4, zt_Node, rfl, by decide, zi_Node, rfl, by decide +kernel, zto_Node, ztn_Node, rfl, (Or.inr ⟨_, zn_165⟩)⟩
theorem zl_TL_31 : za_fd zR_TL 31 0 3 (.array (.object "TrustLedger$Transaction")) true := ⟨zR_TL, zT_TL, 7, zt_TL, rfl, by decide, zi_TL, rfl, by decide +kernel, zto_TL, ztn_TL, rfl, (Or.inl zk_183)⟩
theorem zl_TL_9 : za_fd zR_TL 9 0 0 (.int) true := ⟨zR_TL, zT_TL, 7, zt_TL, rfl, by decide, zi_TL, rfl, by decide +kernel, zto_TL, ztn_TL, rfl, (Or.inl zk_180)⟩
theorem zl_Agreement_46 : za_fd zR_Agreement 46 1 8 (.int) false := ⟨zR_Agreement, zT_Agreement, 11, zt_Agreement, rfl, by decide, zi_Agreement, rfl, by decide +kernel, zto_Agreement, ztn_Agreement, rfl, (Or.inl zk_112)⟩
theorem zl_Agreement_15 : za_fd zR_Agreement 15 1 1 (.int) true := ⟨zR_Agreement, zT_Agreement, 11, zt_Agreement, rfl, by decide, zi_Agreement, rfl, by decide +kernel, zto_Agreement, ztn_Agreement, rfl, (Or.inl zk_103)⟩
theorem zl_Agreement_43 : za_fd zR_Agreement 43 1 7 (.int) false := ⟨zR_Agreement, zT_Agreement, 11, zt_Agreement, rfl, by decide, zi_Agreement, rfl, by decide +kernel, zto_Agreement, ztn_Agreement, rfl, (Or.inl zk_110)⟩
theorem zl_Agreement_24 : za_fd zR_Agreement 24 1 2 (.object "TrustLedger$Trust") true := ⟨zR_Agreement, zT_Agreement, 11, zt_Agreement, rfl, by decide, zi_Agreement, rfl, by decide +kernel, zto_Agreement, ztn_Agreement, rfl, (Or.inl zk_104)⟩
theorem zl_Agreement_9 : za_fd zR_Agreement 9 1 0 (.int) true := ⟨zR_Agreement, zT_Agreement, 11, zt_Agreement, rfl, by decide, zi_Agreement, rfl, by decide +kernel, zto_Agreement, ztn_Agreement, rfl, (Or.inl zk_102)⟩
theorem zl_Agreement_56 : za_fd zR_Agreement 56 1 6 (.int) false := ⟨zR_Agreement, zT_Agreement, 11, zt_Agreement, rfl, by decide, zi_Agreement, rfl, by decide +kernel, zto_Agreement, ztn_Agreement, rfl, (Or.inl zk_108)⟩
theorem zl_Statements_26 : za_fd zR_Statements 26 7 2 (.int) false := ⟨zR_Statements, zT_Statements, 6, zt_Statements, rfl, by decide, zi_Statements, rfl, by decide +kernel, zto_Statements, ztn_Statements, rfl, (Or.inl zk_77)⟩
theorem zl_Statements_19 : za_fd zR_Statements 19 7 4 (.array (.int)) true := ⟨zR_Statements, zT_Statements, 6, zt_Statements, rfl, by decide, zi_Statements, rfl, by decide +kernel, zto_Statements, ztn_Statements, rfl, (Or.inl zk_82)⟩
theorem zl_Statements_9 : za_fd zR_Statements 9 7 0 (.int) true := ⟨zR_Statements, zT_Statements, 6, zt_Statements, rfl, by decide, zi_Statements, rfl, by decide +kernel, zto_Statements, ztn_Statements, rfl, (Or.inl zk_75)⟩
theorem zl_Agreement_33 : za_fd zR_Agreement 33 1 3 (.object "TrustLedger$Statements") true := ⟨zR_Agreement, zT_Agreement, 11, zt_Agreement, rfl, by decide, zi_Agreement, rfl, by decide +kernel, zto_Agreement, ztn_Agreement, rfl, (Or.inl zk_105)⟩
theorem zl_Agreement_69 : za_fd zR_Agreement 69 7 4 (.array (.int)) true := ⟨zR_Statements, zT_Statements, 6, zt_Statements, rfl, by decide, zi_Statements, rfl, by decide +kernel, zto_Statements, ztn_Statements, rfl, (Or.inr ⟨_, zn_83⟩)⟩
theorem zl_Agreement_131 : za_fd zR_Agreement 131 7 3 (.int) false := ⟨zR_Statements, zT_Statements, 6, zt_Statements, rfl, by decide, zi_Statements, rfl, by decide +kernel, zto_Statements, ztn_Statements, rfl, (Or.inr ⟨_, zn_80⟩)⟩
theorem zl_Statements_23 : za_fd zR_Statements 23 7 5 (.array (.int)) true := ⟨zR_Statements, zT_Statements, 6, zt_Statements, rfl, by decide, zi_Statements, rfl, by decide +kernel, zto_Statements, ztn_Statements, rfl, (Or.inl zk_85)⟩
theorem zl_Statements_15 : za_fd zR_Statements 15 7 1 (.object "TrustLedger$Quorums") true := ⟨zR_Statements, zT_Statements, 6, zt_Statements, rfl, by decide, zi_Statements, rfl, by decide +kernel, zto_Statements, ztn_Statements, rfl, (Or.inl zk_76)⟩
theorem zl_Statements_42 : za_fd zR_Statements 42 6 0 (.array (.object "TrustLedger$Trust")) true := ⟨zR_Quorums, zT_Quorums, 1, zt_Quorums, rfl, by decide, zi_Quorums, rfl, by decide +kernel, zto_Quorums, ztn_Quorums, rfl, (Or.inr ⟨_, zn_51⟩)⟩
theorem zl_Statements_52 : za_fd zR_Statements 52 7 3 (.int) false := ⟨zR_Statements, zT_Statements, 6, zt_Statements, rfl, by decide, zi_Statements, rfl, by decide +kernel, zto_Statements, ztn_Statements, rfl, (Or.inl zk_79)⟩
theorem zl_Agreement_37 : za_fd zR_Agreement 37 1 4 (.object "TrustLedger$Statements") true := ⟨zR_Agreement, zT_Agreement, 11, zt_Agreement, rfl, by decide, zi_Agreement, rfl, by decide +kernel, zto_Agreement, ztn_Agreement, rfl, (Or.inl zk_106)⟩
theorem zl_Agreement_49 : za_fd zR_Agreement 49 1 9 (.int) false := ⟨zR_Agreement, zT_Agreement, 11, zt_Agreement, rfl, by decide, zi_Agreement, rfl, by decide +kernel, zto_Agreement, ztn_Agreement, rfl, (Or.inl zk_113)⟩
theorem zl_Agreement_40 : za_fd zR_Agreement 40 1 5 (.object "TrustLedger$Statements") true := ⟨zR_Agreement, zT_Agreement, 11, zt_Agreement, rfl, by decide, zi_Agreement, rfl, by decide +kernel, zto_Agreement, ztn_Agreement, rfl, (Or.inl zk_107)⟩
theorem zl_Agreement_79 : za_fd zR_Agreement 79 7 5 (.array (.int)) true := ⟨zR_Statements, zT_Statements, 6, zt_Statements, rfl, by decide, zi_Statements, rfl, by decide +kernel, zto_Statements, ztn_Statements, rfl, (Or.inr ⟨_, zn_86⟩)⟩
theorem zl_Agreement_83 : za_fd zR_Agreement 83 1 10 (.int) false := ⟨zR_Agreement, zT_Agreement, 11, zt_Agreement, rfl, by decide, zi_Agreement, rfl, by decide +kernel, zto_Agreement, ztn_Agreement, rfl, (Or.inl zk_115)⟩
theorem zl_Offer_21 : za_fd zR_Offer 21 5 3 (.int) false := ⟨zR_Offer, zT_Offer, 4, zt_Offer, rfl, by decide, zi_Offer, rfl, by decide +kernel, zto_Offer, ztn_Offer, rfl, (Or.inl zk_406)⟩
theorem zl_Offer_15 : za_fd zR_Offer 15 5 1 (.int) true := ⟨zR_Offer, zT_Offer, 4, zt_Offer, rfl, by decide, zi_Offer, rfl, by decide +kernel, zto_Offer, ztn_Offer, rfl, (Or.inl zk_400)⟩
theorem zl_Offer_18 : za_fd zR_Offer 18 5 2 (.int) true := ⟨zR_Offer, zT_Offer, 4, zt_Offer, rfl, by decide, zi_Offer, rfl, by decide +kernel, zto_Offer, ztn_Offer, rfl, (Or.inl zk_403)⟩
theorem zl_Ledger_72 : za_fd zR_Ledger 72 5 2 (.int) true := ⟨zR_Offer, zT_Offer, 4, zt_Offer, rfl, by decide, zi_Offer, rfl, by decide +kernel, zto_Offer, ztn_Offer, rfl, (Or.inr ⟨_, zn_404⟩)⟩
theorem zl_Ledger_20 : za_fd zR_Ledger 20 3 2 (.array (.object "TrustLedger$Offer")) true := ⟨zR_Ledger, zT_Ledger, 4, zt_Ledger, rfl, by decide, zi_Ledger, rfl, by decide +kernel, zto_Ledger, ztn_Ledger, rfl, (Or.inl zk_149)⟩
theorem zl_Ledger_69 : za_fd zR_Ledger 69 5 1 (.int) true := ⟨zR_Offer, zT_Offer, 4, zt_Offer, rfl, by decide, zi_Offer, rfl, by decide +kernel, zto_Offer, ztn_Offer, rfl, (Or.inr ⟨_, zn_401⟩)⟩
theorem zl_Ledger_87 : za_fd zR_Ledger 87 5 0 (.int) true := ⟨zR_Offer, zT_Offer, 4, zt_Offer, rfl, by decide, zi_Offer, rfl, by decide +kernel, zto_Offer, ztn_Offer, rfl, (Or.inr ⟨_, zn_398⟩)⟩
theorem zl_Ledger_66 : za_fd zR_Ledger 66 3 3 (.int) false := ⟨zR_Ledger, zT_Ledger, 4, zt_Ledger, rfl, by decide, zi_Ledger, rfl, by decide +kernel, zto_Ledger, ztn_Ledger, rfl, (Or.inl zk_151)⟩
theorem zl_Ledger_57 : za_fd zR_Ledger 57 5 3 (.int) false := ⟨zR_Offer, zT_Offer, 4, zt_Offer, rfl, by decide, zi_Offer, rfl, by decide +kernel, zto_Offer, ztn_Offer, rfl, (Or.inr ⟨_, zn_407⟩)⟩
theorem zl_Ledger_24 : za_fd zR_Ledger 24 8 1 (.int) true := ⟨zR_Transaction, zT_Transaction, 5, zt_Transaction, rfl, by decide, zi_Transaction, rfl, by decide +kernel, zto_Transaction, ztn_Transaction, rfl, (Or.inr ⟨_, zn_235⟩)⟩
theorem zl_Ledger_30 : za_fd zR_Ledger 30 8 0 (.int) true := ⟨zR_Transaction, zT_Transaction, 5, zt_Transaction, rfl, by decide, zi_Transaction, rfl, by decide +kernel, zto_Transaction, ztn_Transaction, rfl, (Or.inr ⟨_, zn_233⟩)⟩
theorem zl_Ledger_33 : za_fd zR_Ledger 33 8 2 (.int) true := ⟨zR_Transaction, zT_Transaction, 5, zt_Transaction, rfl, by decide, zi_Transaction, rfl, by decide +kernel, zto_Transaction, ztn_Transaction, rfl, (Or.inr ⟨_, zn_237⟩)⟩
theorem zl_Ledger_39 : za_fd zR_Ledger 39 8 4 (.int) true := ⟨zR_Transaction, zT_Transaction, 5, zt_Transaction, rfl, by decide, zi_Transaction, rfl, by decide +kernel, zto_Transaction, ztn_Transaction, rfl, (Or.inr ⟨_, zn_241⟩)⟩
theorem zl_Ledger_36 : za_fd zR_Ledger 36 8 3 (.int) true := ⟨zR_Transaction, zT_Transaction, 5, zt_Transaction, rfl, by decide, zi_Transaction, rfl, by decide +kernel, zto_Transaction, ztn_Transaction, rfl, (Or.inr ⟨_, zn_239⟩)⟩
theorem zl_TL_161 : za_fd zR_TL 161 4 3 (.int) false := ⟨zR_Node, zT_Node, 4, zt_Node, rfl, by decide, zi_Node, rfl, by decide +kernel, zto_Node, ztn_Node, rfl, (Or.inr ⟨_, zn_166⟩)⟩
theorem zl_TL_164 : za_fd zR_TL 164 4 1 (.object "TrustLedger$Ledger") true := ⟨zR_Node, zT_Node, 4, zt_Node, rfl, by decide, zi_Node, rfl, by decide +kernel, zto_Node, ztn_Node, rfl, (Or.inr ⟨_, zn_164⟩)⟩
theorem zl_TL_75 : za_fd zR_TL 75 4 0 (.array (.object "TrustLedger$Agreement")) true := ⟨zR_Node, zT_Node, 4, zt_Node, rfl, by decide, zi_Node, rfl, by decide +kernel, zto_Node, ztn_Node, rfl, (Or.inr ⟨_, zn_162⟩)⟩
theorem zl_TL_82 : za_fd zR_TL 82 1 6 (.int) false := ⟨zR_Agreement, zT_Agreement, 11, zt_Agreement, rfl, by decide, zi_Agreement, rfl, by decide +kernel, zto_Agreement, ztn_Agreement, rfl, (Or.inr ⟨_, zn_109⟩)⟩
theorem zl_TL_94 : za_fd zR_TL 94 1 10 (.int) false := ⟨zR_Agreement, zT_Agreement, 11, zt_Agreement, rfl, by decide, zi_Agreement, rfl, by decide +kernel, zto_Agreement, ztn_Agreement, rfl, (Or.inr ⟨_, zn_114⟩)⟩
theorem zl_TL_101 : za_fd zR_TL 101 1 7 (.int) false := ⟨zR_Agreement, zT_Agreement, 11, zt_Agreement, rfl, by decide, zi_Agreement, rfl, by decide +kernel, zto_Agreement, ztn_Agreement, rfl, (Or.inr ⟨_, zn_111⟩)⟩
theorem zl_TL_37 : za_fd zR_TL 37 0 4 (.array (.object "TrustLedger$Envelope")) true := ⟨zR_TL, zT_TL, 7, zt_TL, rfl, by decide, zi_TL, rfl, by decide +kernel, zto_TL, ztn_TL, rfl, (Or.inl zk_184)⟩
theorem zl_TL_110 : za_fd zR_TL 110 0 5 (.int) false := ⟨zR_TL, zT_TL, 7, zt_TL, rfl, by decide, zi_TL, rfl, by decide +kernel, zto_TL, ztn_TL, rfl, (Or.inl zk_185)⟩
theorem zl_TL_120 : za_fd zR_TL 120 2 2 (.array (.int)) true := ⟨zR_Envelope, zT_Envelope, 4, zt_Envelope, rfl, by decide, zi_Envelope, rfl, by decide +kernel, zto_Envelope, ztn_Envelope, rfl, (Or.inr ⟨_, zn_486⟩)⟩
theorem zl_TL_124 : za_fd zR_TL 124 7 4 (.array (.int)) true := ⟨zR_Statements, zT_Statements, 6, zt_Statements, rfl, by decide, zi_Statements, rfl, by decide +kernel, zto_Statements, ztn_Statements, rfl, (Or.inr ⟨_, zn_84⟩)⟩
theorem zl_TL_127 : za_fd zR_TL 127 2 3 (.array (.int)) true := ⟨zR_Envelope, zT_Envelope, 4, zt_Envelope, rfl, by decide, zi_Envelope, rfl, by decide +kernel, zto_Envelope, ztn_Envelope, rfl, (Or.inr ⟨_, zn_489⟩)⟩
theorem zl_TL_130 : za_fd zR_TL 130 7 5 (.array (.int)) true := ⟨zR_Statements, zT_Statements, 6, zt_Statements, rfl, by decide, zi_Statements, rfl, by decide +kernel, zto_Statements, ztn_Statements, rfl, (Or.inr ⟨_, zn_87⟩)⟩
theorem zl_Envelope_18 : za_fd zR_Envelope 18 2 2 (.array (.int)) true := ⟨zR_Envelope, zT_Envelope, 4, zt_Envelope, rfl, by decide, zi_Envelope, rfl, by decide +kernel, zto_Envelope, ztn_Envelope, rfl, (Or.inl zk_484)⟩
theorem zl_Envelope_22 : za_fd zR_Envelope 22 2 3 (.array (.int)) true := ⟨zR_Envelope, zT_Envelope, 4, zt_Envelope, rfl, by decide, zi_Envelope, rfl, by decide +kernel, zto_Envelope, ztn_Envelope, rfl, (Or.inl zk_487)⟩
theorem zl_Agreement_73 : za_fd zR_Agreement 73 2 0 (.int) true := ⟨zR_Envelope, zT_Envelope, 4, zt_Envelope, rfl, by decide, zi_Envelope, rfl, by decide +kernel, zto_Envelope, ztn_Envelope, rfl, (Or.inr ⟨_, zn_480⟩)⟩
theorem zl_Agreement_78 : za_fd zR_Agreement 78 2 2 (.array (.int)) true := ⟨zR_Envelope, zT_Envelope, 4, zt_Envelope, rfl, by decide, zi_Envelope, rfl, by decide +kernel, zto_Envelope, ztn_Envelope, rfl, (Or.inr ⟨_, zn_485⟩)⟩
theorem zl_Agreement_82 : za_fd zR_Agreement 82 2 3 (.array (.int)) true := ⟨zR_Envelope, zT_Envelope, 4, zt_Envelope, rfl, by decide, zi_Envelope, rfl, by decide +kernel, zto_Envelope, ztn_Envelope, rfl, (Or.inr ⟨_, zn_488⟩)⟩
theorem zl_TL_143 : za_fd zR_TL 143 2 0 (.int) true := ⟨zR_Envelope, zT_Envelope, 4, zt_Envelope, rfl, by decide, zi_Envelope, rfl, by decide +kernel, zto_Envelope, ztn_Envelope, rfl, (Or.inr ⟨_, zn_481⟩)⟩
theorem zl_TL_146 : za_fd zR_TL 146 2 1 (.int) true := ⟨zR_Envelope, zT_Envelope, 4, zt_Envelope, rfl, by decide, zi_Envelope, rfl, by decide +kernel, zto_Envelope, ztn_Envelope, rfl, (Or.inr ⟨_, zn_483⟩)⟩
theorem zl_TL_158 : za_fd zR_TL 158 7 3 (.int) false := ⟨zR_Statements, zT_Statements, 6, zt_Statements, rfl, by decide, zi_Statements, rfl, by decide +kernel, zto_Statements, ztn_Statements, rfl, (Or.inr ⟨_, zn_81⟩)⟩
theorem zl_TL_155 : za_fd zR_TL 155 7 2 (.int) false := ⟨zR_Statements, zT_Statements, 6, zt_Statements, rfl, by decide, zi_Statements, rfl, by decide +kernel, zto_Statements, ztn_Statements, rfl, (Or.inr ⟨_, zn_78⟩)⟩
theorem zl_TL_174 : za_fd zR_TL 174 3 2 (.array (.object "TrustLedger$Offer")) true := ⟨zR_Ledger, zT_Ledger, 4, zt_Ledger, rfl, by decide, zi_Ledger, rfl, by decide +kernel, zto_Ledger, ztn_Ledger, rfl, (Or.inr ⟨_, zn_150⟩)⟩
theorem zl_TL_178 : za_fd zR_TL 178 5 0 (.int) true := ⟨zR_Offer, zT_Offer, 4, zt_Offer, rfl, by decide, zi_Offer, rfl, by decide +kernel, zto_Offer, ztn_Offer, rfl, (Or.inr ⟨_, zn_399⟩)⟩
theorem zl_TL_183 : za_fd zR_TL 183 5 1 (.int) true := ⟨zR_Offer, zT_Offer, 4, zt_Offer, rfl, by decide, zi_Offer, rfl, by decide +kernel, zto_Offer, ztn_Offer, rfl, (Or.inr ⟨_, zn_402⟩)⟩
theorem zl_TL_186 : za_fd zR_TL 186 5 2 (.int) true := ⟨zR_Offer, zT_Offer, 4, zt_Offer, rfl, by decide, zi_Offer, rfl, by decide +kernel, zto_Offer, ztn_Offer, rfl, (Or.inr ⟨_, zn_405⟩)⟩
theorem zl_TL_189 : za_fd zR_TL 189 5 3 (.int) false := ⟨zR_Offer, zT_Offer, 4, zt_Offer, rfl, by decide, zi_Offer, rfl, by decide +kernel, zto_Offer, ztn_Offer, rfl, (Or.inr ⟨_, zn_408⟩)⟩
theorem zl_Mo_7 : za_fd zR_Mo 7 10 2 (.array (.int)) false := ⟨zR_Mo, zT_Mo, 32, zt_Mo, rfl, by decide, zi_Mo, rfl, by decide +kernel, zto_Mo, ztn_Mo, rfl, (Or.inl zk_579)⟩
theorem zl_Mo_13 : za_fd zR_Mo 13 10 3 (.array (.int)) false := ⟨zR_Mo, zT_Mo, 32, zt_Mo, rfl, by decide, zi_Mo, rfl, by decide +kernel, zto_Mo, ztn_Mo, rfl, (Or.inl zk_580)⟩
theorem zl_Mo_19 : za_fd zR_Mo 19 10 5 (.array (.int)) false := ⟨zR_Mo, zT_Mo, 32, zt_Mo, rfl, by decide, zi_Mo, rfl, by decide +kernel, zto_Mo, ztn_Mo, rfl, (Or.inl zk_582)⟩
theorem zl_Mo_16 : za_fd zR_Mo 16 10 4 (.array (.int)) false := ⟨zR_Mo, zT_Mo, 32, zt_Mo, rfl, by decide, zi_Mo, rfl, by decide +kernel, zto_Mo, ztn_Mo, rfl, (Or.inl zk_581)⟩
theorem zl_Mo_22 : za_fd zR_Mo 22 10 6 (.array (.boolean)) false := ⟨zR_Mo, zT_Mo, 32, zt_Mo, rfl, by decide, zi_Mo, rfl, by decide +kernel, zto_Mo, ztn_Mo, rfl, (Or.inl zk_583)⟩
theorem zl_Mo_80 : za_fd zR_Mo 80 10 26 (.array (.int)) false := ⟨zR_Mo, zT_Mo, 32, zt_Mo, rfl, by decide, zi_Mo, rfl, by decide +kernel, zto_Mo, ztn_Mo, rfl, (Or.inl zk_603)⟩
theorem zl_Mo_26 : za_fd zR_Mo 26 10 7 (.array (.int)) false := ⟨zR_Mo, zT_Mo, 32, zt_Mo, rfl, by decide, zi_Mo, rfl, by decide +kernel, zto_Mo, ztn_Mo, rfl, (Or.inl zk_584)⟩
theorem zl_Mo_29 : za_fd zR_Mo 29 10 8 (.array (.int)) false := ⟨zR_Mo, zT_Mo, 32, zt_Mo, rfl, by decide, zi_Mo, rfl, by decide +kernel, zto_Mo, ztn_Mo, rfl, (Or.inl zk_585)⟩
theorem zl_Mo_32 : za_fd zR_Mo 32 10 9 (.array (.int)) false := ⟨zR_Mo, zT_Mo, 32, zt_Mo, rfl, by decide, zi_Mo, rfl, by decide +kernel, zto_Mo, ztn_Mo, rfl, (Or.inl zk_586)⟩
theorem zl_Mo_35 : za_fd zR_Mo 35 10 10 (.array (.int)) false := ⟨zR_Mo, zT_Mo, 32, zt_Mo, rfl, by decide, zi_Mo, rfl, by decide +kernel, zto_Mo, ztn_Mo, rfl, (Or.inl zk_587)⟩
theorem zl_Mo_38 : za_fd zR_Mo 38 10 11 (.array (.int)) false := ⟨zR_Mo, zT_Mo, 32, zt_Mo, rfl, by decide, zi_Mo, rfl, by decide +kernel, zto_Mo, ztn_Mo, rfl, (Or.inl zk_588)⟩
theorem zl_Mo_41 : za_fd zR_Mo 41 10 12 (.array (.int)) false := ⟨zR_Mo, zT_Mo, 32, zt_Mo, rfl, by decide, zi_Mo, rfl, by decide +kernel, zto_Mo, ztn_Mo, rfl, (Or.inl zk_589)⟩
theorem zl_Mo_44 : za_fd zR_Mo 44 10 13 (.array (.int)) false := ⟨zR_Mo, zT_Mo, 32, zt_Mo, rfl, by decide, zi_Mo, rfl, by decide +kernel, zto_Mo, ztn_Mo, rfl, (Or.inl zk_590)⟩
theorem zl_Mo_47 : za_fd zR_Mo 47 10 14 (.array (.int)) false := ⟨zR_Mo, zT_Mo, 32, zt_Mo, rfl, by decide, zi_Mo, rfl, by decide +kernel, zto_Mo, ztn_Mo, rfl, (Or.inl zk_591)⟩
theorem zl_Mo_50 : za_fd zR_Mo 50 10 15 (.array (.int)) false := ⟨zR_Mo, zT_Mo, 32, zt_Mo, rfl, by decide, zi_Mo, rfl, by decide +kernel, zto_Mo, ztn_Mo, rfl, (Or.inl zk_592)⟩
theorem zl_Mo_53 : za_fd zR_Mo 53 10 17 (.array (.int)) false := ⟨zR_Mo, zT_Mo, 32, zt_Mo, rfl, by decide, zi_Mo, rfl, by decide +kernel, zto_Mo, ztn_Mo, rfl, (Or.inl zk_594)⟩
theorem zl_Mo_56 : za_fd zR_Mo 56 10 18 (.array (.int)) false := ⟨zR_Mo, zT_Mo, 32, zt_Mo, rfl, by decide, zi_Mo, rfl, by decide +kernel, zto_Mo, ztn_Mo, rfl, (Or.inl zk_595)⟩
theorem zl_Mo_59 : za_fd zR_Mo 59 10 19 (.array (.int)) false := ⟨zR_Mo, zT_Mo, 32, zt_Mo, rfl, by decide, zi_Mo, rfl, by decide +kernel, zto_Mo, ztn_Mo, rfl, (Or.inl zk_596)⟩
theorem zl_Mo_62 : za_fd zR_Mo 62 10 20 (.array (.boolean)) false := ⟨zR_Mo, zT_Mo, 32, zt_Mo, rfl, by decide, zi_Mo, rfl, by decide +kernel, zto_Mo, ztn_Mo, rfl, (Or.inl zk_597)⟩
theorem zl_Mo_65 : za_fd zR_Mo 65 10 21 (.array (.int)) false := ⟨zR_Mo, zT_Mo, 32, zt_Mo, rfl, by decide, zi_Mo, rfl, by decide +kernel, zto_Mo, ztn_Mo, rfl, (Or.inl zk_598)⟩
theorem zl_Mo_68 : za_fd zR_Mo 68 10 22 (.array (.int)) false := ⟨zR_Mo, zT_Mo, 32, zt_Mo, rfl, by decide, zi_Mo, rfl, by decide +kernel, zto_Mo, ztn_Mo, rfl, (Or.inl zk_599)⟩
theorem zl_Mo_71 : za_fd zR_Mo 71 10 23 (.array (.int)) false := ⟨zR_Mo, zT_Mo, 32, zt_Mo, rfl, by decide, zi_Mo, rfl, by decide +kernel, zto_Mo, ztn_Mo, rfl, (Or.inl zk_600)⟩
theorem zl_Mo_74 : za_fd zR_Mo 74 10 24 (.array (.int)) false := ⟨zR_Mo, zT_Mo, 32, zt_Mo, rfl, by decide, zi_Mo, rfl, by decide +kernel, zto_Mo, ztn_Mo, rfl, (Or.inl zk_601)⟩
theorem zl_Mo_77 : za_fd zR_Mo 77 10 25 (.array (.int)) false := ⟨zR_Mo, zT_Mo, 32, zt_Mo, rfl, by decide, zi_Mo, rfl, by decide +kernel, zto_Mo, ztn_Mo, rfl, (Or.inl zk_602)⟩
theorem zl_Mo_83 : za_fd zR_Mo 83 10 27 (.array (.int)) false := ⟨zR_Mo, zT_Mo, 32, zt_Mo, rfl, by decide, zi_Mo, rfl, by decide +kernel, zto_Mo, ztn_Mo, rfl, (Or.inl zk_604)⟩
theorem zl_Mo_86 : za_fd zR_Mo 86 10 28 (.array (.int)) false := ⟨zR_Mo, zT_Mo, 32, zt_Mo, rfl, by decide, zi_Mo, rfl, by decide +kernel, zto_Mo, ztn_Mo, rfl, (Or.inl zk_605)⟩
theorem zl_Mo_89 : za_fd zR_Mo 89 10 29 (.array (.int)) false := ⟨zR_Mo, zT_Mo, 32, zt_Mo, rfl, by decide, zi_Mo, rfl, by decide +kernel, zto_Mo, ztn_Mo, rfl, (Or.inl zk_606)⟩
theorem zl_Mo_92 : za_fd zR_Mo 92 10 30 (.array (.int)) false := ⟨zR_Mo, zT_Mo, 32, zt_Mo, rfl, by decide, zi_Mo, rfl, by decide +kernel, zto_Mo, ztn_Mo, rfl, (Or.inl zk_607)⟩
theorem zl_Mo_95 : za_fd zR_Mo 95 10 31 (.array (.int)) false := ⟨zR_Mo, zT_Mo, 32, zt_Mo, rfl, by decide, zi_Mo, rfl, by decide +kernel, zto_Mo, ztn_Mo, rfl, (Or.inl zk_608)⟩
theorem zl_Mo_98 : za_fd zR_Mo 98 10 0 (.int) false := ⟨zR_Mo, zT_Mo, 32, zt_Mo, rfl, by decide, zi_Mo, rfl, by decide +kernel, zto_Mo, ztn_Mo, rfl, (Or.inl zk_577)⟩
theorem zl_Mo_117 : za_fd zR_Mo 117 10 1 (.boolean) false := ⟨zR_Mo, zT_Mo, 32, zt_Mo, rfl, by decide, zi_Mo, rfl, by decide +kernel, zto_Mo, ztn_Mo, rfl, (Or.inl zk_578)⟩
theorem zl_Mo_200 : za_fd zR_Mo 200 10 16 (.int) false := ⟨zR_Mo, zT_Mo, 32, zt_Mo, rfl, by decide, zi_Mo, rfl, by decide +kernel, zto_Mo, ztn_Mo, rfl, (Or.inl zk_593)⟩
theorem zq_Quorums_11 : za_ff zR_Quorums 11 6 0 (.array (.object "TrustLedger$Trust")) := ⟨zT_Quorums, 1, zt_Quorums, rfl, by decide, zi_Quorums, rfl, by decide +kernel, zto_Quorums, ztn_Quorums, rfl, zk_48⟩
theorem zq_Statements_9 : za_ff zR_Statements 9 7 0 (.int) := ⟨zT_Statements, 6, zt_Statements, rfl, by decide, zi_Statements, rfl, by decide +kernel, zto_Statements, ztn_Statements, rfl, zk_75⟩
theorem zq_Statements_15 : za_ff zR_Statements 15 7 1 (.object "TrustLedger$Quorums") := ⟨zT_Statements, 6, zt_Statements, rfl, by decide, zi_Statements, rfl, by decide +kernel, zto_Statements, ztn_Statements, rfl, zk_76⟩
theorem zq_Statements_19 : za_ff zR_Statements 19 7 4 (.array (.int)) := ⟨zT_Statements, 6, zt_Statements, rfl, by decide, zi_Statements, rfl, by decide +kernel, zto_Statements, ztn_Statements, rfl, zk_82⟩
theorem zq_Statements_23 : za_ff zR_Statements 23 7 5 (.array (.int)) := ⟨zT_Statements, 6, zt_Statements, rfl, by decide, zi_Statements, rfl, by decide +kernel, zto_Statements, ztn_Statements, rfl, zk_85⟩
theorem zq_Agreement_9 : za_ff zR_Agreement 9 1 0 (.int) := ⟨zT_Agreement, 11, zt_Agreement, rfl, by decide, zi_Agreement, rfl, by decide +kernel, zto_Agreement, ztn_Agreement, rfl, zk_102⟩
theorem zq_Agreement_15 : za_ff zR_Agreement 15 1 1 (.int) := ⟨zT_Agreement, 11, zt_Agreement, rfl, by decide, zi_Agreement, rfl, by decide +kernel, zto_Agreement, ztn_Agreement, rfl, zk_103⟩
theorem zq_Agreement_24 : za_ff zR_Agreement 24 1 2 (.object "TrustLedger$Trust") := ⟨zT_Agreement, 11, zt_Agreement, rfl, by decide, zi_Agreement, rfl, by decide +kernel, zto_Agreement, ztn_Agreement, rfl, zk_104⟩
theorem zq_Agreement_33 : za_ff zR_Agreement 33 1 3 (.object "TrustLedger$Statements") := ⟨zT_Agreement, 11, zt_Agreement, rfl, by decide, zi_Agreement, rfl, by decide +kernel, zto_Agreement, ztn_Agreement, rfl, zk_105⟩
theorem zq_Agreement_37 : za_ff zR_Agreement 37 1 4 (.object "TrustLedger$Statements") := ⟨zT_Agreement, 11, zt_Agreement, rfl, by decide, zi_Agreement, rfl, by decide +kernel, zto_Agreement, ztn_Agreement, rfl, zk_106⟩
theorem zq_Agreement_40 : za_ff zR_Agreement 40 1 5 (.object "TrustLedger$Statements") := ⟨zT_Agreement, 11, zt_Agreement, rfl, by decide, zi_Agreement, rfl, by decide +kernel, zto_Agreement, ztn_Agreement, rfl, zk_107⟩
theorem zq_Ledger_20 : za_ff zR_Ledger 20 3 2 (.array (.object "TrustLedger$Offer")) := ⟨zT_Ledger, 4, zt_Ledger, rfl, by decide, zi_Ledger, rfl, by decide +kernel, zto_Ledger, ztn_Ledger, rfl, zk_149⟩
theorem zq_Ledger_9 : za_ff zR_Ledger 9 3 0 (.array (.int)) := ⟨zT_Ledger, 4, zt_Ledger, rfl, by decide, zi_Ledger, rfl, by decide +kernel, zto_Ledger, ztn_Ledger, rfl, zk_147⟩
theorem zq_Ledger_15 : za_ff zR_Ledger 15 3 1 (.array (.int)) := ⟨zT_Ledger, 4, zt_Ledger, rfl, by decide, zi_Ledger, rfl, by decide +kernel, zto_Ledger, ztn_Ledger, rfl, zk_148⟩
theorem zq_Node_23 : za_ff zR_Node 23 4 1 (.object "TrustLedger$Ledger") := ⟨zT_Node, 4, zt_Node, rfl, by decide, zi_Node, rfl, by decide +kernel, zto_Node, ztn_Node, rfl, zk_163⟩
theorem zq_Node_11 : za_ff zR_Node 11 4 0 (.array (.object "TrustLedger$Agreement")) := ⟨zT_Node, 4, zt_Node, rfl, by decide, zi_Node, rfl, by decide +kernel, zto_Node, ztn_Node, rfl, zk_161⟩
theorem zq_TL_31 : za_ff zR_TL 31 0 3 (.array (.object "TrustLedger$Transaction")) := ⟨zT_TL, 7, zt_TL, rfl, by decide, zi_TL, rfl, by decide +kernel, zto_TL, ztn_TL, rfl, zk_183⟩
theorem zq_TL_37 : za_ff zR_TL 37 0 4 (.array (.object "TrustLedger$Envelope")) := ⟨zT_TL, 7, zt_TL, rfl, by decide, zi_TL, rfl, by decide +kernel, zto_TL, ztn_TL, rfl, zk_184⟩
theorem zq_TL_9 : za_ff zR_TL 9 0 0 (.int) := ⟨zT_TL, 7, zt_TL, rfl, by decide, zi_TL, rfl, by decide +kernel, zto_TL, ztn_TL, rfl, zk_180⟩
theorem zq_TL_16 : za_ff zR_TL 16 0 1 (.object "TrustLedger$Quorums") := ⟨zT_TL, 7, zt_TL, rfl, by decide, zi_TL, rfl, by decide +kernel, zto_TL, ztn_TL, rfl, zk_181⟩
theorem zq_TL_22 : za_ff zR_TL 22 0 2 (.array (.object "TrustLedger$Node")) := ⟨zT_TL, 7, zt_TL, rfl, by decide, zi_TL, rfl, by decide +kernel, zto_TL, ztn_TL, rfl, zk_182⟩
theorem zq_Transaction_7 : za_ff zR_Transaction 7 8 0 (.int) := ⟨zT_Transaction, 5, zt_Transaction, rfl, by decide, zi_Transaction, rfl, by decide +kernel, zto_Transaction, ztn_Transaction, rfl, zk_232⟩
theorem zq_Transaction_13 : za_ff zR_Transaction 13 8 1 (.int) := ⟨zT_Transaction, 5, zt_Transaction, rfl, by decide, zi_Transaction, rfl, by decide +kernel, zto_Transaction, ztn_Transaction, rfl, zk_234⟩
theorem zq_Transaction_16 : za_ff zR_Transaction 16 8 2 (.int) := ⟨zT_Transaction, 5, zt_Transaction, rfl, by decide, zi_Transaction, rfl, by decide +kernel, zto_Transaction, ztn_Transaction, rfl, zk_236⟩
theorem zq_Transaction_19 : za_ff zR_Transaction 19 8 3 (.int) := ⟨zT_Transaction, 5, zt_Transaction, rfl, by decide, zi_Transaction, rfl, by decide +kernel, zto_Transaction, ztn_Transaction, rfl, zk_238⟩
theorem zq_Transaction_22 : za_ff zR_Transaction 22 8 4 (.int) := ⟨zT_Transaction, 5, zt_Transaction, rfl, by decide, zi_Transaction, rfl, by decide +kernel, zto_Transaction, ztn_Transaction, rfl, zk_240⟩
theorem zq_Offer_9 : za_ff zR_Offer 9 5 0 (.int) := ⟨zT_Offer, 4, zt_Offer, rfl, by decide, zi_Offer, rfl, by decide +kernel, zto_Offer, ztn_Offer, rfl, zk_397⟩
theorem zq_Offer_15 : za_ff zR_Offer 15 5 1 (.int) := ⟨zT_Offer, 4, zt_Offer, rfl, by decide, zi_Offer, rfl, by decide +kernel, zto_Offer, ztn_Offer, rfl, zk_400⟩
theorem zq_Offer_18 : za_ff zR_Offer 18 5 2 (.int) := ⟨zT_Offer, 4, zt_Offer, rfl, by decide, zi_Offer, rfl, by decide +kernel, zto_Offer, ztn_Offer, rfl, zk_403⟩
theorem zq_Envelope_9 : za_ff zR_Envelope 9 2 0 (.int) := ⟨zT_Envelope, 4, zt_Envelope, rfl, by decide, zi_Envelope, rfl, by decide +kernel, zto_Envelope, ztn_Envelope, rfl, zk_479⟩
theorem zq_Envelope_15 : za_ff zR_Envelope 15 2 1 (.int) := ⟨zT_Envelope, 4, zt_Envelope, rfl, by decide, zi_Envelope, rfl, by decide +kernel, zto_Envelope, ztn_Envelope, rfl, zk_482⟩
theorem zq_Envelope_18 : za_ff zR_Envelope 18 2 2 (.array (.int)) := ⟨zT_Envelope, 4, zt_Envelope, rfl, by decide, zi_Envelope, rfl, by decide +kernel, zto_Envelope, ztn_Envelope, rfl, zk_484⟩
theorem zq_Envelope_22 : za_ff zR_Envelope 22 2 3 (.array (.int)) := ⟨zT_Envelope, 4, zt_Envelope, rfl, by decide, zi_Envelope, rfl, by decide +kernel, zto_Envelope, ztn_Envelope, rfl, zk_487⟩
theorem zw_Quorums_9 : za_nd zR_Quorums 9 9 [.int 0, .int 0, .int 0, .int 0] 4 := ⟨zR_Trust, zT_Trust, zt_Trust, rfl, zi_Trust, zto_Trust, zk_28, zk_30, zk_3, by decide +kernel⟩
theorem zw_Agreement_28 : za_nd zR_Agreement 28 7 [.int 0, .null, .int 0, .int 0, .null, .null] 6 := ⟨zR_Statements, zT_Statements, zt_Statements, rfl, zi_Statements, zto_Statements, zk_69, zk_70, zk_6, by decide +kernel⟩
theorem zw_Node_20 : za_nd zR_Node 20 3 [.null, .null, .null, .int 0] 4 := ⟨zR_Ledger, zT_Ledger, zt_Ledger, rfl, zi_Ledger, zto_Ledger, zk_139, zk_140, zk_7, by decide +kernel⟩
theorem zw_Node_9 : za_nd zR_Node 9 1 [.int 0, .int 0, .null, .null, .null, .null, .int 0, .int 0, .int 0, .int 0, .int 0] 11 := ⟨zR_Agreement, zT_Agreement, zt_Agreement, rfl, zi_Agreement, zto_Agreement, zk_62, zk_64, zk_5, by decide +kernel⟩
theorem zw_TL_20 : za_nd zR_TL 20 4 [.null, .null, .int 0, .int 0] 4 := ⟨zR_Node, zT_Node, zt_Node, rfl, zi_Node, zto_Node, zk_55, zk_57, zk_4, by decide +kernel⟩
theorem zw_TL_13 : za_nd zR_TL 13 6 [.null] 1 := ⟨zR_Quorums, zT_Quorums, zt_Quorums, rfl, zi_Quorums, zto_Quorums, zk_22, zk_23, zk_2, by decide +kernel⟩
theorem zw_TL_29 : za_nd zR_TL 29 8 [.int 0, .int 0, .int 0, .int 0, .int 0] 5 := ⟨zR_Transaction, zT_Transaction, zt_Transaction, rfl, zi_Transaction, zto_Transaction, zk_176, zk_227, zk_9, by decide +kernel⟩
theorem zw_Ledger_18 : za_nd zR_Ledger 18 5 [.int 0, .int 0, .int 0, .int 0] 4 := ⟨zR_Offer, zT_Offer, zt_Offer, rfl, zi_Offer, zto_Offer, zk_145, zk_392, zk_11, by decide +kernel⟩
theorem zw_TL_35 : za_nd zR_TL 35 2 [.int 0, .int 0, .null, .null] 4 := ⟨zR_Envelope, zT_Envelope, zt_Envelope, rfl, zi_Envelope, zto_Envelope, zk_178, zk_474, zk_13, by decide +kernel⟩
theorem zw_Law_7 : za_nd zR_Law 7 0 [.int 0, .null, .null, .null, .null, .int 0, .int 0] 7 := ⟨zR_TL, zT_TL, zt_TL, rfl, zi_TL, zto_TL, zk_14, zk_15, zk_1, by decide +kernel⟩
theorem zw_Law_18 : za_nd zR_Law 18 10 [.int 0, .int 0, .null, .null, .null, .null, .null, .null, .null, .null, .null, .null, .null, .null, .null, .null, .int 0, .null, .null, .null, .null, .null, .null, .null, .null, .null, .null, .null, .null, .null, .null, .null] 32 := ⟨zR_Mo, zT_Mo, zt_Mo, rfl, zi_Mo, zto_Mo, zk_560, zk_561, zk_8, by decide +kernel⟩
theorem zj_Quorums_17 : za_mI zR_Quorums 17 zy_Trust_init zc_Trust_init 1 0 := ⟨⟨zk_33, zk_3, ⟨by decide +kernel, by decide +kernel, by decide +kernel⟩, (Or.inr ⟨_, zn_31⟩)⟩, rfl, zk_32⟩
theorem zj_Agreement_30 : za_mI zR_Agreement 30 zy_Statements_init zc_Statements_init 3 2 := ⟨⟨zk_73, zk_6, ⟨by decide +kernel, by decide +kernel, by decide +kernel⟩, (Or.inl zk_71)⟩, rfl, zk_72⟩
theorem zj_Node_22 : za_mI zR_Node 22 zy_Ledger_init zc_Ledger_init 2 0 := ⟨⟨zk_143, zk_7, ⟨by decide +kernel, by decide +kernel, by decide +kernel⟩, (Or.inl zk_141)⟩, rfl, zk_142⟩
theorem zj_Node_17 : za_mI zR_Node 17 zy_Agreement_init zc_Agreement_init 4 3 := ⟨⟨zk_67, zk_5, ⟨by decide +kernel, by decide +kernel, by decide +kernel⟩, (Or.inl zk_65)⟩, rfl, zk_66⟩
theorem zj_TL_26 : za_mI zR_TL 26 zy_Node_init zc_Node_init 4 2 := ⟨⟨zk_60, zk_4, ⟨by decide +kernel, by decide +kernel, by decide +kernel⟩, (Or.inl zk_58)⟩, rfl, zk_59⟩
theorem zj_TL_15 : za_mI zR_TL 15 zy_Quorums_init zc_Quorums_init 2 0 := ⟨⟨zk_26, zk_2, ⟨by decide +kernel, by decide +kernel, by decide +kernel⟩, (Or.inl zk_24)⟩, rfl, zk_25⟩
theorem zj_TL_53 : za_mV zR_TL 53 zy_Trust_become zc_Trust_become 5 none 4 9 := ⟨⟨zk_212, zk_3, ⟨by decide +kernel, by decide +kernel, by decide +kernel⟩, (Or.inl zk_209)⟩, zk_210, zk_211, _, _, rfl⟩
theorem zj_TL_41 : za_mS zR_TL 41 zy_TL_isWithin zc_TL_isWithin 3 (some .boolean) 3 := ⟨⟨zk_208, zk_1, ⟨by decide +kernel, by decide +kernel, by decide +kernel⟩, (Or.inl zk_206)⟩, zk_207⟩
theorem zj_TL_66 : za_mV zR_TL 66 zy_TL_isLeft zc_TL_isLeft 3 (some .boolean) 1 0 := ⟨⟨zk_226, zk_1, ⟨by decide +kernel, by decide +kernel, by decide +kernel⟩, (Or.inl zk_223)⟩, zk_225, zk_p0, _, _, rfl⟩
theorem zj_TL_69 : za_mI zR_TL 69 zy_Transaction_init zc_Transaction_init 6 5 := ⟨⟨zk_230, zk_9, ⟨by decide +kernel, by decide +kernel, by decide +kernel⟩, (Or.inl zk_228)⟩, rfl, zk_229⟩
theorem zj_TL_59 : za_mS zR_TL 59 zy_TL_isSlot zc_TL_isSlot 1 (some .boolean) 1 := ⟨⟨zk_219, zk_1, ⟨by decide +kernel, by decide +kernel, by decide +kernel⟩, (Or.inl zk_217)⟩, zk_218⟩
theorem zj_TL_63 : za_mS zR_TL 63 zy_TL_isAccount zc_TL_isAccount 1 (some .boolean) 1 := ⟨⟨zk_222, zk_1, ⟨by decide +kernel, by decide +kernel, by decide +kernel⟩, (Or.inl zk_220)⟩, zk_221⟩
theorem zj_TL_135 : za_mS zR_TL 135 zy_TL_has zc_TL_has 2 (some .boolean) 2 := ⟨⟨zk_267, zk_1, ⟨by decide +kernel, by decide +kernel, by decide +kernel⟩, (Or.inl zk_265)⟩, zk_266⟩
theorem zj_TL_107 : za_mV zR_TL 107 zy_TL_isGood zc_TL_isGood 2 (some .boolean) 1 0 := ⟨⟨zk_264, zk_1, ⟨by decide +kernel, by decide +kernel, by decide +kernel⟩, (Or.inl zk_261)⟩, zk_263, zk_p2, _, _, rfl⟩
theorem zj_Agreement_116 : za_mS zR_Agreement 116 zy_TL_has zc_TL_has 2 (some .boolean) 2 := ⟨⟨zk_267, zk_1, ⟨by decide +kernel, by decide +kernel, by decide +kernel⟩, (Or.inr ⟨_, zn_280⟩)⟩, zk_266⟩
theorem zj_Agreement_111 : za_mV zR_Agreement 111 zy_Trust_everyone zc_Trust_everyone 1 (some .int) 0 9 := ⟨⟨zk_279, zk_3, ⟨by decide +kernel, by decide +kernel, by decide +kernel⟩, (Or.inl zk_276)⟩, zk_277, zk_278, _, _, rfl⟩
theorem zj_Agreement_59 : za_mV zR_Agreement 59 zy_Agreement_beginRound zc_Agreement_beginRound 6 none 0 1 := ⟨⟨zk_275, zk_5, ⟨by decide +kernel, by decide +kernel, by decide +kernel⟩, (Or.inl zk_272)⟩, zk_274, zk_p3, _, _, rfl⟩
theorem zj_Statements_29 : za_mS zR_Statements 29 zy_TL_has zc_TL_has 2 (some .boolean) 2 := ⟨⟨zk_267, zk_1, ⟨by decide +kernel, by decide +kernel, by decide +kernel⟩, (Or.inr ⟨_, zn_293⟩)⟩, zk_266⟩
theorem zj_Agreement_127 : za_mV zR_Agreement 127 zy_Statements_vote zc_Statements_vote 2 (some .boolean) 1 7 := ⟨⟨zk_297, zk_6, ⟨by decide +kernel, by decide +kernel, by decide +kernel⟩, (Or.inl zk_294)⟩, zk_295, zk_296, _, _, rfl⟩
theorem zj_Agreement_138 : za_mV zR_Agreement 138 zy_Statements_nodesWith zc_Statements_nodesWith 5 (some .int) 2 7 := ⟨⟨zk_292, zk_6, ⟨by decide +kernel, by decide +kernel, by decide +kernel⟩, (Or.inl zk_289)⟩, zk_290, zk_291, _, _, rfl⟩
theorem zj_Trust_24 : za_mS zR_Trust 24 zy_Int_bitCount zc_Int_bitCount 1 (some .int) 1 := ⟨⟨zk_318, zk_10, ⟨by decide +kernel, by decide +kernel, by decide +kernel⟩, (Or.inl zk_316)⟩, zk_317⟩
theorem zj_Quorums_18 : za_mS zR_Quorums 18 zy_TL_has zc_TL_has 2 (some .boolean) 2 := ⟨⟨zk_267, zk_1, ⟨by decide +kernel, by decide +kernel, by decide +kernel⟩, (Or.inr ⟨_, zn_311⟩)⟩, zk_266⟩
theorem zj_Quorums_22 : za_mV zR_Quorums 22 zy_Trust_isSatisfiedBy zc_Trust_isSatisfiedBy 3 (some .boolean) 1 9 := ⟨⟨zk_315, zk_3, ⟨by decide +kernel, by decide +kernel, by decide +kernel⟩, (Or.inl zk_312)⟩, zk_313, zk_314, _, _, rfl⟩
theorem zj_Trust_30 : za_mV zR_Trust 30 zy_Trust_isSatisfiedBy zc_Trust_isSatisfiedBy 3 (some .boolean) 1 9 := ⟨⟨zk_315, zk_3, ⟨by decide +kernel, by decide +kernel, by decide +kernel⟩, (Or.inl zk_326)⟩, zk_313, zk_314, _, _, rfl⟩
theorem zj_Statements_33 : za_mV zR_Statements 33 zy_Statements_nodesWith zc_Statements_nodesWith 5 (some .int) 2 7 := ⟨⟨zk_292, zk_6, ⟨by decide +kernel, by decide +kernel, by decide +kernel⟩, (Or.inl zk_306)⟩, zk_290, zk_291, _, _, rfl⟩
theorem zj_Statements_46 : za_mV zR_Statements 46 zy_Trust_isBlockedBy zc_Trust_isBlockedBy 2 (some .boolean) 1 9 := ⟨⟨zk_325, zk_3, ⟨by decide +kernel, by decide +kernel, by decide +kernel⟩, (Or.inl zk_322)⟩, zk_323, zk_324, _, _, rfl⟩
theorem zj_Statements_37 : za_mV zR_Statements 37 zy_Quorums_isGivenTo zc_Quorums_isGivenTo 7 (some .boolean) 2 6 := ⟨⟨zk_310, zk_2, ⟨by decide +kernel, by decide +kernel, by decide +kernel⟩, (Or.inl zk_307)⟩, zk_308, zk_309, _, _, rfl⟩
theorem zj_Agreement_142 : za_mV zR_Agreement 142 zy_Statements_acceptIfMay zc_Statements_acceptIfMay 3 (some .boolean) 1 7 := ⟨⟨zk_305, zk_6, ⟨by decide +kernel, by decide +kernel, by decide +kernel⟩, (Or.inl zk_302)⟩, zk_303, zk_304, _, _, rfl⟩
theorem zj_Agreement_145 : za_mV zR_Agreement 145 zy_Statements_confirmIfMay zc_Statements_confirmIfMay 3 (some .boolean) 1 7 := ⟨⟨zk_334, zk_6, ⟨by decide +kernel, by decide +kernel, by decide +kernel⟩, (Or.inl zk_331)⟩, zk_332, zk_333, _, _, rfl⟩
theorem zj_Agreement_52 : za_mV zR_Agreement 52 zy_Agreement_composite zc_Agreement_composite 3 (some .int) 0 1 := ⟨⟨zk_342, zk_5, ⟨by decide +kernel, by decide +kernel, by decide +kernel⟩, (Or.inl zk_339)⟩, zk_341, zk_p8, _, _, rfl⟩
theorem zj_Agreement_134 : za_mS zR_Agreement 134 zy_TL_valueOf zc_TL_valueOf 1 (some .int) 1 := ⟨⟨zk_353, zk_1, ⟨by decide +kernel, by decide +kernel, by decide +kernel⟩, (Or.inr ⟨_, zn_351⟩)⟩, zk_352⟩
theorem zj_Agreement_120 : za_mV zR_Agreement 120 zy_Agreement_valueToPrepare zc_Agreement_valueToPrepare 2 (some .int) 0 1 := ⟨⟨zk_350, zk_5, ⟨by decide +kernel, by decide +kernel, by decide +kernel⟩, (Or.inl zk_347)⟩, zk_349, zk_p10, _, _, rfl⟩
theorem zj_Agreement_123 : za_mS zR_Agreement 123 zy_TL_ballotOf zc_TL_ballotOf 2 (some .int) 2 := ⟨⟨zk_356, zk_1, ⟨by decide +kernel, by decide +kernel, by decide +kernel⟩, (Or.inr ⟨_, zn_354⟩)⟩, zk_355⟩
theorem zj_Agreement_62 : za_mV zR_Agreement 62 zy_Agreement_raiseCounter zc_Agreement_raiseCounter 1 none 0 1 := ⟨⟨zk_346, zk_5, ⟨by decide +kernel, by decide +kernel, by decide +kernel⟩, (Or.inl zk_343)⟩, zk_345, zk_p9, _, _, rfl⟩
theorem zj_TL_193 : za_mS zR_TL 193 zy_TL_otherValued zc_TL_otherValued 1 (some .int) 1 := ⟨⟨zk_366, zk_1, ⟨by decide +kernel, by decide +kernel, by decide +kernel⟩, (Or.inl zk_364)⟩, zk_365⟩
theorem zj_Agreement_148 : za_mS zR_Agreement 148 zy_TL_abortedBy zc_TL_abortedBy 1 (some .int) 1 := ⟨⟨zk_363, zk_1, ⟨by decide +kernel, by decide +kernel, by decide +kernel⟩, (Or.inr ⟨_, zn_361⟩)⟩, zk_362⟩
theorem zj_Agreement_151 : za_mS zR_Agreement 151 zy_TL_abortersOf zc_TL_abortersOf 1 (some .int) 1 := ⟨⟨zk_379, zk_1, ⟨by decide +kernel, by decide +kernel, by decide +kernel⟩, (Or.inr ⟨_, zn_377⟩)⟩, zk_378⟩
theorem zj_Agreement_86 : za_mV zR_Agreement 86 zy_Agreement_voteNominate zc_Agreement_voteNominate 4 (some .boolean) 0 1 := ⟨⟨zk_288, zk_5, ⟨by decide +kernel, by decide +kernel, by decide +kernel⟩, (Or.inl zk_285)⟩, zk_287, zk_p4, _, _, rfl⟩
theorem zj_Agreement_90 : za_mV zR_Agreement 90 zy_Agreement_acceptNominate zc_Agreement_acceptNominate 3 (some .boolean) 0 1 := ⟨⟨zk_301, zk_5, ⟨by decide +kernel, by decide +kernel, by decide +kernel⟩, (Or.inl zk_298)⟩, zk_300, zk_p5, _, _, rfl⟩
theorem zj_Agreement_93 : za_mV zR_Agreement 93 zy_Agreement_confirmNominate zc_Agreement_confirmNominate 3 (some .boolean) 0 1 := ⟨⟨zk_330, zk_5, ⟨by decide +kernel, by decide +kernel, by decide +kernel⟩, (Or.inl zk_327)⟩, zk_329, zk_p6, _, _, rfl⟩
theorem zj_Agreement_96 : za_mV zR_Agreement 96 zy_Agreement_beginPrepare zc_Agreement_beginPrepare 1 (some .boolean) 0 1 := ⟨⟨zk_338, zk_5, ⟨by decide +kernel, by decide +kernel, by decide +kernel⟩, (Or.inl zk_335)⟩, zk_337, zk_p7, _, _, rfl⟩
theorem zj_Agreement_99 : za_mV zR_Agreement 99 zy_Agreement_acceptPrepare zc_Agreement_acceptPrepare 3 (some .boolean) 0 1 := ⟨⟨zk_360, zk_5, ⟨by decide +kernel, by decide +kernel, by decide +kernel⟩, (Or.inl zk_357)⟩, zk_359, zk_p11, _, _, rfl⟩
theorem zj_Agreement_102 : za_mV zR_Agreement 102 zy_Agreement_confirmPrepare zc_Agreement_confirmPrepare 3 (some .boolean) 0 1 := ⟨⟨zk_372, zk_5, ⟨by decide +kernel, by decide +kernel, by decide +kernel⟩, (Or.inl zk_369)⟩, zk_371, zk_p12, _, _, rfl⟩
theorem zj_Agreement_105 : za_mV zR_Agreement 105 zy_Agreement_voteCommit zc_Agreement_voteCommit 3 (some .boolean) 0 1 := ⟨⟨zk_376, zk_5, ⟨by decide +kernel, by decide +kernel, by decide +kernel⟩, (Or.inl zk_373)⟩, zk_375, zk_p13, _, _, rfl⟩
theorem zj_Agreement_108 : za_mV zR_Agreement 108 zy_Agreement_settleCommit zc_Agreement_settleCommit 3 (some .boolean) 0 1 := ⟨⟨zk_383, zk_5, ⟨by decide +kernel, by decide +kernel, by decide +kernel⟩, (Or.inl zk_380)⟩, zk_382, zk_p14, _, _, rfl⟩
theorem zj_Offer_24 : za_mV zR_Offer 24 zy_Offer_sells zc_Offer_sells 1 (some .boolean) 0 5 := ⟨⟨zk_433, zk_11, ⟨by decide +kernel, by decide +kernel, by decide +kernel⟩, (Or.inl zk_430)⟩, zk_431, zk_432, _, _, rfl⟩
theorem zj_Ledger_79 : za_mV zR_Ledger 79 zy_Offer_prefers zc_Offer_prefers 3 (some .boolean) 2 5 := ⟨⟨zk_437, zk_11, ⟨by decide +kernel, by decide +kernel, by decide +kernel⟩, (Or.inl zk_434)⟩, zk_435, zk_436, _, _, rfl⟩
theorem zj_Ledger_75 : za_mV zR_Ledger 75 zy_Offer_agreesTo zc_Offer_agreesTo 2 (some .boolean) 1 5 := ⟨⟨zk_429, zk_11, ⟨by decide +kernel, by decide +kernel, by decide +kernel⟩, (Or.inl zk_426)⟩, zk_427, zk_428, _, _, rfl⟩
theorem zj_Ledger_83 : za_mV zR_Ledger 83 zy_Offer_sells zc_Offer_sells 1 (some .boolean) 0 5 := ⟨⟨zk_433, zk_11, ⟨by decide +kernel, by decide +kernel, by decide +kernel⟩, (Or.inl zk_442)⟩, zk_431, zk_432, _, _, rfl⟩
theorem zj_Ledger_100 : za_mV zR_Ledger 100 zy_Ledger_takeOut zc_Ledger_takeOut 3 none 1 3 := ⟨⟨zk_457, zk_7, ⟨by decide +kernel, by decide +kernel, by decide +kernel⟩, (Or.inl zk_454)⟩, zk_456, zk_p21, _, _, rfl⟩
theorem zj_Ledger_53 : za_mV zR_Ledger 53 zy_Ledger_move zc_Ledger_move 5 none 4 3 := ⟨⟨zk_453, zk_7, ⟨by decide +kernel, by decide +kernel, by decide +kernel⟩, (Or.inl zk_450)⟩, zk_452, zk_p20, _, _, rfl⟩
theorem zj_Ledger_96 : za_mV zR_Ledger 96 zy_Ledger_canServe zc_Ledger_canServe 2 (some .boolean) 1 3 := ⟨⟨zk_449, zk_7, ⟨by decide +kernel, by decide +kernel, by decide +kernel⟩, (Or.inl zk_446)⟩, zk_448, zk_p19, _, _, rfl⟩
theorem zj_Ledger_58 : za_mV zR_Ledger 58 zy_Ledger_bestFor zc_Ledger_bestFor 7 (some .int) 1 3 := ⟨⟨zk_425, zk_7, ⟨by decide +kernel, by decide +kernel, by decide +kernel⟩, (Or.inl zk_422)⟩, zk_424, zk_p17, _, _, rfl⟩
theorem zj_Ledger_62 : za_mV zR_Ledger 62 zy_Ledger_tradeWith zc_Ledger_tradeWith 8 (some .boolean) 2 3 := ⟨⟨zk_441, zk_7, ⟨by decide +kernel, by decide +kernel, by decide +kernel⟩, (Or.inl zk_438)⟩, zk_440, zk_p18, _, _, rfl⟩
theorem zj_Ledger_49 : za_mV zR_Ledger 49 zy_Ledger_holdings zc_Ledger_holdings 2 (some (.array .int)) 1 3 := ⟨⟨zk_461, zk_7, ⟨by decide +kernel, by decide +kernel, by decide +kernel⟩, (Or.inl zk_458)⟩, zk_459, zk_460, _, _, rfl⟩
theorem zj_Ledger_42 : za_mI zR_Ledger 42 zy_Offer_init zc_Offer_init 5 4 := ⟨⟨zk_395, zk_11, ⟨by decide +kernel, by decide +kernel, by decide +kernel⟩, (Or.inl zk_393)⟩, rfl, zk_394⟩
theorem zj_Ledger_45 : za_mV zR_Ledger 45 zy_Ledger_match zc_Ledger_match 5 none 1 3 := ⟨⟨zk_421, zk_7, ⟨by decide +kernel, by decide +kernel, by decide +kernel⟩, (Or.inl zk_418)⟩, zk_420, zk_p16, _, _, rfl⟩
theorem zj_TL_196 : za_mV zR_TL 196 zy_Ledger_carryOut zc_Ledger_carryOut 2 none 1 3 := ⟨⟨zk_391, zk_7, ⟨by decide +kernel, by decide +kernel, by decide +kernel⟩, (Or.inl zk_388)⟩, zk_389, zk_390, _, _, rfl⟩
theorem zj_TL_72 : za_mV zR_TL 72 zy_TL_isAtWork zc_TL_isAtWork 2 (some .boolean) 1 0 := ⟨⟨zk_260, zk_1, ⟨by decide +kernel, by decide +kernel, by decide +kernel⟩, (Or.inl zk_257)⟩, zk_259, zk_p1, _, _, rfl⟩
theorem zj_TL_87 : za_mV zR_TL 87 zy_Agreement_takeProposal zc_Agreement_takeProposal 2 none 1 1 := ⟨⟨zk_271, zk_5, ⟨by decide +kernel, by decide +kernel, by decide +kernel⟩, (Or.inl zk_268)⟩, zk_269, zk_270, _, _, rfl⟩
theorem zj_TL_91 : za_mV zR_TL 91 zy_Agreement_stir zc_Agreement_stir 3 none 0 1 := ⟨⟨zk_284, zk_5, ⟨by decide +kernel, by decide +kernel, by decide +kernel⟩, (Or.inl zk_281)⟩, zk_282, zk_283, _, _, rfl⟩
theorem zj_TL_97 : za_mV zR_TL 97 zy_TL_closeSlot zc_TL_closeSlot 5 none 2 0 := ⟨⟨zk_387, zk_1, ⟨by decide +kernel, by decide +kernel, by decide +kernel⟩, (Or.inl zk_384)⟩, zk_386, zk_p15, _, _, rfl⟩
theorem zj_TL_104 : za_mV zR_TL 104 zy_Agreement_runOutOfTime zc_Agreement_runOutOfTime 1 none 0 1 := ⟨⟨zk_469, zk_5, ⟨by decide +kernel, by decide +kernel, by decide +kernel⟩, (Or.inl zk_466)⟩, zk_467, zk_468, _, _, rfl⟩
theorem zj_TL_131 : za_mV zR_TL 131 zy_TL_keepEnvelope zc_TL_keepEnvelope 2 (some .int) 1 0 := ⟨⟨zk_506, zk_1, ⟨by decide +kernel, by decide +kernel, by decide +kernel⟩, (Or.inl zk_503)⟩, zk_505, zk_p22, _, _, rfl⟩
theorem zj_TL_116 : za_mV zR_TL 116 zy_Agreement_ofKind zc_Agreement_ofKind 2 (some (.object "TrustLedger$Statements")) 1 1 := ⟨⟨zk_502, zk_5, ⟨by decide +kernel, by decide +kernel, by decide +kernel⟩, (Or.inl zk_499)⟩, zk_500, zk_501, _, _, rfl⟩
theorem zj_TL_113 : za_mI zR_TL 113 zy_Envelope_init zc_Envelope_init 3 2 := ⟨⟨zk_477, zk_13, ⟨by decide +kernel, by decide +kernel, by decide +kernel⟩, (Or.inl zk_475)⟩, rfl, zk_476⟩
theorem zj_TL_139 : za_mV zR_TL 139 zy_Envelope_claim zc_Envelope_claim 3 none 2 2 := ⟨⟨zk_514, zk_13, ⟨by decide +kernel, by decide +kernel, by decide +kernel⟩, (Or.inl zk_511)⟩, zk_512, zk_513, _, _, rfl⟩
theorem zj_Agreement_65 : za_mV zR_Agreement 65 zy_Agreement_ofKind zc_Agreement_ofKind 2 (some (.object "TrustLedger$Statements")) 1 1 := ⟨⟨zk_502, zk_5, ⟨by decide +kernel, by decide +kernel, by decide +kernel⟩, (Or.inl zk_523)⟩, zk_500, zk_501, _, _, rfl⟩
theorem zj_TL_147 : za_mV zR_TL 147 zy_Agreement_learn zc_Agreement_learn 4 none 1 1 := ⟨⟨zk_522, zk_5, ⟨by decide +kernel, by decide +kernel, by decide +kernel⟩, (Or.inl zk_519)⟩, zk_520, zk_521, _, _, rfl⟩
theorem zj_TL_151 : za_mV zR_TL 151 zy_Agreement_aspect zc_Agreement_aspect 2 (some .int) 1 1 := ⟨⟨zk_535, zk_5, ⟨by decide +kernel, by decide +kernel, by decide +kernel⟩, (Or.inl zk_532)⟩, zk_533, zk_534, _, _, rfl⟩
theorem zj_TL_168 : za_mV zR_TL 168 zy_Ledger_holdings zc_Ledger_holdings 2 (some (.array .int)) 1 3 := ⟨⟨zk_461, zk_7, ⟨by decide +kernel, by decide +kernel, by decide +kernel⟩, (Or.inl zk_552)⟩, zk_459, zk_460, _, _, rfl⟩
theorem zj_Mo_109 : za_mS zR_Mo 109 zy_Mo_many zc_Mo_many 3 (some .int) 1 := ⟨⟨zk_576, zk_8, ⟨by decide +kernel, by decide +kernel, by decide +kernel⟩, (Or.inl zk_574)⟩, zk_575⟩
theorem zj_Mo_113 : za_mV zR_Mo 113 zy_Mo_satisfies zc_Mo_satisfies 5 (some .boolean) 2 10 := ⟨⟨zk_573, zk_8, ⟨by decide +kernel, by decide +kernel, by decide +kernel⟩, (Or.inl zk_570)⟩, zk_572, zk_p24, _, _, rfl⟩
theorem zj_Mo_102 : za_mV zR_Mo 102 zy_Mo_table zc_Mo_table 3 none 0 10 := ⟨⟨zk_569, zk_8, ⟨by decide +kernel, by decide +kernel, by decide +kernel⟩, (Or.inl zk_566)⟩, zk_568, zk_p23, _, _, rfl⟩
theorem zj_Mo_105 : za_mS zR_Mo 105 zy_Mo_in zc_Mo_in 3 (some .boolean) 3 := ⟨⟨zk_681, zk_8, ⟨by decide +kernel, by decide +kernel, by decide +kernel⟩, (Or.inl zk_679)⟩, zk_680⟩
theorem zj_Mo_121 : za_mV zR_Mo 121 zy_Mo_place zc_Mo_place 4 (some .int) 3 10 := ⟨⟨zk_705, zk_8, ⟨by decide +kernel, by decide +kernel, by decide +kernel⟩, (Or.inl zk_702)⟩, zk_704, zk_p29, _, _, rfl⟩
theorem zj_Mo_125 : za_mV zR_Mo 125 zy_Mo_has zc_Mo_has 5 (some .boolean) 4 10 := ⟨⟨zk_713, zk_8, ⟨by decide +kernel, by decide +kernel, by decide +kernel⟩, (Or.inl zk_710)⟩, zk_712, zk_p31, _, _, rfl⟩
theorem zj_Mo_129 : za_mS zR_Mo 129 zy_Mo_worth zc_Mo_worth 1 (some .int) 1 := ⟨⟨zk_735, zk_8, ⟨by decide +kernel, by decide +kernel, by decide +kernel⟩, (Or.inl zk_733)⟩, zk_734⟩
theorem zj_Mo_132 : za_mS zR_Mo 132 zy_Mo_aborts zc_Mo_aborts 2 (some .boolean) 2 := ⟨⟨zk_732, zk_8, ⟨by decide +kernel, by decide +kernel, by decide +kernel⟩, (Or.inl zk_730)⟩, zk_731⟩
theorem zj_Mo_143 : za_mV zR_Mo 143 zy_Mo_gives zc_Mo_gives 4 (some .boolean) 2 10 := ⟨⟨zk_739, zk_8, ⟨by decide +kernel, by decide +kernel, by decide +kernel⟩, (Or.inl zk_736)⟩, zk_738, zk_p36, _, _, rfl⟩
theorem zj_Mo_139 : za_mV zR_Mo 139 zy_Mo_nodes zc_Mo_nodes 10 (some .int) 4 10 := ⟨⟨zk_709, zk_8, ⟨by decide +kernel, by decide +kernel, by decide +kernel⟩, (Or.inl zk_706)⟩, zk_708, zk_p30, _, _, rfl⟩
theorem zj_Mo_135 : za_mV zR_Mo 135 zy_Mo_clash zc_Mo_clash 8 (some .boolean) 5 10 := ⟨⟨zk_729, zk_8, ⟨by decide +kernel, by decide +kernel, by decide +kernel⟩, (Or.inl zk_726)⟩, zk_728, zk_p35, _, _, rfl⟩
theorem zj_Mo_146 : za_mV zR_Mo 146 zy_Mo_composite zc_Mo_composite 4 (some .int) 1 10 := ⟨⟨zk_755, zk_8, ⟨by decide +kernel, by decide +kernel, by decide +kernel⟩, (Or.inl zk_752)⟩, zk_754, zk_p40, _, _, rfl⟩
theorem zj_Mo_149 : za_mV zR_Mo 149 zy_Mo_toPrepare zc_Mo_toPrepare 3 (some .int) 1 10 := ⟨⟨zk_763, zk_8, ⟨by decide +kernel, by decide +kernel, by decide +kernel⟩, (Or.inl zk_760)⟩, zk_762, zk_p42, _, _, rfl⟩
theorem zj_Mo_152 : za_mV zR_Mo 152 zy_Mo_put zc_Mo_put 7 (some .boolean) 4 10 := ⟨⟨zk_717, zk_8, ⟨by decide +kernel, by decide +kernel, by decide +kernel⟩, (Or.inl zk_714)⟩, zk_716, zk_p32, _, _, rfl⟩
theorem zj_Mo_155 : za_mV zR_Mo 155 zy_Mo_mayAccept zc_Mo_mayAccept 7 (some .boolean) 3 10 := ⟨⟨zk_725, zk_8, ⟨by decide +kernel, by decide +kernel, by decide +kernel⟩, (Or.inl zk_722)⟩, zk_724, zk_p34, _, _, rfl⟩
theorem zj_Mo_158 : za_mV zR_Mo 158 zy_Mo_mayConfirm zc_Mo_mayConfirm 5 (some .boolean) 3 10 := ⟨⟨zk_747, zk_8, ⟨by decide +kernel, by decide +kernel, by decide +kernel⟩, (Or.inl zk_744)⟩, zk_746, zk_p38, _, _, rfl⟩
theorem zj_Mo_161 : za_mV zR_Mo 161 zy_Mo_votePrepare zc_Mo_votePrepare 3 (some .boolean) 1 10 := ⟨⟨zk_759, zk_8, ⟨by decide +kernel, by decide +kernel, by decide +kernel⟩, (Or.inl zk_756)⟩, zk_758, zk_p41, _, _, rfl⟩
theorem zj_Mo_218 : za_mV zR_Mo 218 zy_Mo_remove zc_Mo_remove 4 none 2 10 := ⟨⟨zk_795, zk_8, ⟨by decide +kernel, by decide +kernel, by decide +kernel⟩, (Or.inl zk_792)⟩, zk_794, zk_p50, _, _, rfl⟩
theorem zj_Mo_211 : za_mV zR_Mo 211 zy_Mo_best zc_Mo_best 8 (some .int) 3 10 := ⟨⟨zk_787, zk_8, ⟨by decide +kernel, by decide +kernel, by decide +kernel⟩, (Or.inl zk_784)⟩, zk_786, zk_p48, _, _, rfl⟩
theorem zj_Mo_214 : za_mV zR_Mo 214 zy_Mo_cross zc_Mo_cross 10 (some .int) 4 10 := ⟨⟨zk_791, zk_8, ⟨by decide +kernel, by decide +kernel, by decide +kernel⟩, (Or.inl zk_788)⟩, zk_790, zk_p49, _, _, rfl⟩
theorem zj_Mo_208 : za_mV zR_Mo 208 zy_Mo_trade zc_Mo_trade 9 none 2 10 := ⟨⟨zk_783, zk_8, ⟨by decide +kernel, by decide +kernel, by decide +kernel⟩, (Or.inl zk_780)⟩, zk_782, zk_p47, _, _, rfl⟩
theorem zj_Mo_187 : za_mV zR_Mo 187 zy_Mo_carry zc_Mo_carry 5 none 2 10 := ⟨⟨zk_779, zk_8, ⟨by decide +kernel, by decide +kernel, by decide +kernel⟩, (Or.inl zk_776)⟩, zk_778, zk_p46, _, _, rfl⟩
theorem zj_Mo_168 : za_mV zR_Mo 168 zy_Mo_externalize zc_Mo_externalize 5 none 2 10 := ⟨⟨zk_775, zk_8, ⟨by decide +kernel, by decide +kernel, by decide +kernel⟩, (Or.inl zk_772)⟩, zk_774, zk_p45, _, _, rfl⟩
theorem zj_Mo_165 : za_mV zR_Mo 165 zy_Mo_accept zc_Mo_accept 7 (some .boolean) 4 10 := ⟨⟨zk_721, zk_8, ⟨by decide +kernel, by decide +kernel, by decide +kernel⟩, (Or.inl zk_718)⟩, zk_720, zk_p33, _, _, rfl⟩
theorem zj_Mo_184 : za_mV zR_Mo 184 zy_Mo_ruleH zc_Mo_ruleH 5 (some .int) 1 10 := ⟨⟨zk_771, zk_8, ⟨by decide +kernel, by decide +kernel, by decide +kernel⟩, (Or.inl zk_768)⟩, zk_770, zk_p44, _, _, rfl⟩
theorem zj_Mo_181 : za_mV zR_Mo 181 zy_Mo_ruleG zc_Mo_ruleG 5 (some .boolean) 1 10 := ⟨⟨zk_767, zk_8, ⟨by decide +kernel, by decide +kernel, by decide +kernel⟩, (Or.inl zk_764)⟩, zk_766, zk_p43, _, _, rfl⟩
theorem zj_Mo_175 : za_mV zR_Mo 175 zy_Mo_confirm zc_Mo_confirm 7 (some .boolean) 4 10 := ⟨⟨zk_743, zk_8, ⟨by decide +kernel, by decide +kernel, by decide +kernel⟩, (Or.inl zk_740)⟩, zk_742, zk_p37, _, _, rfl⟩
theorem zj_Mo_178 : za_mV zR_Mo 178 zy_Mo_ruleD zc_Mo_ruleD 2 (some .boolean) 1 10 := ⟨⟨zk_751, zk_8, ⟨by decide +kernel, by decide +kernel, by decide +kernel⟩, (Or.inl zk_748)⟩, zk_750, zk_p39, _, _, rfl⟩
theorem zj_Mo_172 : za_mV zR_Mo 172 zy_Mo_ruleA zc_Mo_ruleA 6 (some .boolean) 1 10 := ⟨⟨zk_701, zk_8, ⟨by decide +kernel, by decide +kernel, by decide +kernel⟩, (Or.inl zk_698)⟩, zk_700, zk_p28, _, _, rfl⟩
theorem zj_Mo_197 : za_mV zR_Mo 197 zy_Mo_stir zc_Mo_stir 5 none 1 10 := ⟨⟨zk_697, zk_8, ⟨by decide +kernel, by decide +kernel, by decide +kernel⟩, (Or.inl zk_694)⟩, zk_696, zk_p27, _, _, rfl⟩
theorem zj_Mo_190 : za_mV zR_Mo 190 zy_Mo_good zc_Mo_good 2 (some .boolean) 1 10 := ⟨⟨zk_689, zk_8, ⟨by decide +kernel, by decide +kernel, by decide +kernel⟩, (Or.inl zk_686)⟩, zk_688, zk_p25, _, _, rfl⟩
theorem zj_Mo_193 : za_mV zR_Mo 193 zy_Mo_newRound zc_Mo_newRound 7 none 1 10 := ⟨⟨zk_693, zk_8, ⟨by decide +kernel, by decide +kernel, by decide +kernel⟩, (Or.inl zk_690)⟩, zk_692, zk_p26, _, _, rfl⟩
theorem zj_Mo_203 : za_mV zR_Mo 203 zy_Mo_sealed zc_Mo_sealed 3 (some .int) 2 10 := ⟨⟨zk_807, zk_8, ⟨by decide +kernel, by decide +kernel, by decide +kernel⟩, (Or.inl zk_804)⟩, zk_806, zk_p51, _, _, rfl⟩
theorem zj_Law_21 : za_mV zR_Law 21 zy_TL_trust zc_TL_trust 7 (some .boolean) 5 0 := ⟨⟨zk_205, zk_1, ⟨by decide +kernel, by decide +kernel, by decide +kernel⟩, (Or.inl zk_202)⟩, zk_203, zk_204, _, _, rfl⟩
theorem zj_Law_25 : za_mV zR_Law 25 zy_Mo_trust zc_Mo_trust 6 (some .boolean) 5 10 := ⟨⟨zk_678, zk_8, ⟨by decide +kernel, by decide +kernel, by decide +kernel⟩, (Or.inl zk_675)⟩, zk_676, zk_677, _, _, rfl⟩
theorem zj_Law_26 : za_mV zR_Law 26 zy_TL_submit zc_TL_submit 10 (some .boolean) 7 0 := ⟨⟨zk_216, zk_1, ⟨by decide +kernel, by decide +kernel, by decide +kernel⟩, (Or.inl zk_213)⟩, zk_214, zk_215, _, _, rfl⟩
theorem zj_Law_30 : za_mV zR_Law 30 zy_Mo_submit zc_Mo_submit 10 (some .boolean) 7 10 := ⟨⟨zk_824, zk_8, ⟨by decide +kernel, by decide +kernel, by decide +kernel⟩, (Or.inl zk_821)⟩, zk_822, zk_823, _, _, rfl⟩
theorem zj_Law_31 : za_mV zR_Law 31 zy_TL_propose zc_TL_propose 4 (some .boolean) 2 0 := ⟨⟨zk_256, zk_1, ⟨by decide +kernel, by decide +kernel, by decide +kernel⟩, (Or.inl zk_253)⟩, zk_254, zk_255, _, _, rfl⟩
theorem zj_Law_35 : za_mV zR_Law 35 zy_Mo_propose zc_Mo_propose 3 (some .boolean) 2 10 := ⟨⟨zk_685, zk_8, ⟨by decide +kernel, by decide +kernel, by decide +kernel⟩, (Or.inl zk_682)⟩, zk_683, zk_684, _, _, rfl⟩
theorem zj_Law_36 : za_mV zR_Law 36 zy_TL_timeout zc_TL_timeout 3 (some .boolean) 1 0 := ⟨⟨zk_465, zk_1, ⟨by decide +kernel, by decide +kernel, by decide +kernel⟩, (Or.inl zk_462)⟩, zk_463, zk_464, _, _, rfl⟩
theorem zj_Law_40 : za_mV zR_Law 40 zy_Mo_timeout zc_Mo_timeout 2 (some .boolean) 1 10 := ⟨⟨zk_799, zk_8, ⟨by decide +kernel, by decide +kernel, by decide +kernel⟩, (Or.inl zk_796)⟩, zk_797, zk_798, _, _, rfl⟩
theorem zj_Law_41 : za_mV zR_Law 41 zy_TL_post zc_TL_post 6 (some .int) 2 0 := ⟨⟨zk_473, zk_1, ⟨by decide +kernel, by decide +kernel, by decide +kernel⟩, (Or.inl zk_470)⟩, zk_471, zk_472, _, _, rfl⟩
theorem zj_Law_45 : za_mV zR_Law 45 zy_Mo_post zc_Mo_post 5 (some .int) 2 10 := ⟨⟨zk_803, zk_8, ⟨by decide +kernel, by decide +kernel, by decide +kernel⟩, (Or.inl zk_800)⟩, zk_801, zk_802, _, _, rfl⟩
theorem zj_Law_46 : za_mV zR_Law 46 zy_TL_forge zc_TL_forge 8 (some .int) 5 0 := ⟨⟨zk_510, zk_1, ⟨by decide +kernel, by decide +kernel, by decide +kernel⟩, (Or.inl zk_507)⟩, zk_508, zk_509, _, _, rfl⟩
theorem zj_Law_50 : za_mV zR_Law 50 zy_Mo_forge zc_Mo_forge 7 (some .int) 5 10 := ⟨⟨zk_811, zk_8, ⟨by decide +kernel, by decide +kernel, by decide +kernel⟩, (Or.inl zk_808)⟩, zk_809, zk_810, _, _, rfl⟩
theorem zj_Law_51 : za_mV zR_Law 51 zy_TL_deliver zc_TL_deliver 5 (some .boolean) 2 0 := ⟨⟨zk_518, zk_1, ⟨by decide +kernel, by decide +kernel, by decide +kernel⟩, (Or.inl zk_515)⟩, zk_516, zk_517, _, _, rfl⟩
theorem zj_Law_54 : za_mV zR_Law 54 zy_Mo_deliver zc_Mo_deliver 5 (some .boolean) 2 10 := ⟨⟨zk_816, zk_8, ⟨by decide +kernel, by decide +kernel, by decide +kernel⟩, (Or.inl zk_813)⟩, zk_814, zk_815, _, _, rfl⟩
theorem zj_Law_55 : za_mV zR_Law 55 zy_TL_envelopes zc_TL_envelopes 1 (some .int) 0 0 := ⟨⟨zk_527, zk_1, ⟨by decide +kernel, by decide +kernel, by decide +kernel⟩, (Or.inl zk_524)⟩, zk_525, zk_526, _, _, rfl⟩
theorem zj_Law_59 : za_mV zR_Law 59 zy_Mo_envelopes zc_Mo_envelopes 1 (some .int) 0 10 := ⟨⟨zk_820, zk_8, ⟨by decide +kernel, by decide +kernel, by decide +kernel⟩, (Or.inl zk_817)⟩, zk_818, zk_819, _, _, rfl⟩
theorem zj_Law_60 : za_mV zR_Law 60 zy_TL_state zc_TL_state 4 (some .int) 2 0 := ⟨⟨zk_531, zk_1, ⟨by decide +kernel, by decide +kernel, by decide +kernel⟩, (Or.inl zk_528)⟩, zk_529, zk_530, _, _, rfl⟩
theorem zj_Law_63 : za_mV zR_Law 63 zy_Mo_state zc_Mo_state 3 (some .int) 2 10 := ⟨⟨zk_828, zk_8, ⟨by decide +kernel, by decide +kernel, by decide +kernel⟩, (Or.inl zk_825)⟩, zk_826, zk_827, _, _, rfl⟩
theorem zj_Law_64 : za_mV zR_Law 64 zy_TL_statements zc_TL_statements 6 (some .int) 4 0 := ⟨⟨zk_539, zk_1, ⟨by decide +kernel, by decide +kernel, by decide +kernel⟩, (Or.inl zk_536)⟩, zk_537, zk_538, _, _, rfl⟩
theorem zj_Law_68 : za_mV zR_Law 68 zy_Mo_statements zc_Mo_statements 5 (some .int) 4 10 := ⟨⟨zk_832, zk_8, ⟨by decide +kernel, by decide +kernel, by decide +kernel⟩, (Or.inl zk_829)⟩, zk_830, zk_831, _, _, rfl⟩
theorem zj_Law_69 : za_mV zR_Law 69 zy_TL_value zc_TL_value 3 (some .int) 2 0 := ⟨⟨zk_543, zk_1, ⟨by decide +kernel, by decide +kernel, by decide +kernel⟩, (Or.inl zk_540)⟩, zk_541, zk_542, _, _, rfl⟩
theorem zj_Law_72 : za_mV zR_Law 72 zy_Mo_value zc_Mo_value 3 (some .int) 2 10 := ⟨⟨zk_836, zk_8, ⟨by decide +kernel, by decide +kernel, by decide +kernel⟩, (Or.inl zk_833)⟩, zk_834, zk_835, _, _, rfl⟩
theorem zj_Law_73 : za_mV zR_Law 73 zy_TL_header zc_TL_header 2 (some .int) 1 0 := ⟨⟨zk_547, zk_1, ⟨by decide +kernel, by decide +kernel, by decide +kernel⟩, (Or.inl zk_544)⟩, zk_545, zk_546, _, _, rfl⟩
theorem zj_Law_77 : za_mV zR_Law 77 zy_Mo_header zc_Mo_header 2 (some .int) 1 10 := ⟨⟨zk_840, zk_8, ⟨by decide +kernel, by decide +kernel, by decide +kernel⟩, (Or.inl zk_837)⟩, zk_838, zk_839, _, _, rfl⟩
theorem zj_Law_78 : za_mV zR_Law 78 zy_TL_balance zc_TL_balance 4 (some .int) 3 0 := ⟨⟨zk_551, zk_1, ⟨by decide +kernel, by decide +kernel, by decide +kernel⟩, (Or.inl zk_548)⟩, zk_549, zk_550, _, _, rfl⟩
theorem zj_Law_82 : za_mV zR_Law 82 zy_Mo_balance zc_Mo_balance 4 (some .int) 3 10 := ⟨⟨zk_844, zk_8, ⟨by decide +kernel, by decide +kernel, by decide +kernel⟩, (Or.inl zk_841)⟩, zk_842, zk_843, _, _, rfl⟩
theorem zj_Law_83 : za_mV zR_Law 83 zy_TL_offer zc_TL_offer 4 (some .int) 2 0 := ⟨⟨zk_556, zk_1, ⟨by decide +kernel, by decide +kernel, by decide +kernel⟩, (Or.inl zk_553)⟩, zk_554, zk_555, _, _, rfl⟩
theorem zj_Law_86 : za_mV zR_Law 86 zy_Mo_offer zc_Mo_offer 4 (some .int) 2 10 := ⟨⟨zk_848, zk_8, ⟨by decide +kernel, by decide +kernel, by decide +kernel⟩, (Or.inl zk_845)⟩, zk_846, zk_847, _, _, rfl⟩
theorem zj_Law_9 : za_mS zR_Law 9 zy_Law_cell zc_Law_cell 2 (some .int) 2 := ⟨⟨zk_559, zk_0, ⟨by decide +kernel, by decide +kernel, by decide +kernel⟩, (Or.inl zk_557)⟩, zk_558⟩
theorem zj_Law_15 : za_mI zR_Law 15 zy_TL_init zc_TL_init 4 1 := ⟨⟨zk_18, zk_1, ⟨by decide +kernel, by decide +kernel, by decide +kernel⟩, (Or.inl zk_16)⟩, rfl, zk_17⟩
theorem zj_Law_20 : za_mI zR_Law 20 zy_Mo_init zc_Mo_init 4 1 := ⟨⟨zk_564, zk_8, ⟨by decide +kernel, by decide +kernel, by decide +kernel⟩, (Or.inl zk_562)⟩, rfl, zk_563⟩
theorem zu_0 : Cond.instantiable zR_TL 7 ∈ za_ws := za_ws_in (List.mem_append_right _ (List.mem_of_getElem? (i := 15) (by decide +kernel))) rfl
theorem zu_1 : Cond.instantiable zR_Agreement 11 ∈ za_ws := za_ws_in (List.mem_append_right _ (List.mem_of_getElem? (i := 64) (by decide +kernel))) rfl
theorem zu_2 : Cond.instantiable zR_Envelope 4 ∈ za_ws := za_ws_in (List.mem_append_right _ (List.mem_of_getElem? (i := 474) (by decide +kernel))) rfl
theorem zu_3 : Cond.instantiable zR_Ledger 4 ∈ za_ws := za_ws_in (List.mem_append_right _ (List.mem_of_getElem? (i := 140) (by decide +kernel))) rfl
theorem zu_4 : Cond.instantiable zR_Node 4 ∈ za_ws := za_ws_in (List.mem_append_right _ (List.mem_of_getElem? (i := 57) (by decide +kernel))) rfl
theorem zu_5 : Cond.instantiable zR_Offer 4 ∈ za_ws := za_ws_in (List.mem_append_right _ (List.mem_of_getElem? (i := 392) (by decide +kernel))) rfl
theorem zu_6 : Cond.instantiable zR_Quorums 1 ∈ za_ws := za_ws_in (List.mem_append_right _ (List.mem_of_getElem? (i := 23) (by decide +kernel))) rfl
theorem zu_7 : Cond.instantiable zR_Statements 6 ∈ za_ws := za_ws_in (List.mem_append_right _ (List.mem_of_getElem? (i := 70) (by decide +kernel))) rfl
theorem zu_8 : Cond.instantiable zR_Transaction 5 ∈ za_ws := za_ws_in (List.mem_append_right _ (List.mem_of_getElem? (i := 227) (by decide +kernel))) rfl
theorem zu_9 : Cond.instantiable zR_Trust 4 ∈ za_ws := za_ws_in (List.mem_append_right _ (List.mem_of_getElem? (i := 30) (by decide +kernel))) rfl
theorem zu_10 : Cond.instantiable zR_Mo 32 ∈ za_ws := za_ws_in (List.mem_append_right _ (List.mem_of_getElem? (i := 561) (by decide +kernel))) rfl
theorem zv_0 : Cond.arrayClass .int ∈ za_ws := za_ws_in (List.mem_append_right _ (List.mem_of_getElem? (i := 101) (by decide +kernel))) rfl
theorem zv_1 : Cond.arrayClass .boolean ∈ za_ws := za_ws_in (List.mem_append_right _ (List.mem_of_getElem? (i := 674) (by decide +kernel))) rfl
theorem zv_2 : Cond.arrayOver (.object "TrustLedger$Agreement") ∈ lw_tbl := List.mem_append_right _ (List.mem_of_getElem? (i := 63) (by decide +kernel))
theorem zv_3 : Cond.arrayOver (.object "TrustLedger$Envelope") ∈ lw_tbl := List.mem_append_right _ (List.mem_of_getElem? (i := 179) (by decide +kernel))
theorem zv_4 : Cond.arrayOver (.object "TrustLedger$Node") ∈ lw_tbl := List.mem_append_right _ (List.mem_of_getElem? (i := 56) (by decide +kernel))
theorem zv_5 : Cond.arrayOver (.object "TrustLedger$Offer") ∈ lw_tbl := List.mem_append_right _ (List.mem_of_getElem? (i := 146) (by decide +kernel))
theorem zv_6 : Cond.arrayOver (.object "TrustLedger$Transaction") ∈ lw_tbl := List.mem_append_right _ (List.mem_of_getElem? (i := 177) (by decide +kernel))
theorem zv_7 : Cond.arrayOver (.object "TrustLedger$Trust") ∈ lw_tbl := List.mem_append_right _ (List.mem_of_getElem? (i := 29) (by decide +kernel))
