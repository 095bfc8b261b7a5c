/-! printed by wip/whole/gen3.py: the law over two worlds; its head is the skeleton's own -/
theorem q332 : Cond.methodLink RL (13) yX7_feed ∈ wsG := inG 332 (by decide +kernel) rfl
theorem q342 : Cond.methodLink RL (18) yX7_contract ∈ wsG := inG 342 (by decide +kernel) rfl
theorem q473 : Cond.methodLink RL (23) yX7_fault ∈ wsG := inG 473 (by decide +kernel) rfl
theorem q477 : Cond.methodLink RL (27) yX7_answer ∈ wsG := inG 477 (by decide +kernel) rfl
theorem q504 : Cond.methodLink RL (32) yX7_forget ∈ wsG := inG 504 (by decide +kernel) rfl
theorem q508 : Cond.methodLink RL (36) yX7_strike ∈ wsG := inG 508 (by decide +kernel) rfl
theorem q534 : Cond.methodLink RL (40) yX7_drift ∈ wsG := inG 534 (by decide +kernel) rfl
theorem q542 : Cond.methodLink RL (44) yX7_undo ∈ wsG := inG 542 (by decide +kernel) rfl
theorem q558 : Cond.methodLink RL (48) yX7_answerOf ∈ wsG := inG 558 (by decide +kernel) rfl
theorem q562 : Cond.methodLink RL (52) yX7_told ∈ wsG := inG 562 (by decide +kernel) rfl
theorem q673 : Cond.methodLink RL (56) yX7_wrong ∈ wsG := inG 673 (by decide +kernel) rfl
theorem q699 : Cond.methodLink RL (60) yX7_clause ∈ wsG := inG 699 (by decide +kernel) rfl
theorem q713 : Cond.methodLink RL (65) yX7_part ∈ wsG := inG 713 (by decide +kernel) rfl
theorem q721 : Cond.methodLink RL (70) yX7_number ∈ wsG := inG 721 (by decide +kernel) rfl
theorem q727 : Cond.methodLink RL (74) yX7_hangs ∈ wsG := inG 727 (by decide +kernel) rfl
theorem q746 : Cond.methodLink RL (78) yX7_term ∈ wsG := inG 746 (by decide +kernel) rfl
theorem q759 : Cond.methodLink RL (82) yX7_by ∈ wsG := inG 759 (by decide +kernel) rfl
theorem q763 : Cond.methodLink RL (86) yX7_sign ∈ wsG := inG 763 (by decide +kernel) rfl
theorem q767 : Cond.methodLink RL (90) yX7_keep ∈ wsG := inG 767 (by decide +kernel) rfl
theorem q774 : Cond.methodLink RL (94) yX7_goBack ∈ wsG := inG 774 (by decide +kernel) rfl
theorem q891 : Cond.methodLink RL (17) yX8_feed ∈ wsG := inG 891 (by decide +kernel) rfl
theorem q900 : Cond.methodLink RL (22) yX8_contract ∈ wsG := inG 900 (by decide +kernel) rfl
theorem q938 : Cond.methodLink RL (26) yX8_fault ∈ wsG := inG 938 (by decide +kernel) rfl
theorem q942 : Cond.methodLink RL (51) yX8_answerOf ∈ wsG := inG 942 (by decide +kernel) rfl
theorem q947 : Cond.methodLink RL (31) yX8_answer ∈ wsG := inG 947 (by decide +kernel) rfl
theorem q957 : Cond.methodLink RL (35) yX8_forget ∈ wsG := inG 957 (by decide +kernel) rfl
theorem q961 : Cond.methodLink RL (39) yX8_strike ∈ wsG := inG 961 (by decide +kernel) rfl
theorem q988 : Cond.methodLink RL (43) yX8_drift ∈ wsG := inG 988 (by decide +kernel) rfl
theorem q997 : Cond.methodLink RL (47) yX8_undo ∈ wsG := inG 997 (by decide +kernel) rfl
theorem q1001 : Cond.methodLink RL (55) yX8_told ∈ wsG := inG 1001 (by decide +kernel) rfl
theorem q1073 : Cond.methodLink RL (59) yX8_wrong ∈ wsG := inG 1073 (by decide +kernel) rfl
theorem q1085 : Cond.methodLink RL (64) yX8_clause ∈ wsG := inG 1085 (by decide +kernel) rfl
theorem q1089 : Cond.methodLink RL (69) yX8_part ∈ wsG := inG 1089 (by decide +kernel) rfl
theorem q1093 : Cond.methodLink RL (73) yX8_number ∈ wsG := inG 1093 (by decide +kernel) rfl
theorem q1097 : Cond.methodLink RL (77) yX8_hangs ∈ wsG := inG 1097 (by decide +kernel) rfl
theorem q1109 : Cond.methodLink RL (81) yX8_term ∈ wsG := inG 1109 (by decide +kernel) rfl
theorem q1113 : Cond.methodLink RL (85) yX8_by ∈ wsG := inG 1113 (by decide +kernel) rfl
theorem q1117 : Cond.methodLink RL (89) yX8_sign_ ∈ wsG := inG 1117 (by decide +kernel) rfl
theorem q1121 : Cond.methodLink RL (93) yX8_keep ∈ wsG := inG 1121 (by decide +kernel) rfl
theorem q1125 : Cond.methodLink RL (97) yX8_goBack ∈ wsG := inG 1125 (by decide +kernel) rfl
def R_law : String := "ContractDeskLaw"
def lw_P (b : Addr) (xs : List Int32) (args : Array Value) (s : State) : Prop := args = #[.ref b] ∧ s.IntsAt b xs ∧ xs.length ≤ 2048 ∧ (Jvm.Cond.and given_1 narrow_1).before args s = true
def lw_Q (_ : Array Value) (s : State) (o : Outcome) (t : State) : Prop := o = .returned (some (.int 1)) ∧ Framed s o t [] 59 5610
def lw_Z (below : List Frame) (a : Array Value) (s : State) : State → Prop := fun t => ∃ o, t.status = .running ∧ Ended t below o ∧ lw_Q a s o t
/-- the law's own end, with 1 on the stack, nothing written that was there before, its room as the claim has it -/
theorem lw_ret {p : Program} {l : Launch} {e : Env} {s : State} {m : MethodId} {below : List Frame} {meth : Method} {c : Code} {b : Nat} (hx : p.tables.exec = Jvm.exec) (hb : c.code = code) (hr : meth.sig.returnType = ret) (hlocks : meth.locks = false) {pc : Nat} {H : Heap} {ls : Array Slot} (hdg : decode code pc = .ok (.ireturn, 1)) : W p l e room_1 s m #[Value.ref b] below meth c H [] 59 5610 (lw_Z below #[Value.ref b] s) (F0 m pc ls [.int 1]) := by
  intro T hT X
  obtain ⟨fs, hret, hrun, hended, hW, hframe⟩ := X.leave (v := some (.int 1)) (hlocks := hlocks) (fun h => by rw [hr] at h; cases h)
  have hmeth' : T.vm.method? m = some meth := X.method'
  refine ⟨T.setFrames fs, ?_, .returned (some (.int 1)), hrun, hended, rfl, ⟨_, rfl⟩, hW, hframe⟩
  jvm_step X.here [X.here.top, hx, hb, hdg, hmeth', hr, ret, narrow_b1]
  (try refine ⟨rfl, ?_⟩); (try refine ⟨rfl, ?_⟩)
  first | (intro acts; rw [hret _ acts rfl rfl rfl]) | rw [hret _ _ rfl rfl rfl]
  exact Steps.refl _
/-- what holds at the law's entry: the machine, the code, the tables' words (any of lw_tbl by 'hts w (by decide +kernel)'), the script of L ints xs at the cell b, what the Statement gives of the start (any of its parts by flat_of_before) -/
def lw_At (p : Program) (s : State) (m : MethodId) (meth : Method) (c : Code) (b L : Nat) (xs : Nat → Int32) : Prop :=
  p.tables.exec = Jvm.exec ∧ c.code = code ∧ meth.sig.returnType = ret ∧ c.maxLocals = 4 ∧ s.vm.findClass R_law = some m.cls ∧ (∀ w ∈ lw_tbl, w.before #[Value.ref b] s = true) ∧ va_X b L xs s s.heap ∧ b < s.heap.size ∧ meth.locks = false ∧ (Jvm.Cond.and given_1 narrow_1).before #[Value.ref b] s = true
theorem dL_law_0 : decode cL_law 0 = .ok (.new 7, 3) := by decide +kernel
theorem dL_law_3 : decode cL_law 3 = .ok (.dup, 1) := by decide +kernel
theorem dL_law_4 : decode cL_law 4 = .ok (.invokespecial 9, 3) := by decide +kernel
theorem dL_law_7 : decode cL_law 7 = .ok (.astore_n 1, 1) := by decide +kernel
theorem dL_law_8 : decode cL_law 8 = .ok (.new 10, 3) := by decide +kernel
theorem dL_law_11 : decode cL_law 11 = .ok (.dup, 1) := by decide +kernel
theorem dL_law_12 : decode cL_law 12 = .ok (.invokespecial 12, 3) := by decide +kernel
theorem dL_law_15 : decode cL_law 15 = .ok (.astore_n 2, 1) := by decide +kernel
theorem dL_law_16 : decode cL_law 16 = .ok (.iconst 0, 1) := by decide +kernel
theorem dL_law_17 : decode cL_law 17 = .ok (.istore_n 3, 1) := by decide +kernel
theorem dL_law_18 : decode cL_law 18 = .ok (.iload_n 3, 1) := by decide +kernel
theorem dL_law_19 : decode cL_law 19 = .ok (.aload_n 0, 1) := by decide +kernel
theorem dL_law_20 : decode cL_law 20 = .ok (.arraylength, 1) := by decide +kernel
theorem dL_law_21 : decode cL_law 21 = .ok (.iconst 4, 1) := by decide +kernel
theorem dL_law_22 : decode cL_law 22 = .ok (.isub, 1) := by decide +kernel
theorem dL_law_23 : decode cL_law 23 = .ok (.if_icmp .gt 663, 3) := by decide +kernel
theorem dL_law_26 : decode cL_law 26 = .ok (.aload_n 0, 1) := by decide +kernel
theorem dL_law_27 : decode cL_law 27 = .ok (.iload_n 3, 1) := by decide +kernel
theorem dL_law_28 : decode cL_law 28 = .ok (.iaload, 1) := by decide +kernel
theorem dL_law_29 : decode cL_law 29 = .ok (.bipush 31, 2) := by decide +kernel
theorem dL_law_31 : decode cL_law 31 = .ok (.iand, 1) := by decide +kernel
theorem dL_law_32 : decode cL_law 32 = .ok (.tableswitch 648 0 19 #[96, 119, 132, 145, 194, 217, 266, 289, 302, 325, 348, 371, 404, 447, 480, 513, 546, 579, 602, 625], 96) := by decide +kernel
theorem dL_law_128 : decode cL_law 128 = .ok (.aload_n 1, 1) := by decide +kernel
theorem dL_law_129 : decode cL_law 129 = .ok (.aload_n 0, 1) := by decide +kernel
theorem dL_law_130 : decode cL_law 130 = .ok (.iload_n 3, 1) := by decide +kernel
theorem dL_law_131 : decode cL_law 131 = .ok (.iconst 1, 1) := by decide +kernel
theorem dL_law_132 : decode cL_law 132 = .ok (.iadd, 1) := by decide +kernel
theorem dL_law_133 : decode cL_law 133 = .ok (.iaload, 1) := by decide +kernel
theorem dL_law_134 : decode cL_law 134 = .ok (.invokevirtual 13, 3) := by decide +kernel
theorem dL_law_137 : decode cL_law 137 = .ok (.aload_n 2, 1) := by decide +kernel
theorem dL_law_138 : decode cL_law 138 = .ok (.aload_n 0, 1) := by decide +kernel
theorem dL_law_139 : decode cL_law 139 = .ok (.iload_n 3, 1) := by decide +kernel
theorem dL_law_140 : decode cL_law 140 = .ok (.iconst 1, 1) := by decide +kernel
theorem dL_law_141 : decode cL_law 141 = .ok (.iadd, 1) := by decide +kernel
theorem dL_law_142 : decode cL_law 142 = .ok (.iaload, 1) := by decide +kernel
theorem dL_law_143 : decode cL_law 143 = .ok (.invokevirtual 17, 3) := by decide +kernel
theorem dL_law_146 : decode cL_law 146 = .ok (.if_icmp .eq 534, 3) := by decide +kernel
theorem dL_law_149 : decode cL_law 149 = .ok (.iconst 0, 1) := by decide +kernel
theorem dL_law_150 : decode cL_law 150 = .ok (.ireturn, 1) := by decide +kernel
theorem dL_law_151 : decode cL_law 151 = .ok (.aload_n 1, 1) := by decide +kernel
theorem dL_law_152 : decode cL_law 152 = .ok (.invokevirtual 18, 3) := by decide +kernel
theorem dL_law_155 : decode cL_law 155 = .ok (.aload_n 2, 1) := by decide +kernel
theorem dL_law_156 : decode cL_law 156 = .ok (.invokevirtual 22, 3) := by decide +kernel
theorem dL_law_159 : decode cL_law 159 = .ok (.if_icmp .eq 521, 3) := by decide +kernel
theorem dL_law_162 : decode cL_law 162 = .ok (.iconst 0, 1) := by decide +kernel
theorem dL_law_163 : decode cL_law 163 = .ok (.ireturn, 1) := by decide +kernel
theorem dL_law_164 : decode cL_law 164 = .ok (.aload_n 1, 1) := by decide +kernel
theorem dL_law_165 : decode cL_law 165 = .ok (.invokevirtual 23, 3) := by decide +kernel
theorem dL_law_168 : decode cL_law 168 = .ok (.aload_n 2, 1) := by decide +kernel
theorem dL_law_169 : decode cL_law 169 = .ok (.invokevirtual 26, 3) := by decide +kernel
theorem dL_law_172 : decode cL_law 172 = .ok (.if_icmp .eq 508, 3) := by decide +kernel
theorem dL_law_175 : decode cL_law 175 = .ok (.iconst 0, 1) := by decide +kernel
theorem dL_law_176 : decode cL_law 176 = .ok (.ireturn, 1) := by decide +kernel
theorem dL_law_177 : decode cL_law 177 = .ok (.aload_n 1, 1) := by decide +kernel
theorem dL_law_178 : decode cL_law 178 = .ok (.aload_n 0, 1) := by decide +kernel
theorem dL_law_179 : decode cL_law 179 = .ok (.iload_n 3, 1) := by decide +kernel
theorem dL_law_180 : decode cL_law 180 = .ok (.iconst 1, 1) := by decide +kernel
theorem dL_law_181 : decode cL_law 181 = .ok (.iadd, 1) := by decide +kernel
theorem dL_law_182 : decode cL_law 182 = .ok (.iaload, 1) := by decide +kernel
theorem dL_law_183 : decode cL_law 183 = .ok (.aload_n 0, 1) := by decide +kernel
theorem dL_law_184 : decode cL_law 184 = .ok (.iload_n 3, 1) := by decide +kernel
theorem dL_law_185 : decode cL_law 185 = .ok (.iconst 2, 1) := by decide +kernel
theorem dL_law_186 : decode cL_law 186 = .ok (.iadd, 1) := by decide +kernel
theorem dL_law_187 : decode cL_law 187 = .ok (.iaload, 1) := by decide +kernel
theorem dL_law_188 : decode cL_law 188 = .ok (.ifCond .eq 7, 3) := by decide +kernel
theorem dL_law_191 : decode cL_law 191 = .ok (.iconst 1, 1) := by decide +kernel
theorem dL_law_192 : decode cL_law 192 = .ok (.goto 4, 3) := by decide +kernel
theorem dL_law_195 : decode cL_law 195 = .ok (.iconst 0, 1) := by decide +kernel
theorem dL_law_196 : decode cL_law 196 = .ok (.invokevirtual 27, 3) := by decide +kernel
theorem dL_law_199 : decode cL_law 199 = .ok (.aload_n 2, 1) := by decide +kernel
theorem dL_law_200 : decode cL_law 200 = .ok (.aload_n 0, 1) := by decide +kernel
theorem dL_law_201 : decode cL_law 201 = .ok (.iload_n 3, 1) := by decide +kernel
theorem dL_law_202 : decode cL_law 202 = .ok (.iconst 1, 1) := by decide +kernel
theorem dL_law_203 : decode cL_law 203 = .ok (.iadd, 1) := by decide +kernel
theorem dL_law_204 : decode cL_law 204 = .ok (.iaload, 1) := by decide +kernel
theorem dL_law_205 : decode cL_law 205 = .ok (.aload_n 0, 1) := by decide +kernel
theorem dL_law_206 : decode cL_law 206 = .ok (.iload_n 3, 1) := by decide +kernel
theorem dL_law_207 : decode cL_law 207 = .ok (.iconst 2, 1) := by decide +kernel
theorem dL_law_208 : decode cL_law 208 = .ok (.iadd, 1) := by decide +kernel
theorem dL_law_209 : decode cL_law 209 = .ok (.iaload, 1) := by decide +kernel
theorem dL_law_210 : decode cL_law 210 = .ok (.ifCond .eq 7, 3) := by decide +kernel
theorem dL_law_213 : decode cL_law 213 = .ok (.iconst 1, 1) := by decide +kernel
theorem dL_law_214 : decode cL_law 214 = .ok (.goto 4, 3) := by decide +kernel
theorem dL_law_217 : decode cL_law 217 = .ok (.iconst 0, 1) := by decide +kernel
theorem dL_law_218 : decode cL_law 218 = .ok (.invokevirtual 31, 3) := by decide +kernel
theorem dL_law_221 : decode cL_law 221 = .ok (.if_icmp .eq 459, 3) := by decide +kernel
theorem dL_law_224 : decode cL_law 224 = .ok (.iconst 0, 1) := by decide +kernel
theorem dL_law_225 : decode cL_law 225 = .ok (.ireturn, 1) := by decide +kernel
theorem dL_law_226 : decode cL_law 226 = .ok (.aload_n 1, 1) := by decide +kernel
theorem dL_law_227 : decode cL_law 227 = .ok (.aload_n 0, 1) := by decide +kernel
theorem dL_law_228 : decode cL_law 228 = .ok (.iload_n 3, 1) := by decide +kernel
theorem dL_law_229 : decode cL_law 229 = .ok (.iconst 1, 1) := by decide +kernel
theorem dL_law_230 : decode cL_law 230 = .ok (.iadd, 1) := by decide +kernel
theorem dL_law_231 : decode cL_law 231 = .ok (.iaload, 1) := by decide +kernel
theorem dL_law_232 : decode cL_law 232 = .ok (.invokevirtual 32, 3) := by decide +kernel
theorem dL_law_235 : decode cL_law 235 = .ok (.aload_n 2, 1) := by decide +kernel
theorem dL_law_236 : decode cL_law 236 = .ok (.aload_n 0, 1) := by decide +kernel
theorem dL_law_237 : decode cL_law 237 = .ok (.iload_n 3, 1) := by decide +kernel
theorem dL_law_238 : decode cL_law 238 = .ok (.iconst 1, 1) := by decide +kernel
theorem dL_law_239 : decode cL_law 239 = .ok (.iadd, 1) := by decide +kernel
theorem dL_law_240 : decode cL_law 240 = .ok (.iaload, 1) := by decide +kernel
theorem dL_law_241 : decode cL_law 241 = .ok (.invokevirtual 35, 3) := by decide +kernel
theorem dL_law_244 : decode cL_law 244 = .ok (.if_icmp .eq 436, 3) := by decide +kernel
theorem dL_law_247 : decode cL_law 247 = .ok (.iconst 0, 1) := by decide +kernel
theorem dL_law_248 : decode cL_law 248 = .ok (.ireturn, 1) := by decide +kernel
theorem dL_law_249 : decode cL_law 249 = .ok (.aload_n 1, 1) := by decide +kernel
theorem dL_law_250 : decode cL_law 250 = .ok (.aload_n 0, 1) := by decide +kernel
theorem dL_law_251 : decode cL_law 251 = .ok (.iload_n 3, 1) := by decide +kernel
theorem dL_law_252 : decode cL_law 252 = .ok (.iconst 1, 1) := by decide +kernel
theorem dL_law_253 : decode cL_law 253 = .ok (.iadd, 1) := by decide +kernel
theorem dL_law_254 : decode cL_law 254 = .ok (.iaload, 1) := by decide +kernel
theorem dL_law_255 : decode cL_law 255 = .ok (.aload_n 0, 1) := by decide +kernel
theorem dL_law_256 : decode cL_law 256 = .ok (.iload_n 3, 1) := by decide +kernel
theorem dL_law_257 : decode cL_law 257 = .ok (.iconst 2, 1) := by decide +kernel
theorem dL_law_258 : decode cL_law 258 = .ok (.iadd, 1) := by decide +kernel
theorem dL_law_259 : decode cL_law 259 = .ok (.iaload, 1) := by decide +kernel
theorem dL_law_260 : decode cL_law 260 = .ok (.ifCond .eq 7, 3) := by decide +kernel
theorem dL_law_263 : decode cL_law 263 = .ok (.iconst 1, 1) := by decide +kernel
theorem dL_law_264 : decode cL_law 264 = .ok (.goto 4, 3) := by decide +kernel
theorem dL_law_267 : decode cL_law 267 = .ok (.iconst 0, 1) := by decide +kernel
theorem dL_law_268 : decode cL_law 268 = .ok (.invokevirtual 36, 3) := by decide +kernel
theorem dL_law_271 : decode cL_law 271 = .ok (.aload_n 2, 1) := by decide +kernel
theorem dL_law_272 : decode cL_law 272 = .ok (.aload_n 0, 1) := by decide +kernel
theorem dL_law_273 : decode cL_law 273 = .ok (.iload_n 3, 1) := by decide +kernel
theorem dL_law_274 : decode cL_law 274 = .ok (.iconst 1, 1) := by decide +kernel
theorem dL_law_275 : decode cL_law 275 = .ok (.iadd, 1) := by decide +kernel
theorem dL_law_276 : decode cL_law 276 = .ok (.iaload, 1) := by decide +kernel
theorem dL_law_277 : decode cL_law 277 = .ok (.aload_n 0, 1) := by decide +kernel
theorem dL_law_278 : decode cL_law 278 = .ok (.iload_n 3, 1) := by decide +kernel
theorem dL_law_279 : decode cL_law 279 = .ok (.iconst 2, 1) := by decide +kernel
theorem dL_law_280 : decode cL_law 280 = .ok (.iadd, 1) := by decide +kernel
theorem dL_law_281 : decode cL_law 281 = .ok (.iaload, 1) := by decide +kernel
theorem dL_law_282 : decode cL_law 282 = .ok (.ifCond .eq 7, 3) := by decide +kernel
theorem dL_law_285 : decode cL_law 285 = .ok (.iconst 1, 1) := by decide +kernel
theorem dL_law_286 : decode cL_law 286 = .ok (.goto 4, 3) := by decide +kernel
theorem dL_law_289 : decode cL_law 289 = .ok (.iconst 0, 1) := by decide +kernel
theorem dL_law_290 : decode cL_law 290 = .ok (.invokevirtual 39, 3) := by decide +kernel
theorem dL_law_293 : decode cL_law 293 = .ok (.if_icmp .eq 387, 3) := by decide +kernel
theorem dL_law_296 : decode cL_law 296 = .ok (.iconst 0, 1) := by decide +kernel
theorem dL_law_297 : decode cL_law 297 = .ok (.ireturn, 1) := by decide +kernel
theorem dL_law_298 : decode cL_law 298 = .ok (.aload_n 1, 1) := by decide +kernel
theorem dL_law_299 : decode cL_law 299 = .ok (.aload_n 0, 1) := by decide +kernel
theorem dL_law_300 : decode cL_law 300 = .ok (.iload_n 3, 1) := by decide +kernel
theorem dL_law_301 : decode cL_law 301 = .ok (.iconst 1, 1) := by decide +kernel
theorem dL_law_302 : decode cL_law 302 = .ok (.iadd, 1) := by decide +kernel
theorem dL_law_303 : decode cL_law 303 = .ok (.iaload, 1) := by decide +kernel
theorem dL_law_304 : decode cL_law 304 = .ok (.invokevirtual 40, 3) := by decide +kernel
theorem dL_law_307 : decode cL_law 307 = .ok (.aload_n 2, 1) := by decide +kernel
theorem dL_law_308 : decode cL_law 308 = .ok (.aload_n 0, 1) := by decide +kernel
theorem dL_law_309 : decode cL_law 309 = .ok (.iload_n 3, 1) := by decide +kernel
theorem dL_law_310 : decode cL_law 310 = .ok (.iconst 1, 1) := by decide +kernel
theorem dL_law_311 : decode cL_law 311 = .ok (.iadd, 1) := by decide +kernel
theorem dL_law_312 : decode cL_law 312 = .ok (.iaload, 1) := by decide +kernel
theorem dL_law_313 : decode cL_law 313 = .ok (.invokevirtual 43, 3) := by decide +kernel
theorem dL_law_316 : decode cL_law 316 = .ok (.if_icmp .eq 364, 3) := by decide +kernel
theorem dL_law_319 : decode cL_law 319 = .ok (.iconst 0, 1) := by decide +kernel
theorem dL_law_320 : decode cL_law 320 = .ok (.ireturn, 1) := by decide +kernel
theorem dL_law_321 : decode cL_law 321 = .ok (.aload_n 1, 1) := by decide +kernel
theorem dL_law_322 : decode cL_law 322 = .ok (.invokevirtual 44, 3) := by decide +kernel
theorem dL_law_325 : decode cL_law 325 = .ok (.aload_n 2, 1) := by decide +kernel
theorem dL_law_326 : decode cL_law 326 = .ok (.invokevirtual 47, 3) := by decide +kernel
theorem dL_law_329 : decode cL_law 329 = .ok (.if_icmp .eq 351, 3) := by decide +kernel
theorem dL_law_332 : decode cL_law 332 = .ok (.iconst 0, 1) := by decide +kernel
theorem dL_law_333 : decode cL_law 333 = .ok (.ireturn, 1) := by decide +kernel
theorem dL_law_334 : decode cL_law 334 = .ok (.aload_n 1, 1) := by decide +kernel
theorem dL_law_335 : decode cL_law 335 = .ok (.aload_n 0, 1) := by decide +kernel
theorem dL_law_336 : decode cL_law 336 = .ok (.iload_n 3, 1) := by decide +kernel
theorem dL_law_337 : decode cL_law 337 = .ok (.iconst 1, 1) := by decide +kernel
theorem dL_law_338 : decode cL_law 338 = .ok (.iadd, 1) := by decide +kernel
theorem dL_law_339 : decode cL_law 339 = .ok (.iaload, 1) := by decide +kernel
theorem dL_law_340 : decode cL_law 340 = .ok (.invokevirtual 48, 3) := by decide +kernel
theorem dL_law_343 : decode cL_law 343 = .ok (.aload_n 2, 1) := by decide +kernel
theorem dL_law_344 : decode cL_law 344 = .ok (.aload_n 0, 1) := by decide +kernel
theorem dL_law_345 : decode cL_law 345 = .ok (.iload_n 3, 1) := by decide +kernel
theorem dL_law_346 : decode cL_law 346 = .ok (.iconst 1, 1) := by decide +kernel
theorem dL_law_347 : decode cL_law 347 = .ok (.iadd, 1) := by decide +kernel
theorem dL_law_348 : decode cL_law 348 = .ok (.iaload, 1) := by decide +kernel
theorem dL_law_349 : decode cL_law 349 = .ok (.invokevirtual 51, 3) := by decide +kernel
theorem dL_law_352 : decode cL_law 352 = .ok (.if_icmp .eq 328, 3) := by decide +kernel
theorem dL_law_355 : decode cL_law 355 = .ok (.iconst 0, 1) := by decide +kernel
theorem dL_law_356 : decode cL_law 356 = .ok (.ireturn, 1) := by decide +kernel
theorem dL_law_357 : decode cL_law 357 = .ok (.aload_n 1, 1) := by decide +kernel
theorem dL_law_358 : decode cL_law 358 = .ok (.aload_n 0, 1) := by decide +kernel
theorem dL_law_359 : decode cL_law 359 = .ok (.iload_n 3, 1) := by decide +kernel
theorem dL_law_360 : decode cL_law 360 = .ok (.iconst 1, 1) := by decide +kernel
theorem dL_law_361 : decode cL_law 361 = .ok (.iadd, 1) := by decide +kernel
theorem dL_law_362 : decode cL_law 362 = .ok (.iaload, 1) := by decide +kernel
theorem dL_law_363 : decode cL_law 363 = .ok (.invokevirtual 52, 3) := by decide +kernel
theorem dL_law_366 : decode cL_law 366 = .ok (.aload_n 2, 1) := by decide +kernel
theorem dL_law_367 : decode cL_law 367 = .ok (.aload_n 0, 1) := by decide +kernel
theorem dL_law_368 : decode cL_law 368 = .ok (.iload_n 3, 1) := by decide +kernel
theorem dL_law_369 : decode cL_law 369 = .ok (.iconst 1, 1) := by decide +kernel
theorem dL_law_370 : decode cL_law 370 = .ok (.iadd, 1) := by decide +kernel
theorem dL_law_371 : decode cL_law 371 = .ok (.iaload, 1) := by decide +kernel
theorem dL_law_372 : decode cL_law 372 = .ok (.invokevirtual 55, 3) := by decide +kernel
theorem dL_law_375 : decode cL_law 375 = .ok (.if_icmp .eq 305, 3) := by decide +kernel
theorem dL_law_378 : decode cL_law 378 = .ok (.iconst 0, 1) := by decide +kernel
theorem dL_law_379 : decode cL_law 379 = .ok (.ireturn, 1) := by decide +kernel
theorem dL_law_380 : decode cL_law 380 = .ok (.aload_n 1, 1) := by decide +kernel
theorem dL_law_381 : decode cL_law 381 = .ok (.aload_n 0, 1) := by decide +kernel
theorem dL_law_382 : decode cL_law 382 = .ok (.iload_n 3, 1) := by decide +kernel
theorem dL_law_383 : decode cL_law 383 = .ok (.iconst 1, 1) := by decide +kernel
theorem dL_law_384 : decode cL_law 384 = .ok (.iadd, 1) := by decide +kernel
theorem dL_law_385 : decode cL_law 385 = .ok (.iaload, 1) := by decide +kernel
theorem dL_law_386 : decode cL_law 386 = .ok (.invokevirtual 56, 3) := by decide +kernel
theorem dL_law_389 : decode cL_law 389 = .ok (.aload_n 2, 1) := by decide +kernel
theorem dL_law_390 : decode cL_law 390 = .ok (.aload_n 0, 1) := by decide +kernel
theorem dL_law_391 : decode cL_law 391 = .ok (.iload_n 3, 1) := by decide +kernel
theorem dL_law_392 : decode cL_law 392 = .ok (.iconst 1, 1) := by decide +kernel
theorem dL_law_393 : decode cL_law 393 = .ok (.iadd, 1) := by decide +kernel
theorem dL_law_394 : decode cL_law 394 = .ok (.iaload, 1) := by decide +kernel
theorem dL_law_395 : decode cL_law 395 = .ok (.invokevirtual 59, 3) := by decide +kernel
theorem dL_law_398 : decode cL_law 398 = .ok (.if_icmp .eq 282, 3) := by decide +kernel
theorem dL_law_401 : decode cL_law 401 = .ok (.iconst 0, 1) := by decide +kernel
theorem dL_law_402 : decode cL_law 402 = .ok (.ireturn, 1) := by decide +kernel
theorem dL_law_403 : decode cL_law 403 = .ok (.aload_n 1, 1) := by decide +kernel
theorem dL_law_404 : decode cL_law 404 = .ok (.aload_n 0, 1) := by decide +kernel
theorem dL_law_405 : decode cL_law 405 = .ok (.iload_n 3, 1) := by decide +kernel
theorem dL_law_406 : decode cL_law 406 = .ok (.iconst 1, 1) := by decide +kernel
theorem dL_law_407 : decode cL_law 407 = .ok (.iadd, 1) := by decide +kernel
theorem dL_law_408 : decode cL_law 408 = .ok (.iaload, 1) := by decide +kernel
theorem dL_law_409 : decode cL_law 409 = .ok (.aload_n 0, 1) := by decide +kernel
theorem dL_law_410 : decode cL_law 410 = .ok (.iload_n 3, 1) := by decide +kernel
theorem dL_law_411 : decode cL_law 411 = .ok (.iconst 2, 1) := by decide +kernel
theorem dL_law_412 : decode cL_law 412 = .ok (.iadd, 1) := by decide +kernel
theorem dL_law_413 : decode cL_law 413 = .ok (.iaload, 1) := by decide +kernel
theorem dL_law_414 : decode cL_law 414 = .ok (.invokevirtual 60, 3) := by decide +kernel
theorem dL_law_417 : decode cL_law 417 = .ok (.aload_n 2, 1) := by decide +kernel
theorem dL_law_418 : decode cL_law 418 = .ok (.aload_n 0, 1) := by decide +kernel
theorem dL_law_419 : decode cL_law 419 = .ok (.iload_n 3, 1) := by decide +kernel
theorem dL_law_420 : decode cL_law 420 = .ok (.iconst 1, 1) := by decide +kernel
theorem dL_law_421 : decode cL_law 421 = .ok (.iadd, 1) := by decide +kernel
theorem dL_law_422 : decode cL_law 422 = .ok (.iaload, 1) := by decide +kernel
theorem dL_law_423 : decode cL_law 423 = .ok (.aload_n 0, 1) := by decide +kernel
theorem dL_law_424 : decode cL_law 424 = .ok (.iload_n 3, 1) := by decide +kernel
theorem dL_law_425 : decode cL_law 425 = .ok (.iconst 2, 1) := by decide +kernel
theorem dL_law_426 : decode cL_law 426 = .ok (.iadd, 1) := by decide +kernel
theorem dL_law_427 : decode cL_law 427 = .ok (.iaload, 1) := by decide +kernel
theorem dL_law_428 : decode cL_law 428 = .ok (.invokevirtual 64, 3) := by decide +kernel
theorem dL_law_431 : decode cL_law 431 = .ok (.if_icmp .eq 249, 3) := by decide +kernel
theorem dL_law_434 : decode cL_law 434 = .ok (.iconst 0, 1) := by decide +kernel
theorem dL_law_435 : decode cL_law 435 = .ok (.ireturn, 1) := by decide +kernel
theorem dL_law_436 : decode cL_law 436 = .ok (.aload_n 1, 1) := by decide +kernel
theorem dL_law_437 : decode cL_law 437 = .ok (.aload_n 0, 1) := by decide +kernel
theorem dL_law_438 : decode cL_law 438 = .ok (.iload_n 3, 1) := by decide +kernel
theorem dL_law_439 : decode cL_law 439 = .ok (.iconst 1, 1) := by decide +kernel
theorem dL_law_440 : decode cL_law 440 = .ok (.iadd, 1) := by decide +kernel
theorem dL_law_441 : decode cL_law 441 = .ok (.iaload, 1) := by decide +kernel
theorem dL_law_442 : decode cL_law 442 = .ok (.aload_n 0, 1) := by decide +kernel
theorem dL_law_443 : decode cL_law 443 = .ok (.iload_n 3, 1) := by decide +kernel
theorem dL_law_444 : decode cL_law 444 = .ok (.iconst 2, 1) := by decide +kernel
theorem dL_law_445 : decode cL_law 445 = .ok (.iadd, 1) := by decide +kernel
theorem dL_law_446 : decode cL_law 446 = .ok (.iaload, 1) := by decide +kernel
theorem dL_law_447 : decode cL_law 447 = .ok (.aload_n 0, 1) := by decide +kernel
theorem dL_law_448 : decode cL_law 448 = .ok (.iload_n 3, 1) := by decide +kernel
theorem dL_law_449 : decode cL_law 449 = .ok (.iconst 3, 1) := by decide +kernel
theorem dL_law_450 : decode cL_law 450 = .ok (.iadd, 1) := by decide +kernel
theorem dL_law_451 : decode cL_law 451 = .ok (.iaload, 1) := by decide +kernel
theorem dL_law_452 : decode cL_law 452 = .ok (.invokevirtual 65, 3) := by decide +kernel
theorem dL_law_455 : decode cL_law 455 = .ok (.aload_n 2, 1) := by decide +kernel
theorem dL_law_456 : decode cL_law 456 = .ok (.aload_n 0, 1) := by decide +kernel
theorem dL_law_457 : decode cL_law 457 = .ok (.iload_n 3, 1) := by decide +kernel
theorem dL_law_458 : decode cL_law 458 = .ok (.iconst 1, 1) := by decide +kernel
theorem dL_law_459 : decode cL_law 459 = .ok (.iadd, 1) := by decide +kernel
theorem dL_law_460 : decode cL_law 460 = .ok (.iaload, 1) := by decide +kernel
theorem dL_law_461 : decode cL_law 461 = .ok (.aload_n 0, 1) := by decide +kernel
theorem dL_law_462 : decode cL_law 462 = .ok (.iload_n 3, 1) := by decide +kernel
theorem dL_law_463 : decode cL_law 463 = .ok (.iconst 2, 1) := by decide +kernel
theorem dL_law_464 : decode cL_law 464 = .ok (.iadd, 1) := by decide +kernel
theorem dL_law_465 : decode cL_law 465 = .ok (.iaload, 1) := by decide +kernel
theorem dL_law_466 : decode cL_law 466 = .ok (.aload_n 0, 1) := by decide +kernel
theorem dL_law_467 : decode cL_law 467 = .ok (.iload_n 3, 1) := by decide +kernel
theorem dL_law_468 : decode cL_law 468 = .ok (.iconst 3, 1) := by decide +kernel
theorem dL_law_469 : decode cL_law 469 = .ok (.iadd, 1) := by decide +kernel
theorem dL_law_470 : decode cL_law 470 = .ok (.iaload, 1) := by decide +kernel
theorem dL_law_471 : decode cL_law 471 = .ok (.invokevirtual 69, 3) := by decide +kernel
theorem dL_law_474 : decode cL_law 474 = .ok (.if_icmp .eq 206, 3) := by decide +kernel
theorem dL_law_477 : decode cL_law 477 = .ok (.iconst 0, 1) := by decide +kernel
theorem dL_law_478 : decode cL_law 478 = .ok (.ireturn, 1) := by decide +kernel
theorem dL_law_479 : decode cL_law 479 = .ok (.aload_n 1, 1) := by decide +kernel
theorem dL_law_480 : decode cL_law 480 = .ok (.aload_n 0, 1) := by decide +kernel
theorem dL_law_481 : decode cL_law 481 = .ok (.iload_n 3, 1) := by decide +kernel
theorem dL_law_482 : decode cL_law 482 = .ok (.iconst 1, 1) := by decide +kernel
theorem dL_law_483 : decode cL_law 483 = .ok (.iadd, 1) := by decide +kernel
theorem dL_law_484 : decode cL_law 484 = .ok (.iaload, 1) := by decide +kernel
theorem dL_law_485 : decode cL_law 485 = .ok (.aload_n 0, 1) := by decide +kernel
theorem dL_law_486 : decode cL_law 486 = .ok (.iload_n 3, 1) := by decide +kernel
theorem dL_law_487 : decode cL_law 487 = .ok (.iconst 2, 1) := by decide +kernel
theorem dL_law_488 : decode cL_law 488 = .ok (.iadd, 1) := by decide +kernel
theorem dL_law_489 : decode cL_law 489 = .ok (.iaload, 1) := by decide +kernel
theorem dL_law_490 : decode cL_law 490 = .ok (.invokevirtual 70, 3) := by decide +kernel
theorem dL_law_493 : decode cL_law 493 = .ok (.aload_n 2, 1) := by decide +kernel
theorem dL_law_494 : decode cL_law 494 = .ok (.aload_n 0, 1) := by decide +kernel
theorem dL_law_495 : decode cL_law 495 = .ok (.iload_n 3, 1) := by decide +kernel
theorem dL_law_496 : decode cL_law 496 = .ok (.iconst 1, 1) := by decide +kernel
theorem dL_law_497 : decode cL_law 497 = .ok (.iadd, 1) := by decide +kernel
theorem dL_law_498 : decode cL_law 498 = .ok (.iaload, 1) := by decide +kernel
theorem dL_law_499 : decode cL_law 499 = .ok (.aload_n 0, 1) := by decide +kernel
theorem dL_law_500 : decode cL_law 500 = .ok (.iload_n 3, 1) := by decide +kernel
theorem dL_law_501 : decode cL_law 501 = .ok (.iconst 2, 1) := by decide +kernel
theorem dL_law_502 : decode cL_law 502 = .ok (.iadd, 1) := by decide +kernel
theorem dL_law_503 : decode cL_law 503 = .ok (.iaload, 1) := by decide +kernel
theorem dL_law_504 : decode cL_law 504 = .ok (.invokevirtual 73, 3) := by decide +kernel
theorem dL_law_507 : decode cL_law 507 = .ok (.if_icmp .eq 173, 3) := by decide +kernel
theorem dL_law_510 : decode cL_law 510 = .ok (.iconst 0, 1) := by decide +kernel
theorem dL_law_511 : decode cL_law 511 = .ok (.ireturn, 1) := by decide +kernel
theorem dL_law_512 : decode cL_law 512 = .ok (.aload_n 1, 1) := by decide +kernel
theorem dL_law_513 : decode cL_law 513 = .ok (.aload_n 0, 1) := by decide +kernel
theorem dL_law_514 : decode cL_law 514 = .ok (.iload_n 3, 1) := by decide +kernel
theorem dL_law_515 : decode cL_law 515 = .ok (.iconst 1, 1) := by decide +kernel
theorem dL_law_516 : decode cL_law 516 = .ok (.iadd, 1) := by decide +kernel
theorem dL_law_517 : decode cL_law 517 = .ok (.iaload, 1) := by decide +kernel
theorem dL_law_518 : decode cL_law 518 = .ok (.aload_n 0, 1) := by decide +kernel
theorem dL_law_519 : decode cL_law 519 = .ok (.iload_n 3, 1) := by decide +kernel
theorem dL_law_520 : decode cL_law 520 = .ok (.iconst 2, 1) := by decide +kernel
theorem dL_law_521 : decode cL_law 521 = .ok (.iadd, 1) := by decide +kernel
theorem dL_law_522 : decode cL_law 522 = .ok (.iaload, 1) := by decide +kernel
theorem dL_law_523 : decode cL_law 523 = .ok (.invokevirtual 74, 3) := by decide +kernel
theorem dL_law_526 : decode cL_law 526 = .ok (.aload_n 2, 1) := by decide +kernel
theorem dL_law_527 : decode cL_law 527 = .ok (.aload_n 0, 1) := by decide +kernel
theorem dL_law_528 : decode cL_law 528 = .ok (.iload_n 3, 1) := by decide +kernel
theorem dL_law_529 : decode cL_law 529 = .ok (.iconst 1, 1) := by decide +kernel
theorem dL_law_530 : decode cL_law 530 = .ok (.iadd, 1) := by decide +kernel
theorem dL_law_531 : decode cL_law 531 = .ok (.iaload, 1) := by decide +kernel
theorem dL_law_532 : decode cL_law 532 = .ok (.aload_n 0, 1) := by decide +kernel
theorem dL_law_533 : decode cL_law 533 = .ok (.iload_n 3, 1) := by decide +kernel
theorem dL_law_534 : decode cL_law 534 = .ok (.iconst 2, 1) := by decide +kernel
theorem dL_law_535 : decode cL_law 535 = .ok (.iadd, 1) := by decide +kernel
theorem dL_law_536 : decode cL_law 536 = .ok (.iaload, 1) := by decide +kernel
theorem dL_law_537 : decode cL_law 537 = .ok (.invokevirtual 77, 3) := by decide +kernel
theorem dL_law_540 : decode cL_law 540 = .ok (.if_icmp .eq 140, 3) := by decide +kernel
theorem dL_law_543 : decode cL_law 543 = .ok (.iconst 0, 1) := by decide +kernel
theorem dL_law_544 : decode cL_law 544 = .ok (.ireturn, 1) := by decide +kernel
theorem dL_law_545 : decode cL_law 545 = .ok (.aload_n 1, 1) := by decide +kernel
theorem dL_law_546 : decode cL_law 546 = .ok (.aload_n 0, 1) := by decide +kernel
theorem dL_law_547 : decode cL_law 547 = .ok (.iload_n 3, 1) := by decide +kernel
theorem dL_law_548 : decode cL_law 548 = .ok (.iconst 1, 1) := by decide +kernel
theorem dL_law_549 : decode cL_law 549 = .ok (.iadd, 1) := by decide +kernel
theorem dL_law_550 : decode cL_law 550 = .ok (.iaload, 1) := by decide +kernel
theorem dL_law_551 : decode cL_law 551 = .ok (.aload_n 0, 1) := by decide +kernel
theorem dL_law_552 : decode cL_law 552 = .ok (.iload_n 3, 1) := by decide +kernel
theorem dL_law_553 : decode cL_law 553 = .ok (.iconst 2, 1) := by decide +kernel
theorem dL_law_554 : decode cL_law 554 = .ok (.iadd, 1) := by decide +kernel
theorem dL_law_555 : decode cL_law 555 = .ok (.iaload, 1) := by decide +kernel
theorem dL_law_556 : decode cL_law 556 = .ok (.invokevirtual 78, 3) := by decide +kernel
theorem dL_law_559 : decode cL_law 559 = .ok (.aload_n 2, 1) := by decide +kernel
theorem dL_law_560 : decode cL_law 560 = .ok (.aload_n 0, 1) := by decide +kernel
theorem dL_law_561 : decode cL_law 561 = .ok (.iload_n 3, 1) := by decide +kernel
theorem dL_law_562 : decode cL_law 562 = .ok (.iconst 1, 1) := by decide +kernel
theorem dL_law_563 : decode cL_law 563 = .ok (.iadd, 1) := by decide +kernel
theorem dL_law_564 : decode cL_law 564 = .ok (.iaload, 1) := by decide +kernel
theorem dL_law_565 : decode cL_law 565 = .ok (.aload_n 0, 1) := by decide +kernel
theorem dL_law_566 : decode cL_law 566 = .ok (.iload_n 3, 1) := by decide +kernel
theorem dL_law_567 : decode cL_law 567 = .ok (.iconst 2, 1) := by decide +kernel
theorem dL_law_568 : decode cL_law 568 = .ok (.iadd, 1) := by decide +kernel
theorem dL_law_569 : decode cL_law 569 = .ok (.iaload, 1) := by decide +kernel
theorem dL_law_570 : decode cL_law 570 = .ok (.invokevirtual 81, 3) := by decide +kernel
theorem dL_law_573 : decode cL_law 573 = .ok (.if_icmp .eq 107, 3) := by decide +kernel
theorem dL_law_576 : decode cL_law 576 = .ok (.iconst 0, 1) := by decide +kernel
theorem dL_law_577 : decode cL_law 577 = .ok (.ireturn, 1) := by decide +kernel
theorem dL_law_578 : decode cL_law 578 = .ok (.aload_n 1, 1) := by decide +kernel
theorem dL_law_579 : decode cL_law 579 = .ok (.aload_n 0, 1) := by decide +kernel
theorem dL_law_580 : decode cL_law 580 = .ok (.iload_n 3, 1) := by decide +kernel
theorem dL_law_581 : decode cL_law 581 = .ok (.iconst 1, 1) := by decide +kernel
theorem dL_law_582 : decode cL_law 582 = .ok (.iadd, 1) := by decide +kernel
theorem dL_law_583 : decode cL_law 583 = .ok (.iaload, 1) := by decide +kernel
theorem dL_law_584 : decode cL_law 584 = .ok (.aload_n 0, 1) := by decide +kernel
theorem dL_law_585 : decode cL_law 585 = .ok (.iload_n 3, 1) := by decide +kernel
theorem dL_law_586 : decode cL_law 586 = .ok (.iconst 2, 1) := by decide +kernel
theorem dL_law_587 : decode cL_law 587 = .ok (.iadd, 1) := by decide +kernel
theorem dL_law_588 : decode cL_law 588 = .ok (.iaload, 1) := by decide +kernel
theorem dL_law_589 : decode cL_law 589 = .ok (.invokevirtual 82, 3) := by decide +kernel
theorem dL_law_592 : decode cL_law 592 = .ok (.aload_n 2, 1) := by decide +kernel
theorem dL_law_593 : decode cL_law 593 = .ok (.aload_n 0, 1) := by decide +kernel
theorem dL_law_594 : decode cL_law 594 = .ok (.iload_n 3, 1) := by decide +kernel
theorem dL_law_595 : decode cL_law 595 = .ok (.iconst 1, 1) := by decide +kernel
theorem dL_law_596 : decode cL_law 596 = .ok (.iadd, 1) := by decide +kernel
theorem dL_law_597 : decode cL_law 597 = .ok (.iaload, 1) := by decide +kernel
theorem dL_law_598 : decode cL_law 598 = .ok (.aload_n 0, 1) := by decide +kernel
theorem dL_law_599 : decode cL_law 599 = .ok (.iload_n 3, 1) := by decide +kernel
theorem dL_law_600 : decode cL_law 600 = .ok (.iconst 2, 1) := by decide +kernel
theorem dL_law_601 : decode cL_law 601 = .ok (.iadd, 1) := by decide +kernel
theorem dL_law_602 : decode cL_law 602 = .ok (.iaload, 1) := by decide +kernel
theorem dL_law_603 : decode cL_law 603 = .ok (.invokevirtual 85, 3) := by decide +kernel
theorem dL_law_606 : decode cL_law 606 = .ok (.if_icmp .eq 74, 3) := by decide +kernel
theorem dL_law_609 : decode cL_law 609 = .ok (.iconst 0, 1) := by decide +kernel
theorem dL_law_610 : decode cL_law 610 = .ok (.ireturn, 1) := by decide +kernel
theorem dL_law_611 : decode cL_law 611 = .ok (.aload_n 1, 1) := by decide +kernel
theorem dL_law_612 : decode cL_law 612 = .ok (.aload_n 0, 1) := by decide +kernel
theorem dL_law_613 : decode cL_law 613 = .ok (.iload_n 3, 1) := by decide +kernel
theorem dL_law_614 : decode cL_law 614 = .ok (.iconst 1, 1) := by decide +kernel
theorem dL_law_615 : decode cL_law 615 = .ok (.iadd, 1) := by decide +kernel
theorem dL_law_616 : decode cL_law 616 = .ok (.iaload, 1) := by decide +kernel
theorem dL_law_617 : decode cL_law 617 = .ok (.invokevirtual 86, 3) := by decide +kernel
theorem dL_law_620 : decode cL_law 620 = .ok (.aload_n 2, 1) := by decide +kernel
theorem dL_law_621 : decode cL_law 621 = .ok (.aload_n 0, 1) := by decide +kernel
theorem dL_law_622 : decode cL_law 622 = .ok (.iload_n 3, 1) := by decide +kernel
theorem dL_law_623 : decode cL_law 623 = .ok (.iconst 1, 1) := by decide +kernel
theorem dL_law_624 : decode cL_law 624 = .ok (.iadd, 1) := by decide +kernel
theorem dL_law_625 : decode cL_law 625 = .ok (.iaload, 1) := by decide +kernel
theorem dL_law_626 : decode cL_law 626 = .ok (.invokevirtual 89, 3) := by decide +kernel
theorem dL_law_629 : decode cL_law 629 = .ok (.if_icmp .eq 51, 3) := by decide +kernel
theorem dL_law_632 : decode cL_law 632 = .ok (.iconst 0, 1) := by decide +kernel
theorem dL_law_633 : decode cL_law 633 = .ok (.ireturn, 1) := by decide +kernel
theorem dL_law_634 : decode cL_law 634 = .ok (.aload_n 1, 1) := by decide +kernel
theorem dL_law_635 : decode cL_law 635 = .ok (.aload_n 0, 1) := by decide +kernel
theorem dL_law_636 : decode cL_law 636 = .ok (.iload_n 3, 1) := by decide +kernel
theorem dL_law_637 : decode cL_law 637 = .ok (.iconst 1, 1) := by decide +kernel
theorem dL_law_638 : decode cL_law 638 = .ok (.iadd, 1) := by decide +kernel
theorem dL_law_639 : decode cL_law 639 = .ok (.iaload, 1) := by decide +kernel
theorem dL_law_640 : decode cL_law 640 = .ok (.invokevirtual 90, 3) := by decide +kernel
theorem dL_law_643 : decode cL_law 643 = .ok (.aload_n 2, 1) := by decide +kernel
theorem dL_law_644 : decode cL_law 644 = .ok (.aload_n 0, 1) := by decide +kernel
theorem dL_law_645 : decode cL_law 645 = .ok (.iload_n 3, 1) := by decide +kernel
theorem dL_law_646 : decode cL_law 646 = .ok (.iconst 1, 1) := by decide +kernel
theorem dL_law_647 : decode cL_law 647 = .ok (.iadd, 1) := by decide +kernel
theorem dL_law_648 : decode cL_law 648 = .ok (.iaload, 1) := by decide +kernel
theorem dL_law_649 : decode cL_law 649 = .ok (.invokevirtual 93, 3) := by decide +kernel
theorem dL_law_652 : decode cL_law 652 = .ok (.if_icmp .eq 28, 3) := by decide +kernel
theorem dL_law_655 : decode cL_law 655 = .ok (.iconst 0, 1) := by decide +kernel
theorem dL_law_656 : decode cL_law 656 = .ok (.ireturn, 1) := by decide +kernel
theorem dL_law_657 : decode cL_law 657 = .ok (.aload_n 1, 1) := by decide +kernel
theorem dL_law_658 : decode cL_law 658 = .ok (.aload_n 0, 1) := by decide +kernel
theorem dL_law_659 : decode cL_law 659 = .ok (.iload_n 3, 1) := by decide +kernel
theorem dL_law_660 : decode cL_law 660 = .ok (.iconst 1, 1) := by decide +kernel
theorem dL_law_661 : decode cL_law 661 = .ok (.iadd, 1) := by decide +kernel
theorem dL_law_662 : decode cL_law 662 = .ok (.iaload, 1) := by decide +kernel
theorem dL_law_663 : decode cL_law 663 = .ok (.invokevirtual 94, 3) := by decide +kernel
theorem dL_law_666 : decode cL_law 666 = .ok (.aload_n 2, 1) := by decide +kernel
theorem dL_law_667 : decode cL_law 667 = .ok (.aload_n 0, 1) := by decide +kernel
theorem dL_law_668 : decode cL_law 668 = .ok (.iload_n 3, 1) := by decide +kernel
theorem dL_law_669 : decode cL_law 669 = .ok (.iconst 1, 1) := by decide +kernel
theorem dL_law_670 : decode cL_law 670 = .ok (.iadd, 1) := by decide +kernel
theorem dL_law_671 : decode cL_law 671 = .ok (.iaload, 1) := by decide +kernel
theorem dL_law_672 : decode cL_law 672 = .ok (.invokevirtual 97, 3) := by decide +kernel
theorem dL_law_675 : decode cL_law 675 = .ok (.if_icmp .eq 5, 3) := by decide +kernel
theorem dL_law_678 : decode cL_law 678 = .ok (.iconst 0, 1) := by decide +kernel
theorem dL_law_679 : decode cL_law 679 = .ok (.ireturn, 1) := by decide +kernel
theorem dL_law_680 : decode cL_law 680 = .ok (.iinc 3 4, 3) := by decide +kernel
theorem dL_law_683 : decode cL_law 683 = .ok (.goto (-665), 3) := by decide +kernel
theorem dL_law_686 : decode cL_law 686 = .ok (.iconst 1, 1) := by decide +kernel
theorem dL_law_687 : decode cL_law 687 = .ok (.ireturn, 1) := by decide +kernel

def Vl (X : Bx) (gX gM : Gx) (a b : SS) (pc : Nat) (ls : List (Nat × Value)) (st : List Value) : Prop :=
  ∀ (H : Heap) (locs : List Loc) (Ls : Array Slot), lv_has Ls 4 ls → va_P gX.1 vwCl (wsX gX a) H → va_P gX.1 vwCl (wsM gM b) H → va_S (bA X) (bS X).heap H locs →
    W X.1 X.2.1 X.2.2.1 X.2.2.2.1 (bS X) (bM X) (bAr X) X.2.2.2.2.2.2.2.1 (bMe X) (bC X) H locs 59 5610 (bQ X) (F0 (bM X) pc Ls st)
/-- what the law's walk stands on -/
def Okl (X : Bx) (gX gM : Gx) (bs L : Nat) (xs : Nat → Int32) : Prop :=
  Okx X gX.1 code 4 RL (tysG gX) ∧ (∀ a, va_D (bA X) (wsX gX a)) ∧ (∀ b, va_D (bA X) (wsM gM b)) ∧ (∀ (a b : SS) (i j : Nat) (p q : Nat × va_E), (wsX gX a)[i]? = some p → (wsM gM b)[j]? = some q → p.1 ≠ q.1) ∧ gM.1 = gX.1 ∧ gM.2.2 = gX.2.2 ∧ Exg gX (bA X) (bS X) (bS X).heap ∧ X.2.2.2.1 = room_1 ∧ va_X bs L xs (bS X) (bS X).heap ∧ bs < (bS X).heap.size ∧ ¬ bA X bs
section VL
variable {X : Bx} {gX gM : Gx} {bs L : Nat} {xs : Nat → Int32} {a b : SS} {pc : Nat} {ls : List (Nat × Value)} {st : List Value}
theorem vl_sub {ls' : List (Nat × Value)} (ks : List Nat) (hl : lv_pick ls ks = ls') (k : Vl X gX gM a b pc ls' st) : Vl X gX gM a b pc ls st :=
  fun H locs Ls h hP hM hS => k H locs Ls (lv_sub h ks hl) hP hM hS
theorem vl_iconst (hX : Okl X gX gM bs L xs) {n : Int} {v : Int32} (hd : decode code pc = .ok (.iconst n, 1)) (hv : Int32.ofInt n = v) (k : Vl X gX gM a b (pc + 1) ls (.int v :: st)) : Vl X gX gM a b pc ls st :=
  fun H locs Ls h hP hM hS => lv_iconst hX.1.1 hX.1.2.1 hd hv (k H locs Ls h hP hM hS)
theorem vl_bipush (hX : Okl X gX gM bs L xs) {n : Int} {v : Int32} (hd : decode code pc = .ok (.bipush n, 2)) (hv : (Int8.ofInt n).toInt32 = v) (k : Vl X gX gM a b (pc + 2) ls (.int v :: st)) : Vl X gX gM a b pc ls st :=
  fun H locs Ls h hP hM hS => lv_bipush hX.1.1 hX.1.2.1 hd hv (k H locs Ls h hP hM hS)
theorem vl_iload_n (hX : Okl X gX gM bs L xs) {j : Fin 4} {x : Int32} (hd : decode code pc = .ok (.iload_n j, 1)) (hl : ls.lookup (j : Nat) = some (.int x)) (k : Vl X gX gM a b (pc + 1) ls (.int x :: st)) : Vl X gX gM a b pc ls st :=
  fun H locs Ls h hP hM hS => lv_iload_n hX.1.1 hX.1.2.1 hd rfl (h.2.2 _ (mem_of_lookup hl)) (k H locs Ls h hP hM hS)
theorem vl_aload_n (hX : Okl X gX gM bs L xs) {j : Fin 4} {x : Nat} (hd : decode code pc = .ok (.aload_n j, 1)) (hl : ls.lookup (j : Nat) = some (.ref x)) (k : Vl X gX gM a b (pc + 1) ls (.ref x :: st)) : Vl X gX gM a b pc ls st :=
  fun H locs Ls h hP hM hS => lv_aload_n hX.1.1 hX.1.2.1 hd rfl (h.2.2 _ (mem_of_lookup hl)) (k H locs Ls h hP hM hS)
theorem vl_iinc (hX : Okl X gX gM bs L xs) {j q : Nat} {n : Int} {x v : Int32} {ls' : List (Nat × Value)} (hd : decode code pc = .ok (.iinc j n, 3)) (hq : ls[q]? = some (j, .int x)) (hv : x + Int32.ofInt n = v) (hn : j < 4) (hl : (j, Value.int v) :: ls.filter (fun q => !(q.1 == j) && !(q.1 + 1 == j && q.2.category == 2)) = ls') (k : Vl X gX gM a b (pc + 3) ls' st) : Vl X gX gM a b pc ls st :=
  fun H locs Ls h hP hM hS => lv_iinc hX.1.1 hX.1.2.1 hd h hq hv hn hl (fun Ls' h' => k H locs Ls' h' hP hM hS)
theorem vl_goto (hX : Okl X gX gM bs L xs) {off : Int} {tgt : Nat} (hd : decode code pc = .ok (.goto off, 3)) (ht : (pc : Int) + off = (tgt : Int)) (k : Vl X gX gM a b tgt ls st) : Vl X gX gM a b pc ls st :=
  fun H locs Ls h hP hM hS => lv_goto hX.1.1 hX.1.2.1 hd ht (k H locs Ls h hP hM hS)
theorem vl_iadd (hX : Okl X gX gM bs L xs) {x y : Int32} (hd : decode code pc = .ok (.iadd, 1)) (k : Vl X gX gM a b (pc + 1) ls (.int (x + y) :: st)) : Vl X gX gM a b pc ls (.int y :: .int x :: st) :=
  fun H locs Ls h hP hM hS => lv_iadd hX.1.1 hX.1.2.1 hd (k H locs Ls h hP hM hS)
theorem vl_isub (hX : Okl X gX gM bs L xs) {x y : Int32} (hd : decode code pc = .ok (.isub, 1)) (k : Vl X gX gM a b (pc + 1) ls (.int (x - y) :: st)) : Vl X gX gM a b pc ls (.int y :: .int x :: st) :=
  fun H locs Ls h hP hM hS => lv_isub hX.1.1 hX.1.2.1 hd (k H locs Ls h hP hM hS)
theorem vl_iand (hX : Okl X gX gM bs L xs) {x y : Int32} (hd : decode code pc = .ok (.iand, 1)) (k : Vl X gX gM a b (pc + 1) ls (.int (x &&& y) :: st)) : Vl X gX gM a b pc ls (.int y :: .int x :: st) :=
  fun H locs Ls h hP hM hS => lv_iand hX.1.1 hX.1.2.1 hd (k H locs Ls h hP hM hS)
theorem vl_if_eq (hX : Okl X gX gM bs L xs) {x : Int32} {off : Int} {tgt : Nat} (hd : decode code pc = .ok (.ifCond .eq off, 3)) (ht : (pc : Int) + off = (tgt : Int)) (kt : x = 0 → Vl X gX gM a b tgt ls st) (kf : ¬ x = 0 → Vl X gX gM a b (pc + 3) ls st) : Vl X gX gM a b pc ls (.int x :: st) :=
  fun H locs Ls h hP hM hS => lv_if_eq hX.1.1 hX.1.2.1 hd ht (fun q => kt q H locs Ls h hP hM hS) (fun q => kf q H locs Ls h hP hM hS)
theorem vl_icmp_eq (hX : Okl X gX gM bs L xs) {x : Int32} {off : Int} {tgt : Nat} (hd : decode code pc = .ok (.if_icmp .eq off, 3)) (ht : (pc : Int) + off = (tgt : Int)) (kt : Vl X gX gM a b tgt ls st) : Vl X gX gM a b pc ls (.int x :: .int x :: st) :=
  fun H locs Ls h hP hM hS => lv_icmp_eq hX.1.1 hX.1.2.1 hd ht (fun q => kt H locs Ls h hP hM hS) (fun q => absurd rfl q)
theorem vl_icmp_gt (hX : Okl X gX gM bs L xs) {x y : Int32} {off : Int} {tgt : Nat} (hd : decode code pc = .ok (.if_icmp .gt off, 3)) (ht : (pc : Int) + off = (tgt : Int)) (kt : y < x → Vl X gX gM a b tgt ls st) (kf : ¬ y < x → Vl X gX gM a b (pc + 3) ls st) : Vl X gX gM a b pc ls (.int y :: .int x :: st) :=
  fun H locs Ls h hP hM hS => lv_icmp_gt hX.1.1 hX.1.2.1 hd ht (fun q => kt q H locs Ls h hP hM hS) (fun q => kf q H locs Ls h hP hM hS)
theorem vl_tabK (hX : Okl X gX gM bs L xs) {dflt lo hi : Int} {offs : Array Int} {len : Nat} {x : Int32} {off : Int} {tgt : Nat} (kv : Int32) (hk : x = kv) (hd : decode code pc = .ok (.tableswitch dflt lo hi offs, len)) (h1 : ¬ kv.toInt < lo) (h2 : ¬ hi < kv.toInt) (ho : offs[(kv.toInt - lo).toNat]? = some off) (ht : (pc : Int) + off = (tgt : Int)) (k : Vl X gX gM a b tgt ls st) : Vl X gX gM a b pc ls (.int x :: st) := by
  subst hk
  exact fun H locs Ls h hP hM hS => lv_tableIn hX.1.1 hX.1.2.1 hd h1 h2 ho ht (k H locs Ls h hP hM hS)
theorem vl_tabOut (hX : Okl X gX gM bs L xs) {dflt lo hi : Int} {offs : Array Int} {len : Nat} {x : Int32} {tgt : Nat} (hd : decode code pc = .ok (.tableswitch dflt lo hi offs, len)) (h1 : x.toInt < lo ∨ hi < x.toInt) (ht : (pc : Int) + dflt = (tgt : Int)) (k : Vl X gX gM a b tgt ls st) : Vl X gX gM a b pc ls (.int x :: st) :=
  fun H locs Ls h hP hM hS => lv_tableOut hX.1.1 hX.1.2.1 hd h1 ht (k H locs Ls h hP hM hS)
theorem vl_slen (hX : Okl X gX gM bs L xs) (hd : decode code pc = .ok (.arraylength, 1)) (k : Vl X gX gM a b (pc + 1) ls (.int (Int32.ofNat L) :: st)) : Vl X gX gM a b pc ls (.ref bs :: st) :=
  fun H locs Ls h hP hM hS => va_slen hX.1.1 hX.1.2.1 hX.2.2.2.2.2.2.2.2.1 hX.2.2.2.2.2.2.2.2.2.1 hX.2.2.2.2.2.2.2.2.2.2 hS hd (k H locs Ls h hP hM hS)
theorem vl_sld (hX : Okl X gX gM bs L xs) {i : Int32} (hin : vp_in i L) (hd : decode code pc = .ok (.iaload, 1)) (k : Vl X gX gM a b (pc + 1) ls (.int (xs i.toNatClampNeg) :: st)) : Vl X gX gM a b pc ls (.int i :: .ref bs :: st) :=
  fun H locs Ls h hP hM hS => va_sld hX.1.1 hX.1.2.1 hX.2.2.2.2.2.2.2.2.1 hX.2.2.2.2.2.2.2.2.2.1 hX.2.2.2.2.2.2.2.2.2.2 hS hin hd (k H locs Ls h hP hM hS)
/-- a call: the callee's world changes, the other one's cells aren't its own -/
theorem vl_kept {w w2 : Wf} {g g2 : Gx} {A : Nat → Prop} {σ2 : SS} {H H1 : Heap} {D : va_G} (hP2 : va_P D vwCl (w2 g2 σ2) H) (hap : ∀ (x : SS) (i j : Nat) (p q : Nat × va_E), (w g x)[i]? = some p → (w2 g2 σ2)[j]? = some q → p.1 ≠ q.1) (hk : ∀ q : Nat, q < H.size → ¬ wA w g H.size q → H1[q]? = H[q]?) : va_P D vwCl (w2 g2 σ2) H1 := by
  refine hP2.kept (fun k q hq => hk q.1 (hP2 k q hq).lt ?_)
  rintro (⟨x, i, e, hi⟩ | hz)
  · exact hap x i k (q.1, e) q hi hq rfl
  · exact absurd (hP2 k q hq).lt (Nat.not_lt.mpr hz)
theorem vl_in {w : Wf} {g : Gx} (hw : g.1 = gX.1 ∧ g.2.2 = gX.2.2) (hX : Okl X gX gM bs L xs) (hD : ∀ σ, va_D (bA X) (w g σ)) {σ : SS} {H : Heap} {locs : List Loc} (hP : va_P g.1 vwCl (w g σ) H) (hS : va_S (bA X) (bS X).heap H locs) : (∀ q, wA w g H.size q → bA X q) ∧ ∀ U : State, U.heap = H → (bS X).WarmedH U.vm → InW w g σ H.size U := by
  have hsub : ∀ q, wA w g H.size q → bA X q := by
    rintro q (⟨x, k, e, hk⟩ | h)
    · exact (hD x).2 k (q, e) hk
    · exact hX.1.2.2.2.2.2.2.1 q (Nat.le_trans hS.1 h)
  have hK : va_K g.1 vwCl (tysG g) (bS X) := by
    have e1 : tysG g = tysG gX := by show [(g.2.2.1, _), (g.2.2.2.1, _), (g.2.2.2.2.1, _)] = _; rw [hw.2]
    rw [e1, hw.1]; exact hX.1.2.2.2.2.2.1
  have hE : Exg g (bA X) (bS X) (bS X).heap := by
    obtain ⟨h1, h2, h3⟩ := hX.2.2.2.2.2.2.1
    refine ⟨h1, ?_, ?_⟩
    · rw [hw.2]; exact h2
    · rw [hw.2]; exact h3
  refine ⟨hsub, fun U hU hW => ⟨by rw [hU], by rw [hU]; exact hP, va_K.moved hW.alike hK, (hD σ).weaken (fun _ _ _ _ => trivial), ?_⟩⟩
  rw [hU]
  exact ((hE.kept (fun a h1 h2 => hS.2.1 a h1 h2)).narrow hsub).warm hW
theorem vl_goes {w : Wf} {g : Gx} {H : Heap} {locs : List Loc} {Ls : Array Slot} {st0 : List Value} {rr : Option Value} {σ1 : SS} {A1 : Nat → Prop} {ar : Array Value} (hA : ∀ q, A1 q → bA X q)
    (hr : va_Run X.1 X.2.1 X.2.2.1 X.2.2.2.1 (bS X) (bM X) (bAr X) X.2.2.2.2.2.2.2.1 (bMe X) (bC X) H locs 59 5610 0 0 (F0 (bM X) pc Ls st0) st (xQ w g rr σ1 A1 ar) A1) (hS : va_S (bA X) (bS X).heap H locs)
    (k : ∀ (H1 : Heap) (locs1 : List Loc), va_P g.1 vwCl (w g σ1) H1 → (∀ q : Nat, q < H.size → ¬ A1 q → H1[q]? = H[q]?) → va_S (bA X) (bS X).heap H1 locs1 → W X.1 X.2.1 X.2.2.1 X.2.2.2.1 (bS X) (bM X) (bAr X) X.2.2.2.2.2.2.2.1 (bMe X) (bC X) H1 locs1 59 5610 (bQ X) (F0 (bM X) (pc + 3) Ls (rr.toList ++ st))) :
    W X.1 X.2.1 X.2.2.1 X.2.2.2.1 (bS X) (bM X) (bAr X) X.2.2.2.2.2.2.2.1 (bMe X) (bC X) H locs 59 5610 (bQ X) (F0 (bM X) pc Ls st0) := by
  intro T hT Y
  obtain ⟨v, st₀, t, T', Lc, h0, Y', hL, e1, e2, ⟨hv, hP1, hz, hk⟩, go⟩ := hr T hT Y
  cases hv
  rw [h0] at hz hk
  have hS1 : va_S (bA X) (bS X).heap T'.heap (locs ++ Lc) := ⟨Nat.le_trans hS.1 (by rw [e1]; exact hz), fun q h1 h2 => by rw [e1, hk q (Nat.lt_of_lt_of_le h1 hS.1) (fun z => h2 (hA q z))]; exact hS.2.1 q h1 h2, fun q hq => by
      rcases List.mem_append.mp hq with h | h
      · exact hS.2.2 q h
      · exact hA _ (hL q h)⟩
  obtain ⟨t2, a1, b1⟩ := k T'.heap (locs ++ Lc) (by rw [e1]; exact hP1) (fun q h1 h2 => by rw [e1]; exact hk q h1 h2) hS1 T' rfl Y'
  exact ⟨t2, go t2 a1, b1⟩
theorem vl_run {w : Wf} {g : Gx} (hX : Okl X gX gM bs L xs) {y : MethodName} {bytes : ByteArray} {maxL n i o ci q0 : Nat} {rt : Option FieldType} {rm1 : Room} {av : Gx → List Value} {rr : Gx → Option Value} {σ σ1 : SS} {As st0 fs : List Value} {q : vw_C} {H : Heap} {locs : List Loc} {Ls : Array Slot} (hw : g.1 = gX.1 ∧ g.2.2 = gX.2.2) (hD : ∀ σ, va_D (bA X) (w g σ)) (hP : va_P g.1 vwCl (w g σ) H) (hS : va_S (bA X) (bS X).heap H locs) (h : lv_has Ls 4 ls)
    (hM : Mcw w y bytes maxL rt rm1 av σ rr σ1) (hC : CeV y bytes maxL rt n) (hlk : Cond.methodLink RL i y ∈ wsG) (h0 : rm1.cells = 0 ∧ rm1.slots = 0) (hR : rm1.frames + 1 ≤ room_1.frames ∧ 8 + (maxL + 11) + rm1.locals ≤ room_1.locals)
    (hav : av g = .ref o :: As) (hn : As.length = n) (hcl : vwCl[ci]? = some q) (hq : q.1 = y.cls) (hb : (w g σ)[q0]? = some (o, .inr (ci, fs))) (hst : As.reverse ++ .ref o :: st = st0) (hW : (st.map fun v => v.category).sum ≤ 8) (hd : decode code pc = .ok (.invokevirtual i, 3)) :
    va_Run X.1 X.2.1 X.2.2.1 X.2.2.2.1 (bS X) (bM X) (bAr X) X.2.2.2.2.2.2.2.1 (bMe X) (bC X) H locs 59 5610 0 0 (F0 (bM X) pc Ls st0) st (xQ w g (rr g) σ1 (wA w g H.size) (Value.ref o :: As).toArray) (wA w g H.size) := by
  obtain ⟨hsub, hin⟩ := vl_in hw hX hD hP hS
  subst hst
  have hx := hX.1
  have hrm := hX.2.2.2.2.2.2.2.1
  have hcb : CallB X.2.2.2.1 (bS X) (bAr X) RL i y bytes maxL rt (Cond.code y bytes maxL rt :: wsG) rm1 0 0 n := by
    rw [hrm]
    exact callB_of n hx.2.2.2.2.1 (goodC hC.1.1) rfl h0.1 h0.2 (hx.2.2.2.2.1 _ hC.1.2.1) (hx.2.2.2.2.1 _ hlk) hC.1.2.2 hR
  refine va_runV (C := y.cls) (As := As) (rest := st) (b := o) (Ts := wsG) ⟨hx.1, hx.2.1, hx.2.2.1, hx.2.2.2.1, hx.2.2.2.2.1⟩ (hM X.2.1 g H.size) ⟨hcb, hx.2.2.2.2.1 _ hC.2.1, hx.2.2.2.2.1 _ hC.2.2⟩ ⟨InW.blind, ?_, fun U hU hW => ⟨by rw [hav], hin U hU hW⟩⟩ rfl hn h.1 rfl (lv_room hW) hd ⟨by rw [hrm]; exact Nat.le_of_ble_eq_true rfl, by rw [hrm]; exact Nat.le_of_ble_eq_true rfl⟩
  rw [← hq]
  have hK := hx.2.2.2.2.2.1
  rw [← hw.1] at hK
  exact va_recv hK hP hcl hb
theorem vl_callX (hX : Okl X gX gM bs L xs) {y : MethodName} {bytes : ByteArray} {maxL n i : Nat} {rt : Option FieldType} {rm1 : Room} {av : Gx → List Value} {rr : Gx → Option Value} {a1 : SS} {As st0 fs : List Value} {q : vw_C}
    (hM : Mcw wsX y bytes maxL rt rm1 av a rr a1) (hC : CeV y bytes maxL rt n) (hlk : Cond.methodLink RL i y ∈ wsG) (h0 : rm1.cells = 0 ∧ rm1.slots = 0) (hR : rm1.frames + 1 ≤ room_1.frames ∧ 8 + (maxL + 11) + rm1.locals ≤ room_1.locals)
    (hav : av gX = .ref (gX.2.1 0) :: As) (hn : As.length = n) (hcl : vwCl[7]? = some q) (hq : q.1 = y.cls) (hb : (wsX gX a)[0]? = some (gX.2.1 0, .inr (7, fs))) (hst : As.reverse ++ .ref (gX.2.1 0) :: st = st0) (hW : (st.map fun v => v.category).sum ≤ 8) (hd : decode code pc = .ok (.invokevirtual i, 3)) (k : Vl X gX gM a1 b (pc + 3) ls ((rr gX).toList ++ st)) : Vl X gX gM a b pc ls st0 := by
  intro H locs Ls h hP hM2 hS
  obtain ⟨hsub, -⟩ := vl_in (w := wsX) (g := gX) ⟨rfl, rfl⟩ hX hX.2.1 hP hS
  exact vl_goes hsub (vl_run (g := gX) hX ⟨rfl, rfl⟩ hX.2.1 hP hS h hM hC hlk h0 hR hav hn hcl hq hb hst hW hd) hS (fun H1 locs1 hP1 hk hS1 => k H1 locs1 Ls h hP1 (vl_kept (w := wsX) (g := gX) (A := bA X) hM2 (fun x => hX.2.2.2.1 x b) hk) hS1)
theorem vl_callM (hX : Okl X gX gM bs L xs) {y : MethodName} {bytes : ByteArray} {maxL n i : Nat} {rt : Option FieldType} {rm1 : Room} {av : Gx → List Value} {rr : Gx → Option Value} {b1 : SS} {As st0 fs : List Value} {q : vw_C}
    (hM : Mcw wsM y bytes maxL rt rm1 av b rr b1) (hC : CeV y bytes maxL rt n) (hlk : Cond.methodLink RL i y ∈ wsG) (h0 : rm1.cells = 0 ∧ rm1.slots = 0) (hR : rm1.frames + 1 ≤ room_1.frames ∧ 8 + (maxL + 11) + rm1.locals ≤ room_1.locals)
    (hav : av gM = .ref (gM.2.1 0) :: As) (hn : As.length = n) (hcl : vwCl[8]? = some q) (hq : q.1 = y.cls) (hb : (wsM gM b)[0]? = some (gM.2.1 0, .inr (8, fs))) (hst : As.reverse ++ .ref (gM.2.1 0) :: st = st0) (hW : (st.map fun v => v.category).sum ≤ 8) (hd : decode code pc = .ok (.invokevirtual i, 3)) (k : Vl X gX gM a b1 (pc + 3) ls ((rr gM).toList ++ st)) : Vl X gX gM a b pc ls st0 := by
  intro H locs Ls h hP hM2 hS
  have e1 : gM.1 = gX.1 := hX.2.2.2.2.1
  have hw : gM.1 = gX.1 ∧ gM.2.2 = gX.2.2 := ⟨hX.2.2.2.2.1, hX.2.2.2.2.2.1⟩
  rw [← e1] at hM2
  obtain ⟨hsub, -⟩ := vl_in (w := wsM) (g := gM) hw hX hX.2.2.1 hM2 hS
  refine vl_goes hsub (vl_run (g := gM) hX hw hX.2.2.1 hM2 hS h hM hC hlk h0 hR hav hn hcl hq hb hst hW hd) hS (fun H1 locs1 hP1 hk hS1 => k H1 locs1 Ls h (vl_kept (w := wsM) (g := gM) (A := bA X) hP (fun x i j p q h1 h2 => (hX.2.2.2.1 a x j i q p h2 h1).symm) hk) (e1 ▸ hP1) hS1)
end VL
def Sim_feed (Rl : SS → SS → Prop) : Prop := ∀ (a b : SS), Rl a b → ∀ (x0 : Int32), ∃ (r : Int32) (a1 b1 : SS), FX7_feed a x0 = some (r, a1) ∧ FX8_feed b x0 = some (r, b1) ∧ Rl a1 b1
def Sim_contract (Rl : SS → SS → Prop) : Prop := ∀ (a b : SS), Rl a b → ∃ (r : Int32) (a1 b1 : SS), FX7_contract a = some (r, a1) ∧ FX8_contract b = some (r, b1) ∧ Rl a1 b1
def Sim_fault (Rl : SS → SS → Prop) : Prop := ∀ (a b : SS), Rl a b → ∃ (r : Int32) (a1 b1 : SS), FX7_fault a = some r ∧ FX8_fault b = some r ∧ Rl a b
def Sim_answer (Rl : SS → SS → Prop) : Prop := ∀ (a b : SS), Rl a b → ∀ (x0 x1 : Int32), (x1 = 0 ∨ x1 = 1) → ∃ (r : Int32) (a1 b1 : SS), FX7_answer a x0 x1 = some (r, a1) ∧ FX8_answer b x0 x1 = some (r, b1) ∧ Rl a1 b1
def Sim_forget (Rl : SS → SS → Prop) : Prop := ∀ (a b : SS), Rl a b → ∀ (x0 : Int32), ∃ (r : Int32) (a1 b1 : SS), FX7_forget a x0 = some (r, a1) ∧ FX8_forget b x0 = some (r, b1) ∧ Rl a1 b1
def Sim_strike (Rl : SS → SS → Prop) : Prop := ∀ (a b : SS), Rl a b → ∀ (x0 x1 : Int32), (x1 = 0 ∨ x1 = 1) → ∃ (r : Int32) (a1 b1 : SS), FX7_strike a x0 x1 = some (r, a1) ∧ FX8_strike b x0 x1 = some (r, b1) ∧ Rl a1 b1
def Sim_drift (Rl : SS → SS → Prop) : Prop := ∀ (a b : SS), Rl a b → ∀ (x0 : Int32), ∃ (r : Int32) (a1 b1 : SS), FX7_drift a x0 = some (r, a1) ∧ FX8_drift b x0 = some (r, b1) ∧ Rl a1 b1
def Sim_undo (Rl : SS → SS → Prop) : Prop := ∀ (a b : SS), Rl a b → ∃ (r : Int32) (a1 b1 : SS), FX7_undo a = some (r, a1) ∧ FX8_undo b = some (r, b1) ∧ Rl a1 b1
def Sim_answerOf (Rl : SS → SS → Prop) : Prop := ∀ (a b : SS), Rl a b → ∀ (x0 : Int32), ∃ (r : Int32) (a1 b1 : SS), FX7_answerOf a x0 = some r ∧ FX8_answerOf b x0 = some r ∧ Rl a b
def Sim_told (Rl : SS → SS → Prop) : Prop := ∀ (a b : SS), Rl a b → ∀ (x0 : Int32), ∃ (r : Int32) (a1 b1 : SS), FX7_told a x0 = some (r, a1) ∧ FX8_told b x0 = some (r, b1) ∧ Rl a1 b1
def Sim_wrong (Rl : SS → SS → Prop) : Prop := ∀ (a b : SS), Rl a b → ∀ (x0 : Int32), ∃ (r : Int32) (a1 b1 : SS), FX7_wrong a x0 = some r ∧ FX8_wrong b x0 = some (r, b1) ∧ Rl a b1
def Sim_clause (Rl : SS → SS → Prop) : Prop := ∀ (a b : SS), Rl a b → ∀ (x0 x1 : Int32), ∃ (r : Int32) (a1 b1 : SS), FX7_clause a x0 x1 = some r ∧ FX8_clause b x0 x1 = some r ∧ Rl a b
def Sim_part (Rl : SS → SS → Prop) : Prop := ∀ (a b : SS), Rl a b → ∀ (x0 x1 x2 : Int32), ∃ (r : Int32) (a1 b1 : SS), FX7_part a x0 x1 x2 = some r ∧ FX8_part b x0 x1 x2 = some r ∧ Rl a b
def Sim_number (Rl : SS → SS → Prop) : Prop := ∀ (a b : SS), Rl a b → ∀ (x0 x1 : Int32), ∃ (r : Int32) (a1 b1 : SS), FX7_number a x0 x1 = some r ∧ FX8_number b x0 x1 = some r ∧ Rl a b
def Sim_hangs (Rl : SS → SS → Prop) : Prop := ∀ (a b : SS), Rl a b → ∀ (x0 x1 : Int32), ∃ (r : Int32) (a1 b1 : SS), FX7_hangs a x0 x1 = some r ∧ FX8_hangs b x0 x1 = some (r, b1) ∧ Rl a b1
def Sim_term (Rl : SS → SS → Prop) : Prop := ∀ (a b : SS), Rl a b → ∀ (x0 x1 : Int32), ∃ (r : Int32) (a1 b1 : SS), FX7_term a x0 x1 = some r ∧ FX8_term b x0 x1 = some (r, b1) ∧ Rl a b1
def Sim_by (Rl : SS → SS → Prop) : Prop := ∀ (a b : SS), Rl a b → ∀ (x0 x1 : Int32), ∃ (r : Int32) (a1 b1 : SS), FX7_by a x0 x1 = some r ∧ FX8_by b x0 x1 = some (r, b1) ∧ Rl a b1
def Sim_sign (Rl : SS → SS → Prop) : Prop := ∀ (a b : SS), Rl a b → ∀ (x0 : Int32), ∃ (r : Int32) (a1 b1 : SS), FX7_sign a x0 = some (r, a1) ∧ FX8_sign_ b x0 = some (r, b1) ∧ Rl a1 b1
def Sim_keep (Rl : SS → SS → Prop) : Prop := ∀ (a b : SS), Rl a b → ∀ (x0 : Int32), ∃ (r : Int32) (a1 b1 : SS), FX7_keep a x0 = some (r, a1) ∧ FX8_keep b x0 = some (r, b1) ∧ Rl a1 b1
def Sim_goBack (Rl : SS → SS → Prop) : Prop := ∀ (a b : SS), Rl a b → ∀ (x0 : Int32), ∃ (r : Int32) (a1 b1 : SS), FX7_goBack a x0 = some (r, a1) ∧ FX8_goBack b x0 = some (r, b1) ∧ Rl a1 b1
def AllSim (Rl : SS → SS → Prop) : Prop := Sim_feed Rl ∧ Sim_contract Rl ∧ Sim_fault Rl ∧ Sim_answer Rl ∧ Sim_forget Rl ∧ Sim_strike Rl ∧ Sim_drift Rl ∧ Sim_undo Rl ∧ Sim_answerOf Rl ∧ Sim_told Rl ∧ Sim_wrong Rl ∧ Sim_clause Rl ∧ Sim_part Rl ∧ Sim_number Rl ∧ Sim_hangs Rl ∧ Sim_term Rl ∧ Sim_by Rl ∧ Sim_sign Rl ∧ Sim_keep Rl ∧ Sim_goBack Rl
set_option maxRecDepth 100000 in
set_option maxHeartbeats 4000000 in
theorem lc_feed {X : Bx} {gX gM : Gx} {bs L : Nat} {xs : Nat → Int32} {x3 : Int32} {Rl : SS → SS → Prop} (hX : Okl X gX gM bs L xs) (hs : Sim_feed Rl) (h1 : vp_in (x3 + (1 : Int32)) L) (h2 : vp_in (x3 + (2 : Int32)) L) (h3 : vp_in (x3 + (3 : Int32)) L) {a b : SS} (hRl : Rl a b) (hk : ∀ a b, Rl a b → Vl X gX gM a b 680 [(0, .ref bs), (1, .ref (gX.2.1 0)), (2, .ref (gM.2.1 0)), (3, .int x3)] []) : Vl X gX gM a b 128 [(0, .ref bs), (1, .ref (gX.2.1 0)), (2, .ref (gM.2.1 0)), (3, .int x3)] [] := by
  refine vl_aload_n hX dL_law_128 rfl ?_
  refine vl_aload_n hX dL_law_129 rfl ?_
  refine vl_iload_n hX dL_law_130 rfl ?_
  refine vl_iconst (v := (1 : Int32)) hX dL_law_131 (by decide) ?_
  refine vl_iadd hX dL_law_132 ?_
  refine vl_sld hX h1 dL_law_133 ?_
  obtain ⟨r, a1, b1, hA1, hB1, hR1⟩ := hs a b hRl ((xs (Int32.toNatClampNeg (x3 + (1 : Int32)))))
  refine vl_callX (st := []) hX (c_X7_feed hA1) ce_X7_feed q332 ⟨rfl, rfl⟩ ⟨by decide, by decide⟩ rfl rfl rfl rfl (xo_0 _ _) rfl (Nat.le_of_ble_eq_true rfl) dL_law_134 ?_
  show Vl X gX gM a1 b 137 [(0, .ref bs), (1, .ref (gX.2.1 0)), (2, .ref (gM.2.1 0)), (3, .int x3)] [.int r]
  refine vl_aload_n hX dL_law_137 rfl ?_
  refine vl_aload_n hX dL_law_138 rfl ?_
  refine vl_iload_n hX dL_law_139 rfl ?_
  refine vl_iconst (v := (1 : Int32)) hX dL_law_140 (by decide) ?_
  refine vl_iadd hX dL_law_141 ?_
  refine vl_sld hX h1 dL_law_142 ?_
  refine vl_callM (st := [.int r]) hX (c_X8_feed hB1) ce_X8_feed q891 ⟨rfl, rfl⟩ ⟨by decide, by decide⟩ rfl rfl rfl rfl (mo_0 _ _) rfl (Nat.le_of_ble_eq_true rfl) dL_law_143 ?_
  show Vl X gX gM a1 b1 146 [(0, .ref bs), (1, .ref (gX.2.1 0)), (2, .ref (gM.2.1 0)), (3, .int x3)] [.int r, .int r]
  refine vl_icmp_eq (tgt := 680) hX dL_law_146 (by decide) ?_
  exact hk a1 b1 hR1
set_option maxRecDepth 100000 in
set_option maxHeartbeats 4000000 in
theorem lc_contract {X : Bx} {gX gM : Gx} {bs L : Nat} {xs : Nat → Int32} {x3 : Int32} {Rl : SS → SS → Prop} (hX : Okl X gX gM bs L xs) (hs : Sim_contract Rl) (h1 : vp_in (x3 + (1 : Int32)) L) (h2 : vp_in (x3 + (2 : Int32)) L) (h3 : vp_in (x3 + (3 : Int32)) L) {a b : SS} (hRl : Rl a b) (hk : ∀ a b, Rl a b → Vl X gX gM a b 680 [(0, .ref bs), (1, .ref (gX.2.1 0)), (2, .ref (gM.2.1 0)), (3, .int x3)] []) : Vl X gX gM a b 151 [(0, .ref bs), (1, .ref (gX.2.1 0)), (2, .ref (gM.2.1 0)), (3, .int x3)] [] := by
  refine vl_aload_n hX dL_law_151 rfl ?_
  obtain ⟨r, a1, b1, hA1, hB1, hR1⟩ := hs a b hRl 
  refine vl_callX (st := []) hX (c_X7_contract hA1) ce_X7_contract q342 ⟨rfl, rfl⟩ ⟨by decide, by decide⟩ rfl rfl rfl rfl (xo_0 _ _) rfl (Nat.le_of_ble_eq_true rfl) dL_law_152 ?_
  show Vl X gX gM a1 b 155 [(0, .ref bs), (1, .ref (gX.2.1 0)), (2, .ref (gM.2.1 0)), (3, .int x3)] [.int r]
  refine vl_aload_n hX dL_law_155 rfl ?_
  refine vl_callM (st := [.int r]) hX (c_X8_contract hB1) ce_X8_contract q900 ⟨rfl, rfl⟩ ⟨by decide, by decide⟩ rfl rfl rfl rfl (mo_0 _ _) rfl (Nat.le_of_ble_eq_true rfl) dL_law_156 ?_
  show Vl X gX gM a1 b1 159 [(0, .ref bs), (1, .ref (gX.2.1 0)), (2, .ref (gM.2.1 0)), (3, .int x3)] [.int r, .int r]
  refine vl_icmp_eq (tgt := 680) hX dL_law_159 (by decide) ?_
  exact hk a1 b1 hR1
set_option maxRecDepth 100000 in
set_option maxHeartbeats 4000000 in
theorem lc_fault {X : Bx} {gX gM : Gx} {bs L : Nat} {xs : Nat → Int32} {x3 : Int32} {Rl : SS → SS → Prop} (hX : Okl X gX gM bs L xs) (hs : Sim_fault Rl) (h1 : vp_in (x3 + (1 : Int32)) L) (h2 : vp_in (x3 + (2 : Int32)) L) (h3 : vp_in (x3 + (3 : Int32)) L) {a b : SS} (hRl : Rl a b) (hk : ∀ a b, Rl a b → Vl X gX gM a b 680 [(0, .ref bs), (1, .ref (gX.2.1 0)), (2, .ref (gM.2.1 0)), (3, .int x3)] []) : Vl X gX gM a b 164 [(0, .ref bs), (1, .ref (gX.2.1 0)), (2, .ref (gM.2.1 0)), (3, .int x3)] [] := by
  refine vl_aload_n hX dL_law_164 rfl ?_
  obtain ⟨r, a1, b1, hA1, hB1, hR1⟩ := hs a b hRl 
  refine vl_callX (st := []) hX (c_X7_fault hA1) ce_X7_fault q473 ⟨rfl, rfl⟩ ⟨by decide, by decide⟩ rfl rfl rfl rfl (xo_0 _ _) rfl (Nat.le_of_ble_eq_true rfl) dL_law_165 ?_
  show Vl X gX gM a b 168 [(0, .ref bs), (1, .ref (gX.2.1 0)), (2, .ref (gM.2.1 0)), (3, .int x3)] [.int r]
  refine vl_aload_n hX dL_law_168 rfl ?_
  refine vl_callM (st := [.int r]) hX (c_X8_fault hB1) ce_X8_fault q938 ⟨rfl, rfl⟩ ⟨by decide, by decide⟩ rfl rfl rfl rfl (mo_0 _ _) rfl (Nat.le_of_ble_eq_true rfl) dL_law_169 ?_
  show Vl X gX gM a b 172 [(0, .ref bs), (1, .ref (gX.2.1 0)), (2, .ref (gM.2.1 0)), (3, .int x3)] [.int r, .int r]
  refine vl_icmp_eq (tgt := 680) hX dL_law_172 (by decide) ?_
  exact hk a b hR1
set_option maxRecDepth 100000 in
set_option maxHeartbeats 4000000 in
theorem lc_answer {X : Bx} {gX gM : Gx} {bs L : Nat} {xs : Nat → Int32} {x3 : Int32} {Rl : SS → SS → Prop} (hX : Okl X gX gM bs L xs) (hs : Sim_answer Rl) (h1 : vp_in (x3 + (1 : Int32)) L) (h2 : vp_in (x3 + (2 : Int32)) L) (h3 : vp_in (x3 + (3 : Int32)) L) {a b : SS} (hRl : Rl a b) (hk : ∀ a b, Rl a b → Vl X gX gM a b 680 [(0, .ref bs), (1, .ref (gX.2.1 0)), (2, .ref (gM.2.1 0)), (3, .int x3)] []) : Vl X gX gM a b 177 [(0, .ref bs), (1, .ref (gX.2.1 0)), (2, .ref (gM.2.1 0)), (3, .int x3)] [] := by
  refine vl_aload_n hX dL_law_177 rfl ?_
  refine vl_aload_n hX dL_law_178 rfl ?_
  refine vl_iload_n hX dL_law_179 rfl ?_
  refine vl_iconst (v := (1 : Int32)) hX dL_law_180 (by decide) ?_
  refine vl_iadd hX dL_law_181 ?_
  refine vl_sld hX h1 dL_law_182 ?_
  refine vl_aload_n hX dL_law_183 rfl ?_
  refine vl_iload_n hX dL_law_184 rfl ?_
  refine vl_iconst (v := (2 : Int32)) hX dL_law_185 (by decide) ?_
  refine vl_iadd hX dL_law_186 ?_
  refine vl_sld hX h2 dL_law_187 ?_
  refine vl_if_eq (tgt := 195) hX dL_law_188 (by decide) (fun c => ?_) (fun c => ?_)
  · refine vl_iconst (v := (0 : Int32)) hX dL_law_195 (by decide) ?_
    obtain ⟨r, a1, b1, hA1, hB1, hR1⟩ := hs a b hRl ((xs (Int32.toNatClampNeg (x3 + (1 : Int32))))) ((0 : Int32)) (Or.inl rfl)
    refine vl_callX (st := []) hX (c_X7_answer hA1) ce_X7_answer q477 ⟨rfl, rfl⟩ ⟨by decide, by decide⟩ rfl rfl rfl rfl (xo_0 _ _) rfl (Nat.le_of_ble_eq_true rfl) dL_law_196 ?_
    show Vl X gX gM a1 b 199 [(0, .ref bs), (1, .ref (gX.2.1 0)), (2, .ref (gM.2.1 0)), (3, .int x3)] [.int r]
    refine vl_aload_n hX dL_law_199 rfl ?_
    refine vl_aload_n hX dL_law_200 rfl ?_
    refine vl_iload_n hX dL_law_201 rfl ?_
    refine vl_iconst (v := (1 : Int32)) hX dL_law_202 (by decide) ?_
    refine vl_iadd hX dL_law_203 ?_
    refine vl_sld hX h1 dL_law_204 ?_
    refine vl_aload_n hX dL_law_205 rfl ?_
    refine vl_iload_n hX dL_law_206 rfl ?_
    refine vl_iconst (v := (2 : Int32)) hX dL_law_207 (by decide) ?_
    refine vl_iadd hX dL_law_208 ?_
    refine vl_sld hX h2 dL_law_209 ?_
    refine vl_if_eq (tgt := 217) hX dL_law_210 (by decide) (fun _ => ?_) (fun c2 => absurd c c2)
    refine vl_iconst (v := (0 : Int32)) hX dL_law_217 (by decide) ?_
    refine vl_callM (st := [.int r]) hX (c_X8_answer hB1) ce_X8_answer q947 ⟨rfl, rfl⟩ ⟨by decide, by decide⟩ rfl rfl rfl rfl (mo_0 _ _) rfl (Nat.le_of_ble_eq_true rfl) dL_law_218 ?_
    show Vl X gX gM a1 b1 221 [(0, .ref bs), (1, .ref (gX.2.1 0)), (2, .ref (gM.2.1 0)), (3, .int x3)] [.int r, .int r]
    refine vl_icmp_eq (tgt := 680) hX dL_law_221 (by decide) ?_
    exact hk a1 b1 hR1
  · refine vl_iconst (v := (1 : Int32)) hX dL_law_191 (by decide) ?_
    refine vl_goto (tgt := 196) hX dL_law_192 (by decide) ?_
    obtain ⟨r, a1, b1, hA1, hB1, hR1⟩ := hs a b hRl ((xs (Int32.toNatClampNeg (x3 + (1 : Int32))))) ((1 : Int32)) (Or.inr rfl)
    refine vl_callX (st := []) hX (c_X7_answer hA1) ce_X7_answer q477 ⟨rfl, rfl⟩ ⟨by decide, by decide⟩ rfl rfl rfl rfl (xo_0 _ _) rfl (Nat.le_of_ble_eq_true rfl) dL_law_196 ?_
    show Vl X gX gM a1 b 199 [(0, .ref bs), (1, .ref (gX.2.1 0)), (2, .ref (gM.2.1 0)), (3, .int x3)] [.int r]
    refine vl_aload_n hX dL_law_199 rfl ?_
    refine vl_aload_n hX dL_law_200 rfl ?_
    refine vl_iload_n hX dL_law_201 rfl ?_
    refine vl_iconst (v := (1 : Int32)) hX dL_law_202 (by decide) ?_
    refine vl_iadd hX dL_law_203 ?_
    refine vl_sld hX h1 dL_law_204 ?_
    refine vl_aload_n hX dL_law_205 rfl ?_
    refine vl_iload_n hX dL_law_206 rfl ?_
    refine vl_iconst (v := (2 : Int32)) hX dL_law_207 (by decide) ?_
    refine vl_iadd hX dL_law_208 ?_
    refine vl_sld hX h2 dL_law_209 ?_
    refine vl_if_eq (tgt := 217) hX dL_law_210 (by decide) (fun c2 => absurd c2 c) (fun _ => ?_)
    refine vl_iconst (v := (1 : Int32)) hX dL_law_213 (by decide) ?_
    refine vl_goto (tgt := 218) hX dL_law_214 (by decide) ?_
    refine vl_callM (st := [.int r]) hX (c_X8_answer hB1) ce_X8_answer q947 ⟨rfl, rfl⟩ ⟨by decide, by decide⟩ rfl rfl rfl rfl (mo_0 _ _) rfl (Nat.le_of_ble_eq_true rfl) dL_law_218 ?_
    show Vl X gX gM a1 b1 221 [(0, .ref bs), (1, .ref (gX.2.1 0)), (2, .ref (gM.2.1 0)), (3, .int x3)] [.int r, .int r]
    refine vl_icmp_eq (tgt := 680) hX dL_law_221 (by decide) ?_
    exact hk a1 b1 hR1
set_option maxRecDepth 100000 in
set_option maxHeartbeats 4000000 in
theorem lc_forget {X : Bx} {gX gM : Gx} {bs L : Nat} {xs : Nat → Int32} {x3 : Int32} {Rl : SS → SS → Prop} (hX : Okl X gX gM bs L xs) (hs : Sim_forget Rl) (h1 : vp_in (x3 + (1 : Int32)) L) (h2 : vp_in (x3 + (2 : Int32)) L) (h3 : vp_in (x3 + (3 : Int32)) L) {a b : SS} (hRl : Rl a b) (hk : ∀ a b, Rl a b → Vl X gX gM a b 680 [(0, .ref bs), (1, .ref (gX.2.1 0)), (2, .ref (gM.2.1 0)), (3, .int x3)] []) : Vl X gX gM a b 226 [(0, .ref bs), (1, .ref (gX.2.1 0)), (2, .ref (gM.2.1 0)), (3, .int x3)] [] := by
  refine vl_aload_n hX dL_law_226 rfl ?_
  refine vl_aload_n hX dL_law_227 rfl ?_
  refine vl_iload_n hX dL_law_228 rfl ?_
  refine vl_iconst (v := (1 : Int32)) hX dL_law_229 (by decide) ?_
  refine vl_iadd hX dL_law_230 ?_
  refine vl_sld hX h1 dL_law_231 ?_
  obtain ⟨r, a1, b1, hA1, hB1, hR1⟩ := hs a b hRl ((xs (Int32.toNatClampNeg (x3 + (1 : Int32)))))
  refine vl_callX (st := []) hX (c_X7_forget hA1) ce_X7_forget q504 ⟨rfl, rfl⟩ ⟨by decide, by decide⟩ rfl rfl rfl rfl (xo_0 _ _) rfl (Nat.le_of_ble_eq_true rfl) dL_law_232 ?_
  show Vl X gX gM a1 b 235 [(0, .ref bs), (1, .ref (gX.2.1 0)), (2, .ref (gM.2.1 0)), (3, .int x3)] [.int r]
  refine vl_aload_n hX dL_law_235 rfl ?_
  refine vl_aload_n hX dL_law_236 rfl ?_
  refine vl_iload_n hX dL_law_237 rfl ?_
  refine vl_iconst (v := (1 : Int32)) hX dL_law_238 (by decide) ?_
  refine vl_iadd hX dL_law_239 ?_
  refine vl_sld hX h1 dL_law_240 ?_
  refine vl_callM (st := [.int r]) hX (c_X8_forget hB1) ce_X8_forget q957 ⟨rfl, rfl⟩ ⟨by decide, by decide⟩ rfl rfl rfl rfl (mo_0 _ _) rfl (Nat.le_of_ble_eq_true rfl) dL_law_241 ?_
  show Vl X gX gM a1 b1 244 [(0, .ref bs), (1, .ref (gX.2.1 0)), (2, .ref (gM.2.1 0)), (3, .int x3)] [.int r, .int r]
  refine vl_icmp_eq (tgt := 680) hX dL_law_244 (by decide) ?_
  exact hk a1 b1 hR1
set_option maxRecDepth 100000 in
set_option maxHeartbeats 4000000 in
theorem lc_strike {X : Bx} {gX gM : Gx} {bs L : Nat} {xs : Nat → Int32} {x3 : Int32} {Rl : SS → SS → Prop} (hX : Okl X gX gM bs L xs) (hs : Sim_strike Rl) (h1 : vp_in (x3 + (1 : Int32)) L) (h2 : vp_in (x3 + (2 : Int32)) L) (h3 : vp_in (x3 + (3 : Int32)) L) {a b : SS} (hRl : Rl a b) (hk : ∀ a b, Rl a b → Vl X gX gM a b 680 [(0, .ref bs), (1, .ref (gX.2.1 0)), (2, .ref (gM.2.1 0)), (3, .int x3)] []) : Vl X gX gM a b 249 [(0, .ref bs), (1, .ref (gX.2.1 0)), (2, .ref (gM.2.1 0)), (3, .int x3)] [] := by
  refine vl_aload_n hX dL_law_249 rfl ?_
  refine vl_aload_n hX dL_law_250 rfl ?_
  refine vl_iload_n hX dL_law_251 rfl ?_
  refine vl_iconst (v := (1 : Int32)) hX dL_law_252 (by decide) ?_
  refine vl_iadd hX dL_law_253 ?_
  refine vl_sld hX h1 dL_law_254 ?_
  refine vl_aload_n hX dL_law_255 rfl ?_
  refine vl_iload_n hX dL_law_256 rfl ?_
  refine vl_iconst (v := (2 : Int32)) hX dL_law_257 (by decide) ?_
  refine vl_iadd hX dL_law_258 ?_
  refine vl_sld hX h2 dL_law_259 ?_
  refine vl_if_eq (tgt := 267) hX dL_law_260 (by decide) (fun c => ?_) (fun c => ?_)
  · refine vl_iconst (v := (0 : Int32)) hX dL_law_267 (by decide) ?_
    obtain ⟨r, a1, b1, hA1, hB1, hR1⟩ := hs a b hRl ((xs (Int32.toNatClampNeg (x3 + (1 : Int32))))) ((0 : Int32)) (Or.inl rfl)
    refine vl_callX (st := []) hX (c_X7_strike hA1) ce_X7_strike q508 ⟨rfl, rfl⟩ ⟨by decide, by decide⟩ rfl rfl rfl rfl (xo_0 _ _) rfl (Nat.le_of_ble_eq_true rfl) dL_law_268 ?_
    show Vl X gX gM a1 b 271 [(0, .ref bs), (1, .ref (gX.2.1 0)), (2, .ref (gM.2.1 0)), (3, .int x3)] [.int r]
    refine vl_aload_n hX dL_law_271 rfl ?_
    refine vl_aload_n hX dL_law_272 rfl ?_
    refine vl_iload_n hX dL_law_273 rfl ?_
    refine vl_iconst (v := (1 : Int32)) hX dL_law_274 (by decide) ?_
    refine vl_iadd hX dL_law_275 ?_
    refine vl_sld hX h1 dL_law_276 ?_
    refine vl_aload_n hX dL_law_277 rfl ?_
    refine vl_iload_n hX dL_law_278 rfl ?_
    refine vl_iconst (v := (2 : Int32)) hX dL_law_279 (by decide) ?_
    refine vl_iadd hX dL_law_280 ?_
    refine vl_sld hX h2 dL_law_281 ?_
    refine vl_if_eq (tgt := 289) hX dL_law_282 (by decide) (fun _ => ?_) (fun c2 => absurd c c2)
    refine vl_iconst (v := (0 : Int32)) hX dL_law_289 (by decide) ?_
    refine vl_callM (st := [.int r]) hX (c_X8_strike hB1) ce_X8_strike q961 ⟨rfl, rfl⟩ ⟨by decide, by decide⟩ rfl rfl rfl rfl (mo_0 _ _) rfl (Nat.le_of_ble_eq_true rfl) dL_law_290 ?_
    show Vl X gX gM a1 b1 293 [(0, .ref bs), (1, .ref (gX.2.1 0)), (2, .ref (gM.2.1 0)), (3, .int x3)] [.int r, .int r]
    refine vl_icmp_eq (tgt := 680) hX dL_law_293 (by decide) ?_
    exact hk a1 b1 hR1
  · refine vl_iconst (v := (1 : Int32)) hX dL_law_263 (by decide) ?_
    refine vl_goto (tgt := 268) hX dL_law_264 (by decide) ?_
    obtain ⟨r, a1, b1, hA1, hB1, hR1⟩ := hs a b hRl ((xs (Int32.toNatClampNeg (x3 + (1 : Int32))))) ((1 : Int32)) (Or.inr rfl)
    refine vl_callX (st := []) hX (c_X7_strike hA1) ce_X7_strike q508 ⟨rfl, rfl⟩ ⟨by decide, by decide⟩ rfl rfl rfl rfl (xo_0 _ _) rfl (Nat.le_of_ble_eq_true rfl) dL_law_268 ?_
    show Vl X gX gM a1 b 271 [(0, .ref bs), (1, .ref (gX.2.1 0)), (2, .ref (gM.2.1 0)), (3, .int x3)] [.int r]
    refine vl_aload_n hX dL_law_271 rfl ?_
    refine vl_aload_n hX dL_law_272 rfl ?_
    refine vl_iload_n hX dL_law_273 rfl ?_
    refine vl_iconst (v := (1 : Int32)) hX dL_law_274 (by decide) ?_
    refine vl_iadd hX dL_law_275 ?_
    refine vl_sld hX h1 dL_law_276 ?_
    refine vl_aload_n hX dL_law_277 rfl ?_
    refine vl_iload_n hX dL_law_278 rfl ?_
    refine vl_iconst (v := (2 : Int32)) hX dL_law_279 (by decide) ?_
    refine vl_iadd hX dL_law_280 ?_
    refine vl_sld hX h2 dL_law_281 ?_
    refine vl_if_eq (tgt := 289) hX dL_law_282 (by decide) (fun c2 => absurd c2 c) (fun _ => ?_)
    refine vl_iconst (v := (1 : Int32)) hX dL_law_285 (by decide) ?_
    refine vl_goto (tgt := 290) hX dL_law_286 (by decide) ?_
    refine vl_callM (st := [.int r]) hX (c_X8_strike hB1) ce_X8_strike q961 ⟨rfl, rfl⟩ ⟨by decide, by decide⟩ rfl rfl rfl rfl (mo_0 _ _) rfl (Nat.le_of_ble_eq_true rfl) dL_law_290 ?_
    show Vl X gX gM a1 b1 293 [(0, .ref bs), (1, .ref (gX.2.1 0)), (2, .ref (gM.2.1 0)), (3, .int x3)] [.int r, .int r]
    refine vl_icmp_eq (tgt := 680) hX dL_law_293 (by decide) ?_
    exact hk a1 b1 hR1
set_option maxRecDepth 100000 in
set_option maxHeartbeats 4000000 in
theorem lc_drift {X : Bx} {gX gM : Gx} {bs L : Nat} {xs : Nat → Int32} {x3 : Int32} {Rl : SS → SS → Prop} (hX : Okl X gX gM bs L xs) (hs : Sim_drift Rl) (h1 : vp_in (x3 + (1 : Int32)) L) (h2 : vp_in (x3 + (2 : Int32)) L) (h3 : vp_in (x3 + (3 : Int32)) L) {a b : SS} (hRl : Rl a b) (hk : ∀ a b, Rl a b → Vl X gX gM a b 680 [(0, .ref bs), (1, .ref (gX.2.1 0)), (2, .ref (gM.2.1 0)), (3, .int x3)] []) : Vl X gX gM a b 298 [(0, .ref bs), (1, .ref (gX.2.1 0)), (2, .ref (gM.2.1 0)), (3, .int x3)] [] := by
  refine vl_aload_n hX dL_law_298 rfl ?_
  refine vl_aload_n hX dL_law_299 rfl ?_
  refine vl_iload_n hX dL_law_300 rfl ?_
  refine vl_iconst (v := (1 : Int32)) hX dL_law_301 (by decide) ?_
  refine vl_iadd hX dL_law_302 ?_
  refine vl_sld hX h1 dL_law_303 ?_
  obtain ⟨r, a1, b1, hA1, hB1, hR1⟩ := hs a b hRl ((xs (Int32.toNatClampNeg (x3 + (1 : Int32)))))
  refine vl_callX (st := []) hX (c_X7_drift hA1) ce_X7_drift q534 ⟨rfl, rfl⟩ ⟨by decide, by decide⟩ rfl rfl rfl rfl (xo_0 _ _) rfl (Nat.le_of_ble_eq_true rfl) dL_law_304 ?_
  show Vl X gX gM a1 b 307 [(0, .ref bs), (1, .ref (gX.2.1 0)), (2, .ref (gM.2.1 0)), (3, .int x3)] [.int r]
  refine vl_aload_n hX dL_law_307 rfl ?_
  refine vl_aload_n hX dL_law_308 rfl ?_
  refine vl_iload_n hX dL_law_309 rfl ?_
  refine vl_iconst (v := (1 : Int32)) hX dL_law_310 (by decide) ?_
  refine vl_iadd hX dL_law_311 ?_
  refine vl_sld hX h1 dL_law_312 ?_
  refine vl_callM (st := [.int r]) hX (c_X8_drift hB1) ce_X8_drift q988 ⟨rfl, rfl⟩ ⟨by decide, by decide⟩ rfl rfl rfl rfl (mo_0 _ _) rfl (Nat.le_of_ble_eq_true rfl) dL_law_313 ?_
  show Vl X gX gM a1 b1 316 [(0, .ref bs), (1, .ref (gX.2.1 0)), (2, .ref (gM.2.1 0)), (3, .int x3)] [.int r, .int r]
  refine vl_icmp_eq (tgt := 680) hX dL_law_316 (by decide) ?_
  exact hk a1 b1 hR1
set_option maxRecDepth 100000 in
set_option maxHeartbeats 4000000 in
theorem lc_undo {X : Bx} {gX gM : Gx} {bs L : Nat} {xs : Nat → Int32} {x3 : Int32} {Rl : SS → SS → Prop} (hX : Okl X gX gM bs L xs) (hs : Sim_undo Rl) (h1 : vp_in (x3 + (1 : Int32)) L) (h2 : vp_in (x3 + (2 : Int32)) L) (h3 : vp_in (x3 + (3 : Int32)) L) {a b : SS} (hRl : Rl a b) (hk : ∀ a b, Rl a b → Vl X gX gM a b 680 [(0, .ref bs), (1, .ref (gX.2.1 0)), (2, .ref (gM.2.1 0)), (3, .int x3)] []) : Vl X gX gM a b 321 [(0, .ref bs), (1, .ref (gX.2.1 0)), (2, .ref (gM.2.1 0)), (3, .int x3)] [] := by
  refine vl_aload_n hX dL_law_321 rfl ?_
  obtain ⟨r, a1, b1, hA1, hB1, hR1⟩ := hs a b hRl 
  refine vl_callX (st := []) hX (c_X7_undo hA1) ce_X7_undo q542 ⟨rfl, rfl⟩ ⟨by decide, by decide⟩ rfl rfl rfl rfl (xo_0 _ _) rfl (Nat.le_of_ble_eq_true rfl) dL_law_322 ?_
  show Vl X gX gM a1 b 325 [(0, .ref bs), (1, .ref (gX.2.1 0)), (2, .ref (gM.2.1 0)), (3, .int x3)] [.int r]
  refine vl_aload_n hX dL_law_325 rfl ?_
  refine vl_callM (st := [.int r]) hX (c_X8_undo hB1) ce_X8_undo q997 ⟨rfl, rfl⟩ ⟨by decide, by decide⟩ rfl rfl rfl rfl (mo_0 _ _) rfl (Nat.le_of_ble_eq_true rfl) dL_law_326 ?_
  show Vl X gX gM a1 b1 329 [(0, .ref bs), (1, .ref (gX.2.1 0)), (2, .ref (gM.2.1 0)), (3, .int x3)] [.int r, .int r]
  refine vl_icmp_eq (tgt := 680) hX dL_law_329 (by decide) ?_
  exact hk a1 b1 hR1
set_option maxRecDepth 100000 in
set_option maxHeartbeats 4000000 in
theorem lc_answerOf {X : Bx} {gX gM : Gx} {bs L : Nat} {xs : Nat → Int32} {x3 : Int32} {Rl : SS → SS → Prop} (hX : Okl X gX gM bs L xs) (hs : Sim_answerOf Rl) (h1 : vp_in (x3 + (1 : Int32)) L) (h2 : vp_in (x3 + (2 : Int32)) L) (h3 : vp_in (x3 + (3 : Int32)) L) {a b : SS} (hRl : Rl a b) (hk : ∀ a b, Rl a b → Vl X gX gM a b 680 [(0, .ref bs), (1, .ref (gX.2.1 0)), (2, .ref (gM.2.1 0)), (3, .int x3)] []) : Vl X gX gM a b 334 [(0, .ref bs), (1, .ref (gX.2.1 0)), (2, .ref (gM.2.1 0)), (3, .int x3)] [] := by
  refine vl_aload_n hX dL_law_334 rfl ?_
  refine vl_aload_n hX dL_law_335 rfl ?_
  refine vl_iload_n hX dL_law_336 rfl ?_
  refine vl_iconst (v := (1 : Int32)) hX dL_law_337 (by decide) ?_
  refine vl_iadd hX dL_law_338 ?_
  refine vl_sld hX h1 dL_law_339 ?_
  obtain ⟨r, a1, b1, hA1, hB1, hR1⟩ := hs a b hRl ((xs (Int32.toNatClampNeg (x3 + (1 : Int32)))))
  refine vl_callX (st := []) hX (c_X7_answerOf hA1) ce_X7_answerOf q558 ⟨rfl, rfl⟩ ⟨by decide, by decide⟩ rfl rfl rfl rfl (xo_0 _ _) rfl (Nat.le_of_ble_eq_true rfl) dL_law_340 ?_
  show Vl X gX gM a b 343 [(0, .ref bs), (1, .ref (gX.2.1 0)), (2, .ref (gM.2.1 0)), (3, .int x3)] [.int r]
  refine vl_aload_n hX dL_law_343 rfl ?_
  refine vl_aload_n hX dL_law_344 rfl ?_
  refine vl_iload_n hX dL_law_345 rfl ?_
  refine vl_iconst (v := (1 : Int32)) hX dL_law_346 (by decide) ?_
  refine vl_iadd hX dL_law_347 ?_
  refine vl_sld hX h1 dL_law_348 ?_
  refine vl_callM (st := [.int r]) hX (c_X8_answerOf hB1) ce_X8_answerOf q942 ⟨rfl, rfl⟩ ⟨by decide, by decide⟩ rfl rfl rfl rfl (mo_0 _ _) rfl (Nat.le_of_ble_eq_true rfl) dL_law_349 ?_
  show Vl X gX gM a b 352 [(0, .ref bs), (1, .ref (gX.2.1 0)), (2, .ref (gM.2.1 0)), (3, .int x3)] [.int r, .int r]
  refine vl_icmp_eq (tgt := 680) hX dL_law_352 (by decide) ?_
  exact hk a b hR1
set_option maxRecDepth 100000 in
set_option maxHeartbeats 4000000 in
theorem lc_told {X : Bx} {gX gM : Gx} {bs L : Nat} {xs : Nat → Int32} {x3 : Int32} {Rl : SS → SS → Prop} (hX : Okl X gX gM bs L xs) (hs : Sim_told Rl) (h1 : vp_in (x3 + (1 : Int32)) L) (h2 : vp_in (x3 + (2 : Int32)) L) (h3 : vp_in (x3 + (3 : Int32)) L) {a b : SS} (hRl : Rl a b) (hk : ∀ a b, Rl a b → Vl X gX gM a b 680 [(0, .ref bs), (1, .ref (gX.2.1 0)), (2, .ref (gM.2.1 0)), (3, .int x3)] []) : Vl X gX gM a b 357 [(0, .ref bs), (1, .ref (gX.2.1 0)), (2, .ref (gM.2.1 0)), (3, .int x3)] [] := by
  refine vl_aload_n hX dL_law_357 rfl ?_
  refine vl_aload_n hX dL_law_358 rfl ?_
  refine vl_iload_n hX dL_law_359 rfl ?_
  refine vl_iconst (v := (1 : Int32)) hX dL_law_360 (by decide) ?_
  refine vl_iadd hX dL_law_361 ?_
  refine vl_sld hX h1 dL_law_362 ?_
  obtain ⟨r, a1, b1, hA1, hB1, hR1⟩ := hs a b hRl ((xs (Int32.toNatClampNeg (x3 + (1 : Int32)))))
  refine vl_callX (st := []) hX (c_X7_told hA1) ce_X7_told q562 ⟨rfl, rfl⟩ ⟨by decide, by decide⟩ rfl rfl rfl rfl (xo_0 _ _) rfl (Nat.le_of_ble_eq_true rfl) dL_law_363 ?_
  show Vl X gX gM a1 b 366 [(0, .ref bs), (1, .ref (gX.2.1 0)), (2, .ref (gM.2.1 0)), (3, .int x3)] [.int r]
  refine vl_aload_n hX dL_law_366 rfl ?_
  refine vl_aload_n hX dL_law_367 rfl ?_
  refine vl_iload_n hX dL_law_368 rfl ?_
  refine vl_iconst (v := (1 : Int32)) hX dL_law_369 (by decide) ?_
  refine vl_iadd hX dL_law_370 ?_
  refine vl_sld hX h1 dL_law_371 ?_
  refine vl_callM (st := [.int r]) hX (c_X8_told hB1) ce_X8_told q1001 ⟨rfl, rfl⟩ ⟨by decide, by decide⟩ rfl rfl rfl rfl (mo_0 _ _) rfl (Nat.le_of_ble_eq_true rfl) dL_law_372 ?_
  show Vl X gX gM a1 b1 375 [(0, .ref bs), (1, .ref (gX.2.1 0)), (2, .ref (gM.2.1 0)), (3, .int x3)] [.int r, .int r]
  refine vl_icmp_eq (tgt := 680) hX dL_law_375 (by decide) ?_
  exact hk a1 b1 hR1
set_option maxRecDepth 100000 in
set_option maxHeartbeats 4000000 in
theorem lc_wrong {X : Bx} {gX gM : Gx} {bs L : Nat} {xs : Nat → Int32} {x3 : Int32} {Rl : SS → SS → Prop} (hX : Okl X gX gM bs L xs) (hs : Sim_wrong Rl) (h1 : vp_in (x3 + (1 : Int32)) L) (h2 : vp_in (x3 + (2 : Int32)) L) (h3 : vp_in (x3 + (3 : Int32)) L) {a b : SS} (hRl : Rl a b) (hk : ∀ a b, Rl a b → Vl X gX gM a b 680 [(0, .ref bs), (1, .ref (gX.2.1 0)), (2, .ref (gM.2.1 0)), (3, .int x3)] []) : Vl X gX gM a b 380 [(0, .ref bs), (1, .ref (gX.2.1 0)), (2, .ref (gM.2.1 0)), (3, .int x3)] [] := by
  refine vl_aload_n hX dL_law_380 rfl ?_
  refine vl_aload_n hX dL_law_381 rfl ?_
  refine vl_iload_n hX dL_law_382 rfl ?_
  refine vl_iconst (v := (1 : Int32)) hX dL_law_383 (by decide) ?_
  refine vl_iadd hX dL_law_384 ?_
  refine vl_sld hX h1 dL_law_385 ?_
  obtain ⟨r, a1, b1, hA1, hB1, hR1⟩ := hs a b hRl ((xs (Int32.toNatClampNeg (x3 + (1 : Int32)))))
  refine vl_callX (st := []) hX (c_X7_wrong hA1) ce_X7_wrong q673 ⟨rfl, rfl⟩ ⟨by decide, by decide⟩ rfl rfl rfl rfl (xo_0 _ _) rfl (Nat.le_of_ble_eq_true rfl) dL_law_386 ?_
  show Vl X gX gM a b 389 [(0, .ref bs), (1, .ref (gX.2.1 0)), (2, .ref (gM.2.1 0)), (3, .int x3)] [.int r]
  refine vl_aload_n hX dL_law_389 rfl ?_
  refine vl_aload_n hX dL_law_390 rfl ?_
  refine vl_iload_n hX dL_law_391 rfl ?_
  refine vl_iconst (v := (1 : Int32)) hX dL_law_392 (by decide) ?_
  refine vl_iadd hX dL_law_393 ?_
  refine vl_sld hX h1 dL_law_394 ?_
  refine vl_callM (st := [.int r]) hX (c_X8_wrong hB1) ce_X8_wrong q1073 ⟨rfl, rfl⟩ ⟨by decide, by decide⟩ rfl rfl rfl rfl (mo_0 _ _) rfl (Nat.le_of_ble_eq_true rfl) dL_law_395 ?_
  show Vl X gX gM a b1 398 [(0, .ref bs), (1, .ref (gX.2.1 0)), (2, .ref (gM.2.1 0)), (3, .int x3)] [.int r, .int r]
  refine vl_icmp_eq (tgt := 680) hX dL_law_398 (by decide) ?_
  exact hk a b1 hR1
set_option maxRecDepth 100000 in
set_option maxHeartbeats 4000000 in
theorem lc_clause {X : Bx} {gX gM : Gx} {bs L : Nat} {xs : Nat → Int32} {x3 : Int32} {Rl : SS → SS → Prop} (hX : Okl X gX gM bs L xs) (hs : Sim_clause Rl) (h1 : vp_in (x3 + (1 : Int32)) L) (h2 : vp_in (x3 + (2 : Int32)) L) (h3 : vp_in (x3 + (3 : Int32)) L) {a b : SS} (hRl : Rl a b) (hk : ∀ a b, Rl a b → Vl X gX gM a b 680 [(0, .ref bs), (1, .ref (gX.2.1 0)), (2, .ref (gM.2.1 0)), (3, .int x3)] []) : Vl X gX gM a b 403 [(0, .ref bs), (1, .ref (gX.2.1 0)), (2, .ref (gM.2.1 0)), (3, .int x3)] [] := by
  refine vl_aload_n hX dL_law_403 rfl ?_
  refine vl_aload_n hX dL_law_404 rfl ?_
  refine vl_iload_n hX dL_law_405 rfl ?_
  refine vl_iconst (v := (1 : Int32)) hX dL_law_406 (by decide) ?_
  refine vl_iadd hX dL_law_407 ?_
  refine vl_sld hX h1 dL_law_408 ?_
  refine vl_aload_n hX dL_law_409 rfl ?_
  refine vl_iload_n hX dL_law_410 rfl ?_
  refine vl_iconst (v := (2 : Int32)) hX dL_law_411 (by decide) ?_
  refine vl_iadd hX dL_law_412 ?_
  refine vl_sld hX h2 dL_law_413 ?_
  obtain ⟨r, a1, b1, hA1, hB1, hR1⟩ := hs a b hRl ((xs (Int32.toNatClampNeg (x3 + (1 : Int32))))) ((xs (Int32.toNatClampNeg (x3 + (2 : Int32)))))
  refine vl_callX (st := []) hX (c_X7_clause hA1) ce_X7_clause q699 ⟨rfl, rfl⟩ ⟨by decide, by decide⟩ rfl rfl rfl rfl (xo_0 _ _) rfl (Nat.le_of_ble_eq_true rfl) dL_law_414 ?_
  show Vl X gX gM a b 417 [(0, .ref bs), (1, .ref (gX.2.1 0)), (2, .ref (gM.2.1 0)), (3, .int x3)] [.int r]
  refine vl_aload_n hX dL_law_417 rfl ?_
  refine vl_aload_n hX dL_law_418 rfl ?_
  refine vl_iload_n hX dL_law_419 rfl ?_
  refine vl_iconst (v := (1 : Int32)) hX dL_law_420 (by decide) ?_
  refine vl_iadd hX dL_law_421 ?_
  refine vl_sld hX h1 dL_law_422 ?_
  refine vl_aload_n hX dL_law_423 rfl ?_
  refine vl_iload_n hX dL_law_424 rfl ?_
  refine vl_iconst (v := (2 : Int32)) hX dL_law_425 (by decide) ?_
  refine vl_iadd hX dL_law_426 ?_
  refine vl_sld hX h2 dL_law_427 ?_
  refine vl_callM (st := [.int r]) hX (c_X8_clause hB1) ce_X8_clause q1085 ⟨rfl, rfl⟩ ⟨by decide, by decide⟩ rfl rfl rfl rfl (mo_0 _ _) rfl (Nat.le_of_ble_eq_true rfl) dL_law_428 ?_
  show Vl X gX gM a b 431 [(0, .ref bs), (1, .ref (gX.2.1 0)), (2, .ref (gM.2.1 0)), (3, .int x3)] [.int r, .int r]
  refine vl_icmp_eq (tgt := 680) hX dL_law_431 (by decide) ?_
  exact hk a b hR1
set_option maxRecDepth 100000 in
set_option maxHeartbeats 4000000 in
theorem lc_part {X : Bx} {gX gM : Gx} {bs L : Nat} {xs : Nat → Int32} {x3 : Int32} {Rl : SS → SS → Prop} (hX : Okl X gX gM bs L xs) (hs : Sim_part Rl) (h1 : vp_in (x3 + (1 : Int32)) L) (h2 : vp_in (x3 + (2 : Int32)) L) (h3 : vp_in (x3 + (3 : Int32)) L) {a b : SS} (hRl : Rl a b) (hk : ∀ a b, Rl a b → Vl X gX gM a b 680 [(0, .ref bs), (1, .ref (gX.2.1 0)), (2, .ref (gM.2.1 0)), (3, .int x3)] []) : Vl X gX gM a b 436 [(0, .ref bs), (1, .ref (gX.2.1 0)), (2, .ref (gM.2.1 0)), (3, .int x3)] [] := by
  refine vl_aload_n hX dL_law_436 rfl ?_
  refine vl_aload_n hX dL_law_437 rfl ?_
  refine vl_iload_n hX dL_law_438 rfl ?_
  refine vl_iconst (v := (1 : Int32)) hX dL_law_439 (by decide) ?_
  refine vl_iadd hX dL_law_440 ?_
  refine vl_sld hX h1 dL_law_441 ?_
  refine vl_aload_n hX dL_law_442 rfl ?_
  refine vl_iload_n hX dL_law_443 rfl ?_
  refine vl_iconst (v := (2 : Int32)) hX dL_law_444 (by decide) ?_
  refine vl_iadd hX dL_law_445 ?_
  refine vl_sld hX h2 dL_law_446 ?_
  refine vl_aload_n hX dL_law_447 rfl ?_
  refine vl_iload_n hX dL_law_448 rfl ?_
  refine vl_iconst (v := (3 : Int32)) hX dL_law_449 (by decide) ?_
  refine vl_iadd hX dL_law_450 ?_
  refine vl_sld hX h3 dL_law_451 ?_
  obtain ⟨r, a1, b1, hA1, hB1, hR1⟩ := hs a b hRl ((xs (Int32.toNatClampNeg (x3 + (1 : Int32))))) ((xs (Int32.toNatClampNeg (x3 + (2 : Int32))))) ((xs (Int32.toNatClampNeg (x3 + (3 : Int32)))))
  refine vl_callX (st := []) hX (c_X7_part hA1) ce_X7_part q713 ⟨rfl, rfl⟩ ⟨by decide, by decide⟩ rfl rfl rfl rfl (xo_0 _ _) rfl (Nat.le_of_ble_eq_true rfl) dL_law_452 ?_
  show Vl X gX gM a b 455 [(0, .ref bs), (1, .ref (gX.2.1 0)), (2, .ref (gM.2.1 0)), (3, .int x3)] [.int r]
  refine vl_aload_n hX dL_law_455 rfl ?_
  refine vl_aload_n hX dL_law_456 rfl ?_
  refine vl_iload_n hX dL_law_457 rfl ?_
  refine vl_iconst (v := (1 : Int32)) hX dL_law_458 (by decide) ?_
  refine vl_iadd hX dL_law_459 ?_
  refine vl_sld hX h1 dL_law_460 ?_
  refine vl_aload_n hX dL_law_461 rfl ?_
  refine vl_iload_n hX dL_law_462 rfl ?_
  refine vl_iconst (v := (2 : Int32)) hX dL_law_463 (by decide) ?_
  refine vl_iadd hX dL_law_464 ?_
  refine vl_sld hX h2 dL_law_465 ?_
  refine vl_aload_n hX dL_law_466 rfl ?_
  refine vl_iload_n hX dL_law_467 rfl ?_
  refine vl_iconst (v := (3 : Int32)) hX dL_law_468 (by decide) ?_
  refine vl_iadd hX dL_law_469 ?_
  refine vl_sld hX h3 dL_law_470 ?_
  refine vl_callM (st := [.int r]) hX (c_X8_part hB1) ce_X8_part q1089 ⟨rfl, rfl⟩ ⟨by decide, by decide⟩ rfl rfl rfl rfl (mo_0 _ _) rfl (Nat.le_of_ble_eq_true rfl) dL_law_471 ?_
  show Vl X gX gM a b 474 [(0, .ref bs), (1, .ref (gX.2.1 0)), (2, .ref (gM.2.1 0)), (3, .int x3)] [.int r, .int r]
  refine vl_icmp_eq (tgt := 680) hX dL_law_474 (by decide) ?_
  exact hk a b hR1
set_option maxRecDepth 100000 in
set_option maxHeartbeats 4000000 in
theorem lc_number {X : Bx} {gX gM : Gx} {bs L : Nat} {xs : Nat → Int32} {x3 : Int32} {Rl : SS → SS → Prop} (hX : Okl X gX gM bs L xs) (hs : Sim_number Rl) (h1 : vp_in (x3 + (1 : Int32)) L) (h2 : vp_in (x3 + (2 : Int32)) L) (h3 : vp_in (x3 + (3 : Int32)) L) {a b : SS} (hRl : Rl a b) (hk : ∀ a b, Rl a b → Vl X gX gM a b 680 [(0, .ref bs), (1, .ref (gX.2.1 0)), (2, .ref (gM.2.1 0)), (3, .int x3)] []) : Vl X gX gM a b 479 [(0, .ref bs), (1, .ref (gX.2.1 0)), (2, .ref (gM.2.1 0)), (3, .int x3)] [] := by
  refine vl_aload_n hX dL_law_479 rfl ?_
  refine vl_aload_n hX dL_law_480 rfl ?_
  refine vl_iload_n hX dL_law_481 rfl ?_
  refine vl_iconst (v := (1 : Int32)) hX dL_law_482 (by decide) ?_
  refine vl_iadd hX dL_law_483 ?_
  refine vl_sld hX h1 dL_law_484 ?_
  refine vl_aload_n hX dL_law_485 rfl ?_
  refine vl_iload_n hX dL_law_486 rfl ?_
  refine vl_iconst (v := (2 : Int32)) hX dL_law_487 (by decide) ?_
  refine vl_iadd hX dL_law_488 ?_
  refine vl_sld hX h2 dL_law_489 ?_
  obtain ⟨r, a1, b1, hA1, hB1, hR1⟩ := hs a b hRl ((xs (Int32.toNatClampNeg (x3 + (1 : Int32))))) ((xs (Int32.toNatClampNeg (x3 + (2 : Int32)))))
  refine vl_callX (st := []) hX (c_X7_number hA1) ce_X7_number q721 ⟨rfl, rfl⟩ ⟨by decide, by decide⟩ rfl rfl rfl rfl (xo_0 _ _) rfl (Nat.le_of_ble_eq_true rfl) dL_law_490 ?_
  show Vl X gX gM a b 493 [(0, .ref bs), (1, .ref (gX.2.1 0)), (2, .ref (gM.2.1 0)), (3, .int x3)] [.int r]
  refine vl_aload_n hX dL_law_493 rfl ?_
  refine vl_aload_n hX dL_law_494 rfl ?_
  refine vl_iload_n hX dL_law_495 rfl ?_
  refine vl_iconst (v := (1 : Int32)) hX dL_law_496 (by decide) ?_
  refine vl_iadd hX dL_law_497 ?_
  refine vl_sld hX h1 dL_law_498 ?_
  refine vl_aload_n hX dL_law_499 rfl ?_
  refine vl_iload_n hX dL_law_500 rfl ?_
  refine vl_iconst (v := (2 : Int32)) hX dL_law_501 (by decide) ?_
  refine vl_iadd hX dL_law_502 ?_
  refine vl_sld hX h2 dL_law_503 ?_
  refine vl_callM (st := [.int r]) hX (c_X8_number hB1) ce_X8_number q1093 ⟨rfl, rfl⟩ ⟨by decide, by decide⟩ rfl rfl rfl rfl (mo_0 _ _) rfl (Nat.le_of_ble_eq_true rfl) dL_law_504 ?_
  show Vl X gX gM a b 507 [(0, .ref bs), (1, .ref (gX.2.1 0)), (2, .ref (gM.2.1 0)), (3, .int x3)] [.int r, .int r]
  refine vl_icmp_eq (tgt := 680) hX dL_law_507 (by decide) ?_
  exact hk a b hR1
set_option maxRecDepth 100000 in
set_option maxHeartbeats 4000000 in
theorem lc_hangs {X : Bx} {gX gM : Gx} {bs L : Nat} {xs : Nat → Int32} {x3 : Int32} {Rl : SS → SS → Prop} (hX : Okl X gX gM bs L xs) (hs : Sim_hangs Rl) (h1 : vp_in (x3 + (1 : Int32)) L) (h2 : vp_in (x3 + (2 : Int32)) L) (h3 : vp_in (x3 + (3 : Int32)) L) {a b : SS} (hRl : Rl a b) (hk : ∀ a b, Rl a b → Vl X gX gM a b 680 [(0, .ref bs), (1, .ref (gX.2.1 0)), (2, .ref (gM.2.1 0)), (3, .int x3)] []) : Vl X gX gM a b 512 [(0, .ref bs), (1, .ref (gX.2.1 0)), (2, .ref (gM.2.1 0)), (3, .int x3)] [] := by
  refine vl_aload_n hX dL_law_512 rfl ?_
  refine vl_aload_n hX dL_law_513 rfl ?_
  refine vl_iload_n hX dL_law_514 rfl ?_
  refine vl_iconst (v := (1 : Int32)) hX dL_law_515 (by decide) ?_
  refine vl_iadd hX dL_law_516 ?_
  refine vl_sld hX h1 dL_law_517 ?_
  refine vl_aload_n hX dL_law_518 rfl ?_
  refine vl_iload_n hX dL_law_519 rfl ?_
  refine vl_iconst (v := (2 : Int32)) hX dL_law_520 (by decide) ?_
  refine vl_iadd hX dL_law_521 ?_
  refine vl_sld hX h2 dL_law_522 ?_
  obtain ⟨r, a1, b1, hA1, hB1, hR1⟩ := hs a b hRl ((xs (Int32.toNatClampNeg (x3 + (1 : Int32))))) ((xs (Int32.toNatClampNeg (x3 + (2 : Int32)))))
  refine vl_callX (st := []) hX (c_X7_hangs hA1) ce_X7_hangs q727 ⟨rfl, rfl⟩ ⟨by decide, by decide⟩ rfl rfl rfl rfl (xo_0 _ _) rfl (Nat.le_of_ble_eq_true rfl) dL_law_523 ?_
  show Vl X gX gM a b 526 [(0, .ref bs), (1, .ref (gX.2.1 0)), (2, .ref (gM.2.1 0)), (3, .int x3)] [.int r]
  refine vl_aload_n hX dL_law_526 rfl ?_
  refine vl_aload_n hX dL_law_527 rfl ?_
  refine vl_iload_n hX dL_law_528 rfl ?_
  refine vl_iconst (v := (1 : Int32)) hX dL_law_529 (by decide) ?_
  refine vl_iadd hX dL_law_530 ?_
  refine vl_sld hX h1 dL_law_531 ?_
  refine vl_aload_n hX dL_law_532 rfl ?_
  refine vl_iload_n hX dL_law_533 rfl ?_
  refine vl_iconst (v := (2 : Int32)) hX dL_law_534 (by decide) ?_
  refine vl_iadd hX dL_law_535 ?_
  refine vl_sld hX h2 dL_law_536 ?_
  refine vl_callM (st := [.int r]) hX (c_X8_hangs hB1) ce_X8_hangs q1097 ⟨rfl, rfl⟩ ⟨by decide, by decide⟩ rfl rfl rfl rfl (mo_0 _ _) rfl (Nat.le_of_ble_eq_true rfl) dL_law_537 ?_
  show Vl X gX gM a b1 540 [(0, .ref bs), (1, .ref (gX.2.1 0)), (2, .ref (gM.2.1 0)), (3, .int x3)] [.int r, .int r]
  refine vl_icmp_eq (tgt := 680) hX dL_law_540 (by decide) ?_
  exact hk a b1 hR1
set_option maxRecDepth 100000 in
set_option maxHeartbeats 4000000 in
theorem lc_term {X : Bx} {gX gM : Gx} {bs L : Nat} {xs : Nat → Int32} {x3 : Int32} {Rl : SS → SS → Prop} (hX : Okl X gX gM bs L xs) (hs : Sim_term Rl) (h1 : vp_in (x3 + (1 : Int32)) L) (h2 : vp_in (x3 + (2 : Int32)) L) (h3 : vp_in (x3 + (3 : Int32)) L) {a b : SS} (hRl : Rl a b) (hk : ∀ a b, Rl a b → Vl X gX gM a b 680 [(0, .ref bs), (1, .ref (gX.2.1 0)), (2, .ref (gM.2.1 0)), (3, .int x3)] []) : Vl X gX gM a b 545 [(0, .ref bs), (1, .ref (gX.2.1 0)), (2, .ref (gM.2.1 0)), (3, .int x3)] [] := by
  refine vl_aload_n hX dL_law_545 rfl ?_
  refine vl_aload_n hX dL_law_546 rfl ?_
  refine vl_iload_n hX dL_law_547 rfl ?_
  refine vl_iconst (v := (1 : Int32)) hX dL_law_548 (by decide) ?_
  refine vl_iadd hX dL_law_549 ?_
  refine vl_sld hX h1 dL_law_550 ?_
  refine vl_aload_n hX dL_law_551 rfl ?_
  refine vl_iload_n hX dL_law_552 rfl ?_
  refine vl_iconst (v := (2 : Int32)) hX dL_law_553 (by decide) ?_
  refine vl_iadd hX dL_law_554 ?_
  refine vl_sld hX h2 dL_law_555 ?_
  obtain ⟨r, a1, b1, hA1, hB1, hR1⟩ := hs a b hRl ((xs (Int32.toNatClampNeg (x3 + (1 : Int32))))) ((xs (Int32.toNatClampNeg (x3 + (2 : Int32)))))
  refine vl_callX (st := []) hX (c_X7_term hA1) ce_X7_term q746 ⟨rfl, rfl⟩ ⟨by decide, by decide⟩ rfl rfl rfl rfl (xo_0 _ _) rfl (Nat.le_of_ble_eq_true rfl) dL_law_556 ?_
  show Vl X gX gM a b 559 [(0, .ref bs), (1, .ref (gX.2.1 0)), (2, .ref (gM.2.1 0)), (3, .int x3)] [.int r]
  refine vl_aload_n hX dL_law_559 rfl ?_
  refine vl_aload_n hX dL_law_560 rfl ?_
  refine vl_iload_n hX dL_law_561 rfl ?_
  refine vl_iconst (v := (1 : Int32)) hX dL_law_562 (by decide) ?_
  refine vl_iadd hX dL_law_563 ?_
  refine vl_sld hX h1 dL_law_564 ?_
  refine vl_aload_n hX dL_law_565 rfl ?_
  refine vl_iload_n hX dL_law_566 rfl ?_
  refine vl_iconst (v := (2 : Int32)) hX dL_law_567 (by decide) ?_
  refine vl_iadd hX dL_law_568 ?_
  refine vl_sld hX h2 dL_law_569 ?_
  refine vl_callM (st := [.int r]) hX (c_X8_term hB1) ce_X8_term q1109 ⟨rfl, rfl⟩ ⟨by decide, by decide⟩ rfl rfl rfl rfl (mo_0 _ _) rfl (Nat.le_of_ble_eq_true rfl) dL_law_570 ?_
  show Vl X gX gM a b1 573 [(0, .ref bs), (1, .ref (gX.2.1 0)), (2, .ref (gM.2.1 0)), (3, .int x3)] [.int r, .int r]
  refine vl_icmp_eq (tgt := 680) hX dL_law_573 (by decide) ?_
  exact hk a b1 hR1
set_option maxRecDepth 100000 in
set_option maxHeartbeats 4000000 in
theorem lc_by {X : Bx} {gX gM : Gx} {bs L : Nat} {xs : Nat → Int32} {x3 : Int32} {Rl : SS → SS → Prop} (hX : Okl X gX gM bs L xs) (hs : Sim_by Rl) (h1 : vp_in (x3 + (1 : Int32)) L) (h2 : vp_in (x3 + (2 : Int32)) L) (h3 : vp_in (x3 + (3 : Int32)) L) {a b : SS} (hRl : Rl a b) (hk : ∀ a b, Rl a b → Vl X gX gM a b 680 [(0, .ref bs), (1, .ref (gX.2.1 0)), (2, .ref (gM.2.1 0)), (3, .int x3)] []) : Vl X gX gM a b 578 [(0, .ref bs), (1, .ref (gX.2.1 0)), (2, .ref (gM.2.1 0)), (3, .int x3)] [] := by
  refine vl_aload_n hX dL_law_578 rfl ?_
  refine vl_aload_n hX dL_law_579 rfl ?_
  refine vl_iload_n hX dL_law_580 rfl ?_
  refine vl_iconst (v := (1 : Int32)) hX dL_law_581 (by decide) ?_
  refine vl_iadd hX dL_law_582 ?_
  refine vl_sld hX h1 dL_law_583 ?_
  refine vl_aload_n hX dL_law_584 rfl ?_
  refine vl_iload_n hX dL_law_585 rfl ?_
  refine vl_iconst (v := (2 : Int32)) hX dL_law_586 (by decide) ?_
  refine vl_iadd hX dL_law_587 ?_
  refine vl_sld hX h2 dL_law_588 ?_
  obtain ⟨r, a1, b1, hA1, hB1, hR1⟩ := hs a b hRl ((xs (Int32.toNatClampNeg (x3 + (1 : Int32))))) ((xs (Int32.toNatClampNeg (x3 + (2 : Int32)))))
  refine vl_callX (st := []) hX (c_X7_by hA1) ce_X7_by q759 ⟨rfl, rfl⟩ ⟨by decide, by decide⟩ rfl rfl rfl rfl (xo_0 _ _) rfl (Nat.le_of_ble_eq_true rfl) dL_law_589 ?_
  show Vl X gX gM a b 592 [(0, .ref bs), (1, .ref (gX.2.1 0)), (2, .ref (gM.2.1 0)), (3, .int x3)] [.int r]
  refine vl_aload_n hX dL_law_592 rfl ?_
  refine vl_aload_n hX dL_law_593 rfl ?_
  refine vl_iload_n hX dL_law_594 rfl ?_
  refine vl_iconst (v := (1 : Int32)) hX dL_law_595 (by decide) ?_
  refine vl_iadd hX dL_law_596 ?_
  refine vl_sld hX h1 dL_law_597 ?_
  refine vl_aload_n hX dL_law_598 rfl ?_
  refine vl_iload_n hX dL_law_599 rfl ?_
  refine vl_iconst (v := (2 : Int32)) hX dL_law_600 (by decide) ?_
  refine vl_iadd hX dL_law_601 ?_
  refine vl_sld hX h2 dL_law_602 ?_
  refine vl_callM (st := [.int r]) hX (c_X8_by hB1) ce_X8_by q1113 ⟨rfl, rfl⟩ ⟨by decide, by decide⟩ rfl rfl rfl rfl (mo_0 _ _) rfl (Nat.le_of_ble_eq_true rfl) dL_law_603 ?_
  show Vl X gX gM a b1 606 [(0, .ref bs), (1, .ref (gX.2.1 0)), (2, .ref (gM.2.1 0)), (3, .int x3)] [.int r, .int r]
  refine vl_icmp_eq (tgt := 680) hX dL_law_606 (by decide) ?_
  exact hk a b1 hR1
set_option maxRecDepth 100000 in
set_option maxHeartbeats 4000000 in
theorem lc_sign {X : Bx} {gX gM : Gx} {bs L : Nat} {xs : Nat → Int32} {x3 : Int32} {Rl : SS → SS → Prop} (hX : Okl X gX gM bs L xs) (hs : Sim_sign Rl) (h1 : vp_in (x3 + (1 : Int32)) L) (h2 : vp_in (x3 + (2 : Int32)) L) (h3 : vp_in (x3 + (3 : Int32)) L) {a b : SS} (hRl : Rl a b) (hk : ∀ a b, Rl a b → Vl X gX gM a b 680 [(0, .ref bs), (1, .ref (gX.2.1 0)), (2, .ref (gM.2.1 0)), (3, .int x3)] []) : Vl X gX gM a b 611 [(0, .ref bs), (1, .ref (gX.2.1 0)), (2, .ref (gM.2.1 0)), (3, .int x3)] [] := by
  refine vl_aload_n hX dL_law_611 rfl ?_
  refine vl_aload_n hX dL_law_612 rfl ?_
  refine vl_iload_n hX dL_law_613 rfl ?_
  refine vl_iconst (v := (1 : Int32)) hX dL_law_614 (by decide) ?_
  refine vl_iadd hX dL_law_615 ?_
  refine vl_sld hX h1 dL_law_616 ?_
  obtain ⟨r, a1, b1, hA1, hB1, hR1⟩ := hs a b hRl ((xs (Int32.toNatClampNeg (x3 + (1 : Int32)))))
  refine vl_callX (st := []) hX (c_X7_sign hA1) ce_X7_sign q763 ⟨rfl, rfl⟩ ⟨by decide, by decide⟩ rfl rfl rfl rfl (xo_0 _ _) rfl (Nat.le_of_ble_eq_true rfl) dL_law_617 ?_
  show Vl X gX gM a1 b 620 [(0, .ref bs), (1, .ref (gX.2.1 0)), (2, .ref (gM.2.1 0)), (3, .int x3)] [.int r]
  refine vl_aload_n hX dL_law_620 rfl ?_
  refine vl_aload_n hX dL_law_621 rfl ?_
  refine vl_iload_n hX dL_law_622 rfl ?_
  refine vl_iconst (v := (1 : Int32)) hX dL_law_623 (by decide) ?_
  refine vl_iadd hX dL_law_624 ?_
  refine vl_sld hX h1 dL_law_625 ?_
  refine vl_callM (st := [.int r]) hX (c_X8_sign_ hB1) ce_X8_sign_ q1117 ⟨rfl, rfl⟩ ⟨by decide, by decide⟩ rfl rfl rfl rfl (mo_0 _ _) rfl (Nat.le_of_ble_eq_true rfl) dL_law_626 ?_
  show Vl X gX gM a1 b1 629 [(0, .ref bs), (1, .ref (gX.2.1 0)), (2, .ref (gM.2.1 0)), (3, .int x3)] [.int r, .int r]
  refine vl_icmp_eq (tgt := 680) hX dL_law_629 (by decide) ?_
  exact hk a1 b1 hR1
set_option maxRecDepth 100000 in
set_option maxHeartbeats 4000000 in
theorem lc_keep {X : Bx} {gX gM : Gx} {bs L : Nat} {xs : Nat → Int32} {x3 : Int32} {Rl : SS → SS → Prop} (hX : Okl X gX gM bs L xs) (hs : Sim_keep Rl) (h1 : vp_in (x3 + (1 : Int32)) L) (h2 : vp_in (x3 + (2 : Int32)) L) (h3 : vp_in (x3 + (3 : Int32)) L) {a b : SS} (hRl : Rl a b) (hk : ∀ a b, Rl a b → Vl X gX gM a b 680 [(0, .ref bs), (1, .ref (gX.2.1 0)), (2, .ref (gM.2.1 0)), (3, .int x3)] []) : Vl X gX gM a b 634 [(0, .ref bs), (1, .ref (gX.2.1 0)), (2, .ref (gM.2.1 0)), (3, .int x3)] [] := by
  refine vl_aload_n hX dL_law_634 rfl ?_
  refine vl_aload_n hX dL_law_635 rfl ?_
  refine vl_iload_n hX dL_law_636 rfl ?_
  refine vl_iconst (v := (1 : Int32)) hX dL_law_637 (by decide) ?_
  refine vl_iadd hX dL_law_638 ?_
  refine vl_sld hX h1 dL_law_639 ?_
  obtain ⟨r, a1, b1, hA1, hB1, hR1⟩ := hs a b hRl ((xs (Int32.toNatClampNeg (x3 + (1 : Int32)))))
  refine vl_callX (st := []) hX (c_X7_keep hA1) ce_X7_keep q767 ⟨rfl, rfl⟩ ⟨by decide, by decide⟩ rfl rfl rfl rfl (xo_0 _ _) rfl (Nat.le_of_ble_eq_true rfl) dL_law_640 ?_
  show Vl X gX gM a1 b 643 [(0, .ref bs), (1, .ref (gX.2.1 0)), (2, .ref (gM.2.1 0)), (3, .int x3)] [.int r]
  refine vl_aload_n hX dL_law_643 rfl ?_
  refine vl_aload_n hX dL_law_644 rfl ?_
  refine vl_iload_n hX dL_law_645 rfl ?_
  refine vl_iconst (v := (1 : Int32)) hX dL_law_646 (by decide) ?_
  refine vl_iadd hX dL_law_647 ?_
  refine vl_sld hX h1 dL_law_648 ?_
  refine vl_callM (st := [.int r]) hX (c_X8_keep hB1) ce_X8_keep q1121 ⟨rfl, rfl⟩ ⟨by decide, by decide⟩ rfl rfl rfl rfl (mo_0 _ _) rfl (Nat.le_of_ble_eq_true rfl) dL_law_649 ?_
  show Vl X gX gM a1 b1 652 [(0, .ref bs), (1, .ref (gX.2.1 0)), (2, .ref (gM.2.1 0)), (3, .int x3)] [.int r, .int r]
  refine vl_icmp_eq (tgt := 680) hX dL_law_652 (by decide) ?_
  exact hk a1 b1 hR1
set_option maxRecDepth 100000 in
set_option maxHeartbeats 4000000 in
theorem lc_goBack {X : Bx} {gX gM : Gx} {bs L : Nat} {xs : Nat → Int32} {x3 : Int32} {Rl : SS → SS → Prop} (hX : Okl X gX gM bs L xs) (hs : Sim_goBack Rl) (h1 : vp_in (x3 + (1 : Int32)) L) (h2 : vp_in (x3 + (2 : Int32)) L) (h3 : vp_in (x3 + (3 : Int32)) L) {a b : SS} (hRl : Rl a b) (hk : ∀ a b, Rl a b → Vl X gX gM a b 680 [(0, .ref bs), (1, .ref (gX.2.1 0)), (2, .ref (gM.2.1 0)), (3, .int x3)] []) : Vl X gX gM a b 657 [(0, .ref bs), (1, .ref (gX.2.1 0)), (2, .ref (gM.2.1 0)), (3, .int x3)] [] := by
  refine vl_aload_n hX dL_law_657 rfl ?_
  refine vl_aload_n hX dL_law_658 rfl ?_
  refine vl_iload_n hX dL_law_659 rfl ?_
  refine vl_iconst (v := (1 : Int32)) hX dL_law_660 (by decide) ?_
  refine vl_iadd hX dL_law_661 ?_
  refine vl_sld hX h1 dL_law_662 ?_
  obtain ⟨r, a1, b1, hA1, hB1, hR1⟩ := hs a b hRl ((xs (Int32.toNatClampNeg (x3 + (1 : Int32)))))
  refine vl_callX (st := []) hX (c_X7_goBack hA1) ce_X7_goBack q774 ⟨rfl, rfl⟩ ⟨by decide, by decide⟩ rfl rfl rfl rfl (xo_0 _ _) rfl (Nat.le_of_ble_eq_true rfl) dL_law_663 ?_
  show Vl X gX gM a1 b 666 [(0, .ref bs), (1, .ref (gX.2.1 0)), (2, .ref (gM.2.1 0)), (3, .int x3)] [.int r]
  refine vl_aload_n hX dL_law_666 rfl ?_
  refine vl_aload_n hX dL_law_667 rfl ?_
  refine vl_iload_n hX dL_law_668 rfl ?_
  refine vl_iconst (v := (1 : Int32)) hX dL_law_669 (by decide) ?_
  refine vl_iadd hX dL_law_670 ?_
  refine vl_sld hX h1 dL_law_671 ?_
  refine vl_callM (st := [.int r]) hX (c_X8_goBack hB1) ce_X8_goBack q1125 ⟨rfl, rfl⟩ ⟨by decide, by decide⟩ rfl rfl rfl rfl (mo_0 _ _) rfl (Nat.le_of_ble_eq_true rfl) dL_law_672 ?_
  show Vl X gX gM a1 b1 675 [(0, .ref bs), (1, .ref (gX.2.1 0)), (2, .ref (gM.2.1 0)), (3, .int x3)] [.int r, .int r]
  refine vl_icmp_eq (tgt := 680) hX dL_law_675 (by decide) ?_
  exact hk a1 b1 hR1
set_option maxRecDepth 100000 in
set_option maxHeartbeats 4000000 in
theorem law_loop {X : Bx} {gX gM : Gx} {bs L : Nat} {xs : Nat → Int32} {Rl : SS → SS → Prop} (hX : Okl X gX gM bs L xs) (hL : L ≤ 2048) (hs : AllSim Rl) (hend : ∀ (x3 : Int32) (a b : SS), Vl X gX gM a b 686 [(0, .ref bs), (1, .ref (gX.2.1 0)), (2, .ref (gM.2.1 0)), (3, .int x3)] []) : ∀ (n i : Nat) (x3 : Int32) (a b : SS), i ≤ L → L < i + n → x3 = nI i → Rl a b → Vl X gX gM a b 18 [(0, .ref bs), (1, .ref (gX.2.1 0)), (2, .ref (gM.2.1 0)), (3, .int x3)] [] := by
  intro n
  induction n with
  | zero => intro i x3 a b h1 h2; exact absurd h2 (by omega)
  | succ n ih =>
    intro i x3 a b hi hn ex3 hRl
    refine vl_iload_n hX dL_law_18 rfl ?_
    refine vl_aload_n hX dL_law_19 rfl ?_
    refine vl_slen hX dL_law_20 ?_
    refine vl_iconst (v := (4 : Int32)) hX dL_law_21 (by decide) ?_
    refine vl_isub hX dL_law_22 ?_
    refine vl_icmp_gt (tgt := 686) hX dL_law_23 (by decide) (fun _ => hend x3 a b) (fun c => ?_)
    have hlt : i + 4 ≤ L := by
      have h1 : (nI L - nI 4).toInt = (L : Int) - 4 := pk_sub_toInt (by omega) (by omega)
      have h2 : ¬ (nI L - nI 4) < nI i := by rw [← ex3]; exact c
      rw [Int32.lt_iff_toInt_lt, h1, nI_toInt (show i < 2 ^ 31 by omega)] at h2
      omega
    have k0 : vp_in x3 L := by rw [ex3]; exact vp_in_nI (by omega) (by omega)
    have k1 : vp_in (x3 + (1 : Int32)) L := by rw [ex3, show (1 : Int32) = nI 1 from rfl, nI_add]; exact vp_in_nI (by omega) (by omega)
    have k2 : vp_in (x3 + (2 : Int32)) L := by rw [ex3, show (2 : Int32) = nI 2 from rfl, nI_add]; exact vp_in_nI (by omega) (by omega)
    have k3 : vp_in (x3 + (3 : Int32)) L := by rw [ex3, show (3 : Int32) = nI 3 from rfl, nI_add]; exact vp_in_nI (by omega) (by omega)
    have hk : ∀ a b, Rl a b → Vl X gX gM a b 680 [(0, .ref bs), (1, .ref (gX.2.1 0)), (2, .ref (gM.2.1 0)), (3, .int x3)] [] := by
      intro a b hRl
      refine vl_iinc (q := 3) (v := (x3 + (4 : Int32))) (ls' := [(3, .int (x3 + (4 : Int32))), (0, .ref bs), (1, .ref (gX.2.1 0)), (2, .ref (gM.2.1 0))]) hX dL_law_680 rfl rfl (by decide) rfl ?_
      refine vl_goto (tgt := 18) hX dL_law_683 (by decide) ?_
      refine vl_sub [1, 2, 3, 0] rfl ?_
      exact ih (i + 4) _ a b hlt (by omega) (by rw [ex3, show (4 : Int32) = nI 4 from rfl, nI_add]) hRl
    refine vl_aload_n hX dL_law_26 rfl ?_
    refine vl_iload_n hX dL_law_27 rfl ?_
    refine vl_sld hX k0 dL_law_28 ?_
    refine vl_bipush (v := (31 : Int32)) hX dL_law_29 (by decide) ?_
    refine vl_iand hX dL_law_31 ?_
    generalize (xs (Int32.toNatClampNeg x3)) &&& (31 : Int32) = z
    by_cases c0 : z = (0 : Int32)
    · refine vl_tabK (off := 96) (tgt := 128) hX (0 : Int32) c0 dL_law_32 (by decide) (by decide) (by decide) (by decide) ?_
      exact lc_feed hX (hs.1) k1 k2 k3 hRl hk
    by_cases c1 : z = (1 : Int32)
    · refine vl_tabK (off := 119) (tgt := 151) hX (1 : Int32) c1 dL_law_32 (by decide) (by decide) (by decide) (by decide) ?_
      exact lc_contract hX (hs.2.1) k1 k2 k3 hRl hk
    by_cases c2 : z = (2 : Int32)
    · refine vl_tabK (off := 132) (tgt := 164) hX (2 : Int32) c2 dL_law_32 (by decide) (by decide) (by decide) (by decide) ?_
      exact lc_fault hX (hs.2.2.1) k1 k2 k3 hRl hk
    by_cases c3 : z = (3 : Int32)
    · refine vl_tabK (off := 145) (tgt := 177) hX (3 : Int32) c3 dL_law_32 (by decide) (by decide) (by decide) (by decide) ?_
      exact lc_answer hX (hs.2.2.2.1) k1 k2 k3 hRl hk
    by_cases c4 : z = (4 : Int32)
    · refine vl_tabK (off := 194) (tgt := 226) hX (4 : Int32) c4 dL_law_32 (by decide) (by decide) (by decide) (by decide) ?_
      exact lc_forget hX (hs.2.2.2.2.1) k1 k2 k3 hRl hk
    by_cases c5 : z = (5 : Int32)
    · refine vl_tabK (off := 217) (tgt := 249) hX (5 : Int32) c5 dL_law_32 (by decide) (by decide) (by decide) (by decide) ?_
      exact lc_strike hX (hs.2.2.2.2.2.1) k1 k2 k3 hRl hk
    by_cases c6 : z = (6 : Int32)
    · refine vl_tabK (off := 266) (tgt := 298) hX (6 : Int32) c6 dL_law_32 (by decide) (by decide) (by decide) (by decide) ?_
      exact lc_drift hX (hs.2.2.2.2.2.2.1) k1 k2 k3 hRl hk
    by_cases c7 : z = (7 : Int32)
    · refine vl_tabK (off := 289) (tgt := 321) hX (7 : Int32) c7 dL_law_32 (by decide) (by decide) (by decide) (by decide) ?_
      exact lc_undo hX (hs.2.2.2.2.2.2.2.1) k1 k2 k3 hRl hk
    by_cases c8 : z = (8 : Int32)
    · refine vl_tabK (off := 302) (tgt := 334) hX (8 : Int32) c8 dL_law_32 (by decide) (by decide) (by decide) (by decide) ?_
      exact lc_answerOf hX (hs.2.2.2.2.2.2.2.2.1) k1 k2 k3 hRl hk
    by_cases c9 : z = (9 : Int32)
    · refine vl_tabK (off := 325) (tgt := 357) hX (9 : Int32) c9 dL_law_32 (by decide) (by decide) (by decide) (by decide) ?_
      exact lc_told hX (hs.2.2.2.2.2.2.2.2.2.1) k1 k2 k3 hRl hk
    by_cases c10 : z = (10 : Int32)
    · refine vl_tabK (off := 348) (tgt := 380) hX (10 : Int32) c10 dL_law_32 (by decide) (by decide) (by decide) (by decide) ?_
      exact lc_wrong hX (hs.2.2.2.2.2.2.2.2.2.2.1) k1 k2 k3 hRl hk
    by_cases c11 : z = (11 : Int32)
    · refine vl_tabK (off := 371) (tgt := 403) hX (11 : Int32) c11 dL_law_32 (by decide) (by decide) (by decide) (by decide) ?_
      exact lc_clause hX (hs.2.2.2.2.2.2.2.2.2.2.2.1) k1 k2 k3 hRl hk
    by_cases c12 : z = (12 : Int32)
    · refine vl_tabK (off := 404) (tgt := 436) hX (12 : Int32) c12 dL_law_32 (by decide) (by decide) (by decide) (by decide) ?_
      exact lc_part hX (hs.2.2.2.2.2.2.2.2.2.2.2.2.1) k1 k2 k3 hRl hk
    by_cases c13 : z = (13 : Int32)
    · refine vl_tabK (off := 447) (tgt := 479) hX (13 : Int32) c13 dL_law_32 (by decide) (by decide) (by decide) (by decide) ?_
      exact lc_number hX (hs.2.2.2.2.2.2.2.2.2.2.2.2.2.1) k1 k2 k3 hRl hk
    by_cases c14 : z = (14 : Int32)
    · refine vl_tabK (off := 480) (tgt := 512) hX (14 : Int32) c14 dL_law_32 (by decide) (by decide) (by decide) (by decide) ?_
      exact lc_hangs hX (hs.2.2.2.2.2.2.2.2.2.2.2.2.2.2.1) k1 k2 k3 hRl hk
    by_cases c15 : z = (15 : Int32)
    · refine vl_tabK (off := 513) (tgt := 545) hX (15 : Int32) c15 dL_law_32 (by decide) (by decide) (by decide) (by decide) ?_
      exact lc_term hX (hs.2.2.2.2.2.2.2.2.2.2.2.2.2.2.2.1) k1 k2 k3 hRl hk
    by_cases c16 : z = (16 : Int32)
    · refine vl_tabK (off := 546) (tgt := 578) hX (16 : Int32) c16 dL_law_32 (by decide) (by decide) (by decide) (by decide) ?_
      exact lc_by hX (hs.2.2.2.2.2.2.2.2.2.2.2.2.2.2.2.2.1) k1 k2 k3 hRl hk
    by_cases c17 : z = (17 : Int32)
    · refine vl_tabK (off := 579) (tgt := 611) hX (17 : Int32) c17 dL_law_32 (by decide) (by decide) (by decide) (by decide) ?_
      exact lc_sign hX (hs.2.2.2.2.2.2.2.2.2.2.2.2.2.2.2.2.2.1) k1 k2 k3 hRl hk
    by_cases c18 : z = (18 : Int32)
    · refine vl_tabK (off := 602) (tgt := 634) hX (18 : Int32) c18 dL_law_32 (by decide) (by decide) (by decide) (by decide) ?_
      exact lc_keep hX (hs.2.2.2.2.2.2.2.2.2.2.2.2.2.2.2.2.2.2.1) k1 k2 k3 hRl hk
    by_cases c19 : z = (19 : Int32)
    · refine vl_tabK (off := 625) (tgt := 657) hX (19 : Int32) c19 dL_law_32 (by decide) (by decide) (by decide) (by decide) ?_
      exact lc_goBack hX (hs.2.2.2.2.2.2.2.2.2.2.2.2.2.2.2.2.2.2.2) k1 k2 k3 hRl hk
    have n0 : ¬ z.toInt = 0 := lv_neT c0 rfl
    have n1 : ¬ z.toInt = 1 := lv_neT c1 rfl
    have n2 : ¬ z.toInt = 2 := lv_neT c2 rfl
    have n3 : ¬ z.toInt = 3 := lv_neT c3 rfl
    have n4 : ¬ z.toInt = 4 := lv_neT c4 rfl
    have n5 : ¬ z.toInt = 5 := lv_neT c5 rfl
    have n6 : ¬ z.toInt = 6 := lv_neT c6 rfl
    have n7 : ¬ z.toInt = 7 := lv_neT c7 rfl
    have n8 : ¬ z.toInt = 8 := lv_neT c8 rfl
    have n9 : ¬ z.toInt = 9 := lv_neT c9 rfl
    have n10 : ¬ z.toInt = 10 := lv_neT c10 rfl
    have n11 : ¬ z.toInt = 11 := lv_neT c11 rfl
    have n12 : ¬ z.toInt = 12 := lv_neT c12 rfl
    have n13 : ¬ z.toInt = 13 := lv_neT c13 rfl
    have n14 : ¬ z.toInt = 14 := lv_neT c14 rfl
    have n15 : ¬ z.toInt = 15 := lv_neT c15 rfl
    have n16 : ¬ z.toInt = 16 := lv_neT c16 rfl
    have n17 : ¬ z.toInt = 17 := lv_neT c17 rfl
    have n18 : ¬ z.toInt = 18 := lv_neT c18 rfl
    have n19 : ¬ z.toInt = 19 := lv_neT c19 rfl
    refine vl_tabOut (tgt := 680) hX dL_law_32 (by omega) (by decide) ?_
    exact hk a b hRl
