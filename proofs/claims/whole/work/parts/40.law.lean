-- ===== end of PART A; then your names; then what follows =====
/-! THE CLAIM OUT OF ONE WALK OF THE LAW'S BODY. Your part is whole_start (and what it stands on); all else here is the same for every law, but numbers. -/
def R_law : String := "SpaceBasisLaw"
def lw_P (b : Addr) (xs : List Int32) (args : Array Value) (s : State) : Prop := args = #[.ref b] ∧ s.IntsAt b xs ∧ xs.length ≤ 2048 ∧ (Jvm.Cond.and given_1 narrow_1).before args s = true
def lw_Q (_ : Array Value) (s : State) (o : Outcome) (t : State) : Prop := o = .returned (some (.int 1)) ∧ Framed s o t [] 601024 7293034
def lw_Z (below : List Frame) (a : Array Value) (s : State) : State → Prop := fun t => ∃ o, t.status = .running ∧ Ended t below o ∧ lw_Q a s o t
/-- the law's own end, with 1 on the stack, nothing written that was there before, its room as the claim has it -/
theorem lw_ret {p : Program} {l : Launch} {e : Env} {s : State} {m : MethodId} {below : List Frame} {meth : Method} {c : Code} {b : Nat} (hx : p.tables.exec = Jvm.exec) (hb : c.code = code) (hr : meth.sig.returnType = ret) (hlocks : meth.locks = false) {pc : Nat} {H : Heap} {ls : Array Slot} (hdg : decode code pc = .ok (.ireturn, 1)) : W p l e room_1 s m #[Value.ref b] below meth c H [] 601024 7293034 (lw_Z below #[Value.ref b] s) (F0 m pc ls [.int 1]) := by
  intro T hT X
  obtain ⟨fs, hret, hrun, hended, hW, hframe⟩ := X.leave (v := some (.int 1)) (hlocks := hlocks) (fun h => by rw [hr] at h; cases h)
  have hmeth' : T.vm.method? m = some meth := X.method'
  refine ⟨T.setFrames fs, ?_, .returned (some (.int 1)), hrun, hended, rfl, ⟨_, rfl⟩, hW, hframe⟩
  jvm_step X.here [X.here.top, hx, hb, hdg, hmeth', hr, ret, narrow_b1]
  (try refine ⟨rfl, ?_⟩); (try refine ⟨rfl, ?_⟩)
  first | (intro acts; rw [hret _ acts rfl rfl rfl]) | rw [hret _ _ rfl rfl rfl]
  exact Steps.refl _
/-- what holds at the law's entry: the machine, the code, the tables' words (any of lw_tbl by 'hts w (by decide +kernel)'), the script of L ints xs at the cell b, what the Statement gives of the start (any of its parts by flat_of_before) -/
def lw_At (p : Program) (s : State) (m : MethodId) (meth : Method) (c : Code) (b L : Nat) (xs : Nat → Int32) : Prop :=
  p.tables.exec = Jvm.exec ∧ c.code = code ∧ meth.sig.returnType = ret ∧ c.maxLocals = 7 ∧ s.vm.findClass R_law = some m.cls ∧ (∀ w ∈ lw_tbl, w.before #[Value.ref b] s = true) ∧ va_X b L xs s s.heap ∧ b < s.heap.size ∧ meth.locks = false ∧ (Jvm.Cond.and given_1 narrow_1).before #[Value.ref b] s = true

def CBN : Nat := 47
def SBN : Nat := 45034
abbrev b_lw_law : ByteArray := code
theorem d_lw_law_0 : decode b_lw_law 0 = .ok (.new 8, 3) := by decide +kernel
theorem d_lw_law_3 : decode b_lw_law 3 = .ok (.dup, 1) := by decide +kernel
theorem d_lw_law_4 : decode b_lw_law 4 = .ok (.invokespecial 33, 3) := by decide +kernel
theorem d_lw_law_7 : decode b_lw_law 7 = .ok (.astore_n 1, 1) := by decide +kernel
theorem d_lw_law_8 : decode b_lw_law 8 = .ok (.new 34, 3) := by decide +kernel
theorem d_lw_law_11 : decode b_lw_law 11 = .ok (.dup, 1) := by decide +kernel
theorem d_lw_law_12 : decode b_lw_law 12 = .ok (.invokespecial 36, 3) := by decide +kernel
theorem d_lw_law_15 : decode b_lw_law 15 = .ok (.astore_n 2, 1) := by decide +kernel
theorem d_lw_law_16 : decode b_lw_law 16 = .ok (.iconst 1, 1) := by decide +kernel
theorem d_lw_law_17 : decode b_lw_law 17 = .ok (.newarray .long, 2) := by decide +kernel
theorem d_lw_law_19 : decode b_lw_law 19 = .ok (.astore_n 3, 1) := by decide +kernel
theorem d_lw_law_20 : decode b_lw_law 20 = .ok (.iconst 0, 1) := by decide +kernel
theorem d_lw_law_21 : decode b_lw_law 21 = .ok (.istore 4, 2) := by decide +kernel
theorem d_lw_law_23 : decode b_lw_law 23 = .ok (.iload 4, 2) := by decide +kernel
theorem d_lw_law_25 : decode b_lw_law 25 = .ok (.aload_n 0, 1) := by decide +kernel
theorem d_lw_law_26 : decode b_lw_law 26 = .ok (.arraylength, 1) := by decide +kernel
theorem d_lw_law_27 : decode b_lw_law 27 = .ok (.iconst 4, 1) := by decide +kernel
theorem d_lw_law_28 : decode b_lw_law 28 = .ok (.isub, 1) := by decide +kernel
theorem d_lw_law_29 : decode b_lw_law 29 = .ok (.if_icmp .gt 497, 3) := by decide +kernel
theorem d_lw_law_32 : decode b_lw_law 32 = .ok (.aload_n 0, 1) := by decide +kernel
theorem d_lw_law_33 : decode b_lw_law 33 = .ok (.iload 4, 2) := by decide +kernel
theorem d_lw_law_35 : decode b_lw_law 35 = .ok (.iaload, 1) := by decide +kernel
theorem d_lw_law_36 : decode b_lw_law 36 = .ok (.bipush 15, 2) := by decide +kernel
theorem d_lw_law_38 : decode b_lw_law 38 = .ok (.iand, 1) := by decide +kernel
theorem d_lw_law_39 : decode b_lw_law 39 = .ok (.tableswitch 481 0 11 #[61, 121, 169, 194, 238, 249, 305, 330, 367, 392, 417, 468], 61) := by decide +kernel
theorem d_lw_law_100 : decode b_lw_law 100 = .ok (.aload_n 1, 1) := by decide +kernel
theorem d_lw_law_101 : decode b_lw_law 101 = .ok (.aload_n 0, 1) := by decide +kernel
theorem d_lw_law_102 : decode b_lw_law 102 = .ok (.iload 4, 2) := by decide +kernel
theorem d_lw_law_104 : decode b_lw_law 104 = .ok (.iconst 1, 1) := by decide +kernel
theorem d_lw_law_105 : decode b_lw_law 105 = .ok (.iadd, 1) := by decide +kernel
theorem d_lw_law_106 : decode b_lw_law 106 = .ok (.iaload, 1) := by decide +kernel
theorem d_lw_law_107 : decode b_lw_law 107 = .ok (.aload_n 0, 1) := by decide +kernel
theorem d_lw_law_108 : decode b_lw_law 108 = .ok (.iload 4, 2) := by decide +kernel
theorem d_lw_law_110 : decode b_lw_law 110 = .ok (.iconst 2, 1) := by decide +kernel
theorem d_lw_law_111 : decode b_lw_law 111 = .ok (.iadd, 1) := by decide +kernel
theorem d_lw_law_112 : decode b_lw_law 112 = .ok (.iaload, 1) := by decide +kernel
theorem d_lw_law_113 : decode b_lw_law 113 = .ok (.aload_n 0, 1) := by decide +kernel
theorem d_lw_law_114 : decode b_lw_law 114 = .ok (.iload 4, 2) := by decide +kernel
theorem d_lw_law_116 : decode b_lw_law 116 = .ok (.iconst 3, 1) := by decide +kernel
theorem d_lw_law_117 : decode b_lw_law 117 = .ok (.iadd, 1) := by decide +kernel
theorem d_lw_law_118 : decode b_lw_law 118 = .ok (.iaload, 1) := by decide +kernel
theorem d_lw_law_119 : decode b_lw_law 119 = .ok (.invokestatic 37, 3) := by decide +kernel
theorem d_lw_law_122 : decode b_lw_law 122 = .ok (.istore 5, 2) := by decide +kernel
theorem d_lw_law_124 : decode b_lw_law 124 = .ok (.aload_n 2, 1) := by decide +kernel
theorem d_lw_law_125 : decode b_lw_law 125 = .ok (.aload_n 0, 1) := by decide +kernel
theorem d_lw_law_126 : decode b_lw_law 126 = .ok (.iload 4, 2) := by decide +kernel
theorem d_lw_law_128 : decode b_lw_law 128 = .ok (.iconst 1, 1) := by decide +kernel
theorem d_lw_law_129 : decode b_lw_law 129 = .ok (.iadd, 1) := by decide +kernel
theorem d_lw_law_130 : decode b_lw_law 130 = .ok (.iaload, 1) := by decide +kernel
theorem d_lw_law_131 : decode b_lw_law 131 = .ok (.aload_n 0, 1) := by decide +kernel
theorem d_lw_law_132 : decode b_lw_law 132 = .ok (.iload 4, 2) := by decide +kernel
theorem d_lw_law_134 : decode b_lw_law 134 = .ok (.iconst 2, 1) := by decide +kernel
theorem d_lw_law_135 : decode b_lw_law 135 = .ok (.iadd, 1) := by decide +kernel
theorem d_lw_law_136 : decode b_lw_law 136 = .ok (.iaload, 1) := by decide +kernel
theorem d_lw_law_137 : decode b_lw_law 137 = .ok (.aload_n 0, 1) := by decide +kernel
theorem d_lw_law_138 : decode b_lw_law 138 = .ok (.iload 4, 2) := by decide +kernel
theorem d_lw_law_140 : decode b_lw_law 140 = .ok (.iconst 3, 1) := by decide +kernel
theorem d_lw_law_141 : decode b_lw_law 141 = .ok (.iadd, 1) := by decide +kernel
theorem d_lw_law_142 : decode b_lw_law 142 = .ok (.iaload, 1) := by decide +kernel
theorem d_lw_law_143 : decode b_lw_law 143 = .ok (.invokevirtual 42, 3) := by decide +kernel
theorem d_lw_law_146 : decode b_lw_law 146 = .ok (.aload_n 2, 1) := by decide +kernel
theorem d_lw_law_147 : decode b_lw_law 147 = .ok (.invokevirtual 43, 3) := by decide +kernel
theorem d_lw_law_150 : decode b_lw_law 150 = .ok (.iload 5, 2) := by decide +kernel
theorem d_lw_law_152 : decode b_lw_law 152 = .ok (.if_icmp .eq 5, 3) := by decide +kernel
theorem d_lw_law_155 : decode b_lw_law 155 = .ok (.iconst 0, 1) := by decide +kernel
theorem d_lw_law_156 : decode b_lw_law 156 = .ok (.ireturn, 1) := by decide +kernel
theorem d_lw_law_157 : decode b_lw_law 157 = .ok (.goto 363, 3) := by decide +kernel
theorem d_lw_law_160 : decode b_lw_law 160 = .ok (.aload_n 1, 1) := by decide +kernel
theorem d_lw_law_161 : decode b_lw_law 161 = .ok (.aload_n 0, 1) := by decide +kernel
theorem d_lw_law_162 : decode b_lw_law 162 = .ok (.iload 4, 2) := by decide +kernel
theorem d_lw_law_164 : decode b_lw_law 164 = .ok (.iconst 1, 1) := by decide +kernel
theorem d_lw_law_165 : decode b_lw_law 165 = .ok (.iadd, 1) := by decide +kernel
theorem d_lw_law_166 : decode b_lw_law 166 = .ok (.iaload, 1) := by decide +kernel
theorem d_lw_law_167 : decode b_lw_law 167 = .ok (.aload_n 0, 1) := by decide +kernel
theorem d_lw_law_168 : decode b_lw_law 168 = .ok (.iload 4, 2) := by decide +kernel
theorem d_lw_law_170 : decode b_lw_law 170 = .ok (.iconst 2, 1) := by decide +kernel
theorem d_lw_law_171 : decode b_lw_law 171 = .ok (.iadd, 1) := by decide +kernel
theorem d_lw_law_172 : decode b_lw_law 172 = .ok (.iaload, 1) := by decide +kernel
theorem d_lw_law_173 : decode b_lw_law 173 = .ok (.invokestatic 46, 3) := by decide +kernel
theorem d_lw_law_176 : decode b_lw_law 176 = .ok (.istore 5, 2) := by decide +kernel
theorem d_lw_law_178 : decode b_lw_law 178 = .ok (.aload_n 2, 1) := by decide +kernel
theorem d_lw_law_179 : decode b_lw_law 179 = .ok (.aload_n 0, 1) := by decide +kernel
theorem d_lw_law_180 : decode b_lw_law 180 = .ok (.iload 4, 2) := by decide +kernel
theorem d_lw_law_182 : decode b_lw_law 182 = .ok (.iconst 1, 1) := by decide +kernel
theorem d_lw_law_183 : decode b_lw_law 183 = .ok (.iadd, 1) := by decide +kernel
theorem d_lw_law_184 : decode b_lw_law 184 = .ok (.iaload, 1) := by decide +kernel
theorem d_lw_law_185 : decode b_lw_law 185 = .ok (.aload_n 0, 1) := by decide +kernel
theorem d_lw_law_186 : decode b_lw_law 186 = .ok (.iload 4, 2) := by decide +kernel
theorem d_lw_law_188 : decode b_lw_law 188 = .ok (.iconst 2, 1) := by decide +kernel
theorem d_lw_law_189 : decode b_lw_law 189 = .ok (.iadd, 1) := by decide +kernel
theorem d_lw_law_190 : decode b_lw_law 190 = .ok (.iaload, 1) := by decide +kernel
theorem d_lw_law_191 : decode b_lw_law 191 = .ok (.invokevirtual 49, 3) := by decide +kernel
theorem d_lw_law_194 : decode b_lw_law 194 = .ok (.aload_n 2, 1) := by decide +kernel
theorem d_lw_law_195 : decode b_lw_law 195 = .ok (.invokevirtual 43, 3) := by decide +kernel
theorem d_lw_law_198 : decode b_lw_law 198 = .ok (.iload 5, 2) := by decide +kernel
theorem d_lw_law_200 : decode b_lw_law 200 = .ok (.if_icmp .eq 5, 3) := by decide +kernel
theorem d_lw_law_203 : decode b_lw_law 203 = .ok (.iconst 0, 1) := by decide +kernel
theorem d_lw_law_204 : decode b_lw_law 204 = .ok (.ireturn, 1) := by decide +kernel
theorem d_lw_law_205 : decode b_lw_law 205 = .ok (.goto 315, 3) := by decide +kernel
theorem d_lw_law_208 : decode b_lw_law 208 = .ok (.aload_n 1, 1) := by decide +kernel
theorem d_lw_law_209 : decode b_lw_law 209 = .ok (.aload_n 0, 1) := by decide +kernel
theorem d_lw_law_210 : decode b_lw_law 210 = .ok (.iload 4, 2) := by decide +kernel
theorem d_lw_law_212 : decode b_lw_law 212 = .ok (.iconst 1, 1) := by decide +kernel
theorem d_lw_law_213 : decode b_lw_law 213 = .ok (.iadd, 1) := by decide +kernel
theorem d_lw_law_214 : decode b_lw_law 214 = .ok (.iaload, 1) := by decide +kernel
theorem d_lw_law_215 : decode b_lw_law 215 = .ok (.invokevirtual 50, 3) := by decide +kernel
theorem d_lw_law_218 : decode b_lw_law 218 = .ok (.aload_n 2, 1) := by decide +kernel
theorem d_lw_law_219 : decode b_lw_law 219 = .ok (.aload_n 0, 1) := by decide +kernel
theorem d_lw_law_220 : decode b_lw_law 220 = .ok (.iload 4, 2) := by decide +kernel
theorem d_lw_law_222 : decode b_lw_law 222 = .ok (.iconst 1, 1) := by decide +kernel
theorem d_lw_law_223 : decode b_lw_law 223 = .ok (.iadd, 1) := by decide +kernel
theorem d_lw_law_224 : decode b_lw_law 224 = .ok (.iaload, 1) := by decide +kernel
theorem d_lw_law_225 : decode b_lw_law 225 = .ok (.invokevirtual 53, 3) := by decide +kernel
theorem d_lw_law_228 : decode b_lw_law 228 = .ok (.if_icmp .eq 292, 3) := by decide +kernel
theorem d_lw_law_231 : decode b_lw_law 231 = .ok (.iconst 0, 1) := by decide +kernel
theorem d_lw_law_232 : decode b_lw_law 232 = .ok (.ireturn, 1) := by decide +kernel
theorem d_lw_law_233 : decode b_lw_law 233 = .ok (.aload_n 1, 1) := by decide +kernel
theorem d_lw_law_234 : decode b_lw_law 234 = .ok (.aload_n 3, 1) := by decide +kernel
theorem d_lw_law_235 : decode b_lw_law 235 = .ok (.invokestatic 54, 3) := by decide +kernel
theorem d_lw_law_238 : decode b_lw_law 238 = .ok (.istore 5, 2) := by decide +kernel
theorem d_lw_law_240 : decode b_lw_law 240 = .ok (.aload_n 2, 1) := by decide +kernel
theorem d_lw_law_241 : decode b_lw_law 241 = .ok (.invokevirtual 57, 3) := by decide +kernel
theorem d_lw_law_244 : decode b_lw_law 244 = .ok (.istore 6, 2) := by decide +kernel
theorem d_lw_law_246 : decode b_lw_law 246 = .ok (.aload_n 2, 1) := by decide +kernel
theorem d_lw_law_247 : decode b_lw_law 247 = .ok (.invokevirtual 43, 3) := by decide +kernel
theorem d_lw_law_250 : decode b_lw_law 250 = .ok (.iload 5, 2) := by decide +kernel
theorem d_lw_law_252 : decode b_lw_law 252 = .ok (.if_icmp .eq 5, 3) := by decide +kernel
theorem d_lw_law_255 : decode b_lw_law 255 = .ok (.iconst 0, 1) := by decide +kernel
theorem d_lw_law_256 : decode b_lw_law 256 = .ok (.ireturn, 1) := by decide +kernel
theorem d_lw_law_257 : decode b_lw_law 257 = .ok (.iload 5, 2) := by decide +kernel
theorem d_lw_law_259 : decode b_lw_law 259 = .ok (.ifCond .ne 15, 3) := by decide +kernel
theorem d_lw_law_262 : decode b_lw_law 262 = .ok (.aload_n 3, 1) := by decide +kernel
theorem d_lw_law_263 : decode b_lw_law 263 = .ok (.iconst 0, 1) := by decide +kernel
theorem d_lw_law_264 : decode b_lw_law 264 = .ok (.laload, 1) := by decide +kernel
theorem d_lw_law_265 : decode b_lw_law 265 = .ok (.iload 6, 2) := by decide +kernel
theorem d_lw_law_267 : decode b_lw_law 267 = .ok (.i2l, 1) := by decide +kernel
theorem d_lw_law_268 : decode b_lw_law 268 = .ok (.lcmp, 1) := by decide +kernel
theorem d_lw_law_269 : decode b_lw_law 269 = .ok (.ifCond .eq 5, 3) := by decide +kernel
theorem d_lw_law_272 : decode b_lw_law 272 = .ok (.iconst 0, 1) := by decide +kernel
theorem d_lw_law_273 : decode b_lw_law 273 = .ok (.ireturn, 1) := by decide +kernel
theorem d_lw_law_274 : decode b_lw_law 274 = .ok (.goto 246, 3) := by decide +kernel
theorem d_lw_law_277 : decode b_lw_law 277 = .ok (.aload_n 1, 1) := by decide +kernel
theorem d_lw_law_278 : decode b_lw_law 278 = .ok (.invokevirtual 58, 3) := by decide +kernel
theorem d_lw_law_281 : decode b_lw_law 281 = .ok (.aload_n 2, 1) := by decide +kernel
theorem d_lw_law_282 : decode b_lw_law 282 = .ok (.invokevirtual 61, 3) := by decide +kernel
theorem d_lw_law_285 : decode b_lw_law 285 = .ok (.goto 235, 3) := by decide +kernel
theorem d_lw_law_288 : decode b_lw_law 288 = .ok (.aload_n 1, 1) := by decide +kernel
theorem d_lw_law_289 : decode b_lw_law 289 = .ok (.aload_n 0, 1) := by decide +kernel
theorem d_lw_law_290 : decode b_lw_law 290 = .ok (.iload 4, 2) := by decide +kernel
theorem d_lw_law_292 : decode b_lw_law 292 = .ok (.iconst 1, 1) := by decide +kernel
theorem d_lw_law_293 : decode b_lw_law 293 = .ok (.iadd, 1) := by decide +kernel
theorem d_lw_law_294 : decode b_lw_law 294 = .ok (.iaload, 1) := by decide +kernel
theorem d_lw_law_295 : decode b_lw_law 295 = .ok (.aload_n 3, 1) := by decide +kernel
theorem d_lw_law_296 : decode b_lw_law 296 = .ok (.invokestatic 62, 3) := by decide +kernel
theorem d_lw_law_299 : decode b_lw_law 299 = .ok (.istore 5, 2) := by decide +kernel
theorem d_lw_law_301 : decode b_lw_law 301 = .ok (.aload_n 2, 1) := by decide +kernel
theorem d_lw_law_302 : decode b_lw_law 302 = .ok (.aload_n 0, 1) := by decide +kernel
theorem d_lw_law_303 : decode b_lw_law 303 = .ok (.iload 4, 2) := by decide +kernel
theorem d_lw_law_305 : decode b_lw_law 305 = .ok (.iconst 1, 1) := by decide +kernel
theorem d_lw_law_306 : decode b_lw_law 306 = .ok (.iadd, 1) := by decide +kernel
theorem d_lw_law_307 : decode b_lw_law 307 = .ok (.iaload, 1) := by decide +kernel
theorem d_lw_law_308 : decode b_lw_law 308 = .ok (.invokevirtual 65, 3) := by decide +kernel
theorem d_lw_law_311 : decode b_lw_law 311 = .ok (.istore 6, 2) := by decide +kernel
theorem d_lw_law_313 : decode b_lw_law 313 = .ok (.aload_n 2, 1) := by decide +kernel
theorem d_lw_law_314 : decode b_lw_law 314 = .ok (.invokevirtual 43, 3) := by decide +kernel
theorem d_lw_law_317 : decode b_lw_law 317 = .ok (.iload 5, 2) := by decide +kernel
theorem d_lw_law_319 : decode b_lw_law 319 = .ok (.if_icmp .eq 5, 3) := by decide +kernel
theorem d_lw_law_322 : decode b_lw_law 322 = .ok (.iconst 0, 1) := by decide +kernel
theorem d_lw_law_323 : decode b_lw_law 323 = .ok (.ireturn, 1) := by decide +kernel
theorem d_lw_law_324 : decode b_lw_law 324 = .ok (.iload 5, 2) := by decide +kernel
theorem d_lw_law_326 : decode b_lw_law 326 = .ok (.ifCond .ne 15, 3) := by decide +kernel
theorem d_lw_law_329 : decode b_lw_law 329 = .ok (.aload_n 3, 1) := by decide +kernel
theorem d_lw_law_330 : decode b_lw_law 330 = .ok (.iconst 0, 1) := by decide +kernel
theorem d_lw_law_331 : decode b_lw_law 331 = .ok (.laload, 1) := by decide +kernel
theorem d_lw_law_332 : decode b_lw_law 332 = .ok (.iload 6, 2) := by decide +kernel
theorem d_lw_law_334 : decode b_lw_law 334 = .ok (.i2l, 1) := by decide +kernel
theorem d_lw_law_335 : decode b_lw_law 335 = .ok (.lcmp, 1) := by decide +kernel
theorem d_lw_law_336 : decode b_lw_law 336 = .ok (.ifCond .eq 5, 3) := by decide +kernel
theorem d_lw_law_339 : decode b_lw_law 339 = .ok (.iconst 0, 1) := by decide +kernel
theorem d_lw_law_340 : decode b_lw_law 340 = .ok (.ireturn, 1) := by decide +kernel
theorem d_lw_law_341 : decode b_lw_law 341 = .ok (.goto 179, 3) := by decide +kernel
theorem d_lw_law_344 : decode b_lw_law 344 = .ok (.aload_n 1, 1) := by decide +kernel
theorem d_lw_law_345 : decode b_lw_law 345 = .ok (.aload_n 0, 1) := by decide +kernel
theorem d_lw_law_346 : decode b_lw_law 346 = .ok (.iload 4, 2) := by decide +kernel
theorem d_lw_law_348 : decode b_lw_law 348 = .ok (.iconst 1, 1) := by decide +kernel
theorem d_lw_law_349 : decode b_lw_law 349 = .ok (.iadd, 1) := by decide +kernel
theorem d_lw_law_350 : decode b_lw_law 350 = .ok (.iaload, 1) := by decide +kernel
theorem d_lw_law_351 : decode b_lw_law 351 = .ok (.invokevirtual 66, 3) := by decide +kernel
theorem d_lw_law_354 : decode b_lw_law 354 = .ok (.aload_n 2, 1) := by decide +kernel
theorem d_lw_law_355 : decode b_lw_law 355 = .ok (.aload_n 0, 1) := by decide +kernel
theorem d_lw_law_356 : decode b_lw_law 356 = .ok (.iload 4, 2) := by decide +kernel
theorem d_lw_law_358 : decode b_lw_law 358 = .ok (.iconst 1, 1) := by decide +kernel
theorem d_lw_law_359 : decode b_lw_law 359 = .ok (.iadd, 1) := by decide +kernel
theorem d_lw_law_360 : decode b_lw_law 360 = .ok (.iaload, 1) := by decide +kernel
theorem d_lw_law_361 : decode b_lw_law 361 = .ok (.invokevirtual 69, 3) := by decide +kernel
theorem d_lw_law_364 : decode b_lw_law 364 = .ok (.if_icmp .eq 156, 3) := by decide +kernel
theorem d_lw_law_367 : decode b_lw_law 367 = .ok (.iconst 0, 1) := by decide +kernel
theorem d_lw_law_368 : decode b_lw_law 368 = .ok (.ireturn, 1) := by decide +kernel
theorem d_lw_law_369 : decode b_lw_law 369 = .ok (.aload_n 1, 1) := by decide +kernel
theorem d_lw_law_370 : decode b_lw_law 370 = .ok (.aload_n 0, 1) := by decide +kernel
theorem d_lw_law_371 : decode b_lw_law 371 = .ok (.iload 4, 2) := by decide +kernel
theorem d_lw_law_373 : decode b_lw_law 373 = .ok (.iconst 1, 1) := by decide +kernel
theorem d_lw_law_374 : decode b_lw_law 374 = .ok (.iadd, 1) := by decide +kernel
theorem d_lw_law_375 : decode b_lw_law 375 = .ok (.iaload, 1) := by decide +kernel
theorem d_lw_law_376 : decode b_lw_law 376 = .ok (.aload_n 0, 1) := by decide +kernel
theorem d_lw_law_377 : decode b_lw_law 377 = .ok (.iload 4, 2) := by decide +kernel
theorem d_lw_law_379 : decode b_lw_law 379 = .ok (.iconst 2, 1) := by decide +kernel
theorem d_lw_law_380 : decode b_lw_law 380 = .ok (.iadd, 1) := by decide +kernel
theorem d_lw_law_381 : decode b_lw_law 381 = .ok (.iaload, 1) := by decide +kernel
theorem d_lw_law_382 : decode b_lw_law 382 = .ok (.invokevirtual 70, 3) := by decide +kernel
theorem d_lw_law_385 : decode b_lw_law 385 = .ok (.aload_n 2, 1) := by decide +kernel
theorem d_lw_law_386 : decode b_lw_law 386 = .ok (.aload_n 0, 1) := by decide +kernel
theorem d_lw_law_387 : decode b_lw_law 387 = .ok (.iload 4, 2) := by decide +kernel
theorem d_lw_law_389 : decode b_lw_law 389 = .ok (.iconst 1, 1) := by decide +kernel
theorem d_lw_law_390 : decode b_lw_law 390 = .ok (.iadd, 1) := by decide +kernel
theorem d_lw_law_391 : decode b_lw_law 391 = .ok (.iaload, 1) := by decide +kernel
theorem d_lw_law_392 : decode b_lw_law 392 = .ok (.aload_n 0, 1) := by decide +kernel
theorem d_lw_law_393 : decode b_lw_law 393 = .ok (.iload 4, 2) := by decide +kernel
theorem d_lw_law_395 : decode b_lw_law 395 = .ok (.iconst 2, 1) := by decide +kernel
theorem d_lw_law_396 : decode b_lw_law 396 = .ok (.iadd, 1) := by decide +kernel
theorem d_lw_law_397 : decode b_lw_law 397 = .ok (.iaload, 1) := by decide +kernel
theorem d_lw_law_398 : decode b_lw_law 398 = .ok (.invokevirtual 74, 3) := by decide +kernel
theorem d_lw_law_401 : decode b_lw_law 401 = .ok (.if_icmp .eq 119, 3) := by decide +kernel
theorem d_lw_law_404 : decode b_lw_law 404 = .ok (.iconst 0, 1) := by decide +kernel
theorem d_lw_law_405 : decode b_lw_law 405 = .ok (.ireturn, 1) := by decide +kernel
theorem d_lw_law_406 : decode b_lw_law 406 = .ok (.aload_n 1, 1) := by decide +kernel
theorem d_lw_law_407 : decode b_lw_law 407 = .ok (.aload_n 0, 1) := by decide +kernel
theorem d_lw_law_408 : decode b_lw_law 408 = .ok (.iload 4, 2) := by decide +kernel
theorem d_lw_law_410 : decode b_lw_law 410 = .ok (.iconst 1, 1) := by decide +kernel
theorem d_lw_law_411 : decode b_lw_law 411 = .ok (.iadd, 1) := by decide +kernel
theorem d_lw_law_412 : decode b_lw_law 412 = .ok (.iaload, 1) := by decide +kernel
theorem d_lw_law_413 : decode b_lw_law 413 = .ok (.invokevirtual 75, 3) := by decide +kernel
theorem d_lw_law_416 : decode b_lw_law 416 = .ok (.aload_n 2, 1) := by decide +kernel
theorem d_lw_law_417 : decode b_lw_law 417 = .ok (.aload_n 0, 1) := by decide +kernel
theorem d_lw_law_418 : decode b_lw_law 418 = .ok (.iload 4, 2) := by decide +kernel
theorem d_lw_law_420 : decode b_lw_law 420 = .ok (.iconst 1, 1) := by decide +kernel
theorem d_lw_law_421 : decode b_lw_law 421 = .ok (.iadd, 1) := by decide +kernel
theorem d_lw_law_422 : decode b_lw_law 422 = .ok (.iaload, 1) := by decide +kernel
theorem d_lw_law_423 : decode b_lw_law 423 = .ok (.invokevirtual 78, 3) := by decide +kernel
theorem d_lw_law_426 : decode b_lw_law 426 = .ok (.if_icmp .eq 94, 3) := by decide +kernel
theorem d_lw_law_429 : decode b_lw_law 429 = .ok (.iconst 0, 1) := by decide +kernel
theorem d_lw_law_430 : decode b_lw_law 430 = .ok (.ireturn, 1) := by decide +kernel
theorem d_lw_law_431 : decode b_lw_law 431 = .ok (.aload_n 1, 1) := by decide +kernel
theorem d_lw_law_432 : decode b_lw_law 432 = .ok (.aload_n 0, 1) := by decide +kernel
theorem d_lw_law_433 : decode b_lw_law 433 = .ok (.iload 4, 2) := by decide +kernel
theorem d_lw_law_435 : decode b_lw_law 435 = .ok (.iconst 1, 1) := by decide +kernel
theorem d_lw_law_436 : decode b_lw_law 436 = .ok (.iadd, 1) := by decide +kernel
theorem d_lw_law_437 : decode b_lw_law 437 = .ok (.iaload, 1) := by decide +kernel
theorem d_lw_law_438 : decode b_lw_law 438 = .ok (.invokevirtual 79, 3) := by decide +kernel
theorem d_lw_law_441 : decode b_lw_law 441 = .ok (.aload_n 2, 1) := by decide +kernel
theorem d_lw_law_442 : decode b_lw_law 442 = .ok (.aload_n 0, 1) := by decide +kernel
theorem d_lw_law_443 : decode b_lw_law 443 = .ok (.iload 4, 2) := by decide +kernel
theorem d_lw_law_445 : decode b_lw_law 445 = .ok (.iconst 1, 1) := by decide +kernel
theorem d_lw_law_446 : decode b_lw_law 446 = .ok (.iadd, 1) := by decide +kernel
theorem d_lw_law_447 : decode b_lw_law 447 = .ok (.iaload, 1) := by decide +kernel
theorem d_lw_law_448 : decode b_lw_law 448 = .ok (.invokevirtual 82, 3) := by decide +kernel
theorem d_lw_law_451 : decode b_lw_law 451 = .ok (.if_icmp .eq 69, 3) := by decide +kernel
theorem d_lw_law_454 : decode b_lw_law 454 = .ok (.iconst 0, 1) := by decide +kernel
theorem d_lw_law_455 : decode b_lw_law 455 = .ok (.ireturn, 1) := by decide +kernel
theorem d_lw_law_456 : decode b_lw_law 456 = .ok (.aload_n 1, 1) := by decide +kernel
theorem d_lw_law_457 : decode b_lw_law 457 = .ok (.aload_n 3, 1) := by decide +kernel
theorem d_lw_law_458 : decode b_lw_law 458 = .ok (.invokestatic 83, 3) := by decide +kernel
theorem d_lw_law_461 : decode b_lw_law 461 = .ok (.istore 5, 2) := by decide +kernel
theorem d_lw_law_463 : decode b_lw_law 463 = .ok (.aload_n 2, 1) := by decide +kernel
theorem d_lw_law_464 : decode b_lw_law 464 = .ok (.invokevirtual 85, 3) := by decide +kernel
theorem d_lw_law_467 : decode b_lw_law 467 = .ok (.istore 6, 2) := by decide +kernel
theorem d_lw_law_469 : decode b_lw_law 469 = .ok (.aload_n 2, 1) := by decide +kernel
theorem d_lw_law_470 : decode b_lw_law 470 = .ok (.invokevirtual 43, 3) := by decide +kernel
theorem d_lw_law_473 : decode b_lw_law 473 = .ok (.iload 5, 2) := by decide +kernel
theorem d_lw_law_475 : decode b_lw_law 475 = .ok (.if_icmp .eq 5, 3) := by decide +kernel
theorem d_lw_law_478 : decode b_lw_law 478 = .ok (.iconst 0, 1) := by decide +kernel
theorem d_lw_law_479 : decode b_lw_law 479 = .ok (.ireturn, 1) := by decide +kernel
theorem d_lw_law_480 : decode b_lw_law 480 = .ok (.iload 5, 2) := by decide +kernel
theorem d_lw_law_482 : decode b_lw_law 482 = .ok (.ifCond .ne 22, 3) := by decide +kernel
theorem d_lw_law_485 : decode b_lw_law 485 = .ok (.aload_n 3, 1) := by decide +kernel
theorem d_lw_law_486 : decode b_lw_law 486 = .ok (.iconst 0, 1) := by decide +kernel
theorem d_lw_law_487 : decode b_lw_law 487 = .ok (.laload, 1) := by decide +kernel
theorem d_lw_law_488 : decode b_lw_law 488 = .ok (.iload 6, 2) := by decide +kernel
theorem d_lw_law_490 : decode b_lw_law 490 = .ok (.ifCond .eq 7, 3) := by decide +kernel
theorem d_lw_law_493 : decode b_lw_law 493 = .ok (.lconst 1, 1) := by decide +kernel
theorem d_lw_law_494 : decode b_lw_law 494 = .ok (.goto 4, 3) := by decide +kernel
theorem d_lw_law_497 : decode b_lw_law 497 = .ok (.lconst 0, 1) := by decide +kernel
theorem d_lw_law_498 : decode b_lw_law 498 = .ok (.lcmp, 1) := by decide +kernel
theorem d_lw_law_499 : decode b_lw_law 499 = .ok (.ifCond .eq 5, 3) := by decide +kernel
theorem d_lw_law_502 : decode b_lw_law 502 = .ok (.iconst 0, 1) := by decide +kernel
theorem d_lw_law_503 : decode b_lw_law 503 = .ok (.ireturn, 1) := by decide +kernel
theorem d_lw_law_504 : decode b_lw_law 504 = .ok (.goto 16, 3) := by decide +kernel
theorem d_lw_law_507 : decode b_lw_law 507 = .ok (.aload_n 1, 1) := by decide +kernel
theorem d_lw_law_508 : decode b_lw_law 508 = .ok (.invokevirtual 86, 3) := by decide +kernel
theorem d_lw_law_511 : decode b_lw_law 511 = .ok (.aload_n 2, 1) := by decide +kernel
theorem d_lw_law_512 : decode b_lw_law 512 = .ok (.invokevirtual 89, 3) := by decide +kernel
theorem d_lw_law_515 : decode b_lw_law 515 = .ok (.if_icmp .eq 5, 3) := by decide +kernel
theorem d_lw_law_518 : decode b_lw_law 518 = .ok (.iconst 0, 1) := by decide +kernel
theorem d_lw_law_519 : decode b_lw_law 519 = .ok (.ireturn, 1) := by decide +kernel
theorem d_lw_law_520 : decode b_lw_law 520 = .ok (.iinc 4 4, 3) := by decide +kernel
theorem d_lw_law_523 : decode b_lw_law 523 = .ok (.goto (-500), 3) := by decide +kernel
theorem d_lw_law_526 : decode b_lw_law 526 = .ok (.iconst 1, 1) := by decide +kernel
theorem d_lw_law_527 : decode b_lw_law 527 = .ok (.ireturn, 1) := by decide +kernel
