/-! THE CLAIM OUT OF ONE WALK OF THE LAW'S BODY. Your part is whole_start (and what it stands on); all else here is the same for every law, but numbers. -/
def R_law : String := "MeshedSpansLaw"
def lw_P (b : Addr) (xs : List Int32) (args : Array Value) (s : State) : Prop := args = #[.ref b] ∧ s.IntsAt b xs ∧ xs.length ≤ 1537 ∧ (Jvm.Cond.and given_1 narrow_1).before args s = true
def lw_Q (_ : Array Value) (s : State) (o : Outcome) (t : State) : Prop := o = .returned (some (.int 1)) ∧ Framed s o t [] 600000 7302250
def lw_Z (below : List Frame) (a : Array Value) (s : State) : State → Prop := fun t => ∃ o, t.status = .running ∧ Ended t below o ∧ lw_Q a s o t
/-- the law's own end, with 1 on the stack, nothing written that was there before, its room as the claim has it -/
theorem lw_ret {p : Program} {l : Launch} {e : Env} {s : State} {m : MethodId} {below : List Frame} {meth : Method} {c : Code} {b : Nat} (hx : p.tables.exec = Jvm.exec) (hb : c.code = code) (hr : meth.sig.returnType = ret) (hlocks : meth.locks = false) {pc : Nat} {H : Heap} {ls : Array Slot} (hdg : decode code pc = .ok (.ireturn, 1)) : W p l e room_1 s m #[Value.ref b] below meth c H [] 600000 7302250 (lw_Z below #[Value.ref b] s) (F0 m pc ls [.int 1]) := by
  intro T hT X
  obtain ⟨fs, hret, hrun, hended, hW, hframe⟩ := X.leave (v := some (.int 1)) (hlocks := hlocks) (fun h => by rw [hr] at h; cases h)
  have hmeth' : T.vm.method? m = some meth := X.method'
  refine ⟨T.setFrames fs, ?_, .returned (some (.int 1)), hrun, hended, rfl, ⟨_, rfl⟩, hW, hframe⟩
  jvm_step X.here [X.here.top, hx, hb, hdg, hmeth', hr, ret, narrow_b1]
  (try refine ⟨rfl, ?_⟩); (try refine ⟨rfl, ?_⟩)
  first | (intro acts; rw [hret _ acts rfl rfl rfl]) | rw [hret _ _ rfl rfl rfl]
  exact Steps.refl _
/-- what holds at the law's entry: the machine, the code, the tables' words (any of lw_tbl by 'hts w (by decide +kernel)'), the script of L ints xs at the cell b, what the Statement gives of the start (any of its parts by flat_of_before) -/
def lw_At (p : Program) (s : State) (m : MethodId) (meth : Method) (c : Code) (b L : Nat) (xs : Nat → Int32) : Prop :=
  p.tables.exec = Jvm.exec ∧ c.code = code ∧ meth.sig.returnType = ret ∧ c.maxLocals = 4 ∧ s.vm.findClass R_law = some m.cls ∧ (∀ w ∈ lw_tbl, w.before #[Value.ref b] s = true) ∧ va_X b L xs s s.heap ∧ b < s.heap.size ∧ meth.locks = false ∧ (Jvm.Cond.and given_1 narrow_1).before #[Value.ref b] s = true

theorem dL_cell_0 : decode method_2_code 0 = .ok (.iload_n 1, 1) := by decide +kernel
theorem dL_cell_1 : decode method_2_code 1 = .ok (.aload_n 0, 1) := by decide +kernel
theorem dL_cell_2 : decode method_2_code 2 = .ok (.arraylength, 1) := by decide +kernel
theorem dL_cell_3 : decode method_2_code 3 = .ok (.if_icmp .ge 9, 3) := by decide +kernel
theorem dL_cell_6 : decode method_2_code 6 = .ok (.aload_n 0, 1) := by decide +kernel
theorem dL_cell_7 : decode method_2_code 7 = .ok (.iload_n 1, 1) := by decide +kernel
theorem dL_cell_8 : decode method_2_code 8 = .ok (.iaload, 1) := by decide +kernel
theorem dL_cell_9 : decode method_2_code 9 = .ok (.goto 4, 3) := by decide +kernel
theorem dL_cell_12 : decode method_2_code 12 = .ok (.iconst 0, 1) := by decide +kernel
theorem dL_cell_13 : decode method_2_code 13 = .ok (.ireturn, 1) := by decide +kernel
theorem dL_law_0 : decode code 0 = .ok (.new 7, 3) := by decide +kernel
theorem dL_law_3 : decode code 3 = .ok (.dup, 1) := by decide +kernel
theorem dL_law_4 : decode code 4 = .ok (.aload_n 0, 1) := by decide +kernel
theorem dL_law_5 : decode code 5 = .ok (.iconst 0, 1) := by decide +kernel
theorem dL_law_6 : decode code 6 = .ok (.invokestatic 9, 3) := by decide +kernel
theorem dL_law_9 : decode code 9 = .ok (.invokespecial 15, 3) := by decide +kernel
theorem dL_law_12 : decode code 12 = .ok (.astore_n 1, 1) := by decide +kernel
theorem dL_law_13 : decode code 13 = .ok (.new 18, 3) := by decide +kernel
theorem dL_law_16 : decode code 16 = .ok (.dup, 1) := by decide +kernel
theorem dL_law_17 : decode code 17 = .ok (.aload_n 0, 1) := by decide +kernel
theorem dL_law_18 : decode code 18 = .ok (.iconst 0, 1) := by decide +kernel
theorem dL_law_19 : decode code 19 = .ok (.invokestatic 9, 3) := by decide +kernel
theorem dL_law_22 : decode code 22 = .ok (.invokespecial 20, 3) := by decide +kernel
theorem dL_law_25 : decode code 25 = .ok (.astore_n 2, 1) := by decide +kernel
theorem dL_law_26 : decode code 26 = .ok (.iconst 1, 1) := by decide +kernel
theorem dL_law_27 : decode code 27 = .ok (.istore_n 3, 1) := by decide +kernel
theorem dL_law_28 : decode code 28 = .ok (.iload_n 3, 1) := by decide +kernel
theorem dL_law_29 : decode code 29 = .ok (.aload_n 0, 1) := by decide +kernel
theorem dL_law_30 : decode code 30 = .ok (.arraylength, 1) := by decide +kernel
theorem dL_law_31 : decode code 31 = .ok (.iconst 3, 1) := by decide +kernel
theorem dL_law_32 : decode code 32 = .ok (.isub, 1) := by decide +kernel
theorem dL_law_33 : decode code 33 = .ok (.if_icmp .gt 460, 3) := by decide +kernel
theorem dL_law_36 : decode code 36 = .ok (.aload_n 0, 1) := by decide +kernel
theorem dL_law_37 : decode code 37 = .ok (.iload_n 3, 1) := by decide +kernel
theorem dL_law_38 : decode code 38 = .ok (.iaload, 1) := by decide +kernel
theorem dL_law_39 : decode code 39 = .ok (.bipush 15, 2) := by decide +kernel
theorem dL_law_41 : decode code 41 = .ok (.iand, 1) := by decide +kernel
theorem dL_law_120 : decode code 120 = .ok (.aload_n 1, 1) := by decide +kernel
theorem dL_law_121 : decode code 121 = .ok (.aload_n 0, 1) := by decide +kernel
theorem dL_law_122 : decode code 122 = .ok (.iload_n 3, 1) := by decide +kernel
theorem dL_law_123 : decode code 123 = .ok (.iconst 1, 1) := by decide +kernel
theorem dL_law_124 : decode code 124 = .ok (.iadd, 1) := by decide +kernel
theorem dL_law_125 : decode code 125 = .ok (.iaload, 1) := by decide +kernel
theorem dL_law_126 : decode code 126 = .ok (.invokevirtual 21, 3) := by decide +kernel
theorem dL_law_129 : decode code 129 = .ok (.aload_n 2, 1) := by decide +kernel
theorem dL_law_130 : decode code 130 = .ok (.aload_n 0, 1) := by decide +kernel
theorem dL_law_131 : decode code 131 = .ok (.iload_n 3, 1) := by decide +kernel
theorem dL_law_132 : decode code 132 = .ok (.iconst 1, 1) := by decide +kernel
theorem dL_law_133 : decode code 133 = .ok (.iadd, 1) := by decide +kernel
theorem dL_law_134 : decode code 134 = .ok (.iaload, 1) := by decide +kernel
theorem dL_law_135 : decode code 135 = .ok (.invokevirtual 24, 3) := by decide +kernel
theorem dL_law_138 : decode code 138 = .ok (.goto 349, 3) := by decide +kernel
theorem dL_law_141 : decode code 141 = .ok (.aload_n 1, 1) := by decide +kernel
theorem dL_law_142 : decode code 142 = .ok (.aload_n 0, 1) := by decide +kernel
theorem dL_law_143 : decode code 143 = .ok (.iload_n 3, 1) := by decide +kernel
theorem dL_law_144 : decode code 144 = .ok (.iconst 1, 1) := by decide +kernel
theorem dL_law_145 : decode code 145 = .ok (.iadd, 1) := by decide +kernel
theorem dL_law_146 : decode code 146 = .ok (.iaload, 1) := by decide +kernel
theorem dL_law_147 : decode code 147 = .ok (.invokevirtual 25, 3) := by decide +kernel
theorem dL_law_150 : decode code 150 = .ok (.aload_n 2, 1) := by decide +kernel
theorem dL_law_151 : decode code 151 = .ok (.aload_n 0, 1) := by decide +kernel
theorem dL_law_152 : decode code 152 = .ok (.iload_n 3, 1) := by decide +kernel
theorem dL_law_153 : decode code 153 = .ok (.iconst 1, 1) := by decide +kernel
theorem dL_law_154 : decode code 154 = .ok (.iadd, 1) := by decide +kernel
theorem dL_law_155 : decode code 155 = .ok (.iaload, 1) := by decide +kernel
theorem dL_law_156 : decode code 156 = .ok (.invokevirtual 29, 3) := by decide +kernel
theorem dL_law_159 : decode code 159 = .ok (.if_icmp .eq 328, 3) := by decide +kernel
theorem dL_law_162 : decode code 162 = .ok (.iconst 0, 1) := by decide +kernel
theorem dL_law_163 : decode code 163 = .ok (.ireturn, 1) := by decide +kernel
theorem dL_law_164 : decode code 164 = .ok (.aload_n 1, 1) := by decide +kernel
theorem dL_law_165 : decode code 165 = .ok (.aload_n 0, 1) := by decide +kernel
theorem dL_law_166 : decode code 166 = .ok (.iload_n 3, 1) := by decide +kernel
theorem dL_law_167 : decode code 167 = .ok (.iconst 1, 1) := by decide +kernel
theorem dL_law_168 : decode code 168 = .ok (.iadd, 1) := by decide +kernel
theorem dL_law_169 : decode code 169 = .ok (.iaload, 1) := by decide +kernel
theorem dL_law_170 : decode code 170 = .ok (.invokevirtual 30, 3) := by decide +kernel
theorem dL_law_173 : decode code 173 = .ok (.aload_n 2, 1) := by decide +kernel
theorem dL_law_174 : decode code 174 = .ok (.aload_n 0, 1) := by decide +kernel
theorem dL_law_175 : decode code 175 = .ok (.iload_n 3, 1) := by decide +kernel
theorem dL_law_176 : decode code 176 = .ok (.iconst 1, 1) := by decide +kernel
theorem dL_law_177 : decode code 177 = .ok (.iadd, 1) := by decide +kernel
theorem dL_law_178 : decode code 178 = .ok (.iaload, 1) := by decide +kernel
theorem dL_law_179 : decode code 179 = .ok (.invokevirtual 34, 3) := by decide +kernel
theorem dL_law_182 : decode code 182 = .ok (.if_icmp .eq 305, 3) := by decide +kernel
theorem dL_law_185 : decode code 185 = .ok (.iconst 0, 1) := by decide +kernel
theorem dL_law_186 : decode code 186 = .ok (.ireturn, 1) := by decide +kernel
theorem dL_law_187 : decode code 187 = .ok (.aload_n 1, 1) := by decide +kernel
theorem dL_law_188 : decode code 188 = .ok (.aload_n 0, 1) := by decide +kernel
theorem dL_law_189 : decode code 189 = .ok (.iload_n 3, 1) := by decide +kernel
theorem dL_law_190 : decode code 190 = .ok (.iconst 1, 1) := by decide +kernel
theorem dL_law_191 : decode code 191 = .ok (.iadd, 1) := by decide +kernel
theorem dL_law_192 : decode code 192 = .ok (.iaload, 1) := by decide +kernel
theorem dL_law_193 : decode code 193 = .ok (.invokevirtual 35, 3) := by decide +kernel
theorem dL_law_196 : decode code 196 = .ok (.aload_n 2, 1) := by decide +kernel
theorem dL_law_197 : decode code 197 = .ok (.aload_n 0, 1) := by decide +kernel
theorem dL_law_198 : decode code 198 = .ok (.iload_n 3, 1) := by decide +kernel
theorem dL_law_199 : decode code 199 = .ok (.iconst 1, 1) := by decide +kernel
theorem dL_law_200 : decode code 200 = .ok (.iadd, 1) := by decide +kernel
theorem dL_law_201 : decode code 201 = .ok (.iaload, 1) := by decide +kernel
theorem dL_law_202 : decode code 202 = .ok (.invokevirtual 39, 3) := by decide +kernel
theorem dL_law_205 : decode code 205 = .ok (.lcmp, 1) := by decide +kernel
theorem dL_law_206 : decode code 206 = .ok (.ifCond .eq 281, 3) := by decide +kernel
theorem dL_law_209 : decode code 209 = .ok (.iconst 0, 1) := by decide +kernel
theorem dL_law_210 : decode code 210 = .ok (.ireturn, 1) := by decide +kernel
theorem dL_law_211 : decode code 211 = .ok (.aload_n 1, 1) := by decide +kernel
theorem dL_law_212 : decode code 212 = .ok (.aload_n 0, 1) := by decide +kernel
theorem dL_law_213 : decode code 213 = .ok (.iload_n 3, 1) := by decide +kernel
theorem dL_law_214 : decode code 214 = .ok (.iconst 1, 1) := by decide +kernel
theorem dL_law_215 : decode code 215 = .ok (.iadd, 1) := by decide +kernel
theorem dL_law_216 : decode code 216 = .ok (.iaload, 1) := by decide +kernel
theorem dL_law_217 : decode code 217 = .ok (.aload_n 0, 1) := by decide +kernel
theorem dL_law_218 : decode code 218 = .ok (.iload_n 3, 1) := by decide +kernel
theorem dL_law_219 : decode code 219 = .ok (.iconst 2, 1) := by decide +kernel
theorem dL_law_220 : decode code 220 = .ok (.iadd, 1) := by decide +kernel
theorem dL_law_221 : decode code 221 = .ok (.iaload, 1) := by decide +kernel
theorem dL_law_222 : decode code 222 = .ok (.invokevirtual 40, 3) := by decide +kernel
theorem dL_law_225 : decode code 225 = .ok (.aload_n 2, 1) := by decide +kernel
theorem dL_law_226 : decode code 226 = .ok (.aload_n 0, 1) := by decide +kernel
theorem dL_law_227 : decode code 227 = .ok (.iload_n 3, 1) := by decide +kernel
theorem dL_law_228 : decode code 228 = .ok (.iconst 1, 1) := by decide +kernel
theorem dL_law_229 : decode code 229 = .ok (.iadd, 1) := by decide +kernel
theorem dL_law_230 : decode code 230 = .ok (.iaload, 1) := by decide +kernel
theorem dL_law_231 : decode code 231 = .ok (.aload_n 0, 1) := by decide +kernel
theorem dL_law_232 : decode code 232 = .ok (.iload_n 3, 1) := by decide +kernel
theorem dL_law_233 : decode code 233 = .ok (.iconst 2, 1) := by decide +kernel
theorem dL_law_234 : decode code 234 = .ok (.iadd, 1) := by decide +kernel
theorem dL_law_235 : decode code 235 = .ok (.iaload, 1) := by decide +kernel
theorem dL_law_236 : decode code 236 = .ok (.invokevirtual 44, 3) := by decide +kernel
theorem dL_law_239 : decode code 239 = .ok (.if_icmp .eq 248, 3) := by decide +kernel
theorem dL_law_242 : decode code 242 = .ok (.iconst 0, 1) := by decide +kernel
theorem dL_law_243 : decode code 243 = .ok (.ireturn, 1) := by decide +kernel
theorem dL_law_244 : decode code 244 = .ok (.aload_n 1, 1) := by decide +kernel
theorem dL_law_245 : decode code 245 = .ok (.aload_n 0, 1) := by decide +kernel
theorem dL_law_246 : decode code 246 = .ok (.iload_n 3, 1) := by decide +kernel
theorem dL_law_247 : decode code 247 = .ok (.iconst 1, 1) := by decide +kernel
theorem dL_law_248 : decode code 248 = .ok (.iadd, 1) := by decide +kernel
theorem dL_law_249 : decode code 249 = .ok (.iaload, 1) := by decide +kernel
theorem dL_law_250 : decode code 250 = .ok (.aload_n 0, 1) := by decide +kernel
theorem dL_law_251 : decode code 251 = .ok (.iload_n 3, 1) := by decide +kernel
theorem dL_law_252 : decode code 252 = .ok (.iconst 2, 1) := by decide +kernel
theorem dL_law_253 : decode code 253 = .ok (.iadd, 1) := by decide +kernel
theorem dL_law_254 : decode code 254 = .ok (.iaload, 1) := by decide +kernel
theorem dL_law_255 : decode code 255 = .ok (.invokevirtual 45, 3) := by decide +kernel
theorem dL_law_258 : decode code 258 = .ok (.aload_n 2, 1) := by decide +kernel
theorem dL_law_259 : decode code 259 = .ok (.aload_n 0, 1) := by decide +kernel
theorem dL_law_260 : decode code 260 = .ok (.iload_n 3, 1) := by decide +kernel
theorem dL_law_261 : decode code 261 = .ok (.iconst 1, 1) := by decide +kernel
theorem dL_law_262 : decode code 262 = .ok (.iadd, 1) := by decide +kernel
theorem dL_law_263 : decode code 263 = .ok (.iaload, 1) := by decide +kernel
theorem dL_law_264 : decode code 264 = .ok (.aload_n 0, 1) := by decide +kernel
theorem dL_law_265 : decode code 265 = .ok (.iload_n 3, 1) := by decide +kernel
theorem dL_law_266 : decode code 266 = .ok (.iconst 2, 1) := by decide +kernel
theorem dL_law_267 : decode code 267 = .ok (.iadd, 1) := by decide +kernel
theorem dL_law_268 : decode code 268 = .ok (.iaload, 1) := by decide +kernel
theorem dL_law_269 : decode code 269 = .ok (.invokevirtual 49, 3) := by decide +kernel
theorem dL_law_272 : decode code 272 = .ok (.if_icmp .eq 215, 3) := by decide +kernel
theorem dL_law_275 : decode code 275 = .ok (.iconst 0, 1) := by decide +kernel
theorem dL_law_276 : decode code 276 = .ok (.ireturn, 1) := by decide +kernel
theorem dL_law_277 : decode code 277 = .ok (.aload_n 1, 1) := by decide +kernel
theorem dL_law_278 : decode code 278 = .ok (.invokevirtual 50, 3) := by decide +kernel
theorem dL_law_281 : decode code 281 = .ok (.aload_n 2, 1) := by decide +kernel
theorem dL_law_282 : decode code 282 = .ok (.invokevirtual 54, 3) := by decide +kernel
theorem dL_law_285 : decode code 285 = .ok (.if_icmp .eq 202, 3) := by decide +kernel
theorem dL_law_288 : decode code 288 = .ok (.iconst 0, 1) := by decide +kernel
theorem dL_law_289 : decode code 289 = .ok (.ireturn, 1) := by decide +kernel
theorem dL_law_290 : decode code 290 = .ok (.aload_n 1, 1) := by decide +kernel
theorem dL_law_291 : decode code 291 = .ok (.aload_n 0, 1) := by decide +kernel
theorem dL_law_292 : decode code 292 = .ok (.iload_n 3, 1) := by decide +kernel
theorem dL_law_293 : decode code 293 = .ok (.iconst 1, 1) := by decide +kernel
theorem dL_law_294 : decode code 294 = .ok (.iadd, 1) := by decide +kernel
theorem dL_law_295 : decode code 295 = .ok (.iaload, 1) := by decide +kernel
theorem dL_law_296 : decode code 296 = .ok (.invokevirtual 55, 3) := by decide +kernel
theorem dL_law_299 : decode code 299 = .ok (.aload_n 2, 1) := by decide +kernel
theorem dL_law_300 : decode code 300 = .ok (.aload_n 0, 1) := by decide +kernel
theorem dL_law_301 : decode code 301 = .ok (.iload_n 3, 1) := by decide +kernel
theorem dL_law_302 : decode code 302 = .ok (.iconst 1, 1) := by decide +kernel
theorem dL_law_303 : decode code 303 = .ok (.iadd, 1) := by decide +kernel
theorem dL_law_304 : decode code 304 = .ok (.iaload, 1) := by decide +kernel
theorem dL_law_305 : decode code 305 = .ok (.invokevirtual 58, 3) := by decide +kernel
theorem dL_law_308 : decode code 308 = .ok (.if_icmp .eq 179, 3) := by decide +kernel
theorem dL_law_311 : decode code 311 = .ok (.iconst 0, 1) := by decide +kernel
theorem dL_law_312 : decode code 312 = .ok (.ireturn, 1) := by decide +kernel
theorem dL_law_313 : decode code 313 = .ok (.aload_n 1, 1) := by decide +kernel
theorem dL_law_314 : decode code 314 = .ok (.invokevirtual 59, 3) := by decide +kernel
theorem dL_law_317 : decode code 317 = .ok (.aload_n 2, 1) := by decide +kernel
theorem dL_law_318 : decode code 318 = .ok (.invokevirtual 62, 3) := by decide +kernel
theorem dL_law_321 : decode code 321 = .ok (.if_icmp .eq 166, 3) := by decide +kernel
theorem dL_law_324 : decode code 324 = .ok (.iconst 0, 1) := by decide +kernel
theorem dL_law_325 : decode code 325 = .ok (.ireturn, 1) := by decide +kernel
theorem dL_law_326 : decode code 326 = .ok (.aload_n 1, 1) := by decide +kernel
theorem dL_law_327 : decode code 327 = .ok (.aload_n 0, 1) := by decide +kernel
theorem dL_law_328 : decode code 328 = .ok (.iload_n 3, 1) := by decide +kernel
theorem dL_law_329 : decode code 329 = .ok (.iconst 1, 1) := by decide +kernel
theorem dL_law_330 : decode code 330 = .ok (.iadd, 1) := by decide +kernel
theorem dL_law_331 : decode code 331 = .ok (.iaload, 1) := by decide +kernel
theorem dL_law_332 : decode code 332 = .ok (.invokevirtual 63, 3) := by decide +kernel
theorem dL_law_335 : decode code 335 = .ok (.aload_n 2, 1) := by decide +kernel
theorem dL_law_336 : decode code 336 = .ok (.aload_n 0, 1) := by decide +kernel
theorem dL_law_337 : decode code 337 = .ok (.iload_n 3, 1) := by decide +kernel
theorem dL_law_338 : decode code 338 = .ok (.iconst 1, 1) := by decide +kernel
theorem dL_law_339 : decode code 339 = .ok (.iadd, 1) := by decide +kernel
theorem dL_law_340 : decode code 340 = .ok (.iaload, 1) := by decide +kernel
theorem dL_law_341 : decode code 341 = .ok (.invokevirtual 66, 3) := by decide +kernel
theorem dL_law_344 : decode code 344 = .ok (.if_icmp .eq 143, 3) := by decide +kernel
theorem dL_law_347 : decode code 347 = .ok (.iconst 0, 1) := by decide +kernel
theorem dL_law_348 : decode code 348 = .ok (.ireturn, 1) := by decide +kernel
theorem dL_law_349 : decode code 349 = .ok (.aload_n 1, 1) := by decide +kernel
theorem dL_law_350 : decode code 350 = .ok (.aload_n 0, 1) := by decide +kernel
theorem dL_law_351 : decode code 351 = .ok (.iload_n 3, 1) := by decide +kernel
theorem dL_law_352 : decode code 352 = .ok (.iconst 1, 1) := by decide +kernel
theorem dL_law_353 : decode code 353 = .ok (.iadd, 1) := by decide +kernel
theorem dL_law_354 : decode code 354 = .ok (.iaload, 1) := by decide +kernel
theorem dL_law_355 : decode code 355 = .ok (.invokevirtual 67, 3) := by decide +kernel
theorem dL_law_358 : decode code 358 = .ok (.aload_n 2, 1) := by decide +kernel
theorem dL_law_359 : decode code 359 = .ok (.aload_n 0, 1) := by decide +kernel
theorem dL_law_360 : decode code 360 = .ok (.iload_n 3, 1) := by decide +kernel
theorem dL_law_361 : decode code 361 = .ok (.iconst 1, 1) := by decide +kernel
theorem dL_law_362 : decode code 362 = .ok (.iadd, 1) := by decide +kernel
theorem dL_law_363 : decode code 363 = .ok (.iaload, 1) := by decide +kernel
theorem dL_law_364 : decode code 364 = .ok (.invokevirtual 70, 3) := by decide +kernel
theorem dL_law_367 : decode code 367 = .ok (.if_icmp .eq 120, 3) := by decide +kernel
theorem dL_law_370 : decode code 370 = .ok (.iconst 0, 1) := by decide +kernel
theorem dL_law_371 : decode code 371 = .ok (.ireturn, 1) := by decide +kernel
theorem dL_law_372 : decode code 372 = .ok (.aload_n 1, 1) := by decide +kernel
theorem dL_law_373 : decode code 373 = .ok (.invokevirtual 71, 3) := by decide +kernel
theorem dL_law_376 : decode code 376 = .ok (.aload_n 2, 1) := by decide +kernel
theorem dL_law_377 : decode code 377 = .ok (.invokevirtual 74, 3) := by decide +kernel
theorem dL_law_380 : decode code 380 = .ok (.if_icmp .eq 107, 3) := by decide +kernel
theorem dL_law_383 : decode code 383 = .ok (.iconst 0, 1) := by decide +kernel
theorem dL_law_384 : decode code 384 = .ok (.ireturn, 1) := by decide +kernel
theorem dL_law_385 : decode code 385 = .ok (.aload_n 1, 1) := by decide +kernel
theorem dL_law_386 : decode code 386 = .ok (.aload_n 0, 1) := by decide +kernel
theorem dL_law_387 : decode code 387 = .ok (.iload_n 3, 1) := by decide +kernel
theorem dL_law_388 : decode code 388 = .ok (.iconst 1, 1) := by decide +kernel
theorem dL_law_389 : decode code 389 = .ok (.iadd, 1) := by decide +kernel
theorem dL_law_390 : decode code 390 = .ok (.iaload, 1) := by decide +kernel
theorem dL_law_391 : decode code 391 = .ok (.invokevirtual 75, 3) := by decide +kernel
theorem dL_law_394 : decode code 394 = .ok (.aload_n 2, 1) := by decide +kernel
theorem dL_law_395 : decode code 395 = .ok (.aload_n 0, 1) := by decide +kernel
theorem dL_law_396 : decode code 396 = .ok (.iload_n 3, 1) := by decide +kernel
theorem dL_law_397 : decode code 397 = .ok (.iconst 1, 1) := by decide +kernel
theorem dL_law_398 : decode code 398 = .ok (.iadd, 1) := by decide +kernel
theorem dL_law_399 : decode code 399 = .ok (.iaload, 1) := by decide +kernel
theorem dL_law_400 : decode code 400 = .ok (.invokevirtual 78, 3) := by decide +kernel
theorem dL_law_403 : decode code 403 = .ok (.if_icmp .eq 84, 3) := by decide +kernel
theorem dL_law_406 : decode code 406 = .ok (.iconst 0, 1) := by decide +kernel
theorem dL_law_407 : decode code 407 = .ok (.ireturn, 1) := by decide +kernel
theorem dL_law_408 : decode code 408 = .ok (.aload_n 1, 1) := by decide +kernel
theorem dL_law_409 : decode code 409 = .ok (.aload_n 0, 1) := by decide +kernel
theorem dL_law_410 : decode code 410 = .ok (.iload_n 3, 1) := by decide +kernel
theorem dL_law_411 : decode code 411 = .ok (.iconst 1, 1) := by decide +kernel
theorem dL_law_412 : decode code 412 = .ok (.iadd, 1) := by decide +kernel
theorem dL_law_413 : decode code 413 = .ok (.iaload, 1) := by decide +kernel
theorem dL_law_414 : decode code 414 = .ok (.invokevirtual 79, 3) := by decide +kernel
theorem dL_law_417 : decode code 417 = .ok (.aload_n 2, 1) := by decide +kernel
theorem dL_law_418 : decode code 418 = .ok (.aload_n 0, 1) := by decide +kernel
theorem dL_law_419 : decode code 419 = .ok (.iload_n 3, 1) := by decide +kernel
theorem dL_law_420 : decode code 420 = .ok (.iconst 1, 1) := by decide +kernel
theorem dL_law_421 : decode code 421 = .ok (.iadd, 1) := by decide +kernel
theorem dL_law_422 : decode code 422 = .ok (.iaload, 1) := by decide +kernel
theorem dL_law_423 : decode code 423 = .ok (.invokevirtual 82, 3) := by decide +kernel
theorem dL_law_426 : decode code 426 = .ok (.if_icmp .eq 61, 3) := by decide +kernel
theorem dL_law_429 : decode code 429 = .ok (.iconst 0, 1) := by decide +kernel
theorem dL_law_430 : decode code 430 = .ok (.ireturn, 1) := by decide +kernel
theorem dL_law_431 : decode code 431 = .ok (.aload_n 1, 1) := by decide +kernel
theorem dL_law_432 : decode code 432 = .ok (.aload_n 0, 1) := by decide +kernel
theorem dL_law_433 : decode code 433 = .ok (.iload_n 3, 1) := by decide +kernel
theorem dL_law_434 : decode code 434 = .ok (.iconst 1, 1) := by decide +kernel
theorem dL_law_435 : decode code 435 = .ok (.iadd, 1) := by decide +kernel
theorem dL_law_436 : decode code 436 = .ok (.iaload, 1) := by decide +kernel
theorem dL_law_437 : decode code 437 = .ok (.invokevirtual 83, 3) := by decide +kernel
theorem dL_law_440 : decode code 440 = .ok (.aload_n 2, 1) := by decide +kernel
theorem dL_law_441 : decode code 441 = .ok (.aload_n 0, 1) := by decide +kernel
theorem dL_law_442 : decode code 442 = .ok (.iload_n 3, 1) := by decide +kernel
theorem dL_law_443 : decode code 443 = .ok (.iconst 1, 1) := by decide +kernel
theorem dL_law_444 : decode code 444 = .ok (.iadd, 1) := by decide +kernel
theorem dL_law_445 : decode code 445 = .ok (.iaload, 1) := by decide +kernel
theorem dL_law_446 : decode code 446 = .ok (.invokevirtual 86, 3) := by decide +kernel
theorem dL_law_449 : decode code 449 = .ok (.if_icmp .eq 38, 3) := by decide +kernel
theorem dL_law_452 : decode code 452 = .ok (.iconst 0, 1) := by decide +kernel
theorem dL_law_453 : decode code 453 = .ok (.ireturn, 1) := by decide +kernel
theorem dL_law_454 : decode code 454 = .ok (.aload_n 1, 1) := by decide +kernel
theorem dL_law_455 : decode code 455 = .ok (.aload_n 0, 1) := by decide +kernel
theorem dL_law_456 : decode code 456 = .ok (.iload_n 3, 1) := by decide +kernel
theorem dL_law_457 : decode code 457 = .ok (.iconst 1, 1) := by decide +kernel
theorem dL_law_458 : decode code 458 = .ok (.iadd, 1) := by decide +kernel
theorem dL_law_459 : decode code 459 = .ok (.iaload, 1) := by decide +kernel
theorem dL_law_460 : decode code 460 = .ok (.aload_n 0, 1) := by decide +kernel
theorem dL_law_461 : decode code 461 = .ok (.iload_n 3, 1) := by decide +kernel
theorem dL_law_462 : decode code 462 = .ok (.iconst 2, 1) := by decide +kernel
theorem dL_law_463 : decode code 463 = .ok (.iadd, 1) := by decide +kernel
theorem dL_law_464 : decode code 464 = .ok (.iaload, 1) := by decide +kernel
theorem dL_law_465 : decode code 465 = .ok (.invokevirtual 87, 3) := by decide +kernel
theorem dL_law_468 : decode code 468 = .ok (.aload_n 2, 1) := by decide +kernel
theorem dL_law_469 : decode code 469 = .ok (.aload_n 0, 1) := by decide +kernel
theorem dL_law_470 : decode code 470 = .ok (.iload_n 3, 1) := by decide +kernel
theorem dL_law_471 : decode code 471 = .ok (.iconst 1, 1) := by decide +kernel
theorem dL_law_472 : decode code 472 = .ok (.iadd, 1) := by decide +kernel
theorem dL_law_473 : decode code 473 = .ok (.iaload, 1) := by decide +kernel
theorem dL_law_474 : decode code 474 = .ok (.aload_n 0, 1) := by decide +kernel
theorem dL_law_475 : decode code 475 = .ok (.iload_n 3, 1) := by decide +kernel
theorem dL_law_476 : decode code 476 = .ok (.iconst 2, 1) := by decide +kernel
theorem dL_law_477 : decode code 477 = .ok (.iadd, 1) := by decide +kernel
theorem dL_law_478 : decode code 478 = .ok (.iaload, 1) := by decide +kernel
theorem dL_law_479 : decode code 479 = .ok (.invokevirtual 90, 3) := by decide +kernel
theorem dL_law_482 : decode code 482 = .ok (.if_icmp .eq 5, 3) := by decide +kernel
theorem dL_law_485 : decode code 485 = .ok (.iconst 0, 1) := by decide +kernel
theorem dL_law_486 : decode code 486 = .ok (.ireturn, 1) := by decide +kernel
theorem dL_law_487 : decode code 487 = .ok (.iinc 3 3, 3) := by decide +kernel
theorem dL_law_490 : decode code 490 = .ok (.goto (-462), 3) := by decide +kernel
theorem dL_law_493 : decode code 493 = .ok (.iconst 1, 1) := by decide +kernel
theorem dL_law_494 : decode code 494 = .ok (.ireturn, 1) := by decide +kernel
theorem dL_law_42 : decode code 42 = .ok (.tableswitch 445 0 15 #[78, 99, 122, 145, 169, 202, 235, 248, 271, 284, 307, 330, 343, 366, 389, 412], 78) := by decide +kernel
def yL_cell : MethodName := ⟨"MeshedSpansLaw", "cell", "([II)I"⟩
def wL_cell : List Cond := .code yL_cell method_2_code 2 (some .int) :: gw
theorem kL_cell {R : Room} {s : State} {args : Array Value} {own : String} {ix : Nat} (hts : ∀ w ∈ gw, w.before args s = true) (hl : (Cond.methodLink own ix yL_cell).before args s = true) (hR : 0 + 1 ≤ R.frames ∧ 8 + (2 + 11) + 0 ≤ R.locals) : CallB R s args own ix yL_cell method_2_code 2 (some .int) wL_cell ({ frames := 0, cells := 0, slots := 0, locals := 0 }) 0 0 2 ∧ (Cond.static yL_cell).before args s = true := ⟨callB_of (rm := { frames := 0, cells := 0, slots := 0, locals := 0 }) 2 hts (gw_c (ct := .code yL_cell method_2_code 2 (some .int)) gm_495) rfl rfl rfl (hts _ gm_40) hl (by decide +kernel) hR, hts _ gm_494⟩
set_option maxHeartbeats 4000000 in
set_option maxRecDepth 100000 in
/-- cell(s, 0) -/
theorem cL_cell (l : Launch) (b L : Nat) (xs : Nat → Int32) (hL : L ≤ 1537) : Met l yL_cell wL_cell ({ frames := 0, cells := 0, slots := 0, locals := 0 }) (va_Pc [.ref b, .int 0] (fun U => va_X b L xs U U.heap ∧ b < U.heap.size)) (va_Qi (fun (r : Int32) (_ : Unit) => r = if 0 < L then xs 0 else 0) (fun _ _ => True) (fun _ => False)) 0 0 (fun _ => False) := by
  refine Met.ofW (cc := method_2_code) (maxL := 2) (ret := some .int) (by decide) rfl ?_
  intro p e s m args below meth c s₁ B hml hv
  obtain ⟨rfl, hX, hbl⟩ := hv
  have hx := B.exec
  have hb := B.bytes
  have hr := B.returns
  have hlocks := B.notSynchronized
  have hS : va_S (fun _ => False) s.heap s.heap [] := va_S.rf
  have hbA : ¬ (fun _ : Nat => False) b := fun h => h
  have hl := lv_entry ([.ref b, .int 0]) (n := 2) (Nat.le_of_ble_eq_true rfl)
  rw [lg_entry_eq]
  generalize (lg_sl ([.ref b, .int 0]) ++ List.replicate (2 - (lg_sl ([.ref b, .int 0])).length) Slot.unset).toArray = ls at hl ⊢
  have hl : lv_has ls 2 [(0, .ref b), (1, .int 0)] := hl
  refine lv_iload_n hx hb dL_cell_0 rfl (lv_at hl 1 rfl) ?_
  refine lv_aload_n hx hb dL_cell_1 rfl (lv_at hl 0 rfl) ?_
  refine va_slen hx hb hX hbl hbA hS dL_cell_2 ?_
  refine lv_icmp_ge (tgt := 12) hx hb dL_cell_3 (by decide) (fun c1 => ?_) (fun c1 => ?_)
  · have h0 : ¬ 0 < L := fun h => nI_nle h (by omega) c1
    refine lv_iconst (v := 0) hx hb dL_cell_12 (by decide) ?_
    exact W.iret hx hb hr (fun t ht hW => ⟨⟨0, (), rfl, by rw [if_neg h0], trivial⟩, hS.F ht⟩) hS.2.2 dL_cell_13 hlocks
  · have h0 : 0 < L := by
      rcases Nat.lt_or_ge 0 L with h | h
      · exact h
      · exact absurd (by rw [Nat.le_zero.mp h]; decide) c1
    refine lv_aload_n hx hb dL_cell_6 rfl (lv_at hl 0 rfl) ?_
    refine lv_iload_n hx hb dL_cell_7 rfl (lv_at hl 1 rfl) ?_
    refine va_sld hx hb hX hbl hbA hS (vp_in_lit ⟨by decide, by exact h0⟩) dL_cell_8 ?_
    refine lv_goto (tgt := 13) hx hb dL_cell_9 (by decide) ?_
    exact W.iret hx hb hr (fun t ht hW => ⟨⟨_, (), rfl, by rw [if_pos h0]; rfl, trivial⟩, hS.F ht⟩) hS.2.2 dL_cell_13 hlocks
theorem fl_kept {D : va_G} {cl : List vw_C} {n n2 : Nat} {sh2 : Nat → (Nat → Int32) → va_E} {ad ad2 : Nat → Nat} {g2 : fl_G} {H H1 : Heap} (hP2 : va_P D cl (fl_ws n2 sh2 ad2 g2) H) (hdis : ∀ i j, i < n → j < n2 → ad i ≠ ad2 j) (hk : ∀ q : Nat, q < H.size → ¬ fl_A n ad q → H1[q]? = H[q]?) : va_P D cl (fl_ws n2 sh2 ad2 g2) H1 := by
  refine hP2.kept (fun k q hq => ?_)
  obtain ⟨hk2, rfl⟩ := fl_of_at hq
  refine hk _ (hP2 k _ hq).lt (fun hA => ?_)
  obtain ⟨i, hi, he⟩ := hA
  exact hdis i k hi hk2 he.symm
theorem lw_calli {p : Program} {l : Launch} {e : Env} {R : Room} {s : State} {m : MethodId} {args : Array Value} {below : List Frame} {meth : Method} {c : Code} {H : Heap} {locs : List Loc} {cells slots : Nat} {Q : State → Prop} {pc : Nat} {ls : Array Slot} {rest st0 : List Value} {a : Array Value} {D : va_G} {cl : List vw_C} {n n2 : Nat} {sh sh2 : Nat → (Nat → Int32) → va_E} {ad ad2 : Nat → Nat} {g1 g2 : fl_G} {A0 : Nat → Prop} {H0 : Heap} {r : Int32} (hr : va_Run p l e R s m args below meth c H locs cells slots 0 0 (F0 m pc ls st0) rest (fl_QI D cl n sh ad r g1 a) (fl_A n ad)) (hS : va_S A0 H0 H locs) (hA : ∀ i, i < n → A0 (ad i)) (hP2 : va_P D cl (fl_ws n2 sh2 ad2 g2) H) (hdis : ∀ i j, i < n → j < n2 → ad i ≠ ad2 j)
    (kk : ∀ (H1 : Heap) (locs1 : List Loc), va_P D cl (fl_ws n sh ad g1) H1 → va_P D cl (fl_ws n2 sh2 ad2 g2) H1 → va_S A0 H0 H1 locs1 → W p l e R s m args below meth c H1 locs1 cells slots Q (F0 m (pc + 3) ls (.int r :: rest))) : W p l e R s m args below meth c H locs cells slots Q (F0 m pc ls st0) := by
  have hA' : ∀ q, fl_A n ad q → A0 q := fun q h => by obtain ⟨i, hi, rfl⟩ := h; exact hA i hi
  refine va_calli (post := fun r2 u => r2 = r ∧ u = g1) (B := fl_B D cl n sh ad) (A1 := fl_A n ad) hr hS (fun q _ h => hA' q h) hA' (fun r2 u t H1 locs1 ht _ hp hB _ hk hS1 => ?_)
  obtain ⟨rfl, rfl⟩ := hp
  subst ht
  exact kk t.heap locs1 hB (fl_kept hP2 hdis hk) hS1
theorem lw_calll {p : Program} {l : Launch} {e : Env} {R : Room} {s : State} {m : MethodId} {args : Array Value} {below : List Frame} {meth : Method} {c : Code} {H : Heap} {locs : List Loc} {cells slots : Nat} {Q : State → Prop} {pc : Nat} {ls : Array Slot} {rest st0 : List Value} {a : Array Value} {D : va_G} {cl : List vw_C} {n n2 : Nat} {sh sh2 : Nat → (Nat → Int32) → va_E} {ad ad2 : Nat → Nat} {g1 g2 : fl_G} {A0 : Nat → Prop} {H0 : Heap} {r : Int64} (hr : va_Run p l e R s m args below meth c H locs cells slots 0 0 (F0 m pc ls st0) rest (fl_QL D cl n sh ad r g1 a) (fl_A n ad)) (hS : va_S A0 H0 H locs) (hA : ∀ i, i < n → A0 (ad i)) (hP2 : va_P D cl (fl_ws n2 sh2 ad2 g2) H) (hdis : ∀ i j, i < n → j < n2 → ad i ≠ ad2 j)
    (kk : ∀ (H1 : Heap) (locs1 : List Loc), va_P D cl (fl_ws n sh ad g1) H1 → va_P D cl (fl_ws n2 sh2 ad2 g2) H1 → va_S A0 H0 H1 locs1 → W p l e R s m args below meth c H1 locs1 cells slots Q (F0 m (pc + 3) ls (.long r :: rest))) : W p l e R s m args below meth c H locs cells slots Q (F0 m pc ls st0) := by
  have hA' : ∀ q, fl_A n ad q → A0 q := fun q h => by obtain ⟨i, hi, rfl⟩ := h; exact hA i hi
  refine va_calll (post := fun r2 u => r2 = r ∧ u = g1) (B := fl_B D cl n sh ad) (A1 := fl_A n ad) hr hS (fun q _ h => hA' q h) hA' (fun r2 u t H1 locs1 ht _ hp hB _ hk hS1 => ?_)
  obtain ⟨rfl, rfl⟩ := hp
  subst ht
  exact kk t.heap locs1 hB (fl_kept hP2 hdis hk) hS1
theorem lw_callv {p : Program} {l : Launch} {e : Env} {R : Room} {s : State} {m : MethodId} {args : Array Value} {below : List Frame} {meth : Method} {c : Code} {H : Heap} {locs : List Loc} {cells slots : Nat} {Q : State → Prop} {pc : Nat} {ls : Array Slot} {rest st0 : List Value} {a : Array Value} {D : va_G} {cl : List vw_C} {n n2 : Nat} {sh sh2 : Nat → (Nat → Int32) → va_E} {ad ad2 : Nat → Nat} {g1 g2 : fl_G} {A0 : Nat → Prop} {H0 : Heap} (hr : va_Run p l e R s m args below meth c H locs cells slots 0 0 (F0 m pc ls st0) rest (fl_QV D cl n sh ad g1 a) (fl_A n ad)) (hS : va_S A0 H0 H locs) (hA : ∀ i, i < n → A0 (ad i)) (hP2 : va_P D cl (fl_ws n2 sh2 ad2 g2) H) (hdis : ∀ i j, i < n → j < n2 → ad i ≠ ad2 j)
    (kk : ∀ (H1 : Heap) (locs1 : List Loc), va_P D cl (fl_ws n sh ad g1) H1 → va_P D cl (fl_ws n2 sh2 ad2 g2) H1 → va_S A0 H0 H1 locs1 → W p l e R s m args below meth c H1 locs1 cells slots Q (F0 m (pc + 3) ls rest)) : W p l e R s m args below meth c H locs cells slots Q (F0 m pc ls st0) := by
  have hA' : ∀ q, fl_A n ad q → A0 q := fun q h => by obtain ⟨i, hi, rfl⟩ := h; exact hA i hi
  refine va_callv (post := fun u => u = g1) (B := fl_B D cl n sh ad) (A1 := fl_A n ad) hr hS (fun q _ h => hA' q h) hA' (fun u t H1 locs1 ht _ hp hB _ hk hS1 => ?_)
  subst hp
  subst ht
  exact kk t.heap locs1 hB (fl_kept hP2 hdis hk) hS1
/-! what the pure part owes: a relation between the two states, kept by each of the sixteen calls, which answer alike -/
abbrev lw_R : Type := Nat → fl_G → fl_G → Prop
def lw_SV (fC fR : Int32 → fl_G → Option (Unit × fl_G)) (Rel : lw_R) : Prop := ∀ k a gC gR, k < 512 → Rel k gC gR → ∃ gC' gR', fC a gC = some ((), gC') ∧ fR a gR = some ((), gR') ∧ Rel (k + 1) gC' gR'
def lw_S0 (fC fR : fl_G → Option (Int32 × fl_G)) (Rel : lw_R) : Prop := ∀ k gC gR, k < 512 → Rel k gC gR → ∃ r gC' gR', fC gC = some (r, gC') ∧ fR gR = some (r, gR') ∧ Rel (k + 1) gC' gR'
def lw_S1 (fC fR : Int32 → fl_G → Option (Int32 × fl_G)) (Rel : lw_R) : Prop := ∀ k a gC gR, k < 512 → Rel k gC gR → ∃ r gC' gR', fC a gC = some (r, gC') ∧ fR a gR = some (r, gR') ∧ Rel (k + 1) gC' gR'
def lw_SL (fC fR : Int32 → fl_G → Option (Int64 × fl_G)) (Rel : lw_R) : Prop := ∀ k a gC gR, k < 512 → Rel k gC gR → ∃ r gC' gR', fC a gC = some (r, gC') ∧ fR a gR = some (r, gR') ∧ Rel (k + 1) gC' gR'
def lw_S2 (fC fR : Int32 → Int32 → fl_G → Option (Int32 × fl_G)) (Rel : lw_R) : Prop := ∀ k a b gC gR, k < 512 → Rel k gC gR → ∃ r gC' gR', fC a b gC = some (r, gC') ∧ fR a b gR = some (r, gR') ∧ Rel (k + 1) gC' gR'

def lw_Sim (Rel : lw_R) : Prop := lw_SV fS_seed fR_seed Rel ∧ lw_S1 fS_malloc fR_malloc Rel ∧ lw_S1 fS_free fR_free Rel ∧ lw_SL fS_load fR_load Rel ∧ lw_S2 fS_store fR_store Rel ∧ lw_S2 fS_mesh fR_mesh Rel ∧ lw_S0 fS_probes fR_probes Rel ∧ lw_S1 fS_size fR_size Rel ∧ lw_S0 fS_freeSpans fR_freeSpans Rel ∧ lw_S1 fS_mapped fR_mapped Rel ∧ lw_S1 fS_count fR_count Rel ∧ lw_S0 fS_blocks fR_blocks Rel ∧ lw_S1 fS_heaps fR_heaps Rel ∧ lw_S1 fS_attached fR_attached Rel ∧ lw_S1 fS_heapOf fR_heapOf Rel ∧ lw_S2 fS_vector fR_vector Rel
set_option maxHeartbeats 16000000 in
set_option maxRecDepth 100000 in
/-- the law's loop -/
theorem law_loop (Rel : lw_R) (hSim : lw_Sim Rel) {p : Program} {l : Launch} {e : Env} {s : State} {m : MethodId} {below : List Frame} {meth : Method} {c : Code} {b L : Nat} {xs : Nat → Int32} (hL : L ≤ 1537) (C0 : lw_At p s m meth c b L xs) {dC : Nat → ClassId} {dI : Nat → Nat → Nat} {ca cb : Nat → ClassId} {ad bd : Nat → Nat} (hI : fl_inj 32 ad) (hJ : fl_inj 14 bd) (hdis : ∀ i j, i < 32 → j < 14 → ad i ≠ bd j) (hAd : ∀ i, i < 32 → s.heap.size ≤ ad i) (hBd : ∀ i, i < 14 → s.heap.size ≤ bd i) (hK : va_K (dC, dI) al_cl (mc_ty ca) s) (hK2 : va_K (dC, dI) al_cl (rf_ty cb) s) (hN : fl_N mc_ns s) : ∀ (n k : Nat) (x3 : Int32) (gC gR : fl_G) (H : Heap) (locs : List Loc) (ls : Array Slot), 512 < n + k → k ≤ 512 → x3 = nI (1 + 3 * k) → Rel k gC gR → va_P (dC, dI) al_cl (fl_ws 32 (mc_sh ca ad) ad gC) H → va_P (dC, dI) al_cl (fl_ws 14 (rf_sh cb bd) bd gR) H → va_S (fun q : Nat => s.heap.size ≤ q) s.heap H locs → lv_has ls 4 [(3, .int x3), (2, .ref (bd 0)), (1, .ref (ad 0)), (0, .ref b)] → W p l e room_1 s m #[Value.ref b] below meth c H locs 46 1767 (lw_Z below #[Value.ref b] s) (F0 m 28 ls []) := by
  obtain ⟨hx, hb, hr, hml, hown, hts0, hX, hbl, hlocks, hgv⟩ := id C0
  have hts : ∀ w ∈ gw, w.before #[Value.ref b] s = true := fun w hw => hts0 w (gw_tbl w hw)
  have hown : s.vm.findClass "MeshedSpansLaw" = some m.cls := hown
  have hbA : ¬ (fun q : Nat => s.heap.size ≤ q) b := Nat.not_le.mpr hbl
  have hN2 : fl_N rf_ns s := fun w hw => by cases hw
  have hdis2 : ∀ i j, i < 14 → j < 32 → bd i ≠ ad j := fun i j hi hj h => hdis j i hj hi h.symm
  obtain ⟨s_seed, s_malloc, s_free, s_load, s_store, s_mesh, s_probes, s_size, s_freeSpans, s_mapped, s_count, s_blocks, s_heaps, s_attached, s_heapOf, s_vector⟩ := hSim
  intro n
  induction n with
  | zero => intro k x3 gC gR H locs ls h1 h2; omega
  | succ n ih =>
    intro k x3 gC gR H locs ls hnk hk ex hRel hP hPr hS hl
    refine lv_iload_n hx hb dL_law_28 rfl (lv_at hl 0 rfl) ?_
    refine lv_aload_n hx hb dL_law_29 rfl (lv_at hl 3 rfl) ?_
    refine va_slen hx hb hX hbl hbA hS dL_law_30 ?_
    refine lv_iconst (v := 3) hx hb dL_law_31 (by decide) ?_
    refine lv_isub hx hb dL_law_32 ?_
    have e1 : (Int32.ofNat L - 3).toInt = (L : Int) - 3 := pk_sub_toInt (a := L) (b := 3) (by omega) (by omega)
    have e2 : x3.toInt = ((1 + 3 * k : Nat) : Int) := by rw [ex]; exact nI_toInt (by omega)
    refine lv_icmp_gt (tgt := 493) hx hb dL_law_33 (by decide) (fun c1 => ?_) (fun c1 => ?_)
    · refine lv_iconst (v := 1) hx hb dL_law_493 (by decide) ?_
      refine va_forget hS.2.2 ?_
      refine W.widen (k := 600000) (n := 7302250) (by omega) (by omega) ?_
      exact lw_ret hx hb hr hlocks dL_law_494
    · have hlt : 1 + 3 * k + 3 ≤ L := by
        rw [Int32.lt_iff_toInt_lt, e1, e2] at c1
        omega
      have hi0 : vp_in x3 L := by rw [ex]; exact vp_in_nI (by omega) (by omega)
      have hi1 : vp_in (x3 + 1) L := by rw [ex, nI_1]; exact vp_in_nI (by omega) (by omega)
      have hi2 : vp_in (x3 + 2) L := by rw [ex, show (2 : Int32) = nI 2 from rfl, nI_add]; exact vp_in_nI (by omega) (by omega)
      have tail : ∀ (gC gR : fl_G) (H : Heap) (locs : List Loc) (ls : Array Slot), Rel (k + 1) gC gR → va_P (dC, dI) al_cl (fl_ws 32 (mc_sh ca ad) ad gC) H → va_P (dC, dI) al_cl (fl_ws 14 (rf_sh cb bd) bd gR) H → va_S (fun q : Nat => s.heap.size ≤ q) s.heap H locs → lv_has ls 4 [(3, .int x3), (2, .ref (bd 0)), (1, .ref (ad 0)), (0, .ref b)] → W p l e room_1 s m #[Value.ref b] below meth c H locs 46 1767 (lw_Z below #[Value.ref b] s) (F0 m 487 ls []) := by
        intro gC gR H locs ls hRel hP hPr hS hl
        refine lv_iinc (v := x3 + 3) (lv' := [(3, .int (x3 + 3)), (2, .ref (bd 0)), (1, .ref (ad 0)), (0, .ref b)]) hx hb dL_law_487 hl (k := 0) rfl rfl (by decide) rfl (fun ls hl => ?_)
        refine lv_goto (tgt := 28) hx hb dL_law_490 (by decide) ?_
        exact ih (k + 1) (x3 + 3) gC gR H locs ls (by omega) (by omega) (by rw [ex, show (3 : Int32) = nI 3 from rfl, nI_add]; congr 1) hRel hP hPr hS hl
      refine lv_aload_n hx hb dL_law_36 rfl (lv_at hl 3 rfl) ?_
      refine lv_iload_n hx hb dL_law_37 rfl (lv_at hl 0 rfl) ?_
      refine va_sld hx hb hX hbl hbA hS hi0 dL_law_38 ?_
      refine lv_bipush (v := 15) hx hb dL_law_39 (by decide) ?_
      refine lv_iand hx hb dL_law_41 ?_
      obtain ⟨j, hj, ej⟩ := pk_andE (xs x3.toNatClampNeg) (m := 15) 4 (by decide)
      rw [ej]
      rcases (show j = 0 ∨ j = 1 ∨ j = 2 ∨ j = 3 ∨ j = 4 ∨ j = 5 ∨ j = 6 ∨ j = 7 ∨ j = 8 ∨ j = 9 ∨ j = 10 ∨ j = 11 ∨ j = 12 ∨ j = 13 ∨ j = 14 ∨ j = 15 by omega) with rfl | rfl | rfl | rfl | rfl | rfl | rfl | rfl | rfl | rfl | rfl | rfl | rfl | rfl | rfl | rfl
      · refine lv_tableIn (off := 78) (tgt := 120) hx hb dL_law_42 (by decide) (by decide) (by decide) (by decide) ?_
        obtain ⟨gC1, gR1, hc, hr1, hRel⟩ := s_seed k (xs (x3 + 1).toNatClampNeg) gC gR (by omega) hRel
        refine lv_aload_n hx hb dL_law_120 rfl (lv_at hl 2 rfl) ?_
        refine lv_aload_n hx hb dL_law_121 rfl (lv_at hl 3 rfl) ?_
        refine lv_iload_n hx hb dL_law_122 rfl (lv_at hl 0 rfl) ?_
        refine lv_iconst (v := 1) hx hb dL_law_123 (by decide) ?_
        refine lv_iadd hx hb dL_law_124 ?_
        refine va_sld hx hb hX hbl hbA hS hi1 dL_law_125 ?_
        refine lw_callv (va_runV (As := [.int (xs (x3 + 1).toNatClampNeg)]) (rest := []) ⟨hx, hb, hml, hown, hts⟩ (cS_seed l dC dI ca ad hI (xs (x3 + 1).toNatClampNeg) hc) (kS_seed hts (hts _ gm_165) ⟨Nat.le_of_ble_eq_true rfl, Nat.le_of_ble_eq_true rfl⟩) (fl_preV hK hP hN (mc_lt (q := 0) (K := 0) rfl (by decide)) (mc_sh0 rfl) rfl) rfl rfl hl.1 rfl (lv_room (Nat.le_of_ble_eq_true rfl)) dL_law_126 ⟨Nat.le_of_ble_eq_true rfl, Nat.le_of_ble_eq_true rfl⟩) hS hAd hPr hdis (fun H locs hP hPr hS => ?_)
        refine lv_aload_n hx hb dL_law_129 rfl (lv_at hl 1 rfl) ?_
        refine lv_aload_n hx hb dL_law_130 rfl (lv_at hl 3 rfl) ?_
        refine lv_iload_n hx hb dL_law_131 rfl (lv_at hl 0 rfl) ?_
        refine lv_iconst (v := 1) hx hb dL_law_132 (by decide) ?_
        refine lv_iadd hx hb dL_law_133 ?_
        refine va_sld hx hb hX hbl hbA hS hi1 dL_law_134 ?_
        refine lw_callv (va_runV (As := [.int (xs (x3 + 1).toNatClampNeg)]) (rest := []) ⟨hx, hb, hml, hown, hts⟩ (cR_seed l dC dI cb bd hJ (xs (x3 + 1).toNatClampNeg) hr1) (kR_seed hts (hts _ gm_551) ⟨Nat.le_of_ble_eq_true rfl, Nat.le_of_ble_eq_true rfl⟩) (fl_preV hK2 hPr hN2 (rf_lt (q := 0) (K := 0) rfl (by decide)) (rf_sh0 rfl) rfl) rfl rfl hl.1 rfl (lv_room (Nat.le_of_ble_eq_true rfl)) dL_law_135 ⟨Nat.le_of_ble_eq_true rfl, Nat.le_of_ble_eq_true rfl⟩) hS hBd hP hdis2 (fun H locs hPr hP hS => ?_)
        refine lv_goto (tgt := 487) hx hb dL_law_138 (by decide) ?_
        exact tail gC1 gR1 H locs ls hRel hP hPr hS hl
      · refine lv_tableIn (off := 99) (tgt := 141) hx hb dL_law_42 (by decide) (by decide) (by decide) (by decide) ?_
        obtain ⟨r, gC1, gR1, hc, hr1, hRel⟩ := s_malloc k (xs (x3 + 1).toNatClampNeg) gC gR (by omega) hRel
        refine lv_aload_n hx hb dL_law_141 rfl (lv_at hl 2 rfl) ?_
        refine lv_aload_n hx hb dL_law_142 rfl (lv_at hl 3 rfl) ?_
        refine lv_iload_n hx hb dL_law_143 rfl (lv_at hl 0 rfl) ?_
        refine lv_iconst (v := 1) hx hb dL_law_144 (by decide) ?_
        refine lv_iadd hx hb dL_law_145 ?_
        refine va_sld hx hb hX hbl hbA hS hi1 dL_law_146 ?_
        refine lw_calli (va_runV (As := [.int (xs (x3 + 1).toNatClampNeg)]) (rest := []) ⟨hx, hb, hml, hown, hts⟩ (cS_malloc l dC dI ca ad hI (xs (x3 + 1).toNatClampNeg) hc) (kS_malloc hts (hts _ gm_173) ⟨Nat.le_of_ble_eq_true rfl, Nat.le_of_ble_eq_true rfl⟩) (fl_preV hK hP hN (mc_lt (q := 0) (K := 0) rfl (by decide)) (mc_sh0 rfl) rfl) rfl rfl hl.1 rfl (lv_room (Nat.le_of_ble_eq_true rfl)) dL_law_147 ⟨Nat.le_of_ble_eq_true rfl, Nat.le_of_ble_eq_true rfl⟩) hS hAd hPr hdis (fun H locs hP hPr hS => ?_)
        refine lv_aload_n hx hb dL_law_150 rfl (lv_at hl 1 rfl) ?_
        refine lv_aload_n hx hb dL_law_151 rfl (lv_at hl 3 rfl) ?_
        refine lv_iload_n hx hb dL_law_152 rfl (lv_at hl 0 rfl) ?_
        refine lv_iconst (v := 1) hx hb dL_law_153 (by decide) ?_
        refine lv_iadd hx hb dL_law_154 ?_
        refine va_sld hx hb hX hbl hbA hS hi1 dL_law_155 ?_
        refine lw_calli (va_runV (As := [.int (xs (x3 + 1).toNatClampNeg)]) (rest := [.int r]) ⟨hx, hb, hml, hown, hts⟩ (cR_malloc l dC dI cb bd hJ (xs (x3 + 1).toNatClampNeg) hr1) (kR_malloc hts (hts _ gm_555) ⟨Nat.le_of_ble_eq_true rfl, Nat.le_of_ble_eq_true rfl⟩) (fl_preV hK2 hPr hN2 (rf_lt (q := 0) (K := 0) rfl (by decide)) (rf_sh0 rfl) rfl) rfl rfl hl.1 rfl (lv_room (Nat.le_of_ble_eq_true rfl)) dL_law_156 ⟨Nat.le_of_ble_eq_true rfl, Nat.le_of_ble_eq_true rfl⟩) hS hBd hP hdis2 (fun H locs hPr hP hS => ?_)
        refine lv_icmp_eq (tgt := 487) hx hb dL_law_159 (by decide) (fun _ => ?_) (fun c2 => absurd rfl c2)
        exact tail gC1 gR1 H locs ls hRel hP hPr hS hl
      · refine lv_tableIn (off := 122) (tgt := 164) hx hb dL_law_42 (by decide) (by decide) (by decide) (by decide) ?_
        obtain ⟨r, gC1, gR1, hc, hr1, hRel⟩ := s_free k (xs (x3 + 1).toNatClampNeg) gC gR (by omega) hRel
        refine lv_aload_n hx hb dL_law_164 rfl (lv_at hl 2 rfl) ?_
        refine lv_aload_n hx hb dL_law_165 rfl (lv_at hl 3 rfl) ?_
        refine lv_iload_n hx hb dL_law_166 rfl (lv_at hl 0 rfl) ?_
        refine lv_iconst (v := 1) hx hb dL_law_167 (by decide) ?_
        refine lv_iadd hx hb dL_law_168 ?_
        refine va_sld hx hb hX hbl hbA hS hi1 dL_law_169 ?_
        refine lw_calli (va_runV (As := [.int (xs (x3 + 1).toNatClampNeg)]) (rest := []) ⟨hx, hb, hml, hown, hts⟩ (cS_free l dC dI ca ad hI (xs (x3 + 1).toNatClampNeg) hc) (kS_free hts (hts _ gm_307) ⟨Nat.le_of_ble_eq_true rfl, Nat.le_of_ble_eq_true rfl⟩) (fl_preV hK hP hN (mc_lt (q := 0) (K := 0) rfl (by decide)) (mc_sh0 rfl) rfl) rfl rfl hl.1 rfl (lv_room (Nat.le_of_ble_eq_true rfl)) dL_law_170 ⟨Nat.le_of_ble_eq_true rfl, Nat.le_of_ble_eq_true rfl⟩) hS hAd hPr hdis (fun H locs hP hPr hS => ?_)
        refine lv_aload_n hx hb dL_law_173 rfl (lv_at hl 1 rfl) ?_
        refine lv_aload_n hx hb dL_law_174 rfl (lv_at hl 3 rfl) ?_
        refine lv_iload_n hx hb dL_law_175 rfl (lv_at hl 0 rfl) ?_
        refine lv_iconst (v := 1) hx hb dL_law_176 (by decide) ?_
        refine lv_iadd hx hb dL_law_177 ?_
        refine va_sld hx hb hX hbl hbA hS hi1 dL_law_178 ?_
        refine lw_calli (va_runV (As := [.int (xs (x3 + 1).toNatClampNeg)]) (rest := [.int r]) ⟨hx, hb, hml, hown, hts⟩ (cR_free l dC dI cb bd hJ (xs (x3 + 1).toNatClampNeg) hr1) (kR_free hts (hts _ gm_628) ⟨Nat.le_of_ble_eq_true rfl, Nat.le_of_ble_eq_true rfl⟩) (fl_preV hK2 hPr hN2 (rf_lt (q := 0) (K := 0) rfl (by decide)) (rf_sh0 rfl) rfl) rfl rfl hl.1 rfl (lv_room (Nat.le_of_ble_eq_true rfl)) dL_law_179 ⟨Nat.le_of_ble_eq_true rfl, Nat.le_of_ble_eq_true rfl⟩) hS hBd hP hdis2 (fun H locs hPr hP hS => ?_)
        refine lv_icmp_eq (tgt := 487) hx hb dL_law_182 (by decide) (fun _ => ?_) (fun c2 => absurd rfl c2)
        exact tail gC1 gR1 H locs ls hRel hP hPr hS hl
      · refine lv_tableIn (off := 145) (tgt := 187) hx hb dL_law_42 (by decide) (by decide) (by decide) (by decide) ?_
        obtain ⟨r, gC1, gR1, hc, hr1, hRel⟩ := s_load k (xs (x3 + 1).toNatClampNeg) gC gR (by omega) hRel
        refine lv_aload_n hx hb dL_law_187 rfl (lv_at hl 2 rfl) ?_
        refine lv_aload_n hx hb dL_law_188 rfl (lv_at hl 3 rfl) ?_
        refine lv_iload_n hx hb dL_law_189 rfl (lv_at hl 0 rfl) ?_
        refine lv_iconst (v := 1) hx hb dL_law_190 (by decide) ?_
        refine lv_iadd hx hb dL_law_191 ?_
        refine va_sld hx hb hX hbl hbA hS hi1 dL_law_192 ?_
        refine lw_calll (va_runV (As := [.int (xs (x3 + 1).toNatClampNeg)]) (rest := []) ⟨hx, hb, hml, hown, hts⟩ (cS_load l dC dI ca ad hI (xs (x3 + 1).toNatClampNeg) hc) (kS_load hts (hts _ gm_377) ⟨Nat.le_of_ble_eq_true rfl, Nat.le_of_ble_eq_true rfl⟩) (fl_preV hK hP hN (mc_lt (q := 0) (K := 0) rfl (by decide)) (mc_sh0 rfl) rfl) rfl rfl hl.1 rfl (lv_room (Nat.le_of_ble_eq_true rfl)) dL_law_193 ⟨Nat.le_of_ble_eq_true rfl, Nat.le_of_ble_eq_true rfl⟩) hS hAd hPr hdis (fun H locs hP hPr hS => ?_)
        refine lv_aload_n hx hb dL_law_196 rfl (lv_at hl 1 rfl) ?_
        refine lv_aload_n hx hb dL_law_197 rfl (lv_at hl 3 rfl) ?_
        refine lv_iload_n hx hb dL_law_198 rfl (lv_at hl 0 rfl) ?_
        refine lv_iconst (v := 1) hx hb dL_law_199 (by decide) ?_
        refine lv_iadd hx hb dL_law_200 ?_
        refine va_sld hx hb hX hbl hbA hS hi1 dL_law_201 ?_
        refine lw_calll (va_runV (As := [.int (xs (x3 + 1).toNatClampNeg)]) (rest := [.long r]) ⟨hx, hb, hml, hown, hts⟩ (cR_load l dC dI cb bd hJ (xs (x3 + 1).toNatClampNeg) hr1) (kR_load hts (hts _ gm_607) ⟨Nat.le_of_ble_eq_true rfl, Nat.le_of_ble_eq_true rfl⟩) (fl_preV hK2 hPr hN2 (rf_lt (q := 0) (K := 0) rfl (by decide)) (rf_sh0 rfl) rfl) rfl rfl hl.1 rfl (lv_room (Nat.le_of_ble_eq_true rfl)) dL_law_202 ⟨Nat.le_of_ble_eq_true rfl, Nat.le_of_ble_eq_true rfl⟩) hS hBd hP hdis2 (fun H locs hPr hP hS => ?_)
        refine W.lcmp hx hb dL_law_205 ?_
        refine lv_if_eq (tgt := 487) hx hb dL_law_206 (by decide) (fun _ => ?_) (fun c2 => absurd (by simp [lg_cmp]) c2)
        exact tail gC1 gR1 H locs ls hRel hP hPr hS hl
      · refine lv_tableIn (off := 169) (tgt := 211) hx hb dL_law_42 (by decide) (by decide) (by decide) (by decide) ?_
        obtain ⟨r, gC1, gR1, hc, hr1, hRel⟩ := s_store k (xs (x3 + 1).toNatClampNeg) (xs (x3 + 2).toNatClampNeg) gC gR (by omega) hRel
        refine lv_aload_n hx hb dL_law_211 rfl (lv_at hl 2 rfl) ?_
        refine lv_aload_n hx hb dL_law_212 rfl (lv_at hl 3 rfl) ?_
        refine lv_iload_n hx hb dL_law_213 rfl (lv_at hl 0 rfl) ?_
        refine lv_iconst (v := 1) hx hb dL_law_214 (by decide) ?_
        refine lv_iadd hx hb dL_law_215 ?_
        refine va_sld hx hb hX hbl hbA hS hi1 dL_law_216 ?_
        refine lv_aload_n hx hb dL_law_217 rfl (lv_at hl 3 rfl) ?_
        refine lv_iload_n hx hb dL_law_218 rfl (lv_at hl 0 rfl) ?_
        refine lv_iconst (v := 2) hx hb dL_law_219 (by decide) ?_
        refine lv_iadd hx hb dL_law_220 ?_
        refine va_sld hx hb hX hbl hbA hS hi2 dL_law_221 ?_
        refine lw_calli (va_runV (As := [.int (xs (x3 + 1).toNatClampNeg), .int (xs (x3 + 2).toNatClampNeg)]) (rest := []) ⟨hx, hb, hml, hown, hts⟩ (cS_store l dC dI ca ad hI (xs (x3 + 1).toNatClampNeg) (xs (x3 + 2).toNatClampNeg) hc) (kS_store hts (hts _ gm_390) ⟨Nat.le_of_ble_eq_true rfl, Nat.le_of_ble_eq_true rfl⟩) (fl_preV hK hP hN (mc_lt (q := 0) (K := 0) rfl (by decide)) (mc_sh0 rfl) rfl) rfl rfl hl.1 rfl (lv_room (Nat.le_of_ble_eq_true rfl)) dL_law_222 ⟨Nat.le_of_ble_eq_true rfl, Nat.le_of_ble_eq_true rfl⟩) hS hAd hPr hdis (fun H locs hP hPr hS => ?_)
        refine lv_aload_n hx hb dL_law_225 rfl (lv_at hl 1 rfl) ?_
        refine lv_aload_n hx hb dL_law_226 rfl (lv_at hl 3 rfl) ?_
        refine lv_iload_n hx hb dL_law_227 rfl (lv_at hl 0 rfl) ?_
        refine lv_iconst (v := 1) hx hb dL_law_228 (by decide) ?_
        refine lv_iadd hx hb dL_law_229 ?_
        refine va_sld hx hb hX hbl hbA hS hi1 dL_law_230 ?_
        refine lv_aload_n hx hb dL_law_231 rfl (lv_at hl 3 rfl) ?_
        refine lv_iload_n hx hb dL_law_232 rfl (lv_at hl 0 rfl) ?_
        refine lv_iconst (v := 2) hx hb dL_law_233 (by decide) ?_
        refine lv_iadd hx hb dL_law_234 ?_
        refine va_sld hx hb hX hbl hbA hS hi2 dL_law_235 ?_
        refine lw_calli (va_runV (As := [.int (xs (x3 + 1).toNatClampNeg), .int (xs (x3 + 2).toNatClampNeg)]) (rest := [.int r]) ⟨hx, hb, hml, hown, hts⟩ (cR_store l dC dI cb bd hJ (xs (x3 + 1).toNatClampNeg) (xs (x3 + 2).toNatClampNeg) hr1) (kR_store hts (hts _ gm_624) ⟨Nat.le_of_ble_eq_true rfl, Nat.le_of_ble_eq_true rfl⟩) (fl_preV hK2 hPr hN2 (rf_lt (q := 0) (K := 0) rfl (by decide)) (rf_sh0 rfl) rfl) rfl rfl hl.1 rfl (lv_room (Nat.le_of_ble_eq_true rfl)) dL_law_236 ⟨Nat.le_of_ble_eq_true rfl, Nat.le_of_ble_eq_true rfl⟩) hS hBd hP hdis2 (fun H locs hPr hP hS => ?_)
        refine lv_icmp_eq (tgt := 487) hx hb dL_law_239 (by decide) (fun _ => ?_) (fun c2 => absurd rfl c2)
        exact tail gC1 gR1 H locs ls hRel hP hPr hS hl
      · refine lv_tableIn (off := 202) (tgt := 244) hx hb dL_law_42 (by decide) (by decide) (by decide) (by decide) ?_
        obtain ⟨r, gC1, gR1, hc, hr1, hRel⟩ := s_mesh k (xs (x3 + 1).toNatClampNeg) (xs (x3 + 2).toNatClampNeg) gC gR (by omega) hRel
        refine lv_aload_n hx hb dL_law_244 rfl (lv_at hl 2 rfl) ?_
        refine lv_aload_n hx hb dL_law_245 rfl (lv_at hl 3 rfl) ?_
        refine lv_iload_n hx hb dL_law_246 rfl (lv_at hl 0 rfl) ?_
        refine lv_iconst (v := 1) hx hb dL_law_247 (by decide) ?_
        refine lv_iadd hx hb dL_law_248 ?_
        refine va_sld hx hb hX hbl hbA hS hi1 dL_law_249 ?_
        refine lv_aload_n hx hb dL_law_250 rfl (lv_at hl 3 rfl) ?_
        refine lv_iload_n hx hb dL_law_251 rfl (lv_at hl 0 rfl) ?_
        refine lv_iconst (v := 2) hx hb dL_law_252 (by decide) ?_
        refine lv_iadd hx hb dL_law_253 ?_
        refine va_sld hx hb hX hbl hbA hS hi2 dL_law_254 ?_
        refine lw_calli (va_runV (As := [.int (xs (x3 + 1).toNatClampNeg), .int (xs (x3 + 2).toNatClampNeg)]) (rest := []) ⟨hx, hb, hml, hown, hts⟩ (cS_mesh l dC dI ca ad hI (xs (x3 + 1).toNatClampNeg) (xs (x3 + 2).toNatClampNeg) hc) (kS_mesh hts (hts _ gm_398) ⟨Nat.le_of_ble_eq_true rfl, Nat.le_of_ble_eq_true rfl⟩) (fl_preV hK hP hN (mc_lt (q := 0) (K := 0) rfl (by decide)) (mc_sh0 rfl) rfl) rfl rfl hl.1 rfl (lv_room (Nat.le_of_ble_eq_true rfl)) dL_law_255 ⟨Nat.le_of_ble_eq_true rfl, Nat.le_of_ble_eq_true rfl⟩) hS hAd hPr hdis (fun H locs hP hPr hS => ?_)
        refine lv_aload_n hx hb dL_law_258 rfl (lv_at hl 1 rfl) ?_
        refine lv_aload_n hx hb dL_law_259 rfl (lv_at hl 3 rfl) ?_
        refine lv_iload_n hx hb dL_law_260 rfl (lv_at hl 0 rfl) ?_
        refine lv_iconst (v := 1) hx hb dL_law_261 (by decide) ?_
        refine lv_iadd hx hb dL_law_262 ?_
        refine va_sld hx hb hX hbl hbA hS hi1 dL_law_263 ?_
        refine lv_aload_n hx hb dL_law_264 rfl (lv_at hl 3 rfl) ?_
        refine lv_iload_n hx hb dL_law_265 rfl (lv_at hl 0 rfl) ?_
        refine lv_iconst (v := 2) hx hb dL_law_266 (by decide) ?_
        refine lv_iadd hx hb dL_law_267 ?_
        refine va_sld hx hb hX hbl hbA hS hi2 dL_law_268 ?_
        refine lw_calli (va_runV (As := [.int (xs (x3 + 1).toNatClampNeg), .int (xs (x3 + 2).toNatClampNeg)]) (rest := [.int r]) ⟨hx, hb, hml, hown, hts⟩ (cR_mesh l dC dI cb bd hJ (xs (x3 + 1).toNatClampNeg) (xs (x3 + 2).toNatClampNeg) hr1) (kR_mesh hts (hts _ gm_644) ⟨Nat.le_of_ble_eq_true rfl, Nat.le_of_ble_eq_true rfl⟩) (fl_preV hK2 hPr hN2 (rf_lt (q := 0) (K := 0) rfl (by decide)) (rf_sh0 rfl) rfl) rfl rfl hl.1 rfl (lv_room (Nat.le_of_ble_eq_true rfl)) dL_law_269 ⟨Nat.le_of_ble_eq_true rfl, Nat.le_of_ble_eq_true rfl⟩) hS hBd hP hdis2 (fun H locs hPr hP hS => ?_)
        refine lv_icmp_eq (tgt := 487) hx hb dL_law_272 (by decide) (fun _ => ?_) (fun c2 => absurd rfl c2)
        exact tail gC1 gR1 H locs ls hRel hP hPr hS hl
      · refine lv_tableIn (off := 235) (tgt := 277) hx hb dL_law_42 (by decide) (by decide) (by decide) (by decide) ?_
        obtain ⟨r, gC1, gR1, hc, hr1, hRel⟩ := s_probes k gC gR (by omega) hRel
        refine lv_aload_n hx hb dL_law_277 rfl (lv_at hl 2 rfl) ?_
        refine lw_calli (va_runV (As := []) (rest := []) ⟨hx, hb, hml, hown, hts⟩ (cS_probes l dC dI ca ad hI hc) (kS_probes hts (hts _ gm_441) ⟨Nat.le_of_ble_eq_true rfl, Nat.le_of_ble_eq_true rfl⟩) (fl_preV hK hP hN (mc_lt (q := 0) (K := 0) rfl (by decide)) (mc_sh0 rfl) rfl) rfl rfl hl.1 rfl (lv_room (Nat.le_of_ble_eq_true rfl)) dL_law_278 ⟨Nat.le_of_ble_eq_true rfl, Nat.le_of_ble_eq_true rfl⟩) hS hAd hPr hdis (fun H locs hP hPr hS => ?_)
        refine lv_aload_n hx hb dL_law_281 rfl (lv_at hl 1 rfl) ?_
        refine lw_calli (va_runV (As := []) (rest := [.int r]) ⟨hx, hb, hml, hown, hts⟩ (cR_probes l dC dI cb bd hJ hr1) (kR_probes hts (hts _ gm_660) ⟨Nat.le_of_ble_eq_true rfl, Nat.le_of_ble_eq_true rfl⟩) (fl_preV hK2 hPr hN2 (rf_lt (q := 0) (K := 0) rfl (by decide)) (rf_sh0 rfl) rfl) rfl rfl hl.1 rfl (lv_room (Nat.le_of_ble_eq_true rfl)) dL_law_282 ⟨Nat.le_of_ble_eq_true rfl, Nat.le_of_ble_eq_true rfl⟩) hS hBd hP hdis2 (fun H locs hPr hP hS => ?_)
        refine lv_icmp_eq (tgt := 487) hx hb dL_law_285 (by decide) (fun _ => ?_) (fun c2 => absurd rfl c2)
        exact tail gC1 gR1 H locs ls hRel hP hPr hS hl
      · refine lv_tableIn (off := 248) (tgt := 290) hx hb dL_law_42 (by decide) (by decide) (by decide) (by decide) ?_
        obtain ⟨r, gC1, gR1, hc, hr1, hRel⟩ := s_size k (xs (x3 + 1).toNatClampNeg) gC gR (by omega) hRel
        refine lv_aload_n hx hb dL_law_290 rfl (lv_at hl 2 rfl) ?_
        refine lv_aload_n hx hb dL_law_291 rfl (lv_at hl 3 rfl) ?_
        refine lv_iload_n hx hb dL_law_292 rfl (lv_at hl 0 rfl) ?_
        refine lv_iconst (v := 1) hx hb dL_law_293 (by decide) ?_
        refine lv_iadd hx hb dL_law_294 ?_
        refine va_sld hx hb hX hbl hbA hS hi1 dL_law_295 ?_
        refine lw_calli (va_runV (As := [.int (xs (x3 + 1).toNatClampNeg)]) (rest := []) ⟨hx, hb, hml, hown, hts⟩ (cS_size l dC dI ca ad hI (xs (x3 + 1).toNatClampNeg) hc) (kS_size hts (hts _ gm_445) ⟨Nat.le_of_ble_eq_true rfl, Nat.le_of_ble_eq_true rfl⟩) (fl_preV hK hP hN (mc_lt (q := 0) (K := 0) rfl (by decide)) (mc_sh0 rfl) rfl) rfl rfl hl.1 rfl (lv_room (Nat.le_of_ble_eq_true rfl)) dL_law_296 ⟨Nat.le_of_ble_eq_true rfl, Nat.le_of_ble_eq_true rfl⟩) hS hAd hPr hdis (fun H locs hP hPr hS => ?_)
        refine lv_aload_n hx hb dL_law_299 rfl (lv_at hl 1 rfl) ?_
        refine lv_aload_n hx hb dL_law_300 rfl (lv_at hl 3 rfl) ?_
        refine lv_iload_n hx hb dL_law_301 rfl (lv_at hl 0 rfl) ?_
        refine lv_iconst (v := 1) hx hb dL_law_302 (by decide) ?_
        refine lv_iadd hx hb dL_law_303 ?_
        refine va_sld hx hb hX hbl hbA hS hi1 dL_law_304 ?_
        refine lw_calli (va_runV (As := [.int (xs (x3 + 1).toNatClampNeg)]) (rest := [.int r]) ⟨hx, hb, hml, hown, hts⟩ (cR_size l dC dI cb bd hJ (xs (x3 + 1).toNatClampNeg) hr1) (kR_size hts (hts _ gm_664) ⟨Nat.le_of_ble_eq_true rfl, Nat.le_of_ble_eq_true rfl⟩) (fl_preV hK2 hPr hN2 (rf_lt (q := 0) (K := 0) rfl (by decide)) (rf_sh0 rfl) rfl) rfl rfl hl.1 rfl (lv_room (Nat.le_of_ble_eq_true rfl)) dL_law_305 ⟨Nat.le_of_ble_eq_true rfl, Nat.le_of_ble_eq_true rfl⟩) hS hBd hP hdis2 (fun H locs hPr hP hS => ?_)
        refine lv_icmp_eq (tgt := 487) hx hb dL_law_308 (by decide) (fun _ => ?_) (fun c2 => absurd rfl c2)
        exact tail gC1 gR1 H locs ls hRel hP hPr hS hl
      · refine lv_tableIn (off := 271) (tgt := 313) hx hb dL_law_42 (by decide) (by decide) (by decide) (by decide) ?_
        obtain ⟨r, gC1, gR1, hc, hr1, hRel⟩ := s_freeSpans k gC gR (by omega) hRel
        refine lv_aload_n hx hb dL_law_313 rfl (lv_at hl 2 rfl) ?_
        refine lw_calli (va_runV (As := []) (rest := []) ⟨hx, hb, hml, hown, hts⟩ (cS_freeSpans l dC dI ca ad hI hc) (kS_freeSpans hts (hts _ gm_449) ⟨Nat.le_of_ble_eq_true rfl, Nat.le_of_ble_eq_true rfl⟩) (fl_preV hK hP hN (mc_lt (q := 0) (K := 0) rfl (by decide)) (mc_sh0 rfl) rfl) rfl rfl hl.1 rfl (lv_room (Nat.le_of_ble_eq_true rfl)) dL_law_314 ⟨Nat.le_of_ble_eq_true rfl, Nat.le_of_ble_eq_true rfl⟩) hS hAd hPr hdis (fun H locs hP hPr hS => ?_)
        refine lv_aload_n hx hb dL_law_317 rfl (lv_at hl 1 rfl) ?_
        refine lw_calli (va_runV (As := []) (rest := [.int r]) ⟨hx, hb, hml, hown, hts⟩ (cR_freeSpans l dC dI cb bd hJ hr1) (kR_freeSpans hts (hts _ gm_668) ⟨Nat.le_of_ble_eq_true rfl, Nat.le_of_ble_eq_true rfl⟩) (fl_preV hK2 hPr hN2 (rf_lt (q := 0) (K := 0) rfl (by decide)) (rf_sh0 rfl) rfl) rfl rfl hl.1 rfl (lv_room (Nat.le_of_ble_eq_true rfl)) dL_law_318 ⟨Nat.le_of_ble_eq_true rfl, Nat.le_of_ble_eq_true rfl⟩) hS hBd hP hdis2 (fun H locs hPr hP hS => ?_)
        refine lv_icmp_eq (tgt := 487) hx hb dL_law_321 (by decide) (fun _ => ?_) (fun c2 => absurd rfl c2)
        exact tail gC1 gR1 H locs ls hRel hP hPr hS hl
      · refine lv_tableIn (off := 284) (tgt := 326) hx hb dL_law_42 (by decide) (by decide) (by decide) (by decide) ?_
        obtain ⟨r, gC1, gR1, hc, hr1, hRel⟩ := s_mapped k (xs (x3 + 1).toNatClampNeg) gC gR (by omega) hRel
        refine lv_aload_n hx hb dL_law_326 rfl (lv_at hl 2 rfl) ?_
        refine lv_aload_n hx hb dL_law_327 rfl (lv_at hl 3 rfl) ?_
        refine lv_iload_n hx hb dL_law_328 rfl (lv_at hl 0 rfl) ?_
        refine lv_iconst (v := 1) hx hb dL_law_329 (by decide) ?_
        refine lv_iadd hx hb dL_law_330 ?_
        refine va_sld hx hb hX hbl hbA hS hi1 dL_law_331 ?_
        refine lw_calli (va_runV (As := [.int (xs (x3 + 1).toNatClampNeg)]) (rest := []) ⟨hx, hb, hml, hown, hts⟩ (cS_mapped l dC dI ca ad hI (xs (x3 + 1).toNatClampNeg) hc) (kS_mapped hts (hts _ gm_453) ⟨Nat.le_of_ble_eq_true rfl, Nat.le_of_ble_eq_true rfl⟩) (fl_preV hK hP hN (mc_lt (q := 0) (K := 0) rfl (by decide)) (mc_sh0 rfl) rfl) rfl rfl hl.1 rfl (lv_room (Nat.le_of_ble_eq_true rfl)) dL_law_332 ⟨Nat.le_of_ble_eq_true rfl, Nat.le_of_ble_eq_true rfl⟩) hS hAd hPr hdis (fun H locs hP hPr hS => ?_)
        refine lv_aload_n hx hb dL_law_335 rfl (lv_at hl 1 rfl) ?_
        refine lv_aload_n hx hb dL_law_336 rfl (lv_at hl 3 rfl) ?_
        refine lv_iload_n hx hb dL_law_337 rfl (lv_at hl 0 rfl) ?_
        refine lv_iconst (v := 1) hx hb dL_law_338 (by decide) ?_
        refine lv_iadd hx hb dL_law_339 ?_
        refine va_sld hx hb hX hbl hbA hS hi1 dL_law_340 ?_
        refine lw_calli (va_runV (As := [.int (xs (x3 + 1).toNatClampNeg)]) (rest := [.int r]) ⟨hx, hb, hml, hown, hts⟩ (cR_mapped l dC dI cb bd hJ (xs (x3 + 1).toNatClampNeg) hr1) (kR_mapped hts (hts _ gm_669) ⟨Nat.le_of_ble_eq_true rfl, Nat.le_of_ble_eq_true rfl⟩) (fl_preV hK2 hPr hN2 (rf_lt (q := 0) (K := 0) rfl (by decide)) (rf_sh0 rfl) rfl) rfl rfl hl.1 rfl (lv_room (Nat.le_of_ble_eq_true rfl)) dL_law_341 ⟨Nat.le_of_ble_eq_true rfl, Nat.le_of_ble_eq_true rfl⟩) hS hBd hP hdis2 (fun H locs hPr hP hS => ?_)
        refine lv_icmp_eq (tgt := 487) hx hb dL_law_344 (by decide) (fun _ => ?_) (fun c2 => absurd rfl c2)
        exact tail gC1 gR1 H locs ls hRel hP hPr hS hl
      · refine lv_tableIn (off := 307) (tgt := 349) hx hb dL_law_42 (by decide) (by decide) (by decide) (by decide) ?_
        obtain ⟨r, gC1, gR1, hc, hr1, hRel⟩ := s_count k (xs (x3 + 1).toNatClampNeg) gC gR (by omega) hRel
        refine lv_aload_n hx hb dL_law_349 rfl (lv_at hl 2 rfl) ?_
        refine lv_aload_n hx hb dL_law_350 rfl (lv_at hl 3 rfl) ?_
        refine lv_iload_n hx hb dL_law_351 rfl (lv_at hl 0 rfl) ?_
        refine lv_iconst (v := 1) hx hb dL_law_352 (by decide) ?_
        refine lv_iadd hx hb dL_law_353 ?_
        refine va_sld hx hb hX hbl hbA hS hi1 dL_law_354 ?_
        refine lw_calli (va_runV (As := [.int (xs (x3 + 1).toNatClampNeg)]) (rest := []) ⟨hx, hb, hml, hown, hts⟩ (cS_count l dC dI ca ad hI (xs (x3 + 1).toNatClampNeg) hc) (kS_count hts (hts _ gm_457) ⟨Nat.le_of_ble_eq_true rfl, Nat.le_of_ble_eq_true rfl⟩) (fl_preV hK hP hN (mc_lt (q := 0) (K := 0) rfl (by decide)) (mc_sh0 rfl) rfl) rfl rfl hl.1 rfl (lv_room (Nat.le_of_ble_eq_true rfl)) dL_law_355 ⟨Nat.le_of_ble_eq_true rfl, Nat.le_of_ble_eq_true rfl⟩) hS hAd hPr hdis (fun H locs hP hPr hS => ?_)
        refine lv_aload_n hx hb dL_law_358 rfl (lv_at hl 1 rfl) ?_
        refine lv_aload_n hx hb dL_law_359 rfl (lv_at hl 3 rfl) ?_
        refine lv_iload_n hx hb dL_law_360 rfl (lv_at hl 0 rfl) ?_
        refine lv_iconst (v := 1) hx hb dL_law_361 (by decide) ?_
        refine lv_iadd hx hb dL_law_362 ?_
        refine va_sld hx hb hX hbl hbA hS hi1 dL_law_363 ?_
        refine lw_calli (va_runV (As := [.int (xs (x3 + 1).toNatClampNeg)]) (rest := [.int r]) ⟨hx, hb, hml, hown, hts⟩ (cR_count l dC dI cb bd hJ (xs (x3 + 1).toNatClampNeg) hr1) (kR_count hts (hts _ gm_673) ⟨Nat.le_of_ble_eq_true rfl, Nat.le_of_ble_eq_true rfl⟩) (fl_preV hK2 hPr hN2 (rf_lt (q := 0) (K := 0) rfl (by decide)) (rf_sh0 rfl) rfl) rfl rfl hl.1 rfl (lv_room (Nat.le_of_ble_eq_true rfl)) dL_law_364 ⟨Nat.le_of_ble_eq_true rfl, Nat.le_of_ble_eq_true rfl⟩) hS hBd hP hdis2 (fun H locs hPr hP hS => ?_)
        refine lv_icmp_eq (tgt := 487) hx hb dL_law_367 (by decide) (fun _ => ?_) (fun c2 => absurd rfl c2)
        exact tail gC1 gR1 H locs ls hRel hP hPr hS hl
      · refine lv_tableIn (off := 330) (tgt := 372) hx hb dL_law_42 (by decide) (by decide) (by decide) (by decide) ?_
        obtain ⟨r, gC1, gR1, hc, hr1, hRel⟩ := s_blocks k gC gR (by omega) hRel
        refine lv_aload_n hx hb dL_law_372 rfl (lv_at hl 2 rfl) ?_
        refine lw_calli (va_runV (As := []) (rest := []) ⟨hx, hb, hml, hown, hts⟩ (cS_blocks l dC dI ca ad hI hc) (kS_blocks hts (hts _ gm_465) ⟨Nat.le_of_ble_eq_true rfl, Nat.le_of_ble_eq_true rfl⟩) (fl_preV hK hP hN (mc_lt (q := 0) (K := 0) rfl (by decide)) (mc_sh0 rfl) rfl) rfl rfl hl.1 rfl (lv_room (Nat.le_of_ble_eq_true rfl)) dL_law_373 ⟨Nat.le_of_ble_eq_true rfl, Nat.le_of_ble_eq_true rfl⟩) hS hAd hPr hdis (fun H locs hP hPr hS => ?_)
        refine lv_aload_n hx hb dL_law_376 rfl (lv_at hl 1 rfl) ?_
        refine lw_calli (va_runV (As := []) (rest := [.int r]) ⟨hx, hb, hml, hown, hts⟩ (cR_blocks l dC dI cb bd hJ hr1) (kR_blocks hts (hts _ gm_677) ⟨Nat.le_of_ble_eq_true rfl, Nat.le_of_ble_eq_true rfl⟩) (fl_preV hK2 hPr hN2 (rf_lt (q := 0) (K := 0) rfl (by decide)) (rf_sh0 rfl) rfl) rfl rfl hl.1 rfl (lv_room (Nat.le_of_ble_eq_true rfl)) dL_law_377 ⟨Nat.le_of_ble_eq_true rfl, Nat.le_of_ble_eq_true rfl⟩) hS hBd hP hdis2 (fun H locs hPr hP hS => ?_)
        refine lv_icmp_eq (tgt := 487) hx hb dL_law_380 (by decide) (fun _ => ?_) (fun c2 => absurd rfl c2)
        exact tail gC1 gR1 H locs ls hRel hP hPr hS hl
      · refine lv_tableIn (off := 343) (tgt := 385) hx hb dL_law_42 (by decide) (by decide) (by decide) (by decide) ?_
        obtain ⟨r, gC1, gR1, hc, hr1, hRel⟩ := s_heaps k (xs (x3 + 1).toNatClampNeg) gC gR (by omega) hRel
        refine lv_aload_n hx hb dL_law_385 rfl (lv_at hl 2 rfl) ?_
        refine lv_aload_n hx hb dL_law_386 rfl (lv_at hl 3 rfl) ?_
        refine lv_iload_n hx hb dL_law_387 rfl (lv_at hl 0 rfl) ?_
        refine lv_iconst (v := 1) hx hb dL_law_388 (by decide) ?_
        refine lv_iadd hx hb dL_law_389 ?_
        refine va_sld hx hb hX hbl hbA hS hi1 dL_law_390 ?_
        refine lw_calli (va_runV (As := [.int (xs (x3 + 1).toNatClampNeg)]) (rest := []) ⟨hx, hb, hml, hown, hts⟩ (cS_heaps l dC dI ca ad hI (xs (x3 + 1).toNatClampNeg) hc) (kS_heaps hts (hts _ gm_473) ⟨Nat.le_of_ble_eq_true rfl, Nat.le_of_ble_eq_true rfl⟩) (fl_preV hK hP hN (mc_lt (q := 0) (K := 0) rfl (by decide)) (mc_sh0 rfl) rfl) rfl rfl hl.1 rfl (lv_room (Nat.le_of_ble_eq_true rfl)) dL_law_391 ⟨Nat.le_of_ble_eq_true rfl, Nat.le_of_ble_eq_true rfl⟩) hS hAd hPr hdis (fun H locs hP hPr hS => ?_)
        refine lv_aload_n hx hb dL_law_394 rfl (lv_at hl 1 rfl) ?_
        refine lv_aload_n hx hb dL_law_395 rfl (lv_at hl 3 rfl) ?_
        refine lv_iload_n hx hb dL_law_396 rfl (lv_at hl 0 rfl) ?_
        refine lv_iconst (v := 1) hx hb dL_law_397 (by decide) ?_
        refine lv_iadd hx hb dL_law_398 ?_
        refine va_sld hx hb hX hbl hbA hS hi1 dL_law_399 ?_
        refine lw_calli (va_runV (As := [.int (xs (x3 + 1).toNatClampNeg)]) (rest := [.int r]) ⟨hx, hb, hml, hown, hts⟩ (cR_heaps l dC dI cb bd hJ (xs (x3 + 1).toNatClampNeg) hr1) (kR_heaps hts (hts _ gm_681) ⟨Nat.le_of_ble_eq_true rfl, Nat.le_of_ble_eq_true rfl⟩) (fl_preV hK2 hPr hN2 (rf_lt (q := 0) (K := 0) rfl (by decide)) (rf_sh0 rfl) rfl) rfl rfl hl.1 rfl (lv_room (Nat.le_of_ble_eq_true rfl)) dL_law_400 ⟨Nat.le_of_ble_eq_true rfl, Nat.le_of_ble_eq_true rfl⟩) hS hBd hP hdis2 (fun H locs hPr hP hS => ?_)
        refine lv_icmp_eq (tgt := 487) hx hb dL_law_403 (by decide) (fun _ => ?_) (fun c2 => absurd rfl c2)
        exact tail gC1 gR1 H locs ls hRel hP hPr hS hl
      · refine lv_tableIn (off := 366) (tgt := 408) hx hb dL_law_42 (by decide) (by decide) (by decide) (by decide) ?_
        obtain ⟨r, gC1, gR1, hc, hr1, hRel⟩ := s_attached k (xs (x3 + 1).toNatClampNeg) gC gR (by omega) hRel
        refine lv_aload_n hx hb dL_law_408 rfl (lv_at hl 2 rfl) ?_
        refine lv_aload_n hx hb dL_law_409 rfl (lv_at hl 3 rfl) ?_
        refine lv_iload_n hx hb dL_law_410 rfl (lv_at hl 0 rfl) ?_
        refine lv_iconst (v := 1) hx hb dL_law_411 (by decide) ?_
        refine lv_iadd hx hb dL_law_412 ?_
        refine va_sld hx hb hX hbl hbA hS hi1 dL_law_413 ?_
        refine lw_calli (va_runV (As := [.int (xs (x3 + 1).toNatClampNeg)]) (rest := []) ⟨hx, hb, hml, hown, hts⟩ (cS_attached l dC dI ca ad hI (xs (x3 + 1).toNatClampNeg) hc) (kS_attached hts (hts _ gm_477) ⟨Nat.le_of_ble_eq_true rfl, Nat.le_of_ble_eq_true rfl⟩) (fl_preV hK hP hN (mc_lt (q := 0) (K := 0) rfl (by decide)) (mc_sh0 rfl) rfl) rfl rfl hl.1 rfl (lv_room (Nat.le_of_ble_eq_true rfl)) dL_law_414 ⟨Nat.le_of_ble_eq_true rfl, Nat.le_of_ble_eq_true rfl⟩) hS hAd hPr hdis (fun H locs hP hPr hS => ?_)
        refine lv_aload_n hx hb dL_law_417 rfl (lv_at hl 1 rfl) ?_
        refine lv_aload_n hx hb dL_law_418 rfl (lv_at hl 3 rfl) ?_
        refine lv_iload_n hx hb dL_law_419 rfl (lv_at hl 0 rfl) ?_
        refine lv_iconst (v := 1) hx hb dL_law_420 (by decide) ?_
        refine lv_iadd hx hb dL_law_421 ?_
        refine va_sld hx hb hX hbl hbA hS hi1 dL_law_422 ?_
        refine lw_calli (va_runV (As := [.int (xs (x3 + 1).toNatClampNeg)]) (rest := [.int r]) ⟨hx, hb, hml, hown, hts⟩ (cR_attached l dC dI cb bd hJ (xs (x3 + 1).toNatClampNeg) hr1) (kR_attached hts (hts _ gm_685) ⟨Nat.le_of_ble_eq_true rfl, Nat.le_of_ble_eq_true rfl⟩) (fl_preV hK2 hPr hN2 (rf_lt (q := 0) (K := 0) rfl (by decide)) (rf_sh0 rfl) rfl) rfl rfl hl.1 rfl (lv_room (Nat.le_of_ble_eq_true rfl)) dL_law_423 ⟨Nat.le_of_ble_eq_true rfl, Nat.le_of_ble_eq_true rfl⟩) hS hBd hP hdis2 (fun H locs hPr hP hS => ?_)
        refine lv_icmp_eq (tgt := 487) hx hb dL_law_426 (by decide) (fun _ => ?_) (fun c2 => absurd rfl c2)
        exact tail gC1 gR1 H locs ls hRel hP hPr hS hl
      · refine lv_tableIn (off := 389) (tgt := 431) hx hb dL_law_42 (by decide) (by decide) (by decide) (by decide) ?_
        obtain ⟨r, gC1, gR1, hc, hr1, hRel⟩ := s_heapOf k (xs (x3 + 1).toNatClampNeg) gC gR (by omega) hRel
        refine lv_aload_n hx hb dL_law_431 rfl (lv_at hl 2 rfl) ?_
        refine lv_aload_n hx hb dL_law_432 rfl (lv_at hl 3 rfl) ?_
        refine lv_iload_n hx hb dL_law_433 rfl (lv_at hl 0 rfl) ?_
        refine lv_iconst (v := 1) hx hb dL_law_434 (by decide) ?_
        refine lv_iadd hx hb dL_law_435 ?_
        refine va_sld hx hb hX hbl hbA hS hi1 dL_law_436 ?_
        refine lw_calli (va_runV (As := [.int (xs (x3 + 1).toNatClampNeg)]) (rest := []) ⟨hx, hb, hml, hown, hts⟩ (cS_heapOf l dC dI ca ad hI (xs (x3 + 1).toNatClampNeg) hc) (kS_heapOf hts (hts _ gm_481) ⟨Nat.le_of_ble_eq_true rfl, Nat.le_of_ble_eq_true rfl⟩) (fl_preV hK hP hN (mc_lt (q := 0) (K := 0) rfl (by decide)) (mc_sh0 rfl) rfl) rfl rfl hl.1 rfl (lv_room (Nat.le_of_ble_eq_true rfl)) dL_law_437 ⟨Nat.le_of_ble_eq_true rfl, Nat.le_of_ble_eq_true rfl⟩) hS hAd hPr hdis (fun H locs hP hPr hS => ?_)
        refine lv_aload_n hx hb dL_law_440 rfl (lv_at hl 1 rfl) ?_
        refine lv_aload_n hx hb dL_law_441 rfl (lv_at hl 3 rfl) ?_
        refine lv_iload_n hx hb dL_law_442 rfl (lv_at hl 0 rfl) ?_
        refine lv_iconst (v := 1) hx hb dL_law_443 (by decide) ?_
        refine lv_iadd hx hb dL_law_444 ?_
        refine va_sld hx hb hX hbl hbA hS hi1 dL_law_445 ?_
        refine lw_calli (va_runV (As := [.int (xs (x3 + 1).toNatClampNeg)]) (rest := [.int r]) ⟨hx, hb, hml, hown, hts⟩ (cR_heapOf l dC dI cb bd hJ (xs (x3 + 1).toNatClampNeg) hr1) (kR_heapOf hts (hts _ gm_689) ⟨Nat.le_of_ble_eq_true rfl, Nat.le_of_ble_eq_true rfl⟩) (fl_preV hK2 hPr hN2 (rf_lt (q := 0) (K := 0) rfl (by decide)) (rf_sh0 rfl) rfl) rfl rfl hl.1 rfl (lv_room (Nat.le_of_ble_eq_true rfl)) dL_law_446 ⟨Nat.le_of_ble_eq_true rfl, Nat.le_of_ble_eq_true rfl⟩) hS hBd hP hdis2 (fun H locs hPr hP hS => ?_)
        refine lv_icmp_eq (tgt := 487) hx hb dL_law_449 (by decide) (fun _ => ?_) (fun c2 => absurd rfl c2)
        exact tail gC1 gR1 H locs ls hRel hP hPr hS hl
      · refine lv_tableIn (off := 412) (tgt := 454) hx hb dL_law_42 (by decide) (by decide) (by decide) (by decide) ?_
        obtain ⟨r, gC1, gR1, hc, hr1, hRel⟩ := s_vector k (xs (x3 + 1).toNatClampNeg) (xs (x3 + 2).toNatClampNeg) gC gR (by omega) hRel
        refine lv_aload_n hx hb dL_law_454 rfl (lv_at hl 2 rfl) ?_
        refine lv_aload_n hx hb dL_law_455 rfl (lv_at hl 3 rfl) ?_
        refine lv_iload_n hx hb dL_law_456 rfl (lv_at hl 0 rfl) ?_
        refine lv_iconst (v := 1) hx hb dL_law_457 (by decide) ?_
        refine lv_iadd hx hb dL_law_458 ?_
        refine va_sld hx hb hX hbl hbA hS hi1 dL_law_459 ?_
        refine lv_aload_n hx hb dL_law_460 rfl (lv_at hl 3 rfl) ?_
        refine lv_iload_n hx hb dL_law_461 rfl (lv_at hl 0 rfl) ?_
        refine lv_iconst (v := 2) hx hb dL_law_462 (by decide) ?_
        refine lv_iadd hx hb dL_law_463 ?_
        refine va_sld hx hb hX hbl hbA hS hi2 dL_law_464 ?_
        refine lw_calli (va_runV (As := [.int (xs (x3 + 1).toNatClampNeg), .int (xs (x3 + 2).toNatClampNeg)]) (rest := []) ⟨hx, hb, hml, hown, hts⟩ (cS_vector l dC dI ca ad hI (xs (x3 + 1).toNatClampNeg) (xs (x3 + 2).toNatClampNeg) hc) (kS_vector hts (hts _ gm_485) ⟨Nat.le_of_ble_eq_true rfl, Nat.le_of_ble_eq_true rfl⟩) (fl_preV hK hP hN (mc_lt (q := 0) (K := 0) rfl (by decide)) (mc_sh0 rfl) rfl) rfl rfl hl.1 rfl (lv_room (Nat.le_of_ble_eq_true rfl)) dL_law_465 ⟨Nat.le_of_ble_eq_true rfl, Nat.le_of_ble_eq_true rfl⟩) hS hAd hPr hdis (fun H locs hP hPr hS => ?_)
        refine lv_aload_n hx hb dL_law_468 rfl (lv_at hl 1 rfl) ?_
        refine lv_aload_n hx hb dL_law_469 rfl (lv_at hl 3 rfl) ?_
        refine lv_iload_n hx hb dL_law_470 rfl (lv_at hl 0 rfl) ?_
        refine lv_iconst (v := 1) hx hb dL_law_471 (by decide) ?_
        refine lv_iadd hx hb dL_law_472 ?_
        refine va_sld hx hb hX hbl hbA hS hi1 dL_law_473 ?_
        refine lv_aload_n hx hb dL_law_474 rfl (lv_at hl 3 rfl) ?_
        refine lv_iload_n hx hb dL_law_475 rfl (lv_at hl 0 rfl) ?_
        refine lv_iconst (v := 2) hx hb dL_law_476 (by decide) ?_
        refine lv_iadd hx hb dL_law_477 ?_
        refine va_sld hx hb hX hbl hbA hS hi2 dL_law_478 ?_
        refine lw_calli (va_runV (As := [.int (xs (x3 + 1).toNatClampNeg), .int (xs (x3 + 2).toNatClampNeg)]) (rest := [.int r]) ⟨hx, hb, hml, hown, hts⟩ (cR_vector l dC dI cb bd hJ (xs (x3 + 1).toNatClampNeg) (xs (x3 + 2).toNatClampNeg) hr1) (kR_vector hts (hts _ gm_693) ⟨Nat.le_of_ble_eq_true rfl, Nat.le_of_ble_eq_true rfl⟩) (fl_preV hK2 hPr hN2 (rf_lt (q := 0) (K := 0) rfl (by decide)) (rf_sh0 rfl) rfl) rfl rfl hl.1 rfl (lv_room (Nat.le_of_ble_eq_true rfl)) dL_law_479 ⟨Nat.le_of_ble_eq_true rfl, Nat.le_of_ble_eq_true rfl⟩) hS hBd hP hdis2 (fun H locs hPr hP hS => ?_)
        refine lv_icmp_eq (tgt := 487) hx hb dL_law_482 (by decide) (fun _ => ?_) (fun c2 => absurd rfl c2)
        exact tail gC1 gR1 H locs ls hRel hP hPr hS hl
