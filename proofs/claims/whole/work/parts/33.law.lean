/-! THE CLAIM OUT OF ONE WALK OF THE LAW'S BODY. Your part is whole_start (and what it stands on); all else here is the same for every law, but numbers. -/
def R_law : String := "PulledJerseyLaw"
def lw_P (b : Addr) (xs : List Int32) (args : Array Value) (s : State) : Prop := args = #[.ref b] ∧ s.IntsAt b xs ∧ xs.length ≤ 3072 ∧ (Jvm.Cond.and given_1 narrow_1).before args s = true
def lw_Q (_ : Array Value) (s : State) (o : Outcome) (t : State) : Prop := o = .returned (some (.int 1)) ∧ Framed s o t [] 600000 7302250
def lw_Z (below : List Frame) (a : Array Value) (s : State) : State → Prop := fun t => ∃ o, t.status = .running ∧ Ended t below o ∧ lw_Q a s o t
/-- the law's own end, with 1 on the stack, nothing written that was there before, its room as the claim has it -/
theorem lw_ret {p : Program} {l : Launch} {e : Env} {s : State} {m : MethodId} {below : List Frame} {meth : Method} {c : Code} {b : Nat} (hx : p.tables.exec = Jvm.exec) (hb : c.code = code) (hr : meth.sig.returnType = ret) (hlocks : meth.locks = false) {pc : Nat} {H : Heap} {ls : Array Slot} (hdg : decode code pc = .ok (.ireturn, 1)) : W p l e room_1 s m #[Value.ref b] below meth c H [] 600000 7302250 (lw_Z below #[Value.ref b] s) (F0 m pc ls [.int 1]) := by
  intro T hT X
  obtain ⟨fs, hret, hrun, hended, hW, hframe⟩ := X.leave (v := some (.int 1)) (hlocks := hlocks) (fun h => by rw [hr] at h; cases h)
  have hmeth' : T.vm.method? m = some meth := X.method'
  refine ⟨T.setFrames fs, ?_, .returned (some (.int 1)), hrun, hended, rfl, ⟨_, rfl⟩, hW, hframe⟩
  jvm_step X.here [X.here.top, hx, hb, hdg, hmeth', hr, ret, narrow_b1]
  (try refine ⟨rfl, ?_⟩); (try refine ⟨rfl, ?_⟩)
  first | (intro acts; rw [hret _ acts rfl rfl rfl]) | rw [hret _ _ rfl rfl rfl]
  exact Steps.refl _
/-- what holds at the law's entry: the machine, the code, the tables' words (any of lw_tbl by 'hts w (by decide +kernel)'), the script of L ints xs at the cell b, what the Statement gives of the start (any of its parts by flat_of_before) -/
def lw_At (p : Program) (s : State) (m : MethodId) (meth : Method) (c : Code) (b L : Nat) (xs : Nat → Int32) : Prop :=
  p.tables.exec = Jvm.exec ∧ c.code = code ∧ meth.sig.returnType = ret ∧ c.maxLocals = 4 ∧ s.vm.findClass R_law = some m.cls ∧ (∀ w ∈ lw_tbl, w.before #[Value.ref b] s = true) ∧ va_X b L xs s s.heap ∧ b < s.heap.size ∧ meth.locks = false ∧ (Jvm.Cond.and given_1 narrow_1).before #[Value.ref b] s = true
theorem dl_0 : pj_d code 0 (.new 7) 3 3 := ⟨by decide +kernel, rfl⟩
theorem dl_3 : pj_d code 3 (.dup) 1 4 := ⟨by decide +kernel, rfl⟩
theorem dl_4 : pj_d code 4 (.invokespecial 9) 3 7 := ⟨by decide +kernel, rfl⟩
theorem dl_7 : pj_d code 7 (.astore_n 1) 1 8 := ⟨by decide +kernel, rfl⟩
theorem dl_8 : pj_d code 8 (.new 10) 3 11 := ⟨by decide +kernel, rfl⟩
theorem dl_11 : pj_d code 11 (.dup) 1 12 := ⟨by decide +kernel, rfl⟩
theorem dl_12 : pj_d code 12 (.invokespecial 12) 3 15 := ⟨by decide +kernel, rfl⟩
theorem dl_15 : pj_d code 15 (.astore_n 2) 1 16 := ⟨by decide +kernel, rfl⟩
theorem dl_16 : pj_d code 16 (.iconst 0) 1 17 := ⟨by decide +kernel, rfl⟩
theorem dl_17 : pj_d code 17 (.istore_n 3) 1 18 := ⟨by decide +kernel, rfl⟩
theorem dl_18 : pj_d code 18 (.iload_n 3) 1 19 := ⟨by decide +kernel, rfl⟩
theorem dl_19 : pj_d code 19 (.aload_n 0) 1 20 := ⟨by decide +kernel, rfl⟩
theorem dl_20 : pj_d code 20 (.arraylength) 1 21 := ⟨by decide +kernel, rfl⟩
theorem dl_21 : pj_d code 21 (.bipush 6) 2 23 := ⟨by decide +kernel, rfl⟩
theorem dl_23 : pj_d code 23 (.isub) 1 24 := ⟨by decide +kernel, rfl⟩
theorem dl_24 : pj_dj code 24 (.if_icmp .gt 908) 908 27 932 := ⟨by decide +kernel, rfl, by decide⟩
theorem dl_27 : pj_d code 27 (.aload_n 0) 1 28 := ⟨by decide +kernel, rfl⟩
theorem dl_28 : pj_d code 28 (.iload_n 3) 1 29 := ⟨by decide +kernel, rfl⟩
theorem dl_29 : pj_d code 29 (.iaload) 1 30 := ⟨by decide +kernel, rfl⟩
theorem dl_30 : pj_d code 30 (.bipush 31) 2 32 := ⟨by decide +kernel, rfl⟩
theorem dl_32 : pj_d code 32 (.iand) 1 33 := ⟨by decide +kernel, rfl⟩
theorem dl_33 : pj_d code 33 (.tableswitch 893 0 25 #[119, 142, 175, 218, 241, 264, 307, 330, 393, 416, 429, 452, 485, 518, 541, 574, 607, 640, 683, 706, 759, 782, 795, 818, 831, 870]) 119 152 := ⟨by decide +kernel, rfl⟩
theorem dl_152 : pj_d code 152 (.aload_n 1) 1 153 := ⟨by decide +kernel, rfl⟩
theorem dl_153 : pj_d code 153 (.aload_n 0) 1 154 := ⟨by decide +kernel, rfl⟩
theorem dl_154 : pj_d code 154 (.iload_n 3) 1 155 := ⟨by decide +kernel, rfl⟩
theorem dl_155 : pj_d code 155 (.iconst 1) 1 156 := ⟨by decide +kernel, rfl⟩
theorem dl_156 : pj_d code 156 (.iadd) 1 157 := ⟨by decide +kernel, rfl⟩
theorem dl_157 : pj_d code 157 (.iaload) 1 158 := ⟨by decide +kernel, rfl⟩
theorem dl_158 : pj_d code 158 (.invokevirtual 13) 3 161 := ⟨by decide +kernel, rfl⟩
theorem dl_161 : pj_d code 161 (.aload_n 2) 1 162 := ⟨by decide +kernel, rfl⟩
theorem dl_162 : pj_d code 162 (.aload_n 0) 1 163 := ⟨by decide +kernel, rfl⟩
theorem dl_163 : pj_d code 163 (.iload_n 3) 1 164 := ⟨by decide +kernel, rfl⟩
theorem dl_164 : pj_d code 164 (.iconst 1) 1 165 := ⟨by decide +kernel, rfl⟩
theorem dl_165 : pj_d code 165 (.iadd) 1 166 := ⟨by decide +kernel, rfl⟩
theorem dl_166 : pj_d code 166 (.iaload) 1 167 := ⟨by decide +kernel, rfl⟩
theorem dl_167 : pj_d code 167 (.invokevirtual 17) 3 170 := ⟨by decide +kernel, rfl⟩
theorem dl_170 : pj_dj code 170 (.if_icmp .eq 756) 756 173 926 := ⟨by decide +kernel, rfl, by decide⟩
theorem dl_173 : pj_d code 173 (.iconst 0) 1 174 := ⟨by decide +kernel, rfl⟩
theorem dl_174 : pj_d code 174 (.ireturn) 1 175 := ⟨by decide +kernel, rfl⟩
theorem dl_175 : pj_d code 175 (.aload_n 1) 1 176 := ⟨by decide +kernel, rfl⟩
theorem dl_176 : pj_d code 176 (.aload_n 0) 1 177 := ⟨by decide +kernel, rfl⟩
theorem dl_177 : pj_d code 177 (.iload_n 3) 1 178 := ⟨by decide +kernel, rfl⟩
theorem dl_178 : pj_d code 178 (.iconst 1) 1 179 := ⟨by decide +kernel, rfl⟩
theorem dl_179 : pj_d code 179 (.iadd) 1 180 := ⟨by decide +kernel, rfl⟩
theorem dl_180 : pj_d code 180 (.iaload) 1 181 := ⟨by decide +kernel, rfl⟩
theorem dl_181 : pj_d code 181 (.aload_n 0) 1 182 := ⟨by decide +kernel, rfl⟩
theorem dl_182 : pj_d code 182 (.iload_n 3) 1 183 := ⟨by decide +kernel, rfl⟩
theorem dl_183 : pj_d code 183 (.iconst 2) 1 184 := ⟨by decide +kernel, rfl⟩
theorem dl_184 : pj_d code 184 (.iadd) 1 185 := ⟨by decide +kernel, rfl⟩
theorem dl_185 : pj_d code 185 (.iaload) 1 186 := ⟨by decide +kernel, rfl⟩
theorem dl_186 : pj_d code 186 (.invokevirtual 18) 3 189 := ⟨by decide +kernel, rfl⟩
theorem dl_189 : pj_d code 189 (.aload_n 2) 1 190 := ⟨by decide +kernel, rfl⟩
theorem dl_190 : pj_d code 190 (.aload_n 0) 1 191 := ⟨by decide +kernel, rfl⟩
theorem dl_191 : pj_d code 191 (.iload_n 3) 1 192 := ⟨by decide +kernel, rfl⟩
theorem dl_192 : pj_d code 192 (.iconst 1) 1 193 := ⟨by decide +kernel, rfl⟩
theorem dl_193 : pj_d code 193 (.iadd) 1 194 := ⟨by decide +kernel, rfl⟩
theorem dl_194 : pj_d code 194 (.iaload) 1 195 := ⟨by decide +kernel, rfl⟩
theorem dl_195 : pj_d code 195 (.aload_n 0) 1 196 := ⟨by decide +kernel, rfl⟩
theorem dl_196 : pj_d code 196 (.iload_n 3) 1 197 := ⟨by decide +kernel, rfl⟩
theorem dl_197 : pj_d code 197 (.iconst 2) 1 198 := ⟨by decide +kernel, rfl⟩
theorem dl_198 : pj_d code 198 (.iadd) 1 199 := ⟨by decide +kernel, rfl⟩
theorem dl_199 : pj_d code 199 (.iaload) 1 200 := ⟨by decide +kernel, rfl⟩
theorem dl_200 : pj_d code 200 (.invokevirtual 22) 3 203 := ⟨by decide +kernel, rfl⟩
theorem dl_203 : pj_dj code 203 (.if_icmp .eq 723) 723 206 926 := ⟨by decide +kernel, rfl, by decide⟩
theorem dl_206 : pj_d code 206 (.iconst 0) 1 207 := ⟨by decide +kernel, rfl⟩
theorem dl_207 : pj_d code 207 (.ireturn) 1 208 := ⟨by decide +kernel, rfl⟩
theorem dl_208 : pj_d code 208 (.aload_n 1) 1 209 := ⟨by decide +kernel, rfl⟩
theorem dl_209 : pj_d code 209 (.aload_n 0) 1 210 := ⟨by decide +kernel, rfl⟩
theorem dl_210 : pj_d code 210 (.iload_n 3) 1 211 := ⟨by decide +kernel, rfl⟩
theorem dl_211 : pj_d code 211 (.iconst 1) 1 212 := ⟨by decide +kernel, rfl⟩
theorem dl_212 : pj_d code 212 (.iadd) 1 213 := ⟨by decide +kernel, rfl⟩
theorem dl_213 : pj_d code 213 (.iaload) 1 214 := ⟨by decide +kernel, rfl⟩
theorem dl_214 : pj_d code 214 (.aload_n 0) 1 215 := ⟨by decide +kernel, rfl⟩
theorem dl_215 : pj_d code 215 (.iload_n 3) 1 216 := ⟨by decide +kernel, rfl⟩
theorem dl_216 : pj_d code 216 (.iconst 2) 1 217 := ⟨by decide +kernel, rfl⟩
theorem dl_217 : pj_d code 217 (.iadd) 1 218 := ⟨by decide +kernel, rfl⟩
theorem dl_218 : pj_d code 218 (.iaload) 1 219 := ⟨by decide +kernel, rfl⟩
theorem dl_219 : pj_d code 219 (.aload_n 0) 1 220 := ⟨by decide +kernel, rfl⟩
theorem dl_220 : pj_d code 220 (.iload_n 3) 1 221 := ⟨by decide +kernel, rfl⟩
theorem dl_221 : pj_d code 221 (.iconst 3) 1 222 := ⟨by decide +kernel, rfl⟩
theorem dl_222 : pj_d code 222 (.iadd) 1 223 := ⟨by decide +kernel, rfl⟩
theorem dl_223 : pj_d code 223 (.iaload) 1 224 := ⟨by decide +kernel, rfl⟩
theorem dl_224 : pj_d code 224 (.invokevirtual 23) 3 227 := ⟨by decide +kernel, rfl⟩
theorem dl_227 : pj_d code 227 (.aload_n 2) 1 228 := ⟨by decide +kernel, rfl⟩
theorem dl_228 : pj_d code 228 (.aload_n 0) 1 229 := ⟨by decide +kernel, rfl⟩
theorem dl_229 : pj_d code 229 (.iload_n 3) 1 230 := ⟨by decide +kernel, rfl⟩
theorem dl_230 : pj_d code 230 (.iconst 1) 1 231 := ⟨by decide +kernel, rfl⟩
theorem dl_231 : pj_d code 231 (.iadd) 1 232 := ⟨by decide +kernel, rfl⟩
theorem dl_232 : pj_d code 232 (.iaload) 1 233 := ⟨by decide +kernel, rfl⟩
theorem dl_233 : pj_d code 233 (.aload_n 0) 1 234 := ⟨by decide +kernel, rfl⟩
theorem dl_234 : pj_d code 234 (.iload_n 3) 1 235 := ⟨by decide +kernel, rfl⟩
theorem dl_235 : pj_d code 235 (.iconst 2) 1 236 := ⟨by decide +kernel, rfl⟩
theorem dl_236 : pj_d code 236 (.iadd) 1 237 := ⟨by decide +kernel, rfl⟩
theorem dl_237 : pj_d code 237 (.iaload) 1 238 := ⟨by decide +kernel, rfl⟩
theorem dl_238 : pj_d code 238 (.aload_n 0) 1 239 := ⟨by decide +kernel, rfl⟩
theorem dl_239 : pj_d code 239 (.iload_n 3) 1 240 := ⟨by decide +kernel, rfl⟩
theorem dl_240 : pj_d code 240 (.iconst 3) 1 241 := ⟨by decide +kernel, rfl⟩
theorem dl_241 : pj_d code 241 (.iadd) 1 242 := ⟨by decide +kernel, rfl⟩
theorem dl_242 : pj_d code 242 (.iaload) 1 243 := ⟨by decide +kernel, rfl⟩
theorem dl_243 : pj_d code 243 (.invokevirtual 27) 3 246 := ⟨by decide +kernel, rfl⟩
theorem dl_246 : pj_dj code 246 (.if_icmp .eq 680) 680 249 926 := ⟨by decide +kernel, rfl, by decide⟩
theorem dl_249 : pj_d code 249 (.iconst 0) 1 250 := ⟨by decide +kernel, rfl⟩
theorem dl_250 : pj_d code 250 (.ireturn) 1 251 := ⟨by decide +kernel, rfl⟩
theorem dl_251 : pj_d code 251 (.aload_n 1) 1 252 := ⟨by decide +kernel, rfl⟩
theorem dl_252 : pj_d code 252 (.aload_n 0) 1 253 := ⟨by decide +kernel, rfl⟩
theorem dl_253 : pj_d code 253 (.iload_n 3) 1 254 := ⟨by decide +kernel, rfl⟩
theorem dl_254 : pj_d code 254 (.iconst 1) 1 255 := ⟨by decide +kernel, rfl⟩
theorem dl_255 : pj_d code 255 (.iadd) 1 256 := ⟨by decide +kernel, rfl⟩
theorem dl_256 : pj_d code 256 (.iaload) 1 257 := ⟨by decide +kernel, rfl⟩
theorem dl_257 : pj_d code 257 (.invokevirtual 28) 3 260 := ⟨by decide +kernel, rfl⟩
theorem dl_260 : pj_d code 260 (.aload_n 2) 1 261 := ⟨by decide +kernel, rfl⟩
theorem dl_261 : pj_d code 261 (.aload_n 0) 1 262 := ⟨by decide +kernel, rfl⟩
theorem dl_262 : pj_d code 262 (.iload_n 3) 1 263 := ⟨by decide +kernel, rfl⟩
theorem dl_263 : pj_d code 263 (.iconst 1) 1 264 := ⟨by decide +kernel, rfl⟩
theorem dl_264 : pj_d code 264 (.iadd) 1 265 := ⟨by decide +kernel, rfl⟩
theorem dl_265 : pj_d code 265 (.iaload) 1 266 := ⟨by decide +kernel, rfl⟩
theorem dl_266 : pj_d code 266 (.invokevirtual 32) 3 269 := ⟨by decide +kernel, rfl⟩
theorem dl_269 : pj_dj code 269 (.if_icmp .eq 657) 657 272 926 := ⟨by decide +kernel, rfl, by decide⟩
theorem dl_272 : pj_d code 272 (.iconst 0) 1 273 := ⟨by decide +kernel, rfl⟩
theorem dl_273 : pj_d code 273 (.ireturn) 1 274 := ⟨by decide +kernel, rfl⟩
theorem dl_274 : pj_d code 274 (.aload_n 1) 1 275 := ⟨by decide +kernel, rfl⟩
theorem dl_275 : pj_d code 275 (.aload_n 0) 1 276 := ⟨by decide +kernel, rfl⟩
theorem dl_276 : pj_d code 276 (.iload_n 3) 1 277 := ⟨by decide +kernel, rfl⟩
theorem dl_277 : pj_d code 277 (.iconst 1) 1 278 := ⟨by decide +kernel, rfl⟩
theorem dl_278 : pj_d code 278 (.iadd) 1 279 := ⟨by decide +kernel, rfl⟩
theorem dl_279 : pj_d code 279 (.iaload) 1 280 := ⟨by decide +kernel, rfl⟩
theorem dl_280 : pj_d code 280 (.invokevirtual 33) 3 283 := ⟨by decide +kernel, rfl⟩
theorem dl_283 : pj_d code 283 (.aload_n 2) 1 284 := ⟨by decide +kernel, rfl⟩
theorem dl_284 : pj_d code 284 (.aload_n 0) 1 285 := ⟨by decide +kernel, rfl⟩
theorem dl_285 : pj_d code 285 (.iload_n 3) 1 286 := ⟨by decide +kernel, rfl⟩
theorem dl_286 : pj_d code 286 (.iconst 1) 1 287 := ⟨by decide +kernel, rfl⟩
theorem dl_287 : pj_d code 287 (.iadd) 1 288 := ⟨by decide +kernel, rfl⟩
theorem dl_288 : pj_d code 288 (.iaload) 1 289 := ⟨by decide +kernel, rfl⟩
theorem dl_289 : pj_d code 289 (.invokevirtual 36) 3 292 := ⟨by decide +kernel, rfl⟩
theorem dl_292 : pj_dj code 292 (.if_icmp .eq 634) 634 295 926 := ⟨by decide +kernel, rfl, by decide⟩
theorem dl_295 : pj_d code 295 (.iconst 0) 1 296 := ⟨by decide +kernel, rfl⟩
theorem dl_296 : pj_d code 296 (.ireturn) 1 297 := ⟨by decide +kernel, rfl⟩
theorem dl_297 : pj_d code 297 (.aload_n 1) 1 298 := ⟨by decide +kernel, rfl⟩
theorem dl_298 : pj_d code 298 (.aload_n 0) 1 299 := ⟨by decide +kernel, rfl⟩
theorem dl_299 : pj_d code 299 (.iload_n 3) 1 300 := ⟨by decide +kernel, rfl⟩
theorem dl_300 : pj_d code 300 (.iconst 1) 1 301 := ⟨by decide +kernel, rfl⟩
theorem dl_301 : pj_d code 301 (.iadd) 1 302 := ⟨by decide +kernel, rfl⟩
theorem dl_302 : pj_d code 302 (.iaload) 1 303 := ⟨by decide +kernel, rfl⟩
theorem dl_303 : pj_d code 303 (.aload_n 0) 1 304 := ⟨by decide +kernel, rfl⟩
theorem dl_304 : pj_d code 304 (.iload_n 3) 1 305 := ⟨by decide +kernel, rfl⟩
theorem dl_305 : pj_d code 305 (.iconst 2) 1 306 := ⟨by decide +kernel, rfl⟩
theorem dl_306 : pj_d code 306 (.iadd) 1 307 := ⟨by decide +kernel, rfl⟩
theorem dl_307 : pj_d code 307 (.iaload) 1 308 := ⟨by decide +kernel, rfl⟩
theorem dl_308 : pj_d code 308 (.aload_n 0) 1 309 := ⟨by decide +kernel, rfl⟩
theorem dl_309 : pj_d code 309 (.iload_n 3) 1 310 := ⟨by decide +kernel, rfl⟩
theorem dl_310 : pj_d code 310 (.iconst 3) 1 311 := ⟨by decide +kernel, rfl⟩
theorem dl_311 : pj_d code 311 (.iadd) 1 312 := ⟨by decide +kernel, rfl⟩
theorem dl_312 : pj_d code 312 (.iaload) 1 313 := ⟨by decide +kernel, rfl⟩
theorem dl_313 : pj_d code 313 (.invokevirtual 37) 3 316 := ⟨by decide +kernel, rfl⟩
theorem dl_316 : pj_d code 316 (.aload_n 2) 1 317 := ⟨by decide +kernel, rfl⟩
theorem dl_317 : pj_d code 317 (.aload_n 0) 1 318 := ⟨by decide +kernel, rfl⟩
theorem dl_318 : pj_d code 318 (.iload_n 3) 1 319 := ⟨by decide +kernel, rfl⟩
theorem dl_319 : pj_d code 319 (.iconst 1) 1 320 := ⟨by decide +kernel, rfl⟩
theorem dl_320 : pj_d code 320 (.iadd) 1 321 := ⟨by decide +kernel, rfl⟩
theorem dl_321 : pj_d code 321 (.iaload) 1 322 := ⟨by decide +kernel, rfl⟩
theorem dl_322 : pj_d code 322 (.aload_n 0) 1 323 := ⟨by decide +kernel, rfl⟩
theorem dl_323 : pj_d code 323 (.iload_n 3) 1 324 := ⟨by decide +kernel, rfl⟩
theorem dl_324 : pj_d code 324 (.iconst 2) 1 325 := ⟨by decide +kernel, rfl⟩
theorem dl_325 : pj_d code 325 (.iadd) 1 326 := ⟨by decide +kernel, rfl⟩
theorem dl_326 : pj_d code 326 (.iaload) 1 327 := ⟨by decide +kernel, rfl⟩
theorem dl_327 : pj_d code 327 (.aload_n 0) 1 328 := ⟨by decide +kernel, rfl⟩
theorem dl_328 : pj_d code 328 (.iload_n 3) 1 329 := ⟨by decide +kernel, rfl⟩
theorem dl_329 : pj_d code 329 (.iconst 3) 1 330 := ⟨by decide +kernel, rfl⟩
theorem dl_330 : pj_d code 330 (.iadd) 1 331 := ⟨by decide +kernel, rfl⟩
theorem dl_331 : pj_d code 331 (.iaload) 1 332 := ⟨by decide +kernel, rfl⟩
theorem dl_332 : pj_d code 332 (.invokevirtual 41) 3 335 := ⟨by decide +kernel, rfl⟩
theorem dl_335 : pj_dj code 335 (.if_icmp .eq 591) 591 338 926 := ⟨by decide +kernel, rfl, by decide⟩
theorem dl_338 : pj_d code 338 (.iconst 0) 1 339 := ⟨by decide +kernel, rfl⟩
theorem dl_339 : pj_d code 339 (.ireturn) 1 340 := ⟨by decide +kernel, rfl⟩
theorem dl_340 : pj_d code 340 (.aload_n 1) 1 341 := ⟨by decide +kernel, rfl⟩
theorem dl_341 : pj_d code 341 (.aload_n 0) 1 342 := ⟨by decide +kernel, rfl⟩
theorem dl_342 : pj_d code 342 (.iload_n 3) 1 343 := ⟨by decide +kernel, rfl⟩
theorem dl_343 : pj_d code 343 (.iconst 1) 1 344 := ⟨by decide +kernel, rfl⟩
theorem dl_344 : pj_d code 344 (.iadd) 1 345 := ⟨by decide +kernel, rfl⟩
theorem dl_345 : pj_d code 345 (.iaload) 1 346 := ⟨by decide +kernel, rfl⟩
theorem dl_346 : pj_d code 346 (.invokevirtual 42) 3 349 := ⟨by decide +kernel, rfl⟩
theorem dl_349 : pj_d code 349 (.aload_n 2) 1 350 := ⟨by decide +kernel, rfl⟩
theorem dl_350 : pj_d code 350 (.aload_n 0) 1 351 := ⟨by decide +kernel, rfl⟩
theorem dl_351 : pj_d code 351 (.iload_n 3) 1 352 := ⟨by decide +kernel, rfl⟩
theorem dl_352 : pj_d code 352 (.iconst 1) 1 353 := ⟨by decide +kernel, rfl⟩
theorem dl_353 : pj_d code 353 (.iadd) 1 354 := ⟨by decide +kernel, rfl⟩
theorem dl_354 : pj_d code 354 (.iaload) 1 355 := ⟨by decide +kernel, rfl⟩
theorem dl_355 : pj_d code 355 (.invokevirtual 45) 3 358 := ⟨by decide +kernel, rfl⟩
theorem dl_358 : pj_dj code 358 (.if_icmp .eq 568) 568 361 926 := ⟨by decide +kernel, rfl, by decide⟩
theorem dl_361 : pj_d code 361 (.iconst 0) 1 362 := ⟨by decide +kernel, rfl⟩
theorem dl_362 : pj_d code 362 (.ireturn) 1 363 := ⟨by decide +kernel, rfl⟩
theorem dl_363 : pj_d code 363 (.aload_n 1) 1 364 := ⟨by decide +kernel, rfl⟩
theorem dl_364 : pj_d code 364 (.aload_n 0) 1 365 := ⟨by decide +kernel, rfl⟩
theorem dl_365 : pj_d code 365 (.iload_n 3) 1 366 := ⟨by decide +kernel, rfl⟩
theorem dl_366 : pj_d code 366 (.iconst 1) 1 367 := ⟨by decide +kernel, rfl⟩
theorem dl_367 : pj_d code 367 (.iadd) 1 368 := ⟨by decide +kernel, rfl⟩
theorem dl_368 : pj_d code 368 (.iaload) 1 369 := ⟨by decide +kernel, rfl⟩
theorem dl_369 : pj_d code 369 (.aload_n 0) 1 370 := ⟨by decide +kernel, rfl⟩
theorem dl_370 : pj_d code 370 (.iload_n 3) 1 371 := ⟨by decide +kernel, rfl⟩
theorem dl_371 : pj_d code 371 (.iconst 2) 1 372 := ⟨by decide +kernel, rfl⟩
theorem dl_372 : pj_d code 372 (.iadd) 1 373 := ⟨by decide +kernel, rfl⟩
theorem dl_373 : pj_d code 373 (.iaload) 1 374 := ⟨by decide +kernel, rfl⟩
theorem dl_374 : pj_d code 374 (.aload_n 0) 1 375 := ⟨by decide +kernel, rfl⟩
theorem dl_375 : pj_d code 375 (.iload_n 3) 1 376 := ⟨by decide +kernel, rfl⟩
theorem dl_376 : pj_d code 376 (.iconst 3) 1 377 := ⟨by decide +kernel, rfl⟩
theorem dl_377 : pj_d code 377 (.iadd) 1 378 := ⟨by decide +kernel, rfl⟩
theorem dl_378 : pj_d code 378 (.iaload) 1 379 := ⟨by decide +kernel, rfl⟩
theorem dl_379 : pj_d code 379 (.aload_n 0) 1 380 := ⟨by decide +kernel, rfl⟩
theorem dl_380 : pj_d code 380 (.iload_n 3) 1 381 := ⟨by decide +kernel, rfl⟩
theorem dl_381 : pj_d code 381 (.iconst 4) 1 382 := ⟨by decide +kernel, rfl⟩
theorem dl_382 : pj_d code 382 (.iadd) 1 383 := ⟨by decide +kernel, rfl⟩
theorem dl_383 : pj_d code 383 (.iaload) 1 384 := ⟨by decide +kernel, rfl⟩
theorem dl_384 : pj_d code 384 (.aload_n 0) 1 385 := ⟨by decide +kernel, rfl⟩
theorem dl_385 : pj_d code 385 (.iload_n 3) 1 386 := ⟨by decide +kernel, rfl⟩
theorem dl_386 : pj_d code 386 (.iconst 5) 1 387 := ⟨by decide +kernel, rfl⟩
theorem dl_387 : pj_d code 387 (.iadd) 1 388 := ⟨by decide +kernel, rfl⟩
theorem dl_388 : pj_d code 388 (.iaload) 1 389 := ⟨by decide +kernel, rfl⟩
theorem dl_389 : pj_d code 389 (.invokevirtual 46) 3 392 := ⟨by decide +kernel, rfl⟩
theorem dl_392 : pj_d code 392 (.aload_n 2) 1 393 := ⟨by decide +kernel, rfl⟩
theorem dl_393 : pj_d code 393 (.aload_n 0) 1 394 := ⟨by decide +kernel, rfl⟩
theorem dl_394 : pj_d code 394 (.iload_n 3) 1 395 := ⟨by decide +kernel, rfl⟩
theorem dl_395 : pj_d code 395 (.iconst 1) 1 396 := ⟨by decide +kernel, rfl⟩
theorem dl_396 : pj_d code 396 (.iadd) 1 397 := ⟨by decide +kernel, rfl⟩
theorem dl_397 : pj_d code 397 (.iaload) 1 398 := ⟨by decide +kernel, rfl⟩
theorem dl_398 : pj_d code 398 (.aload_n 0) 1 399 := ⟨by decide +kernel, rfl⟩
theorem dl_399 : pj_d code 399 (.iload_n 3) 1 400 := ⟨by decide +kernel, rfl⟩
theorem dl_400 : pj_d code 400 (.iconst 2) 1 401 := ⟨by decide +kernel, rfl⟩
theorem dl_401 : pj_d code 401 (.iadd) 1 402 := ⟨by decide +kernel, rfl⟩
theorem dl_402 : pj_d code 402 (.iaload) 1 403 := ⟨by decide +kernel, rfl⟩
theorem dl_403 : pj_d code 403 (.aload_n 0) 1 404 := ⟨by decide +kernel, rfl⟩
theorem dl_404 : pj_d code 404 (.iload_n 3) 1 405 := ⟨by decide +kernel, rfl⟩
theorem dl_405 : pj_d code 405 (.iconst 3) 1 406 := ⟨by decide +kernel, rfl⟩
theorem dl_406 : pj_d code 406 (.iadd) 1 407 := ⟨by decide +kernel, rfl⟩
theorem dl_407 : pj_d code 407 (.iaload) 1 408 := ⟨by decide +kernel, rfl⟩
theorem dl_408 : pj_d code 408 (.aload_n 0) 1 409 := ⟨by decide +kernel, rfl⟩
theorem dl_409 : pj_d code 409 (.iload_n 3) 1 410 := ⟨by decide +kernel, rfl⟩
theorem dl_410 : pj_d code 410 (.iconst 4) 1 411 := ⟨by decide +kernel, rfl⟩
theorem dl_411 : pj_d code 411 (.iadd) 1 412 := ⟨by decide +kernel, rfl⟩
theorem dl_412 : pj_d code 412 (.iaload) 1 413 := ⟨by decide +kernel, rfl⟩
theorem dl_413 : pj_d code 413 (.aload_n 0) 1 414 := ⟨by decide +kernel, rfl⟩
theorem dl_414 : pj_d code 414 (.iload_n 3) 1 415 := ⟨by decide +kernel, rfl⟩
theorem dl_415 : pj_d code 415 (.iconst 5) 1 416 := ⟨by decide +kernel, rfl⟩
theorem dl_416 : pj_d code 416 (.iadd) 1 417 := ⟨by decide +kernel, rfl⟩
theorem dl_417 : pj_d code 417 (.iaload) 1 418 := ⟨by decide +kernel, rfl⟩
theorem dl_418 : pj_d code 418 (.invokevirtual 50) 3 421 := ⟨by decide +kernel, rfl⟩
theorem dl_421 : pj_dj code 421 (.if_icmp .eq 505) 505 424 926 := ⟨by decide +kernel, rfl, by decide⟩
theorem dl_424 : pj_d code 424 (.iconst 0) 1 425 := ⟨by decide +kernel, rfl⟩
theorem dl_425 : pj_d code 425 (.ireturn) 1 426 := ⟨by decide +kernel, rfl⟩
theorem dl_426 : pj_d code 426 (.aload_n 1) 1 427 := ⟨by decide +kernel, rfl⟩
theorem dl_427 : pj_d code 427 (.aload_n 0) 1 428 := ⟨by decide +kernel, rfl⟩
theorem dl_428 : pj_d code 428 (.iload_n 3) 1 429 := ⟨by decide +kernel, rfl⟩
theorem dl_429 : pj_d code 429 (.iconst 1) 1 430 := ⟨by decide +kernel, rfl⟩
theorem dl_430 : pj_d code 430 (.iadd) 1 431 := ⟨by decide +kernel, rfl⟩
theorem dl_431 : pj_d code 431 (.iaload) 1 432 := ⟨by decide +kernel, rfl⟩
theorem dl_432 : pj_d code 432 (.invokevirtual 51) 3 435 := ⟨by decide +kernel, rfl⟩
theorem dl_435 : pj_d code 435 (.aload_n 2) 1 436 := ⟨by decide +kernel, rfl⟩
theorem dl_436 : pj_d code 436 (.aload_n 0) 1 437 := ⟨by decide +kernel, rfl⟩
theorem dl_437 : pj_d code 437 (.iload_n 3) 1 438 := ⟨by decide +kernel, rfl⟩
theorem dl_438 : pj_d code 438 (.iconst 1) 1 439 := ⟨by decide +kernel, rfl⟩
theorem dl_439 : pj_d code 439 (.iadd) 1 440 := ⟨by decide +kernel, rfl⟩
theorem dl_440 : pj_d code 440 (.iaload) 1 441 := ⟨by decide +kernel, rfl⟩
theorem dl_441 : pj_d code 441 (.invokevirtual 54) 3 444 := ⟨by decide +kernel, rfl⟩
theorem dl_444 : pj_dj code 444 (.if_icmp .eq 482) 482 447 926 := ⟨by decide +kernel, rfl, by decide⟩
theorem dl_447 : pj_d code 447 (.iconst 0) 1 448 := ⟨by decide +kernel, rfl⟩
theorem dl_448 : pj_d code 448 (.ireturn) 1 449 := ⟨by decide +kernel, rfl⟩
theorem dl_449 : pj_d code 449 (.aload_n 1) 1 450 := ⟨by decide +kernel, rfl⟩
theorem dl_450 : pj_d code 450 (.invokevirtual 55) 3 453 := ⟨by decide +kernel, rfl⟩
theorem dl_453 : pj_d code 453 (.aload_n 2) 1 454 := ⟨by decide +kernel, rfl⟩
theorem dl_454 : pj_d code 454 (.invokevirtual 59) 3 457 := ⟨by decide +kernel, rfl⟩
theorem dl_457 : pj_dj code 457 (.if_icmp .eq 469) 469 460 926 := ⟨by decide +kernel, rfl, by decide⟩
theorem dl_460 : pj_d code 460 (.iconst 0) 1 461 := ⟨by decide +kernel, rfl⟩
theorem dl_461 : pj_d code 461 (.ireturn) 1 462 := ⟨by decide +kernel, rfl⟩
theorem dl_462 : pj_d code 462 (.aload_n 1) 1 463 := ⟨by decide +kernel, rfl⟩
theorem dl_463 : pj_d code 463 (.aload_n 0) 1 464 := ⟨by decide +kernel, rfl⟩
theorem dl_464 : pj_d code 464 (.iload_n 3) 1 465 := ⟨by decide +kernel, rfl⟩
theorem dl_465 : pj_d code 465 (.iconst 1) 1 466 := ⟨by decide +kernel, rfl⟩
theorem dl_466 : pj_d code 466 (.iadd) 1 467 := ⟨by decide +kernel, rfl⟩
theorem dl_467 : pj_d code 467 (.iaload) 1 468 := ⟨by decide +kernel, rfl⟩
theorem dl_468 : pj_d code 468 (.invokevirtual 60) 3 471 := ⟨by decide +kernel, rfl⟩
theorem dl_471 : pj_d code 471 (.aload_n 2) 1 472 := ⟨by decide +kernel, rfl⟩
theorem dl_472 : pj_d code 472 (.aload_n 0) 1 473 := ⟨by decide +kernel, rfl⟩
theorem dl_473 : pj_d code 473 (.iload_n 3) 1 474 := ⟨by decide +kernel, rfl⟩
theorem dl_474 : pj_d code 474 (.iconst 1) 1 475 := ⟨by decide +kernel, rfl⟩
theorem dl_475 : pj_d code 475 (.iadd) 1 476 := ⟨by decide +kernel, rfl⟩
theorem dl_476 : pj_d code 476 (.iaload) 1 477 := ⟨by decide +kernel, rfl⟩
theorem dl_477 : pj_d code 477 (.invokevirtual 63) 3 480 := ⟨by decide +kernel, rfl⟩
theorem dl_480 : pj_dj code 480 (.if_icmp .eq 446) 446 483 926 := ⟨by decide +kernel, rfl, by decide⟩
theorem dl_483 : pj_d code 483 (.iconst 0) 1 484 := ⟨by decide +kernel, rfl⟩
theorem dl_484 : pj_d code 484 (.ireturn) 1 485 := ⟨by decide +kernel, rfl⟩
theorem dl_485 : pj_d code 485 (.aload_n 1) 1 486 := ⟨by decide +kernel, rfl⟩
theorem dl_486 : pj_d code 486 (.aload_n 0) 1 487 := ⟨by decide +kernel, rfl⟩
theorem dl_487 : pj_d code 487 (.iload_n 3) 1 488 := ⟨by decide +kernel, rfl⟩
theorem dl_488 : pj_d code 488 (.iconst 1) 1 489 := ⟨by decide +kernel, rfl⟩
theorem dl_489 : pj_d code 489 (.iadd) 1 490 := ⟨by decide +kernel, rfl⟩
theorem dl_490 : pj_d code 490 (.iaload) 1 491 := ⟨by decide +kernel, rfl⟩
theorem dl_491 : pj_d code 491 (.aload_n 0) 1 492 := ⟨by decide +kernel, rfl⟩
theorem dl_492 : pj_d code 492 (.iload_n 3) 1 493 := ⟨by decide +kernel, rfl⟩
theorem dl_493 : pj_d code 493 (.iconst 2) 1 494 := ⟨by decide +kernel, rfl⟩
theorem dl_494 : pj_d code 494 (.iadd) 1 495 := ⟨by decide +kernel, rfl⟩
theorem dl_495 : pj_d code 495 (.iaload) 1 496 := ⟨by decide +kernel, rfl⟩
theorem dl_496 : pj_d code 496 (.invokevirtual 64) 3 499 := ⟨by decide +kernel, rfl⟩
theorem dl_499 : pj_d code 499 (.aload_n 2) 1 500 := ⟨by decide +kernel, rfl⟩
theorem dl_500 : pj_d code 500 (.aload_n 0) 1 501 := ⟨by decide +kernel, rfl⟩
theorem dl_501 : pj_d code 501 (.iload_n 3) 1 502 := ⟨by decide +kernel, rfl⟩
theorem dl_502 : pj_d code 502 (.iconst 1) 1 503 := ⟨by decide +kernel, rfl⟩
theorem dl_503 : pj_d code 503 (.iadd) 1 504 := ⟨by decide +kernel, rfl⟩
theorem dl_504 : pj_d code 504 (.iaload) 1 505 := ⟨by decide +kernel, rfl⟩
theorem dl_505 : pj_d code 505 (.aload_n 0) 1 506 := ⟨by decide +kernel, rfl⟩
theorem dl_506 : pj_d code 506 (.iload_n 3) 1 507 := ⟨by decide +kernel, rfl⟩
theorem dl_507 : pj_d code 507 (.iconst 2) 1 508 := ⟨by decide +kernel, rfl⟩
theorem dl_508 : pj_d code 508 (.iadd) 1 509 := ⟨by decide +kernel, rfl⟩
theorem dl_509 : pj_d code 509 (.iaload) 1 510 := ⟨by decide +kernel, rfl⟩
theorem dl_510 : pj_d code 510 (.invokevirtual 68) 3 513 := ⟨by decide +kernel, rfl⟩
theorem dl_513 : pj_dj code 513 (.if_icmp .eq 413) 413 516 926 := ⟨by decide +kernel, rfl, by decide⟩
theorem dl_516 : pj_d code 516 (.iconst 0) 1 517 := ⟨by decide +kernel, rfl⟩
theorem dl_517 : pj_d code 517 (.ireturn) 1 518 := ⟨by decide +kernel, rfl⟩
theorem dl_518 : pj_d code 518 (.aload_n 1) 1 519 := ⟨by decide +kernel, rfl⟩
theorem dl_519 : pj_d code 519 (.aload_n 0) 1 520 := ⟨by decide +kernel, rfl⟩
theorem dl_520 : pj_d code 520 (.iload_n 3) 1 521 := ⟨by decide +kernel, rfl⟩
theorem dl_521 : pj_d code 521 (.iconst 1) 1 522 := ⟨by decide +kernel, rfl⟩
theorem dl_522 : pj_d code 522 (.iadd) 1 523 := ⟨by decide +kernel, rfl⟩
theorem dl_523 : pj_d code 523 (.iaload) 1 524 := ⟨by decide +kernel, rfl⟩
theorem dl_524 : pj_d code 524 (.aload_n 0) 1 525 := ⟨by decide +kernel, rfl⟩
theorem dl_525 : pj_d code 525 (.iload_n 3) 1 526 := ⟨by decide +kernel, rfl⟩
theorem dl_526 : pj_d code 526 (.iconst 2) 1 527 := ⟨by decide +kernel, rfl⟩
theorem dl_527 : pj_d code 527 (.iadd) 1 528 := ⟨by decide +kernel, rfl⟩
theorem dl_528 : pj_d code 528 (.iaload) 1 529 := ⟨by decide +kernel, rfl⟩
theorem dl_529 : pj_d code 529 (.invokevirtual 69) 3 532 := ⟨by decide +kernel, rfl⟩
theorem dl_532 : pj_d code 532 (.aload_n 2) 1 533 := ⟨by decide +kernel, rfl⟩
theorem dl_533 : pj_d code 533 (.aload_n 0) 1 534 := ⟨by decide +kernel, rfl⟩
theorem dl_534 : pj_d code 534 (.iload_n 3) 1 535 := ⟨by decide +kernel, rfl⟩
theorem dl_535 : pj_d code 535 (.iconst 1) 1 536 := ⟨by decide +kernel, rfl⟩
theorem dl_536 : pj_d code 536 (.iadd) 1 537 := ⟨by decide +kernel, rfl⟩
theorem dl_537 : pj_d code 537 (.iaload) 1 538 := ⟨by decide +kernel, rfl⟩
theorem dl_538 : pj_d code 538 (.aload_n 0) 1 539 := ⟨by decide +kernel, rfl⟩
theorem dl_539 : pj_d code 539 (.iload_n 3) 1 540 := ⟨by decide +kernel, rfl⟩
theorem dl_540 : pj_d code 540 (.iconst 2) 1 541 := ⟨by decide +kernel, rfl⟩
theorem dl_541 : pj_d code 541 (.iadd) 1 542 := ⟨by decide +kernel, rfl⟩
theorem dl_542 : pj_d code 542 (.iaload) 1 543 := ⟨by decide +kernel, rfl⟩
theorem dl_543 : pj_d code 543 (.invokevirtual 72) 3 546 := ⟨by decide +kernel, rfl⟩
theorem dl_546 : pj_dj code 546 (.if_icmp .eq 380) 380 549 926 := ⟨by decide +kernel, rfl, by decide⟩
theorem dl_549 : pj_d code 549 (.iconst 0) 1 550 := ⟨by decide +kernel, rfl⟩
theorem dl_550 : pj_d code 550 (.ireturn) 1 551 := ⟨by decide +kernel, rfl⟩
theorem dl_551 : pj_d code 551 (.aload_n 1) 1 552 := ⟨by decide +kernel, rfl⟩
theorem dl_552 : pj_d code 552 (.aload_n 0) 1 553 := ⟨by decide +kernel, rfl⟩
theorem dl_553 : pj_d code 553 (.iload_n 3) 1 554 := ⟨by decide +kernel, rfl⟩
theorem dl_554 : pj_d code 554 (.iconst 1) 1 555 := ⟨by decide +kernel, rfl⟩
theorem dl_555 : pj_d code 555 (.iadd) 1 556 := ⟨by decide +kernel, rfl⟩
theorem dl_556 : pj_d code 556 (.iaload) 1 557 := ⟨by decide +kernel, rfl⟩
theorem dl_557 : pj_d code 557 (.invokevirtual 73) 3 560 := ⟨by decide +kernel, rfl⟩
theorem dl_560 : pj_d code 560 (.aload_n 2) 1 561 := ⟨by decide +kernel, rfl⟩
theorem dl_561 : pj_d code 561 (.aload_n 0) 1 562 := ⟨by decide +kernel, rfl⟩
theorem dl_562 : pj_d code 562 (.iload_n 3) 1 563 := ⟨by decide +kernel, rfl⟩
theorem dl_563 : pj_d code 563 (.iconst 1) 1 564 := ⟨by decide +kernel, rfl⟩
theorem dl_564 : pj_d code 564 (.iadd) 1 565 := ⟨by decide +kernel, rfl⟩
theorem dl_565 : pj_d code 565 (.iaload) 1 566 := ⟨by decide +kernel, rfl⟩
theorem dl_566 : pj_d code 566 (.invokevirtual 76) 3 569 := ⟨by decide +kernel, rfl⟩
theorem dl_569 : pj_dj code 569 (.if_icmp .eq 357) 357 572 926 := ⟨by decide +kernel, rfl, by decide⟩
theorem dl_572 : pj_d code 572 (.iconst 0) 1 573 := ⟨by decide +kernel, rfl⟩
theorem dl_573 : pj_d code 573 (.ireturn) 1 574 := ⟨by decide +kernel, rfl⟩
theorem dl_574 : pj_d code 574 (.aload_n 1) 1 575 := ⟨by decide +kernel, rfl⟩
theorem dl_575 : pj_d code 575 (.aload_n 0) 1 576 := ⟨by decide +kernel, rfl⟩
theorem dl_576 : pj_d code 576 (.iload_n 3) 1 577 := ⟨by decide +kernel, rfl⟩
theorem dl_577 : pj_d code 577 (.iconst 1) 1 578 := ⟨by decide +kernel, rfl⟩
theorem dl_578 : pj_d code 578 (.iadd) 1 579 := ⟨by decide +kernel, rfl⟩
theorem dl_579 : pj_d code 579 (.iaload) 1 580 := ⟨by decide +kernel, rfl⟩
theorem dl_580 : pj_d code 580 (.aload_n 0) 1 581 := ⟨by decide +kernel, rfl⟩
theorem dl_581 : pj_d code 581 (.iload_n 3) 1 582 := ⟨by decide +kernel, rfl⟩
theorem dl_582 : pj_d code 582 (.iconst 2) 1 583 := ⟨by decide +kernel, rfl⟩
theorem dl_583 : pj_d code 583 (.iadd) 1 584 := ⟨by decide +kernel, rfl⟩
theorem dl_584 : pj_d code 584 (.iaload) 1 585 := ⟨by decide +kernel, rfl⟩
theorem dl_585 : pj_d code 585 (.invokevirtual 77) 3 588 := ⟨by decide +kernel, rfl⟩
theorem dl_588 : pj_d code 588 (.aload_n 2) 1 589 := ⟨by decide +kernel, rfl⟩
theorem dl_589 : pj_d code 589 (.aload_n 0) 1 590 := ⟨by decide +kernel, rfl⟩
theorem dl_590 : pj_d code 590 (.iload_n 3) 1 591 := ⟨by decide +kernel, rfl⟩
theorem dl_591 : pj_d code 591 (.iconst 1) 1 592 := ⟨by decide +kernel, rfl⟩
theorem dl_592 : pj_d code 592 (.iadd) 1 593 := ⟨by decide +kernel, rfl⟩
theorem dl_593 : pj_d code 593 (.iaload) 1 594 := ⟨by decide +kernel, rfl⟩
theorem dl_594 : pj_d code 594 (.aload_n 0) 1 595 := ⟨by decide +kernel, rfl⟩
theorem dl_595 : pj_d code 595 (.iload_n 3) 1 596 := ⟨by decide +kernel, rfl⟩
theorem dl_596 : pj_d code 596 (.iconst 2) 1 597 := ⟨by decide +kernel, rfl⟩
theorem dl_597 : pj_d code 597 (.iadd) 1 598 := ⟨by decide +kernel, rfl⟩
theorem dl_598 : pj_d code 598 (.iaload) 1 599 := ⟨by decide +kernel, rfl⟩
theorem dl_599 : pj_d code 599 (.invokevirtual 80) 3 602 := ⟨by decide +kernel, rfl⟩
theorem dl_602 : pj_dj code 602 (.if_icmp .eq 324) 324 605 926 := ⟨by decide +kernel, rfl, by decide⟩
theorem dl_605 : pj_d code 605 (.iconst 0) 1 606 := ⟨by decide +kernel, rfl⟩
theorem dl_606 : pj_d code 606 (.ireturn) 1 607 := ⟨by decide +kernel, rfl⟩
theorem dl_607 : pj_d code 607 (.aload_n 1) 1 608 := ⟨by decide +kernel, rfl⟩
theorem dl_608 : pj_d code 608 (.aload_n 0) 1 609 := ⟨by decide +kernel, rfl⟩
theorem dl_609 : pj_d code 609 (.iload_n 3) 1 610 := ⟨by decide +kernel, rfl⟩
theorem dl_610 : pj_d code 610 (.iconst 1) 1 611 := ⟨by decide +kernel, rfl⟩
theorem dl_611 : pj_d code 611 (.iadd) 1 612 := ⟨by decide +kernel, rfl⟩
theorem dl_612 : pj_d code 612 (.iaload) 1 613 := ⟨by decide +kernel, rfl⟩
theorem dl_613 : pj_d code 613 (.aload_n 0) 1 614 := ⟨by decide +kernel, rfl⟩
theorem dl_614 : pj_d code 614 (.iload_n 3) 1 615 := ⟨by decide +kernel, rfl⟩
theorem dl_615 : pj_d code 615 (.iconst 2) 1 616 := ⟨by decide +kernel, rfl⟩
theorem dl_616 : pj_d code 616 (.iadd) 1 617 := ⟨by decide +kernel, rfl⟩
theorem dl_617 : pj_d code 617 (.iaload) 1 618 := ⟨by decide +kernel, rfl⟩
theorem dl_618 : pj_d code 618 (.invokevirtual 81) 3 621 := ⟨by decide +kernel, rfl⟩
theorem dl_621 : pj_d code 621 (.aload_n 2) 1 622 := ⟨by decide +kernel, rfl⟩
theorem dl_622 : pj_d code 622 (.aload_n 0) 1 623 := ⟨by decide +kernel, rfl⟩
theorem dl_623 : pj_d code 623 (.iload_n 3) 1 624 := ⟨by decide +kernel, rfl⟩
theorem dl_624 : pj_d code 624 (.iconst 1) 1 625 := ⟨by decide +kernel, rfl⟩
theorem dl_625 : pj_d code 625 (.iadd) 1 626 := ⟨by decide +kernel, rfl⟩
theorem dl_626 : pj_d code 626 (.iaload) 1 627 := ⟨by decide +kernel, rfl⟩
theorem dl_627 : pj_d code 627 (.aload_n 0) 1 628 := ⟨by decide +kernel, rfl⟩
theorem dl_628 : pj_d code 628 (.iload_n 3) 1 629 := ⟨by decide +kernel, rfl⟩
theorem dl_629 : pj_d code 629 (.iconst 2) 1 630 := ⟨by decide +kernel, rfl⟩
theorem dl_630 : pj_d code 630 (.iadd) 1 631 := ⟨by decide +kernel, rfl⟩
theorem dl_631 : pj_d code 631 (.iaload) 1 632 := ⟨by decide +kernel, rfl⟩
theorem dl_632 : pj_d code 632 (.invokevirtual 84) 3 635 := ⟨by decide +kernel, rfl⟩
theorem dl_635 : pj_dj code 635 (.if_icmp .eq 291) 291 638 926 := ⟨by decide +kernel, rfl, by decide⟩
theorem dl_638 : pj_d code 638 (.iconst 0) 1 639 := ⟨by decide +kernel, rfl⟩
theorem dl_639 : pj_d code 639 (.ireturn) 1 640 := ⟨by decide +kernel, rfl⟩
theorem dl_640 : pj_d code 640 (.aload_n 1) 1 641 := ⟨by decide +kernel, rfl⟩
theorem dl_641 : pj_d code 641 (.aload_n 0) 1 642 := ⟨by decide +kernel, rfl⟩
theorem dl_642 : pj_d code 642 (.iload_n 3) 1 643 := ⟨by decide +kernel, rfl⟩
theorem dl_643 : pj_d code 643 (.iconst 1) 1 644 := ⟨by decide +kernel, rfl⟩
theorem dl_644 : pj_d code 644 (.iadd) 1 645 := ⟨by decide +kernel, rfl⟩
theorem dl_645 : pj_d code 645 (.iaload) 1 646 := ⟨by decide +kernel, rfl⟩
theorem dl_646 : pj_d code 646 (.aload_n 0) 1 647 := ⟨by decide +kernel, rfl⟩
theorem dl_647 : pj_d code 647 (.iload_n 3) 1 648 := ⟨by decide +kernel, rfl⟩
theorem dl_648 : pj_d code 648 (.iconst 2) 1 649 := ⟨by decide +kernel, rfl⟩
theorem dl_649 : pj_d code 649 (.iadd) 1 650 := ⟨by decide +kernel, rfl⟩
theorem dl_650 : pj_d code 650 (.iaload) 1 651 := ⟨by decide +kernel, rfl⟩
theorem dl_651 : pj_d code 651 (.invokevirtual 85) 3 654 := ⟨by decide +kernel, rfl⟩
theorem dl_654 : pj_d code 654 (.aload_n 2) 1 655 := ⟨by decide +kernel, rfl⟩
theorem dl_655 : pj_d code 655 (.aload_n 0) 1 656 := ⟨by decide +kernel, rfl⟩
theorem dl_656 : pj_d code 656 (.iload_n 3) 1 657 := ⟨by decide +kernel, rfl⟩
theorem dl_657 : pj_d code 657 (.iconst 1) 1 658 := ⟨by decide +kernel, rfl⟩
theorem dl_658 : pj_d code 658 (.iadd) 1 659 := ⟨by decide +kernel, rfl⟩
theorem dl_659 : pj_d code 659 (.iaload) 1 660 := ⟨by decide +kernel, rfl⟩
theorem dl_660 : pj_d code 660 (.aload_n 0) 1 661 := ⟨by decide +kernel, rfl⟩
theorem dl_661 : pj_d code 661 (.iload_n 3) 1 662 := ⟨by decide +kernel, rfl⟩
theorem dl_662 : pj_d code 662 (.iconst 2) 1 663 := ⟨by decide +kernel, rfl⟩
theorem dl_663 : pj_d code 663 (.iadd) 1 664 := ⟨by decide +kernel, rfl⟩
theorem dl_664 : pj_d code 664 (.iaload) 1 665 := ⟨by decide +kernel, rfl⟩
theorem dl_665 : pj_d code 665 (.invokevirtual 88) 3 668 := ⟨by decide +kernel, rfl⟩
theorem dl_668 : pj_dj code 668 (.if_icmp .eq 258) 258 671 926 := ⟨by decide +kernel, rfl, by decide⟩
theorem dl_671 : pj_d code 671 (.iconst 0) 1 672 := ⟨by decide +kernel, rfl⟩
theorem dl_672 : pj_d code 672 (.ireturn) 1 673 := ⟨by decide +kernel, rfl⟩
theorem dl_673 : pj_d code 673 (.aload_n 1) 1 674 := ⟨by decide +kernel, rfl⟩
theorem dl_674 : pj_d code 674 (.aload_n 0) 1 675 := ⟨by decide +kernel, rfl⟩
theorem dl_675 : pj_d code 675 (.iload_n 3) 1 676 := ⟨by decide +kernel, rfl⟩
theorem dl_676 : pj_d code 676 (.iconst 1) 1 677 := ⟨by decide +kernel, rfl⟩
theorem dl_677 : pj_d code 677 (.iadd) 1 678 := ⟨by decide +kernel, rfl⟩
theorem dl_678 : pj_d code 678 (.iaload) 1 679 := ⟨by decide +kernel, rfl⟩
theorem dl_679 : pj_d code 679 (.aload_n 0) 1 680 := ⟨by decide +kernel, rfl⟩
theorem dl_680 : pj_d code 680 (.iload_n 3) 1 681 := ⟨by decide +kernel, rfl⟩
theorem dl_681 : pj_d code 681 (.iconst 2) 1 682 := ⟨by decide +kernel, rfl⟩
theorem dl_682 : pj_d code 682 (.iadd) 1 683 := ⟨by decide +kernel, rfl⟩
theorem dl_683 : pj_d code 683 (.iaload) 1 684 := ⟨by decide +kernel, rfl⟩
theorem dl_684 : pj_d code 684 (.aload_n 0) 1 685 := ⟨by decide +kernel, rfl⟩
theorem dl_685 : pj_d code 685 (.iload_n 3) 1 686 := ⟨by decide +kernel, rfl⟩
theorem dl_686 : pj_d code 686 (.iconst 3) 1 687 := ⟨by decide +kernel, rfl⟩
theorem dl_687 : pj_d code 687 (.iadd) 1 688 := ⟨by decide +kernel, rfl⟩
theorem dl_688 : pj_d code 688 (.iaload) 1 689 := ⟨by decide +kernel, rfl⟩
theorem dl_689 : pj_d code 689 (.invokevirtual 89) 3 692 := ⟨by decide +kernel, rfl⟩
theorem dl_692 : pj_d code 692 (.aload_n 2) 1 693 := ⟨by decide +kernel, rfl⟩
theorem dl_693 : pj_d code 693 (.aload_n 0) 1 694 := ⟨by decide +kernel, rfl⟩
theorem dl_694 : pj_d code 694 (.iload_n 3) 1 695 := ⟨by decide +kernel, rfl⟩
theorem dl_695 : pj_d code 695 (.iconst 1) 1 696 := ⟨by decide +kernel, rfl⟩
theorem dl_696 : pj_d code 696 (.iadd) 1 697 := ⟨by decide +kernel, rfl⟩
theorem dl_697 : pj_d code 697 (.iaload) 1 698 := ⟨by decide +kernel, rfl⟩
theorem dl_698 : pj_d code 698 (.aload_n 0) 1 699 := ⟨by decide +kernel, rfl⟩
theorem dl_699 : pj_d code 699 (.iload_n 3) 1 700 := ⟨by decide +kernel, rfl⟩
theorem dl_700 : pj_d code 700 (.iconst 2) 1 701 := ⟨by decide +kernel, rfl⟩
theorem dl_701 : pj_d code 701 (.iadd) 1 702 := ⟨by decide +kernel, rfl⟩
theorem dl_702 : pj_d code 702 (.iaload) 1 703 := ⟨by decide +kernel, rfl⟩
theorem dl_703 : pj_d code 703 (.aload_n 0) 1 704 := ⟨by decide +kernel, rfl⟩
theorem dl_704 : pj_d code 704 (.iload_n 3) 1 705 := ⟨by decide +kernel, rfl⟩
theorem dl_705 : pj_d code 705 (.iconst 3) 1 706 := ⟨by decide +kernel, rfl⟩
theorem dl_706 : pj_d code 706 (.iadd) 1 707 := ⟨by decide +kernel, rfl⟩
theorem dl_707 : pj_d code 707 (.iaload) 1 708 := ⟨by decide +kernel, rfl⟩
theorem dl_708 : pj_d code 708 (.invokevirtual 92) 3 711 := ⟨by decide +kernel, rfl⟩
theorem dl_711 : pj_dj code 711 (.if_icmp .eq 215) 215 714 926 := ⟨by decide +kernel, rfl, by decide⟩
theorem dl_714 : pj_d code 714 (.iconst 0) 1 715 := ⟨by decide +kernel, rfl⟩
theorem dl_715 : pj_d code 715 (.ireturn) 1 716 := ⟨by decide +kernel, rfl⟩
theorem dl_716 : pj_d code 716 (.aload_n 1) 1 717 := ⟨by decide +kernel, rfl⟩
theorem dl_717 : pj_d code 717 (.aload_n 0) 1 718 := ⟨by decide +kernel, rfl⟩
theorem dl_718 : pj_d code 718 (.iload_n 3) 1 719 := ⟨by decide +kernel, rfl⟩
theorem dl_719 : pj_d code 719 (.iconst 1) 1 720 := ⟨by decide +kernel, rfl⟩
theorem dl_720 : pj_d code 720 (.iadd) 1 721 := ⟨by decide +kernel, rfl⟩
theorem dl_721 : pj_d code 721 (.iaload) 1 722 := ⟨by decide +kernel, rfl⟩
theorem dl_722 : pj_d code 722 (.invokevirtual 93) 3 725 := ⟨by decide +kernel, rfl⟩
theorem dl_725 : pj_d code 725 (.aload_n 2) 1 726 := ⟨by decide +kernel, rfl⟩
theorem dl_726 : pj_d code 726 (.aload_n 0) 1 727 := ⟨by decide +kernel, rfl⟩
theorem dl_727 : pj_d code 727 (.iload_n 3) 1 728 := ⟨by decide +kernel, rfl⟩
theorem dl_728 : pj_d code 728 (.iconst 1) 1 729 := ⟨by decide +kernel, rfl⟩
theorem dl_729 : pj_d code 729 (.iadd) 1 730 := ⟨by decide +kernel, rfl⟩
theorem dl_730 : pj_d code 730 (.iaload) 1 731 := ⟨by decide +kernel, rfl⟩
theorem dl_731 : pj_d code 731 (.invokevirtual 96) 3 734 := ⟨by decide +kernel, rfl⟩
theorem dl_734 : pj_dj code 734 (.if_icmp .eq 192) 192 737 926 := ⟨by decide +kernel, rfl, by decide⟩
theorem dl_737 : pj_d code 737 (.iconst 0) 1 738 := ⟨by decide +kernel, rfl⟩
theorem dl_738 : pj_d code 738 (.ireturn) 1 739 := ⟨by decide +kernel, rfl⟩
theorem dl_739 : pj_d code 739 (.aload_n 1) 1 740 := ⟨by decide +kernel, rfl⟩
theorem dl_740 : pj_d code 740 (.aload_n 0) 1 741 := ⟨by decide +kernel, rfl⟩
theorem dl_741 : pj_d code 741 (.iload_n 3) 1 742 := ⟨by decide +kernel, rfl⟩
theorem dl_742 : pj_d code 742 (.iconst 1) 1 743 := ⟨by decide +kernel, rfl⟩
theorem dl_743 : pj_d code 743 (.iadd) 1 744 := ⟨by decide +kernel, rfl⟩
theorem dl_744 : pj_d code 744 (.iaload) 1 745 := ⟨by decide +kernel, rfl⟩
theorem dl_745 : pj_d code 745 (.aload_n 0) 1 746 := ⟨by decide +kernel, rfl⟩
theorem dl_746 : pj_d code 746 (.iload_n 3) 1 747 := ⟨by decide +kernel, rfl⟩
theorem dl_747 : pj_d code 747 (.iconst 2) 1 748 := ⟨by decide +kernel, rfl⟩
theorem dl_748 : pj_d code 748 (.iadd) 1 749 := ⟨by decide +kernel, rfl⟩
theorem dl_749 : pj_d code 749 (.iaload) 1 750 := ⟨by decide +kernel, rfl⟩
theorem dl_750 : pj_d code 750 (.aload_n 0) 1 751 := ⟨by decide +kernel, rfl⟩
theorem dl_751 : pj_d code 751 (.iload_n 3) 1 752 := ⟨by decide +kernel, rfl⟩
theorem dl_752 : pj_d code 752 (.iconst 3) 1 753 := ⟨by decide +kernel, rfl⟩
theorem dl_753 : pj_d code 753 (.iadd) 1 754 := ⟨by decide +kernel, rfl⟩
theorem dl_754 : pj_d code 754 (.iaload) 1 755 := ⟨by decide +kernel, rfl⟩
theorem dl_755 : pj_d code 755 (.aload_n 0) 1 756 := ⟨by decide +kernel, rfl⟩
theorem dl_756 : pj_d code 756 (.iload_n 3) 1 757 := ⟨by decide +kernel, rfl⟩
theorem dl_757 : pj_d code 757 (.iconst 4) 1 758 := ⟨by decide +kernel, rfl⟩
theorem dl_758 : pj_d code 758 (.iadd) 1 759 := ⟨by decide +kernel, rfl⟩
theorem dl_759 : pj_d code 759 (.iaload) 1 760 := ⟨by decide +kernel, rfl⟩
theorem dl_760 : pj_d code 760 (.invokevirtual 97) 3 763 := ⟨by decide +kernel, rfl⟩
theorem dl_763 : pj_d code 763 (.aload_n 2) 1 764 := ⟨by decide +kernel, rfl⟩
theorem dl_764 : pj_d code 764 (.aload_n 0) 1 765 := ⟨by decide +kernel, rfl⟩
theorem dl_765 : pj_d code 765 (.iload_n 3) 1 766 := ⟨by decide +kernel, rfl⟩
theorem dl_766 : pj_d code 766 (.iconst 1) 1 767 := ⟨by decide +kernel, rfl⟩
theorem dl_767 : pj_d code 767 (.iadd) 1 768 := ⟨by decide +kernel, rfl⟩
theorem dl_768 : pj_d code 768 (.iaload) 1 769 := ⟨by decide +kernel, rfl⟩
theorem dl_769 : pj_d code 769 (.aload_n 0) 1 770 := ⟨by decide +kernel, rfl⟩
theorem dl_770 : pj_d code 770 (.iload_n 3) 1 771 := ⟨by decide +kernel, rfl⟩
theorem dl_771 : pj_d code 771 (.iconst 2) 1 772 := ⟨by decide +kernel, rfl⟩
theorem dl_772 : pj_d code 772 (.iadd) 1 773 := ⟨by decide +kernel, rfl⟩
theorem dl_773 : pj_d code 773 (.iaload) 1 774 := ⟨by decide +kernel, rfl⟩
theorem dl_774 : pj_d code 774 (.aload_n 0) 1 775 := ⟨by decide +kernel, rfl⟩
theorem dl_775 : pj_d code 775 (.iload_n 3) 1 776 := ⟨by decide +kernel, rfl⟩
theorem dl_776 : pj_d code 776 (.iconst 3) 1 777 := ⟨by decide +kernel, rfl⟩
theorem dl_777 : pj_d code 777 (.iadd) 1 778 := ⟨by decide +kernel, rfl⟩
theorem dl_778 : pj_d code 778 (.iaload) 1 779 := ⟨by decide +kernel, rfl⟩
theorem dl_779 : pj_d code 779 (.aload_n 0) 1 780 := ⟨by decide +kernel, rfl⟩
theorem dl_780 : pj_d code 780 (.iload_n 3) 1 781 := ⟨by decide +kernel, rfl⟩
theorem dl_781 : pj_d code 781 (.iconst 4) 1 782 := ⟨by decide +kernel, rfl⟩
theorem dl_782 : pj_d code 782 (.iadd) 1 783 := ⟨by decide +kernel, rfl⟩
theorem dl_783 : pj_d code 783 (.iaload) 1 784 := ⟨by decide +kernel, rfl⟩
theorem dl_784 : pj_d code 784 (.invokevirtual 101) 3 787 := ⟨by decide +kernel, rfl⟩
theorem dl_787 : pj_dj code 787 (.if_icmp .eq 139) 139 790 926 := ⟨by decide +kernel, rfl, by decide⟩
theorem dl_790 : pj_d code 790 (.iconst 0) 1 791 := ⟨by decide +kernel, rfl⟩
theorem dl_791 : pj_d code 791 (.ireturn) 1 792 := ⟨by decide +kernel, rfl⟩
theorem dl_792 : pj_d code 792 (.aload_n 1) 1 793 := ⟨by decide +kernel, rfl⟩
theorem dl_793 : pj_d code 793 (.aload_n 0) 1 794 := ⟨by decide +kernel, rfl⟩
theorem dl_794 : pj_d code 794 (.iload_n 3) 1 795 := ⟨by decide +kernel, rfl⟩
theorem dl_795 : pj_d code 795 (.iconst 1) 1 796 := ⟨by decide +kernel, rfl⟩
theorem dl_796 : pj_d code 796 (.iadd) 1 797 := ⟨by decide +kernel, rfl⟩
theorem dl_797 : pj_d code 797 (.iaload) 1 798 := ⟨by decide +kernel, rfl⟩
theorem dl_798 : pj_d code 798 (.invokevirtual 102) 3 801 := ⟨by decide +kernel, rfl⟩
theorem dl_801 : pj_d code 801 (.aload_n 2) 1 802 := ⟨by decide +kernel, rfl⟩
theorem dl_802 : pj_d code 802 (.aload_n 0) 1 803 := ⟨by decide +kernel, rfl⟩
theorem dl_803 : pj_d code 803 (.iload_n 3) 1 804 := ⟨by decide +kernel, rfl⟩
theorem dl_804 : pj_d code 804 (.iconst 1) 1 805 := ⟨by decide +kernel, rfl⟩
theorem dl_805 : pj_d code 805 (.iadd) 1 806 := ⟨by decide +kernel, rfl⟩
theorem dl_806 : pj_d code 806 (.iaload) 1 807 := ⟨by decide +kernel, rfl⟩
theorem dl_807 : pj_d code 807 (.invokevirtual 105) 3 810 := ⟨by decide +kernel, rfl⟩
theorem dl_810 : pj_dj code 810 (.if_icmp .eq 116) 116 813 926 := ⟨by decide +kernel, rfl, by decide⟩
theorem dl_813 : pj_d code 813 (.iconst 0) 1 814 := ⟨by decide +kernel, rfl⟩
theorem dl_814 : pj_d code 814 (.ireturn) 1 815 := ⟨by decide +kernel, rfl⟩
theorem dl_815 : pj_d code 815 (.aload_n 1) 1 816 := ⟨by decide +kernel, rfl⟩
theorem dl_816 : pj_d code 816 (.invokevirtual 106) 3 819 := ⟨by decide +kernel, rfl⟩
theorem dl_819 : pj_d code 819 (.aload_n 2) 1 820 := ⟨by decide +kernel, rfl⟩
theorem dl_820 : pj_d code 820 (.invokevirtual 109) 3 823 := ⟨by decide +kernel, rfl⟩
theorem dl_823 : pj_dj code 823 (.if_icmp .eq 103) 103 826 926 := ⟨by decide +kernel, rfl, by decide⟩
theorem dl_826 : pj_d code 826 (.iconst 0) 1 827 := ⟨by decide +kernel, rfl⟩
theorem dl_827 : pj_d code 827 (.ireturn) 1 828 := ⟨by decide +kernel, rfl⟩
theorem dl_828 : pj_d code 828 (.aload_n 1) 1 829 := ⟨by decide +kernel, rfl⟩
theorem dl_829 : pj_d code 829 (.aload_n 0) 1 830 := ⟨by decide +kernel, rfl⟩
theorem dl_830 : pj_d code 830 (.iload_n 3) 1 831 := ⟨by decide +kernel, rfl⟩
theorem dl_831 : pj_d code 831 (.iconst 1) 1 832 := ⟨by decide +kernel, rfl⟩
theorem dl_832 : pj_d code 832 (.iadd) 1 833 := ⟨by decide +kernel, rfl⟩
theorem dl_833 : pj_d code 833 (.iaload) 1 834 := ⟨by decide +kernel, rfl⟩
theorem dl_834 : pj_d code 834 (.invokevirtual 110) 3 837 := ⟨by decide +kernel, rfl⟩
theorem dl_837 : pj_d code 837 (.aload_n 2) 1 838 := ⟨by decide +kernel, rfl⟩
theorem dl_838 : pj_d code 838 (.aload_n 0) 1 839 := ⟨by decide +kernel, rfl⟩
theorem dl_839 : pj_d code 839 (.iload_n 3) 1 840 := ⟨by decide +kernel, rfl⟩
theorem dl_840 : pj_d code 840 (.iconst 1) 1 841 := ⟨by decide +kernel, rfl⟩
theorem dl_841 : pj_d code 841 (.iadd) 1 842 := ⟨by decide +kernel, rfl⟩
theorem dl_842 : pj_d code 842 (.iaload) 1 843 := ⟨by decide +kernel, rfl⟩
theorem dl_843 : pj_d code 843 (.invokevirtual 113) 3 846 := ⟨by decide +kernel, rfl⟩
theorem dl_846 : pj_dj code 846 (.if_icmp .eq 80) 80 849 926 := ⟨by decide +kernel, rfl, by decide⟩
theorem dl_849 : pj_d code 849 (.iconst 0) 1 850 := ⟨by decide +kernel, rfl⟩
theorem dl_850 : pj_d code 850 (.ireturn) 1 851 := ⟨by decide +kernel, rfl⟩
theorem dl_851 : pj_d code 851 (.aload_n 1) 1 852 := ⟨by decide +kernel, rfl⟩
theorem dl_852 : pj_d code 852 (.invokevirtual 114) 3 855 := ⟨by decide +kernel, rfl⟩
theorem dl_855 : pj_d code 855 (.aload_n 2) 1 856 := ⟨by decide +kernel, rfl⟩
theorem dl_856 : pj_d code 856 (.invokevirtual 118) 3 859 := ⟨by decide +kernel, rfl⟩
theorem dl_859 : pj_dj code 859 (.if_icmp .eq 67) 67 862 926 := ⟨by decide +kernel, rfl, by decide⟩
theorem dl_862 : pj_d code 862 (.iconst 0) 1 863 := ⟨by decide +kernel, rfl⟩
theorem dl_863 : pj_d code 863 (.ireturn) 1 864 := ⟨by decide +kernel, rfl⟩
theorem dl_864 : pj_d code 864 (.aload_n 1) 1 865 := ⟨by decide +kernel, rfl⟩
theorem dl_865 : pj_d code 865 (.aload_n 0) 1 866 := ⟨by decide +kernel, rfl⟩
theorem dl_866 : pj_d code 866 (.iload_n 3) 1 867 := ⟨by decide +kernel, rfl⟩
theorem dl_867 : pj_d code 867 (.iconst 1) 1 868 := ⟨by decide +kernel, rfl⟩
theorem dl_868 : pj_d code 868 (.iadd) 1 869 := ⟨by decide +kernel, rfl⟩
theorem dl_869 : pj_d code 869 (.iaload) 1 870 := ⟨by decide +kernel, rfl⟩
theorem dl_870 : pj_dj code 870 (.ifCond .eq 7) 7 873 877 := ⟨by decide +kernel, rfl, by decide⟩
theorem dl_873 : pj_d code 873 (.iconst 1) 1 874 := ⟨by decide +kernel, rfl⟩
theorem dl_874 : pj_dj code 874 (.goto 4) 4 877 878 := ⟨by decide +kernel, rfl, by decide⟩
theorem dl_877 : pj_d code 877 (.iconst 0) 1 878 := ⟨by decide +kernel, rfl⟩
theorem dl_878 : pj_d code 878 (.invokevirtual 119) 3 881 := ⟨by decide +kernel, rfl⟩
theorem dl_881 : pj_d code 881 (.aload_n 2) 1 882 := ⟨by decide +kernel, rfl⟩
theorem dl_882 : pj_d code 882 (.aload_n 0) 1 883 := ⟨by decide +kernel, rfl⟩
theorem dl_883 : pj_d code 883 (.iload_n 3) 1 884 := ⟨by decide +kernel, rfl⟩
theorem dl_884 : pj_d code 884 (.iconst 1) 1 885 := ⟨by decide +kernel, rfl⟩
theorem dl_885 : pj_d code 885 (.iadd) 1 886 := ⟨by decide +kernel, rfl⟩
theorem dl_886 : pj_d code 886 (.iaload) 1 887 := ⟨by decide +kernel, rfl⟩
theorem dl_887 : pj_dj code 887 (.ifCond .eq 7) 7 890 894 := ⟨by decide +kernel, rfl, by decide⟩
theorem dl_890 : pj_d code 890 (.iconst 1) 1 891 := ⟨by decide +kernel, rfl⟩
theorem dl_891 : pj_dj code 891 (.goto 4) 4 894 895 := ⟨by decide +kernel, rfl, by decide⟩
theorem dl_894 : pj_d code 894 (.iconst 0) 1 895 := ⟨by decide +kernel, rfl⟩
theorem dl_895 : pj_d code 895 (.invokevirtual 123) 3 898 := ⟨by decide +kernel, rfl⟩
theorem dl_898 : pj_dj code 898 (.if_icmp .eq 28) 28 901 926 := ⟨by decide +kernel, rfl, by decide⟩
theorem dl_901 : pj_d code 901 (.iconst 0) 1 902 := ⟨by decide +kernel, rfl⟩
theorem dl_902 : pj_d code 902 (.ireturn) 1 903 := ⟨by decide +kernel, rfl⟩
theorem dl_903 : pj_d code 903 (.aload_n 1) 1 904 := ⟨by decide +kernel, rfl⟩
theorem dl_904 : pj_d code 904 (.aload_n 0) 1 905 := ⟨by decide +kernel, rfl⟩
theorem dl_905 : pj_d code 905 (.iload_n 3) 1 906 := ⟨by decide +kernel, rfl⟩
theorem dl_906 : pj_d code 906 (.iconst 1) 1 907 := ⟨by decide +kernel, rfl⟩
theorem dl_907 : pj_d code 907 (.iadd) 1 908 := ⟨by decide +kernel, rfl⟩
theorem dl_908 : pj_d code 908 (.iaload) 1 909 := ⟨by decide +kernel, rfl⟩
theorem dl_909 : pj_d code 909 (.invokevirtual 124) 3 912 := ⟨by decide +kernel, rfl⟩
theorem dl_912 : pj_d code 912 (.aload_n 2) 1 913 := ⟨by decide +kernel, rfl⟩
theorem dl_913 : pj_d code 913 (.aload_n 0) 1 914 := ⟨by decide +kernel, rfl⟩
theorem dl_914 : pj_d code 914 (.iload_n 3) 1 915 := ⟨by decide +kernel, rfl⟩
theorem dl_915 : pj_d code 915 (.iconst 1) 1 916 := ⟨by decide +kernel, rfl⟩
theorem dl_916 : pj_d code 916 (.iadd) 1 917 := ⟨by decide +kernel, rfl⟩
theorem dl_917 : pj_d code 917 (.iaload) 1 918 := ⟨by decide +kernel, rfl⟩
theorem dl_918 : pj_d code 918 (.invokevirtual 127) 3 921 := ⟨by decide +kernel, rfl⟩
theorem dl_921 : pj_dj code 921 (.if_icmp .eq 5) 5 924 926 := ⟨by decide +kernel, rfl, by decide⟩
theorem dl_924 : pj_d code 924 (.iconst 0) 1 925 := ⟨by decide +kernel, rfl⟩
theorem dl_925 : pj_d code 925 (.ireturn) 1 926 := ⟨by decide +kernel, rfl⟩
theorem dl_926 : pj_d code 926 (.iinc 3 6) 3 929 := ⟨by decide +kernel, rfl⟩
theorem dl_929 : pj_dj code 929 (.goto (-911)) (-911) 932 18 := ⟨by decide +kernel, rfl, by decide⟩
theorem dl_932 : pj_d code 932 (.iconst 1) 1 933 := ⟨by decide +kernel, rfl⟩
theorem dl_933 : pj_d code 933 (.ireturn) 1 934 := ⟨by decide +kernel, rfl⟩
theorem cl_Lw_13 : pj_gV RL 13 yX10_state cX10_state 3 (some .int) 1 := ⟨(pj_m2 114 rfl rfl), (pj_m2 115 rfl rfl), (pj_m2 116 rfl rfl), (pj_m1 1 rfl rfl), (pj_m2 117 rfl rfl), by decide +kernel, by decide +kernel, by decide +kernel⟩
theorem cl_Lw_17 : pj_gV RL 17 yX11_state cX11_state 3 (some .int) 1 := ⟨(pj_m5 58 rfl rfl), (pj_m5 59 rfl rfl), (pj_m5 60 rfl rfl), (pj_m1 12 rfl rfl), (pj_m5 61 rfl rfl), by decide +kernel, by decide +kernel, by decide +kernel⟩
theorem cl_Lw_18 : pj_gV RL 18 yX10_cloth cX10_cloth 3 (some .boolean) 2 := ⟨(pj_m2 122 rfl rfl), (pj_m2 123 rfl rfl), (pj_m2 124 rfl rfl), (pj_m1 1 rfl rfl), (pj_m2 125 rfl rfl), by decide +kernel, by decide +kernel, by decide +kernel⟩
theorem cl_Lw_22 : pj_gV RL 22 yX11_cloth cX11_cloth 3 (some .boolean) 2 := ⟨(pj_m5 62 rfl rfl), (pj_m5 63 rfl rfl), (pj_m5 64 rfl rfl), (pj_m1 12 rfl rfl), (pj_m5 65 rfl rfl), by decide +kernel, by decide +kernel, by decide +kernel⟩
theorem cl_Lw_23 : pj_gV RL 23 yX10_set cX10_set 5 (some .boolean) 3 := ⟨(pj_m2 126 rfl rfl), (pj_m2 127 rfl rfl), (pj_m2 128 rfl rfl), (pj_m1 1 rfl rfl), (pj_m2 129 rfl rfl), by decide +kernel, by decide +kernel, by decide +kernel⟩
theorem cl_Lw_27 : pj_gV RL 27 yX11_set cX11_set 4 (some .boolean) 3 := ⟨(pj_m5 66 rfl rfl), (pj_m5 67 rfl rfl), (pj_m5 68 rfl rfl), (pj_m1 12 rfl rfl), (pj_m5 69 rfl rfl), by decide +kernel, by decide +kernel, by decide +kernel⟩
theorem cl_Lw_28 : pj_gV RL 28 yX10_gone cX10_gone 2 (some .boolean) 1 := ⟨(pj_m2 158 rfl rfl), (pj_m2 159 rfl rfl), (pj_m2 160 rfl rfl), (pj_m1 1 rfl rfl), (pj_m2 161 rfl rfl), by decide +kernel, by decide +kernel, by decide +kernel⟩
theorem cl_Lw_32 : pj_gV RL 32 yX11_gone cX11_gone 2 (some .boolean) 1 := ⟨(pj_m5 178 rfl rfl), (pj_m5 179 rfl rfl), (pj_m5 180 rfl rfl), (pj_m1 12 rfl rfl), (pj_m5 181 rfl rfl), by decide +kernel, by decide +kernel, by decide +kernel⟩
theorem cl_Lw_33 : pj_gV RL 33 yX10_cut cX10_cut 2 (some .boolean) 1 := ⟨(pj_m2 183 rfl rfl), (pj_m2 184 rfl rfl), (pj_m2 185 rfl rfl), (pj_m1 1 rfl rfl), (pj_m2 186 rfl rfl), by decide +kernel, by decide +kernel, by decide +kernel⟩
theorem cl_Lw_36 : pj_gV RL 36 yX11_cut cX11_cut 2 (some .boolean) 1 := ⟨(pj_m5 190 rfl rfl), (pj_m5 191 rfl rfl), (pj_m5 192 rfl rfl), (pj_m1 12 rfl rfl), (pj_m5 193 rfl rfl), by decide +kernel, by decide +kernel, by decide +kernel⟩
theorem cl_Lw_37 : pj_gV RL 37 yX10_pull cX10_pull 4 (some .int) 3 := ⟨(pj_m2 195 rfl rfl), (pj_m2 196 rfl rfl), (pj_m2 197 rfl rfl), (pj_m1 1 rfl rfl), (pj_m2 198 rfl rfl), by decide +kernel, by decide +kernel, by decide +kernel⟩
theorem cl_Lw_41 : pj_gV RL 41 yX11_pull cX11_pull 4 (some .int) 3 := ⟨(pj_m5 194 rfl rfl), (pj_m5 195 rfl rfl), (pj_m5 196 rfl rfl), (pj_m1 12 rfl rfl), (pj_m5 197 rfl rfl), by decide +kernel, by decide +kernel, by decide +kernel⟩
theorem cl_Lw_42 : pj_gV RL 42 yX10_hours cX10_hours 4 (some .int) 1 := ⟨(pj_m3 11 rfl rfl), (pj_m3 12 rfl rfl), (pj_m3 13 rfl rfl), (pj_m1 1 rfl rfl), (pj_m3 14 rfl rfl), by decide +kernel, by decide +kernel, by decide +kernel⟩
theorem cl_Lw_45 : pj_gV RL 45 yX11_hours cX11_hours 4 (some .int) 1 := ⟨(pj_m6 9 rfl rfl), (pj_m6 10 rfl rfl), (pj_m6 11 rfl rfl), (pj_m1 12 rfl rfl), (pj_m6 12 rfl rfl), by decide +kernel, by decide +kernel, by decide +kernel⟩
theorem cl_Lw_46 : pj_gV RL 46 yX10_feed cX10_feed 6 (some .int) 5 := ⟨(pj_m3 80 rfl rfl), (pj_m3 81 rfl rfl), (pj_m3 82 rfl rfl), (pj_m1 1 rfl rfl), (pj_m3 83 rfl rfl), by decide +kernel, by decide +kernel, by decide +kernel⟩
theorem cl_Lw_50 : pj_gV RL 50 yX11_feed cX11_feed 8 (some .int) 5 := ⟨(pj_m5 74 rfl rfl), (pj_m5 75 rfl rfl), (pj_m5 76 rfl rfl), (pj_m1 12 rfl rfl), (pj_m5 77 rfl rfl), by decide +kernel, by decide +kernel, by decide +kernel⟩
theorem cl_Lw_51 : pj_gV RL 51 yX10_end cX10_end 2 (some .boolean) 1 := ⟨(pj_m3 92 rfl rfl), (pj_m3 93 rfl rfl), (pj_m3 94 rfl rfl), (pj_m1 1 rfl rfl), (pj_m3 95 rfl rfl), by decide +kernel, by decide +kernel, by decide +kernel⟩
theorem cl_Lw_54 : pj_gV RL 54 yX11_end cX11_end 2 (some .boolean) 1 := ⟨(pj_m5 78 rfl rfl), (pj_m5 79 rfl rfl), (pj_m5 80 rfl rfl), (pj_m1 12 rfl rfl), (pj_m5 81 rfl rfl), by decide +kernel, by decide +kernel, by decide +kernel⟩
theorem cl_Lw_55 : pj_gV RL 55 yX10_text cX10_text 2 (some .int) 0 := ⟨(pj_m3 96 rfl rfl), (pj_m3 97 rfl rfl), (pj_m3 98 rfl rfl), (pj_m1 1 rfl rfl), (pj_m3 99 rfl rfl), by decide +kernel, by decide +kernel, by decide +kernel⟩
theorem cl_Lw_59 : pj_gV RL 59 yX11_text cX11_text 3 (some .int) 0 := ⟨(pj_m5 82 rfl rfl), (pj_m5 83 rfl rfl), (pj_m5 84 rfl rfl), (pj_m1 12 rfl rfl), (pj_m5 85 rfl rfl), by decide +kernel, by decide +kernel, by decide +kernel⟩
theorem cl_Lw_60 : pj_gV RL 60 yX10_fault cX10_fault 2 (some .int) 1 := ⟨(pj_m4 17 rfl rfl), (pj_m4 18 rfl rfl), (pj_m4 19 rfl rfl), (pj_m1 1 rfl rfl), (pj_m4 20 rfl rfl), by decide +kernel, by decide +kernel, by decide +kernel⟩
theorem cl_Lw_63 : pj_gV RL 63 yX11_fault cX11_fault 2 (some .int) 1 := ⟨(pj_m5 170 rfl rfl), (pj_m5 171 rfl rfl), (pj_m5 172 rfl rfl), (pj_m1 12 rfl rfl), (pj_m5 173 rfl rfl), by decide +kernel, by decide +kernel, by decide +kernel⟩
theorem cl_Lw_64 : pj_gV RL 64 yX10_of cX10_of 4 (some .int) 2 := ⟨(pj_m4 21 rfl rfl), (pj_m4 22 rfl rfl), (pj_m4 23 rfl rfl), (pj_m1 1 rfl rfl), (pj_m4 24 rfl rfl), by decide +kernel, by decide +kernel, by decide +kernel⟩
theorem cl_Lw_68 : pj_gV RL 68 yX11_of cX11_of 3 (some .int) 2 := ⟨(pj_m6 44 rfl rfl), (pj_m6 45 rfl rfl), (pj_m6 46 rfl rfl), (pj_m1 12 rfl rfl), (pj_m6 47 rfl rfl), by decide +kernel, by decide +kernel, by decide +kernel⟩
theorem cl_Lw_69 : pj_gV RL 69 yX10_at cX10_at 4 (some .int) 2 := ⟨(pj_m4 34 rfl rfl), (pj_m4 35 rfl rfl), (pj_m4 36 rfl rfl), (pj_m1 1 rfl rfl), (pj_m4 37 rfl rfl), by decide +kernel, by decide +kernel, by decide +kernel⟩
theorem cl_Lw_72 : pj_gV RL 72 yX11_at cX11_at 3 (some .int) 2 := ⟨(pj_m6 52 rfl rfl), (pj_m6 53 rfl rfl), (pj_m6 54 rfl rfl), (pj_m1 12 rfl rfl), (pj_m6 55 rfl rfl), by decide +kernel, by decide +kernel, by decide +kernel⟩
theorem cl_Lw_73 : pj_gV RL 73 yX10_wound cX10_wound 2 (some .int) 1 := ⟨(pj_m4 40 rfl rfl), (pj_m4 41 rfl rfl), (pj_m4 42 rfl rfl), (pj_m1 1 rfl rfl), (pj_m4 43 rfl rfl), by decide +kernel, by decide +kernel, by decide +kernel⟩
theorem cl_Lw_76 : pj_gV RL 76 yX11_wound cX11_wound 2 (some .int) 1 := ⟨(pj_m6 56 rfl rfl), (pj_m6 57 rfl rfl), (pj_m6 58 rfl rfl), (pj_m1 12 rfl rfl), (pj_m6 59 rfl rfl), by decide +kernel, by decide +kernel, by decide +kernel⟩
theorem cl_Lw_77 : pj_gV RL 77 yX10_book cX10_book 3 (some .int) 2 := ⟨(pj_m4 48 rfl rfl), (pj_m4 49 rfl rfl), (pj_m4 50 rfl rfl), (pj_m1 1 rfl rfl), (pj_m4 51 rfl rfl), by decide +kernel, by decide +kernel, by decide +kernel⟩
theorem cl_Lw_80 : pj_gV RL 80 yX11_book cX11_book 3 (some .int) 2 := ⟨(pj_m6 60 rfl rfl), (pj_m6 61 rfl rfl), (pj_m6 62 rfl rfl), (pj_m1 12 rfl rfl), (pj_m6 63 rfl rfl), by decide +kernel, by decide +kernel, by decide +kernel⟩
theorem cl_Lw_81 : pj_gV RL 81 yX10_runs cX10_runs 8 (some .int) 2 := ⟨(pj_m4 56 rfl rfl), (pj_m4 57 rfl rfl), (pj_m4 58 rfl rfl), (pj_m1 1 rfl rfl), (pj_m4 59 rfl rfl), by decide +kernel, by decide +kernel, by decide +kernel⟩
theorem cl_Lw_84 : pj_gV RL 84 yX11_runs cX11_runs 6 (some .int) 2 := ⟨(pj_m6 64 rfl rfl), (pj_m6 65 rfl rfl), (pj_m6 66 rfl rfl), (pj_m1 12 rfl rfl), (pj_m6 67 rfl rfl), by decide +kernel, by decide +kernel, by decide +kernel⟩
theorem cl_Lw_85 : pj_gV RL 85 yX10_save cX10_save 3 (some .int) 2 := ⟨(pj_m4 69 rfl rfl), (pj_m4 70 rfl rfl), (pj_m4 71 rfl rfl), (pj_m1 1 rfl rfl), (pj_m4 72 rfl rfl), by decide +kernel, by decide +kernel, by decide +kernel⟩
theorem cl_Lw_88 : pj_gV RL 88 yX11_save cX11_save 5 (some .int) 2 := ⟨(pj_m6 76 rfl rfl), (pj_m6 77 rfl rfl), (pj_m6 78 rfl rfl), (pj_m1 12 rfl rfl), (pj_m6 79 rfl rfl), by decide +kernel, by decide +kernel, by decide +kernel⟩
theorem cl_Lw_89 : pj_gV RL 89 yX10_comes cX10_comes 4 (some .int) 3 := ⟨(pj_m4 88 rfl rfl), (pj_m4 89 rfl rfl), (pj_m4 90 rfl rfl), (pj_m1 1 rfl rfl), (pj_m4 91 rfl rfl), by decide +kernel, by decide +kernel, by decide +kernel⟩
theorem cl_Lw_92 : pj_gV RL 92 yX11_comes cX11_comes 4 (some .int) 3 := ⟨(pj_m6 88 rfl rfl), (pj_m6 89 rfl rfl), (pj_m6 90 rfl rfl), (pj_m1 12 rfl rfl), (pj_m6 91 rfl rfl), by decide +kernel, by decide +kernel, by decide +kernel⟩
theorem cl_Lw_93 : pj_gV RL 93 yX10_all cX10_all 4 (some .int) 1 := ⟨(pj_m4 92 rfl rfl), (pj_m4 93 rfl rfl), (pj_m4 94 rfl rfl), (pj_m1 1 rfl rfl), (pj_m4 95 rfl rfl), by decide +kernel, by decide +kernel, by decide +kernel⟩
theorem cl_Lw_96 : pj_gV RL 96 yX11_all cX11_all 5 (some .int) 1 := ⟨(pj_m6 92 rfl rfl), (pj_m6 93 rfl rfl), (pj_m6 94 rfl rfl), (pj_m1 12 rfl rfl), (pj_m6 95 rfl rfl), by decide +kernel, by decide +kernel, by decide +kernel⟩
theorem cl_Lw_97 : pj_gV RL 97 yX10_part cX10_part 6 (some .int) 4 := ⟨(pj_m4 100 rfl rfl), (pj_m4 101 rfl rfl), (pj_m4 102 rfl rfl), (pj_m1 1 rfl rfl), (pj_m4 103 rfl rfl), by decide +kernel, by decide +kernel, by decide +kernel⟩
theorem cl_Lw_101 : pj_gV RL 101 yX11_part cX11_part 7 (some .int) 4 := ⟨(pj_m6 101 rfl rfl), (pj_m6 102 rfl rfl), (pj_m6 103 rfl rfl), (pj_m1 12 rfl rfl), (pj_m6 104 rfl rfl), by decide +kernel, by decide +kernel, by decide +kernel⟩
theorem cl_Lw_102 : pj_gV RL 102 yX10_join cX10_join 2 (some .int) 1 := ⟨(pj_m4 111 rfl rfl), (pj_m4 112 rfl rfl), (pj_m4 113 rfl rfl), (pj_m1 1 rfl rfl), (pj_m4 114 rfl rfl), by decide +kernel, by decide +kernel, by decide +kernel⟩
theorem cl_Lw_105 : pj_gV RL 105 yX11_join cX11_join 7 (some .int) 1 := ⟨(pj_m6 108 rfl rfl), (pj_m6 109 rfl rfl), (pj_m6 110 rfl rfl), (pj_m1 12 rfl rfl), (pj_m6 111 rfl rfl), by decide +kernel, by decide +kernel, by decide +kernel⟩
theorem cl_Lw_106 : pj_gV RL 106 yX10_quiet cX10_quiet 1 (some .int) 0 := ⟨(pj_m4 124 rfl rfl), (pj_m4 125 rfl rfl), (pj_m4 126 rfl rfl), (pj_m1 1 rfl rfl), (pj_m4 127 rfl rfl), by decide +kernel, by decide +kernel, by decide +kernel⟩
theorem cl_Lw_109 : pj_gV RL 109 yX11_quiet cX11_quiet 3 (some .int) 0 := ⟨(pj_m6 112 rfl rfl), (pj_m6 113 rfl rfl), (pj_m6 114 rfl rfl), (pj_m1 12 rfl rfl), (pj_m6 115 rfl rfl), by decide +kernel, by decide +kernel, by decide +kernel⟩
theorem cl_Lw_110 : pj_gV RL 110 yX10_first cX10_first 4 (some .int) 1 := ⟨(pj_m4 133 rfl rfl), (pj_m4 134 rfl rfl), (pj_m4 135 rfl rfl), (pj_m1 1 rfl rfl), (pj_m4 136 rfl rfl), by decide +kernel, by decide +kernel, by decide +kernel⟩
theorem cl_Lw_113 : pj_gV RL 113 yX11_first cX11_first 5 (some .int) 1 := ⟨(pj_m6 117 rfl rfl), (pj_m6 118 rfl rfl), (pj_m6 119 rfl rfl), (pj_m1 12 rfl rfl), (pj_m6 120 rfl rfl), by decide +kernel, by decide +kernel, by decide +kernel⟩
theorem cl_Lw_114 : pj_gV RL 114 yX10_undo cX10_undo 1 (some .boolean) 0 := ⟨(pj_m4 142 rfl rfl), (pj_m4 143 rfl rfl), (pj_m4 144 rfl rfl), (pj_m1 1 rfl rfl), (pj_m4 145 rfl rfl), by decide +kernel, by decide +kernel, by decide +kernel⟩
theorem cl_Lw_118 : pj_gV RL 118 yX11_undo cX11_undo 3 (some .boolean) 0 := ⟨(pj_m5 174 rfl rfl), (pj_m5 175 rfl rfl), (pj_m5 176 rfl rfl), (pj_m1 12 rfl rfl), (pj_m5 177 rfl rfl), by decide +kernel, by decide +kernel, by decide +kernel⟩
theorem cl_Lw_119 : pj_gV RL 119 yX10_image cX10_image 2 (some .boolean) 1 := ⟨(pj_m4 150 rfl rfl), (pj_m4 151 rfl rfl), (pj_m4 152 rfl rfl), (pj_m1 1 rfl rfl), (pj_m4 153 rfl rfl), by decide +kernel, by decide +kernel, by decide +kernel⟩
theorem cl_Lw_123 : pj_gV RL 123 yX11_image cX11_image 3 (some .boolean) 1 := ⟨(pj_m6 125 rfl rfl), (pj_m6 126 rfl rfl), (pj_m6 127 rfl rfl), (pj_m1 12 rfl rfl), (pj_m6 128 rfl rfl), by decide +kernel, by decide +kernel, by decide +kernel⟩
theorem cl_Lw_124 : pj_gV RL 124 yX10_look cX10_look 2 (some .int) 1 := ⟨(pj_m4 173 rfl rfl), (pj_m4 174 rfl rfl), (pj_m4 175 rfl rfl), (pj_m1 1 rfl rfl), (pj_m4 176 rfl rfl), by decide +kernel, by decide +kernel, by decide +kernel⟩
theorem cl_Lw_127 : pj_gV RL 127 yX11_look cX11_look 4 (some .int) 1 := ⟨(pj_m6 129 rfl rfl), (pj_m6 130 rfl rfl), (pj_m6 131 rfl rfl), (pj_m1 12 rfl rfl), (pj_m6 132 rfl rfl), by decide +kernel, by decide +kernel, by decide +kernel⟩
theorem pj_keep {A0 : Nat → Prop} {B2 : pj_B} {z2 : pj_S} {H H1 : Heap} (P2 : va_P B2.1 vwCl (pj_w B2 z2) H) (hdis : ∀ j, j < B2.2.2.2.1.length → B2.2.1 j < H.size → ¬ A0 (B2.2.1 j)) (hk : ∀ q : Nat, q < H.size → ¬ A0 q → H1[q]? = H[q]?) : va_P B2.1 vwCl (pj_w B2 z2) H1 := by
  refine P2.kept (fun k x hx => ?_)
  obtain ⟨k1, k2⟩ := pj_wi hx
  have hlt := (P2 k x hx).lt
  rw [k2] at hlt ⊢
  exact hk _ hlt (hdis k k1 hlt)
set_option maxHeartbeats 2000000 in
/-- a call beside another world, which stays -/
theorem pj_cV2 {B B2 : pj_B} {A : Nat → Prop} {K : pj_K} {cc : ByteArray} {nL : Nat} {own : String} {lvl : Nat} {H : Heap} {lo : List Loc} {ls : Array Slot} {st : List Value} {pc q : Nat} {y : MethodName} {c2 : ByteArray} {n2 lv2 na idx : Nat} {ret : Option FieldType} {z z2 z3 : pj_S} {r : Int32} {ci : Nat} {l : List (Nat × Nat)} {T : u_T} {N : Nat} (As : List Value) (C : pj_C B A K cc nL own lvl) (P : pj_P B A K z H lo) (P2 : pj_P B2 A K z3 H lo) (hdis : ∀ i j, i < B.2.2.2.1.length → j < B2.2.2.2.1.length → B.2.1 i ≠ B2.2.1 j) (k : Nat) (hk : B.2.2.2.1[k]? = some (.inl (ci, l))) (hc : vwCl[ci]? = some (y.cls, T, N)) (hM : pj_Mi K.2.1 y c2 n2 ret lv2 (.ref (B.2.1 k) :: As) B z r z2) (g : pj_gV own idx y c2 n2 ret na) (hna : As.length = na) (hl : lv2 + 1 ≤ lvl) (hn : n2 ≤ 45) (hls : ls.size = nL) (hst : (st.map fun v => v.category).sum ≤ 8) (d : pj_d cc pc (.invokevirtual idx) 3 q) (kk : ∀ (H2 : Heap) (lo2 : List Loc), pj_P B A K z2 H2 lo2 → pj_P B2 A K z3 H2 lo2 → pj_W K H2 lo2 q ls (.int r :: st)) : pj_W K H lo pc ls (As.reverse ++ .ref (B.2.1 k) :: st) := by
  obtain ⟨d, rfl⟩ := d
  obtain ⟨g1, g2, g3, g4, g5, g6, g7, g8⟩ := g
  have hts := C.2.2.2.2.1
  refine va_calli (va_runV (C := y.cls) (As := As) (rest := st) ⟨C.1, C.2.1, C.2.2.1, C.2.2.2.1, hts⟩ (hM H.size) ⟨callB_of na hts (pj_good g5) rfl rfl rfl (hts _ g4) (hts _ g1) ⟨g6, g7, g8⟩ (pj_room C hl hn), hts _ g2, hts _ g3⟩ ⟨pj_Pre.blind, va_recv C.2.2.2.2.2.1.1 P.1 hc (pj_wg hk), fun U hU hW => pj_pre C P hU hW _⟩ rfl hna hls rfl (lv_room hst) d C.2.2.2.2.2.2.2.2.2.1) P.2 (fun x _ h => pj_area C P x h) (pj_area C P) (fun r2 u t H1 lo1 ht hvm hp hB hz hkk hS => ?_)
  obtain ⟨rfl, rfl⟩ := hp
  refine kk H1 lo1 ⟨by rw [← ht]; exact hB, hS⟩ ⟨pj_keep (A0 := pj_ar B H.size) P2.1 (fun j hj hlt hh => ?_) hkk, hS⟩
  rcases hh with ⟨i, hi, e⟩ | hh
  · exact hdis i j hi hj e.symm
  · omega
/-- the two sides answer alike, and stay alike -/
def pj_ok (I : pj_S → pj_S → Prop) (f g : pj_S → Option (Int32 × pj_S)) : Prop := ∀ zC zM, I zC zM → ∃ r zC2 zM2, f zC = some (r, zC2) ∧ g zM = some (r, zM2) ∧ I zC2 zM2
def pj_Sim (I : pj_S → pj_S → Prop) : Prop := (∀ a : Int32, pj_ok I (PJ_state a) (Md_state a)) ∧ (∀ a b : Int32, pj_ok I (PJ_cloth a b) (Md_cloth a b)) ∧ (∀ a b c : Int32, pj_ok I (PJ_set a b c) (Md_set a b c)) ∧ (∀ a : Int32, pj_ok I (PJ_gone a) (Md_gone a)) ∧ (∀ a : Int32, pj_ok I (PJ_cut a) (Md_cut a)) ∧ (∀ a b c : Int32, pj_ok I (PJ_pull a b c) (Md_pull a b c)) ∧ (∀ a : Int32, pj_ok I (PJ_hours a) (Md_hours a)) ∧ (∀ a b c d e : Int32, pj_ok I (PJ_feed a b c d e) (Md_feed a b c d e)) ∧ (∀ a : Int32, pj_ok I (PJ_end a) (Md_end a)) ∧ pj_ok I PJ_text Md_text ∧ (∀ a : Int32, pj_ok I (PJ_fault a) (Md_fault a)) ∧ (∀ a b : Int32, pj_ok I (PJ_of a b) (Md_of a b)) ∧ (∀ a b : Int32, pj_ok I (PJ_at a b) (Md_at a b)) ∧ (∀ a : Int32, pj_ok I (PJ_wound a) (Md_wound a)) ∧ (∀ a b : Int32, pj_ok I (PJ_book a b) (Md_book a b)) ∧ (∀ a b : Int32, pj_ok I (PJ_runs a b) (Md_runs a b)) ∧ (∀ a b : Int32, pj_ok I (PJ_save a b) (Md_save a b)) ∧ (∀ a b c : Int32, pj_ok I (PJ_comes a b c) (Md_comes a b c)) ∧ (∀ a : Int32, pj_ok I (PJ_all a) (Md_all a)) ∧ (∀ a b c d : Int32, pj_ok I (PJ_part a b c d) (Md_part a b c d)) ∧ (∀ a : Int32, pj_ok I (PJ_join a) (Md_join a)) ∧ pj_ok I PJ_quiet Md_quiet ∧ (∀ a : Int32, pj_ok I (PJ_first a) (Md_first a)) ∧ pj_ok I PJ_undo Md_undo ∧ (∀ a : Int32, a = 0 ∨ a = 1 → pj_ok I (PJ_image a) (Md_image a)) ∧ (∀ a : Int32, pj_ok I (PJ_look a) (Md_look a))
/-- the law's machine, in its loop -/
abbrev pj_KL (p : Program) (l : Launch) (e : Env) (s : State) (m : MethodId) (b : Nat) (below : List Frame) (meth : Method) (c : Code) : pj_K := (p, l, e, room_1, s, m, #[Value.ref b], below, meth, c, 57, 10484, lw_Z below #[Value.ref b] s)
theorem pj_scr {p : Program} {l : Launch} {e : Env} {s : State} {m : MethodId} {below : List Frame} {meth : Method} {c : Code} {b L : Nat} {xs : Nat → Int32} {B : pj_B} {nL lvl : Nat} {own : String} {z : pj_S} {H : Heap} {lo : List Loc} {ls : Array Slot} {st : List Value} {pc q : Nat} {i : Int32} (C : pj_C B (fun q => s.heap.size ≤ q) (pj_KL p l e s m b below meth c) code nL own lvl) (P : pj_P B (fun q => s.heap.size ≤ q) (pj_KL p l e s m b below meth c) z H lo) (hX : va_X b L xs s s.heap) (hbl : b < s.heap.size) (hi : vp_in i L) (d : pj_d code pc .iaload 1 q) (k : pj_W (pj_KL p l e s m b below meth c) H lo q ls (.int (xs i.toNatClampNeg) :: st)) : pj_W (pj_KL p l e s m b below meth c) H lo pc ls (.int i :: .ref b :: st) := by
  obtain ⟨d, rfl⟩ := d
  exact va_sld C.1 C.2.1 hX hbl (Nat.not_le.mpr hbl) P.2 hi d k
theorem pj_scl {p : Program} {l : Launch} {e : Env} {s : State} {m : MethodId} {below : List Frame} {meth : Method} {c : Code} {b L : Nat} {xs : Nat → Int32} {B : pj_B} {nL lvl : Nat} {own : String} {z : pj_S} {H : Heap} {lo : List Loc} {ls : Array Slot} {st : List Value} {pc q : Nat} (C : pj_C B (fun q => s.heap.size ≤ q) (pj_KL p l e s m b below meth c) code nL own lvl) (P : pj_P B (fun q => s.heap.size ≤ q) (pj_KL p l e s m b below meth c) z H lo) (hX : va_X b L xs s s.heap) (hbl : b < s.heap.size) (d : pj_d code pc .arraylength 1 q) (k : pj_W (pj_KL p l e s m b below meth c) H lo q ls (.int (Int32.ofNat L) :: st)) : pj_W (pj_KL p l e s m b below meth c) H lo pc ls (.ref b :: st) := by
  obtain ⟨d, rfl⟩ := d
  exact va_slen C.1 C.2.1 hX hbl (Nat.not_le.mpr hbl) P.2 d k
/-- what stays while the law runs -/
def pj_LX (I : pj_S → pj_S → Prop) (BC BM : pj_B) (p : Program) (l : Launch) (e : Env) (s : State) (m : MethodId) (b : Nat) (below : List Frame) (meth : Method) (c : Code) (L : Nat) (xs : Nat → Int32) : Prop := BC.2.2.2.1 = pj_LC ∧ BM.2.2.2.1 = pj_LM ∧ pj_C BC (fun q => s.heap.size ≤ q) (pj_KL p l e s m b below meth c) code 4 RL 200 ∧ pj_C BM (fun q => s.heap.size ≤ q) (pj_KL p l e s m b below meth c) code 4 RL 200 ∧ (∀ i j, i < BC.2.2.2.1.length → j < BM.2.2.2.1.length → BC.2.1 i ≠ BM.2.1 j) ∧ va_X b L xs s s.heap ∧ b < s.heap.size ∧ meth.sig.returnType = ret ∧ meth.locks = false ∧ L ≤ 3072 ∧ pj_Sim I
set_option maxHeartbeats 4000000 in
theorem law_c0 (I : pj_S → pj_S → Prop) {BC BM : pj_B} {p : Program} {l : Launch} {e : Env} {s : State} {m : MethodId} {below : List Frame} {meth : Method} {c : Code} {b L : Nat} {xs : Nat → Int32} (X : pj_LX I BC BM p l e s m b below meth c L xs) {i : Int32} (hi1 : vp_in (i + 1) L) (hi2 : vp_in (i + 2) L) (hi3 : vp_in (i + 3) L) (hi4 : vp_in (i + 4) L) (hi5 : vp_in (i + 5) L) (kk : ∀ (zC zM : pj_S) (H : Heap) (lo : List Loc) (ls : Array Slot), I zC zM → pj_P BC (fun q => s.heap.size ≤ q) (pj_KL p l e s m b below meth c) zC H lo → pj_P BM (fun q => s.heap.size ≤ q) (pj_KL p l e s m b below meth c) zM H lo → lv_has ls 4 [(3, .int i), (2, .ref (BM.2.1 0)), (1, .ref (BC.2.1 0)), (0, .ref b)] → pj_W (pj_KL p l e s m b below meth c) H lo 926 ls []) (zC zM : pj_S) (H : Heap) (lo : List Loc) (ls : Array Slot) (hI : I zC zM) (PC : pj_P BC (fun q => s.heap.size ≤ q) (pj_KL p l e s m b below meth c) zC H lo) (PM : pj_P BM (fun q => s.heap.size ≤ q) (pj_KL p l e s m b below meth c) zM H lo) (hl : lv_has ls 4 [(3, .int i), (2, .ref (BM.2.1 0)), (1, .ref (BC.2.1 0)), (0, .ref b)]) : pj_W (pj_KL p l e s m b below meth c) H lo 152 ls [] := by
  obtain ⟨hC, hMd, CC, CM, hdis, hX, hbl, hr, hlocks, hL, hs⟩ := X
  refine pj_aload_n CC dl_152 rfl hl 2 rfl ?_
  refine pj_aload_n CC dl_153 rfl hl 3 rfl ?_
  refine pj_iload_n CC dl_154 rfl hl 0 rfl ?_
  refine pj_iconst (v := 1) CC dl_155 rfl ?_
  refine pj_iadd CC dl_156 ?_
  refine pj_scr CC PC hX hbl hi1 dl_157 ?_
  obtain ⟨r, zC2, zM2, e1, e2, hI2⟩ := hs.1 (xs (Int32.toNatClampNeg (i + 1))) zC zM hI
  refine pj_cV2 (st := []) [.int (xs (Int32.toNatClampNeg (i + 1)))] CC PC PM hdis 0 (LC0 hC) rfl (ct_PJ_state hC e1) cl_Lw_13 rfl (by decide) (by decide) hl.1 (Nat.le_of_ble_eq_true rfl) dl_158 (fun H lo PC PM => ?_)
  refine pj_aload_n CC dl_161 rfl hl 1 rfl ?_
  refine pj_aload_n CC dl_162 rfl hl 3 rfl ?_
  refine pj_iload_n CC dl_163 rfl hl 0 rfl ?_
  refine pj_iconst (v := 1) CC dl_164 rfl ?_
  refine pj_iadd CC dl_165 ?_
  refine pj_scr CC PC hX hbl hi1 dl_166 ?_
  refine pj_cV2 (st := [.int r]) [.int (xs (Int32.toNatClampNeg (i + 1)))] CM PM PC (fun a1 a2 h1 h2 h3 => hdis a2 a1 h2 h1 h3.symm) 0 (LM0 hMd) rfl (ct_Md_state hMd e2) cl_Lw_17 rfl (by decide) (by decide) hl.1 (Nat.le_of_ble_eq_true rfl) dl_167 (fun H lo PM PC => ?_)
  refine pj_ic_eq (X := some ()) (Y := none) (r := ()) CC (if_pos rfl) dl_170 (fun _ => ?_) (fun h => by cases h)
  exact kk zC2 zM2 _ _ _ hI2 PC PM hl
set_option maxHeartbeats 4000000 in
theorem law_c1 (I : pj_S → pj_S → Prop) {BC BM : pj_B} {p : Program} {l : Launch} {e : Env} {s : State} {m : MethodId} {below : List Frame} {meth : Method} {c : Code} {b L : Nat} {xs : Nat → Int32} (X : pj_LX I BC BM p l e s m b below meth c L xs) {i : Int32} (hi1 : vp_in (i + 1) L) (hi2 : vp_in (i + 2) L) (hi3 : vp_in (i + 3) L) (hi4 : vp_in (i + 4) L) (hi5 : vp_in (i + 5) L) (kk : ∀ (zC zM : pj_S) (H : Heap) (lo : List Loc) (ls : Array Slot), I zC zM → pj_P BC (fun q => s.heap.size ≤ q) (pj_KL p l e s m b below meth c) zC H lo → pj_P BM (fun q => s.heap.size ≤ q) (pj_KL p l e s m b below meth c) zM H lo → lv_has ls 4 [(3, .int i), (2, .ref (BM.2.1 0)), (1, .ref (BC.2.1 0)), (0, .ref b)] → pj_W (pj_KL p l e s m b below meth c) H lo 926 ls []) (zC zM : pj_S) (H : Heap) (lo : List Loc) (ls : Array Slot) (hI : I zC zM) (PC : pj_P BC (fun q => s.heap.size ≤ q) (pj_KL p l e s m b below meth c) zC H lo) (PM : pj_P BM (fun q => s.heap.size ≤ q) (pj_KL p l e s m b below meth c) zM H lo) (hl : lv_has ls 4 [(3, .int i), (2, .ref (BM.2.1 0)), (1, .ref (BC.2.1 0)), (0, .ref b)]) : pj_W (pj_KL p l e s m b below meth c) H lo 175 ls [] := by
  obtain ⟨hC, hMd, CC, CM, hdis, hX, hbl, hr, hlocks, hL, hs⟩ := X
  refine pj_aload_n CC dl_175 rfl hl 2 rfl ?_
  refine pj_aload_n CC dl_176 rfl hl 3 rfl ?_
  refine pj_iload_n CC dl_177 rfl hl 0 rfl ?_
  refine pj_iconst (v := 1) CC dl_178 rfl ?_
  refine pj_iadd CC dl_179 ?_
  refine pj_scr CC PC hX hbl hi1 dl_180 ?_
  refine pj_aload_n CC dl_181 rfl hl 3 rfl ?_
  refine pj_iload_n CC dl_182 rfl hl 0 rfl ?_
  refine pj_iconst (v := 2) CC dl_183 rfl ?_
  refine pj_iadd CC dl_184 ?_
  refine pj_scr CC PC hX hbl hi2 dl_185 ?_
  obtain ⟨r, zC2, zM2, e1, e2, hI2⟩ := hs.2.1 (xs (Int32.toNatClampNeg (i + 1))) (xs (Int32.toNatClampNeg (i + 2))) zC zM hI
  refine pj_cV2 (st := []) [.int (xs (Int32.toNatClampNeg (i + 1))), .int (xs (Int32.toNatClampNeg (i + 2)))] CC PC PM hdis 0 (LC0 hC) rfl (ct_PJ_cloth hC e1) cl_Lw_18 rfl (by decide) (by decide) hl.1 (Nat.le_of_ble_eq_true rfl) dl_186 (fun H lo PC PM => ?_)
  refine pj_aload_n CC dl_189 rfl hl 1 rfl ?_
  refine pj_aload_n CC dl_190 rfl hl 3 rfl ?_
  refine pj_iload_n CC dl_191 rfl hl 0 rfl ?_
  refine pj_iconst (v := 1) CC dl_192 rfl ?_
  refine pj_iadd CC dl_193 ?_
  refine pj_scr CC PC hX hbl hi1 dl_194 ?_
  refine pj_aload_n CC dl_195 rfl hl 3 rfl ?_
  refine pj_iload_n CC dl_196 rfl hl 0 rfl ?_
  refine pj_iconst (v := 2) CC dl_197 rfl ?_
  refine pj_iadd CC dl_198 ?_
  refine pj_scr CC PC hX hbl hi2 dl_199 ?_
  refine pj_cV2 (st := [.int r]) [.int (xs (Int32.toNatClampNeg (i + 1))), .int (xs (Int32.toNatClampNeg (i + 2)))] CM PM PC (fun a1 a2 h1 h2 h3 => hdis a2 a1 h2 h1 h3.symm) 0 (LM0 hMd) rfl (ct_Md_cloth hMd e2) cl_Lw_22 rfl (by decide) (by decide) hl.1 (Nat.le_of_ble_eq_true rfl) dl_200 (fun H lo PM PC => ?_)
  refine pj_ic_eq (X := some ()) (Y := none) (r := ()) CC (if_pos rfl) dl_203 (fun _ => ?_) (fun h => by cases h)
  exact kk zC2 zM2 _ _ _ hI2 PC PM hl
set_option maxHeartbeats 4000000 in
theorem law_c2 (I : pj_S → pj_S → Prop) {BC BM : pj_B} {p : Program} {l : Launch} {e : Env} {s : State} {m : MethodId} {below : List Frame} {meth : Method} {c : Code} {b L : Nat} {xs : Nat → Int32} (X : pj_LX I BC BM p l e s m b below meth c L xs) {i : Int32} (hi1 : vp_in (i + 1) L) (hi2 : vp_in (i + 2) L) (hi3 : vp_in (i + 3) L) (hi4 : vp_in (i + 4) L) (hi5 : vp_in (i + 5) L) (kk : ∀ (zC zM : pj_S) (H : Heap) (lo : List Loc) (ls : Array Slot), I zC zM → pj_P BC (fun q => s.heap.size ≤ q) (pj_KL p l e s m b below meth c) zC H lo → pj_P BM (fun q => s.heap.size ≤ q) (pj_KL p l e s m b below meth c) zM H lo → lv_has ls 4 [(3, .int i), (2, .ref (BM.2.1 0)), (1, .ref (BC.2.1 0)), (0, .ref b)] → pj_W (pj_KL p l e s m b below meth c) H lo 926 ls []) (zC zM : pj_S) (H : Heap) (lo : List Loc) (ls : Array Slot) (hI : I zC zM) (PC : pj_P BC (fun q => s.heap.size ≤ q) (pj_KL p l e s m b below meth c) zC H lo) (PM : pj_P BM (fun q => s.heap.size ≤ q) (pj_KL p l e s m b below meth c) zM H lo) (hl : lv_has ls 4 [(3, .int i), (2, .ref (BM.2.1 0)), (1, .ref (BC.2.1 0)), (0, .ref b)]) : pj_W (pj_KL p l e s m b below meth c) H lo 208 ls [] := by
  obtain ⟨hC, hMd, CC, CM, hdis, hX, hbl, hr, hlocks, hL, hs⟩ := X
  refine pj_aload_n CC dl_208 rfl hl 2 rfl ?_
  refine pj_aload_n CC dl_209 rfl hl 3 rfl ?_
  refine pj_iload_n CC dl_210 rfl hl 0 rfl ?_
  refine pj_iconst (v := 1) CC dl_211 rfl ?_
  refine pj_iadd CC dl_212 ?_
  refine pj_scr CC PC hX hbl hi1 dl_213 ?_
  refine pj_aload_n CC dl_214 rfl hl 3 rfl ?_
  refine pj_iload_n CC dl_215 rfl hl 0 rfl ?_
  refine pj_iconst (v := 2) CC dl_216 rfl ?_
  refine pj_iadd CC dl_217 ?_
  refine pj_scr CC PC hX hbl hi2 dl_218 ?_
  refine pj_aload_n CC dl_219 rfl hl 3 rfl ?_
  refine pj_iload_n CC dl_220 rfl hl 0 rfl ?_
  refine pj_iconst (v := 3) CC dl_221 rfl ?_
  refine pj_iadd CC dl_222 ?_
  refine pj_scr CC PC hX hbl hi3 dl_223 ?_
  obtain ⟨r, zC2, zM2, e1, e2, hI2⟩ := hs.2.2.1 (xs (Int32.toNatClampNeg (i + 1))) (xs (Int32.toNatClampNeg (i + 2))) (xs (Int32.toNatClampNeg (i + 3))) zC zM hI
  refine pj_cV2 (st := []) [.int (xs (Int32.toNatClampNeg (i + 1))), .int (xs (Int32.toNatClampNeg (i + 2))), .int (xs (Int32.toNatClampNeg (i + 3)))] CC PC PM hdis 0 (LC0 hC) rfl (ct_PJ_set hC e1) cl_Lw_23 rfl (by decide) (by decide) hl.1 (Nat.le_of_ble_eq_true rfl) dl_224 (fun H lo PC PM => ?_)
  refine pj_aload_n CC dl_227 rfl hl 1 rfl ?_
  refine pj_aload_n CC dl_228 rfl hl 3 rfl ?_
  refine pj_iload_n CC dl_229 rfl hl 0 rfl ?_
  refine pj_iconst (v := 1) CC dl_230 rfl ?_
  refine pj_iadd CC dl_231 ?_
  refine pj_scr CC PC hX hbl hi1 dl_232 ?_
  refine pj_aload_n CC dl_233 rfl hl 3 rfl ?_
  refine pj_iload_n CC dl_234 rfl hl 0 rfl ?_
  refine pj_iconst (v := 2) CC dl_235 rfl ?_
  refine pj_iadd CC dl_236 ?_
  refine pj_scr CC PC hX hbl hi2 dl_237 ?_
  refine pj_aload_n CC dl_238 rfl hl 3 rfl ?_
  refine pj_iload_n CC dl_239 rfl hl 0 rfl ?_
  refine pj_iconst (v := 3) CC dl_240 rfl ?_
  refine pj_iadd CC dl_241 ?_
  refine pj_scr CC PC hX hbl hi3 dl_242 ?_
  refine pj_cV2 (st := [.int r]) [.int (xs (Int32.toNatClampNeg (i + 1))), .int (xs (Int32.toNatClampNeg (i + 2))), .int (xs (Int32.toNatClampNeg (i + 3)))] CM PM PC (fun a1 a2 h1 h2 h3 => hdis a2 a1 h2 h1 h3.symm) 0 (LM0 hMd) rfl (ct_Md_set hMd e2) cl_Lw_27 rfl (by decide) (by decide) hl.1 (Nat.le_of_ble_eq_true rfl) dl_243 (fun H lo PM PC => ?_)
  refine pj_ic_eq (X := some ()) (Y := none) (r := ()) CC (if_pos rfl) dl_246 (fun _ => ?_) (fun h => by cases h)
  exact kk zC2 zM2 _ _ _ hI2 PC PM hl
set_option maxHeartbeats 4000000 in
theorem law_c3 (I : pj_S → pj_S → Prop) {BC BM : pj_B} {p : Program} {l : Launch} {e : Env} {s : State} {m : MethodId} {below : List Frame} {meth : Method} {c : Code} {b L : Nat} {xs : Nat → Int32} (X : pj_LX I BC BM p l e s m b below meth c L xs) {i : Int32} (hi1 : vp_in (i + 1) L) (hi2 : vp_in (i + 2) L) (hi3 : vp_in (i + 3) L) (hi4 : vp_in (i + 4) L) (hi5 : vp_in (i + 5) L) (kk : ∀ (zC zM : pj_S) (H : Heap) (lo : List Loc) (ls : Array Slot), I zC zM → pj_P BC (fun q => s.heap.size ≤ q) (pj_KL p l e s m b below meth c) zC H lo → pj_P BM (fun q => s.heap.size ≤ q) (pj_KL p l e s m b below meth c) zM H lo → lv_has ls 4 [(3, .int i), (2, .ref (BM.2.1 0)), (1, .ref (BC.2.1 0)), (0, .ref b)] → pj_W (pj_KL p l e s m b below meth c) H lo 926 ls []) (zC zM : pj_S) (H : Heap) (lo : List Loc) (ls : Array Slot) (hI : I zC zM) (PC : pj_P BC (fun q => s.heap.size ≤ q) (pj_KL p l e s m b below meth c) zC H lo) (PM : pj_P BM (fun q => s.heap.size ≤ q) (pj_KL p l e s m b below meth c) zM H lo) (hl : lv_has ls 4 [(3, .int i), (2, .ref (BM.2.1 0)), (1, .ref (BC.2.1 0)), (0, .ref b)]) : pj_W (pj_KL p l e s m b below meth c) H lo 251 ls [] := by
  obtain ⟨hC, hMd, CC, CM, hdis, hX, hbl, hr, hlocks, hL, hs⟩ := X
  refine pj_aload_n CC dl_251 rfl hl 2 rfl ?_
  refine pj_aload_n CC dl_252 rfl hl 3 rfl ?_
  refine pj_iload_n CC dl_253 rfl hl 0 rfl ?_
  refine pj_iconst (v := 1) CC dl_254 rfl ?_
  refine pj_iadd CC dl_255 ?_
  refine pj_scr CC PC hX hbl hi1 dl_256 ?_
  obtain ⟨r, zC2, zM2, e1, e2, hI2⟩ := hs.2.2.2.1 (xs (Int32.toNatClampNeg (i + 1))) zC zM hI
  refine pj_cV2 (st := []) [.int (xs (Int32.toNatClampNeg (i + 1)))] CC PC PM hdis 0 (LC0 hC) rfl (ct_PJ_gone hC e1) cl_Lw_28 rfl (by decide) (by decide) hl.1 (Nat.le_of_ble_eq_true rfl) dl_257 (fun H lo PC PM => ?_)
  refine pj_aload_n CC dl_260 rfl hl 1 rfl ?_
  refine pj_aload_n CC dl_261 rfl hl 3 rfl ?_
  refine pj_iload_n CC dl_262 rfl hl 0 rfl ?_
  refine pj_iconst (v := 1) CC dl_263 rfl ?_
  refine pj_iadd CC dl_264 ?_
  refine pj_scr CC PC hX hbl hi1 dl_265 ?_
  refine pj_cV2 (st := [.int r]) [.int (xs (Int32.toNatClampNeg (i + 1)))] CM PM PC (fun a1 a2 h1 h2 h3 => hdis a2 a1 h2 h1 h3.symm) 0 (LM0 hMd) rfl (ct_Md_gone hMd e2) cl_Lw_32 rfl (by decide) (by decide) hl.1 (Nat.le_of_ble_eq_true rfl) dl_266 (fun H lo PM PC => ?_)
  refine pj_ic_eq (X := some ()) (Y := none) (r := ()) CC (if_pos rfl) dl_269 (fun _ => ?_) (fun h => by cases h)
  exact kk zC2 zM2 _ _ _ hI2 PC PM hl
set_option maxHeartbeats 4000000 in
theorem law_c4 (I : pj_S → pj_S → Prop) {BC BM : pj_B} {p : Program} {l : Launch} {e : Env} {s : State} {m : MethodId} {below : List Frame} {meth : Method} {c : Code} {b L : Nat} {xs : Nat → Int32} (X : pj_LX I BC BM p l e s m b below meth c L xs) {i : Int32} (hi1 : vp_in (i + 1) L) (hi2 : vp_in (i + 2) L) (hi3 : vp_in (i + 3) L) (hi4 : vp_in (i + 4) L) (hi5 : vp_in (i + 5) L) (kk : ∀ (zC zM : pj_S) (H : Heap) (lo : List Loc) (ls : Array Slot), I zC zM → pj_P BC (fun q => s.heap.size ≤ q) (pj_KL p l e s m b below meth c) zC H lo → pj_P BM (fun q => s.heap.size ≤ q) (pj_KL p l e s m b below meth c) zM H lo → lv_has ls 4 [(3, .int i), (2, .ref (BM.2.1 0)), (1, .ref (BC.2.1 0)), (0, .ref b)] → pj_W (pj_KL p l e s m b below meth c) H lo 926 ls []) (zC zM : pj_S) (H : Heap) (lo : List Loc) (ls : Array Slot) (hI : I zC zM) (PC : pj_P BC (fun q => s.heap.size ≤ q) (pj_KL p l e s m b below meth c) zC H lo) (PM : pj_P BM (fun q => s.heap.size ≤ q) (pj_KL p l e s m b below meth c) zM H lo) (hl : lv_has ls 4 [(3, .int i), (2, .ref (BM.2.1 0)), (1, .ref (BC.2.1 0)), (0, .ref b)]) : pj_W (pj_KL p l e s m b below meth c) H lo 274 ls [] := by
  obtain ⟨hC, hMd, CC, CM, hdis, hX, hbl, hr, hlocks, hL, hs⟩ := X
  refine pj_aload_n CC dl_274 rfl hl 2 rfl ?_
  refine pj_aload_n CC dl_275 rfl hl 3 rfl ?_
  refine pj_iload_n CC dl_276 rfl hl 0 rfl ?_
  refine pj_iconst (v := 1) CC dl_277 rfl ?_
  refine pj_iadd CC dl_278 ?_
  refine pj_scr CC PC hX hbl hi1 dl_279 ?_
  obtain ⟨r, zC2, zM2, e1, e2, hI2⟩ := hs.2.2.2.2.1 (xs (Int32.toNatClampNeg (i + 1))) zC zM hI
  refine pj_cV2 (st := []) [.int (xs (Int32.toNatClampNeg (i + 1)))] CC PC PM hdis 0 (LC0 hC) rfl (ct_PJ_cut hC e1) cl_Lw_33 rfl (by decide) (by decide) hl.1 (Nat.le_of_ble_eq_true rfl) dl_280 (fun H lo PC PM => ?_)
  refine pj_aload_n CC dl_283 rfl hl 1 rfl ?_
  refine pj_aload_n CC dl_284 rfl hl 3 rfl ?_
  refine pj_iload_n CC dl_285 rfl hl 0 rfl ?_
  refine pj_iconst (v := 1) CC dl_286 rfl ?_
  refine pj_iadd CC dl_287 ?_
  refine pj_scr CC PC hX hbl hi1 dl_288 ?_
  refine pj_cV2 (st := [.int r]) [.int (xs (Int32.toNatClampNeg (i + 1)))] CM PM PC (fun a1 a2 h1 h2 h3 => hdis a2 a1 h2 h1 h3.symm) 0 (LM0 hMd) rfl (ct_Md_cut hMd e2) cl_Lw_36 rfl (by decide) (by decide) hl.1 (Nat.le_of_ble_eq_true rfl) dl_289 (fun H lo PM PC => ?_)
  refine pj_ic_eq (X := some ()) (Y := none) (r := ()) CC (if_pos rfl) dl_292 (fun _ => ?_) (fun h => by cases h)
  exact kk zC2 zM2 _ _ _ hI2 PC PM hl
set_option maxHeartbeats 4000000 in
theorem law_c5 (I : pj_S → pj_S → Prop) {BC BM : pj_B} {p : Program} {l : Launch} {e : Env} {s : State} {m : MethodId} {below : List Frame} {meth : Method} {c : Code} {b L : Nat} {xs : Nat → Int32} (X : pj_LX I BC BM p l e s m b below meth c L xs) {i : Int32} (hi1 : vp_in (i + 1) L) (hi2 : vp_in (i + 2) L) (hi3 : vp_in (i + 3) L) (hi4 : vp_in (i + 4) L) (hi5 : vp_in (i + 5) L) (kk : ∀ (zC zM : pj_S) (H : Heap) (lo : List Loc) (ls : Array Slot), I zC zM → pj_P BC (fun q => s.heap.size ≤ q) (pj_KL p l e s m b below meth c) zC H lo → pj_P BM (fun q => s.heap.size ≤ q) (pj_KL p l e s m b below meth c) zM H lo → lv_has ls 4 [(3, .int i), (2, .ref (BM.2.1 0)), (1, .ref (BC.2.1 0)), (0, .ref b)] → pj_W (pj_KL p l e s m b below meth c) H lo 926 ls []) (zC zM : pj_S) (H : Heap) (lo : List Loc) (ls : Array Slot) (hI : I zC zM) (PC : pj_P BC (fun q => s.heap.size ≤ q) (pj_KL p l e s m b below meth c) zC H lo) (PM : pj_P BM (fun q => s.heap.size ≤ q) (pj_KL p l e s m b below meth c) zM H lo) (hl : lv_has ls 4 [(3, .int i), (2, .ref (BM.2.1 0)), (1, .ref (BC.2.1 0)), (0, .ref b)]) : pj_W (pj_KL p l e s m b below meth c) H lo 297 ls [] := by
  obtain ⟨hC, hMd, CC, CM, hdis, hX, hbl, hr, hlocks, hL, hs⟩ := X
  refine pj_aload_n CC dl_297 rfl hl 2 rfl ?_
  refine pj_aload_n CC dl_298 rfl hl 3 rfl ?_
  refine pj_iload_n CC dl_299 rfl hl 0 rfl ?_
  refine pj_iconst (v := 1) CC dl_300 rfl ?_
  refine pj_iadd CC dl_301 ?_
  refine pj_scr CC PC hX hbl hi1 dl_302 ?_
  refine pj_aload_n CC dl_303 rfl hl 3 rfl ?_
  refine pj_iload_n CC dl_304 rfl hl 0 rfl ?_
  refine pj_iconst (v := 2) CC dl_305 rfl ?_
  refine pj_iadd CC dl_306 ?_
  refine pj_scr CC PC hX hbl hi2 dl_307 ?_
  refine pj_aload_n CC dl_308 rfl hl 3 rfl ?_
  refine pj_iload_n CC dl_309 rfl hl 0 rfl ?_
  refine pj_iconst (v := 3) CC dl_310 rfl ?_
  refine pj_iadd CC dl_311 ?_
  refine pj_scr CC PC hX hbl hi3 dl_312 ?_
  obtain ⟨r, zC2, zM2, e1, e2, hI2⟩ := hs.2.2.2.2.2.1 (xs (Int32.toNatClampNeg (i + 1))) (xs (Int32.toNatClampNeg (i + 2))) (xs (Int32.toNatClampNeg (i + 3))) zC zM hI
  refine pj_cV2 (st := []) [.int (xs (Int32.toNatClampNeg (i + 1))), .int (xs (Int32.toNatClampNeg (i + 2))), .int (xs (Int32.toNatClampNeg (i + 3)))] CC PC PM hdis 0 (LC0 hC) rfl (ct_PJ_pull hC e1) cl_Lw_37 rfl (by decide) (by decide) hl.1 (Nat.le_of_ble_eq_true rfl) dl_313 (fun H lo PC PM => ?_)
  refine pj_aload_n CC dl_316 rfl hl 1 rfl ?_
  refine pj_aload_n CC dl_317 rfl hl 3 rfl ?_
  refine pj_iload_n CC dl_318 rfl hl 0 rfl ?_
  refine pj_iconst (v := 1) CC dl_319 rfl ?_
  refine pj_iadd CC dl_320 ?_
  refine pj_scr CC PC hX hbl hi1 dl_321 ?_
  refine pj_aload_n CC dl_322 rfl hl 3 rfl ?_
  refine pj_iload_n CC dl_323 rfl hl 0 rfl ?_
  refine pj_iconst (v := 2) CC dl_324 rfl ?_
  refine pj_iadd CC dl_325 ?_
  refine pj_scr CC PC hX hbl hi2 dl_326 ?_
  refine pj_aload_n CC dl_327 rfl hl 3 rfl ?_
  refine pj_iload_n CC dl_328 rfl hl 0 rfl ?_
  refine pj_iconst (v := 3) CC dl_329 rfl ?_
  refine pj_iadd CC dl_330 ?_
  refine pj_scr CC PC hX hbl hi3 dl_331 ?_
  refine pj_cV2 (st := [.int r]) [.int (xs (Int32.toNatClampNeg (i + 1))), .int (xs (Int32.toNatClampNeg (i + 2))), .int (xs (Int32.toNatClampNeg (i + 3)))] CM PM PC (fun a1 a2 h1 h2 h3 => hdis a2 a1 h2 h1 h3.symm) 0 (LM0 hMd) rfl (ct_Md_pull hMd e2) cl_Lw_41 rfl (by decide) (by decide) hl.1 (Nat.le_of_ble_eq_true rfl) dl_332 (fun H lo PM PC => ?_)
  refine pj_ic_eq (X := some ()) (Y := none) (r := ()) CC (if_pos rfl) dl_335 (fun _ => ?_) (fun h => by cases h)
  exact kk zC2 zM2 _ _ _ hI2 PC PM hl
set_option maxHeartbeats 4000000 in
theorem law_c6 (I : pj_S → pj_S → Prop) {BC BM : pj_B} {p : Program} {l : Launch} {e : Env} {s : State} {m : MethodId} {below : List Frame} {meth : Method} {c : Code} {b L : Nat} {xs : Nat → Int32} (X : pj_LX I BC BM p l e s m b below meth c L xs) {i : Int32} (hi1 : vp_in (i + 1) L) (hi2 : vp_in (i + 2) L) (hi3 : vp_in (i + 3) L) (hi4 : vp_in (i + 4) L) (hi5 : vp_in (i + 5) L) (kk : ∀ (zC zM : pj_S) (H : Heap) (lo : List Loc) (ls : Array Slot), I zC zM → pj_P BC (fun q => s.heap.size ≤ q) (pj_KL p l e s m b below meth c) zC H lo → pj_P BM (fun q => s.heap.size ≤ q) (pj_KL p l e s m b below meth c) zM H lo → lv_has ls 4 [(3, .int i), (2, .ref (BM.2.1 0)), (1, .ref (BC.2.1 0)), (0, .ref b)] → pj_W (pj_KL p l e s m b below meth c) H lo 926 ls []) (zC zM : pj_S) (H : Heap) (lo : List Loc) (ls : Array Slot) (hI : I zC zM) (PC : pj_P BC (fun q => s.heap.size ≤ q) (pj_KL p l e s m b below meth c) zC H lo) (PM : pj_P BM (fun q => s.heap.size ≤ q) (pj_KL p l e s m b below meth c) zM H lo) (hl : lv_has ls 4 [(3, .int i), (2, .ref (BM.2.1 0)), (1, .ref (BC.2.1 0)), (0, .ref b)]) : pj_W (pj_KL p l e s m b below meth c) H lo 340 ls [] := by
  obtain ⟨hC, hMd, CC, CM, hdis, hX, hbl, hr, hlocks, hL, hs⟩ := X
  refine pj_aload_n CC dl_340 rfl hl 2 rfl ?_
  refine pj_aload_n CC dl_341 rfl hl 3 rfl ?_
  refine pj_iload_n CC dl_342 rfl hl 0 rfl ?_
  refine pj_iconst (v := 1) CC dl_343 rfl ?_
  refine pj_iadd CC dl_344 ?_
  refine pj_scr CC PC hX hbl hi1 dl_345 ?_
  obtain ⟨r, zC2, zM2, e1, e2, hI2⟩ := hs.2.2.2.2.2.2.1 (xs (Int32.toNatClampNeg (i + 1))) zC zM hI
  refine pj_cV2 (st := []) [.int (xs (Int32.toNatClampNeg (i + 1)))] CC PC PM hdis 0 (LC0 hC) rfl (ct_PJ_hours hC e1) cl_Lw_42 rfl (by decide) (by decide) hl.1 (Nat.le_of_ble_eq_true rfl) dl_346 (fun H lo PC PM => ?_)
  refine pj_aload_n CC dl_349 rfl hl 1 rfl ?_
  refine pj_aload_n CC dl_350 rfl hl 3 rfl ?_
  refine pj_iload_n CC dl_351 rfl hl 0 rfl ?_
  refine pj_iconst (v := 1) CC dl_352 rfl ?_
  refine pj_iadd CC dl_353 ?_
  refine pj_scr CC PC hX hbl hi1 dl_354 ?_
  refine pj_cV2 (st := [.int r]) [.int (xs (Int32.toNatClampNeg (i + 1)))] CM PM PC (fun a1 a2 h1 h2 h3 => hdis a2 a1 h2 h1 h3.symm) 0 (LM0 hMd) rfl (ct_Md_hours hMd e2) cl_Lw_45 rfl (by decide) (by decide) hl.1 (Nat.le_of_ble_eq_true rfl) dl_355 (fun H lo PM PC => ?_)
  refine pj_ic_eq (X := some ()) (Y := none) (r := ()) CC (if_pos rfl) dl_358 (fun _ => ?_) (fun h => by cases h)
  exact kk zC2 zM2 _ _ _ hI2 PC PM hl
set_option maxHeartbeats 4000000 in
theorem law_c7 (I : pj_S → pj_S → Prop) {BC BM : pj_B} {p : Program} {l : Launch} {e : Env} {s : State} {m : MethodId} {below : List Frame} {meth : Method} {c : Code} {b L : Nat} {xs : Nat → Int32} (X : pj_LX I BC BM p l e s m b below meth c L xs) {i : Int32} (hi1 : vp_in (i + 1) L) (hi2 : vp_in (i + 2) L) (hi3 : vp_in (i + 3) L) (hi4 : vp_in (i + 4) L) (hi5 : vp_in (i + 5) L) (kk : ∀ (zC zM : pj_S) (H : Heap) (lo : List Loc) (ls : Array Slot), I zC zM → pj_P BC (fun q => s.heap.size ≤ q) (pj_KL p l e s m b below meth c) zC H lo → pj_P BM (fun q => s.heap.size ≤ q) (pj_KL p l e s m b below meth c) zM H lo → lv_has ls 4 [(3, .int i), (2, .ref (BM.2.1 0)), (1, .ref (BC.2.1 0)), (0, .ref b)] → pj_W (pj_KL p l e s m b below meth c) H lo 926 ls []) (zC zM : pj_S) (H : Heap) (lo : List Loc) (ls : Array Slot) (hI : I zC zM) (PC : pj_P BC (fun q => s.heap.size ≤ q) (pj_KL p l e s m b below meth c) zC H lo) (PM : pj_P BM (fun q => s.heap.size ≤ q) (pj_KL p l e s m b below meth c) zM H lo) (hl : lv_has ls 4 [(3, .int i), (2, .ref (BM.2.1 0)), (1, .ref (BC.2.1 0)), (0, .ref b)]) : pj_W (pj_KL p l e s m b below meth c) H lo 363 ls [] := by
  obtain ⟨hC, hMd, CC, CM, hdis, hX, hbl, hr, hlocks, hL, hs⟩ := X
  refine pj_aload_n CC dl_363 rfl hl 2 rfl ?_
  refine pj_aload_n CC dl_364 rfl hl 3 rfl ?_
  refine pj_iload_n CC dl_365 rfl hl 0 rfl ?_
  refine pj_iconst (v := 1) CC dl_366 rfl ?_
  refine pj_iadd CC dl_367 ?_
  refine pj_scr CC PC hX hbl hi1 dl_368 ?_
  refine pj_aload_n CC dl_369 rfl hl 3 rfl ?_
  refine pj_iload_n CC dl_370 rfl hl 0 rfl ?_
  refine pj_iconst (v := 2) CC dl_371 rfl ?_
  refine pj_iadd CC dl_372 ?_
  refine pj_scr CC PC hX hbl hi2 dl_373 ?_
  refine pj_aload_n CC dl_374 rfl hl 3 rfl ?_
  refine pj_iload_n CC dl_375 rfl hl 0 rfl ?_
  refine pj_iconst (v := 3) CC dl_376 rfl ?_
  refine pj_iadd CC dl_377 ?_
  refine pj_scr CC PC hX hbl hi3 dl_378 ?_
  refine pj_aload_n CC dl_379 rfl hl 3 rfl ?_
  refine pj_iload_n CC dl_380 rfl hl 0 rfl ?_
  refine pj_iconst (v := 4) CC dl_381 rfl ?_
  refine pj_iadd CC dl_382 ?_
  refine pj_scr CC PC hX hbl hi4 dl_383 ?_
  refine pj_aload_n CC dl_384 rfl hl 3 rfl ?_
  refine pj_iload_n CC dl_385 rfl hl 0 rfl ?_
  refine pj_iconst (v := 5) CC dl_386 rfl ?_
  refine pj_iadd CC dl_387 ?_
  refine pj_scr CC PC hX hbl hi5 dl_388 ?_
  obtain ⟨r, zC2, zM2, e1, e2, hI2⟩ := hs.2.2.2.2.2.2.2.1 (xs (Int32.toNatClampNeg (i + 1))) (xs (Int32.toNatClampNeg (i + 2))) (xs (Int32.toNatClampNeg (i + 3))) (xs (Int32.toNatClampNeg (i + 4))) (xs (Int32.toNatClampNeg (i + 5))) zC zM hI
  refine pj_cV2 (st := []) [.int (xs (Int32.toNatClampNeg (i + 1))), .int (xs (Int32.toNatClampNeg (i + 2))), .int (xs (Int32.toNatClampNeg (i + 3))), .int (xs (Int32.toNatClampNeg (i + 4))), .int (xs (Int32.toNatClampNeg (i + 5)))] CC PC PM hdis 0 (LC0 hC) rfl (ct_PJ_feed hC e1) cl_Lw_46 rfl (by decide) (by decide) hl.1 (Nat.le_of_ble_eq_true rfl) dl_389 (fun H lo PC PM => ?_)
  refine pj_aload_n CC dl_392 rfl hl 1 rfl ?_
  refine pj_aload_n CC dl_393 rfl hl 3 rfl ?_
  refine pj_iload_n CC dl_394 rfl hl 0 rfl ?_
  refine pj_iconst (v := 1) CC dl_395 rfl ?_
  refine pj_iadd CC dl_396 ?_
  refine pj_scr CC PC hX hbl hi1 dl_397 ?_
  refine pj_aload_n CC dl_398 rfl hl 3 rfl ?_
  refine pj_iload_n CC dl_399 rfl hl 0 rfl ?_
  refine pj_iconst (v := 2) CC dl_400 rfl ?_
  refine pj_iadd CC dl_401 ?_
  refine pj_scr CC PC hX hbl hi2 dl_402 ?_
  refine pj_aload_n CC dl_403 rfl hl 3 rfl ?_
  refine pj_iload_n CC dl_404 rfl hl 0 rfl ?_
  refine pj_iconst (v := 3) CC dl_405 rfl ?_
  refine pj_iadd CC dl_406 ?_
  refine pj_scr CC PC hX hbl hi3 dl_407 ?_
  refine pj_aload_n CC dl_408 rfl hl 3 rfl ?_
  refine pj_iload_n CC dl_409 rfl hl 0 rfl ?_
  refine pj_iconst (v := 4) CC dl_410 rfl ?_
  refine pj_iadd CC dl_411 ?_
  refine pj_scr CC PC hX hbl hi4 dl_412 ?_
  refine pj_aload_n CC dl_413 rfl hl 3 rfl ?_
  refine pj_iload_n CC dl_414 rfl hl 0 rfl ?_
  refine pj_iconst (v := 5) CC dl_415 rfl ?_
  refine pj_iadd CC dl_416 ?_
  refine pj_scr CC PC hX hbl hi5 dl_417 ?_
  refine pj_cV2 (st := [.int r]) [.int (xs (Int32.toNatClampNeg (i + 1))), .int (xs (Int32.toNatClampNeg (i + 2))), .int (xs (Int32.toNatClampNeg (i + 3))), .int (xs (Int32.toNatClampNeg (i + 4))), .int (xs (Int32.toNatClampNeg (i + 5)))] CM PM PC (fun a1 a2 h1 h2 h3 => hdis a2 a1 h2 h1 h3.symm) 0 (LM0 hMd) rfl (ct_Md_feed hMd e2) cl_Lw_50 rfl (by decide) (by decide) hl.1 (Nat.le_of_ble_eq_true rfl) dl_418 (fun H lo PM PC => ?_)
  refine pj_ic_eq (X := some ()) (Y := none) (r := ()) CC (if_pos rfl) dl_421 (fun _ => ?_) (fun h => by cases h)
  exact kk zC2 zM2 _ _ _ hI2 PC PM hl
set_option maxHeartbeats 4000000 in
theorem law_c8 (I : pj_S → pj_S → Prop) {BC BM : pj_B} {p : Program} {l : Launch} {e : Env} {s : State} {m : MethodId} {below : List Frame} {meth : Method} {c : Code} {b L : Nat} {xs : Nat → Int32} (X : pj_LX I BC BM p l e s m b below meth c L xs) {i : Int32} (hi1 : vp_in (i + 1) L) (hi2 : vp_in (i + 2) L) (hi3 : vp_in (i + 3) L) (hi4 : vp_in (i + 4) L) (hi5 : vp_in (i + 5) L) (kk : ∀ (zC zM : pj_S) (H : Heap) (lo : List Loc) (ls : Array Slot), I zC zM → pj_P BC (fun q => s.heap.size ≤ q) (pj_KL p l e s m b below meth c) zC H lo → pj_P BM (fun q => s.heap.size ≤ q) (pj_KL p l e s m b below meth c) zM H lo → lv_has ls 4 [(3, .int i), (2, .ref (BM.2.1 0)), (1, .ref (BC.2.1 0)), (0, .ref b)] → pj_W (pj_KL p l e s m b below meth c) H lo 926 ls []) (zC zM : pj_S) (H : Heap) (lo : List Loc) (ls : Array Slot) (hI : I zC zM) (PC : pj_P BC (fun q => s.heap.size ≤ q) (pj_KL p l e s m b below meth c) zC H lo) (PM : pj_P BM (fun q => s.heap.size ≤ q) (pj_KL p l e s m b below meth c) zM H lo) (hl : lv_has ls 4 [(3, .int i), (2, .ref (BM.2.1 0)), (1, .ref (BC.2.1 0)), (0, .ref b)]) : pj_W (pj_KL p l e s m b below meth c) H lo 426 ls [] := by
  obtain ⟨hC, hMd, CC, CM, hdis, hX, hbl, hr, hlocks, hL, hs⟩ := X
  refine pj_aload_n CC dl_426 rfl hl 2 rfl ?_
  refine pj_aload_n CC dl_427 rfl hl 3 rfl ?_
  refine pj_iload_n CC dl_428 rfl hl 0 rfl ?_
  refine pj_iconst (v := 1) CC dl_429 rfl ?_
  refine pj_iadd CC dl_430 ?_
  refine pj_scr CC PC hX hbl hi1 dl_431 ?_
  obtain ⟨r, zC2, zM2, e1, e2, hI2⟩ := hs.2.2.2.2.2.2.2.2.1 (xs (Int32.toNatClampNeg (i + 1))) zC zM hI
  refine pj_cV2 (st := []) [.int (xs (Int32.toNatClampNeg (i + 1)))] CC PC PM hdis 0 (LC0 hC) rfl (ct_PJ_end hC e1) cl_Lw_51 rfl (by decide) (by decide) hl.1 (Nat.le_of_ble_eq_true rfl) dl_432 (fun H lo PC PM => ?_)
  refine pj_aload_n CC dl_435 rfl hl 1 rfl ?_
  refine pj_aload_n CC dl_436 rfl hl 3 rfl ?_
  refine pj_iload_n CC dl_437 rfl hl 0 rfl ?_
  refine pj_iconst (v := 1) CC dl_438 rfl ?_
  refine pj_iadd CC dl_439 ?_
  refine pj_scr CC PC hX hbl hi1 dl_440 ?_
  refine pj_cV2 (st := [.int r]) [.int (xs (Int32.toNatClampNeg (i + 1)))] CM PM PC (fun a1 a2 h1 h2 h3 => hdis a2 a1 h2 h1 h3.symm) 0 (LM0 hMd) rfl (ct_Md_end hMd e2) cl_Lw_54 rfl (by decide) (by decide) hl.1 (Nat.le_of_ble_eq_true rfl) dl_441 (fun H lo PM PC => ?_)
  refine pj_ic_eq (X := some ()) (Y := none) (r := ()) CC (if_pos rfl) dl_444 (fun _ => ?_) (fun h => by cases h)
  exact kk zC2 zM2 _ _ _ hI2 PC PM hl
set_option maxHeartbeats 4000000 in
theorem law_c9 (I : pj_S → pj_S → Prop) {BC BM : pj_B} {p : Program} {l : Launch} {e : Env} {s : State} {m : MethodId} {below : List Frame} {meth : Method} {c : Code} {b L : Nat} {xs : Nat → Int32} (X : pj_LX I BC BM p l e s m b below meth c L xs) {i : Int32} (hi1 : vp_in (i + 1) L) (hi2 : vp_in (i + 2) L) (hi3 : vp_in (i + 3) L) (hi4 : vp_in (i + 4) L) (hi5 : vp_in (i + 5) L) (kk : ∀ (zC zM : pj_S) (H : Heap) (lo : List Loc) (ls : Array Slot), I zC zM → pj_P BC (fun q => s.heap.size ≤ q) (pj_KL p l e s m b below meth c) zC H lo → pj_P BM (fun q => s.heap.size ≤ q) (pj_KL p l e s m b below meth c) zM H lo → lv_has ls 4 [(3, .int i), (2, .ref (BM.2.1 0)), (1, .ref (BC.2.1 0)), (0, .ref b)] → pj_W (pj_KL p l e s m b below meth c) H lo 926 ls []) (zC zM : pj_S) (H : Heap) (lo : List Loc) (ls : Array Slot) (hI : I zC zM) (PC : pj_P BC (fun q => s.heap.size ≤ q) (pj_KL p l e s m b below meth c) zC H lo) (PM : pj_P BM (fun q => s.heap.size ≤ q) (pj_KL p l e s m b below meth c) zM H lo) (hl : lv_has ls 4 [(3, .int i), (2, .ref (BM.2.1 0)), (1, .ref (BC.2.1 0)), (0, .ref b)]) : pj_W (pj_KL p l e s m b below meth c) H lo 449 ls [] := by
  obtain ⟨hC, hMd, CC, CM, hdis, hX, hbl, hr, hlocks, hL, hs⟩ := X
  refine pj_aload_n CC dl_449 rfl hl 2 rfl ?_
  obtain ⟨r, zC2, zM2, e1, e2, hI2⟩ := hs.2.2.2.2.2.2.2.2.2.1 zC zM hI
  refine pj_cV2 (st := []) [] CC PC PM hdis 0 (LC0 hC) rfl (ct_PJ_text hC e1) cl_Lw_55 rfl (by decide) (by decide) hl.1 (Nat.le_of_ble_eq_true rfl) dl_450 (fun H lo PC PM => ?_)
  refine pj_aload_n CC dl_453 rfl hl 1 rfl ?_
  refine pj_cV2 (st := [.int r]) [] CM PM PC (fun a1 a2 h1 h2 h3 => hdis a2 a1 h2 h1 h3.symm) 0 (LM0 hMd) rfl (ct_Md_text hMd e2) cl_Lw_59 rfl (by decide) (by decide) hl.1 (Nat.le_of_ble_eq_true rfl) dl_454 (fun H lo PM PC => ?_)
  refine pj_ic_eq (X := some ()) (Y := none) (r := ()) CC (if_pos rfl) dl_457 (fun _ => ?_) (fun h => by cases h)
  exact kk zC2 zM2 _ _ _ hI2 PC PM hl
set_option maxHeartbeats 4000000 in
theorem law_c10 (I : pj_S → pj_S → Prop) {BC BM : pj_B} {p : Program} {l : Launch} {e : Env} {s : State} {m : MethodId} {below : List Frame} {meth : Method} {c : Code} {b L : Nat} {xs : Nat → Int32} (X : pj_LX I BC BM p l e s m b below meth c L xs) {i : Int32} (hi1 : vp_in (i + 1) L) (hi2 : vp_in (i + 2) L) (hi3 : vp_in (i + 3) L) (hi4 : vp_in (i + 4) L) (hi5 : vp_in (i + 5) L) (kk : ∀ (zC zM : pj_S) (H : Heap) (lo : List Loc) (ls : Array Slot), I zC zM → pj_P BC (fun q => s.heap.size ≤ q) (pj_KL p l e s m b below meth c) zC H lo → pj_P BM (fun q => s.heap.size ≤ q) (pj_KL p l e s m b below meth c) zM H lo → lv_has ls 4 [(3, .int i), (2, .ref (BM.2.1 0)), (1, .ref (BC.2.1 0)), (0, .ref b)] → pj_W (pj_KL p l e s m b below meth c) H lo 926 ls []) (zC zM : pj_S) (H : Heap) (lo : List Loc) (ls : Array Slot) (hI : I zC zM) (PC : pj_P BC (fun q => s.heap.size ≤ q) (pj_KL p l e s m b below meth c) zC H lo) (PM : pj_P BM (fun q => s.heap.size ≤ q) (pj_KL p l e s m b below meth c) zM H lo) (hl : lv_has ls 4 [(3, .int i), (2, .ref (BM.2.1 0)), (1, .ref (BC.2.1 0)), (0, .ref b)]) : pj_W (pj_KL p l e s m b below meth c) H lo 462 ls [] := by
  obtain ⟨hC, hMd, CC, CM, hdis, hX, hbl, hr, hlocks, hL, hs⟩ := X
  refine pj_aload_n CC dl_462 rfl hl 2 rfl ?_
  refine pj_aload_n CC dl_463 rfl hl 3 rfl ?_
  refine pj_iload_n CC dl_464 rfl hl 0 rfl ?_
  refine pj_iconst (v := 1) CC dl_465 rfl ?_
  refine pj_iadd CC dl_466 ?_
  refine pj_scr CC PC hX hbl hi1 dl_467 ?_
  obtain ⟨r, zC2, zM2, e1, e2, hI2⟩ := hs.2.2.2.2.2.2.2.2.2.2.1 (xs (Int32.toNatClampNeg (i + 1))) zC zM hI
  refine pj_cV2 (st := []) [.int (xs (Int32.toNatClampNeg (i + 1)))] CC PC PM hdis 0 (LC0 hC) rfl (ct_PJ_fault hC e1) cl_Lw_60 rfl (by decide) (by decide) hl.1 (Nat.le_of_ble_eq_true rfl) dl_468 (fun H lo PC PM => ?_)
  refine pj_aload_n CC dl_471 rfl hl 1 rfl ?_
  refine pj_aload_n CC dl_472 rfl hl 3 rfl ?_
  refine pj_iload_n CC dl_473 rfl hl 0 rfl ?_
  refine pj_iconst (v := 1) CC dl_474 rfl ?_
  refine pj_iadd CC dl_475 ?_
  refine pj_scr CC PC hX hbl hi1 dl_476 ?_
  refine pj_cV2 (st := [.int r]) [.int (xs (Int32.toNatClampNeg (i + 1)))] CM PM PC (fun a1 a2 h1 h2 h3 => hdis a2 a1 h2 h1 h3.symm) 0 (LM0 hMd) rfl (ct_Md_fault hMd e2) cl_Lw_63 rfl (by decide) (by decide) hl.1 (Nat.le_of_ble_eq_true rfl) dl_477 (fun H lo PM PC => ?_)
  refine pj_ic_eq (X := some ()) (Y := none) (r := ()) CC (if_pos rfl) dl_480 (fun _ => ?_) (fun h => by cases h)
  exact kk zC2 zM2 _ _ _ hI2 PC PM hl
set_option maxHeartbeats 4000000 in
theorem law_c11 (I : pj_S → pj_S → Prop) {BC BM : pj_B} {p : Program} {l : Launch} {e : Env} {s : State} {m : MethodId} {below : List Frame} {meth : Method} {c : Code} {b L : Nat} {xs : Nat → Int32} (X : pj_LX I BC BM p l e s m b below meth c L xs) {i : Int32} (hi1 : vp_in (i + 1) L) (hi2 : vp_in (i + 2) L) (hi3 : vp_in (i + 3) L) (hi4 : vp_in (i + 4) L) (hi5 : vp_in (i + 5) L) (kk : ∀ (zC zM : pj_S) (H : Heap) (lo : List Loc) (ls : Array Slot), I zC zM → pj_P BC (fun q => s.heap.size ≤ q) (pj_KL p l e s m b below meth c) zC H lo → pj_P BM (fun q => s.heap.size ≤ q) (pj_KL p l e s m b below meth c) zM H lo → lv_has ls 4 [(3, .int i), (2, .ref (BM.2.1 0)), (1, .ref (BC.2.1 0)), (0, .ref b)] → pj_W (pj_KL p l e s m b below meth c) H lo 926 ls []) (zC zM : pj_S) (H : Heap) (lo : List Loc) (ls : Array Slot) (hI : I zC zM) (PC : pj_P BC (fun q => s.heap.size ≤ q) (pj_KL p l e s m b below meth c) zC H lo) (PM : pj_P BM (fun q => s.heap.size ≤ q) (pj_KL p l e s m b below meth c) zM H lo) (hl : lv_has ls 4 [(3, .int i), (2, .ref (BM.2.1 0)), (1, .ref (BC.2.1 0)), (0, .ref b)]) : pj_W (pj_KL p l e s m b below meth c) H lo 485 ls [] := by
  obtain ⟨hC, hMd, CC, CM, hdis, hX, hbl, hr, hlocks, hL, hs⟩ := X
  refine pj_aload_n CC dl_485 rfl hl 2 rfl ?_
  refine pj_aload_n CC dl_486 rfl hl 3 rfl ?_
  refine pj_iload_n CC dl_487 rfl hl 0 rfl ?_
  refine pj_iconst (v := 1) CC dl_488 rfl ?_
  refine pj_iadd CC dl_489 ?_
  refine pj_scr CC PC hX hbl hi1 dl_490 ?_
  refine pj_aload_n CC dl_491 rfl hl 3 rfl ?_
  refine pj_iload_n CC dl_492 rfl hl 0 rfl ?_
  refine pj_iconst (v := 2) CC dl_493 rfl ?_
  refine pj_iadd CC dl_494 ?_
  refine pj_scr CC PC hX hbl hi2 dl_495 ?_
  obtain ⟨r, zC2, zM2, e1, e2, hI2⟩ := hs.2.2.2.2.2.2.2.2.2.2.2.1 (xs (Int32.toNatClampNeg (i + 1))) (xs (Int32.toNatClampNeg (i + 2))) zC zM hI
  refine pj_cV2 (st := []) [.int (xs (Int32.toNatClampNeg (i + 1))), .int (xs (Int32.toNatClampNeg (i + 2)))] CC PC PM hdis 0 (LC0 hC) rfl (ct_PJ_of hC e1) cl_Lw_64 rfl (by decide) (by decide) hl.1 (Nat.le_of_ble_eq_true rfl) dl_496 (fun H lo PC PM => ?_)
  refine pj_aload_n CC dl_499 rfl hl 1 rfl ?_
  refine pj_aload_n CC dl_500 rfl hl 3 rfl ?_
  refine pj_iload_n CC dl_501 rfl hl 0 rfl ?_
  refine pj_iconst (v := 1) CC dl_502 rfl ?_
  refine pj_iadd CC dl_503 ?_
  refine pj_scr CC PC hX hbl hi1 dl_504 ?_
  refine pj_aload_n CC dl_505 rfl hl 3 rfl ?_
  refine pj_iload_n CC dl_506 rfl hl 0 rfl ?_
  refine pj_iconst (v := 2) CC dl_507 rfl ?_
  refine pj_iadd CC dl_508 ?_
  refine pj_scr CC PC hX hbl hi2 dl_509 ?_
  refine pj_cV2 (st := [.int r]) [.int (xs (Int32.toNatClampNeg (i + 1))), .int (xs (Int32.toNatClampNeg (i + 2)))] CM PM PC (fun a1 a2 h1 h2 h3 => hdis a2 a1 h2 h1 h3.symm) 0 (LM0 hMd) rfl (ct_Md_of hMd e2) cl_Lw_68 rfl (by decide) (by decide) hl.1 (Nat.le_of_ble_eq_true rfl) dl_510 (fun H lo PM PC => ?_)
  refine pj_ic_eq (X := some ()) (Y := none) (r := ()) CC (if_pos rfl) dl_513 (fun _ => ?_) (fun h => by cases h)
  exact kk zC2 zM2 _ _ _ hI2 PC PM hl
set_option maxHeartbeats 4000000 in
theorem law_c12 (I : pj_S → pj_S → Prop) {BC BM : pj_B} {p : Program} {l : Launch} {e : Env} {s : State} {m : MethodId} {below : List Frame} {meth : Method} {c : Code} {b L : Nat} {xs : Nat → Int32} (X : pj_LX I BC BM p l e s m b below meth c L xs) {i : Int32} (hi1 : vp_in (i + 1) L) (hi2 : vp_in (i + 2) L) (hi3 : vp_in (i + 3) L) (hi4 : vp_in (i + 4) L) (hi5 : vp_in (i + 5) L) (kk : ∀ (zC zM : pj_S) (H : Heap) (lo : List Loc) (ls : Array Slot), I zC zM → pj_P BC (fun q => s.heap.size ≤ q) (pj_KL p l e s m b below meth c) zC H lo → pj_P BM (fun q => s.heap.size ≤ q) (pj_KL p l e s m b below meth c) zM H lo → lv_has ls 4 [(3, .int i), (2, .ref (BM.2.1 0)), (1, .ref (BC.2.1 0)), (0, .ref b)] → pj_W (pj_KL p l e s m b below meth c) H lo 926 ls []) (zC zM : pj_S) (H : Heap) (lo : List Loc) (ls : Array Slot) (hI : I zC zM) (PC : pj_P BC (fun q => s.heap.size ≤ q) (pj_KL p l e s m b below meth c) zC H lo) (PM : pj_P BM (fun q => s.heap.size ≤ q) (pj_KL p l e s m b below meth c) zM H lo) (hl : lv_has ls 4 [(3, .int i), (2, .ref (BM.2.1 0)), (1, .ref (BC.2.1 0)), (0, .ref b)]) : pj_W (pj_KL p l e s m b below meth c) H lo 518 ls [] := by
  obtain ⟨hC, hMd, CC, CM, hdis, hX, hbl, hr, hlocks, hL, hs⟩ := X
  refine pj_aload_n CC dl_518 rfl hl 2 rfl ?_
  refine pj_aload_n CC dl_519 rfl hl 3 rfl ?_
  refine pj_iload_n CC dl_520 rfl hl 0 rfl ?_
  refine pj_iconst (v := 1) CC dl_521 rfl ?_
  refine pj_iadd CC dl_522 ?_
  refine pj_scr CC PC hX hbl hi1 dl_523 ?_
  refine pj_aload_n CC dl_524 rfl hl 3 rfl ?_
  refine pj_iload_n CC dl_525 rfl hl 0 rfl ?_
  refine pj_iconst (v := 2) CC dl_526 rfl ?_
  refine pj_iadd CC dl_527 ?_
  refine pj_scr CC PC hX hbl hi2 dl_528 ?_
  obtain ⟨r, zC2, zM2, e1, e2, hI2⟩ := hs.2.2.2.2.2.2.2.2.2.2.2.2.1 (xs (Int32.toNatClampNeg (i + 1))) (xs (Int32.toNatClampNeg (i + 2))) zC zM hI
  refine pj_cV2 (st := []) [.int (xs (Int32.toNatClampNeg (i + 1))), .int (xs (Int32.toNatClampNeg (i + 2)))] CC PC PM hdis 0 (LC0 hC) rfl (ct_PJ_at hC e1) cl_Lw_69 rfl (by decide) (by decide) hl.1 (Nat.le_of_ble_eq_true rfl) dl_529 (fun H lo PC PM => ?_)
  refine pj_aload_n CC dl_532 rfl hl 1 rfl ?_
  refine pj_aload_n CC dl_533 rfl hl 3 rfl ?_
  refine pj_iload_n CC dl_534 rfl hl 0 rfl ?_
  refine pj_iconst (v := 1) CC dl_535 rfl ?_
  refine pj_iadd CC dl_536 ?_
  refine pj_scr CC PC hX hbl hi1 dl_537 ?_
  refine pj_aload_n CC dl_538 rfl hl 3 rfl ?_
  refine pj_iload_n CC dl_539 rfl hl 0 rfl ?_
  refine pj_iconst (v := 2) CC dl_540 rfl ?_
  refine pj_iadd CC dl_541 ?_
  refine pj_scr CC PC hX hbl hi2 dl_542 ?_
  refine pj_cV2 (st := [.int r]) [.int (xs (Int32.toNatClampNeg (i + 1))), .int (xs (Int32.toNatClampNeg (i + 2)))] CM PM PC (fun a1 a2 h1 h2 h3 => hdis a2 a1 h2 h1 h3.symm) 0 (LM0 hMd) rfl (ct_Md_at hMd e2) cl_Lw_72 rfl (by decide) (by decide) hl.1 (Nat.le_of_ble_eq_true rfl) dl_543 (fun H lo PM PC => ?_)
  refine pj_ic_eq (X := some ()) (Y := none) (r := ()) CC (if_pos rfl) dl_546 (fun _ => ?_) (fun h => by cases h)
  exact kk zC2 zM2 _ _ _ hI2 PC PM hl
set_option maxHeartbeats 4000000 in
theorem law_c13 (I : pj_S → pj_S → Prop) {BC BM : pj_B} {p : Program} {l : Launch} {e : Env} {s : State} {m : MethodId} {below : List Frame} {meth : Method} {c : Code} {b L : Nat} {xs : Nat → Int32} (X : pj_LX I BC BM p l e s m b below meth c L xs) {i : Int32} (hi1 : vp_in (i + 1) L) (hi2 : vp_in (i + 2) L) (hi3 : vp_in (i + 3) L) (hi4 : vp_in (i + 4) L) (hi5 : vp_in (i + 5) L) (kk : ∀ (zC zM : pj_S) (H : Heap) (lo : List Loc) (ls : Array Slot), I zC zM → pj_P BC (fun q => s.heap.size ≤ q) (pj_KL p l e s m b below meth c) zC H lo → pj_P BM (fun q => s.heap.size ≤ q) (pj_KL p l e s m b below meth c) zM H lo → lv_has ls 4 [(3, .int i), (2, .ref (BM.2.1 0)), (1, .ref (BC.2.1 0)), (0, .ref b)] → pj_W (pj_KL p l e s m b below meth c) H lo 926 ls []) (zC zM : pj_S) (H : Heap) (lo : List Loc) (ls : Array Slot) (hI : I zC zM) (PC : pj_P BC (fun q => s.heap.size ≤ q) (pj_KL p l e s m b below meth c) zC H lo) (PM : pj_P BM (fun q => s.heap.size ≤ q) (pj_KL p l e s m b below meth c) zM H lo) (hl : lv_has ls 4 [(3, .int i), (2, .ref (BM.2.1 0)), (1, .ref (BC.2.1 0)), (0, .ref b)]) : pj_W (pj_KL p l e s m b below meth c) H lo 551 ls [] := by
  obtain ⟨hC, hMd, CC, CM, hdis, hX, hbl, hr, hlocks, hL, hs⟩ := X
  refine pj_aload_n CC dl_551 rfl hl 2 rfl ?_
  refine pj_aload_n CC dl_552 rfl hl 3 rfl ?_
  refine pj_iload_n CC dl_553 rfl hl 0 rfl ?_
  refine pj_iconst (v := 1) CC dl_554 rfl ?_
  refine pj_iadd CC dl_555 ?_
  refine pj_scr CC PC hX hbl hi1 dl_556 ?_
  obtain ⟨r, zC2, zM2, e1, e2, hI2⟩ := hs.2.2.2.2.2.2.2.2.2.2.2.2.2.1 (xs (Int32.toNatClampNeg (i + 1))) zC zM hI
  refine pj_cV2 (st := []) [.int (xs (Int32.toNatClampNeg (i + 1)))] CC PC PM hdis 0 (LC0 hC) rfl (ct_PJ_wound hC e1) cl_Lw_73 rfl (by decide) (by decide) hl.1 (Nat.le_of_ble_eq_true rfl) dl_557 (fun H lo PC PM => ?_)
  refine pj_aload_n CC dl_560 rfl hl 1 rfl ?_
  refine pj_aload_n CC dl_561 rfl hl 3 rfl ?_
  refine pj_iload_n CC dl_562 rfl hl 0 rfl ?_
  refine pj_iconst (v := 1) CC dl_563 rfl ?_
  refine pj_iadd CC dl_564 ?_
  refine pj_scr CC PC hX hbl hi1 dl_565 ?_
  refine pj_cV2 (st := [.int r]) [.int (xs (Int32.toNatClampNeg (i + 1)))] CM PM PC (fun a1 a2 h1 h2 h3 => hdis a2 a1 h2 h1 h3.symm) 0 (LM0 hMd) rfl (ct_Md_wound hMd e2) cl_Lw_76 rfl (by decide) (by decide) hl.1 (Nat.le_of_ble_eq_true rfl) dl_566 (fun H lo PM PC => ?_)
  refine pj_ic_eq (X := some ()) (Y := none) (r := ()) CC (if_pos rfl) dl_569 (fun _ => ?_) (fun h => by cases h)
  exact kk zC2 zM2 _ _ _ hI2 PC PM hl
set_option maxHeartbeats 4000000 in
theorem law_c14 (I : pj_S → pj_S → Prop) {BC BM : pj_B} {p : Program} {l : Launch} {e : Env} {s : State} {m : MethodId} {below : List Frame} {meth : Method} {c : Code} {b L : Nat} {xs : Nat → Int32} (X : pj_LX I BC BM p l e s m b below meth c L xs) {i : Int32} (hi1 : vp_in (i + 1) L) (hi2 : vp_in (i + 2) L) (hi3 : vp_in (i + 3) L) (hi4 : vp_in (i + 4) L) (hi5 : vp_in (i + 5) L) (kk : ∀ (zC zM : pj_S) (H : Heap) (lo : List Loc) (ls : Array Slot), I zC zM → pj_P BC (fun q => s.heap.size ≤ q) (pj_KL p l e s m b below meth c) zC H lo → pj_P BM (fun q => s.heap.size ≤ q) (pj_KL p l e s m b below meth c) zM H lo → lv_has ls 4 [(3, .int i), (2, .ref (BM.2.1 0)), (1, .ref (BC.2.1 0)), (0, .ref b)] → pj_W (pj_KL p l e s m b below meth c) H lo 926 ls []) (zC zM : pj_S) (H : Heap) (lo : List Loc) (ls : Array Slot) (hI : I zC zM) (PC : pj_P BC (fun q => s.heap.size ≤ q) (pj_KL p l e s m b below meth c) zC H lo) (PM : pj_P BM (fun q => s.heap.size ≤ q) (pj_KL p l e s m b below meth c) zM H lo) (hl : lv_has ls 4 [(3, .int i), (2, .ref (BM.2.1 0)), (1, .ref (BC.2.1 0)), (0, .ref b)]) : pj_W (pj_KL p l e s m b below meth c) H lo 574 ls [] := by
  obtain ⟨hC, hMd, CC, CM, hdis, hX, hbl, hr, hlocks, hL, hs⟩ := X
  refine pj_aload_n CC dl_574 rfl hl 2 rfl ?_
  refine pj_aload_n CC dl_575 rfl hl 3 rfl ?_
  refine pj_iload_n CC dl_576 rfl hl 0 rfl ?_
  refine pj_iconst (v := 1) CC dl_577 rfl ?_
  refine pj_iadd CC dl_578 ?_
  refine pj_scr CC PC hX hbl hi1 dl_579 ?_
  refine pj_aload_n CC dl_580 rfl hl 3 rfl ?_
  refine pj_iload_n CC dl_581 rfl hl 0 rfl ?_
  refine pj_iconst (v := 2) CC dl_582 rfl ?_
  refine pj_iadd CC dl_583 ?_
  refine pj_scr CC PC hX hbl hi2 dl_584 ?_
  obtain ⟨r, zC2, zM2, e1, e2, hI2⟩ := hs.2.2.2.2.2.2.2.2.2.2.2.2.2.2.1 (xs (Int32.toNatClampNeg (i + 1))) (xs (Int32.toNatClampNeg (i + 2))) zC zM hI
  refine pj_cV2 (st := []) [.int (xs (Int32.toNatClampNeg (i + 1))), .int (xs (Int32.toNatClampNeg (i + 2)))] CC PC PM hdis 0 (LC0 hC) rfl (ct_PJ_book hC e1) cl_Lw_77 rfl (by decide) (by decide) hl.1 (Nat.le_of_ble_eq_true rfl) dl_585 (fun H lo PC PM => ?_)
  refine pj_aload_n CC dl_588 rfl hl 1 rfl ?_
  refine pj_aload_n CC dl_589 rfl hl 3 rfl ?_
  refine pj_iload_n CC dl_590 rfl hl 0 rfl ?_
  refine pj_iconst (v := 1) CC dl_591 rfl ?_
  refine pj_iadd CC dl_592 ?_
  refine pj_scr CC PC hX hbl hi1 dl_593 ?_
  refine pj_aload_n CC dl_594 rfl hl 3 rfl ?_
  refine pj_iload_n CC dl_595 rfl hl 0 rfl ?_
  refine pj_iconst (v := 2) CC dl_596 rfl ?_
  refine pj_iadd CC dl_597 ?_
  refine pj_scr CC PC hX hbl hi2 dl_598 ?_
  refine pj_cV2 (st := [.int r]) [.int (xs (Int32.toNatClampNeg (i + 1))), .int (xs (Int32.toNatClampNeg (i + 2)))] CM PM PC (fun a1 a2 h1 h2 h3 => hdis a2 a1 h2 h1 h3.symm) 0 (LM0 hMd) rfl (ct_Md_book hMd e2) cl_Lw_80 rfl (by decide) (by decide) hl.1 (Nat.le_of_ble_eq_true rfl) dl_599 (fun H lo PM PC => ?_)
  refine pj_ic_eq (X := some ()) (Y := none) (r := ()) CC (if_pos rfl) dl_602 (fun _ => ?_) (fun h => by cases h)
  exact kk zC2 zM2 _ _ _ hI2 PC PM hl
set_option maxHeartbeats 4000000 in
theorem law_c15 (I : pj_S → pj_S → Prop) {BC BM : pj_B} {p : Program} {l : Launch} {e : Env} {s : State} {m : MethodId} {below : List Frame} {meth : Method} {c : Code} {b L : Nat} {xs : Nat → Int32} (X : pj_LX I BC BM p l e s m b below meth c L xs) {i : Int32} (hi1 : vp_in (i + 1) L) (hi2 : vp_in (i + 2) L) (hi3 : vp_in (i + 3) L) (hi4 : vp_in (i + 4) L) (hi5 : vp_in (i + 5) L) (kk : ∀ (zC zM : pj_S) (H : Heap) (lo : List Loc) (ls : Array Slot), I zC zM → pj_P BC (fun q => s.heap.size ≤ q) (pj_KL p l e s m b below meth c) zC H lo → pj_P BM (fun q => s.heap.size ≤ q) (pj_KL p l e s m b below meth c) zM H lo → lv_has ls 4 [(3, .int i), (2, .ref (BM.2.1 0)), (1, .ref (BC.2.1 0)), (0, .ref b)] → pj_W (pj_KL p l e s m b below meth c) H lo 926 ls []) (zC zM : pj_S) (H : Heap) (lo : List Loc) (ls : Array Slot) (hI : I zC zM) (PC : pj_P BC (fun q => s.heap.size ≤ q) (pj_KL p l e s m b below meth c) zC H lo) (PM : pj_P BM (fun q => s.heap.size ≤ q) (pj_KL p l e s m b below meth c) zM H lo) (hl : lv_has ls 4 [(3, .int i), (2, .ref (BM.2.1 0)), (1, .ref (BC.2.1 0)), (0, .ref b)]) : pj_W (pj_KL p l e s m b below meth c) H lo 607 ls [] := by
  obtain ⟨hC, hMd, CC, CM, hdis, hX, hbl, hr, hlocks, hL, hs⟩ := X
  refine pj_aload_n CC dl_607 rfl hl 2 rfl ?_
  refine pj_aload_n CC dl_608 rfl hl 3 rfl ?_
  refine pj_iload_n CC dl_609 rfl hl 0 rfl ?_
  refine pj_iconst (v := 1) CC dl_610 rfl ?_
  refine pj_iadd CC dl_611 ?_
  refine pj_scr CC PC hX hbl hi1 dl_612 ?_
  refine pj_aload_n CC dl_613 rfl hl 3 rfl ?_
  refine pj_iload_n CC dl_614 rfl hl 0 rfl ?_
  refine pj_iconst (v := 2) CC dl_615 rfl ?_
  refine pj_iadd CC dl_616 ?_
  refine pj_scr CC PC hX hbl hi2 dl_617 ?_
  obtain ⟨r, zC2, zM2, e1, e2, hI2⟩ := hs.2.2.2.2.2.2.2.2.2.2.2.2.2.2.2.1 (xs (Int32.toNatClampNeg (i + 1))) (xs (Int32.toNatClampNeg (i + 2))) zC zM hI
  refine pj_cV2 (st := []) [.int (xs (Int32.toNatClampNeg (i + 1))), .int (xs (Int32.toNatClampNeg (i + 2)))] CC PC PM hdis 0 (LC0 hC) rfl (ct_PJ_runs hC e1) cl_Lw_81 rfl (by decide) (by decide) hl.1 (Nat.le_of_ble_eq_true rfl) dl_618 (fun H lo PC PM => ?_)
  refine pj_aload_n CC dl_621 rfl hl 1 rfl ?_
  refine pj_aload_n CC dl_622 rfl hl 3 rfl ?_
  refine pj_iload_n CC dl_623 rfl hl 0 rfl ?_
  refine pj_iconst (v := 1) CC dl_624 rfl ?_
  refine pj_iadd CC dl_625 ?_
  refine pj_scr CC PC hX hbl hi1 dl_626 ?_
  refine pj_aload_n CC dl_627 rfl hl 3 rfl ?_
  refine pj_iload_n CC dl_628 rfl hl 0 rfl ?_
  refine pj_iconst (v := 2) CC dl_629 rfl ?_
  refine pj_iadd CC dl_630 ?_
  refine pj_scr CC PC hX hbl hi2 dl_631 ?_
  refine pj_cV2 (st := [.int r]) [.int (xs (Int32.toNatClampNeg (i + 1))), .int (xs (Int32.toNatClampNeg (i + 2)))] CM PM PC (fun a1 a2 h1 h2 h3 => hdis a2 a1 h2 h1 h3.symm) 0 (LM0 hMd) rfl (ct_Md_runs hMd e2) cl_Lw_84 rfl (by decide) (by decide) hl.1 (Nat.le_of_ble_eq_true rfl) dl_632 (fun H lo PM PC => ?_)
  refine pj_ic_eq (X := some ()) (Y := none) (r := ()) CC (if_pos rfl) dl_635 (fun _ => ?_) (fun h => by cases h)
  exact kk zC2 zM2 _ _ _ hI2 PC PM hl
set_option maxHeartbeats 4000000 in
theorem law_c16 (I : pj_S → pj_S → Prop) {BC BM : pj_B} {p : Program} {l : Launch} {e : Env} {s : State} {m : MethodId} {below : List Frame} {meth : Method} {c : Code} {b L : Nat} {xs : Nat → Int32} (X : pj_LX I BC BM p l e s m b below meth c L xs) {i : Int32} (hi1 : vp_in (i + 1) L) (hi2 : vp_in (i + 2) L) (hi3 : vp_in (i + 3) L) (hi4 : vp_in (i + 4) L) (hi5 : vp_in (i + 5) L) (kk : ∀ (zC zM : pj_S) (H : Heap) (lo : List Loc) (ls : Array Slot), I zC zM → pj_P BC (fun q => s.heap.size ≤ q) (pj_KL p l e s m b below meth c) zC H lo → pj_P BM (fun q => s.heap.size ≤ q) (pj_KL p l e s m b below meth c) zM H lo → lv_has ls 4 [(3, .int i), (2, .ref (BM.2.1 0)), (1, .ref (BC.2.1 0)), (0, .ref b)] → pj_W (pj_KL p l e s m b below meth c) H lo 926 ls []) (zC zM : pj_S) (H : Heap) (lo : List Loc) (ls : Array Slot) (hI : I zC zM) (PC : pj_P BC (fun q => s.heap.size ≤ q) (pj_KL p l e s m b below meth c) zC H lo) (PM : pj_P BM (fun q => s.heap.size ≤ q) (pj_KL p l e s m b below meth c) zM H lo) (hl : lv_has ls 4 [(3, .int i), (2, .ref (BM.2.1 0)), (1, .ref (BC.2.1 0)), (0, .ref b)]) : pj_W (pj_KL p l e s m b below meth c) H lo 640 ls [] := by
  obtain ⟨hC, hMd, CC, CM, hdis, hX, hbl, hr, hlocks, hL, hs⟩ := X
  refine pj_aload_n CC dl_640 rfl hl 2 rfl ?_
  refine pj_aload_n CC dl_641 rfl hl 3 rfl ?_
  refine pj_iload_n CC dl_642 rfl hl 0 rfl ?_
  refine pj_iconst (v := 1) CC dl_643 rfl ?_
  refine pj_iadd CC dl_644 ?_
  refine pj_scr CC PC hX hbl hi1 dl_645 ?_
  refine pj_aload_n CC dl_646 rfl hl 3 rfl ?_
  refine pj_iload_n CC dl_647 rfl hl 0 rfl ?_
  refine pj_iconst (v := 2) CC dl_648 rfl ?_
  refine pj_iadd CC dl_649 ?_
  refine pj_scr CC PC hX hbl hi2 dl_650 ?_
  obtain ⟨r, zC2, zM2, e1, e2, hI2⟩ := hs.2.2.2.2.2.2.2.2.2.2.2.2.2.2.2.2.1 (xs (Int32.toNatClampNeg (i + 1))) (xs (Int32.toNatClampNeg (i + 2))) zC zM hI
  refine pj_cV2 (st := []) [.int (xs (Int32.toNatClampNeg (i + 1))), .int (xs (Int32.toNatClampNeg (i + 2)))] CC PC PM hdis 0 (LC0 hC) rfl (ct_PJ_save hC e1) cl_Lw_85 rfl (by decide) (by decide) hl.1 (Nat.le_of_ble_eq_true rfl) dl_651 (fun H lo PC PM => ?_)
  refine pj_aload_n CC dl_654 rfl hl 1 rfl ?_
  refine pj_aload_n CC dl_655 rfl hl 3 rfl ?_
  refine pj_iload_n CC dl_656 rfl hl 0 rfl ?_
  refine pj_iconst (v := 1) CC dl_657 rfl ?_
  refine pj_iadd CC dl_658 ?_
  refine pj_scr CC PC hX hbl hi1 dl_659 ?_
  refine pj_aload_n CC dl_660 rfl hl 3 rfl ?_
  refine pj_iload_n CC dl_661 rfl hl 0 rfl ?_
  refine pj_iconst (v := 2) CC dl_662 rfl ?_
  refine pj_iadd CC dl_663 ?_
  refine pj_scr CC PC hX hbl hi2 dl_664 ?_
  refine pj_cV2 (st := [.int r]) [.int (xs (Int32.toNatClampNeg (i + 1))), .int (xs (Int32.toNatClampNeg (i + 2)))] CM PM PC (fun a1 a2 h1 h2 h3 => hdis a2 a1 h2 h1 h3.symm) 0 (LM0 hMd) rfl (ct_Md_save hMd e2) cl_Lw_88 rfl (by decide) (by decide) hl.1 (Nat.le_of_ble_eq_true rfl) dl_665 (fun H lo PM PC => ?_)
  refine pj_ic_eq (X := some ()) (Y := none) (r := ()) CC (if_pos rfl) dl_668 (fun _ => ?_) (fun h => by cases h)
  exact kk zC2 zM2 _ _ _ hI2 PC PM hl
set_option maxHeartbeats 4000000 in
theorem law_c17 (I : pj_S → pj_S → Prop) {BC BM : pj_B} {p : Program} {l : Launch} {e : Env} {s : State} {m : MethodId} {below : List Frame} {meth : Method} {c : Code} {b L : Nat} {xs : Nat → Int32} (X : pj_LX I BC BM p l e s m b below meth c L xs) {i : Int32} (hi1 : vp_in (i + 1) L) (hi2 : vp_in (i + 2) L) (hi3 : vp_in (i + 3) L) (hi4 : vp_in (i + 4) L) (hi5 : vp_in (i + 5) L) (kk : ∀ (zC zM : pj_S) (H : Heap) (lo : List Loc) (ls : Array Slot), I zC zM → pj_P BC (fun q => s.heap.size ≤ q) (pj_KL p l e s m b below meth c) zC H lo → pj_P BM (fun q => s.heap.size ≤ q) (pj_KL p l e s m b below meth c) zM H lo → lv_has ls 4 [(3, .int i), (2, .ref (BM.2.1 0)), (1, .ref (BC.2.1 0)), (0, .ref b)] → pj_W (pj_KL p l e s m b below meth c) H lo 926 ls []) (zC zM : pj_S) (H : Heap) (lo : List Loc) (ls : Array Slot) (hI : I zC zM) (PC : pj_P BC (fun q => s.heap.size ≤ q) (pj_KL p l e s m b below meth c) zC H lo) (PM : pj_P BM (fun q => s.heap.size ≤ q) (pj_KL p l e s m b below meth c) zM H lo) (hl : lv_has ls 4 [(3, .int i), (2, .ref (BM.2.1 0)), (1, .ref (BC.2.1 0)), (0, .ref b)]) : pj_W (pj_KL p l e s m b below meth c) H lo 673 ls [] := by
  obtain ⟨hC, hMd, CC, CM, hdis, hX, hbl, hr, hlocks, hL, hs⟩ := X
  refine pj_aload_n CC dl_673 rfl hl 2 rfl ?_
  refine pj_aload_n CC dl_674 rfl hl 3 rfl ?_
  refine pj_iload_n CC dl_675 rfl hl 0 rfl ?_
  refine pj_iconst (v := 1) CC dl_676 rfl ?_
  refine pj_iadd CC dl_677 ?_
  refine pj_scr CC PC hX hbl hi1 dl_678 ?_
  refine pj_aload_n CC dl_679 rfl hl 3 rfl ?_
  refine pj_iload_n CC dl_680 rfl hl 0 rfl ?_
  refine pj_iconst (v := 2) CC dl_681 rfl ?_
  refine pj_iadd CC dl_682 ?_
  refine pj_scr CC PC hX hbl hi2 dl_683 ?_
  refine pj_aload_n CC dl_684 rfl hl 3 rfl ?_
  refine pj_iload_n CC dl_685 rfl hl 0 rfl ?_
  refine pj_iconst (v := 3) CC dl_686 rfl ?_
  refine pj_iadd CC dl_687 ?_
  refine pj_scr CC PC hX hbl hi3 dl_688 ?_
  obtain ⟨r, zC2, zM2, e1, e2, hI2⟩ := hs.2.2.2.2.2.2.2.2.2.2.2.2.2.2.2.2.2.1 (xs (Int32.toNatClampNeg (i + 1))) (xs (Int32.toNatClampNeg (i + 2))) (xs (Int32.toNatClampNeg (i + 3))) zC zM hI
  refine pj_cV2 (st := []) [.int (xs (Int32.toNatClampNeg (i + 1))), .int (xs (Int32.toNatClampNeg (i + 2))), .int (xs (Int32.toNatClampNeg (i + 3)))] CC PC PM hdis 0 (LC0 hC) rfl (ct_PJ_comes hC e1) cl_Lw_89 rfl (by decide) (by decide) hl.1 (Nat.le_of_ble_eq_true rfl) dl_689 (fun H lo PC PM => ?_)
  refine pj_aload_n CC dl_692 rfl hl 1 rfl ?_
  refine pj_aload_n CC dl_693 rfl hl 3 rfl ?_
  refine pj_iload_n CC dl_694 rfl hl 0 rfl ?_
  refine pj_iconst (v := 1) CC dl_695 rfl ?_
  refine pj_iadd CC dl_696 ?_
  refine pj_scr CC PC hX hbl hi1 dl_697 ?_
  refine pj_aload_n CC dl_698 rfl hl 3 rfl ?_
  refine pj_iload_n CC dl_699 rfl hl 0 rfl ?_
  refine pj_iconst (v := 2) CC dl_700 rfl ?_
  refine pj_iadd CC dl_701 ?_
  refine pj_scr CC PC hX hbl hi2 dl_702 ?_
  refine pj_aload_n CC dl_703 rfl hl 3 rfl ?_
  refine pj_iload_n CC dl_704 rfl hl 0 rfl ?_
  refine pj_iconst (v := 3) CC dl_705 rfl ?_
  refine pj_iadd CC dl_706 ?_
  refine pj_scr CC PC hX hbl hi3 dl_707 ?_
  refine pj_cV2 (st := [.int r]) [.int (xs (Int32.toNatClampNeg (i + 1))), .int (xs (Int32.toNatClampNeg (i + 2))), .int (xs (Int32.toNatClampNeg (i + 3)))] CM PM PC (fun a1 a2 h1 h2 h3 => hdis a2 a1 h2 h1 h3.symm) 0 (LM0 hMd) rfl (ct_Md_comes hMd e2) cl_Lw_92 rfl (by decide) (by decide) hl.1 (Nat.le_of_ble_eq_true rfl) dl_708 (fun H lo PM PC => ?_)
  refine pj_ic_eq (X := some ()) (Y := none) (r := ()) CC (if_pos rfl) dl_711 (fun _ => ?_) (fun h => by cases h)
  exact kk zC2 zM2 _ _ _ hI2 PC PM hl
set_option maxHeartbeats 4000000 in
theorem law_c18 (I : pj_S → pj_S → Prop) {BC BM : pj_B} {p : Program} {l : Launch} {e : Env} {s : State} {m : MethodId} {below : List Frame} {meth : Method} {c : Code} {b L : Nat} {xs : Nat → Int32} (X : pj_LX I BC BM p l e s m b below meth c L xs) {i : Int32} (hi1 : vp_in (i + 1) L) (hi2 : vp_in (i + 2) L) (hi3 : vp_in (i + 3) L) (hi4 : vp_in (i + 4) L) (hi5 : vp_in (i + 5) L) (kk : ∀ (zC zM : pj_S) (H : Heap) (lo : List Loc) (ls : Array Slot), I zC zM → pj_P BC (fun q => s.heap.size ≤ q) (pj_KL p l e s m b below meth c) zC H lo → pj_P BM (fun q => s.heap.size ≤ q) (pj_KL p l e s m b below meth c) zM H lo → lv_has ls 4 [(3, .int i), (2, .ref (BM.2.1 0)), (1, .ref (BC.2.1 0)), (0, .ref b)] → pj_W (pj_KL p l e s m b below meth c) H lo 926 ls []) (zC zM : pj_S) (H : Heap) (lo : List Loc) (ls : Array Slot) (hI : I zC zM) (PC : pj_P BC (fun q => s.heap.size ≤ q) (pj_KL p l e s m b below meth c) zC H lo) (PM : pj_P BM (fun q => s.heap.size ≤ q) (pj_KL p l e s m b below meth c) zM H lo) (hl : lv_has ls 4 [(3, .int i), (2, .ref (BM.2.1 0)), (1, .ref (BC.2.1 0)), (0, .ref b)]) : pj_W (pj_KL p l e s m b below meth c) H lo 716 ls [] := by
  obtain ⟨hC, hMd, CC, CM, hdis, hX, hbl, hr, hlocks, hL, hs⟩ := X
  refine pj_aload_n CC dl_716 rfl hl 2 rfl ?_
  refine pj_aload_n CC dl_717 rfl hl 3 rfl ?_
  refine pj_iload_n CC dl_718 rfl hl 0 rfl ?_
  refine pj_iconst (v := 1) CC dl_719 rfl ?_
  refine pj_iadd CC dl_720 ?_
  refine pj_scr CC PC hX hbl hi1 dl_721 ?_
  obtain ⟨r, zC2, zM2, e1, e2, hI2⟩ := hs.2.2.2.2.2.2.2.2.2.2.2.2.2.2.2.2.2.2.1 (xs (Int32.toNatClampNeg (i + 1))) zC zM hI
  refine pj_cV2 (st := []) [.int (xs (Int32.toNatClampNeg (i + 1)))] CC PC PM hdis 0 (LC0 hC) rfl (ct_PJ_all hC e1) cl_Lw_93 rfl (by decide) (by decide) hl.1 (Nat.le_of_ble_eq_true rfl) dl_722 (fun H lo PC PM => ?_)
  refine pj_aload_n CC dl_725 rfl hl 1 rfl ?_
  refine pj_aload_n CC dl_726 rfl hl 3 rfl ?_
  refine pj_iload_n CC dl_727 rfl hl 0 rfl ?_
  refine pj_iconst (v := 1) CC dl_728 rfl ?_
  refine pj_iadd CC dl_729 ?_
  refine pj_scr CC PC hX hbl hi1 dl_730 ?_
  refine pj_cV2 (st := [.int r]) [.int (xs (Int32.toNatClampNeg (i + 1)))] CM PM PC (fun a1 a2 h1 h2 h3 => hdis a2 a1 h2 h1 h3.symm) 0 (LM0 hMd) rfl (ct_Md_all hMd e2) cl_Lw_96 rfl (by decide) (by decide) hl.1 (Nat.le_of_ble_eq_true rfl) dl_731 (fun H lo PM PC => ?_)
  refine pj_ic_eq (X := some ()) (Y := none) (r := ()) CC (if_pos rfl) dl_734 (fun _ => ?_) (fun h => by cases h)
  exact kk zC2 zM2 _ _ _ hI2 PC PM hl
set_option maxHeartbeats 4000000 in
theorem law_c19 (I : pj_S → pj_S → Prop) {BC BM : pj_B} {p : Program} {l : Launch} {e : Env} {s : State} {m : MethodId} {below : List Frame} {meth : Method} {c : Code} {b L : Nat} {xs : Nat → Int32} (X : pj_LX I BC BM p l e s m b below meth c L xs) {i : Int32} (hi1 : vp_in (i + 1) L) (hi2 : vp_in (i + 2) L) (hi3 : vp_in (i + 3) L) (hi4 : vp_in (i + 4) L) (hi5 : vp_in (i + 5) L) (kk : ∀ (zC zM : pj_S) (H : Heap) (lo : List Loc) (ls : Array Slot), I zC zM → pj_P BC (fun q => s.heap.size ≤ q) (pj_KL p l e s m b below meth c) zC H lo → pj_P BM (fun q => s.heap.size ≤ q) (pj_KL p l e s m b below meth c) zM H lo → lv_has ls 4 [(3, .int i), (2, .ref (BM.2.1 0)), (1, .ref (BC.2.1 0)), (0, .ref b)] → pj_W (pj_KL p l e s m b below meth c) H lo 926 ls []) (zC zM : pj_S) (H : Heap) (lo : List Loc) (ls : Array Slot) (hI : I zC zM) (PC : pj_P BC (fun q => s.heap.size ≤ q) (pj_KL p l e s m b below meth c) zC H lo) (PM : pj_P BM (fun q => s.heap.size ≤ q) (pj_KL p l e s m b below meth c) zM H lo) (hl : lv_has ls 4 [(3, .int i), (2, .ref (BM.2.1 0)), (1, .ref (BC.2.1 0)), (0, .ref b)]) : pj_W (pj_KL p l e s m b below meth c) H lo 739 ls [] := by
  obtain ⟨hC, hMd, CC, CM, hdis, hX, hbl, hr, hlocks, hL, hs⟩ := X
  refine pj_aload_n CC dl_739 rfl hl 2 rfl ?_
  refine pj_aload_n CC dl_740 rfl hl 3 rfl ?_
  refine pj_iload_n CC dl_741 rfl hl 0 rfl ?_
  refine pj_iconst (v := 1) CC dl_742 rfl ?_
  refine pj_iadd CC dl_743 ?_
  refine pj_scr CC PC hX hbl hi1 dl_744 ?_
  refine pj_aload_n CC dl_745 rfl hl 3 rfl ?_
  refine pj_iload_n CC dl_746 rfl hl 0 rfl ?_
  refine pj_iconst (v := 2) CC dl_747 rfl ?_
  refine pj_iadd CC dl_748 ?_
  refine pj_scr CC PC hX hbl hi2 dl_749 ?_
  refine pj_aload_n CC dl_750 rfl hl 3 rfl ?_
  refine pj_iload_n CC dl_751 rfl hl 0 rfl ?_
  refine pj_iconst (v := 3) CC dl_752 rfl ?_
  refine pj_iadd CC dl_753 ?_
  refine pj_scr CC PC hX hbl hi3 dl_754 ?_
  refine pj_aload_n CC dl_755 rfl hl 3 rfl ?_
  refine pj_iload_n CC dl_756 rfl hl 0 rfl ?_
  refine pj_iconst (v := 4) CC dl_757 rfl ?_
  refine pj_iadd CC dl_758 ?_
  refine pj_scr CC PC hX hbl hi4 dl_759 ?_
  obtain ⟨r, zC2, zM2, e1, e2, hI2⟩ := hs.2.2.2.2.2.2.2.2.2.2.2.2.2.2.2.2.2.2.2.1 (xs (Int32.toNatClampNeg (i + 1))) (xs (Int32.toNatClampNeg (i + 2))) (xs (Int32.toNatClampNeg (i + 3))) (xs (Int32.toNatClampNeg (i + 4))) zC zM hI
  refine pj_cV2 (st := []) [.int (xs (Int32.toNatClampNeg (i + 1))), .int (xs (Int32.toNatClampNeg (i + 2))), .int (xs (Int32.toNatClampNeg (i + 3))), .int (xs (Int32.toNatClampNeg (i + 4)))] CC PC PM hdis 0 (LC0 hC) rfl (ct_PJ_part hC e1) cl_Lw_97 rfl (by decide) (by decide) hl.1 (Nat.le_of_ble_eq_true rfl) dl_760 (fun H lo PC PM => ?_)
  refine pj_aload_n CC dl_763 rfl hl 1 rfl ?_
  refine pj_aload_n CC dl_764 rfl hl 3 rfl ?_
  refine pj_iload_n CC dl_765 rfl hl 0 rfl ?_
  refine pj_iconst (v := 1) CC dl_766 rfl ?_
  refine pj_iadd CC dl_767 ?_
  refine pj_scr CC PC hX hbl hi1 dl_768 ?_
  refine pj_aload_n CC dl_769 rfl hl 3 rfl ?_
  refine pj_iload_n CC dl_770 rfl hl 0 rfl ?_
  refine pj_iconst (v := 2) CC dl_771 rfl ?_
  refine pj_iadd CC dl_772 ?_
  refine pj_scr CC PC hX hbl hi2 dl_773 ?_
  refine pj_aload_n CC dl_774 rfl hl 3 rfl ?_
  refine pj_iload_n CC dl_775 rfl hl 0 rfl ?_
  refine pj_iconst (v := 3) CC dl_776 rfl ?_
  refine pj_iadd CC dl_777 ?_
  refine pj_scr CC PC hX hbl hi3 dl_778 ?_
  refine pj_aload_n CC dl_779 rfl hl 3 rfl ?_
  refine pj_iload_n CC dl_780 rfl hl 0 rfl ?_
  refine pj_iconst (v := 4) CC dl_781 rfl ?_
  refine pj_iadd CC dl_782 ?_
  refine pj_scr CC PC hX hbl hi4 dl_783 ?_
  refine pj_cV2 (st := [.int r]) [.int (xs (Int32.toNatClampNeg (i + 1))), .int (xs (Int32.toNatClampNeg (i + 2))), .int (xs (Int32.toNatClampNeg (i + 3))), .int (xs (Int32.toNatClampNeg (i + 4)))] CM PM PC (fun a1 a2 h1 h2 h3 => hdis a2 a1 h2 h1 h3.symm) 0 (LM0 hMd) rfl (ct_Md_part hMd e2) cl_Lw_101 rfl (by decide) (by decide) hl.1 (Nat.le_of_ble_eq_true rfl) dl_784 (fun H lo PM PC => ?_)
  refine pj_ic_eq (X := some ()) (Y := none) (r := ()) CC (if_pos rfl) dl_787 (fun _ => ?_) (fun h => by cases h)
  exact kk zC2 zM2 _ _ _ hI2 PC PM hl
set_option maxHeartbeats 4000000 in
theorem law_c20 (I : pj_S → pj_S → Prop) {BC BM : pj_B} {p : Program} {l : Launch} {e : Env} {s : State} {m : MethodId} {below : List Frame} {meth : Method} {c : Code} {b L : Nat} {xs : Nat → Int32} (X : pj_LX I BC BM p l e s m b below meth c L xs) {i : Int32} (hi1 : vp_in (i + 1) L) (hi2 : vp_in (i + 2) L) (hi3 : vp_in (i + 3) L) (hi4 : vp_in (i + 4) L) (hi5 : vp_in (i + 5) L) (kk : ∀ (zC zM : pj_S) (H : Heap) (lo : List Loc) (ls : Array Slot), I zC zM → pj_P BC (fun q => s.heap.size ≤ q) (pj_KL p l e s m b below meth c) zC H lo → pj_P BM (fun q => s.heap.size ≤ q) (pj_KL p l e s m b below meth c) zM H lo → lv_has ls 4 [(3, .int i), (2, .ref (BM.2.1 0)), (1, .ref (BC.2.1 0)), (0, .ref b)] → pj_W (pj_KL p l e s m b below meth c) H lo 926 ls []) (zC zM : pj_S) (H : Heap) (lo : List Loc) (ls : Array Slot) (hI : I zC zM) (PC : pj_P BC (fun q => s.heap.size ≤ q) (pj_KL p l e s m b below meth c) zC H lo) (PM : pj_P BM (fun q => s.heap.size ≤ q) (pj_KL p l e s m b below meth c) zM H lo) (hl : lv_has ls 4 [(3, .int i), (2, .ref (BM.2.1 0)), (1, .ref (BC.2.1 0)), (0, .ref b)]) : pj_W (pj_KL p l e s m b below meth c) H lo 792 ls [] := by
  obtain ⟨hC, hMd, CC, CM, hdis, hX, hbl, hr, hlocks, hL, hs⟩ := X
  refine pj_aload_n CC dl_792 rfl hl 2 rfl ?_
  refine pj_aload_n CC dl_793 rfl hl 3 rfl ?_
  refine pj_iload_n CC dl_794 rfl hl 0 rfl ?_
  refine pj_iconst (v := 1) CC dl_795 rfl ?_
  refine pj_iadd CC dl_796 ?_
  refine pj_scr CC PC hX hbl hi1 dl_797 ?_
  obtain ⟨r, zC2, zM2, e1, e2, hI2⟩ := hs.2.2.2.2.2.2.2.2.2.2.2.2.2.2.2.2.2.2.2.2.1 (xs (Int32.toNatClampNeg (i + 1))) zC zM hI
  refine pj_cV2 (st := []) [.int (xs (Int32.toNatClampNeg (i + 1)))] CC PC PM hdis 0 (LC0 hC) rfl (ct_PJ_join hC e1) cl_Lw_102 rfl (by decide) (by decide) hl.1 (Nat.le_of_ble_eq_true rfl) dl_798 (fun H lo PC PM => ?_)
  refine pj_aload_n CC dl_801 rfl hl 1 rfl ?_
  refine pj_aload_n CC dl_802 rfl hl 3 rfl ?_
  refine pj_iload_n CC dl_803 rfl hl 0 rfl ?_
  refine pj_iconst (v := 1) CC dl_804 rfl ?_
  refine pj_iadd CC dl_805 ?_
  refine pj_scr CC PC hX hbl hi1 dl_806 ?_
  refine pj_cV2 (st := [.int r]) [.int (xs (Int32.toNatClampNeg (i + 1)))] CM PM PC (fun a1 a2 h1 h2 h3 => hdis a2 a1 h2 h1 h3.symm) 0 (LM0 hMd) rfl (ct_Md_join hMd e2) cl_Lw_105 rfl (by decide) (by decide) hl.1 (Nat.le_of_ble_eq_true rfl) dl_807 (fun H lo PM PC => ?_)
  refine pj_ic_eq (X := some ()) (Y := none) (r := ()) CC (if_pos rfl) dl_810 (fun _ => ?_) (fun h => by cases h)
  exact kk zC2 zM2 _ _ _ hI2 PC PM hl
set_option maxHeartbeats 4000000 in
theorem law_c21 (I : pj_S → pj_S → Prop) {BC BM : pj_B} {p : Program} {l : Launch} {e : Env} {s : State} {m : MethodId} {below : List Frame} {meth : Method} {c : Code} {b L : Nat} {xs : Nat → Int32} (X : pj_LX I BC BM p l e s m b below meth c L xs) {i : Int32} (hi1 : vp_in (i + 1) L) (hi2 : vp_in (i + 2) L) (hi3 : vp_in (i + 3) L) (hi4 : vp_in (i + 4) L) (hi5 : vp_in (i + 5) L) (kk : ∀ (zC zM : pj_S) (H : Heap) (lo : List Loc) (ls : Array Slot), I zC zM → pj_P BC (fun q => s.heap.size ≤ q) (pj_KL p l e s m b below meth c) zC H lo → pj_P BM (fun q => s.heap.size ≤ q) (pj_KL p l e s m b below meth c) zM H lo → lv_has ls 4 [(3, .int i), (2, .ref (BM.2.1 0)), (1, .ref (BC.2.1 0)), (0, .ref b)] → pj_W (pj_KL p l e s m b below meth c) H lo 926 ls []) (zC zM : pj_S) (H : Heap) (lo : List Loc) (ls : Array Slot) (hI : I zC zM) (PC : pj_P BC (fun q => s.heap.size ≤ q) (pj_KL p l e s m b below meth c) zC H lo) (PM : pj_P BM (fun q => s.heap.size ≤ q) (pj_KL p l e s m b below meth c) zM H lo) (hl : lv_has ls 4 [(3, .int i), (2, .ref (BM.2.1 0)), (1, .ref (BC.2.1 0)), (0, .ref b)]) : pj_W (pj_KL p l e s m b below meth c) H lo 815 ls [] := by
  obtain ⟨hC, hMd, CC, CM, hdis, hX, hbl, hr, hlocks, hL, hs⟩ := X
  refine pj_aload_n CC dl_815 rfl hl 2 rfl ?_
  obtain ⟨r, zC2, zM2, e1, e2, hI2⟩ := hs.2.2.2.2.2.2.2.2.2.2.2.2.2.2.2.2.2.2.2.2.2.1 zC zM hI
  refine pj_cV2 (st := []) [] CC PC PM hdis 0 (LC0 hC) rfl (ct_PJ_quiet hC e1) cl_Lw_106 rfl (by decide) (by decide) hl.1 (Nat.le_of_ble_eq_true rfl) dl_816 (fun H lo PC PM => ?_)
  refine pj_aload_n CC dl_819 rfl hl 1 rfl ?_
  refine pj_cV2 (st := [.int r]) [] CM PM PC (fun a1 a2 h1 h2 h3 => hdis a2 a1 h2 h1 h3.symm) 0 (LM0 hMd) rfl (ct_Md_quiet hMd e2) cl_Lw_109 rfl (by decide) (by decide) hl.1 (Nat.le_of_ble_eq_true rfl) dl_820 (fun H lo PM PC => ?_)
  refine pj_ic_eq (X := some ()) (Y := none) (r := ()) CC (if_pos rfl) dl_823 (fun _ => ?_) (fun h => by cases h)
  exact kk zC2 zM2 _ _ _ hI2 PC PM hl
set_option maxHeartbeats 4000000 in
theorem law_c22 (I : pj_S → pj_S → Prop) {BC BM : pj_B} {p : Program} {l : Launch} {e : Env} {s : State} {m : MethodId} {below : List Frame} {meth : Method} {c : Code} {b L : Nat} {xs : Nat → Int32} (X : pj_LX I BC BM p l e s m b below meth c L xs) {i : Int32} (hi1 : vp_in (i + 1) L) (hi2 : vp_in (i + 2) L) (hi3 : vp_in (i + 3) L) (hi4 : vp_in (i + 4) L) (hi5 : vp_in (i + 5) L) (kk : ∀ (zC zM : pj_S) (H : Heap) (lo : List Loc) (ls : Array Slot), I zC zM → pj_P BC (fun q => s.heap.size ≤ q) (pj_KL p l e s m b below meth c) zC H lo → pj_P BM (fun q => s.heap.size ≤ q) (pj_KL p l e s m b below meth c) zM H lo → lv_has ls 4 [(3, .int i), (2, .ref (BM.2.1 0)), (1, .ref (BC.2.1 0)), (0, .ref b)] → pj_W (pj_KL p l e s m b below meth c) H lo 926 ls []) (zC zM : pj_S) (H : Heap) (lo : List Loc) (ls : Array Slot) (hI : I zC zM) (PC : pj_P BC (fun q => s.heap.size ≤ q) (pj_KL p l e s m b below meth c) zC H lo) (PM : pj_P BM (fun q => s.heap.size ≤ q) (pj_KL p l e s m b below meth c) zM H lo) (hl : lv_has ls 4 [(3, .int i), (2, .ref (BM.2.1 0)), (1, .ref (BC.2.1 0)), (0, .ref b)]) : pj_W (pj_KL p l e s m b below meth c) H lo 828 ls [] := by
  obtain ⟨hC, hMd, CC, CM, hdis, hX, hbl, hr, hlocks, hL, hs⟩ := X
  refine pj_aload_n CC dl_828 rfl hl 2 rfl ?_
  refine pj_aload_n CC dl_829 rfl hl 3 rfl ?_
  refine pj_iload_n CC dl_830 rfl hl 0 rfl ?_
  refine pj_iconst (v := 1) CC dl_831 rfl ?_
  refine pj_iadd CC dl_832 ?_
  refine pj_scr CC PC hX hbl hi1 dl_833 ?_
  obtain ⟨r, zC2, zM2, e1, e2, hI2⟩ := hs.2.2.2.2.2.2.2.2.2.2.2.2.2.2.2.2.2.2.2.2.2.2.1 (xs (Int32.toNatClampNeg (i + 1))) zC zM hI
  refine pj_cV2 (st := []) [.int (xs (Int32.toNatClampNeg (i + 1)))] CC PC PM hdis 0 (LC0 hC) rfl (ct_PJ_first hC e1) cl_Lw_110 rfl (by decide) (by decide) hl.1 (Nat.le_of_ble_eq_true rfl) dl_834 (fun H lo PC PM => ?_)
  refine pj_aload_n CC dl_837 rfl hl 1 rfl ?_
  refine pj_aload_n CC dl_838 rfl hl 3 rfl ?_
  refine pj_iload_n CC dl_839 rfl hl 0 rfl ?_
  refine pj_iconst (v := 1) CC dl_840 rfl ?_
  refine pj_iadd CC dl_841 ?_
  refine pj_scr CC PC hX hbl hi1 dl_842 ?_
  refine pj_cV2 (st := [.int r]) [.int (xs (Int32.toNatClampNeg (i + 1)))] CM PM PC (fun a1 a2 h1 h2 h3 => hdis a2 a1 h2 h1 h3.symm) 0 (LM0 hMd) rfl (ct_Md_first hMd e2) cl_Lw_113 rfl (by decide) (by decide) hl.1 (Nat.le_of_ble_eq_true rfl) dl_843 (fun H lo PM PC => ?_)
  refine pj_ic_eq (X := some ()) (Y := none) (r := ()) CC (if_pos rfl) dl_846 (fun _ => ?_) (fun h => by cases h)
  exact kk zC2 zM2 _ _ _ hI2 PC PM hl
set_option maxHeartbeats 4000000 in
theorem law_c23 (I : pj_S → pj_S → Prop) {BC BM : pj_B} {p : Program} {l : Launch} {e : Env} {s : State} {m : MethodId} {below : List Frame} {meth : Method} {c : Code} {b L : Nat} {xs : Nat → Int32} (X : pj_LX I BC BM p l e s m b below meth c L xs) {i : Int32} (hi1 : vp_in (i + 1) L) (hi2 : vp_in (i + 2) L) (hi3 : vp_in (i + 3) L) (hi4 : vp_in (i + 4) L) (hi5 : vp_in (i + 5) L) (kk : ∀ (zC zM : pj_S) (H : Heap) (lo : List Loc) (ls : Array Slot), I zC zM → pj_P BC (fun q => s.heap.size ≤ q) (pj_KL p l e s m b below meth c) zC H lo → pj_P BM (fun q => s.heap.size ≤ q) (pj_KL p l e s m b below meth c) zM H lo → lv_has ls 4 [(3, .int i), (2, .ref (BM.2.1 0)), (1, .ref (BC.2.1 0)), (0, .ref b)] → pj_W (pj_KL p l e s m b below meth c) H lo 926 ls []) (zC zM : pj_S) (H : Heap) (lo : List Loc) (ls : Array Slot) (hI : I zC zM) (PC : pj_P BC (fun q => s.heap.size ≤ q) (pj_KL p l e s m b below meth c) zC H lo) (PM : pj_P BM (fun q => s.heap.size ≤ q) (pj_KL p l e s m b below meth c) zM H lo) (hl : lv_has ls 4 [(3, .int i), (2, .ref (BM.2.1 0)), (1, .ref (BC.2.1 0)), (0, .ref b)]) : pj_W (pj_KL p l e s m b below meth c) H lo 851 ls [] := by
  obtain ⟨hC, hMd, CC, CM, hdis, hX, hbl, hr, hlocks, hL, hs⟩ := X
  refine pj_aload_n CC dl_851 rfl hl 2 rfl ?_
  obtain ⟨r, zC2, zM2, e1, e2, hI2⟩ := hs.2.2.2.2.2.2.2.2.2.2.2.2.2.2.2.2.2.2.2.2.2.2.2.1 zC zM hI
  refine pj_cV2 (st := []) [] CC PC PM hdis 0 (LC0 hC) rfl (ct_PJ_undo hC e1) cl_Lw_114 rfl (by decide) (by decide) hl.1 (Nat.le_of_ble_eq_true rfl) dl_852 (fun H lo PC PM => ?_)
  refine pj_aload_n CC dl_855 rfl hl 1 rfl ?_
  refine pj_cV2 (st := [.int r]) [] CM PM PC (fun a1 a2 h1 h2 h3 => hdis a2 a1 h2 h1 h3.symm) 0 (LM0 hMd) rfl (ct_Md_undo hMd e2) cl_Lw_118 rfl (by decide) (by decide) hl.1 (Nat.le_of_ble_eq_true rfl) dl_856 (fun H lo PM PC => ?_)
  refine pj_ic_eq (X := some ()) (Y := none) (r := ()) CC (if_pos rfl) dl_859 (fun _ => ?_) (fun h => by cases h)
  exact kk zC2 zM2 _ _ _ hI2 PC PM hl
set_option maxHeartbeats 4000000 in
theorem law_c24 (I : pj_S → pj_S → Prop) {BC BM : pj_B} {p : Program} {l : Launch} {e : Env} {s : State} {m : MethodId} {below : List Frame} {meth : Method} {c : Code} {b L : Nat} {xs : Nat → Int32} (X : pj_LX I BC BM p l e s m b below meth c L xs) {i : Int32} (hi1 : vp_in (i + 1) L) (hi2 : vp_in (i + 2) L) (hi3 : vp_in (i + 3) L) (hi4 : vp_in (i + 4) L) (hi5 : vp_in (i + 5) L) (kk : ∀ (zC zM : pj_S) (H : Heap) (lo : List Loc) (ls : Array Slot), I zC zM → pj_P BC (fun q => s.heap.size ≤ q) (pj_KL p l e s m b below meth c) zC H lo → pj_P BM (fun q => s.heap.size ≤ q) (pj_KL p l e s m b below meth c) zM H lo → lv_has ls 4 [(3, .int i), (2, .ref (BM.2.1 0)), (1, .ref (BC.2.1 0)), (0, .ref b)] → pj_W (pj_KL p l e s m b below meth c) H lo 926 ls []) (zC zM : pj_S) (H : Heap) (lo : List Loc) (ls : Array Slot) (hI : I zC zM) (PC : pj_P BC (fun q => s.heap.size ≤ q) (pj_KL p l e s m b below meth c) zC H lo) (PM : pj_P BM (fun q => s.heap.size ≤ q) (pj_KL p l e s m b below meth c) zM H lo) (hl : lv_has ls 4 [(3, .int i), (2, .ref (BM.2.1 0)), (1, .ref (BC.2.1 0)), (0, .ref b)]) : pj_W (pj_KL p l e s m b below meth c) H lo 864 ls [] := by
  obtain ⟨hC, hMd, CC, CM, hdis, hX, hbl, hr, hlocks, hL, hs⟩ := X
  by_cases hz : xs (Int32.toNatClampNeg (i + 1)) = 0
  · refine pj_aload_n CC dl_864 rfl hl 2 rfl ?_
    refine pj_aload_n CC dl_865 rfl hl 3 rfl ?_
    refine pj_iload_n CC dl_866 rfl hl 0 rfl ?_
    refine pj_iconst (v := 1) CC dl_867 rfl ?_
    refine pj_iadd CC dl_868 ?_
    refine pj_scr CC PC hX hbl hi1 dl_869 ?_
    refine pj_if_eq (X := some ()) (Y := none) (r := ()) CC (if_pos hz) dl_870 (fun _ => ?_) (fun h => by cases h)
    refine pj_iconst (v := 0) CC dl_877 rfl ?_
    obtain ⟨r, zC2, zM2, e1, e2, hI2⟩ := hs.2.2.2.2.2.2.2.2.2.2.2.2.2.2.2.2.2.2.2.2.2.2.2.2.1 0 (by decide) zC zM hI
    refine pj_cV2 (st := []) [.int 0] CC PC PM hdis 0 (LC0 hC) rfl (ct_PJ_image hC e1) cl_Lw_119 rfl (by decide) (by decide) hl.1 (Nat.le_of_ble_eq_true rfl) dl_878 (fun H lo PC PM => ?_)
    refine pj_aload_n CC dl_881 rfl hl 1 rfl ?_
    refine pj_aload_n CC dl_882 rfl hl 3 rfl ?_
    refine pj_iload_n CC dl_883 rfl hl 0 rfl ?_
    refine pj_iconst (v := 1) CC dl_884 rfl ?_
    refine pj_iadd CC dl_885 ?_
    refine pj_scr CC PC hX hbl hi1 dl_886 ?_
    refine pj_if_eq (X := some ()) (Y := none) (r := ()) CC (if_pos hz) dl_887 (fun _ => ?_) (fun h => by cases h)
    refine pj_iconst (v := 0) CC dl_894 rfl ?_
    refine pj_cV2 (st := [.int r]) [.int 0] CM PM PC (fun a1 a2 h1 h2 h3 => hdis a2 a1 h2 h1 h3.symm) 0 (LM0 hMd) rfl (ct_Md_image hMd e2) cl_Lw_123 rfl (by decide) (by decide) hl.1 (Nat.le_of_ble_eq_true rfl) dl_895 (fun H lo PM PC => ?_)
    refine pj_ic_eq (X := some ()) (Y := none) (r := ()) CC (if_pos rfl) dl_898 (fun _ => ?_) (fun h => by cases h)
    exact kk zC2 zM2 _ _ _ hI2 PC PM hl
  · refine pj_aload_n CC dl_864 rfl hl 2 rfl ?_
    refine pj_aload_n CC dl_865 rfl hl 3 rfl ?_
    refine pj_iload_n CC dl_866 rfl hl 0 rfl ?_
    refine pj_iconst (v := 1) CC dl_867 rfl ?_
    refine pj_iadd CC dl_868 ?_
    refine pj_scr CC PC hX hbl hi1 dl_869 ?_
    refine pj_if_eq (X := none) (Y := some ()) (r := ()) CC (if_neg hz) dl_870 (fun h => by cases h) (fun _ => ?_)
    refine pj_iconst (v := 1) CC dl_873 rfl ?_
    refine pj_goto CC dl_874 ?_
    obtain ⟨r, zC2, zM2, e1, e2, hI2⟩ := hs.2.2.2.2.2.2.2.2.2.2.2.2.2.2.2.2.2.2.2.2.2.2.2.2.1 1 (by decide) zC zM hI
    refine pj_cV2 (st := []) [.int 1] CC PC PM hdis 0 (LC0 hC) rfl (ct_PJ_image hC e1) cl_Lw_119 rfl (by decide) (by decide) hl.1 (Nat.le_of_ble_eq_true rfl) dl_878 (fun H lo PC PM => ?_)
    refine pj_aload_n CC dl_881 rfl hl 1 rfl ?_
    refine pj_aload_n CC dl_882 rfl hl 3 rfl ?_
    refine pj_iload_n CC dl_883 rfl hl 0 rfl ?_
    refine pj_iconst (v := 1) CC dl_884 rfl ?_
    refine pj_iadd CC dl_885 ?_
    refine pj_scr CC PC hX hbl hi1 dl_886 ?_
    refine pj_if_eq (X := none) (Y := some ()) (r := ()) CC (if_neg hz) dl_887 (fun h => by cases h) (fun _ => ?_)
    refine pj_iconst (v := 1) CC dl_890 rfl ?_
    refine pj_goto CC dl_891 ?_
    refine pj_cV2 (st := [.int r]) [.int 1] CM PM PC (fun a1 a2 h1 h2 h3 => hdis a2 a1 h2 h1 h3.symm) 0 (LM0 hMd) rfl (ct_Md_image hMd e2) cl_Lw_123 rfl (by decide) (by decide) hl.1 (Nat.le_of_ble_eq_true rfl) dl_895 (fun H lo PM PC => ?_)
    refine pj_ic_eq (X := some ()) (Y := none) (r := ()) CC (if_pos rfl) dl_898 (fun _ => ?_) (fun h => by cases h)
    exact kk zC2 zM2 _ _ _ hI2 PC PM hl
set_option maxHeartbeats 4000000 in
theorem law_c25 (I : pj_S → pj_S → Prop) {BC BM : pj_B} {p : Program} {l : Launch} {e : Env} {s : State} {m : MethodId} {below : List Frame} {meth : Method} {c : Code} {b L : Nat} {xs : Nat → Int32} (X : pj_LX I BC BM p l e s m b below meth c L xs) {i : Int32} (hi1 : vp_in (i + 1) L) (hi2 : vp_in (i + 2) L) (hi3 : vp_in (i + 3) L) (hi4 : vp_in (i + 4) L) (hi5 : vp_in (i + 5) L) (kk : ∀ (zC zM : pj_S) (H : Heap) (lo : List Loc) (ls : Array Slot), I zC zM → pj_P BC (fun q => s.heap.size ≤ q) (pj_KL p l e s m b below meth c) zC H lo → pj_P BM (fun q => s.heap.size ≤ q) (pj_KL p l e s m b below meth c) zM H lo → lv_has ls 4 [(3, .int i), (2, .ref (BM.2.1 0)), (1, .ref (BC.2.1 0)), (0, .ref b)] → pj_W (pj_KL p l e s m b below meth c) H lo 926 ls []) (zC zM : pj_S) (H : Heap) (lo : List Loc) (ls : Array Slot) (hI : I zC zM) (PC : pj_P BC (fun q => s.heap.size ≤ q) (pj_KL p l e s m b below meth c) zC H lo) (PM : pj_P BM (fun q => s.heap.size ≤ q) (pj_KL p l e s m b below meth c) zM H lo) (hl : lv_has ls 4 [(3, .int i), (2, .ref (BM.2.1 0)), (1, .ref (BC.2.1 0)), (0, .ref b)]) : pj_W (pj_KL p l e s m b below meth c) H lo 903 ls [] := by
  obtain ⟨hC, hMd, CC, CM, hdis, hX, hbl, hr, hlocks, hL, hs⟩ := X
  refine pj_aload_n CC dl_903 rfl hl 2 rfl ?_
  refine pj_aload_n CC dl_904 rfl hl 3 rfl ?_
  refine pj_iload_n CC dl_905 rfl hl 0 rfl ?_
  refine pj_iconst (v := 1) CC dl_906 rfl ?_
  refine pj_iadd CC dl_907 ?_
  refine pj_scr CC PC hX hbl hi1 dl_908 ?_
  obtain ⟨r, zC2, zM2, e1, e2, hI2⟩ := hs.2.2.2.2.2.2.2.2.2.2.2.2.2.2.2.2.2.2.2.2.2.2.2.2.2 (xs (Int32.toNatClampNeg (i + 1))) zC zM hI
  refine pj_cV2 (st := []) [.int (xs (Int32.toNatClampNeg (i + 1)))] CC PC PM hdis 0 (LC0 hC) rfl (ct_PJ_look hC e1) cl_Lw_124 rfl (by decide) (by decide) hl.1 (Nat.le_of_ble_eq_true rfl) dl_909 (fun H lo PC PM => ?_)
  refine pj_aload_n CC dl_912 rfl hl 1 rfl ?_
  refine pj_aload_n CC dl_913 rfl hl 3 rfl ?_
  refine pj_iload_n CC dl_914 rfl hl 0 rfl ?_
  refine pj_iconst (v := 1) CC dl_915 rfl ?_
  refine pj_iadd CC dl_916 ?_
  refine pj_scr CC PC hX hbl hi1 dl_917 ?_
  refine pj_cV2 (st := [.int r]) [.int (xs (Int32.toNatClampNeg (i + 1)))] CM PM PC (fun a1 a2 h1 h2 h3 => hdis a2 a1 h2 h1 h3.symm) 0 (LM0 hMd) rfl (ct_Md_look hMd e2) cl_Lw_127 rfl (by decide) (by decide) hl.1 (Nat.le_of_ble_eq_true rfl) dl_918 (fun H lo PM PC => ?_)
  refine pj_ic_eq (X := some ()) (Y := none) (r := ()) CC (if_pos rfl) dl_921 (fun _ => ?_) (fun h => by cases h)
  exact kk zC2 zM2 _ _ _ hI2 PC PM hl
