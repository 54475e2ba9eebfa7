/- BalanceCoderModel.parse()I -/
abbrev b_13_38 : ByteArray := prog_13_method_38_code
def y_13_38 : MethodName := ⟨"BalanceCoderModel", "parse", "()I"⟩
abbrev x13_38 (C : qCx) (G : jG) : Prop := n_ctx C b_13_38 4 "BalanceCoderModel" G.1 G.2.1
def M13_38 (l : Launch) (mc ms : Nat) (p : Int → jS → jH → Prop) (q : Int → jS → jH → Int → jS → jH → Prop) : Prop := j_Met l vwCl n_TL n_NW n_KT y_13_38 (Cond.code y_13_38 b_13_38 4 (some .int) :: n_GW) { frames := 3, cells := mc, slots := ms, locals := 78 } mc ms (fun a S V => ∃ u0 : Int, a = [(2, u0)] ∧ S.1 u0 = 33 ∧ p u0 S V) (fun a S V rs S' V' => ∃ u0 r : Int, a = [(2, u0)] ∧ rs = [(0, r)] ∧ q u0 S V r S' V')
theorem e13_38 {l : Launch} {mc ms : Nat} {p : Int → jS → jH → Prop} {q : Int → jS → jH → Int → jS → jH → Prop} (body : ∀ (C : qCx) (G : jG), x13_38 C G → C.2.2.2.1.frames = 3 ∧ C.2.2.2.1.locals = 78 → C.2.2.2.1.cells = mc ∧ C.2.2.2.1.slots = ms → C.2.1 = l → C.2.2.2.2.2.2.2.2.1.name = "parse" → ∀ (u0 : Int) (S : jS) (V : jH), S.1 u0 = 33 → p u0 S V → j_Ri n_KT 4 C G b_13_38 mc ms (q u0 S V) → j_ok n_KT 4 C G 0 [(0, (2, u0))] [] S V 0 0) : M13_38 l mc ms p q := by
  refine j_method (ws' := n_GW) (by decide) rfl ?_ ?_
  · rintro a S V ⟨u0, rfl, -⟩
    exact Nat.le_of_ble_eq_true rfl
  · rintro C G htl hl hrm hm hml ho hts hnm hE a S V ⟨u0, rfl, ht, hp⟩ R
    exact body C G ⟨htl, hm, hml, ho, fun w hw => hts w (List.mem_cons_of_mem _ hw), hE⟩ (by rw [hrm]; exact ⟨rfl, rfl⟩) (by rw [hrm]; exact ⟨rfl, rfl⟩) hl hnm u0 S V ht hp (fun pc lo r S' V' nc ns d q hc hs => R.2.1 rfl pc lo r S' V' nc ns d ⟨u0, r, rfl, rfl, q⟩ hc hs)
theorem d13_38_0 : decode b_13_38 0 = .ok (.aload_n 0, 1) := by decide +kernel
theorem d13_38_1 : decode b_13_38 1 = .ok (.iconst 0, 1) := by decide +kernel
theorem d13_38_2 : decode b_13_38 2 = .ok (.putfield 218, 3) := by decide +kernel
theorem d13_38_5 : decode b_13_38 5 = .ok (.aload_n 0, 1) := by decide +kernel
theorem d13_38_6 : decode b_13_38 6 = .ok (.aload_n 0, 1) := by decide +kernel
theorem d13_38_7 : decode b_13_38 7 = .ok (.iconst 1, 1) := by decide +kernel
theorem d13_38_8 : decode b_13_38 8 = .ok (.invokevirtual 221, 3) := by decide +kernel
theorem d13_38_11 : decode b_13_38 11 = .ok (.putfield 149, 3) := by decide +kernel
theorem d13_38_14 : decode b_13_38 14 = .ok (.aload_n 0, 1) := by decide +kernel
theorem d13_38_15 : decode b_13_38 15 = .ok (.getfield 149, 3) := by decide +kernel
theorem d13_38_18 : decode b_13_38 18 = .ok (.i2l, 1) := by decide +kernel
theorem d13_38_19 : decode b_13_38 19 = .ok (.lconst 0, 1) := by decide +kernel
theorem d13_38_20 : decode b_13_38 20 = .ok (.ldc2_w 96, 3) := by decide +kernel
theorem d13_38_23 : decode b_13_38 23 = .ok (.invokestatic 69, 3) := by decide +kernel
theorem d13_38_26 : decode b_13_38 26 = .ok (.ifCond .ne 13, 3) := by decide +kernel
theorem d13_38_29 : decode b_13_38 29 = .ok (.aload_n 0, 1) := by decide +kernel
theorem d13_38_30 : decode b_13_38 30 = .ok (.aload_n 0, 1) := by decide +kernel
theorem d13_38_31 : decode b_13_38 31 = .ok (.getfield 149, 3) := by decide +kernel
theorem d13_38_34 : decode b_13_38 34 = .ok (.iconst 1, 1) := by decide +kernel
theorem d13_38_35 : decode b_13_38 35 = .ok (.invokevirtual 224, 3) := by decide +kernel
theorem d13_38_38 : decode b_13_38 38 = .ok (.ireturn, 1) := by decide +kernel
theorem d13_38_39 : decode b_13_38 39 = .ok (.aload_n 0, 1) := by decide +kernel
theorem d13_38_40 : decode b_13_38 40 = .ok (.iconst 1, 1) := by decide +kernel
theorem d13_38_41 : decode b_13_38 41 = .ok (.invokevirtual 221, 3) := by decide +kernel
theorem d13_38_44 : decode b_13_38 44 = .ok (.istore_n 1, 1) := by decide +kernel
theorem d13_38_45 : decode b_13_38 45 = .ok (.iload_n 1, 1) := by decide +kernel
theorem d13_38_46 : decode b_13_38 46 = .ok (.i2l, 1) := by decide +kernel
theorem d13_38_47 : decode b_13_38 47 = .ok (.ldc2_w 80, 3) := by decide +kernel
theorem d13_38_50 : decode b_13_38 50 = .ok (.ldc2_w 98, 3) := by decide +kernel
theorem d13_38_53 : decode b_13_38 53 = .ok (.invokestatic 69, 3) := by decide +kernel
theorem d13_38_56 : decode b_13_38 56 = .ok (.ifCond .ne 10, 3) := by decide +kernel
theorem d13_38_59 : decode b_13_38 59 = .ok (.aload_n 0, 1) := by decide +kernel
theorem d13_38_60 : decode b_13_38 60 = .ok (.iload_n 1, 1) := by decide +kernel
theorem d13_38_61 : decode b_13_38 61 = .ok (.iconst 1, 1) := by decide +kernel
theorem d13_38_62 : decode b_13_38 62 = .ok (.invokevirtual 224, 3) := by decide +kernel
theorem d13_38_65 : decode b_13_38 65 = .ok (.ireturn, 1) := by decide +kernel
theorem d13_38_66 : decode b_13_38 66 = .ok (.aload_n 0, 1) := by decide +kernel
theorem d13_38_67 : decode b_13_38 67 = .ok (.iconst 1, 1) := by decide +kernel
theorem d13_38_68 : decode b_13_38 68 = .ok (.iload_n 1, 1) := by decide +kernel
theorem d13_38_69 : decode b_13_38 69 = .ok (.ishl, 1) := by decide +kernel
theorem d13_38_70 : decode b_13_38 70 = .ok (.putfield 171, 3) := by decide +kernel
theorem d13_38_73 : decode b_13_38 73 = .ok (.aload_n 0, 1) := by decide +kernel
theorem d13_38_74 : decode b_13_38 74 = .ok (.aload_n 0, 1) := by decide +kernel
theorem d13_38_75 : decode b_13_38 75 = .ok (.iconst 1, 1) := by decide +kernel
theorem d13_38_76 : decode b_13_38 76 = .ok (.invokevirtual 221, 3) := by decide +kernel
theorem d13_38_79 : decode b_13_38 79 = .ok (.putfield 227, 3) := by decide +kernel
theorem d13_38_82 : decode b_13_38 82 = .ok (.aload_n 0, 1) := by decide +kernel
theorem d13_38_83 : decode b_13_38 83 = .ok (.getfield 227, 3) := by decide +kernel
theorem d13_38_86 : decode b_13_38 86 = .ok (.i2l, 1) := by decide +kernel
theorem d13_38_87 : decode b_13_38 87 = .ok (.lconst 1, 1) := by decide +kernel
theorem d13_38_88 : decode b_13_38 88 = .ok (.ldc2_w 96, 3) := by decide +kernel
theorem d13_38_91 : decode b_13_38 91 = .ok (.invokestatic 69, 3) := by decide +kernel
theorem d13_38_94 : decode b_13_38 94 = .ok (.ifCond .ne 13, 3) := by decide +kernel
theorem d13_38_97 : decode b_13_38 97 = .ok (.aload_n 0, 1) := by decide +kernel
theorem d13_38_98 : decode b_13_38 98 = .ok (.aload_n 0, 1) := by decide +kernel
theorem d13_38_99 : decode b_13_38 99 = .ok (.getfield 227, 3) := by decide +kernel
theorem d13_38_102 : decode b_13_38 102 = .ok (.iconst 1, 1) := by decide +kernel
theorem d13_38_103 : decode b_13_38 103 = .ok (.invokevirtual 224, 3) := by decide +kernel
theorem d13_38_106 : decode b_13_38 106 = .ok (.ireturn, 1) := by decide +kernel
theorem d13_38_107 : decode b_13_38 107 = .ok (.aload_n 0, 1) := by decide +kernel
theorem d13_38_108 : decode b_13_38 108 = .ok (.aload_n 0, 1) := by decide +kernel
theorem d13_38_109 : decode b_13_38 109 = .ok (.iconst 2, 1) := by decide +kernel
theorem d13_38_110 : decode b_13_38 110 = .ok (.invokevirtual 221, 3) := by decide +kernel
theorem d13_38_113 : decode b_13_38 113 = .ok (.putfield 230, 3) := by decide +kernel
theorem d13_38_116 : decode b_13_38 116 = .ok (.aload_n 0, 1) := by decide +kernel
theorem d13_38_117 : decode b_13_38 117 = .ok (.getfield 230, 3) := by decide +kernel
theorem d13_38_120 : decode b_13_38 120 = .ok (.i2l, 1) := by decide +kernel
theorem d13_38_121 : decode b_13_38 121 = .ok (.lconst 0, 1) := by decide +kernel
theorem d13_38_122 : decode b_13_38 122 = .ok (.ldc2_w 233, 3) := by decide +kernel
theorem d13_38_125 : decode b_13_38 125 = .ok (.invokestatic 69, 3) := by decide +kernel
theorem d13_38_128 : decode b_13_38 128 = .ok (.ifCond .ne 13, 3) := by decide +kernel
theorem d13_38_131 : decode b_13_38 131 = .ok (.aload_n 0, 1) := by decide +kernel
theorem d13_38_132 : decode b_13_38 132 = .ok (.aload_n 0, 1) := by decide +kernel
theorem d13_38_133 : decode b_13_38 133 = .ok (.getfield 230, 3) := by decide +kernel
theorem d13_38_136 : decode b_13_38 136 = .ok (.iconst 2, 1) := by decide +kernel
theorem d13_38_137 : decode b_13_38 137 = .ok (.invokevirtual 224, 3) := by decide +kernel
theorem d13_38_140 : decode b_13_38 140 = .ok (.ireturn, 1) := by decide +kernel
theorem d13_38_141 : decode b_13_38 141 = .ok (.iconst 0, 1) := by decide +kernel
theorem d13_38_142 : decode b_13_38 142 = .ok (.istore_n 2, 1) := by decide +kernel
theorem d13_38_143 : decode b_13_38 143 = .ok (.iload_n 2, 1) := by decide +kernel
theorem d13_38_144 : decode b_13_38 144 = .ok (.sipush 1024, 3) := by decide +kernel
theorem d13_38_147 : decode b_13_38 147 = .ok (.if_icmp .ge 43, 3) := by decide +kernel
theorem d13_38_150 : decode b_13_38 150 = .ok (.aload_n 0, 1) := by decide +kernel
theorem d13_38_151 : decode b_13_38 151 = .ok (.getfield 32, 3) := by decide +kernel
theorem d13_38_154 : decode b_13_38 154 = .ok (.iload_n 2, 1) := by decide +kernel
theorem d13_38_155 : decode b_13_38 155 = .ok (.aload_n 0, 1) := by decide +kernel
theorem d13_38_156 : decode b_13_38 156 = .ok (.getfield 149, 3) := by decide +kernel
theorem d13_38_159 : decode b_13_38 159 = .ok (.iconst 1, 1) := by decide +kernel
theorem d13_38_160 : decode b_13_38 160 = .ok (.if_icmp .eq 11, 3) := by decide +kernel
theorem d13_38_163 : decode b_13_38 163 = .ok (.aload_n 0, 1) := by decide +kernel
theorem d13_38_164 : decode b_13_38 164 = .ok (.getfield 149, 3) := by decide +kernel
theorem d13_38_167 : decode b_13_38 167 = .ok (.iconst 4, 1) := by decide +kernel
theorem d13_38_168 : decode b_13_38 168 = .ok (.if_icmp .ne 14, 3) := by decide +kernel
theorem d13_38_171 : decode b_13_38 171 = .ok (.aload_n 0, 1) := by decide +kernel
theorem d13_38_172 : decode b_13_38 172 = .ok (.getfield 171, 3) := by decide +kernel
theorem d13_38_175 : decode b_13_38 175 = .ok (.sipush 256, 3) := by decide +kernel
theorem d13_38_178 : decode b_13_38 178 = .ok (.idiv, 1) := by decide +kernel
theorem d13_38_179 : decode b_13_38 179 = .ok (.goto 4, 3) := by decide +kernel
theorem d13_38_182 : decode b_13_38 182 = .ok (.iconst 0, 1) := by decide +kernel
theorem d13_38_183 : decode b_13_38 183 = .ok (.iastore, 1) := by decide +kernel
theorem d13_38_184 : decode b_13_38 184 = .ok (.iinc 2 1, 3) := by decide +kernel
theorem d13_38_187 : decode b_13_38 187 = .ok (.goto (-44), 3) := by decide +kernel
theorem d13_38_190 : decode b_13_38 190 = .ok (.iconst 0, 1) := by decide +kernel
theorem d13_38_191 : decode b_13_38 191 = .ok (.istore_n 2, 1) := by decide +kernel
theorem d13_38_192 : decode b_13_38 192 = .ok (.iload_n 2, 1) := by decide +kernel
theorem d13_38_193 : decode b_13_38 193 = .ok (.aload_n 0, 1) := by decide +kernel
theorem d13_38_194 : decode b_13_38 194 = .ok (.getfield 149, 3) := by decide +kernel
theorem d13_38_197 : decode b_13_38 197 = .ok (.iconst 3, 1) := by decide +kernel
theorem d13_38_198 : decode b_13_38 198 = .ok (.if_icmp .ne 7, 3) := by decide +kernel
theorem d13_38_201 : decode b_13_38 201 = .ok (.iconst 4, 1) := by decide +kernel
theorem d13_38_202 : decode b_13_38 202 = .ok (.goto 23, 3) := by decide +kernel
theorem d13_38_205 : decode b_13_38 205 = .ok (.aload_n 0, 1) := by decide +kernel
theorem d13_38_206 : decode b_13_38 206 = .ok (.getfield 149, 3) := by decide +kernel
theorem d13_38_209 : decode b_13_38 209 = .ok (.ifCond .eq 11, 3) := by decide +kernel
theorem d13_38_212 : decode b_13_38 212 = .ok (.aload_n 0, 1) := by decide +kernel
theorem d13_38_213 : decode b_13_38 213 = .ok (.getfield 149, 3) := by decide +kernel
theorem d13_38_216 : decode b_13_38 216 = .ok (.iconst 2, 1) := by decide +kernel
theorem d13_38_217 : decode b_13_38 217 = .ok (.if_icmp .ne 7, 3) := by decide +kernel
theorem d13_38_220 : decode b_13_38 220 = .ok (.iconst 1, 1) := by decide +kernel
theorem d13_38_221 : decode b_13_38 221 = .ok (.goto 4, 3) := by decide +kernel
theorem d13_38_224 : decode b_13_38 224 = .ok (.iconst 0, 1) := by decide +kernel
theorem d13_38_225 : decode b_13_38 225 = .ok (.if_icmp .ge 21, 3) := by decide +kernel
theorem d13_38_228 : decode b_13_38 228 = .ok (.aload_n 0, 1) := by decide +kernel
theorem d13_38_229 : decode b_13_38 229 = .ok (.iload_n 2, 1) := by decide +kernel
theorem d13_38_230 : decode b_13_38 230 = .ok (.invokevirtual 235, 3) := by decide +kernel
theorem d13_38_233 : decode b_13_38 233 = .ok (.istore_n 3, 1) := by decide +kernel
theorem d13_38_234 : decode b_13_38 234 = .ok (.iload_n 3, 1) := by decide +kernel
theorem d13_38_235 : decode b_13_38 235 = .ok (.ifCond .lt 5, 3) := by decide +kernel
theorem d13_38_238 : decode b_13_38 238 = .ok (.iload_n 3, 1) := by decide +kernel
theorem d13_38_239 : decode b_13_38 239 = .ok (.ireturn, 1) := by decide +kernel
theorem d13_38_240 : decode b_13_38 240 = .ok (.iinc 2 1, 3) := by decide +kernel
theorem d13_38_243 : decode b_13_38 243 = .ok (.goto (-51), 3) := by decide +kernel
theorem d13_38_246 : decode b_13_38 246 = .ok (.aload_n 0, 1) := by decide +kernel
theorem d13_38_247 : decode b_13_38 247 = .ok (.aload_n 0, 1) := by decide +kernel
theorem d13_38_248 : decode b_13_38 248 = .ok (.getfield 218, 3) := by decide +kernel
theorem d13_38_251 : decode b_13_38 251 = .ok (.putfield 238, 3) := by decide +kernel
theorem d13_38_254 : decode b_13_38 254 = .ok (.iconst 0, 1) := by decide +kernel
theorem d13_38_255 : decode b_13_38 255 = .ok (.istore_n 2, 1) := by decide +kernel
theorem d13_38_256 : decode b_13_38 256 = .ok (.iload_n 2, 1) := by decide +kernel
theorem d13_38_257 : decode b_13_38 257 = .ok (.aload_n 0, 1) := by decide +kernel
theorem d13_38_258 : decode b_13_38 258 = .ok (.getfield 227, 3) := by decide +kernel
theorem d13_38_261 : decode b_13_38 261 = .ok (.if_icmp .ge 46, 3) := by decide +kernel
theorem d13_38_264 : decode b_13_38 264 = .ok (.aload_n 0, 1) := by decide +kernel
theorem d13_38_265 : decode b_13_38 265 = .ok (.iconst 3, 1) := by decide +kernel
theorem d13_38_266 : decode b_13_38 266 = .ok (.invokevirtual 221, 3) := by decide +kernel
theorem d13_38_269 : decode b_13_38 269 = .ok (.istore_n 3, 1) := by decide +kernel
theorem d13_38_270 : decode b_13_38 270 = .ok (.iload_n 3, 1) := by decide +kernel
theorem d13_38_271 : decode b_13_38 271 = .ok (.i2l, 1) := by decide +kernel
theorem d13_38_272 : decode b_13_38 272 = .ok (.aload_n 0, 1) := by decide +kernel
theorem d13_38_273 : decode b_13_38 273 = .ok (.getfield 171, 3) := by decide +kernel
theorem d13_38_276 : decode b_13_38 276 = .ok (.i2l, 1) := by decide +kernel
theorem d13_38_277 : decode b_13_38 277 = .ok (.ldc2_w 177, 3) := by decide +kernel
theorem d13_38_280 : decode b_13_38 280 = .ok (.aload_n 0, 1) := by decide +kernel
theorem d13_38_281 : decode b_13_38 281 = .ok (.getfield 171, 3) := by decide +kernel
theorem d13_38_284 : decode b_13_38 284 = .ok (.i2l, 1) := by decide +kernel
theorem d13_38_285 : decode b_13_38 285 = .ok (.lmul, 1) := by decide +kernel
theorem d13_38_286 : decode b_13_38 286 = .ok (.lconst 1, 1) := by decide +kernel
theorem d13_38_287 : decode b_13_38 287 = .ok (.lsub, 1) := by decide +kernel
theorem d13_38_288 : decode b_13_38 288 = .ok (.invokestatic 69, 3) := by decide +kernel
theorem d13_38_291 : decode b_13_38 291 = .ok (.ifCond .ne 10, 3) := by decide +kernel
theorem d13_38_294 : decode b_13_38 294 = .ok (.aload_n 0, 1) := by decide +kernel
theorem d13_38_295 : decode b_13_38 295 = .ok (.iload_n 3, 1) := by decide +kernel
theorem d13_38_296 : decode b_13_38 296 = .ok (.iconst 3, 1) := by decide +kernel
theorem d13_38_297 : decode b_13_38 297 = .ok (.invokevirtual 224, 3) := by decide +kernel
theorem d13_38_300 : decode b_13_38 300 = .ok (.ireturn, 1) := by decide +kernel
theorem d13_38_301 : decode b_13_38 301 = .ok (.iinc 2 1, 3) := by decide +kernel
theorem d13_38_304 : decode b_13_38 304 = .ok (.goto (-48), 3) := by decide +kernel
theorem d13_38_307 : decode b_13_38 307 = .ok (.aload_n 0, 1) := by decide +kernel
theorem d13_38_308 : decode b_13_38 308 = .ok (.aload_n 0, 1) := by decide +kernel
theorem d13_38_309 : decode b_13_38 309 = .ok (.iconst 2, 1) := by decide +kernel
theorem d13_38_310 : decode b_13_38 310 = .ok (.invokevirtual 221, 3) := by decide +kernel
theorem d13_38_313 : decode b_13_38 313 = .ok (.putfield 241, 3) := by decide +kernel
theorem d13_38_316 : decode b_13_38 316 = .ok (.aload_n 0, 1) := by decide +kernel
theorem d13_38_317 : decode b_13_38 317 = .ok (.getfield 241, 3) := by decide +kernel
theorem d13_38_320 : decode b_13_38 320 = .ok (.ifCond .ge 11, 3) := by decide +kernel
theorem d13_38_323 : decode b_13_38 323 = .ok (.aload_n 0, 1) := by decide +kernel
theorem d13_38_324 : decode b_13_38 324 = .ok (.getfield 10, 3) := by decide +kernel
theorem d13_38_327 : decode b_13_38 327 = .ok (.getfield 194, 3) := by decide +kernel
theorem d13_38_330 : decode b_13_38 330 = .ok (.ireturn, 1) := by decide +kernel
theorem d13_38_331 : decode b_13_38 331 = .ok (.aload_n 0, 1) := by decide +kernel
theorem d13_38_332 : decode b_13_38 332 = .ok (.getfield 218, 3) := by decide +kernel
theorem d13_38_335 : decode b_13_38 335 = .ok (.aload_n 0, 1) := by decide +kernel
theorem d13_38_336 : decode b_13_38 336 = .ok (.getfield 241, 3) := by decide +kernel
theorem d13_38_339 : decode b_13_38 339 = .ok (.iadd, 1) := by decide +kernel
theorem d13_38_340 : decode b_13_38 340 = .ok (.iconst 2, 1) := by decide +kernel
theorem d13_38_341 : decode b_13_38 341 = .ok (.iadd, 1) := by decide +kernel
theorem d13_38_342 : decode b_13_38 342 = .ok (.aload_n 0, 1) := by decide +kernel
theorem d13_38_343 : decode b_13_38 343 = .ok (.getfield 10, 3) := by decide +kernel
theorem d13_38_346 : decode b_13_38 346 = .ok (.getfield 194, 3) := by decide +kernel
theorem d13_38_349 : decode b_13_38 349 = .ok (.if_icmp .eq 10, 3) := by decide +kernel
theorem d13_38_352 : decode b_13_38 352 = .ok (.aload_n 0, 1) := by decide +kernel
theorem d13_38_353 : decode b_13_38 353 = .ok (.getfield 218, 3) := by decide +kernel
theorem d13_38_356 : decode b_13_38 356 = .ok (.iconst 2, 1) := by decide +kernel
theorem d13_38_357 : decode b_13_38 357 = .ok (.isub, 1) := by decide +kernel
theorem d13_38_358 : decode b_13_38 358 = .ok (.ireturn, 1) := by decide +kernel
theorem d13_38_359 : decode b_13_38 359 = .ok (.aload_n 0, 1) := by decide +kernel
theorem d13_38_360 : decode b_13_38 360 = .ok (.aload_n 0, 1) := by decide +kernel
theorem d13_38_361 : decode b_13_38 361 = .ok (.getfield 218, 3) := by decide +kernel
theorem d13_38_364 : decode b_13_38 364 = .ok (.putfield 244, 3) := by decide +kernel
theorem d13_38_367 : decode b_13_38 367 = .ok (.aload_n 0, 1) := by decide +kernel
theorem d13_38_368 : decode b_13_38 368 = .ok (.dup, 1) := by decide +kernel
theorem d13_38_369 : decode b_13_38 369 = .ok (.getfield 218, 3) := by decide +kernel
theorem d13_38_372 : decode b_13_38 372 = .ok (.aload_n 0, 1) := by decide +kernel
theorem d13_38_373 : decode b_13_38 373 = .ok (.getfield 241, 3) := by decide +kernel
theorem d13_38_376 : decode b_13_38 376 = .ok (.iadd, 1) := by decide +kernel
theorem d13_38_377 : decode b_13_38 377 = .ok (.putfield 218, 3) := by decide +kernel
theorem d13_38_380 : decode b_13_38 380 = .ok (.aload_n 0, 1) := by decide +kernel
theorem d13_38_381 : decode b_13_38 381 = .ok (.iconst 2, 1) := by decide +kernel
theorem d13_38_382 : decode b_13_38 382 = .ok (.invokevirtual 221, 3) := by decide +kernel
theorem d13_38_385 : decode b_13_38 385 = .ok (.istore_n 2, 1) := by decide +kernel
theorem d13_38_386 : decode b_13_38 386 = .ok (.iload_n 2, 1) := by decide +kernel
theorem d13_38_387 : decode b_13_38 387 = .ok (.aload_n 0, 1) := by decide +kernel
theorem d13_38_388 : decode b_13_38 388 = .ok (.getfield 10, 3) := by decide +kernel
theorem d13_38_391 : decode b_13_38 391 = .ok (.getfield 197, 3) := by decide +kernel
theorem d13_38_394 : decode b_13_38 394 = .ok (.aload_n 0, 1) := by decide +kernel
theorem d13_38_395 : decode b_13_38 395 = .ok (.getfield 10, 3) := by decide +kernel
theorem d13_38_398 : decode b_13_38 398 = .ok (.getfield 194, 3) := by decide +kernel
theorem d13_38_401 : decode b_13_38 401 = .ok (.iconst 2, 1) := by decide +kernel
theorem d13_38_402 : decode b_13_38 402 = .ok (.isub, 1) := by decide +kernel
theorem d13_38_403 : decode b_13_38 403 = .ok (.invokestatic 185, 3) := by decide +kernel
theorem d13_38_406 : decode b_13_38 406 = .ok (.if_icmp .ne 7, 3) := by decide +kernel
theorem d13_38_409 : decode b_13_38 409 = .ok (.iconst (-1), 1) := by decide +kernel
theorem d13_38_410 : decode b_13_38 410 = .ok (.goto 9, 3) := by decide +kernel
theorem d13_38_413 : decode b_13_38 413 = .ok (.aload_n 0, 1) := by decide +kernel
theorem d13_38_414 : decode b_13_38 414 = .ok (.getfield 218, 3) := by decide +kernel
theorem d13_38_417 : decode b_13_38 417 = .ok (.iconst 2, 1) := by decide +kernel
theorem d13_38_418 : decode b_13_38 418 = .ok (.isub, 1) := by decide +kernel
theorem d13_38_419 : decode b_13_38 419 = .ok (.ireturn, 1) := by decide +kernel
theorem K13_38_8 {C : qCx} {G : jG} {mc ms : Nat} {p : Int → Int → jS → jH → Prop} {q : Int → Int → jS → jH → Int → jS → jH → Prop} (h : x13_38 C G) (hrm : C.2.2.2.1.frames = 3 ∧ C.2.2.2.1.locals = 78) (hM : M13_36 C.2.1 mc ms p q) : j_Call C b_13_38 n_KT G.1 G.2.1 4 (.invokevirtual 221) mc ms (fun a S V => ∃ u0 u1 : Int, a = [(2, u0), (0, u1)] ∧ S.1 u0 = 33 ∧ p u0 u1 S V) (fun a S V rs S' V' => ∃ u0 u1 r : Int, a = [(2, u0), (0, u1)] ∧ rs = [(0, r)] ∧ q u0 u1 S V r S' V') := j_callV n_NWk h.2.2.2.2.2 h.1 hM ⟨h.2.1.1, h.2.1.2, h.2.2.1, h.2.2.2.1, h.2.2.2.2.1⟩ ⟨n_CB (y := y_13_36) (bytes := b_13_36) 1 h.2.2.2.2.1 n_w1066 n_w1063 n_w12 ⟨by decide, by decide, by decide +kernel⟩ rfl rfl ⟨by rw [hrm.1]; exact Nat.le_of_ble_eq_true rfl, by rw [hrm.2]; exact Nat.le_of_ble_eq_true rfl⟩, h.2.2.2.2.1 _ n_w1065, h.2.2.2.2.1 _ n_s45⟩ (Cn := RX12) (fun a S V hP => by obtain ⟨u0, u1, rfl, e, -⟩ := hP; exact ⟨u0, _, 12, _, _, TX12, 31, rfl, rfl, by rw [e]; decide, by rw [e]; rfl, rfl⟩)
theorem K13_38_23 {C : qCx} {G : jG} {mc ms : Nat} {p : Int → Int → Int → jS → jH → Prop} {q : Int → Int → Int → jS → jH → Int → jS → jH → Prop} (h : x13_38 C G) (hrm : C.2.2.2.1.frames = 3 ∧ C.2.2.2.1.locals = 78) (hM : M13_3 C.2.1 mc ms p q) : j_Call C b_13_38 n_KT G.1 G.2.1 4 (.invokestatic 69) mc ms (fun a S V => ∃ u0 u1 u2 : Int, a = [(1, u0), (1, u1), (1, u2)] ∧ p u0 u1 u2 S V) (fun a S V rs S' V' => ∃ u0 u1 u2 r : Int, a = [(1, u0), (1, u1), (1, u2)] ∧ rs = [(0, r)] ∧ q u0 u1 u2 S V r S' V') := j_callS n_NWk h.2.2.2.2.2 h.1 hM ⟨h.2.1.1, h.2.1.2, h.2.2.1, h.2.2.2.1, h.2.2.2.2.1⟩ ⟨n_CB (y := y_13_3) (bytes := b_13_3) 3 h.2.2.2.2.1 n_w923 n_w921 n_w12 ⟨by decide, by decide, by decide +kernel⟩ rfl rfl ⟨by rw [hrm.1]; exact Nat.le_of_ble_eq_true rfl, by rw [hrm.2]; exact Nat.le_of_ble_eq_true rfl⟩, h.2.2.2.2.1 _ n_w922⟩ (fun a S V hP => by obtain ⟨u0, u1, u2, rfl, -⟩ := hP; rfl)
theorem K13_38_35 {C : qCx} {G : jG} {mc ms : Nat} {p : Int → Int → Int → jS → jH → Prop} {q : Int → Int → Int → jS → jH → Int → jS → jH → Prop} (h : x13_38 C G) (hrm : C.2.2.2.1.frames = 3 ∧ C.2.2.2.1.locals = 78) (hM : M13_37 C.2.1 mc ms p q) : j_Call C b_13_38 n_KT G.1 G.2.1 4 (.invokevirtual 224) mc ms (fun a S V => ∃ u0 u1 u2 : Int, a = [(2, u0), (0, u1), (0, u2)] ∧ S.1 u0 = 33 ∧ p u0 u1 u2 S V) (fun a S V rs S' V' => ∃ u0 u1 u2 r : Int, a = [(2, u0), (0, u1), (0, u2)] ∧ rs = [(0, r)] ∧ q u0 u1 u2 S V r S' V') := j_callV n_NWk h.2.2.2.2.2 h.1 hM ⟨h.2.1.1, h.2.1.2, h.2.2.1, h.2.2.2.1, h.2.2.2.2.1⟩ ⟨n_CB (y := y_13_37) (bytes := b_13_37) 2 h.2.2.2.2.1 n_w1070 n_w1067 n_w12 ⟨by decide, by decide, by decide +kernel⟩ rfl rfl ⟨by rw [hrm.1]; exact Nat.le_of_ble_eq_true rfl, by rw [hrm.2]; exact Nat.le_of_ble_eq_true rfl⟩, h.2.2.2.2.1 _ n_w1069, h.2.2.2.2.1 _ n_s46⟩ (Cn := RX12) (fun a S V hP => by obtain ⟨u0, u1, u2, rfl, e, -⟩ := hP; exact ⟨u0, _, 12, _, _, TX12, 31, rfl, rfl, by rw [e]; decide, by rw [e]; rfl, rfl⟩)
theorem K13_38_41 {C : qCx} {G : jG} {mc ms : Nat} {p : Int → Int → jS → jH → Prop} {q : Int → Int → jS → jH → Int → jS → jH → Prop} (h : x13_38 C G) (hrm : C.2.2.2.1.frames = 3 ∧ C.2.2.2.1.locals = 78) (hM : M13_36 C.2.1 mc ms p q) : j_Call C b_13_38 n_KT G.1 G.2.1 4 (.invokevirtual 221) mc ms (fun a S V => ∃ u0 u1 : Int, a = [(2, u0), (0, u1)] ∧ S.1 u0 = 33 ∧ p u0 u1 S V) (fun a S V rs S' V' => ∃ u0 u1 r : Int, a = [(2, u0), (0, u1)] ∧ rs = [(0, r)] ∧ q u0 u1 S V r S' V') := j_callV n_NWk h.2.2.2.2.2 h.1 hM ⟨h.2.1.1, h.2.1.2, h.2.2.1, h.2.2.2.1, h.2.2.2.2.1⟩ ⟨n_CB (y := y_13_36) (bytes := b_13_36) 1 h.2.2.2.2.1 n_w1066 n_w1063 n_w12 ⟨by decide, by decide, by decide +kernel⟩ rfl rfl ⟨by rw [hrm.1]; exact Nat.le_of_ble_eq_true rfl, by rw [hrm.2]; exact Nat.le_of_ble_eq_true rfl⟩, h.2.2.2.2.1 _ n_w1065, h.2.2.2.2.1 _ n_s45⟩ (Cn := RX12) (fun a S V hP => by obtain ⟨u0, u1, rfl, e, -⟩ := hP; exact ⟨u0, _, 12, _, _, TX12, 31, rfl, rfl, by rw [e]; decide, by rw [e]; rfl, rfl⟩)
theorem K13_38_53 {C : qCx} {G : jG} {mc ms : Nat} {p : Int → Int → Int → jS → jH → Prop} {q : Int → Int → Int → jS → jH → Int → jS → jH → Prop} (h : x13_38 C G) (hrm : C.2.2.2.1.frames = 3 ∧ C.2.2.2.1.locals = 78) (hM : M13_3 C.2.1 mc ms p q) : j_Call C b_13_38 n_KT G.1 G.2.1 4 (.invokestatic 69) mc ms (fun a S V => ∃ u0 u1 u2 : Int, a = [(1, u0), (1, u1), (1, u2)] ∧ p u0 u1 u2 S V) (fun a S V rs S' V' => ∃ u0 u1 u2 r : Int, a = [(1, u0), (1, u1), (1, u2)] ∧ rs = [(0, r)] ∧ q u0 u1 u2 S V r S' V') := j_callS n_NWk h.2.2.2.2.2 h.1 hM ⟨h.2.1.1, h.2.1.2, h.2.2.1, h.2.2.2.1, h.2.2.2.2.1⟩ ⟨n_CB (y := y_13_3) (bytes := b_13_3) 3 h.2.2.2.2.1 n_w923 n_w921 n_w12 ⟨by decide, by decide, by decide +kernel⟩ rfl rfl ⟨by rw [hrm.1]; exact Nat.le_of_ble_eq_true rfl, by rw [hrm.2]; exact Nat.le_of_ble_eq_true rfl⟩, h.2.2.2.2.1 _ n_w922⟩ (fun a S V hP => by obtain ⟨u0, u1, u2, rfl, -⟩ := hP; rfl)
theorem K13_38_62 {C : qCx} {G : jG} {mc ms : Nat} {p : Int → Int → Int → jS → jH → Prop} {q : Int → Int → Int → jS → jH → Int → jS → jH → Prop} (h : x13_38 C G) (hrm : C.2.2.2.1.frames = 3 ∧ C.2.2.2.1.locals = 78) (hM : M13_37 C.2.1 mc ms p q) : j_Call C b_13_38 n_KT G.1 G.2.1 4 (.invokevirtual 224) mc ms (fun a S V => ∃ u0 u1 u2 : Int, a = [(2, u0), (0, u1), (0, u2)] ∧ S.1 u0 = 33 ∧ p u0 u1 u2 S V) (fun a S V rs S' V' => ∃ u0 u1 u2 r : Int, a = [(2, u0), (0, u1), (0, u2)] ∧ rs = [(0, r)] ∧ q u0 u1 u2 S V r S' V') := j_callV n_NWk h.2.2.2.2.2 h.1 hM ⟨h.2.1.1, h.2.1.2, h.2.2.1, h.2.2.2.1, h.2.2.2.2.1⟩ ⟨n_CB (y := y_13_37) (bytes := b_13_37) 2 h.2.2.2.2.1 n_w1070 n_w1067 n_w12 ⟨by decide, by decide, by decide +kernel⟩ rfl rfl ⟨by rw [hrm.1]; exact Nat.le_of_ble_eq_true rfl, by rw [hrm.2]; exact Nat.le_of_ble_eq_true rfl⟩, h.2.2.2.2.1 _ n_w1069, h.2.2.2.2.1 _ n_s46⟩ (Cn := RX12) (fun a S V hP => by obtain ⟨u0, u1, u2, rfl, e, -⟩ := hP; exact ⟨u0, _, 12, _, _, TX12, 31, rfl, rfl, by rw [e]; decide, by rw [e]; rfl, rfl⟩)
theorem K13_38_76 {C : qCx} {G : jG} {mc ms : Nat} {p : Int → Int → jS → jH → Prop} {q : Int → Int → jS → jH → Int → jS → jH → Prop} (h : x13_38 C G) (hrm : C.2.2.2.1.frames = 3 ∧ C.2.2.2.1.locals = 78) (hM : M13_36 C.2.1 mc ms p q) : j_Call C b_13_38 n_KT G.1 G.2.1 4 (.invokevirtual 221) mc ms (fun a S V => ∃ u0 u1 : Int, a = [(2, u0), (0, u1)] ∧ S.1 u0 = 33 ∧ p u0 u1 S V) (fun a S V rs S' V' => ∃ u0 u1 r : Int, a = [(2, u0), (0, u1)] ∧ rs = [(0, r)] ∧ q u0 u1 S V r S' V') := j_callV n_NWk h.2.2.2.2.2 h.1 hM ⟨h.2.1.1, h.2.1.2, h.2.2.1, h.2.2.2.1, h.2.2.2.2.1⟩ ⟨n_CB (y := y_13_36) (bytes := b_13_36) 1 h.2.2.2.2.1 n_w1066 n_w1063 n_w12 ⟨by decide, by decide, by decide +kernel⟩ rfl rfl ⟨by rw [hrm.1]; exact Nat.le_of_ble_eq_true rfl, by rw [hrm.2]; exact Nat.le_of_ble_eq_true rfl⟩, h.2.2.2.2.1 _ n_w1065, h.2.2.2.2.1 _ n_s45⟩ (Cn := RX12) (fun a S V hP => by obtain ⟨u0, u1, rfl, e, -⟩ := hP; exact ⟨u0, _, 12, _, _, TX12, 31, rfl, rfl, by rw [e]; decide, by rw [e]; rfl, rfl⟩)
theorem K13_38_91 {C : qCx} {G : jG} {mc ms : Nat} {p : Int → Int → Int → jS → jH → Prop} {q : Int → Int → Int → jS → jH → Int → jS → jH → Prop} (h : x13_38 C G) (hrm : C.2.2.2.1.frames = 3 ∧ C.2.2.2.1.locals = 78) (hM : M13_3 C.2.1 mc ms p q) : j_Call C b_13_38 n_KT G.1 G.2.1 4 (.invokestatic 69) mc ms (fun a S V => ∃ u0 u1 u2 : Int, a = [(1, u0), (1, u1), (1, u2)] ∧ p u0 u1 u2 S V) (fun a S V rs S' V' => ∃ u0 u1 u2 r : Int, a = [(1, u0), (1, u1), (1, u2)] ∧ rs = [(0, r)] ∧ q u0 u1 u2 S V r S' V') := j_callS n_NWk h.2.2.2.2.2 h.1 hM ⟨h.2.1.1, h.2.1.2, h.2.2.1, h.2.2.2.1, h.2.2.2.2.1⟩ ⟨n_CB (y := y_13_3) (bytes := b_13_3) 3 h.2.2.2.2.1 n_w923 n_w921 n_w12 ⟨by decide, by decide, by decide +kernel⟩ rfl rfl ⟨by rw [hrm.1]; exact Nat.le_of_ble_eq_true rfl, by rw [hrm.2]; exact Nat.le_of_ble_eq_true rfl⟩, h.2.2.2.2.1 _ n_w922⟩ (fun a S V hP => by obtain ⟨u0, u1, u2, rfl, -⟩ := hP; rfl)
theorem K13_38_103 {C : qCx} {G : jG} {mc ms : Nat} {p : Int → Int → Int → jS → jH → Prop} {q : Int → Int → Int → jS → jH → Int → jS → jH → Prop} (h : x13_38 C G) (hrm : C.2.2.2.1.frames = 3 ∧ C.2.2.2.1.locals = 78) (hM : M13_37 C.2.1 mc ms p q) : j_Call C b_13_38 n_KT G.1 G.2.1 4 (.invokevirtual 224) mc ms (fun a S V => ∃ u0 u1 u2 : Int, a = [(2, u0), (0, u1), (0, u2)] ∧ S.1 u0 = 33 ∧ p u0 u1 u2 S V) (fun a S V rs S' V' => ∃ u0 u1 u2 r : Int, a = [(2, u0), (0, u1), (0, u2)] ∧ rs = [(0, r)] ∧ q u0 u1 u2 S V r S' V') := j_callV n_NWk h.2.2.2.2.2 h.1 hM ⟨h.2.1.1, h.2.1.2, h.2.2.1, h.2.2.2.1, h.2.2.2.2.1⟩ ⟨n_CB (y := y_13_37) (bytes := b_13_37) 2 h.2.2.2.2.1 n_w1070 n_w1067 n_w12 ⟨by decide, by decide, by decide +kernel⟩ rfl rfl ⟨by rw [hrm.1]; exact Nat.le_of_ble_eq_true rfl, by rw [hrm.2]; exact Nat.le_of_ble_eq_true rfl⟩, h.2.2.2.2.1 _ n_w1069, h.2.2.2.2.1 _ n_s46⟩ (Cn := RX12) (fun a S V hP => by obtain ⟨u0, u1, u2, rfl, e, -⟩ := hP; exact ⟨u0, _, 12, _, _, TX12, 31, rfl, rfl, by rw [e]; decide, by rw [e]; rfl, rfl⟩)
theorem K13_38_110 {C : qCx} {G : jG} {mc ms : Nat} {p : Int → Int → jS → jH → Prop} {q : Int → Int → jS → jH → Int → jS → jH → Prop} (h : x13_38 C G) (hrm : C.2.2.2.1.frames = 3 ∧ C.2.2.2.1.locals = 78) (hM : M13_36 C.2.1 mc ms p q) : j_Call C b_13_38 n_KT G.1 G.2.1 4 (.invokevirtual 221) mc ms (fun a S V => ∃ u0 u1 : Int, a = [(2, u0), (0, u1)] ∧ S.1 u0 = 33 ∧ p u0 u1 S V) (fun a S V rs S' V' => ∃ u0 u1 r : Int, a = [(2, u0), (0, u1)] ∧ rs = [(0, r)] ∧ q u0 u1 S V r S' V') := j_callV n_NWk h.2.2.2.2.2 h.1 hM ⟨h.2.1.1, h.2.1.2, h.2.2.1, h.2.2.2.1, h.2.2.2.2.1⟩ ⟨n_CB (y := y_13_36) (bytes := b_13_36) 1 h.2.2.2.2.1 n_w1066 n_w1063 n_w12 ⟨by decide, by decide, by decide +kernel⟩ rfl rfl ⟨by rw [hrm.1]; exact Nat.le_of_ble_eq_true rfl, by rw [hrm.2]; exact Nat.le_of_ble_eq_true rfl⟩, h.2.2.2.2.1 _ n_w1065, h.2.2.2.2.1 _ n_s45⟩ (Cn := RX12) (fun a S V hP => by obtain ⟨u0, u1, rfl, e, -⟩ := hP; exact ⟨u0, _, 12, _, _, TX12, 31, rfl, rfl, by rw [e]; decide, by rw [e]; rfl, rfl⟩)
theorem K13_38_125 {C : qCx} {G : jG} {mc ms : Nat} {p : Int → Int → Int → jS → jH → Prop} {q : Int → Int → Int → jS → jH → Int → jS → jH → Prop} (h : x13_38 C G) (hrm : C.2.2.2.1.frames = 3 ∧ C.2.2.2.1.locals = 78) (hM : M13_3 C.2.1 mc ms p q) : j_Call C b_13_38 n_KT G.1 G.2.1 4 (.invokestatic 69) mc ms (fun a S V => ∃ u0 u1 u2 : Int, a = [(1, u0), (1, u1), (1, u2)] ∧ p u0 u1 u2 S V) (fun a S V rs S' V' => ∃ u0 u1 u2 r : Int, a = [(1, u0), (1, u1), (1, u2)] ∧ rs = [(0, r)] ∧ q u0 u1 u2 S V r S' V') := j_callS n_NWk h.2.2.2.2.2 h.1 hM ⟨h.2.1.1, h.2.1.2, h.2.2.1, h.2.2.2.1, h.2.2.2.2.1⟩ ⟨n_CB (y := y_13_3) (bytes := b_13_3) 3 h.2.2.2.2.1 n_w923 n_w921 n_w12 ⟨by decide, by decide, by decide +kernel⟩ rfl rfl ⟨by rw [hrm.1]; exact Nat.le_of_ble_eq_true rfl, by rw [hrm.2]; exact Nat.le_of_ble_eq_true rfl⟩, h.2.2.2.2.1 _ n_w922⟩ (fun a S V hP => by obtain ⟨u0, u1, u2, rfl, -⟩ := hP; rfl)
theorem K13_38_137 {C : qCx} {G : jG} {mc ms : Nat} {p : Int → Int → Int → jS → jH → Prop} {q : Int → Int → Int → jS → jH → Int → jS → jH → Prop} (h : x13_38 C G) (hrm : C.2.2.2.1.frames = 3 ∧ C.2.2.2.1.locals = 78) (hM : M13_37 C.2.1 mc ms p q) : j_Call C b_13_38 n_KT G.1 G.2.1 4 (.invokevirtual 224) mc ms (fun a S V => ∃ u0 u1 u2 : Int, a = [(2, u0), (0, u1), (0, u2)] ∧ S.1 u0 = 33 ∧ p u0 u1 u2 S V) (fun a S V rs S' V' => ∃ u0 u1 u2 r : Int, a = [(2, u0), (0, u1), (0, u2)] ∧ rs = [(0, r)] ∧ q u0 u1 u2 S V r S' V') := j_callV n_NWk h.2.2.2.2.2 h.1 hM ⟨h.2.1.1, h.2.1.2, h.2.2.1, h.2.2.2.1, h.2.2.2.2.1⟩ ⟨n_CB (y := y_13_37) (bytes := b_13_37) 2 h.2.2.2.2.1 n_w1070 n_w1067 n_w12 ⟨by decide, by decide, by decide +kernel⟩ rfl rfl ⟨by rw [hrm.1]; exact Nat.le_of_ble_eq_true rfl, by rw [hrm.2]; exact Nat.le_of_ble_eq_true rfl⟩, h.2.2.2.2.1 _ n_w1069, h.2.2.2.2.1 _ n_s46⟩ (Cn := RX12) (fun a S V hP => by obtain ⟨u0, u1, u2, rfl, e, -⟩ := hP; exact ⟨u0, _, 12, _, _, TX12, 31, rfl, rfl, by rw [e]; decide, by rw [e]; rfl, rfl⟩)
theorem K13_38_230 {C : qCx} {G : jG} {mc ms : Nat} {p : Int → Int → jS → jH → Prop} {q : Int → Int → jS → jH → Int → jS → jH → Prop} (h : x13_38 C G) (hrm : C.2.2.2.1.frames = 3 ∧ C.2.2.2.1.locals = 78) (hM : M13_39 C.2.1 mc ms p q) : j_Call C b_13_38 n_KT G.1 G.2.1 4 (.invokevirtual 235) mc ms (fun a S V => ∃ u0 u1 : Int, a = [(2, u0), (0, u1)] ∧ S.1 u0 = 33 ∧ p u0 u1 S V) (fun a S V rs S' V' => ∃ u0 u1 r : Int, a = [(2, u0), (0, u1)] ∧ rs = [(0, r)] ∧ q u0 u1 S V r S' V') := j_callV n_NWk h.2.2.2.2.2 h.1 hM ⟨h.2.1.1, h.2.1.2, h.2.2.1, h.2.2.2.1, h.2.2.2.2.1⟩ ⟨n_CB (y := y_13_39) (bytes := b_13_39) 1 h.2.2.2.2.1 n_w1075 n_w1072 n_w12 ⟨by decide, by decide, by decide +kernel⟩ rfl rfl ⟨by rw [hrm.1]; exact Nat.le_of_ble_eq_true rfl, by rw [hrm.2]; exact Nat.le_of_ble_eq_true rfl⟩, h.2.2.2.2.1 _ n_w1074, h.2.2.2.2.1 _ n_s47⟩ (Cn := RX12) (fun a S V hP => by obtain ⟨u0, u1, rfl, e, -⟩ := hP; exact ⟨u0, _, 12, _, _, TX12, 31, rfl, rfl, by rw [e]; decide, by rw [e]; rfl, rfl⟩)
theorem K13_38_266 {C : qCx} {G : jG} {mc ms : Nat} {p : Int → Int → jS → jH → Prop} {q : Int → Int → jS → jH → Int → jS → jH → Prop} (h : x13_38 C G) (hrm : C.2.2.2.1.frames = 3 ∧ C.2.2.2.1.locals = 78) (hM : M13_36 C.2.1 mc ms p q) : j_Call C b_13_38 n_KT G.1 G.2.1 4 (.invokevirtual 221) mc ms (fun a S V => ∃ u0 u1 : Int, a = [(2, u0), (0, u1)] ∧ S.1 u0 = 33 ∧ p u0 u1 S V) (fun a S V rs S' V' => ∃ u0 u1 r : Int, a = [(2, u0), (0, u1)] ∧ rs = [(0, r)] ∧ q u0 u1 S V r S' V') := j_callV n_NWk h.2.2.2.2.2 h.1 hM ⟨h.2.1.1, h.2.1.2, h.2.2.1, h.2.2.2.1, h.2.2.2.2.1⟩ ⟨n_CB (y := y_13_36) (bytes := b_13_36) 1 h.2.2.2.2.1 n_w1066 n_w1063 n_w12 ⟨by decide, by decide, by decide +kernel⟩ rfl rfl ⟨by rw [hrm.1]; exact Nat.le_of_ble_eq_true rfl, by rw [hrm.2]; exact Nat.le_of_ble_eq_true rfl⟩, h.2.2.2.2.1 _ n_w1065, h.2.2.2.2.1 _ n_s45⟩ (Cn := RX12) (fun a S V hP => by obtain ⟨u0, u1, rfl, e, -⟩ := hP; exact ⟨u0, _, 12, _, _, TX12, 31, rfl, rfl, by rw [e]; decide, by rw [e]; rfl, rfl⟩)
theorem K13_38_288 {C : qCx} {G : jG} {mc ms : Nat} {p : Int → Int → Int → jS → jH → Prop} {q : Int → Int → Int → jS → jH → Int → jS → jH → Prop} (h : x13_38 C G) (hrm : C.2.2.2.1.frames = 3 ∧ C.2.2.2.1.locals = 78) (hM : M13_3 C.2.1 mc ms p q) : j_Call C b_13_38 n_KT G.1 G.2.1 4 (.invokestatic 69) mc ms (fun a S V => ∃ u0 u1 u2 : Int, a = [(1, u0), (1, u1), (1, u2)] ∧ p u0 u1 u2 S V) (fun a S V rs S' V' => ∃ u0 u1 u2 r : Int, a = [(1, u0), (1, u1), (1, u2)] ∧ rs = [(0, r)] ∧ q u0 u1 u2 S V r S' V') := j_callS n_NWk h.2.2.2.2.2 h.1 hM ⟨h.2.1.1, h.2.1.2, h.2.2.1, h.2.2.2.1, h.2.2.2.2.1⟩ ⟨n_CB (y := y_13_3) (bytes := b_13_3) 3 h.2.2.2.2.1 n_w923 n_w921 n_w12 ⟨by decide, by decide, by decide +kernel⟩ rfl rfl ⟨by rw [hrm.1]; exact Nat.le_of_ble_eq_true rfl, by rw [hrm.2]; exact Nat.le_of_ble_eq_true rfl⟩, h.2.2.2.2.1 _ n_w922⟩ (fun a S V hP => by obtain ⟨u0, u1, u2, rfl, -⟩ := hP; rfl)
theorem K13_38_297 {C : qCx} {G : jG} {mc ms : Nat} {p : Int → Int → Int → jS → jH → Prop} {q : Int → Int → Int → jS → jH → Int → jS → jH → Prop} (h : x13_38 C G) (hrm : C.2.2.2.1.frames = 3 ∧ C.2.2.2.1.locals = 78) (hM : M13_37 C.2.1 mc ms p q) : j_Call C b_13_38 n_KT G.1 G.2.1 4 (.invokevirtual 224) mc ms (fun a S V => ∃ u0 u1 u2 : Int, a = [(2, u0), (0, u1), (0, u2)] ∧ S.1 u0 = 33 ∧ p u0 u1 u2 S V) (fun a S V rs S' V' => ∃ u0 u1 u2 r : Int, a = [(2, u0), (0, u1), (0, u2)] ∧ rs = [(0, r)] ∧ q u0 u1 u2 S V r S' V') := j_callV n_NWk h.2.2.2.2.2 h.1 hM ⟨h.2.1.1, h.2.1.2, h.2.2.1, h.2.2.2.1, h.2.2.2.2.1⟩ ⟨n_CB (y := y_13_37) (bytes := b_13_37) 2 h.2.2.2.2.1 n_w1070 n_w1067 n_w12 ⟨by decide, by decide, by decide +kernel⟩ rfl rfl ⟨by rw [hrm.1]; exact Nat.le_of_ble_eq_true rfl, by rw [hrm.2]; exact Nat.le_of_ble_eq_true rfl⟩, h.2.2.2.2.1 _ n_w1069, h.2.2.2.2.1 _ n_s46⟩ (Cn := RX12) (fun a S V hP => by obtain ⟨u0, u1, u2, rfl, e, -⟩ := hP; exact ⟨u0, _, 12, _, _, TX12, 31, rfl, rfl, by rw [e]; decide, by rw [e]; rfl, rfl⟩)
theorem K13_38_310 {C : qCx} {G : jG} {mc ms : Nat} {p : Int → Int → jS → jH → Prop} {q : Int → Int → jS → jH → Int → jS → jH → Prop} (h : x13_38 C G) (hrm : C.2.2.2.1.frames = 3 ∧ C.2.2.2.1.locals = 78) (hM : M13_36 C.2.1 mc ms p q) : j_Call C b_13_38 n_KT G.1 G.2.1 4 (.invokevirtual 221) mc ms (fun a S V => ∃ u0 u1 : Int, a = [(2, u0), (0, u1)] ∧ S.1 u0 = 33 ∧ p u0 u1 S V) (fun a S V rs S' V' => ∃ u0 u1 r : Int, a = [(2, u0), (0, u1)] ∧ rs = [(0, r)] ∧ q u0 u1 S V r S' V') := j_callV n_NWk h.2.2.2.2.2 h.1 hM ⟨h.2.1.1, h.2.1.2, h.2.2.1, h.2.2.2.1, h.2.2.2.2.1⟩ ⟨n_CB (y := y_13_36) (bytes := b_13_36) 1 h.2.2.2.2.1 n_w1066 n_w1063 n_w12 ⟨by decide, by decide, by decide +kernel⟩ rfl rfl ⟨by rw [hrm.1]; exact Nat.le_of_ble_eq_true rfl, by rw [hrm.2]; exact Nat.le_of_ble_eq_true rfl⟩, h.2.2.2.2.1 _ n_w1065, h.2.2.2.2.1 _ n_s45⟩ (Cn := RX12) (fun a S V hP => by obtain ⟨u0, u1, rfl, e, -⟩ := hP; exact ⟨u0, _, 12, _, _, TX12, 31, rfl, rfl, by rw [e]; decide, by rw [e]; rfl, rfl⟩)
theorem K13_38_382 {C : qCx} {G : jG} {mc ms : Nat} {p : Int → Int → jS → jH → Prop} {q : Int → Int → jS → jH → Int → jS → jH → Prop} (h : x13_38 C G) (hrm : C.2.2.2.1.frames = 3 ∧ C.2.2.2.1.locals = 78) (hM : M13_36 C.2.1 mc ms p q) : j_Call C b_13_38 n_KT G.1 G.2.1 4 (.invokevirtual 221) mc ms (fun a S V => ∃ u0 u1 : Int, a = [(2, u0), (0, u1)] ∧ S.1 u0 = 33 ∧ p u0 u1 S V) (fun a S V rs S' V' => ∃ u0 u1 r : Int, a = [(2, u0), (0, u1)] ∧ rs = [(0, r)] ∧ q u0 u1 S V r S' V') := j_callV n_NWk h.2.2.2.2.2 h.1 hM ⟨h.2.1.1, h.2.1.2, h.2.2.1, h.2.2.2.1, h.2.2.2.2.1⟩ ⟨n_CB (y := y_13_36) (bytes := b_13_36) 1 h.2.2.2.2.1 n_w1066 n_w1063 n_w12 ⟨by decide, by decide, by decide +kernel⟩ rfl rfl ⟨by rw [hrm.1]; exact Nat.le_of_ble_eq_true rfl, by rw [hrm.2]; exact Nat.le_of_ble_eq_true rfl⟩, h.2.2.2.2.1 _ n_w1065, h.2.2.2.2.1 _ n_s45⟩ (Cn := RX12) (fun a S V hP => by obtain ⟨u0, u1, rfl, e, -⟩ := hP; exact ⟨u0, _, 12, _, _, TX12, 31, rfl, rfl, by rw [e]; decide, by rw [e]; rfl, rfl⟩)
theorem K13_38_403 {C : qCx} {G : jG} {mc ms : Nat} {p : Int → Int → jS → jH → Prop} {q : Int → Int → jS → jH → Int → jS → jH → Prop} (h : x13_38 C G) (hrm : C.2.2.2.1.frames = 3 ∧ C.2.2.2.1.locals = 78) (hM : M13_29 C.2.1 mc ms p q) : j_Call C b_13_38 n_KT G.1 G.2.1 4 (.invokestatic 185) mc ms (fun a S V => ∃ u0 u1 : Int, a = [(2, u0), (0, u1)] ∧ p u0 u1 S V) (fun a S V rs S' V' => ∃ u0 u1 r : Int, a = [(2, u0), (0, u1)] ∧ rs = [(0, r)] ∧ q u0 u1 S V r S' V') := j_callS n_NWk h.2.2.2.2.2 h.1 hM ⟨h.2.1.1, h.2.1.2, h.2.2.1, h.2.2.2.1, h.2.2.2.2.1⟩ ⟨n_CB (y := y_13_29) (bytes := b_13_29) 2 h.2.2.2.2.1 n_w1037 n_w1035 n_w12 ⟨by decide, by decide, by decide +kernel⟩ rfl rfl ⟨by rw [hrm.1]; exact Nat.le_of_ble_eq_true rfl, by rw [hrm.2]; exact Nat.le_of_ble_eq_true rfl⟩, h.2.2.2.2.1 _ n_w1036⟩ (fun a S V hP => by obtain ⟨u0, u1, rfl, -⟩ := hP; rfl)
theorem t13_38_0 {C : qCx} {G : jG} {S : jS} {V : jH} {nc ns : Nat} {l0 : Int} {mc ms : Nat} {pp : Int → Int → jS → jH → Prop} {qq : Int → Int → jS → jH → Int → jS → jH → Prop} (h : x13_38 C G) (hrm : C.2.2.2.1.frames = 3 ∧ C.2.2.2.1.locals = 78) (c1 : S.1 l0 = 33) (hM : M13_36 C.2.1 mc ms pp qq) (hp : pp l0 1 S (j_up V l0 22 0)) (hc : nc + mc ≤ C.2.2.2.1.cells) (hs : ns + ms ≤ C.2.2.2.1.slots) (k : ∀ (r : Int) (S' : jS) (V' : jH), qq l0 1 S (j_up V l0 22 0) r S' V' → j_ok n_KT 4 C G 11 [(0, (2, l0))] [(0, r), (2, l0)] S' V' (nc + mc) (ns + ms)) : j_ok n_KT 4 C G 0 [(0, (2, l0))] [] S V nc ns := by
  have E := n_E h
  refine j_aload_n E d13_38_0 rfl 0 rfl ?_
  refine j_iconst E d13_38_1 (by decide) ?_
  refine j_putI (f := 22) (fp12_218 h) (n_hap h 33 12 0 _ rfl) d13_38_2 c1 (by decide) rfl rfl rfl ?_
  refine j_aload_n E d13_38_5 rfl 0 rfl ?_
  refine j_aload_n E d13_38_6 rfl 0 rfl ?_
  refine j_iconst E d13_38_7 (by decide) ?_
  refine j_call E (K13_38_8 h hrm hM) d13_38_8 (a := [(2, l0), (0, 1)]) (sk := [(2, l0)]) rfl ⟨l0, 1, rfl, c1, hp⟩ (Nat.le_of_ble_eq_true rfl) hc hs ?_
  rintro rs S' V' ⟨z0, z1, r, e1, rfl, q⟩
  simp only [List.cons.injEq, Prod.mk.injEq, and_true, true_and] at e1
  obtain ⟨rfl, rfl⟩ := e1
  exact j_pick [0] rfl (k r S' V' q)
theorem t13_38_11 {C : qCx} {G : jG} {S : jS} {V : jH} {nc ns : Nat} {l0 s0 s1 : Int} {mc ms : Nat} {pp : Int → Int → Int → jS → jH → Prop} {qq : Int → Int → Int → jS → jH → Int → jS → jH → Prop} (h : x13_38 C G) (hrm : C.2.2.2.1.frames = 3 ∧ C.2.2.2.1.locals = 78) (c1 : S.1 s1 = 33) (c2 : S.1 l0 = 33) (hM : M13_3 C.2.1 mc ms pp qq) (hp : pp ((j_up V s1 9 s0) l0 9) 0 4 S (j_up V s1 9 s0)) (hc : nc + mc ≤ C.2.2.2.1.cells) (hs : ns + ms ≤ C.2.2.2.1.slots) (k : ∀ (r : Int) (S' : jS) (V' : jH), qq ((j_up V s1 9 s0) l0 9) 0 4 S (j_up V s1 9 s0) r S' V' → j_ok n_KT 4 C G 26 [(0, (2, l0))] [(0, r)] S' V' (nc + mc) (ns + ms)) : j_ok n_KT 4 C G 11 [(0, (2, l0))] [(0, s0), (2, s1)] S V nc ns := by
  have E := n_E h
  refine j_putI (f := 9) (fp12_149 h) (n_hap h 33 12 0 _ rfl) d13_38_11 c1 (by decide) rfl rfl rfl ?_
  refine j_aload_n E d13_38_14 rfl 0 rfl ?_
  refine j_getI (f := 9) (fg12_149 h) d13_38_15 c2 (by decide) rfl rfl ?_
  refine j_i2l E d13_38_18 ?_
  refine j_lconst E d13_38_19 ?_
  refine j_ldc2 (n := 4) (fl12_96 h) rfl d13_38_20 ?_
  refine j_call E (K13_38_23 h hrm hM) d13_38_23 (a := [(1, (j_up V s1 9 s0) l0 9), (1, 0), (1, 4)]) (sk := []) rfl ⟨(j_up V s1 9 s0) l0 9, 0, 4, rfl, hp⟩ (Nat.le_of_ble_eq_true rfl) hc hs ?_
  rintro rs S' V' ⟨z0, z1, z2, r, e1, rfl, q⟩
  simp only [List.cons.injEq, Prod.mk.injEq, and_true, true_and] at e1
  obtain ⟨rfl, rfl, rfl⟩ := e1
  exact j_pick [0] rfl (k r S' V' q)
theorem t13_38_26 {C : qCx} {G : jG} {S : jS} {V : jH} {nc ns : Nat} {l0 s0 : Int} (h : x13_38 C G)  (k : ¬ s0 = 0 → j_ok n_KT 4 C G 39 [(0, (2, l0))] [] S V nc ns) (k' : s0 = 0 → j_ok n_KT 4 C G 29 [(0, (2, l0))] [] S V nc ns) : j_ok n_KT 4 C G 26 [(0, (2, l0))] [(0, s0)] S V nc ns := by
  have E := n_E h
  exact j_if_ne E d13_38_26 (t := 39) rfl (fun q => j_pick [0] rfl (k q)) (fun q => j_pick [0] rfl (k' q))
theorem t13_38_29 {C : qCx} {G : jG} {S : jS} {V : jH} {nc ns : Nat} {l0 : Int} {mc ms : Nat} {pp : Int → Int → Int → jS → jH → Prop} {qq : Int → Int → Int → jS → jH → Int → jS → jH → Prop} (h : x13_38 C G) (hrm : C.2.2.2.1.frames = 3 ∧ C.2.2.2.1.locals = 78) (c1 : S.1 l0 = 33) (hM : M13_37 C.2.1 mc ms pp qq) (hp : pp l0 (V l0 9) 1 S V) (hc : nc + mc ≤ C.2.2.2.1.cells) (hs : ns + ms ≤ C.2.2.2.1.slots) (k : ∀ (r : Int) (S' : jS) (V' : jH), qq l0 (V l0 9) 1 S V r S' V' → j_ok n_KT 4 C G 38 [] [(0, r)] S' V' (nc + mc) (ns + ms)) : j_ok n_KT 4 C G 29 [(0, (2, l0))] [] S V nc ns := by
  have E := n_E h
  refine j_aload_n E d13_38_29 rfl 0 rfl ?_
  refine j_aload_n E d13_38_30 rfl 0 rfl ?_
  refine j_getI (f := 9) (fg12_149 h) d13_38_31 c1 (by decide) rfl rfl ?_
  refine j_iconst E d13_38_34 (by decide) ?_
  refine j_call E (K13_38_35 h hrm hM) d13_38_35 (a := [(2, l0), (0, V l0 9), (0, 1)]) (sk := []) rfl ⟨l0, V l0 9, 1, rfl, c1, hp⟩ (Nat.le_of_ble_eq_true rfl) hc hs ?_
  rintro rs S' V' ⟨z0, z1, z2, r, e1, rfl, q⟩
  simp only [List.cons.injEq, Prod.mk.injEq, and_true, true_and] at e1
  obtain ⟨rfl, rfl, rfl⟩ := e1
  exact j_pick [] rfl (k r S' V' q)
theorem t13_38_38 {C : qCx} {G : jG} {S : jS} {V : jH} {nc ns : Nat} {s0 : Int} {mc ms : Nat} {qf : Int → jS → jH → Prop} (h : x13_38 C G)  (R : j_Ri n_KT 4 C G b_13_38 mc ms qf) (q : qf s0 S V) (hc : nc ≤ mc) (hs : ns ≤ ms) : j_ok n_KT 4 C G 38 [] [(0, s0)] S V nc ns := by
  have E := n_E h
  exact R _ _ _ _ _ _ _ d13_38_38 q hc hs
theorem t13_38_39 {C : qCx} {G : jG} {S : jS} {V : jH} {nc ns : Nat} {l0 : Int} {mc ms : Nat} {pp : Int → Int → jS → jH → Prop} {qq : Int → Int → jS → jH → Int → jS → jH → Prop} (h : x13_38 C G) (hrm : C.2.2.2.1.frames = 3 ∧ C.2.2.2.1.locals = 78) (c1 : S.1 l0 = 33) (hM : M13_36 C.2.1 mc ms pp qq) (hp : pp l0 1 S V) (hc : nc + mc ≤ C.2.2.2.1.cells) (hs : ns + ms ≤ C.2.2.2.1.slots) (k : ∀ (r : Int) (S' : jS) (V' : jH), qq l0 1 S V r S' V' → j_ok n_KT 4 C G 44 [(0, (2, l0))] [(0, r)] S' V' (nc + mc) (ns + ms)) : j_ok n_KT 4 C G 39 [(0, (2, l0))] [] S V nc ns := by
  have E := n_E h
  refine j_aload_n E d13_38_39 rfl 0 rfl ?_
  refine j_iconst E d13_38_40 (by decide) ?_
  refine j_call E (K13_38_41 h hrm hM) d13_38_41 (a := [(2, l0), (0, 1)]) (sk := []) rfl ⟨l0, 1, rfl, c1, hp⟩ (Nat.le_of_ble_eq_true rfl) hc hs ?_
  rintro rs S' V' ⟨z0, z1, r, e1, rfl, q⟩
  simp only [List.cons.injEq, Prod.mk.injEq, and_true, true_and] at e1
  obtain ⟨rfl, rfl⟩ := e1
  exact j_pick [0] rfl (k r S' V' q)
theorem t13_38_44 {C : qCx} {G : jG} {S : jS} {V : jH} {nc ns : Nat} {l0 s0 : Int} {mc ms : Nat} {pp : Int → Int → Int → jS → jH → Prop} {qq : Int → Int → Int → jS → jH → Int → jS → jH → Prop} (h : x13_38 C G) (hrm : C.2.2.2.1.frames = 3 ∧ C.2.2.2.1.locals = 78)  (hM : M13_3 C.2.1 mc ms pp qq) (hp : pp s0 8 12 S V) (hc : nc + mc ≤ C.2.2.2.1.cells) (hs : ns + ms ≤ C.2.2.2.1.slots) (k : ∀ (r : Int) (S' : jS) (V' : jH), qq s0 8 12 S V r S' V' → j_ok n_KT 4 C G 56 [(0, (2, l0)), (1, (0, s0))] [(0, r)] S' V' (nc + mc) (ns + ms)) : j_ok n_KT 4 C G 44 [(0, (2, l0))] [(0, s0)] S V nc ns := by
  have E := n_E h
  refine j_istore_n E d13_38_44 rfl (by decide) (lo1 := [(0, (2, l0))]) rfl ?_
  refine j_iload_n E d13_38_45 rfl 0 rfl ?_
  refine j_i2l E d13_38_46 ?_
  refine j_ldc2 (n := 8) (fl12_80 h) rfl d13_38_47 ?_
  refine j_ldc2 (n := 12) (fl12_98 h) rfl d13_38_50 ?_
  refine j_call E (K13_38_53 h hrm hM) d13_38_53 (a := [(1, s0), (1, 8), (1, 12)]) (sk := []) rfl ⟨s0, 8, 12, rfl, hp⟩ (Nat.le_of_ble_eq_true rfl) hc hs ?_
  rintro rs S' V' ⟨z0, z1, z2, r, e1, rfl, q⟩
  simp only [List.cons.injEq, Prod.mk.injEq, and_true, true_and] at e1
  obtain ⟨rfl, rfl, rfl⟩ := e1
  exact j_pick [1, 0] rfl (k r S' V' q)
theorem t13_38_56 {C : qCx} {G : jG} {S : jS} {V : jH} {nc ns : Nat} {l0 l1 s0 : Int} (h : x13_38 C G)  (k : ¬ s0 = 0 → j_ok n_KT 4 C G 66 [(0, (2, l0)), (1, (0, l1))] [] S V nc ns) (k' : s0 = 0 → j_ok n_KT 4 C G 59 [(0, (2, l0)), (1, (0, l1))] [] S V nc ns) : j_ok n_KT 4 C G 56 [(0, (2, l0)), (1, (0, l1))] [(0, s0)] S V nc ns := by
  have E := n_E h
  exact j_if_ne E d13_38_56 (t := 66) rfl (fun q => j_pick [0, 1] rfl (k q)) (fun q => j_pick [0, 1] rfl (k' q))
theorem t13_38_59 {C : qCx} {G : jG} {S : jS} {V : jH} {nc ns : Nat} {l0 l1 : Int} {mc ms : Nat} {pp : Int → Int → Int → jS → jH → Prop} {qq : Int → Int → Int → jS → jH → Int → jS → jH → Prop} (h : x13_38 C G) (hrm : C.2.2.2.1.frames = 3 ∧ C.2.2.2.1.locals = 78) (c1 : S.1 l0 = 33) (hM : M13_37 C.2.1 mc ms pp qq) (hp : pp l0 l1 1 S V) (hc : nc + mc ≤ C.2.2.2.1.cells) (hs : ns + ms ≤ C.2.2.2.1.slots) (k : ∀ (r : Int) (S' : jS) (V' : jH), qq l0 l1 1 S V r S' V' → j_ok n_KT 4 C G 65 [] [(0, r)] S' V' (nc + mc) (ns + ms)) : j_ok n_KT 4 C G 59 [(0, (2, l0)), (1, (0, l1))] [] S V nc ns := by
  have E := n_E h
  refine j_aload_n E d13_38_59 rfl 0 rfl ?_
  refine j_iload_n E d13_38_60 rfl 1 rfl ?_
  refine j_iconst E d13_38_61 (by decide) ?_
  refine j_call E (K13_38_62 h hrm hM) d13_38_62 (a := [(2, l0), (0, l1), (0, 1)]) (sk := []) rfl ⟨l0, l1, 1, rfl, c1, hp⟩ (Nat.le_of_ble_eq_true rfl) hc hs ?_
  rintro rs S' V' ⟨z0, z1, z2, r, e1, rfl, q⟩
  simp only [List.cons.injEq, Prod.mk.injEq, and_true, true_and] at e1
  obtain ⟨rfl, rfl, rfl⟩ := e1
  exact j_pick [] rfl (k r S' V' q)
theorem t13_38_65 {C : qCx} {G : jG} {S : jS} {V : jH} {nc ns : Nat} {s0 : Int} {mc ms : Nat} {qf : Int → jS → jH → Prop} (h : x13_38 C G)  (R : j_Ri n_KT 4 C G b_13_38 mc ms qf) (q : qf s0 S V) (hc : nc ≤ mc) (hs : ns ≤ ms) : j_ok n_KT 4 C G 65 [] [(0, s0)] S V nc ns := by
  have E := n_E h
  exact R _ _ _ _ _ _ _ d13_38_65 q hc hs
theorem t13_38_66 {C : qCx} {G : jG} {S : jS} {V : jH} {nc ns : Nat} {l0 l1 : Int} {mc ms : Nat} {pp : Int → Int → jS → jH → Prop} {qq : Int → Int → jS → jH → Int → jS → jH → Prop} (h : x13_38 C G) (hrm : C.2.2.2.1.frames = 3 ∧ C.2.2.2.1.locals = 78) (c1 : 0 ≤ l1) (c2 : l1 ≤ 30) (c3 : S.1 l0 = 33) (hM : M13_36 C.2.1 mc ms pp qq) (hp : pp l0 1 S (j_up V l0 10 (2 ^ (l1).toNat))) (hc : nc + mc ≤ C.2.2.2.1.cells) (hs : ns + ms ≤ C.2.2.2.1.slots) (k : ∀ (r : Int) (S' : jS) (V' : jH), qq l0 1 S (j_up V l0 10 (2 ^ (l1).toNat)) r S' V' → j_ok n_KT 4 C G 79 [(0, (2, l0))] [(0, r), (2, l0)] S' V' (nc + mc) (ns + ms)) : j_ok n_KT 4 C G 66 [(0, (2, l0)), (1, (0, l1))] [] S V nc ns := by
  have E := n_E h
  refine j_aload_n E d13_38_66 rfl 0 rfl ?_
  refine j_iconst E d13_38_67 (by decide) ?_
  refine j_iload_n E d13_38_68 rfl 1 rfl ?_
  refine j_ishl1 E d13_38_69 rfl c1 c2 ?_
  refine j_putI (f := 10) (fp12_171 h) (n_hap h 33 12 0 _ rfl) d13_38_70 c3 (by decide) rfl rfl rfl ?_
  refine j_aload_n E d13_38_73 rfl 0 rfl ?_
  refine j_aload_n E d13_38_74 rfl 0 rfl ?_
  refine j_iconst E d13_38_75 (by decide) ?_
  refine j_call E (K13_38_76 h hrm hM) d13_38_76 (a := [(2, l0), (0, 1)]) (sk := [(2, l0)]) rfl ⟨l0, 1, rfl, c3, hp⟩ (Nat.le_of_ble_eq_true rfl) hc hs ?_
  rintro rs S' V' ⟨z0, z1, r, e1, rfl, q⟩
  simp only [List.cons.injEq, Prod.mk.injEq, and_true, true_and] at e1
  obtain ⟨rfl, rfl⟩ := e1
  exact j_pick [0] rfl (k r S' V' q)
theorem t13_38_79 {C : qCx} {G : jG} {S : jS} {V : jH} {nc ns : Nat} {l0 s0 s1 : Int} {mc ms : Nat} {pp : Int → Int → Int → jS → jH → Prop} {qq : Int → Int → Int → jS → jH → Int → jS → jH → Prop} (h : x13_38 C G) (hrm : C.2.2.2.1.frames = 3 ∧ C.2.2.2.1.locals = 78) (c1 : S.1 s1 = 33) (c2 : S.1 l0 = 33) (hM : M13_3 C.2.1 mc ms pp qq) (hp : pp ((j_up V s1 23 s0) l0 23) 1 4 S (j_up V s1 23 s0)) (hc : nc + mc ≤ C.2.2.2.1.cells) (hs : ns + ms ≤ C.2.2.2.1.slots) (k : ∀ (r : Int) (S' : jS) (V' : jH), qq ((j_up V s1 23 s0) l0 23) 1 4 S (j_up V s1 23 s0) r S' V' → j_ok n_KT 4 C G 94 [(0, (2, l0))] [(0, r)] S' V' (nc + mc) (ns + ms)) : j_ok n_KT 4 C G 79 [(0, (2, l0))] [(0, s0), (2, s1)] S V nc ns := by
  have E := n_E h
  refine j_putI (f := 23) (fp12_227 h) (n_hap h 33 12 0 _ rfl) d13_38_79 c1 (by decide) rfl rfl rfl ?_
  refine j_aload_n E d13_38_82 rfl 0 rfl ?_
  refine j_getI (f := 23) (fg12_227 h) d13_38_83 c2 (by decide) rfl rfl ?_
  refine j_i2l E d13_38_86 ?_
  refine j_lconst E d13_38_87 ?_
  refine j_ldc2 (n := 4) (fl12_96 h) rfl d13_38_88 ?_
  refine j_call E (K13_38_91 h hrm hM) d13_38_91 (a := [(1, (j_up V s1 23 s0) l0 23), (1, 1), (1, 4)]) (sk := []) rfl ⟨(j_up V s1 23 s0) l0 23, 1, 4, rfl, hp⟩ (Nat.le_of_ble_eq_true rfl) hc hs ?_
  rintro rs S' V' ⟨z0, z1, z2, r, e1, rfl, q⟩
  simp only [List.cons.injEq, Prod.mk.injEq, and_true, true_and] at e1
  obtain ⟨rfl, rfl, rfl⟩ := e1
  exact j_pick [0] rfl (k r S' V' q)
theorem t13_38_94 {C : qCx} {G : jG} {S : jS} {V : jH} {nc ns : Nat} {l0 s0 : Int} (h : x13_38 C G)  (k : ¬ s0 = 0 → j_ok n_KT 4 C G 107 [(0, (2, l0))] [] S V nc ns) (k' : s0 = 0 → j_ok n_KT 4 C G 97 [(0, (2, l0))] [] S V nc ns) : j_ok n_KT 4 C G 94 [(0, (2, l0))] [(0, s0)] S V nc ns := by
  have E := n_E h
  exact j_if_ne E d13_38_94 (t := 107) rfl (fun q => j_pick [0] rfl (k q)) (fun q => j_pick [0] rfl (k' q))
theorem t13_38_97 {C : qCx} {G : jG} {S : jS} {V : jH} {nc ns : Nat} {l0 : Int} {mc ms : Nat} {pp : Int → Int → Int → jS → jH → Prop} {qq : Int → Int → Int → jS → jH → Int → jS → jH → Prop} (h : x13_38 C G) (hrm : C.2.2.2.1.frames = 3 ∧ C.2.2.2.1.locals = 78) (c1 : S.1 l0 = 33) (hM : M13_37 C.2.1 mc ms pp qq) (hp : pp l0 (V l0 23) 1 S V) (hc : nc + mc ≤ C.2.2.2.1.cells) (hs : ns + ms ≤ C.2.2.2.1.slots) (k : ∀ (r : Int) (S' : jS) (V' : jH), qq l0 (V l0 23) 1 S V r S' V' → j_ok n_KT 4 C G 106 [] [(0, r)] S' V' (nc + mc) (ns + ms)) : j_ok n_KT 4 C G 97 [(0, (2, l0))] [] S V nc ns := by
  have E := n_E h
  refine j_aload_n E d13_38_97 rfl 0 rfl ?_
  refine j_aload_n E d13_38_98 rfl 0 rfl ?_
  refine j_getI (f := 23) (fg12_227 h) d13_38_99 c1 (by decide) rfl rfl ?_
  refine j_iconst E d13_38_102 (by decide) ?_
  refine j_call E (K13_38_103 h hrm hM) d13_38_103 (a := [(2, l0), (0, V l0 23), (0, 1)]) (sk := []) rfl ⟨l0, V l0 23, 1, rfl, c1, hp⟩ (Nat.le_of_ble_eq_true rfl) hc hs ?_
  rintro rs S' V' ⟨z0, z1, z2, r, e1, rfl, q⟩
  simp only [List.cons.injEq, Prod.mk.injEq, and_true, true_and] at e1
  obtain ⟨rfl, rfl, rfl⟩ := e1
  exact j_pick [] rfl (k r S' V' q)
theorem t13_38_106 {C : qCx} {G : jG} {S : jS} {V : jH} {nc ns : Nat} {s0 : Int} {mc ms : Nat} {qf : Int → jS → jH → Prop} (h : x13_38 C G)  (R : j_Ri n_KT 4 C G b_13_38 mc ms qf) (q : qf s0 S V) (hc : nc ≤ mc) (hs : ns ≤ ms) : j_ok n_KT 4 C G 106 [] [(0, s0)] S V nc ns := by
  have E := n_E h
  exact R _ _ _ _ _ _ _ d13_38_106 q hc hs
theorem t13_38_107 {C : qCx} {G : jG} {S : jS} {V : jH} {nc ns : Nat} {l0 : Int} {mc ms : Nat} {pp : Int → Int → jS → jH → Prop} {qq : Int → Int → jS → jH → Int → jS → jH → Prop} (h : x13_38 C G) (hrm : C.2.2.2.1.frames = 3 ∧ C.2.2.2.1.locals = 78) (c1 : S.1 l0 = 33) (hM : M13_36 C.2.1 mc ms pp qq) (hp : pp l0 2 S V) (hc : nc + mc ≤ C.2.2.2.1.cells) (hs : ns + ms ≤ C.2.2.2.1.slots) (k : ∀ (r : Int) (S' : jS) (V' : jH), qq l0 2 S V r S' V' → j_ok n_KT 4 C G 113 [(0, (2, l0))] [(0, r), (2, l0)] S' V' (nc + mc) (ns + ms)) : j_ok n_KT 4 C G 107 [(0, (2, l0))] [] S V nc ns := by
  have E := n_E h
  refine j_aload_n E d13_38_107 rfl 0 rfl ?_
  refine j_aload_n E d13_38_108 rfl 0 rfl ?_
  refine j_iconst E d13_38_109 (by decide) ?_
  refine j_call E (K13_38_110 h hrm hM) d13_38_110 (a := [(2, l0), (0, 2)]) (sk := [(2, l0)]) rfl ⟨l0, 2, rfl, c1, hp⟩ (Nat.le_of_ble_eq_true rfl) hc hs ?_
  rintro rs S' V' ⟨z0, z1, r, e1, rfl, q⟩
  simp only [List.cons.injEq, Prod.mk.injEq, and_true, true_and] at e1
  obtain ⟨rfl, rfl⟩ := e1
  exact j_pick [0] rfl (k r S' V' q)
theorem t13_38_113 {C : qCx} {G : jG} {S : jS} {V : jH} {nc ns : Nat} {l0 s0 s1 : Int} {mc ms : Nat} {pp : Int → Int → Int → jS → jH → Prop} {qq : Int → Int → Int → jS → jH → Int → jS → jH → Prop} (h : x13_38 C G) (hrm : C.2.2.2.1.frames = 3 ∧ C.2.2.2.1.locals = 78) (c1 : S.1 s1 = 33) (c2 : S.1 l0 = 33) (hM : M13_3 C.2.1 mc ms pp qq) (hp : pp ((j_up V s1 24 s0) l0 24) 0 400 S (j_up V s1 24 s0)) (hc : nc + mc ≤ C.2.2.2.1.cells) (hs : ns + ms ≤ C.2.2.2.1.slots) (k : ∀ (r : Int) (S' : jS) (V' : jH), qq ((j_up V s1 24 s0) l0 24) 0 400 S (j_up V s1 24 s0) r S' V' → j_ok n_KT 4 C G 128 [(0, (2, l0))] [(0, r)] S' V' (nc + mc) (ns + ms)) : j_ok n_KT 4 C G 113 [(0, (2, l0))] [(0, s0), (2, s1)] S V nc ns := by
  have E := n_E h
  refine j_putI (f := 24) (fp12_230 h) (n_hap h 33 12 0 _ rfl) d13_38_113 c1 (by decide) rfl rfl rfl ?_
  refine j_aload_n E d13_38_116 rfl 0 rfl ?_
  refine j_getI (f := 24) (fg12_230 h) d13_38_117 c2 (by decide) rfl rfl ?_
  refine j_i2l E d13_38_120 ?_
  refine j_lconst E d13_38_121 ?_
  refine j_ldc2 (n := 400) (fl12_233 h) rfl d13_38_122 ?_
  refine j_call E (K13_38_125 h hrm hM) d13_38_125 (a := [(1, (j_up V s1 24 s0) l0 24), (1, 0), (1, 400)]) (sk := []) rfl ⟨(j_up V s1 24 s0) l0 24, 0, 400, rfl, hp⟩ (Nat.le_of_ble_eq_true rfl) hc hs ?_
  rintro rs S' V' ⟨z0, z1, z2, r, e1, rfl, q⟩
  simp only [List.cons.injEq, Prod.mk.injEq, and_true, true_and] at e1
  obtain ⟨rfl, rfl, rfl⟩ := e1
  exact j_pick [0] rfl (k r S' V' q)
theorem t13_38_128 {C : qCx} {G : jG} {S : jS} {V : jH} {nc ns : Nat} {l0 s0 : Int} (h : x13_38 C G)  (k : ¬ s0 = 0 → j_ok n_KT 4 C G 141 [(0, (2, l0))] [] S V nc ns) (k' : s0 = 0 → j_ok n_KT 4 C G 131 [(0, (2, l0))] [] S V nc ns) : j_ok n_KT 4 C G 128 [(0, (2, l0))] [(0, s0)] S V nc ns := by
  have E := n_E h
  exact j_if_ne E d13_38_128 (t := 141) rfl (fun q => j_pick [0] rfl (k q)) (fun q => j_pick [0] rfl (k' q))
theorem t13_38_131 {C : qCx} {G : jG} {S : jS} {V : jH} {nc ns : Nat} {l0 : Int} {mc ms : Nat} {pp : Int → Int → Int → jS → jH → Prop} {qq : Int → Int → Int → jS → jH → Int → jS → jH → Prop} (h : x13_38 C G) (hrm : C.2.2.2.1.frames = 3 ∧ C.2.2.2.1.locals = 78) (c1 : S.1 l0 = 33) (hM : M13_37 C.2.1 mc ms pp qq) (hp : pp l0 (V l0 24) 2 S V) (hc : nc + mc ≤ C.2.2.2.1.cells) (hs : ns + ms ≤ C.2.2.2.1.slots) (k : ∀ (r : Int) (S' : jS) (V' : jH), qq l0 (V l0 24) 2 S V r S' V' → j_ok n_KT 4 C G 140 [] [(0, r)] S' V' (nc + mc) (ns + ms)) : j_ok n_KT 4 C G 131 [(0, (2, l0))] [] S V nc ns := by
  have E := n_E h
  refine j_aload_n E d13_38_131 rfl 0 rfl ?_
  refine j_aload_n E d13_38_132 rfl 0 rfl ?_
  refine j_getI (f := 24) (fg12_230 h) d13_38_133 c1 (by decide) rfl rfl ?_
  refine j_iconst E d13_38_136 (by decide) ?_
  refine j_call E (K13_38_137 h hrm hM) d13_38_137 (a := [(2, l0), (0, V l0 24), (0, 2)]) (sk := []) rfl ⟨l0, V l0 24, 2, rfl, c1, hp⟩ (Nat.le_of_ble_eq_true rfl) hc hs ?_
  rintro rs S' V' ⟨z0, z1, z2, r, e1, rfl, q⟩
  simp only [List.cons.injEq, Prod.mk.injEq, and_true, true_and] at e1
  obtain ⟨rfl, rfl, rfl⟩ := e1
  exact j_pick [] rfl (k r S' V' q)
theorem t13_38_140 {C : qCx} {G : jG} {S : jS} {V : jH} {nc ns : Nat} {s0 : Int} {mc ms : Nat} {qf : Int → jS → jH → Prop} (h : x13_38 C G)  (R : j_Ri n_KT 4 C G b_13_38 mc ms qf) (q : qf s0 S V) (hc : nc ≤ mc) (hs : ns ≤ ms) : j_ok n_KT 4 C G 140 [] [(0, s0)] S V nc ns := by
  have E := n_E h
  exact R _ _ _ _ _ _ _ d13_38_140 q hc hs
theorem t13_38_141 {C : qCx} {G : jG} {S : jS} {V : jH} {nc ns : Nat} {l0 : Int} (h : x13_38 C G)  (k : j_ok n_KT 4 C G 143 [(0, (2, l0)), (2, (0, 0))] [] S V nc ns) : j_ok n_KT 4 C G 141 [(0, (2, l0))] [] S V nc ns := by
  have E := n_E h
  refine j_iconst E d13_38_141 (by decide) ?_
  refine j_istore_n E d13_38_142 rfl (by decide) (lo1 := [(0, (2, l0))]) rfl ?_
  exact j_pick [1, 0] rfl k
theorem t13_38_143 {C : qCx} {G : jG} {S : jS} {V : jH} {nc ns : Nat} {l0 l2 : Int} (h : x13_38 C G)  (k : 1024 ≤ l2 → j_ok n_KT 4 C G 190 [(0, (2, l0))] [] S V nc ns) (k' : l2 < 1024 → j_ok n_KT 4 C G 150 [(0, (2, l0)), (2, (0, l2))] [] S V nc ns) : j_ok n_KT 4 C G 143 [(0, (2, l0)), (2, (0, l2))] [] S V nc ns := by
  have E := n_E h
  refine j_iload_n E d13_38_143 rfl 1 rfl ?_
  refine j_sipush E d13_38_144 (by decide) ?_
  exact j_icmp_ge E d13_38_147 (t := 190) rfl (fun q => j_pick [0] rfl (k q)) (fun q => j_pick [0, 1] rfl (k' q))
theorem t13_38_150 {C : qCx} {G : jG} {S : jS} {V : jH} {nc ns : Nat} {l0 l2 : Int} (h : x13_38 C G) (L : j_L S) (c1 : S.1 l0 = 33) (k : V l0 9 = 1 → j_ok n_KT 4 C G 171 [(0, (2, l0)), (2, (0, l2))] [(0, l2), (2, l0 + 21)] S V nc ns) (k' : ¬ V l0 9 = 1 → j_ok n_KT 4 C G 163 [(0, (2, l0)), (2, (0, l2))] [(0, l2), (2, l0 + 21)] S V nc ns) : j_ok n_KT 4 C G 150 [(0, (2, l0)), (2, (0, l2))] [] S V nc ns := by
  have E := n_E h
  refine j_aload_n E d13_38_150 rfl 0 rfl ?_
  refine j_getS (f := 11) (x := l0 + 21) (fg12_32 h) d13_38_151 c1 (by decide) rfl rfl ((L12_11 L c1).trans (by omega)) ?_
  refine j_iload_n E d13_38_154 rfl 1 rfl ?_
  refine j_aload_n E d13_38_155 rfl 0 rfl ?_
  refine j_getI (f := 9) (fg12_149 h) d13_38_156 c1 (by decide) rfl rfl ?_
  refine j_iconst E d13_38_159 (by decide) ?_
  exact j_icmp_eq E d13_38_160 (t := 171) rfl (fun q => j_pick [0, 1] rfl (k q)) (fun q => j_pick [0, 1] rfl (k' q))
theorem t13_38_163 {C : qCx} {G : jG} {S : jS} {V : jH} {nc ns : Nat} {l0 l2 s0 s1 : Int} (h : x13_38 C G) (c1 : S.1 l0 = 33) (k : ¬ V l0 9 = 4 → j_ok n_KT 4 C G 182 [(0, (2, l0)), (2, (0, l2))] [(0, s0), (2, s1)] S V nc ns) (k' : V l0 9 = 4 → j_ok n_KT 4 C G 171 [(0, (2, l0)), (2, (0, l2))] [(0, s0), (2, s1)] S V nc ns) : j_ok n_KT 4 C G 163 [(0, (2, l0)), (2, (0, l2))] [(0, s0), (2, s1)] S V nc ns := by
  have E := n_E h
  refine j_aload_n E d13_38_163 rfl 0 rfl ?_
  refine j_getI (f := 9) (fg12_149 h) d13_38_164 c1 (by decide) rfl rfl ?_
  refine j_iconst E d13_38_167 (by decide) ?_
  exact j_icmp_ne E d13_38_168 (t := 182) rfl (fun q => j_pick [0, 1] rfl (k q)) (fun q => j_pick [0, 1] rfl (k' q))
theorem t13_38_171 {C : qCx} {G : jG} {S : jS} {V : jH} {nc ns : Nat} {l0 l2 s0 s1 : Int} (h : x13_38 C G) (c1 : S.1 l0 = 33) (c2 : 0 ≤ V l0 10) (k : j_ok n_KT 4 C G 183 [(0, (2, l0)), (2, (0, l2))] [(0, (V l0 10) / 256), (0, s0), (2, s1)] S V nc ns) : j_ok n_KT 4 C G 171 [(0, (2, l0)), (2, (0, l2))] [(0, s0), (2, s1)] S V nc ns := by
  have E := n_E h
  refine j_aload_n E d13_38_171 rfl 0 rfl ?_
  refine j_getI (f := 10) (fg12_171 h) d13_38_172 c1 (by decide) rfl rfl ?_
  refine j_sipush E d13_38_175 (by decide) ?_
  refine j_idiv E d13_38_178 c2 (by decide) ?_
  refine j_goto E d13_38_179 (t := 183) rfl ?_
  exact j_pick [0, 1] rfl k
theorem t13_38_182 {C : qCx} {G : jG} {S : jS} {V : jH} {nc ns : Nat} {l0 l2 s0 s1 : Int} (h : x13_38 C G)  (k : j_ok n_KT 4 C G 183 [(0, (2, l0)), (2, (0, l2))] [(0, 0), (0, s0), (2, s1)] S V nc ns) : j_ok n_KT 4 C G 182 [(0, (2, l0)), (2, (0, l2))] [(0, s0), (2, s1)] S V nc ns := by
  have E := n_E h
  refine j_iconst E d13_38_182 (by decide) ?_
  exact j_pick [0, 1] rfl k
theorem t13_38_183 {C : qCx} {G : jG} {S : jS} {V : jH} {nc ns : Nat} {l0 l2 s0 s1 s2 : Int} {n_s2 : Nat} (h : x13_38 C G) (c1 : j_arr S s2 n_s2) (c2 : 0 ≤ s1) (c3 : s1 < (n_s2 : Int)) (c4 : -2147483648 ≤ l2 + 1 ∧ l2 + 1 ≤ 2147483647) (k : j_ok n_KT 4 C G 143 [(0, (2, l0)), (2, (0, l2 + 1))] [] S (j_up V s2 s1 s0) nc ns) : j_ok n_KT 4 C G 183 [(0, (2, l0)), (2, (0, l2))] [(0, s0), (0, s1), (2, s2)] S V nc ns := by
  have E := n_E h
  refine j_iast E d13_38_183 c1 c2 c3 ?_
  refine j_iinc E d13_38_184 (by decide) (by decide) 1 rfl (lo1 := [(0, (2, l0))]) rfl c4 ?_
  refine j_goto E d13_38_187 (t := 143) rfl ?_
  exact j_pick [1, 0] rfl k
theorem t13_38_190 {C : qCx} {G : jG} {S : jS} {V : jH} {nc ns : Nat} {l0 : Int} (h : x13_38 C G)  (k : j_ok n_KT 4 C G 192 [(0, (2, l0)), (2, (0, 0))] [] S V nc ns) : j_ok n_KT 4 C G 190 [(0, (2, l0))] [] S V nc ns := by
  have E := n_E h
  refine j_iconst E d13_38_190 (by decide) ?_
  refine j_istore_n E d13_38_191 rfl (by decide) (lo1 := [(0, (2, l0))]) rfl ?_
  exact j_pick [1, 0] rfl k
theorem t13_38_192 {C : qCx} {G : jG} {S : jS} {V : jH} {nc ns : Nat} {l0 l2 : Int} (h : x13_38 C G) (c1 : S.1 l0 = 33) (k : ¬ V l0 9 = 3 → j_ok n_KT 4 C G 205 [(0, (2, l0)), (2, (0, l2))] [(0, l2)] S V nc ns) (k' : V l0 9 = 3 → j_ok n_KT 4 C G 201 [(0, (2, l0)), (2, (0, l2))] [(0, l2)] S V nc ns) : j_ok n_KT 4 C G 192 [(0, (2, l0)), (2, (0, l2))] [] S V nc ns := by
  have E := n_E h
  refine j_iload_n E d13_38_192 rfl 1 rfl ?_
  refine j_aload_n E d13_38_193 rfl 0 rfl ?_
  refine j_getI (f := 9) (fg12_149 h) d13_38_194 c1 (by decide) rfl rfl ?_
  refine j_iconst E d13_38_197 (by decide) ?_
  exact j_icmp_ne E d13_38_198 (t := 205) rfl (fun q => j_pick [0, 1] rfl (k q)) (fun q => j_pick [0, 1] rfl (k' q))
theorem t13_38_201 {C : qCx} {G : jG} {S : jS} {V : jH} {nc ns : Nat} {l0 l2 s0 : Int} (h : x13_38 C G)  (k : j_ok n_KT 4 C G 225 [(0, (2, l0)), (2, (0, l2))] [(0, 4), (0, s0)] S V nc ns) : j_ok n_KT 4 C G 201 [(0, (2, l0)), (2, (0, l2))] [(0, s0)] S V nc ns := by
  have E := n_E h
  refine j_iconst E d13_38_201 (by decide) ?_
  refine j_goto E d13_38_202 (t := 225) rfl ?_
  exact j_pick [0, 1] rfl k
theorem t13_38_205 {C : qCx} {G : jG} {S : jS} {V : jH} {nc ns : Nat} {l0 l2 s0 : Int} (h : x13_38 C G) (c1 : S.1 l0 = 33) (k : V l0 9 = 0 → j_ok n_KT 4 C G 220 [(0, (2, l0)), (2, (0, l2))] [(0, s0)] S V nc ns) (k' : ¬ V l0 9 = 0 → j_ok n_KT 4 C G 212 [(0, (2, l0)), (2, (0, l2))] [(0, s0)] S V nc ns) : j_ok n_KT 4 C G 205 [(0, (2, l0)), (2, (0, l2))] [(0, s0)] S V nc ns := by
  have E := n_E h
  refine j_aload_n E d13_38_205 rfl 0 rfl ?_
  refine j_getI (f := 9) (fg12_149 h) d13_38_206 c1 (by decide) rfl rfl ?_
  exact j_if_eq E d13_38_209 (t := 220) rfl (fun q => j_pick [0, 1] rfl (k q)) (fun q => j_pick [0, 1] rfl (k' q))
theorem t13_38_212 {C : qCx} {G : jG} {S : jS} {V : jH} {nc ns : Nat} {l0 l2 s0 : Int} (h : x13_38 C G) (c1 : S.1 l0 = 33) (k : ¬ V l0 9 = 2 → j_ok n_KT 4 C G 224 [(0, (2, l0)), (2, (0, l2))] [(0, s0)] S V nc ns) (k' : V l0 9 = 2 → j_ok n_KT 4 C G 220 [(0, (2, l0)), (2, (0, l2))] [(0, s0)] S V nc ns) : j_ok n_KT 4 C G 212 [(0, (2, l0)), (2, (0, l2))] [(0, s0)] S V nc ns := by
  have E := n_E h
  refine j_aload_n E d13_38_212 rfl 0 rfl ?_
  refine j_getI (f := 9) (fg12_149 h) d13_38_213 c1 (by decide) rfl rfl ?_
  refine j_iconst E d13_38_216 (by decide) ?_
  exact j_icmp_ne E d13_38_217 (t := 224) rfl (fun q => j_pick [0, 1] rfl (k q)) (fun q => j_pick [0, 1] rfl (k' q))
theorem t13_38_220 {C : qCx} {G : jG} {S : jS} {V : jH} {nc ns : Nat} {l0 l2 s0 : Int} (h : x13_38 C G)  (k : j_ok n_KT 4 C G 225 [(0, (2, l0)), (2, (0, l2))] [(0, 1), (0, s0)] S V nc ns) : j_ok n_KT 4 C G 220 [(0, (2, l0)), (2, (0, l2))] [(0, s0)] S V nc ns := by
  have E := n_E h
  refine j_iconst E d13_38_220 (by decide) ?_
  refine j_goto E d13_38_221 (t := 225) rfl ?_
  exact j_pick [0, 1] rfl k
theorem t13_38_224 {C : qCx} {G : jG} {S : jS} {V : jH} {nc ns : Nat} {l0 l2 s0 : Int} (h : x13_38 C G)  (k : j_ok n_KT 4 C G 225 [(0, (2, l0)), (2, (0, l2))] [(0, 0), (0, s0)] S V nc ns) : j_ok n_KT 4 C G 224 [(0, (2, l0)), (2, (0, l2))] [(0, s0)] S V nc ns := by
  have E := n_E h
  refine j_iconst E d13_38_224 (by decide) ?_
  exact j_pick [0, 1] rfl k
theorem t13_38_225 {C : qCx} {G : jG} {S : jS} {V : jH} {nc ns : Nat} {l0 l2 s0 s1 : Int} (h : x13_38 C G)  (k : s0 ≤ s1 → j_ok n_KT 4 C G 246 [(0, (2, l0))] [] S V nc ns) (k' : s1 < s0 → j_ok n_KT 4 C G 228 [(0, (2, l0)), (2, (0, l2))] [] S V nc ns) : j_ok n_KT 4 C G 225 [(0, (2, l0)), (2, (0, l2))] [(0, s0), (0, s1)] S V nc ns := by
  have E := n_E h
  exact j_icmp_ge E d13_38_225 (t := 246) rfl (fun q => j_pick [0] rfl (k q)) (fun q => j_pick [0, 1] rfl (k' q))
theorem t13_38_228 {C : qCx} {G : jG} {S : jS} {V : jH} {nc ns : Nat} {l0 l2 : Int} {mc ms : Nat} {pp : Int → Int → jS → jH → Prop} {qq : Int → Int → jS → jH → Int → jS → jH → Prop} (h : x13_38 C G) (hrm : C.2.2.2.1.frames = 3 ∧ C.2.2.2.1.locals = 78) (c1 : S.1 l0 = 33) (hM : M13_39 C.2.1 mc ms pp qq) (hp : pp l0 l2 S V) (hc : nc + mc ≤ C.2.2.2.1.cells) (hs : ns + ms ≤ C.2.2.2.1.slots) (k : ∀ (r : Int) (S' : jS) (V' : jH), qq l0 l2 S V r S' V' → j_ok n_KT 4 C G 233 [(0, (2, l0)), (2, (0, l2))] [(0, r)] S' V' (nc + mc) (ns + ms)) : j_ok n_KT 4 C G 228 [(0, (2, l0)), (2, (0, l2))] [] S V nc ns := by
  have E := n_E h
  refine j_aload_n E d13_38_228 rfl 0 rfl ?_
  refine j_iload_n E d13_38_229 rfl 1 rfl ?_
  refine j_call E (K13_38_230 h hrm hM) d13_38_230 (a := [(2, l0), (0, l2)]) (sk := []) rfl ⟨l0, l2, rfl, c1, hp⟩ (Nat.le_of_ble_eq_true rfl) hc hs ?_
  rintro rs S' V' ⟨z0, z1, r, e1, rfl, q⟩
  simp only [List.cons.injEq, Prod.mk.injEq, and_true, true_and] at e1
  obtain ⟨rfl, rfl⟩ := e1
  exact j_pick [0, 1] rfl (k r S' V' q)
theorem t13_38_233 {C : qCx} {G : jG} {S : jS} {V : jH} {nc ns : Nat} {l0 l2 s0 : Int} (h : x13_38 C G)  (k : s0 < 0 → j_ok n_KT 4 C G 240 [(0, (2, l0)), (2, (0, l2))] [] S V nc ns) (k' : 0 ≤ s0 → j_ok n_KT 4 C G 238 [(3, (0, s0))] [] S V nc ns) : j_ok n_KT 4 C G 233 [(0, (2, l0)), (2, (0, l2))] [(0, s0)] S V nc ns := by
  have E := n_E h
  refine j_istore_n E d13_38_233 rfl (by decide) (lo1 := [(0, (2, l0)), (2, (0, l2))]) rfl ?_
  refine j_iload_n E d13_38_234 rfl 0 rfl ?_
  exact j_if_lt E d13_38_235 (t := 240) rfl (fun q => j_pick [1, 2] rfl (k q)) (fun q => j_pick [0] rfl (k' q))
theorem t13_38_238 {C : qCx} {G : jG} {S : jS} {V : jH} {nc ns : Nat} {l3 : Int} {mc ms : Nat} {qf : Int → jS → jH → Prop} (h : x13_38 C G)  (R : j_Ri n_KT 4 C G b_13_38 mc ms qf) (q : qf l3 S V) (hc : nc ≤ mc) (hs : ns ≤ ms) : j_ok n_KT 4 C G 238 [(3, (0, l3))] [] S V nc ns := by
  have E := n_E h
  refine j_iload_n E d13_38_238 rfl 0 rfl ?_
  exact R _ _ _ _ _ _ _ d13_38_239 q hc hs
theorem t13_38_240 {C : qCx} {G : jG} {S : jS} {V : jH} {nc ns : Nat} {l0 l2 : Int} (h : x13_38 C G) (c1 : -2147483648 ≤ l2 + 1 ∧ l2 + 1 ≤ 2147483647) (k : j_ok n_KT 4 C G 192 [(0, (2, l0)), (2, (0, l2 + 1))] [] S V nc ns) : j_ok n_KT 4 C G 240 [(0, (2, l0)), (2, (0, l2))] [] S V nc ns := by
  have E := n_E h
  refine j_iinc E d13_38_240 (by decide) (by decide) 1 rfl (lo1 := [(0, (2, l0))]) rfl c1 ?_
  refine j_goto E d13_38_243 (t := 192) rfl ?_
  exact j_pick [1, 0] rfl k
theorem t13_38_246 {C : qCx} {G : jG} {S : jS} {V : jH} {nc ns : Nat} {l0 : Int} (h : x13_38 C G) (c1 : S.1 l0 = 33) (k : j_ok n_KT 4 C G 256 [(0, (2, l0)), (2, (0, 0))] [] S (j_up V l0 25 (V l0 22)) nc ns) : j_ok n_KT 4 C G 246 [(0, (2, l0))] [] S V nc ns := by
  have E := n_E h
  refine j_aload_n E d13_38_246 rfl 0 rfl ?_
  refine j_aload_n E d13_38_247 rfl 0 rfl ?_
  refine j_getI (f := 22) (fg12_218 h) d13_38_248 c1 (by decide) rfl rfl ?_
  refine j_putI (f := 25) (fp12_238 h) (n_hap h 33 12 0 _ rfl) d13_38_251 c1 (by decide) rfl rfl rfl ?_
  refine j_iconst E d13_38_254 (by decide) ?_
  refine j_istore_n E d13_38_255 rfl (by decide) (lo1 := [(0, (2, l0))]) rfl ?_
  exact j_pick [1, 0] rfl k
theorem t13_38_256 {C : qCx} {G : jG} {S : jS} {V : jH} {nc ns : Nat} {l0 l2 : Int} (h : x13_38 C G) (c1 : S.1 l0 = 33) (k : V l0 23 ≤ l2 → j_ok n_KT 4 C G 307 [(0, (2, l0))] [] S V nc ns) (k' : l2 < V l0 23 → j_ok n_KT 4 C G 264 [(0, (2, l0)), (2, (0, l2))] [] S V nc ns) : j_ok n_KT 4 C G 256 [(0, (2, l0)), (2, (0, l2))] [] S V nc ns := by
  have E := n_E h
  refine j_iload_n E d13_38_256 rfl 1 rfl ?_
  refine j_aload_n E d13_38_257 rfl 0 rfl ?_
  refine j_getI (f := 23) (fg12_227 h) d13_38_258 c1 (by decide) rfl rfl ?_
  exact j_icmp_ge E d13_38_261 (t := 307) rfl (fun q => j_pick [0] rfl (k q)) (fun q => j_pick [0, 1] rfl (k' q))
theorem t13_38_264 {C : qCx} {G : jG} {S : jS} {V : jH} {nc ns : Nat} {l0 l2 : Int} {mc ms : Nat} {pp : Int → Int → jS → jH → Prop} {qq : Int → Int → jS → jH → Int → jS → jH → Prop} (h : x13_38 C G) (hrm : C.2.2.2.1.frames = 3 ∧ C.2.2.2.1.locals = 78) (c1 : S.1 l0 = 33) (hM : M13_36 C.2.1 mc ms pp qq) (hp : pp l0 3 S V) (hc : nc + mc ≤ C.2.2.2.1.cells) (hs : ns + ms ≤ C.2.2.2.1.slots) (k : ∀ (r : Int) (S' : jS) (V' : jH), qq l0 3 S V r S' V' → j_ok n_KT 4 C G 269 [(0, (2, l0)), (2, (0, l2))] [(0, r)] S' V' (nc + mc) (ns + ms)) : j_ok n_KT 4 C G 264 [(0, (2, l0)), (2, (0, l2))] [] S V nc ns := by
  have E := n_E h
  refine j_aload_n E d13_38_264 rfl 0 rfl ?_
  refine j_iconst E d13_38_265 (by decide) ?_
  refine j_call E (K13_38_266 h hrm hM) d13_38_266 (a := [(2, l0), (0, 3)]) (sk := []) rfl ⟨l0, 3, rfl, c1, hp⟩ (Nat.le_of_ble_eq_true rfl) hc hs ?_
  rintro rs S' V' ⟨z0, z1, r, e1, rfl, q⟩
  simp only [List.cons.injEq, Prod.mk.injEq, and_true, true_and] at e1
  obtain ⟨rfl, rfl⟩ := e1
  exact j_pick [0, 1] rfl (k r S' V' q)
theorem t13_38_269 {C : qCx} {G : jG} {S : jS} {V : jH} {nc ns : Nat} {l0 l2 s0 : Int} {mc ms : Nat} {pp : Int → Int → Int → jS → jH → Prop} {qq : Int → Int → Int → jS → jH → Int → jS → jH → Prop} (h : x13_38 C G) (hrm : C.2.2.2.1.frames = 3 ∧ C.2.2.2.1.locals = 78) (c1 : S.1 l0 = 33) (c2 : -9223372036854775808 ≤ 256 * (V l0 10) ∧ 256 * (V l0 10) ≤ 9223372036854775807) (c3 : -9223372036854775808 ≤ (256 * (V l0 10)) - 1 ∧ (256 * (V l0 10)) - 1 ≤ 9223372036854775807) (hM : M13_3 C.2.1 mc ms pp qq) (hp : pp s0 (V l0 10) ((256 * (V l0 10)) - 1) S V) (hc : nc + mc ≤ C.2.2.2.1.cells) (hs : ns + ms ≤ C.2.2.2.1.slots) (k : ∀ (r : Int) (S' : jS) (V' : jH), qq s0 (V l0 10) ((256 * (V l0 10)) - 1) S V r S' V' → j_ok n_KT 4 C G 291 [(0, (2, l0)), (2, (0, l2)), (3, (0, s0))] [(0, r)] S' V' (nc + mc) (ns + ms)) : j_ok n_KT 4 C G 269 [(0, (2, l0)), (2, (0, l2))] [(0, s0)] S V nc ns := by
  have E := n_E h
  refine j_istore_n E d13_38_269 rfl (by decide) (lo1 := [(0, (2, l0)), (2, (0, l2))]) rfl ?_
  refine j_iload_n E d13_38_270 rfl 0 rfl ?_
  refine j_i2l E d13_38_271 ?_
  refine j_aload_n E d13_38_272 rfl 1 rfl ?_
  refine j_getI (f := 10) (fg12_171 h) d13_38_273 c1 (by decide) rfl rfl ?_
  refine j_i2l E d13_38_276 ?_
  refine j_ldc2 (n := 256) (fl12_177 h) rfl d13_38_277 ?_
  refine j_aload_n E d13_38_280 rfl 1 rfl ?_
  refine j_getI (f := 10) (fg12_171 h) d13_38_281 c1 (by decide) rfl rfl ?_
  refine j_i2l E d13_38_284 ?_
  refine j_lmul E d13_38_285 c2 ?_
  refine j_lconst E d13_38_286 ?_
  refine j_lsub E d13_38_287 c3 ?_
  refine j_call E (K13_38_288 h hrm hM) d13_38_288 (a := [(1, s0), (1, V l0 10), (1, (256 * (V l0 10)) - 1)]) (sk := []) rfl ⟨s0, V l0 10, (256 * (V l0 10)) - 1, rfl, hp⟩ (Nat.le_of_ble_eq_true rfl) hc hs ?_
  rintro rs S' V' ⟨z0, z1, z2, r, e1, rfl, q⟩
  simp only [List.cons.injEq, Prod.mk.injEq, and_true, true_and] at e1
  obtain ⟨rfl, rfl, rfl⟩ := e1
  exact j_pick [1, 2, 0] rfl (k r S' V' q)
theorem t13_38_291 {C : qCx} {G : jG} {S : jS} {V : jH} {nc ns : Nat} {l0 l2 l3 s0 : Int} (h : x13_38 C G)  (k : ¬ s0 = 0 → j_ok n_KT 4 C G 301 [(0, (2, l0)), (2, (0, l2))] [] S V nc ns) (k' : s0 = 0 → j_ok n_KT 4 C G 294 [(0, (2, l0)), (3, (0, l3))] [] S V nc ns) : j_ok n_KT 4 C G 291 [(0, (2, l0)), (2, (0, l2)), (3, (0, l3))] [(0, s0)] S V nc ns := by
  have E := n_E h
  exact j_if_ne E d13_38_291 (t := 301) rfl (fun q => j_pick [0, 1] rfl (k q)) (fun q => j_pick [0, 2] rfl (k' q))
theorem t13_38_294 {C : qCx} {G : jG} {S : jS} {V : jH} {nc ns : Nat} {l0 l3 : Int} {mc ms : Nat} {pp : Int → Int → Int → jS → jH → Prop} {qq : Int → Int → Int → jS → jH → Int → jS → jH → Prop} (h : x13_38 C G) (hrm : C.2.2.2.1.frames = 3 ∧ C.2.2.2.1.locals = 78) (c1 : S.1 l0 = 33) (hM : M13_37 C.2.1 mc ms pp qq) (hp : pp l0 l3 3 S V) (hc : nc + mc ≤ C.2.2.2.1.cells) (hs : ns + ms ≤ C.2.2.2.1.slots) (k : ∀ (r : Int) (S' : jS) (V' : jH), qq l0 l3 3 S V r S' V' → j_ok n_KT 4 C G 300 [] [(0, r)] S' V' (nc + mc) (ns + ms)) : j_ok n_KT 4 C G 294 [(0, (2, l0)), (3, (0, l3))] [] S V nc ns := by
  have E := n_E h
  refine j_aload_n E d13_38_294 rfl 0 rfl ?_
  refine j_iload_n E d13_38_295 rfl 1 rfl ?_
  refine j_iconst E d13_38_296 (by decide) ?_
  refine j_call E (K13_38_297 h hrm hM) d13_38_297 (a := [(2, l0), (0, l3), (0, 3)]) (sk := []) rfl ⟨l0, l3, 3, rfl, c1, hp⟩ (Nat.le_of_ble_eq_true rfl) hc hs ?_
  rintro rs S' V' ⟨z0, z1, z2, r, e1, rfl, q⟩
  simp only [List.cons.injEq, Prod.mk.injEq, and_true, true_and] at e1
  obtain ⟨rfl, rfl, rfl⟩ := e1
  exact j_pick [] rfl (k r S' V' q)
theorem t13_38_300 {C : qCx} {G : jG} {S : jS} {V : jH} {nc ns : Nat} {s0 : Int} {mc ms : Nat} {qf : Int → jS → jH → Prop} (h : x13_38 C G)  (R : j_Ri n_KT 4 C G b_13_38 mc ms qf) (q : qf s0 S V) (hc : nc ≤ mc) (hs : ns ≤ ms) : j_ok n_KT 4 C G 300 [] [(0, s0)] S V nc ns := by
  have E := n_E h
  exact R _ _ _ _ _ _ _ d13_38_300 q hc hs
theorem t13_38_301 {C : qCx} {G : jG} {S : jS} {V : jH} {nc ns : Nat} {l0 l2 : Int} (h : x13_38 C G) (c1 : -2147483648 ≤ l2 + 1 ∧ l2 + 1 ≤ 2147483647) (k : j_ok n_KT 4 C G 256 [(0, (2, l0)), (2, (0, l2 + 1))] [] S V nc ns) : j_ok n_KT 4 C G 301 [(0, (2, l0)), (2, (0, l2))] [] S V nc ns := by
  have E := n_E h
  refine j_iinc E d13_38_301 (by decide) (by decide) 1 rfl (lo1 := [(0, (2, l0))]) rfl c1 ?_
  refine j_goto E d13_38_304 (t := 256) rfl ?_
  exact j_pick [1, 0] rfl k
theorem t13_38_307 {C : qCx} {G : jG} {S : jS} {V : jH} {nc ns : Nat} {l0 : Int} {mc ms : Nat} {pp : Int → Int → jS → jH → Prop} {qq : Int → Int → jS → jH → Int → jS → jH → Prop} (h : x13_38 C G) (hrm : C.2.2.2.1.frames = 3 ∧ C.2.2.2.1.locals = 78) (c1 : S.1 l0 = 33) (hM : M13_36 C.2.1 mc ms pp qq) (hp : pp l0 2 S V) (hc : nc + mc ≤ C.2.2.2.1.cells) (hs : ns + ms ≤ C.2.2.2.1.slots) (k : ∀ (r : Int) (S' : jS) (V' : jH), qq l0 2 S V r S' V' → j_ok n_KT 4 C G 313 [(0, (2, l0))] [(0, r), (2, l0)] S' V' (nc + mc) (ns + ms)) : j_ok n_KT 4 C G 307 [(0, (2, l0))] [] S V nc ns := by
  have E := n_E h
  refine j_aload_n E d13_38_307 rfl 0 rfl ?_
  refine j_aload_n E d13_38_308 rfl 0 rfl ?_
  refine j_iconst E d13_38_309 (by decide) ?_
  refine j_call E (K13_38_310 h hrm hM) d13_38_310 (a := [(2, l0), (0, 2)]) (sk := [(2, l0)]) rfl ⟨l0, 2, rfl, c1, hp⟩ (Nat.le_of_ble_eq_true rfl) hc hs ?_
  rintro rs S' V' ⟨z0, z1, r, e1, rfl, q⟩
  simp only [List.cons.injEq, Prod.mk.injEq, and_true, true_and] at e1
  obtain ⟨rfl, rfl⟩ := e1
  exact j_pick [0] rfl (k r S' V' q)
theorem t13_38_313 {C : qCx} {G : jG} {S : jS} {V : jH} {nc ns : Nat} {l0 s0 s1 : Int} (h : x13_38 C G) (c1 : S.1 s1 = 33) (c2 : S.1 l0 = 33) (k : 0 ≤ (j_up V s1 27 s0) l0 27 → j_ok n_KT 4 C G 331 [(0, (2, l0))] [] S (j_up V s1 27 s0) nc ns) (k' : (j_up V s1 27 s0) l0 27 < 0 → j_ok n_KT 4 C G 323 [(0, (2, l0))] [] S (j_up V s1 27 s0) nc ns) : j_ok n_KT 4 C G 313 [(0, (2, l0))] [(0, s0), (2, s1)] S V nc ns := by
  have E := n_E h
  refine j_putI (f := 27) (fp12_241 h) (n_hap h 33 12 0 _ rfl) d13_38_313 c1 (by decide) rfl rfl rfl ?_
  refine j_aload_n E d13_38_316 rfl 0 rfl ?_
  refine j_getI (f := 27) (fg12_241 h) d13_38_317 c2 (by decide) rfl rfl ?_
  exact j_if_ge E d13_38_320 (t := 331) rfl (fun q => j_pick [0] rfl (k q)) (fun q => j_pick [0] rfl (k' q))
theorem t13_38_323 {C : qCx} {G : jG} {S : jS} {V : jH} {nc ns : Nat} {l0 : Int} {mc ms : Nat} {qf : Int → jS → jH → Prop} (h : x13_38 C G) (L : j_L S) (c1 : S.1 l0 = 33) (R : j_Ri n_KT 4 C G b_13_38 mc ms qf) (q : qf (V (l0 + 1) 7) S V) (hc : nc ≤ mc) (hs : ns ≤ ms) : j_ok n_KT 4 C G 323 [(0, (2, l0))] [] S V nc ns := by
  have E := n_E h
  refine j_aload_n E d13_38_323 rfl 0 rfl ?_
  refine j_getS (f := 0) (x := l0 + 1) (fg12_10 h) d13_38_324 c1 (by decide) rfl rfl ((L12_0 L c1).trans (by omega)) ?_
  refine j_getI (f := 7) (fg12_194 h) d13_38_327 (show S.1 (l0 + 1) = 32 from (by have q := L12_0k L c1; rw [show l0 + 1 = l0 + 1 by omega]; exact q)) (by decide) rfl rfl ?_
  exact R _ _ _ _ _ _ _ d13_38_330 q hc hs
theorem t13_38_331 {C : qCx} {G : jG} {S : jS} {V : jH} {nc ns : Nat} {l0 : Int} (h : x13_38 C G) (L : j_L S) (c1 : S.1 l0 = 33) (c2 : -2147483648 ≤ (V l0 22) + (V l0 27) ∧ (V l0 22) + (V l0 27) ≤ 2147483647) (c3 : -2147483648 ≤ ((V l0 22) + (V l0 27)) + 2 ∧ ((V l0 22) + (V l0 27)) + 2 ≤ 2147483647) (k : ((V l0 22) + (V l0 27)) + 2 = V (l0 + 1) 7 → j_ok n_KT 4 C G 359 [(0, (2, l0))] [] S V nc ns) (k' : ¬ ((V l0 22) + (V l0 27)) + 2 = V (l0 + 1) 7 → j_ok n_KT 4 C G 352 [(0, (2, l0))] [] S V nc ns) : j_ok n_KT 4 C G 331 [(0, (2, l0))] [] S V nc ns := by
  have E := n_E h
  refine j_aload_n E d13_38_331 rfl 0 rfl ?_
  refine j_getI (f := 22) (fg12_218 h) d13_38_332 c1 (by decide) rfl rfl ?_
  refine j_aload_n E d13_38_335 rfl 0 rfl ?_
  refine j_getI (f := 27) (fg12_241 h) d13_38_336 c1 (by decide) rfl rfl ?_
  refine j_iadd E d13_38_339 c2 ?_
  refine j_iconst E d13_38_340 (by decide) ?_
  refine j_iadd E d13_38_341 c3 ?_
  refine j_aload_n E d13_38_342 rfl 0 rfl ?_
  refine j_getS (f := 0) (x := l0 + 1) (fg12_10 h) d13_38_343 c1 (by decide) rfl rfl ((L12_0 L c1).trans (by omega)) ?_
  refine j_getI (f := 7) (fg12_194 h) d13_38_346 (show S.1 (l0 + 1) = 32 from (by have q := L12_0k L c1; rw [show l0 + 1 = l0 + 1 by omega]; exact q)) (by decide) rfl rfl ?_
  exact j_icmp_eq E d13_38_349 (t := 359) rfl (fun q => j_pick [0] rfl (k q)) (fun q => j_pick [0] rfl (k' q))
theorem t13_38_352 {C : qCx} {G : jG} {S : jS} {V : jH} {nc ns : Nat} {l0 : Int} {mc ms : Nat} {qf : Int → jS → jH → Prop} (h : x13_38 C G) (c1 : S.1 l0 = 33) (c2 : -2147483648 ≤ (V l0 22) - 2 ∧ (V l0 22) - 2 ≤ 2147483647) (R : j_Ri n_KT 4 C G b_13_38 mc ms qf) (q : qf ((V l0 22) - 2) S V) (hc : nc ≤ mc) (hs : ns ≤ ms) : j_ok n_KT 4 C G 352 [(0, (2, l0))] [] S V nc ns := by
  have E := n_E h
  refine j_aload_n E d13_38_352 rfl 0 rfl ?_
  refine j_getI (f := 22) (fg12_218 h) d13_38_353 c1 (by decide) rfl rfl ?_
  refine j_iconst E d13_38_356 (by decide) ?_
  refine j_isub E d13_38_357 c2 ?_
  exact R _ _ _ _ _ _ _ d13_38_358 q hc hs
theorem t13_38_359 {C : qCx} {G : jG} {S : jS} {V : jH} {nc ns : Nat} {l0 : Int} {mc ms : Nat} {pp : Int → Int → jS → jH → Prop} {qq : Int → Int → jS → jH → Int → jS → jH → Prop} (h : x13_38 C G) (hrm : C.2.2.2.1.frames = 3 ∧ C.2.2.2.1.locals = 78) (c1 : S.1 l0 = 33) (c2 : -2147483648 ≤ (V l0 22) + (V l0 27) ∧ (V l0 22) + (V l0 27) ≤ 2147483647) (hM : M13_36 C.2.1 mc ms pp qq) (hp : pp l0 2 S (j_up (j_up V l0 26 (V l0 22)) l0 22 ((V l0 22) + (V l0 27)))) (hc : nc + mc ≤ C.2.2.2.1.cells) (hs : ns + ms ≤ C.2.2.2.1.slots) (k : ∀ (r : Int) (S' : jS) (V' : jH), qq l0 2 S (j_up (j_up V l0 26 (V l0 22)) l0 22 ((V l0 22) + (V l0 27))) r S' V' → j_ok n_KT 4 C G 385 [(0, (2, l0))] [(0, r)] S' V' (nc + mc) (ns + ms)) : j_ok n_KT 4 C G 359 [(0, (2, l0))] [] S V nc ns := by
  have E := n_E h
  refine j_aload_n E d13_38_359 rfl 0 rfl ?_
  refine j_aload_n E d13_38_360 rfl 0 rfl ?_
  refine j_getI (f := 22) (fg12_218 h) d13_38_361 c1 (by decide) rfl rfl ?_
  refine j_putI (f := 26) (fp12_244 h) (n_hap h 33 12 0 _ rfl) d13_38_364 c1 (by decide) rfl rfl rfl ?_
  refine j_aload_n E d13_38_367 rfl 0 rfl ?_
  refine j_dup E d13_38_368 rfl ?_
  refine j_getI (f := 22) (fg12_218 h) d13_38_369 c1 (by decide) rfl rfl ?_
  refine j_eqT (show (j_up V l0 26 (V l0 22)) l0 22 = V l0 22 from (j_up_off (by decide))) ?_
  refine j_aload_n E d13_38_372 rfl 0 rfl ?_
  refine j_getI (f := 27) (fg12_241 h) d13_38_373 c1 (by decide) rfl rfl ?_
  refine j_eqT (show (j_up V l0 26 (V l0 22)) l0 27 = V l0 27 from (j_up_off (by decide))) ?_
  refine j_iadd E d13_38_376 c2 ?_
  refine j_putI (f := 22) (fp12_218 h) (n_hap h 33 12 0 _ rfl) d13_38_377 c1 (by decide) rfl rfl rfl ?_
  refine j_aload_n E d13_38_380 rfl 0 rfl ?_
  refine j_iconst E d13_38_381 (by decide) ?_
  refine j_call E (K13_38_382 h hrm hM) d13_38_382 (a := [(2, l0), (0, 2)]) (sk := []) rfl ⟨l0, 2, rfl, c1, hp⟩ (Nat.le_of_ble_eq_true rfl) hc hs ?_
  rintro rs S' V' ⟨z0, z1, r, e1, rfl, q⟩
  simp only [List.cons.injEq, Prod.mk.injEq, and_true, true_and] at e1
  obtain ⟨rfl, rfl⟩ := e1
  exact j_pick [0] rfl (k r S' V' q)
theorem t13_38_385 {C : qCx} {G : jG} {S : jS} {V : jH} {nc ns : Nat} {l0 s0 : Int} {mc ms : Nat} {pp : Int → Int → jS → jH → Prop} {qq : Int → Int → jS → jH → Int → jS → jH → Prop} (h : x13_38 C G) (L : j_L S) (hrm : C.2.2.2.1.frames = 3 ∧ C.2.2.2.1.locals = 78) (c1 : S.1 l0 = 33) (c2 : -2147483648 ≤ (V (l0 + 1) 7) - 2 ∧ (V (l0 + 1) 7) - 2 ≤ 2147483647) (hM : M13_29 C.2.1 mc ms pp qq) (hp : pp (l0 + 8) ((V (l0 + 1) 7) - 2) S V) (hc : nc + mc ≤ C.2.2.2.1.cells) (hs : ns + ms ≤ C.2.2.2.1.slots) (k : ∀ (r : Int) (S' : jS) (V' : jH), qq (l0 + 8) ((V (l0 + 1) 7) - 2) S V r S' V' → j_ok n_KT 4 C G 406 [(0, (2, l0))] [(0, r), (0, s0)] S' V' (nc + mc) (ns + ms)) : j_ok n_KT 4 C G 385 [(0, (2, l0))] [(0, s0)] S V nc ns := by
  have E := n_E h
  refine j_istore_n E d13_38_385 rfl (by decide) (lo1 := [(0, (2, l0))]) rfl ?_
  refine j_iload_n E d13_38_386 rfl 0 rfl ?_
  refine j_aload_n E d13_38_387 rfl 1 rfl ?_
  refine j_getS (f := 0) (x := l0 + 1) (fg12_10 h) d13_38_388 c1 (by decide) rfl rfl ((L12_0 L c1).trans (by omega)) ?_
  refine j_getS (f := 8) (x := l0 + 8) (fg12_197 h) d13_38_391 (show S.1 (l0 + 1) = 32 from (by have q := L12_0k L c1; rw [show l0 + 1 = l0 + 1 by omega]; exact q)) (by decide) rfl rfl ((L11_8 L (show S.1 (l0 + 1) = 32 from (by have q := L12_0k L c1; rw [show l0 + 1 = l0 + 1 by omega]; exact q))).trans (by omega)) ?_
  refine j_aload_n E d13_38_394 rfl 1 rfl ?_
  refine j_getS (f := 0) (x := l0 + 1) (fg12_10 h) d13_38_395 c1 (by decide) rfl rfl ((L12_0 L c1).trans (by omega)) ?_
  refine j_getI (f := 7) (fg12_194 h) d13_38_398 (show S.1 (l0 + 1) = 32 from (by have q := L12_0k L c1; rw [show l0 + 1 = l0 + 1 by omega]; exact q)) (by decide) rfl rfl ?_
  refine j_iconst E d13_38_401 (by decide) ?_
  refine j_isub E d13_38_402 c2 ?_
  refine j_call E (K13_38_403 h hrm hM) d13_38_403 (a := [(2, l0 + 8), (0, (V (l0 + 1) 7) - 2)]) (sk := [(0, s0)]) rfl ⟨l0 + 8, (V (l0 + 1) 7) - 2, rfl, hp⟩ (Nat.le_of_ble_eq_true rfl) hc hs ?_
  rintro rs S' V' ⟨z0, z1, r, e1, rfl, q⟩
  simp only [List.cons.injEq, Prod.mk.injEq, and_true, true_and] at e1
  obtain ⟨rfl, rfl⟩ := e1
  exact j_pick [1] rfl (k r S' V' q)
theorem t13_38_406 {C : qCx} {G : jG} {S : jS} {V : jH} {nc ns : Nat} {l0 s0 s1 : Int} (h : x13_38 C G)  (k : ¬ s1 = s0 → j_ok n_KT 4 C G 413 [(0, (2, l0))] [] S V nc ns) (k' : s1 = s0 → j_ok n_KT 4 C G 409 [] [] S V nc ns) : j_ok n_KT 4 C G 406 [(0, (2, l0))] [(0, s0), (0, s1)] S V nc ns := by
  have E := n_E h
  exact j_icmp_ne E d13_38_406 (t := 413) rfl (fun q => j_pick [0] rfl (k q)) (fun q => j_pick [] rfl (k' q))
theorem t13_38_409 {C : qCx} {G : jG} {S : jS} {V : jH} {nc ns : Nat} (h : x13_38 C G)  (k : j_ok n_KT 4 C G 419 [] [(0, (-1))] S V nc ns) : j_ok n_KT 4 C G 409 [] [] S V nc ns := by
  have E := n_E h
  refine j_iconst E d13_38_409 (by decide) ?_
  refine j_goto E d13_38_410 (t := 419) rfl ?_
  exact j_pick [] rfl k
theorem t13_38_413 {C : qCx} {G : jG} {S : jS} {V : jH} {nc ns : Nat} {l0 : Int} (h : x13_38 C G) (c1 : S.1 l0 = 33) (c2 : -2147483648 ≤ (V l0 22) - 2 ∧ (V l0 22) - 2 ≤ 2147483647) (k : j_ok n_KT 4 C G 419 [] [(0, (V l0 22) - 2)] S V nc ns) : j_ok n_KT 4 C G 413 [(0, (2, l0))] [] S V nc ns := by
  have E := n_E h
  refine j_aload_n E d13_38_413 rfl 0 rfl ?_
  refine j_getI (f := 22) (fg12_218 h) d13_38_414 c1 (by decide) rfl rfl ?_
  refine j_iconst E d13_38_417 (by decide) ?_
  refine j_isub E d13_38_418 c2 ?_
  exact j_pick [] rfl k
theorem t13_38_419 {C : qCx} {G : jG} {S : jS} {V : jH} {nc ns : Nat} {s0 : Int} {mc ms : Nat} {qf : Int → jS → jH → Prop} (h : x13_38 C G)  (R : j_Ri n_KT 4 C G b_13_38 mc ms qf) (q : qf s0 S V) (hc : nc ≤ mc) (hs : ns ≤ ms) : j_ok n_KT 4 C G 419 [] [(0, s0)] S V nc ns := by
  have E := n_E h
  exact R _ _ _ _ _ _ _ d13_38_419 q hc hs
/- BalanceCoderModel.takeAll()Z -/
abbrev b_13_40 : ByteArray := prog_13_method_40_code
def y_13_40 : MethodName := ⟨"BalanceCoderModel", "takeAll", "()Z"⟩
abbrev x13_40 (C : qCx) (G : jG) : Prop := n_ctx C b_13_40 8 "BalanceCoderModel" G.1 G.2.1
def M13_40 (l : Launch) (mc ms : Nat) (p : Int → jS → jH → Prop) (q : Int → jS → jH → Int → jS → jH → Prop) : Prop := j_Met l vwCl n_TL n_NW n_KT y_13_40 (Cond.code y_13_40 b_13_40 8 (some .boolean) :: n_GW) { frames := 3, cells := mc, slots := ms, locals := 71 } mc ms (fun a S V => ∃ u0 : Int, a = [(2, u0)] ∧ S.1 u0 = 33 ∧ p u0 S V) (fun a S V rs S' V' => ∃ u0 r : Int, a = [(2, u0)] ∧ rs = [(0, r)] ∧ q u0 S V r S' V')
theorem e13_40 {l : Launch} {mc ms : Nat} {p : Int → jS → jH → Prop} {q : Int → jS → jH → Int → jS → jH → Prop} (body : ∀ (C : qCx) (G : jG), x13_40 C G → C.2.2.2.1.frames = 3 ∧ C.2.2.2.1.locals = 71 → C.2.2.2.1.cells = mc ∧ C.2.2.2.1.slots = ms → C.2.1 = l → C.2.2.2.2.2.2.2.2.1.name = "takeAll" → ∀ (u0 : Int) (S : jS) (V : jH), S.1 u0 = 33 → p u0 S V → j_Rz n_KT 8 C G b_13_40 mc ms (q u0 S V) → j_ok n_KT 8 C G 0 [(0, (2, u0))] [] S V 0 0) : M13_40 l mc ms p q := by
  refine j_method (ws' := n_GW) (by decide) rfl ?_ ?_
  · rintro a S V ⟨u0, rfl, -⟩
    exact Nat.le_of_ble_eq_true rfl
  · rintro C G htl hl hrm hm hml ho hts hnm hE a S V ⟨u0, rfl, ht, hp⟩ R
    exact body C G ⟨htl, hm, hml, ho, fun w hw => hts w (List.mem_cons_of_mem _ hw), hE⟩ (by rw [hrm]; exact ⟨rfl, rfl⟩) (by rw [hrm]; exact ⟨rfl, rfl⟩) hl hnm u0 S V ht hp (fun pc lo r S' V' nc ns d z q hc hs => R.2.2.1 rfl pc lo r S' V' nc ns d z ⟨u0, r, rfl, rfl, q⟩ hc hs)
theorem d13_40_0 : decode b_13_40 0 = .ok (.aload_n 0, 1) := by decide +kernel
theorem d13_40_1 : decode b_13_40 1 = .ok (.aload_n 0, 1) := by decide +kernel
theorem d13_40_2 : decode b_13_40 2 = .ok (.getfield 238, 3) := by decide +kernel
theorem d13_40_5 : decode b_13_40 5 = .ok (.putfield 218, 3) := by decide +kernel
theorem d13_40_8 : decode b_13_40 8 = .ok (.iconst 0, 1) := by decide +kernel
theorem d13_40_9 : decode b_13_40 9 = .ok (.istore_n 1, 1) := by decide +kernel
theorem d13_40_10 : decode b_13_40 10 = .ok (.iload_n 1, 1) := by decide +kernel
theorem d13_40_11 : decode b_13_40 11 = .ok (.aload_n 0, 1) := by decide +kernel
theorem d13_40_12 : decode b_13_40 12 = .ok (.getfield 227, 3) := by decide +kernel
theorem d13_40_15 : decode b_13_40 15 = .ok (.if_icmp .ge 21, 3) := by decide +kernel
theorem d13_40_18 : decode b_13_40 18 = .ok (.aload_n 0, 1) := by decide +kernel
theorem d13_40_19 : decode b_13_40 19 = .ok (.getfield 41, 3) := by decide +kernel
theorem d13_40_22 : decode b_13_40 22 = .ok (.iload_n 1, 1) := by decide +kernel
theorem d13_40_23 : decode b_13_40 23 = .ok (.aload_n 0, 1) := by decide +kernel
theorem d13_40_24 : decode b_13_40 24 = .ok (.iconst 3, 1) := by decide +kernel
theorem d13_40_25 : decode b_13_40 25 = .ok (.invokevirtual 221, 3) := by decide +kernel
theorem d13_40_28 : decode b_13_40 28 = .ok (.i2l, 1) := by decide +kernel
theorem d13_40_29 : decode b_13_40 29 = .ok (.lastore, 1) := by decide +kernel
theorem d13_40_30 : decode b_13_40 30 = .ok (.iinc 1 1, 3) := by decide +kernel
theorem d13_40_33 : decode b_13_40 33 = .ok (.goto (-23), 3) := by decide +kernel
theorem d13_40_36 : decode b_13_40 36 = .ok (.aload_n 0, 1) := by decide +kernel
theorem d13_40_37 : decode b_13_40 37 = .ok (.getfield 241, 3) := by decide +kernel
theorem d13_40_40 : decode b_13_40 40 = .ok (.istore_n 1, 1) := by decide +kernel
theorem d13_40_41 : decode b_13_40 41 = .ok (.iconst 0, 1) := by decide +kernel
theorem d13_40_42 : decode b_13_40 42 = .ok (.istore_n 2, 1) := by decide +kernel
theorem d13_40_43 : decode b_13_40 43 = .ok (.iload_n 2, 1) := by decide +kernel
theorem d13_40_44 : decode b_13_40 44 = .ok (.aload_n 0, 1) := by decide +kernel
theorem d13_40_45 : decode b_13_40 45 = .ok (.getfield 230, 3) := by decide +kernel
theorem d13_40_48 : decode b_13_40 48 = .ok (.if_icmp .ge 234, 3) := by decide +kernel
theorem d13_40_51 : decode b_13_40 51 = .ok (.aload_n 0, 1) := by decide +kernel
theorem d13_40_52 : decode b_13_40 52 = .ok (.getfield 41, 3) := by decide +kernel
theorem d13_40_55 : decode b_13_40 55 = .ok (.iload_n 2, 1) := by decide +kernel
theorem d13_40_56 : decode b_13_40 56 = .ok (.aload_n 0, 1) := by decide +kernel
theorem d13_40_57 : decode b_13_40 57 = .ok (.getfield 227, 3) := by decide +kernel
theorem d13_40_60 : decode b_13_40 60 = .ok (.irem, 1) := by decide +kernel
theorem d13_40_61 : decode b_13_40 61 = .ok (.laload, 1) := by decide +kernel
theorem d13_40_62 : decode b_13_40 62 = .ok (.lstore_n 3, 1) := by decide +kernel
theorem d13_40_63 : decode b_13_40 63 = .ok (.lload_n 3, 1) := by decide +kernel
theorem d13_40_64 : decode b_13_40 64 = .ok (.aload_n 0, 1) := by decide +kernel
theorem d13_40_65 : decode b_13_40 65 = .ok (.getfield 171, 3) := by decide +kernel
theorem d13_40_68 : decode b_13_40 68 = .ok (.i2l, 1) := by decide +kernel
theorem d13_40_69 : decode b_13_40 69 = .ok (.lrem, 1) := by decide +kernel
theorem d13_40_70 : decode b_13_40 70 = .ok (.l2i, 1) := by decide +kernel
theorem d13_40_71 : decode b_13_40 71 = .ok (.istore 5, 2) := by decide +kernel
theorem d13_40_73 : decode b_13_40 73 = .ok (.iload_n 2, 1) := by decide +kernel
theorem d13_40_74 : decode b_13_40 74 = .ok (.ifCond .ne 7, 3) := by decide +kernel
theorem d13_40_77 : decode b_13_40 77 = .ok (.iconst 0, 1) := by decide +kernel
theorem d13_40_78 : decode b_13_40 78 = .ok (.goto 13, 3) := by decide +kernel
theorem d13_40_81 : decode b_13_40 81 = .ok (.aload_n 0, 1) := by decide +kernel
theorem d13_40_82 : decode b_13_40 82 = .ok (.getfield 54, 3) := by decide +kernel
theorem d13_40_85 : decode b_13_40 85 = .ok (.iload_n 2, 1) := by decide +kernel
theorem d13_40_86 : decode b_13_40 86 = .ok (.iconst 1, 1) := by decide +kernel
theorem d13_40_87 : decode b_13_40 87 = .ok (.isub, 1) := by decide +kernel
theorem d13_40_88 : decode b_13_40 88 = .ok (.iaload, 1) := by decide +kernel
theorem d13_40_89 : decode b_13_40 89 = .ok (.iconst 3, 1) := by decide +kernel
theorem d13_40_90 : decode b_13_40 90 = .ok (.iand, 1) := by decide +kernel
theorem d13_40_91 : decode b_13_40 91 = .ok (.istore 6, 2) := by decide +kernel
theorem d13_40_93 : decode b_13_40 93 = .ok (.iconst 0, 1) := by decide +kernel
theorem d13_40_94 : decode b_13_40 94 = .ok (.istore 7, 2) := by decide +kernel
theorem d13_40_96 : decode b_13_40 96 = .ok (.aload_n 0, 1) := by decide +kernel
theorem d13_40_97 : decode b_13_40 97 = .ok (.iload 6, 2) := by decide +kernel
theorem d13_40_99 : decode b_13_40 99 = .ok (.iconst 0, 1) := by decide +kernel
theorem d13_40_100 : decode b_13_40 100 = .ok (.invokevirtual 164, 3) := by decide +kernel
theorem d13_40_103 : decode b_13_40 103 = .ok (.aload_n 0, 1) := by decide +kernel
theorem d13_40_104 : decode b_13_40 104 = .ok (.getfield 158, 3) := by decide +kernel
theorem d13_40_107 : decode b_13_40 107 = .ok (.aload_n 0, 1) := by decide +kernel
theorem d13_40_108 : decode b_13_40 108 = .ok (.getfield 155, 3) := by decide +kernel
theorem d13_40_111 : decode b_13_40 111 = .ok (.iadd, 1) := by decide +kernel
theorem d13_40_112 : decode b_13_40 112 = .ok (.iload 5, 2) := by decide +kernel
theorem d13_40_114 : decode b_13_40 114 = .ok (.if_icmp .gt 34, 3) := by decide +kernel
theorem d13_40_117 : decode b_13_40 117 = .ok (.iinc 7 1, 3) := by decide +kernel
theorem d13_40_120 : decode b_13_40 120 = .ok (.aload_n 0, 1) := by decide +kernel
theorem d13_40_121 : decode b_13_40 121 = .ok (.dup, 1) := by decide +kernel
theorem d13_40_122 : decode b_13_40 122 = .ok (.getfield 158, 3) := by decide +kernel
theorem d13_40_125 : decode b_13_40 125 = .ok (.aload_n 0, 1) := by decide +kernel
theorem d13_40_126 : decode b_13_40 126 = .ok (.getfield 155, 3) := by decide +kernel
theorem d13_40_129 : decode b_13_40 129 = .ok (.iadd, 1) := by decide +kernel
theorem d13_40_130 : decode b_13_40 130 = .ok (.putfield 158, 3) := by decide +kernel
theorem d13_40_133 : decode b_13_40 133 = .ok (.aload_n 0, 1) := by decide +kernel
theorem d13_40_134 : decode b_13_40 134 = .ok (.aload_n 0, 1) := by decide +kernel
theorem d13_40_135 : decode b_13_40 135 = .ok (.iload 6, 2) := by decide +kernel
theorem d13_40_137 : decode b_13_40 137 = .ok (.iload 7, 2) := by decide +kernel
theorem d13_40_139 : decode b_13_40 139 = .ok (.invokevirtual 152, 3) := by decide +kernel
theorem d13_40_142 : decode b_13_40 142 = .ok (.putfield 155, 3) := by decide +kernel
theorem d13_40_145 : decode b_13_40 145 = .ok (.goto (-42), 3) := by decide +kernel
theorem d13_40_148 : decode b_13_40 148 = .ok (.aload_n 0, 1) := by decide +kernel
theorem d13_40_149 : decode b_13_40 149 = .ok (.getfield 155, 3) := by decide +kernel
theorem d13_40_152 : decode b_13_40 152 = .ok (.i2l, 1) := by decide +kernel
theorem d13_40_153 : decode b_13_40 153 = .ok (.lload_n 3, 1) := by decide +kernel
theorem d13_40_154 : decode b_13_40 154 = .ok (.aload_n 0, 1) := by decide +kernel
theorem d13_40_155 : decode b_13_40 155 = .ok (.getfield 171, 3) := by decide +kernel
theorem d13_40_158 : decode b_13_40 158 = .ok (.i2l, 1) := by decide +kernel
theorem d13_40_159 : decode b_13_40 159 = .ok (.ldiv, 1) := by decide +kernel
theorem d13_40_160 : decode b_13_40 160 = .ok (.lmul, 1) := by decide +kernel
theorem d13_40_161 : decode b_13_40 161 = .ok (.iload 5, 2) := by decide +kernel
theorem d13_40_163 : decode b_13_40 163 = .ok (.i2l, 1) := by decide +kernel
theorem d13_40_164 : decode b_13_40 164 = .ok (.ladd, 1) := by decide +kernel
theorem d13_40_165 : decode b_13_40 165 = .ok (.aload_n 0, 1) := by decide +kernel
theorem d13_40_166 : decode b_13_40 166 = .ok (.getfield 158, 3) := by decide +kernel
theorem d13_40_169 : decode b_13_40 169 = .ok (.i2l, 1) := by decide +kernel
theorem d13_40_170 : decode b_13_40 170 = .ok (.lsub, 1) := by decide +kernel
theorem d13_40_171 : decode b_13_40 171 = .ok (.lstore_n 3, 1) := by decide +kernel
theorem d13_40_172 : decode b_13_40 172 = .ok (.lload_n 3, 1) := by decide +kernel
theorem d13_40_173 : decode b_13_40 173 = .ok (.aload_n 0, 1) := by decide +kernel
theorem d13_40_174 : decode b_13_40 174 = .ok (.getfield 171, 3) := by decide +kernel
theorem d13_40_177 : decode b_13_40 177 = .ok (.i2l, 1) := by decide +kernel
theorem d13_40_178 : decode b_13_40 178 = .ok (.lcmp, 1) := by decide +kernel
theorem d13_40_179 : decode b_13_40 179 = .ok (.ifCond .ge 37, 3) := by decide +kernel
theorem d13_40_182 : decode b_13_40 182 = .ok (.iload_n 1, 1) := by decide +kernel
theorem d13_40_183 : decode b_13_40 183 = .ok (.ifCond .ne 5, 3) := by decide +kernel
theorem d13_40_186 : decode b_13_40 186 = .ok (.iconst 0, 1) := by decide +kernel
theorem d13_40_187 : decode b_13_40 187 = .ok (.ireturn, 1) := by decide +kernel
theorem d13_40_188 : decode b_13_40 188 = .ok (.iinc 1 (-1), 3) := by decide +kernel
theorem d13_40_191 : decode b_13_40 191 = .ok (.ldc2_w 177, 3) := by decide +kernel
theorem d13_40_194 : decode b_13_40 194 = .ok (.lload_n 3, 1) := by decide +kernel
theorem d13_40_195 : decode b_13_40 195 = .ok (.lmul, 1) := by decide +kernel
theorem d13_40_196 : decode b_13_40 196 = .ok (.aload_n 0, 1) := by decide +kernel
theorem d13_40_197 : decode b_13_40 197 = .ok (.getfield 10, 3) := by decide +kernel
theorem d13_40_200 : decode b_13_40 200 = .ok (.getfield 197, 3) := by decide +kernel
theorem d13_40_203 : decode b_13_40 203 = .ok (.aload_n 0, 1) := by decide +kernel
theorem d13_40_204 : decode b_13_40 204 = .ok (.getfield 244, 3) := by decide +kernel
theorem d13_40_207 : decode b_13_40 207 = .ok (.iload_n 1, 1) := by decide +kernel
theorem d13_40_208 : decode b_13_40 208 = .ok (.iadd, 1) := by decide +kernel
theorem d13_40_209 : decode b_13_40 209 = .ok (.iaload, 1) := by decide +kernel
theorem d13_40_210 : decode b_13_40 210 = .ok (.i2l, 1) := by decide +kernel
theorem d13_40_211 : decode b_13_40 211 = .ok (.ladd, 1) := by decide +kernel
theorem d13_40_212 : decode b_13_40 212 = .ok (.lstore_n 3, 1) := by decide +kernel
theorem d13_40_213 : decode b_13_40 213 = .ok (.goto (-41), 3) := by decide +kernel
theorem d13_40_216 : decode b_13_40 216 = .ok (.aload_n 0, 1) := by decide +kernel
theorem d13_40_217 : decode b_13_40 217 = .ok (.getfield 41, 3) := by decide +kernel
theorem d13_40_220 : decode b_13_40 220 = .ok (.iload_n 2, 1) := by decide +kernel
theorem d13_40_221 : decode b_13_40 221 = .ok (.aload_n 0, 1) := by decide +kernel
theorem d13_40_222 : decode b_13_40 222 = .ok (.getfield 227, 3) := by decide +kernel
theorem d13_40_225 : decode b_13_40 225 = .ok (.irem, 1) := by decide +kernel
theorem d13_40_226 : decode b_13_40 226 = .ok (.lload_n 3, 1) := by decide +kernel
theorem d13_40_227 : decode b_13_40 227 = .ok (.lastore, 1) := by decide +kernel
theorem d13_40_228 : decode b_13_40 228 = .ok (.aload_n 0, 1) := by decide +kernel
theorem d13_40_229 : decode b_13_40 229 = .ok (.getfield 54, 3) := by decide +kernel
theorem d13_40_232 : decode b_13_40 232 = .ok (.iload_n 2, 1) := by decide +kernel
theorem d13_40_233 : decode b_13_40 233 = .ok (.iload 7, 2) := by decide +kernel
theorem d13_40_235 : decode b_13_40 235 = .ok (.iastore, 1) := by decide +kernel
theorem d13_40_236 : decode b_13_40 236 = .ok (.aload_n 0, 1) := by decide +kernel
theorem d13_40_237 : decode b_13_40 237 = .ok (.getfield 57, 3) := by decide +kernel
theorem d13_40_240 : decode b_13_40 240 = .ok (.iload_n 2, 1) := by decide +kernel
theorem d13_40_241 : decode b_13_40 241 = .ok (.lload_n 3, 1) := by decide +kernel
theorem d13_40_242 : decode b_13_40 242 = .ok (.lastore, 1) := by decide +kernel
theorem d13_40_243 : decode b_13_40 243 = .ok (.aload_n 0, 1) := by decide +kernel
theorem d13_40_244 : decode b_13_40 244 = .ok (.getfield 60, 3) := by decide +kernel
theorem d13_40_247 : decode b_13_40 247 = .ok (.iload_n 2, 1) := by decide +kernel
theorem d13_40_248 : decode b_13_40 248 = .ok (.iload_n 1, 1) := by decide +kernel
theorem d13_40_249 : decode b_13_40 249 = .ok (.iastore, 1) := by decide +kernel
theorem d13_40_250 : decode b_13_40 250 = .ok (.aload_n 0, 1) := by decide +kernel
theorem d13_40_251 : decode b_13_40 251 = .ok (.getfield 35, 3) := by decide +kernel
theorem d13_40_254 : decode b_13_40 254 = .ok (.iload_n 2, 1) := by decide +kernel
theorem d13_40_255 : decode b_13_40 255 = .ok (.aload_n 0, 1) := by decide +kernel
theorem d13_40_256 : decode b_13_40 256 = .ok (.getfield 155, 3) := by decide +kernel
theorem d13_40_259 : decode b_13_40 259 = .ok (.iastore, 1) := by decide +kernel
theorem d13_40_260 : decode b_13_40 260 = .ok (.aload_n 0, 1) := by decide +kernel
theorem d13_40_261 : decode b_13_40 261 = .ok (.getfield 38, 3) := by decide +kernel
theorem d13_40_264 : decode b_13_40 264 = .ok (.iload_n 2, 1) := by decide +kernel
theorem d13_40_265 : decode b_13_40 265 = .ok (.aload_n 0, 1) := by decide +kernel
theorem d13_40_266 : decode b_13_40 266 = .ok (.getfield 158, 3) := by decide +kernel
theorem d13_40_269 : decode b_13_40 269 = .ok (.iastore, 1) := by decide +kernel
theorem d13_40_270 : decode b_13_40 270 = .ok (.aload_n 0, 1) := by decide +kernel
theorem d13_40_271 : decode b_13_40 271 = .ok (.iload 7, 2) := by decide +kernel
theorem d13_40_273 : decode b_13_40 273 = .ok (.invokevirtual 168, 3) := by decide +kernel
theorem d13_40_276 : decode b_13_40 276 = .ok (.iinc 2 1, 3) := by decide +kernel
theorem d13_40_279 : decode b_13_40 279 = .ok (.goto (-236), 3) := by decide +kernel
theorem d13_40_282 : decode b_13_40 282 = .ok (.iload_n 1, 1) := by decide +kernel
theorem d13_40_283 : decode b_13_40 283 = .ok (.ifCond .ne 7, 3) := by decide +kernel
theorem d13_40_286 : decode b_13_40 286 = .ok (.iconst 1, 1) := by decide +kernel
theorem d13_40_287 : decode b_13_40 287 = .ok (.goto 4, 3) := by decide +kernel
theorem d13_40_290 : decode b_13_40 290 = .ok (.iconst 0, 1) := by decide +kernel
theorem d13_40_291 : decode b_13_40 291 = .ok (.istore_n 2, 1) := by decide +kernel
theorem d13_40_292 : decode b_13_40 292 = .ok (.iconst 0, 1) := by decide +kernel
theorem d13_40_293 : decode b_13_40 293 = .ok (.istore_n 3, 1) := by decide +kernel
theorem d13_40_294 : decode b_13_40 294 = .ok (.iload_n 3, 1) := by decide +kernel
theorem d13_40_295 : decode b_13_40 295 = .ok (.aload_n 0, 1) := by decide +kernel
theorem d13_40_296 : decode b_13_40 296 = .ok (.getfield 227, 3) := by decide +kernel
theorem d13_40_299 : decode b_13_40 299 = .ok (.if_icmp .ge 34, 3) := by decide +kernel
theorem d13_40_302 : decode b_13_40 302 = .ok (.iload_n 2, 1) := by decide +kernel
theorem d13_40_303 : decode b_13_40 303 = .ok (.ifCond .eq 22, 3) := by decide +kernel
theorem d13_40_306 : decode b_13_40 306 = .ok (.aload_n 0, 1) := by decide +kernel
theorem d13_40_307 : decode b_13_40 307 = .ok (.getfield 41, 3) := by decide +kernel
theorem d13_40_310 : decode b_13_40 310 = .ok (.iload_n 3, 1) := by decide +kernel
theorem d13_40_311 : decode b_13_40 311 = .ok (.laload, 1) := by decide +kernel
theorem d13_40_312 : decode b_13_40 312 = .ok (.aload_n 0, 1) := by decide +kernel
theorem d13_40_313 : decode b_13_40 313 = .ok (.getfield 171, 3) := by decide +kernel
theorem d13_40_316 : decode b_13_40 316 = .ok (.i2l, 1) := by decide +kernel
theorem d13_40_317 : decode b_13_40 317 = .ok (.lcmp, 1) := by decide +kernel
theorem d13_40_318 : decode b_13_40 318 = .ok (.ifCond .ne 7, 3) := by decide +kernel
theorem d13_40_321 : decode b_13_40 321 = .ok (.iconst 1, 1) := by decide +kernel
theorem d13_40_322 : decode b_13_40 322 = .ok (.goto 4, 3) := by decide +kernel
theorem d13_40_325 : decode b_13_40 325 = .ok (.iconst 0, 1) := by decide +kernel
theorem d13_40_326 : decode b_13_40 326 = .ok (.istore_n 2, 1) := by decide +kernel
theorem d13_40_327 : decode b_13_40 327 = .ok (.iinc 3 1, 3) := by decide +kernel
theorem d13_40_330 : decode b_13_40 330 = .ok (.goto (-36), 3) := by decide +kernel
theorem d13_40_333 : decode b_13_40 333 = .ok (.iload_n 2, 1) := by decide +kernel
theorem d13_40_334 : decode b_13_40 334 = .ok (.ireturn, 1) := by decide +kernel
theorem K13_40_25 {C : qCx} {G : jG} {mc ms : Nat} {p : Int → Int → jS → jH → Prop} {q : Int → Int → jS → jH → Int → jS → jH → Prop} (h : x13_40 C G) (hrm : C.2.2.2.1.frames = 3 ∧ C.2.2.2.1.locals = 71) (hM : M13_36 C.2.1 mc ms p q) : j_Call C b_13_40 n_KT G.1 G.2.1 8 (.invokevirtual 221) mc ms (fun a S V => ∃ u0 u1 : Int, a = [(2, u0), (0, u1)] ∧ S.1 u0 = 33 ∧ p u0 u1 S V) (fun a S V rs S' V' => ∃ u0 u1 r : Int, a = [(2, u0), (0, u1)] ∧ rs = [(0, r)] ∧ q u0 u1 S V r S' V') := j_callV n_NWk h.2.2.2.2.2 h.1 hM ⟨h.2.1.1, h.2.1.2, h.2.2.1, h.2.2.2.1, h.2.2.2.2.1⟩ ⟨n_CB (y := y_13_36) (bytes := b_13_36) 1 h.2.2.2.2.1 n_w1066 n_w1063 n_w12 ⟨by decide, by decide, by decide +kernel⟩ rfl rfl ⟨by rw [hrm.1]; exact Nat.le_of_ble_eq_true rfl, by rw [hrm.2]; exact Nat.le_of_ble_eq_true rfl⟩, h.2.2.2.2.1 _ n_w1065, h.2.2.2.2.1 _ n_s45⟩ (Cn := RX12) (fun a S V hP => by obtain ⟨u0, u1, rfl, e, -⟩ := hP; exact ⟨u0, _, 12, _, _, TX12, 31, rfl, rfl, by rw [e]; decide, by rw [e]; rfl, rfl⟩)
theorem K13_40_100 {C : qCx} {G : jG} {mc ms : Nat} {p : Int → Int → Int → jS → jH → Prop} {q : Int → Int → Int → jS → jH → jS → jH → Prop} (h : x13_40 C G) (hrm : C.2.2.2.1.frames = 3 ∧ C.2.2.2.1.locals = 71) (hM : M13_24 C.2.1 mc ms p q) : j_Call C b_13_40 n_KT G.1 G.2.1 8 (.invokevirtual 164) mc ms (fun a S V => ∃ u0 u1 u2 : Int, a = [(2, u0), (0, u1), (0, u2)] ∧ S.1 u0 = 33 ∧ p u0 u1 u2 S V) (fun a S V rs S' V' => ∃ u0 u1 u2 : Int, a = [(2, u0), (0, u1), (0, u2)] ∧ rs = [] ∧ q u0 u1 u2 S V S' V') := j_callV n_NWk h.2.2.2.2.2 h.1 hM ⟨h.2.1.1, h.2.1.2, h.2.2.1, h.2.2.2.1, h.2.2.2.2.1⟩ ⟨n_CB (y := y_13_24) (bytes := b_13_24) 2 h.2.2.2.2.1 n_w1017 n_w1014 n_w12 ⟨by decide, by decide, by decide +kernel⟩ rfl rfl ⟨by rw [hrm.1]; exact Nat.le_of_ble_eq_true rfl, by rw [hrm.2]; exact Nat.le_of_ble_eq_true rfl⟩, h.2.2.2.2.1 _ n_w1016, h.2.2.2.2.1 _ n_s37⟩ (Cn := RX12) (fun a S V hP => by obtain ⟨u0, u1, u2, rfl, e, -⟩ := hP; exact ⟨u0, _, 12, _, _, TX12, 31, rfl, rfl, by rw [e]; decide, by rw [e]; rfl, rfl⟩)
theorem K13_40_139 {C : qCx} {G : jG} {mc ms : Nat} {p : Int → Int → Int → jS → jH → Prop} {q : Int → Int → Int → jS → jH → Int → jS → jH → Prop} (h : x13_40 C G) (hrm : C.2.2.2.1.frames = 3 ∧ C.2.2.2.1.locals = 71) (hM : M13_23 C.2.1 mc ms p q) : j_Call C b_13_40 n_KT G.1 G.2.1 8 (.invokevirtual 152) mc ms (fun a S V => ∃ u0 u1 u2 : Int, a = [(2, u0), (0, u1), (0, u2)] ∧ S.1 u0 = 33 ∧ p u0 u1 u2 S V) (fun a S V rs S' V' => ∃ u0 u1 u2 r : Int, a = [(2, u0), (0, u1), (0, u2)] ∧ rs = [(0, r)] ∧ q u0 u1 u2 S V r S' V') := j_callV n_NWk h.2.2.2.2.2 h.1 hM ⟨h.2.1.1, h.2.1.2, h.2.2.1, h.2.2.2.1, h.2.2.2.2.1⟩ ⟨n_CB (y := y_13_23) (bytes := b_13_23) 2 h.2.2.2.2.1 n_w1021 n_w1018 n_w12 ⟨by decide, by decide, by decide +kernel⟩ rfl rfl ⟨by rw [hrm.1]; exact Nat.le_of_ble_eq_true rfl, by rw [hrm.2]; exact Nat.le_of_ble_eq_true rfl⟩, h.2.2.2.2.1 _ n_w1020, h.2.2.2.2.1 _ n_s38⟩ (Cn := RX12) (fun a S V hP => by obtain ⟨u0, u1, u2, rfl, e, -⟩ := hP; exact ⟨u0, _, 12, _, _, TX12, 31, rfl, rfl, by rw [e]; decide, by rw [e]; rfl, rfl⟩)
theorem K13_40_273 {C : qCx} {G : jG} {mc ms : Nat} {p : Int → Int → jS → jH → Prop} {q : Int → Int → jS → jH → jS → jH → Prop} (h : x13_40 C G) (hrm : C.2.2.2.1.frames = 3 ∧ C.2.2.2.1.locals = 71) (hM : M13_25 C.2.1 mc ms p q) : j_Call C b_13_40 n_KT G.1 G.2.1 8 (.invokevirtual 168) mc ms (fun a S V => ∃ u0 u1 : Int, a = [(2, u0), (0, u1)] ∧ S.1 u0 = 33 ∧ p u0 u1 S V) (fun a S V rs S' V' => ∃ u0 u1 : Int, a = [(2, u0), (0, u1)] ∧ rs = [] ∧ q u0 u1 S V S' V') := j_callV n_NWk h.2.2.2.2.2 h.1 hM ⟨h.2.1.1, h.2.1.2, h.2.2.1, h.2.2.2.1, h.2.2.2.2.1⟩ ⟨n_CB (y := y_13_25) (bytes := b_13_25) 1 h.2.2.2.2.1 n_w1025 n_w1022 n_w12 ⟨by decide, by decide, by decide +kernel⟩ rfl rfl ⟨by rw [hrm.1]; exact Nat.le_of_ble_eq_true rfl, by rw [hrm.2]; exact Nat.le_of_ble_eq_true rfl⟩, h.2.2.2.2.1 _ n_w1024, h.2.2.2.2.1 _ n_s39⟩ (Cn := RX12) (fun a S V hP => by obtain ⟨u0, u1, rfl, e, -⟩ := hP; exact ⟨u0, _, 12, _, _, TX12, 31, rfl, rfl, by rw [e]; decide, by rw [e]; rfl, rfl⟩)
theorem t13_40_0 {C : qCx} {G : jG} {S : jS} {V : jH} {nc ns : Nat} {l0 : Int} (h : x13_40 C G) (c1 : S.1 l0 = 33) (k : j_ok n_KT 8 C G 10 [(0, (2, l0)), (1, (0, 0))] [] S (j_up V l0 22 (V l0 25)) nc ns) : j_ok n_KT 8 C G 0 [(0, (2, l0))] [] S V nc ns := by
  have E := n_E h
  refine j_aload_n E d13_40_0 rfl 0 rfl ?_
  refine j_aload_n E d13_40_1 rfl 0 rfl ?_
  refine j_getI (f := 25) (fg12_238 h) d13_40_2 c1 (by decide) rfl rfl ?_
  refine j_putI (f := 22) (fp12_218 h) (n_hap h 33 12 0 _ rfl) d13_40_5 c1 (by decide) rfl rfl rfl ?_
  refine j_iconst E d13_40_8 (by decide) ?_
  refine j_istore_n E d13_40_9 rfl (by decide) (lo1 := [(0, (2, l0))]) rfl ?_
  exact j_pick [1, 0] rfl k
theorem t13_40_10 {C : qCx} {G : jG} {S : jS} {V : jH} {nc ns : Nat} {l0 l1 : Int} (h : x13_40 C G) (c1 : S.1 l0 = 33) (k : V l0 23 ≤ l1 → j_ok n_KT 8 C G 36 [(0, (2, l0))] [] S V nc ns) (k' : l1 < V l0 23 → j_ok n_KT 8 C G 18 [(0, (2, l0)), (1, (0, l1))] [] S V nc ns) : j_ok n_KT 8 C G 10 [(0, (2, l0)), (1, (0, l1))] [] S V nc ns := by
  have E := n_E h
  refine j_iload_n E d13_40_10 rfl 1 rfl ?_
  refine j_aload_n E d13_40_11 rfl 0 rfl ?_
  refine j_getI (f := 23) (fg12_227 h) d13_40_12 c1 (by decide) rfl rfl ?_
  exact j_icmp_ge E d13_40_15 (t := 36) rfl (fun q => j_pick [0] rfl (k q)) (fun q => j_pick [0, 1] rfl (k' q))
theorem t13_40_18 {C : qCx} {G : jG} {S : jS} {V : jH} {nc ns : Nat} {l0 l1 : Int} {mc ms : Nat} {pp : Int → Int → jS → jH → Prop} {qq : Int → Int → jS → jH → Int → jS → jH → Prop} (h : x13_40 C G) (L : j_L S) (hrm : C.2.2.2.1.frames = 3 ∧ C.2.2.2.1.locals = 71) (c1 : S.1 l0 = 33) (hM : M13_36 C.2.1 mc ms pp qq) (hp : pp l0 3 S V) (hc : nc + mc ≤ C.2.2.2.1.cells) (hs : ns + ms ≤ C.2.2.2.1.slots) (k : ∀ (r : Int) (S' : jS) (V' : jH), qq l0 3 S V r S' V' → j_ok n_KT 8 C G 28 [(0, (2, l0)), (1, (0, l1))] [(0, r), (0, l1), (2, l0 + 24)] S' V' (nc + mc) (ns + ms)) : j_ok n_KT 8 C G 18 [(0, (2, l0)), (1, (0, l1))] [] S V nc ns := by
  have E := n_E h
  refine j_aload_n E d13_40_18 rfl 0 rfl ?_
  refine j_getS (f := 16) (x := l0 + 24) (fg12_41 h) d13_40_19 c1 (by decide) rfl rfl ((L12_16 L c1).trans (by omega)) ?_
  refine j_iload_n E d13_40_22 rfl 1 rfl ?_
  refine j_aload_n E d13_40_23 rfl 0 rfl ?_
  refine j_iconst E d13_40_24 (by decide) ?_
  refine j_call E (K13_40_25 h hrm hM) d13_40_25 (a := [(2, l0), (0, 3)]) (sk := [(0, l1), (2, l0 + 24)]) rfl ⟨l0, 3, rfl, c1, hp⟩ (Nat.le_of_ble_eq_true rfl) hc hs ?_
  rintro rs S' V' ⟨z0, z1, r, e1, rfl, q⟩
  simp only [List.cons.injEq, Prod.mk.injEq, and_true, true_and] at e1
  obtain ⟨rfl, rfl⟩ := e1
  exact j_pick [0, 1] rfl (k r S' V' q)
theorem t13_40_28 {C : qCx} {G : jG} {S : jS} {V : jH} {nc ns : Nat} {l0 l1 s0 s1 s2 : Int} {n_s2 : Nat} (h : x13_40 C G) (c1 : j_arrL S s2 n_s2) (c2 : 0 ≤ s1) (c3 : s1 < (n_s2 : Int)) (c4 : -2147483648 ≤ l1 + 1 ∧ l1 + 1 ≤ 2147483647) (k : j_ok n_KT 8 C G 10 [(0, (2, l0)), (1, (0, l1 + 1))] [] S (j_up V s2 s1 s0) nc ns) : j_ok n_KT 8 C G 28 [(0, (2, l0)), (1, (0, l1))] [(0, s0), (0, s1), (2, s2)] S V nc ns := by
  have E := n_E h
  refine j_i2l E d13_40_28 ?_
  refine j_last E d13_40_29 c1 c2 c3 ?_
  refine j_iinc E d13_40_30 (by decide) (by decide) 1 rfl (lo1 := [(0, (2, l0))]) rfl c4 ?_
  refine j_goto E d13_40_33 (t := 10) rfl ?_
  exact j_pick [1, 0] rfl k
theorem t13_40_36 {C : qCx} {G : jG} {S : jS} {V : jH} {nc ns : Nat} {l0 : Int} (h : x13_40 C G) (c1 : S.1 l0 = 33) (k : j_ok n_KT 8 C G 43 [(0, (2, l0)), (1, (0, V l0 27)), (2, (0, 0))] [] S V nc ns) : j_ok n_KT 8 C G 36 [(0, (2, l0))] [] S V nc ns := by
  have E := n_E h
  refine j_aload_n E d13_40_36 rfl 0 rfl ?_
  refine j_getI (f := 27) (fg12_241 h) d13_40_37 c1 (by decide) rfl rfl ?_
  refine j_istore_n E d13_40_40 rfl (by decide) (lo1 := [(0, (2, l0))]) rfl ?_
  refine j_iconst E d13_40_41 (by decide) ?_
  refine j_istore_n E d13_40_42 rfl (by decide) (lo1 := [(1, (0, V l0 27)), (0, (2, l0))]) rfl ?_
  exact j_pick [2, 1, 0] rfl k
theorem t13_40_43 {C : qCx} {G : jG} {S : jS} {V : jH} {nc ns : Nat} {l0 l1 l2 : Int} (h : x13_40 C G) (c1 : S.1 l0 = 33) (k : V l0 24 ≤ l2 → j_ok n_KT 8 C G 282 [(0, (2, l0)), (1, (0, l1))] [] S V nc ns) (k' : l2 < V l0 24 → j_ok n_KT 8 C G 51 [(0, (2, l0)), (1, (0, l1)), (2, (0, l2))] [] S V nc ns) : j_ok n_KT 8 C G 43 [(0, (2, l0)), (1, (0, l1)), (2, (0, l2))] [] S V nc ns := by
  have E := n_E h
  refine j_iload_n E d13_40_43 rfl 2 rfl ?_
  refine j_aload_n E d13_40_44 rfl 0 rfl ?_
  refine j_getI (f := 24) (fg12_230 h) d13_40_45 c1 (by decide) rfl rfl ?_
  exact j_icmp_ge E d13_40_48 (t := 282) rfl (fun q => j_pick [0, 1] rfl (k q)) (fun q => j_pick [0, 1, 2] rfl (k' q))
theorem t13_40_51 {C : qCx} {G : jG} {S : jS} {V : jH} {nc ns : Nat} {l0 l1 l2 : Int} (h : x13_40 C G) (L : j_L S) (c1 : S.1 l0 = 33) (c2 : 0 ≤ l2) (c3 : 1 ≤ V l0 23) (c4 : 0 ≤ l2 % (V l0 23)) (c5 : l2 % (V l0 23) < 4) (c6 : 0 ≤ V (l0 + 24) (l2 % (V l0 23))) (c7 : 1 ≤ V l0 10) (k : ¬ l2 = 0 → j_ok n_KT 8 C G 81 [(0, (2, l0)), (1, (0, l1)), (2, (0, l2)), (3, (1, V (l0 + 24) (l2 % (V l0 23)))), (5, (0, j_w32 ((V (l0 + 24) (l2 % (V l0 23))) % (V l0 10))))] [] S V nc ns) (k' : l2 = 0 → j_ok n_KT 8 C G 77 [(0, (2, l0)), (1, (0, l1)), (2, (0, l2)), (3, (1, V (l0 + 24) (l2 % (V l0 23)))), (5, (0, j_w32 ((V (l0 + 24) (l2 % (V l0 23))) % (V l0 10))))] [] S V nc ns) : j_ok n_KT 8 C G 51 [(0, (2, l0)), (1, (0, l1)), (2, (0, l2))] [] S V nc ns := by
  have E := n_E h
  refine j_aload_n E d13_40_51 rfl 0 rfl ?_
  refine j_getS (f := 16) (x := l0 + 24) (fg12_41 h) d13_40_52 c1 (by decide) rfl rfl ((L12_16 L c1).trans (by omega)) ?_
  refine j_iload_n E d13_40_55 rfl 2 rfl ?_
  refine j_aload_n E d13_40_56 rfl 0 rfl ?_
  refine j_getI (f := 23) (fg12_227 h) d13_40_57 c1 (by decide) rfl rfl ?_
  refine j_irem E d13_40_60 c2 c3 ?_
  refine j_lald E d13_40_61 (j_arrL_of (show S.1 (l0 + 24) = 15 from (by have q := L12_16k L c1; rw [show l0 + 24 = l0 + 24 by omega]; exact q)) (by decide) rfl) c4 c5 ?_
  refine j_lstore_n E d13_40_62 rfl (by decide) (lo1 := [(0, (2, l0)), (1, (0, l1)), (2, (0, l2))]) rfl ?_
  refine j_lload_n E d13_40_63 rfl 0 rfl ?_
  refine j_aload_n E d13_40_64 rfl 1 rfl ?_
  refine j_getI (f := 10) (fg12_171 h) d13_40_65 c1 (by decide) rfl rfl ?_
  refine j_i2l E d13_40_68 ?_
  refine j_lrem E d13_40_69 c6 c7 ?_
  refine j_l2i E d13_40_70 ?_
  refine j_istore E d13_40_71 (by decide) (lo1 := [(3, (1, V (l0 + 24) (l2 % (V l0 23)))), (0, (2, l0)), (1, (0, l1)), (2, (0, l2))]) rfl ?_
  refine j_iload_n E d13_40_73 rfl 4 rfl ?_
  exact j_if_ne E d13_40_74 (t := 81) rfl (fun q => j_pick [2, 3, 4, 1, 0] rfl (k q)) (fun q => j_pick [2, 3, 4, 1, 0] rfl (k' q))
theorem t13_40_77 {C : qCx} {G : jG} {S : jS} {V : jH} {nc ns : Nat} {l0 l1 l2 l3 l5 : Int} (h : x13_40 C G)  (k : j_ok n_KT 8 C G 91 [(0, (2, l0)), (1, (0, l1)), (2, (0, l2)), (3, (1, l3)), (5, (0, l5))] [(0, 0)] S V nc ns) : j_ok n_KT 8 C G 77 [(0, (2, l0)), (1, (0, l1)), (2, (0, l2)), (3, (1, l3)), (5, (0, l5))] [] S V nc ns := by
  have E := n_E h
  refine j_iconst E d13_40_77 (by decide) ?_
  refine j_goto E d13_40_78 (t := 91) rfl ?_
  exact j_pick [0, 1, 2, 3, 4] rfl k
theorem t13_40_81 {C : qCx} {G : jG} {S : jS} {V : jH} {nc ns : Nat} {l0 l1 l2 l3 l5 : Int} (h : x13_40 C G) (L : j_L S) (c1 : S.1 l0 = 33) (c2 : -2147483648 ≤ l2 - 1 ∧ l2 - 1 ≤ 2147483647) (c3 : 0 ≤ l2 - 1) (c4 : l2 - 1 < 400) (k : j_ok n_KT 8 C G 91 [(0, (2, l0)), (1, (0, l1)), (2, (0, l2)), (3, (1, l3)), (5, (0, l5))] [(0, (V (l0 + 28) (l2 - 1)) % 4)] S V nc ns) : j_ok n_KT 8 C G 81 [(0, (2, l0)), (1, (0, l1)), (2, (0, l2)), (3, (1, l3)), (5, (0, l5))] [] S V nc ns := by
  have E := n_E h
  refine j_aload_n E d13_40_81 rfl 0 rfl ?_
  refine j_getS (f := 28) (x := l0 + 28) (fg12_54 h) d13_40_82 c1 (by decide) rfl rfl ((L12_28 L c1).trans (by omega)) ?_
  refine j_iload_n E d13_40_85 rfl 2 rfl ?_
  refine j_iconst E d13_40_86 (by decide) ?_
  refine j_isub E d13_40_87 c2 ?_
  refine j_iald E d13_40_88 (j_arr_of (show S.1 (l0 + 28) = 1 from (by have q := L12_28k L c1; rw [show l0 + 28 = l0 + 28 by omega]; exact q)) (by decide) rfl) c3 c4 ?_
  refine j_iconst E d13_40_89 (by decide) ?_
  refine j_iand3 E d13_40_90 rfl ?_
  exact j_pick [0, 1, 2, 3, 4] rfl k
theorem t13_40_91 {C : qCx} {G : jG} {S : jS} {V : jH} {nc ns : Nat} {l0 l1 l2 l3 l5 s0 : Int} {mc ms : Nat} {pp : Int → Int → Int → jS → jH → Prop} {qq : Int → Int → Int → jS → jH → jS → jH → Prop} (h : x13_40 C G) (hrm : C.2.2.2.1.frames = 3 ∧ C.2.2.2.1.locals = 71) (c1 : S.1 l0 = 33) (hM : M13_24 C.2.1 mc ms pp qq) (hp : pp l0 s0 0 S V) (hc : nc + mc ≤ C.2.2.2.1.cells) (hs : ns + ms ≤ C.2.2.2.1.slots) (k : ∀ (S' : jS) (V' : jH), qq l0 s0 0 S V S' V' → j_ok n_KT 8 C G 103 [(0, (2, l0)), (1, (0, l1)), (2, (0, l2)), (3, (1, l3)), (5, (0, l5)), (6, (0, s0)), (7, (0, 0))] [] S' V' (nc + mc) (ns + ms)) : j_ok n_KT 8 C G 91 [(0, (2, l0)), (1, (0, l1)), (2, (0, l2)), (3, (1, l3)), (5, (0, l5))] [(0, s0)] S V nc ns := by
  have E := n_E h
  refine j_istore E d13_40_91 (by decide) (lo1 := [(0, (2, l0)), (1, (0, l1)), (2, (0, l2)), (3, (1, l3)), (5, (0, l5))]) rfl ?_
  refine j_iconst E d13_40_93 (by decide) ?_
  refine j_istore E d13_40_94 (by decide) (lo1 := [(6, (0, s0)), (0, (2, l0)), (1, (0, l1)), (2, (0, l2)), (3, (1, l3)), (5, (0, l5))]) rfl ?_
  refine j_aload_n E d13_40_96 rfl 2 rfl ?_
  refine j_iload E d13_40_97 1 rfl ?_
  refine j_iconst E d13_40_99 (by decide) ?_
  refine j_call E (K13_40_100 h hrm hM) d13_40_100 (a := [(2, l0), (0, s0), (0, 0)]) (sk := []) rfl ⟨l0, s0, 0, rfl, c1, hp⟩ (Nat.le_of_ble_eq_true rfl) hc hs ?_
  rintro rs S' V' ⟨z0, z1, z2, e1, rfl, q⟩
  simp only [List.cons.injEq, Prod.mk.injEq, and_true, true_and] at e1
  obtain ⟨rfl, rfl, rfl⟩ := e1
  exact j_pick [2, 3, 4, 5, 6, 1, 0] rfl (k S' V' q)
theorem t13_40_103 {C : qCx} {G : jG} {S : jS} {V : jH} {nc ns : Nat} {l0 l1 l2 l3 l5 l6 l7 : Int} (h : x13_40 C G) (c1 : S.1 l0 = 33) (c2 : -2147483648 ≤ (V l0 13) + (V l0 12) ∧ (V l0 13) + (V l0 12) ≤ 2147483647) (k : l5 < (V l0 13) + (V l0 12) → j_ok n_KT 8 C G 148 [(0, (2, l0)), (1, (0, l1)), (2, (0, l2)), (3, (1, l3)), (5, (0, l5)), (7, (0, l7))] [] S V nc ns) (k' : (V l0 13) + (V l0 12) ≤ l5 → j_ok n_KT 8 C G 117 [(0, (2, l0)), (1, (0, l1)), (2, (0, l2)), (3, (1, l3)), (5, (0, l5)), (6, (0, l6)), (7, (0, l7))] [] S V nc ns) : j_ok n_KT 8 C G 103 [(0, (2, l0)), (1, (0, l1)), (2, (0, l2)), (3, (1, l3)), (5, (0, l5)), (6, (0, l6)), (7, (0, l7))] [] S V nc ns := by
  have E := n_E h
  refine j_aload_n E d13_40_103 rfl 0 rfl ?_
  refine j_getI (f := 13) (fg12_158 h) d13_40_104 c1 (by decide) rfl rfl ?_
  refine j_aload_n E d13_40_107 rfl 0 rfl ?_
  refine j_getI (f := 12) (fg12_155 h) d13_40_108 c1 (by decide) rfl rfl ?_
  refine j_iadd E d13_40_111 c2 ?_
  refine j_iload E d13_40_112 4 rfl ?_
  exact j_icmp_gt E d13_40_114 (t := 148) rfl (fun q => j_pick [0, 1, 2, 3, 4, 6] rfl (k q)) (fun q => j_pick [0, 1, 2, 3, 4, 5, 6] rfl (k' q))
theorem t13_40_117 {C : qCx} {G : jG} {S : jS} {V : jH} {nc ns : Nat} {l0 l1 l2 l3 l5 l6 l7 : Int} {mc ms : Nat} {pp : Int → Int → Int → jS → jH → Prop} {qq : Int → Int → Int → jS → jH → Int → jS → jH → Prop} (h : x13_40 C G) (hrm : C.2.2.2.1.frames = 3 ∧ C.2.2.2.1.locals = 71) (c1 : -2147483648 ≤ l7 + 1 ∧ l7 + 1 ≤ 2147483647) (c2 : S.1 l0 = 33) (c3 : -2147483648 ≤ (V l0 13) + (V l0 12) ∧ (V l0 13) + (V l0 12) ≤ 2147483647) (hM : M13_23 C.2.1 mc ms pp qq) (hp : pp l0 l6 (l7 + 1) S (j_up V l0 13 ((V l0 13) + (V l0 12)))) (hc : nc + mc ≤ C.2.2.2.1.cells) (hs : ns + ms ≤ C.2.2.2.1.slots) (k : ∀ (r : Int) (S' : jS) (V' : jH), qq l0 l6 (l7 + 1) S (j_up V l0 13 ((V l0 13) + (V l0 12))) r S' V' → j_ok n_KT 8 C G 142 [(0, (2, l0)), (1, (0, l1)), (2, (0, l2)), (3, (1, l3)), (5, (0, l5)), (6, (0, l6)), (7, (0, l7 + 1))] [(0, r), (2, l0)] S' V' (nc + mc) (ns + ms)) : j_ok n_KT 8 C G 117 [(0, (2, l0)), (1, (0, l1)), (2, (0, l2)), (3, (1, l3)), (5, (0, l5)), (6, (0, l6)), (7, (0, l7))] [] S V nc ns := by
  have E := n_E h
  refine j_iinc E d13_40_117 (by decide) (by decide) 6 rfl (lo1 := [(0, (2, l0)), (1, (0, l1)), (2, (0, l2)), (3, (1, l3)), (5, (0, l5)), (6, (0, l6))]) rfl c1 ?_
  refine j_aload_n E d13_40_120 rfl 1 rfl ?_
  refine j_dup E d13_40_121 rfl ?_
  refine j_getI (f := 13) (fg12_158 h) d13_40_122 c2 (by decide) rfl rfl ?_
  refine j_aload_n E d13_40_125 rfl 1 rfl ?_
  refine j_getI (f := 12) (fg12_155 h) d13_40_126 c2 (by decide) rfl rfl ?_
  refine j_iadd E d13_40_129 c3 ?_
  refine j_putI (f := 13) (fp12_158 h) (n_hap h 33 12 0 _ rfl) d13_40_130 c2 (by decide) rfl rfl rfl ?_
  refine j_aload_n E d13_40_133 rfl 1 rfl ?_
  refine j_aload_n E d13_40_134 rfl 1 rfl ?_
  refine j_iload E d13_40_135 6 rfl ?_
  refine j_iload E d13_40_137 0 rfl ?_
  refine j_call E (K13_40_139 h hrm hM) d13_40_139 (a := [(2, l0), (0, l6), (0, l7 + 1)]) (sk := [(2, l0)]) rfl ⟨l0, l6, l7 + 1, rfl, c2, hp⟩ (Nat.le_of_ble_eq_true rfl) hc hs ?_
  rintro rs S' V' ⟨z0, z1, z2, r, e1, rfl, q⟩
  simp only [List.cons.injEq, Prod.mk.injEq, and_true, true_and] at e1
  obtain ⟨rfl, rfl, rfl⟩ := e1
  exact j_pick [1, 2, 3, 4, 5, 6, 0] rfl (k r S' V' q)
theorem t13_40_142 {C : qCx} {G : jG} {S : jS} {V : jH} {nc ns : Nat} {l0 l1 l2 l3 l5 l6 l7 s0 s1 : Int} (h : x13_40 C G) (c1 : S.1 s1 = 33) (k : j_ok n_KT 8 C G 103 [(0, (2, l0)), (1, (0, l1)), (2, (0, l2)), (3, (1, l3)), (5, (0, l5)), (6, (0, l6)), (7, (0, l7))] [] S (j_up V s1 12 s0) nc ns) : j_ok n_KT 8 C G 142 [(0, (2, l0)), (1, (0, l1)), (2, (0, l2)), (3, (1, l3)), (5, (0, l5)), (6, (0, l6)), (7, (0, l7))] [(0, s0), (2, s1)] S V nc ns := by
  have E := n_E h
  refine j_putI (f := 12) (fp12_155 h) (n_hap h 33 12 0 _ rfl) d13_40_142 c1 (by decide) rfl rfl rfl ?_
  refine j_goto E d13_40_145 (t := 103) rfl ?_
  exact j_pick [0, 1, 2, 3, 4, 5, 6] rfl k
theorem t13_40_148 {C : qCx} {G : jG} {S : jS} {V : jH} {nc ns : Nat} {l0 l1 l2 l3 l5 l7 : Int} (h : x13_40 C G) (c1 : S.1 l0 = 33) (c2 : 0 ≤ l3) (c3 : 1 ≤ V l0 10) (c4 : -9223372036854775808 ≤ (V l0 12) * (l3 / (V l0 10)) ∧ (V l0 12) * (l3 / (V l0 10)) ≤ 9223372036854775807) (c5 : -9223372036854775808 ≤ ((V l0 12) * (l3 / (V l0 10))) + l5 ∧ ((V l0 12) * (l3 / (V l0 10))) + l5 ≤ 9223372036854775807) (c6 : -9223372036854775808 ≤ (((V l0 12) * (l3 / (V l0 10))) + l5) - (V l0 13) ∧ (((V l0 12) * (l3 / (V l0 10))) + l5) - (V l0 13) ≤ 9223372036854775807) (k : j_ok n_KT 8 C G 172 [(0, (2, l0)), (1, (0, l1)), (2, (0, l2)), (3, (1, (((V l0 12) * (l3 / (V l0 10))) + l5) - (V l0 13))), (7, (0, l7))] [] S V nc ns) : j_ok n_KT 8 C G 148 [(0, (2, l0)), (1, (0, l1)), (2, (0, l2)), (3, (1, l3)), (5, (0, l5)), (7, (0, l7))] [] S V nc ns := by
  have E := n_E h
  refine j_aload_n E d13_40_148 rfl 0 rfl ?_
  refine j_getI (f := 12) (fg12_155 h) d13_40_149 c1 (by decide) rfl rfl ?_
  refine j_i2l E d13_40_152 ?_
  refine j_lload_n E d13_40_153 rfl 3 rfl ?_
  refine j_aload_n E d13_40_154 rfl 0 rfl ?_
  refine j_getI (f := 10) (fg12_171 h) d13_40_155 c1 (by decide) rfl rfl ?_
  refine j_i2l E d13_40_158 ?_
  refine j_ldiv E d13_40_159 c2 c3 ?_
  refine j_lmul E d13_40_160 c4 ?_
  refine j_iload E d13_40_161 4 rfl ?_
  refine j_i2l E d13_40_163 ?_
  refine j_ladd E d13_40_164 c5 ?_
  refine j_aload_n E d13_40_165 rfl 0 rfl ?_
  refine j_getI (f := 13) (fg12_158 h) d13_40_166 c1 (by decide) rfl rfl ?_
  refine j_i2l E d13_40_169 ?_
  refine j_lsub E d13_40_170 c6 ?_
  refine j_lstore_n E d13_40_171 rfl (by decide) (lo1 := [(0, (2, l0)), (1, (0, l1)), (2, (0, l2)), (5, (0, l5)), (7, (0, l7))]) rfl ?_
  exact j_pick [1, 2, 3, 0, 5] rfl k
theorem t13_40_172 {C : qCx} {G : jG} {S : jS} {V : jH} {nc ns : Nat} {l0 l1 l2 l3 l7 : Int} (h : x13_40 C G) (c1 : S.1 l0 = 33) (k : V l0 10 ≤ l3 → j_ok n_KT 8 C G 216 [(0, (2, l0)), (1, (0, l1)), (2, (0, l2)), (3, (1, l3)), (7, (0, l7))] [] S V nc ns) (k' : l3 < V l0 10 → j_ok n_KT 8 C G 182 [(0, (2, l0)), (1, (0, l1)), (2, (0, l2)), (3, (1, l3)), (7, (0, l7))] [] S V nc ns) : j_ok n_KT 8 C G 172 [(0, (2, l0)), (1, (0, l1)), (2, (0, l2)), (3, (1, l3)), (7, (0, l7))] [] S V nc ns := by
  have E := n_E h
  refine j_lload_n E d13_40_172 rfl 3 rfl ?_
  refine j_aload_n E d13_40_173 rfl 0 rfl ?_
  refine j_getI (f := 10) (fg12_171 h) d13_40_174 c1 (by decide) rfl rfl ?_
  refine j_i2l E d13_40_177 ?_
  refine j_lcmp E d13_40_178 ?_
  exact j_if_ge E d13_40_179 (t := 216) rfl (fun q => j_pick [0, 1, 2, 3, 4] rfl (k (j_cmp_ge.mp q))) (fun q => j_pick [0, 1, 2, 3, 4] rfl (k' (j_cmp_lt.mp q)))
theorem t13_40_182 {C : qCx} {G : jG} {S : jS} {V : jH} {nc ns : Nat} {l0 l1 l2 l3 l7 : Int} (h : x13_40 C G)  (k : ¬ l1 = 0 → j_ok n_KT 8 C G 188 [(0, (2, l0)), (1, (0, l1)), (2, (0, l2)), (3, (1, l3)), (7, (0, l7))] [] S V nc ns) (k' : l1 = 0 → j_ok n_KT 8 C G 186 [] [] S V nc ns) : j_ok n_KT 8 C G 182 [(0, (2, l0)), (1, (0, l1)), (2, (0, l2)), (3, (1, l3)), (7, (0, l7))] [] S V nc ns := by
  have E := n_E h
  refine j_iload_n E d13_40_182 rfl 1 rfl ?_
  exact j_if_ne E d13_40_183 (t := 188) rfl (fun q => j_pick [0, 1, 2, 3, 4] rfl (k q)) (fun q => j_pick [] rfl (k' q))
theorem t13_40_186 {C : qCx} {G : jG} {S : jS} {V : jH} {nc ns : Nat} {mc ms : Nat} {qf : Int → jS → jH → Prop} (h : x13_40 C G)  (R : j_Rz n_KT 8 C G b_13_40 mc ms qf) (q : qf 0 S V) (hc : nc ≤ mc) (hs : ns ≤ ms) : j_ok n_KT 8 C G 186 [] [] S V nc ns := by
  have E := n_E h
  refine j_iconst E d13_40_186 (by decide) ?_
  exact R _ _ _ _ _ _ _ d13_40_187 (by decide) q hc hs
theorem t13_40_188 {C : qCx} {G : jG} {S : jS} {V : jH} {nc ns : Nat} {l0 l1 l2 l3 l7 : Int} (h : x13_40 C G) (L : j_L S) (c1 : -2147483648 ≤ l1 + (-1) ∧ l1 + (-1) ≤ 2147483647) (c2 : -9223372036854775808 ≤ 256 * l3 ∧ 256 * l3 ≤ 9223372036854775807) (c3 : S.1 l0 = 33) (c4 : -2147483648 ≤ (V l0 26) + (l1 + (-1)) ∧ (V l0 26) + (l1 + (-1)) ≤ 2147483647) (c5 : 0 ≤ (V l0 26) + (l1 + (-1))) (c6 : (V l0 26) + (l1 + (-1)) < 4400) (c7 : -9223372036854775808 ≤ (256 * l3) + (V (l0 + 8) ((V l0 26) + (l1 + (-1)))) ∧ (256 * l3) + (V (l0 + 8) ((V l0 26) + (l1 + (-1)))) ≤ 9223372036854775807) (k : j_ok n_KT 8 C G 172 [(0, (2, l0)), (1, (0, l1 + (-1))), (2, (0, l2)), (3, (1, (256 * l3) + (V (l0 + 8) ((V l0 26) + (l1 + (-1)))))), (7, (0, l7))] [] S V nc ns) : j_ok n_KT 8 C G 188 [(0, (2, l0)), (1, (0, l1)), (2, (0, l2)), (3, (1, l3)), (7, (0, l7))] [] S V nc ns := by
  have E := n_E h
  refine j_iinc E d13_40_188 (by decide) (by decide) 1 rfl (lo1 := [(0, (2, l0)), (2, (0, l2)), (3, (1, l3)), (7, (0, l7))]) rfl c1 ?_
  refine j_ldc2 (n := 256) (fl12_177 h) rfl d13_40_191 ?_
  refine j_lload_n E d13_40_194 rfl 3 rfl ?_
  refine j_lmul E d13_40_195 c2 ?_
  refine j_aload_n E d13_40_196 rfl 1 rfl ?_
  refine j_getS (f := 0) (x := l0 + 1) (fg12_10 h) d13_40_197 c3 (by decide) rfl rfl ((L12_0 L c3).trans (by omega)) ?_
  refine j_getS (f := 8) (x := l0 + 8) (fg12_197 h) d13_40_200 (show S.1 (l0 + 1) = 32 from (by have q := L12_0k L c3; rw [show l0 + 1 = l0 + 1 by omega]; exact q)) (by decide) rfl rfl ((L11_8 L (show S.1 (l0 + 1) = 32 from (by have q := L12_0k L c3; rw [show l0 + 1 = l0 + 1 by omega]; exact q))).trans (by omega)) ?_
  refine j_aload_n E d13_40_203 rfl 1 rfl ?_
  refine j_getI (f := 26) (fg12_244 h) d13_40_204 c3 (by decide) rfl rfl ?_
  refine j_iload_n E d13_40_207 rfl 0 rfl ?_
  refine j_iadd E d13_40_208 c4 ?_
  refine j_iald E d13_40_209 (j_arr_of (show S.1 (l0 + 8) = 6 from (by have q := L11_8k L (show S.1 (l0 + 1) = 32 from (by have q := L12_0k L c3; rw [show l0 + 1 = l0 + 1 by omega]; exact q)); rw [show l0 + 8 = (l0 + 1) + 7 by omega]; exact q)) (by decide) rfl) c5 c6 ?_
  refine j_i2l E d13_40_210 ?_
  refine j_ladd E d13_40_211 c7 ?_
  refine j_lstore_n E d13_40_212 rfl (by decide) (lo1 := [(1, (0, l1 + (-1))), (0, (2, l0)), (2, (0, l2)), (7, (0, l7))]) rfl ?_
  refine j_goto E d13_40_213 (t := 172) rfl ?_
  exact j_pick [2, 1, 3, 0, 4] rfl k
theorem t13_40_216 {C : qCx} {G : jG} {S : jS} {V : jH} {nc ns : Nat} {l0 l1 l2 l3 l7 : Int} {mc ms : Nat} {pp : Int → Int → jS → jH → Prop} {qq : Int → Int → jS → jH → jS → jH → Prop} (h : x13_40 C G) (L : j_L S) (hrm : C.2.2.2.1.frames = 3 ∧ C.2.2.2.1.locals = 71) (c1 : S.1 l0 = 33) (c2 : 0 ≤ l2) (c3 : 1 ≤ V l0 23) (c4 : 0 ≤ l2 % (V l0 23)) (c5 : l2 % (V l0 23) < 4) (c6 : l2 < 400) (hM : M13_25 C.2.1 mc ms pp qq) (hp : pp l0 l7 S (j_up (j_up (j_up (j_up (j_up (j_up V (l0 + 24) (l2 % (V l0 23)) l3) (l0 + 28) l2 l7) (l0 + 29) l2 l3) (l0 + 30) l2 l1) (l0 + 22) l2 (V l0 12)) (l0 + 23) l2 (V l0 13))) (hc : nc + mc ≤ C.2.2.2.1.cells) (hs : ns + ms ≤ C.2.2.2.1.slots) (k : ∀ (S' : jS) (V' : jH), qq l0 l7 S (j_up (j_up (j_up (j_up (j_up (j_up V (l0 + 24) (l2 % (V l0 23)) l3) (l0 + 28) l2 l7) (l0 + 29) l2 l3) (l0 + 30) l2 l1) (l0 + 22) l2 (V l0 12)) (l0 + 23) l2 (V l0 13)) S' V' → j_ok n_KT 8 C G 276 [(0, (2, l0)), (1, (0, l1)), (2, (0, l2))] [] S' V' (nc + mc) (ns + ms)) : j_ok n_KT 8 C G 216 [(0, (2, l0)), (1, (0, l1)), (2, (0, l2)), (3, (1, l3)), (7, (0, l7))] [] S V nc ns := by
  have E := n_E h
  refine j_aload_n E d13_40_216 rfl 0 rfl ?_
  refine j_getS (f := 16) (x := l0 + 24) (fg12_41 h) d13_40_217 c1 (by decide) rfl rfl ((L12_16 L c1).trans (by omega)) ?_
  refine j_iload_n E d13_40_220 rfl 2 rfl ?_
  refine j_aload_n E d13_40_221 rfl 0 rfl ?_
  refine j_getI (f := 23) (fg12_227 h) d13_40_222 c1 (by decide) rfl rfl ?_
  refine j_irem E d13_40_225 c2 c3 ?_
  refine j_lload_n E d13_40_226 rfl 3 rfl ?_
  refine j_last E d13_40_227 (j_arrL_of (show S.1 (l0 + 24) = 15 from (by have q := L12_16k L c1; rw [show l0 + 24 = l0 + 24 by omega]; exact q)) (by decide) rfl) c4 c5 ?_
  refine j_aload_n E d13_40_228 rfl 0 rfl ?_
  refine j_getS (f := 28) (x := l0 + 28) (fg12_54 h) d13_40_229 c1 (by decide) rfl rfl ((L12_28 L c1).trans (by omega)) ?_
  refine j_iload_n E d13_40_232 rfl 2 rfl ?_
  refine j_iload E d13_40_233 4 rfl ?_
  refine j_iast E d13_40_235 (j_arr_of (show S.1 (l0 + 28) = 1 from (by have q := L12_28k L c1; rw [show l0 + 28 = l0 + 28 by omega]; exact q)) (by decide) rfl) c2 c6 ?_
  refine j_aload_n E d13_40_236 rfl 0 rfl ?_
  refine j_getS (f := 29) (x := l0 + 29) (fg12_57 h) d13_40_237 c1 (by decide) rfl rfl ((L12_29 L c1).trans (by omega)) ?_
  refine j_iload_n E d13_40_240 rfl 2 rfl ?_
  refine j_lload_n E d13_40_241 rfl 3 rfl ?_
  refine j_last E d13_40_242 (j_arrL_of (show S.1 (l0 + 29) = 16 from (by have q := L12_29k L c1; rw [show l0 + 29 = l0 + 29 by omega]; exact q)) (by decide) rfl) c2 c6 ?_
  refine j_aload_n E d13_40_243 rfl 0 rfl ?_
  refine j_getS (f := 30) (x := l0 + 30) (fg12_60 h) d13_40_244 c1 (by decide) rfl rfl ((L12_30 L c1).trans (by omega)) ?_
  refine j_iload_n E d13_40_247 rfl 2 rfl ?_
  refine j_iload_n E d13_40_248 rfl 1 rfl ?_
  refine j_iast E d13_40_249 (j_arr_of (show S.1 (l0 + 30) = 1 from (by have q := L12_30k L c1; rw [show l0 + 30 = l0 + 30 by omega]; exact q)) (by decide) rfl) c2 c6 ?_
  refine j_aload_n E d13_40_250 rfl 0 rfl ?_
  refine j_getS (f := 14) (x := l0 + 22) (fg12_35 h) d13_40_251 c1 (by decide) rfl rfl ((L12_14 L c1).trans (by omega)) ?_
  refine j_iload_n E d13_40_254 rfl 2 rfl ?_
  refine j_aload_n E d13_40_255 rfl 0 rfl ?_
  refine j_getI (f := 12) (fg12_155 h) d13_40_256 c1 (by decide) rfl rfl ?_
  refine j_eqT (show (j_up (j_up (j_up (j_up V (l0 + 24) (l2 % (V l0 23)) l3) (l0 + 28) l2 l7) (l0 + 29) l2 l3) (l0 + 30) l2 l1) l0 12 = V l0 12 from (Eq.trans (congrFun (j_up_ne (by omega)) _) (Eq.trans (congrFun (j_up_ne (by omega)) _) (Eq.trans (congrFun (j_up_ne (by omega)) _) (congrFun (j_up_ne (by omega)) _))))) ?_
  refine j_iast E d13_40_259 (j_arr_of (show S.1 (l0 + 22) = 1 from (by have q := L12_14k L c1; rw [show l0 + 22 = l0 + 22 by omega]; exact q)) (by decide) rfl) c2 c6 ?_
  refine j_aload_n E d13_40_260 rfl 0 rfl ?_
  refine j_getS (f := 15) (x := l0 + 23) (fg12_38 h) d13_40_261 c1 (by decide) rfl rfl ((L12_15 L c1).trans (by omega)) ?_
  refine j_iload_n E d13_40_264 rfl 2 rfl ?_
  refine j_aload_n E d13_40_265 rfl 0 rfl ?_
  refine j_getI (f := 13) (fg12_158 h) d13_40_266 c1 (by decide) rfl rfl ?_
  refine j_eqT (show (j_up (j_up (j_up (j_up (j_up V (l0 + 24) (l2 % (V l0 23)) l3) (l0 + 28) l2 l7) (l0 + 29) l2 l3) (l0 + 30) l2 l1) (l0 + 22) l2 (V l0 12)) l0 13 = V l0 13 from (Eq.trans (congrFun (j_up_ne (by omega)) _) (Eq.trans (congrFun (j_up_ne (by omega)) _) (Eq.trans (congrFun (j_up_ne (by omega)) _) (Eq.trans (congrFun (j_up_ne (by omega)) _) (congrFun (j_up_ne (by omega)) _)))))) ?_
  refine j_iast E d13_40_269 (j_arr_of (show S.1 (l0 + 23) = 1 from (by have q := L12_15k L c1; rw [show l0 + 23 = l0 + 23 by omega]; exact q)) (by decide) rfl) c2 c6 ?_
  refine j_aload_n E d13_40_270 rfl 0 rfl ?_
  refine j_iload E d13_40_271 4 rfl ?_
  refine j_call E (K13_40_273 h hrm hM) d13_40_273 (a := [(2, l0), (0, l7)]) (sk := []) rfl ⟨l0, l7, rfl, c1, hp⟩ (Nat.le_of_ble_eq_true rfl) hc hs ?_
  rintro rs S' V' ⟨z0, z1, e1, rfl, q⟩
  simp only [List.cons.injEq, Prod.mk.injEq, and_true, true_and] at e1
  obtain ⟨rfl, rfl⟩ := e1
  exact j_pick [0, 1, 2] rfl (k S' V' q)
theorem t13_40_276 {C : qCx} {G : jG} {S : jS} {V : jH} {nc ns : Nat} {l0 l1 l2 : Int} (h : x13_40 C G) (c1 : -2147483648 ≤ l2 + 1 ∧ l2 + 1 ≤ 2147483647) (k : j_ok n_KT 8 C G 43 [(0, (2, l0)), (1, (0, l1)), (2, (0, l2 + 1))] [] S V nc ns) : j_ok n_KT 8 C G 276 [(0, (2, l0)), (1, (0, l1)), (2, (0, l2))] [] S V nc ns := by
  have E := n_E h
  refine j_iinc E d13_40_276 (by decide) (by decide) 2 rfl (lo1 := [(0, (2, l0)), (1, (0, l1))]) rfl c1 ?_
  refine j_goto E d13_40_279 (t := 43) rfl ?_
  exact j_pick [1, 2, 0] rfl k
theorem t13_40_282 {C : qCx} {G : jG} {S : jS} {V : jH} {nc ns : Nat} {l0 l1 : Int} (h : x13_40 C G)  (k : ¬ l1 = 0 → j_ok n_KT 8 C G 290 [(0, (2, l0))] [] S V nc ns) (k' : l1 = 0 → j_ok n_KT 8 C G 286 [(0, (2, l0))] [] S V nc ns) : j_ok n_KT 8 C G 282 [(0, (2, l0)), (1, (0, l1))] [] S V nc ns := by
  have E := n_E h
  refine j_iload_n E d13_40_282 rfl 1 rfl ?_
  exact j_if_ne E d13_40_283 (t := 290) rfl (fun q => j_pick [0] rfl (k q)) (fun q => j_pick [0] rfl (k' q))
theorem t13_40_286 {C : qCx} {G : jG} {S : jS} {V : jH} {nc ns : Nat} {l0 : Int} (h : x13_40 C G)  (k : j_ok n_KT 8 C G 291 [(0, (2, l0))] [(0, 1)] S V nc ns) : j_ok n_KT 8 C G 286 [(0, (2, l0))] [] S V nc ns := by
  have E := n_E h
  refine j_iconst E d13_40_286 (by decide) ?_
  refine j_goto E d13_40_287 (t := 291) rfl ?_
  exact j_pick [0] rfl k
theorem t13_40_290 {C : qCx} {G : jG} {S : jS} {V : jH} {nc ns : Nat} {l0 : Int} (h : x13_40 C G)  (k : j_ok n_KT 8 C G 291 [(0, (2, l0))] [(0, 0)] S V nc ns) : j_ok n_KT 8 C G 290 [(0, (2, l0))] [] S V nc ns := by
  have E := n_E h
  refine j_iconst E d13_40_290 (by decide) ?_
  exact j_pick [0] rfl k
theorem t13_40_291 {C : qCx} {G : jG} {S : jS} {V : jH} {nc ns : Nat} {l0 s0 : Int} (h : x13_40 C G)  (k : j_ok n_KT 8 C G 294 [(0, (2, l0)), (2, (0, s0)), (3, (0, 0))] [] S V nc ns) : j_ok n_KT 8 C G 291 [(0, (2, l0))] [(0, s0)] S V nc ns := by
  have E := n_E h
  refine j_istore_n E d13_40_291 rfl (by decide) (lo1 := [(0, (2, l0))]) rfl ?_
  refine j_iconst E d13_40_292 (by decide) ?_
  refine j_istore_n E d13_40_293 rfl (by decide) (lo1 := [(2, (0, s0)), (0, (2, l0))]) rfl ?_
  exact j_pick [2, 1, 0] rfl k
theorem t13_40_294 {C : qCx} {G : jG} {S : jS} {V : jH} {nc ns : Nat} {l0 l2 l3 : Int} (h : x13_40 C G) (c1 : S.1 l0 = 33) (k : V l0 23 ≤ l3 → j_ok n_KT 8 C G 333 [(2, (0, l2))] [] S V nc ns) (k' : l3 < V l0 23 → j_ok n_KT 8 C G 302 [(0, (2, l0)), (2, (0, l2)), (3, (0, l3))] [] S V nc ns) : j_ok n_KT 8 C G 294 [(0, (2, l0)), (2, (0, l2)), (3, (0, l3))] [] S V nc ns := by
  have E := n_E h
  refine j_iload_n E d13_40_294 rfl 2 rfl ?_
  refine j_aload_n E d13_40_295 rfl 0 rfl ?_
  refine j_getI (f := 23) (fg12_227 h) d13_40_296 c1 (by decide) rfl rfl ?_
  exact j_icmp_ge E d13_40_299 (t := 333) rfl (fun q => j_pick [1] rfl (k q)) (fun q => j_pick [0, 1, 2] rfl (k' q))
theorem t13_40_302 {C : qCx} {G : jG} {S : jS} {V : jH} {nc ns : Nat} {l0 l2 l3 : Int} (h : x13_40 C G)  (k : l2 = 0 → j_ok n_KT 8 C G 325 [(0, (2, l0)), (3, (0, l3))] [] S V nc ns) (k' : ¬ l2 = 0 → j_ok n_KT 8 C G 306 [(0, (2, l0)), (3, (0, l3))] [] S V nc ns) : j_ok n_KT 8 C G 302 [(0, (2, l0)), (2, (0, l2)), (3, (0, l3))] [] S V nc ns := by
  have E := n_E h
  refine j_iload_n E d13_40_302 rfl 1 rfl ?_
  exact j_if_eq E d13_40_303 (t := 325) rfl (fun q => j_pick [0, 2] rfl (k q)) (fun q => j_pick [0, 2] rfl (k' q))
theorem t13_40_306 {C : qCx} {G : jG} {S : jS} {V : jH} {nc ns : Nat} {l0 l3 : Int} (h : x13_40 C G) (L : j_L S) (c1 : S.1 l0 = 33) (c2 : 0 ≤ l3) (c3 : l3 < 4) (k : ¬ V (l0 + 24) l3 = V l0 10 → j_ok n_KT 8 C G 325 [(0, (2, l0)), (3, (0, l3))] [] S V nc ns) (k' : V (l0 + 24) l3 = V l0 10 → j_ok n_KT 8 C G 321 [(0, (2, l0)), (3, (0, l3))] [] S V nc ns) : j_ok n_KT 8 C G 306 [(0, (2, l0)), (3, (0, l3))] [] S V nc ns := by
  have E := n_E h
  refine j_aload_n E d13_40_306 rfl 0 rfl ?_
  refine j_getS (f := 16) (x := l0 + 24) (fg12_41 h) d13_40_307 c1 (by decide) rfl rfl ((L12_16 L c1).trans (by omega)) ?_
  refine j_iload_n E d13_40_310 rfl 1 rfl ?_
  refine j_lald E d13_40_311 (j_arrL_of (show S.1 (l0 + 24) = 15 from (by have q := L12_16k L c1; rw [show l0 + 24 = l0 + 24 by omega]; exact q)) (by decide) rfl) c2 c3 ?_
  refine j_aload_n E d13_40_312 rfl 0 rfl ?_
  refine j_getI (f := 10) (fg12_171 h) d13_40_313 c1 (by decide) rfl rfl ?_
  refine j_i2l E d13_40_316 ?_
  refine j_lcmp E d13_40_317 ?_
  exact j_if_ne E d13_40_318 (t := 325) rfl (fun q => j_pick [0, 1] rfl (k (fun e => q (j_cmp_eq.mpr e)))) (fun q => j_pick [0, 1] rfl (k' (j_cmp_eq.mp q)))
theorem t13_40_321 {C : qCx} {G : jG} {S : jS} {V : jH} {nc ns : Nat} {l0 l3 : Int} (h : x13_40 C G)  (k : j_ok n_KT 8 C G 326 [(0, (2, l0)), (3, (0, l3))] [(0, 1)] S V nc ns) : j_ok n_KT 8 C G 321 [(0, (2, l0)), (3, (0, l3))] [] S V nc ns := by
  have E := n_E h
  refine j_iconst E d13_40_321 (by decide) ?_
  refine j_goto E d13_40_322 (t := 326) rfl ?_
  exact j_pick [0, 1] rfl k
theorem t13_40_325 {C : qCx} {G : jG} {S : jS} {V : jH} {nc ns : Nat} {l0 l3 : Int} (h : x13_40 C G)  (k : j_ok n_KT 8 C G 326 [(0, (2, l0)), (3, (0, l3))] [(0, 0)] S V nc ns) : j_ok n_KT 8 C G 325 [(0, (2, l0)), (3, (0, l3))] [] S V nc ns := by
  have E := n_E h
  refine j_iconst E d13_40_325 (by decide) ?_
  exact j_pick [0, 1] rfl k
theorem t13_40_326 {C : qCx} {G : jG} {S : jS} {V : jH} {nc ns : Nat} {l0 l3 s0 : Int} (h : x13_40 C G) (c1 : -2147483648 ≤ l3 + 1 ∧ l3 + 1 ≤ 2147483647) (k : j_ok n_KT 8 C G 294 [(0, (2, l0)), (2, (0, s0)), (3, (0, l3 + 1))] [] S V nc ns) : j_ok n_KT 8 C G 326 [(0, (2, l0)), (3, (0, l3))] [(0, s0)] S V nc ns := by
  have E := n_E h
  refine j_istore_n E d13_40_326 rfl (by decide) (lo1 := [(0, (2, l0)), (3, (0, l3))]) rfl ?_
  refine j_iinc E d13_40_327 (by decide) (by decide) 2 rfl (lo1 := [(2, (0, s0)), (0, (2, l0))]) rfl c1 ?_
  refine j_goto E d13_40_330 (t := 294) rfl ?_
  exact j_pick [2, 1, 0] rfl k
theorem t13_40_333 {C : qCx} {G : jG} {S : jS} {V : jH} {nc ns : Nat} {l2 : Int} {mc ms : Nat} {qf : Int → jS → jH → Prop} (h : x13_40 C G)  (R : j_Rz n_KT 8 C G b_13_40 mc ms qf) (hz : 0 ≤ l2 ∧ l2 ≤ 1) (q : qf l2 S V) (hc : nc ≤ mc) (hs : ns ≤ ms) : j_ok n_KT 8 C G 333 [(2, (0, l2))] [] S V nc ns := by
  have E := n_E h
  refine j_iload_n E d13_40_333 rfl 0 rfl ?_
  exact R _ _ _ _ _ _ _ d13_40_334 hz q hc hs
/- BalanceCoderModel.take(I)I -/
abbrev b_13_41 : ByteArray := prog_13_method_41_code
def y_13_41 : MethodName := ⟨"BalanceCoderModel", "take", "(I)I"⟩
abbrev x13_41 (C : qCx) (G : jG) : Prop := n_ctx C b_13_41 4 "BalanceCoderModel" G.1 G.2.1
def M13_41 (l : Launch) (mc ms : Nat) (p : Int → Int → jS → jH → Prop) (q : Int → Int → jS → jH → Int → jS → jH → Prop) : Prop := j_Met l vwCl n_TL n_NW n_KT y_13_41 (Cond.code y_13_41 b_13_41 4 (some .int) :: n_GW) { frames := 4, cells := mc, slots := ms, locals := 101 } mc ms (fun a S V => ∃ u0 u1 : Int, a = [(2, u0), (0, u1)] ∧ S.1 u0 = 33 ∧ p u0 u1 S V) (fun a S V rs S' V' => ∃ u0 u1 r : Int, a = [(2, u0), (0, u1)] ∧ rs = [(0, r)] ∧ q u0 u1 S V r S' V')
theorem e13_41 {l : Launch} {mc ms : Nat} {p : Int → Int → jS → jH → Prop} {q : Int → Int → jS → jH → Int → jS → jH → Prop} (body : ∀ (C : qCx) (G : jG), x13_41 C G → C.2.2.2.1.frames = 4 ∧ C.2.2.2.1.locals = 101 → C.2.2.2.1.cells = mc ∧ C.2.2.2.1.slots = ms → C.2.1 = l → C.2.2.2.2.2.2.2.2.1.name = "take" → ∀ (u0 u1 : Int) (S : jS) (V : jH), S.1 u0 = 33 → p u0 u1 S V → j_Ri n_KT 4 C G b_13_41 mc ms (q u0 u1 S V) → j_ok n_KT 4 C G 0 [(0, (2, u0)), (1, (0, u1))] [] S V 0 0) : M13_41 l mc ms p q := by
  refine j_method (ws' := n_GW) (by decide) rfl ?_ ?_
  · rintro a S V ⟨u0, u1, rfl, -⟩
    exact Nat.le_of_ble_eq_true rfl
  · rintro C G htl hl hrm hm hml ho hts hnm hE a S V ⟨u0, u1, rfl, ht, hp⟩ R
    exact body C G ⟨htl, hm, hml, ho, fun w hw => hts w (List.mem_cons_of_mem _ hw), hE⟩ (by rw [hrm]; exact ⟨rfl, rfl⟩) (by rw [hrm]; exact ⟨rfl, rfl⟩) hl hnm u0 u1 S V ht hp (fun pc lo r S' V' nc ns d q hc hs => R.2.1 rfl pc lo r S' V' nc ns d ⟨u0, u1, r, rfl, rfl, q⟩ hc hs)
theorem d13_41_0 : decode b_13_41 0 = .ok (.iload_n 1, 1) := by decide +kernel
theorem d13_41_1 : decode b_13_41 1 = .ok (.invokestatic 76, 3) := by decide +kernel
theorem d13_41_4 : decode b_13_41 4 = .ok (.ifCond .ne 9, 3) := by decide +kernel
theorem d13_41_7 : decode b_13_41 7 = .ok (.aload_n 0, 1) := by decide +kernel
theorem d13_41_8 : decode b_13_41 8 = .ok (.iconst (-1), 1) := by decide +kernel
theorem d13_41_9 : decode b_13_41 9 = .ok (.invokevirtual 82, 3) := by decide +kernel
theorem d13_41_12 : decode b_13_41 12 = .ok (.ireturn, 1) := by decide +kernel
theorem d13_41_13 : decode b_13_41 13 = .ok (.aload_n 0, 1) := by decide +kernel
theorem d13_41_14 : decode b_13_41 14 = .ok (.invokevirtual 247, 3) := by decide +kernel
theorem d13_41_17 : decode b_13_41 17 = .ok (.istore_n 2, 1) := by decide +kernel
theorem d13_41_18 : decode b_13_41 18 = .ok (.iload_n 2, 1) := by decide +kernel
theorem d13_41_19 : decode b_13_41 19 = .ok (.ifCond .ge 15, 3) := by decide +kernel
theorem d13_41_22 : decode b_13_41 22 = .ok (.aload_n 0, 1) := by decide +kernel
theorem d13_41_23 : decode b_13_41 23 = .ok (.invokevirtual 250, 3) := by decide +kernel
theorem d13_41_26 : decode b_13_41 26 = .ok (.ifCond .ne 8, 3) := by decide +kernel
theorem d13_41_29 : decode b_13_41 29 = .ok (.aload_n 0, 1) := by decide +kernel
theorem d13_41_30 : decode b_13_41 30 = .ok (.getfield 238, 3) := by decide +kernel
theorem d13_41_33 : decode b_13_41 33 = .ok (.istore_n 2, 1) := by decide +kernel
theorem d13_41_34 : decode b_13_41 34 = .ok (.iload_n 2, 1) := by decide +kernel
theorem d13_41_35 : decode b_13_41 35 = .ok (.ifCond .lt 12, 3) := by decide +kernel
theorem d13_41_38 : decode b_13_41 38 = .ok (.aload_n 0, 1) := by decide +kernel
theorem d13_41_39 : decode b_13_41 39 = .ok (.bipush (-100), 2) := by decide +kernel
theorem d13_41_41 : decode b_13_41 41 = .ok (.iload_n 2, 1) := by decide +kernel
theorem d13_41_42 : decode b_13_41 42 = .ok (.isub, 1) := by decide +kernel
theorem d13_41_43 : decode b_13_41 43 = .ok (.invokevirtual 82, 3) := by decide +kernel
theorem d13_41_46 : decode b_13_41 46 = .ok (.ireturn, 1) := by decide +kernel
theorem d13_41_47 : decode b_13_41 47 = .ok (.aload_n 0, 1) := by decide +kernel
theorem d13_41_48 : decode b_13_41 48 = .ok (.getfield 10, 3) := by decide +kernel
theorem d13_41_51 : decode b_13_41 51 = .ok (.getfield 86, 3) := by decide +kernel
theorem d13_41_54 : decode b_13_41 54 = .ok (.iload_n 1, 1) := by decide +kernel
theorem d13_41_55 : decode b_13_41 55 = .ok (.aload_n 0, 1) := by decide +kernel
theorem d13_41_56 : decode b_13_41 56 = .ok (.getfield 230, 3) := by decide +kernel
theorem d13_41_59 : decode b_13_41 59 = .ok (.iastore, 1) := by decide +kernel
theorem d13_41_60 : decode b_13_41 60 = .ok (.iconst 0, 1) := by decide +kernel
theorem d13_41_61 : decode b_13_41 61 = .ok (.istore_n 3, 1) := by decide +kernel
theorem d13_41_62 : decode b_13_41 62 = .ok (.iload_n 3, 1) := by decide +kernel
theorem d13_41_63 : decode b_13_41 63 = .ok (.aload_n 0, 1) := by decide +kernel
theorem d13_41_64 : decode b_13_41 64 = .ok (.getfield 230, 3) := by decide +kernel
theorem d13_41_67 : decode b_13_41 67 = .ok (.if_icmp .ge 30, 3) := by decide +kernel
theorem d13_41_70 : decode b_13_41 70 = .ok (.aload_n 0, 1) := by decide +kernel
theorem d13_41_71 : decode b_13_41 71 = .ok (.getfield 10, 3) := by decide +kernel
theorem d13_41_74 : decode b_13_41 74 = .ok (.getfield 89, 3) := by decide +kernel
theorem d13_41_77 : decode b_13_41 77 = .ok (.sipush 400, 3) := by decide +kernel
theorem d13_41_80 : decode b_13_41 80 = .ok (.iload_n 1, 1) := by decide +kernel
theorem d13_41_81 : decode b_13_41 81 = .ok (.imul, 1) := by decide +kernel
theorem d13_41_82 : decode b_13_41 82 = .ok (.iload_n 3, 1) := by decide +kernel
theorem d13_41_83 : decode b_13_41 83 = .ok (.iadd, 1) := by decide +kernel
theorem d13_41_84 : decode b_13_41 84 = .ok (.aload_n 0, 1) := by decide +kernel
theorem d13_41_85 : decode b_13_41 85 = .ok (.getfield 54, 3) := by decide +kernel
theorem d13_41_88 : decode b_13_41 88 = .ok (.iload_n 3, 1) := by decide +kernel
theorem d13_41_89 : decode b_13_41 89 = .ok (.iaload, 1) := by decide +kernel
theorem d13_41_90 : decode b_13_41 90 = .ok (.iastore, 1) := by decide +kernel
theorem d13_41_91 : decode b_13_41 91 = .ok (.iinc 3 1, 3) := by decide +kernel
theorem d13_41_94 : decode b_13_41 94 = .ok (.goto (-32), 3) := by decide +kernel
theorem d13_41_97 : decode b_13_41 97 = .ok (.aload_n 0, 1) := by decide +kernel
theorem d13_41_98 : decode b_13_41 98 = .ok (.getfield 10, 3) := by decide +kernel
theorem d13_41_101 : decode b_13_41 101 = .ok (.iconst 1, 1) := by decide +kernel
theorem d13_41_102 : decode b_13_41 102 = .ok (.putfield 200, 3) := by decide +kernel
theorem d13_41_105 : decode b_13_41 105 = .ok (.aload_n 0, 1) := by decide +kernel
theorem d13_41_106 : decode b_13_41 106 = .ok (.getfield 10, 3) := by decide +kernel
theorem d13_41_109 : decode b_13_41 109 = .ok (.iconst 0, 1) := by decide +kernel
theorem d13_41_110 : decode b_13_41 110 = .ok (.putfield 204, 3) := by decide +kernel
theorem d13_41_113 : decode b_13_41 113 = .ok (.aload_n 0, 1) := by decide +kernel
theorem d13_41_114 : decode b_13_41 114 = .ok (.getfield 230, 3) := by decide +kernel
theorem d13_41_117 : decode b_13_41 117 = .ok (.ireturn, 1) := by decide +kernel
theorem K13_41_1 {C : qCx} {G : jG} {mc ms : Nat} {p : Int → jS → jH → Prop} {q : Int → jS → jH → Int → jS → jH → Prop} (h : x13_41 C G) (hrm : C.2.2.2.1.frames = 4 ∧ C.2.2.2.1.locals = 101) (hM : M13_4 C.2.1 mc ms p q) : j_Call C b_13_41 n_KT G.1 G.2.1 4 (.invokestatic 76) mc ms (fun a S V => ∃ u0 : Int, a = [(0, u0)] ∧ p u0 S V) (fun a S V rs S' V' => ∃ u0 r : Int, a = [(0, u0)] ∧ rs = [(0, r)] ∧ q u0 S V r S' V') := j_callS n_NWk h.2.2.2.2.2 h.1 hM ⟨h.2.1.1, h.2.1.2, h.2.2.1, h.2.2.2.1, h.2.2.2.2.1⟩ ⟨n_CB (y := y_13_4) (bytes := b_13_4) 1 h.2.2.2.2.1 n_w919 n_w917 n_w12 ⟨by decide, by decide, by decide +kernel⟩ rfl rfl ⟨by rw [hrm.1]; exact Nat.le_of_ble_eq_true rfl, by rw [hrm.2]; exact Nat.le_of_ble_eq_true rfl⟩, h.2.2.2.2.1 _ n_w918⟩ (fun a S V hP => by obtain ⟨u0, rfl, -⟩ := hP; rfl)
theorem K13_41_9 {C : qCx} {G : jG} {mc ms : Nat} {p : Int → Int → jS → jH → Prop} {q : Int → Int → jS → jH → Int → jS → jH → Prop} (h : x13_41 C G) (hrm : C.2.2.2.1.frames = 4 ∧ C.2.2.2.1.locals = 101) (hM : M13_2 C.2.1 mc ms p q) : j_Call C b_13_41 n_KT G.1 G.2.1 4 (.invokevirtual 82) mc ms (fun a S V => ∃ u0 u1 : Int, a = [(2, u0), (0, u1)] ∧ S.1 u0 = 33 ∧ p u0 u1 S V) (fun a S V rs S' V' => ∃ u0 u1 r : Int, a = [(2, u0), (0, u1)] ∧ rs = [(0, r)] ∧ q u0 u1 S V r S' V') := j_callV n_NWk h.2.2.2.2.2 h.1 hM ⟨h.2.1.1, h.2.1.2, h.2.2.1, h.2.2.2.1, h.2.2.2.2.1⟩ ⟨n_CB (y := y_13_2) (bytes := b_13_2) 1 h.2.2.2.2.1 n_w928 n_w925 n_w12 ⟨by decide, by decide, by decide +kernel⟩ rfl rfl ⟨by rw [hrm.1]; exact Nat.le_of_ble_eq_true rfl, by rw [hrm.2]; exact Nat.le_of_ble_eq_true rfl⟩, h.2.2.2.2.1 _ n_w927, h.2.2.2.2.1 _ n_s27⟩ (Cn := RX12) (fun a S V hP => by obtain ⟨u0, u1, rfl, e, -⟩ := hP; exact ⟨u0, _, 12, _, _, TX12, 31, rfl, rfl, by rw [e]; decide, by rw [e]; rfl, rfl⟩)
theorem K13_41_14 {C : qCx} {G : jG} {mc ms : Nat} {p : Int → jS → jH → Prop} {q : Int → jS → jH → Int → jS → jH → Prop} (h : x13_41 C G) (hrm : C.2.2.2.1.frames = 4 ∧ C.2.2.2.1.locals = 101) (hM : M13_38 C.2.1 mc ms p q) : j_Call C b_13_41 n_KT G.1 G.2.1 4 (.invokevirtual 247) mc ms (fun a S V => ∃ u0 : Int, a = [(2, u0)] ∧ S.1 u0 = 33 ∧ p u0 S V) (fun a S V rs S' V' => ∃ u0 r : Int, a = [(2, u0)] ∧ rs = [(0, r)] ∧ q u0 S V r S' V') := j_callV n_NWk h.2.2.2.2.2 h.1 hM ⟨h.2.1.1, h.2.1.2, h.2.2.1, h.2.2.2.1, h.2.2.2.2.1⟩ ⟨n_CB (y := y_13_38) (bytes := b_13_38) 0 h.2.2.2.2.1 n_w1062 n_w1059 n_w12 ⟨by decide, by decide, by decide +kernel⟩ rfl rfl ⟨by rw [hrm.1]; exact Nat.le_of_ble_eq_true rfl, by rw [hrm.2]; exact Nat.le_of_ble_eq_true rfl⟩, h.2.2.2.2.1 _ n_w1061, h.2.2.2.2.1 _ n_s44⟩ (Cn := RX12) (fun a S V hP => by obtain ⟨u0, rfl, e, -⟩ := hP; exact ⟨u0, _, 12, _, _, TX12, 31, rfl, rfl, by rw [e]; decide, by rw [e]; rfl, rfl⟩)
theorem K13_41_23 {C : qCx} {G : jG} {mc ms : Nat} {p : Int → jS → jH → Prop} {q : Int → jS → jH → Int → jS → jH → Prop} (h : x13_41 C G) (hrm : C.2.2.2.1.frames = 4 ∧ C.2.2.2.1.locals = 101) (hM : M13_40 C.2.1 mc ms p q) : j_Call C b_13_41 n_KT G.1 G.2.1 4 (.invokevirtual 250) mc ms (fun a S V => ∃ u0 : Int, a = [(2, u0)] ∧ S.1 u0 = 33 ∧ p u0 S V) (fun a S V rs S' V' => ∃ u0 r : Int, a = [(2, u0)] ∧ rs = [(0, r)] ∧ q u0 S V r S' V') := j_callV n_NWk h.2.2.2.2.2 h.1 hM ⟨h.2.1.1, h.2.1.2, h.2.2.1, h.2.2.2.1, h.2.2.2.2.1⟩ ⟨n_CB (y := y_13_40) (bytes := b_13_40) 0 h.2.2.2.2.1 n_w1079 n_w1076 n_w12 ⟨by decide, by decide, by decide +kernel⟩ rfl rfl ⟨by rw [hrm.1]; exact Nat.le_of_ble_eq_true rfl, by rw [hrm.2]; exact Nat.le_of_ble_eq_true rfl⟩, h.2.2.2.2.1 _ n_w1078, h.2.2.2.2.1 _ n_s48⟩ (Cn := RX12) (fun a S V hP => by obtain ⟨u0, rfl, e, -⟩ := hP; exact ⟨u0, _, 12, _, _, TX12, 31, rfl, rfl, by rw [e]; decide, by rw [e]; rfl, rfl⟩)
theorem K13_41_43 {C : qCx} {G : jG} {mc ms : Nat} {p : Int → Int → jS → jH → Prop} {q : Int → Int → jS → jH → Int → jS → jH → Prop} (h : x13_41 C G) (hrm : C.2.2.2.1.frames = 4 ∧ C.2.2.2.1.locals = 101) (hM : M13_2 C.2.1 mc ms p q) : j_Call C b_13_41 n_KT G.1 G.2.1 4 (.invokevirtual 82) mc ms (fun a S V => ∃ u0 u1 : Int, a = [(2, u0), (0, u1)] ∧ S.1 u0 = 33 ∧ p u0 u1 S V) (fun a S V rs S' V' => ∃ u0 u1 r : Int, a = [(2, u0), (0, u1)] ∧ rs = [(0, r)] ∧ q u0 u1 S V r S' V') := j_callV n_NWk h.2.2.2.2.2 h.1 hM ⟨h.2.1.1, h.2.1.2, h.2.2.1, h.2.2.2.1, h.2.2.2.2.1⟩ ⟨n_CB (y := y_13_2) (bytes := b_13_2) 1 h.2.2.2.2.1 n_w928 n_w925 n_w12 ⟨by decide, by decide, by decide +kernel⟩ rfl rfl ⟨by rw [hrm.1]; exact Nat.le_of_ble_eq_true rfl, by rw [hrm.2]; exact Nat.le_of_ble_eq_true rfl⟩, h.2.2.2.2.1 _ n_w927, h.2.2.2.2.1 _ n_s27⟩ (Cn := RX12) (fun a S V hP => by obtain ⟨u0, u1, rfl, e, -⟩ := hP; exact ⟨u0, _, 12, _, _, TX12, 31, rfl, rfl, by rw [e]; decide, by rw [e]; rfl, rfl⟩)
theorem t13_41_0 {C : qCx} {G : jG} {S : jS} {V : jH} {nc ns : Nat} {l0 l1 : Int} {mc ms : Nat} {pp : Int → jS → jH → Prop} {qq : Int → jS → jH → Int → jS → jH → Prop} (h : x13_41 C G) (hrm : C.2.2.2.1.frames = 4 ∧ C.2.2.2.1.locals = 101)  (hM : M13_4 C.2.1 mc ms pp qq) (hp : pp l1 S V) (hc : nc + mc ≤ C.2.2.2.1.cells) (hs : ns + ms ≤ C.2.2.2.1.slots) (k : ∀ (r : Int) (S' : jS) (V' : jH), qq l1 S V r S' V' → j_ok n_KT 4 C G 4 [(0, (2, l0)), (1, (0, l1))] [(0, r)] S' V' (nc + mc) (ns + ms)) : j_ok n_KT 4 C G 0 [(0, (2, l0)), (1, (0, l1))] [] S V nc ns := by
  have E := n_E h
  refine j_iload_n E d13_41_0 rfl 1 rfl ?_
  refine j_call E (K13_41_1 h hrm hM) d13_41_1 (a := [(0, l1)]) (sk := []) rfl ⟨l1, rfl, hp⟩ (Nat.le_of_ble_eq_true rfl) hc hs ?_
  rintro rs S' V' ⟨z0, r, e1, rfl, q⟩
  simp only [List.cons.injEq, Prod.mk.injEq, and_true, true_and] at e1
  obtain ⟨rfl⟩ := e1
  exact j_pick [0, 1] rfl (k r S' V' q)
theorem t13_41_4 {C : qCx} {G : jG} {S : jS} {V : jH} {nc ns : Nat} {l0 l1 s0 : Int} (h : x13_41 C G)  (k : ¬ s0 = 0 → j_ok n_KT 4 C G 13 [(0, (2, l0)), (1, (0, l1))] [] S V nc ns) (k' : s0 = 0 → j_ok n_KT 4 C G 7 [(0, (2, l0))] [] S V nc ns) : j_ok n_KT 4 C G 4 [(0, (2, l0)), (1, (0, l1))] [(0, s0)] S V nc ns := by
  have E := n_E h
  exact j_if_ne E d13_41_4 (t := 13) rfl (fun q => j_pick [0, 1] rfl (k q)) (fun q => j_pick [0] rfl (k' q))
theorem t13_41_7 {C : qCx} {G : jG} {S : jS} {V : jH} {nc ns : Nat} {l0 : Int} {mc ms : Nat} {pp : Int → Int → jS → jH → Prop} {qq : Int → Int → jS → jH → Int → jS → jH → Prop} (h : x13_41 C G) (hrm : C.2.2.2.1.frames = 4 ∧ C.2.2.2.1.locals = 101) (c1 : S.1 l0 = 33) (hM : M13_2 C.2.1 mc ms pp qq) (hp : pp l0 ((-1)) S V) (hc : nc + mc ≤ C.2.2.2.1.cells) (hs : ns + ms ≤ C.2.2.2.1.slots) (k : ∀ (r : Int) (S' : jS) (V' : jH), qq l0 ((-1)) S V r S' V' → j_ok n_KT 4 C G 12 [] [(0, r)] S' V' (nc + mc) (ns + ms)) : j_ok n_KT 4 C G 7 [(0, (2, l0))] [] S V nc ns := by
  have E := n_E h
  refine j_aload_n E d13_41_7 rfl 0 rfl ?_
  refine j_iconst E d13_41_8 (by decide) ?_
  refine j_call E (K13_41_9 h hrm hM) d13_41_9 (a := [(2, l0), (0, (-1))]) (sk := []) rfl ⟨l0, (-1), rfl, c1, hp⟩ (Nat.le_of_ble_eq_true rfl) hc hs ?_
  rintro rs S' V' ⟨z0, z1, r, e1, rfl, q⟩
  simp only [List.cons.injEq, Prod.mk.injEq, and_true, true_and] at e1
  obtain ⟨rfl, rfl⟩ := e1
  exact j_pick [] rfl (k r S' V' q)
theorem t13_41_12 {C : qCx} {G : jG} {S : jS} {V : jH} {nc ns : Nat} {s0 : Int} {mc ms : Nat} {qf : Int → jS → jH → Prop} (h : x13_41 C G)  (R : j_Ri n_KT 4 C G b_13_41 mc ms qf) (q : qf s0 S V) (hc : nc ≤ mc) (hs : ns ≤ ms) : j_ok n_KT 4 C G 12 [] [(0, s0)] S V nc ns := by
  have E := n_E h
  exact R _ _ _ _ _ _ _ d13_41_12 q hc hs
theorem t13_41_13 {C : qCx} {G : jG} {S : jS} {V : jH} {nc ns : Nat} {l0 l1 : Int} {mc ms : Nat} {pp : Int → jS → jH → Prop} {qq : Int → jS → jH → Int → jS → jH → Prop} (h : x13_41 C G) (hrm : C.2.2.2.1.frames = 4 ∧ C.2.2.2.1.locals = 101) (c1 : S.1 l0 = 33) (hM : M13_38 C.2.1 mc ms pp qq) (hp : pp l0 S V) (hc : nc + mc ≤ C.2.2.2.1.cells) (hs : ns + ms ≤ C.2.2.2.1.slots) (k : ∀ (r : Int) (S' : jS) (V' : jH), qq l0 S V r S' V' → j_ok n_KT 4 C G 17 [(0, (2, l0)), (1, (0, l1))] [(0, r)] S' V' (nc + mc) (ns + ms)) : j_ok n_KT 4 C G 13 [(0, (2, l0)), (1, (0, l1))] [] S V nc ns := by
  have E := n_E h
  refine j_aload_n E d13_41_13 rfl 0 rfl ?_
  refine j_call E (K13_41_14 h hrm hM) d13_41_14 (a := [(2, l0)]) (sk := []) rfl ⟨l0, rfl, c1, hp⟩ (Nat.le_of_ble_eq_true rfl) hc hs ?_
  rintro rs S' V' ⟨z0, r, e1, rfl, q⟩
  simp only [List.cons.injEq, Prod.mk.injEq, and_true, true_and] at e1
  obtain ⟨rfl⟩ := e1
  exact j_pick [0, 1] rfl (k r S' V' q)
theorem t13_41_17 {C : qCx} {G : jG} {S : jS} {V : jH} {nc ns : Nat} {l0 l1 s0 : Int} (h : x13_41 C G)  (k : 0 ≤ s0 → j_ok n_KT 4 C G 34 [(0, (2, l0)), (1, (0, l1)), (2, (0, s0))] [] S V nc ns) (k' : s0 < 0 → j_ok n_KT 4 C G 22 [(0, (2, l0)), (1, (0, l1)), (2, (0, s0))] [] S V nc ns) : j_ok n_KT 4 C G 17 [(0, (2, l0)), (1, (0, l1))] [(0, s0)] S V nc ns := by
  have E := n_E h
  refine j_istore_n E d13_41_17 rfl (by decide) (lo1 := [(0, (2, l0)), (1, (0, l1))]) rfl ?_
  refine j_iload_n E d13_41_18 rfl 0 rfl ?_
  exact j_if_ge E d13_41_19 (t := 34) rfl (fun q => j_pick [1, 2, 0] rfl (k q)) (fun q => j_pick [1, 2, 0] rfl (k' q))
theorem t13_41_22 {C : qCx} {G : jG} {S : jS} {V : jH} {nc ns : Nat} {l0 l1 l2 : Int} {mc ms : Nat} {pp : Int → jS → jH → Prop} {qq : Int → jS → jH → Int → jS → jH → Prop} (h : x13_41 C G) (hrm : C.2.2.2.1.frames = 4 ∧ C.2.2.2.1.locals = 101) (c1 : S.1 l0 = 33) (hM : M13_40 C.2.1 mc ms pp qq) (hp : pp l0 S V) (hc : nc + mc ≤ C.2.2.2.1.cells) (hs : ns + ms ≤ C.2.2.2.1.slots) (k : ∀ (r : Int) (S' : jS) (V' : jH), qq l0 S V r S' V' → j_ok n_KT 4 C G 26 [(0, (2, l0)), (1, (0, l1)), (2, (0, l2))] [(0, r)] S' V' (nc + mc) (ns + ms)) : j_ok n_KT 4 C G 22 [(0, (2, l0)), (1, (0, l1)), (2, (0, l2))] [] S V nc ns := by
  have E := n_E h
  refine j_aload_n E d13_41_22 rfl 0 rfl ?_
  refine j_call E (K13_41_23 h hrm hM) d13_41_23 (a := [(2, l0)]) (sk := []) rfl ⟨l0, rfl, c1, hp⟩ (Nat.le_of_ble_eq_true rfl) hc hs ?_
  rintro rs S' V' ⟨z0, r, e1, rfl, q⟩
  simp only [List.cons.injEq, Prod.mk.injEq, and_true, true_and] at e1
  obtain ⟨rfl⟩ := e1
  exact j_pick [0, 1, 2] rfl (k r S' V' q)
theorem t13_41_26 {C : qCx} {G : jG} {S : jS} {V : jH} {nc ns : Nat} {l0 l1 l2 s0 : Int} (h : x13_41 C G)  (k : ¬ s0 = 0 → j_ok n_KT 4 C G 34 [(0, (2, l0)), (1, (0, l1)), (2, (0, l2))] [] S V nc ns) (k' : s0 = 0 → j_ok n_KT 4 C G 29 [(0, (2, l0)), (1, (0, l1))] [] S V nc ns) : j_ok n_KT 4 C G 26 [(0, (2, l0)), (1, (0, l1)), (2, (0, l2))] [(0, s0)] S V nc ns := by
  have E := n_E h
  exact j_if_ne E d13_41_26 (t := 34) rfl (fun q => j_pick [0, 1, 2] rfl (k q)) (fun q => j_pick [0, 1] rfl (k' q))
theorem t13_41_29 {C : qCx} {G : jG} {S : jS} {V : jH} {nc ns : Nat} {l0 l1 : Int} (h : x13_41 C G) (c1 : S.1 l0 = 33) (k : j_ok n_KT 4 C G 34 [(0, (2, l0)), (1, (0, l1)), (2, (0, V l0 25))] [] S V nc ns) : j_ok n_KT 4 C G 29 [(0, (2, l0)), (1, (0, l1))] [] S V nc ns := by
  have E := n_E h
  refine j_aload_n E d13_41_29 rfl 0 rfl ?_
  refine j_getI (f := 25) (fg12_238 h) d13_41_30 c1 (by decide) rfl rfl ?_
  refine j_istore_n E d13_41_33 rfl (by decide) (lo1 := [(0, (2, l0)), (1, (0, l1))]) rfl ?_
  exact j_pick [1, 2, 0] rfl k
theorem t13_41_34 {C : qCx} {G : jG} {S : jS} {V : jH} {nc ns : Nat} {l0 l1 l2 : Int} (h : x13_41 C G)  (k : l2 < 0 → j_ok n_KT 4 C G 47 [(0, (2, l0)), (1, (0, l1))] [] S V nc ns) (k' : 0 ≤ l2 → j_ok n_KT 4 C G 38 [(0, (2, l0)), (2, (0, l2))] [] S V nc ns) : j_ok n_KT 4 C G 34 [(0, (2, l0)), (1, (0, l1)), (2, (0, l2))] [] S V nc ns := by
  have E := n_E h
  refine j_iload_n E d13_41_34 rfl 2 rfl ?_
  exact j_if_lt E d13_41_35 (t := 47) rfl (fun q => j_pick [0, 1] rfl (k q)) (fun q => j_pick [0, 2] rfl (k' q))
theorem t13_41_38 {C : qCx} {G : jG} {S : jS} {V : jH} {nc ns : Nat} {l0 l2 : Int} {mc ms : Nat} {pp : Int → Int → jS → jH → Prop} {qq : Int → Int → jS → jH → Int → jS → jH → Prop} (h : x13_41 C G) (hrm : C.2.2.2.1.frames = 4 ∧ C.2.2.2.1.locals = 101) (c1 : -2147483648 ≤ ((-100)) - l2 ∧ ((-100)) - l2 ≤ 2147483647) (c2 : S.1 l0 = 33) (hM : M13_2 C.2.1 mc ms pp qq) (hp : pp l0 (((-100)) - l2) S V) (hc : nc + mc ≤ C.2.2.2.1.cells) (hs : ns + ms ≤ C.2.2.2.1.slots) (k : ∀ (r : Int) (S' : jS) (V' : jH), qq l0 (((-100)) - l2) S V r S' V' → j_ok n_KT 4 C G 46 [] [(0, r)] S' V' (nc + mc) (ns + ms)) : j_ok n_KT 4 C G 38 [(0, (2, l0)), (2, (0, l2))] [] S V nc ns := by
  have E := n_E h
  refine j_aload_n E d13_41_38 rfl 0 rfl ?_
  refine j_bipush E d13_41_39 (by decide) ?_
  refine j_iload_n E d13_41_41 rfl 1 rfl ?_
  refine j_isub E d13_41_42 c1 ?_
  refine j_call E (K13_41_43 h hrm hM) d13_41_43 (a := [(2, l0), (0, ((-100)) - l2)]) (sk := []) rfl ⟨l0, ((-100)) - l2, rfl, c2, hp⟩ (Nat.le_of_ble_eq_true rfl) hc hs ?_
  rintro rs S' V' ⟨z0, z1, r, e1, rfl, q⟩
  simp only [List.cons.injEq, Prod.mk.injEq, and_true, true_and] at e1
  obtain ⟨rfl, rfl⟩ := e1
  exact j_pick [] rfl (k r S' V' q)
theorem t13_41_46 {C : qCx} {G : jG} {S : jS} {V : jH} {nc ns : Nat} {s0 : Int} {mc ms : Nat} {qf : Int → jS → jH → Prop} (h : x13_41 C G)  (R : j_Ri n_KT 4 C G b_13_41 mc ms qf) (q : qf s0 S V) (hc : nc ≤ mc) (hs : ns ≤ ms) : j_ok n_KT 4 C G 46 [] [(0, s0)] S V nc ns := by
  have E := n_E h
  exact R _ _ _ _ _ _ _ d13_41_46 q hc hs
theorem t13_41_47 {C : qCx} {G : jG} {S : jS} {V : jH} {nc ns : Nat} {l0 l1 : Int} (h : x13_41 C G) (L : j_L S) (c1 : S.1 l0 = 33) (c2 : 0 ≤ l1) (c3 : l1 < 6) (k : j_ok n_KT 4 C G 62 [(0, (2, l0)), (1, (0, l1)), (3, (0, 0))] [] S (j_up V (l0 + 2) l1 (V l0 24)) nc ns) : j_ok n_KT 4 C G 47 [(0, (2, l0)), (1, (0, l1))] [] S V nc ns := by
  have E := n_E h
  refine j_aload_n E d13_41_47 rfl 0 rfl ?_
  refine j_getS (f := 0) (x := l0 + 1) (fg12_10 h) d13_41_48 c1 (by decide) rfl rfl ((L12_0 L c1).trans (by omega)) ?_
  refine j_getS (f := 0) (x := l0 + 2) (fg12_86 h) d13_41_51 (show S.1 (l0 + 1) = 32 from (by have q := L12_0k L c1; rw [show l0 + 1 = l0 + 1 by omega]; exact q)) (by decide) rfl rfl ((L11_0 L (show S.1 (l0 + 1) = 32 from (by have q := L12_0k L c1; rw [show l0 + 1 = l0 + 1 by omega]; exact q))).trans (by omega)) ?_
  refine j_iload_n E d13_41_54 rfl 1 rfl ?_
  refine j_aload_n E d13_41_55 rfl 0 rfl ?_
  refine j_getI (f := 24) (fg12_230 h) d13_41_56 c1 (by decide) rfl rfl ?_
  refine j_iast E d13_41_59 (j_arr_of (show S.1 (l0 + 2) = 8 from (by have q := L11_0k L (show S.1 (l0 + 1) = 32 from (by have q := L12_0k L c1; rw [show l0 + 1 = l0 + 1 by omega]; exact q)); rw [show l0 + 2 = (l0 + 1) + 1 by omega]; exact q)) (by decide) rfl) c2 c3 ?_
  refine j_iconst E d13_41_60 (by decide) ?_
  refine j_istore_n E d13_41_61 rfl (by decide) (lo1 := [(0, (2, l0)), (1, (0, l1))]) rfl ?_
  exact j_pick [1, 2, 0] rfl k
theorem t13_41_62 {C : qCx} {G : jG} {S : jS} {V : jH} {nc ns : Nat} {l0 l1 l3 : Int} (h : x13_41 C G) (c1 : S.1 l0 = 33) (k : V l0 24 ≤ l3 → j_ok n_KT 4 C G 97 [(0, (2, l0))] [] S V nc ns) (k' : l3 < V l0 24 → j_ok n_KT 4 C G 70 [(0, (2, l0)), (1, (0, l1)), (3, (0, l3))] [] S V nc ns) : j_ok n_KT 4 C G 62 [(0, (2, l0)), (1, (0, l1)), (3, (0, l3))] [] S V nc ns := by
  have E := n_E h
  refine j_iload_n E d13_41_62 rfl 2 rfl ?_
  refine j_aload_n E d13_41_63 rfl 0 rfl ?_
  refine j_getI (f := 24) (fg12_230 h) d13_41_64 c1 (by decide) rfl rfl ?_
  exact j_icmp_ge E d13_41_67 (t := 97) rfl (fun q => j_pick [0] rfl (k q)) (fun q => j_pick [0, 1, 2] rfl (k' q))
theorem t13_41_70 {C : qCx} {G : jG} {S : jS} {V : jH} {nc ns : Nat} {l0 l1 l3 : Int} (h : x13_41 C G) (L : j_L S) (c1 : S.1 l0 = 33) (c2 : -2147483648 ≤ 400 * l1 ∧ 400 * l1 ≤ 2147483647) (c3 : -2147483648 ≤ (400 * l1) + l3 ∧ (400 * l1) + l3 ≤ 2147483647) (c4 : 0 ≤ l3) (c5 : l3 < 400) (c6 : 0 ≤ (400 * l1) + l3) (c7 : (400 * l1) + l3 < 2400) (c8 : -2147483648 ≤ l3 + 1 ∧ l3 + 1 ≤ 2147483647) (k : j_ok n_KT 4 C G 62 [(0, (2, l0)), (1, (0, l1)), (3, (0, l3 + 1))] [] S (j_up V (l0 + 3) ((400 * l1) + l3) (V (l0 + 28) l3)) nc ns) : j_ok n_KT 4 C G 70 [(0, (2, l0)), (1, (0, l1)), (3, (0, l3))] [] S V nc ns := by
  have E := n_E h
  refine j_aload_n E d13_41_70 rfl 0 rfl ?_
  refine j_getS (f := 0) (x := l0 + 1) (fg12_10 h) d13_41_71 c1 (by decide) rfl rfl ((L12_0 L c1).trans (by omega)) ?_
  refine j_getS (f := 1) (x := l0 + 3) (fg12_89 h) d13_41_74 (show S.1 (l0 + 1) = 32 from (by have q := L12_0k L c1; rw [show l0 + 1 = l0 + 1 by omega]; exact q)) (by decide) rfl rfl ((L11_1 L (show S.1 (l0 + 1) = 32 from (by have q := L12_0k L c1; rw [show l0 + 1 = l0 + 1 by omega]; exact q))).trans (by omega)) ?_
  refine j_sipush E d13_41_77 (by decide) ?_
  refine j_iload_n E d13_41_80 rfl 1 rfl ?_
  refine j_imul E d13_41_81 c2 ?_
  refine j_iload_n E d13_41_82 rfl 2 rfl ?_
  refine j_iadd E d13_41_83 c3 ?_
  refine j_aload_n E d13_41_84 rfl 0 rfl ?_
  refine j_getS (f := 28) (x := l0 + 28) (fg12_54 h) d13_41_85 c1 (by decide) rfl rfl ((L12_28 L c1).trans (by omega)) ?_
  refine j_iload_n E d13_41_88 rfl 2 rfl ?_
  refine j_iald E d13_41_89 (j_arr_of (show S.1 (l0 + 28) = 1 from (by have q := L12_28k L c1; rw [show l0 + 28 = l0 + 28 by omega]; exact q)) (by decide) rfl) c4 c5 ?_
  refine j_iast E d13_41_90 (j_arr_of (show S.1 (l0 + 3) = 9 from (by have q := L11_1k L (show S.1 (l0 + 1) = 32 from (by have q := L12_0k L c1; rw [show l0 + 1 = l0 + 1 by omega]; exact q)); rw [show l0 + 3 = (l0 + 1) + 2 by omega]; exact q)) (by decide) rfl) c6 c7 ?_
  refine j_iinc E d13_41_91 (by decide) (by decide) 2 rfl (lo1 := [(0, (2, l0)), (1, (0, l1))]) rfl c8 ?_
  refine j_goto E d13_41_94 (t := 62) rfl ?_
  exact j_pick [1, 2, 0] rfl k
theorem t13_41_97 {C : qCx} {G : jG} {S : jS} {V : jH} {nc ns : Nat} {l0 : Int} {mc ms : Nat} {qf : Int → jS → jH → Prop} (h : x13_41 C G) (L : j_L S) (c1 : S.1 l0 = 33) (R : j_Ri n_KT 4 C G b_13_41 mc ms qf) (q : qf (V l0 24) S (j_up (j_up V (l0 + 1) 9 1) (l0 + 1) 10 0)) (hc : nc ≤ mc) (hs : ns ≤ ms) : j_ok n_KT 4 C G 97 [(0, (2, l0))] [] S V nc ns := by
  have E := n_E h
  refine j_aload_n E d13_41_97 rfl 0 rfl ?_
  refine j_getS (f := 0) (x := l0 + 1) (fg12_10 h) d13_41_98 c1 (by decide) rfl rfl ((L12_0 L c1).trans (by omega)) ?_
  refine j_iconst E d13_41_101 (by decide) ?_
  refine j_putZ (f := 9) (fp12_200 h) (n_hap h 32 11 0 _ rfl) d13_41_102 (show S.1 (l0 + 1) = 32 from (by have q := L12_0k L c1; rw [show l0 + 1 = l0 + 1 by omega]; exact q)) (by decide) rfl rfl rfl (by decide) ?_
  refine j_aload_n E d13_41_105 rfl 0 rfl ?_
  refine j_getS (f := 0) (x := l0 + 1) (fg12_10 h) d13_41_106 c1 (by decide) rfl rfl ((L12_0 L c1).trans (by omega)) ?_
  refine j_iconst E d13_41_109 (by decide) ?_
  refine j_putI (f := 10) (fp12_204 h) (n_hap h 32 11 0 _ rfl) d13_41_110 (show S.1 (l0 + 1) = 32 from (by have q := L12_0k L c1; rw [show l0 + 1 = l0 + 1 by omega]; exact q)) (by decide) rfl rfl rfl ?_
  refine j_aload_n E d13_41_113 rfl 0 rfl ?_
  refine j_getI (f := 24) (fg12_230 h) d13_41_114 c1 (by decide) rfl rfl ?_
  refine j_eqT (show (j_up (j_up V (l0 + 1) 9 1) (l0 + 1) 10 0) l0 24 = V l0 24 from (Eq.trans (congrFun (j_up_ne (by omega)) _) (congrFun (j_up_ne (by omega)) _))) ?_
  exact R _ _ _ _ _ _ _ d13_41_117 q hc hs
/- BalanceCoderModel.block(I)I -/
abbrev b_13_42 : ByteArray := prog_13_method_42_code
def y_13_42 : MethodName := ⟨"BalanceCoderModel", "block", "(I)I"⟩
abbrev x13_42 (C : qCx) (G : jG) : Prop := n_ctx C b_13_42 2 "BalanceCoderModel" G.1 G.2.1
def M13_42 (l : Launch) (mc ms : Nat) (p : Int → Int → jS → jH → Prop) (q : Int → Int → jS → jH → Int → jS → jH → Prop) : Prop := j_Met l vwCl n_TL n_NW n_KT y_13_42 (Cond.code y_13_42 b_13_42 2 (some .int) :: n_GW) { frames := 2, cells := mc, slots := ms, locals := 51 } mc ms (fun a S V => ∃ u0 u1 : Int, a = [(2, u0), (0, u1)] ∧ S.1 u0 = 33 ∧ p u0 u1 S V) (fun a S V rs S' V' => ∃ u0 u1 r : Int, a = [(2, u0), (0, u1)] ∧ rs = [(0, r)] ∧ q u0 u1 S V r S' V')
theorem e13_42 {l : Launch} {mc ms : Nat} {p : Int → Int → jS → jH → Prop} {q : Int → Int → jS → jH → Int → jS → jH → Prop} (body : ∀ (C : qCx) (G : jG), x13_42 C G → C.2.2.2.1.frames = 2 ∧ C.2.2.2.1.locals = 51 → C.2.2.2.1.cells = mc ∧ C.2.2.2.1.slots = ms → C.2.1 = l → C.2.2.2.2.2.2.2.2.1.name = "block" → ∀ (u0 u1 : Int) (S : jS) (V : jH), S.1 u0 = 33 → p u0 u1 S V → j_Ri n_KT 2 C G b_13_42 mc ms (q u0 u1 S V) → j_ok n_KT 2 C G 0 [(0, (2, u0)), (1, (0, u1))] [] S V 0 0) : M13_42 l mc ms p q := by
  refine j_method (ws' := n_GW) (by decide) rfl ?_ ?_
  · rintro a S V ⟨u0, u1, rfl, -⟩
    exact Nat.le_of_ble_eq_true rfl
  · rintro C G htl hl hrm hm hml ho hts hnm hE a S V ⟨u0, u1, rfl, ht, hp⟩ R
    exact body C G ⟨htl, hm, hml, ho, fun w hw => hts w (List.mem_cons_of_mem _ hw), hE⟩ (by rw [hrm]; exact ⟨rfl, rfl⟩) (by rw [hrm]; exact ⟨rfl, rfl⟩) hl hnm u0 u1 S V ht hp (fun pc lo r S' V' nc ns d q hc hs => R.2.1 rfl pc lo r S' V' nc ns d ⟨u0, u1, r, rfl, rfl, q⟩ hc hs)
theorem d13_42_0 : decode b_13_42 0 = .ok (.iload_n 1, 1) := by decide +kernel
theorem d13_42_1 : decode b_13_42 1 = .ok (.i2l, 1) := by decide +kernel
theorem d13_42_2 : decode b_13_42 2 = .ok (.ldc2_w 94, 3) := by decide +kernel
theorem d13_42_5 : decode b_13_42 5 = .ok (.aload_n 0, 1) := by decide +kernel
theorem d13_42_6 : decode b_13_42 6 = .ok (.getfield 10, 3) := by decide +kernel
theorem d13_42_9 : decode b_13_42 9 = .ok (.getfield 194, 3) := by decide +kernel
theorem d13_42_12 : decode b_13_42 12 = .ok (.iconst 1, 1) := by decide +kernel
theorem d13_42_13 : decode b_13_42 13 = .ok (.isub, 1) := by decide +kernel
theorem d13_42_14 : decode b_13_42 14 = .ok (.i2l, 1) := by decide +kernel
theorem d13_42_15 : decode b_13_42 15 = .ok (.invokestatic 69, 3) := by decide +kernel
theorem d13_42_18 : decode b_13_42 18 = .ok (.ifCond .ne 9, 3) := by decide +kernel
theorem d13_42_21 : decode b_13_42 21 = .ok (.aload_n 0, 1) := by decide +kernel
theorem d13_42_22 : decode b_13_42 22 = .ok (.iconst (-1), 1) := by decide +kernel
theorem d13_42_23 : decode b_13_42 23 = .ok (.invokevirtual 82, 3) := by decide +kernel
theorem d13_42_26 : decode b_13_42 26 = .ok (.ireturn, 1) := by decide +kernel
theorem d13_42_27 : decode b_13_42 27 = .ok (.iload_n 1, 1) := by decide +kernel
theorem d13_42_28 : decode b_13_42 28 = .ok (.ifCond .ge 13, 3) := by decide +kernel
theorem d13_42_31 : decode b_13_42 31 = .ok (.aload_n 0, 1) := by decide +kernel
theorem d13_42_32 : decode b_13_42 32 = .ok (.getfield 10, 3) := by decide +kernel
theorem d13_42_35 : decode b_13_42 35 = .ok (.getfield 194, 3) := by decide +kernel
theorem d13_42_38 : decode b_13_42 38 = .ok (.goto 12, 3) := by decide +kernel
theorem d13_42_41 : decode b_13_42 41 = .ok (.aload_n 0, 1) := by decide +kernel
theorem d13_42_42 : decode b_13_42 42 = .ok (.getfield 10, 3) := by decide +kernel
theorem d13_42_45 : decode b_13_42 45 = .ok (.getfield 197, 3) := by decide +kernel
theorem d13_42_48 : decode b_13_42 48 = .ok (.iload_n 1, 1) := by decide +kernel
theorem d13_42_49 : decode b_13_42 49 = .ok (.iaload, 1) := by decide +kernel
theorem d13_42_50 : decode b_13_42 50 = .ok (.ireturn, 1) := by decide +kernel
theorem K13_42_15 {C : qCx} {G : jG} {mc ms : Nat} {p : Int → Int → Int → jS → jH → Prop} {q : Int → Int → Int → jS → jH → Int → jS → jH → Prop} (h : x13_42 C G) (hrm : C.2.2.2.1.frames = 2 ∧ C.2.2.2.1.locals = 51) (hM : M13_3 C.2.1 mc ms p q) : j_Call C b_13_42 n_KT G.1 G.2.1 2 (.invokestatic 69) mc ms (fun a S V => ∃ u0 u1 u2 : Int, a = [(1, u0), (1, u1), (1, u2)] ∧ p u0 u1 u2 S V) (fun a S V rs S' V' => ∃ u0 u1 u2 r : Int, a = [(1, u0), (1, u1), (1, u2)] ∧ rs = [(0, r)] ∧ q u0 u1 u2 S V r S' V') := j_callS n_NWk h.2.2.2.2.2 h.1 hM ⟨h.2.1.1, h.2.1.2, h.2.2.1, h.2.2.2.1, h.2.2.2.2.1⟩ ⟨n_CB (y := y_13_3) (bytes := b_13_3) 3 h.2.2.2.2.1 n_w923 n_w921 n_w12 ⟨by decide, by decide, by decide +kernel⟩ rfl rfl ⟨by rw [hrm.1]; exact Nat.le_of_ble_eq_true rfl, by rw [hrm.2]; exact Nat.le_of_ble_eq_true rfl⟩, h.2.2.2.2.1 _ n_w922⟩ (fun a S V hP => by obtain ⟨u0, u1, u2, rfl, -⟩ := hP; rfl)
theorem K13_42_23 {C : qCx} {G : jG} {mc ms : Nat} {p : Int → Int → jS → jH → Prop} {q : Int → Int → jS → jH → Int → jS → jH → Prop} (h : x13_42 C G) (hrm : C.2.2.2.1.frames = 2 ∧ C.2.2.2.1.locals = 51) (hM : M13_2 C.2.1 mc ms p q) : j_Call C b_13_42 n_KT G.1 G.2.1 2 (.invokevirtual 82) mc ms (fun a S V => ∃ u0 u1 : Int, a = [(2, u0), (0, u1)] ∧ S.1 u0 = 33 ∧ p u0 u1 S V) (fun a S V rs S' V' => ∃ u0 u1 r : Int, a = [(2, u0), (0, u1)] ∧ rs = [(0, r)] ∧ q u0 u1 S V r S' V') := j_callV n_NWk h.2.2.2.2.2 h.1 hM ⟨h.2.1.1, h.2.1.2, h.2.2.1, h.2.2.2.1, h.2.2.2.2.1⟩ ⟨n_CB (y := y_13_2) (bytes := b_13_2) 1 h.2.2.2.2.1 n_w928 n_w925 n_w12 ⟨by decide, by decide, by decide +kernel⟩ rfl rfl ⟨by rw [hrm.1]; exact Nat.le_of_ble_eq_true rfl, by rw [hrm.2]; exact Nat.le_of_ble_eq_true rfl⟩, h.2.2.2.2.1 _ n_w927, h.2.2.2.2.1 _ n_s27⟩ (Cn := RX12) (fun a S V hP => by obtain ⟨u0, u1, rfl, e, -⟩ := hP; exact ⟨u0, _, 12, _, _, TX12, 31, rfl, rfl, by rw [e]; decide, by rw [e]; rfl, rfl⟩)
theorem t13_42_0 {C : qCx} {G : jG} {S : jS} {V : jH} {nc ns : Nat} {l0 l1 : Int} {mc ms : Nat} {pp : Int → Int → Int → jS → jH → Prop} {qq : Int → Int → Int → jS → jH → Int → jS → jH → Prop} (h : x13_42 C G) (L : j_L S) (hrm : C.2.2.2.1.frames = 2 ∧ C.2.2.2.1.locals = 51) (c1 : S.1 l0 = 33) (c2 : -2147483648 ≤ (V (l0 + 1) 7) - 1 ∧ (V (l0 + 1) 7) - 1 ≤ 2147483647) (hM : M13_3 C.2.1 mc ms pp qq) (hp : pp l1 ((-1)) ((V (l0 + 1) 7) - 1) S V) (hc : nc + mc ≤ C.2.2.2.1.cells) (hs : ns + ms ≤ C.2.2.2.1.slots) (k : ∀ (r : Int) (S' : jS) (V' : jH), qq l1 ((-1)) ((V (l0 + 1) 7) - 1) S V r S' V' → j_ok n_KT 2 C G 18 [(0, (2, l0)), (1, (0, l1))] [(0, r)] S' V' (nc + mc) (ns + ms)) : j_ok n_KT 2 C G 0 [(0, (2, l0)), (1, (0, l1))] [] S V nc ns := by
  have E := n_E h
  refine j_iload_n E d13_42_0 rfl 1 rfl ?_
  refine j_i2l E d13_42_1 ?_
  refine j_ldc2 (n := (-1)) (fl12_94 h) rfl d13_42_2 ?_
  refine j_aload_n E d13_42_5 rfl 0 rfl ?_
  refine j_getS (f := 0) (x := l0 + 1) (fg12_10 h) d13_42_6 c1 (by decide) rfl rfl ((L12_0 L c1).trans (by omega)) ?_
  refine j_getI (f := 7) (fg12_194 h) d13_42_9 (show S.1 (l0 + 1) = 32 from (by have q := L12_0k L c1; rw [show l0 + 1 = l0 + 1 by omega]; exact q)) (by decide) rfl rfl ?_
  refine j_iconst E d13_42_12 (by decide) ?_
  refine j_isub E d13_42_13 c2 ?_
  refine j_i2l E d13_42_14 ?_
  refine j_call E (K13_42_15 h hrm hM) d13_42_15 (a := [(1, l1), (1, (-1)), (1, (V (l0 + 1) 7) - 1)]) (sk := []) rfl ⟨l1, (-1), (V (l0 + 1) 7) - 1, rfl, hp⟩ (Nat.le_of_ble_eq_true rfl) hc hs ?_
  rintro rs S' V' ⟨z0, z1, z2, r, e1, rfl, q⟩
  simp only [List.cons.injEq, Prod.mk.injEq, and_true, true_and] at e1
  obtain ⟨rfl, rfl, rfl⟩ := e1
  exact j_pick [0, 1] rfl (k r S' V' q)
theorem t13_42_18 {C : qCx} {G : jG} {S : jS} {V : jH} {nc ns : Nat} {l0 l1 s0 : Int} (h : x13_42 C G)  (k : ¬ s0 = 0 → j_ok n_KT 2 C G 27 [(0, (2, l0)), (1, (0, l1))] [] S V nc ns) (k' : s0 = 0 → j_ok n_KT 2 C G 21 [(0, (2, l0))] [] S V nc ns) : j_ok n_KT 2 C G 18 [(0, (2, l0)), (1, (0, l1))] [(0, s0)] S V nc ns := by
  have E := n_E h
  exact j_if_ne E d13_42_18 (t := 27) rfl (fun q => j_pick [0, 1] rfl (k q)) (fun q => j_pick [0] rfl (k' q))
theorem t13_42_21 {C : qCx} {G : jG} {S : jS} {V : jH} {nc ns : Nat} {l0 : Int} {mc ms : Nat} {pp : Int → Int → jS → jH → Prop} {qq : Int → Int → jS → jH → Int → jS → jH → Prop} (h : x13_42 C G) (hrm : C.2.2.2.1.frames = 2 ∧ C.2.2.2.1.locals = 51) (c1 : S.1 l0 = 33) (hM : M13_2 C.2.1 mc ms pp qq) (hp : pp l0 ((-1)) S V) (hc : nc + mc ≤ C.2.2.2.1.cells) (hs : ns + ms ≤ C.2.2.2.1.slots) (k : ∀ (r : Int) (S' : jS) (V' : jH), qq l0 ((-1)) S V r S' V' → j_ok n_KT 2 C G 26 [] [(0, r)] S' V' (nc + mc) (ns + ms)) : j_ok n_KT 2 C G 21 [(0, (2, l0))] [] S V nc ns := by
  have E := n_E h
  refine j_aload_n E d13_42_21 rfl 0 rfl ?_
  refine j_iconst E d13_42_22 (by decide) ?_
  refine j_call E (K13_42_23 h hrm hM) d13_42_23 (a := [(2, l0), (0, (-1))]) (sk := []) rfl ⟨l0, (-1), rfl, c1, hp⟩ (Nat.le_of_ble_eq_true rfl) hc hs ?_
  rintro rs S' V' ⟨z0, z1, r, e1, rfl, q⟩
  simp only [List.cons.injEq, Prod.mk.injEq, and_true, true_and] at e1
  obtain ⟨rfl, rfl⟩ := e1
  exact j_pick [] rfl (k r S' V' q)
theorem t13_42_26 {C : qCx} {G : jG} {S : jS} {V : jH} {nc ns : Nat} {s0 : Int} {mc ms : Nat} {qf : Int → jS → jH → Prop} (h : x13_42 C G)  (R : j_Ri n_KT 2 C G b_13_42 mc ms qf) (q : qf s0 S V) (hc : nc ≤ mc) (hs : ns ≤ ms) : j_ok n_KT 2 C G 26 [] [(0, s0)] S V nc ns := by
  have E := n_E h
  exact R _ _ _ _ _ _ _ d13_42_26 q hc hs
theorem t13_42_27 {C : qCx} {G : jG} {S : jS} {V : jH} {nc ns : Nat} {l0 l1 : Int} (h : x13_42 C G)  (k : 0 ≤ l1 → j_ok n_KT 2 C G 41 [(0, (2, l0)), (1, (0, l1))] [] S V nc ns) (k' : l1 < 0 → j_ok n_KT 2 C G 31 [(0, (2, l0))] [] S V nc ns) : j_ok n_KT 2 C G 27 [(0, (2, l0)), (1, (0, l1))] [] S V nc ns := by
  have E := n_E h
  refine j_iload_n E d13_42_27 rfl 1 rfl ?_
  exact j_if_ge E d13_42_28 (t := 41) rfl (fun q => j_pick [0, 1] rfl (k q)) (fun q => j_pick [0] rfl (k' q))
theorem t13_42_31 {C : qCx} {G : jG} {S : jS} {V : jH} {nc ns : Nat} {l0 : Int} (h : x13_42 C G) (L : j_L S) (c1 : S.1 l0 = 33) (k : j_ok n_KT 2 C G 50 [] [(0, V (l0 + 1) 7)] S V nc ns) : j_ok n_KT 2 C G 31 [(0, (2, l0))] [] S V nc ns := by
  have E := n_E h
  refine j_aload_n E d13_42_31 rfl 0 rfl ?_
  refine j_getS (f := 0) (x := l0 + 1) (fg12_10 h) d13_42_32 c1 (by decide) rfl rfl ((L12_0 L c1).trans (by omega)) ?_
  refine j_getI (f := 7) (fg12_194 h) d13_42_35 (show S.1 (l0 + 1) = 32 from (by have q := L12_0k L c1; rw [show l0 + 1 = l0 + 1 by omega]; exact q)) (by decide) rfl rfl ?_
  refine j_goto E d13_42_38 (t := 50) rfl ?_
  exact j_pick [] rfl k
theorem t13_42_41 {C : qCx} {G : jG} {S : jS} {V : jH} {nc ns : Nat} {l0 l1 : Int} (h : x13_42 C G) (L : j_L S) (c1 : S.1 l0 = 33) (c2 : 0 ≤ l1) (c3 : l1 < 4400) (k : j_ok n_KT 2 C G 50 [] [(0, V (l0 + 8) l1)] S V nc ns) : j_ok n_KT 2 C G 41 [(0, (2, l0)), (1, (0, l1))] [] S V nc ns := by
  have E := n_E h
  refine j_aload_n E d13_42_41 rfl 0 rfl ?_
  refine j_getS (f := 0) (x := l0 + 1) (fg12_10 h) d13_42_42 c1 (by decide) rfl rfl ((L12_0 L c1).trans (by omega)) ?_
  refine j_getS (f := 8) (x := l0 + 8) (fg12_197 h) d13_42_45 (show S.1 (l0 + 1) = 32 from (by have q := L12_0k L c1; rw [show l0 + 1 = l0 + 1 by omega]; exact q)) (by decide) rfl rfl ((L11_8 L (show S.1 (l0 + 1) = 32 from (by have q := L12_0k L c1; rw [show l0 + 1 = l0 + 1 by omega]; exact q))).trans (by omega)) ?_
  refine j_iload_n E d13_42_48 rfl 1 rfl ?_
  refine j_iald E d13_42_49 (j_arr_of (show S.1 (l0 + 8) = 6 from (by have q := L11_8k L (show S.1 (l0 + 1) = 32 from (by have q := L12_0k L c1; rw [show l0 + 1 = l0 + 1 by omega]; exact q)); rw [show l0 + 8 = (l0 + 1) + 7 by omega]; exact q)) (by decide) rfl) c2 c3 ?_
  exact j_pick [] rfl k
theorem t13_42_50 {C : qCx} {G : jG} {S : jS} {V : jH} {nc ns : Nat} {s0 : Int} {mc ms : Nat} {qf : Int → jS → jH → Prop} (h : x13_42 C G)  (R : j_Ri n_KT 2 C G b_13_42 mc ms qf) (q : qf s0 S V) (hc : nc ≤ mc) (hs : ns ≤ ms) : j_ok n_KT 2 C G 50 [] [(0, s0)] S V nc ns := by
  have E := n_E h
  exact R _ _ _ _ _ _ _ d13_42_50 q hc hs
/- BalanceCoderModel.spoilt()V -/
abbrev b_13_43 : ByteArray := prog_13_method_43_code
def y_13_43 : MethodName := ⟨"BalanceCoderModel", "spoilt", "()V"⟩
abbrev x13_43 (C : qCx) (G : jG) : Prop := n_ctx C b_13_43 1 "BalanceCoderModel" G.1 G.2.1
def M13_43 (l : Launch) (mc ms : Nat) (p : Int → jS → jH → Prop) (q : Int → jS → jH → jS → jH → Prop) : Prop := j_Met l vwCl n_TL n_NW n_KT y_13_43 (Cond.code y_13_43 b_13_43 1 none :: n_GW) { frames := 1, cells := mc, slots := ms, locals := 26 } mc ms (fun a S V => ∃ u0 : Int, a = [(2, u0)] ∧ S.1 u0 = 33 ∧ p u0 S V) (fun a S V rs S' V' => ∃ u0 : Int, a = [(2, u0)] ∧ rs = [] ∧ q u0 S V S' V')
theorem e13_43 {l : Launch} {mc ms : Nat} {p : Int → jS → jH → Prop} {q : Int → jS → jH → jS → jH → Prop} (body : ∀ (C : qCx) (G : jG), x13_43 C G → C.2.2.2.1.frames = 1 ∧ C.2.2.2.1.locals = 26 → C.2.2.2.1.cells = mc ∧ C.2.2.2.1.slots = ms → C.2.1 = l → C.2.2.2.2.2.2.2.2.1.name = "spoilt" → ∀ (u0 : Int) (S : jS) (V : jH), S.1 u0 = 33 → p u0 S V → j_Rv n_KT 1 C G b_13_43 mc ms (q u0 S V) → j_ok n_KT 1 C G 0 [(0, (2, u0))] [] S V 0 0) : M13_43 l mc ms p q := by
  refine j_method (ws' := n_GW) (by decide) rfl ?_ ?_
  · rintro a S V ⟨u0, rfl, -⟩
    exact Nat.le_of_ble_eq_true rfl
  · rintro C G htl hl hrm hm hml ho hts hnm hE a S V ⟨u0, rfl, ht, hp⟩ R
    exact body C G ⟨htl, hm, hml, ho, fun w hw => hts w (List.mem_cons_of_mem _ hw), hE⟩ (by rw [hrm]; exact ⟨rfl, rfl⟩) (by rw [hrm]; exact ⟨rfl, rfl⟩) hl hnm u0 S V ht hp (fun pc lo S' V' nc ns d q hc hs => R.1 rfl pc lo S' V' nc ns d ⟨u0, rfl, rfl, q⟩ hc hs)
theorem d13_43_0 : decode b_13_43 0 = .ok (.aload_n 0, 1) := by decide +kernel
theorem d13_43_1 : decode b_13_43 1 = .ok (.getfield 10, 3) := by decide +kernel
theorem d13_43_4 : decode b_13_43 4 = .ok (.iconst 0, 1) := by decide +kernel
theorem d13_43_5 : decode b_13_43 5 = .ok (.putfield 200, 3) := by decide +kernel
theorem d13_43_8 : decode b_13_43 8 = .ok (.aload_n 0, 1) := by decide +kernel
theorem d13_43_9 : decode b_13_43 9 = .ok (.getfield 10, 3) := by decide +kernel
theorem d13_43_12 : decode b_13_43 12 = .ok (.iconst 0, 1) := by decide +kernel
theorem d13_43_13 : decode b_13_43 13 = .ok (.putfield 204, 3) := by decide +kernel
theorem d13_43_16 : decode b_13_43 16 = .ok (.return_, 1) := by decide +kernel
theorem t13_43_0 {C : qCx} {G : jG} {S : jS} {V : jH} {nc ns : Nat} {l0 : Int} {mc ms : Nat} {qf : jS → jH → Prop} (h : x13_43 C G) (L : j_L S) (c1 : S.1 l0 = 33) (R : j_Rv n_KT 1 C G b_13_43 mc ms qf) (q : qf S (j_up (j_up V (l0 + 1) 9 0) (l0 + 1) 10 0)) (hc : nc ≤ mc) (hs : ns ≤ ms) : j_ok n_KT 1 C G 0 [(0, (2, l0))] [] S V nc ns := by
  have E := n_E h
  refine j_aload_n E d13_43_0 rfl 0 rfl ?_
  refine j_getS (f := 0) (x := l0 + 1) (fg12_10 h) d13_43_1 c1 (by decide) rfl rfl ((L12_0 L c1).trans (by omega)) ?_
  refine j_iconst E d13_43_4 (by decide) ?_
  refine j_putZ (f := 9) (fp12_200 h) (n_hap h 32 11 0 _ rfl) d13_43_5 (show S.1 (l0 + 1) = 32 from (by have q := L12_0k L c1; rw [show l0 + 1 = l0 + 1 by omega]; exact q)) (by decide) rfl rfl rfl (by decide) ?_
  refine j_aload_n E d13_43_8 rfl 0 rfl ?_
  refine j_getS (f := 0) (x := l0 + 1) (fg12_10 h) d13_43_9 c1 (by decide) rfl rfl ((L12_0 L c1).trans (by omega)) ?_
  refine j_iconst E d13_43_12 (by decide) ?_
  refine j_putI (f := 10) (fp12_204 h) (n_hap h 32 11 0 _ rfl) d13_43_13 (show S.1 (l0 + 1) = 32 from (by have q := L12_0k L c1; rw [show l0 + 1 = l0 + 1 by omega]; exact q)) (by decide) rfl rfl rfl ?_
  exact R _ _ _ _ _ _ d13_43_16 q hc hs
/- BalanceCoderModel.alter(II)I -/
abbrev b_13_44 : ByteArray := prog_13_method_44_code
def y_13_44 : MethodName := ⟨"BalanceCoderModel", "alter", "(II)I"⟩
abbrev x13_44 (C : qCx) (G : jG) : Prop := n_ctx C b_13_44 3 "BalanceCoderModel" G.1 G.2.1
def M13_44 (l : Launch) (mc ms : Nat) (p : Int → Int → Int → jS → jH → Prop) (q : Int → Int → Int → jS → jH → Int → jS → jH → Prop) : Prop := j_Met l vwCl n_TL n_NW n_KT y_13_44 (Cond.code y_13_44 b_13_44 3 (some .int) :: n_GW) { frames := 2, cells := mc, slots := ms, locals := 51 } mc ms (fun a S V => ∃ u0 u1 u2 : Int, a = [(2, u0), (0, u1), (0, u2)] ∧ S.1 u0 = 33 ∧ p u0 u1 u2 S V) (fun a S V rs S' V' => ∃ u0 u1 u2 r : Int, a = [(2, u0), (0, u1), (0, u2)] ∧ rs = [(0, r)] ∧ q u0 u1 u2 S V r S' V')
theorem e13_44 {l : Launch} {mc ms : Nat} {p : Int → Int → Int → jS → jH → Prop} {q : Int → Int → Int → jS → jH → Int → jS → jH → Prop} (body : ∀ (C : qCx) (G : jG), x13_44 C G → C.2.2.2.1.frames = 2 ∧ C.2.2.2.1.locals = 51 → C.2.2.2.1.cells = mc ∧ C.2.2.2.1.slots = ms → C.2.1 = l → C.2.2.2.2.2.2.2.2.1.name = "alter" → ∀ (u0 u1 u2 : Int) (S : jS) (V : jH), S.1 u0 = 33 → p u0 u1 u2 S V → j_Ri n_KT 3 C G b_13_44 mc ms (q u0 u1 u2 S V) → j_ok n_KT 3 C G 0 [(0, (2, u0)), (1, (0, u1)), (2, (0, u2))] [] S V 0 0) : M13_44 l mc ms p q := by
  refine j_method (ws' := n_GW) (by decide) rfl ?_ ?_
  · rintro a S V ⟨u0, u1, u2, rfl, -⟩
    exact Nat.le_of_ble_eq_true rfl
  · rintro C G htl hl hrm hm hml ho hts hnm hE a S V ⟨u0, u1, u2, rfl, ht, hp⟩ R
    exact body C G ⟨htl, hm, hml, ho, fun w hw => hts w (List.mem_cons_of_mem _ hw), hE⟩ (by rw [hrm]; exact ⟨rfl, rfl⟩) (by rw [hrm]; exact ⟨rfl, rfl⟩) hl hnm u0 u1 u2 S V ht hp (fun pc lo r S' V' nc ns d q hc hs => R.2.1 rfl pc lo r S' V' nc ns d ⟨u0, u1, u2, r, rfl, rfl, q⟩ hc hs)
theorem d13_44_0 : decode b_13_44 0 = .ok (.iload_n 1, 1) := by decide +kernel
theorem d13_44_1 : decode b_13_44 1 = .ok (.i2l, 1) := by decide +kernel
theorem d13_44_2 : decode b_13_44 2 = .ok (.lconst 0, 1) := by decide +kernel
theorem d13_44_3 : decode b_13_44 3 = .ok (.aload_n 0, 1) := by decide +kernel
theorem d13_44_4 : decode b_13_44 4 = .ok (.getfield 10, 3) := by decide +kernel
theorem d13_44_7 : decode b_13_44 7 = .ok (.getfield 194, 3) := by decide +kernel
theorem d13_44_10 : decode b_13_44 10 = .ok (.iconst 1, 1) := by decide +kernel
theorem d13_44_11 : decode b_13_44 11 = .ok (.isub, 1) := by decide +kernel
theorem d13_44_12 : decode b_13_44 12 = .ok (.i2l, 1) := by decide +kernel
theorem d13_44_13 : decode b_13_44 13 = .ok (.invokestatic 69, 3) := by decide +kernel
theorem d13_44_16 : decode b_13_44 16 = .ok (.ifCond .eq 15, 3) := by decide +kernel
theorem d13_44_19 : decode b_13_44 19 = .ok (.iload_n 2, 1) := by decide +kernel
theorem d13_44_20 : decode b_13_44 20 = .ok (.i2l, 1) := by decide +kernel
theorem d13_44_21 : decode b_13_44 21 = .ok (.lconst 0, 1) := by decide +kernel
theorem d13_44_22 : decode b_13_44 22 = .ok (.ldc2_w 92, 3) := by decide +kernel
theorem d13_44_25 : decode b_13_44 25 = .ok (.invokestatic 69, 3) := by decide +kernel
theorem d13_44_28 : decode b_13_44 28 = .ok (.ifCond .ne 9, 3) := by decide +kernel
theorem d13_44_31 : decode b_13_44 31 = .ok (.aload_n 0, 1) := by decide +kernel
theorem d13_44_32 : decode b_13_44 32 = .ok (.iconst (-1), 1) := by decide +kernel
theorem d13_44_33 : decode b_13_44 33 = .ok (.invokevirtual 82, 3) := by decide +kernel
theorem d13_44_36 : decode b_13_44 36 = .ok (.ireturn, 1) := by decide +kernel
theorem d13_44_37 : decode b_13_44 37 = .ok (.aload_n 0, 1) := by decide +kernel
theorem d13_44_38 : decode b_13_44 38 = .ok (.getfield 10, 3) := by decide +kernel
theorem d13_44_41 : decode b_13_44 41 = .ok (.getfield 197, 3) := by decide +kernel
theorem d13_44_44 : decode b_13_44 44 = .ok (.iload_n 1, 1) := by decide +kernel
theorem d13_44_45 : decode b_13_44 45 = .ok (.dup2, 1) := by decide +kernel
theorem d13_44_46 : decode b_13_44 46 = .ok (.iaload, 1) := by decide +kernel
theorem d13_44_47 : decode b_13_44 47 = .ok (.iload_n 2, 1) := by decide +kernel
theorem d13_44_48 : decode b_13_44 48 = .ok (.ixor, 1) := by decide +kernel
theorem d13_44_49 : decode b_13_44 49 = .ok (.iastore, 1) := by decide +kernel
theorem d13_44_50 : decode b_13_44 50 = .ok (.aload_n 0, 1) := by decide +kernel
theorem d13_44_51 : decode b_13_44 51 = .ok (.invokevirtual 254, 3) := by decide +kernel
theorem d13_44_54 : decode b_13_44 54 = .ok (.aload_n 0, 1) := by decide +kernel
theorem d13_44_55 : decode b_13_44 55 = .ok (.getfield 10, 3) := by decide +kernel
theorem d13_44_58 : decode b_13_44 58 = .ok (.getfield 197, 3) := by decide +kernel
theorem d13_44_61 : decode b_13_44 61 = .ok (.iload_n 1, 1) := by decide +kernel
theorem d13_44_62 : decode b_13_44 62 = .ok (.iaload, 1) := by decide +kernel
theorem d13_44_63 : decode b_13_44 63 = .ok (.ireturn, 1) := by decide +kernel
theorem K13_44_13 {C : qCx} {G : jG} {mc ms : Nat} {p : Int → Int → Int → jS → jH → Prop} {q : Int → Int → Int → jS → jH → Int → jS → jH → Prop} (h : x13_44 C G) (hrm : C.2.2.2.1.frames = 2 ∧ C.2.2.2.1.locals = 51) (hM : M13_3 C.2.1 mc ms p q) : j_Call C b_13_44 n_KT G.1 G.2.1 3 (.invokestatic 69) mc ms (fun a S V => ∃ u0 u1 u2 : Int, a = [(1, u0), (1, u1), (1, u2)] ∧ p u0 u1 u2 S V) (fun a S V rs S' V' => ∃ u0 u1 u2 r : Int, a = [(1, u0), (1, u1), (1, u2)] ∧ rs = [(0, r)] ∧ q u0 u1 u2 S V r S' V') := j_callS n_NWk h.2.2.2.2.2 h.1 hM ⟨h.2.1.1, h.2.1.2, h.2.2.1, h.2.2.2.1, h.2.2.2.2.1⟩ ⟨n_CB (y := y_13_3) (bytes := b_13_3) 3 h.2.2.2.2.1 n_w923 n_w921 n_w12 ⟨by decide, by decide, by decide +kernel⟩ rfl rfl ⟨by rw [hrm.1]; exact Nat.le_of_ble_eq_true rfl, by rw [hrm.2]; exact Nat.le_of_ble_eq_true rfl⟩, h.2.2.2.2.1 _ n_w922⟩ (fun a S V hP => by obtain ⟨u0, u1, u2, rfl, -⟩ := hP; rfl)
theorem K13_44_25 {C : qCx} {G : jG} {mc ms : Nat} {p : Int → Int → Int → jS → jH → Prop} {q : Int → Int → Int → jS → jH → Int → jS → jH → Prop} (h : x13_44 C G) (hrm : C.2.2.2.1.frames = 2 ∧ C.2.2.2.1.locals = 51) (hM : M13_3 C.2.1 mc ms p q) : j_Call C b_13_44 n_KT G.1 G.2.1 3 (.invokestatic 69) mc ms (fun a S V => ∃ u0 u1 u2 : Int, a = [(1, u0), (1, u1), (1, u2)] ∧ p u0 u1 u2 S V) (fun a S V rs S' V' => ∃ u0 u1 u2 r : Int, a = [(1, u0), (1, u1), (1, u2)] ∧ rs = [(0, r)] ∧ q u0 u1 u2 S V r S' V') := j_callS n_NWk h.2.2.2.2.2 h.1 hM ⟨h.2.1.1, h.2.1.2, h.2.2.1, h.2.2.2.1, h.2.2.2.2.1⟩ ⟨n_CB (y := y_13_3) (bytes := b_13_3) 3 h.2.2.2.2.1 n_w923 n_w921 n_w12 ⟨by decide, by decide, by decide +kernel⟩ rfl rfl ⟨by rw [hrm.1]; exact Nat.le_of_ble_eq_true rfl, by rw [hrm.2]; exact Nat.le_of_ble_eq_true rfl⟩, h.2.2.2.2.1 _ n_w922⟩ (fun a S V hP => by obtain ⟨u0, u1, u2, rfl, -⟩ := hP; rfl)
theorem K13_44_33 {C : qCx} {G : jG} {mc ms : Nat} {p : Int → Int → jS → jH → Prop} {q : Int → Int → jS → jH → Int → jS → jH → Prop} (h : x13_44 C G) (hrm : C.2.2.2.1.frames = 2 ∧ C.2.2.2.1.locals = 51) (hM : M13_2 C.2.1 mc ms p q) : j_Call C b_13_44 n_KT G.1 G.2.1 3 (.invokevirtual 82) mc ms (fun a S V => ∃ u0 u1 : Int, a = [(2, u0), (0, u1)] ∧ S.1 u0 = 33 ∧ p u0 u1 S V) (fun a S V rs S' V' => ∃ u0 u1 r : Int, a = [(2, u0), (0, u1)] ∧ rs = [(0, r)] ∧ q u0 u1 S V r S' V') := j_callV n_NWk h.2.2.2.2.2 h.1 hM ⟨h.2.1.1, h.2.1.2, h.2.2.1, h.2.2.2.1, h.2.2.2.2.1⟩ ⟨n_CB (y := y_13_2) (bytes := b_13_2) 1 h.2.2.2.2.1 n_w928 n_w925 n_w12 ⟨by decide, by decide, by decide +kernel⟩ rfl rfl ⟨by rw [hrm.1]; exact Nat.le_of_ble_eq_true rfl, by rw [hrm.2]; exact Nat.le_of_ble_eq_true rfl⟩, h.2.2.2.2.1 _ n_w927, h.2.2.2.2.1 _ n_s27⟩ (Cn := RX12) (fun a S V hP => by obtain ⟨u0, u1, rfl, e, -⟩ := hP; exact ⟨u0, _, 12, _, _, TX12, 31, rfl, rfl, by rw [e]; decide, by rw [e]; rfl, rfl⟩)
theorem K13_44_51 {C : qCx} {G : jG} {mc ms : Nat} {p : Int → jS → jH → Prop} {q : Int → jS → jH → jS → jH → Prop} (h : x13_44 C G) (hrm : C.2.2.2.1.frames = 2 ∧ C.2.2.2.1.locals = 51) (hM : M13_43 C.2.1 mc ms p q) : j_Call C b_13_44 n_KT G.1 G.2.1 3 (.invokevirtual 254) mc ms (fun a S V => ∃ u0 : Int, a = [(2, u0)] ∧ S.1 u0 = 33 ∧ p u0 S V) (fun a S V rs S' V' => ∃ u0 : Int, a = [(2, u0)] ∧ rs = [] ∧ q u0 S V S' V') := j_callV n_NWk h.2.2.2.2.2 h.1 hM ⟨h.2.1.1, h.2.1.2, h.2.2.1, h.2.2.2.1, h.2.2.2.2.1⟩ ⟨n_CB (y := y_13_43) (bytes := b_13_43) 0 h.2.2.2.2.1 n_w1091 n_w1088 n_w12 ⟨by decide, by decide, by decide +kernel⟩ rfl rfl ⟨by rw [hrm.1]; exact Nat.le_of_ble_eq_true rfl, by rw [hrm.2]; exact Nat.le_of_ble_eq_true rfl⟩, h.2.2.2.2.1 _ n_w1090, h.2.2.2.2.1 _ n_s49⟩ (Cn := RX12) (fun a S V hP => by obtain ⟨u0, rfl, e, -⟩ := hP; exact ⟨u0, _, 12, _, _, TX12, 31, rfl, rfl, by rw [e]; decide, by rw [e]; rfl, rfl⟩)
theorem t13_44_0 {C : qCx} {G : jG} {S : jS} {V : jH} {nc ns : Nat} {l0 l1 l2 : Int} {mc ms : Nat} {pp : Int → Int → Int → jS → jH → Prop} {qq : Int → Int → Int → jS → jH → Int → jS → jH → Prop} (h : x13_44 C G) (L : j_L S) (hrm : C.2.2.2.1.frames = 2 ∧ C.2.2.2.1.locals = 51) (c1 : S.1 l0 = 33) (c2 : -2147483648 ≤ (V (l0 + 1) 7) - 1 ∧ (V (l0 + 1) 7) - 1 ≤ 2147483647) (hM : M13_3 C.2.1 mc ms pp qq) (hp : pp l1 0 ((V (l0 + 1) 7) - 1) S V) (hc : nc + mc ≤ C.2.2.2.1.cells) (hs : ns + ms ≤ C.2.2.2.1.slots) (k : ∀ (r : Int) (S' : jS) (V' : jH), qq l1 0 ((V (l0 + 1) 7) - 1) S V r S' V' → j_ok n_KT 3 C G 16 [(0, (2, l0)), (1, (0, l1)), (2, (0, l2))] [(0, r)] S' V' (nc + mc) (ns + ms)) : j_ok n_KT 3 C G 0 [(0, (2, l0)), (1, (0, l1)), (2, (0, l2))] [] S V nc ns := by
  have E := n_E h
  refine j_iload_n E d13_44_0 rfl 1 rfl ?_
  refine j_i2l E d13_44_1 ?_
  refine j_lconst E d13_44_2 ?_
  refine j_aload_n E d13_44_3 rfl 0 rfl ?_
  refine j_getS (f := 0) (x := l0 + 1) (fg12_10 h) d13_44_4 c1 (by decide) rfl rfl ((L12_0 L c1).trans (by omega)) ?_
  refine j_getI (f := 7) (fg12_194 h) d13_44_7 (show S.1 (l0 + 1) = 32 from (by have q := L12_0k L c1; rw [show l0 + 1 = l0 + 1 by omega]; exact q)) (by decide) rfl rfl ?_
  refine j_iconst E d13_44_10 (by decide) ?_
  refine j_isub E d13_44_11 c2 ?_
  refine j_i2l E d13_44_12 ?_
  refine j_call E (K13_44_13 h hrm hM) d13_44_13 (a := [(1, l1), (1, 0), (1, (V (l0 + 1) 7) - 1)]) (sk := []) rfl ⟨l1, 0, (V (l0 + 1) 7) - 1, rfl, hp⟩ (Nat.le_of_ble_eq_true rfl) hc hs ?_
  rintro rs S' V' ⟨z0, z1, z2, r, e1, rfl, q⟩
  simp only [List.cons.injEq, Prod.mk.injEq, and_true, true_and] at e1
  obtain ⟨rfl, rfl, rfl⟩ := e1
  exact j_pick [0, 1, 2] rfl (k r S' V' q)
theorem t13_44_16 {C : qCx} {G : jG} {S : jS} {V : jH} {nc ns : Nat} {l0 l1 l2 s0 : Int} (h : x13_44 C G)  (k : s0 = 0 → j_ok n_KT 3 C G 31 [(0, (2, l0))] [] S V nc ns) (k' : ¬ s0 = 0 → j_ok n_KT 3 C G 19 [(0, (2, l0)), (1, (0, l1)), (2, (0, l2))] [] S V nc ns) : j_ok n_KT 3 C G 16 [(0, (2, l0)), (1, (0, l1)), (2, (0, l2))] [(0, s0)] S V nc ns := by
  have E := n_E h
  exact j_if_eq E d13_44_16 (t := 31) rfl (fun q => j_pick [0] rfl (k q)) (fun q => j_pick [0, 1, 2] rfl (k' q))
theorem t13_44_19 {C : qCx} {G : jG} {S : jS} {V : jH} {nc ns : Nat} {l0 l1 l2 : Int} {mc ms : Nat} {pp : Int → Int → Int → jS → jH → Prop} {qq : Int → Int → Int → jS → jH → Int → jS → jH → Prop} (h : x13_44 C G) (hrm : C.2.2.2.1.frames = 2 ∧ C.2.2.2.1.locals = 51)  (hM : M13_3 C.2.1 mc ms pp qq) (hp : pp l2 0 255 S V) (hc : nc + mc ≤ C.2.2.2.1.cells) (hs : ns + ms ≤ C.2.2.2.1.slots) (k : ∀ (r : Int) (S' : jS) (V' : jH), qq l2 0 255 S V r S' V' → j_ok n_KT 3 C G 28 [(0, (2, l0)), (1, (0, l1)), (2, (0, l2))] [(0, r)] S' V' (nc + mc) (ns + ms)) : j_ok n_KT 3 C G 19 [(0, (2, l0)), (1, (0, l1)), (2, (0, l2))] [] S V nc ns := by
  have E := n_E h
  refine j_iload_n E d13_44_19 rfl 2 rfl ?_
  refine j_i2l E d13_44_20 ?_
  refine j_lconst E d13_44_21 ?_
  refine j_ldc2 (n := 255) (fl12_92 h) rfl d13_44_22 ?_
  refine j_call E (K13_44_25 h hrm hM) d13_44_25 (a := [(1, l2), (1, 0), (1, 255)]) (sk := []) rfl ⟨l2, 0, 255, rfl, hp⟩ (Nat.le_of_ble_eq_true rfl) hc hs ?_
  rintro rs S' V' ⟨z0, z1, z2, r, e1, rfl, q⟩
  simp only [List.cons.injEq, Prod.mk.injEq, and_true, true_and] at e1
  obtain ⟨rfl, rfl, rfl⟩ := e1
  exact j_pick [0, 1, 2] rfl (k r S' V' q)
theorem t13_44_28 {C : qCx} {G : jG} {S : jS} {V : jH} {nc ns : Nat} {l0 l1 l2 s0 : Int} (h : x13_44 C G)  (k : ¬ s0 = 0 → j_ok n_KT 3 C G 37 [(0, (2, l0)), (1, (0, l1)), (2, (0, l2))] [] S V nc ns) (k' : s0 = 0 → j_ok n_KT 3 C G 31 [(0, (2, l0))] [] S V nc ns) : j_ok n_KT 3 C G 28 [(0, (2, l0)), (1, (0, l1)), (2, (0, l2))] [(0, s0)] S V nc ns := by
  have E := n_E h
  exact j_if_ne E d13_44_28 (t := 37) rfl (fun q => j_pick [0, 1, 2] rfl (k q)) (fun q => j_pick [0] rfl (k' q))
theorem t13_44_31 {C : qCx} {G : jG} {S : jS} {V : jH} {nc ns : Nat} {l0 : Int} {mc ms : Nat} {pp : Int → Int → jS → jH → Prop} {qq : Int → Int → jS → jH → Int → jS → jH → Prop} (h : x13_44 C G) (hrm : C.2.2.2.1.frames = 2 ∧ C.2.2.2.1.locals = 51) (c1 : S.1 l0 = 33) (hM : M13_2 C.2.1 mc ms pp qq) (hp : pp l0 ((-1)) S V) (hc : nc + mc ≤ C.2.2.2.1.cells) (hs : ns + ms ≤ C.2.2.2.1.slots) (k : ∀ (r : Int) (S' : jS) (V' : jH), qq l0 ((-1)) S V r S' V' → j_ok n_KT 3 C G 36 [] [(0, r)] S' V' (nc + mc) (ns + ms)) : j_ok n_KT 3 C G 31 [(0, (2, l0))] [] S V nc ns := by
  have E := n_E h
  refine j_aload_n E d13_44_31 rfl 0 rfl ?_
  refine j_iconst E d13_44_32 (by decide) ?_
  refine j_call E (K13_44_33 h hrm hM) d13_44_33 (a := [(2, l0), (0, (-1))]) (sk := []) rfl ⟨l0, (-1), rfl, c1, hp⟩ (Nat.le_of_ble_eq_true rfl) hc hs ?_
  rintro rs S' V' ⟨z0, z1, r, e1, rfl, q⟩
  simp only [List.cons.injEq, Prod.mk.injEq, and_true, true_and] at e1
  obtain ⟨rfl, rfl⟩ := e1
  exact j_pick [] rfl (k r S' V' q)
theorem t13_44_36 {C : qCx} {G : jG} {S : jS} {V : jH} {nc ns : Nat} {s0 : Int} {mc ms : Nat} {qf : Int → jS → jH → Prop} (h : x13_44 C G)  (R : j_Ri n_KT 3 C G b_13_44 mc ms qf) (q : qf s0 S V) (hc : nc ≤ mc) (hs : ns ≤ ms) : j_ok n_KT 3 C G 36 [] [(0, s0)] S V nc ns := by
  have E := n_E h
  exact R _ _ _ _ _ _ _ d13_44_36 q hc hs
theorem t13_44_37 {C : qCx} {G : jG} {S : jS} {V : jH} {nc ns : Nat} {l0 l1 l2 : Int} {mc ms : Nat} {pp : Int → jS → jH → Prop} {qq : Int → jS → jH → jS → jH → Prop} (h : x13_44 C G) (L : j_L S) (hrm : C.2.2.2.1.frames = 2 ∧ C.2.2.2.1.locals = 51) (c1 : S.1 l0 = 33) (c2 : 0 ≤ l1) (c3 : l1 < 4400) (c4 : 0 ≤ V (l0 + 8) l1) (c5 : 0 ≤ l2) (hM : M13_43 C.2.1 mc ms pp qq) (hp : pp l0 S (j_up V (l0 + 8) l1 (j_xor (V (l0 + 8) l1) l2))) (hc : nc + mc ≤ C.2.2.2.1.cells) (hs : ns + ms ≤ C.2.2.2.1.slots) (k : ∀ (S' : jS) (V' : jH), qq l0 S (j_up V (l0 + 8) l1 (j_xor (V (l0 + 8) l1) l2)) S' V' → j_ok n_KT 3 C G 54 [(0, (2, l0)), (1, (0, l1))] [] S' V' (nc + mc) (ns + ms)) : j_ok n_KT 3 C G 37 [(0, (2, l0)), (1, (0, l1)), (2, (0, l2))] [] S V nc ns := by
  have E := n_E h
  refine j_aload_n E d13_44_37 rfl 0 rfl ?_
  refine j_getS (f := 0) (x := l0 + 1) (fg12_10 h) d13_44_38 c1 (by decide) rfl rfl ((L12_0 L c1).trans (by omega)) ?_
  refine j_getS (f := 8) (x := l0 + 8) (fg12_197 h) d13_44_41 (show S.1 (l0 + 1) = 32 from (by have q := L12_0k L c1; rw [show l0 + 1 = l0 + 1 by omega]; exact q)) (by decide) rfl rfl ((L11_8 L (show S.1 (l0 + 1) = 32 from (by have q := L12_0k L c1; rw [show l0 + 1 = l0 + 1 by omega]; exact q))).trans (by omega)) ?_
  refine j_iload_n E d13_44_44 rfl 1 rfl ?_
  refine j_dup2 E d13_44_45 rfl rfl ?_
  refine j_iald E d13_44_46 (j_arr_of (show S.1 (l0 + 8) = 6 from (by have q := L11_8k L (show S.1 (l0 + 1) = 32 from (by have q := L12_0k L c1; rw [show l0 + 1 = l0 + 1 by omega]; exact q)); rw [show l0 + 8 = (l0 + 1) + 7 by omega]; exact q)) (by decide) rfl) c2 c3 ?_
  refine j_iload_n E d13_44_47 rfl 2 rfl ?_
  refine j_ixor E d13_44_48 c4 c5 ?_
  refine j_iast E d13_44_49 (j_arr_of (show S.1 (l0 + 8) = 6 from (by have q := L11_8k L (show S.1 (l0 + 1) = 32 from (by have q := L12_0k L c1; rw [show l0 + 1 = l0 + 1 by omega]; exact q)); rw [show l0 + 8 = (l0 + 1) + 7 by omega]; exact q)) (by decide) rfl) c2 c3 ?_
  refine j_aload_n E d13_44_50 rfl 0 rfl ?_
  refine j_call E (K13_44_51 h hrm hM) d13_44_51 (a := [(2, l0)]) (sk := []) rfl ⟨l0, rfl, c1, hp⟩ (Nat.le_of_ble_eq_true rfl) hc hs ?_
  rintro rs S' V' ⟨z0, e1, rfl, q⟩
  simp only [List.cons.injEq, Prod.mk.injEq, and_true, true_and] at e1
  obtain ⟨rfl⟩ := e1
  exact j_pick [0, 1] rfl (k S' V' q)
theorem t13_44_54 {C : qCx} {G : jG} {S : jS} {V : jH} {nc ns : Nat} {l0 l1 : Int} {mc ms : Nat} {qf : Int → jS → jH → Prop} (h : x13_44 C G) (L : j_L S) (c1 : S.1 l0 = 33) (c2 : 0 ≤ l1) (c3 : l1 < 4400) (R : j_Ri n_KT 3 C G b_13_44 mc ms qf) (q : qf (V (l0 + 8) l1) S V) (hc : nc ≤ mc) (hs : ns ≤ ms) : j_ok n_KT 3 C G 54 [(0, (2, l0)), (1, (0, l1))] [] S V nc ns := by
  have E := n_E h
  refine j_aload_n E d13_44_54 rfl 0 rfl ?_
  refine j_getS (f := 0) (x := l0 + 1) (fg12_10 h) d13_44_55 c1 (by decide) rfl rfl ((L12_0 L c1).trans (by omega)) ?_
  refine j_getS (f := 8) (x := l0 + 8) (fg12_197 h) d13_44_58 (show S.1 (l0 + 1) = 32 from (by have q := L12_0k L c1; rw [show l0 + 1 = l0 + 1 by omega]; exact q)) (by decide) rfl rfl ((L11_8 L (show S.1 (l0 + 1) = 32 from (by have q := L12_0k L c1; rw [show l0 + 1 = l0 + 1 by omega]; exact q))).trans (by omega)) ?_
  refine j_iload_n E d13_44_61 rfl 1 rfl ?_
  refine j_iald E d13_44_62 (j_arr_of (show S.1 (l0 + 8) = 6 from (by have q := L11_8k L (show S.1 (l0 + 1) = 32 from (by have q := L12_0k L c1; rw [show l0 + 1 = l0 + 1 by omega]; exact q)); rw [show l0 + 8 = (l0 + 1) + 7 by omega]; exact q)) (by decide) rfl) c2 c3 ?_
  exact R _ _ _ _ _ _ _ d13_44_63 q hc hs
/- BalanceCoderModel.more(JI)I -/
abbrev b_13_45 : ByteArray := prog_13_method_45_code
def y_13_45 : MethodName := ⟨"BalanceCoderModel", "more", "(JI)I"⟩
abbrev x13_45 (C : qCx) (G : jG) : Prop := n_ctx C b_13_45 5 "BalanceCoderModel" G.1 G.2.1
def M13_45 (l : Launch) (mc ms : Nat) (p : Int → Int → Int → jS → jH → Prop) (q : Int → Int → Int → jS → jH → Int → jS → jH → Prop) : Prop := j_Met l vwCl n_TL n_NW n_KT y_13_45 (Cond.code y_13_45 b_13_45 5 (some .int) :: n_GW) { frames := 2, cells := mc, slots := ms, locals := 51 } mc ms (fun a S V => ∃ u0 u1 u2 : Int, a = [(2, u0), (1, u1), (0, u2)] ∧ S.1 u0 = 33 ∧ p u0 u1 u2 S V) (fun a S V rs S' V' => ∃ u0 u1 u2 r : Int, a = [(2, u0), (1, u1), (0, u2)] ∧ rs = [(0, r)] ∧ q u0 u1 u2 S V r S' V')
theorem e13_45 {l : Launch} {mc ms : Nat} {p : Int → Int → Int → jS → jH → Prop} {q : Int → Int → Int → jS → jH → Int → jS → jH → Prop} (body : ∀ (C : qCx) (G : jG), x13_45 C G → C.2.2.2.1.frames = 2 ∧ C.2.2.2.1.locals = 51 → C.2.2.2.1.cells = mc ∧ C.2.2.2.1.slots = ms → C.2.1 = l → C.2.2.2.2.2.2.2.2.1.name = "more" → ∀ (u0 u1 u2 : Int) (S : jS) (V : jH), S.1 u0 = 33 → p u0 u1 u2 S V → j_Ri n_KT 5 C G b_13_45 mc ms (q u0 u1 u2 S V) → j_ok n_KT 5 C G 0 [(0, (2, u0)), (1, (1, u1)), (3, (0, u2))] [] S V 0 0) : M13_45 l mc ms p q := by
  refine j_method (ws' := n_GW) (by decide) rfl ?_ ?_
  · rintro a S V ⟨u0, u1, u2, rfl, -⟩
    exact Nat.le_of_ble_eq_true rfl
  · rintro C G htl hl hrm hm hml ho hts hnm hE a S V ⟨u0, u1, u2, rfl, ht, hp⟩ R
    exact body C G ⟨htl, hm, hml, ho, fun w hw => hts w (List.mem_cons_of_mem _ hw), hE⟩ (by rw [hrm]; exact ⟨rfl, rfl⟩) (by rw [hrm]; exact ⟨rfl, rfl⟩) hl hnm u0 u1 u2 S V ht hp (fun pc lo r S' V' nc ns d q hc hs => R.2.1 rfl pc lo r S' V' nc ns d ⟨u0, u1, u2, r, rfl, rfl, q⟩ hc hs)
theorem d13_45_0 : decode b_13_45 0 = .ok (.iload_n 3, 1) := by decide +kernel
theorem d13_45_1 : decode b_13_45 1 = .ok (.i2l, 1) := by decide +kernel
theorem d13_45_2 : decode b_13_45 2 = .ok (.ldc2_w 257, 3) := by decide +kernel
theorem d13_45_5 : decode b_13_45 5 = .ok (.ldc2_w 80, 3) := by decide +kernel
theorem d13_45_8 : decode b_13_45 8 = .ok (.invokestatic 69, 3) := by decide +kernel
theorem d13_45_11 : decode b_13_45 11 = .ok (.ifCond .eq 23, 3) := by decide +kernel
theorem d13_45_14 : decode b_13_45 14 = .ok (.iload_n 3, 1) := by decide +kernel
theorem d13_45_15 : decode b_13_45 15 = .ok (.ifCond .eq 19, 3) := by decide +kernel
theorem d13_45_18 : decode b_13_45 18 = .ok (.iload_n 3, 1) := by decide +kernel
theorem d13_45_19 : decode b_13_45 19 = .ok (.ifCond .ge 21, 3) := by decide +kernel
theorem d13_45_22 : decode b_13_45 22 = .ok (.iload_n 3, 1) := by decide +kernel
theorem d13_45_23 : decode b_13_45 23 = .ok (.ineg, 1) := by decide +kernel
theorem d13_45_24 : decode b_13_45 24 = .ok (.aload_n 0, 1) := by decide +kernel
theorem d13_45_25 : decode b_13_45 25 = .ok (.getfield 10, 3) := by decide +kernel
theorem d13_45_28 : decode b_13_45 28 = .ok (.getfield 194, 3) := by decide +kernel
theorem d13_45_31 : decode b_13_45 31 = .ok (.if_icmp .le 9, 3) := by decide +kernel
theorem d13_45_34 : decode b_13_45 34 = .ok (.aload_n 0, 1) := by decide +kernel
theorem d13_45_35 : decode b_13_45 35 = .ok (.iconst (-1), 1) := by decide +kernel
theorem d13_45_36 : decode b_13_45 36 = .ok (.invokevirtual 82, 3) := by decide +kernel
theorem d13_45_39 : decode b_13_45 39 = .ok (.ireturn, 1) := by decide +kernel
theorem d13_45_40 : decode b_13_45 40 = .ok (.aload_n 0, 1) := by decide +kernel
theorem d13_45_41 : decode b_13_45 41 = .ok (.getfield 10, 3) := by decide +kernel
theorem d13_45_44 : decode b_13_45 44 = .ok (.getfield 194, 3) := by decide +kernel
theorem d13_45_47 : decode b_13_45 47 = .ok (.iload_n 3, 1) := by decide +kernel
theorem d13_45_48 : decode b_13_45 48 = .ok (.iadd, 1) := by decide +kernel
theorem d13_45_49 : decode b_13_45 49 = .ok (.sipush 4400, 3) := by decide +kernel
theorem d13_45_52 : decode b_13_45 52 = .ok (.if_icmp .le 10, 3) := by decide +kernel
theorem d13_45_55 : decode b_13_45 55 = .ok (.aload_n 0, 1) := by decide +kernel
theorem d13_45_56 : decode b_13_45 56 = .ok (.bipush (-2), 2) := by decide +kernel
theorem d13_45_58 : decode b_13_45 58 = .ok (.invokevirtual 82, 3) := by decide +kernel
theorem d13_45_61 : decode b_13_45 61 = .ok (.ireturn, 1) := by decide +kernel
theorem d13_45_62 : decode b_13_45 62 = .ok (.iload_n 3, 1) := by decide +kernel
theorem d13_45_63 : decode b_13_45 63 = .ok (.iconst 1, 1) := by decide +kernel
theorem d13_45_64 : decode b_13_45 64 = .ok (.isub, 1) := by decide +kernel
theorem d13_45_65 : decode b_13_45 65 = .ok (.istore 4, 2) := by decide +kernel
theorem d13_45_67 : decode b_13_45 67 = .ok (.iload 4, 2) := by decide +kernel
theorem d13_45_69 : decode b_13_45 69 = .ok (.ifCond .lt 43, 3) := by decide +kernel
theorem d13_45_72 : decode b_13_45 72 = .ok (.aload_n 0, 1) := by decide +kernel
theorem d13_45_73 : decode b_13_45 73 = .ok (.getfield 10, 3) := by decide +kernel
theorem d13_45_76 : decode b_13_45 76 = .ok (.getfield 197, 3) := by decide +kernel
theorem d13_45_79 : decode b_13_45 79 = .ok (.aload_n 0, 1) := by decide +kernel
theorem d13_45_80 : decode b_13_45 80 = .ok (.getfield 10, 3) := by decide +kernel
theorem d13_45_83 : decode b_13_45 83 = .ok (.getfield 194, 3) := by decide +kernel
theorem d13_45_86 : decode b_13_45 86 = .ok (.iload_n 3, 1) := by decide +kernel
theorem d13_45_87 : decode b_13_45 87 = .ok (.iadd, 1) := by decide +kernel
theorem d13_45_88 : decode b_13_45 88 = .ok (.iconst 1, 1) := by decide +kernel
theorem d13_45_89 : decode b_13_45 89 = .ok (.isub, 1) := by decide +kernel
theorem d13_45_90 : decode b_13_45 90 = .ok (.iload 4, 2) := by decide +kernel
theorem d13_45_92 : decode b_13_45 92 = .ok (.isub, 1) := by decide +kernel
theorem d13_45_93 : decode b_13_45 93 = .ok (.lload_n 1, 1) := by decide +kernel
theorem d13_45_94 : decode b_13_45 94 = .ok (.bipush 8, 2) := by decide +kernel
theorem d13_45_96 : decode b_13_45 96 = .ok (.iload 4, 2) := by decide +kernel
theorem d13_45_98 : decode b_13_45 98 = .ok (.imul, 1) := by decide +kernel
theorem d13_45_99 : decode b_13_45 99 = .ok (.lshr, 1) := by decide +kernel
theorem d13_45_100 : decode b_13_45 100 = .ok (.ldc2_w 92, 3) := by decide +kernel
theorem d13_45_103 : decode b_13_45 103 = .ok (.land, 1) := by decide +kernel
theorem d13_45_104 : decode b_13_45 104 = .ok (.l2i, 1) := by decide +kernel
theorem d13_45_105 : decode b_13_45 105 = .ok (.iastore, 1) := by decide +kernel
theorem d13_45_106 : decode b_13_45 106 = .ok (.iinc 4 (-1), 3) := by decide +kernel
theorem d13_45_109 : decode b_13_45 109 = .ok (.goto (-42), 3) := by decide +kernel
theorem d13_45_112 : decode b_13_45 112 = .ok (.aload_n 0, 1) := by decide +kernel
theorem d13_45_113 : decode b_13_45 113 = .ok (.getfield 10, 3) := by decide +kernel
theorem d13_45_116 : decode b_13_45 116 = .ok (.dup, 1) := by decide +kernel
theorem d13_45_117 : decode b_13_45 117 = .ok (.getfield 194, 3) := by decide +kernel
theorem d13_45_120 : decode b_13_45 120 = .ok (.iload_n 3, 1) := by decide +kernel
theorem d13_45_121 : decode b_13_45 121 = .ok (.iadd, 1) := by decide +kernel
theorem d13_45_122 : decode b_13_45 122 = .ok (.putfield 194, 3) := by decide +kernel
theorem d13_45_125 : decode b_13_45 125 = .ok (.aload_n 0, 1) := by decide +kernel
theorem d13_45_126 : decode b_13_45 126 = .ok (.invokevirtual 254, 3) := by decide +kernel
theorem d13_45_129 : decode b_13_45 129 = .ok (.aload_n 0, 1) := by decide +kernel
theorem d13_45_130 : decode b_13_45 130 = .ok (.getfield 10, 3) := by decide +kernel
theorem d13_45_133 : decode b_13_45 133 = .ok (.getfield 194, 3) := by decide +kernel
theorem d13_45_136 : decode b_13_45 136 = .ok (.ireturn, 1) := by decide +kernel
theorem K13_45_8 {C : qCx} {G : jG} {mc ms : Nat} {p : Int → Int → Int → jS → jH → Prop} {q : Int → Int → Int → jS → jH → Int → jS → jH → Prop} (h : x13_45 C G) (hrm : C.2.2.2.1.frames = 2 ∧ C.2.2.2.1.locals = 51) (hM : M13_3 C.2.1 mc ms p q) : j_Call C b_13_45 n_KT G.1 G.2.1 5 (.invokestatic 69) mc ms (fun a S V => ∃ u0 u1 u2 : Int, a = [(1, u0), (1, u1), (1, u2)] ∧ p u0 u1 u2 S V) (fun a S V rs S' V' => ∃ u0 u1 u2 r : Int, a = [(1, u0), (1, u1), (1, u2)] ∧ rs = [(0, r)] ∧ q u0 u1 u2 S V r S' V') := j_callS n_NWk h.2.2.2.2.2 h.1 hM ⟨h.2.1.1, h.2.1.2, h.2.2.1, h.2.2.2.1, h.2.2.2.2.1⟩ ⟨n_CB (y := y_13_3) (bytes := b_13_3) 3 h.2.2.2.2.1 n_w923 n_w921 n_w12 ⟨by decide, by decide, by decide +kernel⟩ rfl rfl ⟨by rw [hrm.1]; exact Nat.le_of_ble_eq_true rfl, by rw [hrm.2]; exact Nat.le_of_ble_eq_true rfl⟩, h.2.2.2.2.1 _ n_w922⟩ (fun a S V hP => by obtain ⟨u0, u1, u2, rfl, -⟩ := hP; rfl)
theorem K13_45_36 {C : qCx} {G : jG} {mc ms : Nat} {p : Int → Int → jS → jH → Prop} {q : Int → Int → jS → jH → Int → jS → jH → Prop} (h : x13_45 C G) (hrm : C.2.2.2.1.frames = 2 ∧ C.2.2.2.1.locals = 51) (hM : M13_2 C.2.1 mc ms p q) : j_Call C b_13_45 n_KT G.1 G.2.1 5 (.invokevirtual 82) mc ms (fun a S V => ∃ u0 u1 : Int, a = [(2, u0), (0, u1)] ∧ S.1 u0 = 33 ∧ p u0 u1 S V) (fun a S V rs S' V' => ∃ u0 u1 r : Int, a = [(2, u0), (0, u1)] ∧ rs = [(0, r)] ∧ q u0 u1 S V r S' V') := j_callV n_NWk h.2.2.2.2.2 h.1 hM ⟨h.2.1.1, h.2.1.2, h.2.2.1, h.2.2.2.1, h.2.2.2.2.1⟩ ⟨n_CB (y := y_13_2) (bytes := b_13_2) 1 h.2.2.2.2.1 n_w928 n_w925 n_w12 ⟨by decide, by decide, by decide +kernel⟩ rfl rfl ⟨by rw [hrm.1]; exact Nat.le_of_ble_eq_true rfl, by rw [hrm.2]; exact Nat.le_of_ble_eq_true rfl⟩, h.2.2.2.2.1 _ n_w927, h.2.2.2.2.1 _ n_s27⟩ (Cn := RX12) (fun a S V hP => by obtain ⟨u0, u1, rfl, e, -⟩ := hP; exact ⟨u0, _, 12, _, _, TX12, 31, rfl, rfl, by rw [e]; decide, by rw [e]; rfl, rfl⟩)
theorem K13_45_58 {C : qCx} {G : jG} {mc ms : Nat} {p : Int → Int → jS → jH → Prop} {q : Int → Int → jS → jH → Int → jS → jH → Prop} (h : x13_45 C G) (hrm : C.2.2.2.1.frames = 2 ∧ C.2.2.2.1.locals = 51) (hM : M13_2 C.2.1 mc ms p q) : j_Call C b_13_45 n_KT G.1 G.2.1 5 (.invokevirtual 82) mc ms (fun a S V => ∃ u0 u1 : Int, a = [(2, u0), (0, u1)] ∧ S.1 u0 = 33 ∧ p u0 u1 S V) (fun a S V rs S' V' => ∃ u0 u1 r : Int, a = [(2, u0), (0, u1)] ∧ rs = [(0, r)] ∧ q u0 u1 S V r S' V') := j_callV n_NWk h.2.2.2.2.2 h.1 hM ⟨h.2.1.1, h.2.1.2, h.2.2.1, h.2.2.2.1, h.2.2.2.2.1⟩ ⟨n_CB (y := y_13_2) (bytes := b_13_2) 1 h.2.2.2.2.1 n_w928 n_w925 n_w12 ⟨by decide, by decide, by decide +kernel⟩ rfl rfl ⟨by rw [hrm.1]; exact Nat.le_of_ble_eq_true rfl, by rw [hrm.2]; exact Nat.le_of_ble_eq_true rfl⟩, h.2.2.2.2.1 _ n_w927, h.2.2.2.2.1 _ n_s27⟩ (Cn := RX12) (fun a S V hP => by obtain ⟨u0, u1, rfl, e, -⟩ := hP; exact ⟨u0, _, 12, _, _, TX12, 31, rfl, rfl, by rw [e]; decide, by rw [e]; rfl, rfl⟩)
theorem K13_45_126 {C : qCx} {G : jG} {mc ms : Nat} {p : Int → jS → jH → Prop} {q : Int → jS → jH → jS → jH → Prop} (h : x13_45 C G) (hrm : C.2.2.2.1.frames = 2 ∧ C.2.2.2.1.locals = 51) (hM : M13_43 C.2.1 mc ms p q) : j_Call C b_13_45 n_KT G.1 G.2.1 5 (.invokevirtual 254) mc ms (fun a S V => ∃ u0 : Int, a = [(2, u0)] ∧ S.1 u0 = 33 ∧ p u0 S V) (fun a S V rs S' V' => ∃ u0 : Int, a = [(2, u0)] ∧ rs = [] ∧ q u0 S V S' V') := j_callV n_NWk h.2.2.2.2.2 h.1 hM ⟨h.2.1.1, h.2.1.2, h.2.2.1, h.2.2.2.1, h.2.2.2.2.1⟩ ⟨n_CB (y := y_13_43) (bytes := b_13_43) 0 h.2.2.2.2.1 n_w1091 n_w1088 n_w12 ⟨by decide, by decide, by decide +kernel⟩ rfl rfl ⟨by rw [hrm.1]; exact Nat.le_of_ble_eq_true rfl, by rw [hrm.2]; exact Nat.le_of_ble_eq_true rfl⟩, h.2.2.2.2.1 _ n_w1090, h.2.2.2.2.1 _ n_s49⟩ (Cn := RX12) (fun a S V hP => by obtain ⟨u0, rfl, e, -⟩ := hP; exact ⟨u0, _, 12, _, _, TX12, 31, rfl, rfl, by rw [e]; decide, by rw [e]; rfl, rfl⟩)
theorem t13_45_0 {C : qCx} {G : jG} {S : jS} {V : jH} {nc ns : Nat} {l0 l1 l3 : Int} {mc ms : Nat} {pp : Int → Int → Int → jS → jH → Prop} {qq : Int → Int → Int → jS → jH → Int → jS → jH → Prop} (h : x13_45 C G) (hrm : C.2.2.2.1.frames = 2 ∧ C.2.2.2.1.locals = 51)  (hM : M13_3 C.2.1 mc ms pp qq) (hp : pp l3 ((-400)) 8 S V) (hc : nc + mc ≤ C.2.2.2.1.cells) (hs : ns + ms ≤ C.2.2.2.1.slots) (k : ∀ (r : Int) (S' : jS) (V' : jH), qq l3 ((-400)) 8 S V r S' V' → j_ok n_KT 5 C G 11 [(0, (2, l0)), (1, (1, l1)), (3, (0, l3))] [(0, r)] S' V' (nc + mc) (ns + ms)) : j_ok n_KT 5 C G 0 [(0, (2, l0)), (1, (1, l1)), (3, (0, l3))] [] S V nc ns := by
  have E := n_E h
  refine j_iload_n E d13_45_0 rfl 2 rfl ?_
  refine j_i2l E d13_45_1 ?_
  refine j_ldc2 (n := (-400)) (fl12_257 h) rfl d13_45_2 ?_
  refine j_ldc2 (n := 8) (fl12_80 h) rfl d13_45_5 ?_
  refine j_call E (K13_45_8 h hrm hM) d13_45_8 (a := [(1, l3), (1, (-400)), (1, 8)]) (sk := []) rfl ⟨l3, (-400), 8, rfl, hp⟩ (Nat.le_of_ble_eq_true rfl) hc hs ?_
  rintro rs S' V' ⟨z0, z1, z2, r, e1, rfl, q⟩
  simp only [List.cons.injEq, Prod.mk.injEq, and_true, true_and] at e1
  obtain ⟨rfl, rfl, rfl⟩ := e1
  exact j_pick [0, 1, 2] rfl (k r S' V' q)
theorem t13_45_11 {C : qCx} {G : jG} {S : jS} {V : jH} {nc ns : Nat} {l0 l1 l3 s0 : Int} (h : x13_45 C G)  (k : s0 = 0 → j_ok n_KT 5 C G 34 [(0, (2, l0))] [] S V nc ns) (k' : ¬ s0 = 0 → j_ok n_KT 5 C G 14 [(0, (2, l0)), (1, (1, l1)), (3, (0, l3))] [] S V nc ns) : j_ok n_KT 5 C G 11 [(0, (2, l0)), (1, (1, l1)), (3, (0, l3))] [(0, s0)] S V nc ns := by
  have E := n_E h
  exact j_if_eq E d13_45_11 (t := 34) rfl (fun q => j_pick [0] rfl (k q)) (fun q => j_pick [0, 1, 2] rfl (k' q))
theorem t13_45_14 {C : qCx} {G : jG} {S : jS} {V : jH} {nc ns : Nat} {l0 l1 l3 : Int} (h : x13_45 C G)  (k : l3 = 0 → j_ok n_KT 5 C G 34 [(0, (2, l0))] [] S V nc ns) (k' : ¬ l3 = 0 → j_ok n_KT 5 C G 18 [(0, (2, l0)), (1, (1, l1)), (3, (0, l3))] [] S V nc ns) : j_ok n_KT 5 C G 14 [(0, (2, l0)), (1, (1, l1)), (3, (0, l3))] [] S V nc ns := by
  have E := n_E h
  refine j_iload_n E d13_45_14 rfl 2 rfl ?_
  exact j_if_eq E d13_45_15 (t := 34) rfl (fun q => j_pick [0] rfl (k q)) (fun q => j_pick [0, 1, 2] rfl (k' q))
theorem t13_45_18 {C : qCx} {G : jG} {S : jS} {V : jH} {nc ns : Nat} {l0 l1 l3 : Int} (h : x13_45 C G)  (k : 0 ≤ l3 → j_ok n_KT 5 C G 40 [(0, (2, l0)), (1, (1, l1)), (3, (0, l3))] [] S V nc ns) (k' : l3 < 0 → j_ok n_KT 5 C G 22 [(0, (2, l0)), (1, (1, l1)), (3, (0, l3))] [] S V nc ns) : j_ok n_KT 5 C G 18 [(0, (2, l0)), (1, (1, l1)), (3, (0, l3))] [] S V nc ns := by
  have E := n_E h
  refine j_iload_n E d13_45_18 rfl 2 rfl ?_
  exact j_if_ge E d13_45_19 (t := 40) rfl (fun q => j_pick [0, 1, 2] rfl (k q)) (fun q => j_pick [0, 1, 2] rfl (k' q))
theorem t13_45_22 {C : qCx} {G : jG} {S : jS} {V : jH} {nc ns : Nat} {l0 l1 l3 : Int} (h : x13_45 C G) (L : j_L S) (c1 : -2147483647 ≤ l3) (c2 : S.1 l0 = 33) (k : -l3 ≤ V (l0 + 1) 7 → j_ok n_KT 5 C G 40 [(0, (2, l0)), (1, (1, l1)), (3, (0, l3))] [] S V nc ns) (k' : V (l0 + 1) 7 < -l3 → j_ok n_KT 5 C G 34 [(0, (2, l0))] [] S V nc ns) : j_ok n_KT 5 C G 22 [(0, (2, l0)), (1, (1, l1)), (3, (0, l3))] [] S V nc ns := by
  have E := n_E h
  refine j_iload_n E d13_45_22 rfl 2 rfl ?_
  refine j_ineg E d13_45_23 c1 ?_
  refine j_aload_n E d13_45_24 rfl 0 rfl ?_
  refine j_getS (f := 0) (x := l0 + 1) (fg12_10 h) d13_45_25 c2 (by decide) rfl rfl ((L12_0 L c2).trans (by omega)) ?_
  refine j_getI (f := 7) (fg12_194 h) d13_45_28 (show S.1 (l0 + 1) = 32 from (by have q := L12_0k L c2; rw [show l0 + 1 = l0 + 1 by omega]; exact q)) (by decide) rfl rfl ?_
  exact j_icmp_le E d13_45_31 (t := 40) rfl (fun q => j_pick [0, 1, 2] rfl (k q)) (fun q => j_pick [0] rfl (k' q))
theorem t13_45_34 {C : qCx} {G : jG} {S : jS} {V : jH} {nc ns : Nat} {l0 : Int} {mc ms : Nat} {pp : Int → Int → jS → jH → Prop} {qq : Int → Int → jS → jH → Int → jS → jH → Prop} (h : x13_45 C G) (hrm : C.2.2.2.1.frames = 2 ∧ C.2.2.2.1.locals = 51) (c1 : S.1 l0 = 33) (hM : M13_2 C.2.1 mc ms pp qq) (hp : pp l0 ((-1)) S V) (hc : nc + mc ≤ C.2.2.2.1.cells) (hs : ns + ms ≤ C.2.2.2.1.slots) (k : ∀ (r : Int) (S' : jS) (V' : jH), qq l0 ((-1)) S V r S' V' → j_ok n_KT 5 C G 39 [] [(0, r)] S' V' (nc + mc) (ns + ms)) : j_ok n_KT 5 C G 34 [(0, (2, l0))] [] S V nc ns := by
  have E := n_E h
  refine j_aload_n E d13_45_34 rfl 0 rfl ?_
  refine j_iconst E d13_45_35 (by decide) ?_
  refine j_call E (K13_45_36 h hrm hM) d13_45_36 (a := [(2, l0), (0, (-1))]) (sk := []) rfl ⟨l0, (-1), rfl, c1, hp⟩ (Nat.le_of_ble_eq_true rfl) hc hs ?_
  rintro rs S' V' ⟨z0, z1, r, e1, rfl, q⟩
  simp only [List.cons.injEq, Prod.mk.injEq, and_true, true_and] at e1
  obtain ⟨rfl, rfl⟩ := e1
  exact j_pick [] rfl (k r S' V' q)
theorem t13_45_39 {C : qCx} {G : jG} {S : jS} {V : jH} {nc ns : Nat} {s0 : Int} {mc ms : Nat} {qf : Int → jS → jH → Prop} (h : x13_45 C G)  (R : j_Ri n_KT 5 C G b_13_45 mc ms qf) (q : qf s0 S V) (hc : nc ≤ mc) (hs : ns ≤ ms) : j_ok n_KT 5 C G 39 [] [(0, s0)] S V nc ns := by
  have E := n_E h
  exact R _ _ _ _ _ _ _ d13_45_39 q hc hs
theorem t13_45_40 {C : qCx} {G : jG} {S : jS} {V : jH} {nc ns : Nat} {l0 l1 l3 : Int} (h : x13_45 C G) (L : j_L S) (c1 : S.1 l0 = 33) (c2 : -2147483648 ≤ (V (l0 + 1) 7) + l3 ∧ (V (l0 + 1) 7) + l3 ≤ 2147483647) (k : (V (l0 + 1) 7) + l3 ≤ 4400 → j_ok n_KT 5 C G 62 [(0, (2, l0)), (1, (1, l1)), (3, (0, l3))] [] S V nc ns) (k' : 4400 < (V (l0 + 1) 7) + l3 → j_ok n_KT 5 C G 55 [(0, (2, l0))] [] S V nc ns) : j_ok n_KT 5 C G 40 [(0, (2, l0)), (1, (1, l1)), (3, (0, l3))] [] S V nc ns := by
  have E := n_E h
  refine j_aload_n E d13_45_40 rfl 0 rfl ?_
  refine j_getS (f := 0) (x := l0 + 1) (fg12_10 h) d13_45_41 c1 (by decide) rfl rfl ((L12_0 L c1).trans (by omega)) ?_
  refine j_getI (f := 7) (fg12_194 h) d13_45_44 (show S.1 (l0 + 1) = 32 from (by have q := L12_0k L c1; rw [show l0 + 1 = l0 + 1 by omega]; exact q)) (by decide) rfl rfl ?_
  refine j_iload_n E d13_45_47 rfl 2 rfl ?_
  refine j_iadd E d13_45_48 c2 ?_
  refine j_sipush E d13_45_49 (by decide) ?_
  exact j_icmp_le E d13_45_52 (t := 62) rfl (fun q => j_pick [0, 1, 2] rfl (k q)) (fun q => j_pick [0] rfl (k' q))
theorem t13_45_55 {C : qCx} {G : jG} {S : jS} {V : jH} {nc ns : Nat} {l0 : Int} {mc ms : Nat} {pp : Int → Int → jS → jH → Prop} {qq : Int → Int → jS → jH → Int → jS → jH → Prop} (h : x13_45 C G) (hrm : C.2.2.2.1.frames = 2 ∧ C.2.2.2.1.locals = 51) (c1 : S.1 l0 = 33) (hM : M13_2 C.2.1 mc ms pp qq) (hp : pp l0 ((-2)) S V) (hc : nc + mc ≤ C.2.2.2.1.cells) (hs : ns + ms ≤ C.2.2.2.1.slots) (k : ∀ (r : Int) (S' : jS) (V' : jH), qq l0 ((-2)) S V r S' V' → j_ok n_KT 5 C G 61 [] [(0, r)] S' V' (nc + mc) (ns + ms)) : j_ok n_KT 5 C G 55 [(0, (2, l0))] [] S V nc ns := by
  have E := n_E h
  refine j_aload_n E d13_45_55 rfl 0 rfl ?_
  refine j_bipush E d13_45_56 (by decide) ?_
  refine j_call E (K13_45_58 h hrm hM) d13_45_58 (a := [(2, l0), (0, (-2))]) (sk := []) rfl ⟨l0, (-2), rfl, c1, hp⟩ (Nat.le_of_ble_eq_true rfl) hc hs ?_
  rintro rs S' V' ⟨z0, z1, r, e1, rfl, q⟩
  simp only [List.cons.injEq, Prod.mk.injEq, and_true, true_and] at e1
  obtain ⟨rfl, rfl⟩ := e1
  exact j_pick [] rfl (k r S' V' q)
theorem t13_45_61 {C : qCx} {G : jG} {S : jS} {V : jH} {nc ns : Nat} {s0 : Int} {mc ms : Nat} {qf : Int → jS → jH → Prop} (h : x13_45 C G)  (R : j_Ri n_KT 5 C G b_13_45 mc ms qf) (q : qf s0 S V) (hc : nc ≤ mc) (hs : ns ≤ ms) : j_ok n_KT 5 C G 61 [] [(0, s0)] S V nc ns := by
  have E := n_E h
  exact R _ _ _ _ _ _ _ d13_45_61 q hc hs
theorem t13_45_62 {C : qCx} {G : jG} {S : jS} {V : jH} {nc ns : Nat} {l0 l1 l3 : Int} (h : x13_45 C G) (c1 : -2147483648 ≤ l3 - 1 ∧ l3 - 1 ≤ 2147483647) (k : j_ok n_KT 5 C G 67 [(0, (2, l0)), (1, (1, l1)), (3, (0, l3)), (4, (0, l3 - 1))] [] S V nc ns) : j_ok n_KT 5 C G 62 [(0, (2, l0)), (1, (1, l1)), (3, (0, l3))] [] S V nc ns := by
  have E := n_E h
  refine j_iload_n E d13_45_62 rfl 2 rfl ?_
  refine j_iconst E d13_45_63 (by decide) ?_
  refine j_isub E d13_45_64 c1 ?_
  refine j_istore E d13_45_65 (by decide) (lo1 := [(0, (2, l0)), (1, (1, l1)), (3, (0, l3))]) rfl ?_
  exact j_pick [1, 2, 3, 0] rfl k
theorem t13_45_67 {C : qCx} {G : jG} {S : jS} {V : jH} {nc ns : Nat} {l0 l1 l3 l4 : Int} (h : x13_45 C G)  (k : l4 < 0 → j_ok n_KT 5 C G 112 [(0, (2, l0)), (3, (0, l3))] [] S V nc ns) (k' : 0 ≤ l4 → j_ok n_KT 5 C G 72 [(0, (2, l0)), (1, (1, l1)), (3, (0, l3)), (4, (0, l4))] [] S V nc ns) : j_ok n_KT 5 C G 67 [(0, (2, l0)), (1, (1, l1)), (3, (0, l3)), (4, (0, l4))] [] S V nc ns := by
  have E := n_E h
  refine j_iload E d13_45_67 3 rfl ?_
  exact j_if_lt E d13_45_69 (t := 112) rfl (fun q => j_pick [0, 2] rfl (k q)) (fun q => j_pick [0, 1, 2, 3] rfl (k' q))
theorem t13_45_72 {C : qCx} {G : jG} {S : jS} {V : jH} {nc ns : Nat} {l0 l1 l3 l4 : Int} (h : x13_45 C G) (L : j_L S) (c1 : S.1 l0 = 33) (c2 : -2147483648 ≤ (V (l0 + 1) 7) + l3 ∧ (V (l0 + 1) 7) + l3 ≤ 2147483647) (c3 : -2147483648 ≤ ((V (l0 + 1) 7) + l3) - 1 ∧ ((V (l0 + 1) 7) + l3) - 1 ≤ 2147483647) (c4 : -2147483648 ≤ (((V (l0 + 1) 7) + l3) - 1) - l4 ∧ (((V (l0 + 1) 7) + l3) - 1) - l4 ≤ 2147483647) (c5 : -2147483648 ≤ 8 * l4 ∧ 8 * l4 ≤ 2147483647) (c6 : 0 ≤ 8 * l4) (c7 : 8 * l4 ≤ 63) (c8 : 0 ≤ (((V (l0 + 1) 7) + l3) - 1) - l4) (c9 : (((V (l0 + 1) 7) + l3) - 1) - l4 < 4400) (c10 : -2147483648 ≤ l4 + (-1) ∧ l4 + (-1) ≤ 2147483647) (k : j_ok n_KT 5 C G 67 [(0, (2, l0)), (1, (1, l1)), (3, (0, l3)), (4, (0, l4 + (-1)))] [] S (j_up V (l0 + 8) ((((V (l0 + 1) 7) + l3) - 1) - l4) (j_w32 ((l1 / 2 ^ (8 * l4).toNat) % 256))) nc ns) : j_ok n_KT 5 C G 72 [(0, (2, l0)), (1, (1, l1)), (3, (0, l3)), (4, (0, l4))] [] S V nc ns := by
  have E := n_E h
  refine j_aload_n E d13_45_72 rfl 0 rfl ?_
  refine j_getS (f := 0) (x := l0 + 1) (fg12_10 h) d13_45_73 c1 (by decide) rfl rfl ((L12_0 L c1).trans (by omega)) ?_
  refine j_getS (f := 8) (x := l0 + 8) (fg12_197 h) d13_45_76 (show S.1 (l0 + 1) = 32 from (by have q := L12_0k L c1; rw [show l0 + 1 = l0 + 1 by omega]; exact q)) (by decide) rfl rfl ((L11_8 L (show S.1 (l0 + 1) = 32 from (by have q := L12_0k L c1; rw [show l0 + 1 = l0 + 1 by omega]; exact q))).trans (by omega)) ?_
  refine j_aload_n E d13_45_79 rfl 0 rfl ?_
  refine j_getS (f := 0) (x := l0 + 1) (fg12_10 h) d13_45_80 c1 (by decide) rfl rfl ((L12_0 L c1).trans (by omega)) ?_
  refine j_getI (f := 7) (fg12_194 h) d13_45_83 (show S.1 (l0 + 1) = 32 from (by have q := L12_0k L c1; rw [show l0 + 1 = l0 + 1 by omega]; exact q)) (by decide) rfl rfl ?_
  refine j_iload_n E d13_45_86 rfl 2 rfl ?_
  refine j_iadd E d13_45_87 c2 ?_
  refine j_iconst E d13_45_88 (by decide) ?_
  refine j_isub E d13_45_89 c3 ?_
  refine j_iload E d13_45_90 3 rfl ?_
  refine j_isub E d13_45_92 c4 ?_
  refine j_lload_n E d13_45_93 rfl 1 rfl ?_
  refine j_bipush E d13_45_94 (by decide) ?_
  refine j_iload E d13_45_96 3 rfl ?_
  refine j_imul E d13_45_98 c5 ?_
  refine j_lshr E d13_45_99 c6 c7 ?_
  refine j_ldc2 (n := 255) (fl12_92 h) rfl d13_45_100 ?_
  refine j_land8 E d13_45_103 rfl ?_
  refine j_l2i E d13_45_104 ?_
  refine j_iast E d13_45_105 (j_arr_of (show S.1 (l0 + 8) = 6 from (by have q := L11_8k L (show S.1 (l0 + 1) = 32 from (by have q := L12_0k L c1; rw [show l0 + 1 = l0 + 1 by omega]; exact q)); rw [show l0 + 8 = (l0 + 1) + 7 by omega]; exact q)) (by decide) rfl) c8 c9 ?_
  refine j_iinc E d13_45_106 (by decide) (by decide) 3 rfl (lo1 := [(0, (2, l0)), (1, (1, l1)), (3, (0, l3))]) rfl c10 ?_
  refine j_goto E d13_45_109 (t := 67) rfl ?_
  exact j_pick [1, 2, 3, 0] rfl k
theorem t13_45_112 {C : qCx} {G : jG} {S : jS} {V : jH} {nc ns : Nat} {l0 l3 : Int} {mc ms : Nat} {pp : Int → jS → jH → Prop} {qq : Int → jS → jH → jS → jH → Prop} (h : x13_45 C G) (L : j_L S) (hrm : C.2.2.2.1.frames = 2 ∧ C.2.2.2.1.locals = 51) (c1 : S.1 l0 = 33) (c2 : -2147483648 ≤ (V (l0 + 1) 7) + l3 ∧ (V (l0 + 1) 7) + l3 ≤ 2147483647) (hM : M13_43 C.2.1 mc ms pp qq) (hp : pp l0 S (j_up V (l0 + 1) 7 ((V (l0 + 1) 7) + l3))) (hc : nc + mc ≤ C.2.2.2.1.cells) (hs : ns + ms ≤ C.2.2.2.1.slots) (k : ∀ (S' : jS) (V' : jH), qq l0 S (j_up V (l0 + 1) 7 ((V (l0 + 1) 7) + l3)) S' V' → j_ok n_KT 5 C G 129 [(0, (2, l0))] [] S' V' (nc + mc) (ns + ms)) : j_ok n_KT 5 C G 112 [(0, (2, l0)), (3, (0, l3))] [] S V nc ns := by
  have E := n_E h
  refine j_aload_n E d13_45_112 rfl 0 rfl ?_
  refine j_getS (f := 0) (x := l0 + 1) (fg12_10 h) d13_45_113 c1 (by decide) rfl rfl ((L12_0 L c1).trans (by omega)) ?_
  refine j_dup E d13_45_116 rfl ?_
  refine j_getI (f := 7) (fg12_194 h) d13_45_117 (show S.1 (l0 + 1) = 32 from (by have q := L12_0k L c1; rw [show l0 + 1 = l0 + 1 by omega]; exact q)) (by decide) rfl rfl ?_
  refine j_iload_n E d13_45_120 rfl 1 rfl ?_
  refine j_iadd E d13_45_121 c2 ?_
  refine j_putI (f := 7) (fp12_194 h) (n_hap h 32 11 0 _ rfl) d13_45_122 (show S.1 (l0 + 1) = 32 from (by have q := L12_0k L c1; rw [show l0 + 1 = l0 + 1 by omega]; exact q)) (by decide) rfl rfl rfl ?_
  refine j_aload_n E d13_45_125 rfl 0 rfl ?_
  refine j_call E (K13_45_126 h hrm hM) d13_45_126 (a := [(2, l0)]) (sk := []) rfl ⟨l0, rfl, c1, hp⟩ (Nat.le_of_ble_eq_true rfl) hc hs ?_
  rintro rs S' V' ⟨z0, e1, rfl, q⟩
  simp only [List.cons.injEq, Prod.mk.injEq, and_true, true_and] at e1
  obtain ⟨rfl⟩ := e1
  exact j_pick [0] rfl (k S' V' q)
theorem t13_45_129 {C : qCx} {G : jG} {S : jS} {V : jH} {nc ns : Nat} {l0 : Int} {mc ms : Nat} {qf : Int → jS → jH → Prop} (h : x13_45 C G) (L : j_L S) (c1 : S.1 l0 = 33) (R : j_Ri n_KT 5 C G b_13_45 mc ms qf) (q : qf (V (l0 + 1) 7) S V) (hc : nc ≤ mc) (hs : ns ≤ ms) : j_ok n_KT 5 C G 129 [(0, (2, l0))] [] S V nc ns := by
  have E := n_E h
  refine j_aload_n E d13_45_129 rfl 0 rfl ?_
  refine j_getS (f := 0) (x := l0 + 1) (fg12_10 h) d13_45_130 c1 (by decide) rfl rfl ((L12_0 L c1).trans (by omega)) ?_
  refine j_getI (f := 7) (fg12_194 h) d13_45_133 (show S.1 (l0 + 1) = 32 from (by have q := L12_0k L c1; rw [show l0 + 1 = l0 + 1 by omega]; exact q)) (by decide) rfl rfl ?_
  exact R _ _ _ _ _ _ _ d13_45_136 q hc hs
