def mRe_init : MR := (⟨"BowingRowModel", "<init>", "()V"⟩, prog_14_method_1_code, 1, none)
theorem oRe_init : MOK mRe_init 0 := ⟨lwg_of 1279 (by decide +kernel) (by decide +kernel), lwg_of 103 (by decide +kernel) (by decide +kernel), ⟨by decide +kernel, by decide +kernel⟩, by decide +kernel, by decide⟩
theorem iRe_init : Cond.instanceMethod mRe_init.1 ∈ lwg := lwg_of 1278 (by decide +kernel) (by decide +kernel)
theorem dRe_init_0 : decode mRe_init.2.1 0 = .ok (.aload_n 0, 1) := by decide +kernel
theorem dRe_init_1 : decode mRe_init.2.1 1 = .ok (.invokespecial 1, 3) := by decide +kernel
theorem dRe_init_4 : decode mRe_init.2.1 4 = .ok (.aload_n 0, 1) := by decide +kernel
theorem dRe_init_5 : decode mRe_init.2.1 5 = .ok (.iconst (-1), 1) := by decide +kernel
theorem dRe_init_6 : decode mRe_init.2.1 6 = .ok (.putfield 9, 3) := by decide +kernel
theorem dRe_init_9 : decode mRe_init.2.1 9 = .ok (.aload_n 0, 1) := by decide +kernel
theorem dRe_init_10 : decode mRe_init.2.1 10 = .ok (.sipush 500, 3) := by decide +kernel
theorem dRe_init_13 : decode mRe_init.2.1 13 = .ok (.newarray .int, 2) := by decide +kernel
theorem dRe_init_15 : decode mRe_init.2.1 15 = .ok (.putfield 13, 3) := by decide +kernel
theorem dRe_init_18 : decode mRe_init.2.1 18 = .ok (.aload_n 0, 1) := by decide +kernel
theorem dRe_init_19 : decode mRe_init.2.1 19 = .ok (.bipush 8, 2) := by decide +kernel
theorem dRe_init_21 : decode mRe_init.2.1 21 = .ok (.bipush 8, 2) := by decide +kernel
theorem dRe_init_23 : decode mRe_init.2.1 23 = .ok (.multianewarray 17 2, 4) := by decide +kernel
theorem dRe_init_27 : decode mRe_init.2.1 27 = .ok (.putfield 19, 3) := by decide +kernel
theorem dRe_init_30 : decode mRe_init.2.1 30 = .ok (.aload_n 0, 1) := by decide +kernel
theorem dRe_init_31 : decode mRe_init.2.1 31 = .ok (.bipush 8, 2) := by decide +kernel
theorem dRe_init_33 : decode mRe_init.2.1 33 = .ok (.bipush 8, 2) := by decide +kernel
theorem dRe_init_35 : decode mRe_init.2.1 35 = .ok (.multianewarray 17 2, 4) := by decide +kernel
theorem dRe_init_39 : decode mRe_init.2.1 39 = .ok (.putfield 22, 3) := by decide +kernel
theorem dRe_init_42 : decode mRe_init.2.1 42 = .ok (.aload_n 0, 1) := by decide +kernel
theorem dRe_init_43 : decode mRe_init.2.1 43 = .ok (.bipush 10, 2) := by decide +kernel
theorem dRe_init_45 : decode mRe_init.2.1 45 = .ok (.newarray .int, 2) := by decide +kernel
theorem dRe_init_47 : decode mRe_init.2.1 47 = .ok (.putfield 25, 3) := by decide +kernel
theorem dRe_init_50 : decode mRe_init.2.1 50 = .ok (.aload_n 0, 1) := by decide +kernel
theorem dRe_init_51 : decode mRe_init.2.1 51 = .ok (.bipush 10, 2) := by decide +kernel
theorem dRe_init_53 : decode mRe_init.2.1 53 = .ok (.newarray .int, 2) := by decide +kernel
theorem dRe_init_55 : decode mRe_init.2.1 55 = .ok (.putfield 28, 3) := by decide +kernel
theorem dRe_init_58 : decode mRe_init.2.1 58 = .ok (.aload_n 0, 1) := by decide +kernel
theorem dRe_init_59 : decode mRe_init.2.1 59 = .ok (.bipush 10, 2) := by decide +kernel
theorem dRe_init_61 : decode mRe_init.2.1 61 = .ok (.newarray .int, 2) := by decide +kernel
theorem dRe_init_63 : decode mRe_init.2.1 63 = .ok (.putfield 31, 3) := by decide +kernel
theorem dRe_init_66 : decode mRe_init.2.1 66 = .ok (.aload_n 0, 1) := by decide +kernel
theorem dRe_init_67 : decode mRe_init.2.1 67 = .ok (.bipush 10, 2) := by decide +kernel
theorem dRe_init_69 : decode mRe_init.2.1 69 = .ok (.newarray .int, 2) := by decide +kernel
theorem dRe_init_71 : decode mRe_init.2.1 71 = .ok (.putfield 34, 3) := by decide +kernel
theorem dRe_init_74 : decode mRe_init.2.1 74 = .ok (.aload_n 0, 1) := by decide +kernel
theorem dRe_init_75 : decode mRe_init.2.1 75 = .ok (.bipush 10, 2) := by decide +kernel
theorem dRe_init_77 : decode mRe_init.2.1 77 = .ok (.newarray .int, 2) := by decide +kernel
theorem dRe_init_79 : decode mRe_init.2.1 79 = .ok (.putfield 37, 3) := by decide +kernel
theorem dRe_init_82 : decode mRe_init.2.1 82 = .ok (.aload_n 0, 1) := by decide +kernel
theorem dRe_init_83 : decode mRe_init.2.1 83 = .ok (.bipush 10, 2) := by decide +kernel
theorem dRe_init_85 : decode mRe_init.2.1 85 = .ok (.newarray .int, 2) := by decide +kernel
theorem dRe_init_87 : decode mRe_init.2.1 87 = .ok (.putfield 40, 3) := by decide +kernel
theorem dRe_init_90 : decode mRe_init.2.1 90 = .ok (.aload_n 0, 1) := by decide +kernel
theorem dRe_init_91 : decode mRe_init.2.1 91 = .ok (.bipush 10, 2) := by decide +kernel
theorem dRe_init_93 : decode mRe_init.2.1 93 = .ok (.sipush 800, 3) := by decide +kernel
theorem dRe_init_96 : decode mRe_init.2.1 96 = .ok (.multianewarray 17 2, 4) := by decide +kernel
theorem dRe_init_100 : decode mRe_init.2.1 100 = .ok (.putfield 43, 3) := by decide +kernel
theorem dRe_init_103 : decode mRe_init.2.1 103 = .ok (.aload_n 0, 1) := by decide +kernel
theorem dRe_init_104 : decode mRe_init.2.1 104 = .ok (.bipush 10, 2) := by decide +kernel
theorem dRe_init_106 : decode mRe_init.2.1 106 = .ok (.sipush 800, 3) := by decide +kernel
theorem dRe_init_109 : decode mRe_init.2.1 109 = .ok (.multianewarray 17 2, 4) := by decide +kernel
theorem dRe_init_113 : decode mRe_init.2.1 113 = .ok (.putfield 46, 3) := by decide +kernel
theorem dRe_init_116 : decode mRe_init.2.1 116 = .ok (.aload_n 0, 1) := by decide +kernel
theorem dRe_init_117 : decode mRe_init.2.1 117 = .ok (.sipush 800, 3) := by decide +kernel
theorem dRe_init_120 : decode mRe_init.2.1 120 = .ok (.newarray .int, 2) := by decide +kernel
theorem dRe_init_122 : decode mRe_init.2.1 122 = .ok (.putfield 49, 3) := by decide +kernel
theorem dRe_init_125 : decode mRe_init.2.1 125 = .ok (.aload_n 0, 1) := by decide +kernel
theorem dRe_init_126 : decode mRe_init.2.1 126 = .ok (.bipush 7, 2) := by decide +kernel
theorem dRe_init_128 : decode mRe_init.2.1 128 = .ok (.newarray .int, 2) := by decide +kernel
theorem dRe_init_130 : decode mRe_init.2.1 130 = .ok (.putfield 52, 3) := by decide +kernel
theorem dRe_init_133 : decode mRe_init.2.1 133 = .ok (.aload_n 0, 1) := by decide +kernel
theorem dRe_init_134 : decode mRe_init.2.1 134 = .ok (.bipush 8, 2) := by decide +kernel
theorem dRe_init_136 : decode mRe_init.2.1 136 = .ok (.newarray .int, 2) := by decide +kernel
theorem dRe_init_138 : decode mRe_init.2.1 138 = .ok (.putfield 55, 3) := by decide +kernel
theorem dRe_init_141 : decode mRe_init.2.1 141 = .ok (.aload_n 0, 1) := by decide +kernel
theorem dRe_init_142 : decode mRe_init.2.1 142 = .ok (.iconst 3, 1) := by decide +kernel
theorem dRe_init_143 : decode mRe_init.2.1 143 = .ok (.bipush 32, 2) := by decide +kernel
theorem dRe_init_145 : decode mRe_init.2.1 145 = .ok (.multianewarray 17 2, 4) := by decide +kernel
theorem dRe_init_149 : decode mRe_init.2.1 149 = .ok (.putfield 58, 3) := by decide +kernel
theorem dRe_init_152 : decode mRe_init.2.1 152 = .ok (.aload_n 0, 1) := by decide +kernel
theorem dRe_init_153 : decode mRe_init.2.1 153 = .ok (.bipush 8, 2) := by decide +kernel
theorem dRe_init_155 : decode mRe_init.2.1 155 = .ok (.newarray .int, 2) := by decide +kernel
theorem dRe_init_157 : decode mRe_init.2.1 157 = .ok (.putfield 61, 3) := by decide +kernel
theorem dRe_init_160 : decode mRe_init.2.1 160 = .ok (.aload_n 0, 1) := by decide +kernel
theorem dRe_init_161 : decode mRe_init.2.1 161 = .ok (.bipush 8, 2) := by decide +kernel
theorem dRe_init_163 : decode mRe_init.2.1 163 = .ok (.newarray .int, 2) := by decide +kernel
theorem dRe_init_165 : decode mRe_init.2.1 165 = .ok (.putfield 64, 3) := by decide +kernel
theorem dRe_init_168 : decode mRe_init.2.1 168 = .ok (.aload_n 0, 1) := by decide +kernel
theorem dRe_init_169 : decode mRe_init.2.1 169 = .ok (.iconst (-1), 1) := by decide +kernel
theorem dRe_init_170 : decode mRe_init.2.1 170 = .ok (.putfield 67, 3) := by decide +kernel
theorem dRe_init_173 : decode mRe_init.2.1 173 = .ok (.aload_n 0, 1) := by decide +kernel
theorem dRe_init_174 : decode mRe_init.2.1 174 = .ok (.iconst (-1), 1) := by decide +kernel
theorem dRe_init_175 : decode mRe_init.2.1 175 = .ok (.putfield 70, 3) := by decide +kernel
theorem dRe_init_178 : decode mRe_init.2.1 178 = .ok (.aload_n 0, 1) := by decide +kernel
theorem dRe_init_179 : decode mRe_init.2.1 179 = .ok (.bipush 9, 2) := by decide +kernel
theorem dRe_init_181 : decode mRe_init.2.1 181 = .ok (.newarray .int, 2) := by decide +kernel
theorem dRe_init_183 : decode mRe_init.2.1 183 = .ok (.putfield 73, 3) := by decide +kernel
theorem dRe_init_186 : decode mRe_init.2.1 186 = .ok (.aload_n 0, 1) := by decide +kernel
theorem dRe_init_187 : decode mRe_init.2.1 187 = .ok (.bipush 9, 2) := by decide +kernel
theorem dRe_init_189 : decode mRe_init.2.1 189 = .ok (.newarray .int, 2) := by decide +kernel
theorem dRe_init_191 : decode mRe_init.2.1 191 = .ok (.putfield 76, 3) := by decide +kernel
theorem dRe_init_194 : decode mRe_init.2.1 194 = .ok (.aload_n 0, 1) := by decide +kernel
theorem dRe_init_195 : decode mRe_init.2.1 195 = .ok (.bipush 9, 2) := by decide +kernel
theorem dRe_init_197 : decode mRe_init.2.1 197 = .ok (.newarray .int, 2) := by decide +kernel
theorem dRe_init_199 : decode mRe_init.2.1 199 = .ok (.putfield 79, 3) := by decide +kernel
theorem dRe_init_202 : decode mRe_init.2.1 202 = .ok (.aload_n 0, 1) := by decide +kernel
theorem dRe_init_203 : decode mRe_init.2.1 203 = .ok (.bipush 9, 2) := by decide +kernel
theorem dRe_init_205 : decode mRe_init.2.1 205 = .ok (.newarray .int, 2) := by decide +kernel
theorem dRe_init_207 : decode mRe_init.2.1 207 = .ok (.putfield 82, 3) := by decide +kernel
theorem dRe_init_210 : decode mRe_init.2.1 210 = .ok (.aload_n 0, 1) := by decide +kernel
theorem dRe_init_211 : decode mRe_init.2.1 211 = .ok (.bipush 9, 2) := by decide +kernel
theorem dRe_init_213 : decode mRe_init.2.1 213 = .ok (.newarray .int, 2) := by decide +kernel
theorem dRe_init_215 : decode mRe_init.2.1 215 = .ok (.putfield 85, 3) := by decide +kernel
theorem dRe_init_218 : decode mRe_init.2.1 218 = .ok (.aload_n 0, 1) := by decide +kernel
theorem dRe_init_219 : decode mRe_init.2.1 219 = .ok (.bipush 9, 2) := by decide +kernel
theorem dRe_init_221 : decode mRe_init.2.1 221 = .ok (.newarray .int, 2) := by decide +kernel
theorem dRe_init_223 : decode mRe_init.2.1 223 = .ok (.putfield 88, 3) := by decide +kernel
theorem dRe_init_226 : decode mRe_init.2.1 226 = .ok (.aload_n 0, 1) := by decide +kernel
theorem dRe_init_227 : decode mRe_init.2.1 227 = .ok (.bipush 8, 2) := by decide +kernel
theorem dRe_init_229 : decode mRe_init.2.1 229 = .ok (.newarray .int, 2) := by decide +kernel
theorem dRe_init_231 : decode mRe_init.2.1 231 = .ok (.putfield 91, 3) := by decide +kernel
theorem dRe_init_234 : decode mRe_init.2.1 234 = .ok (.aload_n 0, 1) := by decide +kernel
theorem dRe_init_235 : decode mRe_init.2.1 235 = .ok (.bipush 9, 2) := by decide +kernel
theorem dRe_init_237 : decode mRe_init.2.1 237 = .ok (.bipush 100, 2) := by decide +kernel
theorem dRe_init_239 : decode mRe_init.2.1 239 = .ok (.multianewarray 17 2, 4) := by decide +kernel
theorem dRe_init_243 : decode mRe_init.2.1 243 = .ok (.putfield 94, 3) := by decide +kernel
theorem dRe_init_246 : decode mRe_init.2.1 246 = .ok (.aload_n 0, 1) := by decide +kernel
theorem dRe_init_247 : decode mRe_init.2.1 247 = .ok (.bipush 64, 2) := by decide +kernel
theorem dRe_init_249 : decode mRe_init.2.1 249 = .ok (.iconst 4, 1) := by decide +kernel
theorem dRe_init_250 : decode mRe_init.2.1 250 = .ok (.multianewarray 17 2, 4) := by decide +kernel
theorem dRe_init_254 : decode mRe_init.2.1 254 = .ok (.putfield 97, 3) := by decide +kernel
theorem dRe_init_257 : decode mRe_init.2.1 257 = .ok (.aload_n 0, 1) := by decide +kernel
theorem dRe_init_258 : decode mRe_init.2.1 258 = .ok (.bipush 8, 2) := by decide +kernel
theorem dRe_init_260 : decode mRe_init.2.1 260 = .ok (.newarray .int, 2) := by decide +kernel
theorem dRe_init_262 : decode mRe_init.2.1 262 = .ok (.putfield 100, 3) := by decide +kernel
theorem dRe_init_265 : decode mRe_init.2.1 265 = .ok (.aload_n 0, 1) := by decide +kernel
theorem dRe_init_266 : decode mRe_init.2.1 266 = .ok (.bipush 8, 2) := by decide +kernel
theorem dRe_init_268 : decode mRe_init.2.1 268 = .ok (.newarray .int, 2) := by decide +kernel
theorem dRe_init_270 : decode mRe_init.2.1 270 = .ok (.putfield 103, 3) := by decide +kernel
theorem dRe_init_273 : decode mRe_init.2.1 273 = .ok (.aload_n 0, 1) := by decide +kernel
theorem dRe_init_274 : decode mRe_init.2.1 274 = .ok (.bipush 8, 2) := by decide +kernel
theorem dRe_init_276 : decode mRe_init.2.1 276 = .ok (.newarray .int, 2) := by decide +kernel
theorem dRe_init_278 : decode mRe_init.2.1 278 = .ok (.putfield 106, 3) := by decide +kernel
theorem dRe_init_281 : decode mRe_init.2.1 281 = .ok (.aload_n 0, 1) := by decide +kernel
theorem dRe_init_282 : decode mRe_init.2.1 282 = .ok (.bipush 8, 2) := by decide +kernel
theorem dRe_init_284 : decode mRe_init.2.1 284 = .ok (.bipush 8, 2) := by decide +kernel
theorem dRe_init_286 : decode mRe_init.2.1 286 = .ok (.multianewarray 17 2, 4) := by decide +kernel
theorem dRe_init_290 : decode mRe_init.2.1 290 = .ok (.putfield 109, 3) := by decide +kernel
theorem dRe_init_293 : decode mRe_init.2.1 293 = .ok (.aload_n 0, 1) := by decide +kernel
theorem dRe_init_294 : decode mRe_init.2.1 294 = .ok (.sipush 3125, 3) := by decide +kernel
theorem dRe_init_297 : decode mRe_init.2.1 297 = .ok (.iconst 5, 1) := by decide +kernel
theorem dRe_init_298 : decode mRe_init.2.1 298 = .ok (.multianewarray 17 2, 4) := by decide +kernel
theorem dRe_init_302 : decode mRe_init.2.1 302 = .ok (.putfield 112, 3) := by decide +kernel
theorem dRe_init_305 : decode mRe_init.2.1 305 = .ok (.return_, 1) := by decide +kernel
theorem w1280 : Cond.methodLink "BowingRowModel" 1 ⟨"java/lang/Object", "<init>", "()V"⟩ ∈ lwg := lwg_of 1280 (by decide +kernel) (by decide +kernel)
theorem fRe_9 : FOK "BowingRowModel" 9 11 3 false := ⟨RX12, TX12, nFd 11, rfl, by decide, rfl, by decide, rfl, lwg_of 1286 (by decide +kernel) (by decide +kernel)⟩
theorem bRe_init_0 {l : Launch} {G : Gx} {d : Nat} {bc bs : Nat} {Φ : OutV → Mm → Prop} (M : Mm) (a0 : Nat)
    (h : (a0 ≠ 0 ∧ 1 ≤ d) ∧ ((m_sh M a0).1 = 11) ∧ Ev l G d mRe_init 9 [.ref a0] [] (m_si M a0 3 ((-1))) bc bs Φ) :
    Ev l G d mRe_init 0 [.ref a0] [] M bc bs Φ := by
  refine Ev.aload_n dRe_init_0 rfl ?_
  have g1 := h.1
  replace h := h.2
  refine Ev.objInit dRe_init_1 w1280 w_oi w_oc (Nat.le_of_ble_eq_true rfl) g1.2 g1.1 ?_
  refine Ev.aload_n dRe_init_4 rfl ?_
  refine Ev.iconst (v := (-1)) dRe_init_5 (by decide) ?_
  have g2 := h.1
  replace h := h.2
  refine Ev.putI dRe_init_6 ⟨_, Or.inl ⟨fRe_9, (fun h => by cases h)⟩⟩ rfl ⟨rfl, rfl⟩ g2 ?_
  exact h
theorem fRe_13 : FOK "BowingRowModel" 13 11 9 true := ⟨RX12, TX12, nFd 11, rfl, by decide, rfl, by decide, rfl, lwg_of 1292 (by decide +kernel) (by decide +kernel)⟩
theorem bRe_init_9 {l : Launch} {G : Gx} {d : Nat} {bc bs : Nat} {Φ : OutV → Mm → Prop} (M : Mm) (a0 : Nat)
    (h : (1 ≤ bc ∧ 500 ≤ bs) ∧ ((m_sh (m_al M (20, 500)) a0).1 = 11) ∧ Ev l G d mRe_init 18 [.ref a0] [] (m_sr (m_al M (20, 500)) a0 9 (m_nx M)) (bc - 1) (bs - 500) Φ) :
    Ev l G d mRe_init 9 [.ref a0] [] M bc bs Φ := by
  refine Ev.aload_n dRe_init_9 rfl ?_
  refine Ev.sipush (v := 500) dRe_init_10 (by decide) ?_
  have g1 := h.1
  replace h := h.2
  refine Ev.newI2 500 dRe_init_13 w164 (by decide) (by decide) (by decide) g1 ?_
  have g2 := h.1
  replace h := h.2
  refine Ev.putR dRe_init_15 ⟨_, Or.inl ⟨fRe_13, (fun _ => ⟨rfl, fun r hr => by cases hr; rfl⟩)⟩⟩ rfl (fun ad => fitR (by first | exact Or.inl ⟨_, rfl⟩ | exact Or.inr ⟨_, rfl⟩) _ ad) g2 ?_
  exact h
theorem w1281 : Cond.classLink "BowingRowModel" 17 "[[I" ∈ lwg := lwg_of 1281 (by decide +kernel) (by decide +kernel)
theorem w1282 : Cond.arrayOver (.array .int) ∈ lwx := lwx_of 1282 (by decide +kernel) (by decide +kernel)
theorem fRe_19 : FOK "BowingRowModel" 19 11 12 true := ⟨RX12, TX12, nFd 11, rfl, by decide, rfl, by decide, rfl, lwg_of 1295 (by decide +kernel) (by decide +kernel)⟩
theorem bRe_init_18 {l : Launch} {G : Gx} {d : Nat} {bc bs : Nat} {Φ : OutV → Mm → Prop} (M : Mm) (a0 : Nat)
    (h : (1 + 8 ≤ bc ∧ 8 + 8 * 8 ≤ bs) ∧ ((m_sh (m_mal M 8 8) a0).1 = 11) ∧ Ev l G d mRe_init 30 [.ref a0] [] (m_sr (m_mal M 8 8) a0 12 (m_nx M)) (bc - (1 + 8)) (bs - (8 + 8 * 8)) Φ) :
    Ev l G d mRe_init 18 [.ref a0] [] M bc bs Φ := by
  refine Ev.aload_n dRe_init_18 rfl ?_
  refine Ev.bipush (v := 8) dRe_init_19 (by decide) ?_
  refine Ev.bipush (v := 8) dRe_init_21 (by decide) ?_
  have g1 := h.1
  replace h := h.2
  refine Ev.mna2 8 8 dRe_init_23 w1281 w1282 w164 (by decide) (by decide) (by decide) (by decide) (by decide) (by decide) g1 ?_
  have g2 := h.1
  replace h := h.2
  refine Ev.putR dRe_init_27 ⟨_, Or.inl ⟨fRe_19, (fun _ => ⟨rfl, fun r hr => by cases hr; rfl⟩)⟩⟩ rfl (fun ad => fitR (by first | exact Or.inl ⟨_, rfl⟩ | exact Or.inr ⟨_, rfl⟩) _ ad) g2 ?_
  exact h
theorem fRe_22 : FOK "BowingRowModel" 22 11 13 true := ⟨RX12, TX12, nFd 11, rfl, by decide, rfl, by decide, rfl, lwg_of 1296 (by decide +kernel) (by decide +kernel)⟩
theorem bRe_init_30 {l : Launch} {G : Gx} {d : Nat} {bc bs : Nat} {Φ : OutV → Mm → Prop} (M : Mm) (a0 : Nat)
    (h : (1 + 8 ≤ bc ∧ 8 + 8 * 8 ≤ bs) ∧ ((m_sh (m_mal M 8 8) a0).1 = 11) ∧ Ev l G d mRe_init 42 [.ref a0] [] (m_sr (m_mal M 8 8) a0 13 (m_nx M)) (bc - (1 + 8)) (bs - (8 + 8 * 8)) Φ) :
    Ev l G d mRe_init 30 [.ref a0] [] M bc bs Φ := by
  refine Ev.aload_n dRe_init_30 rfl ?_
  refine Ev.bipush (v := 8) dRe_init_31 (by decide) ?_
  refine Ev.bipush (v := 8) dRe_init_33 (by decide) ?_
  have g1 := h.1
  replace h := h.2
  refine Ev.mna2 8 8 dRe_init_35 w1281 w1282 w164 (by decide) (by decide) (by decide) (by decide) (by decide) (by decide) g1 ?_
  have g2 := h.1
  replace h := h.2
  refine Ev.putR dRe_init_39 ⟨_, Or.inl ⟨fRe_22, (fun _ => ⟨rfl, fun r hr => by cases hr; rfl⟩)⟩⟩ rfl (fun ad => fitR (by first | exact Or.inl ⟨_, rfl⟩ | exact Or.inr ⟨_, rfl⟩) _ ad) g2 ?_
  exact h
theorem fRe_25 : FOK "BowingRowModel" 25 11 17 true := ⟨RX12, TX12, nFd 11, rfl, by decide, rfl, by decide, rfl, lwg_of 1300 (by decide +kernel) (by decide +kernel)⟩
theorem bRe_init_42 {l : Launch} {G : Gx} {d : Nat} {bc bs : Nat} {Φ : OutV → Mm → Prop} (M : Mm) (a0 : Nat)
    (h : (1 ≤ bc ∧ 10 ≤ bs) ∧ ((m_sh (m_al M (20, 10)) a0).1 = 11) ∧ Ev l G d mRe_init 50 [.ref a0] [] (m_sr (m_al M (20, 10)) a0 17 (m_nx M)) (bc - 1) (bs - 10) Φ) :
    Ev l G d mRe_init 42 [.ref a0] [] M bc bs Φ := by
  refine Ev.aload_n dRe_init_42 rfl ?_
  refine Ev.bipush (v := 10) dRe_init_43 (by decide) ?_
  have g1 := h.1
  replace h := h.2
  refine Ev.newI2 10 dRe_init_45 w164 (by decide) (by decide) (by decide) g1 ?_
  have g2 := h.1
  replace h := h.2
  refine Ev.putR dRe_init_47 ⟨_, Or.inl ⟨fRe_25, (fun _ => ⟨rfl, fun r hr => by cases hr; rfl⟩)⟩⟩ rfl (fun ad => fitR (by first | exact Or.inl ⟨_, rfl⟩ | exact Or.inr ⟨_, rfl⟩) _ ad) g2 ?_
  exact h
theorem fRe_28 : FOK "BowingRowModel" 28 11 18 true := ⟨RX12, TX12, nFd 11, rfl, by decide, rfl, by decide, rfl, lwg_of 1301 (by decide +kernel) (by decide +kernel)⟩
theorem bRe_init_50 {l : Launch} {G : Gx} {d : Nat} {bc bs : Nat} {Φ : OutV → Mm → Prop} (M : Mm) (a0 : Nat)
    (h : (1 ≤ bc ∧ 10 ≤ bs) ∧ ((m_sh (m_al M (20, 10)) a0).1 = 11) ∧ Ev l G d mRe_init 58 [.ref a0] [] (m_sr (m_al M (20, 10)) a0 18 (m_nx M)) (bc - 1) (bs - 10) Φ) :
    Ev l G d mRe_init 50 [.ref a0] [] M bc bs Φ := by
  refine Ev.aload_n dRe_init_50 rfl ?_
  refine Ev.bipush (v := 10) dRe_init_51 (by decide) ?_
  have g1 := h.1
  replace h := h.2
  refine Ev.newI2 10 dRe_init_53 w164 (by decide) (by decide) (by decide) g1 ?_
  have g2 := h.1
  replace h := h.2
  refine Ev.putR dRe_init_55 ⟨_, Or.inl ⟨fRe_28, (fun _ => ⟨rfl, fun r hr => by cases hr; rfl⟩)⟩⟩ rfl (fun ad => fitR (by first | exact Or.inl ⟨_, rfl⟩ | exact Or.inr ⟨_, rfl⟩) _ ad) g2 ?_
  exact h
theorem fRe_31 : FOK "BowingRowModel" 31 11 19 true := ⟨RX12, TX12, nFd 11, rfl, by decide, rfl, by decide, rfl, lwg_of 1302 (by decide +kernel) (by decide +kernel)⟩
theorem bRe_init_58 {l : Launch} {G : Gx} {d : Nat} {bc bs : Nat} {Φ : OutV → Mm → Prop} (M : Mm) (a0 : Nat)
    (h : (1 ≤ bc ∧ 10 ≤ bs) ∧ ((m_sh (m_al M (20, 10)) a0).1 = 11) ∧ Ev l G d mRe_init 66 [.ref a0] [] (m_sr (m_al M (20, 10)) a0 19 (m_nx M)) (bc - 1) (bs - 10) Φ) :
    Ev l G d mRe_init 58 [.ref a0] [] M bc bs Φ := by
  refine Ev.aload_n dRe_init_58 rfl ?_
  refine Ev.bipush (v := 10) dRe_init_59 (by decide) ?_
  have g1 := h.1
  replace h := h.2
  refine Ev.newI2 10 dRe_init_61 w164 (by decide) (by decide) (by decide) g1 ?_
  have g2 := h.1
  replace h := h.2
  refine Ev.putR dRe_init_63 ⟨_, Or.inl ⟨fRe_31, (fun _ => ⟨rfl, fun r hr => by cases hr; rfl⟩)⟩⟩ rfl (fun ad => fitR (by first | exact Or.inl ⟨_, rfl⟩ | exact Or.inr ⟨_, rfl⟩) _ ad) g2 ?_
  exact h
theorem fRe_34 : FOK "BowingRowModel" 34 11 20 true := ⟨RX12, TX12, nFd 11, rfl, by decide, rfl, by decide, rfl, lwg_of 1303 (by decide +kernel) (by decide +kernel)⟩
theorem bRe_init_66 {l : Launch} {G : Gx} {d : Nat} {bc bs : Nat} {Φ : OutV → Mm → Prop} (M : Mm) (a0 : Nat)
    (h : (1 ≤ bc ∧ 10 ≤ bs) ∧ ((m_sh (m_al M (20, 10)) a0).1 = 11) ∧ Ev l G d mRe_init 74 [.ref a0] [] (m_sr (m_al M (20, 10)) a0 20 (m_nx M)) (bc - 1) (bs - 10) Φ) :
    Ev l G d mRe_init 66 [.ref a0] [] M bc bs Φ := by
  refine Ev.aload_n dRe_init_66 rfl ?_
  refine Ev.bipush (v := 10) dRe_init_67 (by decide) ?_
  have g1 := h.1
  replace h := h.2
  refine Ev.newI2 10 dRe_init_69 w164 (by decide) (by decide) (by decide) g1 ?_
  have g2 := h.1
  replace h := h.2
  refine Ev.putR dRe_init_71 ⟨_, Or.inl ⟨fRe_34, (fun _ => ⟨rfl, fun r hr => by cases hr; rfl⟩)⟩⟩ rfl (fun ad => fitR (by first | exact Or.inl ⟨_, rfl⟩ | exact Or.inr ⟨_, rfl⟩) _ ad) g2 ?_
  exact h
theorem fRe_37 : FOK "BowingRowModel" 37 11 21 true := ⟨RX12, TX12, nFd 11, rfl, by decide, rfl, by decide, rfl, lwg_of 1304 (by decide +kernel) (by decide +kernel)⟩
theorem bRe_init_74 {l : Launch} {G : Gx} {d : Nat} {bc bs : Nat} {Φ : OutV → Mm → Prop} (M : Mm) (a0 : Nat)
    (h : (1 ≤ bc ∧ 10 ≤ bs) ∧ ((m_sh (m_al M (20, 10)) a0).1 = 11) ∧ Ev l G d mRe_init 82 [.ref a0] [] (m_sr (m_al M (20, 10)) a0 21 (m_nx M)) (bc - 1) (bs - 10) Φ) :
    Ev l G d mRe_init 74 [.ref a0] [] M bc bs Φ := by
  refine Ev.aload_n dRe_init_74 rfl ?_
  refine Ev.bipush (v := 10) dRe_init_75 (by decide) ?_
  have g1 := h.1
  replace h := h.2
  refine Ev.newI2 10 dRe_init_77 w164 (by decide) (by decide) (by decide) g1 ?_
  have g2 := h.1
  replace h := h.2
  refine Ev.putR dRe_init_79 ⟨_, Or.inl ⟨fRe_37, (fun _ => ⟨rfl, fun r hr => by cases hr; rfl⟩)⟩⟩ rfl (fun ad => fitR (by first | exact Or.inl ⟨_, rfl⟩ | exact Or.inr ⟨_, rfl⟩) _ ad) g2 ?_
  exact h
theorem fRe_40 : FOK "BowingRowModel" 40 11 22 true := ⟨RX12, TX12, nFd 11, rfl, by decide, rfl, by decide, rfl, lwg_of 1305 (by decide +kernel) (by decide +kernel)⟩
theorem bRe_init_82 {l : Launch} {G : Gx} {d : Nat} {bc bs : Nat} {Φ : OutV → Mm → Prop} (M : Mm) (a0 : Nat)
    (h : (1 ≤ bc ∧ 10 ≤ bs) ∧ ((m_sh (m_al M (20, 10)) a0).1 = 11) ∧ Ev l G d mRe_init 90 [.ref a0] [] (m_sr (m_al M (20, 10)) a0 22 (m_nx M)) (bc - 1) (bs - 10) Φ) :
    Ev l G d mRe_init 82 [.ref a0] [] M bc bs Φ := by
  refine Ev.aload_n dRe_init_82 rfl ?_
  refine Ev.bipush (v := 10) dRe_init_83 (by decide) ?_
  have g1 := h.1
  replace h := h.2
  refine Ev.newI2 10 dRe_init_85 w164 (by decide) (by decide) (by decide) g1 ?_
  have g2 := h.1
  replace h := h.2
  refine Ev.putR dRe_init_87 ⟨_, Or.inl ⟨fRe_40, (fun _ => ⟨rfl, fun r hr => by cases hr; rfl⟩)⟩⟩ rfl (fun ad => fitR (by first | exact Or.inl ⟨_, rfl⟩ | exact Or.inr ⟨_, rfl⟩) _ ad) g2 ?_
  exact h
theorem fRe_43 : FOK "BowingRowModel" 43 11 23 true := ⟨RX12, TX12, nFd 11, rfl, by decide, rfl, by decide, rfl, lwg_of 1306 (by decide +kernel) (by decide +kernel)⟩
theorem bRe_init_90 {l : Launch} {G : Gx} {d : Nat} {bc bs : Nat} {Φ : OutV → Mm → Prop} (M : Mm) (a0 : Nat)
    (h : (1 + 10 ≤ bc ∧ 10 + 10 * 800 ≤ bs) ∧ ((m_sh (m_mal M 10 800) a0).1 = 11) ∧ Ev l G d mRe_init 103 [.ref a0] [] (m_sr (m_mal M 10 800) a0 23 (m_nx M)) (bc - (1 + 10)) (bs - (10 + 10 * 800)) Φ) :
    Ev l G d mRe_init 90 [.ref a0] [] M bc bs Φ := by
  refine Ev.aload_n dRe_init_90 rfl ?_
  refine Ev.bipush (v := 10) dRe_init_91 (by decide) ?_
  refine Ev.sipush (v := 800) dRe_init_93 (by decide) ?_
  have g1 := h.1
  replace h := h.2
  refine Ev.mna2 10 800 dRe_init_96 w1281 w1282 w164 (by decide) (by decide) (by decide) (by decide) (by decide) (by decide) g1 ?_
  have g2 := h.1
  replace h := h.2
  refine Ev.putR dRe_init_100 ⟨_, Or.inl ⟨fRe_43, (fun _ => ⟨rfl, fun r hr => by cases hr; rfl⟩)⟩⟩ rfl (fun ad => fitR (by first | exact Or.inl ⟨_, rfl⟩ | exact Or.inr ⟨_, rfl⟩) _ ad) g2 ?_
  exact h
theorem fRe_46 : FOK "BowingRowModel" 46 11 24 true := ⟨RX12, TX12, nFd 11, rfl, by decide, rfl, by decide, rfl, lwg_of 1307 (by decide +kernel) (by decide +kernel)⟩
theorem bRe_init_103 {l : Launch} {G : Gx} {d : Nat} {bc bs : Nat} {Φ : OutV → Mm → Prop} (M : Mm) (a0 : Nat)
    (h : (1 + 10 ≤ bc ∧ 10 + 10 * 800 ≤ bs) ∧ ((m_sh (m_mal M 10 800) a0).1 = 11) ∧ Ev l G d mRe_init 116 [.ref a0] [] (m_sr (m_mal M 10 800) a0 24 (m_nx M)) (bc - (1 + 10)) (bs - (10 + 10 * 800)) Φ) :
    Ev l G d mRe_init 103 [.ref a0] [] M bc bs Φ := by
  refine Ev.aload_n dRe_init_103 rfl ?_
  refine Ev.bipush (v := 10) dRe_init_104 (by decide) ?_
  refine Ev.sipush (v := 800) dRe_init_106 (by decide) ?_
  have g1 := h.1
  replace h := h.2
  refine Ev.mna2 10 800 dRe_init_109 w1281 w1282 w164 (by decide) (by decide) (by decide) (by decide) (by decide) (by decide) g1 ?_
  have g2 := h.1
  replace h := h.2
  refine Ev.putR dRe_init_113 ⟨_, Or.inl ⟨fRe_46, (fun _ => ⟨rfl, fun r hr => by cases hr; rfl⟩)⟩⟩ rfl (fun ad => fitR (by first | exact Or.inl ⟨_, rfl⟩ | exact Or.inr ⟨_, rfl⟩) _ ad) g2 ?_
  exact h
theorem fRe_49 : FOK "BowingRowModel" 49 11 25 true := ⟨RX12, TX12, nFd 11, rfl, by decide, rfl, by decide, rfl, lwg_of 1308 (by decide +kernel) (by decide +kernel)⟩
theorem bRe_init_116 {l : Launch} {G : Gx} {d : Nat} {bc bs : Nat} {Φ : OutV → Mm → Prop} (M : Mm) (a0 : Nat)
    (h : (1 ≤ bc ∧ 800 ≤ bs) ∧ ((m_sh (m_al M (20, 800)) a0).1 = 11) ∧ Ev l G d mRe_init 125 [.ref a0] [] (m_sr (m_al M (20, 800)) a0 25 (m_nx M)) (bc - 1) (bs - 800) Φ) :
    Ev l G d mRe_init 116 [.ref a0] [] M bc bs Φ := by
  refine Ev.aload_n dRe_init_116 rfl ?_
  refine Ev.sipush (v := 800) dRe_init_117 (by decide) ?_
  have g1 := h.1
  replace h := h.2
  refine Ev.newI2 800 dRe_init_120 w164 (by decide) (by decide) (by decide) g1 ?_
  have g2 := h.1
  replace h := h.2
  refine Ev.putR dRe_init_122 ⟨_, Or.inl ⟨fRe_49, (fun _ => ⟨rfl, fun r hr => by cases hr; rfl⟩)⟩⟩ rfl (fun ad => fitR (by first | exact Or.inl ⟨_, rfl⟩ | exact Or.inr ⟨_, rfl⟩) _ ad) g2 ?_
  exact h
theorem fRe_52 : FOK "BowingRowModel" 52 11 26 true := ⟨RX12, TX12, nFd 11, rfl, by decide, rfl, by decide, rfl, lwg_of 1309 (by decide +kernel) (by decide +kernel)⟩
theorem bRe_init_125 {l : Launch} {G : Gx} {d : Nat} {bc bs : Nat} {Φ : OutV → Mm → Prop} (M : Mm) (a0 : Nat)
    (h : (1 ≤ bc ∧ 7 ≤ bs) ∧ ((m_sh (m_al M (20, 7)) a0).1 = 11) ∧ Ev l G d mRe_init 133 [.ref a0] [] (m_sr (m_al M (20, 7)) a0 26 (m_nx M)) (bc - 1) (bs - 7) Φ) :
    Ev l G d mRe_init 125 [.ref a0] [] M bc bs Φ := by
  refine Ev.aload_n dRe_init_125 rfl ?_
  refine Ev.bipush (v := 7) dRe_init_126 (by decide) ?_
  have g1 := h.1
  replace h := h.2
  refine Ev.newI2 7 dRe_init_128 w164 (by decide) (by decide) (by decide) g1 ?_
  have g2 := h.1
  replace h := h.2
  refine Ev.putR dRe_init_130 ⟨_, Or.inl ⟨fRe_52, (fun _ => ⟨rfl, fun r hr => by cases hr; rfl⟩)⟩⟩ rfl (fun ad => fitR (by first | exact Or.inl ⟨_, rfl⟩ | exact Or.inr ⟨_, rfl⟩) _ ad) g2 ?_
  exact h
theorem fRe_55 : FOK "BowingRowModel" 55 11 29 true := ⟨RX12, TX12, nFd 11, rfl, by decide, rfl, by decide, rfl, lwg_of 1312 (by decide +kernel) (by decide +kernel)⟩
theorem bRe_init_133 {l : Launch} {G : Gx} {d : Nat} {bc bs : Nat} {Φ : OutV → Mm → Prop} (M : Mm) (a0 : Nat)
    (h : (1 ≤ bc ∧ 8 ≤ bs) ∧ ((m_sh (m_al M (20, 8)) a0).1 = 11) ∧ Ev l G d mRe_init 141 [.ref a0] [] (m_sr (m_al M (20, 8)) a0 29 (m_nx M)) (bc - 1) (bs - 8) Φ) :
    Ev l G d mRe_init 133 [.ref a0] [] M bc bs Φ := by
  refine Ev.aload_n dRe_init_133 rfl ?_
  refine Ev.bipush (v := 8) dRe_init_134 (by decide) ?_
  have g1 := h.1
  replace h := h.2
  refine Ev.newI2 8 dRe_init_136 w164 (by decide) (by decide) (by decide) g1 ?_
  have g2 := h.1
  replace h := h.2
  refine Ev.putR dRe_init_138 ⟨_, Or.inl ⟨fRe_55, (fun _ => ⟨rfl, fun r hr => by cases hr; rfl⟩)⟩⟩ rfl (fun ad => fitR (by first | exact Or.inl ⟨_, rfl⟩ | exact Or.inr ⟨_, rfl⟩) _ ad) g2 ?_
  exact h
theorem fRe_58 : FOK "BowingRowModel" 58 11 30 true := ⟨RX12, TX12, nFd 11, rfl, by decide, rfl, by decide, rfl, lwg_of 1313 (by decide +kernel) (by decide +kernel)⟩
theorem bRe_init_141 {l : Launch} {G : Gx} {d : Nat} {bc bs : Nat} {Φ : OutV → Mm → Prop} (M : Mm) (a0 : Nat)
    (h : (1 + 3 ≤ bc ∧ 3 + 3 * 32 ≤ bs) ∧ ((m_sh (m_mal M 3 32) a0).1 = 11) ∧ Ev l G d mRe_init 152 [.ref a0] [] (m_sr (m_mal M 3 32) a0 30 (m_nx M)) (bc - (1 + 3)) (bs - (3 + 3 * 32)) Φ) :
    Ev l G d mRe_init 141 [.ref a0] [] M bc bs Φ := by
  refine Ev.aload_n dRe_init_141 rfl ?_
  refine Ev.iconst (v := 3) dRe_init_142 (by decide) ?_
  refine Ev.bipush (v := 32) dRe_init_143 (by decide) ?_
  have g1 := h.1
  replace h := h.2
  refine Ev.mna2 3 32 dRe_init_145 w1281 w1282 w164 (by decide) (by decide) (by decide) (by decide) (by decide) (by decide) g1 ?_
  have g2 := h.1
  replace h := h.2
  refine Ev.putR dRe_init_149 ⟨_, Or.inl ⟨fRe_58, (fun _ => ⟨rfl, fun r hr => by cases hr; rfl⟩)⟩⟩ rfl (fun ad => fitR (by first | exact Or.inl ⟨_, rfl⟩ | exact Or.inr ⟨_, rfl⟩) _ ad) g2 ?_
  exact h
theorem fRe_61 : FOK "BowingRowModel" 61 11 31 true := ⟨RX12, TX12, nFd 11, rfl, by decide, rfl, by decide, rfl, lwg_of 1314 (by decide +kernel) (by decide +kernel)⟩
theorem bRe_init_152 {l : Launch} {G : Gx} {d : Nat} {bc bs : Nat} {Φ : OutV → Mm → Prop} (M : Mm) (a0 : Nat)
    (h : (1 ≤ bc ∧ 8 ≤ bs) ∧ ((m_sh (m_al M (20, 8)) a0).1 = 11) ∧ Ev l G d mRe_init 160 [.ref a0] [] (m_sr (m_al M (20, 8)) a0 31 (m_nx M)) (bc - 1) (bs - 8) Φ) :
    Ev l G d mRe_init 152 [.ref a0] [] M bc bs Φ := by
  refine Ev.aload_n dRe_init_152 rfl ?_
  refine Ev.bipush (v := 8) dRe_init_153 (by decide) ?_
  have g1 := h.1
  replace h := h.2
  refine Ev.newI2 8 dRe_init_155 w164 (by decide) (by decide) (by decide) g1 ?_
  have g2 := h.1
  replace h := h.2
  refine Ev.putR dRe_init_157 ⟨_, Or.inl ⟨fRe_61, (fun _ => ⟨rfl, fun r hr => by cases hr; rfl⟩)⟩⟩ rfl (fun ad => fitR (by first | exact Or.inl ⟨_, rfl⟩ | exact Or.inr ⟨_, rfl⟩) _ ad) g2 ?_
  exact h
theorem fRe_64 : FOK "BowingRowModel" 64 11 32 true := ⟨RX12, TX12, nFd 11, rfl, by decide, rfl, by decide, rfl, lwg_of 1315 (by decide +kernel) (by decide +kernel)⟩
theorem bRe_init_160 {l : Launch} {G : Gx} {d : Nat} {bc bs : Nat} {Φ : OutV → Mm → Prop} (M : Mm) (a0 : Nat)
    (h : (1 ≤ bc ∧ 8 ≤ bs) ∧ ((m_sh (m_al M (20, 8)) a0).1 = 11) ∧ Ev l G d mRe_init 168 [.ref a0] [] (m_sr (m_al M (20, 8)) a0 32 (m_nx M)) (bc - 1) (bs - 8) Φ) :
    Ev l G d mRe_init 160 [.ref a0] [] M bc bs Φ := by
  refine Ev.aload_n dRe_init_160 rfl ?_
  refine Ev.bipush (v := 8) dRe_init_161 (by decide) ?_
  have g1 := h.1
  replace h := h.2
  refine Ev.newI2 8 dRe_init_163 w164 (by decide) (by decide) (by decide) g1 ?_
  have g2 := h.1
  replace h := h.2
  refine Ev.putR dRe_init_165 ⟨_, Or.inl ⟨fRe_64, (fun _ => ⟨rfl, fun r hr => by cases hr; rfl⟩)⟩⟩ rfl (fun ad => fitR (by first | exact Or.inl ⟨_, rfl⟩ | exact Or.inr ⟨_, rfl⟩) _ ad) g2 ?_
  exact h
theorem fRe_67 : FOK "BowingRowModel" 67 11 34 false := ⟨RX12, TX12, nFd 11, rfl, by decide, rfl, by decide, rfl, lwg_of 1317 (by decide +kernel) (by decide +kernel)⟩
theorem bRe_init_168 {l : Launch} {G : Gx} {d : Nat} {bc bs : Nat} {Φ : OutV → Mm → Prop} (M : Mm) (a0 : Nat)
    (h : ((m_sh M a0).1 = 11) ∧ Ev l G d mRe_init 173 [.ref a0] [] (m_si M a0 34 ((-1))) bc bs Φ) :
    Ev l G d mRe_init 168 [.ref a0] [] M bc bs Φ := by
  refine Ev.aload_n dRe_init_168 rfl ?_
  refine Ev.iconst (v := (-1)) dRe_init_169 (by decide) ?_
  have g1 := h.1
  replace h := h.2
  refine Ev.putI dRe_init_170 ⟨_, Or.inl ⟨fRe_67, (fun h => by cases h)⟩⟩ rfl ⟨rfl, rfl⟩ g1 ?_
  exact h
theorem fRe_70 : FOK "BowingRowModel" 70 11 37 false := ⟨RX12, TX12, nFd 11, rfl, by decide, rfl, by decide, rfl, lwg_of 1320 (by decide +kernel) (by decide +kernel)⟩
theorem bRe_init_173 {l : Launch} {G : Gx} {d : Nat} {bc bs : Nat} {Φ : OutV → Mm → Prop} (M : Mm) (a0 : Nat)
    (h : ((m_sh M a0).1 = 11) ∧ Ev l G d mRe_init 178 [.ref a0] [] (m_si M a0 37 ((-1))) bc bs Φ) :
    Ev l G d mRe_init 173 [.ref a0] [] M bc bs Φ := by
  refine Ev.aload_n dRe_init_173 rfl ?_
  refine Ev.iconst (v := (-1)) dRe_init_174 (by decide) ?_
  have g1 := h.1
  replace h := h.2
  refine Ev.putI dRe_init_175 ⟨_, Or.inl ⟨fRe_70, (fun h => by cases h)⟩⟩ rfl ⟨rfl, rfl⟩ g1 ?_
  exact h
theorem fRe_73 : FOK "BowingRowModel" 73 11 45 true := ⟨RX12, TX12, nFd 11, rfl, by decide, rfl, by decide, rfl, lwg_of 1328 (by decide +kernel) (by decide +kernel)⟩
theorem bRe_init_178 {l : Launch} {G : Gx} {d : Nat} {bc bs : Nat} {Φ : OutV → Mm → Prop} (M : Mm) (a0 : Nat)
    (h : (1 ≤ bc ∧ 9 ≤ bs) ∧ ((m_sh (m_al M (20, 9)) a0).1 = 11) ∧ Ev l G d mRe_init 186 [.ref a0] [] (m_sr (m_al M (20, 9)) a0 45 (m_nx M)) (bc - 1) (bs - 9) Φ) :
    Ev l G d mRe_init 178 [.ref a0] [] M bc bs Φ := by
  refine Ev.aload_n dRe_init_178 rfl ?_
  refine Ev.bipush (v := 9) dRe_init_179 (by decide) ?_
  have g1 := h.1
  replace h := h.2
  refine Ev.newI2 9 dRe_init_181 w164 (by decide) (by decide) (by decide) g1 ?_
  have g2 := h.1
  replace h := h.2
  refine Ev.putR dRe_init_183 ⟨_, Or.inl ⟨fRe_73, (fun _ => ⟨rfl, fun r hr => by cases hr; rfl⟩)⟩⟩ rfl (fun ad => fitR (by first | exact Or.inl ⟨_, rfl⟩ | exact Or.inr ⟨_, rfl⟩) _ ad) g2 ?_
  exact h
theorem fRe_76 : FOK "BowingRowModel" 76 11 46 true := ⟨RX12, TX12, nFd 11, rfl, by decide, rfl, by decide, rfl, lwg_of 1329 (by decide +kernel) (by decide +kernel)⟩
theorem bRe_init_186 {l : Launch} {G : Gx} {d : Nat} {bc bs : Nat} {Φ : OutV → Mm → Prop} (M : Mm) (a0 : Nat)
    (h : (1 ≤ bc ∧ 9 ≤ bs) ∧ ((m_sh (m_al M (20, 9)) a0).1 = 11) ∧ Ev l G d mRe_init 194 [.ref a0] [] (m_sr (m_al M (20, 9)) a0 46 (m_nx M)) (bc - 1) (bs - 9) Φ) :
    Ev l G d mRe_init 186 [.ref a0] [] M bc bs Φ := by
  refine Ev.aload_n dRe_init_186 rfl ?_
  refine Ev.bipush (v := 9) dRe_init_187 (by decide) ?_
  have g1 := h.1
  replace h := h.2
  refine Ev.newI2 9 dRe_init_189 w164 (by decide) (by decide) (by decide) g1 ?_
  have g2 := h.1
  replace h := h.2
  refine Ev.putR dRe_init_191 ⟨_, Or.inl ⟨fRe_76, (fun _ => ⟨rfl, fun r hr => by cases hr; rfl⟩)⟩⟩ rfl (fun ad => fitR (by first | exact Or.inl ⟨_, rfl⟩ | exact Or.inr ⟨_, rfl⟩) _ ad) g2 ?_
  exact h
theorem fRe_79 : FOK "BowingRowModel" 79 11 47 true := ⟨RX12, TX12, nFd 11, rfl, by decide, rfl, by decide, rfl, lwg_of 1330 (by decide +kernel) (by decide +kernel)⟩
theorem bRe_init_194 {l : Launch} {G : Gx} {d : Nat} {bc bs : Nat} {Φ : OutV → Mm → Prop} (M : Mm) (a0 : Nat)
    (h : (1 ≤ bc ∧ 9 ≤ bs) ∧ ((m_sh (m_al M (20, 9)) a0).1 = 11) ∧ Ev l G d mRe_init 202 [.ref a0] [] (m_sr (m_al M (20, 9)) a0 47 (m_nx M)) (bc - 1) (bs - 9) Φ) :
    Ev l G d mRe_init 194 [.ref a0] [] M bc bs Φ := by
  refine Ev.aload_n dRe_init_194 rfl ?_
  refine Ev.bipush (v := 9) dRe_init_195 (by decide) ?_
  have g1 := h.1
  replace h := h.2
  refine Ev.newI2 9 dRe_init_197 w164 (by decide) (by decide) (by decide) g1 ?_
  have g2 := h.1
  replace h := h.2
  refine Ev.putR dRe_init_199 ⟨_, Or.inl ⟨fRe_79, (fun _ => ⟨rfl, fun r hr => by cases hr; rfl⟩)⟩⟩ rfl (fun ad => fitR (by first | exact Or.inl ⟨_, rfl⟩ | exact Or.inr ⟨_, rfl⟩) _ ad) g2 ?_
  exact h
theorem fRe_82 : FOK "BowingRowModel" 82 11 48 true := ⟨RX12, TX12, nFd 11, rfl, by decide, rfl, by decide, rfl, lwg_of 1331 (by decide +kernel) (by decide +kernel)⟩
theorem bRe_init_202 {l : Launch} {G : Gx} {d : Nat} {bc bs : Nat} {Φ : OutV → Mm → Prop} (M : Mm) (a0 : Nat)
    (h : (1 ≤ bc ∧ 9 ≤ bs) ∧ ((m_sh (m_al M (20, 9)) a0).1 = 11) ∧ Ev l G d mRe_init 210 [.ref a0] [] (m_sr (m_al M (20, 9)) a0 48 (m_nx M)) (bc - 1) (bs - 9) Φ) :
    Ev l G d mRe_init 202 [.ref a0] [] M bc bs Φ := by
  refine Ev.aload_n dRe_init_202 rfl ?_
  refine Ev.bipush (v := 9) dRe_init_203 (by decide) ?_
  have g1 := h.1
  replace h := h.2
  refine Ev.newI2 9 dRe_init_205 w164 (by decide) (by decide) (by decide) g1 ?_
  have g2 := h.1
  replace h := h.2
  refine Ev.putR dRe_init_207 ⟨_, Or.inl ⟨fRe_82, (fun _ => ⟨rfl, fun r hr => by cases hr; rfl⟩)⟩⟩ rfl (fun ad => fitR (by first | exact Or.inl ⟨_, rfl⟩ | exact Or.inr ⟨_, rfl⟩) _ ad) g2 ?_
  exact h
theorem fRe_85 : FOK "BowingRowModel" 85 11 49 true := ⟨RX12, TX12, nFd 11, rfl, by decide, rfl, by decide, rfl, lwg_of 1332 (by decide +kernel) (by decide +kernel)⟩
theorem bRe_init_210 {l : Launch} {G : Gx} {d : Nat} {bc bs : Nat} {Φ : OutV → Mm → Prop} (M : Mm) (a0 : Nat)
    (h : (1 ≤ bc ∧ 9 ≤ bs) ∧ ((m_sh (m_al M (20, 9)) a0).1 = 11) ∧ Ev l G d mRe_init 218 [.ref a0] [] (m_sr (m_al M (20, 9)) a0 49 (m_nx M)) (bc - 1) (bs - 9) Φ) :
    Ev l G d mRe_init 210 [.ref a0] [] M bc bs Φ := by
  refine Ev.aload_n dRe_init_210 rfl ?_
  refine Ev.bipush (v := 9) dRe_init_211 (by decide) ?_
  have g1 := h.1
  replace h := h.2
  refine Ev.newI2 9 dRe_init_213 w164 (by decide) (by decide) (by decide) g1 ?_
  have g2 := h.1
  replace h := h.2
  refine Ev.putR dRe_init_215 ⟨_, Or.inl ⟨fRe_85, (fun _ => ⟨rfl, fun r hr => by cases hr; rfl⟩)⟩⟩ rfl (fun ad => fitR (by first | exact Or.inl ⟨_, rfl⟩ | exact Or.inr ⟨_, rfl⟩) _ ad) g2 ?_
  exact h
theorem fRe_88 : FOK "BowingRowModel" 88 11 50 true := ⟨RX12, TX12, nFd 11, rfl, by decide, rfl, by decide, rfl, lwg_of 1333 (by decide +kernel) (by decide +kernel)⟩
theorem bRe_init_218 {l : Launch} {G : Gx} {d : Nat} {bc bs : Nat} {Φ : OutV → Mm → Prop} (M : Mm) (a0 : Nat)
    (h : (1 ≤ bc ∧ 9 ≤ bs) ∧ ((m_sh (m_al M (20, 9)) a0).1 = 11) ∧ Ev l G d mRe_init 226 [.ref a0] [] (m_sr (m_al M (20, 9)) a0 50 (m_nx M)) (bc - 1) (bs - 9) Φ) :
    Ev l G d mRe_init 218 [.ref a0] [] M bc bs Φ := by
  refine Ev.aload_n dRe_init_218 rfl ?_
  refine Ev.bipush (v := 9) dRe_init_219 (by decide) ?_
  have g1 := h.1
  replace h := h.2
  refine Ev.newI2 9 dRe_init_221 w164 (by decide) (by decide) (by decide) g1 ?_
  have g2 := h.1
  replace h := h.2
  refine Ev.putR dRe_init_223 ⟨_, Or.inl ⟨fRe_88, (fun _ => ⟨rfl, fun r hr => by cases hr; rfl⟩)⟩⟩ rfl (fun ad => fitR (by first | exact Or.inl ⟨_, rfl⟩ | exact Or.inr ⟨_, rfl⟩) _ ad) g2 ?_
  exact h
theorem fRe_91 : FOK "BowingRowModel" 91 11 51 true := ⟨RX12, TX12, nFd 11, rfl, by decide, rfl, by decide, rfl, lwg_of 1334 (by decide +kernel) (by decide +kernel)⟩
theorem bRe_init_226 {l : Launch} {G : Gx} {d : Nat} {bc bs : Nat} {Φ : OutV → Mm → Prop} (M : Mm) (a0 : Nat)
    (h : (1 ≤ bc ∧ 8 ≤ bs) ∧ ((m_sh (m_al M (20, 8)) a0).1 = 11) ∧ Ev l G d mRe_init 234 [.ref a0] [] (m_sr (m_al M (20, 8)) a0 51 (m_nx M)) (bc - 1) (bs - 8) Φ) :
    Ev l G d mRe_init 226 [.ref a0] [] M bc bs Φ := by
  refine Ev.aload_n dRe_init_226 rfl ?_
  refine Ev.bipush (v := 8) dRe_init_227 (by decide) ?_
  have g1 := h.1
  replace h := h.2
  refine Ev.newI2 8 dRe_init_229 w164 (by decide) (by decide) (by decide) g1 ?_
  have g2 := h.1
  replace h := h.2
  refine Ev.putR dRe_init_231 ⟨_, Or.inl ⟨fRe_91, (fun _ => ⟨rfl, fun r hr => by cases hr; rfl⟩)⟩⟩ rfl (fun ad => fitR (by first | exact Or.inl ⟨_, rfl⟩ | exact Or.inr ⟨_, rfl⟩) _ ad) g2 ?_
  exact h
theorem fRe_94 : FOK "BowingRowModel" 94 11 52 true := ⟨RX12, TX12, nFd 11, rfl, by decide, rfl, by decide, rfl, lwg_of 1335 (by decide +kernel) (by decide +kernel)⟩
theorem bRe_init_234 {l : Launch} {G : Gx} {d : Nat} {bc bs : Nat} {Φ : OutV → Mm → Prop} (M : Mm) (a0 : Nat)
    (h : (1 + 9 ≤ bc ∧ 9 + 9 * 100 ≤ bs) ∧ ((m_sh (m_mal M 9 100) a0).1 = 11) ∧ Ev l G d mRe_init 246 [.ref a0] [] (m_sr (m_mal M 9 100) a0 52 (m_nx M)) (bc - (1 + 9)) (bs - (9 + 9 * 100)) Φ) :
    Ev l G d mRe_init 234 [.ref a0] [] M bc bs Φ := by
  refine Ev.aload_n dRe_init_234 rfl ?_
  refine Ev.bipush (v := 9) dRe_init_235 (by decide) ?_
  refine Ev.bipush (v := 100) dRe_init_237 (by decide) ?_
  have g1 := h.1
  replace h := h.2
  refine Ev.mna2 9 100 dRe_init_239 w1281 w1282 w164 (by decide) (by decide) (by decide) (by decide) (by decide) (by decide) g1 ?_
  have g2 := h.1
  replace h := h.2
  refine Ev.putR dRe_init_243 ⟨_, Or.inl ⟨fRe_94, (fun _ => ⟨rfl, fun r hr => by cases hr; rfl⟩)⟩⟩ rfl (fun ad => fitR (by first | exact Or.inl ⟨_, rfl⟩ | exact Or.inr ⟨_, rfl⟩) _ ad) g2 ?_
  exact h
theorem fRe_97 : FOK "BowingRowModel" 97 11 53 true := ⟨RX12, TX12, nFd 11, rfl, by decide, rfl, by decide, rfl, lwg_of 1336 (by decide +kernel) (by decide +kernel)⟩
theorem bRe_init_246 {l : Launch} {G : Gx} {d : Nat} {bc bs : Nat} {Φ : OutV → Mm → Prop} (M : Mm) (a0 : Nat)
    (h : (1 + 64 ≤ bc ∧ 64 + 64 * 4 ≤ bs) ∧ ((m_sh (m_mal M 64 4) a0).1 = 11) ∧ Ev l G d mRe_init 257 [.ref a0] [] (m_sr (m_mal M 64 4) a0 53 (m_nx M)) (bc - (1 + 64)) (bs - (64 + 64 * 4)) Φ) :
    Ev l G d mRe_init 246 [.ref a0] [] M bc bs Φ := by
  refine Ev.aload_n dRe_init_246 rfl ?_
  refine Ev.bipush (v := 64) dRe_init_247 (by decide) ?_
  refine Ev.iconst (v := 4) dRe_init_249 (by decide) ?_
  have g1 := h.1
  replace h := h.2
  refine Ev.mna2 64 4 dRe_init_250 w1281 w1282 w164 (by decide) (by decide) (by decide) (by decide) (by decide) (by decide) g1 ?_
  have g2 := h.1
  replace h := h.2
  refine Ev.putR dRe_init_254 ⟨_, Or.inl ⟨fRe_97, (fun _ => ⟨rfl, fun r hr => by cases hr; rfl⟩)⟩⟩ rfl (fun ad => fitR (by first | exact Or.inl ⟨_, rfl⟩ | exact Or.inr ⟨_, rfl⟩) _ ad) g2 ?_
  exact h
theorem fRe_100 : FOK "BowingRowModel" 100 11 54 true := ⟨RX12, TX12, nFd 11, rfl, by decide, rfl, by decide, rfl, lwg_of 1337 (by decide +kernel) (by decide +kernel)⟩
theorem bRe_init_257 {l : Launch} {G : Gx} {d : Nat} {bc bs : Nat} {Φ : OutV → Mm → Prop} (M : Mm) (a0 : Nat)
    (h : (1 ≤ bc ∧ 8 ≤ bs) ∧ ((m_sh (m_al M (20, 8)) a0).1 = 11) ∧ Ev l G d mRe_init 265 [.ref a0] [] (m_sr (m_al M (20, 8)) a0 54 (m_nx M)) (bc - 1) (bs - 8) Φ) :
    Ev l G d mRe_init 257 [.ref a0] [] M bc bs Φ := by
  refine Ev.aload_n dRe_init_257 rfl ?_
  refine Ev.bipush (v := 8) dRe_init_258 (by decide) ?_
  have g1 := h.1
  replace h := h.2
  refine Ev.newI2 8 dRe_init_260 w164 (by decide) (by decide) (by decide) g1 ?_
  have g2 := h.1
  replace h := h.2
  refine Ev.putR dRe_init_262 ⟨_, Or.inl ⟨fRe_100, (fun _ => ⟨rfl, fun r hr => by cases hr; rfl⟩)⟩⟩ rfl (fun ad => fitR (by first | exact Or.inl ⟨_, rfl⟩ | exact Or.inr ⟨_, rfl⟩) _ ad) g2 ?_
  exact h
theorem fRe_103 : FOK "BowingRowModel" 103 11 55 true := ⟨RX12, TX12, nFd 11, rfl, by decide, rfl, by decide, rfl, lwg_of 1338 (by decide +kernel) (by decide +kernel)⟩
theorem bRe_init_265 {l : Launch} {G : Gx} {d : Nat} {bc bs : Nat} {Φ : OutV → Mm → Prop} (M : Mm) (a0 : Nat)
    (h : (1 ≤ bc ∧ 8 ≤ bs) ∧ ((m_sh (m_al M (20, 8)) a0).1 = 11) ∧ Ev l G d mRe_init 273 [.ref a0] [] (m_sr (m_al M (20, 8)) a0 55 (m_nx M)) (bc - 1) (bs - 8) Φ) :
    Ev l G d mRe_init 265 [.ref a0] [] M bc bs Φ := by
  refine Ev.aload_n dRe_init_265 rfl ?_
  refine Ev.bipush (v := 8) dRe_init_266 (by decide) ?_
  have g1 := h.1
  replace h := h.2
  refine Ev.newI2 8 dRe_init_268 w164 (by decide) (by decide) (by decide) g1 ?_
  have g2 := h.1
  replace h := h.2
  refine Ev.putR dRe_init_270 ⟨_, Or.inl ⟨fRe_103, (fun _ => ⟨rfl, fun r hr => by cases hr; rfl⟩)⟩⟩ rfl (fun ad => fitR (by first | exact Or.inl ⟨_, rfl⟩ | exact Or.inr ⟨_, rfl⟩) _ ad) g2 ?_
  exact h
theorem fRe_106 : FOK "BowingRowModel" 106 11 56 true := ⟨RX12, TX12, nFd 11, rfl, by decide, rfl, by decide, rfl, lwg_of 1339 (by decide +kernel) (by decide +kernel)⟩
theorem bRe_init_273 {l : Launch} {G : Gx} {d : Nat} {bc bs : Nat} {Φ : OutV → Mm → Prop} (M : Mm) (a0 : Nat)
    (h : (1 ≤ bc ∧ 8 ≤ bs) ∧ ((m_sh (m_al M (20, 8)) a0).1 = 11) ∧ Ev l G d mRe_init 281 [.ref a0] [] (m_sr (m_al M (20, 8)) a0 56 (m_nx M)) (bc - 1) (bs - 8) Φ) :
    Ev l G d mRe_init 273 [.ref a0] [] M bc bs Φ := by
  refine Ev.aload_n dRe_init_273 rfl ?_
  refine Ev.bipush (v := 8) dRe_init_274 (by decide) ?_
  have g1 := h.1
  replace h := h.2
  refine Ev.newI2 8 dRe_init_276 w164 (by decide) (by decide) (by decide) g1 ?_
  have g2 := h.1
  replace h := h.2
  refine Ev.putR dRe_init_278 ⟨_, Or.inl ⟨fRe_106, (fun _ => ⟨rfl, fun r hr => by cases hr; rfl⟩)⟩⟩ rfl (fun ad => fitR (by first | exact Or.inl ⟨_, rfl⟩ | exact Or.inr ⟨_, rfl⟩) _ ad) g2 ?_
  exact h
theorem fRe_109 : FOK "BowingRowModel" 109 11 58 true := ⟨RX12, TX12, nFd 11, rfl, by decide, rfl, by decide, rfl, lwg_of 1341 (by decide +kernel) (by decide +kernel)⟩
theorem bRe_init_281 {l : Launch} {G : Gx} {d : Nat} {bc bs : Nat} {Φ : OutV → Mm → Prop} (M : Mm) (a0 : Nat)
    (h : (1 + 8 ≤ bc ∧ 8 + 8 * 8 ≤ bs) ∧ ((m_sh (m_mal M 8 8) a0).1 = 11) ∧ Ev l G d mRe_init 293 [.ref a0] [] (m_sr (m_mal M 8 8) a0 58 (m_nx M)) (bc - (1 + 8)) (bs - (8 + 8 * 8)) Φ) :
    Ev l G d mRe_init 281 [.ref a0] [] M bc bs Φ := by
  refine Ev.aload_n dRe_init_281 rfl ?_
  refine Ev.bipush (v := 8) dRe_init_282 (by decide) ?_
  refine Ev.bipush (v := 8) dRe_init_284 (by decide) ?_
  have g1 := h.1
  replace h := h.2
  refine Ev.mna2 8 8 dRe_init_286 w1281 w1282 w164 (by decide) (by decide) (by decide) (by decide) (by decide) (by decide) g1 ?_
  have g2 := h.1
  replace h := h.2
  refine Ev.putR dRe_init_290 ⟨_, Or.inl ⟨fRe_109, (fun _ => ⟨rfl, fun r hr => by cases hr; rfl⟩)⟩⟩ rfl (fun ad => fitR (by first | exact Or.inl ⟨_, rfl⟩ | exact Or.inr ⟨_, rfl⟩) _ ad) g2 ?_
  exact h
theorem fRe_112 : FOK "BowingRowModel" 112 11 59 true := ⟨RX12, TX12, nFd 11, rfl, by decide, rfl, by decide, rfl, lwg_of 1342 (by decide +kernel) (by decide +kernel)⟩
theorem bRe_init_293 {l : Launch} {G : Gx} {d : Nat} {bc bs : Nat} {Φ : OutV → Mm → Prop} (M : Mm) (a0 : Nat)
    (h : (1 + 3125 ≤ bc ∧ 3125 + 3125 * 5 ≤ bs) ∧ ((m_sh (m_mal M 3125 5) a0).1 = 11) ∧ Ev l G d mRe_init 305 [.ref a0] [] (m_sr (m_mal M 3125 5) a0 59 (m_nx M)) (bc - (1 + 3125)) (bs - (3125 + 3125 * 5)) Φ) :
    Ev l G d mRe_init 293 [.ref a0] [] M bc bs Φ := by
  refine Ev.aload_n dRe_init_293 rfl ?_
  refine Ev.sipush (v := 3125) dRe_init_294 (by decide) ?_
  refine Ev.iconst (v := 5) dRe_init_297 (by decide) ?_
  have g1 := h.1
  replace h := h.2
  refine Ev.mna2 3125 5 dRe_init_298 w1281 w1282 w164 (by decide) (by decide) (by decide) (by decide) (by decide) (by decide) g1 ?_
  have g2 := h.1
  replace h := h.2
  refine Ev.putR dRe_init_302 ⟨_, Or.inl ⟨fRe_112, (fun _ => ⟨rfl, fun r hr => by cases hr; rfl⟩)⟩⟩ rfl (fun ad => fitR (by first | exact Or.inl ⟨_, rfl⟩ | exact Or.inr ⟨_, rfl⟩) _ ad) g2 ?_
  exact h
theorem bRe_init_305 {l : Launch} {G : Gx} {d : Nat} {bc bs : Nat} {Φ : OutV → Mm → Prop} (M : Mm) (a0 : Nat)
    (h : Φ (.inl none) M) :
    Ev l G d mRe_init 305 [.ref a0] [] M bc bs Φ := by
  exact Ev.vret dRe_init_305 rfl h
def mRe_thrown : MR := (⟨"BowingRowModel", "thrown", "()I"⟩, prog_14_method_2_code, 1, (Option.some .int))
theorem oRe_thrown : MOK mRe_thrown 0 := ⟨lwg_of 1467 (by decide +kernel) (by decide +kernel), lwg_of 103 (by decide +kernel) (by decide +kernel), ⟨by decide +kernel, by decide +kernel⟩, by decide +kernel, by decide⟩
theorem iRe_thrown : Cond.instanceMethod mRe_thrown.1 ∈ lwg := lwg_of 1465 (by decide +kernel) (by decide +kernel)
theorem sRe_thrown : Cond.selects mRe_thrown.1.cls mRe_thrown.1 mRe_thrown.1 ∈ lwg := lwg_of 1466 (by decide +kernel) (by decide +kernel)
theorem dRe_thrown_0 : decode mRe_thrown.2.1 0 = .ok (.aload_n 0, 1) := by decide +kernel
theorem dRe_thrown_1 : decode mRe_thrown.2.1 1 = .ok (.getfield 115, 3) := by decide +kernel
theorem dRe_thrown_4 : decode mRe_thrown.2.1 4 = .ok (.ireturn, 1) := by decide +kernel
theorem fRe_115 : FOK "BowingRowModel" 115 11 0 false := ⟨RX12, TX12, nFd 11, rfl, by decide, rfl, by decide, rfl, lwg_of 1283 (by decide +kernel) (by decide +kernel)⟩
theorem bRe_thrown_0 {l : Launch} {G : Gx} {d : Nat} {bc bs : Nat} {Φ : OutV → Mm → Prop} (M : Mm) (a0 : Nat)
    (h : ((m_sh M a0).1 = 11) ∧ Φ (.inl (some (.int (m_i M a0 0)))) M) :
    Ev l G d mRe_thrown 0 [.ref a0] [] M bc bs Φ := by
  refine Ev.aload_n dRe_thrown_0 rfl ?_
  have g1 := h.1
  replace h := h.2
  refine Ev.getI dRe_thrown_1 (Or.inl fRe_115) rfl g1 ?_
  exact Ev.iret dRe_thrown_4 rfl rfl h
def mRe_feed : MR := (⟨"BowingRowModel", "feed", "(IIIII)I"⟩, prog_14_method_5_code, 8, (Option.some .int))
theorem oRe_feed : MOK mRe_feed 5 := ⟨lwg_of 1471 (by decide +kernel) (by decide +kernel), lwg_of 103 (by decide +kernel) (by decide +kernel), ⟨by decide +kernel, by decide +kernel⟩, by decide +kernel, by decide⟩
theorem iRe_feed : Cond.instanceMethod mRe_feed.1 ∈ lwg := lwg_of 1469 (by decide +kernel) (by decide +kernel)
theorem sRe_feed : Cond.selects mRe_feed.1.cls mRe_feed.1 mRe_feed.1 ∈ lwg := lwg_of 1470 (by decide +kernel) (by decide +kernel)
theorem dRe_feed_0 : decode mRe_feed.2.1 0 = .ok (.aload_n 0, 1) := by decide +kernel
theorem dRe_feed_1 : decode mRe_feed.2.1 1 = .ok (.iconst 0, 1) := by decide +kernel
theorem dRe_feed_2 : decode mRe_feed.2.1 2 = .ok (.putfield 115, 3) := by decide +kernel
theorem dRe_feed_5 : decode mRe_feed.2.1 5 = .ok (.aload_n 0, 1) := by decide +kernel
theorem dRe_feed_6 : decode mRe_feed.2.1 6 = .ok (.getfield 118, 3) := by decide +kernel
theorem dRe_feed_9 : decode mRe_feed.2.1 9 = .ok (.bipush 20, 2) := by decide +kernel
theorem dRe_feed_11 : decode mRe_feed.2.1 11 = .ok (.iadd, 1) := by decide +kernel
theorem dRe_feed_12 : decode mRe_feed.2.1 12 = .ok (.sipush 500, 3) := by decide +kernel
theorem dRe_feed_15 : decode mRe_feed.2.1 15 = .ok (.if_icmp .le 5, 3) := by decide +kernel
theorem dRe_feed_18 : decode mRe_feed.2.1 18 = .ok (.iconst (-1), 1) := by decide +kernel
theorem dRe_feed_19 : decode mRe_feed.2.1 19 = .ok (.ireturn, 1) := by decide +kernel
theorem dRe_feed_20 : decode mRe_feed.2.1 20 = .ok (.iconst 0, 1) := by decide +kernel
theorem dRe_feed_21 : decode mRe_feed.2.1 21 = .ok (.istore 6, 2) := by decide +kernel
theorem dRe_feed_23 : decode mRe_feed.2.1 23 = .ok (.iload 6, 2) := by decide +kernel
theorem dRe_feed_25 : decode mRe_feed.2.1 25 = .ok (.bipush 20, 2) := by decide +kernel
theorem dRe_feed_27 : decode mRe_feed.2.1 27 = .ok (.if_icmp .ge 93, 3) := by decide +kernel
theorem dRe_feed_30 : decode mRe_feed.2.1 30 = .ok (.iload 6, 2) := by decide +kernel
theorem dRe_feed_32 : decode mRe_feed.2.1 32 = .ok (.iconst 4, 1) := by decide +kernel
theorem dRe_feed_33 : decode mRe_feed.2.1 33 = .ok (.if_icmp .ge 7, 3) := by decide +kernel
theorem dRe_feed_36 : decode mRe_feed.2.1 36 = .ok (.iload_n 1, 1) := by decide +kernel
theorem dRe_feed_37 : decode mRe_feed.2.1 37 = .ok (.goto 39, 3) := by decide +kernel
theorem dRe_feed_40 : decode mRe_feed.2.1 40 = .ok (.iload 6, 2) := by decide +kernel
theorem dRe_feed_42 : decode mRe_feed.2.1 42 = .ok (.bipush 8, 2) := by decide +kernel
theorem dRe_feed_44 : decode mRe_feed.2.1 44 = .ok (.if_icmp .ge 7, 3) := by decide +kernel
theorem dRe_feed_47 : decode mRe_feed.2.1 47 = .ok (.iload_n 2, 1) := by decide +kernel
theorem dRe_feed_48 : decode mRe_feed.2.1 48 = .ok (.goto 28, 3) := by decide +kernel
theorem dRe_feed_51 : decode mRe_feed.2.1 51 = .ok (.iload 6, 2) := by decide +kernel
theorem dRe_feed_53 : decode mRe_feed.2.1 53 = .ok (.bipush 12, 2) := by decide +kernel
theorem dRe_feed_55 : decode mRe_feed.2.1 55 = .ok (.if_icmp .ge 7, 3) := by decide +kernel
theorem dRe_feed_58 : decode mRe_feed.2.1 58 = .ok (.iload_n 3, 1) := by decide +kernel
theorem dRe_feed_59 : decode mRe_feed.2.1 59 = .ok (.goto 17, 3) := by decide +kernel
theorem dRe_feed_62 : decode mRe_feed.2.1 62 = .ok (.iload 6, 2) := by decide +kernel
theorem dRe_feed_64 : decode mRe_feed.2.1 64 = .ok (.bipush 16, 2) := by decide +kernel
theorem dRe_feed_66 : decode mRe_feed.2.1 66 = .ok (.if_icmp .ge 8, 3) := by decide +kernel
theorem dRe_feed_69 : decode mRe_feed.2.1 69 = .ok (.iload 4, 2) := by decide +kernel
theorem dRe_feed_71 : decode mRe_feed.2.1 71 = .ok (.goto 5, 3) := by decide +kernel
theorem dRe_feed_74 : decode mRe_feed.2.1 74 = .ok (.iload 5, 2) := by decide +kernel
theorem dRe_feed_76 : decode mRe_feed.2.1 76 = .ok (.istore 7, 2) := by decide +kernel
theorem dRe_feed_78 : decode mRe_feed.2.1 78 = .ok (.aload_n 0, 1) := by decide +kernel
theorem dRe_feed_79 : decode mRe_feed.2.1 79 = .ok (.getfield 13, 3) := by decide +kernel
theorem dRe_feed_82 : decode mRe_feed.2.1 82 = .ok (.aload_n 0, 1) := by decide +kernel
theorem dRe_feed_83 : decode mRe_feed.2.1 83 = .ok (.getfield 118, 3) := by decide +kernel
theorem dRe_feed_86 : decode mRe_feed.2.1 86 = .ok (.iload 7, 2) := by decide +kernel
theorem dRe_feed_88 : decode mRe_feed.2.1 88 = .ok (.bipush 24, 2) := by decide +kernel
theorem dRe_feed_90 : decode mRe_feed.2.1 90 = .ok (.bipush 8, 2) := by decide +kernel
theorem dRe_feed_92 : decode mRe_feed.2.1 92 = .ok (.iload 6, 2) := by decide +kernel
theorem dRe_feed_94 : decode mRe_feed.2.1 94 = .ok (.iconst 4, 1) := by decide +kernel
theorem dRe_feed_95 : decode mRe_feed.2.1 95 = .ok (.irem, 1) := by decide +kernel
theorem dRe_feed_96 : decode mRe_feed.2.1 96 = .ok (.imul, 1) := by decide +kernel
theorem dRe_feed_97 : decode mRe_feed.2.1 97 = .ok (.isub, 1) := by decide +kernel
theorem dRe_feed_98 : decode mRe_feed.2.1 98 = .ok (.ishr, 1) := by decide +kernel
theorem dRe_feed_99 : decode mRe_feed.2.1 99 = .ok (.sipush 255, 3) := by decide +kernel
theorem dRe_feed_102 : decode mRe_feed.2.1 102 = .ok (.iand, 1) := by decide +kernel
theorem dRe_feed_103 : decode mRe_feed.2.1 103 = .ok (.iastore, 1) := by decide +kernel
theorem dRe_feed_104 : decode mRe_feed.2.1 104 = .ok (.aload_n 0, 1) := by decide +kernel
theorem dRe_feed_105 : decode mRe_feed.2.1 105 = .ok (.dup, 1) := by decide +kernel
theorem dRe_feed_106 : decode mRe_feed.2.1 106 = .ok (.getfield 118, 3) := by decide +kernel
theorem dRe_feed_109 : decode mRe_feed.2.1 109 = .ok (.iconst 1, 1) := by decide +kernel
theorem dRe_feed_110 : decode mRe_feed.2.1 110 = .ok (.iadd, 1) := by decide +kernel
theorem dRe_feed_111 : decode mRe_feed.2.1 111 = .ok (.putfield 118, 3) := by decide +kernel
theorem dRe_feed_114 : decode mRe_feed.2.1 114 = .ok (.iinc 6 1, 3) := by decide +kernel
theorem dRe_feed_117 : decode mRe_feed.2.1 117 = .ok (.goto (-94), 3) := by decide +kernel
theorem dRe_feed_120 : decode mRe_feed.2.1 120 = .ok (.aload_n 0, 1) := by decide +kernel
theorem dRe_feed_121 : decode mRe_feed.2.1 121 = .ok (.getfield 118, 3) := by decide +kernel
theorem dRe_feed_124 : decode mRe_feed.2.1 124 = .ok (.ireturn, 1) := by decide +kernel
theorem fRe_118 : FOK "BowingRowModel" 118 11 1 false := ⟨RX12, TX12, nFd 11, rfl, by decide, rfl, by decide, rfl, lwg_of 1284 (by decide +kernel) (by decide +kernel)⟩
theorem bRe_feed_0 {l : Launch} {G : Gx} {d : Nat} {bc bs : Nat} {Φ : OutV → Mm → Prop} (M : Mm) (a0 : Nat) (x1 : Int32) (x2 : Int32) (x3 : Int32) (x4 : Int32) (x5 : Int32)
    (h : ((m_sh M a0).1 = 11) ∧ (((m_i (m_si M a0 0 0) a0 1) + 20) ≤ 500 → Ev l G d mRe_feed 23 [.ref a0, .int x1, .int x2, .int x3, .int x4, .int x5, .int 0, .null] [] (m_si M a0 0 0) bc bs Φ) ∧ (¬ ((m_i (m_si M a0 0 0) a0 1) + 20) ≤ 500 → Φ (.inl (some (.int ((-1))))) (m_si M a0 0 0))) :
    Ev l G d mRe_feed 0 [.ref a0, .int x1, .int x2, .int x3, .int x4, .int x5, .null, .null] [] M bc bs Φ := by
  refine Ev.aload_n dRe_feed_0 rfl ?_
  refine Ev.iconst (v := 0) dRe_feed_1 (by decide) ?_
  have g1 := h.1
  replace h := h.2
  refine Ev.putI dRe_feed_2 ⟨_, Or.inl ⟨fRe_115, (fun h => by cases h)⟩⟩ rfl ⟨rfl, rfl⟩ g1 ?_
  refine Ev.aload_n dRe_feed_5 rfl ?_
  refine Ev.getI dRe_feed_6 (Or.inl fRe_118) rfl g1 ?_
  refine Ev.bipush (v := 20) dRe_feed_9 (by decide) ?_
  refine Ev.iadd dRe_feed_11 ?_
  refine Ev.sipush (v := 500) dRe_feed_12 (by decide) ?_
  refine Ev.icmp_le 20 (by decide) dRe_feed_15 (fun c => ?_) (fun c => ?_)
  · replace h := h.1 c
    refine Ev.iconst (v := 0) dRe_feed_20 (by decide) ?_
    refine Ev.istore dRe_feed_21 (by decide) ?_
    show Ev l G d mRe_feed (_ + _) [.ref a0, .int x1, .int x2, .int x3, .int x4, .int x5, .int 0, .null] [] (m_si M a0 0 0) bc bs Φ
    exact h
  · replace h := h.2 c
    refine Ev.iconst (v := (-1)) dRe_feed_18 (by decide) ?_
    exact Ev.iret dRe_feed_19 rfl rfl h
theorem bRe_feed_23 {l : Launch} {G : Gx} {d : Nat} {bc bs : Nat} {Φ : OutV → Mm → Prop} (M : Mm) (a0 : Nat) (x1 : Int32) (x2 : Int32) (x3 : Int32) (x4 : Int32) (x5 : Int32) (x6 : Int32) (u7 : Value)
    (h : (20 ≤ x6 → ((m_sh M a0).1 = 11) ∧ Φ (.inl (some (.int (m_i M a0 1)))) M) ∧ (¬ 20 ≤ x6 → (4 ≤ x6 → (8 ≤ x6 → (12 ≤ x6 → (16 ≤ x6 → ((m_sh M a0).1 = 11) ∧ ((m_sh M (m_r M a0 9)).1 = 20) ∧ (vp_in (m_i M a0 1) (m_sh M (m_r M a0 9)).2) ∧ Ev l G d mRe_feed 114 [.ref a0, .int x1, .int x2, .int x3, .int x4, .int x5, .int x6, .int x5] [] (m_si (m_si M (m_r M a0 9) (m_i M a0 1).toNatClampNeg ((x5 >>> ((24 - (8 * (x6 - x6 / 4 * 4))) &&& 31)) &&& 255)) a0 1 ((m_i (m_si M (m_r M a0 9) (m_i M a0 1).toNatClampNeg ((x5 >>> ((24 - (8 * (x6 - x6 / 4 * 4))) &&& 31)) &&& 255)) a0 1) + 1)) bc bs Φ) ∧ (¬ 16 ≤ x6 → ((m_sh M a0).1 = 11) ∧ ((m_sh M (m_r M a0 9)).1 = 20) ∧ (vp_in (m_i M a0 1) (m_sh M (m_r M a0 9)).2) ∧ Ev l G d mRe_feed 114 [.ref a0, .int x1, .int x2, .int x3, .int x4, .int x5, .int x6, .int x4] [] (m_si (m_si M (m_r M a0 9) (m_i M a0 1).toNatClampNeg ((x4 >>> ((24 - (8 * (x6 - x6 / 4 * 4))) &&& 31)) &&& 255)) a0 1 ((m_i (m_si M (m_r M a0 9) (m_i M a0 1).toNatClampNeg ((x4 >>> ((24 - (8 * (x6 - x6 / 4 * 4))) &&& 31)) &&& 255)) a0 1) + 1)) bc bs Φ)) ∧ (¬ 12 ≤ x6 → ((m_sh M a0).1 = 11) ∧ ((m_sh M (m_r M a0 9)).1 = 20) ∧ (vp_in (m_i M a0 1) (m_sh M (m_r M a0 9)).2) ∧ Ev l G d mRe_feed 114 [.ref a0, .int x1, .int x2, .int x3, .int x4, .int x5, .int x6, .int x3] [] (m_si (m_si M (m_r M a0 9) (m_i M a0 1).toNatClampNeg ((x3 >>> ((24 - (8 * (x6 - x6 / 4 * 4))) &&& 31)) &&& 255)) a0 1 ((m_i (m_si M (m_r M a0 9) (m_i M a0 1).toNatClampNeg ((x3 >>> ((24 - (8 * (x6 - x6 / 4 * 4))) &&& 31)) &&& 255)) a0 1) + 1)) bc bs Φ)) ∧ (¬ 8 ≤ x6 → ((m_sh M a0).1 = 11) ∧ ((m_sh M (m_r M a0 9)).1 = 20) ∧ (vp_in (m_i M a0 1) (m_sh M (m_r M a0 9)).2) ∧ Ev l G d mRe_feed 114 [.ref a0, .int x1, .int x2, .int x3, .int x4, .int x5, .int x6, .int x2] [] (m_si (m_si M (m_r M a0 9) (m_i M a0 1).toNatClampNeg ((x2 >>> ((24 - (8 * (x6 - x6 / 4 * 4))) &&& 31)) &&& 255)) a0 1 ((m_i (m_si M (m_r M a0 9) (m_i M a0 1).toNatClampNeg ((x2 >>> ((24 - (8 * (x6 - x6 / 4 * 4))) &&& 31)) &&& 255)) a0 1) + 1)) bc bs Φ)) ∧ (¬ 4 ≤ x6 → ((m_sh M a0).1 = 11) ∧ ((m_sh M (m_r M a0 9)).1 = 20) ∧ (vp_in (m_i M a0 1) (m_sh M (m_r M a0 9)).2) ∧ Ev l G d mRe_feed 114 [.ref a0, .int x1, .int x2, .int x3, .int x4, .int x5, .int x6, .int x1] [] (m_si (m_si M (m_r M a0 9) (m_i M a0 1).toNatClampNeg ((x1 >>> ((24 - (8 * (x6 - x6 / 4 * 4))) &&& 31)) &&& 255)) a0 1 ((m_i (m_si M (m_r M a0 9) (m_i M a0 1).toNatClampNeg ((x1 >>> ((24 - (8 * (x6 - x6 / 4 * 4))) &&& 31)) &&& 255)) a0 1) + 1)) bc bs Φ))) :
    Ev l G d mRe_feed 23 [.ref a0, .int x1, .int x2, .int x3, .int x4, .int x5, .int x6, u7] [] M bc bs Φ := by
  refine Ev.iload dRe_feed_23 rfl ?_
  refine Ev.bipush (v := 20) dRe_feed_25 (by decide) ?_
  refine Ev.icmp_ge 120 (by decide) dRe_feed_27 (fun c => ?_) (fun c => ?_)
  · replace h := h.1 c
    refine Ev.aload_n dRe_feed_120 rfl ?_
    have g1 := h.1
    replace h := h.2
    refine Ev.getI dRe_feed_121 (Or.inl fRe_118) rfl g1 ?_
    exact Ev.iret dRe_feed_124 rfl rfl h
  · replace h := h.2 c
    refine Ev.iload dRe_feed_30 rfl ?_
    refine Ev.iconst (v := 4) dRe_feed_32 (by decide) ?_
    refine Ev.icmp_ge 40 (by decide) dRe_feed_33 (fun c => ?_) (fun c => ?_)
    · replace h := h.1 c
      refine Ev.iload dRe_feed_40 rfl ?_
      refine Ev.bipush (v := 8) dRe_feed_42 (by decide) ?_
      refine Ev.icmp_ge 51 (by decide) dRe_feed_44 (fun c => ?_) (fun c => ?_)
      · replace h := h.1 c
        refine Ev.iload dRe_feed_51 rfl ?_
        refine Ev.bipush (v := 12) dRe_feed_53 (by decide) ?_
        refine Ev.icmp_ge 62 (by decide) dRe_feed_55 (fun c => ?_) (fun c => ?_)
        · replace h := h.1 c
          refine Ev.iload dRe_feed_62 rfl ?_
          refine Ev.bipush (v := 16) dRe_feed_64 (by decide) ?_
          refine Ev.icmp_ge 74 (by decide) dRe_feed_66 (fun c => ?_) (fun c => ?_)
          · replace h := h.1 c
            refine Ev.iload dRe_feed_74 rfl ?_
            refine Ev.istore dRe_feed_76 (by decide) ?_
            show Ev l G d mRe_feed (_ + _) [.ref a0, .int x1, .int x2, .int x3, .int x4, .int x5, .int x6, .int x5] [] M bc bs Φ
            refine Ev.aload_n dRe_feed_78 rfl ?_
            have g2 := h.1
            replace h := h.2
            refine Ev.getR dRe_feed_79 (Or.inl fRe_13) rfl g2 ?_
            refine Ev.aload_n dRe_feed_82 rfl ?_
            refine Ev.getI dRe_feed_83 (Or.inl fRe_118) rfl g2 ?_
            refine Ev.iload dRe_feed_86 rfl ?_
            refine Ev.bipush (v := 24) dRe_feed_88 (by decide) ?_
            refine Ev.bipush (v := 8) dRe_feed_90 (by decide) ?_
            refine Ev.iload dRe_feed_92 rfl ?_
            refine Ev.iconst (v := 4) dRe_feed_94 (by decide) ?_
            refine Ev.irem dRe_feed_95 (by decide) ?_
            refine Ev.imul dRe_feed_96 ?_
            refine Ev.isub dRe_feed_97 ?_
            refine Ev.ishr dRe_feed_98 ?_
            refine Ev.sipush (v := 255) dRe_feed_99 (by decide) ?_
            refine Ev.iand dRe_feed_102 ?_
            have g3 := h.1
            replace h := h.2
            have g4 := h.1
            replace h := h.2
            refine Ev.iast2 dRe_feed_103 g3 g4 ?_
            refine Ev.aload_n dRe_feed_104 rfl ?_
            refine Ev.dup dRe_feed_105 rfl ?_
            refine Ev.getI dRe_feed_106 (Or.inl fRe_118) rfl g2 ?_
            refine Ev.iconst (v := 1) dRe_feed_109 (by decide) ?_
            refine Ev.iadd dRe_feed_110 ?_
            refine Ev.putI dRe_feed_111 ⟨_, Or.inl ⟨fRe_118, (fun h => by cases h)⟩⟩ rfl ⟨rfl, rfl⟩ g2 ?_
            exact h
          · replace h := h.2 c
            refine Ev.iload dRe_feed_69 rfl ?_
            refine Ev.goto 76 dRe_feed_71 (by decide) ?_
            refine Ev.istore dRe_feed_76 (by decide) ?_
            show Ev l G d mRe_feed (_ + _) [.ref a0, .int x1, .int x2, .int x3, .int x4, .int x5, .int x6, .int x4] [] M bc bs Φ
            refine Ev.aload_n dRe_feed_78 rfl ?_
            have g5 := h.1
            replace h := h.2
            refine Ev.getR dRe_feed_79 (Or.inl fRe_13) rfl g5 ?_
            refine Ev.aload_n dRe_feed_82 rfl ?_
            refine Ev.getI dRe_feed_83 (Or.inl fRe_118) rfl g5 ?_
            refine Ev.iload dRe_feed_86 rfl ?_
            refine Ev.bipush (v := 24) dRe_feed_88 (by decide) ?_
            refine Ev.bipush (v := 8) dRe_feed_90 (by decide) ?_
            refine Ev.iload dRe_feed_92 rfl ?_
            refine Ev.iconst (v := 4) dRe_feed_94 (by decide) ?_
            refine Ev.irem dRe_feed_95 (by decide) ?_
            refine Ev.imul dRe_feed_96 ?_
            refine Ev.isub dRe_feed_97 ?_
            refine Ev.ishr dRe_feed_98 ?_
            refine Ev.sipush (v := 255) dRe_feed_99 (by decide) ?_
            refine Ev.iand dRe_feed_102 ?_
            have g6 := h.1
            replace h := h.2
            have g7 := h.1
            replace h := h.2
            refine Ev.iast2 dRe_feed_103 g6 g7 ?_
            refine Ev.aload_n dRe_feed_104 rfl ?_
            refine Ev.dup dRe_feed_105 rfl ?_
            refine Ev.getI dRe_feed_106 (Or.inl fRe_118) rfl g5 ?_
            refine Ev.iconst (v := 1) dRe_feed_109 (by decide) ?_
            refine Ev.iadd dRe_feed_110 ?_
            refine Ev.putI dRe_feed_111 ⟨_, Or.inl ⟨fRe_118, (fun h => by cases h)⟩⟩ rfl ⟨rfl, rfl⟩ g5 ?_
            exact h
        · replace h := h.2 c
          refine Ev.iload_n dRe_feed_58 rfl ?_
          refine Ev.goto 76 dRe_feed_59 (by decide) ?_
          refine Ev.istore dRe_feed_76 (by decide) ?_
          show Ev l G d mRe_feed (_ + _) [.ref a0, .int x1, .int x2, .int x3, .int x4, .int x5, .int x6, .int x3] [] M bc bs Φ
          refine Ev.aload_n dRe_feed_78 rfl ?_
          have g8 := h.1
          replace h := h.2
          refine Ev.getR dRe_feed_79 (Or.inl fRe_13) rfl g8 ?_
          refine Ev.aload_n dRe_feed_82 rfl ?_
          refine Ev.getI dRe_feed_83 (Or.inl fRe_118) rfl g8 ?_
          refine Ev.iload dRe_feed_86 rfl ?_
          refine Ev.bipush (v := 24) dRe_feed_88 (by decide) ?_
          refine Ev.bipush (v := 8) dRe_feed_90 (by decide) ?_
          refine Ev.iload dRe_feed_92 rfl ?_
          refine Ev.iconst (v := 4) dRe_feed_94 (by decide) ?_
          refine Ev.irem dRe_feed_95 (by decide) ?_
          refine Ev.imul dRe_feed_96 ?_
          refine Ev.isub dRe_feed_97 ?_
          refine Ev.ishr dRe_feed_98 ?_
          refine Ev.sipush (v := 255) dRe_feed_99 (by decide) ?_
          refine Ev.iand dRe_feed_102 ?_
          have g9 := h.1
          replace h := h.2
          have g10 := h.1
          replace h := h.2
          refine Ev.iast2 dRe_feed_103 g9 g10 ?_
          refine Ev.aload_n dRe_feed_104 rfl ?_
          refine Ev.dup dRe_feed_105 rfl ?_
          refine Ev.getI dRe_feed_106 (Or.inl fRe_118) rfl g8 ?_
          refine Ev.iconst (v := 1) dRe_feed_109 (by decide) ?_
          refine Ev.iadd dRe_feed_110 ?_
          refine Ev.putI dRe_feed_111 ⟨_, Or.inl ⟨fRe_118, (fun h => by cases h)⟩⟩ rfl ⟨rfl, rfl⟩ g8 ?_
          exact h
      · replace h := h.2 c
        refine Ev.iload_n dRe_feed_47 rfl ?_
        refine Ev.goto 76 dRe_feed_48 (by decide) ?_
        refine Ev.istore dRe_feed_76 (by decide) ?_
        show Ev l G d mRe_feed (_ + _) [.ref a0, .int x1, .int x2, .int x3, .int x4, .int x5, .int x6, .int x2] [] M bc bs Φ
        refine Ev.aload_n dRe_feed_78 rfl ?_
        have g11 := h.1
        replace h := h.2
        refine Ev.getR dRe_feed_79 (Or.inl fRe_13) rfl g11 ?_
        refine Ev.aload_n dRe_feed_82 rfl ?_
        refine Ev.getI dRe_feed_83 (Or.inl fRe_118) rfl g11 ?_
        refine Ev.iload dRe_feed_86 rfl ?_
        refine Ev.bipush (v := 24) dRe_feed_88 (by decide) ?_
        refine Ev.bipush (v := 8) dRe_feed_90 (by decide) ?_
        refine Ev.iload dRe_feed_92 rfl ?_
        refine Ev.iconst (v := 4) dRe_feed_94 (by decide) ?_
        refine Ev.irem dRe_feed_95 (by decide) ?_
        refine Ev.imul dRe_feed_96 ?_
        refine Ev.isub dRe_feed_97 ?_
        refine Ev.ishr dRe_feed_98 ?_
        refine Ev.sipush (v := 255) dRe_feed_99 (by decide) ?_
        refine Ev.iand dRe_feed_102 ?_
        have g12 := h.1
        replace h := h.2
        have g13 := h.1
        replace h := h.2
        refine Ev.iast2 dRe_feed_103 g12 g13 ?_
        refine Ev.aload_n dRe_feed_104 rfl ?_
        refine Ev.dup dRe_feed_105 rfl ?_
        refine Ev.getI dRe_feed_106 (Or.inl fRe_118) rfl g11 ?_
        refine Ev.iconst (v := 1) dRe_feed_109 (by decide) ?_
        refine Ev.iadd dRe_feed_110 ?_
        refine Ev.putI dRe_feed_111 ⟨_, Or.inl ⟨fRe_118, (fun h => by cases h)⟩⟩ rfl ⟨rfl, rfl⟩ g11 ?_
        exact h
    · replace h := h.2 c
      refine Ev.iload_n dRe_feed_36 rfl ?_
      refine Ev.goto 76 dRe_feed_37 (by decide) ?_
      refine Ev.istore dRe_feed_76 (by decide) ?_
      show Ev l G d mRe_feed (_ + _) [.ref a0, .int x1, .int x2, .int x3, .int x4, .int x5, .int x6, .int x1] [] M bc bs Φ
      refine Ev.aload_n dRe_feed_78 rfl ?_
      have g14 := h.1
      replace h := h.2
      refine Ev.getR dRe_feed_79 (Or.inl fRe_13) rfl g14 ?_
      refine Ev.aload_n dRe_feed_82 rfl ?_
      refine Ev.getI dRe_feed_83 (Or.inl fRe_118) rfl g14 ?_
      refine Ev.iload dRe_feed_86 rfl ?_
      refine Ev.bipush (v := 24) dRe_feed_88 (by decide) ?_
      refine Ev.bipush (v := 8) dRe_feed_90 (by decide) ?_
      refine Ev.iload dRe_feed_92 rfl ?_
      refine Ev.iconst (v := 4) dRe_feed_94 (by decide) ?_
      refine Ev.irem dRe_feed_95 (by decide) ?_
      refine Ev.imul dRe_feed_96 ?_
      refine Ev.isub dRe_feed_97 ?_
      refine Ev.ishr dRe_feed_98 ?_
      refine Ev.sipush (v := 255) dRe_feed_99 (by decide) ?_
      refine Ev.iand dRe_feed_102 ?_
      have g15 := h.1
      replace h := h.2
      have g16 := h.1
      replace h := h.2
      refine Ev.iast2 dRe_feed_103 g15 g16 ?_
      refine Ev.aload_n dRe_feed_104 rfl ?_
      refine Ev.dup dRe_feed_105 rfl ?_
      refine Ev.getI dRe_feed_106 (Or.inl fRe_118) rfl g14 ?_
      refine Ev.iconst (v := 1) dRe_feed_109 (by decide) ?_
      refine Ev.iadd dRe_feed_110 ?_
      refine Ev.putI dRe_feed_111 ⟨_, Or.inl ⟨fRe_118, (fun h => by cases h)⟩⟩ rfl ⟨rfl, rfl⟩ g14 ?_
      exact h
theorem bRe_feed_114 {l : Launch} {G : Gx} {d : Nat} {bc bs : Nat} {Φ : OutV → Mm → Prop} (M : Mm) (a0 : Nat) (x1 : Int32) (x2 : Int32) (x3 : Int32) (x4 : Int32) (x5 : Int32) (x6 : Int32) (x7 : Int32)
    (h : Ev l G d mRe_feed 23 [.ref a0, .int x1, .int x2, .int x3, .int x4, .int x5, .int (x6 + 1), .int x7] [] M bc bs Φ) :
    Ev l G d mRe_feed 114 [.ref a0, .int x1, .int x2, .int x3, .int x4, .int x5, .int x6, .int x7] [] M bc bs Φ := by
  refine Ev.iinc (v := x6 + 1) dRe_feed_114 (by decide) rfl rfl ?_
  show Ev l G d mRe_feed (_ + _) [.ref a0, .int x1, .int x2, .int x3, .int x4, .int x5, .int (x6 + 1), .int x7] [] M bc bs Φ
  refine Ev.goto 23 dRe_feed_117 (by decide) ?_
  exact h
def mRe_row : MR := (⟨"BowingRowModel", "row", "(I)I"⟩, prog_14_method_22_code, 4, (Option.some .int))
theorem oRe_row : MOK mRe_row 1 := ⟨lwg_of 1475 (by decide +kernel) (by decide +kernel), lwg_of 103 (by decide +kernel) (by decide +kernel), ⟨by decide +kernel, by decide +kernel⟩, by decide +kernel, by decide⟩
theorem iRe_row : Cond.instanceMethod mRe_row.1 ∈ lwg := lwg_of 1473 (by decide +kernel) (by decide +kernel)
theorem sRe_row : Cond.selects mRe_row.1.cls mRe_row.1 mRe_row.1 ∈ lwg := lwg_of 1474 (by decide +kernel) (by decide +kernel)
theorem dRe_row_0 : decode mRe_row.2.1 0 = .ok (.aload_n 0, 1) := by decide +kernel
theorem dRe_row_1 : decode mRe_row.2.1 1 = .ok (.iconst 0, 1) := by decide +kernel
theorem dRe_row_2 : decode mRe_row.2.1 2 = .ok (.putfield 115, 3) := by decide +kernel
theorem dRe_row_5 : decode mRe_row.2.1 5 = .ok (.aload_n 0, 1) := by decide +kernel
theorem dRe_row_6 : decode mRe_row.2.1 6 = .ok (.iload_n 1, 1) := by decide +kernel
theorem dRe_row_7 : decode mRe_row.2.1 7 = .ok (.iconst 0, 1) := by decide +kernel
theorem dRe_row_8 : decode mRe_row.2.1 8 = .ok (.aload_n 0, 1) := by decide +kernel
theorem dRe_row_9 : decode mRe_row.2.1 9 = .ok (.getfield 118, 3) := by decide +kernel
theorem dRe_row_12 : decode mRe_row.2.1 12 = .ok (.invokestatic 149, 3) := by decide +kernel
theorem dRe_row_15 : decode mRe_row.2.1 15 = .ok (.ifCond .ne 7, 3) := by decide +kernel
theorem dRe_row_18 : decode mRe_row.2.1 18 = .ok (.iconst 1, 1) := by decide +kernel
theorem dRe_row_19 : decode mRe_row.2.1 19 = .ok (.goto 4, 3) := by decide +kernel
theorem dRe_row_22 : decode mRe_row.2.1 22 = .ok (.iconst 0, 1) := by decide +kernel
theorem dRe_row_23 : decode mRe_row.2.1 23 = .ok (.iconst 1, 1) := by decide +kernel
theorem dRe_row_24 : decode mRe_row.2.1 24 = .ok (.invokevirtual 196, 3) := by decide +kernel
theorem dRe_row_27 : decode mRe_row.2.1 27 = .ok (.ifCond .eq 5, 3) := by decide +kernel
theorem dRe_row_30 : decode mRe_row.2.1 30 = .ok (.iconst 0, 1) := by decide +kernel
theorem dRe_row_31 : decode mRe_row.2.1 31 = .ok (.ireturn, 1) := by decide +kernel
theorem dRe_row_32 : decode mRe_row.2.1 32 = .ok (.aload_n 0, 1) := by decide +kernel
theorem dRe_row_33 : decode mRe_row.2.1 33 = .ok (.iload_n 1, 1) := by decide +kernel
theorem dRe_row_34 : decode mRe_row.2.1 34 = .ok (.invokevirtual 200, 3) := by decide +kernel
theorem dRe_row_37 : decode mRe_row.2.1 37 = .ok (.aload_n 0, 1) := by decide +kernel
theorem dRe_row_38 : decode mRe_row.2.1 38 = .ok (.iconst 0, 1) := by decide +kernel
theorem dRe_row_39 : decode mRe_row.2.1 39 = .ok (.putfield 182, 3) := by decide +kernel
theorem dRe_row_42 : decode mRe_row.2.1 42 = .ok (.aload_n 0, 1) := by decide +kernel
theorem dRe_row_43 : decode mRe_row.2.1 43 = .ok (.invokevirtual 137, 3) := by decide +kernel
theorem dRe_row_46 : decode mRe_row.2.1 46 = .ok (.aload_n 0, 1) := by decide +kernel
theorem dRe_row_47 : decode mRe_row.2.1 47 = .ok (.getfield 131, 3) := by decide +kernel
theorem dRe_row_50 : decode mRe_row.2.1 50 = .ok (.ifCond .ne 25, 3) := by decide +kernel
theorem dRe_row_53 : decode mRe_row.2.1 53 = .ok (.aload_n 0, 1) := by decide +kernel
theorem dRe_row_54 : decode mRe_row.2.1 54 = .ok (.getfield 124, 3) := by decide +kernel
theorem dRe_row_57 : decode mRe_row.2.1 57 = .ok (.aload_n 0, 1) := by decide +kernel
theorem dRe_row_58 : decode mRe_row.2.1 58 = .ok (.getfield 121, 3) := by decide +kernel
theorem dRe_row_61 : decode mRe_row.2.1 61 = .ok (.if_icmp .ge 14, 3) := by decide +kernel
theorem dRe_row_64 : decode mRe_row.2.1 64 = .ok (.aload_n 0, 1) := by decide +kernel
theorem dRe_row_65 : decode mRe_row.2.1 65 = .ok (.invokevirtual 203, 3) := by decide +kernel
theorem dRe_row_68 : decode mRe_row.2.1 68 = .ok (.aload_n 0, 1) := by decide +kernel
theorem dRe_row_69 : decode mRe_row.2.1 69 = .ok (.invokevirtual 137, 3) := by decide +kernel
theorem dRe_row_72 : decode mRe_row.2.1 72 = .ok (.goto (-26), 3) := by decide +kernel
theorem dRe_row_75 : decode mRe_row.2.1 75 = .ok (.aload_n 0, 1) := by decide +kernel
theorem dRe_row_76 : decode mRe_row.2.1 76 = .ok (.aload_n 0, 1) := by decide +kernel
theorem dRe_row_77 : decode mRe_row.2.1 77 = .ok (.getfield 134, 3) := by decide +kernel
theorem dRe_row_80 : decode mRe_row.2.1 80 = .ok (.putfield 9, 3) := by decide +kernel
theorem dRe_row_83 : decode mRe_row.2.1 83 = .ok (.aload_n 0, 1) := by decide +kernel
theorem dRe_row_84 : decode mRe_row.2.1 84 = .ok (.getfield 131, 3) := by decide +kernel
theorem dRe_row_87 : decode mRe_row.2.1 87 = .ok (.ifCond .eq 11, 3) := by decide +kernel
theorem dRe_row_90 : decode mRe_row.2.1 90 = .ok (.aload_n 0, 1) := by decide +kernel
theorem dRe_row_91 : decode mRe_row.2.1 91 = .ok (.getfield 131, 3) := by decide +kernel
theorem dRe_row_94 : decode mRe_row.2.1 94 = .ok (.bipush 10, 2) := by decide +kernel
theorem dRe_row_96 : decode mRe_row.2.1 96 = .ok (.isub, 1) := by decide +kernel
theorem dRe_row_97 : decode mRe_row.2.1 97 = .ok (.ireturn, 1) := by decide +kernel
theorem dRe_row_98 : decode mRe_row.2.1 98 = .ok (.aload_n 0, 1) := by decide +kernel
theorem dRe_row_99 : decode mRe_row.2.1 99 = .ok (.aload_n 0, 1) := by decide +kernel
theorem dRe_row_100 : decode mRe_row.2.1 100 = .ok (.getfield 182, 3) := by decide +kernel
theorem dRe_row_103 : decode mRe_row.2.1 103 = .ok (.putfield 206, 3) := by decide +kernel
theorem dRe_row_106 : decode mRe_row.2.1 106 = .ok (.iconst 0, 1) := by decide +kernel
theorem dRe_row_107 : decode mRe_row.2.1 107 = .ok (.istore_n 2, 1) := by decide +kernel
theorem dRe_row_108 : decode mRe_row.2.1 108 = .ok (.iload_n 2, 1) := by decide +kernel
theorem dRe_row_109 : decode mRe_row.2.1 109 = .ok (.bipush 8, 2) := by decide +kernel
theorem dRe_row_111 : decode mRe_row.2.1 111 = .ok (.if_icmp .ge 39, 3) := by decide +kernel
theorem dRe_row_114 : decode mRe_row.2.1 114 = .ok (.iconst 0, 1) := by decide +kernel
theorem dRe_row_115 : decode mRe_row.2.1 115 = .ok (.istore_n 3, 1) := by decide +kernel
theorem dRe_row_116 : decode mRe_row.2.1 116 = .ok (.iload_n 3, 1) := by decide +kernel
theorem dRe_row_117 : decode mRe_row.2.1 117 = .ok (.bipush 8, 2) := by decide +kernel
theorem dRe_row_119 : decode mRe_row.2.1 119 = .ok (.if_icmp .ge 25, 3) := by decide +kernel
theorem dRe_row_122 : decode mRe_row.2.1 122 = .ok (.aload_n 0, 1) := by decide +kernel
theorem dRe_row_123 : decode mRe_row.2.1 123 = .ok (.getfield 22, 3) := by decide +kernel
theorem dRe_row_126 : decode mRe_row.2.1 126 = .ok (.iload_n 2, 1) := by decide +kernel
theorem dRe_row_127 : decode mRe_row.2.1 127 = .ok (.aaload, 1) := by decide +kernel
theorem dRe_row_128 : decode mRe_row.2.1 128 = .ok (.iload_n 3, 1) := by decide +kernel
theorem dRe_row_129 : decode mRe_row.2.1 129 = .ok (.aload_n 0, 1) := by decide +kernel
theorem dRe_row_130 : decode mRe_row.2.1 130 = .ok (.getfield 19, 3) := by decide +kernel
theorem dRe_row_133 : decode mRe_row.2.1 133 = .ok (.iload_n 2, 1) := by decide +kernel
theorem dRe_row_134 : decode mRe_row.2.1 134 = .ok (.aaload, 1) := by decide +kernel
theorem dRe_row_135 : decode mRe_row.2.1 135 = .ok (.iload_n 3, 1) := by decide +kernel
theorem dRe_row_136 : decode mRe_row.2.1 136 = .ok (.iaload, 1) := by decide +kernel
theorem dRe_row_137 : decode mRe_row.2.1 137 = .ok (.iastore, 1) := by decide +kernel
theorem dRe_row_138 : decode mRe_row.2.1 138 = .ok (.iinc 3 1, 3) := by decide +kernel
theorem dRe_row_141 : decode mRe_row.2.1 141 = .ok (.goto (-25), 3) := by decide +kernel
theorem dRe_row_144 : decode mRe_row.2.1 144 = .ok (.iinc 2 1, 3) := by decide +kernel
theorem dRe_row_147 : decode mRe_row.2.1 147 = .ok (.goto (-39), 3) := by decide +kernel
theorem dRe_row_150 : decode mRe_row.2.1 150 = .ok (.aload_n 0, 1) := by decide +kernel
theorem dRe_row_151 : decode mRe_row.2.1 151 = .ok (.iconst 0, 1) := by decide +kernel
theorem dRe_row_152 : decode mRe_row.2.1 152 = .ok (.putfield 209, 3) := by decide +kernel
theorem dRe_row_155 : decode mRe_row.2.1 155 = .ok (.aload_n 0, 1) := by decide +kernel
theorem dRe_row_156 : decode mRe_row.2.1 156 = .ok (.iconst 0, 1) := by decide +kernel
theorem dRe_row_157 : decode mRe_row.2.1 157 = .ok (.putfield 212, 3) := by decide +kernel
theorem dRe_row_160 : decode mRe_row.2.1 160 = .ok (.aload_n 0, 1) := by decide +kernel
theorem dRe_row_161 : decode mRe_row.2.1 161 = .ok (.getfield 206, 3) := by decide +kernel
theorem dRe_row_164 : decode mRe_row.2.1 164 = .ok (.ireturn, 1) := by decide +kernel
def mRe_in : MR := (⟨"BowingRowModel", "in", "(III)Z"⟩, prog_14_method_4_code, 3, (Option.some .boolean))
theorem oRe_in : MOK mRe_in 3 := ⟨lwg_of 1478 (by decide +kernel) (by decide +kernel), lwg_of 103 (by decide +kernel) (by decide +kernel), ⟨by decide +kernel, by decide +kernel⟩, by decide +kernel, by decide⟩
theorem iRe_in : Cond.static mRe_in.1 ∈ lwg := lwg_of 1477 (by decide +kernel) (by decide +kernel)
theorem w1476 : Cond.methodLink "BowingRowModel" 149 ⟨"BowingRowModel", "in", "(III)Z"⟩ ∈ lwg := lwg_of 1476 (by decide +kernel) (by decide +kernel)
theorem bRe_row_0 {l : Launch} {G : Gx} {d : Nat} {bc bs : Nat} {Φ : OutV → Mm → Prop} (M : Mm) (a0 : Nat) (x1 : Int32)
    (h : ((m_sh M a0).1 = 11) ∧ CallVC l G d mRe_row 15 [.ref a0, .int x1, .null, .null] [.ref a0] mRe_in [.int x1, .int 0, .int (m_i (m_si M a0 0 0) a0 1)] (m_si M a0 0 0) bc bs Φ) :
    Ev l G d mRe_row 0 [.ref a0, .int x1, .null, .null] [] M bc bs Φ := by
  refine Ev.aload_n dRe_row_0 rfl ?_
  refine Ev.iconst (v := 0) dRe_row_1 (by decide) ?_
  have g1 := h.1
  replace h := h.2
  refine Ev.putI dRe_row_2 ⟨_, Or.inl ⟨fRe_115, (fun h => by cases h)⟩⟩ rfl ⟨rfl, rfl⟩ g1 ?_
  refine Ev.aload_n dRe_row_5 rfl ?_
  refine Ev.iload_n dRe_row_6 rfl ?_
  refine Ev.iconst (v := 0) dRe_row_7 (by decide) ?_
  refine Ev.aload_n dRe_row_8 rfl ?_
  refine Ev.getI dRe_row_9 (Or.inl fRe_118) rfl g1 ?_
  exact Ev.vcS (z := mRe_in) [.int x1, .int 0, .int (m_i (m_si M a0 0 0) a0 1)] [.ref a0] rfl dRe_row_12 oRe_in rfl w1476 iRe_in (Nat.le_of_ble_eq_true rfl) h
def mRe_bad : MR := (⟨"BowingRowModel", "bad", "(ZI)Z"⟩, prog_14_method_3_code, 3, (Option.some .boolean))
theorem oRe_bad : MOK mRe_bad 2 := ⟨lwg_of 1482 (by decide +kernel) (by decide +kernel), lwg_of 103 (by decide +kernel) (by decide +kernel), ⟨by decide +kernel, by decide +kernel⟩, by decide +kernel, by decide⟩
theorem iRe_bad : Cond.instanceMethod mRe_bad.1 ∈ lwg := lwg_of 1481 (by decide +kernel) (by decide +kernel)
theorem sRe_bad : Cond.selects mRe_bad.1.cls mRe_bad.1 mRe_bad.1 ∈ lwg := lwg_of 38 (by decide +kernel) (by decide +kernel)
theorem w1479 : Cond.methodLink "BowingRowModel" 196 ⟨"BowingRowModel", "bad", "(ZI)Z"⟩ ∈ lwg := lwg_of 1479 (by decide +kernel) (by decide +kernel)
theorem bRe_row_15 {l : Launch} {G : Gx} {d : Nat} {bc bs : Nat} {Φ : OutV → Mm → Prop} (M : Mm) (a0 : Nat) (x1 : Int32) (u2 : Value) (u3 : Value) (r0 : Nat) (s1 : Int32)
    (h : (¬ s1 = 0 → ((m_sh M r0).1 = 11) ∧ CallVC l G d mRe_row 27 [.ref a0, .int x1, u2, u3] [] mRe_bad [.ref r0, .int 0, .int 1] M bc bs Φ) ∧ (s1 = 0 → ((m_sh M r0).1 = 11) ∧ CallVC l G d mRe_row 27 [.ref a0, .int x1, u2, u3] [] mRe_bad [.ref r0, .int 1, .int 1] M bc bs Φ)) :
    Ev l G d mRe_row 15 [.ref a0, .int x1, u2, u3] [.int s1, .ref r0] M bc bs Φ := by
  refine Ev.if_ne 22 (by decide) dRe_row_15 (fun c => ?_) (fun c => ?_)
  · replace h := h.1 c
    refine Ev.iconst (v := 0) dRe_row_22 (by decide) ?_
    refine Ev.iconst (v := 1) dRe_row_23 (by decide) ?_
    have g1 := h.1
    replace h := h.2
    exact Ev.vcV (z := mRe_bad) (ci := 11) [.int 0, .int 1] [] rfl dRe_row_24 oRe_bad rfl w1479 iRe_bad sRe_bad (by decide) rfl g1 (Nat.le_of_ble_eq_true rfl) h
  · replace h := h.2 c
    refine Ev.iconst (v := 1) dRe_row_18 (by decide) ?_
    refine Ev.goto 23 dRe_row_19 (by decide) ?_
    refine Ev.iconst (v := 1) dRe_row_23 (by decide) ?_
    have g2 := h.1
    replace h := h.2
    exact Ev.vcV (z := mRe_bad) (ci := 11) [.int 1, .int 1] [] rfl dRe_row_24 oRe_bad rfl w1479 iRe_bad sRe_bad (by decide) rfl g2 (Nat.le_of_ble_eq_true rfl) h
def mRe_starts : MR := (⟨"BowingRowModel", "starts", "(I)V"⟩, prog_14_method_19_code, 2, none)
theorem oRe_starts : MOK mRe_starts 1 := ⟨lwg_of 1486 (by decide +kernel) (by decide +kernel), lwg_of 103 (by decide +kernel) (by decide +kernel), ⟨by decide +kernel, by decide +kernel⟩, by decide +kernel, by decide⟩
theorem iRe_starts : Cond.instanceMethod mRe_starts.1 ∈ lwg := lwg_of 1485 (by decide +kernel) (by decide +kernel)
theorem sRe_starts : Cond.selects mRe_starts.1.cls mRe_starts.1 mRe_starts.1 ∈ lwg := lwg_of 39 (by decide +kernel) (by decide +kernel)
theorem w1483 : Cond.methodLink "BowingRowModel" 200 ⟨"BowingRowModel", "starts", "(I)V"⟩ ∈ lwg := lwg_of 1483 (by decide +kernel) (by decide +kernel)
theorem bRe_row_27 {l : Launch} {G : Gx} {d : Nat} {bc bs : Nat} {Φ : OutV → Mm → Prop} (M : Mm) (a0 : Nat) (x1 : Int32) (u2 : Value) (u3 : Value) (s0 : Int32)
    (h : (s0 = 0 → ((m_sh M a0).1 = 11) ∧ CallVC l G d mRe_row 37 [.ref a0, .int x1, u2, u3] [] mRe_starts [.ref a0, .int x1] M bc bs Φ) ∧ (¬ s0 = 0 → Φ (.inl (some (.int 0))) M)) :
    Ev l G d mRe_row 27 [.ref a0, .int x1, u2, u3] [.int s0] M bc bs Φ := by
  refine Ev.if_eq 32 (by decide) dRe_row_27 (fun c => ?_) (fun c => ?_)
  · replace h := h.1 c
    refine Ev.aload_n dRe_row_32 rfl ?_
    refine Ev.iload_n dRe_row_33 rfl ?_
    have g1 := h.1
    replace h := h.2
    exact Ev.vcV (z := mRe_starts) (ci := 11) [.int x1] [] rfl dRe_row_34 oRe_starts rfl w1483 iRe_starts sRe_starts (by decide) rfl g1 (Nat.le_of_ble_eq_true rfl) h
  · replace h := h.2 c
    refine Ev.iconst (v := 0) dRe_row_30 (by decide) ?_
    exact Ev.iret dRe_row_31 rfl rfl h
theorem fRe_182 : FOK "BowingRowModel" 182 11 10 false := ⟨RX12, TX12, nFd 11, rfl, by decide, rfl, by decide, rfl, lwg_of 1293 (by decide +kernel) (by decide +kernel)⟩
def mRe_blanks : MR := (⟨"BowingRowModel", "blanks", "()V"⟩, prog_14_method_7_code, 1, none)
theorem oRe_blanks : MOK mRe_blanks 0 := ⟨lwg_of 1490 (by decide +kernel) (by decide +kernel), lwg_of 103 (by decide +kernel) (by decide +kernel), ⟨by decide +kernel, by decide +kernel⟩, by decide +kernel, by decide⟩
theorem iRe_blanks : Cond.instanceMethod mRe_blanks.1 ∈ lwg := lwg_of 1489 (by decide +kernel) (by decide +kernel)
theorem sRe_blanks : Cond.selects mRe_blanks.1.cls mRe_blanks.1 mRe_blanks.1 ∈ lwg := lwg_of 40 (by decide +kernel) (by decide +kernel)
theorem w1487 : Cond.methodLink "BowingRowModel" 137 ⟨"BowingRowModel", "blanks", "()V"⟩ ∈ lwg := lwg_of 1487 (by decide +kernel) (by decide +kernel)
theorem bRe_row_37 {l : Launch} {G : Gx} {d : Nat} {bc bs : Nat} {Φ : OutV → Mm → Prop} (M : Mm) (a0 : Nat) (x1 : Int32) (u2 : Value) (u3 : Value)
    (h : ((m_sh M a0).1 = 11) ∧ CallVC l G d mRe_row 46 [.ref a0, .int x1, u2, u3] [] mRe_blanks [.ref a0] (m_si M a0 10 0) bc bs Φ) :
    Ev l G d mRe_row 37 [.ref a0, .int x1, u2, u3] [] M bc bs Φ := by
  refine Ev.aload_n dRe_row_37 rfl ?_
  refine Ev.iconst (v := 0) dRe_row_38 (by decide) ?_
  have g1 := h.1
  replace h := h.2
  refine Ev.putI dRe_row_39 ⟨_, Or.inl ⟨fRe_182, (fun h => by cases h)⟩⟩ rfl ⟨rfl, rfl⟩ g1 ?_
  refine Ev.aload_n dRe_row_42 rfl ?_
  exact Ev.vcV (z := mRe_blanks) (ci := 11) [] [] rfl dRe_row_43 oRe_blanks rfl w1487 iRe_blanks sRe_blanks (by decide) rfl g1 (Nat.le_of_ble_eq_true rfl) h
theorem fRe_131 : FOK "BowingRowModel" 131 11 5 false := ⟨RX12, TX12, nFd 11, rfl, by decide, rfl, by decide, rfl, lwg_of 1288 (by decide +kernel) (by decide +kernel)⟩
theorem fRe_124 : FOK "BowingRowModel" 124 11 4 false := ⟨RX12, TX12, nFd 11, rfl, by decide, rfl, by decide, rfl, lwg_of 1287 (by decide +kernel) (by decide +kernel)⟩
theorem fRe_121 : FOK "BowingRowModel" 121 11 2 false := ⟨RX12, TX12, nFd 11, rfl, by decide, rfl, by decide, rfl, lwg_of 1285 (by decide +kernel) (by decide +kernel)⟩
def mRe_clause : MR := (⟨"BowingRowModel", "clause", "()V"⟩, prog_14_method_20_code, 4, none)
theorem oRe_clause : MOK mRe_clause 0 := ⟨lwg_of 1498 (by decide +kernel) (by decide +kernel), lwg_of 103 (by decide +kernel) (by decide +kernel), ⟨by decide +kernel, by decide +kernel⟩, by decide +kernel, by decide⟩
theorem iRe_clause : Cond.instanceMethod mRe_clause.1 ∈ lwg := lwg_of 1497 (by decide +kernel) (by decide +kernel)
theorem sRe_clause : Cond.selects mRe_clause.1.cls mRe_clause.1 mRe_clause.1 ∈ lwg := lwg_of 42 (by decide +kernel) (by decide +kernel)
theorem w1495 : Cond.methodLink "BowingRowModel" 203 ⟨"BowingRowModel", "clause", "()V"⟩ ∈ lwg := lwg_of 1495 (by decide +kernel) (by decide +kernel)
theorem bRe_row_46 {l : Launch} {G : Gx} {d : Nat} {bc bs : Nat} {Φ : OutV → Mm → Prop} (M : Mm) (a0 : Nat) (x1 : Int32) (u2 : Value) (u3 : Value)
    (h : ((m_sh M a0).1 = 11) ∧ (¬ (m_i M a0 5) = 0 → Ev l G d mRe_row 75 [.ref a0, .int x1, u2, u3] [] M bc bs Φ) ∧ ((m_i M a0 5) = 0 → ((m_i M a0 2) ≤ (m_i M a0 4) → Ev l G d mRe_row 75 [.ref a0, .int x1, u2, u3] [] M bc bs Φ) ∧ (¬ (m_i M a0 2) ≤ (m_i M a0 4) → CallVC l G d mRe_row 68 [.ref a0, .int x1, u2, u3] [] mRe_clause [.ref a0] M bc bs Φ))) :
    Ev l G d mRe_row 46 [.ref a0, .int x1, u2, u3] [] M bc bs Φ := by
  refine Ev.aload_n dRe_row_46 rfl ?_
  have g1 := h.1
  replace h := h.2
  refine Ev.getI dRe_row_47 (Or.inl fRe_131) rfl g1 ?_
  refine Ev.if_ne 75 (by decide) dRe_row_50 (fun c => ?_) (fun c => ?_)
  · replace h := h.1 c
    exact h
  · replace h := h.2 c
    refine Ev.aload_n dRe_row_53 rfl ?_
    refine Ev.getI dRe_row_54 (Or.inl fRe_124) rfl g1 ?_
    refine Ev.aload_n dRe_row_57 rfl ?_
    refine Ev.getI dRe_row_58 (Or.inl fRe_121) rfl g1 ?_
    refine Ev.icmp_ge 75 (by decide) dRe_row_61 (fun c => ?_) (fun c => ?_)
    · replace h := h.1 c
      exact h
    · replace h := h.2 c
      refine Ev.aload_n dRe_row_64 rfl ?_
      exact Ev.vcV (z := mRe_clause) (ci := 11) [] [] rfl dRe_row_65 oRe_clause rfl w1495 iRe_clause sRe_clause (by decide) rfl g1 (Nat.le_of_ble_eq_true rfl) h
theorem bRe_row_68 {l : Launch} {G : Gx} {d : Nat} {bc bs : Nat} {Φ : OutV → Mm → Prop} (M : Mm) (a0 : Nat) (x1 : Int32) (u2 : Value) (u3 : Value)
    (h : ((m_sh M a0).1 = 11) ∧ CallVC l G d mRe_row 72 [.ref a0, .int x1, u2, u3] [] mRe_blanks [.ref a0] M bc bs Φ) :
    Ev l G d mRe_row 68 [.ref a0, .int x1, u2, u3] [] M bc bs Φ := by
  refine Ev.aload_n dRe_row_68 rfl ?_
  have g1 := h.1
  replace h := h.2
  exact Ev.vcV (z := mRe_blanks) (ci := 11) [] [] rfl dRe_row_69 oRe_blanks rfl w1487 iRe_blanks sRe_blanks (by decide) rfl g1 (Nat.le_of_ble_eq_true rfl) h
theorem bRe_row_72 {l : Launch} {G : Gx} {d : Nat} {bc bs : Nat} {Φ : OutV → Mm → Prop} (M : Mm) (a0 : Nat) (x1 : Int32) (u2 : Value) (u3 : Value)
    (h : Ev l G d mRe_row 46 [.ref a0, .int x1, u2, u3] [] M bc bs Φ) :
    Ev l G d mRe_row 72 [.ref a0, .int x1, u2, u3] [] M bc bs Φ := by
  refine Ev.goto 46 dRe_row_72 (by decide) ?_
  exact h
theorem fRe_134 : FOK "BowingRowModel" 134 11 6 false := ⟨RX12, TX12, nFd 11, rfl, by decide, rfl, by decide, rfl, lwg_of 1289 (by decide +kernel) (by decide +kernel)⟩
theorem fRe_206 : FOK "BowingRowModel" 206 11 11 false := ⟨RX12, TX12, nFd 11, rfl, by decide, rfl, by decide, rfl, lwg_of 1294 (by decide +kernel) (by decide +kernel)⟩
theorem bRe_row_75 {l : Launch} {G : Gx} {d : Nat} {bc bs : Nat} {Φ : OutV → Mm → Prop} (M : Mm) (a0 : Nat) (x1 : Int32) (u2 : Value) (u3 : Value)
    (h : ((m_sh M a0).1 = 11) ∧ ((m_i (m_si M a0 3 (m_i M a0 6)) a0 5) = 0 → Ev l G d mRe_row 106 [.ref a0, .int x1, u2, u3] [] (m_si (m_si M a0 3 (m_i M a0 6)) a0 11 (m_i (m_si M a0 3 (m_i M a0 6)) a0 10)) bc bs Φ) ∧ (¬ (m_i (m_si M a0 3 (m_i M a0 6)) a0 5) = 0 → Φ (.inl (some (.int ((m_i (m_si M a0 3 (m_i M a0 6)) a0 5) - 10)))) (m_si M a0 3 (m_i M a0 6)))) :
    Ev l G d mRe_row 75 [.ref a0, .int x1, u2, u3] [] M bc bs Φ := by
  refine Ev.aload_n dRe_row_75 rfl ?_
  refine Ev.aload_n dRe_row_76 rfl ?_
  have g1 := h.1
  replace h := h.2
  refine Ev.getI dRe_row_77 (Or.inl fRe_134) rfl g1 ?_
  refine Ev.putI dRe_row_80 ⟨_, Or.inl ⟨fRe_9, (fun h => by cases h)⟩⟩ rfl ⟨rfl, rfl⟩ g1 ?_
  refine Ev.aload_n dRe_row_83 rfl ?_
  refine Ev.getI dRe_row_84 (Or.inl fRe_131) rfl g1 ?_
  refine Ev.if_eq 98 (by decide) dRe_row_87 (fun c => ?_) (fun c => ?_)
  · replace h := h.1 c
    refine Ev.aload_n dRe_row_98 rfl ?_
    refine Ev.aload_n dRe_row_99 rfl ?_
    refine Ev.getI dRe_row_100 (Or.inl fRe_182) rfl g1 ?_
    refine Ev.putI dRe_row_103 ⟨_, Or.inl ⟨fRe_206, (fun h => by cases h)⟩⟩ rfl ⟨rfl, rfl⟩ g1 ?_
    exact h
  · replace h := h.2 c
    refine Ev.aload_n dRe_row_90 rfl ?_
    refine Ev.getI dRe_row_91 (Or.inl fRe_131) rfl g1 ?_
    refine Ev.bipush (v := 10) dRe_row_94 (by decide) ?_
    refine Ev.isub dRe_row_96 ?_
    exact Ev.iret dRe_row_97 rfl rfl h
theorem bRe_row_106 {l : Launch} {G : Gx} {d : Nat} {bc bs : Nat} {Φ : OutV → Mm → Prop} (M : Mm) (a0 : Nat) (x1 : Int32) (u2 : Value) (u3 : Value)
    (h : Ev l G d mRe_row 108 [.ref a0, .int x1, .int 0, u3] [] M bc bs Φ) :
    Ev l G d mRe_row 106 [.ref a0, .int x1, u2, u3] [] M bc bs Φ := by
  refine Ev.iconst (v := 0) dRe_row_106 (by decide) ?_
  refine Ev.istore_n dRe_row_107 (by decide) ?_
  show Ev l G d mRe_row (_ + _) [.ref a0, .int x1, .int 0, u3] [] M bc bs Φ
  exact h
theorem fRe_209 : FOK "BowingRowModel" 209 11 27 false := ⟨RX12, TX12, nFd 11, rfl, by decide, rfl, by decide, rfl, lwg_of 1310 (by decide +kernel) (by decide +kernel)⟩
theorem fRe_212 : FOK "BowingRowModel" 212 11 28 false := ⟨RX12, TX12, nFd 11, rfl, by decide, rfl, by decide, rfl, lwg_of 1311 (by decide +kernel) (by decide +kernel)⟩
theorem bRe_row_108 {l : Launch} {G : Gx} {d : Nat} {bc bs : Nat} {Φ : OutV → Mm → Prop} (M : Mm) (a0 : Nat) (x1 : Int32) (x2 : Int32) (u3 : Value)
    (h : (8 ≤ x2 → ((m_sh M a0).1 = 11) ∧ Ev l G d mRe_row 160 [.ref a0, .int x1, .int x2, u3] [] (m_si (m_si M a0 27 0) a0 28 0) bc bs Φ) ∧ (¬ 8 ≤ x2 → Ev l G d mRe_row 116 [.ref a0, .int x1, .int x2, .int 0] [] M bc bs Φ)) :
    Ev l G d mRe_row 108 [.ref a0, .int x1, .int x2, u3] [] M bc bs Φ := by
  refine Ev.iload_n dRe_row_108 rfl ?_
  refine Ev.bipush (v := 8) dRe_row_109 (by decide) ?_
  refine Ev.icmp_ge 150 (by decide) dRe_row_111 (fun c => ?_) (fun c => ?_)
  · replace h := h.1 c
    refine Ev.aload_n dRe_row_150 rfl ?_
    refine Ev.iconst (v := 0) dRe_row_151 (by decide) ?_
    have g1 := h.1
    replace h := h.2
    refine Ev.putI dRe_row_152 ⟨_, Or.inl ⟨fRe_209, (fun h => by cases h)⟩⟩ rfl ⟨rfl, rfl⟩ g1 ?_
    refine Ev.aload_n dRe_row_155 rfl ?_
    refine Ev.iconst (v := 0) dRe_row_156 (by decide) ?_
    refine Ev.putI dRe_row_157 ⟨_, Or.inl ⟨fRe_212, (fun h => by cases h)⟩⟩ rfl ⟨rfl, rfl⟩ g1 ?_
    exact h
  · replace h := h.2 c
    refine Ev.iconst (v := 0) dRe_row_114 (by decide) ?_
    refine Ev.istore_n dRe_row_115 (by decide) ?_
    show Ev l G d mRe_row (_ + _) [.ref a0, .int x1, .int x2, .int 0] [] M bc bs Φ
    exact h
theorem bRe_row_116 {l : Launch} {G : Gx} {d : Nat} {bc bs : Nat} {Φ : OutV → Mm → Prop} (M : Mm) (a0 : Nat) (x1 : Int32) (x2 : Int32) (x3 : Int32)
    (h : (8 ≤ x3 → Ev l G d mRe_row 108 [.ref a0, .int x1, .int (x2 + 1), .int x3] [] M bc bs Φ) ∧ (¬ 8 ≤ x3 → ((m_sh M a0).1 = 11) ∧ ((m_sh M (m_r M a0 13)).1 = 33) ∧ (vp_in x2 (m_sh M (m_r M a0 13)).2) ∧ ((m_sh M (m_r M a0 12)).1 = 33) ∧ (vp_in x2 (m_sh M (m_r M a0 12)).2) ∧ ((m_sh M (m_r M (m_r M a0 12) x2.toNatClampNeg)).1 = 20) ∧ (vp_in x3 (m_sh M (m_r M (m_r M a0 12) x2.toNatClampNeg)).2) ∧ ((m_sh M (m_r M (m_r M a0 13) x2.toNatClampNeg)).1 = 20) ∧ (vp_in x3 (m_sh M (m_r M (m_r M a0 13) x2.toNatClampNeg)).2) ∧ Ev l G d mRe_row 116 [.ref a0, .int x1, .int x2, .int (x3 + 1)] [] (m_si M (m_r M (m_r M a0 13) x2.toNatClampNeg) x3.toNatClampNeg (m_i M (m_r M (m_r M a0 12) x2.toNatClampNeg) x3.toNatClampNeg)) bc bs Φ)) :
    Ev l G d mRe_row 116 [.ref a0, .int x1, .int x2, .int x3] [] M bc bs Φ := by
  refine Ev.iload_n dRe_row_116 rfl ?_
  refine Ev.bipush (v := 8) dRe_row_117 (by decide) ?_
  refine Ev.icmp_ge 144 (by decide) dRe_row_119 (fun c => ?_) (fun c => ?_)
  · replace h := h.1 c
    refine Ev.iinc (v := x2 + 1) dRe_row_144 (by decide) rfl rfl ?_
    show Ev l G d mRe_row (_ + _) [.ref a0, .int x1, .int (x2 + 1), .int x3] [] M bc bs Φ
    refine Ev.goto 108 dRe_row_147 (by decide) ?_
    exact h
  · replace h := h.2 c
    refine Ev.aload_n dRe_row_122 rfl ?_
    have g1 := h.1
    replace h := h.2
    refine Ev.getR dRe_row_123 (Or.inl fRe_22) rfl g1 ?_
    refine Ev.iload_n dRe_row_126 rfl ?_
    have g2 := h.1
    replace h := h.2
    have g3 := h.1
    replace h := h.2
    refine Ev.aald2 33 (by decide) dRe_row_127 g2 g3 ?_
    refine Ev.iload_n dRe_row_128 rfl ?_
    refine Ev.aload_n dRe_row_129 rfl ?_
    refine Ev.getR dRe_row_130 (Or.inl fRe_19) rfl g1 ?_
    refine Ev.iload_n dRe_row_133 rfl ?_
    have g4 := h.1
    replace h := h.2
    have g5 := h.1
    replace h := h.2
    refine Ev.aald2 33 (by decide) dRe_row_134 g4 g5 ?_
    refine Ev.iload_n dRe_row_135 rfl ?_
    have g6 := h.1
    replace h := h.2
    have g7 := h.1
    replace h := h.2
    refine Ev.iald2 dRe_row_136 g6 g7 ?_
    have g8 := h.1
    replace h := h.2
    have g9 := h.1
    replace h := h.2
    refine Ev.iast2 dRe_row_137 g8 g9 ?_
    refine Ev.iinc (v := x3 + 1) dRe_row_138 (by decide) rfl rfl ?_
    show Ev l G d mRe_row (_ + _) [.ref a0, .int x1, .int x2, .int (x3 + 1)] [] (m_si M (m_r M (m_r M a0 13) x2.toNatClampNeg) x3.toNatClampNeg (m_i M (m_r M (m_r M a0 12) x2.toNatClampNeg) x3.toNatClampNeg)) bc bs Φ
    refine Ev.goto 116 dRe_row_141 (by decide) ?_
    exact h
theorem bRe_row_160 {l : Launch} {G : Gx} {d : Nat} {bc bs : Nat} {Φ : OutV → Mm → Prop} (M : Mm) (a0 : Nat) (x1 : Int32) (x2 : Int32) (u3 : Value)
    (h : ((m_sh M a0).1 = 11) ∧ Φ (.inl (some (.int (m_i M a0 11)))) M) :
    Ev l G d mRe_row 160 [.ref a0, .int x1, .int x2, u3] [] M bc bs Φ := by
  refine Ev.aload_n dRe_row_160 rfl ?_
  have g1 := h.1
  replace h := h.2
  refine Ev.getI dRe_row_161 (Or.inl fRe_206) rfl g1 ?_
  exact Ev.iret dRe_row_164 rfl rfl h
theorem dRe_in_0 : decode mRe_in.2.1 0 = .ok (.iload_n 0, 1) := by decide +kernel
theorem dRe_in_1 : decode mRe_in.2.1 1 = .ok (.iload_n 1, 1) := by decide +kernel
theorem dRe_in_2 : decode mRe_in.2.1 2 = .ok (.if_icmp .lt 12, 3) := by decide +kernel
theorem dRe_in_5 : decode mRe_in.2.1 5 = .ok (.iload_n 0, 1) := by decide +kernel
theorem dRe_in_6 : decode mRe_in.2.1 6 = .ok (.iload_n 2, 1) := by decide +kernel
theorem dRe_in_7 : decode mRe_in.2.1 7 = .ok (.if_icmp .gt 7, 3) := by decide +kernel
theorem dRe_in_10 : decode mRe_in.2.1 10 = .ok (.iconst 1, 1) := by decide +kernel
theorem dRe_in_11 : decode mRe_in.2.1 11 = .ok (.goto 4, 3) := by decide +kernel
theorem dRe_in_14 : decode mRe_in.2.1 14 = .ok (.iconst 0, 1) := by decide +kernel
theorem dRe_in_15 : decode mRe_in.2.1 15 = .ok (.ireturn, 1) := by decide +kernel
theorem bRe_in_0 {l : Launch} {G : Gx} {d : Nat} {bc bs : Nat} {Φ : OutV → Mm → Prop} (M : Mm) (x0 : Int32) (x1 : Int32) (x2 : Int32)
    (h : (x0 < x1 → Φ (.inl (some (.int 0))) M) ∧ (¬ x0 < x1 → (x2 < x0 → Φ (.inl (some (.int 0))) M) ∧ (¬ x2 < x0 → Φ (.inl (some (.int 1))) M))) :
    Ev l G d mRe_in 0 [.int x0, .int x1, .int x2] [] M bc bs Φ := by
  refine Ev.iload_n dRe_in_0 rfl ?_
  refine Ev.iload_n dRe_in_1 rfl ?_
  refine Ev.icmp_lt 14 (by decide) dRe_in_2 (fun c => ?_) (fun c => ?_)
  · replace h := h.1 c
    refine Ev.iconst (v := 0) dRe_in_14 (by decide) ?_
    exact Ev.iret dRe_in_15 rfl rfl h
  · replace h := h.2 c
    refine Ev.iload_n dRe_in_5 rfl ?_
    refine Ev.iload_n dRe_in_6 rfl ?_
    refine Ev.icmp_gt 14 (by decide) dRe_in_7 (fun c => ?_) (fun c => ?_)
    · replace h := h.1 c
      refine Ev.iconst (v := 0) dRe_in_14 (by decide) ?_
      exact Ev.iret dRe_in_15 rfl rfl h
    · replace h := h.2 c
      refine Ev.iconst (v := 1) dRe_in_10 (by decide) ?_
      refine Ev.goto 15 dRe_in_11 (by decide) ?_
      exact Ev.iret dRe_in_15 rfl rfl h
theorem dRe_bad_0 : decode mRe_bad.2.1 0 = .ok (.iload_n 1, 1) := by decide +kernel
theorem dRe_bad_1 : decode mRe_bad.2.1 1 = .ok (.ifCond .eq 15, 3) := by decide +kernel
theorem dRe_bad_4 : decode mRe_bad.2.1 4 = .ok (.aload_n 0, 1) := by decide +kernel
theorem dRe_bad_5 : decode mRe_bad.2.1 5 = .ok (.getfield 115, 3) := by decide +kernel
theorem dRe_bad_8 : decode mRe_bad.2.1 8 = .ok (.ifCond .ne 8, 3) := by decide +kernel
theorem dRe_bad_11 : decode mRe_bad.2.1 11 = .ok (.aload_n 0, 1) := by decide +kernel
theorem dRe_bad_12 : decode mRe_bad.2.1 12 = .ok (.iload_n 2, 1) := by decide +kernel
theorem dRe_bad_13 : decode mRe_bad.2.1 13 = .ok (.putfield 115, 3) := by decide +kernel
theorem dRe_bad_16 : decode mRe_bad.2.1 16 = .ok (.aload_n 0, 1) := by decide +kernel
theorem dRe_bad_17 : decode mRe_bad.2.1 17 = .ok (.getfield 115, 3) := by decide +kernel
theorem dRe_bad_20 : decode mRe_bad.2.1 20 = .ok (.ifCond .eq 7, 3) := by decide +kernel
theorem dRe_bad_23 : decode mRe_bad.2.1 23 = .ok (.iconst 1, 1) := by decide +kernel
theorem dRe_bad_24 : decode mRe_bad.2.1 24 = .ok (.goto 4, 3) := by decide +kernel
theorem dRe_bad_27 : decode mRe_bad.2.1 27 = .ok (.iconst 0, 1) := by decide +kernel
theorem dRe_bad_28 : decode mRe_bad.2.1 28 = .ok (.ireturn, 1) := by decide +kernel
theorem bRe_bad_0 {l : Launch} {G : Gx} {d : Nat} {bc bs : Nat} {Φ : OutV → Mm → Prop} (M : Mm) (a0 : Nat) (x1 : Int32) (x2 : Int32)
    (h : (x1 = 0 → Ev l G d mRe_bad 16 [.ref a0, .int x1, .int x2] [] M bc bs Φ) ∧ (¬ x1 = 0 → ((m_sh M a0).1 = 11) ∧ (¬ (m_i M a0 0) = 0 → Ev l G d mRe_bad 16 [.ref a0, .int x1, .int x2] [] M bc bs Φ) ∧ ((m_i M a0 0) = 0 → Ev l G d mRe_bad 16 [.ref a0, .int x1, .int x2] [] (m_si M a0 0 x2) bc bs Φ))) :
    Ev l G d mRe_bad 0 [.ref a0, .int x1, .int x2] [] M bc bs Φ := by
  refine Ev.iload_n dRe_bad_0 rfl ?_
  refine Ev.if_eq 16 (by decide) dRe_bad_1 (fun c => ?_) (fun c => ?_)
  · replace h := h.1 c
    exact h
  · replace h := h.2 c
    refine Ev.aload_n dRe_bad_4 rfl ?_
    have g1 := h.1
    replace h := h.2
    refine Ev.getI dRe_bad_5 (Or.inl fRe_115) rfl g1 ?_
    refine Ev.if_ne 16 (by decide) dRe_bad_8 (fun c => ?_) (fun c => ?_)
    · replace h := h.1 c
      exact h
    · replace h := h.2 c
      refine Ev.aload_n dRe_bad_11 rfl ?_
      refine Ev.iload_n dRe_bad_12 rfl ?_
      refine Ev.putI dRe_bad_13 ⟨_, Or.inl ⟨fRe_115, (fun h => by cases h)⟩⟩ rfl ⟨rfl, rfl⟩ g1 ?_
      exact h
theorem bRe_bad_16 {l : Launch} {G : Gx} {d : Nat} {bc bs : Nat} {Φ : OutV → Mm → Prop} (M : Mm) (a0 : Nat) (x1 : Int32) (x2 : Int32)
    (h : ((m_sh M a0).1 = 11) ∧ ((m_i M a0 0) = 0 → Φ (.inl (some (.int 0))) M) ∧ (¬ (m_i M a0 0) = 0 → Φ (.inl (some (.int 1))) M)) :
    Ev l G d mRe_bad 16 [.ref a0, .int x1, .int x2] [] M bc bs Φ := by
  refine Ev.aload_n dRe_bad_16 rfl ?_
  have g1 := h.1
  replace h := h.2
  refine Ev.getI dRe_bad_17 (Or.inl fRe_115) rfl g1 ?_
  refine Ev.if_eq 27 (by decide) dRe_bad_20 (fun c => ?_) (fun c => ?_)
  · replace h := h.1 c
    refine Ev.iconst (v := 0) dRe_bad_27 (by decide) ?_
    exact Ev.iret dRe_bad_28 rfl rfl h
  · replace h := h.2 c
    refine Ev.iconst (v := 1) dRe_bad_23 (by decide) ?_
    refine Ev.goto 28 dRe_bad_24 (by decide) ?_
    exact Ev.iret dRe_bad_28 rfl rfl h
theorem dRe_starts_0 : decode mRe_starts.2.1 0 = .ok (.aload_n 0, 1) := by decide +kernel
theorem dRe_starts_1 : decode mRe_starts.2.1 1 = .ok (.iconst 0, 1) := by decide +kernel
theorem dRe_starts_2 : decode mRe_starts.2.1 2 = .ok (.putfield 118, 3) := by decide +kernel
theorem dRe_starts_5 : decode mRe_starts.2.1 5 = .ok (.aload_n 0, 1) := by decide +kernel
theorem dRe_starts_6 : decode mRe_starts.2.1 6 = .ok (.iload_n 1, 1) := by decide +kernel
theorem dRe_starts_7 : decode mRe_starts.2.1 7 = .ok (.putfield 121, 3) := by decide +kernel
theorem dRe_starts_10 : decode mRe_starts.2.1 10 = .ok (.aload_n 0, 1) := by decide +kernel
theorem dRe_starts_11 : decode mRe_starts.2.1 11 = .ok (.iconst 0, 1) := by decide +kernel
theorem dRe_starts_12 : decode mRe_starts.2.1 12 = .ok (.putfield 124, 3) := by decide +kernel
theorem dRe_starts_15 : decode mRe_starts.2.1 15 = .ok (.aload_n 0, 1) := by decide +kernel
theorem dRe_starts_16 : decode mRe_starts.2.1 16 = .ok (.iconst 0, 1) := by decide +kernel
theorem dRe_starts_17 : decode mRe_starts.2.1 17 = .ok (.putfield 131, 3) := by decide +kernel
theorem dRe_starts_20 : decode mRe_starts.2.1 20 = .ok (.aload_n 0, 1) := by decide +kernel
theorem dRe_starts_21 : decode mRe_starts.2.1 21 = .ok (.iconst (-1), 1) := by decide +kernel
theorem dRe_starts_22 : decode mRe_starts.2.1 22 = .ok (.putfield 134, 3) := by decide +kernel
theorem dRe_starts_25 : decode mRe_starts.2.1 25 = .ok (.aload_n 0, 1) := by decide +kernel
theorem dRe_starts_26 : decode mRe_starts.2.1 26 = .ok (.iconst 0, 1) := by decide +kernel
theorem dRe_starts_27 : decode mRe_starts.2.1 27 = .ok (.putfield 173, 3) := by decide +kernel
theorem dRe_starts_30 : decode mRe_starts.2.1 30 = .ok (.aload_n 0, 1) := by decide +kernel
theorem dRe_starts_31 : decode mRe_starts.2.1 31 = .ok (.iconst 0, 1) := by decide +kernel
theorem dRe_starts_32 : decode mRe_starts.2.1 32 = .ok (.putfield 170, 3) := by decide +kernel
theorem dRe_starts_35 : decode mRe_starts.2.1 35 = .ok (.return_, 1) := by decide +kernel
theorem bRe_starts_0 {l : Launch} {G : Gx} {d : Nat} {bc bs : Nat} {Φ : OutV → Mm → Prop} (M : Mm) (a0 : Nat) (x1 : Int32)
    (h : ((m_sh M a0).1 = 11) ∧ Ev l G d mRe_starts 10 [.ref a0, .int x1] [] (m_si (m_si M a0 1 0) a0 2 x1) bc bs Φ) :
    Ev l G d mRe_starts 0 [.ref a0, .int x1] [] M bc bs Φ := by
  refine Ev.aload_n dRe_starts_0 rfl ?_
  refine Ev.iconst (v := 0) dRe_starts_1 (by decide) ?_
  have g1 := h.1
  replace h := h.2
  refine Ev.putI dRe_starts_2 ⟨_, Or.inl ⟨fRe_118, (fun h => by cases h)⟩⟩ rfl ⟨rfl, rfl⟩ g1 ?_
  refine Ev.aload_n dRe_starts_5 rfl ?_
  refine Ev.iload_n dRe_starts_6 rfl ?_
  refine Ev.putI dRe_starts_7 ⟨_, Or.inl ⟨fRe_121, (fun h => by cases h)⟩⟩ rfl ⟨rfl, rfl⟩ g1 ?_
  exact h
theorem bRe_starts_10 {l : Launch} {G : Gx} {d : Nat} {bc bs : Nat} {Φ : OutV → Mm → Prop} (M : Mm) (a0 : Nat) (x1 : Int32)
    (h : ((m_sh M a0).1 = 11) ∧ Ev l G d mRe_starts 20 [.ref a0, .int x1] [] (m_si (m_si M a0 4 0) a0 5 0) bc bs Φ) :
    Ev l G d mRe_starts 10 [.ref a0, .int x1] [] M bc bs Φ := by
  refine Ev.aload_n dRe_starts_10 rfl ?_
  refine Ev.iconst (v := 0) dRe_starts_11 (by decide) ?_
  have g1 := h.1
  replace h := h.2
  refine Ev.putI dRe_starts_12 ⟨_, Or.inl ⟨fRe_124, (fun h => by cases h)⟩⟩ rfl ⟨rfl, rfl⟩ g1 ?_
  refine Ev.aload_n dRe_starts_15 rfl ?_
  refine Ev.iconst (v := 0) dRe_starts_16 (by decide) ?_
  refine Ev.putI dRe_starts_17 ⟨_, Or.inl ⟨fRe_131, (fun h => by cases h)⟩⟩ rfl ⟨rfl, rfl⟩ g1 ?_
  exact h
theorem fRe_173 : FOK "BowingRowModel" 173 11 7 false := ⟨RX12, TX12, nFd 11, rfl, by decide, rfl, by decide, rfl, lwg_of 1290 (by decide +kernel) (by decide +kernel)⟩
theorem bRe_starts_20 {l : Launch} {G : Gx} {d : Nat} {bc bs : Nat} {Φ : OutV → Mm → Prop} (M : Mm) (a0 : Nat) (x1 : Int32)
    (h : ((m_sh M a0).1 = 11) ∧ Ev l G d mRe_starts 30 [.ref a0, .int x1] [] (m_si (m_si M a0 6 ((-1))) a0 7 0) bc bs Φ) :
    Ev l G d mRe_starts 20 [.ref a0, .int x1] [] M bc bs Φ := by
  refine Ev.aload_n dRe_starts_20 rfl ?_
  refine Ev.iconst (v := (-1)) dRe_starts_21 (by decide) ?_
  have g1 := h.1
  replace h := h.2
  refine Ev.putI dRe_starts_22 ⟨_, Or.inl ⟨fRe_134, (fun h => by cases h)⟩⟩ rfl ⟨rfl, rfl⟩ g1 ?_
  refine Ev.aload_n dRe_starts_25 rfl ?_
  refine Ev.iconst (v := 0) dRe_starts_26 (by decide) ?_
  refine Ev.putI dRe_starts_27 ⟨_, Or.inl ⟨fRe_173, (fun h => by cases h)⟩⟩ rfl ⟨rfl, rfl⟩ g1 ?_
  exact h
theorem fRe_170 : FOK "BowingRowModel" 170 11 8 false := ⟨RX12, TX12, nFd 11, rfl, by decide, rfl, by decide, rfl, lwg_of 1291 (by decide +kernel) (by decide +kernel)⟩
theorem bRe_starts_30 {l : Launch} {G : Gx} {d : Nat} {bc bs : Nat} {Φ : OutV → Mm → Prop} (M : Mm) (a0 : Nat) (x1 : Int32)
    (h : ((m_sh M a0).1 = 11) ∧ Φ (.inl none) (m_si M a0 8 0)) :
    Ev l G d mRe_starts 30 [.ref a0, .int x1] [] M bc bs Φ := by
  refine Ev.aload_n dRe_starts_30 rfl ?_
  refine Ev.iconst (v := 0) dRe_starts_31 (by decide) ?_
  have g1 := h.1
  replace h := h.2
  refine Ev.putI dRe_starts_32 ⟨_, Or.inl ⟨fRe_170, (fun h => by cases h)⟩⟩ rfl ⟨rfl, rfl⟩ g1 ?_
  exact Ev.vret dRe_starts_35 rfl h
theorem dRe_blanks_0 : decode mRe_blanks.2.1 0 = .ok (.aload_n 0, 1) := by decide +kernel
theorem dRe_blanks_1 : decode mRe_blanks.2.1 1 = .ok (.aload_n 0, 1) := by decide +kernel
theorem dRe_blanks_2 : decode mRe_blanks.2.1 2 = .ok (.getfield 124, 3) := by decide +kernel
theorem dRe_blanks_5 : decode mRe_blanks.2.1 5 = .ok (.invokevirtual 127, 3) := by decide +kernel
theorem dRe_blanks_8 : decode mRe_blanks.2.1 8 = .ok (.bipush 32, 2) := by decide +kernel
theorem dRe_blanks_10 : decode mRe_blanks.2.1 10 = .ok (.if_icmp .ne 16, 3) := by decide +kernel
theorem dRe_blanks_13 : decode mRe_blanks.2.1 13 = .ok (.aload_n 0, 1) := by decide +kernel
theorem dRe_blanks_14 : decode mRe_blanks.2.1 14 = .ok (.dup, 1) := by decide +kernel
theorem dRe_blanks_15 : decode mRe_blanks.2.1 15 = .ok (.getfield 124, 3) := by decide +kernel
theorem dRe_blanks_18 : decode mRe_blanks.2.1 18 = .ok (.iconst 1, 1) := by decide +kernel
theorem dRe_blanks_19 : decode mRe_blanks.2.1 19 = .ok (.iadd, 1) := by decide +kernel
theorem dRe_blanks_20 : decode mRe_blanks.2.1 20 = .ok (.putfield 124, 3) := by decide +kernel
theorem dRe_blanks_23 : decode mRe_blanks.2.1 23 = .ok (.goto (-23), 3) := by decide +kernel
theorem dRe_blanks_26 : decode mRe_blanks.2.1 26 = .ok (.return_, 1) := by decide +kernel
def mRe_byteAt : MR := (⟨"BowingRowModel", "byteAt", "(I)I"⟩, prog_14_method_6_code, 2, (Option.some .int))
theorem oRe_byteAt : MOK mRe_byteAt 1 := ⟨lwg_of 1494 (by decide +kernel) (by decide +kernel), lwg_of 103 (by decide +kernel) (by decide +kernel), ⟨by decide +kernel, by decide +kernel⟩, by decide +kernel, by decide⟩
theorem iRe_byteAt : Cond.instanceMethod mRe_byteAt.1 ∈ lwg := lwg_of 1493 (by decide +kernel) (by decide +kernel)
theorem sRe_byteAt : Cond.selects mRe_byteAt.1.cls mRe_byteAt.1 mRe_byteAt.1 ∈ lwg := lwg_of 41 (by decide +kernel) (by decide +kernel)
theorem w1491 : Cond.methodLink "BowingRowModel" 127 ⟨"BowingRowModel", "byteAt", "(I)I"⟩ ∈ lwg := lwg_of 1491 (by decide +kernel) (by decide +kernel)
theorem bRe_blanks_0 {l : Launch} {G : Gx} {d : Nat} {bc bs : Nat} {Φ : OutV → Mm → Prop} (M : Mm) (a0 : Nat)
    (h : ((m_sh M a0).1 = 11) ∧ CallVC l G d mRe_blanks 8 [.ref a0] [] mRe_byteAt [.ref a0, .int (m_i M a0 4)] M bc bs Φ) :
    Ev l G d mRe_blanks 0 [.ref a0] [] M bc bs Φ := by
  refine Ev.aload_n dRe_blanks_0 rfl ?_
  refine Ev.aload_n dRe_blanks_1 rfl ?_
  have g1 := h.1
  replace h := h.2
  refine Ev.getI dRe_blanks_2 (Or.inl fRe_124) rfl g1 ?_
  exact Ev.vcV (z := mRe_byteAt) (ci := 11) [.int (m_i M a0 4)] [] rfl dRe_blanks_5 oRe_byteAt rfl w1491 iRe_byteAt sRe_byteAt (by decide) rfl g1 (Nat.le_of_ble_eq_true rfl) h
theorem bRe_blanks_8 {l : Launch} {G : Gx} {d : Nat} {bc bs : Nat} {Φ : OutV → Mm → Prop} (M : Mm) (a0 : Nat) (s0 : Int32)
    (h : (¬ s0 = 32 → Φ (.inl none) M) ∧ (s0 = 32 → ((m_sh M a0).1 = 11) ∧ Ev l G d mRe_blanks 0 [.ref a0] [] (m_si M a0 4 ((m_i M a0 4) + 1)) bc bs Φ)) :
    Ev l G d mRe_blanks 8 [.ref a0] [.int s0] M bc bs Φ := by
  refine Ev.bipush (v := 32) dRe_blanks_8 (by decide) ?_
  refine Ev.icmp_ne 26 (by decide) dRe_blanks_10 (fun c => ?_) (fun c => ?_)
  · replace h := h.1 c
    exact Ev.vret dRe_blanks_26 rfl h
  · replace h := h.2 c
    refine Ev.aload_n dRe_blanks_13 rfl ?_
    refine Ev.dup dRe_blanks_14 rfl ?_
    have g1 := h.1
    replace h := h.2
    refine Ev.getI dRe_blanks_15 (Or.inl fRe_124) rfl g1 ?_
    refine Ev.iconst (v := 1) dRe_blanks_18 (by decide) ?_
    refine Ev.iadd dRe_blanks_19 ?_
    refine Ev.putI dRe_blanks_20 ⟨_, Or.inl ⟨fRe_124, (fun h => by cases h)⟩⟩ rfl ⟨rfl, rfl⟩ g1 ?_
    refine Ev.goto 0 dRe_blanks_23 (by decide) ?_
    exact h
theorem dRe_byteAt_0 : decode mRe_byteAt.2.1 0 = .ok (.iload_n 1, 1) := by decide +kernel
theorem dRe_byteAt_1 : decode mRe_byteAt.2.1 1 = .ok (.aload_n 0, 1) := by decide +kernel
theorem dRe_byteAt_2 : decode mRe_byteAt.2.1 2 = .ok (.getfield 121, 3) := by decide +kernel
theorem dRe_byteAt_5 : decode mRe_byteAt.2.1 5 = .ok (.if_icmp .lt 7, 3) := by decide +kernel
theorem dRe_byteAt_8 : decode mRe_byteAt.2.1 8 = .ok (.iconst (-1), 1) := by decide +kernel
theorem dRe_byteAt_9 : decode mRe_byteAt.2.1 9 = .ok (.goto 9, 3) := by decide +kernel
theorem dRe_byteAt_12 : decode mRe_byteAt.2.1 12 = .ok (.aload_n 0, 1) := by decide +kernel
theorem dRe_byteAt_13 : decode mRe_byteAt.2.1 13 = .ok (.getfield 13, 3) := by decide +kernel
theorem dRe_byteAt_16 : decode mRe_byteAt.2.1 16 = .ok (.iload_n 1, 1) := by decide +kernel
theorem dRe_byteAt_17 : decode mRe_byteAt.2.1 17 = .ok (.iaload, 1) := by decide +kernel
theorem dRe_byteAt_18 : decode mRe_byteAt.2.1 18 = .ok (.ireturn, 1) := by decide +kernel
theorem bRe_byteAt_0 {l : Launch} {G : Gx} {d : Nat} {bc bs : Nat} {Φ : OutV → Mm → Prop} (M : Mm) (a0 : Nat) (x1 : Int32)
    (h : ((m_sh M a0).1 = 11) ∧ (x1 < (m_i M a0 2) → ((m_sh M (m_r M a0 9)).1 = 20) ∧ (vp_in x1 (m_sh M (m_r M a0 9)).2) ∧ Φ (.inl (some (.int (m_i M (m_r M a0 9) x1.toNatClampNeg)))) M) ∧ (¬ x1 < (m_i M a0 2) → Φ (.inl (some (.int ((-1))))) M)) :
    Ev l G d mRe_byteAt 0 [.ref a0, .int x1] [] M bc bs Φ := by
  refine Ev.iload_n dRe_byteAt_0 rfl ?_
  refine Ev.aload_n dRe_byteAt_1 rfl ?_
  have g1 := h.1
  replace h := h.2
  refine Ev.getI dRe_byteAt_2 (Or.inl fRe_121) rfl g1 ?_
  refine Ev.icmp_lt 12 (by decide) dRe_byteAt_5 (fun c => ?_) (fun c => ?_)
  · replace h := h.1 c
    refine Ev.aload_n dRe_byteAt_12 rfl ?_
    refine Ev.getR dRe_byteAt_13 (Or.inl fRe_13) rfl g1 ?_
    refine Ev.iload_n dRe_byteAt_16 rfl ?_
    have g2 := h.1
    replace h := h.2
    have g3 := h.1
    replace h := h.2
    refine Ev.iald2 dRe_byteAt_17 g2 g3 ?_
    exact Ev.iret dRe_byteAt_18 rfl rfl h
  · replace h := h.2 c
    refine Ev.iconst (v := (-1)) dRe_byteAt_8 (by decide) ?_
    refine Ev.goto 18 dRe_byteAt_9 (by decide) ?_
    exact Ev.iret dRe_byteAt_18 rfl rfl h
theorem dRe_clause_0 : decode mRe_clause.2.1 0 = .ok (.aload_n 0, 1) := by decide +kernel
theorem dRe_clause_1 : decode mRe_clause.2.1 1 = .ok (.ldc2_w 153, 3) := by decide +kernel
theorem dRe_clause_4 : decode mRe_clause.2.1 4 = .ok (.bipush 16, 2) := by decide +kernel
theorem dRe_clause_6 : decode mRe_clause.2.1 6 = .ok (.iconst 5, 1) := by decide +kernel
theorem dRe_clause_7 : decode mRe_clause.2.1 7 = .ok (.bipush 18, 2) := by decide +kernel
theorem dRe_clause_9 : decode mRe_clause.2.1 9 = .ok (.bipush 19, 2) := by decide +kernel
theorem dRe_clause_11 : decode mRe_clause.2.1 11 = .ok (.bipush 15, 2) := by decide +kernel
theorem dRe_clause_13 : decode mRe_clause.2.1 13 = .ok (.invokestatic 176, 3) := by decide +kernel
theorem dRe_clause_16 : decode mRe_clause.2.1 16 = .ok (.lmul, 1) := by decide +kernel
theorem dRe_clause_17 : decode mRe_clause.2.1 17 = .ok (.ldc2_w 180, 3) := by decide +kernel
theorem dRe_clause_20 : decode mRe_clause.2.1 20 = .ok (.ladd, 1) := by decide +kernel
theorem dRe_clause_21 : decode mRe_clause.2.1 21 = .ok (.invokevirtual 163, 3) := by decide +kernel
theorem dRe_clause_24 : decode mRe_clause.2.1 24 = .ok (.ifCond .eq 7, 3) := by decide +kernel
theorem dRe_clause_27 : decode mRe_clause.2.1 27 = .ok (.iconst 0, 1) := by decide +kernel
theorem dRe_clause_28 : decode mRe_clause.2.1 28 = .ok (.goto 73, 3) := by decide +kernel
theorem dRe_clause_31 : decode mRe_clause.2.1 31 = .ok (.aload_n 0, 1) := by decide +kernel
theorem dRe_clause_32 : decode mRe_clause.2.1 32 = .ok (.bipush 11, 2) := by decide +kernel
theorem dRe_clause_34 : decode mRe_clause.2.1 34 = .ok (.bipush 14, 2) := by decide +kernel
theorem dRe_clause_36 : decode mRe_clause.2.1 36 = .ok (.bipush 15, 2) := by decide +kernel
theorem dRe_clause_38 : decode mRe_clause.2.1 38 = .ok (.bipush 23, 2) := by decide +kernel
theorem dRe_clause_40 : decode mRe_clause.2.1 40 = .ok (.bipush 19, 2) := by decide +kernel
theorem dRe_clause_42 : decode mRe_clause.2.1 42 = .ok (.invokestatic 176, 3) := by decide +kernel
theorem dRe_clause_45 : decode mRe_clause.2.1 45 = .ok (.invokevirtual 163, 3) := by decide +kernel
theorem dRe_clause_48 : decode mRe_clause.2.1 48 = .ok (.ifCond .eq 7, 3) := by decide +kernel
theorem dRe_clause_51 : decode mRe_clause.2.1 51 = .ok (.iconst 1, 1) := by decide +kernel
theorem dRe_clause_52 : decode mRe_clause.2.1 52 = .ok (.goto 49, 3) := by decide +kernel
theorem dRe_clause_55 : decode mRe_clause.2.1 55 = .ok (.aload_n 0, 1) := by decide +kernel
theorem dRe_clause_56 : decode mRe_clause.2.1 56 = .ok (.bipush 23, 2) := by decide +kernel
theorem dRe_clause_58 : decode mRe_clause.2.1 58 = .ok (.iconst 1, 1) := by decide +kernel
theorem dRe_clause_59 : decode mRe_clause.2.1 59 = .ok (.bipush 25, 2) := by decide +kernel
theorem dRe_clause_61 : decode mRe_clause.2.1 61 = .ok (.iconst 0, 1) := by decide +kernel
theorem dRe_clause_62 : decode mRe_clause.2.1 62 = .ok (.iconst 0, 1) := by decide +kernel
theorem dRe_clause_63 : decode mRe_clause.2.1 63 = .ok (.invokestatic 176, 3) := by decide +kernel
theorem dRe_clause_66 : decode mRe_clause.2.1 66 = .ok (.invokevirtual 163, 3) := by decide +kernel
theorem dRe_clause_69 : decode mRe_clause.2.1 69 = .ok (.ifCond .eq 7, 3) := by decide +kernel
theorem dRe_clause_72 : decode mRe_clause.2.1 72 = .ok (.iconst 2, 1) := by decide +kernel
theorem dRe_clause_73 : decode mRe_clause.2.1 73 = .ok (.goto 28, 3) := by decide +kernel
theorem dRe_clause_76 : decode mRe_clause.2.1 76 = .ok (.aload_n 0, 1) := by decide +kernel
theorem dRe_clause_77 : decode mRe_clause.2.1 77 = .ok (.bipush 21, 2) := by decide +kernel
theorem dRe_clause_79 : decode mRe_clause.2.1 79 = .ok (.bipush 14, 2) := by decide +kernel
theorem dRe_clause_81 : decode mRe_clause.2.1 81 = .ok (.bipush 20, 2) := by decide +kernel
theorem dRe_clause_83 : decode mRe_clause.2.1 83 = .ok (.bipush 9, 2) := by decide +kernel
theorem dRe_clause_85 : decode mRe_clause.2.1 85 = .ok (.bipush 12, 2) := by decide +kernel
theorem dRe_clause_87 : decode mRe_clause.2.1 87 = .ok (.invokestatic 176, 3) := by decide +kernel
theorem dRe_clause_90 : decode mRe_clause.2.1 90 = .ok (.invokevirtual 163, 3) := by decide +kernel
theorem dRe_clause_93 : decode mRe_clause.2.1 93 = .ok (.ifCond .eq 7, 3) := by decide +kernel
theorem dRe_clause_96 : decode mRe_clause.2.1 96 = .ok (.iconst 3, 1) := by decide +kernel
theorem dRe_clause_97 : decode mRe_clause.2.1 97 = .ok (.goto 4, 3) := by decide +kernel
theorem dRe_clause_100 : decode mRe_clause.2.1 100 = .ok (.iconst (-1), 1) := by decide +kernel
theorem dRe_clause_101 : decode mRe_clause.2.1 101 = .ok (.istore_n 1, 1) := by decide +kernel
theorem dRe_clause_102 : decode mRe_clause.2.1 102 = .ok (.iload_n 1, 1) := by decide +kernel
theorem dRe_clause_103 : decode mRe_clause.2.1 103 = .ok (.iconst (-1), 1) := by decide +kernel
theorem dRe_clause_104 : decode mRe_clause.2.1 104 = .ok (.if_icmp .ne 15, 3) := by decide +kernel
theorem dRe_clause_107 : decode mRe_clause.2.1 107 = .ok (.aload_n 0, 1) := by decide +kernel
theorem dRe_clause_108 : decode mRe_clause.2.1 108 = .ok (.iconst 1, 1) := by decide +kernel
theorem dRe_clause_109 : decode mRe_clause.2.1 109 = .ok (.aload_n 0, 1) := by decide +kernel
theorem dRe_clause_110 : decode mRe_clause.2.1 110 = .ok (.getfield 124, 3) := by decide +kernel
theorem dRe_clause_113 : decode mRe_clause.2.1 113 = .ok (.invokevirtual 144, 3) := by decide +kernel
theorem dRe_clause_116 : decode mRe_clause.2.1 116 = .ok (.goto 34, 3) := by decide +kernel
theorem dRe_clause_119 : decode mRe_clause.2.1 119 = .ok (.aload_n 0, 1) := by decide +kernel
theorem dRe_clause_120 : decode mRe_clause.2.1 120 = .ok (.getfield 173, 3) := by decide +kernel
theorem dRe_clause_123 : decode mRe_clause.2.1 123 = .ok (.bipush 40, 2) := by decide +kernel
theorem dRe_clause_125 : decode mRe_clause.2.1 125 = .ok (.if_icmp .eq 16, 3) := by decide +kernel
theorem dRe_clause_128 : decode mRe_clause.2.1 128 = .ok (.iload_n 1, 1) := by decide +kernel
theorem dRe_clause_129 : decode mRe_clause.2.1 129 = .ok (.ifCond .ne 21, 3) := by decide +kernel
theorem dRe_clause_132 : decode mRe_clause.2.1 132 = .ok (.aload_n 0, 1) := by decide +kernel
theorem dRe_clause_133 : decode mRe_clause.2.1 133 = .ok (.getfield 182, 3) := by decide +kernel
theorem dRe_clause_136 : decode mRe_clause.2.1 136 = .ok (.bipush 8, 2) := by decide +kernel
theorem dRe_clause_138 : decode mRe_clause.2.1 138 = .ok (.if_icmp .ne 12, 3) := by decide +kernel
theorem dRe_clause_141 : decode mRe_clause.2.1 141 = .ok (.aload_n 0, 1) := by decide +kernel
theorem dRe_clause_142 : decode mRe_clause.2.1 142 = .ok (.iconst 3, 1) := by decide +kernel
theorem dRe_clause_143 : decode mRe_clause.2.1 143 = .ok (.aload_n 0, 1) := by decide +kernel
theorem dRe_clause_144 : decode mRe_clause.2.1 144 = .ok (.getfield 124, 3) := by decide +kernel
theorem dRe_clause_147 : decode mRe_clause.2.1 147 = .ok (.invokevirtual 144, 3) := by decide +kernel
theorem dRe_clause_150 : decode mRe_clause.2.1 150 = .ok (.aload_n 0, 1) := by decide +kernel
theorem dRe_clause_151 : decode mRe_clause.2.1 151 = .ok (.getfield 131, 3) := by decide +kernel
theorem dRe_clause_154 : decode mRe_clause.2.1 154 = .ok (.ifCond .eq 4, 3) := by decide +kernel
theorem dRe_clause_157 : decode mRe_clause.2.1 157 = .ok (.return_, 1) := by decide +kernel
theorem dRe_clause_158 : decode mRe_clause.2.1 158 = .ok (.aload_n 0, 1) := by decide +kernel
theorem dRe_clause_159 : decode mRe_clause.2.1 159 = .ok (.invokevirtual 167, 3) := by decide +kernel
theorem dRe_clause_162 : decode mRe_clause.2.1 162 = .ok (.aload_n 0, 1) := by decide +kernel
theorem dRe_clause_163 : decode mRe_clause.2.1 163 = .ok (.dup, 1) := by decide +kernel
theorem dRe_clause_164 : decode mRe_clause.2.1 164 = .ok (.getfield 173, 3) := by decide +kernel
theorem dRe_clause_167 : decode mRe_clause.2.1 167 = .ok (.iconst 1, 1) := by decide +kernel
theorem dRe_clause_168 : decode mRe_clause.2.1 168 = .ok (.iadd, 1) := by decide +kernel
theorem dRe_clause_169 : decode mRe_clause.2.1 169 = .ok (.putfield 173, 3) := by decide +kernel
theorem dRe_clause_172 : decode mRe_clause.2.1 172 = .ok (.iload_n 1, 1) := by decide +kernel
theorem dRe_clause_173 : decode mRe_clause.2.1 173 = .ok (.ifCond .ne 10, 3) := by decide +kernel
theorem dRe_clause_176 : decode mRe_clause.2.1 176 = .ok (.aload_n 0, 1) := by decide +kernel
theorem dRe_clause_177 : decode mRe_clause.2.1 177 = .ok (.invokevirtual 185, 3) := by decide +kernel
theorem dRe_clause_180 : decode mRe_clause.2.1 180 = .ok (.goto 125, 3) := by decide +kernel
theorem dRe_clause_183 : decode mRe_clause.2.1 183 = .ok (.aload_n 0, 1) := by decide +kernel
theorem dRe_clause_184 : decode mRe_clause.2.1 184 = .ok (.iconst 0, 1) := by decide +kernel
theorem dRe_clause_185 : decode mRe_clause.2.1 185 = .ok (.aload_n 0, 1) := by decide +kernel
theorem dRe_clause_186 : decode mRe_clause.2.1 186 = .ok (.getfield 182, 3) := by decide +kernel
theorem dRe_clause_189 : decode mRe_clause.2.1 189 = .ok (.iconst 1, 1) := by decide +kernel
theorem dRe_clause_190 : decode mRe_clause.2.1 190 = .ok (.isub, 1) := by decide +kernel
theorem dRe_clause_191 : decode mRe_clause.2.1 191 = .ok (.iconst (-1), 1) := by decide +kernel
theorem dRe_clause_192 : decode mRe_clause.2.1 192 = .ok (.invokevirtual 188, 3) := by decide +kernel
theorem dRe_clause_195 : decode mRe_clause.2.1 195 = .ok (.istore_n 2, 1) := by decide +kernel
theorem dRe_clause_196 : decode mRe_clause.2.1 196 = .ok (.iload_n 1, 1) := by decide +kernel
theorem dRe_clause_197 : decode mRe_clause.2.1 197 = .ok (.iconst 1, 1) := by decide +kernel
theorem dRe_clause_198 : decode mRe_clause.2.1 198 = .ok (.if_icmp .ne 18, 3) := by decide +kernel
theorem dRe_clause_201 : decode mRe_clause.2.1 201 = .ok (.aload_n 0, 1) := by decide +kernel
theorem dRe_clause_202 : decode mRe_clause.2.1 202 = .ok (.iconst 0, 1) := by decide +kernel
theorem dRe_clause_203 : decode mRe_clause.2.1 203 = .ok (.aload_n 0, 1) := by decide +kernel
theorem dRe_clause_204 : decode mRe_clause.2.1 204 = .ok (.getfield 182, 3) := by decide +kernel
theorem dRe_clause_207 : decode mRe_clause.2.1 207 = .ok (.iconst 1, 1) := by decide +kernel
theorem dRe_clause_208 : decode mRe_clause.2.1 208 = .ok (.isub, 1) := by decide +kernel
theorem dRe_clause_209 : decode mRe_clause.2.1 209 = .ok (.iload_n 2, 1) := by decide +kernel
theorem dRe_clause_210 : decode mRe_clause.2.1 210 = .ok (.invokevirtual 188, 3) := by decide +kernel
theorem dRe_clause_213 : decode mRe_clause.2.1 213 = .ok (.goto 20, 3) := by decide +kernel
theorem dRe_clause_216 : decode mRe_clause.2.1 216 = .ok (.aload_n 0, 1) := by decide +kernel
theorem dRe_clause_217 : decode mRe_clause.2.1 217 = .ok (.iconst 0, 1) := by decide +kernel
theorem dRe_clause_218 : decode mRe_clause.2.1 218 = .ok (.iload_n 1, 1) := by decide +kernel
theorem dRe_clause_219 : decode mRe_clause.2.1 219 = .ok (.iconst 2, 1) := by decide +kernel
theorem dRe_clause_220 : decode mRe_clause.2.1 220 = .ok (.if_icmp .ne 7, 3) := by decide +kernel
theorem dRe_clause_223 : decode mRe_clause.2.1 223 = .ok (.iconst 4, 1) := by decide +kernel
theorem dRe_clause_224 : decode mRe_clause.2.1 224 = .ok (.goto 5, 3) := by decide +kernel
theorem dRe_clause_227 : decode mRe_clause.2.1 227 = .ok (.bipush 99, 2) := by decide +kernel
theorem dRe_clause_229 : decode mRe_clause.2.1 229 = .ok (.iconst (-1), 1) := by decide +kernel
theorem dRe_clause_230 : decode mRe_clause.2.1 230 = .ok (.invokevirtual 188, 3) := by decide +kernel
theorem dRe_clause_233 : decode mRe_clause.2.1 233 = .ok (.istore_n 3, 1) := by decide +kernel
theorem dRe_clause_234 : decode mRe_clause.2.1 234 = .ok (.aload_n 0, 1) := by decide +kernel
theorem dRe_clause_235 : decode mRe_clause.2.1 235 = .ok (.getfield 131, 3) := by decide +kernel
theorem dRe_clause_238 : decode mRe_clause.2.1 238 = .ok (.ifCond .ne 41, 3) := by decide +kernel
theorem dRe_clause_241 : decode mRe_clause.2.1 241 = .ok (.iload_n 1, 1) := by decide +kernel
theorem dRe_clause_242 : decode mRe_clause.2.1 242 = .ok (.iconst 1, 1) := by decide +kernel
theorem dRe_clause_243 : decode mRe_clause.2.1 243 = .ok (.if_icmp .ne 36, 3) := by decide +kernel
theorem dRe_clause_246 : decode mRe_clause.2.1 246 = .ok (.aload_n 0, 1) := by decide +kernel
theorem dRe_clause_247 : decode mRe_clause.2.1 247 = .ok (.getfield 19, 3) := by decide +kernel
theorem dRe_clause_250 : decode mRe_clause.2.1 250 = .ok (.iload_n 2, 1) := by decide +kernel
theorem dRe_clause_251 : decode mRe_clause.2.1 251 = .ok (.aaload, 1) := by decide +kernel
theorem dRe_clause_252 : decode mRe_clause.2.1 252 = .ok (.bipush 7, 2) := by decide +kernel
theorem dRe_clause_254 : decode mRe_clause.2.1 254 = .ok (.dup2, 1) := by decide +kernel
theorem dRe_clause_255 : decode mRe_clause.2.1 255 = .ok (.iaload, 1) := by decide +kernel
theorem dRe_clause_256 : decode mRe_clause.2.1 256 = .ok (.iconst 1, 1) := by decide +kernel
theorem dRe_clause_257 : decode mRe_clause.2.1 257 = .ok (.iload_n 3, 1) := by decide +kernel
theorem dRe_clause_258 : decode mRe_clause.2.1 258 = .ok (.ishl, 1) := by decide +kernel
theorem dRe_clause_259 : decode mRe_clause.2.1 259 = .ok (.ior, 1) := by decide +kernel
theorem dRe_clause_260 : decode mRe_clause.2.1 260 = .ok (.iastore, 1) := by decide +kernel
theorem dRe_clause_261 : decode mRe_clause.2.1 261 = .ok (.aload_n 0, 1) := by decide +kernel
theorem dRe_clause_262 : decode mRe_clause.2.1 262 = .ok (.getfield 19, 3) := by decide +kernel
theorem dRe_clause_265 : decode mRe_clause.2.1 265 = .ok (.iload_n 3, 1) := by decide +kernel
theorem dRe_clause_266 : decode mRe_clause.2.1 266 = .ok (.aaload, 1) := by decide +kernel
theorem dRe_clause_267 : decode mRe_clause.2.1 267 = .ok (.bipush 7, 2) := by decide +kernel
theorem dRe_clause_269 : decode mRe_clause.2.1 269 = .ok (.dup2, 1) := by decide +kernel
theorem dRe_clause_270 : decode mRe_clause.2.1 270 = .ok (.iaload, 1) := by decide +kernel
theorem dRe_clause_271 : decode mRe_clause.2.1 271 = .ok (.iconst 1, 1) := by decide +kernel
theorem dRe_clause_272 : decode mRe_clause.2.1 272 = .ok (.iload_n 2, 1) := by decide +kernel
theorem dRe_clause_273 : decode mRe_clause.2.1 273 = .ok (.ishl, 1) := by decide +kernel
theorem dRe_clause_274 : decode mRe_clause.2.1 274 = .ok (.ior, 1) := by decide +kernel
theorem dRe_clause_275 : decode mRe_clause.2.1 275 = .ok (.iastore, 1) := by decide +kernel
theorem dRe_clause_276 : decode mRe_clause.2.1 276 = .ok (.goto 29, 3) := by decide +kernel
theorem dRe_clause_279 : decode mRe_clause.2.1 279 = .ok (.aload_n 0, 1) := by decide +kernel
theorem dRe_clause_280 : decode mRe_clause.2.1 280 = .ok (.getfield 131, 3) := by decide +kernel
theorem dRe_clause_283 : decode mRe_clause.2.1 283 = .ok (.ifCond .ne 22, 3) := by decide +kernel
theorem dRe_clause_286 : decode mRe_clause.2.1 286 = .ok (.aload_n 0, 1) := by decide +kernel
theorem dRe_clause_287 : decode mRe_clause.2.1 287 = .ok (.getfield 19, 3) := by decide +kernel
theorem dRe_clause_290 : decode mRe_clause.2.1 290 = .ok (.iload_n 2, 1) := by decide +kernel
theorem dRe_clause_291 : decode mRe_clause.2.1 291 = .ok (.aaload, 1) := by decide +kernel
theorem dRe_clause_292 : decode mRe_clause.2.1 292 = .ok (.iload_n 1, 1) := by decide +kernel
theorem dRe_clause_293 : decode mRe_clause.2.1 293 = .ok (.iconst 2, 1) := by decide +kernel
theorem dRe_clause_294 : decode mRe_clause.2.1 294 = .ok (.if_icmp .ne 7, 3) := by decide +kernel
theorem dRe_clause_297 : decode mRe_clause.2.1 297 = .ok (.iconst 5, 1) := by decide +kernel
theorem dRe_clause_298 : decode mRe_clause.2.1 298 = .ok (.goto 5, 3) := by decide +kernel
theorem dRe_clause_301 : decode mRe_clause.2.1 301 = .ok (.bipush 6, 2) := by decide +kernel
theorem dRe_clause_303 : decode mRe_clause.2.1 303 = .ok (.iload_n 3, 1) := by decide +kernel
theorem dRe_clause_304 : decode mRe_clause.2.1 304 = .ok (.iastore, 1) := by decide +kernel
theorem dRe_clause_305 : decode mRe_clause.2.1 305 = .ok (.aload_n 0, 1) := by decide +kernel
theorem dRe_clause_306 : decode mRe_clause.2.1 306 = .ok (.bipush 59, 2) := by decide +kernel
theorem dRe_clause_308 : decode mRe_clause.2.1 308 = .ok (.invokevirtual 192, 3) := by decide +kernel
theorem dRe_clause_311 : decode mRe_clause.2.1 311 = .ok (.return_, 1) := by decide +kernel
theorem w1499 : Cond.constantLong "BowingRowModel" 153 27 ∈ lwg := lwg_of 1499 (by decide +kernel) (by decide +kernel)
def mRe_five : MR := (⟨"BowingRowModel", "five", "(IIIII)J"⟩, prog_14_method_12_code, 7, (Option.some .long))
theorem oRe_five : MOK mRe_five 5 := ⟨lwg_of 1502 (by decide +kernel) (by decide +kernel), lwg_of 103 (by decide +kernel) (by decide +kernel), ⟨by decide +kernel, by decide +kernel⟩, by decide +kernel, by decide⟩
theorem iRe_five : Cond.static mRe_five.1 ∈ lwg := lwg_of 1501 (by decide +kernel) (by decide +kernel)
theorem w1500 : Cond.methodLink "BowingRowModel" 176 ⟨"BowingRowModel", "five", "(IIIII)J"⟩ ∈ lwg := lwg_of 1500 (by decide +kernel) (by decide +kernel)
theorem bRe_clause_0 {l : Launch} {G : Gx} {d : Nat} {bc bs : Nat} {Φ : OutV → Mm → Prop} (M : Mm) (a0 : Nat)
    (h : CallVC l G d mRe_clause 16 [.ref a0, .null, .null, .null] [.long 27, .ref a0] mRe_five [.int 16, .int 5, .int 18, .int 19, .int 15] M bc bs Φ) :
    Ev l G d mRe_clause 0 [.ref a0, .null, .null, .null] [] M bc bs Φ := by
  refine Ev.aload_n dRe_clause_0 rfl ?_
  refine Ev.ldc2_w (v := 27) dRe_clause_1 w1499 ?_
  refine Ev.bipush (v := 16) dRe_clause_4 (by decide) ?_
  refine Ev.iconst (v := 5) dRe_clause_6 (by decide) ?_
  refine Ev.bipush (v := 18) dRe_clause_7 (by decide) ?_
  refine Ev.bipush (v := 19) dRe_clause_9 (by decide) ?_
  refine Ev.bipush (v := 15) dRe_clause_11 (by decide) ?_
  exact Ev.vcS (z := mRe_five) [.int 16, .int 5, .int 18, .int 19, .int 15] [.long 27, .ref a0] rfl dRe_clause_13 oRe_five rfl w1500 iRe_five (Nat.le_of_ble_eq_true rfl) h
theorem w1503 : Cond.constantLong "BowingRowModel" 180 14 ∈ lwg := lwg_of 1503 (by decide +kernel) (by decide +kernel)
def mRe_isWord : MR := (⟨"BowingRowModel", "isWord", "(J)Z"⟩, prog_14_method_13_code, 3, (Option.some .boolean))
theorem oRe_isWord : MOK mRe_isWord 1 := ⟨lwg_of 1507 (by decide +kernel) (by decide +kernel), lwg_of 103 (by decide +kernel) (by decide +kernel), ⟨by decide +kernel, by decide +kernel⟩, by decide +kernel, by decide⟩
theorem iRe_isWord : Cond.instanceMethod mRe_isWord.1 ∈ lwg := lwg_of 1506 (by decide +kernel) (by decide +kernel)
theorem sRe_isWord : Cond.selects mRe_isWord.1.cls mRe_isWord.1 mRe_isWord.1 ∈ lwg := lwg_of 43 (by decide +kernel) (by decide +kernel)
theorem w1504 : Cond.methodLink "BowingRowModel" 163 ⟨"BowingRowModel", "isWord", "(J)Z"⟩ ∈ lwg := lwg_of 1504 (by decide +kernel) (by decide +kernel)
theorem bRe_clause_16 {l : Launch} {G : Gx} {d : Nat} {bc bs : Nat} {Φ : OutV → Mm → Prop} (M : Mm) (a0 : Nat) (u1 : Value) (u2 : Value) (u3 : Value) (r0 : Nat) (w1 : Int64) (w2 : Int64)
    (h : ((m_sh M r0).1 = 11) ∧ CallVC l G d mRe_clause 24 [.ref a0, u1, u2, u3] [] mRe_isWord [.ref r0, .long ((w1 * w2) + 14)] M bc bs Φ) :
    Ev l G d mRe_clause 16 [.ref a0, u1, u2, u3] [.long w2, .long w1, .ref r0] M bc bs Φ := by
  refine Ev.lmul dRe_clause_16 ?_
  refine Ev.ldc2_w (v := 14) dRe_clause_17 w1503 ?_
  refine Ev.ladd dRe_clause_20 ?_
  have g1 := h.1
  replace h := h.2
  exact Ev.vcV (z := mRe_isWord) (ci := 11) [.long ((w1 * w2) + 14)] [] rfl dRe_clause_21 oRe_isWord rfl w1504 iRe_isWord sRe_isWord (by decide) rfl g1 (Nat.le_of_ble_eq_true rfl) h
theorem bRe_clause_24 {l : Launch} {G : Gx} {d : Nat} {bc bs : Nat} {Φ : OutV → Mm → Prop} (M : Mm) (a0 : Nat) (u1 : Value) (u2 : Value) (u3 : Value) (s0 : Int32)
    (h : (s0 = 0 → CallVC l G d mRe_clause 45 [.ref a0, u1, u2, u3] [.ref a0] mRe_five [.int 11, .int 14, .int 15, .int 23, .int 19] M bc bs Φ) ∧ (¬ s0 = 0 → ((m_sh M a0).1 = 11) ∧ ((m_i M a0 7) = 40 → Ev l G d mRe_clause 141 [.ref a0, .int 0, u2, u3] [] M bc bs Φ) ∧ (¬ (m_i M a0 7) = 40 → (¬ (m_i M a0 10) = 8 → Ev l G d mRe_clause 150 [.ref a0, .int 0, u2, u3] [] M bc bs Φ) ∧ ((m_i M a0 10) = 8 → Ev l G d mRe_clause 141 [.ref a0, .int 0, u2, u3] [] M bc bs Φ)))) :
    Ev l G d mRe_clause 24 [.ref a0, u1, u2, u3] [.int s0] M bc bs Φ := by
  refine Ev.if_eq 31 (by decide) dRe_clause_24 (fun c => ?_) (fun c => ?_)
  · replace h := h.1 c
    refine Ev.aload_n dRe_clause_31 rfl ?_
    refine Ev.bipush (v := 11) dRe_clause_32 (by decide) ?_
    refine Ev.bipush (v := 14) dRe_clause_34 (by decide) ?_
    refine Ev.bipush (v := 15) dRe_clause_36 (by decide) ?_
    refine Ev.bipush (v := 23) dRe_clause_38 (by decide) ?_
    refine Ev.bipush (v := 19) dRe_clause_40 (by decide) ?_
    exact Ev.vcS (z := mRe_five) [.int 11, .int 14, .int 15, .int 23, .int 19] [.ref a0] rfl dRe_clause_42 oRe_five rfl w1500 iRe_five (Nat.le_of_ble_eq_true rfl) h
  · replace h := h.2 c
    refine Ev.iconst (v := 0) dRe_clause_27 (by decide) ?_
    refine Ev.goto 101 dRe_clause_28 (by decide) ?_
    refine Ev.istore_n dRe_clause_101 (by decide) ?_
    show Ev l G d mRe_clause (_ + _) [.ref a0, .int 0, u2, u3] [] M bc bs Φ
    refine Ev.iload_n dRe_clause_102 rfl ?_
    refine Ev.iconst (v := (-1)) dRe_clause_103 (by decide) ?_
    refine Ev.icmp_ne 119 (by decide) dRe_clause_104 (fun _ => ?_) (fun c => absurd c (by decide))
    refine Ev.aload_n dRe_clause_119 rfl ?_
    have g1 := h.1
    replace h := h.2
    refine Ev.getI dRe_clause_120 (Or.inl fRe_173) rfl g1 ?_
    refine Ev.bipush (v := 40) dRe_clause_123 (by decide) ?_
    refine Ev.icmp_eq 141 (by decide) dRe_clause_125 (fun c => ?_) (fun c => ?_)
    · replace h := h.1 c
      exact h
    · replace h := h.2 c
      refine Ev.iload_n dRe_clause_128 rfl ?_
      refine Ev.if_ne 150 (by decide) dRe_clause_129 (fun c => absurd c (by decide)) (fun _ => ?_)
      refine Ev.aload_n dRe_clause_132 rfl ?_
      refine Ev.getI dRe_clause_133 (Or.inl fRe_182) rfl g1 ?_
      refine Ev.bipush (v := 8) dRe_clause_136 (by decide) ?_
      refine Ev.icmp_ne 150 (by decide) dRe_clause_138 (fun c => ?_) (fun c => ?_)
      · replace h := h.1 c
        exact h
      · replace h := h.2 c
        exact h
theorem bRe_clause_45 {l : Launch} {G : Gx} {d : Nat} {bc bs : Nat} {Φ : OutV → Mm → Prop} (M : Mm) (a0 : Nat) (u1 : Value) (u2 : Value) (u3 : Value) (r0 : Nat) (w1 : Int64)
    (h : ((m_sh M r0).1 = 11) ∧ CallVC l G d mRe_clause 48 [.ref a0, u1, u2, u3] [] mRe_isWord [.ref r0, .long w1] M bc bs Φ) :
    Ev l G d mRe_clause 45 [.ref a0, u1, u2, u3] [.long w1, .ref r0] M bc bs Φ := by
  have g1 := h.1
  replace h := h.2
  exact Ev.vcV (z := mRe_isWord) (ci := 11) [.long w1] [] rfl dRe_clause_45 oRe_isWord rfl w1504 iRe_isWord sRe_isWord (by decide) rfl g1 (Nat.le_of_ble_eq_true rfl) h
theorem bRe_clause_48 {l : Launch} {G : Gx} {d : Nat} {bc bs : Nat} {Φ : OutV → Mm → Prop} (M : Mm) (a0 : Nat) (u1 : Value) (u2 : Value) (u3 : Value) (s0 : Int32)
    (h : (s0 = 0 → CallVC l G d mRe_clause 66 [.ref a0, u1, u2, u3] [.ref a0] mRe_five [.int 23, .int 1, .int 25, .int 0, .int 0] M bc bs Φ) ∧ (¬ s0 = 0 → ((m_sh M a0).1 = 11) ∧ ((m_i M a0 7) = 40 → Ev l G d mRe_clause 141 [.ref a0, .int 1, u2, u3] [] M bc bs Φ) ∧ (¬ (m_i M a0 7) = 40 → Ev l G d mRe_clause 150 [.ref a0, .int 1, u2, u3] [] M bc bs Φ))) :
    Ev l G d mRe_clause 48 [.ref a0, u1, u2, u3] [.int s0] M bc bs Φ := by
  refine Ev.if_eq 55 (by decide) dRe_clause_48 (fun c => ?_) (fun c => ?_)
  · replace h := h.1 c
    refine Ev.aload_n dRe_clause_55 rfl ?_
    refine Ev.bipush (v := 23) dRe_clause_56 (by decide) ?_
    refine Ev.iconst (v := 1) dRe_clause_58 (by decide) ?_
    refine Ev.bipush (v := 25) dRe_clause_59 (by decide) ?_
    refine Ev.iconst (v := 0) dRe_clause_61 (by decide) ?_
    refine Ev.iconst (v := 0) dRe_clause_62 (by decide) ?_
    exact Ev.vcS (z := mRe_five) [.int 23, .int 1, .int 25, .int 0, .int 0] [.ref a0] rfl dRe_clause_63 oRe_five rfl w1500 iRe_five (Nat.le_of_ble_eq_true rfl) h
  · replace h := h.2 c
    refine Ev.iconst (v := 1) dRe_clause_51 (by decide) ?_
    refine Ev.goto 101 dRe_clause_52 (by decide) ?_
    refine Ev.istore_n dRe_clause_101 (by decide) ?_
    show Ev l G d mRe_clause (_ + _) [.ref a0, .int 1, u2, u3] [] M bc bs Φ
    refine Ev.iload_n dRe_clause_102 rfl ?_
    refine Ev.iconst (v := (-1)) dRe_clause_103 (by decide) ?_
    refine Ev.icmp_ne 119 (by decide) dRe_clause_104 (fun _ => ?_) (fun c => absurd c (by decide))
    refine Ev.aload_n dRe_clause_119 rfl ?_
    have g1 := h.1
    replace h := h.2
    refine Ev.getI dRe_clause_120 (Or.inl fRe_173) rfl g1 ?_
    refine Ev.bipush (v := 40) dRe_clause_123 (by decide) ?_
    refine Ev.icmp_eq 141 (by decide) dRe_clause_125 (fun c => ?_) (fun c => ?_)
    · replace h := h.1 c
      exact h
    · replace h := h.2 c
      refine Ev.iload_n dRe_clause_128 rfl ?_
      refine Ev.if_ne 150 (by decide) dRe_clause_129 (fun _ => ?_) (fun c => absurd c (by decide))
      exact h
theorem bRe_clause_66 {l : Launch} {G : Gx} {d : Nat} {bc bs : Nat} {Φ : OutV → Mm → Prop} (M : Mm) (a0 : Nat) (u1 : Value) (u2 : Value) (u3 : Value) (r0 : Nat) (w1 : Int64)
    (h : ((m_sh M r0).1 = 11) ∧ CallVC l G d mRe_clause 69 [.ref a0, u1, u2, u3] [] mRe_isWord [.ref r0, .long w1] M bc bs Φ) :
    Ev l G d mRe_clause 66 [.ref a0, u1, u2, u3] [.long w1, .ref r0] M bc bs Φ := by
  have g1 := h.1
  replace h := h.2
  exact Ev.vcV (z := mRe_isWord) (ci := 11) [.long w1] [] rfl dRe_clause_66 oRe_isWord rfl w1504 iRe_isWord sRe_isWord (by decide) rfl g1 (Nat.le_of_ble_eq_true rfl) h
theorem bRe_clause_69 {l : Launch} {G : Gx} {d : Nat} {bc bs : Nat} {Φ : OutV → Mm → Prop} (M : Mm) (a0 : Nat) (u1 : Value) (u2 : Value) (u3 : Value) (s0 : Int32)
    (h : (s0 = 0 → CallVC l G d mRe_clause 90 [.ref a0, u1, u2, u3] [.ref a0] mRe_five [.int 21, .int 14, .int 20, .int 9, .int 12] M bc bs Φ) ∧ (¬ s0 = 0 → ((m_sh M a0).1 = 11) ∧ ((m_i M a0 7) = 40 → Ev l G d mRe_clause 141 [.ref a0, .int 2, u2, u3] [] M bc bs Φ) ∧ (¬ (m_i M a0 7) = 40 → Ev l G d mRe_clause 150 [.ref a0, .int 2, u2, u3] [] M bc bs Φ))) :
    Ev l G d mRe_clause 69 [.ref a0, u1, u2, u3] [.int s0] M bc bs Φ := by
  refine Ev.if_eq 76 (by decide) dRe_clause_69 (fun c => ?_) (fun c => ?_)
  · replace h := h.1 c
    refine Ev.aload_n dRe_clause_76 rfl ?_
    refine Ev.bipush (v := 21) dRe_clause_77 (by decide) ?_
    refine Ev.bipush (v := 14) dRe_clause_79 (by decide) ?_
    refine Ev.bipush (v := 20) dRe_clause_81 (by decide) ?_
    refine Ev.bipush (v := 9) dRe_clause_83 (by decide) ?_
    refine Ev.bipush (v := 12) dRe_clause_85 (by decide) ?_
    exact Ev.vcS (z := mRe_five) [.int 21, .int 14, .int 20, .int 9, .int 12] [.ref a0] rfl dRe_clause_87 oRe_five rfl w1500 iRe_five (Nat.le_of_ble_eq_true rfl) h
  · replace h := h.2 c
    refine Ev.iconst (v := 2) dRe_clause_72 (by decide) ?_
    refine Ev.goto 101 dRe_clause_73 (by decide) ?_
    refine Ev.istore_n dRe_clause_101 (by decide) ?_
    show Ev l G d mRe_clause (_ + _) [.ref a0, .int 2, u2, u3] [] M bc bs Φ
    refine Ev.iload_n dRe_clause_102 rfl ?_
    refine Ev.iconst (v := (-1)) dRe_clause_103 (by decide) ?_
    refine Ev.icmp_ne 119 (by decide) dRe_clause_104 (fun _ => ?_) (fun c => absurd c (by decide))
    refine Ev.aload_n dRe_clause_119 rfl ?_
    have g1 := h.1
    replace h := h.2
    refine Ev.getI dRe_clause_120 (Or.inl fRe_173) rfl g1 ?_
    refine Ev.bipush (v := 40) dRe_clause_123 (by decide) ?_
    refine Ev.icmp_eq 141 (by decide) dRe_clause_125 (fun c => ?_) (fun c => ?_)
    · replace h := h.1 c
      exact h
    · replace h := h.2 c
      refine Ev.iload_n dRe_clause_128 rfl ?_
      refine Ev.if_ne 150 (by decide) dRe_clause_129 (fun _ => ?_) (fun c => absurd c (by decide))
      exact h
theorem bRe_clause_90 {l : Launch} {G : Gx} {d : Nat} {bc bs : Nat} {Φ : OutV → Mm → Prop} (M : Mm) (a0 : Nat) (u1 : Value) (u2 : Value) (u3 : Value) (r0 : Nat) (w1 : Int64)
    (h : ((m_sh M r0).1 = 11) ∧ CallVC l G d mRe_clause 93 [.ref a0, u1, u2, u3] [] mRe_isWord [.ref r0, .long w1] M bc bs Φ) :
    Ev l G d mRe_clause 90 [.ref a0, u1, u2, u3] [.long w1, .ref r0] M bc bs Φ := by
  have g1 := h.1
  replace h := h.2
  exact Ev.vcV (z := mRe_isWord) (ci := 11) [.long w1] [] rfl dRe_clause_90 oRe_isWord rfl w1504 iRe_isWord sRe_isWord (by decide) rfl g1 (Nat.le_of_ble_eq_true rfl) h
def mRe_wrong : MR := (⟨"BowingRowModel", "wrong", "(II)V"⟩, prog_14_method_8_code, 3, none)
theorem oRe_wrong : MOK mRe_wrong 2 := ⟨lwg_of 1517 (by decide +kernel) (by decide +kernel), lwg_of 103 (by decide +kernel) (by decide +kernel), ⟨by decide +kernel, by decide +kernel⟩, by decide +kernel, by decide⟩
theorem iRe_wrong : Cond.instanceMethod mRe_wrong.1 ∈ lwg := lwg_of 1516 (by decide +kernel) (by decide +kernel)
theorem sRe_wrong : Cond.selects mRe_wrong.1.cls mRe_wrong.1 mRe_wrong.1 ∈ lwg := lwg_of 45 (by decide +kernel) (by decide +kernel)
theorem w1514 : Cond.methodLink "BowingRowModel" 144 ⟨"BowingRowModel", "wrong", "(II)V"⟩ ∈ lwg := lwg_of 1514 (by decide +kernel) (by decide +kernel)
theorem bRe_clause_93 {l : Launch} {G : Gx} {d : Nat} {bc bs : Nat} {Φ : OutV → Mm → Prop} (M : Mm) (a0 : Nat) (u1 : Value) (u2 : Value) (u3 : Value) (s0 : Int32)
    (h : (s0 = 0 → ((m_sh M a0).1 = 11) ∧ CallVC l G d mRe_clause 116 [.ref a0, .int ((-1)), u2, u3] [] mRe_wrong [.ref a0, .int 1, .int (m_i M a0 4)] M bc bs Φ) ∧ (¬ s0 = 0 → ((m_sh M a0).1 = 11) ∧ ((m_i M a0 7) = 40 → Ev l G d mRe_clause 141 [.ref a0, .int 3, u2, u3] [] M bc bs Φ) ∧ (¬ (m_i M a0 7) = 40 → Ev l G d mRe_clause 150 [.ref a0, .int 3, u2, u3] [] M bc bs Φ))) :
    Ev l G d mRe_clause 93 [.ref a0, u1, u2, u3] [.int s0] M bc bs Φ := by
  refine Ev.if_eq 100 (by decide) dRe_clause_93 (fun c => ?_) (fun c => ?_)
  · replace h := h.1 c
    refine Ev.iconst (v := (-1)) dRe_clause_100 (by decide) ?_
    refine Ev.istore_n dRe_clause_101 (by decide) ?_
    show Ev l G d mRe_clause (_ + _) [.ref a0, .int ((-1)), u2, u3] [] M bc bs Φ
    refine Ev.iload_n dRe_clause_102 rfl ?_
    refine Ev.iconst (v := (-1)) dRe_clause_103 (by decide) ?_
    refine Ev.icmp_ne 119 (by decide) dRe_clause_104 (fun c => absurd c (by decide)) (fun _ => ?_)
    refine Ev.aload_n dRe_clause_107 rfl ?_
    refine Ev.iconst (v := 1) dRe_clause_108 (by decide) ?_
    refine Ev.aload_n dRe_clause_109 rfl ?_
    have g1 := h.1
    replace h := h.2
    refine Ev.getI dRe_clause_110 (Or.inl fRe_124) rfl g1 ?_
    exact Ev.vcV (z := mRe_wrong) (ci := 11) [.int 1, .int (m_i M a0 4)] [] rfl dRe_clause_113 oRe_wrong rfl w1514 iRe_wrong sRe_wrong (by decide) rfl g1 (Nat.le_of_ble_eq_true rfl) h
  · replace h := h.2 c
    refine Ev.iconst (v := 3) dRe_clause_96 (by decide) ?_
    refine Ev.goto 101 dRe_clause_97 (by decide) ?_
    refine Ev.istore_n dRe_clause_101 (by decide) ?_
    show Ev l G d mRe_clause (_ + _) [.ref a0, .int 3, u2, u3] [] M bc bs Φ
    refine Ev.iload_n dRe_clause_102 rfl ?_
    refine Ev.iconst (v := (-1)) dRe_clause_103 (by decide) ?_
    refine Ev.icmp_ne 119 (by decide) dRe_clause_104 (fun _ => ?_) (fun c => absurd c (by decide))
    refine Ev.aload_n dRe_clause_119 rfl ?_
    have g2 := h.1
    replace h := h.2
    refine Ev.getI dRe_clause_120 (Or.inl fRe_173) rfl g2 ?_
    refine Ev.bipush (v := 40) dRe_clause_123 (by decide) ?_
    refine Ev.icmp_eq 141 (by decide) dRe_clause_125 (fun c => ?_) (fun c => ?_)
    · replace h := h.1 c
      exact h
    · replace h := h.2 c
      refine Ev.iload_n dRe_clause_128 rfl ?_
      refine Ev.if_ne 150 (by decide) dRe_clause_129 (fun _ => ?_) (fun c => absurd c (by decide))
      exact h
theorem bRe_clause_116 {l : Launch} {G : Gx} {d : Nat} {bc bs : Nat} {Φ : OutV → Mm → Prop} (M : Mm) (a0 : Nat) (x1 : Int32) (u2 : Value) (u3 : Value)
    (h : Ev l G d mRe_clause 150 [.ref a0, .int x1, u2, u3] [] M bc bs Φ) :
    Ev l G d mRe_clause 116 [.ref a0, .int x1, u2, u3] [] M bc bs Φ := by
  refine Ev.goto 150 dRe_clause_116 (by decide) ?_
  exact h
theorem bRe_clause_141 {l : Launch} {G : Gx} {d : Nat} {bc bs : Nat} {Φ : OutV → Mm → Prop} (M : Mm) (a0 : Nat) (x1 : Int32) (u2 : Value) (u3 : Value)
    (h : ((m_sh M a0).1 = 11) ∧ CallVC l G d mRe_clause 150 [.ref a0, .int x1, u2, u3] [] mRe_wrong [.ref a0, .int 3, .int (m_i M a0 4)] M bc bs Φ) :
    Ev l G d mRe_clause 141 [.ref a0, .int x1, u2, u3] [] M bc bs Φ := by
  refine Ev.aload_n dRe_clause_141 rfl ?_
  refine Ev.iconst (v := 3) dRe_clause_142 (by decide) ?_
  refine Ev.aload_n dRe_clause_143 rfl ?_
  have g1 := h.1
  replace h := h.2
  refine Ev.getI dRe_clause_144 (Or.inl fRe_124) rfl g1 ?_
  exact Ev.vcV (z := mRe_wrong) (ci := 11) [.int 3, .int (m_i M a0 4)] [] rfl dRe_clause_147 oRe_wrong rfl w1514 iRe_wrong sRe_wrong (by decide) rfl g1 (Nat.le_of_ble_eq_true rfl) h
def mRe_skipWord : MR := (⟨"BowingRowModel", "skipWord", "()V"⟩, prog_14_method_14_code, 1, none)
theorem oRe_skipWord : MOK mRe_skipWord 0 := ⟨lwg_of 1521 (by decide +kernel) (by decide +kernel), lwg_of 103 (by decide +kernel) (by decide +kernel), ⟨by decide +kernel, by decide +kernel⟩, by decide +kernel, by decide⟩
theorem iRe_skipWord : Cond.instanceMethod mRe_skipWord.1 ∈ lwg := lwg_of 1520 (by decide +kernel) (by decide +kernel)
theorem sRe_skipWord : Cond.selects mRe_skipWord.1.cls mRe_skipWord.1 mRe_skipWord.1 ∈ lwg := lwg_of 46 (by decide +kernel) (by decide +kernel)
theorem w1518 : Cond.methodLink "BowingRowModel" 167 ⟨"BowingRowModel", "skipWord", "()V"⟩ ∈ lwg := lwg_of 1518 (by decide +kernel) (by decide +kernel)
theorem bRe_clause_150 {l : Launch} {G : Gx} {d : Nat} {bc bs : Nat} {Φ : OutV → Mm → Prop} (M : Mm) (a0 : Nat) (x1 : Int32) (u2 : Value) (u3 : Value)
    (h : ((m_sh M a0).1 = 11) ∧ ((m_i M a0 5) = 0 → CallVC l G d mRe_clause 162 [.ref a0, .int x1, u2, u3] [] mRe_skipWord [.ref a0] M bc bs Φ) ∧ (¬ (m_i M a0 5) = 0 → Φ (.inl none) M)) :
    Ev l G d mRe_clause 150 [.ref a0, .int x1, u2, u3] [] M bc bs Φ := by
  refine Ev.aload_n dRe_clause_150 rfl ?_
  have g1 := h.1
  replace h := h.2
  refine Ev.getI dRe_clause_151 (Or.inl fRe_131) rfl g1 ?_
  refine Ev.if_eq 158 (by decide) dRe_clause_154 (fun c => ?_) (fun c => ?_)
  · replace h := h.1 c
    refine Ev.aload_n dRe_clause_158 rfl ?_
    exact Ev.vcV (z := mRe_skipWord) (ci := 11) [] [] rfl dRe_clause_159 oRe_skipWord rfl w1518 iRe_skipWord sRe_skipWord (by decide) rfl g1 (Nat.le_of_ble_eq_true rfl) h
  · replace h := h.2 c
    exact Ev.vret dRe_clause_157 rfl h
def mRe_numberHere : MR := (⟨"BowingRowModel", "numberHere", "(III)I"⟩, prog_14_method_10_code, 6, (Option.some .int))
theorem oRe_numberHere : MOK mRe_numberHere 3 := ⟨lwg_of 1529 (by decide +kernel) (by decide +kernel), lwg_of 103 (by decide +kernel) (by decide +kernel), ⟨by decide +kernel, by decide +kernel⟩, by decide +kernel, by decide⟩
theorem iRe_numberHere : Cond.instanceMethod mRe_numberHere.1 ∈ lwg := lwg_of 1528 (by decide +kernel) (by decide +kernel)
theorem sRe_numberHere : Cond.selects mRe_numberHere.1.cls mRe_numberHere.1 mRe_numberHere.1 ∈ lwg := lwg_of 48 (by decide +kernel) (by decide +kernel)
theorem w1526 : Cond.methodLink "BowingRowModel" 188 ⟨"BowingRowModel", "numberHere", "(III)I"⟩ ∈ lwg := lwg_of 1526 (by decide +kernel) (by decide +kernel)
def mRe_readsPerson : MR := (⟨"BowingRowModel", "readsPerson", "()V"⟩, prog_14_method_21_code, 2, none)
theorem oRe_readsPerson : MOK mRe_readsPerson 0 := ⟨lwg_of 1525 (by decide +kernel) (by decide +kernel), lwg_of 103 (by decide +kernel) (by decide +kernel), ⟨by decide +kernel, by decide +kernel⟩, by decide +kernel, by decide⟩
theorem iRe_readsPerson : Cond.instanceMethod mRe_readsPerson.1 ∈ lwg := lwg_of 1524 (by decide +kernel) (by decide +kernel)
theorem sRe_readsPerson : Cond.selects mRe_readsPerson.1.cls mRe_readsPerson.1 mRe_readsPerson.1 ∈ lwg := lwg_of 47 (by decide +kernel) (by decide +kernel)
theorem w1522 : Cond.methodLink "BowingRowModel" 185 ⟨"BowingRowModel", "readsPerson", "()V"⟩ ∈ lwg := lwg_of 1522 (by decide +kernel) (by decide +kernel)
theorem bRe_clause_162 {l : Launch} {G : Gx} {d : Nat} {bc bs : Nat} {Φ : OutV → Mm → Prop} (M : Mm) (a0 : Nat) (x1 : Int32) (u2 : Value) (u3 : Value)
    (h : ((m_sh M a0).1 = 11) ∧ (¬ x1 = 0 → CallVC l G d mRe_clause 195 [.ref a0, .int x1, u2, u3] [] mRe_numberHere [.ref a0, .int 0, .int ((m_i (m_si M a0 7 ((m_i M a0 7) + 1)) a0 10) - 1), .int ((-1))] (m_si M a0 7 ((m_i M a0 7) + 1)) bc bs Φ) ∧ (x1 = 0 → CallVC l G d mRe_clause 180 [.ref a0, .int x1, u2, u3] [] mRe_readsPerson [.ref a0] (m_si M a0 7 ((m_i M a0 7) + 1)) bc bs Φ)) :
    Ev l G d mRe_clause 162 [.ref a0, .int x1, u2, u3] [] M bc bs Φ := by
  refine Ev.aload_n dRe_clause_162 rfl ?_
  refine Ev.dup dRe_clause_163 rfl ?_
  have g1 := h.1
  replace h := h.2
  refine Ev.getI dRe_clause_164 (Or.inl fRe_173) rfl g1 ?_
  refine Ev.iconst (v := 1) dRe_clause_167 (by decide) ?_
  refine Ev.iadd dRe_clause_168 ?_
  refine Ev.putI dRe_clause_169 ⟨_, Or.inl ⟨fRe_173, (fun h => by cases h)⟩⟩ rfl ⟨rfl, rfl⟩ g1 ?_
  refine Ev.iload_n dRe_clause_172 rfl ?_
  refine Ev.if_ne 183 (by decide) dRe_clause_173 (fun c => ?_) (fun c => ?_)
  · replace h := h.1 c
    refine Ev.aload_n dRe_clause_183 rfl ?_
    refine Ev.iconst (v := 0) dRe_clause_184 (by decide) ?_
    refine Ev.aload_n dRe_clause_185 rfl ?_
    refine Ev.getI dRe_clause_186 (Or.inl fRe_182) rfl g1 ?_
    refine Ev.iconst (v := 1) dRe_clause_189 (by decide) ?_
    refine Ev.isub dRe_clause_190 ?_
    refine Ev.iconst (v := (-1)) dRe_clause_191 (by decide) ?_
    exact Ev.vcV (z := mRe_numberHere) (ci := 11) [.int 0, .int ((m_i (m_si M a0 7 ((m_i M a0 7) + 1)) a0 10) - 1), .int ((-1))] [] rfl dRe_clause_192 oRe_numberHere rfl w1526 iRe_numberHere sRe_numberHere (by decide) rfl g1 (Nat.le_of_ble_eq_true rfl) h
  · replace h := h.2 c
    refine Ev.aload_n dRe_clause_176 rfl ?_
    exact Ev.vcV (z := mRe_readsPerson) (ci := 11) [] [] rfl dRe_clause_177 oRe_readsPerson rfl w1522 iRe_readsPerson sRe_readsPerson (by decide) rfl g1 (Nat.le_of_ble_eq_true rfl) h
theorem bRe_clause_180 {l : Launch} {G : Gx} {d : Nat} {bc bs : Nat} {Φ : OutV → Mm → Prop} (M : Mm) (a0 : Nat) (x1 : Int32) (u2 : Value) (u3 : Value)
    (h : Ev l G d mRe_clause 305 [.ref a0, .int x1, u2, u3] [] M bc bs Φ) :
    Ev l G d mRe_clause 180 [.ref a0, .int x1, u2, u3] [] M bc bs Φ := by
  refine Ev.goto 305 dRe_clause_180 (by decide) ?_
  exact h
theorem bRe_clause_195 {l : Launch} {G : Gx} {d : Nat} {bc bs : Nat} {Φ : OutV → Mm → Prop} (M : Mm) (a0 : Nat) (x1 : Int32) (u2 : Value) (u3 : Value) (s0 : Int32)
    (h : (¬ x1 = 1 → (¬ x1 = 2 → ((m_sh M a0).1 = 11) ∧ CallVC l G d mRe_clause 233 [.ref a0, .int x1, .int s0, u3] [] mRe_numberHere [.ref a0, .int 0, .int 99, .int ((-1))] M bc bs Φ) ∧ (x1 = 2 → ((m_sh M a0).1 = 11) ∧ CallVC l G d mRe_clause 233 [.ref a0, .int x1, .int s0, u3] [] mRe_numberHere [.ref a0, .int 0, .int 4, .int ((-1))] M bc bs Φ)) ∧ (x1 = 1 → ((m_sh M a0).1 = 11) ∧ CallVC l G d mRe_clause 213 [.ref a0, .int x1, .int s0, u3] [] mRe_numberHere [.ref a0, .int 0, .int ((m_i M a0 10) - 1), .int s0] M bc bs Φ)) :
    Ev l G d mRe_clause 195 [.ref a0, .int x1, u2, u3] [.int s0] M bc bs Φ := by
  refine Ev.istore_n dRe_clause_195 (by decide) ?_
  show Ev l G d mRe_clause (_ + _) [.ref a0, .int x1, .int s0, u3] [] M bc bs Φ
  refine Ev.iload_n dRe_clause_196 rfl ?_
  refine Ev.iconst (v := 1) dRe_clause_197 (by decide) ?_
  refine Ev.icmp_ne 216 (by decide) dRe_clause_198 (fun c => ?_) (fun c => ?_)
  · replace h := h.1 c
    refine Ev.aload_n dRe_clause_216 rfl ?_
    refine Ev.iconst (v := 0) dRe_clause_217 (by decide) ?_
    refine Ev.iload_n dRe_clause_218 rfl ?_
    refine Ev.iconst (v := 2) dRe_clause_219 (by decide) ?_
    refine Ev.icmp_ne 227 (by decide) dRe_clause_220 (fun c => ?_) (fun c => ?_)
    · replace h := h.1 c
      refine Ev.bipush (v := 99) dRe_clause_227 (by decide) ?_
      refine Ev.iconst (v := (-1)) dRe_clause_229 (by decide) ?_
      have g1 := h.1
      replace h := h.2
      exact Ev.vcV (z := mRe_numberHere) (ci := 11) [.int 0, .int 99, .int ((-1))] [] rfl dRe_clause_230 oRe_numberHere rfl w1526 iRe_numberHere sRe_numberHere (by decide) rfl g1 (Nat.le_of_ble_eq_true rfl) h
    · replace h := h.2 c
      refine Ev.iconst (v := 4) dRe_clause_223 (by decide) ?_
      refine Ev.goto 229 dRe_clause_224 (by decide) ?_
      refine Ev.iconst (v := (-1)) dRe_clause_229 (by decide) ?_
      have g2 := h.1
      replace h := h.2
      exact Ev.vcV (z := mRe_numberHere) (ci := 11) [.int 0, .int 4, .int ((-1))] [] rfl dRe_clause_230 oRe_numberHere rfl w1526 iRe_numberHere sRe_numberHere (by decide) rfl g2 (Nat.le_of_ble_eq_true rfl) h
  · replace h := h.2 c
    refine Ev.aload_n dRe_clause_201 rfl ?_
    refine Ev.iconst (v := 0) dRe_clause_202 (by decide) ?_
    refine Ev.aload_n dRe_clause_203 rfl ?_
    have g3 := h.1
    replace h := h.2
    refine Ev.getI dRe_clause_204 (Or.inl fRe_182) rfl g3 ?_
    refine Ev.iconst (v := 1) dRe_clause_207 (by decide) ?_
    refine Ev.isub dRe_clause_208 ?_
    refine Ev.iload_n dRe_clause_209 rfl ?_
    exact Ev.vcV (z := mRe_numberHere) (ci := 11) [.int 0, .int ((m_i M a0 10) - 1), .int s0] [] rfl dRe_clause_210 oRe_numberHere rfl w1526 iRe_numberHere sRe_numberHere (by decide) rfl g3 (Nat.le_of_ble_eq_true rfl) h
theorem bRe_clause_213 {l : Launch} {G : Gx} {d : Nat} {bc bs : Nat} {Φ : OutV → Mm → Prop} (M : Mm) (a0 : Nat) (x1 : Int32) (x2 : Int32) (u3 : Value) (s0 : Int32)
    (h : Ev l G d mRe_clause 233 [.ref a0, .int x1, .int x2, u3] [.int s0] M bc bs Φ) :
    Ev l G d mRe_clause 213 [.ref a0, .int x1, .int x2, u3] [.int s0] M bc bs Φ := by
  refine Ev.goto 233 dRe_clause_213 (by decide) ?_
  exact h
theorem bRe_clause_233 {l : Launch} {G : Gx} {d : Nat} {bc bs : Nat} {Φ : OutV → Mm → Prop} (M : Mm) (a0 : Nat) (x1 : Int32) (x2 : Int32) (u3 : Value) (s0 : Int32)
    (h : ((m_sh M a0).1 = 11) ∧ (¬ (m_i M a0 5) = 0 → Ev l G d mRe_clause 279 [.ref a0, .int x1, .int x2, .int s0] [] M bc bs Φ) ∧ ((m_i M a0 5) = 0 → (¬ x1 = 1 → Ev l G d mRe_clause 279 [.ref a0, .int x1, .int x2, .int s0] [] M bc bs Φ) ∧ (x1 = 1 → ((m_sh M (m_r M a0 12)).1 = 33) ∧ (vp_in x2 (m_sh M (m_r M a0 12)).2) ∧ ((m_sh M (m_r M (m_r M a0 12) x2.toNatClampNeg)).1 = 20) ∧ (vp_in 7 (m_sh M (m_r M (m_r M a0 12) x2.toNatClampNeg)).2) ∧ (vp_in s0 (m_sh M (m_r M a0 12)).2) ∧ ((m_sh M (m_r M (m_r M a0 12) s0.toNatClampNeg)).1 = 20) ∧ (vp_in 7 (m_sh M (m_r M (m_r M a0 12) s0.toNatClampNeg)).2) ∧ Ev l G d mRe_clause 276 [.ref a0, .int x1, .int x2, .int s0] [] (m_si (m_si M (m_r M (m_r M a0 12) x2.toNatClampNeg) (7 : Int32).toNatClampNeg ((m_i M (m_r M (m_r M a0 12) x2.toNatClampNeg) (7 : Int32).toNatClampNeg) ||| (1 <<< (s0 &&& 31)))) (m_r M (m_r M a0 12) s0.toNatClampNeg) (7 : Int32).toNatClampNeg ((m_i (m_si M (m_r M (m_r M a0 12) x2.toNatClampNeg) (7 : Int32).toNatClampNeg ((m_i M (m_r M (m_r M a0 12) x2.toNatClampNeg) (7 : Int32).toNatClampNeg) ||| (1 <<< (s0 &&& 31)))) (m_r M (m_r M a0 12) s0.toNatClampNeg) (7 : Int32).toNatClampNeg) ||| (1 <<< (x2 &&& 31)))) bc bs Φ))) :
    Ev l G d mRe_clause 233 [.ref a0, .int x1, .int x2, u3] [.int s0] M bc bs Φ := by
  refine Ev.istore_n dRe_clause_233 (by decide) ?_
  show Ev l G d mRe_clause (_ + _) [.ref a0, .int x1, .int x2, .int s0] [] M bc bs Φ
  refine Ev.aload_n dRe_clause_234 rfl ?_
  have g1 := h.1
  replace h := h.2
  refine Ev.getI dRe_clause_235 (Or.inl fRe_131) rfl g1 ?_
  refine Ev.if_ne 279 (by decide) dRe_clause_238 (fun c => ?_) (fun c => ?_)
  · replace h := h.1 c
    exact h
  · replace h := h.2 c
    refine Ev.iload_n dRe_clause_241 rfl ?_
    refine Ev.iconst (v := 1) dRe_clause_242 (by decide) ?_
    refine Ev.icmp_ne 279 (by decide) dRe_clause_243 (fun c => ?_) (fun c => ?_)
    · replace h := h.1 c
      exact h
    · replace h := h.2 c
      refine Ev.aload_n dRe_clause_246 rfl ?_
      refine Ev.getR dRe_clause_247 (Or.inl fRe_19) rfl g1 ?_
      refine Ev.iload_n dRe_clause_250 rfl ?_
      have g2 := h.1
      replace h := h.2
      have g3 := h.1
      replace h := h.2
      refine Ev.aald2 33 (by decide) dRe_clause_251 g2 g3 ?_
      refine Ev.bipush (v := 7) dRe_clause_252 (by decide) ?_
      refine Ev.dup2 dRe_clause_254 rfl rfl ?_
      have g4 := h.1
      replace h := h.2
      have g5 := h.1
      replace h := h.2
      refine Ev.iald2 dRe_clause_255 g4 g5 ?_
      refine Ev.iconst (v := 1) dRe_clause_256 (by decide) ?_
      refine Ev.iload_n dRe_clause_257 rfl ?_
      refine Ev.ishl dRe_clause_258 ?_
      refine Ev.ior dRe_clause_259 ?_
      refine Ev.iast2 dRe_clause_260 g4 g5 ?_
      refine Ev.aload_n dRe_clause_261 rfl ?_
      refine Ev.getR dRe_clause_262 (Or.inl fRe_19) rfl g1 ?_
      refine Ev.iload_n dRe_clause_265 rfl ?_
      have g6 := h.1
      replace h := h.2
      refine Ev.aald2 33 (by decide) dRe_clause_266 g2 g6 ?_
      refine Ev.bipush (v := 7) dRe_clause_267 (by decide) ?_
      refine Ev.dup2 dRe_clause_269 rfl rfl ?_
      have g7 := h.1
      replace h := h.2
      have g8 := h.1
      replace h := h.2
      refine Ev.iald2 dRe_clause_270 g7 g8 ?_
      refine Ev.iconst (v := 1) dRe_clause_271 (by decide) ?_
      refine Ev.iload_n dRe_clause_272 rfl ?_
      refine Ev.ishl dRe_clause_273 ?_
      refine Ev.ior dRe_clause_274 ?_
      refine Ev.iast2 dRe_clause_275 g7 g8 ?_
      exact h
theorem bRe_clause_276 {l : Launch} {G : Gx} {d : Nat} {bc bs : Nat} {Φ : OutV → Mm → Prop} (M : Mm) (a0 : Nat) (x1 : Int32) (x2 : Int32) (x3 : Int32)
    (h : Ev l G d mRe_clause 305 [.ref a0, .int x1, .int x2, .int x3] [] M bc bs Φ) :
    Ev l G d mRe_clause 276 [.ref a0, .int x1, .int x2, .int x3] [] M bc bs Φ := by
  refine Ev.goto 305 dRe_clause_276 (by decide) ?_
  exact h
theorem bRe_clause_279 {l : Launch} {G : Gx} {d : Nat} {bc bs : Nat} {Φ : OutV → Mm → Prop} (M : Mm) (a0 : Nat) (x1 : Int32) (x2 : Int32) (x3 : Int32)
    (h : ((m_sh M a0).1 = 11) ∧ (¬ (m_i M a0 5) = 0 → Ev l G d mRe_clause 305 [.ref a0, .int x1, .int x2, .int x3] [] M bc bs Φ) ∧ ((m_i M a0 5) = 0 → ((m_sh M (m_r M a0 12)).1 = 33) ∧ (vp_in x2 (m_sh M (m_r M a0 12)).2) ∧ (¬ x1 = 2 → ((m_sh M (m_r M (m_r M a0 12) x2.toNatClampNeg)).1 = 20) ∧ (vp_in 6 (m_sh M (m_r M (m_r M a0 12) x2.toNatClampNeg)).2) ∧ Ev l G d mRe_clause 305 [.ref a0, .int x1, .int x2, .int x3] [] (m_si M (m_r M (m_r M a0 12) x2.toNatClampNeg) (6 : Int32).toNatClampNeg x3) bc bs Φ) ∧ (x1 = 2 → ((m_sh M (m_r M (m_r M a0 12) x2.toNatClampNeg)).1 = 20) ∧ (vp_in 5 (m_sh M (m_r M (m_r M a0 12) x2.toNatClampNeg)).2) ∧ Ev l G d mRe_clause 305 [.ref a0, .int x1, .int x2, .int x3] [] (m_si M (m_r M (m_r M a0 12) x2.toNatClampNeg) (5 : Int32).toNatClampNeg x3) bc bs Φ))) :
    Ev l G d mRe_clause 279 [.ref a0, .int x1, .int x2, .int x3] [] M bc bs Φ := by
  refine Ev.aload_n dRe_clause_279 rfl ?_
  have g1 := h.1
  replace h := h.2
  refine Ev.getI dRe_clause_280 (Or.inl fRe_131) rfl g1 ?_
  refine Ev.if_ne 305 (by decide) dRe_clause_283 (fun c => ?_) (fun c => ?_)
  · replace h := h.1 c
    exact h
  · replace h := h.2 c
    refine Ev.aload_n dRe_clause_286 rfl ?_
    refine Ev.getR dRe_clause_287 (Or.inl fRe_19) rfl g1 ?_
    refine Ev.iload_n dRe_clause_290 rfl ?_
    have g2 := h.1
    replace h := h.2
    have g3 := h.1
    replace h := h.2
    refine Ev.aald2 33 (by decide) dRe_clause_291 g2 g3 ?_
    refine Ev.iload_n dRe_clause_292 rfl ?_
    refine Ev.iconst (v := 2) dRe_clause_293 (by decide) ?_
    refine Ev.icmp_ne 301 (by decide) dRe_clause_294 (fun c => ?_) (fun c => ?_)
    · replace h := h.1 c
      refine Ev.bipush (v := 6) dRe_clause_301 (by decide) ?_
      refine Ev.iload_n dRe_clause_303 rfl ?_
      have g4 := h.1
      replace h := h.2
      have g5 := h.1
      replace h := h.2
      refine Ev.iast2 dRe_clause_304 g4 g5 ?_
      exact h
    · replace h := h.2 c
      refine Ev.iconst (v := 5) dRe_clause_297 (by decide) ?_
      refine Ev.goto 303 dRe_clause_298 (by decide) ?_
      refine Ev.iload_n dRe_clause_303 rfl ?_
      have g6 := h.1
      replace h := h.2
      have g7 := h.1
      replace h := h.2
      refine Ev.iast2 dRe_clause_304 g6 g7 ?_
      exact h
def mRe_sign : MR := (⟨"BowingRowModel", "sign", "(I)V"⟩, prog_14_method_17_code, 2, none)
theorem oRe_sign : MOK mRe_sign 1 := ⟨lwg_of 1537 (by decide +kernel) (by decide +kernel), lwg_of 103 (by decide +kernel) (by decide +kernel), ⟨by decide +kernel, by decide +kernel⟩, by decide +kernel, by decide⟩
theorem iRe_sign : Cond.instanceMethod mRe_sign.1 ∈ lwg := lwg_of 1536 (by decide +kernel) (by decide +kernel)
theorem sRe_sign : Cond.selects mRe_sign.1.cls mRe_sign.1 mRe_sign.1 ∈ lwg := lwg_of 49 (by decide +kernel) (by decide +kernel)
theorem w1534 : Cond.methodLink "BowingRowModel" 192 ⟨"BowingRowModel", "sign", "(I)V"⟩ ∈ lwg := lwg_of 1534 (by decide +kernel) (by decide +kernel)
theorem bRe_clause_305 {l : Launch} {G : Gx} {d : Nat} {bc bs : Nat} {Φ : OutV → Mm → Prop} (M : Mm) (a0 : Nat) (x1 : Int32) (u2 : Value) (u3 : Value)
    (h : ((m_sh M a0).1 = 11) ∧ CallVC l G d mRe_clause 311 [.ref a0, .int x1, u2, u3] [] mRe_sign [.ref a0, .int 59] M bc bs Φ) :
    Ev l G d mRe_clause 305 [.ref a0, .int x1, u2, u3] [] M bc bs Φ := by
  refine Ev.aload_n dRe_clause_305 rfl ?_
  refine Ev.bipush (v := 59) dRe_clause_306 (by decide) ?_
  have g1 := h.1
  replace h := h.2
  exact Ev.vcV (z := mRe_sign) (ci := 11) [.int 59] [] rfl dRe_clause_308 oRe_sign rfl w1534 iRe_sign sRe_sign (by decide) rfl g1 (Nat.le_of_ble_eq_true rfl) h
theorem bRe_clause_311 {l : Launch} {G : Gx} {d : Nat} {bc bs : Nat} {Φ : OutV → Mm → Prop} (M : Mm) (a0 : Nat) (x1 : Int32) (u2 : Value) (u3 : Value)
    (h : Φ (.inl none) M) :
    Ev l G d mRe_clause 311 [.ref a0, .int x1, u2, u3] [] M bc bs Φ := by
  exact Ev.vret dRe_clause_311 rfl h
theorem dRe_five_0 : decode mRe_five.2.1 0 = .ok (.ldc2_w 153, 3) := by decide +kernel
theorem dRe_five_3 : decode mRe_five.2.1 3 = .ok (.ldc2_w 153, 3) := by decide +kernel
theorem dRe_five_6 : decode mRe_five.2.1 6 = .ok (.iload_n 0, 1) := by decide +kernel
theorem dRe_five_7 : decode mRe_five.2.1 7 = .ok (.i2l, 1) := by decide +kernel
theorem dRe_five_8 : decode mRe_five.2.1 8 = .ok (.lmul, 1) := by decide +kernel
theorem dRe_five_9 : decode mRe_five.2.1 9 = .ok (.iload_n 1, 1) := by decide +kernel
theorem dRe_five_10 : decode mRe_five.2.1 10 = .ok (.i2l, 1) := by decide +kernel
theorem dRe_five_11 : decode mRe_five.2.1 11 = .ok (.ladd, 1) := by decide +kernel
theorem dRe_five_12 : decode mRe_five.2.1 12 = .ok (.lmul, 1) := by decide +kernel
theorem dRe_five_13 : decode mRe_five.2.1 13 = .ok (.iload_n 2, 1) := by decide +kernel
theorem dRe_five_14 : decode mRe_five.2.1 14 = .ok (.i2l, 1) := by decide +kernel
theorem dRe_five_15 : decode mRe_five.2.1 15 = .ok (.ladd, 1) := by decide +kernel
theorem dRe_five_16 : decode mRe_five.2.1 16 = .ok (.lstore 5, 2) := by decide +kernel
theorem dRe_five_18 : decode mRe_five.2.1 18 = .ok (.iload_n 3, 1) := by decide +kernel
theorem dRe_five_19 : decode mRe_five.2.1 19 = .ok (.ifCond .ne 8, 3) := by decide +kernel
theorem dRe_five_22 : decode mRe_five.2.1 22 = .ok (.lload 5, 2) := by decide +kernel
theorem dRe_five_24 : decode mRe_five.2.1 24 = .ok (.goto 12, 3) := by decide +kernel
theorem dRe_five_27 : decode mRe_five.2.1 27 = .ok (.ldc2_w 153, 3) := by decide +kernel
theorem dRe_five_30 : decode mRe_five.2.1 30 = .ok (.lload 5, 2) := by decide +kernel
theorem dRe_five_32 : decode mRe_five.2.1 32 = .ok (.lmul, 1) := by decide +kernel
theorem dRe_five_33 : decode mRe_five.2.1 33 = .ok (.iload_n 3, 1) := by decide +kernel
theorem dRe_five_34 : decode mRe_five.2.1 34 = .ok (.i2l, 1) := by decide +kernel
theorem dRe_five_35 : decode mRe_five.2.1 35 = .ok (.ladd, 1) := by decide +kernel
theorem dRe_five_36 : decode mRe_five.2.1 36 = .ok (.lstore 5, 2) := by decide +kernel
theorem dRe_five_38 : decode mRe_five.2.1 38 = .ok (.iload 4, 2) := by decide +kernel
theorem dRe_five_40 : decode mRe_five.2.1 40 = .ok (.ifCond .ne 8, 3) := by decide +kernel
theorem dRe_five_43 : decode mRe_five.2.1 43 = .ok (.lload 5, 2) := by decide +kernel
theorem dRe_five_45 : decode mRe_five.2.1 45 = .ok (.goto 13, 3) := by decide +kernel
theorem dRe_five_48 : decode mRe_five.2.1 48 = .ok (.ldc2_w 153, 3) := by decide +kernel
theorem dRe_five_51 : decode mRe_five.2.1 51 = .ok (.lload 5, 2) := by decide +kernel
theorem dRe_five_53 : decode mRe_five.2.1 53 = .ok (.lmul, 1) := by decide +kernel
theorem dRe_five_54 : decode mRe_five.2.1 54 = .ok (.iload 4, 2) := by decide +kernel
theorem dRe_five_56 : decode mRe_five.2.1 56 = .ok (.i2l, 1) := by decide +kernel
theorem dRe_five_57 : decode mRe_five.2.1 57 = .ok (.ladd, 1) := by decide +kernel
theorem dRe_five_58 : decode mRe_five.2.1 58 = .ok (.lreturn, 1) := by decide +kernel
theorem bRe_five_0 {l : Launch} {G : Gx} {d : Nat} {bc bs : Nat} {Φ : OutV → Mm → Prop} (M : Mm) (x0 : Int32) (x1 : Int32) (x2 : Int32) (x3 : Int32) (x4 : Int32)
    (h : (¬ x3 = 0 → (¬ x4 = 0 → Φ (.inl (some (.long ((27 * ((27 * ((27 * ((27 * x0.toInt64) + x1.toInt64)) + x2.toInt64)) + x3.toInt64)) + x4.toInt64)))) M) ∧ (x4 = 0 → Φ (.inl (some (.long ((27 * ((27 * ((27 * x0.toInt64) + x1.toInt64)) + x2.toInt64)) + x3.toInt64)))) M)) ∧ (x3 = 0 → (¬ x4 = 0 → Φ (.inl (some (.long ((27 * ((27 * ((27 * x0.toInt64) + x1.toInt64)) + x2.toInt64)) + x4.toInt64)))) M) ∧ (x4 = 0 → Φ (.inl (some (.long ((27 * ((27 * x0.toInt64) + x1.toInt64)) + x2.toInt64)))) M))) :
    Ev l G d mRe_five 0 [.int x0, .int x1, .int x2, .int x3, .int x4, .null, .null] [] M bc bs Φ := by
  refine Ev.ldc2_w (v := 27) dRe_five_0 w1499 ?_
  refine Ev.ldc2_w (v := 27) dRe_five_3 w1499 ?_
  refine Ev.iload_n dRe_five_6 rfl ?_
  refine Ev.i2l dRe_five_7 ?_
  refine Ev.lmul dRe_five_8 ?_
  refine Ev.iload_n dRe_five_9 rfl ?_
  refine Ev.i2l dRe_five_10 ?_
  refine Ev.ladd dRe_five_11 ?_
  refine Ev.lmul dRe_five_12 ?_
  refine Ev.iload_n dRe_five_13 rfl ?_
  refine Ev.i2l dRe_five_14 ?_
  refine Ev.ladd dRe_five_15 ?_
  refine Ev.lstore dRe_five_16 (by decide) ?_
  show Ev l G d mRe_five (_ + _) [.int x0, .int x1, .int x2, .int x3, .int x4, .long ((27 * ((27 * x0.toInt64) + x1.toInt64)) + x2.toInt64), .null] [] M bc bs Φ
  refine Ev.iload_n dRe_five_18 rfl ?_
  refine Ev.if_ne 27 (by decide) dRe_five_19 (fun c => ?_) (fun c => ?_)
  · replace h := h.1 c
    refine Ev.ldc2_w (v := 27) dRe_five_27 w1499 ?_
    refine Ev.lload dRe_five_30 rfl ?_
    refine Ev.lmul dRe_five_32 ?_
    refine Ev.iload_n dRe_five_33 rfl ?_
    refine Ev.i2l dRe_five_34 ?_
    refine Ev.ladd dRe_five_35 ?_
    refine Ev.lstore dRe_five_36 (by decide) ?_
    show Ev l G d mRe_five (_ + _) [.int x0, .int x1, .int x2, .int x3, .int x4, .long ((27 * ((27 * ((27 * x0.toInt64) + x1.toInt64)) + x2.toInt64)) + x3.toInt64), .null] [] M bc bs Φ
    refine Ev.iload dRe_five_38 rfl ?_
    refine Ev.if_ne 48 (by decide) dRe_five_40 (fun c => ?_) (fun c => ?_)
    · replace h := h.1 c
      refine Ev.ldc2_w (v := 27) dRe_five_48 w1499 ?_
      refine Ev.lload dRe_five_51 rfl ?_
      refine Ev.lmul dRe_five_53 ?_
      refine Ev.iload dRe_five_54 rfl ?_
      refine Ev.i2l dRe_five_56 ?_
      refine Ev.ladd dRe_five_57 ?_
      exact Ev.lret dRe_five_58 rfl h
    · replace h := h.2 c
      refine Ev.lload dRe_five_43 rfl ?_
      refine Ev.goto 58 dRe_five_45 (by decide) ?_
      exact Ev.lret dRe_five_58 rfl h
  · replace h := h.2 c
    refine Ev.lload dRe_five_22 rfl ?_
    refine Ev.goto 36 dRe_five_24 (by decide) ?_
    refine Ev.lstore dRe_five_36 (by decide) ?_
    show Ev l G d mRe_five (_ + _) [.int x0, .int x1, .int x2, .int x3, .int x4, .long ((27 * ((27 * x0.toInt64) + x1.toInt64)) + x2.toInt64), .null] [] M bc bs Φ
    refine Ev.iload dRe_five_38 rfl ?_
    refine Ev.if_ne 48 (by decide) dRe_five_40 (fun c => ?_) (fun c => ?_)
    · replace h := h.1 c
      refine Ev.ldc2_w (v := 27) dRe_five_48 w1499 ?_
      refine Ev.lload dRe_five_51 rfl ?_
      refine Ev.lmul dRe_five_53 ?_
      refine Ev.iload dRe_five_54 rfl ?_
      refine Ev.i2l dRe_five_56 ?_
      refine Ev.ladd dRe_five_57 ?_
      exact Ev.lret dRe_five_58 rfl h
    · replace h := h.2 c
      refine Ev.lload dRe_five_43 rfl ?_
      refine Ev.goto 58 dRe_five_45 (by decide) ?_
      exact Ev.lret dRe_five_58 rfl h
theorem dRe_isWord_0 : decode mRe_isWord.2.1 0 = .ok (.aload_n 0, 1) := by decide +kernel
theorem dRe_isWord_1 : decode mRe_isWord.2.1 1 = .ok (.getfield 131, 3) := by decide +kernel
theorem dRe_isWord_4 : decode mRe_isWord.2.1 4 = .ok (.ifCond .ne 16, 3) := by decide +kernel
theorem dRe_isWord_7 : decode mRe_isWord.2.1 7 = .ok (.aload_n 0, 1) := by decide +kernel
theorem dRe_isWord_8 : decode mRe_isWord.2.1 8 = .ok (.invokevirtual 159, 3) := by decide +kernel
theorem dRe_isWord_11 : decode mRe_isWord.2.1 11 = .ok (.lload_n 1, 1) := by decide +kernel
theorem dRe_isWord_12 : decode mRe_isWord.2.1 12 = .ok (.lcmp, 1) := by decide +kernel
theorem dRe_isWord_13 : decode mRe_isWord.2.1 13 = .ok (.ifCond .ne 7, 3) := by decide +kernel
theorem dRe_isWord_16 : decode mRe_isWord.2.1 16 = .ok (.iconst 1, 1) := by decide +kernel
theorem dRe_isWord_17 : decode mRe_isWord.2.1 17 = .ok (.goto 4, 3) := by decide +kernel
theorem dRe_isWord_20 : decode mRe_isWord.2.1 20 = .ok (.iconst 0, 1) := by decide +kernel
theorem dRe_isWord_21 : decode mRe_isWord.2.1 21 = .ok (.ireturn, 1) := by decide +kernel
def mRe_wordHere : MR := (⟨"BowingRowModel", "wordHere", "()J"⟩, prog_14_method_11_code, 4, (Option.some .long))
theorem oRe_wordHere : MOK mRe_wordHere 0 := ⟨lwg_of 1511 (by decide +kernel) (by decide +kernel), lwg_of 103 (by decide +kernel) (by decide +kernel), ⟨by decide +kernel, by decide +kernel⟩, by decide +kernel, by decide⟩
theorem iRe_wordHere : Cond.instanceMethod mRe_wordHere.1 ∈ lwg := lwg_of 1510 (by decide +kernel) (by decide +kernel)
theorem sRe_wordHere : Cond.selects mRe_wordHere.1.cls mRe_wordHere.1 mRe_wordHere.1 ∈ lwg := lwg_of 44 (by decide +kernel) (by decide +kernel)
theorem w1508 : Cond.methodLink "BowingRowModel" 159 ⟨"BowingRowModel", "wordHere", "()J"⟩ ∈ lwg := lwg_of 1508 (by decide +kernel) (by decide +kernel)
theorem bRe_isWord_0 {l : Launch} {G : Gx} {d : Nat} {bc bs : Nat} {Φ : OutV → Mm → Prop} (M : Mm) (a0 : Nat) (j1 : Int64)
    (h : ((m_sh M a0).1 = 11) ∧ (¬ (m_i M a0 5) = 0 → Φ (.inl (some (.int 0))) M) ∧ ((m_i M a0 5) = 0 → CallVC l G d mRe_isWord 11 [.ref a0, .long j1, .null] [] mRe_wordHere [.ref a0] M bc bs Φ)) :
    Ev l G d mRe_isWord 0 [.ref a0, .long j1, .null] [] M bc bs Φ := by
  refine Ev.aload_n dRe_isWord_0 rfl ?_
  have g1 := h.1
  replace h := h.2
  refine Ev.getI dRe_isWord_1 (Or.inl fRe_131) rfl g1 ?_
  refine Ev.if_ne 20 (by decide) dRe_isWord_4 (fun c => ?_) (fun c => ?_)
  · replace h := h.1 c
    refine Ev.iconst (v := 0) dRe_isWord_20 (by decide) ?_
    exact Ev.iret dRe_isWord_21 rfl rfl h
  · replace h := h.2 c
    refine Ev.aload_n dRe_isWord_7 rfl ?_
    exact Ev.vcV (z := mRe_wordHere) (ci := 11) [] [] rfl dRe_isWord_8 oRe_wordHere rfl w1508 iRe_wordHere sRe_wordHere (by decide) rfl g1 (Nat.le_of_ble_eq_true rfl) h
theorem bRe_isWord_11 {l : Launch} {G : Gx} {d : Nat} {bc bs : Nat} {Φ : OutV → Mm → Prop} (M : Mm) (a0 : Nat) (j1 : Int64) (u2 : Value) (w0 : Int64)
    (h : (¬ (lg_cmp w0 j1) = 0 → Φ (.inl (some (.int 0))) M) ∧ ((lg_cmp w0 j1) = 0 → Φ (.inl (some (.int 1))) M)) :
    Ev l G d mRe_isWord 11 [.ref a0, .long j1, u2] [.long w0] M bc bs Φ := by
  refine Ev.lload_n dRe_isWord_11 rfl ?_
  refine Ev.lcmp dRe_isWord_12 ?_
  refine Ev.if_ne 20 (by decide) dRe_isWord_13 (fun c => ?_) (fun c => ?_)
  · replace h := h.1 c
    refine Ev.iconst (v := 0) dRe_isWord_20 (by decide) ?_
    exact Ev.iret dRe_isWord_21 rfl rfl h
  · replace h := h.2 c
    refine Ev.iconst (v := 1) dRe_isWord_16 (by decide) ?_
    refine Ev.goto 21 dRe_isWord_17 (by decide) ?_
    exact Ev.iret dRe_isWord_21 rfl rfl h
theorem dRe_wordHere_0 : decode mRe_wordHere.2.1 0 = .ok (.aload_n 0, 1) := by decide +kernel
theorem dRe_wordHere_1 : decode mRe_wordHere.2.1 1 = .ok (.invokevirtual 137, 3) := by decide +kernel
theorem dRe_wordHere_4 : decode mRe_wordHere.2.1 4 = .ok (.lconst 0, 1) := by decide +kernel
theorem dRe_wordHere_5 : decode mRe_wordHere.2.1 5 = .ok (.lstore_n 1, 1) := by decide +kernel
theorem dRe_wordHere_6 : decode mRe_wordHere.2.1 6 = .ok (.iconst 0, 1) := by decide +kernel
theorem dRe_wordHere_7 : decode mRe_wordHere.2.1 7 = .ok (.istore_n 3, 1) := by decide +kernel
theorem dRe_wordHere_8 : decode mRe_wordHere.2.1 8 = .ok (.aload_n 0, 1) := by decide +kernel
theorem dRe_wordHere_9 : decode mRe_wordHere.2.1 9 = .ok (.aload_n 0, 1) := by decide +kernel
theorem dRe_wordHere_10 : decode mRe_wordHere.2.1 10 = .ok (.getfield 124, 3) := by decide +kernel
theorem dRe_wordHere_13 : decode mRe_wordHere.2.1 13 = .ok (.iload_n 3, 1) := by decide +kernel
theorem dRe_wordHere_14 : decode mRe_wordHere.2.1 14 = .ok (.iadd, 1) := by decide +kernel
theorem dRe_wordHere_15 : decode mRe_wordHere.2.1 15 = .ok (.invokevirtual 127, 3) := by decide +kernel
theorem dRe_wordHere_18 : decode mRe_wordHere.2.1 18 = .ok (.bipush 97, 2) := by decide +kernel
theorem dRe_wordHere_20 : decode mRe_wordHere.2.1 20 = .ok (.if_icmp .lt 58, 3) := by decide +kernel
theorem dRe_wordHere_23 : decode mRe_wordHere.2.1 23 = .ok (.aload_n 0, 1) := by decide +kernel
theorem dRe_wordHere_24 : decode mRe_wordHere.2.1 24 = .ok (.aload_n 0, 1) := by decide +kernel
theorem dRe_wordHere_25 : decode mRe_wordHere.2.1 25 = .ok (.getfield 124, 3) := by decide +kernel
theorem dRe_wordHere_28 : decode mRe_wordHere.2.1 28 = .ok (.iload_n 3, 1) := by decide +kernel
theorem dRe_wordHere_29 : decode mRe_wordHere.2.1 29 = .ok (.iadd, 1) := by decide +kernel
theorem dRe_wordHere_30 : decode mRe_wordHere.2.1 30 = .ok (.invokevirtual 127, 3) := by decide +kernel
theorem dRe_wordHere_33 : decode mRe_wordHere.2.1 33 = .ok (.bipush 122, 2) := by decide +kernel
theorem dRe_wordHere_35 : decode mRe_wordHere.2.1 35 = .ok (.if_icmp .gt 43, 3) := by decide +kernel
theorem dRe_wordHere_38 : decode mRe_wordHere.2.1 38 = .ok (.iload_n 3, 1) := by decide +kernel
theorem dRe_wordHere_39 : decode mRe_wordHere.2.1 39 = .ok (.bipush 9, 2) := by decide +kernel
theorem dRe_wordHere_41 : decode mRe_wordHere.2.1 41 = .ok (.if_icmp .ge 29, 3) := by decide +kernel
theorem dRe_wordHere_44 : decode mRe_wordHere.2.1 44 = .ok (.ldc2_w 153, 3) := by decide +kernel
theorem dRe_wordHere_47 : decode mRe_wordHere.2.1 47 = .ok (.lload_n 1, 1) := by decide +kernel
theorem dRe_wordHere_48 : decode mRe_wordHere.2.1 48 = .ok (.lmul, 1) := by decide +kernel
theorem dRe_wordHere_49 : decode mRe_wordHere.2.1 49 = .ok (.aload_n 0, 1) := by decide +kernel
theorem dRe_wordHere_50 : decode mRe_wordHere.2.1 50 = .ok (.aload_n 0, 1) := by decide +kernel
theorem dRe_wordHere_51 : decode mRe_wordHere.2.1 51 = .ok (.getfield 124, 3) := by decide +kernel
theorem dRe_wordHere_54 : decode mRe_wordHere.2.1 54 = .ok (.iload_n 3, 1) := by decide +kernel
theorem dRe_wordHere_55 : decode mRe_wordHere.2.1 55 = .ok (.iadd, 1) := by decide +kernel
theorem dRe_wordHere_56 : decode mRe_wordHere.2.1 56 = .ok (.invokevirtual 127, 3) := by decide +kernel
theorem dRe_wordHere_59 : decode mRe_wordHere.2.1 59 = .ok (.i2l, 1) := by decide +kernel
theorem dRe_wordHere_60 : decode mRe_wordHere.2.1 60 = .ok (.ladd, 1) := by decide +kernel
theorem dRe_wordHere_61 : decode mRe_wordHere.2.1 61 = .ok (.ldc2_w 155, 3) := by decide +kernel
theorem dRe_wordHere_64 : decode mRe_wordHere.2.1 64 = .ok (.lsub, 1) := by decide +kernel
theorem dRe_wordHere_65 : decode mRe_wordHere.2.1 65 = .ok (.lconst 1, 1) := by decide +kernel
theorem dRe_wordHere_66 : decode mRe_wordHere.2.1 66 = .ok (.ladd, 1) := by decide +kernel
theorem dRe_wordHere_67 : decode mRe_wordHere.2.1 67 = .ok (.goto 4, 3) := by decide +kernel
theorem dRe_wordHere_70 : decode mRe_wordHere.2.1 70 = .ok (.lload_n 1, 1) := by decide +kernel
theorem dRe_wordHere_71 : decode mRe_wordHere.2.1 71 = .ok (.lstore_n 1, 1) := by decide +kernel
theorem dRe_wordHere_72 : decode mRe_wordHere.2.1 72 = .ok (.iinc 3 1, 3) := by decide +kernel
theorem dRe_wordHere_75 : decode mRe_wordHere.2.1 75 = .ok (.goto (-67), 3) := by decide +kernel
theorem dRe_wordHere_78 : decode mRe_wordHere.2.1 78 = .ok (.iload_n 3, 1) := by decide +kernel
theorem dRe_wordHere_79 : decode mRe_wordHere.2.1 79 = .ok (.bipush 9, 2) := by decide +kernel
theorem dRe_wordHere_81 : decode mRe_wordHere.2.1 81 = .ok (.if_icmp .le 9, 3) := by decide +kernel
theorem dRe_wordHere_84 : decode mRe_wordHere.2.1 84 = .ok (.ldc2_w 157, 3) := by decide +kernel
theorem dRe_wordHere_87 : decode mRe_wordHere.2.1 87 = .ok (.goto 4, 3) := by decide +kernel
theorem dRe_wordHere_90 : decode mRe_wordHere.2.1 90 = .ok (.lload_n 1, 1) := by decide +kernel
theorem dRe_wordHere_91 : decode mRe_wordHere.2.1 91 = .ok (.lreturn, 1) := by decide +kernel
theorem bRe_wordHere_0 {l : Launch} {G : Gx} {d : Nat} {bc bs : Nat} {Φ : OutV → Mm → Prop} (M : Mm) (a0 : Nat)
    (h : ((m_sh M a0).1 = 11) ∧ CallVC l G d mRe_wordHere 4 [.ref a0, .null, .null, .null] [] mRe_blanks [.ref a0] M bc bs Φ) :
    Ev l G d mRe_wordHere 0 [.ref a0, .null, .null, .null] [] M bc bs Φ := by
  refine Ev.aload_n dRe_wordHere_0 rfl ?_
  have g1 := h.1
  replace h := h.2
  exact Ev.vcV (z := mRe_blanks) (ci := 11) [] [] rfl dRe_wordHere_1 oRe_blanks rfl w1487 iRe_blanks sRe_blanks (by decide) rfl g1 (Nat.le_of_ble_eq_true rfl) h
theorem bRe_wordHere_4 {l : Launch} {G : Gx} {d : Nat} {bc bs : Nat} {Φ : OutV → Mm → Prop} (M : Mm) (a0 : Nat) (u1 : Value) (u2 : Value) (u3 : Value)
    (h : Ev l G d mRe_wordHere 8 [.ref a0, .long 0, .null, .int 0] [] M bc bs Φ) :
    Ev l G d mRe_wordHere 4 [.ref a0, u1, u2, u3] [] M bc bs Φ := by
  refine Ev.lconst (v := 0) dRe_wordHere_4 (by decide) ?_
  refine Ev.lstore_n dRe_wordHere_5 (by decide) ?_
  show Ev l G d mRe_wordHere (_ + _) [.ref a0, .long 0, .null, u3] [] M bc bs Φ
  refine Ev.iconst (v := 0) dRe_wordHere_6 (by decide) ?_
  refine Ev.istore_n dRe_wordHere_7 (by decide) ?_
  show Ev l G d mRe_wordHere (_ + _) [.ref a0, .long 0, .null, .int 0] [] M bc bs Φ
  exact h
theorem bRe_wordHere_8 {l : Launch} {G : Gx} {d : Nat} {bc bs : Nat} {Φ : OutV → Mm → Prop} (M : Mm) (a0 : Nat) (j1 : Int64) (u2 : Value) (x3 : Int32)
    (h : ((m_sh M a0).1 = 11) ∧ CallVC l G d mRe_wordHere 18 [.ref a0, .long j1, u2, .int x3] [] mRe_byteAt [.ref a0, .int ((m_i M a0 4) + x3)] M bc bs Φ) :
    Ev l G d mRe_wordHere 8 [.ref a0, .long j1, u2, .int x3] [] M bc bs Φ := by
  refine Ev.aload_n dRe_wordHere_8 rfl ?_
  refine Ev.aload_n dRe_wordHere_9 rfl ?_
  have g1 := h.1
  replace h := h.2
  refine Ev.getI dRe_wordHere_10 (Or.inl fRe_124) rfl g1 ?_
  refine Ev.iload_n dRe_wordHere_13 rfl ?_
  refine Ev.iadd dRe_wordHere_14 ?_
  exact Ev.vcV (z := mRe_byteAt) (ci := 11) [.int ((m_i M a0 4) + x3)] [] rfl dRe_wordHere_15 oRe_byteAt rfl w1491 iRe_byteAt sRe_byteAt (by decide) rfl g1 (Nat.le_of_ble_eq_true rfl) h
theorem bRe_wordHere_18 {l : Launch} {G : Gx} {d : Nat} {bc bs : Nat} {Φ : OutV → Mm → Prop} (M : Mm) (a0 : Nat) (j1 : Int64) (u2 : Value) (x3 : Int32) (s0 : Int32)
    (h : (s0 < 97 → Ev l G d mRe_wordHere 78 [.ref a0, .long j1, u2, .int x3] [] M bc bs Φ) ∧ (¬ s0 < 97 → ((m_sh M a0).1 = 11) ∧ CallVC l G d mRe_wordHere 33 [.ref a0, .long j1, u2, .int x3] [] mRe_byteAt [.ref a0, .int ((m_i M a0 4) + x3)] M bc bs Φ)) :
    Ev l G d mRe_wordHere 18 [.ref a0, .long j1, u2, .int x3] [.int s0] M bc bs Φ := by
  refine Ev.bipush (v := 97) dRe_wordHere_18 (by decide) ?_
  refine Ev.icmp_lt 78 (by decide) dRe_wordHere_20 (fun c => ?_) (fun c => ?_)
  · replace h := h.1 c
    exact h
  · replace h := h.2 c
    refine Ev.aload_n dRe_wordHere_23 rfl ?_
    refine Ev.aload_n dRe_wordHere_24 rfl ?_
    have g1 := h.1
    replace h := h.2
    refine Ev.getI dRe_wordHere_25 (Or.inl fRe_124) rfl g1 ?_
    refine Ev.iload_n dRe_wordHere_28 rfl ?_
    refine Ev.iadd dRe_wordHere_29 ?_
    exact Ev.vcV (z := mRe_byteAt) (ci := 11) [.int ((m_i M a0 4) + x3)] [] rfl dRe_wordHere_30 oRe_byteAt rfl w1491 iRe_byteAt sRe_byteAt (by decide) rfl g1 (Nat.le_of_ble_eq_true rfl) h
theorem bRe_wordHere_33 {l : Launch} {G : Gx} {d : Nat} {bc bs : Nat} {Φ : OutV → Mm → Prop} (M : Mm) (a0 : Nat) (j1 : Int64) (u2 : Value) (x3 : Int32) (s0 : Int32)
    (h : (122 < s0 → Ev l G d mRe_wordHere 78 [.ref a0, .long j1, u2, .int x3] [] M bc bs Φ) ∧ (¬ 122 < s0 → (9 ≤ x3 → Ev l G d mRe_wordHere 8 [.ref a0, .long j1, .null, .int (x3 + 1)] [] M bc bs Φ) ∧ (¬ 9 ≤ x3 → ((m_sh M a0).1 = 11) ∧ CallVC l G d mRe_wordHere 59 [.ref a0, .long j1, u2, .int x3] [.long (27 * j1)] mRe_byteAt [.ref a0, .int ((m_i M a0 4) + x3)] M bc bs Φ))) :
    Ev l G d mRe_wordHere 33 [.ref a0, .long j1, u2, .int x3] [.int s0] M bc bs Φ := by
  refine Ev.bipush (v := 122) dRe_wordHere_33 (by decide) ?_
  refine Ev.icmp_gt 78 (by decide) dRe_wordHere_35 (fun c => ?_) (fun c => ?_)
  · replace h := h.1 c
    exact h
  · replace h := h.2 c
    refine Ev.iload_n dRe_wordHere_38 rfl ?_
    refine Ev.bipush (v := 9) dRe_wordHere_39 (by decide) ?_
    refine Ev.icmp_ge 70 (by decide) dRe_wordHere_41 (fun c => ?_) (fun c => ?_)
    · replace h := h.1 c
      refine Ev.lload_n dRe_wordHere_70 rfl ?_
      refine Ev.lstore_n dRe_wordHere_71 (by decide) ?_
      show Ev l G d mRe_wordHere (_ + _) [.ref a0, .long j1, .null, .int x3] [] M bc bs Φ
      refine Ev.iinc (v := x3 + 1) dRe_wordHere_72 (by decide) rfl rfl ?_
      show Ev l G d mRe_wordHere (_ + _) [.ref a0, .long j1, .null, .int (x3 + 1)] [] M bc bs Φ
      refine Ev.goto 8 dRe_wordHere_75 (by decide) ?_
      exact h
    · replace h := h.2 c
      refine Ev.ldc2_w (v := 27) dRe_wordHere_44 w1499 ?_
      refine Ev.lload_n dRe_wordHere_47 rfl ?_
      refine Ev.lmul dRe_wordHere_48 ?_
      refine Ev.aload_n dRe_wordHere_49 rfl ?_
      refine Ev.aload_n dRe_wordHere_50 rfl ?_
      have g1 := h.1
      replace h := h.2
      refine Ev.getI dRe_wordHere_51 (Or.inl fRe_124) rfl g1 ?_
      refine Ev.iload_n dRe_wordHere_54 rfl ?_
      refine Ev.iadd dRe_wordHere_55 ?_
      exact Ev.vcV (z := mRe_byteAt) (ci := 11) [.int ((m_i M a0 4) + x3)] [.long (27 * j1)] rfl dRe_wordHere_56 oRe_byteAt rfl w1491 iRe_byteAt sRe_byteAt (by decide) rfl g1 (Nat.le_of_ble_eq_true rfl) h
theorem w1512 : Cond.constantLong "BowingRowModel" 155 97 ∈ lwg := lwg_of 1512 (by decide +kernel) (by decide +kernel)
theorem bRe_wordHere_59 {l : Launch} {G : Gx} {d : Nat} {bc bs : Nat} {Φ : OutV → Mm → Prop} (M : Mm) (a0 : Nat) (j1 : Int64) (u2 : Value) (x3 : Int32) (w0 : Int64) (s1 : Int32)
    (h : Ev l G d mRe_wordHere 8 [.ref a0, .long (((w0 + s1.toInt64) - 97) + 1), .null, .int (x3 + 1)] [] M bc bs Φ) :
    Ev l G d mRe_wordHere 59 [.ref a0, .long j1, u2, .int x3] [.int s1, .long w0] M bc bs Φ := by
  refine Ev.i2l dRe_wordHere_59 ?_
  refine Ev.ladd dRe_wordHere_60 ?_
  refine Ev.ldc2_w (v := 97) dRe_wordHere_61 w1512 ?_
  refine Ev.lsub dRe_wordHere_64 ?_
  refine Ev.lconst (v := 1) dRe_wordHere_65 (by decide) ?_
  refine Ev.ladd dRe_wordHere_66 ?_
  refine Ev.goto 71 dRe_wordHere_67 (by decide) ?_
  refine Ev.lstore_n dRe_wordHere_71 (by decide) ?_
  show Ev l G d mRe_wordHere (_ + _) [.ref a0, .long (((w0 + s1.toInt64) - 97) + 1), .null, .int x3] [] M bc bs Φ
  refine Ev.iinc (v := x3 + 1) dRe_wordHere_72 (by decide) rfl rfl ?_
  show Ev l G d mRe_wordHere (_ + _) [.ref a0, .long (((w0 + s1.toInt64) - 97) + 1), .null, .int (x3 + 1)] [] M bc bs Φ
  refine Ev.goto 8 dRe_wordHere_75 (by decide) ?_
  exact h
theorem w1513 : Cond.constantLong "BowingRowModel" 157 (-1) ∈ lwg := lwg_of 1513 (by decide +kernel) (by decide +kernel)
theorem bRe_wordHere_78 {l : Launch} {G : Gx} {d : Nat} {bc bs : Nat} {Φ : OutV → Mm → Prop} (M : Mm) (a0 : Nat) (j1 : Int64) (u2 : Value) (x3 : Int32)
    (h : (x3 ≤ 9 → Φ (.inl (some (.long j1))) M) ∧ (¬ x3 ≤ 9 → Φ (.inl (some (.long ((-1))))) M)) :
    Ev l G d mRe_wordHere 78 [.ref a0, .long j1, u2, .int x3] [] M bc bs Φ := by
  refine Ev.iload_n dRe_wordHere_78 rfl ?_
  refine Ev.bipush (v := 9) dRe_wordHere_79 (by decide) ?_
  refine Ev.icmp_le 90 (by decide) dRe_wordHere_81 (fun c => ?_) (fun c => ?_)
  · replace h := h.1 c
    refine Ev.lload_n dRe_wordHere_90 rfl ?_
    exact Ev.lret dRe_wordHere_91 rfl h
  · replace h := h.2 c
    refine Ev.ldc2_w (v := (-1)) dRe_wordHere_84 w1513 ?_
    refine Ev.goto 91 dRe_wordHere_87 (by decide) ?_
    exact Ev.lret dRe_wordHere_91 rfl h
theorem dRe_wrong_0 : decode mRe_wrong.2.1 0 = .ok (.aload_n 0, 1) := by decide +kernel
theorem dRe_wrong_1 : decode mRe_wrong.2.1 1 = .ok (.getfield 131, 3) := by decide +kernel
theorem dRe_wrong_4 : decode mRe_wrong.2.1 4 = .ok (.ifCond .ne 13, 3) := by decide +kernel
theorem dRe_wrong_7 : decode mRe_wrong.2.1 7 = .ok (.aload_n 0, 1) := by decide +kernel
theorem dRe_wrong_8 : decode mRe_wrong.2.1 8 = .ok (.iload_n 1, 1) := by decide +kernel
theorem dRe_wrong_9 : decode mRe_wrong.2.1 9 = .ok (.putfield 131, 3) := by decide +kernel
theorem dRe_wrong_12 : decode mRe_wrong.2.1 12 = .ok (.aload_n 0, 1) := by decide +kernel
theorem dRe_wrong_13 : decode mRe_wrong.2.1 13 = .ok (.iload_n 2, 1) := by decide +kernel
theorem dRe_wrong_14 : decode mRe_wrong.2.1 14 = .ok (.putfield 134, 3) := by decide +kernel
theorem dRe_wrong_17 : decode mRe_wrong.2.1 17 = .ok (.return_, 1) := by decide +kernel
theorem bRe_wrong_0 {l : Launch} {G : Gx} {d : Nat} {bc bs : Nat} {Φ : OutV → Mm → Prop} (M : Mm) (a0 : Nat) (x1 : Int32) (x2 : Int32)
    (h : ((m_sh M a0).1 = 11) ∧ (¬ (m_i M a0 5) = 0 → Φ (.inl none) M) ∧ ((m_i M a0 5) = 0 → Φ (.inl none) (m_si (m_si M a0 5 x1) a0 6 x2))) :
    Ev l G d mRe_wrong 0 [.ref a0, .int x1, .int x2] [] M bc bs Φ := by
  refine Ev.aload_n dRe_wrong_0 rfl ?_
  have g1 := h.1
  replace h := h.2
  refine Ev.getI dRe_wrong_1 (Or.inl fRe_131) rfl g1 ?_
  refine Ev.if_ne 17 (by decide) dRe_wrong_4 (fun c => ?_) (fun c => ?_)
  · replace h := h.1 c
    exact Ev.vret dRe_wrong_17 rfl h
  · replace h := h.2 c
    refine Ev.aload_n dRe_wrong_7 rfl ?_
    refine Ev.iload_n dRe_wrong_8 rfl ?_
    refine Ev.putI dRe_wrong_9 ⟨_, Or.inl ⟨fRe_131, (fun h => by cases h)⟩⟩ rfl ⟨rfl, rfl⟩ g1 ?_
    refine Ev.aload_n dRe_wrong_12 rfl ?_
    refine Ev.iload_n dRe_wrong_13 rfl ?_
    refine Ev.putI dRe_wrong_14 ⟨_, Or.inl ⟨fRe_134, (fun h => by cases h)⟩⟩ rfl ⟨rfl, rfl⟩ g1 ?_
    exact Ev.vret dRe_wrong_17 rfl h
theorem dRe_skipWord_0 : decode mRe_skipWord.2.1 0 = .ok (.aload_n 0, 1) := by decide +kernel
theorem dRe_skipWord_1 : decode mRe_skipWord.2.1 1 = .ok (.aload_n 0, 1) := by decide +kernel
theorem dRe_skipWord_2 : decode mRe_skipWord.2.1 2 = .ok (.getfield 124, 3) := by decide +kernel
theorem dRe_skipWord_5 : decode mRe_skipWord.2.1 5 = .ok (.invokevirtual 127, 3) := by decide +kernel
theorem dRe_skipWord_8 : decode mRe_skipWord.2.1 8 = .ok (.bipush 97, 2) := by decide +kernel
theorem dRe_skipWord_10 : decode mRe_skipWord.2.1 10 = .ok (.if_icmp .lt 29, 3) := by decide +kernel
theorem dRe_skipWord_13 : decode mRe_skipWord.2.1 13 = .ok (.aload_n 0, 1) := by decide +kernel
theorem dRe_skipWord_14 : decode mRe_skipWord.2.1 14 = .ok (.aload_n 0, 1) := by decide +kernel
theorem dRe_skipWord_15 : decode mRe_skipWord.2.1 15 = .ok (.getfield 124, 3) := by decide +kernel
theorem dRe_skipWord_18 : decode mRe_skipWord.2.1 18 = .ok (.invokevirtual 127, 3) := by decide +kernel
theorem dRe_skipWord_21 : decode mRe_skipWord.2.1 21 = .ok (.bipush 122, 2) := by decide +kernel
theorem dRe_skipWord_23 : decode mRe_skipWord.2.1 23 = .ok (.if_icmp .gt 16, 3) := by decide +kernel
theorem dRe_skipWord_26 : decode mRe_skipWord.2.1 26 = .ok (.aload_n 0, 1) := by decide +kernel
theorem dRe_skipWord_27 : decode mRe_skipWord.2.1 27 = .ok (.dup, 1) := by decide +kernel
theorem dRe_skipWord_28 : decode mRe_skipWord.2.1 28 = .ok (.getfield 124, 3) := by decide +kernel
theorem dRe_skipWord_31 : decode mRe_skipWord.2.1 31 = .ok (.iconst 1, 1) := by decide +kernel
theorem dRe_skipWord_32 : decode mRe_skipWord.2.1 32 = .ok (.iadd, 1) := by decide +kernel
theorem dRe_skipWord_33 : decode mRe_skipWord.2.1 33 = .ok (.putfield 124, 3) := by decide +kernel
theorem dRe_skipWord_36 : decode mRe_skipWord.2.1 36 = .ok (.goto (-36), 3) := by decide +kernel
theorem dRe_skipWord_39 : decode mRe_skipWord.2.1 39 = .ok (.return_, 1) := by decide +kernel
theorem bRe_skipWord_0 {l : Launch} {G : Gx} {d : Nat} {bc bs : Nat} {Φ : OutV → Mm → Prop} (M : Mm) (a0 : Nat)
    (h : ((m_sh M a0).1 = 11) ∧ CallVC l G d mRe_skipWord 8 [.ref a0] [] mRe_byteAt [.ref a0, .int (m_i M a0 4)] M bc bs Φ) :
    Ev l G d mRe_skipWord 0 [.ref a0] [] M bc bs Φ := by
  refine Ev.aload_n dRe_skipWord_0 rfl ?_
  refine Ev.aload_n dRe_skipWord_1 rfl ?_
  have g1 := h.1
  replace h := h.2
  refine Ev.getI dRe_skipWord_2 (Or.inl fRe_124) rfl g1 ?_
  exact Ev.vcV (z := mRe_byteAt) (ci := 11) [.int (m_i M a0 4)] [] rfl dRe_skipWord_5 oRe_byteAt rfl w1491 iRe_byteAt sRe_byteAt (by decide) rfl g1 (Nat.le_of_ble_eq_true rfl) h
theorem bRe_skipWord_8 {l : Launch} {G : Gx} {d : Nat} {bc bs : Nat} {Φ : OutV → Mm → Prop} (M : Mm) (a0 : Nat) (s0 : Int32)
    (h : (s0 < 97 → Φ (.inl none) M) ∧ (¬ s0 < 97 → ((m_sh M a0).1 = 11) ∧ CallVC l G d mRe_skipWord 21 [.ref a0] [] mRe_byteAt [.ref a0, .int (m_i M a0 4)] M bc bs Φ)) :
    Ev l G d mRe_skipWord 8 [.ref a0] [.int s0] M bc bs Φ := by
  refine Ev.bipush (v := 97) dRe_skipWord_8 (by decide) ?_
  refine Ev.icmp_lt 39 (by decide) dRe_skipWord_10 (fun c => ?_) (fun c => ?_)
  · replace h := h.1 c
    exact Ev.vret dRe_skipWord_39 rfl h
  · replace h := h.2 c
    refine Ev.aload_n dRe_skipWord_13 rfl ?_
    refine Ev.aload_n dRe_skipWord_14 rfl ?_
    have g1 := h.1
    replace h := h.2
    refine Ev.getI dRe_skipWord_15 (Or.inl fRe_124) rfl g1 ?_
    exact Ev.vcV (z := mRe_byteAt) (ci := 11) [.int (m_i M a0 4)] [] rfl dRe_skipWord_18 oRe_byteAt rfl w1491 iRe_byteAt sRe_byteAt (by decide) rfl g1 (Nat.le_of_ble_eq_true rfl) h
theorem bRe_skipWord_21 {l : Launch} {G : Gx} {d : Nat} {bc bs : Nat} {Φ : OutV → Mm → Prop} (M : Mm) (a0 : Nat) (s0 : Int32)
    (h : (122 < s0 → Φ (.inl none) M) ∧ (¬ 122 < s0 → ((m_sh M a0).1 = 11) ∧ Ev l G d mRe_skipWord 0 [.ref a0] [] (m_si M a0 4 ((m_i M a0 4) + 1)) bc bs Φ)) :
    Ev l G d mRe_skipWord 21 [.ref a0] [.int s0] M bc bs Φ := by
  refine Ev.bipush (v := 122) dRe_skipWord_21 (by decide) ?_
  refine Ev.icmp_gt 39 (by decide) dRe_skipWord_23 (fun c => ?_) (fun c => ?_)
  · replace h := h.1 c
    exact Ev.vret dRe_skipWord_39 rfl h
  · replace h := h.2 c
    refine Ev.aload_n dRe_skipWord_26 rfl ?_
    refine Ev.dup dRe_skipWord_27 rfl ?_
    have g1 := h.1
    replace h := h.2
    refine Ev.getI dRe_skipWord_28 (Or.inl fRe_124) rfl g1 ?_
    refine Ev.iconst (v := 1) dRe_skipWord_31 (by decide) ?_
    refine Ev.iadd dRe_skipWord_32 ?_
    refine Ev.putI dRe_skipWord_33 ⟨_, Or.inl ⟨fRe_124, (fun h => by cases h)⟩⟩ rfl ⟨rfl, rfl⟩ g1 ?_
    refine Ev.goto 0 dRe_skipWord_36 (by decide) ?_
    exact h
theorem dRe_readsPerson_0 : decode mRe_readsPerson.2.1 0 = .ok (.aload_n 0, 1) := by decide +kernel
theorem dRe_readsPerson_1 : decode mRe_readsPerson.2.1 1 = .ok (.getfield 19, 3) := by decide +kernel
theorem dRe_readsPerson_4 : decode mRe_readsPerson.2.1 4 = .ok (.aload_n 0, 1) := by decide +kernel
theorem dRe_readsPerson_5 : decode mRe_readsPerson.2.1 5 = .ok (.getfield 182, 3) := by decide +kernel
theorem dRe_readsPerson_8 : decode mRe_readsPerson.2.1 8 = .ok (.aaload, 1) := by decide +kernel
theorem dRe_readsPerson_9 : decode mRe_readsPerson.2.1 9 = .ok (.astore_n 1, 1) := by decide +kernel
theorem dRe_readsPerson_10 : decode mRe_readsPerson.2.1 10 = .ok (.aload_n 1, 1) := by decide +kernel
theorem dRe_readsPerson_11 : decode mRe_readsPerson.2.1 11 = .ok (.iconst 0, 1) := by decide +kernel
theorem dRe_readsPerson_12 : decode mRe_readsPerson.2.1 12 = .ok (.aload_n 0, 1) := by decide +kernel
theorem dRe_readsPerson_13 : decode mRe_readsPerson.2.1 13 = .ok (.iconst 0, 1) := by decide +kernel
theorem dRe_readsPerson_14 : decode mRe_readsPerson.2.1 14 = .ok (.sipush 999, 3) := by decide +kernel
theorem dRe_readsPerson_17 : decode mRe_readsPerson.2.1 17 = .ok (.iconst (-1), 1) := by decide +kernel
theorem dRe_readsPerson_18 : decode mRe_readsPerson.2.1 18 = .ok (.invokevirtual 188, 3) := by decide +kernel
theorem dRe_readsPerson_21 : decode mRe_readsPerson.2.1 21 = .ok (.iastore, 1) := by decide +kernel
theorem dRe_readsPerson_22 : decode mRe_readsPerson.2.1 22 = .ok (.aload_n 1, 1) := by decide +kernel
theorem dRe_readsPerson_23 : decode mRe_readsPerson.2.1 23 = .ok (.iconst 1, 1) := by decide +kernel
theorem dRe_readsPerson_24 : decode mRe_readsPerson.2.1 24 = .ok (.aload_n 0, 1) := by decide +kernel
theorem dRe_readsPerson_25 : decode mRe_readsPerson.2.1 25 = .ok (.iconst 0, 1) := by decide +kernel
theorem dRe_readsPerson_26 : decode mRe_readsPerson.2.1 26 = .ok (.bipush 99, 2) := by decide +kernel
theorem dRe_readsPerson_28 : decode mRe_readsPerson.2.1 28 = .ok (.iconst (-1), 1) := by decide +kernel
theorem dRe_readsPerson_29 : decode mRe_readsPerson.2.1 29 = .ok (.invokevirtual 188, 3) := by decide +kernel
theorem dRe_readsPerson_32 : decode mRe_readsPerson.2.1 32 = .ok (.iastore, 1) := by decide +kernel
theorem dRe_readsPerson_33 : decode mRe_readsPerson.2.1 33 = .ok (.aload_n 1, 1) := by decide +kernel
theorem dRe_readsPerson_34 : decode mRe_readsPerson.2.1 34 = .ok (.iconst 2, 1) := by decide +kernel
theorem dRe_readsPerson_35 : decode mRe_readsPerson.2.1 35 = .ok (.aload_n 0, 1) := by decide +kernel
theorem dRe_readsPerson_36 : decode mRe_readsPerson.2.1 36 = .ok (.iconst 0, 1) := by decide +kernel
theorem dRe_readsPerson_37 : decode mRe_readsPerson.2.1 37 = .ok (.bipush 9, 2) := by decide +kernel
theorem dRe_readsPerson_39 : decode mRe_readsPerson.2.1 39 = .ok (.iconst (-1), 1) := by decide +kernel
theorem dRe_readsPerson_40 : decode mRe_readsPerson.2.1 40 = .ok (.invokevirtual 188, 3) := by decide +kernel
theorem dRe_readsPerson_43 : decode mRe_readsPerson.2.1 43 = .ok (.iastore, 1) := by decide +kernel
theorem dRe_readsPerson_44 : decode mRe_readsPerson.2.1 44 = .ok (.aload_n 1, 1) := by decide +kernel
theorem dRe_readsPerson_45 : decode mRe_readsPerson.2.1 45 = .ok (.iconst 3, 1) := by decide +kernel
theorem dRe_readsPerson_46 : decode mRe_readsPerson.2.1 46 = .ok (.aload_n 0, 1) := by decide +kernel
theorem dRe_readsPerson_47 : decode mRe_readsPerson.2.1 47 = .ok (.iconst 1, 1) := by decide +kernel
theorem dRe_readsPerson_48 : decode mRe_readsPerson.2.1 48 = .ok (.bipush 60, 2) := by decide +kernel
theorem dRe_readsPerson_50 : decode mRe_readsPerson.2.1 50 = .ok (.iconst (-1), 1) := by decide +kernel
theorem dRe_readsPerson_51 : decode mRe_readsPerson.2.1 51 = .ok (.invokevirtual 188, 3) := by decide +kernel
theorem dRe_readsPerson_54 : decode mRe_readsPerson.2.1 54 = .ok (.iastore, 1) := by decide +kernel
theorem dRe_readsPerson_55 : decode mRe_readsPerson.2.1 55 = .ok (.aload_n 1, 1) := by decide +kernel
theorem dRe_readsPerson_56 : decode mRe_readsPerson.2.1 56 = .ok (.iconst 4, 1) := by decide +kernel
theorem dRe_readsPerson_57 : decode mRe_readsPerson.2.1 57 = .ok (.aload_n 0, 1) := by decide +kernel
theorem dRe_readsPerson_58 : decode mRe_readsPerson.2.1 58 = .ok (.iconst 1, 1) := by decide +kernel
theorem dRe_readsPerson_59 : decode mRe_readsPerson.2.1 59 = .ok (.sipush 999, 3) := by decide +kernel
theorem dRe_readsPerson_62 : decode mRe_readsPerson.2.1 62 = .ok (.iconst (-1), 1) := by decide +kernel
theorem dRe_readsPerson_63 : decode mRe_readsPerson.2.1 63 = .ok (.invokevirtual 188, 3) := by decide +kernel
theorem dRe_readsPerson_66 : decode mRe_readsPerson.2.1 66 = .ok (.iastore, 1) := by decide +kernel
theorem dRe_readsPerson_67 : decode mRe_readsPerson.2.1 67 = .ok (.aload_n 1, 1) := by decide +kernel
theorem dRe_readsPerson_68 : decode mRe_readsPerson.2.1 68 = .ok (.iconst 5, 1) := by decide +kernel
theorem dRe_readsPerson_69 : decode mRe_readsPerson.2.1 69 = .ok (.iconst 0, 1) := by decide +kernel
theorem dRe_readsPerson_70 : decode mRe_readsPerson.2.1 70 = .ok (.iastore, 1) := by decide +kernel
theorem dRe_readsPerson_71 : decode mRe_readsPerson.2.1 71 = .ok (.aload_n 1, 1) := by decide +kernel
theorem dRe_readsPerson_72 : decode mRe_readsPerson.2.1 72 = .ok (.bipush 6, 2) := by decide +kernel
theorem dRe_readsPerson_74 : decode mRe_readsPerson.2.1 74 = .ok (.iconst 3, 1) := by decide +kernel
theorem dRe_readsPerson_75 : decode mRe_readsPerson.2.1 75 = .ok (.iastore, 1) := by decide +kernel
theorem dRe_readsPerson_76 : decode mRe_readsPerson.2.1 76 = .ok (.aload_n 1, 1) := by decide +kernel
theorem dRe_readsPerson_77 : decode mRe_readsPerson.2.1 77 = .ok (.bipush 7, 2) := by decide +kernel
theorem dRe_readsPerson_79 : decode mRe_readsPerson.2.1 79 = .ok (.iconst 0, 1) := by decide +kernel
theorem dRe_readsPerson_80 : decode mRe_readsPerson.2.1 80 = .ok (.iastore, 1) := by decide +kernel
theorem dRe_readsPerson_81 : decode mRe_readsPerson.2.1 81 = .ok (.aload_n 0, 1) := by decide +kernel
theorem dRe_readsPerson_82 : decode mRe_readsPerson.2.1 82 = .ok (.dup, 1) := by decide +kernel
theorem dRe_readsPerson_83 : decode mRe_readsPerson.2.1 83 = .ok (.getfield 182, 3) := by decide +kernel
theorem dRe_readsPerson_86 : decode mRe_readsPerson.2.1 86 = .ok (.iconst 1, 1) := by decide +kernel
theorem dRe_readsPerson_87 : decode mRe_readsPerson.2.1 87 = .ok (.iadd, 1) := by decide +kernel
theorem dRe_readsPerson_88 : decode mRe_readsPerson.2.1 88 = .ok (.putfield 182, 3) := by decide +kernel
theorem dRe_readsPerson_91 : decode mRe_readsPerson.2.1 91 = .ok (.return_, 1) := by decide +kernel
theorem bRe_readsPerson_0 {l : Launch} {G : Gx} {d : Nat} {bc bs : Nat} {Φ : OutV → Mm → Prop} (M : Mm) (a0 : Nat)
    (h : ((m_sh M a0).1 = 11) ∧ ((m_sh M (m_r M a0 12)).1 = 33) ∧ (vp_in (m_i M a0 10) (m_sh M (m_r M a0 12)).2) ∧ CallVC l G d mRe_readsPerson 21 [.ref a0, .ref (m_r M (m_r M a0 12) (m_i M a0 10).toNatClampNeg)] [.int 0, .ref (m_r M (m_r M a0 12) (m_i M a0 10).toNatClampNeg)] mRe_numberHere [.ref a0, .int 0, .int 999, .int ((-1))] M bc bs Φ) :
    Ev l G d mRe_readsPerson 0 [.ref a0, .null] [] M bc bs Φ := by
  refine Ev.aload_n dRe_readsPerson_0 rfl ?_
  have g1 := h.1
  replace h := h.2
  refine Ev.getR dRe_readsPerson_1 (Or.inl fRe_19) rfl g1 ?_
  refine Ev.aload_n dRe_readsPerson_4 rfl ?_
  refine Ev.getI dRe_readsPerson_5 (Or.inl fRe_182) rfl g1 ?_
  have g2 := h.1
  replace h := h.2
  have g3 := h.1
  replace h := h.2
  refine Ev.aald2 33 (by decide) dRe_readsPerson_8 g2 g3 ?_
  refine Ev.astore_n dRe_readsPerson_9 (by decide) ?_
  show Ev l G d mRe_readsPerson (_ + _) [.ref a0, .ref (m_r M (m_r M a0 12) (m_i M a0 10).toNatClampNeg)] [] M bc bs Φ
  refine Ev.aload_n dRe_readsPerson_10 rfl ?_
  refine Ev.iconst (v := 0) dRe_readsPerson_11 (by decide) ?_
  refine Ev.aload_n dRe_readsPerson_12 rfl ?_
  refine Ev.iconst (v := 0) dRe_readsPerson_13 (by decide) ?_
  refine Ev.sipush (v := 999) dRe_readsPerson_14 (by decide) ?_
  refine Ev.iconst (v := (-1)) dRe_readsPerson_17 (by decide) ?_
  exact Ev.vcV (z := mRe_numberHere) (ci := 11) [.int 0, .int 999, .int ((-1))] [.int 0, .ref (m_r M (m_r M a0 12) (m_i M a0 10).toNatClampNeg)] rfl dRe_readsPerson_18 oRe_numberHere rfl w1526 iRe_numberHere sRe_numberHere (by decide) rfl g1 (Nat.le_of_ble_eq_true rfl) h
theorem bRe_readsPerson_21 {l : Launch} {G : Gx} {d : Nat} {bc bs : Nat} {Φ : OutV → Mm → Prop} (M : Mm) (a0 : Nat) (a1 : Nat) (r0 : Nat) (s1 : Int32) (s2 : Int32)
    (h : ((m_sh M r0).1 = 20) ∧ (vp_in s1 (m_sh M r0).2) ∧ ((m_sh M a0).1 = 11) ∧ CallVC l G d mRe_readsPerson 32 [.ref a0, .ref a1] [.int 1, .ref a1] mRe_numberHere [.ref a0, .int 0, .int 99, .int ((-1))] (m_si M r0 s1.toNatClampNeg s2) bc bs Φ) :
    Ev l G d mRe_readsPerson 21 [.ref a0, .ref a1] [.int s2, .int s1, .ref r0] M bc bs Φ := by
  have g1 := h.1
  replace h := h.2
  have g2 := h.1
  replace h := h.2
  refine Ev.iast2 dRe_readsPerson_21 g1 g2 ?_
  refine Ev.aload_n dRe_readsPerson_22 rfl ?_
  refine Ev.iconst (v := 1) dRe_readsPerson_23 (by decide) ?_
  refine Ev.aload_n dRe_readsPerson_24 rfl ?_
  refine Ev.iconst (v := 0) dRe_readsPerson_25 (by decide) ?_
  refine Ev.bipush (v := 99) dRe_readsPerson_26 (by decide) ?_
  refine Ev.iconst (v := (-1)) dRe_readsPerson_28 (by decide) ?_
  have g3 := h.1
  replace h := h.2
  exact Ev.vcV (z := mRe_numberHere) (ci := 11) [.int 0, .int 99, .int ((-1))] [.int 1, .ref a1] rfl dRe_readsPerson_29 oRe_numberHere rfl w1526 iRe_numberHere sRe_numberHere (by decide) rfl g3 (Nat.le_of_ble_eq_true rfl) h
theorem bRe_readsPerson_32 {l : Launch} {G : Gx} {d : Nat} {bc bs : Nat} {Φ : OutV → Mm → Prop} (M : Mm) (a0 : Nat) (a1 : Nat) (r0 : Nat) (s1 : Int32) (s2 : Int32)
    (h : ((m_sh M r0).1 = 20) ∧ (vp_in s1 (m_sh M r0).2) ∧ ((m_sh M a0).1 = 11) ∧ CallVC l G d mRe_readsPerson 43 [.ref a0, .ref a1] [.int 2, .ref a1] mRe_numberHere [.ref a0, .int 0, .int 9, .int ((-1))] (m_si M r0 s1.toNatClampNeg s2) bc bs Φ) :
    Ev l G d mRe_readsPerson 32 [.ref a0, .ref a1] [.int s2, .int s1, .ref r0] M bc bs Φ := by
  have g1 := h.1
  replace h := h.2
  have g2 := h.1
  replace h := h.2
  refine Ev.iast2 dRe_readsPerson_32 g1 g2 ?_
  refine Ev.aload_n dRe_readsPerson_33 rfl ?_
  refine Ev.iconst (v := 2) dRe_readsPerson_34 (by decide) ?_
  refine Ev.aload_n dRe_readsPerson_35 rfl ?_
  refine Ev.iconst (v := 0) dRe_readsPerson_36 (by decide) ?_
  refine Ev.bipush (v := 9) dRe_readsPerson_37 (by decide) ?_
  refine Ev.iconst (v := (-1)) dRe_readsPerson_39 (by decide) ?_
  have g3 := h.1
  replace h := h.2
  exact Ev.vcV (z := mRe_numberHere) (ci := 11) [.int 0, .int 9, .int ((-1))] [.int 2, .ref a1] rfl dRe_readsPerson_40 oRe_numberHere rfl w1526 iRe_numberHere sRe_numberHere (by decide) rfl g3 (Nat.le_of_ble_eq_true rfl) h
theorem bRe_readsPerson_43 {l : Launch} {G : Gx} {d : Nat} {bc bs : Nat} {Φ : OutV → Mm → Prop} (M : Mm) (a0 : Nat) (a1 : Nat) (r0 : Nat) (s1 : Int32) (s2 : Int32)
    (h : ((m_sh M r0).1 = 20) ∧ (vp_in s1 (m_sh M r0).2) ∧ ((m_sh M a0).1 = 11) ∧ CallVC l G d mRe_readsPerson 54 [.ref a0, .ref a1] [.int 3, .ref a1] mRe_numberHere [.ref a0, .int 1, .int 60, .int ((-1))] (m_si M r0 s1.toNatClampNeg s2) bc bs Φ) :
    Ev l G d mRe_readsPerson 43 [.ref a0, .ref a1] [.int s2, .int s1, .ref r0] M bc bs Φ := by
  have g1 := h.1
  replace h := h.2
  have g2 := h.1
  replace h := h.2
  refine Ev.iast2 dRe_readsPerson_43 g1 g2 ?_
  refine Ev.aload_n dRe_readsPerson_44 rfl ?_
  refine Ev.iconst (v := 3) dRe_readsPerson_45 (by decide) ?_
  refine Ev.aload_n dRe_readsPerson_46 rfl ?_
  refine Ev.iconst (v := 1) dRe_readsPerson_47 (by decide) ?_
  refine Ev.bipush (v := 60) dRe_readsPerson_48 (by decide) ?_
  refine Ev.iconst (v := (-1)) dRe_readsPerson_50 (by decide) ?_
  have g3 := h.1
  replace h := h.2
  exact Ev.vcV (z := mRe_numberHere) (ci := 11) [.int 1, .int 60, .int ((-1))] [.int 3, .ref a1] rfl dRe_readsPerson_51 oRe_numberHere rfl w1526 iRe_numberHere sRe_numberHere (by decide) rfl g3 (Nat.le_of_ble_eq_true rfl) h
theorem bRe_readsPerson_54 {l : Launch} {G : Gx} {d : Nat} {bc bs : Nat} {Φ : OutV → Mm → Prop} (M : Mm) (a0 : Nat) (a1 : Nat) (r0 : Nat) (s1 : Int32) (s2 : Int32)
    (h : ((m_sh M r0).1 = 20) ∧ (vp_in s1 (m_sh M r0).2) ∧ ((m_sh M a0).1 = 11) ∧ CallVC l G d mRe_readsPerson 66 [.ref a0, .ref a1] [.int 4, .ref a1] mRe_numberHere [.ref a0, .int 1, .int 999, .int ((-1))] (m_si M r0 s1.toNatClampNeg s2) bc bs Φ) :
    Ev l G d mRe_readsPerson 54 [.ref a0, .ref a1] [.int s2, .int s1, .ref r0] M bc bs Φ := by
  have g1 := h.1
  replace h := h.2
  have g2 := h.1
  replace h := h.2
  refine Ev.iast2 dRe_readsPerson_54 g1 g2 ?_
  refine Ev.aload_n dRe_readsPerson_55 rfl ?_
  refine Ev.iconst (v := 4) dRe_readsPerson_56 (by decide) ?_
  refine Ev.aload_n dRe_readsPerson_57 rfl ?_
  refine Ev.iconst (v := 1) dRe_readsPerson_58 (by decide) ?_
  refine Ev.sipush (v := 999) dRe_readsPerson_59 (by decide) ?_
  refine Ev.iconst (v := (-1)) dRe_readsPerson_62 (by decide) ?_
  have g3 := h.1
  replace h := h.2
  exact Ev.vcV (z := mRe_numberHere) (ci := 11) [.int 1, .int 999, .int ((-1))] [.int 4, .ref a1] rfl dRe_readsPerson_63 oRe_numberHere rfl w1526 iRe_numberHere sRe_numberHere (by decide) rfl g3 (Nat.le_of_ble_eq_true rfl) h
theorem bRe_readsPerson_66 {l : Launch} {G : Gx} {d : Nat} {bc bs : Nat} {Φ : OutV → Mm → Prop} (M : Mm) (a0 : Nat) (a1 : Nat) (r0 : Nat) (s1 : Int32) (s2 : Int32)
    (h : ((m_sh M r0).1 = 20) ∧ (vp_in s1 (m_sh M r0).2) ∧ ((m_sh M a1).1 = 20) ∧ (vp_in 5 (m_sh M a1).2) ∧ Ev l G d mRe_readsPerson 71 [.ref a0, .ref a1] [] (m_si (m_si M r0 s1.toNatClampNeg s2) a1 (5 : Int32).toNatClampNeg 0) bc bs Φ) :
    Ev l G d mRe_readsPerson 66 [.ref a0, .ref a1] [.int s2, .int s1, .ref r0] M bc bs Φ := by
  have g1 := h.1
  replace h := h.2
  have g2 := h.1
  replace h := h.2
  refine Ev.iast2 dRe_readsPerson_66 g1 g2 ?_
  refine Ev.aload_n dRe_readsPerson_67 rfl ?_
  refine Ev.iconst (v := 5) dRe_readsPerson_68 (by decide) ?_
  refine Ev.iconst (v := 0) dRe_readsPerson_69 (by decide) ?_
  have g3 := h.1
  replace h := h.2
  have g4 := h.1
  replace h := h.2
  refine Ev.iast2 dRe_readsPerson_70 g3 g4 ?_
  exact h
theorem bRe_readsPerson_71 {l : Launch} {G : Gx} {d : Nat} {bc bs : Nat} {Φ : OutV → Mm → Prop} (M : Mm) (a0 : Nat) (a1 : Nat)
    (h : ((m_sh M a1).1 = 20) ∧ (vp_in 6 (m_sh M a1).2) ∧ (vp_in 7 (m_sh M a1).2) ∧ Ev l G d mRe_readsPerson 81 [.ref a0, .ref a1] [] (m_si (m_si M a1 (6 : Int32).toNatClampNeg 3) a1 (7 : Int32).toNatClampNeg 0) bc bs Φ) :
    Ev l G d mRe_readsPerson 71 [.ref a0, .ref a1] [] M bc bs Φ := by
  refine Ev.aload_n dRe_readsPerson_71 rfl ?_
  refine Ev.bipush (v := 6) dRe_readsPerson_72 (by decide) ?_
  refine Ev.iconst (v := 3) dRe_readsPerson_74 (by decide) ?_
  have g1 := h.1
  replace h := h.2
  have g2 := h.1
  replace h := h.2
  refine Ev.iast2 dRe_readsPerson_75 g1 g2 ?_
  refine Ev.aload_n dRe_readsPerson_76 rfl ?_
  refine Ev.bipush (v := 7) dRe_readsPerson_77 (by decide) ?_
  refine Ev.iconst (v := 0) dRe_readsPerson_79 (by decide) ?_
  have g3 := h.1
  replace h := h.2
  refine Ev.iast2 dRe_readsPerson_80 g1 g3 ?_
  exact h
theorem bRe_readsPerson_81 {l : Launch} {G : Gx} {d : Nat} {bc bs : Nat} {Φ : OutV → Mm → Prop} (M : Mm) (a0 : Nat) (a1 : Nat)
    (h : ((m_sh M a0).1 = 11) ∧ Φ (.inl none) (m_si M a0 10 ((m_i M a0 10) + 1))) :
    Ev l G d mRe_readsPerson 81 [.ref a0, .ref a1] [] M bc bs Φ := by
  refine Ev.aload_n dRe_readsPerson_81 rfl ?_
  refine Ev.dup dRe_readsPerson_82 rfl ?_
  have g1 := h.1
  replace h := h.2
  refine Ev.getI dRe_readsPerson_83 (Or.inl fRe_182) rfl g1 ?_
  refine Ev.iconst (v := 1) dRe_readsPerson_86 (by decide) ?_
  refine Ev.iadd dRe_readsPerson_87 ?_
  refine Ev.putI dRe_readsPerson_88 ⟨_, Or.inl ⟨fRe_182, (fun h => by cases h)⟩⟩ rfl ⟨rfl, rfl⟩ g1 ?_
  exact Ev.vret dRe_readsPerson_91 rfl h
