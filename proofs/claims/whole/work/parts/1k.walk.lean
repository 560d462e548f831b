theorem dX12_pipes_0 : decode cX12_pipes 0 = .ok (.lconst 0, 1) := by decide +kernel
theorem dX12_pipes_1 : decode cX12_pipes 1 = .ok (.lstore_n 1, 1) := by decide +kernel
theorem dX12_pipes_2 : decode cX12_pipes 2 = .ok (.iconst 0, 1) := by decide +kernel
theorem dX12_pipes_3 : decode cX12_pipes 3 = .ok (.istore_n 3, 1) := by decide +kernel
theorem dX12_pipes_4 : decode cX12_pipes 4 = .ok (.iload_n 3, 1) := by decide +kernel
theorem dX12_pipes_5 : decode cX12_pipes 5 = .ok (.aload_n 0, 1) := by decide +kernel
theorem dX12_pipes_6 : decode cX12_pipes 6 = .ok (.getfield 13, 3) := by decide +kernel
theorem dX12_pipes_9 : decode cX12_pipes 9 = .ok (.iconst 2, 1) := by decide +kernel
theorem dX12_pipes_10 : decode cX12_pipes 10 = .ok (.iaload, 1) := by decide +kernel
theorem dX12_pipes_11 : decode cX12_pipes 11 = .ok (.if_icmp .ge 139, 3) := by decide +kernel
theorem dX12_pipes_14 : decode cX12_pipes 14 = .ok (.sipush 624, 3) := by decide +kernel
theorem dX12_pipes_17 : decode cX12_pipes 17 = .ok (.bipush 6, 2) := by decide +kernel
theorem dX12_pipes_19 : decode cX12_pipes 19 = .ok (.iload_n 3, 1) := by decide +kernel
theorem dX12_pipes_20 : decode cX12_pipes 20 = .ok (.imul, 1) := by decide +kernel
theorem dX12_pipes_21 : decode cX12_pipes 21 = .ok (.iadd, 1) := by decide +kernel
theorem dX12_pipes_22 : decode cX12_pipes 22 = .ok (.istore 4, 2) := by decide +kernel
theorem dX12_pipes_24 : decode cX12_pipes 24 = .ok (.aload_n 0, 1) := by decide +kernel
theorem dX12_pipes_25 : decode cX12_pipes 25 = .ok (.getfield 13, 3) := by decide +kernel
theorem dX12_pipes_28 : decode cX12_pipes 28 = .ok (.iload 4, 2) := by decide +kernel
theorem dX12_pipes_30 : decode cX12_pipes 30 = .ok (.iaload, 1) := by decide +kernel
theorem dX12_pipes_31 : decode cX12_pipes 31 = .ok (.istore 5, 2) := by decide +kernel
theorem dX12_pipes_33 : decode cX12_pipes 33 = .ok (.aload_n 0, 1) := by decide +kernel
theorem dX12_pipes_34 : decode cX12_pipes 34 = .ok (.getfield 13, 3) := by decide +kernel
theorem dX12_pipes_37 : decode cX12_pipes 37 = .ok (.iload 4, 2) := by decide +kernel
theorem dX12_pipes_39 : decode cX12_pipes 39 = .ok (.iconst 3, 1) := by decide +kernel
theorem dX12_pipes_40 : decode cX12_pipes 40 = .ok (.iadd, 1) := by decide +kernel
theorem dX12_pipes_41 : decode cX12_pipes 41 = .ok (.iaload, 1) := by decide +kernel
theorem dX12_pipes_42 : decode cX12_pipes 42 = .ok (.iconst 1, 1) := by decide +kernel
theorem dX12_pipes_43 : decode cX12_pipes 43 = .ok (.if_icmp .ne 39, 3) := by decide +kernel
theorem dX12_pipes_46 : decode cX12_pipes 46 = .ok (.aload_n 0, 1) := by decide +kernel
theorem dX12_pipes_47 : decode cX12_pipes 47 = .ok (.iload 5, 2) := by decide +kernel
theorem dX12_pipes_49 : decode cX12_pipes 49 = .ok (.invokevirtual 102, 3) := by decide +kernel
theorem dX12_pipes_52 : decode cX12_pipes 52 = .ok (.ifCond .ne 30, 3) := by decide +kernel
theorem dX12_pipes_55 : decode cX12_pipes 55 = .ok (.aload_n 0, 1) := by decide +kernel
theorem dX12_pipes_56 : decode cX12_pipes 56 = .ok (.getfield 13, 3) := by decide +kernel
theorem dX12_pipes_59 : decode cX12_pipes 59 = .ok (.sipush 192, 3) := by decide +kernel
theorem dX12_pipes_62 : decode cX12_pipes 62 = .ok (.iload 5, 2) := by decide +kernel
theorem dX12_pipes_64 : decode cX12_pipes 64 = .ok (.iadd, 1) := by decide +kernel
theorem dX12_pipes_65 : decode cX12_pipes 65 = .ok (.iaload, 1) := by decide +kernel
theorem dX12_pipes_66 : decode cX12_pipes 66 = .ok (.aload_n 0, 1) := by decide +kernel
theorem dX12_pipes_67 : decode cX12_pipes 67 = .ok (.getfield 13, 3) := by decide +kernel
theorem dX12_pipes_70 : decode cX12_pipes 70 = .ok (.iload 4, 2) := by decide +kernel
theorem dX12_pipes_72 : decode cX12_pipes 72 = .ok (.iconst 1, 1) := by decide +kernel
theorem dX12_pipes_73 : decode cX12_pipes 73 = .ok (.iadd, 1) := by decide +kernel
theorem dX12_pipes_74 : decode cX12_pipes 74 = .ok (.iaload, 1) := by decide +kernel
theorem dX12_pipes_75 : decode cX12_pipes 75 = .ok (.if_icmp .le 7, 3) := by decide +kernel
theorem dX12_pipes_78 : decode cX12_pipes 78 = .ok (.iconst 1, 1) := by decide +kernel
theorem dX12_pipes_79 : decode cX12_pipes 79 = .ok (.goto 4, 3) := by decide +kernel
theorem dX12_pipes_82 : decode cX12_pipes 82 = .ok (.iconst 0, 1) := by decide +kernel
theorem dX12_pipes_83 : decode cX12_pipes 83 = .ok (.istore 6, 2) := by decide +kernel
theorem dX12_pipes_85 : decode cX12_pipes 85 = .ok (.aload_n 0, 1) := by decide +kernel
theorem dX12_pipes_86 : decode cX12_pipes 86 = .ok (.getfield 49, 3) := by decide +kernel
theorem dX12_pipes_89 : decode cX12_pipes 89 = .ok (.iload_n 3, 1) := by decide +kernel
theorem dX12_pipes_90 : decode cX12_pipes 90 = .ok (.iload 6, 2) := by decide +kernel
theorem dX12_pipes_92 : decode cX12_pipes 92 = .ok (.ifCond .eq 40, 3) := by decide +kernel
theorem dX12_pipes_95 : decode cX12_pipes 95 = .ok (.aload_n 0, 1) := by decide +kernel
theorem dX12_pipes_96 : decode cX12_pipes 96 = .ok (.getfield 13, 3) := by decide +kernel
theorem dX12_pipes_99 : decode cX12_pipes 99 = .ok (.sipush 192, 3) := by decide +kernel
theorem dX12_pipes_102 : decode cX12_pipes 102 = .ok (.iload 5, 2) := by decide +kernel
theorem dX12_pipes_104 : decode cX12_pipes 104 = .ok (.iadd, 1) := by decide +kernel
theorem dX12_pipes_105 : decode cX12_pipes 105 = .ok (.iaload, 1) := by decide +kernel
theorem dX12_pipes_106 : decode cX12_pipes 106 = .ok (.aload_n 0, 1) := by decide +kernel
theorem dX12_pipes_107 : decode cX12_pipes 107 = .ok (.getfield 13, 3) := by decide +kernel
theorem dX12_pipes_110 : decode cX12_pipes 110 = .ok (.iload 4, 2) := by decide +kernel
theorem dX12_pipes_112 : decode cX12_pipes 112 = .ok (.iconst 1, 1) := by decide +kernel
theorem dX12_pipes_113 : decode cX12_pipes 113 = .ok (.iadd, 1) := by decide +kernel
theorem dX12_pipes_114 : decode cX12_pipes 114 = .ok (.iaload, 1) := by decide +kernel
theorem dX12_pipes_115 : decode cX12_pipes 115 = .ok (.isub, 1) := by decide +kernel
theorem dX12_pipes_116 : decode cX12_pipes 116 = .ok (.aload_n 0, 1) := by decide +kernel
theorem dX12_pipes_117 : decode cX12_pipes 117 = .ok (.getfield 13, 3) := by decide +kernel
theorem dX12_pipes_120 : decode cX12_pipes 120 = .ok (.iload 4, 2) := by decide +kernel
theorem dX12_pipes_122 : decode cX12_pipes 122 = .ok (.iconst 2, 1) := by decide +kernel
theorem dX12_pipes_123 : decode cX12_pipes 123 = .ok (.iadd, 1) := by decide +kernel
theorem dX12_pipes_124 : decode cX12_pipes 124 = .ok (.iaload, 1) := by decide +kernel
theorem dX12_pipes_125 : decode cX12_pipes 125 = .ok (.imul, 1) := by decide +kernel
theorem dX12_pipes_126 : decode cX12_pipes 126 = .ok (.bipush 100, 2) := by decide +kernel
theorem dX12_pipes_128 : decode cX12_pipes 128 = .ok (.idiv, 1) := by decide +kernel
theorem dX12_pipes_129 : decode cX12_pipes 129 = .ok (.goto 4, 3) := by decide +kernel
theorem dX12_pipes_132 : decode cX12_pipes 132 = .ok (.iconst 0, 1) := by decide +kernel
theorem dX12_pipes_133 : decode cX12_pipes 133 = .ok (.iastore, 1) := by decide +kernel
theorem dX12_pipes_134 : decode cX12_pipes 134 = .ok (.lload_n 1, 1) := by decide +kernel
theorem dX12_pipes_135 : decode cX12_pipes 135 = .ok (.aload_n 0, 1) := by decide +kernel
theorem dX12_pipes_136 : decode cX12_pipes 136 = .ok (.getfield 49, 3) := by decide +kernel
theorem dX12_pipes_139 : decode cX12_pipes 139 = .ok (.iload_n 3, 1) := by decide +kernel
theorem dX12_pipes_140 : decode cX12_pipes 140 = .ok (.iaload, 1) := by decide +kernel
theorem dX12_pipes_141 : decode cX12_pipes 141 = .ok (.i2l, 1) := by decide +kernel
theorem dX12_pipes_142 : decode cX12_pipes 142 = .ok (.ladd, 1) := by decide +kernel
theorem dX12_pipes_143 : decode cX12_pipes 143 = .ok (.lstore_n 1, 1) := by decide +kernel
theorem dX12_pipes_144 : decode cX12_pipes 144 = .ok (.iinc 3 1, 3) := by decide +kernel
theorem dX12_pipes_147 : decode cX12_pipes 147 = .ok (.goto (-143), 3) := by decide +kernel
theorem dX12_pipes_150 : decode cX12_pipes 150 = .ok (.iconst 0, 1) := by decide +kernel
theorem dX12_pipes_151 : decode cX12_pipes 151 = .ok (.istore_n 3, 1) := by decide +kernel
theorem dX12_pipes_152 : decode cX12_pipes 152 = .ok (.iload_n 3, 1) := by decide +kernel
theorem dX12_pipes_153 : decode cX12_pipes 153 = .ok (.aload_n 0, 1) := by decide +kernel
theorem dX12_pipes_154 : decode cX12_pipes 154 = .ok (.getfield 13, 3) := by decide +kernel
theorem dX12_pipes_157 : decode cX12_pipes 157 = .ok (.iconst 2, 1) := by decide +kernel
theorem dX12_pipes_158 : decode cX12_pipes 158 = .ok (.iaload, 1) := by decide +kernel
theorem dX12_pipes_159 : decode cX12_pipes 159 = .ok (.if_icmp .ge 116, 3) := by decide +kernel
theorem dX12_pipes_162 : decode cX12_pipes 162 = .ok (.sipush 624, 3) := by decide +kernel
theorem dX12_pipes_165 : decode cX12_pipes 165 = .ok (.bipush 6, 2) := by decide +kernel
theorem dX12_pipes_167 : decode cX12_pipes 167 = .ok (.iload_n 3, 1) := by decide +kernel
theorem dX12_pipes_168 : decode cX12_pipes 168 = .ok (.imul, 1) := by decide +kernel
theorem dX12_pipes_169 : decode cX12_pipes 169 = .ok (.iadd, 1) := by decide +kernel
theorem dX12_pipes_170 : decode cX12_pipes 170 = .ok (.istore 4, 2) := by decide +kernel
theorem dX12_pipes_172 : decode cX12_pipes 172 = .ok (.lload_n 1, 1) := by decide +kernel
theorem dX12_pipes_173 : decode cX12_pipes 173 = .ok (.aload_n 0, 1) := by decide +kernel
theorem dX12_pipes_174 : decode cX12_pipes 174 = .ok (.getfield 13, 3) := by decide +kernel
theorem dX12_pipes_177 : decode cX12_pipes 177 = .ok (.bipush 6, 2) := by decide +kernel
theorem dX12_pipes_179 : decode cX12_pipes 179 = .ok (.iaload, 1) := by decide +kernel
theorem dX12_pipes_180 : decode cX12_pipes 180 = .ok (.i2l, 1) := by decide +kernel
theorem dX12_pipes_181 : decode cX12_pipes 181 = .ok (.lcmp, 1) := by decide +kernel
theorem dX12_pipes_182 : decode cX12_pipes 182 = .ok (.ifCond .le 25, 3) := by decide +kernel
theorem dX12_pipes_185 : decode cX12_pipes 185 = .ok (.aload_n 0, 1) := by decide +kernel
theorem dX12_pipes_186 : decode cX12_pipes 186 = .ok (.getfield 49, 3) := by decide +kernel
theorem dX12_pipes_189 : decode cX12_pipes 189 = .ok (.iload_n 3, 1) := by decide +kernel
theorem dX12_pipes_190 : decode cX12_pipes 190 = .ok (.iaload, 1) := by decide +kernel
theorem dX12_pipes_191 : decode cX12_pipes 191 = .ok (.i2l, 1) := by decide +kernel
theorem dX12_pipes_192 : decode cX12_pipes 192 = .ok (.aload_n 0, 1) := by decide +kernel
theorem dX12_pipes_193 : decode cX12_pipes 193 = .ok (.getfield 13, 3) := by decide +kernel
theorem dX12_pipes_196 : decode cX12_pipes 196 = .ok (.bipush 6, 2) := by decide +kernel
theorem dX12_pipes_198 : decode cX12_pipes 198 = .ok (.iaload, 1) := by decide +kernel
theorem dX12_pipes_199 : decode cX12_pipes 199 = .ok (.i2l, 1) := by decide +kernel
theorem dX12_pipes_200 : decode cX12_pipes 200 = .ok (.lmul, 1) := by decide +kernel
theorem dX12_pipes_201 : decode cX12_pipes 201 = .ok (.lload_n 1, 1) := by decide +kernel
theorem dX12_pipes_202 : decode cX12_pipes 202 = .ok (.ldiv, 1) := by decide +kernel
theorem dX12_pipes_203 : decode cX12_pipes 203 = .ok (.l2i, 1) := by decide +kernel
theorem dX12_pipes_204 : decode cX12_pipes 204 = .ok (.goto 9, 3) := by decide +kernel
theorem dX12_pipes_207 : decode cX12_pipes 207 = .ok (.aload_n 0, 1) := by decide +kernel
theorem dX12_pipes_208 : decode cX12_pipes 208 = .ok (.getfield 49, 3) := by decide +kernel
theorem dX12_pipes_211 : decode cX12_pipes 211 = .ok (.iload_n 3, 1) := by decide +kernel
theorem dX12_pipes_212 : decode cX12_pipes 212 = .ok (.iaload, 1) := by decide +kernel
theorem dX12_pipes_213 : decode cX12_pipes 213 = .ok (.istore 5, 2) := by decide +kernel
theorem dX12_pipes_215 : decode cX12_pipes 215 = .ok (.aload_n 0, 1) := by decide +kernel
theorem dX12_pipes_216 : decode cX12_pipes 216 = .ok (.getfield 46, 3) := by decide +kernel
theorem dX12_pipes_219 : decode cX12_pipes 219 = .ok (.aload_n 0, 1) := by decide +kernel
theorem dX12_pipes_220 : decode cX12_pipes 220 = .ok (.getfield 13, 3) := by decide +kernel
theorem dX12_pipes_223 : decode cX12_pipes 223 = .ok (.iload 4, 2) := by decide +kernel
theorem dX12_pipes_225 : decode cX12_pipes 225 = .ok (.iaload, 1) := by decide +kernel
theorem dX12_pipes_226 : decode cX12_pipes 226 = .ok (.dup2, 1) := by decide +kernel
theorem dX12_pipes_227 : decode cX12_pipes 227 = .ok (.iaload, 1) := by decide +kernel
theorem dX12_pipes_228 : decode cX12_pipes 228 = .ok (.iload 5, 2) := by decide +kernel
theorem dX12_pipes_230 : decode cX12_pipes 230 = .ok (.isub, 1) := by decide +kernel
theorem dX12_pipes_231 : decode cX12_pipes 231 = .ok (.iastore, 1) := by decide +kernel
theorem dX12_pipes_232 : decode cX12_pipes 232 = .ok (.aload_n 0, 1) := by decide +kernel
theorem dX12_pipes_233 : decode cX12_pipes 233 = .ok (.getfield 13, 3) := by decide +kernel
theorem dX12_pipes_236 : decode cX12_pipes 236 = .ok (.iload 4, 2) := by decide +kernel
theorem dX12_pipes_238 : decode cX12_pipes 238 = .ok (.iconst 4, 1) := by decide +kernel
theorem dX12_pipes_239 : decode cX12_pipes 239 = .ok (.iadd, 1) := by decide +kernel
theorem dX12_pipes_240 : decode cX12_pipes 240 = .ok (.iload 5, 2) := by decide +kernel
theorem dX12_pipes_242 : decode cX12_pipes 242 = .ok (.iastore, 1) := by decide +kernel
theorem dX12_pipes_243 : decode cX12_pipes 243 = .ok (.aload_n 0, 1) := by decide +kernel
theorem dX12_pipes_244 : decode cX12_pipes 244 = .ok (.getfield 13, 3) := by decide +kernel
theorem dX12_pipes_247 : decode cX12_pipes 247 = .ok (.iload 4, 2) := by decide +kernel
theorem dX12_pipes_249 : decode cX12_pipes 249 = .ok (.iconst 5, 1) := by decide +kernel
theorem dX12_pipes_250 : decode cX12_pipes 250 = .ok (.iadd, 1) := by decide +kernel
theorem dX12_pipes_251 : decode cX12_pipes 251 = .ok (.dup2, 1) := by decide +kernel
theorem dX12_pipes_252 : decode cX12_pipes 252 = .ok (.iaload, 1) := by decide +kernel
theorem dX12_pipes_253 : decode cX12_pipes 253 = .ok (.iload 5, 2) := by decide +kernel
theorem dX12_pipes_255 : decode cX12_pipes 255 = .ok (.iadd, 1) := by decide +kernel
theorem dX12_pipes_256 : decode cX12_pipes 256 = .ok (.iastore, 1) := by decide +kernel
theorem dX12_pipes_257 : decode cX12_pipes 257 = .ok (.aload_n 0, 1) := by decide +kernel
theorem dX12_pipes_258 : decode cX12_pipes 258 = .ok (.getfield 13, 3) := by decide +kernel
theorem dX12_pipes_261 : decode cX12_pipes 261 = .ok (.bipush 14, 2) := by decide +kernel
theorem dX12_pipes_263 : decode cX12_pipes 263 = .ok (.dup2, 1) := by decide +kernel
theorem dX12_pipes_264 : decode cX12_pipes 264 = .ok (.iaload, 1) := by decide +kernel
theorem dX12_pipes_265 : decode cX12_pipes 265 = .ok (.iload 5, 2) := by decide +kernel
theorem dX12_pipes_267 : decode cX12_pipes 267 = .ok (.iadd, 1) := by decide +kernel
theorem dX12_pipes_268 : decode cX12_pipes 268 = .ok (.iastore, 1) := by decide +kernel
theorem dX12_pipes_269 : decode cX12_pipes 269 = .ok (.iinc 3 1, 3) := by decide +kernel
theorem dX12_pipes_272 : decode cX12_pipes 272 = .ok (.goto (-120), 3) := by decide +kernel
theorem dX12_pipes_275 : decode cX12_pipes 275 = .ok (.return_, 1) := by decide +kernel
theorem cw_X12_pipes_102 : CwV mi_X12_pipes mi_X12_isDug yX12_isDug RX12 102 1 := ⟨⟨w_1511, w_1513, w_65, w_108, w_1514⟩, ⟨by decide, by decide⟩, by decide +kernel, by decide, by decide⟩
theorem j_X12_pipes_B213 {l : Launch} {Γ : Am} {k152 : Nat → Int64 → Int32 → Hp → Option (Unit × Hp)} (hL152 : ∀ (r0 : Nat) (w1 : Int64) (v3 : Int32) (z : Hp), J l Γ mi_X12_pipes cvV 0 0 152 [(0, .ref (mB Γ + r0)), (1, .long w1), (3, .int v3)] [] z (k152 r0 w1 v3 z)) : ∀ (r0 : Nat) (w1 : Int64) (v3 : Int32) (v4 : Int32) (t0 : Int32) (z : Hp), J l Γ mi_X12_pipes cvV 0 0 213 [(0, .ref (mB Γ + r0)), (1, .long w1), (3, .int v3), (4, .int v4)] [.int t0] z (m_X12_pipes_B213 k152 r0 w1 v3 v4 t0 z) := by
  intro r0 w1 v3 v4 t0 z
  unfold m_X12_pipes_B213
  refine j_istore (pc := 213) (lv2 := [(5, .int t0), (0, .ref (mB Γ + r0)), (1, .long w1), (3, .int v3), (4, .int v4)]) dX12_pipes_213 (by decide) rfl ?_
  refine j_aload_n (pc := 215) 1 dX12_pipes_215 rfl rfl ?_
  refine j_getR (pc := 216) ok_X12 (by decide) rfl w_1262 dX12_pipes_216 (fun a1 => ?_)
  refine j_aload_n (pc := 219) 1 dX12_pipes_219 rfl rfl ?_
  refine j_getR (pc := 220) ok_X12 (by decide) rfl w_1239 dX12_pipes_220 (fun a2 => ?_)
  refine j_iload (pc := 223) 4 dX12_pipes_223 rfl ?_
  refine j_iaload (pc := 225) dX12_pipes_225 (fun x3 => ?_)
  refine j_dup2 (pc := 226) dX12_pipes_226 rfl rfl ?_
  refine j_iaload (pc := 227) dX12_pipes_227 (fun x4 => ?_)
  refine j_iload (pc := 228) 0 dX12_pipes_228 rfl ?_
  refine j_isub (pc := 230) dX12_pipes_230 ?_
  refine j_iastore (pc := 231) dX12_pipes_231 (fun z5 => ?_)
  refine j_aload_n (pc := 232) 1 dX12_pipes_232 rfl rfl ?_
  refine j_getR (pc := 233) ok_X12 (by decide) rfl w_1239 dX12_pipes_233 (fun a6 => ?_)
  refine j_iload (pc := 236) 4 dX12_pipes_236 rfl ?_
  refine j_iconst (pc := 238) (v := 4) dX12_pipes_238 (by decide) ?_
  refine j_iadd (pc := 239) dX12_pipes_239 ?_
  refine j_iload (pc := 240) 0 dX12_pipes_240 rfl ?_
  refine j_iastore (pc := 242) dX12_pipes_242 (fun z7 => ?_)
  refine j_aload_n (pc := 243) 1 dX12_pipes_243 rfl rfl ?_
  refine j_getR (pc := 244) ok_X12 (by decide) rfl w_1239 dX12_pipes_244 (fun a8 => ?_)
  refine j_iload (pc := 247) 4 dX12_pipes_247 rfl ?_
  refine j_iconst (pc := 249) (v := 5) dX12_pipes_249 (by decide) ?_
  refine j_iadd (pc := 250) dX12_pipes_250 ?_
  refine j_dup2 (pc := 251) dX12_pipes_251 rfl rfl ?_
  refine j_iaload (pc := 252) dX12_pipes_252 (fun x9 => ?_)
  refine j_iload (pc := 253) 0 dX12_pipes_253 rfl ?_
  refine j_iadd (pc := 255) dX12_pipes_255 ?_
  refine j_iastore (pc := 256) dX12_pipes_256 (fun z10 => ?_)
  refine j_aload_n (pc := 257) 1 dX12_pipes_257 rfl rfl ?_
  refine j_getR (pc := 258) ok_X12 (by decide) rfl w_1239 dX12_pipes_258 (fun a11 => ?_)
  refine j_bipush (pc := 261) (v := 14) dX12_pipes_261 (by decide) ?_
  refine j_dup2 (pc := 263) dX12_pipes_263 rfl rfl ?_
  refine j_iaload (pc := 264) dX12_pipes_264 (fun x12 => ?_)
  refine j_iload (pc := 265) 0 dX12_pipes_265 rfl ?_
  refine j_iadd (pc := 267) dX12_pipes_267 ?_
  refine j_iastore (pc := 268) dX12_pipes_268 (fun z13 => ?_)
  refine j_iinc (pc := 269) (n0 := 3) (v0 := v3 + 1) (lv2 := [(3, .int (v3 + 1)), (5, .int t0), (0, .ref (mB Γ + r0)), (1, .long w1), (4, .int v4)]) dX12_pipes_269 rfl rfl (by decide) rfl ?_
  refine j_goto (pc := 272) 152 dX12_pipes_272 (by decide) ?_
  exact J.sub [2, 3, 0] rfl (hL152 r0 w1 (v3 + 1) z13)
theorem j_X12_pipes_L152 {l : Launch} {Γ : Am}   : ∀ (f : Nat), ∀ (r0 : Nat) (w1 : Int64) (v3 : Int32) (z : Hp), J l Γ mi_X12_pipes cvV 0 0 152 [(0, .ref (mB Γ + r0)), (1, .long w1), (3, .int v3)] [] z (m_X12_pipes_L152  f r0 w1 v3 z) := by
  intro f
  induction f with
  | zero => intro r0 w1 v3 z; exact J.none
  | succ f hL152 =>
    intro r0 w1 v3 z
    rw [m_X12_pipes_L152]
    refine j_iload_n (pc := 152) 2 dX12_pipes_152 rfl rfl ?_
    refine j_aload_n (pc := 153) 0 dX12_pipes_153 rfl rfl ?_
    refine j_getR (pc := 154) ok_X12 (by decide) rfl w_1239 dX12_pipes_154 (fun a14 => ?_)
    refine j_iconst (pc := 157) (v := 2) dX12_pipes_157 (by decide) ?_
    refine j_iaload (pc := 158) dX12_pipes_158 (fun x15 => ?_)
    refine j_icmp_ge (pc := 159) 275 dX12_pipes_159 (by decide) ?_ ?_
    · exact j_return (pc := 275) dX12_pipes_275 rfl
    refine j_sipush (pc := 162) (v := 624) dX12_pipes_162 (by decide) ?_
    refine j_bipush (pc := 165) (v := 6) dX12_pipes_165 (by decide) ?_
    refine j_iload_n (pc := 167) 2 dX12_pipes_167 rfl rfl ?_
    refine j_imul (pc := 168) dX12_pipes_168 ?_
    refine j_iadd (pc := 169) dX12_pipes_169 ?_
    refine j_istore (pc := 170) (lv2 := [(4, .int (624 + (6 * v3))), (0, .ref (mB Γ + r0)), (1, .long w1), (3, .int v3)]) dX12_pipes_170 (by decide) rfl ?_
    refine j_lload_n (pc := 172) 2 dX12_pipes_172 rfl rfl ?_
    refine j_aload_n (pc := 173) 1 dX12_pipes_173 rfl rfl ?_
    refine j_getR (pc := 174) ok_X12 (by decide) rfl w_1239 dX12_pipes_174 (fun a16 => ?_)
    refine j_bipush (pc := 177) (v := 6) dX12_pipes_177 (by decide) ?_
    refine j_iaload (pc := 179) dX12_pipes_179 (fun x17 => ?_)
    refine j_i2l (pc := 180) dX12_pipes_180 ?_
    refine j_lcmp (pc := 181) dX12_pipes_181 ?_
    refine j_if_le (pc := 182) 207 dX12_pipes_182 (by decide) ?_ ?_
    · refine j_aload_n (pc := 207) 1 dX12_pipes_207 rfl rfl ?_
      refine j_getR (pc := 208) ok_X12 (by decide) rfl w_1263 dX12_pipes_208 (fun a18 => ?_)
      refine j_iload_n (pc := 211) 3 dX12_pipes_211 rfl rfl ?_
      refine j_iaload (pc := 212) dX12_pipes_212 (fun x19 => ?_)
      exact J.sub [1, 2, 3, 0] rfl ((j_X12_pipes_B213 hL152) r0 w1 v3 (624 + (6 * v3)) x19 z)
    refine j_aload_n (pc := 185) 1 dX12_pipes_185 rfl rfl ?_
    refine j_getR (pc := 186) ok_X12 (by decide) rfl w_1263 dX12_pipes_186 (fun a20 => ?_)
    refine j_iload_n (pc := 189) 3 dX12_pipes_189 rfl rfl ?_
    refine j_iaload (pc := 190) dX12_pipes_190 (fun x21 => ?_)
    refine j_i2l (pc := 191) dX12_pipes_191 ?_
    refine j_aload_n (pc := 192) 1 dX12_pipes_192 rfl rfl ?_
    refine j_getR (pc := 193) ok_X12 (by decide) rfl w_1239 dX12_pipes_193 (fun a22 => ?_)
    refine j_bipush (pc := 196) (v := 6) dX12_pipes_196 (by decide) ?_
    refine j_iaload (pc := 198) dX12_pipes_198 (fun x23 => ?_)
    refine j_i2l (pc := 199) dX12_pipes_199 ?_
    refine j_lmul (pc := 200) dX12_pipes_200 ?_
    refine j_lload_n (pc := 201) 2 dX12_pipes_201 rfl rfl ?_
    refine j_ite (fun _ => J.none) (fun h24 => ?_)
    refine j_ldiv (pc := 202) dX12_pipes_202 h24 ?_
    refine j_l2i (pc := 203) dX12_pipes_203 ?_
    refine j_goto (pc := 204) 213 dX12_pipes_204 (by decide) ?_
    exact J.sub [1, 2, 3, 0] rfl ((j_X12_pipes_B213 hL152) r0 w1 v3 (624 + (6 * v3)) (Int64.toInt32 (((Int32.toInt64 x21) * (Int32.toInt64 x23)) / w1)) z)
theorem j_X12_pipes_B150 {l : Launch} {Γ : Am}   : ∀ (r0 : Nat) (w1 : Int64) (z : Hp), J l Γ mi_X12_pipes cvV 0 0 150 [(0, .ref (mB Γ + r0)), (1, .long w1)] [] z (m_X12_pipes_B150  r0 w1 z) := by
  intro r0 w1 z
  unfold m_X12_pipes_B150
  refine j_iconst (pc := 150) (v := 0) dX12_pipes_150 (by decide) ?_
  refine j_istore_n (pc := 151) (lv2 := [(3, .int 0), (0, .ref (mB Γ + r0)), (1, .long w1)]) dX12_pipes_151 rfl (by decide) rfl ?_
  exact J.sub [1, 2, 0] rfl ((j_X12_pipes_L152 FU) r0 w1 0 z)
theorem j_X12_pipes_B133 {l : Launch} {Γ : Am} {k4 : Nat → Int64 → Int32 → Hp → Option (Unit × Hp)} (hL4 : ∀ (r0 : Nat) (w1 : Int64) (v3 : Int32) (z : Hp), J l Γ mi_X12_pipes cvV 0 0 4 [(0, .ref (mB Γ + r0)), (1, .long w1), (3, .int v3)] [] z (k4 r0 w1 v3 z)) : ∀ (r0 : Nat) (w1 : Int64) (v3 : Int32) (t0 : Int32) (t1 : Int32) (b2 : Nat) (z : Hp), J l Γ mi_X12_pipes cvV 0 0 133 [(0, .ref (mB Γ + r0)), (1, .long w1), (3, .int v3)] [.int t0, .int t1, .ref (mB Γ + b2)] z (m_X12_pipes_B133 k4 r0 w1 v3 t0 t1 b2 z) := by
  intro r0 w1 v3 t0 t1 b2 z
  unfold m_X12_pipes_B133
  refine j_iastore (pc := 133) dX12_pipes_133 (fun z25 => ?_)
  refine j_lload_n (pc := 134) 1 dX12_pipes_134 rfl rfl ?_
  refine j_aload_n (pc := 135) 0 dX12_pipes_135 rfl rfl ?_
  refine j_getR (pc := 136) ok_X12 (by decide) rfl w_1263 dX12_pipes_136 (fun a26 => ?_)
  refine j_iload_n (pc := 139) 2 dX12_pipes_139 rfl rfl ?_
  refine j_iaload (pc := 140) dX12_pipes_140 (fun x27 => ?_)
  refine j_i2l (pc := 141) dX12_pipes_141 ?_
  refine j_ladd (pc := 142) dX12_pipes_142 ?_
  refine j_lstore_n (pc := 143) (lv2 := [(1, .long (w1 + (Int32.toInt64 x27))), (0, .ref (mB Γ + r0)), (3, .int v3)]) dX12_pipes_143 rfl (by decide) rfl ?_
  refine j_iinc (pc := 144) (n0 := 2) (v0 := v3 + 1) (lv2 := [(3, .int (v3 + 1)), (1, .long (w1 + (Int32.toInt64 x27))), (0, .ref (mB Γ + r0))]) dX12_pipes_144 rfl rfl (by decide) rfl ?_
  refine j_goto (pc := 147) 4 dX12_pipes_147 (by decide) ?_
  exact J.sub [2, 1, 0] rfl (hL4 r0 (w1 + (Int32.toInt64 x27)) (v3 + 1) z25)
theorem j_X12_pipes_B83 {l : Launch} {Γ : Am} {k4 : Nat → Int64 → Int32 → Hp → Option (Unit × Hp)} (hL4 : ∀ (r0 : Nat) (w1 : Int64) (v3 : Int32) (z : Hp), J l Γ mi_X12_pipes cvV 0 0 4 [(0, .ref (mB Γ + r0)), (1, .long w1), (3, .int v3)] [] z (k4 r0 w1 v3 z)) : ∀ (r0 : Nat) (w1 : Int64) (v3 : Int32) (v4 : Int32) (v5 : Int32) (t0 : Int32) (z : Hp), J l Γ mi_X12_pipes cvV 0 0 83 [(0, .ref (mB Γ + r0)), (1, .long w1), (3, .int v3), (4, .int v4), (5, .int v5)] [.int t0] z (m_X12_pipes_B83 k4 r0 w1 v3 v4 v5 t0 z) := by
  intro r0 w1 v3 v4 v5 t0 z
  unfold m_X12_pipes_B83
  refine j_istore (pc := 83) (lv2 := [(6, .int t0), (0, .ref (mB Γ + r0)), (1, .long w1), (3, .int v3), (4, .int v4), (5, .int v5)]) dX12_pipes_83 (by decide) rfl ?_
  refine j_aload_n (pc := 85) 1 dX12_pipes_85 rfl rfl ?_
  refine j_getR (pc := 86) ok_X12 (by decide) rfl w_1263 dX12_pipes_86 (fun a28 => ?_)
  refine j_iload_n (pc := 89) 3 dX12_pipes_89 rfl rfl ?_
  refine j_iload (pc := 90) 0 dX12_pipes_90 rfl ?_
  refine j_if_eq (pc := 92) 132 dX12_pipes_92 (by decide) ?_ ?_
  · refine j_iconst (pc := 132) (v := 0) dX12_pipes_132 (by decide) ?_
    exact J.sub [1, 2, 3] rfl ((j_X12_pipes_B133 hL4) r0 w1 v3 0 v3 a28 z)
  refine j_aload_n (pc := 95) 1 dX12_pipes_95 rfl rfl ?_
  refine j_getR (pc := 96) ok_X12 (by decide) rfl w_1239 dX12_pipes_96 (fun a29 => ?_)
  refine j_sipush (pc := 99) (v := 192) dX12_pipes_99 (by decide) ?_
  refine j_iload (pc := 102) 5 dX12_pipes_102 rfl ?_
  refine j_iadd (pc := 104) dX12_pipes_104 ?_
  refine j_iaload (pc := 105) dX12_pipes_105 (fun x30 => ?_)
  refine j_aload_n (pc := 106) 1 dX12_pipes_106 rfl rfl ?_
  refine j_getR (pc := 107) ok_X12 (by decide) rfl w_1239 dX12_pipes_107 (fun a31 => ?_)
  refine j_iload (pc := 110) 4 dX12_pipes_110 rfl ?_
  refine j_iconst (pc := 112) (v := 1) dX12_pipes_112 (by decide) ?_
  refine j_iadd (pc := 113) dX12_pipes_113 ?_
  refine j_iaload (pc := 114) dX12_pipes_114 (fun x32 => ?_)
  refine j_isub (pc := 115) dX12_pipes_115 ?_
  refine j_aload_n (pc := 116) 1 dX12_pipes_116 rfl rfl ?_
  refine j_getR (pc := 117) ok_X12 (by decide) rfl w_1239 dX12_pipes_117 (fun a33 => ?_)
  refine j_iload (pc := 120) 4 dX12_pipes_120 rfl ?_
  refine j_iconst (pc := 122) (v := 2) dX12_pipes_122 (by decide) ?_
  refine j_iadd (pc := 123) dX12_pipes_123 ?_
  refine j_iaload (pc := 124) dX12_pipes_124 (fun x34 => ?_)
  refine j_imul (pc := 125) dX12_pipes_125 ?_
  refine j_bipush (pc := 126) (v := 100) dX12_pipes_126 (by decide) ?_
  refine j_idiv (pc := 128) dX12_pipes_128 (by decide) ?_
  refine j_goto (pc := 129) 133 dX12_pipes_129 (by decide) ?_
  exact J.sub [1, 2, 3] rfl ((j_X12_pipes_B133 hL4) r0 w1 v3 (((x30 - x32) * x34) / 100) v3 a28 z)
theorem j_X12_pipes_B82 {l : Launch} {Γ : Am} {k4 : Nat → Int64 → Int32 → Hp → Option (Unit × Hp)} (hL4 : ∀ (r0 : Nat) (w1 : Int64) (v3 : Int32) (z : Hp), J l Γ mi_X12_pipes cvV 0 0 4 [(0, .ref (mB Γ + r0)), (1, .long w1), (3, .int v3)] [] z (k4 r0 w1 v3 z)) : ∀ (r0 : Nat) (w1 : Int64) (v3 : Int32) (v4 : Int32) (v5 : Int32) (z : Hp), J l Γ mi_X12_pipes cvV 0 0 82 [(0, .ref (mB Γ + r0)), (1, .long w1), (3, .int v3), (4, .int v4), (5, .int v5)] [] z (m_X12_pipes_B82 k4 r0 w1 v3 v4 v5 z) := by
  intro r0 w1 v3 v4 v5 z
  unfold m_X12_pipes_B82
  refine j_iconst (pc := 82) (v := 0) dX12_pipes_82 (by decide) ?_
  exact J.sub [0, 1, 2, 3, 4] rfl ((j_X12_pipes_B83 hL4) r0 w1 v3 v4 v5 0 z)
theorem j_X12_pipes_L4 {l : Launch} {Γ : Am} {k150 : Nat → Int64 → Hp → Option (Unit × Hp)} (hL150 : ∀ (r0 : Nat) (w1 : Int64) (z : Hp), J l Γ mi_X12_pipes cvV 0 0 150 [(0, .ref (mB Γ + r0)), (1, .long w1)] [] z (k150 r0 w1 z)) : ∀ (f : Nat), ∀ (r0 : Nat) (w1 : Int64) (v3 : Int32) (z : Hp), J l Γ mi_X12_pipes cvV 0 0 4 [(0, .ref (mB Γ + r0)), (1, .long w1), (3, .int v3)] [] z (m_X12_pipes_L4 k150 f r0 w1 v3 z) := by
  intro f
  induction f with
  | zero => intro r0 w1 v3 z; exact J.none
  | succ f hL4 =>
    intro r0 w1 v3 z
    rw [m_X12_pipes_L4]
    refine j_iload_n (pc := 4) 2 dX12_pipes_4 rfl rfl ?_
    refine j_aload_n (pc := 5) 0 dX12_pipes_5 rfl rfl ?_
    refine j_getR (pc := 6) ok_X12 (by decide) rfl w_1239 dX12_pipes_6 (fun a35 => ?_)
    refine j_iconst (pc := 9) (v := 2) dX12_pipes_9 (by decide) ?_
    refine j_iaload (pc := 10) dX12_pipes_10 (fun x36 => ?_)
    refine j_icmp_ge (pc := 11) 150 dX12_pipes_11 (by decide) ?_ ?_
    · exact J.sub [0, 1] rfl (hL150 r0 w1 z)
    refine j_sipush (pc := 14) (v := 624) dX12_pipes_14 (by decide) ?_
    refine j_bipush (pc := 17) (v := 6) dX12_pipes_17 (by decide) ?_
    refine j_iload_n (pc := 19) 2 dX12_pipes_19 rfl rfl ?_
    refine j_imul (pc := 20) dX12_pipes_20 ?_
    refine j_iadd (pc := 21) dX12_pipes_21 ?_
    refine j_istore (pc := 22) (lv2 := [(4, .int (624 + (6 * v3))), (0, .ref (mB Γ + r0)), (1, .long w1), (3, .int v3)]) dX12_pipes_22 (by decide) rfl ?_
    refine j_aload_n (pc := 24) 1 dX12_pipes_24 rfl rfl ?_
    refine j_getR (pc := 25) ok_X12 (by decide) rfl w_1239 dX12_pipes_25 (fun a37 => ?_)
    refine j_iload (pc := 28) 0 dX12_pipes_28 rfl ?_
    refine j_iaload (pc := 30) dX12_pipes_30 (fun x38 => ?_)
    refine j_istore (pc := 31) (lv2 := [(5, .int x38), (4, .int (624 + (6 * v3))), (0, .ref (mB Γ + r0)), (1, .long w1), (3, .int v3)]) dX12_pipes_31 (by decide) rfl ?_
    refine j_aload_n (pc := 33) 2 dX12_pipes_33 rfl rfl ?_
    refine j_getR (pc := 34) ok_X12 (by decide) rfl w_1239 dX12_pipes_34 (fun a39 => ?_)
    refine j_iload (pc := 37) 1 dX12_pipes_37 rfl ?_
    refine j_iconst (pc := 39) (v := 3) dX12_pipes_39 (by decide) ?_
    refine j_iadd (pc := 40) dX12_pipes_40 ?_
    refine j_iaload (pc := 41) dX12_pipes_41 (fun x40 => ?_)
    refine j_iconst (pc := 42) (v := 1) dX12_pipes_42 (by decide) ?_
    refine j_icmp_ne (pc := 43) 82 dX12_pipes_43 (by decide) ?_ ?_
    · exact J.sub [2, 3, 4, 1, 0] rfl ((j_X12_pipes_B82 hL4) r0 w1 v3 (624 + (6 * v3)) x38 z)
    refine j_aload_n (pc := 46) 2 dX12_pipes_46 rfl rfl ?_
    refine j_iload (pc := 47) 0 dX12_pipes_47 rfl ?_
    refine j_isC (fun h43 => ?_)
    refine j_callV_I (pc := 49) (as := [.int x38]) (mc2 := 0) (ms2 := 0) (ct_X12_isDug _ _ _) h43 rfl cw_X12_pipes_102 dX12_pipes_49 (Nat.le_of_ble_eq_true rfl) rfl (by decide) (by decide) (fun x42 z41 => ?_)
    refine j_if_ne (pc := 52) 82 dX12_pipes_52 (by decide) ?_ ?_
    · exact J.sub [2, 3, 4, 1, 0] rfl ((j_X12_pipes_B82 hL4) r0 w1 v3 (624 + (6 * v3)) x38 z41)
    refine j_aload_n (pc := 55) 2 dX12_pipes_55 rfl rfl ?_
    refine j_getR (pc := 56) ok_X12 (by decide) rfl w_1239 dX12_pipes_56 (fun a44 => ?_)
    refine j_sipush (pc := 59) (v := 192) dX12_pipes_59 (by decide) ?_
    refine j_iload (pc := 62) 0 dX12_pipes_62 rfl ?_
    refine j_iadd (pc := 64) dX12_pipes_64 ?_
    refine j_iaload (pc := 65) dX12_pipes_65 (fun x45 => ?_)
    refine j_aload_n (pc := 66) 2 dX12_pipes_66 rfl rfl ?_
    refine j_getR (pc := 67) ok_X12 (by decide) rfl w_1239 dX12_pipes_67 (fun a46 => ?_)
    refine j_iload (pc := 70) 1 dX12_pipes_70 rfl ?_
    refine j_iconst (pc := 72) (v := 1) dX12_pipes_72 (by decide) ?_
    refine j_iadd (pc := 73) dX12_pipes_73 ?_
    refine j_iaload (pc := 74) dX12_pipes_74 (fun x47 => ?_)
    refine j_icmp_le (pc := 75) 82 dX12_pipes_75 (by decide) ?_ ?_
    · exact J.sub [2, 3, 4, 1, 0] rfl ((j_X12_pipes_B82 hL4) r0 w1 v3 (624 + (6 * v3)) x38 z41)
    refine j_iconst (pc := 78) (v := 1) dX12_pipes_78 (by decide) ?_
    refine j_goto (pc := 79) 83 dX12_pipes_79 (by decide) ?_
    exact J.sub [2, 3, 4, 1, 0] rfl ((j_X12_pipes_B83 hL4) r0 w1 v3 (624 + (6 * v3)) x38 1 z41)
theorem ct_X12_pipes {l : Launch} {Γ : Am} (r0 : Nat) (z : Hp) : Ct l Γ yX12_pipes mi_X12_pipes cvV [.ref (mB Γ + r0)] z (m_X12_pipes r0 z) := by
  refine Ct.ofJ (by decide) ⟨rfl, rfl⟩ (Nat.le_of_ble_eq_true rfl) ?_
  unfold m_X12_pipes
  show J l Γ mi_X12_pipes cvV 0 0 0 [(0, .ref (mB Γ + r0))] [] z _
  refine j_lconst (pc := 0) (v := 0) dX12_pipes_0 (by decide) ?_
  refine j_lstore_n (pc := 1) (lv2 := [(1, .long 0), (0, .ref (mB Γ + r0))]) dX12_pipes_1 rfl (by decide) rfl ?_
  refine j_iconst (pc := 2) (v := 0) dX12_pipes_2 (by decide) ?_
  refine j_istore_n (pc := 3) (lv2 := [(3, .int 0), (1, .long 0), (0, .ref (mB Γ + r0))]) dX12_pipes_3 rfl (by decide) rfl ?_
  exact J.sub [2, 1, 0] rfl ((j_X12_pipes_L4 j_X12_pipes_B150 FU) r0 0 0 z)
theorem dX12_does_0 : decode cX12_does 0 = .ok (.aload_n 0, 1) := by decide +kernel
theorem dX12_does_1 : decode cX12_does 1 = .ok (.iload_n 1, 1) := by decide +kernel
theorem dX12_does_2 : decode cX12_does 2 = .ok (.iconst 3, 1) := by decide +kernel
theorem dX12_does_3 : decode cX12_does 3 = .ok (.invokevirtual 106, 3) := by decide +kernel
theorem dX12_does_6 : decode cX12_does 6 = .ok (.istore_n 2, 1) := by decide +kernel
theorem dX12_does_7 : decode cX12_does 7 = .ok (.aload_n 0, 1) := by decide +kernel
theorem dX12_does_8 : decode cX12_does 8 = .ok (.getfield 46, 3) := by decide +kernel
theorem dX12_does_11 : decode cX12_does 11 = .ok (.iload_n 1, 1) := by decide +kernel
theorem dX12_does_12 : decode cX12_does 12 = .ok (.iaload, 1) := by decide +kernel
theorem dX12_does_13 : decode cX12_does 13 = .ok (.istore_n 3, 1) := by decide +kernel
theorem dX12_does_14 : decode cX12_does 14 = .ok (.iload_n 3, 1) := by decide +kernel
theorem dX12_does_15 : decode cX12_does 15 = .ok (.ifCond .ge 88, 3) := by decide +kernel
theorem dX12_does_18 : decode cX12_does 18 = .ok (.iload_n 3, 1) := by decide +kernel
theorem dX12_does_19 : decode cX12_does 19 = .ok (.ineg, 1) := by decide +kernel
theorem dX12_does_20 : decode cX12_does 20 = .ok (.iconst 0, 1) := by decide +kernel
theorem dX12_does_21 : decode cX12_does 21 = .ok (.aload_n 0, 1) := by decide +kernel
theorem dX12_does_22 : decode cX12_does 22 = .ok (.getfield 13, 3) := by decide +kernel
theorem dX12_does_25 : decode cX12_does 25 = .ok (.sipush 192, 3) := by decide +kernel
theorem dX12_does_28 : decode cX12_does 28 = .ok (.iload_n 1, 1) := by decide +kernel
theorem dX12_does_29 : decode cX12_does 29 = .ok (.iadd, 1) := by decide +kernel
theorem dX12_does_30 : decode cX12_does 30 = .ok (.iaload, 1) := by decide +kernel
theorem dX12_does_31 : decode cX12_does 31 = .ok (.iload_n 2, 1) := by decide +kernel
theorem dX12_does_32 : decode cX12_does 32 = .ok (.isub, 1) := by decide +kernel
theorem dX12_does_33 : decode cX12_does 33 = .ok (.invokestatic 310, 3) := by decide +kernel
theorem dX12_does_36 : decode cX12_does 36 = .ok (.invokestatic 153, 3) := by decide +kernel
theorem dX12_does_39 : decode cX12_does 39 = .ok (.istore 4, 2) := by decide +kernel
theorem dX12_does_41 : decode cX12_does 41 = .ok (.iload_n 3, 1) := by decide +kernel
theorem dX12_does_42 : decode cX12_does 42 = .ok (.ineg, 1) := by decide +kernel
theorem dX12_does_43 : decode cX12_does 43 = .ok (.iload 4, 2) := by decide +kernel
theorem dX12_does_45 : decode cX12_does 45 = .ok (.isub, 1) := by decide +kernel
theorem dX12_does_46 : decode cX12_does 46 = .ok (.aload_n 0, 1) := by decide +kernel
theorem dX12_does_47 : decode cX12_does 47 = .ok (.iload_n 1, 1) := by decide +kernel
theorem dX12_does_48 : decode cX12_does 48 = .ok (.iconst 2, 1) := by decide +kernel
theorem dX12_does_49 : decode cX12_does 49 = .ok (.invokevirtual 106, 3) := by decide +kernel
theorem dX12_does_52 : decode cX12_does 52 = .ok (.aload_n 0, 1) := by decide +kernel
theorem dX12_does_53 : decode cX12_does 53 = .ok (.getfield 13, 3) := by decide +kernel
theorem dX12_does_56 : decode cX12_does 56 = .ok (.sipush 336, 3) := by decide +kernel
theorem dX12_does_59 : decode cX12_does 59 = .ok (.iload_n 1, 1) := by decide +kernel
theorem dX12_does_60 : decode cX12_does 60 = .ok (.iadd, 1) := by decide +kernel
theorem dX12_does_61 : decode cX12_does 61 = .ok (.iaload, 1) := by decide +kernel
theorem dX12_does_62 : decode cX12_does 62 = .ok (.isub, 1) := by decide +kernel
theorem dX12_does_63 : decode cX12_does 63 = .ok (.invokestatic 153, 3) := by decide +kernel
theorem dX12_does_66 : decode cX12_does 66 = .ok (.istore 5, 2) := by decide +kernel
theorem dX12_does_68 : decode cX12_does 68 = .ok (.aload_n 0, 1) := by decide +kernel
theorem dX12_does_69 : decode cX12_does 69 = .ok (.getfield 13, 3) := by decide +kernel
theorem dX12_does_72 : decode cX12_does 72 = .ok (.sipush 336, 3) := by decide +kernel
theorem dX12_does_75 : decode cX12_does 75 = .ok (.iload_n 1, 1) := by decide +kernel
theorem dX12_does_76 : decode cX12_does 76 = .ok (.iadd, 1) := by decide +kernel
theorem dX12_does_77 : decode cX12_does 77 = .ok (.dup2, 1) := by decide +kernel
theorem dX12_does_78 : decode cX12_does 78 = .ok (.iaload, 1) := by decide +kernel
theorem dX12_does_79 : decode cX12_does 79 = .ok (.iload 5, 2) := by decide +kernel
theorem dX12_does_81 : decode cX12_does 81 = .ok (.iadd, 1) := by decide +kernel
theorem dX12_does_82 : decode cX12_does 82 = .ok (.iastore, 1) := by decide +kernel
theorem dX12_does_83 : decode cX12_does 83 = .ok (.aload_n 0, 1) := by decide +kernel
theorem dX12_does_84 : decode cX12_does 84 = .ok (.getfield 13, 3) := by decide +kernel
theorem dX12_does_87 : decode cX12_does 87 = .ok (.sipush 192, 3) := by decide +kernel
theorem dX12_does_90 : decode cX12_does 90 = .ok (.iload_n 1, 1) := by decide +kernel
theorem dX12_does_91 : decode cX12_does 91 = .ok (.iadd, 1) := by decide +kernel
theorem dX12_does_92 : decode cX12_does 92 = .ok (.dup2, 1) := by decide +kernel
theorem dX12_does_93 : decode cX12_does 93 = .ok (.iaload, 1) := by decide +kernel
theorem dX12_does_94 : decode cX12_does 94 = .ok (.iload_n 3, 1) := by decide +kernel
theorem dX12_does_95 : decode cX12_does 95 = .ok (.iload 5, 2) := by decide +kernel
theorem dX12_does_97 : decode cX12_does 97 = .ok (.iadd, 1) := by decide +kernel
theorem dX12_does_98 : decode cX12_does 98 = .ok (.iadd, 1) := by decide +kernel
theorem dX12_does_99 : decode cX12_does 99 = .ok (.iastore, 1) := by decide +kernel
theorem dX12_does_100 : decode cX12_does 100 = .ok (.goto 76, 3) := by decide +kernel
theorem dX12_does_103 : decode cX12_does 103 = .ok (.iload_n 3, 1) := by decide +kernel
theorem dX12_does_104 : decode cX12_does 104 = .ok (.iconst 0, 1) := by decide +kernel
theorem dX12_does_105 : decode cX12_does 105 = .ok (.iload_n 2, 1) := by decide +kernel
theorem dX12_does_106 : decode cX12_does 106 = .ok (.aload_n 0, 1) := by decide +kernel
theorem dX12_does_107 : decode cX12_does 107 = .ok (.getfield 13, 3) := by decide +kernel
theorem dX12_does_110 : decode cX12_does 110 = .ok (.sipush 192, 3) := by decide +kernel
theorem dX12_does_113 : decode cX12_does 113 = .ok (.iload_n 1, 1) := by decide +kernel
theorem dX12_does_114 : decode cX12_does 114 = .ok (.iadd, 1) := by decide +kernel
theorem dX12_does_115 : decode cX12_does 115 = .ok (.iaload, 1) := by decide +kernel
theorem dX12_does_116 : decode cX12_does 116 = .ok (.isub, 1) := by decide +kernel
theorem dX12_does_117 : decode cX12_does 117 = .ok (.invokestatic 310, 3) := by decide +kernel
theorem dX12_does_120 : decode cX12_does 120 = .ok (.invokestatic 153, 3) := by decide +kernel
theorem dX12_does_123 : decode cX12_does 123 = .ok (.istore 4, 2) := by decide +kernel
theorem dX12_does_125 : decode cX12_does 125 = .ok (.iload_n 3, 1) := by decide +kernel
theorem dX12_does_126 : decode cX12_does 126 = .ok (.iload 4, 2) := by decide +kernel
theorem dX12_does_128 : decode cX12_does 128 = .ok (.isub, 1) := by decide +kernel
theorem dX12_does_129 : decode cX12_does 129 = .ok (.aload_n 0, 1) := by decide +kernel
theorem dX12_does_130 : decode cX12_does 130 = .ok (.getfield 13, 3) := by decide +kernel
theorem dX12_does_133 : decode cX12_does 133 = .ok (.sipush 336, 3) := by decide +kernel
theorem dX12_does_136 : decode cX12_does 136 = .ok (.iload_n 1, 1) := by decide +kernel
theorem dX12_does_137 : decode cX12_does 137 = .ok (.iadd, 1) := by decide +kernel
theorem dX12_does_138 : decode cX12_does 138 = .ok (.iaload, 1) := by decide +kernel
theorem dX12_does_139 : decode cX12_does 139 = .ok (.invokestatic 153, 3) := by decide +kernel
theorem dX12_does_142 : decode cX12_does 142 = .ok (.istore 5, 2) := by decide +kernel
theorem dX12_does_144 : decode cX12_does 144 = .ok (.aload_n 0, 1) := by decide +kernel
theorem dX12_does_145 : decode cX12_does 145 = .ok (.getfield 13, 3) := by decide +kernel
theorem dX12_does_148 : decode cX12_does 148 = .ok (.sipush 336, 3) := by decide +kernel
theorem dX12_does_151 : decode cX12_does 151 = .ok (.iload_n 1, 1) := by decide +kernel
theorem dX12_does_152 : decode cX12_does 152 = .ok (.iadd, 1) := by decide +kernel
theorem dX12_does_153 : decode cX12_does 153 = .ok (.dup2, 1) := by decide +kernel
theorem dX12_does_154 : decode cX12_does 154 = .ok (.iaload, 1) := by decide +kernel
theorem dX12_does_155 : decode cX12_does 155 = .ok (.iload 5, 2) := by decide +kernel
theorem dX12_does_157 : decode cX12_does 157 = .ok (.isub, 1) := by decide +kernel
theorem dX12_does_158 : decode cX12_does 158 = .ok (.iastore, 1) := by decide +kernel
theorem dX12_does_159 : decode cX12_does 159 = .ok (.aload_n 0, 1) := by decide +kernel
theorem dX12_does_160 : decode cX12_does 160 = .ok (.getfield 13, 3) := by decide +kernel
theorem dX12_does_163 : decode cX12_does 163 = .ok (.sipush 192, 3) := by decide +kernel
theorem dX12_does_166 : decode cX12_does 166 = .ok (.iload_n 1, 1) := by decide +kernel
theorem dX12_does_167 : decode cX12_does 167 = .ok (.iadd, 1) := by decide +kernel
theorem dX12_does_168 : decode cX12_does 168 = .ok (.dup2, 1) := by decide +kernel
theorem dX12_does_169 : decode cX12_does 169 = .ok (.iaload, 1) := by decide +kernel
theorem dX12_does_170 : decode cX12_does 170 = .ok (.iload_n 3, 1) := by decide +kernel
theorem dX12_does_171 : decode cX12_does 171 = .ok (.iload 5, 2) := by decide +kernel
theorem dX12_does_173 : decode cX12_does 173 = .ok (.isub, 1) := by decide +kernel
theorem dX12_does_174 : decode cX12_does 174 = .ok (.iadd, 1) := by decide +kernel
theorem dX12_does_175 : decode cX12_does 175 = .ok (.iastore, 1) := by decide +kernel
theorem dX12_does_176 : decode cX12_does 176 = .ok (.return_, 1) := by decide +kernel
theorem cw_X12_does_106 : CwV mi_X12_does mi_X12_groundOf yX12_groundOf RX12 106 2 := ⟨⟨w_1533, w_1535, w_69, w_108, w_1536⟩, ⟨by decide, by decide⟩, by decide +kernel, by decide, by decide⟩
theorem cw_X12_does_310 : CwS mi_X12_does mi_J9_max_7cf53 yJ9_max_7cf53 310 2 := ⟨⟨w_1549, w_834, w_109, w_835⟩, ⟨by decide, by decide⟩, by decide +kernel, by decide, by decide⟩
theorem cw_X12_does_153 : CwS mi_X12_does mi_J9_min_7cf53 yJ9_min_7cf53 153 2 := ⟨⟨w_1397, w_604, w_109, w_605⟩, ⟨by decide, by decide⟩, by decide +kernel, by decide, by decide⟩
theorem ct_X12_does {l : Launch} {Γ : Am} (r0 : Nat) (v1 : Int32) (z : Hp) : Ct l Γ yX12_does mi_X12_does cvV [.ref (mB Γ + r0), .int v1] z (m_X12_does r0 v1 z) := by
  refine Ct.ofJ (by decide) ⟨rfl, rfl⟩ (Nat.le_of_ble_eq_true rfl) ?_
  unfold m_X12_does
  show J l Γ mi_X12_does cvV 0 0 0 [(0, .ref (mB Γ + r0)), (1, .int v1)] [] z _
  refine j_aload_n (pc := 0) 0 dX12_does_0 rfl rfl ?_
  refine j_iload_n (pc := 1) 1 dX12_does_1 rfl rfl ?_
  refine j_iconst (pc := 2) (v := 3) dX12_does_2 (by decide) ?_
  refine j_isC (fun h3 => ?_)
  refine j_callV_I (pc := 3) (as := [.int v1, .int 3]) (mc2 := 0) (ms2 := 0) (ct_X12_groundOf _ _ _ _) h3 rfl cw_X12_does_106 dX12_does_3 (Nat.le_of_ble_eq_true rfl) rfl (by decide) (by decide) (fun x2 z1 => ?_)
  refine j_istore_n (pc := 6) (lv2 := [(2, .int x2), (0, .ref (mB Γ + r0)), (1, .int v1)]) dX12_does_6 rfl (by decide) rfl ?_
  refine j_aload_n (pc := 7) 1 dX12_does_7 rfl rfl ?_
  refine j_getR (pc := 8) ok_X12 (by decide) rfl w_1262 dX12_does_8 (fun a4 => ?_)
  refine j_iload_n (pc := 11) 2 dX12_does_11 rfl rfl ?_
  refine j_iaload (pc := 12) dX12_does_12 (fun x5 => ?_)
  refine j_istore_n (pc := 13) (lv2 := [(3, .int x5), (2, .int x2), (0, .ref (mB Γ + r0)), (1, .int v1)]) dX12_does_13 rfl (by decide) rfl ?_
  refine j_iload_n (pc := 14) 0 dX12_does_14 rfl rfl ?_
  refine j_if_ge (pc := 15) 103 dX12_does_15 (by decide) ?_ ?_
  · refine j_iload_n (pc := 103) 0 dX12_does_103 rfl rfl ?_
    refine j_iconst (pc := 104) (v := 0) dX12_does_104 (by decide) ?_
    refine j_iload_n (pc := 105) 1 dX12_does_105 rfl rfl ?_
    refine j_aload_n (pc := 106) 2 dX12_does_106 rfl rfl ?_
    refine j_getR (pc := 107) ok_X12 (by decide) rfl w_1239 dX12_does_107 (fun a6 => ?_)
    refine j_sipush (pc := 110) (v := 192) dX12_does_110 (by decide) ?_
    refine j_iload_n (pc := 113) 3 dX12_does_113 rfl rfl ?_
    refine j_iadd (pc := 114) dX12_does_114 ?_
    refine j_iaload (pc := 115) dX12_does_115 (fun x7 => ?_)
    refine j_isub (pc := 116) dX12_does_116 ?_
    refine j_callS_I (pc := 117) (as := [.int 0, .int (x2 - x7)]) (mc2 := 0) (ms2 := 0) (ct_J9_max_7cf53 _ _ _) cw_X12_does_310 dX12_does_117 (Nat.le_of_ble_eq_true rfl) rfl (by decide) (by decide) (fun x9 z8 => ?_)
    refine j_callS_I (pc := 120) (as := [.int x5, .int x9]) (mc2 := 0) (ms2 := 0) (ct_J9_min_7cf53 _ _ _) cw_X12_does_153 dX12_does_120 (Nat.le_of_ble_eq_true rfl) rfl (by decide) (by decide) (fun x11 z10 => ?_)
    refine j_istore (pc := 123) (lv2 := [(4, .int x11), (3, .int x5), (2, .int x2), (0, .ref (mB Γ + r0)), (1, .int v1)]) dX12_does_123 (by decide) rfl ?_
    refine j_iload_n (pc := 125) 1 dX12_does_125 rfl rfl ?_
    refine j_iload (pc := 126) 0 dX12_does_126 rfl ?_
    refine j_isub (pc := 128) dX12_does_128 ?_
    refine j_aload_n (pc := 129) 3 dX12_does_129 rfl rfl ?_
    refine j_getR (pc := 130) ok_X12 (by decide) rfl w_1239 dX12_does_130 (fun a12 => ?_)
    refine j_sipush (pc := 133) (v := 336) dX12_does_133 (by decide) ?_
    refine j_iload_n (pc := 136) 4 dX12_does_136 rfl rfl ?_
    refine j_iadd (pc := 137) dX12_does_137 ?_
    refine j_iaload (pc := 138) dX12_does_138 (fun x13 => ?_)
    refine j_callS_I (pc := 139) (as := [.int (x5 - x11), .int x13]) (mc2 := 0) (ms2 := 0) (ct_J9_min_7cf53 _ _ _) cw_X12_does_153 dX12_does_139 (Nat.le_of_ble_eq_true rfl) rfl (by decide) (by decide) (fun x15 z14 => ?_)
    refine j_istore (pc := 142) (lv2 := [(5, .int x15), (4, .int x11), (3, .int x5), (2, .int x2), (0, .ref (mB Γ + r0)), (1, .int v1)]) dX12_does_142 (by decide) rfl ?_
    refine j_aload_n (pc := 144) 4 dX12_does_144 rfl rfl ?_
    refine j_getR (pc := 145) ok_X12 (by decide) rfl w_1239 dX12_does_145 (fun a16 => ?_)
    refine j_sipush (pc := 148) (v := 336) dX12_does_148 (by decide) ?_
    refine j_iload_n (pc := 151) 5 dX12_does_151 rfl rfl ?_
    refine j_iadd (pc := 152) dX12_does_152 ?_
    refine j_dup2 (pc := 153) dX12_does_153 rfl rfl ?_
    refine j_iaload (pc := 154) dX12_does_154 (fun x17 => ?_)
    refine j_iload (pc := 155) 0 dX12_does_155 rfl ?_
    refine j_isub (pc := 157) dX12_does_157 ?_
    refine j_iastore (pc := 158) dX12_does_158 (fun z18 => ?_)
    refine j_aload_n (pc := 159) 4 dX12_does_159 rfl rfl ?_
    refine j_getR (pc := 160) ok_X12 (by decide) rfl w_1239 dX12_does_160 (fun a19 => ?_)
    refine j_sipush (pc := 163) (v := 192) dX12_does_163 (by decide) ?_
    refine j_iload_n (pc := 166) 5 dX12_does_166 rfl rfl ?_
    refine j_iadd (pc := 167) dX12_does_167 ?_
    refine j_dup2 (pc := 168) dX12_does_168 rfl rfl ?_
    refine j_iaload (pc := 169) dX12_does_169 (fun x20 => ?_)
    refine j_iload_n (pc := 170) 2 dX12_does_170 rfl rfl ?_
    refine j_iload (pc := 171) 0 dX12_does_171 rfl ?_
    refine j_isub (pc := 173) dX12_does_173 ?_
    refine j_iadd (pc := 174) dX12_does_174 ?_
    refine j_iastore (pc := 175) dX12_does_175 (fun z21 => ?_)
    exact j_return (pc := 176) dX12_does_176 rfl
  refine j_iload_n (pc := 18) 0 dX12_does_18 rfl rfl ?_
  refine j_ineg (pc := 19) dX12_does_19 ?_
  refine j_iconst (pc := 20) (v := 0) dX12_does_20 (by decide) ?_
  refine j_aload_n (pc := 21) 2 dX12_does_21 rfl rfl ?_
  refine j_getR (pc := 22) ok_X12 (by decide) rfl w_1239 dX12_does_22 (fun a22 => ?_)
  refine j_sipush (pc := 25) (v := 192) dX12_does_25 (by decide) ?_
  refine j_iload_n (pc := 28) 3 dX12_does_28 rfl rfl ?_
  refine j_iadd (pc := 29) dX12_does_29 ?_
  refine j_iaload (pc := 30) dX12_does_30 (fun x23 => ?_)
  refine j_iload_n (pc := 31) 1 dX12_does_31 rfl rfl ?_
  refine j_isub (pc := 32) dX12_does_32 ?_
  refine j_callS_I (pc := 33) (as := [.int 0, .int (x23 - x2)]) (mc2 := 0) (ms2 := 0) (ct_J9_max_7cf53 _ _ _) cw_X12_does_310 dX12_does_33 (Nat.le_of_ble_eq_true rfl) rfl (by decide) (by decide) (fun x25 z24 => ?_)
  refine j_callS_I (pc := 36) (as := [.int (-x5), .int x25]) (mc2 := 0) (ms2 := 0) (ct_J9_min_7cf53 _ _ _) cw_X12_does_153 dX12_does_36 (Nat.le_of_ble_eq_true rfl) rfl (by decide) (by decide) (fun x27 z26 => ?_)
  refine j_istore (pc := 39) (lv2 := [(4, .int x27), (3, .int x5), (2, .int x2), (0, .ref (mB Γ + r0)), (1, .int v1)]) dX12_does_39 (by decide) rfl ?_
  refine j_iload_n (pc := 41) 1 dX12_does_41 rfl rfl ?_
  refine j_ineg (pc := 42) dX12_does_42 ?_
  refine j_iload (pc := 43) 0 dX12_does_43 rfl ?_
  refine j_isub (pc := 45) dX12_does_45 ?_
  refine j_aload_n (pc := 46) 3 dX12_does_46 rfl rfl ?_
  refine j_iload_n (pc := 47) 4 dX12_does_47 rfl rfl ?_
  refine j_iconst (pc := 48) (v := 2) dX12_does_48 (by decide) ?_
  refine j_isC (fun h30 => ?_)
  refine j_callV_I (pc := 49) (as := [.int v1, .int 2]) (mc2 := 0) (ms2 := 0) (ct_X12_groundOf _ _ _ _) h30 rfl cw_X12_does_106 dX12_does_49 (Nat.le_of_ble_eq_true rfl) rfl (by decide) (by decide) (fun x29 z28 => ?_)
  refine j_aload_n (pc := 52) 3 dX12_does_52 rfl rfl ?_
  refine j_getR (pc := 53) ok_X12 (by decide) rfl w_1239 dX12_does_53 (fun a31 => ?_)
  refine j_sipush (pc := 56) (v := 336) dX12_does_56 (by decide) ?_
  refine j_iload_n (pc := 59) 4 dX12_does_59 rfl rfl ?_
  refine j_iadd (pc := 60) dX12_does_60 ?_
  refine j_iaload (pc := 61) dX12_does_61 (fun x32 => ?_)
  refine j_isub (pc := 62) dX12_does_62 ?_
  refine j_callS_I (pc := 63) (as := [.int ((-x5) - x27), .int (x29 - x32)]) (mc2 := 0) (ms2 := 0) (ct_J9_min_7cf53 _ _ _) cw_X12_does_153 dX12_does_63 (Nat.le_of_ble_eq_true rfl) rfl (by decide) (by decide) (fun x34 z33 => ?_)
  refine j_istore (pc := 66) (lv2 := [(5, .int x34), (4, .int x27), (3, .int x5), (2, .int x2), (0, .ref (mB Γ + r0)), (1, .int v1)]) dX12_does_66 (by decide) rfl ?_
  refine j_aload_n (pc := 68) 4 dX12_does_68 rfl rfl ?_
  refine j_getR (pc := 69) ok_X12 (by decide) rfl w_1239 dX12_does_69 (fun a35 => ?_)
  refine j_sipush (pc := 72) (v := 336) dX12_does_72 (by decide) ?_
  refine j_iload_n (pc := 75) 5 dX12_does_75 rfl rfl ?_
  refine j_iadd (pc := 76) dX12_does_76 ?_
  refine j_dup2 (pc := 77) dX12_does_77 rfl rfl ?_
  refine j_iaload (pc := 78) dX12_does_78 (fun x36 => ?_)
  refine j_iload (pc := 79) 0 dX12_does_79 rfl ?_
  refine j_iadd (pc := 81) dX12_does_81 ?_
  refine j_iastore (pc := 82) dX12_does_82 (fun z37 => ?_)
  refine j_aload_n (pc := 83) 4 dX12_does_83 rfl rfl ?_
  refine j_getR (pc := 84) ok_X12 (by decide) rfl w_1239 dX12_does_84 (fun a38 => ?_)
  refine j_sipush (pc := 87) (v := 192) dX12_does_87 (by decide) ?_
  refine j_iload_n (pc := 90) 5 dX12_does_90 rfl rfl ?_
  refine j_iadd (pc := 91) dX12_does_91 ?_
  refine j_dup2 (pc := 92) dX12_does_92 rfl rfl ?_
  refine j_iaload (pc := 93) dX12_does_93 (fun x39 => ?_)
  refine j_iload_n (pc := 94) 2 dX12_does_94 rfl rfl ?_
  refine j_iload (pc := 95) 0 dX12_does_95 rfl ?_
  refine j_iadd (pc := 97) dX12_does_97 ?_
  refine j_iadd (pc := 98) dX12_does_98 ?_
  refine j_iastore (pc := 99) dX12_does_99 (fun z40 => ?_)
  refine j_goto (pc := 100) 176 dX12_does_100 (by decide) ?_
  exact j_return (pc := 176) dX12_does_176 rfl
theorem dX12_liftOf_0 : decode cX12_liftOf 0 = .ok (.iconst 0, 1) := by decide +kernel
theorem dX12_liftOf_1 : decode cX12_liftOf 1 = .ok (.istore_n 2, 1) := by decide +kernel
theorem dX12_liftOf_2 : decode cX12_liftOf 2 = .ok (.iconst 0, 1) := by decide +kernel
theorem dX12_liftOf_3 : decode cX12_liftOf 3 = .ok (.istore_n 3, 1) := by decide +kernel
theorem dX12_liftOf_4 : decode cX12_liftOf 4 = .ok (.iload_n 3, 1) := by decide +kernel
theorem dX12_liftOf_5 : decode cX12_liftOf 5 = .ok (.bipush 12, 2) := by decide +kernel
theorem dX12_liftOf_7 : decode cX12_liftOf 7 = .ok (.if_icmp .ge 47, 3) := by decide +kernel
theorem dX12_liftOf_10 : decode cX12_liftOf 10 = .ok (.iload_n 2, 1) := by decide +kernel
theorem dX12_liftOf_11 : decode cX12_liftOf 11 = .ok (.aload_n 0, 1) := by decide +kernel
theorem dX12_liftOf_12 : decode cX12_liftOf 12 = .ok (.bipush 12, 2) := by decide +kernel
theorem dX12_liftOf_14 : decode cX12_liftOf 14 = .ok (.iload_n 3, 1) := by decide +kernel
theorem dX12_liftOf_15 : decode cX12_liftOf 15 = .ok (.imul, 1) := by decide +kernel
theorem dX12_liftOf_16 : decode cX12_liftOf 16 = .ok (.iload_n 1, 1) := by decide +kernel
theorem dX12_liftOf_17 : decode cX12_liftOf 17 = .ok (.iadd, 1) := by decide +kernel
theorem dX12_liftOf_18 : decode cX12_liftOf 18 = .ok (.invokevirtual 102, 3) := by decide +kernel
theorem dX12_liftOf_21 : decode cX12_liftOf 21 = .ok (.ifCond .eq 7, 3) := by decide +kernel
theorem dX12_liftOf_24 : decode cX12_liftOf 24 = .ok (.iconst 0, 1) := by decide +kernel
theorem dX12_liftOf_25 : decode cX12_liftOf 25 = .ok (.goto 21, 3) := by decide +kernel
theorem dX12_liftOf_28 : decode cX12_liftOf 28 = .ok (.aload_n 0, 1) := by decide +kernel
theorem dX12_liftOf_29 : decode cX12_liftOf 29 = .ok (.getfield 13, 3) := by decide +kernel
theorem dX12_liftOf_32 : decode cX12_liftOf 32 = .ok (.sipush 336, 3) := by decide +kernel
theorem dX12_liftOf_35 : decode cX12_liftOf 35 = .ok (.bipush 12, 2) := by decide +kernel
theorem dX12_liftOf_37 : decode cX12_liftOf 37 = .ok (.iload_n 3, 1) := by decide +kernel
theorem dX12_liftOf_38 : decode cX12_liftOf 38 = .ok (.imul, 1) := by decide +kernel
theorem dX12_liftOf_39 : decode cX12_liftOf 39 = .ok (.iadd, 1) := by decide +kernel
theorem dX12_liftOf_40 : decode cX12_liftOf 40 = .ok (.iload_n 1, 1) := by decide +kernel
theorem dX12_liftOf_41 : decode cX12_liftOf 41 = .ok (.iadd, 1) := by decide +kernel
theorem dX12_liftOf_42 : decode cX12_liftOf 42 = .ok (.iaload, 1) := by decide +kernel
theorem dX12_liftOf_43 : decode cX12_liftOf 43 = .ok (.bipush 10, 2) := by decide +kernel
theorem dX12_liftOf_45 : decode cX12_liftOf 45 = .ok (.idiv, 1) := by decide +kernel
theorem dX12_liftOf_46 : decode cX12_liftOf 46 = .ok (.iadd, 1) := by decide +kernel
theorem dX12_liftOf_47 : decode cX12_liftOf 47 = .ok (.istore_n 2, 1) := by decide +kernel
theorem dX12_liftOf_48 : decode cX12_liftOf 48 = .ok (.iinc 3 1, 3) := by decide +kernel
theorem dX12_liftOf_51 : decode cX12_liftOf 51 = .ok (.goto (-47), 3) := by decide +kernel
theorem dX12_liftOf_54 : decode cX12_liftOf 54 = .ok (.iload_n 2, 1) := by decide +kernel
theorem dX12_liftOf_55 : decode cX12_liftOf 55 = .ok (.ireturn, 1) := by decide +kernel
theorem cw_X12_liftOf_102 : CwV mi_X12_liftOf mi_X12_isDug yX12_isDug RX12 102 1 := ⟨⟨w_1511, w_1513, w_65, w_108, w_1514⟩, ⟨by decide, by decide⟩, by decide +kernel, by decide, by decide⟩
theorem j_X12_liftOf_B46 {l : Launch} {Γ : Am} {k4 : Nat → Int32 → Int32 → Int32 → Hp → Option (Int32 × Hp)} (hL4 : ∀ (r0 : Nat) (v1 : Int32) (v2 : Int32) (v3 : Int32) (z : Hp), J l Γ mi_X12_liftOf cvI 0 0 4 [(0, .ref (mB Γ + r0)), (1, .int v1), (2, .int v2), (3, .int v3)] [] z (k4 r0 v1 v2 v3 z)) : ∀ (r0 : Nat) (v1 : Int32) (v3 : Int32) (t0 : Int32) (t1 : Int32) (z : Hp), J l Γ mi_X12_liftOf cvI 0 0 46 [(0, .ref (mB Γ + r0)), (1, .int v1), (3, .int v3)] [.int t0, .int t1] z (m_X12_liftOf_B46 k4 r0 v1 v3 t0 t1 z) := by
  intro r0 v1 v3 t0 t1 z
  unfold m_X12_liftOf_B46
  refine j_iadd (pc := 46) dX12_liftOf_46 ?_
  refine j_istore_n (pc := 47) (lv2 := [(2, .int (t1 + t0)), (0, .ref (mB Γ + r0)), (1, .int v1), (3, .int v3)]) dX12_liftOf_47 rfl (by decide) rfl ?_
  refine j_iinc (pc := 48) (n0 := 3) (v0 := v3 + 1) (lv2 := [(3, .int (v3 + 1)), (2, .int (t1 + t0)), (0, .ref (mB Γ + r0)), (1, .int v1)]) dX12_liftOf_48 rfl rfl (by decide) rfl ?_
  refine j_goto (pc := 51) 4 dX12_liftOf_51 (by decide) ?_
  exact J.sub [2, 3, 1, 0] rfl (hL4 r0 v1 (t1 + t0) (v3 + 1) z)
theorem j_X12_liftOf_L4 {l : Launch} {Γ : Am}   : ∀ (f : Nat), ∀ (r0 : Nat) (v1 : Int32) (v2 : Int32) (v3 : Int32) (z : Hp), J l Γ mi_X12_liftOf cvI 0 0 4 [(0, .ref (mB Γ + r0)), (1, .int v1), (2, .int v2), (3, .int v3)] [] z (m_X12_liftOf_L4  f r0 v1 v2 v3 z) := by
  intro f
  induction f with
  | zero => intro r0 v1 v2 v3 z; exact J.none
  | succ f hL4 =>
    intro r0 v1 v2 v3 z
    rw [m_X12_liftOf_L4]
    refine j_iload_n (pc := 4) 3 dX12_liftOf_4 rfl rfl ?_
    refine j_bipush (pc := 5) (v := 12) dX12_liftOf_5 (by decide) ?_
    refine j_icmp_ge (pc := 7) 54 dX12_liftOf_7 (by decide) ?_ ?_
    · refine j_iload_n (pc := 54) 2 dX12_liftOf_54 rfl rfl ?_
      exact j_ireturn (pc := 55) dX12_liftOf_55 rfl rfl
    refine j_iload_n (pc := 10) 2 dX12_liftOf_10 rfl rfl ?_
    refine j_aload_n (pc := 11) 0 dX12_liftOf_11 rfl rfl ?_
    refine j_bipush (pc := 12) (v := 12) dX12_liftOf_12 (by decide) ?_
    refine j_iload_n (pc := 14) 3 dX12_liftOf_14 rfl rfl ?_
    refine j_imul (pc := 15) dX12_liftOf_15 ?_
    refine j_iload_n (pc := 16) 1 dX12_liftOf_16 rfl rfl ?_
    refine j_iadd (pc := 17) dX12_liftOf_17 ?_
    refine j_isC (fun h3 => ?_)
    refine j_callV_I (pc := 18) (as := [.int ((12 * v3) + v1)]) (mc2 := 0) (ms2 := 0) (ct_X12_isDug _ _ _) h3 rfl cw_X12_liftOf_102 dX12_liftOf_18 (Nat.le_of_ble_eq_true rfl) rfl (by decide) (by decide) (fun x2 z1 => ?_)
    refine j_if_eq (pc := 21) 28 dX12_liftOf_21 (by decide) ?_ ?_
    · refine j_aload_n (pc := 28) 0 dX12_liftOf_28 rfl rfl ?_
      refine j_getR (pc := 29) ok_X12 (by decide) rfl w_1239 dX12_liftOf_29 (fun a4 => ?_)
      refine j_sipush (pc := 32) (v := 336) dX12_liftOf_32 (by decide) ?_
      refine j_bipush (pc := 35) (v := 12) dX12_liftOf_35 (by decide) ?_
      refine j_iload_n (pc := 37) 3 dX12_liftOf_37 rfl rfl ?_
      refine j_imul (pc := 38) dX12_liftOf_38 ?_
      refine j_iadd (pc := 39) dX12_liftOf_39 ?_
      refine j_iload_n (pc := 40) 1 dX12_liftOf_40 rfl rfl ?_
      refine j_iadd (pc := 41) dX12_liftOf_41 ?_
      refine j_iaload (pc := 42) dX12_liftOf_42 (fun x5 => ?_)
      refine j_bipush (pc := 43) (v := 10) dX12_liftOf_43 (by decide) ?_
      refine j_idiv (pc := 45) dX12_liftOf_45 (by decide) ?_
      exact J.sub [0, 1, 3] rfl ((j_X12_liftOf_B46 hL4) r0 v1 v3 (x5 / 10) v2 z1)
    refine j_iconst (pc := 24) (v := 0) dX12_liftOf_24 (by decide) ?_
    refine j_goto (pc := 25) 46 dX12_liftOf_25 (by decide) ?_
    exact J.sub [0, 1, 3] rfl ((j_X12_liftOf_B46 hL4) r0 v1 v3 0 v2 z1)
theorem ct_X12_liftOf {l : Launch} {Γ : Am} (r0 : Nat) (v1 : Int32) (z : Hp) : Ct l Γ yX12_liftOf mi_X12_liftOf cvI [.ref (mB Γ + r0), .int v1] z (m_X12_liftOf r0 v1 z) := by
  refine Ct.ofJ (by decide) ⟨rfl, rfl⟩ (Nat.le_of_ble_eq_true rfl) ?_
  unfold m_X12_liftOf
  show J l Γ mi_X12_liftOf cvI 0 0 0 [(0, .ref (mB Γ + r0)), (1, .int v1)] [] z _
  refine j_iconst (pc := 0) (v := 0) dX12_liftOf_0 (by decide) ?_
  refine j_istore_n (pc := 1) (lv2 := [(2, .int 0), (0, .ref (mB Γ + r0)), (1, .int v1)]) dX12_liftOf_1 rfl (by decide) rfl ?_
  refine j_iconst (pc := 2) (v := 0) dX12_liftOf_2 (by decide) ?_
  refine j_istore_n (pc := 3) (lv2 := [(3, .int 0), (2, .int 0), (0, .ref (mB Γ + r0)), (1, .int v1)]) dX12_liftOf_3 rfl (by decide) rfl ?_
  exact J.sub [2, 3, 1, 0] rfl ((j_X12_liftOf_L4 FU) r0 v1 0 0 z)
theorem dX12_anyDug_0 : decode cX12_anyDug 0 = .ok (.iconst 0, 1) := by decide +kernel
theorem dX12_anyDug_1 : decode cX12_anyDug 1 = .ok (.istore_n 1, 1) := by decide +kernel
theorem dX12_anyDug_2 : decode cX12_anyDug 2 = .ok (.iconst 0, 1) := by decide +kernel
theorem dX12_anyDug_3 : decode cX12_anyDug 3 = .ok (.istore_n 2, 1) := by decide +kernel
theorem dX12_anyDug_4 : decode cX12_anyDug 4 = .ok (.iload_n 2, 1) := by decide +kernel
theorem dX12_anyDug_5 : decode cX12_anyDug 5 = .ok (.sipush 144, 3) := by decide +kernel
theorem dX12_anyDug_8 : decode cX12_anyDug 8 = .ok (.if_icmp .ge 27, 3) := by decide +kernel
theorem dX12_anyDug_11 : decode cX12_anyDug 11 = .ok (.iload_n 1, 1) := by decide +kernel
theorem dX12_anyDug_12 : decode cX12_anyDug 12 = .ok (.ifCond .ne 11, 3) := by decide +kernel
theorem dX12_anyDug_15 : decode cX12_anyDug 15 = .ok (.aload_n 0, 1) := by decide +kernel
theorem dX12_anyDug_16 : decode cX12_anyDug 16 = .ok (.iload_n 2, 1) := by decide +kernel
theorem dX12_anyDug_17 : decode cX12_anyDug 17 = .ok (.invokevirtual 102, 3) := by decide +kernel
theorem dX12_anyDug_20 : decode cX12_anyDug 20 = .ok (.ifCond .eq 7, 3) := by decide +kernel
theorem dX12_anyDug_23 : decode cX12_anyDug 23 = .ok (.iconst 1, 1) := by decide +kernel
theorem dX12_anyDug_24 : decode cX12_anyDug 24 = .ok (.goto 4, 3) := by decide +kernel
theorem dX12_anyDug_27 : decode cX12_anyDug 27 = .ok (.iconst 0, 1) := by decide +kernel
theorem dX12_anyDug_28 : decode cX12_anyDug 28 = .ok (.istore_n 1, 1) := by decide +kernel
theorem dX12_anyDug_29 : decode cX12_anyDug 29 = .ok (.iinc 2 1, 3) := by decide +kernel
theorem dX12_anyDug_32 : decode cX12_anyDug 32 = .ok (.goto (-28), 3) := by decide +kernel
theorem dX12_anyDug_35 : decode cX12_anyDug 35 = .ok (.iload_n 1, 1) := by decide +kernel
theorem dX12_anyDug_36 : decode cX12_anyDug 36 = .ok (.ireturn, 1) := by decide +kernel
theorem cw_X12_anyDug_102 : CwV mi_X12_anyDug mi_X12_isDug yX12_isDug RX12 102 1 := ⟨⟨w_1511, w_1513, w_65, w_108, w_1514⟩, ⟨by decide, by decide⟩, by decide +kernel, by decide, by decide⟩
theorem j_X12_anyDug_B28 {l : Launch} {Γ : Am} {k4 : Nat → Int32 → Int32 → Hp → Option (Int32 × Hp)} (hL4 : ∀ (r0 : Nat) (v1 : Int32) (v2 : Int32) (z : Hp), J l Γ mi_X12_anyDug cvI 0 0 4 [(0, .ref (mB Γ + r0)), (1, .int v1), (2, .int v2)] [] z (k4 r0 v1 v2 z)) : ∀ (r0 : Nat) (v2 : Int32) (t0 : Int32) (z : Hp), J l Γ mi_X12_anyDug cvI 0 0 28 [(0, .ref (mB Γ + r0)), (2, .int v2)] [.int t0] z (m_X12_anyDug_B28 k4 r0 v2 t0 z) := by
  intro r0 v2 t0 z
  unfold m_X12_anyDug_B28
  refine j_istore_n (pc := 28) (lv2 := [(1, .int t0), (0, .ref (mB Γ + r0)), (2, .int v2)]) dX12_anyDug_28 rfl (by decide) rfl ?_
  refine j_iinc (pc := 29) (n0 := 2) (v0 := v2 + 1) (lv2 := [(2, .int (v2 + 1)), (1, .int t0), (0, .ref (mB Γ + r0))]) dX12_anyDug_29 rfl rfl (by decide) rfl ?_
  refine j_goto (pc := 32) 4 dX12_anyDug_32 (by decide) ?_
  exact J.sub [2, 1, 0] rfl (hL4 r0 t0 (v2 + 1) z)
theorem j_X12_anyDug_B23 {l : Launch} {Γ : Am} {k4 : Nat → Int32 → Int32 → Hp → Option (Int32 × Hp)} (hL4 : ∀ (r0 : Nat) (v1 : Int32) (v2 : Int32) (z : Hp), J l Γ mi_X12_anyDug cvI 0 0 4 [(0, .ref (mB Γ + r0)), (1, .int v1), (2, .int v2)] [] z (k4 r0 v1 v2 z)) : ∀ (r0 : Nat) (v2 : Int32) (z : Hp), J l Γ mi_X12_anyDug cvI 0 0 23 [(0, .ref (mB Γ + r0)), (2, .int v2)] [] z (m_X12_anyDug_B23 k4 r0 v2 z) := by
  intro r0 v2 z
  unfold m_X12_anyDug_B23
  refine j_iconst (pc := 23) (v := 1) dX12_anyDug_23 (by decide) ?_
  refine j_goto (pc := 24) 28 dX12_anyDug_24 (by decide) ?_
  exact J.sub [0, 1] rfl ((j_X12_anyDug_B28 hL4) r0 v2 1 z)
theorem j_X12_anyDug_L4 {l : Launch} {Γ : Am}   : ∀ (f : Nat), ∀ (r0 : Nat) (v1 : Int32) (v2 : Int32) (z : Hp), J l Γ mi_X12_anyDug cvI 0 0 4 [(0, .ref (mB Γ + r0)), (1, .int v1), (2, .int v2)] [] z (m_X12_anyDug_L4  f r0 v1 v2 z) := by
  intro f
  induction f with
  | zero => intro r0 v1 v2 z; exact J.none
  | succ f hL4 =>
    intro r0 v1 v2 z
    rw [m_X12_anyDug_L4]
    refine j_iload_n (pc := 4) 2 dX12_anyDug_4 rfl rfl ?_
    refine j_sipush (pc := 5) (v := 144) dX12_anyDug_5 (by decide) ?_
    refine j_icmp_ge (pc := 8) 35 dX12_anyDug_8 (by decide) ?_ ?_
    · refine j_iload_n (pc := 35) 1 dX12_anyDug_35 rfl rfl ?_
      exact j_zreturn (pc := 36) dX12_anyDug_36 rfl
    refine j_iload_n (pc := 11) 1 dX12_anyDug_11 rfl rfl ?_
    refine j_if_ne (pc := 12) 23 dX12_anyDug_12 (by decide) ?_ ?_
    · exact J.sub [0, 2] rfl ((j_X12_anyDug_B23 hL4) r0 v2 z)
    refine j_aload_n (pc := 15) 0 dX12_anyDug_15 rfl rfl ?_
    refine j_iload_n (pc := 16) 2 dX12_anyDug_16 rfl rfl ?_
    refine j_isC (fun h3 => ?_)
    refine j_callV_I (pc := 17) (as := [.int v2]) (mc2 := 0) (ms2 := 0) (ct_X12_isDug _ _ _) h3 rfl cw_X12_anyDug_102 dX12_anyDug_17 (Nat.le_of_ble_eq_true rfl) rfl (by decide) (by decide) (fun x2 z1 => ?_)
    refine j_if_eq (pc := 20) 27 dX12_anyDug_20 (by decide) ?_ ?_
    · refine j_iconst (pc := 27) (v := 0) dX12_anyDug_27 (by decide) ?_
      exact J.sub [0, 2] rfl ((j_X12_anyDug_B28 hL4) r0 v2 0 z1)
    exact J.sub [0, 2] rfl ((j_X12_anyDug_B23 hL4) r0 v2 z1)
theorem ct_X12_anyDug {l : Launch} {Γ : Am} (r0 : Nat) (z : Hp) : Ct l Γ yX12_anyDug mi_X12_anyDug cvI [.ref (mB Γ + r0)] z (m_X12_anyDug r0 z) := by
  refine Ct.ofJ (by decide) ⟨rfl, rfl⟩ (Nat.le_of_ble_eq_true rfl) ?_
  unfold m_X12_anyDug
  show J l Γ mi_X12_anyDug cvI 0 0 0 [(0, .ref (mB Γ + r0))] [] z _
  refine j_iconst (pc := 0) (v := 0) dX12_anyDug_0 (by decide) ?_
  refine j_istore_n (pc := 1) (lv2 := [(1, .int 0), (0, .ref (mB Γ + r0))]) dX12_anyDug_1 rfl (by decide) rfl ?_
  refine j_iconst (pc := 2) (v := 0) dX12_anyDug_2 (by decide) ?_
  refine j_istore_n (pc := 3) (lv2 := [(2, .int 0), (1, .int 0), (0, .ref (mB Γ + r0))]) dX12_anyDug_3 rfl (by decide) rfl ?_
  exact J.sub [2, 1, 0] rfl ((j_X12_anyDug_L4 FU) r0 0 0 z)
theorem dX12_isBesideShaft_0 : decode cX12_isBesideShaft 0 = .ok (.iconst 0, 1) := by decide +kernel
theorem dX12_isBesideShaft_1 : decode cX12_isBesideShaft 1 = .ok (.istore_n 2, 1) := by decide +kernel
theorem dX12_isBesideShaft_2 : decode cX12_isBesideShaft 2 = .ok (.iconst 0, 1) := by decide +kernel
theorem dX12_isBesideShaft_3 : decode cX12_isBesideShaft 3 = .ok (.istore_n 3, 1) := by decide +kernel
theorem dX12_isBesideShaft_4 : decode cX12_isBesideShaft 4 = .ok (.iload_n 3, 1) := by decide +kernel
theorem dX12_isBesideShaft_5 : decode cX12_isBesideShaft 5 = .ok (.iconst 4, 1) := by decide +kernel
theorem dX12_isBesideShaft_6 : decode cX12_isBesideShaft 6 = .ok (.if_icmp .ge 40, 3) := by decide +kernel
theorem dX12_isBesideShaft_9 : decode cX12_isBesideShaft 9 = .ok (.iload_n 2, 1) := by decide +kernel
theorem dX12_isBesideShaft_10 : decode cX12_isBesideShaft 10 = .ok (.ifCond .ne 24, 3) := by decide +kernel
theorem dX12_isBesideShaft_13 : decode cX12_isBesideShaft 13 = .ok (.iload_n 1, 1) := by decide +kernel
theorem dX12_isBesideShaft_14 : decode cX12_isBesideShaft 14 = .ok (.iload_n 3, 1) := by decide +kernel
theorem dX12_isBesideShaft_15 : decode cX12_isBesideShaft 15 = .ok (.invokestatic 304, 3) := by decide +kernel
theorem dX12_isBesideShaft_18 : decode cX12_isBesideShaft 18 = .ok (.iconst (-1), 1) := by decide +kernel
theorem dX12_isBesideShaft_19 : decode cX12_isBesideShaft 19 = .ok (.if_icmp .eq 19, 3) := by decide +kernel
theorem dX12_isBesideShaft_22 : decode cX12_isBesideShaft 22 = .ok (.aload_n 0, 1) := by decide +kernel
theorem dX12_isBesideShaft_23 : decode cX12_isBesideShaft 23 = .ok (.iload_n 1, 1) := by decide +kernel
theorem dX12_isBesideShaft_24 : decode cX12_isBesideShaft 24 = .ok (.iload_n 3, 1) := by decide +kernel
theorem dX12_isBesideShaft_25 : decode cX12_isBesideShaft 25 = .ok (.invokestatic 304, 3) := by decide +kernel
theorem dX12_isBesideShaft_28 : decode cX12_isBesideShaft 28 = .ok (.invokevirtual 346, 3) := by decide +kernel
theorem dX12_isBesideShaft_31 : decode cX12_isBesideShaft 31 = .ok (.ifCond .eq 7, 3) := by decide +kernel
theorem dX12_isBesideShaft_34 : decode cX12_isBesideShaft 34 = .ok (.iconst 1, 1) := by decide +kernel
theorem dX12_isBesideShaft_35 : decode cX12_isBesideShaft 35 = .ok (.goto 4, 3) := by decide +kernel
theorem dX12_isBesideShaft_38 : decode cX12_isBesideShaft 38 = .ok (.iconst 0, 1) := by decide +kernel
theorem dX12_isBesideShaft_39 : decode cX12_isBesideShaft 39 = .ok (.istore_n 2, 1) := by decide +kernel
theorem dX12_isBesideShaft_40 : decode cX12_isBesideShaft 40 = .ok (.iinc 3 1, 3) := by decide +kernel
theorem dX12_isBesideShaft_43 : decode cX12_isBesideShaft 43 = .ok (.goto (-39), 3) := by decide +kernel
theorem dX12_isBesideShaft_46 : decode cX12_isBesideShaft 46 = .ok (.iload_n 2, 1) := by decide +kernel
theorem dX12_isBesideShaft_47 : decode cX12_isBesideShaft 47 = .ok (.ifCond .eq 15, 3) := by decide +kernel
theorem dX12_isBesideShaft_50 : decode cX12_isBesideShaft 50 = .ok (.aload_n 0, 1) := by decide +kernel
theorem dX12_isBesideShaft_51 : decode cX12_isBesideShaft 51 = .ok (.iload_n 1, 1) := by decide +kernel
theorem dX12_isBesideShaft_52 : decode cX12_isBesideShaft 52 = .ok (.invokevirtual 346, 3) := by decide +kernel
theorem dX12_isBesideShaft_55 : decode cX12_isBesideShaft 55 = .ok (.ifCond .ne 7, 3) := by decide +kernel
theorem dX12_isBesideShaft_58 : decode cX12_isBesideShaft 58 = .ok (.iconst 1, 1) := by decide +kernel
theorem dX12_isBesideShaft_59 : decode cX12_isBesideShaft 59 = .ok (.goto 4, 3) := by decide +kernel
theorem dX12_isBesideShaft_62 : decode cX12_isBesideShaft 62 = .ok (.iconst 0, 1) := by decide +kernel
theorem dX12_isBesideShaft_63 : decode cX12_isBesideShaft 63 = .ok (.ireturn, 1) := by decide +kernel
theorem cw_X12_isBesideShaft_346 : CwV mi_X12_isBesideShaft mi_X12_isShaft yX12_isShaft RX12 346 1 := ⟨⟨w_1567, w_1569, w_77, w_108, w_1570⟩, ⟨by decide, by decide⟩, by decide +kernel, by decide, by decide⟩
theorem cw_X12_isBesideShaft_304 : CwS mi_X12_isBesideShaft mi_X12_beside yX12_beside 304 2 := ⟨⟨w_1519, w_1520, w_108, w_1521⟩, ⟨by decide, by decide⟩, by decide +kernel, by decide, by decide⟩
theorem j_X12_isBesideShaft_B46 {l : Launch} {Γ : Am}   : ∀ (r0 : Nat) (v1 : Int32) (v2 : Int32) (z : Hp), J l Γ mi_X12_isBesideShaft cvI 0 0 46 [(0, .ref (mB Γ + r0)), (1, .int v1), (2, .int v2)] [] z (m_X12_isBesideShaft_B46  r0 v1 v2 z) := by
  intro r0 v1 v2 z
  unfold m_X12_isBesideShaft_B46
  refine j_iload_n (pc := 46) 2 dX12_isBesideShaft_46 rfl rfl ?_
  refine j_if_eq (pc := 47) 62 dX12_isBesideShaft_47 (by decide) ?_ ?_
  · refine j_iconst (pc := 62) (v := 0) dX12_isBesideShaft_62 (by decide) ?_
    exact j_ireturn (pc := 63) dX12_isBesideShaft_63 rfl rfl
  refine j_aload_n (pc := 50) 0 dX12_isBesideShaft_50 rfl rfl ?_
  refine j_iload_n (pc := 51) 1 dX12_isBesideShaft_51 rfl rfl ?_
  refine j_isC (fun h3 => ?_)
  refine j_callV_I (pc := 52) (as := [.int v1]) (mc2 := 0) (ms2 := 0) (ct_X12_isShaft _ _ _) h3 rfl cw_X12_isBesideShaft_346 dX12_isBesideShaft_52 (Nat.le_of_ble_eq_true rfl) rfl (by decide) (by decide) (fun x2 z1 => ?_)
  refine j_if_ne (pc := 55) 62 dX12_isBesideShaft_55 (by decide) ?_ ?_
  · refine j_iconst (pc := 62) (v := 0) dX12_isBesideShaft_62 (by decide) ?_
    exact j_ireturn (pc := 63) dX12_isBesideShaft_63 rfl rfl
  refine j_iconst (pc := 58) (v := 1) dX12_isBesideShaft_58 (by decide) ?_
  refine j_goto (pc := 59) 63 dX12_isBesideShaft_59 (by decide) ?_
  exact j_ireturn (pc := 63) dX12_isBesideShaft_63 rfl rfl
theorem j_X12_isBesideShaft_B39 {l : Launch} {Γ : Am} {k4 : Nat → Int32 → Int32 → Int32 → Hp → Option (Int32 × Hp)} (hL4 : ∀ (r0 : Nat) (v1 : Int32) (v2 : Int32) (v3 : Int32) (z : Hp), J l Γ mi_X12_isBesideShaft cvI 0 0 4 [(0, .ref (mB Γ + r0)), (1, .int v1), (2, .int v2), (3, .int v3)] [] z (k4 r0 v1 v2 v3 z)) : ∀ (r0 : Nat) (v1 : Int32) (v3 : Int32) (t0 : Int32) (z : Hp), J l Γ mi_X12_isBesideShaft cvI 0 0 39 [(0, .ref (mB Γ + r0)), (1, .int v1), (3, .int v3)] [.int t0] z (m_X12_isBesideShaft_B39 k4 r0 v1 v3 t0 z) := by
  intro r0 v1 v3 t0 z
  unfold m_X12_isBesideShaft_B39
  refine j_istore_n (pc := 39) (lv2 := [(2, .int t0), (0, .ref (mB Γ + r0)), (1, .int v1), (3, .int v3)]) dX12_isBesideShaft_39 rfl (by decide) rfl ?_
  refine j_iinc (pc := 40) (n0 := 3) (v0 := v3 + 1) (lv2 := [(3, .int (v3 + 1)), (2, .int t0), (0, .ref (mB Γ + r0)), (1, .int v1)]) dX12_isBesideShaft_40 rfl rfl (by decide) rfl ?_
  refine j_goto (pc := 43) 4 dX12_isBesideShaft_43 (by decide) ?_
  exact J.sub [2, 3, 1, 0] rfl (hL4 r0 v1 t0 (v3 + 1) z)
theorem j_X12_isBesideShaft_B38 {l : Launch} {Γ : Am} {k4 : Nat → Int32 → Int32 → Int32 → Hp → Option (Int32 × Hp)} (hL4 : ∀ (r0 : Nat) (v1 : Int32) (v2 : Int32) (v3 : Int32) (z : Hp), J l Γ mi_X12_isBesideShaft cvI 0 0 4 [(0, .ref (mB Γ + r0)), (1, .int v1), (2, .int v2), (3, .int v3)] [] z (k4 r0 v1 v2 v3 z)) : ∀ (r0 : Nat) (v1 : Int32) (v3 : Int32) (z : Hp), J l Γ mi_X12_isBesideShaft cvI 0 0 38 [(0, .ref (mB Γ + r0)), (1, .int v1), (3, .int v3)] [] z (m_X12_isBesideShaft_B38 k4 r0 v1 v3 z) := by
  intro r0 v1 v3 z
  unfold m_X12_isBesideShaft_B38
  refine j_iconst (pc := 38) (v := 0) dX12_isBesideShaft_38 (by decide) ?_
  exact J.sub [0, 1, 2] rfl ((j_X12_isBesideShaft_B39 hL4) r0 v1 v3 0 z)
theorem j_X12_isBesideShaft_B34 {l : Launch} {Γ : Am} {k4 : Nat → Int32 → Int32 → Int32 → Hp → Option (Int32 × Hp)} (hL4 : ∀ (r0 : Nat) (v1 : Int32) (v2 : Int32) (v3 : Int32) (z : Hp), J l Γ mi_X12_isBesideShaft cvI 0 0 4 [(0, .ref (mB Γ + r0)), (1, .int v1), (2, .int v2), (3, .int v3)] [] z (k4 r0 v1 v2 v3 z)) : ∀ (r0 : Nat) (v1 : Int32) (v3 : Int32) (z : Hp), J l Γ mi_X12_isBesideShaft cvI 0 0 34 [(0, .ref (mB Γ + r0)), (1, .int v1), (3, .int v3)] [] z (m_X12_isBesideShaft_B34 k4 r0 v1 v3 z) := by
  intro r0 v1 v3 z
  unfold m_X12_isBesideShaft_B34
  refine j_iconst (pc := 34) (v := 1) dX12_isBesideShaft_34 (by decide) ?_
  refine j_goto (pc := 35) 39 dX12_isBesideShaft_35 (by decide) ?_
  exact J.sub [0, 1, 2] rfl ((j_X12_isBesideShaft_B39 hL4) r0 v1 v3 1 z)
theorem j_X12_isBesideShaft_L4 {l : Launch} {Γ : Am} {k46 : Nat → Int32 → Int32 → Hp → Option (Int32 × Hp)} (hL46 : ∀ (r0 : Nat) (v1 : Int32) (v2 : Int32) (z : Hp), J l Γ mi_X12_isBesideShaft cvI 0 0 46 [(0, .ref (mB Γ + r0)), (1, .int v1), (2, .int v2)] [] z (k46 r0 v1 v2 z)) : ∀ (f : Nat), ∀ (r0 : Nat) (v1 : Int32) (v2 : Int32) (v3 : Int32) (z : Hp), J l Γ mi_X12_isBesideShaft cvI 0 0 4 [(0, .ref (mB Γ + r0)), (1, .int v1), (2, .int v2), (3, .int v3)] [] z (m_X12_isBesideShaft_L4 k46 f r0 v1 v2 v3 z) := by
  intro f
  induction f with
  | zero => intro r0 v1 v2 v3 z; exact J.none
  | succ f hL4 =>
    intro r0 v1 v2 v3 z
    rw [m_X12_isBesideShaft_L4]
    refine j_iload_n (pc := 4) 3 dX12_isBesideShaft_4 rfl rfl ?_
    refine j_iconst (pc := 5) (v := 4) dX12_isBesideShaft_5 (by decide) ?_
    refine j_icmp_ge (pc := 6) 46 dX12_isBesideShaft_6 (by decide) ?_ ?_
    · exact J.sub [0, 1, 2] rfl (hL46 r0 v1 v2 z)
    refine j_iload_n (pc := 9) 2 dX12_isBesideShaft_9 rfl rfl ?_
    refine j_if_ne (pc := 10) 34 dX12_isBesideShaft_10 (by decide) ?_ ?_
    · exact J.sub [0, 1, 3] rfl ((j_X12_isBesideShaft_B34 hL4) r0 v1 v3 z)
    refine j_iload_n (pc := 13) 1 dX12_isBesideShaft_13 rfl rfl ?_
    refine j_iload_n (pc := 14) 3 dX12_isBesideShaft_14 rfl rfl ?_
    refine j_callS_I (pc := 15) (as := [.int v1, .int v3]) (mc2 := 0) (ms2 := 0) (ct_X12_beside _ _ _) cw_X12_isBesideShaft_304 dX12_isBesideShaft_15 (Nat.le_of_ble_eq_true rfl) rfl (by decide) (by decide) (fun x5 z4 => ?_)
    refine j_iconst (pc := 18) (v := (-1)) dX12_isBesideShaft_18 (by decide) ?_
    refine j_icmp_eq (pc := 19) 38 dX12_isBesideShaft_19 (by decide) ?_ ?_
    · exact J.sub [0, 1, 3] rfl ((j_X12_isBesideShaft_B38 hL4) r0 v1 v3 z4)
    refine j_aload_n (pc := 22) 0 dX12_isBesideShaft_22 rfl rfl ?_
    refine j_iload_n (pc := 23) 1 dX12_isBesideShaft_23 rfl rfl ?_
    refine j_iload_n (pc := 24) 3 dX12_isBesideShaft_24 rfl rfl ?_
    refine j_callS_I (pc := 25) (as := [.int v1, .int v3]) (mc2 := 0) (ms2 := 0) (ct_X12_beside _ _ _) cw_X12_isBesideShaft_304 dX12_isBesideShaft_25 (Nat.le_of_ble_eq_true rfl) rfl (by decide) (by decide) (fun x7 z6 => ?_)
    refine j_isC (fun h10 => ?_)
    refine j_callV_I (pc := 28) (as := [.int x7]) (mc2 := 0) (ms2 := 0) (ct_X12_isShaft _ _ _) h10 rfl cw_X12_isBesideShaft_346 dX12_isBesideShaft_28 (Nat.le_of_ble_eq_true rfl) rfl (by decide) (by decide) (fun x9 z8 => ?_)
    refine j_if_eq (pc := 31) 38 dX12_isBesideShaft_31 (by decide) ?_ ?_
    · exact J.sub [0, 1, 3] rfl ((j_X12_isBesideShaft_B38 hL4) r0 v1 v3 z8)
    exact J.sub [0, 1, 3] rfl ((j_X12_isBesideShaft_B34 hL4) r0 v1 v3 z8)
theorem ct_X12_isBesideShaft {l : Launch} {Γ : Am} (r0 : Nat) (v1 : Int32) (z : Hp) : Ct l Γ yX12_isBesideShaft mi_X12_isBesideShaft cvI [.ref (mB Γ + r0), .int v1] z (m_X12_isBesideShaft r0 v1 z) := by
  refine Ct.ofJ (by decide) ⟨rfl, rfl⟩ (Nat.le_of_ble_eq_true rfl) ?_
  unfold m_X12_isBesideShaft
  show J l Γ mi_X12_isBesideShaft cvI 0 0 0 [(0, .ref (mB Γ + r0)), (1, .int v1)] [] z _
  refine j_iconst (pc := 0) (v := 0) dX12_isBesideShaft_0 (by decide) ?_
  refine j_istore_n (pc := 1) (lv2 := [(2, .int 0), (0, .ref (mB Γ + r0)), (1, .int v1)]) dX12_isBesideShaft_1 rfl (by decide) rfl ?_
  refine j_iconst (pc := 2) (v := 0) dX12_isBesideShaft_2 (by decide) ?_
  refine j_istore_n (pc := 3) (lv2 := [(3, .int 0), (2, .int 0), (0, .ref (mB Γ + r0)), (1, .int v1)]) dX12_isBesideShaft_3 rfl (by decide) rfl ?_
  exact J.sub [2, 3, 1, 0] rfl ((j_X12_isBesideShaft_L4 j_X12_isBesideShaft_B46 FU) r0 v1 0 0 z)
theorem dX12_isRim_0 : decode cX12_isRim 0 = .ok (.iload_n 0, 1) := by decide +kernel
theorem dX12_isRim_1 : decode cX12_isRim 1 = .ok (.bipush 12, 2) := by decide +kernel
theorem dX12_isRim_3 : decode cX12_isRim 3 = .ok (.irem, 1) := by decide +kernel
theorem dX12_isRim_4 : decode cX12_isRim 4 = .ok (.ifCond .eq 28, 3) := by decide +kernel
theorem dX12_isRim_7 : decode cX12_isRim 7 = .ok (.iload_n 0, 1) := by decide +kernel
theorem dX12_isRim_8 : decode cX12_isRim 8 = .ok (.bipush 12, 2) := by decide +kernel
theorem dX12_isRim_10 : decode cX12_isRim 10 = .ok (.irem, 1) := by decide +kernel
theorem dX12_isRim_11 : decode cX12_isRim 11 = .ok (.bipush 11, 2) := by decide +kernel
theorem dX12_isRim_13 : decode cX12_isRim 13 = .ok (.if_icmp .eq 19, 3) := by decide +kernel
theorem dX12_isRim_16 : decode cX12_isRim 16 = .ok (.iload_n 0, 1) := by decide +kernel
theorem dX12_isRim_17 : decode cX12_isRim 17 = .ok (.bipush 12, 2) := by decide +kernel
theorem dX12_isRim_19 : decode cX12_isRim 19 = .ok (.idiv, 1) := by decide +kernel
theorem dX12_isRim_20 : decode cX12_isRim 20 = .ok (.ifCond .eq 12, 3) := by decide +kernel
theorem dX12_isRim_23 : decode cX12_isRim 23 = .ok (.iload_n 0, 1) := by decide +kernel
theorem dX12_isRim_24 : decode cX12_isRim 24 = .ok (.bipush 12, 2) := by decide +kernel
theorem dX12_isRim_26 : decode cX12_isRim 26 = .ok (.idiv, 1) := by decide +kernel
theorem dX12_isRim_27 : decode cX12_isRim 27 = .ok (.bipush 11, 2) := by decide +kernel
theorem dX12_isRim_29 : decode cX12_isRim 29 = .ok (.if_icmp .ne 7, 3) := by decide +kernel
theorem dX12_isRim_32 : decode cX12_isRim 32 = .ok (.iconst 1, 1) := by decide +kernel
theorem dX12_isRim_33 : decode cX12_isRim 33 = .ok (.goto 4, 3) := by decide +kernel
theorem dX12_isRim_36 : decode cX12_isRim 36 = .ok (.iconst 0, 1) := by decide +kernel
theorem dX12_isRim_37 : decode cX12_isRim 37 = .ok (.ireturn, 1) := by decide +kernel
theorem j_X12_isRim_B32 {l : Launch} {Γ : Am}   : ∀  (z : Hp), J l Γ mi_X12_isRim cvI 0 0 32 [] [] z (m_X12_isRim_B32   z) := by
  intro  z
  unfold m_X12_isRim_B32
  refine j_iconst (pc := 32) (v := 1) dX12_isRim_32 (by decide) ?_
  refine j_goto (pc := 33) 37 dX12_isRim_33 (by decide) ?_
  exact j_ireturn (pc := 37) dX12_isRim_37 rfl rfl
theorem ct_X12_isRim {l : Launch} {Γ : Am} (v0 : Int32) (z : Hp) : Ct l Γ yX12_isRim mi_X12_isRim cvI [.int v0] z (m_X12_isRim v0 z) := by
  refine Ct.ofJ (by decide) ⟨rfl, rfl⟩ (Nat.le_of_ble_eq_true rfl) ?_
  unfold m_X12_isRim
  show J l Γ mi_X12_isRim cvI 0 0 0 [(0, .int v0)] [] z _
  refine j_iload_n (pc := 0) 0 dX12_isRim_0 rfl rfl ?_
  refine j_bipush (pc := 1) (v := 12) dX12_isRim_1 (by decide) ?_
  refine j_irem (pc := 3) dX12_isRim_3 (by decide) ?_
  refine j_if_eq (pc := 4) 32 dX12_isRim_4 (by decide) ?_ ?_
  · exact J.sub [] rfl (j_X12_isRim_B32 z)
  refine j_iload_n (pc := 7) 0 dX12_isRim_7 rfl rfl ?_
  refine j_bipush (pc := 8) (v := 12) dX12_isRim_8 (by decide) ?_
  refine j_irem (pc := 10) dX12_isRim_10 (by decide) ?_
  refine j_bipush (pc := 11) (v := 11) dX12_isRim_11 (by decide) ?_
  refine j_icmp_eq (pc := 13) 32 dX12_isRim_13 (by decide) ?_ ?_
  · exact J.sub [] rfl (j_X12_isRim_B32 z)
  refine j_iload_n (pc := 16) 0 dX12_isRim_16 rfl rfl ?_
  refine j_bipush (pc := 17) (v := 12) dX12_isRim_17 (by decide) ?_
  refine j_idiv (pc := 19) dX12_isRim_19 (by decide) ?_
  refine j_if_eq (pc := 20) 32 dX12_isRim_20 (by decide) ?_ ?_
  · exact J.sub [] rfl (j_X12_isRim_B32 z)
  refine j_iload_n (pc := 23) 0 dX12_isRim_23 rfl rfl ?_
  refine j_bipush (pc := 24) (v := 12) dX12_isRim_24 (by decide) ?_
  refine j_idiv (pc := 26) dX12_isRim_26 (by decide) ?_
  refine j_bipush (pc := 27) (v := 11) dX12_isRim_27 (by decide) ?_
  refine j_icmp_ne (pc := 29) 36 dX12_isRim_29 (by decide) ?_ ?_
  · refine j_iconst (pc := 36) (v := 0) dX12_isRim_36 (by decide) ?_
    exact j_ireturn (pc := 37) dX12_isRim_37 rfl rfl
  exact J.sub [] rfl (j_X12_isRim_B32 z)
theorem dX12_leastOut_0 : decode cX12_leastOut 0 = .ok (.iconst 0, 1) := by decide +kernel
theorem dX12_leastOut_1 : decode cX12_leastOut 1 = .ok (.istore_n 3, 1) := by decide +kernel
theorem dX12_leastOut_2 : decode cX12_leastOut 2 = .ok (.iload_n 3, 1) := by decide +kernel
theorem dX12_leastOut_3 : decode cX12_leastOut 3 = .ok (.sipush 144, 3) := by decide +kernel
theorem dX12_leastOut_6 : decode cX12_leastOut 6 = .ok (.if_icmp .ge 16, 3) := by decide +kernel
theorem dX12_leastOut_9 : decode cX12_leastOut 9 = .ok (.aload_n 0, 1) := by decide +kernel
theorem dX12_leastOut_10 : decode cX12_leastOut 10 = .ok (.getfield 52, 3) := by decide +kernel
theorem dX12_leastOut_13 : decode cX12_leastOut 13 = .ok (.iload_n 3, 1) := by decide +kernel
theorem dX12_leastOut_14 : decode cX12_leastOut 14 = .ok (.iconst (-1), 1) := by decide +kernel
theorem dX12_leastOut_15 : decode cX12_leastOut 15 = .ok (.iastore, 1) := by decide +kernel
theorem dX12_leastOut_16 : decode cX12_leastOut 16 = .ok (.iinc 3 1, 3) := by decide +kernel
theorem dX12_leastOut_19 : decode cX12_leastOut 19 = .ok (.goto (-17), 3) := by decide +kernel
theorem dX12_leastOut_22 : decode cX12_leastOut 22 = .ok (.iconst 1, 1) := by decide +kernel
theorem dX12_leastOut_23 : decode cX12_leastOut 23 = .ok (.istore_n 3, 1) := by decide +kernel
theorem dX12_leastOut_24 : decode cX12_leastOut 24 = .ok (.iload_n 3, 1) := by decide +kernel
theorem dX12_leastOut_25 : decode cX12_leastOut 25 = .ok (.ifCond .eq 193, 3) := by decide +kernel
theorem dX12_leastOut_28 : decode cX12_leastOut 28 = .ok (.iconst 0, 1) := by decide +kernel
theorem dX12_leastOut_29 : decode cX12_leastOut 29 = .ok (.istore_n 3, 1) := by decide +kernel
theorem dX12_leastOut_30 : decode cX12_leastOut 30 = .ok (.iconst 0, 1) := by decide +kernel
theorem dX12_leastOut_31 : decode cX12_leastOut 31 = .ok (.istore 4, 2) := by decide +kernel
theorem dX12_leastOut_33 : decode cX12_leastOut 33 = .ok (.iload 4, 2) := by decide +kernel
theorem dX12_leastOut_35 : decode cX12_leastOut 35 = .ok (.sipush 144, 3) := by decide +kernel
theorem dX12_leastOut_38 : decode cX12_leastOut 38 = .ok (.if_icmp .ge 177, 3) := by decide +kernel
theorem dX12_leastOut_41 : decode cX12_leastOut 41 = .ok (.aload_n 0, 1) := by decide +kernel
theorem dX12_leastOut_42 : decode cX12_leastOut 42 = .ok (.iload 4, 2) := by decide +kernel
theorem dX12_leastOut_44 : decode cX12_leastOut 44 = .ok (.invokevirtual 301, 3) := by decide +kernel
theorem dX12_leastOut_47 : decode cX12_leastOut 47 = .ok (.ifCond .eq 7, 3) := by decide +kernel
theorem dX12_leastOut_50 : decode cX12_leastOut 50 = .ok (.iload_n 1, 1) := by decide +kernel
theorem dX12_leastOut_51 : decode cX12_leastOut 51 = .ok (.goto 4, 3) := by decide +kernel
theorem dX12_leastOut_54 : decode cX12_leastOut 54 = .ok (.iload_n 2, 1) := by decide +kernel
theorem dX12_leastOut_55 : decode cX12_leastOut 55 = .ok (.istore 5, 2) := by decide +kernel
theorem dX12_leastOut_57 : decode cX12_leastOut 57 = .ok (.aload_n 0, 1) := by decide +kernel
theorem dX12_leastOut_58 : decode cX12_leastOut 58 = .ok (.iload 4, 2) := by decide +kernel
theorem dX12_leastOut_60 : decode cX12_leastOut 60 = .ok (.invokevirtual 346, 3) := by decide +kernel
theorem dX12_leastOut_63 : decode cX12_leastOut 63 = .ok (.ifCond .ne 146, 3) := by decide +kernel
theorem dX12_leastOut_66 : decode cX12_leastOut 66 = .ok (.iload 5, 2) := by decide +kernel
theorem dX12_leastOut_68 : decode cX12_leastOut 68 = .ok (.iconst (-1), 1) := by decide +kernel
theorem dX12_leastOut_69 : decode cX12_leastOut 69 = .ok (.if_icmp .ne 6, 3) := by decide +kernel
theorem dX12_leastOut_72 : decode cX12_leastOut 72 = .ok (.goto 137, 3) := by decide +kernel
theorem dX12_leastOut_75 : decode cX12_leastOut 75 = .ok (.aload_n 0, 1) := by decide +kernel
theorem dX12_leastOut_76 : decode cX12_leastOut 76 = .ok (.iload 4, 2) := by decide +kernel
theorem dX12_leastOut_78 : decode cX12_leastOut 78 = .ok (.invokevirtual 356, 3) := by decide +kernel
theorem dX12_leastOut_81 : decode cX12_leastOut 81 = .ok (.ifCond .eq 8, 3) := by decide +kernel
theorem dX12_leastOut_84 : decode cX12_leastOut 84 = .ok (.iload 5, 2) := by decide +kernel
theorem dX12_leastOut_86 : decode cX12_leastOut 86 = .ok (.goto 4, 3) := by decide +kernel
theorem dX12_leastOut_89 : decode cX12_leastOut 89 = .ok (.iconst (-1), 1) := by decide +kernel
theorem dX12_leastOut_90 : decode cX12_leastOut 90 = .ok (.istore 6, 2) := by decide +kernel
theorem dX12_leastOut_92 : decode cX12_leastOut 92 = .ok (.iconst 0, 1) := by decide +kernel
theorem dX12_leastOut_93 : decode cX12_leastOut 93 = .ok (.istore 7, 2) := by decide +kernel
theorem dX12_leastOut_95 : decode cX12_leastOut 95 = .ok (.iload 7, 2) := by decide +kernel
theorem dX12_leastOut_97 : decode cX12_leastOut 97 = .ok (.iconst 4, 1) := by decide +kernel
theorem dX12_leastOut_98 : decode cX12_leastOut 98 = .ok (.if_icmp .ge 68, 3) := by decide +kernel
theorem dX12_leastOut_101 : decode cX12_leastOut 101 = .ok (.iload 4, 2) := by decide +kernel
theorem dX12_leastOut_103 : decode cX12_leastOut 103 = .ok (.iload 7, 2) := by decide +kernel
theorem dX12_leastOut_105 : decode cX12_leastOut 105 = .ok (.invokestatic 304, 3) := by decide +kernel
theorem dX12_leastOut_108 : decode cX12_leastOut 108 = .ok (.istore 8, 2) := by decide +kernel
theorem dX12_leastOut_110 : decode cX12_leastOut 110 = .ok (.iload 8, 2) := by decide +kernel
theorem dX12_leastOut_112 : decode cX12_leastOut 112 = .ok (.iconst (-1), 1) := by decide +kernel
theorem dX12_leastOut_113 : decode cX12_leastOut 113 = .ok (.if_icmp .eq 47, 3) := by decide +kernel
theorem dX12_leastOut_116 : decode cX12_leastOut 116 = .ok (.aload_n 0, 1) := by decide +kernel
theorem dX12_leastOut_117 : decode cX12_leastOut 117 = .ok (.getfield 52, 3) := by decide +kernel
theorem dX12_leastOut_120 : decode cX12_leastOut 120 = .ok (.iload 8, 2) := by decide +kernel
theorem dX12_leastOut_122 : decode cX12_leastOut 122 = .ok (.iaload, 1) := by decide +kernel
theorem dX12_leastOut_123 : decode cX12_leastOut 123 = .ok (.iconst (-1), 1) := by decide +kernel
theorem dX12_leastOut_124 : decode cX12_leastOut 124 = .ok (.if_icmp .eq 36, 3) := by decide +kernel
theorem dX12_leastOut_127 : decode cX12_leastOut 127 = .ok (.iload 6, 2) := by decide +kernel
theorem dX12_leastOut_129 : decode cX12_leastOut 129 = .ok (.iconst (-1), 1) := by decide +kernel
theorem dX12_leastOut_130 : decode cX12_leastOut 130 = .ok (.if_icmp .eq 18, 3) := by decide +kernel
theorem dX12_leastOut_133 : decode cX12_leastOut 133 = .ok (.aload_n 0, 1) := by decide +kernel
theorem dX12_leastOut_134 : decode cX12_leastOut 134 = .ok (.getfield 52, 3) := by decide +kernel
theorem dX12_leastOut_137 : decode cX12_leastOut 137 = .ok (.iload 8, 2) := by decide +kernel
theorem dX12_leastOut_139 : decode cX12_leastOut 139 = .ok (.iaload, 1) := by decide +kernel
theorem dX12_leastOut_140 : decode cX12_leastOut 140 = .ok (.iload 5, 2) := by decide +kernel
theorem dX12_leastOut_142 : decode cX12_leastOut 142 = .ok (.iadd, 1) := by decide +kernel
theorem dX12_leastOut_143 : decode cX12_leastOut 143 = .ok (.iload 6, 2) := by decide +kernel
theorem dX12_leastOut_145 : decode cX12_leastOut 145 = .ok (.if_icmp .ge 15, 3) := by decide +kernel
theorem dX12_leastOut_148 : decode cX12_leastOut 148 = .ok (.aload_n 0, 1) := by decide +kernel
theorem dX12_leastOut_149 : decode cX12_leastOut 149 = .ok (.getfield 52, 3) := by decide +kernel
theorem dX12_leastOut_152 : decode cX12_leastOut 152 = .ok (.iload 8, 2) := by decide +kernel
theorem dX12_leastOut_154 : decode cX12_leastOut 154 = .ok (.iaload, 1) := by decide +kernel
theorem dX12_leastOut_155 : decode cX12_leastOut 155 = .ok (.iload 5, 2) := by decide +kernel
theorem dX12_leastOut_157 : decode cX12_leastOut 157 = .ok (.iadd, 1) := by decide +kernel
theorem dX12_leastOut_158 : decode cX12_leastOut 158 = .ok (.istore 6, 2) := by decide +kernel
theorem dX12_leastOut_160 : decode cX12_leastOut 160 = .ok (.iinc 7 1, 3) := by decide +kernel
theorem dX12_leastOut_163 : decode cX12_leastOut 163 = .ok (.goto (-68), 3) := by decide +kernel
theorem dX12_leastOut_166 : decode cX12_leastOut 166 = .ok (.iload 6, 2) := by decide +kernel
theorem dX12_leastOut_168 : decode cX12_leastOut 168 = .ok (.iconst (-1), 1) := by decide +kernel
theorem dX12_leastOut_169 : decode cX12_leastOut 169 = .ok (.if_icmp .eq 40, 3) := by decide +kernel
theorem dX12_leastOut_172 : decode cX12_leastOut 172 = .ok (.aload_n 0, 1) := by decide +kernel
theorem dX12_leastOut_173 : decode cX12_leastOut 173 = .ok (.getfield 52, 3) := by decide +kernel
theorem dX12_leastOut_176 : decode cX12_leastOut 176 = .ok (.iload 4, 2) := by decide +kernel
theorem dX12_leastOut_178 : decode cX12_leastOut 178 = .ok (.iaload, 1) := by decide +kernel
theorem dX12_leastOut_179 : decode cX12_leastOut 179 = .ok (.iconst (-1), 1) := by decide +kernel
theorem dX12_leastOut_180 : decode cX12_leastOut 180 = .ok (.if_icmp .eq 18, 3) := by decide +kernel
theorem dX12_leastOut_183 : decode cX12_leastOut 183 = .ok (.iload 6, 2) := by decide +kernel
theorem dX12_leastOut_185 : decode cX12_leastOut 185 = .ok (.aload_n 0, 1) := by decide +kernel
theorem dX12_leastOut_186 : decode cX12_leastOut 186 = .ok (.getfield 52, 3) := by decide +kernel
theorem dX12_leastOut_189 : decode cX12_leastOut 189 = .ok (.iload 4, 2) := by decide +kernel
theorem dX12_leastOut_191 : decode cX12_leastOut 191 = .ok (.iaload, 1) := by decide +kernel
theorem dX12_leastOut_192 : decode cX12_leastOut 192 = .ok (.if_icmp .lt 6, 3) := by decide +kernel
theorem dX12_leastOut_195 : decode cX12_leastOut 195 = .ok (.goto 14, 3) := by decide +kernel
theorem dX12_leastOut_198 : decode cX12_leastOut 198 = .ok (.aload_n 0, 1) := by decide +kernel
theorem dX12_leastOut_199 : decode cX12_leastOut 199 = .ok (.getfield 52, 3) := by decide +kernel
theorem dX12_leastOut_202 : decode cX12_leastOut 202 = .ok (.iload 4, 2) := by decide +kernel
theorem dX12_leastOut_204 : decode cX12_leastOut 204 = .ok (.iload 6, 2) := by decide +kernel
theorem dX12_leastOut_206 : decode cX12_leastOut 206 = .ok (.iastore, 1) := by decide +kernel
theorem dX12_leastOut_207 : decode cX12_leastOut 207 = .ok (.iconst 1, 1) := by decide +kernel
theorem dX12_leastOut_208 : decode cX12_leastOut 208 = .ok (.istore_n 3, 1) := by decide +kernel
theorem dX12_leastOut_209 : decode cX12_leastOut 209 = .ok (.iinc 4 1, 3) := by decide +kernel
theorem dX12_leastOut_212 : decode cX12_leastOut 212 = .ok (.goto (-179), 3) := by decide +kernel
theorem dX12_leastOut_215 : decode cX12_leastOut 215 = .ok (.goto (-191), 3) := by decide +kernel
theorem dX12_leastOut_218 : decode cX12_leastOut 218 = .ok (.iconst (-1), 1) := by decide +kernel
theorem dX12_leastOut_219 : decode cX12_leastOut 219 = .ok (.istore 4, 2) := by decide +kernel
theorem dX12_leastOut_221 : decode cX12_leastOut 221 = .ok (.iconst 0, 1) := by decide +kernel
theorem dX12_leastOut_222 : decode cX12_leastOut 222 = .ok (.istore 5, 2) := by decide +kernel
theorem dX12_leastOut_224 : decode cX12_leastOut 224 = .ok (.iload 5, 2) := by decide +kernel
theorem dX12_leastOut_226 : decode cX12_leastOut 226 = .ok (.sipush 144, 3) := by decide +kernel
theorem dX12_leastOut_229 : decode cX12_leastOut 229 = .ok (.if_icmp .ge 55, 3) := by decide +kernel
theorem dX12_leastOut_232 : decode cX12_leastOut 232 = .ok (.iload 5, 2) := by decide +kernel
theorem dX12_leastOut_234 : decode cX12_leastOut 234 = .ok (.invokestatic 359, 3) := by decide +kernel
theorem dX12_leastOut_237 : decode cX12_leastOut 237 = .ok (.ifCond .eq 41, 3) := by decide +kernel
theorem dX12_leastOut_240 : decode cX12_leastOut 240 = .ok (.aload_n 0, 1) := by decide +kernel
theorem dX12_leastOut_241 : decode cX12_leastOut 241 = .ok (.getfield 52, 3) := by decide +kernel
theorem dX12_leastOut_244 : decode cX12_leastOut 244 = .ok (.iload 5, 2) := by decide +kernel
theorem dX12_leastOut_246 : decode cX12_leastOut 246 = .ok (.iaload, 1) := by decide +kernel
theorem dX12_leastOut_247 : decode cX12_leastOut 247 = .ok (.iconst (-1), 1) := by decide +kernel
theorem dX12_leastOut_248 : decode cX12_leastOut 248 = .ok (.if_icmp .eq 30, 3) := by decide +kernel
theorem dX12_leastOut_251 : decode cX12_leastOut 251 = .ok (.iload 4, 2) := by decide +kernel
theorem dX12_leastOut_253 : decode cX12_leastOut 253 = .ok (.iconst (-1), 1) := by decide +kernel
theorem dX12_leastOut_254 : decode cX12_leastOut 254 = .ok (.if_icmp .eq 15, 3) := by decide +kernel
theorem dX12_leastOut_257 : decode cX12_leastOut 257 = .ok (.aload_n 0, 1) := by decide +kernel
theorem dX12_leastOut_258 : decode cX12_leastOut 258 = .ok (.getfield 52, 3) := by decide +kernel
theorem dX12_leastOut_261 : decode cX12_leastOut 261 = .ok (.iload 5, 2) := by decide +kernel
theorem dX12_leastOut_263 : decode cX12_leastOut 263 = .ok (.iaload, 1) := by decide +kernel
theorem dX12_leastOut_264 : decode cX12_leastOut 264 = .ok (.iload 4, 2) := by decide +kernel
theorem dX12_leastOut_266 : decode cX12_leastOut 266 = .ok (.if_icmp .ge 12, 3) := by decide +kernel
theorem dX12_leastOut_269 : decode cX12_leastOut 269 = .ok (.aload_n 0, 1) := by decide +kernel
theorem dX12_leastOut_270 : decode cX12_leastOut 270 = .ok (.getfield 52, 3) := by decide +kernel
theorem dX12_leastOut_273 : decode cX12_leastOut 273 = .ok (.iload 5, 2) := by decide +kernel
theorem dX12_leastOut_275 : decode cX12_leastOut 275 = .ok (.iaload, 1) := by decide +kernel
theorem dX12_leastOut_276 : decode cX12_leastOut 276 = .ok (.istore 4, 2) := by decide +kernel
theorem dX12_leastOut_278 : decode cX12_leastOut 278 = .ok (.iinc 5 1, 3) := by decide +kernel
theorem dX12_leastOut_281 : decode cX12_leastOut 281 = .ok (.goto (-57), 3) := by decide +kernel
theorem dX12_leastOut_284 : decode cX12_leastOut 284 = .ok (.iload 4, 2) := by decide +kernel
theorem dX12_leastOut_286 : decode cX12_leastOut 286 = .ok (.ireturn, 1) := by decide +kernel
theorem cw_X12_leastOut_359 : CwS mi_X12_leastOut mi_X12_isRim yX12_isRim 359 1 := ⟨⟨w_1575, w_1576, w_108, w_1577⟩, ⟨by decide, by decide⟩, by decide +kernel, by decide, by decide⟩
theorem cw_X12_leastOut_304 : CwS mi_X12_leastOut mi_X12_beside yX12_beside 304 2 := ⟨⟨w_1519, w_1520, w_108, w_1521⟩, ⟨by decide, by decide⟩, by decide +kernel, by decide, by decide⟩
theorem cw_X12_leastOut_346 : CwV mi_X12_leastOut mi_X12_isShaft yX12_isShaft RX12 346 1 := ⟨⟨w_1567, w_1569, w_77, w_108, w_1570⟩, ⟨by decide, by decide⟩, by decide +kernel, by decide, by decide⟩
theorem cw_X12_leastOut_356 : CwV mi_X12_leastOut mi_X12_isBesideShaft yX12_isBesideShaft RX12 356 1 := ⟨⟨w_1571, w_1573, w_78, w_108, w_1574⟩, ⟨by decide, by decide⟩, by decide +kernel, by decide, by decide⟩
theorem cw_X12_leastOut_301 : CwV mi_X12_leastOut mi_X12_isFrozen yX12_isFrozen RX12 301 1 := ⟨⟨w_1529, w_1531, w_68, w_108, w_1532⟩, ⟨by decide, by decide⟩, by decide +kernel, by decide, by decide⟩
theorem j_X12_leastOut_B278 {l : Launch} {Γ : Am} {k224 : Nat → Int32 → Int32 → Hp → Option (Int32 × Hp)} (hL224 : ∀ (r0 : Nat) (v4 : Int32) (v5 : Int32) (z : Hp), J l Γ mi_X12_leastOut cvI 0 0 224 [(0, .ref (mB Γ + r0)), (4, .int v4), (5, .int v5)] [] z (k224 r0 v4 v5 z)) : ∀ (r0 : Nat) (v4 : Int32) (v5 : Int32) (z : Hp), J l Γ mi_X12_leastOut cvI 0 0 278 [(0, .ref (mB Γ + r0)), (4, .int v4), (5, .int v5)] [] z (m_X12_leastOut_B278 k224 r0 v4 v5 z) := by
  intro r0 v4 v5 z
  unfold m_X12_leastOut_B278
  refine j_iinc (pc := 278) (n0 := 2) (v0 := v5 + 1) (lv2 := [(5, .int (v5 + 1)), (0, .ref (mB Γ + r0)), (4, .int v4)]) dX12_leastOut_278 rfl rfl (by decide) rfl ?_
  refine j_goto (pc := 281) 224 dX12_leastOut_281 (by decide) ?_
  exact J.sub [1, 2, 0] rfl (hL224 r0 v4 (v5 + 1) z)
theorem j_X12_leastOut_B269 {l : Launch} {Γ : Am} {k224 : Nat → Int32 → Int32 → Hp → Option (Int32 × Hp)} (hL224 : ∀ (r0 : Nat) (v4 : Int32) (v5 : Int32) (z : Hp), J l Γ mi_X12_leastOut cvI 0 0 224 [(0, .ref (mB Γ + r0)), (4, .int v4), (5, .int v5)] [] z (k224 r0 v4 v5 z)) : ∀ (r0 : Nat) (v5 : Int32) (z : Hp), J l Γ mi_X12_leastOut cvI 0 0 269 [(0, .ref (mB Γ + r0)), (5, .int v5)] [] z (m_X12_leastOut_B269 k224 r0 v5 z) := by
  intro r0 v5 z
  unfold m_X12_leastOut_B269
  refine j_aload_n (pc := 269) 0 dX12_leastOut_269 rfl rfl ?_
  refine j_getR (pc := 270) ok_X12 (by decide) rfl w_1264 dX12_leastOut_270 (fun a1 => ?_)
  refine j_iload (pc := 273) 1 dX12_leastOut_273 rfl ?_
  refine j_iaload (pc := 275) dX12_leastOut_275 (fun x2 => ?_)
  refine j_istore (pc := 276) (lv2 := [(4, .int x2), (0, .ref (mB Γ + r0)), (5, .int v5)]) dX12_leastOut_276 (by decide) rfl ?_
  exact J.sub [1, 0, 2] rfl ((j_X12_leastOut_B278 hL224) r0 x2 v5 z)
theorem j_X12_leastOut_L224 {l : Launch} {Γ : Am}   : ∀ (f : Nat), ∀ (r0 : Nat) (v4 : Int32) (v5 : Int32) (z : Hp), J l Γ mi_X12_leastOut cvI 0 0 224 [(0, .ref (mB Γ + r0)), (4, .int v4), (5, .int v5)] [] z (m_X12_leastOut_L224  f r0 v4 v5 z) := by
  intro f
  induction f with
  | zero => intro r0 v4 v5 z; exact J.none
  | succ f hL224 =>
    intro r0 v4 v5 z
    rw [m_X12_leastOut_L224]
    refine j_iload (pc := 224) 2 dX12_leastOut_224 rfl ?_
    refine j_sipush (pc := 226) (v := 144) dX12_leastOut_226 (by decide) ?_
    refine j_icmp_ge (pc := 229) 284 dX12_leastOut_229 (by decide) ?_ ?_
    · refine j_iload (pc := 284) 1 dX12_leastOut_284 rfl ?_
      exact j_ireturn (pc := 286) dX12_leastOut_286 rfl rfl
    refine j_iload (pc := 232) 2 dX12_leastOut_232 rfl ?_
    refine j_callS_I (pc := 234) (as := [.int v5]) (mc2 := 0) (ms2 := 0) (ct_X12_isRim _ _) cw_X12_leastOut_359 dX12_leastOut_234 (Nat.le_of_ble_eq_true rfl) rfl (by decide) (by decide) (fun x4 z3 => ?_)
    refine j_if_eq (pc := 237) 278 dX12_leastOut_237 (by decide) ?_ ?_
    · exact J.sub [0, 1, 2] rfl ((j_X12_leastOut_B278 hL224) r0 v4 v5 z3)
    refine j_aload_n (pc := 240) 0 dX12_leastOut_240 rfl rfl ?_
    refine j_getR (pc := 241) ok_X12 (by decide) rfl w_1264 dX12_leastOut_241 (fun a5 => ?_)
    refine j_iload (pc := 244) 2 dX12_leastOut_244 rfl ?_
    refine j_iaload (pc := 246) dX12_leastOut_246 (fun x6 => ?_)
    refine j_iconst (pc := 247) (v := (-1)) dX12_leastOut_247 (by decide) ?_
    refine j_icmp_eq (pc := 248) 278 dX12_leastOut_248 (by decide) ?_ ?_
    · exact J.sub [0, 1, 2] rfl ((j_X12_leastOut_B278 hL224) r0 v4 v5 z3)
    refine j_iload (pc := 251) 1 dX12_leastOut_251 rfl ?_
    refine j_iconst (pc := 253) (v := (-1)) dX12_leastOut_253 (by decide) ?_
    refine j_icmp_eq (pc := 254) 269 dX12_leastOut_254 (by decide) ?_ ?_
    · exact J.sub [0, 2] rfl ((j_X12_leastOut_B269 hL224) r0 v5 z3)
    refine j_aload_n (pc := 257) 0 dX12_leastOut_257 rfl rfl ?_
    refine j_getR (pc := 258) ok_X12 (by decide) rfl w_1264 dX12_leastOut_258 (fun a7 => ?_)
    refine j_iload (pc := 261) 2 dX12_leastOut_261 rfl ?_
    refine j_iaload (pc := 263) dX12_leastOut_263 (fun x8 => ?_)
    refine j_iload (pc := 264) 1 dX12_leastOut_264 rfl ?_
    refine j_icmp_ge (pc := 266) 278 dX12_leastOut_266 (by decide) ?_ ?_
    · exact J.sub [0, 1, 2] rfl ((j_X12_leastOut_B278 hL224) r0 v4 v5 z3)
    exact J.sub [0, 2] rfl ((j_X12_leastOut_B269 hL224) r0 v5 z3)
theorem j_X12_leastOut_B218 {l : Launch} {Γ : Am}   : ∀ (r0 : Nat) (z : Hp), J l Γ mi_X12_leastOut cvI 0 0 218 [(0, .ref (mB Γ + r0))] [] z (m_X12_leastOut_B218  r0 z) := by
  intro r0 z
  unfold m_X12_leastOut_B218
  refine j_iconst (pc := 218) (v := (-1)) dX12_leastOut_218 (by decide) ?_
  refine j_istore (pc := 219) (lv2 := [(4, .int (-1)), (0, .ref (mB Γ + r0))]) dX12_leastOut_219 (by decide) rfl ?_
  refine j_iconst (pc := 221) (v := 0) dX12_leastOut_221 (by decide) ?_
  refine j_istore (pc := 222) (lv2 := [(5, .int 0), (4, .int (-1)), (0, .ref (mB Γ + r0))]) dX12_leastOut_222 (by decide) rfl ?_
  exact J.sub [2, 1, 0] rfl ((j_X12_leastOut_L224 FU) r0 (-1) 0 z)
theorem j_X12_leastOut_B215 {l : Launch} {Γ : Am} {k24 : Nat → Int32 → Int32 → Int32 → Hp → Option (Int32 × Hp)} (hL24 : ∀ (r0 : Nat) (v1 : Int32) (v2 : Int32) (v3 : Int32) (z : Hp), J l Γ mi_X12_leastOut cvI 0 0 24 [(0, .ref (mB Γ + r0)), (1, .int v1), (2, .int v2), (3, .int v3)] [] z (k24 r0 v1 v2 v3 z)) : ∀ (r0 : Nat) (v1 : Int32) (v2 : Int32) (v3 : Int32) (z : Hp), J l Γ mi_X12_leastOut cvI 0 0 215 [(0, .ref (mB Γ + r0)), (1, .int v1), (2, .int v2), (3, .int v3)] [] z (m_X12_leastOut_B215 k24 r0 v1 v2 v3 z) := by
  intro r0 v1 v2 v3 z
  unfold m_X12_leastOut_B215
  refine j_goto (pc := 215) 24 dX12_leastOut_215 (by decide) ?_
  exact J.sub [0, 1, 2, 3] rfl (hL24 r0 v1 v2 v3 z)
theorem j_X12_leastOut_B209 {l : Launch} {Γ : Am} {k33 : Nat → Int32 → Int32 → Int32 → Int32 → Hp → Option (Int32 × Hp)} (hL33 : ∀ (r0 : Nat) (v1 : Int32) (v2 : Int32) (v3 : Int32) (v4 : Int32) (z : Hp), J l Γ mi_X12_leastOut cvI 0 0 33 [(0, .ref (mB Γ + r0)), (1, .int v1), (2, .int v2), (3, .int v3), (4, .int v4)] [] z (k33 r0 v1 v2 v3 v4 z)) : ∀ (r0 : Nat) (v1 : Int32) (v2 : Int32) (v3 : Int32) (v4 : Int32) (z : Hp), J l Γ mi_X12_leastOut cvI 0 0 209 [(0, .ref (mB Γ + r0)), (1, .int v1), (2, .int v2), (3, .int v3), (4, .int v4)] [] z (m_X12_leastOut_B209 k33 r0 v1 v2 v3 v4 z) := by
  intro r0 v1 v2 v3 v4 z
  unfold m_X12_leastOut_B209
  refine j_iinc (pc := 209) (n0 := 4) (v0 := v4 + 1) (lv2 := [(4, .int (v4 + 1)), (0, .ref (mB Γ + r0)), (1, .int v1), (2, .int v2), (3, .int v3)]) dX12_leastOut_209 rfl rfl (by decide) rfl ?_
  refine j_goto (pc := 212) 33 dX12_leastOut_212 (by decide) ?_
  exact J.sub [1, 2, 3, 4, 0] rfl (hL33 r0 v1 v2 v3 (v4 + 1) z)
theorem j_X12_leastOut_B198 {l : Launch} {Γ : Am} {k33 : Nat → Int32 → Int32 → Int32 → Int32 → Hp → Option (Int32 × Hp)} (hL33 : ∀ (r0 : Nat) (v1 : Int32) (v2 : Int32) (v3 : Int32) (v4 : Int32) (z : Hp), J l Γ mi_X12_leastOut cvI 0 0 33 [(0, .ref (mB Γ + r0)), (1, .int v1), (2, .int v2), (3, .int v3), (4, .int v4)] [] z (k33 r0 v1 v2 v3 v4 z)) : ∀ (r0 : Nat) (v1 : Int32) (v2 : Int32) (v4 : Int32) (v6 : Int32) (z : Hp), J l Γ mi_X12_leastOut cvI 0 0 198 [(0, .ref (mB Γ + r0)), (1, .int v1), (2, .int v2), (4, .int v4), (6, .int v6)] [] z (m_X12_leastOut_B198 k33 r0 v1 v2 v4 v6 z) := by
  intro r0 v1 v2 v4 v6 z
  unfold m_X12_leastOut_B198
  refine j_aload_n (pc := 198) 0 dX12_leastOut_198 rfl rfl ?_
  refine j_getR (pc := 199) ok_X12 (by decide) rfl w_1264 dX12_leastOut_199 (fun a9 => ?_)
  refine j_iload (pc := 202) 3 dX12_leastOut_202 rfl ?_
  refine j_iload (pc := 204) 4 dX12_leastOut_204 rfl ?_
  refine j_iastore (pc := 206) dX12_leastOut_206 (fun z10 => ?_)
  refine j_iconst (pc := 207) (v := 1) dX12_leastOut_207 (by decide) ?_
  refine j_istore_n (pc := 208) (lv2 := [(3, .int 1), (0, .ref (mB Γ + r0)), (1, .int v1), (2, .int v2), (4, .int v4), (6, .int v6)]) dX12_leastOut_208 rfl (by decide) rfl ?_
  exact J.sub [1, 2, 3, 0, 4] rfl ((j_X12_leastOut_B209 hL33) r0 v1 v2 1 v4 z10)
theorem j_X12_leastOut_B166 {l : Launch} {Γ : Am} {k33 : Nat → Int32 → Int32 → Int32 → Int32 → Hp → Option (Int32 × Hp)} (hL33 : ∀ (r0 : Nat) (v1 : Int32) (v2 : Int32) (v3 : Int32) (v4 : Int32) (z : Hp), J l Γ mi_X12_leastOut cvI 0 0 33 [(0, .ref (mB Γ + r0)), (1, .int v1), (2, .int v2), (3, .int v3), (4, .int v4)] [] z (k33 r0 v1 v2 v3 v4 z)) : ∀ (r0 : Nat) (v1 : Int32) (v2 : Int32) (v3 : Int32) (v4 : Int32) (v6 : Int32) (z : Hp), J l Γ mi_X12_leastOut cvI 0 0 166 [(0, .ref (mB Γ + r0)), (1, .int v1), (2, .int v2), (3, .int v3), (4, .int v4), (6, .int v6)] [] z (m_X12_leastOut_B166 k33 r0 v1 v2 v3 v4 v6 z) := by
  intro r0 v1 v2 v3 v4 v6 z
  unfold m_X12_leastOut_B166
  refine j_iload (pc := 166) 5 dX12_leastOut_166 rfl ?_
  refine j_iconst (pc := 168) (v := (-1)) dX12_leastOut_168 (by decide) ?_
  refine j_icmp_eq (pc := 169) 209 dX12_leastOut_169 (by decide) ?_ ?_
  · exact J.sub [0, 1, 2, 3, 4] rfl ((j_X12_leastOut_B209 hL33) r0 v1 v2 v3 v4 z)
  refine j_aload_n (pc := 172) 0 dX12_leastOut_172 rfl rfl ?_
  refine j_getR (pc := 173) ok_X12 (by decide) rfl w_1264 dX12_leastOut_173 (fun a11 => ?_)
  refine j_iload (pc := 176) 4 dX12_leastOut_176 rfl ?_
  refine j_iaload (pc := 178) dX12_leastOut_178 (fun x12 => ?_)
  refine j_iconst (pc := 179) (v := (-1)) dX12_leastOut_179 (by decide) ?_
  refine j_icmp_eq (pc := 180) 198 dX12_leastOut_180 (by decide) ?_ ?_
  · exact J.sub [0, 1, 2, 4, 5] rfl ((j_X12_leastOut_B198 hL33) r0 v1 v2 v4 v6 z)
  refine j_iload (pc := 183) 5 dX12_leastOut_183 rfl ?_
  refine j_aload_n (pc := 185) 0 dX12_leastOut_185 rfl rfl ?_
  refine j_getR (pc := 186) ok_X12 (by decide) rfl w_1264 dX12_leastOut_186 (fun a13 => ?_)
  refine j_iload (pc := 189) 4 dX12_leastOut_189 rfl ?_
  refine j_iaload (pc := 191) dX12_leastOut_191 (fun x14 => ?_)
  refine j_icmp_lt (pc := 192) 198 dX12_leastOut_192 (by decide) ?_ ?_
  · exact J.sub [0, 1, 2, 4, 5] rfl ((j_X12_leastOut_B198 hL33) r0 v1 v2 v4 v6 z)
  refine j_goto (pc := 195) 209 dX12_leastOut_195 (by decide) ?_
  exact J.sub [0, 1, 2, 3, 4] rfl ((j_X12_leastOut_B209 hL33) r0 v1 v2 v3 v4 z)
theorem j_X12_leastOut_B160 {l : Launch} {Γ : Am} {k95 : Nat → Int32 → Int32 → Int32 → Int32 → Int32 → Int32 → Int32 → Hp → Option (Int32 × Hp)} (hL95 : ∀ (r0 : Nat) (v1 : Int32) (v2 : Int32) (v3 : Int32) (v4 : Int32) (v5 : Int32) (v6 : Int32) (v7 : Int32) (z : Hp), J l Γ mi_X12_leastOut cvI 0 0 95 [(0, .ref (mB Γ + r0)), (1, .int v1), (2, .int v2), (3, .int v3), (4, .int v4), (5, .int v5), (6, .int v6), (7, .int v7)] [] z (k95 r0 v1 v2 v3 v4 v5 v6 v7 z)) : ∀ (r0 : Nat) (v1 : Int32) (v2 : Int32) (v3 : Int32) (v4 : Int32) (v5 : Int32) (v6 : Int32) (v7 : Int32) (z : Hp), J l Γ mi_X12_leastOut cvI 0 0 160 [(0, .ref (mB Γ + r0)), (1, .int v1), (2, .int v2), (3, .int v3), (4, .int v4), (5, .int v5), (6, .int v6), (7, .int v7)] [] z (m_X12_leastOut_B160 k95 r0 v1 v2 v3 v4 v5 v6 v7 z) := by
  intro r0 v1 v2 v3 v4 v5 v6 v7 z
  unfold m_X12_leastOut_B160
  refine j_iinc (pc := 160) (n0 := 7) (v0 := v7 + 1) (lv2 := [(7, .int (v7 + 1)), (0, .ref (mB Γ + r0)), (1, .int v1), (2, .int v2), (3, .int v3), (4, .int v4), (5, .int v5), (6, .int v6)]) dX12_leastOut_160 rfl rfl (by decide) rfl ?_
  refine j_goto (pc := 163) 95 dX12_leastOut_163 (by decide) ?_
  exact J.sub [1, 2, 3, 4, 5, 6, 7, 0] rfl (hL95 r0 v1 v2 v3 v4 v5 v6 (v7 + 1) z)
theorem j_X12_leastOut_B148 {l : Launch} {Γ : Am} {k95 : Nat → Int32 → Int32 → Int32 → Int32 → Int32 → Int32 → Int32 → Hp → Option (Int32 × Hp)} (hL95 : ∀ (r0 : Nat) (v1 : Int32) (v2 : Int32) (v3 : Int32) (v4 : Int32) (v5 : Int32) (v6 : Int32) (v7 : Int32) (z : Hp), J l Γ mi_X12_leastOut cvI 0 0 95 [(0, .ref (mB Γ + r0)), (1, .int v1), (2, .int v2), (3, .int v3), (4, .int v4), (5, .int v5), (6, .int v6), (7, .int v7)] [] z (k95 r0 v1 v2 v3 v4 v5 v6 v7 z)) : ∀ (r0 : Nat) (v1 : Int32) (v2 : Int32) (v3 : Int32) (v4 : Int32) (v5 : Int32) (v7 : Int32) (v8 : Int32) (z : Hp), J l Γ mi_X12_leastOut cvI 0 0 148 [(0, .ref (mB Γ + r0)), (1, .int v1), (2, .int v2), (3, .int v3), (4, .int v4), (5, .int v5), (7, .int v7), (8, .int v8)] [] z (m_X12_leastOut_B148 k95 r0 v1 v2 v3 v4 v5 v7 v8 z) := by
  intro r0 v1 v2 v3 v4 v5 v7 v8 z
  unfold m_X12_leastOut_B148
  refine j_aload_n (pc := 148) 0 dX12_leastOut_148 rfl rfl ?_
  refine j_getR (pc := 149) ok_X12 (by decide) rfl w_1264 dX12_leastOut_149 (fun a15 => ?_)
  refine j_iload (pc := 152) 7 dX12_leastOut_152 rfl ?_
  refine j_iaload (pc := 154) dX12_leastOut_154 (fun x16 => ?_)
  refine j_iload (pc := 155) 5 dX12_leastOut_155 rfl ?_
  refine j_iadd (pc := 157) dX12_leastOut_157 ?_
  refine j_istore (pc := 158) (lv2 := [(6, .int (x16 + v5)), (0, .ref (mB Γ + r0)), (1, .int v1), (2, .int v2), (3, .int v3), (4, .int v4), (5, .int v5), (7, .int v7), (8, .int v8)]) dX12_leastOut_158 (by decide) rfl ?_
  exact J.sub [1, 2, 3, 4, 5, 6, 0, 7] rfl ((j_X12_leastOut_B160 hL95) r0 v1 v2 v3 v4 v5 (x16 + v5) v7 z)
theorem j_X12_leastOut_L95 {l : Launch} {Γ : Am} {k166 : Nat → Int32 → Int32 → Int32 → Int32 → Int32 → Hp → Option (Int32 × Hp)} (hL166 : ∀ (r0 : Nat) (v1 : Int32) (v2 : Int32) (v3 : Int32) (v4 : Int32) (v6 : Int32) (z : Hp), J l Γ mi_X12_leastOut cvI 0 0 166 [(0, .ref (mB Γ + r0)), (1, .int v1), (2, .int v2), (3, .int v3), (4, .int v4), (6, .int v6)] [] z (k166 r0 v1 v2 v3 v4 v6 z)) : ∀ (f : Nat), ∀ (r0 : Nat) (v1 : Int32) (v2 : Int32) (v3 : Int32) (v4 : Int32) (v5 : Int32) (v6 : Int32) (v7 : Int32) (z : Hp), J l Γ mi_X12_leastOut cvI 0 0 95 [(0, .ref (mB Γ + r0)), (1, .int v1), (2, .int v2), (3, .int v3), (4, .int v4), (5, .int v5), (6, .int v6), (7, .int v7)] [] z (m_X12_leastOut_L95 k166 f r0 v1 v2 v3 v4 v5 v6 v7 z) := by
  intro f
  induction f with
  | zero => intro r0 v1 v2 v3 v4 v5 v6 v7 z; exact J.none
  | succ f hL95 =>
    intro r0 v1 v2 v3 v4 v5 v6 v7 z
    rw [m_X12_leastOut_L95]
    refine j_iload (pc := 95) 7 dX12_leastOut_95 rfl ?_
    refine j_iconst (pc := 97) (v := 4) dX12_leastOut_97 (by decide) ?_
    refine j_icmp_ge (pc := 98) 166 dX12_leastOut_98 (by decide) ?_ ?_
    · exact J.sub [0, 1, 2, 3, 4, 6] rfl (hL166 r0 v1 v2 v3 v4 v6 z)
    refine j_iload (pc := 101) 4 dX12_leastOut_101 rfl ?_
    refine j_iload (pc := 103) 7 dX12_leastOut_103 rfl ?_
    refine j_callS_I (pc := 105) (as := [.int v4, .int v7]) (mc2 := 0) (ms2 := 0) (ct_X12_beside _ _ _) cw_X12_leastOut_304 dX12_leastOut_105 (Nat.le_of_ble_eq_true rfl) rfl (by decide) (by decide) (fun x18 z17 => ?_)
    refine j_istore (pc := 108) (lv2 := [(8, .int x18), (0, .ref (mB Γ + r0)), (1, .int v1), (2, .int v2), (3, .int v3), (4, .int v4), (5, .int v5), (6, .int v6), (7, .int v7)]) dX12_leastOut_108 (by decide) rfl ?_
    refine j_iload (pc := 110) 0 dX12_leastOut_110 rfl ?_
    refine j_iconst (pc := 112) (v := (-1)) dX12_leastOut_112 (by decide) ?_
    refine j_icmp_eq (pc := 113) 160 dX12_leastOut_113 (by decide) ?_ ?_
    · exact J.sub [1, 2, 3, 4, 5, 6, 7, 8] rfl ((j_X12_leastOut_B160 hL95) r0 v1 v2 v3 v4 v5 v6 v7 z17)
    refine j_aload_n (pc := 116) 1 dX12_leastOut_116 rfl rfl ?_
    refine j_getR (pc := 117) ok_X12 (by decide) rfl w_1264 dX12_leastOut_117 (fun a19 => ?_)
    refine j_iload (pc := 120) 0 dX12_leastOut_120 rfl ?_
    refine j_iaload (pc := 122) dX12_leastOut_122 (fun x20 => ?_)
    refine j_iconst (pc := 123) (v := (-1)) dX12_leastOut_123 (by decide) ?_
    refine j_icmp_eq (pc := 124) 160 dX12_leastOut_124 (by decide) ?_ ?_
    · exact J.sub [1, 2, 3, 4, 5, 6, 7, 8] rfl ((j_X12_leastOut_B160 hL95) r0 v1 v2 v3 v4 v5 v6 v7 z17)
    refine j_iload (pc := 127) 7 dX12_leastOut_127 rfl ?_
    refine j_iconst (pc := 129) (v := (-1)) dX12_leastOut_129 (by decide) ?_
    refine j_icmp_eq (pc := 130) 148 dX12_leastOut_130 (by decide) ?_ ?_
    · exact J.sub [1, 2, 3, 4, 5, 6, 8, 0] rfl ((j_X12_leastOut_B148 hL95) r0 v1 v2 v3 v4 v5 v7 x18 z17)
    refine j_aload_n (pc := 133) 1 dX12_leastOut_133 rfl rfl ?_
    refine j_getR (pc := 134) ok_X12 (by decide) rfl w_1264 dX12_leastOut_134 (fun a21 => ?_)
    refine j_iload (pc := 137) 0 dX12_leastOut_137 rfl ?_
    refine j_iaload (pc := 139) dX12_leastOut_139 (fun x22 => ?_)
    refine j_iload (pc := 140) 6 dX12_leastOut_140 rfl ?_
    refine j_iadd (pc := 142) dX12_leastOut_142 ?_
    refine j_iload (pc := 143) 7 dX12_leastOut_143 rfl ?_
    refine j_icmp_ge (pc := 145) 160 dX12_leastOut_145 (by decide) ?_ ?_
    · exact J.sub [1, 2, 3, 4, 5, 6, 7, 8] rfl ((j_X12_leastOut_B160 hL95) r0 v1 v2 v3 v4 v5 v6 v7 z17)
    exact J.sub [1, 2, 3, 4, 5, 6, 8, 0] rfl ((j_X12_leastOut_B148 hL95) r0 v1 v2 v3 v4 v5 v7 x18 z17)
theorem j_X12_leastOut_B90 {l : Launch} {Γ : Am} {k33 : Nat → Int32 → Int32 → Int32 → Int32 → Hp → Option (Int32 × Hp)} (hL33 : ∀ (r0 : Nat) (v1 : Int32) (v2 : Int32) (v3 : Int32) (v4 : Int32) (z : Hp), J l Γ mi_X12_leastOut cvI 0 0 33 [(0, .ref (mB Γ + r0)), (1, .int v1), (2, .int v2), (3, .int v3), (4, .int v4)] [] z (k33 r0 v1 v2 v3 v4 z)) : ∀ (r0 : Nat) (v1 : Int32) (v2 : Int32) (v3 : Int32) (v4 : Int32) (v5 : Int32) (t0 : Int32) (z : Hp), J l Γ mi_X12_leastOut cvI 0 0 90 [(0, .ref (mB Γ + r0)), (1, .int v1), (2, .int v2), (3, .int v3), (4, .int v4), (5, .int v5)] [.int t0] z (m_X12_leastOut_B90 k33 r0 v1 v2 v3 v4 v5 t0 z) := by
  intro r0 v1 v2 v3 v4 v5 t0 z
  unfold m_X12_leastOut_B90
  refine j_istore (pc := 90) (lv2 := [(6, .int t0), (0, .ref (mB Γ + r0)), (1, .int v1), (2, .int v2), (3, .int v3), (4, .int v4), (5, .int v5)]) dX12_leastOut_90 (by decide) rfl ?_
  refine j_iconst (pc := 92) (v := 0) dX12_leastOut_92 (by decide) ?_
  refine j_istore (pc := 93) (lv2 := [(7, .int 0), (6, .int t0), (0, .ref (mB Γ + r0)), (1, .int v1), (2, .int v2), (3, .int v3), (4, .int v4), (5, .int v5)]) dX12_leastOut_93 (by decide) rfl ?_
  exact J.sub [2, 3, 4, 5, 6, 7, 1, 0] rfl ((j_X12_leastOut_L95 (j_X12_leastOut_B166 hL33) FU) r0 v1 v2 v3 v4 v5 t0 0 z)
theorem j_X12_leastOut_B55 {l : Launch} {Γ : Am} {k33 : Nat → Int32 → Int32 → Int32 → Int32 → Hp → Option (Int32 × Hp)} (hL33 : ∀ (r0 : Nat) (v1 : Int32) (v2 : Int32) (v3 : Int32) (v4 : Int32) (z : Hp), J l Γ mi_X12_leastOut cvI 0 0 33 [(0, .ref (mB Γ + r0)), (1, .int v1), (2, .int v2), (3, .int v3), (4, .int v4)] [] z (k33 r0 v1 v2 v3 v4 z)) : ∀ (r0 : Nat) (v1 : Int32) (v2 : Int32) (v3 : Int32) (v4 : Int32) (t0 : Int32) (z : Hp), J l Γ mi_X12_leastOut cvI 0 0 55 [(0, .ref (mB Γ + r0)), (1, .int v1), (2, .int v2), (3, .int v3), (4, .int v4)] [.int t0] z (m_X12_leastOut_B55 k33 r0 v1 v2 v3 v4 t0 z) := by
  intro r0 v1 v2 v3 v4 t0 z
  unfold m_X12_leastOut_B55
  refine j_istore (pc := 55) (lv2 := [(5, .int t0), (0, .ref (mB Γ + r0)), (1, .int v1), (2, .int v2), (3, .int v3), (4, .int v4)]) dX12_leastOut_55 (by decide) rfl ?_
  refine j_aload_n (pc := 57) 1 dX12_leastOut_57 rfl rfl ?_
  refine j_iload (pc := 58) 5 dX12_leastOut_58 rfl ?_
  refine j_isC (fun h25 => ?_)
  refine j_callV_I (pc := 60) (as := [.int v4]) (mc2 := 0) (ms2 := 0) (ct_X12_isShaft _ _ _) h25 rfl cw_X12_leastOut_346 dX12_leastOut_60 (Nat.le_of_ble_eq_true rfl) rfl (by decide) (by decide) (fun x24 z23 => ?_)
  refine j_if_ne (pc := 63) 209 dX12_leastOut_63 (by decide) ?_ ?_
  · exact J.sub [1, 2, 3, 4, 5] rfl ((j_X12_leastOut_B209 hL33) r0 v1 v2 v3 v4 z23)
  refine j_iload (pc := 66) 0 dX12_leastOut_66 rfl ?_
  refine j_iconst (pc := 68) (v := (-1)) dX12_leastOut_68 (by decide) ?_
  refine j_icmp_ne (pc := 69) 75 dX12_leastOut_69 (by decide) ?_ ?_
  · refine j_aload_n (pc := 75) 1 dX12_leastOut_75 rfl rfl ?_
    refine j_iload (pc := 76) 5 dX12_leastOut_76 rfl ?_
    refine j_isC (fun h28 => ?_)
    refine j_callV_I (pc := 78) (as := [.int v4]) (mc2 := 0) (ms2 := 0) (ct_X12_isBesideShaft _ _ _) h28 rfl cw_X12_leastOut_356 dX12_leastOut_78 (Nat.le_of_ble_eq_true rfl) rfl (by decide) (by decide) (fun x27 z26 => ?_)
    refine j_if_eq (pc := 81) 89 dX12_leastOut_81 (by decide) ?_ ?_
    · refine j_iconst (pc := 89) (v := (-1)) dX12_leastOut_89 (by decide) ?_
      exact J.sub [1, 2, 3, 4, 5, 0] rfl ((j_X12_leastOut_B90 hL33) r0 v1 v2 v3 v4 t0 (-1) z26)
    refine j_iload (pc := 84) 0 dX12_leastOut_84 rfl ?_
    refine j_goto (pc := 86) 90 dX12_leastOut_86 (by decide) ?_
    exact J.sub [1, 2, 3, 4, 5, 0] rfl ((j_X12_leastOut_B90 hL33) r0 v1 v2 v3 v4 t0 t0 z26)
  refine j_goto (pc := 72) 209 dX12_leastOut_72 (by decide) ?_
  exact J.sub [1, 2, 3, 4, 5] rfl ((j_X12_leastOut_B209 hL33) r0 v1 v2 v3 v4 z23)
theorem j_X12_leastOut_L33 {l : Launch} {Γ : Am} {k215 : Nat → Int32 → Int32 → Int32 → Hp → Option (Int32 × Hp)} (hL215 : ∀ (r0 : Nat) (v1 : Int32) (v2 : Int32) (v3 : Int32) (z : Hp), J l Γ mi_X12_leastOut cvI 0 0 215 [(0, .ref (mB Γ + r0)), (1, .int v1), (2, .int v2), (3, .int v3)] [] z (k215 r0 v1 v2 v3 z)) : ∀ (f : Nat), ∀ (r0 : Nat) (v1 : Int32) (v2 : Int32) (v3 : Int32) (v4 : Int32) (z : Hp), J l Γ mi_X12_leastOut cvI 0 0 33 [(0, .ref (mB Γ + r0)), (1, .int v1), (2, .int v2), (3, .int v3), (4, .int v4)] [] z (m_X12_leastOut_L33 k215 f r0 v1 v2 v3 v4 z) := by
  intro f
  induction f with
  | zero => intro r0 v1 v2 v3 v4 z; exact J.none
  | succ f hL33 =>
    intro r0 v1 v2 v3 v4 z
    rw [m_X12_leastOut_L33]
    refine j_iload (pc := 33) 4 dX12_leastOut_33 rfl ?_
    refine j_sipush (pc := 35) (v := 144) dX12_leastOut_35 (by decide) ?_
    refine j_icmp_ge (pc := 38) 215 dX12_leastOut_38 (by decide) ?_ ?_
    · exact J.sub [0, 1, 2, 3] rfl (hL215 r0 v1 v2 v3 z)
    refine j_aload_n (pc := 41) 0 dX12_leastOut_41 rfl rfl ?_
    refine j_iload (pc := 42) 4 dX12_leastOut_42 rfl ?_
    refine j_isC (fun h31 => ?_)
    refine j_callV_I (pc := 44) (as := [.int v4]) (mc2 := 0) (ms2 := 0) (ct_X12_isFrozen _ _ _) h31 rfl cw_X12_leastOut_301 dX12_leastOut_44 (Nat.le_of_ble_eq_true rfl) rfl (by decide) (by decide) (fun x30 z29 => ?_)
    refine j_if_eq (pc := 47) 54 dX12_leastOut_47 (by decide) ?_ ?_
    · refine j_iload_n (pc := 54) 2 dX12_leastOut_54 rfl rfl ?_
      exact J.sub [0, 1, 2, 3, 4] rfl ((j_X12_leastOut_B55 hL33) r0 v1 v2 v3 v4 v2 z29)
    refine j_iload_n (pc := 50) 1 dX12_leastOut_50 rfl rfl ?_
    refine j_goto (pc := 51) 55 dX12_leastOut_51 (by decide) ?_
    exact J.sub [0, 1, 2, 3, 4] rfl ((j_X12_leastOut_B55 hL33) r0 v1 v2 v3 v4 v1 z29)
theorem j_X12_leastOut_L24 {l : Launch} {Γ : Am} {k218 : Nat → Hp → Option (Int32 × Hp)} (hL218 : ∀ (r0 : Nat) (z : Hp), J l Γ mi_X12_leastOut cvI 0 0 218 [(0, .ref (mB Γ + r0))] [] z (k218 r0 z)) : ∀ (f : Nat), ∀ (r0 : Nat) (v1 : Int32) (v2 : Int32) (v3 : Int32) (z : Hp), J l Γ mi_X12_leastOut cvI 0 0 24 [(0, .ref (mB Γ + r0)), (1, .int v1), (2, .int v2), (3, .int v3)] [] z (m_X12_leastOut_L24 k218 f r0 v1 v2 v3 z) := by
  intro f
  induction f with
  | zero => intro r0 v1 v2 v3 z; exact J.none
  | succ f hL24 =>
    intro r0 v1 v2 v3 z
    rw [m_X12_leastOut_L24]
    refine j_iload_n (pc := 24) 3 dX12_leastOut_24 rfl rfl ?_
    refine j_if_eq (pc := 25) 218 dX12_leastOut_25 (by decide) ?_ ?_
    · exact J.sub [0] rfl (hL218 r0 z)
    refine j_iconst (pc := 28) (v := 0) dX12_leastOut_28 (by decide) ?_
    refine j_istore_n (pc := 29) (lv2 := [(3, .int 0), (0, .ref (mB Γ + r0)), (1, .int v1), (2, .int v2)]) dX12_leastOut_29 rfl (by decide) rfl ?_
    refine j_iconst (pc := 30) (v := 0) dX12_leastOut_30 (by decide) ?_
    refine j_istore (pc := 31) (lv2 := [(4, .int 0), (3, .int 0), (0, .ref (mB Γ + r0)), (1, .int v1), (2, .int v2)]) dX12_leastOut_31 (by decide) rfl ?_
    exact J.sub [2, 3, 4, 1, 0] rfl ((j_X12_leastOut_L33 (j_X12_leastOut_B215 hL24) FU) r0 v1 v2 0 0 z)
theorem j_X12_leastOut_B22 {l : Launch} {Γ : Am}   : ∀ (r0 : Nat) (v1 : Int32) (v2 : Int32) (z : Hp), J l Γ mi_X12_leastOut cvI 0 0 22 [(0, .ref (mB Γ + r0)), (1, .int v1), (2, .int v2)] [] z (m_X12_leastOut_B22  r0 v1 v2 z) := by
  intro r0 v1 v2 z
  unfold m_X12_leastOut_B22
  refine j_iconst (pc := 22) (v := 1) dX12_leastOut_22 (by decide) ?_
  refine j_istore_n (pc := 23) (lv2 := [(3, .int 1), (0, .ref (mB Γ + r0)), (1, .int v1), (2, .int v2)]) dX12_leastOut_23 rfl (by decide) rfl ?_
  exact J.sub [1, 2, 3, 0] rfl ((j_X12_leastOut_L24 j_X12_leastOut_B218 FU) r0 v1 v2 1 z)
theorem j_X12_leastOut_L2 {l : Launch} {Γ : Am} {k22 : Nat → Int32 → Int32 → Hp → Option (Int32 × Hp)} (hL22 : ∀ (r0 : Nat) (v1 : Int32) (v2 : Int32) (z : Hp), J l Γ mi_X12_leastOut cvI 0 0 22 [(0, .ref (mB Γ + r0)), (1, .int v1), (2, .int v2)] [] z (k22 r0 v1 v2 z)) : ∀ (f : Nat), ∀ (r0 : Nat) (v1 : Int32) (v2 : Int32) (v3 : Int32) (z : Hp), J l Γ mi_X12_leastOut cvI 0 0 2 [(0, .ref (mB Γ + r0)), (1, .int v1), (2, .int v2), (3, .int v3)] [] z (m_X12_leastOut_L2 k22 f r0 v1 v2 v3 z) := by
  intro f
  induction f with
  | zero => intro r0 v1 v2 v3 z; exact J.none
  | succ f hL2 =>
    intro r0 v1 v2 v3 z
    rw [m_X12_leastOut_L2]
    refine j_iload_n (pc := 2) 3 dX12_leastOut_2 rfl rfl ?_
    refine j_sipush (pc := 3) (v := 144) dX12_leastOut_3 (by decide) ?_
    refine j_icmp_ge (pc := 6) 22 dX12_leastOut_6 (by decide) ?_ ?_
    · exact J.sub [0, 1, 2] rfl (hL22 r0 v1 v2 z)
    refine j_aload_n (pc := 9) 0 dX12_leastOut_9 rfl rfl ?_
    refine j_getR (pc := 10) ok_X12 (by decide) rfl w_1264 dX12_leastOut_10 (fun a32 => ?_)
    refine j_iload_n (pc := 13) 3 dX12_leastOut_13 rfl rfl ?_
    refine j_iconst (pc := 14) (v := (-1)) dX12_leastOut_14 (by decide) ?_
    refine j_iastore (pc := 15) dX12_leastOut_15 (fun z33 => ?_)
    refine j_iinc (pc := 16) (n0 := 3) (v0 := v3 + 1) (lv2 := [(3, .int (v3 + 1)), (0, .ref (mB Γ + r0)), (1, .int v1), (2, .int v2)]) dX12_leastOut_16 rfl rfl (by decide) rfl ?_
    refine j_goto (pc := 19) 2 dX12_leastOut_19 (by decide) ?_
    exact J.sub [1, 2, 3, 0] rfl (hL2 r0 v1 v2 (v3 + 1) z33)
theorem ct_X12_leastOut {l : Launch} {Γ : Am} (r0 : Nat) (v1 : Int32) (v2 : Int32) (z : Hp) : Ct l Γ yX12_leastOut mi_X12_leastOut cvI [.ref (mB Γ + r0), .int v1, .int v2] z (m_X12_leastOut r0 v1 v2 z) := by
  refine Ct.ofJ (by decide) ⟨rfl, rfl⟩ (Nat.le_of_ble_eq_true rfl) ?_
  unfold m_X12_leastOut
  show J l Γ mi_X12_leastOut cvI 0 0 0 [(0, .ref (mB Γ + r0)), (1, .int v1), (2, .int v2)] [] z _
  refine j_iconst (pc := 0) (v := 0) dX12_leastOut_0 (by decide) ?_
  refine j_istore_n (pc := 1) (lv2 := [(3, .int 0), (0, .ref (mB Γ + r0)), (1, .int v1), (2, .int v2)]) dX12_leastOut_1 rfl (by decide) rfl ?_
  exact J.sub [1, 2, 3, 0] rfl ((j_X12_leastOut_L2 j_X12_leastOut_B22 FU) r0 v1 v2 0 z)
theorem dX12_isShut_0 : decode cX12_isShut 0 = .ok (.aload_n 0, 1) := by decide +kernel
theorem dX12_isShut_1 : decode cX12_isShut 1 = .ok (.iconst (-1), 1) := by decide +kernel
theorem dX12_isShut_2 : decode cX12_isShut 2 = .ok (.iconst 1, 1) := by decide +kernel
theorem dX12_isShut_3 : decode cX12_isShut 3 = .ok (.invokevirtual 362, 3) := by decide +kernel
theorem dX12_isShut_6 : decode cX12_isShut 6 = .ok (.iconst (-1), 1) := by decide +kernel
theorem dX12_isShut_7 : decode cX12_isShut 7 = .ok (.if_icmp .ne 7, 3) := by decide +kernel
theorem dX12_isShut_10 : decode cX12_isShut 10 = .ok (.iconst 1, 1) := by decide +kernel
theorem dX12_isShut_11 : decode cX12_isShut 11 = .ok (.goto 4, 3) := by decide +kernel
theorem dX12_isShut_14 : decode cX12_isShut 14 = .ok (.iconst 0, 1) := by decide +kernel
theorem dX12_isShut_15 : decode cX12_isShut 15 = .ok (.ireturn, 1) := by decide +kernel
theorem cw_X12_isShut_362 : CwV mi_X12_isShut mi_X12_leastOut yX12_leastOut RX12 362 2 := ⟨⟨w_1563, w_1565, w_76, w_108, w_1566⟩, ⟨by decide, by decide⟩, by decide +kernel, by decide, by decide⟩
theorem ct_X12_isShut {l : Launch} {Γ : Am} (r0 : Nat) (z : Hp) : Ct l Γ yX12_isShut mi_X12_isShut cvI [.ref (mB Γ + r0)] z (m_X12_isShut r0 z) := by
  refine Ct.ofJ (by decide) ⟨rfl, rfl⟩ (Nat.le_of_ble_eq_true rfl) ?_
  unfold m_X12_isShut
  show J l Γ mi_X12_isShut cvI 0 0 0 [(0, .ref (mB Γ + r0))] [] z _
  refine j_aload_n (pc := 0) 0 dX12_isShut_0 rfl rfl ?_
  refine j_iconst (pc := 1) (v := (-1)) dX12_isShut_1 (by decide) ?_
  refine j_iconst (pc := 2) (v := 1) dX12_isShut_2 (by decide) ?_
  refine j_isC (fun h3 => ?_)
  refine j_callV_I (pc := 3) (as := [.int (-1), .int 1]) (mc2 := 0) (ms2 := 0) (ct_X12_leastOut _ _ _ _) h3 rfl cw_X12_isShut_362 dX12_isShut_3 (Nat.le_of_ble_eq_true rfl) rfl (by decide) (by decide) (fun x2 z1 => ?_)
  refine j_iconst (pc := 6) (v := (-1)) dX12_isShut_6 (by decide) ?_
  refine j_icmp_ne (pc := 7) 14 dX12_isShut_7 (by decide) ?_ ?_
  · refine j_iconst (pc := 14) (v := 0) dX12_isShut_14 (by decide) ?_
    exact j_ireturn (pc := 15) dX12_isShut_15 rfl rfl
  refine j_iconst (pc := 10) (v := 1) dX12_isShut_10 (by decide) ?_
  refine j_goto (pc := 11) 15 dX12_isShut_11 (by decide) ?_
  exact j_ireturn (pc := 15) dX12_isShut_15 rfl rfl
theorem dX12_ticks_0 : decode cX12_ticks 0 = .ok (.iconst 0, 1) := by decide +kernel
theorem dX12_ticks_1 : decode cX12_ticks 1 = .ok (.istore_n 1, 1) := by decide +kernel
theorem dX12_ticks_2 : decode cX12_ticks 2 = .ok (.iload_n 1, 1) := by decide +kernel
theorem dX12_ticks_3 : decode cX12_ticks 3 = .ok (.sipush 144, 3) := by decide +kernel
theorem dX12_ticks_6 : decode cX12_ticks 6 = .ok (.if_icmp .ge 16, 3) := by decide +kernel
theorem dX12_ticks_9 : decode cX12_ticks 9 = .ok (.aload_n 0, 1) := by decide +kernel
theorem dX12_ticks_10 : decode cX12_ticks 10 = .ok (.getfield 46, 3) := by decide +kernel
theorem dX12_ticks_13 : decode cX12_ticks 13 = .ok (.iload_n 1, 1) := by decide +kernel
theorem dX12_ticks_14 : decode cX12_ticks 14 = .ok (.iconst 0, 1) := by decide +kernel
theorem dX12_ticks_15 : decode cX12_ticks 15 = .ok (.iastore, 1) := by decide +kernel
theorem dX12_ticks_16 : decode cX12_ticks 16 = .ok (.iinc 1 1, 3) := by decide +kernel
theorem dX12_ticks_19 : decode cX12_ticks 19 = .ok (.goto (-17), 3) := by decide +kernel
theorem dX12_ticks_22 : decode cX12_ticks 22 = .ok (.iconst 0, 1) := by decide +kernel
theorem dX12_ticks_23 : decode cX12_ticks 23 = .ok (.istore_n 1, 1) := by decide +kernel
theorem dX12_ticks_24 : decode cX12_ticks 24 = .ok (.iload_n 1, 1) := by decide +kernel
theorem dX12_ticks_25 : decode cX12_ticks 25 = .ok (.sipush 144, 3) := by decide +kernel
theorem dX12_ticks_28 : decode cX12_ticks 28 = .ok (.if_icmp .ge 30, 3) := by decide +kernel
theorem dX12_ticks_31 : decode cX12_ticks 31 = .ok (.aload_n 0, 1) := by decide +kernel
theorem dX12_ticks_32 : decode cX12_ticks 32 = .ok (.iload_n 1, 1) := by decide +kernel
theorem dX12_ticks_33 : decode cX12_ticks 33 = .ok (.invokevirtual 102, 3) := by decide +kernel
theorem dX12_ticks_36 : decode cX12_ticks 36 = .ok (.ifCond .eq 6, 3) := by decide +kernel
theorem dX12_ticks_39 : decode cX12_ticks 39 = .ok (.goto 13, 3) := by decide +kernel
theorem dX12_ticks_42 : decode cX12_ticks 42 = .ok (.aload_n 0, 1) := by decide +kernel
theorem dX12_ticks_43 : decode cX12_ticks 43 = .ok (.iload_n 1, 1) := by decide +kernel
theorem dX12_ticks_44 : decode cX12_ticks 44 = .ok (.invokevirtual 313, 3) := by decide +kernel
theorem dX12_ticks_47 : decode cX12_ticks 47 = .ok (.aload_n 0, 1) := by decide +kernel
theorem dX12_ticks_48 : decode cX12_ticks 48 = .ok (.iload_n 1, 1) := by decide +kernel
theorem dX12_ticks_49 : decode cX12_ticks 49 = .ok (.invokevirtual 316, 3) := by decide +kernel
theorem dX12_ticks_52 : decode cX12_ticks 52 = .ok (.iinc 1 1, 3) := by decide +kernel
theorem dX12_ticks_55 : decode cX12_ticks 55 = .ok (.goto (-31), 3) := by decide +kernel
theorem dX12_ticks_58 : decode cX12_ticks 58 = .ok (.aload_n 0, 1) := by decide +kernel
theorem dX12_ticks_59 : decode cX12_ticks 59 = .ok (.invokevirtual 319, 3) := by decide +kernel
theorem dX12_ticks_62 : decode cX12_ticks 62 = .ok (.iconst 0, 1) := by decide +kernel
theorem dX12_ticks_63 : decode cX12_ticks 63 = .ok (.istore_n 1, 1) := by decide +kernel
theorem dX12_ticks_64 : decode cX12_ticks 64 = .ok (.iload_n 1, 1) := by decide +kernel
theorem dX12_ticks_65 : decode cX12_ticks 65 = .ok (.sipush 144, 3) := by decide +kernel
theorem dX12_ticks_68 : decode cX12_ticks 68 = .ok (.if_icmp .ge 22, 3) := by decide +kernel
theorem dX12_ticks_71 : decode cX12_ticks 71 = .ok (.aload_n 0, 1) := by decide +kernel
theorem dX12_ticks_72 : decode cX12_ticks 72 = .ok (.iload_n 1, 1) := by decide +kernel
theorem dX12_ticks_73 : decode cX12_ticks 73 = .ok (.invokevirtual 102, 3) := by decide +kernel
theorem dX12_ticks_76 : decode cX12_ticks 76 = .ok (.ifCond .ne 8, 3) := by decide +kernel
theorem dX12_ticks_79 : decode cX12_ticks 79 = .ok (.aload_n 0, 1) := by decide +kernel
theorem dX12_ticks_80 : decode cX12_ticks 80 = .ok (.iload_n 1, 1) := by decide +kernel
theorem dX12_ticks_81 : decode cX12_ticks 81 = .ok (.invokevirtual 322, 3) := by decide +kernel
theorem dX12_ticks_84 : decode cX12_ticks 84 = .ok (.iinc 1 1, 3) := by decide +kernel
theorem dX12_ticks_87 : decode cX12_ticks 87 = .ok (.goto (-23), 3) := by decide +kernel
theorem dX12_ticks_90 : decode cX12_ticks 90 = .ok (.aload_n 0, 1) := by decide +kernel
theorem dX12_ticks_91 : decode cX12_ticks 91 = .ok (.getfield 13, 3) := by decide +kernel
theorem dX12_ticks_94 : decode cX12_ticks 94 = .ok (.iconst 1, 1) := by decide +kernel
theorem dX12_ticks_95 : decode cX12_ticks 95 = .ok (.dup2, 1) := by decide +kernel
theorem dX12_ticks_96 : decode cX12_ticks 96 = .ok (.iaload, 1) := by decide +kernel
theorem dX12_ticks_97 : decode cX12_ticks 97 = .ok (.iconst 1, 1) := by decide +kernel
theorem dX12_ticks_98 : decode cX12_ticks 98 = .ok (.iadd, 1) := by decide +kernel
theorem dX12_ticks_99 : decode cX12_ticks 99 = .ok (.iastore, 1) := by decide +kernel
theorem dX12_ticks_100 : decode cX12_ticks 100 = .ok (.iconst 0, 1) := by decide +kernel
theorem dX12_ticks_101 : decode cX12_ticks 101 = .ok (.istore_n 1, 1) := by decide +kernel
theorem dX12_ticks_102 : decode cX12_ticks 102 = .ok (.iload_n 1, 1) := by decide +kernel
theorem dX12_ticks_103 : decode cX12_ticks 103 = .ok (.aload_n 0, 1) := by decide +kernel
theorem dX12_ticks_104 : decode cX12_ticks 104 = .ok (.getfield 13, 3) := by decide +kernel
theorem dX12_ticks_107 : decode cX12_ticks 107 = .ok (.iconst 3, 1) := by decide +kernel
theorem dX12_ticks_108 : decode cX12_ticks 108 = .ok (.iaload, 1) := by decide +kernel
theorem dX12_ticks_109 : decode cX12_ticks 109 = .ok (.if_icmp .ge 80, 3) := by decide +kernel
theorem dX12_ticks_112 : decode cX12_ticks 112 = .ok (.sipush 732, 3) := by decide +kernel
theorem dX12_ticks_115 : decode cX12_ticks 115 = .ok (.iconst 3, 1) := by decide +kernel
theorem dX12_ticks_116 : decode cX12_ticks 116 = .ok (.iload_n 1, 1) := by decide +kernel
theorem dX12_ticks_117 : decode cX12_ticks 117 = .ok (.imul, 1) := by decide +kernel
theorem dX12_ticks_118 : decode cX12_ticks 118 = .ok (.iadd, 1) := by decide +kernel
theorem dX12_ticks_119 : decode cX12_ticks 119 = .ok (.istore_n 2, 1) := by decide +kernel
theorem dX12_ticks_120 : decode cX12_ticks 120 = .ok (.aload_n 0, 1) := by decide +kernel
theorem dX12_ticks_121 : decode cX12_ticks 121 = .ok (.getfield 13, 3) := by decide +kernel
theorem dX12_ticks_124 : decode cX12_ticks 124 = .ok (.iload_n 2, 1) := by decide +kernel
theorem dX12_ticks_125 : decode cX12_ticks 125 = .ok (.iconst 2, 1) := by decide +kernel
theorem dX12_ticks_126 : decode cX12_ticks 126 = .ok (.iadd, 1) := by decide +kernel
theorem dX12_ticks_127 : decode cX12_ticks 127 = .ok (.iaload, 1) := by decide +kernel
theorem dX12_ticks_128 : decode cX12_ticks 128 = .ok (.iconst (-1), 1) := by decide +kernel
theorem dX12_ticks_129 : decode cX12_ticks 129 = .ok (.if_icmp .ne 54, 3) := by decide +kernel
theorem dX12_ticks_132 : decode cX12_ticks 132 = .ok (.aload_n 0, 1) := by decide +kernel
theorem dX12_ticks_133 : decode cX12_ticks 133 = .ok (.aload_n 0, 1) := by decide +kernel
theorem dX12_ticks_134 : decode cX12_ticks 134 = .ok (.getfield 13, 3) := by decide +kernel
theorem dX12_ticks_137 : decode cX12_ticks 137 = .ok (.iload_n 2, 1) := by decide +kernel
theorem dX12_ticks_138 : decode cX12_ticks 138 = .ok (.iaload, 1) := by decide +kernel
theorem dX12_ticks_139 : decode cX12_ticks 139 = .ok (.invokevirtual 325, 3) := by decide +kernel
theorem dX12_ticks_142 : decode cX12_ticks 142 = .ok (.aload_n 0, 1) := by decide +kernel
theorem dX12_ticks_143 : decode cX12_ticks 143 = .ok (.aload_n 0, 1) := by decide +kernel
theorem dX12_ticks_144 : decode cX12_ticks 144 = .ok (.getfield 13, 3) := by decide +kernel
theorem dX12_ticks_147 : decode cX12_ticks 147 = .ok (.iload_n 2, 1) := by decide +kernel
theorem dX12_ticks_148 : decode cX12_ticks 148 = .ok (.iaload, 1) := by decide +kernel
theorem dX12_ticks_149 : decode cX12_ticks 149 = .ok (.iconst 1, 1) := by decide +kernel
theorem dX12_ticks_150 : decode cX12_ticks 150 = .ok (.iadd, 1) := by decide +kernel
theorem dX12_ticks_151 : decode cX12_ticks 151 = .ok (.invokevirtual 325, 3) := by decide +kernel
theorem dX12_ticks_154 : decode cX12_ticks 154 = .ok (.isub, 1) := by decide +kernel
theorem dX12_ticks_155 : decode cX12_ticks 155 = .ok (.invokestatic 328, 3) := by decide +kernel
theorem dX12_ticks_158 : decode cX12_ticks 158 = .ok (.aload_n 0, 1) := by decide +kernel
theorem dX12_ticks_159 : decode cX12_ticks 159 = .ok (.getfield 13, 3) := by decide +kernel
theorem dX12_ticks_162 : decode cX12_ticks 162 = .ok (.iload_n 2, 1) := by decide +kernel
theorem dX12_ticks_163 : decode cX12_ticks 163 = .ok (.iconst 1, 1) := by decide +kernel
theorem dX12_ticks_164 : decode cX12_ticks 164 = .ok (.iadd, 1) := by decide +kernel
theorem dX12_ticks_165 : decode cX12_ticks 165 = .ok (.iaload, 1) := by decide +kernel
theorem dX12_ticks_166 : decode cX12_ticks 166 = .ok (.if_icmp .le 17, 3) := by decide +kernel
theorem dX12_ticks_169 : decode cX12_ticks 169 = .ok (.aload_n 0, 1) := by decide +kernel
theorem dX12_ticks_170 : decode cX12_ticks 170 = .ok (.getfield 13, 3) := by decide +kernel
theorem dX12_ticks_173 : decode cX12_ticks 173 = .ok (.iload_n 2, 1) := by decide +kernel
theorem dX12_ticks_174 : decode cX12_ticks 174 = .ok (.iconst 2, 1) := by decide +kernel
theorem dX12_ticks_175 : decode cX12_ticks 175 = .ok (.iadd, 1) := by decide +kernel
theorem dX12_ticks_176 : decode cX12_ticks 176 = .ok (.aload_n 0, 1) := by decide +kernel
theorem dX12_ticks_177 : decode cX12_ticks 177 = .ok (.getfield 13, 3) := by decide +kernel
theorem dX12_ticks_180 : decode cX12_ticks 180 = .ok (.iconst 1, 1) := by decide +kernel
theorem dX12_ticks_181 : decode cX12_ticks 181 = .ok (.iaload, 1) := by decide +kernel
theorem dX12_ticks_182 : decode cX12_ticks 182 = .ok (.iastore, 1) := by decide +kernel
theorem dX12_ticks_183 : decode cX12_ticks 183 = .ok (.iinc 1 1, 3) := by decide +kernel
theorem dX12_ticks_186 : decode cX12_ticks 186 = .ok (.goto (-84), 3) := by decide +kernel
theorem dX12_ticks_189 : decode cX12_ticks 189 = .ok (.aload_n 0, 1) := by decide +kernel
theorem dX12_ticks_190 : decode cX12_ticks 190 = .ok (.getfield 13, 3) := by decide +kernel
theorem dX12_ticks_193 : decode cX12_ticks 193 = .ok (.bipush 12, 2) := by decide +kernel
theorem dX12_ticks_195 : decode cX12_ticks 195 = .ok (.iaload, 1) := by decide +kernel
theorem dX12_ticks_196 : decode cX12_ticks 196 = .ok (.ifCond .ne 36, 3) := by decide +kernel
theorem dX12_ticks_199 : decode cX12_ticks 199 = .ok (.aload_n 0, 1) := by decide +kernel
theorem dX12_ticks_200 : decode cX12_ticks 200 = .ok (.invokevirtual 331, 3) := by decide +kernel
theorem dX12_ticks_203 : decode cX12_ticks 203 = .ok (.ifCond .eq 29, 3) := by decide +kernel
theorem dX12_ticks_206 : decode cX12_ticks 206 = .ok (.aload_n 0, 1) := by decide +kernel
theorem dX12_ticks_207 : decode cX12_ticks 207 = .ok (.invokevirtual 334, 3) := by decide +kernel
theorem dX12_ticks_210 : decode cX12_ticks 210 = .ok (.ifCond .ne 22, 3) := by decide +kernel
theorem dX12_ticks_213 : decode cX12_ticks 213 = .ok (.aload_n 0, 1) := by decide +kernel
theorem dX12_ticks_214 : decode cX12_ticks 214 = .ok (.getfield 13, 3) := by decide +kernel
theorem dX12_ticks_217 : decode cX12_ticks 217 = .ok (.bipush 12, 2) := by decide +kernel
theorem dX12_ticks_219 : decode cX12_ticks 219 = .ok (.iconst 1, 1) := by decide +kernel
theorem dX12_ticks_220 : decode cX12_ticks 220 = .ok (.iastore, 1) := by decide +kernel
theorem dX12_ticks_221 : decode cX12_ticks 221 = .ok (.aload_n 0, 1) := by decide +kernel
theorem dX12_ticks_222 : decode cX12_ticks 222 = .ok (.getfield 13, 3) := by decide +kernel
theorem dX12_ticks_225 : decode cX12_ticks 225 = .ok (.bipush 13, 2) := by decide +kernel
theorem dX12_ticks_227 : decode cX12_ticks 227 = .ok (.dup2, 1) := by decide +kernel
theorem dX12_ticks_228 : decode cX12_ticks 228 = .ok (.iaload, 1) := by decide +kernel
theorem dX12_ticks_229 : decode cX12_ticks 229 = .ok (.iconst 1, 1) := by decide +kernel
theorem dX12_ticks_230 : decode cX12_ticks 230 = .ok (.iadd, 1) := by decide +kernel
theorem dX12_ticks_231 : decode cX12_ticks 231 = .ok (.iastore, 1) := by decide +kernel
theorem dX12_ticks_232 : decode cX12_ticks 232 = .ok (.return_, 1) := by decide +kernel
theorem cw_X12_ticks_331 : CwV mi_X12_ticks mi_X12_anyDug yX12_anyDug RX12 331 0 := ⟨⟨w_1555, w_1557, w_74, w_108, w_1558⟩, ⟨by decide, by decide⟩, by decide +kernel, by decide, by decide⟩
theorem cw_X12_ticks_334 : CwV mi_X12_ticks mi_X12_isShut yX12_isShut RX12 334 0 := ⟨⟨w_1559, w_1561, w_75, w_108, w_1562⟩, ⟨by decide, by decide⟩, by decide +kernel, by decide, by decide⟩
theorem cw_X12_ticks_325 : CwV mi_X12_ticks mi_X12_liftOf yX12_liftOf RX12 325 1 := ⟨⟨w_1550, w_1552, w_73, w_108, w_1553⟩, ⟨by decide, by decide⟩, by decide +kernel, by decide, by decide⟩
theorem cw_X12_ticks_328 : CwS mi_X12_ticks mi_J9_abs_0f7a4 yJ9_abs_0f7a4 328 1 := ⟨⟨w_1554, w_879, w_109, w_880⟩, ⟨by decide, by decide⟩, by decide +kernel, by decide, by decide⟩
theorem cw_X12_ticks_102 : CwV mi_X12_ticks mi_X12_isDug yX12_isDug RX12 102 1 := ⟨⟨w_1511, w_1513, w_65, w_108, w_1514⟩, ⟨by decide, by decide⟩, by decide +kernel, by decide, by decide⟩
theorem cw_X12_ticks_322 : CwV mi_X12_ticks mi_X12_does yX12_does RX12 322 1 := ⟨⟨w_1545, w_1547, w_72, w_108, w_1548⟩, ⟨by decide, by decide⟩, by decide +kernel, by decide, by decide⟩
theorem cw_X12_ticks_319 : CwV mi_X12_ticks mi_X12_pipes yX12_pipes RX12 319 0 := ⟨⟨w_1541, w_1543, w_71, w_108, w_1544⟩, ⟨by decide, by decide⟩, by decide +kernel, by decide, by decide⟩
theorem cw_X12_ticks_313 : CwV mi_X12_ticks mi_X12_comesBeside yX12_comesBeside RX12 313 1 := ⟨⟨w_1515, w_1517, w_66, w_108, w_1518⟩, ⟨by decide, by decide⟩, by decide +kernel, by decide, by decide⟩
theorem cw_X12_ticks_316 : CwV mi_X12_ticks mi_X12_streams yX12_streams RX12 316 1 := ⟨⟨w_1537, w_1539, w_70, w_108, w_1540⟩, ⟨by decide, by decide⟩, by decide +kernel, by decide, by decide⟩
theorem j_X12_ticks_B189 {l : Launch} {Γ : Am}   : ∀ (r0 : Nat) (z : Hp), J l Γ mi_X12_ticks cvV 0 0 189 [(0, .ref (mB Γ + r0))] [] z (m_X12_ticks_B189  r0 z) := by
  intro r0 z
  unfold m_X12_ticks_B189
  refine j_aload_n (pc := 189) 0 dX12_ticks_189 rfl rfl ?_
  refine j_getR (pc := 190) ok_X12 (by decide) rfl w_1239 dX12_ticks_190 (fun a1 => ?_)
  refine j_bipush (pc := 193) (v := 12) dX12_ticks_193 (by decide) ?_
  refine j_iaload (pc := 195) dX12_ticks_195 (fun x2 => ?_)
  refine j_if_ne (pc := 196) 232 dX12_ticks_196 (by decide) ?_ ?_
  · exact j_return (pc := 232) dX12_ticks_232 rfl
  refine j_aload_n (pc := 199) 0 dX12_ticks_199 rfl rfl ?_
  refine j_isC (fun h5 => ?_)
  refine j_callV_I (pc := 200) (as := []) (mc2 := 0) (ms2 := 0) (ct_X12_anyDug _ _) h5 rfl cw_X12_ticks_331 dX12_ticks_200 (Nat.le_of_ble_eq_true rfl) rfl (by decide) (by decide) (fun x4 z3 => ?_)
  refine j_if_eq (pc := 203) 232 dX12_ticks_203 (by decide) ?_ ?_
  · exact j_return (pc := 232) dX12_ticks_232 rfl
  refine j_aload_n (pc := 206) 0 dX12_ticks_206 rfl rfl ?_
  refine j_isC (fun h8 => ?_)
  refine j_callV_I (pc := 207) (as := []) (mc2 := 0) (ms2 := 0) (ct_X12_isShut _ _) h8 rfl cw_X12_ticks_334 dX12_ticks_207 (Nat.le_of_ble_eq_true rfl) rfl (by decide) (by decide) (fun x7 z6 => ?_)
  refine j_if_ne (pc := 210) 232 dX12_ticks_210 (by decide) ?_ ?_
  · exact j_return (pc := 232) dX12_ticks_232 rfl
  refine j_aload_n (pc := 213) 0 dX12_ticks_213 rfl rfl ?_
  refine j_getR (pc := 214) ok_X12 (by decide) rfl w_1239 dX12_ticks_214 (fun a9 => ?_)
  refine j_bipush (pc := 217) (v := 12) dX12_ticks_217 (by decide) ?_
  refine j_iconst (pc := 219) (v := 1) dX12_ticks_219 (by decide) ?_
  refine j_iastore (pc := 220) dX12_ticks_220 (fun z10 => ?_)
  refine j_aload_n (pc := 221) 0 dX12_ticks_221 rfl rfl ?_
  refine j_getR (pc := 222) ok_X12 (by decide) rfl w_1239 dX12_ticks_222 (fun a11 => ?_)
  refine j_bipush (pc := 225) (v := 13) dX12_ticks_225 (by decide) ?_
  refine j_dup2 (pc := 227) dX12_ticks_227 rfl rfl ?_
  refine j_iaload (pc := 228) dX12_ticks_228 (fun x12 => ?_)
  refine j_iconst (pc := 229) (v := 1) dX12_ticks_229 (by decide) ?_
  refine j_iadd (pc := 230) dX12_ticks_230 ?_
  refine j_iastore (pc := 231) dX12_ticks_231 (fun z13 => ?_)
  exact j_return (pc := 232) dX12_ticks_232 rfl
theorem j_X12_ticks_B183 {l : Launch} {Γ : Am} {k102 : Nat → Int32 → Hp → Option (Unit × Hp)} (hL102 : ∀ (r0 : Nat) (v1 : Int32) (z : Hp), J l Γ mi_X12_ticks cvV 0 0 102 [(0, .ref (mB Γ + r0)), (1, .int v1)] [] z (k102 r0 v1 z)) : ∀ (r0 : Nat) (v1 : Int32) (z : Hp), J l Γ mi_X12_ticks cvV 0 0 183 [(0, .ref (mB Γ + r0)), (1, .int v1)] [] z (m_X12_ticks_B183 k102 r0 v1 z) := by
  intro r0 v1 z
  unfold m_X12_ticks_B183
  refine j_iinc (pc := 183) (n0 := 1) (v0 := v1 + 1) (lv2 := [(1, .int (v1 + 1)), (0, .ref (mB Γ + r0))]) dX12_ticks_183 rfl rfl (by decide) rfl ?_
  refine j_goto (pc := 186) 102 dX12_ticks_186 (by decide) ?_
  exact J.sub [1, 0] rfl (hL102 r0 (v1 + 1) z)
theorem j_X12_ticks_L102 {l : Launch} {Γ : Am} {k189 : Nat → Hp → Option (Unit × Hp)} (hL189 : ∀ (r0 : Nat) (z : Hp), J l Γ mi_X12_ticks cvV 0 0 189 [(0, .ref (mB Γ + r0))] [] z (k189 r0 z)) : ∀ (f : Nat), ∀ (r0 : Nat) (v1 : Int32) (z : Hp), J l Γ mi_X12_ticks cvV 0 0 102 [(0, .ref (mB Γ + r0)), (1, .int v1)] [] z (m_X12_ticks_L102 k189 f r0 v1 z) := by
  intro f
  induction f with
  | zero => intro r0 v1 z; exact J.none
  | succ f hL102 =>
    intro r0 v1 z
    rw [m_X12_ticks_L102]
    refine j_iload_n (pc := 102) 1 dX12_ticks_102 rfl rfl ?_
    refine j_aload_n (pc := 103) 0 dX12_ticks_103 rfl rfl ?_
    refine j_getR (pc := 104) ok_X12 (by decide) rfl w_1239 dX12_ticks_104 (fun a14 => ?_)
    refine j_iconst (pc := 107) (v := 3) dX12_ticks_107 (by decide) ?_
    refine j_iaload (pc := 108) dX12_ticks_108 (fun x15 => ?_)
    refine j_icmp_ge (pc := 109) 189 dX12_ticks_109 (by decide) ?_ ?_
    · exact J.sub [0] rfl (hL189 r0 z)
    refine j_sipush (pc := 112) (v := 732) dX12_ticks_112 (by decide) ?_
    refine j_iconst (pc := 115) (v := 3) dX12_ticks_115 (by decide) ?_
    refine j_iload_n (pc := 116) 1 dX12_ticks_116 rfl rfl ?_
    refine j_imul (pc := 117) dX12_ticks_117 ?_
    refine j_iadd (pc := 118) dX12_ticks_118 ?_
    refine j_istore_n (pc := 119) (lv2 := [(2, .int (732 + (3 * v1))), (0, .ref (mB Γ + r0)), (1, .int v1)]) dX12_ticks_119 rfl (by decide) rfl ?_
    refine j_aload_n (pc := 120) 1 dX12_ticks_120 rfl rfl ?_
    refine j_getR (pc := 121) ok_X12 (by decide) rfl w_1239 dX12_ticks_121 (fun a16 => ?_)
    refine j_iload_n (pc := 124) 0 dX12_ticks_124 rfl rfl ?_
    refine j_iconst (pc := 125) (v := 2) dX12_ticks_125 (by decide) ?_
    refine j_iadd (pc := 126) dX12_ticks_126 ?_
    refine j_iaload (pc := 127) dX12_ticks_127 (fun x17 => ?_)
    refine j_iconst (pc := 128) (v := (-1)) dX12_ticks_128 (by decide) ?_
    refine j_icmp_ne (pc := 129) 183 dX12_ticks_129 (by decide) ?_ ?_
    · exact J.sub [1, 2] rfl ((j_X12_ticks_B183 hL102) r0 v1 z)
    refine j_aload_n (pc := 132) 1 dX12_ticks_132 rfl rfl ?_
    refine j_aload_n (pc := 133) 1 dX12_ticks_133 rfl rfl ?_
    refine j_getR (pc := 134) ok_X12 (by decide) rfl w_1239 dX12_ticks_134 (fun a18 => ?_)
    refine j_iload_n (pc := 137) 0 dX12_ticks_137 rfl rfl ?_
    refine j_iaload (pc := 138) dX12_ticks_138 (fun x19 => ?_)
    refine j_isC (fun h22 => ?_)
    refine j_callV_I (pc := 139) (as := [.int x19]) (mc2 := 0) (ms2 := 0) (ct_X12_liftOf _ _ _) h22 rfl cw_X12_ticks_325 dX12_ticks_139 (Nat.le_of_ble_eq_true rfl) rfl (by decide) (by decide) (fun x21 z20 => ?_)
    refine j_aload_n (pc := 142) 1 dX12_ticks_142 rfl rfl ?_
    refine j_aload_n (pc := 143) 1 dX12_ticks_143 rfl rfl ?_
    refine j_getR (pc := 144) ok_X12 (by decide) rfl w_1239 dX12_ticks_144 (fun a23 => ?_)
    refine j_iload_n (pc := 147) 0 dX12_ticks_147 rfl rfl ?_
    refine j_iaload (pc := 148) dX12_ticks_148 (fun x24 => ?_)
    refine j_iconst (pc := 149) (v := 1) dX12_ticks_149 (by decide) ?_
    refine j_iadd (pc := 150) dX12_ticks_150 ?_
    refine j_isC (fun h27 => ?_)
    refine j_callV_I (pc := 151) (as := [.int (x24 + 1)]) (mc2 := 0) (ms2 := 0) (ct_X12_liftOf _ _ _) h27 rfl cw_X12_ticks_325 dX12_ticks_151 (Nat.le_of_ble_eq_true rfl) rfl (by decide) (by decide) (fun x26 z25 => ?_)
    refine j_isub (pc := 154) dX12_ticks_154 ?_
    refine j_callS_I (pc := 155) (as := [.int (x21 - x26)]) (mc2 := 0) (ms2 := 0) (ct_J9_abs_0f7a4 _ _) cw_X12_ticks_328 dX12_ticks_155 (Nat.le_of_ble_eq_true rfl) rfl (by decide) (by decide) (fun x29 z28 => ?_)
    refine j_aload_n (pc := 158) 1 dX12_ticks_158 rfl rfl ?_
    refine j_getR (pc := 159) ok_X12 (by decide) rfl w_1239 dX12_ticks_159 (fun a30 => ?_)
    refine j_iload_n (pc := 162) 0 dX12_ticks_162 rfl rfl ?_
    refine j_iconst (pc := 163) (v := 1) dX12_ticks_163 (by decide) ?_
    refine j_iadd (pc := 164) dX12_ticks_164 ?_
    refine j_iaload (pc := 165) dX12_ticks_165 (fun x31 => ?_)
    refine j_icmp_le (pc := 166) 183 dX12_ticks_166 (by decide) ?_ ?_
    · exact J.sub [1, 2] rfl ((j_X12_ticks_B183 hL102) r0 v1 z28)
    refine j_aload_n (pc := 169) 1 dX12_ticks_169 rfl rfl ?_
    refine j_getR (pc := 170) ok_X12 (by decide) rfl w_1239 dX12_ticks_170 (fun a32 => ?_)
    refine j_iload_n (pc := 173) 0 dX12_ticks_173 rfl rfl ?_
    refine j_iconst (pc := 174) (v := 2) dX12_ticks_174 (by decide) ?_
    refine j_iadd (pc := 175) dX12_ticks_175 ?_
    refine j_aload_n (pc := 176) 1 dX12_ticks_176 rfl rfl ?_
    refine j_getR (pc := 177) ok_X12 (by decide) rfl w_1239 dX12_ticks_177 (fun a33 => ?_)
    refine j_iconst (pc := 180) (v := 1) dX12_ticks_180 (by decide) ?_
    refine j_iaload (pc := 181) dX12_ticks_181 (fun x34 => ?_)
    refine j_iastore (pc := 182) dX12_ticks_182 (fun z35 => ?_)
    exact J.sub [1, 2] rfl ((j_X12_ticks_B183 hL102) r0 v1 z35)
theorem j_X12_ticks_B90 {l : Launch} {Γ : Am}   : ∀ (r0 : Nat) (z : Hp), J l Γ mi_X12_ticks cvV 0 0 90 [(0, .ref (mB Γ + r0))] [] z (m_X12_ticks_B90  r0 z) := by
  intro r0 z
  unfold m_X12_ticks_B90
  refine j_aload_n (pc := 90) 0 dX12_ticks_90 rfl rfl ?_
  refine j_getR (pc := 91) ok_X12 (by decide) rfl w_1239 dX12_ticks_91 (fun a36 => ?_)
  refine j_iconst (pc := 94) (v := 1) dX12_ticks_94 (by decide) ?_
  refine j_dup2 (pc := 95) dX12_ticks_95 rfl rfl ?_
  refine j_iaload (pc := 96) dX12_ticks_96 (fun x37 => ?_)
  refine j_iconst (pc := 97) (v := 1) dX12_ticks_97 (by decide) ?_
  refine j_iadd (pc := 98) dX12_ticks_98 ?_
  refine j_iastore (pc := 99) dX12_ticks_99 (fun z38 => ?_)
  refine j_iconst (pc := 100) (v := 0) dX12_ticks_100 (by decide) ?_
  refine j_istore_n (pc := 101) (lv2 := [(1, .int 0), (0, .ref (mB Γ + r0))]) dX12_ticks_101 rfl (by decide) rfl ?_
  exact J.sub [1, 0] rfl ((j_X12_ticks_L102 j_X12_ticks_B189 FU) r0 0 z38)
theorem j_X12_ticks_B84 {l : Launch} {Γ : Am} {k64 : Nat → Int32 → Hp → Option (Unit × Hp)} (hL64 : ∀ (r0 : Nat) (v1 : Int32) (z : Hp), J l Γ mi_X12_ticks cvV 0 0 64 [(0, .ref (mB Γ + r0)), (1, .int v1)] [] z (k64 r0 v1 z)) : ∀ (r0 : Nat) (v1 : Int32) (z : Hp), J l Γ mi_X12_ticks cvV 0 0 84 [(0, .ref (mB Γ + r0)), (1, .int v1)] [] z (m_X12_ticks_B84 k64 r0 v1 z) := by
  intro r0 v1 z
  unfold m_X12_ticks_B84
  refine j_iinc (pc := 84) (n0 := 1) (v0 := v1 + 1) (lv2 := [(1, .int (v1 + 1)), (0, .ref (mB Γ + r0))]) dX12_ticks_84 rfl rfl (by decide) rfl ?_
  refine j_goto (pc := 87) 64 dX12_ticks_87 (by decide) ?_
  exact J.sub [1, 0] rfl (hL64 r0 (v1 + 1) z)
theorem j_X12_ticks_L64 {l : Launch} {Γ : Am} {k90 : Nat → Hp → Option (Unit × Hp)} (hL90 : ∀ (r0 : Nat) (z : Hp), J l Γ mi_X12_ticks cvV 0 0 90 [(0, .ref (mB Γ + r0))] [] z (k90 r0 z)) : ∀ (f : Nat), ∀ (r0 : Nat) (v1 : Int32) (z : Hp), J l Γ mi_X12_ticks cvV 0 0 64 [(0, .ref (mB Γ + r0)), (1, .int v1)] [] z (m_X12_ticks_L64 k90 f r0 v1 z) := by
  intro f
  induction f with
  | zero => intro r0 v1 z; exact J.none
  | succ f hL64 =>
    intro r0 v1 z
    rw [m_X12_ticks_L64]
    refine j_iload_n (pc := 64) 1 dX12_ticks_64 rfl rfl ?_
    refine j_sipush (pc := 65) (v := 144) dX12_ticks_65 (by decide) ?_
    refine j_icmp_ge (pc := 68) 90 dX12_ticks_68 (by decide) ?_ ?_
    · exact J.sub [0] rfl (hL90 r0 z)
    refine j_aload_n (pc := 71) 0 dX12_ticks_71 rfl rfl ?_
    refine j_iload_n (pc := 72) 1 dX12_ticks_72 rfl rfl ?_
    refine j_isC (fun h41 => ?_)
    refine j_callV_I (pc := 73) (as := [.int v1]) (mc2 := 0) (ms2 := 0) (ct_X12_isDug _ _ _) h41 rfl cw_X12_ticks_102 dX12_ticks_73 (Nat.le_of_ble_eq_true rfl) rfl (by decide) (by decide) (fun x40 z39 => ?_)
    refine j_if_ne (pc := 76) 84 dX12_ticks_76 (by decide) ?_ ?_
    · exact J.sub [0, 1] rfl ((j_X12_ticks_B84 hL64) r0 v1 z39)
    refine j_aload_n (pc := 79) 0 dX12_ticks_79 rfl rfl ?_
    refine j_iload_n (pc := 80) 1 dX12_ticks_80 rfl rfl ?_
    refine j_isC (fun h43 => ?_)
    refine j_callV_V (pc := 81) (as := [.int v1]) (mc2 := 0) (ms2 := 0) (ct_X12_does _ _ _) h43 rfl cw_X12_ticks_322 dX12_ticks_81 (Nat.le_of_ble_eq_true rfl) rfl (by decide) (by decide) (fun _ z42 => ?_)
    exact J.sub [0, 1] rfl ((j_X12_ticks_B84 hL64) r0 v1 z42)
theorem j_X12_ticks_B58 {l : Launch} {Γ : Am}   : ∀ (r0 : Nat) (z : Hp), J l Γ mi_X12_ticks cvV 0 0 58 [(0, .ref (mB Γ + r0))] [] z (m_X12_ticks_B58  r0 z) := by
  intro r0 z
  unfold m_X12_ticks_B58
  refine j_aload_n (pc := 58) 0 dX12_ticks_58 rfl rfl ?_
  refine j_isC (fun h45 => ?_)
  refine j_callV_V (pc := 59) (as := []) (mc2 := 0) (ms2 := 0) (ct_X12_pipes _ _) h45 rfl cw_X12_ticks_319 dX12_ticks_59 (Nat.le_of_ble_eq_true rfl) rfl (by decide) (by decide) (fun _ z44 => ?_)
  refine j_iconst (pc := 62) (v := 0) dX12_ticks_62 (by decide) ?_
  refine j_istore_n (pc := 63) (lv2 := [(1, .int 0), (0, .ref (mB Γ + r0))]) dX12_ticks_63 rfl (by decide) rfl ?_
  exact J.sub [1, 0] rfl ((j_X12_ticks_L64 j_X12_ticks_B90 FU) r0 0 z44)
theorem j_X12_ticks_B52 {l : Launch} {Γ : Am} {k24 : Nat → Int32 → Hp → Option (Unit × Hp)} (hL24 : ∀ (r0 : Nat) (v1 : Int32) (z : Hp), J l Γ mi_X12_ticks cvV 0 0 24 [(0, .ref (mB Γ + r0)), (1, .int v1)] [] z (k24 r0 v1 z)) : ∀ (r0 : Nat) (v1 : Int32) (z : Hp), J l Γ mi_X12_ticks cvV 0 0 52 [(0, .ref (mB Γ + r0)), (1, .int v1)] [] z (m_X12_ticks_B52 k24 r0 v1 z) := by
  intro r0 v1 z
  unfold m_X12_ticks_B52
  refine j_iinc (pc := 52) (n0 := 1) (v0 := v1 + 1) (lv2 := [(1, .int (v1 + 1)), (0, .ref (mB Γ + r0))]) dX12_ticks_52 rfl rfl (by decide) rfl ?_
  refine j_goto (pc := 55) 24 dX12_ticks_55 (by decide) ?_
  exact J.sub [1, 0] rfl (hL24 r0 (v1 + 1) z)
theorem j_X12_ticks_L24 {l : Launch} {Γ : Am} {k58 : Nat → Hp → Option (Unit × Hp)} (hL58 : ∀ (r0 : Nat) (z : Hp), J l Γ mi_X12_ticks cvV 0 0 58 [(0, .ref (mB Γ + r0))] [] z (k58 r0 z)) : ∀ (f : Nat), ∀ (r0 : Nat) (v1 : Int32) (z : Hp), J l Γ mi_X12_ticks cvV 0 0 24 [(0, .ref (mB Γ + r0)), (1, .int v1)] [] z (m_X12_ticks_L24 k58 f r0 v1 z) := by
  intro f
  induction f with
  | zero => intro r0 v1 z; exact J.none
  | succ f hL24 =>
    intro r0 v1 z
    rw [m_X12_ticks_L24]
    refine j_iload_n (pc := 24) 1 dX12_ticks_24 rfl rfl ?_
    refine j_sipush (pc := 25) (v := 144) dX12_ticks_25 (by decide) ?_
    refine j_icmp_ge (pc := 28) 58 dX12_ticks_28 (by decide) ?_ ?_
    · exact J.sub [0] rfl (hL58 r0 z)
    refine j_aload_n (pc := 31) 0 dX12_ticks_31 rfl rfl ?_
    refine j_iload_n (pc := 32) 1 dX12_ticks_32 rfl rfl ?_
    refine j_isC (fun h48 => ?_)
    refine j_callV_I (pc := 33) (as := [.int v1]) (mc2 := 0) (ms2 := 0) (ct_X12_isDug _ _ _) h48 rfl cw_X12_ticks_102 dX12_ticks_33 (Nat.le_of_ble_eq_true rfl) rfl (by decide) (by decide) (fun x47 z46 => ?_)
    refine j_if_eq (pc := 36) 42 dX12_ticks_36 (by decide) ?_ ?_
    · refine j_aload_n (pc := 42) 0 dX12_ticks_42 rfl rfl ?_
      refine j_iload_n (pc := 43) 1 dX12_ticks_43 rfl rfl ?_
      refine j_isC (fun h50 => ?_)
      refine j_callV_V (pc := 44) (as := [.int v1]) (mc2 := 0) (ms2 := 0) (ct_X12_comesBeside _ _ _) h50 rfl cw_X12_ticks_313 dX12_ticks_44 (Nat.le_of_ble_eq_true rfl) rfl (by decide) (by decide) (fun _ z49 => ?_)
      refine j_aload_n (pc := 47) 0 dX12_ticks_47 rfl rfl ?_
      refine j_iload_n (pc := 48) 1 dX12_ticks_48 rfl rfl ?_
      refine j_isC (fun h52 => ?_)
      refine j_callV_V (pc := 49) (as := [.int v1]) (mc2 := 0) (ms2 := 0) (ct_X12_streams _ _ _) h52 rfl cw_X12_ticks_316 dX12_ticks_49 (Nat.le_of_ble_eq_true rfl) rfl (by decide) (by decide) (fun _ z51 => ?_)
      exact J.sub [0, 1] rfl ((j_X12_ticks_B52 hL24) r0 v1 z51)
    refine j_goto (pc := 39) 52 dX12_ticks_39 (by decide) ?_
    exact J.sub [0, 1] rfl ((j_X12_ticks_B52 hL24) r0 v1 z46)
theorem j_X12_ticks_B22 {l : Launch} {Γ : Am}   : ∀ (r0 : Nat) (z : Hp), J l Γ mi_X12_ticks cvV 0 0 22 [(0, .ref (mB Γ + r0))] [] z (m_X12_ticks_B22  r0 z) := by
  intro r0 z
  unfold m_X12_ticks_B22
  refine j_iconst (pc := 22) (v := 0) dX12_ticks_22 (by decide) ?_
  refine j_istore_n (pc := 23) (lv2 := [(1, .int 0), (0, .ref (mB Γ + r0))]) dX12_ticks_23 rfl (by decide) rfl ?_
  exact J.sub [1, 0] rfl ((j_X12_ticks_L24 j_X12_ticks_B58 FU) r0 0 z)
theorem j_X12_ticks_L2 {l : Launch} {Γ : Am} {k22 : Nat → Hp → Option (Unit × Hp)} (hL22 : ∀ (r0 : Nat) (z : Hp), J l Γ mi_X12_ticks cvV 0 0 22 [(0, .ref (mB Γ + r0))] [] z (k22 r0 z)) : ∀ (f : Nat), ∀ (r0 : Nat) (v1 : Int32) (z : Hp), J l Γ mi_X12_ticks cvV 0 0 2 [(0, .ref (mB Γ + r0)), (1, .int v1)] [] z (m_X12_ticks_L2 k22 f r0 v1 z) := by
  intro f
  induction f with
  | zero => intro r0 v1 z; exact J.none
  | succ f hL2 =>
    intro r0 v1 z
    rw [m_X12_ticks_L2]
    refine j_iload_n (pc := 2) 1 dX12_ticks_2 rfl rfl ?_
    refine j_sipush (pc := 3) (v := 144) dX12_ticks_3 (by decide) ?_
    refine j_icmp_ge (pc := 6) 22 dX12_ticks_6 (by decide) ?_ ?_
    · exact J.sub [0] rfl (hL22 r0 z)
    refine j_aload_n (pc := 9) 0 dX12_ticks_9 rfl rfl ?_
    refine j_getR (pc := 10) ok_X12 (by decide) rfl w_1262 dX12_ticks_10 (fun a53 => ?_)
    refine j_iload_n (pc := 13) 1 dX12_ticks_13 rfl rfl ?_
    refine j_iconst (pc := 14) (v := 0) dX12_ticks_14 (by decide) ?_
    refine j_iastore (pc := 15) dX12_ticks_15 (fun z54 => ?_)
    refine j_iinc (pc := 16) (n0 := 1) (v0 := v1 + 1) (lv2 := [(1, .int (v1 + 1)), (0, .ref (mB Γ + r0))]) dX12_ticks_16 rfl rfl (by decide) rfl ?_
    refine j_goto (pc := 19) 2 dX12_ticks_19 (by decide) ?_
    exact J.sub [1, 0] rfl (hL2 r0 (v1 + 1) z54)
theorem ct_X12_ticks {l : Launch} {Γ : Am} (r0 : Nat) (z : Hp) : Ct l Γ yX12_ticks mi_X12_ticks cvV [.ref (mB Γ + r0)] z (m_X12_ticks r0 z) := by
  refine Ct.ofJ (by decide) ⟨rfl, rfl⟩ (Nat.le_of_ble_eq_true rfl) ?_
  unfold m_X12_ticks
  show J l Γ mi_X12_ticks cvV 0 0 0 [(0, .ref (mB Γ + r0))] [] z _
  refine j_iconst (pc := 0) (v := 0) dX12_ticks_0 (by decide) ?_
  refine j_istore_n (pc := 1) (lv2 := [(1, .int 0), (0, .ref (mB Γ + r0))]) dX12_ticks_1 rfl (by decide) rfl ?_
  exact J.sub [1, 0] rfl ((j_X12_ticks_L2 j_X12_ticks_B22 FU) r0 0 z)
theorem dX12_tick_0 : decode cX12_tick 0 = .ok (.iload_n 1, 1) := by decide +kernel
theorem dX12_tick_1 : decode cX12_tick 1 = .ok (.i2l, 1) := by decide +kernel
theorem dX12_tick_2 : decode cX12_tick 2 = .ok (.lconst 1, 1) := by decide +kernel
theorem dX12_tick_3 : decode cX12_tick 3 = .ok (.ldc2_w 337, 3) := by decide +kernel
theorem dX12_tick_6 : decode cX12_tick 6 = .ok (.invokestatic 110, 3) := by decide +kernel
theorem dX12_tick_9 : decode cX12_tick 9 = .ok (.ifCond .ne 6, 3) := by decide +kernel
theorem dX12_tick_12 : decode cX12_tick 12 = .ok (.bipush (-2), 2) := by decide +kernel
theorem dX12_tick_14 : decode cX12_tick 14 = .ok (.ireturn, 1) := by decide +kernel
theorem dX12_tick_15 : decode cX12_tick 15 = .ok (.aload_n 0, 1) := by decide +kernel
theorem dX12_tick_16 : decode cX12_tick 16 = .ok (.getfield 13, 3) := by decide +kernel
theorem dX12_tick_19 : decode cX12_tick 19 = .ok (.iconst 1, 1) := by decide +kernel
theorem dX12_tick_20 : decode cX12_tick 20 = .ok (.iaload, 1) := by decide +kernel
theorem dX12_tick_21 : decode cX12_tick 21 = .ok (.iload_n 1, 1) := by decide +kernel
theorem dX12_tick_22 : decode cX12_tick 22 = .ok (.iadd, 1) := by decide +kernel
theorem dX12_tick_23 : decode cX12_tick 23 = .ok (.sipush 2000, 3) := by decide +kernel
theorem dX12_tick_26 : decode cX12_tick 26 = .ok (.if_icmp .le 6, 3) := by decide +kernel
theorem dX12_tick_29 : decode cX12_tick 29 = .ok (.bipush (-3), 2) := by decide +kernel
theorem dX12_tick_31 : decode cX12_tick 31 = .ok (.ireturn, 1) := by decide +kernel
theorem dX12_tick_32 : decode cX12_tick 32 = .ok (.iconst 0, 1) := by decide +kernel
theorem dX12_tick_33 : decode cX12_tick 33 = .ok (.istore_n 2, 1) := by decide +kernel
theorem dX12_tick_34 : decode cX12_tick 34 = .ok (.iload_n 2, 1) := by decide +kernel
theorem dX12_tick_35 : decode cX12_tick 35 = .ok (.iload_n 1, 1) := by decide +kernel
theorem dX12_tick_36 : decode cX12_tick 36 = .ok (.if_icmp .ge 13, 3) := by decide +kernel
theorem dX12_tick_39 : decode cX12_tick 39 = .ok (.aload_n 0, 1) := by decide +kernel
theorem dX12_tick_40 : decode cX12_tick 40 = .ok (.invokevirtual 339, 3) := by decide +kernel
theorem dX12_tick_43 : decode cX12_tick 43 = .ok (.iinc 2 1, 3) := by decide +kernel
theorem dX12_tick_46 : decode cX12_tick 46 = .ok (.goto (-12), 3) := by decide +kernel
theorem dX12_tick_49 : decode cX12_tick 49 = .ok (.aload_n 0, 1) := by decide +kernel
theorem dX12_tick_50 : decode cX12_tick 50 = .ok (.getfield 13, 3) := by decide +kernel
theorem dX12_tick_53 : decode cX12_tick 53 = .ok (.iconst 1, 1) := by decide +kernel
theorem dX12_tick_54 : decode cX12_tick 54 = .ok (.iaload, 1) := by decide +kernel
theorem dX12_tick_55 : decode cX12_tick 55 = .ok (.ireturn, 1) := by decide +kernel
theorem cw_X12_tick_339 : CwV mi_X12_tick mi_X12_ticks yX12_ticks RX12 339 0 := ⟨⟨w_1507, w_1509, w_64, w_108, w_1510⟩, ⟨by decide, by decide⟩, by decide +kernel, by decide, by decide⟩
theorem cw_X12_tick_110 : CwS mi_X12_tick mi_X12_in yX12_in 110 3 := ⟨⟨w_1365, w_1366, w_108, w_1367⟩, ⟨by decide, by decide⟩, by decide +kernel, by decide, by decide⟩
theorem j_X12_tick_B49 {l : Launch} {Γ : Am}   : ∀ (r0 : Nat) (z : Hp), J l Γ mi_X12_tick cvI 0 0 49 [(0, .ref (mB Γ + r0))] [] z (m_X12_tick_B49  r0 z) := by
  intro r0 z
  unfold m_X12_tick_B49
  refine j_aload_n (pc := 49) 0 dX12_tick_49 rfl rfl ?_
  refine j_getR (pc := 50) ok_X12 (by decide) rfl w_1239 dX12_tick_50 (fun a1 => ?_)
  refine j_iconst (pc := 53) (v := 1) dX12_tick_53 (by decide) ?_
  refine j_iaload (pc := 54) dX12_tick_54 (fun x2 => ?_)
  exact j_ireturn (pc := 55) dX12_tick_55 rfl rfl
theorem j_X12_tick_L34 {l : Launch} {Γ : Am} {k49 : Nat → Hp → Option (Int32 × Hp)} (hL49 : ∀ (r0 : Nat) (z : Hp), J l Γ mi_X12_tick cvI 0 0 49 [(0, .ref (mB Γ + r0))] [] z (k49 r0 z)) : ∀ (f : Nat), ∀ (r0 : Nat) (v1 : Int32) (v2 : Int32) (z : Hp), J l Γ mi_X12_tick cvI 0 0 34 [(0, .ref (mB Γ + r0)), (1, .int v1), (2, .int v2)] [] z (m_X12_tick_L34 k49 f r0 v1 v2 z) := by
  intro f
  induction f with
  | zero => intro r0 v1 v2 z; exact J.none
  | succ f hL34 =>
    intro r0 v1 v2 z
    rw [m_X12_tick_L34]
    refine j_iload_n (pc := 34) 2 dX12_tick_34 rfl rfl ?_
    refine j_iload_n (pc := 35) 1 dX12_tick_35 rfl rfl ?_
    refine j_icmp_ge (pc := 36) 49 dX12_tick_36 (by decide) ?_ ?_
    · exact J.sub [0] rfl (hL49 r0 z)
    refine j_aload_n (pc := 39) 0 dX12_tick_39 rfl rfl ?_
    refine j_isC (fun h4 => ?_)
    refine j_callV_V (pc := 40) (as := []) (mc2 := 0) (ms2 := 0) (ct_X12_ticks _ _) h4 rfl cw_X12_tick_339 dX12_tick_40 (Nat.le_of_ble_eq_true rfl) rfl (by decide) (by decide) (fun _ z3 => ?_)
    refine j_iinc (pc := 43) (n0 := 2) (v0 := v2 + 1) (lv2 := [(2, .int (v2 + 1)), (0, .ref (mB Γ + r0)), (1, .int v1)]) dX12_tick_43 rfl rfl (by decide) rfl ?_
    refine j_goto (pc := 46) 34 dX12_tick_46 (by decide) ?_
    exact J.sub [1, 2, 0] rfl (hL34 r0 v1 (v2 + 1) z3)
theorem ct_X12_tick {l : Launch} {Γ : Am} (r0 : Nat) (v1 : Int32) (z : Hp) : Ct l Γ yX12_tick mi_X12_tick cvI [.ref (mB Γ + r0), .int v1] z (m_X12_tick r0 v1 z) := by
  refine Ct.ofJ (by decide) ⟨rfl, rfl⟩ (Nat.le_of_ble_eq_true rfl) ?_
  unfold m_X12_tick
  show J l Γ mi_X12_tick cvI 0 0 0 [(0, .ref (mB Γ + r0)), (1, .int v1)] [] z _
  refine j_iload_n (pc := 0) 1 dX12_tick_0 rfl rfl ?_
  refine j_i2l (pc := 1) dX12_tick_1 ?_
  refine j_lconst (pc := 2) (v := 1) dX12_tick_2 (by decide) ?_
  refine j_ldc2 (pc := 3) (v := 40) dX12_tick_3 w_1506 ?_
  refine j_callS_I (pc := 6) (as := [.long (Int32.toInt64 v1), .long 1, .long 40]) (mc2 := 0) (ms2 := 0) (ct_X12_in _ _ _ _) cw_X12_tick_110 dX12_tick_6 (Nat.le_of_ble_eq_true rfl) rfl (by decide) (by decide) (fun x6 z5 => ?_)
  refine j_if_ne (pc := 9) 15 dX12_tick_9 (by decide) ?_ ?_
  · refine j_aload_n (pc := 15) 0 dX12_tick_15 rfl rfl ?_
    refine j_getR (pc := 16) ok_X12 (by decide) rfl w_1239 dX12_tick_16 (fun a7 => ?_)
    refine j_iconst (pc := 19) (v := 1) dX12_tick_19 (by decide) ?_
    refine j_iaload (pc := 20) dX12_tick_20 (fun x8 => ?_)
    refine j_iload_n (pc := 21) 1 dX12_tick_21 rfl rfl ?_
    refine j_iadd (pc := 22) dX12_tick_22 ?_
    refine j_sipush (pc := 23) (v := 2000) dX12_tick_23 (by decide) ?_
    refine j_icmp_le (pc := 26) 32 dX12_tick_26 (by decide) ?_ ?_
    · refine j_iconst (pc := 32) (v := 0) dX12_tick_32 (by decide) ?_
      refine j_istore_n (pc := 33) (lv2 := [(2, .int 0), (0, .ref (mB Γ + r0)), (1, .int v1)]) dX12_tick_33 rfl (by decide) rfl ?_
      exact J.sub [1, 2, 0] rfl ((j_X12_tick_L34 j_X12_tick_B49 FU) r0 v1 0 z5)
    refine j_bipush (pc := 29) (v := (-3)) dX12_tick_29 (by decide) ?_
    exact j_ireturn (pc := 31) dX12_tick_31 rfl rfl
  refine j_bipush (pc := 12) (v := (-2)) dX12_tick_12 (by decide) ?_
  exact j_ireturn (pc := 14) dX12_tick_14 rfl rfl
