theorem dX12_layTurns_0 : decode cX12_layTurns 0 = .ok (.iload_n 1, 1) := by decide +kernel
theorem dX12_layTurns_1 : decode cX12_layTurns 1 = .ok (.istore_n 3, 1) := by decide +kernel
theorem dX12_layTurns_2 : decode cX12_layTurns 2 = .ok (.iload_n 3, 1) := by decide +kernel
theorem dX12_layTurns_3 : decode cX12_layTurns 3 = .ok (.ifCond .lt 221, 3) := by decide +kernel
theorem dX12_layTurns_6 : decode cX12_layTurns 6 = .ok (.iconst 0, 1) := by decide +kernel
theorem dX12_layTurns_7 : decode cX12_layTurns 7 = .ok (.istore 4, 2) := by decide +kernel
theorem dX12_layTurns_9 : decode cX12_layTurns 9 = .ok (.iload 4, 2) := by decide +kernel
theorem dX12_layTurns_11 : decode cX12_layTurns 11 = .ok (.iconst 1, 1) := by decide +kernel
theorem dX12_layTurns_12 : decode cX12_layTurns 12 = .ok (.aload_n 0, 1) := by decide +kernel
theorem dX12_layTurns_13 : decode cX12_layTurns 13 = .ok (.getfield 270, 3) := by decide +kernel
theorem dX12_layTurns_16 : decode cX12_layTurns 16 = .ok (.ishl, 1) := by decide +kernel
theorem dX12_layTurns_17 : decode cX12_layTurns 17 = .ok (.if_icmp .ge 201, 3) := by decide +kernel
theorem dX12_layTurns_20 : decode cX12_layTurns 20 = .ok (.iload_n 3, 1) := by decide +kernel
theorem dX12_layTurns_21 : decode cX12_layTurns 21 = .ok (.aload_n 0, 1) := by decide +kernel
theorem dX12_layTurns_22 : decode cX12_layTurns 22 = .ok (.getfield 270, 3) := by decide +kernel
theorem dX12_layTurns_25 : decode cX12_layTurns 25 = .ok (.irem, 1) := by decide +kernel
theorem dX12_layTurns_26 : decode cX12_layTurns 26 = .ok (.istore 5, 2) := by decide +kernel
theorem dX12_layTurns_28 : decode cX12_layTurns 28 = .ok (.iload 4, 2) := by decide +kernel
theorem dX12_layTurns_30 : decode cX12_layTurns 30 = .ok (.invokestatic 335, 3) := by decide +kernel
theorem dX12_layTurns_33 : decode cX12_layTurns 33 = .ok (.iconst 1, 1) := by decide +kernel
theorem dX12_layTurns_34 : decode cX12_layTurns 34 = .ok (.iadd, 1) := by decide +kernel
theorem dX12_layTurns_35 : decode cX12_layTurns 35 = .ok (.aload_n 0, 1) := by decide +kernel
theorem dX12_layTurns_36 : decode cX12_layTurns 36 = .ok (.getfield 43, 3) := by decide +kernel
theorem dX12_layTurns_39 : decode cX12_layTurns 39 = .ok (.iconst 0, 1) := by decide +kernel
theorem dX12_layTurns_40 : decode cX12_layTurns 40 = .ok (.iaload, 1) := by decide +kernel
theorem dX12_layTurns_41 : decode cX12_layTurns 41 = .ok (.if_icmp .ne 17, 3) := by decide +kernel
theorem dX12_layTurns_44 : decode cX12_layTurns 44 = .ok (.aload_n 0, 1) := by decide +kernel
theorem dX12_layTurns_45 : decode cX12_layTurns 45 = .ok (.getfield 37, 3) := by decide +kernel
theorem dX12_layTurns_48 : decode cX12_layTurns 48 = .ok (.iconst 4, 1) := by decide +kernel
theorem dX12_layTurns_49 : decode cX12_layTurns 49 = .ok (.iload 5, 2) := by decide +kernel
theorem dX12_layTurns_51 : decode cX12_layTurns 51 = .ok (.imul, 1) := by decide +kernel
theorem dX12_layTurns_52 : decode cX12_layTurns 52 = .ok (.iconst 1, 1) := by decide +kernel
theorem dX12_layTurns_53 : decode cX12_layTurns 53 = .ok (.iadd, 1) := by decide +kernel
theorem dX12_layTurns_54 : decode cX12_layTurns 54 = .ok (.iaload, 1) := by decide +kernel
theorem dX12_layTurns_55 : decode cX12_layTurns 55 = .ok (.goto 4, 3) := by decide +kernel
theorem dX12_layTurns_58 : decode cX12_layTurns 58 = .ok (.iconst 0, 1) := by decide +kernel
theorem dX12_layTurns_59 : decode cX12_layTurns 59 = .ok (.iload 4, 2) := by decide +kernel
theorem dX12_layTurns_61 : decode cX12_layTurns 61 = .ok (.ifCond .ne 7, 3) := by decide +kernel
theorem dX12_layTurns_64 : decode cX12_layTurns 64 = .ok (.iload_n 2, 1) := by decide +kernel
theorem dX12_layTurns_65 : decode cX12_layTurns 65 = .ok (.goto 4, 3) := by decide +kernel
theorem dX12_layTurns_68 : decode cX12_layTurns 68 = .ok (.iconst 0, 1) := by decide +kernel
theorem dX12_layTurns_69 : decode cX12_layTurns 69 = .ok (.isub, 1) := by decide +kernel
theorem dX12_layTurns_70 : decode cX12_layTurns 70 = .ok (.istore 6, 2) := by decide +kernel
theorem dX12_layTurns_72 : decode cX12_layTurns 72 = .ok (.iload_n 3, 1) := by decide +kernel
theorem dX12_layTurns_73 : decode cX12_layTurns 73 = .ok (.iload_n 1, 1) := by decide +kernel
theorem dX12_layTurns_74 : decode cX12_layTurns 74 = .ok (.if_icmp .ge 33, 3) := by decide +kernel
theorem dX12_layTurns_77 : decode cX12_layTurns 77 = .ok (.iload 4, 2) := by decide +kernel
theorem dX12_layTurns_79 : decode cX12_layTurns 79 = .ok (.iload 5, 2) := by decide +kernel
theorem dX12_layTurns_81 : decode cX12_layTurns 81 = .ok (.invokestatic 248, 3) := by decide +kernel
theorem dX12_layTurns_84 : decode cX12_layTurns 84 = .ok (.ifCond .ne 23, 3) := by decide +kernel
theorem dX12_layTurns_87 : decode cX12_layTurns 87 = .ok (.iload 6, 2) := by decide +kernel
theorem dX12_layTurns_89 : decode cX12_layTurns 89 = .ok (.aload_n 0, 1) := by decide +kernel
theorem dX12_layTurns_90 : decode cX12_layTurns 90 = .ok (.iload_n 3, 1) := by decide +kernel
theorem dX12_layTurns_91 : decode cX12_layTurns 91 = .ok (.iconst 1, 1) := by decide +kernel
theorem dX12_layTurns_92 : decode cX12_layTurns 92 = .ok (.iadd, 1) := by decide +kernel
theorem dX12_layTurns_93 : decode cX12_layTurns 93 = .ok (.iload 4, 2) := by decide +kernel
theorem dX12_layTurns_95 : decode cX12_layTurns 95 = .ok (.iload 5, 2) := by decide +kernel
theorem dX12_layTurns_97 : decode cX12_layTurns 97 = .ok (.invokevirtual 387, 3) := by decide +kernel
theorem dX12_layTurns_100 : decode cX12_layTurns 100 = .ok (.if_icmp .le 7, 3) := by decide +kernel
theorem dX12_layTurns_103 : decode cX12_layTurns 103 = .ok (.iconst 1, 1) := by decide +kernel
theorem dX12_layTurns_104 : decode cX12_layTurns 104 = .ok (.goto 4, 3) := by decide +kernel
theorem dX12_layTurns_107 : decode cX12_layTurns 107 = .ok (.iconst 0, 1) := by decide +kernel
theorem dX12_layTurns_108 : decode cX12_layTurns 108 = .ok (.istore 7, 2) := by decide +kernel
theorem dX12_layTurns_110 : decode cX12_layTurns 110 = .ok (.aload_n 0, 1) := by decide +kernel
theorem dX12_layTurns_111 : decode cX12_layTurns 111 = .ok (.getfield 78, 3) := by decide +kernel
theorem dX12_layTurns_114 : decode cX12_layTurns 114 = .ok (.bipush 64, 2) := by decide +kernel
theorem dX12_layTurns_116 : decode cX12_layTurns 116 = .ok (.iload_n 3, 1) := by decide +kernel
theorem dX12_layTurns_117 : decode cX12_layTurns 117 = .ok (.imul, 1) := by decide +kernel
theorem dX12_layTurns_118 : decode cX12_layTurns 118 = .ok (.iload 4, 2) := by decide +kernel
theorem dX12_layTurns_120 : decode cX12_layTurns 120 = .ok (.iadd, 1) := by decide +kernel
theorem dX12_layTurns_121 : decode cX12_layTurns 121 = .ok (.iload 7, 2) := by decide +kernel
theorem dX12_layTurns_123 : decode cX12_layTurns 123 = .ok (.bastore, 1) := by decide +kernel
theorem dX12_layTurns_124 : decode cX12_layTurns 124 = .ok (.iconst 0, 1) := by decide +kernel
theorem dX12_layTurns_125 : decode cX12_layTurns 125 = .ok (.istore 8, 2) := by decide +kernel
theorem dX12_layTurns_127 : decode cX12_layTurns 127 = .ok (.iload 8, 2) := by decide +kernel
theorem dX12_layTurns_129 : decode cX12_layTurns 129 = .ok (.aload_n 0, 1) := by decide +kernel
theorem dX12_layTurns_130 : decode cX12_layTurns 130 = .ok (.getfield 270, 3) := by decide +kernel
theorem dX12_layTurns_133 : decode cX12_layTurns 133 = .ok (.if_icmp .ge 79, 3) := by decide +kernel
theorem dX12_layTurns_136 : decode cX12_layTurns 136 = .ok (.aload_n 0, 1) := by decide +kernel
theorem dX12_layTurns_137 : decode cX12_layTurns 137 = .ok (.getfield 75, 3) := by decide +kernel
theorem dX12_layTurns_140 : decode cX12_layTurns 140 = .ok (.bipush 6, 2) := by decide +kernel
theorem dX12_layTurns_142 : decode cX12_layTurns 142 = .ok (.bipush 64, 2) := by decide +kernel
theorem dX12_layTurns_144 : decode cX12_layTurns 144 = .ok (.iload_n 3, 1) := by decide +kernel
theorem dX12_layTurns_145 : decode cX12_layTurns 145 = .ok (.imul, 1) := by decide +kernel
theorem dX12_layTurns_146 : decode cX12_layTurns 146 = .ok (.iload 4, 2) := by decide +kernel
theorem dX12_layTurns_148 : decode cX12_layTurns 148 = .ok (.iadd, 1) := by decide +kernel
theorem dX12_layTurns_149 : decode cX12_layTurns 149 = .ok (.imul, 1) := by decide +kernel
theorem dX12_layTurns_150 : decode cX12_layTurns 150 = .ok (.iload 8, 2) := by decide +kernel
theorem dX12_layTurns_152 : decode cX12_layTurns 152 = .ok (.iadd, 1) := by decide +kernel
theorem dX12_layTurns_153 : decode cX12_layTurns 153 = .ok (.iload_n 3, 1) := by decide +kernel
theorem dX12_layTurns_154 : decode cX12_layTurns 154 = .ok (.iload_n 1, 1) := by decide +kernel
theorem dX12_layTurns_155 : decode cX12_layTurns 155 = .ok (.if_icmp .ne 7, 3) := by decide +kernel
theorem dX12_layTurns_158 : decode cX12_layTurns 158 = .ok (.iconst 0, 1) := by decide +kernel
theorem dX12_layTurns_159 : decode cX12_layTurns 159 = .ok (.goto 46, 3) := by decide +kernel
theorem dX12_layTurns_162 : decode cX12_layTurns 162 = .ok (.iload 7, 2) := by decide +kernel
theorem dX12_layTurns_164 : decode cX12_layTurns 164 = .ok (.ifCond .eq 15, 3) := by decide +kernel
theorem dX12_layTurns_167 : decode cX12_layTurns 167 = .ok (.iload 8, 2) := by decide +kernel
theorem dX12_layTurns_169 : decode cX12_layTurns 169 = .ok (.iload 5, 2) := by decide +kernel
theorem dX12_layTurns_171 : decode cX12_layTurns 171 = .ok (.if_icmp .ne 8, 3) := by decide +kernel
theorem dX12_layTurns_174 : decode cX12_layTurns 174 = .ok (.iload 6, 2) := by decide +kernel
theorem dX12_layTurns_176 : decode cX12_layTurns 176 = .ok (.goto 29, 3) := by decide +kernel
theorem dX12_layTurns_179 : decode cX12_layTurns 179 = .ok (.aload_n 0, 1) := by decide +kernel
theorem dX12_layTurns_180 : decode cX12_layTurns 180 = .ok (.iload_n 3, 1) := by decide +kernel
theorem dX12_layTurns_181 : decode cX12_layTurns 181 = .ok (.iconst 1, 1) := by decide +kernel
theorem dX12_layTurns_182 : decode cX12_layTurns 182 = .ok (.iadd, 1) := by decide +kernel
theorem dX12_layTurns_183 : decode cX12_layTurns 183 = .ok (.iload 7, 2) := by decide +kernel
theorem dX12_layTurns_185 : decode cX12_layTurns 185 = .ok (.ifCond .eq 13, 3) := by decide +kernel
theorem dX12_layTurns_188 : decode cX12_layTurns 188 = .ok (.iload 4, 2) := by decide +kernel
theorem dX12_layTurns_190 : decode cX12_layTurns 190 = .ok (.iconst 1, 1) := by decide +kernel
theorem dX12_layTurns_191 : decode cX12_layTurns 191 = .ok (.iload 5, 2) := by decide +kernel
theorem dX12_layTurns_193 : decode cX12_layTurns 193 = .ok (.ishl, 1) := by decide +kernel
theorem dX12_layTurns_194 : decode cX12_layTurns 194 = .ok (.ior, 1) := by decide +kernel
theorem dX12_layTurns_195 : decode cX12_layTurns 195 = .ok (.goto 5, 3) := by decide +kernel
theorem dX12_layTurns_198 : decode cX12_layTurns 198 = .ok (.iload 4, 2) := by decide +kernel
theorem dX12_layTurns_200 : decode cX12_layTurns 200 = .ok (.iload 8, 2) := by decide +kernel
theorem dX12_layTurns_202 : decode cX12_layTurns 202 = .ok (.invokevirtual 387, 3) := by decide +kernel
theorem dX12_layTurns_205 : decode cX12_layTurns 205 = .ok (.iastore, 1) := by decide +kernel
theorem dX12_layTurns_206 : decode cX12_layTurns 206 = .ok (.iinc 8 1, 3) := by decide +kernel
theorem dX12_layTurns_209 : decode cX12_layTurns 209 = .ok (.goto (-82), 3) := by decide +kernel
theorem dX12_layTurns_212 : decode cX12_layTurns 212 = .ok (.iinc 4 1, 3) := by decide +kernel
theorem dX12_layTurns_215 : decode cX12_layTurns 215 = .ok (.goto (-206), 3) := by decide +kernel
theorem dX12_layTurns_218 : decode cX12_layTurns 218 = .ok (.iinc 3 (-1), 3) := by decide +kernel
theorem dX12_layTurns_221 : decode cX12_layTurns 221 = .ok (.goto (-219), 3) := by decide +kernel
theorem dX12_layTurns_224 : decode cX12_layTurns 224 = .ok (.iconst 0, 1) := by decide +kernel
theorem dX12_layTurns_225 : decode cX12_layTurns 225 = .ok (.istore_n 3, 1) := by decide +kernel
theorem dX12_layTurns_226 : decode cX12_layTurns 226 = .ok (.iconst 0, 1) := by decide +kernel
theorem dX12_layTurns_227 : decode cX12_layTurns 227 = .ok (.istore 4, 2) := by decide +kernel
theorem dX12_layTurns_229 : decode cX12_layTurns 229 = .ok (.iload 4, 2) := by decide +kernel
theorem dX12_layTurns_231 : decode cX12_layTurns 231 = .ok (.bipush 6, 2) := by decide +kernel
theorem dX12_layTurns_233 : decode cX12_layTurns 233 = .ok (.if_icmp .ge 17, 3) := by decide +kernel
theorem dX12_layTurns_236 : decode cX12_layTurns 236 = .ok (.aload_n 0, 1) := by decide +kernel
theorem dX12_layTurns_237 : decode cX12_layTurns 237 = .ok (.getfield 81, 3) := by decide +kernel
theorem dX12_layTurns_240 : decode cX12_layTurns 240 = .ok (.iload 4, 2) := by decide +kernel
theorem dX12_layTurns_242 : decode cX12_layTurns 242 = .ok (.iconst (-1), 1) := by decide +kernel
theorem dX12_layTurns_243 : decode cX12_layTurns 243 = .ok (.iastore, 1) := by decide +kernel
theorem dX12_layTurns_244 : decode cX12_layTurns 244 = .ok (.iinc 4 1, 3) := by decide +kernel
theorem dX12_layTurns_247 : decode cX12_layTurns 247 = .ok (.goto (-18), 3) := by decide +kernel
theorem dX12_layTurns_250 : decode cX12_layTurns 250 = .ok (.iconst 0, 1) := by decide +kernel
theorem dX12_layTurns_251 : decode cX12_layTurns 251 = .ok (.istore 4, 2) := by decide +kernel
theorem dX12_layTurns_253 : decode cX12_layTurns 253 = .ok (.iload 4, 2) := by decide +kernel
theorem dX12_layTurns_255 : decode cX12_layTurns 255 = .ok (.iload_n 1, 1) := by decide +kernel
theorem dX12_layTurns_256 : decode cX12_layTurns 256 = .ok (.if_icmp .ge 53, 3) := by decide +kernel
theorem dX12_layTurns_259 : decode cX12_layTurns 259 = .ok (.aload_n 0, 1) := by decide +kernel
theorem dX12_layTurns_260 : decode cX12_layTurns 260 = .ok (.getfield 78, 3) := by decide +kernel
theorem dX12_layTurns_263 : decode cX12_layTurns 263 = .ok (.bipush 64, 2) := by decide +kernel
theorem dX12_layTurns_265 : decode cX12_layTurns 265 = .ok (.iload 4, 2) := by decide +kernel
theorem dX12_layTurns_267 : decode cX12_layTurns 267 = .ok (.imul, 1) := by decide +kernel
theorem dX12_layTurns_268 : decode cX12_layTurns 268 = .ok (.iload_n 3, 1) := by decide +kernel
theorem dX12_layTurns_269 : decode cX12_layTurns 269 = .ok (.iadd, 1) := by decide +kernel
theorem dX12_layTurns_270 : decode cX12_layTurns 270 = .ok (.baload, 1) := by decide +kernel
theorem dX12_layTurns_271 : decode cX12_layTurns 271 = .ok (.ifCond .ne 6, 3) := by decide +kernel
theorem dX12_layTurns_274 : decode cX12_layTurns 274 = .ok (.goto 29, 3) := by decide +kernel
theorem dX12_layTurns_277 : decode cX12_layTurns 277 = .ok (.aload_n 0, 1) := by decide +kernel
theorem dX12_layTurns_278 : decode cX12_layTurns 278 = .ok (.getfield 81, 3) := by decide +kernel
theorem dX12_layTurns_281 : decode cX12_layTurns 281 = .ok (.iload 4, 2) := by decide +kernel
theorem dX12_layTurns_283 : decode cX12_layTurns 283 = .ok (.aload_n 0, 1) := by decide +kernel
theorem dX12_layTurns_284 : decode cX12_layTurns 284 = .ok (.getfield 270, 3) := by decide +kernel
theorem dX12_layTurns_287 : decode cX12_layTurns 287 = .ok (.irem, 1) := by decide +kernel
theorem dX12_layTurns_288 : decode cX12_layTurns 288 = .ok (.iload 4, 2) := by decide +kernel
theorem dX12_layTurns_290 : decode cX12_layTurns 290 = .ok (.iastore, 1) := by decide +kernel
theorem dX12_layTurns_291 : decode cX12_layTurns 291 = .ok (.iload_n 3, 1) := by decide +kernel
theorem dX12_layTurns_292 : decode cX12_layTurns 292 = .ok (.iconst 1, 1) := by decide +kernel
theorem dX12_layTurns_293 : decode cX12_layTurns 293 = .ok (.iload 4, 2) := by decide +kernel
theorem dX12_layTurns_295 : decode cX12_layTurns 295 = .ok (.aload_n 0, 1) := by decide +kernel
theorem dX12_layTurns_296 : decode cX12_layTurns 296 = .ok (.getfield 270, 3) := by decide +kernel
theorem dX12_layTurns_299 : decode cX12_layTurns 299 = .ok (.irem, 1) := by decide +kernel
theorem dX12_layTurns_300 : decode cX12_layTurns 300 = .ok (.ishl, 1) := by decide +kernel
theorem dX12_layTurns_301 : decode cX12_layTurns 301 = .ok (.ior, 1) := by decide +kernel
theorem dX12_layTurns_302 : decode cX12_layTurns 302 = .ok (.istore_n 3, 1) := by decide +kernel
theorem dX12_layTurns_303 : decode cX12_layTurns 303 = .ok (.iinc 4 1, 3) := by decide +kernel
theorem dX12_layTurns_306 : decode cX12_layTurns 306 = .ok (.goto (-53), 3) := by decide +kernel
theorem dX12_layTurns_309 : decode cX12_layTurns 309 = .ok (.return_, 1) := by decide +kernel
def m_layTurns_309 (N : Nat) (w : aw_W) : Option (aw_W) :=
  some w
theorem w_m_layTurns_309 {l : Launch} {K : aw_K} (N d : Nat) (hd : 0 ≤ d) : ∀ (w v : aw_W), m_layTurns_309 N w = some v → aw_AW l K MX12_layTurns (d + 1) 309 [] [] w (none, v) := by
  intro w v h
  unfold m_layTurns_309 at h
  cases h
  exact aw_vret (pc := 309) rfl dX12_layTurns_309
def m_layTurns_303 (N : Nat) (k253 : Int → Int → Int → aw_W → Option (aw_W)) (x1 x3 x4 : Int) (w : aw_W) : Option (aw_W) :=
  k253 x1 x3 (aw_w (x4 + 1)) w
theorem w_m_layTurns_303 {l : Launch} {K : aw_K} (N d : Nat) (hd : 0 ≤ d) (k253 : Int → Int → Int → aw_W → Option (aw_W)) (hk253 : ∀ (x1 x3 x4 : Int) (w v : aw_W), k253 x1 x3 x4 w = some v → aw_AW l K MX12_layTurns (d + 1) 253 [(0, .inr (.inr 49)), (1, .inl x1), (3, .inl x3), (4, .inl x4)] [] w (none, v)) : ∀ (x1 x3 x4 : Int) (w v : aw_W), m_layTurns_303 N k253 x1 x3 x4 w = some v → aw_AW l K MX12_layTurns (d + 1) 303 [(0, .inr (.inr 49)), (1, .inl x1), (3, .inl x3), (4, .inl x4)] [] w (none, v) := by
  intro x1 x3 x4 w v h
  unfold m_layTurns_303 at h
  refine aw_iinc (pc := 303) (q := 3) (ls' := [(4, .inl (aw_w (x4 + 1))), (0, .inr (.inr 49)), (1, .inl x1), (3, .inl x3)]) dX12_layTurns_303 rfl (by decide) rfl ?_
  refine aw_goto (pc := 306) (tgt := 253) dX12_layTurns_306 (by decide) ?_
  exact aw_sel [1, 2, 3, 0] rfl (hk253 _ _ _ _ _ h)
def m_layTurns_253 (N : Nat) : Nat → Int → Int → Int → aw_W → Option (aw_W)
  | 0, _, _, _, _ => none
  | n + 1, x1, x3, x4, w =>
    if x1 ≤ x4 then
      m_layTurns_309 N w
    else
      if 0 ≤ (aw_w ((aw_w (64 * x4)) + x3)) ∧ (aw_w ((aw_w (64 * x4)) + x3)) < 3904 then
        if (w 66 ((aw_w ((aw_w (64 * x4)) + x3)).toNat)) = 0 then
          m_layTurns_303 N (m_layTurns_253 N n) x1 x3 x4 w
        else
          if ¬ (w 49 22) = 0 then
            if 0 ≤ (aw_w (Int.tmod x4 (w 49 22))) ∧ (aw_w (Int.tmod x4 (w 49 22))) < 6 then
              if ¬ (w 49 22) = 0 then
                m_layTurns_303 N (m_layTurns_253 N n) x1 (aw_or x3 (aw_shl 1 (aw_w (Int.tmod x4 (w 49 22))))) x4 (aw_up w 67 ((aw_w (Int.tmod x4 (w 49 22))).toNat) x4)
              else none
            else none
          else none
      else none
theorem w_m_layTurns_253 {l : Launch} {K : aw_K} (N d : Nat) (hd : 0 ≤ d) : ∀ (n : Nat) (x1 x3 x4 : Int) (w v : aw_W), m_layTurns_253 N n x1 x3 x4 w = some v → aw_AW l K MX12_layTurns (d + 1) 253 [(0, .inr (.inr 49)), (1, .inl x1), (3, .inl x3), (4, .inl x4)] [] w (none, v) := by
  intro n
  induction n with
  | zero => intro x1 x3 x4 w v h; rw [m_layTurns_253] at h; cases h
  | succ n ih =>
    intro x1 x3 x4 w v h
    rw [m_layTurns_253] at h
    refine aw_iload (pc := 253) (q := 3) dX12_layTurns_253 rfl ?_
    refine aw_iload_n (pc := 255) (q := 1) dX12_layTurns_255 rfl ?_
    refine aw_icmp_ge (pc := 256) (tgt := 309) dX12_layTurns_256 (by decide) (fun hc => ?_) (fun hc => ?_)
    · rw [if_pos hc] at h
      exact aw_sel [] rfl (w_m_layTurns_309 N d hd  _ _ h)
    · rw [if_neg hc] at h
      refine aw_aload_n (pc := 259) (q := 0) dX12_layTurns_259 rfl ?_
      refine aw_getf (pc := 260) (v := .inr (.inr 66)) dX12_layTurns_260 fl_RX12_78 (by decide) rfl rfl rfl ?_
      refine aw_bipush (pc := 263) dX12_layTurns_263 (by decide) ⟨by decide, by decide⟩ ?_
      refine aw_iload (pc := 265) (q := 3) dX12_layTurns_265 rfl ?_
      refine aw_imul (pc := 267) dX12_layTurns_267 ?_
      refine aw_iload_n (pc := 268) (q := 2) dX12_layTurns_268 rfl ?_
      refine aw_iadd (pc := 269) dX12_layTurns_269 ?_
      obtain ⟨hb, h⟩ := aw_cks h
      refine aw_zaldv (pc := 270) (v := w 66 ((aw_w ((aw_w (64 * x4)) + x3)).toNat)) dX12_layTurns_270 rfl hb.1 hb.2 rfl ?_
      refine aw_if_ne (pc := 271) (tgt := 277) dX12_layTurns_271 (by decide) (fun hc => ?_) (fun hc => ?_)
      · rw [if_neg hc] at h
        refine aw_aload_n (pc := 277) (q := 0) dX12_layTurns_277 rfl ?_
        refine aw_getf (pc := 278) (v := .inr (.inr 67)) dX12_layTurns_278 fl_RX12_81 (by decide) rfl rfl rfl ?_
        refine aw_iload (pc := 281) (q := 3) dX12_layTurns_281 rfl ?_
        refine aw_aload_n (pc := 283) (q := 0) dX12_layTurns_283 rfl ?_
        refine aw_getf (pc := 284) (v := .inl (w 49 22)) dX12_layTurns_284 fl_RX12_270 (by decide) rfl rfl rfl ?_
        obtain ⟨hy, h⟩ := aw_cks h
        refine aw_irem (pc := 287) dX12_layTurns_287 hy ?_
        refine aw_iload (pc := 288) (q := 3) dX12_layTurns_288 rfl ?_
        obtain ⟨hb, h⟩ := aw_cks h
        refine aw_iast (pc := 290) dX12_layTurns_290 rfl hb.1 hb.2 ?_
        refine aw_iload_n (pc := 291) (q := 2) dX12_layTurns_291 rfl ?_
        refine aw_iconst (pc := 292) dX12_layTurns_292 ⟨by decide, by decide⟩ ?_
        refine aw_iload (pc := 293) (q := 3) dX12_layTurns_293 rfl ?_
        refine aw_aload_n (pc := 295) (q := 0) dX12_layTurns_295 rfl ?_
        refine aw_getf (pc := 296) (v := .inl (w 49 22)) dX12_layTurns_296 fl_RX12_270 (by decide) rfl rfl rfl ?_
        obtain ⟨hy, h⟩ := aw_cks h
        refine aw_irem (pc := 299) dX12_layTurns_299 hy ?_
        refine aw_ishl (pc := 300) dX12_layTurns_300 ?_
        refine aw_ior (pc := 301) dX12_layTurns_301 ?_
        refine aw_istore_n (pc := 302) (ls' := [(3, .inl (aw_or x3 (aw_shl 1 (aw_w (Int.tmod x4 (w 49 22)))))), (0, .inr (.inr 49)), (1, .inl x1), (4, .inl x4)]) dX12_layTurns_302 (by decide) rfl ?_
        exact aw_sel [1, 2, 0, 3] rfl (w_m_layTurns_303 N d hd  _ ih _ _ _ _ _ h)
      · rw [if_pos hc] at h
        refine aw_goto (pc := 274) (tgt := 303) dX12_layTurns_274 (by decide) ?_
        exact aw_sel [0, 1, 2, 3] rfl (w_m_layTurns_303 N d hd  _ ih _ _ _ _ _ h)
def m_layTurns_250 (N : Nat) (x1 x3 : Int) (w : aw_W) : Option (aw_W) :=
  m_layTurns_253 N N x1 x3 0 w
theorem w_m_layTurns_250 {l : Launch} {K : aw_K} (N d : Nat) (hd : 0 ≤ d) : ∀ (x1 x3 : Int) (w v : aw_W), m_layTurns_250 N x1 x3 w = some v → aw_AW l K MX12_layTurns (d + 1) 250 [(0, .inr (.inr 49)), (1, .inl x1), (3, .inl x3)] [] w (none, v) := by
  intro x1 x3 w v h
  unfold m_layTurns_250 at h
  refine aw_iconst (pc := 250) dX12_layTurns_250 ⟨by decide, by decide⟩ ?_
  refine aw_istore (pc := 251) (ls' := [(4, .inl 0), (0, .inr (.inr 49)), (1, .inl x1), (3, .inl x3)]) dX12_layTurns_251 (by decide) rfl ?_
  exact aw_sel [1, 2, 3, 0] rfl (w_m_layTurns_253 N d hd  N _ _ _ _ _ h)
def m_layTurns_229 (N : Nat) : Nat → Int → Int → Int → aw_W → Option (aw_W)
  | 0, _, _, _, _ => none
  | n + 1, x1, x3, x4, w =>
    if 6 ≤ x4 then
      m_layTurns_250 N x1 x3 w
    else
      if 0 ≤ x4 ∧ x4 < 6 then
        m_layTurns_229 N n x1 x3 (aw_w (x4 + 1)) (aw_up w 67 x4.toNat (-1))
      else none
theorem w_m_layTurns_229 {l : Launch} {K : aw_K} (N d : Nat) (hd : 0 ≤ d) : ∀ (n : Nat) (x1 x3 x4 : Int) (w v : aw_W), m_layTurns_229 N n x1 x3 x4 w = some v → aw_AW l K MX12_layTurns (d + 1) 229 [(0, .inr (.inr 49)), (1, .inl x1), (3, .inl x3), (4, .inl x4)] [] w (none, v) := by
  intro n
  induction n with
  | zero => intro x1 x3 x4 w v h; rw [m_layTurns_229] at h; cases h
  | succ n ih =>
    intro x1 x3 x4 w v h
    rw [m_layTurns_229] at h
    refine aw_iload (pc := 229) (q := 3) dX12_layTurns_229 rfl ?_
    refine aw_bipush (pc := 231) dX12_layTurns_231 (by decide) ⟨by decide, by decide⟩ ?_
    refine aw_icmp_ge (pc := 233) (tgt := 250) dX12_layTurns_233 (by decide) (fun hc => ?_) (fun hc => ?_)
    · rw [if_pos hc] at h
      exact aw_sel [0, 1, 2] rfl (w_m_layTurns_250 N d hd  _ _ _ _ h)
    · rw [if_neg hc] at h
      refine aw_aload_n (pc := 236) (q := 0) dX12_layTurns_236 rfl ?_
      refine aw_getf (pc := 237) (v := .inr (.inr 67)) dX12_layTurns_237 fl_RX12_81 (by decide) rfl rfl rfl ?_
      refine aw_iload (pc := 240) (q := 3) dX12_layTurns_240 rfl ?_
      refine aw_iconst (pc := 242) dX12_layTurns_242 ⟨by decide, by decide⟩ ?_
      obtain ⟨hb, h⟩ := aw_cks h
      refine aw_iast (pc := 243) dX12_layTurns_243 rfl hb.1 hb.2 ?_
      refine aw_iinc (pc := 244) (q := 3) (ls' := [(4, .inl (aw_w (x4 + 1))), (0, .inr (.inr 49)), (1, .inl x1), (3, .inl x3)]) dX12_layTurns_244 rfl (by decide) rfl ?_
      refine aw_goto (pc := 247) (tgt := 229) dX12_layTurns_247 (by decide) ?_
      exact aw_sel [1, 2, 3, 0] rfl (ih _ _ _ _ _ h)
def m_layTurns_224 (N : Nat) (x1 : Int) (w : aw_W) : Option (aw_W) :=
  m_layTurns_229 N N x1 0 0 w
theorem w_m_layTurns_224 {l : Launch} {K : aw_K} (N d : Nat) (hd : 0 ≤ d) : ∀ (x1 : Int) (w v : aw_W), m_layTurns_224 N x1 w = some v → aw_AW l K MX12_layTurns (d + 1) 224 [(0, .inr (.inr 49)), (1, .inl x1)] [] w (none, v) := by
  intro x1 w v h
  unfold m_layTurns_224 at h
  refine aw_iconst (pc := 224) dX12_layTurns_224 ⟨by decide, by decide⟩ ?_
  refine aw_istore_n (pc := 225) (ls' := [(3, .inl 0), (0, .inr (.inr 49)), (1, .inl x1)]) dX12_layTurns_225 (by decide) rfl ?_
  refine aw_iconst (pc := 226) dX12_layTurns_226 ⟨by decide, by decide⟩ ?_
  refine aw_istore (pc := 227) (ls' := [(4, .inl 0), (3, .inl 0), (0, .inr (.inr 49)), (1, .inl x1)]) dX12_layTurns_227 (by decide) rfl ?_
  exact aw_sel [2, 3, 1, 0] rfl (w_m_layTurns_229 N d hd  N _ _ _ _ _ h)
def m_layTurns_218 (N : Nat) (k2 : Int → Int → Int → aw_W → Option (aw_W)) (x1 x2 x3 : Int) (w : aw_W) : Option (aw_W) :=
  k2 x1 x2 (aw_w (x3 + (-1))) w
theorem w_m_layTurns_218 {l : Launch} {K : aw_K} (N d : Nat) (hd : 0 ≤ d) (k2 : Int → Int → Int → aw_W → Option (aw_W)) (hk2 : ∀ (x1 x2 x3 : Int) (w v : aw_W), k2 x1 x2 x3 w = some v → aw_AW l K MX12_layTurns (d + 1) 2 [(0, .inr (.inr 49)), (1, .inl x1), (2, .inl x2), (3, .inl x3)] [] w (none, v)) : ∀ (x1 x2 x3 : Int) (w v : aw_W), m_layTurns_218 N k2 x1 x2 x3 w = some v → aw_AW l K MX12_layTurns (d + 1) 218 [(0, .inr (.inr 49)), (1, .inl x1), (2, .inl x2), (3, .inl x3)] [] w (none, v) := by
  intro x1 x2 x3 w v h
  unfold m_layTurns_218 at h
  refine aw_iinc (pc := 218) (q := 3) (ls' := [(3, .inl (aw_w (x3 + (-1)))), (0, .inr (.inr 49)), (1, .inl x1), (2, .inl x2)]) dX12_layTurns_218 rfl (by decide) rfl ?_
  refine aw_goto (pc := 221) (tgt := 2) dX12_layTurns_221 (by decide) ?_
  exact aw_sel [1, 2, 3, 0] rfl (hk2 _ _ _ _ _ h)
def m_layTurns_212 (N : Nat) (k2 : Int → Int → Int → aw_W → Option (aw_W)) (k9 : Int → Int → Int → Int → aw_W → Option (aw_W)) (x1 x2 x3 x4 : Int) (w : aw_W) : Option (aw_W) :=
  k9 x1 x2 x3 (aw_w (x4 + 1)) w
theorem w_m_layTurns_212 {l : Launch} {K : aw_K} (N d : Nat) (hd : 0 ≤ d) (k2 : Int → Int → Int → aw_W → Option (aw_W)) (hk2 : ∀ (x1 x2 x3 : Int) (w v : aw_W), k2 x1 x2 x3 w = some v → aw_AW l K MX12_layTurns (d + 1) 2 [(0, .inr (.inr 49)), (1, .inl x1), (2, .inl x2), (3, .inl x3)] [] w (none, v)) (k9 : Int → Int → Int → Int → aw_W → Option (aw_W)) (hk9 : ∀ (x1 x2 x3 x4 : Int) (w v : aw_W), k9 x1 x2 x3 x4 w = some v → aw_AW l K MX12_layTurns (d + 1) 9 [(0, .inr (.inr 49)), (1, .inl x1), (2, .inl x2), (3, .inl x3), (4, .inl x4)] [] w (none, v)) : ∀ (x1 x2 x3 x4 : Int) (w v : aw_W), m_layTurns_212 N k2 k9 x1 x2 x3 x4 w = some v → aw_AW l K MX12_layTurns (d + 1) 212 [(0, .inr (.inr 49)), (1, .inl x1), (2, .inl x2), (3, .inl x3), (4, .inl x4)] [] w (none, v) := by
  intro x1 x2 x3 x4 w v h
  unfold m_layTurns_212 at h
  refine aw_iinc (pc := 212) (q := 4) (ls' := [(4, .inl (aw_w (x4 + 1))), (0, .inr (.inr 49)), (1, .inl x1), (2, .inl x2), (3, .inl x3)]) dX12_layTurns_212 rfl (by decide) rfl ?_
  refine aw_goto (pc := 215) (tgt := 9) dX12_layTurns_215 (by decide) ?_
  exact aw_sel [1, 2, 3, 4, 0] rfl (hk9 _ _ _ _ _ _ h)
def m_layTurns_205 (N : Nat) (k2 : Int → Int → Int → aw_W → Option (aw_W)) (k9 : Int → Int → Int → Int → aw_W → Option (aw_W)) (k127 : Int → Int → Int → Int → Int → Int → Int → Int → aw_W → Option (aw_W)) (x1 x2 x3 x4 x5 x6 x7 x8 s0 s1 : Int) (w : aw_W) : Option (aw_W) :=
  if 0 ≤ s1 ∧ s1 < 23424 then
    k127 x1 x2 x3 x4 x5 x6 x7 (aw_w (x8 + 1)) (aw_up w 65 s1.toNat s0)
  else none
theorem w_m_layTurns_205 {l : Launch} {K : aw_K} (N d : Nat) (hd : 0 ≤ d) (k2 : Int → Int → Int → aw_W → Option (aw_W)) (hk2 : ∀ (x1 x2 x3 : Int) (w v : aw_W), k2 x1 x2 x3 w = some v → aw_AW l K MX12_layTurns (d + 1) 2 [(0, .inr (.inr 49)), (1, .inl x1), (2, .inl x2), (3, .inl x3)] [] w (none, v)) (k9 : Int → Int → Int → Int → aw_W → Option (aw_W)) (hk9 : ∀ (x1 x2 x3 x4 : Int) (w v : aw_W), k9 x1 x2 x3 x4 w = some v → aw_AW l K MX12_layTurns (d + 1) 9 [(0, .inr (.inr 49)), (1, .inl x1), (2, .inl x2), (3, .inl x3), (4, .inl x4)] [] w (none, v)) (k127 : Int → Int → Int → Int → Int → Int → Int → Int → aw_W → Option (aw_W)) (hk127 : ∀ (x1 x2 x3 x4 x5 x6 x7 x8 : Int) (w v : aw_W), k127 x1 x2 x3 x4 x5 x6 x7 x8 w = some v → aw_AW l K MX12_layTurns (d + 1) 127 [(0, .inr (.inr 49)), (1, .inl x1), (2, .inl x2), (3, .inl x3), (4, .inl x4), (5, .inl x5), (6, .inl x6), (7, .inl x7), (8, .inl x8)] [] w (none, v)) : ∀ (x1 x2 x3 x4 x5 x6 x7 x8 s0 s1 : Int) (w v : aw_W), m_layTurns_205 N k2 k9 k127 x1 x2 x3 x4 x5 x6 x7 x8 s0 s1 w = some v → aw_AW l K MX12_layTurns (d + 1) 205 [(0, .inr (.inr 49)), (1, .inl x1), (2, .inl x2), (3, .inl x3), (4, .inl x4), (5, .inl x5), (6, .inl x6), (7, .inl x7), (8, .inl x8)] [.inl s0, .inl s1, .inr (.inr 65)] w (none, v) := by
  intro x1 x2 x3 x4 x5 x6 x7 x8 s0 s1 w v h
  unfold m_layTurns_205 at h
  obtain ⟨hb, h⟩ := aw_cks h
  refine aw_iast (pc := 205) dX12_layTurns_205 rfl hb.1 hb.2 ?_
  refine aw_iinc (pc := 206) (q := 8) (ls' := [(8, .inl (aw_w (x8 + 1))), (0, .inr (.inr 49)), (1, .inl x1), (2, .inl x2), (3, .inl x3), (4, .inl x4), (5, .inl x5), (6, .inl x6), (7, .inl x7)]) dX12_layTurns_206 rfl (by decide) rfl ?_
  refine aw_goto (pc := 209) (tgt := 127) dX12_layTurns_209 (by decide) ?_
  exact aw_sel [1, 2, 3, 4, 5, 6, 7, 8, 0] rfl (hk127 _ _ _ _ _ _ _ _ _ _ h)
def m_layTurns_200 (N : Nat) (k2 : Int → Int → Int → aw_W → Option (aw_W)) (k9 : Int → Int → Int → Int → aw_W → Option (aw_W)) (k127 : Int → Int → Int → Int → Int → Int → Int → Int → aw_W → Option (aw_W)) (x1 x2 x3 x4 x5 x6 x7 x8 s0 s1 s3 : Int) (w : aw_W) : Option (aw_W) :=
  aw_b2 (m_hasAt N s1 s0 x8 w) fun r1 w1 =>
    m_layTurns_205 N k2 k9 k127 x1 x2 x3 x4 x5 x6 x7 x8 r1 s3 w1
theorem w_m_layTurns_200 {l : Launch} {K : aw_K} (N d : Nat) (hd : 0 ≤ d) (k2 : Int → Int → Int → aw_W → Option (aw_W)) (hk2 : ∀ (x1 x2 x3 : Int) (w v : aw_W), k2 x1 x2 x3 w = some v → aw_AW l K MX12_layTurns (d + 1) 2 [(0, .inr (.inr 49)), (1, .inl x1), (2, .inl x2), (3, .inl x3)] [] w (none, v)) (k9 : Int → Int → Int → Int → aw_W → Option (aw_W)) (hk9 : ∀ (x1 x2 x3 x4 : Int) (w v : aw_W), k9 x1 x2 x3 x4 w = some v → aw_AW l K MX12_layTurns (d + 1) 9 [(0, .inr (.inr 49)), (1, .inl x1), (2, .inl x2), (3, .inl x3), (4, .inl x4)] [] w (none, v)) (k127 : Int → Int → Int → Int → Int → Int → Int → Int → aw_W → Option (aw_W)) (hk127 : ∀ (x1 x2 x3 x4 x5 x6 x7 x8 : Int) (w v : aw_W), k127 x1 x2 x3 x4 x5 x6 x7 x8 w = some v → aw_AW l K MX12_layTurns (d + 1) 127 [(0, .inr (.inr 49)), (1, .inl x1), (2, .inl x2), (3, .inl x3), (4, .inl x4), (5, .inl x5), (6, .inl x6), (7, .inl x7), (8, .inl x8)] [] w (none, v)) : ∀ (x1 x2 x3 x4 x5 x6 x7 x8 s0 s1 s3 : Int) (w v : aw_W), m_layTurns_200 N k2 k9 k127 x1 x2 x3 x4 x5 x6 x7 x8 s0 s1 s3 w = some v → aw_AW l K MX12_layTurns (d + 1) 200 [(0, .inr (.inr 49)), (1, .inl x1), (2, .inl x2), (3, .inl x3), (4, .inl x4), (5, .inl x5), (6, .inl x6), (7, .inl x7), (8, .inl x8)] [.inl s0, .inl s1, .inr (.inr 49), .inl s3, .inr (.inr 65)] w (none, v) := by
  intro x1 x2 x3 x4 x5 x6 x7 x8 s0 s1 s3 w v h
  unfold m_layTurns_200 at h
  refine aw_iload (pc := 200) (q := 8) dX12_layTurns_200 rfl ?_
  obtain ⟨r1, w1, h1, h⟩ := aw_b2s h
  refine aw_callV (pc := 202) (as := [.inl s1, .inl s0, .inl x8]) (st := [.inl s3, .inr (.inr 65)]) (st' := [.inl r1, .inl s3, .inr (.inr 65)]) dX12_layTurns_202 cv_RX12_387 (by decide) rfl rfl rfl rfl (Nat.le_of_ble_eq_true rfl) (w_m_hasAt N d (by omega) _ _ _ _ _ _ h1) rfl ?_
  exact aw_sel [0, 1, 2, 3, 4, 5, 6, 7, 8] rfl (w_m_layTurns_205 N d hd  _ hk2 _ hk9 _ hk127 _ _ _ _ _ _ _ _ _ _ _ _ h)
def m_layTurns_179 (N : Nat) (k2 : Int → Int → Int → aw_W → Option (aw_W)) (k9 : Int → Int → Int → Int → aw_W → Option (aw_W)) (k127 : Int → Int → Int → Int → Int → Int → Int → Int → aw_W → Option (aw_W)) (x1 x2 x3 x4 x5 x6 x7 x8 s0 : Int) (w : aw_W) : Option (aw_W) :=
  if x7 = 0 then
    m_layTurns_200 N k2 k9 k127 x1 x2 x3 x4 x5 x6 x7 x8 x4 (aw_w (x3 + 1)) s0 w
  else
    m_layTurns_200 N k2 k9 k127 x1 x2 x3 x4 x5 x6 x7 x8 (aw_or x4 (aw_shl 1 x5)) (aw_w (x3 + 1)) s0 w
theorem w_m_layTurns_179 {l : Launch} {K : aw_K} (N d : Nat) (hd : 0 ≤ d) (k2 : Int → Int → Int → aw_W → Option (aw_W)) (hk2 : ∀ (x1 x2 x3 : Int) (w v : aw_W), k2 x1 x2 x3 w = some v → aw_AW l K MX12_layTurns (d + 1) 2 [(0, .inr (.inr 49)), (1, .inl x1), (2, .inl x2), (3, .inl x3)] [] w (none, v)) (k9 : Int → Int → Int → Int → aw_W → Option (aw_W)) (hk9 : ∀ (x1 x2 x3 x4 : Int) (w v : aw_W), k9 x1 x2 x3 x4 w = some v → aw_AW l K MX12_layTurns (d + 1) 9 [(0, .inr (.inr 49)), (1, .inl x1), (2, .inl x2), (3, .inl x3), (4, .inl x4)] [] w (none, v)) (k127 : Int → Int → Int → Int → Int → Int → Int → Int → aw_W → Option (aw_W)) (hk127 : ∀ (x1 x2 x3 x4 x5 x6 x7 x8 : Int) (w v : aw_W), k127 x1 x2 x3 x4 x5 x6 x7 x8 w = some v → aw_AW l K MX12_layTurns (d + 1) 127 [(0, .inr (.inr 49)), (1, .inl x1), (2, .inl x2), (3, .inl x3), (4, .inl x4), (5, .inl x5), (6, .inl x6), (7, .inl x7), (8, .inl x8)] [] w (none, v)) : ∀ (x1 x2 x3 x4 x5 x6 x7 x8 s0 : Int) (w v : aw_W), m_layTurns_179 N k2 k9 k127 x1 x2 x3 x4 x5 x6 x7 x8 s0 w = some v → aw_AW l K MX12_layTurns (d + 1) 179 [(0, .inr (.inr 49)), (1, .inl x1), (2, .inl x2), (3, .inl x3), (4, .inl x4), (5, .inl x5), (6, .inl x6), (7, .inl x7), (8, .inl x8)] [.inl s0, .inr (.inr 65)] w (none, v) := by
  intro x1 x2 x3 x4 x5 x6 x7 x8 s0 w v h
  unfold m_layTurns_179 at h
  refine aw_aload_n (pc := 179) (q := 0) dX12_layTurns_179 rfl ?_
  refine aw_iload_n (pc := 180) (q := 3) dX12_layTurns_180 rfl ?_
  refine aw_iconst (pc := 181) dX12_layTurns_181 ⟨by decide, by decide⟩ ?_
  refine aw_iadd (pc := 182) dX12_layTurns_182 ?_
  refine aw_iload (pc := 183) (q := 7) dX12_layTurns_183 rfl ?_
  refine aw_if_eq (pc := 185) (tgt := 198) dX12_layTurns_185 (by decide) (fun hc => ?_) (fun hc => ?_)
  · rw [if_pos hc] at h
    refine aw_iload (pc := 198) (q := 4) dX12_layTurns_198 rfl ?_
    exact aw_sel [0, 1, 2, 3, 4, 5, 6, 7, 8] rfl (w_m_layTurns_200 N d hd  _ hk2 _ hk9 _ hk127 _ _ _ _ _ _ _ _ _ _ _ _ _ h)
  · rw [if_neg hc] at h
    refine aw_iload (pc := 188) (q := 4) dX12_layTurns_188 rfl ?_
    refine aw_iconst (pc := 190) dX12_layTurns_190 ⟨by decide, by decide⟩ ?_
    refine aw_iload (pc := 191) (q := 5) dX12_layTurns_191 rfl ?_
    refine aw_ishl (pc := 193) dX12_layTurns_193 ?_
    refine aw_ior (pc := 194) dX12_layTurns_194 ?_
    refine aw_goto (pc := 195) (tgt := 200) dX12_layTurns_195 (by decide) ?_
    exact aw_sel [0, 1, 2, 3, 4, 5, 6, 7, 8] rfl (w_m_layTurns_200 N d hd  _ hk2 _ hk9 _ hk127 _ _ _ _ _ _ _ _ _ _ _ _ _ h)
def m_layTurns_127 (N : Nat) (k2 : Int → Int → Int → aw_W → Option (aw_W)) (k9 : Int → Int → Int → Int → aw_W → Option (aw_W)) : Nat → Int → Int → Int → Int → Int → Int → Int → Int → aw_W → Option (aw_W)
  | 0, _, _, _, _, _, _, _, _, _ => none
  | n + 1, x1, x2, x3, x4, x5, x6, x7, x8, w =>
    if (w 49 22) ≤ x8 then
      m_layTurns_212 N k2 k9 x1 x2 x3 x4 w
    else
      if x3 = x1 then
        m_layTurns_205 N k2 k9 (m_layTurns_127 N k2 k9 n) x1 x2 x3 x4 x5 x6 x7 x8 0 (aw_w ((aw_w (6 * (aw_w ((aw_w (64 * x3)) + x4)))) + x8)) w
      else
        if x7 = 0 then
          m_layTurns_179 N k2 k9 (m_layTurns_127 N k2 k9 n) x1 x2 x3 x4 x5 x6 x7 x8 (aw_w ((aw_w (6 * (aw_w ((aw_w (64 * x3)) + x4)))) + x8)) w
        else
          if x8 = x5 then
            m_layTurns_205 N k2 k9 (m_layTurns_127 N k2 k9 n) x1 x2 x3 x4 x5 x6 x7 x8 x6 (aw_w ((aw_w (6 * (aw_w ((aw_w (64 * x3)) + x4)))) + x8)) w
          else
            m_layTurns_179 N k2 k9 (m_layTurns_127 N k2 k9 n) x1 x2 x3 x4 x5 x6 x7 x8 (aw_w ((aw_w (6 * (aw_w ((aw_w (64 * x3)) + x4)))) + x8)) w
theorem w_m_layTurns_127 {l : Launch} {K : aw_K} (N d : Nat) (hd : 0 ≤ d) (k2 : Int → Int → Int → aw_W → Option (aw_W)) (hk2 : ∀ (x1 x2 x3 : Int) (w v : aw_W), k2 x1 x2 x3 w = some v → aw_AW l K MX12_layTurns (d + 1) 2 [(0, .inr (.inr 49)), (1, .inl x1), (2, .inl x2), (3, .inl x3)] [] w (none, v)) (k9 : Int → Int → Int → Int → aw_W → Option (aw_W)) (hk9 : ∀ (x1 x2 x3 x4 : Int) (w v : aw_W), k9 x1 x2 x3 x4 w = some v → aw_AW l K MX12_layTurns (d + 1) 9 [(0, .inr (.inr 49)), (1, .inl x1), (2, .inl x2), (3, .inl x3), (4, .inl x4)] [] w (none, v)) : ∀ (n : Nat) (x1 x2 x3 x4 x5 x6 x7 x8 : Int) (w v : aw_W), m_layTurns_127 N k2 k9 n x1 x2 x3 x4 x5 x6 x7 x8 w = some v → aw_AW l K MX12_layTurns (d + 1) 127 [(0, .inr (.inr 49)), (1, .inl x1), (2, .inl x2), (3, .inl x3), (4, .inl x4), (5, .inl x5), (6, .inl x6), (7, .inl x7), (8, .inl x8)] [] w (none, v) := by
  intro n
  induction n with
  | zero => intro x1 x2 x3 x4 x5 x6 x7 x8 w v h; rw [m_layTurns_127] at h; cases h
  | succ n ih =>
    intro x1 x2 x3 x4 x5 x6 x7 x8 w v h
    rw [m_layTurns_127] at h
    refine aw_iload (pc := 127) (q := 8) dX12_layTurns_127 rfl ?_
    refine aw_aload_n (pc := 129) (q := 0) dX12_layTurns_129 rfl ?_
    refine aw_getf (pc := 130) (v := .inl (w 49 22)) dX12_layTurns_130 fl_RX12_270 (by decide) rfl rfl rfl ?_
    refine aw_icmp_ge (pc := 133) (tgt := 212) dX12_layTurns_133 (by decide) (fun hc => ?_) (fun hc => ?_)
    · rw [if_pos hc] at h
      exact aw_sel [0, 1, 2, 3, 4] rfl (w_m_layTurns_212 N d hd  _ hk2 _ hk9 _ _ _ _ _ _ h)
    · rw [if_neg hc] at h
      refine aw_aload_n (pc := 136) (q := 0) dX12_layTurns_136 rfl ?_
      refine aw_getf (pc := 137) (v := .inr (.inr 65)) dX12_layTurns_137 fl_RX12_75 (by decide) rfl rfl rfl ?_
      refine aw_bipush (pc := 140) dX12_layTurns_140 (by decide) ⟨by decide, by decide⟩ ?_
      refine aw_bipush (pc := 142) dX12_layTurns_142 (by decide) ⟨by decide, by decide⟩ ?_
      refine aw_iload_n (pc := 144) (q := 3) dX12_layTurns_144 rfl ?_
      refine aw_imul (pc := 145) dX12_layTurns_145 ?_
      refine aw_iload (pc := 146) (q := 4) dX12_layTurns_146 rfl ?_
      refine aw_iadd (pc := 148) dX12_layTurns_148 ?_
      refine aw_imul (pc := 149) dX12_layTurns_149 ?_
      refine aw_iload (pc := 150) (q := 8) dX12_layTurns_150 rfl ?_
      refine aw_iadd (pc := 152) dX12_layTurns_152 ?_
      refine aw_iload_n (pc := 153) (q := 3) dX12_layTurns_153 rfl ?_
      refine aw_iload_n (pc := 154) (q := 1) dX12_layTurns_154 rfl ?_
      refine aw_icmp_ne (pc := 155) (tgt := 162) dX12_layTurns_155 (by decide) (fun hc => ?_) (fun hc => ?_)
      · rw [if_neg hc] at h
        refine aw_iload (pc := 162) (q := 7) dX12_layTurns_162 rfl ?_
        refine aw_if_eq (pc := 164) (tgt := 179) dX12_layTurns_164 (by decide) (fun hc => ?_) (fun hc => ?_)
        · rw [if_pos hc] at h
          exact aw_sel [0, 1, 2, 3, 4, 5, 6, 7, 8] rfl (w_m_layTurns_179 N d hd  _ hk2 _ hk9 _ ih _ _ _ _ _ _ _ _ _ _ _ h)
        · rw [if_neg hc] at h
          refine aw_iload (pc := 167) (q := 8) dX12_layTurns_167 rfl ?_
          refine aw_iload (pc := 169) (q := 5) dX12_layTurns_169 rfl ?_
          refine aw_icmp_ne (pc := 171) (tgt := 179) dX12_layTurns_171 (by decide) (fun hc => ?_) (fun hc => ?_)
          · rw [if_neg hc] at h
            exact aw_sel [0, 1, 2, 3, 4, 5, 6, 7, 8] rfl (w_m_layTurns_179 N d hd  _ hk2 _ hk9 _ ih _ _ _ _ _ _ _ _ _ _ _ h)
          · rw [if_pos hc] at h
            refine aw_iload (pc := 174) (q := 6) dX12_layTurns_174 rfl ?_
            refine aw_goto (pc := 176) (tgt := 205) dX12_layTurns_176 (by decide) ?_
            exact aw_sel [0, 1, 2, 3, 4, 5, 6, 7, 8] rfl (w_m_layTurns_205 N d hd  _ hk2 _ hk9 _ ih _ _ _ _ _ _ _ _ _ _ _ _ h)
      · rw [if_pos hc] at h
        refine aw_iconst (pc := 158) dX12_layTurns_158 ⟨by decide, by decide⟩ ?_
        refine aw_goto (pc := 159) (tgt := 205) dX12_layTurns_159 (by decide) ?_
        exact aw_sel [0, 1, 2, 3, 4, 5, 6, 7, 8] rfl (w_m_layTurns_205 N d hd  _ hk2 _ hk9 _ ih _ _ _ _ _ _ _ _ _ _ _ _ h)
def m_layTurns_108 (N : Nat) (k2 : Int → Int → Int → aw_W → Option (aw_W)) (k9 : Int → Int → Int → Int → aw_W → Option (aw_W)) (x1 x2 x3 x4 x5 x6 s0 : Int) (w : aw_W) : Option (aw_W) :=
  if 0 ≤ (aw_w ((aw_w (64 * x3)) + x4)) ∧ (aw_w ((aw_w (64 * x3)) + x4)) < 3904 then
    if s0 = 0 ∨ s0 = 1 then
      m_layTurns_127 N k2 k9 N x1 x2 x3 x4 x5 x6 s0 0 (aw_up w 66 ((aw_w ((aw_w (64 * x3)) + x4)).toNat) s0)
    else none
  else none
theorem w_m_layTurns_108 {l : Launch} {K : aw_K} (N d : Nat) (hd : 0 ≤ d) (k2 : Int → Int → Int → aw_W → Option (aw_W)) (hk2 : ∀ (x1 x2 x3 : Int) (w v : aw_W), k2 x1 x2 x3 w = some v → aw_AW l K MX12_layTurns (d + 1) 2 [(0, .inr (.inr 49)), (1, .inl x1), (2, .inl x2), (3, .inl x3)] [] w (none, v)) (k9 : Int → Int → Int → Int → aw_W → Option (aw_W)) (hk9 : ∀ (x1 x2 x3 x4 : Int) (w v : aw_W), k9 x1 x2 x3 x4 w = some v → aw_AW l K MX12_layTurns (d + 1) 9 [(0, .inr (.inr 49)), (1, .inl x1), (2, .inl x2), (3, .inl x3), (4, .inl x4)] [] w (none, v)) : ∀ (x1 x2 x3 x4 x5 x6 s0 : Int) (w v : aw_W), m_layTurns_108 N k2 k9 x1 x2 x3 x4 x5 x6 s0 w = some v → aw_AW l K MX12_layTurns (d + 1) 108 [(0, .inr (.inr 49)), (1, .inl x1), (2, .inl x2), (3, .inl x3), (4, .inl x4), (5, .inl x5), (6, .inl x6)] [.inl s0] w (none, v) := by
  intro x1 x2 x3 x4 x5 x6 s0 w v h
  unfold m_layTurns_108 at h
  refine aw_istore (pc := 108) (ls' := [(7, .inl s0), (0, .inr (.inr 49)), (1, .inl x1), (2, .inl x2), (3, .inl x3), (4, .inl x4), (5, .inl x5), (6, .inl x6)]) dX12_layTurns_108 (by decide) rfl ?_
  refine aw_aload_n (pc := 110) (q := 1) dX12_layTurns_110 rfl ?_
  refine aw_getf (pc := 111) (v := .inr (.inr 66)) dX12_layTurns_111 fl_RX12_78 (by decide) rfl rfl rfl ?_
  refine aw_bipush (pc := 114) dX12_layTurns_114 (by decide) ⟨by decide, by decide⟩ ?_
  refine aw_iload_n (pc := 116) (q := 4) dX12_layTurns_116 rfl ?_
  refine aw_imul (pc := 117) dX12_layTurns_117 ?_
  refine aw_iload (pc := 118) (q := 5) dX12_layTurns_118 rfl ?_
  refine aw_iadd (pc := 120) dX12_layTurns_120 ?_
  refine aw_iload (pc := 121) (q := 0) dX12_layTurns_121 rfl ?_
  obtain ⟨hb, h⟩ := aw_cks h
  obtain ⟨hz, h⟩ := aw_cks h
  refine aw_zast (pc := 123) dX12_layTurns_123 rfl hb.1 hb.2 hz ?_
  refine aw_iconst (pc := 124) dX12_layTurns_124 ⟨by decide, by decide⟩ ?_
  refine aw_istore (pc := 125) (ls' := [(8, .inl 0), (7, .inl s0), (0, .inr (.inr 49)), (1, .inl x1), (2, .inl x2), (3, .inl x3), (4, .inl x4), (5, .inl x5), (6, .inl x6)]) dX12_layTurns_125 (by decide) rfl ?_
  exact aw_sel [2, 3, 4, 5, 6, 7, 8, 1, 0] rfl (w_m_layTurns_127 N d hd  _ hk2 _ hk9 N _ _ _ _ _ _ _ _ _ _ h)
def m_layTurns_107 (N : Nat) (k2 : Int → Int → Int → aw_W → Option (aw_W)) (k9 : Int → Int → Int → Int → aw_W → Option (aw_W)) (x1 x2 x3 x4 x5 x6 : Int) (w : aw_W) : Option (aw_W) :=
  m_layTurns_108 N k2 k9 x1 x2 x3 x4 x5 x6 0 w
theorem w_m_layTurns_107 {l : Launch} {K : aw_K} (N d : Nat) (hd : 0 ≤ d) (k2 : Int → Int → Int → aw_W → Option (aw_W)) (hk2 : ∀ (x1 x2 x3 : Int) (w v : aw_W), k2 x1 x2 x3 w = some v → aw_AW l K MX12_layTurns (d + 1) 2 [(0, .inr (.inr 49)), (1, .inl x1), (2, .inl x2), (3, .inl x3)] [] w (none, v)) (k9 : Int → Int → Int → Int → aw_W → Option (aw_W)) (hk9 : ∀ (x1 x2 x3 x4 : Int) (w v : aw_W), k9 x1 x2 x3 x4 w = some v → aw_AW l K MX12_layTurns (d + 1) 9 [(0, .inr (.inr 49)), (1, .inl x1), (2, .inl x2), (3, .inl x3), (4, .inl x4)] [] w (none, v)) : ∀ (x1 x2 x3 x4 x5 x6 : Int) (w v : aw_W), m_layTurns_107 N k2 k9 x1 x2 x3 x4 x5 x6 w = some v → aw_AW l K MX12_layTurns (d + 1) 107 [(0, .inr (.inr 49)), (1, .inl x1), (2, .inl x2), (3, .inl x3), (4, .inl x4), (5, .inl x5), (6, .inl x6)] [] w (none, v) := by
  intro x1 x2 x3 x4 x5 x6 w v h
  unfold m_layTurns_107 at h
  refine aw_iconst (pc := 107) dX12_layTurns_107 ⟨by decide, by decide⟩ ?_
  exact aw_sel [0, 1, 2, 3, 4, 5, 6] rfl (w_m_layTurns_108 N d hd  _ hk2 _ hk9 _ _ _ _ _ _ _ _ _ h)
def m_layTurns_69 (N : Nat) (k2 : Int → Int → Int → aw_W → Option (aw_W)) (k9 : Int → Int → Int → Int → aw_W → Option (aw_W)) (x1 x2 x3 x4 x5 s0 s1 : Int) (w : aw_W) : Option (aw_W) :=
  if x1 ≤ x3 then
    m_layTurns_107 N k2 k9 x1 x2 x3 x4 x5 (aw_w (s1 - s0)) w
  else
    aw_b2 (m_has N x4 x5 w) fun r1 w1 =>
      if r1 = 0 then
        aw_b2 (m_hasAt N (aw_w (x3 + 1)) x4 x5 w1) fun r2 w2 =>
          if (aw_w (s1 - s0)) ≤ r2 then
            m_layTurns_107 N k2 k9 x1 x2 x3 x4 x5 (aw_w (s1 - s0)) w2
          else
            m_layTurns_108 N k2 k9 x1 x2 x3 x4 x5 (aw_w (s1 - s0)) 1 w2
      else
        m_layTurns_107 N k2 k9 x1 x2 x3 x4 x5 (aw_w (s1 - s0)) w1
theorem w_m_layTurns_69 {l : Launch} {K : aw_K} (N d : Nat) (hd : 0 ≤ d) (k2 : Int → Int → Int → aw_W → Option (aw_W)) (hk2 : ∀ (x1 x2 x3 : Int) (w v : aw_W), k2 x1 x2 x3 w = some v → aw_AW l K MX12_layTurns (d + 1) 2 [(0, .inr (.inr 49)), (1, .inl x1), (2, .inl x2), (3, .inl x3)] [] w (none, v)) (k9 : Int → Int → Int → Int → aw_W → Option (aw_W)) (hk9 : ∀ (x1 x2 x3 x4 : Int) (w v : aw_W), k9 x1 x2 x3 x4 w = some v → aw_AW l K MX12_layTurns (d + 1) 9 [(0, .inr (.inr 49)), (1, .inl x1), (2, .inl x2), (3, .inl x3), (4, .inl x4)] [] w (none, v)) : ∀ (x1 x2 x3 x4 x5 s0 s1 : Int) (w v : aw_W), m_layTurns_69 N k2 k9 x1 x2 x3 x4 x5 s0 s1 w = some v → aw_AW l K MX12_layTurns (d + 1) 69 [(0, .inr (.inr 49)), (1, .inl x1), (2, .inl x2), (3, .inl x3), (4, .inl x4), (5, .inl x5)] [.inl s0, .inl s1] w (none, v) := by
  intro x1 x2 x3 x4 x5 s0 s1 w v h
  unfold m_layTurns_69 at h
  refine aw_isub (pc := 69) dX12_layTurns_69 ?_
  refine aw_istore (pc := 70) (ls' := [(6, .inl (aw_w (s1 - s0))), (0, .inr (.inr 49)), (1, .inl x1), (2, .inl x2), (3, .inl x3), (4, .inl x4), (5, .inl x5)]) dX12_layTurns_70 (by decide) rfl ?_
  refine aw_iload_n (pc := 72) (q := 4) dX12_layTurns_72 rfl ?_
  refine aw_iload_n (pc := 73) (q := 2) dX12_layTurns_73 rfl ?_
  refine aw_icmp_ge (pc := 74) (tgt := 107) dX12_layTurns_74 (by decide) (fun hc => ?_) (fun hc => ?_)
  · rw [if_pos hc] at h
    exact aw_sel [1, 2, 3, 4, 5, 6, 0] rfl (w_m_layTurns_107 N d hd  _ hk2 _ hk9 _ _ _ _ _ _ _ _ h)
  · rw [if_neg hc] at h
    refine aw_iload (pc := 77) (q := 5) dX12_layTurns_77 rfl ?_
    refine aw_iload (pc := 79) (q := 6) dX12_layTurns_79 rfl ?_
    obtain ⟨r1, w1, h1, h⟩ := aw_b2s h
    refine aw_callS (pc := 81) (as := [.inl x4, .inl x5]) (st := []) (st' := [.inl r1]) dX12_layTurns_81 cs_RX12_248 rfl rfl (Nat.le_of_ble_eq_true rfl) (w_m_has N d (by omega) _ _ _ _ _ h1) rfl ?_
    refine aw_if_ne (pc := 84) (tgt := 107) dX12_layTurns_84 (by decide) (fun hc => ?_) (fun hc => ?_)
    · rw [if_neg hc] at h
      exact aw_sel [1, 2, 3, 4, 5, 6, 0] rfl (w_m_layTurns_107 N d hd  _ hk2 _ hk9 _ _ _ _ _ _ _ _ h)
    · rw [if_pos hc] at h
      refine aw_iload (pc := 87) (q := 0) dX12_layTurns_87 rfl ?_
      refine aw_aload_n (pc := 89) (q := 1) dX12_layTurns_89 rfl ?_
      refine aw_iload_n (pc := 90) (q := 4) dX12_layTurns_90 rfl ?_
      refine aw_iconst (pc := 91) dX12_layTurns_91 ⟨by decide, by decide⟩ ?_
      refine aw_iadd (pc := 92) dX12_layTurns_92 ?_
      refine aw_iload (pc := 93) (q := 5) dX12_layTurns_93 rfl ?_
      refine aw_iload (pc := 95) (q := 6) dX12_layTurns_95 rfl ?_
      obtain ⟨r2, w2, h2, h⟩ := aw_b2s h
      refine aw_callV (pc := 97) (as := [.inl (aw_w (x3 + 1)), .inl x4, .inl x5]) (st := [.inl (aw_w (s1 - s0))]) (st' := [.inl r2, .inl (aw_w (s1 - s0))]) dX12_layTurns_97 cv_RX12_387 (by decide) rfl rfl rfl rfl (Nat.le_of_ble_eq_true rfl) (w_m_hasAt N d (by omega) _ _ _ _ _ _ h2) rfl ?_
      refine aw_icmp_le (pc := 100) (tgt := 107) dX12_layTurns_100 (by decide) (fun hc => ?_) (fun hc => ?_)
      · rw [if_pos hc] at h
        exact aw_sel [1, 2, 3, 4, 5, 6, 0] rfl (w_m_layTurns_107 N d hd  _ hk2 _ hk9 _ _ _ _ _ _ _ _ h)
      · rw [if_neg hc] at h
        refine aw_iconst (pc := 103) dX12_layTurns_103 ⟨by decide, by decide⟩ ?_
        refine aw_goto (pc := 104) (tgt := 108) dX12_layTurns_104 (by decide) ?_
        exact aw_sel [1, 2, 3, 4, 5, 6, 0] rfl (w_m_layTurns_108 N d hd  _ hk2 _ hk9 _ _ _ _ _ _ _ _ _ h)
def m_layTurns_59 (N : Nat) (k2 : Int → Int → Int → aw_W → Option (aw_W)) (k9 : Int → Int → Int → Int → aw_W → Option (aw_W)) (x1 x2 x3 x4 x5 s0 : Int) (w : aw_W) : Option (aw_W) :=
  if x4 = 0 then
    m_layTurns_69 N k2 k9 x1 x2 x3 x4 x5 x2 s0 w
  else
    m_layTurns_69 N k2 k9 x1 x2 x3 x4 x5 0 s0 w
theorem w_m_layTurns_59 {l : Launch} {K : aw_K} (N d : Nat) (hd : 0 ≤ d) (k2 : Int → Int → Int → aw_W → Option (aw_W)) (hk2 : ∀ (x1 x2 x3 : Int) (w v : aw_W), k2 x1 x2 x3 w = some v → aw_AW l K MX12_layTurns (d + 1) 2 [(0, .inr (.inr 49)), (1, .inl x1), (2, .inl x2), (3, .inl x3)] [] w (none, v)) (k9 : Int → Int → Int → Int → aw_W → Option (aw_W)) (hk9 : ∀ (x1 x2 x3 x4 : Int) (w v : aw_W), k9 x1 x2 x3 x4 w = some v → aw_AW l K MX12_layTurns (d + 1) 9 [(0, .inr (.inr 49)), (1, .inl x1), (2, .inl x2), (3, .inl x3), (4, .inl x4)] [] w (none, v)) : ∀ (x1 x2 x3 x4 x5 s0 : Int) (w v : aw_W), m_layTurns_59 N k2 k9 x1 x2 x3 x4 x5 s0 w = some v → aw_AW l K MX12_layTurns (d + 1) 59 [(0, .inr (.inr 49)), (1, .inl x1), (2, .inl x2), (3, .inl x3), (4, .inl x4), (5, .inl x5)] [.inl s0] w (none, v) := by
  intro x1 x2 x3 x4 x5 s0 w v h
  unfold m_layTurns_59 at h
  refine aw_iload (pc := 59) (q := 4) dX12_layTurns_59 rfl ?_
  refine aw_if_ne (pc := 61) (tgt := 68) dX12_layTurns_61 (by decide) (fun hc => ?_) (fun hc => ?_)
  · rw [if_neg hc] at h
    refine aw_iconst (pc := 68) dX12_layTurns_68 ⟨by decide, by decide⟩ ?_
    exact aw_sel [0, 1, 2, 3, 4, 5] rfl (w_m_layTurns_69 N d hd  _ hk2 _ hk9 _ _ _ _ _ _ _ _ _ h)
  · rw [if_pos hc] at h
    refine aw_iload_n (pc := 64) (q := 2) dX12_layTurns_64 rfl ?_
    refine aw_goto (pc := 65) (tgt := 69) dX12_layTurns_65 (by decide) ?_
    exact aw_sel [0, 1, 2, 3, 4, 5] rfl (w_m_layTurns_69 N d hd  _ hk2 _ hk9 _ _ _ _ _ _ _ _ _ h)
def m_layTurns_9 (N : Nat) (k2 : Int → Int → Int → aw_W → Option (aw_W)) : Nat → Int → Int → Int → Int → aw_W → Option (aw_W)
  | 0, _, _, _, _, _ => none
  | n + 1, x1, x2, x3, x4, w =>
    if (aw_shl 1 (w 49 22)) ≤ x4 then
      m_layTurns_218 N k2 x1 x2 x3 w
    else
      if ¬ (w 49 22) = 0 then
        aw_b2 (j_Int_bitCount N x4 w) fun r1 w1 =>
          if (aw_w (r1 + 1)) = (w1 56 0) then
            if 0 ≤ (aw_w ((aw_w (4 * (aw_w (Int.tmod x3 (w 49 22))))) + 1)) ∧ (aw_w ((aw_w (4 * (aw_w (Int.tmod x3 (w 49 22))))) + 1)) < 24 then
              m_layTurns_59 N k2 (m_layTurns_9 N k2 n) x1 x2 x3 x4 (aw_w (Int.tmod x3 (w 49 22))) (w1 54 ((aw_w ((aw_w (4 * (aw_w (Int.tmod x3 (w 49 22))))) + 1)).toNat)) w1
            else none
          else
            m_layTurns_59 N k2 (m_layTurns_9 N k2 n) x1 x2 x3 x4 (aw_w (Int.tmod x3 (w 49 22))) 0 w1
      else none
theorem w_m_layTurns_9 {l : Launch} {K : aw_K} (N d : Nat) (hd : 0 ≤ d) (k2 : Int → Int → Int → aw_W → Option (aw_W)) (hk2 : ∀ (x1 x2 x3 : Int) (w v : aw_W), k2 x1 x2 x3 w = some v → aw_AW l K MX12_layTurns (d + 1) 2 [(0, .inr (.inr 49)), (1, .inl x1), (2, .inl x2), (3, .inl x3)] [] w (none, v)) : ∀ (n : Nat) (x1 x2 x3 x4 : Int) (w v : aw_W), m_layTurns_9 N k2 n x1 x2 x3 x4 w = some v → aw_AW l K MX12_layTurns (d + 1) 9 [(0, .inr (.inr 49)), (1, .inl x1), (2, .inl x2), (3, .inl x3), (4, .inl x4)] [] w (none, v) := by
  intro n
  induction n with
  | zero => intro x1 x2 x3 x4 w v h; rw [m_layTurns_9] at h; cases h
  | succ n ih =>
    intro x1 x2 x3 x4 w v h
    rw [m_layTurns_9] at h
    refine aw_iload (pc := 9) (q := 4) dX12_layTurns_9 rfl ?_
    refine aw_iconst (pc := 11) dX12_layTurns_11 ⟨by decide, by decide⟩ ?_
    refine aw_aload_n (pc := 12) (q := 0) dX12_layTurns_12 rfl ?_
    refine aw_getf (pc := 13) (v := .inl (w 49 22)) dX12_layTurns_13 fl_RX12_270 (by decide) rfl rfl rfl ?_
    refine aw_ishl (pc := 16) dX12_layTurns_16 ?_
    refine aw_icmp_ge (pc := 17) (tgt := 218) dX12_layTurns_17 (by decide) (fun hc => ?_) (fun hc => ?_)
    · rw [if_pos hc] at h
      exact aw_sel [0, 1, 2, 3] rfl (w_m_layTurns_218 N d hd  _ hk2 _ _ _ _ _ h)
    · rw [if_neg hc] at h
      refine aw_iload_n (pc := 20) (q := 3) dX12_layTurns_20 rfl ?_
      refine aw_aload_n (pc := 21) (q := 0) dX12_layTurns_21 rfl ?_
      refine aw_getf (pc := 22) (v := .inl (w 49 22)) dX12_layTurns_22 fl_RX12_270 (by decide) rfl rfl rfl ?_
      obtain ⟨hy, h⟩ := aw_cks h
      refine aw_irem (pc := 25) dX12_layTurns_25 hy ?_
      refine aw_istore (pc := 26) (ls' := [(5, .inl (aw_w (Int.tmod x3 (w 49 22)))), (0, .inr (.inr 49)), (1, .inl x1), (2, .inl x2), (3, .inl x3), (4, .inl x4)]) dX12_layTurns_26 (by decide) rfl ?_
      refine aw_iload (pc := 28) (q := 5) dX12_layTurns_28 rfl ?_
      obtain ⟨r1, w1, h1, h⟩ := aw_b2s h
      refine aw_callS (pc := 30) (as := [.inl x4]) (st := []) (st' := [.inl r1]) dX12_layTurns_30 cs_RX12_335 rfl rfl (Nat.le_of_ble_eq_true rfl) (w_j_Int_bitCount N d (by omega) _ _ _ _ h1) rfl ?_
      refine aw_iconst (pc := 33) dX12_layTurns_33 ⟨by decide, by decide⟩ ?_
      refine aw_iadd (pc := 34) dX12_layTurns_34 ?_
      refine aw_aload_n (pc := 35) (q := 1) dX12_layTurns_35 rfl ?_
      refine aw_getf (pc := 36) (v := .inr (.inr 56)) dX12_layTurns_36 fl_RX12_43 (by decide) rfl rfl rfl ?_
      refine aw_iconst (pc := 39) dX12_layTurns_39 ⟨by decide, by decide⟩ ?_
      refine aw_ialdv (pc := 40) (v := w1 56 0) dX12_layTurns_40 rfl (by decide) (by decide) rfl ?_
      refine aw_icmp_ne (pc := 41) (tgt := 58) dX12_layTurns_41 (by decide) (fun hc => ?_) (fun hc => ?_)
      · rw [if_neg hc] at h
        refine aw_iconst (pc := 58) dX12_layTurns_58 ⟨by decide, by decide⟩ ?_
        exact aw_sel [1, 2, 3, 4, 5, 0] rfl (w_m_layTurns_59 N d hd  _ hk2 _ ih _ _ _ _ _ _ _ _ h)
      · rw [if_pos hc] at h
        refine aw_aload_n (pc := 44) (q := 1) dX12_layTurns_44 rfl ?_
        refine aw_getf (pc := 45) (v := .inr (.inr 54)) dX12_layTurns_45 fl_RX12_37 (by decide) rfl rfl rfl ?_
        refine aw_iconst (pc := 48) dX12_layTurns_48 ⟨by decide, by decide⟩ ?_
        refine aw_iload (pc := 49) (q := 0) dX12_layTurns_49 rfl ?_
        refine aw_imul (pc := 51) dX12_layTurns_51 ?_
        refine aw_iconst (pc := 52) dX12_layTurns_52 ⟨by decide, by decide⟩ ?_
        refine aw_iadd (pc := 53) dX12_layTurns_53 ?_
        obtain ⟨hb, h⟩ := aw_cks h
        refine aw_ialdv (pc := 54) (v := w1 54 ((aw_w ((aw_w (4 * (aw_w (Int.tmod x3 (w 49 22))))) + 1)).toNat)) dX12_layTurns_54 rfl hb.1 hb.2 rfl ?_
        refine aw_goto (pc := 55) (tgt := 59) dX12_layTurns_55 (by decide) ?_
        exact aw_sel [1, 2, 3, 4, 5, 0] rfl (w_m_layTurns_59 N d hd  _ hk2 _ ih _ _ _ _ _ _ _ _ h)
def m_layTurns_2 (N : Nat) : Nat → Int → Int → Int → aw_W → Option (aw_W)
  | 0, _, _, _, _ => none
  | n + 1, x1, x2, x3, w =>
    if x3 < 0 then
      m_layTurns_224 N x1 w
    else
      m_layTurns_9 N (m_layTurns_2 N n) N x1 x2 x3 0 w
theorem w_m_layTurns_2 {l : Launch} {K : aw_K} (N d : Nat) (hd : 0 ≤ d) : ∀ (n : Nat) (x1 x2 x3 : Int) (w v : aw_W), m_layTurns_2 N n x1 x2 x3 w = some v → aw_AW l K MX12_layTurns (d + 1) 2 [(0, .inr (.inr 49)), (1, .inl x1), (2, .inl x2), (3, .inl x3)] [] w (none, v) := by
  intro n
  induction n with
  | zero => intro x1 x2 x3 w v h; rw [m_layTurns_2] at h; cases h
  | succ n ih =>
    intro x1 x2 x3 w v h
    rw [m_layTurns_2] at h
    refine aw_iload_n (pc := 2) (q := 3) dX12_layTurns_2 rfl ?_
    refine aw_if_lt (pc := 3) (tgt := 224) dX12_layTurns_3 (by decide) (fun hc => ?_) (fun hc => ?_)
    · rw [if_pos hc] at h
      exact aw_sel [0, 1] rfl (w_m_layTurns_224 N d hd  _ _ _ h)
    · rw [if_neg hc] at h
      refine aw_iconst (pc := 6) dX12_layTurns_6 ⟨by decide, by decide⟩ ?_
      refine aw_istore (pc := 7) (ls' := [(4, .inl 0), (0, .inr (.inr 49)), (1, .inl x1), (2, .inl x2), (3, .inl x3)]) dX12_layTurns_7 (by decide) rfl ?_
      exact aw_sel [1, 2, 3, 4, 0] rfl (w_m_layTurns_9 N d hd  _ ih N _ _ _ _ _ _ h)
def m_layTurns (N : Nat) (x1 x2 : Int) (w : aw_W) : Option (aw_W) :=
  m_layTurns_2 N N x1 x2 x1 w
theorem w_m_layTurns_d {l : Launch} {K : aw_K} (N d : Nat) (hd : 0 ≤ d) : ∀ (x1 x2 : Int) (w v : aw_W), m_layTurns N x1 x2 w = some v → aw_Met l K MX12_layTurns (d + 1) [.inr (.inr 49), .inl x1, .inl x2] w (none, v) := by
  intro x1 x2 w v h
  unfold m_layTurns at h
  refine aw_enter rfl (Nat.le_of_ble_eq_true rfl) ?_
  show aw_AW l K MX12_layTurns (d + 1) 0 [(0, .inr (.inr 49)), (1, .inl x1), (2, .inl x2)] [] w (none, v)
  refine aw_iload_n (pc := 0) (q := 1) dX12_layTurns_0 rfl ?_
  refine aw_istore_n (pc := 1) (ls' := [(3, .inl x1), (0, .inr (.inr 49)), (1, .inl x1), (2, .inl x2)]) dX12_layTurns_1 (by decide) rfl ?_
  exact aw_sel [1, 2, 3, 0] rfl (w_m_layTurns_2 N d hd  N _ _ _ _ _ h)
theorem w_m_layTurns {l : Launch} {K : aw_K} (N d : Nat) (hd : 1 ≤ d) : ∀ (x1 x2 : Int) (w v : aw_W), m_layTurns N x1 x2 w = some v → aw_Met l K MX12_layTurns (d) [.inr (.inr 49), .inl x1, .inl x2] w (none, v) := by
  obtain ⟨e, rfl⟩ : ∃ e, d = e + 1 := ⟨d - 1, by omega⟩
  exact w_m_layTurns_d N e (by omega)
theorem dX12_spur_0 : decode cX12_spur 0 = .ok (.aload_n 0, 1) := by decide +kernel
theorem dX12_spur_1 : decode cX12_spur 1 = .ok (.iconst 0, 1) := by decide +kernel
theorem dX12_spur_2 : decode cX12_spur 2 = .ok (.putfield 99, 3) := by decide +kernel
theorem dX12_spur_5 : decode cX12_spur 5 = .ok (.aload_n 0, 1) := by decide +kernel
theorem dX12_spur_6 : decode cX12_spur 6 = .ok (.iload_n 1, 1) := by decide +kernel
theorem dX12_spur_7 : decode cX12_spur 7 = .ok (.invokevirtual 393, 3) := by decide +kernel
theorem dX12_spur_10 : decode cX12_spur 10 = .ok (.ifCond .ne 7, 3) := by decide +kernel
theorem dX12_spur_13 : decode cX12_spur 13 = .ok (.ldc_w 315, 3) := by decide +kernel
theorem dX12_spur_16 : decode cX12_spur 16 = .ok (.ireturn, 1) := by decide +kernel
theorem dX12_spur_17 : decode cX12_spur 17 = .ok (.bipush 99, 2) := by decide +kernel
theorem dX12_spur_19 : decode cX12_spur 19 = .ok (.istore_n 2, 1) := by decide +kernel
theorem dX12_spur_20 : decode cX12_spur 20 = .ok (.iload_n 2, 1) := by decide +kernel
theorem dX12_spur_21 : decode cX12_spur 21 = .ok (.bipush (-99), 2) := by decide +kernel
theorem dX12_spur_23 : decode cX12_spur 23 = .ok (.if_icmp .lt 66, 3) := by decide +kernel
theorem dX12_spur_26 : decode cX12_spur 26 = .ok (.aload_n 0, 1) := by decide +kernel
theorem dX12_spur_27 : decode cX12_spur 27 = .ok (.iload_n 1, 1) := by decide +kernel
theorem dX12_spur_28 : decode cX12_spur 28 = .ok (.iload_n 2, 1) := by decide +kernel
theorem dX12_spur_29 : decode cX12_spur 29 = .ok (.invokevirtual 396, 3) := by decide +kernel
theorem dX12_spur_32 : decode cX12_spur 32 = .ok (.iconst 0, 1) := by decide +kernel
theorem dX12_spur_33 : decode cX12_spur 33 = .ok (.istore_n 3, 1) := by decide +kernel
theorem dX12_spur_34 : decode cX12_spur 34 = .ok (.iconst 0, 1) := by decide +kernel
theorem dX12_spur_35 : decode cX12_spur 35 = .ok (.istore 4, 2) := by decide +kernel
theorem dX12_spur_37 : decode cX12_spur 37 = .ok (.iload 4, 2) := by decide +kernel
theorem dX12_spur_39 : decode cX12_spur 39 = .ok (.aload_n 0, 1) := by decide +kernel
theorem dX12_spur_40 : decode cX12_spur 40 = .ok (.getfield 270, 3) := by decide +kernel
theorem dX12_spur_43 : decode cX12_spur 43 = .ok (.if_icmp .ge 28, 3) := by decide +kernel
theorem dX12_spur_46 : decode cX12_spur 46 = .ok (.iload_n 3, 1) := by decide +kernel
theorem dX12_spur_47 : decode cX12_spur 47 = .ok (.aload_n 0, 1) := by decide +kernel
theorem dX12_spur_48 : decode cX12_spur 48 = .ok (.getfield 81, 3) := by decide +kernel
theorem dX12_spur_51 : decode cX12_spur 51 = .ok (.iload 4, 2) := by decide +kernel
theorem dX12_spur_53 : decode cX12_spur 53 = .ok (.iaload, 1) := by decide +kernel
theorem dX12_spur_54 : decode cX12_spur 54 = .ok (.iconst (-1), 1) := by decide +kernel
theorem dX12_spur_55 : decode cX12_spur 55 = .ok (.if_icmp .eq 7, 3) := by decide +kernel
theorem dX12_spur_58 : decode cX12_spur 58 = .ok (.iconst 1, 1) := by decide +kernel
theorem dX12_spur_59 : decode cX12_spur 59 = .ok (.goto 4, 3) := by decide +kernel
theorem dX12_spur_62 : decode cX12_spur 62 = .ok (.iconst 0, 1) := by decide +kernel
theorem dX12_spur_63 : decode cX12_spur 63 = .ok (.iadd, 1) := by decide +kernel
theorem dX12_spur_64 : decode cX12_spur 64 = .ok (.istore_n 3, 1) := by decide +kernel
theorem dX12_spur_65 : decode cX12_spur 65 = .ok (.iinc 4 1, 3) := by decide +kernel
theorem dX12_spur_68 : decode cX12_spur 68 = .ok (.goto (-31), 3) := by decide +kernel
theorem dX12_spur_71 : decode cX12_spur 71 = .ok (.iload_n 3, 1) := by decide +kernel
theorem dX12_spur_72 : decode cX12_spur 72 = .ok (.aload_n 0, 1) := by decide +kernel
theorem dX12_spur_73 : decode cX12_spur 73 = .ok (.getfield 43, 3) := by decide +kernel
theorem dX12_spur_76 : decode cX12_spur 76 = .ok (.iconst 0, 1) := by decide +kernel
theorem dX12_spur_77 : decode cX12_spur 77 = .ok (.iaload, 1) := by decide +kernel
theorem dX12_spur_78 : decode cX12_spur 78 = .ok (.if_icmp .lt 5, 3) := by decide +kernel
theorem dX12_spur_81 : decode cX12_spur 81 = .ok (.iload_n 2, 1) := by decide +kernel
theorem dX12_spur_82 : decode cX12_spur 82 = .ok (.ireturn, 1) := by decide +kernel
theorem dX12_spur_83 : decode cX12_spur 83 = .ok (.iinc 2 (-1), 3) := by decide +kernel
theorem dX12_spur_86 : decode cX12_spur 86 = .ok (.goto (-66), 3) := by decide +kernel
theorem dX12_spur_89 : decode cX12_spur 89 = .ok (.ldc_w 315, 3) := by decide +kernel
theorem dX12_spur_92 : decode cX12_spur 92 = .ok (.ireturn, 1) := by decide +kernel
def m_spur_89 (N : Nat) (w : aw_W) : Option (Int × aw_W) :=
  some ((-1000000), w)
theorem w_m_spur_89 {l : Launch} {K : aw_K} (N d : Nat) (hd : 1 ≤ d) : ∀ (w : aw_W) (y : Int) (v : aw_W), m_spur_89 N w = some (y, v) → aw_AW l K MX12_spur (d + 1) 89 [] [] w (some (.inl y), v) := by
  intro w y v h
  unfold m_spur_89 at h
  refine aw_ldcw (pc := 89) (x := (-1000000)) dX12_spur_89 cn_RX12_315 ⟨by decide, by decide⟩ ?_
  cases h
  exact aw_iret (pc := 92) rfl dX12_spur_92
def m_spur_81 (N : Nat) (x2 : Int) (w : aw_W) : Option (Int × aw_W) :=
  some (x2, w)
theorem w_m_spur_81 {l : Launch} {K : aw_K} (N d : Nat) (hd : 1 ≤ d) : ∀ (x2 : Int) (w : aw_W) (y : Int) (v : aw_W), m_spur_81 N x2 w = some (y, v) → aw_AW l K MX12_spur (d + 1) 81 [(2, .inl x2)] [] w (some (.inl y), v) := by
  intro x2 w y v h
  unfold m_spur_81 at h
  refine aw_iload_n (pc := 81) (q := 0) dX12_spur_81 rfl ?_
  cases h
  exact aw_iret (pc := 82) rfl dX12_spur_82
def m_spur_71 (N : Nat) (k20 : Int → Int → aw_W → Option (Int × aw_W)) (x1 x2 x3 : Int) (w : aw_W) : Option (Int × aw_W) :=
  if x3 < (w 56 0) then
    k20 x1 (aw_w (x2 + (-1))) w
  else
    m_spur_81 N x2 w
theorem w_m_spur_71 {l : Launch} {K : aw_K} (N d : Nat) (hd : 1 ≤ d) (k20 : Int → Int → aw_W → Option (Int × aw_W)) (hk20 : ∀ (x1 x2 : Int) (w : aw_W) (y : Int) (v : aw_W), k20 x1 x2 w = some (y, v) → aw_AW l K MX12_spur (d + 1) 20 [(0, .inr (.inr 49)), (1, .inl x1), (2, .inl x2)] [] w (some (.inl y), v)) : ∀ (x1 x2 x3 : Int) (w : aw_W) (y : Int) (v : aw_W), m_spur_71 N k20 x1 x2 x3 w = some (y, v) → aw_AW l K MX12_spur (d + 1) 71 [(0, .inr (.inr 49)), (1, .inl x1), (2, .inl x2), (3, .inl x3)] [] w (some (.inl y), v) := by
  intro x1 x2 x3 w y v h
  unfold m_spur_71 at h
  refine aw_iload_n (pc := 71) (q := 3) dX12_spur_71 rfl ?_
  refine aw_aload_n (pc := 72) (q := 0) dX12_spur_72 rfl ?_
  refine aw_getf (pc := 73) (v := .inr (.inr 56)) dX12_spur_73 fl_RX12_43 (by decide) rfl rfl rfl ?_
  refine aw_iconst (pc := 76) dX12_spur_76 ⟨by decide, by decide⟩ ?_
  refine aw_ialdv (pc := 77) (v := w 56 0) dX12_spur_77 rfl (by decide) (by decide) rfl ?_
  refine aw_icmp_lt (pc := 78) (tgt := 83) dX12_spur_78 (by decide) (fun hc => ?_) (fun hc => ?_)
  · rw [if_pos hc] at h
    refine aw_iinc (pc := 83) (q := 2) (ls' := [(2, .inl (aw_w (x2 + (-1)))), (0, .inr (.inr 49)), (1, .inl x1), (3, .inl x3)]) dX12_spur_83 rfl (by decide) rfl ?_
    refine aw_goto (pc := 86) (tgt := 20) dX12_spur_86 (by decide) ?_
    exact aw_sel [1, 2, 0] rfl (hk20 _ _ _ _ _ h)
  · rw [if_neg hc] at h
    exact aw_sel [2] rfl (w_m_spur_81 N d hd  _ _ _ _ h)
def m_spur_63 (N : Nat) (k20 : Int → Int → aw_W → Option (Int × aw_W)) (k37 : Int → Int → Int → Int → aw_W → Option (Int × aw_W)) (x1 x2 x4 s0 s1 : Int) (w : aw_W) : Option (Int × aw_W) :=
  k37 x1 x2 (aw_w (s1 + s0)) (aw_w (x4 + 1)) w
theorem w_m_spur_63 {l : Launch} {K : aw_K} (N d : Nat) (hd : 1 ≤ d) (k20 : Int → Int → aw_W → Option (Int × aw_W)) (hk20 : ∀ (x1 x2 : Int) (w : aw_W) (y : Int) (v : aw_W), k20 x1 x2 w = some (y, v) → aw_AW l K MX12_spur (d + 1) 20 [(0, .inr (.inr 49)), (1, .inl x1), (2, .inl x2)] [] w (some (.inl y), v)) (k37 : Int → Int → Int → Int → aw_W → Option (Int × aw_W)) (hk37 : ∀ (x1 x2 x3 x4 : Int) (w : aw_W) (y : Int) (v : aw_W), k37 x1 x2 x3 x4 w = some (y, v) → aw_AW l K MX12_spur (d + 1) 37 [(0, .inr (.inr 49)), (1, .inl x1), (2, .inl x2), (3, .inl x3), (4, .inl x4)] [] w (some (.inl y), v)) : ∀ (x1 x2 x4 s0 s1 : Int) (w : aw_W) (y : Int) (v : aw_W), m_spur_63 N k20 k37 x1 x2 x4 s0 s1 w = some (y, v) → aw_AW l K MX12_spur (d + 1) 63 [(0, .inr (.inr 49)), (1, .inl x1), (2, .inl x2), (4, .inl x4)] [.inl s0, .inl s1] w (some (.inl y), v) := by
  intro x1 x2 x4 s0 s1 w y v h
  unfold m_spur_63 at h
  refine aw_iadd (pc := 63) dX12_spur_63 ?_
  refine aw_istore_n (pc := 64) (ls' := [(3, .inl (aw_w (s1 + s0))), (0, .inr (.inr 49)), (1, .inl x1), (2, .inl x2), (4, .inl x4)]) dX12_spur_64 (by decide) rfl ?_
  refine aw_iinc (pc := 65) (q := 4) (ls' := [(4, .inl (aw_w (x4 + 1))), (3, .inl (aw_w (s1 + s0))), (0, .inr (.inr 49)), (1, .inl x1), (2, .inl x2)]) dX12_spur_65 rfl (by decide) rfl ?_
  refine aw_goto (pc := 68) (tgt := 37) dX12_spur_68 (by decide) ?_
  exact aw_sel [2, 3, 4, 1, 0] rfl (hk37 _ _ _ _ _ _ _ h)
def m_spur_37 (N : Nat) (k20 : Int → Int → aw_W → Option (Int × aw_W)) : Nat → Int → Int → Int → Int → aw_W → Option (Int × aw_W)
  | 0, _, _, _, _, _ => none
  | n + 1, x1, x2, x3, x4, w =>
    if (w 49 22) ≤ x4 then
      m_spur_71 N k20 x1 x2 x3 w
    else
      if 0 ≤ x4 ∧ x4 < 6 then
        if (w 67 x4.toNat) = (-1) then
          m_spur_63 N k20 (m_spur_37 N k20 n) x1 x2 x4 0 x3 w
        else
          m_spur_63 N k20 (m_spur_37 N k20 n) x1 x2 x4 1 x3 w
      else none
theorem w_m_spur_37 {l : Launch} {K : aw_K} (N d : Nat) (hd : 1 ≤ d) (k20 : Int → Int → aw_W → Option (Int × aw_W)) (hk20 : ∀ (x1 x2 : Int) (w : aw_W) (y : Int) (v : aw_W), k20 x1 x2 w = some (y, v) → aw_AW l K MX12_spur (d + 1) 20 [(0, .inr (.inr 49)), (1, .inl x1), (2, .inl x2)] [] w (some (.inl y), v)) : ∀ (n : Nat) (x1 x2 x3 x4 : Int) (w : aw_W) (y : Int) (v : aw_W), m_spur_37 N k20 n x1 x2 x3 x4 w = some (y, v) → aw_AW l K MX12_spur (d + 1) 37 [(0, .inr (.inr 49)), (1, .inl x1), (2, .inl x2), (3, .inl x3), (4, .inl x4)] [] w (some (.inl y), v) := by
  intro n
  induction n with
  | zero => intro x1 x2 x3 x4 w y v h; rw [m_spur_37] at h; cases h
  | succ n ih =>
    intro x1 x2 x3 x4 w y v h
    rw [m_spur_37] at h
    refine aw_iload (pc := 37) (q := 4) dX12_spur_37 rfl ?_
    refine aw_aload_n (pc := 39) (q := 0) dX12_spur_39 rfl ?_
    refine aw_getf (pc := 40) (v := .inl (w 49 22)) dX12_spur_40 fl_RX12_270 (by decide) rfl rfl rfl ?_
    refine aw_icmp_ge (pc := 43) (tgt := 71) dX12_spur_43 (by decide) (fun hc => ?_) (fun hc => ?_)
    · rw [if_pos hc] at h
      exact aw_sel [0, 1, 2, 3] rfl (w_m_spur_71 N d hd  _ hk20 _ _ _ _ _ _ h)
    · rw [if_neg hc] at h
      refine aw_iload_n (pc := 46) (q := 3) dX12_spur_46 rfl ?_
      refine aw_aload_n (pc := 47) (q := 0) dX12_spur_47 rfl ?_
      refine aw_getf (pc := 48) (v := .inr (.inr 67)) dX12_spur_48 fl_RX12_81 (by decide) rfl rfl rfl ?_
      refine aw_iload (pc := 51) (q := 4) dX12_spur_51 rfl ?_
      obtain ⟨hb, h⟩ := aw_cks h
      refine aw_ialdv (pc := 53) (v := w 67 x4.toNat) dX12_spur_53 rfl hb.1 hb.2 rfl ?_
      refine aw_iconst (pc := 54) dX12_spur_54 ⟨by decide, by decide⟩ ?_
      refine aw_icmp_eq (pc := 55) (tgt := 62) dX12_spur_55 (by decide) (fun hc => ?_) (fun hc => ?_)
      · rw [if_pos hc] at h
        refine aw_iconst (pc := 62) dX12_spur_62 ⟨by decide, by decide⟩ ?_
        exact aw_sel [0, 1, 2, 4] rfl (w_m_spur_63 N d hd  _ hk20 _ ih _ _ _ _ _ _ _ _ h)
      · rw [if_neg hc] at h
        refine aw_iconst (pc := 58) dX12_spur_58 ⟨by decide, by decide⟩ ?_
        refine aw_goto (pc := 59) (tgt := 63) dX12_spur_59 (by decide) ?_
        exact aw_sel [0, 1, 2, 4] rfl (w_m_spur_63 N d hd  _ hk20 _ ih _ _ _ _ _ _ _ _ h)
def m_spur_20 (N : Nat) : Nat → Int → Int → aw_W → Option (Int × aw_W)
  | 0, _, _, _ => none
  | n + 1, x1, x2, w =>
    if x2 < (-99) then
      m_spur_89 N w
    else
      aw_b1 (m_layTurns N x1 x2 w) fun w1 =>
        m_spur_37 N (m_spur_20 N n) N x1 x2 0 0 w1
theorem w_m_spur_20 {l : Launch} {K : aw_K} (N d : Nat) (hd : 1 ≤ d) : ∀ (n : Nat) (x1 x2 : Int) (w : aw_W) (y : Int) (v : aw_W), m_spur_20 N n x1 x2 w = some (y, v) → aw_AW l K MX12_spur (d + 1) 20 [(0, .inr (.inr 49)), (1, .inl x1), (2, .inl x2)] [] w (some (.inl y), v) := by
  intro n
  induction n with
  | zero => intro x1 x2 w y v h; rw [m_spur_20] at h; cases h
  | succ n ih =>
    intro x1 x2 w y v h
    rw [m_spur_20] at h
    refine aw_iload_n (pc := 20) (q := 2) dX12_spur_20 rfl ?_
    refine aw_bipush (pc := 21) dX12_spur_21 (by decide) ⟨by decide, by decide⟩ ?_
    refine aw_icmp_lt (pc := 23) (tgt := 89) dX12_spur_23 (by decide) (fun hc => ?_) (fun hc => ?_)
    · rw [if_pos hc] at h
      exact aw_sel [] rfl (w_m_spur_89 N d hd  _ _ _ h)
    · rw [if_neg hc] at h
      refine aw_aload_n (pc := 26) (q := 0) dX12_spur_26 rfl ?_
      refine aw_iload_n (pc := 27) (q := 1) dX12_spur_27 rfl ?_
      refine aw_iload_n (pc := 28) (q := 2) dX12_spur_28 rfl ?_
      obtain ⟨w1, h1, h⟩ := aw_b1s h
      refine aw_callV (pc := 29) (as := [.inl x1, .inl x2]) (st := []) (st' := []) dX12_spur_29 cv_RX12_396 (by decide) rfl rfl rfl rfl (Nat.le_of_ble_eq_true rfl) (w_m_layTurns N d (by omega) _ _ _ _ h1) rfl ?_
      refine aw_iconst (pc := 32) dX12_spur_32 ⟨by decide, by decide⟩ ?_
      refine aw_istore_n (pc := 33) (ls' := [(3, .inl 0), (0, .inr (.inr 49)), (1, .inl x1), (2, .inl x2)]) dX12_spur_33 (by decide) rfl ?_
      refine aw_iconst (pc := 34) dX12_spur_34 ⟨by decide, by decide⟩ ?_
      refine aw_istore (pc := 35) (ls' := [(4, .inl 0), (3, .inl 0), (0, .inr (.inr 49)), (1, .inl x1), (2, .inl x2)]) dX12_spur_35 (by decide) rfl ?_
      exact aw_sel [2, 3, 4, 1, 0] rfl (w_m_spur_37 N d hd  _ ih N _ _ _ _ _ _ _ h)
def m_spur (N : Nat) (x1 : Int) (w : aw_W) : Option (Int × aw_W) :=
  aw_b2 (m_areTurns N x1 (aw_up w 49 0 0)) fun r1 w1 =>
    if r1 = 0 then
      some ((-1000000), w1)
    else
      m_spur_20 N N x1 99 w1
theorem w_m_spur_d {l : Launch} {K : aw_K} (N d : Nat) (hd : 1 ≤ d) : ∀ (x1 : Int) (w : aw_W) (y : Int) (v : aw_W), m_spur N x1 w = some (y, v) → aw_Met l K MX12_spur (d + 1) [.inr (.inr 49), .inl x1] w (some (.inl y), v) := by
  intro x1 w y v h
  unfold m_spur at h
  refine aw_enter rfl (Nat.le_of_ble_eq_true rfl) ?_
  show aw_AW l K MX12_spur (d + 1) 0 [(0, .inr (.inr 49)), (1, .inl x1)] [] w (some (.inl y), v)
  refine aw_aload_n (pc := 0) (q := 0) dX12_spur_0 rfl ?_
  refine aw_iconst (pc := 1) dX12_spur_1 ⟨by decide, by decide⟩ ?_
  refine aw_puti (pc := 2) dX12_spur_2 fp_RX12_99 (by decide) rfl rfl ?_
  refine aw_aload_n (pc := 5) (q := 0) dX12_spur_5 rfl ?_
  refine aw_iload_n (pc := 6) (q := 1) dX12_spur_6 rfl ?_
  obtain ⟨r1, w1, h1, h⟩ := aw_b2s h
  refine aw_callV (pc := 7) (as := [.inl x1]) (st := []) (st' := [.inl r1]) dX12_spur_7 cv_RX12_393 (by decide) rfl rfl rfl rfl (Nat.le_of_ble_eq_true rfl) (w_m_areTurns N d (by omega) _ _ _ _ h1) rfl ?_
  refine aw_if_ne (pc := 10) (tgt := 17) dX12_spur_10 (by decide) (fun hc => ?_) (fun hc => ?_)
  · rw [if_neg hc] at h
    refine aw_bipush (pc := 17) dX12_spur_17 (by decide) ⟨by decide, by decide⟩ ?_
    refine aw_istore_n (pc := 19) (ls' := [(2, .inl 99), (0, .inr (.inr 49)), (1, .inl x1)]) dX12_spur_19 (by decide) rfl ?_
    exact aw_sel [1, 2, 0] rfl (w_m_spur_20 N d hd  N _ _ _ _ _ h)
  · rw [if_pos hc] at h
    refine aw_ldcw (pc := 13) (x := (-1000000)) dX12_spur_13 cn_RX12_315 ⟨by decide, by decide⟩ ?_
    cases h
    exact aw_iret (pc := 16) rfl dX12_spur_16
theorem w_m_spur {l : Launch} {K : aw_K} (N d : Nat) (hd : 2 ≤ d) : ∀ (x1 : Int) (w : aw_W) (y : Int) (v : aw_W), m_spur N x1 w = some (y, v) → aw_Met l K MX12_spur (d) [.inr (.inr 49), .inl x1] w (some (.inl y), v) := by
  obtain ⟨e, rfl⟩ : ∃ e, d = e + 1 := ⟨d - 1, by omega⟩
  exact w_m_spur_d N e (by omega)
theorem dX12_step_0 : decode cX12_step 0 = .ok (.aload_n 0, 1) := by decide +kernel
theorem dX12_step_1 : decode cX12_step 1 = .ok (.iconst 0, 1) := by decide +kernel
theorem dX12_step_2 : decode cX12_step 2 = .ok (.putfield 99, 3) := by decide +kernel
theorem dX12_step_5 : decode cX12_step 5 = .ok (.aload_n 0, 1) := by decide +kernel
theorem dX12_step_6 : decode cX12_step 6 = .ok (.iload_n 1, 1) := by decide +kernel
theorem dX12_step_7 : decode cX12_step 7 = .ok (.iload_n 2, 1) := by decide +kernel
theorem dX12_step_8 : decode cX12_step 8 = .ok (.invokevirtual 310, 3) := by decide +kernel
theorem dX12_step_11 : decode cX12_step 11 = .ok (.ifCond .eq 23, 3) := by decide +kernel
theorem dX12_step_14 : decode cX12_step 14 = .ok (.aload_n 0, 1) := by decide +kernel
theorem dX12_step_15 : decode cX12_step 15 = .ok (.iload_n 3, 1) := by decide +kernel
theorem dX12_step_16 : decode cX12_step 16 = .ok (.invokevirtual 282, 3) := by decide +kernel
theorem dX12_step_19 : decode cX12_step 19 = .ok (.ifCond .eq 15, 3) := by decide +kernel
theorem dX12_step_22 : decode cX12_step 22 = .ok (.iload 4, 2) := by decide +kernel
theorem dX12_step_24 : decode cX12_step 24 = .ok (.i2l, 1) := by decide +kernel
theorem dX12_step_25 : decode cX12_step 25 = .ok (.lconst 0, 1) := by decide +kernel
theorem dX12_step_26 : decode cX12_step 26 = .ok (.iload_n 2, 1) := by decide +kernel
theorem dX12_step_27 : decode cX12_step 27 = .ok (.i2l, 1) := by decide +kernel
theorem dX12_step_28 : decode cX12_step 28 = .ok (.invokestatic 227, 3) := by decide +kernel
theorem dX12_step_31 : decode cX12_step 31 = .ok (.ifCond .ne 7, 3) := by decide +kernel
theorem dX12_step_34 : decode cX12_step 34 = .ok (.ldc_w 315, 3) := by decide +kernel
theorem dX12_step_37 : decode cX12_step 37 = .ok (.ireturn, 1) := by decide +kernel
theorem dX12_step_38 : decode cX12_step 38 = .ok (.aload_n 0, 1) := by decide +kernel
theorem dX12_step_39 : decode cX12_step 39 = .ok (.iload_n 1, 1) := by decide +kernel
theorem dX12_step_40 : decode cX12_step 40 = .ok (.iload_n 2, 1) := by decide +kernel
theorem dX12_step_41 : decode cX12_step 41 = .ok (.invokevirtual 316, 3) := by decide +kernel
theorem dX12_step_44 : decode cX12_step 44 = .ok (.aload_n 0, 1) := by decide +kernel
theorem dX12_step_45 : decode cX12_step 45 = .ok (.iload_n 3, 1) := by decide +kernel
theorem dX12_step_46 : decode cX12_step 46 = .ok (.iload 4, 2) := by decide +kernel
theorem dX12_step_48 : decode cX12_step 48 = .ok (.invokevirtual 296, 3) := by decide +kernel
theorem dX12_step_51 : decode cX12_step 51 = .ok (.ireturn, 1) := by decide +kernel
def m_step_34 (N : Nat) (w : aw_W) : Option (Int × aw_W) :=
  some ((-1000000), w)
theorem w_m_step_34 {l : Launch} {K : aw_K} (N d : Nat) (hd : 129 ≤ d) : ∀ (w : aw_W) (y : Int) (v : aw_W), m_step_34 N w = some (y, v) → aw_AW l K MX12_step (d + 1) 34 [] [] w (some (.inl y), v) := by
  intro w y v h
  unfold m_step_34 at h
  refine aw_ldcw (pc := 34) (x := (-1000000)) dX12_step_34 cn_RX12_315 ⟨by decide, by decide⟩ ?_
  cases h
  exact aw_iret (pc := 37) rfl dX12_step_37
def m_step (N : Nat) (x1 x2 x3 x4 : Int) (w : aw_W) : Option (Int × aw_W) :=
  aw_b2 (m_isRace N x1 x2 (aw_up w 49 0 0)) fun r1 w1 =>
    if r1 = 0 then
      m_step_34 N w1
    else
      aw_b2 (m_isStriver N x3 w1) fun r2 w2 =>
        if r2 = 0 then
          m_step_34 N w2
        else
          aw_b2 (m_isIn N x4 0 x2 w2) fun r3 w3 =>
            if r3 = 0 then
              m_step_34 N w3
            else
              aw_b1 (m_run N x1 x2 w3) fun w4 =>
                aw_b2 (m_goneBy N x3 x4 w4) fun r5 w5 =>
                  some (r5, w5)
theorem w_m_step_d {l : Launch} {K : aw_K} (N d : Nat) (hd : 129 ≤ d) : ∀ (x1 x2 x3 x4 : Int) (w : aw_W) (y : Int) (v : aw_W), m_step N x1 x2 x3 x4 w = some (y, v) → aw_Met l K MX12_step (d + 1) [.inr (.inr 49), .inl x1, .inl x2, .inl x3, .inl x4] w (some (.inl y), v) := by
  intro x1 x2 x3 x4 w y v h
  unfold m_step at h
  refine aw_enter rfl (Nat.le_of_ble_eq_true rfl) ?_
  show aw_AW l K MX12_step (d + 1) 0 [(0, .inr (.inr 49)), (1, .inl x1), (2, .inl x2), (3, .inl x3), (4, .inl x4)] [] w (some (.inl y), v)
  refine aw_aload_n (pc := 0) (q := 0) dX12_step_0 rfl ?_
  refine aw_iconst (pc := 1) dX12_step_1 ⟨by decide, by decide⟩ ?_
  refine aw_puti (pc := 2) dX12_step_2 fp_RX12_99 (by decide) rfl rfl ?_
  refine aw_aload_n (pc := 5) (q := 0) dX12_step_5 rfl ?_
  refine aw_iload_n (pc := 6) (q := 1) dX12_step_6 rfl ?_
  refine aw_iload_n (pc := 7) (q := 2) dX12_step_7 rfl ?_
  obtain ⟨r1, w1, h1, h⟩ := aw_b2s h
  refine aw_callV (pc := 8) (as := [.inl x1, .inl x2]) (st := []) (st' := [.inl r1]) dX12_step_8 cv_RX12_310 (by decide) rfl rfl rfl rfl (Nat.le_of_ble_eq_true rfl) (w_m_isRace N d (by omega) _ _ _ _ _ h1) rfl ?_
  refine aw_if_eq (pc := 11) (tgt := 34) dX12_step_11 (by decide) (fun hc => ?_) (fun hc => ?_)
  · rw [if_pos hc] at h
    exact aw_sel [] rfl (w_m_step_34 N d hd  _ _ _ h)
  · rw [if_neg hc] at h
    refine aw_aload_n (pc := 14) (q := 0) dX12_step_14 rfl ?_
    refine aw_iload_n (pc := 15) (q := 3) dX12_step_15 rfl ?_
    obtain ⟨r2, w2, h2, h⟩ := aw_b2s h
    refine aw_callV (pc := 16) (as := [.inl x3]) (st := []) (st' := [.inl r2]) dX12_step_16 cv_RX12_282 (by decide) rfl rfl rfl rfl (Nat.le_of_ble_eq_true rfl) (w_m_isStriver N d (by omega) _ _ _ _ h2) rfl ?_
    refine aw_if_eq (pc := 19) (tgt := 34) dX12_step_19 (by decide) (fun hc => ?_) (fun hc => ?_)
    · rw [if_pos hc] at h
      exact aw_sel [] rfl (w_m_step_34 N d hd  _ _ _ h)
    · rw [if_neg hc] at h
      refine aw_iload (pc := 22) (q := 4) dX12_step_22 rfl ?_
      refine aw_i2l (pc := 24) dX12_step_24 ?_
      refine aw_lconst (pc := 25) (x := 0) dX12_step_25 (by decide) ⟨by decide, by decide⟩ ?_
      refine aw_iload_n (pc := 26) (q := 2) dX12_step_26 rfl ?_
      refine aw_i2l (pc := 27) dX12_step_27 ?_
      obtain ⟨r3, w3, h3, h⟩ := aw_b2s h
      refine aw_callS (pc := 28) (as := [.inr (.inl x4), .inr (.inl 0), .inr (.inl x2)]) (st := []) (st' := [.inl r3]) dX12_step_28 cs_RX12_227 rfl rfl (Nat.le_of_ble_eq_true rfl) (w_m_isIn N d (by omega) _ _ _ _ _ _ h3) rfl ?_
      refine aw_if_ne (pc := 31) (tgt := 38) dX12_step_31 (by decide) (fun hc => ?_) (fun hc => ?_)
      · rw [if_neg hc] at h
        refine aw_aload_n (pc := 38) (q := 0) dX12_step_38 rfl ?_
        refine aw_iload_n (pc := 39) (q := 1) dX12_step_39 rfl ?_
        refine aw_iload_n (pc := 40) (q := 2) dX12_step_40 rfl ?_
        obtain ⟨w4, h4, h⟩ := aw_b1s h
        refine aw_callV (pc := 41) (as := [.inl x1, .inl x2]) (st := []) (st' := []) dX12_step_41 cv_RX12_316 (by decide) rfl rfl rfl rfl (Nat.le_of_ble_eq_true rfl) (w_m_run N d (by omega) _ _ _ _ h4) rfl ?_
        refine aw_aload_n (pc := 44) (q := 0) dX12_step_44 rfl ?_
        refine aw_iload_n (pc := 45) (q := 3) dX12_step_45 rfl ?_
        refine aw_iload (pc := 46) (q := 4) dX12_step_46 rfl ?_
        obtain ⟨r5, w5, h5, h⟩ := aw_b2s h
        refine aw_callV (pc := 48) (as := [.inl x3, .inl x4]) (st := []) (st' := [.inl r5]) dX12_step_48 cv_RX12_296 (by decide) rfl rfl rfl rfl (Nat.le_of_ble_eq_true rfl) (w_m_goneBy N d (by omega) _ _ _ _ _ h5) rfl ?_
        cases h
        exact aw_iret (pc := 51) rfl dX12_step_51
      · rw [if_pos hc] at h
        exact aw_sel [] rfl (w_m_step_34 N d hd  _ _ _ h)
theorem w_m_step {l : Launch} {K : aw_K} (N d : Nat) (hd : 130 ≤ d) : ∀ (x1 x2 x3 x4 : Int) (w : aw_W) (y : Int) (v : aw_W), m_step N x1 x2 x3 x4 w = some (y, v) → aw_Met l K MX12_step (d) [.inr (.inr 49), .inl x1, .inl x2, .inl x3, .inl x4] w (some (.inl y), v) := by
  obtain ⟨e, rfl⟩ : ∃ e, d = e + 1 := ⟨d - 1, by omega⟩
  exact w_m_step_d N e (by omega)
theorem dX12_striver_0 : decode cX12_striver 0 = .ok (.aload_n 0, 1) := by decide +kernel
theorem dX12_striver_1 : decode cX12_striver 1 = .ok (.aload_n 0, 1) := by decide +kernel
theorem dX12_striver_2 : decode cX12_striver 2 = .ok (.iload_n 1, 1) := by decide +kernel
theorem dX12_striver_3 : decode cX12_striver 3 = .ok (.invokevirtual 282, 3) := by decide +kernel
theorem dX12_striver_6 : decode cX12_striver 6 = .ok (.ifCond .eq 19, 3) := by decide +kernel
theorem dX12_striver_9 : decode cX12_striver 9 = .ok (.iload_n 2, 1) := by decide +kernel
theorem dX12_striver_10 : decode cX12_striver 10 = .ok (.i2l, 1) := by decide +kernel
theorem dX12_striver_11 : decode cX12_striver 11 = .ok (.lconst 0, 1) := by decide +kernel
theorem dX12_striver_12 : decode cX12_striver 12 = .ok (.ldc2_w 285, 3) := by decide +kernel
theorem dX12_striver_15 : decode cX12_striver 15 = .ok (.invokestatic 227, 3) := by decide +kernel
theorem dX12_striver_18 : decode cX12_striver 18 = .ok (.ifCond .eq 7, 3) := by decide +kernel
theorem dX12_striver_21 : decode cX12_striver 21 = .ok (.iconst 0, 1) := by decide +kernel
theorem dX12_striver_22 : decode cX12_striver 22 = .ok (.goto 4, 3) := by decide +kernel
theorem dX12_striver_25 : decode cX12_striver 25 = .ok (.iconst 1, 1) := by decide +kernel
theorem dX12_striver_26 : decode cX12_striver 26 = .ok (.putfield 99, 3) := by decide +kernel
theorem dX12_striver_29 : decode cX12_striver 29 = .ok (.aload_n 0, 1) := by decide +kernel
theorem dX12_striver_30 : decode cX12_striver 30 = .ok (.getfield 99, 3) := by decide +kernel
theorem dX12_striver_33 : decode cX12_striver 33 = .ok (.ifCond .le 7, 3) := by decide +kernel
theorem dX12_striver_36 : decode cX12_striver 36 = .ok (.iconst 0, 1) := by decide +kernel
theorem dX12_striver_37 : decode cX12_striver 37 = .ok (.goto 27, 3) := by decide +kernel
theorem dX12_striver_40 : decode cX12_striver 40 = .ok (.iload_n 2, 1) := by decide +kernel
theorem dX12_striver_41 : decode cX12_striver 41 = .ok (.iconst 4, 1) := by decide +kernel
theorem dX12_striver_42 : decode cX12_striver 42 = .ok (.if_icmp .ne 12, 3) := by decide +kernel
theorem dX12_striver_45 : decode cX12_striver 45 = .ok (.aload_n 0, 1) := by decide +kernel
theorem dX12_striver_46 : decode cX12_striver 46 = .ok (.getfield 49, 3) := by decide +kernel
theorem dX12_striver_49 : decode cX12_striver 49 = .ok (.iload_n 1, 1) := by decide +kernel
theorem dX12_striver_50 : decode cX12_striver 50 = .ok (.iaload, 1) := by decide +kernel
theorem dX12_striver_51 : decode cX12_striver 51 = .ok (.goto 13, 3) := by decide +kernel
theorem dX12_striver_54 : decode cX12_striver 54 = .ok (.aload_n 0, 1) := by decide +kernel
theorem dX12_striver_55 : decode cX12_striver 55 = .ok (.getfield 37, 3) := by decide +kernel
theorem dX12_striver_58 : decode cX12_striver 58 = .ok (.iconst 4, 1) := by decide +kernel
theorem dX12_striver_59 : decode cX12_striver 59 = .ok (.iload_n 1, 1) := by decide +kernel
theorem dX12_striver_60 : decode cX12_striver 60 = .ok (.imul, 1) := by decide +kernel
theorem dX12_striver_61 : decode cX12_striver 61 = .ok (.iload_n 2, 1) := by decide +kernel
theorem dX12_striver_62 : decode cX12_striver 62 = .ok (.iadd, 1) := by decide +kernel
theorem dX12_striver_63 : decode cX12_striver 63 = .ok (.iaload, 1) := by decide +kernel
theorem dX12_striver_64 : decode cX12_striver 64 = .ok (.ireturn, 1) := by decide +kernel
def m_striver_64 (N : Nat) (s0 : Int) (w : aw_W) : Option (Int × aw_W) :=
  some (s0, w)
theorem w_m_striver_64 {l : Launch} {K : aw_K} (N d : Nat) (hd : 0 ≤ d) : ∀ (s0 : Int) (w : aw_W) (y : Int) (v : aw_W), m_striver_64 N s0 w = some (y, v) → aw_AW l K MX12_striver (d + 1) 64 [] [.inl s0] w (some (.inl y), v) := by
  intro s0 w y v h
  unfold m_striver_64 at h
  cases h
  exact aw_iret (pc := 64) rfl dX12_striver_64
def m_striver_26 (N : Nat) (x1 x2 s0 : Int) (w : aw_W) : Option (Int × aw_W) :=
  if s0 ≤ 0 then
    if x2 = 4 then
      if 0 ≤ x1 ∧ x1 < 6 then
        m_striver_64 N (w 58 x1.toNat) (aw_up w 49 0 s0)
      else none
    else
      if 0 ≤ (aw_w ((aw_w (4 * x1)) + x2)) ∧ (aw_w ((aw_w (4 * x1)) + x2)) < 24 then
        m_striver_64 N (w 54 ((aw_w ((aw_w (4 * x1)) + x2)).toNat)) (aw_up w 49 0 s0)
      else none
  else
    m_striver_64 N 0 (aw_up w 49 0 s0)
theorem w_m_striver_26 {l : Launch} {K : aw_K} (N d : Nat) (hd : 0 ≤ d) : ∀ (x1 x2 s0 : Int) (w : aw_W) (y : Int) (v : aw_W), m_striver_26 N x1 x2 s0 w = some (y, v) → aw_AW l K MX12_striver (d + 1) 26 [(0, .inr (.inr 49)), (1, .inl x1), (2, .inl x2)] [.inl s0, .inr (.inr 49)] w (some (.inl y), v) := by
  intro x1 x2 s0 w y v h
  unfold m_striver_26 at h
  refine aw_puti (pc := 26) dX12_striver_26 fp_RX12_99 (by decide) rfl rfl ?_
  refine aw_aload_n (pc := 29) (q := 0) dX12_striver_29 rfl ?_
  refine aw_getf (pc := 30) (v := .inl s0) dX12_striver_30 fl_RX12_99 (by decide) rfl rfl rfl ?_
  refine aw_if_le (pc := 33) (tgt := 40) dX12_striver_33 (by decide) (fun hc => ?_) (fun hc => ?_)
  · rw [if_pos hc] at h
    refine aw_iload_n (pc := 40) (q := 2) dX12_striver_40 rfl ?_
    refine aw_iconst (pc := 41) dX12_striver_41 ⟨by decide, by decide⟩ ?_
    refine aw_icmp_ne (pc := 42) (tgt := 54) dX12_striver_42 (by decide) (fun hc => ?_) (fun hc => ?_)
    · rw [if_neg hc] at h
      refine aw_aload_n (pc := 54) (q := 0) dX12_striver_54 rfl ?_
      refine aw_getf (pc := 55) (v := .inr (.inr 54)) dX12_striver_55 fl_RX12_37 (by decide) rfl rfl rfl ?_
      refine aw_iconst (pc := 58) dX12_striver_58 ⟨by decide, by decide⟩ ?_
      refine aw_iload_n (pc := 59) (q := 1) dX12_striver_59 rfl ?_
      refine aw_imul (pc := 60) dX12_striver_60 ?_
      refine aw_iload_n (pc := 61) (q := 2) dX12_striver_61 rfl ?_
      refine aw_iadd (pc := 62) dX12_striver_62 ?_
      obtain ⟨hb, h⟩ := aw_cks h
      refine aw_ialdv (pc := 63) (v := w 54 ((aw_w ((aw_w (4 * x1)) + x2)).toNat)) dX12_striver_63 rfl hb.1 hb.2 rfl ?_
      exact aw_sel [] rfl (w_m_striver_64 N d hd  _ _ _ _ h)
    · rw [if_pos hc] at h
      refine aw_aload_n (pc := 45) (q := 0) dX12_striver_45 rfl ?_
      refine aw_getf (pc := 46) (v := .inr (.inr 58)) dX12_striver_46 fl_RX12_49 (by decide) rfl rfl rfl ?_
      refine aw_iload_n (pc := 49) (q := 1) dX12_striver_49 rfl ?_
      obtain ⟨hb, h⟩ := aw_cks h
      refine aw_ialdv (pc := 50) (v := w 58 x1.toNat) dX12_striver_50 rfl hb.1 hb.2 rfl ?_
      refine aw_goto (pc := 51) (tgt := 64) dX12_striver_51 (by decide) ?_
      exact aw_sel [] rfl (w_m_striver_64 N d hd  _ _ _ _ h)
  · rw [if_neg hc] at h
    refine aw_iconst (pc := 36) dX12_striver_36 ⟨by decide, by decide⟩ ?_
    refine aw_goto (pc := 37) (tgt := 64) dX12_striver_37 (by decide) ?_
    exact aw_sel [] rfl (w_m_striver_64 N d hd  _ _ _ _ h)
def m_striver_25 (N : Nat) (x1 x2 : Int) (w : aw_W) : Option (Int × aw_W) :=
  m_striver_26 N x1 x2 1 w
theorem w_m_striver_25 {l : Launch} {K : aw_K} (N d : Nat) (hd : 0 ≤ d) : ∀ (x1 x2 : Int) (w : aw_W) (y : Int) (v : aw_W), m_striver_25 N x1 x2 w = some (y, v) → aw_AW l K MX12_striver (d + 1) 25 [(0, .inr (.inr 49)), (1, .inl x1), (2, .inl x2)] [.inr (.inr 49)] w (some (.inl y), v) := by
  intro x1 x2 w y v h
  unfold m_striver_25 at h
  refine aw_iconst (pc := 25) dX12_striver_25 ⟨by decide, by decide⟩ ?_
  exact aw_sel [0, 1, 2] rfl (w_m_striver_26 N d hd  _ _ _ _ _ _ h)
def m_striver (N : Nat) (x1 x2 : Int) (w : aw_W) : Option (Int × aw_W) :=
  aw_b2 (m_isStriver N x1 w) fun r1 w1 =>
    if r1 = 0 then
      m_striver_25 N x1 x2 w1
    else
      aw_b2 (m_isIn N x2 0 4 w1) fun r2 w2 =>
        if r2 = 0 then
          m_striver_25 N x1 x2 w2
        else
          m_striver_26 N x1 x2 0 w2
theorem w_m_striver_d {l : Launch} {K : aw_K} (N d : Nat) (hd : 0 ≤ d) : ∀ (x1 x2 : Int) (w : aw_W) (y : Int) (v : aw_W), m_striver N x1 x2 w = some (y, v) → aw_Met l K MX12_striver (d + 1) [.inr (.inr 49), .inl x1, .inl x2] w (some (.inl y), v) := by
  intro x1 x2 w y v h
  unfold m_striver at h
  refine aw_enter rfl (Nat.le_of_ble_eq_true rfl) ?_
  show aw_AW l K MX12_striver (d + 1) 0 [(0, .inr (.inr 49)), (1, .inl x1), (2, .inl x2)] [] w (some (.inl y), v)
  refine aw_aload_n (pc := 0) (q := 0) dX12_striver_0 rfl ?_
  refine aw_aload_n (pc := 1) (q := 0) dX12_striver_1 rfl ?_
  refine aw_iload_n (pc := 2) (q := 1) dX12_striver_2 rfl ?_
  obtain ⟨r1, w1, h1, h⟩ := aw_b2s h
  refine aw_callV (pc := 3) (as := [.inl x1]) (st := [.inr (.inr 49)]) (st' := [.inl r1, .inr (.inr 49)]) dX12_striver_3 cv_RX12_282 (by decide) rfl rfl rfl rfl (Nat.le_of_ble_eq_true rfl) (w_m_isStriver N d (by omega) _ _ _ _ h1) rfl ?_
  refine aw_if_eq (pc := 6) (tgt := 25) dX12_striver_6 (by decide) (fun hc => ?_) (fun hc => ?_)
  · rw [if_pos hc] at h
    exact aw_sel [0, 1, 2] rfl (w_m_striver_25 N d hd  _ _ _ _ _ h)
  · rw [if_neg hc] at h
    refine aw_iload_n (pc := 9) (q := 2) dX12_striver_9 rfl ?_
    refine aw_i2l (pc := 10) dX12_striver_10 ?_
    refine aw_lconst (pc := 11) (x := 0) dX12_striver_11 (by decide) ⟨by decide, by decide⟩ ?_
    refine aw_ldc2 (pc := 12) (x := 4) dX12_striver_12 cl_RX12_285 ⟨by decide, by decide⟩ ?_
    obtain ⟨r2, w2, h2, h⟩ := aw_b2s h
    refine aw_callS (pc := 15) (as := [.inr (.inl x2), .inr (.inl 0), .inr (.inl 4)]) (st := [.inr (.inr 49)]) (st' := [.inl r2, .inr (.inr 49)]) dX12_striver_15 cs_RX12_227 rfl rfl (Nat.le_of_ble_eq_true rfl) (w_m_isIn N d (by omega) _ _ _ _ _ _ h2) rfl ?_
    refine aw_if_eq (pc := 18) (tgt := 25) dX12_striver_18 (by decide) (fun hc => ?_) (fun hc => ?_)
    · rw [if_pos hc] at h
      exact aw_sel [0, 1, 2] rfl (w_m_striver_25 N d hd  _ _ _ _ _ h)
    · rw [if_neg hc] at h
      refine aw_iconst (pc := 21) dX12_striver_21 ⟨by decide, by decide⟩ ?_
      refine aw_goto (pc := 22) (tgt := 26) dX12_striver_22 (by decide) ?_
      exact aw_sel [0, 1, 2] rfl (w_m_striver_26 N d hd  _ _ _ _ _ _ h)
theorem w_m_striver {l : Launch} {K : aw_K} (N d : Nat) (hd : 1 ≤ d) : ∀ (x1 x2 : Int) (w : aw_W) (y : Int) (v : aw_W), m_striver N x1 x2 w = some (y, v) → aw_Met l K MX12_striver (d) [.inr (.inr 49), .inl x1, .inl x2] w (some (.inl y), v) := by
  obtain ⟨e, rfl⟩ : ∃ e, d = e + 1 := ⟨d - 1, by omega⟩
  exact w_m_striver_d N e (by omega)
theorem dX12_sum__0 : decode cX12_sum_ 0 = .ok (.aload_n 0, 1) := by decide +kernel
theorem dX12_sum__1 : decode cX12_sum_ 1 = .ok (.iconst 0, 1) := by decide +kernel
theorem dX12_sum__2 : decode cX12_sum_ 2 = .ok (.putfield 99, 3) := by decide +kernel
theorem dX12_sum__5 : decode cX12_sum_ 5 = .ok (.aload_n 0, 1) := by decide +kernel
theorem dX12_sum__6 : decode cX12_sum_ 6 = .ok (.iload_n 1, 1) := by decide +kernel
theorem dX12_sum__7 : decode cX12_sum_ 7 = .ok (.invokevirtual 282, 3) := by decide +kernel
theorem dX12_sum__10 : decode cX12_sum_ 10 = .ok (.ifCond .ne 7, 3) := by decide +kernel
theorem dX12_sum__13 : decode cX12_sum_ 13 = .ok (.ldc_w 315, 3) := by decide +kernel
theorem dX12_sum__16 : decode cX12_sum_ 16 = .ok (.ireturn, 1) := by decide +kernel
theorem dX12_sum__17 : decode cX12_sum_ 17 = .ok (.iconst 0, 1) := by decide +kernel
theorem dX12_sum__18 : decode cX12_sum_ 18 = .ok (.istore_n 2, 1) := by decide +kernel
theorem dX12_sum__19 : decode cX12_sum_ 19 = .ok (.iconst 0, 1) := by decide +kernel
theorem dX12_sum__20 : decode cX12_sum_ 20 = .ok (.istore_n 3, 1) := by decide +kernel
theorem dX12_sum__21 : decode cX12_sum_ 21 = .ok (.iload_n 3, 1) := by decide +kernel
theorem dX12_sum__22 : decode cX12_sum_ 22 = .ok (.aload_n 0, 1) := by decide +kernel
theorem dX12_sum__23 : decode cX12_sum_ 23 = .ok (.getfield 273, 3) := by decide +kernel
theorem dX12_sum__26 : decode cX12_sum_ 26 = .ok (.if_icmp .ge 22, 3) := by decide +kernel
theorem dX12_sum__29 : decode cX12_sum_ 29 = .ok (.aload_n 0, 1) := by decide +kernel
theorem dX12_sum__30 : decode cX12_sum_ 30 = .ok (.iload_n 3, 1) := by decide +kernel
theorem dX12_sum__31 : decode cX12_sum_ 31 = .ok (.invokevirtual 421, 3) := by decide +kernel
theorem dX12_sum__34 : decode cX12_sum_ 34 = .ok (.iload_n 2, 1) := by decide +kernel
theorem dX12_sum__35 : decode cX12_sum_ 35 = .ok (.aload_n 0, 1) := by decide +kernel
theorem dX12_sum__36 : decode cX12_sum_ 36 = .ok (.iload_n 1, 1) := by decide +kernel
theorem dX12_sum__37 : decode cX12_sum_ 37 = .ok (.invokevirtual 348, 3) := by decide +kernel
theorem dX12_sum__40 : decode cX12_sum_ 40 = .ok (.iadd, 1) := by decide +kernel
theorem dX12_sum__41 : decode cX12_sum_ 41 = .ok (.istore_n 2, 1) := by decide +kernel
theorem dX12_sum__42 : decode cX12_sum_ 42 = .ok (.iinc 3 1, 3) := by decide +kernel
theorem dX12_sum__45 : decode cX12_sum_ 45 = .ok (.goto (-24), 3) := by decide +kernel
theorem dX12_sum__48 : decode cX12_sum_ 48 = .ok (.iload_n 2, 1) := by decide +kernel
theorem dX12_sum__49 : decode cX12_sum_ 49 = .ok (.ireturn, 1) := by decide +kernel
def m_sum_49_48 (N : Nat) (x2 : Int) (w : aw_W) : Option (Int × aw_W) :=
  some (x2, w)
theorem w_m_sum_49_48 {l : Launch} {K : aw_K} (N d : Nat) (hd : 3 ≤ d) : ∀ (x2 : Int) (w : aw_W) (y : Int) (v : aw_W), m_sum_49_48 N x2 w = some (y, v) → aw_AW l K MX12_sum_ (d + 1) 48 [(2, .inl x2)] [] w (some (.inl y), v) := by
  intro x2 w y v h
  unfold m_sum_49_48 at h
  refine aw_iload_n (pc := 48) (q := 0) dX12_sum__48 rfl ?_
  cases h
  exact aw_iret (pc := 49) rfl dX12_sum__49
def m_sum_49_21 (N : Nat) : Nat → Int → Int → Int → aw_W → Option (Int × aw_W)
  | 0, _, _, _, _ => none
  | n + 1, x1, x2, x3, w =>
    if (w 49 43) ≤ x3 then
      m_sum_49_48 N x2 w
    else
      aw_b1 (m_layBooked N x3 w) fun w1 =>
        aw_b2 (m_gainOf N x1 w1) fun r2 w2 =>
          m_sum_49_21 N n x1 (aw_w (x2 + r2)) (aw_w (x3 + 1)) w2
theorem w_m_sum_49_21 {l : Launch} {K : aw_K} (N d : Nat) (hd : 3 ≤ d) : ∀ (n : Nat) (x1 x2 x3 : Int) (w : aw_W) (y : Int) (v : aw_W), m_sum_49_21 N n x1 x2 x3 w = some (y, v) → aw_AW l K MX12_sum_ (d + 1) 21 [(0, .inr (.inr 49)), (1, .inl x1), (2, .inl x2), (3, .inl x3)] [] w (some (.inl y), v) := by
  intro n
  induction n with
  | zero => intro x1 x2 x3 w y v h; rw [m_sum_49_21] at h; cases h
  | succ n ih =>
    intro x1 x2 x3 w y v h
    rw [m_sum_49_21] at h
    refine aw_iload_n (pc := 21) (q := 3) dX12_sum__21 rfl ?_
    refine aw_aload_n (pc := 22) (q := 0) dX12_sum__22 rfl ?_
    refine aw_getf (pc := 23) (v := .inl (w 49 43)) dX12_sum__23 fl_RX12_273 (by decide) rfl rfl rfl ?_
    refine aw_icmp_ge (pc := 26) (tgt := 48) dX12_sum__26 (by decide) (fun hc => ?_) (fun hc => ?_)
    · rw [if_pos hc] at h
      exact aw_sel [2] rfl (w_m_sum_49_48 N d hd  _ _ _ _ h)
    · rw [if_neg hc] at h
      refine aw_aload_n (pc := 29) (q := 0) dX12_sum__29 rfl ?_
      refine aw_iload_n (pc := 30) (q := 3) dX12_sum__30 rfl ?_
      obtain ⟨w1, h1, h⟩ := aw_b1s h
      refine aw_callV (pc := 31) (as := [.inl x3]) (st := []) (st' := []) dX12_sum__31 cv_RX12_421 (by decide) rfl rfl rfl rfl (Nat.le_of_ble_eq_true rfl) (w_m_layBooked N d (by omega) _ _ _ h1) rfl ?_
      refine aw_iload_n (pc := 34) (q := 2) dX12_sum__34 rfl ?_
      refine aw_aload_n (pc := 35) (q := 0) dX12_sum__35 rfl ?_
      refine aw_iload_n (pc := 36) (q := 1) dX12_sum__36 rfl ?_
      obtain ⟨r2, w2, h2, h⟩ := aw_b2s h
      refine aw_callV (pc := 37) (as := [.inl x1]) (st := [.inl x2]) (st' := [.inl r2, .inl x2]) dX12_sum__37 cv_RX12_348 (by decide) rfl rfl rfl rfl (Nat.le_of_ble_eq_true rfl) (w_m_gainOf N d (by omega) _ _ _ _ h2) rfl ?_
      refine aw_iadd (pc := 40) dX12_sum__40 ?_
      refine aw_istore_n (pc := 41) (ls' := [(2, .inl (aw_w (x2 + r2))), (0, .inr (.inr 49)), (1, .inl x1), (3, .inl x3)]) dX12_sum__41 (by decide) rfl ?_
      refine aw_iinc (pc := 42) (q := 3) (ls' := [(3, .inl (aw_w (x3 + 1))), (2, .inl (aw_w (x2 + r2))), (0, .inr (.inr 49)), (1, .inl x1)]) dX12_sum__42 rfl (by decide) rfl ?_
      refine aw_goto (pc := 45) (tgt := 21) dX12_sum__45 (by decide) ?_
      exact aw_sel [2, 3, 1, 0] rfl (ih _ _ _ _ _ _ h)
def m_sum_49 (N : Nat) (x1 : Int) (w : aw_W) : Option (Int × aw_W) :=
  aw_b2 (m_isStriver N x1 (aw_up w 49 0 0)) fun r1 w1 =>
    if r1 = 0 then
      some ((-1000000), w1)
    else
      m_sum_49_21 N N x1 0 0 w1
theorem w_m_sum_49_d {l : Launch} {K : aw_K} (N d : Nat) (hd : 3 ≤ d) : ∀ (x1 : Int) (w : aw_W) (y : Int) (v : aw_W), m_sum_49 N x1 w = some (y, v) → aw_Met l K MX12_sum_ (d + 1) [.inr (.inr 49), .inl x1] w (some (.inl y), v) := by
  intro x1 w y v h
  unfold m_sum_49 at h
  refine aw_enter rfl (Nat.le_of_ble_eq_true rfl) ?_
  show aw_AW l K MX12_sum_ (d + 1) 0 [(0, .inr (.inr 49)), (1, .inl x1)] [] w (some (.inl y), v)
  refine aw_aload_n (pc := 0) (q := 0) dX12_sum__0 rfl ?_
  refine aw_iconst (pc := 1) dX12_sum__1 ⟨by decide, by decide⟩ ?_
  refine aw_puti (pc := 2) dX12_sum__2 fp_RX12_99 (by decide) rfl rfl ?_
  refine aw_aload_n (pc := 5) (q := 0) dX12_sum__5 rfl ?_
  refine aw_iload_n (pc := 6) (q := 1) dX12_sum__6 rfl ?_
  obtain ⟨r1, w1, h1, h⟩ := aw_b2s h
  refine aw_callV (pc := 7) (as := [.inl x1]) (st := []) (st' := [.inl r1]) dX12_sum__7 cv_RX12_282 (by decide) rfl rfl rfl rfl (Nat.le_of_ble_eq_true rfl) (w_m_isStriver N d (by omega) _ _ _ _ h1) rfl ?_
  refine aw_if_ne (pc := 10) (tgt := 17) dX12_sum__10 (by decide) (fun hc => ?_) (fun hc => ?_)
  · rw [if_neg hc] at h
    refine aw_iconst (pc := 17) dX12_sum__17 ⟨by decide, by decide⟩ ?_
    refine aw_istore_n (pc := 18) (ls' := [(2, .inl 0), (0, .inr (.inr 49)), (1, .inl x1)]) dX12_sum__18 (by decide) rfl ?_
    refine aw_iconst (pc := 19) dX12_sum__19 ⟨by decide, by decide⟩ ?_
    refine aw_istore_n (pc := 20) (ls' := [(3, .inl 0), (2, .inl 0), (0, .inr (.inr 49)), (1, .inl x1)]) dX12_sum__20 (by decide) rfl ?_
    exact aw_sel [2, 3, 1, 0] rfl (w_m_sum_49_21 N d hd  N _ _ _ _ _ _ h)
  · rw [if_pos hc] at h
    refine aw_ldcw (pc := 13) (x := (-1000000)) dX12_sum__13 cn_RX12_315 ⟨by decide, by decide⟩ ?_
    cases h
    exact aw_iret (pc := 16) rfl dX12_sum__16
theorem w_m_sum_49 {l : Launch} {K : aw_K} (N d : Nat) (hd : 4 ≤ d) : ∀ (x1 : Int) (w : aw_W) (y : Int) (v : aw_W), m_sum_49 N x1 w = some (y, v) → aw_Met l K MX12_sum_ (d) [.inr (.inr 49), .inl x1] w (some (.inl y), v) := by
  obtain ⟨e, rfl⟩ : ∃ e, d = e + 1 := ⟨d - 1, by omega⟩
  exact w_m_sum_49_d N e (by omega)
theorem dX12_text_0 : decode cX12_text 0 = .ok (.aload_n 0, 1) := by decide +kernel
theorem dX12_text_1 : decode cX12_text 1 = .ok (.iconst 0, 1) := by decide +kernel
theorem dX12_text_2 : decode cX12_text 2 = .ok (.putfield 99, 3) := by decide +kernel
theorem dX12_text_5 : decode cX12_text 5 = .ok (.iload_n 1, 1) := by decide +kernel
theorem dX12_text_6 : decode cX12_text 6 = .ok (.i2l, 1) := by decide +kernel
theorem dX12_text_7 : decode cX12_text 7 = .ok (.lconst 0, 1) := by decide +kernel
theorem dX12_text_8 : decode cX12_text 8 = .ok (.lconst 1, 1) := by decide +kernel
theorem dX12_text_9 : decode cX12_text 9 = .ok (.invokestatic 227, 3) := by decide +kernel
theorem dX12_text_12 : decode cX12_text 12 = .ok (.ifCond .eq 25, 3) := by decide +kernel
theorem dX12_text_15 : decode cX12_text 15 = .ok (.iload_n 1, 1) := by decide +kernel
theorem dX12_text_16 : decode cX12_text 16 = .ok (.iconst 1, 1) := by decide +kernel
theorem dX12_text_17 : decode cX12_text 17 = .ok (.if_icmp .ne 11, 3) := by decide +kernel
theorem dX12_text_20 : decode cX12_text 20 = .ok (.aload_n 0, 1) := by decide +kernel
theorem dX12_text_21 : decode cX12_text 21 = .ok (.getfield 265, 3) := by decide +kernel
theorem dX12_text_24 : decode cX12_text 24 = .ok (.iconst 4, 1) := by decide +kernel
theorem dX12_text_25 : decode cX12_text 25 = .ok (.if_icmp .eq 12, 3) := by decide +kernel
theorem dX12_text_28 : decode cX12_text 28 = .ok (.aload_n 0, 1) := by decide +kernel
theorem dX12_text_29 : decode cX12_text 29 = .ok (.iload_n 1, 1) := by decide +kernel
theorem dX12_text_30 : decode cX12_text 30 = .ok (.invokevirtual 268, 3) := by decide +kernel
theorem dX12_text_33 : decode cX12_text 33 = .ok (.iconst (-1), 1) := by decide +kernel
theorem dX12_text_34 : decode cX12_text 34 = .ok (.if_icmp .eq 5, 3) := by decide +kernel
theorem dX12_text_37 : decode cX12_text 37 = .ok (.iconst (-1), 1) := by decide +kernel
theorem dX12_text_38 : decode cX12_text 38 = .ok (.ireturn, 1) := by decide +kernel
theorem dX12_text_39 : decode cX12_text 39 = .ok (.aload_n 0, 1) := by decide +kernel
theorem dX12_text_40 : decode cX12_text 40 = .ok (.getfield 112, 3) := by decide +kernel
theorem dX12_text_43 : decode cX12_text 43 = .ok (.istore_n 2, 1) := by decide +kernel
theorem dX12_text_44 : decode cX12_text 44 = .ok (.aload_n 0, 1) := by decide +kernel
theorem dX12_text_45 : decode cX12_text 45 = .ok (.iconst 0, 1) := by decide +kernel
theorem dX12_text_46 : decode cX12_text 46 = .ok (.putfield 112, 3) := by decide +kernel
theorem dX12_text_49 : decode cX12_text 49 = .ok (.iload_n 1, 1) := by decide +kernel
theorem dX12_text_50 : decode cX12_text 50 = .ok (.iconst 1, 1) := by decide +kernel
theorem dX12_text_51 : decode cX12_text 51 = .ok (.if_icmp .ne 64, 3) := by decide +kernel
theorem dX12_text_54 : decode cX12_text 54 = .ok (.iconst 0, 1) := by decide +kernel
theorem dX12_text_55 : decode cX12_text 55 = .ok (.istore_n 3, 1) := by decide +kernel
theorem dX12_text_56 : decode cX12_text 56 = .ok (.iload_n 3, 1) := by decide +kernel
theorem dX12_text_57 : decode cX12_text 57 = .ok (.iload_n 2, 1) := by decide +kernel
theorem dX12_text_58 : decode cX12_text 58 = .ok (.if_icmp .ge 30, 3) := by decide +kernel
theorem dX12_text_61 : decode cX12_text 61 = .ok (.aload_n 0, 1) := by decide +kernel
theorem dX12_text_62 : decode cX12_text 62 = .ok (.getfield 13, 3) := by decide +kernel
theorem dX12_text_65 : decode cX12_text 65 = .ok (.sipush 160, 3) := by decide +kernel
theorem dX12_text_68 : decode cX12_text 68 = .ok (.aload_n 0, 1) := by decide +kernel
theorem dX12_text_69 : decode cX12_text 69 = .ok (.getfield 265, 3) := by decide +kernel
theorem dX12_text_72 : decode cX12_text 72 = .ok (.imul, 1) := by decide +kernel
theorem dX12_text_73 : decode cX12_text 73 = .ok (.iload_n 3, 1) := by decide +kernel
theorem dX12_text_74 : decode cX12_text 74 = .ok (.iadd, 1) := by decide +kernel
theorem dX12_text_75 : decode cX12_text 75 = .ok (.aload_n 0, 1) := by decide +kernel
theorem dX12_text_76 : decode cX12_text 76 = .ok (.getfield 9, 3) := by decide +kernel
theorem dX12_text_79 : decode cX12_text 79 = .ok (.iload_n 3, 1) := by decide +kernel
theorem dX12_text_80 : decode cX12_text 80 = .ok (.baload, 1) := by decide +kernel
theorem dX12_text_81 : decode cX12_text 81 = .ok (.bastore, 1) := by decide +kernel
theorem dX12_text_82 : decode cX12_text 82 = .ok (.iinc 3 1, 3) := by decide +kernel
theorem dX12_text_85 : decode cX12_text 85 = .ok (.goto (-29), 3) := by decide +kernel
theorem dX12_text_88 : decode cX12_text 88 = .ok (.aload_n 0, 1) := by decide +kernel
theorem dX12_text_89 : decode cX12_text 89 = .ok (.getfield 16, 3) := by decide +kernel
theorem dX12_text_92 : decode cX12_text 92 = .ok (.aload_n 0, 1) := by decide +kernel
theorem dX12_text_93 : decode cX12_text 93 = .ok (.getfield 265, 3) := by decide +kernel
theorem dX12_text_96 : decode cX12_text 96 = .ok (.iload_n 2, 1) := by decide +kernel
theorem dX12_text_97 : decode cX12_text 97 = .ok (.iastore, 1) := by decide +kernel
theorem dX12_text_98 : decode cX12_text 98 = .ok (.aload_n 0, 1) := by decide +kernel
theorem dX12_text_99 : decode cX12_text 99 = .ok (.dup, 1) := by decide +kernel
theorem dX12_text_100 : decode cX12_text 100 = .ok (.getfield 265, 3) := by decide +kernel
theorem dX12_text_103 : decode cX12_text 103 = .ok (.iconst 1, 1) := by decide +kernel
theorem dX12_text_104 : decode cX12_text 104 = .ok (.iadd, 1) := by decide +kernel
theorem dX12_text_105 : decode cX12_text 105 = .ok (.putfield 265, 3) := by decide +kernel
theorem dX12_text_108 : decode cX12_text 108 = .ok (.aload_n 0, 1) := by decide +kernel
theorem dX12_text_109 : decode cX12_text 109 = .ok (.getfield 265, 3) := by decide +kernel
theorem dX12_text_112 : decode cX12_text 112 = .ok (.iconst 1, 1) := by decide +kernel
theorem dX12_text_113 : decode cX12_text 113 = .ok (.isub, 1) := by decide +kernel
theorem dX12_text_114 : decode cX12_text 114 = .ok (.ireturn, 1) := by decide +kernel
theorem dX12_text_115 : decode cX12_text 115 = .ok (.aload_n 0, 1) := by decide +kernel
theorem dX12_text_116 : decode cX12_text 116 = .ok (.aload_n 0, 1) := by decide +kernel
theorem dX12_text_117 : decode cX12_text 117 = .ok (.getfield 234, 3) := by decide +kernel
theorem dX12_text_120 : decode cX12_text 120 = .ok (.putfield 270, 3) := by decide +kernel
theorem dX12_text_123 : decode cX12_text 123 = .ok (.iconst 0, 1) := by decide +kernel
theorem dX12_text_124 : decode cX12_text 124 = .ok (.istore_n 3, 1) := by decide +kernel
theorem dX12_text_125 : decode cX12_text 125 = .ok (.iload_n 3, 1) := by decide +kernel
theorem dX12_text_126 : decode cX12_text 126 = .ok (.bipush 24, 2) := by decide +kernel
theorem dX12_text_128 : decode cX12_text 128 = .ok (.if_icmp .ge 21, 3) := by decide +kernel
theorem dX12_text_131 : decode cX12_text 131 = .ok (.aload_n 0, 1) := by decide +kernel
theorem dX12_text_132 : decode cX12_text 132 = .ok (.getfield 37, 3) := by decide +kernel
theorem dX12_text_135 : decode cX12_text 135 = .ok (.iload_n 3, 1) := by decide +kernel
theorem dX12_text_136 : decode cX12_text 136 = .ok (.aload_n 0, 1) := by decide +kernel
theorem dX12_text_137 : decode cX12_text 137 = .ok (.getfield 40, 3) := by decide +kernel
theorem dX12_text_140 : decode cX12_text 140 = .ok (.iload_n 3, 1) := by decide +kernel
theorem dX12_text_141 : decode cX12_text 141 = .ok (.iaload, 1) := by decide +kernel
theorem dX12_text_142 : decode cX12_text 142 = .ok (.iastore, 1) := by decide +kernel
theorem dX12_text_143 : decode cX12_text 143 = .ok (.iinc 3 1, 3) := by decide +kernel
theorem dX12_text_146 : decode cX12_text 146 = .ok (.goto (-21), 3) := by decide +kernel
theorem dX12_text_149 : decode cX12_text 149 = .ok (.iconst 0, 1) := by decide +kernel
theorem dX12_text_150 : decode cX12_text 150 = .ok (.istore_n 3, 1) := by decide +kernel
theorem dX12_text_151 : decode cX12_text 151 = .ok (.iload_n 3, 1) := by decide +kernel
theorem dX12_text_152 : decode cX12_text 152 = .ok (.iconst 5, 1) := by decide +kernel
theorem dX12_text_153 : decode cX12_text 153 = .ok (.if_icmp .ge 21, 3) := by decide +kernel
theorem dX12_text_156 : decode cX12_text 156 = .ok (.aload_n 0, 1) := by decide +kernel
theorem dX12_text_157 : decode cX12_text 157 = .ok (.getfield 43, 3) := by decide +kernel
theorem dX12_text_160 : decode cX12_text 160 = .ok (.iload_n 3, 1) := by decide +kernel
theorem dX12_text_161 : decode cX12_text 161 = .ok (.aload_n 0, 1) := by decide +kernel
theorem dX12_text_162 : decode cX12_text 162 = .ok (.getfield 46, 3) := by decide +kernel
theorem dX12_text_165 : decode cX12_text 165 = .ok (.iload_n 3, 1) := by decide +kernel
theorem dX12_text_166 : decode cX12_text 166 = .ok (.iaload, 1) := by decide +kernel
theorem dX12_text_167 : decode cX12_text 167 = .ok (.iastore, 1) := by decide +kernel
theorem dX12_text_168 : decode cX12_text 168 = .ok (.iinc 3 1, 3) := by decide +kernel
theorem dX12_text_171 : decode cX12_text 171 = .ok (.goto (-20), 3) := by decide +kernel
theorem dX12_text_174 : decode cX12_text 174 = .ok (.iconst 0, 1) := by decide +kernel
theorem dX12_text_175 : decode cX12_text 175 = .ok (.istore_n 3, 1) := by decide +kernel
theorem dX12_text_176 : decode cX12_text 176 = .ok (.iload_n 3, 1) := by decide +kernel
theorem dX12_text_177 : decode cX12_text 177 = .ok (.bipush 6, 2) := by decide +kernel
theorem dX12_text_179 : decode cX12_text 179 = .ok (.if_icmp .ge 16, 3) := by decide +kernel
theorem dX12_text_182 : decode cX12_text 182 = .ok (.aload_n 0, 1) := by decide +kernel
theorem dX12_text_183 : decode cX12_text 183 = .ok (.getfield 49, 3) := by decide +kernel
theorem dX12_text_186 : decode cX12_text 186 = .ok (.iload_n 3, 1) := by decide +kernel
theorem dX12_text_187 : decode cX12_text 187 = .ok (.iconst (-1), 1) := by decide +kernel
theorem dX12_text_188 : decode cX12_text 188 = .ok (.iastore, 1) := by decide +kernel
theorem dX12_text_189 : decode cX12_text 189 = .ok (.iinc 3 1, 3) := by decide +kernel
theorem dX12_text_192 : decode cX12_text 192 = .ok (.goto (-16), 3) := by decide +kernel
theorem dX12_text_195 : decode cX12_text 195 = .ok (.aload_n 0, 1) := by decide +kernel
theorem dX12_text_196 : decode cX12_text 196 = .ok (.iconst 0, 1) := by decide +kernel
theorem dX12_text_197 : decode cX12_text 197 = .ok (.putfield 273, 3) := by decide +kernel
theorem dX12_text_200 : decode cX12_text 200 = .ok (.aload_n 0, 1) := by decide +kernel
theorem dX12_text_201 : decode cX12_text 201 = .ok (.iconst 0, 1) := by decide +kernel
theorem dX12_text_202 : decode cX12_text 202 = .ok (.putfield 276, 3) := by decide +kernel
theorem dX12_text_205 : decode cX12_text 205 = .ok (.aload_n 0, 1) := by decide +kernel
theorem dX12_text_206 : decode cX12_text 206 = .ok (.getfield 270, 3) := by decide +kernel
theorem dX12_text_209 : decode cX12_text 209 = .ok (.ireturn, 1) := by decide +kernel
def m_text_37 (N : Nat) (w : aw_W) : Option (Int × aw_W) :=
  some ((-1), w)
theorem w_m_text_37 {l : Launch} {K : aw_K} (N d : Nat) (hd : 128 ≤ d) : ∀ (w : aw_W) (y : Int) (v : aw_W), m_text_37 N w = some (y, v) → aw_AW l K MX12_text (d + 1) 37 [] [] w (some (.inl y), v) := by
  intro w y v h
  unfold m_text_37 at h
  refine aw_iconst (pc := 37) dX12_text_37 ⟨by decide, by decide⟩ ?_
  cases h
  exact aw_iret (pc := 38) rfl dX12_text_38
def m_text_195 (N : Nat) (w : aw_W) : Option (Int × aw_W) :=
  some (w 49 22, (aw_up (aw_up w 49 43 0) 49 51 0))
theorem w_m_text_195 {l : Launch} {K : aw_K} (N d : Nat) (hd : 128 ≤ d) : ∀ (w : aw_W) (y : Int) (v : aw_W), m_text_195 N w = some (y, v) → aw_AW l K MX12_text (d + 1) 195 [(0, .inr (.inr 49))] [] w (some (.inl y), v) := by
  intro w y v h
  unfold m_text_195 at h
  refine aw_aload_n (pc := 195) (q := 0) dX12_text_195 rfl ?_
  refine aw_iconst (pc := 196) dX12_text_196 ⟨by decide, by decide⟩ ?_
  refine aw_puti (pc := 197) dX12_text_197 fp_RX12_273 (by decide) rfl rfl ?_
  refine aw_aload_n (pc := 200) (q := 0) dX12_text_200 rfl ?_
  refine aw_iconst (pc := 201) dX12_text_201 ⟨by decide, by decide⟩ ?_
  refine aw_putz (pc := 202) dX12_text_202 fp_RX12_276 (by decide) rfl rfl (by decide) ?_
  refine aw_aload_n (pc := 205) (q := 0) dX12_text_205 rfl ?_
  refine aw_getf (pc := 206) (v := .inl (w 49 22)) dX12_text_206 fl_RX12_270 (by decide) rfl rfl rfl ?_
  cases h
  exact aw_iret (pc := 209) rfl dX12_text_209
def m_text_176 (N : Nat) : Nat → Int → aw_W → Option (Int × aw_W)
  | 0, _, _ => none
  | n + 1, x3, w =>
    if 6 ≤ x3 then
      m_text_195 N w
    else
      if 0 ≤ x3 ∧ x3 < 6 then
        m_text_176 N n (aw_w (x3 + 1)) (aw_up w 58 x3.toNat (-1))
      else none
theorem w_m_text_176 {l : Launch} {K : aw_K} (N d : Nat) (hd : 128 ≤ d) : ∀ (n : Nat) (x3 : Int) (w : aw_W) (y : Int) (v : aw_W), m_text_176 N n x3 w = some (y, v) → aw_AW l K MX12_text (d + 1) 176 [(0, .inr (.inr 49)), (3, .inl x3)] [] w (some (.inl y), v) := by
  intro n
  induction n with
  | zero => intro x3 w y v h; rw [m_text_176] at h; cases h
  | succ n ih =>
    intro x3 w y v h
    rw [m_text_176] at h
    refine aw_iload_n (pc := 176) (q := 1) dX12_text_176 rfl ?_
    refine aw_bipush (pc := 177) dX12_text_177 (by decide) ⟨by decide, by decide⟩ ?_
    refine aw_icmp_ge (pc := 179) (tgt := 195) dX12_text_179 (by decide) (fun hc => ?_) (fun hc => ?_)
    · rw [if_pos hc] at h
      exact aw_sel [0] rfl (w_m_text_195 N d hd  _ _ _ h)
    · rw [if_neg hc] at h
      refine aw_aload_n (pc := 182) (q := 0) dX12_text_182 rfl ?_
      refine aw_getf (pc := 183) (v := .inr (.inr 58)) dX12_text_183 fl_RX12_49 (by decide) rfl rfl rfl ?_
      refine aw_iload_n (pc := 186) (q := 1) dX12_text_186 rfl ?_
      refine aw_iconst (pc := 187) dX12_text_187 ⟨by decide, by decide⟩ ?_
      obtain ⟨hb, h⟩ := aw_cks h
      refine aw_iast (pc := 188) dX12_text_188 rfl hb.1 hb.2 ?_
      refine aw_iinc (pc := 189) (q := 1) (ls' := [(3, .inl (aw_w (x3 + 1))), (0, .inr (.inr 49))]) dX12_text_189 rfl (by decide) rfl ?_
      refine aw_goto (pc := 192) (tgt := 176) dX12_text_192 (by decide) ?_
      exact aw_sel [1, 0] rfl (ih _ _ _ _ h)
def m_text_174 (N : Nat) (w : aw_W) : Option (Int × aw_W) :=
  m_text_176 N N 0 w
theorem w_m_text_174 {l : Launch} {K : aw_K} (N d : Nat) (hd : 128 ≤ d) : ∀ (w : aw_W) (y : Int) (v : aw_W), m_text_174 N w = some (y, v) → aw_AW l K MX12_text (d + 1) 174 [(0, .inr (.inr 49))] [] w (some (.inl y), v) := by
  intro w y v h
  unfold m_text_174 at h
  refine aw_iconst (pc := 174) dX12_text_174 ⟨by decide, by decide⟩ ?_
  refine aw_istore_n (pc := 175) (ls' := [(3, .inl 0), (0, .inr (.inr 49))]) dX12_text_175 (by decide) rfl ?_
  exact aw_sel [1, 0] rfl (w_m_text_176 N d hd  N _ _ _ _ h)
def m_text_151 (N : Nat) : Nat → Int → aw_W → Option (Int × aw_W)
  | 0, _, _ => none
  | n + 1, x3, w =>
    if 5 ≤ x3 then
      m_text_174 N w
    else
      if 0 ≤ x3 ∧ x3 < 5 then
        if 0 ≤ x3 ∧ x3 < 5 then
          m_text_151 N n (aw_w (x3 + 1)) (aw_up w 56 x3.toNat (w 57 x3.toNat))
        else none
      else none
theorem w_m_text_151 {l : Launch} {K : aw_K} (N d : Nat) (hd : 128 ≤ d) : ∀ (n : Nat) (x3 : Int) (w : aw_W) (y : Int) (v : aw_W), m_text_151 N n x3 w = some (y, v) → aw_AW l K MX12_text (d + 1) 151 [(0, .inr (.inr 49)), (3, .inl x3)] [] w (some (.inl y), v) := by
  intro n
  induction n with
  | zero => intro x3 w y v h; rw [m_text_151] at h; cases h
  | succ n ih =>
    intro x3 w y v h
    rw [m_text_151] at h
    refine aw_iload_n (pc := 151) (q := 1) dX12_text_151 rfl ?_
    refine aw_iconst (pc := 152) dX12_text_152 ⟨by decide, by decide⟩ ?_
    refine aw_icmp_ge (pc := 153) (tgt := 174) dX12_text_153 (by decide) (fun hc => ?_) (fun hc => ?_)
    · rw [if_pos hc] at h
      exact aw_sel [0] rfl (w_m_text_174 N d hd  _ _ _ h)
    · rw [if_neg hc] at h
      refine aw_aload_n (pc := 156) (q := 0) dX12_text_156 rfl ?_
      refine aw_getf (pc := 157) (v := .inr (.inr 56)) dX12_text_157 fl_RX12_43 (by decide) rfl rfl rfl ?_
      refine aw_iload_n (pc := 160) (q := 1) dX12_text_160 rfl ?_
      refine aw_aload_n (pc := 161) (q := 0) dX12_text_161 rfl ?_
      refine aw_getf (pc := 162) (v := .inr (.inr 57)) dX12_text_162 fl_RX12_46 (by decide) rfl rfl rfl ?_
      refine aw_iload_n (pc := 165) (q := 1) dX12_text_165 rfl ?_
      obtain ⟨hb, h⟩ := aw_cks h
      refine aw_ialdv (pc := 166) (v := w 57 x3.toNat) dX12_text_166 rfl hb.1 hb.2 rfl ?_
      obtain ⟨hb, h⟩ := aw_cks h
      refine aw_iast (pc := 167) dX12_text_167 rfl hb.1 hb.2 ?_
      refine aw_iinc (pc := 168) (q := 1) (ls' := [(3, .inl (aw_w (x3 + 1))), (0, .inr (.inr 49))]) dX12_text_168 rfl (by decide) rfl ?_
      refine aw_goto (pc := 171) (tgt := 151) dX12_text_171 (by decide) ?_
      exact aw_sel [1, 0] rfl (ih _ _ _ _ h)
def m_text_149 (N : Nat) (w : aw_W) : Option (Int × aw_W) :=
  m_text_151 N N 0 w
theorem w_m_text_149 {l : Launch} {K : aw_K} (N d : Nat) (hd : 128 ≤ d) : ∀ (w : aw_W) (y : Int) (v : aw_W), m_text_149 N w = some (y, v) → aw_AW l K MX12_text (d + 1) 149 [(0, .inr (.inr 49))] [] w (some (.inl y), v) := by
  intro w y v h
  unfold m_text_149 at h
  refine aw_iconst (pc := 149) dX12_text_149 ⟨by decide, by decide⟩ ?_
  refine aw_istore_n (pc := 150) (ls' := [(3, .inl 0), (0, .inr (.inr 49))]) dX12_text_150 (by decide) rfl ?_
  exact aw_sel [1, 0] rfl (w_m_text_151 N d hd  N _ _ _ _ h)
def m_text_125 (N : Nat) : Nat → Int → aw_W → Option (Int × aw_W)
  | 0, _, _ => none
  | n + 1, x3, w =>
    if 24 ≤ x3 then
      m_text_149 N w
    else
      if 0 ≤ x3 ∧ x3 < 24 then
        if 0 ≤ x3 ∧ x3 < 24 then
          m_text_125 N n (aw_w (x3 + 1)) (aw_up w 54 x3.toNat (w 55 x3.toNat))
        else none
      else none
theorem w_m_text_125 {l : Launch} {K : aw_K} (N d : Nat) (hd : 128 ≤ d) : ∀ (n : Nat) (x3 : Int) (w : aw_W) (y : Int) (v : aw_W), m_text_125 N n x3 w = some (y, v) → aw_AW l K MX12_text (d + 1) 125 [(0, .inr (.inr 49)), (3, .inl x3)] [] w (some (.inl y), v) := by
  intro n
  induction n with
  | zero => intro x3 w y v h; rw [m_text_125] at h; cases h
  | succ n ih =>
    intro x3 w y v h
    rw [m_text_125] at h
    refine aw_iload_n (pc := 125) (q := 1) dX12_text_125 rfl ?_
    refine aw_bipush (pc := 126) dX12_text_126 (by decide) ⟨by decide, by decide⟩ ?_
    refine aw_icmp_ge (pc := 128) (tgt := 149) dX12_text_128 (by decide) (fun hc => ?_) (fun hc => ?_)
    · rw [if_pos hc] at h
      exact aw_sel [0] rfl (w_m_text_149 N d hd  _ _ _ h)
    · rw [if_neg hc] at h
      refine aw_aload_n (pc := 131) (q := 0) dX12_text_131 rfl ?_
      refine aw_getf (pc := 132) (v := .inr (.inr 54)) dX12_text_132 fl_RX12_37 (by decide) rfl rfl rfl ?_
      refine aw_iload_n (pc := 135) (q := 1) dX12_text_135 rfl ?_
      refine aw_aload_n (pc := 136) (q := 0) dX12_text_136 rfl ?_
      refine aw_getf (pc := 137) (v := .inr (.inr 55)) dX12_text_137 fl_RX12_40 (by decide) rfl rfl rfl ?_
      refine aw_iload_n (pc := 140) (q := 1) dX12_text_140 rfl ?_
      obtain ⟨hb, h⟩ := aw_cks h
      refine aw_ialdv (pc := 141) (v := w 55 x3.toNat) dX12_text_141 rfl hb.1 hb.2 rfl ?_
      obtain ⟨hb, h⟩ := aw_cks h
      refine aw_iast (pc := 142) dX12_text_142 rfl hb.1 hb.2 ?_
      refine aw_iinc (pc := 143) (q := 1) (ls' := [(3, .inl (aw_w (x3 + 1))), (0, .inr (.inr 49))]) dX12_text_143 rfl (by decide) rfl ?_
      refine aw_goto (pc := 146) (tgt := 125) dX12_text_146 (by decide) ?_
      exact aw_sel [1, 0] rfl (ih _ _ _ _ h)
def m_text_88 (N : Nat) (x2 : Int) (w : aw_W) : Option (Int × aw_W) :=
  if 0 ≤ (w 49 7) ∧ (w 49 7) < 4 then
    some (aw_w ((aw_w ((w 49 7) + 1)) - 1), (aw_up (aw_up w 52 ((w 49 7).toNat) x2) 49 7 (aw_w ((w 49 7) + 1))))
  else none
theorem w_m_text_88 {l : Launch} {K : aw_K} (N d : Nat) (hd : 128 ≤ d) : ∀ (x2 : Int) (w : aw_W) (y : Int) (v : aw_W), m_text_88 N x2 w = some (y, v) → aw_AW l K MX12_text (d + 1) 88 [(0, .inr (.inr 49)), (2, .inl x2)] [] w (some (.inl y), v) := by
  intro x2 w y v h
  unfold m_text_88 at h
  refine aw_aload_n (pc := 88) (q := 0) dX12_text_88 rfl ?_
  refine aw_getf (pc := 89) (v := .inr (.inr 52)) dX12_text_89 fl_RX12_16 (by decide) rfl rfl rfl ?_
  refine aw_aload_n (pc := 92) (q := 0) dX12_text_92 rfl ?_
  refine aw_getf (pc := 93) (v := .inl (w 49 7)) dX12_text_93 fl_RX12_265 (by decide) rfl rfl rfl ?_
  refine aw_iload_n (pc := 96) (q := 1) dX12_text_96 rfl ?_
  obtain ⟨hb, h⟩ := aw_cks h
  refine aw_iast (pc := 97) dX12_text_97 rfl hb.1 hb.2 ?_
  refine aw_aload_n (pc := 98) (q := 0) dX12_text_98 rfl ?_
  refine aw_dup (pc := 99) dX12_text_99 rfl ?_
  refine aw_getf (pc := 100) (v := .inl (w 49 7)) dX12_text_100 fl_RX12_265 (by decide) rfl rfl rfl ?_
  refine aw_iconst (pc := 103) dX12_text_103 ⟨by decide, by decide⟩ ?_
  refine aw_iadd (pc := 104) dX12_text_104 ?_
  refine aw_puti (pc := 105) dX12_text_105 fp_RX12_265 (by decide) rfl rfl ?_
  refine aw_aload_n (pc := 108) (q := 0) dX12_text_108 rfl ?_
  refine aw_getf (pc := 109) (v := .inl (aw_w ((w 49 7) + 1))) dX12_text_109 fl_RX12_265 (by decide) rfl rfl rfl ?_
  refine aw_iconst (pc := 112) dX12_text_112 ⟨by decide, by decide⟩ ?_
  refine aw_isub (pc := 113) dX12_text_113 ?_
  cases h
  exact aw_iret (pc := 114) rfl dX12_text_114
def m_text_56 (N : Nat) : Nat → Int → Int → aw_W → Option (Int × aw_W)
  | 0, _, _, _ => none
  | n + 1, x2, x3, w =>
    if x2 ≤ x3 then
      m_text_88 N x2 w
    else
      if 0 ≤ x3 ∧ x3 < 160 then
        if 0 ≤ (aw_w ((aw_w (160 * (w 49 7))) + x3)) ∧ (aw_w ((aw_w (160 * (w 49 7))) + x3)) < 640 then
          if -128 ≤ (w 50 x3.toNat) ∧ (w 50 x3.toNat) < 128 then
            m_text_56 N n x2 (aw_w (x3 + 1)) (aw_up w 51 ((aw_w ((aw_w (160 * (w 49 7))) + x3)).toNat) (w 50 x3.toNat))
          else none
        else none
      else none
theorem w_m_text_56 {l : Launch} {K : aw_K} (N d : Nat) (hd : 128 ≤ d) : ∀ (n : Nat) (x2 x3 : Int) (w : aw_W) (y : Int) (v : aw_W), m_text_56 N n x2 x3 w = some (y, v) → aw_AW l K MX12_text (d + 1) 56 [(0, .inr (.inr 49)), (2, .inl x2), (3, .inl x3)] [] w (some (.inl y), v) := by
  intro n
  induction n with
  | zero => intro x2 x3 w y v h; rw [m_text_56] at h; cases h
  | succ n ih =>
    intro x2 x3 w y v h
    rw [m_text_56] at h
    refine aw_iload_n (pc := 56) (q := 2) dX12_text_56 rfl ?_
    refine aw_iload_n (pc := 57) (q := 1) dX12_text_57 rfl ?_
    refine aw_icmp_ge (pc := 58) (tgt := 88) dX12_text_58 (by decide) (fun hc => ?_) (fun hc => ?_)
    · rw [if_pos hc] at h
      exact aw_sel [0, 1] rfl (w_m_text_88 N d hd  _ _ _ _ h)
    · rw [if_neg hc] at h
      refine aw_aload_n (pc := 61) (q := 0) dX12_text_61 rfl ?_
      refine aw_getf (pc := 62) (v := .inr (.inr 51)) dX12_text_62 fl_RX12_13 (by decide) rfl rfl rfl ?_
      refine aw_sipush (pc := 65) dX12_text_65 (by decide) ⟨by decide, by decide⟩ ?_
      refine aw_aload_n (pc := 68) (q := 0) dX12_text_68 rfl ?_
      refine aw_getf (pc := 69) (v := .inl (w 49 7)) dX12_text_69 fl_RX12_265 (by decide) rfl rfl rfl ?_
      refine aw_imul (pc := 72) dX12_text_72 ?_
      refine aw_iload_n (pc := 73) (q := 2) dX12_text_73 rfl ?_
      refine aw_iadd (pc := 74) dX12_text_74 ?_
      refine aw_aload_n (pc := 75) (q := 0) dX12_text_75 rfl ?_
      refine aw_getf (pc := 76) (v := .inr (.inr 50)) dX12_text_76 fl_RX12_9 (by decide) rfl rfl rfl ?_
      refine aw_iload_n (pc := 79) (q := 2) dX12_text_79 rfl ?_
      obtain ⟨hb, h⟩ := aw_cks h
      refine aw_baldv (pc := 80) (v := w 50 x3.toNat) dX12_text_80 rfl hb.1 hb.2 rfl ?_
      obtain ⟨hb, h⟩ := aw_cks h
      obtain ⟨hz, h⟩ := aw_cks h
      refine aw_bast (pc := 81) dX12_text_81 rfl hb.1 hb.2 hz.1 hz.2 ?_
      refine aw_iinc (pc := 82) (q := 2) (ls' := [(3, .inl (aw_w (x3 + 1))), (0, .inr (.inr 49)), (2, .inl x2)]) dX12_text_82 rfl (by decide) rfl ?_
      refine aw_goto (pc := 85) (tgt := 56) dX12_text_85 (by decide) ?_
      exact aw_sel [1, 2, 0] rfl (ih _ _ _ _ _ h)
def m_text_28 (N : Nat) (x1 : Int) (w : aw_W) : Option (Int × aw_W) :=
  aw_b2 (m_fault N x1 w) fun r1 w1 =>
    if r1 = (-1) then
      if x1 = 1 then
        m_text_56 N N (w1 49 6) 0 (aw_up w1 49 6 0)
      else
        m_text_125 N N 0 (aw_up (aw_up w1 49 6 0) 49 22 (w1 49 23))
    else
      m_text_37 N w1
theorem w_m_text_28 {l : Launch} {K : aw_K} (N d : Nat) (hd : 128 ≤ d) : ∀ (x1 : Int) (w : aw_W) (y : Int) (v : aw_W), m_text_28 N x1 w = some (y, v) → aw_AW l K MX12_text (d + 1) 28 [(0, .inr (.inr 49)), (1, .inl x1)] [] w (some (.inl y), v) := by
  intro x1 w y v h
  unfold m_text_28 at h
  refine aw_aload_n (pc := 28) (q := 0) dX12_text_28 rfl ?_
  refine aw_iload_n (pc := 29) (q := 1) dX12_text_29 rfl ?_
  obtain ⟨r1, w1, h1, h⟩ := aw_b2s h
  refine aw_callV (pc := 30) (as := [.inl x1]) (st := []) (st' := [.inl r1]) dX12_text_30 cv_RX12_268 (by decide) rfl rfl rfl rfl (Nat.le_of_ble_eq_true rfl) (w_m_fault N d (by omega) _ _ _ _ h1) rfl ?_
  refine aw_iconst (pc := 33) dX12_text_33 ⟨by decide, by decide⟩ ?_
  refine aw_icmp_eq (pc := 34) (tgt := 39) dX12_text_34 (by decide) (fun hc => ?_) (fun hc => ?_)
  · rw [if_pos hc] at h
    refine aw_aload_n (pc := 39) (q := 0) dX12_text_39 rfl ?_
    refine aw_getf (pc := 40) (v := .inl (w1 49 6)) dX12_text_40 fl_RX12_112 (by decide) rfl rfl rfl ?_
    refine aw_istore_n (pc := 43) (ls' := [(2, .inl (w1 49 6)), (0, .inr (.inr 49)), (1, .inl x1)]) dX12_text_43 (by decide) rfl ?_
    refine aw_aload_n (pc := 44) (q := 1) dX12_text_44 rfl ?_
    refine aw_iconst (pc := 45) dX12_text_45 ⟨by decide, by decide⟩ ?_
    refine aw_puti (pc := 46) dX12_text_46 fp_RX12_112 (by decide) rfl rfl ?_
    refine aw_iload_n (pc := 49) (q := 2) dX12_text_49 rfl ?_
    refine aw_iconst (pc := 50) dX12_text_50 ⟨by decide, by decide⟩ ?_
    refine aw_icmp_ne (pc := 51) (tgt := 115) dX12_text_51 (by decide) (fun hc => ?_) (fun hc => ?_)
    · rw [if_neg hc] at h
      refine aw_aload_n (pc := 115) (q := 1) dX12_text_115 rfl ?_
      refine aw_aload_n (pc := 116) (q := 1) dX12_text_116 rfl ?_
      refine aw_getf (pc := 117) (v := .inl (w1 49 23)) dX12_text_117 fl_RX12_234 (by decide) rfl rfl rfl ?_
      refine aw_puti (pc := 120) dX12_text_120 fp_RX12_270 (by decide) rfl rfl ?_
      refine aw_iconst (pc := 123) dX12_text_123 ⟨by decide, by decide⟩ ?_
      refine aw_istore_n (pc := 124) (ls' := [(3, .inl 0), (2, .inl (w1 49 6)), (0, .inr (.inr 49)), (1, .inl x1)]) dX12_text_124 (by decide) rfl ?_
      exact aw_sel [2, 0] rfl (w_m_text_125 N d hd  N _ _ _ _ h)
    · rw [if_pos hc] at h
      refine aw_iconst (pc := 54) dX12_text_54 ⟨by decide, by decide⟩ ?_
      refine aw_istore_n (pc := 55) (ls' := [(3, .inl 0), (2, .inl (w1 49 6)), (0, .inr (.inr 49)), (1, .inl x1)]) dX12_text_55 (by decide) rfl ?_
      exact aw_sel [2, 1, 0] rfl (w_m_text_56 N d hd  N _ _ _ _ _ h)
  · rw [if_neg hc] at h
    exact aw_sel [] rfl (w_m_text_37 N d hd  _ _ _ h)
def m_text (N : Nat) (x1 : Int) (w : aw_W) : Option (Int × aw_W) :=
  aw_b2 (m_isIn N x1 0 1 (aw_up w 49 0 0)) fun r1 w1 =>
    if r1 = 0 then
      m_text_37 N w1
    else
      if x1 = 1 then
        if (w1 49 7) = 4 then
          m_text_37 N w1
        else
          m_text_28 N x1 w1
      else
        m_text_28 N x1 w1
theorem w_m_text_d {l : Launch} {K : aw_K} (N d : Nat) (hd : 128 ≤ d) : ∀ (x1 : Int) (w : aw_W) (y : Int) (v : aw_W), m_text N x1 w = some (y, v) → aw_Met l K MX12_text (d + 1) [.inr (.inr 49), .inl x1] w (some (.inl y), v) := by
  intro x1 w y v h
  unfold m_text at h
  refine aw_enter rfl (Nat.le_of_ble_eq_true rfl) ?_
  show aw_AW l K MX12_text (d + 1) 0 [(0, .inr (.inr 49)), (1, .inl x1)] [] w (some (.inl y), v)
  refine aw_aload_n (pc := 0) (q := 0) dX12_text_0 rfl ?_
  refine aw_iconst (pc := 1) dX12_text_1 ⟨by decide, by decide⟩ ?_
  refine aw_puti (pc := 2) dX12_text_2 fp_RX12_99 (by decide) rfl rfl ?_
  refine aw_iload_n (pc := 5) (q := 1) dX12_text_5 rfl ?_
  refine aw_i2l (pc := 6) dX12_text_6 ?_
  refine aw_lconst (pc := 7) (x := 0) dX12_text_7 (by decide) ⟨by decide, by decide⟩ ?_
  refine aw_lconst (pc := 8) (x := 1) dX12_text_8 (by decide) ⟨by decide, by decide⟩ ?_
  obtain ⟨r1, w1, h1, h⟩ := aw_b2s h
  refine aw_callS (pc := 9) (as := [.inr (.inl x1), .inr (.inl 0), .inr (.inl 1)]) (st := []) (st' := [.inl r1]) dX12_text_9 cs_RX12_227 rfl rfl (Nat.le_of_ble_eq_true rfl) (w_m_isIn N d (by omega) _ _ _ _ _ _ h1) rfl ?_
  refine aw_if_eq (pc := 12) (tgt := 37) dX12_text_12 (by decide) (fun hc => ?_) (fun hc => ?_)
  · rw [if_pos hc] at h
    exact aw_sel [] rfl (w_m_text_37 N d hd  _ _ _ h)
  · rw [if_neg hc] at h
    refine aw_iload_n (pc := 15) (q := 1) dX12_text_15 rfl ?_
    refine aw_iconst (pc := 16) dX12_text_16 ⟨by decide, by decide⟩ ?_
    refine aw_icmp_ne (pc := 17) (tgt := 28) dX12_text_17 (by decide) (fun hc => ?_) (fun hc => ?_)
    · rw [if_neg hc] at h
      exact aw_sel [0, 1] rfl (w_m_text_28 N d hd  _ _ _ _ h)
    · rw [if_pos hc] at h
      refine aw_aload_n (pc := 20) (q := 0) dX12_text_20 rfl ?_
      refine aw_getf (pc := 21) (v := .inl (w1 49 7)) dX12_text_21 fl_RX12_265 (by decide) rfl rfl rfl ?_
      refine aw_iconst (pc := 24) dX12_text_24 ⟨by decide, by decide⟩ ?_
      refine aw_icmp_eq (pc := 25) (tgt := 37) dX12_text_25 (by decide) (fun hc => ?_) (fun hc => ?_)
      · rw [if_pos hc] at h
        exact aw_sel [] rfl (w_m_text_37 N d hd  _ _ _ h)
      · rw [if_neg hc] at h
        exact aw_sel [0, 1] rfl (w_m_text_28 N d hd  _ _ _ _ h)
theorem w_m_text {l : Launch} {K : aw_K} (N d : Nat) (hd : 129 ≤ d) : ∀ (x1 : Int) (w : aw_W) (y : Int) (v : aw_W), m_text N x1 w = some (y, v) → aw_Met l K MX12_text (d) [.inr (.inr 49), .inl x1] w (some (.inl y), v) := by
  obtain ⟨e, rfl⟩ : ∃ e, d = e + 1 := ⟨d - 1, by omega⟩
  exact w_m_text_d N e (by omega)
theorem dX12_thrown_0 : decode cX12_thrown 0 = .ok (.aload_n 0, 1) := by decide +kernel
theorem dX12_thrown_1 : decode cX12_thrown 1 = .ok (.getfield 99, 3) := by decide +kernel
theorem dX12_thrown_4 : decode cX12_thrown 4 = .ok (.ireturn, 1) := by decide +kernel
def m_thrown (N : Nat) (w : aw_W) : Option (Int × aw_W) :=
  some (w 49 0, w)
theorem w_m_thrown {l : Launch} {K : aw_K} (N d : Nat) (hd : 0 ≤ d) : ∀ (w : aw_W) (y : Int) (v : aw_W), m_thrown N w = some (y, v) → aw_Met l K MX12_thrown (d) [.inr (.inr 49)] w (some (.inl y), v) := by
  intro w y v h
  unfold m_thrown at h
  refine aw_enter rfl (Nat.le_of_ble_eq_true rfl) ?_
  show aw_AW l K MX12_thrown (d) 0 [(0, .inr (.inr 49))] [] w (some (.inl y), v)
  refine aw_aload_n (pc := 0) (q := 0) dX12_thrown_0 rfl ?_
  refine aw_getf (pc := 1) (v := .inl (w 49 0)) dX12_thrown_1 fl_RX12_99 (by decide) rfl rfl rfl ?_
  cases h
  exact aw_iret (pc := 4) rfl dX12_thrown_4
