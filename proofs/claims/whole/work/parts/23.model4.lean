theorem dZM_readRow_0 : decode cZM_readRow 0 = .ok (.aload_n 0, 1) := by decide +kernel
theorem dZM_readRow_1 : decode cZM_readRow 1 = .ok (.getfield 135, 3) := by decide +kernel
theorem dZM_readRow_4 : decode cZM_readRow 4 = .ok (.iload_n 2, 1) := by decide +kernel
theorem dZM_readRow_5 : decode cZM_readRow 5 = .ok (.if_icmp .lt 5, 3) := by decide +kernel
theorem dZM_readRow_8 : decode cZM_readRow 8 = .ok (.iconst 0, 1) := by decide +kernel
theorem dZM_readRow_9 : decode cZM_readRow 9 = .ok (.ireturn, 1) := by decide +kernel
theorem dZM_readRow_10 : decode cZM_readRow 10 = .ok (.aload_n 0, 1) := by decide +kernel
theorem dZM_readRow_11 : decode cZM_readRow 11 = .ok (.getfield 16, 3) := by decide +kernel
theorem dZM_readRow_14 : decode cZM_readRow 14 = .ok (.aload_n 0, 1) := by decide +kernel
theorem dZM_readRow_15 : decode cZM_readRow 15 = .ok (.getfield 135, 3) := by decide +kernel
theorem dZM_readRow_18 : decode cZM_readRow 18 = .ok (.iaload, 1) := by decide +kernel
theorem dZM_readRow_19 : decode cZM_readRow 19 = .ok (.istore_n 3, 1) := by decide +kernel
theorem dZM_readRow_20 : decode cZM_readRow 20 = .ok (.aload_n 0, 1) := by decide +kernel
theorem dZM_readRow_21 : decode cZM_readRow 21 = .ok (.dup, 1) := by decide +kernel
theorem dZM_readRow_22 : decode cZM_readRow 22 = .ok (.getfield 135, 3) := by decide +kernel
theorem dZM_readRow_25 : decode cZM_readRow 25 = .ok (.iconst 1, 1) := by decide +kernel
theorem dZM_readRow_26 : decode cZM_readRow 26 = .ok (.iadd, 1) := by decide +kernel
theorem dZM_readRow_27 : decode cZM_readRow 27 = .ok (.putfield 135, 3) := by decide +kernel
theorem dZM_readRow_30 : decode cZM_readRow 30 = .ok (.iload_n 3, 1) := by decide +kernel
theorem dZM_readRow_31 : decode cZM_readRow 31 = .ok (.aload_n 0, 1) := by decide +kernel
theorem dZM_readRow_32 : decode cZM_readRow 32 = .ok (.getfield 138, 3) := by decide +kernel
theorem dZM_readRow_35 : decode cZM_readRow 35 = .ok (.imul, 1) := by decide +kernel
theorem dZM_readRow_36 : decode cZM_readRow 36 = .ok (.bipush 7, 2) := by decide +kernel
theorem dZM_readRow_38 : decode cZM_readRow 38 = .ok (.iadd, 1) := by decide +kernel
theorem dZM_readRow_39 : decode cZM_readRow 39 = .ok (.bipush 8, 2) := by decide +kernel
theorem dZM_readRow_41 : decode cZM_readRow 41 = .ok (.idiv, 1) := by decide +kernel
theorem dZM_readRow_42 : decode cZM_readRow 42 = .ok (.istore 4, 2) := by decide +kernel
theorem dZM_readRow_44 : decode cZM_readRow 44 = .ok (.iload_n 3, 1) := by decide +kernel
theorem dZM_readRow_45 : decode cZM_readRow 45 = .ok (.bipush 9, 2) := by decide +kernel
theorem dZM_readRow_47 : decode cZM_readRow 47 = .ok (.if_icmp .gt 14, 3) := by decide +kernel
theorem dZM_readRow_50 : decode cZM_readRow 50 = .ok (.aload_n 0, 1) := by decide +kernel
theorem dZM_readRow_51 : decode cZM_readRow 51 = .ok (.getfield 135, 3) := by decide +kernel
theorem dZM_readRow_54 : decode cZM_readRow 54 = .ok (.iload 4, 2) := by decide +kernel
theorem dZM_readRow_56 : decode cZM_readRow 56 = .ok (.iadd, 1) := by decide +kernel
theorem dZM_readRow_57 : decode cZM_readRow 57 = .ok (.iload_n 2, 1) := by decide +kernel
theorem dZM_readRow_58 : decode cZM_readRow 58 = .ok (.if_icmp .le 5, 3) := by decide +kernel
theorem dZM_readRow_61 : decode cZM_readRow 61 = .ok (.iconst 0, 1) := by decide +kernel
theorem dZM_readRow_62 : decode cZM_readRow 62 = .ok (.ireturn, 1) := by decide +kernel
theorem dZM_readRow_63 : decode cZM_readRow 63 = .ok (.iconst 1, 1) := by decide +kernel
theorem dZM_readRow_64 : decode cZM_readRow 64 = .ok (.istore 5, 2) := by decide +kernel
theorem dZM_readRow_66 : decode cZM_readRow 66 = .ok (.iconst 0, 1) := by decide +kernel
theorem dZM_readRow_67 : decode cZM_readRow 67 = .ok (.istore 6, 2) := by decide +kernel
theorem dZM_readRow_69 : decode cZM_readRow 69 = .ok (.iload 6, 2) := by decide +kernel
theorem dZM_readRow_71 : decode cZM_readRow 71 = .ok (.aload_n 0, 1) := by decide +kernel
theorem dZM_readRow_72 : decode cZM_readRow 72 = .ok (.getfield 138, 3) := by decide +kernel
theorem dZM_readRow_75 : decode cZM_readRow 75 = .ok (.if_icmp .ge 153, 3) := by decide +kernel
theorem dZM_readRow_78 : decode cZM_readRow 78 = .ok (.iconst 0, 1) := by decide +kernel
theorem dZM_readRow_79 : decode cZM_readRow 79 = .ok (.istore 7, 2) := by decide +kernel
theorem dZM_readRow_81 : decode cZM_readRow 81 = .ok (.iconst 0, 1) := by decide +kernel
theorem dZM_readRow_82 : decode cZM_readRow 82 = .ok (.istore 8, 2) := by decide +kernel
theorem dZM_readRow_84 : decode cZM_readRow 84 = .ok (.iload 8, 2) := by decide +kernel
theorem dZM_readRow_86 : decode cZM_readRow 86 = .ok (.iload_n 3, 1) := by decide +kernel
theorem dZM_readRow_87 : decode cZM_readRow 87 = .ok (.if_icmp .ge 28, 3) := by decide +kernel
theorem dZM_readRow_90 : decode cZM_readRow 90 = .ok (.iload 7, 2) := by decide +kernel
theorem dZM_readRow_92 : decode cZM_readRow 92 = .ok (.aload_n 0, 1) := by decide +kernel
theorem dZM_readRow_93 : decode cZM_readRow 93 = .ok (.iload_n 3, 1) := by decide +kernel
theorem dZM_readRow_94 : decode cZM_readRow 94 = .ok (.iload 6, 2) := by decide +kernel
theorem dZM_readRow_96 : decode cZM_readRow 96 = .ok (.imul, 1) := by decide +kernel
theorem dZM_readRow_97 : decode cZM_readRow 97 = .ok (.iload 8, 2) := by decide +kernel
theorem dZM_readRow_99 : decode cZM_readRow 99 = .ok (.iadd, 1) := by decide +kernel
theorem dZM_readRow_100 : decode cZM_readRow 100 = .ok (.invokevirtual 141, 3) := by decide +kernel
theorem dZM_readRow_103 : decode cZM_readRow 103 = .ok (.iload 8, 2) := by decide +kernel
theorem dZM_readRow_105 : decode cZM_readRow 105 = .ok (.ishl, 1) := by decide +kernel
theorem dZM_readRow_106 : decode cZM_readRow 106 = .ok (.ior, 1) := by decide +kernel
theorem dZM_readRow_107 : decode cZM_readRow 107 = .ok (.istore 7, 2) := by decide +kernel
theorem dZM_readRow_109 : decode cZM_readRow 109 = .ok (.iinc 8 1, 3) := by decide +kernel
theorem dZM_readRow_112 : decode cZM_readRow 112 = .ok (.goto (-28), 3) := by decide +kernel
theorem dZM_readRow_115 : decode cZM_readRow 115 = .ok (.iload_n 1, 1) := by decide +kernel
theorem dZM_readRow_116 : decode cZM_readRow 116 = .ok (.aload_n 0, 1) := by decide +kernel
theorem dZM_readRow_117 : decode cZM_readRow 117 = .ok (.getfield 138, 3) := by decide +kernel
theorem dZM_readRow_120 : decode cZM_readRow 120 = .ok (.imul, 1) := by decide +kernel
theorem dZM_readRow_121 : decode cZM_readRow 121 = .ok (.iload 6, 2) := by decide +kernel
theorem dZM_readRow_123 : decode cZM_readRow 123 = .ok (.iadd, 1) := by decide +kernel
theorem dZM_readRow_124 : decode cZM_readRow 124 = .ok (.istore 8, 2) := by decide +kernel
theorem dZM_readRow_126 : decode cZM_readRow 126 = .ok (.iload 8, 2) := by decide +kernel
theorem dZM_readRow_128 : decode cZM_readRow 128 = .ok (.ifCond .ne 7, 3) := by decide +kernel
theorem dZM_readRow_131 : decode cZM_readRow 131 = .ok (.iconst 0, 1) := by decide +kernel
theorem dZM_readRow_132 : decode cZM_readRow 132 = .ok (.goto 32, 3) := by decide +kernel
theorem dZM_readRow_135 : decode cZM_readRow 135 = .ok (.iload 6, 2) := by decide +kernel
theorem dZM_readRow_137 : decode cZM_readRow 137 = .ok (.ifCond .ne 18, 3) := by decide +kernel
theorem dZM_readRow_140 : decode cZM_readRow 140 = .ok (.aload_n 0, 1) := by decide +kernel
theorem dZM_readRow_141 : decode cZM_readRow 141 = .ok (.getfield 22, 3) := by decide +kernel
theorem dZM_readRow_144 : decode cZM_readRow 144 = .ok (.iload 8, 2) := by decide +kernel
theorem dZM_readRow_146 : decode cZM_readRow 146 = .ok (.aload_n 0, 1) := by decide +kernel
theorem dZM_readRow_147 : decode cZM_readRow 147 = .ok (.getfield 138, 3) := by decide +kernel
theorem dZM_readRow_150 : decode cZM_readRow 150 = .ok (.isub, 1) := by decide +kernel
theorem dZM_readRow_151 : decode cZM_readRow 151 = .ok (.iaload, 1) := by decide +kernel
theorem dZM_readRow_152 : decode cZM_readRow 152 = .ok (.goto 12, 3) := by decide +kernel
theorem dZM_readRow_155 : decode cZM_readRow 155 = .ok (.aload_n 0, 1) := by decide +kernel
theorem dZM_readRow_156 : decode cZM_readRow 156 = .ok (.getfield 22, 3) := by decide +kernel
theorem dZM_readRow_159 : decode cZM_readRow 159 = .ok (.iload 8, 2) := by decide +kernel
theorem dZM_readRow_161 : decode cZM_readRow 161 = .ok (.iconst 1, 1) := by decide +kernel
theorem dZM_readRow_162 : decode cZM_readRow 162 = .ok (.isub, 1) := by decide +kernel
theorem dZM_readRow_163 : decode cZM_readRow 163 = .ok (.iaload, 1) := by decide +kernel
theorem dZM_readRow_164 : decode cZM_readRow 164 = .ok (.istore 9, 2) := by decide +kernel
theorem dZM_readRow_166 : decode cZM_readRow 166 = .ok (.aload_n 0, 1) := by decide +kernel
theorem dZM_readRow_167 : decode cZM_readRow 167 = .ok (.getfield 22, 3) := by decide +kernel
theorem dZM_readRow_170 : decode cZM_readRow 170 = .ok (.iload 8, 2) := by decide +kernel
theorem dZM_readRow_172 : decode cZM_readRow 172 = .ok (.iload 9, 2) := by decide +kernel
theorem dZM_readRow_174 : decode cZM_readRow 174 = .ok (.iload 7, 2) := by decide +kernel
theorem dZM_readRow_176 : decode cZM_readRow 176 = .ok (.iconst 2, 1) := by decide +kernel
theorem dZM_readRow_177 : decode cZM_readRow 177 = .ok (.irem, 1) := by decide +kernel
theorem dZM_readRow_178 : decode cZM_readRow 178 = .ok (.ifCond .ne 10, 3) := by decide +kernel
theorem dZM_readRow_181 : decode cZM_readRow 181 = .ok (.iload 7, 2) := by decide +kernel
theorem dZM_readRow_183 : decode cZM_readRow 183 = .ok (.iconst 2, 1) := by decide +kernel
theorem dZM_readRow_184 : decode cZM_readRow 184 = .ok (.idiv, 1) := by decide +kernel
theorem dZM_readRow_185 : decode cZM_readRow 185 = .ok (.goto 10, 3) := by decide +kernel
theorem dZM_readRow_188 : decode cZM_readRow 188 = .ok (.iload 7, 2) := by decide +kernel
theorem dZM_readRow_190 : decode cZM_readRow 190 = .ok (.iconst 1, 1) := by decide +kernel
theorem dZM_readRow_191 : decode cZM_readRow 191 = .ok (.iadd, 1) := by decide +kernel
theorem dZM_readRow_192 : decode cZM_readRow 192 = .ok (.ineg, 1) := by decide +kernel
theorem dZM_readRow_193 : decode cZM_readRow 193 = .ok (.iconst 2, 1) := by decide +kernel
theorem dZM_readRow_194 : decode cZM_readRow 194 = .ok (.idiv, 1) := by decide +kernel
theorem dZM_readRow_195 : decode cZM_readRow 195 = .ok (.iadd, 1) := by decide +kernel
theorem dZM_readRow_196 : decode cZM_readRow 196 = .ok (.iastore, 1) := by decide +kernel
theorem dZM_readRow_197 : decode cZM_readRow 197 = .ok (.iload 5, 2) := by decide +kernel
theorem dZM_readRow_199 : decode cZM_readRow 199 = .ok (.ifCond .eq 20, 3) := by decide +kernel
theorem dZM_readRow_202 : decode cZM_readRow 202 = .ok (.aload_n 0, 1) := by decide +kernel
theorem dZM_readRow_203 : decode cZM_readRow 203 = .ok (.getfield 22, 3) := by decide +kernel
theorem dZM_readRow_206 : decode cZM_readRow 206 = .ok (.iload 8, 2) := by decide +kernel
theorem dZM_readRow_208 : decode cZM_readRow 208 = .ok (.iaload, 1) := by decide +kernel
theorem dZM_readRow_209 : decode cZM_readRow 209 = .ok (.invokestatic 56, 3) := by decide +kernel
theorem dZM_readRow_212 : decode cZM_readRow 212 = .ok (.ifCond .eq 7, 3) := by decide +kernel
theorem dZM_readRow_215 : decode cZM_readRow 215 = .ok (.iconst 1, 1) := by decide +kernel
theorem dZM_readRow_216 : decode cZM_readRow 216 = .ok (.goto 4, 3) := by decide +kernel
theorem dZM_readRow_219 : decode cZM_readRow 219 = .ok (.iconst 0, 1) := by decide +kernel
theorem dZM_readRow_220 : decode cZM_readRow 220 = .ok (.istore 5, 2) := by decide +kernel
theorem dZM_readRow_222 : decode cZM_readRow 222 = .ok (.iinc 6 1, 3) := by decide +kernel
theorem dZM_readRow_225 : decode cZM_readRow 225 = .ok (.goto (-156), 3) := by decide +kernel
theorem dZM_readRow_228 : decode cZM_readRow 228 = .ok (.iload_n 3, 1) := by decide +kernel
theorem dZM_readRow_229 : decode cZM_readRow 229 = .ok (.aload_n 0, 1) := by decide +kernel
theorem dZM_readRow_230 : decode cZM_readRow 230 = .ok (.getfield 138, 3) := by decide +kernel
theorem dZM_readRow_233 : decode cZM_readRow 233 = .ok (.imul, 1) := by decide +kernel
theorem dZM_readRow_234 : decode cZM_readRow 234 = .ok (.istore 6, 2) := by decide +kernel
theorem dZM_readRow_236 : decode cZM_readRow 236 = .ok (.iload 6, 2) := by decide +kernel
theorem dZM_readRow_238 : decode cZM_readRow 238 = .ok (.bipush 8, 2) := by decide +kernel
theorem dZM_readRow_240 : decode cZM_readRow 240 = .ok (.iload 4, 2) := by decide +kernel
theorem dZM_readRow_242 : decode cZM_readRow 242 = .ok (.imul, 1) := by decide +kernel
theorem dZM_readRow_243 : decode cZM_readRow 243 = .ok (.if_icmp .ge 30, 3) := by decide +kernel
theorem dZM_readRow_246 : decode cZM_readRow 246 = .ok (.iload 5, 2) := by decide +kernel
theorem dZM_readRow_248 : decode cZM_readRow 248 = .ok (.ifCond .eq 16, 3) := by decide +kernel
theorem dZM_readRow_251 : decode cZM_readRow 251 = .ok (.aload_n 0, 1) := by decide +kernel
theorem dZM_readRow_252 : decode cZM_readRow 252 = .ok (.iload 6, 2) := by decide +kernel
theorem dZM_readRow_254 : decode cZM_readRow 254 = .ok (.invokevirtual 141, 3) := by decide +kernel
theorem dZM_readRow_257 : decode cZM_readRow 257 = .ok (.ifCond .ne 7, 3) := by decide +kernel
theorem dZM_readRow_260 : decode cZM_readRow 260 = .ok (.iconst 1, 1) := by decide +kernel
theorem dZM_readRow_261 : decode cZM_readRow 261 = .ok (.goto 4, 3) := by decide +kernel
theorem dZM_readRow_264 : decode cZM_readRow 264 = .ok (.iconst 0, 1) := by decide +kernel
theorem dZM_readRow_265 : decode cZM_readRow 265 = .ok (.istore 5, 2) := by decide +kernel
theorem dZM_readRow_267 : decode cZM_readRow 267 = .ok (.iinc 6 1, 3) := by decide +kernel
theorem dZM_readRow_270 : decode cZM_readRow 270 = .ok (.goto (-34), 3) := by decide +kernel
theorem dZM_readRow_273 : decode cZM_readRow 273 = .ok (.aload_n 0, 1) := by decide +kernel
theorem dZM_readRow_274 : decode cZM_readRow 274 = .ok (.dup, 1) := by decide +kernel
theorem dZM_readRow_275 : decode cZM_readRow 275 = .ok (.getfield 135, 3) := by decide +kernel
theorem dZM_readRow_278 : decode cZM_readRow 278 = .ok (.iload 4, 2) := by decide +kernel
theorem dZM_readRow_280 : decode cZM_readRow 280 = .ok (.iadd, 1) := by decide +kernel
theorem dZM_readRow_281 : decode cZM_readRow 281 = .ok (.putfield 135, 3) := by decide +kernel
theorem dZM_readRow_284 : decode cZM_readRow 284 = .ok (.iload 5, 2) := by decide +kernel
theorem dZM_readRow_286 : decode cZM_readRow 286 = .ok (.ifCond .eq 23, 3) := by decide +kernel
theorem dZM_readRow_289 : decode cZM_readRow 289 = .ok (.aload_n 0, 1) := by decide +kernel
theorem dZM_readRow_290 : decode cZM_readRow 290 = .ok (.getfield 22, 3) := by decide +kernel
theorem dZM_readRow_293 : decode cZM_readRow 293 = .ok (.iload_n 1, 1) := by decide +kernel
theorem dZM_readRow_294 : decode cZM_readRow 294 = .ok (.aload_n 0, 1) := by decide +kernel
theorem dZM_readRow_295 : decode cZM_readRow 295 = .ok (.getfield 138, 3) := by decide +kernel
theorem dZM_readRow_298 : decode cZM_readRow 298 = .ok (.invokestatic 129, 3) := by decide +kernel
theorem dZM_readRow_301 : decode cZM_readRow 301 = .ok (.iload_n 3, 1) := by decide +kernel
theorem dZM_readRow_302 : decode cZM_readRow 302 = .ok (.if_icmp .ne 7, 3) := by decide +kernel
theorem dZM_readRow_305 : decode cZM_readRow 305 = .ok (.iconst 1, 1) := by decide +kernel
theorem dZM_readRow_306 : decode cZM_readRow 306 = .ok (.goto 4, 3) := by decide +kernel
theorem dZM_readRow_309 : decode cZM_readRow 309 = .ok (.iconst 0, 1) := by decide +kernel
theorem dZM_readRow_310 : decode cZM_readRow 310 = .ok (.ireturn, 1) := by decide +kernel
abbrev wsZM_readRow : List Cond := .code yZM_readRow cZM_readRow 10 (some .boolean) :: tbg
def lp_ZM_readRow_84 (zt : Int32) (zw : Int32) (zh : Int32) (zp : Nat → Int32) (zs : Nat → Int32) (zb : Nat → Int32) (zz : Int32) (zl : Nat → Int32) (zo : Nat → Int32) (zc : Int32) (zr : Int32) (zu : Int32) (zv : Int32) (zq : Int32) (zi : Int32) (zk : Nat → Int32) (zm : Nat → Int32) (zd : Int32) (zg : Nat → Int32) (a1 : Int32) (a2 : Int32) (x5_69 : Int32) (x6_69 : Int32) (f_69_ozo : Nat → Int32) (post : Int32 → (Nat → Int32) → Int32 → Prop) (K84 : Int32 → Int32 → Prop) (n : Nat) : Int32 → Int32 → Prop := Nat.rec (motive := fun _ => Int32 → Int32 → Prop) (fun (x7_84 : Int32) (x8_84 : Int32) => False) (fun _ ih84 (x7_84 : Int32) (x8_84 : Int32) => (((zb zq.toNatClampNeg) ≤ x8_84 → (K84 x7_84 x8_84)) ∧ (¬ (zb zq.toNatClampNeg) ≤ x8_84 → (wp_ZM_bitAt zt zw zh zp zs zb zz zl f_69_ozo zc zr zu zv (zq + (1 : Int32)) zi zk zm zd zg (((zb zq.toNatClampNeg) * x6_69) + x8_84) (fun r_7 : Int32 => ih84 (x7_84 ||| (r_7 <<< (x8_84 &&& 31))) (x8_84 + (1 : Int32))))))) n
def lp_ZM_readRow_69 (zt : Int32) (zw : Int32) (zh : Int32) (zp : Nat → Int32) (zs : Nat → Int32) (zb : Nat → Int32) (zz : Int32) (zl : Nat → Int32) (zo : Nat → Int32) (zc : Int32) (zr : Int32) (zu : Int32) (zv : Int32) (zq : Int32) (zi : Int32) (zk : Nat → Int32) (zm : Nat → Int32) (zd : Int32) (zg : Nat → Int32) (a1 : Int32) (a2 : Int32) (post : Int32 → (Nat → Int32) → Int32 → Prop) (K69 : Int32 → Int32 → (Nat → Int32) → Prop) (n : Nat) : Int32 → Int32 → (Nat → Int32) → Prop := Nat.rec (motive := fun _ => Int32 → Int32 → (Nat → Int32) → Prop) (fun (x5_69 : Int32) (x6_69 : Int32) (f_69_ozo : Nat → Int32) => False) (fun _ ih69 (x5_69 : Int32) (x6_69 : Int32) (f_69_ozo : Nat → Int32) => ((zc ≤ x6_69 → (K69 x5_69 x6_69 f_69_ozo)) ∧ (¬ zc ≤ x6_69 → (∃ n : Nat, lp_ZM_readRow_84 zt zw zh zp zs zb zz zl zo zc zr zu zv zq zi zk zm zd zg a1 a2 x5_69 x6_69 f_69_ozo post (fun (x7_84e : Int32) (x8_84e : Int32) => ∃ J164 : Int32 → Prop, (∀ (t0_j164 : Int32), J164 t0_j164 → ∃ J195 : Int32 → Prop, (∀ (t0_j195 : Int32), J195 t0_j195 → vp_in ((a1 * zc) + x6_69) 64 ∧ (((x5_69 = (0 : Int32) → (ih69 (0 : Int32) (x6_69 + (1 : Int32)) (upd f_69_ozo ((a1 * zc) + x6_69).toNatClampNeg (t0_j164 + t0_j195)))) ∧ (¬ x5_69 = (0 : Int32) → (vp_in ((a1 * zc) + x6_69) 64 ∧ (wp_ZM_isByte ((upd f_69_ozo ((a1 * zc) + x6_69).toNatClampNeg (t0_j164 + t0_j195)) ((a1 * zc) + x6_69).toNatClampNeg) (fun r_11 : Int32 => ((r_11 = (0 : Int32) → (ih69 (0 : Int32) (x6_69 + (1 : Int32)) (upd f_69_ozo ((a1 * zc) + x6_69).toNatClampNeg (t0_j164 + t0_j195)))) ∧ (¬ r_11 = (0 : Int32) → (ih69 (1 : Int32) (x6_69 + (1 : Int32)) (upd f_69_ozo ((a1 * zc) + x6_69).toNatClampNeg (t0_j164 + t0_j195)))))))))))) ∧ ((((x7_84e - x7_84e / (2 : Int32) * (2 : Int32)) = (0 : Int32) → (J195 (x7_84e / (2 : Int32)))) ∧ (¬ (x7_84e - x7_84e / (2 : Int32) * (2 : Int32)) = (0 : Int32) → (J195 ((-(x7_84e + (1 : Int32))) / (2 : Int32))))))) ∧ (((((a1 * zc) + x6_69) = (0 : Int32) → (J164 (0 : Int32))) ∧ (¬ ((a1 * zc) + x6_69) = (0 : Int32) → ((x6_69 = (0 : Int32) → (vp_in (((a1 * zc) + x6_69) - zc) 64 ∧ (J164 (f_69_ozo (((a1 * zc) + x6_69) - zc).toNatClampNeg)))) ∧ (¬ x6_69 = (0 : Int32) → (vp_in (((a1 * zc) + x6_69) - (1 : Int32)) 64 ∧ (J164 (f_69_ozo (((a1 * zc) + x6_69) - (1 : Int32)).toNatClampNeg))))))))) n (0 : Int32) (0 : Int32))))) n
def lp_ZM_readRow_236 (zt : Int32) (zw : Int32) (zh : Int32) (zp : Nat → Int32) (zs : Nat → Int32) (zb : Nat → Int32) (zz : Int32) (zl : Nat → Int32) (zo : Nat → Int32) (zc : Int32) (zr : Int32) (zu : Int32) (zv : Int32) (zq : Int32) (zi : Int32) (zk : Nat → Int32) (zm : Nat → Int32) (zd : Int32) (zg : Nat → Int32) (a1 : Int32) (a2 : Int32) (x5_69e : Int32) (x6_69e : Int32) (f_69e_ozo : Nat → Int32) (post : Int32 → (Nat → Int32) → Int32 → Prop) (K236 : Int32 → Int32 → Prop) (n : Nat) : Int32 → Int32 → Prop := Nat.rec (motive := fun _ => Int32 → Int32 → Prop) (fun (x5_236 : Int32) (x6_236 : Int32) => False) (fun _ ih236 (x5_236 : Int32) (x6_236 : Int32) => ((((8 : Int32) * ((((zb zq.toNatClampNeg) * zc) + (7 : Int32)) / (8 : Int32))) ≤ x6_236 → (K236 x5_236 x6_236)) ∧ (¬ ((8 : Int32) * ((((zb zq.toNatClampNeg) * zc) + (7 : Int32)) / (8 : Int32))) ≤ x6_236 → ((x5_236 = (0 : Int32) → (ih236 (0 : Int32) (x6_236 + (1 : Int32)))) ∧ (¬ x5_236 = (0 : Int32) → (wp_ZM_bitAt zt zw zh zp zs zb zz zl f_69e_ozo zc zr zu zv (zq + (1 : Int32)) zi zk zm zd zg x6_236 (fun r_20 : Int32 => ((r_20 = (0 : Int32) → (ih236 (1 : Int32) (x6_236 + (1 : Int32)))) ∧ (¬ r_20 = (0 : Int32) → (ih236 (0 : Int32) (x6_236 + (1 : Int32)))))))))))) n
def wp_ZM_readRow (zt : Int32) (zw : Int32) (zh : Int32) (zp : Nat → Int32) (zs : Nat → Int32) (zb : Nat → Int32) (zz : Int32) (zl : Nat → Int32) (zo : Nat → Int32) (zc : Int32) (zr : Int32) (zu : Int32) (zv : Int32) (zq : Int32) (zi : Int32) (zk : Nat → Int32) (zm : Nat → Int32) (zd : Int32) (zg : Nat → Int32) (a1 : Int32) (a2 : Int32) (post : Int32 → (Nat → Int32) → Int32 → Prop) : Prop := ((zq < a2 → (vp_in zq 256 ∧ ((((9 : Int32) < (zb zq.toNatClampNeg) → (post (0 : Int32) zo (zq + (1 : Int32)))) ∧ (¬ (9 : Int32) < (zb zq.toNatClampNeg) → ((((zq + (1 : Int32)) + ((((zb zq.toNatClampNeg) * zc) + (7 : Int32)) / (8 : Int32))) ≤ a2 → (∃ n : Nat, lp_ZM_readRow_69 zt zw zh zp zs zb zz zl zo zc zr zu zv zq zi zk zm zd zg a1 a2 post (fun (x5_69e : Int32) (x6_69e : Int32) (f_69e_ozo : Nat → Int32) => ∃ n : Nat, lp_ZM_readRow_236 zt zw zh zp zs zb zz zl zo zc zr zu zv zq zi zk zm zd zg a1 a2 x5_69e x6_69e f_69e_ozo post (fun (x5_236e : Int32) (x6_236e : Int32) => ((x5_236e = (0 : Int32) → (post (0 : Int32) f_69e_ozo ((zq + (1 : Int32)) + ((((zb zq.toNatClampNeg) * zc) + (7 : Int32)) / (8 : Int32))))) ∧ (¬ x5_236e = (0 : Int32) → (wp_ZM_rowBits 64 f_69e_ozo a1 zc (fun r_23 : Int32 => ((r_23 = (zb zq.toNatClampNeg) → (post (1 : Int32) f_69e_ozo ((zq + (1 : Int32)) + ((((zb zq.toNatClampNeg) * zc) + (7 : Int32)) / (8 : Int32))))) ∧ (¬ r_23 = (zb zq.toNatClampNeg) → (post (0 : Int32) f_69e_ozo ((zq + (1 : Int32)) + ((((zb zq.toNatClampNeg) * zc) + (7 : Int32)) / (8 : Int32))))))))))) n x5_69e ((zb zq.toNatClampNeg) * zc)) n (1 : Int32) (0 : Int32) zo)) ∧ (¬ ((zq + (1 : Int32)) + ((((zb zq.toNatClampNeg) * zc) + (7 : Int32)) / (8 : Int32))) ≤ a2 → (post (0 : Int32) zo (zq + (1 : Int32)))))))))) ∧ (¬ zq < a2 → (post (0 : Int32) zo zq)))
abbrev rm_ZM_readRow : Room := { frames := 2, cells := 0, slots := 0, locals := 49 }
set_option maxHeartbeats 4000000 in
set_option maxRecDepth 100000 in
theorem kt_ZM_readRow (l : Launch) (dC : Nat → ClassId) (dI : Nat → Nat → Nat) (cI : ClassId) (om ozp ozs ozb ozl ozo ozk ozm ozg : Nat) (sz : Nat) (zt : Int32) (zw : Int32) (zh : Int32) (zp : Nat → Int32) (zs : Nat → Int32) (zb : Nat → Int32) (zz : Int32) (zl : Nat → Int32) (zo : Nat → Int32) (zc : Int32) (zr : Int32) (zu : Int32) (zv : Int32) (zq : Int32) (zi : Int32) (zk : Nat → Int32) (zm : Nat → Int32) (zd : Int32) (zg : Nat → Int32) (a1 : Int32) (a2 : Int32) (post : Int32 → (Nat → Int32) → Int32 → Prop) (hw : wp_ZM_readRow zt zw zh zp zs zb zz zl zo zc zr zu zv zq zi zk zm zd zg a1 a2 post) : Met l yZM_readRow wsZM_readRow rm_ZM_readRow (gw_Pc dC dI [(cI, .int)] [.ref om, .int a1, .int a2] [(om, .inr (6, [.int zt, .int zw, .int zh, .ref ozp, .ref ozs, .ref ozb, .int zz, .ref ozl, .ref ozo, .int zc, .int zr, .int zu, .int zv, .int zq, .int zi, .ref ozk, .ref ozm, .int zd, .ref ozg])), (ozp, .inl (cI, 1600, .inl zp)), (ozs, .inl (cI, 320, .inl zs)), (ozb, .inl (cI, 256, .inl zb)), (ozl, .inl (cI, 64, .inl zl)), (ozo, .inl (cI, 64, .inl zo)), (ozk, .inl (cI, 320, .inl zk)), (ozm, .inl (cI, 40, .inl zm)), (ozg, .inl (cI, 64, .inl zg))] sz) (va_Qi (fun (r : Int32) (u : (Nat → Int32) × Int32) => post r u.1 u.2) (fun u t => gw_B dC dI [(cI, .int)] (va_A [(om, .inr (6, [.int zt, .int zw, .int zh, .ref ozp, .ref ozs, .ref ozb, .int zz, .ref ozl, .ref ozo, .int zc, .int zr, .int zu, .int zv, .int zq, .int zi, .ref ozk, .ref ozm, .int zd, .ref ozg])), (ozp, .inl (cI, 1600, .inl zp)), (ozs, .inl (cI, 320, .inl zs)), (ozb, .inl (cI, 256, .inl zb)), (ozl, .inl (cI, 64, .inl zl)), (ozo, .inl (cI, 64, .inl zo)), (ozk, .inl (cI, 320, .inl zk)), (ozm, .inl (cI, 40, .inl zm)), (ozg, .inl (cI, 64, .inl zg))] sz) [(om, .inr (6, [.int zt, .int zw, .int zh, .ref ozp, .ref ozs, .ref ozb, .int zz, .ref ozl, .ref ozo, .int zc, .int zr, .int zu, .int zv, .int u.2, .int zi, .ref ozk, .ref ozm, .int zd, .ref ozg])), (ozp, .inl (cI, 1600, .inl zp)), (ozs, .inl (cI, 320, .inl zs)), (ozb, .inl (cI, 256, .inl zb)), (ozl, .inl (cI, 64, .inl zl)), (ozo, .inl (cI, 64, .inl u.1)), (ozk, .inl (cI, 320, .inl zk)), (ozm, .inl (cI, 40, .inl zm)), (ozg, .inl (cI, 64, .inl zg))] t) (va_A [(om, .inr (6, [.int zt, .int zw, .int zh, .ref ozp, .ref ozs, .ref ozb, .int zz, .ref ozl, .ref ozo, .int zc, .int zr, .int zu, .int zv, .int zq, .int zi, .ref ozk, .ref ozm, .int zd, .ref ozg])), (ozp, .inl (cI, 1600, .inl zp)), (ozs, .inl (cI, 320, .inl zs)), (ozb, .inl (cI, 256, .inl zb)), (ozl, .inl (cI, 64, .inl zl)), (ozo, .inl (cI, 64, .inl zo)), (ozk, .inl (cI, 320, .inl zk)), (ozm, .inl (cI, 40, .inl zm)), (ozg, .inl (cI, 64, .inl zg))] sz)) 0 0 (va_A [(om, .inr (6, [.int zt, .int zw, .int zh, .ref ozp, .ref ozs, .ref ozb, .int zz, .ref ozl, .ref ozo, .int zc, .int zr, .int zu, .int zv, .int zq, .int zi, .ref ozk, .ref ozm, .int zd, .ref ozg])), (ozp, .inl (cI, 1600, .inl zp)), (ozs, .inl (cI, 320, .inl zs)), (ozb, .inl (cI, 256, .inl zb)), (ozl, .inl (cI, 64, .inl zl)), (ozo, .inl (cI, 64, .inl zo)), (ozk, .inl (cI, 320, .inl zk)), (ozm, .inl (cI, 40, .inl zm)), (ozg, .inl (cI, 64, .inl zg))] sz) := by
  refine Met.ofW (cc := cZM_readRow) (maxL := 10) (ret := (some .boolean)) (by decide) rfl ?_
  intro p e s m args below meth c s₁ B hml hv
  obtain ⟨ha9, hsz, hP, hK, hE, hD0⟩ := hv
  have hx := B.exec
  have hb := B.bytes
  have hr := B.returns
  have hts0 := atoms_spec (ws := wsZM_readRow) B.pre
  have hts : ∀ w ∈ tbg, w.before args s = true := fun w h => hts0 w (List.mem_cons_of_mem _ h)
  have hown : s.vm.findClass RZM = some m.cls := findClass_of_methodNamed B.named
  have hlocks := B.notSynchronized
  subst hsz
  have hD := hD0.self (sz := s.heap.size)
  refine gx_Q (fun Q9 hQ9 => ?_)
  generalize hAe : va_A [(om, .inr (6, [.int zt, .int zw, .int zh, .ref ozp, .ref ozs, .ref ozb, .int zz, .ref ozl, .ref ozo, .int zc, .int zr, .int zu, .int zv, .int zq, .int zi, .ref ozk, .ref ozm, .int zd, .ref ozg])), (ozp, .inl (cI, 1600, .inl zp)), (ozs, .inl (cI, 320, .inl zs)), (ozb, .inl (cI, 256, .inl zb)), (ozl, .inl (cI, 64, .inl zl)), (ozo, .inl (cI, 64, .inl zo)), (ozk, .inl (cI, 320, .inl zk)), (ozm, .inl (cI, 40, .inl zm)), (ozg, .inl (cI, 64, .inl zg))] s.heap.size = A at hD hQ9 ⊢
  have hA : ∀ q : Nat, s.heap.size ≤ q → A q := fun q h => by rw [← hAe]; exact Or.inr h
  have hS : va_S A s.heap s.heap [] := va_S.rf
  have hl := lv_entry ([.ref om, .int a1, .int a2]) (n := 10) (Nat.le_of_ble_eq_true rfl)
  have he9 : entryFrame m args 10 = F0 m 0 ((lg_sl [.ref om, .int a1, .int a2] ++ List.replicate (10 - (lg_sl ([.ref om, .int a1, .int a2] : List Value)).length) Slot.unset).toArray) [] := by rw [ha9]; exact lg_entry_eq m [.ref om, .int a1, .int a2] 10
  rw [he9]
  generalize (lg_sl ([.ref om, .int a1, .int a2] : List Value) ++ List.replicate (10 - (lg_sl ([.ref om, .int a1, .int a2] : List Value)).length) Slot.unset).toArray = ls at hl ⊢
  have hl : lv_has ls 10 [(0, .ref om), (1, .int a1), (2, .int a2)] := hl
  refine lv_aload_n hx hb dZM_readRow_0 rfl (lv_at hl 0 rfl) ?_
  refine va_get (D := (dC, dI)) (ci := 6) (v := .int zq) (C := RZM) (T := TZM) (N := 19) hx hb hts inZM hown hK hP 0 rfl rfl 13 (by decide) (hts _ mm_631) (fun _ h9 => h9) rfl dZM_readRow_1 ?_
  refine lv_iload_n hx hb dZM_readRow_4 rfl (lv_at hl 2 rfl) ?_
  refine lv_icmp_lt (tgt := 10) hx hb dZM_readRow_5 (by decide) (fun c_1 => ?_) (fun c_1 => ?_)
  · have hw := hw.1 c_1
    refine lv_aload_n hx hb dZM_readRow_10 rfl (lv_at hl 0 rfl) ?_
    refine va_get (D := (dC, dI)) (ci := 6) (v := .ref ozb) (C := RZM) (T := TZM) (N := 19) hx hb hts inZM hown hK hP 0 rfl rfl 5 (by decide) (hts _ mm_623) (fun _ h9 => h9) rfl dZM_readRow_11 ?_
    refine lv_aload_n hx hb dZM_readRow_14 rfl (lv_at hl 0 rfl) ?_
    refine va_get (D := (dC, dI)) (ci := 6) (v := .int zq) (C := RZM) (T := TZM) (N := 19) hx hb hts inZM hown hK hP 0 rfl rfl 13 (by decide) (hts _ mm_631) (fun _ h9 => h9) rfl dZM_readRow_15 ?_
    obtain ⟨h_2, hw⟩ := hw
    refine va_iald hx hb hK hP 3 0 rfl rfl h_2 dZM_readRow_18 ?_
    refine lv_istore_n (lv' := [(3, .int (zb zq.toNatClampNeg)), (0, .ref om), (1, .int a1), (2, .int a2)]) hx hb dZM_readRow_19 rfl hl (by decide) rfl (fun ls hl => ?_)
    refine lv_aload_n hx hb dZM_readRow_20 rfl (lv_at hl 1 rfl) ?_
    refine lv_dup hx hb dZM_readRow_21 rfl ?_
    refine va_get (D := (dC, dI)) (ci := 6) (v := .int zq) (C := RZM) (T := TZM) (N := 19) hx hb hts inZM hown hK hP 0 rfl rfl 13 (by decide) (hts _ mm_631) (fun _ h9 => h9) rfl dZM_readRow_22 ?_
    refine lv_iconst (v := (1 : Int32)) hx hb dZM_readRow_25 (by decide) ?_
    refine lv_iadd hx hb dZM_readRow_26 ?_
    refine va_put (D := (dC, dI)) (ci := 6) (v := .int (zq + (1 : Int32))) (ty := .int) (C := RZM) (T := TZM) (N := 19) hx hb hts inZM tyZM tyZM_ok nmZM hown hK hP hD hS 0 rfl rfl 13 (by decide) (hts _ mm_631) (fun _ h9 => h9) rfl (by decide +kernel) rfl rfl (Nat.le_of_ble_eq_true rfl) dZM_readRow_27 (fun H locs hP hD hS => ?_)
    have hP : va_P (dC, dI) vwCl [(om, .inr (6, [.int zt, .int zw, .int zh, .ref ozp, .ref ozs, .ref ozb, .int zz, .ref ozl, .ref ozo, .int zc, .int zr, .int zu, .int zv, .int (zq + (1 : Int32)), .int zi, .ref ozk, .ref ozm, .int zd, .ref ozg])), (ozp, .inl (cI, 1600, .inl zp)), (ozs, .inl (cI, 320, .inl zs)), (ozb, .inl (cI, 256, .inl zb)), (ozl, .inl (cI, 64, .inl zl)), (ozo, .inl (cI, 64, .inl zo)), (ozk, .inl (cI, 320, .inl zk)), (ozm, .inl (cI, 40, .inl zm)), (ozg, .inl (cI, 64, .inl zg))] H := hP
    have hD : va_D A [(om, .inr (6, [.int zt, .int zw, .int zh, .ref ozp, .ref ozs, .ref ozb, .int zz, .ref ozl, .ref ozo, .int zc, .int zr, .int zu, .int zv, .int (zq + (1 : Int32)), .int zi, .ref ozk, .ref ozm, .int zd, .ref ozg])), (ozp, .inl (cI, 1600, .inl zp)), (ozs, .inl (cI, 320, .inl zs)), (ozb, .inl (cI, 256, .inl zb)), (ozl, .inl (cI, 64, .inl zl)), (ozo, .inl (cI, 64, .inl zo)), (ozk, .inl (cI, 320, .inl zk)), (ozm, .inl (cI, 40, .inl zm)), (ozg, .inl (cI, 64, .inl zg))] := hD
    refine lv_iload_n hx hb dZM_readRow_30 rfl (lv_at hl 0 rfl) ?_
    refine lv_aload_n hx hb dZM_readRow_31 rfl (lv_at hl 1 rfl) ?_
    refine va_get (D := (dC, dI)) (ci := 6) (v := .int zc) (C := RZM) (T := TZM) (N := 19) hx hb hts inZM hown hK hP 0 rfl rfl 9 (by decide) (hts _ mm_627) (fun _ h9 => h9) rfl dZM_readRow_32 ?_
    refine lv_imul hx hb dZM_readRow_35 ?_
    refine lv_bipush (v := (7 : Int32)) hx hb dZM_readRow_36 (by decide) ?_
    refine lv_iadd hx hb dZM_readRow_38 ?_
    refine lv_bipush (v := (8 : Int32)) hx hb dZM_readRow_39 (by decide) ?_
    refine lv_idiv hx hb dZM_readRow_41 (by decide) ?_
    refine lv_istore (lv' := [(4, .int ((((zb zq.toNatClampNeg) * zc) + (7 : Int32)) / (8 : Int32))), (3, .int (zb zq.toNatClampNeg)), (0, .ref om), (1, .int a1), (2, .int a2)]) hx hb dZM_readRow_42 hl (by decide) rfl (fun ls hl => ?_)
    refine lv_iload_n hx hb dZM_readRow_44 rfl (lv_at hl 1 rfl) ?_
    refine lv_bipush (v := (9 : Int32)) hx hb dZM_readRow_45 (by decide) ?_
    refine lv_icmp_gt (tgt := 61) hx hb dZM_readRow_47 (by decide) (fun c_3 => ?_) (fun c_3 => ?_)
    · have hw := hw.1 c_3
      refine lv_iconst (v := (0 : Int32)) hx hb dZM_readRow_61 (by decide) ?_
      have hP9 := hP.sub (ws' := [(om, .inr (6, [.int zt, .int zw, .int zh, .ref ozp, .ref ozs, .ref ozb, .int zz, .ref ozl, .ref ozo, .int zc, .int zr, .int zu, .int zv, .int (zq + (1 : Int32)), .int zi, .ref ozk, .ref ozm, .int zd, .ref ozg])), (ozp, .inl (cI, 1600, .inl zp)), (ozs, .inl (cI, 320, .inl zs)), (ozb, .inl (cI, 256, .inl zb)), (ozl, .inl (cI, 64, .inl zl)), (ozo, .inl (cI, 64, .inl zo)), (ozk, .inl (cI, 320, .inl zk)), (ozm, .inl (cI, 40, .inl zm)), (ozg, .inl (cI, 64, .inl zg))]) [0, 1, 2, 3, 4, 5, 6, 7, 8] rfl
      have hD9 := hD.sub (ws' := [(om, .inr (6, [.int zt, .int zw, .int zh, .ref ozp, .ref ozs, .ref ozb, .int zz, .ref ozl, .ref ozo, .int zc, .int zr, .int zu, .int zv, .int (zq + (1 : Int32)), .int zi, .ref ozk, .ref ozm, .int zd, .ref ozg])), (ozp, .inl (cI, 1600, .inl zp)), (ozs, .inl (cI, 320, .inl zs)), (ozb, .inl (cI, 256, .inl zb)), (ozl, .inl (cI, 64, .inl zl)), (ozo, .inl (cI, 64, .inl zo)), (ozk, .inl (cI, 320, .inl zk)), (ozm, .inl (cI, 40, .inl zm)), (ozg, .inl (cI, 64, .inl zg))]) [0, 1, 2, 3, 4, 5, 6, 7, 8] (by decide) rfl
      subst hQ9
      exact W.zret (v := (0 : Int32)) (ty := .boolean) hx hb hr rfl (fun t ht hW => ⟨⟨(0 : Int32), (zo, zq + (1 : Int32)), rfl, hw, by rw [ht]; exact hP9, va_K.moved hW.alike hK, hD9⟩, hS.F ht⟩) hS.2.2 dZM_readRow_62
    · have hw := hw.2 c_3
      refine lv_aload_n hx hb dZM_readRow_50 rfl (lv_at hl 2 rfl) ?_
      refine va_get (D := (dC, dI)) (ci := 6) (v := .int (zq + (1 : Int32))) (C := RZM) (T := TZM) (N := 19) hx hb hts inZM hown hK hP 0 rfl rfl 13 (by decide) (hts _ mm_631) (fun _ h9 => h9) rfl dZM_readRow_51 ?_
      refine lv_iload hx hb dZM_readRow_54 (lv_at hl 0 rfl) ?_
      refine lv_iadd hx hb dZM_readRow_56 ?_
      refine lv_iload_n hx hb dZM_readRow_57 rfl (lv_at hl 4 rfl) ?_
      refine lv_icmp_le (tgt := 63) hx hb dZM_readRow_58 (by decide) (fun c_4 => ?_) (fun c_4 => ?_)
      · have hw := hw.1 c_4
        refine lv_iconst (v := (1 : Int32)) hx hb dZM_readRow_63 (by decide) ?_
        refine lv_istore (lv' := [(5, .int (1 : Int32)), (4, .int ((((zb zq.toNatClampNeg) * zc) + (7 : Int32)) / (8 : Int32))), (3, .int (zb zq.toNatClampNeg)), (0, .ref om), (1, .int a1), (2, .int a2)]) hx hb dZM_readRow_64 hl (by decide) rfl (fun ls hl => ?_)
        refine lv_iconst (v := (0 : Int32)) hx hb dZM_readRow_66 (by decide) ?_
        refine lv_istore (lv' := [(6, .int (0 : Int32)), (5, .int (1 : Int32)), (4, .int ((((zb zq.toNatClampNeg) * zc) + (7 : Int32)) / (8 : Int32))), (3, .int (zb zq.toNatClampNeg)), (0, .ref om), (1, .int a1), (2, .int a2)]) hx hb dZM_readRow_67 hl (by decide) rfl (fun ls hl => ?_)
        have lp69 : ∀ K69 : Int32 → Int32 → (Nat → Int32) → Prop, (∀ (x5_69 : Int32) (x6_69 : Int32) (f_69_ozo : Nat → Int32), K69 x5_69 x6_69 f_69_ozo → ∀ (H : Heap) (locs : List Loc), va_P (dC, dI) vwCl [(om, .inr (6, [.int zt, .int zw, .int zh, .ref ozp, .ref ozs, .ref ozb, .int zz, .ref ozl, .ref ozo, .int zc, .int zr, .int zu, .int zv, .int (zq + (1 : Int32)), .int zi, .ref ozk, .ref ozm, .int zd, .ref ozg])), (ozp, .inl (cI, 1600, .inl zp)), (ozs, .inl (cI, 320, .inl zs)), (ozb, .inl (cI, 256, .inl zb)), (ozl, .inl (cI, 64, .inl zl)), (ozo, .inl (cI, 64, .inl f_69_ozo)), (ozk, .inl (cI, 320, .inl zk)), (ozm, .inl (cI, 40, .inl zm)), (ozg, .inl (cI, 64, .inl zg))] H → va_D A [(om, .inr (6, [.int zt, .int zw, .int zh, .ref ozp, .ref ozs, .ref ozb, .int zz, .ref ozl, .ref ozo, .int zc, .int zr, .int zu, .int zv, .int (zq + (1 : Int32)), .int zi, .ref ozk, .ref ozm, .int zd, .ref ozg])), (ozp, .inl (cI, 1600, .inl zp)), (ozs, .inl (cI, 320, .inl zs)), (ozb, .inl (cI, 256, .inl zb)), (ozl, .inl (cI, 64, .inl zl)), (ozo, .inl (cI, 64, .inl f_69_ozo)), (ozk, .inl (cI, 320, .inl zk)), (ozm, .inl (cI, 40, .inl zm)), (ozg, .inl (cI, 64, .inl zg))] → va_S A s.heap H locs → ∀ ls : Array Slot, lv_has ls 10 [(6, .int x6_69), (5, .int x5_69), (4, .int ((((zb zq.toNatClampNeg) * zc) + (7 : Int32)) / (8 : Int32))), (3, .int (zb zq.toNatClampNeg)), (0, .ref om), (1, .int a1), (2, .int a2)] → W p l e (headSpec wsZM_readRow rm_ZM_readRow).room s m args below meth c H locs 0 0 Q9 (F0 m 228 ls [])) → ∀ (n : Nat) (x5_69 : Int32) (x6_69 : Int32) (f_69_ozo : Nat → Int32), lp_ZM_readRow_69 zt zw zh zp zs zb zz zl zo zc zr zu zv zq zi zk zm zd zg a1 a2 post K69 n x5_69 x6_69 f_69_ozo → ∀ (H : Heap) (locs : List Loc), va_P (dC, dI) vwCl [(om, .inr (6, [.int zt, .int zw, .int zh, .ref ozp, .ref ozs, .ref ozb, .int zz, .ref ozl, .ref ozo, .int zc, .int zr, .int zu, .int zv, .int (zq + (1 : Int32)), .int zi, .ref ozk, .ref ozm, .int zd, .ref ozg])), (ozp, .inl (cI, 1600, .inl zp)), (ozs, .inl (cI, 320, .inl zs)), (ozb, .inl (cI, 256, .inl zb)), (ozl, .inl (cI, 64, .inl zl)), (ozo, .inl (cI, 64, .inl f_69_ozo)), (ozk, .inl (cI, 320, .inl zk)), (ozm, .inl (cI, 40, .inl zm)), (ozg, .inl (cI, 64, .inl zg))] H → va_D A [(om, .inr (6, [.int zt, .int zw, .int zh, .ref ozp, .ref ozs, .ref ozb, .int zz, .ref ozl, .ref ozo, .int zc, .int zr, .int zu, .int zv, .int (zq + (1 : Int32)), .int zi, .ref ozk, .ref ozm, .int zd, .ref ozg])), (ozp, .inl (cI, 1600, .inl zp)), (ozs, .inl (cI, 320, .inl zs)), (ozb, .inl (cI, 256, .inl zb)), (ozl, .inl (cI, 64, .inl zl)), (ozo, .inl (cI, 64, .inl f_69_ozo)), (ozk, .inl (cI, 320, .inl zk)), (ozm, .inl (cI, 40, .inl zm)), (ozg, .inl (cI, 64, .inl zg))] → va_S A s.heap H locs → ∀ ls : Array Slot, lv_has ls 10 [(6, .int x6_69), (5, .int x5_69), (4, .int ((((zb zq.toNatClampNeg) * zc) + (7 : Int32)) / (8 : Int32))), (3, .int (zb zq.toNatClampNeg)), (0, .ref om), (1, .int a1), (2, .int a2)] → W p l e (headSpec wsZM_readRow rm_ZM_readRow).room s m args below meth c H locs 0 0 Q9 (F0 m 69 ls []) := by
          intro K69 aft69 n
          induction n with
          | zero => intro x5_69 x6_69 f_69_ozo hw; exact False.elim hw
          | succ n ih69 =>
            intro x5_69 x6_69 f_69_ozo hw H locs hP hD hS ls hl
            refine lv_iload hx hb dZM_readRow_69 (lv_at hl 0 rfl) ?_
            refine lv_aload_n hx hb dZM_readRow_71 rfl (lv_at hl 4 rfl) ?_
            refine va_get (D := (dC, dI)) (ci := 6) (v := .int zc) (C := RZM) (T := TZM) (N := 19) hx hb hts inZM hown hK hP 0 rfl rfl 9 (by decide) (hts _ mm_627) (fun _ h9 => h9) rfl dZM_readRow_72 ?_
            refine lv_icmp_ge (tgt := 228) hx hb dZM_readRow_75 (by decide) (fun c_5 => ?_) (fun c_5 => ?_)
            · have hw := hw.1 c_5
              exact aft69 x5_69 x6_69 f_69_ozo hw _ _ (hP.sub [0, 1, 2, 3, 4, 5, 6, 7, 8] rfl) (hD.sub [0, 1, 2, 3, 4, 5, 6, 7, 8] (by decide) rfl) hS ls (lv_sub hl [0, 1, 2, 3, 4, 5, 6] rfl)
            · have hw := hw.2 c_5
              refine lv_iconst (v := (0 : Int32)) hx hb dZM_readRow_78 (by decide) ?_
              refine lv_istore (lv' := [(7, .int (0 : Int32)), (6, .int x6_69), (5, .int x5_69), (4, .int ((((zb zq.toNatClampNeg) * zc) + (7 : Int32)) / (8 : Int32))), (3, .int (zb zq.toNatClampNeg)), (0, .ref om), (1, .int a1), (2, .int a2)]) hx hb dZM_readRow_79 hl (by decide) rfl (fun ls hl => ?_)
              refine lv_iconst (v := (0 : Int32)) hx hb dZM_readRow_81 (by decide) ?_
              refine lv_istore (lv' := [(8, .int (0 : Int32)), (7, .int (0 : Int32)), (6, .int x6_69), (5, .int x5_69), (4, .int ((((zb zq.toNatClampNeg) * zc) + (7 : Int32)) / (8 : Int32))), (3, .int (zb zq.toNatClampNeg)), (0, .ref om), (1, .int a1), (2, .int a2)]) hx hb dZM_readRow_82 hl (by decide) rfl (fun ls hl => ?_)
              have lp84 : ∀ K84 : Int32 → Int32 → Prop, (∀ (x7_84 : Int32) (x8_84 : Int32), K84 x7_84 x8_84 → ∀ (H : Heap) (locs : List Loc), va_P (dC, dI) vwCl [(om, .inr (6, [.int zt, .int zw, .int zh, .ref ozp, .ref ozs, .ref ozb, .int zz, .ref ozl, .ref ozo, .int zc, .int zr, .int zu, .int zv, .int (zq + (1 : Int32)), .int zi, .ref ozk, .ref ozm, .int zd, .ref ozg])), (ozp, .inl (cI, 1600, .inl zp)), (ozs, .inl (cI, 320, .inl zs)), (ozb, .inl (cI, 256, .inl zb)), (ozl, .inl (cI, 64, .inl zl)), (ozo, .inl (cI, 64, .inl f_69_ozo)), (ozk, .inl (cI, 320, .inl zk)), (ozm, .inl (cI, 40, .inl zm)), (ozg, .inl (cI, 64, .inl zg))] H → va_D A [(om, .inr (6, [.int zt, .int zw, .int zh, .ref ozp, .ref ozs, .ref ozb, .int zz, .ref ozl, .ref ozo, .int zc, .int zr, .int zu, .int zv, .int (zq + (1 : Int32)), .int zi, .ref ozk, .ref ozm, .int zd, .ref ozg])), (ozp, .inl (cI, 1600, .inl zp)), (ozs, .inl (cI, 320, .inl zs)), (ozb, .inl (cI, 256, .inl zb)), (ozl, .inl (cI, 64, .inl zl)), (ozo, .inl (cI, 64, .inl f_69_ozo)), (ozk, .inl (cI, 320, .inl zk)), (ozm, .inl (cI, 40, .inl zm)), (ozg, .inl (cI, 64, .inl zg))] → va_S A s.heap H locs → ∀ ls : Array Slot, lv_has ls 10 [(8, .int x8_84), (7, .int x7_84), (6, .int x6_69), (5, .int x5_69), (4, .int ((((zb zq.toNatClampNeg) * zc) + (7 : Int32)) / (8 : Int32))), (3, .int (zb zq.toNatClampNeg)), (0, .ref om), (1, .int a1), (2, .int a2)] → W p l e (headSpec wsZM_readRow rm_ZM_readRow).room s m args below meth c H locs 0 0 Q9 (F0 m 115 ls [])) → ∀ (n : Nat) (x7_84 : Int32) (x8_84 : Int32), lp_ZM_readRow_84 zt zw zh zp zs zb zz zl zo zc zr zu zv zq zi zk zm zd zg a1 a2 x5_69 x6_69 f_69_ozo post K84 n x7_84 x8_84 → ∀ (H : Heap) (locs : List Loc), va_P (dC, dI) vwCl [(om, .inr (6, [.int zt, .int zw, .int zh, .ref ozp, .ref ozs, .ref ozb, .int zz, .ref ozl, .ref ozo, .int zc, .int zr, .int zu, .int zv, .int (zq + (1 : Int32)), .int zi, .ref ozk, .ref ozm, .int zd, .ref ozg])), (ozp, .inl (cI, 1600, .inl zp)), (ozs, .inl (cI, 320, .inl zs)), (ozb, .inl (cI, 256, .inl zb)), (ozl, .inl (cI, 64, .inl zl)), (ozo, .inl (cI, 64, .inl f_69_ozo)), (ozk, .inl (cI, 320, .inl zk)), (ozm, .inl (cI, 40, .inl zm)), (ozg, .inl (cI, 64, .inl zg))] H → va_D A [(om, .inr (6, [.int zt, .int zw, .int zh, .ref ozp, .ref ozs, .ref ozb, .int zz, .ref ozl, .ref ozo, .int zc, .int zr, .int zu, .int zv, .int (zq + (1 : Int32)), .int zi, .ref ozk, .ref ozm, .int zd, .ref ozg])), (ozp, .inl (cI, 1600, .inl zp)), (ozs, .inl (cI, 320, .inl zs)), (ozb, .inl (cI, 256, .inl zb)), (ozl, .inl (cI, 64, .inl zl)), (ozo, .inl (cI, 64, .inl f_69_ozo)), (ozk, .inl (cI, 320, .inl zk)), (ozm, .inl (cI, 40, .inl zm)), (ozg, .inl (cI, 64, .inl zg))] → va_S A s.heap H locs → ∀ ls : Array Slot, lv_has ls 10 [(8, .int x8_84), (7, .int x7_84), (6, .int x6_69), (5, .int x5_69), (4, .int ((((zb zq.toNatClampNeg) * zc) + (7 : Int32)) / (8 : Int32))), (3, .int (zb zq.toNatClampNeg)), (0, .ref om), (1, .int a1), (2, .int a2)] → W p l e (headSpec wsZM_readRow rm_ZM_readRow).room s m args below meth c H locs 0 0 Q9 (F0 m 84 ls []) := by
                intro K84 aft84 n
                induction n with
                | zero => intro x7_84 x8_84 hw; exact False.elim hw
                | succ n ih84 =>
                  intro x7_84 x8_84 hw H locs hP hD hS ls hl
                  refine lv_iload hx hb dZM_readRow_84 (lv_at hl 0 rfl) ?_
                  refine lv_iload_n hx hb dZM_readRow_86 rfl (lv_at hl 5 rfl) ?_
                  refine lv_icmp_ge (tgt := 115) hx hb dZM_readRow_87 (by decide) (fun c_6 => ?_) (fun c_6 => ?_)
                  · have hw := hw.1 c_6
                    exact aft84 x7_84 x8_84 hw _ _ (hP.sub [0, 1, 2, 3, 4, 5, 6, 7, 8] rfl) (hD.sub [0, 1, 2, 3, 4, 5, 6, 7, 8] (by decide) rfl) hS ls (lv_sub hl [0, 1, 2, 3, 4, 5, 6, 7, 8] rfl)
                  · have hw := hw.2 c_6
                    refine lv_iload hx hb dZM_readRow_90 (lv_at hl 1 rfl) ?_
                    refine lv_aload_n hx hb dZM_readRow_92 rfl (lv_at hl 6 rfl) ?_
                    refine lv_iload_n hx hb dZM_readRow_93 rfl (lv_at hl 5 rfl) ?_
                    refine lv_iload hx hb dZM_readRow_94 (lv_at hl 2 rfl) ?_
                    refine lv_imul hx hb dZM_readRow_96 ?_
                    refine lv_iload hx hb dZM_readRow_97 (lv_at hl 0 rfl) ?_
                    refine lv_iadd hx hb dZM_readRow_99 ?_
                    refine vp_callSi (va_runV (As := [.int (((zb zq.toNatClampNeg) * x6_69) + x8_84)]) (rest := [.int x7_84]) ⟨hx, hb, hml, hown, hts⟩ (kt_ZM_bitAt l dC dI cI om ozp ozs ozb ozl ozo ozk ozm ozg zt zw zh zp zs zb zz zl f_69_ozo zc zr zu zv (zq + (1 : Int32)) zi zk zm zd zg (((zb zq.toNatClampNeg) * x6_69) + x8_84) _ hw) (cwV 1 hts (tb_V mm_828 mm_830 mp_21 mm_8 mm_831) rfl rfl rfl (by decide +kernel) ⟨Nat.le_of_ble_eq_true rfl, Nat.le_of_ble_eq_true rfl⟩) ⟨gr_blind, va_recv hK hP (ci := 6) (q0 := 0) rfl rfl, fun U hU hW => gr_pre hP hK hE hU hW⟩ rfl rfl hl.1 rfl (lv_room (Nat.le_of_ble_eq_true rfl)) dZM_readRow_100 ⟨Nat.le_of_ble_eq_true rfl, Nat.le_of_ble_eq_true rfl⟩).run (fun r_7 hw => ?_)
                    refine lv_iload hx hb dZM_readRow_103 (lv_at hl 0 rfl) ?_
                    refine lv_ishl hx hb dZM_readRow_105 ?_
                    refine lv_ior hx hb dZM_readRow_106 ?_
                    refine lv_istore (lv' := [(7, .int (x7_84 ||| (r_7 <<< (x8_84 &&& 31)))), (8, .int x8_84), (6, .int x6_69), (5, .int x5_69), (4, .int ((((zb zq.toNatClampNeg) * zc) + (7 : Int32)) / (8 : Int32))), (3, .int (zb zq.toNatClampNeg)), (0, .ref om), (1, .int a1), (2, .int a2)]) hx hb dZM_readRow_107 hl (by decide) rfl (fun ls hl => ?_)
                    refine lv_iinc (v := x8_84 + (1 : Int32)) (lv' := [(8, .int (x8_84 + (1 : Int32))), (7, .int (x7_84 ||| (r_7 <<< (x8_84 &&& 31)))), (6, .int x6_69), (5, .int x5_69), (4, .int ((((zb zq.toNatClampNeg) * zc) + (7 : Int32)) / (8 : Int32))), (3, .int (zb zq.toNatClampNeg)), (0, .ref om), (1, .int a1), (2, .int a2)]) hx hb dZM_readRow_109 hl (k := 1) rfl rfl (by decide) rfl (fun ls hl => ?_)
                    refine lv_goto (tgt := 84) hx hb dZM_readRow_112 (by decide) ?_
                    exact ih84 (x7_84 ||| (r_7 <<< (x8_84 &&& 31))) (x8_84 + (1 : Int32)) hw _ _ (hP.sub [0, 1, 2, 3, 4, 5, 6, 7, 8] rfl) (hD.sub [0, 1, 2, 3, 4, 5, 6, 7, 8] (by decide) rfl) hS ls (lv_sub hl [0, 1, 2, 3, 4, 5, 6, 7, 8] rfl)
              obtain ⟨n84, hw⟩ := hw
              refine lp84 _ (fun x7_84e x8_84e hw H locs hP hD hS ls hl => ?_) n84 (0 : Int32) (0 : Int32) hw _ _ (hP.sub [0, 1, 2, 3, 4, 5, 6, 7, 8] rfl) (hD.sub [0, 1, 2, 3, 4, 5, 6, 7, 8] (by decide) rfl) hS ls (lv_sub hl [0, 1, 2, 3, 4, 5, 6, 7, 8] rfl)
              refine lv_iload_n hx hb dZM_readRow_115 rfl (lv_at hl 7 rfl) ?_
              refine lv_aload_n hx hb dZM_readRow_116 rfl (lv_at hl 6 rfl) ?_
              refine va_get (D := (dC, dI)) (ci := 6) (v := .int zc) (C := RZM) (T := TZM) (N := 19) hx hb hts inZM hown hK hP 0 rfl rfl 9 (by decide) (hts _ mm_627) (fun _ h9 => h9) rfl dZM_readRow_117 ?_
              refine lv_imul hx hb dZM_readRow_120 ?_
              refine lv_iload hx hb dZM_readRow_121 (lv_at hl 2 rfl) ?_
              refine lv_iadd hx hb dZM_readRow_123 ?_
              refine lv_istore (lv' := [(8, .int ((a1 * zc) + x6_69)), (7, .int x7_84e), (6, .int x6_69), (5, .int x5_69), (4, .int ((((zb zq.toNatClampNeg) * zc) + (7 : Int32)) / (8 : Int32))), (3, .int (zb zq.toNatClampNeg)), (0, .ref om), (1, .int a1), (2, .int a2)]) hx hb dZM_readRow_124 hl (by decide) rfl (fun ls hl => ?_)
              refine lv_iload hx hb dZM_readRow_126 (lv_at hl 0 rfl) ?_
              obtain ⟨J164, hJ164, hw⟩ := hw
              have j164 : ∀ (t0_j164 : Int32), J164 t0_j164 → ∀ (H : Heap) (locs : List Loc), va_P (dC, dI) vwCl [(om, .inr (6, [.int zt, .int zw, .int zh, .ref ozp, .ref ozs, .ref ozb, .int zz, .ref ozl, .ref ozo, .int zc, .int zr, .int zu, .int zv, .int (zq + (1 : Int32)), .int zi, .ref ozk, .ref ozm, .int zd, .ref ozg])), (ozp, .inl (cI, 1600, .inl zp)), (ozs, .inl (cI, 320, .inl zs)), (ozb, .inl (cI, 256, .inl zb)), (ozl, .inl (cI, 64, .inl zl)), (ozo, .inl (cI, 64, .inl f_69_ozo)), (ozk, .inl (cI, 320, .inl zk)), (ozm, .inl (cI, 40, .inl zm)), (ozg, .inl (cI, 64, .inl zg))] H → va_D A [(om, .inr (6, [.int zt, .int zw, .int zh, .ref ozp, .ref ozs, .ref ozb, .int zz, .ref ozl, .ref ozo, .int zc, .int zr, .int zu, .int zv, .int (zq + (1 : Int32)), .int zi, .ref ozk, .ref ozm, .int zd, .ref ozg])), (ozp, .inl (cI, 1600, .inl zp)), (ozs, .inl (cI, 320, .inl zs)), (ozb, .inl (cI, 256, .inl zb)), (ozl, .inl (cI, 64, .inl zl)), (ozo, .inl (cI, 64, .inl f_69_ozo)), (ozk, .inl (cI, 320, .inl zk)), (ozm, .inl (cI, 40, .inl zm)), (ozg, .inl (cI, 64, .inl zg))] → va_S A s.heap H locs → ∀ ls : Array Slot, lv_has ls 10 [(8, .int ((a1 * zc) + x6_69)), (7, .int x7_84e), (6, .int x6_69), (5, .int x5_69), (4, .int ((((zb zq.toNatClampNeg) * zc) + (7 : Int32)) / (8 : Int32))), (3, .int (zb zq.toNatClampNeg)), (0, .ref om), (1, .int a1), (2, .int a2)] → W p l e (headSpec wsZM_readRow rm_ZM_readRow).room s m args below meth c H locs 0 0 Q9 (F0 m 164 ls [.int t0_j164]) := by
                intro t0_j164 hw H locs hP hD hS ls hl
                have hw := hJ164 t0_j164 hw
                refine lv_istore (lv' := [(9, .int t0_j164), (8, .int ((a1 * zc) + x6_69)), (7, .int x7_84e), (6, .int x6_69), (5, .int x5_69), (4, .int ((((zb zq.toNatClampNeg) * zc) + (7 : Int32)) / (8 : Int32))), (3, .int (zb zq.toNatClampNeg)), (0, .ref om), (1, .int a1), (2, .int a2)]) hx hb dZM_readRow_164 hl (by decide) rfl (fun ls hl => ?_)
                refine lv_aload_n hx hb dZM_readRow_166 rfl (lv_at hl 7 rfl) ?_
                refine va_get (D := (dC, dI)) (ci := 6) (v := .ref ozo) (C := RZM) (T := TZM) (N := 19) hx hb hts inZM hown hK hP 0 rfl rfl 8 (by decide) (hts _ mm_626) (fun _ h9 => h9) rfl dZM_readRow_167 ?_
                refine lv_iload hx hb dZM_readRow_170 (lv_at hl 1 rfl) ?_
                refine lv_iload hx hb dZM_readRow_172 (lv_at hl 0 rfl) ?_
                refine lv_iload hx hb dZM_readRow_174 (lv_at hl 2 rfl) ?_
                refine lv_iconst (v := (2 : Int32)) hx hb dZM_readRow_176 (by decide) ?_
                refine lv_irem hx hb dZM_readRow_177 (by decide) ?_
                obtain ⟨J195, hJ195, hw⟩ := hw
                have j195 : ∀ (t0_j195 : Int32), J195 t0_j195 → ∀ (H : Heap) (locs : List Loc), va_P (dC, dI) vwCl [(om, .inr (6, [.int zt, .int zw, .int zh, .ref ozp, .ref ozs, .ref ozb, .int zz, .ref ozl, .ref ozo, .int zc, .int zr, .int zu, .int zv, .int (zq + (1 : Int32)), .int zi, .ref ozk, .ref ozm, .int zd, .ref ozg])), (ozp, .inl (cI, 1600, .inl zp)), (ozs, .inl (cI, 320, .inl zs)), (ozb, .inl (cI, 256, .inl zb)), (ozl, .inl (cI, 64, .inl zl)), (ozo, .inl (cI, 64, .inl f_69_ozo)), (ozk, .inl (cI, 320, .inl zk)), (ozm, .inl (cI, 40, .inl zm)), (ozg, .inl (cI, 64, .inl zg))] H → va_D A [(om, .inr (6, [.int zt, .int zw, .int zh, .ref ozp, .ref ozs, .ref ozb, .int zz, .ref ozl, .ref ozo, .int zc, .int zr, .int zu, .int zv, .int (zq + (1 : Int32)), .int zi, .ref ozk, .ref ozm, .int zd, .ref ozg])), (ozp, .inl (cI, 1600, .inl zp)), (ozs, .inl (cI, 320, .inl zs)), (ozb, .inl (cI, 256, .inl zb)), (ozl, .inl (cI, 64, .inl zl)), (ozo, .inl (cI, 64, .inl f_69_ozo)), (ozk, .inl (cI, 320, .inl zk)), (ozm, .inl (cI, 40, .inl zm)), (ozg, .inl (cI, 64, .inl zg))] → va_S A s.heap H locs → ∀ ls : Array Slot, lv_has ls 10 [(9, .int t0_j164), (8, .int ((a1 * zc) + x6_69)), (7, .int x7_84e), (6, .int x6_69), (5, .int x5_69), (4, .int ((((zb zq.toNatClampNeg) * zc) + (7 : Int32)) / (8 : Int32))), (3, .int (zb zq.toNatClampNeg)), (0, .ref om), (1, .int a1), (2, .int a2)] → W p l e (headSpec wsZM_readRow rm_ZM_readRow).room s m args below meth c H locs 0 0 Q9 (F0 m 195 ls [.int t0_j195, .int t0_j164, .int ((a1 * zc) + x6_69), .ref ozo]) := by
                  intro t0_j195 hw H locs hP hD hS ls hl
                  have hw := hJ195 t0_j195 hw
                  refine lv_iadd hx hb dZM_readRow_195 ?_
                  obtain ⟨h_8, hw⟩ := hw
                  refine va_iast hx hb hK hP hD hS 5 0 rfl rfl h_8 dZM_readRow_196 (fun H locs hP hD hS => ?_)
                  have hP : va_P (dC, dI) vwCl [(om, .inr (6, [.int zt, .int zw, .int zh, .ref ozp, .ref ozs, .ref ozb, .int zz, .ref ozl, .ref ozo, .int zc, .int zr, .int zu, .int zv, .int (zq + (1 : Int32)), .int zi, .ref ozk, .ref ozm, .int zd, .ref ozg])), (ozp, .inl (cI, 1600, .inl zp)), (ozs, .inl (cI, 320, .inl zs)), (ozb, .inl (cI, 256, .inl zb)), (ozl, .inl (cI, 64, .inl zl)), (ozo, .inl (cI, 64, .inl (upd f_69_ozo ((a1 * zc) + x6_69).toNatClampNeg (t0_j164 + t0_j195)))), (ozk, .inl (cI, 320, .inl zk)), (ozm, .inl (cI, 40, .inl zm)), (ozg, .inl (cI, 64, .inl zg))] H := hP
                  have hD : va_D A [(om, .inr (6, [.int zt, .int zw, .int zh, .ref ozp, .ref ozs, .ref ozb, .int zz, .ref ozl, .ref ozo, .int zc, .int zr, .int zu, .int zv, .int (zq + (1 : Int32)), .int zi, .ref ozk, .ref ozm, .int zd, .ref ozg])), (ozp, .inl (cI, 1600, .inl zp)), (ozs, .inl (cI, 320, .inl zs)), (ozb, .inl (cI, 256, .inl zb)), (ozl, .inl (cI, 64, .inl zl)), (ozo, .inl (cI, 64, .inl (upd f_69_ozo ((a1 * zc) + x6_69).toNatClampNeg (t0_j164 + t0_j195)))), (ozk, .inl (cI, 320, .inl zk)), (ozm, .inl (cI, 40, .inl zm)), (ozg, .inl (cI, 64, .inl zg))] := hD
                  refine lv_iload hx hb dZM_readRow_197 (lv_at hl 4 rfl) ?_
                  refine lv_if_eq (tgt := 219) hx hb dZM_readRow_199 (by decide) (fun c_9 => ?_) (fun c_9 => ?_)
                  · have hw := hw.1 c_9
                    refine lv_iconst (v := (0 : Int32)) hx hb dZM_readRow_219 (by decide) ?_
                    refine lv_istore (lv' := [(5, .int (0 : Int32)), (9, .int t0_j164), (8, .int ((a1 * zc) + x6_69)), (7, .int x7_84e), (6, .int x6_69), (4, .int ((((zb zq.toNatClampNeg) * zc) + (7 : Int32)) / (8 : Int32))), (3, .int (zb zq.toNatClampNeg)), (0, .ref om), (1, .int a1), (2, .int a2)]) hx hb dZM_readRow_220 hl (by decide) rfl (fun ls hl => ?_)
                    refine lv_iinc (v := x6_69 + (1 : Int32)) (lv' := [(6, .int (x6_69 + (1 : Int32))), (5, .int (0 : Int32)), (9, .int t0_j164), (8, .int ((a1 * zc) + x6_69)), (7, .int x7_84e), (4, .int ((((zb zq.toNatClampNeg) * zc) + (7 : Int32)) / (8 : Int32))), (3, .int (zb zq.toNatClampNeg)), (0, .ref om), (1, .int a1), (2, .int a2)]) hx hb dZM_readRow_222 hl (k := 4) rfl rfl (by decide) rfl (fun ls hl => ?_)
                    refine lv_goto (tgt := 69) hx hb dZM_readRow_225 (by decide) ?_
                    exact ih69 (0 : Int32) (x6_69 + (1 : Int32)) (upd f_69_ozo ((a1 * zc) + x6_69).toNatClampNeg (t0_j164 + t0_j195)) hw _ _ (hP.sub [0, 1, 2, 3, 4, 5, 6, 7, 8] rfl) (hD.sub [0, 1, 2, 3, 4, 5, 6, 7, 8] (by decide) rfl) hS ls (lv_sub hl [0, 1, 5, 6, 7, 8, 9] rfl)
                  · have hw := hw.2 c_9
                    refine lv_aload_n hx hb dZM_readRow_202 rfl (lv_at hl 7 rfl) ?_
                    refine va_get (D := (dC, dI)) (ci := 6) (v := .ref ozo) (C := RZM) (T := TZM) (N := 19) hx hb hts inZM hown hK hP 0 rfl rfl 8 (by decide) (hts _ mm_626) (fun _ h9 => h9) rfl dZM_readRow_203 ?_
                    refine lv_iload hx hb dZM_readRow_206 (lv_at hl 1 rfl) ?_
                    obtain ⟨h_10, hw⟩ := hw
                    refine va_iald hx hb hK hP 5 0 rfl rfl h_10 dZM_readRow_208 ?_
                    have hPc := hP.sub (ws' := []) [] rfl
                    refine vp_callSi (va_runS (As := [.int ((upd f_69_ozo ((a1 * zc) + x6_69).toNatClampNeg (t0_j164 + t0_j195)) ((a1 * zc) + x6_69).toNatClampNeg)]) (rest := []) ⟨hx, hb, hml, hown, hts⟩ (kt_ZM_isByte l dC dI cI  ((upd f_69_ozo ((a1 * zc) + x6_69).toNatClampNeg (t0_j164 + t0_j195)) ((a1 * zc) + x6_69).toNatClampNeg) _ hw) (va_cwS 1 hts (tb_S mm_690 mm_691 mm_8 mm_692) rfl rfl rfl (by decide +kernel) ⟨Nat.le_of_ble_eq_true rfl, Nat.le_of_ble_eq_true rfl⟩) ⟨gr_blind, fun U hU hW => gr_pre hPc hK hE hU hW⟩ rfl rfl hl.1 rfl (lv_room (Nat.le_of_ble_eq_true rfl)) dZM_readRow_209 ⟨Nat.le_of_ble_eq_true rfl, Nat.le_of_ble_eq_true rfl⟩).run (fun r_11 hw => ?_)
                    refine lv_if_eq (tgt := 219) hx hb dZM_readRow_212 (by decide) (fun c_12 => ?_) (fun c_12 => ?_)
                    · have hw := hw.1 c_12
                      refine lv_iconst (v := (0 : Int32)) hx hb dZM_readRow_219 (by decide) ?_
                      refine lv_istore (lv' := [(5, .int (0 : Int32)), (9, .int t0_j164), (8, .int ((a1 * zc) + x6_69)), (7, .int x7_84e), (6, .int x6_69), (4, .int ((((zb zq.toNatClampNeg) * zc) + (7 : Int32)) / (8 : Int32))), (3, .int (zb zq.toNatClampNeg)), (0, .ref om), (1, .int a1), (2, .int a2)]) hx hb dZM_readRow_220 hl (by decide) rfl (fun ls hl => ?_)
                      refine lv_iinc (v := x6_69 + (1 : Int32)) (lv' := [(6, .int (x6_69 + (1 : Int32))), (5, .int (0 : Int32)), (9, .int t0_j164), (8, .int ((a1 * zc) + x6_69)), (7, .int x7_84e), (4, .int ((((zb zq.toNatClampNeg) * zc) + (7 : Int32)) / (8 : Int32))), (3, .int (zb zq.toNatClampNeg)), (0, .ref om), (1, .int a1), (2, .int a2)]) hx hb dZM_readRow_222 hl (k := 4) rfl rfl (by decide) rfl (fun ls hl => ?_)
                      refine lv_goto (tgt := 69) hx hb dZM_readRow_225 (by decide) ?_
                      exact ih69 (0 : Int32) (x6_69 + (1 : Int32)) (upd f_69_ozo ((a1 * zc) + x6_69).toNatClampNeg (t0_j164 + t0_j195)) hw _ _ (hP.sub [0, 1, 2, 3, 4, 5, 6, 7, 8] rfl) (hD.sub [0, 1, 2, 3, 4, 5, 6, 7, 8] (by decide) rfl) hS ls (lv_sub hl [0, 1, 5, 6, 7, 8, 9] rfl)
                    · have hw := hw.2 c_12
                      refine lv_iconst (v := (1 : Int32)) hx hb dZM_readRow_215 (by decide) ?_
                      refine lv_goto (tgt := 220) hx hb dZM_readRow_216 (by decide) ?_
                      refine lv_istore (lv' := [(5, .int (1 : Int32)), (9, .int t0_j164), (8, .int ((a1 * zc) + x6_69)), (7, .int x7_84e), (6, .int x6_69), (4, .int ((((zb zq.toNatClampNeg) * zc) + (7 : Int32)) / (8 : Int32))), (3, .int (zb zq.toNatClampNeg)), (0, .ref om), (1, .int a1), (2, .int a2)]) hx hb dZM_readRow_220 hl (by decide) rfl (fun ls hl => ?_)
                      refine lv_iinc (v := x6_69 + (1 : Int32)) (lv' := [(6, .int (x6_69 + (1 : Int32))), (5, .int (1 : Int32)), (9, .int t0_j164), (8, .int ((a1 * zc) + x6_69)), (7, .int x7_84e), (4, .int ((((zb zq.toNatClampNeg) * zc) + (7 : Int32)) / (8 : Int32))), (3, .int (zb zq.toNatClampNeg)), (0, .ref om), (1, .int a1), (2, .int a2)]) hx hb dZM_readRow_222 hl (k := 4) rfl rfl (by decide) rfl (fun ls hl => ?_)
                      refine lv_goto (tgt := 69) hx hb dZM_readRow_225 (by decide) ?_
                      exact ih69 (1 : Int32) (x6_69 + (1 : Int32)) (upd f_69_ozo ((a1 * zc) + x6_69).toNatClampNeg (t0_j164 + t0_j195)) hw _ _ (hP.sub [0, 1, 2, 3, 4, 5, 6, 7, 8] rfl) (hD.sub [0, 1, 2, 3, 4, 5, 6, 7, 8] (by decide) rfl) hS ls (lv_sub hl [0, 1, 5, 6, 7, 8, 9] rfl)
                refine lv_if_ne (tgt := 188) hx hb dZM_readRow_178 (by decide) (fun c_13 => ?_) (fun c_13 => ?_)
                · have hw := hw.2 c_13
                  refine lv_iload hx hb dZM_readRow_188 (lv_at hl 2 rfl) ?_
                  refine lv_iconst (v := (1 : Int32)) hx hb dZM_readRow_190 (by decide) ?_
                  refine lv_iadd hx hb dZM_readRow_191 ?_
                  refine lv_ineg hx hb dZM_readRow_192 ?_
                  refine lv_iconst (v := (2 : Int32)) hx hb dZM_readRow_193 (by decide) ?_
                  refine lv_idiv hx hb dZM_readRow_194 (by decide) ?_
                  exact j195 ((-(x7_84e + (1 : Int32))) / (2 : Int32)) hw _ _ (hP.sub [0, 1, 2, 3, 4, 5, 6, 7, 8] rfl) (hD.sub [0, 1, 2, 3, 4, 5, 6, 7, 8] (by decide) rfl) hS ls (lv_sub hl [0, 1, 2, 3, 4, 5, 6, 7, 8, 9] rfl)
                · have hw := hw.1 c_13
                  refine lv_iload hx hb dZM_readRow_181 (lv_at hl 2 rfl) ?_
                  refine lv_iconst (v := (2 : Int32)) hx hb dZM_readRow_183 (by decide) ?_
                  refine lv_idiv hx hb dZM_readRow_184 (by decide) ?_
                  refine lv_goto (tgt := 195) hx hb dZM_readRow_185 (by decide) ?_
                  exact j195 (x7_84e / (2 : Int32)) hw _ _ (hP.sub [0, 1, 2, 3, 4, 5, 6, 7, 8] rfl) (hD.sub [0, 1, 2, 3, 4, 5, 6, 7, 8] (by decide) rfl) hS ls (lv_sub hl [0, 1, 2, 3, 4, 5, 6, 7, 8, 9] rfl)
              refine lv_if_ne (tgt := 135) hx hb dZM_readRow_128 (by decide) (fun c_14 => ?_) (fun c_14 => ?_)
              · have hw := hw.2 c_14
                refine lv_iload hx hb dZM_readRow_135 (lv_at hl 2 rfl) ?_
                refine lv_if_ne (tgt := 155) hx hb dZM_readRow_137 (by decide) (fun c_15 => ?_) (fun c_15 => ?_)
                · have hw := hw.2 c_15
                  refine lv_aload_n hx hb dZM_readRow_155 rfl (lv_at hl 6 rfl) ?_
                  refine va_get (D := (dC, dI)) (ci := 6) (v := .ref ozo) (C := RZM) (T := TZM) (N := 19) hx hb hts inZM hown hK hP 0 rfl rfl 8 (by decide) (hts _ mm_626) (fun _ h9 => h9) rfl dZM_readRow_156 ?_
                  refine lv_iload hx hb dZM_readRow_159 (lv_at hl 0 rfl) ?_
                  refine lv_iconst (v := (1 : Int32)) hx hb dZM_readRow_161 (by decide) ?_
                  refine lv_isub hx hb dZM_readRow_162 ?_
                  obtain ⟨h_16, hw⟩ := hw
                  refine va_iald hx hb hK hP 5 0 rfl rfl h_16 dZM_readRow_163 ?_
                  exact j164 (f_69_ozo (((a1 * zc) + x6_69) - (1 : Int32)).toNatClampNeg) hw _ _ (hP.sub [0, 1, 2, 3, 4, 5, 6, 7, 8] rfl) (hD.sub [0, 1, 2, 3, 4, 5, 6, 7, 8] (by decide) rfl) hS ls (lv_sub hl [0, 1, 2, 3, 4, 5, 6, 7, 8] rfl)
                · have hw := hw.1 c_15
                  refine lv_aload_n hx hb dZM_readRow_140 rfl (lv_at hl 6 rfl) ?_
                  refine va_get (D := (dC, dI)) (ci := 6) (v := .ref ozo) (C := RZM) (T := TZM) (N := 19) hx hb hts inZM hown hK hP 0 rfl rfl 8 (by decide) (hts _ mm_626) (fun _ h9 => h9) rfl dZM_readRow_141 ?_
                  refine lv_iload hx hb dZM_readRow_144 (lv_at hl 0 rfl) ?_
                  refine lv_aload_n hx hb dZM_readRow_146 rfl (lv_at hl 6 rfl) ?_
                  refine va_get (D := (dC, dI)) (ci := 6) (v := .int zc) (C := RZM) (T := TZM) (N := 19) hx hb hts inZM hown hK hP 0 rfl rfl 9 (by decide) (hts _ mm_627) (fun _ h9 => h9) rfl dZM_readRow_147 ?_
                  refine lv_isub hx hb dZM_readRow_150 ?_
                  obtain ⟨h_17, hw⟩ := hw
                  refine va_iald hx hb hK hP 5 0 rfl rfl h_17 dZM_readRow_151 ?_
                  refine lv_goto (tgt := 164) hx hb dZM_readRow_152 (by decide) ?_
                  exact j164 (f_69_ozo (((a1 * zc) + x6_69) - zc).toNatClampNeg) hw _ _ (hP.sub [0, 1, 2, 3, 4, 5, 6, 7, 8] rfl) (hD.sub [0, 1, 2, 3, 4, 5, 6, 7, 8] (by decide) rfl) hS ls (lv_sub hl [0, 1, 2, 3, 4, 5, 6, 7, 8] rfl)
              · have hw := hw.1 c_14
                refine lv_iconst (v := (0 : Int32)) hx hb dZM_readRow_131 (by decide) ?_
                refine lv_goto (tgt := 164) hx hb dZM_readRow_132 (by decide) ?_
                exact j164 (0 : Int32) hw _ _ (hP.sub [0, 1, 2, 3, 4, 5, 6, 7, 8] rfl) (hD.sub [0, 1, 2, 3, 4, 5, 6, 7, 8] (by decide) rfl) hS ls (lv_sub hl [0, 1, 2, 3, 4, 5, 6, 7, 8] rfl)
        obtain ⟨n69, hw⟩ := hw
        refine lp69 _ (fun x5_69e x6_69e f_69e_ozo hw H locs hP hD hS ls hl => ?_) n69 (1 : Int32) (0 : Int32) zo hw _ _ (hP.sub [0, 1, 2, 3, 4, 5, 6, 7, 8] rfl) (hD.sub [0, 1, 2, 3, 4, 5, 6, 7, 8] (by decide) rfl) hS ls (lv_sub hl [0, 1, 2, 3, 4, 5, 6] rfl)
        refine lv_iload_n hx hb dZM_readRow_228 rfl (lv_at hl 3 rfl) ?_
        refine lv_aload_n hx hb dZM_readRow_229 rfl (lv_at hl 4 rfl) ?_
        refine va_get (D := (dC, dI)) (ci := 6) (v := .int zc) (C := RZM) (T := TZM) (N := 19) hx hb hts inZM hown hK hP 0 rfl rfl 9 (by decide) (hts _ mm_627) (fun _ h9 => h9) rfl dZM_readRow_230 ?_
        refine lv_imul hx hb dZM_readRow_233 ?_
        refine lv_istore (lv' := [(6, .int ((zb zq.toNatClampNeg) * zc)), (5, .int x5_69e), (4, .int ((((zb zq.toNatClampNeg) * zc) + (7 : Int32)) / (8 : Int32))), (3, .int (zb zq.toNatClampNeg)), (0, .ref om), (1, .int a1), (2, .int a2)]) hx hb dZM_readRow_234 hl (by decide) rfl (fun ls hl => ?_)
        have lp236 : ∀ K236 : Int32 → Int32 → Prop, (∀ (x5_236 : Int32) (x6_236 : Int32), K236 x5_236 x6_236 → ∀ (H : Heap) (locs : List Loc), va_P (dC, dI) vwCl [(om, .inr (6, [.int zt, .int zw, .int zh, .ref ozp, .ref ozs, .ref ozb, .int zz, .ref ozl, .ref ozo, .int zc, .int zr, .int zu, .int zv, .int (zq + (1 : Int32)), .int zi, .ref ozk, .ref ozm, .int zd, .ref ozg])), (ozp, .inl (cI, 1600, .inl zp)), (ozs, .inl (cI, 320, .inl zs)), (ozb, .inl (cI, 256, .inl zb)), (ozl, .inl (cI, 64, .inl zl)), (ozo, .inl (cI, 64, .inl f_69e_ozo)), (ozk, .inl (cI, 320, .inl zk)), (ozm, .inl (cI, 40, .inl zm)), (ozg, .inl (cI, 64, .inl zg))] H → va_D A [(om, .inr (6, [.int zt, .int zw, .int zh, .ref ozp, .ref ozs, .ref ozb, .int zz, .ref ozl, .ref ozo, .int zc, .int zr, .int zu, .int zv, .int (zq + (1 : Int32)), .int zi, .ref ozk, .ref ozm, .int zd, .ref ozg])), (ozp, .inl (cI, 1600, .inl zp)), (ozs, .inl (cI, 320, .inl zs)), (ozb, .inl (cI, 256, .inl zb)), (ozl, .inl (cI, 64, .inl zl)), (ozo, .inl (cI, 64, .inl f_69e_ozo)), (ozk, .inl (cI, 320, .inl zk)), (ozm, .inl (cI, 40, .inl zm)), (ozg, .inl (cI, 64, .inl zg))] → va_S A s.heap H locs → ∀ ls : Array Slot, lv_has ls 10 [(6, .int x6_236), (5, .int x5_236), (4, .int ((((zb zq.toNatClampNeg) * zc) + (7 : Int32)) / (8 : Int32))), (3, .int (zb zq.toNatClampNeg)), (0, .ref om), (1, .int a1), (2, .int a2)] → W p l e (headSpec wsZM_readRow rm_ZM_readRow).room s m args below meth c H locs 0 0 Q9 (F0 m 273 ls [])) → ∀ (n : Nat) (x5_236 : Int32) (x6_236 : Int32), lp_ZM_readRow_236 zt zw zh zp zs zb zz zl zo zc zr zu zv zq zi zk zm zd zg a1 a2 x5_69e x6_69e f_69e_ozo post K236 n x5_236 x6_236 → ∀ (H : Heap) (locs : List Loc), va_P (dC, dI) vwCl [(om, .inr (6, [.int zt, .int zw, .int zh, .ref ozp, .ref ozs, .ref ozb, .int zz, .ref ozl, .ref ozo, .int zc, .int zr, .int zu, .int zv, .int (zq + (1 : Int32)), .int zi, .ref ozk, .ref ozm, .int zd, .ref ozg])), (ozp, .inl (cI, 1600, .inl zp)), (ozs, .inl (cI, 320, .inl zs)), (ozb, .inl (cI, 256, .inl zb)), (ozl, .inl (cI, 64, .inl zl)), (ozo, .inl (cI, 64, .inl f_69e_ozo)), (ozk, .inl (cI, 320, .inl zk)), (ozm, .inl (cI, 40, .inl zm)), (ozg, .inl (cI, 64, .inl zg))] H → va_D A [(om, .inr (6, [.int zt, .int zw, .int zh, .ref ozp, .ref ozs, .ref ozb, .int zz, .ref ozl, .ref ozo, .int zc, .int zr, .int zu, .int zv, .int (zq + (1 : Int32)), .int zi, .ref ozk, .ref ozm, .int zd, .ref ozg])), (ozp, .inl (cI, 1600, .inl zp)), (ozs, .inl (cI, 320, .inl zs)), (ozb, .inl (cI, 256, .inl zb)), (ozl, .inl (cI, 64, .inl zl)), (ozo, .inl (cI, 64, .inl f_69e_ozo)), (ozk, .inl (cI, 320, .inl zk)), (ozm, .inl (cI, 40, .inl zm)), (ozg, .inl (cI, 64, .inl zg))] → va_S A s.heap H locs → ∀ ls : Array Slot, lv_has ls 10 [(6, .int x6_236), (5, .int x5_236), (4, .int ((((zb zq.toNatClampNeg) * zc) + (7 : Int32)) / (8 : Int32))), (3, .int (zb zq.toNatClampNeg)), (0, .ref om), (1, .int a1), (2, .int a2)] → W p l e (headSpec wsZM_readRow rm_ZM_readRow).room s m args below meth c H locs 0 0 Q9 (F0 m 236 ls []) := by
          intro K236 aft236 n
          induction n with
          | zero => intro x5_236 x6_236 hw; exact False.elim hw
          | succ n ih236 =>
            intro x5_236 x6_236 hw H locs hP hD hS ls hl
            refine lv_iload hx hb dZM_readRow_236 (lv_at hl 0 rfl) ?_
            refine lv_bipush (v := (8 : Int32)) hx hb dZM_readRow_238 (by decide) ?_
            refine lv_iload hx hb dZM_readRow_240 (lv_at hl 2 rfl) ?_
            refine lv_imul hx hb dZM_readRow_242 ?_
            refine lv_icmp_ge (tgt := 273) hx hb dZM_readRow_243 (by decide) (fun c_18 => ?_) (fun c_18 => ?_)
            · have hw := hw.1 c_18
              exact aft236 x5_236 x6_236 hw _ _ (hP.sub [0, 1, 2, 3, 4, 5, 6, 7, 8] rfl) (hD.sub [0, 1, 2, 3, 4, 5, 6, 7, 8] (by decide) rfl) hS ls (lv_sub hl [0, 1, 2, 3, 4, 5, 6] rfl)
            · have hw := hw.2 c_18
              refine lv_iload hx hb dZM_readRow_246 (lv_at hl 1 rfl) ?_
              refine lv_if_eq (tgt := 264) hx hb dZM_readRow_248 (by decide) (fun c_19 => ?_) (fun c_19 => ?_)
              · have hw := hw.1 c_19
                refine lv_iconst (v := (0 : Int32)) hx hb dZM_readRow_264 (by decide) ?_
                refine lv_istore (lv' := [(5, .int (0 : Int32)), (6, .int x6_236), (4, .int ((((zb zq.toNatClampNeg) * zc) + (7 : Int32)) / (8 : Int32))), (3, .int (zb zq.toNatClampNeg)), (0, .ref om), (1, .int a1), (2, .int a2)]) hx hb dZM_readRow_265 hl (by decide) rfl (fun ls hl => ?_)
                refine lv_iinc (v := x6_236 + (1 : Int32)) (lv' := [(6, .int (x6_236 + (1 : Int32))), (5, .int (0 : Int32)), (4, .int ((((zb zq.toNatClampNeg) * zc) + (7 : Int32)) / (8 : Int32))), (3, .int (zb zq.toNatClampNeg)), (0, .ref om), (1, .int a1), (2, .int a2)]) hx hb dZM_readRow_267 hl (k := 1) rfl rfl (by decide) rfl (fun ls hl => ?_)
                refine lv_goto (tgt := 236) hx hb dZM_readRow_270 (by decide) ?_
                exact ih236 (0 : Int32) (x6_236 + (1 : Int32)) hw _ _ (hP.sub [0, 1, 2, 3, 4, 5, 6, 7, 8] rfl) (hD.sub [0, 1, 2, 3, 4, 5, 6, 7, 8] (by decide) rfl) hS ls (lv_sub hl [0, 1, 2, 3, 4, 5, 6] rfl)
              · have hw := hw.2 c_19
                refine lv_aload_n hx hb dZM_readRow_251 rfl (lv_at hl 4 rfl) ?_
                refine lv_iload hx hb dZM_readRow_252 (lv_at hl 0 rfl) ?_
                refine vp_callSi (va_runV (As := [.int x6_236]) (rest := []) ⟨hx, hb, hml, hown, hts⟩ (kt_ZM_bitAt l dC dI cI om ozp ozs ozb ozl ozo ozk ozm ozg zt zw zh zp zs zb zz zl f_69e_ozo zc zr zu zv (zq + (1 : Int32)) zi zk zm zd zg x6_236 _ hw) (cwV 1 hts (tb_V mm_828 mm_830 mp_21 mm_8 mm_831) rfl rfl rfl (by decide +kernel) ⟨Nat.le_of_ble_eq_true rfl, Nat.le_of_ble_eq_true rfl⟩) ⟨gr_blind, va_recv hK hP (ci := 6) (q0 := 0) rfl rfl, fun U hU hW => gr_pre hP hK hE hU hW⟩ rfl rfl hl.1 rfl (lv_room (Nat.le_of_ble_eq_true rfl)) dZM_readRow_254 ⟨Nat.le_of_ble_eq_true rfl, Nat.le_of_ble_eq_true rfl⟩).run (fun r_20 hw => ?_)
                refine lv_if_ne (tgt := 264) hx hb dZM_readRow_257 (by decide) (fun c_21 => ?_) (fun c_21 => ?_)
                · have hw := hw.2 c_21
                  refine lv_iconst (v := (0 : Int32)) hx hb dZM_readRow_264 (by decide) ?_
                  refine lv_istore (lv' := [(5, .int (0 : Int32)), (6, .int x6_236), (4, .int ((((zb zq.toNatClampNeg) * zc) + (7 : Int32)) / (8 : Int32))), (3, .int (zb zq.toNatClampNeg)), (0, .ref om), (1, .int a1), (2, .int a2)]) hx hb dZM_readRow_265 hl (by decide) rfl (fun ls hl => ?_)
                  refine lv_iinc (v := x6_236 + (1 : Int32)) (lv' := [(6, .int (x6_236 + (1 : Int32))), (5, .int (0 : Int32)), (4, .int ((((zb zq.toNatClampNeg) * zc) + (7 : Int32)) / (8 : Int32))), (3, .int (zb zq.toNatClampNeg)), (0, .ref om), (1, .int a1), (2, .int a2)]) hx hb dZM_readRow_267 hl (k := 1) rfl rfl (by decide) rfl (fun ls hl => ?_)
                  refine lv_goto (tgt := 236) hx hb dZM_readRow_270 (by decide) ?_
                  exact ih236 (0 : Int32) (x6_236 + (1 : Int32)) hw _ _ (hP.sub [0, 1, 2, 3, 4, 5, 6, 7, 8] rfl) (hD.sub [0, 1, 2, 3, 4, 5, 6, 7, 8] (by decide) rfl) hS ls (lv_sub hl [0, 1, 2, 3, 4, 5, 6] rfl)
                · have hw := hw.1 c_21
                  refine lv_iconst (v := (1 : Int32)) hx hb dZM_readRow_260 (by decide) ?_
                  refine lv_goto (tgt := 265) hx hb dZM_readRow_261 (by decide) ?_
                  refine lv_istore (lv' := [(5, .int (1 : Int32)), (6, .int x6_236), (4, .int ((((zb zq.toNatClampNeg) * zc) + (7 : Int32)) / (8 : Int32))), (3, .int (zb zq.toNatClampNeg)), (0, .ref om), (1, .int a1), (2, .int a2)]) hx hb dZM_readRow_265 hl (by decide) rfl (fun ls hl => ?_)
                  refine lv_iinc (v := x6_236 + (1 : Int32)) (lv' := [(6, .int (x6_236 + (1 : Int32))), (5, .int (1 : Int32)), (4, .int ((((zb zq.toNatClampNeg) * zc) + (7 : Int32)) / (8 : Int32))), (3, .int (zb zq.toNatClampNeg)), (0, .ref om), (1, .int a1), (2, .int a2)]) hx hb dZM_readRow_267 hl (k := 1) rfl rfl (by decide) rfl (fun ls hl => ?_)
                  refine lv_goto (tgt := 236) hx hb dZM_readRow_270 (by decide) ?_
                  exact ih236 (1 : Int32) (x6_236 + (1 : Int32)) hw _ _ (hP.sub [0, 1, 2, 3, 4, 5, 6, 7, 8] rfl) (hD.sub [0, 1, 2, 3, 4, 5, 6, 7, 8] (by decide) rfl) hS ls (lv_sub hl [0, 1, 2, 3, 4, 5, 6] rfl)
        obtain ⟨n236, hw⟩ := hw
        refine lp236 _ (fun x5_236e x6_236e hw H locs hP hD hS ls hl => ?_) n236 x5_69e ((zb zq.toNatClampNeg) * zc) hw _ _ (hP.sub [0, 1, 2, 3, 4, 5, 6, 7, 8] rfl) (hD.sub [0, 1, 2, 3, 4, 5, 6, 7, 8] (by decide) rfl) hS ls (lv_sub hl [0, 1, 2, 3, 4, 5, 6] rfl)
        refine lv_aload_n hx hb dZM_readRow_273 rfl (lv_at hl 4 rfl) ?_
        refine lv_dup hx hb dZM_readRow_274 rfl ?_
        refine va_get (D := (dC, dI)) (ci := 6) (v := .int (zq + (1 : Int32))) (C := RZM) (T := TZM) (N := 19) hx hb hts inZM hown hK hP 0 rfl rfl 13 (by decide) (hts _ mm_631) (fun _ h9 => h9) rfl dZM_readRow_275 ?_
        refine lv_iload hx hb dZM_readRow_278 (lv_at hl 2 rfl) ?_
        refine lv_iadd hx hb dZM_readRow_280 ?_
        refine va_put (D := (dC, dI)) (ci := 6) (v := .int ((zq + (1 : Int32)) + ((((zb zq.toNatClampNeg) * zc) + (7 : Int32)) / (8 : Int32)))) (ty := .int) (C := RZM) (T := TZM) (N := 19) hx hb hts inZM tyZM tyZM_ok nmZM hown hK hP hD hS 0 rfl rfl 13 (by decide) (hts _ mm_631) (fun _ h9 => h9) rfl (by decide +kernel) rfl rfl (Nat.le_of_ble_eq_true rfl) dZM_readRow_281 (fun H locs hP hD hS => ?_)
        have hP : va_P (dC, dI) vwCl [(om, .inr (6, [.int zt, .int zw, .int zh, .ref ozp, .ref ozs, .ref ozb, .int zz, .ref ozl, .ref ozo, .int zc, .int zr, .int zu, .int zv, .int ((zq + (1 : Int32)) + ((((zb zq.toNatClampNeg) * zc) + (7 : Int32)) / (8 : Int32))), .int zi, .ref ozk, .ref ozm, .int zd, .ref ozg])), (ozp, .inl (cI, 1600, .inl zp)), (ozs, .inl (cI, 320, .inl zs)), (ozb, .inl (cI, 256, .inl zb)), (ozl, .inl (cI, 64, .inl zl)), (ozo, .inl (cI, 64, .inl f_69e_ozo)), (ozk, .inl (cI, 320, .inl zk)), (ozm, .inl (cI, 40, .inl zm)), (ozg, .inl (cI, 64, .inl zg))] H := hP
        have hD : va_D A [(om, .inr (6, [.int zt, .int zw, .int zh, .ref ozp, .ref ozs, .ref ozb, .int zz, .ref ozl, .ref ozo, .int zc, .int zr, .int zu, .int zv, .int ((zq + (1 : Int32)) + ((((zb zq.toNatClampNeg) * zc) + (7 : Int32)) / (8 : Int32))), .int zi, .ref ozk, .ref ozm, .int zd, .ref ozg])), (ozp, .inl (cI, 1600, .inl zp)), (ozs, .inl (cI, 320, .inl zs)), (ozb, .inl (cI, 256, .inl zb)), (ozl, .inl (cI, 64, .inl zl)), (ozo, .inl (cI, 64, .inl f_69e_ozo)), (ozk, .inl (cI, 320, .inl zk)), (ozm, .inl (cI, 40, .inl zm)), (ozg, .inl (cI, 64, .inl zg))] := hD
        refine lv_iload hx hb dZM_readRow_284 (lv_at hl 1 rfl) ?_
        refine lv_if_eq (tgt := 309) hx hb dZM_readRow_286 (by decide) (fun c_22 => ?_) (fun c_22 => ?_)
        · have hw := hw.1 c_22
          refine lv_iconst (v := (0 : Int32)) hx hb dZM_readRow_309 (by decide) ?_
          have hP9 := hP.sub (ws' := [(om, .inr (6, [.int zt, .int zw, .int zh, .ref ozp, .ref ozs, .ref ozb, .int zz, .ref ozl, .ref ozo, .int zc, .int zr, .int zu, .int zv, .int ((zq + (1 : Int32)) + ((((zb zq.toNatClampNeg) * zc) + (7 : Int32)) / (8 : Int32))), .int zi, .ref ozk, .ref ozm, .int zd, .ref ozg])), (ozp, .inl (cI, 1600, .inl zp)), (ozs, .inl (cI, 320, .inl zs)), (ozb, .inl (cI, 256, .inl zb)), (ozl, .inl (cI, 64, .inl zl)), (ozo, .inl (cI, 64, .inl f_69e_ozo)), (ozk, .inl (cI, 320, .inl zk)), (ozm, .inl (cI, 40, .inl zm)), (ozg, .inl (cI, 64, .inl zg))]) [0, 1, 2, 3, 4, 5, 6, 7, 8] rfl
          have hD9 := hD.sub (ws' := [(om, .inr (6, [.int zt, .int zw, .int zh, .ref ozp, .ref ozs, .ref ozb, .int zz, .ref ozl, .ref ozo, .int zc, .int zr, .int zu, .int zv, .int ((zq + (1 : Int32)) + ((((zb zq.toNatClampNeg) * zc) + (7 : Int32)) / (8 : Int32))), .int zi, .ref ozk, .ref ozm, .int zd, .ref ozg])), (ozp, .inl (cI, 1600, .inl zp)), (ozs, .inl (cI, 320, .inl zs)), (ozb, .inl (cI, 256, .inl zb)), (ozl, .inl (cI, 64, .inl zl)), (ozo, .inl (cI, 64, .inl f_69e_ozo)), (ozk, .inl (cI, 320, .inl zk)), (ozm, .inl (cI, 40, .inl zm)), (ozg, .inl (cI, 64, .inl zg))]) [0, 1, 2, 3, 4, 5, 6, 7, 8] (by decide) rfl
          subst hQ9
          exact W.zret (v := (0 : Int32)) (ty := .boolean) hx hb hr rfl (fun t ht hW => ⟨⟨(0 : Int32), (f_69e_ozo, (zq + (1 : Int32)) + ((((zb zq.toNatClampNeg) * zc) + (7 : Int32)) / (8 : Int32))), rfl, hw, by rw [ht]; exact hP9, va_K.moved hW.alike hK, hD9⟩, hS.F ht⟩) hS.2.2 dZM_readRow_310
        · have hw := hw.2 c_22
          refine lv_aload_n hx hb dZM_readRow_289 rfl (lv_at hl 4 rfl) ?_
          refine va_get (D := (dC, dI)) (ci := 6) (v := .ref ozo) (C := RZM) (T := TZM) (N := 19) hx hb hts inZM hown hK hP 0 rfl rfl 8 (by decide) (hts _ mm_626) (fun _ h9 => h9) rfl dZM_readRow_290 ?_
          refine lv_iload_n hx hb dZM_readRow_293 rfl (lv_at hl 5 rfl) ?_
          refine lv_aload_n hx hb dZM_readRow_294 rfl (lv_at hl 4 rfl) ?_
          refine va_get (D := (dC, dI)) (ci := 6) (v := .int zc) (C := RZM) (T := TZM) (N := 19) hx hb hts inZM hown hK hP 0 rfl rfl 9 (by decide) (hts _ mm_627) (fun _ h9 => h9) rfl dZM_readRow_295 ?_
          have hPc := hP.sub (ws' := [(ozo, .inl (cI, 64, .inl f_69e_ozo))]) [5] rfl
          refine vp_callSi (va_runS (As := [.ref ozo, .int a1, .int zc]) (rest := []) ⟨hx, hb, hml, hown, hts⟩ (kt_ZM_rowBits l dC dI cI ozo 64 f_69e_ozo a1 zc _ hw) (va_cwS 3 hts (tb_S mm_786 mm_787 mm_8 mm_788) rfl rfl rfl (by decide +kernel) ⟨Nat.le_of_ble_eq_true rfl, Nat.le_of_ble_eq_true rfl⟩) ⟨gr_blind, fun U hU hW => gr_pre hPc hK hE hU hW⟩ rfl rfl hl.1 rfl (lv_room (Nat.le_of_ble_eq_true rfl)) dZM_readRow_298 ⟨Nat.le_of_ble_eq_true rfl, Nat.le_of_ble_eq_true rfl⟩).run (fun r_23 hw => ?_)
          refine lv_iload_n hx hb dZM_readRow_301 rfl (lv_at hl 3 rfl) ?_
          refine lv_icmp_ne (tgt := 309) hx hb dZM_readRow_302 (by decide) (fun c_24 => ?_) (fun c_24 => ?_)
          · have hw := hw.2 c_24
            refine lv_iconst (v := (0 : Int32)) hx hb dZM_readRow_309 (by decide) ?_
            have hP9 := hP.sub (ws' := [(om, .inr (6, [.int zt, .int zw, .int zh, .ref ozp, .ref ozs, .ref ozb, .int zz, .ref ozl, .ref ozo, .int zc, .int zr, .int zu, .int zv, .int ((zq + (1 : Int32)) + ((((zb zq.toNatClampNeg) * zc) + (7 : Int32)) / (8 : Int32))), .int zi, .ref ozk, .ref ozm, .int zd, .ref ozg])), (ozp, .inl (cI, 1600, .inl zp)), (ozs, .inl (cI, 320, .inl zs)), (ozb, .inl (cI, 256, .inl zb)), (ozl, .inl (cI, 64, .inl zl)), (ozo, .inl (cI, 64, .inl f_69e_ozo)), (ozk, .inl (cI, 320, .inl zk)), (ozm, .inl (cI, 40, .inl zm)), (ozg, .inl (cI, 64, .inl zg))]) [0, 1, 2, 3, 4, 5, 6, 7, 8] rfl
            have hD9 := hD.sub (ws' := [(om, .inr (6, [.int zt, .int zw, .int zh, .ref ozp, .ref ozs, .ref ozb, .int zz, .ref ozl, .ref ozo, .int zc, .int zr, .int zu, .int zv, .int ((zq + (1 : Int32)) + ((((zb zq.toNatClampNeg) * zc) + (7 : Int32)) / (8 : Int32))), .int zi, .ref ozk, .ref ozm, .int zd, .ref ozg])), (ozp, .inl (cI, 1600, .inl zp)), (ozs, .inl (cI, 320, .inl zs)), (ozb, .inl (cI, 256, .inl zb)), (ozl, .inl (cI, 64, .inl zl)), (ozo, .inl (cI, 64, .inl f_69e_ozo)), (ozk, .inl (cI, 320, .inl zk)), (ozm, .inl (cI, 40, .inl zm)), (ozg, .inl (cI, 64, .inl zg))]) [0, 1, 2, 3, 4, 5, 6, 7, 8] (by decide) rfl
            subst hQ9
            exact W.zret (v := (0 : Int32)) (ty := .boolean) hx hb hr rfl (fun t ht hW => ⟨⟨(0 : Int32), (f_69e_ozo, (zq + (1 : Int32)) + ((((zb zq.toNatClampNeg) * zc) + (7 : Int32)) / (8 : Int32))), rfl, hw, by rw [ht]; exact hP9, va_K.moved hW.alike hK, hD9⟩, hS.F ht⟩) hS.2.2 dZM_readRow_310
          · have hw := hw.1 c_24
            refine lv_iconst (v := (1 : Int32)) hx hb dZM_readRow_305 (by decide) ?_
            refine lv_goto (tgt := 310) hx hb dZM_readRow_306 (by decide) ?_
            have hP9 := hP.sub (ws' := [(om, .inr (6, [.int zt, .int zw, .int zh, .ref ozp, .ref ozs, .ref ozb, .int zz, .ref ozl, .ref ozo, .int zc, .int zr, .int zu, .int zv, .int ((zq + (1 : Int32)) + ((((zb zq.toNatClampNeg) * zc) + (7 : Int32)) / (8 : Int32))), .int zi, .ref ozk, .ref ozm, .int zd, .ref ozg])), (ozp, .inl (cI, 1600, .inl zp)), (ozs, .inl (cI, 320, .inl zs)), (ozb, .inl (cI, 256, .inl zb)), (ozl, .inl (cI, 64, .inl zl)), (ozo, .inl (cI, 64, .inl f_69e_ozo)), (ozk, .inl (cI, 320, .inl zk)), (ozm, .inl (cI, 40, .inl zm)), (ozg, .inl (cI, 64, .inl zg))]) [0, 1, 2, 3, 4, 5, 6, 7, 8] rfl
            have hD9 := hD.sub (ws' := [(om, .inr (6, [.int zt, .int zw, .int zh, .ref ozp, .ref ozs, .ref ozb, .int zz, .ref ozl, .ref ozo, .int zc, .int zr, .int zu, .int zv, .int ((zq + (1 : Int32)) + ((((zb zq.toNatClampNeg) * zc) + (7 : Int32)) / (8 : Int32))), .int zi, .ref ozk, .ref ozm, .int zd, .ref ozg])), (ozp, .inl (cI, 1600, .inl zp)), (ozs, .inl (cI, 320, .inl zs)), (ozb, .inl (cI, 256, .inl zb)), (ozl, .inl (cI, 64, .inl zl)), (ozo, .inl (cI, 64, .inl f_69e_ozo)), (ozk, .inl (cI, 320, .inl zk)), (ozm, .inl (cI, 40, .inl zm)), (ozg, .inl (cI, 64, .inl zg))]) [0, 1, 2, 3, 4, 5, 6, 7, 8] (by decide) rfl
            subst hQ9
            exact W.zret (v := (1 : Int32)) (ty := .boolean) hx hb hr rfl (fun t ht hW => ⟨⟨(1 : Int32), (f_69e_ozo, (zq + (1 : Int32)) + ((((zb zq.toNatClampNeg) * zc) + (7 : Int32)) / (8 : Int32))), rfl, hw, by rw [ht]; exact hP9, va_K.moved hW.alike hK, hD9⟩, hS.F ht⟩) hS.2.2 dZM_readRow_310
      · have hw := hw.2 c_4
        refine lv_iconst (v := (0 : Int32)) hx hb dZM_readRow_61 (by decide) ?_
        have hP9 := hP.sub (ws' := [(om, .inr (6, [.int zt, .int zw, .int zh, .ref ozp, .ref ozs, .ref ozb, .int zz, .ref ozl, .ref ozo, .int zc, .int zr, .int zu, .int zv, .int (zq + (1 : Int32)), .int zi, .ref ozk, .ref ozm, .int zd, .ref ozg])), (ozp, .inl (cI, 1600, .inl zp)), (ozs, .inl (cI, 320, .inl zs)), (ozb, .inl (cI, 256, .inl zb)), (ozl, .inl (cI, 64, .inl zl)), (ozo, .inl (cI, 64, .inl zo)), (ozk, .inl (cI, 320, .inl zk)), (ozm, .inl (cI, 40, .inl zm)), (ozg, .inl (cI, 64, .inl zg))]) [0, 1, 2, 3, 4, 5, 6, 7, 8] rfl
        have hD9 := hD.sub (ws' := [(om, .inr (6, [.int zt, .int zw, .int zh, .ref ozp, .ref ozs, .ref ozb, .int zz, .ref ozl, .ref ozo, .int zc, .int zr, .int zu, .int zv, .int (zq + (1 : Int32)), .int zi, .ref ozk, .ref ozm, .int zd, .ref ozg])), (ozp, .inl (cI, 1600, .inl zp)), (ozs, .inl (cI, 320, .inl zs)), (ozb, .inl (cI, 256, .inl zb)), (ozl, .inl (cI, 64, .inl zl)), (ozo, .inl (cI, 64, .inl zo)), (ozk, .inl (cI, 320, .inl zk)), (ozm, .inl (cI, 40, .inl zm)), (ozg, .inl (cI, 64, .inl zg))]) [0, 1, 2, 3, 4, 5, 6, 7, 8] (by decide) rfl
        subst hQ9
        exact W.zret (v := (0 : Int32)) (ty := .boolean) hx hb hr rfl (fun t ht hW => ⟨⟨(0 : Int32), (zo, zq + (1 : Int32)), rfl, hw, by rw [ht]; exact hP9, va_K.moved hW.alike hK, hD9⟩, hS.F ht⟩) hS.2.2 dZM_readRow_62
  · have hw := hw.2 c_1
    refine lv_iconst (v := (0 : Int32)) hx hb dZM_readRow_8 (by decide) ?_
    have hP9 := hP.sub (ws' := [(om, .inr (6, [.int zt, .int zw, .int zh, .ref ozp, .ref ozs, .ref ozb, .int zz, .ref ozl, .ref ozo, .int zc, .int zr, .int zu, .int zv, .int zq, .int zi, .ref ozk, .ref ozm, .int zd, .ref ozg])), (ozp, .inl (cI, 1600, .inl zp)), (ozs, .inl (cI, 320, .inl zs)), (ozb, .inl (cI, 256, .inl zb)), (ozl, .inl (cI, 64, .inl zl)), (ozo, .inl (cI, 64, .inl zo)), (ozk, .inl (cI, 320, .inl zk)), (ozm, .inl (cI, 40, .inl zm)), (ozg, .inl (cI, 64, .inl zg))]) [0, 1, 2, 3, 4, 5, 6, 7, 8] rfl
    have hD9 := hD.sub (ws' := [(om, .inr (6, [.int zt, .int zw, .int zh, .ref ozp, .ref ozs, .ref ozb, .int zz, .ref ozl, .ref ozo, .int zc, .int zr, .int zu, .int zv, .int zq, .int zi, .ref ozk, .ref ozm, .int zd, .ref ozg])), (ozp, .inl (cI, 1600, .inl zp)), (ozs, .inl (cI, 320, .inl zs)), (ozb, .inl (cI, 256, .inl zb)), (ozl, .inl (cI, 64, .inl zl)), (ozo, .inl (cI, 64, .inl zo)), (ozk, .inl (cI, 320, .inl zk)), (ozm, .inl (cI, 40, .inl zm)), (ozg, .inl (cI, 64, .inl zg))]) [0, 1, 2, 3, 4, 5, 6, 7, 8] (by decide) rfl
    subst hQ9
    exact W.zret (v := (0 : Int32)) (ty := .boolean) hx hb hr rfl (fun t ht hW => ⟨⟨(0 : Int32), (zo, zq), rfl, hw, by rw [ht]; exact hP9, va_K.moved hW.alike hK, hD9⟩, hS.F ht⟩) hS.2.2 dZM_readRow_9
theorem dZM_open_0 : decode cZM_open 0 = .ok (.aload_n 0, 1) := by decide +kernel
theorem dZM_open_1 : decode cZM_open 1 = .ok (.iconst 0, 1) := by decide +kernel
theorem dZM_open_2 : decode cZM_open 2 = .ok (.putfield 45, 3) := by decide +kernel
theorem dZM_open_5 : decode cZM_open 5 = .ok (.aload_n 0, 1) := by decide +kernel
theorem dZM_open_6 : decode cZM_open 6 = .ok (.getfield 101, 3) := by decide +kernel
theorem dZM_open_9 : decode cZM_open 9 = .ok (.iconst 2, 1) := by decide +kernel
theorem dZM_open_10 : decode cZM_open 10 = .ok (.if_icmp .lt 42, 3) := by decide +kernel
theorem dZM_open_13 : decode cZM_open 13 = .ok (.aload_n 0, 1) := by decide +kernel
theorem dZM_open_14 : decode cZM_open 14 = .ok (.aload_n 0, 1) := by decide +kernel
theorem dZM_open_15 : decode cZM_open 15 = .ok (.getfield 101, 3) := by decide +kernel
theorem dZM_open_18 : decode cZM_open 18 = .ok (.iconst 2, 1) := by decide +kernel
theorem dZM_open_19 : decode cZM_open 19 = .ok (.isub, 1) := by decide +kernel
theorem dZM_open_20 : decode cZM_open 20 = .ok (.invokevirtual 126, 3) := by decide +kernel
theorem dZM_open_23 : decode cZM_open 23 = .ok (.aload_n 0, 1) := by decide +kernel
theorem dZM_open_24 : decode cZM_open 24 = .ok (.getfield 16, 3) := by decide +kernel
theorem dZM_open_27 : decode cZM_open 27 = .ok (.aload_n 0, 1) := by decide +kernel
theorem dZM_open_28 : decode cZM_open 28 = .ok (.getfield 101, 3) := by decide +kernel
theorem dZM_open_31 : decode cZM_open 31 = .ok (.iconst 2, 1) := by decide +kernel
theorem dZM_open_32 : decode cZM_open 32 = .ok (.isub, 1) := by decide +kernel
theorem dZM_open_33 : decode cZM_open 33 = .ok (.iaload, 1) := by decide +kernel
theorem dZM_open_34 : decode cZM_open 34 = .ok (.aload_n 0, 1) := by decide +kernel
theorem dZM_open_35 : decode cZM_open 35 = .ok (.getfield 16, 3) := by decide +kernel
theorem dZM_open_38 : decode cZM_open 38 = .ok (.aload_n 0, 1) := by decide +kernel
theorem dZM_open_39 : decode cZM_open 39 = .ok (.getfield 101, 3) := by decide +kernel
theorem dZM_open_42 : decode cZM_open 42 = .ok (.iconst 1, 1) := by decide +kernel
theorem dZM_open_43 : decode cZM_open 43 = .ok (.isub, 1) := by decide +kernel
theorem dZM_open_44 : decode cZM_open 44 = .ok (.iaload, 1) := by decide +kernel
theorem dZM_open_45 : decode cZM_open 45 = .ok (.bipush 8, 2) := by decide +kernel
theorem dZM_open_47 : decode cZM_open 47 = .ok (.ishl, 1) := by decide +kernel
theorem dZM_open_48 : decode cZM_open 48 = .ok (.ior, 1) := by decide +kernel
theorem dZM_open_49 : decode cZM_open 49 = .ok (.if_icmp .eq 5, 3) := by decide +kernel
theorem dZM_open_52 : decode cZM_open 52 = .ok (.iconst 0, 1) := by decide +kernel
theorem dZM_open_53 : decode cZM_open 53 = .ok (.ireturn, 1) := by decide +kernel
theorem dZM_open_54 : decode cZM_open 54 = .ok (.aload_n 0, 1) := by decide +kernel
theorem dZM_open_55 : decode cZM_open 55 = .ok (.getfield 101, 3) := by decide +kernel
theorem dZM_open_58 : decode cZM_open 58 = .ok (.iconst 2, 1) := by decide +kernel
theorem dZM_open_59 : decode cZM_open 59 = .ok (.isub, 1) := by decide +kernel
theorem dZM_open_60 : decode cZM_open 60 = .ok (.istore_n 1, 1) := by decide +kernel
theorem dZM_open_61 : decode cZM_open 61 = .ok (.iload_n 1, 1) := by decide +kernel
theorem dZM_open_62 : decode cZM_open 62 = .ok (.iconst 2, 1) := by decide +kernel
theorem dZM_open_63 : decode cZM_open 63 = .ok (.if_icmp .lt 33, 3) := by decide +kernel
theorem dZM_open_66 : decode cZM_open 66 = .ok (.aload_n 0, 1) := by decide +kernel
theorem dZM_open_67 : decode cZM_open 67 = .ok (.getfield 16, 3) := by decide +kernel
theorem dZM_open_70 : decode cZM_open 70 = .ok (.iconst 0, 1) := by decide +kernel
theorem dZM_open_71 : decode cZM_open 71 = .ok (.iaload, 1) := by decide +kernel
theorem dZM_open_72 : decode cZM_open 72 = .ok (.iconst 1, 1) := by decide +kernel
theorem dZM_open_73 : decode cZM_open 73 = .ok (.bipush 8, 2) := by decide +kernel
theorem dZM_open_75 : decode cZM_open 75 = .ok (.invokestatic 48, 3) := by decide +kernel
theorem dZM_open_78 : decode cZM_open 78 = .ok (.ifCond .eq 18, 3) := by decide +kernel
theorem dZM_open_81 : decode cZM_open 81 = .ok (.aload_n 0, 1) := by decide +kernel
theorem dZM_open_82 : decode cZM_open 82 = .ok (.getfield 16, 3) := by decide +kernel
theorem dZM_open_85 : decode cZM_open 85 = .ok (.iconst 1, 1) := by decide +kernel
theorem dZM_open_86 : decode cZM_open 86 = .ok (.iaload, 1) := by decide +kernel
theorem dZM_open_87 : decode cZM_open 87 = .ok (.iconst 1, 1) := by decide +kernel
theorem dZM_open_88 : decode cZM_open 88 = .ok (.bipush 8, 2) := by decide +kernel
theorem dZM_open_90 : decode cZM_open 90 = .ok (.invokestatic 48, 3) := by decide +kernel
theorem dZM_open_93 : decode cZM_open 93 = .ok (.ifCond .ne 5, 3) := by decide +kernel
theorem dZM_open_96 : decode cZM_open 96 = .ok (.iconst (-1), 1) := by decide +kernel
theorem dZM_open_97 : decode cZM_open 97 = .ok (.ireturn, 1) := by decide +kernel
theorem dZM_open_98 : decode cZM_open 98 = .ok (.aload_n 0, 1) := by decide +kernel
theorem dZM_open_99 : decode cZM_open 99 = .ok (.aload_n 0, 1) := by decide +kernel
theorem dZM_open_100 : decode cZM_open 100 = .ok (.getfield 16, 3) := by decide +kernel
theorem dZM_open_103 : decode cZM_open 103 = .ok (.iconst 0, 1) := by decide +kernel
theorem dZM_open_104 : decode cZM_open 104 = .ok (.iaload, 1) := by decide +kernel
theorem dZM_open_105 : decode cZM_open 105 = .ok (.putfield 138, 3) := by decide +kernel
theorem dZM_open_108 : decode cZM_open 108 = .ok (.aload_n 0, 1) := by decide +kernel
theorem dZM_open_109 : decode cZM_open 109 = .ok (.aload_n 0, 1) := by decide +kernel
theorem dZM_open_110 : decode cZM_open 110 = .ok (.getfield 16, 3) := by decide +kernel
theorem dZM_open_113 : decode cZM_open 113 = .ok (.iconst 1, 1) := by decide +kernel
theorem dZM_open_114 : decode cZM_open 114 = .ok (.iaload, 1) := by decide +kernel
theorem dZM_open_115 : decode cZM_open 115 = .ok (.putfield 144, 3) := by decide +kernel
theorem dZM_open_118 : decode cZM_open 118 = .ok (.aload_n 0, 1) := by decide +kernel
theorem dZM_open_119 : decode cZM_open 119 = .ok (.iconst 2, 1) := by decide +kernel
theorem dZM_open_120 : decode cZM_open 120 = .ok (.putfield 135, 3) := by decide +kernel
theorem dZM_open_123 : decode cZM_open 123 = .ok (.iconst 1, 1) := by decide +kernel
theorem dZM_open_124 : decode cZM_open 124 = .ok (.istore_n 2, 1) := by decide +kernel
theorem dZM_open_125 : decode cZM_open 125 = .ok (.iconst 0, 1) := by decide +kernel
theorem dZM_open_126 : decode cZM_open 126 = .ok (.istore_n 3, 1) := by decide +kernel
theorem dZM_open_127 : decode cZM_open 127 = .ok (.iload_n 3, 1) := by decide +kernel
theorem dZM_open_128 : decode cZM_open 128 = .ok (.aload_n 0, 1) := by decide +kernel
theorem dZM_open_129 : decode cZM_open 129 = .ok (.getfield 144, 3) := by decide +kernel
theorem dZM_open_132 : decode cZM_open 132 = .ok (.if_icmp .ge 20, 3) := by decide +kernel
theorem dZM_open_135 : decode cZM_open 135 = .ok (.iload_n 2, 1) := by decide +kernel
theorem dZM_open_136 : decode cZM_open 136 = .ok (.ifCond .eq 16, 3) := by decide +kernel
theorem dZM_open_139 : decode cZM_open 139 = .ok (.aload_n 0, 1) := by decide +kernel
theorem dZM_open_140 : decode cZM_open 140 = .ok (.iload_n 3, 1) := by decide +kernel
theorem dZM_open_141 : decode cZM_open 141 = .ok (.iload_n 1, 1) := by decide +kernel
theorem dZM_open_142 : decode cZM_open 142 = .ok (.invokevirtual 147, 3) := by decide +kernel
theorem dZM_open_145 : decode cZM_open 145 = .ok (.istore_n 2, 1) := by decide +kernel
theorem dZM_open_146 : decode cZM_open 146 = .ok (.iinc 3 1, 3) := by decide +kernel
theorem dZM_open_149 : decode cZM_open 149 = .ok (.goto (-22), 3) := by decide +kernel
theorem dZM_open_152 : decode cZM_open 152 = .ok (.iload_n 2, 1) := by decide +kernel
theorem dZM_open_153 : decode cZM_open 153 = .ok (.ifCond .eq 11, 3) := by decide +kernel
theorem dZM_open_156 : decode cZM_open 156 = .ok (.aload_n 0, 1) := by decide +kernel
theorem dZM_open_157 : decode cZM_open 157 = .ok (.getfield 135, 3) := by decide +kernel
theorem dZM_open_160 : decode cZM_open 160 = .ok (.iload_n 1, 1) := by decide +kernel
theorem dZM_open_161 : decode cZM_open 161 = .ok (.if_icmp .eq 5, 3) := by decide +kernel
theorem dZM_open_164 : decode cZM_open 164 = .ok (.iconst (-1), 1) := by decide +kernel
theorem dZM_open_165 : decode cZM_open 165 = .ok (.ireturn, 1) := by decide +kernel
theorem dZM_open_166 : decode cZM_open 166 = .ok (.aload_n 0, 1) := by decide +kernel
theorem dZM_open_167 : decode cZM_open 167 = .ok (.aload_n 0, 1) := by decide +kernel
theorem dZM_open_168 : decode cZM_open 168 = .ok (.getfield 138, 3) := by decide +kernel
theorem dZM_open_171 : decode cZM_open 171 = .ok (.putfield 150, 3) := by decide +kernel
theorem dZM_open_174 : decode cZM_open 174 = .ok (.aload_n 0, 1) := by decide +kernel
theorem dZM_open_175 : decode cZM_open 175 = .ok (.aload_n 0, 1) := by decide +kernel
theorem dZM_open_176 : decode cZM_open 176 = .ok (.getfield 144, 3) := by decide +kernel
theorem dZM_open_179 : decode cZM_open 179 = .ok (.putfield 153, 3) := by decide +kernel
theorem dZM_open_182 : decode cZM_open 182 = .ok (.iconst 0, 1) := by decide +kernel
theorem dZM_open_183 : decode cZM_open 183 = .ok (.istore_n 3, 1) := by decide +kernel
theorem dZM_open_184 : decode cZM_open 184 = .ok (.iload_n 3, 1) := by decide +kernel
theorem dZM_open_185 : decode cZM_open 185 = .ok (.aload_n 0, 1) := by decide +kernel
theorem dZM_open_186 : decode cZM_open 186 = .ok (.getfield 144, 3) := by decide +kernel
theorem dZM_open_189 : decode cZM_open 189 = .ok (.aload_n 0, 1) := by decide +kernel
theorem dZM_open_190 : decode cZM_open 190 = .ok (.getfield 138, 3) := by decide +kernel
theorem dZM_open_193 : decode cZM_open 193 = .ok (.imul, 1) := by decide +kernel
theorem dZM_open_194 : decode cZM_open 194 = .ok (.if_icmp .ge 21, 3) := by decide +kernel
theorem dZM_open_197 : decode cZM_open 197 = .ok (.aload_n 0, 1) := by decide +kernel
theorem dZM_open_198 : decode cZM_open 198 = .ok (.getfield 19, 3) := by decide +kernel
theorem dZM_open_201 : decode cZM_open 201 = .ok (.iload_n 3, 1) := by decide +kernel
theorem dZM_open_202 : decode cZM_open 202 = .ok (.aload_n 0, 1) := by decide +kernel
theorem dZM_open_203 : decode cZM_open 203 = .ok (.getfield 22, 3) := by decide +kernel
theorem dZM_open_206 : decode cZM_open 206 = .ok (.iload_n 3, 1) := by decide +kernel
theorem dZM_open_207 : decode cZM_open 207 = .ok (.iaload, 1) := by decide +kernel
theorem dZM_open_208 : decode cZM_open 208 = .ok (.iastore, 1) := by decide +kernel
theorem dZM_open_209 : decode cZM_open 209 = .ok (.iinc 3 1, 3) := by decide +kernel
theorem dZM_open_212 : decode cZM_open 212 = .ok (.goto (-28), 3) := by decide +kernel
theorem dZM_open_215 : decode cZM_open 215 = .ok (.aload_n 0, 1) := by decide +kernel
theorem dZM_open_216 : decode cZM_open 216 = .ok (.getfield 144, 3) := by decide +kernel
theorem dZM_open_219 : decode cZM_open 219 = .ok (.aload_n 0, 1) := by decide +kernel
theorem dZM_open_220 : decode cZM_open 220 = .ok (.getfield 138, 3) := by decide +kernel
theorem dZM_open_223 : decode cZM_open 223 = .ok (.imul, 1) := by decide +kernel
theorem dZM_open_224 : decode cZM_open 224 = .ok (.ireturn, 1) := by decide +kernel
abbrev wsZM_open : List Cond := .code yZM_open cZM_open 4 (some .int) :: tbg
def lp_ZM_open_127 (zt : Int32) (zw : Int32) (zh : Int32) (zp : Nat → Int32) (zs : Nat → Int32) (zb : Nat → Int32) (zz : Int32) (zl : Nat → Int32) (zo : Nat → Int32) (zc : Int32) (zr : Int32) (zu : Int32) (zv : Int32) (zq : Int32) (zi : Int32) (zk : Nat → Int32) (zm : Nat → Int32) (zd : Int32) (zg : Nat → Int32) (r_2 : Int32) (r_8 : Int32) (r_11 : Int32) (post : Int32 → Int32 → (Nat → Int32) → (Nat → Int32) → Int32 → Int32 → Int32 → Int32 → Int32 → Prop) (K127 : Int32 → Int32 → Int32 → (Nat → Int32) → Prop) (n : Nat) : Int32 → Int32 → Int32 → (Nat → Int32) → Prop := Nat.rec (motive := fun _ => Int32 → Int32 → Int32 → (Nat → Int32) → Prop) (fun (x2_127 : Int32) (x3_127 : Int32) (v13_127_om : Int32) (f_127_ozo : Nat → Int32) => False) (fun _ ih127 (x2_127 : Int32) (x3_127 : Int32) (v13_127_om : Int32) (f_127_ozo : Nat → Int32) => (((zb (1 : Int32).toNatClampNeg) ≤ x3_127 → (K127 x2_127 x3_127 v13_127_om f_127_ozo)) ∧ (¬ (zb (1 : Int32).toNatClampNeg) ≤ x3_127 → ((x2_127 = (0 : Int32) → (K127 x2_127 x3_127 v13_127_om f_127_ozo)) ∧ (¬ x2_127 = (0 : Int32) → (wp_ZM_readRow (0 : Int32) zw zh zp zs zb zz zl f_127_ozo (zb (0 : Int32).toNatClampNeg) (zb (1 : Int32).toNatClampNeg) zu zv v13_127_om zi zk zm zd zg x3_127 (zz - (2 : Int32)) (fun (r_19 : Int32) (zo_17 : Nat → Int32) (zq_18 : Int32) => ih127 r_19 (x3_127 + (1 : Int32)) zq_18 zo_17))))))) n
def lp_ZM_open_184 (zt : Int32) (zw : Int32) (zh : Int32) (zp : Nat → Int32) (zs : Nat → Int32) (zb : Nat → Int32) (zz : Int32) (zl : Nat → Int32) (zo : Nat → Int32) (zc : Int32) (zr : Int32) (zu : Int32) (zv : Int32) (zq : Int32) (zi : Int32) (zk : Nat → Int32) (zm : Nat → Int32) (zd : Int32) (zg : Nat → Int32) (r_2 : Int32) (r_8 : Int32) (r_11 : Int32) (x2_127e : Int32) (x3_127e : Int32) (v13_127e_om : Int32) (f_127e_ozo : Nat → Int32) (post : Int32 → Int32 → (Nat → Int32) → (Nat → Int32) → Int32 → Int32 → Int32 → Int32 → Int32 → Prop) (K184 : Int32 → (Nat → Int32) → Prop) (n : Nat) : Int32 → (Nat → Int32) → Prop := Nat.rec (motive := fun _ => Int32 → (Nat → Int32) → Prop) (fun (x3_184 : Int32) (f_184_ozl : Nat → Int32) => False) (fun _ ih184 (x3_184 : Int32) (f_184_ozl : Nat → Int32) => ((((zb (1 : Int32).toNatClampNeg) * (zb (0 : Int32).toNatClampNeg)) ≤ x3_184 → (K184 x3_184 f_184_ozl)) ∧ (¬ ((zb (1 : Int32).toNatClampNeg) * (zb (0 : Int32).toNatClampNeg)) ≤ x3_184 → (vp_in x3_184 64 ∧ (vp_in x3_184 64 ∧ (ih184 (x3_184 + (1 : Int32)) (upd f_184_ozl x3_184.toNatClampNeg (f_127e_ozo x3_184.toNatClampNeg)))))))) n
def wp_ZM_open (zt : Int32) (zw : Int32) (zh : Int32) (zp : Nat → Int32) (zs : Nat → Int32) (zb : Nat → Int32) (zz : Int32) (zl : Nat → Int32) (zo : Nat → Int32) (zc : Int32) (zr : Int32) (zu : Int32) (zv : Int32) (zq : Int32) (zi : Int32) (zk : Nat → Int32) (zm : Nat → Int32) (zd : Int32) (zg : Nat → Int32) (post : Int32 → Int32 → (Nat → Int32) → (Nat → Int32) → Int32 → Int32 → Int32 → Int32 → Int32 → Prop) : Prop := ((zz < (2 : Int32) → (post (0 : Int32) (0 : Int32) zl zo zc zr zu zv zq)) ∧ (¬ zz < (2 : Int32) → (wp_ZM_sum (0 : Int32) zw zh zp zs zb zz zl zo zc zr zu zv zq zi zk zm zd zg (zz - (2 : Int32)) (fun r_2 : Int32 => vp_in (zz - (2 : Int32)) 256 ∧ (vp_in (zz - (1 : Int32)) 256 ∧ (((r_2 = ((zb (zz - (2 : Int32)).toNatClampNeg) ||| ((zb (zz - (1 : Int32)).toNatClampNeg) <<< ((8 : Int32) &&& 31))) → (((zz - (2 : Int32)) < (2 : Int32) → (post (-1 : Int32) (0 : Int32) zl zo zc zr zu zv zq)) ∧ (¬ (zz - (2 : Int32)) < (2 : Int32) → (vp_in (0 : Int32) 256 ∧ (wp_ZM_in (zb (0 : Int32).toNatClampNeg) (1 : Int32) (8 : Int32) (fun r_8 : Int32 => ((r_8 = (0 : Int32) → (post (-1 : Int32) (0 : Int32) zl zo zc zr zu zv zq)) ∧ (¬ r_8 = (0 : Int32) → (vp_in (1 : Int32) 256 ∧ (wp_ZM_in (zb (1 : Int32).toNatClampNeg) (1 : Int32) (8 : Int32) (fun r_11 : Int32 => ((r_11 = (0 : Int32) → (post (-1 : Int32) (0 : Int32) zl zo zc zr zu zv zq)) ∧ (¬ r_11 = (0 : Int32) → (vp_in (0 : Int32) 256 ∧ (vp_in (1 : Int32) 256 ∧ (∃ n : Nat, lp_ZM_open_127 zt zw zh zp zs zb zz zl zo zc zr zu zv zq zi zk zm zd zg r_2 r_8 r_11 post (fun (x2_127e : Int32) (x3_127e : Int32) (v13_127e_om : Int32) (f_127e_ozo : Nat → Int32) => ((x2_127e = (0 : Int32) → (post (-1 : Int32) (0 : Int32) zl f_127e_ozo (zb (0 : Int32).toNatClampNeg) (zb (1 : Int32).toNatClampNeg) zu zv v13_127e_om)) ∧ (¬ x2_127e = (0 : Int32) → ((v13_127e_om = (zz - (2 : Int32)) → (∃ n : Nat, lp_ZM_open_184 zt zw zh zp zs zb zz zl zo zc zr zu zv zq zi zk zm zd zg r_2 r_8 r_11 x2_127e x3_127e v13_127e_om f_127e_ozo post (fun (x3_184e : Int32) (f_184e_ozl : Nat → Int32) => post ((zb (1 : Int32).toNatClampNeg) * (zb (0 : Int32).toNatClampNeg)) (0 : Int32) f_184e_ozl f_127e_ozo (zb (0 : Int32).toNatClampNeg) (zb (1 : Int32).toNatClampNeg) (zb (0 : Int32).toNatClampNeg) (zb (1 : Int32).toNatClampNeg) v13_127e_om) n (0 : Int32) zl)) ∧ (¬ v13_127e_om = (zz - (2 : Int32)) → (post (-1 : Int32) (0 : Int32) zl f_127e_ozo (zb (0 : Int32).toNatClampNeg) (zb (1 : Int32).toNatClampNeg) zu zv v13_127e_om)))))) n (1 : Int32) (0 : Int32) (2 : Int32) zo)))))))))))))))) ∧ (¬ r_2 = ((zb (zz - (2 : Int32)).toNatClampNeg) ||| ((zb (zz - (1 : Int32)).toNatClampNeg) <<< ((8 : Int32) &&& 31))) → (post (0 : Int32) (0 : Int32) zl zo zc zr zu zv zq)))))))))
abbrev rm_ZM_open : Room := { frames := 3, cells := 0, slots := 0, locals := 78 }
set_option maxHeartbeats 4000000 in
set_option maxRecDepth 100000 in
theorem kt_ZM_open (l : Launch) (dC : Nat → ClassId) (dI : Nat → Nat → Nat) (cI : ClassId) (om ozp ozs ozb ozl ozo ozk ozm ozg : Nat) (sz : Nat) (zt : Int32) (zw : Int32) (zh : Int32) (zp : Nat → Int32) (zs : Nat → Int32) (zb : Nat → Int32) (zz : Int32) (zl : Nat → Int32) (zo : Nat → Int32) (zc : Int32) (zr : Int32) (zu : Int32) (zv : Int32) (zq : Int32) (zi : Int32) (zk : Nat → Int32) (zm : Nat → Int32) (zd : Int32) (zg : Nat → Int32) (post : Int32 → Int32 → (Nat → Int32) → (Nat → Int32) → Int32 → Int32 → Int32 → Int32 → Int32 → Prop) (hw : wp_ZM_open zt zw zh zp zs zb zz zl zo zc zr zu zv zq zi zk zm zd zg post) : Met l yZM_open wsZM_open rm_ZM_open (gw_Pc dC dI [(cI, .int)] [.ref om] [(om, .inr (6, [.int zt, .int zw, .int zh, .ref ozp, .ref ozs, .ref ozb, .int zz, .ref ozl, .ref ozo, .int zc, .int zr, .int zu, .int zv, .int zq, .int zi, .ref ozk, .ref ozm, .int zd, .ref ozg])), (ozp, .inl (cI, 1600, .inl zp)), (ozs, .inl (cI, 320, .inl zs)), (ozb, .inl (cI, 256, .inl zb)), (ozl, .inl (cI, 64, .inl zl)), (ozo, .inl (cI, 64, .inl zo)), (ozk, .inl (cI, 320, .inl zk)), (ozm, .inl (cI, 40, .inl zm)), (ozg, .inl (cI, 64, .inl zg))] sz) (va_Qi (fun (r : Int32) (u : Int32 × (Nat → Int32) × (Nat → Int32) × Int32 × Int32 × Int32 × Int32 × Int32) => post r u.1 u.2.1 u.2.2.1 u.2.2.2.1 u.2.2.2.2.1 u.2.2.2.2.2.1 u.2.2.2.2.2.2.1 u.2.2.2.2.2.2.2) (fun u t => gw_B dC dI [(cI, .int)] (va_A [(om, .inr (6, [.int zt, .int zw, .int zh, .ref ozp, .ref ozs, .ref ozb, .int zz, .ref ozl, .ref ozo, .int zc, .int zr, .int zu, .int zv, .int zq, .int zi, .ref ozk, .ref ozm, .int zd, .ref ozg])), (ozp, .inl (cI, 1600, .inl zp)), (ozs, .inl (cI, 320, .inl zs)), (ozb, .inl (cI, 256, .inl zb)), (ozl, .inl (cI, 64, .inl zl)), (ozo, .inl (cI, 64, .inl zo)), (ozk, .inl (cI, 320, .inl zk)), (ozm, .inl (cI, 40, .inl zm)), (ozg, .inl (cI, 64, .inl zg))] sz) [(om, .inr (6, [.int u.1, .int zw, .int zh, .ref ozp, .ref ozs, .ref ozb, .int zz, .ref ozl, .ref ozo, .int u.2.2.2.1, .int u.2.2.2.2.1, .int u.2.2.2.2.2.1, .int u.2.2.2.2.2.2.1, .int u.2.2.2.2.2.2.2, .int zi, .ref ozk, .ref ozm, .int zd, .ref ozg])), (ozp, .inl (cI, 1600, .inl zp)), (ozs, .inl (cI, 320, .inl zs)), (ozb, .inl (cI, 256, .inl zb)), (ozl, .inl (cI, 64, .inl u.2.1)), (ozo, .inl (cI, 64, .inl u.2.2.1)), (ozk, .inl (cI, 320, .inl zk)), (ozm, .inl (cI, 40, .inl zm)), (ozg, .inl (cI, 64, .inl zg))] t) (va_A [(om, .inr (6, [.int zt, .int zw, .int zh, .ref ozp, .ref ozs, .ref ozb, .int zz, .ref ozl, .ref ozo, .int zc, .int zr, .int zu, .int zv, .int zq, .int zi, .ref ozk, .ref ozm, .int zd, .ref ozg])), (ozp, .inl (cI, 1600, .inl zp)), (ozs, .inl (cI, 320, .inl zs)), (ozb, .inl (cI, 256, .inl zb)), (ozl, .inl (cI, 64, .inl zl)), (ozo, .inl (cI, 64, .inl zo)), (ozk, .inl (cI, 320, .inl zk)), (ozm, .inl (cI, 40, .inl zm)), (ozg, .inl (cI, 64, .inl zg))] sz)) 0 0 (va_A [(om, .inr (6, [.int zt, .int zw, .int zh, .ref ozp, .ref ozs, .ref ozb, .int zz, .ref ozl, .ref ozo, .int zc, .int zr, .int zu, .int zv, .int zq, .int zi, .ref ozk, .ref ozm, .int zd, .ref ozg])), (ozp, .inl (cI, 1600, .inl zp)), (ozs, .inl (cI, 320, .inl zs)), (ozb, .inl (cI, 256, .inl zb)), (ozl, .inl (cI, 64, .inl zl)), (ozo, .inl (cI, 64, .inl zo)), (ozk, .inl (cI, 320, .inl zk)), (ozm, .inl (cI, 40, .inl zm)), (ozg, .inl (cI, 64, .inl zg))] sz) := by
  refine Met.ofW (cc := cZM_open) (maxL := 4) (ret := (some .int)) (by decide) rfl ?_
  intro p e s m args below meth c s₁ B hml hv
  obtain ⟨ha9, hsz, hP, hK, hE, hD0⟩ := hv
  have hx := B.exec
  have hb := B.bytes
  have hr := B.returns
  have hts0 := atoms_spec (ws := wsZM_open) B.pre
  have hts : ∀ w ∈ tbg, w.before args s = true := fun w h => hts0 w (List.mem_cons_of_mem _ h)
  have hown : s.vm.findClass RZM = some m.cls := findClass_of_methodNamed B.named
  have hlocks := B.notSynchronized
  subst hsz
  have hD := hD0.self (sz := s.heap.size)
  refine gx_Q (fun Q9 hQ9 => ?_)
  generalize hAe : va_A [(om, .inr (6, [.int zt, .int zw, .int zh, .ref ozp, .ref ozs, .ref ozb, .int zz, .ref ozl, .ref ozo, .int zc, .int zr, .int zu, .int zv, .int zq, .int zi, .ref ozk, .ref ozm, .int zd, .ref ozg])), (ozp, .inl (cI, 1600, .inl zp)), (ozs, .inl (cI, 320, .inl zs)), (ozb, .inl (cI, 256, .inl zb)), (ozl, .inl (cI, 64, .inl zl)), (ozo, .inl (cI, 64, .inl zo)), (ozk, .inl (cI, 320, .inl zk)), (ozm, .inl (cI, 40, .inl zm)), (ozg, .inl (cI, 64, .inl zg))] s.heap.size = A at hD hQ9 ⊢
  have hA : ∀ q : Nat, s.heap.size ≤ q → A q := fun q h => by rw [← hAe]; exact Or.inr h
  have hS : va_S A s.heap s.heap [] := va_S.rf
  have hl := lv_entry ([.ref om]) (n := 4) (Nat.le_of_ble_eq_true rfl)
  have he9 : entryFrame m args 4 = F0 m 0 ((lg_sl [.ref om] ++ List.replicate (4 - (lg_sl ([.ref om] : List Value)).length) Slot.unset).toArray) [] := by rw [ha9]; exact lg_entry_eq m [.ref om] 4
  rw [he9]
  generalize (lg_sl ([.ref om] : List Value) ++ List.replicate (4 - (lg_sl ([.ref om] : List Value)).length) Slot.unset).toArray = ls at hl ⊢
  have hl : lv_has ls 4 [(0, .ref om)] := hl
  refine lv_aload_n hx hb dZM_open_0 rfl (lv_at hl 0 rfl) ?_
  refine lv_iconst (v := (0 : Int32)) hx hb dZM_open_1 (by decide) ?_
  refine va_put (D := (dC, dI)) (ci := 6) (v := .int (0 : Int32)) (ty := .int) (C := RZM) (T := TZM) (N := 19) hx hb hts inZM tyZM tyZM_ok nmZM hown hK hP hD hS 0 rfl rfl 0 (by decide) (hts _ mm_618) (fun _ h9 => h9) rfl (by decide +kernel) rfl rfl (Nat.le_of_ble_eq_true rfl) dZM_open_2 (fun H locs hP hD hS => ?_)
  have hP : va_P (dC, dI) vwCl [(om, .inr (6, [.int (0 : Int32), .int zw, .int zh, .ref ozp, .ref ozs, .ref ozb, .int zz, .ref ozl, .ref ozo, .int zc, .int zr, .int zu, .int zv, .int zq, .int zi, .ref ozk, .ref ozm, .int zd, .ref ozg])), (ozp, .inl (cI, 1600, .inl zp)), (ozs, .inl (cI, 320, .inl zs)), (ozb, .inl (cI, 256, .inl zb)), (ozl, .inl (cI, 64, .inl zl)), (ozo, .inl (cI, 64, .inl zo)), (ozk, .inl (cI, 320, .inl zk)), (ozm, .inl (cI, 40, .inl zm)), (ozg, .inl (cI, 64, .inl zg))] H := hP
  have hD : va_D A [(om, .inr (6, [.int (0 : Int32), .int zw, .int zh, .ref ozp, .ref ozs, .ref ozb, .int zz, .ref ozl, .ref ozo, .int zc, .int zr, .int zu, .int zv, .int zq, .int zi, .ref ozk, .ref ozm, .int zd, .ref ozg])), (ozp, .inl (cI, 1600, .inl zp)), (ozs, .inl (cI, 320, .inl zs)), (ozb, .inl (cI, 256, .inl zb)), (ozl, .inl (cI, 64, .inl zl)), (ozo, .inl (cI, 64, .inl zo)), (ozk, .inl (cI, 320, .inl zk)), (ozm, .inl (cI, 40, .inl zm)), (ozg, .inl (cI, 64, .inl zg))] := hD
  refine lv_aload_n hx hb dZM_open_5 rfl (lv_at hl 0 rfl) ?_
  refine va_get (D := (dC, dI)) (ci := 6) (v := .int zz) (C := RZM) (T := TZM) (N := 19) hx hb hts inZM hown hK hP 0 rfl rfl 6 (by decide) (hts _ mm_624) (fun _ h9 => h9) rfl dZM_open_6 ?_
  refine lv_iconst (v := (2 : Int32)) hx hb dZM_open_9 (by decide) ?_
  refine lv_icmp_lt (tgt := 52) hx hb dZM_open_10 (by decide) (fun c_1 => ?_) (fun c_1 => ?_)
  · have hw := hw.1 c_1
    refine lv_iconst (v := (0 : Int32)) hx hb dZM_open_52 (by decide) ?_
    have hP9 := hP.sub (ws' := [(om, .inr (6, [.int (0 : Int32), .int zw, .int zh, .ref ozp, .ref ozs, .ref ozb, .int zz, .ref ozl, .ref ozo, .int zc, .int zr, .int zu, .int zv, .int zq, .int zi, .ref ozk, .ref ozm, .int zd, .ref ozg])), (ozp, .inl (cI, 1600, .inl zp)), (ozs, .inl (cI, 320, .inl zs)), (ozb, .inl (cI, 256, .inl zb)), (ozl, .inl (cI, 64, .inl zl)), (ozo, .inl (cI, 64, .inl zo)), (ozk, .inl (cI, 320, .inl zk)), (ozm, .inl (cI, 40, .inl zm)), (ozg, .inl (cI, 64, .inl zg))]) [0, 1, 2, 3, 4, 5, 6, 7, 8] rfl
    have hD9 := hD.sub (ws' := [(om, .inr (6, [.int (0 : Int32), .int zw, .int zh, .ref ozp, .ref ozs, .ref ozb, .int zz, .ref ozl, .ref ozo, .int zc, .int zr, .int zu, .int zv, .int zq, .int zi, .ref ozk, .ref ozm, .int zd, .ref ozg])), (ozp, .inl (cI, 1600, .inl zp)), (ozs, .inl (cI, 320, .inl zs)), (ozb, .inl (cI, 256, .inl zb)), (ozl, .inl (cI, 64, .inl zl)), (ozo, .inl (cI, 64, .inl zo)), (ozk, .inl (cI, 320, .inl zk)), (ozm, .inl (cI, 40, .inl zm)), (ozg, .inl (cI, 64, .inl zg))]) [0, 1, 2, 3, 4, 5, 6, 7, 8] (by decide) rfl
    subst hQ9
    exact W.iret (v := (0 : Int32)) hx hb hr (fun t ht hW => ⟨⟨(0 : Int32), ((0 : Int32), zl, zo, zc, zr, zu, zv, zq), rfl, hw, by rw [ht]; exact hP9, va_K.moved hW.alike hK, hD9⟩, hS.F ht⟩) hS.2.2 dZM_open_53
  · have hw := hw.2 c_1
    refine lv_aload_n hx hb dZM_open_13 rfl (lv_at hl 0 rfl) ?_
    refine lv_aload_n hx hb dZM_open_14 rfl (lv_at hl 0 rfl) ?_
    refine va_get (D := (dC, dI)) (ci := 6) (v := .int zz) (C := RZM) (T := TZM) (N := 19) hx hb hts inZM hown hK hP 0 rfl rfl 6 (by decide) (hts _ mm_624) (fun _ h9 => h9) rfl dZM_open_15 ?_
    refine lv_iconst (v := (2 : Int32)) hx hb dZM_open_18 (by decide) ?_
    refine lv_isub hx hb dZM_open_19 ?_
    refine vp_callSi (va_runV (As := [.int (zz - (2 : Int32))]) (rest := []) ⟨hx, hb, hml, hown, hts⟩ (kt_ZM_sum l dC dI cI om ozp ozs ozb ozl ozo ozk ozm ozg (0 : Int32) zw zh zp zs zb zz zl zo zc zr zu zv zq zi zk zm zd zg (zz - (2 : Int32)) _ hw) (cwV 1 hts (tb_V mm_795 mm_797 mp_18 mm_8 mm_798) rfl rfl rfl (by decide +kernel) ⟨Nat.le_of_ble_eq_true rfl, Nat.le_of_ble_eq_true rfl⟩) ⟨gr_blind, va_recv hK hP (ci := 6) (q0 := 0) rfl rfl, fun U hU hW => gr_pre hP hK hE hU hW⟩ rfl rfl hl.1 rfl (lv_room (Nat.le_of_ble_eq_true rfl)) dZM_open_20 ⟨Nat.le_of_ble_eq_true rfl, Nat.le_of_ble_eq_true rfl⟩).run (fun r_2 hw => ?_)
    refine lv_aload_n hx hb dZM_open_23 rfl (lv_at hl 0 rfl) ?_
    refine va_get (D := (dC, dI)) (ci := 6) (v := .ref ozb) (C := RZM) (T := TZM) (N := 19) hx hb hts inZM hown hK hP 0 rfl rfl 5 (by decide) (hts _ mm_623) (fun _ h9 => h9) rfl dZM_open_24 ?_
    refine lv_aload_n hx hb dZM_open_27 rfl (lv_at hl 0 rfl) ?_
    refine va_get (D := (dC, dI)) (ci := 6) (v := .int zz) (C := RZM) (T := TZM) (N := 19) hx hb hts inZM hown hK hP 0 rfl rfl 6 (by decide) (hts _ mm_624) (fun _ h9 => h9) rfl dZM_open_28 ?_
    refine lv_iconst (v := (2 : Int32)) hx hb dZM_open_31 (by decide) ?_
    refine lv_isub hx hb dZM_open_32 ?_
    obtain ⟨h_3, hw⟩ := hw
    refine va_iald hx hb hK hP 3 0 rfl rfl h_3 dZM_open_33 ?_
    refine lv_aload_n hx hb dZM_open_34 rfl (lv_at hl 0 rfl) ?_
    refine va_get (D := (dC, dI)) (ci := 6) (v := .ref ozb) (C := RZM) (T := TZM) (N := 19) hx hb hts inZM hown hK hP 0 rfl rfl 5 (by decide) (hts _ mm_623) (fun _ h9 => h9) rfl dZM_open_35 ?_
    refine lv_aload_n hx hb dZM_open_38 rfl (lv_at hl 0 rfl) ?_
    refine va_get (D := (dC, dI)) (ci := 6) (v := .int zz) (C := RZM) (T := TZM) (N := 19) hx hb hts inZM hown hK hP 0 rfl rfl 6 (by decide) (hts _ mm_624) (fun _ h9 => h9) rfl dZM_open_39 ?_
    refine lv_iconst (v := (1 : Int32)) hx hb dZM_open_42 (by decide) ?_
    refine lv_isub hx hb dZM_open_43 ?_
    obtain ⟨h_4, hw⟩ := hw
    refine va_iald hx hb hK hP 3 0 rfl rfl h_4 dZM_open_44 ?_
    refine lv_bipush (v := (8 : Int32)) hx hb dZM_open_45 (by decide) ?_
    refine lv_ishl hx hb dZM_open_47 ?_
    refine lv_ior hx hb dZM_open_48 ?_
    refine lv_icmp_eq (tgt := 54) hx hb dZM_open_49 (by decide) (fun c_5 => ?_) (fun c_5 => ?_)
    · have hw := hw.1 c_5
      refine lv_aload_n hx hb dZM_open_54 rfl (lv_at hl 0 rfl) ?_
      refine va_get (D := (dC, dI)) (ci := 6) (v := .int zz) (C := RZM) (T := TZM) (N := 19) hx hb hts inZM hown hK hP 0 rfl rfl 6 (by decide) (hts _ mm_624) (fun _ h9 => h9) rfl dZM_open_55 ?_
      refine lv_iconst (v := (2 : Int32)) hx hb dZM_open_58 (by decide) ?_
      refine lv_isub hx hb dZM_open_59 ?_
      refine lv_istore_n (lv' := [(1, .int (zz - (2 : Int32))), (0, .ref om)]) hx hb dZM_open_60 rfl hl (by decide) rfl (fun ls hl => ?_)
      refine lv_iload_n hx hb dZM_open_61 rfl (lv_at hl 0 rfl) ?_
      refine lv_iconst (v := (2 : Int32)) hx hb dZM_open_62 (by decide) ?_
      refine lv_icmp_lt (tgt := 96) hx hb dZM_open_63 (by decide) (fun c_6 => ?_) (fun c_6 => ?_)
      · have hw := hw.1 c_6
        refine lv_iconst (v := (-1 : Int32)) hx hb dZM_open_96 (by decide) ?_
        have hP9 := hP.sub (ws' := [(om, .inr (6, [.int (0 : Int32), .int zw, .int zh, .ref ozp, .ref ozs, .ref ozb, .int zz, .ref ozl, .ref ozo, .int zc, .int zr, .int zu, .int zv, .int zq, .int zi, .ref ozk, .ref ozm, .int zd, .ref ozg])), (ozp, .inl (cI, 1600, .inl zp)), (ozs, .inl (cI, 320, .inl zs)), (ozb, .inl (cI, 256, .inl zb)), (ozl, .inl (cI, 64, .inl zl)), (ozo, .inl (cI, 64, .inl zo)), (ozk, .inl (cI, 320, .inl zk)), (ozm, .inl (cI, 40, .inl zm)), (ozg, .inl (cI, 64, .inl zg))]) [0, 1, 2, 3, 4, 5, 6, 7, 8] rfl
        have hD9 := hD.sub (ws' := [(om, .inr (6, [.int (0 : Int32), .int zw, .int zh, .ref ozp, .ref ozs, .ref ozb, .int zz, .ref ozl, .ref ozo, .int zc, .int zr, .int zu, .int zv, .int zq, .int zi, .ref ozk, .ref ozm, .int zd, .ref ozg])), (ozp, .inl (cI, 1600, .inl zp)), (ozs, .inl (cI, 320, .inl zs)), (ozb, .inl (cI, 256, .inl zb)), (ozl, .inl (cI, 64, .inl zl)), (ozo, .inl (cI, 64, .inl zo)), (ozk, .inl (cI, 320, .inl zk)), (ozm, .inl (cI, 40, .inl zm)), (ozg, .inl (cI, 64, .inl zg))]) [0, 1, 2, 3, 4, 5, 6, 7, 8] (by decide) rfl
        subst hQ9
        exact W.iret (v := (-1 : Int32)) hx hb hr (fun t ht hW => ⟨⟨(-1 : Int32), ((0 : Int32), zl, zo, zc, zr, zu, zv, zq), rfl, hw, by rw [ht]; exact hP9, va_K.moved hW.alike hK, hD9⟩, hS.F ht⟩) hS.2.2 dZM_open_97
      · have hw := hw.2 c_6
        refine lv_aload_n hx hb dZM_open_66 rfl (lv_at hl 1 rfl) ?_
        refine va_get (D := (dC, dI)) (ci := 6) (v := .ref ozb) (C := RZM) (T := TZM) (N := 19) hx hb hts inZM hown hK hP 0 rfl rfl 5 (by decide) (hts _ mm_623) (fun _ h9 => h9) rfl dZM_open_67 ?_
        refine lv_iconst (v := (0 : Int32)) hx hb dZM_open_70 (by decide) ?_
        obtain ⟨h_7, hw⟩ := hw
        refine va_iald hx hb hK hP 3 0 rfl rfl h_7 dZM_open_71 ?_
        refine lv_iconst (v := (1 : Int32)) hx hb dZM_open_72 (by decide) ?_
        refine lv_bipush (v := (8 : Int32)) hx hb dZM_open_73 (by decide) ?_
        have hPc := hP.sub (ws' := []) [] rfl
        refine vp_callSi (va_runS (As := [.int (zb (0 : Int32).toNatClampNeg), .int (1 : Int32), .int (8 : Int32)]) (rest := []) ⟨hx, hb, hml, hown, hts⟩ (kt_ZM_in l dC dI cI  (zb (0 : Int32).toNatClampNeg) (1 : Int32) (8 : Int32) _ hw) (va_cwS 3 hts (tb_S mm_687 mm_688 mm_8 mm_689) rfl rfl rfl (by decide +kernel) ⟨Nat.le_of_ble_eq_true rfl, Nat.le_of_ble_eq_true rfl⟩) ⟨gr_blind, fun U hU hW => gr_pre hPc hK hE hU hW⟩ rfl rfl hl.1 rfl (lv_room (Nat.le_of_ble_eq_true rfl)) dZM_open_75 ⟨Nat.le_of_ble_eq_true rfl, Nat.le_of_ble_eq_true rfl⟩).run (fun r_8 hw => ?_)
        refine lv_if_eq (tgt := 96) hx hb dZM_open_78 (by decide) (fun c_9 => ?_) (fun c_9 => ?_)
        · have hw := hw.1 c_9
          refine lv_iconst (v := (-1 : Int32)) hx hb dZM_open_96 (by decide) ?_
          have hP9 := hP.sub (ws' := [(om, .inr (6, [.int (0 : Int32), .int zw, .int zh, .ref ozp, .ref ozs, .ref ozb, .int zz, .ref ozl, .ref ozo, .int zc, .int zr, .int zu, .int zv, .int zq, .int zi, .ref ozk, .ref ozm, .int zd, .ref ozg])), (ozp, .inl (cI, 1600, .inl zp)), (ozs, .inl (cI, 320, .inl zs)), (ozb, .inl (cI, 256, .inl zb)), (ozl, .inl (cI, 64, .inl zl)), (ozo, .inl (cI, 64, .inl zo)), (ozk, .inl (cI, 320, .inl zk)), (ozm, .inl (cI, 40, .inl zm)), (ozg, .inl (cI, 64, .inl zg))]) [0, 1, 2, 3, 4, 5, 6, 7, 8] rfl
          have hD9 := hD.sub (ws' := [(om, .inr (6, [.int (0 : Int32), .int zw, .int zh, .ref ozp, .ref ozs, .ref ozb, .int zz, .ref ozl, .ref ozo, .int zc, .int zr, .int zu, .int zv, .int zq, .int zi, .ref ozk, .ref ozm, .int zd, .ref ozg])), (ozp, .inl (cI, 1600, .inl zp)), (ozs, .inl (cI, 320, .inl zs)), (ozb, .inl (cI, 256, .inl zb)), (ozl, .inl (cI, 64, .inl zl)), (ozo, .inl (cI, 64, .inl zo)), (ozk, .inl (cI, 320, .inl zk)), (ozm, .inl (cI, 40, .inl zm)), (ozg, .inl (cI, 64, .inl zg))]) [0, 1, 2, 3, 4, 5, 6, 7, 8] (by decide) rfl
          subst hQ9
          exact W.iret (v := (-1 : Int32)) hx hb hr (fun t ht hW => ⟨⟨(-1 : Int32), ((0 : Int32), zl, zo, zc, zr, zu, zv, zq), rfl, hw, by rw [ht]; exact hP9, va_K.moved hW.alike hK, hD9⟩, hS.F ht⟩) hS.2.2 dZM_open_97
        · have hw := hw.2 c_9
          refine lv_aload_n hx hb dZM_open_81 rfl (lv_at hl 1 rfl) ?_
          refine va_get (D := (dC, dI)) (ci := 6) (v := .ref ozb) (C := RZM) (T := TZM) (N := 19) hx hb hts inZM hown hK hP 0 rfl rfl 5 (by decide) (hts _ mm_623) (fun _ h9 => h9) rfl dZM_open_82 ?_
          refine lv_iconst (v := (1 : Int32)) hx hb dZM_open_85 (by decide) ?_
          obtain ⟨h_10, hw⟩ := hw
          refine va_iald hx hb hK hP 3 0 rfl rfl h_10 dZM_open_86 ?_
          refine lv_iconst (v := (1 : Int32)) hx hb dZM_open_87 (by decide) ?_
          refine lv_bipush (v := (8 : Int32)) hx hb dZM_open_88 (by decide) ?_
          have hPc := hP.sub (ws' := []) [] rfl
          refine vp_callSi (va_runS (As := [.int (zb (1 : Int32).toNatClampNeg), .int (1 : Int32), .int (8 : Int32)]) (rest := []) ⟨hx, hb, hml, hown, hts⟩ (kt_ZM_in l dC dI cI  (zb (1 : Int32).toNatClampNeg) (1 : Int32) (8 : Int32) _ hw) (va_cwS 3 hts (tb_S mm_687 mm_688 mm_8 mm_689) rfl rfl rfl (by decide +kernel) ⟨Nat.le_of_ble_eq_true rfl, Nat.le_of_ble_eq_true rfl⟩) ⟨gr_blind, fun U hU hW => gr_pre hPc hK hE hU hW⟩ rfl rfl hl.1 rfl (lv_room (Nat.le_of_ble_eq_true rfl)) dZM_open_90 ⟨Nat.le_of_ble_eq_true rfl, Nat.le_of_ble_eq_true rfl⟩).run (fun r_11 hw => ?_)
          refine lv_if_ne (tgt := 98) hx hb dZM_open_93 (by decide) (fun c_12 => ?_) (fun c_12 => ?_)
          · have hw := hw.2 c_12
            refine lv_aload_n hx hb dZM_open_98 rfl (lv_at hl 1 rfl) ?_
            refine lv_aload_n hx hb dZM_open_99 rfl (lv_at hl 1 rfl) ?_
            refine va_get (D := (dC, dI)) (ci := 6) (v := .ref ozb) (C := RZM) (T := TZM) (N := 19) hx hb hts inZM hown hK hP 0 rfl rfl 5 (by decide) (hts _ mm_623) (fun _ h9 => h9) rfl dZM_open_100 ?_
            refine lv_iconst (v := (0 : Int32)) hx hb dZM_open_103 (by decide) ?_
            obtain ⟨h_13, hw⟩ := hw
            refine va_iald hx hb hK hP 3 0 rfl rfl h_13 dZM_open_104 ?_
            refine va_put (D := (dC, dI)) (ci := 6) (v := .int (zb (0 : Int32).toNatClampNeg)) (ty := .int) (C := RZM) (T := TZM) (N := 19) hx hb hts inZM tyZM tyZM_ok nmZM hown hK hP hD hS 0 rfl rfl 9 (by decide) (hts _ mm_627) (fun _ h9 => h9) rfl (by decide +kernel) rfl rfl (Nat.le_of_ble_eq_true rfl) dZM_open_105 (fun H locs hP hD hS => ?_)
            have hP : va_P (dC, dI) vwCl [(om, .inr (6, [.int (0 : Int32), .int zw, .int zh, .ref ozp, .ref ozs, .ref ozb, .int zz, .ref ozl, .ref ozo, .int (zb (0 : Int32).toNatClampNeg), .int zr, .int zu, .int zv, .int zq, .int zi, .ref ozk, .ref ozm, .int zd, .ref ozg])), (ozp, .inl (cI, 1600, .inl zp)), (ozs, .inl (cI, 320, .inl zs)), (ozb, .inl (cI, 256, .inl zb)), (ozl, .inl (cI, 64, .inl zl)), (ozo, .inl (cI, 64, .inl zo)), (ozk, .inl (cI, 320, .inl zk)), (ozm, .inl (cI, 40, .inl zm)), (ozg, .inl (cI, 64, .inl zg))] H := hP
            have hD : va_D A [(om, .inr (6, [.int (0 : Int32), .int zw, .int zh, .ref ozp, .ref ozs, .ref ozb, .int zz, .ref ozl, .ref ozo, .int (zb (0 : Int32).toNatClampNeg), .int zr, .int zu, .int zv, .int zq, .int zi, .ref ozk, .ref ozm, .int zd, .ref ozg])), (ozp, .inl (cI, 1600, .inl zp)), (ozs, .inl (cI, 320, .inl zs)), (ozb, .inl (cI, 256, .inl zb)), (ozl, .inl (cI, 64, .inl zl)), (ozo, .inl (cI, 64, .inl zo)), (ozk, .inl (cI, 320, .inl zk)), (ozm, .inl (cI, 40, .inl zm)), (ozg, .inl (cI, 64, .inl zg))] := hD
            refine lv_aload_n hx hb dZM_open_108 rfl (lv_at hl 1 rfl) ?_
            refine lv_aload_n hx hb dZM_open_109 rfl (lv_at hl 1 rfl) ?_
            refine va_get (D := (dC, dI)) (ci := 6) (v := .ref ozb) (C := RZM) (T := TZM) (N := 19) hx hb hts inZM hown hK hP 0 rfl rfl 5 (by decide) (hts _ mm_623) (fun _ h9 => h9) rfl dZM_open_110 ?_
            refine lv_iconst (v := (1 : Int32)) hx hb dZM_open_113 (by decide) ?_
            obtain ⟨h_14, hw⟩ := hw
            refine va_iald hx hb hK hP 3 0 rfl rfl h_14 dZM_open_114 ?_
            refine va_put (D := (dC, dI)) (ci := 6) (v := .int (zb (1 : Int32).toNatClampNeg)) (ty := .int) (C := RZM) (T := TZM) (N := 19) hx hb hts inZM tyZM tyZM_ok nmZM hown hK hP hD hS 0 rfl rfl 10 (by decide) (hts _ mm_628) (fun _ h9 => h9) rfl (by decide +kernel) rfl rfl (Nat.le_of_ble_eq_true rfl) dZM_open_115 (fun H locs hP hD hS => ?_)
            have hP : va_P (dC, dI) vwCl [(om, .inr (6, [.int (0 : Int32), .int zw, .int zh, .ref ozp, .ref ozs, .ref ozb, .int zz, .ref ozl, .ref ozo, .int (zb (0 : Int32).toNatClampNeg), .int (zb (1 : Int32).toNatClampNeg), .int zu, .int zv, .int zq, .int zi, .ref ozk, .ref ozm, .int zd, .ref ozg])), (ozp, .inl (cI, 1600, .inl zp)), (ozs, .inl (cI, 320, .inl zs)), (ozb, .inl (cI, 256, .inl zb)), (ozl, .inl (cI, 64, .inl zl)), (ozo, .inl (cI, 64, .inl zo)), (ozk, .inl (cI, 320, .inl zk)), (ozm, .inl (cI, 40, .inl zm)), (ozg, .inl (cI, 64, .inl zg))] H := hP
            have hD : va_D A [(om, .inr (6, [.int (0 : Int32), .int zw, .int zh, .ref ozp, .ref ozs, .ref ozb, .int zz, .ref ozl, .ref ozo, .int (zb (0 : Int32).toNatClampNeg), .int (zb (1 : Int32).toNatClampNeg), .int zu, .int zv, .int zq, .int zi, .ref ozk, .ref ozm, .int zd, .ref ozg])), (ozp, .inl (cI, 1600, .inl zp)), (ozs, .inl (cI, 320, .inl zs)), (ozb, .inl (cI, 256, .inl zb)), (ozl, .inl (cI, 64, .inl zl)), (ozo, .inl (cI, 64, .inl zo)), (ozk, .inl (cI, 320, .inl zk)), (ozm, .inl (cI, 40, .inl zm)), (ozg, .inl (cI, 64, .inl zg))] := hD
            refine lv_aload_n hx hb dZM_open_118 rfl (lv_at hl 1 rfl) ?_
            refine lv_iconst (v := (2 : Int32)) hx hb dZM_open_119 (by decide) ?_
            refine va_put (D := (dC, dI)) (ci := 6) (v := .int (2 : Int32)) (ty := .int) (C := RZM) (T := TZM) (N := 19) hx hb hts inZM tyZM tyZM_ok nmZM hown hK hP hD hS 0 rfl rfl 13 (by decide) (hts _ mm_631) (fun _ h9 => h9) rfl (by decide +kernel) rfl rfl (Nat.le_of_ble_eq_true rfl) dZM_open_120 (fun H locs hP hD hS => ?_)
            have hP : va_P (dC, dI) vwCl [(om, .inr (6, [.int (0 : Int32), .int zw, .int zh, .ref ozp, .ref ozs, .ref ozb, .int zz, .ref ozl, .ref ozo, .int (zb (0 : Int32).toNatClampNeg), .int (zb (1 : Int32).toNatClampNeg), .int zu, .int zv, .int (2 : Int32), .int zi, .ref ozk, .ref ozm, .int zd, .ref ozg])), (ozp, .inl (cI, 1600, .inl zp)), (ozs, .inl (cI, 320, .inl zs)), (ozb, .inl (cI, 256, .inl zb)), (ozl, .inl (cI, 64, .inl zl)), (ozo, .inl (cI, 64, .inl zo)), (ozk, .inl (cI, 320, .inl zk)), (ozm, .inl (cI, 40, .inl zm)), (ozg, .inl (cI, 64, .inl zg))] H := hP
            have hD : va_D A [(om, .inr (6, [.int (0 : Int32), .int zw, .int zh, .ref ozp, .ref ozs, .ref ozb, .int zz, .ref ozl, .ref ozo, .int (zb (0 : Int32).toNatClampNeg), .int (zb (1 : Int32).toNatClampNeg), .int zu, .int zv, .int (2 : Int32), .int zi, .ref ozk, .ref ozm, .int zd, .ref ozg])), (ozp, .inl (cI, 1600, .inl zp)), (ozs, .inl (cI, 320, .inl zs)), (ozb, .inl (cI, 256, .inl zb)), (ozl, .inl (cI, 64, .inl zl)), (ozo, .inl (cI, 64, .inl zo)), (ozk, .inl (cI, 320, .inl zk)), (ozm, .inl (cI, 40, .inl zm)), (ozg, .inl (cI, 64, .inl zg))] := hD
            refine lv_iconst (v := (1 : Int32)) hx hb dZM_open_123 (by decide) ?_
            refine lv_istore_n (lv' := [(2, .int (1 : Int32)), (1, .int (zz - (2 : Int32))), (0, .ref om)]) hx hb dZM_open_124 rfl hl (by decide) rfl (fun ls hl => ?_)
            refine lv_iconst (v := (0 : Int32)) hx hb dZM_open_125 (by decide) ?_
            refine lv_istore_n (lv' := [(3, .int (0 : Int32)), (2, .int (1 : Int32)), (1, .int (zz - (2 : Int32))), (0, .ref om)]) hx hb dZM_open_126 rfl hl (by decide) rfl (fun ls hl => ?_)
            have lp127 : ∀ K127 : Int32 → Int32 → Int32 → (Nat → Int32) → Prop, (∀ (x2_127 : Int32) (x3_127 : Int32) (v13_127_om : Int32) (f_127_ozo : Nat → Int32), K127 x2_127 x3_127 v13_127_om f_127_ozo → ∀ (H : Heap) (locs : List Loc), va_P (dC, dI) vwCl [(om, .inr (6, [.int (0 : Int32), .int zw, .int zh, .ref ozp, .ref ozs, .ref ozb, .int zz, .ref ozl, .ref ozo, .int (zb (0 : Int32).toNatClampNeg), .int (zb (1 : Int32).toNatClampNeg), .int zu, .int zv, .int v13_127_om, .int zi, .ref ozk, .ref ozm, .int zd, .ref ozg])), (ozp, .inl (cI, 1600, .inl zp)), (ozs, .inl (cI, 320, .inl zs)), (ozb, .inl (cI, 256, .inl zb)), (ozl, .inl (cI, 64, .inl zl)), (ozo, .inl (cI, 64, .inl f_127_ozo)), (ozk, .inl (cI, 320, .inl zk)), (ozm, .inl (cI, 40, .inl zm)), (ozg, .inl (cI, 64, .inl zg))] H → va_D A [(om, .inr (6, [.int (0 : Int32), .int zw, .int zh, .ref ozp, .ref ozs, .ref ozb, .int zz, .ref ozl, .ref ozo, .int (zb (0 : Int32).toNatClampNeg), .int (zb (1 : Int32).toNatClampNeg), .int zu, .int zv, .int v13_127_om, .int zi, .ref ozk, .ref ozm, .int zd, .ref ozg])), (ozp, .inl (cI, 1600, .inl zp)), (ozs, .inl (cI, 320, .inl zs)), (ozb, .inl (cI, 256, .inl zb)), (ozl, .inl (cI, 64, .inl zl)), (ozo, .inl (cI, 64, .inl f_127_ozo)), (ozk, .inl (cI, 320, .inl zk)), (ozm, .inl (cI, 40, .inl zm)), (ozg, .inl (cI, 64, .inl zg))] → va_S A s.heap H locs → ∀ ls : Array Slot, lv_has ls 4 [(3, .int x3_127), (2, .int x2_127), (1, .int (zz - (2 : Int32))), (0, .ref om)] → W p l e (headSpec wsZM_open rm_ZM_open).room s m args below meth c H locs 0 0 Q9 (F0 m 152 ls [])) → ∀ (n : Nat) (x2_127 : Int32) (x3_127 : Int32) (v13_127_om : Int32) (f_127_ozo : Nat → Int32), lp_ZM_open_127 zt zw zh zp zs zb zz zl zo zc zr zu zv zq zi zk zm zd zg r_2 r_8 r_11 post K127 n x2_127 x3_127 v13_127_om f_127_ozo → ∀ (H : Heap) (locs : List Loc), va_P (dC, dI) vwCl [(om, .inr (6, [.int (0 : Int32), .int zw, .int zh, .ref ozp, .ref ozs, .ref ozb, .int zz, .ref ozl, .ref ozo, .int (zb (0 : Int32).toNatClampNeg), .int (zb (1 : Int32).toNatClampNeg), .int zu, .int zv, .int v13_127_om, .int zi, .ref ozk, .ref ozm, .int zd, .ref ozg])), (ozp, .inl (cI, 1600, .inl zp)), (ozs, .inl (cI, 320, .inl zs)), (ozb, .inl (cI, 256, .inl zb)), (ozl, .inl (cI, 64, .inl zl)), (ozo, .inl (cI, 64, .inl f_127_ozo)), (ozk, .inl (cI, 320, .inl zk)), (ozm, .inl (cI, 40, .inl zm)), (ozg, .inl (cI, 64, .inl zg))] H → va_D A [(om, .inr (6, [.int (0 : Int32), .int zw, .int zh, .ref ozp, .ref ozs, .ref ozb, .int zz, .ref ozl, .ref ozo, .int (zb (0 : Int32).toNatClampNeg), .int (zb (1 : Int32).toNatClampNeg), .int zu, .int zv, .int v13_127_om, .int zi, .ref ozk, .ref ozm, .int zd, .ref ozg])), (ozp, .inl (cI, 1600, .inl zp)), (ozs, .inl (cI, 320, .inl zs)), (ozb, .inl (cI, 256, .inl zb)), (ozl, .inl (cI, 64, .inl zl)), (ozo, .inl (cI, 64, .inl f_127_ozo)), (ozk, .inl (cI, 320, .inl zk)), (ozm, .inl (cI, 40, .inl zm)), (ozg, .inl (cI, 64, .inl zg))] → va_S A s.heap H locs → ∀ ls : Array Slot, lv_has ls 4 [(3, .int x3_127), (2, .int x2_127), (1, .int (zz - (2 : Int32))), (0, .ref om)] → W p l e (headSpec wsZM_open rm_ZM_open).room s m args below meth c H locs 0 0 Q9 (F0 m 127 ls []) := by
              intro K127 aft127 n
              induction n with
              | zero => intro x2_127 x3_127 v13_127_om f_127_ozo hw; exact False.elim hw
              | succ n ih127 =>
                intro x2_127 x3_127 v13_127_om f_127_ozo hw H locs hP hD hS ls hl
                refine lv_iload_n hx hb dZM_open_127 rfl (lv_at hl 0 rfl) ?_
                refine lv_aload_n hx hb dZM_open_128 rfl (lv_at hl 3 rfl) ?_
                refine va_get (D := (dC, dI)) (ci := 6) (v := .int (zb (1 : Int32).toNatClampNeg)) (C := RZM) (T := TZM) (N := 19) hx hb hts inZM hown hK hP 0 rfl rfl 10 (by decide) (hts _ mm_628) (fun _ h9 => h9) rfl dZM_open_129 ?_
                refine lv_icmp_ge (tgt := 152) hx hb dZM_open_132 (by decide) (fun c_15 => ?_) (fun c_15 => ?_)
                · have hw := hw.1 c_15
                  exact aft127 x2_127 x3_127 v13_127_om f_127_ozo hw _ _ (hP.sub [0, 1, 2, 3, 4, 5, 6, 7, 8] rfl) (hD.sub [0, 1, 2, 3, 4, 5, 6, 7, 8] (by decide) rfl) hS ls (lv_sub hl [0, 1, 2, 3] rfl)
                · have hw := hw.2 c_15
                  refine lv_iload_n hx hb dZM_open_135 rfl (lv_at hl 1 rfl) ?_
                  refine lv_if_eq (tgt := 152) hx hb dZM_open_136 (by decide) (fun c_16 => ?_) (fun c_16 => ?_)
                  · have hw := hw.1 c_16
                    exact aft127 x2_127 x3_127 v13_127_om f_127_ozo hw _ _ (hP.sub [0, 1, 2, 3, 4, 5, 6, 7, 8] rfl) (hD.sub [0, 1, 2, 3, 4, 5, 6, 7, 8] (by decide) rfl) hS ls (lv_sub hl [0, 1, 2, 3] rfl)
                  · have hw := hw.2 c_16
                    refine lv_aload_n hx hb dZM_open_139 rfl (lv_at hl 3 rfl) ?_
                    refine lv_iload_n hx hb dZM_open_140 rfl (lv_at hl 0 rfl) ?_
                    refine lv_iload_n hx hb dZM_open_141 rfl (lv_at hl 2 rfl) ?_
                    have hPc := hP.sub (ws' := [(om, .inr (6, [.int (0 : Int32), .int zw, .int zh, .ref ozp, .ref ozs, .ref ozb, .int zz, .ref ozl, .ref ozo, .int (zb (0 : Int32).toNatClampNeg), .int (zb (1 : Int32).toNatClampNeg), .int zu, .int zv, .int v13_127_om, .int zi, .ref ozk, .ref ozm, .int zd, .ref ozg])), (ozp, .inl (cI, 1600, .inl zp)), (ozs, .inl (cI, 320, .inl zs)), (ozb, .inl (cI, 256, .inl zb)), (ozl, .inl (cI, 64, .inl zl)), (ozo, .inl (cI, 64, .inl f_127_ozo)), (ozk, .inl (cI, 320, .inl zk)), (ozm, .inl (cI, 40, .inl zm)), (ozg, .inl (cI, 64, .inl zg))]) [0, 1, 2, 3, 4, 5, 6, 7, 8] rfl
                    have hDc := hD.sub (ws' := [(om, .inr (6, [.int (0 : Int32), .int zw, .int zh, .ref ozp, .ref ozs, .ref ozb, .int zz, .ref ozl, .ref ozo, .int (zb (0 : Int32).toNatClampNeg), .int (zb (1 : Int32).toNatClampNeg), .int zu, .int zv, .int v13_127_om, .int zi, .ref ozk, .ref ozm, .int zd, .ref ozg])), (ozp, .inl (cI, 1600, .inl zp)), (ozs, .inl (cI, 320, .inl zs)), (ozb, .inl (cI, 256, .inl zb)), (ozl, .inl (cI, 64, .inl zl)), (ozo, .inl (cI, 64, .inl f_127_ozo)), (ozk, .inl (cI, 320, .inl zk)), (ozm, .inl (cI, 40, .inl zm)), (ozg, .inl (cI, 64, .inl zg))]) [0, 1, 2, 3, 4, 5, 6, 7, 8] (by decide) rfl
                    have hFc := va_free (wc := [(om, .inr (6, [.int (0 : Int32), .int zw, .int zh, .ref ozp, .ref ozs, .ref ozb, .int zz, .ref ozl, .ref ozo, .int (zb (0 : Int32).toNatClampNeg), .int (zb (1 : Int32).toNatClampNeg), .int zu, .int zv, .int v13_127_om, .int zi, .ref ozk, .ref ozm, .int zd, .ref ozg])), (ozp, .inl (cI, 1600, .inl zp)), (ozs, .inl (cI, 320, .inl zs)), (ozb, .inl (cI, 256, .inl zb)), (ozl, .inl (cI, 64, .inl zl)), (ozo, .inl (cI, 64, .inl f_127_ozo)), (ozk, .inl (cI, 320, .inl zk)), (ozm, .inl (cI, 40, .inl zm)), (ozg, .inl (cI, 64, .inl zg))]) hD hS hA [0, 1, 2, 3, 4, 5, 6, 7, 8] rfl
                    refine va_calli (va_runV (As := [.int x3_127, .int (zz - (2 : Int32))]) (rest := []) ⟨hx, hb, hml, hown, hts⟩ (kt_ZM_readRow l dC dI cI om ozp ozs ozb ozl ozo ozk ozm ozg _ (0 : Int32) zw zh zp zs zb zz zl f_127_ozo (zb (0 : Int32).toNatClampNeg) (zb (1 : Int32).toNatClampNeg) zu zv v13_127_om zi zk zm zd zg x3_127 (zz - (2 : Int32)) _ hw) (cwV 2 hts (tb_V mm_824 mm_826 mp_20 mm_8 mm_827) rfl rfl rfl (by decide +kernel) ⟨Nat.le_of_ble_eq_true rfl, Nat.le_of_ble_eq_true rfl⟩) ⟨gw_blind, va_recv hK hPc (ci := 6) (q0 := 0) rfl rfl, fun U hU hW => gw_pre hPc hDc hK hE hU hW⟩ rfl rfl hl.1 rfl (lv_room (Nat.le_of_ble_eq_true rfl)) dZM_open_142 ⟨Nat.le_of_ble_eq_true rfl, Nat.le_of_ble_eq_true rfl⟩) hS (fun q _ h => hFc q h) hFc (fun r_19 u t H1 locs ht hvm hw hB hz1 hk1 hS => ?_)
                    obtain ⟨zo_17, zq_18⟩ := u
                    obtain ⟨hP1, hK1, hD1⟩ := hB
                    rw [ht] at hP1
                    try dsimp only at hw
                    obtain ⟨hP, hD⟩ := va_join (wr := []) (w1 := [(om, .inr (6, [.int (0 : Int32), .int zw, .int zh, .ref ozp, .ref ozs, .ref ozb, .int zz, .ref ozl, .ref ozo, .int (zb (0 : Int32).toNatClampNeg), .int (zb (1 : Int32).toNatClampNeg), .int zu, .int zv, .int zq_18, .int zi, .ref ozk, .ref ozm, .int zd, .ref ozg])), (ozp, .inl (cI, 1600, .inl zp)), (ozs, .inl (cI, 320, .inl zs)), (ozb, .inl (cI, 256, .inl zb)), (ozl, .inl (cI, 64, .inl zl)), (ozo, .inl (cI, 64, .inl zo_17)), (ozk, .inl (cI, 320, .inl zk)), (ozm, .inl (cI, 40, .inl zm)), (ozg, .inl (cI, 64, .inl zg))]) hP hD [0, 1, 2, 3, 4, 5, 6, 7, 8] [] rfl rfl (by decide) (by decide) hk1 hFc hP1 hD1
                    generalize H1 = H at hP hS ⊢
                    have hP : va_P (dC, dI) vwCl [(om, .inr (6, [.int (0 : Int32), .int zw, .int zh, .ref ozp, .ref ozs, .ref ozb, .int zz, .ref ozl, .ref ozo, .int (zb (0 : Int32).toNatClampNeg), .int (zb (1 : Int32).toNatClampNeg), .int zu, .int zv, .int zq_18, .int zi, .ref ozk, .ref ozm, .int zd, .ref ozg])), (ozp, .inl (cI, 1600, .inl zp)), (ozs, .inl (cI, 320, .inl zs)), (ozb, .inl (cI, 256, .inl zb)), (ozl, .inl (cI, 64, .inl zl)), (ozo, .inl (cI, 64, .inl zo_17)), (ozk, .inl (cI, 320, .inl zk)), (ozm, .inl (cI, 40, .inl zm)), (ozg, .inl (cI, 64, .inl zg))] H := hP
                    have hD : va_D A [(om, .inr (6, [.int (0 : Int32), .int zw, .int zh, .ref ozp, .ref ozs, .ref ozb, .int zz, .ref ozl, .ref ozo, .int (zb (0 : Int32).toNatClampNeg), .int (zb (1 : Int32).toNatClampNeg), .int zu, .int zv, .int zq_18, .int zi, .ref ozk, .ref ozm, .int zd, .ref ozg])), (ozp, .inl (cI, 1600, .inl zp)), (ozs, .inl (cI, 320, .inl zs)), (ozb, .inl (cI, 256, .inl zb)), (ozl, .inl (cI, 64, .inl zl)), (ozo, .inl (cI, 64, .inl zo_17)), (ozk, .inl (cI, 320, .inl zk)), (ozm, .inl (cI, 40, .inl zm)), (ozg, .inl (cI, 64, .inl zg))] := hD
                    refine lv_istore_n (lv' := [(2, .int r_19), (3, .int x3_127), (1, .int (zz - (2 : Int32))), (0, .ref om)]) hx hb dZM_open_145 rfl hl (by decide) rfl (fun ls hl => ?_)
                    refine lv_iinc (v := x3_127 + (1 : Int32)) (lv' := [(3, .int (x3_127 + (1 : Int32))), (2, .int r_19), (1, .int (zz - (2 : Int32))), (0, .ref om)]) hx hb dZM_open_146 hl (k := 1) rfl rfl (by decide) rfl (fun ls hl => ?_)
                    refine lv_goto (tgt := 127) hx hb dZM_open_149 (by decide) ?_
                    exact ih127 r_19 (x3_127 + (1 : Int32)) zq_18 zo_17 hw _ _ (hP.sub [0, 1, 2, 3, 4, 5, 6, 7, 8] rfl) (hD.sub [0, 1, 2, 3, 4, 5, 6, 7, 8] (by decide) rfl) hS ls (lv_sub hl [0, 1, 2, 3] rfl)
            obtain ⟨n127, hw⟩ := hw
            refine lp127 _ (fun x2_127e x3_127e v13_127e_om f_127e_ozo hw H locs hP hD hS ls hl => ?_) n127 (1 : Int32) (0 : Int32) (2 : Int32) zo hw _ _ (hP.sub [0, 1, 2, 3, 4, 5, 6, 7, 8] rfl) (hD.sub [0, 1, 2, 3, 4, 5, 6, 7, 8] (by decide) rfl) hS ls (lv_sub hl [0, 1, 2, 3] rfl)
            refine lv_iload_n hx hb dZM_open_152 rfl (lv_at hl 1 rfl) ?_
            refine lv_if_eq (tgt := 164) hx hb dZM_open_153 (by decide) (fun c_20 => ?_) (fun c_20 => ?_)
            · have hw := hw.1 c_20
              refine lv_iconst (v := (-1 : Int32)) hx hb dZM_open_164 (by decide) ?_
              have hP9 := hP.sub (ws' := [(om, .inr (6, [.int (0 : Int32), .int zw, .int zh, .ref ozp, .ref ozs, .ref ozb, .int zz, .ref ozl, .ref ozo, .int (zb (0 : Int32).toNatClampNeg), .int (zb (1 : Int32).toNatClampNeg), .int zu, .int zv, .int v13_127e_om, .int zi, .ref ozk, .ref ozm, .int zd, .ref ozg])), (ozp, .inl (cI, 1600, .inl zp)), (ozs, .inl (cI, 320, .inl zs)), (ozb, .inl (cI, 256, .inl zb)), (ozl, .inl (cI, 64, .inl zl)), (ozo, .inl (cI, 64, .inl f_127e_ozo)), (ozk, .inl (cI, 320, .inl zk)), (ozm, .inl (cI, 40, .inl zm)), (ozg, .inl (cI, 64, .inl zg))]) [0, 1, 2, 3, 4, 5, 6, 7, 8] rfl
              have hD9 := hD.sub (ws' := [(om, .inr (6, [.int (0 : Int32), .int zw, .int zh, .ref ozp, .ref ozs, .ref ozb, .int zz, .ref ozl, .ref ozo, .int (zb (0 : Int32).toNatClampNeg), .int (zb (1 : Int32).toNatClampNeg), .int zu, .int zv, .int v13_127e_om, .int zi, .ref ozk, .ref ozm, .int zd, .ref ozg])), (ozp, .inl (cI, 1600, .inl zp)), (ozs, .inl (cI, 320, .inl zs)), (ozb, .inl (cI, 256, .inl zb)), (ozl, .inl (cI, 64, .inl zl)), (ozo, .inl (cI, 64, .inl f_127e_ozo)), (ozk, .inl (cI, 320, .inl zk)), (ozm, .inl (cI, 40, .inl zm)), (ozg, .inl (cI, 64, .inl zg))]) [0, 1, 2, 3, 4, 5, 6, 7, 8] (by decide) rfl
              subst hQ9
              exact W.iret (v := (-1 : Int32)) hx hb hr (fun t ht hW => ⟨⟨(-1 : Int32), ((0 : Int32), zl, f_127e_ozo, zb (0 : Int32).toNatClampNeg, zb (1 : Int32).toNatClampNeg, zu, zv, v13_127e_om), rfl, hw, by rw [ht]; exact hP9, va_K.moved hW.alike hK, hD9⟩, hS.F ht⟩) hS.2.2 dZM_open_165
            · have hw := hw.2 c_20
              refine lv_aload_n hx hb dZM_open_156 rfl (lv_at hl 3 rfl) ?_
              refine va_get (D := (dC, dI)) (ci := 6) (v := .int v13_127e_om) (C := RZM) (T := TZM) (N := 19) hx hb hts inZM hown hK hP 0 rfl rfl 13 (by decide) (hts _ mm_631) (fun _ h9 => h9) rfl dZM_open_157 ?_
              refine lv_iload_n hx hb dZM_open_160 rfl (lv_at hl 2 rfl) ?_
              refine lv_icmp_eq (tgt := 166) hx hb dZM_open_161 (by decide) (fun c_21 => ?_) (fun c_21 => ?_)
              · have hw := hw.1 c_21
                refine lv_aload_n hx hb dZM_open_166 rfl (lv_at hl 3 rfl) ?_
                refine lv_aload_n hx hb dZM_open_167 rfl (lv_at hl 3 rfl) ?_
                refine va_get (D := (dC, dI)) (ci := 6) (v := .int (zb (0 : Int32).toNatClampNeg)) (C := RZM) (T := TZM) (N := 19) hx hb hts inZM hown hK hP 0 rfl rfl 9 (by decide) (hts _ mm_627) (fun _ h9 => h9) rfl dZM_open_168 ?_
                refine va_put (D := (dC, dI)) (ci := 6) (v := .int (zb (0 : Int32).toNatClampNeg)) (ty := .int) (C := RZM) (T := TZM) (N := 19) hx hb hts inZM tyZM tyZM_ok nmZM hown hK hP hD hS 0 rfl rfl 11 (by decide) (hts _ mm_629) (fun _ h9 => h9) rfl (by decide +kernel) rfl rfl (Nat.le_of_ble_eq_true rfl) dZM_open_171 (fun H locs hP hD hS => ?_)
                have hP : va_P (dC, dI) vwCl [(om, .inr (6, [.int (0 : Int32), .int zw, .int zh, .ref ozp, .ref ozs, .ref ozb, .int zz, .ref ozl, .ref ozo, .int (zb (0 : Int32).toNatClampNeg), .int (zb (1 : Int32).toNatClampNeg), .int (zb (0 : Int32).toNatClampNeg), .int zv, .int v13_127e_om, .int zi, .ref ozk, .ref ozm, .int zd, .ref ozg])), (ozp, .inl (cI, 1600, .inl zp)), (ozs, .inl (cI, 320, .inl zs)), (ozb, .inl (cI, 256, .inl zb)), (ozl, .inl (cI, 64, .inl zl)), (ozo, .inl (cI, 64, .inl f_127e_ozo)), (ozk, .inl (cI, 320, .inl zk)), (ozm, .inl (cI, 40, .inl zm)), (ozg, .inl (cI, 64, .inl zg))] H := hP
                have hD : va_D A [(om, .inr (6, [.int (0 : Int32), .int zw, .int zh, .ref ozp, .ref ozs, .ref ozb, .int zz, .ref ozl, .ref ozo, .int (zb (0 : Int32).toNatClampNeg), .int (zb (1 : Int32).toNatClampNeg), .int (zb (0 : Int32).toNatClampNeg), .int zv, .int v13_127e_om, .int zi, .ref ozk, .ref ozm, .int zd, .ref ozg])), (ozp, .inl (cI, 1600, .inl zp)), (ozs, .inl (cI, 320, .inl zs)), (ozb, .inl (cI, 256, .inl zb)), (ozl, .inl (cI, 64, .inl zl)), (ozo, .inl (cI, 64, .inl f_127e_ozo)), (ozk, .inl (cI, 320, .inl zk)), (ozm, .inl (cI, 40, .inl zm)), (ozg, .inl (cI, 64, .inl zg))] := hD
                refine lv_aload_n hx hb dZM_open_174 rfl (lv_at hl 3 rfl) ?_
                refine lv_aload_n hx hb dZM_open_175 rfl (lv_at hl 3 rfl) ?_
                refine va_get (D := (dC, dI)) (ci := 6) (v := .int (zb (1 : Int32).toNatClampNeg)) (C := RZM) (T := TZM) (N := 19) hx hb hts inZM hown hK hP 0 rfl rfl 10 (by decide) (hts _ mm_628) (fun _ h9 => h9) rfl dZM_open_176 ?_
                refine va_put (D := (dC, dI)) (ci := 6) (v := .int (zb (1 : Int32).toNatClampNeg)) (ty := .int) (C := RZM) (T := TZM) (N := 19) hx hb hts inZM tyZM tyZM_ok nmZM hown hK hP hD hS 0 rfl rfl 12 (by decide) (hts _ mm_630) (fun _ h9 => h9) rfl (by decide +kernel) rfl rfl (Nat.le_of_ble_eq_true rfl) dZM_open_179 (fun H locs hP hD hS => ?_)
                have hP : va_P (dC, dI) vwCl [(om, .inr (6, [.int (0 : Int32), .int zw, .int zh, .ref ozp, .ref ozs, .ref ozb, .int zz, .ref ozl, .ref ozo, .int (zb (0 : Int32).toNatClampNeg), .int (zb (1 : Int32).toNatClampNeg), .int (zb (0 : Int32).toNatClampNeg), .int (zb (1 : Int32).toNatClampNeg), .int v13_127e_om, .int zi, .ref ozk, .ref ozm, .int zd, .ref ozg])), (ozp, .inl (cI, 1600, .inl zp)), (ozs, .inl (cI, 320, .inl zs)), (ozb, .inl (cI, 256, .inl zb)), (ozl, .inl (cI, 64, .inl zl)), (ozo, .inl (cI, 64, .inl f_127e_ozo)), (ozk, .inl (cI, 320, .inl zk)), (ozm, .inl (cI, 40, .inl zm)), (ozg, .inl (cI, 64, .inl zg))] H := hP
                have hD : va_D A [(om, .inr (6, [.int (0 : Int32), .int zw, .int zh, .ref ozp, .ref ozs, .ref ozb, .int zz, .ref ozl, .ref ozo, .int (zb (0 : Int32).toNatClampNeg), .int (zb (1 : Int32).toNatClampNeg), .int (zb (0 : Int32).toNatClampNeg), .int (zb (1 : Int32).toNatClampNeg), .int v13_127e_om, .int zi, .ref ozk, .ref ozm, .int zd, .ref ozg])), (ozp, .inl (cI, 1600, .inl zp)), (ozs, .inl (cI, 320, .inl zs)), (ozb, .inl (cI, 256, .inl zb)), (ozl, .inl (cI, 64, .inl zl)), (ozo, .inl (cI, 64, .inl f_127e_ozo)), (ozk, .inl (cI, 320, .inl zk)), (ozm, .inl (cI, 40, .inl zm)), (ozg, .inl (cI, 64, .inl zg))] := hD
                refine lv_iconst (v := (0 : Int32)) hx hb dZM_open_182 (by decide) ?_
                refine lv_istore_n (lv' := [(3, .int (0 : Int32)), (2, .int x2_127e), (1, .int (zz - (2 : Int32))), (0, .ref om)]) hx hb dZM_open_183 rfl hl (by decide) rfl (fun ls hl => ?_)
                have lp184 : ∀ K184 : Int32 → (Nat → Int32) → Prop, (∀ (x3_184 : Int32) (f_184_ozl : Nat → Int32), K184 x3_184 f_184_ozl → ∀ (H : Heap) (locs : List Loc), va_P (dC, dI) vwCl [(om, .inr (6, [.int (0 : Int32), .int zw, .int zh, .ref ozp, .ref ozs, .ref ozb, .int zz, .ref ozl, .ref ozo, .int (zb (0 : Int32).toNatClampNeg), .int (zb (1 : Int32).toNatClampNeg), .int (zb (0 : Int32).toNatClampNeg), .int (zb (1 : Int32).toNatClampNeg), .int v13_127e_om, .int zi, .ref ozk, .ref ozm, .int zd, .ref ozg])), (ozp, .inl (cI, 1600, .inl zp)), (ozs, .inl (cI, 320, .inl zs)), (ozb, .inl (cI, 256, .inl zb)), (ozl, .inl (cI, 64, .inl f_184_ozl)), (ozo, .inl (cI, 64, .inl f_127e_ozo)), (ozk, .inl (cI, 320, .inl zk)), (ozm, .inl (cI, 40, .inl zm)), (ozg, .inl (cI, 64, .inl zg))] H → va_D A [(om, .inr (6, [.int (0 : Int32), .int zw, .int zh, .ref ozp, .ref ozs, .ref ozb, .int zz, .ref ozl, .ref ozo, .int (zb (0 : Int32).toNatClampNeg), .int (zb (1 : Int32).toNatClampNeg), .int (zb (0 : Int32).toNatClampNeg), .int (zb (1 : Int32).toNatClampNeg), .int v13_127e_om, .int zi, .ref ozk, .ref ozm, .int zd, .ref ozg])), (ozp, .inl (cI, 1600, .inl zp)), (ozs, .inl (cI, 320, .inl zs)), (ozb, .inl (cI, 256, .inl zb)), (ozl, .inl (cI, 64, .inl f_184_ozl)), (ozo, .inl (cI, 64, .inl f_127e_ozo)), (ozk, .inl (cI, 320, .inl zk)), (ozm, .inl (cI, 40, .inl zm)), (ozg, .inl (cI, 64, .inl zg))] → va_S A s.heap H locs → ∀ ls : Array Slot, lv_has ls 4 [(3, .int x3_184), (2, .int x2_127e), (1, .int (zz - (2 : Int32))), (0, .ref om)] → W p l e (headSpec wsZM_open rm_ZM_open).room s m args below meth c H locs 0 0 Q9 (F0 m 215 ls [])) → ∀ (n : Nat) (x3_184 : Int32) (f_184_ozl : Nat → Int32), lp_ZM_open_184 zt zw zh zp zs zb zz zl zo zc zr zu zv zq zi zk zm zd zg r_2 r_8 r_11 x2_127e x3_127e v13_127e_om f_127e_ozo post K184 n x3_184 f_184_ozl → ∀ (H : Heap) (locs : List Loc), va_P (dC, dI) vwCl [(om, .inr (6, [.int (0 : Int32), .int zw, .int zh, .ref ozp, .ref ozs, .ref ozb, .int zz, .ref ozl, .ref ozo, .int (zb (0 : Int32).toNatClampNeg), .int (zb (1 : Int32).toNatClampNeg), .int (zb (0 : Int32).toNatClampNeg), .int (zb (1 : Int32).toNatClampNeg), .int v13_127e_om, .int zi, .ref ozk, .ref ozm, .int zd, .ref ozg])), (ozp, .inl (cI, 1600, .inl zp)), (ozs, .inl (cI, 320, .inl zs)), (ozb, .inl (cI, 256, .inl zb)), (ozl, .inl (cI, 64, .inl f_184_ozl)), (ozo, .inl (cI, 64, .inl f_127e_ozo)), (ozk, .inl (cI, 320, .inl zk)), (ozm, .inl (cI, 40, .inl zm)), (ozg, .inl (cI, 64, .inl zg))] H → va_D A [(om, .inr (6, [.int (0 : Int32), .int zw, .int zh, .ref ozp, .ref ozs, .ref ozb, .int zz, .ref ozl, .ref ozo, .int (zb (0 : Int32).toNatClampNeg), .int (zb (1 : Int32).toNatClampNeg), .int (zb (0 : Int32).toNatClampNeg), .int (zb (1 : Int32).toNatClampNeg), .int v13_127e_om, .int zi, .ref ozk, .ref ozm, .int zd, .ref ozg])), (ozp, .inl (cI, 1600, .inl zp)), (ozs, .inl (cI, 320, .inl zs)), (ozb, .inl (cI, 256, .inl zb)), (ozl, .inl (cI, 64, .inl f_184_ozl)), (ozo, .inl (cI, 64, .inl f_127e_ozo)), (ozk, .inl (cI, 320, .inl zk)), (ozm, .inl (cI, 40, .inl zm)), (ozg, .inl (cI, 64, .inl zg))] → va_S A s.heap H locs → ∀ ls : Array Slot, lv_has ls 4 [(3, .int x3_184), (2, .int x2_127e), (1, .int (zz - (2 : Int32))), (0, .ref om)] → W p l e (headSpec wsZM_open rm_ZM_open).room s m args below meth c H locs 0 0 Q9 (F0 m 184 ls []) := by
                  intro K184 aft184 n
                  induction n with
                  | zero => intro x3_184 f_184_ozl hw; exact False.elim hw
                  | succ n ih184 =>
                    intro x3_184 f_184_ozl hw H locs hP hD hS ls hl
                    refine lv_iload_n hx hb dZM_open_184 rfl (lv_at hl 0 rfl) ?_
                    refine lv_aload_n hx hb dZM_open_185 rfl (lv_at hl 3 rfl) ?_
                    refine va_get (D := (dC, dI)) (ci := 6) (v := .int (zb (1 : Int32).toNatClampNeg)) (C := RZM) (T := TZM) (N := 19) hx hb hts inZM hown hK hP 0 rfl rfl 10 (by decide) (hts _ mm_628) (fun _ h9 => h9) rfl dZM_open_186 ?_
                    refine lv_aload_n hx hb dZM_open_189 rfl (lv_at hl 3 rfl) ?_
                    refine va_get (D := (dC, dI)) (ci := 6) (v := .int (zb (0 : Int32).toNatClampNeg)) (C := RZM) (T := TZM) (N := 19) hx hb hts inZM hown hK hP 0 rfl rfl 9 (by decide) (hts _ mm_627) (fun _ h9 => h9) rfl dZM_open_190 ?_
                    refine lv_imul hx hb dZM_open_193 ?_
                    refine lv_icmp_ge (tgt := 215) hx hb dZM_open_194 (by decide) (fun c_22 => ?_) (fun c_22 => ?_)
                    · have hw := hw.1 c_22
                      exact aft184 x3_184 f_184_ozl hw _ _ (hP.sub [0, 1, 2, 3, 4, 5, 6, 7, 8] rfl) (hD.sub [0, 1, 2, 3, 4, 5, 6, 7, 8] (by decide) rfl) hS ls (lv_sub hl [0, 1, 2, 3] rfl)
                    · have hw := hw.2 c_22
                      refine lv_aload_n hx hb dZM_open_197 rfl (lv_at hl 3 rfl) ?_
                      refine va_get (D := (dC, dI)) (ci := 6) (v := .ref ozl) (C := RZM) (T := TZM) (N := 19) hx hb hts inZM hown hK hP 0 rfl rfl 7 (by decide) (hts _ mm_625) (fun _ h9 => h9) rfl dZM_open_198 ?_
                      refine lv_iload_n hx hb dZM_open_201 rfl (lv_at hl 0 rfl) ?_
                      refine lv_aload_n hx hb dZM_open_202 rfl (lv_at hl 3 rfl) ?_
                      refine va_get (D := (dC, dI)) (ci := 6) (v := .ref ozo) (C := RZM) (T := TZM) (N := 19) hx hb hts inZM hown hK hP 0 rfl rfl 8 (by decide) (hts _ mm_626) (fun _ h9 => h9) rfl dZM_open_203 ?_
                      refine lv_iload_n hx hb dZM_open_206 rfl (lv_at hl 0 rfl) ?_
                      obtain ⟨h_23, hw⟩ := hw
                      refine va_iald hx hb hK hP 5 0 rfl rfl h_23 dZM_open_207 ?_
                      obtain ⟨h_24, hw⟩ := hw
                      refine va_iast hx hb hK hP hD hS 4 0 rfl rfl h_24 dZM_open_208 (fun H locs hP hD hS => ?_)
                      have hP : va_P (dC, dI) vwCl [(om, .inr (6, [.int (0 : Int32), .int zw, .int zh, .ref ozp, .ref ozs, .ref ozb, .int zz, .ref ozl, .ref ozo, .int (zb (0 : Int32).toNatClampNeg), .int (zb (1 : Int32).toNatClampNeg), .int (zb (0 : Int32).toNatClampNeg), .int (zb (1 : Int32).toNatClampNeg), .int v13_127e_om, .int zi, .ref ozk, .ref ozm, .int zd, .ref ozg])), (ozp, .inl (cI, 1600, .inl zp)), (ozs, .inl (cI, 320, .inl zs)), (ozb, .inl (cI, 256, .inl zb)), (ozl, .inl (cI, 64, .inl (upd f_184_ozl x3_184.toNatClampNeg (f_127e_ozo x3_184.toNatClampNeg)))), (ozo, .inl (cI, 64, .inl f_127e_ozo)), (ozk, .inl (cI, 320, .inl zk)), (ozm, .inl (cI, 40, .inl zm)), (ozg, .inl (cI, 64, .inl zg))] H := hP
                      have hD : va_D A [(om, .inr (6, [.int (0 : Int32), .int zw, .int zh, .ref ozp, .ref ozs, .ref ozb, .int zz, .ref ozl, .ref ozo, .int (zb (0 : Int32).toNatClampNeg), .int (zb (1 : Int32).toNatClampNeg), .int (zb (0 : Int32).toNatClampNeg), .int (zb (1 : Int32).toNatClampNeg), .int v13_127e_om, .int zi, .ref ozk, .ref ozm, .int zd, .ref ozg])), (ozp, .inl (cI, 1600, .inl zp)), (ozs, .inl (cI, 320, .inl zs)), (ozb, .inl (cI, 256, .inl zb)), (ozl, .inl (cI, 64, .inl (upd f_184_ozl x3_184.toNatClampNeg (f_127e_ozo x3_184.toNatClampNeg)))), (ozo, .inl (cI, 64, .inl f_127e_ozo)), (ozk, .inl (cI, 320, .inl zk)), (ozm, .inl (cI, 40, .inl zm)), (ozg, .inl (cI, 64, .inl zg))] := hD
                      refine lv_iinc (v := x3_184 + (1 : Int32)) (lv' := [(3, .int (x3_184 + (1 : Int32))), (2, .int x2_127e), (1, .int (zz - (2 : Int32))), (0, .ref om)]) hx hb dZM_open_209 hl (k := 0) rfl rfl (by decide) rfl (fun ls hl => ?_)
                      refine lv_goto (tgt := 184) hx hb dZM_open_212 (by decide) ?_
                      exact ih184 (x3_184 + (1 : Int32)) (upd f_184_ozl x3_184.toNatClampNeg (f_127e_ozo x3_184.toNatClampNeg)) hw _ _ (hP.sub [0, 1, 2, 3, 4, 5, 6, 7, 8] rfl) (hD.sub [0, 1, 2, 3, 4, 5, 6, 7, 8] (by decide) rfl) hS ls (lv_sub hl [0, 1, 2, 3] rfl)
                obtain ⟨n184, hw⟩ := hw
                refine lp184 _ (fun x3_184e f_184e_ozl hw H locs hP hD hS ls hl => ?_) n184 (0 : Int32) zl hw _ _ (hP.sub [0, 1, 2, 3, 4, 5, 6, 7, 8] rfl) (hD.sub [0, 1, 2, 3, 4, 5, 6, 7, 8] (by decide) rfl) hS ls (lv_sub hl [0, 1, 2, 3] rfl)
                refine lv_aload_n hx hb dZM_open_215 rfl (lv_at hl 3 rfl) ?_
                refine va_get (D := (dC, dI)) (ci := 6) (v := .int (zb (1 : Int32).toNatClampNeg)) (C := RZM) (T := TZM) (N := 19) hx hb hts inZM hown hK hP 0 rfl rfl 10 (by decide) (hts _ mm_628) (fun _ h9 => h9) rfl dZM_open_216 ?_
                refine lv_aload_n hx hb dZM_open_219 rfl (lv_at hl 3 rfl) ?_
                refine va_get (D := (dC, dI)) (ci := 6) (v := .int (zb (0 : Int32).toNatClampNeg)) (C := RZM) (T := TZM) (N := 19) hx hb hts inZM hown hK hP 0 rfl rfl 9 (by decide) (hts _ mm_627) (fun _ h9 => h9) rfl dZM_open_220 ?_
                refine lv_imul hx hb dZM_open_223 ?_
                have hP9 := hP.sub (ws' := [(om, .inr (6, [.int (0 : Int32), .int zw, .int zh, .ref ozp, .ref ozs, .ref ozb, .int zz, .ref ozl, .ref ozo, .int (zb (0 : Int32).toNatClampNeg), .int (zb (1 : Int32).toNatClampNeg), .int (zb (0 : Int32).toNatClampNeg), .int (zb (1 : Int32).toNatClampNeg), .int v13_127e_om, .int zi, .ref ozk, .ref ozm, .int zd, .ref ozg])), (ozp, .inl (cI, 1600, .inl zp)), (ozs, .inl (cI, 320, .inl zs)), (ozb, .inl (cI, 256, .inl zb)), (ozl, .inl (cI, 64, .inl f_184e_ozl)), (ozo, .inl (cI, 64, .inl f_127e_ozo)), (ozk, .inl (cI, 320, .inl zk)), (ozm, .inl (cI, 40, .inl zm)), (ozg, .inl (cI, 64, .inl zg))]) [0, 1, 2, 3, 4, 5, 6, 7, 8] rfl
                have hD9 := hD.sub (ws' := [(om, .inr (6, [.int (0 : Int32), .int zw, .int zh, .ref ozp, .ref ozs, .ref ozb, .int zz, .ref ozl, .ref ozo, .int (zb (0 : Int32).toNatClampNeg), .int (zb (1 : Int32).toNatClampNeg), .int (zb (0 : Int32).toNatClampNeg), .int (zb (1 : Int32).toNatClampNeg), .int v13_127e_om, .int zi, .ref ozk, .ref ozm, .int zd, .ref ozg])), (ozp, .inl (cI, 1600, .inl zp)), (ozs, .inl (cI, 320, .inl zs)), (ozb, .inl (cI, 256, .inl zb)), (ozl, .inl (cI, 64, .inl f_184e_ozl)), (ozo, .inl (cI, 64, .inl f_127e_ozo)), (ozk, .inl (cI, 320, .inl zk)), (ozm, .inl (cI, 40, .inl zm)), (ozg, .inl (cI, 64, .inl zg))]) [0, 1, 2, 3, 4, 5, 6, 7, 8] (by decide) rfl
                subst hQ9
                exact W.iret (v := (zb (1 : Int32).toNatClampNeg) * (zb (0 : Int32).toNatClampNeg)) hx hb hr (fun t ht hW => ⟨⟨(zb (1 : Int32).toNatClampNeg) * (zb (0 : Int32).toNatClampNeg), ((0 : Int32), f_184e_ozl, f_127e_ozo, zb (0 : Int32).toNatClampNeg, zb (1 : Int32).toNatClampNeg, zb (0 : Int32).toNatClampNeg, zb (1 : Int32).toNatClampNeg, v13_127e_om), rfl, hw, by rw [ht]; exact hP9, va_K.moved hW.alike hK, hD9⟩, hS.F ht⟩) hS.2.2 dZM_open_224
              · have hw := hw.2 c_21
                refine lv_iconst (v := (-1 : Int32)) hx hb dZM_open_164 (by decide) ?_
                have hP9 := hP.sub (ws' := [(om, .inr (6, [.int (0 : Int32), .int zw, .int zh, .ref ozp, .ref ozs, .ref ozb, .int zz, .ref ozl, .ref ozo, .int (zb (0 : Int32).toNatClampNeg), .int (zb (1 : Int32).toNatClampNeg), .int zu, .int zv, .int v13_127e_om, .int zi, .ref ozk, .ref ozm, .int zd, .ref ozg])), (ozp, .inl (cI, 1600, .inl zp)), (ozs, .inl (cI, 320, .inl zs)), (ozb, .inl (cI, 256, .inl zb)), (ozl, .inl (cI, 64, .inl zl)), (ozo, .inl (cI, 64, .inl f_127e_ozo)), (ozk, .inl (cI, 320, .inl zk)), (ozm, .inl (cI, 40, .inl zm)), (ozg, .inl (cI, 64, .inl zg))]) [0, 1, 2, 3, 4, 5, 6, 7, 8] rfl
                have hD9 := hD.sub (ws' := [(om, .inr (6, [.int (0 : Int32), .int zw, .int zh, .ref ozp, .ref ozs, .ref ozb, .int zz, .ref ozl, .ref ozo, .int (zb (0 : Int32).toNatClampNeg), .int (zb (1 : Int32).toNatClampNeg), .int zu, .int zv, .int v13_127e_om, .int zi, .ref ozk, .ref ozm, .int zd, .ref ozg])), (ozp, .inl (cI, 1600, .inl zp)), (ozs, .inl (cI, 320, .inl zs)), (ozb, .inl (cI, 256, .inl zb)), (ozl, .inl (cI, 64, .inl zl)), (ozo, .inl (cI, 64, .inl f_127e_ozo)), (ozk, .inl (cI, 320, .inl zk)), (ozm, .inl (cI, 40, .inl zm)), (ozg, .inl (cI, 64, .inl zg))]) [0, 1, 2, 3, 4, 5, 6, 7, 8] (by decide) rfl
                subst hQ9
                exact W.iret (v := (-1 : Int32)) hx hb hr (fun t ht hW => ⟨⟨(-1 : Int32), ((0 : Int32), zl, f_127e_ozo, zb (0 : Int32).toNatClampNeg, zb (1 : Int32).toNatClampNeg, zu, zv, v13_127e_om), rfl, hw, by rw [ht]; exact hP9, va_K.moved hW.alike hK, hD9⟩, hS.F ht⟩) hS.2.2 dZM_open_165
          · have hw := hw.1 c_12
            refine lv_iconst (v := (-1 : Int32)) hx hb dZM_open_96 (by decide) ?_
            have hP9 := hP.sub (ws' := [(om, .inr (6, [.int (0 : Int32), .int zw, .int zh, .ref ozp, .ref ozs, .ref ozb, .int zz, .ref ozl, .ref ozo, .int zc, .int zr, .int zu, .int zv, .int zq, .int zi, .ref ozk, .ref ozm, .int zd, .ref ozg])), (ozp, .inl (cI, 1600, .inl zp)), (ozs, .inl (cI, 320, .inl zs)), (ozb, .inl (cI, 256, .inl zb)), (ozl, .inl (cI, 64, .inl zl)), (ozo, .inl (cI, 64, .inl zo)), (ozk, .inl (cI, 320, .inl zk)), (ozm, .inl (cI, 40, .inl zm)), (ozg, .inl (cI, 64, .inl zg))]) [0, 1, 2, 3, 4, 5, 6, 7, 8] rfl
            have hD9 := hD.sub (ws' := [(om, .inr (6, [.int (0 : Int32), .int zw, .int zh, .ref ozp, .ref ozs, .ref ozb, .int zz, .ref ozl, .ref ozo, .int zc, .int zr, .int zu, .int zv, .int zq, .int zi, .ref ozk, .ref ozm, .int zd, .ref ozg])), (ozp, .inl (cI, 1600, .inl zp)), (ozs, .inl (cI, 320, .inl zs)), (ozb, .inl (cI, 256, .inl zb)), (ozl, .inl (cI, 64, .inl zl)), (ozo, .inl (cI, 64, .inl zo)), (ozk, .inl (cI, 320, .inl zk)), (ozm, .inl (cI, 40, .inl zm)), (ozg, .inl (cI, 64, .inl zg))]) [0, 1, 2, 3, 4, 5, 6, 7, 8] (by decide) rfl
            subst hQ9
            exact W.iret (v := (-1 : Int32)) hx hb hr (fun t ht hW => ⟨⟨(-1 : Int32), ((0 : Int32), zl, zo, zc, zr, zu, zv, zq), rfl, hw, by rw [ht]; exact hP9, va_K.moved hW.alike hK, hD9⟩, hS.F ht⟩) hS.2.2 dZM_open_97
    · have hw := hw.2 c_5
      refine lv_iconst (v := (0 : Int32)) hx hb dZM_open_52 (by decide) ?_
      have hP9 := hP.sub (ws' := [(om, .inr (6, [.int (0 : Int32), .int zw, .int zh, .ref ozp, .ref ozs, .ref ozb, .int zz, .ref ozl, .ref ozo, .int zc, .int zr, .int zu, .int zv, .int zq, .int zi, .ref ozk, .ref ozm, .int zd, .ref ozg])), (ozp, .inl (cI, 1600, .inl zp)), (ozs, .inl (cI, 320, .inl zs)), (ozb, .inl (cI, 256, .inl zb)), (ozl, .inl (cI, 64, .inl zl)), (ozo, .inl (cI, 64, .inl zo)), (ozk, .inl (cI, 320, .inl zk)), (ozm, .inl (cI, 40, .inl zm)), (ozg, .inl (cI, 64, .inl zg))]) [0, 1, 2, 3, 4, 5, 6, 7, 8] rfl
      have hD9 := hD.sub (ws' := [(om, .inr (6, [.int (0 : Int32), .int zw, .int zh, .ref ozp, .ref ozs, .ref ozb, .int zz, .ref ozl, .ref ozo, .int zc, .int zr, .int zu, .int zv, .int zq, .int zi, .ref ozk, .ref ozm, .int zd, .ref ozg])), (ozp, .inl (cI, 1600, .inl zp)), (ozs, .inl (cI, 320, .inl zs)), (ozb, .inl (cI, 256, .inl zb)), (ozl, .inl (cI, 64, .inl zl)), (ozo, .inl (cI, 64, .inl zo)), (ozk, .inl (cI, 320, .inl zk)), (ozm, .inl (cI, 40, .inl zm)), (ozg, .inl (cI, 64, .inl zg))]) [0, 1, 2, 3, 4, 5, 6, 7, 8] (by decide) rfl
      subst hQ9
      exact W.iret (v := (0 : Int32)) hx hb hr (fun t ht hW => ⟨⟨(0 : Int32), ((0 : Int32), zl, zo, zc, zr, zu, zv, zq), rfl, hw, by rw [ht]; exact hP9, va_K.moved hW.alike hK, hD9⟩, hS.F ht⟩) hS.2.2 dZM_open_53
theorem dZM_opened_0 : decode cZM_opened 0 = .ok (.aload_n 0, 1) := by decide +kernel
theorem dZM_opened_1 : decode cZM_opened 1 = .ok (.iload_n 1, 1) := by decide +kernel
theorem dZM_opened_2 : decode cZM_opened 2 = .ok (.iconst 0, 1) := by decide +kernel
theorem dZM_opened_3 : decode cZM_opened 3 = .ok (.aload_n 0, 1) := by decide +kernel
theorem dZM_opened_4 : decode cZM_opened 4 = .ok (.getfield 150, 3) := by decide +kernel
theorem dZM_opened_7 : decode cZM_opened 7 = .ok (.aload_n 0, 1) := by decide +kernel
theorem dZM_opened_8 : decode cZM_opened 8 = .ok (.getfield 153, 3) := by decide +kernel
theorem dZM_opened_11 : decode cZM_opened 11 = .ok (.imul, 1) := by decide +kernel
theorem dZM_opened_12 : decode cZM_opened 12 = .ok (.iconst 1, 1) := by decide +kernel
theorem dZM_opened_13 : decode cZM_opened 13 = .ok (.isub, 1) := by decide +kernel
theorem dZM_opened_14 : decode cZM_opened 14 = .ok (.invokestatic 48, 3) := by decide +kernel
theorem dZM_opened_17 : decode cZM_opened 17 = .ok (.ifCond .ne 7, 3) := by decide +kernel
theorem dZM_opened_20 : decode cZM_opened 20 = .ok (.iconst 1, 1) := by decide +kernel
theorem dZM_opened_21 : decode cZM_opened 21 = .ok (.goto 4, 3) := by decide +kernel
theorem dZM_opened_24 : decode cZM_opened 24 = .ok (.iconst 0, 1) := by decide +kernel
theorem dZM_opened_25 : decode cZM_opened 25 = .ok (.iconst 0, 1) := by decide +kernel
theorem dZM_opened_26 : decode cZM_opened 26 = .ok (.invokevirtual 60, 3) := by decide +kernel
theorem dZM_opened_29 : decode cZM_opened 29 = .ok (.ifCond .eq 7, 3) := by decide +kernel
theorem dZM_opened_32 : decode cZM_opened 32 = .ok (.iconst 0, 1) := by decide +kernel
theorem dZM_opened_33 : decode cZM_opened 33 = .ok (.goto 9, 3) := by decide +kernel
theorem dZM_opened_36 : decode cZM_opened 36 = .ok (.aload_n 0, 1) := by decide +kernel
theorem dZM_opened_37 : decode cZM_opened 37 = .ok (.getfield 19, 3) := by decide +kernel
theorem dZM_opened_40 : decode cZM_opened 40 = .ok (.iload_n 1, 1) := by decide +kernel
theorem dZM_opened_41 : decode cZM_opened 41 = .ok (.iaload, 1) := by decide +kernel
theorem dZM_opened_42 : decode cZM_opened 42 = .ok (.ireturn, 1) := by decide +kernel
abbrev wsZM_opened : List Cond := .code yZM_opened cZM_opened 2 (some .int) :: tbg
def wp_ZM_opened (zt : Int32) (zw : Int32) (zh : Int32) (zp : Nat → Int32) (zs : Nat → Int32) (zb : Nat → Int32) (zz : Int32) (zl : Nat → Int32) (zo : Nat → Int32) (zc : Int32) (zr : Int32) (zu : Int32) (zv : Int32) (zq : Int32) (zi : Int32) (zk : Nat → Int32) (zm : Nat → Int32) (zd : Int32) (zg : Nat → Int32) (a1 : Int32) (post : Int32 → Int32 → Prop) : Prop := wp_ZM_in a1 (0 : Int32) ((zu * zv) - (1 : Int32)) (fun r_1 : Int32 => ∃ J25 : Int32 → Prop, (∀ (t0_j25 : Int32), J25 t0_j25 → wp_ZM_throwing zt zw zh zp zs zb zz zl zo zc zr zu zv zq zi zk zm zd zg t0_j25 (0 : Int32) (fun (r_3 : Int32) (zt_2 : Int32) => ((r_3 = (0 : Int32) → (vp_in a1 64 ∧ (post (zl a1.toNatClampNeg) zt_2))) ∧ (¬ r_3 = (0 : Int32) → (post (0 : Int32) zt_2))))) ∧ (((r_1 = (0 : Int32) → (J25 (1 : Int32))) ∧ (¬ r_1 = (0 : Int32) → (J25 (0 : Int32))))))
abbrev rm_ZM_opened : Room := { frames := 1, cells := 0, slots := 0, locals := 22 }
set_option maxHeartbeats 4000000 in
set_option maxRecDepth 100000 in
theorem kt_ZM_opened (l : Launch) (dC : Nat → ClassId) (dI : Nat → Nat → Nat) (cI : ClassId) (om ozp ozs ozb ozl ozo ozk ozm ozg : Nat) (sz : Nat) (zt : Int32) (zw : Int32) (zh : Int32) (zp : Nat → Int32) (zs : Nat → Int32) (zb : Nat → Int32) (zz : Int32) (zl : Nat → Int32) (zo : Nat → Int32) (zc : Int32) (zr : Int32) (zu : Int32) (zv : Int32) (zq : Int32) (zi : Int32) (zk : Nat → Int32) (zm : Nat → Int32) (zd : Int32) (zg : Nat → Int32) (a1 : Int32) (post : Int32 → Int32 → Prop) (hw : wp_ZM_opened zt zw zh zp zs zb zz zl zo zc zr zu zv zq zi zk zm zd zg a1 post) : Met l yZM_opened wsZM_opened rm_ZM_opened (gw_Pc dC dI [(cI, .int)] [.ref om, .int a1] [(om, .inr (6, [.int zt, .int zw, .int zh, .ref ozp, .ref ozs, .ref ozb, .int zz, .ref ozl, .ref ozo, .int zc, .int zr, .int zu, .int zv, .int zq, .int zi, .ref ozk, .ref ozm, .int zd, .ref ozg])), (ozp, .inl (cI, 1600, .inl zp)), (ozs, .inl (cI, 320, .inl zs)), (ozb, .inl (cI, 256, .inl zb)), (ozl, .inl (cI, 64, .inl zl)), (ozo, .inl (cI, 64, .inl zo)), (ozk, .inl (cI, 320, .inl zk)), (ozm, .inl (cI, 40, .inl zm)), (ozg, .inl (cI, 64, .inl zg))] sz) (va_Qi (fun (r : Int32) (u : Int32) => post r u) (fun u t => gw_B dC dI [(cI, .int)] (va_A [(om, .inr (6, [.int zt, .int zw, .int zh, .ref ozp, .ref ozs, .ref ozb, .int zz, .ref ozl, .ref ozo, .int zc, .int zr, .int zu, .int zv, .int zq, .int zi, .ref ozk, .ref ozm, .int zd, .ref ozg])), (ozp, .inl (cI, 1600, .inl zp)), (ozs, .inl (cI, 320, .inl zs)), (ozb, .inl (cI, 256, .inl zb)), (ozl, .inl (cI, 64, .inl zl)), (ozo, .inl (cI, 64, .inl zo)), (ozk, .inl (cI, 320, .inl zk)), (ozm, .inl (cI, 40, .inl zm)), (ozg, .inl (cI, 64, .inl zg))] sz) [(om, .inr (6, [.int u, .int zw, .int zh, .ref ozp, .ref ozs, .ref ozb, .int zz, .ref ozl, .ref ozo, .int zc, .int zr, .int zu, .int zv, .int zq, .int zi, .ref ozk, .ref ozm, .int zd, .ref ozg])), (ozp, .inl (cI, 1600, .inl zp)), (ozs, .inl (cI, 320, .inl zs)), (ozb, .inl (cI, 256, .inl zb)), (ozl, .inl (cI, 64, .inl zl)), (ozo, .inl (cI, 64, .inl zo)), (ozk, .inl (cI, 320, .inl zk)), (ozm, .inl (cI, 40, .inl zm)), (ozg, .inl (cI, 64, .inl zg))] t) (va_A [(om, .inr (6, [.int zt, .int zw, .int zh, .ref ozp, .ref ozs, .ref ozb, .int zz, .ref ozl, .ref ozo, .int zc, .int zr, .int zu, .int zv, .int zq, .int zi, .ref ozk, .ref ozm, .int zd, .ref ozg])), (ozp, .inl (cI, 1600, .inl zp)), (ozs, .inl (cI, 320, .inl zs)), (ozb, .inl (cI, 256, .inl zb)), (ozl, .inl (cI, 64, .inl zl)), (ozo, .inl (cI, 64, .inl zo)), (ozk, .inl (cI, 320, .inl zk)), (ozm, .inl (cI, 40, .inl zm)), (ozg, .inl (cI, 64, .inl zg))] sz)) 0 0 (va_A [(om, .inr (6, [.int zt, .int zw, .int zh, .ref ozp, .ref ozs, .ref ozb, .int zz, .ref ozl, .ref ozo, .int zc, .int zr, .int zu, .int zv, .int zq, .int zi, .ref ozk, .ref ozm, .int zd, .ref ozg])), (ozp, .inl (cI, 1600, .inl zp)), (ozs, .inl (cI, 320, .inl zs)), (ozb, .inl (cI, 256, .inl zb)), (ozl, .inl (cI, 64, .inl zl)), (ozo, .inl (cI, 64, .inl zo)), (ozk, .inl (cI, 320, .inl zk)), (ozm, .inl (cI, 40, .inl zm)), (ozg, .inl (cI, 64, .inl zg))] sz) := by
  refine Met.ofW (cc := cZM_opened) (maxL := 2) (ret := (some .int)) (by decide) rfl ?_
  intro p e s m args below meth c s₁ B hml hv
  obtain ⟨ha9, hsz, hP, hK, hE, hD0⟩ := hv
  have hx := B.exec
  have hb := B.bytes
  have hr := B.returns
  have hts0 := atoms_spec (ws := wsZM_opened) B.pre
  have hts : ∀ w ∈ tbg, w.before args s = true := fun w h => hts0 w (List.mem_cons_of_mem _ h)
  have hown : s.vm.findClass RZM = some m.cls := findClass_of_methodNamed B.named
  have hlocks := B.notSynchronized
  subst hsz
  have hD := hD0.self (sz := s.heap.size)
  refine gx_Q (fun Q9 hQ9 => ?_)
  generalize hAe : va_A [(om, .inr (6, [.int zt, .int zw, .int zh, .ref ozp, .ref ozs, .ref ozb, .int zz, .ref ozl, .ref ozo, .int zc, .int zr, .int zu, .int zv, .int zq, .int zi, .ref ozk, .ref ozm, .int zd, .ref ozg])), (ozp, .inl (cI, 1600, .inl zp)), (ozs, .inl (cI, 320, .inl zs)), (ozb, .inl (cI, 256, .inl zb)), (ozl, .inl (cI, 64, .inl zl)), (ozo, .inl (cI, 64, .inl zo)), (ozk, .inl (cI, 320, .inl zk)), (ozm, .inl (cI, 40, .inl zm)), (ozg, .inl (cI, 64, .inl zg))] s.heap.size = A at hD hQ9 ⊢
  have hA : ∀ q : Nat, s.heap.size ≤ q → A q := fun q h => by rw [← hAe]; exact Or.inr h
  have hS : va_S A s.heap s.heap [] := va_S.rf
  have hl := lv_entry ([.ref om, .int a1]) (n := 2) (Nat.le_of_ble_eq_true rfl)
  have he9 : entryFrame m args 2 = F0 m 0 ((lg_sl [.ref om, .int a1] ++ List.replicate (2 - (lg_sl ([.ref om, .int a1] : List Value)).length) Slot.unset).toArray) [] := by rw [ha9]; exact lg_entry_eq m [.ref om, .int a1] 2
  rw [he9]
  generalize (lg_sl ([.ref om, .int a1] : List Value) ++ List.replicate (2 - (lg_sl ([.ref om, .int a1] : List Value)).length) Slot.unset).toArray = ls at hl ⊢
  have hl : lv_has ls 2 [(0, .ref om), (1, .int a1)] := hl
  refine lv_aload_n hx hb dZM_opened_0 rfl (lv_at hl 0 rfl) ?_
  refine lv_iload_n hx hb dZM_opened_1 rfl (lv_at hl 1 rfl) ?_
  refine lv_iconst (v := (0 : Int32)) hx hb dZM_opened_2 (by decide) ?_
  refine lv_aload_n hx hb dZM_opened_3 rfl (lv_at hl 0 rfl) ?_
  refine va_get (D := (dC, dI)) (ci := 6) (v := .int zu) (C := RZM) (T := TZM) (N := 19) hx hb hts inZM hown hK hP 0 rfl rfl 11 (by decide) (hts _ mm_629) (fun _ h9 => h9) rfl dZM_opened_4 ?_
  refine lv_aload_n hx hb dZM_opened_7 rfl (lv_at hl 0 rfl) ?_
  refine va_get (D := (dC, dI)) (ci := 6) (v := .int zv) (C := RZM) (T := TZM) (N := 19) hx hb hts inZM hown hK hP 0 rfl rfl 12 (by decide) (hts _ mm_630) (fun _ h9 => h9) rfl dZM_opened_8 ?_
  refine lv_imul hx hb dZM_opened_11 ?_
  refine lv_iconst (v := (1 : Int32)) hx hb dZM_opened_12 (by decide) ?_
  refine lv_isub hx hb dZM_opened_13 ?_
  have hPc := hP.sub (ws' := []) [] rfl
  refine vp_callSi (va_runS (As := [.int a1, .int (0 : Int32), .int ((zu * zv) - (1 : Int32))]) (rest := [.ref om]) ⟨hx, hb, hml, hown, hts⟩ (kt_ZM_in l dC dI cI  a1 (0 : Int32) ((zu * zv) - (1 : Int32)) _ hw) (va_cwS 3 hts (tb_S mm_687 mm_688 mm_8 mm_689) rfl rfl rfl (by decide +kernel) ⟨Nat.le_of_ble_eq_true rfl, Nat.le_of_ble_eq_true rfl⟩) ⟨gr_blind, fun U hU hW => gr_pre hPc hK hE hU hW⟩ rfl rfl hl.1 rfl (lv_room (Nat.le_of_ble_eq_true rfl)) dZM_opened_14 ⟨Nat.le_of_ble_eq_true rfl, Nat.le_of_ble_eq_true rfl⟩).run (fun r_1 hw => ?_)
  obtain ⟨J25, hJ25, hw⟩ := hw
  have j25 : ∀ (t0_j25 : Int32), J25 t0_j25 → ∀ (H : Heap) (locs : List Loc), va_P (dC, dI) vwCl [(om, .inr (6, [.int zt, .int zw, .int zh, .ref ozp, .ref ozs, .ref ozb, .int zz, .ref ozl, .ref ozo, .int zc, .int zr, .int zu, .int zv, .int zq, .int zi, .ref ozk, .ref ozm, .int zd, .ref ozg])), (ozp, .inl (cI, 1600, .inl zp)), (ozs, .inl (cI, 320, .inl zs)), (ozb, .inl (cI, 256, .inl zb)), (ozl, .inl (cI, 64, .inl zl)), (ozo, .inl (cI, 64, .inl zo)), (ozk, .inl (cI, 320, .inl zk)), (ozm, .inl (cI, 40, .inl zm)), (ozg, .inl (cI, 64, .inl zg))] H → va_D A [(om, .inr (6, [.int zt, .int zw, .int zh, .ref ozp, .ref ozs, .ref ozb, .int zz, .ref ozl, .ref ozo, .int zc, .int zr, .int zu, .int zv, .int zq, .int zi, .ref ozk, .ref ozm, .int zd, .ref ozg])), (ozp, .inl (cI, 1600, .inl zp)), (ozs, .inl (cI, 320, .inl zs)), (ozb, .inl (cI, 256, .inl zb)), (ozl, .inl (cI, 64, .inl zl)), (ozo, .inl (cI, 64, .inl zo)), (ozk, .inl (cI, 320, .inl zk)), (ozm, .inl (cI, 40, .inl zm)), (ozg, .inl (cI, 64, .inl zg))] → va_S A s.heap H locs → ∀ ls : Array Slot, lv_has ls 2 [(0, .ref om), (1, .int a1)] → W p l e (headSpec wsZM_opened rm_ZM_opened).room s m args below meth c H locs 0 0 Q9 (F0 m 25 ls [.int t0_j25, .ref om]) := by
    intro t0_j25 hw H locs hP hD hS ls hl
    have hw := hJ25 t0_j25 hw
    refine lv_iconst (v := (0 : Int32)) hx hb dZM_opened_25 (by decide) ?_
    have hPc := hP.sub (ws' := [(om, .inr (6, [.int zt, .int zw, .int zh, .ref ozp, .ref ozs, .ref ozb, .int zz, .ref ozl, .ref ozo, .int zc, .int zr, .int zu, .int zv, .int zq, .int zi, .ref ozk, .ref ozm, .int zd, .ref ozg])), (ozp, .inl (cI, 1600, .inl zp)), (ozs, .inl (cI, 320, .inl zs)), (ozb, .inl (cI, 256, .inl zb)), (ozl, .inl (cI, 64, .inl zl)), (ozo, .inl (cI, 64, .inl zo)), (ozk, .inl (cI, 320, .inl zk)), (ozm, .inl (cI, 40, .inl zm)), (ozg, .inl (cI, 64, .inl zg))]) [0, 1, 2, 3, 4, 5, 6, 7, 8] rfl
    have hDc := hD.sub (ws' := [(om, .inr (6, [.int zt, .int zw, .int zh, .ref ozp, .ref ozs, .ref ozb, .int zz, .ref ozl, .ref ozo, .int zc, .int zr, .int zu, .int zv, .int zq, .int zi, .ref ozk, .ref ozm, .int zd, .ref ozg])), (ozp, .inl (cI, 1600, .inl zp)), (ozs, .inl (cI, 320, .inl zs)), (ozb, .inl (cI, 256, .inl zb)), (ozl, .inl (cI, 64, .inl zl)), (ozo, .inl (cI, 64, .inl zo)), (ozk, .inl (cI, 320, .inl zk)), (ozm, .inl (cI, 40, .inl zm)), (ozg, .inl (cI, 64, .inl zg))]) [0, 1, 2, 3, 4, 5, 6, 7, 8] (by decide) rfl
    have hFc := va_free (wc := [(om, .inr (6, [.int zt, .int zw, .int zh, .ref ozp, .ref ozs, .ref ozb, .int zz, .ref ozl, .ref ozo, .int zc, .int zr, .int zu, .int zv, .int zq, .int zi, .ref ozk, .ref ozm, .int zd, .ref ozg])), (ozp, .inl (cI, 1600, .inl zp)), (ozs, .inl (cI, 320, .inl zs)), (ozb, .inl (cI, 256, .inl zb)), (ozl, .inl (cI, 64, .inl zl)), (ozo, .inl (cI, 64, .inl zo)), (ozk, .inl (cI, 320, .inl zk)), (ozm, .inl (cI, 40, .inl zm)), (ozg, .inl (cI, 64, .inl zg))]) hD hS hA [0, 1, 2, 3, 4, 5, 6, 7, 8] rfl
    refine va_calli (va_runV (As := [.int t0_j25, .int (0 : Int32)]) (rest := []) ⟨hx, hb, hml, hown, hts⟩ (kt_ZM_throwing l dC dI cI om ozp ozs ozb ozl ozo ozk ozm ozg _ zt zw zh zp zs zb zz zl zo zc zr zu zv zq zi zk zm zd zg t0_j25 (0 : Int32) _ hw) (cwV 2 hts (tb_V mm_693 mm_695 mp_5 mm_8 mm_696) rfl rfl rfl (by decide +kernel) ⟨Nat.le_of_ble_eq_true rfl, Nat.le_of_ble_eq_true rfl⟩) ⟨gw_blind, va_recv hK hPc (ci := 6) (q0 := 0) rfl rfl, fun U hU hW => gw_pre hPc hDc hK hE hU hW⟩ rfl rfl hl.1 rfl (lv_room (Nat.le_of_ble_eq_true rfl)) dZM_opened_26 ⟨Nat.le_of_ble_eq_true rfl, Nat.le_of_ble_eq_true rfl⟩) hS (fun q _ h => hFc q h) hFc (fun r_3 zt_2 t H1 locs ht hvm hw hB hz1 hk1 hS => ?_)
    obtain ⟨hP1, hK1, hD1⟩ := hB
    rw [ht] at hP1
    try dsimp only at hw
    obtain ⟨hP, hD⟩ := va_join (wr := []) (w1 := [(om, .inr (6, [.int zt_2, .int zw, .int zh, .ref ozp, .ref ozs, .ref ozb, .int zz, .ref ozl, .ref ozo, .int zc, .int zr, .int zu, .int zv, .int zq, .int zi, .ref ozk, .ref ozm, .int zd, .ref ozg])), (ozp, .inl (cI, 1600, .inl zp)), (ozs, .inl (cI, 320, .inl zs)), (ozb, .inl (cI, 256, .inl zb)), (ozl, .inl (cI, 64, .inl zl)), (ozo, .inl (cI, 64, .inl zo)), (ozk, .inl (cI, 320, .inl zk)), (ozm, .inl (cI, 40, .inl zm)), (ozg, .inl (cI, 64, .inl zg))]) hP hD [0, 1, 2, 3, 4, 5, 6, 7, 8] [] rfl rfl (by decide) (by decide) hk1 hFc hP1 hD1
    generalize H1 = H at hP hS ⊢
    have hP : va_P (dC, dI) vwCl [(om, .inr (6, [.int zt_2, .int zw, .int zh, .ref ozp, .ref ozs, .ref ozb, .int zz, .ref ozl, .ref ozo, .int zc, .int zr, .int zu, .int zv, .int zq, .int zi, .ref ozk, .ref ozm, .int zd, .ref ozg])), (ozp, .inl (cI, 1600, .inl zp)), (ozs, .inl (cI, 320, .inl zs)), (ozb, .inl (cI, 256, .inl zb)), (ozl, .inl (cI, 64, .inl zl)), (ozo, .inl (cI, 64, .inl zo)), (ozk, .inl (cI, 320, .inl zk)), (ozm, .inl (cI, 40, .inl zm)), (ozg, .inl (cI, 64, .inl zg))] H := hP
    have hD : va_D A [(om, .inr (6, [.int zt_2, .int zw, .int zh, .ref ozp, .ref ozs, .ref ozb, .int zz, .ref ozl, .ref ozo, .int zc, .int zr, .int zu, .int zv, .int zq, .int zi, .ref ozk, .ref ozm, .int zd, .ref ozg])), (ozp, .inl (cI, 1600, .inl zp)), (ozs, .inl (cI, 320, .inl zs)), (ozb, .inl (cI, 256, .inl zb)), (ozl, .inl (cI, 64, .inl zl)), (ozo, .inl (cI, 64, .inl zo)), (ozk, .inl (cI, 320, .inl zk)), (ozm, .inl (cI, 40, .inl zm)), (ozg, .inl (cI, 64, .inl zg))] := hD
    refine lv_if_eq (tgt := 36) hx hb dZM_opened_29 (by decide) (fun c_4 => ?_) (fun c_4 => ?_)
    · have hw := hw.1 c_4
      refine lv_aload_n hx hb dZM_opened_36 rfl (lv_at hl 0 rfl) ?_
      refine va_get (D := (dC, dI)) (ci := 6) (v := .ref ozl) (C := RZM) (T := TZM) (N := 19) hx hb hts inZM hown hK hP 0 rfl rfl 7 (by decide) (hts _ mm_625) (fun _ h9 => h9) rfl dZM_opened_37 ?_
      refine lv_iload_n hx hb dZM_opened_40 rfl (lv_at hl 1 rfl) ?_
      obtain ⟨h_5, hw⟩ := hw
      refine va_iald hx hb hK hP 4 0 rfl rfl h_5 dZM_opened_41 ?_
      have hP9 := hP.sub (ws' := [(om, .inr (6, [.int zt_2, .int zw, .int zh, .ref ozp, .ref ozs, .ref ozb, .int zz, .ref ozl, .ref ozo, .int zc, .int zr, .int zu, .int zv, .int zq, .int zi, .ref ozk, .ref ozm, .int zd, .ref ozg])), (ozp, .inl (cI, 1600, .inl zp)), (ozs, .inl (cI, 320, .inl zs)), (ozb, .inl (cI, 256, .inl zb)), (ozl, .inl (cI, 64, .inl zl)), (ozo, .inl (cI, 64, .inl zo)), (ozk, .inl (cI, 320, .inl zk)), (ozm, .inl (cI, 40, .inl zm)), (ozg, .inl (cI, 64, .inl zg))]) [0, 1, 2, 3, 4, 5, 6, 7, 8] rfl
      have hD9 := hD.sub (ws' := [(om, .inr (6, [.int zt_2, .int zw, .int zh, .ref ozp, .ref ozs, .ref ozb, .int zz, .ref ozl, .ref ozo, .int zc, .int zr, .int zu, .int zv, .int zq, .int zi, .ref ozk, .ref ozm, .int zd, .ref ozg])), (ozp, .inl (cI, 1600, .inl zp)), (ozs, .inl (cI, 320, .inl zs)), (ozb, .inl (cI, 256, .inl zb)), (ozl, .inl (cI, 64, .inl zl)), (ozo, .inl (cI, 64, .inl zo)), (ozk, .inl (cI, 320, .inl zk)), (ozm, .inl (cI, 40, .inl zm)), (ozg, .inl (cI, 64, .inl zg))]) [0, 1, 2, 3, 4, 5, 6, 7, 8] (by decide) rfl
      subst hQ9
      exact W.iret (v := zl a1.toNatClampNeg) hx hb hr (fun t ht hW => ⟨⟨zl a1.toNatClampNeg, zt_2, rfl, hw, by rw [ht]; exact hP9, va_K.moved hW.alike hK, hD9⟩, hS.F ht⟩) hS.2.2 dZM_opened_42
    · have hw := hw.2 c_4
      refine lv_iconst (v := (0 : Int32)) hx hb dZM_opened_32 (by decide) ?_
      refine lv_goto (tgt := 42) hx hb dZM_opened_33 (by decide) ?_
      have hP9 := hP.sub (ws' := [(om, .inr (6, [.int zt_2, .int zw, .int zh, .ref ozp, .ref ozs, .ref ozb, .int zz, .ref ozl, .ref ozo, .int zc, .int zr, .int zu, .int zv, .int zq, .int zi, .ref ozk, .ref ozm, .int zd, .ref ozg])), (ozp, .inl (cI, 1600, .inl zp)), (ozs, .inl (cI, 320, .inl zs)), (ozb, .inl (cI, 256, .inl zb)), (ozl, .inl (cI, 64, .inl zl)), (ozo, .inl (cI, 64, .inl zo)), (ozk, .inl (cI, 320, .inl zk)), (ozm, .inl (cI, 40, .inl zm)), (ozg, .inl (cI, 64, .inl zg))]) [0, 1, 2, 3, 4, 5, 6, 7, 8] rfl
      have hD9 := hD.sub (ws' := [(om, .inr (6, [.int zt_2, .int zw, .int zh, .ref ozp, .ref ozs, .ref ozb, .int zz, .ref ozl, .ref ozo, .int zc, .int zr, .int zu, .int zv, .int zq, .int zi, .ref ozk, .ref ozm, .int zd, .ref ozg])), (ozp, .inl (cI, 1600, .inl zp)), (ozs, .inl (cI, 320, .inl zs)), (ozb, .inl (cI, 256, .inl zb)), (ozl, .inl (cI, 64, .inl zl)), (ozo, .inl (cI, 64, .inl zo)), (ozk, .inl (cI, 320, .inl zk)), (ozm, .inl (cI, 40, .inl zm)), (ozg, .inl (cI, 64, .inl zg))]) [0, 1, 2, 3, 4, 5, 6, 7, 8] (by decide) rfl
      subst hQ9
      exact W.iret (v := (0 : Int32)) hx hb hr (fun t ht hW => ⟨⟨(0 : Int32), zt_2, rfl, hw, by rw [ht]; exact hP9, va_K.moved hW.alike hK, hD9⟩, hS.F ht⟩) hS.2.2 dZM_opened_42
  refine lv_if_ne (tgt := 24) hx hb dZM_opened_17 (by decide) (fun c_6 => ?_) (fun c_6 => ?_)
  · have hw := hw.2 c_6
    refine lv_iconst (v := (0 : Int32)) hx hb dZM_opened_24 (by decide) ?_
    exact j25 (0 : Int32) hw _ _ (hP.sub [0, 1, 2, 3, 4, 5, 6, 7, 8] rfl) (hD.sub [0, 1, 2, 3, 4, 5, 6, 7, 8] (by decide) rfl) hS ls (lv_sub hl [0, 1] rfl)
  · have hw := hw.1 c_6
    refine lv_iconst (v := (1 : Int32)) hx hb dZM_opened_20 (by decide) ?_
    refine lv_goto (tgt := 25) hx hb dZM_opened_21 (by decide) ?_
    exact j25 (1 : Int32) hw _ _ (hP.sub [0, 1, 2, 3, 4, 5, 6, 7, 8] rfl) (hD.sub [0, 1, 2, 3, 4, 5, 6, 7, 8] (by decide) rfl) hS ls (lv_sub hl [0, 1] rfl)
theorem dZM_restore_0 : decode cZM_restore 0 = .ok (.aload_n 0, 1) := by decide +kernel
theorem dZM_restore_1 : decode cZM_restore 1 = .ok (.aload_n 0, 1) := by decide +kernel
theorem dZM_restore_2 : decode cZM_restore 2 = .ok (.iconst 0, 1) := by decide +kernel
theorem dZM_restore_3 : decode cZM_restore 3 = .ok (.iload_n 1, 1) := by decide +kernel
theorem dZM_restore_4 : decode cZM_restore 4 = .ok (.iload_n 2, 1) := by decide +kernel
theorem dZM_restore_5 : decode cZM_restore 5 = .ok (.invokevirtual 112, 3) := by decide +kernel
theorem dZM_restore_8 : decode cZM_restore 8 = .ok (.ifCond .ne 7, 3) := by decide +kernel
theorem dZM_restore_11 : decode cZM_restore 11 = .ok (.iconst 1, 1) := by decide +kernel
theorem dZM_restore_12 : decode cZM_restore 12 = .ok (.goto 4, 3) := by decide +kernel
theorem dZM_restore_15 : decode cZM_restore 15 = .ok (.iconst 0, 1) := by decide +kernel
theorem dZM_restore_16 : decode cZM_restore 16 = .ok (.aload_n 0, 1) := by decide +kernel
theorem dZM_restore_17 : decode cZM_restore 17 = .ok (.getfield 153, 3) := by decide +kernel
theorem dZM_restore_20 : decode cZM_restore 20 = .ok (.ifCond .ne 7, 3) := by decide +kernel
theorem dZM_restore_23 : decode cZM_restore 23 = .ok (.iconst 1, 1) := by decide +kernel
theorem dZM_restore_24 : decode cZM_restore 24 = .ok (.goto 4, 3) := by decide +kernel
theorem dZM_restore_27 : decode cZM_restore 27 = .ok (.iconst 0, 1) := by decide +kernel
theorem dZM_restore_28 : decode cZM_restore 28 = .ok (.invokevirtual 60, 3) := by decide +kernel
theorem dZM_restore_31 : decode cZM_restore 31 = .ok (.ifCond .eq 5, 3) := by decide +kernel
theorem dZM_restore_34 : decode cZM_restore 34 = .ok (.iconst 0, 1) := by decide +kernel
theorem dZM_restore_35 : decode cZM_restore 35 = .ok (.ireturn, 1) := by decide +kernel
theorem dZM_restore_36 : decode cZM_restore 36 = .ok (.bipush 8, 2) := by decide +kernel
theorem dZM_restore_38 : decode cZM_restore 38 = .ok (.iload_n 1, 1) := by decide +kernel
theorem dZM_restore_39 : decode cZM_restore 39 = .ok (.imul, 1) := by decide +kernel
theorem dZM_restore_40 : decode cZM_restore 40 = .ok (.aload_n 0, 1) := by decide +kernel
theorem dZM_restore_41 : decode cZM_restore 41 = .ok (.getfield 38, 3) := by decide +kernel
theorem dZM_restore_44 : decode cZM_restore 44 = .ok (.invokestatic 115, 3) := by decide +kernel
theorem dZM_restore_47 : decode cZM_restore 47 = .ok (.istore_n 3, 1) := by decide +kernel
theorem dZM_restore_48 : decode cZM_restore 48 = .ok (.bipush 8, 2) := by decide +kernel
theorem dZM_restore_50 : decode cZM_restore 50 = .ok (.iload_n 2, 1) := by decide +kernel
theorem dZM_restore_51 : decode cZM_restore 51 = .ok (.imul, 1) := by decide +kernel
theorem dZM_restore_52 : decode cZM_restore 52 = .ok (.aload_n 0, 1) := by decide +kernel
theorem dZM_restore_53 : decode cZM_restore 53 = .ok (.getfield 42, 3) := by decide +kernel
theorem dZM_restore_56 : decode cZM_restore 56 = .ok (.invokestatic 115, 3) := by decide +kernel
theorem dZM_restore_59 : decode cZM_restore 59 = .ok (.istore 4, 2) := by decide +kernel
theorem dZM_restore_61 : decode cZM_restore 61 = .ok (.iload_n 3, 1) := by decide +kernel
theorem dZM_restore_62 : decode cZM_restore 62 = .ok (.aload_n 0, 1) := by decide +kernel
theorem dZM_restore_63 : decode cZM_restore 63 = .ok (.getfield 150, 3) := by decide +kernel
theorem dZM_restore_66 : decode cZM_restore 66 = .ok (.if_icmp .ne 12, 3) := by decide +kernel
theorem dZM_restore_69 : decode cZM_restore 69 = .ok (.iload 4, 2) := by decide +kernel
theorem dZM_restore_71 : decode cZM_restore 71 = .ok (.aload_n 0, 1) := by decide +kernel
theorem dZM_restore_72 : decode cZM_restore 72 = .ok (.getfield 153, 3) := by decide +kernel
theorem dZM_restore_75 : decode cZM_restore 75 = .ok (.if_icmp .eq 5, 3) := by decide +kernel
theorem dZM_restore_78 : decode cZM_restore 78 = .ok (.iconst 0, 1) := by decide +kernel
theorem dZM_restore_79 : decode cZM_restore 79 = .ok (.ireturn, 1) := by decide +kernel
theorem dZM_restore_80 : decode cZM_restore 80 = .ok (.iconst 0, 1) := by decide +kernel
theorem dZM_restore_81 : decode cZM_restore 81 = .ok (.istore 5, 2) := by decide +kernel
theorem dZM_restore_83 : decode cZM_restore 83 = .ok (.iload 5, 2) := by decide +kernel
theorem dZM_restore_85 : decode cZM_restore 85 = .ok (.iload_n 3, 1) := by decide +kernel
theorem dZM_restore_86 : decode cZM_restore 86 = .ok (.iload 4, 2) := by decide +kernel
theorem dZM_restore_88 : decode cZM_restore 88 = .ok (.imul, 1) := by decide +kernel
theorem dZM_restore_89 : decode cZM_restore 89 = .ok (.if_icmp .ge 43, 3) := by decide +kernel
theorem dZM_restore_92 : decode cZM_restore 92 = .ok (.aload_n 0, 1) := by decide +kernel
theorem dZM_restore_93 : decode cZM_restore 93 = .ok (.getfield 7, 3) := by decide +kernel
theorem dZM_restore_96 : decode cZM_restore 96 = .ok (.bipush 40, 2) := by decide +kernel
theorem dZM_restore_98 : decode cZM_restore 98 = .ok (.bipush 8, 2) := by decide +kernel
theorem dZM_restore_100 : decode cZM_restore 100 = .ok (.iload_n 2, 1) := by decide +kernel
theorem dZM_restore_101 : decode cZM_restore 101 = .ok (.imul, 1) := by decide +kernel
theorem dZM_restore_102 : decode cZM_restore 102 = .ok (.iload 5, 2) := by decide +kernel
theorem dZM_restore_104 : decode cZM_restore 104 = .ok (.iload_n 3, 1) := by decide +kernel
theorem dZM_restore_105 : decode cZM_restore 105 = .ok (.idiv, 1) := by decide +kernel
theorem dZM_restore_106 : decode cZM_restore 106 = .ok (.iadd, 1) := by decide +kernel
theorem dZM_restore_107 : decode cZM_restore 107 = .ok (.imul, 1) := by decide +kernel
theorem dZM_restore_108 : decode cZM_restore 108 = .ok (.bipush 8, 2) := by decide +kernel
theorem dZM_restore_110 : decode cZM_restore 110 = .ok (.iload_n 1, 1) := by decide +kernel
theorem dZM_restore_111 : decode cZM_restore 111 = .ok (.imul, 1) := by decide +kernel
theorem dZM_restore_112 : decode cZM_restore 112 = .ok (.iadd, 1) := by decide +kernel
theorem dZM_restore_113 : decode cZM_restore 113 = .ok (.iload 5, 2) := by decide +kernel
theorem dZM_restore_115 : decode cZM_restore 115 = .ok (.iload_n 3, 1) := by decide +kernel
theorem dZM_restore_116 : decode cZM_restore 116 = .ok (.irem, 1) := by decide +kernel
theorem dZM_restore_117 : decode cZM_restore 117 = .ok (.iadd, 1) := by decide +kernel
theorem dZM_restore_118 : decode cZM_restore 118 = .ok (.aload_n 0, 1) := by decide +kernel
theorem dZM_restore_119 : decode cZM_restore 119 = .ok (.getfield 19, 3) := by decide +kernel
theorem dZM_restore_122 : decode cZM_restore 122 = .ok (.iload 5, 2) := by decide +kernel
theorem dZM_restore_124 : decode cZM_restore 124 = .ok (.iaload, 1) := by decide +kernel
theorem dZM_restore_125 : decode cZM_restore 125 = .ok (.iastore, 1) := by decide +kernel
theorem dZM_restore_126 : decode cZM_restore 126 = .ok (.iinc 5 1, 3) := by decide +kernel
theorem dZM_restore_129 : decode cZM_restore 129 = .ok (.goto (-46), 3) := by decide +kernel
theorem dZM_restore_132 : decode cZM_restore 132 = .ok (.iconst 1, 1) := by decide +kernel
theorem dZM_restore_133 : decode cZM_restore 133 = .ok (.ireturn, 1) := by decide +kernel
abbrev wsZM_restore : List Cond := .code yZM_restore cZM_restore 6 (some .boolean) :: tbg
def lp_ZM_restore_83 (zt : Int32) (zw : Int32) (zh : Int32) (zp : Nat → Int32) (zs : Nat → Int32) (zb : Nat → Int32) (zz : Int32) (zl : Nat → Int32) (zo : Nat → Int32) (zc : Int32) (zr : Int32) (zu : Int32) (zv : Int32) (zq : Int32) (zi : Int32) (zk : Nat → Int32) (zm : Nat → Int32) (zd : Int32) (zg : Nat → Int32) (a1 : Int32) (a2 : Int32) (r_1 : Int32) (t0_j16 : Int32) (t0_j28 : Int32) (r_3 : Int32) (zt_2 : Int32) (r_5 : Int32) (r_6 : Int32) (post : Int32 → Int32 → (Nat → Int32) → Prop) (K83 : Int32 → (Nat → Int32) → Prop) (n : Nat) : Int32 → (Nat → Int32) → Prop := Nat.rec (motive := fun _ => Int32 → (Nat → Int32) → Prop) (fun (x5_83 : Int32) (f_83_ozp : Nat → Int32) => False) (fun _ ih83 (x5_83 : Int32) (f_83_ozp : Nat → Int32) => (((r_5 * r_6) ≤ x5_83 → (K83 x5_83 f_83_ozp)) ∧ (¬ (r_5 * r_6) ≤ x5_83 → (¬ r_5 = 0 ∧ (¬ r_5 = 0 ∧ (vp_in x5_83 64 ∧ (vp_in ((((40 : Int32) * (((8 : Int32) * a2) + (x5_83 / r_5))) + ((8 : Int32) * a1)) + (x5_83 - x5_83 / r_5 * r_5)) 1600 ∧ (ih83 (x5_83 + (1 : Int32)) (upd f_83_ozp ((((40 : Int32) * (((8 : Int32) * a2) + (x5_83 / r_5))) + ((8 : Int32) * a1)) + (x5_83 - x5_83 / r_5 * r_5)).toNatClampNeg (zl x5_83.toNatClampNeg)))))))))) n
def wp_ZM_restore (zt : Int32) (zw : Int32) (zh : Int32) (zp : Nat → Int32) (zs : Nat → Int32) (zb : Nat → Int32) (zz : Int32) (zl : Nat → Int32) (zo : Nat → Int32) (zc : Int32) (zr : Int32) (zu : Int32) (zv : Int32) (zq : Int32) (zi : Int32) (zk : Nat → Int32) (zm : Nat → Int32) (zd : Int32) (zg : Nat → Int32) (a1 : Int32) (a2 : Int32) (post : Int32 → Int32 → (Nat → Int32) → Prop) : Prop := wp_ZM_isTile zt zw zh zp zs zb zz zl zo zc zr zu zv zq zi zk zm zd zg (0 : Int32) a1 a2 (fun r_1 : Int32 => ∃ J16 : Int32 → Prop, (∀ (t0_j16 : Int32), J16 t0_j16 → ∃ J28 : Int32 → Prop, (∀ (t0_j28 : Int32), J28 t0_j28 → wp_ZM_throwing zt zw zh zp zs zb zz zl zo zc zr zu zv zq zi zk zm zd zg t0_j16 t0_j28 (fun (r_3 : Int32) (zt_2 : Int32) => ((r_3 = (0 : Int32) → (wp_ZM_part ((8 : Int32) * a1) zw (fun r_5 : Int32 => wp_ZM_part ((8 : Int32) * a2) zh (fun r_6 : Int32 => ((r_5 = zu → ((r_6 = zv → (∃ n : Nat, lp_ZM_restore_83 zt zw zh zp zs zb zz zl zo zc zr zu zv zq zi zk zm zd zg a1 a2 r_1 t0_j16 t0_j28 r_3 zt_2 r_5 r_6 post (fun (x5_83e : Int32) (f_83e_ozp : Nat → Int32) => post (1 : Int32) zt_2 f_83e_ozp) n (0 : Int32) zp)) ∧ (¬ r_6 = zv → (post (0 : Int32) zt_2 zp)))) ∧ (¬ r_5 = zu → (post (0 : Int32) zt_2 zp))))))) ∧ (¬ r_3 = (0 : Int32) → (post (0 : Int32) zt_2 zp))))) ∧ (((zv = (0 : Int32) → (J28 (1 : Int32))) ∧ (¬ zv = (0 : Int32) → (J28 (0 : Int32)))))) ∧ (((r_1 = (0 : Int32) → (J16 (1 : Int32))) ∧ (¬ r_1 = (0 : Int32) → (J16 (0 : Int32))))))
abbrev rm_ZM_restore : Room := { frames := 4, cells := 0, slots := 0, locals := 88 }
set_option maxHeartbeats 4000000 in
set_option maxRecDepth 100000 in
theorem kt_ZM_restore (l : Launch) (dC : Nat → ClassId) (dI : Nat → Nat → Nat) (cI : ClassId) (om ozp ozs ozb ozl ozo ozk ozm ozg : Nat) (sz : Nat) (zt : Int32) (zw : Int32) (zh : Int32) (zp : Nat → Int32) (zs : Nat → Int32) (zb : Nat → Int32) (zz : Int32) (zl : Nat → Int32) (zo : Nat → Int32) (zc : Int32) (zr : Int32) (zu : Int32) (zv : Int32) (zq : Int32) (zi : Int32) (zk : Nat → Int32) (zm : Nat → Int32) (zd : Int32) (zg : Nat → Int32) (a1 : Int32) (a2 : Int32) (post : Int32 → Int32 → (Nat → Int32) → Prop) (hw : wp_ZM_restore zt zw zh zp zs zb zz zl zo zc zr zu zv zq zi zk zm zd zg a1 a2 post) : Met l yZM_restore wsZM_restore rm_ZM_restore (gw_Pc dC dI [(cI, .int)] [.ref om, .int a1, .int a2] [(om, .inr (6, [.int zt, .int zw, .int zh, .ref ozp, .ref ozs, .ref ozb, .int zz, .ref ozl, .ref ozo, .int zc, .int zr, .int zu, .int zv, .int zq, .int zi, .ref ozk, .ref ozm, .int zd, .ref ozg])), (ozp, .inl (cI, 1600, .inl zp)), (ozs, .inl (cI, 320, .inl zs)), (ozb, .inl (cI, 256, .inl zb)), (ozl, .inl (cI, 64, .inl zl)), (ozo, .inl (cI, 64, .inl zo)), (ozk, .inl (cI, 320, .inl zk)), (ozm, .inl (cI, 40, .inl zm)), (ozg, .inl (cI, 64, .inl zg))] sz) (va_Qi (fun (r : Int32) (u : Int32 × (Nat → Int32)) => post r u.1 u.2) (fun u t => gw_B dC dI [(cI, .int)] (va_A [(om, .inr (6, [.int zt, .int zw, .int zh, .ref ozp, .ref ozs, .ref ozb, .int zz, .ref ozl, .ref ozo, .int zc, .int zr, .int zu, .int zv, .int zq, .int zi, .ref ozk, .ref ozm, .int zd, .ref ozg])), (ozp, .inl (cI, 1600, .inl zp)), (ozs, .inl (cI, 320, .inl zs)), (ozb, .inl (cI, 256, .inl zb)), (ozl, .inl (cI, 64, .inl zl)), (ozo, .inl (cI, 64, .inl zo)), (ozk, .inl (cI, 320, .inl zk)), (ozm, .inl (cI, 40, .inl zm)), (ozg, .inl (cI, 64, .inl zg))] sz) [(om, .inr (6, [.int u.1, .int zw, .int zh, .ref ozp, .ref ozs, .ref ozb, .int zz, .ref ozl, .ref ozo, .int zc, .int zr, .int zu, .int zv, .int zq, .int zi, .ref ozk, .ref ozm, .int zd, .ref ozg])), (ozp, .inl (cI, 1600, .inl u.2)), (ozs, .inl (cI, 320, .inl zs)), (ozb, .inl (cI, 256, .inl zb)), (ozl, .inl (cI, 64, .inl zl)), (ozo, .inl (cI, 64, .inl zo)), (ozk, .inl (cI, 320, .inl zk)), (ozm, .inl (cI, 40, .inl zm)), (ozg, .inl (cI, 64, .inl zg))] t) (va_A [(om, .inr (6, [.int zt, .int zw, .int zh, .ref ozp, .ref ozs, .ref ozb, .int zz, .ref ozl, .ref ozo, .int zc, .int zr, .int zu, .int zv, .int zq, .int zi, .ref ozk, .ref ozm, .int zd, .ref ozg])), (ozp, .inl (cI, 1600, .inl zp)), (ozs, .inl (cI, 320, .inl zs)), (ozb, .inl (cI, 256, .inl zb)), (ozl, .inl (cI, 64, .inl zl)), (ozo, .inl (cI, 64, .inl zo)), (ozk, .inl (cI, 320, .inl zk)), (ozm, .inl (cI, 40, .inl zm)), (ozg, .inl (cI, 64, .inl zg))] sz)) 0 0 (va_A [(om, .inr (6, [.int zt, .int zw, .int zh, .ref ozp, .ref ozs, .ref ozb, .int zz, .ref ozl, .ref ozo, .int zc, .int zr, .int zu, .int zv, .int zq, .int zi, .ref ozk, .ref ozm, .int zd, .ref ozg])), (ozp, .inl (cI, 1600, .inl zp)), (ozs, .inl (cI, 320, .inl zs)), (ozb, .inl (cI, 256, .inl zb)), (ozl, .inl (cI, 64, .inl zl)), (ozo, .inl (cI, 64, .inl zo)), (ozk, .inl (cI, 320, .inl zk)), (ozm, .inl (cI, 40, .inl zm)), (ozg, .inl (cI, 64, .inl zg))] sz) := by
  refine Met.ofW (cc := cZM_restore) (maxL := 6) (ret := (some .boolean)) (by decide) rfl ?_
  intro p e s m args below meth c s₁ B hml hv
  obtain ⟨ha9, hsz, hP, hK, hE, hD0⟩ := hv
  have hx := B.exec
  have hb := B.bytes
  have hr := B.returns
  have hts0 := atoms_spec (ws := wsZM_restore) B.pre
  have hts : ∀ w ∈ tbg, w.before args s = true := fun w h => hts0 w (List.mem_cons_of_mem _ h)
  have hown : s.vm.findClass RZM = some m.cls := findClass_of_methodNamed B.named
  have hlocks := B.notSynchronized
  subst hsz
  have hD := hD0.self (sz := s.heap.size)
  refine gx_Q (fun Q9 hQ9 => ?_)
  generalize hAe : va_A [(om, .inr (6, [.int zt, .int zw, .int zh, .ref ozp, .ref ozs, .ref ozb, .int zz, .ref ozl, .ref ozo, .int zc, .int zr, .int zu, .int zv, .int zq, .int zi, .ref ozk, .ref ozm, .int zd, .ref ozg])), (ozp, .inl (cI, 1600, .inl zp)), (ozs, .inl (cI, 320, .inl zs)), (ozb, .inl (cI, 256, .inl zb)), (ozl, .inl (cI, 64, .inl zl)), (ozo, .inl (cI, 64, .inl zo)), (ozk, .inl (cI, 320, .inl zk)), (ozm, .inl (cI, 40, .inl zm)), (ozg, .inl (cI, 64, .inl zg))] s.heap.size = A at hD hQ9 ⊢
  have hA : ∀ q : Nat, s.heap.size ≤ q → A q := fun q h => by rw [← hAe]; exact Or.inr h
  have hS : va_S A s.heap s.heap [] := va_S.rf
  have hl := lv_entry ([.ref om, .int a1, .int a2]) (n := 6) (Nat.le_of_ble_eq_true rfl)
  have he9 : entryFrame m args 6 = F0 m 0 ((lg_sl [.ref om, .int a1, .int a2] ++ List.replicate (6 - (lg_sl ([.ref om, .int a1, .int a2] : List Value)).length) Slot.unset).toArray) [] := by rw [ha9]; exact lg_entry_eq m [.ref om, .int a1, .int a2] 6
  rw [he9]
  generalize (lg_sl ([.ref om, .int a1, .int a2] : List Value) ++ List.replicate (6 - (lg_sl ([.ref om, .int a1, .int a2] : List Value)).length) Slot.unset).toArray = ls at hl ⊢
  have hl : lv_has ls 6 [(0, .ref om), (1, .int a1), (2, .int a2)] := hl
  refine lv_aload_n hx hb dZM_restore_0 rfl (lv_at hl 0 rfl) ?_
  refine lv_aload_n hx hb dZM_restore_1 rfl (lv_at hl 0 rfl) ?_
  refine lv_iconst (v := (0 : Int32)) hx hb dZM_restore_2 (by decide) ?_
  refine lv_iload_n hx hb dZM_restore_3 rfl (lv_at hl 1 rfl) ?_
  refine lv_iload_n hx hb dZM_restore_4 rfl (lv_at hl 2 rfl) ?_
  refine vp_callSi (va_runV (As := [.int (0 : Int32), .int a1, .int a2]) (rest := [.ref om]) ⟨hx, hb, hml, hown, hts⟩ (kt_ZM_isTile l dC dI cI om ozp ozs ozb ozl ozo ozk ozm ozg zt zw zh zp zs zb zz zl zo zc zr zu zv zq zi zk zm zd zg (0 : Int32) a1 a2 _ hw) (cwV 3 hts (tb_V mm_771 mm_773 mp_15 mm_8 mm_774) rfl rfl rfl (by decide +kernel) ⟨Nat.le_of_ble_eq_true rfl, Nat.le_of_ble_eq_true rfl⟩) ⟨gr_blind, va_recv hK hP (ci := 6) (q0 := 0) rfl rfl, fun U hU hW => gr_pre hP hK hE hU hW⟩ rfl rfl hl.1 rfl (lv_room (Nat.le_of_ble_eq_true rfl)) dZM_restore_5 ⟨Nat.le_of_ble_eq_true rfl, Nat.le_of_ble_eq_true rfl⟩).run (fun r_1 hw => ?_)
  obtain ⟨J16, hJ16, hw⟩ := hw
  have j16 : ∀ (t0_j16 : Int32), J16 t0_j16 → ∀ (H : Heap) (locs : List Loc), va_P (dC, dI) vwCl [(om, .inr (6, [.int zt, .int zw, .int zh, .ref ozp, .ref ozs, .ref ozb, .int zz, .ref ozl, .ref ozo, .int zc, .int zr, .int zu, .int zv, .int zq, .int zi, .ref ozk, .ref ozm, .int zd, .ref ozg])), (ozp, .inl (cI, 1600, .inl zp)), (ozs, .inl (cI, 320, .inl zs)), (ozb, .inl (cI, 256, .inl zb)), (ozl, .inl (cI, 64, .inl zl)), (ozo, .inl (cI, 64, .inl zo)), (ozk, .inl (cI, 320, .inl zk)), (ozm, .inl (cI, 40, .inl zm)), (ozg, .inl (cI, 64, .inl zg))] H → va_D A [(om, .inr (6, [.int zt, .int zw, .int zh, .ref ozp, .ref ozs, .ref ozb, .int zz, .ref ozl, .ref ozo, .int zc, .int zr, .int zu, .int zv, .int zq, .int zi, .ref ozk, .ref ozm, .int zd, .ref ozg])), (ozp, .inl (cI, 1600, .inl zp)), (ozs, .inl (cI, 320, .inl zs)), (ozb, .inl (cI, 256, .inl zb)), (ozl, .inl (cI, 64, .inl zl)), (ozo, .inl (cI, 64, .inl zo)), (ozk, .inl (cI, 320, .inl zk)), (ozm, .inl (cI, 40, .inl zm)), (ozg, .inl (cI, 64, .inl zg))] → va_S A s.heap H locs → ∀ ls : Array Slot, lv_has ls 6 [(0, .ref om), (1, .int a1), (2, .int a2)] → W p l e (headSpec wsZM_restore rm_ZM_restore).room s m args below meth c H locs 0 0 Q9 (F0 m 16 ls [.int t0_j16, .ref om]) := by
    intro t0_j16 hw H locs hP hD hS ls hl
    have hw := hJ16 t0_j16 hw
    refine lv_aload_n hx hb dZM_restore_16 rfl (lv_at hl 0 rfl) ?_
    refine va_get (D := (dC, dI)) (ci := 6) (v := .int zv) (C := RZM) (T := TZM) (N := 19) hx hb hts inZM hown hK hP 0 rfl rfl 12 (by decide) (hts _ mm_630) (fun _ h9 => h9) rfl dZM_restore_17 ?_
    obtain ⟨J28, hJ28, hw⟩ := hw
    have j28 : ∀ (t0_j28 : Int32), J28 t0_j28 → ∀ (H : Heap) (locs : List Loc), va_P (dC, dI) vwCl [(om, .inr (6, [.int zt, .int zw, .int zh, .ref ozp, .ref ozs, .ref ozb, .int zz, .ref ozl, .ref ozo, .int zc, .int zr, .int zu, .int zv, .int zq, .int zi, .ref ozk, .ref ozm, .int zd, .ref ozg])), (ozp, .inl (cI, 1600, .inl zp)), (ozs, .inl (cI, 320, .inl zs)), (ozb, .inl (cI, 256, .inl zb)), (ozl, .inl (cI, 64, .inl zl)), (ozo, .inl (cI, 64, .inl zo)), (ozk, .inl (cI, 320, .inl zk)), (ozm, .inl (cI, 40, .inl zm)), (ozg, .inl (cI, 64, .inl zg))] H → va_D A [(om, .inr (6, [.int zt, .int zw, .int zh, .ref ozp, .ref ozs, .ref ozb, .int zz, .ref ozl, .ref ozo, .int zc, .int zr, .int zu, .int zv, .int zq, .int zi, .ref ozk, .ref ozm, .int zd, .ref ozg])), (ozp, .inl (cI, 1600, .inl zp)), (ozs, .inl (cI, 320, .inl zs)), (ozb, .inl (cI, 256, .inl zb)), (ozl, .inl (cI, 64, .inl zl)), (ozo, .inl (cI, 64, .inl zo)), (ozk, .inl (cI, 320, .inl zk)), (ozm, .inl (cI, 40, .inl zm)), (ozg, .inl (cI, 64, .inl zg))] → va_S A s.heap H locs → ∀ ls : Array Slot, lv_has ls 6 [(0, .ref om), (1, .int a1), (2, .int a2)] → W p l e (headSpec wsZM_restore rm_ZM_restore).room s m args below meth c H locs 0 0 Q9 (F0 m 28 ls [.int t0_j28, .int t0_j16, .ref om]) := by
      intro t0_j28 hw H locs hP hD hS ls hl
      have hw := hJ28 t0_j28 hw
      have hPc := hP.sub (ws' := [(om, .inr (6, [.int zt, .int zw, .int zh, .ref ozp, .ref ozs, .ref ozb, .int zz, .ref ozl, .ref ozo, .int zc, .int zr, .int zu, .int zv, .int zq, .int zi, .ref ozk, .ref ozm, .int zd, .ref ozg])), (ozp, .inl (cI, 1600, .inl zp)), (ozs, .inl (cI, 320, .inl zs)), (ozb, .inl (cI, 256, .inl zb)), (ozl, .inl (cI, 64, .inl zl)), (ozo, .inl (cI, 64, .inl zo)), (ozk, .inl (cI, 320, .inl zk)), (ozm, .inl (cI, 40, .inl zm)), (ozg, .inl (cI, 64, .inl zg))]) [0, 1, 2, 3, 4, 5, 6, 7, 8] rfl
      have hDc := hD.sub (ws' := [(om, .inr (6, [.int zt, .int zw, .int zh, .ref ozp, .ref ozs, .ref ozb, .int zz, .ref ozl, .ref ozo, .int zc, .int zr, .int zu, .int zv, .int zq, .int zi, .ref ozk, .ref ozm, .int zd, .ref ozg])), (ozp, .inl (cI, 1600, .inl zp)), (ozs, .inl (cI, 320, .inl zs)), (ozb, .inl (cI, 256, .inl zb)), (ozl, .inl (cI, 64, .inl zl)), (ozo, .inl (cI, 64, .inl zo)), (ozk, .inl (cI, 320, .inl zk)), (ozm, .inl (cI, 40, .inl zm)), (ozg, .inl (cI, 64, .inl zg))]) [0, 1, 2, 3, 4, 5, 6, 7, 8] (by decide) rfl
      have hFc := va_free (wc := [(om, .inr (6, [.int zt, .int zw, .int zh, .ref ozp, .ref ozs, .ref ozb, .int zz, .ref ozl, .ref ozo, .int zc, .int zr, .int zu, .int zv, .int zq, .int zi, .ref ozk, .ref ozm, .int zd, .ref ozg])), (ozp, .inl (cI, 1600, .inl zp)), (ozs, .inl (cI, 320, .inl zs)), (ozb, .inl (cI, 256, .inl zb)), (ozl, .inl (cI, 64, .inl zl)), (ozo, .inl (cI, 64, .inl zo)), (ozk, .inl (cI, 320, .inl zk)), (ozm, .inl (cI, 40, .inl zm)), (ozg, .inl (cI, 64, .inl zg))]) hD hS hA [0, 1, 2, 3, 4, 5, 6, 7, 8] rfl
      refine va_calli (va_runV (As := [.int t0_j16, .int t0_j28]) (rest := []) ⟨hx, hb, hml, hown, hts⟩ (kt_ZM_throwing l dC dI cI om ozp ozs ozb ozl ozo ozk ozm ozg _ zt zw zh zp zs zb zz zl zo zc zr zu zv zq zi zk zm zd zg t0_j16 t0_j28 _ hw) (cwV 2 hts (tb_V mm_693 mm_695 mp_5 mm_8 mm_696) rfl rfl rfl (by decide +kernel) ⟨Nat.le_of_ble_eq_true rfl, Nat.le_of_ble_eq_true rfl⟩) ⟨gw_blind, va_recv hK hPc (ci := 6) (q0 := 0) rfl rfl, fun U hU hW => gw_pre hPc hDc hK hE hU hW⟩ rfl rfl hl.1 rfl (lv_room (Nat.le_of_ble_eq_true rfl)) dZM_restore_28 ⟨Nat.le_of_ble_eq_true rfl, Nat.le_of_ble_eq_true rfl⟩) hS (fun q _ h => hFc q h) hFc (fun r_3 zt_2 t H1 locs ht hvm hw hB hz1 hk1 hS => ?_)
      obtain ⟨hP1, hK1, hD1⟩ := hB
      rw [ht] at hP1
      try dsimp only at hw
      obtain ⟨hP, hD⟩ := va_join (wr := []) (w1 := [(om, .inr (6, [.int zt_2, .int zw, .int zh, .ref ozp, .ref ozs, .ref ozb, .int zz, .ref ozl, .ref ozo, .int zc, .int zr, .int zu, .int zv, .int zq, .int zi, .ref ozk, .ref ozm, .int zd, .ref ozg])), (ozp, .inl (cI, 1600, .inl zp)), (ozs, .inl (cI, 320, .inl zs)), (ozb, .inl (cI, 256, .inl zb)), (ozl, .inl (cI, 64, .inl zl)), (ozo, .inl (cI, 64, .inl zo)), (ozk, .inl (cI, 320, .inl zk)), (ozm, .inl (cI, 40, .inl zm)), (ozg, .inl (cI, 64, .inl zg))]) hP hD [0, 1, 2, 3, 4, 5, 6, 7, 8] [] rfl rfl (by decide) (by decide) hk1 hFc hP1 hD1
      generalize H1 = H at hP hS ⊢
      have hP : va_P (dC, dI) vwCl [(om, .inr (6, [.int zt_2, .int zw, .int zh, .ref ozp, .ref ozs, .ref ozb, .int zz, .ref ozl, .ref ozo, .int zc, .int zr, .int zu, .int zv, .int zq, .int zi, .ref ozk, .ref ozm, .int zd, .ref ozg])), (ozp, .inl (cI, 1600, .inl zp)), (ozs, .inl (cI, 320, .inl zs)), (ozb, .inl (cI, 256, .inl zb)), (ozl, .inl (cI, 64, .inl zl)), (ozo, .inl (cI, 64, .inl zo)), (ozk, .inl (cI, 320, .inl zk)), (ozm, .inl (cI, 40, .inl zm)), (ozg, .inl (cI, 64, .inl zg))] H := hP
      have hD : va_D A [(om, .inr (6, [.int zt_2, .int zw, .int zh, .ref ozp, .ref ozs, .ref ozb, .int zz, .ref ozl, .ref ozo, .int zc, .int zr, .int zu, .int zv, .int zq, .int zi, .ref ozk, .ref ozm, .int zd, .ref ozg])), (ozp, .inl (cI, 1600, .inl zp)), (ozs, .inl (cI, 320, .inl zs)), (ozb, .inl (cI, 256, .inl zb)), (ozl, .inl (cI, 64, .inl zl)), (ozo, .inl (cI, 64, .inl zo)), (ozk, .inl (cI, 320, .inl zk)), (ozm, .inl (cI, 40, .inl zm)), (ozg, .inl (cI, 64, .inl zg))] := hD
      refine lv_if_eq (tgt := 36) hx hb dZM_restore_31 (by decide) (fun c_4 => ?_) (fun c_4 => ?_)
      · have hw := hw.1 c_4
        refine lv_bipush (v := (8 : Int32)) hx hb dZM_restore_36 (by decide) ?_
        refine lv_iload_n hx hb dZM_restore_38 rfl (lv_at hl 1 rfl) ?_
        refine lv_imul hx hb dZM_restore_39 ?_
        refine lv_aload_n hx hb dZM_restore_40 rfl (lv_at hl 0 rfl) ?_
        refine va_get (D := (dC, dI)) (ci := 6) (v := .int zw) (C := RZM) (T := TZM) (N := 19) hx hb hts inZM hown hK hP 0 rfl rfl 1 (by decide) (hts _ mm_619) (fun _ h9 => h9) rfl dZM_restore_41 ?_
        have hPc := hP.sub (ws' := []) [] rfl
        refine vp_callSi (va_runS (As := [.int ((8 : Int32) * a1), .int zw]) (rest := []) ⟨hx, hb, hml, hown, hts⟩ (kt_ZM_part l dC dI cI  ((8 : Int32) * a1) zw _ hw) (va_cwS 2 hts (tb_S mm_775 mm_776 mm_8 mm_777) rfl rfl rfl (by decide +kernel) ⟨Nat.le_of_ble_eq_true rfl, Nat.le_of_ble_eq_true rfl⟩) ⟨gr_blind, fun U hU hW => gr_pre hPc hK hE hU hW⟩ rfl rfl hl.1 rfl (lv_room (Nat.le_of_ble_eq_true rfl)) dZM_restore_44 ⟨Nat.le_of_ble_eq_true rfl, Nat.le_of_ble_eq_true rfl⟩).run (fun r_5 hw => ?_)
        refine lv_istore_n (lv' := [(3, .int r_5), (0, .ref om), (1, .int a1), (2, .int a2)]) hx hb dZM_restore_47 rfl hl (by decide) rfl (fun ls hl => ?_)
        refine lv_bipush (v := (8 : Int32)) hx hb dZM_restore_48 (by decide) ?_
        refine lv_iload_n hx hb dZM_restore_50 rfl (lv_at hl 3 rfl) ?_
        refine lv_imul hx hb dZM_restore_51 ?_
        refine lv_aload_n hx hb dZM_restore_52 rfl (lv_at hl 1 rfl) ?_
        refine va_get (D := (dC, dI)) (ci := 6) (v := .int zh) (C := RZM) (T := TZM) (N := 19) hx hb hts inZM hown hK hP 0 rfl rfl 2 (by decide) (hts _ mm_620) (fun _ h9 => h9) rfl dZM_restore_53 ?_
        have hPc := hP.sub (ws' := []) [] rfl
        refine vp_callSi (va_runS (As := [.int ((8 : Int32) * a2), .int zh]) (rest := []) ⟨hx, hb, hml, hown, hts⟩ (kt_ZM_part l dC dI cI  ((8 : Int32) * a2) zh _ hw) (va_cwS 2 hts (tb_S mm_775 mm_776 mm_8 mm_777) rfl rfl rfl (by decide +kernel) ⟨Nat.le_of_ble_eq_true rfl, Nat.le_of_ble_eq_true rfl⟩) ⟨gr_blind, fun U hU hW => gr_pre hPc hK hE hU hW⟩ rfl rfl hl.1 rfl (lv_room (Nat.le_of_ble_eq_true rfl)) dZM_restore_56 ⟨Nat.le_of_ble_eq_true rfl, Nat.le_of_ble_eq_true rfl⟩).run (fun r_6 hw => ?_)
        refine lv_istore (lv' := [(4, .int r_6), (3, .int r_5), (0, .ref om), (1, .int a1), (2, .int a2)]) hx hb dZM_restore_59 hl (by decide) rfl (fun ls hl => ?_)
        refine lv_iload_n hx hb dZM_restore_61 rfl (lv_at hl 1 rfl) ?_
        refine lv_aload_n hx hb dZM_restore_62 rfl (lv_at hl 2 rfl) ?_
        refine va_get (D := (dC, dI)) (ci := 6) (v := .int zu) (C := RZM) (T := TZM) (N := 19) hx hb hts inZM hown hK hP 0 rfl rfl 11 (by decide) (hts _ mm_629) (fun _ h9 => h9) rfl dZM_restore_63 ?_
        refine lv_icmp_ne (tgt := 78) hx hb dZM_restore_66 (by decide) (fun c_7 => ?_) (fun c_7 => ?_)
        · have hw := hw.2 c_7
          refine lv_iconst (v := (0 : Int32)) hx hb dZM_restore_78 (by decide) ?_
          have hP9 := hP.sub (ws' := [(om, .inr (6, [.int zt_2, .int zw, .int zh, .ref ozp, .ref ozs, .ref ozb, .int zz, .ref ozl, .ref ozo, .int zc, .int zr, .int zu, .int zv, .int zq, .int zi, .ref ozk, .ref ozm, .int zd, .ref ozg])), (ozp, .inl (cI, 1600, .inl zp)), (ozs, .inl (cI, 320, .inl zs)), (ozb, .inl (cI, 256, .inl zb)), (ozl, .inl (cI, 64, .inl zl)), (ozo, .inl (cI, 64, .inl zo)), (ozk, .inl (cI, 320, .inl zk)), (ozm, .inl (cI, 40, .inl zm)), (ozg, .inl (cI, 64, .inl zg))]) [0, 1, 2, 3, 4, 5, 6, 7, 8] rfl
          have hD9 := hD.sub (ws' := [(om, .inr (6, [.int zt_2, .int zw, .int zh, .ref ozp, .ref ozs, .ref ozb, .int zz, .ref ozl, .ref ozo, .int zc, .int zr, .int zu, .int zv, .int zq, .int zi, .ref ozk, .ref ozm, .int zd, .ref ozg])), (ozp, .inl (cI, 1600, .inl zp)), (ozs, .inl (cI, 320, .inl zs)), (ozb, .inl (cI, 256, .inl zb)), (ozl, .inl (cI, 64, .inl zl)), (ozo, .inl (cI, 64, .inl zo)), (ozk, .inl (cI, 320, .inl zk)), (ozm, .inl (cI, 40, .inl zm)), (ozg, .inl (cI, 64, .inl zg))]) [0, 1, 2, 3, 4, 5, 6, 7, 8] (by decide) rfl
          subst hQ9
          exact W.zret (v := (0 : Int32)) (ty := .boolean) hx hb hr rfl (fun t ht hW => ⟨⟨(0 : Int32), (zt_2, zp), rfl, hw, by rw [ht]; exact hP9, va_K.moved hW.alike hK, hD9⟩, hS.F ht⟩) hS.2.2 dZM_restore_79
        · have hw := hw.1 c_7
          refine lv_iload hx hb dZM_restore_69 (lv_at hl 0 rfl) ?_
          refine lv_aload_n hx hb dZM_restore_71 rfl (lv_at hl 2 rfl) ?_
          refine va_get (D := (dC, dI)) (ci := 6) (v := .int zv) (C := RZM) (T := TZM) (N := 19) hx hb hts inZM hown hK hP 0 rfl rfl 12 (by decide) (hts _ mm_630) (fun _ h9 => h9) rfl dZM_restore_72 ?_
          refine lv_icmp_eq (tgt := 80) hx hb dZM_restore_75 (by decide) (fun c_8 => ?_) (fun c_8 => ?_)
          · have hw := hw.1 c_8
            refine lv_iconst (v := (0 : Int32)) hx hb dZM_restore_80 (by decide) ?_
            refine lv_istore (lv' := [(5, .int (0 : Int32)), (4, .int r_6), (3, .int r_5), (0, .ref om), (1, .int a1), (2, .int a2)]) hx hb dZM_restore_81 hl (by decide) rfl (fun ls hl => ?_)
            have lp83 : ∀ K83 : Int32 → (Nat → Int32) → Prop, (∀ (x5_83 : Int32) (f_83_ozp : Nat → Int32), K83 x5_83 f_83_ozp → ∀ (H : Heap) (locs : List Loc), va_P (dC, dI) vwCl [(om, .inr (6, [.int zt_2, .int zw, .int zh, .ref ozp, .ref ozs, .ref ozb, .int zz, .ref ozl, .ref ozo, .int zc, .int zr, .int zu, .int zv, .int zq, .int zi, .ref ozk, .ref ozm, .int zd, .ref ozg])), (ozp, .inl (cI, 1600, .inl f_83_ozp)), (ozs, .inl (cI, 320, .inl zs)), (ozb, .inl (cI, 256, .inl zb)), (ozl, .inl (cI, 64, .inl zl)), (ozo, .inl (cI, 64, .inl zo)), (ozk, .inl (cI, 320, .inl zk)), (ozm, .inl (cI, 40, .inl zm)), (ozg, .inl (cI, 64, .inl zg))] H → va_D A [(om, .inr (6, [.int zt_2, .int zw, .int zh, .ref ozp, .ref ozs, .ref ozb, .int zz, .ref ozl, .ref ozo, .int zc, .int zr, .int zu, .int zv, .int zq, .int zi, .ref ozk, .ref ozm, .int zd, .ref ozg])), (ozp, .inl (cI, 1600, .inl f_83_ozp)), (ozs, .inl (cI, 320, .inl zs)), (ozb, .inl (cI, 256, .inl zb)), (ozl, .inl (cI, 64, .inl zl)), (ozo, .inl (cI, 64, .inl zo)), (ozk, .inl (cI, 320, .inl zk)), (ozm, .inl (cI, 40, .inl zm)), (ozg, .inl (cI, 64, .inl zg))] → va_S A s.heap H locs → ∀ ls : Array Slot, lv_has ls 6 [(5, .int x5_83), (4, .int r_6), (3, .int r_5), (0, .ref om), (1, .int a1), (2, .int a2)] → W p l e (headSpec wsZM_restore rm_ZM_restore).room s m args below meth c H locs 0 0 Q9 (F0 m 132 ls [])) → ∀ (n : Nat) (x5_83 : Int32) (f_83_ozp : Nat → Int32), lp_ZM_restore_83 zt zw zh zp zs zb zz zl zo zc zr zu zv zq zi zk zm zd zg a1 a2 r_1 t0_j16 t0_j28 r_3 zt_2 r_5 r_6 post K83 n x5_83 f_83_ozp → ∀ (H : Heap) (locs : List Loc), va_P (dC, dI) vwCl [(om, .inr (6, [.int zt_2, .int zw, .int zh, .ref ozp, .ref ozs, .ref ozb, .int zz, .ref ozl, .ref ozo, .int zc, .int zr, .int zu, .int zv, .int zq, .int zi, .ref ozk, .ref ozm, .int zd, .ref ozg])), (ozp, .inl (cI, 1600, .inl f_83_ozp)), (ozs, .inl (cI, 320, .inl zs)), (ozb, .inl (cI, 256, .inl zb)), (ozl, .inl (cI, 64, .inl zl)), (ozo, .inl (cI, 64, .inl zo)), (ozk, .inl (cI, 320, .inl zk)), (ozm, .inl (cI, 40, .inl zm)), (ozg, .inl (cI, 64, .inl zg))] H → va_D A [(om, .inr (6, [.int zt_2, .int zw, .int zh, .ref ozp, .ref ozs, .ref ozb, .int zz, .ref ozl, .ref ozo, .int zc, .int zr, .int zu, .int zv, .int zq, .int zi, .ref ozk, .ref ozm, .int zd, .ref ozg])), (ozp, .inl (cI, 1600, .inl f_83_ozp)), (ozs, .inl (cI, 320, .inl zs)), (ozb, .inl (cI, 256, .inl zb)), (ozl, .inl (cI, 64, .inl zl)), (ozo, .inl (cI, 64, .inl zo)), (ozk, .inl (cI, 320, .inl zk)), (ozm, .inl (cI, 40, .inl zm)), (ozg, .inl (cI, 64, .inl zg))] → va_S A s.heap H locs → ∀ ls : Array Slot, lv_has ls 6 [(5, .int x5_83), (4, .int r_6), (3, .int r_5), (0, .ref om), (1, .int a1), (2, .int a2)] → W p l e (headSpec wsZM_restore rm_ZM_restore).room s m args below meth c H locs 0 0 Q9 (F0 m 83 ls []) := by
              intro K83 aft83 n
              induction n with
              | zero => intro x5_83 f_83_ozp hw; exact False.elim hw
              | succ n ih83 =>
                intro x5_83 f_83_ozp hw H locs hP hD hS ls hl
                refine lv_iload hx hb dZM_restore_83 (lv_at hl 0 rfl) ?_
                refine lv_iload_n hx hb dZM_restore_85 rfl (lv_at hl 2 rfl) ?_
                refine lv_iload hx hb dZM_restore_86 (lv_at hl 1 rfl) ?_
                refine lv_imul hx hb dZM_restore_88 ?_
                refine lv_icmp_ge (tgt := 132) hx hb dZM_restore_89 (by decide) (fun c_9 => ?_) (fun c_9 => ?_)
                · have hw := hw.1 c_9
                  exact aft83 x5_83 f_83_ozp hw _ _ (hP.sub [0, 1, 2, 3, 4, 5, 6, 7, 8] rfl) (hD.sub [0, 1, 2, 3, 4, 5, 6, 7, 8] (by decide) rfl) hS ls (lv_sub hl [0, 1, 2, 3, 4, 5] rfl)
                · have hw := hw.2 c_9
                  refine lv_aload_n hx hb dZM_restore_92 rfl (lv_at hl 3 rfl) ?_
                  refine va_get (D := (dC, dI)) (ci := 6) (v := .ref ozp) (C := RZM) (T := TZM) (N := 19) hx hb hts inZM hown hK hP 0 rfl rfl 3 (by decide) (hts _ mm_621) (fun _ h9 => h9) rfl dZM_restore_93 ?_
                  refine lv_bipush (v := (40 : Int32)) hx hb dZM_restore_96 (by decide) ?_
                  refine lv_bipush (v := (8 : Int32)) hx hb dZM_restore_98 (by decide) ?_
                  refine lv_iload_n hx hb dZM_restore_100 rfl (lv_at hl 5 rfl) ?_
                  refine lv_imul hx hb dZM_restore_101 ?_
                  refine lv_iload hx hb dZM_restore_102 (lv_at hl 0 rfl) ?_
                  refine lv_iload_n hx hb dZM_restore_104 rfl (lv_at hl 2 rfl) ?_
                  obtain ⟨h_10, hw⟩ := hw
                  refine lv_idiv hx hb dZM_restore_105 h_10 ?_
                  refine lv_iadd hx hb dZM_restore_106 ?_
                  refine lv_imul hx hb dZM_restore_107 ?_
                  refine lv_bipush (v := (8 : Int32)) hx hb dZM_restore_108 (by decide) ?_
                  refine lv_iload_n hx hb dZM_restore_110 rfl (lv_at hl 4 rfl) ?_
                  refine lv_imul hx hb dZM_restore_111 ?_
                  refine lv_iadd hx hb dZM_restore_112 ?_
                  refine lv_iload hx hb dZM_restore_113 (lv_at hl 0 rfl) ?_
                  refine lv_iload_n hx hb dZM_restore_115 rfl (lv_at hl 2 rfl) ?_
                  obtain ⟨h_11, hw⟩ := hw
                  refine lv_irem hx hb dZM_restore_116 h_11 ?_
                  refine lv_iadd hx hb dZM_restore_117 ?_
                  refine lv_aload_n hx hb dZM_restore_118 rfl (lv_at hl 3 rfl) ?_
                  refine va_get (D := (dC, dI)) (ci := 6) (v := .ref ozl) (C := RZM) (T := TZM) (N := 19) hx hb hts inZM hown hK hP 0 rfl rfl 7 (by decide) (hts _ mm_625) (fun _ h9 => h9) rfl dZM_restore_119 ?_
                  refine lv_iload hx hb dZM_restore_122 (lv_at hl 0 rfl) ?_
                  obtain ⟨h_12, hw⟩ := hw
                  refine va_iald hx hb hK hP 4 0 rfl rfl h_12 dZM_restore_124 ?_
                  obtain ⟨h_13, hw⟩ := hw
                  refine va_iast hx hb hK hP hD hS 1 0 rfl rfl h_13 dZM_restore_125 (fun H locs hP hD hS => ?_)
                  have hP : va_P (dC, dI) vwCl [(om, .inr (6, [.int zt_2, .int zw, .int zh, .ref ozp, .ref ozs, .ref ozb, .int zz, .ref ozl, .ref ozo, .int zc, .int zr, .int zu, .int zv, .int zq, .int zi, .ref ozk, .ref ozm, .int zd, .ref ozg])), (ozp, .inl (cI, 1600, .inl (upd f_83_ozp ((((40 : Int32) * (((8 : Int32) * a2) + (x5_83 / r_5))) + ((8 : Int32) * a1)) + (x5_83 - x5_83 / r_5 * r_5)).toNatClampNeg (zl x5_83.toNatClampNeg)))), (ozs, .inl (cI, 320, .inl zs)), (ozb, .inl (cI, 256, .inl zb)), (ozl, .inl (cI, 64, .inl zl)), (ozo, .inl (cI, 64, .inl zo)), (ozk, .inl (cI, 320, .inl zk)), (ozm, .inl (cI, 40, .inl zm)), (ozg, .inl (cI, 64, .inl zg))] H := hP
                  have hD : va_D A [(om, .inr (6, [.int zt_2, .int zw, .int zh, .ref ozp, .ref ozs, .ref ozb, .int zz, .ref ozl, .ref ozo, .int zc, .int zr, .int zu, .int zv, .int zq, .int zi, .ref ozk, .ref ozm, .int zd, .ref ozg])), (ozp, .inl (cI, 1600, .inl (upd f_83_ozp ((((40 : Int32) * (((8 : Int32) * a2) + (x5_83 / r_5))) + ((8 : Int32) * a1)) + (x5_83 - x5_83 / r_5 * r_5)).toNatClampNeg (zl x5_83.toNatClampNeg)))), (ozs, .inl (cI, 320, .inl zs)), (ozb, .inl (cI, 256, .inl zb)), (ozl, .inl (cI, 64, .inl zl)), (ozo, .inl (cI, 64, .inl zo)), (ozk, .inl (cI, 320, .inl zk)), (ozm, .inl (cI, 40, .inl zm)), (ozg, .inl (cI, 64, .inl zg))] := hD
                  refine lv_iinc (v := x5_83 + (1 : Int32)) (lv' := [(5, .int (x5_83 + (1 : Int32))), (4, .int r_6), (3, .int r_5), (0, .ref om), (1, .int a1), (2, .int a2)]) hx hb dZM_restore_126 hl (k := 0) rfl rfl (by decide) rfl (fun ls hl => ?_)
                  refine lv_goto (tgt := 83) hx hb dZM_restore_129 (by decide) ?_
                  exact ih83 (x5_83 + (1 : Int32)) (upd f_83_ozp ((((40 : Int32) * (((8 : Int32) * a2) + (x5_83 / r_5))) + ((8 : Int32) * a1)) + (x5_83 - x5_83 / r_5 * r_5)).toNatClampNeg (zl x5_83.toNatClampNeg)) hw _ _ (hP.sub [0, 1, 2, 3, 4, 5, 6, 7, 8] rfl) (hD.sub [0, 1, 2, 3, 4, 5, 6, 7, 8] (by decide) rfl) hS ls (lv_sub hl [0, 1, 2, 3, 4, 5] rfl)
            obtain ⟨n83, hw⟩ := hw
            refine lp83 _ (fun x5_83e f_83e_ozp hw H locs hP hD hS ls hl => ?_) n83 (0 : Int32) zp hw _ _ (hP.sub [0, 1, 2, 3, 4, 5, 6, 7, 8] rfl) (hD.sub [0, 1, 2, 3, 4, 5, 6, 7, 8] (by decide) rfl) hS ls (lv_sub hl [0, 1, 2, 3, 4, 5] rfl)
            refine lv_iconst (v := (1 : Int32)) hx hb dZM_restore_132 (by decide) ?_
            have hP9 := hP.sub (ws' := [(om, .inr (6, [.int zt_2, .int zw, .int zh, .ref ozp, .ref ozs, .ref ozb, .int zz, .ref ozl, .ref ozo, .int zc, .int zr, .int zu, .int zv, .int zq, .int zi, .ref ozk, .ref ozm, .int zd, .ref ozg])), (ozp, .inl (cI, 1600, .inl f_83e_ozp)), (ozs, .inl (cI, 320, .inl zs)), (ozb, .inl (cI, 256, .inl zb)), (ozl, .inl (cI, 64, .inl zl)), (ozo, .inl (cI, 64, .inl zo)), (ozk, .inl (cI, 320, .inl zk)), (ozm, .inl (cI, 40, .inl zm)), (ozg, .inl (cI, 64, .inl zg))]) [0, 1, 2, 3, 4, 5, 6, 7, 8] rfl
            have hD9 := hD.sub (ws' := [(om, .inr (6, [.int zt_2, .int zw, .int zh, .ref ozp, .ref ozs, .ref ozb, .int zz, .ref ozl, .ref ozo, .int zc, .int zr, .int zu, .int zv, .int zq, .int zi, .ref ozk, .ref ozm, .int zd, .ref ozg])), (ozp, .inl (cI, 1600, .inl f_83e_ozp)), (ozs, .inl (cI, 320, .inl zs)), (ozb, .inl (cI, 256, .inl zb)), (ozl, .inl (cI, 64, .inl zl)), (ozo, .inl (cI, 64, .inl zo)), (ozk, .inl (cI, 320, .inl zk)), (ozm, .inl (cI, 40, .inl zm)), (ozg, .inl (cI, 64, .inl zg))]) [0, 1, 2, 3, 4, 5, 6, 7, 8] (by decide) rfl
            subst hQ9
            exact W.zret (v := (1 : Int32)) (ty := .boolean) hx hb hr rfl (fun t ht hW => ⟨⟨(1 : Int32), (zt_2, f_83e_ozp), rfl, hw, by rw [ht]; exact hP9, va_K.moved hW.alike hK, hD9⟩, hS.F ht⟩) hS.2.2 dZM_restore_133
          · have hw := hw.2 c_8
            refine lv_iconst (v := (0 : Int32)) hx hb dZM_restore_78 (by decide) ?_
            have hP9 := hP.sub (ws' := [(om, .inr (6, [.int zt_2, .int zw, .int zh, .ref ozp, .ref ozs, .ref ozb, .int zz, .ref ozl, .ref ozo, .int zc, .int zr, .int zu, .int zv, .int zq, .int zi, .ref ozk, .ref ozm, .int zd, .ref ozg])), (ozp, .inl (cI, 1600, .inl zp)), (ozs, .inl (cI, 320, .inl zs)), (ozb, .inl (cI, 256, .inl zb)), (ozl, .inl (cI, 64, .inl zl)), (ozo, .inl (cI, 64, .inl zo)), (ozk, .inl (cI, 320, .inl zk)), (ozm, .inl (cI, 40, .inl zm)), (ozg, .inl (cI, 64, .inl zg))]) [0, 1, 2, 3, 4, 5, 6, 7, 8] rfl
            have hD9 := hD.sub (ws' := [(om, .inr (6, [.int zt_2, .int zw, .int zh, .ref ozp, .ref ozs, .ref ozb, .int zz, .ref ozl, .ref ozo, .int zc, .int zr, .int zu, .int zv, .int zq, .int zi, .ref ozk, .ref ozm, .int zd, .ref ozg])), (ozp, .inl (cI, 1600, .inl zp)), (ozs, .inl (cI, 320, .inl zs)), (ozb, .inl (cI, 256, .inl zb)), (ozl, .inl (cI, 64, .inl zl)), (ozo, .inl (cI, 64, .inl zo)), (ozk, .inl (cI, 320, .inl zk)), (ozm, .inl (cI, 40, .inl zm)), (ozg, .inl (cI, 64, .inl zg))]) [0, 1, 2, 3, 4, 5, 6, 7, 8] (by decide) rfl
            subst hQ9
            exact W.zret (v := (0 : Int32)) (ty := .boolean) hx hb hr rfl (fun t ht hW => ⟨⟨(0 : Int32), (zt_2, zp), rfl, hw, by rw [ht]; exact hP9, va_K.moved hW.alike hK, hD9⟩, hS.F ht⟩) hS.2.2 dZM_restore_79
      · have hw := hw.2 c_4
        refine lv_iconst (v := (0 : Int32)) hx hb dZM_restore_34 (by decide) ?_
        have hP9 := hP.sub (ws' := [(om, .inr (6, [.int zt_2, .int zw, .int zh, .ref ozp, .ref ozs, .ref ozb, .int zz, .ref ozl, .ref ozo, .int zc, .int zr, .int zu, .int zv, .int zq, .int zi, .ref ozk, .ref ozm, .int zd, .ref ozg])), (ozp, .inl (cI, 1600, .inl zp)), (ozs, .inl (cI, 320, .inl zs)), (ozb, .inl (cI, 256, .inl zb)), (ozl, .inl (cI, 64, .inl zl)), (ozo, .inl (cI, 64, .inl zo)), (ozk, .inl (cI, 320, .inl zk)), (ozm, .inl (cI, 40, .inl zm)), (ozg, .inl (cI, 64, .inl zg))]) [0, 1, 2, 3, 4, 5, 6, 7, 8] rfl
        have hD9 := hD.sub (ws' := [(om, .inr (6, [.int zt_2, .int zw, .int zh, .ref ozp, .ref ozs, .ref ozb, .int zz, .ref ozl, .ref ozo, .int zc, .int zr, .int zu, .int zv, .int zq, .int zi, .ref ozk, .ref ozm, .int zd, .ref ozg])), (ozp, .inl (cI, 1600, .inl zp)), (ozs, .inl (cI, 320, .inl zs)), (ozb, .inl (cI, 256, .inl zb)), (ozl, .inl (cI, 64, .inl zl)), (ozo, .inl (cI, 64, .inl zo)), (ozk, .inl (cI, 320, .inl zk)), (ozm, .inl (cI, 40, .inl zm)), (ozg, .inl (cI, 64, .inl zg))]) [0, 1, 2, 3, 4, 5, 6, 7, 8] (by decide) rfl
        subst hQ9
        exact W.zret (v := (0 : Int32)) (ty := .boolean) hx hb hr rfl (fun t ht hW => ⟨⟨(0 : Int32), (zt_2, zp), rfl, hw, by rw [ht]; exact hP9, va_K.moved hW.alike hK, hD9⟩, hS.F ht⟩) hS.2.2 dZM_restore_35
    refine lv_if_ne (tgt := 27) hx hb dZM_restore_20 (by decide) (fun c_14 => ?_) (fun c_14 => ?_)
    · have hw := hw.2 c_14
      refine lv_iconst (v := (0 : Int32)) hx hb dZM_restore_27 (by decide) ?_
      exact j28 (0 : Int32) hw _ _ (hP.sub [0, 1, 2, 3, 4, 5, 6, 7, 8] rfl) (hD.sub [0, 1, 2, 3, 4, 5, 6, 7, 8] (by decide) rfl) hS ls (lv_sub hl [0, 1, 2] rfl)
    · have hw := hw.1 c_14
      refine lv_iconst (v := (1 : Int32)) hx hb dZM_restore_23 (by decide) ?_
      refine lv_goto (tgt := 28) hx hb dZM_restore_24 (by decide) ?_
      exact j28 (1 : Int32) hw _ _ (hP.sub [0, 1, 2, 3, 4, 5, 6, 7, 8] rfl) (hD.sub [0, 1, 2, 3, 4, 5, 6, 7, 8] (by decide) rfl) hS ls (lv_sub hl [0, 1, 2] rfl)
  refine lv_if_ne (tgt := 15) hx hb dZM_restore_8 (by decide) (fun c_15 => ?_) (fun c_15 => ?_)
  · have hw := hw.2 c_15
    refine lv_iconst (v := (0 : Int32)) hx hb dZM_restore_15 (by decide) ?_
    exact j16 (0 : Int32) hw _ _ (hP.sub [0, 1, 2, 3, 4, 5, 6, 7, 8] rfl) (hD.sub [0, 1, 2, 3, 4, 5, 6, 7, 8] (by decide) rfl) hS ls (lv_sub hl [0, 1, 2] rfl)
  · have hw := hw.1 c_15
    refine lv_iconst (v := (1 : Int32)) hx hb dZM_restore_11 (by decide) ?_
    refine lv_goto (tgt := 16) hx hb dZM_restore_12 (by decide) ?_
    exact j16 (1 : Int32) hw _ _ (hP.sub [0, 1, 2, 3, 4, 5, 6, 7, 8] rfl) (hD.sub [0, 1, 2, 3, 4, 5, 6, 7, 8] (by decide) rfl) hS ls (lv_sub hl [0, 1, 2] rfl)
theorem dZM_strip_0 : decode cZM_strip 0 = .ok (.aload_n 0, 1) := by decide +kernel
theorem dZM_strip_1 : decode cZM_strip 1 = .ok (.iload_n 1, 1) := by decide +kernel
theorem dZM_strip_2 : decode cZM_strip 2 = .ok (.iconst 0, 1) := by decide +kernel
theorem dZM_strip_3 : decode cZM_strip 3 = .ok (.bipush 7, 2) := by decide +kernel
theorem dZM_strip_5 : decode cZM_strip 5 = .ok (.invokestatic 48, 3) := by decide +kernel
theorem dZM_strip_8 : decode cZM_strip 8 = .ok (.ifCond .eq 17, 3) := by decide +kernel
theorem dZM_strip_11 : decode cZM_strip 11 = .ok (.iload_n 2, 1) := by decide +kernel
theorem dZM_strip_12 : decode cZM_strip 12 = .ok (.iconst 0, 1) := by decide +kernel
theorem dZM_strip_13 : decode cZM_strip 13 = .ok (.aload_n 0, 1) := by decide +kernel
theorem dZM_strip_14 : decode cZM_strip 14 = .ok (.getfield 42, 3) := by decide +kernel
theorem dZM_strip_17 : decode cZM_strip 17 = .ok (.iconst 1, 1) := by decide +kernel
theorem dZM_strip_18 : decode cZM_strip 18 = .ok (.isub, 1) := by decide +kernel
theorem dZM_strip_19 : decode cZM_strip 19 = .ok (.invokestatic 48, 3) := by decide +kernel
theorem dZM_strip_22 : decode cZM_strip 22 = .ok (.ifCond .ne 7, 3) := by decide +kernel
theorem dZM_strip_25 : decode cZM_strip 25 = .ok (.iconst 1, 1) := by decide +kernel
theorem dZM_strip_26 : decode cZM_strip 26 = .ok (.goto 4, 3) := by decide +kernel
theorem dZM_strip_29 : decode cZM_strip 29 = .ok (.iconst 0, 1) := by decide +kernel
theorem dZM_strip_30 : decode cZM_strip 30 = .ok (.iload_n 3, 1) := by decide +kernel
theorem dZM_strip_31 : decode cZM_strip 31 = .ok (.invokestatic 56, 3) := by decide +kernel
theorem dZM_strip_34 : decode cZM_strip 34 = .ok (.ifCond .ne 7, 3) := by decide +kernel
theorem dZM_strip_37 : decode cZM_strip 37 = .ok (.iconst 1, 1) := by decide +kernel
theorem dZM_strip_38 : decode cZM_strip 38 = .ok (.goto 4, 3) := by decide +kernel
theorem dZM_strip_41 : decode cZM_strip 41 = .ok (.iconst 0, 1) := by decide +kernel
theorem dZM_strip_42 : decode cZM_strip 42 = .ok (.invokevirtual 60, 3) := by decide +kernel
theorem dZM_strip_45 : decode cZM_strip 45 = .ok (.ifCond .eq 5, 3) := by decide +kernel
theorem dZM_strip_48 : decode cZM_strip 48 = .ok (.iconst 0, 1) := by decide +kernel
theorem dZM_strip_49 : decode cZM_strip 49 = .ok (.ireturn, 1) := by decide +kernel
theorem dZM_strip_50 : decode cZM_strip 50 = .ok (.aload_n 0, 1) := by decide +kernel
theorem dZM_strip_51 : decode cZM_strip 51 = .ok (.getfield 13, 3) := by decide +kernel
theorem dZM_strip_54 : decode cZM_strip 54 = .ok (.bipush 8, 2) := by decide +kernel
theorem dZM_strip_56 : decode cZM_strip 56 = .ok (.iload_n 2, 1) := by decide +kernel
theorem dZM_strip_57 : decode cZM_strip 57 = .ok (.imul, 1) := by decide +kernel
theorem dZM_strip_58 : decode cZM_strip 58 = .ok (.iload_n 1, 1) := by decide +kernel
theorem dZM_strip_59 : decode cZM_strip 59 = .ok (.iadd, 1) := by decide +kernel
theorem dZM_strip_60 : decode cZM_strip 60 = .ok (.iaload, 1) := by decide +kernel
theorem dZM_strip_61 : decode cZM_strip 61 = .ok (.istore 4, 2) := by decide +kernel
theorem dZM_strip_63 : decode cZM_strip 63 = .ok (.aload_n 0, 1) := by decide +kernel
theorem dZM_strip_64 : decode cZM_strip 64 = .ok (.getfield 13, 3) := by decide +kernel
theorem dZM_strip_67 : decode cZM_strip 67 = .ok (.bipush 8, 2) := by decide +kernel
theorem dZM_strip_69 : decode cZM_strip 69 = .ok (.iload_n 2, 1) := by decide +kernel
theorem dZM_strip_70 : decode cZM_strip 70 = .ok (.imul, 1) := by decide +kernel
theorem dZM_strip_71 : decode cZM_strip 71 = .ok (.iload_n 1, 1) := by decide +kernel
theorem dZM_strip_72 : decode cZM_strip 72 = .ok (.iadd, 1) := by decide +kernel
theorem dZM_strip_73 : decode cZM_strip 73 = .ok (.iload_n 3, 1) := by decide +kernel
theorem dZM_strip_74 : decode cZM_strip 74 = .ok (.iastore, 1) := by decide +kernel
theorem dZM_strip_75 : decode cZM_strip 75 = .ok (.iload 4, 2) := by decide +kernel
theorem dZM_strip_77 : decode cZM_strip 77 = .ok (.ireturn, 1) := by decide +kernel
abbrev wsZM_strip : List Cond := .code yZM_strip cZM_strip 5 (some .int) :: tbg
def wp_ZM_strip (zt : Int32) (zw : Int32) (zh : Int32) (zp : Nat → Int32) (zs : Nat → Int32) (zb : Nat → Int32) (zz : Int32) (zl : Nat → Int32) (zo : Nat → Int32) (zc : Int32) (zr : Int32) (zu : Int32) (zv : Int32) (zq : Int32) (zi : Int32) (zk : Nat → Int32) (zm : Nat → Int32) (zd : Int32) (zg : Nat → Int32) (a1 : Int32) (a2 : Int32) (a3 : Int32) (post : Int32 → Int32 → (Nat → Int32) → Prop) : Prop := wp_ZM_in a1 (0 : Int32) (7 : Int32) (fun r_1 : Int32 => ∃ J30 : Int32 → Prop, (∀ (t0_j30 : Int32), J30 t0_j30 → wp_ZM_isByte a3 (fun r_2 : Int32 => ∃ J42 : Int32 → Prop, (∀ (t0_j42 : Int32), J42 t0_j42 → wp_ZM_throwing zt zw zh zp zs zb zz zl zo zc zr zu zv zq zi zk zm zd zg t0_j30 t0_j42 (fun (r_4 : Int32) (zt_3 : Int32) => ((r_4 = (0 : Int32) → (vp_in (((8 : Int32) * a2) + a1) 320 ∧ (vp_in (((8 : Int32) * a2) + a1) 320 ∧ (post (zs (((8 : Int32) * a2) + a1).toNatClampNeg) zt_3 (upd zs (((8 : Int32) * a2) + a1).toNatClampNeg a3))))) ∧ (¬ r_4 = (0 : Int32) → (post (0 : Int32) zt_3 zs))))) ∧ (((r_2 = (0 : Int32) → (J42 (1 : Int32))) ∧ (¬ r_2 = (0 : Int32) → (J42 (0 : Int32))))))) ∧ (((r_1 = (0 : Int32) → (J30 (1 : Int32))) ∧ (¬ r_1 = (0 : Int32) → (wp_ZM_in a2 (0 : Int32) (zh - (1 : Int32)) (fun r_10 : Int32 => ((r_10 = (0 : Int32) → (J30 (1 : Int32))) ∧ (¬ r_10 = (0 : Int32) → (J30 (0 : Int32))))))))))
abbrev rm_ZM_strip : Room := { frames := 2, cells := 0, slots := 0, locals := 42 }
set_option maxHeartbeats 4000000 in
set_option maxRecDepth 100000 in
theorem kt_ZM_strip (l : Launch) (dC : Nat → ClassId) (dI : Nat → Nat → Nat) (cI : ClassId) (om ozp ozs ozb ozl ozo ozk ozm ozg : Nat) (sz : Nat) (zt : Int32) (zw : Int32) (zh : Int32) (zp : Nat → Int32) (zs : Nat → Int32) (zb : Nat → Int32) (zz : Int32) (zl : Nat → Int32) (zo : Nat → Int32) (zc : Int32) (zr : Int32) (zu : Int32) (zv : Int32) (zq : Int32) (zi : Int32) (zk : Nat → Int32) (zm : Nat → Int32) (zd : Int32) (zg : Nat → Int32) (a1 : Int32) (a2 : Int32) (a3 : Int32) (post : Int32 → Int32 → (Nat → Int32) → Prop) (hw : wp_ZM_strip zt zw zh zp zs zb zz zl zo zc zr zu zv zq zi zk zm zd zg a1 a2 a3 post) : Met l yZM_strip wsZM_strip rm_ZM_strip (gw_Pc dC dI [(cI, .int)] [.ref om, .int a1, .int a2, .int a3] [(om, .inr (6, [.int zt, .int zw, .int zh, .ref ozp, .ref ozs, .ref ozb, .int zz, .ref ozl, .ref ozo, .int zc, .int zr, .int zu, .int zv, .int zq, .int zi, .ref ozk, .ref ozm, .int zd, .ref ozg])), (ozp, .inl (cI, 1600, .inl zp)), (ozs, .inl (cI, 320, .inl zs)), (ozb, .inl (cI, 256, .inl zb)), (ozl, .inl (cI, 64, .inl zl)), (ozo, .inl (cI, 64, .inl zo)), (ozk, .inl (cI, 320, .inl zk)), (ozm, .inl (cI, 40, .inl zm)), (ozg, .inl (cI, 64, .inl zg))] sz) (va_Qi (fun (r : Int32) (u : Int32 × (Nat → Int32)) => post r u.1 u.2) (fun u t => gw_B dC dI [(cI, .int)] (va_A [(om, .inr (6, [.int zt, .int zw, .int zh, .ref ozp, .ref ozs, .ref ozb, .int zz, .ref ozl, .ref ozo, .int zc, .int zr, .int zu, .int zv, .int zq, .int zi, .ref ozk, .ref ozm, .int zd, .ref ozg])), (ozp, .inl (cI, 1600, .inl zp)), (ozs, .inl (cI, 320, .inl zs)), (ozb, .inl (cI, 256, .inl zb)), (ozl, .inl (cI, 64, .inl zl)), (ozo, .inl (cI, 64, .inl zo)), (ozk, .inl (cI, 320, .inl zk)), (ozm, .inl (cI, 40, .inl zm)), (ozg, .inl (cI, 64, .inl zg))] sz) [(om, .inr (6, [.int u.1, .int zw, .int zh, .ref ozp, .ref ozs, .ref ozb, .int zz, .ref ozl, .ref ozo, .int zc, .int zr, .int zu, .int zv, .int zq, .int zi, .ref ozk, .ref ozm, .int zd, .ref ozg])), (ozp, .inl (cI, 1600, .inl zp)), (ozs, .inl (cI, 320, .inl u.2)), (ozb, .inl (cI, 256, .inl zb)), (ozl, .inl (cI, 64, .inl zl)), (ozo, .inl (cI, 64, .inl zo)), (ozk, .inl (cI, 320, .inl zk)), (ozm, .inl (cI, 40, .inl zm)), (ozg, .inl (cI, 64, .inl zg))] t) (va_A [(om, .inr (6, [.int zt, .int zw, .int zh, .ref ozp, .ref ozs, .ref ozb, .int zz, .ref ozl, .ref ozo, .int zc, .int zr, .int zu, .int zv, .int zq, .int zi, .ref ozk, .ref ozm, .int zd, .ref ozg])), (ozp, .inl (cI, 1600, .inl zp)), (ozs, .inl (cI, 320, .inl zs)), (ozb, .inl (cI, 256, .inl zb)), (ozl, .inl (cI, 64, .inl zl)), (ozo, .inl (cI, 64, .inl zo)), (ozk, .inl (cI, 320, .inl zk)), (ozm, .inl (cI, 40, .inl zm)), (ozg, .inl (cI, 64, .inl zg))] sz)) 0 0 (va_A [(om, .inr (6, [.int zt, .int zw, .int zh, .ref ozp, .ref ozs, .ref ozb, .int zz, .ref ozl, .ref ozo, .int zc, .int zr, .int zu, .int zv, .int zq, .int zi, .ref ozk, .ref ozm, .int zd, .ref ozg])), (ozp, .inl (cI, 1600, .inl zp)), (ozs, .inl (cI, 320, .inl zs)), (ozb, .inl (cI, 256, .inl zb)), (ozl, .inl (cI, 64, .inl zl)), (ozo, .inl (cI, 64, .inl zo)), (ozk, .inl (cI, 320, .inl zk)), (ozm, .inl (cI, 40, .inl zm)), (ozg, .inl (cI, 64, .inl zg))] sz) := by
  refine Met.ofW (cc := cZM_strip) (maxL := 5) (ret := (some .int)) (by decide) rfl ?_
  intro p e s m args below meth c s₁ B hml hv
  obtain ⟨ha9, hsz, hP, hK, hE, hD0⟩ := hv
  have hx := B.exec
  have hb := B.bytes
  have hr := B.returns
  have hts0 := atoms_spec (ws := wsZM_strip) B.pre
  have hts : ∀ w ∈ tbg, w.before args s = true := fun w h => hts0 w (List.mem_cons_of_mem _ h)
  have hown : s.vm.findClass RZM = some m.cls := findClass_of_methodNamed B.named
  have hlocks := B.notSynchronized
  subst hsz
  have hD := hD0.self (sz := s.heap.size)
  refine gx_Q (fun Q9 hQ9 => ?_)
  generalize hAe : va_A [(om, .inr (6, [.int zt, .int zw, .int zh, .ref ozp, .ref ozs, .ref ozb, .int zz, .ref ozl, .ref ozo, .int zc, .int zr, .int zu, .int zv, .int zq, .int zi, .ref ozk, .ref ozm, .int zd, .ref ozg])), (ozp, .inl (cI, 1600, .inl zp)), (ozs, .inl (cI, 320, .inl zs)), (ozb, .inl (cI, 256, .inl zb)), (ozl, .inl (cI, 64, .inl zl)), (ozo, .inl (cI, 64, .inl zo)), (ozk, .inl (cI, 320, .inl zk)), (ozm, .inl (cI, 40, .inl zm)), (ozg, .inl (cI, 64, .inl zg))] s.heap.size = A at hD hQ9 ⊢
  have hA : ∀ q : Nat, s.heap.size ≤ q → A q := fun q h => by rw [← hAe]; exact Or.inr h
  have hS : va_S A s.heap s.heap [] := va_S.rf
  have hl := lv_entry ([.ref om, .int a1, .int a2, .int a3]) (n := 5) (Nat.le_of_ble_eq_true rfl)
  have he9 : entryFrame m args 5 = F0 m 0 ((lg_sl [.ref om, .int a1, .int a2, .int a3] ++ List.replicate (5 - (lg_sl ([.ref om, .int a1, .int a2, .int a3] : List Value)).length) Slot.unset).toArray) [] := by rw [ha9]; exact lg_entry_eq m [.ref om, .int a1, .int a2, .int a3] 5
  rw [he9]
  generalize (lg_sl ([.ref om, .int a1, .int a2, .int a3] : List Value) ++ List.replicate (5 - (lg_sl ([.ref om, .int a1, .int a2, .int a3] : List Value)).length) Slot.unset).toArray = ls at hl ⊢
  have hl : lv_has ls 5 [(0, .ref om), (1, .int a1), (2, .int a2), (3, .int a3)] := hl
  refine lv_aload_n hx hb dZM_strip_0 rfl (lv_at hl 0 rfl) ?_
  refine lv_iload_n hx hb dZM_strip_1 rfl (lv_at hl 1 rfl) ?_
  refine lv_iconst (v := (0 : Int32)) hx hb dZM_strip_2 (by decide) ?_
  refine lv_bipush (v := (7 : Int32)) hx hb dZM_strip_3 (by decide) ?_
  have hPc := hP.sub (ws' := []) [] rfl
  refine vp_callSi (va_runS (As := [.int a1, .int (0 : Int32), .int (7 : Int32)]) (rest := [.ref om]) ⟨hx, hb, hml, hown, hts⟩ (kt_ZM_in l dC dI cI  a1 (0 : Int32) (7 : Int32) _ hw) (va_cwS 3 hts (tb_S mm_687 mm_688 mm_8 mm_689) rfl rfl rfl (by decide +kernel) ⟨Nat.le_of_ble_eq_true rfl, Nat.le_of_ble_eq_true rfl⟩) ⟨gr_blind, fun U hU hW => gr_pre hPc hK hE hU hW⟩ rfl rfl hl.1 rfl (lv_room (Nat.le_of_ble_eq_true rfl)) dZM_strip_5 ⟨Nat.le_of_ble_eq_true rfl, Nat.le_of_ble_eq_true rfl⟩).run (fun r_1 hw => ?_)
  obtain ⟨J30, hJ30, hw⟩ := hw
  have j30 : ∀ (t0_j30 : Int32), J30 t0_j30 → ∀ (H : Heap) (locs : List Loc), va_P (dC, dI) vwCl [(om, .inr (6, [.int zt, .int zw, .int zh, .ref ozp, .ref ozs, .ref ozb, .int zz, .ref ozl, .ref ozo, .int zc, .int zr, .int zu, .int zv, .int zq, .int zi, .ref ozk, .ref ozm, .int zd, .ref ozg])), (ozp, .inl (cI, 1600, .inl zp)), (ozs, .inl (cI, 320, .inl zs)), (ozb, .inl (cI, 256, .inl zb)), (ozl, .inl (cI, 64, .inl zl)), (ozo, .inl (cI, 64, .inl zo)), (ozk, .inl (cI, 320, .inl zk)), (ozm, .inl (cI, 40, .inl zm)), (ozg, .inl (cI, 64, .inl zg))] H → va_D A [(om, .inr (6, [.int zt, .int zw, .int zh, .ref ozp, .ref ozs, .ref ozb, .int zz, .ref ozl, .ref ozo, .int zc, .int zr, .int zu, .int zv, .int zq, .int zi, .ref ozk, .ref ozm, .int zd, .ref ozg])), (ozp, .inl (cI, 1600, .inl zp)), (ozs, .inl (cI, 320, .inl zs)), (ozb, .inl (cI, 256, .inl zb)), (ozl, .inl (cI, 64, .inl zl)), (ozo, .inl (cI, 64, .inl zo)), (ozk, .inl (cI, 320, .inl zk)), (ozm, .inl (cI, 40, .inl zm)), (ozg, .inl (cI, 64, .inl zg))] → va_S A s.heap H locs → ∀ ls : Array Slot, lv_has ls 5 [(0, .ref om), (1, .int a1), (2, .int a2), (3, .int a3)] → W p l e (headSpec wsZM_strip rm_ZM_strip).room s m args below meth c H locs 0 0 Q9 (F0 m 30 ls [.int t0_j30, .ref om]) := by
    intro t0_j30 hw H locs hP hD hS ls hl
    have hw := hJ30 t0_j30 hw
    refine lv_iload_n hx hb dZM_strip_30 rfl (lv_at hl 3 rfl) ?_
    have hPc := hP.sub (ws' := []) [] rfl
    refine vp_callSi (va_runS (As := [.int a3]) (rest := [.int t0_j30, .ref om]) ⟨hx, hb, hml, hown, hts⟩ (kt_ZM_isByte l dC dI cI  a3 _ hw) (va_cwS 1 hts (tb_S mm_690 mm_691 mm_8 mm_692) rfl rfl rfl (by decide +kernel) ⟨Nat.le_of_ble_eq_true rfl, Nat.le_of_ble_eq_true rfl⟩) ⟨gr_blind, fun U hU hW => gr_pre hPc hK hE hU hW⟩ rfl rfl hl.1 rfl (lv_room (Nat.le_of_ble_eq_true rfl)) dZM_strip_31 ⟨Nat.le_of_ble_eq_true rfl, Nat.le_of_ble_eq_true rfl⟩).run (fun r_2 hw => ?_)
    obtain ⟨J42, hJ42, hw⟩ := hw
    have j42 : ∀ (t0_j42 : Int32), J42 t0_j42 → ∀ (H : Heap) (locs : List Loc), va_P (dC, dI) vwCl [(om, .inr (6, [.int zt, .int zw, .int zh, .ref ozp, .ref ozs, .ref ozb, .int zz, .ref ozl, .ref ozo, .int zc, .int zr, .int zu, .int zv, .int zq, .int zi, .ref ozk, .ref ozm, .int zd, .ref ozg])), (ozp, .inl (cI, 1600, .inl zp)), (ozs, .inl (cI, 320, .inl zs)), (ozb, .inl (cI, 256, .inl zb)), (ozl, .inl (cI, 64, .inl zl)), (ozo, .inl (cI, 64, .inl zo)), (ozk, .inl (cI, 320, .inl zk)), (ozm, .inl (cI, 40, .inl zm)), (ozg, .inl (cI, 64, .inl zg))] H → va_D A [(om, .inr (6, [.int zt, .int zw, .int zh, .ref ozp, .ref ozs, .ref ozb, .int zz, .ref ozl, .ref ozo, .int zc, .int zr, .int zu, .int zv, .int zq, .int zi, .ref ozk, .ref ozm, .int zd, .ref ozg])), (ozp, .inl (cI, 1600, .inl zp)), (ozs, .inl (cI, 320, .inl zs)), (ozb, .inl (cI, 256, .inl zb)), (ozl, .inl (cI, 64, .inl zl)), (ozo, .inl (cI, 64, .inl zo)), (ozk, .inl (cI, 320, .inl zk)), (ozm, .inl (cI, 40, .inl zm)), (ozg, .inl (cI, 64, .inl zg))] → va_S A s.heap H locs → ∀ ls : Array Slot, lv_has ls 5 [(0, .ref om), (1, .int a1), (2, .int a2), (3, .int a3)] → W p l e (headSpec wsZM_strip rm_ZM_strip).room s m args below meth c H locs 0 0 Q9 (F0 m 42 ls [.int t0_j42, .int t0_j30, .ref om]) := by
      intro t0_j42 hw H locs hP hD hS ls hl
      have hw := hJ42 t0_j42 hw
      have hPc := hP.sub (ws' := [(om, .inr (6, [.int zt, .int zw, .int zh, .ref ozp, .ref ozs, .ref ozb, .int zz, .ref ozl, .ref ozo, .int zc, .int zr, .int zu, .int zv, .int zq, .int zi, .ref ozk, .ref ozm, .int zd, .ref ozg])), (ozp, .inl (cI, 1600, .inl zp)), (ozs, .inl (cI, 320, .inl zs)), (ozb, .inl (cI, 256, .inl zb)), (ozl, .inl (cI, 64, .inl zl)), (ozo, .inl (cI, 64, .inl zo)), (ozk, .inl (cI, 320, .inl zk)), (ozm, .inl (cI, 40, .inl zm)), (ozg, .inl (cI, 64, .inl zg))]) [0, 1, 2, 3, 4, 5, 6, 7, 8] rfl
      have hDc := hD.sub (ws' := [(om, .inr (6, [.int zt, .int zw, .int zh, .ref ozp, .ref ozs, .ref ozb, .int zz, .ref ozl, .ref ozo, .int zc, .int zr, .int zu, .int zv, .int zq, .int zi, .ref ozk, .ref ozm, .int zd, .ref ozg])), (ozp, .inl (cI, 1600, .inl zp)), (ozs, .inl (cI, 320, .inl zs)), (ozb, .inl (cI, 256, .inl zb)), (ozl, .inl (cI, 64, .inl zl)), (ozo, .inl (cI, 64, .inl zo)), (ozk, .inl (cI, 320, .inl zk)), (ozm, .inl (cI, 40, .inl zm)), (ozg, .inl (cI, 64, .inl zg))]) [0, 1, 2, 3, 4, 5, 6, 7, 8] (by decide) rfl
      have hFc := va_free (wc := [(om, .inr (6, [.int zt, .int zw, .int zh, .ref ozp, .ref ozs, .ref ozb, .int zz, .ref ozl, .ref ozo, .int zc, .int zr, .int zu, .int zv, .int zq, .int zi, .ref ozk, .ref ozm, .int zd, .ref ozg])), (ozp, .inl (cI, 1600, .inl zp)), (ozs, .inl (cI, 320, .inl zs)), (ozb, .inl (cI, 256, .inl zb)), (ozl, .inl (cI, 64, .inl zl)), (ozo, .inl (cI, 64, .inl zo)), (ozk, .inl (cI, 320, .inl zk)), (ozm, .inl (cI, 40, .inl zm)), (ozg, .inl (cI, 64, .inl zg))]) hD hS hA [0, 1, 2, 3, 4, 5, 6, 7, 8] rfl
      refine va_calli (va_runV (As := [.int t0_j30, .int t0_j42]) (rest := []) ⟨hx, hb, hml, hown, hts⟩ (kt_ZM_throwing l dC dI cI om ozp ozs ozb ozl ozo ozk ozm ozg _ zt zw zh zp zs zb zz zl zo zc zr zu zv zq zi zk zm zd zg t0_j30 t0_j42 _ hw) (cwV 2 hts (tb_V mm_693 mm_695 mp_5 mm_8 mm_696) rfl rfl rfl (by decide +kernel) ⟨Nat.le_of_ble_eq_true rfl, Nat.le_of_ble_eq_true rfl⟩) ⟨gw_blind, va_recv hK hPc (ci := 6) (q0 := 0) rfl rfl, fun U hU hW => gw_pre hPc hDc hK hE hU hW⟩ rfl rfl hl.1 rfl (lv_room (Nat.le_of_ble_eq_true rfl)) dZM_strip_42 ⟨Nat.le_of_ble_eq_true rfl, Nat.le_of_ble_eq_true rfl⟩) hS (fun q _ h => hFc q h) hFc (fun r_4 zt_3 t H1 locs ht hvm hw hB hz1 hk1 hS => ?_)
      obtain ⟨hP1, hK1, hD1⟩ := hB
      rw [ht] at hP1
      try dsimp only at hw
      obtain ⟨hP, hD⟩ := va_join (wr := []) (w1 := [(om, .inr (6, [.int zt_3, .int zw, .int zh, .ref ozp, .ref ozs, .ref ozb, .int zz, .ref ozl, .ref ozo, .int zc, .int zr, .int zu, .int zv, .int zq, .int zi, .ref ozk, .ref ozm, .int zd, .ref ozg])), (ozp, .inl (cI, 1600, .inl zp)), (ozs, .inl (cI, 320, .inl zs)), (ozb, .inl (cI, 256, .inl zb)), (ozl, .inl (cI, 64, .inl zl)), (ozo, .inl (cI, 64, .inl zo)), (ozk, .inl (cI, 320, .inl zk)), (ozm, .inl (cI, 40, .inl zm)), (ozg, .inl (cI, 64, .inl zg))]) hP hD [0, 1, 2, 3, 4, 5, 6, 7, 8] [] rfl rfl (by decide) (by decide) hk1 hFc hP1 hD1
      generalize H1 = H at hP hS ⊢
      have hP : va_P (dC, dI) vwCl [(om, .inr (6, [.int zt_3, .int zw, .int zh, .ref ozp, .ref ozs, .ref ozb, .int zz, .ref ozl, .ref ozo, .int zc, .int zr, .int zu, .int zv, .int zq, .int zi, .ref ozk, .ref ozm, .int zd, .ref ozg])), (ozp, .inl (cI, 1600, .inl zp)), (ozs, .inl (cI, 320, .inl zs)), (ozb, .inl (cI, 256, .inl zb)), (ozl, .inl (cI, 64, .inl zl)), (ozo, .inl (cI, 64, .inl zo)), (ozk, .inl (cI, 320, .inl zk)), (ozm, .inl (cI, 40, .inl zm)), (ozg, .inl (cI, 64, .inl zg))] H := hP
      have hD : va_D A [(om, .inr (6, [.int zt_3, .int zw, .int zh, .ref ozp, .ref ozs, .ref ozb, .int zz, .ref ozl, .ref ozo, .int zc, .int zr, .int zu, .int zv, .int zq, .int zi, .ref ozk, .ref ozm, .int zd, .ref ozg])), (ozp, .inl (cI, 1600, .inl zp)), (ozs, .inl (cI, 320, .inl zs)), (ozb, .inl (cI, 256, .inl zb)), (ozl, .inl (cI, 64, .inl zl)), (ozo, .inl (cI, 64, .inl zo)), (ozk, .inl (cI, 320, .inl zk)), (ozm, .inl (cI, 40, .inl zm)), (ozg, .inl (cI, 64, .inl zg))] := hD
      refine lv_if_eq (tgt := 50) hx hb dZM_strip_45 (by decide) (fun c_5 => ?_) (fun c_5 => ?_)
      · have hw := hw.1 c_5
        refine lv_aload_n hx hb dZM_strip_50 rfl (lv_at hl 0 rfl) ?_
        refine va_get (D := (dC, dI)) (ci := 6) (v := .ref ozs) (C := RZM) (T := TZM) (N := 19) hx hb hts inZM hown hK hP 0 rfl rfl 4 (by decide) (hts _ mm_622) (fun _ h9 => h9) rfl dZM_strip_51 ?_
        refine lv_bipush (v := (8 : Int32)) hx hb dZM_strip_54 (by decide) ?_
        refine lv_iload_n hx hb dZM_strip_56 rfl (lv_at hl 2 rfl) ?_
        refine lv_imul hx hb dZM_strip_57 ?_
        refine lv_iload_n hx hb dZM_strip_58 rfl (lv_at hl 1 rfl) ?_
        refine lv_iadd hx hb dZM_strip_59 ?_
        obtain ⟨h_6, hw⟩ := hw
        refine va_iald hx hb hK hP 2 0 rfl rfl h_6 dZM_strip_60 ?_
        refine lv_istore (lv' := [(4, .int (zs (((8 : Int32) * a2) + a1).toNatClampNeg)), (0, .ref om), (1, .int a1), (2, .int a2), (3, .int a3)]) hx hb dZM_strip_61 hl (by decide) rfl (fun ls hl => ?_)
        refine lv_aload_n hx hb dZM_strip_63 rfl (lv_at hl 1 rfl) ?_
        refine va_get (D := (dC, dI)) (ci := 6) (v := .ref ozs) (C := RZM) (T := TZM) (N := 19) hx hb hts inZM hown hK hP 0 rfl rfl 4 (by decide) (hts _ mm_622) (fun _ h9 => h9) rfl dZM_strip_64 ?_
        refine lv_bipush (v := (8 : Int32)) hx hb dZM_strip_67 (by decide) ?_
        refine lv_iload_n hx hb dZM_strip_69 rfl (lv_at hl 3 rfl) ?_
        refine lv_imul hx hb dZM_strip_70 ?_
        refine lv_iload_n hx hb dZM_strip_71 rfl (lv_at hl 2 rfl) ?_
        refine lv_iadd hx hb dZM_strip_72 ?_
        refine lv_iload_n hx hb dZM_strip_73 rfl (lv_at hl 4 rfl) ?_
        obtain ⟨h_7, hw⟩ := hw
        refine va_iast hx hb hK hP hD hS 2 0 rfl rfl h_7 dZM_strip_74 (fun H locs hP hD hS => ?_)
        have hP : va_P (dC, dI) vwCl [(om, .inr (6, [.int zt_3, .int zw, .int zh, .ref ozp, .ref ozs, .ref ozb, .int zz, .ref ozl, .ref ozo, .int zc, .int zr, .int zu, .int zv, .int zq, .int zi, .ref ozk, .ref ozm, .int zd, .ref ozg])), (ozp, .inl (cI, 1600, .inl zp)), (ozs, .inl (cI, 320, .inl (upd zs (((8 : Int32) * a2) + a1).toNatClampNeg a3))), (ozb, .inl (cI, 256, .inl zb)), (ozl, .inl (cI, 64, .inl zl)), (ozo, .inl (cI, 64, .inl zo)), (ozk, .inl (cI, 320, .inl zk)), (ozm, .inl (cI, 40, .inl zm)), (ozg, .inl (cI, 64, .inl zg))] H := hP
        have hD : va_D A [(om, .inr (6, [.int zt_3, .int zw, .int zh, .ref ozp, .ref ozs, .ref ozb, .int zz, .ref ozl, .ref ozo, .int zc, .int zr, .int zu, .int zv, .int zq, .int zi, .ref ozk, .ref ozm, .int zd, .ref ozg])), (ozp, .inl (cI, 1600, .inl zp)), (ozs, .inl (cI, 320, .inl (upd zs (((8 : Int32) * a2) + a1).toNatClampNeg a3))), (ozb, .inl (cI, 256, .inl zb)), (ozl, .inl (cI, 64, .inl zl)), (ozo, .inl (cI, 64, .inl zo)), (ozk, .inl (cI, 320, .inl zk)), (ozm, .inl (cI, 40, .inl zm)), (ozg, .inl (cI, 64, .inl zg))] := hD
        refine lv_iload hx hb dZM_strip_75 (lv_at hl 0 rfl) ?_
        have hP9 := hP.sub (ws' := [(om, .inr (6, [.int zt_3, .int zw, .int zh, .ref ozp, .ref ozs, .ref ozb, .int zz, .ref ozl, .ref ozo, .int zc, .int zr, .int zu, .int zv, .int zq, .int zi, .ref ozk, .ref ozm, .int zd, .ref ozg])), (ozp, .inl (cI, 1600, .inl zp)), (ozs, .inl (cI, 320, .inl (upd zs (((8 : Int32) * a2) + a1).toNatClampNeg a3))), (ozb, .inl (cI, 256, .inl zb)), (ozl, .inl (cI, 64, .inl zl)), (ozo, .inl (cI, 64, .inl zo)), (ozk, .inl (cI, 320, .inl zk)), (ozm, .inl (cI, 40, .inl zm)), (ozg, .inl (cI, 64, .inl zg))]) [0, 1, 2, 3, 4, 5, 6, 7, 8] rfl
        have hD9 := hD.sub (ws' := [(om, .inr (6, [.int zt_3, .int zw, .int zh, .ref ozp, .ref ozs, .ref ozb, .int zz, .ref ozl, .ref ozo, .int zc, .int zr, .int zu, .int zv, .int zq, .int zi, .ref ozk, .ref ozm, .int zd, .ref ozg])), (ozp, .inl (cI, 1600, .inl zp)), (ozs, .inl (cI, 320, .inl (upd zs (((8 : Int32) * a2) + a1).toNatClampNeg a3))), (ozb, .inl (cI, 256, .inl zb)), (ozl, .inl (cI, 64, .inl zl)), (ozo, .inl (cI, 64, .inl zo)), (ozk, .inl (cI, 320, .inl zk)), (ozm, .inl (cI, 40, .inl zm)), (ozg, .inl (cI, 64, .inl zg))]) [0, 1, 2, 3, 4, 5, 6, 7, 8] (by decide) rfl
        subst hQ9
        exact W.iret (v := zs (((8 : Int32) * a2) + a1).toNatClampNeg) hx hb hr (fun t ht hW => ⟨⟨zs (((8 : Int32) * a2) + a1).toNatClampNeg, (zt_3, upd zs (((8 : Int32) * a2) + a1).toNatClampNeg a3), rfl, hw, by rw [ht]; exact hP9, va_K.moved hW.alike hK, hD9⟩, hS.F ht⟩) hS.2.2 dZM_strip_77
      · have hw := hw.2 c_5
        refine lv_iconst (v := (0 : Int32)) hx hb dZM_strip_48 (by decide) ?_
        have hP9 := hP.sub (ws' := [(om, .inr (6, [.int zt_3, .int zw, .int zh, .ref ozp, .ref ozs, .ref ozb, .int zz, .ref ozl, .ref ozo, .int zc, .int zr, .int zu, .int zv, .int zq, .int zi, .ref ozk, .ref ozm, .int zd, .ref ozg])), (ozp, .inl (cI, 1600, .inl zp)), (ozs, .inl (cI, 320, .inl zs)), (ozb, .inl (cI, 256, .inl zb)), (ozl, .inl (cI, 64, .inl zl)), (ozo, .inl (cI, 64, .inl zo)), (ozk, .inl (cI, 320, .inl zk)), (ozm, .inl (cI, 40, .inl zm)), (ozg, .inl (cI, 64, .inl zg))]) [0, 1, 2, 3, 4, 5, 6, 7, 8] rfl
        have hD9 := hD.sub (ws' := [(om, .inr (6, [.int zt_3, .int zw, .int zh, .ref ozp, .ref ozs, .ref ozb, .int zz, .ref ozl, .ref ozo, .int zc, .int zr, .int zu, .int zv, .int zq, .int zi, .ref ozk, .ref ozm, .int zd, .ref ozg])), (ozp, .inl (cI, 1600, .inl zp)), (ozs, .inl (cI, 320, .inl zs)), (ozb, .inl (cI, 256, .inl zb)), (ozl, .inl (cI, 64, .inl zl)), (ozo, .inl (cI, 64, .inl zo)), (ozk, .inl (cI, 320, .inl zk)), (ozm, .inl (cI, 40, .inl zm)), (ozg, .inl (cI, 64, .inl zg))]) [0, 1, 2, 3, 4, 5, 6, 7, 8] (by decide) rfl
        subst hQ9
        exact W.iret (v := (0 : Int32)) hx hb hr (fun t ht hW => ⟨⟨(0 : Int32), (zt_3, zs), rfl, hw, by rw [ht]; exact hP9, va_K.moved hW.alike hK, hD9⟩, hS.F ht⟩) hS.2.2 dZM_strip_49
    refine lv_if_ne (tgt := 41) hx hb dZM_strip_34 (by decide) (fun c_8 => ?_) (fun c_8 => ?_)
    · have hw := hw.2 c_8
      refine lv_iconst (v := (0 : Int32)) hx hb dZM_strip_41 (by decide) ?_
      exact j42 (0 : Int32) hw _ _ (hP.sub [0, 1, 2, 3, 4, 5, 6, 7, 8] rfl) (hD.sub [0, 1, 2, 3, 4, 5, 6, 7, 8] (by decide) rfl) hS ls (lv_sub hl [0, 1, 2, 3] rfl)
    · have hw := hw.1 c_8
      refine lv_iconst (v := (1 : Int32)) hx hb dZM_strip_37 (by decide) ?_
      refine lv_goto (tgt := 42) hx hb dZM_strip_38 (by decide) ?_
      exact j42 (1 : Int32) hw _ _ (hP.sub [0, 1, 2, 3, 4, 5, 6, 7, 8] rfl) (hD.sub [0, 1, 2, 3, 4, 5, 6, 7, 8] (by decide) rfl) hS ls (lv_sub hl [0, 1, 2, 3] rfl)
  refine lv_if_eq (tgt := 25) hx hb dZM_strip_8 (by decide) (fun c_9 => ?_) (fun c_9 => ?_)
  · have hw := hw.1 c_9
    refine lv_iconst (v := (1 : Int32)) hx hb dZM_strip_25 (by decide) ?_
    refine lv_goto (tgt := 30) hx hb dZM_strip_26 (by decide) ?_
    exact j30 (1 : Int32) hw _ _ (hP.sub [0, 1, 2, 3, 4, 5, 6, 7, 8] rfl) (hD.sub [0, 1, 2, 3, 4, 5, 6, 7, 8] (by decide) rfl) hS ls (lv_sub hl [0, 1, 2, 3] rfl)
  · have hw := hw.2 c_9
    refine lv_iload_n hx hb dZM_strip_11 rfl (lv_at hl 2 rfl) ?_
    refine lv_iconst (v := (0 : Int32)) hx hb dZM_strip_12 (by decide) ?_
    refine lv_aload_n hx hb dZM_strip_13 rfl (lv_at hl 0 rfl) ?_
    refine va_get (D := (dC, dI)) (ci := 6) (v := .int zh) (C := RZM) (T := TZM) (N := 19) hx hb hts inZM hown hK hP 0 rfl rfl 2 (by decide) (hts _ mm_620) (fun _ h9 => h9) rfl dZM_strip_14 ?_
    refine lv_iconst (v := (1 : Int32)) hx hb dZM_strip_17 (by decide) ?_
    refine lv_isub hx hb dZM_strip_18 ?_
    have hPc := hP.sub (ws' := []) [] rfl
    refine vp_callSi (va_runS (As := [.int a2, .int (0 : Int32), .int (zh - (1 : Int32))]) (rest := [.ref om]) ⟨hx, hb, hml, hown, hts⟩ (kt_ZM_in l dC dI cI  a2 (0 : Int32) (zh - (1 : Int32)) _ hw) (va_cwS 3 hts (tb_S mm_687 mm_688 mm_8 mm_689) rfl rfl rfl (by decide +kernel) ⟨Nat.le_of_ble_eq_true rfl, Nat.le_of_ble_eq_true rfl⟩) ⟨gr_blind, fun U hU hW => gr_pre hPc hK hE hU hW⟩ rfl rfl hl.1 rfl (lv_room (Nat.le_of_ble_eq_true rfl)) dZM_strip_19 ⟨Nat.le_of_ble_eq_true rfl, Nat.le_of_ble_eq_true rfl⟩).run (fun r_10 hw => ?_)
    refine lv_if_ne (tgt := 29) hx hb dZM_strip_22 (by decide) (fun c_11 => ?_) (fun c_11 => ?_)
    · have hw := hw.2 c_11
      refine lv_iconst (v := (0 : Int32)) hx hb dZM_strip_29 (by decide) ?_
      exact j30 (0 : Int32) hw _ _ (hP.sub [0, 1, 2, 3, 4, 5, 6, 7, 8] rfl) (hD.sub [0, 1, 2, 3, 4, 5, 6, 7, 8] (by decide) rfl) hS ls (lv_sub hl [0, 1, 2, 3] rfl)
    · have hw := hw.1 c_11
      refine lv_iconst (v := (1 : Int32)) hx hb dZM_strip_25 (by decide) ?_
      refine lv_goto (tgt := 30) hx hb dZM_strip_26 (by decide) ?_
      exact j30 (1 : Int32) hw _ _ (hP.sub [0, 1, 2, 3, 4, 5, 6, 7, 8] rfl) (hD.sub [0, 1, 2, 3, 4, 5, 6, 7, 8] (by decide) rfl) hS ls (lv_sub hl [0, 1, 2, 3] rfl)
