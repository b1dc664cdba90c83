theorem dZM_seam_0 : decode cZM_seam 0 = .ok (.aload_n 0, 1) := by decide +kernel
theorem dZM_seam_1 : decode cZM_seam 1 = .ok (.iload_n 1, 1) := by decide +kernel
theorem dZM_seam_2 : decode cZM_seam 2 = .ok (.iconst 1, 1) := by decide +kernel
theorem dZM_seam_3 : decode cZM_seam 3 = .ok (.bipush 8, 2) := by decide +kernel
theorem dZM_seam_5 : decode cZM_seam 5 = .ok (.invokestatic 48, 3) := by decide +kernel
theorem dZM_seam_8 : decode cZM_seam 8 = .ok (.ifCond .eq 11, 3) := by decide +kernel
theorem dZM_seam_11 : decode cZM_seam 11 = .ok (.iload_n 1, 1) := by decide +kernel
theorem dZM_seam_12 : decode cZM_seam 12 = .ok (.aload_n 0, 1) := by decide +kernel
theorem dZM_seam_13 : decode cZM_seam 13 = .ok (.getfield 38, 3) := by decide +kernel
theorem dZM_seam_16 : decode cZM_seam 16 = .ok (.if_icmp .le 7, 3) := by decide +kernel
theorem dZM_seam_19 : decode cZM_seam 19 = .ok (.iconst 1, 1) := by decide +kernel
theorem dZM_seam_20 : decode cZM_seam 20 = .ok (.goto 4, 3) := by decide +kernel
theorem dZM_seam_23 : decode cZM_seam 23 = .ok (.iconst 0, 1) := by decide +kernel
theorem dZM_seam_24 : decode cZM_seam 24 = .ok (.iconst 0, 1) := by decide +kernel
theorem dZM_seam_25 : decode cZM_seam 25 = .ok (.invokevirtual 60, 3) := by decide +kernel
theorem dZM_seam_28 : decode cZM_seam 28 = .ok (.ifCond .eq 5, 3) := by decide +kernel
theorem dZM_seam_31 : decode cZM_seam 31 = .ok (.iconst 0, 1) := by decide +kernel
theorem dZM_seam_32 : decode cZM_seam 32 = .ok (.ireturn, 1) := by decide +kernel
theorem dZM_seam_33 : decode cZM_seam 33 = .ok (.iconst 0, 1) := by decide +kernel
theorem dZM_seam_34 : decode cZM_seam 34 = .ok (.istore_n 2, 1) := by decide +kernel
theorem dZM_seam_35 : decode cZM_seam 35 = .ok (.iload_n 2, 1) := by decide +kernel
theorem dZM_seam_36 : decode cZM_seam 36 = .ok (.aload_n 0, 1) := by decide +kernel
theorem dZM_seam_37 : decode cZM_seam 37 = .ok (.getfield 42, 3) := by decide +kernel
theorem dZM_seam_40 : decode cZM_seam 40 = .ok (.if_icmp .ge 58, 3) := by decide +kernel
theorem dZM_seam_43 : decode cZM_seam 43 = .ok (.iconst 0, 1) := by decide +kernel
theorem dZM_seam_44 : decode cZM_seam 44 = .ok (.istore_n 3, 1) := by decide +kernel
theorem dZM_seam_45 : decode cZM_seam 45 = .ok (.iload_n 3, 1) := by decide +kernel
theorem dZM_seam_46 : decode cZM_seam 46 = .ok (.iload_n 1, 1) := by decide +kernel
theorem dZM_seam_47 : decode cZM_seam 47 = .ok (.if_icmp .ge 45, 3) := by decide +kernel
theorem dZM_seam_50 : decode cZM_seam 50 = .ok (.aload_n 0, 1) := by decide +kernel
theorem dZM_seam_51 : decode cZM_seam 51 = .ok (.getfield 25, 3) := by decide +kernel
theorem dZM_seam_54 : decode cZM_seam 54 = .ok (.bipush 8, 2) := by decide +kernel
theorem dZM_seam_56 : decode cZM_seam 56 = .ok (.iload_n 2, 1) := by decide +kernel
theorem dZM_seam_57 : decode cZM_seam 57 = .ok (.imul, 1) := by decide +kernel
theorem dZM_seam_58 : decode cZM_seam 58 = .ok (.iload_n 3, 1) := by decide +kernel
theorem dZM_seam_59 : decode cZM_seam 59 = .ok (.iadd, 1) := by decide +kernel
theorem dZM_seam_60 : decode cZM_seam 60 = .ok (.aload_n 0, 1) := by decide +kernel
theorem dZM_seam_61 : decode cZM_seam 61 = .ok (.iload_n 2, 1) := by decide +kernel
theorem dZM_seam_62 : decode cZM_seam 62 = .ok (.iload_n 3, 1) := by decide +kernel
theorem dZM_seam_63 : decode cZM_seam 63 = .ok (.iload_n 1, 1) := by decide +kernel
theorem dZM_seam_64 : decode cZM_seam 64 = .ok (.invokevirtual 160, 3) := by decide +kernel
theorem dZM_seam_67 : decode cZM_seam 67 = .ok (.iload_n 2, 1) := by decide +kernel
theorem dZM_seam_68 : decode cZM_seam 68 = .ok (.ifCond .ne 7, 3) := by decide +kernel
theorem dZM_seam_71 : decode cZM_seam 71 = .ok (.iconst 0, 1) := by decide +kernel
theorem dZM_seam_72 : decode cZM_seam 72 = .ok (.goto 12, 3) := by decide +kernel
theorem dZM_seam_75 : decode cZM_seam 75 = .ok (.aload_n 0, 1) := by decide +kernel
theorem dZM_seam_76 : decode cZM_seam 76 = .ok (.iload_n 2, 1) := by decide +kernel
theorem dZM_seam_77 : decode cZM_seam 77 = .ok (.iconst 1, 1) := by decide +kernel
theorem dZM_seam_78 : decode cZM_seam 78 = .ok (.isub, 1) := by decide +kernel
theorem dZM_seam_79 : decode cZM_seam 79 = .ok (.iload_n 3, 1) := by decide +kernel
theorem dZM_seam_80 : decode cZM_seam 80 = .ok (.iload_n 1, 1) := by decide +kernel
theorem dZM_seam_81 : decode cZM_seam 81 = .ok (.invokevirtual 163, 3) := by decide +kernel
theorem dZM_seam_84 : decode cZM_seam 84 = .ok (.iadd, 1) := by decide +kernel
theorem dZM_seam_85 : decode cZM_seam 85 = .ok (.iastore, 1) := by decide +kernel
theorem dZM_seam_86 : decode cZM_seam 86 = .ok (.iinc 3 1, 3) := by decide +kernel
theorem dZM_seam_89 : decode cZM_seam 89 = .ok (.goto (-44), 3) := by decide +kernel
theorem dZM_seam_92 : decode cZM_seam 92 = .ok (.iinc 2 1, 3) := by decide +kernel
theorem dZM_seam_95 : decode cZM_seam 95 = .ok (.goto (-60), 3) := by decide +kernel
theorem dZM_seam_98 : decode cZM_seam 98 = .ok (.aload_n 0, 1) := by decide +kernel
theorem dZM_seam_99 : decode cZM_seam 99 = .ok (.getfield 42, 3) := by decide +kernel
theorem dZM_seam_102 : decode cZM_seam 102 = .ok (.iconst 1, 1) := by decide +kernel
theorem dZM_seam_103 : decode cZM_seam 103 = .ok (.isub, 1) := by decide +kernel
theorem dZM_seam_104 : decode cZM_seam 104 = .ok (.istore_n 2, 1) := by decide +kernel
theorem dZM_seam_105 : decode cZM_seam 105 = .ok (.iconst 0, 1) := by decide +kernel
theorem dZM_seam_106 : decode cZM_seam 106 = .ok (.istore_n 3, 1) := by decide +kernel
theorem dZM_seam_107 : decode cZM_seam 107 = .ok (.iconst 1, 1) := by decide +kernel
theorem dZM_seam_108 : decode cZM_seam 108 = .ok (.istore 4, 2) := by decide +kernel
theorem dZM_seam_110 : decode cZM_seam 110 = .ok (.iload 4, 2) := by decide +kernel
theorem dZM_seam_112 : decode cZM_seam 112 = .ok (.iload_n 1, 1) := by decide +kernel
theorem dZM_seam_113 : decode cZM_seam 113 = .ok (.if_icmp .ge 34, 3) := by decide +kernel
theorem dZM_seam_116 : decode cZM_seam 116 = .ok (.aload_n 0, 1) := by decide +kernel
theorem dZM_seam_117 : decode cZM_seam 117 = .ok (.iload_n 2, 1) := by decide +kernel
theorem dZM_seam_118 : decode cZM_seam 118 = .ok (.iload 4, 2) := by decide +kernel
theorem dZM_seam_120 : decode cZM_seam 120 = .ok (.iload_n 1, 1) := by decide +kernel
theorem dZM_seam_121 : decode cZM_seam 121 = .ok (.invokevirtual 157, 3) := by decide +kernel
theorem dZM_seam_124 : decode cZM_seam 124 = .ok (.aload_n 0, 1) := by decide +kernel
theorem dZM_seam_125 : decode cZM_seam 125 = .ok (.iload_n 2, 1) := by decide +kernel
theorem dZM_seam_126 : decode cZM_seam 126 = .ok (.iload_n 3, 1) := by decide +kernel
theorem dZM_seam_127 : decode cZM_seam 127 = .ok (.iload_n 1, 1) := by decide +kernel
theorem dZM_seam_128 : decode cZM_seam 128 = .ok (.invokevirtual 157, 3) := by decide +kernel
theorem dZM_seam_131 : decode cZM_seam 131 = .ok (.if_icmp .ge 8, 3) := by decide +kernel
theorem dZM_seam_134 : decode cZM_seam 134 = .ok (.iload 4, 2) := by decide +kernel
theorem dZM_seam_136 : decode cZM_seam 136 = .ok (.goto 4, 3) := by decide +kernel
theorem dZM_seam_139 : decode cZM_seam 139 = .ok (.iload_n 3, 1) := by decide +kernel
theorem dZM_seam_140 : decode cZM_seam 140 = .ok (.istore_n 3, 1) := by decide +kernel
theorem dZM_seam_141 : decode cZM_seam 141 = .ok (.iinc 4 1, 3) := by decide +kernel
theorem dZM_seam_144 : decode cZM_seam 144 = .ok (.goto (-34), 3) := by decide +kernel
theorem dZM_seam_147 : decode cZM_seam 147 = .ok (.aload_n 0, 1) := by decide +kernel
theorem dZM_seam_148 : decode cZM_seam 148 = .ok (.getfield 28, 3) := by decide +kernel
theorem dZM_seam_151 : decode cZM_seam 151 = .ok (.iload_n 2, 1) := by decide +kernel
theorem dZM_seam_152 : decode cZM_seam 152 = .ok (.iload_n 3, 1) := by decide +kernel
theorem dZM_seam_153 : decode cZM_seam 153 = .ok (.iastore, 1) := by decide +kernel
theorem dZM_seam_154 : decode cZM_seam 154 = .ok (.iload_n 2, 1) := by decide +kernel
theorem dZM_seam_155 : decode cZM_seam 155 = .ok (.iconst 1, 1) := by decide +kernel
theorem dZM_seam_156 : decode cZM_seam 156 = .ok (.isub, 1) := by decide +kernel
theorem dZM_seam_157 : decode cZM_seam 157 = .ok (.istore 4, 2) := by decide +kernel
theorem dZM_seam_159 : decode cZM_seam 159 = .ok (.iload 4, 2) := by decide +kernel
theorem dZM_seam_161 : decode cZM_seam 161 = .ok (.ifCond .lt 65, 3) := by decide +kernel
theorem dZM_seam_164 : decode cZM_seam 164 = .ok (.aload_n 0, 1) := by decide +kernel
theorem dZM_seam_165 : decode cZM_seam 165 = .ok (.getfield 28, 3) := by decide +kernel
theorem dZM_seam_168 : decode cZM_seam 168 = .ok (.iload 4, 2) := by decide +kernel
theorem dZM_seam_170 : decode cZM_seam 170 = .ok (.iconst 1, 1) := by decide +kernel
theorem dZM_seam_171 : decode cZM_seam 171 = .ok (.iadd, 1) := by decide +kernel
theorem dZM_seam_172 : decode cZM_seam 172 = .ok (.iaload, 1) := by decide +kernel
theorem dZM_seam_173 : decode cZM_seam 173 = .ok (.iconst 1, 1) := by decide +kernel
theorem dZM_seam_174 : decode cZM_seam 174 = .ok (.isub, 1) := by decide +kernel
theorem dZM_seam_175 : decode cZM_seam 175 = .ok (.istore 5, 2) := by decide +kernel
theorem dZM_seam_177 : decode cZM_seam 177 = .ok (.aload_n 0, 1) := by decide +kernel
theorem dZM_seam_178 : decode cZM_seam 178 = .ok (.iload 4, 2) := by decide +kernel
theorem dZM_seam_180 : decode cZM_seam 180 = .ok (.iload 5, 2) := by decide +kernel
theorem dZM_seam_182 : decode cZM_seam 182 = .ok (.iload_n 1, 1) := by decide +kernel
theorem dZM_seam_183 : decode cZM_seam 183 = .ok (.invokevirtual 157, 3) := by decide +kernel
theorem dZM_seam_186 : decode cZM_seam 186 = .ok (.aload_n 0, 1) := by decide +kernel
theorem dZM_seam_187 : decode cZM_seam 187 = .ok (.iload 4, 2) := by decide +kernel
theorem dZM_seam_189 : decode cZM_seam 189 = .ok (.aload_n 0, 1) := by decide +kernel
theorem dZM_seam_190 : decode cZM_seam 190 = .ok (.getfield 28, 3) := by decide +kernel
theorem dZM_seam_193 : decode cZM_seam 193 = .ok (.iload 4, 2) := by decide +kernel
theorem dZM_seam_195 : decode cZM_seam 195 = .ok (.iconst 1, 1) := by decide +kernel
theorem dZM_seam_196 : decode cZM_seam 196 = .ok (.iadd, 1) := by decide +kernel
theorem dZM_seam_197 : decode cZM_seam 197 = .ok (.iaload, 1) := by decide +kernel
theorem dZM_seam_198 : decode cZM_seam 198 = .ok (.iload_n 1, 1) := by decide +kernel
theorem dZM_seam_199 : decode cZM_seam 199 = .ok (.invokevirtual 163, 3) := by decide +kernel
theorem dZM_seam_202 : decode cZM_seam 202 = .ok (.if_icmp .eq 9, 3) := by decide +kernel
theorem dZM_seam_205 : decode cZM_seam 205 = .ok (.iinc 5 1, 3) := by decide +kernel
theorem dZM_seam_208 : decode cZM_seam 208 = .ok (.goto (-31), 3) := by decide +kernel
theorem dZM_seam_211 : decode cZM_seam 211 = .ok (.aload_n 0, 1) := by decide +kernel
theorem dZM_seam_212 : decode cZM_seam 212 = .ok (.getfield 28, 3) := by decide +kernel
theorem dZM_seam_215 : decode cZM_seam 215 = .ok (.iload 4, 2) := by decide +kernel
theorem dZM_seam_217 : decode cZM_seam 217 = .ok (.iload 5, 2) := by decide +kernel
theorem dZM_seam_219 : decode cZM_seam 219 = .ok (.iastore, 1) := by decide +kernel
theorem dZM_seam_220 : decode cZM_seam 220 = .ok (.iinc 4 (-1), 3) := by decide +kernel
theorem dZM_seam_223 : decode cZM_seam 223 = .ok (.goto (-64), 3) := by decide +kernel
theorem dZM_seam_226 : decode cZM_seam 226 = .ok (.aload_n 0, 1) := by decide +kernel
theorem dZM_seam_227 : decode cZM_seam 227 = .ok (.iconst 1, 1) := by decide +kernel
theorem dZM_seam_228 : decode cZM_seam 228 = .ok (.putfield 166, 3) := by decide +kernel
theorem dZM_seam_231 : decode cZM_seam 231 = .ok (.aload_n 0, 1) := by decide +kernel
theorem dZM_seam_232 : decode cZM_seam 232 = .ok (.getfield 25, 3) := by decide +kernel
theorem dZM_seam_235 : decode cZM_seam 235 = .ok (.bipush 8, 2) := by decide +kernel
theorem dZM_seam_237 : decode cZM_seam 237 = .ok (.iload_n 2, 1) := by decide +kernel
theorem dZM_seam_238 : decode cZM_seam 238 = .ok (.imul, 1) := by decide +kernel
theorem dZM_seam_239 : decode cZM_seam 239 = .ok (.iload_n 3, 1) := by decide +kernel
theorem dZM_seam_240 : decode cZM_seam 240 = .ok (.iadd, 1) := by decide +kernel
theorem dZM_seam_241 : decode cZM_seam 241 = .ok (.iaload, 1) := by decide +kernel
theorem dZM_seam_242 : decode cZM_seam 242 = .ok (.ireturn, 1) := by decide +kernel
abbrev wsZM_seam : List Cond := .code yZM_seam cZM_seam 6 (some .int) :: tbg
def lp_ZM_seam_45 (zt : Int32) (zw : Int32) (zh : Int32) (zp : Nat → Int32) (zs : Nat → Int32) (zb : Nat → Int32) (zz : Int32) (zl : Nat → Int32) (zo : Nat → Int32) (zc : Int32) (zr : Int32) (zu : Int32) (zv : Int32) (zq : Int32) (zi : Int32) (zk : Nat → Int32) (zm : Nat → Int32) (zd : Int32) (zg : Nat → Int32) (a1 : Int32) (r_1 : Int32) (t0_j24 : Int32) (r_3 : Int32) (zt_2 : Int32) (x2_35 : Int32) (f_35_ozk : Nat → Int32) (f_35_ozm : Nat → Int32) (post : Int32 → Int32 → (Nat → Int32) → (Nat → Int32) → Int32 → Prop) (K45 : Int32 → (Nat → Int32) → (Nat → Int32) → Prop) (n : Nat) : Int32 → (Nat → Int32) → (Nat → Int32) → Prop := Nat.rec (motive := fun _ => Int32 → (Nat → Int32) → (Nat → Int32) → Prop) (fun (x3_45 : Int32) (f_45_ozk : Nat → Int32) (f_45_ozm : Nat → Int32) => False) (fun _ ih45 (x3_45 : Int32) (f_45_ozk : Nat → Int32) (f_45_ozm : Nat → Int32) => ((a1 ≤ x3_45 → (K45 x3_45 f_45_ozk f_45_ozm)) ∧ (¬ a1 ≤ x3_45 → (wp_ZM_costAt zt_2 zw zh zp zs zb zz zl zo zc zr zu zv zq zi f_45_ozk f_45_ozm zd zg x2_35 x3_45 a1 (fun r_7 : Int32 => ((x2_35 = (0 : Int32) → (vp_in (((8 : Int32) * x2_35) + x3_45) 320 ∧ (ih45 (x3_45 + (1 : Int32)) (upd f_45_ozk (((8 : Int32) * x2_35) + x3_45).toNatClampNeg (r_7 + (0 : Int32))) f_45_ozm))) ∧ (¬ x2_35 = (0 : Int32) → (wp_ZM_leastAround zt_2 zw zh zp zs zb zz zl zo zc zr zu zv zq zi f_45_ozk f_45_ozm zd zg (x2_35 - (1 : Int32)) x3_45 a1 (fun r_9 : Int32 => vp_in (((8 : Int32) * x2_35) + x3_45) 320 ∧ (ih45 (x3_45 + (1 : Int32)) (upd f_45_ozk (((8 : Int32) * x2_35) + x3_45).toNatClampNeg (r_7 + r_9)) f_45_ozm)))))))))) n
def lp_ZM_seam_35 (zt : Int32) (zw : Int32) (zh : Int32) (zp : Nat → Int32) (zs : Nat → Int32) (zb : Nat → Int32) (zz : Int32) (zl : Nat → Int32) (zo : Nat → Int32) (zc : Int32) (zr : Int32) (zu : Int32) (zv : Int32) (zq : Int32) (zi : Int32) (zk : Nat → Int32) (zm : Nat → Int32) (zd : Int32) (zg : Nat → Int32) (a1 : Int32) (r_1 : Int32) (t0_j24 : Int32) (r_3 : Int32) (zt_2 : Int32) (post : Int32 → Int32 → (Nat → Int32) → (Nat → Int32) → Int32 → Prop) (K35 : Int32 → (Nat → Int32) → (Nat → Int32) → Prop) (n : Nat) : Int32 → (Nat → Int32) → (Nat → Int32) → Prop := Nat.rec (motive := fun _ => Int32 → (Nat → Int32) → (Nat → Int32) → Prop) (fun (x2_35 : Int32) (f_35_ozk : Nat → Int32) (f_35_ozm : Nat → Int32) => False) (fun _ ih35 (x2_35 : Int32) (f_35_ozk : Nat → Int32) (f_35_ozm : Nat → Int32) => ((zh ≤ x2_35 → (K35 x2_35 f_35_ozk f_35_ozm)) ∧ (¬ zh ≤ x2_35 → (∃ n : Nat, lp_ZM_seam_45 zt zw zh zp zs zb zz zl zo zc zr zu zv zq zi zk zm zd zg a1 r_1 t0_j24 r_3 zt_2 x2_35 f_35_ozk f_35_ozm post (fun (x3_45e : Int32) (f_45e_ozk : Nat → Int32) (f_45e_ozm : Nat → Int32) => ih35 (x2_35 + (1 : Int32)) f_45e_ozk f_45e_ozm) n (0 : Int32) f_35_ozk f_35_ozm)))) n
def lp_ZM_seam_110 (zt : Int32) (zw : Int32) (zh : Int32) (zp : Nat → Int32) (zs : Nat → Int32) (zb : Nat → Int32) (zz : Int32) (zl : Nat → Int32) (zo : Nat → Int32) (zc : Int32) (zr : Int32) (zu : Int32) (zv : Int32) (zq : Int32) (zi : Int32) (zk : Nat → Int32) (zm : Nat → Int32) (zd : Int32) (zg : Nat → Int32) (a1 : Int32) (r_1 : Int32) (t0_j24 : Int32) (r_3 : Int32) (zt_2 : Int32) (x2_35e : Int32) (f_35e_ozk : Nat → Int32) (f_35e_ozm : Nat → Int32) (post : Int32 → Int32 → (Nat → Int32) → (Nat → Int32) → Int32 → Prop) (K110 : Int32 → Int32 → Prop) (n : Nat) : Int32 → Int32 → Prop := Nat.rec (motive := fun _ => Int32 → Int32 → Prop) (fun (x3_110 : Int32) (x4_110 : Int32) => False) (fun _ ih110 (x3_110 : Int32) (x4_110 : Int32) => ((a1 ≤ x4_110 → (K110 x3_110 x4_110)) ∧ (¬ a1 ≤ x4_110 → (wp_ZM_cost zt_2 zw zh zp zs zb zz zl zo zc zr zu zv zq zi f_35e_ozk f_35e_ozm zd zg (zh - (1 : Int32)) x4_110 a1 (fun r_13 : Int32 => wp_ZM_cost zt_2 zw zh zp zs zb zz zl zo zc zr zu zv zq zi f_35e_ozk f_35e_ozm zd zg (zh - (1 : Int32)) x3_110 a1 (fun r_14 : Int32 => ((r_14 ≤ r_13 → (ih110 x3_110 (x4_110 + (1 : Int32)))) ∧ (¬ r_14 ≤ r_13 → (ih110 x4_110 (x4_110 + (1 : Int32))))))))))) n
def lp_ZM_seam_177 (zt : Int32) (zw : Int32) (zh : Int32) (zp : Nat → Int32) (zs : Nat → Int32) (zb : Nat → Int32) (zz : Int32) (zl : Nat → Int32) (zo : Nat → Int32) (zc : Int32) (zr : Int32) (zu : Int32) (zv : Int32) (zq : Int32) (zi : Int32) (zk : Nat → Int32) (zm : Nat → Int32) (zd : Int32) (zg : Nat → Int32) (a1 : Int32) (r_1 : Int32) (t0_j24 : Int32) (r_3 : Int32) (zt_2 : Int32) (x2_35e : Int32) (f_35e_ozk : Nat → Int32) (f_35e_ozm : Nat → Int32) (x3_110e : Int32) (x4_110e : Int32) (x4_159 : Int32) (f_159_ozk : Nat → Int32) (f_159_ozm : Nat → Int32) (post : Int32 → Int32 → (Nat → Int32) → (Nat → Int32) → Int32 → Prop) (K177 : Int32 → Prop) (n : Nat) : Int32 → Prop := Nat.rec (motive := fun _ => Int32 → Prop) (fun (x5_177 : Int32) => False) (fun _ ih177 (x5_177 : Int32) => wp_ZM_cost zt_2 zw zh zp zs zb zz zl zo zc zr zu zv zq zi f_159_ozk f_159_ozm zd zg x4_159 x5_177 a1 (fun r_19 : Int32 => vp_in (x4_159 + (1 : Int32)) 40 ∧ (wp_ZM_leastAround zt_2 zw zh zp zs zb zz zl zo zc zr zu zv zq zi f_159_ozk f_159_ozm zd zg x4_159 (f_159_ozm (x4_159 + (1 : Int32)).toNatClampNeg) a1 (fun r_21 : Int32 => ((r_19 = r_21 → (K177 x5_177)) ∧ (¬ r_19 = r_21 → (ih177 (x5_177 + (1 : Int32))))))))) n
def lp_ZM_seam_159 (zt : Int32) (zw : Int32) (zh : Int32) (zp : Nat → Int32) (zs : Nat → Int32) (zb : Nat → Int32) (zz : Int32) (zl : Nat → Int32) (zo : Nat → Int32) (zc : Int32) (zr : Int32) (zu : Int32) (zv : Int32) (zq : Int32) (zi : Int32) (zk : Nat → Int32) (zm : Nat → Int32) (zd : Int32) (zg : Nat → Int32) (a1 : Int32) (r_1 : Int32) (t0_j24 : Int32) (r_3 : Int32) (zt_2 : Int32) (x2_35e : Int32) (f_35e_ozk : Nat → Int32) (f_35e_ozm : Nat → Int32) (x3_110e : Int32) (x4_110e : Int32) (post : Int32 → Int32 → (Nat → Int32) → (Nat → Int32) → Int32 → Prop) (K159 : Int32 → (Nat → Int32) → (Nat → Int32) → Prop) (n : Nat) : Int32 → (Nat → Int32) → (Nat → Int32) → Prop := Nat.rec (motive := fun _ => Int32 → (Nat → Int32) → (Nat → Int32) → Prop) (fun (x4_159 : Int32) (f_159_ozk : Nat → Int32) (f_159_ozm : Nat → Int32) => False) (fun _ ih159 (x4_159 : Int32) (f_159_ozk : Nat → Int32) (f_159_ozm : Nat → Int32) => ((x4_159 < (0 : Int32) → (K159 x4_159 f_159_ozk f_159_ozm)) ∧ (¬ x4_159 < (0 : Int32) → (vp_in (x4_159 + (1 : Int32)) 40 ∧ (∃ n : Nat, lp_ZM_seam_177 zt zw zh zp zs zb zz zl zo zc zr zu zv zq zi zk zm zd zg a1 r_1 t0_j24 r_3 zt_2 x2_35e f_35e_ozk f_35e_ozm x3_110e x4_110e x4_159 f_159_ozk f_159_ozm post (fun (x5_177e : Int32) => vp_in x4_159 40 ∧ (ih159 (x4_159 + (-1 : Int32)) f_159_ozk (upd f_159_ozm x4_159.toNatClampNeg x5_177e))) n ((f_159_ozm (x4_159 + (1 : Int32)).toNatClampNeg) - (1 : Int32))))))) n
def wp_ZM_seam (zt : Int32) (zw : Int32) (zh : Int32) (zp : Nat → Int32) (zs : Nat → Int32) (zb : Nat → Int32) (zz : Int32) (zl : Nat → Int32) (zo : Nat → Int32) (zc : Int32) (zr : Int32) (zu : Int32) (zv : Int32) (zq : Int32) (zi : Int32) (zk : Nat → Int32) (zm : Nat → Int32) (zd : Int32) (zg : Nat → Int32) (a1 : Int32) (post : Int32 → Int32 → (Nat → Int32) → (Nat → Int32) → Int32 → Prop) : Prop := wp_ZM_in a1 (1 : Int32) (8 : Int32) (fun r_1 : Int32 => ∃ J24 : Int32 → Prop, (∀ (t0_j24 : Int32), J24 t0_j24 → wp_ZM_throwing zt zw zh zp zs zb zz zl zo zc zr zu zv zq zi zk zm zd zg t0_j24 (0 : Int32) (fun (r_3 : Int32) (zt_2 : Int32) => ((r_3 = (0 : Int32) → (∃ n : Nat, lp_ZM_seam_35 zt zw zh zp zs zb zz zl zo zc zr zu zv zq zi zk zm zd zg a1 r_1 t0_j24 r_3 zt_2 post (fun (x2_35e : Int32) (f_35e_ozk : Nat → Int32) (f_35e_ozm : Nat → Int32) => ∃ n : Nat, lp_ZM_seam_110 zt zw zh zp zs zb zz zl zo zc zr zu zv zq zi zk zm zd zg a1 r_1 t0_j24 r_3 zt_2 x2_35e f_35e_ozk f_35e_ozm post (fun (x3_110e : Int32) (x4_110e : Int32) => vp_in (zh - (1 : Int32)) 40 ∧ (∃ n : Nat, lp_ZM_seam_159 zt zw zh zp zs zb zz zl zo zc zr zu zv zq zi zk zm zd zg a1 r_1 t0_j24 r_3 zt_2 x2_35e f_35e_ozk f_35e_ozm x3_110e x4_110e post (fun (x4_159e : Int32) (f_159e_ozk : Nat → Int32) (f_159e_ozm : Nat → Int32) => vp_in (((8 : Int32) * (zh - (1 : Int32))) + x3_110e) 320 ∧ (post (f_159e_ozk (((8 : Int32) * (zh - (1 : Int32))) + x3_110e).toNatClampNeg) zt_2 f_159e_ozk f_159e_ozm (1 : Int32))) n ((zh - (1 : Int32)) - (1 : Int32)) f_35e_ozk (upd f_35e_ozm (zh - (1 : Int32)).toNatClampNeg x3_110e))) n (0 : Int32) (1 : Int32)) n (0 : Int32) zk zm)) ∧ (¬ r_3 = (0 : Int32) → (post (0 : Int32) zt_2 zk zm zd))))) ∧ (((r_1 = (0 : Int32) → (J24 (1 : Int32))) ∧ (¬ r_1 = (0 : Int32) → ((a1 ≤ zw → (J24 (0 : Int32))) ∧ (¬ a1 ≤ zw → (J24 (1 : Int32))))))))
abbrev rm_ZM_seam : Room := { frames := 3, cells := 0, slots := 0, locals := 70 }
set_option maxHeartbeats 4000000 in
set_option maxRecDepth 100000 in
theorem kt_ZM_seam (l : Launch) (dC : Nat → ClassId) (dI : Nat → Nat → Nat) (cI : ClassId) (om ozp ozs ozb ozl ozo ozk ozm ozg : Nat) (sz : Nat) (zt : Int32) (zw : Int32) (zh : Int32) (zp : Nat → Int32) (zs : Nat → Int32) (zb : Nat → Int32) (zz : Int32) (zl : Nat → Int32) (zo : Nat → Int32) (zc : Int32) (zr : Int32) (zu : Int32) (zv : Int32) (zq : Int32) (zi : Int32) (zk : Nat → Int32) (zm : Nat → Int32) (zd : Int32) (zg : Nat → Int32) (a1 : Int32) (post : Int32 → Int32 → (Nat → Int32) → (Nat → Int32) → Int32 → Prop) (hw : wp_ZM_seam zt zw zh zp zs zb zz zl zo zc zr zu zv zq zi zk zm zd zg a1 post) : Met l yZM_seam wsZM_seam rm_ZM_seam (gw_Pc dC dI [(cI, .int)] [.ref om, .int a1] [(om, .inr (6, [.int zt, .int zw, .int zh, .ref ozp, .ref ozs, .ref ozb, .int zz, .ref ozl, .ref ozo, .int zc, .int zr, .int zu, .int zv, .int zq, .int zi, .ref ozk, .ref ozm, .int zd, .ref ozg])), (ozp, .inl (cI, 1600, .inl zp)), (ozs, .inl (cI, 320, .inl zs)), (ozb, .inl (cI, 256, .inl zb)), (ozl, .inl (cI, 64, .inl zl)), (ozo, .inl (cI, 64, .inl zo)), (ozk, .inl (cI, 320, .inl zk)), (ozm, .inl (cI, 40, .inl zm)), (ozg, .inl (cI, 64, .inl zg))] sz) (va_Qi (fun (r : Int32) (u : Int32 × (Nat → Int32) × (Nat → Int32) × Int32) => post r u.1 u.2.1 u.2.2.1 u.2.2.2) (fun u t => gw_B dC dI [(cI, .int)] (va_A [(om, .inr (6, [.int zt, .int zw, .int zh, .ref ozp, .ref ozs, .ref ozb, .int zz, .ref ozl, .ref ozo, .int zc, .int zr, .int zu, .int zv, .int zq, .int zi, .ref ozk, .ref ozm, .int zd, .ref ozg])), (ozp, .inl (cI, 1600, .inl zp)), (ozs, .inl (cI, 320, .inl zs)), (ozb, .inl (cI, 256, .inl zb)), (ozl, .inl (cI, 64, .inl zl)), (ozo, .inl (cI, 64, .inl zo)), (ozk, .inl (cI, 320, .inl zk)), (ozm, .inl (cI, 40, .inl zm)), (ozg, .inl (cI, 64, .inl zg))] sz) [(om, .inr (6, [.int u.1, .int zw, .int zh, .ref ozp, .ref ozs, .ref ozb, .int zz, .ref ozl, .ref ozo, .int zc, .int zr, .int zu, .int zv, .int zq, .int zi, .ref ozk, .ref ozm, .int u.2.2.2, .ref ozg])), (ozp, .inl (cI, 1600, .inl zp)), (ozs, .inl (cI, 320, .inl zs)), (ozb, .inl (cI, 256, .inl zb)), (ozl, .inl (cI, 64, .inl zl)), (ozo, .inl (cI, 64, .inl zo)), (ozk, .inl (cI, 320, .inl u.2.1)), (ozm, .inl (cI, 40, .inl u.2.2.1)), (ozg, .inl (cI, 64, .inl zg))] t) (va_A [(om, .inr (6, [.int zt, .int zw, .int zh, .ref ozp, .ref ozs, .ref ozb, .int zz, .ref ozl, .ref ozo, .int zc, .int zr, .int zu, .int zv, .int zq, .int zi, .ref ozk, .ref ozm, .int zd, .ref ozg])), (ozp, .inl (cI, 1600, .inl zp)), (ozs, .inl (cI, 320, .inl zs)), (ozb, .inl (cI, 256, .inl zb)), (ozl, .inl (cI, 64, .inl zl)), (ozo, .inl (cI, 64, .inl zo)), (ozk, .inl (cI, 320, .inl zk)), (ozm, .inl (cI, 40, .inl zm)), (ozg, .inl (cI, 64, .inl zg))] sz)) 0 0 (va_A [(om, .inr (6, [.int zt, .int zw, .int zh, .ref ozp, .ref ozs, .ref ozb, .int zz, .ref ozl, .ref ozo, .int zc, .int zr, .int zu, .int zv, .int zq, .int zi, .ref ozk, .ref ozm, .int zd, .ref ozg])), (ozp, .inl (cI, 1600, .inl zp)), (ozs, .inl (cI, 320, .inl zs)), (ozb, .inl (cI, 256, .inl zb)), (ozl, .inl (cI, 64, .inl zl)), (ozo, .inl (cI, 64, .inl zo)), (ozk, .inl (cI, 320, .inl zk)), (ozm, .inl (cI, 40, .inl zm)), (ozg, .inl (cI, 64, .inl zg))] sz) := by
  refine Met.ofW (cc := cZM_seam) (maxL := 6) (ret := (some .int)) (by decide) rfl ?_
  intro p e s m args below meth c s₁ B hml hv
  obtain ⟨ha9, hsz, hP, hK, hE, hD0⟩ := hv
  have hx := B.exec
  have hb := B.bytes
  have hr := B.returns
  have hts0 := atoms_spec (ws := wsZM_seam) B.pre
  have hts : ∀ w ∈ tbg, w.before args s = true := fun w h => hts0 w (List.mem_cons_of_mem _ h)
  have hown : s.vm.findClass RZM = some m.cls := findClass_of_methodNamed B.named
  have hlocks := B.notSynchronized
  subst hsz
  have hD := hD0.self (sz := s.heap.size)
  refine gx_Q (fun Q9 hQ9 => ?_)
  generalize hAe : va_A [(om, .inr (6, [.int zt, .int zw, .int zh, .ref ozp, .ref ozs, .ref ozb, .int zz, .ref ozl, .ref ozo, .int zc, .int zr, .int zu, .int zv, .int zq, .int zi, .ref ozk, .ref ozm, .int zd, .ref ozg])), (ozp, .inl (cI, 1600, .inl zp)), (ozs, .inl (cI, 320, .inl zs)), (ozb, .inl (cI, 256, .inl zb)), (ozl, .inl (cI, 64, .inl zl)), (ozo, .inl (cI, 64, .inl zo)), (ozk, .inl (cI, 320, .inl zk)), (ozm, .inl (cI, 40, .inl zm)), (ozg, .inl (cI, 64, .inl zg))] s.heap.size = A at hD hQ9 ⊢
  have hA : ∀ q : Nat, s.heap.size ≤ q → A q := fun q h => by rw [← hAe]; exact Or.inr h
  have hS : va_S A s.heap s.heap [] := va_S.rf
  have hl := lv_entry ([.ref om, .int a1]) (n := 6) (Nat.le_of_ble_eq_true rfl)
  have he9 : entryFrame m args 6 = F0 m 0 ((lg_sl [.ref om, .int a1] ++ List.replicate (6 - (lg_sl ([.ref om, .int a1] : List Value)).length) Slot.unset).toArray) [] := by rw [ha9]; exact lg_entry_eq m [.ref om, .int a1] 6
  rw [he9]
  generalize (lg_sl ([.ref om, .int a1] : List Value) ++ List.replicate (6 - (lg_sl ([.ref om, .int a1] : List Value)).length) Slot.unset).toArray = ls at hl ⊢
  have hl : lv_has ls 6 [(0, .ref om), (1, .int a1)] := hl
  refine lv_aload_n hx hb dZM_seam_0 rfl (lv_at hl 0 rfl) ?_
  refine lv_iload_n hx hb dZM_seam_1 rfl (lv_at hl 1 rfl) ?_
  refine lv_iconst (v := (1 : Int32)) hx hb dZM_seam_2 (by decide) ?_
  refine lv_bipush (v := (8 : Int32)) hx hb dZM_seam_3 (by decide) ?_
  have hPc := hP.sub (ws' := []) [] rfl
  refine vp_callSi (va_runS (As := [.int a1, .int (1 : Int32), .int (8 : Int32)]) (rest := [.ref om]) ⟨hx, hb, hml, hown, hts⟩ (kt_ZM_in l dC dI cI  a1 (1 : Int32) (8 : Int32) _ hw) (va_cwS 3 hts (tb_S mm_687 mm_688 mm_8 mm_689) rfl rfl rfl (by decide +kernel) ⟨Nat.le_of_ble_eq_true rfl, Nat.le_of_ble_eq_true rfl⟩) ⟨gr_blind, fun U hU hW => gr_pre hPc hK hE hU hW⟩ rfl rfl hl.1 rfl (lv_room (Nat.le_of_ble_eq_true rfl)) dZM_seam_5 ⟨Nat.le_of_ble_eq_true rfl, Nat.le_of_ble_eq_true rfl⟩).run (fun r_1 hw => ?_)
  obtain ⟨J24, hJ24, hw⟩ := hw
  have j24 : ∀ (t0_j24 : Int32), J24 t0_j24 → ∀ (H : Heap) (locs : List Loc), va_P (dC, dI) vwCl [(om, .inr (6, [.int zt, .int zw, .int zh, .ref ozp, .ref ozs, .ref ozb, .int zz, .ref ozl, .ref ozo, .int zc, .int zr, .int zu, .int zv, .int zq, .int zi, .ref ozk, .ref ozm, .int zd, .ref ozg])), (ozp, .inl (cI, 1600, .inl zp)), (ozs, .inl (cI, 320, .inl zs)), (ozb, .inl (cI, 256, .inl zb)), (ozl, .inl (cI, 64, .inl zl)), (ozo, .inl (cI, 64, .inl zo)), (ozk, .inl (cI, 320, .inl zk)), (ozm, .inl (cI, 40, .inl zm)), (ozg, .inl (cI, 64, .inl zg))] H → va_D A [(om, .inr (6, [.int zt, .int zw, .int zh, .ref ozp, .ref ozs, .ref ozb, .int zz, .ref ozl, .ref ozo, .int zc, .int zr, .int zu, .int zv, .int zq, .int zi, .ref ozk, .ref ozm, .int zd, .ref ozg])), (ozp, .inl (cI, 1600, .inl zp)), (ozs, .inl (cI, 320, .inl zs)), (ozb, .inl (cI, 256, .inl zb)), (ozl, .inl (cI, 64, .inl zl)), (ozo, .inl (cI, 64, .inl zo)), (ozk, .inl (cI, 320, .inl zk)), (ozm, .inl (cI, 40, .inl zm)), (ozg, .inl (cI, 64, .inl zg))] → va_S A s.heap H locs → ∀ ls : Array Slot, lv_has ls 6 [(0, .ref om), (1, .int a1)] → W p l e (headSpec wsZM_seam rm_ZM_seam).room s m args below meth c H locs 0 0 Q9 (F0 m 24 ls [.int t0_j24, .ref om]) := by
    intro t0_j24 hw H locs hP hD hS ls hl
    have hw := hJ24 t0_j24 hw
    refine lv_iconst (v := (0 : Int32)) hx hb dZM_seam_24 (by decide) ?_
    have hPc := hP.sub (ws' := [(om, .inr (6, [.int zt, .int zw, .int zh, .ref ozp, .ref ozs, .ref ozb, .int zz, .ref ozl, .ref ozo, .int zc, .int zr, .int zu, .int zv, .int zq, .int zi, .ref ozk, .ref ozm, .int zd, .ref ozg])), (ozp, .inl (cI, 1600, .inl zp)), (ozs, .inl (cI, 320, .inl zs)), (ozb, .inl (cI, 256, .inl zb)), (ozl, .inl (cI, 64, .inl zl)), (ozo, .inl (cI, 64, .inl zo)), (ozk, .inl (cI, 320, .inl zk)), (ozm, .inl (cI, 40, .inl zm)), (ozg, .inl (cI, 64, .inl zg))]) [0, 1, 2, 3, 4, 5, 6, 7, 8] rfl
    have hDc := hD.sub (ws' := [(om, .inr (6, [.int zt, .int zw, .int zh, .ref ozp, .ref ozs, .ref ozb, .int zz, .ref ozl, .ref ozo, .int zc, .int zr, .int zu, .int zv, .int zq, .int zi, .ref ozk, .ref ozm, .int zd, .ref ozg])), (ozp, .inl (cI, 1600, .inl zp)), (ozs, .inl (cI, 320, .inl zs)), (ozb, .inl (cI, 256, .inl zb)), (ozl, .inl (cI, 64, .inl zl)), (ozo, .inl (cI, 64, .inl zo)), (ozk, .inl (cI, 320, .inl zk)), (ozm, .inl (cI, 40, .inl zm)), (ozg, .inl (cI, 64, .inl zg))]) [0, 1, 2, 3, 4, 5, 6, 7, 8] (by decide) rfl
    have hFc := va_free (wc := [(om, .inr (6, [.int zt, .int zw, .int zh, .ref ozp, .ref ozs, .ref ozb, .int zz, .ref ozl, .ref ozo, .int zc, .int zr, .int zu, .int zv, .int zq, .int zi, .ref ozk, .ref ozm, .int zd, .ref ozg])), (ozp, .inl (cI, 1600, .inl zp)), (ozs, .inl (cI, 320, .inl zs)), (ozb, .inl (cI, 256, .inl zb)), (ozl, .inl (cI, 64, .inl zl)), (ozo, .inl (cI, 64, .inl zo)), (ozk, .inl (cI, 320, .inl zk)), (ozm, .inl (cI, 40, .inl zm)), (ozg, .inl (cI, 64, .inl zg))]) hD hS hA [0, 1, 2, 3, 4, 5, 6, 7, 8] rfl
    refine va_calli (va_runV (As := [.int t0_j24, .int (0 : Int32)]) (rest := []) ⟨hx, hb, hml, hown, hts⟩ (kt_ZM_throwing l dC dI cI om ozp ozs ozb ozl ozo ozk ozm ozg _ zt zw zh zp zs zb zz zl zo zc zr zu zv zq zi zk zm zd zg t0_j24 (0 : Int32) _ hw) (cwV 2 hts (tb_V mm_693 mm_695 mp_5 mm_8 mm_696) rfl rfl rfl (by decide +kernel) ⟨Nat.le_of_ble_eq_true rfl, Nat.le_of_ble_eq_true rfl⟩) ⟨gw_blind, va_recv hK hPc (ci := 6) (q0 := 0) rfl rfl, fun U hU hW => gw_pre hPc hDc hK hE hU hW⟩ rfl rfl hl.1 rfl (lv_room (Nat.le_of_ble_eq_true rfl)) dZM_seam_25 ⟨Nat.le_of_ble_eq_true rfl, Nat.le_of_ble_eq_true rfl⟩) hS (fun q _ h => hFc q h) hFc (fun r_3 zt_2 t H1 locs ht hvm hw hB hz1 hk1 hS => ?_)
    obtain ⟨hP1, hK1, hD1⟩ := hB
    rw [ht] at hP1
    try dsimp only at hw
    obtain ⟨hP, hD⟩ := va_join (wr := []) (w1 := [(om, .inr (6, [.int zt_2, .int zw, .int zh, .ref ozp, .ref ozs, .ref ozb, .int zz, .ref ozl, .ref ozo, .int zc, .int zr, .int zu, .int zv, .int zq, .int zi, .ref ozk, .ref ozm, .int zd, .ref ozg])), (ozp, .inl (cI, 1600, .inl zp)), (ozs, .inl (cI, 320, .inl zs)), (ozb, .inl (cI, 256, .inl zb)), (ozl, .inl (cI, 64, .inl zl)), (ozo, .inl (cI, 64, .inl zo)), (ozk, .inl (cI, 320, .inl zk)), (ozm, .inl (cI, 40, .inl zm)), (ozg, .inl (cI, 64, .inl zg))]) hP hD [0, 1, 2, 3, 4, 5, 6, 7, 8] [] rfl rfl (by decide) (by decide) hk1 hFc hP1 hD1
    generalize H1 = H at hP hS ⊢
    have hP : va_P (dC, dI) vwCl [(om, .inr (6, [.int zt_2, .int zw, .int zh, .ref ozp, .ref ozs, .ref ozb, .int zz, .ref ozl, .ref ozo, .int zc, .int zr, .int zu, .int zv, .int zq, .int zi, .ref ozk, .ref ozm, .int zd, .ref ozg])), (ozp, .inl (cI, 1600, .inl zp)), (ozs, .inl (cI, 320, .inl zs)), (ozb, .inl (cI, 256, .inl zb)), (ozl, .inl (cI, 64, .inl zl)), (ozo, .inl (cI, 64, .inl zo)), (ozk, .inl (cI, 320, .inl zk)), (ozm, .inl (cI, 40, .inl zm)), (ozg, .inl (cI, 64, .inl zg))] H := hP
    have hD : va_D A [(om, .inr (6, [.int zt_2, .int zw, .int zh, .ref ozp, .ref ozs, .ref ozb, .int zz, .ref ozl, .ref ozo, .int zc, .int zr, .int zu, .int zv, .int zq, .int zi, .ref ozk, .ref ozm, .int zd, .ref ozg])), (ozp, .inl (cI, 1600, .inl zp)), (ozs, .inl (cI, 320, .inl zs)), (ozb, .inl (cI, 256, .inl zb)), (ozl, .inl (cI, 64, .inl zl)), (ozo, .inl (cI, 64, .inl zo)), (ozk, .inl (cI, 320, .inl zk)), (ozm, .inl (cI, 40, .inl zm)), (ozg, .inl (cI, 64, .inl zg))] := hD
    refine lv_if_eq (tgt := 33) hx hb dZM_seam_28 (by decide) (fun c_4 => ?_) (fun c_4 => ?_)
    · have hw := hw.1 c_4
      refine lv_iconst (v := (0 : Int32)) hx hb dZM_seam_33 (by decide) ?_
      refine lv_istore_n (lv' := [(2, .int (0 : Int32)), (0, .ref om), (1, .int a1)]) hx hb dZM_seam_34 rfl hl (by decide) rfl (fun ls hl => ?_)
      have lp35 : ∀ K35 : Int32 → (Nat → Int32) → (Nat → Int32) → Prop, (∀ (x2_35 : Int32) (f_35_ozk : Nat → Int32) (f_35_ozm : Nat → Int32), K35 x2_35 f_35_ozk f_35_ozm → ∀ (H : Heap) (locs : List Loc), va_P (dC, dI) vwCl [(om, .inr (6, [.int zt_2, .int zw, .int zh, .ref ozp, .ref ozs, .ref ozb, .int zz, .ref ozl, .ref ozo, .int zc, .int zr, .int zu, .int zv, .int zq, .int zi, .ref ozk, .ref ozm, .int zd, .ref ozg])), (ozp, .inl (cI, 1600, .inl zp)), (ozs, .inl (cI, 320, .inl zs)), (ozb, .inl (cI, 256, .inl zb)), (ozl, .inl (cI, 64, .inl zl)), (ozo, .inl (cI, 64, .inl zo)), (ozk, .inl (cI, 320, .inl f_35_ozk)), (ozm, .inl (cI, 40, .inl f_35_ozm)), (ozg, .inl (cI, 64, .inl zg))] H → va_D A [(om, .inr (6, [.int zt_2, .int zw, .int zh, .ref ozp, .ref ozs, .ref ozb, .int zz, .ref ozl, .ref ozo, .int zc, .int zr, .int zu, .int zv, .int zq, .int zi, .ref ozk, .ref ozm, .int zd, .ref ozg])), (ozp, .inl (cI, 1600, .inl zp)), (ozs, .inl (cI, 320, .inl zs)), (ozb, .inl (cI, 256, .inl zb)), (ozl, .inl (cI, 64, .inl zl)), (ozo, .inl (cI, 64, .inl zo)), (ozk, .inl (cI, 320, .inl f_35_ozk)), (ozm, .inl (cI, 40, .inl f_35_ozm)), (ozg, .inl (cI, 64, .inl zg))] → va_S A s.heap H locs → ∀ ls : Array Slot, lv_has ls 6 [(2, .int x2_35), (0, .ref om), (1, .int a1)] → W p l e (headSpec wsZM_seam rm_ZM_seam).room s m args below meth c H locs 0 0 Q9 (F0 m 98 ls [])) → ∀ (n : Nat) (x2_35 : Int32) (f_35_ozk : Nat → Int32) (f_35_ozm : Nat → Int32), lp_ZM_seam_35 zt zw zh zp zs zb zz zl zo zc zr zu zv zq zi zk zm zd zg a1 r_1 t0_j24 r_3 zt_2 post K35 n x2_35 f_35_ozk f_35_ozm → ∀ (H : Heap) (locs : List Loc), va_P (dC, dI) vwCl [(om, .inr (6, [.int zt_2, .int zw, .int zh, .ref ozp, .ref ozs, .ref ozb, .int zz, .ref ozl, .ref ozo, .int zc, .int zr, .int zu, .int zv, .int zq, .int zi, .ref ozk, .ref ozm, .int zd, .ref ozg])), (ozp, .inl (cI, 1600, .inl zp)), (ozs, .inl (cI, 320, .inl zs)), (ozb, .inl (cI, 256, .inl zb)), (ozl, .inl (cI, 64, .inl zl)), (ozo, .inl (cI, 64, .inl zo)), (ozk, .inl (cI, 320, .inl f_35_ozk)), (ozm, .inl (cI, 40, .inl f_35_ozm)), (ozg, .inl (cI, 64, .inl zg))] H → va_D A [(om, .inr (6, [.int zt_2, .int zw, .int zh, .ref ozp, .ref ozs, .ref ozb, .int zz, .ref ozl, .ref ozo, .int zc, .int zr, .int zu, .int zv, .int zq, .int zi, .ref ozk, .ref ozm, .int zd, .ref ozg])), (ozp, .inl (cI, 1600, .inl zp)), (ozs, .inl (cI, 320, .inl zs)), (ozb, .inl (cI, 256, .inl zb)), (ozl, .inl (cI, 64, .inl zl)), (ozo, .inl (cI, 64, .inl zo)), (ozk, .inl (cI, 320, .inl f_35_ozk)), (ozm, .inl (cI, 40, .inl f_35_ozm)), (ozg, .inl (cI, 64, .inl zg))] → va_S A s.heap H locs → ∀ ls : Array Slot, lv_has ls 6 [(2, .int x2_35), (0, .ref om), (1, .int a1)] → W p l e (headSpec wsZM_seam rm_ZM_seam).room s m args below meth c H locs 0 0 Q9 (F0 m 35 ls []) := by
        intro K35 aft35 n
        induction n with
        | zero => intro x2_35 f_35_ozk f_35_ozm hw; exact False.elim hw
        | succ n ih35 =>
          intro x2_35 f_35_ozk f_35_ozm hw H locs hP hD hS ls hl
          refine lv_iload_n hx hb dZM_seam_35 rfl (lv_at hl 0 rfl) ?_
          refine lv_aload_n hx hb dZM_seam_36 rfl (lv_at hl 1 rfl) ?_
          refine va_get (D := (dC, dI)) (ci := 6) (v := .int zh) (C := RZM) (T := TZM) (N := 19) hx hb hts inZM hown hK hP 0 rfl rfl 2 (by decide) (hts _ mm_620) (fun _ h9 => h9) rfl dZM_seam_37 ?_
          refine lv_icmp_ge (tgt := 98) hx hb dZM_seam_40 (by decide) (fun c_5 => ?_) (fun c_5 => ?_)
          · have hw := hw.1 c_5
            exact aft35 x2_35 f_35_ozk f_35_ozm hw _ _ (hP.sub [0, 1, 2, 3, 4, 5, 6, 7, 8] rfl) (hD.sub [0, 1, 2, 3, 4, 5, 6, 7, 8] (by decide) rfl) hS ls (lv_sub hl [0, 1, 2] rfl)
          · have hw := hw.2 c_5
            refine lv_iconst (v := (0 : Int32)) hx hb dZM_seam_43 (by decide) ?_
            refine lv_istore_n (lv' := [(3, .int (0 : Int32)), (2, .int x2_35), (0, .ref om), (1, .int a1)]) hx hb dZM_seam_44 rfl hl (by decide) rfl (fun ls hl => ?_)
            have lp45 : ∀ K45 : Int32 → (Nat → Int32) → (Nat → Int32) → Prop, (∀ (x3_45 : Int32) (f_45_ozk : Nat → Int32) (f_45_ozm : Nat → Int32), K45 x3_45 f_45_ozk f_45_ozm → ∀ (H : Heap) (locs : List Loc), va_P (dC, dI) vwCl [(om, .inr (6, [.int zt_2, .int zw, .int zh, .ref ozp, .ref ozs, .ref ozb, .int zz, .ref ozl, .ref ozo, .int zc, .int zr, .int zu, .int zv, .int zq, .int zi, .ref ozk, .ref ozm, .int zd, .ref ozg])), (ozp, .inl (cI, 1600, .inl zp)), (ozs, .inl (cI, 320, .inl zs)), (ozb, .inl (cI, 256, .inl zb)), (ozl, .inl (cI, 64, .inl zl)), (ozo, .inl (cI, 64, .inl zo)), (ozk, .inl (cI, 320, .inl f_45_ozk)), (ozm, .inl (cI, 40, .inl f_45_ozm)), (ozg, .inl (cI, 64, .inl zg))] H → va_D A [(om, .inr (6, [.int zt_2, .int zw, .int zh, .ref ozp, .ref ozs, .ref ozb, .int zz, .ref ozl, .ref ozo, .int zc, .int zr, .int zu, .int zv, .int zq, .int zi, .ref ozk, .ref ozm, .int zd, .ref ozg])), (ozp, .inl (cI, 1600, .inl zp)), (ozs, .inl (cI, 320, .inl zs)), (ozb, .inl (cI, 256, .inl zb)), (ozl, .inl (cI, 64, .inl zl)), (ozo, .inl (cI, 64, .inl zo)), (ozk, .inl (cI, 320, .inl f_45_ozk)), (ozm, .inl (cI, 40, .inl f_45_ozm)), (ozg, .inl (cI, 64, .inl zg))] → va_S A s.heap H locs → ∀ ls : Array Slot, lv_has ls 6 [(3, .int x3_45), (2, .int x2_35), (0, .ref om), (1, .int a1)] → W p l e (headSpec wsZM_seam rm_ZM_seam).room s m args below meth c H locs 0 0 Q9 (F0 m 92 ls [])) → ∀ (n : Nat) (x3_45 : Int32) (f_45_ozk : Nat → Int32) (f_45_ozm : Nat → Int32), lp_ZM_seam_45 zt zw zh zp zs zb zz zl zo zc zr zu zv zq zi zk zm zd zg a1 r_1 t0_j24 r_3 zt_2 x2_35 f_35_ozk f_35_ozm post K45 n x3_45 f_45_ozk f_45_ozm → ∀ (H : Heap) (locs : List Loc), va_P (dC, dI) vwCl [(om, .inr (6, [.int zt_2, .int zw, .int zh, .ref ozp, .ref ozs, .ref ozb, .int zz, .ref ozl, .ref ozo, .int zc, .int zr, .int zu, .int zv, .int zq, .int zi, .ref ozk, .ref ozm, .int zd, .ref ozg])), (ozp, .inl (cI, 1600, .inl zp)), (ozs, .inl (cI, 320, .inl zs)), (ozb, .inl (cI, 256, .inl zb)), (ozl, .inl (cI, 64, .inl zl)), (ozo, .inl (cI, 64, .inl zo)), (ozk, .inl (cI, 320, .inl f_45_ozk)), (ozm, .inl (cI, 40, .inl f_45_ozm)), (ozg, .inl (cI, 64, .inl zg))] H → va_D A [(om, .inr (6, [.int zt_2, .int zw, .int zh, .ref ozp, .ref ozs, .ref ozb, .int zz, .ref ozl, .ref ozo, .int zc, .int zr, .int zu, .int zv, .int zq, .int zi, .ref ozk, .ref ozm, .int zd, .ref ozg])), (ozp, .inl (cI, 1600, .inl zp)), (ozs, .inl (cI, 320, .inl zs)), (ozb, .inl (cI, 256, .inl zb)), (ozl, .inl (cI, 64, .inl zl)), (ozo, .inl (cI, 64, .inl zo)), (ozk, .inl (cI, 320, .inl f_45_ozk)), (ozm, .inl (cI, 40, .inl f_45_ozm)), (ozg, .inl (cI, 64, .inl zg))] → va_S A s.heap H locs → ∀ ls : Array Slot, lv_has ls 6 [(3, .int x3_45), (2, .int x2_35), (0, .ref om), (1, .int a1)] → W p l e (headSpec wsZM_seam rm_ZM_seam).room s m args below meth c H locs 0 0 Q9 (F0 m 45 ls []) := by
              intro K45 aft45 n
              induction n with
              | zero => intro x3_45 f_45_ozk f_45_ozm hw; exact False.elim hw
              | succ n ih45 =>
                intro x3_45 f_45_ozk f_45_ozm hw H locs hP hD hS ls hl
                refine lv_iload_n hx hb dZM_seam_45 rfl (lv_at hl 0 rfl) ?_
                refine lv_iload_n hx hb dZM_seam_46 rfl (lv_at hl 3 rfl) ?_
                refine lv_icmp_ge (tgt := 92) hx hb dZM_seam_47 (by decide) (fun c_6 => ?_) (fun c_6 => ?_)
                · have hw := hw.1 c_6
                  exact aft45 x3_45 f_45_ozk f_45_ozm hw _ _ (hP.sub [0, 1, 2, 3, 4, 5, 6, 7, 8] rfl) (hD.sub [0, 1, 2, 3, 4, 5, 6, 7, 8] (by decide) rfl) hS ls (lv_sub hl [0, 1, 2, 3] rfl)
                · have hw := hw.2 c_6
                  refine lv_aload_n hx hb dZM_seam_50 rfl (lv_at hl 2 rfl) ?_
                  refine va_get (D := (dC, dI)) (ci := 6) (v := .ref ozk) (C := RZM) (T := TZM) (N := 19) hx hb hts inZM hown hK hP 0 rfl rfl 15 (by decide) (hts _ mm_632) (fun _ h9 => h9) rfl dZM_seam_51 ?_
                  refine lv_bipush (v := (8 : Int32)) hx hb dZM_seam_54 (by decide) ?_
                  refine lv_iload_n hx hb dZM_seam_56 rfl (lv_at hl 1 rfl) ?_
                  refine lv_imul hx hb dZM_seam_57 ?_
                  refine lv_iload_n hx hb dZM_seam_58 rfl (lv_at hl 0 rfl) ?_
                  refine lv_iadd hx hb dZM_seam_59 ?_
                  refine lv_aload_n hx hb dZM_seam_60 rfl (lv_at hl 2 rfl) ?_
                  refine lv_iload_n hx hb dZM_seam_61 rfl (lv_at hl 1 rfl) ?_
                  refine lv_iload_n hx hb dZM_seam_62 rfl (lv_at hl 0 rfl) ?_
                  refine lv_iload_n hx hb dZM_seam_63 rfl (lv_at hl 3 rfl) ?_
                  refine vp_callSi (va_runV (As := [.int x2_35, .int x3_45, .int a1]) (rest := [.int (((8 : Int32) * x2_35) + x3_45), .ref ozk]) ⟨hx, hb, hml, hown, hts⟩ (kt_ZM_costAt l dC dI cI om ozp ozs ozb ozl ozo ozk ozm ozg zt_2 zw zh zp zs zb zz zl zo zc zr zu zv zq zi f_45_ozk f_45_ozm zd zg x2_35 x3_45 a1 _ hw) (cwV 3 hts (tb_V mm_848 mm_850 mp_22 mm_8 mm_851) rfl rfl rfl (by decide +kernel) ⟨Nat.le_of_ble_eq_true rfl, Nat.le_of_ble_eq_true rfl⟩) ⟨gr_blind, va_recv hK hP (ci := 6) (q0 := 0) rfl rfl, fun U hU hW => gr_pre hP hK hE hU hW⟩ rfl rfl hl.1 rfl (lv_room (Nat.le_of_ble_eq_true rfl)) dZM_seam_64 ⟨Nat.le_of_ble_eq_true rfl, Nat.le_of_ble_eq_true rfl⟩).run (fun r_7 hw => ?_)
                  refine lv_iload_n hx hb dZM_seam_67 rfl (lv_at hl 1 rfl) ?_
                  refine lv_if_ne (tgt := 75) hx hb dZM_seam_68 (by decide) (fun c_8 => ?_) (fun c_8 => ?_)
                  · have hw := hw.2 c_8
                    refine lv_aload_n hx hb dZM_seam_75 rfl (lv_at hl 2 rfl) ?_
                    refine lv_iload_n hx hb dZM_seam_76 rfl (lv_at hl 1 rfl) ?_
                    refine lv_iconst (v := (1 : Int32)) hx hb dZM_seam_77 (by decide) ?_
                    refine lv_isub hx hb dZM_seam_78 ?_
                    refine lv_iload_n hx hb dZM_seam_79 rfl (lv_at hl 0 rfl) ?_
                    refine lv_iload_n hx hb dZM_seam_80 rfl (lv_at hl 3 rfl) ?_
                    refine vp_callSi (va_runV (As := [.int (x2_35 - (1 : Int32)), .int x3_45, .int a1]) (rest := [.int r_7, .int (((8 : Int32) * x2_35) + x3_45), .ref ozk]) ⟨hx, hb, hml, hown, hts⟩ (kt_ZM_leastAround l dC dI cI om ozp ozs ozb ozl ozo ozk ozm ozg zt_2 zw zh zp zs zb zz zl zo zc zr zu zv zq zi f_45_ozk f_45_ozm zd zg (x2_35 - (1 : Int32)) x3_45 a1 _ hw) (cwV 3 hts (tb_V mm_852 mm_854 mp_23 mm_8 mm_855) rfl rfl rfl (by decide +kernel) ⟨Nat.le_of_ble_eq_true rfl, Nat.le_of_ble_eq_true rfl⟩) ⟨gr_blind, va_recv hK hP (ci := 6) (q0 := 0) rfl rfl, fun U hU hW => gr_pre hP hK hE hU hW⟩ rfl rfl hl.1 rfl (lv_room (Nat.le_of_ble_eq_true rfl)) dZM_seam_81 ⟨Nat.le_of_ble_eq_true rfl, Nat.le_of_ble_eq_true rfl⟩).run (fun r_9 hw => ?_)
                    refine lv_iadd hx hb dZM_seam_84 ?_
                    obtain ⟨h_10, hw⟩ := hw
                    refine va_iast hx hb hK hP hD hS 6 0 rfl rfl h_10 dZM_seam_85 (fun H locs hP hD hS => ?_)
                    have hP : va_P (dC, dI) vwCl [(om, .inr (6, [.int zt_2, .int zw, .int zh, .ref ozp, .ref ozs, .ref ozb, .int zz, .ref ozl, .ref ozo, .int zc, .int zr, .int zu, .int zv, .int zq, .int zi, .ref ozk, .ref ozm, .int zd, .ref ozg])), (ozp, .inl (cI, 1600, .inl zp)), (ozs, .inl (cI, 320, .inl zs)), (ozb, .inl (cI, 256, .inl zb)), (ozl, .inl (cI, 64, .inl zl)), (ozo, .inl (cI, 64, .inl zo)), (ozk, .inl (cI, 320, .inl (upd f_45_ozk (((8 : Int32) * x2_35) + x3_45).toNatClampNeg (r_7 + r_9)))), (ozm, .inl (cI, 40, .inl f_45_ozm)), (ozg, .inl (cI, 64, .inl zg))] H := hP
                    have hD : va_D A [(om, .inr (6, [.int zt_2, .int zw, .int zh, .ref ozp, .ref ozs, .ref ozb, .int zz, .ref ozl, .ref ozo, .int zc, .int zr, .int zu, .int zv, .int zq, .int zi, .ref ozk, .ref ozm, .int zd, .ref ozg])), (ozp, .inl (cI, 1600, .inl zp)), (ozs, .inl (cI, 320, .inl zs)), (ozb, .inl (cI, 256, .inl zb)), (ozl, .inl (cI, 64, .inl zl)), (ozo, .inl (cI, 64, .inl zo)), (ozk, .inl (cI, 320, .inl (upd f_45_ozk (((8 : Int32) * x2_35) + x3_45).toNatClampNeg (r_7 + r_9)))), (ozm, .inl (cI, 40, .inl f_45_ozm)), (ozg, .inl (cI, 64, .inl zg))] := hD
                    refine lv_iinc (v := x3_45 + (1 : Int32)) (lv' := [(3, .int (x3_45 + (1 : Int32))), (2, .int x2_35), (0, .ref om), (1, .int a1)]) hx hb dZM_seam_86 hl (k := 0) rfl rfl (by decide) rfl (fun ls hl => ?_)
                    refine lv_goto (tgt := 45) hx hb dZM_seam_89 (by decide) ?_
                    exact ih45 (x3_45 + (1 : Int32)) (upd f_45_ozk (((8 : Int32) * x2_35) + x3_45).toNatClampNeg (r_7 + r_9)) f_45_ozm hw _ _ (hP.sub [0, 1, 2, 3, 4, 5, 6, 7, 8] rfl) (hD.sub [0, 1, 2, 3, 4, 5, 6, 7, 8] (by decide) rfl) hS ls (lv_sub hl [0, 1, 2, 3] rfl)
                  · have hw := hw.1 c_8
                    refine lv_iconst (v := (0 : Int32)) hx hb dZM_seam_71 (by decide) ?_
                    refine lv_goto (tgt := 84) hx hb dZM_seam_72 (by decide) ?_
                    refine lv_iadd hx hb dZM_seam_84 ?_
                    obtain ⟨h_11, hw⟩ := hw
                    refine va_iast hx hb hK hP hD hS 6 0 rfl rfl h_11 dZM_seam_85 (fun H locs hP hD hS => ?_)
                    have hP : va_P (dC, dI) vwCl [(om, .inr (6, [.int zt_2, .int zw, .int zh, .ref ozp, .ref ozs, .ref ozb, .int zz, .ref ozl, .ref ozo, .int zc, .int zr, .int zu, .int zv, .int zq, .int zi, .ref ozk, .ref ozm, .int zd, .ref ozg])), (ozp, .inl (cI, 1600, .inl zp)), (ozs, .inl (cI, 320, .inl zs)), (ozb, .inl (cI, 256, .inl zb)), (ozl, .inl (cI, 64, .inl zl)), (ozo, .inl (cI, 64, .inl zo)), (ozk, .inl (cI, 320, .inl (upd f_45_ozk (((8 : Int32) * x2_35) + x3_45).toNatClampNeg (r_7 + (0 : Int32))))), (ozm, .inl (cI, 40, .inl f_45_ozm)), (ozg, .inl (cI, 64, .inl zg))] H := hP
                    have hD : va_D A [(om, .inr (6, [.int zt_2, .int zw, .int zh, .ref ozp, .ref ozs, .ref ozb, .int zz, .ref ozl, .ref ozo, .int zc, .int zr, .int zu, .int zv, .int zq, .int zi, .ref ozk, .ref ozm, .int zd, .ref ozg])), (ozp, .inl (cI, 1600, .inl zp)), (ozs, .inl (cI, 320, .inl zs)), (ozb, .inl (cI, 256, .inl zb)), (ozl, .inl (cI, 64, .inl zl)), (ozo, .inl (cI, 64, .inl zo)), (ozk, .inl (cI, 320, .inl (upd f_45_ozk (((8 : Int32) * x2_35) + x3_45).toNatClampNeg (r_7 + (0 : Int32))))), (ozm, .inl (cI, 40, .inl f_45_ozm)), (ozg, .inl (cI, 64, .inl zg))] := hD
                    refine lv_iinc (v := x3_45 + (1 : Int32)) (lv' := [(3, .int (x3_45 + (1 : Int32))), (2, .int x2_35), (0, .ref om), (1, .int a1)]) hx hb dZM_seam_86 hl (k := 0) rfl rfl (by decide) rfl (fun ls hl => ?_)
                    refine lv_goto (tgt := 45) hx hb dZM_seam_89 (by decide) ?_
                    exact ih45 (x3_45 + (1 : Int32)) (upd f_45_ozk (((8 : Int32) * x2_35) + x3_45).toNatClampNeg (r_7 + (0 : Int32))) f_45_ozm hw _ _ (hP.sub [0, 1, 2, 3, 4, 5, 6, 7, 8] rfl) (hD.sub [0, 1, 2, 3, 4, 5, 6, 7, 8] (by decide) rfl) hS ls (lv_sub hl [0, 1, 2, 3] rfl)
            obtain ⟨n45, hw⟩ := hw
            refine lp45 _ (fun x3_45e f_45e_ozk f_45e_ozm hw H locs hP hD hS ls hl => ?_) n45 (0 : Int32) f_35_ozk f_35_ozm hw _ _ (hP.sub [0, 1, 2, 3, 4, 5, 6, 7, 8] rfl) (hD.sub [0, 1, 2, 3, 4, 5, 6, 7, 8] (by decide) rfl) hS ls (lv_sub hl [0, 1, 2, 3] rfl)
            refine lv_iinc (v := x2_35 + (1 : Int32)) (lv' := [(2, .int (x2_35 + (1 : Int32))), (3, .int x3_45e), (0, .ref om), (1, .int a1)]) hx hb dZM_seam_92 hl (k := 1) rfl rfl (by decide) rfl (fun ls hl => ?_)
            refine lv_goto (tgt := 35) hx hb dZM_seam_95 (by decide) ?_
            exact ih35 (x2_35 + (1 : Int32)) f_45e_ozk f_45e_ozm hw _ _ (hP.sub [0, 1, 2, 3, 4, 5, 6, 7, 8] rfl) (hD.sub [0, 1, 2, 3, 4, 5, 6, 7, 8] (by decide) rfl) hS ls (lv_sub hl [0, 2, 3] rfl)
      obtain ⟨n35, hw⟩ := hw
      refine lp35 _ (fun x2_35e f_35e_ozk f_35e_ozm hw H locs hP hD hS ls hl => ?_) n35 (0 : Int32) zk zm hw _ _ (hP.sub [0, 1, 2, 3, 4, 5, 6, 7, 8] rfl) (hD.sub [0, 1, 2, 3, 4, 5, 6, 7, 8] (by decide) rfl) hS ls (lv_sub hl [0, 1, 2] rfl)
      refine lv_aload_n hx hb dZM_seam_98 rfl (lv_at hl 1 rfl) ?_
      refine va_get (D := (dC, dI)) (ci := 6) (v := .int zh) (C := RZM) (T := TZM) (N := 19) hx hb hts inZM hown hK hP 0 rfl rfl 2 (by decide) (hts _ mm_620) (fun _ h9 => h9) rfl dZM_seam_99 ?_
      refine lv_iconst (v := (1 : Int32)) hx hb dZM_seam_102 (by decide) ?_
      refine lv_isub hx hb dZM_seam_103 ?_
      refine lv_istore_n (lv' := [(2, .int (zh - (1 : Int32))), (0, .ref om), (1, .int a1)]) hx hb dZM_seam_104 rfl hl (by decide) rfl (fun ls hl => ?_)
      refine lv_iconst (v := (0 : Int32)) hx hb dZM_seam_105 (by decide) ?_
      refine lv_istore_n (lv' := [(3, .int (0 : Int32)), (2, .int (zh - (1 : Int32))), (0, .ref om), (1, .int a1)]) hx hb dZM_seam_106 rfl hl (by decide) rfl (fun ls hl => ?_)
      refine lv_iconst (v := (1 : Int32)) hx hb dZM_seam_107 (by decide) ?_
      refine lv_istore (lv' := [(4, .int (1 : Int32)), (3, .int (0 : Int32)), (2, .int (zh - (1 : Int32))), (0, .ref om), (1, .int a1)]) hx hb dZM_seam_108 hl (by decide) rfl (fun ls hl => ?_)
      have lp110 : ∀ K110 : Int32 → Int32 → Prop, (∀ (x3_110 : Int32) (x4_110 : Int32), K110 x3_110 x4_110 → ∀ (H : Heap) (locs : List Loc), va_P (dC, dI) vwCl [(om, .inr (6, [.int zt_2, .int zw, .int zh, .ref ozp, .ref ozs, .ref ozb, .int zz, .ref ozl, .ref ozo, .int zc, .int zr, .int zu, .int zv, .int zq, .int zi, .ref ozk, .ref ozm, .int zd, .ref ozg])), (ozp, .inl (cI, 1600, .inl zp)), (ozs, .inl (cI, 320, .inl zs)), (ozb, .inl (cI, 256, .inl zb)), (ozl, .inl (cI, 64, .inl zl)), (ozo, .inl (cI, 64, .inl zo)), (ozk, .inl (cI, 320, .inl f_35e_ozk)), (ozm, .inl (cI, 40, .inl f_35e_ozm)), (ozg, .inl (cI, 64, .inl zg))] H → va_D A [(om, .inr (6, [.int zt_2, .int zw, .int zh, .ref ozp, .ref ozs, .ref ozb, .int zz, .ref ozl, .ref ozo, .int zc, .int zr, .int zu, .int zv, .int zq, .int zi, .ref ozk, .ref ozm, .int zd, .ref ozg])), (ozp, .inl (cI, 1600, .inl zp)), (ozs, .inl (cI, 320, .inl zs)), (ozb, .inl (cI, 256, .inl zb)), (ozl, .inl (cI, 64, .inl zl)), (ozo, .inl (cI, 64, .inl zo)), (ozk, .inl (cI, 320, .inl f_35e_ozk)), (ozm, .inl (cI, 40, .inl f_35e_ozm)), (ozg, .inl (cI, 64, .inl zg))] → va_S A s.heap H locs → ∀ ls : Array Slot, lv_has ls 6 [(4, .int x4_110), (3, .int x3_110), (2, .int (zh - (1 : Int32))), (0, .ref om), (1, .int a1)] → W p l e (headSpec wsZM_seam rm_ZM_seam).room s m args below meth c H locs 0 0 Q9 (F0 m 147 ls [])) → ∀ (n : Nat) (x3_110 : Int32) (x4_110 : Int32), lp_ZM_seam_110 zt zw zh zp zs zb zz zl zo zc zr zu zv zq zi zk zm zd zg a1 r_1 t0_j24 r_3 zt_2 x2_35e f_35e_ozk f_35e_ozm post K110 n x3_110 x4_110 → ∀ (H : Heap) (locs : List Loc), va_P (dC, dI) vwCl [(om, .inr (6, [.int zt_2, .int zw, .int zh, .ref ozp, .ref ozs, .ref ozb, .int zz, .ref ozl, .ref ozo, .int zc, .int zr, .int zu, .int zv, .int zq, .int zi, .ref ozk, .ref ozm, .int zd, .ref ozg])), (ozp, .inl (cI, 1600, .inl zp)), (ozs, .inl (cI, 320, .inl zs)), (ozb, .inl (cI, 256, .inl zb)), (ozl, .inl (cI, 64, .inl zl)), (ozo, .inl (cI, 64, .inl zo)), (ozk, .inl (cI, 320, .inl f_35e_ozk)), (ozm, .inl (cI, 40, .inl f_35e_ozm)), (ozg, .inl (cI, 64, .inl zg))] H → va_D A [(om, .inr (6, [.int zt_2, .int zw, .int zh, .ref ozp, .ref ozs, .ref ozb, .int zz, .ref ozl, .ref ozo, .int zc, .int zr, .int zu, .int zv, .int zq, .int zi, .ref ozk, .ref ozm, .int zd, .ref ozg])), (ozp, .inl (cI, 1600, .inl zp)), (ozs, .inl (cI, 320, .inl zs)), (ozb, .inl (cI, 256, .inl zb)), (ozl, .inl (cI, 64, .inl zl)), (ozo, .inl (cI, 64, .inl zo)), (ozk, .inl (cI, 320, .inl f_35e_ozk)), (ozm, .inl (cI, 40, .inl f_35e_ozm)), (ozg, .inl (cI, 64, .inl zg))] → va_S A s.heap H locs → ∀ ls : Array Slot, lv_has ls 6 [(4, .int x4_110), (3, .int x3_110), (2, .int (zh - (1 : Int32))), (0, .ref om), (1, .int a1)] → W p l e (headSpec wsZM_seam rm_ZM_seam).room s m args below meth c H locs 0 0 Q9 (F0 m 110 ls []) := by
        intro K110 aft110 n
        induction n with
        | zero => intro x3_110 x4_110 hw; exact False.elim hw
        | succ n ih110 =>
          intro x3_110 x4_110 hw H locs hP hD hS ls hl
          refine lv_iload hx hb dZM_seam_110 (lv_at hl 0 rfl) ?_
          refine lv_iload_n hx hb dZM_seam_112 rfl (lv_at hl 4 rfl) ?_
          refine lv_icmp_ge (tgt := 147) hx hb dZM_seam_113 (by decide) (fun c_12 => ?_) (fun c_12 => ?_)
          · have hw := hw.1 c_12
            exact aft110 x3_110 x4_110 hw _ _ (hP.sub [0, 1, 2, 3, 4, 5, 6, 7, 8] rfl) (hD.sub [0, 1, 2, 3, 4, 5, 6, 7, 8] (by decide) rfl) hS ls (lv_sub hl [0, 1, 2, 3, 4] rfl)
          · have hw := hw.2 c_12
            refine lv_aload_n hx hb dZM_seam_116 rfl (lv_at hl 3 rfl) ?_
            refine lv_iload_n hx hb dZM_seam_117 rfl (lv_at hl 2 rfl) ?_
            refine lv_iload hx hb dZM_seam_118 (lv_at hl 0 rfl) ?_
            refine lv_iload_n hx hb dZM_seam_120 rfl (lv_at hl 4 rfl) ?_
            refine vp_callSi (va_runV (As := [.int (zh - (1 : Int32)), .int x4_110, .int a1]) (rest := []) ⟨hx, hb, hml, hown, hts⟩ (kt_ZM_cost l dC dI cI om ozp ozs ozb ozl ozo ozk ozm ozg zt_2 zw zh zp zs zb zz zl zo zc zr zu zv zq zi f_35e_ozk f_35e_ozm zd zg (zh - (1 : Int32)) x4_110 a1 _ hw) (cwV 3 hts (tb_V mm_856 mm_858 mp_24 mm_8 mm_859) rfl rfl rfl (by decide +kernel) ⟨Nat.le_of_ble_eq_true rfl, Nat.le_of_ble_eq_true rfl⟩) ⟨gr_blind, va_recv hK hP (ci := 6) (q0 := 0) rfl rfl, fun U hU hW => gr_pre hP hK hE hU hW⟩ rfl rfl hl.1 rfl (lv_room (Nat.le_of_ble_eq_true rfl)) dZM_seam_121 ⟨Nat.le_of_ble_eq_true rfl, Nat.le_of_ble_eq_true rfl⟩).run (fun r_13 hw => ?_)
            refine lv_aload_n hx hb dZM_seam_124 rfl (lv_at hl 3 rfl) ?_
            refine lv_iload_n hx hb dZM_seam_125 rfl (lv_at hl 2 rfl) ?_
            refine lv_iload_n hx hb dZM_seam_126 rfl (lv_at hl 1 rfl) ?_
            refine lv_iload_n hx hb dZM_seam_127 rfl (lv_at hl 4 rfl) ?_
            refine vp_callSi (va_runV (As := [.int (zh - (1 : Int32)), .int x3_110, .int a1]) (rest := [.int r_13]) ⟨hx, hb, hml, hown, hts⟩ (kt_ZM_cost l dC dI cI om ozp ozs ozb ozl ozo ozk ozm ozg zt_2 zw zh zp zs zb zz zl zo zc zr zu zv zq zi f_35e_ozk f_35e_ozm zd zg (zh - (1 : Int32)) x3_110 a1 _ hw) (cwV 3 hts (tb_V mm_856 mm_858 mp_24 mm_8 mm_859) rfl rfl rfl (by decide +kernel) ⟨Nat.le_of_ble_eq_true rfl, Nat.le_of_ble_eq_true rfl⟩) ⟨gr_blind, va_recv hK hP (ci := 6) (q0 := 0) rfl rfl, fun U hU hW => gr_pre hP hK hE hU hW⟩ rfl rfl hl.1 rfl (lv_room (Nat.le_of_ble_eq_true rfl)) dZM_seam_128 ⟨Nat.le_of_ble_eq_true rfl, Nat.le_of_ble_eq_true rfl⟩).run (fun r_14 hw => ?_)
            refine lv_icmp_ge (tgt := 139) hx hb dZM_seam_131 (by decide) (fun c_15 => ?_) (fun c_15 => ?_)
            · have hw := hw.1 c_15
              refine lv_iload_n hx hb dZM_seam_139 rfl (lv_at hl 1 rfl) ?_
              refine lv_istore_n (lv' := [(3, .int x3_110), (4, .int x4_110), (2, .int (zh - (1 : Int32))), (0, .ref om), (1, .int a1)]) hx hb dZM_seam_140 rfl hl (by decide) rfl (fun ls hl => ?_)
              refine lv_iinc (v := x4_110 + (1 : Int32)) (lv' := [(4, .int (x4_110 + (1 : Int32))), (3, .int x3_110), (2, .int (zh - (1 : Int32))), (0, .ref om), (1, .int a1)]) hx hb dZM_seam_141 hl (k := 1) rfl rfl (by decide) rfl (fun ls hl => ?_)
              refine lv_goto (tgt := 110) hx hb dZM_seam_144 (by decide) ?_
              exact ih110 x3_110 (x4_110 + (1 : Int32)) hw _ _ (hP.sub [0, 1, 2, 3, 4, 5, 6, 7, 8] rfl) (hD.sub [0, 1, 2, 3, 4, 5, 6, 7, 8] (by decide) rfl) hS ls (lv_sub hl [0, 1, 2, 3, 4] rfl)
            · have hw := hw.2 c_15
              refine lv_iload hx hb dZM_seam_134 (lv_at hl 0 rfl) ?_
              refine lv_goto (tgt := 140) hx hb dZM_seam_136 (by decide) ?_
              refine lv_istore_n (lv' := [(3, .int x4_110), (4, .int x4_110), (2, .int (zh - (1 : Int32))), (0, .ref om), (1, .int a1)]) hx hb dZM_seam_140 rfl hl (by decide) rfl (fun ls hl => ?_)
              refine lv_iinc (v := x4_110 + (1 : Int32)) (lv' := [(4, .int (x4_110 + (1 : Int32))), (3, .int x4_110), (2, .int (zh - (1 : Int32))), (0, .ref om), (1, .int a1)]) hx hb dZM_seam_141 hl (k := 1) rfl rfl (by decide) rfl (fun ls hl => ?_)
              refine lv_goto (tgt := 110) hx hb dZM_seam_144 (by decide) ?_
              exact ih110 x4_110 (x4_110 + (1 : Int32)) hw _ _ (hP.sub [0, 1, 2, 3, 4, 5, 6, 7, 8] rfl) (hD.sub [0, 1, 2, 3, 4, 5, 6, 7, 8] (by decide) rfl) hS ls (lv_sub hl [0, 1, 2, 3, 4] rfl)
      obtain ⟨n110, hw⟩ := hw
      refine lp110 _ (fun x3_110e x4_110e hw H locs hP hD hS ls hl => ?_) n110 (0 : Int32) (1 : Int32) hw _ _ (hP.sub [0, 1, 2, 3, 4, 5, 6, 7, 8] rfl) (hD.sub [0, 1, 2, 3, 4, 5, 6, 7, 8] (by decide) rfl) hS ls (lv_sub hl [0, 1, 2, 3, 4] rfl)
      refine lv_aload_n hx hb dZM_seam_147 rfl (lv_at hl 3 rfl) ?_
      refine va_get (D := (dC, dI)) (ci := 6) (v := .ref ozm) (C := RZM) (T := TZM) (N := 19) hx hb hts inZM hown hK hP 0 rfl rfl 16 (by decide) (hts _ mm_633) (fun _ h9 => h9) rfl dZM_seam_148 ?_
      refine lv_iload_n hx hb dZM_seam_151 rfl (lv_at hl 2 rfl) ?_
      refine lv_iload_n hx hb dZM_seam_152 rfl (lv_at hl 1 rfl) ?_
      obtain ⟨h_16, hw⟩ := hw
      refine va_iast hx hb hK hP hD hS 7 0 rfl rfl h_16 dZM_seam_153 (fun H locs hP hD hS => ?_)
      have hP : va_P (dC, dI) vwCl [(om, .inr (6, [.int zt_2, .int zw, .int zh, .ref ozp, .ref ozs, .ref ozb, .int zz, .ref ozl, .ref ozo, .int zc, .int zr, .int zu, .int zv, .int zq, .int zi, .ref ozk, .ref ozm, .int zd, .ref ozg])), (ozp, .inl (cI, 1600, .inl zp)), (ozs, .inl (cI, 320, .inl zs)), (ozb, .inl (cI, 256, .inl zb)), (ozl, .inl (cI, 64, .inl zl)), (ozo, .inl (cI, 64, .inl zo)), (ozk, .inl (cI, 320, .inl f_35e_ozk)), (ozm, .inl (cI, 40, .inl (upd f_35e_ozm (zh - (1 : Int32)).toNatClampNeg x3_110e))), (ozg, .inl (cI, 64, .inl zg))] H := hP
      have hD : va_D A [(om, .inr (6, [.int zt_2, .int zw, .int zh, .ref ozp, .ref ozs, .ref ozb, .int zz, .ref ozl, .ref ozo, .int zc, .int zr, .int zu, .int zv, .int zq, .int zi, .ref ozk, .ref ozm, .int zd, .ref ozg])), (ozp, .inl (cI, 1600, .inl zp)), (ozs, .inl (cI, 320, .inl zs)), (ozb, .inl (cI, 256, .inl zb)), (ozl, .inl (cI, 64, .inl zl)), (ozo, .inl (cI, 64, .inl zo)), (ozk, .inl (cI, 320, .inl f_35e_ozk)), (ozm, .inl (cI, 40, .inl (upd f_35e_ozm (zh - (1 : Int32)).toNatClampNeg x3_110e))), (ozg, .inl (cI, 64, .inl zg))] := hD
      refine lv_iload_n hx hb dZM_seam_154 rfl (lv_at hl 2 rfl) ?_
      refine lv_iconst (v := (1 : Int32)) hx hb dZM_seam_155 (by decide) ?_
      refine lv_isub hx hb dZM_seam_156 ?_
      refine lv_istore (lv' := [(4, .int ((zh - (1 : Int32)) - (1 : Int32))), (3, .int x3_110e), (2, .int (zh - (1 : Int32))), (0, .ref om), (1, .int a1)]) hx hb dZM_seam_157 hl (by decide) rfl (fun ls hl => ?_)
      have lp159 : ∀ K159 : Int32 → (Nat → Int32) → (Nat → Int32) → Prop, (∀ (x4_159 : Int32) (f_159_ozk : Nat → Int32) (f_159_ozm : Nat → Int32), K159 x4_159 f_159_ozk f_159_ozm → ∀ (H : Heap) (locs : List Loc), va_P (dC, dI) vwCl [(om, .inr (6, [.int zt_2, .int zw, .int zh, .ref ozp, .ref ozs, .ref ozb, .int zz, .ref ozl, .ref ozo, .int zc, .int zr, .int zu, .int zv, .int zq, .int zi, .ref ozk, .ref ozm, .int zd, .ref ozg])), (ozp, .inl (cI, 1600, .inl zp)), (ozs, .inl (cI, 320, .inl zs)), (ozb, .inl (cI, 256, .inl zb)), (ozl, .inl (cI, 64, .inl zl)), (ozo, .inl (cI, 64, .inl zo)), (ozk, .inl (cI, 320, .inl f_159_ozk)), (ozm, .inl (cI, 40, .inl f_159_ozm)), (ozg, .inl (cI, 64, .inl zg))] H → va_D A [(om, .inr (6, [.int zt_2, .int zw, .int zh, .ref ozp, .ref ozs, .ref ozb, .int zz, .ref ozl, .ref ozo, .int zc, .int zr, .int zu, .int zv, .int zq, .int zi, .ref ozk, .ref ozm, .int zd, .ref ozg])), (ozp, .inl (cI, 1600, .inl zp)), (ozs, .inl (cI, 320, .inl zs)), (ozb, .inl (cI, 256, .inl zb)), (ozl, .inl (cI, 64, .inl zl)), (ozo, .inl (cI, 64, .inl zo)), (ozk, .inl (cI, 320, .inl f_159_ozk)), (ozm, .inl (cI, 40, .inl f_159_ozm)), (ozg, .inl (cI, 64, .inl zg))] → va_S A s.heap H locs → ∀ ls : Array Slot, lv_has ls 6 [(4, .int x4_159), (3, .int x3_110e), (2, .int (zh - (1 : Int32))), (0, .ref om), (1, .int a1)] → W p l e (headSpec wsZM_seam rm_ZM_seam).room s m args below meth c H locs 0 0 Q9 (F0 m 226 ls [])) → ∀ (n : Nat) (x4_159 : Int32) (f_159_ozk : Nat → Int32) (f_159_ozm : Nat → Int32), lp_ZM_seam_159 zt zw zh zp zs zb zz zl zo zc zr zu zv zq zi zk zm zd zg a1 r_1 t0_j24 r_3 zt_2 x2_35e f_35e_ozk f_35e_ozm x3_110e x4_110e post K159 n x4_159 f_159_ozk f_159_ozm → ∀ (H : Heap) (locs : List Loc), va_P (dC, dI) vwCl [(om, .inr (6, [.int zt_2, .int zw, .int zh, .ref ozp, .ref ozs, .ref ozb, .int zz, .ref ozl, .ref ozo, .int zc, .int zr, .int zu, .int zv, .int zq, .int zi, .ref ozk, .ref ozm, .int zd, .ref ozg])), (ozp, .inl (cI, 1600, .inl zp)), (ozs, .inl (cI, 320, .inl zs)), (ozb, .inl (cI, 256, .inl zb)), (ozl, .inl (cI, 64, .inl zl)), (ozo, .inl (cI, 64, .inl zo)), (ozk, .inl (cI, 320, .inl f_159_ozk)), (ozm, .inl (cI, 40, .inl f_159_ozm)), (ozg, .inl (cI, 64, .inl zg))] H → va_D A [(om, .inr (6, [.int zt_2, .int zw, .int zh, .ref ozp, .ref ozs, .ref ozb, .int zz, .ref ozl, .ref ozo, .int zc, .int zr, .int zu, .int zv, .int zq, .int zi, .ref ozk, .ref ozm, .int zd, .ref ozg])), (ozp, .inl (cI, 1600, .inl zp)), (ozs, .inl (cI, 320, .inl zs)), (ozb, .inl (cI, 256, .inl zb)), (ozl, .inl (cI, 64, .inl zl)), (ozo, .inl (cI, 64, .inl zo)), (ozk, .inl (cI, 320, .inl f_159_ozk)), (ozm, .inl (cI, 40, .inl f_159_ozm)), (ozg, .inl (cI, 64, .inl zg))] → va_S A s.heap H locs → ∀ ls : Array Slot, lv_has ls 6 [(4, .int x4_159), (3, .int x3_110e), (2, .int (zh - (1 : Int32))), (0, .ref om), (1, .int a1)] → W p l e (headSpec wsZM_seam rm_ZM_seam).room s m args below meth c H locs 0 0 Q9 (F0 m 159 ls []) := by
        intro K159 aft159 n
        induction n with
        | zero => intro x4_159 f_159_ozk f_159_ozm hw; exact False.elim hw
        | succ n ih159 =>
          intro x4_159 f_159_ozk f_159_ozm hw H locs hP hD hS ls hl
          refine lv_iload hx hb dZM_seam_159 (lv_at hl 0 rfl) ?_
          refine lv_if_lt (tgt := 226) hx hb dZM_seam_161 (by decide) (fun c_17 => ?_) (fun c_17 => ?_)
          · have hw := hw.1 c_17
            exact aft159 x4_159 f_159_ozk f_159_ozm hw _ _ (hP.sub [0, 1, 2, 3, 4, 5, 6, 7, 8] rfl) (hD.sub [0, 1, 2, 3, 4, 5, 6, 7, 8] (by decide) rfl) hS ls (lv_sub hl [0, 1, 2, 3, 4] rfl)
          · have hw := hw.2 c_17
            refine lv_aload_n hx hb dZM_seam_164 rfl (lv_at hl 3 rfl) ?_
            refine va_get (D := (dC, dI)) (ci := 6) (v := .ref ozm) (C := RZM) (T := TZM) (N := 19) hx hb hts inZM hown hK hP 0 rfl rfl 16 (by decide) (hts _ mm_633) (fun _ h9 => h9) rfl dZM_seam_165 ?_
            refine lv_iload hx hb dZM_seam_168 (lv_at hl 0 rfl) ?_
            refine lv_iconst (v := (1 : Int32)) hx hb dZM_seam_170 (by decide) ?_
            refine lv_iadd hx hb dZM_seam_171 ?_
            obtain ⟨h_18, hw⟩ := hw
            refine va_iald hx hb hK hP 7 0 rfl rfl h_18 dZM_seam_172 ?_
            refine lv_iconst (v := (1 : Int32)) hx hb dZM_seam_173 (by decide) ?_
            refine lv_isub hx hb dZM_seam_174 ?_
            refine lv_istore (lv' := [(5, .int ((f_159_ozm (x4_159 + (1 : Int32)).toNatClampNeg) - (1 : Int32))), (4, .int x4_159), (3, .int x3_110e), (2, .int (zh - (1 : Int32))), (0, .ref om), (1, .int a1)]) hx hb dZM_seam_175 hl (by decide) rfl (fun ls hl => ?_)
            have lp177 : ∀ K177 : Int32 → Prop, (∀ (x5_177 : Int32), K177 x5_177 → ∀ (H : Heap) (locs : List Loc), va_P (dC, dI) vwCl [(om, .inr (6, [.int zt_2, .int zw, .int zh, .ref ozp, .ref ozs, .ref ozb, .int zz, .ref ozl, .ref ozo, .int zc, .int zr, .int zu, .int zv, .int zq, .int zi, .ref ozk, .ref ozm, .int zd, .ref ozg])), (ozp, .inl (cI, 1600, .inl zp)), (ozs, .inl (cI, 320, .inl zs)), (ozb, .inl (cI, 256, .inl zb)), (ozl, .inl (cI, 64, .inl zl)), (ozo, .inl (cI, 64, .inl zo)), (ozk, .inl (cI, 320, .inl f_159_ozk)), (ozm, .inl (cI, 40, .inl f_159_ozm)), (ozg, .inl (cI, 64, .inl zg))] H → va_D A [(om, .inr (6, [.int zt_2, .int zw, .int zh, .ref ozp, .ref ozs, .ref ozb, .int zz, .ref ozl, .ref ozo, .int zc, .int zr, .int zu, .int zv, .int zq, .int zi, .ref ozk, .ref ozm, .int zd, .ref ozg])), (ozp, .inl (cI, 1600, .inl zp)), (ozs, .inl (cI, 320, .inl zs)), (ozb, .inl (cI, 256, .inl zb)), (ozl, .inl (cI, 64, .inl zl)), (ozo, .inl (cI, 64, .inl zo)), (ozk, .inl (cI, 320, .inl f_159_ozk)), (ozm, .inl (cI, 40, .inl f_159_ozm)), (ozg, .inl (cI, 64, .inl zg))] → va_S A s.heap H locs → ∀ ls : Array Slot, lv_has ls 6 [(5, .int x5_177), (4, .int x4_159), (3, .int x3_110e), (2, .int (zh - (1 : Int32))), (0, .ref om), (1, .int a1)] → W p l e (headSpec wsZM_seam rm_ZM_seam).room s m args below meth c H locs 0 0 Q9 (F0 m 211 ls [])) → ∀ (n : Nat) (x5_177 : Int32), lp_ZM_seam_177 zt zw zh zp zs zb zz zl zo zc zr zu zv zq zi zk zm zd zg a1 r_1 t0_j24 r_3 zt_2 x2_35e f_35e_ozk f_35e_ozm x3_110e x4_110e x4_159 f_159_ozk f_159_ozm post K177 n x5_177 → ∀ (H : Heap) (locs : List Loc), va_P (dC, dI) vwCl [(om, .inr (6, [.int zt_2, .int zw, .int zh, .ref ozp, .ref ozs, .ref ozb, .int zz, .ref ozl, .ref ozo, .int zc, .int zr, .int zu, .int zv, .int zq, .int zi, .ref ozk, .ref ozm, .int zd, .ref ozg])), (ozp, .inl (cI, 1600, .inl zp)), (ozs, .inl (cI, 320, .inl zs)), (ozb, .inl (cI, 256, .inl zb)), (ozl, .inl (cI, 64, .inl zl)), (ozo, .inl (cI, 64, .inl zo)), (ozk, .inl (cI, 320, .inl f_159_ozk)), (ozm, .inl (cI, 40, .inl f_159_ozm)), (ozg, .inl (cI, 64, .inl zg))] H → va_D A [(om, .inr (6, [.int zt_2, .int zw, .int zh, .ref ozp, .ref ozs, .ref ozb, .int zz, .ref ozl, .ref ozo, .int zc, .int zr, .int zu, .int zv, .int zq, .int zi, .ref ozk, .ref ozm, .int zd, .ref ozg])), (ozp, .inl (cI, 1600, .inl zp)), (ozs, .inl (cI, 320, .inl zs)), (ozb, .inl (cI, 256, .inl zb)), (ozl, .inl (cI, 64, .inl zl)), (ozo, .inl (cI, 64, .inl zo)), (ozk, .inl (cI, 320, .inl f_159_ozk)), (ozm, .inl (cI, 40, .inl f_159_ozm)), (ozg, .inl (cI, 64, .inl zg))] → va_S A s.heap H locs → ∀ ls : Array Slot, lv_has ls 6 [(5, .int x5_177), (4, .int x4_159), (3, .int x3_110e), (2, .int (zh - (1 : Int32))), (0, .ref om), (1, .int a1)] → W p l e (headSpec wsZM_seam rm_ZM_seam).room s m args below meth c H locs 0 0 Q9 (F0 m 177 ls []) := by
              intro K177 aft177 n
              induction n with
              | zero => intro x5_177 hw; exact False.elim hw
              | succ n ih177 =>
                intro x5_177 hw H locs hP hD hS ls hl
                have hw : wp_ZM_cost zt_2 zw zh zp zs zb zz zl zo zc zr zu zv zq zi f_159_ozk f_159_ozm zd zg x4_159 x5_177 a1 (fun r_19 : Int32 => vp_in (x4_159 + (1 : Int32)) 40 ∧ (wp_ZM_leastAround zt_2 zw zh zp zs zb zz zl zo zc zr zu zv zq zi f_159_ozk f_159_ozm zd zg x4_159 (f_159_ozm (x4_159 + (1 : Int32)).toNatClampNeg) a1 (fun r_21 : Int32 => ((r_19 = r_21 → (K177 x5_177)) ∧ (¬ r_19 = r_21 → (lp_ZM_seam_177 zt zw zh zp zs zb zz zl zo zc zr zu zv zq zi zk zm zd zg a1 r_1 t0_j24 r_3 zt_2 x2_35e f_35e_ozk f_35e_ozm x3_110e x4_110e x4_159 f_159_ozk f_159_ozm post K177 n (x5_177 + (1 : Int32)))))))) := hw
                refine lv_aload_n hx hb dZM_seam_177 rfl (lv_at hl 4 rfl) ?_
                refine lv_iload hx hb dZM_seam_178 (lv_at hl 1 rfl) ?_
                refine lv_iload hx hb dZM_seam_180 (lv_at hl 0 rfl) ?_
                refine lv_iload_n hx hb dZM_seam_182 rfl (lv_at hl 5 rfl) ?_
                refine vp_callSi (va_runV (As := [.int x4_159, .int x5_177, .int a1]) (rest := []) ⟨hx, hb, hml, hown, hts⟩ (kt_ZM_cost l dC dI cI om ozp ozs ozb ozl ozo ozk ozm ozg zt_2 zw zh zp zs zb zz zl zo zc zr zu zv zq zi f_159_ozk f_159_ozm zd zg x4_159 x5_177 a1 _ hw) (cwV 3 hts (tb_V mm_856 mm_858 mp_24 mm_8 mm_859) rfl rfl rfl (by decide +kernel) ⟨Nat.le_of_ble_eq_true rfl, Nat.le_of_ble_eq_true rfl⟩) ⟨gr_blind, va_recv hK hP (ci := 6) (q0 := 0) rfl rfl, fun U hU hW => gr_pre hP hK hE hU hW⟩ rfl rfl hl.1 rfl (lv_room (Nat.le_of_ble_eq_true rfl)) dZM_seam_183 ⟨Nat.le_of_ble_eq_true rfl, Nat.le_of_ble_eq_true rfl⟩).run (fun r_19 hw => ?_)
                refine lv_aload_n hx hb dZM_seam_186 rfl (lv_at hl 4 rfl) ?_
                refine lv_iload hx hb dZM_seam_187 (lv_at hl 1 rfl) ?_
                refine lv_aload_n hx hb dZM_seam_189 rfl (lv_at hl 4 rfl) ?_
                refine va_get (D := (dC, dI)) (ci := 6) (v := .ref ozm) (C := RZM) (T := TZM) (N := 19) hx hb hts inZM hown hK hP 0 rfl rfl 16 (by decide) (hts _ mm_633) (fun _ h9 => h9) rfl dZM_seam_190 ?_
                refine lv_iload hx hb dZM_seam_193 (lv_at hl 1 rfl) ?_
                refine lv_iconst (v := (1 : Int32)) hx hb dZM_seam_195 (by decide) ?_
                refine lv_iadd hx hb dZM_seam_196 ?_
                obtain ⟨h_20, hw⟩ := hw
                refine va_iald hx hb hK hP 7 0 rfl rfl h_20 dZM_seam_197 ?_
                refine lv_iload_n hx hb dZM_seam_198 rfl (lv_at hl 5 rfl) ?_
                refine vp_callSi (va_runV (As := [.int x4_159, .int (f_159_ozm (x4_159 + (1 : Int32)).toNatClampNeg), .int a1]) (rest := [.int r_19]) ⟨hx, hb, hml, hown, hts⟩ (kt_ZM_leastAround l dC dI cI om ozp ozs ozb ozl ozo ozk ozm ozg zt_2 zw zh zp zs zb zz zl zo zc zr zu zv zq zi f_159_ozk f_159_ozm zd zg x4_159 (f_159_ozm (x4_159 + (1 : Int32)).toNatClampNeg) a1 _ hw) (cwV 3 hts (tb_V mm_852 mm_854 mp_23 mm_8 mm_855) rfl rfl rfl (by decide +kernel) ⟨Nat.le_of_ble_eq_true rfl, Nat.le_of_ble_eq_true rfl⟩) ⟨gr_blind, va_recv hK hP (ci := 6) (q0 := 0) rfl rfl, fun U hU hW => gr_pre hP hK hE hU hW⟩ rfl rfl hl.1 rfl (lv_room (Nat.le_of_ble_eq_true rfl)) dZM_seam_199 ⟨Nat.le_of_ble_eq_true rfl, Nat.le_of_ble_eq_true rfl⟩).run (fun r_21 hw => ?_)
                refine lv_icmp_eq (tgt := 211) hx hb dZM_seam_202 (by decide) (fun c_22 => ?_) (fun c_22 => ?_)
                · have hw := hw.1 c_22
                  exact aft177 x5_177 hw _ _ (hP.sub [0, 1, 2, 3, 4, 5, 6, 7, 8] rfl) (hD.sub [0, 1, 2, 3, 4, 5, 6, 7, 8] (by decide) rfl) hS ls (lv_sub hl [0, 1, 2, 3, 4, 5] rfl)
                · have hw := hw.2 c_22
                  refine lv_iinc (v := x5_177 + (1 : Int32)) (lv' := [(5, .int (x5_177 + (1 : Int32))), (4, .int x4_159), (3, .int x3_110e), (2, .int (zh - (1 : Int32))), (0, .ref om), (1, .int a1)]) hx hb dZM_seam_205 hl (k := 0) rfl rfl (by decide) rfl (fun ls hl => ?_)
                  refine lv_goto (tgt := 177) hx hb dZM_seam_208 (by decide) ?_
                  exact ih177 (x5_177 + (1 : Int32)) hw _ _ (hP.sub [0, 1, 2, 3, 4, 5, 6, 7, 8] rfl) (hD.sub [0, 1, 2, 3, 4, 5, 6, 7, 8] (by decide) rfl) hS ls (lv_sub hl [0, 1, 2, 3, 4, 5] rfl)
            obtain ⟨n177, hw⟩ := hw
            refine lp177 _ (fun x5_177e hw H locs hP hD hS ls hl => ?_) n177 ((f_159_ozm (x4_159 + (1 : Int32)).toNatClampNeg) - (1 : Int32)) hw _ _ (hP.sub [0, 1, 2, 3, 4, 5, 6, 7, 8] rfl) (hD.sub [0, 1, 2, 3, 4, 5, 6, 7, 8] (by decide) rfl) hS ls (lv_sub hl [0, 1, 2, 3, 4, 5] rfl)
            refine lv_aload_n hx hb dZM_seam_211 rfl (lv_at hl 4 rfl) ?_
            refine va_get (D := (dC, dI)) (ci := 6) (v := .ref ozm) (C := RZM) (T := TZM) (N := 19) hx hb hts inZM hown hK hP 0 rfl rfl 16 (by decide) (hts _ mm_633) (fun _ h9 => h9) rfl dZM_seam_212 ?_
            refine lv_iload hx hb dZM_seam_215 (lv_at hl 1 rfl) ?_
            refine lv_iload hx hb dZM_seam_217 (lv_at hl 0 rfl) ?_
            obtain ⟨h_23, hw⟩ := hw
            refine va_iast hx hb hK hP hD hS 7 0 rfl rfl h_23 dZM_seam_219 (fun H locs hP hD hS => ?_)
            have hP : va_P (dC, dI) vwCl [(om, .inr (6, [.int zt_2, .int zw, .int zh, .ref ozp, .ref ozs, .ref ozb, .int zz, .ref ozl, .ref ozo, .int zc, .int zr, .int zu, .int zv, .int zq, .int zi, .ref ozk, .ref ozm, .int zd, .ref ozg])), (ozp, .inl (cI, 1600, .inl zp)), (ozs, .inl (cI, 320, .inl zs)), (ozb, .inl (cI, 256, .inl zb)), (ozl, .inl (cI, 64, .inl zl)), (ozo, .inl (cI, 64, .inl zo)), (ozk, .inl (cI, 320, .inl f_159_ozk)), (ozm, .inl (cI, 40, .inl (upd f_159_ozm x4_159.toNatClampNeg x5_177e))), (ozg, .inl (cI, 64, .inl zg))] H := hP
            have hD : va_D A [(om, .inr (6, [.int zt_2, .int zw, .int zh, .ref ozp, .ref ozs, .ref ozb, .int zz, .ref ozl, .ref ozo, .int zc, .int zr, .int zu, .int zv, .int zq, .int zi, .ref ozk, .ref ozm, .int zd, .ref ozg])), (ozp, .inl (cI, 1600, .inl zp)), (ozs, .inl (cI, 320, .inl zs)), (ozb, .inl (cI, 256, .inl zb)), (ozl, .inl (cI, 64, .inl zl)), (ozo, .inl (cI, 64, .inl zo)), (ozk, .inl (cI, 320, .inl f_159_ozk)), (ozm, .inl (cI, 40, .inl (upd f_159_ozm x4_159.toNatClampNeg x5_177e))), (ozg, .inl (cI, 64, .inl zg))] := hD
            refine lv_iinc (v := x4_159 + (-1 : Int32)) (lv' := [(4, .int (x4_159 + (-1 : Int32))), (5, .int x5_177e), (3, .int x3_110e), (2, .int (zh - (1 : Int32))), (0, .ref om), (1, .int a1)]) hx hb dZM_seam_220 hl (k := 1) rfl rfl (by decide) rfl (fun ls hl => ?_)
            refine lv_goto (tgt := 159) hx hb dZM_seam_223 (by decide) ?_
            exact ih159 (x4_159 + (-1 : Int32)) f_159_ozk (upd f_159_ozm x4_159.toNatClampNeg x5_177e) hw _ _ (hP.sub [0, 1, 2, 3, 4, 5, 6, 7, 8] rfl) (hD.sub [0, 1, 2, 3, 4, 5, 6, 7, 8] (by decide) rfl) hS ls (lv_sub hl [0, 2, 3, 4, 5] rfl)
      obtain ⟨n159, hw⟩ := hw
      refine lp159 _ (fun x4_159e f_159e_ozk f_159e_ozm hw H locs hP hD hS ls hl => ?_) n159 ((zh - (1 : Int32)) - (1 : Int32)) f_35e_ozk (upd f_35e_ozm (zh - (1 : Int32)).toNatClampNeg x3_110e) hw _ _ (hP.sub [0, 1, 2, 3, 4, 5, 6, 7, 8] rfl) (hD.sub [0, 1, 2, 3, 4, 5, 6, 7, 8] (by decide) rfl) hS ls (lv_sub hl [0, 1, 2, 3, 4] rfl)
      refine lv_aload_n hx hb dZM_seam_226 rfl (lv_at hl 3 rfl) ?_
      refine lv_iconst (v := (1 : Int32)) hx hb dZM_seam_227 (by decide) ?_
      refine va_put (D := (dC, dI)) (ci := 6) (v := .int (1 : Int32)) (ty := .boolean) (C := RZM) (T := TZM) (N := 19) hx hb hts inZM tyZM tyZM_ok nmZM hown hK hP hD hS 0 rfl rfl 17 (by decide) (hts _ mm_634) (fun _ h9 => h9) rfl (by decide +kernel) rfl rfl (Nat.le_of_ble_eq_true rfl) dZM_seam_228 (fun H locs hP hD hS => ?_)
      have hP : va_P (dC, dI) vwCl [(om, .inr (6, [.int zt_2, .int zw, .int zh, .ref ozp, .ref ozs, .ref ozb, .int zz, .ref ozl, .ref ozo, .int zc, .int zr, .int zu, .int zv, .int zq, .int zi, .ref ozk, .ref ozm, .int (1 : Int32), .ref ozg])), (ozp, .inl (cI, 1600, .inl zp)), (ozs, .inl (cI, 320, .inl zs)), (ozb, .inl (cI, 256, .inl zb)), (ozl, .inl (cI, 64, .inl zl)), (ozo, .inl (cI, 64, .inl zo)), (ozk, .inl (cI, 320, .inl f_159e_ozk)), (ozm, .inl (cI, 40, .inl f_159e_ozm)), (ozg, .inl (cI, 64, .inl zg))] H := hP
      have hD : va_D A [(om, .inr (6, [.int zt_2, .int zw, .int zh, .ref ozp, .ref ozs, .ref ozb, .int zz, .ref ozl, .ref ozo, .int zc, .int zr, .int zu, .int zv, .int zq, .int zi, .ref ozk, .ref ozm, .int (1 : Int32), .ref ozg])), (ozp, .inl (cI, 1600, .inl zp)), (ozs, .inl (cI, 320, .inl zs)), (ozb, .inl (cI, 256, .inl zb)), (ozl, .inl (cI, 64, .inl zl)), (ozo, .inl (cI, 64, .inl zo)), (ozk, .inl (cI, 320, .inl f_159e_ozk)), (ozm, .inl (cI, 40, .inl f_159e_ozm)), (ozg, .inl (cI, 64, .inl zg))] := hD
      refine lv_aload_n hx hb dZM_seam_231 rfl (lv_at hl 3 rfl) ?_
      refine va_get (D := (dC, dI)) (ci := 6) (v := .ref ozk) (C := RZM) (T := TZM) (N := 19) hx hb hts inZM hown hK hP 0 rfl rfl 15 (by decide) (hts _ mm_632) (fun _ h9 => h9) rfl dZM_seam_232 ?_
      refine lv_bipush (v := (8 : Int32)) hx hb dZM_seam_235 (by decide) ?_
      refine lv_iload_n hx hb dZM_seam_237 rfl (lv_at hl 2 rfl) ?_
      refine lv_imul hx hb dZM_seam_238 ?_
      refine lv_iload_n hx hb dZM_seam_239 rfl (lv_at hl 1 rfl) ?_
      refine lv_iadd hx hb dZM_seam_240 ?_
      obtain ⟨h_24, hw⟩ := hw
      refine va_iald hx hb hK hP 6 0 rfl rfl h_24 dZM_seam_241 ?_
      have hP9 := hP.sub (ws' := [(om, .inr (6, [.int zt_2, .int zw, .int zh, .ref ozp, .ref ozs, .ref ozb, .int zz, .ref ozl, .ref ozo, .int zc, .int zr, .int zu, .int zv, .int zq, .int zi, .ref ozk, .ref ozm, .int (1 : Int32), .ref ozg])), (ozp, .inl (cI, 1600, .inl zp)), (ozs, .inl (cI, 320, .inl zs)), (ozb, .inl (cI, 256, .inl zb)), (ozl, .inl (cI, 64, .inl zl)), (ozo, .inl (cI, 64, .inl zo)), (ozk, .inl (cI, 320, .inl f_159e_ozk)), (ozm, .inl (cI, 40, .inl f_159e_ozm)), (ozg, .inl (cI, 64, .inl zg))]) [0, 1, 2, 3, 4, 5, 6, 7, 8] rfl
      have hD9 := hD.sub (ws' := [(om, .inr (6, [.int zt_2, .int zw, .int zh, .ref ozp, .ref ozs, .ref ozb, .int zz, .ref ozl, .ref ozo, .int zc, .int zr, .int zu, .int zv, .int zq, .int zi, .ref ozk, .ref ozm, .int (1 : Int32), .ref ozg])), (ozp, .inl (cI, 1600, .inl zp)), (ozs, .inl (cI, 320, .inl zs)), (ozb, .inl (cI, 256, .inl zb)), (ozl, .inl (cI, 64, .inl zl)), (ozo, .inl (cI, 64, .inl zo)), (ozk, .inl (cI, 320, .inl f_159e_ozk)), (ozm, .inl (cI, 40, .inl f_159e_ozm)), (ozg, .inl (cI, 64, .inl zg))]) [0, 1, 2, 3, 4, 5, 6, 7, 8] (by decide) rfl
      subst hQ9
      exact W.iret (v := f_159e_ozk (((8 : Int32) * (zh - (1 : Int32))) + x3_110e).toNatClampNeg) hx hb hr (fun t ht hW => ⟨⟨f_159e_ozk (((8 : Int32) * (zh - (1 : Int32))) + x3_110e).toNatClampNeg, (zt_2, f_159e_ozk, f_159e_ozm, (1 : Int32)), rfl, hw, by rw [ht]; exact hP9, va_K.moved hW.alike hK, hD9⟩, hS.F ht⟩) hS.2.2 dZM_seam_242
    · have hw := hw.2 c_4
      refine lv_iconst (v := (0 : Int32)) hx hb dZM_seam_31 (by decide) ?_
      have hP9 := hP.sub (ws' := [(om, .inr (6, [.int zt_2, .int zw, .int zh, .ref ozp, .ref ozs, .ref ozb, .int zz, .ref ozl, .ref ozo, .int zc, .int zr, .int zu, .int zv, .int zq, .int zi, .ref ozk, .ref ozm, .int zd, .ref ozg])), (ozp, .inl (cI, 1600, .inl zp)), (ozs, .inl (cI, 320, .inl zs)), (ozb, .inl (cI, 256, .inl zb)), (ozl, .inl (cI, 64, .inl zl)), (ozo, .inl (cI, 64, .inl zo)), (ozk, .inl (cI, 320, .inl zk)), (ozm, .inl (cI, 40, .inl zm)), (ozg, .inl (cI, 64, .inl zg))]) [0, 1, 2, 3, 4, 5, 6, 7, 8] rfl
      have hD9 := hD.sub (ws' := [(om, .inr (6, [.int zt_2, .int zw, .int zh, .ref ozp, .ref ozs, .ref ozb, .int zz, .ref ozl, .ref ozo, .int zc, .int zr, .int zu, .int zv, .int zq, .int zi, .ref ozk, .ref ozm, .int zd, .ref ozg])), (ozp, .inl (cI, 1600, .inl zp)), (ozs, .inl (cI, 320, .inl zs)), (ozb, .inl (cI, 256, .inl zb)), (ozl, .inl (cI, 64, .inl zl)), (ozo, .inl (cI, 64, .inl zo)), (ozk, .inl (cI, 320, .inl zk)), (ozm, .inl (cI, 40, .inl zm)), (ozg, .inl (cI, 64, .inl zg))]) [0, 1, 2, 3, 4, 5, 6, 7, 8] (by decide) rfl
      subst hQ9
      exact W.iret (v := (0 : Int32)) hx hb hr (fun t ht hW => ⟨⟨(0 : Int32), (zt_2, zk, zm, zd), rfl, hw, by rw [ht]; exact hP9, va_K.moved hW.alike hK, hD9⟩, hS.F ht⟩) hS.2.2 dZM_seam_32
  refine lv_if_eq (tgt := 19) hx hb dZM_seam_8 (by decide) (fun c_25 => ?_) (fun c_25 => ?_)
  · have hw := hw.1 c_25
    refine lv_iconst (v := (1 : Int32)) hx hb dZM_seam_19 (by decide) ?_
    refine lv_goto (tgt := 24) hx hb dZM_seam_20 (by decide) ?_
    exact j24 (1 : Int32) hw _ _ (hP.sub [0, 1, 2, 3, 4, 5, 6, 7, 8] rfl) (hD.sub [0, 1, 2, 3, 4, 5, 6, 7, 8] (by decide) rfl) hS ls (lv_sub hl [0, 1] rfl)
  · have hw := hw.2 c_25
    refine lv_iload_n hx hb dZM_seam_11 rfl (lv_at hl 1 rfl) ?_
    refine lv_aload_n hx hb dZM_seam_12 rfl (lv_at hl 0 rfl) ?_
    refine va_get (D := (dC, dI)) (ci := 6) (v := .int zw) (C := RZM) (T := TZM) (N := 19) hx hb hts inZM hown hK hP 0 rfl rfl 1 (by decide) (hts _ mm_619) (fun _ h9 => h9) rfl dZM_seam_13 ?_
    refine lv_icmp_le (tgt := 23) hx hb dZM_seam_16 (by decide) (fun c_26 => ?_) (fun c_26 => ?_)
    · have hw := hw.1 c_26
      refine lv_iconst (v := (0 : Int32)) hx hb dZM_seam_23 (by decide) ?_
      exact j24 (0 : Int32) hw _ _ (hP.sub [0, 1, 2, 3, 4, 5, 6, 7, 8] rfl) (hD.sub [0, 1, 2, 3, 4, 5, 6, 7, 8] (by decide) rfl) hS ls (lv_sub hl [0, 1] rfl)
    · have hw := hw.2 c_26
      refine lv_iconst (v := (1 : Int32)) hx hb dZM_seam_19 (by decide) ?_
      refine lv_goto (tgt := 24) hx hb dZM_seam_20 (by decide) ?_
      exact j24 (1 : Int32) hw _ _ (hP.sub [0, 1, 2, 3, 4, 5, 6, 7, 8] rfl) (hD.sub [0, 1, 2, 3, 4, 5, 6, 7, 8] (by decide) rfl) hS ls (lv_sub hl [0, 1] rfl)
theorem dZM_seamAt_0 : decode cZM_seamAt 0 = .ok (.aload_n 0, 1) := by decide +kernel
theorem dZM_seamAt_1 : decode cZM_seamAt 1 = .ok (.aload_n 0, 1) := by decide +kernel
theorem dZM_seamAt_2 : decode cZM_seamAt 2 = .ok (.getfield 166, 3) := by decide +kernel
theorem dZM_seamAt_5 : decode cZM_seamAt 5 = .ok (.ifCond .eq 17, 3) := by decide +kernel
theorem dZM_seamAt_8 : decode cZM_seamAt 8 = .ok (.iload_n 1, 1) := by decide +kernel
theorem dZM_seamAt_9 : decode cZM_seamAt 9 = .ok (.iconst 0, 1) := by decide +kernel
theorem dZM_seamAt_10 : decode cZM_seamAt 10 = .ok (.aload_n 0, 1) := by decide +kernel
theorem dZM_seamAt_11 : decode cZM_seamAt 11 = .ok (.getfield 42, 3) := by decide +kernel
theorem dZM_seamAt_14 : decode cZM_seamAt 14 = .ok (.iconst 1, 1) := by decide +kernel
theorem dZM_seamAt_15 : decode cZM_seamAt 15 = .ok (.isub, 1) := by decide +kernel
theorem dZM_seamAt_16 : decode cZM_seamAt 16 = .ok (.invokestatic 48, 3) := by decide +kernel
theorem dZM_seamAt_19 : decode cZM_seamAt 19 = .ok (.ifCond .ne 7, 3) := by decide +kernel
theorem dZM_seamAt_22 : decode cZM_seamAt 22 = .ok (.iconst 1, 1) := by decide +kernel
theorem dZM_seamAt_23 : decode cZM_seamAt 23 = .ok (.goto 4, 3) := by decide +kernel
theorem dZM_seamAt_26 : decode cZM_seamAt 26 = .ok (.iconst 0, 1) := by decide +kernel
theorem dZM_seamAt_27 : decode cZM_seamAt 27 = .ok (.iconst 0, 1) := by decide +kernel
theorem dZM_seamAt_28 : decode cZM_seamAt 28 = .ok (.invokevirtual 60, 3) := by decide +kernel
theorem dZM_seamAt_31 : decode cZM_seamAt 31 = .ok (.ifCond .eq 7, 3) := by decide +kernel
theorem dZM_seamAt_34 : decode cZM_seamAt 34 = .ok (.iconst 0, 1) := by decide +kernel
theorem dZM_seamAt_35 : decode cZM_seamAt 35 = .ok (.goto 9, 3) := by decide +kernel
theorem dZM_seamAt_38 : decode cZM_seamAt 38 = .ok (.aload_n 0, 1) := by decide +kernel
theorem dZM_seamAt_39 : decode cZM_seamAt 39 = .ok (.getfield 28, 3) := by decide +kernel
theorem dZM_seamAt_42 : decode cZM_seamAt 42 = .ok (.iload_n 1, 1) := by decide +kernel
theorem dZM_seamAt_43 : decode cZM_seamAt 43 = .ok (.iaload, 1) := by decide +kernel
theorem dZM_seamAt_44 : decode cZM_seamAt 44 = .ok (.ireturn, 1) := by decide +kernel
abbrev wsZM_seamAt : List Cond := .code yZM_seamAt cZM_seamAt 2 (some .int) :: tbg
def wp_ZM_seamAt (zt : Int32) (zw : Int32) (zh : Int32) (zp : Nat → Int32) (zs : Nat → Int32) (zb : Nat → Int32) (zz : Int32) (zl : Nat → Int32) (zo : Nat → Int32) (zc : Int32) (zr : Int32) (zu : Int32) (zv : Int32) (zq : Int32) (zi : Int32) (zk : Nat → Int32) (zm : Nat → Int32) (zd : Int32) (zg : Nat → Int32) (a1 : Int32) (post : Int32 → Int32 → Prop) : Prop := ∃ J27 : Int32 → Prop, (∀ (t0_j27 : Int32), J27 t0_j27 → wp_ZM_throwing zt zw zh zp zs zb zz zl zo zc zr zu zv zq zi zk zm zd zg t0_j27 (0 : Int32) (fun (r_2 : Int32) (zt_1 : Int32) => ((r_2 = (0 : Int32) → (vp_in a1 40 ∧ (post (zm a1.toNatClampNeg) zt_1))) ∧ (¬ r_2 = (0 : Int32) → (post (0 : Int32) zt_1))))) ∧ (((zd = (0 : Int32) → (J27 (1 : Int32))) ∧ (¬ zd = (0 : Int32) → (wp_ZM_in a1 (0 : Int32) (zh - (1 : Int32)) (fun r_6 : Int32 => ((r_6 = (0 : Int32) → (J27 (1 : Int32))) ∧ (¬ r_6 = (0 : Int32) → (J27 (0 : Int32)))))))))
abbrev rm_ZM_seamAt : Room := { frames := 1, cells := 0, slots := 0, locals := 22 }
set_option maxHeartbeats 4000000 in
set_option maxRecDepth 100000 in
theorem kt_ZM_seamAt (l : Launch) (dC : Nat → ClassId) (dI : Nat → Nat → Nat) (cI : ClassId) (om ozp ozs ozb ozl ozo ozk ozm ozg : Nat) (sz : Nat) (zt : Int32) (zw : Int32) (zh : Int32) (zp : Nat → Int32) (zs : Nat → Int32) (zb : Nat → Int32) (zz : Int32) (zl : Nat → Int32) (zo : Nat → Int32) (zc : Int32) (zr : Int32) (zu : Int32) (zv : Int32) (zq : Int32) (zi : Int32) (zk : Nat → Int32) (zm : Nat → Int32) (zd : Int32) (zg : Nat → Int32) (a1 : Int32) (post : Int32 → Int32 → Prop) (hw : wp_ZM_seamAt zt zw zh zp zs zb zz zl zo zc zr zu zv zq zi zk zm zd zg a1 post) : Met l yZM_seamAt wsZM_seamAt rm_ZM_seamAt (gw_Pc dC dI [(cI, .int)] [.ref om, .int a1] [(om, .inr (6, [.int zt, .int zw, .int zh, .ref ozp, .ref ozs, .ref ozb, .int zz, .ref ozl, .ref ozo, .int zc, .int zr, .int zu, .int zv, .int zq, .int zi, .ref ozk, .ref ozm, .int zd, .ref ozg])), (ozp, .inl (cI, 1600, .inl zp)), (ozs, .inl (cI, 320, .inl zs)), (ozb, .inl (cI, 256, .inl zb)), (ozl, .inl (cI, 64, .inl zl)), (ozo, .inl (cI, 64, .inl zo)), (ozk, .inl (cI, 320, .inl zk)), (ozm, .inl (cI, 40, .inl zm)), (ozg, .inl (cI, 64, .inl zg))] sz) (va_Qi (fun (r : Int32) (u : Int32) => post r u) (fun u t => gw_B dC dI [(cI, .int)] (va_A [(om, .inr (6, [.int zt, .int zw, .int zh, .ref ozp, .ref ozs, .ref ozb, .int zz, .ref ozl, .ref ozo, .int zc, .int zr, .int zu, .int zv, .int zq, .int zi, .ref ozk, .ref ozm, .int zd, .ref ozg])), (ozp, .inl (cI, 1600, .inl zp)), (ozs, .inl (cI, 320, .inl zs)), (ozb, .inl (cI, 256, .inl zb)), (ozl, .inl (cI, 64, .inl zl)), (ozo, .inl (cI, 64, .inl zo)), (ozk, .inl (cI, 320, .inl zk)), (ozm, .inl (cI, 40, .inl zm)), (ozg, .inl (cI, 64, .inl zg))] sz) [(om, .inr (6, [.int u, .int zw, .int zh, .ref ozp, .ref ozs, .ref ozb, .int zz, .ref ozl, .ref ozo, .int zc, .int zr, .int zu, .int zv, .int zq, .int zi, .ref ozk, .ref ozm, .int zd, .ref ozg])), (ozp, .inl (cI, 1600, .inl zp)), (ozs, .inl (cI, 320, .inl zs)), (ozb, .inl (cI, 256, .inl zb)), (ozl, .inl (cI, 64, .inl zl)), (ozo, .inl (cI, 64, .inl zo)), (ozk, .inl (cI, 320, .inl zk)), (ozm, .inl (cI, 40, .inl zm)), (ozg, .inl (cI, 64, .inl zg))] t) (va_A [(om, .inr (6, [.int zt, .int zw, .int zh, .ref ozp, .ref ozs, .ref ozb, .int zz, .ref ozl, .ref ozo, .int zc, .int zr, .int zu, .int zv, .int zq, .int zi, .ref ozk, .ref ozm, .int zd, .ref ozg])), (ozp, .inl (cI, 1600, .inl zp)), (ozs, .inl (cI, 320, .inl zs)), (ozb, .inl (cI, 256, .inl zb)), (ozl, .inl (cI, 64, .inl zl)), (ozo, .inl (cI, 64, .inl zo)), (ozk, .inl (cI, 320, .inl zk)), (ozm, .inl (cI, 40, .inl zm)), (ozg, .inl (cI, 64, .inl zg))] sz)) 0 0 (va_A [(om, .inr (6, [.int zt, .int zw, .int zh, .ref ozp, .ref ozs, .ref ozb, .int zz, .ref ozl, .ref ozo, .int zc, .int zr, .int zu, .int zv, .int zq, .int zi, .ref ozk, .ref ozm, .int zd, .ref ozg])), (ozp, .inl (cI, 1600, .inl zp)), (ozs, .inl (cI, 320, .inl zs)), (ozb, .inl (cI, 256, .inl zb)), (ozl, .inl (cI, 64, .inl zl)), (ozo, .inl (cI, 64, .inl zo)), (ozk, .inl (cI, 320, .inl zk)), (ozm, .inl (cI, 40, .inl zm)), (ozg, .inl (cI, 64, .inl zg))] sz) := by
  refine Met.ofW (cc := cZM_seamAt) (maxL := 2) (ret := (some .int)) (by decide) rfl ?_
  intro p e s m args below meth c s₁ B hml hv
  obtain ⟨ha9, hsz, hP, hK, hE, hD0⟩ := hv
  have hx := B.exec
  have hb := B.bytes
  have hr := B.returns
  have hts0 := atoms_spec (ws := wsZM_seamAt) B.pre
  have hts : ∀ w ∈ tbg, w.before args s = true := fun w h => hts0 w (List.mem_cons_of_mem _ h)
  have hown : s.vm.findClass RZM = some m.cls := findClass_of_methodNamed B.named
  have hlocks := B.notSynchronized
  subst hsz
  have hD := hD0.self (sz := s.heap.size)
  refine gx_Q (fun Q9 hQ9 => ?_)
  generalize hAe : va_A [(om, .inr (6, [.int zt, .int zw, .int zh, .ref ozp, .ref ozs, .ref ozb, .int zz, .ref ozl, .ref ozo, .int zc, .int zr, .int zu, .int zv, .int zq, .int zi, .ref ozk, .ref ozm, .int zd, .ref ozg])), (ozp, .inl (cI, 1600, .inl zp)), (ozs, .inl (cI, 320, .inl zs)), (ozb, .inl (cI, 256, .inl zb)), (ozl, .inl (cI, 64, .inl zl)), (ozo, .inl (cI, 64, .inl zo)), (ozk, .inl (cI, 320, .inl zk)), (ozm, .inl (cI, 40, .inl zm)), (ozg, .inl (cI, 64, .inl zg))] s.heap.size = A at hD hQ9 ⊢
  have hA : ∀ q : Nat, s.heap.size ≤ q → A q := fun q h => by rw [← hAe]; exact Or.inr h
  have hS : va_S A s.heap s.heap [] := va_S.rf
  have hl := lv_entry ([.ref om, .int a1]) (n := 2) (Nat.le_of_ble_eq_true rfl)
  have he9 : entryFrame m args 2 = F0 m 0 ((lg_sl [.ref om, .int a1] ++ List.replicate (2 - (lg_sl ([.ref om, .int a1] : List Value)).length) Slot.unset).toArray) [] := by rw [ha9]; exact lg_entry_eq m [.ref om, .int a1] 2
  rw [he9]
  generalize (lg_sl ([.ref om, .int a1] : List Value) ++ List.replicate (2 - (lg_sl ([.ref om, .int a1] : List Value)).length) Slot.unset).toArray = ls at hl ⊢
  have hl : lv_has ls 2 [(0, .ref om), (1, .int a1)] := hl
  refine lv_aload_n hx hb dZM_seamAt_0 rfl (lv_at hl 0 rfl) ?_
  refine lv_aload_n hx hb dZM_seamAt_1 rfl (lv_at hl 0 rfl) ?_
  refine va_get (D := (dC, dI)) (ci := 6) (v := .int zd) (C := RZM) (T := TZM) (N := 19) hx hb hts inZM hown hK hP 0 rfl rfl 17 (by decide) (hts _ mm_634) (fun _ h9 => h9) rfl dZM_seamAt_2 ?_
  obtain ⟨J27, hJ27, hw⟩ := hw
  have j27 : ∀ (t0_j27 : Int32), J27 t0_j27 → ∀ (H : Heap) (locs : List Loc), va_P (dC, dI) vwCl [(om, .inr (6, [.int zt, .int zw, .int zh, .ref ozp, .ref ozs, .ref ozb, .int zz, .ref ozl, .ref ozo, .int zc, .int zr, .int zu, .int zv, .int zq, .int zi, .ref ozk, .ref ozm, .int zd, .ref ozg])), (ozp, .inl (cI, 1600, .inl zp)), (ozs, .inl (cI, 320, .inl zs)), (ozb, .inl (cI, 256, .inl zb)), (ozl, .inl (cI, 64, .inl zl)), (ozo, .inl (cI, 64, .inl zo)), (ozk, .inl (cI, 320, .inl zk)), (ozm, .inl (cI, 40, .inl zm)), (ozg, .inl (cI, 64, .inl zg))] H → va_D A [(om, .inr (6, [.int zt, .int zw, .int zh, .ref ozp, .ref ozs, .ref ozb, .int zz, .ref ozl, .ref ozo, .int zc, .int zr, .int zu, .int zv, .int zq, .int zi, .ref ozk, .ref ozm, .int zd, .ref ozg])), (ozp, .inl (cI, 1600, .inl zp)), (ozs, .inl (cI, 320, .inl zs)), (ozb, .inl (cI, 256, .inl zb)), (ozl, .inl (cI, 64, .inl zl)), (ozo, .inl (cI, 64, .inl zo)), (ozk, .inl (cI, 320, .inl zk)), (ozm, .inl (cI, 40, .inl zm)), (ozg, .inl (cI, 64, .inl zg))] → va_S A s.heap H locs → ∀ ls : Array Slot, lv_has ls 2 [(0, .ref om), (1, .int a1)] → W p l e (headSpec wsZM_seamAt rm_ZM_seamAt).room s m args below meth c H locs 0 0 Q9 (F0 m 27 ls [.int t0_j27, .ref om]) := by
    intro t0_j27 hw H locs hP hD hS ls hl
    have hw := hJ27 t0_j27 hw
    refine lv_iconst (v := (0 : Int32)) hx hb dZM_seamAt_27 (by decide) ?_
    have hPc := hP.sub (ws' := [(om, .inr (6, [.int zt, .int zw, .int zh, .ref ozp, .ref ozs, .ref ozb, .int zz, .ref ozl, .ref ozo, .int zc, .int zr, .int zu, .int zv, .int zq, .int zi, .ref ozk, .ref ozm, .int zd, .ref ozg])), (ozp, .inl (cI, 1600, .inl zp)), (ozs, .inl (cI, 320, .inl zs)), (ozb, .inl (cI, 256, .inl zb)), (ozl, .inl (cI, 64, .inl zl)), (ozo, .inl (cI, 64, .inl zo)), (ozk, .inl (cI, 320, .inl zk)), (ozm, .inl (cI, 40, .inl zm)), (ozg, .inl (cI, 64, .inl zg))]) [0, 1, 2, 3, 4, 5, 6, 7, 8] rfl
    have hDc := hD.sub (ws' := [(om, .inr (6, [.int zt, .int zw, .int zh, .ref ozp, .ref ozs, .ref ozb, .int zz, .ref ozl, .ref ozo, .int zc, .int zr, .int zu, .int zv, .int zq, .int zi, .ref ozk, .ref ozm, .int zd, .ref ozg])), (ozp, .inl (cI, 1600, .inl zp)), (ozs, .inl (cI, 320, .inl zs)), (ozb, .inl (cI, 256, .inl zb)), (ozl, .inl (cI, 64, .inl zl)), (ozo, .inl (cI, 64, .inl zo)), (ozk, .inl (cI, 320, .inl zk)), (ozm, .inl (cI, 40, .inl zm)), (ozg, .inl (cI, 64, .inl zg))]) [0, 1, 2, 3, 4, 5, 6, 7, 8] (by decide) rfl
    have hFc := va_free (wc := [(om, .inr (6, [.int zt, .int zw, .int zh, .ref ozp, .ref ozs, .ref ozb, .int zz, .ref ozl, .ref ozo, .int zc, .int zr, .int zu, .int zv, .int zq, .int zi, .ref ozk, .ref ozm, .int zd, .ref ozg])), (ozp, .inl (cI, 1600, .inl zp)), (ozs, .inl (cI, 320, .inl zs)), (ozb, .inl (cI, 256, .inl zb)), (ozl, .inl (cI, 64, .inl zl)), (ozo, .inl (cI, 64, .inl zo)), (ozk, .inl (cI, 320, .inl zk)), (ozm, .inl (cI, 40, .inl zm)), (ozg, .inl (cI, 64, .inl zg))]) hD hS hA [0, 1, 2, 3, 4, 5, 6, 7, 8] rfl
    refine va_calli (va_runV (As := [.int t0_j27, .int (0 : Int32)]) (rest := []) ⟨hx, hb, hml, hown, hts⟩ (kt_ZM_throwing l dC dI cI om ozp ozs ozb ozl ozo ozk ozm ozg _ zt zw zh zp zs zb zz zl zo zc zr zu zv zq zi zk zm zd zg t0_j27 (0 : Int32) _ hw) (cwV 2 hts (tb_V mm_693 mm_695 mp_5 mm_8 mm_696) rfl rfl rfl (by decide +kernel) ⟨Nat.le_of_ble_eq_true rfl, Nat.le_of_ble_eq_true rfl⟩) ⟨gw_blind, va_recv hK hPc (ci := 6) (q0 := 0) rfl rfl, fun U hU hW => gw_pre hPc hDc hK hE hU hW⟩ rfl rfl hl.1 rfl (lv_room (Nat.le_of_ble_eq_true rfl)) dZM_seamAt_28 ⟨Nat.le_of_ble_eq_true rfl, Nat.le_of_ble_eq_true rfl⟩) hS (fun q _ h => hFc q h) hFc (fun r_2 zt_1 t H1 locs ht hvm hw hB hz1 hk1 hS => ?_)
    obtain ⟨hP1, hK1, hD1⟩ := hB
    rw [ht] at hP1
    try dsimp only at hw
    obtain ⟨hP, hD⟩ := va_join (wr := []) (w1 := [(om, .inr (6, [.int zt_1, .int zw, .int zh, .ref ozp, .ref ozs, .ref ozb, .int zz, .ref ozl, .ref ozo, .int zc, .int zr, .int zu, .int zv, .int zq, .int zi, .ref ozk, .ref ozm, .int zd, .ref ozg])), (ozp, .inl (cI, 1600, .inl zp)), (ozs, .inl (cI, 320, .inl zs)), (ozb, .inl (cI, 256, .inl zb)), (ozl, .inl (cI, 64, .inl zl)), (ozo, .inl (cI, 64, .inl zo)), (ozk, .inl (cI, 320, .inl zk)), (ozm, .inl (cI, 40, .inl zm)), (ozg, .inl (cI, 64, .inl zg))]) hP hD [0, 1, 2, 3, 4, 5, 6, 7, 8] [] rfl rfl (by decide) (by decide) hk1 hFc hP1 hD1
    generalize H1 = H at hP hS ⊢
    have hP : va_P (dC, dI) vwCl [(om, .inr (6, [.int zt_1, .int zw, .int zh, .ref ozp, .ref ozs, .ref ozb, .int zz, .ref ozl, .ref ozo, .int zc, .int zr, .int zu, .int zv, .int zq, .int zi, .ref ozk, .ref ozm, .int zd, .ref ozg])), (ozp, .inl (cI, 1600, .inl zp)), (ozs, .inl (cI, 320, .inl zs)), (ozb, .inl (cI, 256, .inl zb)), (ozl, .inl (cI, 64, .inl zl)), (ozo, .inl (cI, 64, .inl zo)), (ozk, .inl (cI, 320, .inl zk)), (ozm, .inl (cI, 40, .inl zm)), (ozg, .inl (cI, 64, .inl zg))] H := hP
    have hD : va_D A [(om, .inr (6, [.int zt_1, .int zw, .int zh, .ref ozp, .ref ozs, .ref ozb, .int zz, .ref ozl, .ref ozo, .int zc, .int zr, .int zu, .int zv, .int zq, .int zi, .ref ozk, .ref ozm, .int zd, .ref ozg])), (ozp, .inl (cI, 1600, .inl zp)), (ozs, .inl (cI, 320, .inl zs)), (ozb, .inl (cI, 256, .inl zb)), (ozl, .inl (cI, 64, .inl zl)), (ozo, .inl (cI, 64, .inl zo)), (ozk, .inl (cI, 320, .inl zk)), (ozm, .inl (cI, 40, .inl zm)), (ozg, .inl (cI, 64, .inl zg))] := hD
    refine lv_if_eq (tgt := 38) hx hb dZM_seamAt_31 (by decide) (fun c_3 => ?_) (fun c_3 => ?_)
    · have hw := hw.1 c_3
      refine lv_aload_n hx hb dZM_seamAt_38 rfl (lv_at hl 0 rfl) ?_
      refine va_get (D := (dC, dI)) (ci := 6) (v := .ref ozm) (C := RZM) (T := TZM) (N := 19) hx hb hts inZM hown hK hP 0 rfl rfl 16 (by decide) (hts _ mm_633) (fun _ h9 => h9) rfl dZM_seamAt_39 ?_
      refine lv_iload_n hx hb dZM_seamAt_42 rfl (lv_at hl 1 rfl) ?_
      obtain ⟨h_4, hw⟩ := hw
      refine va_iald hx hb hK hP 7 0 rfl rfl h_4 dZM_seamAt_43 ?_
      have hP9 := hP.sub (ws' := [(om, .inr (6, [.int zt_1, .int zw, .int zh, .ref ozp, .ref ozs, .ref ozb, .int zz, .ref ozl, .ref ozo, .int zc, .int zr, .int zu, .int zv, .int zq, .int zi, .ref ozk, .ref ozm, .int zd, .ref ozg])), (ozp, .inl (cI, 1600, .inl zp)), (ozs, .inl (cI, 320, .inl zs)), (ozb, .inl (cI, 256, .inl zb)), (ozl, .inl (cI, 64, .inl zl)), (ozo, .inl (cI, 64, .inl zo)), (ozk, .inl (cI, 320, .inl zk)), (ozm, .inl (cI, 40, .inl zm)), (ozg, .inl (cI, 64, .inl zg))]) [0, 1, 2, 3, 4, 5, 6, 7, 8] rfl
      have hD9 := hD.sub (ws' := [(om, .inr (6, [.int zt_1, .int zw, .int zh, .ref ozp, .ref ozs, .ref ozb, .int zz, .ref ozl, .ref ozo, .int zc, .int zr, .int zu, .int zv, .int zq, .int zi, .ref ozk, .ref ozm, .int zd, .ref ozg])), (ozp, .inl (cI, 1600, .inl zp)), (ozs, .inl (cI, 320, .inl zs)), (ozb, .inl (cI, 256, .inl zb)), (ozl, .inl (cI, 64, .inl zl)), (ozo, .inl (cI, 64, .inl zo)), (ozk, .inl (cI, 320, .inl zk)), (ozm, .inl (cI, 40, .inl zm)), (ozg, .inl (cI, 64, .inl zg))]) [0, 1, 2, 3, 4, 5, 6, 7, 8] (by decide) rfl
      subst hQ9
      exact W.iret (v := zm a1.toNatClampNeg) hx hb hr (fun t ht hW => ⟨⟨zm a1.toNatClampNeg, zt_1, rfl, hw, by rw [ht]; exact hP9, va_K.moved hW.alike hK, hD9⟩, hS.F ht⟩) hS.2.2 dZM_seamAt_44
    · have hw := hw.2 c_3
      refine lv_iconst (v := (0 : Int32)) hx hb dZM_seamAt_34 (by decide) ?_
      refine lv_goto (tgt := 44) hx hb dZM_seamAt_35 (by decide) ?_
      have hP9 := hP.sub (ws' := [(om, .inr (6, [.int zt_1, .int zw, .int zh, .ref ozp, .ref ozs, .ref ozb, .int zz, .ref ozl, .ref ozo, .int zc, .int zr, .int zu, .int zv, .int zq, .int zi, .ref ozk, .ref ozm, .int zd, .ref ozg])), (ozp, .inl (cI, 1600, .inl zp)), (ozs, .inl (cI, 320, .inl zs)), (ozb, .inl (cI, 256, .inl zb)), (ozl, .inl (cI, 64, .inl zl)), (ozo, .inl (cI, 64, .inl zo)), (ozk, .inl (cI, 320, .inl zk)), (ozm, .inl (cI, 40, .inl zm)), (ozg, .inl (cI, 64, .inl zg))]) [0, 1, 2, 3, 4, 5, 6, 7, 8] rfl
      have hD9 := hD.sub (ws' := [(om, .inr (6, [.int zt_1, .int zw, .int zh, .ref ozp, .ref ozs, .ref ozb, .int zz, .ref ozl, .ref ozo, .int zc, .int zr, .int zu, .int zv, .int zq, .int zi, .ref ozk, .ref ozm, .int zd, .ref ozg])), (ozp, .inl (cI, 1600, .inl zp)), (ozs, .inl (cI, 320, .inl zs)), (ozb, .inl (cI, 256, .inl zb)), (ozl, .inl (cI, 64, .inl zl)), (ozo, .inl (cI, 64, .inl zo)), (ozk, .inl (cI, 320, .inl zk)), (ozm, .inl (cI, 40, .inl zm)), (ozg, .inl (cI, 64, .inl zg))]) [0, 1, 2, 3, 4, 5, 6, 7, 8] (by decide) rfl
      subst hQ9
      exact W.iret (v := (0 : Int32)) hx hb hr (fun t ht hW => ⟨⟨(0 : Int32), zt_1, rfl, hw, by rw [ht]; exact hP9, va_K.moved hW.alike hK, hD9⟩, hS.F ht⟩) hS.2.2 dZM_seamAt_44
  refine lv_if_eq (tgt := 22) hx hb dZM_seamAt_5 (by decide) (fun c_5 => ?_) (fun c_5 => ?_)
  · have hw := hw.1 c_5
    refine lv_iconst (v := (1 : Int32)) hx hb dZM_seamAt_22 (by decide) ?_
    refine lv_goto (tgt := 27) hx hb dZM_seamAt_23 (by decide) ?_
    exact j27 (1 : Int32) hw _ _ (hP.sub [0, 1, 2, 3, 4, 5, 6, 7, 8] rfl) (hD.sub [0, 1, 2, 3, 4, 5, 6, 7, 8] (by decide) rfl) hS ls (lv_sub hl [0, 1] rfl)
  · have hw := hw.2 c_5
    refine lv_iload_n hx hb dZM_seamAt_8 rfl (lv_at hl 1 rfl) ?_
    refine lv_iconst (v := (0 : Int32)) hx hb dZM_seamAt_9 (by decide) ?_
    refine lv_aload_n hx hb dZM_seamAt_10 rfl (lv_at hl 0 rfl) ?_
    refine va_get (D := (dC, dI)) (ci := 6) (v := .int zh) (C := RZM) (T := TZM) (N := 19) hx hb hts inZM hown hK hP 0 rfl rfl 2 (by decide) (hts _ mm_620) (fun _ h9 => h9) rfl dZM_seamAt_11 ?_
    refine lv_iconst (v := (1 : Int32)) hx hb dZM_seamAt_14 (by decide) ?_
    refine lv_isub hx hb dZM_seamAt_15 ?_
    have hPc := hP.sub (ws' := []) [] rfl
    refine vp_callSi (va_runS (As := [.int a1, .int (0 : Int32), .int (zh - (1 : Int32))]) (rest := [.ref om]) ⟨hx, hb, hml, hown, hts⟩ (kt_ZM_in l dC dI cI  a1 (0 : Int32) (zh - (1 : Int32)) _ hw) (va_cwS 3 hts (tb_S mm_687 mm_688 mm_8 mm_689) rfl rfl rfl (by decide +kernel) ⟨Nat.le_of_ble_eq_true rfl, Nat.le_of_ble_eq_true rfl⟩) ⟨gr_blind, fun U hU hW => gr_pre hPc hK hE hU hW⟩ rfl rfl hl.1 rfl (lv_room (Nat.le_of_ble_eq_true rfl)) dZM_seamAt_16 ⟨Nat.le_of_ble_eq_true rfl, Nat.le_of_ble_eq_true rfl⟩).run (fun r_6 hw => ?_)
    refine lv_if_ne (tgt := 26) hx hb dZM_seamAt_19 (by decide) (fun c_7 => ?_) (fun c_7 => ?_)
    · have hw := hw.2 c_7
      refine lv_iconst (v := (0 : Int32)) hx hb dZM_seamAt_26 (by decide) ?_
      exact j27 (0 : Int32) hw _ _ (hP.sub [0, 1, 2, 3, 4, 5, 6, 7, 8] rfl) (hD.sub [0, 1, 2, 3, 4, 5, 6, 7, 8] (by decide) rfl) hS ls (lv_sub hl [0, 1] rfl)
    · have hw := hw.1 c_7
      refine lv_iconst (v := (1 : Int32)) hx hb dZM_seamAt_22 (by decide) ?_
      refine lv_goto (tgt := 27) hx hb dZM_seamAt_23 (by decide) ?_
      exact j27 (1 : Int32) hw _ _ (hP.sub [0, 1, 2, 3, 4, 5, 6, 7, 8] rfl) (hD.sub [0, 1, 2, 3, 4, 5, 6, 7, 8] (by decide) rfl) hS ls (lv_sub hl [0, 1] rfl)
theorem dZM_init_0 : decode cZM_init 0 = .ok (.aload_n 0, 1) := by decide +kernel
theorem dZM_init_1 : decode cZM_init 1 = .ok (.invokespecial 1, 3) := by decide +kernel
theorem dZM_init_4 : decode cZM_init 4 = .ok (.aload_n 0, 1) := by decide +kernel
theorem dZM_init_5 : decode cZM_init 5 = .ok (.sipush 1600, 3) := by decide +kernel
theorem dZM_init_8 : decode cZM_init 8 = .ok (.newarray .int, 2) := by decide +kernel
theorem dZM_init_10 : decode cZM_init 10 = .ok (.putfield 7, 3) := by decide +kernel
theorem dZM_init_13 : decode cZM_init 13 = .ok (.aload_n 0, 1) := by decide +kernel
theorem dZM_init_14 : decode cZM_init 14 = .ok (.sipush 320, 3) := by decide +kernel
theorem dZM_init_17 : decode cZM_init 17 = .ok (.newarray .int, 2) := by decide +kernel
theorem dZM_init_19 : decode cZM_init 19 = .ok (.putfield 13, 3) := by decide +kernel
theorem dZM_init_22 : decode cZM_init 22 = .ok (.aload_n 0, 1) := by decide +kernel
theorem dZM_init_23 : decode cZM_init 23 = .ok (.sipush 256, 3) := by decide +kernel
theorem dZM_init_26 : decode cZM_init 26 = .ok (.newarray .int, 2) := by decide +kernel
theorem dZM_init_28 : decode cZM_init 28 = .ok (.putfield 16, 3) := by decide +kernel
theorem dZM_init_31 : decode cZM_init 31 = .ok (.aload_n 0, 1) := by decide +kernel
theorem dZM_init_32 : decode cZM_init 32 = .ok (.bipush 64, 2) := by decide +kernel
theorem dZM_init_34 : decode cZM_init 34 = .ok (.newarray .int, 2) := by decide +kernel
theorem dZM_init_36 : decode cZM_init 36 = .ok (.putfield 19, 3) := by decide +kernel
theorem dZM_init_39 : decode cZM_init 39 = .ok (.aload_n 0, 1) := by decide +kernel
theorem dZM_init_40 : decode cZM_init 40 = .ok (.bipush 64, 2) := by decide +kernel
theorem dZM_init_42 : decode cZM_init 42 = .ok (.newarray .int, 2) := by decide +kernel
theorem dZM_init_44 : decode cZM_init 44 = .ok (.putfield 22, 3) := by decide +kernel
theorem dZM_init_47 : decode cZM_init 47 = .ok (.aload_n 0, 1) := by decide +kernel
theorem dZM_init_48 : decode cZM_init 48 = .ok (.sipush 320, 3) := by decide +kernel
theorem dZM_init_51 : decode cZM_init 51 = .ok (.newarray .int, 2) := by decide +kernel
theorem dZM_init_53 : decode cZM_init 53 = .ok (.putfield 25, 3) := by decide +kernel
theorem dZM_init_56 : decode cZM_init 56 = .ok (.aload_n 0, 1) := by decide +kernel
theorem dZM_init_57 : decode cZM_init 57 = .ok (.bipush 40, 2) := by decide +kernel
theorem dZM_init_59 : decode cZM_init 59 = .ok (.newarray .int, 2) := by decide +kernel
theorem dZM_init_61 : decode cZM_init 61 = .ok (.putfield 28, 3) := by decide +kernel
theorem dZM_init_64 : decode cZM_init 64 = .ok (.aload_n 0, 1) := by decide +kernel
theorem dZM_init_65 : decode cZM_init 65 = .ok (.bipush 64, 2) := by decide +kernel
theorem dZM_init_67 : decode cZM_init 67 = .ok (.newarray .int, 2) := by decide +kernel
theorem dZM_init_69 : decode cZM_init 69 = .ok (.putfield 31, 3) := by decide +kernel
theorem dZM_init_72 : decode cZM_init 72 = .ok (.aload_n 0, 1) := by decide +kernel
theorem dZM_init_73 : decode cZM_init 73 = .ok (.iload_n 1, 1) := by decide +kernel
theorem dZM_init_74 : decode cZM_init 74 = .ok (.invokestatic 34, 3) := by decide +kernel
theorem dZM_init_77 : decode cZM_init 77 = .ok (.putfield 38, 3) := by decide +kernel
theorem dZM_init_80 : decode cZM_init 80 = .ok (.aload_n 0, 1) := by decide +kernel
theorem dZM_init_81 : decode cZM_init 81 = .ok (.iload_n 2, 1) := by decide +kernel
theorem dZM_init_82 : decode cZM_init 82 = .ok (.invokestatic 34, 3) := by decide +kernel
theorem dZM_init_85 : decode cZM_init 85 = .ok (.putfield 42, 3) := by decide +kernel
theorem dZM_init_88 : decode cZM_init 88 = .ok (.return_, 1) := by decide +kernel
abbrev wsZM_init : List Cond := .code yZM_init cZM_init 3 none :: tbg
def wp_ZM_init (a1 : Int32) (a2 : Int32) (post : Int32 → Int32 → Int32 → (Nat → Int32) → (Nat → Int32) → (Nat → Int32) → Int32 → (Nat → Int32) → (Nat → Int32) → Int32 → Int32 → Int32 → Int32 → Int32 → Int32 → (Nat → Int32) → (Nat → Int32) → Int32 → (Nat → Int32) → Prop) : Prop := wp_ZM_held a1 (fun r_17 : Int32 => wp_ZM_held a2 (fun r_18 : Int32 => post (0 : Int32) r_17 r_18 (fun _ => 0) (fun _ => 0) (fun _ => 0) (0 : Int32) (fun _ => 0) (fun _ => 0) (0 : Int32) (0 : Int32) (0 : Int32) (0 : Int32) (0 : Int32) (0 : Int32) (fun _ => 0) (fun _ => 0) (0 : Int32) (fun _ => 0)))
abbrev rm_ZM_init : Room := { frames := 1, cells := 8, slots := 2728, locals := 20 }
set_option maxHeartbeats 4000000 in
set_option maxRecDepth 100000 in
theorem kt_ZM_init (l : Launch) (dC : Nat → ClassId) (dI : Nat → Nat → Nat) (cI : ClassId) (om : Nat) (sz : Nat) (a1 : Int32) (a2 : Int32) (post : Int32 → Int32 → Int32 → (Nat → Int32) → (Nat → Int32) → (Nat → Int32) → Int32 → (Nat → Int32) → (Nat → Int32) → Int32 → Int32 → Int32 → Int32 → Int32 → Int32 → (Nat → Int32) → (Nat → Int32) → Int32 → (Nat → Int32) → Prop) (hw : wp_ZM_init a1 a2 post) : Met l yZM_init wsZM_init rm_ZM_init (gw_Pc dC dI [(cI, .int)] [.ref om, .int a1, .int a2] [(om, .inr (6, [.int (0 : Int32), .int (0 : Int32), .int (0 : Int32), .null, .null, .null, .int (0 : Int32), .null, .null, .int (0 : Int32), .int (0 : Int32), .int (0 : Int32), .int (0 : Int32), .int (0 : Int32), .int (0 : Int32), .null, .null, .int (0 : Int32), .null]))] sz) (va_Qv (fun (u : Int32 × Int32 × Int32 × (Nat → Int32) × (Nat → Int32) × (Nat → Int32) × Int32 × (Nat → Int32) × (Nat → Int32) × Int32 × Int32 × Int32 × Int32 × Int32 × Int32 × (Nat → Int32) × (Nat → Int32) × Int32 × (Nat → Int32)) => post u.1 u.2.1 u.2.2.1 u.2.2.2.1 u.2.2.2.2.1 u.2.2.2.2.2.1 u.2.2.2.2.2.2.1 u.2.2.2.2.2.2.2.1 u.2.2.2.2.2.2.2.2.1 u.2.2.2.2.2.2.2.2.2.1 u.2.2.2.2.2.2.2.2.2.2.1 u.2.2.2.2.2.2.2.2.2.2.2.1 u.2.2.2.2.2.2.2.2.2.2.2.2.1 u.2.2.2.2.2.2.2.2.2.2.2.2.2.1 u.2.2.2.2.2.2.2.2.2.2.2.2.2.2.1 u.2.2.2.2.2.2.2.2.2.2.2.2.2.2.2.1 u.2.2.2.2.2.2.2.2.2.2.2.2.2.2.2.2.1 u.2.2.2.2.2.2.2.2.2.2.2.2.2.2.2.2.2.1 u.2.2.2.2.2.2.2.2.2.2.2.2.2.2.2.2.2.2) (fun u t => ∃ ozp ozs ozb ozl ozo ozk ozm ozg : Nat, gw_B dC dI [(cI, .int)] (va_A [(om, .inr (6, [.int (0 : Int32), .int (0 : Int32), .int (0 : Int32), .null, .null, .null, .int (0 : Int32), .null, .null, .int (0 : Int32), .int (0 : Int32), .int (0 : Int32), .int (0 : Int32), .int (0 : Int32), .int (0 : Int32), .null, .null, .int (0 : Int32), .null]))] sz) [(om, .inr (6, [.int u.1, .int u.2.1, .int u.2.2.1, .ref ozp, .ref ozs, .ref ozb, .int u.2.2.2.2.2.2.1, .ref ozl, .ref ozo, .int u.2.2.2.2.2.2.2.2.2.1, .int u.2.2.2.2.2.2.2.2.2.2.1, .int u.2.2.2.2.2.2.2.2.2.2.2.1, .int u.2.2.2.2.2.2.2.2.2.2.2.2.1, .int u.2.2.2.2.2.2.2.2.2.2.2.2.2.1, .int u.2.2.2.2.2.2.2.2.2.2.2.2.2.2.1, .ref ozk, .ref ozm, .int u.2.2.2.2.2.2.2.2.2.2.2.2.2.2.2.2.2.1, .ref ozg])), (ozp, .inl (cI, 1600, .inl u.2.2.2.1)), (ozs, .inl (cI, 320, .inl u.2.2.2.2.1)), (ozb, .inl (cI, 256, .inl u.2.2.2.2.2.1)), (ozl, .inl (cI, 64, .inl u.2.2.2.2.2.2.2.1)), (ozo, .inl (cI, 64, .inl u.2.2.2.2.2.2.2.2.1)), (ozk, .inl (cI, 320, .inl u.2.2.2.2.2.2.2.2.2.2.2.2.2.2.2.1)), (ozm, .inl (cI, 40, .inl u.2.2.2.2.2.2.2.2.2.2.2.2.2.2.2.2.1)), (ozg, .inl (cI, 64, .inl u.2.2.2.2.2.2.2.2.2.2.2.2.2.2.2.2.2.2))] t) (va_A [(om, .inr (6, [.int (0 : Int32), .int (0 : Int32), .int (0 : Int32), .null, .null, .null, .int (0 : Int32), .null, .null, .int (0 : Int32), .int (0 : Int32), .int (0 : Int32), .int (0 : Int32), .int (0 : Int32), .int (0 : Int32), .null, .null, .int (0 : Int32), .null]))] sz)) 8 2728 (va_A [(om, .inr (6, [.int (0 : Int32), .int (0 : Int32), .int (0 : Int32), .null, .null, .null, .int (0 : Int32), .null, .null, .int (0 : Int32), .int (0 : Int32), .int (0 : Int32), .int (0 : Int32), .int (0 : Int32), .int (0 : Int32), .null, .null, .int (0 : Int32), .null]))] sz) := by
  refine Met.ofW (cc := cZM_init) (maxL := 3) (ret := none) (by decide) rfl ?_
  intro p e s m args below meth c s₁ B hml hv
  obtain ⟨ha9, hsz, hP, hK, hE, hD0⟩ := hv
  have hx := B.exec
  have hb := B.bytes
  have hr := B.returns
  have hts0 := atoms_spec (ws := wsZM_init) B.pre
  have hts : ∀ w ∈ tbg, w.before args s = true := fun w h => hts0 w (List.mem_cons_of_mem _ h)
  have hown : s.vm.findClass RZM = some m.cls := findClass_of_methodNamed B.named
  have hlocks := B.notSynchronized
  have hin : meth.name = "<init>" := (name_of_methodNamed B.named B.method).1
  subst hsz
  have hD := hD0.self (sz := s.heap.size)
  refine gx_Q (fun Q9 hQ9 => ?_)
  generalize hAe : va_A [(om, .inr (6, [.int (0 : Int32), .int (0 : Int32), .int (0 : Int32), .null, .null, .null, .int (0 : Int32), .null, .null, .int (0 : Int32), .int (0 : Int32), .int (0 : Int32), .int (0 : Int32), .int (0 : Int32), .int (0 : Int32), .null, .null, .int (0 : Int32), .null]))] s.heap.size = A at hD hQ9 ⊢
  have hA : ∀ q : Nat, s.heap.size ≤ q → A q := fun q h => by rw [← hAe]; exact Or.inr h
  have hS : va_S A s.heap s.heap [] := va_S.rf
  have hl := lv_entry ([.ref om, .int a1, .int a2]) (n := 3) (Nat.le_of_ble_eq_true rfl)
  have he9 : entryFrame m args 3 = F0 m 0 ((lg_sl [.ref om, .int a1, .int a2] ++ List.replicate (3 - (lg_sl ([.ref om, .int a1, .int a2] : List Value)).length) Slot.unset).toArray) [] := by rw [ha9]; exact lg_entry_eq m [.ref om, .int a1, .int a2] 3
  rw [he9]
  generalize (lg_sl ([.ref om, .int a1, .int a2] : List Value) ++ List.replicate (3 - (lg_sl ([.ref om, .int a1, .int a2] : List Value)).length) Slot.unset).toArray = ls at hl ⊢
  have hl : lv_has ls 3 [(0, .ref om), (1, .int a1), (2, .int a2)] := hl
  refine lv_aload_n hx hb dZM_init_0 rfl (lv_at hl 0 rfl) ?_
  refine W.objInit hx hb hown (hts _ mm_614) (hts _ mm_23) (hts _ mm_24) rfl (by rw [hml]; exact hl.1) rfl dZM_init_1 (Nat.le_of_ble_eq_true rfl) (Nat.le_of_ble_eq_true rfl) ?_
  refine W.eq (g2 := F0 m 4 ls []) rfl ?_
  refine lv_aload_n hx hb dZM_init_4 rfl (lv_at hl 0 rfl) ?_
  refine lv_sipush (v := (1600 : Int32)) hx hb dZM_init_5 (by decide) ?_
  refine va_newa (atype := .int) (N' := 1600) (a0 := (1600, .inl (fun _ => 0))) (ty := .int) hx hb (hts _ mm_53) rfl hK hP hD hS hA (fun _ => rfl) (by decide) (by decide) (Nat.le_of_ble_eq_true rfl) (Nat.le_of_ble_eq_true rfl) (Nat.le_of_ble_eq_true rfl) dZM_init_8 (fun q_1 cAq_1 H hK2 hP hD hS => ?_)
  have hc_q_1 : cAq_1 = cI := Option.some.inj ((va_nm_int (hK2.2 1 _ rfl).2).symm.trans (va_nm_int (hK.2 0 _ rfl).2))
  rw [hc_q_1] at hP hD
  refine W.widen (k := 1) (n := 1600) (by omega) (by omega) ?_
  have hP : va_P (dC, dI) vwCl [(om, .inr (6, [.int (0 : Int32), .int (0 : Int32), .int (0 : Int32), .null, .null, .null, .int (0 : Int32), .null, .null, .int (0 : Int32), .int (0 : Int32), .int (0 : Int32), .int (0 : Int32), .int (0 : Int32), .int (0 : Int32), .null, .null, .int (0 : Int32), .null])), (q_1, .inl (cI, 1600, .inl (fun _ => 0)))] H := hP
  have hD : va_D A [(om, .inr (6, [.int (0 : Int32), .int (0 : Int32), .int (0 : Int32), .null, .null, .null, .int (0 : Int32), .null, .null, .int (0 : Int32), .int (0 : Int32), .int (0 : Int32), .int (0 : Int32), .int (0 : Int32), .int (0 : Int32), .null, .null, .int (0 : Int32), .null])), (q_1, .inl (cI, 1600, .inl (fun _ => 0)))] := hD
  refine va_putF (D := (dC, dI)) (ci := 6) (v := .ref q_1) (ty := (.array .int)) (C := RZM) (T := TZM) (N := 19) hx hb hts inZM tyZM tyZM_ok nmZM hown hK hP hD hS 0 rfl rfl 3 (by decide) (hts _ mm_621) (fun _ h9 => h9) rfl hin rfl (by decide +kernel) rfl rfl (Nat.le_of_ble_eq_true rfl) dZM_init_10 (fun H locs hP hD hS => ?_)
  have hP : va_P (dC, dI) vwCl [(om, .inr (6, [.int (0 : Int32), .int (0 : Int32), .int (0 : Int32), .ref q_1, .null, .null, .int (0 : Int32), .null, .null, .int (0 : Int32), .int (0 : Int32), .int (0 : Int32), .int (0 : Int32), .int (0 : Int32), .int (0 : Int32), .null, .null, .int (0 : Int32), .null])), (q_1, .inl (cI, 1600, .inl (fun _ => 0)))] H := hP
  have hD : va_D A [(om, .inr (6, [.int (0 : Int32), .int (0 : Int32), .int (0 : Int32), .ref q_1, .null, .null, .int (0 : Int32), .null, .null, .int (0 : Int32), .int (0 : Int32), .int (0 : Int32), .int (0 : Int32), .int (0 : Int32), .int (0 : Int32), .null, .null, .int (0 : Int32), .null])), (q_1, .inl (cI, 1600, .inl (fun _ => 0)))] := hD
  refine lv_aload_n hx hb dZM_init_13 rfl (lv_at hl 0 rfl) ?_
  refine lv_sipush (v := (320 : Int32)) hx hb dZM_init_14 (by decide) ?_
  refine va_newa (atype := .int) (N' := 320) (a0 := (320, .inl (fun _ => 0))) (ty := .int) hx hb (hts _ mm_53) rfl hK hP hD hS hA (fun _ => rfl) (by decide) (by decide) (Nat.le_of_ble_eq_true rfl) (Nat.le_of_ble_eq_true rfl) (Nat.le_of_ble_eq_true rfl) dZM_init_17 (fun q_3 cAq_3 H hK2 hP hD hS => ?_)
  have hc_q_3 : cAq_3 = cI := Option.some.inj ((va_nm_int (hK2.2 1 _ rfl).2).symm.trans (va_nm_int (hK.2 0 _ rfl).2))
  rw [hc_q_3] at hP hD
  refine W.widen (k := 2) (n := 1920) (by omega) (by omega) ?_
  have hP : va_P (dC, dI) vwCl [(om, .inr (6, [.int (0 : Int32), .int (0 : Int32), .int (0 : Int32), .ref q_1, .null, .null, .int (0 : Int32), .null, .null, .int (0 : Int32), .int (0 : Int32), .int (0 : Int32), .int (0 : Int32), .int (0 : Int32), .int (0 : Int32), .null, .null, .int (0 : Int32), .null])), (q_1, .inl (cI, 1600, .inl (fun _ => 0))), (q_3, .inl (cI, 320, .inl (fun _ => 0)))] H := hP
  have hD : va_D A [(om, .inr (6, [.int (0 : Int32), .int (0 : Int32), .int (0 : Int32), .ref q_1, .null, .null, .int (0 : Int32), .null, .null, .int (0 : Int32), .int (0 : Int32), .int (0 : Int32), .int (0 : Int32), .int (0 : Int32), .int (0 : Int32), .null, .null, .int (0 : Int32), .null])), (q_1, .inl (cI, 1600, .inl (fun _ => 0))), (q_3, .inl (cI, 320, .inl (fun _ => 0)))] := hD
  refine va_putF (D := (dC, dI)) (ci := 6) (v := .ref q_3) (ty := (.array .int)) (C := RZM) (T := TZM) (N := 19) hx hb hts inZM tyZM tyZM_ok nmZM hown hK hP hD hS 0 rfl rfl 4 (by decide) (hts _ mm_622) (fun _ h9 => h9) rfl hin rfl (by decide +kernel) rfl rfl (Nat.le_of_ble_eq_true rfl) dZM_init_19 (fun H locs hP hD hS => ?_)
  have hP : va_P (dC, dI) vwCl [(om, .inr (6, [.int (0 : Int32), .int (0 : Int32), .int (0 : Int32), .ref q_1, .ref q_3, .null, .int (0 : Int32), .null, .null, .int (0 : Int32), .int (0 : Int32), .int (0 : Int32), .int (0 : Int32), .int (0 : Int32), .int (0 : Int32), .null, .null, .int (0 : Int32), .null])), (q_1, .inl (cI, 1600, .inl (fun _ => 0))), (q_3, .inl (cI, 320, .inl (fun _ => 0)))] H := hP
  have hD : va_D A [(om, .inr (6, [.int (0 : Int32), .int (0 : Int32), .int (0 : Int32), .ref q_1, .ref q_3, .null, .int (0 : Int32), .null, .null, .int (0 : Int32), .int (0 : Int32), .int (0 : Int32), .int (0 : Int32), .int (0 : Int32), .int (0 : Int32), .null, .null, .int (0 : Int32), .null])), (q_1, .inl (cI, 1600, .inl (fun _ => 0))), (q_3, .inl (cI, 320, .inl (fun _ => 0)))] := hD
  refine lv_aload_n hx hb dZM_init_22 rfl (lv_at hl 0 rfl) ?_
  refine lv_sipush (v := (256 : Int32)) hx hb dZM_init_23 (by decide) ?_
  refine va_newa (atype := .int) (N' := 256) (a0 := (256, .inl (fun _ => 0))) (ty := .int) hx hb (hts _ mm_53) rfl hK hP hD hS hA (fun _ => rfl) (by decide) (by decide) (Nat.le_of_ble_eq_true rfl) (Nat.le_of_ble_eq_true rfl) (Nat.le_of_ble_eq_true rfl) dZM_init_26 (fun q_5 cAq_5 H hK2 hP hD hS => ?_)
  have hc_q_5 : cAq_5 = cI := Option.some.inj ((va_nm_int (hK2.2 1 _ rfl).2).symm.trans (va_nm_int (hK.2 0 _ rfl).2))
  rw [hc_q_5] at hP hD
  refine W.widen (k := 3) (n := 2176) (by omega) (by omega) ?_
  have hP : va_P (dC, dI) vwCl [(om, .inr (6, [.int (0 : Int32), .int (0 : Int32), .int (0 : Int32), .ref q_1, .ref q_3, .null, .int (0 : Int32), .null, .null, .int (0 : Int32), .int (0 : Int32), .int (0 : Int32), .int (0 : Int32), .int (0 : Int32), .int (0 : Int32), .null, .null, .int (0 : Int32), .null])), (q_1, .inl (cI, 1600, .inl (fun _ => 0))), (q_3, .inl (cI, 320, .inl (fun _ => 0))), (q_5, .inl (cI, 256, .inl (fun _ => 0)))] H := hP
  have hD : va_D A [(om, .inr (6, [.int (0 : Int32), .int (0 : Int32), .int (0 : Int32), .ref q_1, .ref q_3, .null, .int (0 : Int32), .null, .null, .int (0 : Int32), .int (0 : Int32), .int (0 : Int32), .int (0 : Int32), .int (0 : Int32), .int (0 : Int32), .null, .null, .int (0 : Int32), .null])), (q_1, .inl (cI, 1600, .inl (fun _ => 0))), (q_3, .inl (cI, 320, .inl (fun _ => 0))), (q_5, .inl (cI, 256, .inl (fun _ => 0)))] := hD
  refine va_putF (D := (dC, dI)) (ci := 6) (v := .ref q_5) (ty := (.array .int)) (C := RZM) (T := TZM) (N := 19) hx hb hts inZM tyZM tyZM_ok nmZM hown hK hP hD hS 0 rfl rfl 5 (by decide) (hts _ mm_623) (fun _ h9 => h9) rfl hin rfl (by decide +kernel) rfl rfl (Nat.le_of_ble_eq_true rfl) dZM_init_28 (fun H locs hP hD hS => ?_)
  have hP : va_P (dC, dI) vwCl [(om, .inr (6, [.int (0 : Int32), .int (0 : Int32), .int (0 : Int32), .ref q_1, .ref q_3, .ref q_5, .int (0 : Int32), .null, .null, .int (0 : Int32), .int (0 : Int32), .int (0 : Int32), .int (0 : Int32), .int (0 : Int32), .int (0 : Int32), .null, .null, .int (0 : Int32), .null])), (q_1, .inl (cI, 1600, .inl (fun _ => 0))), (q_3, .inl (cI, 320, .inl (fun _ => 0))), (q_5, .inl (cI, 256, .inl (fun _ => 0)))] H := hP
  have hD : va_D A [(om, .inr (6, [.int (0 : Int32), .int (0 : Int32), .int (0 : Int32), .ref q_1, .ref q_3, .ref q_5, .int (0 : Int32), .null, .null, .int (0 : Int32), .int (0 : Int32), .int (0 : Int32), .int (0 : Int32), .int (0 : Int32), .int (0 : Int32), .null, .null, .int (0 : Int32), .null])), (q_1, .inl (cI, 1600, .inl (fun _ => 0))), (q_3, .inl (cI, 320, .inl (fun _ => 0))), (q_5, .inl (cI, 256, .inl (fun _ => 0)))] := hD
  refine lv_aload_n hx hb dZM_init_31 rfl (lv_at hl 0 rfl) ?_
  refine lv_bipush (v := (64 : Int32)) hx hb dZM_init_32 (by decide) ?_
  refine va_newa (atype := .int) (N' := 64) (a0 := (64, .inl (fun _ => 0))) (ty := .int) hx hb (hts _ mm_53) rfl hK hP hD hS hA (fun _ => rfl) (by decide) (by decide) (Nat.le_of_ble_eq_true rfl) (Nat.le_of_ble_eq_true rfl) (Nat.le_of_ble_eq_true rfl) dZM_init_34 (fun q_7 cAq_7 H hK2 hP hD hS => ?_)
  have hc_q_7 : cAq_7 = cI := Option.some.inj ((va_nm_int (hK2.2 1 _ rfl).2).symm.trans (va_nm_int (hK.2 0 _ rfl).2))
  rw [hc_q_7] at hP hD
  refine W.widen (k := 4) (n := 2240) (by omega) (by omega) ?_
  have hP : va_P (dC, dI) vwCl [(om, .inr (6, [.int (0 : Int32), .int (0 : Int32), .int (0 : Int32), .ref q_1, .ref q_3, .ref q_5, .int (0 : Int32), .null, .null, .int (0 : Int32), .int (0 : Int32), .int (0 : Int32), .int (0 : Int32), .int (0 : Int32), .int (0 : Int32), .null, .null, .int (0 : Int32), .null])), (q_1, .inl (cI, 1600, .inl (fun _ => 0))), (q_3, .inl (cI, 320, .inl (fun _ => 0))), (q_5, .inl (cI, 256, .inl (fun _ => 0))), (q_7, .inl (cI, 64, .inl (fun _ => 0)))] H := hP
  have hD : va_D A [(om, .inr (6, [.int (0 : Int32), .int (0 : Int32), .int (0 : Int32), .ref q_1, .ref q_3, .ref q_5, .int (0 : Int32), .null, .null, .int (0 : Int32), .int (0 : Int32), .int (0 : Int32), .int (0 : Int32), .int (0 : Int32), .int (0 : Int32), .null, .null, .int (0 : Int32), .null])), (q_1, .inl (cI, 1600, .inl (fun _ => 0))), (q_3, .inl (cI, 320, .inl (fun _ => 0))), (q_5, .inl (cI, 256, .inl (fun _ => 0))), (q_7, .inl (cI, 64, .inl (fun _ => 0)))] := hD
  refine va_putF (D := (dC, dI)) (ci := 6) (v := .ref q_7) (ty := (.array .int)) (C := RZM) (T := TZM) (N := 19) hx hb hts inZM tyZM tyZM_ok nmZM hown hK hP hD hS 0 rfl rfl 7 (by decide) (hts _ mm_625) (fun _ h9 => h9) rfl hin rfl (by decide +kernel) rfl rfl (Nat.le_of_ble_eq_true rfl) dZM_init_36 (fun H locs hP hD hS => ?_)
  have hP : va_P (dC, dI) vwCl [(om, .inr (6, [.int (0 : Int32), .int (0 : Int32), .int (0 : Int32), .ref q_1, .ref q_3, .ref q_5, .int (0 : Int32), .ref q_7, .null, .int (0 : Int32), .int (0 : Int32), .int (0 : Int32), .int (0 : Int32), .int (0 : Int32), .int (0 : Int32), .null, .null, .int (0 : Int32), .null])), (q_1, .inl (cI, 1600, .inl (fun _ => 0))), (q_3, .inl (cI, 320, .inl (fun _ => 0))), (q_5, .inl (cI, 256, .inl (fun _ => 0))), (q_7, .inl (cI, 64, .inl (fun _ => 0)))] H := hP
  have hD : va_D A [(om, .inr (6, [.int (0 : Int32), .int (0 : Int32), .int (0 : Int32), .ref q_1, .ref q_3, .ref q_5, .int (0 : Int32), .ref q_7, .null, .int (0 : Int32), .int (0 : Int32), .int (0 : Int32), .int (0 : Int32), .int (0 : Int32), .int (0 : Int32), .null, .null, .int (0 : Int32), .null])), (q_1, .inl (cI, 1600, .inl (fun _ => 0))), (q_3, .inl (cI, 320, .inl (fun _ => 0))), (q_5, .inl (cI, 256, .inl (fun _ => 0))), (q_7, .inl (cI, 64, .inl (fun _ => 0)))] := hD
  refine lv_aload_n hx hb dZM_init_39 rfl (lv_at hl 0 rfl) ?_
  refine lv_bipush (v := (64 : Int32)) hx hb dZM_init_40 (by decide) ?_
  refine va_newa (atype := .int) (N' := 64) (a0 := (64, .inl (fun _ => 0))) (ty := .int) hx hb (hts _ mm_53) rfl hK hP hD hS hA (fun _ => rfl) (by decide) (by decide) (Nat.le_of_ble_eq_true rfl) (Nat.le_of_ble_eq_true rfl) (Nat.le_of_ble_eq_true rfl) dZM_init_42 (fun q_9 cAq_9 H hK2 hP hD hS => ?_)
  have hc_q_9 : cAq_9 = cI := Option.some.inj ((va_nm_int (hK2.2 1 _ rfl).2).symm.trans (va_nm_int (hK.2 0 _ rfl).2))
  rw [hc_q_9] at hP hD
  refine W.widen (k := 5) (n := 2304) (by omega) (by omega) ?_
  have hP : va_P (dC, dI) vwCl [(om, .inr (6, [.int (0 : Int32), .int (0 : Int32), .int (0 : Int32), .ref q_1, .ref q_3, .ref q_5, .int (0 : Int32), .ref q_7, .null, .int (0 : Int32), .int (0 : Int32), .int (0 : Int32), .int (0 : Int32), .int (0 : Int32), .int (0 : Int32), .null, .null, .int (0 : Int32), .null])), (q_1, .inl (cI, 1600, .inl (fun _ => 0))), (q_3, .inl (cI, 320, .inl (fun _ => 0))), (q_5, .inl (cI, 256, .inl (fun _ => 0))), (q_7, .inl (cI, 64, .inl (fun _ => 0))), (q_9, .inl (cI, 64, .inl (fun _ => 0)))] H := hP
  have hD : va_D A [(om, .inr (6, [.int (0 : Int32), .int (0 : Int32), .int (0 : Int32), .ref q_1, .ref q_3, .ref q_5, .int (0 : Int32), .ref q_7, .null, .int (0 : Int32), .int (0 : Int32), .int (0 : Int32), .int (0 : Int32), .int (0 : Int32), .int (0 : Int32), .null, .null, .int (0 : Int32), .null])), (q_1, .inl (cI, 1600, .inl (fun _ => 0))), (q_3, .inl (cI, 320, .inl (fun _ => 0))), (q_5, .inl (cI, 256, .inl (fun _ => 0))), (q_7, .inl (cI, 64, .inl (fun _ => 0))), (q_9, .inl (cI, 64, .inl (fun _ => 0)))] := hD
  refine va_putF (D := (dC, dI)) (ci := 6) (v := .ref q_9) (ty := (.array .int)) (C := RZM) (T := TZM) (N := 19) hx hb hts inZM tyZM tyZM_ok nmZM hown hK hP hD hS 0 rfl rfl 8 (by decide) (hts _ mm_626) (fun _ h9 => h9) rfl hin rfl (by decide +kernel) rfl rfl (Nat.le_of_ble_eq_true rfl) dZM_init_44 (fun H locs hP hD hS => ?_)
  have hP : va_P (dC, dI) vwCl [(om, .inr (6, [.int (0 : Int32), .int (0 : Int32), .int (0 : Int32), .ref q_1, .ref q_3, .ref q_5, .int (0 : Int32), .ref q_7, .ref q_9, .int (0 : Int32), .int (0 : Int32), .int (0 : Int32), .int (0 : Int32), .int (0 : Int32), .int (0 : Int32), .null, .null, .int (0 : Int32), .null])), (q_1, .inl (cI, 1600, .inl (fun _ => 0))), (q_3, .inl (cI, 320, .inl (fun _ => 0))), (q_5, .inl (cI, 256, .inl (fun _ => 0))), (q_7, .inl (cI, 64, .inl (fun _ => 0))), (q_9, .inl (cI, 64, .inl (fun _ => 0)))] H := hP
  have hD : va_D A [(om, .inr (6, [.int (0 : Int32), .int (0 : Int32), .int (0 : Int32), .ref q_1, .ref q_3, .ref q_5, .int (0 : Int32), .ref q_7, .ref q_9, .int (0 : Int32), .int (0 : Int32), .int (0 : Int32), .int (0 : Int32), .int (0 : Int32), .int (0 : Int32), .null, .null, .int (0 : Int32), .null])), (q_1, .inl (cI, 1600, .inl (fun _ => 0))), (q_3, .inl (cI, 320, .inl (fun _ => 0))), (q_5, .inl (cI, 256, .inl (fun _ => 0))), (q_7, .inl (cI, 64, .inl (fun _ => 0))), (q_9, .inl (cI, 64, .inl (fun _ => 0)))] := hD
  refine lv_aload_n hx hb dZM_init_47 rfl (lv_at hl 0 rfl) ?_
  refine lv_sipush (v := (320 : Int32)) hx hb dZM_init_48 (by decide) ?_
  refine va_newa (atype := .int) (N' := 320) (a0 := (320, .inl (fun _ => 0))) (ty := .int) hx hb (hts _ mm_53) rfl hK hP hD hS hA (fun _ => rfl) (by decide) (by decide) (Nat.le_of_ble_eq_true rfl) (Nat.le_of_ble_eq_true rfl) (Nat.le_of_ble_eq_true rfl) dZM_init_51 (fun q_11 cAq_11 H hK2 hP hD hS => ?_)
  have hc_q_11 : cAq_11 = cI := Option.some.inj ((va_nm_int (hK2.2 1 _ rfl).2).symm.trans (va_nm_int (hK.2 0 _ rfl).2))
  rw [hc_q_11] at hP hD
  refine W.widen (k := 6) (n := 2624) (by omega) (by omega) ?_
  have hP : va_P (dC, dI) vwCl [(om, .inr (6, [.int (0 : Int32), .int (0 : Int32), .int (0 : Int32), .ref q_1, .ref q_3, .ref q_5, .int (0 : Int32), .ref q_7, .ref q_9, .int (0 : Int32), .int (0 : Int32), .int (0 : Int32), .int (0 : Int32), .int (0 : Int32), .int (0 : Int32), .null, .null, .int (0 : Int32), .null])), (q_1, .inl (cI, 1600, .inl (fun _ => 0))), (q_3, .inl (cI, 320, .inl (fun _ => 0))), (q_5, .inl (cI, 256, .inl (fun _ => 0))), (q_7, .inl (cI, 64, .inl (fun _ => 0))), (q_9, .inl (cI, 64, .inl (fun _ => 0))), (q_11, .inl (cI, 320, .inl (fun _ => 0)))] H := hP
  have hD : va_D A [(om, .inr (6, [.int (0 : Int32), .int (0 : Int32), .int (0 : Int32), .ref q_1, .ref q_3, .ref q_5, .int (0 : Int32), .ref q_7, .ref q_9, .int (0 : Int32), .int (0 : Int32), .int (0 : Int32), .int (0 : Int32), .int (0 : Int32), .int (0 : Int32), .null, .null, .int (0 : Int32), .null])), (q_1, .inl (cI, 1600, .inl (fun _ => 0))), (q_3, .inl (cI, 320, .inl (fun _ => 0))), (q_5, .inl (cI, 256, .inl (fun _ => 0))), (q_7, .inl (cI, 64, .inl (fun _ => 0))), (q_9, .inl (cI, 64, .inl (fun _ => 0))), (q_11, .inl (cI, 320, .inl (fun _ => 0)))] := hD
  refine va_putF (D := (dC, dI)) (ci := 6) (v := .ref q_11) (ty := (.array .int)) (C := RZM) (T := TZM) (N := 19) hx hb hts inZM tyZM tyZM_ok nmZM hown hK hP hD hS 0 rfl rfl 15 (by decide) (hts _ mm_632) (fun _ h9 => h9) rfl hin rfl (by decide +kernel) rfl rfl (Nat.le_of_ble_eq_true rfl) dZM_init_53 (fun H locs hP hD hS => ?_)
  have hP : va_P (dC, dI) vwCl [(om, .inr (6, [.int (0 : Int32), .int (0 : Int32), .int (0 : Int32), .ref q_1, .ref q_3, .ref q_5, .int (0 : Int32), .ref q_7, .ref q_9, .int (0 : Int32), .int (0 : Int32), .int (0 : Int32), .int (0 : Int32), .int (0 : Int32), .int (0 : Int32), .ref q_11, .null, .int (0 : Int32), .null])), (q_1, .inl (cI, 1600, .inl (fun _ => 0))), (q_3, .inl (cI, 320, .inl (fun _ => 0))), (q_5, .inl (cI, 256, .inl (fun _ => 0))), (q_7, .inl (cI, 64, .inl (fun _ => 0))), (q_9, .inl (cI, 64, .inl (fun _ => 0))), (q_11, .inl (cI, 320, .inl (fun _ => 0)))] H := hP
  have hD : va_D A [(om, .inr (6, [.int (0 : Int32), .int (0 : Int32), .int (0 : Int32), .ref q_1, .ref q_3, .ref q_5, .int (0 : Int32), .ref q_7, .ref q_9, .int (0 : Int32), .int (0 : Int32), .int (0 : Int32), .int (0 : Int32), .int (0 : Int32), .int (0 : Int32), .ref q_11, .null, .int (0 : Int32), .null])), (q_1, .inl (cI, 1600, .inl (fun _ => 0))), (q_3, .inl (cI, 320, .inl (fun _ => 0))), (q_5, .inl (cI, 256, .inl (fun _ => 0))), (q_7, .inl (cI, 64, .inl (fun _ => 0))), (q_9, .inl (cI, 64, .inl (fun _ => 0))), (q_11, .inl (cI, 320, .inl (fun _ => 0)))] := hD
  refine lv_aload_n hx hb dZM_init_56 rfl (lv_at hl 0 rfl) ?_
  refine lv_bipush (v := (40 : Int32)) hx hb dZM_init_57 (by decide) ?_
  refine va_newa (atype := .int) (N' := 40) (a0 := (40, .inl (fun _ => 0))) (ty := .int) hx hb (hts _ mm_53) rfl hK hP hD hS hA (fun _ => rfl) (by decide) (by decide) (Nat.le_of_ble_eq_true rfl) (Nat.le_of_ble_eq_true rfl) (Nat.le_of_ble_eq_true rfl) dZM_init_59 (fun q_13 cAq_13 H hK2 hP hD hS => ?_)
  have hc_q_13 : cAq_13 = cI := Option.some.inj ((va_nm_int (hK2.2 1 _ rfl).2).symm.trans (va_nm_int (hK.2 0 _ rfl).2))
  rw [hc_q_13] at hP hD
  refine W.widen (k := 7) (n := 2664) (by omega) (by omega) ?_
  have hP : va_P (dC, dI) vwCl [(om, .inr (6, [.int (0 : Int32), .int (0 : Int32), .int (0 : Int32), .ref q_1, .ref q_3, .ref q_5, .int (0 : Int32), .ref q_7, .ref q_9, .int (0 : Int32), .int (0 : Int32), .int (0 : Int32), .int (0 : Int32), .int (0 : Int32), .int (0 : Int32), .ref q_11, .null, .int (0 : Int32), .null])), (q_1, .inl (cI, 1600, .inl (fun _ => 0))), (q_3, .inl (cI, 320, .inl (fun _ => 0))), (q_5, .inl (cI, 256, .inl (fun _ => 0))), (q_7, .inl (cI, 64, .inl (fun _ => 0))), (q_9, .inl (cI, 64, .inl (fun _ => 0))), (q_11, .inl (cI, 320, .inl (fun _ => 0))), (q_13, .inl (cI, 40, .inl (fun _ => 0)))] H := hP
  have hD : va_D A [(om, .inr (6, [.int (0 : Int32), .int (0 : Int32), .int (0 : Int32), .ref q_1, .ref q_3, .ref q_5, .int (0 : Int32), .ref q_7, .ref q_9, .int (0 : Int32), .int (0 : Int32), .int (0 : Int32), .int (0 : Int32), .int (0 : Int32), .int (0 : Int32), .ref q_11, .null, .int (0 : Int32), .null])), (q_1, .inl (cI, 1600, .inl (fun _ => 0))), (q_3, .inl (cI, 320, .inl (fun _ => 0))), (q_5, .inl (cI, 256, .inl (fun _ => 0))), (q_7, .inl (cI, 64, .inl (fun _ => 0))), (q_9, .inl (cI, 64, .inl (fun _ => 0))), (q_11, .inl (cI, 320, .inl (fun _ => 0))), (q_13, .inl (cI, 40, .inl (fun _ => 0)))] := hD
  refine va_putF (D := (dC, dI)) (ci := 6) (v := .ref q_13) (ty := (.array .int)) (C := RZM) (T := TZM) (N := 19) hx hb hts inZM tyZM tyZM_ok nmZM hown hK hP hD hS 0 rfl rfl 16 (by decide) (hts _ mm_633) (fun _ h9 => h9) rfl hin rfl (by decide +kernel) rfl rfl (Nat.le_of_ble_eq_true rfl) dZM_init_61 (fun H locs hP hD hS => ?_)
  have hP : va_P (dC, dI) vwCl [(om, .inr (6, [.int (0 : Int32), .int (0 : Int32), .int (0 : Int32), .ref q_1, .ref q_3, .ref q_5, .int (0 : Int32), .ref q_7, .ref q_9, .int (0 : Int32), .int (0 : Int32), .int (0 : Int32), .int (0 : Int32), .int (0 : Int32), .int (0 : Int32), .ref q_11, .ref q_13, .int (0 : Int32), .null])), (q_1, .inl (cI, 1600, .inl (fun _ => 0))), (q_3, .inl (cI, 320, .inl (fun _ => 0))), (q_5, .inl (cI, 256, .inl (fun _ => 0))), (q_7, .inl (cI, 64, .inl (fun _ => 0))), (q_9, .inl (cI, 64, .inl (fun _ => 0))), (q_11, .inl (cI, 320, .inl (fun _ => 0))), (q_13, .inl (cI, 40, .inl (fun _ => 0)))] H := hP
  have hD : va_D A [(om, .inr (6, [.int (0 : Int32), .int (0 : Int32), .int (0 : Int32), .ref q_1, .ref q_3, .ref q_5, .int (0 : Int32), .ref q_7, .ref q_9, .int (0 : Int32), .int (0 : Int32), .int (0 : Int32), .int (0 : Int32), .int (0 : Int32), .int (0 : Int32), .ref q_11, .ref q_13, .int (0 : Int32), .null])), (q_1, .inl (cI, 1600, .inl (fun _ => 0))), (q_3, .inl (cI, 320, .inl (fun _ => 0))), (q_5, .inl (cI, 256, .inl (fun _ => 0))), (q_7, .inl (cI, 64, .inl (fun _ => 0))), (q_9, .inl (cI, 64, .inl (fun _ => 0))), (q_11, .inl (cI, 320, .inl (fun _ => 0))), (q_13, .inl (cI, 40, .inl (fun _ => 0)))] := hD
  refine lv_aload_n hx hb dZM_init_64 rfl (lv_at hl 0 rfl) ?_
  refine lv_bipush (v := (64 : Int32)) hx hb dZM_init_65 (by decide) ?_
  refine va_newa (atype := .int) (N' := 64) (a0 := (64, .inl (fun _ => 0))) (ty := .int) hx hb (hts _ mm_53) rfl hK hP hD hS hA (fun _ => rfl) (by decide) (by decide) (Nat.le_of_ble_eq_true rfl) (Nat.le_of_ble_eq_true rfl) (Nat.le_of_ble_eq_true rfl) dZM_init_67 (fun q_15 cAq_15 H hK2 hP hD hS => ?_)
  have hc_q_15 : cAq_15 = cI := Option.some.inj ((va_nm_int (hK2.2 1 _ rfl).2).symm.trans (va_nm_int (hK.2 0 _ rfl).2))
  rw [hc_q_15] at hP hD
  refine W.widen (k := 8) (n := 2728) (by omega) (by omega) ?_
  have hP : va_P (dC, dI) vwCl [(om, .inr (6, [.int (0 : Int32), .int (0 : Int32), .int (0 : Int32), .ref q_1, .ref q_3, .ref q_5, .int (0 : Int32), .ref q_7, .ref q_9, .int (0 : Int32), .int (0 : Int32), .int (0 : Int32), .int (0 : Int32), .int (0 : Int32), .int (0 : Int32), .ref q_11, .ref q_13, .int (0 : Int32), .null])), (q_1, .inl (cI, 1600, .inl (fun _ => 0))), (q_3, .inl (cI, 320, .inl (fun _ => 0))), (q_5, .inl (cI, 256, .inl (fun _ => 0))), (q_7, .inl (cI, 64, .inl (fun _ => 0))), (q_9, .inl (cI, 64, .inl (fun _ => 0))), (q_11, .inl (cI, 320, .inl (fun _ => 0))), (q_13, .inl (cI, 40, .inl (fun _ => 0))), (q_15, .inl (cI, 64, .inl (fun _ => 0)))] H := hP
  have hD : va_D A [(om, .inr (6, [.int (0 : Int32), .int (0 : Int32), .int (0 : Int32), .ref q_1, .ref q_3, .ref q_5, .int (0 : Int32), .ref q_7, .ref q_9, .int (0 : Int32), .int (0 : Int32), .int (0 : Int32), .int (0 : Int32), .int (0 : Int32), .int (0 : Int32), .ref q_11, .ref q_13, .int (0 : Int32), .null])), (q_1, .inl (cI, 1600, .inl (fun _ => 0))), (q_3, .inl (cI, 320, .inl (fun _ => 0))), (q_5, .inl (cI, 256, .inl (fun _ => 0))), (q_7, .inl (cI, 64, .inl (fun _ => 0))), (q_9, .inl (cI, 64, .inl (fun _ => 0))), (q_11, .inl (cI, 320, .inl (fun _ => 0))), (q_13, .inl (cI, 40, .inl (fun _ => 0))), (q_15, .inl (cI, 64, .inl (fun _ => 0)))] := hD
  refine va_putF (D := (dC, dI)) (ci := 6) (v := .ref q_15) (ty := (.array .int)) (C := RZM) (T := TZM) (N := 19) hx hb hts inZM tyZM tyZM_ok nmZM hown hK hP hD hS 0 rfl rfl 18 (by decide) (hts _ mm_635) (fun _ h9 => h9) rfl hin rfl (by decide +kernel) rfl rfl (Nat.le_of_ble_eq_true rfl) dZM_init_69 (fun H locs hP hD hS => ?_)
  have hP : va_P (dC, dI) vwCl [(om, .inr (6, [.int (0 : Int32), .int (0 : Int32), .int (0 : Int32), .ref q_1, .ref q_3, .ref q_5, .int (0 : Int32), .ref q_7, .ref q_9, .int (0 : Int32), .int (0 : Int32), .int (0 : Int32), .int (0 : Int32), .int (0 : Int32), .int (0 : Int32), .ref q_11, .ref q_13, .int (0 : Int32), .ref q_15])), (q_1, .inl (cI, 1600, .inl (fun _ => 0))), (q_3, .inl (cI, 320, .inl (fun _ => 0))), (q_5, .inl (cI, 256, .inl (fun _ => 0))), (q_7, .inl (cI, 64, .inl (fun _ => 0))), (q_9, .inl (cI, 64, .inl (fun _ => 0))), (q_11, .inl (cI, 320, .inl (fun _ => 0))), (q_13, .inl (cI, 40, .inl (fun _ => 0))), (q_15, .inl (cI, 64, .inl (fun _ => 0)))] H := hP
  have hD : va_D A [(om, .inr (6, [.int (0 : Int32), .int (0 : Int32), .int (0 : Int32), .ref q_1, .ref q_3, .ref q_5, .int (0 : Int32), .ref q_7, .ref q_9, .int (0 : Int32), .int (0 : Int32), .int (0 : Int32), .int (0 : Int32), .int (0 : Int32), .int (0 : Int32), .ref q_11, .ref q_13, .int (0 : Int32), .ref q_15])), (q_1, .inl (cI, 1600, .inl (fun _ => 0))), (q_3, .inl (cI, 320, .inl (fun _ => 0))), (q_5, .inl (cI, 256, .inl (fun _ => 0))), (q_7, .inl (cI, 64, .inl (fun _ => 0))), (q_9, .inl (cI, 64, .inl (fun _ => 0))), (q_11, .inl (cI, 320, .inl (fun _ => 0))), (q_13, .inl (cI, 40, .inl (fun _ => 0))), (q_15, .inl (cI, 64, .inl (fun _ => 0)))] := hD
  refine lv_aload_n hx hb dZM_init_72 rfl (lv_at hl 0 rfl) ?_
  refine lv_iload_n hx hb dZM_init_73 rfl (lv_at hl 1 rfl) ?_
  have hPc := hP.sub (ws' := []) [] rfl
  refine vp_callSi (va_runS (As := [.int a1]) (rest := [.ref om]) ⟨hx, hb, hml, hown, hts⟩ (kt_ZM_held l dC dI cI  a1 _ hw) (va_cwS 1 hts (tb_S mm_615 mm_616 mm_8 mm_617) rfl rfl rfl (by decide +kernel) ⟨Nat.le_of_ble_eq_true rfl, Nat.le_of_ble_eq_true rfl⟩) ⟨gr_blind, fun U hU hW => gr_pre hPc hK hE hU hW⟩ rfl rfl hl.1 rfl (lv_room (Nat.le_of_ble_eq_true rfl)) dZM_init_74 ⟨Nat.le_of_ble_eq_true rfl, Nat.le_of_ble_eq_true rfl⟩).run (fun r_17 hw => ?_)
  refine va_putF (D := (dC, dI)) (ci := 6) (v := .int r_17) (ty := .int) (C := RZM) (T := TZM) (N := 19) hx hb hts inZM tyZM tyZM_ok nmZM hown hK hP hD hS 0 rfl rfl 1 (by decide) (hts _ mm_619) (fun _ h9 => h9) rfl hin rfl (by decide +kernel) rfl rfl (Nat.le_of_ble_eq_true rfl) dZM_init_77 (fun H locs hP hD hS => ?_)
  have hP : va_P (dC, dI) vwCl [(om, .inr (6, [.int (0 : Int32), .int r_17, .int (0 : Int32), .ref q_1, .ref q_3, .ref q_5, .int (0 : Int32), .ref q_7, .ref q_9, .int (0 : Int32), .int (0 : Int32), .int (0 : Int32), .int (0 : Int32), .int (0 : Int32), .int (0 : Int32), .ref q_11, .ref q_13, .int (0 : Int32), .ref q_15])), (q_1, .inl (cI, 1600, .inl (fun _ => 0))), (q_3, .inl (cI, 320, .inl (fun _ => 0))), (q_5, .inl (cI, 256, .inl (fun _ => 0))), (q_7, .inl (cI, 64, .inl (fun _ => 0))), (q_9, .inl (cI, 64, .inl (fun _ => 0))), (q_11, .inl (cI, 320, .inl (fun _ => 0))), (q_13, .inl (cI, 40, .inl (fun _ => 0))), (q_15, .inl (cI, 64, .inl (fun _ => 0)))] H := hP
  have hD : va_D A [(om, .inr (6, [.int (0 : Int32), .int r_17, .int (0 : Int32), .ref q_1, .ref q_3, .ref q_5, .int (0 : Int32), .ref q_7, .ref q_9, .int (0 : Int32), .int (0 : Int32), .int (0 : Int32), .int (0 : Int32), .int (0 : Int32), .int (0 : Int32), .ref q_11, .ref q_13, .int (0 : Int32), .ref q_15])), (q_1, .inl (cI, 1600, .inl (fun _ => 0))), (q_3, .inl (cI, 320, .inl (fun _ => 0))), (q_5, .inl (cI, 256, .inl (fun _ => 0))), (q_7, .inl (cI, 64, .inl (fun _ => 0))), (q_9, .inl (cI, 64, .inl (fun _ => 0))), (q_11, .inl (cI, 320, .inl (fun _ => 0))), (q_13, .inl (cI, 40, .inl (fun _ => 0))), (q_15, .inl (cI, 64, .inl (fun _ => 0)))] := hD
  refine lv_aload_n hx hb dZM_init_80 rfl (lv_at hl 0 rfl) ?_
  refine lv_iload_n hx hb dZM_init_81 rfl (lv_at hl 2 rfl) ?_
  have hPc := hP.sub (ws' := []) [] rfl
  refine vp_callSi (va_runS (As := [.int a2]) (rest := [.ref om]) ⟨hx, hb, hml, hown, hts⟩ (kt_ZM_held l dC dI cI  a2 _ hw) (va_cwS 1 hts (tb_S mm_615 mm_616 mm_8 mm_617) rfl rfl rfl (by decide +kernel) ⟨Nat.le_of_ble_eq_true rfl, Nat.le_of_ble_eq_true rfl⟩) ⟨gr_blind, fun U hU hW => gr_pre hPc hK hE hU hW⟩ rfl rfl hl.1 rfl (lv_room (Nat.le_of_ble_eq_true rfl)) dZM_init_82 ⟨Nat.le_of_ble_eq_true rfl, Nat.le_of_ble_eq_true rfl⟩).run (fun r_18 hw => ?_)
  refine va_putF (D := (dC, dI)) (ci := 6) (v := .int r_18) (ty := .int) (C := RZM) (T := TZM) (N := 19) hx hb hts inZM tyZM tyZM_ok nmZM hown hK hP hD hS 0 rfl rfl 2 (by decide) (hts _ mm_620) (fun _ h9 => h9) rfl hin rfl (by decide +kernel) rfl rfl (Nat.le_of_ble_eq_true rfl) dZM_init_85 (fun H locs hP hD hS => ?_)
  have hP : va_P (dC, dI) vwCl [(om, .inr (6, [.int (0 : Int32), .int r_17, .int r_18, .ref q_1, .ref q_3, .ref q_5, .int (0 : Int32), .ref q_7, .ref q_9, .int (0 : Int32), .int (0 : Int32), .int (0 : Int32), .int (0 : Int32), .int (0 : Int32), .int (0 : Int32), .ref q_11, .ref q_13, .int (0 : Int32), .ref q_15])), (q_1, .inl (cI, 1600, .inl (fun _ => 0))), (q_3, .inl (cI, 320, .inl (fun _ => 0))), (q_5, .inl (cI, 256, .inl (fun _ => 0))), (q_7, .inl (cI, 64, .inl (fun _ => 0))), (q_9, .inl (cI, 64, .inl (fun _ => 0))), (q_11, .inl (cI, 320, .inl (fun _ => 0))), (q_13, .inl (cI, 40, .inl (fun _ => 0))), (q_15, .inl (cI, 64, .inl (fun _ => 0)))] H := hP
  have hD : va_D A [(om, .inr (6, [.int (0 : Int32), .int r_17, .int r_18, .ref q_1, .ref q_3, .ref q_5, .int (0 : Int32), .ref q_7, .ref q_9, .int (0 : Int32), .int (0 : Int32), .int (0 : Int32), .int (0 : Int32), .int (0 : Int32), .int (0 : Int32), .ref q_11, .ref q_13, .int (0 : Int32), .ref q_15])), (q_1, .inl (cI, 1600, .inl (fun _ => 0))), (q_3, .inl (cI, 320, .inl (fun _ => 0))), (q_5, .inl (cI, 256, .inl (fun _ => 0))), (q_7, .inl (cI, 64, .inl (fun _ => 0))), (q_9, .inl (cI, 64, .inl (fun _ => 0))), (q_11, .inl (cI, 320, .inl (fun _ => 0))), (q_13, .inl (cI, 40, .inl (fun _ => 0))), (q_15, .inl (cI, 64, .inl (fun _ => 0)))] := hD
  have hP9 := hP.sub (ws' := [(om, .inr (6, [.int (0 : Int32), .int r_17, .int r_18, .ref q_1, .ref q_3, .ref q_5, .int (0 : Int32), .ref q_7, .ref q_9, .int (0 : Int32), .int (0 : Int32), .int (0 : Int32), .int (0 : Int32), .int (0 : Int32), .int (0 : Int32), .ref q_11, .ref q_13, .int (0 : Int32), .ref q_15])), (q_1, .inl (cI, 1600, .inl (fun _ => 0))), (q_3, .inl (cI, 320, .inl (fun _ => 0))), (q_5, .inl (cI, 256, .inl (fun _ => 0))), (q_7, .inl (cI, 64, .inl (fun _ => 0))), (q_9, .inl (cI, 64, .inl (fun _ => 0))), (q_11, .inl (cI, 320, .inl (fun _ => 0))), (q_13, .inl (cI, 40, .inl (fun _ => 0))), (q_15, .inl (cI, 64, .inl (fun _ => 0)))]) [0, 1, 2, 3, 4, 5, 6, 7, 8] rfl
  have hD9 := hD.sub (ws' := [(om, .inr (6, [.int (0 : Int32), .int r_17, .int r_18, .ref q_1, .ref q_3, .ref q_5, .int (0 : Int32), .ref q_7, .ref q_9, .int (0 : Int32), .int (0 : Int32), .int (0 : Int32), .int (0 : Int32), .int (0 : Int32), .int (0 : Int32), .ref q_11, .ref q_13, .int (0 : Int32), .ref q_15])), (q_1, .inl (cI, 1600, .inl (fun _ => 0))), (q_3, .inl (cI, 320, .inl (fun _ => 0))), (q_5, .inl (cI, 256, .inl (fun _ => 0))), (q_7, .inl (cI, 64, .inl (fun _ => 0))), (q_9, .inl (cI, 64, .inl (fun _ => 0))), (q_11, .inl (cI, 320, .inl (fun _ => 0))), (q_13, .inl (cI, 40, .inl (fun _ => 0))), (q_15, .inl (cI, 64, .inl (fun _ => 0)))]) [0, 1, 2, 3, 4, 5, 6, 7, 8] (by decide) rfl
  subst hQ9
  exact W.vret hx hb hr (fun t ht hW => ⟨⟨((0 : Int32), r_17, r_18, (fun _ => 0), (fun _ => 0), (fun _ => 0), (0 : Int32), (fun _ => 0), (fun _ => 0), (0 : Int32), (0 : Int32), (0 : Int32), (0 : Int32), (0 : Int32), (0 : Int32), (fun _ => 0), (fun _ => 0), (0 : Int32), (fun _ => 0)), rfl, hw, q_1, q_3, q_5, q_7, q_9, q_11, q_13, q_15, by rw [ht]; exact hP9, va_K.moved hW.alike hK, hD9⟩, hS.F ht⟩) hS.2.2 dZM_init_88
