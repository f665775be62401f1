/-! Decode rows, meanings and rows of: R_makeSwaps, R_makeGathers, R_make, B_size, R_size, B_requireStep, P_amountAt, P_opAt, B_step, L_step, R_noStep, R_step, P_maskAt, B_mask. Written by program. -/
theorem d_R_makeSwaps_0 : decode prog_9_method_16_code 0 = .ok (.iconst 0, 1) := by decide +kernel
theorem d_R_makeSwaps_1 : decode prog_9_method_16_code 1 = .ok (.istore_n 1, 1) := by decide +kernel
theorem d_R_makeSwaps_2 : decode prog_9_method_16_code 2 = .ok (.iload_n 1, 1) := by decide +kernel
theorem d_R_makeSwaps_3 : decode prog_9_method_16_code 3 = .ok (.aload_n 0, 1) := by decide +kernel
theorem d_R_makeSwaps_4 : decode prog_9_method_16_code 4 = .ok (.getfield 89, 3) := by decide +kernel
theorem d_R_makeSwaps_7 : decode prog_9_method_16_code 7 = .ok (.if_icmp .ge 21, 3) := by decide +kernel
theorem d_R_makeSwaps_10 : decode prog_9_method_16_code 10 = .ok (.aload_n 0, 1) := by decide +kernel
theorem d_R_makeSwaps_11 : decode prog_9_method_16_code 11 = .ok (.getfield 45, 3) := by decide +kernel
theorem d_R_makeSwaps_14 : decode prog_9_method_16_code 14 = .ok (.iload_n 1, 1) := by decide +kernel
theorem d_R_makeSwaps_15 : decode prog_9_method_16_code 15 = .ok (.aload_n 0, 1) := by decide +kernel
theorem d_R_makeSwaps_16 : decode prog_9_method_16_code 16 = .ok (.getfield 7, 3) := by decide +kernel
theorem d_R_makeSwaps_19 : decode prog_9_method_16_code 19 = .ok (.iload_n 1, 1) := by decide +kernel
theorem d_R_makeSwaps_20 : decode prog_9_method_16_code 20 = .ok (.iaload, 1) := by decide +kernel
theorem d_R_makeSwaps_21 : decode prog_9_method_16_code 21 = .ok (.iastore, 1) := by decide +kernel
theorem d_R_makeSwaps_22 : decode prog_9_method_16_code 22 = .ok (.iinc 1 1, 3) := by decide +kernel
theorem d_R_makeSwaps_25 : decode prog_9_method_16_code 25 = .ok (.goto (-23), 3) := by decide +kernel
theorem d_R_makeSwaps_28 : decode prog_9_method_16_code 28 = .ok (.iconst 0, 1) := by decide +kernel
theorem d_R_makeSwaps_29 : decode prog_9_method_16_code 29 = .ok (.istore_n 1, 1) := by decide +kernel
theorem d_R_makeSwaps_30 : decode prog_9_method_16_code 30 = .ok (.aload_n 0, 1) := by decide +kernel
theorem d_R_makeSwaps_31 : decode prog_9_method_16_code 31 = .ok (.getfield 89, 3) := by decide +kernel
theorem d_R_makeSwaps_34 : decode prog_9_method_16_code 34 = .ok (.istore_n 2, 1) := by decide +kernel
theorem d_R_makeSwaps_35 : decode prog_9_method_16_code 35 = .ok (.iload_n 2, 1) := by decide +kernel
theorem d_R_makeSwaps_36 : decode prog_9_method_16_code 36 = .ok (.iconst 1, 1) := by decide +kernel
theorem d_R_makeSwaps_37 : decode prog_9_method_16_code 37 = .ok (.if_icmp .le 129, 3) := by decide +kernel
theorem d_R_makeSwaps_40 : decode prog_9_method_16_code 40 = .ok (.aload_n 0, 1) := by decide +kernel
theorem d_R_makeSwaps_41 : decode prog_9_method_16_code 41 = .ok (.getfield 57, 3) := by decide +kernel
theorem d_R_makeSwaps_44 : decode prog_9_method_16_code 44 = .ok (.iload_n 1, 1) := by decide +kernel
theorem d_R_makeSwaps_45 : decode prog_9_method_16_code 45 = .ok (.lconst 0, 1) := by decide +kernel
theorem d_R_makeSwaps_46 : decode prog_9_method_16_code 46 = .ok (.lastore, 1) := by decide +kernel
theorem d_R_makeSwaps_47 : decode prog_9_method_16_code 47 = .ok (.aload_n 0, 1) := by decide +kernel
theorem d_R_makeSwaps_48 : decode prog_9_method_16_code 48 = .ok (.getfield 60, 3) := by decide +kernel
theorem d_R_makeSwaps_51 : decode prog_9_method_16_code 51 = .ok (.iload_n 1, 1) := by decide +kernel
theorem d_R_makeSwaps_52 : decode prog_9_method_16_code 52 = .ok (.lconst 0, 1) := by decide +kernel
theorem d_R_makeSwaps_53 : decode prog_9_method_16_code 53 = .ok (.lastore, 1) := by decide +kernel
theorem d_R_makeSwaps_54 : decode prog_9_method_16_code 54 = .ok (.iconst 0, 1) := by decide +kernel
theorem d_R_makeSwaps_55 : decode prog_9_method_16_code 55 = .ok (.istore_n 3, 1) := by decide +kernel
theorem d_R_makeSwaps_56 : decode prog_9_method_16_code 56 = .ok (.iload_n 3, 1) := by decide +kernel
theorem d_R_makeSwaps_57 : decode prog_9_method_16_code 57 = .ok (.aload_n 0, 1) := by decide +kernel
theorem d_R_makeSwaps_58 : decode prog_9_method_16_code 58 = .ok (.getfield 89, 3) := by decide +kernel
theorem d_R_makeSwaps_61 : decode prog_9_method_16_code 61 = .ok (.if_icmp .ge 62, 3) := by decide +kernel
theorem d_R_makeSwaps_64 : decode prog_9_method_16_code 64 = .ok (.iload_n 2, 1) := by decide +kernel
theorem d_R_makeSwaps_65 : decode prog_9_method_16_code 65 = .ok (.iconst 2, 1) := by decide +kernel
theorem d_R_makeSwaps_66 : decode prog_9_method_16_code 66 = .ok (.if_icmp .le 15, 3) := by decide +kernel
theorem d_R_makeSwaps_69 : decode prog_9_method_16_code 69 = .ok (.aload_n 0, 1) := by decide +kernel
theorem d_R_makeSwaps_70 : decode prog_9_method_16_code 70 = .ok (.iload_n 3, 1) := by decide +kernel
theorem d_R_makeSwaps_71 : decode prog_9_method_16_code 71 = .ok (.iload_n 2, 1) := by decide +kernel
theorem d_R_makeSwaps_72 : decode prog_9_method_16_code 72 = .ok (.iconst 2, 1) := by decide +kernel
theorem d_R_makeSwaps_73 : decode prog_9_method_16_code 73 = .ok (.idiv, 1) := by decide +kernel
theorem d_R_makeSwaps_74 : decode prog_9_method_16_code 74 = .ok (.iload_n 1, 1) := by decide +kernel
theorem d_R_makeSwaps_75 : decode prog_9_method_16_code 75 = .ok (.invokevirtual 114, 3) := by decide +kernel
theorem d_R_makeSwaps_78 : decode prog_9_method_16_code 78 = .ok (.goto 38, 3) := by decide +kernel
theorem d_R_makeSwaps_81 : decode prog_9_method_16_code 81 = .ok (.aload_n 0, 1) := by decide +kernel
theorem d_R_makeSwaps_82 : decode prog_9_method_16_code 82 = .ok (.getfield 57, 3) := by decide +kernel
theorem d_R_makeSwaps_85 : decode prog_9_method_16_code 85 = .ok (.iload_n 1, 1) := by decide +kernel
theorem d_R_makeSwaps_86 : decode prog_9_method_16_code 86 = .ok (.aload_n 0, 1) := by decide +kernel
theorem d_R_makeSwaps_87 : decode prog_9_method_16_code 87 = .ok (.getfield 45, 3) := by decide +kernel
theorem d_R_makeSwaps_90 : decode prog_9_method_16_code 90 = .ok (.iload_n 3, 1) := by decide +kernel
theorem d_R_makeSwaps_91 : decode prog_9_method_16_code 91 = .ok (.iaload, 1) := by decide +kernel
theorem d_R_makeSwaps_92 : decode prog_9_method_16_code 92 = .ok (.iconst 1, 1) := by decide +kernel
theorem d_R_makeSwaps_93 : decode prog_9_method_16_code 93 = .ok (.if_icmp .ne 16, 3) := by decide +kernel
theorem d_R_makeSwaps_96 : decode prog_9_method_16_code 96 = .ok (.aload_n 0, 1) := by decide +kernel
theorem d_R_makeSwaps_97 : decode prog_9_method_16_code 97 = .ok (.getfield 57, 3) := by decide +kernel
theorem d_R_makeSwaps_100 : decode prog_9_method_16_code 100 = .ok (.iload_n 1, 1) := by decide +kernel
theorem d_R_makeSwaps_101 : decode prog_9_method_16_code 101 = .ok (.laload, 1) := by decide +kernel
theorem d_R_makeSwaps_102 : decode prog_9_method_16_code 102 = .ok (.lconst 1, 1) := by decide +kernel
theorem d_R_makeSwaps_103 : decode prog_9_method_16_code 103 = .ok (.iload_n 3, 1) := by decide +kernel
theorem d_R_makeSwaps_104 : decode prog_9_method_16_code 104 = .ok (.lshl, 1) := by decide +kernel
theorem d_R_makeSwaps_105 : decode prog_9_method_16_code 105 = .ok (.lor, 1) := by decide +kernel
theorem d_R_makeSwaps_106 : decode prog_9_method_16_code 106 = .ok (.goto 9, 3) := by decide +kernel
theorem d_R_makeSwaps_109 : decode prog_9_method_16_code 109 = .ok (.aload_n 0, 1) := by decide +kernel
theorem d_R_makeSwaps_110 : decode prog_9_method_16_code 110 = .ok (.getfield 57, 3) := by decide +kernel
theorem d_R_makeSwaps_113 : decode prog_9_method_16_code 113 = .ok (.iload_n 1, 1) := by decide +kernel
theorem d_R_makeSwaps_114 : decode prog_9_method_16_code 114 = .ok (.laload, 1) := by decide +kernel
theorem d_R_makeSwaps_115 : decode prog_9_method_16_code 115 = .ok (.lastore, 1) := by decide +kernel
theorem d_R_makeSwaps_116 : decode prog_9_method_16_code 116 = .ok (.iload_n 3, 1) := by decide +kernel
theorem d_R_makeSwaps_117 : decode prog_9_method_16_code 117 = .ok (.iload_n 2, 1) := by decide +kernel
theorem d_R_makeSwaps_118 : decode prog_9_method_16_code 118 = .ok (.iadd, 1) := by decide +kernel
theorem d_R_makeSwaps_119 : decode prog_9_method_16_code 119 = .ok (.istore_n 3, 1) := by decide +kernel
theorem d_R_makeSwaps_120 : decode prog_9_method_16_code 120 = .ok (.goto (-64), 3) := by decide +kernel
theorem d_R_makeSwaps_123 : decode prog_9_method_16_code 123 = .ok (.iconst 0, 1) := by decide +kernel
theorem d_R_makeSwaps_124 : decode prog_9_method_16_code 124 = .ok (.istore_n 3, 1) := by decide +kernel
theorem d_R_makeSwaps_125 : decode prog_9_method_16_code 125 = .ok (.iload_n 3, 1) := by decide +kernel
theorem d_R_makeSwaps_126 : decode prog_9_method_16_code 126 = .ok (.aload_n 0, 1) := by decide +kernel
theorem d_R_makeSwaps_127 : decode prog_9_method_16_code 127 = .ok (.getfield 89, 3) := by decide +kernel
theorem d_R_makeSwaps_130 : decode prog_9_method_16_code 130 = .ok (.if_icmp .ge 26, 3) := by decide +kernel
theorem d_R_makeSwaps_133 : decode prog_9_method_16_code 133 = .ok (.iload_n 2, 1) := by decide +kernel
theorem d_R_makeSwaps_134 : decode prog_9_method_16_code 134 = .ok (.iconst 2, 1) := by decide +kernel
theorem d_R_makeSwaps_135 : decode prog_9_method_16_code 135 = .ok (.if_icmp .le 21, 3) := by decide +kernel
theorem d_R_makeSwaps_138 : decode prog_9_method_16_code 138 = .ok (.aload_n 0, 1) := by decide +kernel
theorem d_R_makeSwaps_139 : decode prog_9_method_16_code 139 = .ok (.getfield 45, 3) := by decide +kernel
theorem d_R_makeSwaps_142 : decode prog_9_method_16_code 142 = .ok (.iload_n 3, 1) := by decide +kernel
theorem d_R_makeSwaps_143 : decode prog_9_method_16_code 143 = .ok (.aload_n 0, 1) := by decide +kernel
theorem d_R_makeSwaps_144 : decode prog_9_method_16_code 144 = .ok (.getfield 48, 3) := by decide +kernel
theorem d_R_makeSwaps_147 : decode prog_9_method_16_code 147 = .ok (.iload_n 3, 1) := by decide +kernel
theorem d_R_makeSwaps_148 : decode prog_9_method_16_code 148 = .ok (.iaload, 1) := by decide +kernel
theorem d_R_makeSwaps_149 : decode prog_9_method_16_code 149 = .ok (.iastore, 1) := by decide +kernel
theorem d_R_makeSwaps_150 : decode prog_9_method_16_code 150 = .ok (.iinc 3 1, 3) := by decide +kernel
theorem d_R_makeSwaps_153 : decode prog_9_method_16_code 153 = .ok (.goto (-28), 3) := by decide +kernel
theorem d_R_makeSwaps_156 : decode prog_9_method_16_code 156 = .ok (.iinc 1 1, 3) := by decide +kernel
theorem d_R_makeSwaps_159 : decode prog_9_method_16_code 159 = .ok (.iload_n 2, 1) := by decide +kernel
theorem d_R_makeSwaps_160 : decode prog_9_method_16_code 160 = .ok (.iconst 2, 1) := by decide +kernel
theorem d_R_makeSwaps_161 : decode prog_9_method_16_code 161 = .ok (.idiv, 1) := by decide +kernel
theorem d_R_makeSwaps_162 : decode prog_9_method_16_code 162 = .ok (.istore_n 2, 1) := by decide +kernel
theorem d_R_makeSwaps_163 : decode prog_9_method_16_code 163 = .ok (.goto (-128), 3) := by decide +kernel
theorem d_R_makeSwaps_166 : decode prog_9_method_16_code 166 = .ok (.iconst 0, 1) := by decide +kernel
theorem d_R_makeSwaps_167 : decode prog_9_method_16_code 167 = .ok (.istore_n 2, 1) := by decide +kernel
theorem d_R_makeSwaps_168 : decode prog_9_method_16_code 168 = .ok (.iload_n 2, 1) := by decide +kernel
theorem d_R_makeSwaps_169 : decode prog_9_method_16_code 169 = .ok (.iload_n 1, 1) := by decide +kernel
theorem d_R_makeSwaps_170 : decode prog_9_method_16_code 170 = .ok (.if_icmp .ge 39, 3) := by decide +kernel
theorem d_R_makeSwaps_173 : decode prog_9_method_16_code 173 = .ok (.aload_n 0, 1) := by decide +kernel
theorem d_R_makeSwaps_174 : decode prog_9_method_16_code 174 = .ok (.getfield 57, 3) := by decide +kernel
theorem d_R_makeSwaps_177 : decode prog_9_method_16_code 177 = .ok (.iload_n 2, 1) := by decide +kernel
theorem d_R_makeSwaps_178 : decode prog_9_method_16_code 178 = .ok (.laload, 1) := by decide +kernel
theorem d_R_makeSwaps_179 : decode prog_9_method_16_code 179 = .ok (.lconst 0, 1) := by decide +kernel
theorem d_R_makeSwaps_180 : decode prog_9_method_16_code 180 = .ok (.lcmp, 1) := by decide +kernel
theorem d_R_makeSwaps_181 : decode prog_9_method_16_code 181 = .ok (.ifCond .eq 22, 3) := by decide +kernel
theorem d_R_makeSwaps_184 : decode prog_9_method_16_code 184 = .ok (.aload_n 0, 1) := by decide +kernel
theorem d_R_makeSwaps_185 : decode prog_9_method_16_code 185 = .ok (.iconst 5, 1) := by decide +kernel
theorem d_R_makeSwaps_186 : decode prog_9_method_16_code 186 = .ok (.aload_n 0, 1) := by decide +kernel
theorem d_R_makeSwaps_187 : decode prog_9_method_16_code 187 = .ok (.getfield 89, 3) := by decide +kernel
theorem d_R_makeSwaps_190 : decode prog_9_method_16_code 190 = .ok (.iload_n 2, 1) := by decide +kernel
theorem d_R_makeSwaps_191 : decode prog_9_method_16_code 191 = .ok (.iconst 1, 1) := by decide +kernel
theorem d_R_makeSwaps_192 : decode prog_9_method_16_code 192 = .ok (.iadd, 1) := by decide +kernel
theorem d_R_makeSwaps_193 : decode prog_9_method_16_code 193 = .ok (.ishr, 1) := by decide +kernel
theorem d_R_makeSwaps_194 : decode prog_9_method_16_code 194 = .ok (.aload_n 0, 1) := by decide +kernel
theorem d_R_makeSwaps_195 : decode prog_9_method_16_code 195 = .ok (.getfield 57, 3) := by decide +kernel
theorem d_R_makeSwaps_198 : decode prog_9_method_16_code 198 = .ok (.iload_n 2, 1) := by decide +kernel
theorem d_R_makeSwaps_199 : decode prog_9_method_16_code 199 = .ok (.laload, 1) := by decide +kernel
theorem d_R_makeSwaps_200 : decode prog_9_method_16_code 200 = .ok (.invokevirtual 99, 3) := by decide +kernel
theorem d_R_makeSwaps_203 : decode prog_9_method_16_code 203 = .ok (.iinc 2 1, 3) := by decide +kernel
theorem d_R_makeSwaps_206 : decode prog_9_method_16_code 206 = .ok (.goto (-38), 3) := by decide +kernel
theorem d_R_makeSwaps_209 : decode prog_9_method_16_code 209 = .ok (.iload_n 1, 1) := by decide +kernel
theorem d_R_makeSwaps_210 : decode prog_9_method_16_code 210 = .ok (.iconst 2, 1) := by decide +kernel
theorem d_R_makeSwaps_211 : decode prog_9_method_16_code 211 = .ok (.isub, 1) := by decide +kernel
theorem d_R_makeSwaps_212 : decode prog_9_method_16_code 212 = .ok (.istore_n 2, 1) := by decide +kernel
theorem d_R_makeSwaps_213 : decode prog_9_method_16_code 213 = .ok (.iload_n 2, 1) := by decide +kernel
theorem d_R_makeSwaps_214 : decode prog_9_method_16_code 214 = .ok (.ifCond .lt 39, 3) := by decide +kernel
theorem d_R_makeSwaps_217 : decode prog_9_method_16_code 217 = .ok (.aload_n 0, 1) := by decide +kernel
theorem d_R_makeSwaps_218 : decode prog_9_method_16_code 218 = .ok (.getfield 60, 3) := by decide +kernel
theorem d_R_makeSwaps_221 : decode prog_9_method_16_code 221 = .ok (.iload_n 2, 1) := by decide +kernel
theorem d_R_makeSwaps_222 : decode prog_9_method_16_code 222 = .ok (.laload, 1) := by decide +kernel
theorem d_R_makeSwaps_223 : decode prog_9_method_16_code 223 = .ok (.lconst 0, 1) := by decide +kernel
theorem d_R_makeSwaps_224 : decode prog_9_method_16_code 224 = .ok (.lcmp, 1) := by decide +kernel
theorem d_R_makeSwaps_225 : decode prog_9_method_16_code 225 = .ok (.ifCond .eq 22, 3) := by decide +kernel
theorem d_R_makeSwaps_228 : decode prog_9_method_16_code 228 = .ok (.aload_n 0, 1) := by decide +kernel
theorem d_R_makeSwaps_229 : decode prog_9_method_16_code 229 = .ok (.iconst 5, 1) := by decide +kernel
theorem d_R_makeSwaps_230 : decode prog_9_method_16_code 230 = .ok (.aload_n 0, 1) := by decide +kernel
theorem d_R_makeSwaps_231 : decode prog_9_method_16_code 231 = .ok (.getfield 89, 3) := by decide +kernel
theorem d_R_makeSwaps_234 : decode prog_9_method_16_code 234 = .ok (.iload_n 2, 1) := by decide +kernel
theorem d_R_makeSwaps_235 : decode prog_9_method_16_code 235 = .ok (.iconst 1, 1) := by decide +kernel
theorem d_R_makeSwaps_236 : decode prog_9_method_16_code 236 = .ok (.iadd, 1) := by decide +kernel
theorem d_R_makeSwaps_237 : decode prog_9_method_16_code 237 = .ok (.ishr, 1) := by decide +kernel
theorem d_R_makeSwaps_238 : decode prog_9_method_16_code 238 = .ok (.aload_n 0, 1) := by decide +kernel
theorem d_R_makeSwaps_239 : decode prog_9_method_16_code 239 = .ok (.getfield 60, 3) := by decide +kernel
theorem d_R_makeSwaps_242 : decode prog_9_method_16_code 242 = .ok (.iload_n 2, 1) := by decide +kernel
theorem d_R_makeSwaps_243 : decode prog_9_method_16_code 243 = .ok (.laload, 1) := by decide +kernel
theorem d_R_makeSwaps_244 : decode prog_9_method_16_code 244 = .ok (.invokevirtual 99, 3) := by decide +kernel
theorem d_R_makeSwaps_247 : decode prog_9_method_16_code 247 = .ok (.iinc 2 (-1), 3) := by decide +kernel
theorem d_R_makeSwaps_250 : decode prog_9_method_16_code 250 = .ok (.goto (-37), 3) := by decide +kernel
theorem d_R_makeSwaps_253 : decode prog_9_method_16_code 253 = .ok (.aload_n 0, 1) := by decide +kernel
theorem d_R_makeSwaps_254 : decode prog_9_method_16_code 254 = .ok (.bipush 6, 2) := by decide +kernel
theorem d_R_makeSwaps_256 : decode prog_9_method_16_code 256 = .ok (.iconst 0, 1) := by decide +kernel
theorem d_R_makeSwaps_257 : decode prog_9_method_16_code 257 = .ok (.lconst 0, 1) := by decide +kernel
theorem d_R_makeSwaps_258 : decode prog_9_method_16_code 258 = .ok (.invokevirtual 99, 3) := by decide +kernel
theorem d_R_makeSwaps_261 : decode prog_9_method_16_code 261 = .ok (.return_, 1) := by decide +kernel
def w_R_makeSwaps_247 (Φ : bs_R → bs_H → Prop) (nx213 : Nat → Int32 → bs_H → Prop) (x0 : Nat) (x2 : Int32) (h : bs_H) : Prop :=
  nx213 x0 (x2 + (-1)) h
def w_R_makeSwaps_213_s (Φ : bs_R → bs_H → Prop) (nx213 : Nat → Int32 → bs_H → Prop) (x0 : Nat) (x2 : Int32) (h : bs_H) : Prop :=
  bs_if (x2 < 0) (bs_on h x0 7 (w_R_add (bs_kV Φ fun h1 => (Φ (.ok none) h1)) x0 6 0 0 h)) (bs_fA h x0 7 20 (fun v2 => bs_lL h v2 x2 (fun v3 => bs_if (v3 = 0) (w_R_makeSwaps_247 Φ nx213 x0 x2 h) (bs_fI h x0 7 1 (fun v4 => bs_fA h x0 7 20 (fun v5 => bs_lL h v5 x2 (fun v6 => bs_on h x0 7 (w_R_add (bs_kV Φ fun h7 => (w_R_makeSwaps_247 Φ nx213 x0 x2 h7)) x0 5 (v4 >>> ((x2 + 1) &&& 31)) v6 h))))))))
def w_R_makeSwaps_213 (Φ : bs_R → bs_H → Prop) : Nat → Nat → Int32 → bs_H → Prop
  | 0 => fun _ _ _ => False
  | n + 1 => fun x0 x2 h => w_R_makeSwaps_213_s Φ (w_R_makeSwaps_213 Φ n) x0 x2 h
def w_R_makeSwaps_203 (Φ : bs_R → bs_H → Prop) (nx168 : Nat → Int32 → Int32 → bs_H → Prop) (x0 : Nat) (x1 : Int32) (x2 : Int32) (h : bs_H) : Prop :=
  nx168 x0 x1 (x2 + 1) h
def w_R_makeSwaps_168_s (Φ : bs_R → bs_H → Prop) (nx168 : Nat → Int32 → Int32 → bs_H → Prop) (x0 : Nat) (x1 : Int32) (x2 : Int32) (h : bs_H) : Prop :=
  bs_if (x1 ≤ x2) (w_R_makeSwaps_213 Φ 1000 x0 (x1 - 2) h) (bs_fA h x0 7 19 (fun v1 => bs_lL h v1 x2 (fun v2 => bs_if (v2 = 0) (w_R_makeSwaps_203 Φ nx168 x0 x1 x2 h) (bs_fI h x0 7 1 (fun v3 => bs_fA h x0 7 19 (fun v4 => bs_lL h v4 x2 (fun v5 => bs_on h x0 7 (w_R_add (bs_kV Φ fun h6 => (w_R_makeSwaps_203 Φ nx168 x0 x1 x2 h6)) x0 5 (v3 >>> ((x2 + 1) &&& 31)) v5 h))))))))
def w_R_makeSwaps_168 (Φ : bs_R → bs_H → Prop) : Nat → Nat → Int32 → Int32 → bs_H → Prop
  | 0 => fun _ _ _ _ => False
  | n + 1 => fun x0 x1 x2 h => w_R_makeSwaps_168_s Φ (w_R_makeSwaps_168 Φ n) x0 x1 x2 h
def w_R_makeSwaps_156 (Φ : bs_R → bs_H → Prop) (nx35 : Nat → Int32 → Int32 → bs_H → Prop) (x0 : Nat) (x1 : Int32) (x2 : Int32) (h : bs_H) : Prop :=
  nx35 x0 (x1 + 1) (x2 / 2) h
def w_R_makeSwaps_125_s (Φ : bs_R → bs_H → Prop) (nx35 : Nat → Int32 → Int32 → bs_H → Prop) (nx125 : Nat → Int32 → Int32 → Int32 → bs_H → Prop) (x0 : Nat) (x1 : Int32) (x2 : Int32) (x3 : Int32) (h : bs_H) : Prop :=
  bs_fI h x0 7 1 (fun v1 => bs_if (v1 ≤ x3) (w_R_makeSwaps_156 Φ nx35 x0 x1 x2 h) (bs_if (x2 ≤ 2) (w_R_makeSwaps_156 Φ nx35 x0 x1 x2 h) (bs_fA h x0 7 15 (fun v2 => bs_fA h x0 7 16 (fun v3 => bs_lI h v3 x3 (fun v4 => bs_sI h v2 x3 v4 (fun h5 => nx125 x0 x1 x2 (x3 + 1) h5)))))))
def w_R_makeSwaps_125 (Φ : bs_R → bs_H → Prop) (nx35 : Nat → Int32 → Int32 → bs_H → Prop) : Nat → Nat → Int32 → Int32 → Int32 → bs_H → Prop
  | 0 => fun _ _ _ _ _ => False
  | n + 1 => fun x0 x1 x2 x3 h => w_R_makeSwaps_125_s Φ nx35 (w_R_makeSwaps_125 Φ nx35 n) x0 x1 x2 x3 h
def w_R_makeSwaps_116 (Φ : bs_R → bs_H → Prop) (nx35 : Nat → Int32 → Int32 → bs_H → Prop) (nx56 : Nat → Int32 → Int32 → Int32 → bs_H → Prop) (x0 : Nat) (x1 : Int32) (x2 : Int32) (x3 : Int32) (h : bs_H) : Prop :=
  nx56 x0 x1 x2 (x3 + x2) h
def w_R_makeSwaps_115 (Φ : bs_R → bs_H → Prop) (nx35 : Nat → Int32 → Int32 → bs_H → Prop) (nx56 : Nat → Int32 → Int32 → Int32 → bs_H → Prop) (x0 : Nat) (x1 : Int32) (x2 : Int32) (x3 : Int32) (s0 : Nat) (s1 : Int32) (s2 : Int64) (h : bs_H) : Prop :=
  bs_sL h s0 s1 s2 (fun h1 => w_R_makeSwaps_116 Φ nx35 nx56 x0 x1 x2 x3 h1)
def w_R_makeSwaps_56_s (Φ : bs_R → bs_H → Prop) (nx35 : Nat → Int32 → Int32 → bs_H → Prop) (nx56 : Nat → Int32 → Int32 → Int32 → bs_H → Prop) (x0 : Nat) (x1 : Int32) (x2 : Int32) (x3 : Int32) (h : bs_H) : Prop :=
  bs_fI h x0 7 1 (fun v1 => bs_if (v1 ≤ x3) (w_R_makeSwaps_125 Φ nx35 1000 x0 x1 x2 0 h) (bs_if (x2 ≤ 2) (bs_fA h x0 7 19 (fun v2 => bs_fA h x0 7 15 (fun v3 => bs_lI h v3 x3 (fun v4 => bs_if (v4 = 1) (bs_fA h x0 7 19 (fun v7 => bs_lL h v7 x1 (fun v8 => w_R_makeSwaps_115 Φ nx35 nx56 x0 x1 x2 x3 v2 x1 (v8 ||| (bs_shl 1 x3)) h))) (bs_fA h x0 7 19 (fun v5 => bs_lL h v5 x1 (fun v6 => w_R_makeSwaps_115 Φ nx35 nx56 x0 x1 x2 x3 v2 x1 v6 h))))))) (bs_on h x0 7 (w_R_split (bs_kV Φ fun h9 => (w_R_makeSwaps_116 Φ nx35 nx56 x0 x1 x2 x3 h9)) x0 x3 (x2 / 2) x1 h))))
def w_R_makeSwaps_56 (Φ : bs_R → bs_H → Prop) (nx35 : Nat → Int32 → Int32 → bs_H → Prop) : Nat → Nat → Int32 → Int32 → Int32 → bs_H → Prop
  | 0 => fun _ _ _ _ _ => False
  | n + 1 => fun x0 x1 x2 x3 h => w_R_makeSwaps_56_s Φ nx35 (w_R_makeSwaps_56 Φ nx35 n) x0 x1 x2 x3 h
def w_R_makeSwaps_35_s (Φ : bs_R → bs_H → Prop) (nx35 : Nat → Int32 → Int32 → bs_H → Prop) (x0 : Nat) (x1 : Int32) (x2 : Int32) (h : bs_H) : Prop :=
  bs_if (x2 ≤ 1) (w_R_makeSwaps_168 Φ 1000 x0 x1 0 h) (bs_fA h x0 7 19 (fun v1 => bs_sL h v1 x1 0 (fun h2 => bs_fA h2 x0 7 20 (fun v3 => bs_sL h2 v3 x1 0 (fun h4 => w_R_makeSwaps_56 Φ nx35 1000 x0 x1 x2 0 h4)))))
def w_R_makeSwaps_35 (Φ : bs_R → bs_H → Prop) : Nat → Nat → Int32 → Int32 → bs_H → Prop
  | 0 => fun _ _ _ _ => False
  | n + 1 => fun x0 x1 x2 h => w_R_makeSwaps_35_s Φ (w_R_makeSwaps_35 Φ n) x0 x1 x2 h
def w_R_makeSwaps_2_s (Φ : bs_R → bs_H → Prop) (nx2 : Nat → Int32 → bs_H → Prop) (x0 : Nat) (x1 : Int32) (h : bs_H) : Prop :=
  bs_fI h x0 7 1 (fun v1 => bs_if (v1 ≤ x1) (bs_fI h x0 7 1 (fun v2 => w_R_makeSwaps_35 Φ 1000 x0 0 v2 h)) (bs_fA h x0 7 15 (fun v3 => bs_fA h x0 7 2 (fun v4 => bs_lI h v4 x1 (fun v5 => bs_sI h v3 x1 v5 (fun h6 => nx2 x0 (x1 + 1) h6))))))
def w_R_makeSwaps_2 (Φ : bs_R → bs_H → Prop) : Nat → Nat → Int32 → bs_H → Prop
  | 0 => fun _ _ _ => False
  | n + 1 => fun x0 x1 h => w_R_makeSwaps_2_s Φ (w_R_makeSwaps_2 Φ n) x0 x1 h
def w_R_makeSwaps (Φ : bs_R → bs_H → Prop) (x0 : Nat) (h : bs_H) : Prop :=
  w_R_makeSwaps_2 Φ 1000 x0 0 h
theorem m_R_makeSwaps_247 {l : Launch} {R : Room} {Φ : bs_R → bs_H → Prop} (hR : bs_rm 4 R) {nx213 : Nat → Int32 → bs_H → Prop} (hnx213 : ∀ (x0 : Nat) (x2 : Int32) (h : bs_H), nx213 x0 x2 h → bs_J l K_R_makeSwaps R Φ 213 [(0, .ref x0), (2, .int x2)] [] h) {x0 : Nat} {x2 : Int32} {h : bs_H} (hw : w_R_makeSwaps_247 Φ nx213 x0 x2 h) : bs_J l K_R_makeSwaps R Φ 247 [(0, .ref x0), (2, .int x2)] [] h := by
  unfold w_R_makeSwaps_247 at hw
  refine bj_iinc (pc := 247) (v := (x2 + (-1))) (lo' := [(2, .int (x2 + (-1))), (0, .ref x0)]) 1 d_R_makeSwaps_247 rfl rfl (by decide) rfl ?_
  refine bj_goto (pc := 250) (tgt := 213) d_R_makeSwaps_250 (by decide) ?_
  refine bj_sub [1, 0] (lo' := [(0, .ref x0), (2, .int (x2 + (-1)))]) rfl ?_
  exact hnx213 _ _ _ hw
theorem m_R_makeSwaps_213 {l : Launch} {R : Room} {Φ : bs_R → bs_H → Prop} (hR : bs_rm 4 R) : ∀ (n : Nat) (x0 : Nat) (x2 : Int32) (h : bs_H), w_R_makeSwaps_213 Φ n x0 x2 h → bs_J l K_R_makeSwaps R Φ 213 [(0, .ref x0), (2, .int x2)] [] h := by
  intro n
  induction n with
  | zero => intro x0 x2 h hw; exact hw.elim
  | succ n ih =>
    have hnx213 := ih
    intro x0 x2 h hw
    replace hw : w_R_makeSwaps_213_s Φ (w_R_makeSwaps_213 Φ n) x0 x2 h := hw
    unfold w_R_makeSwaps_213_s at hw
    refine bj_iload_n (pc := 213) 1 d_R_makeSwaps_213 rfl rfl ?_
    refine bj_if_lt (pc := 214) (tgt := 253) d_R_makeSwaps_214 (by decide) (fun hc => ?_) (fun hc => ?_)
    · replace hw := hw.1 hc
      refine bj_aload_n (pc := 253) 0 d_R_makeSwaps_253 rfl rfl ?_
      refine bj_bipush (pc := 254) (v := 6) d_R_makeSwaps_254 (by decide) ?_
      refine bj_iconst (pc := 256) (v := 0) d_R_makeSwaps_256 (by decide) ?_
      refine bj_lconst (pc := 257) (v := 0) d_R_makeSwaps_257 (by decide) ?_
      obtain ⟨⟨fs, hx⟩, hw⟩ := hw
      refine bj_callV (pc := 258) (np := 3) (K' := K_R_add) (argsL := [.int 6, .int 0, .long 0]) (st := []) (d1 := 1) (ci := 7) (fs := fs) rfl d_R_makeSwaps_258 (Or.inl q_863) q_865 rfl q_27 c_R_add n_R_add hR (by decide) (by decide) rfl (Nat.le_of_ble_eq_true rfl) rfl (Nat.le_of_ble_eq_true rfl) hx (fun R' hR' => m_R_add hR' hw) (bs_kV_ok fun h1 hw => ?_) (fun _ _ z => z)
      exact bj_vret (pc := 261) d_R_makeSwaps_261 rfl hw
    · replace hw := hw.2 hc
      refine bj_aload_n (pc := 217) 0 d_R_makeSwaps_217 rfl rfl ?_
      obtain ⟨fs, v2, hx, hv, hw⟩ := hw
      refine bj_get (pc := 218) (ci := 7) (k := 20) (fs := fs) (v := .ref v2) d_R_makeSwaps_218 rfl (by decide) q_768 hx hv ?_
      refine bj_iload_n (pc := 221) 1 d_R_makeSwaps_221 rfl rfl ?_
      obtain ⟨n, f, v3, hx, hin, hv, hw⟩ := hw
      refine bj_lald (pc := 222) (n := n) (f := f) d_R_makeSwaps_222 hx hin hv ?_
      refine bj_lconst (pc := 223) (v := 0) d_R_makeSwaps_223 (by decide) ?_
      refine bj_lc_eq (pc := 224) (tgt := 247) d_R_makeSwaps_224 d_R_makeSwaps_225 (by decide) (fun hc => ?_) (fun hc => ?_)
      · replace hw := hw.1 hc
        exact m_R_makeSwaps_247 hR hnx213 hw
      · replace hw := hw.2 hc
        refine bj_aload_n (pc := 228) 0 d_R_makeSwaps_228 rfl rfl ?_
        refine bj_iconst (pc := 229) (v := 5) d_R_makeSwaps_229 (by decide) ?_
        refine bj_aload_n (pc := 230) 0 d_R_makeSwaps_230 rfl rfl ?_
        obtain ⟨fs, v4, hx, hv, hw⟩ := hw
        refine bj_get (pc := 231) (ci := 7) (k := 1) (fs := fs) (v := .int v4) d_R_makeSwaps_231 rfl (by decide) q_749 hx hv ?_
        refine bj_iload_n (pc := 234) 1 d_R_makeSwaps_234 rfl rfl ?_
        refine bj_iconst (pc := 235) (v := 1) d_R_makeSwaps_235 (by decide) ?_
        refine bj_iadd (pc := 236) d_R_makeSwaps_236 ?_
        refine bj_ishr (pc := 237) d_R_makeSwaps_237 ?_
        refine bj_aload_n (pc := 238) 0 d_R_makeSwaps_238 rfl rfl ?_
        obtain ⟨fs, v5, hx, hv, hw⟩ := hw
        refine bj_get (pc := 239) (ci := 7) (k := 20) (fs := fs) (v := .ref v5) d_R_makeSwaps_239 rfl (by decide) q_768 hx hv ?_
        refine bj_iload_n (pc := 242) 1 d_R_makeSwaps_242 rfl rfl ?_
        obtain ⟨n, f, v6, hx, hin, hv, hw⟩ := hw
        refine bj_lald (pc := 243) (n := n) (f := f) d_R_makeSwaps_243 hx hin hv ?_
        obtain ⟨⟨fs, hx⟩, hw⟩ := hw
        refine bj_callV (pc := 244) (np := 3) (K' := K_R_add) (argsL := [.int 5, .int (v4 >>> ((x2 + 1) &&& 31)), .long v6]) (st := []) (d1 := 1) (ci := 7) (fs := fs) rfl d_R_makeSwaps_244 (Or.inl q_863) q_865 rfl q_27 c_R_add n_R_add hR (by decide) (by decide) rfl (Nat.le_of_ble_eq_true rfl) rfl (Nat.le_of_ble_eq_true rfl) hx (fun R' hR' => m_R_add hR' hw) (bs_kV_ok fun h7 hw => ?_) (fun _ _ z => z)
        exact m_R_makeSwaps_247 hR hnx213 hw
theorem m_R_makeSwaps_203 {l : Launch} {R : Room} {Φ : bs_R → bs_H → Prop} (hR : bs_rm 4 R) {nx168 : Nat → Int32 → Int32 → bs_H → Prop} (hnx168 : ∀ (x0 : Nat) (x1 : Int32) (x2 : Int32) (h : bs_H), nx168 x0 x1 x2 h → bs_J l K_R_makeSwaps R Φ 168 [(0, .ref x0), (1, .int x1), (2, .int x2)] [] h) {x0 : Nat} {x1 : Int32} {x2 : Int32} {h : bs_H} (hw : w_R_makeSwaps_203 Φ nx168 x0 x1 x2 h) : bs_J l K_R_makeSwaps R Φ 203 [(0, .ref x0), (1, .int x1), (2, .int x2)] [] h := by
  unfold w_R_makeSwaps_203 at hw
  refine bj_iinc (pc := 203) (v := (x2 + 1)) (lo' := [(2, .int (x2 + 1)), (0, .ref x0), (1, .int x1)]) 2 d_R_makeSwaps_203 rfl rfl (by decide) rfl ?_
  refine bj_goto (pc := 206) (tgt := 168) d_R_makeSwaps_206 (by decide) ?_
  refine bj_sub [1, 2, 0] (lo' := [(0, .ref x0), (1, .int x1), (2, .int (x2 + 1))]) rfl ?_
  exact hnx168 _ _ _ _ hw
theorem m_R_makeSwaps_168 {l : Launch} {R : Room} {Φ : bs_R → bs_H → Prop} (hR : bs_rm 4 R) : ∀ (n : Nat) (x0 : Nat) (x1 : Int32) (x2 : Int32) (h : bs_H), w_R_makeSwaps_168 Φ n x0 x1 x2 h → bs_J l K_R_makeSwaps R Φ 168 [(0, .ref x0), (1, .int x1), (2, .int x2)] [] h := by
  intro n
  induction n with
  | zero => intro x0 x1 x2 h hw; exact hw.elim
  | succ n ih =>
    have hnx168 := ih
    intro x0 x1 x2 h hw
    replace hw : w_R_makeSwaps_168_s Φ (w_R_makeSwaps_168 Φ n) x0 x1 x2 h := hw
    unfold w_R_makeSwaps_168_s at hw
    refine bj_iload_n (pc := 168) 2 d_R_makeSwaps_168 rfl rfl ?_
    refine bj_iload_n (pc := 169) 1 d_R_makeSwaps_169 rfl rfl ?_
    refine bj_icmp_ge (pc := 170) (tgt := 209) d_R_makeSwaps_170 (by decide) (fun hc => ?_) (fun hc => ?_)
    · replace hw := hw.1 hc
      refine bj_iload_n (pc := 209) 1 d_R_makeSwaps_209 rfl rfl ?_
      refine bj_iconst (pc := 210) (v := 2) d_R_makeSwaps_210 (by decide) ?_
      refine bj_isub (pc := 211) d_R_makeSwaps_211 ?_
      refine bj_istore_n (pc := 212) (lo' := [(2, .int (x1 - 2)), (0, .ref x0), (1, .int x1)]) d_R_makeSwaps_212 rfl (by decide) rfl ?_
      refine bj_sub [1, 0] (lo' := [(0, .ref x0), (2, .int (x1 - 2))]) rfl ?_
      exact m_R_makeSwaps_213 hR 1000 _ _ _ hw
    · replace hw := hw.2 hc
      refine bj_aload_n (pc := 173) 0 d_R_makeSwaps_173 rfl rfl ?_
      obtain ⟨fs, v1, hx, hv, hw⟩ := hw
      refine bj_get (pc := 174) (ci := 7) (k := 19) (fs := fs) (v := .ref v1) d_R_makeSwaps_174 rfl (by decide) q_767 hx hv ?_
      refine bj_iload_n (pc := 177) 2 d_R_makeSwaps_177 rfl rfl ?_
      obtain ⟨n, f, v2, hx, hin, hv, hw⟩ := hw
      refine bj_lald (pc := 178) (n := n) (f := f) d_R_makeSwaps_178 hx hin hv ?_
      refine bj_lconst (pc := 179) (v := 0) d_R_makeSwaps_179 (by decide) ?_
      refine bj_lc_eq (pc := 180) (tgt := 203) d_R_makeSwaps_180 d_R_makeSwaps_181 (by decide) (fun hc => ?_) (fun hc => ?_)
      · replace hw := hw.1 hc
        exact m_R_makeSwaps_203 hR hnx168 hw
      · replace hw := hw.2 hc
        refine bj_aload_n (pc := 184) 0 d_R_makeSwaps_184 rfl rfl ?_
        refine bj_iconst (pc := 185) (v := 5) d_R_makeSwaps_185 (by decide) ?_
        refine bj_aload_n (pc := 186) 0 d_R_makeSwaps_186 rfl rfl ?_
        obtain ⟨fs, v3, hx, hv, hw⟩ := hw
        refine bj_get (pc := 187) (ci := 7) (k := 1) (fs := fs) (v := .int v3) d_R_makeSwaps_187 rfl (by decide) q_749 hx hv ?_
        refine bj_iload_n (pc := 190) 2 d_R_makeSwaps_190 rfl rfl ?_
        refine bj_iconst (pc := 191) (v := 1) d_R_makeSwaps_191 (by decide) ?_
        refine bj_iadd (pc := 192) d_R_makeSwaps_192 ?_
        refine bj_ishr (pc := 193) d_R_makeSwaps_193 ?_
        refine bj_aload_n (pc := 194) 0 d_R_makeSwaps_194 rfl rfl ?_
        obtain ⟨fs, v4, hx, hv, hw⟩ := hw
        refine bj_get (pc := 195) (ci := 7) (k := 19) (fs := fs) (v := .ref v4) d_R_makeSwaps_195 rfl (by decide) q_767 hx hv ?_
        refine bj_iload_n (pc := 198) 2 d_R_makeSwaps_198 rfl rfl ?_
        obtain ⟨n, f, v5, hx, hin, hv, hw⟩ := hw
        refine bj_lald (pc := 199) (n := n) (f := f) d_R_makeSwaps_199 hx hin hv ?_
        obtain ⟨⟨fs, hx⟩, hw⟩ := hw
        refine bj_callV (pc := 200) (np := 3) (K' := K_R_add) (argsL := [.int 5, .int (v3 >>> ((x2 + 1) &&& 31)), .long v5]) (st := []) (d1 := 1) (ci := 7) (fs := fs) rfl d_R_makeSwaps_200 (Or.inl q_863) q_865 rfl q_27 c_R_add n_R_add hR (by decide) (by decide) rfl (Nat.le_of_ble_eq_true rfl) rfl (Nat.le_of_ble_eq_true rfl) hx (fun R' hR' => m_R_add hR' hw) (bs_kV_ok fun h6 hw => ?_) (fun _ _ z => z)
        exact m_R_makeSwaps_203 hR hnx168 hw
theorem m_R_makeSwaps_156 {l : Launch} {R : Room} {Φ : bs_R → bs_H → Prop} (hR : bs_rm 4 R) {nx35 : Nat → Int32 → Int32 → bs_H → Prop} (hnx35 : ∀ (x0 : Nat) (x1 : Int32) (x2 : Int32) (h : bs_H), nx35 x0 x1 x2 h → bs_J l K_R_makeSwaps R Φ 35 [(0, .ref x0), (1, .int x1), (2, .int x2)] [] h) {x0 : Nat} {x1 : Int32} {x2 : Int32} {h : bs_H} (hw : w_R_makeSwaps_156 Φ nx35 x0 x1 x2 h) : bs_J l K_R_makeSwaps R Φ 156 [(0, .ref x0), (1, .int x1), (2, .int x2)] [] h := by
  unfold w_R_makeSwaps_156 at hw
  refine bj_iinc (pc := 156) (v := (x1 + 1)) (lo' := [(1, .int (x1 + 1)), (0, .ref x0), (2, .int x2)]) 1 d_R_makeSwaps_156 rfl rfl (by decide) rfl ?_
  refine bj_iload_n (pc := 159) 2 d_R_makeSwaps_159 rfl rfl ?_
  refine bj_iconst (pc := 160) (v := 2) d_R_makeSwaps_160 (by decide) ?_
  refine bj_idiv (pc := 161) d_R_makeSwaps_161 (by decide) ?_
  refine bj_istore_n (pc := 162) (lo' := [(2, .int (x2 / 2)), (1, .int (x1 + 1)), (0, .ref x0)]) d_R_makeSwaps_162 rfl (by decide) rfl ?_
  refine bj_goto (pc := 163) (tgt := 35) d_R_makeSwaps_163 (by decide) ?_
  refine bj_sub [2, 1, 0] (lo' := [(0, .ref x0), (1, .int (x1 + 1)), (2, .int (x2 / 2))]) rfl ?_
  exact hnx35 _ _ _ _ hw
theorem m_R_makeSwaps_125 {l : Launch} {R : Room} {Φ : bs_R → bs_H → Prop} (hR : bs_rm 4 R) {nx35 : Nat → Int32 → Int32 → bs_H → Prop} (hnx35 : ∀ (x0 : Nat) (x1 : Int32) (x2 : Int32) (h : bs_H), nx35 x0 x1 x2 h → bs_J l K_R_makeSwaps R Φ 35 [(0, .ref x0), (1, .int x1), (2, .int x2)] [] h) : ∀ (n : Nat) (x0 : Nat) (x1 : Int32) (x2 : Int32) (x3 : Int32) (h : bs_H), w_R_makeSwaps_125 Φ nx35 n x0 x1 x2 x3 h → bs_J l K_R_makeSwaps R Φ 125 [(0, .ref x0), (1, .int x1), (2, .int x2), (3, .int x3)] [] h := by
  intro n
  induction n with
  | zero => intro x0 x1 x2 x3 h hw; exact hw.elim
  | succ n ih =>
    have hnx125 := ih
    intro x0 x1 x2 x3 h hw
    replace hw : w_R_makeSwaps_125_s Φ nx35 (w_R_makeSwaps_125 Φ nx35 n) x0 x1 x2 x3 h := hw
    unfold w_R_makeSwaps_125_s at hw
    refine bj_iload_n (pc := 125) 3 d_R_makeSwaps_125 rfl rfl ?_
    refine bj_aload_n (pc := 126) 0 d_R_makeSwaps_126 rfl rfl ?_
    obtain ⟨fs, v1, hx, hv, hw⟩ := hw
    refine bj_get (pc := 127) (ci := 7) (k := 1) (fs := fs) (v := .int v1) d_R_makeSwaps_127 rfl (by decide) q_749 hx hv ?_
    refine bj_icmp_ge (pc := 130) (tgt := 156) d_R_makeSwaps_130 (by decide) (fun hc => ?_) (fun hc => ?_)
    · replace hw := hw.1 hc
      refine bj_sub [0, 1, 2] (lo' := [(0, .ref x0), (1, .int x1), (2, .int x2)]) rfl ?_
      exact m_R_makeSwaps_156 hR hnx35 hw
    · replace hw := hw.2 hc
      refine bj_iload_n (pc := 133) 2 d_R_makeSwaps_133 rfl rfl ?_
      refine bj_iconst (pc := 134) (v := 2) d_R_makeSwaps_134 (by decide) ?_
      refine bj_icmp_le (pc := 135) (tgt := 156) d_R_makeSwaps_135 (by decide) (fun hc => ?_) (fun hc => ?_)
      · replace hw := hw.1 hc
        refine bj_sub [0, 1, 2] (lo' := [(0, .ref x0), (1, .int x1), (2, .int x2)]) rfl ?_
        exact m_R_makeSwaps_156 hR hnx35 hw
      · replace hw := hw.2 hc
        refine bj_aload_n (pc := 138) 0 d_R_makeSwaps_138 rfl rfl ?_
        obtain ⟨fs, v2, hx, hv, hw⟩ := hw
        refine bj_get (pc := 139) (ci := 7) (k := 15) (fs := fs) (v := .ref v2) d_R_makeSwaps_139 rfl (by decide) q_763 hx hv ?_
        refine bj_iload_n (pc := 142) 3 d_R_makeSwaps_142 rfl rfl ?_
        refine bj_aload_n (pc := 143) 0 d_R_makeSwaps_143 rfl rfl ?_
        obtain ⟨fs, v3, hx, hv, hw⟩ := hw
        refine bj_get (pc := 144) (ci := 7) (k := 16) (fs := fs) (v := .ref v3) d_R_makeSwaps_144 rfl (by decide) q_764 hx hv ?_
        refine bj_iload_n (pc := 147) 3 d_R_makeSwaps_147 rfl rfl ?_
        obtain ⟨n, f, v4, hx, hin, hv, hw⟩ := hw
        refine bj_iald (pc := 148) (n := n) (f := f) d_R_makeSwaps_148 hx hin hv ?_
        obtain ⟨n, f, hx, hin, hw⟩ := hw
        refine bj_iast (pc := 149) (n := n) (f := f) d_R_makeSwaps_149 hx hin ?_
        refine bj_iinc (pc := 150) (v := (x3 + 1)) (lo' := [(3, .int (x3 + 1)), (0, .ref x0), (1, .int x1), (2, .int x2)]) 3 d_R_makeSwaps_150 rfl rfl (by decide) rfl ?_
        refine bj_goto (pc := 153) (tgt := 125) d_R_makeSwaps_153 (by decide) ?_
        refine bj_sub [1, 2, 3, 0] (lo' := [(0, .ref x0), (1, .int x1), (2, .int x2), (3, .int (x3 + 1))]) rfl ?_
        exact hnx125 _ _ _ _ _ hw
theorem m_R_makeSwaps_116 {l : Launch} {R : Room} {Φ : bs_R → bs_H → Prop} (hR : bs_rm 4 R) {nx35 : Nat → Int32 → Int32 → bs_H → Prop} {nx56 : Nat → Int32 → Int32 → Int32 → bs_H → Prop} (hnx35 : ∀ (x0 : Nat) (x1 : Int32) (x2 : Int32) (h : bs_H), nx35 x0 x1 x2 h → bs_J l K_R_makeSwaps R Φ 35 [(0, .ref x0), (1, .int x1), (2, .int x2)] [] h) (hnx56 : ∀ (x0 : Nat) (x1 : Int32) (x2 : Int32) (x3 : Int32) (h : bs_H), nx56 x0 x1 x2 x3 h → bs_J l K_R_makeSwaps R Φ 56 [(0, .ref x0), (1, .int x1), (2, .int x2), (3, .int x3)] [] h) {x0 : Nat} {x1 : Int32} {x2 : Int32} {x3 : Int32} {h : bs_H} (hw : w_R_makeSwaps_116 Φ nx35 nx56 x0 x1 x2 x3 h) : bs_J l K_R_makeSwaps R Φ 116 [(0, .ref x0), (1, .int x1), (2, .int x2), (3, .int x3)] [] h := by
  unfold w_R_makeSwaps_116 at hw
  refine bj_iload_n (pc := 116) 3 d_R_makeSwaps_116 rfl rfl ?_
  refine bj_iload_n (pc := 117) 2 d_R_makeSwaps_117 rfl rfl ?_
  refine bj_iadd (pc := 118) d_R_makeSwaps_118 ?_
  refine bj_istore_n (pc := 119) (lo' := [(3, .int (x3 + x2)), (0, .ref x0), (1, .int x1), (2, .int x2)]) d_R_makeSwaps_119 rfl (by decide) rfl ?_
  refine bj_goto (pc := 120) (tgt := 56) d_R_makeSwaps_120 (by decide) ?_
  refine bj_sub [1, 2, 3, 0] (lo' := [(0, .ref x0), (1, .int x1), (2, .int x2), (3, .int (x3 + x2))]) rfl ?_
  exact hnx56 _ _ _ _ _ hw
theorem m_R_makeSwaps_115 {l : Launch} {R : Room} {Φ : bs_R → bs_H → Prop} (hR : bs_rm 4 R) {nx35 : Nat → Int32 → Int32 → bs_H → Prop} {nx56 : Nat → Int32 → Int32 → Int32 → bs_H → Prop} (hnx35 : ∀ (x0 : Nat) (x1 : Int32) (x2 : Int32) (h : bs_H), nx35 x0 x1 x2 h → bs_J l K_R_makeSwaps R Φ 35 [(0, .ref x0), (1, .int x1), (2, .int x2)] [] h) (hnx56 : ∀ (x0 : Nat) (x1 : Int32) (x2 : Int32) (x3 : Int32) (h : bs_H), nx56 x0 x1 x2 x3 h → bs_J l K_R_makeSwaps R Φ 56 [(0, .ref x0), (1, .int x1), (2, .int x2), (3, .int x3)] [] h) {x0 : Nat} {x1 : Int32} {x2 : Int32} {x3 : Int32} {s0 : Nat} {s1 : Int32} {s2 : Int64} {h : bs_H} (hw : w_R_makeSwaps_115 Φ nx35 nx56 x0 x1 x2 x3 s0 s1 s2 h) : bs_J l K_R_makeSwaps R Φ 115 [(0, .ref x0), (1, .int x1), (2, .int x2), (3, .int x3)] [.long s2, .int s1, .ref s0] h := by
  unfold w_R_makeSwaps_115 at hw
  obtain ⟨n, f, hx, hin, hw⟩ := hw
  refine bj_last (pc := 115) (n := n) (f := f) d_R_makeSwaps_115 hx hin ?_
  exact m_R_makeSwaps_116 hR hnx35 hnx56 hw
theorem m_R_makeSwaps_56 {l : Launch} {R : Room} {Φ : bs_R → bs_H → Prop} (hR : bs_rm 4 R) {nx35 : Nat → Int32 → Int32 → bs_H → Prop} (hnx35 : ∀ (x0 : Nat) (x1 : Int32) (x2 : Int32) (h : bs_H), nx35 x0 x1 x2 h → bs_J l K_R_makeSwaps R Φ 35 [(0, .ref x0), (1, .int x1), (2, .int x2)] [] h) : ∀ (n : Nat) (x0 : Nat) (x1 : Int32) (x2 : Int32) (x3 : Int32) (h : bs_H), w_R_makeSwaps_56 Φ nx35 n x0 x1 x2 x3 h → bs_J l K_R_makeSwaps R Φ 56 [(0, .ref x0), (1, .int x1), (2, .int x2), (3, .int x3)] [] h := by
  intro n
  induction n with
  | zero => intro x0 x1 x2 x3 h hw; exact hw.elim
  | succ n ih =>
    have hnx56 := ih
    intro x0 x1 x2 x3 h hw
    replace hw : w_R_makeSwaps_56_s Φ nx35 (w_R_makeSwaps_56 Φ nx35 n) x0 x1 x2 x3 h := hw
    unfold w_R_makeSwaps_56_s at hw
    refine bj_iload_n (pc := 56) 3 d_R_makeSwaps_56 rfl rfl ?_
    refine bj_aload_n (pc := 57) 0 d_R_makeSwaps_57 rfl rfl ?_
    obtain ⟨fs, v1, hx, hv, hw⟩ := hw
    refine bj_get (pc := 58) (ci := 7) (k := 1) (fs := fs) (v := .int v1) d_R_makeSwaps_58 rfl (by decide) q_749 hx hv ?_
    refine bj_icmp_ge (pc := 61) (tgt := 123) d_R_makeSwaps_61 (by decide) (fun hc => ?_) (fun hc => ?_)
    · replace hw := hw.1 hc
      refine bj_iconst (pc := 123) (v := 0) d_R_makeSwaps_123 (by decide) ?_
      refine bj_istore_n (pc := 124) (lo' := [(3, .int 0), (0, .ref x0), (1, .int x1), (2, .int x2)]) d_R_makeSwaps_124 rfl (by decide) rfl ?_
      refine bj_sub [1, 2, 3, 0] (lo' := [(0, .ref x0), (1, .int x1), (2, .int x2), (3, .int 0)]) rfl ?_
      exact m_R_makeSwaps_125 hR hnx35 1000 _ _ _ _ _ hw
    · replace hw := hw.2 hc
      refine bj_iload_n (pc := 64) 2 d_R_makeSwaps_64 rfl rfl ?_
      refine bj_iconst (pc := 65) (v := 2) d_R_makeSwaps_65 (by decide) ?_
      refine bj_icmp_le (pc := 66) (tgt := 81) d_R_makeSwaps_66 (by decide) (fun hc => ?_) (fun hc => ?_)
      · replace hw := hw.1 hc
        refine bj_aload_n (pc := 81) 0 d_R_makeSwaps_81 rfl rfl ?_
        obtain ⟨fs, v2, hx, hv, hw⟩ := hw
        refine bj_get (pc := 82) (ci := 7) (k := 19) (fs := fs) (v := .ref v2) d_R_makeSwaps_82 rfl (by decide) q_767 hx hv ?_
        refine bj_iload_n (pc := 85) 1 d_R_makeSwaps_85 rfl rfl ?_
        refine bj_aload_n (pc := 86) 0 d_R_makeSwaps_86 rfl rfl ?_
        obtain ⟨fs, v3, hx, hv, hw⟩ := hw
        refine bj_get (pc := 87) (ci := 7) (k := 15) (fs := fs) (v := .ref v3) d_R_makeSwaps_87 rfl (by decide) q_763 hx hv ?_
        refine bj_iload_n (pc := 90) 3 d_R_makeSwaps_90 rfl rfl ?_
        obtain ⟨n, f, v4, hx, hin, hv, hw⟩ := hw
        refine bj_iald (pc := 91) (n := n) (f := f) d_R_makeSwaps_91 hx hin hv ?_
        refine bj_iconst (pc := 92) (v := 1) d_R_makeSwaps_92 (by decide) ?_
        refine bj_icmp_ne (pc := 93) (tgt := 109) d_R_makeSwaps_93 (by decide) (fun hc => ?_) (fun hc => ?_)
        · replace hw := hw.2 hc
          refine bj_aload_n (pc := 109) 0 d_R_makeSwaps_109 rfl rfl ?_
          obtain ⟨fs, v5, hx, hv, hw⟩ := hw
          refine bj_get (pc := 110) (ci := 7) (k := 19) (fs := fs) (v := .ref v5) d_R_makeSwaps_110 rfl (by decide) q_767 hx hv ?_
          refine bj_iload_n (pc := 113) 1 d_R_makeSwaps_113 rfl rfl ?_
          obtain ⟨n, f, v6, hx, hin, hv, hw⟩ := hw
          refine bj_lald (pc := 114) (n := n) (f := f) d_R_makeSwaps_114 hx hin hv ?_
          exact m_R_makeSwaps_115 hR hnx35 hnx56 hw
        · replace hw := hw.1 hc
          refine bj_aload_n (pc := 96) 0 d_R_makeSwaps_96 rfl rfl ?_
          obtain ⟨fs, v7, hx, hv, hw⟩ := hw
          refine bj_get (pc := 97) (ci := 7) (k := 19) (fs := fs) (v := .ref v7) d_R_makeSwaps_97 rfl (by decide) q_767 hx hv ?_
          refine bj_iload_n (pc := 100) 1 d_R_makeSwaps_100 rfl rfl ?_
          obtain ⟨n, f, v8, hx, hin, hv, hw⟩ := hw
          refine bj_lald (pc := 101) (n := n) (f := f) d_R_makeSwaps_101 hx hin hv ?_
          refine bj_lconst (pc := 102) (v := 1) d_R_makeSwaps_102 (by decide) ?_
          refine bj_iload_n (pc := 103) 3 d_R_makeSwaps_103 rfl rfl ?_
          refine bj_lshl (pc := 104) d_R_makeSwaps_104 ?_
          refine bj_lor (pc := 105) d_R_makeSwaps_105 ?_
          refine bj_goto (pc := 106) (tgt := 115) d_R_makeSwaps_106 (by decide) ?_
          exact m_R_makeSwaps_115 hR hnx35 hnx56 hw
      · replace hw := hw.2 hc
        refine bj_aload_n (pc := 69) 0 d_R_makeSwaps_69 rfl rfl ?_
        refine bj_iload_n (pc := 70) 3 d_R_makeSwaps_70 rfl rfl ?_
        refine bj_iload_n (pc := 71) 2 d_R_makeSwaps_71 rfl rfl ?_
        refine bj_iconst (pc := 72) (v := 2) d_R_makeSwaps_72 (by decide) ?_
        refine bj_idiv (pc := 73) d_R_makeSwaps_73 (by decide) ?_
        refine bj_iload_n (pc := 74) 1 d_R_makeSwaps_74 rfl rfl ?_
        obtain ⟨⟨fs, hx⟩, hw⟩ := hw
        refine bj_callV (pc := 75) (np := 3) (K' := K_R_split) (argsL := [.int x3, .int (x2 / 2), .int x1]) (st := []) (d1 := 3) (ci := 7) (fs := fs) rfl d_R_makeSwaps_75 (Or.inl q_875) q_877 rfl q_30 c_R_split n_R_split hR (by decide) (by decide) rfl (Nat.le_of_ble_eq_true rfl) rfl (Nat.le_of_ble_eq_true rfl) hx (fun R' hR' => m_R_split hR' hw) (bs_kV_ok fun h9 hw => ?_) (fun _ _ z => z)
        refine bj_goto (pc := 78) (tgt := 116) d_R_makeSwaps_78 (by decide) ?_
        exact m_R_makeSwaps_116 hR hnx35 hnx56 hw
theorem m_R_makeSwaps_35 {l : Launch} {R : Room} {Φ : bs_R → bs_H → Prop} (hR : bs_rm 4 R) : ∀ (n : Nat) (x0 : Nat) (x1 : Int32) (x2 : Int32) (h : bs_H), w_R_makeSwaps_35 Φ n x0 x1 x2 h → bs_J l K_R_makeSwaps R Φ 35 [(0, .ref x0), (1, .int x1), (2, .int x2)] [] h := by
  intro n
  induction n with
  | zero => intro x0 x1 x2 h hw; exact hw.elim
  | succ n ih =>
    have hnx35 := ih
    intro x0 x1 x2 h hw
    replace hw : w_R_makeSwaps_35_s Φ (w_R_makeSwaps_35 Φ n) x0 x1 x2 h := hw
    unfold w_R_makeSwaps_35_s at hw
    refine bj_iload_n (pc := 35) 2 d_R_makeSwaps_35 rfl rfl ?_
    refine bj_iconst (pc := 36) (v := 1) d_R_makeSwaps_36 (by decide) ?_
    refine bj_icmp_le (pc := 37) (tgt := 166) d_R_makeSwaps_37 (by decide) (fun hc => ?_) (fun hc => ?_)
    · replace hw := hw.1 hc
      refine bj_iconst (pc := 166) (v := 0) d_R_makeSwaps_166 (by decide) ?_
      refine bj_istore_n (pc := 167) (lo' := [(2, .int 0), (0, .ref x0), (1, .int x1)]) d_R_makeSwaps_167 rfl (by decide) rfl ?_
      refine bj_sub [1, 2, 0] (lo' := [(0, .ref x0), (1, .int x1), (2, .int 0)]) rfl ?_
      exact m_R_makeSwaps_168 hR 1000 _ _ _ _ hw
    · replace hw := hw.2 hc
      refine bj_aload_n (pc := 40) 0 d_R_makeSwaps_40 rfl rfl ?_
      obtain ⟨fs, v1, hx, hv, hw⟩ := hw
      refine bj_get (pc := 41) (ci := 7) (k := 19) (fs := fs) (v := .ref v1) d_R_makeSwaps_41 rfl (by decide) q_767 hx hv ?_
      refine bj_iload_n (pc := 44) 1 d_R_makeSwaps_44 rfl rfl ?_
      refine bj_lconst (pc := 45) (v := 0) d_R_makeSwaps_45 (by decide) ?_
      obtain ⟨n, f, hx, hin, hw⟩ := hw
      refine bj_last (pc := 46) (n := n) (f := f) d_R_makeSwaps_46 hx hin ?_
      refine bj_aload_n (pc := 47) 0 d_R_makeSwaps_47 rfl rfl ?_
      obtain ⟨fs, v3, hx, hv, hw⟩ := hw
      refine bj_get (pc := 48) (ci := 7) (k := 20) (fs := fs) (v := .ref v3) d_R_makeSwaps_48 rfl (by decide) q_768 hx hv ?_
      refine bj_iload_n (pc := 51) 1 d_R_makeSwaps_51 rfl rfl ?_
      refine bj_lconst (pc := 52) (v := 0) d_R_makeSwaps_52 (by decide) ?_
      obtain ⟨n, f, hx, hin, hw⟩ := hw
      refine bj_last (pc := 53) (n := n) (f := f) d_R_makeSwaps_53 hx hin ?_
      refine bj_iconst (pc := 54) (v := 0) d_R_makeSwaps_54 (by decide) ?_
      refine bj_istore_n (pc := 55) (lo' := [(3, .int 0), (0, .ref x0), (1, .int x1), (2, .int x2)]) d_R_makeSwaps_55 rfl (by decide) rfl ?_
      refine bj_sub [1, 2, 3, 0] (lo' := [(0, .ref x0), (1, .int x1), (2, .int x2), (3, .int 0)]) rfl ?_
      exact m_R_makeSwaps_56 hR hnx35 1000 _ _ _ _ _ hw
theorem m_R_makeSwaps_2 {l : Launch} {R : Room} {Φ : bs_R → bs_H → Prop} (hR : bs_rm 4 R) : ∀ (n : Nat) (x0 : Nat) (x1 : Int32) (h : bs_H), w_R_makeSwaps_2 Φ n x0 x1 h → bs_J l K_R_makeSwaps R Φ 2 [(0, .ref x0), (1, .int x1)] [] h := by
  intro n
  induction n with
  | zero => intro x0 x1 h hw; exact hw.elim
  | succ n ih =>
    have hnx2 := ih
    intro x0 x1 h hw
    replace hw : w_R_makeSwaps_2_s Φ (w_R_makeSwaps_2 Φ n) x0 x1 h := hw
    unfold w_R_makeSwaps_2_s at hw
    refine bj_iload_n (pc := 2) 1 d_R_makeSwaps_2 rfl rfl ?_
    refine bj_aload_n (pc := 3) 0 d_R_makeSwaps_3 rfl rfl ?_
    obtain ⟨fs, v1, hx, hv, hw⟩ := hw
    refine bj_get (pc := 4) (ci := 7) (k := 1) (fs := fs) (v := .int v1) d_R_makeSwaps_4 rfl (by decide) q_749 hx hv ?_
    refine bj_icmp_ge (pc := 7) (tgt := 28) d_R_makeSwaps_7 (by decide) (fun hc => ?_) (fun hc => ?_)
    · replace hw := hw.1 hc
      refine bj_iconst (pc := 28) (v := 0) d_R_makeSwaps_28 (by decide) ?_
      refine bj_istore_n (pc := 29) (lo' := [(1, .int 0), (0, .ref x0)]) d_R_makeSwaps_29 rfl (by decide) rfl ?_
      refine bj_aload_n (pc := 30) 1 d_R_makeSwaps_30 rfl rfl ?_
      obtain ⟨fs, v2, hx, hv, hw⟩ := hw
      refine bj_get (pc := 31) (ci := 7) (k := 1) (fs := fs) (v := .int v2) d_R_makeSwaps_31 rfl (by decide) q_749 hx hv ?_
      refine bj_istore_n (pc := 34) (lo' := [(2, .int v2), (1, .int 0), (0, .ref x0)]) d_R_makeSwaps_34 rfl (by decide) rfl ?_
      refine bj_sub [2, 1, 0] (lo' := [(0, .ref x0), (1, .int 0), (2, .int v2)]) rfl ?_
      exact m_R_makeSwaps_35 hR 1000 _ _ _ _ hw
    · replace hw := hw.2 hc
      refine bj_aload_n (pc := 10) 0 d_R_makeSwaps_10 rfl rfl ?_
      obtain ⟨fs, v3, hx, hv, hw⟩ := hw
      refine bj_get (pc := 11) (ci := 7) (k := 15) (fs := fs) (v := .ref v3) d_R_makeSwaps_11 rfl (by decide) q_763 hx hv ?_
      refine bj_iload_n (pc := 14) 1 d_R_makeSwaps_14 rfl rfl ?_
      refine bj_aload_n (pc := 15) 0 d_R_makeSwaps_15 rfl rfl ?_
      obtain ⟨fs, v4, hx, hv, hw⟩ := hw
      refine bj_get (pc := 16) (ci := 7) (k := 2) (fs := fs) (v := .ref v4) d_R_makeSwaps_16 rfl (by decide) q_750 hx hv ?_
      refine bj_iload_n (pc := 19) 1 d_R_makeSwaps_19 rfl rfl ?_
      obtain ⟨n, f, v5, hx, hin, hv, hw⟩ := hw
      refine bj_iald (pc := 20) (n := n) (f := f) d_R_makeSwaps_20 hx hin hv ?_
      obtain ⟨n, f, hx, hin, hw⟩ := hw
      refine bj_iast (pc := 21) (n := n) (f := f) d_R_makeSwaps_21 hx hin ?_
      refine bj_iinc (pc := 22) (v := (x1 + 1)) (lo' := [(1, .int (x1 + 1)), (0, .ref x0)]) 1 d_R_makeSwaps_22 rfl rfl (by decide) rfl ?_
      refine bj_goto (pc := 25) (tgt := 2) d_R_makeSwaps_25 (by decide) ?_
      refine bj_sub [1, 0] (lo' := [(0, .ref x0), (1, .int (x1 + 1))]) rfl ?_
      exact hnx2 _ _ _ hw
theorem m_R_makeSwaps {l : Launch} {R : Room} (hR : bs_rm 4 R) {Φ : bs_R → bs_H → Prop} {x0 : Nat} {h : bs_H} (hw : w_R_makeSwaps Φ x0 h) : bs_J l K_R_makeSwaps R Φ 0 [(0, .ref x0)] [] h := by
  unfold w_R_makeSwaps at hw
  refine bj_iconst (pc := 0) (v := 0) d_R_makeSwaps_0 (by decide) ?_
  refine bj_istore_n (pc := 1) (lo' := [(1, .int 0), (0, .ref x0)]) d_R_makeSwaps_1 rfl (by decide) rfl ?_
  refine bj_sub [1, 0] (lo' := [(0, .ref x0), (1, .int 0)]) rfl ?_
  exact m_R_makeSwaps_2 hR 1000 _ _ _ hw
theorem d_R_makeGathers_0 : decode prog_9_method_12_code 0 = .ok (.iconst 0, 1) := by decide +kernel
theorem d_R_makeGathers_1 : decode prog_9_method_12_code 1 = .ok (.istore_n 1, 1) := by decide +kernel
theorem d_R_makeGathers_2 : decode prog_9_method_12_code 2 = .ok (.iconst 0, 1) := by decide +kernel
theorem d_R_makeGathers_3 : decode prog_9_method_12_code 3 = .ok (.istore_n 2, 1) := by decide +kernel
theorem d_R_makeGathers_4 : decode prog_9_method_12_code 4 = .ok (.iload_n 2, 1) := by decide +kernel
theorem d_R_makeGathers_5 : decode prog_9_method_12_code 5 = .ok (.aload_n 0, 1) := by decide +kernel
theorem d_R_makeGathers_6 : decode prog_9_method_12_code 6 = .ok (.getfield 89, 3) := by decide +kernel
theorem d_R_makeGathers_9 : decode prog_9_method_12_code 9 = .ok (.if_icmp .ge 117, 3) := by decide +kernel
theorem d_R_makeGathers_12 : decode prog_9_method_12_code 12 = .ok (.aload_n 0, 1) := by decide +kernel
theorem d_R_makeGathers_13 : decode prog_9_method_12_code 13 = .ok (.getfield 7, 3) := by decide +kernel
theorem d_R_makeGathers_16 : decode prog_9_method_12_code 16 = .ok (.iload_n 2, 1) := by decide +kernel
theorem d_R_makeGathers_17 : decode prog_9_method_12_code 17 = .ok (.iaload, 1) := by decide +kernel
theorem d_R_makeGathers_18 : decode prog_9_method_12_code 18 = .ok (.istore_n 3, 1) := by decide +kernel
theorem d_R_makeGathers_19 : decode prog_9_method_12_code 19 = .ok (.iload_n 3, 1) := by decide +kernel
theorem d_R_makeGathers_20 : decode prog_9_method_12_code 20 = .ok (.bipush 64, 2) := by decide +kernel
theorem d_R_makeGathers_22 : decode prog_9_method_12_code 22 = .ok (.if_icmp .ge 98, 3) := by decide +kernel
theorem d_R_makeGathers_25 : decode prog_9_method_12_code 25 = .ok (.iconst 0, 1) := by decide +kernel
theorem d_R_makeGathers_26 : decode prog_9_method_12_code 26 = .ok (.istore 4, 2) := by decide +kernel
theorem d_R_makeGathers_28 : decode prog_9_method_12_code 28 = .ok (.iload 4, 2) := by decide +kernel
theorem d_R_makeGathers_30 : decode prog_9_method_12_code 30 = .ok (.iload_n 1, 1) := by decide +kernel
theorem d_R_makeGathers_31 : decode prog_9_method_12_code 31 = .ok (.if_icmp .ge 20, 3) := by decide +kernel
theorem d_R_makeGathers_34 : decode prog_9_method_12_code 34 = .ok (.aload_n 0, 1) := by decide +kernel
theorem d_R_makeGathers_35 : decode prog_9_method_12_code 35 = .ok (.getfield 63, 3) := by decide +kernel
theorem d_R_makeGathers_38 : decode prog_9_method_12_code 38 = .ok (.iload 4, 2) := by decide +kernel
theorem d_R_makeGathers_40 : decode prog_9_method_12_code 40 = .ok (.iaload, 1) := by decide +kernel
theorem d_R_makeGathers_41 : decode prog_9_method_12_code 41 = .ok (.iload_n 3, 1) := by decide +kernel
theorem d_R_makeGathers_42 : decode prog_9_method_12_code 42 = .ok (.if_icmp .lt 9, 3) := by decide +kernel
theorem d_R_makeGathers_45 : decode prog_9_method_12_code 45 = .ok (.iinc 4 1, 3) := by decide +kernel
theorem d_R_makeGathers_48 : decode prog_9_method_12_code 48 = .ok (.goto (-20), 3) := by decide +kernel
theorem d_R_makeGathers_51 : decode prog_9_method_12_code 51 = .ok (.iload 4, 2) := by decide +kernel
theorem d_R_makeGathers_53 : decode prog_9_method_12_code 53 = .ok (.iload_n 1, 1) := by decide +kernel
theorem d_R_makeGathers_54 : decode prog_9_method_12_code 54 = .ok (.if_icmp .ne 22, 3) := by decide +kernel
theorem d_R_makeGathers_57 : decode prog_9_method_12_code 57 = .ok (.aload_n 0, 1) := by decide +kernel
theorem d_R_makeGathers_58 : decode prog_9_method_12_code 58 = .ok (.getfield 66, 3) := by decide +kernel
theorem d_R_makeGathers_61 : decode prog_9_method_12_code 61 = .ok (.iload 4, 2) := by decide +kernel
theorem d_R_makeGathers_63 : decode prog_9_method_12_code 63 = .ok (.lconst 0, 1) := by decide +kernel
theorem d_R_makeGathers_64 : decode prog_9_method_12_code 64 = .ok (.lastore, 1) := by decide +kernel
theorem d_R_makeGathers_65 : decode prog_9_method_12_code 65 = .ok (.aload_n 0, 1) := by decide +kernel
theorem d_R_makeGathers_66 : decode prog_9_method_12_code 66 = .ok (.getfield 69, 3) := by decide +kernel
theorem d_R_makeGathers_69 : decode prog_9_method_12_code 69 = .ok (.iload 4, 2) := by decide +kernel
theorem d_R_makeGathers_71 : decode prog_9_method_12_code 71 = .ok (.lconst 0, 1) := by decide +kernel
theorem d_R_makeGathers_72 : decode prog_9_method_12_code 72 = .ok (.lastore, 1) := by decide +kernel
theorem d_R_makeGathers_73 : decode prog_9_method_12_code 73 = .ok (.iinc 1 1, 3) := by decide +kernel
theorem d_R_makeGathers_76 : decode prog_9_method_12_code 76 = .ok (.aload_n 0, 1) := by decide +kernel
theorem d_R_makeGathers_77 : decode prog_9_method_12_code 77 = .ok (.getfield 63, 3) := by decide +kernel
theorem d_R_makeGathers_80 : decode prog_9_method_12_code 80 = .ok (.iload 4, 2) := by decide +kernel
theorem d_R_makeGathers_82 : decode prog_9_method_12_code 82 = .ok (.iload_n 3, 1) := by decide +kernel
theorem d_R_makeGathers_83 : decode prog_9_method_12_code 83 = .ok (.iastore, 1) := by decide +kernel
theorem d_R_makeGathers_84 : decode prog_9_method_12_code 84 = .ok (.aload_n 0, 1) := by decide +kernel
theorem d_R_makeGathers_85 : decode prog_9_method_12_code 85 = .ok (.getfield 66, 3) := by decide +kernel
theorem d_R_makeGathers_88 : decode prog_9_method_12_code 88 = .ok (.iload 4, 2) := by decide +kernel
theorem d_R_makeGathers_90 : decode prog_9_method_12_code 90 = .ok (.aload_n 0, 1) := by decide +kernel
theorem d_R_makeGathers_91 : decode prog_9_method_12_code 91 = .ok (.getfield 66, 3) := by decide +kernel
theorem d_R_makeGathers_94 : decode prog_9_method_12_code 94 = .ok (.iload 4, 2) := by decide +kernel
theorem d_R_makeGathers_96 : decode prog_9_method_12_code 96 = .ok (.laload, 1) := by decide +kernel
theorem d_R_makeGathers_97 : decode prog_9_method_12_code 97 = .ok (.lconst 1, 1) := by decide +kernel
theorem d_R_makeGathers_98 : decode prog_9_method_12_code 98 = .ok (.iload_n 3, 1) := by decide +kernel
theorem d_R_makeGathers_99 : decode prog_9_method_12_code 99 = .ok (.lshl, 1) := by decide +kernel
theorem d_R_makeGathers_100 : decode prog_9_method_12_code 100 = .ok (.lor, 1) := by decide +kernel
theorem d_R_makeGathers_101 : decode prog_9_method_12_code 101 = .ok (.lastore, 1) := by decide +kernel
theorem d_R_makeGathers_102 : decode prog_9_method_12_code 102 = .ok (.aload_n 0, 1) := by decide +kernel
theorem d_R_makeGathers_103 : decode prog_9_method_12_code 103 = .ok (.getfield 69, 3) := by decide +kernel
theorem d_R_makeGathers_106 : decode prog_9_method_12_code 106 = .ok (.iload 4, 2) := by decide +kernel
theorem d_R_makeGathers_108 : decode prog_9_method_12_code 108 = .ok (.aload_n 0, 1) := by decide +kernel
theorem d_R_makeGathers_109 : decode prog_9_method_12_code 109 = .ok (.getfield 69, 3) := by decide +kernel
theorem d_R_makeGathers_112 : decode prog_9_method_12_code 112 = .ok (.iload 4, 2) := by decide +kernel
theorem d_R_makeGathers_114 : decode prog_9_method_12_code 114 = .ok (.laload, 1) := by decide +kernel
theorem d_R_makeGathers_115 : decode prog_9_method_12_code 115 = .ok (.lconst 1, 1) := by decide +kernel
theorem d_R_makeGathers_116 : decode prog_9_method_12_code 116 = .ok (.iload_n 2, 1) := by decide +kernel
theorem d_R_makeGathers_117 : decode prog_9_method_12_code 117 = .ok (.lshl, 1) := by decide +kernel
theorem d_R_makeGathers_118 : decode prog_9_method_12_code 118 = .ok (.lor, 1) := by decide +kernel
theorem d_R_makeGathers_119 : decode prog_9_method_12_code 119 = .ok (.lastore, 1) := by decide +kernel
theorem d_R_makeGathers_120 : decode prog_9_method_12_code 120 = .ok (.iinc 2 1, 3) := by decide +kernel
theorem d_R_makeGathers_123 : decode prog_9_method_12_code 123 = .ok (.goto (-119), 3) := by decide +kernel
theorem d_R_makeGathers_126 : decode prog_9_method_12_code 126 = .ok (.iconst 0, 1) := by decide +kernel
theorem d_R_makeGathers_127 : decode prog_9_method_12_code 127 = .ok (.istore_n 2, 1) := by decide +kernel
theorem d_R_makeGathers_128 : decode prog_9_method_12_code 128 = .ok (.iload_n 2, 1) := by decide +kernel
theorem d_R_makeGathers_129 : decode prog_9_method_12_code 129 = .ok (.iload_n 1, 1) := by decide +kernel
theorem d_R_makeGathers_130 : decode prog_9_method_12_code 130 = .ok (.if_icmp .ge 42, 3) := by decide +kernel
theorem d_R_makeGathers_133 : decode prog_9_method_12_code 133 = .ok (.aload_n 0, 1) := by decide +kernel
theorem d_R_makeGathers_134 : decode prog_9_method_12_code 134 = .ok (.bipush 7, 2) := by decide +kernel
theorem d_R_makeGathers_136 : decode prog_9_method_12_code 136 = .ok (.iconst 0, 1) := by decide +kernel
theorem d_R_makeGathers_137 : decode prog_9_method_12_code 137 = .ok (.aload_n 0, 1) := by decide +kernel
theorem d_R_makeGathers_138 : decode prog_9_method_12_code 138 = .ok (.getfield 66, 3) := by decide +kernel
theorem d_R_makeGathers_141 : decode prog_9_method_12_code 141 = .ok (.iload_n 2, 1) := by decide +kernel
theorem d_R_makeGathers_142 : decode prog_9_method_12_code 142 = .ok (.laload, 1) := by decide +kernel
theorem d_R_makeGathers_143 : decode prog_9_method_12_code 143 = .ok (.invokevirtual 99, 3) := by decide +kernel
theorem d_R_makeGathers_146 : decode prog_9_method_12_code 146 = .ok (.aload_n 0, 1) := by decide +kernel
theorem d_R_makeGathers_147 : decode prog_9_method_12_code 147 = .ok (.bipush 8, 2) := by decide +kernel
theorem d_R_makeGathers_149 : decode prog_9_method_12_code 149 = .ok (.iconst 0, 1) := by decide +kernel
theorem d_R_makeGathers_150 : decode prog_9_method_12_code 150 = .ok (.aload_n 0, 1) := by decide +kernel
theorem d_R_makeGathers_151 : decode prog_9_method_12_code 151 = .ok (.getfield 69, 3) := by decide +kernel
theorem d_R_makeGathers_154 : decode prog_9_method_12_code 154 = .ok (.iload_n 2, 1) := by decide +kernel
theorem d_R_makeGathers_155 : decode prog_9_method_12_code 155 = .ok (.laload, 1) := by decide +kernel
theorem d_R_makeGathers_156 : decode prog_9_method_12_code 156 = .ok (.invokevirtual 99, 3) := by decide +kernel
theorem d_R_makeGathers_159 : decode prog_9_method_12_code 159 = .ok (.aload_n 0, 1) := by decide +kernel
theorem d_R_makeGathers_160 : decode prog_9_method_12_code 160 = .ok (.iconst 3, 1) := by decide +kernel
theorem d_R_makeGathers_161 : decode prog_9_method_12_code 161 = .ok (.iconst 0, 1) := by decide +kernel
theorem d_R_makeGathers_162 : decode prog_9_method_12_code 162 = .ok (.lconst 0, 1) := by decide +kernel
theorem d_R_makeGathers_163 : decode prog_9_method_12_code 163 = .ok (.invokevirtual 99, 3) := by decide +kernel
theorem d_R_makeGathers_166 : decode prog_9_method_12_code 166 = .ok (.iinc 2 1, 3) := by decide +kernel
theorem d_R_makeGathers_169 : decode prog_9_method_12_code 169 = .ok (.goto (-41), 3) := by decide +kernel
theorem d_R_makeGathers_172 : decode prog_9_method_12_code 172 = .ok (.aload_n 0, 1) := by decide +kernel
theorem d_R_makeGathers_173 : decode prog_9_method_12_code 173 = .ok (.invokevirtual 103, 3) := by decide +kernel
theorem d_R_makeGathers_176 : decode prog_9_method_12_code 176 = .ok (.return_, 1) := by decide +kernel
def w_R_makeGathers_128_s (Φ : bs_R → bs_H → Prop) (nx128 : Nat → Int32 → Int32 → bs_H → Prop) (x0 : Nat) (x1 : Int32) (x2 : Int32) (h : bs_H) : Prop :=
  bs_if (x1 ≤ x2) (bs_on h x0 7 (w_R_addOnes (bs_kV Φ fun h1 => (Φ (.ok none) h1)) x0 h)) (bs_fA h x0 7 22 (fun v2 => bs_lL h v2 x2 (fun v3 => bs_on h x0 7 (w_R_add (bs_kV Φ fun h4 => (bs_fA h4 x0 7 23 (fun v5 => bs_lL h4 v5 x2 (fun v6 => bs_on h4 x0 7 (w_R_add (bs_kV Φ fun h7 => (bs_on h7 x0 7 (w_R_add (bs_kV Φ fun h8 => (nx128 x0 x1 (x2 + 1) h8)) x0 3 0 0 h7))) x0 8 0 v6 h4))))) x0 7 0 v3 h))))
def w_R_makeGathers_128 (Φ : bs_R → bs_H → Prop) : Nat → Nat → Int32 → Int32 → bs_H → Prop
  | 0 => fun _ _ _ _ => False
  | n + 1 => fun x0 x1 x2 h => w_R_makeGathers_128_s Φ (w_R_makeGathers_128 Φ n) x0 x1 x2 h
def w_R_makeGathers_120 (Φ : bs_R → bs_H → Prop) (nx4 : Nat → Int32 → Int32 → bs_H → Prop) (x0 : Nat) (x1 : Int32) (x2 : Int32) (h : bs_H) : Prop :=
  nx4 x0 x1 (x2 + 1) h
def w_R_makeGathers_76 (Φ : bs_R → bs_H → Prop) (nx4 : Nat → Int32 → Int32 → bs_H → Prop) (x0 : Nat) (x1 : Int32) (x2 : Int32) (x3 : Int32) (x4 : Int32) (h : bs_H) : Prop :=
  bs_fA h x0 7 21 (fun v1 => bs_sI h v1 x4 x3 (fun h2 => bs_fA h2 x0 7 22 (fun v3 => bs_fA h2 x0 7 22 (fun v4 => bs_lL h2 v4 x4 (fun v5 => bs_sL h2 v3 x4 (v5 ||| (bs_shl 1 x3)) (fun h6 => bs_fA h6 x0 7 23 (fun v7 => bs_fA h6 x0 7 23 (fun v8 => bs_lL h6 v8 x4 (fun v9 => bs_sL h6 v7 x4 (v9 ||| (bs_shl 1 x2)) (fun h10 => w_R_makeGathers_120 Φ nx4 x0 x1 x2 h10))))))))))
def w_R_makeGathers_51 (Φ : bs_R → bs_H → Prop) (nx4 : Nat → Int32 → Int32 → bs_H → Prop) (x0 : Nat) (x1 : Int32) (x2 : Int32) (x3 : Int32) (x4 : Int32) (h : bs_H) : Prop :=
  bs_if (x4 = x1) (bs_fA h x0 7 22 (fun v1 => bs_sL h v1 x4 0 (fun h2 => bs_fA h2 x0 7 23 (fun v3 => bs_sL h2 v3 x4 0 (fun h4 => w_R_makeGathers_76 Φ nx4 x0 (x1 + 1) x2 x3 x4 h4))))) (w_R_makeGathers_76 Φ nx4 x0 x1 x2 x3 x4 h)
def w_R_makeGathers_28_s (Φ : bs_R → bs_H → Prop) (nx4 : Nat → Int32 → Int32 → bs_H → Prop) (nx28 : Nat → Int32 → Int32 → Int32 → Int32 → bs_H → Prop) (x0 : Nat) (x1 : Int32) (x2 : Int32) (x3 : Int32) (x4 : Int32) (h : bs_H) : Prop :=
  bs_if (x1 ≤ x4) (w_R_makeGathers_51 Φ nx4 x0 x1 x2 x3 x4 h) (bs_fA h x0 7 21 (fun v1 => bs_lI h v1 x4 (fun v2 => bs_if (v2 < x3) (w_R_makeGathers_51 Φ nx4 x0 x1 x2 x3 x4 h) (nx28 x0 x1 x2 x3 (x4 + 1) h))))
def w_R_makeGathers_28 (Φ : bs_R → bs_H → Prop) (nx4 : Nat → Int32 → Int32 → bs_H → Prop) : Nat → Nat → Int32 → Int32 → Int32 → Int32 → bs_H → Prop
  | 0 => fun _ _ _ _ _ _ => False
  | n + 1 => fun x0 x1 x2 x3 x4 h => w_R_makeGathers_28_s Φ nx4 (w_R_makeGathers_28 Φ nx4 n) x0 x1 x2 x3 x4 h
def w_R_makeGathers_4_s (Φ : bs_R → bs_H → Prop) (nx4 : Nat → Int32 → Int32 → bs_H → Prop) (x0 : Nat) (x1 : Int32) (x2 : Int32) (h : bs_H) : Prop :=
  bs_fI h x0 7 1 (fun v1 => bs_if (v1 ≤ x2) (w_R_makeGathers_128 Φ 1000 x0 x1 0 h) (bs_fA h x0 7 2 (fun v2 => bs_lI h v2 x2 (fun v3 => bs_if ((64 : Int32) ≤ v3) (w_R_makeGathers_120 Φ nx4 x0 x1 x2 h) (w_R_makeGathers_28 Φ nx4 1000 x0 x1 x2 v3 0 h)))))
def w_R_makeGathers_4 (Φ : bs_R → bs_H → Prop) : Nat → Nat → Int32 → Int32 → bs_H → Prop
  | 0 => fun _ _ _ _ => False
  | n + 1 => fun x0 x1 x2 h => w_R_makeGathers_4_s Φ (w_R_makeGathers_4 Φ n) x0 x1 x2 h
def w_R_makeGathers (Φ : bs_R → bs_H → Prop) (x0 : Nat) (h : bs_H) : Prop :=
  w_R_makeGathers_4 Φ 1000 x0 0 0 h
theorem m_R_makeGathers_128 {l : Launch} {R : Room} {Φ : bs_R → bs_H → Prop} (hR : bs_rm 3 R) : ∀ (n : Nat) (x0 : Nat) (x1 : Int32) (x2 : Int32) (h : bs_H), w_R_makeGathers_128 Φ n x0 x1 x2 h → bs_J l K_R_makeGathers R Φ 128 [(0, .ref x0), (1, .int x1), (2, .int x2)] [] h := by
  intro n
  induction n with
  | zero => intro x0 x1 x2 h hw; exact hw.elim
  | succ n ih =>
    have hnx128 := ih
    intro x0 x1 x2 h hw
    replace hw : w_R_makeGathers_128_s Φ (w_R_makeGathers_128 Φ n) x0 x1 x2 h := hw
    unfold w_R_makeGathers_128_s at hw
    refine bj_iload_n (pc := 128) 2 d_R_makeGathers_128 rfl rfl ?_
    refine bj_iload_n (pc := 129) 1 d_R_makeGathers_129 rfl rfl ?_
    refine bj_icmp_ge (pc := 130) (tgt := 172) d_R_makeGathers_130 (by decide) (fun hc => ?_) (fun hc => ?_)
    · replace hw := hw.1 hc
      refine bj_aload_n (pc := 172) 0 d_R_makeGathers_172 rfl rfl ?_
      obtain ⟨⟨fs, hx⟩, hw⟩ := hw
      refine bj_callV (pc := 173) (np := 0) (K' := K_R_addOnes) (argsL := []) (st := []) (d1 := 2) (ci := 7) (fs := fs) rfl d_R_makeGathers_173 (Or.inl q_867) q_869 rfl q_28 c_R_addOnes n_R_addOnes hR (by decide) (by decide) rfl (Nat.le_of_ble_eq_true rfl) rfl (Nat.le_of_ble_eq_true rfl) hx (fun R' hR' => m_R_addOnes hR' hw) (bs_kV_ok fun h1 hw => ?_) (fun _ _ z => z)
      exact bj_vret (pc := 176) d_R_makeGathers_176 rfl hw
    · replace hw := hw.2 hc
      refine bj_aload_n (pc := 133) 0 d_R_makeGathers_133 rfl rfl ?_
      refine bj_bipush (pc := 134) (v := 7) d_R_makeGathers_134 (by decide) ?_
      refine bj_iconst (pc := 136) (v := 0) d_R_makeGathers_136 (by decide) ?_
      refine bj_aload_n (pc := 137) 0 d_R_makeGathers_137 rfl rfl ?_
      obtain ⟨fs, v2, hx, hv, hw⟩ := hw
      refine bj_get (pc := 138) (ci := 7) (k := 22) (fs := fs) (v := .ref v2) d_R_makeGathers_138 rfl (by decide) q_770 hx hv ?_
      refine bj_iload_n (pc := 141) 2 d_R_makeGathers_141 rfl rfl ?_
      obtain ⟨n, f, v3, hx, hin, hv, hw⟩ := hw
      refine bj_lald (pc := 142) (n := n) (f := f) d_R_makeGathers_142 hx hin hv ?_
      obtain ⟨⟨fs, hx⟩, hw⟩ := hw
      refine bj_callV (pc := 143) (np := 3) (K' := K_R_add) (argsL := [.int 7, .int 0, .long v3]) (st := []) (d1 := 1) (ci := 7) (fs := fs) rfl d_R_makeGathers_143 (Or.inl q_863) q_865 rfl q_27 c_R_add n_R_add hR (by decide) (by decide) rfl (Nat.le_of_ble_eq_true rfl) rfl (Nat.le_of_ble_eq_true rfl) hx (fun R' hR' => m_R_add hR' hw) (bs_kV_ok fun h4 hw => ?_) (fun _ _ z => z)
      refine bj_aload_n (pc := 146) 0 d_R_makeGathers_146 rfl rfl ?_
      refine bj_bipush (pc := 147) (v := 8) d_R_makeGathers_147 (by decide) ?_
      refine bj_iconst (pc := 149) (v := 0) d_R_makeGathers_149 (by decide) ?_
      refine bj_aload_n (pc := 150) 0 d_R_makeGathers_150 rfl rfl ?_
      obtain ⟨fs, v5, hx, hv, hw⟩ := hw
      refine bj_get (pc := 151) (ci := 7) (k := 23) (fs := fs) (v := .ref v5) d_R_makeGathers_151 rfl (by decide) q_771 hx hv ?_
      refine bj_iload_n (pc := 154) 2 d_R_makeGathers_154 rfl rfl ?_
      obtain ⟨n, f, v6, hx, hin, hv, hw⟩ := hw
      refine bj_lald (pc := 155) (n := n) (f := f) d_R_makeGathers_155 hx hin hv ?_
      obtain ⟨⟨fs, hx⟩, hw⟩ := hw
      refine bj_callV (pc := 156) (np := 3) (K' := K_R_add) (argsL := [.int 8, .int 0, .long v6]) (st := []) (d1 := 1) (ci := 7) (fs := fs) rfl d_R_makeGathers_156 (Or.inl q_863) q_865 rfl q_27 c_R_add n_R_add hR (by decide) (by decide) rfl (Nat.le_of_ble_eq_true rfl) rfl (Nat.le_of_ble_eq_true rfl) hx (fun R' hR' => m_R_add hR' hw) (bs_kV_ok fun h7 hw => ?_) (fun _ _ z => z)
      refine bj_aload_n (pc := 159) 0 d_R_makeGathers_159 rfl rfl ?_
      refine bj_iconst (pc := 160) (v := 3) d_R_makeGathers_160 (by decide) ?_
      refine bj_iconst (pc := 161) (v := 0) d_R_makeGathers_161 (by decide) ?_
      refine bj_lconst (pc := 162) (v := 0) d_R_makeGathers_162 (by decide) ?_
      obtain ⟨⟨fs, hx⟩, hw⟩ := hw
      refine bj_callV (pc := 163) (np := 3) (K' := K_R_add) (argsL := [.int 3, .int 0, .long 0]) (st := []) (d1 := 1) (ci := 7) (fs := fs) rfl d_R_makeGathers_163 (Or.inl q_863) q_865 rfl q_27 c_R_add n_R_add hR (by decide) (by decide) rfl (Nat.le_of_ble_eq_true rfl) rfl (Nat.le_of_ble_eq_true rfl) hx (fun R' hR' => m_R_add hR' hw) (bs_kV_ok fun h8 hw => ?_) (fun _ _ z => z)
      refine bj_iinc (pc := 166) (v := (x2 + 1)) (lo' := [(2, .int (x2 + 1)), (0, .ref x0), (1, .int x1)]) 2 d_R_makeGathers_166 rfl rfl (by decide) rfl ?_
      refine bj_goto (pc := 169) (tgt := 128) d_R_makeGathers_169 (by decide) ?_
      refine bj_sub [1, 2, 0] (lo' := [(0, .ref x0), (1, .int x1), (2, .int (x2 + 1))]) rfl ?_
      exact hnx128 _ _ _ _ hw
theorem m_R_makeGathers_120 {l : Launch} {R : Room} {Φ : bs_R → bs_H → Prop} (hR : bs_rm 3 R) {nx4 : Nat → Int32 → Int32 → bs_H → Prop} (hnx4 : ∀ (x0 : Nat) (x1 : Int32) (x2 : Int32) (h : bs_H), nx4 x0 x1 x2 h → bs_J l K_R_makeGathers R Φ 4 [(0, .ref x0), (1, .int x1), (2, .int x2)] [] h) {x0 : Nat} {x1 : Int32} {x2 : Int32} {h : bs_H} (hw : w_R_makeGathers_120 Φ nx4 x0 x1 x2 h) : bs_J l K_R_makeGathers R Φ 120 [(0, .ref x0), (1, .int x1), (2, .int x2)] [] h := by
  unfold w_R_makeGathers_120 at hw
  refine bj_iinc (pc := 120) (v := (x2 + 1)) (lo' := [(2, .int (x2 + 1)), (0, .ref x0), (1, .int x1)]) 2 d_R_makeGathers_120 rfl rfl (by decide) rfl ?_
  refine bj_goto (pc := 123) (tgt := 4) d_R_makeGathers_123 (by decide) ?_
  refine bj_sub [1, 2, 0] (lo' := [(0, .ref x0), (1, .int x1), (2, .int (x2 + 1))]) rfl ?_
  exact hnx4 _ _ _ _ hw
theorem m_R_makeGathers_76 {l : Launch} {R : Room} {Φ : bs_R → bs_H → Prop} (hR : bs_rm 3 R) {nx4 : Nat → Int32 → Int32 → bs_H → Prop} (hnx4 : ∀ (x0 : Nat) (x1 : Int32) (x2 : Int32) (h : bs_H), nx4 x0 x1 x2 h → bs_J l K_R_makeGathers R Φ 4 [(0, .ref x0), (1, .int x1), (2, .int x2)] [] h) {x0 : Nat} {x1 : Int32} {x2 : Int32} {x3 : Int32} {x4 : Int32} {h : bs_H} (hw : w_R_makeGathers_76 Φ nx4 x0 x1 x2 x3 x4 h) : bs_J l K_R_makeGathers R Φ 76 [(0, .ref x0), (1, .int x1), (2, .int x2), (3, .int x3), (4, .int x4)] [] h := by
  unfold w_R_makeGathers_76 at hw
  refine bj_aload_n (pc := 76) 0 d_R_makeGathers_76 rfl rfl ?_
  obtain ⟨fs, v1, hx, hv, hw⟩ := hw
  refine bj_get (pc := 77) (ci := 7) (k := 21) (fs := fs) (v := .ref v1) d_R_makeGathers_77 rfl (by decide) q_769 hx hv ?_
  refine bj_iload (pc := 80) 4 d_R_makeGathers_80 rfl ?_
  refine bj_iload_n (pc := 82) 3 d_R_makeGathers_82 rfl rfl ?_
  obtain ⟨n, f, hx, hin, hw⟩ := hw
  refine bj_iast (pc := 83) (n := n) (f := f) d_R_makeGathers_83 hx hin ?_
  refine bj_aload_n (pc := 84) 0 d_R_makeGathers_84 rfl rfl ?_
  obtain ⟨fs, v3, hx, hv, hw⟩ := hw
  refine bj_get (pc := 85) (ci := 7) (k := 22) (fs := fs) (v := .ref v3) d_R_makeGathers_85 rfl (by decide) q_770 hx hv ?_
  refine bj_iload (pc := 88) 4 d_R_makeGathers_88 rfl ?_
  refine bj_aload_n (pc := 90) 0 d_R_makeGathers_90 rfl rfl ?_
  obtain ⟨fs, v4, hx, hv, hw⟩ := hw
  refine bj_get (pc := 91) (ci := 7) (k := 22) (fs := fs) (v := .ref v4) d_R_makeGathers_91 rfl (by decide) q_770 hx hv ?_
  refine bj_iload (pc := 94) 4 d_R_makeGathers_94 rfl ?_
  obtain ⟨n, f, v5, hx, hin, hv, hw⟩ := hw
  refine bj_lald (pc := 96) (n := n) (f := f) d_R_makeGathers_96 hx hin hv ?_
  refine bj_lconst (pc := 97) (v := 1) d_R_makeGathers_97 (by decide) ?_
  refine bj_iload_n (pc := 98) 3 d_R_makeGathers_98 rfl rfl ?_
  refine bj_lshl (pc := 99) d_R_makeGathers_99 ?_
  refine bj_lor (pc := 100) d_R_makeGathers_100 ?_
  obtain ⟨n, f, hx, hin, hw⟩ := hw
  refine bj_last (pc := 101) (n := n) (f := f) d_R_makeGathers_101 hx hin ?_
  refine bj_aload_n (pc := 102) 0 d_R_makeGathers_102 rfl rfl ?_
  obtain ⟨fs, v7, hx, hv, hw⟩ := hw
  refine bj_get (pc := 103) (ci := 7) (k := 23) (fs := fs) (v := .ref v7) d_R_makeGathers_103 rfl (by decide) q_771 hx hv ?_
  refine bj_iload (pc := 106) 4 d_R_makeGathers_106 rfl ?_
  refine bj_aload_n (pc := 108) 0 d_R_makeGathers_108 rfl rfl ?_
  obtain ⟨fs, v8, hx, hv, hw⟩ := hw
  refine bj_get (pc := 109) (ci := 7) (k := 23) (fs := fs) (v := .ref v8) d_R_makeGathers_109 rfl (by decide) q_771 hx hv ?_
  refine bj_iload (pc := 112) 4 d_R_makeGathers_112 rfl ?_
  obtain ⟨n, f, v9, hx, hin, hv, hw⟩ := hw
  refine bj_lald (pc := 114) (n := n) (f := f) d_R_makeGathers_114 hx hin hv ?_
  refine bj_lconst (pc := 115) (v := 1) d_R_makeGathers_115 (by decide) ?_
  refine bj_iload_n (pc := 116) 2 d_R_makeGathers_116 rfl rfl ?_
  refine bj_lshl (pc := 117) d_R_makeGathers_117 ?_
  refine bj_lor (pc := 118) d_R_makeGathers_118 ?_
  obtain ⟨n, f, hx, hin, hw⟩ := hw
  refine bj_last (pc := 119) (n := n) (f := f) d_R_makeGathers_119 hx hin ?_
  refine bj_sub [0, 1, 2] (lo' := [(0, .ref x0), (1, .int x1), (2, .int x2)]) rfl ?_
  exact m_R_makeGathers_120 hR hnx4 hw
theorem m_R_makeGathers_51 {l : Launch} {R : Room} {Φ : bs_R → bs_H → Prop} (hR : bs_rm 3 R) {nx4 : Nat → Int32 → Int32 → bs_H → Prop} (hnx4 : ∀ (x0 : Nat) (x1 : Int32) (x2 : Int32) (h : bs_H), nx4 x0 x1 x2 h → bs_J l K_R_makeGathers R Φ 4 [(0, .ref x0), (1, .int x1), (2, .int x2)] [] h) {x0 : Nat} {x1 : Int32} {x2 : Int32} {x3 : Int32} {x4 : Int32} {h : bs_H} (hw : w_R_makeGathers_51 Φ nx4 x0 x1 x2 x3 x4 h) : bs_J l K_R_makeGathers R Φ 51 [(0, .ref x0), (1, .int x1), (2, .int x2), (3, .int x3), (4, .int x4)] [] h := by
  unfold w_R_makeGathers_51 at hw
  refine bj_iload (pc := 51) 4 d_R_makeGathers_51 rfl ?_
  refine bj_iload_n (pc := 53) 1 d_R_makeGathers_53 rfl rfl ?_
  refine bj_icmp_ne (pc := 54) (tgt := 76) d_R_makeGathers_54 (by decide) (fun hc => ?_) (fun hc => ?_)
  · replace hw := hw.2 hc
    exact m_R_makeGathers_76 hR hnx4 hw
  · replace hw := hw.1 hc
    refine bj_aload_n (pc := 57) 0 d_R_makeGathers_57 rfl rfl ?_
    obtain ⟨fs, v1, hx, hv, hw⟩ := hw
    refine bj_get (pc := 58) (ci := 7) (k := 22) (fs := fs) (v := .ref v1) d_R_makeGathers_58 rfl (by decide) q_770 hx hv ?_
    refine bj_iload (pc := 61) 4 d_R_makeGathers_61 rfl ?_
    refine bj_lconst (pc := 63) (v := 0) d_R_makeGathers_63 (by decide) ?_
    obtain ⟨n, f, hx, hin, hw⟩ := hw
    refine bj_last (pc := 64) (n := n) (f := f) d_R_makeGathers_64 hx hin ?_
    refine bj_aload_n (pc := 65) 0 d_R_makeGathers_65 rfl rfl ?_
    obtain ⟨fs, v3, hx, hv, hw⟩ := hw
    refine bj_get (pc := 66) (ci := 7) (k := 23) (fs := fs) (v := .ref v3) d_R_makeGathers_66 rfl (by decide) q_771 hx hv ?_
    refine bj_iload (pc := 69) 4 d_R_makeGathers_69 rfl ?_
    refine bj_lconst (pc := 71) (v := 0) d_R_makeGathers_71 (by decide) ?_
    obtain ⟨n, f, hx, hin, hw⟩ := hw
    refine bj_last (pc := 72) (n := n) (f := f) d_R_makeGathers_72 hx hin ?_
    refine bj_iinc (pc := 73) (v := (x1 + 1)) (lo' := [(1, .int (x1 + 1)), (0, .ref x0), (2, .int x2), (3, .int x3), (4, .int x4)]) 1 d_R_makeGathers_73 rfl rfl (by decide) rfl ?_
    refine bj_sub [1, 0, 2, 3, 4] (lo' := [(0, .ref x0), (1, .int (x1 + 1)), (2, .int x2), (3, .int x3), (4, .int x4)]) rfl ?_
    exact m_R_makeGathers_76 hR hnx4 hw
theorem m_R_makeGathers_28 {l : Launch} {R : Room} {Φ : bs_R → bs_H → Prop} (hR : bs_rm 3 R) {nx4 : Nat → Int32 → Int32 → bs_H → Prop} (hnx4 : ∀ (x0 : Nat) (x1 : Int32) (x2 : Int32) (h : bs_H), nx4 x0 x1 x2 h → bs_J l K_R_makeGathers R Φ 4 [(0, .ref x0), (1, .int x1), (2, .int x2)] [] h) : ∀ (n : Nat) (x0 : Nat) (x1 : Int32) (x2 : Int32) (x3 : Int32) (x4 : Int32) (h : bs_H), w_R_makeGathers_28 Φ nx4 n x0 x1 x2 x3 x4 h → bs_J l K_R_makeGathers R Φ 28 [(0, .ref x0), (1, .int x1), (2, .int x2), (3, .int x3), (4, .int x4)] [] h := by
  intro n
  induction n with
  | zero => intro x0 x1 x2 x3 x4 h hw; exact hw.elim
  | succ n ih =>
    have hnx28 := ih
    intro x0 x1 x2 x3 x4 h hw
    replace hw : w_R_makeGathers_28_s Φ nx4 (w_R_makeGathers_28 Φ nx4 n) x0 x1 x2 x3 x4 h := hw
    unfold w_R_makeGathers_28_s at hw
    refine bj_iload (pc := 28) 4 d_R_makeGathers_28 rfl ?_
    refine bj_iload_n (pc := 30) 1 d_R_makeGathers_30 rfl rfl ?_
    refine bj_icmp_ge (pc := 31) (tgt := 51) d_R_makeGathers_31 (by decide) (fun hc => ?_) (fun hc => ?_)
    · replace hw := hw.1 hc
      exact m_R_makeGathers_51 hR hnx4 hw
    · replace hw := hw.2 hc
      refine bj_aload_n (pc := 34) 0 d_R_makeGathers_34 rfl rfl ?_
      obtain ⟨fs, v1, hx, hv, hw⟩ := hw
      refine bj_get (pc := 35) (ci := 7) (k := 21) (fs := fs) (v := .ref v1) d_R_makeGathers_35 rfl (by decide) q_769 hx hv ?_
      refine bj_iload (pc := 38) 4 d_R_makeGathers_38 rfl ?_
      obtain ⟨n, f, v2, hx, hin, hv, hw⟩ := hw
      refine bj_iald (pc := 40) (n := n) (f := f) d_R_makeGathers_40 hx hin hv ?_
      refine bj_iload_n (pc := 41) 3 d_R_makeGathers_41 rfl rfl ?_
      refine bj_icmp_lt (pc := 42) (tgt := 51) d_R_makeGathers_42 (by decide) (fun hc => ?_) (fun hc => ?_)
      · replace hw := hw.1 hc
        exact m_R_makeGathers_51 hR hnx4 hw
      · replace hw := hw.2 hc
        refine bj_iinc (pc := 45) (v := (x4 + 1)) (lo' := [(4, .int (x4 + 1)), (0, .ref x0), (1, .int x1), (2, .int x2), (3, .int x3)]) 4 d_R_makeGathers_45 rfl rfl (by decide) rfl ?_
        refine bj_goto (pc := 48) (tgt := 28) d_R_makeGathers_48 (by decide) ?_
        refine bj_sub [1, 2, 3, 4, 0] (lo' := [(0, .ref x0), (1, .int x1), (2, .int x2), (3, .int x3), (4, .int (x4 + 1))]) rfl ?_
        exact hnx28 _ _ _ _ _ _ hw
theorem m_R_makeGathers_4 {l : Launch} {R : Room} {Φ : bs_R → bs_H → Prop} (hR : bs_rm 3 R) : ∀ (n : Nat) (x0 : Nat) (x1 : Int32) (x2 : Int32) (h : bs_H), w_R_makeGathers_4 Φ n x0 x1 x2 h → bs_J l K_R_makeGathers R Φ 4 [(0, .ref x0), (1, .int x1), (2, .int x2)] [] h := by
  intro n
  induction n with
  | zero => intro x0 x1 x2 h hw; exact hw.elim
  | succ n ih =>
    have hnx4 := ih
    intro x0 x1 x2 h hw
    replace hw : w_R_makeGathers_4_s Φ (w_R_makeGathers_4 Φ n) x0 x1 x2 h := hw
    unfold w_R_makeGathers_4_s at hw
    refine bj_iload_n (pc := 4) 2 d_R_makeGathers_4 rfl rfl ?_
    refine bj_aload_n (pc := 5) 0 d_R_makeGathers_5 rfl rfl ?_
    obtain ⟨fs, v1, hx, hv, hw⟩ := hw
    refine bj_get (pc := 6) (ci := 7) (k := 1) (fs := fs) (v := .int v1) d_R_makeGathers_6 rfl (by decide) q_749 hx hv ?_
    refine bj_icmp_ge (pc := 9) (tgt := 126) d_R_makeGathers_9 (by decide) (fun hc => ?_) (fun hc => ?_)
    · replace hw := hw.1 hc
      refine bj_iconst (pc := 126) (v := 0) d_R_makeGathers_126 (by decide) ?_
      refine bj_istore_n (pc := 127) (lo' := [(2, .int 0), (0, .ref x0), (1, .int x1)]) d_R_makeGathers_127 rfl (by decide) rfl ?_
      refine bj_sub [1, 2, 0] (lo' := [(0, .ref x0), (1, .int x1), (2, .int 0)]) rfl ?_
      exact m_R_makeGathers_128 hR 1000 _ _ _ _ hw
    · replace hw := hw.2 hc
      refine bj_aload_n (pc := 12) 0 d_R_makeGathers_12 rfl rfl ?_
      obtain ⟨fs, v2, hx, hv, hw⟩ := hw
      refine bj_get (pc := 13) (ci := 7) (k := 2) (fs := fs) (v := .ref v2) d_R_makeGathers_13 rfl (by decide) q_750 hx hv ?_
      refine bj_iload_n (pc := 16) 2 d_R_makeGathers_16 rfl rfl ?_
      obtain ⟨n, f, v3, hx, hin, hv, hw⟩ := hw
      refine bj_iald (pc := 17) (n := n) (f := f) d_R_makeGathers_17 hx hin hv ?_
      refine bj_istore_n (pc := 18) (lo' := [(3, .int v3), (0, .ref x0), (1, .int x1), (2, .int x2)]) d_R_makeGathers_18 rfl (by decide) rfl ?_
      refine bj_iload_n (pc := 19) 0 d_R_makeGathers_19 rfl rfl ?_
      refine bj_bipush (pc := 20) (v := 64) d_R_makeGathers_20 (by decide) ?_
      refine bj_icmp_ge (pc := 22) (tgt := 120) d_R_makeGathers_22 (by decide) (fun hc => ?_) (fun hc => ?_)
      · replace hw := hw.1 hc
        refine bj_sub [1, 2, 3] (lo' := [(0, .ref x0), (1, .int x1), (2, .int x2)]) rfl ?_
        exact m_R_makeGathers_120 hR hnx4 hw
      · replace hw := hw.2 hc
        refine bj_iconst (pc := 25) (v := 0) d_R_makeGathers_25 (by decide) ?_
        refine bj_istore (pc := 26) (lo' := [(4, .int 0), (3, .int v3), (0, .ref x0), (1, .int x1), (2, .int x2)]) d_R_makeGathers_26 (by decide) rfl ?_
        refine bj_sub [2, 3, 4, 1, 0] (lo' := [(0, .ref x0), (1, .int x1), (2, .int x2), (3, .int v3), (4, .int 0)]) rfl ?_
        exact m_R_makeGathers_28 hR hnx4 1000 _ _ _ _ _ _ hw
theorem m_R_makeGathers {l : Launch} {R : Room} (hR : bs_rm 3 R) {Φ : bs_R → bs_H → Prop} {x0 : Nat} {h : bs_H} (hw : w_R_makeGathers Φ x0 h) : bs_J l K_R_makeGathers R Φ 0 [(0, .ref x0)] [] h := by
  unfold w_R_makeGathers at hw
  refine bj_iconst (pc := 0) (v := 0) d_R_makeGathers_0 (by decide) ?_
  refine bj_istore_n (pc := 1) (lo' := [(1, .int 0), (0, .ref x0)]) d_R_makeGathers_1 rfl (by decide) rfl ?_
  refine bj_iconst (pc := 2) (v := 0) d_R_makeGathers_2 (by decide) ?_
  refine bj_istore_n (pc := 3) (lo' := [(2, .int 0), (1, .int 0), (0, .ref x0)]) d_R_makeGathers_3 rfl (by decide) rfl ?_
  refine bj_sub [2, 1, 0] (lo' := [(0, .ref x0), (1, .int 0), (2, .int 0)]) rfl ?_
  exact m_R_makeGathers_4 hR 1000 _ _ _ _ hw
theorem d_R_make_0 : decode prog_9_method_17_code 0 = .ok (.aload_n 0, 1) := by decide +kernel
theorem d_R_make_1 : decode prog_9_method_17_code 1 = .ok (.getfield 89, 3) := by decide +kernel
theorem d_R_make_4 : decode prog_9_method_17_code 4 = .ok (.aload_n 0, 1) := by decide +kernel
theorem d_R_make_5 : decode prog_9_method_17_code 5 = .ok (.getfield 89, 3) := by decide +kernel
theorem d_R_make_8 : decode prog_9_method_17_code 8 = .ok (.iconst 1, 1) := by decide +kernel
theorem d_R_make_9 : decode prog_9_method_17_code 9 = .ok (.isub, 1) := by decide +kernel
theorem d_R_make_10 : decode prog_9_method_17_code 10 = .ok (.iand, 1) := by decide +kernel
theorem d_R_make_11 : decode prog_9_method_17_code 11 = .ok (.ifCond .ne 7, 3) := by decide +kernel
theorem d_R_make_14 : decode prog_9_method_17_code 14 = .ok (.iconst 1, 1) := by decide +kernel
theorem d_R_make_15 : decode prog_9_method_17_code 15 = .ok (.goto 4, 3) := by decide +kernel
theorem d_R_make_18 : decode prog_9_method_17_code 18 = .ok (.iconst 0, 1) := by decide +kernel
theorem d_R_make_19 : decode prog_9_method_17_code 19 = .ok (.istore_n 2, 1) := by decide +kernel
theorem d_R_make_20 : decode prog_9_method_17_code 20 = .ok (.aload_n 0, 1) := by decide +kernel
theorem d_R_make_21 : decode prog_9_method_17_code 21 = .ok (.iload_n 1, 1) := by decide +kernel
theorem d_R_make_22 : decode prog_9_method_17_code 22 = .ok (.ifCond .lt 8, 3) := by decide +kernel
theorem d_R_make_25 : decode prog_9_method_17_code 25 = .ok (.iload_n 1, 1) := by decide +kernel
theorem d_R_make_26 : decode prog_9_method_17_code 26 = .ok (.iconst 3, 1) := by decide +kernel
theorem d_R_make_27 : decode prog_9_method_17_code 27 = .ok (.if_icmp .le 7, 3) := by decide +kernel
theorem d_R_make_30 : decode prog_9_method_17_code 30 = .ok (.iconst 1, 1) := by decide +kernel
theorem d_R_make_31 : decode prog_9_method_17_code 31 = .ok (.goto 24, 3) := by decide +kernel
theorem d_R_make_34 : decode prog_9_method_17_code 34 = .ok (.iload_n 1, 1) := by decide +kernel
theorem d_R_make_35 : decode prog_9_method_17_code 35 = .ok (.iconst 2, 1) := by decide +kernel
theorem d_R_make_36 : decode prog_9_method_17_code 36 = .ok (.if_icmp .ne 18, 3) := by decide +kernel
theorem d_R_make_39 : decode prog_9_method_17_code 39 = .ok (.iload_n 2, 1) := by decide +kernel
theorem d_R_make_40 : decode prog_9_method_17_code 40 = .ok (.ifCond .eq 10, 3) := by decide +kernel
theorem d_R_make_43 : decode prog_9_method_17_code 43 = .ok (.aload_n 0, 1) := by decide +kernel
theorem d_R_make_44 : decode prog_9_method_17_code 44 = .ok (.invokevirtual 118, 3) := by decide +kernel
theorem d_R_make_47 : decode prog_9_method_17_code 47 = .ok (.ifCond .ne 7, 3) := by decide +kernel
theorem d_R_make_50 : decode prog_9_method_17_code 50 = .ok (.iconst 2, 1) := by decide +kernel
theorem d_R_make_51 : decode prog_9_method_17_code 51 = .ok (.goto 4, 3) := by decide +kernel
theorem d_R_make_54 : decode prog_9_method_17_code 54 = .ok (.iconst 0, 1) := by decide +kernel
theorem d_R_make_55 : decode prog_9_method_17_code 55 = .ok (.putfield 85, 3) := by decide +kernel
theorem d_R_make_58 : decode prog_9_method_17_code 58 = .ok (.aload_n 0, 1) := by decide +kernel
theorem d_R_make_59 : decode prog_9_method_17_code 59 = .ok (.getfield 85, 3) := by decide +kernel
theorem d_R_make_62 : decode prog_9_method_17_code 62 = .ok (.ifCond .eq 5, 3) := by decide +kernel
theorem d_R_make_65 : decode prog_9_method_17_code 65 = .ok (.iconst 0, 1) := by decide +kernel
theorem d_R_make_66 : decode prog_9_method_17_code 66 = .ok (.ireturn, 1) := by decide +kernel
theorem d_R_make_67 : decode prog_9_method_17_code 67 = .ok (.aload_n 0, 1) := by decide +kernel
theorem d_R_make_68 : decode prog_9_method_17_code 68 = .ok (.iconst 0, 1) := by decide +kernel
theorem d_R_make_69 : decode prog_9_method_17_code 69 = .ok (.putfield 92, 3) := by decide +kernel
theorem d_R_make_72 : decode prog_9_method_17_code 72 = .ok (.iload_n 1, 1) := by decide +kernel
theorem d_R_make_73 : decode prog_9_method_17_code 73 = .ok (.iconst 2, 1) := by decide +kernel
theorem d_R_make_74 : decode prog_9_method_17_code 74 = .ok (.if_icmp .ge 20, 3) := by decide +kernel
theorem d_R_make_77 : decode prog_9_method_17_code 77 = .ok (.aload_n 0, 1) := by decide +kernel
theorem d_R_make_78 : decode prog_9_method_17_code 78 = .ok (.iload_n 1, 1) := by decide +kernel
theorem d_R_make_79 : decode prog_9_method_17_code 79 = .ok (.iconst 1, 1) := by decide +kernel
theorem d_R_make_80 : decode prog_9_method_17_code 80 = .ok (.if_icmp .ne 7, 3) := by decide +kernel
theorem d_R_make_83 : decode prog_9_method_17_code 83 = .ok (.iconst 1, 1) := by decide +kernel
theorem d_R_make_84 : decode prog_9_method_17_code 84 = .ok (.goto 4, 3) := by decide +kernel
theorem d_R_make_87 : decode prog_9_method_17_code 87 = .ok (.iconst 0, 1) := by decide +kernel
theorem d_R_make_88 : decode prog_9_method_17_code 88 = .ok (.invokevirtual 122, 3) := by decide +kernel
theorem d_R_make_91 : decode prog_9_method_17_code 91 = .ok (.goto 19, 3) := by decide +kernel
theorem d_R_make_94 : decode prog_9_method_17_code 94 = .ok (.iload_n 1, 1) := by decide +kernel
theorem d_R_make_95 : decode prog_9_method_17_code 95 = .ok (.iconst 2, 1) := by decide +kernel
theorem d_R_make_96 : decode prog_9_method_17_code 96 = .ok (.if_icmp .ne 10, 3) := by decide +kernel
theorem d_R_make_99 : decode prog_9_method_17_code 99 = .ok (.aload_n 0, 1) := by decide +kernel
theorem d_R_make_100 : decode prog_9_method_17_code 100 = .ok (.invokevirtual 126, 3) := by decide +kernel
theorem d_R_make_103 : decode prog_9_method_17_code 103 = .ok (.goto 7, 3) := by decide +kernel
theorem d_R_make_106 : decode prog_9_method_17_code 106 = .ok (.aload_n 0, 1) := by decide +kernel
theorem d_R_make_107 : decode prog_9_method_17_code 107 = .ok (.invokevirtual 129, 3) := by decide +kernel
theorem d_R_make_110 : decode prog_9_method_17_code 110 = .ok (.aload_n 0, 1) := by decide +kernel
theorem d_R_make_111 : decode prog_9_method_17_code 111 = .ok (.getfield 92, 3) := by decide +kernel
theorem d_R_make_114 : decode prog_9_method_17_code 114 = .ok (.ireturn, 1) := by decide +kernel
def w_R_make_110 (Φ : bs_R → bs_H → Prop) (x0 : Nat) (h : bs_H) : Prop :=
  bs_fI h x0 7 3 (fun v1 => Φ (.ok (some (.int v1))) h)
def w_R_make_88 (Φ : bs_R → bs_H → Prop) (x0 : Nat) (s0 : Nat) (s1 : Int32) (h : bs_H) : Prop :=
  bs_on h s0 7 (w_R_makeMoves (bs_kV Φ fun h1 => (w_R_make_110 Φ x0 h1)) s0 s1 h)
def w_R_make_55 (Φ : bs_R → bs_H → Prop) (x0 : Nat) (x1 : Int32) (s0 : Nat) (s1 : Int32) (h : bs_H) : Prop :=
  bs_p h s0 7 0 (.int s1) (fun h1 => bs_fI h1 x0 7 0 (fun v2 => bs_if (v2 = 0) (bs_p h1 x0 7 3 (.int 0) (fun h3 => bs_if ((2 : Int32) ≤ x1) (bs_if (x1 = 2) (bs_on h3 x0 7 (w_R_makeSwaps (bs_kV Φ fun h5 => (w_R_make_110 Φ x0 h5)) x0 h3)) (bs_on h3 x0 7 (w_R_makeGathers (bs_kV Φ fun h4 => (w_R_make_110 Φ x0 h4)) x0 h3))) (bs_if (x1 = 1) (w_R_make_88 Φ x0 x0 1 h3) (w_R_make_88 Φ x0 x0 0 h3)))) (Φ (.ok (some (.int 0))) h1)))
def w_R_make_54 (Φ : bs_R → bs_H → Prop) (x0 : Nat) (x1 : Int32) (s0 : Nat) (h : bs_H) : Prop :=
  w_R_make_55 Φ x0 x1 s0 0 h
def w_R_make_50 (Φ : bs_R → bs_H → Prop) (x0 : Nat) (x1 : Int32) (s0 : Nat) (h : bs_H) : Prop :=
  w_R_make_55 Φ x0 x1 s0 2 h
def w_R_make_30 (Φ : bs_R → bs_H → Prop) (x0 : Nat) (x1 : Int32) (s0 : Nat) (h : bs_H) : Prop :=
  w_R_make_55 Φ x0 x1 s0 1 h
def w_R_make_19 (Φ : bs_R → bs_H → Prop) (x0 : Nat) (x1 : Int32) (s0 : Int32) (h : bs_H) : Prop :=
  bs_if (x1 < 0) (w_R_make_30 Φ x0 x1 x0 h) (bs_if (x1 ≤ 3) (bs_if (x1 = 2) (bs_if (s0 = 0) (w_R_make_50 Φ x0 x1 x0 h) (bs_on h x0 7 (w_R_isPermutation (bs_kI Φ fun v1 h2 => (bs_if (v1 = 0) (w_R_make_50 Φ x0 x1 x0 h2) (w_R_make_54 Φ x0 x1 x0 h2))) x0 h))) (w_R_make_54 Φ x0 x1 x0 h)) (w_R_make_30 Φ x0 x1 x0 h))
def w_R_make (Φ : bs_R → bs_H → Prop) (x0 : Nat) (x1 : Int32) (h : bs_H) : Prop :=
  bs_fI h x0 7 1 (fun v1 => bs_fI h x0 7 1 (fun v2 => bs_if ((v1 &&& (v2 - 1)) = 0) (w_R_make_19 Φ x0 x1 1 h) (w_R_make_19 Φ x0 x1 0 h)))
theorem m_R_make_110 {l : Launch} {R : Room} {Φ : bs_R → bs_H → Prop} (hR : bs_rm 5 R) {x0 : Nat} {h : bs_H} (hw : w_R_make_110 Φ x0 h) : bs_J l K_R_make R Φ 110 [(0, .ref x0)] [] h := by
  unfold w_R_make_110 at hw
  refine bj_aload_n (pc := 110) 0 d_R_make_110 rfl rfl ?_
  obtain ⟨fs, v1, hx, hv, hw⟩ := hw
  refine bj_get (pc := 111) (ci := 7) (k := 3) (fs := fs) (v := .int v1) d_R_make_111 rfl (by decide) q_751 hx hv ?_
  exact bj_iret (pc := 114) d_R_make_114 rfl hw
theorem m_R_make_88 {l : Launch} {R : Room} {Φ : bs_R → bs_H → Prop} (hR : bs_rm 5 R) {x0 : Nat} {s0 : Nat} {s1 : Int32} {h : bs_H} (hw : w_R_make_88 Φ x0 s0 s1 h) : bs_J l K_R_make R Φ 88 [(0, .ref x0)] [.int s1, .ref s0] h := by
  unfold w_R_make_88 at hw
  obtain ⟨⟨fs, hx⟩, hw⟩ := hw
  refine bj_callV (pc := 88) (np := 1) (K' := K_R_makeMoves) (argsL := [.int s1]) (st := []) (d1 := 3) (ci := 7) (fs := fs) rfl d_R_make_88 (Or.inl q_859) q_861 rfl q_26 c_R_makeMoves n_R_makeMoves hR (by decide) (by decide) rfl (Nat.le_of_ble_eq_true rfl) rfl (Nat.le_of_ble_eq_true rfl) hx (fun R' hR' => m_R_makeMoves hR' hw) (bs_kV_ok fun h1 hw => ?_) (fun _ _ z => z)
  refine bj_goto (pc := 91) (tgt := 110) d_R_make_91 (by decide) ?_
  exact m_R_make_110 hR hw
theorem m_R_make_55 {l : Launch} {R : Room} {Φ : bs_R → bs_H → Prop} (hR : bs_rm 5 R) {x0 : Nat} {x1 : Int32} {s0 : Nat} {s1 : Int32} {h : bs_H} (hw : w_R_make_55 Φ x0 x1 s0 s1 h) : bs_J l K_R_make R Φ 55 [(0, .ref x0), (1, .int x1)] [.int s1, .ref s0] h := by
  unfold w_R_make_55 at hw
  obtain ⟨fs, hx, hlen, hw⟩ := hw
  refine bj_put (pc := 55) (ci := 7) (k := 0) (fs := fs) (v := (.int s1)) (ty := .int) d_R_make_55 rfl (by decide) q_748 rfl (by decide +kernel) rfl rfl hx hlen ?_
  refine bj_aload_n (pc := 58) 0 d_R_make_58 rfl rfl ?_
  obtain ⟨fs, v2, hx, hv, hw⟩ := hw
  refine bj_get (pc := 59) (ci := 7) (k := 0) (fs := fs) (v := .int v2) d_R_make_59 rfl (by decide) q_748 hx hv ?_
  refine bj_if_eq (pc := 62) (tgt := 67) d_R_make_62 (by decide) (fun hc => ?_) (fun hc => ?_)
  · replace hw := hw.1 hc
    refine bj_aload_n (pc := 67) 0 d_R_make_67 rfl rfl ?_
    refine bj_iconst (pc := 68) (v := 0) d_R_make_68 (by decide) ?_
    obtain ⟨fs, hx, hlen, hw⟩ := hw
    refine bj_put (pc := 69) (ci := 7) (k := 3) (fs := fs) (v := (.int 0)) (ty := .int) d_R_make_69 rfl (by decide) q_751 rfl (by decide +kernel) rfl rfl hx hlen ?_
    refine bj_iload_n (pc := 72) 1 d_R_make_72 rfl rfl ?_
    refine bj_iconst (pc := 73) (v := 2) d_R_make_73 (by decide) ?_
    refine bj_icmp_ge (pc := 74) (tgt := 94) d_R_make_74 (by decide) (fun hc => ?_) (fun hc => ?_)
    · replace hw := hw.1 hc
      refine bj_iload_n (pc := 94) 1 d_R_make_94 rfl rfl ?_
      refine bj_iconst (pc := 95) (v := 2) d_R_make_95 (by decide) ?_
      refine bj_icmp_ne (pc := 96) (tgt := 106) d_R_make_96 (by decide) (fun hc => ?_) (fun hc => ?_)
      · replace hw := hw.2 hc
        refine bj_aload_n (pc := 106) 0 d_R_make_106 rfl rfl ?_
        obtain ⟨⟨fs, hx⟩, hw⟩ := hw
        refine bj_callV (pc := 107) (np := 0) (K' := K_R_makeGathers) (argsL := []) (st := []) (d1 := 3) (ci := 7) (fs := fs) rfl d_R_make_107 (Or.inl q_887) q_889 rfl q_33 c_R_makeGathers n_R_makeGathers hR (by decide) (by decide) rfl (Nat.le_of_ble_eq_true rfl) rfl (Nat.le_of_ble_eq_true rfl) hx (fun R' hR' => m_R_makeGathers hR' hw) (bs_kV_ok fun h4 hw => ?_) (fun _ _ z => z)
        refine bj_sub [0] (lo' := [(0, .ref x0)]) rfl ?_
        exact m_R_make_110 hR hw
      · replace hw := hw.1 hc
        refine bj_aload_n (pc := 99) 0 d_R_make_99 rfl rfl ?_
        obtain ⟨⟨fs, hx⟩, hw⟩ := hw
        refine bj_callV (pc := 100) (np := 0) (K' := K_R_makeSwaps) (argsL := []) (st := []) (d1 := 4) (ci := 7) (fs := fs) rfl d_R_make_100 (Or.inl q_871) q_873 rfl q_29 c_R_makeSwaps n_R_makeSwaps hR (by decide) (by decide) rfl (Nat.le_of_ble_eq_true rfl) rfl (Nat.le_of_ble_eq_true rfl) hx (fun R' hR' => m_R_makeSwaps hR' hw) (bs_kV_ok fun h5 hw => ?_) (fun _ _ z => z)
        refine bj_goto (pc := 103) (tgt := 110) d_R_make_103 (by decide) ?_
        refine bj_sub [0] (lo' := [(0, .ref x0)]) rfl ?_
        exact m_R_make_110 hR hw
    · replace hw := hw.2 hc
      refine bj_aload_n (pc := 77) 0 d_R_make_77 rfl rfl ?_
      refine bj_iload_n (pc := 78) 1 d_R_make_78 rfl rfl ?_
      refine bj_iconst (pc := 79) (v := 1) d_R_make_79 (by decide) ?_
      refine bj_icmp_ne (pc := 80) (tgt := 87) d_R_make_80 (by decide) (fun hc => ?_) (fun hc => ?_)
      · replace hw := hw.2 hc
        refine bj_iconst (pc := 87) (v := 0) d_R_make_87 (by decide) ?_
        refine bj_sub [0] (lo' := [(0, .ref x0)]) rfl ?_
        exact m_R_make_88 hR hw
      · replace hw := hw.1 hc
        refine bj_iconst (pc := 83) (v := 1) d_R_make_83 (by decide) ?_
        refine bj_goto (pc := 84) (tgt := 88) d_R_make_84 (by decide) ?_
        refine bj_sub [0] (lo' := [(0, .ref x0)]) rfl ?_
        exact m_R_make_88 hR hw
  · replace hw := hw.2 hc
    refine bj_iconst (pc := 65) (v := 0) d_R_make_65 (by decide) ?_
    exact bj_iret (pc := 66) d_R_make_66 rfl hw
theorem m_R_make_54 {l : Launch} {R : Room} {Φ : bs_R → bs_H → Prop} (hR : bs_rm 5 R) {x0 : Nat} {x1 : Int32} {s0 : Nat} {h : bs_H} (hw : w_R_make_54 Φ x0 x1 s0 h) : bs_J l K_R_make R Φ 54 [(0, .ref x0), (1, .int x1)] [.ref s0] h := by
  unfold w_R_make_54 at hw
  refine bj_iconst (pc := 54) (v := 0) d_R_make_54 (by decide) ?_
  exact m_R_make_55 hR hw
theorem m_R_make_50 {l : Launch} {R : Room} {Φ : bs_R → bs_H → Prop} (hR : bs_rm 5 R) {x0 : Nat} {x1 : Int32} {s0 : Nat} {h : bs_H} (hw : w_R_make_50 Φ x0 x1 s0 h) : bs_J l K_R_make R Φ 50 [(0, .ref x0), (1, .int x1)] [.ref s0] h := by
  unfold w_R_make_50 at hw
  refine bj_iconst (pc := 50) (v := 2) d_R_make_50 (by decide) ?_
  refine bj_goto (pc := 51) (tgt := 55) d_R_make_51 (by decide) ?_
  exact m_R_make_55 hR hw
theorem m_R_make_30 {l : Launch} {R : Room} {Φ : bs_R → bs_H → Prop} (hR : bs_rm 5 R) {x0 : Nat} {x1 : Int32} {s0 : Nat} {h : bs_H} (hw : w_R_make_30 Φ x0 x1 s0 h) : bs_J l K_R_make R Φ 30 [(0, .ref x0), (1, .int x1)] [.ref s0] h := by
  unfold w_R_make_30 at hw
  refine bj_iconst (pc := 30) (v := 1) d_R_make_30 (by decide) ?_
  refine bj_goto (pc := 31) (tgt := 55) d_R_make_31 (by decide) ?_
  exact m_R_make_55 hR hw
theorem m_R_make_19 {l : Launch} {R : Room} {Φ : bs_R → bs_H → Prop} (hR : bs_rm 5 R) {x0 : Nat} {x1 : Int32} {s0 : Int32} {h : bs_H} (hw : w_R_make_19 Φ x0 x1 s0 h) : bs_J l K_R_make R Φ 19 [(0, .ref x0), (1, .int x1)] [.int s0] h := by
  unfold w_R_make_19 at hw
  refine bj_istore_n (pc := 19) (lo' := [(2, .int s0), (0, .ref x0), (1, .int x1)]) d_R_make_19 rfl (by decide) rfl ?_
  refine bj_aload_n (pc := 20) 1 d_R_make_20 rfl rfl ?_
  refine bj_iload_n (pc := 21) 2 d_R_make_21 rfl rfl ?_
  refine bj_if_lt (pc := 22) (tgt := 30) d_R_make_22 (by decide) (fun hc => ?_) (fun hc => ?_)
  · replace hw := hw.1 hc
    refine bj_sub [1, 2] (lo' := [(0, .ref x0), (1, .int x1)]) rfl ?_
    exact m_R_make_30 hR hw
  · replace hw := hw.2 hc
    refine bj_iload_n (pc := 25) 2 d_R_make_25 rfl rfl ?_
    refine bj_iconst (pc := 26) (v := 3) d_R_make_26 (by decide) ?_
    refine bj_icmp_le (pc := 27) (tgt := 34) d_R_make_27 (by decide) (fun hc => ?_) (fun hc => ?_)
    · replace hw := hw.1 hc
      refine bj_iload_n (pc := 34) 2 d_R_make_34 rfl rfl ?_
      refine bj_iconst (pc := 35) (v := 2) d_R_make_35 (by decide) ?_
      refine bj_icmp_ne (pc := 36) (tgt := 54) d_R_make_36 (by decide) (fun hc => ?_) (fun hc => ?_)
      · replace hw := hw.2 hc
        refine bj_sub [1, 2] (lo' := [(0, .ref x0), (1, .int x1)]) rfl ?_
        exact m_R_make_54 hR hw
      · replace hw := hw.1 hc
        refine bj_iload_n (pc := 39) 0 d_R_make_39 rfl rfl ?_
        refine bj_if_eq (pc := 40) (tgt := 50) d_R_make_40 (by decide) (fun hc => ?_) (fun hc => ?_)
        · replace hw := hw.1 hc
          refine bj_sub [1, 2] (lo' := [(0, .ref x0), (1, .int x1)]) rfl ?_
          exact m_R_make_50 hR hw
        · replace hw := hw.2 hc
          refine bj_aload_n (pc := 43) 1 d_R_make_43 rfl rfl ?_
          obtain ⟨⟨fs, hx⟩, hw⟩ := hw
          refine bj_callV (pc := 44) (np := 0) (K' := K_R_isPermutation) (argsL := []) (st := [.ref x0]) (d1 := 1) (ci := 7) (fs := fs) rfl d_R_make_44 (Or.inl q_855) q_857 rfl q_25 c_R_isPermutation n_R_isPermutation hR (by decide) (by decide) rfl (Nat.le_of_ble_eq_true rfl) rfl (Nat.le_of_ble_eq_true rfl) hx (fun R' hR' => m_R_isPermutation hR' hw) (bs_kI_ok fun v1 h2 hw => ?_) (fun _ _ z => z)
          refine bj_if_ne (pc := 47) (tgt := 54) d_R_make_47 (by decide) (fun hc => ?_) (fun hc => ?_)
          · replace hw := hw.2 hc
            refine bj_sub [1, 2] (lo' := [(0, .ref x0), (1, .int x1)]) rfl ?_
            exact m_R_make_54 hR hw
          · replace hw := hw.1 hc
            refine bj_sub [1, 2] (lo' := [(0, .ref x0), (1, .int x1)]) rfl ?_
            exact m_R_make_50 hR hw
    · replace hw := hw.2 hc
      refine bj_sub [1, 2] (lo' := [(0, .ref x0), (1, .int x1)]) rfl ?_
      exact m_R_make_30 hR hw
theorem m_R_make {l : Launch} {R : Room} (hR : bs_rm 5 R) {Φ : bs_R → bs_H → Prop} {x0 : Nat} {x1 : Int32} {h : bs_H} (hw : w_R_make Φ x0 x1 h) : bs_J l K_R_make R Φ 0 [(0, .ref x0), (1, .int x1)] [] h := by
  unfold w_R_make at hw
  refine bj_aload_n (pc := 0) 0 d_R_make_0 rfl rfl ?_
  obtain ⟨fs, v1, hx, hv, hw⟩ := hw
  refine bj_get (pc := 1) (ci := 7) (k := 1) (fs := fs) (v := .int v1) d_R_make_1 rfl (by decide) q_749 hx hv ?_
  refine bj_aload_n (pc := 4) 0 d_R_make_4 rfl rfl ?_
  obtain ⟨fs, v2, hx, hv, hw⟩ := hw
  refine bj_get (pc := 5) (ci := 7) (k := 1) (fs := fs) (v := .int v2) d_R_make_5 rfl (by decide) q_749 hx hv ?_
  refine bj_iconst (pc := 8) (v := 1) d_R_make_8 (by decide) ?_
  refine bj_isub (pc := 9) d_R_make_9 ?_
  refine bj_iand (pc := 10) d_R_make_10 ?_
  refine bj_if_ne (pc := 11) (tgt := 18) d_R_make_11 (by decide) (fun hc => ?_) (fun hc => ?_)
  · replace hw := hw.2 hc
    refine bj_iconst (pc := 18) (v := 0) d_R_make_18 (by decide) ?_
    exact m_R_make_19 hR hw
  · replace hw := hw.1 hc
    refine bj_iconst (pc := 14) (v := 1) d_R_make_14 (by decide) ?_
    refine bj_goto (pc := 15) (tgt := 19) d_R_make_15 (by decide) ?_
    exact m_R_make_19 hR hw
theorem d_B_size_0 : decode prog_1_method_6_code 0 = .ok (.aload_n 0, 1) := by decide +kernel
theorem d_B_size_1 : decode prog_1_method_6_code 1 = .ok (.getfield 30, 3) := by decide +kernel
theorem d_B_size_4 : decode prog_1_method_6_code 4 = .ok (.invokevirtual 112, 3) := by decide +kernel
theorem d_B_size_7 : decode prog_1_method_6_code 7 = .ok (.ireturn, 1) := by decide +kernel
def w_B_size (Φ : bs_R → bs_H → Prop) (x0 : Nat) (h : bs_H) : Prop :=
  bs_fA h x0 0 4 (fun v1 => bs_on h v1 2 (w_P_length (bs_kI Φ fun v2 h3 => (Φ (.ok (some (.int v2))) h3)) v1 h))
theorem m_B_size {l : Launch} {R : Room} (hR : bs_rm 2 R) {Φ : bs_R → bs_H → Prop} {x0 : Nat} {h : bs_H} (hw : w_B_size Φ x0 h) : bs_J l K_B_size R Φ 0 [(0, .ref x0)] [] h := by
  unfold w_B_size at hw
  refine bj_aload_n (pc := 0) 0 d_B_size_0 rfl rfl ?_
  obtain ⟨fs, v1, hx, hv, hw⟩ := hw
  refine bj_get (pc := 1) (ci := 0) (k := 4) (fs := fs) (v := .ref v1) d_B_size_1 rfl (by decide) q_200 hx hv ?_
  obtain ⟨⟨fs, hx⟩, hw⟩ := hw
  refine bj_callV (pc := 4) (np := 0) (K' := K_P_length) (argsL := []) (st := []) (d1 := 1) (ci := 2) (fs := fs) rfl d_B_size_4 (Or.inl q_228) q_229 rfl q_230 c_P_length n_P_length hR (by decide) (by decide) rfl (Nat.le_of_ble_eq_true rfl) rfl (Nat.le_of_ble_eq_true rfl) hx (fun R' hR' => m_P_length hR' hw) (bs_kI_ok fun v2 h3 hw => ?_) (fun _ _ z => z)
  exact bj_iret (pc := 7) d_B_size_7 rfl hw
theorem d_R_size_0 : decode prog_9_method_18_code 0 = .ok (.aload_n 0, 1) := by decide +kernel
theorem d_R_size_1 : decode prog_9_method_18_code 1 = .ok (.iconst 0, 1) := by decide +kernel
theorem d_R_size_2 : decode prog_9_method_18_code 2 = .ok (.putfield 85, 3) := by decide +kernel
theorem d_R_size_5 : decode prog_9_method_18_code 5 = .ok (.aload_n 0, 1) := by decide +kernel
theorem d_R_size_6 : decode prog_9_method_18_code 6 = .ok (.getfield 92, 3) := by decide +kernel
theorem d_R_size_9 : decode prog_9_method_18_code 9 = .ok (.ireturn, 1) := by decide +kernel
def w_R_size (Φ : bs_R → bs_H → Prop) (x0 : Nat) (h : bs_H) : Prop :=
  bs_p h x0 7 0 (.int 0) (fun h1 => bs_fI h1 x0 7 3 (fun v2 => Φ (.ok (some (.int v2))) h1))
theorem m_R_size {l : Launch} {R : Room} (hR : bs_rm 1 R) {Φ : bs_R → bs_H → Prop} {x0 : Nat} {h : bs_H} (hw : w_R_size Φ x0 h) : bs_J l K_R_size R Φ 0 [(0, .ref x0)] [] h := by
  unfold w_R_size at hw
  refine bj_aload_n (pc := 0) 0 d_R_size_0 rfl rfl ?_
  refine bj_iconst (pc := 1) (v := 0) d_R_size_1 (by decide) ?_
  obtain ⟨fs, hx, hlen, hw⟩ := hw
  refine bj_put (pc := 2) (ci := 7) (k := 0) (fs := fs) (v := (.int 0)) (ty := .int) d_R_size_2 rfl (by decide) q_748 rfl (by decide +kernel) rfl rfl hx hlen ?_
  refine bj_aload_n (pc := 5) 0 d_R_size_5 rfl rfl ?_
  obtain ⟨fs, v2, hx, hv, hw⟩ := hw
  refine bj_get (pc := 6) (ci := 7) (k := 3) (fs := fs) (v := .int v2) d_R_size_6 rfl (by decide) q_751 hx hv ?_
  exact bj_iret (pc := 9) d_R_size_9 rfl hw
theorem d_B_requireStep_0 : decode prog_1_method_21_code 0 = .ok (.iload_n 1, 1) := by decide +kernel
theorem d_B_requireStep_1 : decode prog_1_method_21_code 1 = .ok (.ifCond .lt 14, 3) := by decide +kernel
theorem d_B_requireStep_4 : decode prog_1_method_21_code 4 = .ok (.iload_n 1, 1) := by decide +kernel
theorem d_B_requireStep_5 : decode prog_1_method_21_code 5 = .ok (.aload_n 0, 1) := by decide +kernel
theorem d_B_requireStep_6 : decode prog_1_method_21_code 6 = .ok (.getfield 30, 3) := by decide +kernel
theorem d_B_requireStep_9 : decode prog_1_method_21_code 9 = .ok (.invokevirtual 112, 3) := by decide +kernel
theorem d_B_requireStep_12 : decode prog_1_method_21_code 12 = .ok (.if_icmp .lt 11, 3) := by decide +kernel
theorem d_B_requireStep_15 : decode prog_1_method_21_code 15 = .ok (.new 181, 3) := by decide +kernel
theorem d_B_requireStep_18 : decode prog_1_method_21_code 18 = .ok (.dup, 1) := by decide +kernel
theorem d_B_requireStep_19 : decode prog_1_method_21_code 19 = .ok (.invokespecial 183, 3) := by decide +kernel
theorem d_B_requireStep_22 : decode prog_1_method_21_code 22 = .ok (.athrow, 1) := by decide +kernel
theorem d_B_requireStep_23 : decode prog_1_method_21_code 23 = .ok (.return_, 1) := by decide +kernel
def w_B_requireStep_15 (Φ : bs_R → bs_H → Prop) (h : bs_H) : Prop :=
  bs_th h Φ "java/lang/IndexOutOfBoundsException"
def w_B_requireStep (Φ : bs_R → bs_H → Prop) (x0 : Nat) (x1 : Int32) (h : bs_H) : Prop :=
  bs_if (x1 < 0) (w_B_requireStep_15 Φ h) (bs_fA h x0 0 4 (fun v1 => bs_on h v1 2 (w_P_length (bs_kI Φ fun v2 h3 => (bs_if (x1 < v2) (Φ (.ok none) h3) (w_B_requireStep_15 Φ h3))) v1 h)))
theorem m_B_requireStep_15 {l : Launch} {R : Room} {Φ : bs_R → bs_H → Prop} (hR : bs_rm 2 R) {h : bs_H} (hw : w_B_requireStep_15 Φ h) : bs_J l K_B_requireStep R Φ 15 [] [] h := by
  unfold w_B_requireStep_15 at hw
  obtain ⟨h1, h2, hw⟩ := hw
  exact bj_throw (pc := 15) (names := bs_up2) d_B_requireStep_15 d_B_requireStep_18 d_B_requireStep_19 d_B_requireStep_22 q_604 q_605 q_60 a_B_183 (by decide +kernel) (by decide +kernel) (by decide) rfl hR (Nat.le_of_ble_eq_true rfl) h1 h2 hw
theorem m_B_requireStep {l : Launch} {R : Room} (hR : bs_rm 2 R) {Φ : bs_R → bs_H → Prop} {x0 : Nat} {x1 : Int32} {h : bs_H} (hw : w_B_requireStep Φ x0 x1 h) : bs_J l K_B_requireStep R Φ 0 [(0, .ref x0), (1, .int x1)] [] h := by
  unfold w_B_requireStep at hw
  refine bj_iload_n (pc := 0) 1 d_B_requireStep_0 rfl rfl ?_
  refine bj_if_lt (pc := 1) (tgt := 15) d_B_requireStep_1 (by decide) (fun hc => ?_) (fun hc => ?_)
  · replace hw := hw.1 hc
    refine bj_sub [] (lo' := []) rfl ?_
    exact m_B_requireStep_15 hR hw
  · replace hw := hw.2 hc
    refine bj_iload_n (pc := 4) 1 d_B_requireStep_4 rfl rfl ?_
    refine bj_aload_n (pc := 5) 0 d_B_requireStep_5 rfl rfl ?_
    obtain ⟨fs, v1, hx, hv, hw⟩ := hw
    refine bj_get (pc := 6) (ci := 0) (k := 4) (fs := fs) (v := .ref v1) d_B_requireStep_6 rfl (by decide) q_200 hx hv ?_
    obtain ⟨⟨fs, hx⟩, hw⟩ := hw
    refine bj_callV (pc := 9) (np := 0) (K' := K_P_length) (argsL := []) (st := [.int x1]) (d1 := 1) (ci := 2) (fs := fs) rfl d_B_requireStep_9 (Or.inl q_228) q_229 rfl q_230 c_P_length n_P_length hR (by decide) (by decide) rfl (Nat.le_of_ble_eq_true rfl) rfl (Nat.le_of_ble_eq_true rfl) hx (fun R' hR' => m_P_length hR' hw) (bs_kI_ok fun v2 h3 hw => ?_) (fun _ _ z => z)
    refine bj_icmp_lt (pc := 12) (tgt := 23) d_B_requireStep_12 (by decide) (fun hc => ?_) (fun hc => ?_)
    · replace hw := hw.1 hc
      exact bj_vret (pc := 23) d_B_requireStep_23 rfl hw
    · replace hw := hw.2 hc
      refine bj_sub [] (lo' := []) rfl ?_
      exact m_B_requireStep_15 hR hw
theorem d_P_amountAt_0 : decode prog_4_method_4_code 0 = .ok (.aload_n 0, 1) := by decide +kernel
theorem d_P_amountAt_1 : decode prog_4_method_4_code 1 = .ok (.getfield 15, 3) := by decide +kernel
theorem d_P_amountAt_4 : decode prog_4_method_4_code 4 = .ok (.iload_n 1, 1) := by decide +kernel
theorem d_P_amountAt_5 : decode prog_4_method_4_code 5 = .ok (.iaload, 1) := by decide +kernel
theorem d_P_amountAt_6 : decode prog_4_method_4_code 6 = .ok (.ireturn, 1) := by decide +kernel
def w_P_amountAt (Φ : bs_R → bs_H → Prop) (x0 : Nat) (x1 : Int32) (h : bs_H) : Prop :=
  bs_fA h x0 2 1 (fun v1 => bs_lI h v1 x1 (fun v2 => Φ (.ok (some (.int v2))) h))
theorem m_P_amountAt {l : Launch} {R : Room} (hR : bs_rm 1 R) {Φ : bs_R → bs_H → Prop} {x0 : Nat} {x1 : Int32} {h : bs_H} (hw : w_P_amountAt Φ x0 x1 h) : bs_J l K_P_amountAt R Φ 0 [(0, .ref x0), (1, .int x1)] [] h := by
  unfold w_P_amountAt at hw
  refine bj_aload_n (pc := 0) 0 d_P_amountAt_0 rfl rfl ?_
  obtain ⟨fs, v1, hx, hv, hw⟩ := hw
  refine bj_get (pc := 1) (ci := 2) (k := 1) (fs := fs) (v := .ref v1) d_P_amountAt_1 rfl (by decide) q_94 hx hv ?_
  refine bj_iload_n (pc := 4) 1 d_P_amountAt_4 rfl rfl ?_
  obtain ⟨n, f, v2, hx, hin, hv, hw⟩ := hw
  refine bj_iald (pc := 5) (n := n) (f := f) d_P_amountAt_5 hx hin hv ?_
  exact bj_iret (pc := 6) d_P_amountAt_6 rfl hw
theorem d_P_opAt_0 : decode prog_4_method_3_code 0 = .ok (.aload_n 0, 1) := by decide +kernel
theorem d_P_opAt_1 : decode prog_4_method_3_code 1 = .ok (.getfield 9, 3) := by decide +kernel
theorem d_P_opAt_4 : decode prog_4_method_3_code 4 = .ok (.iload_n 1, 1) := by decide +kernel
theorem d_P_opAt_5 : decode prog_4_method_3_code 5 = .ok (.iaload, 1) := by decide +kernel
theorem d_P_opAt_6 : decode prog_4_method_3_code 6 = .ok (.ireturn, 1) := by decide +kernel
def w_P_opAt (Φ : bs_R → bs_H → Prop) (x0 : Nat) (x1 : Int32) (h : bs_H) : Prop :=
  bs_fA h x0 2 0 (fun v1 => bs_lI h v1 x1 (fun v2 => Φ (.ok (some (.int v2))) h))
theorem m_P_opAt {l : Launch} {R : Room} (hR : bs_rm 1 R) {Φ : bs_R → bs_H → Prop} {x0 : Nat} {x1 : Int32} {h : bs_H} (hw : w_P_opAt Φ x0 x1 h) : bs_J l K_P_opAt R Φ 0 [(0, .ref x0), (1, .int x1)] [] h := by
  unfold w_P_opAt at hw
  refine bj_aload_n (pc := 0) 0 d_P_opAt_0 rfl rfl ?_
  obtain ⟨fs, v1, hx, hv, hw⟩ := hw
  refine bj_get (pc := 1) (ci := 2) (k := 0) (fs := fs) (v := .ref v1) d_P_opAt_1 rfl (by decide) q_93 hx hv ?_
  refine bj_iload_n (pc := 4) 1 d_P_opAt_4 rfl rfl ?_
  obtain ⟨n, f, v2, hx, hin, hv, hw⟩ := hw
  refine bj_iald (pc := 5) (n := n) (f := f) d_P_opAt_5 hx hin hv ?_
  exact bj_iret (pc := 6) d_P_opAt_6 rfl hw
theorem d_B_step_0 : decode prog_1_method_7_code 0 = .ok (.aload_n 0, 1) := by decide +kernel
theorem d_B_step_1 : decode prog_1_method_7_code 1 = .ok (.iload_n 1, 1) := by decide +kernel
theorem d_B_step_2 : decode prog_1_method_7_code 2 = .ok (.invokevirtual 115, 3) := by decide +kernel
theorem d_B_step_5 : decode prog_1_method_7_code 5 = .ok (.iload_n 2, 1) := by decide +kernel
theorem d_B_step_6 : decode prog_1_method_7_code 6 = .ok (.ifCond .eq 14, 3) := by decide +kernel
theorem d_B_step_9 : decode prog_1_method_7_code 9 = .ok (.aload_n 0, 1) := by decide +kernel
theorem d_B_step_10 : decode prog_1_method_7_code 10 = .ok (.getfield 30, 3) := by decide +kernel
theorem d_B_step_13 : decode prog_1_method_7_code 13 = .ok (.iload_n 1, 1) := by decide +kernel
theorem d_B_step_14 : decode prog_1_method_7_code 14 = .ok (.invokevirtual 118, 3) := by decide +kernel
theorem d_B_step_17 : decode prog_1_method_7_code 17 = .ok (.goto 11, 3) := by decide +kernel
theorem d_B_step_20 : decode prog_1_method_7_code 20 = .ok (.aload_n 0, 1) := by decide +kernel
theorem d_B_step_21 : decode prog_1_method_7_code 21 = .ok (.getfield 30, 3) := by decide +kernel
theorem d_B_step_24 : decode prog_1_method_7_code 24 = .ok (.iload_n 1, 1) := by decide +kernel
theorem d_B_step_25 : decode prog_1_method_7_code 25 = .ok (.invokevirtual 121, 3) := by decide +kernel
theorem d_B_step_28 : decode prog_1_method_7_code 28 = .ok (.ireturn, 1) := by decide +kernel
def w_B_step_28 (Φ : bs_R → bs_H → Prop) (s0 : Int32) (h : bs_H) : Prop :=
  Φ (.ok (some (.int s0))) h
def w_B_step (Φ : bs_R → bs_H → Prop) (x0 : Nat) (x1 : Int32) (x2 : Int32) (h : bs_H) : Prop :=
  bs_on h x0 0 (w_B_requireStep (bs_kV Φ fun h1 => (bs_if (x2 = 0) (bs_fA h1 x0 0 4 (fun v2 => bs_on h1 v2 2 (w_P_opAt (bs_kI Φ fun v3 h4 => (w_B_step_28 Φ v3 h4)) v2 x1 h1))) (bs_fA h1 x0 0 4 (fun v5 => bs_on h1 v5 2 (w_P_amountAt (bs_kI Φ fun v6 h7 => (w_B_step_28 Φ v6 h7)) v5 x1 h1))))) x0 x1 h)
theorem m_B_step_28 {l : Launch} {R : Room} {Φ : bs_R → bs_H → Prop} (hR : bs_rm 3 R) {s0 : Int32} {h : bs_H} (hw : w_B_step_28 Φ s0 h) : bs_J l K_B_step R Φ 28 [] [.int s0] h := by
  unfold w_B_step_28 at hw
  exact bj_iret (pc := 28) d_B_step_28 rfl hw
theorem m_B_step {l : Launch} {R : Room} (hR : bs_rm 3 R) {Φ : bs_R → bs_H → Prop} {x0 : Nat} {x1 : Int32} {x2 : Int32} {h : bs_H} (hw : w_B_step Φ x0 x1 x2 h) : bs_J l K_B_step R Φ 0 [(0, .ref x0), (1, .int x1), (2, .int x2)] [] h := by
  unfold w_B_step at hw
  refine bj_aload_n (pc := 0) 0 d_B_step_0 rfl rfl ?_
  refine bj_iload_n (pc := 1) 1 d_B_step_1 rfl rfl ?_
  obtain ⟨⟨fs, hx⟩, hw⟩ := hw
  refine bj_callV (pc := 2) (np := 1) (K' := K_B_requireStep) (argsL := [.int x1]) (st := []) (d1 := 2) (ci := 0) (fs := fs) rfl d_B_step_2 (Or.inl q_600) q_602 rfl q_21 c_B_requireStep n_B_requireStep hR (by decide) (by decide) rfl (Nat.le_of_ble_eq_true rfl) rfl (Nat.le_of_ble_eq_true rfl) hx (fun R' hR' => m_B_requireStep hR' hw) (bs_kV_ok fun h1 hw => ?_) (fun _ _ z => z)
  refine bj_iload_n (pc := 5) 2 d_B_step_5 rfl rfl ?_
  refine bj_if_eq (pc := 6) (tgt := 20) d_B_step_6 (by decide) (fun hc => ?_) (fun hc => ?_)
  · replace hw := hw.1 hc
    refine bj_aload_n (pc := 20) 0 d_B_step_20 rfl rfl ?_
    obtain ⟨fs, v2, hx, hv, hw⟩ := hw
    refine bj_get (pc := 21) (ci := 0) (k := 4) (fs := fs) (v := .ref v2) d_B_step_21 rfl (by decide) q_200 hx hv ?_
    refine bj_iload_n (pc := 24) 1 d_B_step_24 rfl rfl ?_
    obtain ⟨⟨fs, hx⟩, hw⟩ := hw
    refine bj_callV (pc := 25) (np := 1) (K' := K_P_opAt) (argsL := [.int x1]) (st := []) (d1 := 1) (ci := 2) (fs := fs) rfl d_B_step_25 (Or.inl q_620) q_250 rfl q_251 c_P_opAt n_P_opAt hR (by decide) (by decide) rfl (Nat.le_of_ble_eq_true rfl) rfl (Nat.le_of_ble_eq_true rfl) hx (fun R' hR' => m_P_opAt hR' hw) (bs_kI_ok fun v3 h4 hw => ?_) (fun _ _ z => z)
    refine bj_sub [] (lo' := []) rfl ?_
    exact m_B_step_28 hR hw
  · replace hw := hw.2 hc
    refine bj_aload_n (pc := 9) 0 d_B_step_9 rfl rfl ?_
    obtain ⟨fs, v5, hx, hv, hw⟩ := hw
    refine bj_get (pc := 10) (ci := 0) (k := 4) (fs := fs) (v := .ref v5) d_B_step_10 rfl (by decide) q_200 hx hv ?_
    refine bj_iload_n (pc := 13) 1 d_B_step_13 rfl rfl ?_
    obtain ⟨⟨fs, hx⟩, hw⟩ := hw
    refine bj_callV (pc := 14) (np := 1) (K' := K_P_amountAt) (argsL := [.int x1]) (st := []) (d1 := 1) (ci := 2) (fs := fs) rfl d_B_step_14 (Or.inl q_619) q_254 rfl q_255 c_P_amountAt n_P_amountAt hR (by decide) (by decide) rfl (Nat.le_of_ble_eq_true rfl) rfl (Nat.le_of_ble_eq_true rfl) hx (fun R' hR' => m_P_amountAt hR' hw) (bs_kI_ok fun v6 h7 hw => ?_) (fun _ _ z => z)
    refine bj_goto (pc := 17) (tgt := 28) d_B_step_17 (by decide) ?_
    refine bj_sub [] (lo' := []) rfl ?_
    exact m_B_step_28 hR hw
theorem d_L_step_0 : decode method_7_code 0 = .ok (.aload_n 3, 1) := by decide +kernel
theorem d_L_step_1 : decode method_7_code 1 = .ok (.iconst 0, 1) := by decide +kernel
theorem d_L_step_2 : decode method_7_code 2 = .ok (.aload_n 0, 1) := by decide +kernel
theorem d_L_step_3 : decode method_7_code 3 = .ok (.iload_n 1, 1) := by decide +kernel
theorem d_L_step_4 : decode method_7_code 4 = .ok (.iload_n 2, 1) := by decide +kernel
theorem d_L_step_5 : decode method_7_code 5 = .ok (.invokevirtual 28, 3) := by decide +kernel
theorem d_L_step_8 : decode method_7_code 8 = .ok (.i2l, 1) := by decide +kernel
theorem d_L_step_9 : decode method_7_code 9 = .ok (.lastore, 1) := by decide +kernel
theorem d_L_step_10 : decode method_7_code 10 = .ok (.goto 7, 3) := by decide +kernel
theorem d_L_step_13 : decode method_7_code 13 = .ok (.astore 4, 2) := by decide +kernel
theorem d_L_step_15 : decode method_7_code 15 = .ok (.iconst 1, 1) := by decide +kernel
theorem d_L_step_16 : decode method_7_code 16 = .ok (.ireturn, 1) := by decide +kernel
theorem d_L_step_17 : decode method_7_code 17 = .ok (.iconst 0, 1) := by decide +kernel
theorem d_L_step_18 : decode method_7_code 18 = .ok (.ireturn, 1) := by decide +kernel
def w_L_step_13 (Φ : bs_R → bs_H → Prop) (s0 : Nat) (h : bs_H) : Prop :=
  Φ (.ok (some (.int 1))) h
def w_L_step (Φ : bs_R → bs_H → Prop) (x0 : Nat) (x1 : Int32) (x2 : Int32) (x3 : Nat) (h : bs_H) : Prop :=
  bs_on h x0 0 (w_B_step (bs_kI (bs_hd fun E3 h4 => (E3 = "java/lang/IndexOutOfBoundsException" ∧ ∀ a, w_L_step_13 Φ a h4)) fun v1 h2 => (bs_sL h2 x3 0 v1.toInt64 (fun h5 => Φ (.ok (some (.int 0))) h5))) x0 x1 x2 h)
theorem m_L_step_13 {l : Launch} {R : Room} {Φ : bs_R → bs_H → Prop} (hR : bs_rm 4 R) {s0 : Nat} {h : bs_H} (hw : w_L_step_13 Φ s0 h) : bs_J l K_L_step R Φ 13 [] [.ref s0] h := by
  unfold w_L_step_13 at hw
  refine bj_astore (pc := 13) (lo' := [(4, .ref s0)]) d_L_step_13 (by decide) rfl ?_
  refine bj_iconst (pc := 15) (v := 1) d_L_step_15 (by decide) ?_
  exact bj_iret (pc := 16) d_L_step_16 rfl hw
theorem m_L_step {l : Launch} {R : Room} (hR : bs_rm 4 R) {Φ : bs_R → bs_H → Prop} {x0 : Nat} {x1 : Int32} {x2 : Int32} {x3 : Nat} {h : bs_H} (hw : w_L_step Φ x0 x1 x2 x3 h) : bs_J l K_L_step R Φ 0 [(0, .ref x0), (1, .int x1), (2, .int x2), (3, .ref x3)] [] h := by
  unfold w_L_step at hw
  refine bj_aload_n (pc := 0) 3 d_L_step_0 rfl rfl ?_
  refine bj_iconst (pc := 1) (v := 0) d_L_step_1 (by decide) ?_
  refine bj_aload_n (pc := 2) 0 d_L_step_2 rfl rfl ?_
  refine bj_iload_n (pc := 3) 1 d_L_step_3 rfl rfl ?_
  refine bj_iload_n (pc := 4) 2 d_L_step_4 rfl rfl ?_
  obtain ⟨⟨fs, hx⟩, hw⟩ := hw
  refine bj_callVC (pc := 5) (np := 2) (K' := K_B_step) (argsL := [.int x1, .int x2]) (st := [.int 0, .ref x3]) (d1 := 3) (ci := 0) (fs := fs) rfl d_L_step_5 (Or.inl q_596) q_597 rfl q_598 c_B_step n_B_step hR (by decide) (by decide) (Nat.le_of_ble_eq_true rfl) rfl (Nat.le_of_ble_eq_true rfl) hx (fun R' hR' => m_B_step hR' hw) (bs_kI_ok fun v1 h2 hw => ?_) ?_
  · refine bj_i2l (pc := 8) d_L_step_8 ?_
    obtain ⟨n, f, hx, hin, hw⟩ := hw
    refine bj_last (pc := 9) (n := n) (f := f) d_L_step_9 hx hin ?_
    refine bj_goto (pc := 10) (tgt := 17) d_L_step_10 (by decide) ?_
    refine bj_iconst (pc := 17) (v := 0) d_L_step_17 (by decide) ?_
    exact bj_iret (pc := 18) d_L_step_18 rfl hw
  · intro E3 h4 hw
    obtain ⟨rfl, hw⟩ := hw
    refine ⟨13, bs_hand1 rfl (by decide) (by decide) q_595 q_606, fun a => ?_⟩
    replace hw := hw a
    refine bj_sub [] (lo' := []) rfl ?_
    exact m_L_step_13 hR hw
theorem d_R_noStep_0 : decode prog_9_method_19_code 0 = .ok (.iload_n 1, 1) := by decide +kernel
theorem d_R_noStep_1 : decode prog_9_method_19_code 1 = .ok (.ifCond .lt 11, 3) := by decide +kernel
theorem d_R_noStep_4 : decode prog_9_method_19_code 4 = .ok (.iload_n 1, 1) := by decide +kernel
theorem d_R_noStep_5 : decode prog_9_method_19_code 5 = .ok (.aload_n 0, 1) := by decide +kernel
theorem d_R_noStep_6 : decode prog_9_method_19_code 6 = .ok (.getfield 92, 3) := by decide +kernel
theorem d_R_noStep_9 : decode prog_9_method_19_code 9 = .ok (.if_icmp .lt 7, 3) := by decide +kernel
theorem d_R_noStep_12 : decode prog_9_method_19_code 12 = .ok (.iconst 1, 1) := by decide +kernel
theorem d_R_noStep_13 : decode prog_9_method_19_code 13 = .ok (.goto 4, 3) := by decide +kernel
theorem d_R_noStep_16 : decode prog_9_method_19_code 16 = .ok (.iconst 0, 1) := by decide +kernel
theorem d_R_noStep_17 : decode prog_9_method_19_code 17 = .ok (.ireturn, 1) := by decide +kernel
def w_R_noStep_17 (Φ : bs_R → bs_H → Prop) (s0 : Int32) (h : bs_H) : Prop :=
  bs_rZ Φ s0 h
def w_R_noStep_12 (Φ : bs_R → bs_H → Prop) (h : bs_H) : Prop :=
  w_R_noStep_17 Φ 1 h
def w_R_noStep (Φ : bs_R → bs_H → Prop) (x0 : Nat) (x1 : Int32) (h : bs_H) : Prop :=
  bs_if (x1 < 0) (w_R_noStep_12 Φ h) (bs_fI h x0 7 3 (fun v1 => bs_if (x1 < v1) (w_R_noStep_17 Φ 0 h) (w_R_noStep_12 Φ h)))
theorem m_R_noStep_17 {l : Launch} {R : Room} {Φ : bs_R → bs_H → Prop} (hR : bs_rm 1 R) {s0 : Int32} {h : bs_H} (hw : w_R_noStep_17 Φ s0 h) : bs_J l K_R_noStep R Φ 17 [] [.int s0] h := by
  unfold w_R_noStep_17 at hw
  exact bj_zret (pc := 17) d_R_noStep_17 rfl hw.1 hw.2
theorem m_R_noStep_12 {l : Launch} {R : Room} {Φ : bs_R → bs_H → Prop} (hR : bs_rm 1 R) {h : bs_H} (hw : w_R_noStep_12 Φ h) : bs_J l K_R_noStep R Φ 12 [] [] h := by
  unfold w_R_noStep_12 at hw
  refine bj_iconst (pc := 12) (v := 1) d_R_noStep_12 (by decide) ?_
  refine bj_goto (pc := 13) (tgt := 17) d_R_noStep_13 (by decide) ?_
  exact m_R_noStep_17 hR hw
theorem m_R_noStep {l : Launch} {R : Room} (hR : bs_rm 1 R) {Φ : bs_R → bs_H → Prop} {x0 : Nat} {x1 : Int32} {h : bs_H} (hw : w_R_noStep Φ x0 x1 h) : bs_J l K_R_noStep R Φ 0 [(0, .ref x0), (1, .int x1)] [] h := by
  unfold w_R_noStep at hw
  refine bj_iload_n (pc := 0) 1 d_R_noStep_0 rfl rfl ?_
  refine bj_if_lt (pc := 1) (tgt := 12) d_R_noStep_1 (by decide) (fun hc => ?_) (fun hc => ?_)
  · replace hw := hw.1 hc
    refine bj_sub [] (lo' := []) rfl ?_
    exact m_R_noStep_12 hR hw
  · replace hw := hw.2 hc
    refine bj_iload_n (pc := 4) 1 d_R_noStep_4 rfl rfl ?_
    refine bj_aload_n (pc := 5) 0 d_R_noStep_5 rfl rfl ?_
    obtain ⟨fs, v1, hx, hv, hw⟩ := hw
    refine bj_get (pc := 6) (ci := 7) (k := 3) (fs := fs) (v := .int v1) d_R_noStep_6 rfl (by decide) q_751 hx hv ?_
    refine bj_icmp_lt (pc := 9) (tgt := 16) d_R_noStep_9 (by decide) (fun hc => ?_) (fun hc => ?_)
    · replace hw := hw.1 hc
      refine bj_iconst (pc := 16) (v := 0) d_R_noStep_16 (by decide) ?_
      refine bj_sub [] (lo' := []) rfl ?_
      exact m_R_noStep_17 hR hw
    · replace hw := hw.2 hc
      refine bj_sub [] (lo' := []) rfl ?_
      exact m_R_noStep_12 hR hw
theorem d_R_step_0 : decode prog_9_method_20_code 0 = .ok (.aload_n 0, 1) := by decide +kernel
theorem d_R_step_1 : decode prog_9_method_20_code 1 = .ok (.aload_n 0, 1) := by decide +kernel
theorem d_R_step_2 : decode prog_9_method_20_code 2 = .ok (.iload_n 1, 1) := by decide +kernel
theorem d_R_step_3 : decode prog_9_method_20_code 3 = .ok (.invokevirtual 132, 3) := by decide +kernel
theorem d_R_step_6 : decode prog_9_method_20_code 6 = .ok (.ifCond .eq 7, 3) := by decide +kernel
theorem d_R_step_9 : decode prog_9_method_20_code 9 = .ok (.iconst 1, 1) := by decide +kernel
theorem d_R_step_10 : decode prog_9_method_20_code 10 = .ok (.goto 4, 3) := by decide +kernel
theorem d_R_step_13 : decode prog_9_method_20_code 13 = .ok (.iconst 0, 1) := by decide +kernel
theorem d_R_step_14 : decode prog_9_method_20_code 14 = .ok (.putfield 85, 3) := by decide +kernel
theorem d_R_step_17 : decode prog_9_method_20_code 17 = .ok (.aload_n 0, 1) := by decide +kernel
theorem d_R_step_18 : decode prog_9_method_20_code 18 = .ok (.getfield 85, 3) := by decide +kernel
theorem d_R_step_21 : decode prog_9_method_20_code 21 = .ok (.ifCond .eq 7, 3) := by decide +kernel
theorem d_R_step_24 : decode prog_9_method_20_code 24 = .ok (.iconst 0, 1) := by decide +kernel
theorem d_R_step_25 : decode prog_9_method_20_code 25 = .ok (.goto 22, 3) := by decide +kernel
theorem d_R_step_28 : decode prog_9_method_20_code 28 = .ok (.iload_n 2, 1) := by decide +kernel
theorem d_R_step_29 : decode prog_9_method_20_code 29 = .ok (.ifCond .eq 12, 3) := by decide +kernel
theorem d_R_step_32 : decode prog_9_method_20_code 32 = .ok (.aload_n 0, 1) := by decide +kernel
theorem d_R_step_33 : decode prog_9_method_20_code 33 = .ok (.getfield 16, 3) := by decide +kernel
theorem d_R_step_36 : decode prog_9_method_20_code 36 = .ok (.iload_n 1, 1) := by decide +kernel
theorem d_R_step_37 : decode prog_9_method_20_code 37 = .ok (.iaload, 1) := by decide +kernel
theorem d_R_step_38 : decode prog_9_method_20_code 38 = .ok (.goto 9, 3) := by decide +kernel
theorem d_R_step_41 : decode prog_9_method_20_code 41 = .ok (.aload_n 0, 1) := by decide +kernel
theorem d_R_step_42 : decode prog_9_method_20_code 42 = .ok (.getfield 13, 3) := by decide +kernel
theorem d_R_step_45 : decode prog_9_method_20_code 45 = .ok (.iload_n 1, 1) := by decide +kernel
theorem d_R_step_46 : decode prog_9_method_20_code 46 = .ok (.iaload, 1) := by decide +kernel
theorem d_R_step_47 : decode prog_9_method_20_code 47 = .ok (.ireturn, 1) := by decide +kernel
def w_R_step_47 (Φ : bs_R → bs_H → Prop) (s0 : Int32) (h : bs_H) : Prop :=
  Φ (.ok (some (.int s0))) h
def w_R_step_14 (Φ : bs_R → bs_H → Prop) (x0 : Nat) (x1 : Int32) (x2 : Int32) (s0 : Nat) (s1 : Int32) (h : bs_H) : Prop :=
  bs_p h s0 7 0 (.int s1) (fun h1 => bs_fI h1 x0 7 0 (fun v2 => bs_if (v2 = 0) (bs_if (x2 = 0) (bs_fA h1 x0 7 4 (fun v3 => bs_lI h1 v3 x1 (fun v4 => w_R_step_47 Φ v4 h1))) (bs_fA h1 x0 7 5 (fun v5 => bs_lI h1 v5 x1 (fun v6 => w_R_step_47 Φ v6 h1)))) (w_R_step_47 Φ 0 h1)))
def w_R_step (Φ : bs_R → bs_H → Prop) (x0 : Nat) (x1 : Int32) (x2 : Int32) (h : bs_H) : Prop :=
  bs_on h x0 7 (w_R_noStep (bs_kI Φ fun v1 h2 => (bs_if (v1 = 0) (w_R_step_14 Φ x0 x1 x2 x0 0 h2) (w_R_step_14 Φ x0 x1 x2 x0 1 h2))) x0 x1 h)
theorem m_R_step_47 {l : Launch} {R : Room} {Φ : bs_R → bs_H → Prop} (hR : bs_rm 2 R) {s0 : Int32} {h : bs_H} (hw : w_R_step_47 Φ s0 h) : bs_J l K_R_step R Φ 47 [] [.int s0] h := by
  unfold w_R_step_47 at hw
  exact bj_iret (pc := 47) d_R_step_47 rfl hw
theorem m_R_step_14 {l : Launch} {R : Room} {Φ : bs_R → bs_H → Prop} (hR : bs_rm 2 R) {x0 : Nat} {x1 : Int32} {x2 : Int32} {s0 : Nat} {s1 : Int32} {h : bs_H} (hw : w_R_step_14 Φ x0 x1 x2 s0 s1 h) : bs_J l K_R_step R Φ 14 [(0, .ref x0), (1, .int x1), (2, .int x2)] [.int s1, .ref s0] h := by
  unfold w_R_step_14 at hw
  obtain ⟨fs, hx, hlen, hw⟩ := hw
  refine bj_put (pc := 14) (ci := 7) (k := 0) (fs := fs) (v := (.int s1)) (ty := .int) d_R_step_14 rfl (by decide) q_748 rfl (by decide +kernel) rfl rfl hx hlen ?_
  refine bj_aload_n (pc := 17) 0 d_R_step_17 rfl rfl ?_
  obtain ⟨fs, v2, hx, hv, hw⟩ := hw
  refine bj_get (pc := 18) (ci := 7) (k := 0) (fs := fs) (v := .int v2) d_R_step_18 rfl (by decide) q_748 hx hv ?_
  refine bj_if_eq (pc := 21) (tgt := 28) d_R_step_21 (by decide) (fun hc => ?_) (fun hc => ?_)
  · replace hw := hw.1 hc
    refine bj_iload_n (pc := 28) 2 d_R_step_28 rfl rfl ?_
    refine bj_if_eq (pc := 29) (tgt := 41) d_R_step_29 (by decide) (fun hc => ?_) (fun hc => ?_)
    · replace hw := hw.1 hc
      refine bj_aload_n (pc := 41) 0 d_R_step_41 rfl rfl ?_
      obtain ⟨fs, v3, hx, hv, hw⟩ := hw
      refine bj_get (pc := 42) (ci := 7) (k := 4) (fs := fs) (v := .ref v3) d_R_step_42 rfl (by decide) q_752 hx hv ?_
      refine bj_iload_n (pc := 45) 1 d_R_step_45 rfl rfl ?_
      obtain ⟨n, f, v4, hx, hin, hv, hw⟩ := hw
      refine bj_iald (pc := 46) (n := n) (f := f) d_R_step_46 hx hin hv ?_
      refine bj_sub [] (lo' := []) rfl ?_
      exact m_R_step_47 hR hw
    · replace hw := hw.2 hc
      refine bj_aload_n (pc := 32) 0 d_R_step_32 rfl rfl ?_
      obtain ⟨fs, v5, hx, hv, hw⟩ := hw
      refine bj_get (pc := 33) (ci := 7) (k := 5) (fs := fs) (v := .ref v5) d_R_step_33 rfl (by decide) q_753 hx hv ?_
      refine bj_iload_n (pc := 36) 1 d_R_step_36 rfl rfl ?_
      obtain ⟨n, f, v6, hx, hin, hv, hw⟩ := hw
      refine bj_iald (pc := 37) (n := n) (f := f) d_R_step_37 hx hin hv ?_
      refine bj_goto (pc := 38) (tgt := 47) d_R_step_38 (by decide) ?_
      refine bj_sub [] (lo' := []) rfl ?_
      exact m_R_step_47 hR hw
  · replace hw := hw.2 hc
    refine bj_iconst (pc := 24) (v := 0) d_R_step_24 (by decide) ?_
    refine bj_goto (pc := 25) (tgt := 47) d_R_step_25 (by decide) ?_
    refine bj_sub [] (lo' := []) rfl ?_
    exact m_R_step_47 hR hw
theorem m_R_step {l : Launch} {R : Room} (hR : bs_rm 2 R) {Φ : bs_R → bs_H → Prop} {x0 : Nat} {x1 : Int32} {x2 : Int32} {h : bs_H} (hw : w_R_step Φ x0 x1 x2 h) : bs_J l K_R_step R Φ 0 [(0, .ref x0), (1, .int x1), (2, .int x2)] [] h := by
  unfold w_R_step at hw
  refine bj_aload_n (pc := 0) 0 d_R_step_0 rfl rfl ?_
  refine bj_aload_n (pc := 1) 0 d_R_step_1 rfl rfl ?_
  refine bj_iload_n (pc := 2) 1 d_R_step_2 rfl rfl ?_
  obtain ⟨⟨fs, hx⟩, hw⟩ := hw
  refine bj_callV (pc := 3) (np := 1) (K' := K_R_noStep) (argsL := [.int x1]) (st := [.ref x0]) (d1 := 1) (ci := 7) (fs := fs) rfl d_R_step_3 (Or.inl q_899) q_901 rfl q_34 c_R_noStep n_R_noStep hR (by decide) (by decide) rfl (Nat.le_of_ble_eq_true rfl) rfl (Nat.le_of_ble_eq_true rfl) hx (fun R' hR' => m_R_noStep hR' hw) (bs_kI_ok fun v1 h2 hw => ?_) (fun _ _ z => z)
  refine bj_if_eq (pc := 6) (tgt := 13) d_R_step_6 (by decide) (fun hc => ?_) (fun hc => ?_)
  · replace hw := hw.1 hc
    refine bj_iconst (pc := 13) (v := 0) d_R_step_13 (by decide) ?_
    exact m_R_step_14 hR hw
  · replace hw := hw.2 hc
    refine bj_iconst (pc := 9) (v := 1) d_R_step_9 (by decide) ?_
    refine bj_goto (pc := 10) (tgt := 14) d_R_step_10 (by decide) ?_
    exact m_R_step_14 hR hw
theorem d_P_maskAt_0 : decode prog_4_method_5_code 0 = .ok (.aload_n 0, 1) := by decide +kernel
theorem d_P_maskAt_1 : decode prog_4_method_5_code 1 = .ok (.getfield 18, 3) := by decide +kernel
theorem d_P_maskAt_4 : decode prog_4_method_5_code 4 = .ok (.iload_n 1, 1) := by decide +kernel
theorem d_P_maskAt_5 : decode prog_4_method_5_code 5 = .ok (.laload, 1) := by decide +kernel
theorem d_P_maskAt_6 : decode prog_4_method_5_code 6 = .ok (.lreturn, 1) := by decide +kernel
def w_P_maskAt (Φ : bs_R → bs_H → Prop) (x0 : Nat) (x1 : Int32) (h : bs_H) : Prop :=
  bs_fA h x0 2 2 (fun v1 => bs_lL h v1 x1 (fun v2 => Φ (.ok (some (.long v2))) h))
theorem m_P_maskAt {l : Launch} {R : Room} (hR : bs_rm 1 R) {Φ : bs_R → bs_H → Prop} {x0 : Nat} {x1 : Int32} {h : bs_H} (hw : w_P_maskAt Φ x0 x1 h) : bs_J l K_P_maskAt R Φ 0 [(0, .ref x0), (1, .int x1)] [] h := by
  unfold w_P_maskAt at hw
  refine bj_aload_n (pc := 0) 0 d_P_maskAt_0 rfl rfl ?_
  obtain ⟨fs, v1, hx, hv, hw⟩ := hw
  refine bj_get (pc := 1) (ci := 2) (k := 2) (fs := fs) (v := .ref v1) d_P_maskAt_1 rfl (by decide) q_95 hx hv ?_
  refine bj_iload_n (pc := 4) 1 d_P_maskAt_4 rfl rfl ?_
  obtain ⟨n, f, v2, hx, hin, hv, hw⟩ := hw
  refine bj_lald (pc := 5) (n := n) (f := f) d_P_maskAt_5 hx hin hv ?_
  exact bj_lret (pc := 6) d_P_maskAt_6 rfl hw
theorem d_B_mask_0 : decode prog_1_method_8_code 0 = .ok (.aload_n 0, 1) := by decide +kernel
theorem d_B_mask_1 : decode prog_1_method_8_code 1 = .ok (.iload_n 1, 1) := by decide +kernel
theorem d_B_mask_2 : decode prog_1_method_8_code 2 = .ok (.invokevirtual 115, 3) := by decide +kernel
theorem d_B_mask_5 : decode prog_1_method_8_code 5 = .ok (.aload_n 0, 1) := by decide +kernel
theorem d_B_mask_6 : decode prog_1_method_8_code 6 = .ok (.getfield 30, 3) := by decide +kernel
theorem d_B_mask_9 : decode prog_1_method_8_code 9 = .ok (.iload_n 1, 1) := by decide +kernel
theorem d_B_mask_10 : decode prog_1_method_8_code 10 = .ok (.invokevirtual 124, 3) := by decide +kernel
theorem d_B_mask_13 : decode prog_1_method_8_code 13 = .ok (.lreturn, 1) := by decide +kernel
def w_B_mask (Φ : bs_R → bs_H → Prop) (x0 : Nat) (x1 : Int32) (h : bs_H) : Prop :=
  bs_on h x0 0 (w_B_requireStep (bs_kV Φ fun h1 => (bs_fA h1 x0 0 4 (fun v2 => bs_on h1 v2 2 (w_P_maskAt (bs_kL Φ fun v3 h4 => (Φ (.ok (some (.long v3))) h4)) v2 x1 h1)))) x0 x1 h)
theorem m_B_mask {l : Launch} {R : Room} (hR : bs_rm 3 R) {Φ : bs_R → bs_H → Prop} {x0 : Nat} {x1 : Int32} {h : bs_H} (hw : w_B_mask Φ x0 x1 h) : bs_J l K_B_mask R Φ 0 [(0, .ref x0), (1, .int x1)] [] h := by
  unfold w_B_mask at hw
  refine bj_aload_n (pc := 0) 0 d_B_mask_0 rfl rfl ?_
  refine bj_iload_n (pc := 1) 1 d_B_mask_1 rfl rfl ?_
  obtain ⟨⟨fs, hx⟩, hw⟩ := hw
  refine bj_callV (pc := 2) (np := 1) (K' := K_B_requireStep) (argsL := [.int x1]) (st := []) (d1 := 2) (ci := 0) (fs := fs) rfl d_B_mask_2 (Or.inl q_600) q_602 rfl q_21 c_B_requireStep n_B_requireStep hR (by decide) (by decide) rfl (Nat.le_of_ble_eq_true rfl) rfl (Nat.le_of_ble_eq_true rfl) hx (fun R' hR' => m_B_requireStep hR' hw) (bs_kV_ok fun h1 hw => ?_) (fun _ _ z => z)
  refine bj_aload_n (pc := 5) 0 d_B_mask_5 rfl rfl ?_
  obtain ⟨fs, v2, hx, hv, hw⟩ := hw
  refine bj_get (pc := 6) (ci := 0) (k := 4) (fs := fs) (v := .ref v2) d_B_mask_6 rfl (by decide) q_200 hx hv ?_
  refine bj_iload_n (pc := 9) 1 d_B_mask_9 rfl rfl ?_
  obtain ⟨⟨fs, hx⟩, hw⟩ := hw
  refine bj_callV (pc := 10) (np := 1) (K' := K_P_maskAt) (argsL := [.int x1]) (st := []) (d1 := 1) (ci := 2) (fs := fs) rfl d_B_mask_10 (Or.inl q_628) q_258 rfl q_259 c_P_maskAt n_P_maskAt hR (by decide) (by decide) rfl (Nat.le_of_ble_eq_true rfl) rfl (Nat.le_of_ble_eq_true rfl) hx (fun R' hR' => m_P_maskAt hR' hw) (bs_kL_ok fun v3 h4 hw => ?_) (fun _ _ z => z)
  exact bj_lret (pc := 13) d_B_mask_13 rfl hw
