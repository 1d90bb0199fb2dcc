theorem d_M_directory_0 : decode b_M_directory 0 = .ok (.aload_n 0, 1) := by decide +kernel
theorem d_M_directory_1 : decode b_M_directory 1 = .ok (.getfield 69, 3) := by decide +kernel
theorem d_M_directory_4 : decode b_M_directory 4 = .ok (.iconst 2, 1) := by decide +kernel
theorem d_M_directory_5 : decode b_M_directory 5 = .ok (.if_icmp .ne 22, 3) := by decide +kernel
theorem d_M_directory_8 : decode b_M_directory 8 = .ok (.aload_n 0, 1) := by decide +kernel
theorem d_M_directory_9 : decode b_M_directory 9 = .ok (.getfield 26, 3) := by decide +kernel
theorem d_M_directory_12 : decode b_M_directory 12 = .ok (.iconst 1, 1) := by decide +kernel
theorem d_M_directory_13 : decode b_M_directory 13 = .ok (.iaload, 1) := by decide +kernel
theorem d_M_directory_14 : decode b_M_directory 14 = .ok (.aload_n 0, 1) := by decide +kernel
theorem d_M_directory_15 : decode b_M_directory 15 = .ok (.getfield 26, 3) := by decide +kernel
theorem d_M_directory_18 : decode b_M_directory 18 = .ok (.iconst 0, 1) := by decide +kernel
theorem d_M_directory_19 : decode b_M_directory 19 = .ok (.iaload, 1) := by decide +kernel
theorem d_M_directory_20 : decode b_M_directory 20 = .ok (.if_icmp .ge 7, 3) := by decide +kernel
theorem d_M_directory_23 : decode b_M_directory 23 = .ok (.iconst 1, 1) := by decide +kernel
theorem d_M_directory_24 : decode b_M_directory 24 = .ok (.goto 4, 3) := by decide +kernel
theorem d_M_directory_27 : decode b_M_directory 27 = .ok (.iconst 0, 1) := by decide +kernel
theorem d_M_directory_28 : decode b_M_directory 28 = .ok (.istore 8, 2) := by decide +kernel
theorem d_M_directory_30 : decode b_M_directory 30 = .ok (.aload_n 0, 1) := by decide +kernel
theorem d_M_directory_31 : decode b_M_directory 31 = .ok (.iconst 2, 1) := by decide +kernel
theorem d_M_directory_32 : decode b_M_directory 32 = .ok (.bipush 8, 2) := by decide +kernel
theorem d_M_directory_34 : decode b_M_directory 34 = .ok (.aload_n 0, 1) := by decide +kernel
theorem d_M_directory_35 : decode b_M_directory 35 = .ok (.getfield 69, 3) := by decide +kernel
theorem d_M_directory_38 : decode b_M_directory 38 = .ok (.iadd, 1) := by decide +kernel
theorem d_M_directory_39 : decode b_M_directory 39 = .ok (.i2l, 1) := by decide +kernel
theorem d_M_directory_40 : decode b_M_directory 40 = .ok (.invokevirtual 161, 3) := by decide +kernel
theorem d_M_directory_43 : decode b_M_directory 43 = .ok (.aload_n 0, 1) := by decide +kernel
theorem d_M_directory_44 : decode b_M_directory 44 = .ok (.sipush 256, 3) := by decide +kernel
theorem d_M_directory_47 : decode b_M_directory 47 = .ok (.aload_n 0, 1) := by decide +kernel
theorem d_M_directory_48 : decode b_M_directory 48 = .ok (.getfield 13, 3) := by decide +kernel
theorem d_M_directory_51 : decode b_M_directory 51 = .ok (.invokevirtual 169, 3) := by decide +kernel
theorem d_M_directory_54 : decode b_M_directory 54 = .ok (.aload_n 0, 1) := by decide +kernel
theorem d_M_directory_55 : decode b_M_directory 55 = .ok (.sipush 257, 3) := by decide +kernel
theorem d_M_directory_58 : decode b_M_directory 58 = .ok (.aload_n 0, 1) := by decide +kernel
theorem d_M_directory_59 : decode b_M_directory 59 = .ok (.getfield 17, 3) := by decide +kernel
theorem d_M_directory_62 : decode b_M_directory 62 = .ok (.invokevirtual 169, 3) := by decide +kernel
theorem d_M_directory_65 : decode b_M_directory 65 = .ok (.aload_n 0, 1) := by decide +kernel
theorem d_M_directory_66 : decode b_M_directory 66 = .ok (.sipush 258, 3) := by decide +kernel
theorem d_M_directory_69 : decode b_M_directory 69 = .ok (.aload_n 0, 1) := by decide +kernel
theorem d_M_directory_70 : decode b_M_directory 70 = .ok (.getfield 20, 3) := by decide +kernel
theorem d_M_directory_73 : decode b_M_directory 73 = .ok (.invokevirtual 169, 3) := by decide +kernel
theorem d_M_directory_76 : decode b_M_directory 76 = .ok (.aload_n 0, 1) := by decide +kernel
theorem d_M_directory_77 : decode b_M_directory 77 = .ok (.sipush 259, 3) := by decide +kernel
theorem d_M_directory_80 : decode b_M_directory 80 = .ok (.iload_n 1, 1) := by decide +kernel
theorem d_M_directory_81 : decode b_M_directory 81 = .ok (.invokevirtual 169, 3) := by decide +kernel
theorem d_M_directory_84 : decode b_M_directory 84 = .ok (.aload_n 0, 1) := by decide +kernel
theorem d_M_directory_85 : decode b_M_directory 85 = .ok (.sipush 273, 3) := by decide +kernel
theorem d_M_directory_88 : decode b_M_directory 88 = .ok (.iconst 4, 1) := by decide +kernel
theorem d_M_directory_89 : decode b_M_directory 89 = .ok (.iload 4, 2) := by decide +kernel
theorem d_M_directory_91 : decode b_M_directory 91 = .ok (.invokevirtual 165, 3) := by decide +kernel
theorem d_M_directory_94 : decode b_M_directory 94 = .ok (.aload_n 0, 1) := by decide +kernel
theorem d_M_directory_95 : decode b_M_directory 95 = .ok (.iconst 4, 1) := by decide +kernel
theorem d_M_directory_96 : decode b_M_directory 96 = .ok (.iload 4, 2) := by decide +kernel
theorem d_M_directory_98 : decode b_M_directory 98 = .ok (.iconst 1, 1) := by decide +kernel
theorem d_M_directory_99 : decode b_M_directory 99 = .ok (.if_icmp .ne 13, 3) := by decide +kernel
theorem d_M_directory_102 : decode b_M_directory 102 = .ok (.aload_n 0, 1) := by decide +kernel
theorem d_M_directory_103 : decode b_M_directory 103 = .ok (.getfield 50, 3) := by decide +kernel
theorem d_M_directory_106 : decode b_M_directory 106 = .ok (.iconst 0, 1) := by decide +kernel
theorem d_M_directory_107 : decode b_M_directory 107 = .ok (.iaload, 1) := by decide +kernel
theorem d_M_directory_108 : decode b_M_directory 108 = .ok (.i2l, 1) := by decide +kernel
theorem d_M_directory_109 : decode b_M_directory 109 = .ok (.goto 6, 3) := by decide +kernel
theorem d_M_directory_112 : decode b_M_directory 112 = .ok (.iload 5, 2) := by decide +kernel
theorem d_M_directory_114 : decode b_M_directory 114 = .ok (.i2l, 1) := by decide +kernel
theorem d_M_directory_115 : decode b_M_directory 115 = .ok (.invokevirtual 161, 3) := by decide +kernel
theorem d_M_directory_118 : decode b_M_directory 118 = .ok (.aload_n 0, 1) := by decide +kernel
theorem d_M_directory_119 : decode b_M_directory 119 = .ok (.sipush 278, 3) := by decide +kernel
theorem d_M_directory_122 : decode b_M_directory 122 = .ok (.iload_n 2, 1) := by decide +kernel
theorem d_M_directory_123 : decode b_M_directory 123 = .ok (.invokevirtual 169, 3) := by decide +kernel
theorem d_M_directory_126 : decode b_M_directory 126 = .ok (.aload_n 0, 1) := by decide +kernel
theorem d_M_directory_127 : decode b_M_directory 127 = .ok (.sipush 279, 3) := by decide +kernel
theorem d_M_directory_130 : decode b_M_directory 130 = .ok (.iconst 4, 1) := by decide +kernel
theorem d_M_directory_131 : decode b_M_directory 131 = .ok (.iload 4, 2) := by decide +kernel
theorem d_M_directory_133 : decode b_M_directory 133 = .ok (.invokevirtual 165, 3) := by decide +kernel
theorem d_M_directory_136 : decode b_M_directory 136 = .ok (.aload_n 0, 1) := by decide +kernel
theorem d_M_directory_137 : decode b_M_directory 137 = .ok (.iconst 4, 1) := by decide +kernel
theorem d_M_directory_138 : decode b_M_directory 138 = .ok (.iload 4, 2) := by decide +kernel
theorem d_M_directory_140 : decode b_M_directory 140 = .ok (.iconst 1, 1) := by decide +kernel
theorem d_M_directory_141 : decode b_M_directory 141 = .ok (.if_icmp .ne 13, 3) := by decide +kernel
theorem d_M_directory_144 : decode b_M_directory 144 = .ok (.aload_n 0, 1) := by decide +kernel
theorem d_M_directory_145 : decode b_M_directory 145 = .ok (.getfield 53, 3) := by decide +kernel
theorem d_M_directory_148 : decode b_M_directory 148 = .ok (.iconst 0, 1) := by decide +kernel
theorem d_M_directory_149 : decode b_M_directory 149 = .ok (.iaload, 1) := by decide +kernel
theorem d_M_directory_150 : decode b_M_directory 150 = .ok (.i2l, 1) := by decide +kernel
theorem d_M_directory_151 : decode b_M_directory 151 = .ok (.goto 11, 3) := by decide +kernel
theorem d_M_directory_154 : decode b_M_directory 154 = .ok (.iload 5, 2) := by decide +kernel
theorem d_M_directory_156 : decode b_M_directory 156 = .ok (.iconst 4, 1) := by decide +kernel
theorem d_M_directory_157 : decode b_M_directory 157 = .ok (.iload 4, 2) := by decide +kernel
theorem d_M_directory_159 : decode b_M_directory 159 = .ok (.imul, 1) := by decide +kernel
theorem d_M_directory_160 : decode b_M_directory 160 = .ok (.iadd, 1) := by decide +kernel
theorem d_M_directory_161 : decode b_M_directory 161 = .ok (.i2l, 1) := by decide +kernel
theorem d_M_directory_162 : decode b_M_directory 162 = .ok (.invokevirtual 161, 3) := by decide +kernel
theorem d_M_directory_165 : decode b_M_directory 165 = .ok (.aload_n 0, 1) := by decide +kernel
theorem d_M_directory_166 : decode b_M_directory 166 = .ok (.sipush 317, 3) := by decide +kernel
theorem d_M_directory_169 : decode b_M_directory 169 = .ok (.iload_n 3, 1) := by decide +kernel
theorem d_M_directory_170 : decode b_M_directory 170 = .ok (.invokevirtual 169, 3) := by decide +kernel
theorem d_M_directory_173 : decode b_M_directory 173 = .ok (.iconst 0, 1) := by decide +kernel
theorem d_M_directory_174 : decode b_M_directory 174 = .ok (.istore 9, 2) := by decide +kernel
theorem d_M_directory_176 : decode b_M_directory 176 = .ok (.iload 9, 2) := by decide +kernel
theorem d_M_directory_178 : decode b_M_directory 178 = .ok (.aload_n 0, 1) := by decide +kernel
theorem d_M_directory_179 : decode b_M_directory 179 = .ok (.getfield 69, 3) := by decide +kernel
theorem d_M_directory_182 : decode b_M_directory 182 = .ok (.if_icmp .ge 113, 3) := by decide +kernel
theorem d_M_directory_185 : decode b_M_directory 185 = .ok (.iload 9, 2) := by decide +kernel
theorem d_M_directory_187 : decode b_M_directory 187 = .ok (.ifCond .ne 8, 3) := by decide +kernel
theorem d_M_directory_190 : decode b_M_directory 190 = .ok (.iload 8, 2) := by decide +kernel
theorem d_M_directory_192 : decode b_M_directory 192 = .ok (.goto 7, 3) := by decide +kernel
theorem d_M_directory_195 : decode b_M_directory 195 = .ok (.iconst 1, 1) := by decide +kernel
theorem d_M_directory_196 : decode b_M_directory 196 = .ok (.iload 8, 2) := by decide +kernel
theorem d_M_directory_198 : decode b_M_directory 198 = .ok (.isub, 1) := by decide +kernel
theorem d_M_directory_199 : decode b_M_directory 199 = .ok (.istore 10, 2) := by decide +kernel
theorem d_M_directory_201 : decode b_M_directory 201 = .ok (.aload_n 0, 1) := by decide +kernel
theorem d_M_directory_202 : decode b_M_directory 202 = .ok (.aload_n 0, 1) := by decide +kernel
theorem d_M_directory_203 : decode b_M_directory 203 = .ok (.getfield 26, 3) := by decide +kernel
theorem d_M_directory_206 : decode b_M_directory 206 = .ok (.iload 10, 2) := by decide +kernel
theorem d_M_directory_208 : decode b_M_directory 208 = .ok (.iaload, 1) := by decide +kernel
theorem d_M_directory_209 : decode b_M_directory 209 = .ok (.iconst 2, 1) := by decide +kernel
theorem d_M_directory_210 : decode b_M_directory 210 = .ok (.aload_n 0, 1) := by decide +kernel
theorem d_M_directory_211 : decode b_M_directory 211 = .ok (.getfield 29, 3) := by decide +kernel
theorem d_M_directory_214 : decode b_M_directory 214 = .ok (.iload 10, 2) := by decide +kernel
theorem d_M_directory_216 : decode b_M_directory 216 = .ok (.iaload, 1) := by decide +kernel
theorem d_M_directory_217 : decode b_M_directory 217 = .ok (.iconst 1, 1) := by decide +kernel
theorem d_M_directory_218 : decode b_M_directory 218 = .ok (.iadd, 1) := by decide +kernel
theorem d_M_directory_219 : decode b_M_directory 219 = .ok (.invokevirtual 165, 3) := by decide +kernel
theorem d_M_directory_222 : decode b_M_directory 222 = .ok (.aload_n 0, 1) := by decide +kernel
theorem d_M_directory_223 : decode b_M_directory 223 = .ok (.getfield 29, 3) := by decide +kernel
theorem d_M_directory_226 : decode b_M_directory 226 = .ok (.iload 10, 2) := by decide +kernel
theorem d_M_directory_228 : decode b_M_directory 228 = .ok (.iaload, 1) := by decide +kernel
theorem d_M_directory_229 : decode b_M_directory 229 = .ok (.iconst 3, 1) := by decide +kernel
theorem d_M_directory_230 : decode b_M_directory 230 = .ok (.if_icmp .le 25, 3) := by decide +kernel
theorem d_M_directory_233 : decode b_M_directory 233 = .ok (.aload_n 0, 1) := by decide +kernel
theorem d_M_directory_234 : decode b_M_directory 234 = .ok (.iconst 4, 1) := by decide +kernel
theorem d_M_directory_235 : decode b_M_directory 235 = .ok (.iload 10, 2) := by decide +kernel
theorem d_M_directory_237 : decode b_M_directory 237 = .ok (.ifCond .ne 9, 3) := by decide +kernel
theorem d_M_directory_240 : decode b_M_directory 240 = .ok (.iload 6, 2) := by decide +kernel
theorem d_M_directory_242 : decode b_M_directory 242 = .ok (.i2l, 1) := by decide +kernel
theorem d_M_directory_243 : decode b_M_directory 243 = .ok (.goto 6, 3) := by decide +kernel
theorem d_M_directory_246 : decode b_M_directory 246 = .ok (.iload 7, 2) := by decide +kernel
theorem d_M_directory_248 : decode b_M_directory 248 = .ok (.i2l, 1) := by decide +kernel
theorem d_M_directory_249 : decode b_M_directory 249 = .ok (.invokevirtual 161, 3) := by decide +kernel
theorem d_M_directory_252 : decode b_M_directory 252 = .ok (.goto 37, 3) := by decide +kernel
theorem d_M_directory_255 : decode b_M_directory 255 = .ok (.aload_n 0, 1) := by decide +kernel
theorem d_M_directory_256 : decode b_M_directory 256 = .ok (.iload 10, 2) := by decide +kernel
theorem d_M_directory_258 : decode b_M_directory 258 = .ok (.invokevirtual 172, 3) := by decide +kernel
theorem d_M_directory_261 : decode b_M_directory 261 = .ok (.aload_n 0, 1) := by decide +kernel
theorem d_M_directory_262 : decode b_M_directory 262 = .ok (.getfield 29, 3) := by decide +kernel
theorem d_M_directory_265 : decode b_M_directory 265 = .ok (.iload 10, 2) := by decide +kernel
theorem d_M_directory_267 : decode b_M_directory 267 = .ok (.iaload, 1) := by decide +kernel
theorem d_M_directory_268 : decode b_M_directory 268 = .ok (.iconst 1, 1) := by decide +kernel
theorem d_M_directory_269 : decode b_M_directory 269 = .ok (.iadd, 1) := by decide +kernel
theorem d_M_directory_270 : decode b_M_directory 270 = .ok (.istore 11, 2) := by decide +kernel
theorem d_M_directory_272 : decode b_M_directory 272 = .ok (.iload 11, 2) := by decide +kernel
theorem d_M_directory_274 : decode b_M_directory 274 = .ok (.iconst 4, 1) := by decide +kernel
theorem d_M_directory_275 : decode b_M_directory 275 = .ok (.if_icmp .ge 14, 3) := by decide +kernel
theorem d_M_directory_278 : decode b_M_directory 278 = .ok (.aload_n 0, 1) := by decide +kernel
theorem d_M_directory_279 : decode b_M_directory 279 = .ok (.iconst 0, 1) := by decide +kernel
theorem d_M_directory_280 : decode b_M_directory 280 = .ok (.invokevirtual 128, 3) := by decide +kernel
theorem d_M_directory_283 : decode b_M_directory 283 = .ok (.iinc 11 1, 3) := by decide +kernel
theorem d_M_directory_286 : decode b_M_directory 286 = .ok (.goto (-14), 3) := by decide +kernel
theorem d_M_directory_289 : decode b_M_directory 289 = .ok (.iinc 9 1, 3) := by decide +kernel
theorem d_M_directory_292 : decode b_M_directory 292 = .ok (.goto (-116), 3) := by decide +kernel
theorem d_M_directory_295 : decode b_M_directory 295 = .ok (.aload_n 0, 1) := by decide +kernel
theorem d_M_directory_296 : decode b_M_directory 296 = .ok (.iconst 4, 1) := by decide +kernel
theorem d_M_directory_297 : decode b_M_directory 297 = .ok (.lconst 0, 1) := by decide +kernel
theorem d_M_directory_298 : decode b_M_directory 298 = .ok (.invokevirtual 161, 3) := by decide +kernel
theorem d_M_directory_301 : decode b_M_directory 301 = .ok (.return_, 1) := by decide +kernel
def wp_M_directory_b289 (post : (Nat → Int32) → (Nat → Int32) → Prop) (k176 : (Nat → Int32) → (Nat → Int32) → Int32 → Int32 → Int32 → Int32 → Prop) (f_p0_lengths : Nat → Int32) (f_p0_letters : Nat → Int32) (f_p0_places : Nat → Int32) (f_p0_sizes : Nat → Int32) (f_p0_tags : Nat → Int32) (I_p0 : Nat → Int32) (f_p0_file : Nat → Int32) (x6 : Int32) (x7 : Int32) (x8 : Int32) (x9 : Int32) : Prop :=
  k176 I_p0 f_p0_file x6 x7 x8 (x9 + 1)
def wp_M_directory_l272 (post : (Nat → Int32) → (Nat → Int32) → Prop) (k176 : (Nat → Int32) → (Nat → Int32) → Int32 → Int32 → Int32 → Int32 → Prop) (f_p0_lengths : Nat → Int32) (f_p0_letters : Nat → Int32) (f_p0_places : Nat → Int32) (f_p0_sizes : Nat → Int32) (f_p0_tags : Nat → Int32) : Nat → (Nat → Int32) → (Nat → Int32) → Int32 → Int32 → Int32 → Int32 → Int32 → Prop
  | 0, _, _, _, _, _, _, _ => False
  | n + 1, I_p0, f_p0_file, x6, x7, x8, x9, x11 =>
    ((4 ≤ x11 →
      wp_M_directory_b289 post k176 f_p0_lengths f_p0_letters f_p0_places f_p0_sizes f_p0_tags I_p0 f_p0_file x6 x7 x8 x9) ∧
     (¬ 4 ≤ x11 →
      wp_M_put (fun (I_p0_280 : Nat → Int32) (f_p0_file_280 : Nat → Int32) =>
        wp_M_directory_l272 post k176 f_p0_lengths f_p0_letters f_p0_places f_p0_sizes f_p0_tags n I_p0_280 f_p0_file_280 x6 x7 x8 x9 (x11 + 1)) I_p0 f_p0_file 0))
def wp_M_directory_b249 (post : (Nat → Int32) → (Nat → Int32) → Prop) (k176 : (Nat → Int32) → (Nat → Int32) → Int32 → Int32 → Int32 → Int32 → Prop) (f_p0_lengths : Nat → Int32) (f_p0_letters : Nat → Int32) (f_p0_places : Nat → Int32) (f_p0_sizes : Nat → Int32) (f_p0_tags : Nat → Int32) (I_p0 : Nat → Int32) (f_p0_file : Nat → Int32) (x6 : Int32) (x7 : Int32) (x8 : Int32) (x9 : Int32) (s0 : Int64) (s1 : Int32) : Prop :=
  wp_M_number (fun (I_p0_249 : Nat → Int32) (f_p0_file_249 : Nat → Int32) =>
    wp_M_directory_b289 post k176 f_p0_lengths f_p0_letters f_p0_places f_p0_sizes f_p0_tags I_p0_249 f_p0_file_249 x6 x7 x8 x9) I_p0 f_p0_file s1 s0
def wp_M_directory_b199 (post : (Nat → Int32) → (Nat → Int32) → Prop) (k176 : (Nat → Int32) → (Nat → Int32) → Int32 → Int32 → Int32 → Int32 → Prop) (f_p0_lengths : Nat → Int32) (f_p0_letters : Nat → Int32) (f_p0_places : Nat → Int32) (f_p0_sizes : Nat → Int32) (f_p0_tags : Nat → Int32) (I_p0 : Nat → Int32) (f_p0_file : Nat → Int32) (x6 : Int32) (x7 : Int32) (x8 : Int32) (x9 : Int32) (s0 : Int32) : Prop :=
  vp_in s0 2 ∧
  vp_in s0 2 ∧
  wp_M_head (fun (I_p0_219 : Nat → Int32) (f_p0_file_219 : Nat → Int32) =>
    vp_in s0 2 ∧
    (((f_p0_lengths (s0).toNatClampNeg) ≤ 3 →
      wp_M_text (fun (I_p0_258 : Nat → Int32) (f_p0_file_258 : Nat → Int32) =>
        vp_in s0 2 ∧
        (∃ n1 : Nat, wp_M_directory_l272 post k176 f_p0_lengths f_p0_letters f_p0_places f_p0_sizes f_p0_tags n1 I_p0_258 f_p0_file_258 x6 x7 x8 x9 ((f_p0_lengths (s0).toNatClampNeg) + 1))) f_p0_lengths f_p0_letters I_p0_219 f_p0_file_219 s0) ∧
     (¬ (f_p0_lengths (s0).toNatClampNeg) ≤ 3 →
      ((s0 = 0 →
        wp_M_directory_b249 post k176 f_p0_lengths f_p0_letters f_p0_places f_p0_sizes f_p0_tags I_p0_219 f_p0_file_219 x6 x7 x8 x9 x6.toInt64 4) ∧
       (¬ s0 = 0 →
        wp_M_directory_b249 post k176 f_p0_lengths f_p0_letters f_p0_places f_p0_sizes f_p0_tags I_p0_219 f_p0_file_219 x6 x7 x8 x9 x7.toInt64 4))))) I_p0 f_p0_file (f_p0_tags (s0).toNatClampNeg) 2 ((f_p0_lengths (s0).toNatClampNeg) + 1)
def wp_M_directory_l176 (post : (Nat → Int32) → (Nat → Int32) → Prop) (f_p0_lengths : Nat → Int32) (f_p0_letters : Nat → Int32) (f_p0_places : Nat → Int32) (f_p0_sizes : Nat → Int32) (f_p0_tags : Nat → Int32) : Nat → (Nat → Int32) → (Nat → Int32) → Int32 → Int32 → Int32 → Int32 → Prop
  | 0, _, _, _, _, _, _ => False
  | n + 1, I_p0, f_p0_file, x6, x7, x8, x9 =>
    (((I_p0 7) ≤ x9 →
      wp_M_number (fun (I_p0_298 : Nat → Int32) (f_p0_file_298 : Nat → Int32) =>
        post I_p0_298 f_p0_file_298) I_p0 f_p0_file 4 0) ∧
     (¬ (I_p0 7) ≤ x9 →
      ((x9 = 0 →
        wp_M_directory_b199 post (wp_M_directory_l176 post f_p0_lengths f_p0_letters f_p0_places f_p0_sizes f_p0_tags n) f_p0_lengths f_p0_letters f_p0_places f_p0_sizes f_p0_tags I_p0 f_p0_file x6 x7 x8 x9 x8) ∧
       (¬ x9 = 0 →
        wp_M_directory_b199 post (wp_M_directory_l176 post f_p0_lengths f_p0_letters f_p0_places f_p0_sizes f_p0_tags n) f_p0_lengths f_p0_letters f_p0_places f_p0_sizes f_p0_tags I_p0 f_p0_file x6 x7 x8 x9 (1 - x8)))))
def wp_M_directory_b162 (post : (Nat → Int32) → (Nat → Int32) → Prop) (f_p0_lengths : Nat → Int32) (f_p0_letters : Nat → Int32) (f_p0_places : Nat → Int32) (f_p0_sizes : Nat → Int32) (f_p0_tags : Nat → Int32) (I_p0 : Nat → Int32) (f_p0_file : Nat → Int32) (x3 : Int32) (x6 : Int32) (x7 : Int32) (x8 : Int32) (s0 : Int64) (s1 : Int32) : Prop :=
  wp_M_number (fun (I_p0_162 : Nat → Int32) (f_p0_file_162 : Nat → Int32) =>
    wp_M_small (fun (I_p0_170 : Nat → Int32) (f_p0_file_170 : Nat → Int32) =>
      (∃ n1 : Nat, wp_M_directory_l176 post f_p0_lengths f_p0_letters f_p0_places f_p0_sizes f_p0_tags n1 I_p0_170 f_p0_file_170 x6 x7 x8 0)) I_p0_162 f_p0_file_162 317 x3) I_p0 f_p0_file s1 s0
def wp_M_directory_b115 (post : (Nat → Int32) → (Nat → Int32) → Prop) (f_p0_lengths : Nat → Int32) (f_p0_letters : Nat → Int32) (f_p0_places : Nat → Int32) (f_p0_sizes : Nat → Int32) (f_p0_tags : Nat → Int32) (I_p0 : Nat → Int32) (f_p0_file : Nat → Int32) (x2 : Int32) (x3 : Int32) (x4 : Int32) (x5 : Int32) (x6 : Int32) (x7 : Int32) (x8 : Int32) (s0 : Int64) (s1 : Int32) : Prop :=
  wp_M_number (fun (I_p0_115 : Nat → Int32) (f_p0_file_115 : Nat → Int32) =>
    wp_M_small (fun (I_p0_123 : Nat → Int32) (f_p0_file_123 : Nat → Int32) =>
      wp_M_head (fun (I_p0_133 : Nat → Int32) (f_p0_file_133 : Nat → Int32) =>
        ((x4 = 1 →
          vp_in 0 16 ∧
          wp_M_directory_b162 post f_p0_lengths f_p0_letters f_p0_places f_p0_sizes f_p0_tags I_p0_133 f_p0_file_133 x3 x6 x7 x8 ((f_p0_sizes 0).toInt64) 4) ∧
         (¬ x4 = 1 →
          wp_M_directory_b162 post f_p0_lengths f_p0_letters f_p0_places f_p0_sizes f_p0_tags I_p0_133 f_p0_file_133 x3 x6 x7 x8 ((x5 + (4 * x4)).toInt64) 4))) I_p0_123 f_p0_file_123 279 4 x4) I_p0_115 f_p0_file_115 278 x2) I_p0 f_p0_file s1 s0
def wp_M_directory_b28 (post : (Nat → Int32) → (Nat → Int32) → Prop) (f_p0_lengths : Nat → Int32) (f_p0_letters : Nat → Int32) (f_p0_places : Nat → Int32) (f_p0_sizes : Nat → Int32) (f_p0_tags : Nat → Int32) (I_p0 : Nat → Int32) (f_p0_file : Nat → Int32) (x1 : Int32) (x2 : Int32) (x3 : Int32) (x4 : Int32) (x5 : Int32) (x6 : Int32) (x7 : Int32) (s0 : Int32) : Prop :=
  wp_M_number (fun (I_p0_40 : Nat → Int32) (f_p0_file_40 : Nat → Int32) =>
    wp_M_small (fun (I_p0_51 : Nat → Int32) (f_p0_file_51 : Nat → Int32) =>
      wp_M_small (fun (I_p0_62 : Nat → Int32) (f_p0_file_62 : Nat → Int32) =>
        wp_M_small (fun (I_p0_73 : Nat → Int32) (f_p0_file_73 : Nat → Int32) =>
          wp_M_small (fun (I_p0_81 : Nat → Int32) (f_p0_file_81 : Nat → Int32) =>
            wp_M_head (fun (I_p0_91 : Nat → Int32) (f_p0_file_91 : Nat → Int32) =>
              ((x4 = 1 →
                vp_in 0 16 ∧
                wp_M_directory_b115 post f_p0_lengths f_p0_letters f_p0_places f_p0_sizes f_p0_tags I_p0_91 f_p0_file_91 x2 x3 x4 x5 x6 x7 s0 ((f_p0_places 0).toInt64) 4) ∧
               (¬ x4 = 1 →
                wp_M_directory_b115 post f_p0_lengths f_p0_letters f_p0_places f_p0_sizes f_p0_tags I_p0_91 f_p0_file_91 x2 x3 x4 x5 x6 x7 s0 x5.toInt64 4))) I_p0_81 f_p0_file_81 273 4 x4) I_p0_73 f_p0_file_73 259 x1) I_p0_62 f_p0_file_62 258 (I_p0_62 5)) I_p0_51 f_p0_file_51 257 (I_p0_51 4)) I_p0_40 f_p0_file_40 256 (I_p0_40 3)) I_p0 f_p0_file 2 ((8 + (I_p0 7)).toInt64)
def wp_M_directory_b27 (post : (Nat → Int32) → (Nat → Int32) → Prop) (f_p0_lengths : Nat → Int32) (f_p0_letters : Nat → Int32) (f_p0_places : Nat → Int32) (f_p0_sizes : Nat → Int32) (f_p0_tags : Nat → Int32) (I_p0 : Nat → Int32) (f_p0_file : Nat → Int32) (x1 : Int32) (x2 : Int32) (x3 : Int32) (x4 : Int32) (x5 : Int32) (x6 : Int32) (x7 : Int32) : Prop :=
  wp_M_directory_b28 post f_p0_lengths f_p0_letters f_p0_places f_p0_sizes f_p0_tags I_p0 f_p0_file x1 x2 x3 x4 x5 x6 x7 0
def wp_M_directory (post : (Nat → Int32) → (Nat → Int32) → Prop) (f_p0_lengths : Nat → Int32) (f_p0_letters : Nat → Int32) (f_p0_places : Nat → Int32) (f_p0_sizes : Nat → Int32) (f_p0_tags : Nat → Int32) (I_p0 : Nat → Int32) (f_p0_file : Nat → Int32) (x1 : Int32) (x2 : Int32) (x3 : Int32) (x4 : Int32) (x5 : Int32) (x6 : Int32) (x7 : Int32) : Prop :=
  (((I_p0 7) = 2 →
    vp_in 1 2 ∧
    vp_in 0 2 ∧
    (((f_p0_tags 0) ≤ (f_p0_tags 1) →
      wp_M_directory_b27 post f_p0_lengths f_p0_letters f_p0_places f_p0_sizes f_p0_tags I_p0 f_p0_file x1 x2 x3 x4 x5 x6 x7) ∧
     (¬ (f_p0_tags 0) ≤ (f_p0_tags 1) →
      wp_M_directory_b28 post f_p0_lengths f_p0_letters f_p0_places f_p0_sizes f_p0_tags I_p0 f_p0_file x1 x2 x3 x4 x5 x6 x7 1))) ∧
   (¬ (I_p0 7) = 2 →
    wp_M_directory_b27 post f_p0_lengths f_p0_letters f_p0_places f_p0_sizes f_p0_tags I_p0 f_p0_file x1 x2 x3 x4 x5 x6 x7))
set_option maxRecDepth 100000 in
set_option maxHeartbeats 4000000 in
theorem c_M_directory (l : Launch) (dC : Nat → ClassId) (dI : Nat → Nat → Nat) (cI : ClassId) (a_p0 : Nat) (A_p0 : Nat → Nat) (f_p0_lengths : Nat → Int32) (f_p0_letters : Nat → Int32) (f_p0_places : Nat → Int32) (f_p0_sizes : Nat → Int32) (f_p0_tags : Nat → Int32) (I_p0 : Nat → Int32) (f_p0_file : Nat → Int32) (x1 : Int32) (x2 : Int32) (x3 : Int32) (x4 : Int32) (x5 : Int32) (x6 : Int32) (x7 : Int32) {post : (Nat → Int32) → (Nat → Int32) → Prop} (hw : wp_M_directory post f_p0_lengths f_p0_letters f_p0_places f_p0_sizes f_p0_tags I_p0 f_p0_file x1 x2 x3 x4 x5 x6 x7) : gm_v l y_M_directory ws_M_directory ({ frames := 4, cells := 0, slots := 0, locals := 95 } : Room) (dC, dI) vwCl [(cI, .int)] [.ref a_p0, .int x1, .int x2, .int x3, .int x4, .int x5, .int x6, .int x7] [oM a_p0 A_p0 I_p0, gz cI (A_p0 0) 2000 f_p0_file, gz cI (A_p0 9) 2 f_p0_lengths, gz cI (A_p0 10) 24 f_p0_letters, gz cI (A_p0 21) 16 f_p0_places, gz cI (A_p0 22) 16 f_p0_sizes, gz cI (A_p0 8) 2 f_p0_tags] (fun (u : (Nat → Int32) × (Nat → Int32)) => [oM a_p0 A_p0 u.1, gz cI (A_p0 0) 2000 u.2, gz cI (A_p0 9) 2 f_p0_lengths, gz cI (A_p0 10) 24 f_p0_letters, gz cI (A_p0 21) 16 f_p0_places, gz cI (A_p0 22) 16 f_p0_sizes, gz cI (A_p0 8) 2 f_p0_tags]) (fun (u : (Nat → Int32) × (Nat → Int32)) => post  u.1 u.2) := by
  refine gm_vof (cc := b_M_directory) (maxL := 12) (by decide) rfl (Nat.le_of_ble_eq_true rfl) ?_
  intro p e s m args below meth c A Q hx hb hml hown hg hK hN hA hnm hret
  have hown : s.vm.findClass R_M = some m.cls := hown
  have b289 : ∀ (k176 : (Nat → Int32) → (Nat → Int32) → Int32 → Int32 → Int32 → Int32 → Prop), (∀ (H : Heap) (locs : List Loc) (ls : Array Slot) (I_p0 : Nat → Int32) (f_p0_file : Nat → Int32) (x6 : Int32) (x7 : Int32) (x8 : Int32) (x9 : Int32), va_P (dC, dI) vwCl [oM a_p0 A_p0 I_p0, gz cI (A_p0 0) 2000 f_p0_file, gz cI (A_p0 9) 2 f_p0_lengths, gz cI (A_p0 10) 24 f_p0_letters, gz cI (A_p0 21) 16 f_p0_places, gz cI (A_p0 22) 16 f_p0_sizes, gz cI (A_p0 8) 2 f_p0_tags] H → va_D A [oM a_p0 A_p0 I_p0, gz cI (A_p0 0) 2000 f_p0_file, gz cI (A_p0 9) 2 f_p0_lengths, gz cI (A_p0 10) 24 f_p0_letters, gz cI (A_p0 21) 16 f_p0_places, gz cI (A_p0 22) 16 f_p0_sizes, gz cI (A_p0 8) 2 f_p0_tags] → va_S A s.heap H locs → lv_has ls 12 [(0, .ref a_p0), (6, .int x6), (7, .int x7), (8, .int x8), (9, .int x9)] → k176 I_p0 f_p0_file x6 x7 x8 x9 → W p l e ({ frames := 4, cells := 0, slots := 0, locals := 95 } : Room) s m args below meth c H locs 0 0 Q (F0 m 176 ls [])) → ∀ (H : Heap) (locs : List Loc) (ls : Array Slot) (I_p0 : Nat → Int32) (f_p0_file : Nat → Int32) (x6 : Int32) (x7 : Int32) (x8 : Int32) (x9 : Int32), va_P (dC, dI) vwCl [oM a_p0 A_p0 I_p0, gz cI (A_p0 0) 2000 f_p0_file, gz cI (A_p0 9) 2 f_p0_lengths, gz cI (A_p0 10) 24 f_p0_letters, gz cI (A_p0 21) 16 f_p0_places, gz cI (A_p0 22) 16 f_p0_sizes, gz cI (A_p0 8) 2 f_p0_tags] H → va_D A [oM a_p0 A_p0 I_p0, gz cI (A_p0 0) 2000 f_p0_file, gz cI (A_p0 9) 2 f_p0_lengths, gz cI (A_p0 10) 24 f_p0_letters, gz cI (A_p0 21) 16 f_p0_places, gz cI (A_p0 22) 16 f_p0_sizes, gz cI (A_p0 8) 2 f_p0_tags] → va_S A s.heap H locs → lv_has ls 12 [(0, .ref a_p0), (6, .int x6), (7, .int x7), (8, .int x8), (9, .int x9)] → wp_M_directory_b289 post k176 f_p0_lengths f_p0_letters f_p0_places f_p0_sizes f_p0_tags I_p0 f_p0_file x6 x7 x8 x9 → W p l e ({ frames := 4, cells := 0, slots := 0, locals := 95 } : Room) s m args below meth c H locs 0 0 Q (F0 m 289 ls []) := by
    intro k176 hk176 H locs ls I_p0 f_p0_file x6 x7 x8 x9 hP hD hS hl hw
    unfold wp_M_directory_b289 at hw
    refine lv_iinc (k := 4) (v := (x9 + 1)) (lv' := [(9, .int (x9 + 1)), (0, .ref a_p0), (6, .int x6), (7, .int x7), (8, .int x8)]) hx hb d_M_directory_289 hl rfl (congrArg (fun z => x9 + z) (by decide : Int32.ofInt 1 = 1)) (by decide) rfl (fun ls hl => ?_)
    refine lv_goto hx hb d_M_directory_292 rfl ?_
    exact hk176 _ _ _ I_p0 f_p0_file x6 x7 x8 (x9 + 1) hP hD hS (lv_sub hl [1, 2, 3, 4, 0] rfl) hw
  have l272 : ∀ (k176 : (Nat → Int32) → (Nat → Int32) → Int32 → Int32 → Int32 → Int32 → Prop), (∀ (H : Heap) (locs : List Loc) (ls : Array Slot) (I_p0 : Nat → Int32) (f_p0_file : Nat → Int32) (x6 : Int32) (x7 : Int32) (x8 : Int32) (x9 : Int32), va_P (dC, dI) vwCl [oM a_p0 A_p0 I_p0, gz cI (A_p0 0) 2000 f_p0_file, gz cI (A_p0 9) 2 f_p0_lengths, gz cI (A_p0 10) 24 f_p0_letters, gz cI (A_p0 21) 16 f_p0_places, gz cI (A_p0 22) 16 f_p0_sizes, gz cI (A_p0 8) 2 f_p0_tags] H → va_D A [oM a_p0 A_p0 I_p0, gz cI (A_p0 0) 2000 f_p0_file, gz cI (A_p0 9) 2 f_p0_lengths, gz cI (A_p0 10) 24 f_p0_letters, gz cI (A_p0 21) 16 f_p0_places, gz cI (A_p0 22) 16 f_p0_sizes, gz cI (A_p0 8) 2 f_p0_tags] → va_S A s.heap H locs → lv_has ls 12 [(0, .ref a_p0), (6, .int x6), (7, .int x7), (8, .int x8), (9, .int x9)] → k176 I_p0 f_p0_file x6 x7 x8 x9 → W p l e ({ frames := 4, cells := 0, slots := 0, locals := 95 } : Room) s m args below meth c H locs 0 0 Q (F0 m 176 ls [])) → ∀ n : Nat, ∀ (H : Heap) (locs : List Loc) (ls : Array Slot) (I_p0 : Nat → Int32) (f_p0_file : Nat → Int32) (x6 : Int32) (x7 : Int32) (x8 : Int32) (x9 : Int32) (x11 : Int32), va_P (dC, dI) vwCl [oM a_p0 A_p0 I_p0, gz cI (A_p0 0) 2000 f_p0_file, gz cI (A_p0 9) 2 f_p0_lengths, gz cI (A_p0 10) 24 f_p0_letters, gz cI (A_p0 21) 16 f_p0_places, gz cI (A_p0 22) 16 f_p0_sizes, gz cI (A_p0 8) 2 f_p0_tags] H → va_D A [oM a_p0 A_p0 I_p0, gz cI (A_p0 0) 2000 f_p0_file, gz cI (A_p0 9) 2 f_p0_lengths, gz cI (A_p0 10) 24 f_p0_letters, gz cI (A_p0 21) 16 f_p0_places, gz cI (A_p0 22) 16 f_p0_sizes, gz cI (A_p0 8) 2 f_p0_tags] → va_S A s.heap H locs → lv_has ls 12 [(0, .ref a_p0), (6, .int x6), (7, .int x7), (8, .int x8), (9, .int x9), (11, .int x11)] → wp_M_directory_l272 post k176 f_p0_lengths f_p0_letters f_p0_places f_p0_sizes f_p0_tags n I_p0 f_p0_file x6 x7 x8 x9 x11 → W p l e ({ frames := 4, cells := 0, slots := 0, locals := 95 } : Room) s m args below meth c H locs 0 0 Q (F0 m 272 ls []) := by
    intro k176 hk176 n
    induction n with
    | zero => intro H locs ls I_p0 f_p0_file x6 x7 x8 x9 x11 hP hD hS hl hw; exact hw.elim
    | succ n ih =>
      intro H locs ls I_p0 f_p0_file x6 x7 x8 x9 x11 hP hD hS hl hw
      unfold wp_M_directory_l272 at hw
      refine lv_iload hx hb d_M_directory_272 (lv_at hl 5 rfl) ?_
      refine lv_iconst (v := 4) hx hb d_M_directory_274 (by decide) ?_
      refine lv_icmp_ge hx hb d_M_directory_275 rfl (fun hc => ?_) (fun hc => ?_)
      · have hw := hw.1 hc
        exact b289 _ hk176 _ _ _ I_p0 f_p0_file x6 x7 x8 x9 hP hD hS (lv_sub hl [0, 1, 2, 3, 4] rfl) hw
      · have hw := hw.2 hc
        refine lv_aload_n hx hb d_M_directory_278 rfl (lv_at hl 0 rfl) ?_
        refine lv_iconst (v := 0) hx hb d_M_directory_279 (by decide) ?_
        refine gc_v (wn := fun u => [oM a_p0 A_p0 u.1, gz cI (A_p0 0) 2000 u.2, gz cI (A_p0 9) 2 f_p0_lengths, gz cI (A_p0 10) 24 f_p0_letters, gz cI (A_p0 21) 16 f_p0_places, gz cI (A_p0 22) 16 f_p0_sizes, gz cI (A_p0 8) 2 f_p0_tags]) (wr := [gz cI (A_p0 9) 2 f_p0_lengths, gz cI (A_p0 10) 24 f_p0_letters, gz cI (A_p0 21) 16 f_p0_places, gz cI (A_p0 22) 16 f_p0_sizes, gz cI (A_p0 8) 2 f_p0_tags]) (gr_V (As := [.int 0]) (rest := []) ⟨hx, hb, hml, hown, hg⟩ (c_M_put l dC dI cI a_p0 A_p0 I_p0 f_p0_file 0 hw _) (cwV 1 hg (gg_V t_954 t_956 t_35 t_71 t_957) rfl rfl rfl (by decide +kernel) ⟨Nat.le_of_ble_eq_true rfl, Nat.le_of_ble_eq_true rfl⟩) hK hN hP hD [0, 1] (by decide) rfl 0 10 rfl rfl rfl rfl hl.1 rfl (Nat.le_of_ble_eq_true rfl) d_M_directory_280 ⟨Nat.le_of_ble_eq_true rfl, Nat.le_of_ble_eq_true rfl⟩) rfl rfl hP hD hS hA [0, 1] [2, 3, 4, 5, 6] [5, 6, 0, 1, 2, 3, 4] rfl rfl (by decide) (by decide) (by decide) (fun _ => rfl) ?_
        intro u9 H locs hw hP hD hS
        obtain ⟨I_p0_280, f_p0_file_280⟩ := u9
        try dsimp only at hw
        have hP : va_P (dC, dI) vwCl [oM a_p0 A_p0 I_p0_280, gz cI (A_p0 0) 2000 f_p0_file_280, gz cI (A_p0 9) 2 f_p0_lengths, gz cI (A_p0 10) 24 f_p0_letters, gz cI (A_p0 21) 16 f_p0_places, gz cI (A_p0 22) 16 f_p0_sizes, gz cI (A_p0 8) 2 f_p0_tags] H := hP
        have hD : va_D A [oM a_p0 A_p0 I_p0_280, gz cI (A_p0 0) 2000 f_p0_file_280, gz cI (A_p0 9) 2 f_p0_lengths, gz cI (A_p0 10) 24 f_p0_letters, gz cI (A_p0 21) 16 f_p0_places, gz cI (A_p0 22) 16 f_p0_sizes, gz cI (A_p0 8) 2 f_p0_tags] := hD
        refine lv_iinc (k := 5) (v := (x11 + 1)) (lv' := [(11, .int (x11 + 1)), (0, .ref a_p0), (6, .int x6), (7, .int x7), (8, .int x8), (9, .int x9)]) hx hb d_M_directory_283 hl rfl (congrArg (fun z => x11 + z) (by decide : Int32.ofInt 1 = 1)) (by decide) rfl (fun ls hl => ?_)
        refine lv_goto hx hb d_M_directory_286 rfl ?_
        exact ih _ _ _ I_p0_280 f_p0_file_280 x6 x7 x8 x9 (x11 + 1) hP hD hS (lv_sub hl [1, 2, 3, 4, 5, 0] rfl) hw
  have b249 : ∀ (k176 : (Nat → Int32) → (Nat → Int32) → Int32 → Int32 → Int32 → Int32 → Prop), (∀ (H : Heap) (locs : List Loc) (ls : Array Slot) (I_p0 : Nat → Int32) (f_p0_file : Nat → Int32) (x6 : Int32) (x7 : Int32) (x8 : Int32) (x9 : Int32), va_P (dC, dI) vwCl [oM a_p0 A_p0 I_p0, gz cI (A_p0 0) 2000 f_p0_file, gz cI (A_p0 9) 2 f_p0_lengths, gz cI (A_p0 10) 24 f_p0_letters, gz cI (A_p0 21) 16 f_p0_places, gz cI (A_p0 22) 16 f_p0_sizes, gz cI (A_p0 8) 2 f_p0_tags] H → va_D A [oM a_p0 A_p0 I_p0, gz cI (A_p0 0) 2000 f_p0_file, gz cI (A_p0 9) 2 f_p0_lengths, gz cI (A_p0 10) 24 f_p0_letters, gz cI (A_p0 21) 16 f_p0_places, gz cI (A_p0 22) 16 f_p0_sizes, gz cI (A_p0 8) 2 f_p0_tags] → va_S A s.heap H locs → lv_has ls 12 [(0, .ref a_p0), (6, .int x6), (7, .int x7), (8, .int x8), (9, .int x9)] → k176 I_p0 f_p0_file x6 x7 x8 x9 → W p l e ({ frames := 4, cells := 0, slots := 0, locals := 95 } : Room) s m args below meth c H locs 0 0 Q (F0 m 176 ls [])) → ∀ (H : Heap) (locs : List Loc) (ls : Array Slot) (I_p0 : Nat → Int32) (f_p0_file : Nat → Int32) (x6 : Int32) (x7 : Int32) (x8 : Int32) (x9 : Int32) (s0 : Int64) (s1 : Int32), va_P (dC, dI) vwCl [oM a_p0 A_p0 I_p0, gz cI (A_p0 0) 2000 f_p0_file, gz cI (A_p0 9) 2 f_p0_lengths, gz cI (A_p0 10) 24 f_p0_letters, gz cI (A_p0 21) 16 f_p0_places, gz cI (A_p0 22) 16 f_p0_sizes, gz cI (A_p0 8) 2 f_p0_tags] H → va_D A [oM a_p0 A_p0 I_p0, gz cI (A_p0 0) 2000 f_p0_file, gz cI (A_p0 9) 2 f_p0_lengths, gz cI (A_p0 10) 24 f_p0_letters, gz cI (A_p0 21) 16 f_p0_places, gz cI (A_p0 22) 16 f_p0_sizes, gz cI (A_p0 8) 2 f_p0_tags] → va_S A s.heap H locs → lv_has ls 12 [(0, .ref a_p0), (6, .int x6), (7, .int x7), (8, .int x8), (9, .int x9)] → wp_M_directory_b249 post k176 f_p0_lengths f_p0_letters f_p0_places f_p0_sizes f_p0_tags I_p0 f_p0_file x6 x7 x8 x9 s0 s1 → W p l e ({ frames := 4, cells := 0, slots := 0, locals := 95 } : Room) s m args below meth c H locs 0 0 Q (F0 m 249 ls [.long s0, .int s1, .ref a_p0]) := by
    intro k176 hk176 H locs ls I_p0 f_p0_file x6 x7 x8 x9 s0 s1 hP hD hS hl hw
    unfold wp_M_directory_b249 at hw
    refine gc_v (wn := fun u => [oM a_p0 A_p0 u.1, gz cI (A_p0 0) 2000 u.2, gz cI (A_p0 9) 2 f_p0_lengths, gz cI (A_p0 10) 24 f_p0_letters, gz cI (A_p0 21) 16 f_p0_places, gz cI (A_p0 22) 16 f_p0_sizes, gz cI (A_p0 8) 2 f_p0_tags]) (wr := [gz cI (A_p0 9) 2 f_p0_lengths, gz cI (A_p0 10) 24 f_p0_letters, gz cI (A_p0 21) 16 f_p0_places, gz cI (A_p0 22) 16 f_p0_sizes, gz cI (A_p0 8) 2 f_p0_tags]) (gr_V (As := [.int s1, .long s0]) (rest := []) ⟨hx, hb, hml, hown, hg⟩ (c_M_number l dC dI cI a_p0 A_p0 I_p0 f_p0_file s1 s0 hw _) (cwV 2 hg (gg_V t_992 t_994 t_43 t_71 t_995) rfl rfl rfl (by decide +kernel) ⟨Nat.le_of_ble_eq_true rfl, Nat.le_of_ble_eq_true rfl⟩) hK hN hP hD [0, 1] (by decide) rfl 0 10 rfl rfl rfl rfl hl.1 rfl (Nat.le_of_ble_eq_true rfl) d_M_directory_249 ⟨Nat.le_of_ble_eq_true rfl, Nat.le_of_ble_eq_true rfl⟩) rfl rfl hP hD hS hA [0, 1] [2, 3, 4, 5, 6] [5, 6, 0, 1, 2, 3, 4] rfl rfl (by decide) (by decide) (by decide) (fun _ => rfl) ?_
    intro u9 H locs hw hP hD hS
    obtain ⟨I_p0_249, f_p0_file_249⟩ := u9
    try dsimp only at hw
    have hP : va_P (dC, dI) vwCl [oM a_p0 A_p0 I_p0_249, gz cI (A_p0 0) 2000 f_p0_file_249, gz cI (A_p0 9) 2 f_p0_lengths, gz cI (A_p0 10) 24 f_p0_letters, gz cI (A_p0 21) 16 f_p0_places, gz cI (A_p0 22) 16 f_p0_sizes, gz cI (A_p0 8) 2 f_p0_tags] H := hP
    have hD : va_D A [oM a_p0 A_p0 I_p0_249, gz cI (A_p0 0) 2000 f_p0_file_249, gz cI (A_p0 9) 2 f_p0_lengths, gz cI (A_p0 10) 24 f_p0_letters, gz cI (A_p0 21) 16 f_p0_places, gz cI (A_p0 22) 16 f_p0_sizes, gz cI (A_p0 8) 2 f_p0_tags] := hD
    refine lv_goto hx hb d_M_directory_252 rfl ?_
    exact b289 _ hk176 _ _ _ I_p0_249 f_p0_file_249 x6 x7 x8 x9 hP hD hS (lv_sub hl [0, 1, 2, 3, 4] rfl) hw
  have b199 : ∀ (k176 : (Nat → Int32) → (Nat → Int32) → Int32 → Int32 → Int32 → Int32 → Prop), (∀ (H : Heap) (locs : List Loc) (ls : Array Slot) (I_p0 : Nat → Int32) (f_p0_file : Nat → Int32) (x6 : Int32) (x7 : Int32) (x8 : Int32) (x9 : Int32), va_P (dC, dI) vwCl [oM a_p0 A_p0 I_p0, gz cI (A_p0 0) 2000 f_p0_file, gz cI (A_p0 9) 2 f_p0_lengths, gz cI (A_p0 10) 24 f_p0_letters, gz cI (A_p0 21) 16 f_p0_places, gz cI (A_p0 22) 16 f_p0_sizes, gz cI (A_p0 8) 2 f_p0_tags] H → va_D A [oM a_p0 A_p0 I_p0, gz cI (A_p0 0) 2000 f_p0_file, gz cI (A_p0 9) 2 f_p0_lengths, gz cI (A_p0 10) 24 f_p0_letters, gz cI (A_p0 21) 16 f_p0_places, gz cI (A_p0 22) 16 f_p0_sizes, gz cI (A_p0 8) 2 f_p0_tags] → va_S A s.heap H locs → lv_has ls 12 [(0, .ref a_p0), (6, .int x6), (7, .int x7), (8, .int x8), (9, .int x9)] → k176 I_p0 f_p0_file x6 x7 x8 x9 → W p l e ({ frames := 4, cells := 0, slots := 0, locals := 95 } : Room) s m args below meth c H locs 0 0 Q (F0 m 176 ls [])) → ∀ (H : Heap) (locs : List Loc) (ls : Array Slot) (I_p0 : Nat → Int32) (f_p0_file : Nat → Int32) (x6 : Int32) (x7 : Int32) (x8 : Int32) (x9 : Int32) (s0 : Int32), va_P (dC, dI) vwCl [oM a_p0 A_p0 I_p0, gz cI (A_p0 0) 2000 f_p0_file, gz cI (A_p0 9) 2 f_p0_lengths, gz cI (A_p0 10) 24 f_p0_letters, gz cI (A_p0 21) 16 f_p0_places, gz cI (A_p0 22) 16 f_p0_sizes, gz cI (A_p0 8) 2 f_p0_tags] H → va_D A [oM a_p0 A_p0 I_p0, gz cI (A_p0 0) 2000 f_p0_file, gz cI (A_p0 9) 2 f_p0_lengths, gz cI (A_p0 10) 24 f_p0_letters, gz cI (A_p0 21) 16 f_p0_places, gz cI (A_p0 22) 16 f_p0_sizes, gz cI (A_p0 8) 2 f_p0_tags] → va_S A s.heap H locs → lv_has ls 12 [(0, .ref a_p0), (6, .int x6), (7, .int x7), (8, .int x8), (9, .int x9)] → wp_M_directory_b199 post k176 f_p0_lengths f_p0_letters f_p0_places f_p0_sizes f_p0_tags I_p0 f_p0_file x6 x7 x8 x9 s0 → W p l e ({ frames := 4, cells := 0, slots := 0, locals := 95 } : Room) s m args below meth c H locs 0 0 Q (F0 m 199 ls [.int s0]) := by
    intro k176 hk176 H locs ls I_p0 f_p0_file x6 x7 x8 x9 s0 hP hD hS hl hw
    unfold wp_M_directory_b199 at hw
    refine lv_istore (lv' := [(10, .int s0), (0, .ref a_p0), (6, .int x6), (7, .int x7), (8, .int x8), (9, .int x9)]) hx hb d_M_directory_199 hl (by decide) rfl (fun ls hl => ?_)
    refine lv_aload_n hx hb d_M_directory_201 rfl (lv_at hl 1 rfl) ?_
    refine lv_aload_n hx hb d_M_directory_202 rfl (lv_at hl 1 rfl) ?_
    refine va_get (D := (dC, dI)) (ci := 10) (v := .ref (A_p0 8)) (C := R_M) (T := T_M) (N := 30) hx hb hg in_M hown hK hP 0 rfl rfl 8 (by decide) (hg _ t_766) (fun _ h9 => h9) rfl d_M_directory_203 ?_
    refine lv_iload hx hb d_M_directory_206 (lv_at hl 0 rfl) ?_
    obtain ⟨hin, hw⟩ := hw
    refine va_iald hx hb hK hP 6 0 rfl rfl hin d_M_directory_208 ?_
    refine lv_iconst (v := 2) hx hb d_M_directory_209 (by decide) ?_
    refine lv_aload_n hx hb d_M_directory_210 rfl (lv_at hl 1 rfl) ?_
    refine va_get (D := (dC, dI)) (ci := 10) (v := .ref (A_p0 9)) (C := R_M) (T := T_M) (N := 30) hx hb hg in_M hown hK hP 0 rfl rfl 9 (by decide) (hg _ t_767) (fun _ h9 => h9) rfl d_M_directory_211 ?_
    refine lv_iload hx hb d_M_directory_214 (lv_at hl 0 rfl) ?_
    obtain ⟨hin, hw⟩ := hw
    refine va_iald hx hb hK hP 2 0 rfl rfl hin d_M_directory_216 ?_
    refine lv_iconst (v := 1) hx hb d_M_directory_217 (by decide) ?_
    refine lv_iadd hx hb d_M_directory_218 ?_
    refine gc_v (wn := fun u => [oM a_p0 A_p0 u.1, gz cI (A_p0 0) 2000 u.2, gz cI (A_p0 9) 2 f_p0_lengths, gz cI (A_p0 10) 24 f_p0_letters, gz cI (A_p0 21) 16 f_p0_places, gz cI (A_p0 22) 16 f_p0_sizes, gz cI (A_p0 8) 2 f_p0_tags]) (wr := [gz cI (A_p0 9) 2 f_p0_lengths, gz cI (A_p0 10) 24 f_p0_letters, gz cI (A_p0 21) 16 f_p0_places, gz cI (A_p0 22) 16 f_p0_sizes, gz cI (A_p0 8) 2 f_p0_tags]) (gr_V (As := [.int (f_p0_tags (s0).toNatClampNeg), .int 2, .int ((f_p0_lengths (s0).toNatClampNeg) + 1)]) (rest := []) ⟨hx, hb, hml, hown, hg⟩ (c_M_head l dC dI cI a_p0 A_p0 I_p0 f_p0_file (f_p0_tags (s0).toNatClampNeg) 2 ((f_p0_lengths (s0).toNatClampNeg) + 1) hw _) (cwV 3 hg (gg_V t_1012 t_1014 t_48 t_71 t_1015) rfl rfl rfl (by decide +kernel) ⟨Nat.le_of_ble_eq_true rfl, Nat.le_of_ble_eq_true rfl⟩) hK hN hP hD [0, 1] (by decide) rfl 0 10 rfl rfl rfl rfl hl.1 rfl (Nat.le_of_ble_eq_true rfl) d_M_directory_219 ⟨Nat.le_of_ble_eq_true rfl, Nat.le_of_ble_eq_true rfl⟩) rfl rfl hP hD hS hA [0, 1] [2, 3, 4, 5, 6] [5, 6, 0, 1, 2, 3, 4] rfl rfl (by decide) (by decide) (by decide) (fun _ => rfl) ?_
    intro u9 H locs hw hP hD hS
    obtain ⟨I_p0_219, f_p0_file_219⟩ := u9
    try dsimp only at hw
    have hP : va_P (dC, dI) vwCl [oM a_p0 A_p0 I_p0_219, gz cI (A_p0 0) 2000 f_p0_file_219, gz cI (A_p0 9) 2 f_p0_lengths, gz cI (A_p0 10) 24 f_p0_letters, gz cI (A_p0 21) 16 f_p0_places, gz cI (A_p0 22) 16 f_p0_sizes, gz cI (A_p0 8) 2 f_p0_tags] H := hP
    have hD : va_D A [oM a_p0 A_p0 I_p0_219, gz cI (A_p0 0) 2000 f_p0_file_219, gz cI (A_p0 9) 2 f_p0_lengths, gz cI (A_p0 10) 24 f_p0_letters, gz cI (A_p0 21) 16 f_p0_places, gz cI (A_p0 22) 16 f_p0_sizes, gz cI (A_p0 8) 2 f_p0_tags] := hD
    refine lv_aload_n hx hb d_M_directory_222 rfl (lv_at hl 1 rfl) ?_
    refine va_get (D := (dC, dI)) (ci := 10) (v := .ref (A_p0 9)) (C := R_M) (T := T_M) (N := 30) hx hb hg in_M hown hK hP 0 rfl rfl 9 (by decide) (hg _ t_767) (fun _ h9 => h9) rfl d_M_directory_223 ?_
    refine lv_iload hx hb d_M_directory_226 (lv_at hl 0 rfl) ?_
    obtain ⟨hin, hw⟩ := hw
    refine va_iald hx hb hK hP 2 0 rfl rfl hin d_M_directory_228 ?_
    refine lv_iconst (v := 3) hx hb d_M_directory_229 (by decide) ?_
    refine lv_icmp_le hx hb d_M_directory_230 rfl (fun hc => ?_) (fun hc => ?_)
    · have hw := hw.1 hc
      refine lv_aload_n hx hb d_M_directory_255 rfl (lv_at hl 1 rfl) ?_
      refine lv_iload hx hb d_M_directory_256 (lv_at hl 0 rfl) ?_
      refine gc_v (wn := fun u => [oM a_p0 A_p0 u.1, gz cI (A_p0 0) 2000 u.2, gz cI (A_p0 9) 2 f_p0_lengths, gz cI (A_p0 10) 24 f_p0_letters, gz cI (A_p0 21) 16 f_p0_places, gz cI (A_p0 22) 16 f_p0_sizes, gz cI (A_p0 8) 2 f_p0_tags]) (wr := [gz cI (A_p0 21) 16 f_p0_places, gz cI (A_p0 22) 16 f_p0_sizes, gz cI (A_p0 8) 2 f_p0_tags]) (gr_V (As := [.int s0]) (rest := []) ⟨hx, hb, hml, hown, hg⟩ (c_M_text l dC dI cI a_p0 A_p0 f_p0_lengths f_p0_letters I_p0_219 f_p0_file_219 s0 hw _) (cwV 1 hg (gg_V t_1000 t_1002 t_45 t_71 t_1003) rfl rfl rfl (by decide +kernel) ⟨Nat.le_of_ble_eq_true rfl, Nat.le_of_ble_eq_true rfl⟩) hK hN hP hD [0, 1, 2, 3] (by decide) rfl 0 10 rfl rfl rfl rfl hl.1 rfl (Nat.le_of_ble_eq_true rfl) d_M_directory_258 ⟨Nat.le_of_ble_eq_true rfl, Nat.le_of_ble_eq_true rfl⟩) rfl rfl hP hD hS hA [0, 1, 2, 3] [4, 5, 6] [3, 4, 5, 6, 0, 1, 2] rfl rfl (by decide) (by decide) (by decide) (fun _ => rfl) ?_
      intro u9 H locs hw hP hD hS
      obtain ⟨I_p0_258, f_p0_file_258⟩ := u9
      try dsimp only at hw
      have hP : va_P (dC, dI) vwCl [oM a_p0 A_p0 I_p0_258, gz cI (A_p0 0) 2000 f_p0_file_258, gz cI (A_p0 9) 2 f_p0_lengths, gz cI (A_p0 10) 24 f_p0_letters, gz cI (A_p0 21) 16 f_p0_places, gz cI (A_p0 22) 16 f_p0_sizes, gz cI (A_p0 8) 2 f_p0_tags] H := hP
      have hD : va_D A [oM a_p0 A_p0 I_p0_258, gz cI (A_p0 0) 2000 f_p0_file_258, gz cI (A_p0 9) 2 f_p0_lengths, gz cI (A_p0 10) 24 f_p0_letters, gz cI (A_p0 21) 16 f_p0_places, gz cI (A_p0 22) 16 f_p0_sizes, gz cI (A_p0 8) 2 f_p0_tags] := hD
      refine lv_aload_n hx hb d_M_directory_261 rfl (lv_at hl 1 rfl) ?_
      refine va_get (D := (dC, dI)) (ci := 10) (v := .ref (A_p0 9)) (C := R_M) (T := T_M) (N := 30) hx hb hg in_M hown hK hP 0 rfl rfl 9 (by decide) (hg _ t_767) (fun _ h9 => h9) rfl d_M_directory_262 ?_
      refine lv_iload hx hb d_M_directory_265 (lv_at hl 0 rfl) ?_
      obtain ⟨hin, hw⟩ := hw
      refine va_iald hx hb hK hP 2 0 rfl rfl hin d_M_directory_267 ?_
      refine lv_iconst (v := 1) hx hb d_M_directory_268 (by decide) ?_
      refine lv_iadd hx hb d_M_directory_269 ?_
      refine lv_istore (lv' := [(11, .int ((f_p0_lengths (s0).toNatClampNeg) + 1)), (10, .int s0), (0, .ref a_p0), (6, .int x6), (7, .int x7), (8, .int x8), (9, .int x9)]) hx hb d_M_directory_270 hl (by decide) rfl (fun ls hl => ?_)
      obtain ⟨n1, hw⟩ := hw
      exact l272 _ hk176 n1 _ _ _ I_p0_258 f_p0_file_258 x6 x7 x8 x9 ((f_p0_lengths (s0).toNatClampNeg) + 1) hP hD hS (lv_sub hl [2, 3, 4, 5, 6, 0] rfl) hw
    · have hw := hw.2 hc
      refine lv_aload_n hx hb d_M_directory_233 rfl (lv_at hl 1 rfl) ?_
      refine lv_iconst (v := 4) hx hb d_M_directory_234 (by decide) ?_
      refine lv_iload hx hb d_M_directory_235 (lv_at hl 0 rfl) ?_
      refine lv_if_ne hx hb d_M_directory_237 rfl (fun hc => ?_) (fun hc => ?_)
      · have hw := hw.2 hc
        refine lv_iload hx hb d_M_directory_246 (lv_at hl 3 rfl) ?_
        refine lv_i2l hx hb d_M_directory_248 rfl ?_
        exact b249 _ hk176 _ _ _ I_p0_219 f_p0_file_219 x6 x7 x8 x9 x7.toInt64 4 hP hD hS (lv_sub hl [1, 2, 3, 4, 5] rfl) hw
      · have hw := hw.1 hc
        refine lv_iload hx hb d_M_directory_240 (lv_at hl 2 rfl) ?_
        refine lv_i2l hx hb d_M_directory_242 rfl ?_
        refine lv_goto hx hb d_M_directory_243 rfl ?_
        exact b249 _ hk176 _ _ _ I_p0_219 f_p0_file_219 x6 x7 x8 x9 x6.toInt64 4 hP hD hS (lv_sub hl [1, 2, 3, 4, 5] rfl) hw
  have l176 : ∀ n : Nat, ∀ (H : Heap) (locs : List Loc) (ls : Array Slot) (I_p0 : Nat → Int32) (f_p0_file : Nat → Int32) (x6 : Int32) (x7 : Int32) (x8 : Int32) (x9 : Int32), va_P (dC, dI) vwCl [oM a_p0 A_p0 I_p0, gz cI (A_p0 0) 2000 f_p0_file, gz cI (A_p0 9) 2 f_p0_lengths, gz cI (A_p0 10) 24 f_p0_letters, gz cI (A_p0 21) 16 f_p0_places, gz cI (A_p0 22) 16 f_p0_sizes, gz cI (A_p0 8) 2 f_p0_tags] H → va_D A [oM a_p0 A_p0 I_p0, gz cI (A_p0 0) 2000 f_p0_file, gz cI (A_p0 9) 2 f_p0_lengths, gz cI (A_p0 10) 24 f_p0_letters, gz cI (A_p0 21) 16 f_p0_places, gz cI (A_p0 22) 16 f_p0_sizes, gz cI (A_p0 8) 2 f_p0_tags] → va_S A s.heap H locs → lv_has ls 12 [(0, .ref a_p0), (6, .int x6), (7, .int x7), (8, .int x8), (9, .int x9)] → wp_M_directory_l176 post f_p0_lengths f_p0_letters f_p0_places f_p0_sizes f_p0_tags n I_p0 f_p0_file x6 x7 x8 x9 → W p l e ({ frames := 4, cells := 0, slots := 0, locals := 95 } : Room) s m args below meth c H locs 0 0 Q (F0 m 176 ls []) := by
    intro n
    induction n with
    | zero => intro H locs ls I_p0 f_p0_file x6 x7 x8 x9 hP hD hS hl hw; exact hw.elim
    | succ n ih =>
      intro H locs ls I_p0 f_p0_file x6 x7 x8 x9 hP hD hS hl hw
      unfold wp_M_directory_l176 at hw
      refine lv_iload hx hb d_M_directory_176 (lv_at hl 4 rfl) ?_
      refine lv_aload_n hx hb d_M_directory_178 rfl (lv_at hl 0 rfl) ?_
      refine va_get (D := (dC, dI)) (ci := 10) (v := .int (I_p0 7)) (C := R_M) (T := T_M) (N := 30) hx hb hg in_M hown hK hP 0 rfl rfl 7 (by decide) (hg _ t_765) (fun _ h9 => h9) rfl d_M_directory_179 ?_
      refine lv_icmp_ge hx hb d_M_directory_182 rfl (fun hc => ?_) (fun hc => ?_)
      · have hw := hw.1 hc
        refine lv_aload_n hx hb d_M_directory_295 rfl (lv_at hl 0 rfl) ?_
        refine lv_iconst (v := 4) hx hb d_M_directory_296 (by decide) ?_
        refine lv_lconst (v := 0) hx hb d_M_directory_297 (by decide) ?_
        refine gc_v (wn := fun u => [oM a_p0 A_p0 u.1, gz cI (A_p0 0) 2000 u.2, gz cI (A_p0 9) 2 f_p0_lengths, gz cI (A_p0 10) 24 f_p0_letters, gz cI (A_p0 21) 16 f_p0_places, gz cI (A_p0 22) 16 f_p0_sizes, gz cI (A_p0 8) 2 f_p0_tags]) (wr := [gz cI (A_p0 9) 2 f_p0_lengths, gz cI (A_p0 10) 24 f_p0_letters, gz cI (A_p0 21) 16 f_p0_places, gz cI (A_p0 22) 16 f_p0_sizes, gz cI (A_p0 8) 2 f_p0_tags]) (gr_V (As := [.int 4, .long 0]) (rest := []) ⟨hx, hb, hml, hown, hg⟩ (c_M_number l dC dI cI a_p0 A_p0 I_p0 f_p0_file 4 0 hw _) (cwV 2 hg (gg_V t_992 t_994 t_43 t_71 t_995) rfl rfl rfl (by decide +kernel) ⟨Nat.le_of_ble_eq_true rfl, Nat.le_of_ble_eq_true rfl⟩) hK hN hP hD [0, 1] (by decide) rfl 0 10 rfl rfl rfl rfl hl.1 rfl (Nat.le_of_ble_eq_true rfl) d_M_directory_298 ⟨Nat.le_of_ble_eq_true rfl, Nat.le_of_ble_eq_true rfl⟩) rfl rfl hP hD hS hA [0, 1] [2, 3, 4, 5, 6] [5, 6, 0, 1, 2, 3, 4] rfl rfl (by decide) (by decide) (by decide) (fun _ => rfl) ?_
        intro u9 H locs hw hP hD hS
        obtain ⟨I_p0_298, f_p0_file_298⟩ := u9
        try dsimp only at hw
        have hP : va_P (dC, dI) vwCl [oM a_p0 A_p0 I_p0_298, gz cI (A_p0 0) 2000 f_p0_file_298, gz cI (A_p0 9) 2 f_p0_lengths, gz cI (A_p0 10) 24 f_p0_letters, gz cI (A_p0 21) 16 f_p0_places, gz cI (A_p0 22) 16 f_p0_sizes, gz cI (A_p0 8) 2 f_p0_tags] H := hP
        have hD : va_D A [oM a_p0 A_p0 I_p0_298, gz cI (A_p0 0) 2000 f_p0_file_298, gz cI (A_p0 9) 2 f_p0_lengths, gz cI (A_p0 10) 24 f_p0_letters, gz cI (A_p0 21) 16 f_p0_places, gz cI (A_p0 22) 16 f_p0_sizes, gz cI (A_p0 8) 2 f_p0_tags] := hD
        exact hret _ _ _ _ (I_p0_298, f_p0_file_298) d_M_directory_301 hP hD hS hw
      · have hw := hw.2 hc
        refine lv_iload hx hb d_M_directory_185 (lv_at hl 4 rfl) ?_
        refine lv_if_ne hx hb d_M_directory_187 rfl (fun hc => ?_) (fun hc => ?_)
        · have hw := hw.2 hc
          refine lv_iconst (v := 1) hx hb d_M_directory_195 (by decide) ?_
          refine lv_iload hx hb d_M_directory_196 (lv_at hl 3 rfl) ?_
          refine lv_isub hx hb d_M_directory_198 ?_
          exact b199 _ ih _ _ _ I_p0 f_p0_file x6 x7 x8 x9 (1 - x8) hP hD hS (lv_sub hl [0, 1, 2, 3, 4] rfl) hw
        · have hw := hw.1 hc
          refine lv_iload hx hb d_M_directory_190 (lv_at hl 3 rfl) ?_
          refine lv_goto hx hb d_M_directory_192 rfl ?_
          exact b199 _ ih _ _ _ I_p0 f_p0_file x6 x7 x8 x9 x8 hP hD hS (lv_sub hl [0, 1, 2, 3, 4] rfl) hw
  have b162 : ∀ (H : Heap) (locs : List Loc) (ls : Array Slot) (I_p0 : Nat → Int32) (f_p0_file : Nat → Int32) (x3 : Int32) (x6 : Int32) (x7 : Int32) (x8 : Int32) (s0 : Int64) (s1 : Int32), va_P (dC, dI) vwCl [oM a_p0 A_p0 I_p0, gz cI (A_p0 0) 2000 f_p0_file, gz cI (A_p0 9) 2 f_p0_lengths, gz cI (A_p0 10) 24 f_p0_letters, gz cI (A_p0 21) 16 f_p0_places, gz cI (A_p0 22) 16 f_p0_sizes, gz cI (A_p0 8) 2 f_p0_tags] H → va_D A [oM a_p0 A_p0 I_p0, gz cI (A_p0 0) 2000 f_p0_file, gz cI (A_p0 9) 2 f_p0_lengths, gz cI (A_p0 10) 24 f_p0_letters, gz cI (A_p0 21) 16 f_p0_places, gz cI (A_p0 22) 16 f_p0_sizes, gz cI (A_p0 8) 2 f_p0_tags] → va_S A s.heap H locs → lv_has ls 12 [(0, .ref a_p0), (3, .int x3), (6, .int x6), (7, .int x7), (8, .int x8)] → wp_M_directory_b162 post f_p0_lengths f_p0_letters f_p0_places f_p0_sizes f_p0_tags I_p0 f_p0_file x3 x6 x7 x8 s0 s1 → W p l e ({ frames := 4, cells := 0, slots := 0, locals := 95 } : Room) s m args below meth c H locs 0 0 Q (F0 m 162 ls [.long s0, .int s1, .ref a_p0]) := by
    intro H locs ls I_p0 f_p0_file x3 x6 x7 x8 s0 s1 hP hD hS hl hw
    unfold wp_M_directory_b162 at hw
    refine gc_v (wn := fun u => [oM a_p0 A_p0 u.1, gz cI (A_p0 0) 2000 u.2, gz cI (A_p0 9) 2 f_p0_lengths, gz cI (A_p0 10) 24 f_p0_letters, gz cI (A_p0 21) 16 f_p0_places, gz cI (A_p0 22) 16 f_p0_sizes, gz cI (A_p0 8) 2 f_p0_tags]) (wr := [gz cI (A_p0 9) 2 f_p0_lengths, gz cI (A_p0 10) 24 f_p0_letters, gz cI (A_p0 21) 16 f_p0_places, gz cI (A_p0 22) 16 f_p0_sizes, gz cI (A_p0 8) 2 f_p0_tags]) (gr_V (As := [.int s1, .long s0]) (rest := []) ⟨hx, hb, hml, hown, hg⟩ (c_M_number l dC dI cI a_p0 A_p0 I_p0 f_p0_file s1 s0 hw _) (cwV 2 hg (gg_V t_992 t_994 t_43 t_71 t_995) rfl rfl rfl (by decide +kernel) ⟨Nat.le_of_ble_eq_true rfl, Nat.le_of_ble_eq_true rfl⟩) hK hN hP hD [0, 1] (by decide) rfl 0 10 rfl rfl rfl rfl hl.1 rfl (Nat.le_of_ble_eq_true rfl) d_M_directory_162 ⟨Nat.le_of_ble_eq_true rfl, Nat.le_of_ble_eq_true rfl⟩) rfl rfl hP hD hS hA [0, 1] [2, 3, 4, 5, 6] [5, 6, 0, 1, 2, 3, 4] rfl rfl (by decide) (by decide) (by decide) (fun _ => rfl) ?_
    intro u9 H locs hw hP hD hS
    obtain ⟨I_p0_162, f_p0_file_162⟩ := u9
    try dsimp only at hw
    have hP : va_P (dC, dI) vwCl [oM a_p0 A_p0 I_p0_162, gz cI (A_p0 0) 2000 f_p0_file_162, gz cI (A_p0 9) 2 f_p0_lengths, gz cI (A_p0 10) 24 f_p0_letters, gz cI (A_p0 21) 16 f_p0_places, gz cI (A_p0 22) 16 f_p0_sizes, gz cI (A_p0 8) 2 f_p0_tags] H := hP
    have hD : va_D A [oM a_p0 A_p0 I_p0_162, gz cI (A_p0 0) 2000 f_p0_file_162, gz cI (A_p0 9) 2 f_p0_lengths, gz cI (A_p0 10) 24 f_p0_letters, gz cI (A_p0 21) 16 f_p0_places, gz cI (A_p0 22) 16 f_p0_sizes, gz cI (A_p0 8) 2 f_p0_tags] := hD
    refine lv_aload_n hx hb d_M_directory_165 rfl (lv_at hl 0 rfl) ?_
    refine lv_sipush (v := 317) hx hb d_M_directory_166 (by decide) ?_
    refine lv_iload_n hx hb d_M_directory_169 rfl (lv_at hl 1 rfl) ?_
    refine gc_v (wn := fun u => [oM a_p0 A_p0 u.1, gz cI (A_p0 0) 2000 u.2, gz cI (A_p0 9) 2 f_p0_lengths, gz cI (A_p0 10) 24 f_p0_letters, gz cI (A_p0 21) 16 f_p0_places, gz cI (A_p0 22) 16 f_p0_sizes, gz cI (A_p0 8) 2 f_p0_tags]) (wr := [gz cI (A_p0 9) 2 f_p0_lengths, gz cI (A_p0 10) 24 f_p0_letters, gz cI (A_p0 21) 16 f_p0_places, gz cI (A_p0 22) 16 f_p0_sizes, gz cI (A_p0 8) 2 f_p0_tags]) (gr_V (As := [.int 317, .int x3]) (rest := []) ⟨hx, hb, hml, hown, hg⟩ (c_M_small l dC dI cI a_p0 A_p0 I_p0_162 f_p0_file_162 317 x3 hw _) (cwV 2 hg (gg_V t_1008 t_1010 t_47 t_71 t_1011) rfl rfl rfl (by decide +kernel) ⟨Nat.le_of_ble_eq_true rfl, Nat.le_of_ble_eq_true rfl⟩) hK hN hP hD [0, 1] (by decide) rfl 0 10 rfl rfl rfl rfl hl.1 rfl (Nat.le_of_ble_eq_true rfl) d_M_directory_170 ⟨Nat.le_of_ble_eq_true rfl, Nat.le_of_ble_eq_true rfl⟩) rfl rfl hP hD hS hA [0, 1] [2, 3, 4, 5, 6] [5, 6, 0, 1, 2, 3, 4] rfl rfl (by decide) (by decide) (by decide) (fun _ => rfl) ?_
    intro u9 H locs hw hP hD hS
    obtain ⟨I_p0_170, f_p0_file_170⟩ := u9
    try dsimp only at hw
    have hP : va_P (dC, dI) vwCl [oM a_p0 A_p0 I_p0_170, gz cI (A_p0 0) 2000 f_p0_file_170, gz cI (A_p0 9) 2 f_p0_lengths, gz cI (A_p0 10) 24 f_p0_letters, gz cI (A_p0 21) 16 f_p0_places, gz cI (A_p0 22) 16 f_p0_sizes, gz cI (A_p0 8) 2 f_p0_tags] H := hP
    have hD : va_D A [oM a_p0 A_p0 I_p0_170, gz cI (A_p0 0) 2000 f_p0_file_170, gz cI (A_p0 9) 2 f_p0_lengths, gz cI (A_p0 10) 24 f_p0_letters, gz cI (A_p0 21) 16 f_p0_places, gz cI (A_p0 22) 16 f_p0_sizes, gz cI (A_p0 8) 2 f_p0_tags] := hD
    refine lv_iconst (v := 0) hx hb d_M_directory_173 (by decide) ?_
    refine lv_istore (lv' := [(9, .int 0), (0, .ref a_p0), (3, .int x3), (6, .int x6), (7, .int x7), (8, .int x8)]) hx hb d_M_directory_174 hl (by decide) rfl (fun ls hl => ?_)
    obtain ⟨n1, hw⟩ := hw
    exact l176 n1 _ _ _ I_p0_170 f_p0_file_170 x6 x7 x8 0 hP hD hS (lv_sub hl [1, 3, 4, 5, 0] rfl) hw
  have b115 : ∀ (H : Heap) (locs : List Loc) (ls : Array Slot) (I_p0 : Nat → Int32) (f_p0_file : Nat → Int32) (x2 : Int32) (x3 : Int32) (x4 : Int32) (x5 : Int32) (x6 : Int32) (x7 : Int32) (x8 : Int32) (s0 : Int64) (s1 : Int32), va_P (dC, dI) vwCl [oM a_p0 A_p0 I_p0, gz cI (A_p0 0) 2000 f_p0_file, gz cI (A_p0 9) 2 f_p0_lengths, gz cI (A_p0 10) 24 f_p0_letters, gz cI (A_p0 21) 16 f_p0_places, gz cI (A_p0 22) 16 f_p0_sizes, gz cI (A_p0 8) 2 f_p0_tags] H → va_D A [oM a_p0 A_p0 I_p0, gz cI (A_p0 0) 2000 f_p0_file, gz cI (A_p0 9) 2 f_p0_lengths, gz cI (A_p0 10) 24 f_p0_letters, gz cI (A_p0 21) 16 f_p0_places, gz cI (A_p0 22) 16 f_p0_sizes, gz cI (A_p0 8) 2 f_p0_tags] → va_S A s.heap H locs → lv_has ls 12 [(0, .ref a_p0), (2, .int x2), (3, .int x3), (4, .int x4), (5, .int x5), (6, .int x6), (7, .int x7), (8, .int x8)] → wp_M_directory_b115 post f_p0_lengths f_p0_letters f_p0_places f_p0_sizes f_p0_tags I_p0 f_p0_file x2 x3 x4 x5 x6 x7 x8 s0 s1 → W p l e ({ frames := 4, cells := 0, slots := 0, locals := 95 } : Room) s m args below meth c H locs 0 0 Q (F0 m 115 ls [.long s0, .int s1, .ref a_p0]) := by
    intro H locs ls I_p0 f_p0_file x2 x3 x4 x5 x6 x7 x8 s0 s1 hP hD hS hl hw
    unfold wp_M_directory_b115 at hw
    refine gc_v (wn := fun u => [oM a_p0 A_p0 u.1, gz cI (A_p0 0) 2000 u.2, gz cI (A_p0 9) 2 f_p0_lengths, gz cI (A_p0 10) 24 f_p0_letters, gz cI (A_p0 21) 16 f_p0_places, gz cI (A_p0 22) 16 f_p0_sizes, gz cI (A_p0 8) 2 f_p0_tags]) (wr := [gz cI (A_p0 9) 2 f_p0_lengths, gz cI (A_p0 10) 24 f_p0_letters, gz cI (A_p0 21) 16 f_p0_places, gz cI (A_p0 22) 16 f_p0_sizes, gz cI (A_p0 8) 2 f_p0_tags]) (gr_V (As := [.int s1, .long s0]) (rest := []) ⟨hx, hb, hml, hown, hg⟩ (c_M_number l dC dI cI a_p0 A_p0 I_p0 f_p0_file s1 s0 hw _) (cwV 2 hg (gg_V t_992 t_994 t_43 t_71 t_995) rfl rfl rfl (by decide +kernel) ⟨Nat.le_of_ble_eq_true rfl, Nat.le_of_ble_eq_true rfl⟩) hK hN hP hD [0, 1] (by decide) rfl 0 10 rfl rfl rfl rfl hl.1 rfl (Nat.le_of_ble_eq_true rfl) d_M_directory_115 ⟨Nat.le_of_ble_eq_true rfl, Nat.le_of_ble_eq_true rfl⟩) rfl rfl hP hD hS hA [0, 1] [2, 3, 4, 5, 6] [5, 6, 0, 1, 2, 3, 4] rfl rfl (by decide) (by decide) (by decide) (fun _ => rfl) ?_
    intro u9 H locs hw hP hD hS
    obtain ⟨I_p0_115, f_p0_file_115⟩ := u9
    try dsimp only at hw
    have hP : va_P (dC, dI) vwCl [oM a_p0 A_p0 I_p0_115, gz cI (A_p0 0) 2000 f_p0_file_115, gz cI (A_p0 9) 2 f_p0_lengths, gz cI (A_p0 10) 24 f_p0_letters, gz cI (A_p0 21) 16 f_p0_places, gz cI (A_p0 22) 16 f_p0_sizes, gz cI (A_p0 8) 2 f_p0_tags] H := hP
    have hD : va_D A [oM a_p0 A_p0 I_p0_115, gz cI (A_p0 0) 2000 f_p0_file_115, gz cI (A_p0 9) 2 f_p0_lengths, gz cI (A_p0 10) 24 f_p0_letters, gz cI (A_p0 21) 16 f_p0_places, gz cI (A_p0 22) 16 f_p0_sizes, gz cI (A_p0 8) 2 f_p0_tags] := hD
    refine lv_aload_n hx hb d_M_directory_118 rfl (lv_at hl 0 rfl) ?_
    refine lv_sipush (v := 278) hx hb d_M_directory_119 (by decide) ?_
    refine lv_iload_n hx hb d_M_directory_122 rfl (lv_at hl 1 rfl) ?_
    refine gc_v (wn := fun u => [oM a_p0 A_p0 u.1, gz cI (A_p0 0) 2000 u.2, gz cI (A_p0 9) 2 f_p0_lengths, gz cI (A_p0 10) 24 f_p0_letters, gz cI (A_p0 21) 16 f_p0_places, gz cI (A_p0 22) 16 f_p0_sizes, gz cI (A_p0 8) 2 f_p0_tags]) (wr := [gz cI (A_p0 9) 2 f_p0_lengths, gz cI (A_p0 10) 24 f_p0_letters, gz cI (A_p0 21) 16 f_p0_places, gz cI (A_p0 22) 16 f_p0_sizes, gz cI (A_p0 8) 2 f_p0_tags]) (gr_V (As := [.int 278, .int x2]) (rest := []) ⟨hx, hb, hml, hown, hg⟩ (c_M_small l dC dI cI a_p0 A_p0 I_p0_115 f_p0_file_115 278 x2 hw _) (cwV 2 hg (gg_V t_1008 t_1010 t_47 t_71 t_1011) rfl rfl rfl (by decide +kernel) ⟨Nat.le_of_ble_eq_true rfl, Nat.le_of_ble_eq_true rfl⟩) hK hN hP hD [0, 1] (by decide) rfl 0 10 rfl rfl rfl rfl hl.1 rfl (Nat.le_of_ble_eq_true rfl) d_M_directory_123 ⟨Nat.le_of_ble_eq_true rfl, Nat.le_of_ble_eq_true rfl⟩) rfl rfl hP hD hS hA [0, 1] [2, 3, 4, 5, 6] [5, 6, 0, 1, 2, 3, 4] rfl rfl (by decide) (by decide) (by decide) (fun _ => rfl) ?_
    intro u9 H locs hw hP hD hS
    obtain ⟨I_p0_123, f_p0_file_123⟩ := u9
    try dsimp only at hw
    have hP : va_P (dC, dI) vwCl [oM a_p0 A_p0 I_p0_123, gz cI (A_p0 0) 2000 f_p0_file_123, gz cI (A_p0 9) 2 f_p0_lengths, gz cI (A_p0 10) 24 f_p0_letters, gz cI (A_p0 21) 16 f_p0_places, gz cI (A_p0 22) 16 f_p0_sizes, gz cI (A_p0 8) 2 f_p0_tags] H := hP
    have hD : va_D A [oM a_p0 A_p0 I_p0_123, gz cI (A_p0 0) 2000 f_p0_file_123, gz cI (A_p0 9) 2 f_p0_lengths, gz cI (A_p0 10) 24 f_p0_letters, gz cI (A_p0 21) 16 f_p0_places, gz cI (A_p0 22) 16 f_p0_sizes, gz cI (A_p0 8) 2 f_p0_tags] := hD
    refine lv_aload_n hx hb d_M_directory_126 rfl (lv_at hl 0 rfl) ?_
    refine lv_sipush (v := 279) hx hb d_M_directory_127 (by decide) ?_
    refine lv_iconst (v := 4) hx hb d_M_directory_130 (by decide) ?_
    refine lv_iload hx hb d_M_directory_131 (lv_at hl 3 rfl) ?_
    refine gc_v (wn := fun u => [oM a_p0 A_p0 u.1, gz cI (A_p0 0) 2000 u.2, gz cI (A_p0 9) 2 f_p0_lengths, gz cI (A_p0 10) 24 f_p0_letters, gz cI (A_p0 21) 16 f_p0_places, gz cI (A_p0 22) 16 f_p0_sizes, gz cI (A_p0 8) 2 f_p0_tags]) (wr := [gz cI (A_p0 9) 2 f_p0_lengths, gz cI (A_p0 10) 24 f_p0_letters, gz cI (A_p0 21) 16 f_p0_places, gz cI (A_p0 22) 16 f_p0_sizes, gz cI (A_p0 8) 2 f_p0_tags]) (gr_V (As := [.int 279, .int 4, .int x4]) (rest := []) ⟨hx, hb, hml, hown, hg⟩ (c_M_head l dC dI cI a_p0 A_p0 I_p0_123 f_p0_file_123 279 4 x4 hw _) (cwV 3 hg (gg_V t_1012 t_1014 t_48 t_71 t_1015) rfl rfl rfl (by decide +kernel) ⟨Nat.le_of_ble_eq_true rfl, Nat.le_of_ble_eq_true rfl⟩) hK hN hP hD [0, 1] (by decide) rfl 0 10 rfl rfl rfl rfl hl.1 rfl (Nat.le_of_ble_eq_true rfl) d_M_directory_133 ⟨Nat.le_of_ble_eq_true rfl, Nat.le_of_ble_eq_true rfl⟩) rfl rfl hP hD hS hA [0, 1] [2, 3, 4, 5, 6] [5, 6, 0, 1, 2, 3, 4] rfl rfl (by decide) (by decide) (by decide) (fun _ => rfl) ?_
    intro u9 H locs hw hP hD hS
    obtain ⟨I_p0_133, f_p0_file_133⟩ := u9
    try dsimp only at hw
    have hP : va_P (dC, dI) vwCl [oM a_p0 A_p0 I_p0_133, gz cI (A_p0 0) 2000 f_p0_file_133, gz cI (A_p0 9) 2 f_p0_lengths, gz cI (A_p0 10) 24 f_p0_letters, gz cI (A_p0 21) 16 f_p0_places, gz cI (A_p0 22) 16 f_p0_sizes, gz cI (A_p0 8) 2 f_p0_tags] H := hP
    have hD : va_D A [oM a_p0 A_p0 I_p0_133, gz cI (A_p0 0) 2000 f_p0_file_133, gz cI (A_p0 9) 2 f_p0_lengths, gz cI (A_p0 10) 24 f_p0_letters, gz cI (A_p0 21) 16 f_p0_places, gz cI (A_p0 22) 16 f_p0_sizes, gz cI (A_p0 8) 2 f_p0_tags] := hD
    refine lv_aload_n hx hb d_M_directory_136 rfl (lv_at hl 0 rfl) ?_
    refine lv_iconst (v := 4) hx hb d_M_directory_137 (by decide) ?_
    refine lv_iload hx hb d_M_directory_138 (lv_at hl 3 rfl) ?_
    refine lv_iconst (v := 1) hx hb d_M_directory_140 (by decide) ?_
    refine lv_icmp_ne hx hb d_M_directory_141 rfl (fun hc => ?_) (fun hc => ?_)
    · have hw := hw.2 hc
      refine lv_iload hx hb d_M_directory_154 (lv_at hl 4 rfl) ?_
      refine lv_iconst (v := 4) hx hb d_M_directory_156 (by decide) ?_
      refine lv_iload hx hb d_M_directory_157 (lv_at hl 3 rfl) ?_
      refine lv_imul hx hb d_M_directory_159 ?_
      refine lv_iadd hx hb d_M_directory_160 ?_
      refine lv_i2l hx hb d_M_directory_161 rfl ?_
      exact b162 _ _ _ I_p0_133 f_p0_file_133 x3 x6 x7 x8 ((x5 + (4 * x4)).toInt64) 4 hP hD hS (lv_sub hl [0, 2, 5, 6, 7] rfl) hw
    · have hw := hw.1 hc
      refine lv_aload_n hx hb d_M_directory_144 rfl (lv_at hl 0 rfl) ?_
      refine va_get (D := (dC, dI)) (ci := 10) (v := .ref (A_p0 22)) (C := R_M) (T := T_M) (N := 30) hx hb hg in_M hown hK hP 0 rfl rfl 22 (by decide) (hg _ t_780) (fun _ h9 => h9) rfl d_M_directory_145 ?_
      refine lv_iconst (v := 0) hx hb d_M_directory_148 (by decide) ?_
      obtain ⟨hin, hw⟩ := hw
      refine va_iald hx hb hK hP 5 0 rfl rfl hin d_M_directory_149 ?_
      refine lv_i2l hx hb d_M_directory_150 rfl ?_
      refine lv_goto hx hb d_M_directory_151 rfl ?_
      exact b162 _ _ _ I_p0_133 f_p0_file_133 x3 x6 x7 x8 ((f_p0_sizes 0).toInt64) 4 hP hD hS (lv_sub hl [0, 2, 5, 6, 7] rfl) hw
  have b28 : ∀ (H : Heap) (locs : List Loc) (ls : Array Slot) (I_p0 : Nat → Int32) (f_p0_file : Nat → Int32) (x1 : Int32) (x2 : Int32) (x3 : Int32) (x4 : Int32) (x5 : Int32) (x6 : Int32) (x7 : Int32) (s0 : Int32), va_P (dC, dI) vwCl [oM a_p0 A_p0 I_p0, gz cI (A_p0 0) 2000 f_p0_file, gz cI (A_p0 9) 2 f_p0_lengths, gz cI (A_p0 10) 24 f_p0_letters, gz cI (A_p0 21) 16 f_p0_places, gz cI (A_p0 22) 16 f_p0_sizes, gz cI (A_p0 8) 2 f_p0_tags] H → va_D A [oM a_p0 A_p0 I_p0, gz cI (A_p0 0) 2000 f_p0_file, gz cI (A_p0 9) 2 f_p0_lengths, gz cI (A_p0 10) 24 f_p0_letters, gz cI (A_p0 21) 16 f_p0_places, gz cI (A_p0 22) 16 f_p0_sizes, gz cI (A_p0 8) 2 f_p0_tags] → va_S A s.heap H locs → lv_has ls 12 [(0, .ref a_p0), (1, .int x1), (2, .int x2), (3, .int x3), (4, .int x4), (5, .int x5), (6, .int x6), (7, .int x7)] → wp_M_directory_b28 post f_p0_lengths f_p0_letters f_p0_places f_p0_sizes f_p0_tags I_p0 f_p0_file x1 x2 x3 x4 x5 x6 x7 s0 → W p l e ({ frames := 4, cells := 0, slots := 0, locals := 95 } : Room) s m args below meth c H locs 0 0 Q (F0 m 28 ls [.int s0]) := by
    intro H locs ls I_p0 f_p0_file x1 x2 x3 x4 x5 x6 x7 s0 hP hD hS hl hw
    unfold wp_M_directory_b28 at hw
    refine lv_istore (lv' := [(8, .int s0), (0, .ref a_p0), (1, .int x1), (2, .int x2), (3, .int x3), (4, .int x4), (5, .int x5), (6, .int x6), (7, .int x7)]) hx hb d_M_directory_28 hl (by decide) rfl (fun ls hl => ?_)
    refine lv_aload_n hx hb d_M_directory_30 rfl (lv_at hl 1 rfl) ?_
    refine lv_iconst (v := 2) hx hb d_M_directory_31 (by decide) ?_
    refine lv_bipush (v := 8) hx hb d_M_directory_32 (by decide) ?_
    refine lv_aload_n hx hb d_M_directory_34 rfl (lv_at hl 1 rfl) ?_
    refine va_get (D := (dC, dI)) (ci := 10) (v := .int (I_p0 7)) (C := R_M) (T := T_M) (N := 30) hx hb hg in_M hown hK hP 0 rfl rfl 7 (by decide) (hg _ t_765) (fun _ h9 => h9) rfl d_M_directory_35 ?_
    refine lv_iadd hx hb d_M_directory_38 ?_
    refine lv_i2l hx hb d_M_directory_39 rfl ?_
    refine gc_v (wn := fun u => [oM a_p0 A_p0 u.1, gz cI (A_p0 0) 2000 u.2, gz cI (A_p0 9) 2 f_p0_lengths, gz cI (A_p0 10) 24 f_p0_letters, gz cI (A_p0 21) 16 f_p0_places, gz cI (A_p0 22) 16 f_p0_sizes, gz cI (A_p0 8) 2 f_p0_tags]) (wr := [gz cI (A_p0 9) 2 f_p0_lengths, gz cI (A_p0 10) 24 f_p0_letters, gz cI (A_p0 21) 16 f_p0_places, gz cI (A_p0 22) 16 f_p0_sizes, gz cI (A_p0 8) 2 f_p0_tags]) (gr_V (As := [.int 2, .long (8 + (I_p0 7)).toInt64]) (rest := []) ⟨hx, hb, hml, hown, hg⟩ (c_M_number l dC dI cI a_p0 A_p0 I_p0 f_p0_file 2 ((8 + (I_p0 7)).toInt64) hw _) (cwV 2 hg (gg_V t_992 t_994 t_43 t_71 t_995) rfl rfl rfl (by decide +kernel) ⟨Nat.le_of_ble_eq_true rfl, Nat.le_of_ble_eq_true rfl⟩) hK hN hP hD [0, 1] (by decide) rfl 0 10 rfl rfl rfl rfl hl.1 rfl (Nat.le_of_ble_eq_true rfl) d_M_directory_40 ⟨Nat.le_of_ble_eq_true rfl, Nat.le_of_ble_eq_true rfl⟩) rfl rfl hP hD hS hA [0, 1] [2, 3, 4, 5, 6] [5, 6, 0, 1, 2, 3, 4] rfl rfl (by decide) (by decide) (by decide) (fun _ => rfl) ?_
    intro u9 H locs hw hP hD hS
    obtain ⟨I_p0_40, f_p0_file_40⟩ := u9
    try dsimp only at hw
    have hP : va_P (dC, dI) vwCl [oM a_p0 A_p0 I_p0_40, gz cI (A_p0 0) 2000 f_p0_file_40, gz cI (A_p0 9) 2 f_p0_lengths, gz cI (A_p0 10) 24 f_p0_letters, gz cI (A_p0 21) 16 f_p0_places, gz cI (A_p0 22) 16 f_p0_sizes, gz cI (A_p0 8) 2 f_p0_tags] H := hP
    have hD : va_D A [oM a_p0 A_p0 I_p0_40, gz cI (A_p0 0) 2000 f_p0_file_40, gz cI (A_p0 9) 2 f_p0_lengths, gz cI (A_p0 10) 24 f_p0_letters, gz cI (A_p0 21) 16 f_p0_places, gz cI (A_p0 22) 16 f_p0_sizes, gz cI (A_p0 8) 2 f_p0_tags] := hD
    refine lv_aload_n hx hb d_M_directory_43 rfl (lv_at hl 1 rfl) ?_
    refine lv_sipush (v := 256) hx hb d_M_directory_44 (by decide) ?_
    refine lv_aload_n hx hb d_M_directory_47 rfl (lv_at hl 1 rfl) ?_
    refine va_get (D := (dC, dI)) (ci := 10) (v := .int (I_p0_40 3)) (C := R_M) (T := T_M) (N := 30) hx hb hg in_M hown hK hP 0 rfl rfl 3 (by decide) (hg _ t_761) (fun _ h9 => h9) rfl d_M_directory_48 ?_
    refine gc_v (wn := fun u => [oM a_p0 A_p0 u.1, gz cI (A_p0 0) 2000 u.2, gz cI (A_p0 9) 2 f_p0_lengths, gz cI (A_p0 10) 24 f_p0_letters, gz cI (A_p0 21) 16 f_p0_places, gz cI (A_p0 22) 16 f_p0_sizes, gz cI (A_p0 8) 2 f_p0_tags]) (wr := [gz cI (A_p0 9) 2 f_p0_lengths, gz cI (A_p0 10) 24 f_p0_letters, gz cI (A_p0 21) 16 f_p0_places, gz cI (A_p0 22) 16 f_p0_sizes, gz cI (A_p0 8) 2 f_p0_tags]) (gr_V (As := [.int 256, .int (I_p0_40 3)]) (rest := []) ⟨hx, hb, hml, hown, hg⟩ (c_M_small l dC dI cI a_p0 A_p0 I_p0_40 f_p0_file_40 256 (I_p0_40 3) hw _) (cwV 2 hg (gg_V t_1008 t_1010 t_47 t_71 t_1011) rfl rfl rfl (by decide +kernel) ⟨Nat.le_of_ble_eq_true rfl, Nat.le_of_ble_eq_true rfl⟩) hK hN hP hD [0, 1] (by decide) rfl 0 10 rfl rfl rfl rfl hl.1 rfl (Nat.le_of_ble_eq_true rfl) d_M_directory_51 ⟨Nat.le_of_ble_eq_true rfl, Nat.le_of_ble_eq_true rfl⟩) rfl rfl hP hD hS hA [0, 1] [2, 3, 4, 5, 6] [5, 6, 0, 1, 2, 3, 4] rfl rfl (by decide) (by decide) (by decide) (fun _ => rfl) ?_
    intro u9 H locs hw hP hD hS
    obtain ⟨I_p0_51, f_p0_file_51⟩ := u9
    try dsimp only at hw
    have hP : va_P (dC, dI) vwCl [oM a_p0 A_p0 I_p0_51, gz cI (A_p0 0) 2000 f_p0_file_51, gz cI (A_p0 9) 2 f_p0_lengths, gz cI (A_p0 10) 24 f_p0_letters, gz cI (A_p0 21) 16 f_p0_places, gz cI (A_p0 22) 16 f_p0_sizes, gz cI (A_p0 8) 2 f_p0_tags] H := hP
    have hD : va_D A [oM a_p0 A_p0 I_p0_51, gz cI (A_p0 0) 2000 f_p0_file_51, gz cI (A_p0 9) 2 f_p0_lengths, gz cI (A_p0 10) 24 f_p0_letters, gz cI (A_p0 21) 16 f_p0_places, gz cI (A_p0 22) 16 f_p0_sizes, gz cI (A_p0 8) 2 f_p0_tags] := hD
    refine lv_aload_n hx hb d_M_directory_54 rfl (lv_at hl 1 rfl) ?_
    refine lv_sipush (v := 257) hx hb d_M_directory_55 (by decide) ?_
    refine lv_aload_n hx hb d_M_directory_58 rfl (lv_at hl 1 rfl) ?_
    refine va_get (D := (dC, dI)) (ci := 10) (v := .int (I_p0_51 4)) (C := R_M) (T := T_M) (N := 30) hx hb hg in_M hown hK hP 0 rfl rfl 4 (by decide) (hg _ t_762) (fun _ h9 => h9) rfl d_M_directory_59 ?_
    refine gc_v (wn := fun u => [oM a_p0 A_p0 u.1, gz cI (A_p0 0) 2000 u.2, gz cI (A_p0 9) 2 f_p0_lengths, gz cI (A_p0 10) 24 f_p0_letters, gz cI (A_p0 21) 16 f_p0_places, gz cI (A_p0 22) 16 f_p0_sizes, gz cI (A_p0 8) 2 f_p0_tags]) (wr := [gz cI (A_p0 9) 2 f_p0_lengths, gz cI (A_p0 10) 24 f_p0_letters, gz cI (A_p0 21) 16 f_p0_places, gz cI (A_p0 22) 16 f_p0_sizes, gz cI (A_p0 8) 2 f_p0_tags]) (gr_V (As := [.int 257, .int (I_p0_51 4)]) (rest := []) ⟨hx, hb, hml, hown, hg⟩ (c_M_small l dC dI cI a_p0 A_p0 I_p0_51 f_p0_file_51 257 (I_p0_51 4) hw _) (cwV 2 hg (gg_V t_1008 t_1010 t_47 t_71 t_1011) rfl rfl rfl (by decide +kernel) ⟨Nat.le_of_ble_eq_true rfl, Nat.le_of_ble_eq_true rfl⟩) hK hN hP hD [0, 1] (by decide) rfl 0 10 rfl rfl rfl rfl hl.1 rfl (Nat.le_of_ble_eq_true rfl) d_M_directory_62 ⟨Nat.le_of_ble_eq_true rfl, Nat.le_of_ble_eq_true rfl⟩) rfl rfl hP hD hS hA [0, 1] [2, 3, 4, 5, 6] [5, 6, 0, 1, 2, 3, 4] rfl rfl (by decide) (by decide) (by decide) (fun _ => rfl) ?_
    intro u9 H locs hw hP hD hS
    obtain ⟨I_p0_62, f_p0_file_62⟩ := u9
    try dsimp only at hw
    have hP : va_P (dC, dI) vwCl [oM a_p0 A_p0 I_p0_62, gz cI (A_p0 0) 2000 f_p0_file_62, gz cI (A_p0 9) 2 f_p0_lengths, gz cI (A_p0 10) 24 f_p0_letters, gz cI (A_p0 21) 16 f_p0_places, gz cI (A_p0 22) 16 f_p0_sizes, gz cI (A_p0 8) 2 f_p0_tags] H := hP
    have hD : va_D A [oM a_p0 A_p0 I_p0_62, gz cI (A_p0 0) 2000 f_p0_file_62, gz cI (A_p0 9) 2 f_p0_lengths, gz cI (A_p0 10) 24 f_p0_letters, gz cI (A_p0 21) 16 f_p0_places, gz cI (A_p0 22) 16 f_p0_sizes, gz cI (A_p0 8) 2 f_p0_tags] := hD
    refine lv_aload_n hx hb d_M_directory_65 rfl (lv_at hl 1 rfl) ?_
    refine lv_sipush (v := 258) hx hb d_M_directory_66 (by decide) ?_
    refine lv_aload_n hx hb d_M_directory_69 rfl (lv_at hl 1 rfl) ?_
    refine va_get (D := (dC, dI)) (ci := 10) (v := .int (I_p0_62 5)) (C := R_M) (T := T_M) (N := 30) hx hb hg in_M hown hK hP 0 rfl rfl 5 (by decide) (hg _ t_763) (fun _ h9 => h9) rfl d_M_directory_70 ?_
    refine gc_v (wn := fun u => [oM a_p0 A_p0 u.1, gz cI (A_p0 0) 2000 u.2, gz cI (A_p0 9) 2 f_p0_lengths, gz cI (A_p0 10) 24 f_p0_letters, gz cI (A_p0 21) 16 f_p0_places, gz cI (A_p0 22) 16 f_p0_sizes, gz cI (A_p0 8) 2 f_p0_tags]) (wr := [gz cI (A_p0 9) 2 f_p0_lengths, gz cI (A_p0 10) 24 f_p0_letters, gz cI (A_p0 21) 16 f_p0_places, gz cI (A_p0 22) 16 f_p0_sizes, gz cI (A_p0 8) 2 f_p0_tags]) (gr_V (As := [.int 258, .int (I_p0_62 5)]) (rest := []) ⟨hx, hb, hml, hown, hg⟩ (c_M_small l dC dI cI a_p0 A_p0 I_p0_62 f_p0_file_62 258 (I_p0_62 5) hw _) (cwV 2 hg (gg_V t_1008 t_1010 t_47 t_71 t_1011) rfl rfl rfl (by decide +kernel) ⟨Nat.le_of_ble_eq_true rfl, Nat.le_of_ble_eq_true rfl⟩) hK hN hP hD [0, 1] (by decide) rfl 0 10 rfl rfl rfl rfl hl.1 rfl (Nat.le_of_ble_eq_true rfl) d_M_directory_73 ⟨Nat.le_of_ble_eq_true rfl, Nat.le_of_ble_eq_true rfl⟩) rfl rfl hP hD hS hA [0, 1] [2, 3, 4, 5, 6] [5, 6, 0, 1, 2, 3, 4] rfl rfl (by decide) (by decide) (by decide) (fun _ => rfl) ?_
    intro u9 H locs hw hP hD hS
    obtain ⟨I_p0_73, f_p0_file_73⟩ := u9
    try dsimp only at hw
    have hP : va_P (dC, dI) vwCl [oM a_p0 A_p0 I_p0_73, gz cI (A_p0 0) 2000 f_p0_file_73, gz cI (A_p0 9) 2 f_p0_lengths, gz cI (A_p0 10) 24 f_p0_letters, gz cI (A_p0 21) 16 f_p0_places, gz cI (A_p0 22) 16 f_p0_sizes, gz cI (A_p0 8) 2 f_p0_tags] H := hP
    have hD : va_D A [oM a_p0 A_p0 I_p0_73, gz cI (A_p0 0) 2000 f_p0_file_73, gz cI (A_p0 9) 2 f_p0_lengths, gz cI (A_p0 10) 24 f_p0_letters, gz cI (A_p0 21) 16 f_p0_places, gz cI (A_p0 22) 16 f_p0_sizes, gz cI (A_p0 8) 2 f_p0_tags] := hD
    refine lv_aload_n hx hb d_M_directory_76 rfl (lv_at hl 1 rfl) ?_
    refine lv_sipush (v := 259) hx hb d_M_directory_77 (by decide) ?_
    refine lv_iload_n hx hb d_M_directory_80 rfl (lv_at hl 2 rfl) ?_
    refine gc_v (wn := fun u => [oM a_p0 A_p0 u.1, gz cI (A_p0 0) 2000 u.2, gz cI (A_p0 9) 2 f_p0_lengths, gz cI (A_p0 10) 24 f_p0_letters, gz cI (A_p0 21) 16 f_p0_places, gz cI (A_p0 22) 16 f_p0_sizes, gz cI (A_p0 8) 2 f_p0_tags]) (wr := [gz cI (A_p0 9) 2 f_p0_lengths, gz cI (A_p0 10) 24 f_p0_letters, gz cI (A_p0 21) 16 f_p0_places, gz cI (A_p0 22) 16 f_p0_sizes, gz cI (A_p0 8) 2 f_p0_tags]) (gr_V (As := [.int 259, .int x1]) (rest := []) ⟨hx, hb, hml, hown, hg⟩ (c_M_small l dC dI cI a_p0 A_p0 I_p0_73 f_p0_file_73 259 x1 hw _) (cwV 2 hg (gg_V t_1008 t_1010 t_47 t_71 t_1011) rfl rfl rfl (by decide +kernel) ⟨Nat.le_of_ble_eq_true rfl, Nat.le_of_ble_eq_true rfl⟩) hK hN hP hD [0, 1] (by decide) rfl 0 10 rfl rfl rfl rfl hl.1 rfl (Nat.le_of_ble_eq_true rfl) d_M_directory_81 ⟨Nat.le_of_ble_eq_true rfl, Nat.le_of_ble_eq_true rfl⟩) rfl rfl hP hD hS hA [0, 1] [2, 3, 4, 5, 6] [5, 6, 0, 1, 2, 3, 4] rfl rfl (by decide) (by decide) (by decide) (fun _ => rfl) ?_
    intro u9 H locs hw hP hD hS
    obtain ⟨I_p0_81, f_p0_file_81⟩ := u9
    try dsimp only at hw
    have hP : va_P (dC, dI) vwCl [oM a_p0 A_p0 I_p0_81, gz cI (A_p0 0) 2000 f_p0_file_81, gz cI (A_p0 9) 2 f_p0_lengths, gz cI (A_p0 10) 24 f_p0_letters, gz cI (A_p0 21) 16 f_p0_places, gz cI (A_p0 22) 16 f_p0_sizes, gz cI (A_p0 8) 2 f_p0_tags] H := hP
    have hD : va_D A [oM a_p0 A_p0 I_p0_81, gz cI (A_p0 0) 2000 f_p0_file_81, gz cI (A_p0 9) 2 f_p0_lengths, gz cI (A_p0 10) 24 f_p0_letters, gz cI (A_p0 21) 16 f_p0_places, gz cI (A_p0 22) 16 f_p0_sizes, gz cI (A_p0 8) 2 f_p0_tags] := hD
    refine lv_aload_n hx hb d_M_directory_84 rfl (lv_at hl 1 rfl) ?_
    refine lv_sipush (v := 273) hx hb d_M_directory_85 (by decide) ?_
    refine lv_iconst (v := 4) hx hb d_M_directory_88 (by decide) ?_
    refine lv_iload hx hb d_M_directory_89 (lv_at hl 5 rfl) ?_
    refine gc_v (wn := fun u => [oM a_p0 A_p0 u.1, gz cI (A_p0 0) 2000 u.2, gz cI (A_p0 9) 2 f_p0_lengths, gz cI (A_p0 10) 24 f_p0_letters, gz cI (A_p0 21) 16 f_p0_places, gz cI (A_p0 22) 16 f_p0_sizes, gz cI (A_p0 8) 2 f_p0_tags]) (wr := [gz cI (A_p0 9) 2 f_p0_lengths, gz cI (A_p0 10) 24 f_p0_letters, gz cI (A_p0 21) 16 f_p0_places, gz cI (A_p0 22) 16 f_p0_sizes, gz cI (A_p0 8) 2 f_p0_tags]) (gr_V (As := [.int 273, .int 4, .int x4]) (rest := []) ⟨hx, hb, hml, hown, hg⟩ (c_M_head l dC dI cI a_p0 A_p0 I_p0_81 f_p0_file_81 273 4 x4 hw _) (cwV 3 hg (gg_V t_1012 t_1014 t_48 t_71 t_1015) rfl rfl rfl (by decide +kernel) ⟨Nat.le_of_ble_eq_true rfl, Nat.le_of_ble_eq_true rfl⟩) hK hN hP hD [0, 1] (by decide) rfl 0 10 rfl rfl rfl rfl hl.1 rfl (Nat.le_of_ble_eq_true rfl) d_M_directory_91 ⟨Nat.le_of_ble_eq_true rfl, Nat.le_of_ble_eq_true rfl⟩) rfl rfl hP hD hS hA [0, 1] [2, 3, 4, 5, 6] [5, 6, 0, 1, 2, 3, 4] rfl rfl (by decide) (by decide) (by decide) (fun _ => rfl) ?_
    intro u9 H locs hw hP hD hS
    obtain ⟨I_p0_91, f_p0_file_91⟩ := u9
    try dsimp only at hw
    have hP : va_P (dC, dI) vwCl [oM a_p0 A_p0 I_p0_91, gz cI (A_p0 0) 2000 f_p0_file_91, gz cI (A_p0 9) 2 f_p0_lengths, gz cI (A_p0 10) 24 f_p0_letters, gz cI (A_p0 21) 16 f_p0_places, gz cI (A_p0 22) 16 f_p0_sizes, gz cI (A_p0 8) 2 f_p0_tags] H := hP
    have hD : va_D A [oM a_p0 A_p0 I_p0_91, gz cI (A_p0 0) 2000 f_p0_file_91, gz cI (A_p0 9) 2 f_p0_lengths, gz cI (A_p0 10) 24 f_p0_letters, gz cI (A_p0 21) 16 f_p0_places, gz cI (A_p0 22) 16 f_p0_sizes, gz cI (A_p0 8) 2 f_p0_tags] := hD
    refine lv_aload_n hx hb d_M_directory_94 rfl (lv_at hl 1 rfl) ?_
    refine lv_iconst (v := 4) hx hb d_M_directory_95 (by decide) ?_
    refine lv_iload hx hb d_M_directory_96 (lv_at hl 5 rfl) ?_
    refine lv_iconst (v := 1) hx hb d_M_directory_98 (by decide) ?_
    refine lv_icmp_ne hx hb d_M_directory_99 rfl (fun hc => ?_) (fun hc => ?_)
    · have hw := hw.2 hc
      refine lv_iload hx hb d_M_directory_112 (lv_at hl 6 rfl) ?_
      refine lv_i2l hx hb d_M_directory_114 rfl ?_
      exact b115 _ _ _ I_p0_91 f_p0_file_91 x2 x3 x4 x5 x6 x7 s0 x5.toInt64 4 hP hD hS (lv_sub hl [1, 3, 4, 5, 6, 7, 8, 0] rfl) hw
    · have hw := hw.1 hc
      refine lv_aload_n hx hb d_M_directory_102 rfl (lv_at hl 1 rfl) ?_
      refine va_get (D := (dC, dI)) (ci := 10) (v := .ref (A_p0 21)) (C := R_M) (T := T_M) (N := 30) hx hb hg in_M hown hK hP 0 rfl rfl 21 (by decide) (hg _ t_779) (fun _ h9 => h9) rfl d_M_directory_103 ?_
      refine lv_iconst (v := 0) hx hb d_M_directory_106 (by decide) ?_
      obtain ⟨hin, hw⟩ := hw
      refine va_iald hx hb hK hP 4 0 rfl rfl hin d_M_directory_107 ?_
      refine lv_i2l hx hb d_M_directory_108 rfl ?_
      refine lv_goto hx hb d_M_directory_109 rfl ?_
      exact b115 _ _ _ I_p0_91 f_p0_file_91 x2 x3 x4 x5 x6 x7 s0 ((f_p0_places 0).toInt64) 4 hP hD hS (lv_sub hl [1, 3, 4, 5, 6, 7, 8, 0] rfl) hw
  have b27 : ∀ (H : Heap) (locs : List Loc) (ls : Array Slot) (I_p0 : Nat → Int32) (f_p0_file : Nat → Int32) (x1 : Int32) (x2 : Int32) (x3 : Int32) (x4 : Int32) (x5 : Int32) (x6 : Int32) (x7 : Int32), va_P (dC, dI) vwCl [oM a_p0 A_p0 I_p0, gz cI (A_p0 0) 2000 f_p0_file, gz cI (A_p0 9) 2 f_p0_lengths, gz cI (A_p0 10) 24 f_p0_letters, gz cI (A_p0 21) 16 f_p0_places, gz cI (A_p0 22) 16 f_p0_sizes, gz cI (A_p0 8) 2 f_p0_tags] H → va_D A [oM a_p0 A_p0 I_p0, gz cI (A_p0 0) 2000 f_p0_file, gz cI (A_p0 9) 2 f_p0_lengths, gz cI (A_p0 10) 24 f_p0_letters, gz cI (A_p0 21) 16 f_p0_places, gz cI (A_p0 22) 16 f_p0_sizes, gz cI (A_p0 8) 2 f_p0_tags] → va_S A s.heap H locs → lv_has ls 12 [(0, .ref a_p0), (1, .int x1), (2, .int x2), (3, .int x3), (4, .int x4), (5, .int x5), (6, .int x6), (7, .int x7)] → wp_M_directory_b27 post f_p0_lengths f_p0_letters f_p0_places f_p0_sizes f_p0_tags I_p0 f_p0_file x1 x2 x3 x4 x5 x6 x7 → W p l e ({ frames := 4, cells := 0, slots := 0, locals := 95 } : Room) s m args below meth c H locs 0 0 Q (F0 m 27 ls []) := by
    intro H locs ls I_p0 f_p0_file x1 x2 x3 x4 x5 x6 x7 hP hD hS hl hw
    unfold wp_M_directory_b27 at hw
    refine lv_iconst (v := 0) hx hb d_M_directory_27 (by decide) ?_
    exact b28 _ _ _ I_p0 f_p0_file x1 x2 x3 x4 x5 x6 x7 0 hP hD hS (lv_sub hl [0, 1, 2, 3, 4, 5, 6, 7] rfl) hw
  intro ls hl hP hD hS
  have hl : lv_has ls 12 [(0, .ref a_p0), (1, .int x1), (2, .int x2), (3, .int x3), (4, .int x4), (5, .int x5), (6, .int x6), (7, .int x7)] := hl
  unfold wp_M_directory at hw
  refine lv_aload_n hx hb d_M_directory_0 rfl (lv_at hl 0 rfl) ?_
  refine va_get (D := (dC, dI)) (ci := 10) (v := .int (I_p0 7)) (C := R_M) (T := T_M) (N := 30) hx hb hg in_M hown hK hP 0 rfl rfl 7 (by decide) (hg _ t_765) (fun _ h9 => h9) rfl d_M_directory_1 ?_
  refine lv_iconst (v := 2) hx hb d_M_directory_4 (by decide) ?_
  refine lv_icmp_ne hx hb d_M_directory_5 rfl (fun hc => ?_) (fun hc => ?_)
  · have hw := hw.2 hc
    exact b27 _ _ _ I_p0 f_p0_file x1 x2 x3 x4 x5 x6 x7 hP hD hS (lv_sub hl [0, 1, 2, 3, 4, 5, 6, 7] rfl) hw
  · have hw := hw.1 hc
    refine lv_aload_n hx hb d_M_directory_8 rfl (lv_at hl 0 rfl) ?_
    refine va_get (D := (dC, dI)) (ci := 10) (v := .ref (A_p0 8)) (C := R_M) (T := T_M) (N := 30) hx hb hg in_M hown hK hP 0 rfl rfl 8 (by decide) (hg _ t_766) (fun _ h9 => h9) rfl d_M_directory_9 ?_
    refine lv_iconst (v := 1) hx hb d_M_directory_12 (by decide) ?_
    obtain ⟨hin, hw⟩ := hw
    refine va_iald hx hb hK hP 6 0 rfl rfl hin d_M_directory_13 ?_
    refine lv_aload_n hx hb d_M_directory_14 rfl (lv_at hl 0 rfl) ?_
    refine va_get (D := (dC, dI)) (ci := 10) (v := .ref (A_p0 8)) (C := R_M) (T := T_M) (N := 30) hx hb hg in_M hown hK hP 0 rfl rfl 8 (by decide) (hg _ t_766) (fun _ h9 => h9) rfl d_M_directory_15 ?_
    refine lv_iconst (v := 0) hx hb d_M_directory_18 (by decide) ?_
    obtain ⟨hin, hw⟩ := hw
    refine va_iald hx hb hK hP 6 0 rfl rfl hin d_M_directory_19 ?_
    refine lv_icmp_ge hx hb d_M_directory_20 rfl (fun hc => ?_) (fun hc => ?_)
    · have hw := hw.1 hc
      exact b27 _ _ _ I_p0 f_p0_file x1 x2 x3 x4 x5 x6 x7 hP hD hS (lv_sub hl [0, 1, 2, 3, 4, 5, 6, 7] rfl) hw
    · have hw := hw.2 hc
      refine lv_iconst (v := 1) hx hb d_M_directory_23 (by decide) ?_
      refine lv_goto hx hb d_M_directory_24 rfl ?_
      exact b28 _ _ _ I_p0 f_p0_file x1 x2 x3 x4 x5 x6 x7 1 hP hD hS (lv_sub hl [0, 1, 2, 3, 4, 5, 6, 7] rfl) hw
theorem d_M_read_0 : decode b_M_read 0 = .ok (.lconst 0, 1) := by decide +kernel
theorem d_M_read_1 : decode b_M_read 1 = .ok (.lstore_n 3, 1) := by decide +kernel
theorem d_M_read_2 : decode b_M_read 2 = .ok (.iconst 0, 1) := by decide +kernel
theorem d_M_read_3 : decode b_M_read 3 = .ok (.istore 5, 2) := by decide +kernel
theorem d_M_read_5 : decode b_M_read 5 = .ok (.iload 5, 2) := by decide +kernel
theorem d_M_read_7 : decode b_M_read 7 = .ok (.iload_n 2, 1) := by decide +kernel
theorem d_M_read_8 : decode b_M_read 8 = .ok (.if_icmp .ge 48, 3) := by decide +kernel
theorem d_M_read_11 : decode b_M_read 11 = .ok (.ldc2_w 72, 3) := by decide +kernel
theorem d_M_read_14 : decode b_M_read 14 = .ok (.lload_n 3, 1) := by decide +kernel
theorem d_M_read_15 : decode b_M_read 15 = .ok (.lmul, 1) := by decide +kernel
theorem d_M_read_16 : decode b_M_read 16 = .ok (.aload_n 0, 1) := by decide +kernel
theorem d_M_read_17 : decode b_M_read 17 = .ok (.getfield 7, 3) := by decide +kernel
theorem d_M_read_20 : decode b_M_read 20 = .ok (.aload_n 0, 1) := by decide +kernel
theorem d_M_read_21 : decode b_M_read 21 = .ok (.getfield 7, 3) := by decide +kernel
theorem d_M_read_24 : decode b_M_read 24 = .ok (.iconst 0, 1) := by decide +kernel
theorem d_M_read_25 : decode b_M_read 25 = .ok (.iaload, 1) := by decide +kernel
theorem d_M_read_26 : decode b_M_read 26 = .ok (.bipush 77, 2) := by decide +kernel
theorem d_M_read_28 : decode b_M_read 28 = .ok (.if_icmp .ne 10, 3) := by decide +kernel
theorem d_M_read_31 : decode b_M_read 31 = .ok (.iload_n 1, 1) := by decide +kernel
theorem d_M_read_32 : decode b_M_read 32 = .ok (.iload 5, 2) := by decide +kernel
theorem d_M_read_34 : decode b_M_read 34 = .ok (.iadd, 1) := by decide +kernel
theorem d_M_read_35 : decode b_M_read 35 = .ok (.goto 11, 3) := by decide +kernel
theorem d_M_read_38 : decode b_M_read 38 = .ok (.iload_n 1, 1) := by decide +kernel
theorem d_M_read_39 : decode b_M_read 39 = .ok (.iload_n 2, 1) := by decide +kernel
theorem d_M_read_40 : decode b_M_read 40 = .ok (.iadd, 1) := by decide +kernel
theorem d_M_read_41 : decode b_M_read 41 = .ok (.iconst 1, 1) := by decide +kernel
theorem d_M_read_42 : decode b_M_read 42 = .ok (.isub, 1) := by decide +kernel
theorem d_M_read_43 : decode b_M_read 43 = .ok (.iload 5, 2) := by decide +kernel
theorem d_M_read_45 : decode b_M_read 45 = .ok (.isub, 1) := by decide +kernel
theorem d_M_read_46 : decode b_M_read 46 = .ok (.iaload, 1) := by decide +kernel
theorem d_M_read_47 : decode b_M_read 47 = .ok (.i2l, 1) := by decide +kernel
theorem d_M_read_48 : decode b_M_read 48 = .ok (.ladd, 1) := by decide +kernel
theorem d_M_read_49 : decode b_M_read 49 = .ok (.lstore_n 3, 1) := by decide +kernel
theorem d_M_read_50 : decode b_M_read 50 = .ok (.iinc 5 1, 3) := by decide +kernel
theorem d_M_read_53 : decode b_M_read 53 = .ok (.goto (-48), 3) := by decide +kernel
theorem d_M_read_56 : decode b_M_read 56 = .ok (.lload_n 3, 1) := by decide +kernel
theorem d_M_read_57 : decode b_M_read 57 = .ok (.lreturn, 1) := by decide +kernel
def wp_M_read_b46 (post : Int64 → Prop) (k5 : Int32 → Int32 → Int64 → Int32 → Prop) (I_p0 : Nat → Int32) (f_p0_file : Nat → Int32) (x1 : Int32) (x2 : Int32) (x5 : Int32) (s0 : Int32) (s2 : Int64) : Prop :=
  vp_in s0 2000 ∧
  k5 x1 x2 (s2 + (f_p0_file (s0).toNatClampNeg).toInt64) (x5 + 1)
def wp_M_read_l5 (post : Int64 → Prop) (I_p0 : Nat → Int32) (f_p0_file : Nat → Int32) : Nat → Int32 → Int32 → Int64 → Int32 → Prop
  | 0, _, _, _, _ => False
  | n + 1, x1, x2, x3, x5 =>
    ((x2 ≤ x5 →
      post x3) ∧
     (¬ x2 ≤ x5 →
      vp_in 0 2000 ∧
      (((f_p0_file 0) = 77 →
        wp_M_read_b46 post (wp_M_read_l5 post I_p0 f_p0_file n) I_p0 f_p0_file x1 x2 x5 (x1 + x5) (256 * x3)) ∧
       (¬ (f_p0_file 0) = 77 →
        wp_M_read_b46 post (wp_M_read_l5 post I_p0 f_p0_file n) I_p0 f_p0_file x1 x2 x5 (((x1 + x2) - 1) - x5) (256 * x3)))))
def wp_M_read (post : Int64 → Prop) (I_p0 : Nat → Int32) (f_p0_file : Nat → Int32) (x1 : Int32) (x2 : Int32) : Prop :=
  (∃ n1 : Nat, wp_M_read_l5 post I_p0 f_p0_file n1 x1 x2 0 0)
set_option maxRecDepth 100000 in
set_option maxHeartbeats 4000000 in
theorem c_M_read (l : Launch) (dC : Nat → ClassId) (dI : Nat → Nat → Nat) (cI : ClassId) (a_p0 : Nat) (A_p0 : Nat → Nat) (I_p0 : Nat → Int32) (f_p0_file : Nat → Int32) (x1 : Int32) (x2 : Int32) {post : Int64 → Prop} (hw : wp_M_read post I_p0 f_p0_file x1 x2) : gm_l l y_M_read ws_M_read ({ frames := 0, cells := 0, slots := 0, locals := 0 } : Room) (dC, dI) vwCl [(cI, .int)] [.ref a_p0, .int x1, .int x2] [oM a_p0 A_p0 I_p0, gz cI (A_p0 0) 2000 f_p0_file] (fun (_ : Unit) => [oM a_p0 A_p0 I_p0, gz cI (A_p0 0) 2000 f_p0_file]) (fun (r : Int64) (_ : Unit) => post r) := by
  refine gm_lof (cc := b_M_read) (maxL := 6) (by decide) rfl (Nat.le_of_ble_eq_true rfl) ?_
  intro p e s m args below meth c A Q hx hb hml hown hg hK hN hA hret
  have hown : s.vm.findClass R_M = some m.cls := hown
  have b46 : ∀ (k5 : Int32 → Int32 → Int64 → Int32 → Prop), (∀ (H : Heap) (locs : List Loc) (ls : Array Slot) (x1 : Int32) (x2 : Int32) (x3 : Int64) (x5 : Int32), va_P (dC, dI) vwCl [oM a_p0 A_p0 I_p0, gz cI (A_p0 0) 2000 f_p0_file] H → va_D A [oM a_p0 A_p0 I_p0, gz cI (A_p0 0) 2000 f_p0_file] → va_S A s.heap H locs → lv_has ls 6 [(0, .ref a_p0), (1, .int x1), (2, .int x2), (3, .long x3), (5, .int x5)] → k5 x1 x2 x3 x5 → W p l e ({ frames := 0, cells := 0, slots := 0, locals := 0 } : Room) s m args below meth c H locs 0 0 Q (F0 m 5 ls [])) → ∀ (H : Heap) (locs : List Loc) (ls : Array Slot) (x1 : Int32) (x2 : Int32) (x5 : Int32) (s0 : Int32) (s2 : Int64), va_P (dC, dI) vwCl [oM a_p0 A_p0 I_p0, gz cI (A_p0 0) 2000 f_p0_file] H → va_D A [oM a_p0 A_p0 I_p0, gz cI (A_p0 0) 2000 f_p0_file] → va_S A s.heap H locs → lv_has ls 6 [(0, .ref a_p0), (1, .int x1), (2, .int x2), (5, .int x5)] → wp_M_read_b46 post k5 I_p0 f_p0_file x1 x2 x5 s0 s2 → W p l e ({ frames := 0, cells := 0, slots := 0, locals := 0 } : Room) s m args below meth c H locs 0 0 Q (F0 m 46 ls [.int s0, .ref (A_p0 0), .long s2]) := by
    intro k5 hk5 H locs ls x1 x2 x5 s0 s2 hP hD hS hl hw
    unfold wp_M_read_b46 at hw
    obtain ⟨hin, hw⟩ := hw
    refine va_iald hx hb hK hP 1 0 rfl rfl hin d_M_read_46 ?_
    refine lv_i2l hx hb d_M_read_47 rfl ?_
    refine lv_ladd hx hb d_M_read_48 ?_
    refine lv_lstore_n (lv' := [(3, .long (s2 + (f_p0_file (s0).toNatClampNeg).toInt64)), (0, .ref a_p0), (1, .int x1), (2, .int x2), (5, .int x5)]) hx hb d_M_read_49 rfl hl (by decide) rfl (fun ls hl => ?_)
    refine lv_iinc (k := 4) (v := (x5 + 1)) (lv' := [(5, .int (x5 + 1)), (3, .long (s2 + (f_p0_file (s0).toNatClampNeg).toInt64)), (0, .ref a_p0), (1, .int x1), (2, .int x2)]) hx hb d_M_read_50 hl rfl (congrArg (fun z => x5 + z) (by decide : Int32.ofInt 1 = 1)) (by decide) rfl (fun ls hl => ?_)
    refine lv_goto hx hb d_M_read_53 rfl ?_
    exact hk5 _ _ _ x1 x2 (s2 + (f_p0_file (s0).toNatClampNeg).toInt64) (x5 + 1) hP hD hS (lv_sub hl [2, 3, 4, 1, 0] rfl) hw
  have l5 : ∀ n : Nat, ∀ (H : Heap) (locs : List Loc) (ls : Array Slot) (x1 : Int32) (x2 : Int32) (x3 : Int64) (x5 : Int32), va_P (dC, dI) vwCl [oM a_p0 A_p0 I_p0, gz cI (A_p0 0) 2000 f_p0_file] H → va_D A [oM a_p0 A_p0 I_p0, gz cI (A_p0 0) 2000 f_p0_file] → va_S A s.heap H locs → lv_has ls 6 [(0, .ref a_p0), (1, .int x1), (2, .int x2), (3, .long x3), (5, .int x5)] → wp_M_read_l5 post I_p0 f_p0_file n x1 x2 x3 x5 → W p l e ({ frames := 0, cells := 0, slots := 0, locals := 0 } : Room) s m args below meth c H locs 0 0 Q (F0 m 5 ls []) := by
    intro n
    induction n with
    | zero => intro H locs ls x1 x2 x3 x5 hP hD hS hl hw; exact hw.elim
    | succ n ih =>
      intro H locs ls x1 x2 x3 x5 hP hD hS hl hw
      unfold wp_M_read_l5 at hw
      refine lv_iload hx hb d_M_read_5 (lv_at hl 4 rfl) ?_
      refine lv_iload_n hx hb d_M_read_7 rfl (lv_at hl 2 rfl) ?_
      refine lv_icmp_ge hx hb d_M_read_8 rfl (fun hc => ?_) (fun hc => ?_)
      · have hw := hw.1 hc
        refine lv_lload_n hx hb d_M_read_56 rfl (lv_at hl 3 rfl) ?_
        exact hret _ _ _ _ _ () d_M_read_57 hP hD hS hw
      · have hw := hw.2 hc
        refine lv_ldc2 (v := 256) hx hb hown (hg _ t_905) d_M_read_11 ?_
        refine lv_lload_n hx hb d_M_read_14 rfl (lv_at hl 3 rfl) ?_
        refine lv_lmul hx hb d_M_read_15 ?_
        refine lv_aload_n hx hb d_M_read_16 rfl (lv_at hl 0 rfl) ?_
        refine va_get (D := (dC, dI)) (ci := 10) (v := .ref (A_p0 0)) (C := R_M) (T := T_M) (N := 30) hx hb hg in_M hown hK hP 0 rfl rfl 0 (by decide) (hg _ t_758) (fun _ h9 => h9) rfl d_M_read_17 ?_
        refine lv_aload_n hx hb d_M_read_20 rfl (lv_at hl 0 rfl) ?_
        refine va_get (D := (dC, dI)) (ci := 10) (v := .ref (A_p0 0)) (C := R_M) (T := T_M) (N := 30) hx hb hg in_M hown hK hP 0 rfl rfl 0 (by decide) (hg _ t_758) (fun _ h9 => h9) rfl d_M_read_21 ?_
        refine lv_iconst (v := 0) hx hb d_M_read_24 (by decide) ?_
        obtain ⟨hin, hw⟩ := hw
        refine va_iald hx hb hK hP 1 0 rfl rfl hin d_M_read_25 ?_
        refine lv_bipush (v := 77) hx hb d_M_read_26 (by decide) ?_
        refine lv_icmp_ne hx hb d_M_read_28 rfl (fun hc => ?_) (fun hc => ?_)
        · have hw := hw.2 hc
          refine lv_iload_n hx hb d_M_read_38 rfl (lv_at hl 1 rfl) ?_
          refine lv_iload_n hx hb d_M_read_39 rfl (lv_at hl 2 rfl) ?_
          refine lv_iadd hx hb d_M_read_40 ?_
          refine lv_iconst (v := 1) hx hb d_M_read_41 (by decide) ?_
          refine lv_isub hx hb d_M_read_42 ?_
          refine lv_iload hx hb d_M_read_43 (lv_at hl 4 rfl) ?_
          refine lv_isub hx hb d_M_read_45 ?_
          exact b46 _ ih _ _ _ x1 x2 x5 (((x1 + x2) - 1) - x5) (256 * x3) hP hD hS (lv_sub hl [0, 1, 2, 4] rfl) hw
        · have hw := hw.1 hc
          refine lv_iload_n hx hb d_M_read_31 rfl (lv_at hl 1 rfl) ?_
          refine lv_iload hx hb d_M_read_32 (lv_at hl 4 rfl) ?_
          refine lv_iadd hx hb d_M_read_34 ?_
          refine lv_goto hx hb d_M_read_35 rfl ?_
          exact b46 _ ih _ _ _ x1 x2 x5 (x1 + x5) (256 * x3) hP hD hS (lv_sub hl [0, 1, 2, 4] rfl) hw
  intro ls hl hP hD hS
  have hl : lv_has ls 6 [(0, .ref a_p0), (1, .int x1), (2, .int x2)] := hl
  unfold wp_M_read at hw
  refine lv_lconst (v := 0) hx hb d_M_read_0 (by decide) ?_
  refine lv_lstore_n (lv' := [(3, .long 0), (0, .ref a_p0), (1, .int x1), (2, .int x2)]) hx hb d_M_read_1 rfl hl (by decide) rfl (fun ls hl => ?_)
  refine lv_iconst (v := 0) hx hb d_M_read_2 (by decide) ?_
  refine lv_istore (lv' := [(5, .int 0), (3, .long 0), (0, .ref a_p0), (1, .int x1), (2, .int x2)]) hx hb d_M_read_3 hl (by decide) rfl (fun ls hl => ?_)
  obtain ⟨n1, hw⟩ := hw
  exact l5 n1 _ _ _ x1 x2 0 0 hP hD hS (lv_sub hl [2, 3, 4, 1, 0] rfl) hw
theorem d_M_stands_0 : decode b_M_stands 0 = .ok (.lload_n 1, 1) := by decide +kernel
theorem d_M_stands_1 : decode b_M_stands 1 = .ok (.ldc2_w 74, 3) := by decide +kernel
theorem d_M_stands_4 : decode b_M_stands 4 = .ok (.lrem, 1) := by decide +kernel
theorem d_M_stands_5 : decode b_M_stands 5 = .ok (.lconst 0, 1) := by decide +kernel
theorem d_M_stands_6 : decode b_M_stands 6 = .ok (.lcmp, 1) := by decide +kernel
theorem d_M_stands_7 : decode b_M_stands 7 = .ok (.ifCond .ne 25, 3) := by decide +kernel
theorem d_M_stands_10 : decode b_M_stands 10 = .ok (.lload_n 1, 1) := by decide +kernel
theorem d_M_stands_11 : decode b_M_stands 11 = .ok (.ldc2_w 76, 3) := by decide +kernel
theorem d_M_stands_14 : decode b_M_stands 14 = .ok (.lcmp, 1) := by decide +kernel
theorem d_M_stands_15 : decode b_M_stands 15 = .ok (.ifCond .lt 17, 3) := by decide +kernel
theorem d_M_stands_18 : decode b_M_stands 18 = .ok (.lload_n 1, 1) := by decide +kernel
theorem d_M_stands_19 : decode b_M_stands 19 = .ok (.ldc2_w 74, 3) := by decide +kernel
theorem d_M_stands_22 : decode b_M_stands 22 = .ok (.ladd, 1) := by decide +kernel
theorem d_M_stands_23 : decode b_M_stands 23 = .ok (.aload_n 0, 1) := by decide +kernel
theorem d_M_stands_24 : decode b_M_stands 24 = .ok (.getfield 63, 3) := by decide +kernel
theorem d_M_stands_27 : decode b_M_stands 27 = .ok (.i2l, 1) := by decide +kernel
theorem d_M_stands_28 : decode b_M_stands 28 = .ok (.lcmp, 1) := by decide +kernel
theorem d_M_stands_29 : decode b_M_stands 29 = .ok (.ifCond .le 5, 3) := by decide +kernel
theorem d_M_stands_32 : decode b_M_stands 32 = .ok (.iconst 0, 1) := by decide +kernel
theorem d_M_stands_33 : decode b_M_stands 33 = .ok (.ireturn, 1) := by decide +kernel
theorem d_M_stands_34 : decode b_M_stands 34 = .ok (.aload_n 0, 1) := by decide +kernel
theorem d_M_stands_35 : decode b_M_stands 35 = .ok (.lload_n 1, 1) := by decide +kernel
theorem d_M_stands_36 : decode b_M_stands 36 = .ok (.l2i, 1) := by decide +kernel
theorem d_M_stands_37 : decode b_M_stands 37 = .ok (.iconst 2, 1) := by decide +kernel
theorem d_M_stands_38 : decode b_M_stands 38 = .ok (.invokevirtual 78, 3) := by decide +kernel
theorem d_M_stands_41 : decode b_M_stands 41 = .ok (.lstore_n 3, 1) := by decide +kernel
theorem d_M_stands_42 : decode b_M_stands 42 = .ok (.lload_n 3, 1) := by decide +kernel
theorem d_M_stands_43 : decode b_M_stands 43 = .ok (.lconst 1, 1) := by decide +kernel
theorem d_M_stands_44 : decode b_M_stands 44 = .ok (.lcmp, 1) := by decide +kernel
theorem d_M_stands_45 : decode b_M_stands 45 = .ok (.ifCond .lt 27, 3) := by decide +kernel
theorem d_M_stands_48 : decode b_M_stands 48 = .ok (.lload_n 1, 1) := by decide +kernel
theorem d_M_stands_49 : decode b_M_stands 49 = .ok (.ldc2_w 82, 3) := by decide +kernel
theorem d_M_stands_52 : decode b_M_stands 52 = .ok (.ladd, 1) := by decide +kernel
theorem d_M_stands_53 : decode b_M_stands 53 = .ok (.ldc2_w 84, 3) := by decide +kernel
theorem d_M_stands_56 : decode b_M_stands 56 = .ok (.lload_n 3, 1) := by decide +kernel
theorem d_M_stands_57 : decode b_M_stands 57 = .ok (.lmul, 1) := by decide +kernel
theorem d_M_stands_58 : decode b_M_stands 58 = .ok (.ladd, 1) := by decide +kernel
theorem d_M_stands_59 : decode b_M_stands 59 = .ok (.aload_n 0, 1) := by decide +kernel
theorem d_M_stands_60 : decode b_M_stands 60 = .ok (.getfield 63, 3) := by decide +kernel
theorem d_M_stands_63 : decode b_M_stands 63 = .ok (.i2l, 1) := by decide +kernel
theorem d_M_stands_64 : decode b_M_stands 64 = .ok (.lcmp, 1) := by decide +kernel
theorem d_M_stands_65 : decode b_M_stands 65 = .ok (.ifCond .gt 7, 3) := by decide +kernel
theorem d_M_stands_68 : decode b_M_stands 68 = .ok (.iconst 1, 1) := by decide +kernel
theorem d_M_stands_69 : decode b_M_stands 69 = .ok (.goto 4, 3) := by decide +kernel
theorem d_M_stands_72 : decode b_M_stands 72 = .ok (.iconst 0, 1) := by decide +kernel
theorem d_M_stands_73 : decode b_M_stands 73 = .ok (.ireturn, 1) := by decide +kernel
def wp_M_stands_b72 (post : Int32 → Prop) (I_p0 : Nat → Int32) (f_p0_file : Nat → Int32) : Prop :=
  post 0
def wp_M_stands (post : Int32 → Prop) (I_p0 : Nat → Int32) (f_p0_file : Nat → Int32) (x1 : Int64) : Prop :=
  (((x1 - x1 / 2 * 2) = 0 →
    ((x1 < 8 →
      post 0) ∧
     (¬ x1 < 8 →
      (((x1 + 2) ≤ (I_p0 1).toInt64 →
        wp_M_read (fun (r38 : Int64) =>
          ((r38 < 1 →
            wp_M_stands_b72 post I_p0 f_p0_file) ∧
           (¬ r38 < 1 →
            (((I_p0 1).toInt64 < ((x1 + 6) + (12 * r38)) →
              wp_M_stands_b72 post I_p0 f_p0_file) ∧
             (¬ (I_p0 1).toInt64 < ((x1 + 6) + (12 * r38)) →
              post 1))))) I_p0 f_p0_file x1.toInt32 2) ∧
       (¬ (x1 + 2) ≤ (I_p0 1).toInt64 →
        post 0))))) ∧
   (¬ (x1 - x1 / 2 * 2) = 0 →
    post 0))
set_option maxRecDepth 100000 in
set_option maxHeartbeats 4000000 in
theorem c_M_stands (l : Launch) (dC : Nat → ClassId) (dI : Nat → Nat → Nat) (cI : ClassId) (a_p0 : Nat) (A_p0 : Nat → Nat) (I_p0 : Nat → Int32) (f_p0_file : Nat → Int32) (x1 : Int64) {post : Int32 → Prop} (hw : wp_M_stands post I_p0 f_p0_file x1) : gm_i l y_M_stands ws_M_stands ({ frames := 1, cells := 0, slots := 0, locals := 25 } : Room) (dC, dI) vwCl [(cI, .int)] [.ref a_p0, .long x1] [oM a_p0 A_p0 I_p0, gz cI (A_p0 0) 2000 f_p0_file] (fun (_ : Unit) => [oM a_p0 A_p0 I_p0, gz cI (A_p0 0) 2000 f_p0_file]) (fun (r : Int32) (_ : Unit) => post r) := by
  refine gm_iof (cc := b_M_stands) (maxL := 5) (ty := .boolean) (by decide) rfl (Nat.le_of_ble_eq_true rfl) ?_
  intro p e s m args below meth c A Q hx hb hml hown hg hK hN hA hret
  have hown : s.vm.findClass R_M = some m.cls := hown
  have b72 : ∀ (H : Heap) (locs : List Loc) (ls : Array Slot), va_P (dC, dI) vwCl [oM a_p0 A_p0 I_p0, gz cI (A_p0 0) 2000 f_p0_file] H → va_D A [oM a_p0 A_p0 I_p0, gz cI (A_p0 0) 2000 f_p0_file] → va_S A s.heap H locs → lv_has ls 5 [] → wp_M_stands_b72 post I_p0 f_p0_file → W p l e ({ frames := 1, cells := 0, slots := 0, locals := 25 } : Room) s m args below meth c H locs 0 0 Q (F0 m 72 ls []) := by
    intro H locs ls hP hD hS hl hw
    unfold wp_M_stands_b72 at hw
    refine lv_iconst (v := 0) hx hb d_M_stands_72 (by decide) ?_
    exact hret _ _ _ _ _ () d_M_stands_73 rfl hP hD hS hw
  intro ls hl hP hD hS
  have hl : lv_has ls 5 [(0, .ref a_p0), (1, .long x1)] := hl
  unfold wp_M_stands at hw
  refine lv_lload_n hx hb d_M_stands_0 rfl (lv_at hl 1 rfl) ?_
  refine lv_ldc2 (v := 2) hx hb hown (hg _ t_911) d_M_stands_1 ?_
  refine lv_lrem hx hb d_M_stands_4 (by decide) ?_
  refine lv_lconst (v := 0) hx hb d_M_stands_5 (by decide) ?_
  refine W.lcmp hx hb d_M_stands_6 ?_
  refine lv_if_ne hx hb d_M_stands_7 rfl (fun hc => ?_) (fun hc => ?_)
  · have hw := hw.2 (fun h9 => hc ((lg_cmp_eq _ _).mpr h9))
    refine lv_iconst (v := 0) hx hb d_M_stands_32 (by decide) ?_
    exact hret _ _ _ _ _ () d_M_stands_33 rfl hP hD hS hw
  · have hw := hw.1 ((lg_cmp_eq _ _).mp hc)
    refine lv_lload_n hx hb d_M_stands_10 rfl (lv_at hl 1 rfl) ?_
    refine lv_ldc2 (v := 8) hx hb hown (hg _ t_912) d_M_stands_11 ?_
    refine W.lcmp hx hb d_M_stands_14 ?_
    refine lv_if_lt hx hb d_M_stands_15 rfl (fun hc => ?_) (fun hc => ?_)
    · have hw := hw.1 ((lg_cmp_lt _ _).mp hc)
      refine lv_iconst (v := 0) hx hb d_M_stands_32 (by decide) ?_
      exact hret _ _ _ _ _ () d_M_stands_33 rfl hP hD hS hw
    · have hw := hw.2 (fun h9 => hc ((lg_cmp_lt _ _).mpr h9))
      refine lv_lload_n hx hb d_M_stands_18 rfl (lv_at hl 1 rfl) ?_
      refine lv_ldc2 (v := 2) hx hb hown (hg _ t_911) d_M_stands_19 ?_
      refine lv_ladd hx hb d_M_stands_22 ?_
      refine lv_aload_n hx hb d_M_stands_23 rfl (lv_at hl 0 rfl) ?_
      refine va_get (D := (dC, dI)) (ci := 10) (v := .int (I_p0 1)) (C := R_M) (T := T_M) (N := 30) hx hb hg in_M hown hK hP 0 rfl rfl 1 (by decide) (hg _ t_759) (fun _ h9 => h9) rfl d_M_stands_24 ?_
      refine lv_i2l hx hb d_M_stands_27 rfl ?_
      refine W.lcmp hx hb d_M_stands_28 ?_
      refine lv_if_le hx hb d_M_stands_29 rfl (fun hc => ?_) (fun hc => ?_)
      · have hw := hw.1 ((lg_cmp_le _ _).mp hc)
        refine lv_aload_n hx hb d_M_stands_34 rfl (lv_at hl 0 rfl) ?_
        refine lv_lload_n hx hb d_M_stands_35 rfl (lv_at hl 1 rfl) ?_
        refine lv_l2i hx hb d_M_stands_36 rfl ?_
        refine lv_iconst (v := 2) hx hb d_M_stands_37 (by decide) ?_
        refine gc_l (wn := fun (_ : Unit) => [oM a_p0 A_p0 I_p0, gz cI (A_p0 0) 2000 f_p0_file]) (wr := []) (gr_V (As := [.int x1.toInt32, .int 2]) (rest := []) ⟨hx, hb, hml, hown, hg⟩ (c_M_read l dC dI cI a_p0 A_p0 I_p0 f_p0_file x1.toInt32 2 hw _) (cwV 2 hg (gg_V t_901 t_903 t_28 t_71 t_904) rfl rfl rfl (by decide +kernel) ⟨Nat.le_of_ble_eq_true rfl, Nat.le_of_ble_eq_true rfl⟩) hK hN hP hD [0, 1] (by decide) rfl 0 10 rfl rfl rfl rfl hl.1 rfl (Nat.le_of_ble_eq_true rfl) d_M_stands_38 ⟨Nat.le_of_ble_eq_true rfl, Nat.le_of_ble_eq_true rfl⟩) rfl rfl hP hD hS hA [0, 1] [] [0, 1] rfl rfl (by decide) (by decide) (by decide) (fun _ => rfl) ?_
        intro r38 _ H locs hw hP hD hS
        try dsimp only at hw
        have hP : va_P (dC, dI) vwCl [oM a_p0 A_p0 I_p0, gz cI (A_p0 0) 2000 f_p0_file] H := hP
        have hD : va_D A [oM a_p0 A_p0 I_p0, gz cI (A_p0 0) 2000 f_p0_file] := hD
        refine lv_lstore_n (lv' := [(3, .long r38), (0, .ref a_p0), (1, .long x1)]) hx hb d_M_stands_41 rfl hl (by decide) rfl (fun ls hl => ?_)
        refine lv_lload_n hx hb d_M_stands_42 rfl (lv_at hl 0 rfl) ?_
        refine lv_lconst (v := 1) hx hb d_M_stands_43 (by decide) ?_
        refine W.lcmp hx hb d_M_stands_44 ?_
        refine lv_if_lt hx hb d_M_stands_45 rfl (fun hc => ?_) (fun hc => ?_)
        · have hw := hw.1 ((lg_cmp_lt _ _).mp hc)
          exact b72 _ _ _ hP hD hS (lv_sub hl [] rfl) hw
        · have hw := hw.2 (fun h9 => hc ((lg_cmp_lt _ _).mpr h9))
          refine lv_lload_n hx hb d_M_stands_48 rfl (lv_at hl 2 rfl) ?_
          refine lv_ldc2 (v := 6) hx hb hown (hg _ t_913) d_M_stands_49 ?_
          refine lv_ladd hx hb d_M_stands_52 ?_
          refine lv_ldc2 (v := 12) hx hb hown (hg _ t_914) d_M_stands_53 ?_
          refine lv_lload_n hx hb d_M_stands_56 rfl (lv_at hl 0 rfl) ?_
          refine lv_lmul hx hb d_M_stands_57 ?_
          refine lv_ladd hx hb d_M_stands_58 ?_
          refine lv_aload_n hx hb d_M_stands_59 rfl (lv_at hl 1 rfl) ?_
          refine va_get (D := (dC, dI)) (ci := 10) (v := .int (I_p0 1)) (C := R_M) (T := T_M) (N := 30) hx hb hg in_M hown hK hP 0 rfl rfl 1 (by decide) (hg _ t_759) (fun _ h9 => h9) rfl d_M_stands_60 ?_
          refine lv_i2l hx hb d_M_stands_63 rfl ?_
          refine W.lcmp hx hb d_M_stands_64 ?_
          refine lv_if_gt hx hb d_M_stands_65 rfl (fun hc => ?_) (fun hc => ?_)
          · have hw := hw.1 ((lg_cmp_gt _ _).mp hc)
            exact b72 _ _ _ hP hD hS (lv_sub hl [] rfl) hw
          · have hw := hw.2 (fun h9 => hc ((lg_cmp_gt _ _).mpr h9))
            refine lv_iconst (v := 1) hx hb d_M_stands_68 (by decide) ?_
            refine lv_goto hx hb d_M_stands_69 rfl ?_
            exact hret _ _ _ _ _ () d_M_stands_73 rfl hP hD hS hw
      · have hw := hw.2 (fun h9 => hc ((lg_cmp_le _ _).mpr h9))
        refine lv_iconst (v := 0) hx hb d_M_stands_32 (by decide) ?_
        exact hret _ _ _ _ _ () d_M_stands_33 rfl hP hD hS hw
