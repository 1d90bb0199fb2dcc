theorem d_M_decode_0 : decode b_M_decode 0 = .ok (.iconst 0, 1) := by decide +kernel
theorem d_M_decode_1 : decode b_M_decode 1 = .ok (.istore 4, 2) := by decide +kernel
theorem d_M_decode_3 : decode b_M_decode 3 = .ok (.iconst 1, 1) := by decide +kernel
theorem d_M_decode_4 : decode b_M_decode 4 = .ok (.istore 5, 2) := by decide +kernel
theorem d_M_decode_6 : decode b_M_decode 6 = .ok (.iconst 0, 1) := by decide +kernel
theorem d_M_decode_7 : decode b_M_decode 7 = .ok (.istore 6, 2) := by decide +kernel
theorem d_M_decode_9 : decode b_M_decode 9 = .ok (.iload 4, 2) := by decide +kernel
theorem d_M_decode_11 : decode b_M_decode 11 = .ok (.iload 5, 2) := by decide +kernel
theorem d_M_decode_13 : decode b_M_decode 13 = .ok (.invokestatic 138, 3) := by decide +kernel
theorem d_M_decode_16 : decode b_M_decode 16 = .ok (.iadd, 1) := by decide +kernel
theorem d_M_decode_17 : decode b_M_decode 17 = .ok (.bipush 8, 2) := by decide +kernel
theorem d_M_decode_19 : decode b_M_decode 19 = .ok (.iload_n 2, 1) := by decide +kernel
theorem d_M_decode_20 : decode b_M_decode 20 = .ok (.imul, 1) := by decide +kernel
theorem d_M_decode_21 : decode b_M_decode 21 = .ok (.if_icmp .gt 223, 3) := by decide +kernel
theorem d_M_decode_24 : decode b_M_decode 24 = .ok (.aload_n 0, 1) := by decide +kernel
theorem d_M_decode_25 : decode b_M_decode 25 = .ok (.iload_n 1, 1) := by decide +kernel
theorem d_M_decode_26 : decode b_M_decode 26 = .ok (.iload 4, 2) := by decide +kernel
theorem d_M_decode_28 : decode b_M_decode 28 = .ok (.iload 5, 2) := by decide +kernel
theorem d_M_decode_30 : decode b_M_decode 30 = .ok (.invokestatic 138, 3) := by decide +kernel
theorem d_M_decode_33 : decode b_M_decode 33 = .ok (.invokevirtual 236, 3) := by decide +kernel
theorem d_M_decode_36 : decode b_M_decode 36 = .ok (.istore 7, 2) := by decide +kernel
theorem d_M_decode_38 : decode b_M_decode 38 = .ok (.iload 4, 2) := by decide +kernel
theorem d_M_decode_40 : decode b_M_decode 40 = .ok (.iload 5, 2) := by decide +kernel
theorem d_M_decode_42 : decode b_M_decode 42 = .ok (.invokestatic 138, 3) := by decide +kernel
theorem d_M_decode_45 : decode b_M_decode 45 = .ok (.iadd, 1) := by decide +kernel
theorem d_M_decode_46 : decode b_M_decode 46 = .ok (.istore 4, 2) := by decide +kernel
theorem d_M_decode_48 : decode b_M_decode 48 = .ok (.iload 7, 2) := by decide +kernel
theorem d_M_decode_50 : decode b_M_decode 50 = .ok (.bipush 17, 2) := by decide +kernel
theorem d_M_decode_52 : decode b_M_decode 52 = .ok (.if_icmp .ne 15, 3) := by decide +kernel
theorem d_M_decode_55 : decode b_M_decode 55 = .ok (.iload 6, 2) := by decide +kernel
theorem d_M_decode_57 : decode b_M_decode 57 = .ok (.iload_n 3, 1) := by decide +kernel
theorem d_M_decode_58 : decode b_M_decode 58 = .ok (.if_icmp .ne 7, 3) := by decide +kernel
theorem d_M_decode_61 : decode b_M_decode 61 = .ok (.iconst 1, 1) := by decide +kernel
theorem d_M_decode_62 : decode b_M_decode 62 = .ok (.goto 4, 3) := by decide +kernel
theorem d_M_decode_65 : decode b_M_decode 65 = .ok (.iconst 0, 1) := by decide +kernel
theorem d_M_decode_66 : decode b_M_decode 66 = .ok (.ireturn, 1) := by decide +kernel
theorem d_M_decode_67 : decode b_M_decode 67 = .ok (.iload 7, 2) := by decide +kernel
theorem d_M_decode_69 : decode b_M_decode 69 = .ok (.bipush 17, 2) := by decide +kernel
theorem d_M_decode_71 : decode b_M_decode 71 = .ok (.isub, 1) := by decide +kernel
theorem d_M_decode_72 : decode b_M_decode 72 = .ok (.istore 8, 2) := by decide +kernel
theorem d_M_decode_74 : decode b_M_decode 74 = .ok (.iload 8, 2) := by decide +kernel
theorem d_M_decode_76 : decode b_M_decode 76 = .ok (.ifCond .le 19, 3) := by decide +kernel
theorem d_M_decode_79 : decode b_M_decode 79 = .ok (.iload 8, 2) := by decide +kernel
theorem d_M_decode_81 : decode b_M_decode 81 = .ok (.iload 5, 2) := by decide +kernel
theorem d_M_decode_83 : decode b_M_decode 83 = .ok (.if_icmp .ge 10, 3) := by decide +kernel
theorem d_M_decode_86 : decode b_M_decode 86 = .ok (.iload 7, 2) := by decide +kernel
theorem d_M_decode_88 : decode b_M_decode 88 = .ok (.bipush 126, 2) := by decide +kernel
theorem d_M_decode_90 : decode b_M_decode 90 = .ok (.if_icmp .le 5, 3) := by decide +kernel
theorem d_M_decode_93 : decode b_M_decode 93 = .ok (.iconst 0, 1) := by decide +kernel
theorem d_M_decode_94 : decode b_M_decode 94 = .ok (.ireturn, 1) := by decide +kernel
theorem d_M_decode_95 : decode b_M_decode 95 = .ok (.iload 7, 2) := by decide +kernel
theorem d_M_decode_97 : decode b_M_decode 97 = .ok (.bipush 16, 2) := by decide +kernel
theorem d_M_decode_99 : decode b_M_decode 99 = .ok (.if_icmp .ne 7, 3) := by decide +kernel
theorem d_M_decode_102 : decode b_M_decode 102 = .ok (.iconst 0, 1) := by decide +kernel
theorem d_M_decode_103 : decode b_M_decode 103 = .ok (.goto 23, 3) := by decide +kernel
theorem d_M_decode_106 : decode b_M_decode 106 = .ok (.iload 7, 2) := by decide +kernel
theorem d_M_decode_108 : decode b_M_decode 108 = .ok (.bipush 16, 2) := by decide +kernel
theorem d_M_decode_110 : decode b_M_decode 110 = .ok (.if_icmp .ge 7, 3) := by decide +kernel
theorem d_M_decode_113 : decode b_M_decode 113 = .ok (.iconst 1, 1) := by decide +kernel
theorem d_M_decode_114 : decode b_M_decode 114 = .ok (.goto 12, 3) := by decide +kernel
theorem d_M_decode_117 : decode b_M_decode 117 = .ok (.aload_n 0, 1) := by decide +kernel
theorem d_M_decode_118 : decode b_M_decode 118 = .ok (.getfield 47, 3) := by decide +kernel
theorem d_M_decode_121 : decode b_M_decode 121 = .ok (.iload 8, 2) := by decide +kernel
theorem d_M_decode_123 : decode b_M_decode 123 = .ok (.iaload, 1) := by decide +kernel
theorem d_M_decode_124 : decode b_M_decode 124 = .ok (.iconst 1, 1) := by decide +kernel
theorem d_M_decode_125 : decode b_M_decode 125 = .ok (.iadd, 1) := by decide +kernel
theorem d_M_decode_126 : decode b_M_decode 126 = .ok (.istore 9, 2) := by decide +kernel
theorem d_M_decode_128 : decode b_M_decode 128 = .ok (.iload 6, 2) := by decide +kernel
theorem d_M_decode_130 : decode b_M_decode 130 = .ok (.iload 9, 2) := by decide +kernel
theorem d_M_decode_132 : decode b_M_decode 132 = .ok (.iadd, 1) := by decide +kernel
theorem d_M_decode_133 : decode b_M_decode 133 = .ok (.iload_n 3, 1) := by decide +kernel
theorem d_M_decode_134 : decode b_M_decode 134 = .ok (.if_icmp .le 5, 3) := by decide +kernel
theorem d_M_decode_137 : decode b_M_decode 137 = .ok (.iconst 0, 1) := by decide +kernel
theorem d_M_decode_138 : decode b_M_decode 138 = .ok (.ireturn, 1) := by decide +kernel
theorem d_M_decode_139 : decode b_M_decode 139 = .ok (.iconst 0, 1) := by decide +kernel
theorem d_M_decode_140 : decode b_M_decode 140 = .ok (.istore 10, 2) := by decide +kernel
theorem d_M_decode_142 : decode b_M_decode 142 = .ok (.iload 10, 2) := by decide +kernel
theorem d_M_decode_144 : decode b_M_decode 144 = .ok (.iload 9, 2) := by decide +kernel
theorem d_M_decode_146 : decode b_M_decode 146 = .ok (.if_icmp .ge 46, 3) := by decide +kernel
theorem d_M_decode_149 : decode b_M_decode 149 = .ok (.aload_n 0, 1) := by decide +kernel
theorem d_M_decode_150 : decode b_M_decode 150 = .ok (.getfield 41, 3) := by decide +kernel
theorem d_M_decode_153 : decode b_M_decode 153 = .ok (.iload 6, 2) := by decide +kernel
theorem d_M_decode_155 : decode b_M_decode 155 = .ok (.iload 10, 2) := by decide +kernel
theorem d_M_decode_157 : decode b_M_decode 157 = .ok (.iadd, 1) := by decide +kernel
theorem d_M_decode_158 : decode b_M_decode 158 = .ok (.iload 7, 2) := by decide +kernel
theorem d_M_decode_160 : decode b_M_decode 160 = .ok (.bipush 16, 2) := by decide +kernel
theorem d_M_decode_162 : decode b_M_decode 162 = .ok (.if_icmp .ge 8, 3) := by decide +kernel
theorem d_M_decode_165 : decode b_M_decode 165 = .ok (.iload 7, 2) := by decide +kernel
theorem d_M_decode_167 : decode b_M_decode 167 = .ok (.goto 18, 3) := by decide +kernel
theorem d_M_decode_170 : decode b_M_decode 170 = .ok (.aload_n 0, 1) := by decide +kernel
theorem d_M_decode_171 : decode b_M_decode 171 = .ok (.getfield 41, 3) := by decide +kernel
theorem d_M_decode_174 : decode b_M_decode 174 = .ok (.aload_n 0, 1) := by decide +kernel
theorem d_M_decode_175 : decode b_M_decode 175 = .ok (.getfield 44, 3) := by decide +kernel
theorem d_M_decode_178 : decode b_M_decode 178 = .ok (.iload 8, 2) := by decide +kernel
theorem d_M_decode_180 : decode b_M_decode 180 = .ok (.iaload, 1) := by decide +kernel
theorem d_M_decode_181 : decode b_M_decode 181 = .ok (.iload 10, 2) := by decide +kernel
theorem d_M_decode_183 : decode b_M_decode 183 = .ok (.iadd, 1) := by decide +kernel
theorem d_M_decode_184 : decode b_M_decode 184 = .ok (.iaload, 1) := by decide +kernel
theorem d_M_decode_185 : decode b_M_decode 185 = .ok (.iastore, 1) := by decide +kernel
theorem d_M_decode_186 : decode b_M_decode 186 = .ok (.iinc 10 1, 3) := by decide +kernel
theorem d_M_decode_189 : decode b_M_decode 189 = .ok (.goto (-47), 3) := by decide +kernel
theorem d_M_decode_192 : decode b_M_decode 192 = .ok (.iload 5, 2) := by decide +kernel
theorem d_M_decode_194 : decode b_M_decode 194 = .ok (.bipush 110, 2) := by decide +kernel
theorem d_M_decode_196 : decode b_M_decode 196 = .ok (.if_icmp .gt 21, 3) := by decide +kernel
theorem d_M_decode_199 : decode b_M_decode 199 = .ok (.aload_n 0, 1) := by decide +kernel
theorem d_M_decode_200 : decode b_M_decode 200 = .ok (.getfield 44, 3) := by decide +kernel
theorem d_M_decode_203 : decode b_M_decode 203 = .ok (.iload 5, 2) := by decide +kernel
theorem d_M_decode_205 : decode b_M_decode 205 = .ok (.iload 6, 2) := by decide +kernel
theorem d_M_decode_207 : decode b_M_decode 207 = .ok (.iastore, 1) := by decide +kernel
theorem d_M_decode_208 : decode b_M_decode 208 = .ok (.aload_n 0, 1) := by decide +kernel
theorem d_M_decode_209 : decode b_M_decode 209 = .ok (.getfield 47, 3) := by decide +kernel
theorem d_M_decode_212 : decode b_M_decode 212 = .ok (.iload 5, 2) := by decide +kernel
theorem d_M_decode_214 : decode b_M_decode 214 = .ok (.iload 9, 2) := by decide +kernel
theorem d_M_decode_216 : decode b_M_decode 216 = .ok (.iastore, 1) := by decide +kernel
theorem d_M_decode_217 : decode b_M_decode 217 = .ok (.iload 6, 2) := by decide +kernel
theorem d_M_decode_219 : decode b_M_decode 219 = .ok (.iload 9, 2) := by decide +kernel
theorem d_M_decode_221 : decode b_M_decode 221 = .ok (.iadd, 1) := by decide +kernel
theorem d_M_decode_222 : decode b_M_decode 222 = .ok (.istore 6, 2) := by decide +kernel
theorem d_M_decode_224 : decode b_M_decode 224 = .ok (.iload 7, 2) := by decide +kernel
theorem d_M_decode_226 : decode b_M_decode 226 = .ok (.bipush 16, 2) := by decide +kernel
theorem d_M_decode_228 : decode b_M_decode 228 = .ok (.if_icmp .ne 7, 3) := by decide +kernel
theorem d_M_decode_231 : decode b_M_decode 231 = .ok (.iconst 1, 1) := by decide +kernel
theorem d_M_decode_232 : decode b_M_decode 232 = .ok (.goto 7, 3) := by decide +kernel
theorem d_M_decode_235 : decode b_M_decode 235 = .ok (.iload 5, 2) := by decide +kernel
theorem d_M_decode_237 : decode b_M_decode 237 = .ok (.iconst 1, 1) := by decide +kernel
theorem d_M_decode_238 : decode b_M_decode 238 = .ok (.iadd, 1) := by decide +kernel
theorem d_M_decode_239 : decode b_M_decode 239 = .ok (.istore 5, 2) := by decide +kernel
theorem d_M_decode_241 : decode b_M_decode 241 = .ok (.goto (-232), 3) := by decide +kernel
theorem d_M_decode_244 : decode b_M_decode 244 = .ok (.iconst 0, 1) := by decide +kernel
theorem d_M_decode_245 : decode b_M_decode 245 = .ok (.ireturn, 1) := by decide +kernel
def wp_M_decode_b239 (post : Int32 → (Nat → Int32) → (Nat → Int32) → (Nat → Int32) → Prop) (k9 : (Nat → Int32) → (Nat → Int32) → (Nat → Int32) → Int32 → Int32 → Int32 → Int32 → Int32 → Int32 → Prop) (I_p0 : Nat → Int32) (f_p0_file : Nat → Int32) (f_p0_many : Nat → Int32) (f_p0_nibs : Nat → Int32) (f_p0_start : Nat → Int32) (x1 : Int32) (x2 : Int32) (x3 : Int32) (x4 : Int32) (x6 : Int32) (s0 : Int32) : Prop :=
  k9 f_p0_many f_p0_nibs f_p0_start x1 x2 x3 x4 s0 x6
def wp_M_decode_b217 (post : Int32 → (Nat → Int32) → (Nat → Int32) → (Nat → Int32) → Prop) (k9 : (Nat → Int32) → (Nat → Int32) → (Nat → Int32) → Int32 → Int32 → Int32 → Int32 → Int32 → Int32 → Prop) (I_p0 : Nat → Int32) (f_p0_file : Nat → Int32) (f_p0_many : Nat → Int32) (f_p0_nibs : Nat → Int32) (f_p0_start : Nat → Int32) (x1 : Int32) (x2 : Int32) (x3 : Int32) (x4 : Int32) (x5 : Int32) (x6 : Int32) (x7 : Int32) (x9 : Int32) : Prop :=
  ((x7 = 16 →
    wp_M_decode_b239 post k9 I_p0 f_p0_file f_p0_many f_p0_nibs f_p0_start x1 x2 x3 x4 (x6 + x9) 1) ∧
   (¬ x7 = 16 →
    wp_M_decode_b239 post k9 I_p0 f_p0_file f_p0_many f_p0_nibs f_p0_start x1 x2 x3 x4 (x6 + x9) (x5 + 1)))
def wp_M_decode_b185 (post : Int32 → (Nat → Int32) → (Nat → Int32) → (Nat → Int32) → Prop) (k9 : (Nat → Int32) → (Nat → Int32) → (Nat → Int32) → Int32 → Int32 → Int32 → Int32 → Int32 → Int32 → Prop) (k142 : (Nat → Int32) → (Nat → Int32) → (Nat → Int32) → Int32 → Int32 → Int32 → Int32 → Int32 → Int32 → Int32 → Int32 → Int32 → Int32 → Prop) (I_p0 : Nat → Int32) (f_p0_file : Nat → Int32) (f_p0_many : Nat → Int32) (f_p0_nibs : Nat → Int32) (f_p0_start : Nat → Int32) (x1 : Int32) (x2 : Int32) (x3 : Int32) (x4 : Int32) (x5 : Int32) (x6 : Int32) (x7 : Int32) (x8 : Int32) (x9 : Int32) (x10 : Int32) (s0 : Int32) (s1 : Int32) : Prop :=
  vp_in s1 512 ∧
  k142 f_p0_many (upd f_p0_nibs (s1).toNatClampNeg s0) f_p0_start x1 x2 x3 x4 x5 x6 x7 x8 x9 (x10 + 1)
def wp_M_decode_l142 (post : Int32 → (Nat → Int32) → (Nat → Int32) → (Nat → Int32) → Prop) (k9 : (Nat → Int32) → (Nat → Int32) → (Nat → Int32) → Int32 → Int32 → Int32 → Int32 → Int32 → Int32 → Prop) (I_p0 : Nat → Int32) (f_p0_file : Nat → Int32) : Nat → (Nat → Int32) → (Nat → Int32) → (Nat → Int32) → Int32 → Int32 → Int32 → Int32 → Int32 → Int32 → Int32 → Int32 → Int32 → Int32 → Prop
  | 0, _, _, _, _, _, _, _, _, _, _, _, _, _ => False
  | n + 1, f_p0_many, f_p0_nibs, f_p0_start, x1, x2, x3, x4, x5, x6, x7, x8, x9, x10 =>
    ((x9 ≤ x10 →
      ((110 < x5 →
        wp_M_decode_b217 post k9 I_p0 f_p0_file f_p0_many f_p0_nibs f_p0_start x1 x2 x3 x4 x5 x6 x7 x9) ∧
       (¬ 110 < x5 →
        vp_in x5 120 ∧
        vp_in x5 120 ∧
        wp_M_decode_b217 post k9 I_p0 f_p0_file (upd f_p0_many (x5).toNatClampNeg x9) f_p0_nibs (upd f_p0_start (x5).toNatClampNeg x6) x1 x2 x3 x4 x5 x6 x7 x9))) ∧
     (¬ x9 ≤ x10 →
      ((16 ≤ x7 →
        vp_in x8 120 ∧
        vp_in ((f_p0_start (x8).toNatClampNeg) + x10) 512 ∧
        wp_M_decode_b185 post k9 (wp_M_decode_l142 post k9 I_p0 f_p0_file n) I_p0 f_p0_file f_p0_many f_p0_nibs f_p0_start x1 x2 x3 x4 x5 x6 x7 x8 x9 x10 (f_p0_nibs ((f_p0_start (x8).toNatClampNeg) + x10).toNatClampNeg) (x6 + x10)) ∧
       (¬ 16 ≤ x7 →
        wp_M_decode_b185 post k9 (wp_M_decode_l142 post k9 I_p0 f_p0_file n) I_p0 f_p0_file f_p0_many f_p0_nibs f_p0_start x1 x2 x3 x4 x5 x6 x7 x8 x9 x10 x7 (x6 + x10)))))
def wp_M_decode_b126 (post : Int32 → (Nat → Int32) → (Nat → Int32) → (Nat → Int32) → Prop) (k9 : (Nat → Int32) → (Nat → Int32) → (Nat → Int32) → Int32 → Int32 → Int32 → Int32 → Int32 → Int32 → Prop) (I_p0 : Nat → Int32) (f_p0_file : Nat → Int32) (f_p0_many : Nat → Int32) (f_p0_nibs : Nat → Int32) (f_p0_start : Nat → Int32) (x1 : Int32) (x2 : Int32) (x3 : Int32) (x4 : Int32) (x5 : Int32) (x6 : Int32) (x7 : Int32) (x8 : Int32) (s0 : Int32) : Prop :=
  (((x6 + s0) ≤ x3 →
    (∃ n1 : Nat, wp_M_decode_l142 post k9 I_p0 f_p0_file n1 f_p0_many f_p0_nibs f_p0_start x1 x2 x3 x4 x5 x6 x7 x8 s0 0)) ∧
   (¬ (x6 + s0) ≤ x3 →
    post 0 f_p0_many f_p0_nibs f_p0_start))
def wp_M_decode_b95 (post : Int32 → (Nat → Int32) → (Nat → Int32) → (Nat → Int32) → Prop) (k9 : (Nat → Int32) → (Nat → Int32) → (Nat → Int32) → Int32 → Int32 → Int32 → Int32 → Int32 → Int32 → Prop) (I_p0 : Nat → Int32) (f_p0_file : Nat → Int32) (f_p0_many : Nat → Int32) (f_p0_nibs : Nat → Int32) (f_p0_start : Nat → Int32) (x1 : Int32) (x2 : Int32) (x3 : Int32) (x4 : Int32) (x5 : Int32) (x6 : Int32) (x7 : Int32) (x8 : Int32) : Prop :=
  ((x7 = 16 →
    wp_M_decode_b126 post k9 I_p0 f_p0_file f_p0_many f_p0_nibs f_p0_start x1 x2 x3 x4 x5 x6 x7 x8 0) ∧
   (¬ x7 = 16 →
    ((16 ≤ x7 →
      vp_in x8 120 ∧
      wp_M_decode_b126 post k9 I_p0 f_p0_file f_p0_many f_p0_nibs f_p0_start x1 x2 x3 x4 x5 x6 x7 x8 ((f_p0_many (x8).toNatClampNeg) + 1)) ∧
     (¬ 16 ≤ x7 →
      wp_M_decode_b126 post k9 I_p0 f_p0_file f_p0_many f_p0_nibs f_p0_start x1 x2 x3 x4 x5 x6 x7 x8 1))))
def wp_M_decode_l9 (post : Int32 → (Nat → Int32) → (Nat → Int32) → (Nat → Int32) → Prop) (I_p0 : Nat → Int32) (f_p0_file : Nat → Int32) : Nat → (Nat → Int32) → (Nat → Int32) → (Nat → Int32) → Int32 → Int32 → Int32 → Int32 → Int32 → Int32 → Prop
  | 0, _, _, _, _, _, _, _, _, _ => False
  | n + 1, f_p0_many, f_p0_nibs, f_p0_start, x1, x2, x3, x4, x5, x6 =>
    wp_M_width (fun (r13 : Int32) =>
      (((8 * x2) < (x4 + r13) →
        post 0 f_p0_many f_p0_nibs f_p0_start) ∧
       (¬ (8 * x2) < (x4 + r13) →
        wp_M_width (fun (r30 : Int32) =>
          wp_M_code (fun (r33 : Int32) =>
            wp_M_width (fun (r42 : Int32) =>
              ((r33 = 17 →
                ((x6 = x3 →
                  post 1 f_p0_many f_p0_nibs f_p0_start) ∧
                 (¬ x6 = x3 →
                  post 0 f_p0_many f_p0_nibs f_p0_start))) ∧
               (¬ r33 = 17 →
                (((r33 - 17) ≤ 0 →
                  wp_M_decode_b95 post (wp_M_decode_l9 post I_p0 f_p0_file n) I_p0 f_p0_file f_p0_many f_p0_nibs f_p0_start x1 x2 x3 (x4 + r42) x5 x6 r33 (r33 - 17)) ∧
                 (¬ (r33 - 17) ≤ 0 →
                  ((x5 ≤ (r33 - 17) →
                    post 0 f_p0_many f_p0_nibs f_p0_start) ∧
                   (¬ x5 ≤ (r33 - 17) →
                    ((r33 ≤ 126 →
                      wp_M_decode_b95 post (wp_M_decode_l9 post I_p0 f_p0_file n) I_p0 f_p0_file f_p0_many f_p0_nibs f_p0_start x1 x2 x3 (x4 + r42) x5 x6 r33 (r33 - 17)) ∧
                     (¬ r33 ≤ 126 →
                      post 0 f_p0_many f_p0_nibs f_p0_start))))))))) x5) I_p0 f_p0_file x1 x4 r30) x5))) x5
def wp_M_decode (post : Int32 → (Nat → Int32) → (Nat → Int32) → (Nat → Int32) → Prop) (I_p0 : Nat → Int32) (f_p0_file : Nat → Int32) (f_p0_many : Nat → Int32) (f_p0_nibs : Nat → Int32) (f_p0_start : Nat → Int32) (x1 : Int32) (x2 : Int32) (x3 : Int32) : Prop :=
  (∃ n1 : Nat, wp_M_decode_l9 post I_p0 f_p0_file n1 f_p0_many f_p0_nibs f_p0_start x1 x2 x3 0 1 0)
set_option maxRecDepth 100000 in
set_option maxHeartbeats 4000000 in
theorem c_M_decode (l : Launch) (dC : Nat → ClassId) (dI : Nat → Nat → Nat) (cI : ClassId) (a_p0 : Nat) (A_p0 : Nat → Nat) (I_p0 : Nat → Int32) (f_p0_file : Nat → Int32) (f_p0_many : Nat → Int32) (f_p0_nibs : Nat → Int32) (f_p0_start : Nat → Int32) (x1 : Int32) (x2 : Int32) (x3 : Int32) {post : Int32 → (Nat → Int32) → (Nat → Int32) → (Nat → Int32) → Prop} (hw : wp_M_decode post I_p0 f_p0_file f_p0_many f_p0_nibs f_p0_start x1 x2 x3) : gm_i l y_M_decode ws_M_decode ({ frames := 1, cells := 0, slots := 0, locals := 25 } : Room) (dC, dI) vwCl [(cI, .int)] [.ref a_p0, .int x1, .int x2, .int x3] [oM a_p0 A_p0 I_p0, gz cI (A_p0 0) 2000 f_p0_file, gz cI (A_p0 18) 120 f_p0_many, gz cI (A_p0 16) 512 f_p0_nibs, gz cI (A_p0 17) 120 f_p0_start] (fun (u : (Nat → Int32) × (Nat → Int32) × (Nat → Int32)) => [oM a_p0 A_p0 I_p0, gz cI (A_p0 0) 2000 f_p0_file, gz cI (A_p0 18) 120 u.1, gz cI (A_p0 16) 512 u.2.1, gz cI (A_p0 17) 120 u.2.2]) (fun (r : Int32) (u : (Nat → Int32) × (Nat → Int32) × (Nat → Int32)) => post r u.1 u.2.1 u.2.2) := by
  refine gm_iof (cc := b_M_decode) (maxL := 11) (ty := .boolean) (by decide) rfl (Nat.le_of_ble_eq_true rfl) ?_
  intro p e s m args below meth c A Q hx hb hml hown hg hK hN hA hret
  have hown : s.vm.findClass R_M = some m.cls := hown
  have b239 : ∀ (k9 : (Nat → Int32) → (Nat → Int32) → (Nat → Int32) → Int32 → Int32 → Int32 → Int32 → Int32 → Int32 → Prop), (∀ (H : Heap) (locs : List Loc) (ls : Array Slot) (f_p0_many : Nat → Int32) (f_p0_nibs : Nat → Int32) (f_p0_start : Nat → Int32) (x1 : Int32) (x2 : Int32) (x3 : Int32) (x4 : Int32) (x5 : Int32) (x6 : Int32), va_P (dC, dI) vwCl [oM a_p0 A_p0 I_p0, gz cI (A_p0 0) 2000 f_p0_file, gz cI (A_p0 18) 120 f_p0_many, gz cI (A_p0 16) 512 f_p0_nibs, gz cI (A_p0 17) 120 f_p0_start] H → va_D A [oM a_p0 A_p0 I_p0, gz cI (A_p0 0) 2000 f_p0_file, gz cI (A_p0 18) 120 f_p0_many, gz cI (A_p0 16) 512 f_p0_nibs, gz cI (A_p0 17) 120 f_p0_start] → va_S A s.heap H locs → lv_has ls 11 [(0, .ref a_p0), (1, .int x1), (2, .int x2), (3, .int x3), (4, .int x4), (5, .int x5), (6, .int x6)] → k9 f_p0_many f_p0_nibs f_p0_start x1 x2 x3 x4 x5 x6 → W p l e ({ frames := 1, cells := 0, slots := 0, locals := 25 } : Room) s m args below meth c H locs 0 0 Q (F0 m 9 ls [])) → ∀ (H : Heap) (locs : List Loc) (ls : Array Slot) (f_p0_many : Nat → Int32) (f_p0_nibs : Nat → Int32) (f_p0_start : Nat → Int32) (x1 : Int32) (x2 : Int32) (x3 : Int32) (x4 : Int32) (x6 : Int32) (s0 : Int32), va_P (dC, dI) vwCl [oM a_p0 A_p0 I_p0, gz cI (A_p0 0) 2000 f_p0_file, gz cI (A_p0 18) 120 f_p0_many, gz cI (A_p0 16) 512 f_p0_nibs, gz cI (A_p0 17) 120 f_p0_start] H → va_D A [oM a_p0 A_p0 I_p0, gz cI (A_p0 0) 2000 f_p0_file, gz cI (A_p0 18) 120 f_p0_many, gz cI (A_p0 16) 512 f_p0_nibs, gz cI (A_p0 17) 120 f_p0_start] → va_S A s.heap H locs → lv_has ls 11 [(0, .ref a_p0), (1, .int x1), (2, .int x2), (3, .int x3), (4, .int x4), (6, .int x6)] → wp_M_decode_b239 post k9 I_p0 f_p0_file f_p0_many f_p0_nibs f_p0_start x1 x2 x3 x4 x6 s0 → W p l e ({ frames := 1, cells := 0, slots := 0, locals := 25 } : Room) s m args below meth c H locs 0 0 Q (F0 m 239 ls [.int s0]) := by
    intro k9 hk9 H locs ls f_p0_many f_p0_nibs f_p0_start x1 x2 x3 x4 x6 s0 hP hD hS hl hw
    unfold wp_M_decode_b239 at hw
    refine lv_istore (lv' := [(5, .int s0), (0, .ref a_p0), (1, .int x1), (2, .int x2), (3, .int x3), (4, .int x4), (6, .int x6)]) hx hb d_M_decode_239 hl (by decide) rfl (fun ls hl => ?_)
    refine lv_goto hx hb d_M_decode_241 rfl ?_
    exact hk9 _ _ _ f_p0_many f_p0_nibs f_p0_start x1 x2 x3 x4 s0 x6 hP hD hS (lv_sub hl [1, 2, 3, 4, 5, 0, 6] rfl) hw
  have b217 : ∀ (k9 : (Nat → Int32) → (Nat → Int32) → (Nat → Int32) → Int32 → Int32 → Int32 → Int32 → Int32 → Int32 → Prop), (∀ (H : Heap) (locs : List Loc) (ls : Array Slot) (f_p0_many : Nat → Int32) (f_p0_nibs : Nat → Int32) (f_p0_start : Nat → Int32) (x1 : Int32) (x2 : Int32) (x3 : Int32) (x4 : Int32) (x5 : Int32) (x6 : Int32), va_P (dC, dI) vwCl [oM a_p0 A_p0 I_p0, gz cI (A_p0 0) 2000 f_p0_file, gz cI (A_p0 18) 120 f_p0_many, gz cI (A_p0 16) 512 f_p0_nibs, gz cI (A_p0 17) 120 f_p0_start] H → va_D A [oM a_p0 A_p0 I_p0, gz cI (A_p0 0) 2000 f_p0_file, gz cI (A_p0 18) 120 f_p0_many, gz cI (A_p0 16) 512 f_p0_nibs, gz cI (A_p0 17) 120 f_p0_start] → va_S A s.heap H locs → lv_has ls 11 [(0, .ref a_p0), (1, .int x1), (2, .int x2), (3, .int x3), (4, .int x4), (5, .int x5), (6, .int x6)] → k9 f_p0_many f_p0_nibs f_p0_start x1 x2 x3 x4 x5 x6 → W p l e ({ frames := 1, cells := 0, slots := 0, locals := 25 } : Room) s m args below meth c H locs 0 0 Q (F0 m 9 ls [])) → ∀ (H : Heap) (locs : List Loc) (ls : Array Slot) (f_p0_many : Nat → Int32) (f_p0_nibs : Nat → Int32) (f_p0_start : Nat → Int32) (x1 : Int32) (x2 : Int32) (x3 : Int32) (x4 : Int32) (x5 : Int32) (x6 : Int32) (x7 : Int32) (x9 : Int32), va_P (dC, dI) vwCl [oM a_p0 A_p0 I_p0, gz cI (A_p0 0) 2000 f_p0_file, gz cI (A_p0 18) 120 f_p0_many, gz cI (A_p0 16) 512 f_p0_nibs, gz cI (A_p0 17) 120 f_p0_start] H → va_D A [oM a_p0 A_p0 I_p0, gz cI (A_p0 0) 2000 f_p0_file, gz cI (A_p0 18) 120 f_p0_many, gz cI (A_p0 16) 512 f_p0_nibs, gz cI (A_p0 17) 120 f_p0_start] → va_S A s.heap H locs → lv_has ls 11 [(0, .ref a_p0), (1, .int x1), (2, .int x2), (3, .int x3), (4, .int x4), (5, .int x5), (6, .int x6), (7, .int x7), (9, .int x9)] → wp_M_decode_b217 post k9 I_p0 f_p0_file f_p0_many f_p0_nibs f_p0_start x1 x2 x3 x4 x5 x6 x7 x9 → W p l e ({ frames := 1, cells := 0, slots := 0, locals := 25 } : Room) s m args below meth c H locs 0 0 Q (F0 m 217 ls []) := by
    intro k9 hk9 H locs ls f_p0_many f_p0_nibs f_p0_start x1 x2 x3 x4 x5 x6 x7 x9 hP hD hS hl hw
    unfold wp_M_decode_b217 at hw
    refine lv_iload hx hb d_M_decode_217 (lv_at hl 6 rfl) ?_
    refine lv_iload hx hb d_M_decode_219 (lv_at hl 8 rfl) ?_
    refine lv_iadd hx hb d_M_decode_221 ?_
    refine lv_istore (lv' := [(6, .int (x6 + x9)), (0, .ref a_p0), (1, .int x1), (2, .int x2), (3, .int x3), (4, .int x4), (5, .int x5), (7, .int x7), (9, .int x9)]) hx hb d_M_decode_222 hl (by decide) rfl (fun ls hl => ?_)
    refine lv_iload hx hb d_M_decode_224 (lv_at hl 7 rfl) ?_
    refine lv_bipush (v := 16) hx hb d_M_decode_226 (by decide) ?_
    refine lv_icmp_ne hx hb d_M_decode_228 rfl (fun hc => ?_) (fun hc => ?_)
    · have hw := hw.2 hc
      refine lv_iload hx hb d_M_decode_235 (lv_at hl 6 rfl) ?_
      refine lv_iconst (v := 1) hx hb d_M_decode_237 (by decide) ?_
      refine lv_iadd hx hb d_M_decode_238 ?_
      exact b239 _ hk9 _ _ _ f_p0_many f_p0_nibs f_p0_start x1 x2 x3 x4 (x6 + x9) (x5 + 1) hP hD hS (lv_sub hl [1, 2, 3, 4, 5, 0] rfl) hw
    · have hw := hw.1 hc
      refine lv_iconst (v := 1) hx hb d_M_decode_231 (by decide) ?_
      refine lv_goto hx hb d_M_decode_232 rfl ?_
      exact b239 _ hk9 _ _ _ f_p0_many f_p0_nibs f_p0_start x1 x2 x3 x4 (x6 + x9) 1 hP hD hS (lv_sub hl [1, 2, 3, 4, 5, 0] rfl) hw
  have b185 : ∀ (k9 : (Nat → Int32) → (Nat → Int32) → (Nat → Int32) → Int32 → Int32 → Int32 → Int32 → Int32 → Int32 → Prop), (∀ (H : Heap) (locs : List Loc) (ls : Array Slot) (f_p0_many : Nat → Int32) (f_p0_nibs : Nat → Int32) (f_p0_start : Nat → Int32) (x1 : Int32) (x2 : Int32) (x3 : Int32) (x4 : Int32) (x5 : Int32) (x6 : Int32), va_P (dC, dI) vwCl [oM a_p0 A_p0 I_p0, gz cI (A_p0 0) 2000 f_p0_file, gz cI (A_p0 18) 120 f_p0_many, gz cI (A_p0 16) 512 f_p0_nibs, gz cI (A_p0 17) 120 f_p0_start] H → va_D A [oM a_p0 A_p0 I_p0, gz cI (A_p0 0) 2000 f_p0_file, gz cI (A_p0 18) 120 f_p0_many, gz cI (A_p0 16) 512 f_p0_nibs, gz cI (A_p0 17) 120 f_p0_start] → va_S A s.heap H locs → lv_has ls 11 [(0, .ref a_p0), (1, .int x1), (2, .int x2), (3, .int x3), (4, .int x4), (5, .int x5), (6, .int x6)] → k9 f_p0_many f_p0_nibs f_p0_start x1 x2 x3 x4 x5 x6 → W p l e ({ frames := 1, cells := 0, slots := 0, locals := 25 } : Room) s m args below meth c H locs 0 0 Q (F0 m 9 ls [])) → ∀ (k142 : (Nat → Int32) → (Nat → Int32) → (Nat → Int32) → Int32 → Int32 → Int32 → Int32 → Int32 → Int32 → Int32 → Int32 → Int32 → Int32 → Prop), (∀ (H : Heap) (locs : List Loc) (ls : Array Slot) (f_p0_many : Nat → Int32) (f_p0_nibs : Nat → Int32) (f_p0_start : Nat → Int32) (x1 : Int32) (x2 : Int32) (x3 : Int32) (x4 : Int32) (x5 : Int32) (x6 : Int32) (x7 : Int32) (x8 : Int32) (x9 : Int32) (x10 : Int32), va_P (dC, dI) vwCl [oM a_p0 A_p0 I_p0, gz cI (A_p0 0) 2000 f_p0_file, gz cI (A_p0 18) 120 f_p0_many, gz cI (A_p0 16) 512 f_p0_nibs, gz cI (A_p0 17) 120 f_p0_start] H → va_D A [oM a_p0 A_p0 I_p0, gz cI (A_p0 0) 2000 f_p0_file, gz cI (A_p0 18) 120 f_p0_many, gz cI (A_p0 16) 512 f_p0_nibs, gz cI (A_p0 17) 120 f_p0_start] → va_S A s.heap H locs → lv_has ls 11 [(0, .ref a_p0), (1, .int x1), (2, .int x2), (3, .int x3), (4, .int x4), (5, .int x5), (6, .int x6), (7, .int x7), (8, .int x8), (9, .int x9), (10, .int x10)] → k142 f_p0_many f_p0_nibs f_p0_start x1 x2 x3 x4 x5 x6 x7 x8 x9 x10 → W p l e ({ frames := 1, cells := 0, slots := 0, locals := 25 } : Room) s m args below meth c H locs 0 0 Q (F0 m 142 ls [])) → ∀ (H : Heap) (locs : List Loc) (ls : Array Slot) (f_p0_many : Nat → Int32) (f_p0_nibs : Nat → Int32) (f_p0_start : Nat → Int32) (x1 : Int32) (x2 : Int32) (x3 : Int32) (x4 : Int32) (x5 : Int32) (x6 : Int32) (x7 : Int32) (x8 : Int32) (x9 : Int32) (x10 : Int32) (s0 : Int32) (s1 : Int32), va_P (dC, dI) vwCl [oM a_p0 A_p0 I_p0, gz cI (A_p0 0) 2000 f_p0_file, gz cI (A_p0 18) 120 f_p0_many, gz cI (A_p0 16) 512 f_p0_nibs, gz cI (A_p0 17) 120 f_p0_start] H → va_D A [oM a_p0 A_p0 I_p0, gz cI (A_p0 0) 2000 f_p0_file, gz cI (A_p0 18) 120 f_p0_many, gz cI (A_p0 16) 512 f_p0_nibs, gz cI (A_p0 17) 120 f_p0_start] → va_S A s.heap H locs → lv_has ls 11 [(0, .ref a_p0), (1, .int x1), (2, .int x2), (3, .int x3), (4, .int x4), (5, .int x5), (6, .int x6), (7, .int x7), (8, .int x8), (9, .int x9), (10, .int x10)] → wp_M_decode_b185 post k9 k142 I_p0 f_p0_file f_p0_many f_p0_nibs f_p0_start x1 x2 x3 x4 x5 x6 x7 x8 x9 x10 s0 s1 → W p l e ({ frames := 1, cells := 0, slots := 0, locals := 25 } : Room) s m args below meth c H locs 0 0 Q (F0 m 185 ls [.int s0, .int s1, .ref (A_p0 16)]) := by
    intro k9 hk9 k142 hk142 H locs ls f_p0_many f_p0_nibs f_p0_start x1 x2 x3 x4 x5 x6 x7 x8 x9 x10 s0 s1 hP hD hS hl hw
    unfold wp_M_decode_b185 at hw
    obtain ⟨hin, hw⟩ := hw
    refine va_iast hx hb hK hP hD hS 3 0 rfl rfl hin d_M_decode_185 (fun H locs hP hD hS => ?_)
    have hP : va_P (dC, dI) vwCl [oM a_p0 A_p0 I_p0, gz cI (A_p0 0) 2000 f_p0_file, gz cI (A_p0 18) 120 f_p0_many, gz cI (A_p0 16) 512 (upd f_p0_nibs (s1).toNatClampNeg s0), gz cI (A_p0 17) 120 f_p0_start] H := hP
    have hD : va_D A [oM a_p0 A_p0 I_p0, gz cI (A_p0 0) 2000 f_p0_file, gz cI (A_p0 18) 120 f_p0_many, gz cI (A_p0 16) 512 (upd f_p0_nibs (s1).toNatClampNeg s0), gz cI (A_p0 17) 120 f_p0_start] := hD
    refine lv_iinc (k := 10) (v := (x10 + 1)) (lv' := [(10, .int (x10 + 1)), (0, .ref a_p0), (1, .int x1), (2, .int x2), (3, .int x3), (4, .int x4), (5, .int x5), (6, .int x6), (7, .int x7), (8, .int x8), (9, .int x9)]) hx hb d_M_decode_186 hl rfl (congrArg (fun z => x10 + z) (by decide : Int32.ofInt 1 = 1)) (by decide) rfl (fun ls hl => ?_)
    refine lv_goto hx hb d_M_decode_189 rfl ?_
    exact hk142 _ _ _ f_p0_many (upd f_p0_nibs (s1).toNatClampNeg s0) f_p0_start x1 x2 x3 x4 x5 x6 x7 x8 x9 (x10 + 1) hP hD hS (lv_sub hl [1, 2, 3, 4, 5, 6, 7, 8, 9, 10, 0] rfl) hw
  have l142 : ∀ (k9 : (Nat → Int32) → (Nat → Int32) → (Nat → Int32) → Int32 → Int32 → Int32 → Int32 → Int32 → Int32 → Prop), (∀ (H : Heap) (locs : List Loc) (ls : Array Slot) (f_p0_many : Nat → Int32) (f_p0_nibs : Nat → Int32) (f_p0_start : Nat → Int32) (x1 : Int32) (x2 : Int32) (x3 : Int32) (x4 : Int32) (x5 : Int32) (x6 : Int32), va_P (dC, dI) vwCl [oM a_p0 A_p0 I_p0, gz cI (A_p0 0) 2000 f_p0_file, gz cI (A_p0 18) 120 f_p0_many, gz cI (A_p0 16) 512 f_p0_nibs, gz cI (A_p0 17) 120 f_p0_start] H → va_D A [oM a_p0 A_p0 I_p0, gz cI (A_p0 0) 2000 f_p0_file, gz cI (A_p0 18) 120 f_p0_many, gz cI (A_p0 16) 512 f_p0_nibs, gz cI (A_p0 17) 120 f_p0_start] → va_S A s.heap H locs → lv_has ls 11 [(0, .ref a_p0), (1, .int x1), (2, .int x2), (3, .int x3), (4, .int x4), (5, .int x5), (6, .int x6)] → k9 f_p0_many f_p0_nibs f_p0_start x1 x2 x3 x4 x5 x6 → W p l e ({ frames := 1, cells := 0, slots := 0, locals := 25 } : Room) s m args below meth c H locs 0 0 Q (F0 m 9 ls [])) → ∀ n : Nat, ∀ (H : Heap) (locs : List Loc) (ls : Array Slot) (f_p0_many : Nat → Int32) (f_p0_nibs : Nat → Int32) (f_p0_start : Nat → Int32) (x1 : Int32) (x2 : Int32) (x3 : Int32) (x4 : Int32) (x5 : Int32) (x6 : Int32) (x7 : Int32) (x8 : Int32) (x9 : Int32) (x10 : Int32), va_P (dC, dI) vwCl [oM a_p0 A_p0 I_p0, gz cI (A_p0 0) 2000 f_p0_file, gz cI (A_p0 18) 120 f_p0_many, gz cI (A_p0 16) 512 f_p0_nibs, gz cI (A_p0 17) 120 f_p0_start] H → va_D A [oM a_p0 A_p0 I_p0, gz cI (A_p0 0) 2000 f_p0_file, gz cI (A_p0 18) 120 f_p0_many, gz cI (A_p0 16) 512 f_p0_nibs, gz cI (A_p0 17) 120 f_p0_start] → va_S A s.heap H locs → lv_has ls 11 [(0, .ref a_p0), (1, .int x1), (2, .int x2), (3, .int x3), (4, .int x4), (5, .int x5), (6, .int x6), (7, .int x7), (8, .int x8), (9, .int x9), (10, .int x10)] → wp_M_decode_l142 post k9 I_p0 f_p0_file n f_p0_many f_p0_nibs f_p0_start x1 x2 x3 x4 x5 x6 x7 x8 x9 x10 → W p l e ({ frames := 1, cells := 0, slots := 0, locals := 25 } : Room) s m args below meth c H locs 0 0 Q (F0 m 142 ls []) := by
    intro k9 hk9 n
    induction n with
    | zero => intro H locs ls f_p0_many f_p0_nibs f_p0_start x1 x2 x3 x4 x5 x6 x7 x8 x9 x10 hP hD hS hl hw; exact hw.elim
    | succ n ih =>
      intro H locs ls f_p0_many f_p0_nibs f_p0_start x1 x2 x3 x4 x5 x6 x7 x8 x9 x10 hP hD hS hl hw
      unfold wp_M_decode_l142 at hw
      refine lv_iload hx hb d_M_decode_142 (lv_at hl 10 rfl) ?_
      refine lv_iload hx hb d_M_decode_144 (lv_at hl 9 rfl) ?_
      refine lv_icmp_ge hx hb d_M_decode_146 rfl (fun hc => ?_) (fun hc => ?_)
      · have hw := hw.1 hc
        refine lv_iload hx hb d_M_decode_192 (lv_at hl 5 rfl) ?_
        refine lv_bipush (v := 110) hx hb d_M_decode_194 (by decide) ?_
        refine lv_icmp_gt hx hb d_M_decode_196 rfl (fun hc => ?_) (fun hc => ?_)
        · have hw := hw.1 hc
          exact b217 _ hk9 _ _ _ f_p0_many f_p0_nibs f_p0_start x1 x2 x3 x4 x5 x6 x7 x9 hP hD hS (lv_sub hl [0, 1, 2, 3, 4, 5, 6, 7, 9] rfl) hw
        · have hw := hw.2 hc
          refine lv_aload_n hx hb d_M_decode_199 rfl (lv_at hl 0 rfl) ?_
          refine va_get (D := (dC, dI)) (ci := 10) (v := .ref (A_p0 17)) (C := R_M) (T := T_M) (N := 30) hx hb hg in_M hown hK hP 0 rfl rfl 17 (by decide) (hg _ t_775) (fun _ h9 => h9) rfl d_M_decode_200 ?_
          refine lv_iload hx hb d_M_decode_203 (lv_at hl 5 rfl) ?_
          refine lv_iload hx hb d_M_decode_205 (lv_at hl 6 rfl) ?_
          obtain ⟨hin, hw⟩ := hw
          refine va_iast hx hb hK hP hD hS 4 0 rfl rfl hin d_M_decode_207 (fun H locs hP hD hS => ?_)
          have hP : va_P (dC, dI) vwCl [oM a_p0 A_p0 I_p0, gz cI (A_p0 0) 2000 f_p0_file, gz cI (A_p0 18) 120 f_p0_many, gz cI (A_p0 16) 512 f_p0_nibs, gz cI (A_p0 17) 120 (upd f_p0_start (x5).toNatClampNeg x6)] H := hP
          have hD : va_D A [oM a_p0 A_p0 I_p0, gz cI (A_p0 0) 2000 f_p0_file, gz cI (A_p0 18) 120 f_p0_many, gz cI (A_p0 16) 512 f_p0_nibs, gz cI (A_p0 17) 120 (upd f_p0_start (x5).toNatClampNeg x6)] := hD
          refine lv_aload_n hx hb d_M_decode_208 rfl (lv_at hl 0 rfl) ?_
          refine va_get (D := (dC, dI)) (ci := 10) (v := .ref (A_p0 18)) (C := R_M) (T := T_M) (N := 30) hx hb hg in_M hown hK hP 0 rfl rfl 18 (by decide) (hg _ t_776) (fun _ h9 => h9) rfl d_M_decode_209 ?_
          refine lv_iload hx hb d_M_decode_212 (lv_at hl 5 rfl) ?_
          refine lv_iload hx hb d_M_decode_214 (lv_at hl 9 rfl) ?_
          obtain ⟨hin, hw⟩ := hw
          refine va_iast hx hb hK hP hD hS 2 0 rfl rfl hin d_M_decode_216 (fun H locs hP hD hS => ?_)
          have hP : va_P (dC, dI) vwCl [oM a_p0 A_p0 I_p0, gz cI (A_p0 0) 2000 f_p0_file, gz cI (A_p0 18) 120 (upd f_p0_many (x5).toNatClampNeg x9), gz cI (A_p0 16) 512 f_p0_nibs, gz cI (A_p0 17) 120 (upd f_p0_start (x5).toNatClampNeg x6)] H := hP
          have hD : va_D A [oM a_p0 A_p0 I_p0, gz cI (A_p0 0) 2000 f_p0_file, gz cI (A_p0 18) 120 (upd f_p0_many (x5).toNatClampNeg x9), gz cI (A_p0 16) 512 f_p0_nibs, gz cI (A_p0 17) 120 (upd f_p0_start (x5).toNatClampNeg x6)] := hD
          exact b217 _ hk9 _ _ _ (upd f_p0_many (x5).toNatClampNeg x9) f_p0_nibs (upd f_p0_start (x5).toNatClampNeg x6) x1 x2 x3 x4 x5 x6 x7 x9 hP hD hS (lv_sub hl [0, 1, 2, 3, 4, 5, 6, 7, 9] rfl) hw
      · have hw := hw.2 hc
        refine lv_aload_n hx hb d_M_decode_149 rfl (lv_at hl 0 rfl) ?_
        refine va_get (D := (dC, dI)) (ci := 10) (v := .ref (A_p0 16)) (C := R_M) (T := T_M) (N := 30) hx hb hg in_M hown hK hP 0 rfl rfl 16 (by decide) (hg _ t_774) (fun _ h9 => h9) rfl d_M_decode_150 ?_
        refine lv_iload hx hb d_M_decode_153 (lv_at hl 6 rfl) ?_
        refine lv_iload hx hb d_M_decode_155 (lv_at hl 10 rfl) ?_
        refine lv_iadd hx hb d_M_decode_157 ?_
        refine lv_iload hx hb d_M_decode_158 (lv_at hl 7 rfl) ?_
        refine lv_bipush (v := 16) hx hb d_M_decode_160 (by decide) ?_
        refine lv_icmp_ge hx hb d_M_decode_162 rfl (fun hc => ?_) (fun hc => ?_)
        · have hw := hw.1 hc
          refine lv_aload_n hx hb d_M_decode_170 rfl (lv_at hl 0 rfl) ?_
          refine va_get (D := (dC, dI)) (ci := 10) (v := .ref (A_p0 16)) (C := R_M) (T := T_M) (N := 30) hx hb hg in_M hown hK hP 0 rfl rfl 16 (by decide) (hg _ t_774) (fun _ h9 => h9) rfl d_M_decode_171 ?_
          refine lv_aload_n hx hb d_M_decode_174 rfl (lv_at hl 0 rfl) ?_
          refine va_get (D := (dC, dI)) (ci := 10) (v := .ref (A_p0 17)) (C := R_M) (T := T_M) (N := 30) hx hb hg in_M hown hK hP 0 rfl rfl 17 (by decide) (hg _ t_775) (fun _ h9 => h9) rfl d_M_decode_175 ?_
          refine lv_iload hx hb d_M_decode_178 (lv_at hl 8 rfl) ?_
          obtain ⟨hin, hw⟩ := hw
          refine va_iald hx hb hK hP 4 0 rfl rfl hin d_M_decode_180 ?_
          refine lv_iload hx hb d_M_decode_181 (lv_at hl 10 rfl) ?_
          refine lv_iadd hx hb d_M_decode_183 ?_
          obtain ⟨hin, hw⟩ := hw
          refine va_iald hx hb hK hP 3 0 rfl rfl hin d_M_decode_184 ?_
          exact b185 _ hk9 _ ih _ _ _ f_p0_many f_p0_nibs f_p0_start x1 x2 x3 x4 x5 x6 x7 x8 x9 x10 (f_p0_nibs ((f_p0_start (x8).toNatClampNeg) + x10).toNatClampNeg) (x6 + x10) hP hD hS (lv_sub hl [0, 1, 2, 3, 4, 5, 6, 7, 8, 9, 10] rfl) hw
        · have hw := hw.2 hc
          refine lv_iload hx hb d_M_decode_165 (lv_at hl 7 rfl) ?_
          refine lv_goto hx hb d_M_decode_167 rfl ?_
          exact b185 _ hk9 _ ih _ _ _ f_p0_many f_p0_nibs f_p0_start x1 x2 x3 x4 x5 x6 x7 x8 x9 x10 x7 (x6 + x10) hP hD hS (lv_sub hl [0, 1, 2, 3, 4, 5, 6, 7, 8, 9, 10] rfl) hw
  have b126 : ∀ (k9 : (Nat → Int32) → (Nat → Int32) → (Nat → Int32) → Int32 → Int32 → Int32 → Int32 → Int32 → Int32 → Prop), (∀ (H : Heap) (locs : List Loc) (ls : Array Slot) (f_p0_many : Nat → Int32) (f_p0_nibs : Nat → Int32) (f_p0_start : Nat → Int32) (x1 : Int32) (x2 : Int32) (x3 : Int32) (x4 : Int32) (x5 : Int32) (x6 : Int32), va_P (dC, dI) vwCl [oM a_p0 A_p0 I_p0, gz cI (A_p0 0) 2000 f_p0_file, gz cI (A_p0 18) 120 f_p0_many, gz cI (A_p0 16) 512 f_p0_nibs, gz cI (A_p0 17) 120 f_p0_start] H → va_D A [oM a_p0 A_p0 I_p0, gz cI (A_p0 0) 2000 f_p0_file, gz cI (A_p0 18) 120 f_p0_many, gz cI (A_p0 16) 512 f_p0_nibs, gz cI (A_p0 17) 120 f_p0_start] → va_S A s.heap H locs → lv_has ls 11 [(0, .ref a_p0), (1, .int x1), (2, .int x2), (3, .int x3), (4, .int x4), (5, .int x5), (6, .int x6)] → k9 f_p0_many f_p0_nibs f_p0_start x1 x2 x3 x4 x5 x6 → W p l e ({ frames := 1, cells := 0, slots := 0, locals := 25 } : Room) s m args below meth c H locs 0 0 Q (F0 m 9 ls [])) → ∀ (H : Heap) (locs : List Loc) (ls : Array Slot) (f_p0_many : Nat → Int32) (f_p0_nibs : Nat → Int32) (f_p0_start : Nat → Int32) (x1 : Int32) (x2 : Int32) (x3 : Int32) (x4 : Int32) (x5 : Int32) (x6 : Int32) (x7 : Int32) (x8 : Int32) (s0 : Int32), va_P (dC, dI) vwCl [oM a_p0 A_p0 I_p0, gz cI (A_p0 0) 2000 f_p0_file, gz cI (A_p0 18) 120 f_p0_many, gz cI (A_p0 16) 512 f_p0_nibs, gz cI (A_p0 17) 120 f_p0_start] H → va_D A [oM a_p0 A_p0 I_p0, gz cI (A_p0 0) 2000 f_p0_file, gz cI (A_p0 18) 120 f_p0_many, gz cI (A_p0 16) 512 f_p0_nibs, gz cI (A_p0 17) 120 f_p0_start] → va_S A s.heap H locs → lv_has ls 11 [(0, .ref a_p0), (1, .int x1), (2, .int x2), (3, .int x3), (4, .int x4), (5, .int x5), (6, .int x6), (7, .int x7), (8, .int x8)] → wp_M_decode_b126 post k9 I_p0 f_p0_file f_p0_many f_p0_nibs f_p0_start x1 x2 x3 x4 x5 x6 x7 x8 s0 → W p l e ({ frames := 1, cells := 0, slots := 0, locals := 25 } : Room) s m args below meth c H locs 0 0 Q (F0 m 126 ls [.int s0]) := by
    intro k9 hk9 H locs ls f_p0_many f_p0_nibs f_p0_start x1 x2 x3 x4 x5 x6 x7 x8 s0 hP hD hS hl hw
    unfold wp_M_decode_b126 at hw
    refine lv_istore (lv' := [(9, .int s0), (0, .ref a_p0), (1, .int x1), (2, .int x2), (3, .int x3), (4, .int x4), (5, .int x5), (6, .int x6), (7, .int x7), (8, .int x8)]) hx hb d_M_decode_126 hl (by decide) rfl (fun ls hl => ?_)
    refine lv_iload hx hb d_M_decode_128 (lv_at hl 7 rfl) ?_
    refine lv_iload hx hb d_M_decode_130 (lv_at hl 0 rfl) ?_
    refine lv_iadd hx hb d_M_decode_132 ?_
    refine lv_iload_n hx hb d_M_decode_133 rfl (lv_at hl 4 rfl) ?_
    refine lv_icmp_le hx hb d_M_decode_134 rfl (fun hc => ?_) (fun hc => ?_)
    · have hw := hw.1 hc
      refine lv_iconst (v := 0) hx hb d_M_decode_139 (by decide) ?_
      refine lv_istore (lv' := [(10, .int 0), (9, .int s0), (0, .ref a_p0), (1, .int x1), (2, .int x2), (3, .int x3), (4, .int x4), (5, .int x5), (6, .int x6), (7, .int x7), (8, .int x8)]) hx hb d_M_decode_140 hl (by decide) rfl (fun ls hl => ?_)
      obtain ⟨n1, hw⟩ := hw
      exact l142 _ hk9 n1 _ _ _ f_p0_many f_p0_nibs f_p0_start x1 x2 x3 x4 x5 x6 x7 x8 s0 0 hP hD hS (lv_sub hl [2, 3, 4, 5, 6, 7, 8, 9, 10, 1, 0] rfl) hw
    · have hw := hw.2 hc
      refine lv_iconst (v := 0) hx hb d_M_decode_137 (by decide) ?_
      exact hret _ _ _ _ _ (f_p0_many, f_p0_nibs, f_p0_start) d_M_decode_138 rfl hP hD hS hw
  have b95 : ∀ (k9 : (Nat → Int32) → (Nat → Int32) → (Nat → Int32) → Int32 → Int32 → Int32 → Int32 → Int32 → Int32 → Prop), (∀ (H : Heap) (locs : List Loc) (ls : Array Slot) (f_p0_many : Nat → Int32) (f_p0_nibs : Nat → Int32) (f_p0_start : Nat → Int32) (x1 : Int32) (x2 : Int32) (x3 : Int32) (x4 : Int32) (x5 : Int32) (x6 : Int32), va_P (dC, dI) vwCl [oM a_p0 A_p0 I_p0, gz cI (A_p0 0) 2000 f_p0_file, gz cI (A_p0 18) 120 f_p0_many, gz cI (A_p0 16) 512 f_p0_nibs, gz cI (A_p0 17) 120 f_p0_start] H → va_D A [oM a_p0 A_p0 I_p0, gz cI (A_p0 0) 2000 f_p0_file, gz cI (A_p0 18) 120 f_p0_many, gz cI (A_p0 16) 512 f_p0_nibs, gz cI (A_p0 17) 120 f_p0_start] → va_S A s.heap H locs → lv_has ls 11 [(0, .ref a_p0), (1, .int x1), (2, .int x2), (3, .int x3), (4, .int x4), (5, .int x5), (6, .int x6)] → k9 f_p0_many f_p0_nibs f_p0_start x1 x2 x3 x4 x5 x6 → W p l e ({ frames := 1, cells := 0, slots := 0, locals := 25 } : Room) s m args below meth c H locs 0 0 Q (F0 m 9 ls [])) → ∀ (H : Heap) (locs : List Loc) (ls : Array Slot) (f_p0_many : Nat → Int32) (f_p0_nibs : Nat → Int32) (f_p0_start : Nat → Int32) (x1 : Int32) (x2 : Int32) (x3 : Int32) (x4 : Int32) (x5 : Int32) (x6 : Int32) (x7 : Int32) (x8 : Int32), va_P (dC, dI) vwCl [oM a_p0 A_p0 I_p0, gz cI (A_p0 0) 2000 f_p0_file, gz cI (A_p0 18) 120 f_p0_many, gz cI (A_p0 16) 512 f_p0_nibs, gz cI (A_p0 17) 120 f_p0_start] H → va_D A [oM a_p0 A_p0 I_p0, gz cI (A_p0 0) 2000 f_p0_file, gz cI (A_p0 18) 120 f_p0_many, gz cI (A_p0 16) 512 f_p0_nibs, gz cI (A_p0 17) 120 f_p0_start] → va_S A s.heap H locs → lv_has ls 11 [(0, .ref a_p0), (1, .int x1), (2, .int x2), (3, .int x3), (4, .int x4), (5, .int x5), (6, .int x6), (7, .int x7), (8, .int x8)] → wp_M_decode_b95 post k9 I_p0 f_p0_file f_p0_many f_p0_nibs f_p0_start x1 x2 x3 x4 x5 x6 x7 x8 → W p l e ({ frames := 1, cells := 0, slots := 0, locals := 25 } : Room) s m args below meth c H locs 0 0 Q (F0 m 95 ls []) := by
    intro k9 hk9 H locs ls f_p0_many f_p0_nibs f_p0_start x1 x2 x3 x4 x5 x6 x7 x8 hP hD hS hl hw
    unfold wp_M_decode_b95 at hw
    refine lv_iload hx hb d_M_decode_95 (lv_at hl 7 rfl) ?_
    refine lv_bipush (v := 16) hx hb d_M_decode_97 (by decide) ?_
    refine lv_icmp_ne hx hb d_M_decode_99 rfl (fun hc => ?_) (fun hc => ?_)
    · have hw := hw.2 hc
      refine lv_iload hx hb d_M_decode_106 (lv_at hl 7 rfl) ?_
      refine lv_bipush (v := 16) hx hb d_M_decode_108 (by decide) ?_
      refine lv_icmp_ge hx hb d_M_decode_110 rfl (fun hc => ?_) (fun hc => ?_)
      · have hw := hw.1 hc
        refine lv_aload_n hx hb d_M_decode_117 rfl (lv_at hl 0 rfl) ?_
        refine va_get (D := (dC, dI)) (ci := 10) (v := .ref (A_p0 18)) (C := R_M) (T := T_M) (N := 30) hx hb hg in_M hown hK hP 0 rfl rfl 18 (by decide) (hg _ t_776) (fun _ h9 => h9) rfl d_M_decode_118 ?_
        refine lv_iload hx hb d_M_decode_121 (lv_at hl 8 rfl) ?_
        obtain ⟨hin, hw⟩ := hw
        refine va_iald hx hb hK hP 2 0 rfl rfl hin d_M_decode_123 ?_
        refine lv_iconst (v := 1) hx hb d_M_decode_124 (by decide) ?_
        refine lv_iadd hx hb d_M_decode_125 ?_
        exact b126 _ hk9 _ _ _ f_p0_many f_p0_nibs f_p0_start x1 x2 x3 x4 x5 x6 x7 x8 ((f_p0_many (x8).toNatClampNeg) + 1) hP hD hS (lv_sub hl [0, 1, 2, 3, 4, 5, 6, 7, 8] rfl) hw
      · have hw := hw.2 hc
        refine lv_iconst (v := 1) hx hb d_M_decode_113 (by decide) ?_
        refine lv_goto hx hb d_M_decode_114 rfl ?_
        exact b126 _ hk9 _ _ _ f_p0_many f_p0_nibs f_p0_start x1 x2 x3 x4 x5 x6 x7 x8 1 hP hD hS (lv_sub hl [0, 1, 2, 3, 4, 5, 6, 7, 8] rfl) hw
    · have hw := hw.1 hc
      refine lv_iconst (v := 0) hx hb d_M_decode_102 (by decide) ?_
      refine lv_goto hx hb d_M_decode_103 rfl ?_
      exact b126 _ hk9 _ _ _ f_p0_many f_p0_nibs f_p0_start x1 x2 x3 x4 x5 x6 x7 x8 0 hP hD hS (lv_sub hl [0, 1, 2, 3, 4, 5, 6, 7, 8] rfl) hw
  have l9 : ∀ n : Nat, ∀ (H : Heap) (locs : List Loc) (ls : Array Slot) (f_p0_many : Nat → Int32) (f_p0_nibs : Nat → Int32) (f_p0_start : Nat → Int32) (x1 : Int32) (x2 : Int32) (x3 : Int32) (x4 : Int32) (x5 : Int32) (x6 : Int32), va_P (dC, dI) vwCl [oM a_p0 A_p0 I_p0, gz cI (A_p0 0) 2000 f_p0_file, gz cI (A_p0 18) 120 f_p0_many, gz cI (A_p0 16) 512 f_p0_nibs, gz cI (A_p0 17) 120 f_p0_start] H → va_D A [oM a_p0 A_p0 I_p0, gz cI (A_p0 0) 2000 f_p0_file, gz cI (A_p0 18) 120 f_p0_many, gz cI (A_p0 16) 512 f_p0_nibs, gz cI (A_p0 17) 120 f_p0_start] → va_S A s.heap H locs → lv_has ls 11 [(0, .ref a_p0), (1, .int x1), (2, .int x2), (3, .int x3), (4, .int x4), (5, .int x5), (6, .int x6)] → wp_M_decode_l9 post I_p0 f_p0_file n f_p0_many f_p0_nibs f_p0_start x1 x2 x3 x4 x5 x6 → W p l e ({ frames := 1, cells := 0, slots := 0, locals := 25 } : Room) s m args below meth c H locs 0 0 Q (F0 m 9 ls []) := by
    intro n
    induction n with
    | zero => intro H locs ls f_p0_many f_p0_nibs f_p0_start x1 x2 x3 x4 x5 x6 hP hD hS hl hw; exact hw.elim
    | succ n ih =>
      intro H locs ls f_p0_many f_p0_nibs f_p0_start x1 x2 x3 x4 x5 x6 hP hD hS hl hw
      unfold wp_M_decode_l9 at hw
      refine lv_iload hx hb d_M_decode_9 (lv_at hl 4 rfl) ?_
      refine lv_iload hx hb d_M_decode_11 (lv_at hl 5 rfl) ?_
      refine gc_i (wn := fun (_ : Unit) => [oM a_p0 A_p0 I_p0, gz cI (A_p0 0) 2000 f_p0_file, gz cI (A_p0 18) 120 f_p0_many, gz cI (A_p0 16) 512 f_p0_nibs, gz cI (A_p0 17) 120 f_p0_start]) (wr := [oM a_p0 A_p0 I_p0, gz cI (A_p0 0) 2000 f_p0_file, gz cI (A_p0 18) 120 f_p0_many, gz cI (A_p0 16) 512 f_p0_nibs, gz cI (A_p0 17) 120 f_p0_start]) (gr_S (As := [.int x5]) (rest := [.int x4]) ⟨hx, hb, hml, hown, hg⟩ (c_M_width l dC dI cI x5 hw _) (va_cwS 1 hg (gg_S t_977 t_978 t_71 t_979) rfl rfl rfl (by decide +kernel) ⟨Nat.le_of_ble_eq_true rfl, Nat.le_of_ble_eq_true rfl⟩) hK hN hP hD [] (by decide) rfl rfl hl.1 rfl (Nat.le_of_ble_eq_true rfl) d_M_decode_13 ⟨Nat.le_of_ble_eq_true rfl, Nat.le_of_ble_eq_true rfl⟩) rfl rfl hP hD hS hA [] [0, 1, 2, 3, 4] [0, 1, 2, 3, 4] rfl rfl (by decide) (by decide) (by decide) (fun _ => rfl) ?_
      intro r13 _ H locs hw hP hD hS
      try dsimp only at hw
      have hP : va_P (dC, dI) vwCl [oM a_p0 A_p0 I_p0, gz cI (A_p0 0) 2000 f_p0_file, gz cI (A_p0 18) 120 f_p0_many, gz cI (A_p0 16) 512 f_p0_nibs, gz cI (A_p0 17) 120 f_p0_start] H := hP
      have hD : va_D A [oM a_p0 A_p0 I_p0, gz cI (A_p0 0) 2000 f_p0_file, gz cI (A_p0 18) 120 f_p0_many, gz cI (A_p0 16) 512 f_p0_nibs, gz cI (A_p0 17) 120 f_p0_start] := hD
      refine lv_iadd hx hb d_M_decode_16 ?_
      refine lv_bipush (v := 8) hx hb d_M_decode_17 (by decide) ?_
      refine lv_iload_n hx hb d_M_decode_19 rfl (lv_at hl 2 rfl) ?_
      refine lv_imul hx hb d_M_decode_20 ?_
      refine lv_icmp_gt hx hb d_M_decode_21 rfl (fun hc => ?_) (fun hc => ?_)
      · have hw := hw.1 hc
        refine lv_iconst (v := 0) hx hb d_M_decode_244 (by decide) ?_
        exact hret _ _ _ _ _ (f_p0_many, f_p0_nibs, f_p0_start) d_M_decode_245 rfl hP hD hS hw
      · have hw := hw.2 hc
        refine lv_aload_n hx hb d_M_decode_24 rfl (lv_at hl 0 rfl) ?_
        refine lv_iload_n hx hb d_M_decode_25 rfl (lv_at hl 1 rfl) ?_
        refine lv_iload hx hb d_M_decode_26 (lv_at hl 4 rfl) ?_
        refine lv_iload hx hb d_M_decode_28 (lv_at hl 5 rfl) ?_
        refine gc_i (wn := fun (_ : Unit) => [oM a_p0 A_p0 I_p0, gz cI (A_p0 0) 2000 f_p0_file, gz cI (A_p0 18) 120 f_p0_many, gz cI (A_p0 16) 512 f_p0_nibs, gz cI (A_p0 17) 120 f_p0_start]) (wr := [oM a_p0 A_p0 I_p0, gz cI (A_p0 0) 2000 f_p0_file, gz cI (A_p0 18) 120 f_p0_many, gz cI (A_p0 16) 512 f_p0_nibs, gz cI (A_p0 17) 120 f_p0_start]) (gr_S (As := [.int x5]) (rest := [.int x4, .int x1, .ref a_p0]) ⟨hx, hb, hml, hown, hg⟩ (c_M_width l dC dI cI x5 hw _) (va_cwS 1 hg (gg_S t_977 t_978 t_71 t_979) rfl rfl rfl (by decide +kernel) ⟨Nat.le_of_ble_eq_true rfl, Nat.le_of_ble_eq_true rfl⟩) hK hN hP hD [] (by decide) rfl rfl hl.1 rfl (Nat.le_of_ble_eq_true rfl) d_M_decode_30 ⟨Nat.le_of_ble_eq_true rfl, Nat.le_of_ble_eq_true rfl⟩) rfl rfl hP hD hS hA [] [0, 1, 2, 3, 4] [0, 1, 2, 3, 4] rfl rfl (by decide) (by decide) (by decide) (fun _ => rfl) ?_
        intro r30 _ H locs hw hP hD hS
        try dsimp only at hw
        have hP : va_P (dC, dI) vwCl [oM a_p0 A_p0 I_p0, gz cI (A_p0 0) 2000 f_p0_file, gz cI (A_p0 18) 120 f_p0_many, gz cI (A_p0 16) 512 f_p0_nibs, gz cI (A_p0 17) 120 f_p0_start] H := hP
        have hD : va_D A [oM a_p0 A_p0 I_p0, gz cI (A_p0 0) 2000 f_p0_file, gz cI (A_p0 18) 120 f_p0_many, gz cI (A_p0 16) 512 f_p0_nibs, gz cI (A_p0 17) 120 f_p0_start] := hD
        refine gc_i (wn := fun (_ : Unit) => [oM a_p0 A_p0 I_p0, gz cI (A_p0 0) 2000 f_p0_file, gz cI (A_p0 18) 120 f_p0_many, gz cI (A_p0 16) 512 f_p0_nibs, gz cI (A_p0 17) 120 f_p0_start]) (wr := [gz cI (A_p0 18) 120 f_p0_many, gz cI (A_p0 16) 512 f_p0_nibs, gz cI (A_p0 17) 120 f_p0_start]) (gr_V (As := [.int x1, .int x4, .int r30]) (rest := []) ⟨hx, hb, hml, hown, hg⟩ (c_M_code l dC dI cI a_p0 A_p0 I_p0 f_p0_file x1 x4 r30 hw _) (cwV 3 hg (gg_V t_1056 t_1058 t_57 t_71 t_1059) rfl rfl rfl (by decide +kernel) ⟨Nat.le_of_ble_eq_true rfl, Nat.le_of_ble_eq_true rfl⟩) hK hN hP hD [0, 1] (by decide) rfl 0 10 rfl rfl rfl rfl hl.1 rfl (Nat.le_of_ble_eq_true rfl) d_M_decode_33 ⟨Nat.le_of_ble_eq_true rfl, Nat.le_of_ble_eq_true rfl⟩) rfl rfl hP hD hS hA [0, 1] [2, 3, 4] [3, 4, 0, 1, 2] rfl rfl (by decide) (by decide) (by decide) (fun _ => rfl) ?_
        intro r33 _ H locs hw hP hD hS
        try dsimp only at hw
        have hP : va_P (dC, dI) vwCl [oM a_p0 A_p0 I_p0, gz cI (A_p0 0) 2000 f_p0_file, gz cI (A_p0 18) 120 f_p0_many, gz cI (A_p0 16) 512 f_p0_nibs, gz cI (A_p0 17) 120 f_p0_start] H := hP
        have hD : va_D A [oM a_p0 A_p0 I_p0, gz cI (A_p0 0) 2000 f_p0_file, gz cI (A_p0 18) 120 f_p0_many, gz cI (A_p0 16) 512 f_p0_nibs, gz cI (A_p0 17) 120 f_p0_start] := hD
        refine lv_istore (lv' := [(7, .int r33), (0, .ref a_p0), (1, .int x1), (2, .int x2), (3, .int x3), (4, .int x4), (5, .int x5), (6, .int x6)]) hx hb d_M_decode_36 hl (by decide) rfl (fun ls hl => ?_)
        refine lv_iload hx hb d_M_decode_38 (lv_at hl 5 rfl) ?_
        refine lv_iload hx hb d_M_decode_40 (lv_at hl 6 rfl) ?_
        refine gc_i (wn := fun (_ : Unit) => [oM a_p0 A_p0 I_p0, gz cI (A_p0 0) 2000 f_p0_file, gz cI (A_p0 18) 120 f_p0_many, gz cI (A_p0 16) 512 f_p0_nibs, gz cI (A_p0 17) 120 f_p0_start]) (wr := [oM a_p0 A_p0 I_p0, gz cI (A_p0 0) 2000 f_p0_file, gz cI (A_p0 18) 120 f_p0_many, gz cI (A_p0 16) 512 f_p0_nibs, gz cI (A_p0 17) 120 f_p0_start]) (gr_S (As := [.int x5]) (rest := [.int x4]) ⟨hx, hb, hml, hown, hg⟩ (c_M_width l dC dI cI x5 hw _) (va_cwS 1 hg (gg_S t_977 t_978 t_71 t_979) rfl rfl rfl (by decide +kernel) ⟨Nat.le_of_ble_eq_true rfl, Nat.le_of_ble_eq_true rfl⟩) hK hN hP hD [] (by decide) rfl rfl hl.1 rfl (Nat.le_of_ble_eq_true rfl) d_M_decode_42 ⟨Nat.le_of_ble_eq_true rfl, Nat.le_of_ble_eq_true rfl⟩) rfl rfl hP hD hS hA [] [0, 1, 2, 3, 4] [0, 1, 2, 3, 4] rfl rfl (by decide) (by decide) (by decide) (fun _ => rfl) ?_
        intro r42 _ H locs hw hP hD hS
        try dsimp only at hw
        have hP : va_P (dC, dI) vwCl [oM a_p0 A_p0 I_p0, gz cI (A_p0 0) 2000 f_p0_file, gz cI (A_p0 18) 120 f_p0_many, gz cI (A_p0 16) 512 f_p0_nibs, gz cI (A_p0 17) 120 f_p0_start] H := hP
        have hD : va_D A [oM a_p0 A_p0 I_p0, gz cI (A_p0 0) 2000 f_p0_file, gz cI (A_p0 18) 120 f_p0_many, gz cI (A_p0 16) 512 f_p0_nibs, gz cI (A_p0 17) 120 f_p0_start] := hD
        refine lv_iadd hx hb d_M_decode_45 ?_
        refine lv_istore (lv' := [(4, .int (x4 + r42)), (7, .int r33), (0, .ref a_p0), (1, .int x1), (2, .int x2), (3, .int x3), (5, .int x5), (6, .int x6)]) hx hb d_M_decode_46 hl (by decide) rfl (fun ls hl => ?_)
        refine lv_iload hx hb d_M_decode_48 (lv_at hl 1 rfl) ?_
        refine lv_bipush (v := 17) hx hb d_M_decode_50 (by decide) ?_
        refine lv_icmp_ne hx hb d_M_decode_52 rfl (fun hc => ?_) (fun hc => ?_)
        · have hw := hw.2 hc
          refine lv_iload hx hb d_M_decode_67 (lv_at hl 1 rfl) ?_
          refine lv_bipush (v := 17) hx hb d_M_decode_69 (by decide) ?_
          refine lv_isub hx hb d_M_decode_71 ?_
          refine lv_istore (lv' := [(8, .int (r33 - 17)), (4, .int (x4 + r42)), (7, .int r33), (0, .ref a_p0), (1, .int x1), (2, .int x2), (3, .int x3), (5, .int x5), (6, .int x6)]) hx hb d_M_decode_72 hl (by decide) rfl (fun ls hl => ?_)
          refine lv_iload hx hb d_M_decode_74 (lv_at hl 0 rfl) ?_
          refine lv_if_le hx hb d_M_decode_76 rfl (fun hc => ?_) (fun hc => ?_)
          · have hw := hw.1 hc
            exact b95 _ ih _ _ _ f_p0_many f_p0_nibs f_p0_start x1 x2 x3 (x4 + r42) x5 x6 r33 (r33 - 17) hP hD hS (lv_sub hl [3, 4, 5, 6, 1, 7, 8, 2, 0] rfl) hw
          · have hw := hw.2 hc
            refine lv_iload hx hb d_M_decode_79 (lv_at hl 0 rfl) ?_
            refine lv_iload hx hb d_M_decode_81 (lv_at hl 7 rfl) ?_
            refine lv_icmp_ge hx hb d_M_decode_83 rfl (fun hc => ?_) (fun hc => ?_)
            · have hw := hw.1 hc
              refine lv_iconst (v := 0) hx hb d_M_decode_93 (by decide) ?_
              exact hret _ _ _ _ _ (f_p0_many, f_p0_nibs, f_p0_start) d_M_decode_94 rfl hP hD hS hw
            · have hw := hw.2 hc
              refine lv_iload hx hb d_M_decode_86 (lv_at hl 2 rfl) ?_
              refine lv_bipush (v := 126) hx hb d_M_decode_88 (by decide) ?_
              refine lv_icmp_le hx hb d_M_decode_90 rfl (fun hc => ?_) (fun hc => ?_)
              · have hw := hw.1 hc
                exact b95 _ ih _ _ _ f_p0_many f_p0_nibs f_p0_start x1 x2 x3 (x4 + r42) x5 x6 r33 (r33 - 17) hP hD hS (lv_sub hl [3, 4, 5, 6, 1, 7, 8, 2, 0] rfl) hw
              · have hw := hw.2 hc
                refine lv_iconst (v := 0) hx hb d_M_decode_93 (by decide) ?_
                exact hret _ _ _ _ _ (f_p0_many, f_p0_nibs, f_p0_start) d_M_decode_94 rfl hP hD hS hw
        · have hw := hw.1 hc
          refine lv_iload hx hb d_M_decode_55 (lv_at hl 7 rfl) ?_
          refine lv_iload_n hx hb d_M_decode_57 rfl (lv_at hl 5 rfl) ?_
          refine lv_icmp_ne hx hb d_M_decode_58 rfl (fun hc => ?_) (fun hc => ?_)
          · have hw := hw.2 hc
            refine lv_iconst (v := 0) hx hb d_M_decode_65 (by decide) ?_
            exact hret _ _ _ _ _ (f_p0_many, f_p0_nibs, f_p0_start) d_M_decode_66 rfl hP hD hS hw
          · have hw := hw.1 hc
            refine lv_iconst (v := 1) hx hb d_M_decode_61 (by decide) ?_
            refine lv_goto hx hb d_M_decode_62 rfl ?_
            exact hret _ _ _ _ _ (f_p0_many, f_p0_nibs, f_p0_start) d_M_decode_66 rfl hP hD hS hw
  intro ls hl hP hD hS
  have hl : lv_has ls 11 [(0, .ref a_p0), (1, .int x1), (2, .int x2), (3, .int x3)] := hl
  unfold wp_M_decode at hw
  refine lv_iconst (v := 0) hx hb d_M_decode_0 (by decide) ?_
  refine lv_istore (lv' := [(4, .int 0), (0, .ref a_p0), (1, .int x1), (2, .int x2), (3, .int x3)]) hx hb d_M_decode_1 hl (by decide) rfl (fun ls hl => ?_)
  refine lv_iconst (v := 1) hx hb d_M_decode_3 (by decide) ?_
  refine lv_istore (lv' := [(5, .int 1), (4, .int 0), (0, .ref a_p0), (1, .int x1), (2, .int x2), (3, .int x3)]) hx hb d_M_decode_4 hl (by decide) rfl (fun ls hl => ?_)
  refine lv_iconst (v := 0) hx hb d_M_decode_6 (by decide) ?_
  refine lv_istore (lv' := [(6, .int 0), (5, .int 1), (4, .int 0), (0, .ref a_p0), (1, .int x1), (2, .int x2), (3, .int x3)]) hx hb d_M_decode_7 hl (by decide) rfl (fun ls hl => ?_)
  obtain ⟨n1, hw⟩ := hw
  exact l9 n1 _ _ _ f_p0_many f_p0_nibs f_p0_start x1 x2 x3 0 1 0 hP hD hS (lv_sub hl [3, 4, 5, 6, 2, 1, 0] rfl) hw
theorem d_M_store_0 : decode b_M_store 0 = .ok (.lload_n 3, 1) := by decide +kernel
theorem d_M_store_1 : decode b_M_store 1 = .ok (.lstore 5, 2) := by decide +kernel
theorem d_M_store_3 : decode b_M_store 3 = .ok (.iconst 0, 1) := by decide +kernel
theorem d_M_store_4 : decode b_M_store 4 = .ok (.istore 7, 2) := by decide +kernel
theorem d_M_store_6 : decode b_M_store 6 = .ok (.iload 7, 2) := by decide +kernel
theorem d_M_store_8 : decode b_M_store 8 = .ok (.iload_n 2, 1) := by decide +kernel
theorem d_M_store_9 : decode b_M_store 9 = .ok (.if_icmp .ge 55, 3) := by decide +kernel
theorem d_M_store_12 : decode b_M_store 12 = .ok (.aload_n 0, 1) := by decide +kernel
theorem d_M_store_13 : decode b_M_store 13 = .ok (.getfield 7, 3) := by decide +kernel
theorem d_M_store_16 : decode b_M_store 16 = .ok (.aload_n 0, 1) := by decide +kernel
theorem d_M_store_17 : decode b_M_store 17 = .ok (.getfield 7, 3) := by decide +kernel
theorem d_M_store_20 : decode b_M_store 20 = .ok (.iconst 0, 1) := by decide +kernel
theorem d_M_store_21 : decode b_M_store 21 = .ok (.iaload, 1) := by decide +kernel
theorem d_M_store_22 : decode b_M_store 22 = .ok (.bipush 77, 2) := by decide +kernel
theorem d_M_store_24 : decode b_M_store 24 = .ok (.if_icmp .ne 14, 3) := by decide +kernel
theorem d_M_store_27 : decode b_M_store 27 = .ok (.iload_n 1, 1) := by decide +kernel
theorem d_M_store_28 : decode b_M_store 28 = .ok (.iload_n 2, 1) := by decide +kernel
theorem d_M_store_29 : decode b_M_store 29 = .ok (.iadd, 1) := by decide +kernel
theorem d_M_store_30 : decode b_M_store 30 = .ok (.iconst 1, 1) := by decide +kernel
theorem d_M_store_31 : decode b_M_store 31 = .ok (.isub, 1) := by decide +kernel
theorem d_M_store_32 : decode b_M_store 32 = .ok (.iload 7, 2) := by decide +kernel
theorem d_M_store_34 : decode b_M_store 34 = .ok (.isub, 1) := by decide +kernel
theorem d_M_store_35 : decode b_M_store 35 = .ok (.goto 7, 3) := by decide +kernel
theorem d_M_store_38 : decode b_M_store 38 = .ok (.iload_n 1, 1) := by decide +kernel
theorem d_M_store_39 : decode b_M_store 39 = .ok (.iload 7, 2) := by decide +kernel
theorem d_M_store_41 : decode b_M_store 41 = .ok (.iadd, 1) := by decide +kernel
theorem d_M_store_42 : decode b_M_store 42 = .ok (.lload 5, 2) := by decide +kernel
theorem d_M_store_44 : decode b_M_store 44 = .ok (.ldc2_w 72, 3) := by decide +kernel
theorem d_M_store_47 : decode b_M_store 47 = .ok (.lrem, 1) := by decide +kernel
theorem d_M_store_48 : decode b_M_store 48 = .ok (.l2i, 1) := by decide +kernel
theorem d_M_store_49 : decode b_M_store 49 = .ok (.iastore, 1) := by decide +kernel
theorem d_M_store_50 : decode b_M_store 50 = .ok (.lload 5, 2) := by decide +kernel
theorem d_M_store_52 : decode b_M_store 52 = .ok (.ldc2_w 72, 3) := by decide +kernel
theorem d_M_store_55 : decode b_M_store 55 = .ok (.ldiv, 1) := by decide +kernel
theorem d_M_store_56 : decode b_M_store 56 = .ok (.lstore 5, 2) := by decide +kernel
theorem d_M_store_58 : decode b_M_store 58 = .ok (.iinc 7 1, 3) := by decide +kernel
theorem d_M_store_61 : decode b_M_store 61 = .ok (.goto (-55), 3) := by decide +kernel
theorem d_M_store_64 : decode b_M_store 64 = .ok (.return_, 1) := by decide +kernel
def wp_M_store_b42 (post : (Nat → Int32) → Prop) (k6 : (Nat → Int32) → Int32 → Int32 → Int64 → Int32 → Prop) (I_p0 : Nat → Int32) (f_p0_file : Nat → Int32) (x1 : Int32) (x2 : Int32) (x5 : Int64) (x7 : Int32) (s0 : Int32) : Prop :=
  vp_in s0 2000 ∧
  k6 (upd f_p0_file (s0).toNatClampNeg (x5 - x5 / 256 * 256).toInt32) x1 x2 (x5 / 256) (x7 + 1)
def wp_M_store_l6 (post : (Nat → Int32) → Prop) (I_p0 : Nat → Int32) : Nat → (Nat → Int32) → Int32 → Int32 → Int64 → Int32 → Prop
  | 0, _, _, _, _, _ => False
  | n + 1, f_p0_file, x1, x2, x5, x7 =>
    ((x2 ≤ x7 →
      post f_p0_file) ∧
     (¬ x2 ≤ x7 →
      vp_in 0 2000 ∧
      (((f_p0_file 0) = 77 →
        wp_M_store_b42 post (wp_M_store_l6 post I_p0 n) I_p0 f_p0_file x1 x2 x5 x7 (((x1 + x2) - 1) - x7)) ∧
       (¬ (f_p0_file 0) = 77 →
        wp_M_store_b42 post (wp_M_store_l6 post I_p0 n) I_p0 f_p0_file x1 x2 x5 x7 (x1 + x7)))))
def wp_M_store (post : (Nat → Int32) → Prop) (I_p0 : Nat → Int32) (f_p0_file : Nat → Int32) (x1 : Int32) (x2 : Int32) (x3 : Int64) : Prop :=
  (∃ n1 : Nat, wp_M_store_l6 post I_p0 n1 f_p0_file x1 x2 x3 0)
set_option maxRecDepth 100000 in
set_option maxHeartbeats 4000000 in
theorem c_M_store (l : Launch) (dC : Nat → ClassId) (dI : Nat → Nat → Nat) (cI : ClassId) (a_p0 : Nat) (A_p0 : Nat → Nat) (I_p0 : Nat → Int32) (f_p0_file : Nat → Int32) (x1 : Int32) (x2 : Int32) (x3 : Int64) {post : (Nat → Int32) → Prop} (hw : wp_M_store post I_p0 f_p0_file x1 x2 x3) : gm_v l y_M_store ws_M_store ({ frames := 0, cells := 0, slots := 0, locals := 0 } : Room) (dC, dI) vwCl [(cI, .int)] [.ref a_p0, .int x1, .int x2, .long x3] [oM a_p0 A_p0 I_p0, gz cI (A_p0 0) 2000 f_p0_file] (fun (u : (Nat → Int32)) => [oM a_p0 A_p0 I_p0, gz cI (A_p0 0) 2000 u]) (fun (u : (Nat → Int32)) => post  u) := by
  refine gm_vof (cc := b_M_store) (maxL := 8) (by decide) rfl (Nat.le_of_ble_eq_true rfl) ?_
  intro p e s m args below meth c A Q hx hb hml hown hg hK hN hA hnm hret
  have hown : s.vm.findClass R_M = some m.cls := hown
  have b42 : ∀ (k6 : (Nat → Int32) → Int32 → Int32 → Int64 → Int32 → Prop), (∀ (H : Heap) (locs : List Loc) (ls : Array Slot) (f_p0_file : Nat → Int32) (x1 : Int32) (x2 : Int32) (x5 : Int64) (x7 : Int32), va_P (dC, dI) vwCl [oM a_p0 A_p0 I_p0, gz cI (A_p0 0) 2000 f_p0_file] H → va_D A [oM a_p0 A_p0 I_p0, gz cI (A_p0 0) 2000 f_p0_file] → va_S A s.heap H locs → lv_has ls 8 [(0, .ref a_p0), (1, .int x1), (2, .int x2), (5, .long x5), (7, .int x7)] → k6 f_p0_file x1 x2 x5 x7 → W p l e ({ frames := 0, cells := 0, slots := 0, locals := 0 } : Room) s m args below meth c H locs 0 0 Q (F0 m 6 ls [])) → ∀ (H : Heap) (locs : List Loc) (ls : Array Slot) (f_p0_file : Nat → Int32) (x1 : Int32) (x2 : Int32) (x5 : Int64) (x7 : Int32) (s0 : Int32), va_P (dC, dI) vwCl [oM a_p0 A_p0 I_p0, gz cI (A_p0 0) 2000 f_p0_file] H → va_D A [oM a_p0 A_p0 I_p0, gz cI (A_p0 0) 2000 f_p0_file] → va_S A s.heap H locs → lv_has ls 8 [(0, .ref a_p0), (1, .int x1), (2, .int x2), (5, .long x5), (7, .int x7)] → wp_M_store_b42 post k6 I_p0 f_p0_file x1 x2 x5 x7 s0 → W p l e ({ frames := 0, cells := 0, slots := 0, locals := 0 } : Room) s m args below meth c H locs 0 0 Q (F0 m 42 ls [.int s0, .ref (A_p0 0)]) := by
    intro k6 hk6 H locs ls f_p0_file x1 x2 x5 x7 s0 hP hD hS hl hw
    unfold wp_M_store_b42 at hw
    refine lv_lload hx hb d_M_store_42 (lv_at hl 3 rfl) ?_
    refine lv_ldc2 (v := 256) hx hb hown (hg _ t_905) d_M_store_44 ?_
    refine lv_lrem hx hb d_M_store_47 (by decide) ?_
    refine lv_l2i hx hb d_M_store_48 rfl ?_
    obtain ⟨hin, hw⟩ := hw
    refine va_iast hx hb hK hP hD hS 1 0 rfl rfl hin d_M_store_49 (fun H locs hP hD hS => ?_)
    have hP : va_P (dC, dI) vwCl [oM a_p0 A_p0 I_p0, gz cI (A_p0 0) 2000 (upd f_p0_file (s0).toNatClampNeg (x5 - x5 / 256 * 256).toInt32)] H := hP
    have hD : va_D A [oM a_p0 A_p0 I_p0, gz cI (A_p0 0) 2000 (upd f_p0_file (s0).toNatClampNeg (x5 - x5 / 256 * 256).toInt32)] := hD
    refine lv_lload hx hb d_M_store_50 (lv_at hl 3 rfl) ?_
    refine lv_ldc2 (v := 256) hx hb hown (hg _ t_905) d_M_store_52 ?_
    refine lv_ldiv hx hb d_M_store_55 (by decide) ?_
    refine lv_lstore (lv' := [(5, .long (x5 / 256)), (0, .ref a_p0), (1, .int x1), (2, .int x2), (7, .int x7)]) hx hb d_M_store_56 hl (by decide) rfl (fun ls hl => ?_)
    refine lv_iinc (k := 4) (v := (x7 + 1)) (lv' := [(7, .int (x7 + 1)), (5, .long (x5 / 256)), (0, .ref a_p0), (1, .int x1), (2, .int x2)]) hx hb d_M_store_58 hl rfl (congrArg (fun z => x7 + z) (by decide : Int32.ofInt 1 = 1)) (by decide) rfl (fun ls hl => ?_)
    refine lv_goto hx hb d_M_store_61 rfl ?_
    exact hk6 _ _ _ (upd f_p0_file (s0).toNatClampNeg (x5 - x5 / 256 * 256).toInt32) x1 x2 (x5 / 256) (x7 + 1) hP hD hS (lv_sub hl [2, 3, 4, 1, 0] rfl) hw
  have l6 : ∀ n : Nat, ∀ (H : Heap) (locs : List Loc) (ls : Array Slot) (f_p0_file : Nat → Int32) (x1 : Int32) (x2 : Int32) (x5 : Int64) (x7 : Int32), va_P (dC, dI) vwCl [oM a_p0 A_p0 I_p0, gz cI (A_p0 0) 2000 f_p0_file] H → va_D A [oM a_p0 A_p0 I_p0, gz cI (A_p0 0) 2000 f_p0_file] → va_S A s.heap H locs → lv_has ls 8 [(0, .ref a_p0), (1, .int x1), (2, .int x2), (5, .long x5), (7, .int x7)] → wp_M_store_l6 post I_p0 n f_p0_file x1 x2 x5 x7 → W p l e ({ frames := 0, cells := 0, slots := 0, locals := 0 } : Room) s m args below meth c H locs 0 0 Q (F0 m 6 ls []) := by
    intro n
    induction n with
    | zero => intro H locs ls f_p0_file x1 x2 x5 x7 hP hD hS hl hw; exact hw.elim
    | succ n ih =>
      intro H locs ls f_p0_file x1 x2 x5 x7 hP hD hS hl hw
      unfold wp_M_store_l6 at hw
      refine lv_iload hx hb d_M_store_6 (lv_at hl 4 rfl) ?_
      refine lv_iload_n hx hb d_M_store_8 rfl (lv_at hl 2 rfl) ?_
      refine lv_icmp_ge hx hb d_M_store_9 rfl (fun hc => ?_) (fun hc => ?_)
      · have hw := hw.1 hc
        exact hret _ _ _ _ f_p0_file d_M_store_64 hP hD hS hw
      · have hw := hw.2 hc
        refine lv_aload_n hx hb d_M_store_12 rfl (lv_at hl 0 rfl) ?_
        refine va_get (D := (dC, dI)) (ci := 10) (v := .ref (A_p0 0)) (C := R_M) (T := T_M) (N := 30) hx hb hg in_M hown hK hP 0 rfl rfl 0 (by decide) (hg _ t_758) (fun _ h9 => h9) rfl d_M_store_13 ?_
        refine lv_aload_n hx hb d_M_store_16 rfl (lv_at hl 0 rfl) ?_
        refine va_get (D := (dC, dI)) (ci := 10) (v := .ref (A_p0 0)) (C := R_M) (T := T_M) (N := 30) hx hb hg in_M hown hK hP 0 rfl rfl 0 (by decide) (hg _ t_758) (fun _ h9 => h9) rfl d_M_store_17 ?_
        refine lv_iconst (v := 0) hx hb d_M_store_20 (by decide) ?_
        obtain ⟨hin, hw⟩ := hw
        refine va_iald hx hb hK hP 1 0 rfl rfl hin d_M_store_21 ?_
        refine lv_bipush (v := 77) hx hb d_M_store_22 (by decide) ?_
        refine lv_icmp_ne hx hb d_M_store_24 rfl (fun hc => ?_) (fun hc => ?_)
        · have hw := hw.2 hc
          refine lv_iload_n hx hb d_M_store_38 rfl (lv_at hl 1 rfl) ?_
          refine lv_iload hx hb d_M_store_39 (lv_at hl 4 rfl) ?_
          refine lv_iadd hx hb d_M_store_41 ?_
          exact b42 _ ih _ _ _ f_p0_file x1 x2 x5 x7 (x1 + x7) hP hD hS (lv_sub hl [0, 1, 2, 3, 4] rfl) hw
        · have hw := hw.1 hc
          refine lv_iload_n hx hb d_M_store_27 rfl (lv_at hl 1 rfl) ?_
          refine lv_iload_n hx hb d_M_store_28 rfl (lv_at hl 2 rfl) ?_
          refine lv_iadd hx hb d_M_store_29 ?_
          refine lv_iconst (v := 1) hx hb d_M_store_30 (by decide) ?_
          refine lv_isub hx hb d_M_store_31 ?_
          refine lv_iload hx hb d_M_store_32 (lv_at hl 4 rfl) ?_
          refine lv_isub hx hb d_M_store_34 ?_
          refine lv_goto hx hb d_M_store_35 rfl ?_
          exact b42 _ ih _ _ _ f_p0_file x1 x2 x5 x7 (((x1 + x2) - 1) - x7) hP hD hS (lv_sub hl [0, 1, 2, 3, 4] rfl) hw
  intro ls hl hP hD hS
  have hl : lv_has ls 8 [(0, .ref a_p0), (1, .int x1), (2, .int x2), (3, .long x3)] := hl
  unfold wp_M_store at hw
  refine lv_lload_n hx hb d_M_store_0 rfl (lv_at hl 3 rfl) ?_
  refine lv_lstore (lv' := [(5, .long x3), (0, .ref a_p0), (1, .int x1), (2, .int x2), (3, .long x3)]) hx hb d_M_store_1 hl (by decide) rfl (fun ls hl => ?_)
  refine lv_iconst (v := 0) hx hb d_M_store_3 (by decide) ?_
  refine lv_istore (lv' := [(7, .int 0), (5, .long x3), (0, .ref a_p0), (1, .int x1), (2, .int x2), (3, .long x3)]) hx hb d_M_store_4 hl (by decide) rfl (fun ls hl => ?_)
  obtain ⟨n1, hw⟩ := hw
  exact l6 n1 _ _ _ f_p0_file x1 x2 x3 0 hP hD hS (lv_sub hl [2, 3, 4, 1, 0] rfl) hw
theorem d_M_number_0 : decode b_M_number 0 = .ok (.aload_n 0, 1) := by decide +kernel
theorem d_M_number_1 : decode b_M_number 1 = .ok (.aload_n 0, 1) := by decide +kernel
theorem d_M_number_2 : decode b_M_number 2 = .ok (.getfield 121, 3) := by decide +kernel
theorem d_M_number_5 : decode b_M_number 5 = .ok (.iload_n 1, 1) := by decide +kernel
theorem d_M_number_6 : decode b_M_number 6 = .ok (.lload_n 2, 1) := by decide +kernel
theorem d_M_number_7 : decode b_M_number 7 = .ok (.invokevirtual 124, 3) := by decide +kernel
theorem d_M_number_10 : decode b_M_number 10 = .ok (.aload_n 0, 1) := by decide +kernel
theorem d_M_number_11 : decode b_M_number 11 = .ok (.dup, 1) := by decide +kernel
theorem d_M_number_12 : decode b_M_number 12 = .ok (.getfield 121, 3) := by decide +kernel
theorem d_M_number_15 : decode b_M_number 15 = .ok (.iload_n 1, 1) := by decide +kernel
theorem d_M_number_16 : decode b_M_number 16 = .ok (.iadd, 1) := by decide +kernel
theorem d_M_number_17 : decode b_M_number 17 = .ok (.putfield 121, 3) := by decide +kernel
theorem d_M_number_20 : decode b_M_number 20 = .ok (.return_, 1) := by decide +kernel
def wp_M_number (post : (Nat → Int32) → (Nat → Int32) → Prop) (I_p0 : Nat → Int32) (f_p0_file : Nat → Int32) (x1 : Int32) (x2 : Int64) : Prop :=
  wp_M_store (fun (f_p0_file_7 : Nat → Int32) =>
    post (upd I_p0 2 ((I_p0 2) + x1)) f_p0_file_7) I_p0 f_p0_file (I_p0 2) x1 x2
set_option maxRecDepth 100000 in
set_option maxHeartbeats 4000000 in
theorem c_M_number (l : Launch) (dC : Nat → ClassId) (dI : Nat → Nat → Nat) (cI : ClassId) (a_p0 : Nat) (A_p0 : Nat → Nat) (I_p0 : Nat → Int32) (f_p0_file : Nat → Int32) (x1 : Int32) (x2 : Int64) {post : (Nat → Int32) → (Nat → Int32) → Prop} (hw : wp_M_number post I_p0 f_p0_file x1 x2) : gm_v l y_M_number ws_M_number ({ frames := 1, cells := 0, slots := 0, locals := 27 } : Room) (dC, dI) vwCl [(cI, .int)] [.ref a_p0, .int x1, .long x2] [oM a_p0 A_p0 I_p0, gz cI (A_p0 0) 2000 f_p0_file] (fun (u : (Nat → Int32) × (Nat → Int32)) => [oM a_p0 A_p0 u.1, gz cI (A_p0 0) 2000 u.2]) (fun (u : (Nat → Int32) × (Nat → Int32)) => post  u.1 u.2) := by
  refine gm_vof (cc := b_M_number) (maxL := 4) (by decide) rfl (Nat.le_of_ble_eq_true rfl) ?_
  intro p e s m args below meth c A Q hx hb hml hown hg hK hN hA hnm hret
  have hown : s.vm.findClass R_M = some m.cls := hown
  intro ls hl hP hD hS
  have hl : lv_has ls 4 [(0, .ref a_p0), (1, .int x1), (2, .long x2)] := hl
  unfold wp_M_number at hw
  refine lv_aload_n hx hb d_M_number_0 rfl (lv_at hl 0 rfl) ?_
  refine lv_aload_n hx hb d_M_number_1 rfl (lv_at hl 0 rfl) ?_
  refine va_get (D := (dC, dI)) (ci := 10) (v := .int (I_p0 2)) (C := R_M) (T := T_M) (N := 30) hx hb hg in_M hown hK hP 0 rfl rfl 2 (by decide) (hg _ t_760) (fun _ h9 => h9) rfl d_M_number_2 ?_
  refine lv_iload_n hx hb d_M_number_5 rfl (lv_at hl 1 rfl) ?_
  refine lv_lload_n hx hb d_M_number_6 rfl (lv_at hl 2 rfl) ?_
  refine gc_v (wn := fun u => [oM a_p0 A_p0 I_p0, gz cI (A_p0 0) 2000 u]) (wr := []) (gr_V (As := [.int (I_p0 2), .int x1, .long x2]) (rest := []) ⟨hx, hb, hml, hown, hg⟩ (c_M_store l dC dI cI a_p0 A_p0 I_p0 f_p0_file (I_p0 2) x1 x2 hw _) (cwV 3 hg (gg_V t_996 t_998 t_44 t_71 t_999) rfl rfl rfl (by decide +kernel) ⟨Nat.le_of_ble_eq_true rfl, Nat.le_of_ble_eq_true rfl⟩) hK hN hP hD [0, 1] (by decide) rfl 0 10 rfl rfl rfl rfl hl.1 rfl (Nat.le_of_ble_eq_true rfl) d_M_number_7 ⟨Nat.le_of_ble_eq_true rfl, Nat.le_of_ble_eq_true rfl⟩) rfl rfl hP hD hS hA [0, 1] [] [0, 1] rfl rfl (by decide) (by decide) (by decide) (fun _ => rfl) ?_
  intro f_p0_file_7 H locs hw hP hD hS
  try dsimp only at hw
  have hP : va_P (dC, dI) vwCl [oM a_p0 A_p0 I_p0, gz cI (A_p0 0) 2000 f_p0_file_7] H := hP
  have hD : va_D A [oM a_p0 A_p0 I_p0, gz cI (A_p0 0) 2000 f_p0_file_7] := hD
  refine lv_aload_n hx hb d_M_number_10 rfl (lv_at hl 0 rfl) ?_
  refine lv_dup hx hb d_M_number_11 rfl ?_
  refine va_get (D := (dC, dI)) (ci := 10) (v := .int (I_p0 2)) (C := R_M) (T := T_M) (N := 30) hx hb hg in_M hown hK hP 0 rfl rfl 2 (by decide) (hg _ t_760) (fun _ h9 => h9) rfl d_M_number_12 ?_
  refine lv_iload_n hx hb d_M_number_15 rfl (lv_at hl 1 rfl) ?_
  refine lv_iadd hx hb d_M_number_16 ?_
  refine va_put (D := (dC, dI)) (ci := 10) (v := .int ((I_p0 2) + x1)) (ty := .int) (C := R_M) (T := T_M) (N := 30) hx hb hg in_M t_M tok_M nok_M hown hK hP hD hS 0 rfl rfl 2 (by decide) (hg _ t_760) (fun _ h9 => h9) rfl (by decide +kernel) rfl rfl (Nat.le_of_ble_eq_true rfl) d_M_number_17 (fun H locs hP hD hS => ?_)
  have hP : va_P (dC, dI) vwCl [oM a_p0 A_p0 (upd I_p0 2 ((I_p0 2) + x1)), gz cI (A_p0 0) 2000 f_p0_file_7] H := hP
  have hD : va_D A [oM a_p0 A_p0 (upd I_p0 2 ((I_p0 2) + x1)), gz cI (A_p0 0) 2000 f_p0_file_7] := hD
  exact hret _ _ _ _ ((upd I_p0 2 ((I_p0 2) + x1)), f_p0_file_7) d_M_number_20 hP hD hS hw
theorem d_M_head_0 : decode b_M_head 0 = .ok (.aload_n 0, 1) := by decide +kernel
theorem d_M_head_1 : decode b_M_head 1 = .ok (.iconst 2, 1) := by decide +kernel
theorem d_M_head_2 : decode b_M_head 2 = .ok (.iload_n 1, 1) := by decide +kernel
theorem d_M_head_3 : decode b_M_head 3 = .ok (.i2l, 1) := by decide +kernel
theorem d_M_head_4 : decode b_M_head 4 = .ok (.invokevirtual 161, 3) := by decide +kernel
theorem d_M_head_7 : decode b_M_head 7 = .ok (.aload_n 0, 1) := by decide +kernel
theorem d_M_head_8 : decode b_M_head 8 = .ok (.iconst 2, 1) := by decide +kernel
theorem d_M_head_9 : decode b_M_head 9 = .ok (.iload_n 2, 1) := by decide +kernel
theorem d_M_head_10 : decode b_M_head 10 = .ok (.i2l, 1) := by decide +kernel
theorem d_M_head_11 : decode b_M_head 11 = .ok (.invokevirtual 161, 3) := by decide +kernel
theorem d_M_head_14 : decode b_M_head 14 = .ok (.aload_n 0, 1) := by decide +kernel
theorem d_M_head_15 : decode b_M_head 15 = .ok (.iconst 4, 1) := by decide +kernel
theorem d_M_head_16 : decode b_M_head 16 = .ok (.iload_n 3, 1) := by decide +kernel
theorem d_M_head_17 : decode b_M_head 17 = .ok (.i2l, 1) := by decide +kernel
theorem d_M_head_18 : decode b_M_head 18 = .ok (.invokevirtual 161, 3) := by decide +kernel
theorem d_M_head_21 : decode b_M_head 21 = .ok (.return_, 1) := by decide +kernel
def wp_M_head (post : (Nat → Int32) → (Nat → Int32) → Prop) (I_p0 : Nat → Int32) (f_p0_file : Nat → Int32) (x1 : Int32) (x2 : Int32) (x3 : Int32) : Prop :=
  wp_M_number (fun (I_p0_4 : Nat → Int32) (f_p0_file_4 : Nat → Int32) =>
    wp_M_number (fun (I_p0_11 : Nat → Int32) (f_p0_file_11 : Nat → Int32) =>
      wp_M_number (fun (I_p0_18 : Nat → Int32) (f_p0_file_18 : Nat → Int32) =>
        post I_p0_18 f_p0_file_18) I_p0_11 f_p0_file_11 4 x3.toInt64) I_p0_4 f_p0_file_4 2 x2.toInt64) I_p0 f_p0_file 2 x1.toInt64
set_option maxRecDepth 100000 in
set_option maxHeartbeats 4000000 in
theorem c_M_head (l : Launch) (dC : Nat → ClassId) (dI : Nat → Nat → Nat) (cI : ClassId) (a_p0 : Nat) (A_p0 : Nat → Nat) (I_p0 : Nat → Int32) (f_p0_file : Nat → Int32) (x1 : Int32) (x2 : Int32) (x3 : Int32) {post : (Nat → Int32) → (Nat → Int32) → Prop} (hw : wp_M_head post I_p0 f_p0_file x1 x2 x3) : gm_v l y_M_head ws_M_head ({ frames := 2, cells := 0, slots := 0, locals := 50 } : Room) (dC, dI) vwCl [(cI, .int)] [.ref a_p0, .int x1, .int x2, .int x3] [oM a_p0 A_p0 I_p0, gz cI (A_p0 0) 2000 f_p0_file] (fun (u : (Nat → Int32) × (Nat → Int32)) => [oM a_p0 A_p0 u.1, gz cI (A_p0 0) 2000 u.2]) (fun (u : (Nat → Int32) × (Nat → Int32)) => post  u.1 u.2) := by
  refine gm_vof (cc := b_M_head) (maxL := 4) (by decide) rfl (Nat.le_of_ble_eq_true rfl) ?_
  intro p e s m args below meth c A Q hx hb hml hown hg hK hN hA hnm hret
  have hown : s.vm.findClass R_M = some m.cls := hown
  intro ls hl hP hD hS
  have hl : lv_has ls 4 [(0, .ref a_p0), (1, .int x1), (2, .int x2), (3, .int x3)] := hl
  unfold wp_M_head at hw
  refine lv_aload_n hx hb d_M_head_0 rfl (lv_at hl 0 rfl) ?_
  refine lv_iconst (v := 2) hx hb d_M_head_1 (by decide) ?_
  refine lv_iload_n hx hb d_M_head_2 rfl (lv_at hl 1 rfl) ?_
  refine lv_i2l hx hb d_M_head_3 rfl ?_
  refine gc_v (wn := fun u => [oM a_p0 A_p0 u.1, gz cI (A_p0 0) 2000 u.2]) (wr := []) (gr_V (As := [.int 2, .long x1.toInt64]) (rest := []) ⟨hx, hb, hml, hown, hg⟩ (c_M_number l dC dI cI a_p0 A_p0 I_p0 f_p0_file 2 x1.toInt64 hw _) (cwV 2 hg (gg_V t_992 t_994 t_43 t_71 t_995) rfl rfl rfl (by decide +kernel) ⟨Nat.le_of_ble_eq_true rfl, Nat.le_of_ble_eq_true rfl⟩) hK hN hP hD [0, 1] (by decide) rfl 0 10 rfl rfl rfl rfl hl.1 rfl (Nat.le_of_ble_eq_true rfl) d_M_head_4 ⟨Nat.le_of_ble_eq_true rfl, Nat.le_of_ble_eq_true rfl⟩) rfl rfl hP hD hS hA [0, 1] [] [0, 1] rfl rfl (by decide) (by decide) (by decide) (fun _ => rfl) ?_
  intro u9 H locs hw hP hD hS
  obtain ⟨I_p0_4, f_p0_file_4⟩ := u9
  try dsimp only at hw
  have hP : va_P (dC, dI) vwCl [oM a_p0 A_p0 I_p0_4, gz cI (A_p0 0) 2000 f_p0_file_4] H := hP
  have hD : va_D A [oM a_p0 A_p0 I_p0_4, gz cI (A_p0 0) 2000 f_p0_file_4] := hD
  refine lv_aload_n hx hb d_M_head_7 rfl (lv_at hl 0 rfl) ?_
  refine lv_iconst (v := 2) hx hb d_M_head_8 (by decide) ?_
  refine lv_iload_n hx hb d_M_head_9 rfl (lv_at hl 2 rfl) ?_
  refine lv_i2l hx hb d_M_head_10 rfl ?_
  refine gc_v (wn := fun u => [oM a_p0 A_p0 u.1, gz cI (A_p0 0) 2000 u.2]) (wr := []) (gr_V (As := [.int 2, .long x2.toInt64]) (rest := []) ⟨hx, hb, hml, hown, hg⟩ (c_M_number l dC dI cI a_p0 A_p0 I_p0_4 f_p0_file_4 2 x2.toInt64 hw _) (cwV 2 hg (gg_V t_992 t_994 t_43 t_71 t_995) rfl rfl rfl (by decide +kernel) ⟨Nat.le_of_ble_eq_true rfl, Nat.le_of_ble_eq_true rfl⟩) hK hN hP hD [0, 1] (by decide) rfl 0 10 rfl rfl rfl rfl hl.1 rfl (Nat.le_of_ble_eq_true rfl) d_M_head_11 ⟨Nat.le_of_ble_eq_true rfl, Nat.le_of_ble_eq_true rfl⟩) rfl rfl hP hD hS hA [0, 1] [] [0, 1] rfl rfl (by decide) (by decide) (by decide) (fun _ => rfl) ?_
  intro u9 H locs hw hP hD hS
  obtain ⟨I_p0_11, f_p0_file_11⟩ := u9
  try dsimp only at hw
  have hP : va_P (dC, dI) vwCl [oM a_p0 A_p0 I_p0_11, gz cI (A_p0 0) 2000 f_p0_file_11] H := hP
  have hD : va_D A [oM a_p0 A_p0 I_p0_11, gz cI (A_p0 0) 2000 f_p0_file_11] := hD
  refine lv_aload_n hx hb d_M_head_14 rfl (lv_at hl 0 rfl) ?_
  refine lv_iconst (v := 4) hx hb d_M_head_15 (by decide) ?_
  refine lv_iload_n hx hb d_M_head_16 rfl (lv_at hl 3 rfl) ?_
  refine lv_i2l hx hb d_M_head_17 rfl ?_
  refine gc_v (wn := fun u => [oM a_p0 A_p0 u.1, gz cI (A_p0 0) 2000 u.2]) (wr := []) (gr_V (As := [.int 4, .long x3.toInt64]) (rest := []) ⟨hx, hb, hml, hown, hg⟩ (c_M_number l dC dI cI a_p0 A_p0 I_p0_11 f_p0_file_11 4 x3.toInt64 hw _) (cwV 2 hg (gg_V t_992 t_994 t_43 t_71 t_995) rfl rfl rfl (by decide +kernel) ⟨Nat.le_of_ble_eq_true rfl, Nat.le_of_ble_eq_true rfl⟩) hK hN hP hD [0, 1] (by decide) rfl 0 10 rfl rfl rfl rfl hl.1 rfl (Nat.le_of_ble_eq_true rfl) d_M_head_18 ⟨Nat.le_of_ble_eq_true rfl, Nat.le_of_ble_eq_true rfl⟩) rfl rfl hP hD hS hA [0, 1] [] [0, 1] rfl rfl (by decide) (by decide) (by decide) (fun _ => rfl) ?_
  intro u9 H locs hw hP hD hS
  obtain ⟨I_p0_18, f_p0_file_18⟩ := u9
  try dsimp only at hw
  have hP : va_P (dC, dI) vwCl [oM a_p0 A_p0 I_p0_18, gz cI (A_p0 0) 2000 f_p0_file_18] H := hP
  have hD : va_D A [oM a_p0 A_p0 I_p0_18, gz cI (A_p0 0) 2000 f_p0_file_18] := hD
  exact hret _ _ _ _ (I_p0_18, f_p0_file_18) d_M_head_21 hP hD hS hw
theorem d_M_small_0 : decode b_M_small 0 = .ok (.aload_n 0, 1) := by decide +kernel
theorem d_M_small_1 : decode b_M_small 1 = .ok (.iload_n 1, 1) := by decide +kernel
theorem d_M_small_2 : decode b_M_small 2 = .ok (.iconst 3, 1) := by decide +kernel
theorem d_M_small_3 : decode b_M_small 3 = .ok (.iconst 1, 1) := by decide +kernel
theorem d_M_small_4 : decode b_M_small 4 = .ok (.invokevirtual 165, 3) := by decide +kernel
theorem d_M_small_7 : decode b_M_small 7 = .ok (.aload_n 0, 1) := by decide +kernel
theorem d_M_small_8 : decode b_M_small 8 = .ok (.iconst 2, 1) := by decide +kernel
theorem d_M_small_9 : decode b_M_small 9 = .ok (.iload_n 2, 1) := by decide +kernel
theorem d_M_small_10 : decode b_M_small 10 = .ok (.i2l, 1) := by decide +kernel
theorem d_M_small_11 : decode b_M_small 11 = .ok (.invokevirtual 161, 3) := by decide +kernel
theorem d_M_small_14 : decode b_M_small 14 = .ok (.aload_n 0, 1) := by decide +kernel
theorem d_M_small_15 : decode b_M_small 15 = .ok (.iconst 2, 1) := by decide +kernel
theorem d_M_small_16 : decode b_M_small 16 = .ok (.lconst 0, 1) := by decide +kernel
theorem d_M_small_17 : decode b_M_small 17 = .ok (.invokevirtual 161, 3) := by decide +kernel
theorem d_M_small_20 : decode b_M_small 20 = .ok (.return_, 1) := by decide +kernel
def wp_M_small (post : (Nat → Int32) → (Nat → Int32) → Prop) (I_p0 : Nat → Int32) (f_p0_file : Nat → Int32) (x1 : Int32) (x2 : Int32) : Prop :=
  wp_M_head (fun (I_p0_4 : Nat → Int32) (f_p0_file_4 : Nat → Int32) =>
    wp_M_number (fun (I_p0_11 : Nat → Int32) (f_p0_file_11 : Nat → Int32) =>
      wp_M_number (fun (I_p0_17 : Nat → Int32) (f_p0_file_17 : Nat → Int32) =>
        post I_p0_17 f_p0_file_17) I_p0_11 f_p0_file_11 2 0) I_p0_4 f_p0_file_4 2 x2.toInt64) I_p0 f_p0_file x1 3 1
set_option maxRecDepth 100000 in
set_option maxHeartbeats 4000000 in
theorem c_M_small (l : Launch) (dC : Nat → ClassId) (dI : Nat → Nat → Nat) (cI : ClassId) (a_p0 : Nat) (A_p0 : Nat → Nat) (I_p0 : Nat → Int32) (f_p0_file : Nat → Int32) (x1 : Int32) (x2 : Int32) {post : (Nat → Int32) → (Nat → Int32) → Prop} (hw : wp_M_small post I_p0 f_p0_file x1 x2) : gm_v l y_M_small ws_M_small ({ frames := 3, cells := 0, slots := 0, locals := 73 } : Room) (dC, dI) vwCl [(cI, .int)] [.ref a_p0, .int x1, .int x2] [oM a_p0 A_p0 I_p0, gz cI (A_p0 0) 2000 f_p0_file] (fun (u : (Nat → Int32) × (Nat → Int32)) => [oM a_p0 A_p0 u.1, gz cI (A_p0 0) 2000 u.2]) (fun (u : (Nat → Int32) × (Nat → Int32)) => post  u.1 u.2) := by
  refine gm_vof (cc := b_M_small) (maxL := 3) (by decide) rfl (Nat.le_of_ble_eq_true rfl) ?_
  intro p e s m args below meth c A Q hx hb hml hown hg hK hN hA hnm hret
  have hown : s.vm.findClass R_M = some m.cls := hown
  intro ls hl hP hD hS
  have hl : lv_has ls 3 [(0, .ref a_p0), (1, .int x1), (2, .int x2)] := hl
  unfold wp_M_small at hw
  refine lv_aload_n hx hb d_M_small_0 rfl (lv_at hl 0 rfl) ?_
  refine lv_iload_n hx hb d_M_small_1 rfl (lv_at hl 1 rfl) ?_
  refine lv_iconst (v := 3) hx hb d_M_small_2 (by decide) ?_
  refine lv_iconst (v := 1) hx hb d_M_small_3 (by decide) ?_
  refine gc_v (wn := fun u => [oM a_p0 A_p0 u.1, gz cI (A_p0 0) 2000 u.2]) (wr := []) (gr_V (As := [.int x1, .int 3, .int 1]) (rest := []) ⟨hx, hb, hml, hown, hg⟩ (c_M_head l dC dI cI a_p0 A_p0 I_p0 f_p0_file x1 3 1 hw _) (cwV 3 hg (gg_V t_1012 t_1014 t_48 t_71 t_1015) rfl rfl rfl (by decide +kernel) ⟨Nat.le_of_ble_eq_true rfl, Nat.le_of_ble_eq_true rfl⟩) hK hN hP hD [0, 1] (by decide) rfl 0 10 rfl rfl rfl rfl hl.1 rfl (Nat.le_of_ble_eq_true rfl) d_M_small_4 ⟨Nat.le_of_ble_eq_true rfl, Nat.le_of_ble_eq_true rfl⟩) rfl rfl hP hD hS hA [0, 1] [] [0, 1] rfl rfl (by decide) (by decide) (by decide) (fun _ => rfl) ?_
  intro u9 H locs hw hP hD hS
  obtain ⟨I_p0_4, f_p0_file_4⟩ := u9
  try dsimp only at hw
  have hP : va_P (dC, dI) vwCl [oM a_p0 A_p0 I_p0_4, gz cI (A_p0 0) 2000 f_p0_file_4] H := hP
  have hD : va_D A [oM a_p0 A_p0 I_p0_4, gz cI (A_p0 0) 2000 f_p0_file_4] := hD
  refine lv_aload_n hx hb d_M_small_7 rfl (lv_at hl 0 rfl) ?_
  refine lv_iconst (v := 2) hx hb d_M_small_8 (by decide) ?_
  refine lv_iload_n hx hb d_M_small_9 rfl (lv_at hl 2 rfl) ?_
  refine lv_i2l hx hb d_M_small_10 rfl ?_
  refine gc_v (wn := fun u => [oM a_p0 A_p0 u.1, gz cI (A_p0 0) 2000 u.2]) (wr := []) (gr_V (As := [.int 2, .long x2.toInt64]) (rest := []) ⟨hx, hb, hml, hown, hg⟩ (c_M_number l dC dI cI a_p0 A_p0 I_p0_4 f_p0_file_4 2 x2.toInt64 hw _) (cwV 2 hg (gg_V t_992 t_994 t_43 t_71 t_995) rfl rfl rfl (by decide +kernel) ⟨Nat.le_of_ble_eq_true rfl, Nat.le_of_ble_eq_true rfl⟩) hK hN hP hD [0, 1] (by decide) rfl 0 10 rfl rfl rfl rfl hl.1 rfl (Nat.le_of_ble_eq_true rfl) d_M_small_11 ⟨Nat.le_of_ble_eq_true rfl, Nat.le_of_ble_eq_true rfl⟩) rfl rfl hP hD hS hA [0, 1] [] [0, 1] rfl rfl (by decide) (by decide) (by decide) (fun _ => rfl) ?_
  intro u9 H locs hw hP hD hS
  obtain ⟨I_p0_11, f_p0_file_11⟩ := u9
  try dsimp only at hw
  have hP : va_P (dC, dI) vwCl [oM a_p0 A_p0 I_p0_11, gz cI (A_p0 0) 2000 f_p0_file_11] H := hP
  have hD : va_D A [oM a_p0 A_p0 I_p0_11, gz cI (A_p0 0) 2000 f_p0_file_11] := hD
  refine lv_aload_n hx hb d_M_small_14 rfl (lv_at hl 0 rfl) ?_
  refine lv_iconst (v := 2) hx hb d_M_small_15 (by decide) ?_
  refine lv_lconst (v := 0) hx hb d_M_small_16 (by decide) ?_
  refine gc_v (wn := fun u => [oM a_p0 A_p0 u.1, gz cI (A_p0 0) 2000 u.2]) (wr := []) (gr_V (As := [.int 2, .long 0]) (rest := []) ⟨hx, hb, hml, hown, hg⟩ (c_M_number l dC dI cI a_p0 A_p0 I_p0_11 f_p0_file_11 2 0 hw _) (cwV 2 hg (gg_V t_992 t_994 t_43 t_71 t_995) rfl rfl rfl (by decide +kernel) ⟨Nat.le_of_ble_eq_true rfl, Nat.le_of_ble_eq_true rfl⟩) hK hN hP hD [0, 1] (by decide) rfl 0 10 rfl rfl rfl rfl hl.1 rfl (Nat.le_of_ble_eq_true rfl) d_M_small_17 ⟨Nat.le_of_ble_eq_true rfl, Nat.le_of_ble_eq_true rfl⟩) rfl rfl hP hD hS hA [0, 1] [] [0, 1] rfl rfl (by decide) (by decide) (by decide) (fun _ => rfl) ?_
  intro u9 H locs hw hP hD hS
  obtain ⟨I_p0_17, f_p0_file_17⟩ := u9
  try dsimp only at hw
  have hP : va_P (dC, dI) vwCl [oM a_p0 A_p0 I_p0_17, gz cI (A_p0 0) 2000 f_p0_file_17] H := hP
  have hD : va_D A [oM a_p0 A_p0 I_p0_17, gz cI (A_p0 0) 2000 f_p0_file_17] := hD
  exact hret _ _ _ _ (I_p0_17, f_p0_file_17) d_M_small_20 hP hD hS hw
theorem d_M_text_0 : decode b_M_text 0 = .ok (.iconst 0, 1) := by decide +kernel
theorem d_M_text_1 : decode b_M_text 1 = .ok (.istore_n 2, 1) := by decide +kernel
theorem d_M_text_2 : decode b_M_text 2 = .ok (.iload_n 2, 1) := by decide +kernel
theorem d_M_text_3 : decode b_M_text 3 = .ok (.aload_n 0, 1) := by decide +kernel
theorem d_M_text_4 : decode b_M_text 4 = .ok (.getfield 29, 3) := by decide +kernel
theorem d_M_text_7 : decode b_M_text 7 = .ok (.iload_n 1, 1) := by decide +kernel
theorem d_M_text_8 : decode b_M_text 8 = .ok (.iaload, 1) := by decide +kernel
theorem d_M_text_9 : decode b_M_text 9 = .ok (.if_icmp .ge 24, 3) := by decide +kernel
theorem d_M_text_12 : decode b_M_text 12 = .ok (.aload_n 0, 1) := by decide +kernel
theorem d_M_text_13 : decode b_M_text 13 = .ok (.aload_n 0, 1) := by decide +kernel
theorem d_M_text_14 : decode b_M_text 14 = .ok (.getfield 32, 3) := by decide +kernel
theorem d_M_text_17 : decode b_M_text 17 = .ok (.bipush 12, 2) := by decide +kernel
theorem d_M_text_19 : decode b_M_text 19 = .ok (.iload_n 1, 1) := by decide +kernel
theorem d_M_text_20 : decode b_M_text 20 = .ok (.imul, 1) := by decide +kernel
theorem d_M_text_21 : decode b_M_text 21 = .ok (.iload_n 2, 1) := by decide +kernel
theorem d_M_text_22 : decode b_M_text 22 = .ok (.iadd, 1) := by decide +kernel
theorem d_M_text_23 : decode b_M_text 23 = .ok (.iaload, 1) := by decide +kernel
theorem d_M_text_24 : decode b_M_text 24 = .ok (.invokevirtual 128, 3) := by decide +kernel
theorem d_M_text_27 : decode b_M_text 27 = .ok (.iinc 2 1, 3) := by decide +kernel
theorem d_M_text_30 : decode b_M_text 30 = .ok (.goto (-28), 3) := by decide +kernel
theorem d_M_text_33 : decode b_M_text 33 = .ok (.aload_n 0, 1) := by decide +kernel
theorem d_M_text_34 : decode b_M_text 34 = .ok (.iconst 0, 1) := by decide +kernel
theorem d_M_text_35 : decode b_M_text 35 = .ok (.invokevirtual 128, 3) := by decide +kernel
theorem d_M_text_38 : decode b_M_text 38 = .ok (.return_, 1) := by decide +kernel
def wp_M_text_l2 (post : (Nat → Int32) → (Nat → Int32) → Prop) (f_p0_lengths : Nat → Int32) (f_p0_letters : Nat → Int32) : Nat → (Nat → Int32) → (Nat → Int32) → Int32 → Int32 → Prop
  | 0, _, _, _, _ => False
  | n + 1, I_p0, f_p0_file, x1, x2 =>
    vp_in x1 2 ∧
    (((f_p0_lengths (x1).toNatClampNeg) ≤ x2 →
      wp_M_put (fun (I_p0_35 : Nat → Int32) (f_p0_file_35 : Nat → Int32) =>
        post I_p0_35 f_p0_file_35) I_p0 f_p0_file 0) ∧
     (¬ (f_p0_lengths (x1).toNatClampNeg) ≤ x2 →
      vp_in ((12 * x1) + x2) 24 ∧
      wp_M_put (fun (I_p0_24 : Nat → Int32) (f_p0_file_24 : Nat → Int32) =>
        wp_M_text_l2 post f_p0_lengths f_p0_letters n I_p0_24 f_p0_file_24 x1 (x2 + 1)) I_p0 f_p0_file (f_p0_letters ((12 * x1) + x2).toNatClampNeg)))
def wp_M_text (post : (Nat → Int32) → (Nat → Int32) → Prop) (f_p0_lengths : Nat → Int32) (f_p0_letters : Nat → Int32) (I_p0 : Nat → Int32) (f_p0_file : Nat → Int32) (x1 : Int32) : Prop :=
  (∃ n1 : Nat, wp_M_text_l2 post f_p0_lengths f_p0_letters n1 I_p0 f_p0_file x1 0)
set_option maxRecDepth 100000 in
set_option maxHeartbeats 4000000 in
theorem c_M_text (l : Launch) (dC : Nat → ClassId) (dI : Nat → Nat → Nat) (cI : ClassId) (a_p0 : Nat) (A_p0 : Nat → Nat) (f_p0_lengths : Nat → Int32) (f_p0_letters : Nat → Int32) (I_p0 : Nat → Int32) (f_p0_file : Nat → Int32) (x1 : Int32) {post : (Nat → Int32) → (Nat → Int32) → Prop} (hw : wp_M_text post f_p0_lengths f_p0_letters I_p0 f_p0_file x1) : gm_v l y_M_text ws_M_text ({ frames := 1, cells := 0, slots := 0, locals := 21 } : Room) (dC, dI) vwCl [(cI, .int)] [.ref a_p0, .int x1] [oM a_p0 A_p0 I_p0, gz cI (A_p0 0) 2000 f_p0_file, gz cI (A_p0 9) 2 f_p0_lengths, gz cI (A_p0 10) 24 f_p0_letters] (fun (u : (Nat → Int32) × (Nat → Int32)) => [oM a_p0 A_p0 u.1, gz cI (A_p0 0) 2000 u.2, gz cI (A_p0 9) 2 f_p0_lengths, gz cI (A_p0 10) 24 f_p0_letters]) (fun (u : (Nat → Int32) × (Nat → Int32)) => post  u.1 u.2) := by
  refine gm_vof (cc := b_M_text) (maxL := 3) (by decide) rfl (Nat.le_of_ble_eq_true rfl) ?_
  intro p e s m args below meth c A Q hx hb hml hown hg hK hN hA hnm hret
  have hown : s.vm.findClass R_M = some m.cls := hown
  have l2 : ∀ n : Nat, ∀ (H : Heap) (locs : List Loc) (ls : Array Slot) (I_p0 : Nat → Int32) (f_p0_file : Nat → Int32) (x1 : Int32) (x2 : Int32), va_P (dC, dI) vwCl [oM a_p0 A_p0 I_p0, gz cI (A_p0 0) 2000 f_p0_file, gz cI (A_p0 9) 2 f_p0_lengths, gz cI (A_p0 10) 24 f_p0_letters] H → va_D A [oM a_p0 A_p0 I_p0, gz cI (A_p0 0) 2000 f_p0_file, gz cI (A_p0 9) 2 f_p0_lengths, gz cI (A_p0 10) 24 f_p0_letters] → va_S A s.heap H locs → lv_has ls 3 [(0, .ref a_p0), (1, .int x1), (2, .int x2)] → wp_M_text_l2 post f_p0_lengths f_p0_letters n I_p0 f_p0_file x1 x2 → W p l e ({ frames := 1, cells := 0, slots := 0, locals := 21 } : Room) s m args below meth c H locs 0 0 Q (F0 m 2 ls []) := by
    intro n
    induction n with
    | zero => intro H locs ls I_p0 f_p0_file x1 x2 hP hD hS hl hw; exact hw.elim
    | succ n ih =>
      intro H locs ls I_p0 f_p0_file x1 x2 hP hD hS hl hw
      unfold wp_M_text_l2 at hw
      refine lv_iload_n hx hb d_M_text_2 rfl (lv_at hl 2 rfl) ?_
      refine lv_aload_n hx hb d_M_text_3 rfl (lv_at hl 0 rfl) ?_
      refine va_get (D := (dC, dI)) (ci := 10) (v := .ref (A_p0 9)) (C := R_M) (T := T_M) (N := 30) hx hb hg in_M hown hK hP 0 rfl rfl 9 (by decide) (hg _ t_767) (fun _ h9 => h9) rfl d_M_text_4 ?_
      refine lv_iload_n hx hb d_M_text_7 rfl (lv_at hl 1 rfl) ?_
      obtain ⟨hin, hw⟩ := hw
      refine va_iald hx hb hK hP 2 0 rfl rfl hin d_M_text_8 ?_
      refine lv_icmp_ge hx hb d_M_text_9 rfl (fun hc => ?_) (fun hc => ?_)
      · have hw := hw.1 hc
        refine lv_aload_n hx hb d_M_text_33 rfl (lv_at hl 0 rfl) ?_
        refine lv_iconst (v := 0) hx hb d_M_text_34 (by decide) ?_
        refine gc_v (wn := fun u => [oM a_p0 A_p0 u.1, gz cI (A_p0 0) 2000 u.2, gz cI (A_p0 9) 2 f_p0_lengths, gz cI (A_p0 10) 24 f_p0_letters]) (wr := [gz cI (A_p0 9) 2 f_p0_lengths, gz cI (A_p0 10) 24 f_p0_letters]) (gr_V (As := [.int 0]) (rest := []) ⟨hx, hb, hml, hown, hg⟩ (c_M_put l dC dI cI a_p0 A_p0 I_p0 f_p0_file 0 hw _) (cwV 1 hg (gg_V t_954 t_956 t_35 t_71 t_957) rfl rfl rfl (by decide +kernel) ⟨Nat.le_of_ble_eq_true rfl, Nat.le_of_ble_eq_true rfl⟩) hK hN hP hD [0, 1] (by decide) rfl 0 10 rfl rfl rfl rfl hl.1 rfl (Nat.le_of_ble_eq_true rfl) d_M_text_35 ⟨Nat.le_of_ble_eq_true rfl, Nat.le_of_ble_eq_true rfl⟩) rfl rfl hP hD hS hA [0, 1] [2, 3] [2, 3, 0, 1] rfl rfl (by decide) (by decide) (by decide) (fun _ => rfl) ?_
        intro u9 H locs hw hP hD hS
        obtain ⟨I_p0_35, f_p0_file_35⟩ := u9
        try dsimp only at hw
        have hP : va_P (dC, dI) vwCl [oM a_p0 A_p0 I_p0_35, gz cI (A_p0 0) 2000 f_p0_file_35, gz cI (A_p0 9) 2 f_p0_lengths, gz cI (A_p0 10) 24 f_p0_letters] H := hP
        have hD : va_D A [oM a_p0 A_p0 I_p0_35, gz cI (A_p0 0) 2000 f_p0_file_35, gz cI (A_p0 9) 2 f_p0_lengths, gz cI (A_p0 10) 24 f_p0_letters] := hD
        exact hret _ _ _ _ (I_p0_35, f_p0_file_35) d_M_text_38 hP hD hS hw
      · have hw := hw.2 hc
        refine lv_aload_n hx hb d_M_text_12 rfl (lv_at hl 0 rfl) ?_
        refine lv_aload_n hx hb d_M_text_13 rfl (lv_at hl 0 rfl) ?_
        refine va_get (D := (dC, dI)) (ci := 10) (v := .ref (A_p0 10)) (C := R_M) (T := T_M) (N := 30) hx hb hg in_M hown hK hP 0 rfl rfl 10 (by decide) (hg _ t_768) (fun _ h9 => h9) rfl d_M_text_14 ?_
        refine lv_bipush (v := 12) hx hb d_M_text_17 (by decide) ?_
        refine lv_iload_n hx hb d_M_text_19 rfl (lv_at hl 1 rfl) ?_
        refine lv_imul hx hb d_M_text_20 ?_
        refine lv_iload_n hx hb d_M_text_21 rfl (lv_at hl 2 rfl) ?_
        refine lv_iadd hx hb d_M_text_22 ?_
        obtain ⟨hin, hw⟩ := hw
        refine va_iald hx hb hK hP 3 0 rfl rfl hin d_M_text_23 ?_
        refine gc_v (wn := fun u => [oM a_p0 A_p0 u.1, gz cI (A_p0 0) 2000 u.2, gz cI (A_p0 9) 2 f_p0_lengths, gz cI (A_p0 10) 24 f_p0_letters]) (wr := [gz cI (A_p0 9) 2 f_p0_lengths, gz cI (A_p0 10) 24 f_p0_letters]) (gr_V (As := [.int (f_p0_letters ((12 * x1) + x2).toNatClampNeg)]) (rest := []) ⟨hx, hb, hml, hown, hg⟩ (c_M_put l dC dI cI a_p0 A_p0 I_p0 f_p0_file (f_p0_letters ((12 * x1) + x2).toNatClampNeg) hw _) (cwV 1 hg (gg_V t_954 t_956 t_35 t_71 t_957) rfl rfl rfl (by decide +kernel) ⟨Nat.le_of_ble_eq_true rfl, Nat.le_of_ble_eq_true rfl⟩) hK hN hP hD [0, 1] (by decide) rfl 0 10 rfl rfl rfl rfl hl.1 rfl (Nat.le_of_ble_eq_true rfl) d_M_text_24 ⟨Nat.le_of_ble_eq_true rfl, Nat.le_of_ble_eq_true rfl⟩) rfl rfl hP hD hS hA [0, 1] [2, 3] [2, 3, 0, 1] rfl rfl (by decide) (by decide) (by decide) (fun _ => rfl) ?_
        intro u9 H locs hw hP hD hS
        obtain ⟨I_p0_24, f_p0_file_24⟩ := u9
        try dsimp only at hw
        have hP : va_P (dC, dI) vwCl [oM a_p0 A_p0 I_p0_24, gz cI (A_p0 0) 2000 f_p0_file_24, gz cI (A_p0 9) 2 f_p0_lengths, gz cI (A_p0 10) 24 f_p0_letters] H := hP
        have hD : va_D A [oM a_p0 A_p0 I_p0_24, gz cI (A_p0 0) 2000 f_p0_file_24, gz cI (A_p0 9) 2 f_p0_lengths, gz cI (A_p0 10) 24 f_p0_letters] := hD
        refine lv_iinc (k := 2) (v := (x2 + 1)) (lv' := [(2, .int (x2 + 1)), (0, .ref a_p0), (1, .int x1)]) hx hb d_M_text_27 hl rfl (congrArg (fun z => x2 + z) (by decide : Int32.ofInt 1 = 1)) (by decide) rfl (fun ls hl => ?_)
        refine lv_goto hx hb d_M_text_30 rfl ?_
        exact ih _ _ _ I_p0_24 f_p0_file_24 x1 (x2 + 1) hP hD hS (lv_sub hl [1, 2, 0] rfl) hw
  intro ls hl hP hD hS
  have hl : lv_has ls 3 [(0, .ref a_p0), (1, .int x1)] := hl
  unfold wp_M_text at hw
  refine lv_iconst (v := 0) hx hb d_M_text_0 (by decide) ?_
  refine lv_istore_n (lv' := [(2, .int 0), (0, .ref a_p0), (1, .int x1)]) hx hb d_M_text_1 rfl hl (by decide) rfl (fun ls hl => ?_)
  obtain ⟨n1, hw⟩ := hw
  exact l2 n1 _ _ _ I_p0 f_p0_file x1 0 hP hD hS (lv_sub hl [1, 2, 0] rfl) hw
